abbrev rX1_put : Room := { frames := 0, cells := 0, slots := 0, locals := 0 }
theorem dX1_put_0 : decode cX1_put 0 = .ok (.aload_n 0, 1) := by decide +kernel
theorem dX1_put_1 : decode cX1_put 1 = .ok (.getfield 28, 3) := by decide +kernel
theorem dX1_put_4 : decode cX1_put 4 = .ok (.bipush 64, 2) := by decide +kernel
theorem dX1_put_6 : decode cX1_put 6 = .ok (.if_icmp .ge 33, 3) := by decide +kernel
theorem dX1_put_9 : decode cX1_put 9 = .ok (.aload_n 0, 1) := by decide +kernel
theorem dX1_put_10 : decode cX1_put 10 = .ok (.getfield 22, 3) := by decide +kernel
theorem dX1_put_13 : decode cX1_put 13 = .ok (.aload_n 0, 1) := by decide +kernel
theorem dX1_put_14 : decode cX1_put 14 = .ok (.getfield 28, 3) := by decide +kernel
theorem dX1_put_17 : decode cX1_put 17 = .ok (.iload_n 1, 1) := by decide +kernel
theorem dX1_put_18 : decode cX1_put 18 = .ok (.iastore, 1) := by decide +kernel
theorem dX1_put_19 : decode cX1_put 19 = .ok (.aload_n 0, 1) := by decide +kernel
theorem dX1_put_20 : decode cX1_put 20 = .ok (.getfield 25, 3) := by decide +kernel
theorem dX1_put_23 : decode cX1_put 23 = .ok (.aload_n 0, 1) := by decide +kernel
theorem dX1_put_24 : decode cX1_put 24 = .ok (.getfield 28, 3) := by decide +kernel
theorem dX1_put_27 : decode cX1_put 27 = .ok (.iload_n 2, 1) := by decide +kernel
theorem dX1_put_28 : decode cX1_put 28 = .ok (.iastore, 1) := by decide +kernel
theorem dX1_put_29 : decode cX1_put 29 = .ok (.aload_n 0, 1) := by decide +kernel
theorem dX1_put_30 : decode cX1_put 30 = .ok (.dup, 1) := by decide +kernel
theorem dX1_put_31 : decode cX1_put 31 = .ok (.getfield 28, 3) := by decide +kernel
theorem dX1_put_34 : decode cX1_put 34 = .ok (.iconst 1, 1) := by decide +kernel
theorem dX1_put_35 : decode cX1_put 35 = .ok (.iadd, 1) := by decide +kernel
theorem dX1_put_36 : decode cX1_put 36 = .ok (.putfield 28, 3) := by decide +kernel
theorem dX1_put_39 : decode cX1_put 39 = .ok (.return_, 1) := by decide +kernel
set_option maxRecDepth 100000 in
set_option maxHeartbeats 4000000 in
theorem kX1_put (l : Launch) (D : va_G) (ad : Nat → Nat) (cI cJ : ClassId) (tP tR : Nat) (M : Mem) (a1 : Int32) (a2 : Int32)  (o : Mem) (h : fX1_put M a1 a2 = some o) : qMet l D cI cJ tP tR (xA ad) (xW ad cI cJ) yX1_put cX1_put 3 none rX1_put [.ref (ad 11), .int a1, .int a2] M (qQv D (xA ad) (xW ad cI cJ) o) := by
  refine rs_enterV (own := RX1) ⟨by decide +kernel, rfl, Nat.le_of_ble_eq_true rfl⟩ ?_
  intro p e s m args below meth c Q C hret H locs ls hP hS hl
  obtain ⟨hx, hb, -⟩ := id C
  have hl : lv_has ls 3 [(0, .ref (ad 11)), (1, .int a1), (2, .int a2)] := hl
  unfold fX1_put at h
  refine lv_aload_n hx hb dX1_put_0 rfl (lv_at hl 0 rfl) ?_
  refine gfX1_28 C hP dX1_put_1 ?_
  refine lv_bipush (v := (64 : Int32)) hx hb dX1_put_4 (by decide) ?_
  refine lv_icmp_ge (tgt := 39) hx hb dX1_put_6 (by decide) (fun cd => ?_) (fun cd => ?_)
  · have h := (if_pos cd).symm.trans h
    cases h
    exact hret H locs _ ls hP hS dX1_put_39
  · have h := (if_neg cd).symm.trans h
    refine lv_aload_n hx hb dX1_put_9 rfl (lv_at hl 0 rfl) ?_
    refine gfX1_22 C hP dX1_put_10 ?_
    refine lv_aload_n hx hb dX1_put_13 rfl (lv_at hl 0 rfl) ?_
    refine gfX1_28 C hP dX1_put_14 ?_
    refine lv_iload_n hx hb dX1_put_17 rfl (lv_at hl 1 rfl) ?_
    refine rs_iast C hP hS xIA_14 dX1_put_18 h (fun M1 h H locs hP hS => ?_)
    refine lv_aload_n hx hb dX1_put_19 rfl (lv_at hl 0 rfl) ?_
    refine gfX1_25 C hP dX1_put_20 ?_
    refine lv_aload_n hx hb dX1_put_23 rfl (lv_at hl 0 rfl) ?_
    refine gfX1_28 C hP dX1_put_24 ?_
    refine lv_iload_n hx hb dX1_put_27 rfl (lv_at hl 2 rfl) ?_
    refine rs_iast C hP hS xIA_15 dX1_put_28 h (fun M2 h H locs hP hS => ?_)
    refine lv_aload_n hx hb dX1_put_29 rfl (lv_at hl 0 rfl) ?_
    refine lv_dup hx hb dX1_put_30 rfl ?_
    refine gfX1_28 C hP dX1_put_31 ?_
    refine lv_iconst (v := (1 : Int32)) hx hb dX1_put_34 (by decide) ?_
    refine lv_iadd hx hb dX1_put_35 ?_
    refine pfX1_28 C hP hS dX1_put_36 h (fun M3 h H locs hP hS => ?_)
    cases h
    exact hret H locs _ ls hP hS dX1_put_39
abbrev rX1_firstPoint : Room := { frames := 0, cells := 0, slots := 0, locals := 0 }
theorem dX1_firstPoint_0 : decode cX1_firstPoint 0 = .ok (.iconst 0, 1) := by decide +kernel
theorem dX1_firstPoint_1 : decode cX1_firstPoint 1 = .ok (.istore_n 1, 1) := by decide +kernel
theorem dX1_firstPoint_2 : decode cX1_firstPoint 2 = .ok (.iconst 1, 1) := by decide +kernel
theorem dX1_firstPoint_3 : decode cX1_firstPoint 3 = .ok (.istore_n 2, 1) := by decide +kernel
theorem dX1_firstPoint_4 : decode cX1_firstPoint 4 = .ok (.iload_n 2, 1) := by decide +kernel
theorem dX1_firstPoint_5 : decode cX1_firstPoint 5 = .ok (.aload_n 0, 1) := by decide +kernel
theorem dX1_firstPoint_6 : decode cX1_firstPoint 6 = .ok (.getfield 28, 3) := by decide +kernel
theorem dX1_firstPoint_9 : decode cX1_firstPoint 9 = .ok (.if_icmp .ge 66, 3) := by decide +kernel
theorem dX1_firstPoint_12 : decode cX1_firstPoint 12 = .ok (.aload_n 0, 1) := by decide +kernel
theorem dX1_firstPoint_13 : decode cX1_firstPoint 13 = .ok (.getfield 22, 3) := by decide +kernel
theorem dX1_firstPoint_16 : decode cX1_firstPoint 16 = .ok (.iload_n 2, 1) := by decide +kernel
theorem dX1_firstPoint_17 : decode cX1_firstPoint 17 = .ok (.iaload, 1) := by decide +kernel
theorem dX1_firstPoint_18 : decode cX1_firstPoint 18 = .ok (.aload_n 0, 1) := by decide +kernel
theorem dX1_firstPoint_19 : decode cX1_firstPoint 19 = .ok (.getfield 22, 3) := by decide +kernel
theorem dX1_firstPoint_22 : decode cX1_firstPoint 22 = .ok (.iload_n 1, 1) := by decide +kernel
theorem dX1_firstPoint_23 : decode cX1_firstPoint 23 = .ok (.iaload, 1) := by decide +kernel
theorem dX1_firstPoint_24 : decode cX1_firstPoint 24 = .ok (.if_icmp .ne 7, 3) := by decide +kernel
theorem dX1_firstPoint_27 : decode cX1_firstPoint 27 = .ok (.iconst 1, 1) := by decide +kernel
theorem dX1_firstPoint_28 : decode cX1_firstPoint 28 = .ok (.goto 4, 3) := by decide +kernel
theorem dX1_firstPoint_31 : decode cX1_firstPoint 31 = .ok (.iconst 0, 1) := by decide +kernel
theorem dX1_firstPoint_32 : decode cX1_firstPoint 32 = .ok (.istore_n 3, 1) := by decide +kernel
theorem dX1_firstPoint_33 : decode cX1_firstPoint 33 = .ok (.aload_n 0, 1) := by decide +kernel
theorem dX1_firstPoint_34 : decode cX1_firstPoint 34 = .ok (.getfield 22, 3) := by decide +kernel
theorem dX1_firstPoint_37 : decode cX1_firstPoint 37 = .ok (.iload_n 2, 1) := by decide +kernel
theorem dX1_firstPoint_38 : decode cX1_firstPoint 38 = .ok (.iaload, 1) := by decide +kernel
theorem dX1_firstPoint_39 : decode cX1_firstPoint 39 = .ok (.aload_n 0, 1) := by decide +kernel
theorem dX1_firstPoint_40 : decode cX1_firstPoint 40 = .ok (.getfield 22, 3) := by decide +kernel
theorem dX1_firstPoint_43 : decode cX1_firstPoint 43 = .ok (.iload_n 1, 1) := by decide +kernel
theorem dX1_firstPoint_44 : decode cX1_firstPoint 44 = .ok (.iaload, 1) := by decide +kernel
theorem dX1_firstPoint_45 : decode cX1_firstPoint 45 = .ok (.if_icmp .lt 22, 3) := by decide +kernel
theorem dX1_firstPoint_48 : decode cX1_firstPoint 48 = .ok (.iload_n 3, 1) := by decide +kernel
theorem dX1_firstPoint_49 : decode cX1_firstPoint 49 = .ok (.ifCond .eq 20, 3) := by decide +kernel
theorem dX1_firstPoint_52 : decode cX1_firstPoint 52 = .ok (.aload_n 0, 1) := by decide +kernel
theorem dX1_firstPoint_53 : decode cX1_firstPoint 53 = .ok (.getfield 25, 3) := by decide +kernel
theorem dX1_firstPoint_56 : decode cX1_firstPoint 56 = .ok (.iload_n 2, 1) := by decide +kernel
theorem dX1_firstPoint_57 : decode cX1_firstPoint 57 = .ok (.iaload, 1) := by decide +kernel
theorem dX1_firstPoint_58 : decode cX1_firstPoint 58 = .ok (.aload_n 0, 1) := by decide +kernel
theorem dX1_firstPoint_59 : decode cX1_firstPoint 59 = .ok (.getfield 25, 3) := by decide +kernel
theorem dX1_firstPoint_62 : decode cX1_firstPoint 62 = .ok (.iload_n 1, 1) := by decide +kernel
theorem dX1_firstPoint_63 : decode cX1_firstPoint 63 = .ok (.iaload, 1) := by decide +kernel
theorem dX1_firstPoint_64 : decode cX1_firstPoint 64 = .ok (.if_icmp .ge 5, 3) := by decide +kernel
theorem dX1_firstPoint_67 : decode cX1_firstPoint 67 = .ok (.iload_n 2, 1) := by decide +kernel
theorem dX1_firstPoint_68 : decode cX1_firstPoint 68 = .ok (.istore_n 1, 1) := by decide +kernel
theorem dX1_firstPoint_69 : decode cX1_firstPoint 69 = .ok (.iinc 2 1, 3) := by decide +kernel
theorem dX1_firstPoint_72 : decode cX1_firstPoint 72 = .ok (.goto (-68), 3) := by decide +kernel
theorem dX1_firstPoint_75 : decode cX1_firstPoint 75 = .ok (.iload_n 1, 1) := by decide +kernel
theorem dX1_firstPoint_76 : decode cX1_firstPoint 76 = .ok (.ireturn, 1) := by decide +kernel
set_option maxRecDepth 100000 in
set_option maxHeartbeats 4000000 in
theorem kX1_firstPoint (l : Launch) (D : va_G) (ad : Nat → Nat) (cI cJ : ClassId) (tP tR : Nat) (N : Nat) (M : Mem)   (o : Int32) (h : fX1_firstPoint N M  = some o) : qMet l D cI cJ tP tR (xA ad) (xW ad cI cJ) yX1_firstPoint cX1_firstPoint 4 (some .int) rX1_firstPoint [.ref (ad 11)] M (qQi D (xA ad) (xW ad cI cJ) o M) := by
  refine rs_enterI (own := RX1) ⟨by decide +kernel, rfl, Nat.le_of_ble_eq_true rfl⟩ ?_
  intro p e s m args below meth c Q C hret H locs ls hP hS hl
  obtain ⟨hx, hb, -⟩ := id C
  have hl : lv_has ls 4 [(0, .ref (ad 11))] := hl
  unfold fX1_firstPoint at h
  refine lv_iconst (v := (0 : Int32)) hx hb dX1_firstPoint_0 (by decide) ?_
  refine lv_istore_n (lv' := [(1, .int (0 : Int32)), (0, .ref (ad 11))]) hx hb dX1_firstPoint_1 rfl hl (by decide) rfl (fun ls hl => ?_)
  refine lv_iconst (v := (1 : Int32)) hx hb dX1_firstPoint_2 (by decide) ?_
  refine lv_istore_n (lv' := [(2, .int (1 : Int32)), (1, .int (0 : Int32)), (0, .ref (ad 11))]) hx hb dX1_firstPoint_3 rfl hl (by decide) rfl (fun ls hl => ?_)
  have hL4 : ∀ (n4 : Nat) (v1 : Int32) (v2 : Int32) (H : Heap) (locs : List Loc) (ls : Array Slot), va_P D vwCl (xW ad cI cJ M) H → va_S (xA ad) s.heap H locs → lv_has ls 4 [(0, .ref (ad 11)), (1, .int v1), (2, .int v2)] → lp (fun _ _ => none) (sX1_firstPoint_4 M) n4 v1 v2 = some o → W p l e rX1_firstPoint s m args below meth c H locs 0 0 Q (F0 m 4 ls []) := by
    intro n4
    induction n4 with
    | zero => intro v1 v2 H locs ls hP hS hl h; have h : (none : Option Int32) = some o := h; cases h
    | succ n4 ih4 =>
      intro v1 v2 H locs ls hP hS hl h
      have h : sX1_firstPoint_4 M (lp (fun _ _ => none) (sX1_firstPoint_4 M) n4) v1 v2 = some o := h
      generalize lp (fun _ _ => none) (sX1_firstPoint_4 M) n4 = cont4 at h ih4
      unfold sX1_firstPoint_4 at h
      refine lv_iload_n hx hb dX1_firstPoint_4 rfl (lv_at hl 2 rfl) ?_
      refine lv_aload_n hx hb dX1_firstPoint_5 rfl (lv_at hl 0 rfl) ?_
      refine gfX1_28 C hP dX1_firstPoint_6 ?_
      refine lv_icmp_ge (tgt := 75) hx hb dX1_firstPoint_9 (by decide) (fun cd => ?_) (fun cd => ?_)
      · have h := (if_pos cd).symm.trans h
        refine lv_iload_n hx hb dX1_firstPoint_75 rfl (lv_at hl 1 rfl) ?_
        cases h
        exact hret H locs _ ls hP hS dX1_firstPoint_76
      · have h := (if_neg cd).symm.trans h
        refine lv_aload_n hx hb dX1_firstPoint_12 rfl (lv_at hl 0 rfl) ?_
        refine gfX1_22 C hP dX1_firstPoint_13 ?_
        refine lv_iload_n hx hb dX1_firstPoint_16 rfl (lv_at hl 2 rfl) ?_
        refine rs_iald C hP xIA_14 dX1_firstPoint_17 h (fun v3 h => ?_)
        refine lv_aload_n hx hb dX1_firstPoint_18 rfl (lv_at hl 0 rfl) ?_
        refine gfX1_22 C hP dX1_firstPoint_19 ?_
        refine lv_iload_n hx hb dX1_firstPoint_22 rfl (lv_at hl 1 rfl) ?_
        refine rs_iald C hP xIA_14 dX1_firstPoint_23 h (fun v4 h => ?_)
        obtain ⟨v5, h1, h⟩ := rs_bind h
        have hJ12 : ∀ (H : Heap) (locs : List Loc) (ls : Array Slot), va_P D vwCl (xW ad cI cJ M) H → va_S (xA ad) s.heap H locs → lv_has ls 4 [(0, .ref (ad 11)), (1, .int v1), (2, .int v2)] → W p l e rX1_firstPoint s m args below meth c H locs 0 0 Q (F0 m 32 ls [.int v5]) := by
          intro H locs ls hP hS hl
          refine lv_istore_n (lv' := [(3, .int v5), (0, .ref (ad 11)), (1, .int v1), (2, .int v2)]) hx hb dX1_firstPoint_32 rfl hl (by decide) rfl (fun ls hl => ?_)
          refine lv_aload_n hx hb dX1_firstPoint_33 rfl (lv_at hl 1 rfl) ?_
          refine gfX1_22 C hP dX1_firstPoint_34 ?_
          refine lv_iload_n hx hb dX1_firstPoint_37 rfl (lv_at hl 3 rfl) ?_
          refine rs_iald C hP xIA_14 dX1_firstPoint_38 h (fun v6 h => ?_)
          refine lv_aload_n hx hb dX1_firstPoint_39 rfl (lv_at hl 1 rfl) ?_
          refine gfX1_22 C hP dX1_firstPoint_40 ?_
          refine lv_iload_n hx hb dX1_firstPoint_43 rfl (lv_at hl 2 rfl) ?_
          refine rs_iald C hP xIA_14 dX1_firstPoint_44 h (fun v7 h => ?_)
          obtain ⟨v8, h1, h⟩ := rs_bind h
          have hJ9 : ∀ (H : Heap) (locs : List Loc) (ls : Array Slot), va_P D vwCl (xW ad cI cJ M) H → va_S (xA ad) s.heap H locs → lv_has ls 4 [(0, .ref (ad 11)), (1, .int v8), (2, .int v2)] → W p l e rX1_firstPoint s m args below meth c H locs 0 0 Q (F0 m 69 ls []) := by
            intro H locs ls hP hS hl
            refine lv_iinc (v := (v2 + 1)) (lv' := [(2, .int (v2 + 1)), (0, .ref (ad 11)), (1, .int v8)]) hx hb dX1_firstPoint_69 hl (k := 2) rfl rfl (by decide) rfl (fun ls hl => ?_)
            refine lv_goto (tgt := 4) hx hb dX1_firstPoint_72 (by decide) ?_
            exact ih4 _ _ H locs ls hP hS (lv_sub hl [1, 2, 0] rfl) h
          replace h := h1
          clear h1
          refine lv_icmp_lt (tgt := 67) hx hb dX1_firstPoint_45 (by decide) (fun cd => ?_) (fun cd => ?_)
          · have h := (if_pos cd).symm.trans h
            refine lv_iload_n hx hb dX1_firstPoint_67 rfl (lv_at hl 3 rfl) ?_
            refine lv_istore_n (lv' := [(1, .int v2), (3, .int v5), (0, .ref (ad 11)), (2, .int v2)]) hx hb dX1_firstPoint_68 rfl hl (by decide) rfl (fun ls hl => ?_)
            cases h
            exact hJ9 H locs ls hP hS (lv_sub hl [2, 0, 3] rfl)
          · have h := (if_neg cd).symm.trans h
            refine lv_iload_n hx hb dX1_firstPoint_48 rfl (lv_at hl 0 rfl) ?_
            refine lv_if_eq (tgt := 69) hx hb dX1_firstPoint_49 (by decide) (fun cd => ?_) (fun cd => ?_)
            · have h := (if_pos cd).symm.trans h
              cases h
              exact hJ9 H locs ls hP hS (lv_sub hl [1, 2, 3] rfl)
            · have h := (if_neg cd).symm.trans h
              refine lv_aload_n hx hb dX1_firstPoint_52 rfl (lv_at hl 1 rfl) ?_
              refine gfX1_25 C hP dX1_firstPoint_53 ?_
              refine lv_iload_n hx hb dX1_firstPoint_56 rfl (lv_at hl 3 rfl) ?_
              refine rs_iald C hP xIA_15 dX1_firstPoint_57 h (fun v10 h => ?_)
              refine lv_aload_n hx hb dX1_firstPoint_58 rfl (lv_at hl 1 rfl) ?_
              refine gfX1_25 C hP dX1_firstPoint_59 ?_
              refine lv_iload_n hx hb dX1_firstPoint_62 rfl (lv_at hl 2 rfl) ?_
              refine rs_iald C hP xIA_15 dX1_firstPoint_63 h (fun v11 h => ?_)
              refine lv_icmp_ge (tgt := 69) hx hb dX1_firstPoint_64 (by decide) (fun cd => ?_) (fun cd => ?_)
              · have h := (if_pos cd).symm.trans h
                cases h
                exact hJ9 H locs ls hP hS (lv_sub hl [1, 2, 3] rfl)
              · have h := (if_neg cd).symm.trans h
                refine lv_iload_n hx hb dX1_firstPoint_67 rfl (lv_at hl 3 rfl) ?_
                refine lv_istore_n (lv' := [(1, .int v2), (3, .int v5), (0, .ref (ad 11)), (2, .int v2)]) hx hb dX1_firstPoint_68 rfl hl (by decide) rfl (fun ls hl => ?_)
                cases h
                exact hJ9 H locs ls hP hS (lv_sub hl [2, 0, 3] rfl)
        replace h := h1
        clear h1
        refine lv_icmp_ne (tgt := 31) hx hb dX1_firstPoint_24 (by decide) (fun cd => ?_) (fun cd => ?_)
        · have h := (if_neg cd).symm.trans h
          refine lv_iconst (v := (0 : Int32)) hx hb dX1_firstPoint_31 (by decide) ?_
          cases h
          exact hJ12 H locs ls hP hS (lv_sub hl [0, 1, 2] rfl)
        · have h := (if_pos cd).symm.trans h
          refine lv_iconst (v := (1 : Int32)) hx hb dX1_firstPoint_27 (by decide) ?_
          refine lv_goto (tgt := 32) hx hb dX1_firstPoint_28 (by decide) ?_
          cases h
          exact hJ12 H locs ls hP hS (lv_sub hl [0, 1, 2] rfl)
  exact hL4 N _ _ H locs ls hP hS (lv_sub hl [2, 1, 0] rfl) h
abbrev rX1_same : Room := { frames := 0, cells := 0, slots := 0, locals := 0 }
theorem dX1_same_0 : decode cX1_same 0 = .ok (.aload_n 0, 1) := by decide +kernel
theorem dX1_same_1 : decode cX1_same 1 = .ok (.getfield 22, 3) := by decide +kernel
theorem dX1_same_4 : decode cX1_same 4 = .ok (.iload_n 1, 1) := by decide +kernel
theorem dX1_same_5 : decode cX1_same 5 = .ok (.iaload, 1) := by decide +kernel
theorem dX1_same_6 : decode cX1_same 6 = .ok (.aload_n 0, 1) := by decide +kernel
theorem dX1_same_7 : decode cX1_same 7 = .ok (.getfield 22, 3) := by decide +kernel
theorem dX1_same_10 : decode cX1_same 10 = .ok (.iload_n 2, 1) := by decide +kernel
theorem dX1_same_11 : decode cX1_same 11 = .ok (.iaload, 1) := by decide +kernel
theorem dX1_same_12 : decode cX1_same 12 = .ok (.if_icmp .ne 22, 3) := by decide +kernel
theorem dX1_same_15 : decode cX1_same 15 = .ok (.aload_n 0, 1) := by decide +kernel
theorem dX1_same_16 : decode cX1_same 16 = .ok (.getfield 25, 3) := by decide +kernel
theorem dX1_same_19 : decode cX1_same 19 = .ok (.iload_n 1, 1) := by decide +kernel
theorem dX1_same_20 : decode cX1_same 20 = .ok (.iaload, 1) := by decide +kernel
theorem dX1_same_21 : decode cX1_same 21 = .ok (.aload_n 0, 1) := by decide +kernel
theorem dX1_same_22 : decode cX1_same 22 = .ok (.getfield 25, 3) := by decide +kernel
theorem dX1_same_25 : decode cX1_same 25 = .ok (.iload_n 2, 1) := by decide +kernel
theorem dX1_same_26 : decode cX1_same 26 = .ok (.iaload, 1) := by decide +kernel
theorem dX1_same_27 : decode cX1_same 27 = .ok (.if_icmp .ne 7, 3) := by decide +kernel
theorem dX1_same_30 : decode cX1_same 30 = .ok (.iconst 1, 1) := by decide +kernel
theorem dX1_same_31 : decode cX1_same 31 = .ok (.goto 4, 3) := by decide +kernel
theorem dX1_same_34 : decode cX1_same 34 = .ok (.iconst 0, 1) := by decide +kernel
theorem dX1_same_35 : decode cX1_same 35 = .ok (.ireturn, 1) := by decide +kernel
set_option maxRecDepth 100000 in
set_option maxHeartbeats 4000000 in
theorem kX1_same (l : Launch) (D : va_G) (ad : Nat → Nat) (cI cJ : ClassId) (tP tR : Nat) (M : Mem) (a1 : Int32) (a2 : Int32)  (o : Int32) (h : fX1_same M a1 a2 = some o) : qMet l D cI cJ tP tR (xA ad) (xW ad cI cJ) yX1_same cX1_same 3 (some .boolean) rX1_same [.ref (ad 11), .int a1, .int a2] M (qQi D (xA ad) (xW ad cI cJ) o M) := by
  refine rs_enterZ (own := RX1) ⟨by decide +kernel, rfl, Nat.le_of_ble_eq_true rfl⟩ ?_
  intro p e s m args below meth c Q C hret H locs ls hP hS hl
  obtain ⟨hx, hb, -⟩ := id C
  have hl : lv_has ls 3 [(0, .ref (ad 11)), (1, .int a1), (2, .int a2)] := hl
  unfold fX1_same at h
  refine lv_aload_n hx hb dX1_same_0 rfl (lv_at hl 0 rfl) ?_
  refine gfX1_22 C hP dX1_same_1 ?_
  refine lv_iload_n hx hb dX1_same_4 rfl (lv_at hl 1 rfl) ?_
  refine rs_iald C hP xIA_14 dX1_same_5 h (fun v1 h => ?_)
  refine lv_aload_n hx hb dX1_same_6 rfl (lv_at hl 0 rfl) ?_
  refine gfX1_22 C hP dX1_same_7 ?_
  refine lv_iload_n hx hb dX1_same_10 rfl (lv_at hl 2 rfl) ?_
  refine rs_iald C hP xIA_14 dX1_same_11 h (fun v2 h => ?_)
  refine lv_icmp_ne (tgt := 34) hx hb dX1_same_12 (by decide) (fun cd => ?_) (fun cd => ?_)
  · have h := (if_neg cd).symm.trans h
    refine lv_iconst (v := (0 : Int32)) hx hb dX1_same_34 (by decide) ?_
    obtain ⟨rfl, hz⟩ := rs_okZ h
    exact hret H locs _ ls hz hP hS dX1_same_35
  · have h := (if_pos cd).symm.trans h
    refine lv_aload_n hx hb dX1_same_15 rfl (lv_at hl 0 rfl) ?_
    refine gfX1_25 C hP dX1_same_16 ?_
    refine lv_iload_n hx hb dX1_same_19 rfl (lv_at hl 1 rfl) ?_
    refine rs_iald C hP xIA_15 dX1_same_20 h (fun v3 h => ?_)
    refine lv_aload_n hx hb dX1_same_21 rfl (lv_at hl 0 rfl) ?_
    refine gfX1_25 C hP dX1_same_22 ?_
    refine lv_iload_n hx hb dX1_same_25 rfl (lv_at hl 2 rfl) ?_
    refine rs_iald C hP xIA_15 dX1_same_26 h (fun v4 h => ?_)
    refine lv_icmp_ne (tgt := 34) hx hb dX1_same_27 (by decide) (fun cd => ?_) (fun cd => ?_)
    · have h := (if_neg cd).symm.trans h
      refine lv_iconst (v := (0 : Int32)) hx hb dX1_same_34 (by decide) ?_
      obtain ⟨rfl, hz⟩ := rs_okZ h
      exact hret H locs _ ls hz hP hS dX1_same_35
    · have h := (if_pos cd).symm.trans h
      refine lv_iconst (v := (1 : Int32)) hx hb dX1_same_30 (by decide) ?_
      refine lv_goto (tgt := 35) hx hb dX1_same_31 (by decide) ?_
      obtain ⟨rfl, hz⟩ := rs_okZ h
      exact hret H locs _ ls hz hP hS dX1_same_35
abbrev rX1_sideOf : Room := { frames := 0, cells := 0, slots := 0, locals := 0 }
theorem dX1_sideOf_0 : decode cX1_sideOf 0 = .ok (.aload_n 0, 1) := by decide +kernel
theorem dX1_sideOf_1 : decode cX1_sideOf 1 = .ok (.getfield 22, 3) := by decide +kernel
theorem dX1_sideOf_4 : decode cX1_sideOf 4 = .ok (.iload_n 2, 1) := by decide +kernel
theorem dX1_sideOf_5 : decode cX1_sideOf 5 = .ok (.iaload, 1) := by decide +kernel
theorem dX1_sideOf_6 : decode cX1_sideOf 6 = .ok (.aload_n 0, 1) := by decide +kernel
theorem dX1_sideOf_7 : decode cX1_sideOf 7 = .ok (.getfield 22, 3) := by decide +kernel
theorem dX1_sideOf_10 : decode cX1_sideOf 10 = .ok (.iload_n 1, 1) := by decide +kernel
theorem dX1_sideOf_11 : decode cX1_sideOf 11 = .ok (.iaload, 1) := by decide +kernel
theorem dX1_sideOf_12 : decode cX1_sideOf 12 = .ok (.isub, 1) := by decide +kernel
theorem dX1_sideOf_13 : decode cX1_sideOf 13 = .ok (.aload_n 0, 1) := by decide +kernel
theorem dX1_sideOf_14 : decode cX1_sideOf 14 = .ok (.getfield 25, 3) := by decide +kernel
theorem dX1_sideOf_17 : decode cX1_sideOf 17 = .ok (.iload_n 3, 1) := by decide +kernel
theorem dX1_sideOf_18 : decode cX1_sideOf 18 = .ok (.iaload, 1) := by decide +kernel
theorem dX1_sideOf_19 : decode cX1_sideOf 19 = .ok (.aload_n 0, 1) := by decide +kernel
theorem dX1_sideOf_20 : decode cX1_sideOf 20 = .ok (.getfield 25, 3) := by decide +kernel
theorem dX1_sideOf_23 : decode cX1_sideOf 23 = .ok (.iload_n 1, 1) := by decide +kernel
theorem dX1_sideOf_24 : decode cX1_sideOf 24 = .ok (.iaload, 1) := by decide +kernel
theorem dX1_sideOf_25 : decode cX1_sideOf 25 = .ok (.isub, 1) := by decide +kernel
theorem dX1_sideOf_26 : decode cX1_sideOf 26 = .ok (.imul, 1) := by decide +kernel
theorem dX1_sideOf_27 : decode cX1_sideOf 27 = .ok (.aload_n 0, 1) := by decide +kernel
theorem dX1_sideOf_28 : decode cX1_sideOf 28 = .ok (.getfield 25, 3) := by decide +kernel
theorem dX1_sideOf_31 : decode cX1_sideOf 31 = .ok (.iload_n 2, 1) := by decide +kernel
theorem dX1_sideOf_32 : decode cX1_sideOf 32 = .ok (.iaload, 1) := by decide +kernel
theorem dX1_sideOf_33 : decode cX1_sideOf 33 = .ok (.aload_n 0, 1) := by decide +kernel
theorem dX1_sideOf_34 : decode cX1_sideOf 34 = .ok (.getfield 25, 3) := by decide +kernel
theorem dX1_sideOf_37 : decode cX1_sideOf 37 = .ok (.iload_n 1, 1) := by decide +kernel
theorem dX1_sideOf_38 : decode cX1_sideOf 38 = .ok (.iaload, 1) := by decide +kernel
theorem dX1_sideOf_39 : decode cX1_sideOf 39 = .ok (.isub, 1) := by decide +kernel
theorem dX1_sideOf_40 : decode cX1_sideOf 40 = .ok (.aload_n 0, 1) := by decide +kernel
theorem dX1_sideOf_41 : decode cX1_sideOf 41 = .ok (.getfield 22, 3) := by decide +kernel
theorem dX1_sideOf_44 : decode cX1_sideOf 44 = .ok (.iload_n 3, 1) := by decide +kernel
theorem dX1_sideOf_45 : decode cX1_sideOf 45 = .ok (.iaload, 1) := by decide +kernel
theorem dX1_sideOf_46 : decode cX1_sideOf 46 = .ok (.aload_n 0, 1) := by decide +kernel
theorem dX1_sideOf_47 : decode cX1_sideOf 47 = .ok (.getfield 22, 3) := by decide +kernel
theorem dX1_sideOf_50 : decode cX1_sideOf 50 = .ok (.iload_n 1, 1) := by decide +kernel
theorem dX1_sideOf_51 : decode cX1_sideOf 51 = .ok (.iaload, 1) := by decide +kernel
theorem dX1_sideOf_52 : decode cX1_sideOf 52 = .ok (.isub, 1) := by decide +kernel
theorem dX1_sideOf_53 : decode cX1_sideOf 53 = .ok (.imul, 1) := by decide +kernel
theorem dX1_sideOf_54 : decode cX1_sideOf 54 = .ok (.isub, 1) := by decide +kernel
theorem dX1_sideOf_55 : decode cX1_sideOf 55 = .ok (.ireturn, 1) := by decide +kernel
set_option maxRecDepth 100000 in
set_option maxHeartbeats 4000000 in
theorem kX1_sideOf (l : Launch) (D : va_G) (ad : Nat → Nat) (cI cJ : ClassId) (tP tR : Nat) (M : Mem) (a1 : Int32) (a2 : Int32) (a3 : Int32)  (o : Int32) (h : fX1_sideOf M a1 a2 a3 = some o) : qMet l D cI cJ tP tR (xA ad) (xW ad cI cJ) yX1_sideOf cX1_sideOf 4 (some .int) rX1_sideOf [.ref (ad 11), .int a1, .int a2, .int a3] M (qQi D (xA ad) (xW ad cI cJ) o M) := by
  refine rs_enterI (own := RX1) ⟨by decide +kernel, rfl, Nat.le_of_ble_eq_true rfl⟩ ?_
  intro p e s m args below meth c Q C hret H locs ls hP hS hl
  obtain ⟨hx, hb, -⟩ := id C
  have hl : lv_has ls 4 [(0, .ref (ad 11)), (1, .int a1), (2, .int a2), (3, .int a3)] := hl
  unfold fX1_sideOf at h
  refine lv_aload_n hx hb dX1_sideOf_0 rfl (lv_at hl 0 rfl) ?_
  refine gfX1_22 C hP dX1_sideOf_1 ?_
  refine lv_iload_n hx hb dX1_sideOf_4 rfl (lv_at hl 2 rfl) ?_
  refine rs_iald C hP xIA_14 dX1_sideOf_5 h (fun v1 h => ?_)
  refine lv_aload_n hx hb dX1_sideOf_6 rfl (lv_at hl 0 rfl) ?_
  refine gfX1_22 C hP dX1_sideOf_7 ?_
  refine lv_iload_n hx hb dX1_sideOf_10 rfl (lv_at hl 1 rfl) ?_
  refine rs_iald C hP xIA_14 dX1_sideOf_11 h (fun v2 h => ?_)
  refine lv_isub hx hb dX1_sideOf_12 ?_
  refine lv_aload_n hx hb dX1_sideOf_13 rfl (lv_at hl 0 rfl) ?_
  refine gfX1_25 C hP dX1_sideOf_14 ?_
  refine lv_iload_n hx hb dX1_sideOf_17 rfl (lv_at hl 3 rfl) ?_
  refine rs_iald C hP xIA_15 dX1_sideOf_18 h (fun v3 h => ?_)
  refine lv_aload_n hx hb dX1_sideOf_19 rfl (lv_at hl 0 rfl) ?_
  refine gfX1_25 C hP dX1_sideOf_20 ?_
  refine lv_iload_n hx hb dX1_sideOf_23 rfl (lv_at hl 1 rfl) ?_
  refine rs_iald C hP xIA_15 dX1_sideOf_24 h (fun v4 h => ?_)
  refine lv_isub hx hb dX1_sideOf_25 ?_
  refine lv_imul hx hb dX1_sideOf_26 ?_
  refine lv_aload_n hx hb dX1_sideOf_27 rfl (lv_at hl 0 rfl) ?_
  refine gfX1_25 C hP dX1_sideOf_28 ?_
  refine lv_iload_n hx hb dX1_sideOf_31 rfl (lv_at hl 2 rfl) ?_
  refine rs_iald C hP xIA_15 dX1_sideOf_32 h (fun v5 h => ?_)
  refine lv_aload_n hx hb dX1_sideOf_33 rfl (lv_at hl 0 rfl) ?_
  refine gfX1_25 C hP dX1_sideOf_34 ?_
  refine lv_iload_n hx hb dX1_sideOf_37 rfl (lv_at hl 1 rfl) ?_
  refine rs_iald C hP xIA_15 dX1_sideOf_38 h (fun v6 h => ?_)
  refine lv_isub hx hb dX1_sideOf_39 ?_
  refine lv_aload_n hx hb dX1_sideOf_40 rfl (lv_at hl 0 rfl) ?_
  refine gfX1_22 C hP dX1_sideOf_41 ?_
  refine lv_iload_n hx hb dX1_sideOf_44 rfl (lv_at hl 3 rfl) ?_
  refine rs_iald C hP xIA_14 dX1_sideOf_45 h (fun v7 h => ?_)
  refine lv_aload_n hx hb dX1_sideOf_46 rfl (lv_at hl 0 rfl) ?_
  refine gfX1_22 C hP dX1_sideOf_47 ?_
  refine lv_iload_n hx hb dX1_sideOf_50 rfl (lv_at hl 1 rfl) ?_
  refine rs_iald C hP xIA_14 dX1_sideOf_51 h (fun v8 h => ?_)
  refine lv_isub hx hb dX1_sideOf_52 ?_
  refine lv_imul hx hb dX1_sideOf_53 ?_
  refine lv_isub hx hb dX1_sideOf_54 ?_
  cases h
  exact hret H locs _ ls hP hS dX1_sideOf_55
abbrev rX1_far : Room := { frames := 1, cells := 0, slots := 0, locals := 21 }
theorem dX1_far_0 : decode cX1_far 0 = .ok (.aload_n 0, 1) := by decide +kernel
theorem dX1_far_1 : decode cX1_far 1 = .ok (.getfield 22, 3) := by decide +kernel
theorem dX1_far_4 : decode cX1_far 4 = .ok (.iload_n 2, 1) := by decide +kernel
theorem dX1_far_5 : decode cX1_far 5 = .ok (.iaload, 1) := by decide +kernel
theorem dX1_far_6 : decode cX1_far 6 = .ok (.aload_n 0, 1) := by decide +kernel
theorem dX1_far_7 : decode cX1_far 7 = .ok (.getfield 22, 3) := by decide +kernel
theorem dX1_far_10 : decode cX1_far 10 = .ok (.iload_n 1, 1) := by decide +kernel
theorem dX1_far_11 : decode cX1_far 11 = .ok (.iaload, 1) := by decide +kernel
theorem dX1_far_12 : decode cX1_far 12 = .ok (.isub, 1) := by decide +kernel
theorem dX1_far_13 : decode cX1_far 13 = .ok (.invokestatic 81, 3) := by decide +kernel
theorem dX1_far_16 : decode cX1_far 16 = .ok (.aload_n 0, 1) := by decide +kernel
theorem dX1_far_17 : decode cX1_far 17 = .ok (.getfield 25, 3) := by decide +kernel
theorem dX1_far_20 : decode cX1_far 20 = .ok (.iload_n 2, 1) := by decide +kernel
theorem dX1_far_21 : decode cX1_far 21 = .ok (.iaload, 1) := by decide +kernel
theorem dX1_far_22 : decode cX1_far 22 = .ok (.aload_n 0, 1) := by decide +kernel
theorem dX1_far_23 : decode cX1_far 23 = .ok (.getfield 25, 3) := by decide +kernel
theorem dX1_far_26 : decode cX1_far 26 = .ok (.iload_n 1, 1) := by decide +kernel
theorem dX1_far_27 : decode cX1_far 27 = .ok (.iaload, 1) := by decide +kernel
theorem dX1_far_28 : decode cX1_far 28 = .ok (.isub, 1) := by decide +kernel
theorem dX1_far_29 : decode cX1_far 29 = .ok (.invokestatic 81, 3) := by decide +kernel
theorem dX1_far_32 : decode cX1_far 32 = .ok (.iadd, 1) := by decide +kernel
theorem dX1_far_33 : decode cX1_far 33 = .ok (.ireturn, 1) := by decide +kernel
set_option maxRecDepth 100000 in
set_option maxHeartbeats 4000000 in
theorem kX1_far (l : Launch) (D : va_G) (ad : Nat → Nat) (cI cJ : ClassId) (tP tR : Nat) (M : Mem) (a1 : Int32) (a2 : Int32)  (o : Int32) (h : fX1_far M a1 a2 = some o) : qMet l D cI cJ tP tR (xA ad) (xW ad cI cJ) yX1_far cX1_far 3 (some .int) rX1_far [.ref (ad 11), .int a1, .int a2] M (qQi D (xA ad) (xW ad cI cJ) o M) := by
  refine rs_enterI (own := RX1) ⟨by decide +kernel, rfl, Nat.le_of_ble_eq_true rfl⟩ ?_
  intro p e s m args below meth c Q C hret H locs ls hP hS hl
  obtain ⟨hx, hb, -⟩ := id C
  have hl : lv_has ls 3 [(0, .ref (ad 11)), (1, .int a1), (2, .int a2)] := hl
  unfold fX1_far at h
  refine lv_aload_n hx hb dX1_far_0 rfl (lv_at hl 0 rfl) ?_
  refine gfX1_22 C hP dX1_far_1 ?_
  refine lv_iload_n hx hb dX1_far_4 rfl (lv_at hl 2 rfl) ?_
  refine rs_iald C hP xIA_14 dX1_far_5 h (fun v1 h => ?_)
  refine lv_aload_n hx hb dX1_far_6 rfl (lv_at hl 0 rfl) ?_
  refine gfX1_22 C hP dX1_far_7 ?_
  refine lv_iload_n hx hb dX1_far_10 rfl (lv_at hl 1 rfl) ?_
  refine rs_iald C hP xIA_14 dX1_far_11 h (fun v2 h => ?_)
  refine lv_isub hx hb dX1_far_12 ?_
  refine rs_abs C ⟨wd_311, wd_56, wd_312⟩ wd_310 hl.1 ⟨Nat.le_of_ble_eq_true rfl, Nat.le_of_ble_eq_true rfl⟩ dX1_far_13 ?_
  refine lv_aload_n hx hb dX1_far_16 rfl (lv_at hl 0 rfl) ?_
  refine gfX1_25 C hP dX1_far_17 ?_
  refine lv_iload_n hx hb dX1_far_20 rfl (lv_at hl 2 rfl) ?_
  refine rs_iald C hP xIA_15 dX1_far_21 h (fun v3 h => ?_)
  refine lv_aload_n hx hb dX1_far_22 rfl (lv_at hl 0 rfl) ?_
  refine gfX1_25 C hP dX1_far_23 ?_
  refine lv_iload_n hx hb dX1_far_26 rfl (lv_at hl 1 rfl) ?_
  refine rs_iald C hP xIA_15 dX1_far_27 h (fun v4 h => ?_)
  refine lv_isub hx hb dX1_far_28 ?_
  refine rs_abs C ⟨wd_311, wd_56, wd_312⟩ wd_310 hl.1 ⟨Nat.le_of_ble_eq_true rfl, Nat.le_of_ble_eq_true rfl⟩ dX1_far_29 ?_
  refine lv_iadd hx hb dX1_far_32 ?_
  cases h
  exact hret H locs _ ls hP hS dX1_far_33
abbrev rX1_nextCorner : Room := { frames := 2, cells := 0, slots := 0, locals := 43 }
theorem dX1_nextCorner_0 : decode cX1_nextCorner 0 = .ok (.iload_n 1, 1) := by decide +kernel
theorem dX1_nextCorner_1 : decode cX1_nextCorner 1 = .ok (.istore_n 2, 1) := by decide +kernel
theorem dX1_nextCorner_2 : decode cX1_nextCorner 2 = .ok (.iconst 0, 1) := by decide +kernel
theorem dX1_nextCorner_3 : decode cX1_nextCorner 3 = .ok (.istore_n 3, 1) := by decide +kernel
theorem dX1_nextCorner_4 : decode cX1_nextCorner 4 = .ok (.iload_n 3, 1) := by decide +kernel
theorem dX1_nextCorner_5 : decode cX1_nextCorner 5 = .ok (.aload_n 0, 1) := by decide +kernel
theorem dX1_nextCorner_6 : decode cX1_nextCorner 6 = .ok (.getfield 28, 3) := by decide +kernel
theorem dX1_nextCorner_9 : decode cX1_nextCorner 9 = .ok (.if_icmp .ge 66, 3) := by decide +kernel
theorem dX1_nextCorner_12 : decode cX1_nextCorner 12 = .ok (.aload_n 0, 1) := by decide +kernel
theorem dX1_nextCorner_13 : decode cX1_nextCorner 13 = .ok (.iload_n 3, 1) := by decide +kernel
theorem dX1_nextCorner_14 : decode cX1_nextCorner 14 = .ok (.iload_n 1, 1) := by decide +kernel
theorem dX1_nextCorner_15 : decode cX1_nextCorner 15 = .ok (.invokevirtual 70, 3) := by decide +kernel
theorem dX1_nextCorner_18 : decode cX1_nextCorner 18 = .ok (.ifCond .eq 6, 3) := by decide +kernel
theorem dX1_nextCorner_21 : decode cX1_nextCorner 21 = .ok (.goto 48, 3) := by decide +kernel
theorem dX1_nextCorner_24 : decode cX1_nextCorner 24 = .ok (.aload_n 0, 1) := by decide +kernel
theorem dX1_nextCorner_25 : decode cX1_nextCorner 25 = .ok (.iload_n 1, 1) := by decide +kernel
theorem dX1_nextCorner_26 : decode cX1_nextCorner 26 = .ok (.iload_n 2, 1) := by decide +kernel
theorem dX1_nextCorner_27 : decode cX1_nextCorner 27 = .ok (.iload_n 3, 1) := by decide +kernel
theorem dX1_nextCorner_28 : decode cX1_nextCorner 28 = .ok (.invokevirtual 74, 3) := by decide +kernel
theorem dX1_nextCorner_31 : decode cX1_nextCorner 31 = .ok (.istore 4, 2) := by decide +kernel
theorem dX1_nextCorner_33 : decode cX1_nextCorner 33 = .ok (.aload_n 0, 1) := by decide +kernel
theorem dX1_nextCorner_34 : decode cX1_nextCorner 34 = .ok (.iload_n 2, 1) := by decide +kernel
theorem dX1_nextCorner_35 : decode cX1_nextCorner 35 = .ok (.iload_n 1, 1) := by decide +kernel
theorem dX1_nextCorner_36 : decode cX1_nextCorner 36 = .ok (.invokevirtual 70, 3) := by decide +kernel
theorem dX1_nextCorner_39 : decode cX1_nextCorner 39 = .ok (.ifCond .ne 28, 3) := by decide +kernel
theorem dX1_nextCorner_42 : decode cX1_nextCorner 42 = .ok (.iload 4, 2) := by decide +kernel
theorem dX1_nextCorner_44 : decode cX1_nextCorner 44 = .ok (.ifCond .lt 23, 3) := by decide +kernel
theorem dX1_nextCorner_47 : decode cX1_nextCorner 47 = .ok (.iload 4, 2) := by decide +kernel
theorem dX1_nextCorner_49 : decode cX1_nextCorner 49 = .ok (.ifCond .ne 20, 3) := by decide +kernel
theorem dX1_nextCorner_52 : decode cX1_nextCorner 52 = .ok (.aload_n 0, 1) := by decide +kernel
theorem dX1_nextCorner_53 : decode cX1_nextCorner 53 = .ok (.iload_n 1, 1) := by decide +kernel
theorem dX1_nextCorner_54 : decode cX1_nextCorner 54 = .ok (.iload_n 3, 1) := by decide +kernel
theorem dX1_nextCorner_55 : decode cX1_nextCorner 55 = .ok (.invokevirtual 78, 3) := by decide +kernel
theorem dX1_nextCorner_58 : decode cX1_nextCorner 58 = .ok (.aload_n 0, 1) := by decide +kernel
theorem dX1_nextCorner_59 : decode cX1_nextCorner 59 = .ok (.iload_n 1, 1) := by decide +kernel
theorem dX1_nextCorner_60 : decode cX1_nextCorner 60 = .ok (.iload_n 2, 1) := by decide +kernel
theorem dX1_nextCorner_61 : decode cX1_nextCorner 61 = .ok (.invokevirtual 78, 3) := by decide +kernel
theorem dX1_nextCorner_64 : decode cX1_nextCorner 64 = .ok (.if_icmp .le 5, 3) := by decide +kernel
theorem dX1_nextCorner_67 : decode cX1_nextCorner 67 = .ok (.iload_n 3, 1) := by decide +kernel
theorem dX1_nextCorner_68 : decode cX1_nextCorner 68 = .ok (.istore_n 2, 1) := by decide +kernel
theorem dX1_nextCorner_69 : decode cX1_nextCorner 69 = .ok (.iinc 3 1, 3) := by decide +kernel
theorem dX1_nextCorner_72 : decode cX1_nextCorner 72 = .ok (.goto (-68), 3) := by decide +kernel
theorem dX1_nextCorner_75 : decode cX1_nextCorner 75 = .ok (.iload_n 2, 1) := by decide +kernel
theorem dX1_nextCorner_76 : decode cX1_nextCorner 76 = .ok (.ireturn, 1) := by decide +kernel
set_option maxRecDepth 100000 in
set_option maxHeartbeats 4000000 in
theorem kX1_nextCorner (l : Launch) (D : va_G) (ad : Nat → Nat) (cI cJ : ClassId) (tP tR : Nat) (N : Nat) (M : Mem) (a1 : Int32)  (o : Int32) (h : fX1_nextCorner N M a1 = some o) : qMet l D cI cJ tP tR (xA ad) (xW ad cI cJ) yX1_nextCorner cX1_nextCorner 5 (some .int) rX1_nextCorner [.ref (ad 11), .int a1] M (qQi D (xA ad) (xW ad cI cJ) o M) := by
  refine rs_enterI (own := RX1) ⟨by decide +kernel, rfl, Nat.le_of_ble_eq_true rfl⟩ ?_
  intro p e s m args below meth c Q C hret H locs ls hP hS hl
  obtain ⟨hx, hb, -⟩ := id C
  have hl : lv_has ls 5 [(0, .ref (ad 11)), (1, .int a1)] := hl
  unfold fX1_nextCorner at h
  refine lv_iload_n hx hb dX1_nextCorner_0 rfl (lv_at hl 1 rfl) ?_
  refine lv_istore_n (lv' := [(2, .int a1), (0, .ref (ad 11)), (1, .int a1)]) hx hb dX1_nextCorner_1 rfl hl (by decide) rfl (fun ls hl => ?_)
  refine lv_iconst (v := (0 : Int32)) hx hb dX1_nextCorner_2 (by decide) ?_
  refine lv_istore_n (lv' := [(3, .int (0 : Int32)), (2, .int a1), (0, .ref (ad 11)), (1, .int a1)]) hx hb dX1_nextCorner_3 rfl hl (by decide) rfl (fun ls hl => ?_)
  have hL4 : ∀ (n4 : Nat) (v1 : Int32) (v2 : Int32) (H : Heap) (locs : List Loc) (ls : Array Slot), va_P D vwCl (xW ad cI cJ M) H → va_S (xA ad) s.heap H locs → lv_has ls 5 [(0, .ref (ad 11)), (1, .int a1), (2, .int v1), (3, .int v2)] → lp (fun _ _ => none) (sX1_nextCorner_4 M a1) n4 v1 v2 = some o → W p l e rX1_nextCorner s m args below meth c H locs 0 0 Q (F0 m 4 ls []) := by
    intro n4
    induction n4 with
    | zero => intro v1 v2 H locs ls hP hS hl h; have h : (none : Option Int32) = some o := h; cases h
    | succ n4 ih4 =>
      intro v1 v2 H locs ls hP hS hl h
      have h : sX1_nextCorner_4 M a1 (lp (fun _ _ => none) (sX1_nextCorner_4 M a1) n4) v1 v2 = some o := h
      generalize lp (fun _ _ => none) (sX1_nextCorner_4 M a1) n4 = cont4 at h ih4
      unfold sX1_nextCorner_4 at h
      refine lv_iload_n hx hb dX1_nextCorner_4 rfl (lv_at hl 3 rfl) ?_
      refine lv_aload_n hx hb dX1_nextCorner_5 rfl (lv_at hl 0 rfl) ?_
      refine gfX1_28 C hP dX1_nextCorner_6 ?_
      refine lv_icmp_ge (tgt := 75) hx hb dX1_nextCorner_9 (by decide) (fun cd => ?_) (fun cd => ?_)
      · have h := (if_pos cd).symm.trans h
        refine lv_iload_n hx hb dX1_nextCorner_75 rfl (lv_at hl 2 rfl) ?_
        cases h
        exact hret H locs _ ls hP hS dX1_nextCorner_76
      · have h := (if_neg cd).symm.trans h
        refine lv_aload_n hx hb dX1_nextCorner_12 rfl (lv_at hl 0 rfl) ?_
        refine lv_iload_n hx hb dX1_nextCorner_13 rfl (lv_at hl 3 rfl) ?_
        refine lv_iload_n hx hb dX1_nextCorner_14 rfl (lv_at hl 1 rfl) ?_
        obtain ⟨v3, h1, h⟩ := rs_bind h
        refine rs_goI (rs_runV (b := 11) (As := [.int v2, .int a1]) (rest := []) C hP hS (kX1_same l D ad cI cJ tP tR M v2 a1 _ h1) mk_X1_same wd_298 (xR_11) rfl ⟨rfl, rfl, Nat.le_of_ble_eq_true rfl, Nat.le_of_ble_eq_true rfl⟩ rfl hl.1 (Nat.le_of_ble_eq_true rfl) dX1_nextCorner_15) hS (fun H locs hP hS => ?_)
        obtain ⟨v4, h1, h⟩ := rs_bind h
        have hJ5 : ∀ (H : Heap) (locs : List Loc) (ls : Array Slot), va_P D vwCl (xW ad cI cJ M) H → va_S (xA ad) s.heap H locs → lv_has ls 5 [(0, .ref (ad 11)), (1, .int a1), (2, .int v4), (3, .int v2)] → W p l e rX1_nextCorner s m args below meth c H locs 0 0 Q (F0 m 69 ls []) := by
          intro H locs ls hP hS hl
          refine lv_iinc (v := (v2 + 1)) (lv' := [(3, .int (v2 + 1)), (0, .ref (ad 11)), (1, .int a1), (2, .int v4)]) hx hb dX1_nextCorner_69 hl (k := 3) rfl rfl (by decide) rfl (fun ls hl => ?_)
          refine lv_goto (tgt := 4) hx hb dX1_nextCorner_72 (by decide) ?_
          exact ih4 _ _ H locs ls hP hS (lv_sub hl [1, 2, 3, 0] rfl) h
        replace h := h1
        clear h1
        refine lv_if_eq (tgt := 24) hx hb dX1_nextCorner_18 (by decide) (fun cd => ?_) (fun cd => ?_)
        · have h := (if_pos cd).symm.trans h
          refine lv_aload_n hx hb dX1_nextCorner_24 rfl (lv_at hl 0 rfl) ?_
          refine lv_iload_n hx hb dX1_nextCorner_25 rfl (lv_at hl 1 rfl) ?_
          refine lv_iload_n hx hb dX1_nextCorner_26 rfl (lv_at hl 2 rfl) ?_
          refine lv_iload_n hx hb dX1_nextCorner_27 rfl (lv_at hl 3 rfl) ?_
          obtain ⟨v6, h1, h⟩ := rs_bind h
          refine rs_goI (rs_runV (b := 11) (As := [.int a1, .int v1, .int v2]) (rest := []) C hP hS (kX1_sideOf l D ad cI cJ tP tR M a1 v1 v2 _ h1) mk_X1_sideOf wd_302 (xR_11) rfl ⟨rfl, rfl, Nat.le_of_ble_eq_true rfl, Nat.le_of_ble_eq_true rfl⟩ rfl hl.1 (Nat.le_of_ble_eq_true rfl) dX1_nextCorner_28) hS (fun H locs hP hS => ?_)
          refine lv_istore (lv' := [(4, .int v6), (0, .ref (ad 11)), (1, .int a1), (2, .int v1), (3, .int v2)]) hx hb dX1_nextCorner_31 hl (by decide) rfl (fun ls hl => ?_)
          refine lv_aload_n hx hb dX1_nextCorner_33 rfl (lv_at hl 1 rfl) ?_
          refine lv_iload_n hx hb dX1_nextCorner_34 rfl (lv_at hl 3 rfl) ?_
          refine lv_iload_n hx hb dX1_nextCorner_35 rfl (lv_at hl 2 rfl) ?_
          obtain ⟨v7, h1, h⟩ := rs_bind h
          refine rs_goI (rs_runV (b := 11) (As := [.int v1, .int a1]) (rest := []) C hP hS (kX1_same l D ad cI cJ tP tR M v1 a1 _ h1) mk_X1_same wd_298 (xR_11) rfl ⟨rfl, rfl, Nat.le_of_ble_eq_true rfl, Nat.le_of_ble_eq_true rfl⟩ rfl hl.1 (Nat.le_of_ble_eq_true rfl) dX1_nextCorner_36) hS (fun H locs hP hS => ?_)
          refine lv_if_ne (tgt := 67) hx hb dX1_nextCorner_39 (by decide) (fun cd => ?_) (fun cd => ?_)
          · have h := (if_neg cd).symm.trans h
            refine lv_iload_n hx hb dX1_nextCorner_67 rfl (lv_at hl 4 rfl) ?_
            refine lv_istore_n (lv' := [(2, .int v2), (4, .int v6), (0, .ref (ad 11)), (1, .int a1), (3, .int v2)]) hx hb dX1_nextCorner_68 rfl hl (by decide) rfl (fun ls hl => ?_)
            cases h
            exact hJ5 H locs ls hP hS (lv_sub hl [2, 3, 0, 4] rfl)
          · have h := (if_pos cd).symm.trans h
            refine lv_iload hx hb dX1_nextCorner_42 (lv_at hl 0 rfl) ?_
            refine lv_if_lt (tgt := 67) hx hb dX1_nextCorner_44 (by decide) (fun cd => ?_) (fun cd => ?_)
            · have h := (if_pos cd).symm.trans h
              refine lv_iload_n hx hb dX1_nextCorner_67 rfl (lv_at hl 4 rfl) ?_
              refine lv_istore_n (lv' := [(2, .int v2), (4, .int v6), (0, .ref (ad 11)), (1, .int a1), (3, .int v2)]) hx hb dX1_nextCorner_68 rfl hl (by decide) rfl (fun ls hl => ?_)
              cases h
              exact hJ5 H locs ls hP hS (lv_sub hl [2, 3, 0, 4] rfl)
            · have h := (if_neg cd).symm.trans h
              refine lv_iload hx hb dX1_nextCorner_47 (lv_at hl 0 rfl) ?_
              refine lv_if_ne (tgt := 69) hx hb dX1_nextCorner_49 (by decide) (fun cd => ?_) (fun cd => ?_)
              · have h := (if_neg cd).symm.trans h
                cases h
                exact hJ5 H locs ls hP hS (lv_sub hl [1, 2, 3, 4] rfl)
              · have h := (if_pos cd).symm.trans h
                refine lv_aload_n hx hb dX1_nextCorner_52 rfl (lv_at hl 1 rfl) ?_
                refine lv_iload_n hx hb dX1_nextCorner_53 rfl (lv_at hl 2 rfl) ?_
                refine lv_iload_n hx hb dX1_nextCorner_54 rfl (lv_at hl 4 rfl) ?_
                obtain ⟨v8, h1, h⟩ := rs_bind h
                refine rs_goI (rs_runV (b := 11) (As := [.int a1, .int v2]) (rest := []) C hP hS (kX1_far l D ad cI cJ tP tR M a1 v2 _ h1) mk_X1_far wd_306 (xR_11) rfl ⟨rfl, rfl, Nat.le_of_ble_eq_true rfl, Nat.le_of_ble_eq_true rfl⟩ rfl hl.1 (Nat.le_of_ble_eq_true rfl) dX1_nextCorner_55) hS (fun H locs hP hS => ?_)
                refine lv_aload_n hx hb dX1_nextCorner_58 rfl (lv_at hl 1 rfl) ?_
                refine lv_iload_n hx hb dX1_nextCorner_59 rfl (lv_at hl 2 rfl) ?_
                refine lv_iload_n hx hb dX1_nextCorner_60 rfl (lv_at hl 3 rfl) ?_
                obtain ⟨v9, h1, h⟩ := rs_bind h
                refine rs_goI (rs_runV (b := 11) (As := [.int a1, .int v1]) (rest := [.int v8]) C hP hS (kX1_far l D ad cI cJ tP tR M a1 v1 _ h1) mk_X1_far wd_306 (xR_11) rfl ⟨rfl, rfl, Nat.le_of_ble_eq_true rfl, Nat.le_of_ble_eq_true rfl⟩ rfl hl.1 (Nat.le_of_ble_eq_true rfl) dX1_nextCorner_61) hS (fun H locs hP hS => ?_)
                refine lv_icmp_le (tgt := 69) hx hb dX1_nextCorner_64 (by decide) (fun cd => ?_) (fun cd => ?_)
                · have h := (if_pos cd).symm.trans h
                  cases h
                  exact hJ5 H locs ls hP hS (lv_sub hl [1, 2, 3, 4] rfl)
                · have h := (if_neg cd).symm.trans h
                  refine lv_iload_n hx hb dX1_nextCorner_67 rfl (lv_at hl 4 rfl) ?_
                  refine lv_istore_n (lv' := [(2, .int v2), (4, .int v6), (0, .ref (ad 11)), (1, .int a1), (3, .int v2)]) hx hb dX1_nextCorner_68 rfl hl (by decide) rfl (fun ls hl => ?_)
                  cases h
                  exact hJ5 H locs ls hP hS (lv_sub hl [2, 3, 0, 4] rfl)
        · have h := (if_neg cd).symm.trans h
          refine lv_goto (tgt := 69) hx hb dX1_nextCorner_21 (by decide) ?_
          cases h
          exact hJ5 H locs ls hP hS (lv_sub hl [0, 1, 2, 3] rfl)
  exact hL4 N _ _ H locs ls hP hS (lv_sub hl [2, 3, 1, 0] rfl) h
abbrev rX1_wrap : Room := { frames := 3, cells := 0, slots := 0, locals := 67 }
theorem dX1_wrap_0 : decode cX1_wrap 0 = .ok (.aload_n 0, 1) := by decide +kernel
theorem dX1_wrap_1 : decode cX1_wrap 1 = .ok (.iconst 0, 1) := by decide +kernel
theorem dX1_wrap_2 : decode cX1_wrap 2 = .ok (.putfield 18, 3) := by decide +kernel
theorem dX1_wrap_5 : decode cX1_wrap 5 = .ok (.aload_n 0, 1) := by decide +kernel
theorem dX1_wrap_6 : decode cX1_wrap 6 = .ok (.invokevirtual 64, 3) := by decide +kernel
theorem dX1_wrap_9 : decode cX1_wrap 9 = .ok (.istore_n 1, 1) := by decide +kernel
theorem dX1_wrap_10 : decode cX1_wrap 10 = .ok (.iload_n 1, 1) := by decide +kernel
theorem dX1_wrap_11 : decode cX1_wrap 11 = .ok (.istore_n 2, 1) := by decide +kernel
theorem dX1_wrap_12 : decode cX1_wrap 12 = .ok (.iconst 0, 1) := by decide +kernel
theorem dX1_wrap_13 : decode cX1_wrap 13 = .ok (.istore_n 3, 1) := by decide +kernel
theorem dX1_wrap_14 : decode cX1_wrap 14 = .ok (.iload_n 3, 1) := by decide +kernel
theorem dX1_wrap_15 : decode cX1_wrap 15 = .ok (.aload_n 0, 1) := by decide +kernel
theorem dX1_wrap_16 : decode cX1_wrap 16 = .ok (.getfield 28, 3) := by decide +kernel
theorem dX1_wrap_19 : decode cX1_wrap 19 = .ok (.if_icmp .ge 65, 3) := by decide +kernel
theorem dX1_wrap_22 : decode cX1_wrap 22 = .ok (.aload_n 0, 1) := by decide +kernel
theorem dX1_wrap_23 : decode cX1_wrap 23 = .ok (.getfield 11, 3) := by decide +kernel
theorem dX1_wrap_26 : decode cX1_wrap 26 = .ok (.aload_n 0, 1) := by decide +kernel
theorem dX1_wrap_27 : decode cX1_wrap 27 = .ok (.getfield 18, 3) := by decide +kernel
theorem dX1_wrap_30 : decode cX1_wrap 30 = .ok (.aload_n 0, 1) := by decide +kernel
theorem dX1_wrap_31 : decode cX1_wrap 31 = .ok (.getfield 22, 3) := by decide +kernel
theorem dX1_wrap_34 : decode cX1_wrap 34 = .ok (.iload_n 2, 1) := by decide +kernel
theorem dX1_wrap_35 : decode cX1_wrap 35 = .ok (.iaload, 1) := by decide +kernel
theorem dX1_wrap_36 : decode cX1_wrap 36 = .ok (.iastore, 1) := by decide +kernel
theorem dX1_wrap_37 : decode cX1_wrap 37 = .ok (.aload_n 0, 1) := by decide +kernel
theorem dX1_wrap_38 : decode cX1_wrap 38 = .ok (.getfield 15, 3) := by decide +kernel
theorem dX1_wrap_41 : decode cX1_wrap 41 = .ok (.aload_n 0, 1) := by decide +kernel
theorem dX1_wrap_42 : decode cX1_wrap 42 = .ok (.getfield 18, 3) := by decide +kernel
theorem dX1_wrap_45 : decode cX1_wrap 45 = .ok (.aload_n 0, 1) := by decide +kernel
theorem dX1_wrap_46 : decode cX1_wrap 46 = .ok (.getfield 25, 3) := by decide +kernel
theorem dX1_wrap_49 : decode cX1_wrap 49 = .ok (.iload_n 2, 1) := by decide +kernel
theorem dX1_wrap_50 : decode cX1_wrap 50 = .ok (.iaload, 1) := by decide +kernel
theorem dX1_wrap_51 : decode cX1_wrap 51 = .ok (.iastore, 1) := by decide +kernel
theorem dX1_wrap_52 : decode cX1_wrap 52 = .ok (.aload_n 0, 1) := by decide +kernel
theorem dX1_wrap_53 : decode cX1_wrap 53 = .ok (.dup, 1) := by decide +kernel
theorem dX1_wrap_54 : decode cX1_wrap 54 = .ok (.getfield 18, 3) := by decide +kernel
theorem dX1_wrap_57 : decode cX1_wrap 57 = .ok (.iconst 1, 1) := by decide +kernel
theorem dX1_wrap_58 : decode cX1_wrap 58 = .ok (.iadd, 1) := by decide +kernel
theorem dX1_wrap_59 : decode cX1_wrap 59 = .ok (.putfield 18, 3) := by decide +kernel
theorem dX1_wrap_62 : decode cX1_wrap 62 = .ok (.aload_n 0, 1) := by decide +kernel
theorem dX1_wrap_63 : decode cX1_wrap 63 = .ok (.iload_n 2, 1) := by decide +kernel
theorem dX1_wrap_64 : decode cX1_wrap 64 = .ok (.invokevirtual 67, 3) := by decide +kernel
theorem dX1_wrap_67 : decode cX1_wrap 67 = .ok (.istore_n 2, 1) := by decide +kernel
theorem dX1_wrap_68 : decode cX1_wrap 68 = .ok (.aload_n 0, 1) := by decide +kernel
theorem dX1_wrap_69 : decode cX1_wrap 69 = .ok (.iload_n 2, 1) := by decide +kernel
theorem dX1_wrap_70 : decode cX1_wrap 70 = .ok (.iload_n 1, 1) := by decide +kernel
theorem dX1_wrap_71 : decode cX1_wrap 71 = .ok (.invokevirtual 70, 3) := by decide +kernel
theorem dX1_wrap_74 : decode cX1_wrap 74 = .ok (.ifCond .eq 4, 3) := by decide +kernel
theorem dX1_wrap_77 : decode cX1_wrap 77 = .ok (.return_, 1) := by decide +kernel
theorem dX1_wrap_78 : decode cX1_wrap 78 = .ok (.iinc 3 1, 3) := by decide +kernel
theorem dX1_wrap_81 : decode cX1_wrap 81 = .ok (.goto (-67), 3) := by decide +kernel
theorem dX1_wrap_84 : decode cX1_wrap 84 = .ok (.return_, 1) := by decide +kernel
set_option maxRecDepth 100000 in
set_option maxHeartbeats 4000000 in
theorem kX1_wrap (l : Launch) (D : va_G) (ad : Nat → Nat) (cI cJ : ClassId) (tP tR : Nat) (N : Nat) (M : Mem)   (o : Mem) (h : fX1_wrap N M  = some o) : qMet l D cI cJ tP tR (xA ad) (xW ad cI cJ) yX1_wrap cX1_wrap 4 none rX1_wrap [.ref (ad 11)] M (qQv D (xA ad) (xW ad cI cJ) o) := by
  refine rs_enterV (own := RX1) ⟨by decide +kernel, rfl, Nat.le_of_ble_eq_true rfl⟩ ?_
  intro p e s m args below meth c Q C hret H locs ls hP hS hl
  obtain ⟨hx, hb, -⟩ := id C
  have hl : lv_has ls 4 [(0, .ref (ad 11))] := hl
  unfold fX1_wrap at h
  refine lv_aload_n hx hb dX1_wrap_0 rfl (lv_at hl 0 rfl) ?_
  refine lv_iconst (v := (0 : Int32)) hx hb dX1_wrap_1 (by decide) ?_
  refine pfX1_18 C hP hS dX1_wrap_2 h (fun M1 h H locs hP hS => ?_)
  refine lv_aload_n hx hb dX1_wrap_5 rfl (lv_at hl 0 rfl) ?_
  obtain ⟨v2, h1, h⟩ := rs_bind h
  refine rs_goI (rs_runV (b := 11) (As := []) (rest := []) C hP hS (kX1_firstPoint l D ad cI cJ tP tR N M1  _ h1) mk_X1_firstPoint wd_290 (xR_11) rfl ⟨rfl, rfl, Nat.le_of_ble_eq_true rfl, Nat.le_of_ble_eq_true rfl⟩ rfl hl.1 (Nat.le_of_ble_eq_true rfl) dX1_wrap_6) hS (fun H locs hP hS => ?_)
  refine lv_istore_n (lv' := [(1, .int v2), (0, .ref (ad 11))]) hx hb dX1_wrap_9 rfl hl (by decide) rfl (fun ls hl => ?_)
  refine lv_iload_n hx hb dX1_wrap_10 rfl (lv_at hl 0 rfl) ?_
  refine lv_istore_n (lv' := [(2, .int v2), (1, .int v2), (0, .ref (ad 11))]) hx hb dX1_wrap_11 rfl hl (by decide) rfl (fun ls hl => ?_)
  refine lv_iconst (v := (0 : Int32)) hx hb dX1_wrap_12 (by decide) ?_
  refine lv_istore_n (lv' := [(3, .int (0 : Int32)), (2, .int v2), (1, .int v2), (0, .ref (ad 11))]) hx hb dX1_wrap_13 rfl hl (by decide) rfl (fun ls hl => ?_)
  have hL14 : ∀ (n14 : Nat) (v3 : Int32) (v4 : Int32) (M5 : Mem) (H : Heap) (locs : List Loc) (ls : Array Slot), va_P D vwCl (xW ad cI cJ M5) H → va_S (xA ad) s.heap H locs → lv_has ls 4 [(0, .ref (ad 11)), (1, .int v2), (2, .int v3), (3, .int v4)] → lp (fun _ _ _ => none) (sX1_wrap_14 N v2) n14 v3 v4 M5 = some o → W p l e rX1_wrap s m args below meth c H locs 0 0 Q (F0 m 14 ls []) := by
    intro n14
    induction n14 with
    | zero => intro v3 v4 M5 H locs ls hP hS hl h; have h : (none : Option Mem) = some o := h; cases h
    | succ n14 ih14 =>
      intro v3 v4 M5 H locs ls hP hS hl h
      have h : sX1_wrap_14 N v2 (lp (fun _ _ _ => none) (sX1_wrap_14 N v2) n14) v3 v4 M5 = some o := h
      generalize lp (fun _ _ _ => none) (sX1_wrap_14 N v2) n14 = cont14 at h ih14
      unfold sX1_wrap_14 at h
      refine lv_iload_n hx hb dX1_wrap_14 rfl (lv_at hl 3 rfl) ?_
      refine lv_aload_n hx hb dX1_wrap_15 rfl (lv_at hl 0 rfl) ?_
      refine gfX1_28 C hP dX1_wrap_16 ?_
      refine lv_icmp_ge (tgt := 84) hx hb dX1_wrap_19 (by decide) (fun cd => ?_) (fun cd => ?_)
      · have h := (if_pos cd).symm.trans h
        cases h
        exact hret H locs _ ls hP hS dX1_wrap_84
      · have h := (if_neg cd).symm.trans h
        refine lv_aload_n hx hb dX1_wrap_22 rfl (lv_at hl 0 rfl) ?_
        refine gfX1_11 C hP dX1_wrap_23 ?_
        refine lv_aload_n hx hb dX1_wrap_26 rfl (lv_at hl 0 rfl) ?_
        refine gfX1_18 C hP dX1_wrap_27 ?_
        refine lv_aload_n hx hb dX1_wrap_30 rfl (lv_at hl 0 rfl) ?_
        refine gfX1_22 C hP dX1_wrap_31 ?_
        refine lv_iload_n hx hb dX1_wrap_34 rfl (lv_at hl 2 rfl) ?_
        refine rs_iald C hP xIA_14 dX1_wrap_35 h (fun v6 h => ?_)
        refine rs_iast C hP hS xIA_12 dX1_wrap_36 h (fun M7 h H locs hP hS => ?_)
        refine lv_aload_n hx hb dX1_wrap_37 rfl (lv_at hl 0 rfl) ?_
        refine gfX1_15 C hP dX1_wrap_38 ?_
        refine lv_aload_n hx hb dX1_wrap_41 rfl (lv_at hl 0 rfl) ?_
        refine gfX1_18 C hP dX1_wrap_42 ?_
        refine lv_aload_n hx hb dX1_wrap_45 rfl (lv_at hl 0 rfl) ?_
        refine gfX1_25 C hP dX1_wrap_46 ?_
        refine lv_iload_n hx hb dX1_wrap_49 rfl (lv_at hl 2 rfl) ?_
        refine rs_iald C hP xIA_15 dX1_wrap_50 h (fun v8 h => ?_)
        refine rs_iast C hP hS xIA_13 dX1_wrap_51 h (fun M9 h H locs hP hS => ?_)
        refine lv_aload_n hx hb dX1_wrap_52 rfl (lv_at hl 0 rfl) ?_
        refine lv_dup hx hb dX1_wrap_53 rfl ?_
        refine gfX1_18 C hP dX1_wrap_54 ?_
        refine lv_iconst (v := (1 : Int32)) hx hb dX1_wrap_57 (by decide) ?_
        refine lv_iadd hx hb dX1_wrap_58 ?_
        refine pfX1_18 C hP hS dX1_wrap_59 h (fun M10 h H locs hP hS => ?_)
        refine lv_aload_n hx hb dX1_wrap_62 rfl (lv_at hl 0 rfl) ?_
        refine lv_iload_n hx hb dX1_wrap_63 rfl (lv_at hl 2 rfl) ?_
        obtain ⟨v11, h1, h⟩ := rs_bind h
        refine rs_goI (rs_runV (b := 11) (As := [.int v3]) (rest := []) C hP hS (kX1_nextCorner l D ad cI cJ tP tR N M10 v3 _ h1) mk_X1_nextCorner wd_294 (xR_11) rfl ⟨rfl, rfl, Nat.le_of_ble_eq_true rfl, Nat.le_of_ble_eq_true rfl⟩ rfl hl.1 (Nat.le_of_ble_eq_true rfl) dX1_wrap_64) hS (fun H locs hP hS => ?_)
        refine lv_istore_n (lv' := [(2, .int v11), (0, .ref (ad 11)), (1, .int v2), (3, .int v4)]) hx hb dX1_wrap_67 rfl hl (by decide) rfl (fun ls hl => ?_)
        refine lv_aload_n hx hb dX1_wrap_68 rfl (lv_at hl 1 rfl) ?_
        refine lv_iload_n hx hb dX1_wrap_69 rfl (lv_at hl 0 rfl) ?_
        refine lv_iload_n hx hb dX1_wrap_70 rfl (lv_at hl 2 rfl) ?_
        obtain ⟨v12, h1, h⟩ := rs_bind h
        refine rs_goI (rs_runV (b := 11) (As := [.int v11, .int v2]) (rest := []) C hP hS (kX1_same l D ad cI cJ tP tR M10 v11 v2 _ h1) mk_X1_same wd_298 (xR_11) rfl ⟨rfl, rfl, Nat.le_of_ble_eq_true rfl, Nat.le_of_ble_eq_true rfl⟩ rfl hl.1 (Nat.le_of_ble_eq_true rfl) dX1_wrap_71) hS (fun H locs hP hS => ?_)
        refine lv_if_eq (tgt := 78) hx hb dX1_wrap_74 (by decide) (fun cd => ?_) (fun cd => ?_)
        · have h := (if_pos cd).symm.trans h
          refine lv_iinc (v := (v4 + 1)) (lv' := [(3, .int (v4 + 1)), (2, .int v11), (0, .ref (ad 11)), (1, .int v2)]) hx hb dX1_wrap_78 hl (k := 3) rfl rfl (by decide) rfl (fun ls hl => ?_)
          refine lv_goto (tgt := 14) hx hb dX1_wrap_81 (by decide) ?_
          exact ih14 _ _ _ H locs ls hP hS (lv_sub hl [2, 3, 1, 0] rfl) h
        · have h := (if_neg cd).symm.trans h
          cases h
          exact hret H locs _ ls hP hS dX1_wrap_77
  exact hL14 N _ _ _ H locs ls hP hS (lv_sub hl [3, 2, 1, 0] rfl) h
abbrev rX1_drawSum : Room := { frames := 4, cells := 0, slots := 0, locals := 90 }
theorem dX1_drawSum_0 : decode cX1_drawSum 0 = .ok (.aload_n 0, 1) := by decide +kernel
theorem dX1_drawSum_1 : decode cX1_drawSum 1 = .ok (.iconst 0, 1) := by decide +kernel
theorem dX1_drawSum_2 : decode cX1_drawSum 2 = .ok (.putfield 28, 3) := by decide +kernel
theorem dX1_drawSum_5 : decode cX1_drawSum 5 = .ok (.iconst 0, 1) := by decide +kernel
theorem dX1_drawSum_6 : decode cX1_drawSum 6 = .ok (.istore_n 3, 1) := by decide +kernel
theorem dX1_drawSum_7 : decode cX1_drawSum 7 = .ok (.iload_n 3, 1) := by decide +kernel
theorem dX1_drawSum_8 : decode cX1_drawSum 8 = .ok (.aload_n 1, 1) := by decide +kernel
theorem dX1_drawSum_9 : decode cX1_drawSum 9 = .ok (.getfield 31, 3) := by decide +kernel
theorem dX1_drawSum_12 : decode cX1_drawSum 12 = .ok (.if_icmp .ge 59, 3) := by decide +kernel
theorem dX1_drawSum_15 : decode cX1_drawSum 15 = .ok (.iconst 0, 1) := by decide +kernel
theorem dX1_drawSum_16 : decode cX1_drawSum 16 = .ok (.istore 4, 2) := by decide +kernel
theorem dX1_drawSum_18 : decode cX1_drawSum 18 = .ok (.iload 4, 2) := by decide +kernel
theorem dX1_drawSum_20 : decode cX1_drawSum 20 = .ok (.aload_n 2, 1) := by decide +kernel
theorem dX1_drawSum_21 : decode cX1_drawSum 21 = .ok (.getfield 31, 3) := by decide +kernel
theorem dX1_drawSum_24 : decode cX1_drawSum 24 = .ok (.if_icmp .ge 41, 3) := by decide +kernel
theorem dX1_drawSum_27 : decode cX1_drawSum 27 = .ok (.aload_n 0, 1) := by decide +kernel
theorem dX1_drawSum_28 : decode cX1_drawSum 28 = .ok (.aload_n 1, 1) := by decide +kernel
theorem dX1_drawSum_29 : decode cX1_drawSum 29 = .ok (.getfield 36, 3) := by decide +kernel
theorem dX1_drawSum_32 : decode cX1_drawSum 32 = .ok (.iload_n 3, 1) := by decide +kernel
theorem dX1_drawSum_33 : decode cX1_drawSum 33 = .ok (.iaload, 1) := by decide +kernel
theorem dX1_drawSum_34 : decode cX1_drawSum 34 = .ok (.aload_n 2, 1) := by decide +kernel
theorem dX1_drawSum_35 : decode cX1_drawSum 35 = .ok (.getfield 36, 3) := by decide +kernel
theorem dX1_drawSum_38 : decode cX1_drawSum 38 = .ok (.iload 4, 2) := by decide +kernel
theorem dX1_drawSum_40 : decode cX1_drawSum 40 = .ok (.iaload, 1) := by decide +kernel
theorem dX1_drawSum_41 : decode cX1_drawSum 41 = .ok (.iadd, 1) := by decide +kernel
theorem dX1_drawSum_42 : decode cX1_drawSum 42 = .ok (.aload_n 1, 1) := by decide +kernel
theorem dX1_drawSum_43 : decode cX1_drawSum 43 = .ok (.getfield 39, 3) := by decide +kernel
theorem dX1_drawSum_46 : decode cX1_drawSum 46 = .ok (.iload_n 3, 1) := by decide +kernel
theorem dX1_drawSum_47 : decode cX1_drawSum 47 = .ok (.iaload, 1) := by decide +kernel
theorem dX1_drawSum_48 : decode cX1_drawSum 48 = .ok (.aload_n 2, 1) := by decide +kernel
theorem dX1_drawSum_49 : decode cX1_drawSum 49 = .ok (.getfield 39, 3) := by decide +kernel
theorem dX1_drawSum_52 : decode cX1_drawSum 52 = .ok (.iload 4, 2) := by decide +kernel
theorem dX1_drawSum_54 : decode cX1_drawSum 54 = .ok (.iaload, 1) := by decide +kernel
theorem dX1_drawSum_55 : decode cX1_drawSum 55 = .ok (.iadd, 1) := by decide +kernel
theorem dX1_drawSum_56 : decode cX1_drawSum 56 = .ok (.invokevirtual 42, 3) := by decide +kernel
theorem dX1_drawSum_59 : decode cX1_drawSum 59 = .ok (.iinc 4 1, 3) := by decide +kernel
theorem dX1_drawSum_62 : decode cX1_drawSum 62 = .ok (.goto (-44), 3) := by decide +kernel
theorem dX1_drawSum_65 : decode cX1_drawSum 65 = .ok (.iinc 3 1, 3) := by decide +kernel
theorem dX1_drawSum_68 : decode cX1_drawSum 68 = .ok (.goto (-61), 3) := by decide +kernel
theorem dX1_drawSum_71 : decode cX1_drawSum 71 = .ok (.aload_n 0, 1) := by decide +kernel
theorem dX1_drawSum_72 : decode cX1_drawSum 72 = .ok (.invokevirtual 46, 3) := by decide +kernel
theorem dX1_drawSum_75 : decode cX1_drawSum 75 = .ok (.return_, 1) := by decide +kernel
set_option maxRecDepth 100000 in
set_option maxHeartbeats 4000000 in
theorem kX1_drawSum (l : Launch) (D : va_G) (ad : Nat → Nat) (cI cJ : ClassId) (tP tR : Nat) (N : Nat) (M : Mem) (a1 : Nat) (a2 : Nat) (ha1 : a1 = 1 ∨ a1 = 6) (ha2 : a2 = 1 ∨ a2 = 6) (o : Mem) (h : fX1_drawSum N M a1 a2 = some o) : qMet l D cI cJ tP tR (xA ad) (xW ad cI cJ) yX1_drawSum cX1_drawSum 5 none rX1_drawSum [.ref (ad 11), .ref (ad a1), .ref (ad a2)] M (qQv D (xA ad) (xW ad cI cJ) o) := by
  refine rs_enterV (own := RX1) ⟨by decide +kernel, rfl, Nat.le_of_ble_eq_true rfl⟩ ?_
  intro p e s m args below meth c Q C hret H locs ls hP hS hl
  obtain ⟨hx, hb, -⟩ := id C
  have hl : lv_has ls 5 [(0, .ref (ad 11)), (1, .ref (ad a1)), (2, .ref (ad a2))] := hl
  unfold fX1_drawSum at h
  refine lv_aload_n hx hb dX1_drawSum_0 rfl (lv_at hl 0 rfl) ?_
  refine lv_iconst (v := (0 : Int32)) hx hb dX1_drawSum_1 (by decide) ?_
  refine pfX1_28 C hP hS dX1_drawSum_2 h (fun M1 h H locs hP hS => ?_)
  refine lv_iconst (v := (0 : Int32)) hx hb dX1_drawSum_5 (by decide) ?_
  refine lv_istore_n (lv' := [(3, .int (0 : Int32)), (0, .ref (ad 11)), (1, .ref (ad a1)), (2, .ref (ad a2))]) hx hb dX1_drawSum_6 rfl hl (by decide) rfl (fun ls hl => ?_)
  have hL7 : ∀ (n7 : Nat) (v2 : Int32) (M3 : Mem) (H : Heap) (locs : List Loc) (ls : Array Slot), va_P D vwCl (xW ad cI cJ M3) H → va_S (xA ad) s.heap H locs → lv_has ls 5 [(0, .ref (ad 11)), (1, .ref (ad a1)), (2, .ref (ad a2)), (3, .int v2)] → lp (fun _ _ => none) (sX1_drawSum_7 a1 N a2) n7 v2 M3 = some o → W p l e rX1_drawSum s m args below meth c H locs 0 0 Q (F0 m 7 ls []) := by
    intro n7
    induction n7 with
    | zero => intro v2 M3 H locs ls hP hS hl h; have h : (none : Option Mem) = some o := h; cases h
    | succ n7 ih7 =>
      intro v2 M3 H locs ls hP hS hl h
      have h : sX1_drawSum_7 a1 N a2 (lp (fun _ _ => none) (sX1_drawSum_7 a1 N a2) n7) v2 M3 = some o := h
      generalize lp (fun _ _ => none) (sX1_drawSum_7 a1 N a2) n7 = cont7 at h ih7
      unfold sX1_drawSum_7 at h
      refine lv_iload_n hx hb dX1_drawSum_7 rfl (lv_at hl 3 rfl) ?_
      refine lv_aload_n hx hb dX1_drawSum_8 rfl (lv_at hl 1 rfl) ?_
      refine gfX1_31 C hP ha1 dX1_drawSum_9 ?_
      refine lv_icmp_ge (tgt := 71) hx hb dX1_drawSum_12 (by decide) (fun cd => ?_) (fun cd => ?_)
      · have h := (if_pos cd).symm.trans h
        refine lv_aload_n hx hb dX1_drawSum_71 rfl (lv_at hl 0 rfl) ?_
        obtain ⟨M4, h1, h⟩ := rs_bind h
        refine rs_goV (rs_runV (b := 11) (As := []) (rest := []) C hP hS (kX1_wrap l D ad cI cJ tP tR N M3  _ h1) mk_X1_wrap wd_286 (xR_11) rfl ⟨rfl, rfl, Nat.le_of_ble_eq_true rfl, Nat.le_of_ble_eq_true rfl⟩ rfl hl.1 (Nat.le_of_ble_eq_true rfl) dX1_drawSum_72) hS (fun H locs hP hS => ?_)
        cases h
        exact hret H locs _ ls hP hS dX1_drawSum_75
      · have h := (if_neg cd).symm.trans h
        refine lv_iconst (v := (0 : Int32)) hx hb dX1_drawSum_15 (by decide) ?_
        refine lv_istore (lv' := [(4, .int (0 : Int32)), (0, .ref (ad 11)), (1, .ref (ad a1)), (2, .ref (ad a2)), (3, .int v2)]) hx hb dX1_drawSum_16 hl (by decide) rfl (fun ls hl => ?_)
        obtain ⟨M5, h1, h⟩ := rs_bind h
        have hJ6 : ∀ (H : Heap) (locs : List Loc) (ls : Array Slot), va_P D vwCl (xW ad cI cJ M5) H → va_S (xA ad) s.heap H locs → lv_has ls 5 [(0, .ref (ad 11)), (1, .ref (ad a1)), (2, .ref (ad a2)), (3, .int v2)] → W p l e rX1_drawSum s m args below meth c H locs 0 0 Q (F0 m 65 ls []) := by
          intro H locs ls hP hS hl
          refine lv_iinc (v := (v2 + 1)) (lv' := [(3, .int (v2 + 1)), (0, .ref (ad 11)), (1, .ref (ad a1)), (2, .ref (ad a2))]) hx hb dX1_drawSum_65 hl (k := 3) rfl rfl (by decide) rfl (fun ls hl => ?_)
          refine lv_goto (tgt := 7) hx hb dX1_drawSum_68 (by decide) ?_
          exact ih7 _ _ H locs ls hP hS (lv_sub hl [1, 2, 3, 0] rfl) h
        replace h := h1
        clear h1
        have hL18 : ∀ (n18 : Nat) (v7 : Int32) (M8 : Mem) (H : Heap) (locs : List Loc) (ls : Array Slot), va_P D vwCl (xW ad cI cJ M8) H → va_S (xA ad) s.heap H locs → lv_has ls 5 [(0, .ref (ad 11)), (1, .ref (ad a1)), (2, .ref (ad a2)), (3, .int v2), (4, .int v7)] → lp (fun _ _ => none) (sX1_drawSum_18 a2 a1 v2) n18 v7 M8 = some M5 → W p l e rX1_drawSum s m args below meth c H locs 0 0 Q (F0 m 18 ls []) := by
          intro n18
          induction n18 with
          | zero => intro v7 M8 H locs ls hP hS hl h; have h : (none : Option Mem) = some M5 := h; cases h
          | succ n18 ih18 =>
            intro v7 M8 H locs ls hP hS hl h
            have h : sX1_drawSum_18 a2 a1 v2 (lp (fun _ _ => none) (sX1_drawSum_18 a2 a1 v2) n18) v7 M8 = some M5 := h
            generalize lp (fun _ _ => none) (sX1_drawSum_18 a2 a1 v2) n18 = cont18 at h ih18
            unfold sX1_drawSum_18 at h
            refine lv_iload hx hb dX1_drawSum_18 (lv_at hl 4 rfl) ?_
            refine lv_aload_n hx hb dX1_drawSum_20 rfl (lv_at hl 2 rfl) ?_
            refine gfX1_31 C hP ha2 dX1_drawSum_21 ?_
            refine lv_icmp_ge (tgt := 65) hx hb dX1_drawSum_24 (by decide) (fun cd => ?_) (fun cd => ?_)
            · have h := (if_pos cd).symm.trans h
              cases h
              exact hJ6 H locs ls hP hS (lv_sub hl [0, 1, 2, 3] rfl)
            · have h := (if_neg cd).symm.trans h
              refine lv_aload_n hx hb dX1_drawSum_27 rfl (lv_at hl 0 rfl) ?_
              refine lv_aload_n hx hb dX1_drawSum_28 rfl (lv_at hl 1 rfl) ?_
              refine gfX1_36 C hP ha1 dX1_drawSum_29 ?_
              refine lv_iload_n hx hb dX1_drawSum_32 rfl (lv_at hl 3 rfl) ?_
              refine rs_iald C hP (xIA_e1 ha1) dX1_drawSum_33 h (fun v9 h => ?_)
              refine lv_aload_n hx hb dX1_drawSum_34 rfl (lv_at hl 2 rfl) ?_
              refine gfX1_36 C hP ha2 dX1_drawSum_35 ?_
              refine lv_iload hx hb dX1_drawSum_38 (lv_at hl 4 rfl) ?_
              refine rs_iald C hP (xIA_e1 ha2) dX1_drawSum_40 h (fun v10 h => ?_)
              refine lv_iadd hx hb dX1_drawSum_41 ?_
              refine lv_aload_n hx hb dX1_drawSum_42 rfl (lv_at hl 1 rfl) ?_
              refine gfX1_39 C hP ha1 dX1_drawSum_43 ?_
              refine lv_iload_n hx hb dX1_drawSum_46 rfl (lv_at hl 3 rfl) ?_
              refine rs_iald C hP (xIA_e2 ha1) dX1_drawSum_47 h (fun v11 h => ?_)
              refine lv_aload_n hx hb dX1_drawSum_48 rfl (lv_at hl 2 rfl) ?_
              refine gfX1_39 C hP ha2 dX1_drawSum_49 ?_
              refine lv_iload hx hb dX1_drawSum_52 (lv_at hl 4 rfl) ?_
              refine rs_iald C hP (xIA_e2 ha2) dX1_drawSum_54 h (fun v12 h => ?_)
              refine lv_iadd hx hb dX1_drawSum_55 ?_
              obtain ⟨M13, h1, h⟩ := rs_bind h
              refine rs_goV (rs_runV (b := 11) (As := [.int (v9 + v10), .int (v11 + v12)]) (rest := []) C hP hS (kX1_put l D ad cI cJ tP tR M8 (v9 + v10) (v11 + v12) _ h1) mk_X1_put wd_282 (xR_11) rfl ⟨rfl, rfl, Nat.le_of_ble_eq_true rfl, Nat.le_of_ble_eq_true rfl⟩ rfl hl.1 (Nat.le_of_ble_eq_true rfl) dX1_drawSum_56) hS (fun H locs hP hS => ?_)
              refine lv_iinc (v := (v7 + 1)) (lv' := [(4, .int (v7 + 1)), (0, .ref (ad 11)), (1, .ref (ad a1)), (2, .ref (ad a2)), (3, .int v2)]) hx hb dX1_drawSum_59 hl (k := 4) rfl rfl (by decide) rfl (fun ls hl => ?_)
              refine lv_goto (tgt := 18) hx hb dX1_drawSum_62 (by decide) ?_
              exact ih18 _ _ H locs ls hP hS (lv_sub hl [1, 2, 3, 4, 0] rfl) h
        exact hL18 N _ _ H locs ls hP hS (lv_sub hl [1, 2, 3, 4, 0] rfl) h
  exact hL7 N _ _ H locs ls hP hS (lv_sub hl [1, 2, 3, 0] rfl) h
abbrev rX1_drawOne : Room := { frames := 4, cells := 0, slots := 0, locals := 90 }
theorem dX1_drawOne_0 : decode cX1_drawOne 0 = .ok (.aload_n 0, 1) := by decide +kernel
theorem dX1_drawOne_1 : decode cX1_drawOne 1 = .ok (.iconst 0, 1) := by decide +kernel
theorem dX1_drawOne_2 : decode cX1_drawOne 2 = .ok (.putfield 28, 3) := by decide +kernel
theorem dX1_drawOne_5 : decode cX1_drawOne 5 = .ok (.iconst 0, 1) := by decide +kernel
theorem dX1_drawOne_6 : decode cX1_drawOne 6 = .ok (.istore_n 2, 1) := by decide +kernel
theorem dX1_drawOne_7 : decode cX1_drawOne 7 = .ok (.iload_n 2, 1) := by decide +kernel
theorem dX1_drawOne_8 : decode cX1_drawOne 8 = .ok (.aload_n 1, 1) := by decide +kernel
theorem dX1_drawOne_9 : decode cX1_drawOne 9 = .ok (.getfield 31, 3) := by decide +kernel
theorem dX1_drawOne_12 : decode cX1_drawOne 12 = .ok (.if_icmp .ge 25, 3) := by decide +kernel
theorem dX1_drawOne_15 : decode cX1_drawOne 15 = .ok (.aload_n 0, 1) := by decide +kernel
theorem dX1_drawOne_16 : decode cX1_drawOne 16 = .ok (.aload_n 1, 1) := by decide +kernel
theorem dX1_drawOne_17 : decode cX1_drawOne 17 = .ok (.getfield 36, 3) := by decide +kernel
theorem dX1_drawOne_20 : decode cX1_drawOne 20 = .ok (.iload_n 2, 1) := by decide +kernel
theorem dX1_drawOne_21 : decode cX1_drawOne 21 = .ok (.iaload, 1) := by decide +kernel
theorem dX1_drawOne_22 : decode cX1_drawOne 22 = .ok (.aload_n 1, 1) := by decide +kernel
theorem dX1_drawOne_23 : decode cX1_drawOne 23 = .ok (.getfield 39, 3) := by decide +kernel
theorem dX1_drawOne_26 : decode cX1_drawOne 26 = .ok (.iload_n 2, 1) := by decide +kernel
theorem dX1_drawOne_27 : decode cX1_drawOne 27 = .ok (.iaload, 1) := by decide +kernel
theorem dX1_drawOne_28 : decode cX1_drawOne 28 = .ok (.invokevirtual 42, 3) := by decide +kernel
theorem dX1_drawOne_31 : decode cX1_drawOne 31 = .ok (.iinc 2 1, 3) := by decide +kernel
theorem dX1_drawOne_34 : decode cX1_drawOne 34 = .ok (.goto (-27), 3) := by decide +kernel
theorem dX1_drawOne_37 : decode cX1_drawOne 37 = .ok (.aload_n 0, 1) := by decide +kernel
theorem dX1_drawOne_38 : decode cX1_drawOne 38 = .ok (.invokevirtual 46, 3) := by decide +kernel
theorem dX1_drawOne_41 : decode cX1_drawOne 41 = .ok (.return_, 1) := by decide +kernel
set_option maxRecDepth 100000 in
set_option maxHeartbeats 4000000 in
theorem kX1_drawOne (l : Launch) (D : va_G) (ad : Nat → Nat) (cI cJ : ClassId) (tP tR : Nat) (N : Nat) (M : Mem) (a1 : Nat) (ha1 : a1 = 1 ∨ a1 = 6) (o : Mem) (h : fX1_drawOne N M a1 = some o) : qMet l D cI cJ tP tR (xA ad) (xW ad cI cJ) yX1_drawOne cX1_drawOne 3 none rX1_drawOne [.ref (ad 11), .ref (ad a1)] M (qQv D (xA ad) (xW ad cI cJ) o) := by
  refine rs_enterV (own := RX1) ⟨by decide +kernel, rfl, Nat.le_of_ble_eq_true rfl⟩ ?_
  intro p e s m args below meth c Q C hret H locs ls hP hS hl
  obtain ⟨hx, hb, -⟩ := id C
  have hl : lv_has ls 3 [(0, .ref (ad 11)), (1, .ref (ad a1))] := hl
  unfold fX1_drawOne at h
  refine lv_aload_n hx hb dX1_drawOne_0 rfl (lv_at hl 0 rfl) ?_
  refine lv_iconst (v := (0 : Int32)) hx hb dX1_drawOne_1 (by decide) ?_
  refine pfX1_28 C hP hS dX1_drawOne_2 h (fun M1 h H locs hP hS => ?_)
  refine lv_iconst (v := (0 : Int32)) hx hb dX1_drawOne_5 (by decide) ?_
  refine lv_istore_n (lv' := [(2, .int (0 : Int32)), (0, .ref (ad 11)), (1, .ref (ad a1))]) hx hb dX1_drawOne_6 rfl hl (by decide) rfl (fun ls hl => ?_)
  have hL7 : ∀ (n7 : Nat) (v2 : Int32) (M3 : Mem) (H : Heap) (locs : List Loc) (ls : Array Slot), va_P D vwCl (xW ad cI cJ M3) H → va_S (xA ad) s.heap H locs → lv_has ls 3 [(0, .ref (ad 11)), (1, .ref (ad a1)), (2, .int v2)] → lp (fun _ _ => none) (sX1_drawOne_7 a1 N) n7 v2 M3 = some o → W p l e rX1_drawOne s m args below meth c H locs 0 0 Q (F0 m 7 ls []) := by
    intro n7
    induction n7 with
    | zero => intro v2 M3 H locs ls hP hS hl h; have h : (none : Option Mem) = some o := h; cases h
    | succ n7 ih7 =>
      intro v2 M3 H locs ls hP hS hl h
      have h : sX1_drawOne_7 a1 N (lp (fun _ _ => none) (sX1_drawOne_7 a1 N) n7) v2 M3 = some o := h
      generalize lp (fun _ _ => none) (sX1_drawOne_7 a1 N) n7 = cont7 at h ih7
      unfold sX1_drawOne_7 at h
      refine lv_iload_n hx hb dX1_drawOne_7 rfl (lv_at hl 2 rfl) ?_
      refine lv_aload_n hx hb dX1_drawOne_8 rfl (lv_at hl 1 rfl) ?_
      refine gfX1_31 C hP ha1 dX1_drawOne_9 ?_
      refine lv_icmp_ge (tgt := 37) hx hb dX1_drawOne_12 (by decide) (fun cd => ?_) (fun cd => ?_)
      · have h := (if_pos cd).symm.trans h
        refine lv_aload_n hx hb dX1_drawOne_37 rfl (lv_at hl 0 rfl) ?_
        obtain ⟨M4, h1, h⟩ := rs_bind h
        refine rs_goV (rs_runV (b := 11) (As := []) (rest := []) C hP hS (kX1_wrap l D ad cI cJ tP tR N M3  _ h1) mk_X1_wrap wd_286 (xR_11) rfl ⟨rfl, rfl, Nat.le_of_ble_eq_true rfl, Nat.le_of_ble_eq_true rfl⟩ rfl hl.1 (Nat.le_of_ble_eq_true rfl) dX1_drawOne_38) hS (fun H locs hP hS => ?_)
        cases h
        exact hret H locs _ ls hP hS dX1_drawOne_41
      · have h := (if_neg cd).symm.trans h
        refine lv_aload_n hx hb dX1_drawOne_15 rfl (lv_at hl 0 rfl) ?_
        refine lv_aload_n hx hb dX1_drawOne_16 rfl (lv_at hl 1 rfl) ?_
        refine gfX1_36 C hP ha1 dX1_drawOne_17 ?_
        refine lv_iload_n hx hb dX1_drawOne_20 rfl (lv_at hl 2 rfl) ?_
        refine rs_iald C hP (xIA_e1 ha1) dX1_drawOne_21 h (fun v5 h => ?_)
        refine lv_aload_n hx hb dX1_drawOne_22 rfl (lv_at hl 1 rfl) ?_
        refine gfX1_39 C hP ha1 dX1_drawOne_23 ?_
        refine lv_iload_n hx hb dX1_drawOne_26 rfl (lv_at hl 2 rfl) ?_
        refine rs_iald C hP (xIA_e2 ha1) dX1_drawOne_27 h (fun v6 h => ?_)
        obtain ⟨M7, h1, h⟩ := rs_bind h
        refine rs_goV (rs_runV (b := 11) (As := [.int v5, .int v6]) (rest := []) C hP hS (kX1_put l D ad cI cJ tP tR M3 v5 v6 _ h1) mk_X1_put wd_282 (xR_11) rfl ⟨rfl, rfl, Nat.le_of_ble_eq_true rfl, Nat.le_of_ble_eq_true rfl⟩ rfl hl.1 (Nat.le_of_ble_eq_true rfl) dX1_drawOne_28) hS (fun H locs hP hS => ?_)
        refine lv_iinc (v := (v2 + 1)) (lv' := [(2, .int (v2 + 1)), (0, .ref (ad 11)), (1, .ref (ad a1))]) hx hb dX1_drawOne_31 hl (k := 2) rfl rfl (by decide) rfl (fun ls hl => ?_)
        refine lv_goto (tgt := 7) hx hb dX1_drawOne_34 (by decide) ?_
        exact ih7 _ _ H locs ls hP hS (lv_sub hl [1, 2, 0] rfl) h
  exact hL7 N _ _ H locs ls hP hS (lv_sub hl [1, 2, 0] rfl) h
abbrev rX1_after : Room := { frames := 0, cells := 0, slots := 0, locals := 0 }
theorem dX1_after_0 : decode cX1_after 0 = .ok (.iload_n 1, 1) := by decide +kernel
theorem dX1_after_1 : decode cX1_after 1 = .ok (.iconst 1, 1) := by decide +kernel
theorem dX1_after_2 : decode cX1_after 2 = .ok (.iadd, 1) := by decide +kernel
theorem dX1_after_3 : decode cX1_after 3 = .ok (.aload_n 0, 1) := by decide +kernel
theorem dX1_after_4 : decode cX1_after 4 = .ok (.getfield 18, 3) := by decide +kernel
theorem dX1_after_7 : decode cX1_after 7 = .ok (.if_icmp .ge 9, 3) := by decide +kernel
theorem dX1_after_10 : decode cX1_after 10 = .ok (.iload_n 1, 1) := by decide +kernel
theorem dX1_after_11 : decode cX1_after 11 = .ok (.iconst 1, 1) := by decide +kernel
theorem dX1_after_12 : decode cX1_after 12 = .ok (.iadd, 1) := by decide +kernel
theorem dX1_after_13 : decode cX1_after 13 = .ok (.goto 4, 3) := by decide +kernel
theorem dX1_after_16 : decode cX1_after 16 = .ok (.iconst 0, 1) := by decide +kernel
theorem dX1_after_17 : decode cX1_after 17 = .ok (.ireturn, 1) := by decide +kernel
set_option maxRecDepth 100000 in
set_option maxHeartbeats 4000000 in
theorem kX1_after (l : Launch) (D : va_G) (ad : Nat → Nat) (cI cJ : ClassId) (tP tR : Nat) (M : Mem) (a1 : Int32)  (o : Int32) (h : fX1_after M a1 = some o) : qMet l D cI cJ tP tR (xA ad) (xW ad cI cJ) yX1_after cX1_after 2 (some .int) rX1_after [.ref (ad 11), .int a1] M (qQi D (xA ad) (xW ad cI cJ) o M) := by
  refine rs_enterI (own := RX1) ⟨by decide +kernel, rfl, Nat.le_of_ble_eq_true rfl⟩ ?_
  intro p e s m args below meth c Q C hret H locs ls hP hS hl
  obtain ⟨hx, hb, -⟩ := id C
  have hl : lv_has ls 2 [(0, .ref (ad 11)), (1, .int a1)] := hl
  unfold fX1_after at h
  refine lv_iload_n hx hb dX1_after_0 rfl (lv_at hl 1 rfl) ?_
  refine lv_iconst (v := (1 : Int32)) hx hb dX1_after_1 (by decide) ?_
  refine lv_iadd hx hb dX1_after_2 ?_
  refine lv_aload_n hx hb dX1_after_3 rfl (lv_at hl 0 rfl) ?_
  refine gfX1_18 C hP dX1_after_4 ?_
  refine lv_icmp_ge (tgt := 16) hx hb dX1_after_7 (by decide) (fun cd => ?_) (fun cd => ?_)
  · have h := (if_pos cd).symm.trans h
    refine lv_iconst (v := (0 : Int32)) hx hb dX1_after_16 (by decide) ?_
    cases h
    exact hret H locs _ ls hP hS dX1_after_17
  · have h := (if_neg cd).symm.trans h
    refine lv_iload_n hx hb dX1_after_10 rfl (lv_at hl 1 rfl) ?_
    refine lv_iconst (v := (1 : Int32)) hx hb dX1_after_11 (by decide) ?_
    refine lv_iadd hx hb dX1_after_12 ?_
    refine lv_goto (tgt := 17) hx hb dX1_after_13 (by decide) ?_
    cases h
    exact hret H locs _ ls hP hS dX1_after_17
abbrev rX1_area : Room := { frames := 1, cells := 0, slots := 0, locals := 21 }
theorem dX1_area_0 : decode cX1_area 0 = .ok (.iconst 0, 1) := by decide +kernel
theorem dX1_area_1 : decode cX1_area 1 = .ok (.istore_n 1, 1) := by decide +kernel
theorem dX1_area_2 : decode cX1_area 2 = .ok (.iconst 0, 1) := by decide +kernel
theorem dX1_area_3 : decode cX1_area 3 = .ok (.istore_n 2, 1) := by decide +kernel
theorem dX1_area_4 : decode cX1_area 4 = .ok (.iload_n 2, 1) := by decide +kernel
theorem dX1_area_5 : decode cX1_area 5 = .ok (.aload_n 0, 1) := by decide +kernel
theorem dX1_area_6 : decode cX1_area 6 = .ok (.getfield 18, 3) := by decide +kernel
theorem dX1_area_9 : decode cX1_area 9 = .ok (.if_icmp .ge 45, 3) := by decide +kernel
theorem dX1_area_12 : decode cX1_area 12 = .ok (.aload_n 0, 1) := by decide +kernel
theorem dX1_area_13 : decode cX1_area 13 = .ok (.iload_n 2, 1) := by decide +kernel
theorem dX1_area_14 : decode cX1_area 14 = .ok (.invokevirtual 49, 3) := by decide +kernel
theorem dX1_area_17 : decode cX1_area 17 = .ok (.istore_n 3, 1) := by decide +kernel
theorem dX1_area_18 : decode cX1_area 18 = .ok (.iload_n 1, 1) := by decide +kernel
theorem dX1_area_19 : decode cX1_area 19 = .ok (.aload_n 0, 1) := by decide +kernel
theorem dX1_area_20 : decode cX1_area 20 = .ok (.getfield 11, 3) := by decide +kernel
theorem dX1_area_23 : decode cX1_area 23 = .ok (.iload_n 2, 1) := by decide +kernel
theorem dX1_area_24 : decode cX1_area 24 = .ok (.iaload, 1) := by decide +kernel
theorem dX1_area_25 : decode cX1_area 25 = .ok (.aload_n 0, 1) := by decide +kernel
theorem dX1_area_26 : decode cX1_area 26 = .ok (.getfield 15, 3) := by decide +kernel
theorem dX1_area_29 : decode cX1_area 29 = .ok (.iload_n 3, 1) := by decide +kernel
theorem dX1_area_30 : decode cX1_area 30 = .ok (.iaload, 1) := by decide +kernel
theorem dX1_area_31 : decode cX1_area 31 = .ok (.imul, 1) := by decide +kernel
theorem dX1_area_32 : decode cX1_area 32 = .ok (.aload_n 0, 1) := by decide +kernel
theorem dX1_area_33 : decode cX1_area 33 = .ok (.getfield 15, 3) := by decide +kernel
theorem dX1_area_36 : decode cX1_area 36 = .ok (.iload_n 2, 1) := by decide +kernel
theorem dX1_area_37 : decode cX1_area 37 = .ok (.iaload, 1) := by decide +kernel
theorem dX1_area_38 : decode cX1_area 38 = .ok (.aload_n 0, 1) := by decide +kernel
theorem dX1_area_39 : decode cX1_area 39 = .ok (.getfield 11, 3) := by decide +kernel
theorem dX1_area_42 : decode cX1_area 42 = .ok (.iload_n 3, 1) := by decide +kernel
theorem dX1_area_43 : decode cX1_area 43 = .ok (.iaload, 1) := by decide +kernel
theorem dX1_area_44 : decode cX1_area 44 = .ok (.imul, 1) := by decide +kernel
theorem dX1_area_45 : decode cX1_area 45 = .ok (.isub, 1) := by decide +kernel
theorem dX1_area_46 : decode cX1_area 46 = .ok (.iadd, 1) := by decide +kernel
theorem dX1_area_47 : decode cX1_area 47 = .ok (.istore_n 1, 1) := by decide +kernel
theorem dX1_area_48 : decode cX1_area 48 = .ok (.iinc 2 1, 3) := by decide +kernel
theorem dX1_area_51 : decode cX1_area 51 = .ok (.goto (-47), 3) := by decide +kernel
theorem dX1_area_54 : decode cX1_area 54 = .ok (.iload_n 1, 1) := by decide +kernel
theorem dX1_area_55 : decode cX1_area 55 = .ok (.ireturn, 1) := by decide +kernel
set_option maxRecDepth 100000 in
set_option maxHeartbeats 4000000 in
theorem kX1_area (l : Launch) (D : va_G) (ad : Nat → Nat) (cI cJ : ClassId) (tP tR : Nat) (N : Nat) (M : Mem)   (o : Int32) (h : fX1_area N M  = some o) : qMet l D cI cJ tP tR (xA ad) (xW ad cI cJ) yX1_area cX1_area 4 (some .int) rX1_area [.ref (ad 11)] M (qQi D (xA ad) (xW ad cI cJ) o M) := by
  refine rs_enterI (own := RX1) ⟨by decide +kernel, rfl, Nat.le_of_ble_eq_true rfl⟩ ?_
  intro p e s m args below meth c Q C hret H locs ls hP hS hl
  obtain ⟨hx, hb, -⟩ := id C
  have hl : lv_has ls 4 [(0, .ref (ad 11))] := hl
  unfold fX1_area at h
  refine lv_iconst (v := (0 : Int32)) hx hb dX1_area_0 (by decide) ?_
  refine lv_istore_n (lv' := [(1, .int (0 : Int32)), (0, .ref (ad 11))]) hx hb dX1_area_1 rfl hl (by decide) rfl (fun ls hl => ?_)
  refine lv_iconst (v := (0 : Int32)) hx hb dX1_area_2 (by decide) ?_
  refine lv_istore_n (lv' := [(2, .int (0 : Int32)), (1, .int (0 : Int32)), (0, .ref (ad 11))]) hx hb dX1_area_3 rfl hl (by decide) rfl (fun ls hl => ?_)
  have hL4 : ∀ (n4 : Nat) (v1 : Int32) (v2 : Int32) (H : Heap) (locs : List Loc) (ls : Array Slot), va_P D vwCl (xW ad cI cJ M) H → va_S (xA ad) s.heap H locs → lv_has ls 4 [(0, .ref (ad 11)), (1, .int v1), (2, .int v2)] → lp (fun _ _ => none) (sX1_area_4 M) n4 v1 v2 = some o → W p l e rX1_area s m args below meth c H locs 0 0 Q (F0 m 4 ls []) := by
    intro n4
    induction n4 with
    | zero => intro v1 v2 H locs ls hP hS hl h; have h : (none : Option Int32) = some o := h; cases h
    | succ n4 ih4 =>
      intro v1 v2 H locs ls hP hS hl h
      have h : sX1_area_4 M (lp (fun _ _ => none) (sX1_area_4 M) n4) v1 v2 = some o := h
      generalize lp (fun _ _ => none) (sX1_area_4 M) n4 = cont4 at h ih4
      unfold sX1_area_4 at h
      refine lv_iload_n hx hb dX1_area_4 rfl (lv_at hl 2 rfl) ?_
      refine lv_aload_n hx hb dX1_area_5 rfl (lv_at hl 0 rfl) ?_
      refine gfX1_18 C hP dX1_area_6 ?_
      refine lv_icmp_ge (tgt := 54) hx hb dX1_area_9 (by decide) (fun cd => ?_) (fun cd => ?_)
      · have h := (if_pos cd).symm.trans h
        refine lv_iload_n hx hb dX1_area_54 rfl (lv_at hl 1 rfl) ?_
        cases h
        exact hret H locs _ ls hP hS dX1_area_55
      · have h := (if_neg cd).symm.trans h
        refine lv_aload_n hx hb dX1_area_12 rfl (lv_at hl 0 rfl) ?_
        refine lv_iload_n hx hb dX1_area_13 rfl (lv_at hl 2 rfl) ?_
        obtain ⟨v3, h1, h⟩ := rs_bind h
        refine rs_goI (rs_runV (b := 11) (As := [.int v2]) (rest := []) C hP hS (kX1_after l D ad cI cJ tP tR M v2 _ h1) mk_X1_after wd_321 (xR_11) rfl ⟨rfl, rfl, Nat.le_of_ble_eq_true rfl, Nat.le_of_ble_eq_true rfl⟩ rfl hl.1 (Nat.le_of_ble_eq_true rfl) dX1_area_14) hS (fun H locs hP hS => ?_)
        refine lv_istore_n (lv' := [(3, .int v3), (0, .ref (ad 11)), (1, .int v1), (2, .int v2)]) hx hb dX1_area_17 rfl hl (by decide) rfl (fun ls hl => ?_)
        refine lv_iload_n hx hb dX1_area_18 rfl (lv_at hl 2 rfl) ?_
        refine lv_aload_n hx hb dX1_area_19 rfl (lv_at hl 1 rfl) ?_
        refine gfX1_11 C hP dX1_area_20 ?_
        refine lv_iload_n hx hb dX1_area_23 rfl (lv_at hl 3 rfl) ?_
        refine rs_iald C hP xIA_12 dX1_area_24 h (fun v4 h => ?_)
        refine lv_aload_n hx hb dX1_area_25 rfl (lv_at hl 1 rfl) ?_
        refine gfX1_15 C hP dX1_area_26 ?_
        refine lv_iload_n hx hb dX1_area_29 rfl (lv_at hl 0 rfl) ?_
        refine rs_iald C hP xIA_13 dX1_area_30 h (fun v5 h => ?_)
        refine lv_imul hx hb dX1_area_31 ?_
        refine lv_aload_n hx hb dX1_area_32 rfl (lv_at hl 1 rfl) ?_
        refine gfX1_15 C hP dX1_area_33 ?_
        refine lv_iload_n hx hb dX1_area_36 rfl (lv_at hl 3 rfl) ?_
        refine rs_iald C hP xIA_13 dX1_area_37 h (fun v6 h => ?_)
        refine lv_aload_n hx hb dX1_area_38 rfl (lv_at hl 1 rfl) ?_
        refine gfX1_11 C hP dX1_area_39 ?_
        refine lv_iload_n hx hb dX1_area_42 rfl (lv_at hl 0 rfl) ?_
        refine rs_iald C hP xIA_12 dX1_area_43 h (fun v7 h => ?_)
        refine lv_imul hx hb dX1_area_44 ?_
        refine lv_isub hx hb dX1_area_45 ?_
        refine lv_iadd hx hb dX1_area_46 ?_
        refine lv_istore_n (lv' := [(1, .int (v1 + ((v4 * v5) - (v6 * v7)))), (3, .int v3), (0, .ref (ad 11)), (2, .int v2)]) hx hb dX1_area_47 rfl hl (by decide) rfl (fun ls hl => ?_)
        refine lv_iinc (v := (v2 + 1)) (lv' := [(2, .int (v2 + 1)), (1, .int (v1 + ((v4 * v5) - (v6 * v7)))), (3, .int v3), (0, .ref (ad 11))]) hx hb dX1_area_48 hl (k := 3) rfl rfl (by decide) rfl (fun ls hl => ?_)
        refine lv_goto (tgt := 4) hx hb dX1_area_51 (by decide) ?_
        exact ih4 _ _ H locs ls hP hS (lv_sub hl [3, 1, 0] rfl) h
  exact hL4 N _ _ H locs ls hP hS (lv_sub hl [2, 1, 0] rfl) h
abbrev rX1_rim : Room := { frames := 2, cells := 0, slots := 0, locals := 46 }
theorem dX1_rim_0 : decode cX1_rim 0 = .ok (.aload_n 0, 1) := by decide +kernel
theorem dX1_rim_1 : decode cX1_rim 1 = .ok (.getfield 18, 3) := by decide +kernel
theorem dX1_rim_4 : decode cX1_rim 4 = .ok (.iconst 2, 1) := by decide +kernel
theorem dX1_rim_5 : decode cX1_rim 5 = .ok (.if_icmp .ge 8, 3) := by decide +kernel
theorem dX1_rim_8 : decode cX1_rim 8 = .ok (.aload_n 0, 1) := by decide +kernel
theorem dX1_rim_9 : decode cX1_rim 9 = .ok (.getfield 18, 3) := by decide +kernel
theorem dX1_rim_12 : decode cX1_rim 12 = .ok (.ireturn, 1) := by decide +kernel
theorem dX1_rim_13 : decode cX1_rim 13 = .ok (.iconst 0, 1) := by decide +kernel
theorem dX1_rim_14 : decode cX1_rim 14 = .ok (.istore_n 1, 1) := by decide +kernel
theorem dX1_rim_15 : decode cX1_rim 15 = .ok (.iconst 0, 1) := by decide +kernel
theorem dX1_rim_16 : decode cX1_rim 16 = .ok (.istore_n 2, 1) := by decide +kernel
theorem dX1_rim_17 : decode cX1_rim 17 = .ok (.iload_n 2, 1) := by decide +kernel
theorem dX1_rim_18 : decode cX1_rim 18 = .ok (.aload_n 0, 1) := by decide +kernel
theorem dX1_rim_19 : decode cX1_rim 19 = .ok (.getfield 18, 3) := by decide +kernel
theorem dX1_rim_22 : decode cX1_rim 22 = .ok (.if_icmp .ge 47, 3) := by decide +kernel
theorem dX1_rim_25 : decode cX1_rim 25 = .ok (.aload_n 0, 1) := by decide +kernel
theorem dX1_rim_26 : decode cX1_rim 26 = .ok (.iload_n 2, 1) := by decide +kernel
theorem dX1_rim_27 : decode cX1_rim 27 = .ok (.invokevirtual 49, 3) := by decide +kernel
theorem dX1_rim_30 : decode cX1_rim 30 = .ok (.istore_n 3, 1) := by decide +kernel
theorem dX1_rim_31 : decode cX1_rim 31 = .ok (.iload_n 1, 1) := by decide +kernel
theorem dX1_rim_32 : decode cX1_rim 32 = .ok (.aload_n 0, 1) := by decide +kernel
theorem dX1_rim_33 : decode cX1_rim 33 = .ok (.getfield 11, 3) := by decide +kernel
theorem dX1_rim_36 : decode cX1_rim 36 = .ok (.iload_n 3, 1) := by decide +kernel
theorem dX1_rim_37 : decode cX1_rim 37 = .ok (.iaload, 1) := by decide +kernel
theorem dX1_rim_38 : decode cX1_rim 38 = .ok (.aload_n 0, 1) := by decide +kernel
theorem dX1_rim_39 : decode cX1_rim 39 = .ok (.getfield 11, 3) := by decide +kernel
theorem dX1_rim_42 : decode cX1_rim 42 = .ok (.iload_n 2, 1) := by decide +kernel
theorem dX1_rim_43 : decode cX1_rim 43 = .ok (.iaload, 1) := by decide +kernel
theorem dX1_rim_44 : decode cX1_rim 44 = .ok (.isub, 1) := by decide +kernel
theorem dX1_rim_45 : decode cX1_rim 45 = .ok (.aload_n 0, 1) := by decide +kernel
theorem dX1_rim_46 : decode cX1_rim 46 = .ok (.getfield 15, 3) := by decide +kernel
theorem dX1_rim_49 : decode cX1_rim 49 = .ok (.iload_n 3, 1) := by decide +kernel
theorem dX1_rim_50 : decode cX1_rim 50 = .ok (.iaload, 1) := by decide +kernel
theorem dX1_rim_51 : decode cX1_rim 51 = .ok (.aload_n 0, 1) := by decide +kernel
theorem dX1_rim_52 : decode cX1_rim 52 = .ok (.getfield 15, 3) := by decide +kernel
theorem dX1_rim_55 : decode cX1_rim 55 = .ok (.iload_n 2, 1) := by decide +kernel
theorem dX1_rim_56 : decode cX1_rim 56 = .ok (.iaload, 1) := by decide +kernel
theorem dX1_rim_57 : decode cX1_rim 57 = .ok (.isub, 1) := by decide +kernel
theorem dX1_rim_58 : decode cX1_rim 58 = .ok (.invokestatic 53, 3) := by decide +kernel
theorem dX1_rim_61 : decode cX1_rim 61 = .ok (.iadd, 1) := by decide +kernel
theorem dX1_rim_62 : decode cX1_rim 62 = .ok (.istore_n 1, 1) := by decide +kernel
theorem dX1_rim_63 : decode cX1_rim 63 = .ok (.iinc 2 1, 3) := by decide +kernel
theorem dX1_rim_66 : decode cX1_rim 66 = .ok (.goto (-49), 3) := by decide +kernel
theorem dX1_rim_69 : decode cX1_rim 69 = .ok (.aload_n 0, 1) := by decide +kernel
theorem dX1_rim_70 : decode cX1_rim 70 = .ok (.getfield 18, 3) := by decide +kernel
theorem dX1_rim_73 : decode cX1_rim 73 = .ok (.iconst 2, 1) := by decide +kernel
theorem dX1_rim_74 : decode cX1_rim 74 = .ok (.if_icmp .ne 11, 3) := by decide +kernel
theorem dX1_rim_77 : decode cX1_rim 77 = .ok (.iload_n 1, 1) := by decide +kernel
theorem dX1_rim_78 : decode cX1_rim 78 = .ok (.iconst 2, 1) := by decide +kernel
theorem dX1_rim_79 : decode cX1_rim 79 = .ok (.idiv, 1) := by decide +kernel
theorem dX1_rim_80 : decode cX1_rim 80 = .ok (.iconst 1, 1) := by decide +kernel
theorem dX1_rim_81 : decode cX1_rim 81 = .ok (.iadd, 1) := by decide +kernel
theorem dX1_rim_82 : decode cX1_rim 82 = .ok (.goto 4, 3) := by decide +kernel
theorem dX1_rim_85 : decode cX1_rim 85 = .ok (.iload_n 1, 1) := by decide +kernel
theorem dX1_rim_86 : decode cX1_rim 86 = .ok (.ireturn, 1) := by decide +kernel
set_option maxRecDepth 100000 in
set_option maxHeartbeats 4000000 in
theorem kX1_rim (l : Launch) (D : va_G) (ad : Nat → Nat) (cI cJ : ClassId) (tP tR : Nat) (N : Nat) (M : Mem)   (o : Int32) (h : fX1_rim N M  = some o) : qMet l D cI cJ tP tR (xA ad) (xW ad cI cJ) yX1_rim cX1_rim 4 (some .int) rX1_rim [.ref (ad 11)] M (qQi D (xA ad) (xW ad cI cJ) o M) := by
  refine rs_enterI (own := RX1) ⟨by decide +kernel, rfl, Nat.le_of_ble_eq_true rfl⟩ ?_
  intro p e s m args below meth c Q C hret H locs ls hP hS hl
  obtain ⟨hx, hb, -⟩ := id C
  have hl : lv_has ls 4 [(0, .ref (ad 11))] := hl
  unfold fX1_rim at h
  refine lv_aload_n hx hb dX1_rim_0 rfl (lv_at hl 0 rfl) ?_
  refine gfX1_18 C hP dX1_rim_1 ?_
  refine lv_iconst (v := (2 : Int32)) hx hb dX1_rim_4 (by decide) ?_
  refine lv_icmp_ge (tgt := 13) hx hb dX1_rim_5 (by decide) (fun cd => ?_) (fun cd => ?_)
  · have h := (if_pos cd).symm.trans h
    refine lv_iconst (v := (0 : Int32)) hx hb dX1_rim_13 (by decide) ?_
    refine lv_istore_n (lv' := [(1, .int (0 : Int32)), (0, .ref (ad 11))]) hx hb dX1_rim_14 rfl hl (by decide) rfl (fun ls hl => ?_)
    refine lv_iconst (v := (0 : Int32)) hx hb dX1_rim_15 (by decide) ?_
    refine lv_istore_n (lv' := [(2, .int (0 : Int32)), (1, .int (0 : Int32)), (0, .ref (ad 11))]) hx hb dX1_rim_16 rfl hl (by decide) rfl (fun ls hl => ?_)
    obtain ⟨v1, h1, h⟩ := rs_bind h
    have hJ3 : ∀ (H : Heap) (locs : List Loc) (ls : Array Slot), va_P D vwCl (xW ad cI cJ M) H → va_S (xA ad) s.heap H locs → lv_has ls 4 [(0, .ref (ad 11)), (1, .int v1)] → W p l e rX1_rim s m args below meth c H locs 0 0 Q (F0 m 69 ls []) := by
      intro H locs ls hP hS hl
      refine lv_aload_n hx hb dX1_rim_69 rfl (lv_at hl 0 rfl) ?_
      refine gfX1_18 C hP dX1_rim_70 ?_
      refine lv_iconst (v := (2 : Int32)) hx hb dX1_rim_73 (by decide) ?_
      refine lv_icmp_ne (tgt := 85) hx hb dX1_rim_74 (by decide) (fun cd => ?_) (fun cd => ?_)
      · have h := (if_neg cd).symm.trans h
        refine lv_iload_n hx hb dX1_rim_85 rfl (lv_at hl 1 rfl) ?_
        cases h
        exact hret H locs _ ls hP hS dX1_rim_86
      · have h := (if_pos cd).symm.trans h
        refine lv_iload_n hx hb dX1_rim_77 rfl (lv_at hl 1 rfl) ?_
        refine lv_iconst (v := (2 : Int32)) hx hb dX1_rim_78 (by decide) ?_
        refine rs_idiv C dX1_rim_79 h (fun v2 h => ?_)
        refine lv_iconst (v := (1 : Int32)) hx hb dX1_rim_80 (by decide) ?_
        refine lv_iadd hx hb dX1_rim_81 ?_
        refine lv_goto (tgt := 86) hx hb dX1_rim_82 (by decide) ?_
        cases h
        exact hret H locs _ ls hP hS dX1_rim_86
    replace h := h1
    clear h1
    have hL17 : ∀ (n17 : Nat) (v4 : Int32) (v5 : Int32) (H : Heap) (locs : List Loc) (ls : Array Slot), va_P D vwCl (xW ad cI cJ M) H → va_S (xA ad) s.heap H locs → lv_has ls 4 [(0, .ref (ad 11)), (1, .int v4), (2, .int v5)] → lp (fun _ _ => none) (sX1_rim_17 M N) n17 v4 v5 = some v1 → W p l e rX1_rim s m args below meth c H locs 0 0 Q (F0 m 17 ls []) := by
      intro n17
      induction n17 with
      | zero => intro v4 v5 H locs ls hP hS hl h; have h : (none : Option Int32) = some v1 := h; cases h
      | succ n17 ih17 =>
        intro v4 v5 H locs ls hP hS hl h
        have h : sX1_rim_17 M N (lp (fun _ _ => none) (sX1_rim_17 M N) n17) v4 v5 = some v1 := h
        generalize lp (fun _ _ => none) (sX1_rim_17 M N) n17 = cont17 at h ih17
        unfold sX1_rim_17 at h
        refine lv_iload_n hx hb dX1_rim_17 rfl (lv_at hl 2 rfl) ?_
        refine lv_aload_n hx hb dX1_rim_18 rfl (lv_at hl 0 rfl) ?_
        refine gfX1_18 C hP dX1_rim_19 ?_
        refine lv_icmp_ge (tgt := 69) hx hb dX1_rim_22 (by decide) (fun cd => ?_) (fun cd => ?_)
        · have h := (if_pos cd).symm.trans h
          cases h
          exact hJ3 H locs ls hP hS (lv_sub hl [0, 1] rfl)
        · have h := (if_neg cd).symm.trans h
          refine lv_aload_n hx hb dX1_rim_25 rfl (lv_at hl 0 rfl) ?_
          refine lv_iload_n hx hb dX1_rim_26 rfl (lv_at hl 2 rfl) ?_
          obtain ⟨v6, h1, h⟩ := rs_bind h
          refine rs_goI (rs_runV (b := 11) (As := [.int v5]) (rest := []) C hP hS (kX1_after l D ad cI cJ tP tR M v5 _ h1) mk_X1_after wd_321 (xR_11) rfl ⟨rfl, rfl, Nat.le_of_ble_eq_true rfl, Nat.le_of_ble_eq_true rfl⟩ rfl hl.1 (Nat.le_of_ble_eq_true rfl) dX1_rim_27) hS (fun H locs hP hS => ?_)
          refine lv_istore_n (lv' := [(3, .int v6), (0, .ref (ad 11)), (1, .int v4), (2, .int v5)]) hx hb dX1_rim_30 rfl hl (by decide) rfl (fun ls hl => ?_)
          refine lv_iload_n hx hb dX1_rim_31 rfl (lv_at hl 2 rfl) ?_
          refine lv_aload_n hx hb dX1_rim_32 rfl (lv_at hl 1 rfl) ?_
          refine gfX1_11 C hP dX1_rim_33 ?_
          refine lv_iload_n hx hb dX1_rim_36 rfl (lv_at hl 0 rfl) ?_
          refine rs_iald C hP xIA_12 dX1_rim_37 h (fun v7 h => ?_)
          refine lv_aload_n hx hb dX1_rim_38 rfl (lv_at hl 1 rfl) ?_
          refine gfX1_11 C hP dX1_rim_39 ?_
          refine lv_iload_n hx hb dX1_rim_42 rfl (lv_at hl 3 rfl) ?_
          refine rs_iald C hP xIA_12 dX1_rim_43 h (fun v8 h => ?_)
          refine lv_isub hx hb dX1_rim_44 ?_
          refine lv_aload_n hx hb dX1_rim_45 rfl (lv_at hl 1 rfl) ?_
          refine gfX1_15 C hP dX1_rim_46 ?_
          refine lv_iload_n hx hb dX1_rim_49 rfl (lv_at hl 0 rfl) ?_
          refine rs_iald C hP xIA_13 dX1_rim_50 h (fun v9 h => ?_)
          refine lv_aload_n hx hb dX1_rim_51 rfl (lv_at hl 1 rfl) ?_
          refine gfX1_15 C hP dX1_rim_52 ?_
          refine lv_iload_n hx hb dX1_rim_55 rfl (lv_at hl 3 rfl) ?_
          refine rs_iald C hP xIA_13 dX1_rim_56 h (fun v10 h => ?_)
          refine lv_isub hx hb dX1_rim_57 ?_
          obtain ⟨v11, h1, h⟩ := rs_bind h
          refine rs_goI (rs_runN (As := [.int (v7 - v8), .int (v9 - v10)]) (rest := [.int v4]) C hP hS (kX5_commonPart l D ad cI cJ tP tR N M (v7 - v8) (v9 - v10) _ h1) mk_X5_commonPart (nl_X1_53) rfl ⟨rfl, rfl, Nat.le_of_ble_eq_true rfl, Nat.le_of_ble_eq_true rfl⟩ rfl hl.1 (Nat.le_of_ble_eq_true rfl) dX1_rim_58) hS (fun H locs hP hS => ?_)
          refine lv_iadd hx hb dX1_rim_61 ?_
          refine lv_istore_n (lv' := [(1, .int (v4 + v11)), (3, .int v6), (0, .ref (ad 11)), (2, .int v5)]) hx hb dX1_rim_62 rfl hl (by decide) rfl (fun ls hl => ?_)
          refine lv_iinc (v := (v5 + 1)) (lv' := [(2, .int (v5 + 1)), (1, .int (v4 + v11)), (3, .int v6), (0, .ref (ad 11))]) hx hb dX1_rim_63 hl (k := 3) rfl rfl (by decide) rfl (fun ls hl => ?_)
          refine lv_goto (tgt := 17) hx hb dX1_rim_66 (by decide) ?_
          exact ih17 _ _ H locs ls hP hS (lv_sub hl [3, 1, 0] rfl) h
    exact hL17 N _ _ H locs ls hP hS (lv_sub hl [2, 1, 0] rfl) h
  · have h := (if_neg cd).symm.trans h
    refine lv_aload_n hx hb dX1_rim_8 rfl (lv_at hl 0 rfl) ?_
    refine gfX1_18 C hP dX1_rim_9 ?_
    cases h
    exact hret H locs _ ls hP hS dX1_rim_12
abbrev rX1_inner : Room := { frames := 3, cells := 0, slots := 0, locals := 69 }
theorem dX1_inner_0 : decode cX1_inner 0 = .ok (.aload_n 0, 1) := by decide +kernel
theorem dX1_inner_1 : decode cX1_inner 1 = .ok (.getfield 18, 3) := by decide +kernel
theorem dX1_inner_4 : decode cX1_inner 4 = .ok (.iconst 3, 1) := by decide +kernel
theorem dX1_inner_5 : decode cX1_inner 5 = .ok (.if_icmp .ge 7, 3) := by decide +kernel
theorem dX1_inner_8 : decode cX1_inner 8 = .ok (.iconst 0, 1) := by decide +kernel
theorem dX1_inner_9 : decode cX1_inner 9 = .ok (.goto 16, 3) := by decide +kernel
theorem dX1_inner_12 : decode cX1_inner 12 = .ok (.aload_n 0, 1) := by decide +kernel
theorem dX1_inner_13 : decode cX1_inner 13 = .ok (.invokevirtual 57, 3) := by decide +kernel
theorem dX1_inner_16 : decode cX1_inner 16 = .ok (.aload_n 0, 1) := by decide +kernel
theorem dX1_inner_17 : decode cX1_inner 17 = .ok (.invokevirtual 61, 3) := by decide +kernel
theorem dX1_inner_20 : decode cX1_inner 20 = .ok (.isub, 1) := by decide +kernel
theorem dX1_inner_21 : decode cX1_inner 21 = .ok (.iconst 2, 1) := by decide +kernel
theorem dX1_inner_22 : decode cX1_inner 22 = .ok (.iadd, 1) := by decide +kernel
theorem dX1_inner_23 : decode cX1_inner 23 = .ok (.iconst 2, 1) := by decide +kernel
theorem dX1_inner_24 : decode cX1_inner 24 = .ok (.idiv, 1) := by decide +kernel
theorem dX1_inner_25 : decode cX1_inner 25 = .ok (.ireturn, 1) := by decide +kernel
set_option maxRecDepth 100000 in
set_option maxHeartbeats 4000000 in
theorem kX1_inner (l : Launch) (D : va_G) (ad : Nat → Nat) (cI cJ : ClassId) (tP tR : Nat) (N : Nat) (M : Mem)   (o : Int32) (h : fX1_inner N M  = some o) : qMet l D cI cJ tP tR (xA ad) (xW ad cI cJ) yX1_inner cX1_inner 1 (some .int) rX1_inner [.ref (ad 11)] M (qQi D (xA ad) (xW ad cI cJ) o M) := by
  refine rs_enterI (own := RX1) ⟨by decide +kernel, rfl, Nat.le_of_ble_eq_true rfl⟩ ?_
  intro p e s m args below meth c Q C hret H locs ls hP hS hl
  obtain ⟨hx, hb, -⟩ := id C
  have hl : lv_has ls 1 [(0, .ref (ad 11))] := hl
  unfold fX1_inner at h
  refine lv_aload_n hx hb dX1_inner_0 rfl (lv_at hl 0 rfl) ?_
  refine gfX1_18 C hP dX1_inner_1 ?_
  refine lv_iconst (v := (3 : Int32)) hx hb dX1_inner_4 (by decide) ?_
  refine lv_icmp_ge (tgt := 12) hx hb dX1_inner_5 (by decide) (fun cd => ?_) (fun cd => ?_)
  · have h := (if_pos cd).symm.trans h
    refine lv_aload_n hx hb dX1_inner_12 rfl (lv_at hl 0 rfl) ?_
    obtain ⟨v1, h1, h⟩ := rs_bind h
    refine rs_goI (rs_runV (b := 11) (As := []) (rest := []) C hP hS (kX1_area l D ad cI cJ tP tR N M  _ h1) mk_X1_area wd_337 (xR_11) rfl ⟨rfl, rfl, Nat.le_of_ble_eq_true rfl, Nat.le_of_ble_eq_true rfl⟩ rfl hl.1 (Nat.le_of_ble_eq_true rfl) dX1_inner_13) hS (fun H locs hP hS => ?_)
    refine lv_aload_n hx hb dX1_inner_16 rfl (lv_at hl 0 rfl) ?_
    obtain ⟨v2, h1, h⟩ := rs_bind h
    refine rs_goI (rs_runV (b := 11) (As := []) (rest := [.int v1]) C hP hS (kX1_rim l D ad cI cJ tP tR N M  _ h1) mk_X1_rim wd_338 (xR_11) rfl ⟨rfl, rfl, Nat.le_of_ble_eq_true rfl, Nat.le_of_ble_eq_true rfl⟩ rfl hl.1 (Nat.le_of_ble_eq_true rfl) dX1_inner_17) hS (fun H locs hP hS => ?_)
    refine lv_isub hx hb dX1_inner_20 ?_
    refine lv_iconst (v := (2 : Int32)) hx hb dX1_inner_21 (by decide) ?_
    refine lv_iadd hx hb dX1_inner_22 ?_
    refine lv_iconst (v := (2 : Int32)) hx hb dX1_inner_23 (by decide) ?_
    refine rs_idiv C dX1_inner_24 h (fun v3 h => ?_)
    cases h
    exact hret H locs _ ls hP hS dX1_inner_25
  · have h := (if_neg cd).symm.trans h
    refine lv_iconst (v := (0 : Int32)) hx hb dX1_inner_8 (by decide) ?_
    refine lv_goto (tgt := 25) hx hb dX1_inner_9 (by decide) ?_
    cases h
    exact hret H locs _ ls hP hS dX1_inner_25

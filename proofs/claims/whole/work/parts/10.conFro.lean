abbrev rX2_bitsOf : Room := { frames := 0, cells := 0, slots := 0, locals := 0 }
theorem dX2_bitsOf_0 : decode cX2_bitsOf 0 = .ok (.iconst 0, 1) := by decide +kernel
theorem dX2_bitsOf_1 : decode cX2_bitsOf 1 = .ok (.istore 4, 2) := by decide +kernel
theorem dX2_bitsOf_3 : decode cX2_bitsOf 3 = .ok (.ldc 20, 2) := by decide +kernel
theorem dX2_bitsOf_5 : decode cX2_bitsOf 5 = .ok (.istore 5, 2) := by decide +kernel
theorem dX2_bitsOf_7 : decode cX2_bitsOf 7 = .ok (.iconst 0, 1) := by decide +kernel
theorem dX2_bitsOf_8 : decode cX2_bitsOf 8 = .ok (.istore 6, 2) := by decide +kernel
theorem dX2_bitsOf_10 : decode cX2_bitsOf 10 = .ok (.iload 6, 2) := by decide +kernel
theorem dX2_bitsOf_12 : decode cX2_bitsOf 12 = .ok (.aload_n 1, 1) := by decide +kernel
theorem dX2_bitsOf_13 : decode cX2_bitsOf 13 = .ok (.getfield 21, 3) := by decide +kernel
theorem dX2_bitsOf_16 : decode cX2_bitsOf 16 = .ok (.if_icmp .ge 60, 3) := by decide +kernel
theorem dX2_bitsOf_19 : decode cX2_bitsOf 19 = .ok (.iload_n 2, 1) := by decide +kernel
theorem dX2_bitsOf_20 : decode cX2_bitsOf 20 = .ok (.aload_n 1, 1) := by decide +kernel
theorem dX2_bitsOf_21 : decode cX2_bitsOf 21 = .ok (.getfield 27, 3) := by decide +kernel
theorem dX2_bitsOf_24 : decode cX2_bitsOf 24 = .ok (.iload 6, 2) := by decide +kernel
theorem dX2_bitsOf_26 : decode cX2_bitsOf 26 = .ok (.iaload, 1) := by decide +kernel
theorem dX2_bitsOf_27 : decode cX2_bitsOf 27 = .ok (.imul, 1) := by decide +kernel
theorem dX2_bitsOf_28 : decode cX2_bitsOf 28 = .ok (.iload_n 3, 1) := by decide +kernel
theorem dX2_bitsOf_29 : decode cX2_bitsOf 29 = .ok (.aload_n 1, 1) := by decide +kernel
theorem dX2_bitsOf_30 : decode cX2_bitsOf 30 = .ok (.getfield 31, 3) := by decide +kernel
theorem dX2_bitsOf_33 : decode cX2_bitsOf 33 = .ok (.iload 6, 2) := by decide +kernel
theorem dX2_bitsOf_35 : decode cX2_bitsOf 35 = .ok (.iaload, 1) := by decide +kernel
theorem dX2_bitsOf_36 : decode cX2_bitsOf 36 = .ok (.imul, 1) := by decide +kernel
theorem dX2_bitsOf_37 : decode cX2_bitsOf 37 = .ok (.iadd, 1) := by decide +kernel
theorem dX2_bitsOf_38 : decode cX2_bitsOf 38 = .ok (.istore 7, 2) := by decide +kernel
theorem dX2_bitsOf_40 : decode cX2_bitsOf 40 = .ok (.iload 7, 2) := by decide +kernel
theorem dX2_bitsOf_42 : decode cX2_bitsOf 42 = .ok (.iload 5, 2) := by decide +kernel
theorem dX2_bitsOf_44 : decode cX2_bitsOf 44 = .ok (.if_icmp .ge 10, 3) := by decide +kernel
theorem dX2_bitsOf_47 : decode cX2_bitsOf 47 = .ok (.iload 7, 2) := by decide +kernel
theorem dX2_bitsOf_49 : decode cX2_bitsOf 49 = .ok (.istore 5, 2) := by decide +kernel
theorem dX2_bitsOf_51 : decode cX2_bitsOf 51 = .ok (.iconst 0, 1) := by decide +kernel
theorem dX2_bitsOf_52 : decode cX2_bitsOf 52 = .ok (.istore 4, 2) := by decide +kernel
theorem dX2_bitsOf_54 : decode cX2_bitsOf 54 = .ok (.iload 7, 2) := by decide +kernel
theorem dX2_bitsOf_56 : decode cX2_bitsOf 56 = .ok (.iload 5, 2) := by decide +kernel
theorem dX2_bitsOf_58 : decode cX2_bitsOf 58 = .ok (.if_icmp .ne 12, 3) := by decide +kernel
theorem dX2_bitsOf_61 : decode cX2_bitsOf 61 = .ok (.iload 4, 2) := by decide +kernel
theorem dX2_bitsOf_63 : decode cX2_bitsOf 63 = .ok (.iconst 1, 1) := by decide +kernel
theorem dX2_bitsOf_64 : decode cX2_bitsOf 64 = .ok (.iload 6, 2) := by decide +kernel
theorem dX2_bitsOf_66 : decode cX2_bitsOf 66 = .ok (.ishl, 1) := by decide +kernel
theorem dX2_bitsOf_67 : decode cX2_bitsOf 67 = .ok (.ior, 1) := by decide +kernel
theorem dX2_bitsOf_68 : decode cX2_bitsOf 68 = .ok (.istore 4, 2) := by decide +kernel
theorem dX2_bitsOf_70 : decode cX2_bitsOf 70 = .ok (.iinc 6 1, 3) := by decide +kernel
theorem dX2_bitsOf_73 : decode cX2_bitsOf 73 = .ok (.goto (-63), 3) := by decide +kernel
theorem dX2_bitsOf_76 : decode cX2_bitsOf 76 = .ok (.iload 4, 2) := by decide +kernel
theorem dX2_bitsOf_78 : decode cX2_bitsOf 78 = .ok (.ireturn, 1) := by decide +kernel
set_option maxRecDepth 100000 in
set_option maxHeartbeats 4000000 in
theorem kX2_bitsOf (l : Launch) (D : va_G) (ad : Nat → Nat) (cI cJ : ClassId) (tP tR : Nat) (N : Nat) (M : Mem) (a1 : Nat) (a2 : Int32) (a3 : Int32) (ha1 : a1 = 1 ∨ a1 = 6) (o : Int32) (h : fX2_bitsOf N M a1 a2 a3 = some o) : qMet l D cI cJ tP tR (xA ad) (xW ad cI cJ) yX2_bitsOf cX2_bitsOf 8 (some .int) rX2_bitsOf [.ref (ad 18), .ref (ad a1), .int a2, .int a3] M (qQi D (xA ad) (xW ad cI cJ) o M) := by
  refine rs_enterI (own := RX2) ⟨by decide +kernel, rfl, Nat.le_of_ble_eq_true rfl⟩ ?_
  intro p e s m args below meth c Q C hret H locs ls hP hS hl
  obtain ⟨hx, hb, -⟩ := id C
  have hl : lv_has ls 8 [(0, .ref (ad 18)), (1, .ref (ad a1)), (2, .int a2), (3, .int a3)] := hl
  unfold fX2_bitsOf at h
  refine lv_iconst (v := (0 : Int32)) hx hb dX2_bitsOf_0 (by decide) ?_
  refine lv_istore (lv' := [(4, .int (0 : Int32)), (0, .ref (ad 18)), (1, .ref (ad a1)), (2, .int a2), (3, .int a3)]) hx hb dX2_bitsOf_1 hl (by decide) rfl (fun ls hl => ?_)
  refine rs_ldc (v := (2147483647 : Int32)) C wd_415 dX2_bitsOf_3 ?_
  refine lv_istore (lv' := [(5, .int (2147483647 : Int32)), (4, .int (0 : Int32)), (0, .ref (ad 18)), (1, .ref (ad a1)), (2, .int a2), (3, .int a3)]) hx hb dX2_bitsOf_5 hl (by decide) rfl (fun ls hl => ?_)
  refine lv_iconst (v := (0 : Int32)) hx hb dX2_bitsOf_7 (by decide) ?_
  refine lv_istore (lv' := [(6, .int (0 : Int32)), (5, .int (2147483647 : Int32)), (4, .int (0 : Int32)), (0, .ref (ad 18)), (1, .ref (ad a1)), (2, .int a2), (3, .int a3)]) hx hb dX2_bitsOf_8 hl (by decide) rfl (fun ls hl => ?_)
  have hL10 : ∀ (n10 : Nat) (v1 : Int32) (v2 : Int32) (v3 : Int32) (H : Heap) (locs : List Loc) (ls : Array Slot), va_P D vwCl (xW ad cI cJ M) H → va_S (xA ad) s.heap H locs → lv_has ls 8 [(1, .ref (ad a1)), (2, .int a2), (3, .int a3), (4, .int v1), (5, .int v2), (6, .int v3)] → lp (fun _ _ _ => none) (sX2_bitsOf_10 M a1 a2 a3) n10 v1 v2 v3 = some o → W p l e rX2_bitsOf s m args below meth c H locs 0 0 Q (F0 m 10 ls []) := by
    intro n10
    induction n10 with
    | zero => intro v1 v2 v3 H locs ls hP hS hl h; have h : (none : Option Int32) = some o := h; cases h
    | succ n10 ih10 =>
      intro v1 v2 v3 H locs ls hP hS hl h
      have h : sX2_bitsOf_10 M a1 a2 a3 (lp (fun _ _ _ => none) (sX2_bitsOf_10 M a1 a2 a3) n10) v1 v2 v3 = some o := h
      generalize lp (fun _ _ _ => none) (sX2_bitsOf_10 M a1 a2 a3) n10 = cont10 at h ih10
      unfold sX2_bitsOf_10 at h
      refine lv_iload hx hb dX2_bitsOf_10 (lv_at hl 5 rfl) ?_
      refine lv_aload_n hx hb dX2_bitsOf_12 rfl (lv_at hl 0 rfl) ?_
      refine gfX2_21 C hP ha1 dX2_bitsOf_13 ?_
      refine lv_icmp_ge (tgt := 76) hx hb dX2_bitsOf_16 (by decide) (fun cd => ?_) (fun cd => ?_)
      · have h := (if_pos cd).symm.trans h
        refine lv_iload hx hb dX2_bitsOf_76 (lv_at hl 3 rfl) ?_
        cases h
        exact hret H locs _ ls hP hS dX2_bitsOf_78
      · have h := (if_neg cd).symm.trans h
        refine lv_iload_n hx hb dX2_bitsOf_19 rfl (lv_at hl 1 rfl) ?_
        refine lv_aload_n hx hb dX2_bitsOf_20 rfl (lv_at hl 0 rfl) ?_
        refine gfX2_27 C hP ha1 dX2_bitsOf_21 ?_
        refine lv_iload hx hb dX2_bitsOf_24 (lv_at hl 5 rfl) ?_
        refine rs_iald C hP (xIA_e1 ha1) dX2_bitsOf_26 h (fun v4 h => ?_)
        refine lv_imul hx hb dX2_bitsOf_27 ?_
        refine lv_iload_n hx hb dX2_bitsOf_28 rfl (lv_at hl 2 rfl) ?_
        refine lv_aload_n hx hb dX2_bitsOf_29 rfl (lv_at hl 0 rfl) ?_
        refine gfX2_31 C hP ha1 dX2_bitsOf_30 ?_
        refine lv_iload hx hb dX2_bitsOf_33 (lv_at hl 5 rfl) ?_
        refine rs_iald C hP (xIA_e2 ha1) dX2_bitsOf_35 h (fun v5 h => ?_)
        refine lv_imul hx hb dX2_bitsOf_36 ?_
        refine lv_iadd hx hb dX2_bitsOf_37 ?_
        refine lv_istore (lv' := [(7, .int ((a2 * v4) + (a3 * v5))), (1, .ref (ad a1)), (2, .int a2), (3, .int a3), (4, .int v1), (5, .int v2), (6, .int v3)]) hx hb dX2_bitsOf_38 hl (by decide) rfl (fun ls hl => ?_)
        refine lv_iload hx hb dX2_bitsOf_40 (lv_at hl 0 rfl) ?_
        refine lv_iload hx hb dX2_bitsOf_42 (lv_at hl 5 rfl) ?_
        obtain ⟨⟨v6, v7⟩, h1, h⟩ := rs_bind h
        dsimp only at h
        have hJ10 : ∀ (H : Heap) (locs : List Loc) (ls : Array Slot), va_P D vwCl (xW ad cI cJ M) H → va_S (xA ad) s.heap H locs → lv_has ls 8 [(1, .ref (ad a1)), (2, .int a2), (3, .int a3), (4, .int v6), (5, .int v7), (6, .int v3), (7, .int ((a2 * v4) + (a3 * v5)))] → W p l e rX2_bitsOf s m args below meth c H locs 0 0 Q (F0 m 54 ls []) := by
          intro H locs ls hP hS hl
          refine lv_iload hx hb dX2_bitsOf_54 (lv_at hl 6 rfl) ?_
          refine lv_iload hx hb dX2_bitsOf_56 (lv_at hl 4 rfl) ?_
          obtain ⟨v8, h1, h⟩ := rs_bind h
          have hJ9 : ∀ (H : Heap) (locs : List Loc) (ls : Array Slot), va_P D vwCl (xW ad cI cJ M) H → va_S (xA ad) s.heap H locs → lv_has ls 8 [(1, .ref (ad a1)), (2, .int a2), (3, .int a3), (4, .int v8), (5, .int v7), (6, .int v3)] → W p l e rX2_bitsOf s m args below meth c H locs 0 0 Q (F0 m 70 ls []) := by
            intro H locs ls hP hS hl
            refine lv_iinc (v := (v3 + 1)) (lv' := [(6, .int (v3 + 1)), (1, .ref (ad a1)), (2, .int a2), (3, .int a3), (4, .int v8), (5, .int v7)]) hx hb dX2_bitsOf_70 hl (k := 5) rfl rfl (by decide) rfl (fun ls hl => ?_)
            refine lv_goto (tgt := 10) hx hb dX2_bitsOf_73 (by decide) ?_
            exact ih10 _ _ _ H locs ls hP hS (lv_sub hl [1, 2, 3, 4, 5, 0] rfl) h
          replace h := h1
          clear h1
          refine lv_icmp_ne (tgt := 70) hx hb dX2_bitsOf_58 (by decide) (fun cd => ?_) (fun cd => ?_)
          · have h := (if_neg cd).symm.trans h
            cases h
            exact hJ9 H locs ls hP hS (lv_sub hl [0, 1, 2, 3, 4, 5] rfl)
          · have h := (if_pos cd).symm.trans h
            refine lv_iload hx hb dX2_bitsOf_61 (lv_at hl 3 rfl) ?_
            refine lv_iconst (v := (1 : Int32)) hx hb dX2_bitsOf_63 (by decide) ?_
            refine lv_iload hx hb dX2_bitsOf_64 (lv_at hl 5 rfl) ?_
            refine lv_ishl hx hb dX2_bitsOf_66 ?_
            refine lv_ior hx hb dX2_bitsOf_67 ?_
            refine lv_istore (lv' := [(4, .int (v6 ||| ((1 : Int32) <<< (v3 &&& 31)))), (1, .ref (ad a1)), (2, .int a2), (3, .int a3), (5, .int v7), (6, .int v3), (7, .int ((a2 * v4) + (a3 * v5)))]) hx hb dX2_bitsOf_68 hl (by decide) rfl (fun ls hl => ?_)
            cases h
            exact hJ9 H locs ls hP hS (lv_sub hl [1, 2, 3, 0, 4, 5] rfl)
        replace h := h1
        clear h1
        refine lv_icmp_ge (tgt := 54) hx hb dX2_bitsOf_44 (by decide) (fun cd => ?_) (fun cd => ?_)
        · have h := (if_pos cd).symm.trans h
          cases h
          exact hJ10 H locs ls hP hS (lv_sub hl [1, 2, 3, 4, 5, 6, 0] rfl)
        · have h := (if_neg cd).symm.trans h
          refine lv_iload hx hb dX2_bitsOf_47 (lv_at hl 0 rfl) ?_
          refine lv_istore (lv' := [(5, .int ((a2 * v4) + (a3 * v5))), (7, .int ((a2 * v4) + (a3 * v5))), (1, .ref (ad a1)), (2, .int a2), (3, .int a3), (4, .int v1), (6, .int v3)]) hx hb dX2_bitsOf_49 hl (by decide) rfl (fun ls hl => ?_)
          refine lv_iconst (v := (0 : Int32)) hx hb dX2_bitsOf_51 (by decide) ?_
          refine lv_istore (lv' := [(4, .int (0 : Int32)), (5, .int ((a2 * v4) + (a3 * v5))), (7, .int ((a2 * v4) + (a3 * v5))), (1, .ref (ad a1)), (2, .int a2), (3, .int a3), (6, .int v3)]) hx hb dX2_bitsOf_52 hl (by decide) rfl (fun ls hl => ?_)
          cases h
          exact hJ10 H locs ls hP hS (lv_sub hl [3, 4, 5, 0, 1, 6, 2] rfl)
  exact hL10 N _ _ _ H locs ls hP hS (lv_sub hl [4, 5, 6, 2, 1, 0] rfl) h
abbrev rX2_layAlong : Room := { frames := 1, cells := 0, slots := 0, locals := 22 }
theorem dX2_layAlong_0 : decode cX2_layAlong 0 = .ok (.ldc 20, 2) := by decide +kernel
theorem dX2_layAlong_2 : decode cX2_layAlong 2 = .ok (.istore 6, 2) := by decide +kernel
theorem dX2_layAlong_4 : decode cX2_layAlong 4 = .ok (.iconst 0, 1) := by decide +kernel
theorem dX2_layAlong_5 : decode cX2_layAlong 5 = .ok (.istore 7, 2) := by decide +kernel
theorem dX2_layAlong_7 : decode cX2_layAlong 7 = .ok (.iload 7, 2) := by decide +kernel
theorem dX2_layAlong_9 : decode cX2_layAlong 9 = .ok (.aload_n 1, 1) := by decide +kernel
theorem dX2_layAlong_10 : decode cX2_layAlong 10 = .ok (.getfield 21, 3) := by decide +kernel
theorem dX2_layAlong_13 : decode cX2_layAlong 13 = .ok (.if_icmp .ge 45, 3) := by decide +kernel
theorem dX2_layAlong_16 : decode cX2_layAlong 16 = .ok (.iload_n 2, 1) := by decide +kernel
theorem dX2_layAlong_17 : decode cX2_layAlong 17 = .ok (.iload 7, 2) := by decide +kernel
theorem dX2_layAlong_19 : decode cX2_layAlong 19 = .ok (.ishr, 1) := by decide +kernel
theorem dX2_layAlong_20 : decode cX2_layAlong 20 = .ok (.iconst 1, 1) := by decide +kernel
theorem dX2_layAlong_21 : decode cX2_layAlong 21 = .ok (.iand, 1) := by decide +kernel
theorem dX2_layAlong_22 : decode cX2_layAlong 22 = .ok (.ifCond .eq 30, 3) := by decide +kernel
theorem dX2_layAlong_25 : decode cX2_layAlong 25 = .ok (.iload 6, 2) := by decide +kernel
theorem dX2_layAlong_27 : decode cX2_layAlong 27 = .ok (.iload_n 3, 1) := by decide +kernel
theorem dX2_layAlong_28 : decode cX2_layAlong 28 = .ok (.aload_n 1, 1) := by decide +kernel
theorem dX2_layAlong_29 : decode cX2_layAlong 29 = .ok (.getfield 27, 3) := by decide +kernel
theorem dX2_layAlong_32 : decode cX2_layAlong 32 = .ok (.iload 7, 2) := by decide +kernel
theorem dX2_layAlong_34 : decode cX2_layAlong 34 = .ok (.iaload, 1) := by decide +kernel
theorem dX2_layAlong_35 : decode cX2_layAlong 35 = .ok (.imul, 1) := by decide +kernel
theorem dX2_layAlong_36 : decode cX2_layAlong 36 = .ok (.iload 4, 2) := by decide +kernel
theorem dX2_layAlong_38 : decode cX2_layAlong 38 = .ok (.aload_n 1, 1) := by decide +kernel
theorem dX2_layAlong_39 : decode cX2_layAlong 39 = .ok (.getfield 31, 3) := by decide +kernel
theorem dX2_layAlong_42 : decode cX2_layAlong 42 = .ok (.iload 7, 2) := by decide +kernel
theorem dX2_layAlong_44 : decode cX2_layAlong 44 = .ok (.iaload, 1) := by decide +kernel
theorem dX2_layAlong_45 : decode cX2_layAlong 45 = .ok (.imul, 1) := by decide +kernel
theorem dX2_layAlong_46 : decode cX2_layAlong 46 = .ok (.iadd, 1) := by decide +kernel
theorem dX2_layAlong_47 : decode cX2_layAlong 47 = .ok (.invokestatic 57, 3) := by decide +kernel
theorem dX2_layAlong_50 : decode cX2_layAlong 50 = .ok (.istore 6, 2) := by decide +kernel
theorem dX2_layAlong_52 : decode cX2_layAlong 52 = .ok (.iinc 7 1, 3) := by decide +kernel
theorem dX2_layAlong_55 : decode cX2_layAlong 55 = .ok (.goto (-48), 3) := by decide +kernel
theorem dX2_layAlong_58 : decode cX2_layAlong 58 = .ok (.iconst 0, 1) := by decide +kernel
theorem dX2_layAlong_59 : decode cX2_layAlong 59 = .ok (.istore 7, 2) := by decide +kernel
theorem dX2_layAlong_61 : decode cX2_layAlong 61 = .ok (.iload 7, 2) := by decide +kernel
theorem dX2_layAlong_63 : decode cX2_layAlong 63 = .ok (.aload 5, 2) := by decide +kernel
theorem dX2_layAlong_65 : decode cX2_layAlong 65 = .ok (.arraylength, 1) := by decide +kernel
theorem dX2_layAlong_66 : decode cX2_layAlong 66 = .ok (.if_icmp .ge 15, 3) := by decide +kernel
theorem dX2_layAlong_69 : decode cX2_layAlong 69 = .ok (.aload 5, 2) := by decide +kernel
theorem dX2_layAlong_71 : decode cX2_layAlong 71 = .ok (.iload 7, 2) := by decide +kernel
theorem dX2_layAlong_73 : decode cX2_layAlong 73 = .ok (.lconst 0, 1) := by decide +kernel
theorem dX2_layAlong_74 : decode cX2_layAlong 74 = .ok (.lastore, 1) := by decide +kernel
theorem dX2_layAlong_75 : decode cX2_layAlong 75 = .ok (.iinc 7 1, 3) := by decide +kernel
theorem dX2_layAlong_78 : decode cX2_layAlong 78 = .ok (.goto (-17), 3) := by decide +kernel
theorem dX2_layAlong_81 : decode cX2_layAlong 81 = .ok (.iload_n 3, 1) := by decide +kernel
theorem dX2_layAlong_82 : decode cX2_layAlong 82 = .ok (.iload_n 3, 1) := by decide +kernel
theorem dX2_layAlong_83 : decode cX2_layAlong 83 = .ok (.imul, 1) := by decide +kernel
theorem dX2_layAlong_84 : decode cX2_layAlong 84 = .ok (.iload 4, 2) := by decide +kernel
theorem dX2_layAlong_86 : decode cX2_layAlong 86 = .ok (.iload 4, 2) := by decide +kernel
theorem dX2_layAlong_88 : decode cX2_layAlong 88 = .ok (.imul, 1) := by decide +kernel
theorem dX2_layAlong_89 : decode cX2_layAlong 89 = .ok (.iadd, 1) := by decide +kernel
theorem dX2_layAlong_90 : decode cX2_layAlong 90 = .ok (.istore 7, 2) := by decide +kernel
theorem dX2_layAlong_92 : decode cX2_layAlong 92 = .ok (.iload 7, 2) := by decide +kernel
theorem dX2_layAlong_94 : decode cX2_layAlong 94 = .ok (.ifCond .ne 4, 3) := by decide +kernel
theorem dX2_layAlong_97 : decode cX2_layAlong 97 = .ok (.return_, 1) := by decide +kernel
theorem dX2_layAlong_98 : decode cX2_layAlong 98 = .ok (.iconst 0, 1) := by decide +kernel
theorem dX2_layAlong_99 : decode cX2_layAlong 99 = .ok (.istore 8, 2) := by decide +kernel
theorem dX2_layAlong_101 : decode cX2_layAlong 101 = .ok (.iload 8, 2) := by decide +kernel
theorem dX2_layAlong_103 : decode cX2_layAlong 103 = .ok (.aload_n 1, 1) := by decide +kernel
theorem dX2_layAlong_104 : decode cX2_layAlong 104 = .ok (.getfield 21, 3) := by decide +kernel
theorem dX2_layAlong_107 : decode cX2_layAlong 107 = .ok (.if_icmp .ge 73, 3) := by decide +kernel
theorem dX2_layAlong_110 : decode cX2_layAlong 110 = .ok (.iload_n 3, 1) := by decide +kernel
theorem dX2_layAlong_111 : decode cX2_layAlong 111 = .ok (.aload_n 1, 1) := by decide +kernel
theorem dX2_layAlong_112 : decode cX2_layAlong 112 = .ok (.getfield 27, 3) := by decide +kernel
theorem dX2_layAlong_115 : decode cX2_layAlong 115 = .ok (.iload 8, 2) := by decide +kernel
theorem dX2_layAlong_117 : decode cX2_layAlong 117 = .ok (.iaload, 1) := by decide +kernel
theorem dX2_layAlong_118 : decode cX2_layAlong 118 = .ok (.imul, 1) := by decide +kernel
theorem dX2_layAlong_119 : decode cX2_layAlong 119 = .ok (.iload 4, 2) := by decide +kernel
theorem dX2_layAlong_121 : decode cX2_layAlong 121 = .ok (.aload_n 1, 1) := by decide +kernel
theorem dX2_layAlong_122 : decode cX2_layAlong 122 = .ok (.getfield 31, 3) := by decide +kernel
theorem dX2_layAlong_125 : decode cX2_layAlong 125 = .ok (.iload 8, 2) := by decide +kernel
theorem dX2_layAlong_127 : decode cX2_layAlong 127 = .ok (.iaload, 1) := by decide +kernel
theorem dX2_layAlong_128 : decode cX2_layAlong 128 = .ok (.imul, 1) := by decide +kernel
theorem dX2_layAlong_129 : decode cX2_layAlong 129 = .ok (.iadd, 1) := by decide +kernel
theorem dX2_layAlong_130 : decode cX2_layAlong 130 = .ok (.iload 6, 2) := by decide +kernel
theorem dX2_layAlong_132 : decode cX2_layAlong 132 = .ok (.isub, 1) := by decide +kernel
theorem dX2_layAlong_133 : decode cX2_layAlong 133 = .ok (.iload 7, 2) := by decide +kernel
theorem dX2_layAlong_135 : decode cX2_layAlong 135 = .ok (.idiv, 1) := by decide +kernel
theorem dX2_layAlong_136 : decode cX2_layAlong 136 = .ok (.istore 9, 2) := by decide +kernel
theorem dX2_layAlong_138 : decode cX2_layAlong 138 = .ok (.iload_n 2, 1) := by decide +kernel
theorem dX2_layAlong_139 : decode cX2_layAlong 139 = .ok (.iload 8, 2) := by decide +kernel
theorem dX2_layAlong_141 : decode cX2_layAlong 141 = .ok (.ishr, 1) := by decide +kernel
theorem dX2_layAlong_142 : decode cX2_layAlong 142 = .ok (.iconst 1, 1) := by decide +kernel
theorem dX2_layAlong_143 : decode cX2_layAlong 143 = .ok (.iand, 1) := by decide +kernel
theorem dX2_layAlong_144 : decode cX2_layAlong 144 = .ok (.ifCond .eq 30, 3) := by decide +kernel
theorem dX2_layAlong_147 : decode cX2_layAlong 147 = .ok (.iload 9, 2) := by decide +kernel
theorem dX2_layAlong_149 : decode cX2_layAlong 149 = .ok (.iconst 0, 1) := by decide +kernel
theorem dX2_layAlong_150 : decode cX2_layAlong 150 = .ok (.aload 5, 2) := by decide +kernel
theorem dX2_layAlong_152 : decode cX2_layAlong 152 = .ok (.arraylength, 1) := by decide +kernel
theorem dX2_layAlong_153 : decode cX2_layAlong 153 = .ok (.iconst 1, 1) := by decide +kernel
theorem dX2_layAlong_154 : decode cX2_layAlong 154 = .ok (.isub, 1) := by decide +kernel
theorem dX2_layAlong_155 : decode cX2_layAlong 155 = .ok (.invokestatic 62, 3) := by decide +kernel
theorem dX2_layAlong_158 : decode cX2_layAlong 158 = .ok (.ifCond .eq 16, 3) := by decide +kernel
theorem dX2_layAlong_161 : decode cX2_layAlong 161 = .ok (.aload 5, 2) := by decide +kernel
theorem dX2_layAlong_163 : decode cX2_layAlong 163 = .ok (.iload 9, 2) := by decide +kernel
theorem dX2_layAlong_165 : decode cX2_layAlong 165 = .ok (.aload_n 1, 1) := by decide +kernel
theorem dX2_layAlong_166 : decode cX2_layAlong 166 = .ok (.getfield 66, 3) := by decide +kernel
theorem dX2_layAlong_169 : decode cX2_layAlong 169 = .ok (.iload 8, 2) := by decide +kernel
theorem dX2_layAlong_171 : decode cX2_layAlong 171 = .ok (.iaload, 1) := by decide +kernel
theorem dX2_layAlong_172 : decode cX2_layAlong 172 = .ok (.i2l, 1) := by decide +kernel
theorem dX2_layAlong_173 : decode cX2_layAlong 173 = .ok (.lastore, 1) := by decide +kernel
theorem dX2_layAlong_174 : decode cX2_layAlong 174 = .ok (.iinc 8 1, 3) := by decide +kernel
theorem dX2_layAlong_177 : decode cX2_layAlong 177 = .ok (.goto (-76), 3) := by decide +kernel
theorem dX2_layAlong_180 : decode cX2_layAlong 180 = .ok (.return_, 1) := by decide +kernel
set_option maxRecDepth 100000 in
set_option maxHeartbeats 4000000 in
theorem kX2_layAlong (l : Launch) (D : va_G) (ad : Nat → Nat) (cI cJ : ClassId) (tP tR : Nat) (N : Nat) (M : Mem) (a1 : Nat) (a2 : Int32) (a3 : Int32) (a4 : Int32) (a5 : Nat) (ha1 : a1 = 1 ∨ a1 = 6) (ha5 : a5 = 19 ∨ a5 = 20) (o : Mem) (h : fX2_layAlong N M a1 a2 a3 a4 a5 = some o) : qMet l D cI cJ tP tR (xA ad) (xW ad cI cJ) yX2_layAlong cX2_layAlong 10 none rX2_layAlong [.ref (ad 18), .ref (ad a1), .int a2, .int a3, .int a4, .ref (ad a5)] M (qQv D (xA ad) (xW ad cI cJ) o) := by
  refine rs_enterV (own := RX2) ⟨by decide +kernel, rfl, Nat.le_of_ble_eq_true rfl⟩ ?_
  intro p e s m args below meth c Q C hret H locs ls hP hS hl
  obtain ⟨hx, hb, -⟩ := id C
  have hl : lv_has ls 10 [(0, .ref (ad 18)), (1, .ref (ad a1)), (2, .int a2), (3, .int a3), (4, .int a4), (5, .ref (ad a5))] := hl
  unfold fX2_layAlong at h
  refine rs_ldc (v := (2147483647 : Int32)) C wd_415 dX2_layAlong_0 ?_
  refine lv_istore (lv' := [(6, .int (2147483647 : Int32)), (0, .ref (ad 18)), (1, .ref (ad a1)), (2, .int a2), (3, .int a3), (4, .int a4), (5, .ref (ad a5))]) hx hb dX2_layAlong_2 hl (by decide) rfl (fun ls hl => ?_)
  refine lv_iconst (v := (0 : Int32)) hx hb dX2_layAlong_4 (by decide) ?_
  refine lv_istore (lv' := [(7, .int (0 : Int32)), (6, .int (2147483647 : Int32)), (0, .ref (ad 18)), (1, .ref (ad a1)), (2, .int a2), (3, .int a3), (4, .int a4), (5, .ref (ad a5))]) hx hb dX2_layAlong_5 hl (by decide) rfl (fun ls hl => ?_)
  obtain ⟨v1, h1, h⟩ := rs_bind h
  have hJ17 : ∀ (H : Heap) (locs : List Loc) (ls : Array Slot), va_P D vwCl (xW ad cI cJ M) H → va_S (xA ad) s.heap H locs → lv_has ls 10 [(1, .ref (ad a1)), (2, .int a2), (3, .int a3), (4, .int a4), (5, .ref (ad a5)), (6, .int v1)] → W p l e rX2_layAlong s m args below meth c H locs 0 0 Q (F0 m 58 ls []) := by
    intro H locs ls hP hS hl
    refine lv_iconst (v := (0 : Int32)) hx hb dX2_layAlong_58 (by decide) ?_
    refine lv_istore (lv' := [(7, .int (0 : Int32)), (1, .ref (ad a1)), (2, .int a2), (3, .int a3), (4, .int a4), (5, .ref (ad a5)), (6, .int v1)]) hx hb dX2_layAlong_59 hl (by decide) rfl (fun ls hl => ?_)
    obtain ⟨M2, h1, h⟩ := rs_bind h
    have hJ13 : ∀ (H : Heap) (locs : List Loc) (ls : Array Slot), va_P D vwCl (xW ad cI cJ M2) H → va_S (xA ad) s.heap H locs → lv_has ls 10 [(1, .ref (ad a1)), (2, .int a2), (3, .int a3), (4, .int a4), (5, .ref (ad a5)), (6, .int v1)] → W p l e rX2_layAlong s m args below meth c H locs 0 0 Q (F0 m 81 ls []) := by
      intro H locs ls hP hS hl
      refine lv_iload_n hx hb dX2_layAlong_81 rfl (lv_at hl 2 rfl) ?_
      refine lv_iload_n hx hb dX2_layAlong_82 rfl (lv_at hl 2 rfl) ?_
      refine lv_imul hx hb dX2_layAlong_83 ?_
      refine lv_iload hx hb dX2_layAlong_84 (lv_at hl 3 rfl) ?_
      refine lv_iload hx hb dX2_layAlong_86 (lv_at hl 3 rfl) ?_
      refine lv_imul hx hb dX2_layAlong_88 ?_
      refine lv_iadd hx hb dX2_layAlong_89 ?_
      refine lv_istore (lv' := [(7, .int ((a3 * a3) + (a4 * a4))), (1, .ref (ad a1)), (2, .int a2), (3, .int a3), (4, .int a4), (5, .ref (ad a5)), (6, .int v1)]) hx hb dX2_layAlong_90 hl (by decide) rfl (fun ls hl => ?_)
      refine lv_iload hx hb dX2_layAlong_92 (lv_at hl 0 rfl) ?_
      refine lv_if_ne (tgt := 98) hx hb dX2_layAlong_94 (by decide) (fun cd => ?_) (fun cd => ?_)
      · have h := (if_neg cd).symm.trans h
        refine lv_iconst (v := (0 : Int32)) hx hb dX2_layAlong_98 (by decide) ?_
        refine lv_istore (lv' := [(8, .int (0 : Int32)), (7, .int ((a3 * a3) + (a4 * a4))), (1, .ref (ad a1)), (2, .int a2), (3, .int a3), (4, .int a4), (5, .ref (ad a5)), (6, .int v1)]) hx hb dX2_layAlong_99 hl (by decide) rfl (fun ls hl => ?_)
        have hL101 : ∀ (n101 : Nat) (v3 : Int32) (M4 : Mem) (H : Heap) (locs : List Loc) (ls : Array Slot), va_P D vwCl (xW ad cI cJ M4) H → va_S (xA ad) s.heap H locs → lv_has ls 10 [(1, .ref (ad a1)), (2, .int a2), (3, .int a3), (4, .int a4), (5, .ref (ad a5)), (6, .int v1), (7, .int ((a3 * a3) + (a4 * a4))), (8, .int v3)] → lp (fun _ _ => none) (sX2_layAlong_101 a1 a3 a4 v1 a2 a5) n101 v3 M4 = some o → W p l e rX2_layAlong s m args below meth c H locs 0 0 Q (F0 m 101 ls []) := by
          intro n101
          induction n101 with
          | zero => intro v3 M4 H locs ls hP hS hl h; have h : (none : Option Mem) = some o := h; cases h
          | succ n101 ih101 =>
            intro v3 M4 H locs ls hP hS hl h
            have h : sX2_layAlong_101 a1 a3 a4 v1 a2 a5 (lp (fun _ _ => none) (sX2_layAlong_101 a1 a3 a4 v1 a2 a5) n101) v3 M4 = some o := h
            generalize lp (fun _ _ => none) (sX2_layAlong_101 a1 a3 a4 v1 a2 a5) n101 = cont101 at h ih101
            unfold sX2_layAlong_101 at h
            refine lv_iload hx hb dX2_layAlong_101 (lv_at hl 7 rfl) ?_
            refine lv_aload_n hx hb dX2_layAlong_103 rfl (lv_at hl 0 rfl) ?_
            refine gfX2_21 C hP ha1 dX2_layAlong_104 ?_
            refine lv_icmp_ge (tgt := 180) hx hb dX2_layAlong_107 (by decide) (fun cd => ?_) (fun cd => ?_)
            · have h := (if_pos cd).symm.trans h
              cases h
              exact hret H locs _ ls hP hS dX2_layAlong_180
            · have h := (if_neg cd).symm.trans h
              refine lv_iload_n hx hb dX2_layAlong_110 rfl (lv_at hl 2 rfl) ?_
              refine lv_aload_n hx hb dX2_layAlong_111 rfl (lv_at hl 0 rfl) ?_
              refine gfX2_27 C hP ha1 dX2_layAlong_112 ?_
              refine lv_iload hx hb dX2_layAlong_115 (lv_at hl 7 rfl) ?_
              refine rs_iald C hP (xIA_e1 ha1) dX2_layAlong_117 h (fun v5 h => ?_)
              refine lv_imul hx hb dX2_layAlong_118 ?_
              refine lv_iload hx hb dX2_layAlong_119 (lv_at hl 3 rfl) ?_
              refine lv_aload_n hx hb dX2_layAlong_121 rfl (lv_at hl 0 rfl) ?_
              refine gfX2_31 C hP ha1 dX2_layAlong_122 ?_
              refine lv_iload hx hb dX2_layAlong_125 (lv_at hl 7 rfl) ?_
              refine rs_iald C hP (xIA_e2 ha1) dX2_layAlong_127 h (fun v6 h => ?_)
              refine lv_imul hx hb dX2_layAlong_128 ?_
              refine lv_iadd hx hb dX2_layAlong_129 ?_
              refine lv_iload hx hb dX2_layAlong_130 (lv_at hl 5 rfl) ?_
              refine lv_isub hx hb dX2_layAlong_132 ?_
              refine lv_iload hx hb dX2_layAlong_133 (lv_at hl 6 rfl) ?_
              refine rs_idiv C dX2_layAlong_135 h (fun v7 h => ?_)
              refine lv_istore (lv' := [(9, .int v7), (1, .ref (ad a1)), (2, .int a2), (3, .int a3), (4, .int a4), (5, .ref (ad a5)), (6, .int v1), (7, .int ((a3 * a3) + (a4 * a4))), (8, .int v3)]) hx hb dX2_layAlong_136 hl (by decide) rfl (fun ls hl => ?_)
              refine lv_iload_n hx hb dX2_layAlong_138 rfl (lv_at hl 2 rfl) ?_
              refine lv_iload hx hb dX2_layAlong_139 (lv_at hl 8 rfl) ?_
              refine lv_ishr hx hb dX2_layAlong_141 ?_
              refine lv_iconst (v := (1 : Int32)) hx hb dX2_layAlong_142 (by decide) ?_
              refine lv_iand hx hb dX2_layAlong_143 ?_
              obtain ⟨M8, h1, h⟩ := rs_bind h
              have hJ9 : ∀ (H : Heap) (locs : List Loc) (ls : Array Slot), va_P D vwCl (xW ad cI cJ M8) H → va_S (xA ad) s.heap H locs → lv_has ls 10 [(1, .ref (ad a1)), (2, .int a2), (3, .int a3), (4, .int a4), (5, .ref (ad a5)), (6, .int v1), (7, .int ((a3 * a3) + (a4 * a4))), (8, .int v3)] → W p l e rX2_layAlong s m args below meth c H locs 0 0 Q (F0 m 174 ls []) := by
                intro H locs ls hP hS hl
                refine lv_iinc (v := (v3 + 1)) (lv' := [(8, .int (v3 + 1)), (1, .ref (ad a1)), (2, .int a2), (3, .int a3), (4, .int a4), (5, .ref (ad a5)), (6, .int v1), (7, .int ((a3 * a3) + (a4 * a4)))]) hx hb dX2_layAlong_174 hl (k := 7) rfl rfl (by decide) rfl (fun ls hl => ?_)
                refine lv_goto (tgt := 101) hx hb dX2_layAlong_177 (by decide) ?_
                exact ih101 _ _ H locs ls hP hS (lv_sub hl [1, 2, 3, 4, 5, 6, 7, 0] rfl) h
              replace h := h1
              clear h1
              refine lv_if_eq (tgt := 174) hx hb dX2_layAlong_144 (by decide) (fun cd => ?_) (fun cd => ?_)
              · have h := (if_pos cd).symm.trans h
                cases h
                exact hJ9 H locs ls hP hS (lv_sub hl [1, 2, 3, 4, 5, 6, 7, 8] rfl)
              · have h := (if_neg cd).symm.trans h
                refine lv_iload hx hb dX2_layAlong_147 (lv_at hl 0 rfl) ?_
                refine lv_iconst (v := (0 : Int32)) hx hb dX2_layAlong_149 (by decide) ?_
                refine lv_aload hx hb dX2_layAlong_150 (lv_at hl 5 rfl) ?_
                refine rs_alenL (v := (7 : Int32)) C hP (xLA_row ha5) rfl dX2_layAlong_152 ?_
                refine lv_iconst (v := (1 : Int32)) hx hb dX2_layAlong_153 (by decide) ?_
                refine lv_isub hx hb dX2_layAlong_154 ?_
                obtain ⟨v10, h1, h⟩ := rs_bind h
                refine rs_goI (rs_runN (As := [.int v7, .int (0 : Int32), .int ((7 : Int32) - (1 : Int32))]) (rest := []) C hP hS (kX5_within l D ad cI cJ tP tR M4 v7 (0 : Int32) ((7 : Int32) - (1 : Int32)) _ h1) mk_X5_within (nl_X2_62) rfl ⟨rfl, rfl, Nat.le_of_ble_eq_true rfl, Nat.le_of_ble_eq_true rfl⟩ rfl hl.1 (Nat.le_of_ble_eq_true rfl) dX2_layAlong_155) hS (fun H locs hP hS => ?_)
                refine lv_if_eq (tgt := 174) hx hb dX2_layAlong_158 (by decide) (fun cd => ?_) (fun cd => ?_)
                · have h := (if_pos cd).symm.trans h
                  cases h
                  exact hJ9 H locs ls hP hS (lv_sub hl [1, 2, 3, 4, 5, 6, 7, 8] rfl)
                · have h := (if_neg cd).symm.trans h
                  refine lv_aload hx hb dX2_layAlong_161 (lv_at hl 5 rfl) ?_
                  refine lv_iload hx hb dX2_layAlong_163 (lv_at hl 0 rfl) ?_
                  refine lv_aload_n hx hb dX2_layAlong_165 rfl (lv_at hl 1 rfl) ?_
                  refine gfX2_66 C hP ha1 dX2_layAlong_166 ?_
                  refine lv_iload hx hb dX2_layAlong_169 (lv_at hl 8 rfl) ?_
                  refine rs_iald C hP (xIA_e3 ha1) dX2_layAlong_171 h (fun v11 h => ?_)
                  refine lv_i2l hx hb dX2_layAlong_172 rfl ?_
                  refine rs_last C hP hS (xLA_row ha5) dX2_layAlong_173 h (fun M12 h H locs hP hS => ?_)
                  cases h
                  exact hJ9 H locs ls hP hS (lv_sub hl [1, 2, 3, 4, 5, 6, 7, 8] rfl)
        exact hL101 N _ _ H locs ls hP hS (lv_sub hl [2, 3, 4, 5, 6, 7, 1, 0] rfl) h
      · have h := (if_pos cd).symm.trans h
        cases h
        exact hret H locs _ ls hP hS dX2_layAlong_97
    replace h := h1
    clear h1
    have hL61 : ∀ (n61 : Nat) (v14 : Int32) (M15 : Mem) (H : Heap) (locs : List Loc) (ls : Array Slot), va_P D vwCl (xW ad cI cJ M15) H → va_S (xA ad) s.heap H locs → lv_has ls 10 [(1, .ref (ad a1)), (2, .int a2), (3, .int a3), (4, .int a4), (5, .ref (ad a5)), (6, .int v1), (7, .int v14)] → lp (fun _ _ => none) (sX2_layAlong_61 a5) n61 v14 M15 = some M2 → W p l e rX2_layAlong s m args below meth c H locs 0 0 Q (F0 m 61 ls []) := by
      intro n61
      induction n61 with
      | zero => intro v14 M15 H locs ls hP hS hl h; have h : (none : Option Mem) = some M2 := h; cases h
      | succ n61 ih61 =>
        intro v14 M15 H locs ls hP hS hl h
        have h : sX2_layAlong_61 a5 (lp (fun _ _ => none) (sX2_layAlong_61 a5) n61) v14 M15 = some M2 := h
        generalize lp (fun _ _ => none) (sX2_layAlong_61 a5) n61 = cont61 at h ih61
        unfold sX2_layAlong_61 at h
        refine lv_iload hx hb dX2_layAlong_61 (lv_at hl 6 rfl) ?_
        refine lv_aload hx hb dX2_layAlong_63 (lv_at hl 4 rfl) ?_
        refine rs_alenL (v := (7 : Int32)) C hP (xLA_row ha5) rfl dX2_layAlong_65 ?_
        refine lv_icmp_ge (tgt := 81) hx hb dX2_layAlong_66 (by decide) (fun cd => ?_) (fun cd => ?_)
        · have h := (if_pos cd).symm.trans h
          cases h
          exact hJ13 H locs ls hP hS (lv_sub hl [0, 1, 2, 3, 4, 5] rfl)
        · have h := (if_neg cd).symm.trans h
          refine lv_aload hx hb dX2_layAlong_69 (lv_at hl 4 rfl) ?_
          refine lv_iload hx hb dX2_layAlong_71 (lv_at hl 6 rfl) ?_
          refine lv_lconst (v := (0 : Int64)) hx hb dX2_layAlong_73 (by decide) ?_
          refine rs_last C hP hS (xLA_row ha5) dX2_layAlong_74 h (fun M16 h H locs hP hS => ?_)
          refine lv_iinc (v := (v14 + 1)) (lv' := [(7, .int (v14 + 1)), (1, .ref (ad a1)), (2, .int a2), (3, .int a3), (4, .int a4), (5, .ref (ad a5)), (6, .int v1)]) hx hb dX2_layAlong_75 hl (k := 6) rfl rfl (by decide) rfl (fun ls hl => ?_)
          refine lv_goto (tgt := 61) hx hb dX2_layAlong_78 (by decide) ?_
          exact ih61 _ _ H locs ls hP hS (lv_sub hl [1, 2, 3, 4, 5, 6, 0] rfl) h
    exact hL61 N _ _ H locs ls hP hS (lv_sub hl [1, 2, 3, 4, 5, 6, 0] rfl) h
  replace h := h1
  clear h1
  have hL7 : ∀ (n7 : Nat) (v18 : Int32) (v19 : Int32) (H : Heap) (locs : List Loc) (ls : Array Slot), va_P D vwCl (xW ad cI cJ M) H → va_S (xA ad) s.heap H locs → lv_has ls 10 [(1, .ref (ad a1)), (2, .int a2), (3, .int a3), (4, .int a4), (5, .ref (ad a5)), (6, .int v18), (7, .int v19)] → lp (fun _ _ => none) (sX2_layAlong_7 M a1 a2 a3 a4) n7 v18 v19 = some v1 → W p l e rX2_layAlong s m args below meth c H locs 0 0 Q (F0 m 7 ls []) := by
    intro n7
    induction n7 with
    | zero => intro v18 v19 H locs ls hP hS hl h; have h : (none : Option Int32) = some v1 := h; cases h
    | succ n7 ih7 =>
      intro v18 v19 H locs ls hP hS hl h
      have h : sX2_layAlong_7 M a1 a2 a3 a4 (lp (fun _ _ => none) (sX2_layAlong_7 M a1 a2 a3 a4) n7) v18 v19 = some v1 := h
      generalize lp (fun _ _ => none) (sX2_layAlong_7 M a1 a2 a3 a4) n7 = cont7 at h ih7
      unfold sX2_layAlong_7 at h
      refine lv_iload hx hb dX2_layAlong_7 (lv_at hl 6 rfl) ?_
      refine lv_aload_n hx hb dX2_layAlong_9 rfl (lv_at hl 0 rfl) ?_
      refine gfX2_21 C hP ha1 dX2_layAlong_10 ?_
      refine lv_icmp_ge (tgt := 58) hx hb dX2_layAlong_13 (by decide) (fun cd => ?_) (fun cd => ?_)
      · have h := (if_pos cd).symm.trans h
        cases h
        exact hJ17 H locs ls hP hS (lv_sub hl [0, 1, 2, 3, 4, 5] rfl)
      · have h := (if_neg cd).symm.trans h
        refine lv_iload_n hx hb dX2_layAlong_16 rfl (lv_at hl 1 rfl) ?_
        refine lv_iload hx hb dX2_layAlong_17 (lv_at hl 6 rfl) ?_
        refine lv_ishr hx hb dX2_layAlong_19 ?_
        refine lv_iconst (v := (1 : Int32)) hx hb dX2_layAlong_20 (by decide) ?_
        refine lv_iand hx hb dX2_layAlong_21 ?_
        obtain ⟨v20, h1, h⟩ := rs_bind h
        have hJ21 : ∀ (H : Heap) (locs : List Loc) (ls : Array Slot), va_P D vwCl (xW ad cI cJ M) H → va_S (xA ad) s.heap H locs → lv_has ls 10 [(1, .ref (ad a1)), (2, .int a2), (3, .int a3), (4, .int a4), (5, .ref (ad a5)), (6, .int v20), (7, .int v19)] → W p l e rX2_layAlong s m args below meth c H locs 0 0 Q (F0 m 52 ls []) := by
          intro H locs ls hP hS hl
          refine lv_iinc (v := (v19 + 1)) (lv' := [(7, .int (v19 + 1)), (1, .ref (ad a1)), (2, .int a2), (3, .int a3), (4, .int a4), (5, .ref (ad a5)), (6, .int v20)]) hx hb dX2_layAlong_52 hl (k := 6) rfl rfl (by decide) rfl (fun ls hl => ?_)
          refine lv_goto (tgt := 7) hx hb dX2_layAlong_55 (by decide) ?_
          exact ih7 _ _ H locs ls hP hS (lv_sub hl [1, 2, 3, 4, 5, 6, 0] rfl) h
        replace h := h1
        clear h1
        refine lv_if_eq (tgt := 52) hx hb dX2_layAlong_22 (by decide) (fun cd => ?_) (fun cd => ?_)
        · have h := (if_pos cd).symm.trans h
          cases h
          exact hJ21 H locs ls hP hS (lv_sub hl [0, 1, 2, 3, 4, 5, 6] rfl)
        · have h := (if_neg cd).symm.trans h
          refine lv_iload hx hb dX2_layAlong_25 (lv_at hl 5 rfl) ?_
          refine lv_iload_n hx hb dX2_layAlong_27 rfl (lv_at hl 2 rfl) ?_
          refine lv_aload_n hx hb dX2_layAlong_28 rfl (lv_at hl 0 rfl) ?_
          refine gfX2_27 C hP ha1 dX2_layAlong_29 ?_
          refine lv_iload hx hb dX2_layAlong_32 (lv_at hl 6 rfl) ?_
          refine rs_iald C hP (xIA_e1 ha1) dX2_layAlong_34 h (fun v22 h => ?_)
          refine lv_imul hx hb dX2_layAlong_35 ?_
          refine lv_iload hx hb dX2_layAlong_36 (lv_at hl 3 rfl) ?_
          refine lv_aload_n hx hb dX2_layAlong_38 rfl (lv_at hl 0 rfl) ?_
          refine gfX2_31 C hP ha1 dX2_layAlong_39 ?_
          refine lv_iload hx hb dX2_layAlong_42 (lv_at hl 6 rfl) ?_
          refine rs_iald C hP (xIA_e2 ha1) dX2_layAlong_44 h (fun v23 h => ?_)
          refine lv_imul hx hb dX2_layAlong_45 ?_
          refine lv_iadd hx hb dX2_layAlong_46 ?_
          refine rs_min C ⟨wd_439, wd_56, wd_440⟩ wd_438 hl.1 ⟨Nat.le_of_ble_eq_true rfl, Nat.le_of_ble_eq_true rfl⟩ dX2_layAlong_47 ?_
          refine lv_istore (lv' := [(6, .int (if ((a3 * v22) + (a4 * v23)) < v18 then ((a3 * v22) + (a4 * v23)) else v18)), (1, .ref (ad a1)), (2, .int a2), (3, .int a3), (4, .int a4), (5, .ref (ad a5)), (7, .int v19)]) hx hb dX2_layAlong_50 hl (by decide) rfl (fun ls hl => ?_)
          cases h
          exact hJ21 H locs ls hP hS (lv_sub hl [1, 2, 3, 4, 5, 0, 6] rfl)
  exact hL7 N _ _ H locs ls hP hS (lv_sub hl [3, 4, 5, 6, 7, 1, 0] rfl) h
abbrev rX2_degreeOf : Room := { frames := 0, cells := 0, slots := 0, locals := 0 }
theorem dX2_degreeOf_0 : decode cX2_degreeOf 0 = .ok (.aload_n 1, 1) := by decide +kernel
theorem dX2_degreeOf_1 : decode cX2_degreeOf 1 = .ok (.arraylength, 1) := by decide +kernel
theorem dX2_degreeOf_2 : decode cX2_degreeOf 2 = .ok (.iconst 1, 1) := by decide +kernel
theorem dX2_degreeOf_3 : decode cX2_degreeOf 3 = .ok (.isub, 1) := by decide +kernel
theorem dX2_degreeOf_4 : decode cX2_degreeOf 4 = .ok (.istore_n 2, 1) := by decide +kernel
theorem dX2_degreeOf_5 : decode cX2_degreeOf 5 = .ok (.iload_n 2, 1) := by decide +kernel
theorem dX2_degreeOf_6 : decode cX2_degreeOf 6 = .ok (.ifCond .lt 17, 3) := by decide +kernel
theorem dX2_degreeOf_9 : decode cX2_degreeOf 9 = .ok (.aload_n 1, 1) := by decide +kernel
theorem dX2_degreeOf_10 : decode cX2_degreeOf 10 = .ok (.iload_n 2, 1) := by decide +kernel
theorem dX2_degreeOf_11 : decode cX2_degreeOf 11 = .ok (.laload, 1) := by decide +kernel
theorem dX2_degreeOf_12 : decode cX2_degreeOf 12 = .ok (.lconst 0, 1) := by decide +kernel
theorem dX2_degreeOf_13 : decode cX2_degreeOf 13 = .ok (.lcmp, 1) := by decide +kernel
theorem dX2_degreeOf_14 : decode cX2_degreeOf 14 = .ok (.ifCond .ne 9, 3) := by decide +kernel
theorem dX2_degreeOf_17 : decode cX2_degreeOf 17 = .ok (.iinc 2 (-1), 3) := by decide +kernel
theorem dX2_degreeOf_20 : decode cX2_degreeOf 20 = .ok (.goto (-15), 3) := by decide +kernel
theorem dX2_degreeOf_23 : decode cX2_degreeOf 23 = .ok (.iload_n 2, 1) := by decide +kernel
theorem dX2_degreeOf_24 : decode cX2_degreeOf 24 = .ok (.ireturn, 1) := by decide +kernel
set_option maxRecDepth 100000 in
set_option maxHeartbeats 4000000 in
theorem kX2_degreeOf (l : Launch) (D : va_G) (ad : Nat → Nat) (cI cJ : ClassId) (tP tR : Nat) (N : Nat) (M : Mem) (a1 : Nat) (ha1 : a1 = 19 ∨ a1 = 20) (o : Int32) (h : fX2_degreeOf N M a1 = some o) : qMet l D cI cJ tP tR (xA ad) (xW ad cI cJ) yX2_degreeOf cX2_degreeOf 3 (some .int) rX2_degreeOf [.ref (ad 18), .ref (ad a1)] M (qQi D (xA ad) (xW ad cI cJ) o M) := by
  refine rs_enterI (own := RX2) ⟨by decide +kernel, rfl, Nat.le_of_ble_eq_true rfl⟩ ?_
  intro p e s m args below meth c Q C hret H locs ls hP hS hl
  obtain ⟨hx, hb, -⟩ := id C
  have hl : lv_has ls 3 [(0, .ref (ad 18)), (1, .ref (ad a1))] := hl
  unfold fX2_degreeOf at h
  refine lv_aload_n hx hb dX2_degreeOf_0 rfl (lv_at hl 1 rfl) ?_
  refine rs_alenL (v := (7 : Int32)) C hP (xLA_row ha1) rfl dX2_degreeOf_1 ?_
  refine lv_iconst (v := (1 : Int32)) hx hb dX2_degreeOf_2 (by decide) ?_
  refine lv_isub hx hb dX2_degreeOf_3 ?_
  refine lv_istore_n (lv' := [(2, .int ((7 : Int32) - (1 : Int32))), (0, .ref (ad 18)), (1, .ref (ad a1))]) hx hb dX2_degreeOf_4 rfl hl (by decide) rfl (fun ls hl => ?_)
  have hL5 : ∀ (n5 : Nat) (v1 : Int32) (H : Heap) (locs : List Loc) (ls : Array Slot), va_P D vwCl (xW ad cI cJ M) H → va_S (xA ad) s.heap H locs → lv_has ls 3 [(1, .ref (ad a1)), (2, .int v1)] → lp (fun _ => none) (sX2_degreeOf_5 M a1) n5 v1 = some o → W p l e rX2_degreeOf s m args below meth c H locs 0 0 Q (F0 m 5 ls []) := by
    intro n5
    induction n5 with
    | zero => intro v1 H locs ls hP hS hl h; have h : (none : Option Int32) = some o := h; cases h
    | succ n5 ih5 =>
      intro v1 H locs ls hP hS hl h
      have h : sX2_degreeOf_5 M a1 (lp (fun _ => none) (sX2_degreeOf_5 M a1) n5) v1 = some o := h
      generalize lp (fun _ => none) (sX2_degreeOf_5 M a1) n5 = cont5 at h ih5
      unfold sX2_degreeOf_5 at h
      refine lv_iload_n hx hb dX2_degreeOf_5 rfl (lv_at hl 1 rfl) ?_
      refine lv_if_lt (tgt := 23) hx hb dX2_degreeOf_6 (by decide) (fun cd => ?_) (fun cd => ?_)
      · have h := (if_pos cd).symm.trans h
        refine lv_iload_n hx hb dX2_degreeOf_23 rfl (lv_at hl 1 rfl) ?_
        cases h
        exact hret H locs _ ls hP hS dX2_degreeOf_24
      · have h := (if_neg cd).symm.trans h
        refine lv_aload_n hx hb dX2_degreeOf_9 rfl (lv_at hl 0 rfl) ?_
        refine lv_iload_n hx hb dX2_degreeOf_10 rfl (lv_at hl 1 rfl) ?_
        refine rs_lald C hP (xLA_row ha1) dX2_degreeOf_11 h (fun v2 h => ?_)
        refine lv_lconst (v := (0 : Int64)) hx hb dX2_degreeOf_12 (by decide) ?_
        refine rs_lcmp C dX2_degreeOf_13 (fun z3 hz => ?_)
        refine lv_if_ne (tgt := 23) hx hb dX2_degreeOf_14 (by decide) (fun cd => ?_) (fun cd => ?_)
        · have h := (if_neg (fun q => cd (hz.2.1.mpr q))).symm.trans h
          refine lv_iload_n hx hb dX2_degreeOf_23 rfl (lv_at hl 1 rfl) ?_
          cases h
          exact hret H locs _ ls hP hS dX2_degreeOf_24
        · have h := (if_pos (hz.2.1.mp cd)).symm.trans h
          refine lv_iinc (v := (v1 + (-1))) (lv' := [(2, .int (v1 + (-1))), (1, .ref (ad a1))]) hx hb dX2_degreeOf_17 hl (k := 1) rfl rfl (by decide) rfl (fun ls hl => ?_)
          refine lv_goto (tgt := 5) hx hb dX2_degreeOf_20 (by decide) ?_
          exact ih5 _ H locs ls hP hS (lv_sub hl [1, 0] rfl) h
  exact hL5 N _ H locs ls hP hS (lv_sub hl [2, 0] rfl) h
abbrev rX2_lower : Room := { frames := 0, cells := 0, slots := 0, locals := 0 }
theorem dX2_lower_0 : decode cX2_lower 0 = .ok (.aload_n 1, 1) := by decide +kernel
theorem dX2_lower_1 : decode cX2_lower 1 = .ok (.iload_n 2, 1) := by decide +kernel
theorem dX2_lower_2 : decode cX2_lower 2 = .ok (.laload, 1) := by decide +kernel
theorem dX2_lower_3 : decode cX2_lower 3 = .ok (.lstore 7, 2) := by decide +kernel
theorem dX2_lower_5 : decode cX2_lower 5 = .ok (.aload_n 3, 1) := by decide +kernel
theorem dX2_lower_6 : decode cX2_lower 6 = .ok (.iload 4, 2) := by decide +kernel
theorem dX2_lower_8 : decode cX2_lower 8 = .ok (.laload, 1) := by decide +kernel
theorem dX2_lower_9 : decode cX2_lower 9 = .ok (.lstore 9, 2) := by decide +kernel
theorem dX2_lower_11 : decode cX2_lower 11 = .ok (.iload_n 2, 1) := by decide +kernel
theorem dX2_lower_12 : decode cX2_lower 12 = .ok (.iload 4, 2) := by decide +kernel
theorem dX2_lower_14 : decode cX2_lower 14 = .ok (.isub, 1) := by decide +kernel
theorem dX2_lower_15 : decode cX2_lower 15 = .ok (.istore 11, 2) := by decide +kernel
theorem dX2_lower_17 : decode cX2_lower 17 = .ok (.iconst 0, 1) := by decide +kernel
theorem dX2_lower_18 : decode cX2_lower 18 = .ok (.istore 12, 2) := by decide +kernel
theorem dX2_lower_20 : decode cX2_lower 20 = .ok (.iload 12, 2) := by decide +kernel
theorem dX2_lower_22 : decode cX2_lower 22 = .ok (.iload_n 2, 1) := by decide +kernel
theorem dX2_lower_23 : decode cX2_lower 23 = .ok (.if_icmp .gt 49, 3) := by decide +kernel
theorem dX2_lower_26 : decode cX2_lower 26 = .ok (.iload 12, 2) := by decide +kernel
theorem dX2_lower_28 : decode cX2_lower 28 = .ok (.iload 11, 2) := by decide +kernel
theorem dX2_lower_30 : decode cX2_lower 30 = .ok (.if_icmp .lt 16, 3) := by decide +kernel
theorem dX2_lower_33 : decode cX2_lower 33 = .ok (.lload 7, 2) := by decide +kernel
theorem dX2_lower_35 : decode cX2_lower 35 = .ok (.aload_n 3, 1) := by decide +kernel
theorem dX2_lower_36 : decode cX2_lower 36 = .ok (.iload 12, 2) := by decide +kernel
theorem dX2_lower_38 : decode cX2_lower 38 = .ok (.iload 11, 2) := by decide +kernel
theorem dX2_lower_40 : decode cX2_lower 40 = .ok (.isub, 1) := by decide +kernel
theorem dX2_lower_41 : decode cX2_lower 41 = .ok (.laload, 1) := by decide +kernel
theorem dX2_lower_42 : decode cX2_lower 42 = .ok (.lmul, 1) := by decide +kernel
theorem dX2_lower_43 : decode cX2_lower 43 = .ok (.goto 4, 3) := by decide +kernel
theorem dX2_lower_46 : decode cX2_lower 46 = .ok (.lconst 0, 1) := by decide +kernel
theorem dX2_lower_47 : decode cX2_lower 47 = .ok (.lstore 13, 2) := by decide +kernel
theorem dX2_lower_49 : decode cX2_lower 49 = .ok (.aload_n 1, 1) := by decide +kernel
theorem dX2_lower_50 : decode cX2_lower 50 = .ok (.iload 12, 2) := by decide +kernel
theorem dX2_lower_52 : decode cX2_lower 52 = .ok (.lload 9, 2) := by decide +kernel
theorem dX2_lower_54 : decode cX2_lower 54 = .ok (.aload_n 1, 1) := by decide +kernel
theorem dX2_lower_55 : decode cX2_lower 55 = .ok (.iload 12, 2) := by decide +kernel
theorem dX2_lower_57 : decode cX2_lower 57 = .ok (.laload, 1) := by decide +kernel
theorem dX2_lower_58 : decode cX2_lower 58 = .ok (.lmul, 1) := by decide +kernel
theorem dX2_lower_59 : decode cX2_lower 59 = .ok (.lload 13, 2) := by decide +kernel
theorem dX2_lower_61 : decode cX2_lower 61 = .ok (.lsub, 1) := by decide +kernel
theorem dX2_lower_62 : decode cX2_lower 62 = .ok (.lload 5, 2) := by decide +kernel
theorem dX2_lower_64 : decode cX2_lower 64 = .ok (.lrem, 1) := by decide +kernel
theorem dX2_lower_65 : decode cX2_lower 65 = .ok (.lastore, 1) := by decide +kernel
theorem dX2_lower_66 : decode cX2_lower 66 = .ok (.iinc 12 1, 3) := by decide +kernel
theorem dX2_lower_69 : decode cX2_lower 69 = .ok (.goto (-49), 3) := by decide +kernel
theorem dX2_lower_72 : decode cX2_lower 72 = .ok (.return_, 1) := by decide +kernel
set_option maxRecDepth 100000 in
set_option maxHeartbeats 4000000 in
theorem kX2_lower (l : Launch) (D : va_G) (ad : Nat → Nat) (cI cJ : ClassId) (tP tR : Nat) (N : Nat) (M : Mem) (a1 : Nat) (a2 : Int32) (a3 : Nat) (a4 : Int32) (a5 : Int64) (ha1 : a1 = 19 ∨ a1 = 20) (ha3 : a3 = 19 ∨ a3 = 20) (o : Mem) (h : fX2_lower N M a1 a2 a3 a4 a5 = some o) : qMet l D cI cJ tP tR (xA ad) (xW ad cI cJ) yX2_lower cX2_lower 15 none rX2_lower [.ref (ad 18), .ref (ad a1), .int a2, .ref (ad a3), .int a4, .long a5] M (qQv D (xA ad) (xW ad cI cJ) o) := by
  refine rs_enterV (own := RX2) ⟨by decide +kernel, rfl, Nat.le_of_ble_eq_true rfl⟩ ?_
  intro p e s m args below meth c Q C hret H locs ls hP hS hl
  obtain ⟨hx, hb, -⟩ := id C
  have hl : lv_has ls 15 [(0, .ref (ad 18)), (1, .ref (ad a1)), (2, .int a2), (3, .ref (ad a3)), (4, .int a4), (5, .long a5)] := hl
  unfold fX2_lower at h
  refine lv_aload_n hx hb dX2_lower_0 rfl (lv_at hl 1 rfl) ?_
  refine lv_iload_n hx hb dX2_lower_1 rfl (lv_at hl 2 rfl) ?_
  refine rs_lald C hP (xLA_row ha1) dX2_lower_2 h (fun v1 h => ?_)
  refine lv_lstore (lv' := [(7, .long v1), (0, .ref (ad 18)), (1, .ref (ad a1)), (2, .int a2), (3, .ref (ad a3)), (4, .int a4), (5, .long a5)]) hx hb dX2_lower_3 hl (by decide) rfl (fun ls hl => ?_)
  refine lv_aload_n hx hb dX2_lower_5 rfl (lv_at hl 4 rfl) ?_
  refine lv_iload hx hb dX2_lower_6 (lv_at hl 5 rfl) ?_
  refine rs_lald C hP (xLA_row ha3) dX2_lower_8 h (fun v2 h => ?_)
  refine lv_lstore (lv' := [(9, .long v2), (7, .long v1), (0, .ref (ad 18)), (1, .ref (ad a1)), (2, .int a2), (3, .ref (ad a3)), (4, .int a4), (5, .long a5)]) hx hb dX2_lower_9 hl (by decide) rfl (fun ls hl => ?_)
  refine lv_iload_n hx hb dX2_lower_11 rfl (lv_at hl 4 rfl) ?_
  refine lv_iload hx hb dX2_lower_12 (lv_at hl 6 rfl) ?_
  refine lv_isub hx hb dX2_lower_14 ?_
  refine lv_istore (lv' := [(11, .int (a2 - a4)), (9, .long v2), (7, .long v1), (0, .ref (ad 18)), (1, .ref (ad a1)), (2, .int a2), (3, .ref (ad a3)), (4, .int a4), (5, .long a5)]) hx hb dX2_lower_15 hl (by decide) rfl (fun ls hl => ?_)
  refine lv_iconst (v := (0 : Int32)) hx hb dX2_lower_17 (by decide) ?_
  refine lv_istore (lv' := [(12, .int (0 : Int32)), (11, .int (a2 - a4)), (9, .long v2), (7, .long v1), (0, .ref (ad 18)), (1, .ref (ad a1)), (2, .int a2), (3, .ref (ad a3)), (4, .int a4), (5, .long a5)]) hx hb dX2_lower_18 hl (by decide) rfl (fun ls hl => ?_)
  have hL20 : ∀ (n20 : Nat) (v3 : Int32) (M4 : Mem) (H : Heap) (locs : List Loc) (ls : Array Slot), va_P D vwCl (xW ad cI cJ M4) H → va_S (xA ad) s.heap H locs → lv_has ls 15 [(1, .ref (ad a1)), (2, .int a2), (3, .ref (ad a3)), (5, .long a5), (7, .long v1), (9, .long v2), (11, .int (a2 - a4)), (12, .int v3)] → lp (fun _ _ => none) (sX2_lower_20 a2 a4 a3 v1 a1 v2 a5) n20 v3 M4 = some o → W p l e rX2_lower s m args below meth c H locs 0 0 Q (F0 m 20 ls []) := by
    intro n20
    induction n20 with
    | zero => intro v3 M4 H locs ls hP hS hl h; have h : (none : Option Mem) = some o := h; cases h
    | succ n20 ih20 =>
      intro v3 M4 H locs ls hP hS hl h
      have h : sX2_lower_20 a2 a4 a3 v1 a1 v2 a5 (lp (fun _ _ => none) (sX2_lower_20 a2 a4 a3 v1 a1 v2 a5) n20) v3 M4 = some o := h
      generalize lp (fun _ _ => none) (sX2_lower_20 a2 a4 a3 v1 a1 v2 a5) n20 = cont20 at h ih20
      unfold sX2_lower_20 at h
      refine lv_iload hx hb dX2_lower_20 (lv_at hl 7 rfl) ?_
      refine lv_iload_n hx hb dX2_lower_22 rfl (lv_at hl 1 rfl) ?_
      refine lv_icmp_gt (tgt := 72) hx hb dX2_lower_23 (by decide) (fun cd => ?_) (fun cd => ?_)
      · have h := (if_pos cd).symm.trans h
        cases h
        exact hret H locs _ ls hP hS dX2_lower_72
      · have h := (if_neg cd).symm.trans h
        refine lv_iload hx hb dX2_lower_26 (lv_at hl 7 rfl) ?_
        refine lv_iload hx hb dX2_lower_28 (lv_at hl 6 rfl) ?_
        obtain ⟨v5, h1, h⟩ := rs_bind h
        have hJ9 : ∀ (H : Heap) (locs : List Loc) (ls : Array Slot), va_P D vwCl (xW ad cI cJ M4) H → va_S (xA ad) s.heap H locs → lv_has ls 15 [(1, .ref (ad a1)), (2, .int a2), (3, .ref (ad a3)), (5, .long a5), (7, .long v1), (9, .long v2), (11, .int (a2 - a4)), (12, .int v3)] → W p l e rX2_lower s m args below meth c H locs 0 0 Q (F0 m 47 ls [.long v5]) := by
          intro H locs ls hP hS hl
          refine lv_lstore (lv' := [(13, .long v5), (1, .ref (ad a1)), (2, .int a2), (3, .ref (ad a3)), (5, .long a5), (7, .long v1), (9, .long v2), (11, .int (a2 - a4)), (12, .int v3)]) hx hb dX2_lower_47 hl (by decide) rfl (fun ls hl => ?_)
          refine lv_aload_n hx hb dX2_lower_49 rfl (lv_at hl 1 rfl) ?_
          refine lv_iload hx hb dX2_lower_50 (lv_at hl 8 rfl) ?_
          refine lv_lload hx hb dX2_lower_52 (lv_at hl 6 rfl) ?_
          refine lv_aload_n hx hb dX2_lower_54 rfl (lv_at hl 1 rfl) ?_
          refine lv_iload hx hb dX2_lower_55 (lv_at hl 8 rfl) ?_
          refine rs_lald C hP (xLA_row ha1) dX2_lower_57 h (fun v6 h => ?_)
          refine lv_lmul hx hb dX2_lower_58 ?_
          refine lv_lload hx hb dX2_lower_59 (lv_at hl 0 rfl) ?_
          refine lv_lsub hx hb dX2_lower_61 ?_
          refine lv_lload hx hb dX2_lower_62 (lv_at hl 4 rfl) ?_
          refine rs_lrem C dX2_lower_64 h (fun v7 h => ?_)
          refine rs_last C hP hS (xLA_row ha1) dX2_lower_65 h (fun M8 h H locs hP hS => ?_)
          refine lv_iinc (v := (v3 + 1)) (lv' := [(12, .int (v3 + 1)), (13, .long v5), (1, .ref (ad a1)), (2, .int a2), (3, .ref (ad a3)), (5, .long a5), (7, .long v1), (9, .long v2), (11, .int (a2 - a4))]) hx hb dX2_lower_66 hl (k := 8) rfl rfl (by decide) rfl (fun ls hl => ?_)
          refine lv_goto (tgt := 20) hx hb dX2_lower_69 (by decide) ?_
          exact ih20 _ _ H locs ls hP hS (lv_sub hl [2, 3, 4, 5, 6, 7, 8, 0] rfl) h
        replace h := h1
        clear h1
        refine lv_icmp_lt (tgt := 46) hx hb dX2_lower_30 (by decide) (fun cd => ?_) (fun cd => ?_)
        · have h := (if_pos cd).symm.trans h
          refine lv_lconst (v := (0 : Int64)) hx hb dX2_lower_46 (by decide) ?_
          cases h
          exact hJ9 H locs ls hP hS (lv_sub hl [0, 1, 2, 3, 4, 5, 6, 7] rfl)
        · have h := (if_neg cd).symm.trans h
          refine lv_lload hx hb dX2_lower_33 (lv_at hl 4 rfl) ?_
          refine lv_aload_n hx hb dX2_lower_35 rfl (lv_at hl 2 rfl) ?_
          refine lv_iload hx hb dX2_lower_36 (lv_at hl 7 rfl) ?_
          refine lv_iload hx hb dX2_lower_38 (lv_at hl 6 rfl) ?_
          refine lv_isub hx hb dX2_lower_40 ?_
          refine rs_lald C hP (xLA_row ha3) dX2_lower_41 h (fun v10 h => ?_)
          refine lv_lmul hx hb dX2_lower_42 ?_
          refine lv_goto (tgt := 47) hx hb dX2_lower_43 (by decide) ?_
          cases h
          exact hJ9 H locs ls hP hS (lv_sub hl [0, 1, 2, 3, 4, 5, 6, 7] rfl)
  exact hL20 N _ _ H locs ls hP hS (lv_sub hl [5, 6, 7, 9, 3, 2, 1, 0] rfl) h
abbrev rX2_shareRootBy : Room := { frames := 1, cells := 0, slots := 0, locals := 34 }
theorem dX2_shareRootBy_0 : decode cX2_shareRootBy 0 = .ok (.aload_n 0, 1) := by decide +kernel
theorem dX2_shareRootBy_1 : decode cX2_shareRootBy 1 = .ok (.aload_n 0, 1) := by decide +kernel
theorem dX2_shareRootBy_2 : decode cX2_shareRootBy 2 = .ok (.getfield 11, 3) := by decide +kernel
theorem dX2_shareRootBy_5 : decode cX2_shareRootBy 5 = .ok (.invokevirtual 69, 3) := by decide +kernel
theorem dX2_shareRootBy_8 : decode cX2_shareRootBy 8 = .ok (.istore_n 3, 1) := by decide +kernel
theorem dX2_shareRootBy_9 : decode cX2_shareRootBy 9 = .ok (.aload_n 0, 1) := by decide +kernel
theorem dX2_shareRootBy_10 : decode cX2_shareRootBy 10 = .ok (.aload_n 0, 1) := by decide +kernel
theorem dX2_shareRootBy_11 : decode cX2_shareRootBy 11 = .ok (.getfield 15, 3) := by decide +kernel
theorem dX2_shareRootBy_14 : decode cX2_shareRootBy 14 = .ok (.invokevirtual 69, 3) := by decide +kernel
theorem dX2_shareRootBy_17 : decode cX2_shareRootBy 17 = .ok (.istore 4, 2) := by decide +kernel
theorem dX2_shareRootBy_19 : decode cX2_shareRootBy 19 = .ok (.iconst 0, 1) := by decide +kernel
theorem dX2_shareRootBy_20 : decode cX2_shareRootBy 20 = .ok (.istore 5, 2) := by decide +kernel
theorem dX2_shareRootBy_22 : decode cX2_shareRootBy 22 = .ok (.iload 5, 2) := by decide +kernel
theorem dX2_shareRootBy_24 : decode cX2_shareRootBy 24 = .ok (.bipush 28, 2) := by decide +kernel
theorem dX2_shareRootBy_26 : decode cX2_shareRootBy 26 = .ok (.if_icmp .ge 78, 3) := by decide +kernel
theorem dX2_shareRootBy_29 : decode cX2_shareRootBy 29 = .ok (.iload_n 3, 1) := by decide +kernel
theorem dX2_shareRootBy_30 : decode cX2_shareRootBy 30 = .ok (.ifCond .lt 74, 3) := by decide +kernel
theorem dX2_shareRootBy_33 : decode cX2_shareRootBy 33 = .ok (.iload 4, 2) := by decide +kernel
theorem dX2_shareRootBy_35 : decode cX2_shareRootBy 35 = .ok (.ifCond .lt 69, 3) := by decide +kernel
theorem dX2_shareRootBy_38 : decode cX2_shareRootBy 38 = .ok (.iload_n 3, 1) := by decide +kernel
theorem dX2_shareRootBy_39 : decode cX2_shareRootBy 39 = .ok (.iload 4, 2) := by decide +kernel
theorem dX2_shareRootBy_41 : decode cX2_shareRootBy 41 = .ok (.if_icmp .lt 31, 3) := by decide +kernel
theorem dX2_shareRootBy_44 : decode cX2_shareRootBy 44 = .ok (.aload_n 0, 1) := by decide +kernel
theorem dX2_shareRootBy_45 : decode cX2_shareRootBy 45 = .ok (.aload_n 0, 1) := by decide +kernel
theorem dX2_shareRootBy_46 : decode cX2_shareRootBy 46 = .ok (.getfield 11, 3) := by decide +kernel
theorem dX2_shareRootBy_49 : decode cX2_shareRootBy 49 = .ok (.iload_n 3, 1) := by decide +kernel
theorem dX2_shareRootBy_50 : decode cX2_shareRootBy 50 = .ok (.aload_n 0, 1) := by decide +kernel
theorem dX2_shareRootBy_51 : decode cX2_shareRootBy 51 = .ok (.getfield 15, 3) := by decide +kernel
theorem dX2_shareRootBy_54 : decode cX2_shareRootBy 54 = .ok (.iload 4, 2) := by decide +kernel
theorem dX2_shareRootBy_56 : decode cX2_shareRootBy 56 = .ok (.lload_n 1, 1) := by decide +kernel
theorem dX2_shareRootBy_57 : decode cX2_shareRootBy 57 = .ok (.invokevirtual 73, 3) := by decide +kernel
theorem dX2_shareRootBy_60 : decode cX2_shareRootBy 60 = .ok (.aload_n 0, 1) := by decide +kernel
theorem dX2_shareRootBy_61 : decode cX2_shareRootBy 61 = .ok (.aload_n 0, 1) := by decide +kernel
theorem dX2_shareRootBy_62 : decode cX2_shareRootBy 62 = .ok (.getfield 11, 3) := by decide +kernel
theorem dX2_shareRootBy_65 : decode cX2_shareRootBy 65 = .ok (.invokevirtual 69, 3) := by decide +kernel
theorem dX2_shareRootBy_68 : decode cX2_shareRootBy 68 = .ok (.istore_n 3, 1) := by decide +kernel
theorem dX2_shareRootBy_69 : decode cX2_shareRootBy 69 = .ok (.goto 29, 3) := by decide +kernel
theorem dX2_shareRootBy_72 : decode cX2_shareRootBy 72 = .ok (.aload_n 0, 1) := by decide +kernel
theorem dX2_shareRootBy_73 : decode cX2_shareRootBy 73 = .ok (.aload_n 0, 1) := by decide +kernel
theorem dX2_shareRootBy_74 : decode cX2_shareRootBy 74 = .ok (.getfield 15, 3) := by decide +kernel
theorem dX2_shareRootBy_77 : decode cX2_shareRootBy 77 = .ok (.iload 4, 2) := by decide +kernel
theorem dX2_shareRootBy_79 : decode cX2_shareRootBy 79 = .ok (.aload_n 0, 1) := by decide +kernel
theorem dX2_shareRootBy_80 : decode cX2_shareRootBy 80 = .ok (.getfield 11, 3) := by decide +kernel
theorem dX2_shareRootBy_83 : decode cX2_shareRootBy 83 = .ok (.iload_n 3, 1) := by decide +kernel
theorem dX2_shareRootBy_84 : decode cX2_shareRootBy 84 = .ok (.lload_n 1, 1) := by decide +kernel
theorem dX2_shareRootBy_85 : decode cX2_shareRootBy 85 = .ok (.invokevirtual 73, 3) := by decide +kernel
theorem dX2_shareRootBy_88 : decode cX2_shareRootBy 88 = .ok (.aload_n 0, 1) := by decide +kernel
theorem dX2_shareRootBy_89 : decode cX2_shareRootBy 89 = .ok (.aload_n 0, 1) := by decide +kernel
theorem dX2_shareRootBy_90 : decode cX2_shareRootBy 90 = .ok (.getfield 15, 3) := by decide +kernel
theorem dX2_shareRootBy_93 : decode cX2_shareRootBy 93 = .ok (.invokevirtual 69, 3) := by decide +kernel
theorem dX2_shareRootBy_96 : decode cX2_shareRootBy 96 = .ok (.istore 4, 2) := by decide +kernel
theorem dX2_shareRootBy_98 : decode cX2_shareRootBy 98 = .ok (.iinc 5 1, 3) := by decide +kernel
theorem dX2_shareRootBy_101 : decode cX2_shareRootBy 101 = .ok (.goto (-79), 3) := by decide +kernel
theorem dX2_shareRootBy_104 : decode cX2_shareRootBy 104 = .ok (.iload_n 3, 1) := by decide +kernel
theorem dX2_shareRootBy_105 : decode cX2_shareRootBy 105 = .ok (.iload 4, 2) := by decide +kernel
theorem dX2_shareRootBy_107 : decode cX2_shareRootBy 107 = .ok (.invokestatic 77, 3) := by decide +kernel
theorem dX2_shareRootBy_110 : decode cX2_shareRootBy 110 = .ok (.ifCond .le 7, 3) := by decide +kernel
theorem dX2_shareRootBy_113 : decode cX2_shareRootBy 113 = .ok (.iconst 1, 1) := by decide +kernel
theorem dX2_shareRootBy_114 : decode cX2_shareRootBy 114 = .ok (.goto 4, 3) := by decide +kernel
theorem dX2_shareRootBy_117 : decode cX2_shareRootBy 117 = .ok (.iconst 0, 1) := by decide +kernel
theorem dX2_shareRootBy_118 : decode cX2_shareRootBy 118 = .ok (.ireturn, 1) := by decide +kernel
set_option maxRecDepth 100000 in
set_option maxHeartbeats 4000000 in
theorem kX2_shareRootBy (l : Launch) (D : va_G) (ad : Nat → Nat) (cI cJ : ClassId) (tP tR : Nat) (N : Nat) (M : Mem) (a1 : Int64)  (o : (Int32 × Mem)) (h : fX2_shareRootBy N M a1 = some o) : qMet l D cI cJ tP tR (xA ad) (xW ad cI cJ) yX2_shareRootBy cX2_shareRootBy 6 (some .boolean) rX2_shareRootBy [.ref (ad 18), .long a1] M (qQi D (xA ad) (xW ad cI cJ) o.1 o.2) := by
  refine rs_enterZ (own := RX2) ⟨by decide +kernel, rfl, Nat.le_of_ble_eq_true rfl⟩ ?_
  intro p e s m args below meth c Q C hret H locs ls hP hS hl
  obtain ⟨hx, hb, -⟩ := id C
  have hl : lv_has ls 6 [(0, .ref (ad 18)), (1, .long a1)] := hl
  unfold fX2_shareRootBy at h
  refine lv_aload_n hx hb dX2_shareRootBy_0 rfl (lv_at hl 0 rfl) ?_
  refine lv_aload_n hx hb dX2_shareRootBy_1 rfl (lv_at hl 0 rfl) ?_
  refine gfX2_11 C hP dX2_shareRootBy_2 ?_
  obtain ⟨v1, h1, h⟩ := rs_bind h
  refine rs_goI (rs_runV (b := 18) (As := [.ref (ad 19)]) (rest := []) C hP hS (kX2_degreeOf l D ad cI cJ tP tR N M 19 (Or.inl rfl) _ h1) mk_X2_degreeOf wd_446 (xR_18) rfl ⟨rfl, rfl, Nat.le_of_ble_eq_true rfl, Nat.le_of_ble_eq_true rfl⟩ rfl hl.1 (Nat.le_of_ble_eq_true rfl) dX2_shareRootBy_5) hS (fun H locs hP hS => ?_)
  refine lv_istore_n (lv' := [(3, .int v1), (0, .ref (ad 18)), (1, .long a1)]) hx hb dX2_shareRootBy_8 rfl hl (by decide) rfl (fun ls hl => ?_)
  refine lv_aload_n hx hb dX2_shareRootBy_9 rfl (lv_at hl 1 rfl) ?_
  refine lv_aload_n hx hb dX2_shareRootBy_10 rfl (lv_at hl 1 rfl) ?_
  refine gfX2_15 C hP dX2_shareRootBy_11 ?_
  obtain ⟨v2, h1, h⟩ := rs_bind h
  refine rs_goI (rs_runV (b := 18) (As := [.ref (ad 20)]) (rest := []) C hP hS (kX2_degreeOf l D ad cI cJ tP tR N M 20 (Or.inr rfl) _ h1) mk_X2_degreeOf wd_446 (xR_18) rfl ⟨rfl, rfl, Nat.le_of_ble_eq_true rfl, Nat.le_of_ble_eq_true rfl⟩ rfl hl.1 (Nat.le_of_ble_eq_true rfl) dX2_shareRootBy_14) hS (fun H locs hP hS => ?_)
  refine lv_istore (lv' := [(4, .int v2), (3, .int v1), (0, .ref (ad 18)), (1, .long a1)]) hx hb dX2_shareRootBy_17 hl (by decide) rfl (fun ls hl => ?_)
  refine lv_iconst (v := (0 : Int32)) hx hb dX2_shareRootBy_19 (by decide) ?_
  refine lv_istore (lv' := [(5, .int (0 : Int32)), (4, .int v2), (3, .int v1), (0, .ref (ad 18)), (1, .long a1)]) hx hb dX2_shareRootBy_20 hl (by decide) rfl (fun ls hl => ?_)
  obtain ⟨⟨v3, v4, M5⟩, h1, h⟩ := rs_bind h
  dsimp only at h
  have hJ6 : ∀ (H : Heap) (locs : List Loc) (ls : Array Slot), va_P D vwCl (xW ad cI cJ M5) H → va_S (xA ad) s.heap H locs → lv_has ls 6 [(3, .int v3), (4, .int v4)] → W p l e rX2_shareRootBy s m args below meth c H locs 0 0 Q (F0 m 104 ls []) := by
    intro H locs ls hP hS hl
    refine lv_iload_n hx hb dX2_shareRootBy_104 rfl (lv_at hl 0 rfl) ?_
    refine lv_iload hx hb dX2_shareRootBy_105 (lv_at hl 1 rfl) ?_
    refine rs_max C ⟨wd_455, wd_56, wd_456⟩ wd_454 hl.1 ⟨Nat.le_of_ble_eq_true rfl, Nat.le_of_ble_eq_true rfl⟩ dX2_shareRootBy_107 ?_
    refine lv_if_le (tgt := 117) hx hb dX2_shareRootBy_110 (by decide) (fun cd => ?_) (fun cd => ?_)
    · have h := (if_pos cd).symm.trans h
      refine lv_iconst (v := (0 : Int32)) hx hb dX2_shareRootBy_117 (by decide) ?_
      obtain ⟨rfl, hz⟩ := rs_okZM h
      exact hret H locs _ ls hz hP hS dX2_shareRootBy_118
    · have h := (if_neg cd).symm.trans h
      refine lv_iconst (v := (1 : Int32)) hx hb dX2_shareRootBy_113 (by decide) ?_
      refine lv_goto (tgt := 118) hx hb dX2_shareRootBy_114 (by decide) ?_
      obtain ⟨rfl, hz⟩ := rs_okZM h
      exact hret H locs _ ls hz hP hS dX2_shareRootBy_118
  replace h := h1
  clear h1
  have hL22 : ∀ (n22 : Nat) (v7 : Int32) (v8 : Int32) (v9 : Int32) (M10 : Mem) (H : Heap) (locs : List Loc) (ls : Array Slot), va_P D vwCl (xW ad cI cJ M10) H → va_S (xA ad) s.heap H locs → lv_has ls 6 [(0, .ref (ad 18)), (1, .long a1), (3, .int v7), (4, .int v8), (5, .int v9)] → lp (fun _ _ _ _ => none) (sX2_shareRootBy_22 N a1) n22 v7 v8 v9 M10 = some (v3, v4, M5) → W p l e rX2_shareRootBy s m args below meth c H locs 0 0 Q (F0 m 22 ls []) := by
    intro n22
    induction n22 with
    | zero => intro v7 v8 v9 M10 H locs ls hP hS hl h; have h : (none : Option (Int32 × Int32 × Mem)) = some (v3, v4, M5) := h; cases h
    | succ n22 ih22 =>
      intro v7 v8 v9 M10 H locs ls hP hS hl h
      have h : sX2_shareRootBy_22 N a1 (lp (fun _ _ _ _ => none) (sX2_shareRootBy_22 N a1) n22) v7 v8 v9 M10 = some (v3, v4, M5) := h
      generalize lp (fun _ _ _ _ => none) (sX2_shareRootBy_22 N a1) n22 = cont22 at h ih22
      unfold sX2_shareRootBy_22 at h
      refine lv_iload hx hb dX2_shareRootBy_22 (lv_at hl 4 rfl) ?_
      refine lv_bipush (v := (28 : Int32)) hx hb dX2_shareRootBy_24 (by decide) ?_
      refine lv_icmp_ge (tgt := 104) hx hb dX2_shareRootBy_26 (by decide) (fun cd => ?_) (fun cd => ?_)
      · have h := (if_pos cd).symm.trans h
        cases h
        exact hJ6 H locs ls hP hS (lv_sub hl [2, 3] rfl)
      · have h := (if_neg cd).symm.trans h
        refine lv_iload_n hx hb dX2_shareRootBy_29 rfl (lv_at hl 2 rfl) ?_
        refine lv_if_lt (tgt := 104) hx hb dX2_shareRootBy_30 (by decide) (fun cd => ?_) (fun cd => ?_)
        · have h := (if_pos cd).symm.trans h
          cases h
          exact hJ6 H locs ls hP hS (lv_sub hl [2, 3] rfl)
        · have h := (if_neg cd).symm.trans h
          refine lv_iload hx hb dX2_shareRootBy_33 (lv_at hl 3 rfl) ?_
          refine lv_if_lt (tgt := 104) hx hb dX2_shareRootBy_35 (by decide) (fun cd => ?_) (fun cd => ?_)
          · have h := (if_pos cd).symm.trans h
            cases h
            exact hJ6 H locs ls hP hS (lv_sub hl [2, 3] rfl)
          · have h := (if_neg cd).symm.trans h
            refine lv_iload_n hx hb dX2_shareRootBy_38 rfl (lv_at hl 2 rfl) ?_
            refine lv_iload hx hb dX2_shareRootBy_39 (lv_at hl 3 rfl) ?_
            obtain ⟨⟨v11, v12, M13⟩, h1, h⟩ := rs_bind h
            dsimp only at h
            have hJ14 : ∀ (H : Heap) (locs : List Loc) (ls : Array Slot), va_P D vwCl (xW ad cI cJ M13) H → va_S (xA ad) s.heap H locs → lv_has ls 6 [(0, .ref (ad 18)), (1, .long a1), (3, .int v11), (4, .int v12), (5, .int v9)] → W p l e rX2_shareRootBy s m args below meth c H locs 0 0 Q (F0 m 98 ls []) := by
              intro H locs ls hP hS hl
              refine lv_iinc (v := (v9 + 1)) (lv' := [(5, .int (v9 + 1)), (0, .ref (ad 18)), (1, .long a1), (3, .int v11), (4, .int v12)]) hx hb dX2_shareRootBy_98 hl (k := 4) rfl rfl (by decide) rfl (fun ls hl => ?_)
              refine lv_goto (tgt := 22) hx hb dX2_shareRootBy_101 (by decide) ?_
              exact ih22 _ _ _ _ H locs ls hP hS (lv_sub hl [1, 2, 3, 4, 0] rfl) h
            replace h := h1
            clear h1
            refine lv_icmp_lt (tgt := 72) hx hb dX2_shareRootBy_41 (by decide) (fun cd => ?_) (fun cd => ?_)
            · have h := (if_pos cd).symm.trans h
              refine lv_aload_n hx hb dX2_shareRootBy_72 rfl (lv_at hl 0 rfl) ?_
              refine lv_aload_n hx hb dX2_shareRootBy_73 rfl (lv_at hl 0 rfl) ?_
              refine gfX2_15 C hP dX2_shareRootBy_74 ?_
              refine lv_iload hx hb dX2_shareRootBy_77 (lv_at hl 3 rfl) ?_
              refine lv_aload_n hx hb dX2_shareRootBy_79 rfl (lv_at hl 0 rfl) ?_
              refine gfX2_11 C hP dX2_shareRootBy_80 ?_
              refine lv_iload_n hx hb dX2_shareRootBy_83 rfl (lv_at hl 2 rfl) ?_
              refine lv_lload_n hx hb dX2_shareRootBy_84 rfl (lv_at hl 1 rfl) ?_
              obtain ⟨M15, h1, h⟩ := rs_bind h
              refine rs_goV (rs_runV (b := 18) (As := [.ref (ad 20), .int v8, .ref (ad 19), .int v7, .long a1]) (rest := []) C hP hS (kX2_lower l D ad cI cJ tP tR N M10 20 v8 19 v7 a1 (Or.inr rfl) (Or.inl rfl) _ h1) mk_X2_lower wd_450 (xR_18) rfl ⟨rfl, rfl, Nat.le_of_ble_eq_true rfl, Nat.le_of_ble_eq_true rfl⟩ rfl hl.1 (Nat.le_of_ble_eq_true rfl) dX2_shareRootBy_85) hS (fun H locs hP hS => ?_)
              refine lv_aload_n hx hb dX2_shareRootBy_88 rfl (lv_at hl 0 rfl) ?_
              refine lv_aload_n hx hb dX2_shareRootBy_89 rfl (lv_at hl 0 rfl) ?_
              refine gfX2_15 C hP dX2_shareRootBy_90 ?_
              obtain ⟨v16, h1, h⟩ := rs_bind h
              refine rs_goI (rs_runV (b := 18) (As := [.ref (ad 20)]) (rest := []) C hP hS (kX2_degreeOf l D ad cI cJ tP tR N M15 20 (Or.inr rfl) _ h1) mk_X2_degreeOf wd_446 (xR_18) rfl ⟨rfl, rfl, Nat.le_of_ble_eq_true rfl, Nat.le_of_ble_eq_true rfl⟩ rfl hl.1 (Nat.le_of_ble_eq_true rfl) dX2_shareRootBy_93) hS (fun H locs hP hS => ?_)
              refine lv_istore (lv' := [(4, .int v16), (0, .ref (ad 18)), (1, .long a1), (3, .int v7), (5, .int v9)]) hx hb dX2_shareRootBy_96 hl (by decide) rfl (fun ls hl => ?_)
              cases h
              exact hJ14 H locs ls hP hS (lv_sub hl [1, 2, 3, 0, 4] rfl)
            · have h := (if_neg cd).symm.trans h
              refine lv_aload_n hx hb dX2_shareRootBy_44 rfl (lv_at hl 0 rfl) ?_
              refine lv_aload_n hx hb dX2_shareRootBy_45 rfl (lv_at hl 0 rfl) ?_
              refine gfX2_11 C hP dX2_shareRootBy_46 ?_
              refine lv_iload_n hx hb dX2_shareRootBy_49 rfl (lv_at hl 2 rfl) ?_
              refine lv_aload_n hx hb dX2_shareRootBy_50 rfl (lv_at hl 0 rfl) ?_
              refine gfX2_15 C hP dX2_shareRootBy_51 ?_
              refine lv_iload hx hb dX2_shareRootBy_54 (lv_at hl 3 rfl) ?_
              refine lv_lload_n hx hb dX2_shareRootBy_56 rfl (lv_at hl 1 rfl) ?_
              obtain ⟨M17, h1, h⟩ := rs_bind h
              refine rs_goV (rs_runV (b := 18) (As := [.ref (ad 19), .int v7, .ref (ad 20), .int v8, .long a1]) (rest := []) C hP hS (kX2_lower l D ad cI cJ tP tR N M10 19 v7 20 v8 a1 (Or.inl rfl) (Or.inr rfl) _ h1) mk_X2_lower wd_450 (xR_18) rfl ⟨rfl, rfl, Nat.le_of_ble_eq_true rfl, Nat.le_of_ble_eq_true rfl⟩ rfl hl.1 (Nat.le_of_ble_eq_true rfl) dX2_shareRootBy_57) hS (fun H locs hP hS => ?_)
              refine lv_aload_n hx hb dX2_shareRootBy_60 rfl (lv_at hl 0 rfl) ?_
              refine lv_aload_n hx hb dX2_shareRootBy_61 rfl (lv_at hl 0 rfl) ?_
              refine gfX2_11 C hP dX2_shareRootBy_62 ?_
              obtain ⟨v18, h1, h⟩ := rs_bind h
              refine rs_goI (rs_runV (b := 18) (As := [.ref (ad 19)]) (rest := []) C hP hS (kX2_degreeOf l D ad cI cJ tP tR N M17 19 (Or.inl rfl) _ h1) mk_X2_degreeOf wd_446 (xR_18) rfl ⟨rfl, rfl, Nat.le_of_ble_eq_true rfl, Nat.le_of_ble_eq_true rfl⟩ rfl hl.1 (Nat.le_of_ble_eq_true rfl) dX2_shareRootBy_65) hS (fun H locs hP hS => ?_)
              refine lv_istore_n (lv' := [(3, .int v18), (0, .ref (ad 18)), (1, .long a1), (4, .int v8), (5, .int v9)]) hx hb dX2_shareRootBy_68 rfl hl (by decide) rfl (fun ls hl => ?_)
              refine lv_goto (tgt := 98) hx hb dX2_shareRootBy_69 (by decide) ?_
              cases h
              exact hJ14 H locs ls hP hS (lv_sub hl [1, 2, 0, 3, 4] rfl)
  exact hL22 N _ _ _ _ H locs ls hP hS (lv_sub hl [3, 4, 2, 1, 0] rfl) h
abbrev rX2_shareRoot : Room := { frames := 2, cells := 0, slots := 0, locals := 59 }
theorem dX2_shareRoot_0 : decode cX2_shareRoot 0 = .ok (.aload_n 0, 1) := by decide +kernel
theorem dX2_shareRoot_1 : decode cX2_shareRoot 1 = .ok (.aload_n 1, 1) := by decide +kernel
theorem dX2_shareRoot_2 : decode cX2_shareRoot 2 = .ok (.iload_n 3, 1) := by decide +kernel
theorem dX2_shareRoot_3 : decode cX2_shareRoot 3 = .ok (.iload 4, 2) := by decide +kernel
theorem dX2_shareRoot_5 : decode cX2_shareRoot 5 = .ok (.invokevirtual 34, 3) := by decide +kernel
theorem dX2_shareRoot_8 : decode cX2_shareRoot 8 = .ok (.istore 5, 2) := by decide +kernel
theorem dX2_shareRoot_10 : decode cX2_shareRoot 10 = .ok (.aload_n 0, 1) := by decide +kernel
theorem dX2_shareRoot_11 : decode cX2_shareRoot 11 = .ok (.aload_n 2, 1) := by decide +kernel
theorem dX2_shareRoot_12 : decode cX2_shareRoot 12 = .ok (.iload_n 3, 1) := by decide +kernel
theorem dX2_shareRoot_13 : decode cX2_shareRoot 13 = .ok (.iload 4, 2) := by decide +kernel
theorem dX2_shareRoot_15 : decode cX2_shareRoot 15 = .ok (.invokevirtual 34, 3) := by decide +kernel
theorem dX2_shareRoot_18 : decode cX2_shareRoot 18 = .ok (.istore 6, 2) := by decide +kernel
theorem dX2_shareRoot_20 : decode cX2_shareRoot 20 = .ok (.iload_n 3, 1) := by decide +kernel
theorem dX2_shareRoot_21 : decode cX2_shareRoot 21 = .ok (.iload 4, 2) := by decide +kernel
theorem dX2_shareRoot_23 : decode cX2_shareRoot 23 = .ok (.invokestatic 38, 3) := by decide +kernel
theorem dX2_shareRoot_26 : decode cX2_shareRoot 26 = .ok (.istore 7, 2) := by decide +kernel
theorem dX2_shareRoot_28 : decode cX2_shareRoot 28 = .ok (.iload 7, 2) := by decide +kernel
theorem dX2_shareRoot_30 : decode cX2_shareRoot 30 = .ok (.ifCond .eq 21, 3) := by decide +kernel
theorem dX2_shareRoot_33 : decode cX2_shareRoot 33 = .ok (.iload 5, 2) := by decide +kernel
theorem dX2_shareRoot_35 : decode cX2_shareRoot 35 = .ok (.invokestatic 42, 3) := by decide +kernel
theorem dX2_shareRoot_38 : decode cX2_shareRoot 38 = .ok (.iconst 2, 1) := by decide +kernel
theorem dX2_shareRoot_39 : decode cX2_shareRoot 39 = .ok (.if_icmp .lt 12, 3) := by decide +kernel
theorem dX2_shareRoot_42 : decode cX2_shareRoot 42 = .ok (.iload 6, 2) := by decide +kernel
theorem dX2_shareRoot_44 : decode cX2_shareRoot 44 = .ok (.invokestatic 42, 3) := by decide +kernel
theorem dX2_shareRoot_47 : decode cX2_shareRoot 47 = .ok (.iconst 2, 1) := by decide +kernel
theorem dX2_shareRoot_48 : decode cX2_shareRoot 48 = .ok (.if_icmp .ge 5, 3) := by decide +kernel
theorem dX2_shareRoot_51 : decode cX2_shareRoot 51 = .ok (.iconst 0, 1) := by decide +kernel
theorem dX2_shareRoot_52 : decode cX2_shareRoot 52 = .ok (.ireturn, 1) := by decide +kernel
theorem dX2_shareRoot_53 : decode cX2_shareRoot 53 = .ok (.getstatic 46, 3) := by decide +kernel
theorem dX2_shareRoot_56 : decode cX2_shareRoot 56 = .ok (.astore 8, 2) := by decide +kernel
theorem dX2_shareRoot_58 : decode cX2_shareRoot 58 = .ok (.aload 8, 2) := by decide +kernel
theorem dX2_shareRoot_60 : decode cX2_shareRoot 60 = .ok (.arraylength, 1) := by decide +kernel
theorem dX2_shareRoot_61 : decode cX2_shareRoot 61 = .ok (.istore 9, 2) := by decide +kernel
theorem dX2_shareRoot_63 : decode cX2_shareRoot 63 = .ok (.iconst 0, 1) := by decide +kernel
theorem dX2_shareRoot_64 : decode cX2_shareRoot 64 = .ok (.istore 10, 2) := by decide +kernel
theorem dX2_shareRoot_66 : decode cX2_shareRoot 66 = .ok (.iload 10, 2) := by decide +kernel
theorem dX2_shareRoot_68 : decode cX2_shareRoot 68 = .ok (.iload 9, 2) := by decide +kernel
theorem dX2_shareRoot_70 : decode cX2_shareRoot 70 = .ok (.if_icmp .ge 69, 3) := by decide +kernel
theorem dX2_shareRoot_73 : decode cX2_shareRoot 73 = .ok (.aload 8, 2) := by decide +kernel
theorem dX2_shareRoot_75 : decode cX2_shareRoot 75 = .ok (.iload 10, 2) := by decide +kernel
theorem dX2_shareRoot_77 : decode cX2_shareRoot 77 = .ok (.laload, 1) := by decide +kernel
theorem dX2_shareRoot_78 : decode cX2_shareRoot 78 = .ok (.lstore 11, 2) := by decide +kernel
theorem dX2_shareRoot_80 : decode cX2_shareRoot 80 = .ok (.aload_n 0, 1) := by decide +kernel
theorem dX2_shareRoot_81 : decode cX2_shareRoot 81 = .ok (.aload_n 1, 1) := by decide +kernel
theorem dX2_shareRoot_82 : decode cX2_shareRoot 82 = .ok (.iload 5, 2) := by decide +kernel
theorem dX2_shareRoot_84 : decode cX2_shareRoot 84 = .ok (.iload 4, 2) := by decide +kernel
theorem dX2_shareRoot_86 : decode cX2_shareRoot 86 = .ok (.ineg, 1) := by decide +kernel
theorem dX2_shareRoot_87 : decode cX2_shareRoot 87 = .ok (.iload 7, 2) := by decide +kernel
theorem dX2_shareRoot_89 : decode cX2_shareRoot 89 = .ok (.idiv, 1) := by decide +kernel
theorem dX2_shareRoot_90 : decode cX2_shareRoot 90 = .ok (.iload_n 3, 1) := by decide +kernel
theorem dX2_shareRoot_91 : decode cX2_shareRoot 91 = .ok (.iload 7, 2) := by decide +kernel
theorem dX2_shareRoot_93 : decode cX2_shareRoot 93 = .ok (.idiv, 1) := by decide +kernel
theorem dX2_shareRoot_94 : decode cX2_shareRoot 94 = .ok (.aload_n 0, 1) := by decide +kernel
theorem dX2_shareRoot_95 : decode cX2_shareRoot 95 = .ok (.getfield 11, 3) := by decide +kernel
theorem dX2_shareRoot_98 : decode cX2_shareRoot 98 = .ok (.invokevirtual 49, 3) := by decide +kernel
theorem dX2_shareRoot_101 : decode cX2_shareRoot 101 = .ok (.aload_n 0, 1) := by decide +kernel
theorem dX2_shareRoot_102 : decode cX2_shareRoot 102 = .ok (.aload_n 2, 1) := by decide +kernel
theorem dX2_shareRoot_103 : decode cX2_shareRoot 103 = .ok (.iload 6, 2) := by decide +kernel
theorem dX2_shareRoot_105 : decode cX2_shareRoot 105 = .ok (.iload 4, 2) := by decide +kernel
theorem dX2_shareRoot_107 : decode cX2_shareRoot 107 = .ok (.ineg, 1) := by decide +kernel
theorem dX2_shareRoot_108 : decode cX2_shareRoot 108 = .ok (.iload 7, 2) := by decide +kernel
theorem dX2_shareRoot_110 : decode cX2_shareRoot 110 = .ok (.idiv, 1) := by decide +kernel
theorem dX2_shareRoot_111 : decode cX2_shareRoot 111 = .ok (.iload_n 3, 1) := by decide +kernel
theorem dX2_shareRoot_112 : decode cX2_shareRoot 112 = .ok (.iload 7, 2) := by decide +kernel
theorem dX2_shareRoot_114 : decode cX2_shareRoot 114 = .ok (.idiv, 1) := by decide +kernel
theorem dX2_shareRoot_115 : decode cX2_shareRoot 115 = .ok (.aload_n 0, 1) := by decide +kernel
theorem dX2_shareRoot_116 : decode cX2_shareRoot 116 = .ok (.getfield 15, 3) := by decide +kernel
theorem dX2_shareRoot_119 : decode cX2_shareRoot 119 = .ok (.invokevirtual 49, 3) := by decide +kernel
theorem dX2_shareRoot_122 : decode cX2_shareRoot 122 = .ok (.aload_n 0, 1) := by decide +kernel
theorem dX2_shareRoot_123 : decode cX2_shareRoot 123 = .ok (.lload 11, 2) := by decide +kernel
theorem dX2_shareRoot_125 : decode cX2_shareRoot 125 = .ok (.invokevirtual 53, 3) := by decide +kernel
theorem dX2_shareRoot_128 : decode cX2_shareRoot 128 = .ok (.ifCond .ne 5, 3) := by decide +kernel
theorem dX2_shareRoot_131 : decode cX2_shareRoot 131 = .ok (.iconst 0, 1) := by decide +kernel
theorem dX2_shareRoot_132 : decode cX2_shareRoot 132 = .ok (.ireturn, 1) := by decide +kernel
theorem dX2_shareRoot_133 : decode cX2_shareRoot 133 = .ok (.iinc 10 1, 3) := by decide +kernel
theorem dX2_shareRoot_136 : decode cX2_shareRoot 136 = .ok (.goto (-70), 3) := by decide +kernel
theorem dX2_shareRoot_139 : decode cX2_shareRoot 139 = .ok (.iconst 1, 1) := by decide +kernel
theorem dX2_shareRoot_140 : decode cX2_shareRoot 140 = .ok (.ireturn, 1) := by decide +kernel
set_option maxRecDepth 100000 in
set_option maxHeartbeats 4000000 in
theorem kX2_shareRoot (l : Launch) (D : va_G) (ad : Nat → Nat) (cI cJ : ClassId) (tP tR : Nat) (N : Nat) (M : Mem) (a1 : Nat) (a2 : Nat) (a3 : Int32) (a4 : Int32) (ha1 : a1 = 1 ∨ a1 = 6) (ha2 : a2 = 1 ∨ a2 = 6) (o : (Int32 × Mem)) (h : fX2_shareRoot N M a1 a2 a3 a4 = some o) : qMet l D cI cJ tP tR (xA ad) (xW ad cI cJ) yX2_shareRoot cX2_shareRoot 13 (some .boolean) rX2_shareRoot [.ref (ad 18), .ref (ad a1), .ref (ad a2), .int a3, .int a4] M (qQi D (xA ad) (xW ad cI cJ) o.1 o.2) := by
  refine rs_enterZ (own := RX2) ⟨by decide +kernel, rfl, Nat.le_of_ble_eq_true rfl⟩ ?_
  intro p e s m args below meth c Q C hret H locs ls hP hS hl
  obtain ⟨hx, hb, -⟩ := id C
  have hl : lv_has ls 13 [(0, .ref (ad 18)), (1, .ref (ad a1)), (2, .ref (ad a2)), (3, .int a3), (4, .int a4)] := hl
  unfold fX2_shareRoot at h
  refine lv_aload_n hx hb dX2_shareRoot_0 rfl (lv_at hl 0 rfl) ?_
  refine lv_aload_n hx hb dX2_shareRoot_1 rfl (lv_at hl 1 rfl) ?_
  refine lv_iload_n hx hb dX2_shareRoot_2 rfl (lv_at hl 3 rfl) ?_
  refine lv_iload hx hb dX2_shareRoot_3 (lv_at hl 4 rfl) ?_
  obtain ⟨v1, h1, h⟩ := rs_bind h
  refine rs_goI (rs_runV (b := 18) (As := [.ref (ad a1), .int a3, .int a4]) (rest := []) C hP hS (kX2_bitsOf l D ad cI cJ tP tR N M a1 a3 a4 ha1 _ h1) mk_X2_bitsOf wd_424 (xR_18) rfl ⟨rfl, rfl, Nat.le_of_ble_eq_true rfl, Nat.le_of_ble_eq_true rfl⟩ rfl hl.1 (Nat.le_of_ble_eq_true rfl) dX2_shareRoot_5) hS (fun H locs hP hS => ?_)
  refine lv_istore (lv' := [(5, .int v1), (0, .ref (ad 18)), (1, .ref (ad a1)), (2, .ref (ad a2)), (3, .int a3), (4, .int a4)]) hx hb dX2_shareRoot_8 hl (by decide) rfl (fun ls hl => ?_)
  refine lv_aload_n hx hb dX2_shareRoot_10 rfl (lv_at hl 1 rfl) ?_
  refine lv_aload_n hx hb dX2_shareRoot_11 rfl (lv_at hl 3 rfl) ?_
  refine lv_iload_n hx hb dX2_shareRoot_12 rfl (lv_at hl 4 rfl) ?_
  refine lv_iload hx hb dX2_shareRoot_13 (lv_at hl 5 rfl) ?_
  obtain ⟨v2, h1, h⟩ := rs_bind h
  refine rs_goI (rs_runV (b := 18) (As := [.ref (ad a2), .int a3, .int a4]) (rest := []) C hP hS (kX2_bitsOf l D ad cI cJ tP tR N M a2 a3 a4 ha2 _ h1) mk_X2_bitsOf wd_424 (xR_18) rfl ⟨rfl, rfl, Nat.le_of_ble_eq_true rfl, Nat.le_of_ble_eq_true rfl⟩ rfl hl.1 (Nat.le_of_ble_eq_true rfl) dX2_shareRoot_15) hS (fun H locs hP hS => ?_)
  refine lv_istore (lv' := [(6, .int v2), (5, .int v1), (0, .ref (ad 18)), (1, .ref (ad a1)), (2, .ref (ad a2)), (3, .int a3), (4, .int a4)]) hx hb dX2_shareRoot_18 hl (by decide) rfl (fun ls hl => ?_)
  refine lv_iload_n hx hb dX2_shareRoot_20 rfl (lv_at hl 5 rfl) ?_
  refine lv_iload hx hb dX2_shareRoot_21 (lv_at hl 6 rfl) ?_
  obtain ⟨v3, h1, h⟩ := rs_bind h
  refine rs_goI (rs_runN (As := [.int a3, .int a4]) (rest := []) C hP hS (kX5_commonPart l D ad cI cJ tP tR N M a3 a4 _ h1) mk_X5_commonPart (nl_X2_38) rfl ⟨rfl, rfl, Nat.le_of_ble_eq_true rfl, Nat.le_of_ble_eq_true rfl⟩ rfl hl.1 (Nat.le_of_ble_eq_true rfl) dX2_shareRoot_23) hS (fun H locs hP hS => ?_)
  refine lv_istore (lv' := [(7, .int v3), (6, .int v2), (5, .int v1), (0, .ref (ad 18)), (1, .ref (ad a1)), (2, .ref (ad a2)), (3, .int a3), (4, .int a4)]) hx hb dX2_shareRoot_26 hl (by decide) rfl (fun ls hl => ?_)
  refine lv_iload hx hb dX2_shareRoot_28 (lv_at hl 0 rfl) ?_
  refine lv_if_eq (tgt := 51) hx hb dX2_shareRoot_30 (by decide) (fun cd => ?_) (fun cd => ?_)
  · have h := (if_pos cd).symm.trans h
    refine lv_iconst (v := (0 : Int32)) hx hb dX2_shareRoot_51 (by decide) ?_
    obtain ⟨rfl, hz⟩ := rs_okZM h
    exact hret H locs _ ls hz hP hS dX2_shareRoot_52
  · have h := (if_neg cd).symm.trans h
    refine lv_iload hx hb dX2_shareRoot_33 (lv_at hl 2 rfl) ?_
    obtain ⟨v4, h1, h⟩ := rs_bind h
    refine rs_goI (rs_runS (As := [.int v1]) (rest := []) C hP hS (kJ6_bitCount_0f7a4 l D ad cI cJ tP tR M v1 _ h1) mk_J6_bitCount_0f7a4 wd_426 rfl ⟨rfl, rfl, Nat.le_of_ble_eq_true rfl, Nat.le_of_ble_eq_true rfl⟩ rfl hl.1 (Nat.le_of_ble_eq_true rfl) dX2_shareRoot_35) hS (fun H locs hP hS => ?_)
    refine lv_iconst (v := (2 : Int32)) hx hb dX2_shareRoot_38 (by decide) ?_
    refine lv_icmp_lt (tgt := 51) hx hb dX2_shareRoot_39 (by decide) (fun cd => ?_) (fun cd => ?_)
    · have h := (if_pos cd).symm.trans h
      refine lv_iconst (v := (0 : Int32)) hx hb dX2_shareRoot_51 (by decide) ?_
      obtain ⟨rfl, hz⟩ := rs_okZM h
      exact hret H locs _ ls hz hP hS dX2_shareRoot_52
    · have h := (if_neg cd).symm.trans h
      refine lv_iload hx hb dX2_shareRoot_42 (lv_at hl 1 rfl) ?_
      obtain ⟨v5, h1, h⟩ := rs_bind h
      refine rs_goI (rs_runS (As := [.int v2]) (rest := []) C hP hS (kJ6_bitCount_0f7a4 l D ad cI cJ tP tR M v2 _ h1) mk_J6_bitCount_0f7a4 wd_426 rfl ⟨rfl, rfl, Nat.le_of_ble_eq_true rfl, Nat.le_of_ble_eq_true rfl⟩ rfl hl.1 (Nat.le_of_ble_eq_true rfl) dX2_shareRoot_44) hS (fun H locs hP hS => ?_)
      refine lv_iconst (v := (2 : Int32)) hx hb dX2_shareRoot_47 (by decide) ?_
      refine lv_icmp_ge (tgt := 53) hx hb dX2_shareRoot_48 (by decide) (fun cd => ?_) (fun cd => ?_)
      · have h := (if_pos cd).symm.trans h
        refine rs_getP C hS wd_432 dX2_shareRoot_53 ?_
        refine lv_astore (lv' := [(8, .ref tP), (7, .int v3), (6, .int v2), (5, .int v1), (0, .ref (ad 18)), (1, .ref (ad a1)), (2, .ref (ad a2)), (3, .int a3), (4, .int a4)]) hx hb dX2_shareRoot_56 hl (by decide) rfl (fun ls hl => ?_)
        refine lv_aload hx hb dX2_shareRoot_58 (lv_at hl 0 rfl) ?_
        refine rs_lenP C hS dX2_shareRoot_60 ?_
        refine lv_istore (lv' := [(9, .int (3 : Int32)), (8, .ref tP), (7, .int v3), (6, .int v2), (5, .int v1), (0, .ref (ad 18)), (1, .ref (ad a1)), (2, .ref (ad a2)), (3, .int a3), (4, .int a4)]) hx hb dX2_shareRoot_61 hl (by decide) rfl (fun ls hl => ?_)
        refine lv_iconst (v := (0 : Int32)) hx hb dX2_shareRoot_63 (by decide) ?_
        refine lv_istore (lv' := [(10, .int (0 : Int32)), (9, .int (3 : Int32)), (8, .ref tP), (7, .int v3), (6, .int v2), (5, .int v1), (0, .ref (ad 18)), (1, .ref (ad a1)), (2, .ref (ad a2)), (3, .int a3), (4, .int a4)]) hx hb dX2_shareRoot_64 hl (by decide) rfl (fun ls hl => ?_)
        have hL66 : ∀ (n66 : Nat) (v6 : Int32) (M7 : Mem) (H : Heap) (locs : List Loc) (ls : Array Slot), va_P D vwCl (xW ad cI cJ M7) H → va_S (xA ad) s.heap H locs → lv_has ls 13 [(0, .ref (ad 18)), (1, .ref (ad a1)), (2, .ref (ad a2)), (3, .int a3), (4, .int a4), (5, .int v1), (6, .int v2), (7, .int v3), (8, .ref tP), (9, .int (3 : Int32)), (10, .int v6)] → lp (fun _ _ => none) (sX2_shareRoot_66 a4 v3 a3 N a1 v1 a2 v2) n66 v6 M7 = some o → W p l e rX2_shareRoot s m args below meth c H locs 0 0 Q (F0 m 66 ls []) := by
          intro n66
          induction n66 with
          | zero => intro v6 M7 H locs ls hP hS hl h; have h : (none : Option (Int32 × Mem)) = some o := h; cases h
          | succ n66 ih66 =>
            intro v6 M7 H locs ls hP hS hl h
            have h : sX2_shareRoot_66 a4 v3 a3 N a1 v1 a2 v2 (lp (fun _ _ => none) (sX2_shareRoot_66 a4 v3 a3 N a1 v1 a2 v2) n66) v6 M7 = some o := h
            generalize lp (fun _ _ => none) (sX2_shareRoot_66 a4 v3 a3 N a1 v1 a2 v2) n66 = cont66 at h ih66
            unfold sX2_shareRoot_66 at h
            refine lv_iload hx hb dX2_shareRoot_66 (lv_at hl 10 rfl) ?_
            refine lv_iload hx hb dX2_shareRoot_68 (lv_at hl 9 rfl) ?_
            refine lv_icmp_ge (tgt := 139) hx hb dX2_shareRoot_70 (by decide) (fun cd => ?_) (fun cd => ?_)
            · have h := (if_pos cd).symm.trans h
              refine lv_iconst (v := (1 : Int32)) hx hb dX2_shareRoot_139 (by decide) ?_
              obtain ⟨rfl, hz⟩ := rs_okZM h
              exact hret H locs _ ls hz hP hS dX2_shareRoot_140
            · have h := (if_neg cd).symm.trans h
              refine lv_aload hx hb dX2_shareRoot_73 (lv_at hl 8 rfl) ?_
              refine lv_iload hx hb dX2_shareRoot_75 (lv_at hl 10 rfl) ?_
              refine rs_ldP C hS dX2_shareRoot_77 h (fun v8 h => ?_)
              refine lv_lstore (lv' := [(11, .long v8), (0, .ref (ad 18)), (1, .ref (ad a1)), (2, .ref (ad a2)), (3, .int a3), (4, .int a4), (5, .int v1), (6, .int v2), (7, .int v3), (8, .ref tP), (9, .int (3 : Int32)), (10, .int v6)]) hx hb dX2_shareRoot_78 hl (by decide) rfl (fun ls hl => ?_)
              refine lv_aload_n hx hb dX2_shareRoot_80 rfl (lv_at hl 1 rfl) ?_
              refine lv_aload_n hx hb dX2_shareRoot_81 rfl (lv_at hl 2 rfl) ?_
              refine lv_iload hx hb dX2_shareRoot_82 (lv_at hl 6 rfl) ?_
              refine lv_iload hx hb dX2_shareRoot_84 (lv_at hl 5 rfl) ?_
              refine lv_ineg hx hb dX2_shareRoot_86 ?_
              refine lv_iload hx hb dX2_shareRoot_87 (lv_at hl 8 rfl) ?_
              refine rs_idiv C dX2_shareRoot_89 h (fun v9 h => ?_)
              refine lv_iload_n hx hb dX2_shareRoot_90 rfl (lv_at hl 4 rfl) ?_
              refine lv_iload hx hb dX2_shareRoot_91 (lv_at hl 8 rfl) ?_
              refine rs_idiv C dX2_shareRoot_93 h (fun v10 h => ?_)
              refine lv_aload_n hx hb dX2_shareRoot_94 rfl (lv_at hl 1 rfl) ?_
              refine gfX2_11 C hP dX2_shareRoot_95 ?_
              obtain ⟨M11, h1, h⟩ := rs_bind h
              refine rs_goV (rs_runV (b := 18) (As := [.ref (ad a1), .int v1, .int v9, .int v10, .ref (ad 19)]) (rest := []) C hP hS (kX2_layAlong l D ad cI cJ tP tR N M7 a1 v1 v9 v10 19 ha1 (Or.inl rfl) _ h1) mk_X2_layAlong wd_434 (xR_18) rfl ⟨rfl, rfl, Nat.le_of_ble_eq_true rfl, Nat.le_of_ble_eq_true rfl⟩ rfl hl.1 (Nat.le_of_ble_eq_true rfl) dX2_shareRoot_98) hS (fun H locs hP hS => ?_)
              refine lv_aload_n hx hb dX2_shareRoot_101 rfl (lv_at hl 1 rfl) ?_
              refine lv_aload_n hx hb dX2_shareRoot_102 rfl (lv_at hl 3 rfl) ?_
              refine lv_iload hx hb dX2_shareRoot_103 (lv_at hl 7 rfl) ?_
              refine lv_iload hx hb dX2_shareRoot_105 (lv_at hl 5 rfl) ?_
              refine lv_ineg hx hb dX2_shareRoot_107 ?_
              refine lv_iload hx hb dX2_shareRoot_108 (lv_at hl 8 rfl) ?_
              refine rs_idiv C dX2_shareRoot_110 h (fun v12 h => ?_)
              refine lv_iload_n hx hb dX2_shareRoot_111 rfl (lv_at hl 4 rfl) ?_
              refine lv_iload hx hb dX2_shareRoot_112 (lv_at hl 8 rfl) ?_
              refine rs_idiv C dX2_shareRoot_114 h (fun v13 h => ?_)
              refine lv_aload_n hx hb dX2_shareRoot_115 rfl (lv_at hl 1 rfl) ?_
              refine gfX2_15 C hP dX2_shareRoot_116 ?_
              obtain ⟨M14, h1, h⟩ := rs_bind h
              refine rs_goV (rs_runV (b := 18) (As := [.ref (ad a2), .int v2, .int v12, .int v13, .ref (ad 20)]) (rest := []) C hP hS (kX2_layAlong l D ad cI cJ tP tR N M11 a2 v2 v12 v13 20 ha2 (Or.inr rfl) _ h1) mk_X2_layAlong wd_434 (xR_18) rfl ⟨rfl, rfl, Nat.le_of_ble_eq_true rfl, Nat.le_of_ble_eq_true rfl⟩ rfl hl.1 (Nat.le_of_ble_eq_true rfl) dX2_shareRoot_119) hS (fun H locs hP hS => ?_)
              refine lv_aload_n hx hb dX2_shareRoot_122 rfl (lv_at hl 1 rfl) ?_
              refine lv_lload hx hb dX2_shareRoot_123 (lv_at hl 0 rfl) ?_
              obtain ⟨⟨v16, M15⟩, h1, h⟩ := rs_bind h
              dsimp only at h
              refine rs_goI (rs_runV (b := 18) (As := [.long v8]) (rest := []) C hP hS (kX2_shareRootBy l D ad cI cJ tP tR N M14 v8 _ h1) mk_X2_shareRootBy wd_442 (xR_18) rfl ⟨rfl, rfl, Nat.le_of_ble_eq_true rfl, Nat.le_of_ble_eq_true rfl⟩ rfl hl.1 (Nat.le_of_ble_eq_true rfl) dX2_shareRoot_125) hS (fun H locs hP hS => ?_)
              refine lv_if_ne (tgt := 133) hx hb dX2_shareRoot_128 (by decide) (fun cd => ?_) (fun cd => ?_)
              · have h := (if_neg cd).symm.trans h
                refine lv_iinc (v := (v6 + 1)) (lv' := [(10, .int (v6 + 1)), (11, .long v8), (0, .ref (ad 18)), (1, .ref (ad a1)), (2, .ref (ad a2)), (3, .int a3), (4, .int a4), (5, .int v1), (6, .int v2), (7, .int v3), (8, .ref tP), (9, .int (3 : Int32))]) hx hb dX2_shareRoot_133 hl (k := 11) rfl rfl (by decide) rfl (fun ls hl => ?_)
                refine lv_goto (tgt := 66) hx hb dX2_shareRoot_136 (by decide) ?_
                exact ih66 _ _ H locs ls hP hS (lv_sub hl [2, 3, 4, 5, 6, 7, 8, 9, 10, 11, 0] rfl) h
              · have h := (if_pos cd).symm.trans h
                refine lv_iconst (v := (0 : Int32)) hx hb dX2_shareRoot_131 (by decide) ?_
                obtain ⟨rfl, hz⟩ := rs_okZM h
                exact hret H locs _ ls hz hP hS dX2_shareRoot_132
        exact hL66 N _ _ H locs ls hP hS (lv_sub hl [6, 7, 8, 9, 10, 5, 4, 3, 2, 1, 0] rfl) h
      · have h := (if_neg cd).symm.trans h
        refine lv_iconst (v := (0 : Int32)) hx hb dX2_shareRoot_51 (by decide) ?_
        obtain ⟨rfl, hz⟩ := rs_okZM h
        exact hret H locs _ ls hz hP hS dX2_shareRoot_52

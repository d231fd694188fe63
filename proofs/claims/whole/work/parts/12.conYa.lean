abbrev rX6_in : Room := { frames := 0, cells := 0, slots := 0, locals := 0 }
theorem dX6_in_0 : decode cX6_in 0 = .ok (.lload_n 0, 1) := by decide +kernel
theorem dX6_in_1 : decode cX6_in 1 = .ok (.lload_n 2, 1) := by decide +kernel
theorem dX6_in_2 : decode cX6_in 2 = .ok (.lcmp, 1) := by decide +kernel
theorem dX6_in_3 : decode cX6_in 3 = .ok (.ifCond .lt 14, 3) := by decide +kernel
theorem dX6_in_6 : decode cX6_in 6 = .ok (.lload_n 0, 1) := by decide +kernel
theorem dX6_in_7 : decode cX6_in 7 = .ok (.lload 4, 2) := by decide +kernel
theorem dX6_in_9 : decode cX6_in 9 = .ok (.lcmp, 1) := by decide +kernel
theorem dX6_in_10 : decode cX6_in 10 = .ok (.ifCond .gt 7, 3) := by decide +kernel
theorem dX6_in_13 : decode cX6_in 13 = .ok (.iconst 1, 1) := by decide +kernel
theorem dX6_in_14 : decode cX6_in 14 = .ok (.goto 4, 3) := by decide +kernel
theorem dX6_in_17 : decode cX6_in 17 = .ok (.iconst 0, 1) := by decide +kernel
theorem dX6_in_18 : decode cX6_in 18 = .ok (.ireturn, 1) := by decide +kernel
set_option maxRecDepth 100000 in
set_option maxHeartbeats 4000000 in
theorem kX6_in (l : Launch) (D : va_G) (ad : Nat → Nat) (cI cJ : ClassId) (tP tR : Nat) (M : Mem) (a0 : Int64) (a2 : Int64) (a4 : Int64)  (o : Int32) (h : fX6_in a0 a2 a4 = some o) : qMet l D cI cJ tP tR (yA ad) (yW ad cI cJ) yX6_in cX6_in 6 (some .boolean) rX6_in [.long a0, .long a2, .long a4] M (qQi D (yA ad) (yW ad cI cJ) o M) := by
  refine rs_enterZ (own := RX6) ⟨by decide +kernel, rfl, Nat.le_of_ble_eq_true rfl⟩ ?_
  intro p e s m args below meth c Q C hret H locs ls hP hS hl
  obtain ⟨hx, hb, -⟩ := id C
  have hl : lv_has ls 6 [(0, .long a0), (2, .long a2), (4, .long a4)] := hl
  unfold fX6_in at h
  refine lv_lload_n hx hb dX6_in_0 rfl (lv_at hl 0 rfl) ?_
  refine lv_lload_n hx hb dX6_in_1 rfl (lv_at hl 1 rfl) ?_
  refine rs_lcmp C dX6_in_2 (fun z1 hz => ?_)
  refine lv_if_lt (tgt := 17) hx hb dX6_in_3 (by decide) (fun cd => ?_) (fun cd => ?_)
  · have h := (if_pos (hz.1.mp cd)).symm.trans h
    refine lv_iconst (v := (0 : Int32)) hx hb dX6_in_17 (by decide) ?_
    obtain ⟨rfl, hz⟩ := rs_okZ h
    exact hret H locs _ ls hz hP hS dX6_in_18
  · have h := (if_neg (fun q => cd (hz.1.mpr q))).symm.trans h
    refine lv_lload_n hx hb dX6_in_6 rfl (lv_at hl 0 rfl) ?_
    refine lv_lload hx hb dX6_in_7 (lv_at hl 2 rfl) ?_
    refine rs_lcmp C dX6_in_9 (fun z2 hz => ?_)
    refine lv_if_gt (tgt := 17) hx hb dX6_in_10 (by decide) (fun cd => ?_) (fun cd => ?_)
    · have h := (if_pos (hz.2.2.1.mp cd)).symm.trans h
      refine lv_iconst (v := (0 : Int32)) hx hb dX6_in_17 (by decide) ?_
      obtain ⟨rfl, hz⟩ := rs_okZ h
      exact hret H locs _ ls hz hP hS dX6_in_18
    · have h := (if_neg (fun q => cd (hz.2.2.1.mpr q))).symm.trans h
      refine lv_iconst (v := (1 : Int32)) hx hb dX6_in_13 (by decide) ?_
      refine lv_goto (tgt := 18) hx hb dX6_in_14 (by decide) ?_
      obtain ⟨rfl, hz⟩ := rs_okZ h
      exact hret H locs _ ls hz hP hS dX6_in_18
abbrev rX6_size : Room := { frames := 0, cells := 0, slots := 0, locals := 0 }
theorem dX6_size_0 : decode cX6_size 0 = .ok (.iload_n 0, 1) := by decide +kernel
theorem dX6_size_1 : decode cX6_size 1 = .ok (.ifCond .ge 8, 3) := by decide +kernel
theorem dX6_size_4 : decode cX6_size 4 = .ok (.iload_n 0, 1) := by decide +kernel
theorem dX6_size_5 : decode cX6_size 5 = .ok (.ineg, 1) := by decide +kernel
theorem dX6_size_6 : decode cX6_size 6 = .ok (.goto 4, 3) := by decide +kernel
theorem dX6_size_9 : decode cX6_size 9 = .ok (.iload_n 0, 1) := by decide +kernel
theorem dX6_size_10 : decode cX6_size 10 = .ok (.ireturn, 1) := by decide +kernel
set_option maxRecDepth 100000 in
set_option maxHeartbeats 4000000 in
theorem kX6_size (l : Launch) (D : va_G) (ad : Nat → Nat) (cI cJ : ClassId) (tP tR : Nat) (M : Mem) (a0 : Int32)  (o : Int32) (h : fX6_size a0 = some o) : qMet l D cI cJ tP tR (yA ad) (yW ad cI cJ) yX6_size cX6_size 1 (some .int) rX6_size [.int a0] M (qQi D (yA ad) (yW ad cI cJ) o M) := by
  refine rs_enterI (own := RX6) ⟨by decide +kernel, rfl, Nat.le_of_ble_eq_true rfl⟩ ?_
  intro p e s m args below meth c Q C hret H locs ls hP hS hl
  obtain ⟨hx, hb, -⟩ := id C
  have hl : lv_has ls 1 [(0, .int a0)] := hl
  unfold fX6_size at h
  refine lv_iload_n hx hb dX6_size_0 rfl (lv_at hl 0 rfl) ?_
  refine lv_if_ge (tgt := 9) hx hb dX6_size_1 (by decide) (fun cd => ?_) (fun cd => ?_)
  · have h := (if_pos cd).symm.trans h
    refine lv_iload_n hx hb dX6_size_9 rfl (lv_at hl 0 rfl) ?_
    cases h
    exact hret H locs _ ls hP hS dX6_size_10
  · have h := (if_neg cd).symm.trans h
    refine lv_iload_n hx hb dX6_size_4 rfl (lv_at hl 0 rfl) ?_
    refine lv_ineg hx hb dX6_size_5 ?_
    refine lv_goto (tgt := 10) hx hb dX6_size_6 (by decide) ?_
    cases h
    exact hret H locs _ ls hP hS dX6_size_10
abbrev rX6_common : Room := { frames := 1, cells := 0, slots := 0, locals := 20 }
theorem dX6_common_0 : decode cX6_common 0 = .ok (.iload_n 0, 1) := by decide +kernel
theorem dX6_common_1 : decode cX6_common 1 = .ok (.invokestatic 44, 3) := by decide +kernel
theorem dX6_common_4 : decode cX6_common 4 = .ok (.istore_n 2, 1) := by decide +kernel
theorem dX6_common_5 : decode cX6_common 5 = .ok (.iload_n 1, 1) := by decide +kernel
theorem dX6_common_6 : decode cX6_common 6 = .ok (.invokestatic 44, 3) := by decide +kernel
theorem dX6_common_9 : decode cX6_common 9 = .ok (.istore_n 3, 1) := by decide +kernel
theorem dX6_common_10 : decode cX6_common 10 = .ok (.iload_n 3, 1) := by decide +kernel
theorem dX6_common_11 : decode cX6_common 11 = .ok (.ifCond .eq 16, 3) := by decide +kernel
theorem dX6_common_14 : decode cX6_common 14 = .ok (.iload_n 2, 1) := by decide +kernel
theorem dX6_common_15 : decode cX6_common 15 = .ok (.iload_n 3, 1) := by decide +kernel
theorem dX6_common_16 : decode cX6_common 16 = .ok (.irem, 1) := by decide +kernel
theorem dX6_common_17 : decode cX6_common 17 = .ok (.istore 4, 2) := by decide +kernel
theorem dX6_common_19 : decode cX6_common 19 = .ok (.iload_n 3, 1) := by decide +kernel
theorem dX6_common_20 : decode cX6_common 20 = .ok (.istore_n 2, 1) := by decide +kernel
theorem dX6_common_21 : decode cX6_common 21 = .ok (.iload 4, 2) := by decide +kernel
theorem dX6_common_23 : decode cX6_common 23 = .ok (.istore_n 3, 1) := by decide +kernel
theorem dX6_common_24 : decode cX6_common 24 = .ok (.goto (-14), 3) := by decide +kernel
theorem dX6_common_27 : decode cX6_common 27 = .ok (.iload_n 2, 1) := by decide +kernel
theorem dX6_common_28 : decode cX6_common 28 = .ok (.ireturn, 1) := by decide +kernel
set_option maxRecDepth 100000 in
set_option maxHeartbeats 4000000 in
theorem kX6_common (l : Launch) (D : va_G) (ad : Nat → Nat) (cI cJ : ClassId) (tP tR : Nat) (N : Nat) (M : Mem) (a0 : Int32) (a1 : Int32)  (o : Int32) (h : fX6_common N a0 a1 = some o) : qMet l D cI cJ tP tR (yA ad) (yW ad cI cJ) yX6_common cX6_common 5 (some .int) rX6_common [.int a0, .int a1] M (qQi D (yA ad) (yW ad cI cJ) o M) := by
  refine rs_enterI (own := RX6) ⟨by decide +kernel, rfl, Nat.le_of_ble_eq_true rfl⟩ ?_
  intro p e s m args below meth c Q C hret H locs ls hP hS hl
  obtain ⟨hx, hb, -⟩ := id C
  have hl : lv_has ls 5 [(0, .int a0), (1, .int a1)] := hl
  unfold fX6_common at h
  refine lv_iload_n hx hb dX6_common_0 rfl (lv_at hl 0 rfl) ?_
  obtain ⟨v1, h1, h⟩ := rs_bind h
  refine rs_goI (rs_runS (As := [.int a0]) (rest := []) C hP hS (kX6_size l D ad cI cJ tP tR M a0 _ h1) mk_X6_size wd_652 rfl ⟨rfl, rfl, Nat.le_of_ble_eq_true rfl, Nat.le_of_ble_eq_true rfl⟩ rfl hl.1 (Nat.le_of_ble_eq_true rfl) dX6_common_1) hS (fun H locs hP hS => ?_)
  refine lv_istore_n (lv' := [(2, .int v1), (0, .int a0), (1, .int a1)]) hx hb dX6_common_4 rfl hl (by decide) rfl (fun ls hl => ?_)
  refine lv_iload_n hx hb dX6_common_5 rfl (lv_at hl 2 rfl) ?_
  obtain ⟨v2, h1, h⟩ := rs_bind h
  refine rs_goI (rs_runS (As := [.int a1]) (rest := []) C hP hS (kX6_size l D ad cI cJ tP tR M a1 _ h1) mk_X6_size wd_652 rfl ⟨rfl, rfl, Nat.le_of_ble_eq_true rfl, Nat.le_of_ble_eq_true rfl⟩ rfl hl.1 (Nat.le_of_ble_eq_true rfl) dX6_common_6) hS (fun H locs hP hS => ?_)
  refine lv_istore_n (lv' := [(3, .int v2), (2, .int v1), (0, .int a0), (1, .int a1)]) hx hb dX6_common_9 rfl hl (by decide) rfl (fun ls hl => ?_)
  have hL10 : ∀ (n10 : Nat) (v3 : Int32) (v4 : Int32) (H : Heap) (locs : List Loc) (ls : Array Slot), va_P D vwCl (yW ad cI cJ M) H → va_S (yA ad) s.heap H locs → lv_has ls 5 [(2, .int v3), (3, .int v4)] → lp (fun _ _ => none) sX6_common_10 n10 v3 v4 = some o → W p l e rX6_common s m args below meth c H locs 0 0 Q (F0 m 10 ls []) := by
    intro n10
    induction n10 with
    | zero => intro v3 v4 H locs ls hP hS hl h; have h : (none : Option Int32) = some o := h; cases h
    | succ n10 ih10 =>
      intro v3 v4 H locs ls hP hS hl h
      have h : sX6_common_10 (lp (fun _ _ => none) sX6_common_10 n10) v3 v4 = some o := h
      generalize lp (fun _ _ => none) sX6_common_10 n10 = cont10 at h ih10
      unfold sX6_common_10 at h
      refine lv_iload_n hx hb dX6_common_10 rfl (lv_at hl 1 rfl) ?_
      refine lv_if_eq (tgt := 27) hx hb dX6_common_11 (by decide) (fun cd => ?_) (fun cd => ?_)
      · have h := (if_pos cd).symm.trans h
        refine lv_iload_n hx hb dX6_common_27 rfl (lv_at hl 0 rfl) ?_
        cases h
        exact hret H locs _ ls hP hS dX6_common_28
      · have h := (if_neg cd).symm.trans h
        refine lv_iload_n hx hb dX6_common_14 rfl (lv_at hl 0 rfl) ?_
        refine lv_iload_n hx hb dX6_common_15 rfl (lv_at hl 1 rfl) ?_
        refine rs_irem C dX6_common_16 h (fun v5 h => ?_)
        refine lv_istore (lv' := [(4, .int v5), (2, .int v3), (3, .int v4)]) hx hb dX6_common_17 hl (by decide) rfl (fun ls hl => ?_)
        refine lv_iload_n hx hb dX6_common_19 rfl (lv_at hl 2 rfl) ?_
        refine lv_istore_n (lv' := [(2, .int v4), (4, .int v5), (3, .int v4)]) hx hb dX6_common_20 rfl hl (by decide) rfl (fun ls hl => ?_)
        refine lv_iload hx hb dX6_common_21 (lv_at hl 1 rfl) ?_
        refine lv_istore_n (lv' := [(3, .int v5), (2, .int v4), (4, .int v5)]) hx hb dX6_common_23 rfl hl (by decide) rfl (fun ls hl => ?_)
        refine lv_goto (tgt := 10) hx hb dX6_common_24 (by decide) ?_
        exact ih10 _ _ H locs ls hP hS (lv_sub hl [1, 0] rfl) h
  exact hL10 N _ _ H locs ls hP hS (lv_sub hl [1, 0] rfl) h
abbrev rX6_isEquation : Room := { frames := 1, cells := 0, slots := 0, locals := 25 }
theorem dX6_isEquation_0 : decode cX6_isEquation 0 = .ok (.iload_n 0, 1) := by decide +kernel
theorem dX6_isEquation_1 : decode cX6_isEquation 1 = .ok (.i2l, 1) := by decide +kernel
theorem dX6_isEquation_2 : decode cX6_isEquation 2 = .ok (.lconst 0, 1) := by decide +kernel
theorem dX6_isEquation_3 : decode cX6_isEquation 3 = .ok (.lconst 1, 1) := by decide +kernel
theorem dX6_isEquation_4 : decode cX6_isEquation 4 = .ok (.invokestatic 48, 3) := by decide +kernel
theorem dX6_isEquation_7 : decode cX6_isEquation 7 = .ok (.ireturn, 1) := by decide +kernel
set_option maxRecDepth 100000 in
set_option maxHeartbeats 4000000 in
theorem kX6_isEquation (l : Launch) (D : va_G) (ad : Nat → Nat) (cI cJ : ClassId) (tP tR : Nat) (M : Mem) (a0 : Int32)  (o : Int32) (h : fX6_isEquation a0 = some o) : qMet l D cI cJ tP tR (yA ad) (yW ad cI cJ) yX6_isEquation cX6_isEquation 1 (some .boolean) rX6_isEquation [.int a0] M (qQi D (yA ad) (yW ad cI cJ) o M) := by
  refine rs_enterZ (own := RX6) ⟨by decide +kernel, rfl, Nat.le_of_ble_eq_true rfl⟩ ?_
  intro p e s m args below meth c Q C hret H locs ls hP hS hl
  obtain ⟨hx, hb, -⟩ := id C
  have hl : lv_has ls 1 [(0, .int a0)] := hl
  unfold fX6_isEquation at h
  refine lv_iload_n hx hb dX6_isEquation_0 rfl (lv_at hl 0 rfl) ?_
  refine lv_i2l hx hb dX6_isEquation_1 rfl ?_
  refine lv_lconst (v := (0 : Int64)) hx hb dX6_isEquation_2 (by decide) ?_
  refine lv_lconst (v := (1 : Int64)) hx hb dX6_isEquation_3 (by decide) ?_
  obtain ⟨v1, h1, h⟩ := rs_bind h
  refine rs_goI (rs_runS (As := [.long (Int32.toInt64 a0), .long (0 : Int64), .long (1 : Int64)]) (rest := []) C hP hS (kX6_in l D ad cI cJ tP tR M (Int32.toInt64 a0) (0 : Int64) (1 : Int64) _ h1) mk_X6_in wd_593 rfl ⟨rfl, rfl, Nat.le_of_ble_eq_true rfl, Nat.le_of_ble_eq_true rfl⟩ rfl hl.1 (Nat.le_of_ble_eq_true rfl) dX6_isEquation_4) hS (fun H locs hP hS => ?_)
  obtain ⟨rfl, hz⟩ := rs_okZ h
  exact hret H locs _ ls hz hP hS dX6_isEquation_7
abbrev rX6_isTerm : Room := { frames := 2, cells := 0, slots := 0, locals := 45 }
theorem dX6_isTerm_0 : decode cX6_isTerm 0 = .ok (.iload_n 1, 1) := by decide +kernel
theorem dX6_isTerm_1 : decode cX6_isTerm 1 = .ok (.invokestatic 52, 3) := by decide +kernel
theorem dX6_isTerm_4 : decode cX6_isTerm 4 = .ok (.ifCond .eq 25, 3) := by decide +kernel
theorem dX6_isTerm_7 : decode cX6_isTerm 7 = .ok (.iload_n 2, 1) := by decide +kernel
theorem dX6_isTerm_8 : decode cX6_isTerm 8 = .ok (.i2l, 1) := by decide +kernel
theorem dX6_isTerm_9 : decode cX6_isTerm 9 = .ok (.lconst 0, 1) := by decide +kernel
theorem dX6_isTerm_10 : decode cX6_isTerm 10 = .ok (.aload_n 0, 1) := by decide +kernel
theorem dX6_isTerm_11 : decode cX6_isTerm 11 = .ok (.getfield 22, 3) := by decide +kernel
theorem dX6_isTerm_14 : decode cX6_isTerm 14 = .ok (.iload_n 1, 1) := by decide +kernel
theorem dX6_isTerm_15 : decode cX6_isTerm 15 = .ok (.iaload, 1) := by decide +kernel
theorem dX6_isTerm_16 : decode cX6_isTerm 16 = .ok (.iconst 1, 1) := by decide +kernel
theorem dX6_isTerm_17 : decode cX6_isTerm 17 = .ok (.isub, 1) := by decide +kernel
theorem dX6_isTerm_18 : decode cX6_isTerm 18 = .ok (.i2l, 1) := by decide +kernel
theorem dX6_isTerm_19 : decode cX6_isTerm 19 = .ok (.invokestatic 48, 3) := by decide +kernel
theorem dX6_isTerm_22 : decode cX6_isTerm 22 = .ok (.ifCond .eq 7, 3) := by decide +kernel
theorem dX6_isTerm_25 : decode cX6_isTerm 25 = .ok (.iconst 1, 1) := by decide +kernel
theorem dX6_isTerm_26 : decode cX6_isTerm 26 = .ok (.goto 4, 3) := by decide +kernel
theorem dX6_isTerm_29 : decode cX6_isTerm 29 = .ok (.iconst 0, 1) := by decide +kernel
theorem dX6_isTerm_30 : decode cX6_isTerm 30 = .ok (.ireturn, 1) := by decide +kernel
set_option maxRecDepth 100000 in
set_option maxHeartbeats 4000000 in
theorem kX6_isTerm (l : Launch) (D : va_G) (ad : Nat → Nat) (cI cJ : ClassId) (tP tR : Nat) (M : Mem) (a1 : Int32) (a2 : Int32)  (o : Int32) (h : fX6_isTerm M a1 a2 = some o) : qMet l D cI cJ tP tR (yA ad) (yW ad cI cJ) yX6_isTerm cX6_isTerm 3 (some .boolean) rX6_isTerm [.ref (ad 0), .int a1, .int a2] M (qQi D (yA ad) (yW ad cI cJ) o M) := by
  refine rs_enterZ (own := RX6) ⟨by decide +kernel, rfl, Nat.le_of_ble_eq_true rfl⟩ ?_
  intro p e s m args below meth c Q C hret H locs ls hP hS hl
  obtain ⟨hx, hb, -⟩ := id C
  have hl : lv_has ls 3 [(0, .ref (ad 0)), (1, .int a1), (2, .int a2)] := hl
  unfold fX6_isTerm at h
  refine lv_iload_n hx hb dX6_isTerm_0 rfl (lv_at hl 1 rfl) ?_
  obtain ⟨v1, h1, h⟩ := rs_bind h
  refine rs_goI (rs_runS (As := [.int a1]) (rest := []) C hP hS (kX6_isEquation l D ad cI cJ tP tR M a1 _ h1) mk_X6_isEquation wd_590 rfl ⟨rfl, rfl, Nat.le_of_ble_eq_true rfl, Nat.le_of_ble_eq_true rfl⟩ rfl hl.1 (Nat.le_of_ble_eq_true rfl) dX6_isTerm_1) hS (fun H locs hP hS => ?_)
  refine lv_if_eq (tgt := 29) hx hb dX6_isTerm_4 (by decide) (fun cd => ?_) (fun cd => ?_)
  · have h := (if_pos cd).symm.trans h
    refine lv_iconst (v := (0 : Int32)) hx hb dX6_isTerm_29 (by decide) ?_
    obtain ⟨rfl, hz⟩ := rs_okZ h
    exact hret H locs _ ls hz hP hS dX6_isTerm_30
  · have h := (if_neg cd).symm.trans h
    refine lv_iload_n hx hb dX6_isTerm_7 rfl (lv_at hl 2 rfl) ?_
    refine lv_i2l hx hb dX6_isTerm_8 rfl ?_
    refine lv_lconst (v := (0 : Int64)) hx hb dX6_isTerm_9 (by decide) ?_
    refine lv_aload_n hx hb dX6_isTerm_10 rfl (lv_at hl 0 rfl) ?_
    refine gfX6_22 C hP dX6_isTerm_11 ?_
    refine lv_iload_n hx hb dX6_isTerm_14 rfl (lv_at hl 1 rfl) ?_
    refine rs_iald C hP yIA_5 dX6_isTerm_15 h (fun v2 h => ?_)
    refine lv_iconst (v := (1 : Int32)) hx hb dX6_isTerm_16 (by decide) ?_
    refine lv_isub hx hb dX6_isTerm_17 ?_
    refine lv_i2l hx hb dX6_isTerm_18 rfl ?_
    obtain ⟨v3, h1, h⟩ := rs_bind h
    refine rs_goI (rs_runS (As := [.long (Int32.toInt64 a2), .long (0 : Int64), .long (Int32.toInt64 (v2 - (1 : Int32)))]) (rest := []) C hP hS (kX6_in l D ad cI cJ tP tR M (Int32.toInt64 a2) (0 : Int64) (Int32.toInt64 (v2 - (1 : Int32))) _ h1) mk_X6_in wd_593 rfl ⟨rfl, rfl, Nat.le_of_ble_eq_true rfl, Nat.le_of_ble_eq_true rfl⟩ rfl hl.1 (Nat.le_of_ble_eq_true rfl) dX6_isTerm_19) hS (fun H locs hP hS => ?_)
    refine lv_if_eq (tgt := 29) hx hb dX6_isTerm_22 (by decide) (fun cd => ?_) (fun cd => ?_)
    · have h := (if_pos cd).symm.trans h
      refine lv_iconst (v := (0 : Int32)) hx hb dX6_isTerm_29 (by decide) ?_
      obtain ⟨rfl, hz⟩ := rs_okZ h
      exact hret H locs _ ls hz hP hS dX6_isTerm_30
    · have h := (if_neg cd).symm.trans h
      refine lv_iconst (v := (1 : Int32)) hx hb dX6_isTerm_25 (by decide) ?_
      refine lv_goto (tgt := 30) hx hb dX6_isTerm_26 (by decide) ?_
      obtain ⟨rfl, hz⟩ := rs_okZ h
      exact hret H locs _ ls hz hP hS dX6_isTerm_30
abbrev rX6_term : Room := { frames := 2, cells := 0, slots := 0, locals := 45 }
theorem dX6_term_0 : decode cX6_term 0 = .ok (.iload_n 1, 1) := by decide +kernel
theorem dX6_term_1 : decode cX6_term 1 = .ok (.invokestatic 52, 3) := by decide +kernel
theorem dX6_term_4 : decode cX6_term 4 = .ok (.ifCond .ne 5, 3) := by decide +kernel
theorem dX6_term_7 : decode cX6_term 7 = .ok (.iconst (-1), 1) := by decide +kernel
theorem dX6_term_8 : decode cX6_term 8 = .ok (.ireturn, 1) := by decide +kernel
theorem dX6_term_9 : decode cX6_term 9 = .ok (.iload_n 2, 1) := by decide +kernel
theorem dX6_term_10 : decode cX6_term 10 = .ok (.i2l, 1) := by decide +kernel
theorem dX6_term_11 : decode cX6_term 11 = .ok (.lconst 0, 1) := by decide +kernel
theorem dX6_term_12 : decode cX6_term 12 = .ok (.ldc2_w 56, 3) := by decide +kernel
theorem dX6_term_15 : decode cX6_term 15 = .ok (.invokestatic 48, 3) := by decide +kernel
theorem dX6_term_18 : decode cX6_term 18 = .ok (.ifCond .eq 35, 3) := by decide +kernel
theorem dX6_term_21 : decode cX6_term 21 = .ok (.iload_n 3, 1) := by decide +kernel
theorem dX6_term_22 : decode cX6_term 22 = .ok (.i2l, 1) := by decide +kernel
theorem dX6_term_23 : decode cX6_term 23 = .ok (.lconst 0, 1) := by decide +kernel
theorem dX6_term_24 : decode cX6_term 24 = .ok (.ldc2_w 56, 3) := by decide +kernel
theorem dX6_term_27 : decode cX6_term 27 = .ok (.invokestatic 48, 3) := by decide +kernel
theorem dX6_term_30 : decode cX6_term 30 = .ok (.ifCond .eq 23, 3) := by decide +kernel
theorem dX6_term_33 : decode cX6_term 33 = .ok (.iload 4, 2) := by decide +kernel
theorem dX6_term_35 : decode cX6_term 35 = .ok (.i2l, 1) := by decide +kernel
theorem dX6_term_36 : decode cX6_term 36 = .ok (.ldc2_w 58, 3) := by decide +kernel
theorem dX6_term_39 : decode cX6_term 39 = .ok (.ldc2_w 60, 3) := by decide +kernel
theorem dX6_term_42 : decode cX6_term 42 = .ok (.invokestatic 48, 3) := by decide +kernel
theorem dX6_term_45 : decode cX6_term 45 = .ok (.ifCond .eq 8, 3) := by decide +kernel
theorem dX6_term_48 : decode cX6_term 48 = .ok (.iload 4, 2) := by decide +kernel
theorem dX6_term_50 : decode cX6_term 50 = .ok (.ifCond .ne 6, 3) := by decide +kernel
theorem dX6_term_53 : decode cX6_term 53 = .ok (.bipush (-2), 2) := by decide +kernel
theorem dX6_term_55 : decode cX6_term 55 = .ok (.ireturn, 1) := by decide +kernel
theorem dX6_term_56 : decode cX6_term 56 = .ok (.aload_n 0, 1) := by decide +kernel
theorem dX6_term_57 : decode cX6_term 57 = .ok (.getfield 22, 3) := by decide +kernel
theorem dX6_term_60 : decode cX6_term 60 = .ok (.iload_n 1, 1) := by decide +kernel
theorem dX6_term_61 : decode cX6_term 61 = .ok (.iaload, 1) := by decide +kernel
theorem dX6_term_62 : decode cX6_term 62 = .ok (.bipush 8, 2) := by decide +kernel
theorem dX6_term_64 : decode cX6_term 64 = .ok (.if_icmp .ne 6, 3) := by decide +kernel
theorem dX6_term_67 : decode cX6_term 67 = .ok (.bipush (-4), 2) := by decide +kernel
theorem dX6_term_69 : decode cX6_term 69 = .ok (.ireturn, 1) := by decide +kernel
theorem dX6_term_70 : decode cX6_term 70 = .ok (.bipush 8, 2) := by decide +kernel
theorem dX6_term_72 : decode cX6_term 72 = .ok (.iload_n 1, 1) := by decide +kernel
theorem dX6_term_73 : decode cX6_term 73 = .ok (.imul, 1) := by decide +kernel
theorem dX6_term_74 : decode cX6_term 74 = .ok (.istore 5, 2) := by decide +kernel
theorem dX6_term_76 : decode cX6_term 76 = .ok (.iload 5, 2) := by decide +kernel
theorem dX6_term_78 : decode cX6_term 78 = .ok (.bipush 8, 2) := by decide +kernel
theorem dX6_term_80 : decode cX6_term 80 = .ok (.iload_n 1, 1) := by decide +kernel
theorem dX6_term_81 : decode cX6_term 81 = .ok (.imul, 1) := by decide +kernel
theorem dX6_term_82 : decode cX6_term 82 = .ok (.aload_n 0, 1) := by decide +kernel
theorem dX6_term_83 : decode cX6_term 83 = .ok (.getfield 22, 3) := by decide +kernel
theorem dX6_term_86 : decode cX6_term 86 = .ok (.iload_n 1, 1) := by decide +kernel
theorem dX6_term_87 : decode cX6_term 87 = .ok (.iaload, 1) := by decide +kernel
theorem dX6_term_88 : decode cX6_term 88 = .ok (.iadd, 1) := by decide +kernel
theorem dX6_term_89 : decode cX6_term 89 = .ok (.if_icmp .ge 34, 3) := by decide +kernel
theorem dX6_term_92 : decode cX6_term 92 = .ok (.aload_n 0, 1) := by decide +kernel
theorem dX6_term_93 : decode cX6_term 93 = .ok (.getfield 7, 3) := by decide +kernel
theorem dX6_term_96 : decode cX6_term 96 = .ok (.iload 5, 2) := by decide +kernel
theorem dX6_term_98 : decode cX6_term 98 = .ok (.iaload, 1) := by decide +kernel
theorem dX6_term_99 : decode cX6_term 99 = .ok (.iload_n 2, 1) := by decide +kernel
theorem dX6_term_100 : decode cX6_term 100 = .ok (.if_icmp .ne 17, 3) := by decide +kernel
theorem dX6_term_103 : decode cX6_term 103 = .ok (.aload_n 0, 1) := by decide +kernel
theorem dX6_term_104 : decode cX6_term 104 = .ok (.getfield 13, 3) := by decide +kernel
theorem dX6_term_107 : decode cX6_term 107 = .ok (.iload 5, 2) := by decide +kernel
theorem dX6_term_109 : decode cX6_term 109 = .ok (.iaload, 1) := by decide +kernel
theorem dX6_term_110 : decode cX6_term 110 = .ok (.iload_n 3, 1) := by decide +kernel
theorem dX6_term_111 : decode cX6_term 111 = .ok (.if_icmp .ne 6, 3) := by decide +kernel
theorem dX6_term_114 : decode cX6_term 114 = .ok (.bipush (-5), 2) := by decide +kernel
theorem dX6_term_116 : decode cX6_term 116 = .ok (.ireturn, 1) := by decide +kernel
theorem dX6_term_117 : decode cX6_term 117 = .ok (.iinc 5 1, 3) := by decide +kernel
theorem dX6_term_120 : decode cX6_term 120 = .ok (.goto (-44), 3) := by decide +kernel
theorem dX6_term_123 : decode cX6_term 123 = .ok (.bipush 8, 2) := by decide +kernel
theorem dX6_term_125 : decode cX6_term 125 = .ok (.iload_n 1, 1) := by decide +kernel
theorem dX6_term_126 : decode cX6_term 126 = .ok (.imul, 1) := by decide +kernel
theorem dX6_term_127 : decode cX6_term 127 = .ok (.aload_n 0, 1) := by decide +kernel
theorem dX6_term_128 : decode cX6_term 128 = .ok (.getfield 22, 3) := by decide +kernel
theorem dX6_term_131 : decode cX6_term 131 = .ok (.iload_n 1, 1) := by decide +kernel
theorem dX6_term_132 : decode cX6_term 132 = .ok (.iaload, 1) := by decide +kernel
theorem dX6_term_133 : decode cX6_term 133 = .ok (.iadd, 1) := by decide +kernel
theorem dX6_term_134 : decode cX6_term 134 = .ok (.istore 5, 2) := by decide +kernel
theorem dX6_term_136 : decode cX6_term 136 = .ok (.aload_n 0, 1) := by decide +kernel
theorem dX6_term_137 : decode cX6_term 137 = .ok (.getfield 7, 3) := by decide +kernel
theorem dX6_term_140 : decode cX6_term 140 = .ok (.iload 5, 2) := by decide +kernel
theorem dX6_term_142 : decode cX6_term 142 = .ok (.iload_n 2, 1) := by decide +kernel
theorem dX6_term_143 : decode cX6_term 143 = .ok (.iastore, 1) := by decide +kernel
theorem dX6_term_144 : decode cX6_term 144 = .ok (.aload_n 0, 1) := by decide +kernel
theorem dX6_term_145 : decode cX6_term 145 = .ok (.getfield 13, 3) := by decide +kernel
theorem dX6_term_148 : decode cX6_term 148 = .ok (.iload 5, 2) := by decide +kernel
theorem dX6_term_150 : decode cX6_term 150 = .ok (.iload_n 3, 1) := by decide +kernel
theorem dX6_term_151 : decode cX6_term 151 = .ok (.iastore, 1) := by decide +kernel
theorem dX6_term_152 : decode cX6_term 152 = .ok (.aload_n 0, 1) := by decide +kernel
theorem dX6_term_153 : decode cX6_term 153 = .ok (.getfield 16, 3) := by decide +kernel
theorem dX6_term_156 : decode cX6_term 156 = .ok (.iload 5, 2) := by decide +kernel
theorem dX6_term_158 : decode cX6_term 158 = .ok (.iload 4, 2) := by decide +kernel
theorem dX6_term_160 : decode cX6_term 160 = .ok (.iastore, 1) := by decide +kernel
theorem dX6_term_161 : decode cX6_term 161 = .ok (.aload_n 0, 1) := by decide +kernel
theorem dX6_term_162 : decode cX6_term 162 = .ok (.getfield 19, 3) := by decide +kernel
theorem dX6_term_165 : decode cX6_term 165 = .ok (.iload 5, 2) := by decide +kernel
theorem dX6_term_167 : decode cX6_term 167 = .ok (.iconst 0, 1) := by decide +kernel
theorem dX6_term_168 : decode cX6_term 168 = .ok (.iastore, 1) := by decide +kernel
theorem dX6_term_169 : decode cX6_term 169 = .ok (.aload_n 0, 1) := by decide +kernel
theorem dX6_term_170 : decode cX6_term 170 = .ok (.getfield 22, 3) := by decide +kernel
theorem dX6_term_173 : decode cX6_term 173 = .ok (.iload_n 1, 1) := by decide +kernel
theorem dX6_term_174 : decode cX6_term 174 = .ok (.dup2, 1) := by decide +kernel
theorem dX6_term_175 : decode cX6_term 175 = .ok (.iaload, 1) := by decide +kernel
theorem dX6_term_176 : decode cX6_term 176 = .ok (.iconst 1, 1) := by decide +kernel
theorem dX6_term_177 : decode cX6_term 177 = .ok (.iadd, 1) := by decide +kernel
theorem dX6_term_178 : decode cX6_term 178 = .ok (.iastore, 1) := by decide +kernel
theorem dX6_term_179 : decode cX6_term 179 = .ok (.aload_n 0, 1) := by decide +kernel
theorem dX6_term_180 : decode cX6_term 180 = .ok (.getfield 22, 3) := by decide +kernel
theorem dX6_term_183 : decode cX6_term 183 = .ok (.iload_n 1, 1) := by decide +kernel
theorem dX6_term_184 : decode cX6_term 184 = .ok (.iaload, 1) := by decide +kernel
theorem dX6_term_185 : decode cX6_term 185 = .ok (.iconst 1, 1) := by decide +kernel
theorem dX6_term_186 : decode cX6_term 186 = .ok (.isub, 1) := by decide +kernel
theorem dX6_term_187 : decode cX6_term 187 = .ok (.ireturn, 1) := by decide +kernel
set_option maxRecDepth 100000 in
set_option maxHeartbeats 4000000 in
theorem kX6_term (l : Launch) (D : va_G) (ad : Nat → Nat) (cI cJ : ClassId) (tP tR : Nat) (N : Nat) (M : Mem) (a1 : Int32) (a2 : Int32) (a3 : Int32) (a4 : Int32)  (o : (Int32 × Mem)) (h : fX6_term N M a1 a2 a3 a4 = some o) : qMet l D cI cJ tP tR (yA ad) (yW ad cI cJ) yX6_term cX6_term 6 (some .int) rX6_term [.ref (ad 0), .int a1, .int a2, .int a3, .int a4] M (qQi D (yA ad) (yW ad cI cJ) o.1 o.2) := by
  refine rs_enterI (own := RX6) ⟨by decide +kernel, rfl, Nat.le_of_ble_eq_true rfl⟩ ?_
  intro p e s m args below meth c Q C hret H locs ls hP hS hl
  obtain ⟨hx, hb, -⟩ := id C
  have hl : lv_has ls 6 [(0, .ref (ad 0)), (1, .int a1), (2, .int a2), (3, .int a3), (4, .int a4)] := hl
  unfold fX6_term at h
  refine lv_iload_n hx hb dX6_term_0 rfl (lv_at hl 1 rfl) ?_
  obtain ⟨v1, h1, h⟩ := rs_bind h
  refine rs_goI (rs_runS (As := [.int a1]) (rest := []) C hP hS (kX6_isEquation l D ad cI cJ tP tR M a1 _ h1) mk_X6_isEquation wd_590 rfl ⟨rfl, rfl, Nat.le_of_ble_eq_true rfl, Nat.le_of_ble_eq_true rfl⟩ rfl hl.1 (Nat.le_of_ble_eq_true rfl) dX6_term_1) hS (fun H locs hP hS => ?_)
  refine lv_if_ne (tgt := 9) hx hb dX6_term_4 (by decide) (fun cd => ?_) (fun cd => ?_)
  · have h := (if_neg cd).symm.trans h
    refine lv_iload_n hx hb dX6_term_9 rfl (lv_at hl 2 rfl) ?_
    refine lv_i2l hx hb dX6_term_10 rfl ?_
    refine lv_lconst (v := (0 : Int64)) hx hb dX6_term_11 (by decide) ?_
    refine rs_ldc2 (v := (6 : Int64)) C wd_596 dX6_term_12 ?_
    obtain ⟨v2, h1, h⟩ := rs_bind h
    refine rs_goI (rs_runS (As := [.long (Int32.toInt64 a2), .long (0 : Int64), .long (6 : Int64)]) (rest := []) C hP hS (kX6_in l D ad cI cJ tP tR M (Int32.toInt64 a2) (0 : Int64) (6 : Int64) _ h1) mk_X6_in wd_593 rfl ⟨rfl, rfl, Nat.le_of_ble_eq_true rfl, Nat.le_of_ble_eq_true rfl⟩ rfl hl.1 (Nat.le_of_ble_eq_true rfl) dX6_term_15) hS (fun H locs hP hS => ?_)
    refine lv_if_eq (tgt := 53) hx hb dX6_term_18 (by decide) (fun cd => ?_) (fun cd => ?_)
    · have h := (if_pos cd).symm.trans h
      refine lv_bipush (v := (-2 : Int32)) hx hb dX6_term_53 (by decide) ?_
      cases h
      exact hret H locs _ ls hP hS dX6_term_55
    · have h := (if_neg cd).symm.trans h
      refine lv_iload_n hx hb dX6_term_21 rfl (lv_at hl 3 rfl) ?_
      refine lv_i2l hx hb dX6_term_22 rfl ?_
      refine lv_lconst (v := (0 : Int64)) hx hb dX6_term_23 (by decide) ?_
      refine rs_ldc2 (v := (6 : Int64)) C wd_596 dX6_term_24 ?_
      obtain ⟨v3, h1, h⟩ := rs_bind h
      refine rs_goI (rs_runS (As := [.long (Int32.toInt64 a3), .long (0 : Int64), .long (6 : Int64)]) (rest := []) C hP hS (kX6_in l D ad cI cJ tP tR M (Int32.toInt64 a3) (0 : Int64) (6 : Int64) _ h1) mk_X6_in wd_593 rfl ⟨rfl, rfl, Nat.le_of_ble_eq_true rfl, Nat.le_of_ble_eq_true rfl⟩ rfl hl.1 (Nat.le_of_ble_eq_true rfl) dX6_term_27) hS (fun H locs hP hS => ?_)
      refine lv_if_eq (tgt := 53) hx hb dX6_term_30 (by decide) (fun cd => ?_) (fun cd => ?_)
      · have h := (if_pos cd).symm.trans h
        refine lv_bipush (v := (-2 : Int32)) hx hb dX6_term_53 (by decide) ?_
        cases h
        exact hret H locs _ ls hP hS dX6_term_55
      · have h := (if_neg cd).symm.trans h
        refine lv_iload hx hb dX6_term_33 (lv_at hl 4 rfl) ?_
        refine lv_i2l hx hb dX6_term_35 rfl ?_
        refine rs_ldc2 (v := (-20 : Int64)) C wd_597 dX6_term_36 ?_
        refine rs_ldc2 (v := (20 : Int64)) C wd_598 dX6_term_39 ?_
        obtain ⟨v4, h1, h⟩ := rs_bind h
        refine rs_goI (rs_runS (As := [.long (Int32.toInt64 a4), .long (-20 : Int64), .long (20 : Int64)]) (rest := []) C hP hS (kX6_in l D ad cI cJ tP tR M (Int32.toInt64 a4) (-20 : Int64) (20 : Int64) _ h1) mk_X6_in wd_593 rfl ⟨rfl, rfl, Nat.le_of_ble_eq_true rfl, Nat.le_of_ble_eq_true rfl⟩ rfl hl.1 (Nat.le_of_ble_eq_true rfl) dX6_term_42) hS (fun H locs hP hS => ?_)
        refine lv_if_eq (tgt := 53) hx hb dX6_term_45 (by decide) (fun cd => ?_) (fun cd => ?_)
        · have h := (if_pos cd).symm.trans h
          refine lv_bipush (v := (-2 : Int32)) hx hb dX6_term_53 (by decide) ?_
          cases h
          exact hret H locs _ ls hP hS dX6_term_55
        · have h := (if_neg cd).symm.trans h
          refine lv_iload hx hb dX6_term_48 (lv_at hl 4 rfl) ?_
          refine lv_if_ne (tgt := 56) hx hb dX6_term_50 (by decide) (fun cd => ?_) (fun cd => ?_)
          · have h := (if_neg cd).symm.trans h
            refine lv_aload_n hx hb dX6_term_56 rfl (lv_at hl 0 rfl) ?_
            refine gfX6_22 C hP dX6_term_57 ?_
            refine lv_iload_n hx hb dX6_term_60 rfl (lv_at hl 1 rfl) ?_
            refine rs_iald C hP yIA_5 dX6_term_61 h (fun v5 h => ?_)
            refine lv_bipush (v := (8 : Int32)) hx hb dX6_term_62 (by decide) ?_
            refine lv_icmp_ne (tgt := 70) hx hb dX6_term_64 (by decide) (fun cd => ?_) (fun cd => ?_)
            · have h := (if_neg cd).symm.trans h
              refine lv_bipush (v := (8 : Int32)) hx hb dX6_term_70 (by decide) ?_
              refine lv_iload_n hx hb dX6_term_72 rfl (lv_at hl 1 rfl) ?_
              refine lv_imul hx hb dX6_term_73 ?_
              refine lv_istore (lv' := [(5, .int ((8 : Int32) * a1)), (0, .ref (ad 0)), (1, .int a1), (2, .int a2), (3, .int a3), (4, .int a4)]) hx hb dX6_term_74 hl (by decide) rfl (fun ls hl => ?_)
              have hL76 : ∀ (n76 : Nat) (v6 : Int32) (H : Heap) (locs : List Loc) (ls : Array Slot), va_P D vwCl (yW ad cI cJ M) H → va_S (yA ad) s.heap H locs → lv_has ls 6 [(0, .ref (ad 0)), (1, .int a1), (2, .int a2), (3, .int a3), (4, .int a4), (5, .int v6)] → lp (fun _ => none) (sX6_term_76 M a1 a2 a3 a4) n76 v6 = some o → W p l e rX6_term s m args below meth c H locs 0 0 Q (F0 m 76 ls []) := by
                intro n76
                induction n76 with
                | zero => intro v6 H locs ls hP hS hl h; have h : (none : Option (Int32 × Mem)) = some o := h; cases h
                | succ n76 ih76 =>
                  intro v6 H locs ls hP hS hl h
                  have h : sX6_term_76 M a1 a2 a3 a4 (lp (fun _ => none) (sX6_term_76 M a1 a2 a3 a4) n76) v6 = some o := h
                  generalize lp (fun _ => none) (sX6_term_76 M a1 a2 a3 a4) n76 = cont76 at h ih76
                  unfold sX6_term_76 at h
                  refine lv_iload hx hb dX6_term_76 (lv_at hl 5 rfl) ?_
                  refine lv_bipush (v := (8 : Int32)) hx hb dX6_term_78 (by decide) ?_
                  refine lv_iload_n hx hb dX6_term_80 rfl (lv_at hl 1 rfl) ?_
                  refine lv_imul hx hb dX6_term_81 ?_
                  refine lv_aload_n hx hb dX6_term_82 rfl (lv_at hl 0 rfl) ?_
                  refine gfX6_22 C hP dX6_term_83 ?_
                  refine lv_iload_n hx hb dX6_term_86 rfl (lv_at hl 1 rfl) ?_
                  refine rs_iald C hP yIA_5 dX6_term_87 h (fun v7 h => ?_)
                  refine lv_iadd hx hb dX6_term_88 ?_
                  refine lv_icmp_ge (tgt := 123) hx hb dX6_term_89 (by decide) (fun cd => ?_) (fun cd => ?_)
                  · have h := (if_pos cd).symm.trans h
                    refine lv_bipush (v := (8 : Int32)) hx hb dX6_term_123 (by decide) ?_
                    refine lv_iload_n hx hb dX6_term_125 rfl (lv_at hl 1 rfl) ?_
                    refine lv_imul hx hb dX6_term_126 ?_
                    refine lv_aload_n hx hb dX6_term_127 rfl (lv_at hl 0 rfl) ?_
                    refine gfX6_22 C hP dX6_term_128 ?_
                    refine lv_iload_n hx hb dX6_term_131 rfl (lv_at hl 1 rfl) ?_
                    refine rs_iald C hP yIA_5 dX6_term_132 h (fun v8 h => ?_)
                    refine lv_iadd hx hb dX6_term_133 ?_
                    refine lv_istore (lv' := [(5, .int (((8 : Int32) * a1) + v8)), (0, .ref (ad 0)), (1, .int a1), (2, .int a2), (3, .int a3), (4, .int a4)]) hx hb dX6_term_134 hl (by decide) rfl (fun ls hl => ?_)
                    refine lv_aload_n hx hb dX6_term_136 rfl (lv_at hl 1 rfl) ?_
                    refine gfX6_7 C hP dX6_term_137 ?_
                    refine lv_iload hx hb dX6_term_140 (lv_at hl 0 rfl) ?_
                    refine lv_iload_n hx hb dX6_term_142 rfl (lv_at hl 3 rfl) ?_
                    refine rs_iast C hP hS yIA_1 dX6_term_143 h (fun M9 h H locs hP hS => ?_)
                    refine lv_aload_n hx hb dX6_term_144 rfl (lv_at hl 1 rfl) ?_
                    refine gfX6_13 C hP dX6_term_145 ?_
                    refine lv_iload hx hb dX6_term_148 (lv_at hl 0 rfl) ?_
                    refine lv_iload_n hx hb dX6_term_150 rfl (lv_at hl 4 rfl) ?_
                    refine rs_iast C hP hS yIA_2 dX6_term_151 h (fun M10 h H locs hP hS => ?_)
                    refine lv_aload_n hx hb dX6_term_152 rfl (lv_at hl 1 rfl) ?_
                    refine gfX6_16 C hP dX6_term_153 ?_
                    refine lv_iload hx hb dX6_term_156 (lv_at hl 0 rfl) ?_
                    refine lv_iload hx hb dX6_term_158 (lv_at hl 5 rfl) ?_
                    refine rs_iast C hP hS yIA_3 dX6_term_160 h (fun M11 h H locs hP hS => ?_)
                    refine lv_aload_n hx hb dX6_term_161 rfl (lv_at hl 1 rfl) ?_
                    refine gfX6_19 C hP dX6_term_162 ?_
                    refine lv_iload hx hb dX6_term_165 (lv_at hl 0 rfl) ?_
                    refine lv_iconst (v := (0 : Int32)) hx hb dX6_term_167 (by decide) ?_
                    refine rs_iast C hP hS yIA_4 dX6_term_168 h (fun M12 h H locs hP hS => ?_)
                    refine lv_aload_n hx hb dX6_term_169 rfl (lv_at hl 1 rfl) ?_
                    refine gfX6_22 C hP dX6_term_170 ?_
                    refine lv_iload_n hx hb dX6_term_173 rfl (lv_at hl 2 rfl) ?_
                    refine lv_dup2_11 hx hb dX6_term_174 rfl rfl ?_
                    refine rs_iald C hP yIA_5 dX6_term_175 h (fun v13 h => ?_)
                    refine lv_iconst (v := (1 : Int32)) hx hb dX6_term_176 (by decide) ?_
                    refine lv_iadd hx hb dX6_term_177 ?_
                    refine rs_iast C hP hS yIA_5 dX6_term_178 h (fun M14 h H locs hP hS => ?_)
                    refine lv_aload_n hx hb dX6_term_179 rfl (lv_at hl 1 rfl) ?_
                    refine gfX6_22 C hP dX6_term_180 ?_
                    refine lv_iload_n hx hb dX6_term_183 rfl (lv_at hl 2 rfl) ?_
                    refine rs_iald C hP yIA_5 dX6_term_184 h (fun v15 h => ?_)
                    refine lv_iconst (v := (1 : Int32)) hx hb dX6_term_185 (by decide) ?_
                    refine lv_isub hx hb dX6_term_186 ?_
                    cases h
                    exact hret H locs _ ls hP hS dX6_term_187
                  · have h := (if_neg cd).symm.trans h
                    refine lv_aload_n hx hb dX6_term_92 rfl (lv_at hl 0 rfl) ?_
                    refine gfX6_7 C hP dX6_term_93 ?_
                    refine lv_iload hx hb dX6_term_96 (lv_at hl 5 rfl) ?_
                    refine rs_iald C hP yIA_1 dX6_term_98 h (fun v16 h => ?_)
                    refine lv_iload_n hx hb dX6_term_99 rfl (lv_at hl 2 rfl) ?_
                    refine lv_icmp_ne (tgt := 117) hx hb dX6_term_100 (by decide) (fun cd => ?_) (fun cd => ?_)
                    · have h := (if_neg cd).symm.trans h
                      refine lv_iinc (v := (v6 + 1)) (lv' := [(5, .int (v6 + 1)), (0, .ref (ad 0)), (1, .int a1), (2, .int a2), (3, .int a3), (4, .int a4)]) hx hb dX6_term_117 hl (k := 5) rfl rfl (by decide) rfl (fun ls hl => ?_)
                      refine lv_goto (tgt := 76) hx hb dX6_term_120 (by decide) ?_
                      exact ih76 _ H locs ls hP hS (lv_sub hl [1, 2, 3, 4, 5, 0] rfl) h
                    · have h := (if_pos cd).symm.trans h
                      refine lv_aload_n hx hb dX6_term_103 rfl (lv_at hl 0 rfl) ?_
                      refine gfX6_13 C hP dX6_term_104 ?_
                      refine lv_iload hx hb dX6_term_107 (lv_at hl 5 rfl) ?_
                      refine rs_iald C hP yIA_2 dX6_term_109 h (fun v17 h => ?_)
                      refine lv_iload_n hx hb dX6_term_110 rfl (lv_at hl 3 rfl) ?_
                      refine lv_icmp_ne (tgt := 117) hx hb dX6_term_111 (by decide) (fun cd => ?_) (fun cd => ?_)
                      · have h := (if_neg cd).symm.trans h
                        refine lv_iinc (v := (v6 + 1)) (lv' := [(5, .int (v6 + 1)), (0, .ref (ad 0)), (1, .int a1), (2, .int a2), (3, .int a3), (4, .int a4)]) hx hb dX6_term_117 hl (k := 5) rfl rfl (by decide) rfl (fun ls hl => ?_)
                        refine lv_goto (tgt := 76) hx hb dX6_term_120 (by decide) ?_
                        exact ih76 _ H locs ls hP hS (lv_sub hl [1, 2, 3, 4, 5, 0] rfl) h
                      · have h := (if_pos cd).symm.trans h
                        refine lv_bipush (v := (-5 : Int32)) hx hb dX6_term_114 (by decide) ?_
                        cases h
                        exact hret H locs _ ls hP hS dX6_term_116
              exact hL76 N _ H locs ls hP hS (lv_sub hl [1, 2, 3, 4, 5, 0] rfl) h
            · have h := (if_pos cd).symm.trans h
              refine lv_bipush (v := (-4 : Int32)) hx hb dX6_term_67 (by decide) ?_
              cases h
              exact hret H locs _ ls hP hS dX6_term_69
          · have h := (if_pos cd).symm.trans h
            refine lv_bipush (v := (-2 : Int32)) hx hb dX6_term_53 (by decide) ?_
            cases h
            exact hret H locs _ ls hP hS dX6_term_55
  · have h := (if_pos cd).symm.trans h
    refine lv_iconst (v := (-1 : Int32)) hx hb dX6_term_7 (by decide) ?_
    cases h
    exact hret H locs _ ls hP hS dX6_term_8
abbrev rX6_about : Room := { frames := 3, cells := 0, slots := 0, locals := 67 }
theorem dX6_about_0 : decode cX6_about 0 = .ok (.aload_n 0, 1) := by decide +kernel
theorem dX6_about_1 : decode cX6_about 1 = .ok (.iload_n 1, 1) := by decide +kernel
theorem dX6_about_2 : decode cX6_about 2 = .ok (.iload_n 2, 1) := by decide +kernel
theorem dX6_about_3 : decode cX6_about 3 = .ok (.invokevirtual 62, 3) := by decide +kernel
theorem dX6_about_6 : decode cX6_about 6 = .ok (.ifCond .ne 6, 3) := by decide +kernel
theorem dX6_about_9 : decode cX6_about 9 = .ok (.bipush (-101), 2) := by decide +kernel
theorem dX6_about_11 : decode cX6_about 11 = .ok (.ireturn, 1) := by decide +kernel
theorem dX6_about_12 : decode cX6_about 12 = .ok (.bipush 8, 2) := by decide +kernel
theorem dX6_about_14 : decode cX6_about 14 = .ok (.iload_n 1, 1) := by decide +kernel
theorem dX6_about_15 : decode cX6_about 15 = .ok (.imul, 1) := by decide +kernel
theorem dX6_about_16 : decode cX6_about 16 = .ok (.iload_n 2, 1) := by decide +kernel
theorem dX6_about_17 : decode cX6_about 17 = .ok (.iadd, 1) := by decide +kernel
theorem dX6_about_18 : decode cX6_about 18 = .ok (.istore 4, 2) := by decide +kernel
theorem dX6_about_20 : decode cX6_about 20 = .ok (.iload_n 3, 1) := by decide +kernel
theorem dX6_about_21 : decode cX6_about 21 = .ok (.ifCond .ne 13, 3) := by decide +kernel
theorem dX6_about_24 : decode cX6_about 24 = .ok (.aload_n 0, 1) := by decide +kernel
theorem dX6_about_25 : decode cX6_about 25 = .ok (.getfield 7, 3) := by decide +kernel
theorem dX6_about_28 : decode cX6_about 28 = .ok (.iload 4, 2) := by decide +kernel
theorem dX6_about_30 : decode cX6_about 30 = .ok (.iaload, 1) := by decide +kernel
theorem dX6_about_31 : decode cX6_about 31 = .ok (.goto 50, 3) := by decide +kernel
theorem dX6_about_34 : decode cX6_about 34 = .ok (.iload_n 3, 1) := by decide +kernel
theorem dX6_about_35 : decode cX6_about 35 = .ok (.iconst 1, 1) := by decide +kernel
theorem dX6_about_36 : decode cX6_about 36 = .ok (.if_icmp .ne 13, 3) := by decide +kernel
theorem dX6_about_39 : decode cX6_about 39 = .ok (.aload_n 0, 1) := by decide +kernel
theorem dX6_about_40 : decode cX6_about 40 = .ok (.getfield 13, 3) := by decide +kernel
theorem dX6_about_43 : decode cX6_about 43 = .ok (.iload 4, 2) := by decide +kernel
theorem dX6_about_45 : decode cX6_about 45 = .ok (.iaload, 1) := by decide +kernel
theorem dX6_about_46 : decode cX6_about 46 = .ok (.goto 35, 3) := by decide +kernel
theorem dX6_about_49 : decode cX6_about 49 = .ok (.iload_n 3, 1) := by decide +kernel
theorem dX6_about_50 : decode cX6_about 50 = .ok (.iconst 2, 1) := by decide +kernel
theorem dX6_about_51 : decode cX6_about 51 = .ok (.if_icmp .ne 13, 3) := by decide +kernel
theorem dX6_about_54 : decode cX6_about 54 = .ok (.aload_n 0, 1) := by decide +kernel
theorem dX6_about_55 : decode cX6_about 55 = .ok (.getfield 16, 3) := by decide +kernel
theorem dX6_about_58 : decode cX6_about 58 = .ok (.iload 4, 2) := by decide +kernel
theorem dX6_about_60 : decode cX6_about 60 = .ok (.iaload, 1) := by decide +kernel
theorem dX6_about_61 : decode cX6_about 61 = .ok (.goto 20, 3) := by decide +kernel
theorem dX6_about_64 : decode cX6_about 64 = .ok (.iload_n 3, 1) := by decide +kernel
theorem dX6_about_65 : decode cX6_about 65 = .ok (.iconst 3, 1) := by decide +kernel
theorem dX6_about_66 : decode cX6_about 66 = .ok (.if_icmp .ne 13, 3) := by decide +kernel
theorem dX6_about_69 : decode cX6_about 69 = .ok (.aload_n 0, 1) := by decide +kernel
theorem dX6_about_70 : decode cX6_about 70 = .ok (.getfield 19, 3) := by decide +kernel
theorem dX6_about_73 : decode cX6_about 73 = .ok (.iload 4, 2) := by decide +kernel
theorem dX6_about_75 : decode cX6_about 75 = .ok (.iaload, 1) := by decide +kernel
theorem dX6_about_76 : decode cX6_about 76 = .ok (.goto 5, 3) := by decide +kernel
theorem dX6_about_79 : decode cX6_about 79 = .ok (.bipush (-102), 2) := by decide +kernel
theorem dX6_about_81 : decode cX6_about 81 = .ok (.ireturn, 1) := by decide +kernel
set_option maxRecDepth 100000 in
set_option maxHeartbeats 4000000 in
theorem kX6_about (l : Launch) (D : va_G) (ad : Nat → Nat) (cI cJ : ClassId) (tP tR : Nat) (M : Mem) (a1 : Int32) (a2 : Int32) (a3 : Int32)  (o : Int32) (h : fX6_about M a1 a2 a3 = some o) : qMet l D cI cJ tP tR (yA ad) (yW ad cI cJ) yX6_about cX6_about 5 (some .int) rX6_about [.ref (ad 0), .int a1, .int a2, .int a3] M (qQi D (yA ad) (yW ad cI cJ) o M) := by
  refine rs_enterI (own := RX6) ⟨by decide +kernel, rfl, Nat.le_of_ble_eq_true rfl⟩ ?_
  intro p e s m args below meth c Q C hret H locs ls hP hS hl
  obtain ⟨hx, hb, -⟩ := id C
  have hl : lv_has ls 5 [(0, .ref (ad 0)), (1, .int a1), (2, .int a2), (3, .int a3)] := hl
  unfold fX6_about at h
  refine lv_aload_n hx hb dX6_about_0 rfl (lv_at hl 0 rfl) ?_
  refine lv_iload_n hx hb dX6_about_1 rfl (lv_at hl 1 rfl) ?_
  refine lv_iload_n hx hb dX6_about_2 rfl (lv_at hl 2 rfl) ?_
  obtain ⟨v1, h1, h⟩ := rs_bind h
  refine rs_goI (rs_runV (b := 0) (As := [.int a1, .int a2]) (rest := []) C hP hS (kX6_isTerm l D ad cI cJ tP tR M a1 a2 _ h1) mk_X6_isTerm wd_603 (yR_0) rfl ⟨rfl, rfl, Nat.le_of_ble_eq_true rfl, Nat.le_of_ble_eq_true rfl⟩ rfl hl.1 (Nat.le_of_ble_eq_true rfl) dX6_about_3) hS (fun H locs hP hS => ?_)
  refine lv_if_ne (tgt := 12) hx hb dX6_about_6 (by decide) (fun cd => ?_) (fun cd => ?_)
  · have h := (if_neg cd).symm.trans h
    refine lv_bipush (v := (8 : Int32)) hx hb dX6_about_12 (by decide) ?_
    refine lv_iload_n hx hb dX6_about_14 rfl (lv_at hl 1 rfl) ?_
    refine lv_imul hx hb dX6_about_15 ?_
    refine lv_iload_n hx hb dX6_about_16 rfl (lv_at hl 2 rfl) ?_
    refine lv_iadd hx hb dX6_about_17 ?_
    refine lv_istore (lv' := [(4, .int (((8 : Int32) * a1) + a2)), (0, .ref (ad 0)), (1, .int a1), (2, .int a2), (3, .int a3)]) hx hb dX6_about_18 hl (by decide) rfl (fun ls hl => ?_)
    refine lv_iload_n hx hb dX6_about_20 rfl (lv_at hl 4 rfl) ?_
    refine lv_if_ne (tgt := 34) hx hb dX6_about_21 (by decide) (fun cd => ?_) (fun cd => ?_)
    · have h := (if_neg cd).symm.trans h
      refine lv_iload_n hx hb dX6_about_34 rfl (lv_at hl 4 rfl) ?_
      refine lv_iconst (v := (1 : Int32)) hx hb dX6_about_35 (by decide) ?_
      refine lv_icmp_ne (tgt := 49) hx hb dX6_about_36 (by decide) (fun cd => ?_) (fun cd => ?_)
      · have h := (if_neg cd).symm.trans h
        refine lv_iload_n hx hb dX6_about_49 rfl (lv_at hl 4 rfl) ?_
        refine lv_iconst (v := (2 : Int32)) hx hb dX6_about_50 (by decide) ?_
        refine lv_icmp_ne (tgt := 64) hx hb dX6_about_51 (by decide) (fun cd => ?_) (fun cd => ?_)
        · have h := (if_neg cd).symm.trans h
          refine lv_iload_n hx hb dX6_about_64 rfl (lv_at hl 4 rfl) ?_
          refine lv_iconst (v := (3 : Int32)) hx hb dX6_about_65 (by decide) ?_
          refine lv_icmp_ne (tgt := 79) hx hb dX6_about_66 (by decide) (fun cd => ?_) (fun cd => ?_)
          · have h := (if_neg cd).symm.trans h
            refine lv_bipush (v := (-102 : Int32)) hx hb dX6_about_79 (by decide) ?_
            cases h
            exact hret H locs _ ls hP hS dX6_about_81
          · have h := (if_pos cd).symm.trans h
            refine lv_aload_n hx hb dX6_about_69 rfl (lv_at hl 1 rfl) ?_
            refine gfX6_19 C hP dX6_about_70 ?_
            refine lv_iload hx hb dX6_about_73 (lv_at hl 0 rfl) ?_
            refine rs_iald C hP yIA_4 dX6_about_75 h (fun v2 h => ?_)
            refine lv_goto (tgt := 81) hx hb dX6_about_76 (by decide) ?_
            cases h
            exact hret H locs _ ls hP hS dX6_about_81
        · have h := (if_pos cd).symm.trans h
          refine lv_aload_n hx hb dX6_about_54 rfl (lv_at hl 1 rfl) ?_
          refine gfX6_16 C hP dX6_about_55 ?_
          refine lv_iload hx hb dX6_about_58 (lv_at hl 0 rfl) ?_
          refine rs_iald C hP yIA_3 dX6_about_60 h (fun v3 h => ?_)
          refine lv_goto (tgt := 81) hx hb dX6_about_61 (by decide) ?_
          cases h
          exact hret H locs _ ls hP hS dX6_about_81
      · have h := (if_pos cd).symm.trans h
        refine lv_aload_n hx hb dX6_about_39 rfl (lv_at hl 1 rfl) ?_
        refine gfX6_13 C hP dX6_about_40 ?_
        refine lv_iload hx hb dX6_about_43 (lv_at hl 0 rfl) ?_
        refine rs_iald C hP yIA_2 dX6_about_45 h (fun v4 h => ?_)
        refine lv_goto (tgt := 81) hx hb dX6_about_46 (by decide) ?_
        cases h
        exact hret H locs _ ls hP hS dX6_about_81
    · have h := (if_pos cd).symm.trans h
      refine lv_aload_n hx hb dX6_about_24 rfl (lv_at hl 1 rfl) ?_
      refine gfX6_7 C hP dX6_about_25 ?_
      refine lv_iload hx hb dX6_about_28 (lv_at hl 0 rfl) ?_
      refine rs_iald C hP yIA_1 dX6_about_30 h (fun v5 h => ?_)
      refine lv_goto (tgt := 81) hx hb dX6_about_31 (by decide) ?_
      cases h
      exact hret H locs _ ls hP hS dX6_about_81
  · have h := (if_pos cd).symm.trans h
    refine lv_bipush (v := (-101 : Int32)) hx hb dX6_about_9 (by decide) ?_
    cases h
    exact hret H locs _ ls hP hS dX6_about_11
abbrev rX6_change : Room := { frames := 3, cells := 0, slots := 0, locals := 67 }
theorem dX6_change_0 : decode cX6_change 0 = .ok (.aload_n 0, 1) := by decide +kernel
theorem dX6_change_1 : decode cX6_change 1 = .ok (.iload_n 1, 1) := by decide +kernel
theorem dX6_change_2 : decode cX6_change 2 = .ok (.iload_n 2, 1) := by decide +kernel
theorem dX6_change_3 : decode cX6_change 3 = .ok (.invokevirtual 62, 3) := by decide +kernel
theorem dX6_change_6 : decode cX6_change 6 = .ok (.ifCond .ne 6, 3) := by decide +kernel
theorem dX6_change_9 : decode cX6_change 9 = .ok (.bipush (-101), 2) := by decide +kernel
theorem dX6_change_11 : decode cX6_change 11 = .ok (.ireturn, 1) := by decide +kernel
theorem dX6_change_12 : decode cX6_change 12 = .ok (.iload_n 3, 1) := by decide +kernel
theorem dX6_change_13 : decode cX6_change 13 = .ok (.i2l, 1) := by decide +kernel
theorem dX6_change_14 : decode cX6_change 14 = .ok (.ldc2_w 58, 3) := by decide +kernel
theorem dX6_change_17 : decode cX6_change 17 = .ok (.ldc2_w 60, 3) := by decide +kernel
theorem dX6_change_20 : decode cX6_change 20 = .ok (.invokestatic 48, 3) := by decide +kernel
theorem dX6_change_23 : decode cX6_change 23 = .ok (.ifCond .eq 7, 3) := by decide +kernel
theorem dX6_change_26 : decode cX6_change 26 = .ok (.iload_n 3, 1) := by decide +kernel
theorem dX6_change_27 : decode cX6_change 27 = .ok (.ifCond .ne 6, 3) := by decide +kernel
theorem dX6_change_30 : decode cX6_change 30 = .ok (.bipush (-102), 2) := by decide +kernel
theorem dX6_change_32 : decode cX6_change 32 = .ok (.ireturn, 1) := by decide +kernel
theorem dX6_change_33 : decode cX6_change 33 = .ok (.aload_n 0, 1) := by decide +kernel
theorem dX6_change_34 : decode cX6_change 34 = .ok (.getfield 16, 3) := by decide +kernel
theorem dX6_change_37 : decode cX6_change 37 = .ok (.bipush 8, 2) := by decide +kernel
theorem dX6_change_39 : decode cX6_change 39 = .ok (.iload_n 1, 1) := by decide +kernel
theorem dX6_change_40 : decode cX6_change 40 = .ok (.imul, 1) := by decide +kernel
theorem dX6_change_41 : decode cX6_change 41 = .ok (.iload_n 2, 1) := by decide +kernel
theorem dX6_change_42 : decode cX6_change 42 = .ok (.iadd, 1) := by decide +kernel
theorem dX6_change_43 : decode cX6_change 43 = .ok (.iaload, 1) := by decide +kernel
theorem dX6_change_44 : decode cX6_change 44 = .ok (.istore 4, 2) := by decide +kernel
theorem dX6_change_46 : decode cX6_change 46 = .ok (.aload_n 0, 1) := by decide +kernel
theorem dX6_change_47 : decode cX6_change 47 = .ok (.getfield 16, 3) := by decide +kernel
theorem dX6_change_50 : decode cX6_change 50 = .ok (.bipush 8, 2) := by decide +kernel
theorem dX6_change_52 : decode cX6_change 52 = .ok (.iload_n 1, 1) := by decide +kernel
theorem dX6_change_53 : decode cX6_change 53 = .ok (.imul, 1) := by decide +kernel
theorem dX6_change_54 : decode cX6_change 54 = .ok (.iload_n 2, 1) := by decide +kernel
theorem dX6_change_55 : decode cX6_change 55 = .ok (.iadd, 1) := by decide +kernel
theorem dX6_change_56 : decode cX6_change 56 = .ok (.iload_n 3, 1) := by decide +kernel
theorem dX6_change_57 : decode cX6_change 57 = .ok (.iastore, 1) := by decide +kernel
theorem dX6_change_58 : decode cX6_change 58 = .ok (.iload 4, 2) := by decide +kernel
theorem dX6_change_60 : decode cX6_change 60 = .ok (.ireturn, 1) := by decide +kernel
set_option maxRecDepth 100000 in
set_option maxHeartbeats 4000000 in
theorem kX6_change (l : Launch) (D : va_G) (ad : Nat → Nat) (cI cJ : ClassId) (tP tR : Nat) (M : Mem) (a1 : Int32) (a2 : Int32) (a3 : Int32)  (o : (Int32 × Mem)) (h : fX6_change M a1 a2 a3 = some o) : qMet l D cI cJ tP tR (yA ad) (yW ad cI cJ) yX6_change cX6_change 5 (some .int) rX6_change [.ref (ad 0), .int a1, .int a2, .int a3] M (qQi D (yA ad) (yW ad cI cJ) o.1 o.2) := by
  refine rs_enterI (own := RX6) ⟨by decide +kernel, rfl, Nat.le_of_ble_eq_true rfl⟩ ?_
  intro p e s m args below meth c Q C hret H locs ls hP hS hl
  obtain ⟨hx, hb, -⟩ := id C
  have hl : lv_has ls 5 [(0, .ref (ad 0)), (1, .int a1), (2, .int a2), (3, .int a3)] := hl
  unfold fX6_change at h
  refine lv_aload_n hx hb dX6_change_0 rfl (lv_at hl 0 rfl) ?_
  refine lv_iload_n hx hb dX6_change_1 rfl (lv_at hl 1 rfl) ?_
  refine lv_iload_n hx hb dX6_change_2 rfl (lv_at hl 2 rfl) ?_
  obtain ⟨v1, h1, h⟩ := rs_bind h
  refine rs_goI (rs_runV (b := 0) (As := [.int a1, .int a2]) (rest := []) C hP hS (kX6_isTerm l D ad cI cJ tP tR M a1 a2 _ h1) mk_X6_isTerm wd_603 (yR_0) rfl ⟨rfl, rfl, Nat.le_of_ble_eq_true rfl, Nat.le_of_ble_eq_true rfl⟩ rfl hl.1 (Nat.le_of_ble_eq_true rfl) dX6_change_3) hS (fun H locs hP hS => ?_)
  refine lv_if_ne (tgt := 12) hx hb dX6_change_6 (by decide) (fun cd => ?_) (fun cd => ?_)
  · have h := (if_neg cd).symm.trans h
    refine lv_iload_n hx hb dX6_change_12 rfl (lv_at hl 3 rfl) ?_
    refine lv_i2l hx hb dX6_change_13 rfl ?_
    refine rs_ldc2 (v := (-20 : Int64)) C wd_597 dX6_change_14 ?_
    refine rs_ldc2 (v := (20 : Int64)) C wd_598 dX6_change_17 ?_
    obtain ⟨v2, h1, h⟩ := rs_bind h
    refine rs_goI (rs_runS (As := [.long (Int32.toInt64 a3), .long (-20 : Int64), .long (20 : Int64)]) (rest := []) C hP hS (kX6_in l D ad cI cJ tP tR M (Int32.toInt64 a3) (-20 : Int64) (20 : Int64) _ h1) mk_X6_in wd_593 rfl ⟨rfl, rfl, Nat.le_of_ble_eq_true rfl, Nat.le_of_ble_eq_true rfl⟩ rfl hl.1 (Nat.le_of_ble_eq_true rfl) dX6_change_20) hS (fun H locs hP hS => ?_)
    refine lv_if_eq (tgt := 30) hx hb dX6_change_23 (by decide) (fun cd => ?_) (fun cd => ?_)
    · have h := (if_pos cd).symm.trans h
      refine lv_bipush (v := (-102 : Int32)) hx hb dX6_change_30 (by decide) ?_
      cases h
      exact hret H locs _ ls hP hS dX6_change_32
    · have h := (if_neg cd).symm.trans h
      refine lv_iload_n hx hb dX6_change_26 rfl (lv_at hl 3 rfl) ?_
      refine lv_if_ne (tgt := 33) hx hb dX6_change_27 (by decide) (fun cd => ?_) (fun cd => ?_)
      · have h := (if_neg cd).symm.trans h
        refine lv_aload_n hx hb dX6_change_33 rfl (lv_at hl 0 rfl) ?_
        refine gfX6_16 C hP dX6_change_34 ?_
        refine lv_bipush (v := (8 : Int32)) hx hb dX6_change_37 (by decide) ?_
        refine lv_iload_n hx hb dX6_change_39 rfl (lv_at hl 1 rfl) ?_
        refine lv_imul hx hb dX6_change_40 ?_
        refine lv_iload_n hx hb dX6_change_41 rfl (lv_at hl 2 rfl) ?_
        refine lv_iadd hx hb dX6_change_42 ?_
        refine rs_iald C hP yIA_3 dX6_change_43 h (fun v3 h => ?_)
        refine lv_istore (lv' := [(4, .int v3), (0, .ref (ad 0)), (1, .int a1), (2, .int a2), (3, .int a3)]) hx hb dX6_change_44 hl (by decide) rfl (fun ls hl => ?_)
        refine lv_aload_n hx hb dX6_change_46 rfl (lv_at hl 1 rfl) ?_
        refine gfX6_16 C hP dX6_change_47 ?_
        refine lv_bipush (v := (8 : Int32)) hx hb dX6_change_50 (by decide) ?_
        refine lv_iload_n hx hb dX6_change_52 rfl (lv_at hl 2 rfl) ?_
        refine lv_imul hx hb dX6_change_53 ?_
        refine lv_iload_n hx hb dX6_change_54 rfl (lv_at hl 3 rfl) ?_
        refine lv_iadd hx hb dX6_change_55 ?_
        refine lv_iload_n hx hb dX6_change_56 rfl (lv_at hl 4 rfl) ?_
        refine rs_iast C hP hS yIA_3 dX6_change_57 h (fun M4 h H locs hP hS => ?_)
        refine lv_iload hx hb dX6_change_58 (lv_at hl 0 rfl) ?_
        cases h
        exact hret H locs _ ls hP hS dX6_change_60
      · have h := (if_pos cd).symm.trans h
        refine lv_bipush (v := (-102 : Int32)) hx hb dX6_change_30 (by decide) ?_
        cases h
        exact hret H locs _ ls hP hS dX6_change_32
  · have h := (if_pos cd).symm.trans h
    refine lv_bipush (v := (-101 : Int32)) hx hb dX6_change_9 (by decide) ?_
    cases h
    exact hret H locs _ ls hP hS dX6_change_11
abbrev rX6_clear : Room := { frames := 2, cells := 0, slots := 0, locals := 45 }
theorem dX6_clear_0 : decode cX6_clear 0 = .ok (.iload_n 1, 1) := by decide +kernel
theorem dX6_clear_1 : decode cX6_clear 1 = .ok (.invokestatic 52, 3) := by decide +kernel
theorem dX6_clear_4 : decode cX6_clear 4 = .ok (.ifCond .ne 5, 3) := by decide +kernel
theorem dX6_clear_7 : decode cX6_clear 7 = .ok (.iconst (-1), 1) := by decide +kernel
theorem dX6_clear_8 : decode cX6_clear 8 = .ok (.ireturn, 1) := by decide +kernel
theorem dX6_clear_9 : decode cX6_clear 9 = .ok (.aload_n 0, 1) := by decide +kernel
theorem dX6_clear_10 : decode cX6_clear 10 = .ok (.getfield 22, 3) := by decide +kernel
theorem dX6_clear_13 : decode cX6_clear 13 = .ok (.iload_n 1, 1) := by decide +kernel
theorem dX6_clear_14 : decode cX6_clear 14 = .ok (.iaload, 1) := by decide +kernel
theorem dX6_clear_15 : decode cX6_clear 15 = .ok (.istore_n 2, 1) := by decide +kernel
theorem dX6_clear_16 : decode cX6_clear 16 = .ok (.aload_n 0, 1) := by decide +kernel
theorem dX6_clear_17 : decode cX6_clear 17 = .ok (.getfield 22, 3) := by decide +kernel
theorem dX6_clear_20 : decode cX6_clear 20 = .ok (.iload_n 1, 1) := by decide +kernel
theorem dX6_clear_21 : decode cX6_clear 21 = .ok (.iconst 0, 1) := by decide +kernel
theorem dX6_clear_22 : decode cX6_clear 22 = .ok (.iastore, 1) := by decide +kernel
theorem dX6_clear_23 : decode cX6_clear 23 = .ok (.iload_n 2, 1) := by decide +kernel
theorem dX6_clear_24 : decode cX6_clear 24 = .ok (.ireturn, 1) := by decide +kernel
set_option maxRecDepth 100000 in
set_option maxHeartbeats 4000000 in
theorem kX6_clear (l : Launch) (D : va_G) (ad : Nat → Nat) (cI cJ : ClassId) (tP tR : Nat) (M : Mem) (a1 : Int32)  (o : (Int32 × Mem)) (h : fX6_clear M a1 = some o) : qMet l D cI cJ tP tR (yA ad) (yW ad cI cJ) yX6_clear cX6_clear 3 (some .int) rX6_clear [.ref (ad 0), .int a1] M (qQi D (yA ad) (yW ad cI cJ) o.1 o.2) := by
  refine rs_enterI (own := RX6) ⟨by decide +kernel, rfl, Nat.le_of_ble_eq_true rfl⟩ ?_
  intro p e s m args below meth c Q C hret H locs ls hP hS hl
  obtain ⟨hx, hb, -⟩ := id C
  have hl : lv_has ls 3 [(0, .ref (ad 0)), (1, .int a1)] := hl
  unfold fX6_clear at h
  refine lv_iload_n hx hb dX6_clear_0 rfl (lv_at hl 1 rfl) ?_
  obtain ⟨v1, h1, h⟩ := rs_bind h
  refine rs_goI (rs_runS (As := [.int a1]) (rest := []) C hP hS (kX6_isEquation l D ad cI cJ tP tR M a1 _ h1) mk_X6_isEquation wd_590 rfl ⟨rfl, rfl, Nat.le_of_ble_eq_true rfl, Nat.le_of_ble_eq_true rfl⟩ rfl hl.1 (Nat.le_of_ble_eq_true rfl) dX6_clear_1) hS (fun H locs hP hS => ?_)
  refine lv_if_ne (tgt := 9) hx hb dX6_clear_4 (by decide) (fun cd => ?_) (fun cd => ?_)
  · have h := (if_neg cd).symm.trans h
    refine lv_aload_n hx hb dX6_clear_9 rfl (lv_at hl 0 rfl) ?_
    refine gfX6_22 C hP dX6_clear_10 ?_
    refine lv_iload_n hx hb dX6_clear_13 rfl (lv_at hl 1 rfl) ?_
    refine rs_iald C hP yIA_5 dX6_clear_14 h (fun v2 h => ?_)
    refine lv_istore_n (lv' := [(2, .int v2), (0, .ref (ad 0)), (1, .int a1)]) hx hb dX6_clear_15 rfl hl (by decide) rfl (fun ls hl => ?_)
    refine lv_aload_n hx hb dX6_clear_16 rfl (lv_at hl 1 rfl) ?_
    refine gfX6_22 C hP dX6_clear_17 ?_
    refine lv_iload_n hx hb dX6_clear_20 rfl (lv_at hl 2 rfl) ?_
    refine lv_iconst (v := (0 : Int32)) hx hb dX6_clear_21 (by decide) ?_
    refine rs_iast C hP hS yIA_5 dX6_clear_22 h (fun M3 h H locs hP hS => ?_)
    refine lv_iload_n hx hb dX6_clear_23 rfl (lv_at hl 0 rfl) ?_
    cases h
    exact hret H locs _ ls hP hS dX6_clear_24
  · have h := (if_pos cd).symm.trans h
    refine lv_iconst (v := (-1 : Int32)) hx hb dX6_clear_7 (by decide) ?_
    cases h
    exact hret H locs _ ls hP hS dX6_clear_8
abbrev rX6_isThere : Room := { frames := 0, cells := 0, slots := 0, locals := 0 }
theorem dX6_isThere_0 : decode cX6_isThere 0 = .ok (.iload_n 1, 1) := by decide +kernel
theorem dX6_isThere_1 : decode cX6_isThere 1 = .ok (.iconst 2, 1) := by decide +kernel
theorem dX6_isThere_2 : decode cX6_isThere 2 = .ok (.if_icmp .ne 29, 3) := by decide +kernel
theorem dX6_isThere_5 : decode cX6_isThere 5 = .ok (.aload_n 0, 1) := by decide +kernel
theorem dX6_isThere_6 : decode cX6_isThere 6 = .ok (.getfield 22, 3) := by decide +kernel
theorem dX6_isThere_9 : decode cX6_isThere 9 = .ok (.iconst 0, 1) := by decide +kernel
theorem dX6_isThere_10 : decode cX6_isThere 10 = .ok (.iaload, 1) := by decide +kernel
theorem dX6_isThere_11 : decode cX6_isThere 11 = .ok (.ifCond .le 16, 3) := by decide +kernel
theorem dX6_isThere_14 : decode cX6_isThere 14 = .ok (.aload_n 0, 1) := by decide +kernel
theorem dX6_isThere_15 : decode cX6_isThere 15 = .ok (.getfield 22, 3) := by decide +kernel
theorem dX6_isThere_18 : decode cX6_isThere 18 = .ok (.iconst 1, 1) := by decide +kernel
theorem dX6_isThere_19 : decode cX6_isThere 19 = .ok (.iaload, 1) := by decide +kernel
theorem dX6_isThere_20 : decode cX6_isThere 20 = .ok (.ifCond .le 7, 3) := by decide +kernel
theorem dX6_isThere_23 : decode cX6_isThere 23 = .ok (.iconst 1, 1) := by decide +kernel
theorem dX6_isThere_24 : decode cX6_isThere 24 = .ok (.goto 21, 3) := by decide +kernel
theorem dX6_isThere_27 : decode cX6_isThere 27 = .ok (.iconst 0, 1) := by decide +kernel
theorem dX6_isThere_28 : decode cX6_isThere 28 = .ok (.goto 17, 3) := by decide +kernel
theorem dX6_isThere_31 : decode cX6_isThere 31 = .ok (.aload_n 0, 1) := by decide +kernel
theorem dX6_isThere_32 : decode cX6_isThere 32 = .ok (.getfield 22, 3) := by decide +kernel
theorem dX6_isThere_35 : decode cX6_isThere 35 = .ok (.iload_n 1, 1) := by decide +kernel
theorem dX6_isThere_36 : decode cX6_isThere 36 = .ok (.iaload, 1) := by decide +kernel
theorem dX6_isThere_37 : decode cX6_isThere 37 = .ok (.ifCond .le 7, 3) := by decide +kernel
theorem dX6_isThere_40 : decode cX6_isThere 40 = .ok (.iconst 1, 1) := by decide +kernel
theorem dX6_isThere_41 : decode cX6_isThere 41 = .ok (.goto 4, 3) := by decide +kernel
theorem dX6_isThere_44 : decode cX6_isThere 44 = .ok (.iconst 0, 1) := by decide +kernel
theorem dX6_isThere_45 : decode cX6_isThere 45 = .ok (.ireturn, 1) := by decide +kernel
set_option maxRecDepth 100000 in
set_option maxHeartbeats 4000000 in
theorem kX6_isThere (l : Launch) (D : va_G) (ad : Nat → Nat) (cI cJ : ClassId) (tP tR : Nat) (M : Mem) (a1 : Int32)  (o : Int32) (h : fX6_isThere M a1 = some o) : qMet l D cI cJ tP tR (yA ad) (yW ad cI cJ) yX6_isThere cX6_isThere 2 (some .boolean) rX6_isThere [.ref (ad 0), .int a1] M (qQi D (yA ad) (yW ad cI cJ) o M) := by
  refine rs_enterZ (own := RX6) ⟨by decide +kernel, rfl, Nat.le_of_ble_eq_true rfl⟩ ?_
  intro p e s m args below meth c Q C hret H locs ls hP hS hl
  obtain ⟨hx, hb, -⟩ := id C
  have hl : lv_has ls 2 [(0, .ref (ad 0)), (1, .int a1)] := hl
  unfold fX6_isThere at h
  refine lv_iload_n hx hb dX6_isThere_0 rfl (lv_at hl 1 rfl) ?_
  refine lv_iconst (v := (2 : Int32)) hx hb dX6_isThere_1 (by decide) ?_
  refine lv_icmp_ne (tgt := 31) hx hb dX6_isThere_2 (by decide) (fun cd => ?_) (fun cd => ?_)
  · have h := (if_neg cd).symm.trans h
    refine lv_aload_n hx hb dX6_isThere_31 rfl (lv_at hl 0 rfl) ?_
    refine gfX6_22 C hP dX6_isThere_32 ?_
    refine lv_iload_n hx hb dX6_isThere_35 rfl (lv_at hl 1 rfl) ?_
    refine rs_iald C hP yIA_5 dX6_isThere_36 h (fun v1 h => ?_)
    refine lv_if_le (tgt := 44) hx hb dX6_isThere_37 (by decide) (fun cd => ?_) (fun cd => ?_)
    · have h := (if_pos cd).symm.trans h
      refine lv_iconst (v := (0 : Int32)) hx hb dX6_isThere_44 (by decide) ?_
      obtain ⟨rfl, hz⟩ := rs_okZ h
      exact hret H locs _ ls hz hP hS dX6_isThere_45
    · have h := (if_neg cd).symm.trans h
      refine lv_iconst (v := (1 : Int32)) hx hb dX6_isThere_40 (by decide) ?_
      refine lv_goto (tgt := 45) hx hb dX6_isThere_41 (by decide) ?_
      obtain ⟨rfl, hz⟩ := rs_okZ h
      exact hret H locs _ ls hz hP hS dX6_isThere_45
  · have h := (if_pos cd).symm.trans h
    refine lv_aload_n hx hb dX6_isThere_5 rfl (lv_at hl 0 rfl) ?_
    refine gfX6_22 C hP dX6_isThere_6 ?_
    refine lv_iconst (v := (0 : Int32)) hx hb dX6_isThere_9 (by decide) ?_
    refine rs_iald C hP yIA_5 dX6_isThere_10 h (fun v2 h => ?_)
    refine lv_if_le (tgt := 27) hx hb dX6_isThere_11 (by decide) (fun cd => ?_) (fun cd => ?_)
    · have h := (if_pos cd).symm.trans h
      refine lv_iconst (v := (0 : Int32)) hx hb dX6_isThere_27 (by decide) ?_
      refine lv_goto (tgt := 45) hx hb dX6_isThere_28 (by decide) ?_
      obtain ⟨rfl, hz⟩ := rs_okZ h
      exact hret H locs _ ls hz hP hS dX6_isThere_45
    · have h := (if_neg cd).symm.trans h
      refine lv_aload_n hx hb dX6_isThere_14 rfl (lv_at hl 0 rfl) ?_
      refine gfX6_22 C hP dX6_isThere_15 ?_
      refine lv_iconst (v := (1 : Int32)) hx hb dX6_isThere_18 (by decide) ?_
      refine rs_iald C hP yIA_5 dX6_isThere_19 h (fun v3 h => ?_)
      refine lv_if_le (tgt := 27) hx hb dX6_isThere_20 (by decide) (fun cd => ?_) (fun cd => ?_)
      · have h := (if_pos cd).symm.trans h
        refine lv_iconst (v := (0 : Int32)) hx hb dX6_isThere_27 (by decide) ?_
        refine lv_goto (tgt := 45) hx hb dX6_isThere_28 (by decide) ?_
        obtain ⟨rfl, hz⟩ := rs_okZ h
        exact hret H locs _ ls hz hP hS dX6_isThere_45
      · have h := (if_neg cd).symm.trans h
        refine lv_iconst (v := (1 : Int32)) hx hb dX6_isThere_23 (by decide) ?_
        refine lv_goto (tgt := 45) hx hb dX6_isThere_24 (by decide) ?_
        obtain ⟨rfl, hz⟩ := rs_okZ h
        exact hret H locs _ ls hz hP hS dX6_isThere_45
abbrev rX6_gather : Room := { frames := 0, cells := 0, slots := 0, locals := 0 }
theorem dX6_gather_0 : decode cX6_gather 0 = .ok (.aload_n 0, 1) := by decide +kernel
theorem dX6_gather_1 : decode cX6_gather 1 = .ok (.iconst 0, 1) := by decide +kernel
theorem dX6_gather_2 : decode cX6_gather 2 = .ok (.putfield 66, 3) := by decide +kernel
theorem dX6_gather_5 : decode cX6_gather 5 = .ok (.iload_n 1, 1) := by decide +kernel
theorem dX6_gather_6 : decode cX6_gather 6 = .ok (.iconst 2, 1) := by decide +kernel
theorem dX6_gather_7 : decode cX6_gather 7 = .ok (.if_icmp .ge 70, 3) := by decide +kernel
theorem dX6_gather_10 : decode cX6_gather 10 = .ok (.bipush 8, 2) := by decide +kernel
theorem dX6_gather_12 : decode cX6_gather 12 = .ok (.iload_n 1, 1) := by decide +kernel
theorem dX6_gather_13 : decode cX6_gather 13 = .ok (.imul, 1) := by decide +kernel
theorem dX6_gather_14 : decode cX6_gather 14 = .ok (.istore_n 2, 1) := by decide +kernel
theorem dX6_gather_15 : decode cX6_gather 15 = .ok (.iload_n 2, 1) := by decide +kernel
theorem dX6_gather_16 : decode cX6_gather 16 = .ok (.bipush 8, 2) := by decide +kernel
theorem dX6_gather_18 : decode cX6_gather 18 = .ok (.iload_n 1, 1) := by decide +kernel
theorem dX6_gather_19 : decode cX6_gather 19 = .ok (.imul, 1) := by decide +kernel
theorem dX6_gather_20 : decode cX6_gather 20 = .ok (.aload_n 0, 1) := by decide +kernel
theorem dX6_gather_21 : decode cX6_gather 21 = .ok (.getfield 22, 3) := by decide +kernel
theorem dX6_gather_24 : decode cX6_gather 24 = .ok (.iload_n 1, 1) := by decide +kernel
theorem dX6_gather_25 : decode cX6_gather 25 = .ok (.iaload, 1) := by decide +kernel
theorem dX6_gather_26 : decode cX6_gather 26 = .ok (.iadd, 1) := by decide +kernel
theorem dX6_gather_27 : decode cX6_gather 27 = .ok (.if_icmp .ge 49, 3) := by decide +kernel
theorem dX6_gather_30 : decode cX6_gather 30 = .ok (.aload_n 0, 1) := by decide +kernel
theorem dX6_gather_31 : decode cX6_gather 31 = .ok (.getfield 25, 3) := by decide +kernel
theorem dX6_gather_34 : decode cX6_gather 34 = .ok (.aload_n 0, 1) := by decide +kernel
theorem dX6_gather_35 : decode cX6_gather 35 = .ok (.getfield 66, 3) := by decide +kernel
theorem dX6_gather_38 : decode cX6_gather 38 = .ok (.aload_n 0, 1) := by decide +kernel
theorem dX6_gather_39 : decode cX6_gather 39 = .ok (.getfield 7, 3) := by decide +kernel
theorem dX6_gather_42 : decode cX6_gather 42 = .ok (.iload_n 2, 1) := by decide +kernel
theorem dX6_gather_43 : decode cX6_gather 43 = .ok (.iaload, 1) := by decide +kernel
theorem dX6_gather_44 : decode cX6_gather 44 = .ok (.iastore, 1) := by decide +kernel
theorem dX6_gather_45 : decode cX6_gather 45 = .ok (.aload_n 0, 1) := by decide +kernel
theorem dX6_gather_46 : decode cX6_gather 46 = .ok (.getfield 28, 3) := by decide +kernel
theorem dX6_gather_49 : decode cX6_gather 49 = .ok (.aload_n 0, 1) := by decide +kernel
theorem dX6_gather_50 : decode cX6_gather 50 = .ok (.getfield 66, 3) := by decide +kernel
theorem dX6_gather_53 : decode cX6_gather 53 = .ok (.aload_n 0, 1) := by decide +kernel
theorem dX6_gather_54 : decode cX6_gather 54 = .ok (.getfield 13, 3) := by decide +kernel
theorem dX6_gather_57 : decode cX6_gather 57 = .ok (.iload_n 2, 1) := by decide +kernel
theorem dX6_gather_58 : decode cX6_gather 58 = .ok (.iaload, 1) := by decide +kernel
theorem dX6_gather_59 : decode cX6_gather 59 = .ok (.iastore, 1) := by decide +kernel
theorem dX6_gather_60 : decode cX6_gather 60 = .ok (.aload_n 0, 1) := by decide +kernel
theorem dX6_gather_61 : decode cX6_gather 61 = .ok (.dup, 1) := by decide +kernel
theorem dX6_gather_62 : decode cX6_gather 62 = .ok (.getfield 66, 3) := by decide +kernel
theorem dX6_gather_65 : decode cX6_gather 65 = .ok (.iconst 1, 1) := by decide +kernel
theorem dX6_gather_66 : decode cX6_gather 66 = .ok (.iadd, 1) := by decide +kernel
theorem dX6_gather_67 : decode cX6_gather 67 = .ok (.putfield 66, 3) := by decide +kernel
theorem dX6_gather_70 : decode cX6_gather 70 = .ok (.iinc 2 1, 3) := by decide +kernel
theorem dX6_gather_73 : decode cX6_gather 73 = .ok (.goto (-58), 3) := by decide +kernel
theorem dX6_gather_76 : decode cX6_gather 76 = .ok (.return_, 1) := by decide +kernel
theorem dX6_gather_77 : decode cX6_gather 77 = .ok (.iconst 0, 1) := by decide +kernel
theorem dX6_gather_78 : decode cX6_gather 78 = .ok (.istore_n 2, 1) := by decide +kernel
theorem dX6_gather_79 : decode cX6_gather 79 = .ok (.iload_n 2, 1) := by decide +kernel
theorem dX6_gather_80 : decode cX6_gather 80 = .ok (.aload_n 0, 1) := by decide +kernel
theorem dX6_gather_81 : decode cX6_gather 81 = .ok (.getfield 22, 3) := by decide +kernel
theorem dX6_gather_84 : decode cX6_gather 84 = .ok (.iconst 0, 1) := by decide +kernel
theorem dX6_gather_85 : decode cX6_gather 85 = .ok (.iaload, 1) := by decide +kernel
theorem dX6_gather_86 : decode cX6_gather 86 = .ok (.if_icmp .ge 85, 3) := by decide +kernel
theorem dX6_gather_89 : decode cX6_gather 89 = .ok (.bipush 8, 2) := by decide +kernel
theorem dX6_gather_91 : decode cX6_gather 91 = .ok (.istore_n 3, 1) := by decide +kernel
theorem dX6_gather_92 : decode cX6_gather 92 = .ok (.iload_n 3, 1) := by decide +kernel
theorem dX6_gather_93 : decode cX6_gather 93 = .ok (.bipush 8, 2) := by decide +kernel
theorem dX6_gather_95 : decode cX6_gather 95 = .ok (.aload_n 0, 1) := by decide +kernel
theorem dX6_gather_96 : decode cX6_gather 96 = .ok (.getfield 22, 3) := by decide +kernel
theorem dX6_gather_99 : decode cX6_gather 99 = .ok (.iconst 1, 1) := by decide +kernel
theorem dX6_gather_100 : decode cX6_gather 100 = .ok (.iaload, 1) := by decide +kernel
theorem dX6_gather_101 : decode cX6_gather 101 = .ok (.iadd, 1) := by decide +kernel
theorem dX6_gather_102 : decode cX6_gather 102 = .ok (.if_icmp .ge 63, 3) := by decide +kernel
theorem dX6_gather_105 : decode cX6_gather 105 = .ok (.aload_n 0, 1) := by decide +kernel
theorem dX6_gather_106 : decode cX6_gather 106 = .ok (.getfield 25, 3) := by decide +kernel
theorem dX6_gather_109 : decode cX6_gather 109 = .ok (.aload_n 0, 1) := by decide +kernel
theorem dX6_gather_110 : decode cX6_gather 110 = .ok (.getfield 66, 3) := by decide +kernel
theorem dX6_gather_113 : decode cX6_gather 113 = .ok (.aload_n 0, 1) := by decide +kernel
theorem dX6_gather_114 : decode cX6_gather 114 = .ok (.getfield 7, 3) := by decide +kernel
theorem dX6_gather_117 : decode cX6_gather 117 = .ok (.iload_n 2, 1) := by decide +kernel
theorem dX6_gather_118 : decode cX6_gather 118 = .ok (.iaload, 1) := by decide +kernel
theorem dX6_gather_119 : decode cX6_gather 119 = .ok (.aload_n 0, 1) := by decide +kernel
theorem dX6_gather_120 : decode cX6_gather 120 = .ok (.getfield 7, 3) := by decide +kernel
theorem dX6_gather_123 : decode cX6_gather 123 = .ok (.iload_n 3, 1) := by decide +kernel
theorem dX6_gather_124 : decode cX6_gather 124 = .ok (.iaload, 1) := by decide +kernel
theorem dX6_gather_125 : decode cX6_gather 125 = .ok (.iadd, 1) := by decide +kernel
theorem dX6_gather_126 : decode cX6_gather 126 = .ok (.iastore, 1) := by decide +kernel
theorem dX6_gather_127 : decode cX6_gather 127 = .ok (.aload_n 0, 1) := by decide +kernel
theorem dX6_gather_128 : decode cX6_gather 128 = .ok (.getfield 28, 3) := by decide +kernel
theorem dX6_gather_131 : decode cX6_gather 131 = .ok (.aload_n 0, 1) := by decide +kernel
theorem dX6_gather_132 : decode cX6_gather 132 = .ok (.getfield 66, 3) := by decide +kernel
theorem dX6_gather_135 : decode cX6_gather 135 = .ok (.aload_n 0, 1) := by decide +kernel
theorem dX6_gather_136 : decode cX6_gather 136 = .ok (.getfield 13, 3) := by decide +kernel
theorem dX6_gather_139 : decode cX6_gather 139 = .ok (.iload_n 2, 1) := by decide +kernel
theorem dX6_gather_140 : decode cX6_gather 140 = .ok (.iaload, 1) := by decide +kernel
theorem dX6_gather_141 : decode cX6_gather 141 = .ok (.aload_n 0, 1) := by decide +kernel
theorem dX6_gather_142 : decode cX6_gather 142 = .ok (.getfield 13, 3) := by decide +kernel
theorem dX6_gather_145 : decode cX6_gather 145 = .ok (.iload_n 3, 1) := by decide +kernel
theorem dX6_gather_146 : decode cX6_gather 146 = .ok (.iaload, 1) := by decide +kernel
theorem dX6_gather_147 : decode cX6_gather 147 = .ok (.iadd, 1) := by decide +kernel
theorem dX6_gather_148 : decode cX6_gather 148 = .ok (.iastore, 1) := by decide +kernel
theorem dX6_gather_149 : decode cX6_gather 149 = .ok (.aload_n 0, 1) := by decide +kernel
theorem dX6_gather_150 : decode cX6_gather 150 = .ok (.dup, 1) := by decide +kernel
theorem dX6_gather_151 : decode cX6_gather 151 = .ok (.getfield 66, 3) := by decide +kernel
theorem dX6_gather_154 : decode cX6_gather 154 = .ok (.iconst 1, 1) := by decide +kernel
theorem dX6_gather_155 : decode cX6_gather 155 = .ok (.iadd, 1) := by decide +kernel
theorem dX6_gather_156 : decode cX6_gather 156 = .ok (.putfield 66, 3) := by decide +kernel
theorem dX6_gather_159 : decode cX6_gather 159 = .ok (.iinc 3 1, 3) := by decide +kernel
theorem dX6_gather_162 : decode cX6_gather 162 = .ok (.goto (-70), 3) := by decide +kernel
theorem dX6_gather_165 : decode cX6_gather 165 = .ok (.iinc 2 1, 3) := by decide +kernel
theorem dX6_gather_168 : decode cX6_gather 168 = .ok (.goto (-89), 3) := by decide +kernel
theorem dX6_gather_171 : decode cX6_gather 171 = .ok (.return_, 1) := by decide +kernel
set_option maxRecDepth 100000 in
set_option maxHeartbeats 4000000 in
theorem kX6_gather (l : Launch) (D : va_G) (ad : Nat → Nat) (cI cJ : ClassId) (tP tR : Nat) (N : Nat) (M : Mem) (a1 : Int32)  (o : Mem) (h : fX6_gather N M a1 = some o) : qMet l D cI cJ tP tR (yA ad) (yW ad cI cJ) yX6_gather cX6_gather 4 none rX6_gather [.ref (ad 0), .int a1] M (qQv D (yA ad) (yW ad cI cJ) o) := by
  refine rs_enterV (own := RX6) ⟨by decide +kernel, rfl, Nat.le_of_ble_eq_true rfl⟩ ?_
  intro p e s m args below meth c Q C hret H locs ls hP hS hl
  obtain ⟨hx, hb, -⟩ := id C
  have hl : lv_has ls 4 [(0, .ref (ad 0)), (1, .int a1)] := hl
  unfold fX6_gather at h
  refine lv_aload_n hx hb dX6_gather_0 rfl (lv_at hl 0 rfl) ?_
  refine lv_iconst (v := (0 : Int32)) hx hb dX6_gather_1 (by decide) ?_
  refine pfX6_66 C hP hS dX6_gather_2 h (fun M1 h H locs hP hS => ?_)
  refine lv_iload_n hx hb dX6_gather_5 rfl (lv_at hl 1 rfl) ?_
  refine lv_iconst (v := (2 : Int32)) hx hb dX6_gather_6 (by decide) ?_
  refine lv_icmp_ge (tgt := 77) hx hb dX6_gather_7 (by decide) (fun cd => ?_) (fun cd => ?_)
  · have h := (if_pos cd).symm.trans h
    refine lv_iconst (v := (0 : Int32)) hx hb dX6_gather_77 (by decide) ?_
    refine lv_istore_n (lv' := [(2, .int (0 : Int32)), (0, .ref (ad 0)), (1, .int a1)]) hx hb dX6_gather_78 rfl hl (by decide) rfl (fun ls hl => ?_)
    have hL79 : ∀ (n79 : Nat) (v2 : Int32) (M3 : Mem) (H : Heap) (locs : List Loc) (ls : Array Slot), va_P D vwCl (yW ad cI cJ M3) H → va_S (yA ad) s.heap H locs → lv_has ls 4 [(0, .ref (ad 0)), (2, .int v2)] → lp (fun _ _ => none) (sX6_gather_79 N) n79 v2 M3 = some o → W p l e rX6_gather s m args below meth c H locs 0 0 Q (F0 m 79 ls []) := by
      intro n79
      induction n79 with
      | zero => intro v2 M3 H locs ls hP hS hl h; have h : (none : Option Mem) = some o := h; cases h
      | succ n79 ih79 =>
        intro v2 M3 H locs ls hP hS hl h
        have h : sX6_gather_79 N (lp (fun _ _ => none) (sX6_gather_79 N) n79) v2 M3 = some o := h
        generalize lp (fun _ _ => none) (sX6_gather_79 N) n79 = cont79 at h ih79
        unfold sX6_gather_79 at h
        refine lv_iload_n hx hb dX6_gather_79 rfl (lv_at hl 1 rfl) ?_
        refine lv_aload_n hx hb dX6_gather_80 rfl (lv_at hl 0 rfl) ?_
        refine gfX6_22 C hP dX6_gather_81 ?_
        refine lv_iconst (v := (0 : Int32)) hx hb dX6_gather_84 (by decide) ?_
        refine rs_iald C hP yIA_5 dX6_gather_85 h (fun v4 h => ?_)
        refine lv_icmp_ge (tgt := 171) hx hb dX6_gather_86 (by decide) (fun cd => ?_) (fun cd => ?_)
        · have h := (if_pos cd).symm.trans h
          cases h
          exact hret H locs _ ls hP hS dX6_gather_171
        · have h := (if_neg cd).symm.trans h
          refine lv_bipush (v := (8 : Int32)) hx hb dX6_gather_89 (by decide) ?_
          refine lv_istore_n (lv' := [(3, .int (8 : Int32)), (0, .ref (ad 0)), (2, .int v2)]) hx hb dX6_gather_91 rfl hl (by decide) rfl (fun ls hl => ?_)
          obtain ⟨M5, h1, h⟩ := rs_bind h
          have hJ6 : ∀ (H : Heap) (locs : List Loc) (ls : Array Slot), va_P D vwCl (yW ad cI cJ M5) H → va_S (yA ad) s.heap H locs → lv_has ls 4 [(0, .ref (ad 0)), (2, .int v2)] → W p l e rX6_gather s m args below meth c H locs 0 0 Q (F0 m 165 ls []) := by
            intro H locs ls hP hS hl
            refine lv_iinc (v := (v2 + 1)) (lv' := [(2, .int (v2 + 1)), (0, .ref (ad 0))]) hx hb dX6_gather_165 hl (k := 1) rfl rfl (by decide) rfl (fun ls hl => ?_)
            refine lv_goto (tgt := 79) hx hb dX6_gather_168 (by decide) ?_
            exact ih79 _ _ H locs ls hP hS (lv_sub hl [1, 0] rfl) h
          replace h := h1
          clear h1
          have hL92 : ∀ (n92 : Nat) (v7 : Int32) (M8 : Mem) (H : Heap) (locs : List Loc) (ls : Array Slot), va_P D vwCl (yW ad cI cJ M8) H → va_S (yA ad) s.heap H locs → lv_has ls 4 [(0, .ref (ad 0)), (2, .int v2), (3, .int v7)] → lp (fun _ _ => none) (sX6_gather_92 v2) n92 v7 M8 = some M5 → W p l e rX6_gather s m args below meth c H locs 0 0 Q (F0 m 92 ls []) := by
            intro n92
            induction n92 with
            | zero => intro v7 M8 H locs ls hP hS hl h; have h : (none : Option Mem) = some M5 := h; cases h
            | succ n92 ih92 =>
              intro v7 M8 H locs ls hP hS hl h
              have h : sX6_gather_92 v2 (lp (fun _ _ => none) (sX6_gather_92 v2) n92) v7 M8 = some M5 := h
              generalize lp (fun _ _ => none) (sX6_gather_92 v2) n92 = cont92 at h ih92
              unfold sX6_gather_92 at h
              refine lv_iload_n hx hb dX6_gather_92 rfl (lv_at hl 2 rfl) ?_
              refine lv_bipush (v := (8 : Int32)) hx hb dX6_gather_93 (by decide) ?_
              refine lv_aload_n hx hb dX6_gather_95 rfl (lv_at hl 0 rfl) ?_
              refine gfX6_22 C hP dX6_gather_96 ?_
              refine lv_iconst (v := (1 : Int32)) hx hb dX6_gather_99 (by decide) ?_
              refine rs_iald C hP yIA_5 dX6_gather_100 h (fun v9 h => ?_)
              refine lv_iadd hx hb dX6_gather_101 ?_
              refine lv_icmp_ge (tgt := 165) hx hb dX6_gather_102 (by decide) (fun cd => ?_) (fun cd => ?_)
              · have h := (if_pos cd).symm.trans h
                cases h
                exact hJ6 H locs ls hP hS (lv_sub hl [0, 1] rfl)
              · have h := (if_neg cd).symm.trans h
                refine lv_aload_n hx hb dX6_gather_105 rfl (lv_at hl 0 rfl) ?_
                refine gfX6_25 C hP dX6_gather_106 ?_
                refine lv_aload_n hx hb dX6_gather_109 rfl (lv_at hl 0 rfl) ?_
                refine gfX6_66 C hP dX6_gather_110 ?_
                refine lv_aload_n hx hb dX6_gather_113 rfl (lv_at hl 0 rfl) ?_
                refine gfX6_7 C hP dX6_gather_114 ?_
                refine lv_iload_n hx hb dX6_gather_117 rfl (lv_at hl 1 rfl) ?_
                refine rs_iald C hP yIA_1 dX6_gather_118 h (fun v10 h => ?_)
                refine lv_aload_n hx hb dX6_gather_119 rfl (lv_at hl 0 rfl) ?_
                refine gfX6_7 C hP dX6_gather_120 ?_
                refine lv_iload_n hx hb dX6_gather_123 rfl (lv_at hl 2 rfl) ?_
                refine rs_iald C hP yIA_1 dX6_gather_124 h (fun v11 h => ?_)
                refine lv_iadd hx hb dX6_gather_125 ?_
                refine rs_iast C hP hS yIA_6 dX6_gather_126 h (fun M12 h H locs hP hS => ?_)
                refine lv_aload_n hx hb dX6_gather_127 rfl (lv_at hl 0 rfl) ?_
                refine gfX6_28 C hP dX6_gather_128 ?_
                refine lv_aload_n hx hb dX6_gather_131 rfl (lv_at hl 0 rfl) ?_
                refine gfX6_66 C hP dX6_gather_132 ?_
                refine lv_aload_n hx hb dX6_gather_135 rfl (lv_at hl 0 rfl) ?_
                refine gfX6_13 C hP dX6_gather_136 ?_
                refine lv_iload_n hx hb dX6_gather_139 rfl (lv_at hl 1 rfl) ?_
                refine rs_iald C hP yIA_2 dX6_gather_140 h (fun v13 h => ?_)
                refine lv_aload_n hx hb dX6_gather_141 rfl (lv_at hl 0 rfl) ?_
                refine gfX6_13 C hP dX6_gather_142 ?_
                refine lv_iload_n hx hb dX6_gather_145 rfl (lv_at hl 2 rfl) ?_
                refine rs_iald C hP yIA_2 dX6_gather_146 h (fun v14 h => ?_)
                refine lv_iadd hx hb dX6_gather_147 ?_
                refine rs_iast C hP hS yIA_7 dX6_gather_148 h (fun M15 h H locs hP hS => ?_)
                refine lv_aload_n hx hb dX6_gather_149 rfl (lv_at hl 0 rfl) ?_
                refine lv_dup hx hb dX6_gather_150 rfl ?_
                refine gfX6_66 C hP dX6_gather_151 ?_
                refine lv_iconst (v := (1 : Int32)) hx hb dX6_gather_154 (by decide) ?_
                refine lv_iadd hx hb dX6_gather_155 ?_
                refine pfX6_66 C hP hS dX6_gather_156 h (fun M16 h H locs hP hS => ?_)
                refine lv_iinc (v := (v7 + 1)) (lv' := [(3, .int (v7 + 1)), (0, .ref (ad 0)), (2, .int v2)]) hx hb dX6_gather_159 hl (k := 2) rfl rfl (by decide) rfl (fun ls hl => ?_)
                refine lv_goto (tgt := 92) hx hb dX6_gather_162 (by decide) ?_
                exact ih92 _ _ H locs ls hP hS (lv_sub hl [1, 2, 0] rfl) h
          exact hL92 N _ _ H locs ls hP hS (lv_sub hl [1, 2, 0] rfl) h
    exact hL79 N _ _ H locs ls hP hS (lv_sub hl [1, 0] rfl) h
  · have h := (if_neg cd).symm.trans h
    refine lv_bipush (v := (8 : Int32)) hx hb dX6_gather_10 (by decide) ?_
    refine lv_iload_n hx hb dX6_gather_12 rfl (lv_at hl 1 rfl) ?_
    refine lv_imul hx hb dX6_gather_13 ?_
    refine lv_istore_n (lv' := [(2, .int ((8 : Int32) * a1)), (0, .ref (ad 0)), (1, .int a1)]) hx hb dX6_gather_14 rfl hl (by decide) rfl (fun ls hl => ?_)
    have hL15 : ∀ (n15 : Nat) (v17 : Int32) (M18 : Mem) (H : Heap) (locs : List Loc) (ls : Array Slot), va_P D vwCl (yW ad cI cJ M18) H → va_S (yA ad) s.heap H locs → lv_has ls 4 [(0, .ref (ad 0)), (1, .int a1), (2, .int v17)] → lp (fun _ _ => none) (sX6_gather_15 a1) n15 v17 M18 = some o → W p l e rX6_gather s m args below meth c H locs 0 0 Q (F0 m 15 ls []) := by
      intro n15
      induction n15 with
      | zero => intro v17 M18 H locs ls hP hS hl h; have h : (none : Option Mem) = some o := h; cases h
      | succ n15 ih15 =>
        intro v17 M18 H locs ls hP hS hl h
        have h : sX6_gather_15 a1 (lp (fun _ _ => none) (sX6_gather_15 a1) n15) v17 M18 = some o := h
        generalize lp (fun _ _ => none) (sX6_gather_15 a1) n15 = cont15 at h ih15
        unfold sX6_gather_15 at h
        refine lv_iload_n hx hb dX6_gather_15 rfl (lv_at hl 2 rfl) ?_
        refine lv_bipush (v := (8 : Int32)) hx hb dX6_gather_16 (by decide) ?_
        refine lv_iload_n hx hb dX6_gather_18 rfl (lv_at hl 1 rfl) ?_
        refine lv_imul hx hb dX6_gather_19 ?_
        refine lv_aload_n hx hb dX6_gather_20 rfl (lv_at hl 0 rfl) ?_
        refine gfX6_22 C hP dX6_gather_21 ?_
        refine lv_iload_n hx hb dX6_gather_24 rfl (lv_at hl 1 rfl) ?_
        refine rs_iald C hP yIA_5 dX6_gather_25 h (fun v19 h => ?_)
        refine lv_iadd hx hb dX6_gather_26 ?_
        refine lv_icmp_ge (tgt := 76) hx hb dX6_gather_27 (by decide) (fun cd => ?_) (fun cd => ?_)
        · have h := (if_pos cd).symm.trans h
          cases h
          exact hret H locs _ ls hP hS dX6_gather_76
        · have h := (if_neg cd).symm.trans h
          refine lv_aload_n hx hb dX6_gather_30 rfl (lv_at hl 0 rfl) ?_
          refine gfX6_25 C hP dX6_gather_31 ?_
          refine lv_aload_n hx hb dX6_gather_34 rfl (lv_at hl 0 rfl) ?_
          refine gfX6_66 C hP dX6_gather_35 ?_
          refine lv_aload_n hx hb dX6_gather_38 rfl (lv_at hl 0 rfl) ?_
          refine gfX6_7 C hP dX6_gather_39 ?_
          refine lv_iload_n hx hb dX6_gather_42 rfl (lv_at hl 2 rfl) ?_
          refine rs_iald C hP yIA_1 dX6_gather_43 h (fun v20 h => ?_)
          refine rs_iast C hP hS yIA_6 dX6_gather_44 h (fun M21 h H locs hP hS => ?_)
          refine lv_aload_n hx hb dX6_gather_45 rfl (lv_at hl 0 rfl) ?_
          refine gfX6_28 C hP dX6_gather_46 ?_
          refine lv_aload_n hx hb dX6_gather_49 rfl (lv_at hl 0 rfl) ?_
          refine gfX6_66 C hP dX6_gather_50 ?_
          refine lv_aload_n hx hb dX6_gather_53 rfl (lv_at hl 0 rfl) ?_
          refine gfX6_13 C hP dX6_gather_54 ?_
          refine lv_iload_n hx hb dX6_gather_57 rfl (lv_at hl 2 rfl) ?_
          refine rs_iald C hP yIA_2 dX6_gather_58 h (fun v22 h => ?_)
          refine rs_iast C hP hS yIA_7 dX6_gather_59 h (fun M23 h H locs hP hS => ?_)
          refine lv_aload_n hx hb dX6_gather_60 rfl (lv_at hl 0 rfl) ?_
          refine lv_dup hx hb dX6_gather_61 rfl ?_
          refine gfX6_66 C hP dX6_gather_62 ?_
          refine lv_iconst (v := (1 : Int32)) hx hb dX6_gather_65 (by decide) ?_
          refine lv_iadd hx hb dX6_gather_66 ?_
          refine pfX6_66 C hP hS dX6_gather_67 h (fun M24 h H locs hP hS => ?_)
          refine lv_iinc (v := (v17 + 1)) (lv' := [(2, .int (v17 + 1)), (0, .ref (ad 0)), (1, .int a1)]) hx hb dX6_gather_70 hl (k := 2) rfl rfl (by decide) rfl (fun ls hl => ?_)
          refine lv_goto (tgt := 15) hx hb dX6_gather_73 (by decide) ?_
          exact ih15 _ _ H locs ls hP hS (lv_sub hl [1, 2, 0] rfl) h
    exact hL15 N _ _ H locs ls hP hS (lv_sub hl [1, 2, 0] rfl) h
abbrev rX6_isOuter : Room := { frames := 0, cells := 0, slots := 0, locals := 0 }
theorem dX6_isOuter_0 : decode cX6_isOuter 0 = .ok (.aload_n 0, 1) := by decide +kernel
theorem dX6_isOuter_1 : decode cX6_isOuter 1 = .ok (.getfield 25, 3) := by decide +kernel
theorem dX6_isOuter_4 : decode cX6_isOuter 4 = .ok (.iload_n 2, 1) := by decide +kernel
theorem dX6_isOuter_5 : decode cX6_isOuter 5 = .ok (.iaload, 1) := by decide +kernel
theorem dX6_isOuter_6 : decode cX6_isOuter 6 = .ok (.aload_n 0, 1) := by decide +kernel
theorem dX6_isOuter_7 : decode cX6_isOuter 7 = .ok (.getfield 25, 3) := by decide +kernel
theorem dX6_isOuter_10 : decode cX6_isOuter 10 = .ok (.iload_n 1, 1) := by decide +kernel
theorem dX6_isOuter_11 : decode cX6_isOuter 11 = .ok (.iaload, 1) := by decide +kernel
theorem dX6_isOuter_12 : decode cX6_isOuter 12 = .ok (.isub, 1) := by decide +kernel
theorem dX6_isOuter_13 : decode cX6_isOuter 13 = .ok (.istore 4, 2) := by decide +kernel
theorem dX6_isOuter_15 : decode cX6_isOuter 15 = .ok (.aload_n 0, 1) := by decide +kernel
theorem dX6_isOuter_16 : decode cX6_isOuter 16 = .ok (.getfield 28, 3) := by decide +kernel
theorem dX6_isOuter_19 : decode cX6_isOuter 19 = .ok (.iload_n 2, 1) := by decide +kernel
theorem dX6_isOuter_20 : decode cX6_isOuter 20 = .ok (.iaload, 1) := by decide +kernel
theorem dX6_isOuter_21 : decode cX6_isOuter 21 = .ok (.aload_n 0, 1) := by decide +kernel
theorem dX6_isOuter_22 : decode cX6_isOuter 22 = .ok (.getfield 28, 3) := by decide +kernel
theorem dX6_isOuter_25 : decode cX6_isOuter 25 = .ok (.iload_n 1, 1) := by decide +kernel
theorem dX6_isOuter_26 : decode cX6_isOuter 26 = .ok (.iaload, 1) := by decide +kernel
theorem dX6_isOuter_27 : decode cX6_isOuter 27 = .ok (.isub, 1) := by decide +kernel
theorem dX6_isOuter_28 : decode cX6_isOuter 28 = .ok (.istore 5, 2) := by decide +kernel
theorem dX6_isOuter_30 : decode cX6_isOuter 30 = .ok (.aload_n 0, 1) := by decide +kernel
theorem dX6_isOuter_31 : decode cX6_isOuter 31 = .ok (.getfield 25, 3) := by decide +kernel
theorem dX6_isOuter_34 : decode cX6_isOuter 34 = .ok (.iload_n 3, 1) := by decide +kernel
theorem dX6_isOuter_35 : decode cX6_isOuter 35 = .ok (.iaload, 1) := by decide +kernel
theorem dX6_isOuter_36 : decode cX6_isOuter 36 = .ok (.aload_n 0, 1) := by decide +kernel
theorem dX6_isOuter_37 : decode cX6_isOuter 37 = .ok (.getfield 25, 3) := by decide +kernel
theorem dX6_isOuter_40 : decode cX6_isOuter 40 = .ok (.iload_n 1, 1) := by decide +kernel
theorem dX6_isOuter_41 : decode cX6_isOuter 41 = .ok (.iaload, 1) := by decide +kernel
theorem dX6_isOuter_42 : decode cX6_isOuter 42 = .ok (.isub, 1) := by decide +kernel
theorem dX6_isOuter_43 : decode cX6_isOuter 43 = .ok (.istore 6, 2) := by decide +kernel
theorem dX6_isOuter_45 : decode cX6_isOuter 45 = .ok (.aload_n 0, 1) := by decide +kernel
theorem dX6_isOuter_46 : decode cX6_isOuter 46 = .ok (.getfield 28, 3) := by decide +kernel
theorem dX6_isOuter_49 : decode cX6_isOuter 49 = .ok (.iload_n 3, 1) := by decide +kernel
theorem dX6_isOuter_50 : decode cX6_isOuter 50 = .ok (.iaload, 1) := by decide +kernel
theorem dX6_isOuter_51 : decode cX6_isOuter 51 = .ok (.aload_n 0, 1) := by decide +kernel
theorem dX6_isOuter_52 : decode cX6_isOuter 52 = .ok (.getfield 28, 3) := by decide +kernel
theorem dX6_isOuter_55 : decode cX6_isOuter 55 = .ok (.iload_n 1, 1) := by decide +kernel
theorem dX6_isOuter_56 : decode cX6_isOuter 56 = .ok (.iaload, 1) := by decide +kernel
theorem dX6_isOuter_57 : decode cX6_isOuter 57 = .ok (.isub, 1) := by decide +kernel
theorem dX6_isOuter_58 : decode cX6_isOuter 58 = .ok (.istore 7, 2) := by decide +kernel
theorem dX6_isOuter_60 : decode cX6_isOuter 60 = .ok (.iload 4, 2) := by decide +kernel
theorem dX6_isOuter_62 : decode cX6_isOuter 62 = .ok (.iload 7, 2) := by decide +kernel
theorem dX6_isOuter_64 : decode cX6_isOuter 64 = .ok (.imul, 1) := by decide +kernel
theorem dX6_isOuter_65 : decode cX6_isOuter 65 = .ok (.iload 5, 2) := by decide +kernel
theorem dX6_isOuter_67 : decode cX6_isOuter 67 = .ok (.iload 6, 2) := by decide +kernel
theorem dX6_isOuter_69 : decode cX6_isOuter 69 = .ok (.imul, 1) := by decide +kernel
theorem dX6_isOuter_70 : decode cX6_isOuter 70 = .ok (.isub, 1) := by decide +kernel
theorem dX6_isOuter_71 : decode cX6_isOuter 71 = .ok (.istore 8, 2) := by decide +kernel
theorem dX6_isOuter_73 : decode cX6_isOuter 73 = .ok (.iload 8, 2) := by decide +kernel
theorem dX6_isOuter_75 : decode cX6_isOuter 75 = .ok (.ifCond .gt 33, 3) := by decide +kernel
theorem dX6_isOuter_78 : decode cX6_isOuter 78 = .ok (.iload 8, 2) := by decide +kernel
theorem dX6_isOuter_80 : decode cX6_isOuter 80 = .ok (.ifCond .ne 32, 3) := by decide +kernel
theorem dX6_isOuter_83 : decode cX6_isOuter 83 = .ok (.iload 4, 2) := by decide +kernel
theorem dX6_isOuter_85 : decode cX6_isOuter 85 = .ok (.iload 4, 2) := by decide +kernel
theorem dX6_isOuter_87 : decode cX6_isOuter 87 = .ok (.imul, 1) := by decide +kernel
theorem dX6_isOuter_88 : decode cX6_isOuter 88 = .ok (.iload 5, 2) := by decide +kernel
theorem dX6_isOuter_90 : decode cX6_isOuter 90 = .ok (.iload 5, 2) := by decide +kernel
theorem dX6_isOuter_92 : decode cX6_isOuter 92 = .ok (.imul, 1) := by decide +kernel
theorem dX6_isOuter_93 : decode cX6_isOuter 93 = .ok (.iadd, 1) := by decide +kernel
theorem dX6_isOuter_94 : decode cX6_isOuter 94 = .ok (.iload 6, 2) := by decide +kernel
theorem dX6_isOuter_96 : decode cX6_isOuter 96 = .ok (.iload 6, 2) := by decide +kernel
theorem dX6_isOuter_98 : decode cX6_isOuter 98 = .ok (.imul, 1) := by decide +kernel
theorem dX6_isOuter_99 : decode cX6_isOuter 99 = .ok (.iload 7, 2) := by decide +kernel
theorem dX6_isOuter_101 : decode cX6_isOuter 101 = .ok (.iload 7, 2) := by decide +kernel
theorem dX6_isOuter_103 : decode cX6_isOuter 103 = .ok (.imul, 1) := by decide +kernel
theorem dX6_isOuter_104 : decode cX6_isOuter 104 = .ok (.iadd, 1) := by decide +kernel
theorem dX6_isOuter_105 : decode cX6_isOuter 105 = .ok (.if_icmp .le 7, 3) := by decide +kernel
theorem dX6_isOuter_108 : decode cX6_isOuter 108 = .ok (.iconst 1, 1) := by decide +kernel
theorem dX6_isOuter_109 : decode cX6_isOuter 109 = .ok (.goto 4, 3) := by decide +kernel
theorem dX6_isOuter_112 : decode cX6_isOuter 112 = .ok (.iconst 0, 1) := by decide +kernel
theorem dX6_isOuter_113 : decode cX6_isOuter 113 = .ok (.ireturn, 1) := by decide +kernel
set_option maxRecDepth 100000 in
set_option maxHeartbeats 4000000 in
theorem kX6_isOuter (l : Launch) (D : va_G) (ad : Nat → Nat) (cI cJ : ClassId) (tP tR : Nat) (M : Mem) (a1 : Int32) (a2 : Int32) (a3 : Int32)  (o : Int32) (h : fX6_isOuter M a1 a2 a3 = some o) : qMet l D cI cJ tP tR (yA ad) (yW ad cI cJ) yX6_isOuter cX6_isOuter 9 (some .boolean) rX6_isOuter [.ref (ad 0), .int a1, .int a2, .int a3] M (qQi D (yA ad) (yW ad cI cJ) o M) := by
  refine rs_enterZ (own := RX6) ⟨by decide +kernel, rfl, Nat.le_of_ble_eq_true rfl⟩ ?_
  intro p e s m args below meth c Q C hret H locs ls hP hS hl
  obtain ⟨hx, hb, -⟩ := id C
  have hl : lv_has ls 9 [(0, .ref (ad 0)), (1, .int a1), (2, .int a2), (3, .int a3)] := hl
  unfold fX6_isOuter at h
  refine lv_aload_n hx hb dX6_isOuter_0 rfl (lv_at hl 0 rfl) ?_
  refine gfX6_25 C hP dX6_isOuter_1 ?_
  refine lv_iload_n hx hb dX6_isOuter_4 rfl (lv_at hl 2 rfl) ?_
  refine rs_iald C hP yIA_6 dX6_isOuter_5 h (fun v1 h => ?_)
  refine lv_aload_n hx hb dX6_isOuter_6 rfl (lv_at hl 0 rfl) ?_
  refine gfX6_25 C hP dX6_isOuter_7 ?_
  refine lv_iload_n hx hb dX6_isOuter_10 rfl (lv_at hl 1 rfl) ?_
  refine rs_iald C hP yIA_6 dX6_isOuter_11 h (fun v2 h => ?_)
  refine lv_isub hx hb dX6_isOuter_12 ?_
  refine lv_istore (lv' := [(4, .int (v1 - v2)), (0, .ref (ad 0)), (1, .int a1), (2, .int a2), (3, .int a3)]) hx hb dX6_isOuter_13 hl (by decide) rfl (fun ls hl => ?_)
  refine lv_aload_n hx hb dX6_isOuter_15 rfl (lv_at hl 1 rfl) ?_
  refine gfX6_28 C hP dX6_isOuter_16 ?_
  refine lv_iload_n hx hb dX6_isOuter_19 rfl (lv_at hl 3 rfl) ?_
  refine rs_iald C hP yIA_7 dX6_isOuter_20 h (fun v3 h => ?_)
  refine lv_aload_n hx hb dX6_isOuter_21 rfl (lv_at hl 1 rfl) ?_
  refine gfX6_28 C hP dX6_isOuter_22 ?_
  refine lv_iload_n hx hb dX6_isOuter_25 rfl (lv_at hl 2 rfl) ?_
  refine rs_iald C hP yIA_7 dX6_isOuter_26 h (fun v4 h => ?_)
  refine lv_isub hx hb dX6_isOuter_27 ?_
  refine lv_istore (lv' := [(5, .int (v3 - v4)), (4, .int (v1 - v2)), (0, .ref (ad 0)), (1, .int a1), (2, .int a2), (3, .int a3)]) hx hb dX6_isOuter_28 hl (by decide) rfl (fun ls hl => ?_)
  refine lv_aload_n hx hb dX6_isOuter_30 rfl (lv_at hl 2 rfl) ?_
  refine gfX6_25 C hP dX6_isOuter_31 ?_
  refine lv_iload_n hx hb dX6_isOuter_34 rfl (lv_at hl 5 rfl) ?_
  refine rs_iald C hP yIA_6 dX6_isOuter_35 h (fun v5 h => ?_)
  refine lv_aload_n hx hb dX6_isOuter_36 rfl (lv_at hl 2 rfl) ?_
  refine gfX6_25 C hP dX6_isOuter_37 ?_
  refine lv_iload_n hx hb dX6_isOuter_40 rfl (lv_at hl 3 rfl) ?_
  refine rs_iald C hP yIA_6 dX6_isOuter_41 h (fun v6 h => ?_)
  refine lv_isub hx hb dX6_isOuter_42 ?_
  refine lv_istore (lv' := [(6, .int (v5 - v6)), (5, .int (v3 - v4)), (4, .int (v1 - v2)), (0, .ref (ad 0)), (1, .int a1), (2, .int a2), (3, .int a3)]) hx hb dX6_isOuter_43 hl (by decide) rfl (fun ls hl => ?_)
  refine lv_aload_n hx hb dX6_isOuter_45 rfl (lv_at hl 3 rfl) ?_
  refine gfX6_28 C hP dX6_isOuter_46 ?_
  refine lv_iload_n hx hb dX6_isOuter_49 rfl (lv_at hl 6 rfl) ?_
  refine rs_iald C hP yIA_7 dX6_isOuter_50 h (fun v7 h => ?_)
  refine lv_aload_n hx hb dX6_isOuter_51 rfl (lv_at hl 3 rfl) ?_
  refine gfX6_28 C hP dX6_isOuter_52 ?_
  refine lv_iload_n hx hb dX6_isOuter_55 rfl (lv_at hl 4 rfl) ?_
  refine rs_iald C hP yIA_7 dX6_isOuter_56 h (fun v8 h => ?_)
  refine lv_isub hx hb dX6_isOuter_57 ?_
  refine lv_istore (lv' := [(7, .int (v7 - v8)), (6, .int (v5 - v6)), (5, .int (v3 - v4)), (4, .int (v1 - v2)), (0, .ref (ad 0)), (1, .int a1), (2, .int a2), (3, .int a3)]) hx hb dX6_isOuter_58 hl (by decide) rfl (fun ls hl => ?_)
  refine lv_iload hx hb dX6_isOuter_60 (lv_at hl 3 rfl) ?_
  refine lv_iload hx hb dX6_isOuter_62 (lv_at hl 0 rfl) ?_
  refine lv_imul hx hb dX6_isOuter_64 ?_
  refine lv_iload hx hb dX6_isOuter_65 (lv_at hl 2 rfl) ?_
  refine lv_iload hx hb dX6_isOuter_67 (lv_at hl 1 rfl) ?_
  refine lv_imul hx hb dX6_isOuter_69 ?_
  refine lv_isub hx hb dX6_isOuter_70 ?_
  refine lv_istore (lv' := [(8, .int (((v1 - v2) * (v7 - v8)) - ((v3 - v4) * (v5 - v6)))), (7, .int (v7 - v8)), (6, .int (v5 - v6)), (5, .int (v3 - v4)), (4, .int (v1 - v2)), (0, .ref (ad 0)), (1, .int a1), (2, .int a2), (3, .int a3)]) hx hb dX6_isOuter_71 hl (by decide) rfl (fun ls hl => ?_)
  refine lv_iload hx hb dX6_isOuter_73 (lv_at hl 0 rfl) ?_
  refine lv_if_gt (tgt := 108) hx hb dX6_isOuter_75 (by decide) (fun cd => ?_) (fun cd => ?_)
  · have h := (if_pos cd).symm.trans h
    refine lv_iconst (v := (1 : Int32)) hx hb dX6_isOuter_108 (by decide) ?_
    refine lv_goto (tgt := 113) hx hb dX6_isOuter_109 (by decide) ?_
    obtain ⟨rfl, hz⟩ := rs_okZ h
    exact hret H locs _ ls hz hP hS dX6_isOuter_113
  · have h := (if_neg cd).symm.trans h
    refine lv_iload hx hb dX6_isOuter_78 (lv_at hl 0 rfl) ?_
    refine lv_if_ne (tgt := 112) hx hb dX6_isOuter_80 (by decide) (fun cd => ?_) (fun cd => ?_)
    · have h := (if_neg cd).symm.trans h
      refine lv_iconst (v := (0 : Int32)) hx hb dX6_isOuter_112 (by decide) ?_
      obtain ⟨rfl, hz⟩ := rs_okZ h
      exact hret H locs _ ls hz hP hS dX6_isOuter_113
    · have h := (if_pos cd).symm.trans h
      refine lv_iload hx hb dX6_isOuter_83 (lv_at hl 4 rfl) ?_
      refine lv_iload hx hb dX6_isOuter_85 (lv_at hl 4 rfl) ?_
      refine lv_imul hx hb dX6_isOuter_87 ?_
      refine lv_iload hx hb dX6_isOuter_88 (lv_at hl 3 rfl) ?_
      refine lv_iload hx hb dX6_isOuter_90 (lv_at hl 3 rfl) ?_
      refine lv_imul hx hb dX6_isOuter_92 ?_
      refine lv_iadd hx hb dX6_isOuter_93 ?_
      refine lv_iload hx hb dX6_isOuter_94 (lv_at hl 2 rfl) ?_
      refine lv_iload hx hb dX6_isOuter_96 (lv_at hl 2 rfl) ?_
      refine lv_imul hx hb dX6_isOuter_98 ?_
      refine lv_iload hx hb dX6_isOuter_99 (lv_at hl 1 rfl) ?_
      refine lv_iload hx hb dX6_isOuter_101 (lv_at hl 1 rfl) ?_
      refine lv_imul hx hb dX6_isOuter_103 ?_
      refine lv_iadd hx hb dX6_isOuter_104 ?_
      refine lv_icmp_le (tgt := 112) hx hb dX6_isOuter_105 (by decide) (fun cd => ?_) (fun cd => ?_)
      · have h := (if_pos cd).symm.trans h
        refine lv_iconst (v := (0 : Int32)) hx hb dX6_isOuter_112 (by decide) ?_
        obtain ⟨rfl, hz⟩ := rs_okZ h
        exact hret H locs _ ls hz hP hS dX6_isOuter_113
      · have h := (if_neg cd).symm.trans h
        refine lv_iconst (v := (1 : Int32)) hx hb dX6_isOuter_108 (by decide) ?_
        refine lv_goto (tgt := 113) hx hb dX6_isOuter_109 (by decide) ?_
        obtain ⟨rfl, hz⟩ := rs_okZ h
        exact hret H locs _ ls hz hP hS dX6_isOuter_113
abbrev rX6_isSame : Room := { frames := 0, cells := 0, slots := 0, locals := 0 }
theorem dX6_isSame_0 : decode cX6_isSame 0 = .ok (.aload_n 0, 1) := by decide +kernel
theorem dX6_isSame_1 : decode cX6_isSame 1 = .ok (.getfield 25, 3) := by decide +kernel
theorem dX6_isSame_4 : decode cX6_isSame 4 = .ok (.iload_n 1, 1) := by decide +kernel
theorem dX6_isSame_5 : decode cX6_isSame 5 = .ok (.iaload, 1) := by decide +kernel
theorem dX6_isSame_6 : decode cX6_isSame 6 = .ok (.aload_n 0, 1) := by decide +kernel
theorem dX6_isSame_7 : decode cX6_isSame 7 = .ok (.getfield 25, 3) := by decide +kernel
theorem dX6_isSame_10 : decode cX6_isSame 10 = .ok (.iload_n 2, 1) := by decide +kernel
theorem dX6_isSame_11 : decode cX6_isSame 11 = .ok (.iaload, 1) := by decide +kernel
theorem dX6_isSame_12 : decode cX6_isSame 12 = .ok (.if_icmp .ne 22, 3) := by decide +kernel
theorem dX6_isSame_15 : decode cX6_isSame 15 = .ok (.aload_n 0, 1) := by decide +kernel
theorem dX6_isSame_16 : decode cX6_isSame 16 = .ok (.getfield 28, 3) := by decide +kernel
theorem dX6_isSame_19 : decode cX6_isSame 19 = .ok (.iload_n 1, 1) := by decide +kernel
theorem dX6_isSame_20 : decode cX6_isSame 20 = .ok (.iaload, 1) := by decide +kernel
theorem dX6_isSame_21 : decode cX6_isSame 21 = .ok (.aload_n 0, 1) := by decide +kernel
theorem dX6_isSame_22 : decode cX6_isSame 22 = .ok (.getfield 28, 3) := by decide +kernel
theorem dX6_isSame_25 : decode cX6_isSame 25 = .ok (.iload_n 2, 1) := by decide +kernel
theorem dX6_isSame_26 : decode cX6_isSame 26 = .ok (.iaload, 1) := by decide +kernel
theorem dX6_isSame_27 : decode cX6_isSame 27 = .ok (.if_icmp .ne 7, 3) := by decide +kernel
theorem dX6_isSame_30 : decode cX6_isSame 30 = .ok (.iconst 1, 1) := by decide +kernel
theorem dX6_isSame_31 : decode cX6_isSame 31 = .ok (.goto 4, 3) := by decide +kernel
theorem dX6_isSame_34 : decode cX6_isSame 34 = .ok (.iconst 0, 1) := by decide +kernel
theorem dX6_isSame_35 : decode cX6_isSame 35 = .ok (.ireturn, 1) := by decide +kernel
set_option maxRecDepth 100000 in
set_option maxHeartbeats 4000000 in
theorem kX6_isSame (l : Launch) (D : va_G) (ad : Nat → Nat) (cI cJ : ClassId) (tP tR : Nat) (M : Mem) (a1 : Int32) (a2 : Int32)  (o : Int32) (h : fX6_isSame M a1 a2 = some o) : qMet l D cI cJ tP tR (yA ad) (yW ad cI cJ) yX6_isSame cX6_isSame 3 (some .boolean) rX6_isSame [.ref (ad 0), .int a1, .int a2] M (qQi D (yA ad) (yW ad cI cJ) o M) := by
  refine rs_enterZ (own := RX6) ⟨by decide +kernel, rfl, Nat.le_of_ble_eq_true rfl⟩ ?_
  intro p e s m args below meth c Q C hret H locs ls hP hS hl
  obtain ⟨hx, hb, -⟩ := id C
  have hl : lv_has ls 3 [(0, .ref (ad 0)), (1, .int a1), (2, .int a2)] := hl
  unfold fX6_isSame at h
  refine lv_aload_n hx hb dX6_isSame_0 rfl (lv_at hl 0 rfl) ?_
  refine gfX6_25 C hP dX6_isSame_1 ?_
  refine lv_iload_n hx hb dX6_isSame_4 rfl (lv_at hl 1 rfl) ?_
  refine rs_iald C hP yIA_6 dX6_isSame_5 h (fun v1 h => ?_)
  refine lv_aload_n hx hb dX6_isSame_6 rfl (lv_at hl 0 rfl) ?_
  refine gfX6_25 C hP dX6_isSame_7 ?_
  refine lv_iload_n hx hb dX6_isSame_10 rfl (lv_at hl 2 rfl) ?_
  refine rs_iald C hP yIA_6 dX6_isSame_11 h (fun v2 h => ?_)
  refine lv_icmp_ne (tgt := 34) hx hb dX6_isSame_12 (by decide) (fun cd => ?_) (fun cd => ?_)
  · have h := (if_neg cd).symm.trans h
    refine lv_iconst (v := (0 : Int32)) hx hb dX6_isSame_34 (by decide) ?_
    obtain ⟨rfl, hz⟩ := rs_okZ h
    exact hret H locs _ ls hz hP hS dX6_isSame_35
  · have h := (if_pos cd).symm.trans h
    refine lv_aload_n hx hb dX6_isSame_15 rfl (lv_at hl 0 rfl) ?_
    refine gfX6_28 C hP dX6_isSame_16 ?_
    refine lv_iload_n hx hb dX6_isSame_19 rfl (lv_at hl 1 rfl) ?_
    refine rs_iald C hP yIA_7 dX6_isSame_20 h (fun v3 h => ?_)
    refine lv_aload_n hx hb dX6_isSame_21 rfl (lv_at hl 0 rfl) ?_
    refine gfX6_28 C hP dX6_isSame_22 ?_
    refine lv_iload_n hx hb dX6_isSame_25 rfl (lv_at hl 2 rfl) ?_
    refine rs_iald C hP yIA_7 dX6_isSame_26 h (fun v4 h => ?_)
    refine lv_icmp_ne (tgt := 34) hx hb dX6_isSame_27 (by decide) (fun cd => ?_) (fun cd => ?_)
    · have h := (if_neg cd).symm.trans h
      refine lv_iconst (v := (0 : Int32)) hx hb dX6_isSame_34 (by decide) ?_
      obtain ⟨rfl, hz⟩ := rs_okZ h
      exact hret H locs _ ls hz hP hS dX6_isSame_35
    · have h := (if_pos cd).symm.trans h
      refine lv_iconst (v := (1 : Int32)) hx hb dX6_isSame_30 (by decide) ?_
      refine lv_goto (tgt := 35) hx hb dX6_isSame_31 (by decide) ?_
      obtain ⟨rfl, hz⟩ := rs_okZ h
      exact hret H locs _ ls hz hP hS dX6_isSame_35
abbrev rX6_goRound : Room := { frames := 1, cells := 0, slots := 0, locals := 28 }
theorem dX6_goRound_0 : decode cX6_goRound 0 = .ok (.aload_n 0, 1) := by decide +kernel
theorem dX6_goRound_1 : decode cX6_goRound 1 = .ok (.iload_n 1, 1) := by decide +kernel
theorem dX6_goRound_2 : decode cX6_goRound 2 = .ok (.invokevirtual 70, 3) := by decide +kernel
theorem dX6_goRound_5 : decode cX6_goRound 5 = .ok (.iconst 0, 1) := by decide +kernel
theorem dX6_goRound_6 : decode cX6_goRound 6 = .ok (.istore_n 2, 1) := by decide +kernel
theorem dX6_goRound_7 : decode cX6_goRound 7 = .ok (.iconst 1, 1) := by decide +kernel
theorem dX6_goRound_8 : decode cX6_goRound 8 = .ok (.istore_n 3, 1) := by decide +kernel
theorem dX6_goRound_9 : decode cX6_goRound 9 = .ok (.iload_n 3, 1) := by decide +kernel
theorem dX6_goRound_10 : decode cX6_goRound 10 = .ok (.aload_n 0, 1) := by decide +kernel
theorem dX6_goRound_11 : decode cX6_goRound 11 = .ok (.getfield 66, 3) := by decide +kernel
theorem dX6_goRound_14 : decode cX6_goRound 14 = .ok (.if_icmp .ge 72, 3) := by decide +kernel
theorem dX6_goRound_17 : decode cX6_goRound 17 = .ok (.aload_n 0, 1) := by decide +kernel
theorem dX6_goRound_18 : decode cX6_goRound 18 = .ok (.getfield 25, 3) := by decide +kernel
theorem dX6_goRound_21 : decode cX6_goRound 21 = .ok (.iload_n 3, 1) := by decide +kernel
theorem dX6_goRound_22 : decode cX6_goRound 22 = .ok (.iaload, 1) := by decide +kernel
theorem dX6_goRound_23 : decode cX6_goRound 23 = .ok (.aload_n 0, 1) := by decide +kernel
theorem dX6_goRound_24 : decode cX6_goRound 24 = .ok (.getfield 25, 3) := by decide +kernel
theorem dX6_goRound_27 : decode cX6_goRound 27 = .ok (.iload_n 2, 1) := by decide +kernel
theorem dX6_goRound_28 : decode cX6_goRound 28 = .ok (.iaload, 1) := by decide +kernel
theorem dX6_goRound_29 : decode cX6_goRound 29 = .ok (.if_icmp .lt 33, 3) := by decide +kernel
theorem dX6_goRound_32 : decode cX6_goRound 32 = .ok (.aload_n 0, 1) := by decide +kernel
theorem dX6_goRound_33 : decode cX6_goRound 33 = .ok (.getfield 25, 3) := by decide +kernel
theorem dX6_goRound_36 : decode cX6_goRound 36 = .ok (.iload_n 3, 1) := by decide +kernel
theorem dX6_goRound_37 : decode cX6_goRound 37 = .ok (.iaload, 1) := by decide +kernel
theorem dX6_goRound_38 : decode cX6_goRound 38 = .ok (.aload_n 0, 1) := by decide +kernel
theorem dX6_goRound_39 : decode cX6_goRound 39 = .ok (.getfield 25, 3) := by decide +kernel
theorem dX6_goRound_42 : decode cX6_goRound 42 = .ok (.iload_n 2, 1) := by decide +kernel
theorem dX6_goRound_43 : decode cX6_goRound 43 = .ok (.iaload, 1) := by decide +kernel
theorem dX6_goRound_44 : decode cX6_goRound 44 = .ok (.if_icmp .ne 22, 3) := by decide +kernel
theorem dX6_goRound_47 : decode cX6_goRound 47 = .ok (.aload_n 0, 1) := by decide +kernel
theorem dX6_goRound_48 : decode cX6_goRound 48 = .ok (.getfield 28, 3) := by decide +kernel
theorem dX6_goRound_51 : decode cX6_goRound 51 = .ok (.iload_n 3, 1) := by decide +kernel
theorem dX6_goRound_52 : decode cX6_goRound 52 = .ok (.iaload, 1) := by decide +kernel
theorem dX6_goRound_53 : decode cX6_goRound 53 = .ok (.aload_n 0, 1) := by decide +kernel
theorem dX6_goRound_54 : decode cX6_goRound 54 = .ok (.getfield 28, 3) := by decide +kernel
theorem dX6_goRound_57 : decode cX6_goRound 57 = .ok (.iload_n 2, 1) := by decide +kernel
theorem dX6_goRound_58 : decode cX6_goRound 58 = .ok (.iaload, 1) := by decide +kernel
theorem dX6_goRound_59 : decode cX6_goRound 59 = .ok (.if_icmp .ge 7, 3) := by decide +kernel
theorem dX6_goRound_62 : decode cX6_goRound 62 = .ok (.iconst 1, 1) := by decide +kernel
theorem dX6_goRound_63 : decode cX6_goRound 63 = .ok (.goto 4, 3) := by decide +kernel
theorem dX6_goRound_66 : decode cX6_goRound 66 = .ok (.iconst 0, 1) := by decide +kernel
theorem dX6_goRound_67 : decode cX6_goRound 67 = .ok (.istore 4, 2) := by decide +kernel
theorem dX6_goRound_69 : decode cX6_goRound 69 = .ok (.iload 4, 2) := by decide +kernel
theorem dX6_goRound_71 : decode cX6_goRound 71 = .ok (.ifCond .eq 7, 3) := by decide +kernel
theorem dX6_goRound_74 : decode cX6_goRound 74 = .ok (.iload_n 3, 1) := by decide +kernel
theorem dX6_goRound_75 : decode cX6_goRound 75 = .ok (.goto 4, 3) := by decide +kernel
theorem dX6_goRound_78 : decode cX6_goRound 78 = .ok (.iload_n 2, 1) := by decide +kernel
theorem dX6_goRound_79 : decode cX6_goRound 79 = .ok (.istore_n 2, 1) := by decide +kernel
theorem dX6_goRound_80 : decode cX6_goRound 80 = .ok (.iinc 3 1, 3) := by decide +kernel
theorem dX6_goRound_83 : decode cX6_goRound 83 = .ok (.goto (-74), 3) := by decide +kernel
theorem dX6_goRound_86 : decode cX6_goRound 86 = .ok (.aload_n 0, 1) := by decide +kernel
theorem dX6_goRound_87 : decode cX6_goRound 87 = .ok (.iconst 0, 1) := by decide +kernel
theorem dX6_goRound_88 : decode cX6_goRound 88 = .ok (.putfield 74, 3) := by decide +kernel
theorem dX6_goRound_91 : decode cX6_goRound 91 = .ok (.iload_n 2, 1) := by decide +kernel
theorem dX6_goRound_92 : decode cX6_goRound 92 = .ok (.istore_n 3, 1) := by decide +kernel
theorem dX6_goRound_93 : decode cX6_goRound 93 = .ok (.iconst 1, 1) := by decide +kernel
theorem dX6_goRound_94 : decode cX6_goRound 94 = .ok (.istore 4, 2) := by decide +kernel
theorem dX6_goRound_96 : decode cX6_goRound 96 = .ok (.iload 4, 2) := by decide +kernel
theorem dX6_goRound_98 : decode cX6_goRound 98 = .ok (.ifCond .eq 123, 3) := by decide +kernel
theorem dX6_goRound_101 : decode cX6_goRound 101 = .ok (.aload_n 0, 1) := by decide +kernel
theorem dX6_goRound_102 : decode cX6_goRound 102 = .ok (.getfield 31, 3) := by decide +kernel
theorem dX6_goRound_105 : decode cX6_goRound 105 = .ok (.aload_n 0, 1) := by decide +kernel
theorem dX6_goRound_106 : decode cX6_goRound 106 = .ok (.getfield 74, 3) := by decide +kernel
theorem dX6_goRound_109 : decode cX6_goRound 109 = .ok (.aload_n 0, 1) := by decide +kernel
theorem dX6_goRound_110 : decode cX6_goRound 110 = .ok (.getfield 25, 3) := by decide +kernel
theorem dX6_goRound_113 : decode cX6_goRound 113 = .ok (.iload_n 3, 1) := by decide +kernel
theorem dX6_goRound_114 : decode cX6_goRound 114 = .ok (.iaload, 1) := by decide +kernel
theorem dX6_goRound_115 : decode cX6_goRound 115 = .ok (.iastore, 1) := by decide +kernel
theorem dX6_goRound_116 : decode cX6_goRound 116 = .ok (.aload_n 0, 1) := by decide +kernel
theorem dX6_goRound_117 : decode cX6_goRound 117 = .ok (.getfield 34, 3) := by decide +kernel
theorem dX6_goRound_120 : decode cX6_goRound 120 = .ok (.aload_n 0, 1) := by decide +kernel
theorem dX6_goRound_121 : decode cX6_goRound 121 = .ok (.getfield 74, 3) := by decide +kernel
theorem dX6_goRound_124 : decode cX6_goRound 124 = .ok (.aload_n 0, 1) := by decide +kernel
theorem dX6_goRound_125 : decode cX6_goRound 125 = .ok (.getfield 28, 3) := by decide +kernel
theorem dX6_goRound_128 : decode cX6_goRound 128 = .ok (.iload_n 3, 1) := by decide +kernel
theorem dX6_goRound_129 : decode cX6_goRound 129 = .ok (.iaload, 1) := by decide +kernel
theorem dX6_goRound_130 : decode cX6_goRound 130 = .ok (.iastore, 1) := by decide +kernel
theorem dX6_goRound_131 : decode cX6_goRound 131 = .ok (.aload_n 0, 1) := by decide +kernel
theorem dX6_goRound_132 : decode cX6_goRound 132 = .ok (.dup, 1) := by decide +kernel
theorem dX6_goRound_133 : decode cX6_goRound 133 = .ok (.getfield 74, 3) := by decide +kernel
theorem dX6_goRound_136 : decode cX6_goRound 136 = .ok (.iconst 1, 1) := by decide +kernel
theorem dX6_goRound_137 : decode cX6_goRound 137 = .ok (.iadd, 1) := by decide +kernel
theorem dX6_goRound_138 : decode cX6_goRound 138 = .ok (.putfield 74, 3) := by decide +kernel
theorem dX6_goRound_141 : decode cX6_goRound 141 = .ok (.iconst (-1), 1) := by decide +kernel
theorem dX6_goRound_142 : decode cX6_goRound 142 = .ok (.istore 5, 2) := by decide +kernel
theorem dX6_goRound_144 : decode cX6_goRound 144 = .ok (.iconst 0, 1) := by decide +kernel
theorem dX6_goRound_145 : decode cX6_goRound 145 = .ok (.istore 6, 2) := by decide +kernel
theorem dX6_goRound_147 : decode cX6_goRound 147 = .ok (.iload 6, 2) := by decide +kernel
theorem dX6_goRound_149 : decode cX6_goRound 149 = .ok (.aload_n 0, 1) := by decide +kernel
theorem dX6_goRound_150 : decode cX6_goRound 150 = .ok (.getfield 66, 3) := by decide +kernel
theorem dX6_goRound_153 : decode cX6_goRound 153 = .ok (.if_icmp .ge 40, 3) := by decide +kernel
theorem dX6_goRound_156 : decode cX6_goRound 156 = .ok (.aload_n 0, 1) := by decide +kernel
theorem dX6_goRound_157 : decode cX6_goRound 157 = .ok (.iload 6, 2) := by decide +kernel
theorem dX6_goRound_159 : decode cX6_goRound 159 = .ok (.iload_n 3, 1) := by decide +kernel
theorem dX6_goRound_160 : decode cX6_goRound 160 = .ok (.invokevirtual 77, 3) := by decide +kernel
theorem dX6_goRound_163 : decode cX6_goRound 163 = .ok (.ifCond .ne 24, 3) := by decide +kernel
theorem dX6_goRound_166 : decode cX6_goRound 166 = .ok (.iload 5, 2) := by decide +kernel
theorem dX6_goRound_168 : decode cX6_goRound 168 = .ok (.ifCond .lt 15, 3) := by decide +kernel
theorem dX6_goRound_171 : decode cX6_goRound 171 = .ok (.aload_n 0, 1) := by decide +kernel
theorem dX6_goRound_172 : decode cX6_goRound 172 = .ok (.iload_n 3, 1) := by decide +kernel
theorem dX6_goRound_173 : decode cX6_goRound 173 = .ok (.iload 6, 2) := by decide +kernel
theorem dX6_goRound_175 : decode cX6_goRound 175 = .ok (.iload 5, 2) := by decide +kernel
theorem dX6_goRound_177 : decode cX6_goRound 177 = .ok (.invokevirtual 80, 3) := by decide +kernel
theorem dX6_goRound_180 : decode cX6_goRound 180 = .ok (.ifCond .eq 7, 3) := by decide +kernel
theorem dX6_goRound_183 : decode cX6_goRound 183 = .ok (.iload 6, 2) := by decide +kernel
theorem dX6_goRound_185 : decode cX6_goRound 185 = .ok (.istore 5, 2) := by decide +kernel
theorem dX6_goRound_187 : decode cX6_goRound 187 = .ok (.iinc 6 1, 3) := by decide +kernel
theorem dX6_goRound_190 : decode cX6_goRound 190 = .ok (.goto (-43), 3) := by decide +kernel
theorem dX6_goRound_193 : decode cX6_goRound 193 = .ok (.iload 5, 2) := by decide +kernel
theorem dX6_goRound_195 : decode cX6_goRound 195 = .ok (.ifCond .lt 17, 3) := by decide +kernel
theorem dX6_goRound_198 : decode cX6_goRound 198 = .ok (.aload_n 0, 1) := by decide +kernel
theorem dX6_goRound_199 : decode cX6_goRound 199 = .ok (.iload 5, 2) := by decide +kernel
theorem dX6_goRound_201 : decode cX6_goRound 201 = .ok (.iload_n 2, 1) := by decide +kernel
theorem dX6_goRound_202 : decode cX6_goRound 202 = .ok (.invokevirtual 77, 3) := by decide +kernel
theorem dX6_goRound_205 : decode cX6_goRound 205 = .ok (.ifCond .ne 7, 3) := by decide +kernel
theorem dX6_goRound_208 : decode cX6_goRound 208 = .ok (.iconst 1, 1) := by decide +kernel
theorem dX6_goRound_209 : decode cX6_goRound 209 = .ok (.goto 4, 3) := by decide +kernel
theorem dX6_goRound_212 : decode cX6_goRound 212 = .ok (.iconst 0, 1) := by decide +kernel
theorem dX6_goRound_213 : decode cX6_goRound 213 = .ok (.istore 4, 2) := by decide +kernel
theorem dX6_goRound_215 : decode cX6_goRound 215 = .ok (.iload 5, 2) := by decide +kernel
theorem dX6_goRound_217 : decode cX6_goRound 217 = .ok (.istore_n 3, 1) := by decide +kernel
theorem dX6_goRound_218 : decode cX6_goRound 218 = .ok (.goto (-122), 3) := by decide +kernel
theorem dX6_goRound_221 : decode cX6_goRound 221 = .ok (.return_, 1) := by decide +kernel
set_option maxRecDepth 100000 in
set_option maxHeartbeats 4000000 in
theorem kX6_goRound (l : Launch) (D : va_G) (ad : Nat → Nat) (cI cJ : ClassId) (tP tR : Nat) (N : Nat) (M : Mem) (a1 : Int32)  (o : Mem) (h : fX6_goRound N M a1 = some o) : qMet l D cI cJ tP tR (yA ad) (yW ad cI cJ) yX6_goRound cX6_goRound 7 none rX6_goRound [.ref (ad 0), .int a1] M (qQv D (yA ad) (yW ad cI cJ) o) := by
  refine rs_enterV (own := RX6) ⟨by decide +kernel, rfl, Nat.le_of_ble_eq_true rfl⟩ ?_
  intro p e s m args below meth c Q C hret H locs ls hP hS hl
  obtain ⟨hx, hb, -⟩ := id C
  have hl : lv_has ls 7 [(0, .ref (ad 0)), (1, .int a1)] := hl
  unfold fX6_goRound at h
  refine lv_aload_n hx hb dX6_goRound_0 rfl (lv_at hl 0 rfl) ?_
  refine lv_iload_n hx hb dX6_goRound_1 rfl (lv_at hl 1 rfl) ?_
  obtain ⟨M1, h1, h⟩ := rs_bind h
  refine rs_goV (rs_runV (b := 0) (As := [.int a1]) (rest := []) C hP hS (kX6_gather l D ad cI cJ tP tR N M a1 _ h1) mk_X6_gather wd_633 (yR_0) rfl ⟨rfl, rfl, Nat.le_of_ble_eq_true rfl, Nat.le_of_ble_eq_true rfl⟩ rfl hl.1 (Nat.le_of_ble_eq_true rfl) dX6_goRound_2) hS (fun H locs hP hS => ?_)
  refine lv_iconst (v := (0 : Int32)) hx hb dX6_goRound_5 (by decide) ?_
  refine lv_istore_n (lv' := [(2, .int (0 : Int32)), (0, .ref (ad 0)), (1, .int a1)]) hx hb dX6_goRound_6 rfl hl (by decide) rfl (fun ls hl => ?_)
  refine lv_iconst (v := (1 : Int32)) hx hb dX6_goRound_7 (by decide) ?_
  refine lv_istore_n (lv' := [(3, .int (1 : Int32)), (2, .int (0 : Int32)), (0, .ref (ad 0)), (1, .int a1)]) hx hb dX6_goRound_8 rfl hl (by decide) rfl (fun ls hl => ?_)
  obtain ⟨v2, h1, h⟩ := rs_bind h
  have hJ23 : ∀ (H : Heap) (locs : List Loc) (ls : Array Slot), va_P D vwCl (yW ad cI cJ M1) H → va_S (yA ad) s.heap H locs → lv_has ls 7 [(0, .ref (ad 0)), (2, .int v2)] → W p l e rX6_goRound s m args below meth c H locs 0 0 Q (F0 m 86 ls []) := by
    intro H locs ls hP hS hl
    refine lv_aload_n hx hb dX6_goRound_86 rfl (lv_at hl 0 rfl) ?_
    refine lv_iconst (v := (0 : Int32)) hx hb dX6_goRound_87 (by decide) ?_
    refine pfX6_74 C hP hS dX6_goRound_88 h (fun M3 h H locs hP hS => ?_)
    refine lv_iload_n hx hb dX6_goRound_91 rfl (lv_at hl 1 rfl) ?_
    refine lv_istore_n (lv' := [(3, .int v2), (0, .ref (ad 0)), (2, .int v2)]) hx hb dX6_goRound_92 rfl hl (by decide) rfl (fun ls hl => ?_)
    refine lv_iconst (v := (1 : Int32)) hx hb dX6_goRound_93 (by decide) ?_
    refine lv_istore (lv' := [(4, .int (1 : Int32)), (3, .int v2), (0, .ref (ad 0)), (2, .int v2)]) hx hb dX6_goRound_94 hl (by decide) rfl (fun ls hl => ?_)
    have hL96 : ∀ (n96 : Nat) (v4 : Int32) (v5 : Int32) (M6 : Mem) (H : Heap) (locs : List Loc) (ls : Array Slot), va_P D vwCl (yW ad cI cJ M6) H → va_S (yA ad) s.heap H locs → lv_has ls 7 [(0, .ref (ad 0)), (2, .int v2), (3, .int v4), (4, .int v5)] → lp (fun _ _ _ => none) (sX6_goRound_96 N v2) n96 v4 v5 M6 = some o → W p l e rX6_goRound s m args below meth c H locs 0 0 Q (F0 m 96 ls []) := by
      intro n96
      induction n96 with
      | zero => intro v4 v5 M6 H locs ls hP hS hl h; have h : (none : Option Mem) = some o := h; cases h
      | succ n96 ih96 =>
        intro v4 v5 M6 H locs ls hP hS hl h
        have h : sX6_goRound_96 N v2 (lp (fun _ _ _ => none) (sX6_goRound_96 N v2) n96) v4 v5 M6 = some o := h
        generalize lp (fun _ _ _ => none) (sX6_goRound_96 N v2) n96 = cont96 at h ih96
        unfold sX6_goRound_96 at h
        refine lv_iload hx hb dX6_goRound_96 (lv_at hl 3 rfl) ?_
        refine lv_if_eq (tgt := 221) hx hb dX6_goRound_98 (by decide) (fun cd => ?_) (fun cd => ?_)
        · have h := (if_pos cd).symm.trans h
          cases h
          exact hret H locs _ ls hP hS dX6_goRound_221
        · have h := (if_neg cd).symm.trans h
          refine lv_aload_n hx hb dX6_goRound_101 rfl (lv_at hl 0 rfl) ?_
          refine gfX6_31 C hP dX6_goRound_102 ?_
          refine lv_aload_n hx hb dX6_goRound_105 rfl (lv_at hl 0 rfl) ?_
          refine gfX6_74 C hP dX6_goRound_106 ?_
          refine lv_aload_n hx hb dX6_goRound_109 rfl (lv_at hl 0 rfl) ?_
          refine gfX6_25 C hP dX6_goRound_110 ?_
          refine lv_iload_n hx hb dX6_goRound_113 rfl (lv_at hl 2 rfl) ?_
          refine rs_iald C hP yIA_6 dX6_goRound_114 h (fun v7 h => ?_)
          refine rs_iast C hP hS yIA_8 dX6_goRound_115 h (fun M8 h H locs hP hS => ?_)
          refine lv_aload_n hx hb dX6_goRound_116 rfl (lv_at hl 0 rfl) ?_
          refine gfX6_34 C hP dX6_goRound_117 ?_
          refine lv_aload_n hx hb dX6_goRound_120 rfl (lv_at hl 0 rfl) ?_
          refine gfX6_74 C hP dX6_goRound_121 ?_
          refine lv_aload_n hx hb dX6_goRound_124 rfl (lv_at hl 0 rfl) ?_
          refine gfX6_28 C hP dX6_goRound_125 ?_
          refine lv_iload_n hx hb dX6_goRound_128 rfl (lv_at hl 2 rfl) ?_
          refine rs_iald C hP yIA_7 dX6_goRound_129 h (fun v9 h => ?_)
          refine rs_iast C hP hS yIA_9 dX6_goRound_130 h (fun M10 h H locs hP hS => ?_)
          refine lv_aload_n hx hb dX6_goRound_131 rfl (lv_at hl 0 rfl) ?_
          refine lv_dup hx hb dX6_goRound_132 rfl ?_
          refine gfX6_74 C hP dX6_goRound_133 ?_
          refine lv_iconst (v := (1 : Int32)) hx hb dX6_goRound_136 (by decide) ?_
          refine lv_iadd hx hb dX6_goRound_137 ?_
          refine pfX6_74 C hP hS dX6_goRound_138 h (fun M11 h H locs hP hS => ?_)
          refine lv_iconst (v := (-1 : Int32)) hx hb dX6_goRound_141 (by decide) ?_
          refine lv_istore (lv' := [(5, .int (-1 : Int32)), (0, .ref (ad 0)), (2, .int v2), (3, .int v4), (4, .int v5)]) hx hb dX6_goRound_142 hl (by decide) rfl (fun ls hl => ?_)
          refine lv_iconst (v := (0 : Int32)) hx hb dX6_goRound_144 (by decide) ?_
          refine lv_istore (lv' := [(6, .int (0 : Int32)), (5, .int (-1 : Int32)), (0, .ref (ad 0)), (2, .int v2), (3, .int v4), (4, .int v5)]) hx hb dX6_goRound_145 hl (by decide) rfl (fun ls hl => ?_)
          obtain ⟨v12, h1, h⟩ := rs_bind h
          have hJ16 : ∀ (H : Heap) (locs : List Loc) (ls : Array Slot), va_P D vwCl (yW ad cI cJ M11) H → va_S (yA ad) s.heap H locs → lv_has ls 7 [(0, .ref (ad 0)), (2, .int v2), (5, .int v12)] → W p l e rX6_goRound s m args below meth c H locs 0 0 Q (F0 m 193 ls []) := by
            intro H locs ls hP hS hl
            refine lv_iload hx hb dX6_goRound_193 (lv_at hl 2 rfl) ?_
            obtain ⟨v13, h1, h⟩ := rs_bind h
            have hJ14 : ∀ (H : Heap) (locs : List Loc) (ls : Array Slot), va_P D vwCl (yW ad cI cJ M11) H → va_S (yA ad) s.heap H locs → lv_has ls 7 [(0, .ref (ad 0)), (2, .int v2), (5, .int v12)] → W p l e rX6_goRound s m args below meth c H locs 0 0 Q (F0 m 213 ls [.int v13]) := by
              intro H locs ls hP hS hl
              refine lv_istore (lv' := [(4, .int v13), (0, .ref (ad 0)), (2, .int v2), (5, .int v12)]) hx hb dX6_goRound_213 hl (by decide) rfl (fun ls hl => ?_)
              refine lv_iload hx hb dX6_goRound_215 (lv_at hl 3 rfl) ?_
              refine lv_istore_n (lv' := [(3, .int v12), (4, .int v13), (0, .ref (ad 0)), (2, .int v2), (5, .int v12)]) hx hb dX6_goRound_217 rfl hl (by decide) rfl (fun ls hl => ?_)
              refine lv_goto (tgt := 96) hx hb dX6_goRound_218 (by decide) ?_
              exact ih96 _ _ _ H locs ls hP hS (lv_sub hl [2, 3, 0, 1] rfl) h
            replace h := h1
            clear h1
            refine lv_if_lt (tgt := 212) hx hb dX6_goRound_195 (by decide) (fun cd => ?_) (fun cd => ?_)
            · have h := (if_pos cd).symm.trans h
              refine lv_iconst (v := (0 : Int32)) hx hb dX6_goRound_212 (by decide) ?_
              cases h
              exact hJ14 H locs ls hP hS (lv_sub hl [0, 1, 2] rfl)
            · have h := (if_neg cd).symm.trans h
              refine lv_aload_n hx hb dX6_goRound_198 rfl (lv_at hl 0 rfl) ?_
              refine lv_iload hx hb dX6_goRound_199 (lv_at hl 2 rfl) ?_
              refine lv_iload_n hx hb dX6_goRound_201 rfl (lv_at hl 1 rfl) ?_
              obtain ⟨v15, h1, h⟩ := rs_bind h
              refine rs_goI (rs_runV (b := 0) (As := [.int v12, .int v2]) (rest := []) C hP hS (kX6_isSame l D ad cI cJ tP tR M11 v12 v2 _ h1) mk_X6_isSame wd_637 (yR_0) rfl ⟨rfl, rfl, Nat.le_of_ble_eq_true rfl, Nat.le_of_ble_eq_true rfl⟩ rfl hl.1 (Nat.le_of_ble_eq_true rfl) dX6_goRound_202) hS (fun H locs hP hS => ?_)
              refine lv_if_ne (tgt := 212) hx hb dX6_goRound_205 (by decide) (fun cd => ?_) (fun cd => ?_)
              · have h := (if_neg cd).symm.trans h
                refine lv_iconst (v := (0 : Int32)) hx hb dX6_goRound_212 (by decide) ?_
                cases h
                exact hJ14 H locs ls hP hS (lv_sub hl [0, 1, 2] rfl)
              · have h := (if_pos cd).symm.trans h
                refine lv_iconst (v := (1 : Int32)) hx hb dX6_goRound_208 (by decide) ?_
                refine lv_goto (tgt := 213) hx hb dX6_goRound_209 (by decide) ?_
                cases h
                exact hJ14 H locs ls hP hS (lv_sub hl [0, 1, 2] rfl)
          replace h := h1
          clear h1
          have hL147 : ∀ (n147 : Nat) (v17 : Int32) (v18 : Int32) (H : Heap) (locs : List Loc) (ls : Array Slot), va_P D vwCl (yW ad cI cJ M11) H → va_S (yA ad) s.heap H locs → lv_has ls 7 [(0, .ref (ad 0)), (2, .int v2), (3, .int v4), (5, .int v17), (6, .int v18)] → lp (fun _ _ => none) (sX6_goRound_147 M11 v4) n147 v17 v18 = some v12 → W p l e rX6_goRound s m args below meth c H locs 0 0 Q (F0 m 147 ls []) := by
            intro n147
            induction n147 with
            | zero => intro v17 v18 H locs ls hP hS hl h; have h : (none : Option Int32) = some v12 := h; cases h
            | succ n147 ih147 =>
              intro v17 v18 H locs ls hP hS hl h
              have h : sX6_goRound_147 M11 v4 (lp (fun _ _ => none) (sX6_goRound_147 M11 v4) n147) v17 v18 = some v12 := h
              generalize lp (fun _ _ => none) (sX6_goRound_147 M11 v4) n147 = cont147 at h ih147
              unfold sX6_goRound_147 at h
              refine lv_iload hx hb dX6_goRound_147 (lv_at hl 4 rfl) ?_
              refine lv_aload_n hx hb dX6_goRound_149 rfl (lv_at hl 0 rfl) ?_
              refine gfX6_66 C hP dX6_goRound_150 ?_
              refine lv_icmp_ge (tgt := 193) hx hb dX6_goRound_153 (by decide) (fun cd => ?_) (fun cd => ?_)
              · have h := (if_pos cd).symm.trans h
                cases h
                exact hJ16 H locs ls hP hS (lv_sub hl [0, 1, 3] rfl)
              · have h := (if_neg cd).symm.trans h
                refine lv_aload_n hx hb dX6_goRound_156 rfl (lv_at hl 0 rfl) ?_
                refine lv_iload hx hb dX6_goRound_157 (lv_at hl 4 rfl) ?_
                refine lv_iload_n hx hb dX6_goRound_159 rfl (lv_at hl 2 rfl) ?_
                obtain ⟨v19, h1, h⟩ := rs_bind h
                refine rs_goI (rs_runV (b := 0) (As := [.int v18, .int v4]) (rest := []) C hP hS (kX6_isSame l D ad cI cJ tP tR M11 v18 v4 _ h1) mk_X6_isSame wd_637 (yR_0) rfl ⟨rfl, rfl, Nat.le_of_ble_eq_true rfl, Nat.le_of_ble_eq_true rfl⟩ rfl hl.1 (Nat.le_of_ble_eq_true rfl) dX6_goRound_160) hS (fun H locs hP hS => ?_)
                obtain ⟨v20, h1, h⟩ := rs_bind h
                have hJ21 : ∀ (H : Heap) (locs : List Loc) (ls : Array Slot), va_P D vwCl (yW ad cI cJ M11) H → va_S (yA ad) s.heap H locs → lv_has ls 7 [(0, .ref (ad 0)), (2, .int v2), (3, .int v4), (5, .int v20), (6, .int v18)] → W p l e rX6_goRound s m args below meth c H locs 0 0 Q (F0 m 187 ls []) := by
                  intro H locs ls hP hS hl
                  refine lv_iinc (v := (v18 + 1)) (lv' := [(6, .int (v18 + 1)), (0, .ref (ad 0)), (2, .int v2), (3, .int v4), (5, .int v20)]) hx hb dX6_goRound_187 hl (k := 4) rfl rfl (by decide) rfl (fun ls hl => ?_)
                  refine lv_goto (tgt := 147) hx hb dX6_goRound_190 (by decide) ?_
                  exact ih147 _ _ H locs ls hP hS (lv_sub hl [1, 2, 3, 4, 0] rfl) h
                replace h := h1
                clear h1
                refine lv_if_ne (tgt := 187) hx hb dX6_goRound_163 (by decide) (fun cd => ?_) (fun cd => ?_)
                · have h := (if_neg cd).symm.trans h
                  cases h
                  exact hJ21 H locs ls hP hS (lv_sub hl [0, 1, 2, 3, 4] rfl)
                · have h := (if_pos cd).symm.trans h
                  refine lv_iload hx hb dX6_goRound_166 (lv_at hl 3 rfl) ?_
                  refine lv_if_lt (tgt := 183) hx hb dX6_goRound_168 (by decide) (fun cd => ?_) (fun cd => ?_)
                  · have h := (if_pos cd).symm.trans h
                    refine lv_iload hx hb dX6_goRound_183 (lv_at hl 4 rfl) ?_
                    refine lv_istore (lv' := [(5, .int v18), (0, .ref (ad 0)), (2, .int v2), (3, .int v4), (6, .int v18)]) hx hb dX6_goRound_185 hl (by decide) rfl (fun ls hl => ?_)
                    cases h
                    exact hJ21 H locs ls hP hS (lv_sub hl [1, 2, 3, 0, 4] rfl)
                  · have h := (if_neg cd).symm.trans h
                    refine lv_aload_n hx hb dX6_goRound_171 rfl (lv_at hl 0 rfl) ?_
                    refine lv_iload_n hx hb dX6_goRound_172 rfl (lv_at hl 2 rfl) ?_
                    refine lv_iload hx hb dX6_goRound_173 (lv_at hl 4 rfl) ?_
                    refine lv_iload hx hb dX6_goRound_175 (lv_at hl 3 rfl) ?_
                    obtain ⟨v22, h1, h⟩ := rs_bind h
                    refine rs_goI (rs_runV (b := 0) (As := [.int v4, .int v18, .int v17]) (rest := []) C hP hS (kX6_isOuter l D ad cI cJ tP tR M11 v4 v18 v17 _ h1) mk_X6_isOuter wd_641 (yR_0) rfl ⟨rfl, rfl, Nat.le_of_ble_eq_true rfl, Nat.le_of_ble_eq_true rfl⟩ rfl hl.1 (Nat.le_of_ble_eq_true rfl) dX6_goRound_177) hS (fun H locs hP hS => ?_)
                    refine lv_if_eq (tgt := 187) hx hb dX6_goRound_180 (by decide) (fun cd => ?_) (fun cd => ?_)
                    · have h := (if_pos cd).symm.trans h
                      cases h
                      exact hJ21 H locs ls hP hS (lv_sub hl [0, 1, 2, 3, 4] rfl)
                    · have h := (if_neg cd).symm.trans h
                      refine lv_iload hx hb dX6_goRound_183 (lv_at hl 4 rfl) ?_
                      refine lv_istore (lv' := [(5, .int v18), (0, .ref (ad 0)), (2, .int v2), (3, .int v4), (6, .int v18)]) hx hb dX6_goRound_185 hl (by decide) rfl (fun ls hl => ?_)
                      cases h
                      exact hJ21 H locs ls hP hS (lv_sub hl [1, 2, 3, 0, 4] rfl)
          exact hL147 N _ _ H locs ls hP hS (lv_sub hl [2, 3, 4, 1, 0] rfl) h
    exact hL96 N _ _ _ H locs ls hP hS (lv_sub hl [2, 3, 1, 0] rfl) h
  replace h := h1
  clear h1
  have hL9 : ∀ (n9 : Nat) (v24 : Int32) (v25 : Int32) (H : Heap) (locs : List Loc) (ls : Array Slot), va_P D vwCl (yW ad cI cJ M1) H → va_S (yA ad) s.heap H locs → lv_has ls 7 [(0, .ref (ad 0)), (2, .int v24), (3, .int v25)] → lp (fun _ _ => none) (sX6_goRound_9 M1) n9 v24 v25 = some v2 → W p l e rX6_goRound s m args below meth c H locs 0 0 Q (F0 m 9 ls []) := by
    intro n9
    induction n9 with
    | zero => intro v24 v25 H locs ls hP hS hl h; have h : (none : Option Int32) = some v2 := h; cases h
    | succ n9 ih9 =>
      intro v24 v25 H locs ls hP hS hl h
      have h : sX6_goRound_9 M1 (lp (fun _ _ => none) (sX6_goRound_9 M1) n9) v24 v25 = some v2 := h
      generalize lp (fun _ _ => none) (sX6_goRound_9 M1) n9 = cont9 at h ih9
      unfold sX6_goRound_9 at h
      refine lv_iload_n hx hb dX6_goRound_9 rfl (lv_at hl 2 rfl) ?_
      refine lv_aload_n hx hb dX6_goRound_10 rfl (lv_at hl 0 rfl) ?_
      refine gfX6_66 C hP dX6_goRound_11 ?_
      refine lv_icmp_ge (tgt := 86) hx hb dX6_goRound_14 (by decide) (fun cd => ?_) (fun cd => ?_)
      · have h := (if_pos cd).symm.trans h
        cases h
        exact hJ23 H locs ls hP hS (lv_sub hl [0, 1] rfl)
      · have h := (if_neg cd).symm.trans h
        refine lv_aload_n hx hb dX6_goRound_17 rfl (lv_at hl 0 rfl) ?_
        refine gfX6_25 C hP dX6_goRound_18 ?_
        refine lv_iload_n hx hb dX6_goRound_21 rfl (lv_at hl 2 rfl) ?_
        refine rs_iald C hP yIA_6 dX6_goRound_22 h (fun v26 h => ?_)
        refine lv_aload_n hx hb dX6_goRound_23 rfl (lv_at hl 0 rfl) ?_
        refine gfX6_25 C hP dX6_goRound_24 ?_
        refine lv_iload_n hx hb dX6_goRound_27 rfl (lv_at hl 1 rfl) ?_
        refine rs_iald C hP yIA_6 dX6_goRound_28 h (fun v27 h => ?_)
        obtain ⟨v28, h1, h⟩ := rs_bind h
        have hJ31 : ∀ (H : Heap) (locs : List Loc) (ls : Array Slot), va_P D vwCl (yW ad cI cJ M1) H → va_S (yA ad) s.heap H locs → lv_has ls 7 [(0, .ref (ad 0)), (2, .int v24), (3, .int v25)] → W p l e rX6_goRound s m args below meth c H locs 0 0 Q (F0 m 67 ls [.int v28]) := by
          intro H locs ls hP hS hl
          refine lv_istore (lv' := [(4, .int v28), (0, .ref (ad 0)), (2, .int v24), (3, .int v25)]) hx hb dX6_goRound_67 hl (by decide) rfl (fun ls hl => ?_)
          refine lv_iload hx hb dX6_goRound_69 (lv_at hl 0 rfl) ?_
          obtain ⟨v29, h1, h⟩ := rs_bind h
          have hJ30 : ∀ (H : Heap) (locs : List Loc) (ls : Array Slot), va_P D vwCl (yW ad cI cJ M1) H → va_S (yA ad) s.heap H locs → lv_has ls 7 [(0, .ref (ad 0)), (3, .int v25)] → W p l e rX6_goRound s m args below meth c H locs 0 0 Q (F0 m 79 ls [.int v29]) := by
            intro H locs ls hP hS hl
            refine lv_istore_n (lv' := [(2, .int v29), (0, .ref (ad 0)), (3, .int v25)]) hx hb dX6_goRound_79 rfl hl (by decide) rfl (fun ls hl => ?_)
            refine lv_iinc (v := (v25 + 1)) (lv' := [(3, .int (v25 + 1)), (2, .int v29), (0, .ref (ad 0))]) hx hb dX6_goRound_80 hl (k := 2) rfl rfl (by decide) rfl (fun ls hl => ?_)
            refine lv_goto (tgt := 9) hx hb dX6_goRound_83 (by decide) ?_
            exact ih9 _ _ H locs ls hP hS (lv_sub hl [2, 1, 0] rfl) h
          replace h := h1
          clear h1
          refine lv_if_eq (tgt := 78) hx hb dX6_goRound_71 (by decide) (fun cd => ?_) (fun cd => ?_)
          · have h := (if_pos cd).symm.trans h
            refine lv_iload_n hx hb dX6_goRound_78 rfl (lv_at hl 2 rfl) ?_
            cases h
            exact hJ30 H locs ls hP hS (lv_sub hl [1, 3] rfl)
          · have h := (if_neg cd).symm.trans h
            refine lv_iload_n hx hb dX6_goRound_74 rfl (lv_at hl 3 rfl) ?_
            refine lv_goto (tgt := 79) hx hb dX6_goRound_75 (by decide) ?_
            cases h
            exact hJ30 H locs ls hP hS (lv_sub hl [1, 3] rfl)
        replace h := h1
        clear h1
        refine lv_icmp_lt (tgt := 62) hx hb dX6_goRound_29 (by decide) (fun cd => ?_) (fun cd => ?_)
        · have h := (if_pos cd).symm.trans h
          refine lv_iconst (v := (1 : Int32)) hx hb dX6_goRound_62 (by decide) ?_
          refine lv_goto (tgt := 67) hx hb dX6_goRound_63 (by decide) ?_
          cases h
          exact hJ31 H locs ls hP hS (lv_sub hl [0, 1, 2] rfl)
        · have h := (if_neg cd).symm.trans h
          refine lv_aload_n hx hb dX6_goRound_32 rfl (lv_at hl 0 rfl) ?_
          refine gfX6_25 C hP dX6_goRound_33 ?_
          refine lv_iload_n hx hb dX6_goRound_36 rfl (lv_at hl 2 rfl) ?_
          refine rs_iald C hP yIA_6 dX6_goRound_37 h (fun v32 h => ?_)
          refine lv_aload_n hx hb dX6_goRound_38 rfl (lv_at hl 0 rfl) ?_
          refine gfX6_25 C hP dX6_goRound_39 ?_
          refine lv_iload_n hx hb dX6_goRound_42 rfl (lv_at hl 1 rfl) ?_
          refine rs_iald C hP yIA_6 dX6_goRound_43 h (fun v33 h => ?_)
          refine lv_icmp_ne (tgt := 66) hx hb dX6_goRound_44 (by decide) (fun cd => ?_) (fun cd => ?_)
          · have h := (if_neg cd).symm.trans h
            refine lv_iconst (v := (0 : Int32)) hx hb dX6_goRound_66 (by decide) ?_
            cases h
            exact hJ31 H locs ls hP hS (lv_sub hl [0, 1, 2] rfl)
          · have h := (if_pos cd).symm.trans h
            refine lv_aload_n hx hb dX6_goRound_47 rfl (lv_at hl 0 rfl) ?_
            refine gfX6_28 C hP dX6_goRound_48 ?_
            refine lv_iload_n hx hb dX6_goRound_51 rfl (lv_at hl 2 rfl) ?_
            refine rs_iald C hP yIA_7 dX6_goRound_52 h (fun v34 h => ?_)
            refine lv_aload_n hx hb dX6_goRound_53 rfl (lv_at hl 0 rfl) ?_
            refine gfX6_28 C hP dX6_goRound_54 ?_
            refine lv_iload_n hx hb dX6_goRound_57 rfl (lv_at hl 1 rfl) ?_
            refine rs_iald C hP yIA_7 dX6_goRound_58 h (fun v35 h => ?_)
            refine lv_icmp_ge (tgt := 66) hx hb dX6_goRound_59 (by decide) (fun cd => ?_) (fun cd => ?_)
            · have h := (if_pos cd).symm.trans h
              refine lv_iconst (v := (0 : Int32)) hx hb dX6_goRound_66 (by decide) ?_
              cases h
              exact hJ31 H locs ls hP hS (lv_sub hl [0, 1, 2] rfl)
            · have h := (if_neg cd).symm.trans h
              refine lv_iconst (v := (1 : Int32)) hx hb dX6_goRound_62 (by decide) ?_
              refine lv_goto (tgt := 67) hx hb dX6_goRound_63 (by decide) ?_
              cases h
              exact hJ31 H locs ls hP hS (lv_sub hl [0, 1, 2] rfl)
  exact hL9 N _ _ H locs ls hP hS (lv_sub hl [2, 1, 0] rfl) h
abbrev rX6_areaOf : Room := { frames := 2, cells := 0, slots := 0, locals := 54 }
theorem dX6_areaOf_0 : decode cX6_areaOf 0 = .ok (.aload_n 0, 1) := by decide +kernel
theorem dX6_areaOf_1 : decode cX6_areaOf 1 = .ok (.iload_n 1, 1) := by decide +kernel
theorem dX6_areaOf_2 : decode cX6_areaOf 2 = .ok (.invokevirtual 84, 3) := by decide +kernel
theorem dX6_areaOf_5 : decode cX6_areaOf 5 = .ok (.iconst 0, 1) := by decide +kernel
theorem dX6_areaOf_6 : decode cX6_areaOf 6 = .ok (.istore_n 2, 1) := by decide +kernel
theorem dX6_areaOf_7 : decode cX6_areaOf 7 = .ok (.iconst 0, 1) := by decide +kernel
theorem dX6_areaOf_8 : decode cX6_areaOf 8 = .ok (.istore_n 3, 1) := by decide +kernel
theorem dX6_areaOf_9 : decode cX6_areaOf 9 = .ok (.iload_n 3, 1) := by decide +kernel
theorem dX6_areaOf_10 : decode cX6_areaOf 10 = .ok (.aload_n 0, 1) := by decide +kernel
theorem dX6_areaOf_11 : decode cX6_areaOf 11 = .ok (.getfield 74, 3) := by decide +kernel
theorem dX6_areaOf_14 : decode cX6_areaOf 14 = .ok (.if_icmp .ge 51, 3) := by decide +kernel
theorem dX6_areaOf_17 : decode cX6_areaOf 17 = .ok (.iload_n 3, 1) := by decide +kernel
theorem dX6_areaOf_18 : decode cX6_areaOf 18 = .ok (.iconst 1, 1) := by decide +kernel
theorem dX6_areaOf_19 : decode cX6_areaOf 19 = .ok (.iadd, 1) := by decide +kernel
theorem dX6_areaOf_20 : decode cX6_areaOf 20 = .ok (.aload_n 0, 1) := by decide +kernel
theorem dX6_areaOf_21 : decode cX6_areaOf 21 = .ok (.getfield 74, 3) := by decide +kernel
theorem dX6_areaOf_24 : decode cX6_areaOf 24 = .ok (.irem, 1) := by decide +kernel
theorem dX6_areaOf_25 : decode cX6_areaOf 25 = .ok (.istore 4, 2) := by decide +kernel
theorem dX6_areaOf_27 : decode cX6_areaOf 27 = .ok (.iload_n 2, 1) := by decide +kernel
theorem dX6_areaOf_28 : decode cX6_areaOf 28 = .ok (.aload_n 0, 1) := by decide +kernel
theorem dX6_areaOf_29 : decode cX6_areaOf 29 = .ok (.getfield 31, 3) := by decide +kernel
theorem dX6_areaOf_32 : decode cX6_areaOf 32 = .ok (.iload_n 3, 1) := by decide +kernel
theorem dX6_areaOf_33 : decode cX6_areaOf 33 = .ok (.iaload, 1) := by decide +kernel
theorem dX6_areaOf_34 : decode cX6_areaOf 34 = .ok (.aload_n 0, 1) := by decide +kernel
theorem dX6_areaOf_35 : decode cX6_areaOf 35 = .ok (.getfield 34, 3) := by decide +kernel
theorem dX6_areaOf_38 : decode cX6_areaOf 38 = .ok (.iload 4, 2) := by decide +kernel
theorem dX6_areaOf_40 : decode cX6_areaOf 40 = .ok (.iaload, 1) := by decide +kernel
theorem dX6_areaOf_41 : decode cX6_areaOf 41 = .ok (.imul, 1) := by decide +kernel
theorem dX6_areaOf_42 : decode cX6_areaOf 42 = .ok (.aload_n 0, 1) := by decide +kernel
theorem dX6_areaOf_43 : decode cX6_areaOf 43 = .ok (.getfield 31, 3) := by decide +kernel
theorem dX6_areaOf_46 : decode cX6_areaOf 46 = .ok (.iload 4, 2) := by decide +kernel
theorem dX6_areaOf_48 : decode cX6_areaOf 48 = .ok (.iaload, 1) := by decide +kernel
theorem dX6_areaOf_49 : decode cX6_areaOf 49 = .ok (.aload_n 0, 1) := by decide +kernel
theorem dX6_areaOf_50 : decode cX6_areaOf 50 = .ok (.getfield 34, 3) := by decide +kernel
theorem dX6_areaOf_53 : decode cX6_areaOf 53 = .ok (.iload_n 3, 1) := by decide +kernel
theorem dX6_areaOf_54 : decode cX6_areaOf 54 = .ok (.iaload, 1) := by decide +kernel
theorem dX6_areaOf_55 : decode cX6_areaOf 55 = .ok (.imul, 1) := by decide +kernel
theorem dX6_areaOf_56 : decode cX6_areaOf 56 = .ok (.isub, 1) := by decide +kernel
theorem dX6_areaOf_57 : decode cX6_areaOf 57 = .ok (.iadd, 1) := by decide +kernel
theorem dX6_areaOf_58 : decode cX6_areaOf 58 = .ok (.istore_n 2, 1) := by decide +kernel
theorem dX6_areaOf_59 : decode cX6_areaOf 59 = .ok (.iinc 3 1, 3) := by decide +kernel
theorem dX6_areaOf_62 : decode cX6_areaOf 62 = .ok (.goto (-53), 3) := by decide +kernel
theorem dX6_areaOf_65 : decode cX6_areaOf 65 = .ok (.iload_n 2, 1) := by decide +kernel
theorem dX6_areaOf_66 : decode cX6_areaOf 66 = .ok (.ireturn, 1) := by decide +kernel
set_option maxRecDepth 100000 in
set_option maxHeartbeats 4000000 in
theorem kX6_areaOf (l : Launch) (D : va_G) (ad : Nat → Nat) (cI cJ : ClassId) (tP tR : Nat) (N : Nat) (M : Mem) (a1 : Int32)  (o : (Int32 × Mem)) (h : fX6_areaOf N M a1 = some o) : qMet l D cI cJ tP tR (yA ad) (yW ad cI cJ) yX6_areaOf cX6_areaOf 5 (some .int) rX6_areaOf [.ref (ad 0), .int a1] M (qQi D (yA ad) (yW ad cI cJ) o.1 o.2) := by
  refine rs_enterI (own := RX6) ⟨by decide +kernel, rfl, Nat.le_of_ble_eq_true rfl⟩ ?_
  intro p e s m args below meth c Q C hret H locs ls hP hS hl
  obtain ⟨hx, hb, -⟩ := id C
  have hl : lv_has ls 5 [(0, .ref (ad 0)), (1, .int a1)] := hl
  unfold fX6_areaOf at h
  refine lv_aload_n hx hb dX6_areaOf_0 rfl (lv_at hl 0 rfl) ?_
  refine lv_iload_n hx hb dX6_areaOf_1 rfl (lv_at hl 1 rfl) ?_
  obtain ⟨M1, h1, h⟩ := rs_bind h
  refine rs_goV (rs_runV (b := 0) (As := [.int a1]) (rest := []) C hP hS (kX6_goRound l D ad cI cJ tP tR N M a1 _ h1) mk_X6_goRound wd_629 (yR_0) rfl ⟨rfl, rfl, Nat.le_of_ble_eq_true rfl, Nat.le_of_ble_eq_true rfl⟩ rfl hl.1 (Nat.le_of_ble_eq_true rfl) dX6_areaOf_2) hS (fun H locs hP hS => ?_)
  refine lv_iconst (v := (0 : Int32)) hx hb dX6_areaOf_5 (by decide) ?_
  refine lv_istore_n (lv' := [(2, .int (0 : Int32)), (0, .ref (ad 0)), (1, .int a1)]) hx hb dX6_areaOf_6 rfl hl (by decide) rfl (fun ls hl => ?_)
  refine lv_iconst (v := (0 : Int32)) hx hb dX6_areaOf_7 (by decide) ?_
  refine lv_istore_n (lv' := [(3, .int (0 : Int32)), (2, .int (0 : Int32)), (0, .ref (ad 0)), (1, .int a1)]) hx hb dX6_areaOf_8 rfl hl (by decide) rfl (fun ls hl => ?_)
  have hL9 : ∀ (n9 : Nat) (v2 : Int32) (v3 : Int32) (H : Heap) (locs : List Loc) (ls : Array Slot), va_P D vwCl (yW ad cI cJ M1) H → va_S (yA ad) s.heap H locs → lv_has ls 5 [(0, .ref (ad 0)), (2, .int v2), (3, .int v3)] → lp (fun _ _ => none) (sX6_areaOf_9 M1) n9 v2 v3 = some o → W p l e rX6_areaOf s m args below meth c H locs 0 0 Q (F0 m 9 ls []) := by
    intro n9
    induction n9 with
    | zero => intro v2 v3 H locs ls hP hS hl h; have h : (none : Option (Int32 × Mem)) = some o := h; cases h
    | succ n9 ih9 =>
      intro v2 v3 H locs ls hP hS hl h
      have h : sX6_areaOf_9 M1 (lp (fun _ _ => none) (sX6_areaOf_9 M1) n9) v2 v3 = some o := h
      generalize lp (fun _ _ => none) (sX6_areaOf_9 M1) n9 = cont9 at h ih9
      unfold sX6_areaOf_9 at h
      refine lv_iload_n hx hb dX6_areaOf_9 rfl (lv_at hl 2 rfl) ?_
      refine lv_aload_n hx hb dX6_areaOf_10 rfl (lv_at hl 0 rfl) ?_
      refine gfX6_74 C hP dX6_areaOf_11 ?_
      refine lv_icmp_ge (tgt := 65) hx hb dX6_areaOf_14 (by decide) (fun cd => ?_) (fun cd => ?_)
      · have h := (if_pos cd).symm.trans h
        refine lv_iload_n hx hb dX6_areaOf_65 rfl (lv_at hl 1 rfl) ?_
        cases h
        exact hret H locs _ ls hP hS dX6_areaOf_66
      · have h := (if_neg cd).symm.trans h
        refine lv_iload_n hx hb dX6_areaOf_17 rfl (lv_at hl 2 rfl) ?_
        refine lv_iconst (v := (1 : Int32)) hx hb dX6_areaOf_18 (by decide) ?_
        refine lv_iadd hx hb dX6_areaOf_19 ?_
        refine lv_aload_n hx hb dX6_areaOf_20 rfl (lv_at hl 0 rfl) ?_
        refine gfX6_74 C hP dX6_areaOf_21 ?_
        refine rs_irem C dX6_areaOf_24 h (fun v4 h => ?_)
        refine lv_istore (lv' := [(4, .int v4), (0, .ref (ad 0)), (2, .int v2), (3, .int v3)]) hx hb dX6_areaOf_25 hl (by decide) rfl (fun ls hl => ?_)
        refine lv_iload_n hx hb dX6_areaOf_27 rfl (lv_at hl 2 rfl) ?_
        refine lv_aload_n hx hb dX6_areaOf_28 rfl (lv_at hl 1 rfl) ?_
        refine gfX6_31 C hP dX6_areaOf_29 ?_
        refine lv_iload_n hx hb dX6_areaOf_32 rfl (lv_at hl 3 rfl) ?_
        refine rs_iald C hP yIA_8 dX6_areaOf_33 h (fun v5 h => ?_)
        refine lv_aload_n hx hb dX6_areaOf_34 rfl (lv_at hl 1 rfl) ?_
        refine gfX6_34 C hP dX6_areaOf_35 ?_
        refine lv_iload hx hb dX6_areaOf_38 (lv_at hl 0 rfl) ?_
        refine rs_iald C hP yIA_9 dX6_areaOf_40 h (fun v6 h => ?_)
        refine lv_imul hx hb dX6_areaOf_41 ?_
        refine lv_aload_n hx hb dX6_areaOf_42 rfl (lv_at hl 1 rfl) ?_
        refine gfX6_31 C hP dX6_areaOf_43 ?_
        refine lv_iload hx hb dX6_areaOf_46 (lv_at hl 0 rfl) ?_
        refine rs_iald C hP yIA_8 dX6_areaOf_48 h (fun v7 h => ?_)
        refine lv_aload_n hx hb dX6_areaOf_49 rfl (lv_at hl 1 rfl) ?_
        refine gfX6_34 C hP dX6_areaOf_50 ?_
        refine lv_iload_n hx hb dX6_areaOf_53 rfl (lv_at hl 3 rfl) ?_
        refine rs_iald C hP yIA_9 dX6_areaOf_54 h (fun v8 h => ?_)
        refine lv_imul hx hb dX6_areaOf_55 ?_
        refine lv_isub hx hb dX6_areaOf_56 ?_
        refine lv_iadd hx hb dX6_areaOf_57 ?_
        refine lv_istore_n (lv' := [(2, .int (v2 + ((v5 * v6) - (v7 * v8)))), (4, .int v4), (0, .ref (ad 0)), (3, .int v3)]) hx hb dX6_areaOf_58 rfl hl (by decide) rfl (fun ls hl => ?_)
        refine lv_iinc (v := (v3 + 1)) (lv' := [(3, .int (v3 + 1)), (2, .int (v2 + ((v5 * v6) - (v7 * v8)))), (4, .int v4), (0, .ref (ad 0))]) hx hb dX6_areaOf_59 hl (k := 3) rfl rfl (by decide) rfl (fun ls hl => ?_)
        refine lv_goto (tgt := 9) hx hb dX6_areaOf_62 (by decide) ?_
        exact ih9 _ _ H locs ls hP hS (lv_sub hl [3, 1, 0] rfl) h
  exact hL9 N _ _ H locs ls hP hS (lv_sub hl [2, 1, 0] rfl) h
abbrev rX6_rimOf : Room := { frames := 2, cells := 0, slots := 0, locals := 54 }
theorem dX6_rimOf_0 : decode cX6_rimOf 0 = .ok (.aload_n 0, 1) := by decide +kernel
theorem dX6_rimOf_1 : decode cX6_rimOf 1 = .ok (.iload_n 1, 1) := by decide +kernel
theorem dX6_rimOf_2 : decode cX6_rimOf 2 = .ok (.invokevirtual 84, 3) := by decide +kernel
theorem dX6_rimOf_5 : decode cX6_rimOf 5 = .ok (.iconst 0, 1) := by decide +kernel
theorem dX6_rimOf_6 : decode cX6_rimOf 6 = .ok (.istore_n 2, 1) := by decide +kernel
theorem dX6_rimOf_7 : decode cX6_rimOf 7 = .ok (.iconst 0, 1) := by decide +kernel
theorem dX6_rimOf_8 : decode cX6_rimOf 8 = .ok (.istore_n 3, 1) := by decide +kernel
theorem dX6_rimOf_9 : decode cX6_rimOf 9 = .ok (.iload_n 3, 1) := by decide +kernel
theorem dX6_rimOf_10 : decode cX6_rimOf 10 = .ok (.aload_n 0, 1) := by decide +kernel
theorem dX6_rimOf_11 : decode cX6_rimOf 11 = .ok (.getfield 74, 3) := by decide +kernel
theorem dX6_rimOf_14 : decode cX6_rimOf 14 = .ok (.if_icmp .ge 53, 3) := by decide +kernel
theorem dX6_rimOf_17 : decode cX6_rimOf 17 = .ok (.iload_n 3, 1) := by decide +kernel
theorem dX6_rimOf_18 : decode cX6_rimOf 18 = .ok (.iconst 1, 1) := by decide +kernel
theorem dX6_rimOf_19 : decode cX6_rimOf 19 = .ok (.iadd, 1) := by decide +kernel
theorem dX6_rimOf_20 : decode cX6_rimOf 20 = .ok (.aload_n 0, 1) := by decide +kernel
theorem dX6_rimOf_21 : decode cX6_rimOf 21 = .ok (.getfield 74, 3) := by decide +kernel
theorem dX6_rimOf_24 : decode cX6_rimOf 24 = .ok (.irem, 1) := by decide +kernel
theorem dX6_rimOf_25 : decode cX6_rimOf 25 = .ok (.istore 4, 2) := by decide +kernel
theorem dX6_rimOf_27 : decode cX6_rimOf 27 = .ok (.iload_n 2, 1) := by decide +kernel
theorem dX6_rimOf_28 : decode cX6_rimOf 28 = .ok (.aload_n 0, 1) := by decide +kernel
theorem dX6_rimOf_29 : decode cX6_rimOf 29 = .ok (.getfield 31, 3) := by decide +kernel
theorem dX6_rimOf_32 : decode cX6_rimOf 32 = .ok (.iload 4, 2) := by decide +kernel
theorem dX6_rimOf_34 : decode cX6_rimOf 34 = .ok (.iaload, 1) := by decide +kernel
theorem dX6_rimOf_35 : decode cX6_rimOf 35 = .ok (.aload_n 0, 1) := by decide +kernel
theorem dX6_rimOf_36 : decode cX6_rimOf 36 = .ok (.getfield 31, 3) := by decide +kernel
theorem dX6_rimOf_39 : decode cX6_rimOf 39 = .ok (.iload_n 3, 1) := by decide +kernel
theorem dX6_rimOf_40 : decode cX6_rimOf 40 = .ok (.iaload, 1) := by decide +kernel
theorem dX6_rimOf_41 : decode cX6_rimOf 41 = .ok (.isub, 1) := by decide +kernel
theorem dX6_rimOf_42 : decode cX6_rimOf 42 = .ok (.aload_n 0, 1) := by decide +kernel
theorem dX6_rimOf_43 : decode cX6_rimOf 43 = .ok (.getfield 34, 3) := by decide +kernel
theorem dX6_rimOf_46 : decode cX6_rimOf 46 = .ok (.iload 4, 2) := by decide +kernel
theorem dX6_rimOf_48 : decode cX6_rimOf 48 = .ok (.iaload, 1) := by decide +kernel
theorem dX6_rimOf_49 : decode cX6_rimOf 49 = .ok (.aload_n 0, 1) := by decide +kernel
theorem dX6_rimOf_50 : decode cX6_rimOf 50 = .ok (.getfield 34, 3) := by decide +kernel
theorem dX6_rimOf_53 : decode cX6_rimOf 53 = .ok (.iload_n 3, 1) := by decide +kernel
theorem dX6_rimOf_54 : decode cX6_rimOf 54 = .ok (.iaload, 1) := by decide +kernel
theorem dX6_rimOf_55 : decode cX6_rimOf 55 = .ok (.isub, 1) := by decide +kernel
theorem dX6_rimOf_56 : decode cX6_rimOf 56 = .ok (.invokestatic 87, 3) := by decide +kernel
theorem dX6_rimOf_59 : decode cX6_rimOf 59 = .ok (.iadd, 1) := by decide +kernel
theorem dX6_rimOf_60 : decode cX6_rimOf 60 = .ok (.istore_n 2, 1) := by decide +kernel
theorem dX6_rimOf_61 : decode cX6_rimOf 61 = .ok (.iinc 3 1, 3) := by decide +kernel
theorem dX6_rimOf_64 : decode cX6_rimOf 64 = .ok (.goto (-55), 3) := by decide +kernel
theorem dX6_rimOf_67 : decode cX6_rimOf 67 = .ok (.aload_n 0, 1) := by decide +kernel
theorem dX6_rimOf_68 : decode cX6_rimOf 68 = .ok (.getfield 74, 3) := by decide +kernel
theorem dX6_rimOf_71 : decode cX6_rimOf 71 = .ok (.iconst 1, 1) := by decide +kernel
theorem dX6_rimOf_72 : decode cX6_rimOf 72 = .ok (.if_icmp .ne 7, 3) := by decide +kernel
theorem dX6_rimOf_75 : decode cX6_rimOf 75 = .ok (.iconst 1, 1) := by decide +kernel
theorem dX6_rimOf_76 : decode cX6_rimOf 76 = .ok (.goto 20, 3) := by decide +kernel
theorem dX6_rimOf_79 : decode cX6_rimOf 79 = .ok (.aload_n 0, 1) := by decide +kernel
theorem dX6_rimOf_80 : decode cX6_rimOf 80 = .ok (.getfield 74, 3) := by decide +kernel
theorem dX6_rimOf_83 : decode cX6_rimOf 83 = .ok (.iconst 2, 1) := by decide +kernel
theorem dX6_rimOf_84 : decode cX6_rimOf 84 = .ok (.if_icmp .ne 11, 3) := by decide +kernel
theorem dX6_rimOf_87 : decode cX6_rimOf 87 = .ok (.iload_n 2, 1) := by decide +kernel
theorem dX6_rimOf_88 : decode cX6_rimOf 88 = .ok (.iconst 2, 1) := by decide +kernel
theorem dX6_rimOf_89 : decode cX6_rimOf 89 = .ok (.idiv, 1) := by decide +kernel
theorem dX6_rimOf_90 : decode cX6_rimOf 90 = .ok (.iconst 1, 1) := by decide +kernel
theorem dX6_rimOf_91 : decode cX6_rimOf 91 = .ok (.iadd, 1) := by decide +kernel
theorem dX6_rimOf_92 : decode cX6_rimOf 92 = .ok (.goto 4, 3) := by decide +kernel
theorem dX6_rimOf_95 : decode cX6_rimOf 95 = .ok (.iload_n 2, 1) := by decide +kernel
theorem dX6_rimOf_96 : decode cX6_rimOf 96 = .ok (.ireturn, 1) := by decide +kernel
set_option maxRecDepth 100000 in
set_option maxHeartbeats 4000000 in
theorem kX6_rimOf (l : Launch) (D : va_G) (ad : Nat → Nat) (cI cJ : ClassId) (tP tR : Nat) (N : Nat) (M : Mem) (a1 : Int32)  (o : (Int32 × Mem)) (h : fX6_rimOf N M a1 = some o) : qMet l D cI cJ tP tR (yA ad) (yW ad cI cJ) yX6_rimOf cX6_rimOf 5 (some .int) rX6_rimOf [.ref (ad 0), .int a1] M (qQi D (yA ad) (yW ad cI cJ) o.1 o.2) := by
  refine rs_enterI (own := RX6) ⟨by decide +kernel, rfl, Nat.le_of_ble_eq_true rfl⟩ ?_
  intro p e s m args below meth c Q C hret H locs ls hP hS hl
  obtain ⟨hx, hb, -⟩ := id C
  have hl : lv_has ls 5 [(0, .ref (ad 0)), (1, .int a1)] := hl
  unfold fX6_rimOf at h
  refine lv_aload_n hx hb dX6_rimOf_0 rfl (lv_at hl 0 rfl) ?_
  refine lv_iload_n hx hb dX6_rimOf_1 rfl (lv_at hl 1 rfl) ?_
  obtain ⟨M1, h1, h⟩ := rs_bind h
  refine rs_goV (rs_runV (b := 0) (As := [.int a1]) (rest := []) C hP hS (kX6_goRound l D ad cI cJ tP tR N M a1 _ h1) mk_X6_goRound wd_629 (yR_0) rfl ⟨rfl, rfl, Nat.le_of_ble_eq_true rfl, Nat.le_of_ble_eq_true rfl⟩ rfl hl.1 (Nat.le_of_ble_eq_true rfl) dX6_rimOf_2) hS (fun H locs hP hS => ?_)
  refine lv_iconst (v := (0 : Int32)) hx hb dX6_rimOf_5 (by decide) ?_
  refine lv_istore_n (lv' := [(2, .int (0 : Int32)), (0, .ref (ad 0)), (1, .int a1)]) hx hb dX6_rimOf_6 rfl hl (by decide) rfl (fun ls hl => ?_)
  refine lv_iconst (v := (0 : Int32)) hx hb dX6_rimOf_7 (by decide) ?_
  refine lv_istore_n (lv' := [(3, .int (0 : Int32)), (2, .int (0 : Int32)), (0, .ref (ad 0)), (1, .int a1)]) hx hb dX6_rimOf_8 rfl hl (by decide) rfl (fun ls hl => ?_)
  obtain ⟨v2, h1, h⟩ := rs_bind h
  have hJ4 : ∀ (H : Heap) (locs : List Loc) (ls : Array Slot), va_P D vwCl (yW ad cI cJ M1) H → va_S (yA ad) s.heap H locs → lv_has ls 5 [(0, .ref (ad 0)), (2, .int v2)] → W p l e rX6_rimOf s m args below meth c H locs 0 0 Q (F0 m 67 ls []) := by
    intro H locs ls hP hS hl
    refine lv_aload_n hx hb dX6_rimOf_67 rfl (lv_at hl 0 rfl) ?_
    refine gfX6_74 C hP dX6_rimOf_68 ?_
    refine lv_iconst (v := (1 : Int32)) hx hb dX6_rimOf_71 (by decide) ?_
    refine lv_icmp_ne (tgt := 79) hx hb dX6_rimOf_72 (by decide) (fun cd => ?_) (fun cd => ?_)
    · have h := (if_neg cd).symm.trans h
      refine lv_aload_n hx hb dX6_rimOf_79 rfl (lv_at hl 0 rfl) ?_
      refine gfX6_74 C hP dX6_rimOf_80 ?_
      refine lv_iconst (v := (2 : Int32)) hx hb dX6_rimOf_83 (by decide) ?_
      refine lv_icmp_ne (tgt := 95) hx hb dX6_rimOf_84 (by decide) (fun cd => ?_) (fun cd => ?_)
      · have h := (if_neg cd).symm.trans h
        refine lv_iload_n hx hb dX6_rimOf_95 rfl (lv_at hl 1 rfl) ?_
        cases h
        exact hret H locs _ ls hP hS dX6_rimOf_96
      · have h := (if_pos cd).symm.trans h
        refine lv_iload_n hx hb dX6_rimOf_87 rfl (lv_at hl 1 rfl) ?_
        refine lv_iconst (v := (2 : Int32)) hx hb dX6_rimOf_88 (by decide) ?_
        refine rs_idiv C dX6_rimOf_89 h (fun v3 h => ?_)
        refine lv_iconst (v := (1 : Int32)) hx hb dX6_rimOf_90 (by decide) ?_
        refine lv_iadd hx hb dX6_rimOf_91 ?_
        refine lv_goto (tgt := 96) hx hb dX6_rimOf_92 (by decide) ?_
        cases h
        exact hret H locs _ ls hP hS dX6_rimOf_96
    · have h := (if_pos cd).symm.trans h
      refine lv_iconst (v := (1 : Int32)) hx hb dX6_rimOf_75 (by decide) ?_
      refine lv_goto (tgt := 96) hx hb dX6_rimOf_76 (by decide) ?_
      cases h
      exact hret H locs _ ls hP hS dX6_rimOf_96
  replace h := h1
  clear h1
  have hL9 : ∀ (n9 : Nat) (v5 : Int32) (v6 : Int32) (H : Heap) (locs : List Loc) (ls : Array Slot), va_P D vwCl (yW ad cI cJ M1) H → va_S (yA ad) s.heap H locs → lv_has ls 5 [(0, .ref (ad 0)), (2, .int v5), (3, .int v6)] → lp (fun _ _ => none) (sX6_rimOf_9 M1 N) n9 v5 v6 = some v2 → W p l e rX6_rimOf s m args below meth c H locs 0 0 Q (F0 m 9 ls []) := by
    intro n9
    induction n9 with
    | zero => intro v5 v6 H locs ls hP hS hl h; have h : (none : Option Int32) = some v2 := h; cases h
    | succ n9 ih9 =>
      intro v5 v6 H locs ls hP hS hl h
      have h : sX6_rimOf_9 M1 N (lp (fun _ _ => none) (sX6_rimOf_9 M1 N) n9) v5 v6 = some v2 := h
      generalize lp (fun _ _ => none) (sX6_rimOf_9 M1 N) n9 = cont9 at h ih9
      unfold sX6_rimOf_9 at h
      refine lv_iload_n hx hb dX6_rimOf_9 rfl (lv_at hl 2 rfl) ?_
      refine lv_aload_n hx hb dX6_rimOf_10 rfl (lv_at hl 0 rfl) ?_
      refine gfX6_74 C hP dX6_rimOf_11 ?_
      refine lv_icmp_ge (tgt := 67) hx hb dX6_rimOf_14 (by decide) (fun cd => ?_) (fun cd => ?_)
      · have h := (if_pos cd).symm.trans h
        cases h
        exact hJ4 H locs ls hP hS (lv_sub hl [0, 1] rfl)
      · have h := (if_neg cd).symm.trans h
        refine lv_iload_n hx hb dX6_rimOf_17 rfl (lv_at hl 2 rfl) ?_
        refine lv_iconst (v := (1 : Int32)) hx hb dX6_rimOf_18 (by decide) ?_
        refine lv_iadd hx hb dX6_rimOf_19 ?_
        refine lv_aload_n hx hb dX6_rimOf_20 rfl (lv_at hl 0 rfl) ?_
        refine gfX6_74 C hP dX6_rimOf_21 ?_
        refine rs_irem C dX6_rimOf_24 h (fun v7 h => ?_)
        refine lv_istore (lv' := [(4, .int v7), (0, .ref (ad 0)), (2, .int v5), (3, .int v6)]) hx hb dX6_rimOf_25 hl (by decide) rfl (fun ls hl => ?_)
        refine lv_iload_n hx hb dX6_rimOf_27 rfl (lv_at hl 2 rfl) ?_
        refine lv_aload_n hx hb dX6_rimOf_28 rfl (lv_at hl 1 rfl) ?_
        refine gfX6_31 C hP dX6_rimOf_29 ?_
        refine lv_iload hx hb dX6_rimOf_32 (lv_at hl 0 rfl) ?_
        refine rs_iald C hP yIA_8 dX6_rimOf_34 h (fun v8 h => ?_)
        refine lv_aload_n hx hb dX6_rimOf_35 rfl (lv_at hl 1 rfl) ?_
        refine gfX6_31 C hP dX6_rimOf_36 ?_
        refine lv_iload_n hx hb dX6_rimOf_39 rfl (lv_at hl 3 rfl) ?_
        refine rs_iald C hP yIA_8 dX6_rimOf_40 h (fun v9 h => ?_)
        refine lv_isub hx hb dX6_rimOf_41 ?_
        refine lv_aload_n hx hb dX6_rimOf_42 rfl (lv_at hl 1 rfl) ?_
        refine gfX6_34 C hP dX6_rimOf_43 ?_
        refine lv_iload hx hb dX6_rimOf_46 (lv_at hl 0 rfl) ?_
        refine rs_iald C hP yIA_9 dX6_rimOf_48 h (fun v10 h => ?_)
        refine lv_aload_n hx hb dX6_rimOf_49 rfl (lv_at hl 1 rfl) ?_
        refine gfX6_34 C hP dX6_rimOf_50 ?_
        refine lv_iload_n hx hb dX6_rimOf_53 rfl (lv_at hl 3 rfl) ?_
        refine rs_iald C hP yIA_9 dX6_rimOf_54 h (fun v11 h => ?_)
        refine lv_isub hx hb dX6_rimOf_55 ?_
        obtain ⟨v12, h1, h⟩ := rs_bind h
        refine rs_goI (rs_runS (As := [.int (v8 - v9), .int (v10 - v11)]) (rest := [.int v5]) C hP hS (kX6_common l D ad cI cJ tP tR N M1 (v8 - v9) (v10 - v11) _ h1) mk_X6_common wd_649 rfl ⟨rfl, rfl, Nat.le_of_ble_eq_true rfl, Nat.le_of_ble_eq_true rfl⟩ rfl hl.1 (Nat.le_of_ble_eq_true rfl) dX6_rimOf_56) hS (fun H locs hP hS => ?_)
        refine lv_iadd hx hb dX6_rimOf_59 ?_
        refine lv_istore_n (lv' := [(2, .int (v5 + v12)), (4, .int v7), (0, .ref (ad 0)), (3, .int v6)]) hx hb dX6_rimOf_60 rfl hl (by decide) rfl (fun ls hl => ?_)
        refine lv_iinc (v := (v6 + 1)) (lv' := [(3, .int (v6 + 1)), (2, .int (v5 + v12)), (4, .int v7), (0, .ref (ad 0))]) hx hb dX6_rimOf_61 hl (k := 3) rfl rfl (by decide) rfl (fun ls hl => ?_)
        refine lv_goto (tgt := 9) hx hb dX6_rimOf_64 (by decide) ?_
        exact ih9 _ _ H locs ls hP hS (lv_sub hl [3, 1, 0] rfl) h
  exact hL9 N _ _ H locs ls hP hS (lv_sub hl [2, 1, 0] rfl) h
abbrev rX6_shape : Room := { frames := 3, cells := 0, slots := 0, locals := 78 }
theorem dX6_shape_0 : decode cX6_shape 0 = .ok (.iload_n 1, 1) := by decide +kernel
theorem dX6_shape_1 : decode cX6_shape 1 = .ok (.i2l, 1) := by decide +kernel
theorem dX6_shape_2 : decode cX6_shape 2 = .ok (.lconst 0, 1) := by decide +kernel
theorem dX6_shape_3 : decode cX6_shape 3 = .ok (.ldc2_w 91, 3) := by decide +kernel
theorem dX6_shape_6 : decode cX6_shape 6 = .ok (.invokestatic 48, 3) := by decide +kernel
theorem dX6_shape_9 : decode cX6_shape 9 = .ok (.ifCond .ne 5, 3) := by decide +kernel
theorem dX6_shape_12 : decode cX6_shape 12 = .ok (.iconst (-1), 1) := by decide +kernel
theorem dX6_shape_13 : decode cX6_shape 13 = .ok (.ireturn, 1) := by decide +kernel
theorem dX6_shape_14 : decode cX6_shape 14 = .ok (.iload_n 2, 1) := by decide +kernel
theorem dX6_shape_15 : decode cX6_shape 15 = .ok (.i2l, 1) := by decide +kernel
theorem dX6_shape_16 : decode cX6_shape 16 = .ok (.lconst 0, 1) := by decide +kernel
theorem dX6_shape_17 : decode cX6_shape 17 = .ok (.ldc2_w 93, 3) := by decide +kernel
theorem dX6_shape_20 : decode cX6_shape 20 = .ok (.invokestatic 48, 3) := by decide +kernel
theorem dX6_shape_23 : decode cX6_shape 23 = .ok (.ifCond .ne 6, 3) := by decide +kernel
theorem dX6_shape_26 : decode cX6_shape 26 = .ok (.bipush (-2), 2) := by decide +kernel
theorem dX6_shape_28 : decode cX6_shape 28 = .ok (.ireturn, 1) := by decide +kernel
theorem dX6_shape_29 : decode cX6_shape 29 = .ok (.aload_n 0, 1) := by decide +kernel
theorem dX6_shape_30 : decode cX6_shape 30 = .ok (.iload_n 1, 1) := by decide +kernel
theorem dX6_shape_31 : decode cX6_shape 31 = .ok (.invokevirtual 95, 3) := by decide +kernel
theorem dX6_shape_34 : decode cX6_shape 34 = .ok (.ifCond .ne 6, 3) := by decide +kernel
theorem dX6_shape_37 : decode cX6_shape 37 = .ok (.bipush (-3), 2) := by decide +kernel
theorem dX6_shape_39 : decode cX6_shape 39 = .ok (.ireturn, 1) := by decide +kernel
theorem dX6_shape_40 : decode cX6_shape 40 = .ok (.aload_n 0, 1) := by decide +kernel
theorem dX6_shape_41 : decode cX6_shape 41 = .ok (.iload_n 1, 1) := by decide +kernel
theorem dX6_shape_42 : decode cX6_shape 42 = .ok (.invokevirtual 98, 3) := by decide +kernel
theorem dX6_shape_45 : decode cX6_shape 45 = .ok (.istore_n 3, 1) := by decide +kernel
theorem dX6_shape_46 : decode cX6_shape 46 = .ok (.aload_n 0, 1) := by decide +kernel
theorem dX6_shape_47 : decode cX6_shape 47 = .ok (.iload_n 1, 1) := by decide +kernel
theorem dX6_shape_48 : decode cX6_shape 48 = .ok (.invokevirtual 101, 3) := by decide +kernel
theorem dX6_shape_51 : decode cX6_shape 51 = .ok (.istore 4, 2) := by decide +kernel
theorem dX6_shape_53 : decode cX6_shape 53 = .ok (.iload_n 2, 1) := by decide +kernel
theorem dX6_shape_54 : decode cX6_shape 54 = .ok (.ifCond .ne 7, 3) := by decide +kernel
theorem dX6_shape_57 : decode cX6_shape 57 = .ok (.iload_n 3, 1) := by decide +kernel
theorem dX6_shape_58 : decode cX6_shape 58 = .ok (.goto 45, 3) := by decide +kernel
theorem dX6_shape_61 : decode cX6_shape 61 = .ok (.iload_n 2, 1) := by decide +kernel
theorem dX6_shape_62 : decode cX6_shape 62 = .ok (.iconst 1, 1) := by decide +kernel
theorem dX6_shape_63 : decode cX6_shape 63 = .ok (.if_icmp .ne 10, 3) := by decide +kernel
theorem dX6_shape_66 : decode cX6_shape 66 = .ok (.aload_n 0, 1) := by decide +kernel
theorem dX6_shape_67 : decode cX6_shape 67 = .ok (.getfield 74, 3) := by decide +kernel
theorem dX6_shape_70 : decode cX6_shape 70 = .ok (.goto 33, 3) := by decide +kernel
theorem dX6_shape_73 : decode cX6_shape 73 = .ok (.iload_n 2, 1) := by decide +kernel
theorem dX6_shape_74 : decode cX6_shape 74 = .ok (.iconst 2, 1) := by decide +kernel
theorem dX6_shape_75 : decode cX6_shape 75 = .ok (.if_icmp .ne 8, 3) := by decide +kernel
theorem dX6_shape_78 : decode cX6_shape 78 = .ok (.iload 4, 2) := by decide +kernel
theorem dX6_shape_80 : decode cX6_shape 80 = .ok (.goto 23, 3) := by decide +kernel
theorem dX6_shape_83 : decode cX6_shape 83 = .ok (.aload_n 0, 1) := by decide +kernel
theorem dX6_shape_84 : decode cX6_shape 84 = .ok (.getfield 74, 3) := by decide +kernel
theorem dX6_shape_87 : decode cX6_shape 87 = .ok (.iconst 3, 1) := by decide +kernel
theorem dX6_shape_88 : decode cX6_shape 88 = .ok (.if_icmp .ge 7, 3) := by decide +kernel
theorem dX6_shape_91 : decode cX6_shape 91 = .ok (.iconst 0, 1) := by decide +kernel
theorem dX6_shape_92 : decode cX6_shape 92 = .ok (.goto 11, 3) := by decide +kernel
theorem dX6_shape_95 : decode cX6_shape 95 = .ok (.iload_n 3, 1) := by decide +kernel
theorem dX6_shape_96 : decode cX6_shape 96 = .ok (.iload 4, 2) := by decide +kernel
theorem dX6_shape_98 : decode cX6_shape 98 = .ok (.isub, 1) := by decide +kernel
theorem dX6_shape_99 : decode cX6_shape 99 = .ok (.iconst 2, 1) := by decide +kernel
theorem dX6_shape_100 : decode cX6_shape 100 = .ok (.iadd, 1) := by decide +kernel
theorem dX6_shape_101 : decode cX6_shape 101 = .ok (.iconst 2, 1) := by decide +kernel
theorem dX6_shape_102 : decode cX6_shape 102 = .ok (.idiv, 1) := by decide +kernel
theorem dX6_shape_103 : decode cX6_shape 103 = .ok (.ireturn, 1) := by decide +kernel
set_option maxRecDepth 100000 in
set_option maxHeartbeats 4000000 in
theorem kX6_shape (l : Launch) (D : va_G) (ad : Nat → Nat) (cI cJ : ClassId) (tP tR : Nat) (N : Nat) (M : Mem) (a1 : Int32) (a2 : Int32)  (o : (Int32 × Mem)) (h : fX6_shape N M a1 a2 = some o) : qMet l D cI cJ tP tR (yA ad) (yW ad cI cJ) yX6_shape cX6_shape 5 (some .int) rX6_shape [.ref (ad 0), .int a1, .int a2] M (qQi D (yA ad) (yW ad cI cJ) o.1 o.2) := by
  refine rs_enterI (own := RX6) ⟨by decide +kernel, rfl, Nat.le_of_ble_eq_true rfl⟩ ?_
  intro p e s m args below meth c Q C hret H locs ls hP hS hl
  obtain ⟨hx, hb, -⟩ := id C
  have hl : lv_has ls 5 [(0, .ref (ad 0)), (1, .int a1), (2, .int a2)] := hl
  unfold fX6_shape at h
  refine lv_iload_n hx hb dX6_shape_0 rfl (lv_at hl 1 rfl) ?_
  refine lv_i2l hx hb dX6_shape_1 rfl ?_
  refine lv_lconst (v := (0 : Int64)) hx hb dX6_shape_2 (by decide) ?_
  refine rs_ldc2 (v := (2 : Int64)) C wd_619 dX6_shape_3 ?_
  obtain ⟨v1, h1, h⟩ := rs_bind h
  refine rs_goI (rs_runS (As := [.long (Int32.toInt64 a1), .long (0 : Int64), .long (2 : Int64)]) (rest := []) C hP hS (kX6_in l D ad cI cJ tP tR M (Int32.toInt64 a1) (0 : Int64) (2 : Int64) _ h1) mk_X6_in wd_593 rfl ⟨rfl, rfl, Nat.le_of_ble_eq_true rfl, Nat.le_of_ble_eq_true rfl⟩ rfl hl.1 (Nat.le_of_ble_eq_true rfl) dX6_shape_6) hS (fun H locs hP hS => ?_)
  refine lv_if_ne (tgt := 14) hx hb dX6_shape_9 (by decide) (fun cd => ?_) (fun cd => ?_)
  · have h := (if_neg cd).symm.trans h
    refine lv_iload_n hx hb dX6_shape_14 rfl (lv_at hl 2 rfl) ?_
    refine lv_i2l hx hb dX6_shape_15 rfl ?_
    refine lv_lconst (v := (0 : Int64)) hx hb dX6_shape_16 (by decide) ?_
    refine rs_ldc2 (v := (3 : Int64)) C wd_620 dX6_shape_17 ?_
    obtain ⟨v2, h1, h⟩ := rs_bind h
    refine rs_goI (rs_runS (As := [.long (Int32.toInt64 a2), .long (0 : Int64), .long (3 : Int64)]) (rest := []) C hP hS (kX6_in l D ad cI cJ tP tR M (Int32.toInt64 a2) (0 : Int64) (3 : Int64) _ h1) mk_X6_in wd_593 rfl ⟨rfl, rfl, Nat.le_of_ble_eq_true rfl, Nat.le_of_ble_eq_true rfl⟩ rfl hl.1 (Nat.le_of_ble_eq_true rfl) dX6_shape_20) hS (fun H locs hP hS => ?_)
    refine lv_if_ne (tgt := 29) hx hb dX6_shape_23 (by decide) (fun cd => ?_) (fun cd => ?_)
    · have h := (if_neg cd).symm.trans h
      refine lv_aload_n hx hb dX6_shape_29 rfl (lv_at hl 0 rfl) ?_
      refine lv_iload_n hx hb dX6_shape_30 rfl (lv_at hl 1 rfl) ?_
      obtain ⟨v3, h1, h⟩ := rs_bind h
      refine rs_goI (rs_runV (b := 0) (As := [.int a1]) (rest := []) C hP hS (kX6_isThere l D ad cI cJ tP tR M a1 _ h1) mk_X6_isThere wd_621 (yR_0) rfl ⟨rfl, rfl, Nat.le_of_ble_eq_true rfl, Nat.le_of_ble_eq_true rfl⟩ rfl hl.1 (Nat.le_of_ble_eq_true rfl) dX6_shape_31) hS (fun H locs hP hS => ?_)
      refine lv_if_ne (tgt := 40) hx hb dX6_shape_34 (by decide) (fun cd => ?_) (fun cd => ?_)
      · have h := (if_neg cd).symm.trans h
        refine lv_aload_n hx hb dX6_shape_40 rfl (lv_at hl 0 rfl) ?_
        refine lv_iload_n hx hb dX6_shape_41 rfl (lv_at hl 1 rfl) ?_
        obtain ⟨⟨v5, M4⟩, h1, h⟩ := rs_bind h
        dsimp only at h
        refine rs_goI (rs_runV (b := 0) (As := [.int a1]) (rest := []) C hP hS (kX6_areaOf l D ad cI cJ tP tR N M a1 _ h1) mk_X6_areaOf wd_625 (yR_0) rfl ⟨rfl, rfl, Nat.le_of_ble_eq_true rfl, Nat.le_of_ble_eq_true rfl⟩ rfl hl.1 (Nat.le_of_ble_eq_true rfl) dX6_shape_42) hS (fun H locs hP hS => ?_)
        refine lv_istore_n (lv' := [(3, .int v5), (0, .ref (ad 0)), (1, .int a1), (2, .int a2)]) hx hb dX6_shape_45 rfl hl (by decide) rfl (fun ls hl => ?_)
        refine lv_aload_n hx hb dX6_shape_46 rfl (lv_at hl 1 rfl) ?_
        refine lv_iload_n hx hb dX6_shape_47 rfl (lv_at hl 2 rfl) ?_
        obtain ⟨⟨v8, M7⟩, h1, h⟩ := rs_bind h
        dsimp only at h
        refine rs_goI (rs_runV (b := 0) (As := [.int a1]) (rest := []) C hP hS (kX6_rimOf l D ad cI cJ tP tR N M4 a1 _ h1) mk_X6_rimOf wd_645 (yR_0) rfl ⟨rfl, rfl, Nat.le_of_ble_eq_true rfl, Nat.le_of_ble_eq_true rfl⟩ rfl hl.1 (Nat.le_of_ble_eq_true rfl) dX6_shape_48) hS (fun H locs hP hS => ?_)
        refine lv_istore (lv' := [(4, .int v8), (3, .int v5), (0, .ref (ad 0)), (1, .int a1), (2, .int a2)]) hx hb dX6_shape_51 hl (by decide) rfl (fun ls hl => ?_)
        refine lv_iload_n hx hb dX6_shape_53 rfl (lv_at hl 4 rfl) ?_
        refine lv_if_ne (tgt := 61) hx hb dX6_shape_54 (by decide) (fun cd => ?_) (fun cd => ?_)
        · have h := (if_neg cd).symm.trans h
          refine lv_iload_n hx hb dX6_shape_61 rfl (lv_at hl 4 rfl) ?_
          refine lv_iconst (v := (1 : Int32)) hx hb dX6_shape_62 (by decide) ?_
          refine lv_icmp_ne (tgt := 73) hx hb dX6_shape_63 (by decide) (fun cd => ?_) (fun cd => ?_)
          · have h := (if_neg cd).symm.trans h
            refine lv_iload_n hx hb dX6_shape_73 rfl (lv_at hl 4 rfl) ?_
            refine lv_iconst (v := (2 : Int32)) hx hb dX6_shape_74 (by decide) ?_
            refine lv_icmp_ne (tgt := 83) hx hb dX6_shape_75 (by decide) (fun cd => ?_) (fun cd => ?_)
            · have h := (if_neg cd).symm.trans h
              refine lv_aload_n hx hb dX6_shape_83 rfl (lv_at hl 2 rfl) ?_
              refine gfX6_74 C hP dX6_shape_84 ?_
              refine lv_iconst (v := (3 : Int32)) hx hb dX6_shape_87 (by decide) ?_
              refine lv_icmp_ge (tgt := 95) hx hb dX6_shape_88 (by decide) (fun cd => ?_) (fun cd => ?_)
              · have h := (if_pos cd).symm.trans h
                refine lv_iload_n hx hb dX6_shape_95 rfl (lv_at hl 1 rfl) ?_
                refine lv_iload hx hb dX6_shape_96 (lv_at hl 0 rfl) ?_
                refine lv_isub hx hb dX6_shape_98 ?_
                refine lv_iconst (v := (2 : Int32)) hx hb dX6_shape_99 (by decide) ?_
                refine lv_iadd hx hb dX6_shape_100 ?_
                refine lv_iconst (v := (2 : Int32)) hx hb dX6_shape_101 (by decide) ?_
                refine rs_idiv C dX6_shape_102 h (fun v10 h => ?_)
                cases h
                exact hret H locs _ ls hP hS dX6_shape_103
              · have h := (if_neg cd).symm.trans h
                refine lv_iconst (v := (0 : Int32)) hx hb dX6_shape_91 (by decide) ?_
                refine lv_goto (tgt := 103) hx hb dX6_shape_92 (by decide) ?_
                cases h
                exact hret H locs _ ls hP hS dX6_shape_103
            · have h := (if_pos cd).symm.trans h
              refine lv_iload hx hb dX6_shape_78 (lv_at hl 0 rfl) ?_
              refine lv_goto (tgt := 103) hx hb dX6_shape_80 (by decide) ?_
              cases h
              exact hret H locs _ ls hP hS dX6_shape_103
          · have h := (if_pos cd).symm.trans h
            refine lv_aload_n hx hb dX6_shape_66 rfl (lv_at hl 2 rfl) ?_
            refine gfX6_74 C hP dX6_shape_67 ?_
            refine lv_goto (tgt := 103) hx hb dX6_shape_70 (by decide) ?_
            cases h
            exact hret H locs _ ls hP hS dX6_shape_103
        · have h := (if_pos cd).symm.trans h
          refine lv_iload_n hx hb dX6_shape_57 rfl (lv_at hl 1 rfl) ?_
          refine lv_goto (tgt := 103) hx hb dX6_shape_58 (by decide) ?_
          cases h
          exact hret H locs _ ls hP hS dX6_shape_103
      · have h := (if_pos cd).symm.trans h
        refine lv_bipush (v := (-3 : Int32)) hx hb dX6_shape_37 (by decide) ?_
        cases h
        exact hret H locs _ ls hP hS dX6_shape_39
    · have h := (if_pos cd).symm.trans h
      refine lv_bipush (v := (-2 : Int32)) hx hb dX6_shape_26 (by decide) ?_
      cases h
      exact hret H locs _ ls hP hS dX6_shape_28
  · have h := (if_pos cd).symm.trans h
    refine lv_iconst (v := (-1 : Int32)) hx hb dX6_shape_12 (by decide) ?_
    cases h
    exact hret H locs _ ls hP hS dX6_shape_13
abbrev rX6_corner : Room := { frames := 2, cells := 0, slots := 0, locals := 54 }
theorem dX6_corner_0 : decode cX6_corner 0 = .ok (.iload_n 1, 1) := by decide +kernel
theorem dX6_corner_1 : decode cX6_corner 1 = .ok (.i2l, 1) := by decide +kernel
theorem dX6_corner_2 : decode cX6_corner 2 = .ok (.lconst 0, 1) := by decide +kernel
theorem dX6_corner_3 : decode cX6_corner 3 = .ok (.ldc2_w 91, 3) := by decide +kernel
theorem dX6_corner_6 : decode cX6_corner 6 = .ok (.invokestatic 48, 3) := by decide +kernel
theorem dX6_corner_9 : decode cX6_corner 9 = .ok (.ifCond .ne 5, 3) := by decide +kernel
theorem dX6_corner_12 : decode cX6_corner 12 = .ok (.iconst (-1), 1) := by decide +kernel
theorem dX6_corner_13 : decode cX6_corner 13 = .ok (.ireturn, 1) := by decide +kernel
theorem dX6_corner_14 : decode cX6_corner 14 = .ok (.aload_n 0, 1) := by decide +kernel
theorem dX6_corner_15 : decode cX6_corner 15 = .ok (.iload_n 1, 1) := by decide +kernel
theorem dX6_corner_16 : decode cX6_corner 16 = .ok (.invokevirtual 95, 3) := by decide +kernel
theorem dX6_corner_19 : decode cX6_corner 19 = .ok (.ifCond .ne 6, 3) := by decide +kernel
theorem dX6_corner_22 : decode cX6_corner 22 = .ok (.bipush (-3), 2) := by decide +kernel
theorem dX6_corner_24 : decode cX6_corner 24 = .ok (.ireturn, 1) := by decide +kernel
theorem dX6_corner_25 : decode cX6_corner 25 = .ok (.aload_n 0, 1) := by decide +kernel
theorem dX6_corner_26 : decode cX6_corner 26 = .ok (.iload_n 1, 1) := by decide +kernel
theorem dX6_corner_27 : decode cX6_corner 27 = .ok (.invokevirtual 84, 3) := by decide +kernel
theorem dX6_corner_30 : decode cX6_corner 30 = .ok (.iload_n 2, 1) := by decide +kernel
theorem dX6_corner_31 : decode cX6_corner 31 = .ok (.i2l, 1) := by decide +kernel
theorem dX6_corner_32 : decode cX6_corner 32 = .ok (.lconst 0, 1) := by decide +kernel
theorem dX6_corner_33 : decode cX6_corner 33 = .ok (.aload_n 0, 1) := by decide +kernel
theorem dX6_corner_34 : decode cX6_corner 34 = .ok (.getfield 74, 3) := by decide +kernel
theorem dX6_corner_37 : decode cX6_corner 37 = .ok (.iconst 1, 1) := by decide +kernel
theorem dX6_corner_38 : decode cX6_corner 38 = .ok (.isub, 1) := by decide +kernel
theorem dX6_corner_39 : decode cX6_corner 39 = .ok (.i2l, 1) := by decide +kernel
theorem dX6_corner_40 : decode cX6_corner 40 = .ok (.invokestatic 48, 3) := by decide +kernel
theorem dX6_corner_43 : decode cX6_corner 43 = .ok (.ifCond .eq 22, 3) := by decide +kernel
theorem dX6_corner_46 : decode cX6_corner 46 = .ok (.bipush 20, 2) := by decide +kernel
theorem dX6_corner_48 : decode cX6_corner 48 = .ok (.aload_n 0, 1) := by decide +kernel
theorem dX6_corner_49 : decode cX6_corner 49 = .ok (.getfield 31, 3) := by decide +kernel
theorem dX6_corner_52 : decode cX6_corner 52 = .ok (.iload_n 2, 1) := by decide +kernel
theorem dX6_corner_53 : decode cX6_corner 53 = .ok (.iaload, 1) := by decide +kernel
theorem dX6_corner_54 : decode cX6_corner 54 = .ok (.imul, 1) := by decide +kernel
theorem dX6_corner_55 : decode cX6_corner 55 = .ok (.aload_n 0, 1) := by decide +kernel
theorem dX6_corner_56 : decode cX6_corner 56 = .ok (.getfield 34, 3) := by decide +kernel
theorem dX6_corner_59 : decode cX6_corner 59 = .ok (.iload_n 2, 1) := by decide +kernel
theorem dX6_corner_60 : decode cX6_corner 60 = .ok (.iaload, 1) := by decide +kernel
theorem dX6_corner_61 : decode cX6_corner 61 = .ok (.iadd, 1) := by decide +kernel
theorem dX6_corner_62 : decode cX6_corner 62 = .ok (.goto 4, 3) := by decide +kernel
theorem dX6_corner_65 : decode cX6_corner 65 = .ok (.iconst (-1), 1) := by decide +kernel
theorem dX6_corner_66 : decode cX6_corner 66 = .ok (.ireturn, 1) := by decide +kernel
set_option maxRecDepth 100000 in
set_option maxHeartbeats 4000000 in
theorem kX6_corner (l : Launch) (D : va_G) (ad : Nat → Nat) (cI cJ : ClassId) (tP tR : Nat) (N : Nat) (M : Mem) (a1 : Int32) (a2 : Int32)  (o : (Int32 × Mem)) (h : fX6_corner N M a1 a2 = some o) : qMet l D cI cJ tP tR (yA ad) (yW ad cI cJ) yX6_corner cX6_corner 3 (some .int) rX6_corner [.ref (ad 0), .int a1, .int a2] M (qQi D (yA ad) (yW ad cI cJ) o.1 o.2) := by
  refine rs_enterI (own := RX6) ⟨by decide +kernel, rfl, Nat.le_of_ble_eq_true rfl⟩ ?_
  intro p e s m args below meth c Q C hret H locs ls hP hS hl
  obtain ⟨hx, hb, -⟩ := id C
  have hl : lv_has ls 3 [(0, .ref (ad 0)), (1, .int a1), (2, .int a2)] := hl
  unfold fX6_corner at h
  refine lv_iload_n hx hb dX6_corner_0 rfl (lv_at hl 1 rfl) ?_
  refine lv_i2l hx hb dX6_corner_1 rfl ?_
  refine lv_lconst (v := (0 : Int64)) hx hb dX6_corner_2 (by decide) ?_
  refine rs_ldc2 (v := (2 : Int64)) C wd_619 dX6_corner_3 ?_
  obtain ⟨v1, h1, h⟩ := rs_bind h
  refine rs_goI (rs_runS (As := [.long (Int32.toInt64 a1), .long (0 : Int64), .long (2 : Int64)]) (rest := []) C hP hS (kX6_in l D ad cI cJ tP tR M (Int32.toInt64 a1) (0 : Int64) (2 : Int64) _ h1) mk_X6_in wd_593 rfl ⟨rfl, rfl, Nat.le_of_ble_eq_true rfl, Nat.le_of_ble_eq_true rfl⟩ rfl hl.1 (Nat.le_of_ble_eq_true rfl) dX6_corner_6) hS (fun H locs hP hS => ?_)
  refine lv_if_ne (tgt := 14) hx hb dX6_corner_9 (by decide) (fun cd => ?_) (fun cd => ?_)
  · have h := (if_neg cd).symm.trans h
    refine lv_aload_n hx hb dX6_corner_14 rfl (lv_at hl 0 rfl) ?_
    refine lv_iload_n hx hb dX6_corner_15 rfl (lv_at hl 1 rfl) ?_
    obtain ⟨v2, h1, h⟩ := rs_bind h
    refine rs_goI (rs_runV (b := 0) (As := [.int a1]) (rest := []) C hP hS (kX6_isThere l D ad cI cJ tP tR M a1 _ h1) mk_X6_isThere wd_621 (yR_0) rfl ⟨rfl, rfl, Nat.le_of_ble_eq_true rfl, Nat.le_of_ble_eq_true rfl⟩ rfl hl.1 (Nat.le_of_ble_eq_true rfl) dX6_corner_16) hS (fun H locs hP hS => ?_)
    refine lv_if_ne (tgt := 25) hx hb dX6_corner_19 (by decide) (fun cd => ?_) (fun cd => ?_)
    · have h := (if_neg cd).symm.trans h
      refine lv_aload_n hx hb dX6_corner_25 rfl (lv_at hl 0 rfl) ?_
      refine lv_iload_n hx hb dX6_corner_26 rfl (lv_at hl 1 rfl) ?_
      obtain ⟨M3, h1, h⟩ := rs_bind h
      refine rs_goV (rs_runV (b := 0) (As := [.int a1]) (rest := []) C hP hS (kX6_goRound l D ad cI cJ tP tR N M a1 _ h1) mk_X6_goRound wd_629 (yR_0) rfl ⟨rfl, rfl, Nat.le_of_ble_eq_true rfl, Nat.le_of_ble_eq_true rfl⟩ rfl hl.1 (Nat.le_of_ble_eq_true rfl) dX6_corner_27) hS (fun H locs hP hS => ?_)
      refine lv_iload_n hx hb dX6_corner_30 rfl (lv_at hl 2 rfl) ?_
      refine lv_i2l hx hb dX6_corner_31 rfl ?_
      refine lv_lconst (v := (0 : Int64)) hx hb dX6_corner_32 (by decide) ?_
      refine lv_aload_n hx hb dX6_corner_33 rfl (lv_at hl 0 rfl) ?_
      refine gfX6_74 C hP dX6_corner_34 ?_
      refine lv_iconst (v := (1 : Int32)) hx hb dX6_corner_37 (by decide) ?_
      refine lv_isub hx hb dX6_corner_38 ?_
      refine lv_i2l hx hb dX6_corner_39 rfl ?_
      obtain ⟨v4, h1, h⟩ := rs_bind h
      refine rs_goI (rs_runS (As := [.long (Int32.toInt64 a2), .long (0 : Int64), .long (Int32.toInt64 ((M3.1 0 10) - (1 : Int32)))]) (rest := []) C hP hS (kX6_in l D ad cI cJ tP tR M3 (Int32.toInt64 a2) (0 : Int64) (Int32.toInt64 ((M3.1 0 10) - (1 : Int32))) _ h1) mk_X6_in wd_593 rfl ⟨rfl, rfl, Nat.le_of_ble_eq_true rfl, Nat.le_of_ble_eq_true rfl⟩ rfl hl.1 (Nat.le_of_ble_eq_true rfl) dX6_corner_40) hS (fun H locs hP hS => ?_)
      refine lv_if_eq (tgt := 65) hx hb dX6_corner_43 (by decide) (fun cd => ?_) (fun cd => ?_)
      · have h := (if_pos cd).symm.trans h
        refine lv_iconst (v := (-1 : Int32)) hx hb dX6_corner_65 (by decide) ?_
        cases h
        exact hret H locs _ ls hP hS dX6_corner_66
      · have h := (if_neg cd).symm.trans h
        refine lv_bipush (v := (20 : Int32)) hx hb dX6_corner_46 (by decide) ?_
        refine lv_aload_n hx hb dX6_corner_48 rfl (lv_at hl 0 rfl) ?_
        refine gfX6_31 C hP dX6_corner_49 ?_
        refine lv_iload_n hx hb dX6_corner_52 rfl (lv_at hl 2 rfl) ?_
        refine rs_iald C hP yIA_8 dX6_corner_53 h (fun v5 h => ?_)
        refine lv_imul hx hb dX6_corner_54 ?_
        refine lv_aload_n hx hb dX6_corner_55 rfl (lv_at hl 0 rfl) ?_
        refine gfX6_34 C hP dX6_corner_56 ?_
        refine lv_iload_n hx hb dX6_corner_59 rfl (lv_at hl 2 rfl) ?_
        refine rs_iald C hP yIA_9 dX6_corner_60 h (fun v6 h => ?_)
        refine lv_iadd hx hb dX6_corner_61 ?_
        refine lv_goto (tgt := 66) hx hb dX6_corner_62 (by decide) ?_
        cases h
        exact hret H locs _ ls hP hS dX6_corner_66
    · have h := (if_pos cd).symm.trans h
      refine lv_bipush (v := (-3 : Int32)) hx hb dX6_corner_22 (by decide) ?_
      cases h
      exact hret H locs _ ls hP hS dX6_corner_24
  · have h := (if_pos cd).symm.trans h
    refine lv_iconst (v := (-1 : Int32)) hx hb dX6_corner_12 (by decide) ?_
    cases h
    exact hret H locs _ ls hP hS dX6_corner_13
abbrev rX6_mixed : Room := { frames := 3, cells := 0, slots := 0, locals := 78 }
theorem dX6_mixed_0 : decode cX6_mixed 0 = .ok (.aload_n 0, 1) := by decide +kernel
theorem dX6_mixed_1 : decode cX6_mixed 1 = .ok (.iconst 2, 1) := by decide +kernel
theorem dX6_mixed_2 : decode cX6_mixed 2 = .ok (.invokevirtual 95, 3) := by decide +kernel
theorem dX6_mixed_5 : decode cX6_mixed 5 = .ok (.ifCond .eq 25, 3) := by decide +kernel
theorem dX6_mixed_8 : decode cX6_mixed 8 = .ok (.aload_n 0, 1) := by decide +kernel
theorem dX6_mixed_9 : decode cX6_mixed 9 = .ok (.iconst 2, 1) := by decide +kernel
theorem dX6_mixed_10 : decode cX6_mixed 10 = .ok (.invokevirtual 98, 3) := by decide +kernel
theorem dX6_mixed_13 : decode cX6_mixed 13 = .ok (.aload_n 0, 1) := by decide +kernel
theorem dX6_mixed_14 : decode cX6_mixed 14 = .ok (.iconst 0, 1) := by decide +kernel
theorem dX6_mixed_15 : decode cX6_mixed 15 = .ok (.invokevirtual 98, 3) := by decide +kernel
theorem dX6_mixed_18 : decode cX6_mixed 18 = .ok (.isub, 1) := by decide +kernel
theorem dX6_mixed_19 : decode cX6_mixed 19 = .ok (.aload_n 0, 1) := by decide +kernel
theorem dX6_mixed_20 : decode cX6_mixed 20 = .ok (.iconst 1, 1) := by decide +kernel
theorem dX6_mixed_21 : decode cX6_mixed 21 = .ok (.invokevirtual 98, 3) := by decide +kernel
theorem dX6_mixed_24 : decode cX6_mixed 24 = .ok (.isub, 1) := by decide +kernel
theorem dX6_mixed_25 : decode cX6_mixed 25 = .ok (.iconst 2, 1) := by decide +kernel
theorem dX6_mixed_26 : decode cX6_mixed 26 = .ok (.idiv, 1) := by decide +kernel
theorem dX6_mixed_27 : decode cX6_mixed 27 = .ok (.goto 5, 3) := by decide +kernel
theorem dX6_mixed_30 : decode cX6_mixed 30 = .ok (.bipush (-3), 2) := by decide +kernel
theorem dX6_mixed_32 : decode cX6_mixed 32 = .ok (.ireturn, 1) := by decide +kernel
set_option maxRecDepth 100000 in
set_option maxHeartbeats 4000000 in
theorem kX6_mixed (l : Launch) (D : va_G) (ad : Nat → Nat) (cI cJ : ClassId) (tP tR : Nat) (N : Nat) (M : Mem)   (o : (Int32 × Mem)) (h : fX6_mixed N M  = some o) : qMet l D cI cJ tP tR (yA ad) (yW ad cI cJ) yX6_mixed cX6_mixed 1 (some .int) rX6_mixed [.ref (ad 0)] M (qQi D (yA ad) (yW ad cI cJ) o.1 o.2) := by
  refine rs_enterI (own := RX6) ⟨by decide +kernel, rfl, Nat.le_of_ble_eq_true rfl⟩ ?_
  intro p e s m args below meth c Q C hret H locs ls hP hS hl
  obtain ⟨hx, hb, -⟩ := id C
  have hl : lv_has ls 1 [(0, .ref (ad 0))] := hl
  unfold fX6_mixed at h
  refine lv_aload_n hx hb dX6_mixed_0 rfl (lv_at hl 0 rfl) ?_
  refine lv_iconst (v := (2 : Int32)) hx hb dX6_mixed_1 (by decide) ?_
  obtain ⟨v1, h1, h⟩ := rs_bind h
  refine rs_goI (rs_runV (b := 0) (As := [.int (2 : Int32)]) (rest := []) C hP hS (kX6_isThere l D ad cI cJ tP tR M (2 : Int32) _ h1) mk_X6_isThere wd_621 (yR_0) rfl ⟨rfl, rfl, Nat.le_of_ble_eq_true rfl, Nat.le_of_ble_eq_true rfl⟩ rfl hl.1 (Nat.le_of_ble_eq_true rfl) dX6_mixed_2) hS (fun H locs hP hS => ?_)
  refine lv_if_eq (tgt := 30) hx hb dX6_mixed_5 (by decide) (fun cd => ?_) (fun cd => ?_)
  · have h := (if_pos cd).symm.trans h
    refine lv_bipush (v := (-3 : Int32)) hx hb dX6_mixed_30 (by decide) ?_
    cases h
    exact hret H locs _ ls hP hS dX6_mixed_32
  · have h := (if_neg cd).symm.trans h
    refine lv_aload_n hx hb dX6_mixed_8 rfl (lv_at hl 0 rfl) ?_
    refine lv_iconst (v := (2 : Int32)) hx hb dX6_mixed_9 (by decide) ?_
    obtain ⟨⟨v3, M2⟩, h1, h⟩ := rs_bind h
    dsimp only at h
    refine rs_goI (rs_runV (b := 0) (As := [.int (2 : Int32)]) (rest := []) C hP hS (kX6_areaOf l D ad cI cJ tP tR N M (2 : Int32) _ h1) mk_X6_areaOf wd_625 (yR_0) rfl ⟨rfl, rfl, Nat.le_of_ble_eq_true rfl, Nat.le_of_ble_eq_true rfl⟩ rfl hl.1 (Nat.le_of_ble_eq_true rfl) dX6_mixed_10) hS (fun H locs hP hS => ?_)
    refine lv_aload_n hx hb dX6_mixed_13 rfl (lv_at hl 0 rfl) ?_
    refine lv_iconst (v := (0 : Int32)) hx hb dX6_mixed_14 (by decide) ?_
    obtain ⟨⟨v6, M5⟩, h1, h⟩ := rs_bind h
    dsimp only at h
    refine rs_goI (rs_runV (b := 0) (As := [.int (0 : Int32)]) (rest := [.int v3]) C hP hS (kX6_areaOf l D ad cI cJ tP tR N M2 (0 : Int32) _ h1) mk_X6_areaOf wd_625 (yR_0) rfl ⟨rfl, rfl, Nat.le_of_ble_eq_true rfl, Nat.le_of_ble_eq_true rfl⟩ rfl hl.1 (Nat.le_of_ble_eq_true rfl) dX6_mixed_15) hS (fun H locs hP hS => ?_)
    refine lv_isub hx hb dX6_mixed_18 ?_
    refine lv_aload_n hx hb dX6_mixed_19 rfl (lv_at hl 0 rfl) ?_
    refine lv_iconst (v := (1 : Int32)) hx hb dX6_mixed_20 (by decide) ?_
    obtain ⟨⟨v9, M8⟩, h1, h⟩ := rs_bind h
    dsimp only at h
    refine rs_goI (rs_runV (b := 0) (As := [.int (1 : Int32)]) (rest := [.int (v3 - v6)]) C hP hS (kX6_areaOf l D ad cI cJ tP tR N M5 (1 : Int32) _ h1) mk_X6_areaOf wd_625 (yR_0) rfl ⟨rfl, rfl, Nat.le_of_ble_eq_true rfl, Nat.le_of_ble_eq_true rfl⟩ rfl hl.1 (Nat.le_of_ble_eq_true rfl) dX6_mixed_21) hS (fun H locs hP hS => ?_)
    refine lv_isub hx hb dX6_mixed_24 ?_
    refine lv_iconst (v := (2 : Int32)) hx hb dX6_mixed_25 (by decide) ?_
    refine rs_idiv C dX6_mixed_26 h (fun v11 h => ?_)
    refine lv_goto (tgt := 32) hx hb dX6_mixed_27 (by decide) ?_
    cases h
    exact hret H locs _ ls hP hS dX6_mixed_32
abbrev rX6_lift : Room := { frames := 3, cells := 0, slots := 0, locals := 67 }
theorem dX6_lift_0 : decode cX6_lift 0 = .ok (.aload_n 0, 1) := by decide +kernel
theorem dX6_lift_1 : decode cX6_lift 1 = .ok (.iload_n 1, 1) := by decide +kernel
theorem dX6_lift_2 : decode cX6_lift 2 = .ok (.iload_n 2, 1) := by decide +kernel
theorem dX6_lift_3 : decode cX6_lift 3 = .ok (.invokevirtual 62, 3) := by decide +kernel
theorem dX6_lift_6 : decode cX6_lift 6 = .ok (.ifCond .ne 5, 3) := by decide +kernel
theorem dX6_lift_9 : decode cX6_lift 9 = .ok (.iconst (-1), 1) := by decide +kernel
theorem dX6_lift_10 : decode cX6_lift 10 = .ok (.ireturn, 1) := by decide +kernel
theorem dX6_lift_11 : decode cX6_lift 11 = .ok (.iload_n 3, 1) := by decide +kernel
theorem dX6_lift_12 : decode cX6_lift 12 = .ok (.i2l, 1) := by decide +kernel
theorem dX6_lift_13 : decode cX6_lift 13 = .ok (.lconst 0, 1) := by decide +kernel
theorem dX6_lift_14 : decode cX6_lift 14 = .ok (.ldc2_w 104, 3) := by decide +kernel
theorem dX6_lift_17 : decode cX6_lift 17 = .ok (.invokestatic 48, 3) := by decide +kernel
theorem dX6_lift_20 : decode cX6_lift 20 = .ok (.ifCond .ne 6, 3) := by decide +kernel
theorem dX6_lift_23 : decode cX6_lift 23 = .ok (.bipush (-2), 2) := by decide +kernel
theorem dX6_lift_25 : decode cX6_lift 25 = .ok (.ireturn, 1) := by decide +kernel
theorem dX6_lift_26 : decode cX6_lift 26 = .ok (.aload_n 0, 1) := by decide +kernel
theorem dX6_lift_27 : decode cX6_lift 27 = .ok (.getfield 19, 3) := by decide +kernel
theorem dX6_lift_30 : decode cX6_lift 30 = .ok (.bipush 8, 2) := by decide +kernel
theorem dX6_lift_32 : decode cX6_lift 32 = .ok (.iload_n 1, 1) := by decide +kernel
theorem dX6_lift_33 : decode cX6_lift 33 = .ok (.imul, 1) := by decide +kernel
theorem dX6_lift_34 : decode cX6_lift 34 = .ok (.iload_n 2, 1) := by decide +kernel
theorem dX6_lift_35 : decode cX6_lift 35 = .ok (.iadd, 1) := by decide +kernel
theorem dX6_lift_36 : decode cX6_lift 36 = .ok (.iaload, 1) := by decide +kernel
theorem dX6_lift_37 : decode cX6_lift 37 = .ok (.istore 4, 2) := by decide +kernel
theorem dX6_lift_39 : decode cX6_lift 39 = .ok (.aload_n 0, 1) := by decide +kernel
theorem dX6_lift_40 : decode cX6_lift 40 = .ok (.getfield 19, 3) := by decide +kernel
theorem dX6_lift_43 : decode cX6_lift 43 = .ok (.bipush 8, 2) := by decide +kernel
theorem dX6_lift_45 : decode cX6_lift 45 = .ok (.iload_n 1, 1) := by decide +kernel
theorem dX6_lift_46 : decode cX6_lift 46 = .ok (.imul, 1) := by decide +kernel
theorem dX6_lift_47 : decode cX6_lift 47 = .ok (.iload_n 2, 1) := by decide +kernel
theorem dX6_lift_48 : decode cX6_lift 48 = .ok (.iadd, 1) := by decide +kernel
theorem dX6_lift_49 : decode cX6_lift 49 = .ok (.iload_n 3, 1) := by decide +kernel
theorem dX6_lift_50 : decode cX6_lift 50 = .ok (.iastore, 1) := by decide +kernel
theorem dX6_lift_51 : decode cX6_lift 51 = .ok (.iload 4, 2) := by decide +kernel
theorem dX6_lift_53 : decode cX6_lift 53 = .ok (.ireturn, 1) := by decide +kernel
set_option maxRecDepth 100000 in
set_option maxHeartbeats 4000000 in
theorem kX6_lift (l : Launch) (D : va_G) (ad : Nat → Nat) (cI cJ : ClassId) (tP tR : Nat) (M : Mem) (a1 : Int32) (a2 : Int32) (a3 : Int32)  (o : (Int32 × Mem)) (h : fX6_lift M a1 a2 a3 = some o) : qMet l D cI cJ tP tR (yA ad) (yW ad cI cJ) yX6_lift cX6_lift 5 (some .int) rX6_lift [.ref (ad 0), .int a1, .int a2, .int a3] M (qQi D (yA ad) (yW ad cI cJ) o.1 o.2) := by
  refine rs_enterI (own := RX6) ⟨by decide +kernel, rfl, Nat.le_of_ble_eq_true rfl⟩ ?_
  intro p e s m args below meth c Q C hret H locs ls hP hS hl
  obtain ⟨hx, hb, -⟩ := id C
  have hl : lv_has ls 5 [(0, .ref (ad 0)), (1, .int a1), (2, .int a2), (3, .int a3)] := hl
  unfold fX6_lift at h
  refine lv_aload_n hx hb dX6_lift_0 rfl (lv_at hl 0 rfl) ?_
  refine lv_iload_n hx hb dX6_lift_1 rfl (lv_at hl 1 rfl) ?_
  refine lv_iload_n hx hb dX6_lift_2 rfl (lv_at hl 2 rfl) ?_
  obtain ⟨v1, h1, h⟩ := rs_bind h
  refine rs_goI (rs_runV (b := 0) (As := [.int a1, .int a2]) (rest := []) C hP hS (kX6_isTerm l D ad cI cJ tP tR M a1 a2 _ h1) mk_X6_isTerm wd_603 (yR_0) rfl ⟨rfl, rfl, Nat.le_of_ble_eq_true rfl, Nat.le_of_ble_eq_true rfl⟩ rfl hl.1 (Nat.le_of_ble_eq_true rfl) dX6_lift_3) hS (fun H locs hP hS => ?_)
  refine lv_if_ne (tgt := 11) hx hb dX6_lift_6 (by decide) (fun cd => ?_) (fun cd => ?_)
  · have h := (if_neg cd).symm.trans h
    refine lv_iload_n hx hb dX6_lift_11 rfl (lv_at hl 3 rfl) ?_
    refine lv_i2l hx hb dX6_lift_12 rfl ?_
    refine lv_lconst (v := (0 : Int64)) hx hb dX6_lift_13 (by decide) ?_
    refine rs_ldc2 (v := (100 : Int64)) C wd_667 dX6_lift_14 ?_
    obtain ⟨v2, h1, h⟩ := rs_bind h
    refine rs_goI (rs_runS (As := [.long (Int32.toInt64 a3), .long (0 : Int64), .long (100 : Int64)]) (rest := []) C hP hS (kX6_in l D ad cI cJ tP tR M (Int32.toInt64 a3) (0 : Int64) (100 : Int64) _ h1) mk_X6_in wd_593 rfl ⟨rfl, rfl, Nat.le_of_ble_eq_true rfl, Nat.le_of_ble_eq_true rfl⟩ rfl hl.1 (Nat.le_of_ble_eq_true rfl) dX6_lift_17) hS (fun H locs hP hS => ?_)
    refine lv_if_ne (tgt := 26) hx hb dX6_lift_20 (by decide) (fun cd => ?_) (fun cd => ?_)
    · have h := (if_neg cd).symm.trans h
      refine lv_aload_n hx hb dX6_lift_26 rfl (lv_at hl 0 rfl) ?_
      refine gfX6_19 C hP dX6_lift_27 ?_
      refine lv_bipush (v := (8 : Int32)) hx hb dX6_lift_30 (by decide) ?_
      refine lv_iload_n hx hb dX6_lift_32 rfl (lv_at hl 1 rfl) ?_
      refine lv_imul hx hb dX6_lift_33 ?_
      refine lv_iload_n hx hb dX6_lift_34 rfl (lv_at hl 2 rfl) ?_
      refine lv_iadd hx hb dX6_lift_35 ?_
      refine rs_iald C hP yIA_4 dX6_lift_36 h (fun v3 h => ?_)
      refine lv_istore (lv' := [(4, .int v3), (0, .ref (ad 0)), (1, .int a1), (2, .int a2), (3, .int a3)]) hx hb dX6_lift_37 hl (by decide) rfl (fun ls hl => ?_)
      refine lv_aload_n hx hb dX6_lift_39 rfl (lv_at hl 1 rfl) ?_
      refine gfX6_19 C hP dX6_lift_40 ?_
      refine lv_bipush (v := (8 : Int32)) hx hb dX6_lift_43 (by decide) ?_
      refine lv_iload_n hx hb dX6_lift_45 rfl (lv_at hl 2 rfl) ?_
      refine lv_imul hx hb dX6_lift_46 ?_
      refine lv_iload_n hx hb dX6_lift_47 rfl (lv_at hl 3 rfl) ?_
      refine lv_iadd hx hb dX6_lift_48 ?_
      refine lv_iload_n hx hb dX6_lift_49 rfl (lv_at hl 4 rfl) ?_
      refine rs_iast C hP hS yIA_4 dX6_lift_50 h (fun M4 h H locs hP hS => ?_)
      refine lv_iload hx hb dX6_lift_51 (lv_at hl 0 rfl) ?_
      cases h
      exact hret H locs _ ls hP hS dX6_lift_53
    · have h := (if_pos cd).symm.trans h
      refine lv_bipush (v := (-2 : Int32)) hx hb dX6_lift_23 (by decide) ?_
      cases h
      exact hret H locs _ ls hP hS dX6_lift_25
  · have h := (if_pos cd).symm.trans h
    refine lv_iconst (v := (-1 : Int32)) hx hb dX6_lift_9 (by decide) ?_
    cases h
    exact hret H locs _ ls hP hS dX6_lift_10
abbrev rX6_height : Room := { frames := 1, cells := 0, slots := 0, locals := 20 }
theorem dX6_height_0 : decode cX6_height 0 = .ok (.aload_n 0, 1) := by decide +kernel
theorem dX6_height_1 : decode cX6_height 1 = .ok (.getfield 106, 3) := by decide +kernel
theorem dX6_height_4 : decode cX6_height 4 = .ok (.ifCond .ge 7, 3) := by decide +kernel
theorem dX6_height_7 : decode cX6_height 7 = .ok (.iconst (-1), 1) := by decide +kernel
theorem dX6_height_8 : decode cX6_height 8 = .ok (.goto 4, 3) := by decide +kernel
theorem dX6_height_11 : decode cX6_height 11 = .ok (.iconst 1, 1) := by decide +kernel
theorem dX6_height_12 : decode cX6_height 12 = .ok (.istore_n 2, 1) := by decide +kernel
theorem dX6_height_13 : decode cX6_height 13 = .ok (.aload_n 0, 1) := by decide +kernel
theorem dX6_height_14 : decode cX6_height 14 = .ok (.getfield 19, 3) := by decide +kernel
theorem dX6_height_17 : decode cX6_height 17 = .ok (.iload_n 1, 1) := by decide +kernel
theorem dX6_height_18 : decode cX6_height 18 = .ok (.iaload, 1) := by decide +kernel
theorem dX6_height_19 : decode cX6_height 19 = .ok (.aload_n 0, 1) := by decide +kernel
theorem dX6_height_20 : decode cX6_height 20 = .ok (.getfield 106, 3) := by decide +kernel
theorem dX6_height_23 : decode cX6_height 23 = .ok (.invokestatic 44, 3) := by decide +kernel
theorem dX6_height_26 : decode cX6_height 26 = .ok (.imul, 1) := by decide +kernel
theorem dX6_height_27 : decode cX6_height 27 = .ok (.iload_n 2, 1) := by decide +kernel
theorem dX6_height_28 : decode cX6_height 28 = .ok (.aload_n 0, 1) := by decide +kernel
theorem dX6_height_29 : decode cX6_height 29 = .ok (.getfield 109, 3) := by decide +kernel
theorem dX6_height_32 : decode cX6_height 32 = .ok (.aload_n 0, 1) := by decide +kernel
theorem dX6_height_33 : decode cX6_height 33 = .ok (.getfield 7, 3) := by decide +kernel
theorem dX6_height_36 : decode cX6_height 36 = .ok (.iload_n 1, 1) := by decide +kernel
theorem dX6_height_37 : decode cX6_height 37 = .ok (.iaload, 1) := by decide +kernel
theorem dX6_height_38 : decode cX6_height 38 = .ok (.imul, 1) := by decide +kernel
theorem dX6_height_39 : decode cX6_height 39 = .ok (.aload_n 0, 1) := by decide +kernel
theorem dX6_height_40 : decode cX6_height 40 = .ok (.getfield 112, 3) := by decide +kernel
theorem dX6_height_43 : decode cX6_height 43 = .ok (.aload_n 0, 1) := by decide +kernel
theorem dX6_height_44 : decode cX6_height 44 = .ok (.getfield 13, 3) := by decide +kernel
theorem dX6_height_47 : decode cX6_height 47 = .ok (.iload_n 1, 1) := by decide +kernel
theorem dX6_height_48 : decode cX6_height 48 = .ok (.iaload, 1) := by decide +kernel
theorem dX6_height_49 : decode cX6_height 49 = .ok (.imul, 1) := by decide +kernel
theorem dX6_height_50 : decode cX6_height 50 = .ok (.iadd, 1) := by decide +kernel
theorem dX6_height_51 : decode cX6_height 51 = .ok (.imul, 1) := by decide +kernel
theorem dX6_height_52 : decode cX6_height 52 = .ok (.iadd, 1) := by decide +kernel
theorem dX6_height_53 : decode cX6_height 53 = .ok (.ireturn, 1) := by decide +kernel
set_option maxRecDepth 100000 in
set_option maxHeartbeats 4000000 in
theorem kX6_height (l : Launch) (D : va_G) (ad : Nat → Nat) (cI cJ : ClassId) (tP tR : Nat) (M : Mem) (a1 : Int32)  (o : Int32) (h : fX6_height M a1 = some o) : qMet l D cI cJ tP tR (yA ad) (yW ad cI cJ) yX6_height cX6_height 3 (some .int) rX6_height [.ref (ad 0), .int a1] M (qQi D (yA ad) (yW ad cI cJ) o M) := by
  refine rs_enterI (own := RX6) ⟨by decide +kernel, rfl, Nat.le_of_ble_eq_true rfl⟩ ?_
  intro p e s m args below meth c Q C hret H locs ls hP hS hl
  obtain ⟨hx, hb, -⟩ := id C
  have hl : lv_has ls 3 [(0, .ref (ad 0)), (1, .int a1)] := hl
  unfold fX6_height at h
  refine lv_aload_n hx hb dX6_height_0 rfl (lv_at hl 0 rfl) ?_
  refine gfX6_106 C hP dX6_height_1 ?_
  obtain ⟨v1, h1, h⟩ := rs_bind h
  have hJ6 : ∀ (H : Heap) (locs : List Loc) (ls : Array Slot), va_P D vwCl (yW ad cI cJ M) H → va_S (yA ad) s.heap H locs → lv_has ls 3 [(0, .ref (ad 0)), (1, .int a1)] → W p l e rX6_height s m args below meth c H locs 0 0 Q (F0 m 12 ls [.int v1]) := by
    intro H locs ls hP hS hl
    refine lv_istore_n (lv' := [(2, .int v1), (0, .ref (ad 0)), (1, .int a1)]) hx hb dX6_height_12 rfl hl (by decide) rfl (fun ls hl => ?_)
    refine lv_aload_n hx hb dX6_height_13 rfl (lv_at hl 1 rfl) ?_
    refine gfX6_19 C hP dX6_height_14 ?_
    refine lv_iload_n hx hb dX6_height_17 rfl (lv_at hl 2 rfl) ?_
    refine rs_iald C hP yIA_4 dX6_height_18 h (fun v2 h => ?_)
    refine lv_aload_n hx hb dX6_height_19 rfl (lv_at hl 1 rfl) ?_
    refine gfX6_106 C hP dX6_height_20 ?_
    obtain ⟨v3, h1, h⟩ := rs_bind h
    refine rs_goI (rs_runS (As := [.int (M.1 0 11)]) (rest := [.int v2]) C hP hS (kX6_size l D ad cI cJ tP tR M (M.1 0 11) _ h1) mk_X6_size wd_652 rfl ⟨rfl, rfl, Nat.le_of_ble_eq_true rfl, Nat.le_of_ble_eq_true rfl⟩ rfl hl.1 (Nat.le_of_ble_eq_true rfl) dX6_height_23) hS (fun H locs hP hS => ?_)
    refine lv_imul hx hb dX6_height_26 ?_
    refine lv_iload_n hx hb dX6_height_27 rfl (lv_at hl 0 rfl) ?_
    refine lv_aload_n hx hb dX6_height_28 rfl (lv_at hl 1 rfl) ?_
    refine gfX6_109 C hP dX6_height_29 ?_
    refine lv_aload_n hx hb dX6_height_32 rfl (lv_at hl 1 rfl) ?_
    refine gfX6_7 C hP dX6_height_33 ?_
    refine lv_iload_n hx hb dX6_height_36 rfl (lv_at hl 2 rfl) ?_
    refine rs_iald C hP yIA_1 dX6_height_37 h (fun v4 h => ?_)
    refine lv_imul hx hb dX6_height_38 ?_
    refine lv_aload_n hx hb dX6_height_39 rfl (lv_at hl 1 rfl) ?_
    refine gfX6_112 C hP dX6_height_40 ?_
    refine lv_aload_n hx hb dX6_height_43 rfl (lv_at hl 1 rfl) ?_
    refine gfX6_13 C hP dX6_height_44 ?_
    refine lv_iload_n hx hb dX6_height_47 rfl (lv_at hl 2 rfl) ?_
    refine rs_iald C hP yIA_2 dX6_height_48 h (fun v5 h => ?_)
    refine lv_imul hx hb dX6_height_49 ?_
    refine lv_iadd hx hb dX6_height_50 ?_
    refine lv_imul hx hb dX6_height_51 ?_
    refine lv_iadd hx hb dX6_height_52 ?_
    cases h
    exact hret H locs _ ls hP hS dX6_height_53
  replace h := h1
  clear h1
  refine lv_if_ge (tgt := 11) hx hb dX6_height_4 (by decide) (fun cd => ?_) (fun cd => ?_)
  · have h := (if_pos cd).symm.trans h
    refine lv_iconst (v := (1 : Int32)) hx hb dX6_height_11 (by decide) ?_
    cases h
    exact hJ6 H locs ls hP hS (lv_sub hl [0, 1] rfl)
  · have h := (if_neg cd).symm.trans h
    refine lv_iconst (v := (-1 : Int32)) hx hb dX6_height_7 (by decide) ?_
    refine lv_goto (tgt := 12) hx hb dX6_height_8 (by decide) ?_
    cases h
    exact hJ6 H locs ls hP hS (lv_sub hl [0, 1] rfl)
abbrev rX6_isLowest : Room := { frames := 2, cells := 0, slots := 0, locals := 42 }
theorem dX6_isLowest_0 : decode cX6_isLowest 0 = .ok (.iconst 1, 1) := by decide +kernel
theorem dX6_isLowest_1 : decode cX6_isLowest 1 = .ok (.istore 4, 2) := by decide +kernel
theorem dX6_isLowest_3 : decode cX6_isLowest 3 = .ok (.bipush 8, 2) := by decide +kernel
theorem dX6_isLowest_5 : decode cX6_isLowest 5 = .ok (.iload_n 1, 1) := by decide +kernel
theorem dX6_isLowest_6 : decode cX6_isLowest 6 = .ok (.imul, 1) := by decide +kernel
theorem dX6_isLowest_7 : decode cX6_isLowest 7 = .ok (.istore 5, 2) := by decide +kernel
theorem dX6_isLowest_9 : decode cX6_isLowest 9 = .ok (.iload 5, 2) := by decide +kernel
theorem dX6_isLowest_11 : decode cX6_isLowest 11 = .ok (.bipush 8, 2) := by decide +kernel
theorem dX6_isLowest_13 : decode cX6_isLowest 13 = .ok (.iload_n 1, 1) := by decide +kernel
theorem dX6_isLowest_14 : decode cX6_isLowest 14 = .ok (.imul, 1) := by decide +kernel
theorem dX6_isLowest_15 : decode cX6_isLowest 15 = .ok (.aload_n 0, 1) := by decide +kernel
theorem dX6_isLowest_16 : decode cX6_isLowest 16 = .ok (.getfield 22, 3) := by decide +kernel
theorem dX6_isLowest_19 : decode cX6_isLowest 19 = .ok (.iload_n 1, 1) := by decide +kernel
theorem dX6_isLowest_20 : decode cX6_isLowest 20 = .ok (.iaload, 1) := by decide +kernel
theorem dX6_isLowest_21 : decode cX6_isLowest 21 = .ok (.iadd, 1) := by decide +kernel
theorem dX6_isLowest_22 : decode cX6_isLowest 22 = .ok (.if_icmp .ge 77, 3) := by decide +kernel
theorem dX6_isLowest_25 : decode cX6_isLowest 25 = .ok (.iload 4, 2) := by decide +kernel
theorem dX6_isLowest_27 : decode cX6_isLowest 27 = .ok (.ifCond .eq 21, 3) := by decide +kernel
theorem dX6_isLowest_30 : decode cX6_isLowest 30 = .ok (.aload_n 0, 1) := by decide +kernel
theorem dX6_isLowest_31 : decode cX6_isLowest 31 = .ok (.iload 5, 2) := by decide +kernel
theorem dX6_isLowest_33 : decode cX6_isLowest 33 = .ok (.invokevirtual 115, 3) := by decide +kernel
theorem dX6_isLowest_36 : decode cX6_isLowest 36 = .ok (.aload_n 0, 1) := by decide +kernel
theorem dX6_isLowest_37 : decode cX6_isLowest 37 = .ok (.iload_n 2, 1) := by decide +kernel
theorem dX6_isLowest_38 : decode cX6_isLowest 38 = .ok (.invokevirtual 115, 3) := by decide +kernel
theorem dX6_isLowest_41 : decode cX6_isLowest 41 = .ok (.if_icmp .lt 7, 3) := by decide +kernel
theorem dX6_isLowest_44 : decode cX6_isLowest 44 = .ok (.iconst 1, 1) := by decide +kernel
theorem dX6_isLowest_45 : decode cX6_isLowest 45 = .ok (.goto 4, 3) := by decide +kernel
theorem dX6_isLowest_48 : decode cX6_isLowest 48 = .ok (.iconst 0, 1) := by decide +kernel
theorem dX6_isLowest_49 : decode cX6_isLowest 49 = .ok (.istore 4, 2) := by decide +kernel
theorem dX6_isLowest_51 : decode cX6_isLowest 51 = .ok (.aload_n 0, 1) := by decide +kernel
theorem dX6_isLowest_52 : decode cX6_isLowest 52 = .ok (.aload_n 0, 1) := by decide +kernel
theorem dX6_isLowest_53 : decode cX6_isLowest 53 = .ok (.getfield 118, 3) := by decide +kernel
theorem dX6_isLowest_56 : decode cX6_isLowest 56 = .ok (.ifCond .eq 33, 3) := by decide +kernel
theorem dX6_isLowest_59 : decode cX6_isLowest 59 = .ok (.iload 5, 2) := by decide +kernel
theorem dX6_isLowest_61 : decode cX6_isLowest 61 = .ok (.iload_n 2, 1) := by decide +kernel
theorem dX6_isLowest_62 : decode cX6_isLowest 62 = .ok (.if_icmp .eq 23, 3) := by decide +kernel
theorem dX6_isLowest_65 : decode cX6_isLowest 65 = .ok (.iload 5, 2) := by decide +kernel
theorem dX6_isLowest_67 : decode cX6_isLowest 67 = .ok (.iload_n 3, 1) := by decide +kernel
theorem dX6_isLowest_68 : decode cX6_isLowest 68 = .ok (.if_icmp .eq 17, 3) := by decide +kernel
theorem dX6_isLowest_71 : decode cX6_isLowest 71 = .ok (.aload_n 0, 1) := by decide +kernel
theorem dX6_isLowest_72 : decode cX6_isLowest 72 = .ok (.iload 5, 2) := by decide +kernel
theorem dX6_isLowest_74 : decode cX6_isLowest 74 = .ok (.invokevirtual 115, 3) := by decide +kernel
theorem dX6_isLowest_77 : decode cX6_isLowest 77 = .ok (.aload_n 0, 1) := by decide +kernel
theorem dX6_isLowest_78 : decode cX6_isLowest 78 = .ok (.iload_n 2, 1) := by decide +kernel
theorem dX6_isLowest_79 : decode cX6_isLowest 79 = .ok (.invokevirtual 115, 3) := by decide +kernel
theorem dX6_isLowest_82 : decode cX6_isLowest 82 = .ok (.if_icmp .eq 7, 3) := by decide +kernel
theorem dX6_isLowest_85 : decode cX6_isLowest 85 = .ok (.iconst 1, 1) := by decide +kernel
theorem dX6_isLowest_86 : decode cX6_isLowest 86 = .ok (.goto 4, 3) := by decide +kernel
theorem dX6_isLowest_89 : decode cX6_isLowest 89 = .ok (.iconst 0, 1) := by decide +kernel
theorem dX6_isLowest_90 : decode cX6_isLowest 90 = .ok (.putfield 118, 3) := by decide +kernel
theorem dX6_isLowest_93 : decode cX6_isLowest 93 = .ok (.iinc 5 1, 3) := by decide +kernel
theorem dX6_isLowest_96 : decode cX6_isLowest 96 = .ok (.goto (-87), 3) := by decide +kernel
theorem dX6_isLowest_99 : decode cX6_isLowest 99 = .ok (.iload 4, 2) := by decide +kernel
theorem dX6_isLowest_101 : decode cX6_isLowest 101 = .ok (.ireturn, 1) := by decide +kernel
set_option maxRecDepth 100000 in
set_option maxHeartbeats 4000000 in
theorem kX6_isLowest (l : Launch) (D : va_G) (ad : Nat → Nat) (cI cJ : ClassId) (tP tR : Nat) (N : Nat) (M : Mem) (a1 : Int32) (a2 : Int32) (a3 : Int32)  (o : (Int32 × Mem)) (h : fX6_isLowest N M a1 a2 a3 = some o) : qMet l D cI cJ tP tR (yA ad) (yW ad cI cJ) yX6_isLowest cX6_isLowest 6 (some .boolean) rX6_isLowest [.ref (ad 0), .int a1, .int a2, .int a3] M (qQi D (yA ad) (yW ad cI cJ) o.1 o.2) := by
  refine rs_enterZ (own := RX6) ⟨by decide +kernel, rfl, Nat.le_of_ble_eq_true rfl⟩ ?_
  intro p e s m args below meth c Q C hret H locs ls hP hS hl
  obtain ⟨hx, hb, -⟩ := id C
  have hl : lv_has ls 6 [(0, .ref (ad 0)), (1, .int a1), (2, .int a2), (3, .int a3)] := hl
  unfold fX6_isLowest at h
  refine lv_iconst (v := (1 : Int32)) hx hb dX6_isLowest_0 (by decide) ?_
  refine lv_istore (lv' := [(4, .int (1 : Int32)), (0, .ref (ad 0)), (1, .int a1), (2, .int a2), (3, .int a3)]) hx hb dX6_isLowest_1 hl (by decide) rfl (fun ls hl => ?_)
  refine lv_bipush (v := (8 : Int32)) hx hb dX6_isLowest_3 (by decide) ?_
  refine lv_iload_n hx hb dX6_isLowest_5 rfl (lv_at hl 2 rfl) ?_
  refine lv_imul hx hb dX6_isLowest_6 ?_
  refine lv_istore (lv' := [(5, .int ((8 : Int32) * a1)), (4, .int (1 : Int32)), (0, .ref (ad 0)), (1, .int a1), (2, .int a2), (3, .int a3)]) hx hb dX6_isLowest_7 hl (by decide) rfl (fun ls hl => ?_)
  have hL9 : ∀ (n9 : Nat) (v1 : Int32) (v2 : Int32) (M3 : Mem) (H : Heap) (locs : List Loc) (ls : Array Slot), va_P D vwCl (yW ad cI cJ M3) H → va_S (yA ad) s.heap H locs → lv_has ls 6 [(0, .ref (ad 0)), (1, .int a1), (2, .int a2), (3, .int a3), (4, .int v1), (5, .int v2)] → lp (fun _ _ _ => none) (sX6_isLowest_9 a1 a2 a3) n9 v1 v2 M3 = some o → W p l e rX6_isLowest s m args below meth c H locs 0 0 Q (F0 m 9 ls []) := by
    intro n9
    induction n9 with
    | zero => intro v1 v2 M3 H locs ls hP hS hl h; have h : (none : Option (Int32 × Mem)) = some o := h; cases h
    | succ n9 ih9 =>
      intro v1 v2 M3 H locs ls hP hS hl h
      have h : sX6_isLowest_9 a1 a2 a3 (lp (fun _ _ _ => none) (sX6_isLowest_9 a1 a2 a3) n9) v1 v2 M3 = some o := h
      generalize lp (fun _ _ _ => none) (sX6_isLowest_9 a1 a2 a3) n9 = cont9 at h ih9
      unfold sX6_isLowest_9 at h
      refine lv_iload hx hb dX6_isLowest_9 (lv_at hl 5 rfl) ?_
      refine lv_bipush (v := (8 : Int32)) hx hb dX6_isLowest_11 (by decide) ?_
      refine lv_iload_n hx hb dX6_isLowest_13 rfl (lv_at hl 1 rfl) ?_
      refine lv_imul hx hb dX6_isLowest_14 ?_
      refine lv_aload_n hx hb dX6_isLowest_15 rfl (lv_at hl 0 rfl) ?_
      refine gfX6_22 C hP dX6_isLowest_16 ?_
      refine lv_iload_n hx hb dX6_isLowest_19 rfl (lv_at hl 1 rfl) ?_
      refine rs_iald C hP yIA_5 dX6_isLowest_20 h (fun v4 h => ?_)
      refine lv_iadd hx hb dX6_isLowest_21 ?_
      refine lv_icmp_ge (tgt := 99) hx hb dX6_isLowest_22 (by decide) (fun cd => ?_) (fun cd => ?_)
      · have h := (if_pos cd).symm.trans h
        refine lv_iload hx hb dX6_isLowest_99 (lv_at hl 4 rfl) ?_
        obtain ⟨rfl, hz⟩ := rs_okZM h
        exact hret H locs _ ls hz hP hS dX6_isLowest_101
      · have h := (if_neg cd).symm.trans h
        refine lv_iload hx hb dX6_isLowest_25 (lv_at hl 4 rfl) ?_
        obtain ⟨v5, h1, h⟩ := rs_bind h
        have hJ11 : ∀ (H : Heap) (locs : List Loc) (ls : Array Slot), va_P D vwCl (yW ad cI cJ M3) H → va_S (yA ad) s.heap H locs → lv_has ls 6 [(0, .ref (ad 0)), (1, .int a1), (2, .int a2), (3, .int a3), (5, .int v2)] → W p l e rX6_isLowest s m args below meth c H locs 0 0 Q (F0 m 49 ls [.int v5]) := by
          intro H locs ls hP hS hl
          refine lv_istore (lv' := [(4, .int v5), (0, .ref (ad 0)), (1, .int a1), (2, .int a2), (3, .int a3), (5, .int v2)]) hx hb dX6_isLowest_49 hl (by decide) rfl (fun ls hl => ?_)
          refine lv_aload_n hx hb dX6_isLowest_51 rfl (lv_at hl 1 rfl) ?_
          refine lv_aload_n hx hb dX6_isLowest_52 rfl (lv_at hl 1 rfl) ?_
          refine gfX6_118 C hP dX6_isLowest_53 ?_
          obtain ⟨v6, h1, h⟩ := rs_bind h
          have hJ8 : ∀ (H : Heap) (locs : List Loc) (ls : Array Slot), va_P D vwCl (yW ad cI cJ M3) H → va_S (yA ad) s.heap H locs → lv_has ls 6 [(0, .ref (ad 0)), (1, .int a1), (2, .int a2), (3, .int a3), (4, .int v5), (5, .int v2)] → W p l e rX6_isLowest s m args below meth c H locs 0 0 Q (F0 m 90 ls [.int v6, .ref (ad 0)]) := by
            intro H locs ls hP hS hl
            refine pfX6_118 C hP hS dX6_isLowest_90 h (fun M7 h H locs hP hS => ?_)
            refine lv_iinc (v := (v2 + 1)) (lv' := [(5, .int (v2 + 1)), (0, .ref (ad 0)), (1, .int a1), (2, .int a2), (3, .int a3), (4, .int v5)]) hx hb dX6_isLowest_93 hl (k := 5) rfl rfl (by decide) rfl (fun ls hl => ?_)
            refine lv_goto (tgt := 9) hx hb dX6_isLowest_96 (by decide) ?_
            exact ih9 _ _ _ H locs ls hP hS (lv_sub hl [1, 2, 3, 4, 5, 0] rfl) h
          replace h := h1
          clear h1
          refine lv_if_eq (tgt := 89) hx hb dX6_isLowest_56 (by decide) (fun cd => ?_) (fun cd => ?_)
          · have h := (if_pos cd).symm.trans h
            refine lv_iconst (v := (0 : Int32)) hx hb dX6_isLowest_89 (by decide) ?_
            cases h
            exact hJ8 H locs ls hP hS (lv_sub hl [1, 2, 3, 4, 0, 5] rfl)
          · have h := (if_neg cd).symm.trans h
            refine lv_iload hx hb dX6_isLowest_59 (lv_at hl 5 rfl) ?_
            refine lv_iload_n hx hb dX6_isLowest_61 rfl (lv_at hl 3 rfl) ?_
            refine lv_icmp_eq (tgt := 85) hx hb dX6_isLowest_62 (by decide) (fun cd => ?_) (fun cd => ?_)
            · have h := (if_pos cd).symm.trans h
              refine lv_iconst (v := (1 : Int32)) hx hb dX6_isLowest_85 (by decide) ?_
              refine lv_goto (tgt := 90) hx hb dX6_isLowest_86 (by decide) ?_
              cases h
              exact hJ8 H locs ls hP hS (lv_sub hl [1, 2, 3, 4, 0, 5] rfl)
            · have h := (if_neg cd).symm.trans h
              refine lv_iload hx hb dX6_isLowest_65 (lv_at hl 5 rfl) ?_
              refine lv_iload_n hx hb dX6_isLowest_67 rfl (lv_at hl 4 rfl) ?_
              refine lv_icmp_eq (tgt := 85) hx hb dX6_isLowest_68 (by decide) (fun cd => ?_) (fun cd => ?_)
              · have h := (if_pos cd).symm.trans h
                refine lv_iconst (v := (1 : Int32)) hx hb dX6_isLowest_85 (by decide) ?_
                refine lv_goto (tgt := 90) hx hb dX6_isLowest_86 (by decide) ?_
                cases h
                exact hJ8 H locs ls hP hS (lv_sub hl [1, 2, 3, 4, 0, 5] rfl)
              · have h := (if_neg cd).symm.trans h
                refine lv_aload_n hx hb dX6_isLowest_71 rfl (lv_at hl 1 rfl) ?_
                refine lv_iload hx hb dX6_isLowest_72 (lv_at hl 5 rfl) ?_
                obtain ⟨v9, h1, h⟩ := rs_bind h
                refine rs_goI (rs_runV (b := 0) (As := [.int v2]) (rest := [.ref (ad 0)]) C hP hS (kX6_height l D ad cI cJ tP tR M3 v2 _ h1) mk_X6_height wd_684 (yR_0) rfl ⟨rfl, rfl, Nat.le_of_ble_eq_true rfl, Nat.le_of_ble_eq_true rfl⟩ rfl hl.1 (Nat.le_of_ble_eq_true rfl) dX6_isLowest_74) hS (fun H locs hP hS => ?_)
                refine lv_aload_n hx hb dX6_isLowest_77 rfl (lv_at hl 1 rfl) ?_
                refine lv_iload_n hx hb dX6_isLowest_78 rfl (lv_at hl 3 rfl) ?_
                obtain ⟨v10, h1, h⟩ := rs_bind h
                refine rs_goI (rs_runV (b := 0) (As := [.int a2]) (rest := [.int v9, .ref (ad 0)]) C hP hS (kX6_height l D ad cI cJ tP tR M3 a2 _ h1) mk_X6_height wd_684 (yR_0) rfl ⟨rfl, rfl, Nat.le_of_ble_eq_true rfl, Nat.le_of_ble_eq_true rfl⟩ rfl hl.1 (Nat.le_of_ble_eq_true rfl) dX6_isLowest_79) hS (fun H locs hP hS => ?_)
                refine lv_icmp_eq (tgt := 89) hx hb dX6_isLowest_82 (by decide) (fun cd => ?_) (fun cd => ?_)
                · have h := (if_pos cd).symm.trans h
                  refine lv_iconst (v := (0 : Int32)) hx hb dX6_isLowest_89 (by decide) ?_
                  cases h
                  exact hJ8 H locs ls hP hS (lv_sub hl [1, 2, 3, 4, 0, 5] rfl)
                · have h := (if_neg cd).symm.trans h
                  refine lv_iconst (v := (1 : Int32)) hx hb dX6_isLowest_85 (by decide) ?_
                  refine lv_goto (tgt := 90) hx hb dX6_isLowest_86 (by decide) ?_
                  cases h
                  exact hJ8 H locs ls hP hS (lv_sub hl [1, 2, 3, 4, 0, 5] rfl)
        replace h := h1
        clear h1
        refine lv_if_eq (tgt := 48) hx hb dX6_isLowest_27 (by decide) (fun cd => ?_) (fun cd => ?_)
        · have h := (if_pos cd).symm.trans h
          refine lv_iconst (v := (0 : Int32)) hx hb dX6_isLowest_48 (by decide) ?_
          cases h
          exact hJ11 H locs ls hP hS (lv_sub hl [0, 1, 2, 3, 5] rfl)
        · have h := (if_neg cd).symm.trans h
          refine lv_aload_n hx hb dX6_isLowest_30 rfl (lv_at hl 0 rfl) ?_
          refine lv_iload hx hb dX6_isLowest_31 (lv_at hl 5 rfl) ?_
          obtain ⟨v12, h1, h⟩ := rs_bind h
          refine rs_goI (rs_runV (b := 0) (As := [.int v2]) (rest := []) C hP hS (kX6_height l D ad cI cJ tP tR M3 v2 _ h1) mk_X6_height wd_684 (yR_0) rfl ⟨rfl, rfl, Nat.le_of_ble_eq_true rfl, Nat.le_of_ble_eq_true rfl⟩ rfl hl.1 (Nat.le_of_ble_eq_true rfl) dX6_isLowest_33) hS (fun H locs hP hS => ?_)
          refine lv_aload_n hx hb dX6_isLowest_36 rfl (lv_at hl 0 rfl) ?_
          refine lv_iload_n hx hb dX6_isLowest_37 rfl (lv_at hl 2 rfl) ?_
          obtain ⟨v13, h1, h⟩ := rs_bind h
          refine rs_goI (rs_runV (b := 0) (As := [.int a2]) (rest := [.int v12]) C hP hS (kX6_height l D ad cI cJ tP tR M3 a2 _ h1) mk_X6_height wd_684 (yR_0) rfl ⟨rfl, rfl, Nat.le_of_ble_eq_true rfl, Nat.le_of_ble_eq_true rfl⟩ rfl hl.1 (Nat.le_of_ble_eq_true rfl) dX6_isLowest_38) hS (fun H locs hP hS => ?_)
          refine lv_icmp_lt (tgt := 48) hx hb dX6_isLowest_41 (by decide) (fun cd => ?_) (fun cd => ?_)
          · have h := (if_pos cd).symm.trans h
            refine lv_iconst (v := (0 : Int32)) hx hb dX6_isLowest_48 (by decide) ?_
            cases h
            exact hJ11 H locs ls hP hS (lv_sub hl [0, 1, 2, 3, 5] rfl)
          · have h := (if_neg cd).symm.trans h
            refine lv_iconst (v := (1 : Int32)) hx hb dX6_isLowest_44 (by decide) ?_
            refine lv_goto (tgt := 49) hx hb dX6_isLowest_45 (by decide) ?_
            cases h
            exact hJ11 H locs ls hP hS (lv_sub hl [0, 1, 2, 3, 5] rfl)
  exact hL9 N _ _ _ H locs ls hP hS (lv_sub hl [2, 3, 4, 5, 1, 0] rfl) h
abbrev rX6_isCell : Room := { frames := 3, cells := 0, slots := 0, locals := 67 }
theorem dX6_isCell_0 : decode cX6_isCell 0 = .ok (.aload_n 0, 1) := by decide +kernel
theorem dX6_isCell_1 : decode cX6_isCell 1 = .ok (.getfield 7, 3) := by decide +kernel
theorem dX6_isCell_4 : decode cX6_isCell 4 = .ok (.iload_n 1, 1) := by decide +kernel
theorem dX6_isCell_5 : decode cX6_isCell 5 = .ok (.iaload, 1) := by decide +kernel
theorem dX6_isCell_6 : decode cX6_isCell 6 = .ok (.aload_n 0, 1) := by decide +kernel
theorem dX6_isCell_7 : decode cX6_isCell 7 = .ok (.getfield 7, 3) := by decide +kernel
theorem dX6_isCell_10 : decode cX6_isCell 10 = .ok (.iload_n 2, 1) := by decide +kernel
theorem dX6_isCell_11 : decode cX6_isCell 11 = .ok (.iaload, 1) := by decide +kernel
theorem dX6_isCell_12 : decode cX6_isCell 12 = .ok (.isub, 1) := by decide +kernel
theorem dX6_isCell_13 : decode cX6_isCell 13 = .ok (.istore 5, 2) := by decide +kernel
theorem dX6_isCell_15 : decode cX6_isCell 15 = .ok (.aload_n 0, 1) := by decide +kernel
theorem dX6_isCell_16 : decode cX6_isCell 16 = .ok (.getfield 13, 3) := by decide +kernel
theorem dX6_isCell_19 : decode cX6_isCell 19 = .ok (.iload_n 1, 1) := by decide +kernel
theorem dX6_isCell_20 : decode cX6_isCell 20 = .ok (.iaload, 1) := by decide +kernel
theorem dX6_isCell_21 : decode cX6_isCell 21 = .ok (.aload_n 0, 1) := by decide +kernel
theorem dX6_isCell_22 : decode cX6_isCell 22 = .ok (.getfield 13, 3) := by decide +kernel
theorem dX6_isCell_25 : decode cX6_isCell 25 = .ok (.iload_n 2, 1) := by decide +kernel
theorem dX6_isCell_26 : decode cX6_isCell 26 = .ok (.iaload, 1) := by decide +kernel
theorem dX6_isCell_27 : decode cX6_isCell 27 = .ok (.isub, 1) := by decide +kernel
theorem dX6_isCell_28 : decode cX6_isCell 28 = .ok (.istore 6, 2) := by decide +kernel
theorem dX6_isCell_30 : decode cX6_isCell 30 = .ok (.aload_n 0, 1) := by decide +kernel
theorem dX6_isCell_31 : decode cX6_isCell 31 = .ok (.getfield 7, 3) := by decide +kernel
theorem dX6_isCell_34 : decode cX6_isCell 34 = .ok (.iload_n 3, 1) := by decide +kernel
theorem dX6_isCell_35 : decode cX6_isCell 35 = .ok (.iaload, 1) := by decide +kernel
theorem dX6_isCell_36 : decode cX6_isCell 36 = .ok (.aload_n 0, 1) := by decide +kernel
theorem dX6_isCell_37 : decode cX6_isCell 37 = .ok (.getfield 7, 3) := by decide +kernel
theorem dX6_isCell_40 : decode cX6_isCell 40 = .ok (.iload 4, 2) := by decide +kernel
theorem dX6_isCell_42 : decode cX6_isCell 42 = .ok (.iaload, 1) := by decide +kernel
theorem dX6_isCell_43 : decode cX6_isCell 43 = .ok (.isub, 1) := by decide +kernel
theorem dX6_isCell_44 : decode cX6_isCell 44 = .ok (.istore 7, 2) := by decide +kernel
theorem dX6_isCell_46 : decode cX6_isCell 46 = .ok (.aload_n 0, 1) := by decide +kernel
theorem dX6_isCell_47 : decode cX6_isCell 47 = .ok (.getfield 13, 3) := by decide +kernel
theorem dX6_isCell_50 : decode cX6_isCell 50 = .ok (.iload_n 3, 1) := by decide +kernel
theorem dX6_isCell_51 : decode cX6_isCell 51 = .ok (.iaload, 1) := by decide +kernel
theorem dX6_isCell_52 : decode cX6_isCell 52 = .ok (.aload_n 0, 1) := by decide +kernel
theorem dX6_isCell_53 : decode cX6_isCell 53 = .ok (.getfield 13, 3) := by decide +kernel
theorem dX6_isCell_56 : decode cX6_isCell 56 = .ok (.iload 4, 2) := by decide +kernel
theorem dX6_isCell_58 : decode cX6_isCell 58 = .ok (.iaload, 1) := by decide +kernel
theorem dX6_isCell_59 : decode cX6_isCell 59 = .ok (.isub, 1) := by decide +kernel
theorem dX6_isCell_60 : decode cX6_isCell 60 = .ok (.istore 8, 2) := by decide +kernel
theorem dX6_isCell_62 : decode cX6_isCell 62 = .ok (.aload_n 0, 1) := by decide +kernel
theorem dX6_isCell_63 : decode cX6_isCell 63 = .ok (.iload 5, 2) := by decide +kernel
theorem dX6_isCell_65 : decode cX6_isCell 65 = .ok (.iload 8, 2) := by decide +kernel
theorem dX6_isCell_67 : decode cX6_isCell 67 = .ok (.imul, 1) := by decide +kernel
theorem dX6_isCell_68 : decode cX6_isCell 68 = .ok (.iload 6, 2) := by decide +kernel
theorem dX6_isCell_70 : decode cX6_isCell 70 = .ok (.iload 7, 2) := by decide +kernel
theorem dX6_isCell_72 : decode cX6_isCell 72 = .ok (.imul, 1) := by decide +kernel
theorem dX6_isCell_73 : decode cX6_isCell 73 = .ok (.isub, 1) := by decide +kernel
theorem dX6_isCell_74 : decode cX6_isCell 74 = .ok (.putfield 106, 3) := by decide +kernel
theorem dX6_isCell_77 : decode cX6_isCell 77 = .ok (.aload_n 0, 1) := by decide +kernel
theorem dX6_isCell_78 : decode cX6_isCell 78 = .ok (.getfield 106, 3) := by decide +kernel
theorem dX6_isCell_81 : decode cX6_isCell 81 = .ok (.ifCond .ne 5, 3) := by decide +kernel
theorem dX6_isCell_84 : decode cX6_isCell 84 = .ok (.iconst 0, 1) := by decide +kernel
theorem dX6_isCell_85 : decode cX6_isCell 85 = .ok (.ireturn, 1) := by decide +kernel
theorem dX6_isCell_86 : decode cX6_isCell 86 = .ok (.aload_n 0, 1) := by decide +kernel
theorem dX6_isCell_87 : decode cX6_isCell 87 = .ok (.getfield 19, 3) := by decide +kernel
theorem dX6_isCell_90 : decode cX6_isCell 90 = .ok (.iload_n 2, 1) := by decide +kernel
theorem dX6_isCell_91 : decode cX6_isCell 91 = .ok (.iaload, 1) := by decide +kernel
theorem dX6_isCell_92 : decode cX6_isCell 92 = .ok (.aload_n 0, 1) := by decide +kernel
theorem dX6_isCell_93 : decode cX6_isCell 93 = .ok (.getfield 19, 3) := by decide +kernel
theorem dX6_isCell_96 : decode cX6_isCell 96 = .ok (.iload_n 1, 1) := by decide +kernel
theorem dX6_isCell_97 : decode cX6_isCell 97 = .ok (.iaload, 1) := by decide +kernel
theorem dX6_isCell_98 : decode cX6_isCell 98 = .ok (.isub, 1) := by decide +kernel
theorem dX6_isCell_99 : decode cX6_isCell 99 = .ok (.istore 9, 2) := by decide +kernel
theorem dX6_isCell_101 : decode cX6_isCell 101 = .ok (.aload_n 0, 1) := by decide +kernel
theorem dX6_isCell_102 : decode cX6_isCell 102 = .ok (.getfield 19, 3) := by decide +kernel
theorem dX6_isCell_105 : decode cX6_isCell 105 = .ok (.iload 4, 2) := by decide +kernel
theorem dX6_isCell_107 : decode cX6_isCell 107 = .ok (.iaload, 1) := by decide +kernel
theorem dX6_isCell_108 : decode cX6_isCell 108 = .ok (.aload_n 0, 1) := by decide +kernel
theorem dX6_isCell_109 : decode cX6_isCell 109 = .ok (.getfield 19, 3) := by decide +kernel
theorem dX6_isCell_112 : decode cX6_isCell 112 = .ok (.iload_n 3, 1) := by decide +kernel
theorem dX6_isCell_113 : decode cX6_isCell 113 = .ok (.iaload, 1) := by decide +kernel
theorem dX6_isCell_114 : decode cX6_isCell 114 = .ok (.isub, 1) := by decide +kernel
theorem dX6_isCell_115 : decode cX6_isCell 115 = .ok (.istore 10, 2) := by decide +kernel
theorem dX6_isCell_117 : decode cX6_isCell 117 = .ok (.aload_n 0, 1) := by decide +kernel
theorem dX6_isCell_118 : decode cX6_isCell 118 = .ok (.iload 9, 2) := by decide +kernel
theorem dX6_isCell_120 : decode cX6_isCell 120 = .ok (.iload 8, 2) := by decide +kernel
theorem dX6_isCell_122 : decode cX6_isCell 122 = .ok (.imul, 1) := by decide +kernel
theorem dX6_isCell_123 : decode cX6_isCell 123 = .ok (.iload 10, 2) := by decide +kernel
theorem dX6_isCell_125 : decode cX6_isCell 125 = .ok (.iload 6, 2) := by decide +kernel
theorem dX6_isCell_127 : decode cX6_isCell 127 = .ok (.imul, 1) := by decide +kernel
theorem dX6_isCell_128 : decode cX6_isCell 128 = .ok (.isub, 1) := by decide +kernel
theorem dX6_isCell_129 : decode cX6_isCell 129 = .ok (.putfield 109, 3) := by decide +kernel
theorem dX6_isCell_132 : decode cX6_isCell 132 = .ok (.aload_n 0, 1) := by decide +kernel
theorem dX6_isCell_133 : decode cX6_isCell 133 = .ok (.iload 5, 2) := by decide +kernel
theorem dX6_isCell_135 : decode cX6_isCell 135 = .ok (.iload 10, 2) := by decide +kernel
theorem dX6_isCell_137 : decode cX6_isCell 137 = .ok (.imul, 1) := by decide +kernel
theorem dX6_isCell_138 : decode cX6_isCell 138 = .ok (.iload 7, 2) := by decide +kernel
theorem dX6_isCell_140 : decode cX6_isCell 140 = .ok (.iload 9, 2) := by decide +kernel
theorem dX6_isCell_142 : decode cX6_isCell 142 = .ok (.imul, 1) := by decide +kernel
theorem dX6_isCell_143 : decode cX6_isCell 143 = .ok (.isub, 1) := by decide +kernel
theorem dX6_isCell_144 : decode cX6_isCell 144 = .ok (.putfield 112, 3) := by decide +kernel
theorem dX6_isCell_147 : decode cX6_isCell 147 = .ok (.aload_n 0, 1) := by decide +kernel
theorem dX6_isCell_148 : decode cX6_isCell 148 = .ok (.iconst 1, 1) := by decide +kernel
theorem dX6_isCell_149 : decode cX6_isCell 149 = .ok (.putfield 118, 3) := by decide +kernel
theorem dX6_isCell_152 : decode cX6_isCell 152 = .ok (.aload_n 0, 1) := by decide +kernel
theorem dX6_isCell_153 : decode cX6_isCell 153 = .ok (.iconst 0, 1) := by decide +kernel
theorem dX6_isCell_154 : decode cX6_isCell 154 = .ok (.iload_n 1, 1) := by decide +kernel
theorem dX6_isCell_155 : decode cX6_isCell 155 = .ok (.iload_n 2, 1) := by decide +kernel
theorem dX6_isCell_156 : decode cX6_isCell 156 = .ok (.invokevirtual 122, 3) := by decide +kernel
theorem dX6_isCell_159 : decode cX6_isCell 159 = .ok (.istore 11, 2) := by decide +kernel
theorem dX6_isCell_161 : decode cX6_isCell 161 = .ok (.aload_n 0, 1) := by decide +kernel
theorem dX6_isCell_162 : decode cX6_isCell 162 = .ok (.iconst 1, 1) := by decide +kernel
theorem dX6_isCell_163 : decode cX6_isCell 163 = .ok (.iload_n 3, 1) := by decide +kernel
theorem dX6_isCell_164 : decode cX6_isCell 164 = .ok (.iload 4, 2) := by decide +kernel
theorem dX6_isCell_166 : decode cX6_isCell 166 = .ok (.invokevirtual 122, 3) := by decide +kernel
theorem dX6_isCell_169 : decode cX6_isCell 169 = .ok (.istore 12, 2) := by decide +kernel
theorem dX6_isCell_171 : decode cX6_isCell 171 = .ok (.iload 11, 2) := by decide +kernel
theorem dX6_isCell_173 : decode cX6_isCell 173 = .ok (.ifCond .eq 12, 3) := by decide +kernel
theorem dX6_isCell_176 : decode cX6_isCell 176 = .ok (.iload 12, 2) := by decide +kernel
theorem dX6_isCell_178 : decode cX6_isCell 178 = .ok (.ifCond .eq 7, 3) := by decide +kernel
theorem dX6_isCell_181 : decode cX6_isCell 181 = .ok (.iconst 1, 1) := by decide +kernel
theorem dX6_isCell_182 : decode cX6_isCell 182 = .ok (.goto 4, 3) := by decide +kernel
theorem dX6_isCell_185 : decode cX6_isCell 185 = .ok (.iconst 0, 1) := by decide +kernel
theorem dX6_isCell_186 : decode cX6_isCell 186 = .ok (.ireturn, 1) := by decide +kernel
set_option maxRecDepth 100000 in
set_option maxHeartbeats 4000000 in
theorem kX6_isCell (l : Launch) (D : va_G) (ad : Nat → Nat) (cI cJ : ClassId) (tP tR : Nat) (N : Nat) (M : Mem) (a1 : Int32) (a2 : Int32) (a3 : Int32) (a4 : Int32)  (o : (Int32 × Mem)) (h : fX6_isCell N M a1 a2 a3 a4 = some o) : qMet l D cI cJ tP tR (yA ad) (yW ad cI cJ) yX6_isCell cX6_isCell 13 (some .boolean) rX6_isCell [.ref (ad 0), .int a1, .int a2, .int a3, .int a4] M (qQi D (yA ad) (yW ad cI cJ) o.1 o.2) := by
  refine rs_enterZ (own := RX6) ⟨by decide +kernel, rfl, Nat.le_of_ble_eq_true rfl⟩ ?_
  intro p e s m args below meth c Q C hret H locs ls hP hS hl
  obtain ⟨hx, hb, -⟩ := id C
  have hl : lv_has ls 13 [(0, .ref (ad 0)), (1, .int a1), (2, .int a2), (3, .int a3), (4, .int a4)] := hl
  unfold fX6_isCell at h
  refine lv_aload_n hx hb dX6_isCell_0 rfl (lv_at hl 0 rfl) ?_
  refine gfX6_7 C hP dX6_isCell_1 ?_
  refine lv_iload_n hx hb dX6_isCell_4 rfl (lv_at hl 1 rfl) ?_
  refine rs_iald C hP yIA_1 dX6_isCell_5 h (fun v1 h => ?_)
  refine lv_aload_n hx hb dX6_isCell_6 rfl (lv_at hl 0 rfl) ?_
  refine gfX6_7 C hP dX6_isCell_7 ?_
  refine lv_iload_n hx hb dX6_isCell_10 rfl (lv_at hl 2 rfl) ?_
  refine rs_iald C hP yIA_1 dX6_isCell_11 h (fun v2 h => ?_)
  refine lv_isub hx hb dX6_isCell_12 ?_
  refine lv_istore (lv' := [(5, .int (v1 - v2)), (0, .ref (ad 0)), (1, .int a1), (2, .int a2), (3, .int a3), (4, .int a4)]) hx hb dX6_isCell_13 hl (by decide) rfl (fun ls hl => ?_)
  refine lv_aload_n hx hb dX6_isCell_15 rfl (lv_at hl 1 rfl) ?_
  refine gfX6_13 C hP dX6_isCell_16 ?_
  refine lv_iload_n hx hb dX6_isCell_19 rfl (lv_at hl 2 rfl) ?_
  refine rs_iald C hP yIA_2 dX6_isCell_20 h (fun v3 h => ?_)
  refine lv_aload_n hx hb dX6_isCell_21 rfl (lv_at hl 1 rfl) ?_
  refine gfX6_13 C hP dX6_isCell_22 ?_
  refine lv_iload_n hx hb dX6_isCell_25 rfl (lv_at hl 3 rfl) ?_
  refine rs_iald C hP yIA_2 dX6_isCell_26 h (fun v4 h => ?_)
  refine lv_isub hx hb dX6_isCell_27 ?_
  refine lv_istore (lv' := [(6, .int (v3 - v4)), (5, .int (v1 - v2)), (0, .ref (ad 0)), (1, .int a1), (2, .int a2), (3, .int a3), (4, .int a4)]) hx hb dX6_isCell_28 hl (by decide) rfl (fun ls hl => ?_)
  refine lv_aload_n hx hb dX6_isCell_30 rfl (lv_at hl 2 rfl) ?_
  refine gfX6_7 C hP dX6_isCell_31 ?_
  refine lv_iload_n hx hb dX6_isCell_34 rfl (lv_at hl 5 rfl) ?_
  refine rs_iald C hP yIA_1 dX6_isCell_35 h (fun v5 h => ?_)
  refine lv_aload_n hx hb dX6_isCell_36 rfl (lv_at hl 2 rfl) ?_
  refine gfX6_7 C hP dX6_isCell_37 ?_
  refine lv_iload hx hb dX6_isCell_40 (lv_at hl 6 rfl) ?_
  refine rs_iald C hP yIA_1 dX6_isCell_42 h (fun v6 h => ?_)
  refine lv_isub hx hb dX6_isCell_43 ?_
  refine lv_istore (lv' := [(7, .int (v5 - v6)), (6, .int (v3 - v4)), (5, .int (v1 - v2)), (0, .ref (ad 0)), (1, .int a1), (2, .int a2), (3, .int a3), (4, .int a4)]) hx hb dX6_isCell_44 hl (by decide) rfl (fun ls hl => ?_)
  refine lv_aload_n hx hb dX6_isCell_46 rfl (lv_at hl 3 rfl) ?_
  refine gfX6_13 C hP dX6_isCell_47 ?_
  refine lv_iload_n hx hb dX6_isCell_50 rfl (lv_at hl 6 rfl) ?_
  refine rs_iald C hP yIA_2 dX6_isCell_51 h (fun v7 h => ?_)
  refine lv_aload_n hx hb dX6_isCell_52 rfl (lv_at hl 3 rfl) ?_
  refine gfX6_13 C hP dX6_isCell_53 ?_
  refine lv_iload hx hb dX6_isCell_56 (lv_at hl 7 rfl) ?_
  refine rs_iald C hP yIA_2 dX6_isCell_58 h (fun v8 h => ?_)
  refine lv_isub hx hb dX6_isCell_59 ?_
  refine lv_istore (lv' := [(8, .int (v7 - v8)), (7, .int (v5 - v6)), (6, .int (v3 - v4)), (5, .int (v1 - v2)), (0, .ref (ad 0)), (1, .int a1), (2, .int a2), (3, .int a3), (4, .int a4)]) hx hb dX6_isCell_60 hl (by decide) rfl (fun ls hl => ?_)
  refine lv_aload_n hx hb dX6_isCell_62 rfl (lv_at hl 4 rfl) ?_
  refine lv_iload hx hb dX6_isCell_63 (lv_at hl 3 rfl) ?_
  refine lv_iload hx hb dX6_isCell_65 (lv_at hl 0 rfl) ?_
  refine lv_imul hx hb dX6_isCell_67 ?_
  refine lv_iload hx hb dX6_isCell_68 (lv_at hl 2 rfl) ?_
  refine lv_iload hx hb dX6_isCell_70 (lv_at hl 1 rfl) ?_
  refine lv_imul hx hb dX6_isCell_72 ?_
  refine lv_isub hx hb dX6_isCell_73 ?_
  refine pfX6_106 C hP hS dX6_isCell_74 h (fun M9 h H locs hP hS => ?_)
  refine lv_aload_n hx hb dX6_isCell_77 rfl (lv_at hl 4 rfl) ?_
  refine gfX6_106 C hP dX6_isCell_78 ?_
  refine lv_if_ne (tgt := 86) hx hb dX6_isCell_81 (by decide) (fun cd => ?_) (fun cd => ?_)
  · have h := (if_neg cd).symm.trans h
    refine lv_aload_n hx hb dX6_isCell_86 rfl (lv_at hl 4 rfl) ?_
    refine gfX6_19 C hP dX6_isCell_87 ?_
    refine lv_iload_n hx hb dX6_isCell_90 rfl (lv_at hl 6 rfl) ?_
    refine rs_iald C hP yIA_4 dX6_isCell_91 h (fun v10 h => ?_)
    refine lv_aload_n hx hb dX6_isCell_92 rfl (lv_at hl 4 rfl) ?_
    refine gfX6_19 C hP dX6_isCell_93 ?_
    refine lv_iload_n hx hb dX6_isCell_96 rfl (lv_at hl 5 rfl) ?_
    refine rs_iald C hP yIA_4 dX6_isCell_97 h (fun v11 h => ?_)
    refine lv_isub hx hb dX6_isCell_98 ?_
    refine lv_istore (lv' := [(9, .int (v10 - v11)), (8, .int (v7 - v8)), (7, .int (v5 - v6)), (6, .int (v3 - v4)), (5, .int (v1 - v2)), (0, .ref (ad 0)), (1, .int a1), (2, .int a2), (3, .int a3), (4, .int a4)]) hx hb dX6_isCell_99 hl (by decide) rfl (fun ls hl => ?_)
    refine lv_aload_n hx hb dX6_isCell_101 rfl (lv_at hl 5 rfl) ?_
    refine gfX6_19 C hP dX6_isCell_102 ?_
    refine lv_iload hx hb dX6_isCell_105 (lv_at hl 9 rfl) ?_
    refine rs_iald C hP yIA_4 dX6_isCell_107 h (fun v12 h => ?_)
    refine lv_aload_n hx hb dX6_isCell_108 rfl (lv_at hl 5 rfl) ?_
    refine gfX6_19 C hP dX6_isCell_109 ?_
    refine lv_iload_n hx hb dX6_isCell_112 rfl (lv_at hl 8 rfl) ?_
    refine rs_iald C hP yIA_4 dX6_isCell_113 h (fun v13 h => ?_)
    refine lv_isub hx hb dX6_isCell_114 ?_
    refine lv_istore (lv' := [(10, .int (v12 - v13)), (9, .int (v10 - v11)), (8, .int (v7 - v8)), (7, .int (v5 - v6)), (6, .int (v3 - v4)), (5, .int (v1 - v2)), (0, .ref (ad 0)), (1, .int a1), (2, .int a2), (3, .int a3), (4, .int a4)]) hx hb dX6_isCell_115 hl (by decide) rfl (fun ls hl => ?_)
    refine lv_aload_n hx hb dX6_isCell_117 rfl (lv_at hl 6 rfl) ?_
    refine lv_iload hx hb dX6_isCell_118 (lv_at hl 1 rfl) ?_
    refine lv_iload hx hb dX6_isCell_120 (lv_at hl 2 rfl) ?_
    refine lv_imul hx hb dX6_isCell_122 ?_
    refine lv_iload hx hb dX6_isCell_123 (lv_at hl 0 rfl) ?_
    refine lv_iload hx hb dX6_isCell_125 (lv_at hl 4 rfl) ?_
    refine lv_imul hx hb dX6_isCell_127 ?_
    refine lv_isub hx hb dX6_isCell_128 ?_
    refine pfX6_109 C hP hS dX6_isCell_129 h (fun M14 h H locs hP hS => ?_)
    refine lv_aload_n hx hb dX6_isCell_132 rfl (lv_at hl 6 rfl) ?_
    refine lv_iload hx hb dX6_isCell_133 (lv_at hl 5 rfl) ?_
    refine lv_iload hx hb dX6_isCell_135 (lv_at hl 0 rfl) ?_
    refine lv_imul hx hb dX6_isCell_137 ?_
    refine lv_iload hx hb dX6_isCell_138 (lv_at hl 3 rfl) ?_
    refine lv_iload hx hb dX6_isCell_140 (lv_at hl 1 rfl) ?_
    refine lv_imul hx hb dX6_isCell_142 ?_
    refine lv_isub hx hb dX6_isCell_143 ?_
    refine pfX6_112 C hP hS dX6_isCell_144 h (fun M15 h H locs hP hS => ?_)
    refine lv_aload_n hx hb dX6_isCell_147 rfl (lv_at hl 6 rfl) ?_
    refine lv_iconst (v := (1 : Int32)) hx hb dX6_isCell_148 (by decide) ?_
    refine pfX6_118 C hP hS dX6_isCell_149 h (fun M16 h H locs hP hS => ?_)
    refine lv_aload_n hx hb dX6_isCell_152 rfl (lv_at hl 6 rfl) ?_
    refine lv_iconst (v := (0 : Int32)) hx hb dX6_isCell_153 (by decide) ?_
    refine lv_iload_n hx hb dX6_isCell_154 rfl (lv_at hl 7 rfl) ?_
    refine lv_iload_n hx hb dX6_isCell_155 rfl (lv_at hl 8 rfl) ?_
    obtain ⟨⟨v18, M17⟩, h1, h⟩ := rs_bind h
    dsimp only at h
    refine rs_goI (rs_runV (b := 0) (As := [.int (0 : Int32), .int a1, .int a2]) (rest := []) C hP hS (kX6_isLowest l D ad cI cJ tP tR N M16 (0 : Int32) a1 a2 _ h1) mk_X6_isLowest wd_680 (yR_0) rfl ⟨rfl, rfl, Nat.le_of_ble_eq_true rfl, Nat.le_of_ble_eq_true rfl⟩ rfl hl.1 (Nat.le_of_ble_eq_true rfl) dX6_isCell_156) hS (fun H locs hP hS => ?_)
    refine lv_istore (lv' := [(11, .int v18), (10, .int (v12 - v13)), (9, .int (v10 - v11)), (8, .int (v7 - v8)), (7, .int (v5 - v6)), (6, .int (v3 - v4)), (5, .int (v1 - v2)), (0, .ref (ad 0)), (1, .int a1), (2, .int a2), (3, .int a3), (4, .int a4)]) hx hb dX6_isCell_159 hl (by decide) rfl (fun ls hl => ?_)
    refine lv_aload_n hx hb dX6_isCell_161 rfl (lv_at hl 7 rfl) ?_
    refine lv_iconst (v := (1 : Int32)) hx hb dX6_isCell_162 (by decide) ?_
    refine lv_iload_n hx hb dX6_isCell_163 rfl (lv_at hl 10 rfl) ?_
    refine lv_iload hx hb dX6_isCell_164 (lv_at hl 11 rfl) ?_
    obtain ⟨⟨v21, M20⟩, h1, h⟩ := rs_bind h
    dsimp only at h
    refine rs_goI (rs_runV (b := 0) (As := [.int (1 : Int32), .int a3, .int a4]) (rest := []) C hP hS (kX6_isLowest l D ad cI cJ tP tR N M17 (1 : Int32) a3 a4 _ h1) mk_X6_isLowest wd_680 (yR_0) rfl ⟨rfl, rfl, Nat.le_of_ble_eq_true rfl, Nat.le_of_ble_eq_true rfl⟩ rfl hl.1 (Nat.le_of_ble_eq_true rfl) dX6_isCell_166) hS (fun H locs hP hS => ?_)
    refine lv_istore (lv' := [(12, .int v21), (11, .int v18), (10, .int (v12 - v13)), (9, .int (v10 - v11)), (8, .int (v7 - v8)), (7, .int (v5 - v6)), (6, .int (v3 - v4)), (5, .int (v1 - v2)), (0, .ref (ad 0)), (1, .int a1), (2, .int a2), (3, .int a3), (4, .int a4)]) hx hb dX6_isCell_169 hl (by decide) rfl (fun ls hl => ?_)
    refine lv_iload hx hb dX6_isCell_171 (lv_at hl 1 rfl) ?_
    refine lv_if_eq (tgt := 185) hx hb dX6_isCell_173 (by decide) (fun cd => ?_) (fun cd => ?_)
    · have h := (if_pos cd).symm.trans h
      refine lv_iconst (v := (0 : Int32)) hx hb dX6_isCell_185 (by decide) ?_
      obtain ⟨rfl, hz⟩ := rs_okZM h
      exact hret H locs _ ls hz hP hS dX6_isCell_186
    · have h := (if_neg cd).symm.trans h
      refine lv_iload hx hb dX6_isCell_176 (lv_at hl 0 rfl) ?_
      refine lv_if_eq (tgt := 185) hx hb dX6_isCell_178 (by decide) (fun cd => ?_) (fun cd => ?_)
      · have h := (if_pos cd).symm.trans h
        refine lv_iconst (v := (0 : Int32)) hx hb dX6_isCell_185 (by decide) ?_
        obtain ⟨rfl, hz⟩ := rs_okZM h
        exact hret H locs _ ls hz hP hS dX6_isCell_186
      · have h := (if_neg cd).symm.trans h
        refine lv_iconst (v := (1 : Int32)) hx hb dX6_isCell_181 (by decide) ?_
        refine lv_goto (tgt := 186) hx hb dX6_isCell_182 (by decide) ?_
        obtain ⟨rfl, hz⟩ := rs_okZM h
        exact hret H locs _ ls hz hP hS dX6_isCell_186
  · have h := (if_pos cd).symm.trans h
    refine lv_iconst (v := (0 : Int32)) hx hb dX6_isCell_84 (by decide) ?_
    obtain ⟨rfl, hz⟩ := rs_okZM h
    exact hret H locs _ ls hz hP hS dX6_isCell_85
abbrev rX6_goThrough : Room := { frames := 4, cells := 0, slots := 0, locals := 99 }
theorem dX6_goThrough_0 : decode cX6_goThrough 0 = .ok (.iconst 0, 1) := by decide +kernel
theorem dX6_goThrough_1 : decode cX6_goThrough 1 = .ok (.istore_n 2, 1) := by decide +kernel
theorem dX6_goThrough_2 : decode cX6_goThrough 2 = .ok (.aload_n 0, 1) := by decide +kernel
theorem dX6_goThrough_3 : decode cX6_goThrough 3 = .ok (.iconst 1, 1) := by decide +kernel
theorem dX6_goThrough_4 : decode cX6_goThrough 4 = .ok (.putfield 125, 3) := by decide +kernel
theorem dX6_goThrough_7 : decode cX6_goThrough 7 = .ok (.iconst 0, 1) := by decide +kernel
theorem dX6_goThrough_8 : decode cX6_goThrough 8 = .ok (.istore_n 3, 1) := by decide +kernel
theorem dX6_goThrough_9 : decode cX6_goThrough 9 = .ok (.iload_n 3, 1) := by decide +kernel
theorem dX6_goThrough_10 : decode cX6_goThrough 10 = .ok (.aload_n 0, 1) := by decide +kernel
theorem dX6_goThrough_11 : decode cX6_goThrough 11 = .ok (.getfield 22, 3) := by decide +kernel
theorem dX6_goThrough_14 : decode cX6_goThrough 14 = .ok (.iconst 0, 1) := by decide +kernel
theorem dX6_goThrough_15 : decode cX6_goThrough 15 = .ok (.iaload, 1) := by decide +kernel
theorem dX6_goThrough_16 : decode cX6_goThrough 16 = .ok (.if_icmp .ge 159, 3) := by decide +kernel
theorem dX6_goThrough_19 : decode cX6_goThrough 19 = .ok (.iload_n 3, 1) := by decide +kernel
theorem dX6_goThrough_20 : decode cX6_goThrough 20 = .ok (.iconst 1, 1) := by decide +kernel
theorem dX6_goThrough_21 : decode cX6_goThrough 21 = .ok (.iadd, 1) := by decide +kernel
theorem dX6_goThrough_22 : decode cX6_goThrough 22 = .ok (.istore 4, 2) := by decide +kernel
theorem dX6_goThrough_24 : decode cX6_goThrough 24 = .ok (.iload 4, 2) := by decide +kernel
theorem dX6_goThrough_26 : decode cX6_goThrough 26 = .ok (.aload_n 0, 1) := by decide +kernel
theorem dX6_goThrough_27 : decode cX6_goThrough 27 = .ok (.getfield 22, 3) := by decide +kernel
theorem dX6_goThrough_30 : decode cX6_goThrough 30 = .ok (.iconst 0, 1) := by decide +kernel
theorem dX6_goThrough_31 : decode cX6_goThrough 31 = .ok (.iaload, 1) := by decide +kernel
theorem dX6_goThrough_32 : decode cX6_goThrough 32 = .ok (.if_icmp .ge 137, 3) := by decide +kernel
theorem dX6_goThrough_35 : decode cX6_goThrough 35 = .ok (.bipush 8, 2) := by decide +kernel
theorem dX6_goThrough_37 : decode cX6_goThrough 37 = .ok (.istore 5, 2) := by decide +kernel
theorem dX6_goThrough_39 : decode cX6_goThrough 39 = .ok (.iload 5, 2) := by decide +kernel
theorem dX6_goThrough_41 : decode cX6_goThrough 41 = .ok (.bipush 8, 2) := by decide +kernel
theorem dX6_goThrough_43 : decode cX6_goThrough 43 = .ok (.aload_n 0, 1) := by decide +kernel
theorem dX6_goThrough_44 : decode cX6_goThrough 44 = .ok (.getfield 22, 3) := by decide +kernel
theorem dX6_goThrough_47 : decode cX6_goThrough 47 = .ok (.iconst 1, 1) := by decide +kernel
theorem dX6_goThrough_48 : decode cX6_goThrough 48 = .ok (.iaload, 1) := by decide +kernel
theorem dX6_goThrough_49 : decode cX6_goThrough 49 = .ok (.iadd, 1) := by decide +kernel
theorem dX6_goThrough_50 : decode cX6_goThrough 50 = .ok (.if_icmp .ge 113, 3) := by decide +kernel
theorem dX6_goThrough_53 : decode cX6_goThrough 53 = .ok (.iload 5, 2) := by decide +kernel
theorem dX6_goThrough_55 : decode cX6_goThrough 55 = .ok (.iconst 1, 1) := by decide +kernel
theorem dX6_goThrough_56 : decode cX6_goThrough 56 = .ok (.iadd, 1) := by decide +kernel
theorem dX6_goThrough_57 : decode cX6_goThrough 57 = .ok (.istore 6, 2) := by decide +kernel
theorem dX6_goThrough_59 : decode cX6_goThrough 59 = .ok (.iload 6, 2) := by decide +kernel
theorem dX6_goThrough_61 : decode cX6_goThrough 61 = .ok (.bipush 8, 2) := by decide +kernel
theorem dX6_goThrough_63 : decode cX6_goThrough 63 = .ok (.aload_n 0, 1) := by decide +kernel
theorem dX6_goThrough_64 : decode cX6_goThrough 64 = .ok (.getfield 22, 3) := by decide +kernel
theorem dX6_goThrough_67 : decode cX6_goThrough 67 = .ok (.iconst 1, 1) := by decide +kernel
theorem dX6_goThrough_68 : decode cX6_goThrough 68 = .ok (.iaload, 1) := by decide +kernel
theorem dX6_goThrough_69 : decode cX6_goThrough 69 = .ok (.iadd, 1) := by decide +kernel
theorem dX6_goThrough_70 : decode cX6_goThrough 70 = .ok (.if_icmp .ge 87, 3) := by decide +kernel
theorem dX6_goThrough_73 : decode cX6_goThrough 73 = .ok (.aload_n 0, 1) := by decide +kernel
theorem dX6_goThrough_74 : decode cX6_goThrough 74 = .ok (.iload_n 3, 1) := by decide +kernel
theorem dX6_goThrough_75 : decode cX6_goThrough 75 = .ok (.iload 4, 2) := by decide +kernel
theorem dX6_goThrough_77 : decode cX6_goThrough 77 = .ok (.iload 5, 2) := by decide +kernel
theorem dX6_goThrough_79 : decode cX6_goThrough 79 = .ok (.iload 6, 2) := by decide +kernel
theorem dX6_goThrough_81 : decode cX6_goThrough 81 = .ok (.invokevirtual 128, 3) := by decide +kernel
theorem dX6_goThrough_84 : decode cX6_goThrough 84 = .ok (.ifCond .eq 67, 3) := by decide +kernel
theorem dX6_goThrough_87 : decode cX6_goThrough 87 = .ok (.iload_n 2, 1) := by decide +kernel
theorem dX6_goThrough_88 : decode cX6_goThrough 88 = .ok (.iload_n 1, 1) := by decide +kernel
theorem dX6_goThrough_89 : decode cX6_goThrough 89 = .ok (.if_icmp .ne 36, 3) := by decide +kernel
theorem dX6_goThrough_92 : decode cX6_goThrough 92 = .ok (.aload_n 0, 1) := by decide +kernel
theorem dX6_goThrough_93 : decode cX6_goThrough 93 = .ok (.iload_n 3, 1) := by decide +kernel
theorem dX6_goThrough_94 : decode cX6_goThrough 94 = .ok (.putfield 132, 3) := by decide +kernel
theorem dX6_goThrough_97 : decode cX6_goThrough 97 = .ok (.aload_n 0, 1) := by decide +kernel
theorem dX6_goThrough_98 : decode cX6_goThrough 98 = .ok (.iload 4, 2) := by decide +kernel
theorem dX6_goThrough_100 : decode cX6_goThrough 100 = .ok (.putfield 135, 3) := by decide +kernel
theorem dX6_goThrough_103 : decode cX6_goThrough 103 = .ok (.aload_n 0, 1) := by decide +kernel
theorem dX6_goThrough_104 : decode cX6_goThrough 104 = .ok (.iload 5, 2) := by decide +kernel
theorem dX6_goThrough_106 : decode cX6_goThrough 106 = .ok (.bipush 8, 2) := by decide +kernel
theorem dX6_goThrough_108 : decode cX6_goThrough 108 = .ok (.isub, 1) := by decide +kernel
theorem dX6_goThrough_109 : decode cX6_goThrough 109 = .ok (.putfield 138, 3) := by decide +kernel
theorem dX6_goThrough_112 : decode cX6_goThrough 112 = .ok (.aload_n 0, 1) := by decide +kernel
theorem dX6_goThrough_113 : decode cX6_goThrough 113 = .ok (.iload 6, 2) := by decide +kernel
theorem dX6_goThrough_115 : decode cX6_goThrough 115 = .ok (.bipush 8, 2) := by decide +kernel
theorem dX6_goThrough_117 : decode cX6_goThrough 117 = .ok (.isub, 1) := by decide +kernel
theorem dX6_goThrough_118 : decode cX6_goThrough 118 = .ok (.putfield 141, 3) := by decide +kernel
theorem dX6_goThrough_121 : decode cX6_goThrough 121 = .ok (.iload_n 2, 1) := by decide +kernel
theorem dX6_goThrough_122 : decode cX6_goThrough 122 = .ok (.iconst 1, 1) := by decide +kernel
theorem dX6_goThrough_123 : decode cX6_goThrough 123 = .ok (.iadd, 1) := by decide +kernel
theorem dX6_goThrough_124 : decode cX6_goThrough 124 = .ok (.ireturn, 1) := by decide +kernel
theorem dX6_goThrough_125 : decode cX6_goThrough 125 = .ok (.aload_n 0, 1) := by decide +kernel
theorem dX6_goThrough_126 : decode cX6_goThrough 126 = .ok (.aload_n 0, 1) := by decide +kernel
theorem dX6_goThrough_127 : decode cX6_goThrough 127 = .ok (.getfield 125, 3) := by decide +kernel
theorem dX6_goThrough_130 : decode cX6_goThrough 130 = .ok (.ifCond .eq 14, 3) := by decide +kernel
theorem dX6_goThrough_133 : decode cX6_goThrough 133 = .ok (.aload_n 0, 1) := by decide +kernel
theorem dX6_goThrough_134 : decode cX6_goThrough 134 = .ok (.getfield 118, 3) := by decide +kernel
theorem dX6_goThrough_137 : decode cX6_goThrough 137 = .ok (.ifCond .eq 7, 3) := by decide +kernel
theorem dX6_goThrough_140 : decode cX6_goThrough 140 = .ok (.iconst 1, 1) := by decide +kernel
theorem dX6_goThrough_141 : decode cX6_goThrough 141 = .ok (.goto 4, 3) := by decide +kernel
theorem dX6_goThrough_144 : decode cX6_goThrough 144 = .ok (.iconst 0, 1) := by decide +kernel
theorem dX6_goThrough_145 : decode cX6_goThrough 145 = .ok (.putfield 125, 3) := by decide +kernel
theorem dX6_goThrough_148 : decode cX6_goThrough 148 = .ok (.iinc 2 1, 3) := by decide +kernel
theorem dX6_goThrough_151 : decode cX6_goThrough 151 = .ok (.iinc 6 1, 3) := by decide +kernel
theorem dX6_goThrough_154 : decode cX6_goThrough 154 = .ok (.goto (-95), 3) := by decide +kernel
theorem dX6_goThrough_157 : decode cX6_goThrough 157 = .ok (.iinc 5 1, 3) := by decide +kernel
theorem dX6_goThrough_160 : decode cX6_goThrough 160 = .ok (.goto (-121), 3) := by decide +kernel
theorem dX6_goThrough_163 : decode cX6_goThrough 163 = .ok (.iinc 4 1, 3) := by decide +kernel
theorem dX6_goThrough_166 : decode cX6_goThrough 166 = .ok (.goto (-142), 3) := by decide +kernel
theorem dX6_goThrough_169 : decode cX6_goThrough 169 = .ok (.iinc 3 1, 3) := by decide +kernel
theorem dX6_goThrough_172 : decode cX6_goThrough 172 = .ok (.goto (-163), 3) := by decide +kernel
theorem dX6_goThrough_175 : decode cX6_goThrough 175 = .ok (.iload_n 2, 1) := by decide +kernel
theorem dX6_goThrough_176 : decode cX6_goThrough 176 = .ok (.ireturn, 1) := by decide +kernel
set_option maxRecDepth 100000 in
set_option maxHeartbeats 4000000 in
theorem kX6_goThrough (l : Launch) (D : va_G) (ad : Nat → Nat) (cI cJ : ClassId) (tP tR : Nat) (N : Nat) (M : Mem) (a1 : Int32)  (o : (Int32 × Mem)) (h : fX6_goThrough N M a1 = some o) : qMet l D cI cJ tP tR (yA ad) (yW ad cI cJ) yX6_goThrough cX6_goThrough 7 (some .int) rX6_goThrough [.ref (ad 0), .int a1] M (qQi D (yA ad) (yW ad cI cJ) o.1 o.2) := by
  refine rs_enterI (own := RX6) ⟨by decide +kernel, rfl, Nat.le_of_ble_eq_true rfl⟩ ?_
  intro p e s m args below meth c Q C hret H locs ls hP hS hl
  obtain ⟨hx, hb, -⟩ := id C
  have hl : lv_has ls 7 [(0, .ref (ad 0)), (1, .int a1)] := hl
  unfold fX6_goThrough at h
  refine lv_iconst (v := (0 : Int32)) hx hb dX6_goThrough_0 (by decide) ?_
  refine lv_istore_n (lv' := [(2, .int (0 : Int32)), (0, .ref (ad 0)), (1, .int a1)]) hx hb dX6_goThrough_1 rfl hl (by decide) rfl (fun ls hl => ?_)
  refine lv_aload_n hx hb dX6_goThrough_2 rfl (lv_at hl 1 rfl) ?_
  refine lv_iconst (v := (1 : Int32)) hx hb dX6_goThrough_3 (by decide) ?_
  refine pfX6_125 C hP hS dX6_goThrough_4 h (fun M1 h H locs hP hS => ?_)
  refine lv_iconst (v := (0 : Int32)) hx hb dX6_goThrough_7 (by decide) ?_
  refine lv_istore_n (lv' := [(3, .int (0 : Int32)), (2, .int (0 : Int32)), (0, .ref (ad 0)), (1, .int a1)]) hx hb dX6_goThrough_8 rfl hl (by decide) rfl (fun ls hl => ?_)
  have hL9 : ∀ (n9 : Nat) (v2 : Int32) (v3 : Int32) (M4 : Mem) (H : Heap) (locs : List Loc) (ls : Array Slot), va_P D vwCl (yW ad cI cJ M4) H → va_S (yA ad) s.heap H locs → lv_has ls 7 [(0, .ref (ad 0)), (1, .int a1), (2, .int v2), (3, .int v3)] → lp (fun _ _ _ => none) (sX6_goThrough_9 N a1) n9 v2 v3 M4 = some o → W p l e rX6_goThrough s m args below meth c H locs 0 0 Q (F0 m 9 ls []) := by
    intro n9
    induction n9 with
    | zero => intro v2 v3 M4 H locs ls hP hS hl h; have h : (none : Option (Int32 × Mem)) = some o := h; cases h
    | succ n9 ih9 =>
      intro v2 v3 M4 H locs ls hP hS hl h
      have h : sX6_goThrough_9 N a1 (lp (fun _ _ _ => none) (sX6_goThrough_9 N a1) n9) v2 v3 M4 = some o := h
      generalize lp (fun _ _ _ => none) (sX6_goThrough_9 N a1) n9 = cont9 at h ih9
      unfold sX6_goThrough_9 at h
      refine lv_iload_n hx hb dX6_goThrough_9 rfl (lv_at hl 3 rfl) ?_
      refine lv_aload_n hx hb dX6_goThrough_10 rfl (lv_at hl 0 rfl) ?_
      refine gfX6_22 C hP dX6_goThrough_11 ?_
      refine lv_iconst (v := (0 : Int32)) hx hb dX6_goThrough_14 (by decide) ?_
      refine rs_iald C hP yIA_5 dX6_goThrough_15 h (fun v5 h => ?_)
      refine lv_icmp_ge (tgt := 175) hx hb dX6_goThrough_16 (by decide) (fun cd => ?_) (fun cd => ?_)
      · have h := (if_pos cd).symm.trans h
        refine lv_iload_n hx hb dX6_goThrough_175 rfl (lv_at hl 2 rfl) ?_
        cases h
        exact hret H locs _ ls hP hS dX6_goThrough_176
      · have h := (if_neg cd).symm.trans h
        refine lv_iload_n hx hb dX6_goThrough_19 rfl (lv_at hl 3 rfl) ?_
        refine lv_iconst (v := (1 : Int32)) hx hb dX6_goThrough_20 (by decide) ?_
        refine lv_iadd hx hb dX6_goThrough_21 ?_
        refine lv_istore (lv' := [(4, .int (v3 + (1 : Int32))), (0, .ref (ad 0)), (1, .int a1), (2, .int v2), (3, .int v3)]) hx hb dX6_goThrough_22 hl (by decide) rfl (fun ls hl => ?_)
        have hL24 : ∀ (n24 : Nat) (v6 : Int32) (v7 : Int32) (M8 : Mem) (H : Heap) (locs : List Loc) (ls : Array Slot), va_P D vwCl (yW ad cI cJ M8) H → va_S (yA ad) s.heap H locs → lv_has ls 7 [(0, .ref (ad 0)), (1, .int a1), (2, .int v6), (3, .int v3), (4, .int v7)] → lp (fun _ _ _ => none) (sX6_goThrough_24 cont9 v3 N a1) n24 v6 v7 M8 = some o → W p l e rX6_goThrough s m args below meth c H locs 0 0 Q (F0 m 24 ls []) := by
          intro n24
          induction n24 with
          | zero => intro v6 v7 M8 H locs ls hP hS hl h; have h : (none : Option (Int32 × Mem)) = some o := h; cases h
          | succ n24 ih24 =>
            intro v6 v7 M8 H locs ls hP hS hl h
            have h : sX6_goThrough_24 cont9 v3 N a1 (lp (fun _ _ _ => none) (sX6_goThrough_24 cont9 v3 N a1) n24) v6 v7 M8 = some o := h
            generalize lp (fun _ _ _ => none) (sX6_goThrough_24 cont9 v3 N a1) n24 = cont24 at h ih24
            unfold sX6_goThrough_24 at h
            refine lv_iload hx hb dX6_goThrough_24 (lv_at hl 4 rfl) ?_
            refine lv_aload_n hx hb dX6_goThrough_26 rfl (lv_at hl 0 rfl) ?_
            refine gfX6_22 C hP dX6_goThrough_27 ?_
            refine lv_iconst (v := (0 : Int32)) hx hb dX6_goThrough_30 (by decide) ?_
            refine rs_iald C hP yIA_5 dX6_goThrough_31 h (fun v9 h => ?_)
            refine lv_icmp_ge (tgt := 169) hx hb dX6_goThrough_32 (by decide) (fun cd => ?_) (fun cd => ?_)
            · have h := (if_pos cd).symm.trans h
              refine lv_iinc (v := (v3 + 1)) (lv' := [(3, .int (v3 + 1)), (0, .ref (ad 0)), (1, .int a1), (2, .int v6), (4, .int v7)]) hx hb dX6_goThrough_169 hl (k := 3) rfl rfl (by decide) rfl (fun ls hl => ?_)
              refine lv_goto (tgt := 9) hx hb dX6_goThrough_172 (by decide) ?_
              exact ih9 _ _ _ H locs ls hP hS (lv_sub hl [1, 2, 3, 0] rfl) h
            · have h := (if_neg cd).symm.trans h
              refine lv_bipush (v := (8 : Int32)) hx hb dX6_goThrough_35 (by decide) ?_
              refine lv_istore (lv' := [(5, .int (8 : Int32)), (0, .ref (ad 0)), (1, .int a1), (2, .int v6), (3, .int v3), (4, .int v7)]) hx hb dX6_goThrough_37 hl (by decide) rfl (fun ls hl => ?_)
              have hL39 : ∀ (n39 : Nat) (v10 : Int32) (v11 : Int32) (M12 : Mem) (H : Heap) (locs : List Loc) (ls : Array Slot), va_P D vwCl (yW ad cI cJ M12) H → va_S (yA ad) s.heap H locs → lv_has ls 7 [(0, .ref (ad 0)), (1, .int a1), (2, .int v10), (3, .int v3), (4, .int v7), (5, .int v11)] → lp (fun _ _ _ => none) (sX6_goThrough_39 cont24 v7 N v3 a1) n39 v10 v11 M12 = some o → W p l e rX6_goThrough s m args below meth c H locs 0 0 Q (F0 m 39 ls []) := by
                intro n39
                induction n39 with
                | zero => intro v10 v11 M12 H locs ls hP hS hl h; have h : (none : Option (Int32 × Mem)) = some o := h; cases h
                | succ n39 ih39 =>
                  intro v10 v11 M12 H locs ls hP hS hl h
                  have h : sX6_goThrough_39 cont24 v7 N v3 a1 (lp (fun _ _ _ => none) (sX6_goThrough_39 cont24 v7 N v3 a1) n39) v10 v11 M12 = some o := h
                  generalize lp (fun _ _ _ => none) (sX6_goThrough_39 cont24 v7 N v3 a1) n39 = cont39 at h ih39
                  unfold sX6_goThrough_39 at h
                  refine lv_iload hx hb dX6_goThrough_39 (lv_at hl 5 rfl) ?_
                  refine lv_bipush (v := (8 : Int32)) hx hb dX6_goThrough_41 (by decide) ?_
                  refine lv_aload_n hx hb dX6_goThrough_43 rfl (lv_at hl 0 rfl) ?_
                  refine gfX6_22 C hP dX6_goThrough_44 ?_
                  refine lv_iconst (v := (1 : Int32)) hx hb dX6_goThrough_47 (by decide) ?_
                  refine rs_iald C hP yIA_5 dX6_goThrough_48 h (fun v13 h => ?_)
                  refine lv_iadd hx hb dX6_goThrough_49 ?_
                  refine lv_icmp_ge (tgt := 163) hx hb dX6_goThrough_50 (by decide) (fun cd => ?_) (fun cd => ?_)
                  · have h := (if_pos cd).symm.trans h
                    refine lv_iinc (v := (v7 + 1)) (lv' := [(4, .int (v7 + 1)), (0, .ref (ad 0)), (1, .int a1), (2, .int v10), (3, .int v3), (5, .int v11)]) hx hb dX6_goThrough_163 hl (k := 4) rfl rfl (by decide) rfl (fun ls hl => ?_)
                    refine lv_goto (tgt := 24) hx hb dX6_goThrough_166 (by decide) ?_
                    exact ih24 _ _ _ H locs ls hP hS (lv_sub hl [1, 2, 3, 4, 0] rfl) h
                  · have h := (if_neg cd).symm.trans h
                    refine lv_iload hx hb dX6_goThrough_53 (lv_at hl 5 rfl) ?_
                    refine lv_iconst (v := (1 : Int32)) hx hb dX6_goThrough_55 (by decide) ?_
                    refine lv_iadd hx hb dX6_goThrough_56 ?_
                    refine lv_istore (lv' := [(6, .int (v11 + (1 : Int32))), (0, .ref (ad 0)), (1, .int a1), (2, .int v10), (3, .int v3), (4, .int v7), (5, .int v11)]) hx hb dX6_goThrough_57 hl (by decide) rfl (fun ls hl => ?_)
                    have hL59 : ∀ (n59 : Nat) (v14 : Int32) (v15 : Int32) (M16 : Mem) (H : Heap) (locs : List Loc) (ls : Array Slot), va_P D vwCl (yW ad cI cJ M16) H → va_S (yA ad) s.heap H locs → lv_has ls 7 [(0, .ref (ad 0)), (1, .int a1), (2, .int v14), (3, .int v3), (4, .int v7), (5, .int v11), (6, .int v15)] → lp (fun _ _ _ => none) (sX6_goThrough_59 cont39 v11 N v3 v7 a1) n59 v14 v15 M16 = some o → W p l e rX6_goThrough s m args below meth c H locs 0 0 Q (F0 m 59 ls []) := by
                      intro n59
                      induction n59 with
                      | zero => intro v14 v15 M16 H locs ls hP hS hl h; have h : (none : Option (Int32 × Mem)) = some o := h; cases h
                      | succ n59 ih59 =>
                        intro v14 v15 M16 H locs ls hP hS hl h
                        have h : sX6_goThrough_59 cont39 v11 N v3 v7 a1 (lp (fun _ _ _ => none) (sX6_goThrough_59 cont39 v11 N v3 v7 a1) n59) v14 v15 M16 = some o := h
                        generalize lp (fun _ _ _ => none) (sX6_goThrough_59 cont39 v11 N v3 v7 a1) n59 = cont59 at h ih59
                        unfold sX6_goThrough_59 at h
                        refine lv_iload hx hb dX6_goThrough_59 (lv_at hl 6 rfl) ?_
                        refine lv_bipush (v := (8 : Int32)) hx hb dX6_goThrough_61 (by decide) ?_
                        refine lv_aload_n hx hb dX6_goThrough_63 rfl (lv_at hl 0 rfl) ?_
                        refine gfX6_22 C hP dX6_goThrough_64 ?_
                        refine lv_iconst (v := (1 : Int32)) hx hb dX6_goThrough_67 (by decide) ?_
                        refine rs_iald C hP yIA_5 dX6_goThrough_68 h (fun v17 h => ?_)
                        refine lv_iadd hx hb dX6_goThrough_69 ?_
                        refine lv_icmp_ge (tgt := 157) hx hb dX6_goThrough_70 (by decide) (fun cd => ?_) (fun cd => ?_)
                        · have h := (if_pos cd).symm.trans h
                          refine lv_iinc (v := (v11 + 1)) (lv' := [(5, .int (v11 + 1)), (0, .ref (ad 0)), (1, .int a1), (2, .int v14), (3, .int v3), (4, .int v7), (6, .int v15)]) hx hb dX6_goThrough_157 hl (k := 5) rfl rfl (by decide) rfl (fun ls hl => ?_)
                          refine lv_goto (tgt := 39) hx hb dX6_goThrough_160 (by decide) ?_
                          exact ih39 _ _ _ H locs ls hP hS (lv_sub hl [1, 2, 3, 4, 5, 0] rfl) h
                        · have h := (if_neg cd).symm.trans h
                          refine lv_aload_n hx hb dX6_goThrough_73 rfl (lv_at hl 0 rfl) ?_
                          refine lv_iload_n hx hb dX6_goThrough_74 rfl (lv_at hl 3 rfl) ?_
                          refine lv_iload hx hb dX6_goThrough_75 (lv_at hl 4 rfl) ?_
                          refine lv_iload hx hb dX6_goThrough_77 (lv_at hl 5 rfl) ?_
                          refine lv_iload hx hb dX6_goThrough_79 (lv_at hl 6 rfl) ?_
                          obtain ⟨⟨v19, M18⟩, h1, h⟩ := rs_bind h
                          dsimp only at h
                          refine rs_goI (rs_runV (b := 0) (As := [.int v3, .int v7, .int v11, .int v15]) (rest := []) C hP hS (kX6_isCell l D ad cI cJ tP tR N M16 v3 v7 v11 v15 _ h1) mk_X6_isCell wd_676 (yR_0) rfl ⟨rfl, rfl, Nat.le_of_ble_eq_true rfl, Nat.le_of_ble_eq_true rfl⟩ rfl hl.1 (Nat.le_of_ble_eq_true rfl) dX6_goThrough_81) hS (fun H locs hP hS => ?_)
                          refine lv_if_eq (tgt := 151) hx hb dX6_goThrough_84 (by decide) (fun cd => ?_) (fun cd => ?_)
                          · have h := (if_pos cd).symm.trans h
                            refine lv_iinc (v := (v15 + 1)) (lv' := [(6, .int (v15 + 1)), (0, .ref (ad 0)), (1, .int a1), (2, .int v14), (3, .int v3), (4, .int v7), (5, .int v11)]) hx hb dX6_goThrough_151 hl (k := 6) rfl rfl (by decide) rfl (fun ls hl => ?_)
                            refine lv_goto (tgt := 59) hx hb dX6_goThrough_154 (by decide) ?_
                            exact ih59 _ _ _ H locs ls hP hS (lv_sub hl [1, 2, 3, 4, 5, 6, 0] rfl) h
                          · have h := (if_neg cd).symm.trans h
                            refine lv_iload_n hx hb dX6_goThrough_87 rfl (lv_at hl 2 rfl) ?_
                            refine lv_iload_n hx hb dX6_goThrough_88 rfl (lv_at hl 1 rfl) ?_
                            refine lv_icmp_ne (tgt := 125) hx hb dX6_goThrough_89 (by decide) (fun cd => ?_) (fun cd => ?_)
                            · have h := (if_neg cd).symm.trans h
                              refine lv_aload_n hx hb dX6_goThrough_125 rfl (lv_at hl 0 rfl) ?_
                              refine lv_aload_n hx hb dX6_goThrough_126 rfl (lv_at hl 0 rfl) ?_
                              refine gfX6_125 C hP dX6_goThrough_127 ?_
                              obtain ⟨v21, h1, h⟩ := rs_bind h
                              have hJ23 : ∀ (H : Heap) (locs : List Loc) (ls : Array Slot), va_P D vwCl (yW ad cI cJ M18) H → va_S (yA ad) s.heap H locs → lv_has ls 7 [(0, .ref (ad 0)), (1, .int a1), (2, .int v14), (3, .int v3), (4, .int v7), (5, .int v11), (6, .int v15)] → W p l e rX6_goThrough s m args below meth c H locs 0 0 Q (F0 m 145 ls [.int v21, .ref (ad 0)]) := by
                                intro H locs ls hP hS hl
                                refine pfX6_125 C hP hS dX6_goThrough_145 h (fun M22 h H locs hP hS => ?_)
                                refine lv_iinc (v := (v14 + 1)) (lv' := [(2, .int (v14 + 1)), (0, .ref (ad 0)), (1, .int a1), (3, .int v3), (4, .int v7), (5, .int v11), (6, .int v15)]) hx hb dX6_goThrough_148 hl (k := 2) rfl rfl (by decide) rfl (fun ls hl => ?_)
                                refine lv_iinc (v := (v15 + 1)) (lv' := [(6, .int (v15 + 1)), (2, .int (v14 + 1)), (0, .ref (ad 0)), (1, .int a1), (3, .int v3), (4, .int v7), (5, .int v11)]) hx hb dX6_goThrough_151 hl (k := 6) rfl rfl (by decide) rfl (fun ls hl => ?_)
                                refine lv_goto (tgt := 59) hx hb dX6_goThrough_154 (by decide) ?_
                                exact ih59 _ _ _ H locs ls hP hS (lv_sub hl [2, 3, 1, 4, 5, 6, 0] rfl) h
                              replace h := h1
                              clear h1
                              refine lv_if_eq (tgt := 144) hx hb dX6_goThrough_130 (by decide) (fun cd => ?_) (fun cd => ?_)
                              · have h := (if_pos cd).symm.trans h
                                refine lv_iconst (v := (0 : Int32)) hx hb dX6_goThrough_144 (by decide) ?_
                                cases h
                                exact hJ23 H locs ls hP hS (lv_sub hl [0, 1, 2, 3, 4, 5, 6] rfl)
                              · have h := (if_neg cd).symm.trans h
                                refine lv_aload_n hx hb dX6_goThrough_133 rfl (lv_at hl 0 rfl) ?_
                                refine gfX6_118 C hP dX6_goThrough_134 ?_
                                refine lv_if_eq (tgt := 144) hx hb dX6_goThrough_137 (by decide) (fun cd => ?_) (fun cd => ?_)
                                · have h := (if_pos cd).symm.trans h
                                  refine lv_iconst (v := (0 : Int32)) hx hb dX6_goThrough_144 (by decide) ?_
                                  cases h
                                  exact hJ23 H locs ls hP hS (lv_sub hl [0, 1, 2, 3, 4, 5, 6] rfl)
                                · have h := (if_neg cd).symm.trans h
                                  refine lv_iconst (v := (1 : Int32)) hx hb dX6_goThrough_140 (by decide) ?_
                                  refine lv_goto (tgt := 145) hx hb dX6_goThrough_141 (by decide) ?_
                                  cases h
                                  exact hJ23 H locs ls hP hS (lv_sub hl [0, 1, 2, 3, 4, 5, 6] rfl)
                            · have h := (if_pos cd).symm.trans h
                              refine lv_aload_n hx hb dX6_goThrough_92 rfl (lv_at hl 0 rfl) ?_
                              refine lv_iload_n hx hb dX6_goThrough_93 rfl (lv_at hl 3 rfl) ?_
                              refine pfX6_132 C hP hS dX6_goThrough_94 h (fun M24 h H locs hP hS => ?_)
                              refine lv_aload_n hx hb dX6_goThrough_97 rfl (lv_at hl 0 rfl) ?_
                              refine lv_iload hx hb dX6_goThrough_98 (lv_at hl 4 rfl) ?_
                              refine pfX6_135 C hP hS dX6_goThrough_100 h (fun M25 h H locs hP hS => ?_)
                              refine lv_aload_n hx hb dX6_goThrough_103 rfl (lv_at hl 0 rfl) ?_
                              refine lv_iload hx hb dX6_goThrough_104 (lv_at hl 5 rfl) ?_
                              refine lv_bipush (v := (8 : Int32)) hx hb dX6_goThrough_106 (by decide) ?_
                              refine lv_isub hx hb dX6_goThrough_108 ?_
                              refine pfX6_138 C hP hS dX6_goThrough_109 h (fun M26 h H locs hP hS => ?_)
                              refine lv_aload_n hx hb dX6_goThrough_112 rfl (lv_at hl 0 rfl) ?_
                              refine lv_iload hx hb dX6_goThrough_113 (lv_at hl 6 rfl) ?_
                              refine lv_bipush (v := (8 : Int32)) hx hb dX6_goThrough_115 (by decide) ?_
                              refine lv_isub hx hb dX6_goThrough_117 ?_
                              refine pfX6_141 C hP hS dX6_goThrough_118 h (fun M27 h H locs hP hS => ?_)
                              refine lv_iload_n hx hb dX6_goThrough_121 rfl (lv_at hl 2 rfl) ?_
                              refine lv_iconst (v := (1 : Int32)) hx hb dX6_goThrough_122 (by decide) ?_
                              refine lv_iadd hx hb dX6_goThrough_123 ?_
                              cases h
                              exact hret H locs _ ls hP hS dX6_goThrough_124
                    exact hL59 N _ _ _ H locs ls hP hS (lv_sub hl [1, 2, 3, 4, 5, 6, 0] rfl) h
              exact hL39 N _ _ _ H locs ls hP hS (lv_sub hl [1, 2, 3, 4, 5, 0] rfl) h
        exact hL24 N _ _ _ H locs ls hP hS (lv_sub hl [1, 2, 3, 4, 0] rfl) h
  exact hL9 N _ _ _ H locs ls hP hS (lv_sub hl [2, 3, 1, 0] rfl) h
abbrev rX6_cells : Room := { frames := 5, cells := 0, slots := 0, locals := 125 }
theorem dX6_cells_0 : decode cX6_cells 0 = .ok (.aload_n 0, 1) := by decide +kernel
theorem dX6_cells_1 : decode cX6_cells 1 = .ok (.iconst (-1), 1) := by decide +kernel
theorem dX6_cells_2 : decode cX6_cells 2 = .ok (.invokevirtual 144, 3) := by decide +kernel
theorem dX6_cells_5 : decode cX6_cells 5 = .ok (.ireturn, 1) := by decide +kernel
set_option maxRecDepth 100000 in
set_option maxHeartbeats 4000000 in
theorem kX6_cells (l : Launch) (D : va_G) (ad : Nat → Nat) (cI cJ : ClassId) (tP tR : Nat) (N : Nat) (M : Mem)   (o : (Int32 × Mem)) (h : fX6_cells N M  = some o) : qMet l D cI cJ tP tR (yA ad) (yW ad cI cJ) yX6_cells cX6_cells 1 (some .int) rX6_cells [.ref (ad 0)] M (qQi D (yA ad) (yW ad cI cJ) o.1 o.2) := by
  refine rs_enterI (own := RX6) ⟨by decide +kernel, rfl, Nat.le_of_ble_eq_true rfl⟩ ?_
  intro p e s m args below meth c Q C hret H locs ls hP hS hl
  obtain ⟨hx, hb, -⟩ := id C
  have hl : lv_has ls 1 [(0, .ref (ad 0))] := hl
  unfold fX6_cells at h
  refine lv_aload_n hx hb dX6_cells_0 rfl (lv_at hl 0 rfl) ?_
  refine lv_iconst (v := (-1 : Int32)) hx hb dX6_cells_1 (by decide) ?_
  obtain ⟨⟨v2, M1⟩, h1, h⟩ := rs_bind h
  dsimp only at h
  refine rs_goI (rs_runV (b := 0) (As := [.int (-1 : Int32)]) (rest := []) C hP hS (kX6_goThrough l D ad cI cJ tP tR N M (-1 : Int32) _ h1) mk_X6_goThrough wd_672 (yR_0) rfl ⟨rfl, rfl, Nat.le_of_ble_eq_true rfl, Nat.le_of_ble_eq_true rfl⟩ rfl hl.1 (Nat.le_of_ble_eq_true rfl) dX6_cells_2) hS (fun H locs hP hS => ?_)
  cases h
  exact hret H locs _ ls hP hS dX6_cells_5
abbrev rX6_cell : Room := { frames := 5, cells := 0, slots := 0, locals := 125 }
theorem dX6_cell_0 : decode cX6_cell 0 = .ok (.iload_n 1, 1) := by decide +kernel
theorem dX6_cell_1 : decode cX6_cell 1 = .ok (.ifCond .lt 12, 3) := by decide +kernel
theorem dX6_cell_4 : decode cX6_cell 4 = .ok (.aload_n 0, 1) := by decide +kernel
theorem dX6_cell_5 : decode cX6_cell 5 = .ok (.iload_n 1, 1) := by decide +kernel
theorem dX6_cell_6 : decode cX6_cell 6 = .ok (.invokevirtual 144, 3) := by decide +kernel
theorem dX6_cell_9 : decode cX6_cell 9 = .ok (.iload_n 1, 1) := by decide +kernel
theorem dX6_cell_10 : decode cX6_cell 10 = .ok (.if_icmp .gt 5, 3) := by decide +kernel
theorem dX6_cell_13 : decode cX6_cell 13 = .ok (.iconst (-1), 1) := by decide +kernel
theorem dX6_cell_14 : decode cX6_cell 14 = .ok (.ireturn, 1) := by decide +kernel
theorem dX6_cell_15 : decode cX6_cell 15 = .ok (.iload_n 2, 1) := by decide +kernel
theorem dX6_cell_16 : decode cX6_cell 16 = .ok (.tableswitch 64 0 4 #[36, 41, 46, 51, 56], 36) := by decide +kernel
theorem dX6_cell_52 : decode cX6_cell 52 = .ok (.aload_n 0, 1) := by decide +kernel
theorem dX6_cell_53 : decode cX6_cell 53 = .ok (.getfield 132, 3) := by decide +kernel
theorem dX6_cell_56 : decode cX6_cell 56 = .ok (.ireturn, 1) := by decide +kernel
theorem dX6_cell_57 : decode cX6_cell 57 = .ok (.aload_n 0, 1) := by decide +kernel
theorem dX6_cell_58 : decode cX6_cell 58 = .ok (.getfield 135, 3) := by decide +kernel
theorem dX6_cell_61 : decode cX6_cell 61 = .ok (.ireturn, 1) := by decide +kernel
theorem dX6_cell_62 : decode cX6_cell 62 = .ok (.aload_n 0, 1) := by decide +kernel
theorem dX6_cell_63 : decode cX6_cell 63 = .ok (.getfield 138, 3) := by decide +kernel
theorem dX6_cell_66 : decode cX6_cell 66 = .ok (.ireturn, 1) := by decide +kernel
theorem dX6_cell_67 : decode cX6_cell 67 = .ok (.aload_n 0, 1) := by decide +kernel
theorem dX6_cell_68 : decode cX6_cell 68 = .ok (.getfield 141, 3) := by decide +kernel
theorem dX6_cell_71 : decode cX6_cell 71 = .ok (.ireturn, 1) := by decide +kernel
theorem dX6_cell_72 : decode cX6_cell 72 = .ok (.aload_n 0, 1) := by decide +kernel
theorem dX6_cell_73 : decode cX6_cell 73 = .ok (.getfield 106, 3) := by decide +kernel
theorem dX6_cell_76 : decode cX6_cell 76 = .ok (.invokestatic 44, 3) := by decide +kernel
theorem dX6_cell_79 : decode cX6_cell 79 = .ok (.ireturn, 1) := by decide +kernel
theorem dX6_cell_80 : decode cX6_cell 80 = .ok (.bipush (-2), 2) := by decide +kernel
theorem dX6_cell_82 : decode cX6_cell 82 = .ok (.ireturn, 1) := by decide +kernel
set_option maxRecDepth 100000 in
set_option maxHeartbeats 4000000 in
theorem kX6_cell (l : Launch) (D : va_G) (ad : Nat → Nat) (cI cJ : ClassId) (tP tR : Nat) (N : Nat) (M : Mem) (a1 : Int32) (a2 : Int32)  (o : (Int32 × Mem)) (h : fX6_cell N M a1 a2 = some o) : qMet l D cI cJ tP tR (yA ad) (yW ad cI cJ) yX6_cell cX6_cell 3 (some .int) rX6_cell [.ref (ad 0), .int a1, .int a2] M (qQi D (yA ad) (yW ad cI cJ) o.1 o.2) := by
  refine rs_enterI (own := RX6) ⟨by decide +kernel, rfl, Nat.le_of_ble_eq_true rfl⟩ ?_
  intro p e s m args below meth c Q C hret H locs ls hP hS hl
  obtain ⟨hx, hb, -⟩ := id C
  have hl : lv_has ls 3 [(0, .ref (ad 0)), (1, .int a1), (2, .int a2)] := hl
  unfold fX6_cell at h
  refine lv_iload_n hx hb dX6_cell_0 rfl (lv_at hl 1 rfl) ?_
  refine lv_if_lt (tgt := 13) hx hb dX6_cell_1 (by decide) (fun cd => ?_) (fun cd => ?_)
  · have h := (if_pos cd).symm.trans h
    refine lv_iconst (v := (-1 : Int32)) hx hb dX6_cell_13 (by decide) ?_
    cases h
    exact hret H locs _ ls hP hS dX6_cell_14
  · have h := (if_neg cd).symm.trans h
    refine lv_aload_n hx hb dX6_cell_4 rfl (lv_at hl 0 rfl) ?_
    refine lv_iload_n hx hb dX6_cell_5 rfl (lv_at hl 1 rfl) ?_
    obtain ⟨⟨v2, M1⟩, h1, h⟩ := rs_bind h
    dsimp only at h
    refine rs_goI (rs_runV (b := 0) (As := [.int a1]) (rest := []) C hP hS (kX6_goThrough l D ad cI cJ tP tR N M a1 _ h1) mk_X6_goThrough wd_672 (yR_0) rfl ⟨rfl, rfl, Nat.le_of_ble_eq_true rfl, Nat.le_of_ble_eq_true rfl⟩ rfl hl.1 (Nat.le_of_ble_eq_true rfl) dX6_cell_6) hS (fun H locs hP hS => ?_)
    refine lv_iload_n hx hb dX6_cell_9 rfl (lv_at hl 1 rfl) ?_
    refine lv_icmp_gt (tgt := 15) hx hb dX6_cell_10 (by decide) (fun cd => ?_) (fun cd => ?_)
    · have h := (if_pos cd).symm.trans h
      refine lv_iload_n hx hb dX6_cell_15 rfl (lv_at hl 2 rfl) ?_
      by_cases c0 : a2 = 0
      · have h := (if_pos c0).symm.trans h
        refine lv_tableIn (tgt := 52) (off := 36) hx hb dX6_cell_16 (by rw [c0]; decide) (by rw [c0]; decide) (by rw [c0]; rfl) (by decide) ?_
        refine lv_aload_n hx hb dX6_cell_52 rfl (lv_at hl 0 rfl) ?_
        refine gfX6_132 C hP dX6_cell_53 ?_
        cases h
        exact hret H locs _ ls hP hS dX6_cell_56
      · have h := (if_neg c0).symm.trans h
        by_cases c1 : a2 = 1
        · have h := (if_pos c1).symm.trans h
          refine lv_tableIn (tgt := 57) (off := 41) hx hb dX6_cell_16 (by rw [c1]; decide) (by rw [c1]; decide) (by rw [c1]; rfl) (by decide) ?_
          refine lv_aload_n hx hb dX6_cell_57 rfl (lv_at hl 0 rfl) ?_
          refine gfX6_135 C hP dX6_cell_58 ?_
          cases h
          exact hret H locs _ ls hP hS dX6_cell_61
        · have h := (if_neg c1).symm.trans h
          by_cases c2 : a2 = 2
          · have h := (if_pos c2).symm.trans h
            refine lv_tableIn (tgt := 62) (off := 46) hx hb dX6_cell_16 (by rw [c2]; decide) (by rw [c2]; decide) (by rw [c2]; rfl) (by decide) ?_
            refine lv_aload_n hx hb dX6_cell_62 rfl (lv_at hl 0 rfl) ?_
            refine gfX6_138 C hP dX6_cell_63 ?_
            cases h
            exact hret H locs _ ls hP hS dX6_cell_66
          · have h := (if_neg c2).symm.trans h
            by_cases c3 : a2 = 3
            · have h := (if_pos c3).symm.trans h
              refine lv_tableIn (tgt := 67) (off := 51) hx hb dX6_cell_16 (by rw [c3]; decide) (by rw [c3]; decide) (by rw [c3]; rfl) (by decide) ?_
              refine lv_aload_n hx hb dX6_cell_67 rfl (lv_at hl 0 rfl) ?_
              refine gfX6_141 C hP dX6_cell_68 ?_
              cases h
              exact hret H locs _ ls hP hS dX6_cell_71
            · have h := (if_neg c3).symm.trans h
              by_cases c4 : a2 = 4
              · have h := (if_pos c4).symm.trans h
                refine lv_tableIn (tgt := 72) (off := 56) hx hb dX6_cell_16 (by rw [c4]; decide) (by rw [c4]; decide) (by rw [c4]; rfl) (by decide) ?_
                refine lv_aload_n hx hb dX6_cell_72 rfl (lv_at hl 0 rfl) ?_
                refine gfX6_106 C hP dX6_cell_73 ?_
                obtain ⟨v4, h1, h⟩ := rs_bind h
                refine rs_goI (rs_runS (As := [.int (M1.1 0 11)]) (rest := []) C hP hS (kX6_size l D ad cI cJ tP tR M1 (M1.1 0 11) _ h1) mk_X6_size wd_652 rfl ⟨rfl, rfl, Nat.le_of_ble_eq_true rfl, Nat.le_of_ble_eq_true rfl⟩ rfl hl.1 (Nat.le_of_ble_eq_true rfl) dX6_cell_76) hS (fun H locs hP hS => ?_)
                cases h
                exact hret H locs _ ls hP hS dX6_cell_79
              · have h := (if_neg c4).symm.trans h
                have hsw : ¬ (0 ≤ Int32.toInt a2 ∧ Int32.toInt a2 ≤ 4) := by
                  rintro ⟨q1, q2⟩
                  rcases (show Int32.toInt a2 = 0 ∨ Int32.toInt a2 = 1 ∨ Int32.toInt a2 = 2 ∨ Int32.toInt a2 = 3 ∨ Int32.toInt a2 = 4 by omega) with q | q | q | q | q
                  · exact c0 (Int32.toInt_inj.mp (q.trans rfl))
                  · exact c1 (Int32.toInt_inj.mp (q.trans rfl))
                  · exact c2 (Int32.toInt_inj.mp (q.trans rfl))
                  · exact c3 (Int32.toInt_inj.mp (q.trans rfl))
                  · exact c4 (Int32.toInt_inj.mp (q.trans rfl))
                refine rs_tabDef (tgt := 80) C dX6_cell_16 hsw (by decide) ?_
                refine lv_bipush (v := (-2 : Int32)) hx hb dX6_cell_80 (by decide) ?_
                cases h
                exact hret H locs _ ls hP hS dX6_cell_82
    · have h := (if_neg cd).symm.trans h
      refine lv_iconst (v := (-1 : Int32)) hx hb dX6_cell_13 (by decide) ?_
      cases h
      exact hret H locs _ ls hP hS dX6_cell_14
abbrev rX6_fine : Room := { frames := 5, cells := 0, slots := 0, locals := 125 }
theorem dX6_fine_0 : decode cX6_fine 0 = .ok (.aload_n 0, 1) := by decide +kernel
theorem dX6_fine_1 : decode cX6_fine 1 = .ok (.iconst (-1), 1) := by decide +kernel
theorem dX6_fine_2 : decode cX6_fine 2 = .ok (.invokevirtual 144, 3) := by decide +kernel
theorem dX6_fine_5 : decode cX6_fine 5 = .ok (.istore_n 1, 1) := by decide +kernel
theorem dX6_fine_6 : decode cX6_fine 6 = .ok (.iload_n 1, 1) := by decide +kernel
theorem dX6_fine_7 : decode cX6_fine 7 = .ok (.ifCond .lt 14, 3) := by decide +kernel
theorem dX6_fine_10 : decode cX6_fine 10 = .ok (.aload_n 0, 1) := by decide +kernel
theorem dX6_fine_11 : decode cX6_fine 11 = .ok (.getfield 125, 3) := by decide +kernel
theorem dX6_fine_14 : decode cX6_fine 14 = .ok (.ifCond .eq 7, 3) := by decide +kernel
theorem dX6_fine_17 : decode cX6_fine 17 = .ok (.iconst 1, 1) := by decide +kernel
theorem dX6_fine_18 : decode cX6_fine 18 = .ok (.goto 4, 3) := by decide +kernel
theorem dX6_fine_21 : decode cX6_fine 21 = .ok (.iconst 0, 1) := by decide +kernel
theorem dX6_fine_22 : decode cX6_fine 22 = .ok (.ireturn, 1) := by decide +kernel
set_option maxRecDepth 100000 in
set_option maxHeartbeats 4000000 in
theorem kX6_fine (l : Launch) (D : va_G) (ad : Nat → Nat) (cI cJ : ClassId) (tP tR : Nat) (N : Nat) (M : Mem)   (o : (Int32 × Mem)) (h : fX6_fine N M  = some o) : qMet l D cI cJ tP tR (yA ad) (yW ad cI cJ) yX6_fine cX6_fine 2 (some .int) rX6_fine [.ref (ad 0)] M (qQi D (yA ad) (yW ad cI cJ) o.1 o.2) := by
  refine rs_enterI (own := RX6) ⟨by decide +kernel, rfl, Nat.le_of_ble_eq_true rfl⟩ ?_
  intro p e s m args below meth c Q C hret H locs ls hP hS hl
  obtain ⟨hx, hb, -⟩ := id C
  have hl : lv_has ls 2 [(0, .ref (ad 0))] := hl
  unfold fX6_fine at h
  refine lv_aload_n hx hb dX6_fine_0 rfl (lv_at hl 0 rfl) ?_
  refine lv_iconst (v := (-1 : Int32)) hx hb dX6_fine_1 (by decide) ?_
  obtain ⟨⟨v2, M1⟩, h1, h⟩ := rs_bind h
  dsimp only at h
  refine rs_goI (rs_runV (b := 0) (As := [.int (-1 : Int32)]) (rest := []) C hP hS (kX6_goThrough l D ad cI cJ tP tR N M (-1 : Int32) _ h1) mk_X6_goThrough wd_672 (yR_0) rfl ⟨rfl, rfl, Nat.le_of_ble_eq_true rfl, Nat.le_of_ble_eq_true rfl⟩ rfl hl.1 (Nat.le_of_ble_eq_true rfl) dX6_fine_2) hS (fun H locs hP hS => ?_)
  refine lv_istore_n (lv' := [(1, .int v2), (0, .ref (ad 0))]) hx hb dX6_fine_5 rfl hl (by decide) rfl (fun ls hl => ?_)
  refine lv_iload_n hx hb dX6_fine_6 rfl (lv_at hl 0 rfl) ?_
  refine lv_if_lt (tgt := 21) hx hb dX6_fine_7 (by decide) (fun cd => ?_) (fun cd => ?_)
  · have h := (if_pos cd).symm.trans h
    refine lv_iconst (v := (0 : Int32)) hx hb dX6_fine_21 (by decide) ?_
    cases h
    exact hret H locs _ ls hP hS dX6_fine_22
  · have h := (if_neg cd).symm.trans h
    refine lv_aload_n hx hb dX6_fine_10 rfl (lv_at hl 1 rfl) ?_
    refine gfX6_125 C hP dX6_fine_11 ?_
    refine lv_if_eq (tgt := 21) hx hb dX6_fine_14 (by decide) (fun cd => ?_) (fun cd => ?_)
    · have h := (if_pos cd).symm.trans h
      refine lv_iconst (v := (0 : Int32)) hx hb dX6_fine_21 (by decide) ?_
      cases h
      exact hret H locs _ ls hP hS dX6_fine_22
    · have h := (if_neg cd).symm.trans h
      refine lv_iconst (v := (1 : Int32)) hx hb dX6_fine_17 (by decide) ?_
      refine lv_goto (tgt := 22) hx hb dX6_fine_18 (by decide) ?_
      cases h
      exact hret H locs _ ls hP hS dX6_fine_22
abbrev rX6_faceOf : Room := { frames := 0, cells := 0, slots := 0, locals := 0 }
theorem dX6_faceOf_0 : decode cX6_faceOf 0 = .ok (.sipush 1000, 3) := by decide +kernel
theorem dX6_faceOf_3 : decode cX6_faceOf 3 = .ok (.istore 4, 2) := by decide +kernel
theorem dX6_faceOf_5 : decode cX6_faceOf 5 = .ok (.iconst 0, 1) := by decide +kernel
theorem dX6_faceOf_6 : decode cX6_faceOf 6 = .ok (.istore 5, 2) := by decide +kernel
theorem dX6_faceOf_8 : decode cX6_faceOf 8 = .ok (.iconst 0, 1) := by decide +kernel
theorem dX6_faceOf_9 : decode cX6_faceOf 9 = .ok (.istore 6, 2) := by decide +kernel
theorem dX6_faceOf_11 : decode cX6_faceOf 11 = .ok (.iload 6, 2) := by decide +kernel
theorem dX6_faceOf_13 : decode cX6_faceOf 13 = .ok (.aload_n 0, 1) := by decide +kernel
theorem dX6_faceOf_14 : decode cX6_faceOf 14 = .ok (.getfield 22, 3) := by decide +kernel
theorem dX6_faceOf_17 : decode cX6_faceOf 17 = .ok (.iload_n 1, 1) := by decide +kernel
theorem dX6_faceOf_18 : decode cX6_faceOf 18 = .ok (.iaload, 1) := by decide +kernel
theorem dX6_faceOf_19 : decode cX6_faceOf 19 = .ok (.if_icmp .ge 73, 3) := by decide +kernel
theorem dX6_faceOf_22 : decode cX6_faceOf 22 = .ok (.bipush 8, 2) := by decide +kernel
theorem dX6_faceOf_24 : decode cX6_faceOf 24 = .ok (.iload_n 1, 1) := by decide +kernel
theorem dX6_faceOf_25 : decode cX6_faceOf 25 = .ok (.imul, 1) := by decide +kernel
theorem dX6_faceOf_26 : decode cX6_faceOf 26 = .ok (.iload 6, 2) := by decide +kernel
theorem dX6_faceOf_28 : decode cX6_faceOf 28 = .ok (.iadd, 1) := by decide +kernel
theorem dX6_faceOf_29 : decode cX6_faceOf 29 = .ok (.istore 7, 2) := by decide +kernel
theorem dX6_faceOf_31 : decode cX6_faceOf 31 = .ok (.iload_n 2, 1) := by decide +kernel
theorem dX6_faceOf_32 : decode cX6_faceOf 32 = .ok (.aload_n 0, 1) := by decide +kernel
theorem dX6_faceOf_33 : decode cX6_faceOf 33 = .ok (.getfield 7, 3) := by decide +kernel
theorem dX6_faceOf_36 : decode cX6_faceOf 36 = .ok (.iload 7, 2) := by decide +kernel
theorem dX6_faceOf_38 : decode cX6_faceOf 38 = .ok (.iaload, 1) := by decide +kernel
theorem dX6_faceOf_39 : decode cX6_faceOf 39 = .ok (.imul, 1) := by decide +kernel
theorem dX6_faceOf_40 : decode cX6_faceOf 40 = .ok (.iload_n 3, 1) := by decide +kernel
theorem dX6_faceOf_41 : decode cX6_faceOf 41 = .ok (.aload_n 0, 1) := by decide +kernel
theorem dX6_faceOf_42 : decode cX6_faceOf 42 = .ok (.getfield 13, 3) := by decide +kernel
theorem dX6_faceOf_45 : decode cX6_faceOf 45 = .ok (.iload 7, 2) := by decide +kernel
theorem dX6_faceOf_47 : decode cX6_faceOf 47 = .ok (.iaload, 1) := by decide +kernel
theorem dX6_faceOf_48 : decode cX6_faceOf 48 = .ok (.imul, 1) := by decide +kernel
theorem dX6_faceOf_49 : decode cX6_faceOf 49 = .ok (.iadd, 1) := by decide +kernel
theorem dX6_faceOf_50 : decode cX6_faceOf 50 = .ok (.istore 8, 2) := by decide +kernel
theorem dX6_faceOf_52 : decode cX6_faceOf 52 = .ok (.iload 8, 2) := by decide +kernel
theorem dX6_faceOf_54 : decode cX6_faceOf 54 = .ok (.iload 4, 2) := by decide +kernel
theorem dX6_faceOf_56 : decode cX6_faceOf 56 = .ok (.if_icmp .ge 10, 3) := by decide +kernel
theorem dX6_faceOf_59 : decode cX6_faceOf 59 = .ok (.iload 8, 2) := by decide +kernel
theorem dX6_faceOf_61 : decode cX6_faceOf 61 = .ok (.istore 4, 2) := by decide +kernel
theorem dX6_faceOf_63 : decode cX6_faceOf 63 = .ok (.iconst 0, 1) := by decide +kernel
theorem dX6_faceOf_64 : decode cX6_faceOf 64 = .ok (.istore 5, 2) := by decide +kernel
theorem dX6_faceOf_66 : decode cX6_faceOf 66 = .ok (.iload 5, 2) := by decide +kernel
theorem dX6_faceOf_68 : decode cX6_faceOf 68 = .ok (.iload 8, 2) := by decide +kernel
theorem dX6_faceOf_70 : decode cX6_faceOf 70 = .ok (.iload 4, 2) := by decide +kernel
theorem dX6_faceOf_72 : decode cX6_faceOf 72 = .ok (.if_icmp .ne 10, 3) := by decide +kernel
theorem dX6_faceOf_75 : decode cX6_faceOf 75 = .ok (.iconst 1, 1) := by decide +kernel
theorem dX6_faceOf_76 : decode cX6_faceOf 76 = .ok (.iload 6, 2) := by decide +kernel
theorem dX6_faceOf_78 : decode cX6_faceOf 78 = .ok (.ishl, 1) := by decide +kernel
theorem dX6_faceOf_79 : decode cX6_faceOf 79 = .ok (.goto 4, 3) := by decide +kernel
theorem dX6_faceOf_82 : decode cX6_faceOf 82 = .ok (.iconst 0, 1) := by decide +kernel
theorem dX6_faceOf_83 : decode cX6_faceOf 83 = .ok (.ior, 1) := by decide +kernel
theorem dX6_faceOf_84 : decode cX6_faceOf 84 = .ok (.istore 5, 2) := by decide +kernel
theorem dX6_faceOf_86 : decode cX6_faceOf 86 = .ok (.iinc 6 1, 3) := by decide +kernel
theorem dX6_faceOf_89 : decode cX6_faceOf 89 = .ok (.goto (-78), 3) := by decide +kernel
theorem dX6_faceOf_92 : decode cX6_faceOf 92 = .ok (.iload 5, 2) := by decide +kernel
theorem dX6_faceOf_94 : decode cX6_faceOf 94 = .ok (.ireturn, 1) := by decide +kernel
set_option maxRecDepth 100000 in
set_option maxHeartbeats 4000000 in
theorem kX6_faceOf (l : Launch) (D : va_G) (ad : Nat → Nat) (cI cJ : ClassId) (tP tR : Nat) (N : Nat) (M : Mem) (a1 : Int32) (a2 : Int32) (a3 : Int32)  (o : Int32) (h : fX6_faceOf N M a1 a2 a3 = some o) : qMet l D cI cJ tP tR (yA ad) (yW ad cI cJ) yX6_faceOf cX6_faceOf 9 (some .int) rX6_faceOf [.ref (ad 0), .int a1, .int a2, .int a3] M (qQi D (yA ad) (yW ad cI cJ) o M) := by
  refine rs_enterI (own := RX6) ⟨by decide +kernel, rfl, Nat.le_of_ble_eq_true rfl⟩ ?_
  intro p e s m args below meth c Q C hret H locs ls hP hS hl
  obtain ⟨hx, hb, -⟩ := id C
  have hl : lv_has ls 9 [(0, .ref (ad 0)), (1, .int a1), (2, .int a2), (3, .int a3)] := hl
  unfold fX6_faceOf at h
  refine lv_sipush (v := (1000 : Int32)) hx hb dX6_faceOf_0 (by decide) ?_
  refine lv_istore (lv' := [(4, .int (1000 : Int32)), (0, .ref (ad 0)), (1, .int a1), (2, .int a2), (3, .int a3)]) hx hb dX6_faceOf_3 hl (by decide) rfl (fun ls hl => ?_)
  refine lv_iconst (v := (0 : Int32)) hx hb dX6_faceOf_5 (by decide) ?_
  refine lv_istore (lv' := [(5, .int (0 : Int32)), (4, .int (1000 : Int32)), (0, .ref (ad 0)), (1, .int a1), (2, .int a2), (3, .int a3)]) hx hb dX6_faceOf_6 hl (by decide) rfl (fun ls hl => ?_)
  refine lv_iconst (v := (0 : Int32)) hx hb dX6_faceOf_8 (by decide) ?_
  refine lv_istore (lv' := [(6, .int (0 : Int32)), (5, .int (0 : Int32)), (4, .int (1000 : Int32)), (0, .ref (ad 0)), (1, .int a1), (2, .int a2), (3, .int a3)]) hx hb dX6_faceOf_9 hl (by decide) rfl (fun ls hl => ?_)
  have hL11 : ∀ (n11 : Nat) (v1 : Int32) (v2 : Int32) (v3 : Int32) (H : Heap) (locs : List Loc) (ls : Array Slot), va_P D vwCl (yW ad cI cJ M) H → va_S (yA ad) s.heap H locs → lv_has ls 9 [(0, .ref (ad 0)), (1, .int a1), (2, .int a2), (3, .int a3), (4, .int v1), (5, .int v2), (6, .int v3)] → lp (fun _ _ _ => none) (sX6_faceOf_11 M a1 a2 a3) n11 v1 v2 v3 = some o → W p l e rX6_faceOf s m args below meth c H locs 0 0 Q (F0 m 11 ls []) := by
    intro n11
    induction n11 with
    | zero => intro v1 v2 v3 H locs ls hP hS hl h; have h : (none : Option Int32) = some o := h; cases h
    | succ n11 ih11 =>
      intro v1 v2 v3 H locs ls hP hS hl h
      have h : sX6_faceOf_11 M a1 a2 a3 (lp (fun _ _ _ => none) (sX6_faceOf_11 M a1 a2 a3) n11) v1 v2 v3 = some o := h
      generalize lp (fun _ _ _ => none) (sX6_faceOf_11 M a1 a2 a3) n11 = cont11 at h ih11
      unfold sX6_faceOf_11 at h
      refine lv_iload hx hb dX6_faceOf_11 (lv_at hl 6 rfl) ?_
      refine lv_aload_n hx hb dX6_faceOf_13 rfl (lv_at hl 0 rfl) ?_
      refine gfX6_22 C hP dX6_faceOf_14 ?_
      refine lv_iload_n hx hb dX6_faceOf_17 rfl (lv_at hl 1 rfl) ?_
      refine rs_iald C hP yIA_5 dX6_faceOf_18 h (fun v4 h => ?_)
      refine lv_icmp_ge (tgt := 92) hx hb dX6_faceOf_19 (by decide) (fun cd => ?_) (fun cd => ?_)
      · have h := (if_pos cd).symm.trans h
        refine lv_iload hx hb dX6_faceOf_92 (lv_at hl 5 rfl) ?_
        cases h
        exact hret H locs _ ls hP hS dX6_faceOf_94
      · have h := (if_neg cd).symm.trans h
        refine lv_bipush (v := (8 : Int32)) hx hb dX6_faceOf_22 (by decide) ?_
        refine lv_iload_n hx hb dX6_faceOf_24 rfl (lv_at hl 1 rfl) ?_
        refine lv_imul hx hb dX6_faceOf_25 ?_
        refine lv_iload hx hb dX6_faceOf_26 (lv_at hl 6 rfl) ?_
        refine lv_iadd hx hb dX6_faceOf_28 ?_
        refine lv_istore (lv' := [(7, .int (((8 : Int32) * a1) + v3)), (0, .ref (ad 0)), (1, .int a1), (2, .int a2), (3, .int a3), (4, .int v1), (5, .int v2), (6, .int v3)]) hx hb dX6_faceOf_29 hl (by decide) rfl (fun ls hl => ?_)
        refine lv_iload_n hx hb dX6_faceOf_31 rfl (lv_at hl 3 rfl) ?_
        refine lv_aload_n hx hb dX6_faceOf_32 rfl (lv_at hl 1 rfl) ?_
        refine gfX6_7 C hP dX6_faceOf_33 ?_
        refine lv_iload hx hb dX6_faceOf_36 (lv_at hl 0 rfl) ?_
        refine rs_iald C hP yIA_1 dX6_faceOf_38 h (fun v5 h => ?_)
        refine lv_imul hx hb dX6_faceOf_39 ?_
        refine lv_iload_n hx hb dX6_faceOf_40 rfl (lv_at hl 4 rfl) ?_
        refine lv_aload_n hx hb dX6_faceOf_41 rfl (lv_at hl 1 rfl) ?_
        refine gfX6_13 C hP dX6_faceOf_42 ?_
        refine lv_iload hx hb dX6_faceOf_45 (lv_at hl 0 rfl) ?_
        refine rs_iald C hP yIA_2 dX6_faceOf_47 h (fun v6 h => ?_)
        refine lv_imul hx hb dX6_faceOf_48 ?_
        refine lv_iadd hx hb dX6_faceOf_49 ?_
        refine lv_istore (lv' := [(8, .int ((a2 * v5) + (a3 * v6))), (7, .int (((8 : Int32) * a1) + v3)), (0, .ref (ad 0)), (1, .int a1), (2, .int a2), (3, .int a3), (4, .int v1), (5, .int v2), (6, .int v3)]) hx hb dX6_faceOf_50 hl (by decide) rfl (fun ls hl => ?_)
        refine lv_iload hx hb dX6_faceOf_52 (lv_at hl 0 rfl) ?_
        refine lv_iload hx hb dX6_faceOf_54 (lv_at hl 6 rfl) ?_
        obtain ⟨⟨v7, v8⟩, h1, h⟩ := rs_bind h
        dsimp only at h
        have hJ11 : ∀ (H : Heap) (locs : List Loc) (ls : Array Slot), va_P D vwCl (yW ad cI cJ M) H → va_S (yA ad) s.heap H locs → lv_has ls 9 [(0, .ref (ad 0)), (1, .int a1), (2, .int a2), (3, .int a3), (4, .int v7), (5, .int v8), (6, .int v3), (8, .int ((a2 * v5) + (a3 * v6)))] → W p l e rX6_faceOf s m args below meth c H locs 0 0 Q (F0 m 66 ls []) := by
          intro H locs ls hP hS hl
          refine lv_iload hx hb dX6_faceOf_66 (lv_at hl 5 rfl) ?_
          refine lv_iload hx hb dX6_faceOf_68 (lv_at hl 7 rfl) ?_
          refine lv_iload hx hb dX6_faceOf_70 (lv_at hl 4 rfl) ?_
          obtain ⟨v9, h1, h⟩ := rs_bind h
          have hJ10 : ∀ (H : Heap) (locs : List Loc) (ls : Array Slot), va_P D vwCl (yW ad cI cJ M) H → va_S (yA ad) s.heap H locs → lv_has ls 9 [(0, .ref (ad 0)), (1, .int a1), (2, .int a2), (3, .int a3), (4, .int v7), (6, .int v3)] → W p l e rX6_faceOf s m args below meth c H locs 0 0 Q (F0 m 83 ls [.int v9, .int v8]) := by
            intro H locs ls hP hS hl
            refine lv_ior hx hb dX6_faceOf_83 ?_
            refine lv_istore (lv' := [(5, .int (v8 ||| v9)), (0, .ref (ad 0)), (1, .int a1), (2, .int a2), (3, .int a3), (4, .int v7), (6, .int v3)]) hx hb dX6_faceOf_84 hl (by decide) rfl (fun ls hl => ?_)
            refine lv_iinc (v := (v3 + 1)) (lv' := [(6, .int (v3 + 1)), (5, .int (v8 ||| v9)), (0, .ref (ad 0)), (1, .int a1), (2, .int a2), (3, .int a3), (4, .int v7)]) hx hb dX6_faceOf_86 hl (k := 6) rfl rfl (by decide) rfl (fun ls hl => ?_)
            refine lv_goto (tgt := 11) hx hb dX6_faceOf_89 (by decide) ?_
            exact ih11 _ _ _ H locs ls hP hS (lv_sub hl [2, 3, 4, 5, 6, 1, 0] rfl) h
          replace h := h1
          clear h1
          refine lv_icmp_ne (tgt := 82) hx hb dX6_faceOf_72 (by decide) (fun cd => ?_) (fun cd => ?_)
          · have h := (if_neg cd).symm.trans h
            refine lv_iconst (v := (0 : Int32)) hx hb dX6_faceOf_82 (by decide) ?_
            cases h
            exact hJ10 H locs ls hP hS (lv_sub hl [0, 1, 2, 3, 4, 6] rfl)
          · have h := (if_pos cd).symm.trans h
            refine lv_iconst (v := (1 : Int32)) hx hb dX6_faceOf_75 (by decide) ?_
            refine lv_iload hx hb dX6_faceOf_76 (lv_at hl 6 rfl) ?_
            refine lv_ishl hx hb dX6_faceOf_78 ?_
            refine lv_goto (tgt := 83) hx hb dX6_faceOf_79 (by decide) ?_
            cases h
            exact hJ10 H locs ls hP hS (lv_sub hl [0, 1, 2, 3, 4, 6] rfl)
        replace h := h1
        clear h1
        refine lv_icmp_ge (tgt := 66) hx hb dX6_faceOf_56 (by decide) (fun cd => ?_) (fun cd => ?_)
        · have h := (if_pos cd).symm.trans h
          cases h
          exact hJ11 H locs ls hP hS (lv_sub hl [2, 3, 4, 5, 6, 7, 8, 0] rfl)
        · have h := (if_neg cd).symm.trans h
          refine lv_iload hx hb dX6_faceOf_59 (lv_at hl 0 rfl) ?_
          refine lv_istore (lv' := [(4, .int ((a2 * v5) + (a3 * v6))), (8, .int ((a2 * v5) + (a3 * v6))), (7, .int (((8 : Int32) * a1) + v3)), (0, .ref (ad 0)), (1, .int a1), (2, .int a2), (3, .int a3), (5, .int v2), (6, .int v3)]) hx hb dX6_faceOf_61 hl (by decide) rfl (fun ls hl => ?_)
          refine lv_iconst (v := (0 : Int32)) hx hb dX6_faceOf_63 (by decide) ?_
          refine lv_istore (lv' := [(5, .int (0 : Int32)), (4, .int ((a2 * v5) + (a3 * v6))), (8, .int ((a2 * v5) + (a3 * v6))), (7, .int (((8 : Int32) * a1) + v3)), (0, .ref (ad 0)), (1, .int a1), (2, .int a2), (3, .int a3), (6, .int v3)]) hx hb dX6_faceOf_64 hl (by decide) rfl (fun ls hl => ?_)
          cases h
          exact hJ11 H locs ls hP hS (lv_sub hl [4, 5, 6, 7, 1, 0, 8, 2] rfl)
  exact hL11 N _ _ _ H locs ls hP hS (lv_sub hl [3, 4, 5, 6, 2, 1, 0] rfl) h
abbrev rX6_isWay : Room := { frames := 1, cells := 0, slots := 0, locals := 25 }
theorem dX6_isWay_0 : decode cX6_isWay 0 = .ok (.iload_n 0, 1) := by decide +kernel
theorem dX6_isWay_1 : decode cX6_isWay 1 = .ok (.i2l, 1) := by decide +kernel
theorem dX6_isWay_2 : decode cX6_isWay 2 = .ok (.ldc2_w 147, 3) := by decide +kernel
theorem dX6_isWay_5 : decode cX6_isWay 5 = .ok (.ldc2_w 56, 3) := by decide +kernel
theorem dX6_isWay_8 : decode cX6_isWay 8 = .ok (.invokestatic 48, 3) := by decide +kernel
theorem dX6_isWay_11 : decode cX6_isWay 11 = .ok (.ifCond .eq 29, 3) := by decide +kernel
theorem dX6_isWay_14 : decode cX6_isWay 14 = .ok (.iload_n 1, 1) := by decide +kernel
theorem dX6_isWay_15 : decode cX6_isWay 15 = .ok (.i2l, 1) := by decide +kernel
theorem dX6_isWay_16 : decode cX6_isWay 16 = .ok (.ldc2_w 147, 3) := by decide +kernel
theorem dX6_isWay_19 : decode cX6_isWay 19 = .ok (.ldc2_w 56, 3) := by decide +kernel
theorem dX6_isWay_22 : decode cX6_isWay 22 = .ok (.invokestatic 48, 3) := by decide +kernel
theorem dX6_isWay_25 : decode cX6_isWay 25 = .ok (.ifCond .eq 15, 3) := by decide +kernel
theorem dX6_isWay_28 : decode cX6_isWay 28 = .ok (.iload_n 0, 1) := by decide +kernel
theorem dX6_isWay_29 : decode cX6_isWay 29 = .ok (.ifCond .ne 7, 3) := by decide +kernel
theorem dX6_isWay_32 : decode cX6_isWay 32 = .ok (.iload_n 1, 1) := by decide +kernel
theorem dX6_isWay_33 : decode cX6_isWay 33 = .ok (.ifCond .eq 7, 3) := by decide +kernel
theorem dX6_isWay_36 : decode cX6_isWay 36 = .ok (.iconst 1, 1) := by decide +kernel
theorem dX6_isWay_37 : decode cX6_isWay 37 = .ok (.goto 4, 3) := by decide +kernel
theorem dX6_isWay_40 : decode cX6_isWay 40 = .ok (.iconst 0, 1) := by decide +kernel
theorem dX6_isWay_41 : decode cX6_isWay 41 = .ok (.ireturn, 1) := by decide +kernel
set_option maxRecDepth 100000 in
set_option maxHeartbeats 4000000 in
theorem kX6_isWay (l : Launch) (D : va_G) (ad : Nat → Nat) (cI cJ : ClassId) (tP tR : Nat) (M : Mem) (a0 : Int32) (a1 : Int32)  (o : Int32) (h : fX6_isWay a0 a1 = some o) : qMet l D cI cJ tP tR (yA ad) (yW ad cI cJ) yX6_isWay cX6_isWay 2 (some .boolean) rX6_isWay [.int a0, .int a1] M (qQi D (yA ad) (yW ad cI cJ) o M) := by
  refine rs_enterZ (own := RX6) ⟨by decide +kernel, rfl, Nat.le_of_ble_eq_true rfl⟩ ?_
  intro p e s m args below meth c Q C hret H locs ls hP hS hl
  obtain ⟨hx, hb, -⟩ := id C
  have hl : lv_has ls 2 [(0, .int a0), (1, .int a1)] := hl
  unfold fX6_isWay at h
  refine lv_iload_n hx hb dX6_isWay_0 rfl (lv_at hl 0 rfl) ?_
  refine lv_i2l hx hb dX6_isWay_1 rfl ?_
  refine rs_ldc2 (v := (-6 : Int64)) C wd_703 dX6_isWay_2 ?_
  refine rs_ldc2 (v := (6 : Int64)) C wd_596 dX6_isWay_5 ?_
  obtain ⟨v1, h1, h⟩ := rs_bind h
  refine rs_goI (rs_runS (As := [.long (Int32.toInt64 a0), .long (-6 : Int64), .long (6 : Int64)]) (rest := []) C hP hS (kX6_in l D ad cI cJ tP tR M (Int32.toInt64 a0) (-6 : Int64) (6 : Int64) _ h1) mk_X6_in wd_593 rfl ⟨rfl, rfl, Nat.le_of_ble_eq_true rfl, Nat.le_of_ble_eq_true rfl⟩ rfl hl.1 (Nat.le_of_ble_eq_true rfl) dX6_isWay_8) hS (fun H locs hP hS => ?_)
  refine lv_if_eq (tgt := 40) hx hb dX6_isWay_11 (by decide) (fun cd => ?_) (fun cd => ?_)
  · have h := (if_pos cd).symm.trans h
    refine lv_iconst (v := (0 : Int32)) hx hb dX6_isWay_40 (by decide) ?_
    obtain ⟨rfl, hz⟩ := rs_okZ h
    exact hret H locs _ ls hz hP hS dX6_isWay_41
  · have h := (if_neg cd).symm.trans h
    refine lv_iload_n hx hb dX6_isWay_14 rfl (lv_at hl 1 rfl) ?_
    refine lv_i2l hx hb dX6_isWay_15 rfl ?_
    refine rs_ldc2 (v := (-6 : Int64)) C wd_703 dX6_isWay_16 ?_
    refine rs_ldc2 (v := (6 : Int64)) C wd_596 dX6_isWay_19 ?_
    obtain ⟨v2, h1, h⟩ := rs_bind h
    refine rs_goI (rs_runS (As := [.long (Int32.toInt64 a1), .long (-6 : Int64), .long (6 : Int64)]) (rest := []) C hP hS (kX6_in l D ad cI cJ tP tR M (Int32.toInt64 a1) (-6 : Int64) (6 : Int64) _ h1) mk_X6_in wd_593 rfl ⟨rfl, rfl, Nat.le_of_ble_eq_true rfl, Nat.le_of_ble_eq_true rfl⟩ rfl hl.1 (Nat.le_of_ble_eq_true rfl) dX6_isWay_22) hS (fun H locs hP hS => ?_)
    refine lv_if_eq (tgt := 40) hx hb dX6_isWay_25 (by decide) (fun cd => ?_) (fun cd => ?_)
    · have h := (if_pos cd).symm.trans h
      refine lv_iconst (v := (0 : Int32)) hx hb dX6_isWay_40 (by decide) ?_
      obtain ⟨rfl, hz⟩ := rs_okZ h
      exact hret H locs _ ls hz hP hS dX6_isWay_41
    · have h := (if_neg cd).symm.trans h
      refine lv_iload_n hx hb dX6_isWay_28 rfl (lv_at hl 0 rfl) ?_
      refine lv_if_ne (tgt := 36) hx hb dX6_isWay_29 (by decide) (fun cd => ?_) (fun cd => ?_)
      · have h := (if_neg cd).symm.trans h
        refine lv_iconst (v := (1 : Int32)) hx hb dX6_isWay_36 (by decide) ?_
        refine lv_goto (tgt := 41) hx hb dX6_isWay_37 (by decide) ?_
        obtain ⟨rfl, hz⟩ := rs_okZ h
        exact hret H locs _ ls hz hP hS dX6_isWay_41
      · have h := (if_pos cd).symm.trans h
        refine lv_iload_n hx hb dX6_isWay_32 rfl (lv_at hl 1 rfl) ?_
        refine lv_if_eq (tgt := 40) hx hb dX6_isWay_33 (by decide) (fun cd => ?_) (fun cd => ?_)
        · have h := (if_pos cd).symm.trans h
          refine lv_iconst (v := (0 : Int32)) hx hb dX6_isWay_40 (by decide) ?_
          obtain ⟨rfl, hz⟩ := rs_okZ h
          exact hret H locs _ ls hz hP hS dX6_isWay_41
        · have h := (if_neg cd).symm.trans h
          refine lv_iconst (v := (1 : Int32)) hx hb dX6_isWay_36 (by decide) ?_
          refine lv_goto (tgt := 41) hx hb dX6_isWay_37 (by decide) ?_
          obtain ⟨rfl, hz⟩ := rs_okZ h
          exact hret H locs _ ls hz hP hS dX6_isWay_41
abbrev rX6_face : Room := { frames := 2, cells := 0, slots := 0, locals := 46 }
theorem dX6_face_0 : decode cX6_face 0 = .ok (.iload_n 1, 1) := by decide +kernel
theorem dX6_face_1 : decode cX6_face 1 = .ok (.invokestatic 52, 3) := by decide +kernel
theorem dX6_face_4 : decode cX6_face 4 = .ok (.ifCond .ne 5, 3) := by decide +kernel
theorem dX6_face_7 : decode cX6_face 7 = .ok (.iconst (-1), 1) := by decide +kernel
theorem dX6_face_8 : decode cX6_face 8 = .ok (.ireturn, 1) := by decide +kernel
theorem dX6_face_9 : decode cX6_face 9 = .ok (.iload_n 2, 1) := by decide +kernel
theorem dX6_face_10 : decode cX6_face 10 = .ok (.iload_n 3, 1) := by decide +kernel
theorem dX6_face_11 : decode cX6_face 11 = .ok (.invokestatic 149, 3) := by decide +kernel
theorem dX6_face_14 : decode cX6_face 14 = .ok (.ifCond .ne 6, 3) := by decide +kernel
theorem dX6_face_17 : decode cX6_face 17 = .ok (.bipush (-2), 2) := by decide +kernel
theorem dX6_face_19 : decode cX6_face 19 = .ok (.ireturn, 1) := by decide +kernel
theorem dX6_face_20 : decode cX6_face 20 = .ok (.aload_n 0, 1) := by decide +kernel
theorem dX6_face_21 : decode cX6_face 21 = .ok (.getfield 22, 3) := by decide +kernel
theorem dX6_face_24 : decode cX6_face 24 = .ok (.iload_n 1, 1) := by decide +kernel
theorem dX6_face_25 : decode cX6_face 25 = .ok (.iaload, 1) := by decide +kernel
theorem dX6_face_26 : decode cX6_face 26 = .ok (.ifCond .ne 8, 3) := by decide +kernel
theorem dX6_face_29 : decode cX6_face 29 = .ok (.bipush (-3), 2) := by decide +kernel
theorem dX6_face_31 : decode cX6_face 31 = .ok (.goto 10, 3) := by decide +kernel
theorem dX6_face_34 : decode cX6_face 34 = .ok (.aload_n 0, 1) := by decide +kernel
theorem dX6_face_35 : decode cX6_face 35 = .ok (.iload_n 1, 1) := by decide +kernel
theorem dX6_face_36 : decode cX6_face 36 = .ok (.iload_n 2, 1) := by decide +kernel
theorem dX6_face_37 : decode cX6_face 37 = .ok (.iload_n 3, 1) := by decide +kernel
theorem dX6_face_38 : decode cX6_face 38 = .ok (.invokevirtual 152, 3) := by decide +kernel
theorem dX6_face_41 : decode cX6_face 41 = .ok (.ireturn, 1) := by decide +kernel
set_option maxRecDepth 100000 in
set_option maxHeartbeats 4000000 in
theorem kX6_face (l : Launch) (D : va_G) (ad : Nat → Nat) (cI cJ : ClassId) (tP tR : Nat) (N : Nat) (M : Mem) (a1 : Int32) (a2 : Int32) (a3 : Int32)  (o : Int32) (h : fX6_face N M a1 a2 a3 = some o) : qMet l D cI cJ tP tR (yA ad) (yW ad cI cJ) yX6_face cX6_face 4 (some .int) rX6_face [.ref (ad 0), .int a1, .int a2, .int a3] M (qQi D (yA ad) (yW ad cI cJ) o M) := by
  refine rs_enterI (own := RX6) ⟨by decide +kernel, rfl, Nat.le_of_ble_eq_true rfl⟩ ?_
  intro p e s m args below meth c Q C hret H locs ls hP hS hl
  obtain ⟨hx, hb, -⟩ := id C
  have hl : lv_has ls 4 [(0, .ref (ad 0)), (1, .int a1), (2, .int a2), (3, .int a3)] := hl
  unfold fX6_face at h
  refine lv_iload_n hx hb dX6_face_0 rfl (lv_at hl 1 rfl) ?_
  obtain ⟨v1, h1, h⟩ := rs_bind h
  refine rs_goI (rs_runS (As := [.int a1]) (rest := []) C hP hS (kX6_isEquation l D ad cI cJ tP tR M a1 _ h1) mk_X6_isEquation wd_590 rfl ⟨rfl, rfl, Nat.le_of_ble_eq_true rfl, Nat.le_of_ble_eq_true rfl⟩ rfl hl.1 (Nat.le_of_ble_eq_true rfl) dX6_face_1) hS (fun H locs hP hS => ?_)
  refine lv_if_ne (tgt := 9) hx hb dX6_face_4 (by decide) (fun cd => ?_) (fun cd => ?_)
  · have h := (if_neg cd).symm.trans h
    refine lv_iload_n hx hb dX6_face_9 rfl (lv_at hl 2 rfl) ?_
    refine lv_iload_n hx hb dX6_face_10 rfl (lv_at hl 3 rfl) ?_
    obtain ⟨v2, h1, h⟩ := rs_bind h
    refine rs_goI (rs_runS (As := [.int a2, .int a3]) (rest := []) C hP hS (kX6_isWay l D ad cI cJ tP tR M a2 a3 _ h1) mk_X6_isWay wd_700 rfl ⟨rfl, rfl, Nat.le_of_ble_eq_true rfl, Nat.le_of_ble_eq_true rfl⟩ rfl hl.1 (Nat.le_of_ble_eq_true rfl) dX6_face_11) hS (fun H locs hP hS => ?_)
    refine lv_if_ne (tgt := 20) hx hb dX6_face_14 (by decide) (fun cd => ?_) (fun cd => ?_)
    · have h := (if_neg cd).symm.trans h
      refine lv_aload_n hx hb dX6_face_20 rfl (lv_at hl 0 rfl) ?_
      refine gfX6_22 C hP dX6_face_21 ?_
      refine lv_iload_n hx hb dX6_face_24 rfl (lv_at hl 1 rfl) ?_
      refine rs_iald C hP yIA_5 dX6_face_25 h (fun v3 h => ?_)
      refine lv_if_ne (tgt := 34) hx hb dX6_face_26 (by decide) (fun cd => ?_) (fun cd => ?_)
      · have h := (if_neg cd).symm.trans h
        refine lv_aload_n hx hb dX6_face_34 rfl (lv_at hl 0 rfl) ?_
        refine lv_iload_n hx hb dX6_face_35 rfl (lv_at hl 1 rfl) ?_
        refine lv_iload_n hx hb dX6_face_36 rfl (lv_at hl 2 rfl) ?_
        refine lv_iload_n hx hb dX6_face_37 rfl (lv_at hl 3 rfl) ?_
        obtain ⟨v4, h1, h⟩ := rs_bind h
        refine rs_goI (rs_runV (b := 0) (As := [.int a1, .int a2, .int a3]) (rest := []) C hP hS (kX6_faceOf l D ad cI cJ tP tR N M a1 a2 a3 _ h1) mk_X6_faceOf wd_704 (yR_0) rfl ⟨rfl, rfl, Nat.le_of_ble_eq_true rfl, Nat.le_of_ble_eq_true rfl⟩ rfl hl.1 (Nat.le_of_ble_eq_true rfl) dX6_face_38) hS (fun H locs hP hS => ?_)
        cases h
        exact hret H locs _ ls hP hS dX6_face_41
      · have h := (if_pos cd).symm.trans h
        refine lv_bipush (v := (-3 : Int32)) hx hb dX6_face_29 (by decide) ?_
        refine lv_goto (tgt := 41) hx hb dX6_face_31 (by decide) ?_
        cases h
        exact hret H locs _ ls hP hS dX6_face_41
    · have h := (if_pos cd).symm.trans h
      refine lv_bipush (v := (-2 : Int32)) hx hb dX6_face_17 (by decide) ?_
      cases h
      exact hret H locs _ ls hP hS dX6_face_19
  · have h := (if_pos cd).symm.trans h
    refine lv_iconst (v := (-1 : Int32)) hx hb dX6_face_7 (by decide) ?_
    cases h
    exact hret H locs _ ls hP hS dX6_face_8
abbrev rX6_floorOf : Room := { frames := 0, cells := 0, slots := 0, locals := 0 }
theorem dX6_floorOf_0 : decode cX6_floorOf 0 = .ok (.iload_n 1, 1) := by decide +kernel
theorem dX6_floorOf_1 : decode cX6_floorOf 1 = .ok (.ifCond .ge 8, 3) := by decide +kernel
theorem dX6_floorOf_4 : decode cX6_floorOf 4 = .ok (.iload_n 0, 1) := by decide +kernel
theorem dX6_floorOf_5 : decode cX6_floorOf 5 = .ok (.ineg, 1) := by decide +kernel
theorem dX6_floorOf_6 : decode cX6_floorOf 6 = .ok (.goto 4, 3) := by decide +kernel
theorem dX6_floorOf_9 : decode cX6_floorOf 9 = .ok (.iload_n 0, 1) := by decide +kernel
theorem dX6_floorOf_10 : decode cX6_floorOf 10 = .ok (.istore_n 2, 1) := by decide +kernel
theorem dX6_floorOf_11 : decode cX6_floorOf 11 = .ok (.iload_n 1, 1) := by decide +kernel
theorem dX6_floorOf_12 : decode cX6_floorOf 12 = .ok (.ifCond .ge 8, 3) := by decide +kernel
theorem dX6_floorOf_15 : decode cX6_floorOf 15 = .ok (.iload_n 1, 1) := by decide +kernel
theorem dX6_floorOf_16 : decode cX6_floorOf 16 = .ok (.ineg, 1) := by decide +kernel
theorem dX6_floorOf_17 : decode cX6_floorOf 17 = .ok (.goto 4, 3) := by decide +kernel
theorem dX6_floorOf_20 : decode cX6_floorOf 20 = .ok (.iload_n 1, 1) := by decide +kernel
theorem dX6_floorOf_21 : decode cX6_floorOf 21 = .ok (.istore_n 3, 1) := by decide +kernel
theorem dX6_floorOf_22 : decode cX6_floorOf 22 = .ok (.iload_n 2, 1) := by decide +kernel
theorem dX6_floorOf_23 : decode cX6_floorOf 23 = .ok (.iload_n 3, 1) := by decide +kernel
theorem dX6_floorOf_24 : decode cX6_floorOf 24 = .ok (.idiv, 1) := by decide +kernel
theorem dX6_floorOf_25 : decode cX6_floorOf 25 = .ok (.istore 4, 2) := by decide +kernel
theorem dX6_floorOf_27 : decode cX6_floorOf 27 = .ok (.iload_n 2, 1) := by decide +kernel
theorem dX6_floorOf_28 : decode cX6_floorOf 28 = .ok (.iload_n 3, 1) := by decide +kernel
theorem dX6_floorOf_29 : decode cX6_floorOf 29 = .ok (.irem, 1) := by decide +kernel
theorem dX6_floorOf_30 : decode cX6_floorOf 30 = .ok (.ifCond .ge 10, 3) := by decide +kernel
theorem dX6_floorOf_33 : decode cX6_floorOf 33 = .ok (.iload 4, 2) := by decide +kernel
theorem dX6_floorOf_35 : decode cX6_floorOf 35 = .ok (.iconst 1, 1) := by decide +kernel
theorem dX6_floorOf_36 : decode cX6_floorOf 36 = .ok (.isub, 1) := by decide +kernel
theorem dX6_floorOf_37 : decode cX6_floorOf 37 = .ok (.goto 5, 3) := by decide +kernel
theorem dX6_floorOf_40 : decode cX6_floorOf 40 = .ok (.iload 4, 2) := by decide +kernel
theorem dX6_floorOf_42 : decode cX6_floorOf 42 = .ok (.ireturn, 1) := by decide +kernel
set_option maxRecDepth 100000 in
set_option maxHeartbeats 4000000 in
theorem kX6_floorOf (l : Launch) (D : va_G) (ad : Nat → Nat) (cI cJ : ClassId) (tP tR : Nat) (M : Mem) (a0 : Int32) (a1 : Int32)  (o : Int32) (h : fX6_floorOf a0 a1 = some o) : qMet l D cI cJ tP tR (yA ad) (yW ad cI cJ) yX6_floorOf cX6_floorOf 5 (some .int) rX6_floorOf [.int a0, .int a1] M (qQi D (yA ad) (yW ad cI cJ) o M) := by
  refine rs_enterI (own := RX6) ⟨by decide +kernel, rfl, Nat.le_of_ble_eq_true rfl⟩ ?_
  intro p e s m args below meth c Q C hret H locs ls hP hS hl
  obtain ⟨hx, hb, -⟩ := id C
  have hl : lv_has ls 5 [(0, .int a0), (1, .int a1)] := hl
  unfold fX6_floorOf at h
  refine lv_iload_n hx hb dX6_floorOf_0 rfl (lv_at hl 1 rfl) ?_
  obtain ⟨v1, h1, h⟩ := rs_bind h
  have hJ6 : ∀ (H : Heap) (locs : List Loc) (ls : Array Slot), va_P D vwCl (yW ad cI cJ M) H → va_S (yA ad) s.heap H locs → lv_has ls 5 [(1, .int a1)] → W p l e rX6_floorOf s m args below meth c H locs 0 0 Q (F0 m 10 ls [.int v1]) := by
    intro H locs ls hP hS hl
    refine lv_istore_n (lv' := [(2, .int v1), (1, .int a1)]) hx hb dX6_floorOf_10 rfl hl (by decide) rfl (fun ls hl => ?_)
    refine lv_iload_n hx hb dX6_floorOf_11 rfl (lv_at hl 1 rfl) ?_
    obtain ⟨v2, h1, h⟩ := rs_bind h
    have hJ5 : ∀ (H : Heap) (locs : List Loc) (ls : Array Slot), va_P D vwCl (yW ad cI cJ M) H → va_S (yA ad) s.heap H locs → lv_has ls 5 [(2, .int v1)] → W p l e rX6_floorOf s m args below meth c H locs 0 0 Q (F0 m 21 ls [.int v2]) := by
      intro H locs ls hP hS hl
      refine lv_istore_n (lv' := [(3, .int v2), (2, .int v1)]) hx hb dX6_floorOf_21 rfl hl (by decide) rfl (fun ls hl => ?_)
      refine lv_iload_n hx hb dX6_floorOf_22 rfl (lv_at hl 1 rfl) ?_
      refine lv_iload_n hx hb dX6_floorOf_23 rfl (lv_at hl 0 rfl) ?_
      refine rs_idiv C dX6_floorOf_24 h (fun v3 h => ?_)
      refine lv_istore (lv' := [(4, .int v3), (3, .int v2), (2, .int v1)]) hx hb dX6_floorOf_25 hl (by decide) rfl (fun ls hl => ?_)
      refine lv_iload_n hx hb dX6_floorOf_27 rfl (lv_at hl 2 rfl) ?_
      refine lv_iload_n hx hb dX6_floorOf_28 rfl (lv_at hl 1 rfl) ?_
      refine rs_irem C dX6_floorOf_29 h (fun v4 h => ?_)
      refine lv_if_ge (tgt := 40) hx hb dX6_floorOf_30 (by decide) (fun cd => ?_) (fun cd => ?_)
      · have h := (if_pos cd).symm.trans h
        refine lv_iload hx hb dX6_floorOf_40 (lv_at hl 0 rfl) ?_
        cases h
        exact hret H locs _ ls hP hS dX6_floorOf_42
      · have h := (if_neg cd).symm.trans h
        refine lv_iload hx hb dX6_floorOf_33 (lv_at hl 0 rfl) ?_
        refine lv_iconst (v := (1 : Int32)) hx hb dX6_floorOf_35 (by decide) ?_
        refine lv_isub hx hb dX6_floorOf_36 ?_
        refine lv_goto (tgt := 42) hx hb dX6_floorOf_37 (by decide) ?_
        cases h
        exact hret H locs _ ls hP hS dX6_floorOf_42
    replace h := h1
    clear h1
    refine lv_if_ge (tgt := 20) hx hb dX6_floorOf_12 (by decide) (fun cd => ?_) (fun cd => ?_)
    · have h := (if_pos cd).symm.trans h
      refine lv_iload_n hx hb dX6_floorOf_20 rfl (lv_at hl 1 rfl) ?_
      cases h
      exact hJ5 H locs ls hP hS (lv_sub hl [0] rfl)
    · have h := (if_neg cd).symm.trans h
      refine lv_iload_n hx hb dX6_floorOf_15 rfl (lv_at hl 1 rfl) ?_
      refine lv_ineg hx hb dX6_floorOf_16 ?_
      refine lv_goto (tgt := 21) hx hb dX6_floorOf_17 (by decide) ?_
      cases h
      exact hJ5 H locs ls hP hS (lv_sub hl [0] rfl)
  replace h := h1
  clear h1
  refine lv_if_ge (tgt := 9) hx hb dX6_floorOf_1 (by decide) (fun cd => ?_) (fun cd => ?_)
  · have h := (if_pos cd).symm.trans h
    refine lv_iload_n hx hb dX6_floorOf_9 rfl (lv_at hl 0 rfl) ?_
    cases h
    exact hJ6 H locs ls hP hS (lv_sub hl [1] rfl)
  · have h := (if_neg cd).symm.trans h
    refine lv_iload_n hx hb dX6_floorOf_4 rfl (lv_at hl 0 rfl) ?_
    refine lv_ineg hx hb dX6_floorOf_5 ?_
    refine lv_goto (tgt := 10) hx hb dX6_floorOf_6 (by decide) ?_
    cases h
    exact hJ6 H locs ls hP hS (lv_sub hl [1] rfl)
abbrev rX6_stepOf : Room := { frames := 1, cells := 0, slots := 0, locals := 24 }
theorem dX6_stepOf_0 : decode cX6_stepOf 0 = .ok (.iload_n 2, 1) := by decide +kernel
theorem dX6_stepOf_1 : decode cX6_stepOf 1 = .ok (.ifCond .eq 16, 3) := by decide +kernel
theorem dX6_stepOf_4 : decode cX6_stepOf 4 = .ok (.aload_n 0, 1) := by decide +kernel
theorem dX6_stepOf_5 : decode cX6_stepOf 5 = .ok (.getfield 7, 3) := by decide +kernel
theorem dX6_stepOf_8 : decode cX6_stepOf 8 = .ok (.iload_n 1, 1) := by decide +kernel
theorem dX6_stepOf_9 : decode cX6_stepOf 9 = .ok (.iaload, 1) := by decide +kernel
theorem dX6_stepOf_10 : decode cX6_stepOf 10 = .ok (.iload_n 2, 1) := by decide +kernel
theorem dX6_stepOf_11 : decode cX6_stepOf 11 = .ok (.invokestatic 159, 3) := by decide +kernel
theorem dX6_stepOf_14 : decode cX6_stepOf 14 = .ok (.goto 13, 3) := by decide +kernel
theorem dX6_stepOf_17 : decode cX6_stepOf 17 = .ok (.aload_n 0, 1) := by decide +kernel
theorem dX6_stepOf_18 : decode cX6_stepOf 18 = .ok (.getfield 13, 3) := by decide +kernel
theorem dX6_stepOf_21 : decode cX6_stepOf 21 = .ok (.iload_n 1, 1) := by decide +kernel
theorem dX6_stepOf_22 : decode cX6_stepOf 22 = .ok (.iaload, 1) := by decide +kernel
theorem dX6_stepOf_23 : decode cX6_stepOf 23 = .ok (.iload_n 3, 1) := by decide +kernel
theorem dX6_stepOf_24 : decode cX6_stepOf 24 = .ok (.invokestatic 159, 3) := by decide +kernel
theorem dX6_stepOf_27 : decode cX6_stepOf 27 = .ok (.ireturn, 1) := by decide +kernel
set_option maxRecDepth 100000 in
set_option maxHeartbeats 4000000 in
theorem kX6_stepOf (l : Launch) (D : va_G) (ad : Nat → Nat) (cI cJ : ClassId) (tP tR : Nat) (M : Mem) (a1 : Int32) (a2 : Int32) (a3 : Int32)  (o : Int32) (h : fX6_stepOf M a1 a2 a3 = some o) : qMet l D cI cJ tP tR (yA ad) (yW ad cI cJ) yX6_stepOf cX6_stepOf 4 (some .int) rX6_stepOf [.ref (ad 0), .int a1, .int a2, .int a3] M (qQi D (yA ad) (yW ad cI cJ) o M) := by
  refine rs_enterI (own := RX6) ⟨by decide +kernel, rfl, Nat.le_of_ble_eq_true rfl⟩ ?_
  intro p e s m args below meth c Q C hret H locs ls hP hS hl
  obtain ⟨hx, hb, -⟩ := id C
  have hl : lv_has ls 4 [(0, .ref (ad 0)), (1, .int a1), (2, .int a2), (3, .int a3)] := hl
  unfold fX6_stepOf at h
  refine lv_iload_n hx hb dX6_stepOf_0 rfl (lv_at hl 2 rfl) ?_
  refine lv_if_eq (tgt := 17) hx hb dX6_stepOf_1 (by decide) (fun cd => ?_) (fun cd => ?_)
  · have h := (if_pos cd).symm.trans h
    refine lv_aload_n hx hb dX6_stepOf_17 rfl (lv_at hl 0 rfl) ?_
    refine gfX6_13 C hP dX6_stepOf_18 ?_
    refine lv_iload_n hx hb dX6_stepOf_21 rfl (lv_at hl 1 rfl) ?_
    refine rs_iald C hP yIA_2 dX6_stepOf_22 h (fun v1 h => ?_)
    refine lv_iload_n hx hb dX6_stepOf_23 rfl (lv_at hl 3 rfl) ?_
    obtain ⟨v2, h1, h⟩ := rs_bind h
    refine rs_goI (rs_runS (As := [.int v1, .int a3]) (rest := []) C hP hS (kX6_floorOf l D ad cI cJ tP tR M v1 a3 _ h1) mk_X6_floorOf wd_729 rfl ⟨rfl, rfl, Nat.le_of_ble_eq_true rfl, Nat.le_of_ble_eq_true rfl⟩ rfl hl.1 (Nat.le_of_ble_eq_true rfl) dX6_stepOf_24) hS (fun H locs hP hS => ?_)
    cases h
    exact hret H locs _ ls hP hS dX6_stepOf_27
  · have h := (if_neg cd).symm.trans h
    refine lv_aload_n hx hb dX6_stepOf_4 rfl (lv_at hl 0 rfl) ?_
    refine gfX6_7 C hP dX6_stepOf_5 ?_
    refine lv_iload_n hx hb dX6_stepOf_8 rfl (lv_at hl 1 rfl) ?_
    refine rs_iald C hP yIA_1 dX6_stepOf_9 h (fun v3 h => ?_)
    refine lv_iload_n hx hb dX6_stepOf_10 rfl (lv_at hl 2 rfl) ?_
    obtain ⟨v4, h1, h⟩ := rs_bind h
    refine rs_goI (rs_runS (As := [.int v3, .int a2]) (rest := []) C hP hS (kX6_floorOf l D ad cI cJ tP tR M v3 a2 _ h1) mk_X6_floorOf wd_729 rfl ⟨rfl, rfl, Nat.le_of_ble_eq_true rfl, Nat.le_of_ble_eq_true rfl⟩ rfl hl.1 (Nat.le_of_ble_eq_true rfl) dX6_stepOf_11) hS (fun H locs hP hS => ?_)
    refine lv_goto (tgt := 27) hx hb dX6_stepOf_14 (by decide) ?_
    cases h
    exact hret H locs _ ls hP hS dX6_stepOf_27
abbrev rX6_lay : Room := { frames := 2, cells := 0, slots := 0, locals := 47 }
theorem dX6_lay_0 : decode cX6_lay 0 = .ok (.iload_n 2, 1) := by decide +kernel
theorem dX6_lay_1 : decode cX6_lay 1 = .ok (.iload_n 3, 1) := by decide +kernel
theorem dX6_lay_2 : decode cX6_lay 2 = .ok (.invokestatic 87, 3) := by decide +kernel
theorem dX6_lay_5 : decode cX6_lay 5 = .ok (.istore 6, 2) := by decide +kernel
theorem dX6_lay_7 : decode cX6_lay 7 = .ok (.iload_n 3, 1) := by decide +kernel
theorem dX6_lay_8 : decode cX6_lay 8 = .ok (.ineg, 1) := by decide +kernel
theorem dX6_lay_9 : decode cX6_lay 9 = .ok (.iload 6, 2) := by decide +kernel
theorem dX6_lay_11 : decode cX6_lay 11 = .ok (.idiv, 1) := by decide +kernel
theorem dX6_lay_12 : decode cX6_lay 12 = .ok (.istore 7, 2) := by decide +kernel
theorem dX6_lay_14 : decode cX6_lay 14 = .ok (.iload_n 2, 1) := by decide +kernel
theorem dX6_lay_15 : decode cX6_lay 15 = .ok (.iload 6, 2) := by decide +kernel
theorem dX6_lay_17 : decode cX6_lay 17 = .ok (.idiv, 1) := by decide +kernel
theorem dX6_lay_18 : decode cX6_lay 18 = .ok (.istore 8, 2) := by decide +kernel
theorem dX6_lay_20 : decode cX6_lay 20 = .ok (.aload_n 0, 1) := by decide +kernel
theorem dX6_lay_21 : decode cX6_lay 21 = .ok (.iload_n 1, 1) := by decide +kernel
theorem dX6_lay_22 : decode cX6_lay 22 = .ok (.iload_n 2, 1) := by decide +kernel
theorem dX6_lay_23 : decode cX6_lay 23 = .ok (.iload_n 3, 1) := by decide +kernel
theorem dX6_lay_24 : decode cX6_lay 24 = .ok (.invokevirtual 152, 3) := by decide +kernel
theorem dX6_lay_27 : decode cX6_lay 27 = .ok (.istore 9, 2) := by decide +kernel
theorem dX6_lay_29 : decode cX6_lay 29 = .ok (.sipush 1000, 3) := by decide +kernel
theorem dX6_lay_32 : decode cX6_lay 32 = .ok (.istore 10, 2) := by decide +kernel
theorem dX6_lay_34 : decode cX6_lay 34 = .ok (.iconst 0, 1) := by decide +kernel
theorem dX6_lay_35 : decode cX6_lay 35 = .ok (.istore 11, 2) := by decide +kernel
theorem dX6_lay_37 : decode cX6_lay 37 = .ok (.iconst 0, 1) := by decide +kernel
theorem dX6_lay_38 : decode cX6_lay 38 = .ok (.istore 12, 2) := by decide +kernel
theorem dX6_lay_40 : decode cX6_lay 40 = .ok (.iload 12, 2) := by decide +kernel
theorem dX6_lay_42 : decode cX6_lay 42 = .ok (.aload_n 0, 1) := by decide +kernel
theorem dX6_lay_43 : decode cX6_lay 43 = .ok (.getfield 22, 3) := by decide +kernel
theorem dX6_lay_46 : decode cX6_lay 46 = .ok (.iload_n 1, 1) := by decide +kernel
theorem dX6_lay_47 : decode cX6_lay 47 = .ok (.iaload, 1) := by decide +kernel
theorem dX6_lay_48 : decode cX6_lay 48 = .ok (.if_icmp .ge 60, 3) := by decide +kernel
theorem dX6_lay_51 : decode cX6_lay 51 = .ok (.bipush 8, 2) := by decide +kernel
theorem dX6_lay_53 : decode cX6_lay 53 = .ok (.iload_n 1, 1) := by decide +kernel
theorem dX6_lay_54 : decode cX6_lay 54 = .ok (.imul, 1) := by decide +kernel
theorem dX6_lay_55 : decode cX6_lay 55 = .ok (.iload 12, 2) := by decide +kernel
theorem dX6_lay_57 : decode cX6_lay 57 = .ok (.iadd, 1) := by decide +kernel
theorem dX6_lay_58 : decode cX6_lay 58 = .ok (.istore 13, 2) := by decide +kernel
theorem dX6_lay_60 : decode cX6_lay 60 = .ok (.iload 9, 2) := by decide +kernel
theorem dX6_lay_62 : decode cX6_lay 62 = .ok (.iload 12, 2) := by decide +kernel
theorem dX6_lay_64 : decode cX6_lay 64 = .ok (.ishr, 1) := by decide +kernel
theorem dX6_lay_65 : decode cX6_lay 65 = .ok (.iconst 1, 1) := by decide +kernel
theorem dX6_lay_66 : decode cX6_lay 66 = .ok (.iand, 1) := by decide +kernel
theorem dX6_lay_67 : decode cX6_lay 67 = .ok (.iconst 1, 1) := by decide +kernel
theorem dX6_lay_68 : decode cX6_lay 68 = .ok (.if_icmp .ne 34, 3) := by decide +kernel
theorem dX6_lay_71 : decode cX6_lay 71 = .ok (.aload_n 0, 1) := by decide +kernel
theorem dX6_lay_72 : decode cX6_lay 72 = .ok (.iload 13, 2) := by decide +kernel
theorem dX6_lay_74 : decode cX6_lay 74 = .ok (.iload 7, 2) := by decide +kernel
theorem dX6_lay_76 : decode cX6_lay 76 = .ok (.iload 8, 2) := by decide +kernel
theorem dX6_lay_78 : decode cX6_lay 78 = .ok (.invokevirtual 156, 3) := by decide +kernel
theorem dX6_lay_81 : decode cX6_lay 81 = .ok (.istore 14, 2) := by decide +kernel
theorem dX6_lay_83 : decode cX6_lay 83 = .ok (.iload 14, 2) := by decide +kernel
theorem dX6_lay_85 : decode cX6_lay 85 = .ok (.iload 10, 2) := by decide +kernel
theorem dX6_lay_87 : decode cX6_lay 87 = .ok (.if_icmp .ge 8, 3) := by decide +kernel
theorem dX6_lay_90 : decode cX6_lay 90 = .ok (.iload 14, 2) := by decide +kernel
theorem dX6_lay_92 : decode cX6_lay 92 = .ok (.goto 5, 3) := by decide +kernel
theorem dX6_lay_95 : decode cX6_lay 95 = .ok (.iload 10, 2) := by decide +kernel
theorem dX6_lay_97 : decode cX6_lay 97 = .ok (.istore 10, 2) := by decide +kernel
theorem dX6_lay_99 : decode cX6_lay 99 = .ok (.iinc 11 1, 3) := by decide +kernel
theorem dX6_lay_102 : decode cX6_lay 102 = .ok (.iinc 12 1, 3) := by decide +kernel
theorem dX6_lay_105 : decode cX6_lay 105 = .ok (.goto (-65), 3) := by decide +kernel
theorem dX6_lay_108 : decode cX6_lay 108 = .ok (.bipush 7, 2) := by decide +kernel
theorem dX6_lay_110 : decode cX6_lay 110 = .ok (.iload_n 1, 1) := by decide +kernel
theorem dX6_lay_111 : decode cX6_lay 111 = .ok (.imul, 1) := by decide +kernel
theorem dX6_lay_112 : decode cX6_lay 112 = .ok (.istore 12, 2) := by decide +kernel
theorem dX6_lay_114 : decode cX6_lay 114 = .ok (.iload 12, 2) := by decide +kernel
theorem dX6_lay_116 : decode cX6_lay 116 = .ok (.bipush 7, 2) := by decide +kernel
theorem dX6_lay_118 : decode cX6_lay 118 = .ok (.iload_n 1, 1) := by decide +kernel
theorem dX6_lay_119 : decode cX6_lay 119 = .ok (.imul, 1) := by decide +kernel
theorem dX6_lay_120 : decode cX6_lay 120 = .ok (.bipush 7, 2) := by decide +kernel
theorem dX6_lay_122 : decode cX6_lay 122 = .ok (.iadd, 1) := by decide +kernel
theorem dX6_lay_123 : decode cX6_lay 123 = .ok (.if_icmp .ge 17, 3) := by decide +kernel
theorem dX6_lay_126 : decode cX6_lay 126 = .ok (.aload_n 0, 1) := by decide +kernel
theorem dX6_lay_127 : decode cX6_lay 127 = .ok (.getfield 37, 3) := by decide +kernel
theorem dX6_lay_130 : decode cX6_lay 130 = .ok (.iload 12, 2) := by decide +kernel
theorem dX6_lay_132 : decode cX6_lay 132 = .ok (.lconst 0, 1) := by decide +kernel
theorem dX6_lay_133 : decode cX6_lay 133 = .ok (.lastore, 1) := by decide +kernel
theorem dX6_lay_134 : decode cX6_lay 134 = .ok (.iinc 12 1, 3) := by decide +kernel
theorem dX6_lay_137 : decode cX6_lay 137 = .ok (.goto (-23), 3) := by decide +kernel
theorem dX6_lay_140 : decode cX6_lay 140 = .ok (.aload_n 0, 1) := by decide +kernel
theorem dX6_lay_141 : decode cX6_lay 141 = .ok (.getfield 41, 3) := by decide +kernel
theorem dX6_lay_144 : decode cX6_lay 144 = .ok (.iload_n 1, 1) := by decide +kernel
theorem dX6_lay_145 : decode cX6_lay 145 = .ok (.iconst 0, 1) := by decide +kernel
theorem dX6_lay_146 : decode cX6_lay 146 = .ok (.iastore, 1) := by decide +kernel
theorem dX6_lay_147 : decode cX6_lay 147 = .ok (.iconst 0, 1) := by decide +kernel
theorem dX6_lay_148 : decode cX6_lay 148 = .ok (.istore 12, 2) := by decide +kernel
theorem dX6_lay_150 : decode cX6_lay 150 = .ok (.iload 12, 2) := by decide +kernel
theorem dX6_lay_152 : decode cX6_lay 152 = .ok (.aload_n 0, 1) := by decide +kernel
theorem dX6_lay_153 : decode cX6_lay 153 = .ok (.getfield 22, 3) := by decide +kernel
theorem dX6_lay_156 : decode cX6_lay 156 = .ok (.iload_n 1, 1) := by decide +kernel
theorem dX6_lay_157 : decode cX6_lay 157 = .ok (.iaload, 1) := by decide +kernel
theorem dX6_lay_158 : decode cX6_lay 158 = .ok (.if_icmp .ge 116, 3) := by decide +kernel
theorem dX6_lay_161 : decode cX6_lay 161 = .ok (.bipush 8, 2) := by decide +kernel
theorem dX6_lay_163 : decode cX6_lay 163 = .ok (.iload_n 1, 1) := by decide +kernel
theorem dX6_lay_164 : decode cX6_lay 164 = .ok (.imul, 1) := by decide +kernel
theorem dX6_lay_165 : decode cX6_lay 165 = .ok (.iload 12, 2) := by decide +kernel
theorem dX6_lay_167 : decode cX6_lay 167 = .ok (.iadd, 1) := by decide +kernel
theorem dX6_lay_168 : decode cX6_lay 168 = .ok (.istore 13, 2) := by decide +kernel
theorem dX6_lay_170 : decode cX6_lay 170 = .ok (.iload 9, 2) := by decide +kernel
theorem dX6_lay_172 : decode cX6_lay 172 = .ok (.iload 12, 2) := by decide +kernel
theorem dX6_lay_174 : decode cX6_lay 174 = .ok (.ishr, 1) := by decide +kernel
theorem dX6_lay_175 : decode cX6_lay 175 = .ok (.iconst 1, 1) := by decide +kernel
theorem dX6_lay_176 : decode cX6_lay 176 = .ok (.iand, 1) := by decide +kernel
theorem dX6_lay_177 : decode cX6_lay 177 = .ok (.iconst 1, 1) := by decide +kernel
theorem dX6_lay_178 : decode cX6_lay 178 = .ok (.if_icmp .ne 90, 3) := by decide +kernel
theorem dX6_lay_181 : decode cX6_lay 181 = .ok (.aload_n 0, 1) := by decide +kernel
theorem dX6_lay_182 : decode cX6_lay 182 = .ok (.iload 13, 2) := by decide +kernel
theorem dX6_lay_184 : decode cX6_lay 184 = .ok (.iload 7, 2) := by decide +kernel
theorem dX6_lay_186 : decode cX6_lay 186 = .ok (.iload 8, 2) := by decide +kernel
theorem dX6_lay_188 : decode cX6_lay 188 = .ok (.invokevirtual 156, 3) := by decide +kernel
theorem dX6_lay_191 : decode cX6_lay 191 = .ok (.iload 10, 2) := by decide +kernel
theorem dX6_lay_193 : decode cX6_lay 193 = .ok (.isub, 1) := by decide +kernel
theorem dX6_lay_194 : decode cX6_lay 194 = .ok (.istore 14, 2) := by decide +kernel
theorem dX6_lay_196 : decode cX6_lay 196 = .ok (.aload_n 0, 1) := by decide +kernel
theorem dX6_lay_197 : decode cX6_lay 197 = .ok (.getfield 37, 3) := by decide +kernel
theorem dX6_lay_200 : decode cX6_lay 200 = .ok (.bipush 7, 2) := by decide +kernel
theorem dX6_lay_202 : decode cX6_lay 202 = .ok (.iload_n 1, 1) := by decide +kernel
theorem dX6_lay_203 : decode cX6_lay 203 = .ok (.imul, 1) := by decide +kernel
theorem dX6_lay_204 : decode cX6_lay 204 = .ok (.iload 14, 2) := by decide +kernel
theorem dX6_lay_206 : decode cX6_lay 206 = .ok (.iadd, 1) := by decide +kernel
theorem dX6_lay_207 : decode cX6_lay 207 = .ok (.aload_n 0, 1) := by decide +kernel
theorem dX6_lay_208 : decode cX6_lay 208 = .ok (.getfield 16, 3) := by decide +kernel
theorem dX6_lay_211 : decode cX6_lay 211 = .ok (.iload 13, 2) := by decide +kernel
theorem dX6_lay_213 : decode cX6_lay 213 = .ok (.iaload, 1) := by decide +kernel
theorem dX6_lay_214 : decode cX6_lay 214 = .ok (.ifCond .ge 17, 3) := by decide +kernel
theorem dX6_lay_217 : decode cX6_lay 217 = .ok (.aload_n 0, 1) := by decide +kernel
theorem dX6_lay_218 : decode cX6_lay 218 = .ok (.getfield 16, 3) := by decide +kernel
theorem dX6_lay_221 : decode cX6_lay 221 = .ok (.iload 13, 2) := by decide +kernel
theorem dX6_lay_223 : decode cX6_lay 223 = .ok (.iaload, 1) := by decide +kernel
theorem dX6_lay_224 : decode cX6_lay 224 = .ok (.i2l, 1) := by decide +kernel
theorem dX6_lay_225 : decode cX6_lay 225 = .ok (.lload 4, 2) := by decide +kernel
theorem dX6_lay_227 : decode cX6_lay 227 = .ok (.ladd, 1) := by decide +kernel
theorem dX6_lay_228 : decode cX6_lay 228 = .ok (.goto 11, 3) := by decide +kernel
theorem dX6_lay_231 : decode cX6_lay 231 = .ok (.aload_n 0, 1) := by decide +kernel
theorem dX6_lay_232 : decode cX6_lay 232 = .ok (.getfield 16, 3) := by decide +kernel
theorem dX6_lay_235 : decode cX6_lay 235 = .ok (.iload 13, 2) := by decide +kernel
theorem dX6_lay_237 : decode cX6_lay 237 = .ok (.iaload, 1) := by decide +kernel
theorem dX6_lay_238 : decode cX6_lay 238 = .ok (.i2l, 1) := by decide +kernel
theorem dX6_lay_239 : decode cX6_lay 239 = .ok (.lastore, 1) := by decide +kernel
theorem dX6_lay_240 : decode cX6_lay 240 = .ok (.aload_n 0, 1) := by decide +kernel
theorem dX6_lay_241 : decode cX6_lay 241 = .ok (.getfield 41, 3) := by decide +kernel
theorem dX6_lay_244 : decode cX6_lay 244 = .ok (.iload_n 1, 1) := by decide +kernel
theorem dX6_lay_245 : decode cX6_lay 245 = .ok (.iload 14, 2) := by decide +kernel
theorem dX6_lay_247 : decode cX6_lay 247 = .ok (.aload_n 0, 1) := by decide +kernel
theorem dX6_lay_248 : decode cX6_lay 248 = .ok (.getfield 41, 3) := by decide +kernel
theorem dX6_lay_251 : decode cX6_lay 251 = .ok (.iload_n 1, 1) := by decide +kernel
theorem dX6_lay_252 : decode cX6_lay 252 = .ok (.iaload, 1) := by decide +kernel
theorem dX6_lay_253 : decode cX6_lay 253 = .ok (.if_icmp .le 8, 3) := by decide +kernel
theorem dX6_lay_256 : decode cX6_lay 256 = .ok (.iload 14, 2) := by decide +kernel
theorem dX6_lay_258 : decode cX6_lay 258 = .ok (.goto 9, 3) := by decide +kernel
theorem dX6_lay_261 : decode cX6_lay 261 = .ok (.aload_n 0, 1) := by decide +kernel
theorem dX6_lay_262 : decode cX6_lay 262 = .ok (.getfield 41, 3) := by decide +kernel
theorem dX6_lay_265 : decode cX6_lay 265 = .ok (.iload_n 1, 1) := by decide +kernel
theorem dX6_lay_266 : decode cX6_lay 266 = .ok (.iaload, 1) := by decide +kernel
theorem dX6_lay_267 : decode cX6_lay 267 = .ok (.iastore, 1) := by decide +kernel
theorem dX6_lay_268 : decode cX6_lay 268 = .ok (.iinc 12 1, 3) := by decide +kernel
theorem dX6_lay_271 : decode cX6_lay 271 = .ok (.goto (-121), 3) := by decide +kernel
theorem dX6_lay_274 : decode cX6_lay 274 = .ok (.iload 11, 2) := by decide +kernel
theorem dX6_lay_276 : decode cX6_lay 276 = .ok (.iconst 1, 1) := by decide +kernel
theorem dX6_lay_277 : decode cX6_lay 277 = .ok (.if_icmp .le 7, 3) := by decide +kernel
theorem dX6_lay_280 : decode cX6_lay 280 = .ok (.iconst 1, 1) := by decide +kernel
theorem dX6_lay_281 : decode cX6_lay 281 = .ok (.goto 4, 3) := by decide +kernel
theorem dX6_lay_284 : decode cX6_lay 284 = .ok (.iconst 0, 1) := by decide +kernel
theorem dX6_lay_285 : decode cX6_lay 285 = .ok (.ireturn, 1) := by decide +kernel
set_option maxRecDepth 100000 in
set_option maxHeartbeats 4000000 in
theorem kX6_lay (l : Launch) (D : va_G) (ad : Nat → Nat) (cI cJ : ClassId) (tP tR : Nat) (N : Nat) (M : Mem) (a1 : Int32) (a2 : Int32) (a3 : Int32) (a4 : Int64)  (o : (Int32 × Mem)) (h : fX6_lay N M a1 a2 a3 a4 = some o) : qMet l D cI cJ tP tR (yA ad) (yW ad cI cJ) yX6_lay cX6_lay 15 (some .boolean) rX6_lay [.ref (ad 0), .int a1, .int a2, .int a3, .long a4] M (qQi D (yA ad) (yW ad cI cJ) o.1 o.2) := by
  refine rs_enterZ (own := RX6) ⟨by decide +kernel, rfl, Nat.le_of_ble_eq_true rfl⟩ ?_
  intro p e s m args below meth c Q C hret H locs ls hP hS hl
  obtain ⟨hx, hb, -⟩ := id C
  have hl : lv_has ls 15 [(0, .ref (ad 0)), (1, .int a1), (2, .int a2), (3, .int a3), (4, .long a4)] := hl
  unfold fX6_lay at h
  refine lv_iload_n hx hb dX6_lay_0 rfl (lv_at hl 2 rfl) ?_
  refine lv_iload_n hx hb dX6_lay_1 rfl (lv_at hl 3 rfl) ?_
  obtain ⟨v1, h1, h⟩ := rs_bind h
  refine rs_goI (rs_runS (As := [.int a2, .int a3]) (rest := []) C hP hS (kX6_common l D ad cI cJ tP tR N M a2 a3 _ h1) mk_X6_common wd_649 rfl ⟨rfl, rfl, Nat.le_of_ble_eq_true rfl, Nat.le_of_ble_eq_true rfl⟩ rfl hl.1 (Nat.le_of_ble_eq_true rfl) dX6_lay_2) hS (fun H locs hP hS => ?_)
  refine lv_istore (lv' := [(6, .int v1), (0, .ref (ad 0)), (1, .int a1), (2, .int a2), (3, .int a3), (4, .long a4)]) hx hb dX6_lay_5 hl (by decide) rfl (fun ls hl => ?_)
  refine lv_iload_n hx hb dX6_lay_7 rfl (lv_at hl 4 rfl) ?_
  refine lv_ineg hx hb dX6_lay_8 ?_
  refine lv_iload hx hb dX6_lay_9 (lv_at hl 0 rfl) ?_
  refine rs_idiv C dX6_lay_11 h (fun v2 h => ?_)
  refine lv_istore (lv' := [(7, .int v2), (6, .int v1), (0, .ref (ad 0)), (1, .int a1), (2, .int a2), (3, .int a3), (4, .long a4)]) hx hb dX6_lay_12 hl (by decide) rfl (fun ls hl => ?_)
  refine lv_iload_n hx hb dX6_lay_14 rfl (lv_at hl 4 rfl) ?_
  refine lv_iload hx hb dX6_lay_15 (lv_at hl 1 rfl) ?_
  refine rs_idiv C dX6_lay_17 h (fun v3 h => ?_)
  refine lv_istore (lv' := [(8, .int v3), (7, .int v2), (6, .int v1), (0, .ref (ad 0)), (1, .int a1), (2, .int a2), (3, .int a3), (4, .long a4)]) hx hb dX6_lay_18 hl (by decide) rfl (fun ls hl => ?_)
  refine lv_aload_n hx hb dX6_lay_20 rfl (lv_at hl 3 rfl) ?_
  refine lv_iload_n hx hb dX6_lay_21 rfl (lv_at hl 4 rfl) ?_
  refine lv_iload_n hx hb dX6_lay_22 rfl (lv_at hl 5 rfl) ?_
  refine lv_iload_n hx hb dX6_lay_23 rfl (lv_at hl 6 rfl) ?_
  obtain ⟨v4, h1, h⟩ := rs_bind h
  refine rs_goI (rs_runV (b := 0) (As := [.int a1, .int a2, .int a3]) (rest := []) C hP hS (kX6_faceOf l D ad cI cJ tP tR N M a1 a2 a3 _ h1) mk_X6_faceOf wd_704 (yR_0) rfl ⟨rfl, rfl, Nat.le_of_ble_eq_true rfl, Nat.le_of_ble_eq_true rfl⟩ rfl hl.1 (Nat.le_of_ble_eq_true rfl) dX6_lay_24) hS (fun H locs hP hS => ?_)
  refine lv_istore (lv' := [(9, .int v4), (8, .int v3), (7, .int v2), (6, .int v1), (0, .ref (ad 0)), (1, .int a1), (2, .int a2), (3, .int a3), (4, .long a4)]) hx hb dX6_lay_27 hl (by decide) rfl (fun ls hl => ?_)
  refine lv_sipush (v := (1000 : Int32)) hx hb dX6_lay_29 (by decide) ?_
  refine lv_istore (lv' := [(10, .int (1000 : Int32)), (9, .int v4), (8, .int v3), (7, .int v2), (6, .int v1), (0, .ref (ad 0)), (1, .int a1), (2, .int a2), (3, .int a3), (4, .long a4)]) hx hb dX6_lay_32 hl (by decide) rfl (fun ls hl => ?_)
  refine lv_iconst (v := (0 : Int32)) hx hb dX6_lay_34 (by decide) ?_
  refine lv_istore (lv' := [(11, .int (0 : Int32)), (10, .int (1000 : Int32)), (9, .int v4), (8, .int v3), (7, .int v2), (6, .int v1), (0, .ref (ad 0)), (1, .int a1), (2, .int a2), (3, .int a3), (4, .long a4)]) hx hb dX6_lay_35 hl (by decide) rfl (fun ls hl => ?_)
  refine lv_iconst (v := (0 : Int32)) hx hb dX6_lay_37 (by decide) ?_
  refine lv_istore (lv' := [(12, .int (0 : Int32)), (11, .int (0 : Int32)), (10, .int (1000 : Int32)), (9, .int v4), (8, .int v3), (7, .int v2), (6, .int v1), (0, .ref (ad 0)), (1, .int a1), (2, .int a2), (3, .int a3), (4, .long a4)]) hx hb dX6_lay_38 hl (by decide) rfl (fun ls hl => ?_)
  obtain ⟨⟨v5, v6⟩, h1, h⟩ := rs_bind h
  dsimp only at h
  have hJ32 : ∀ (H : Heap) (locs : List Loc) (ls : Array Slot), va_P D vwCl (yW ad cI cJ M) H → va_S (yA ad) s.heap H locs → lv_has ls 15 [(0, .ref (ad 0)), (1, .int a1), (4, .long a4), (7, .int v2), (8, .int v3), (9, .int v4), (10, .int v5), (11, .int v6)] → W p l e rX6_lay s m args below meth c H locs 0 0 Q (F0 m 108 ls []) := by
    intro H locs ls hP hS hl
    refine lv_bipush (v := (7 : Int32)) hx hb dX6_lay_108 (by decide) ?_
    refine lv_iload_n hx hb dX6_lay_110 rfl (lv_at hl 1 rfl) ?_
    refine lv_imul hx hb dX6_lay_111 ?_
    refine lv_istore (lv' := [(12, .int ((7 : Int32) * a1)), (0, .ref (ad 0)), (1, .int a1), (4, .long a4), (7, .int v2), (8, .int v3), (9, .int v4), (10, .int v5), (11, .int v6)]) hx hb dX6_lay_112 hl (by decide) rfl (fun ls hl => ?_)
    obtain ⟨M7, h1, h⟩ := rs_bind h
    have hJ28 : ∀ (H : Heap) (locs : List Loc) (ls : Array Slot), va_P D vwCl (yW ad cI cJ M7) H → va_S (yA ad) s.heap H locs → lv_has ls 15 [(0, .ref (ad 0)), (1, .int a1), (4, .long a4), (7, .int v2), (8, .int v3), (9, .int v4), (10, .int v5), (11, .int v6)] → W p l e rX6_lay s m args below meth c H locs 0 0 Q (F0 m 140 ls []) := by
      intro H locs ls hP hS hl
      refine lv_aload_n hx hb dX6_lay_140 rfl (lv_at hl 0 rfl) ?_
      refine gfX6_41 C hP dX6_lay_141 ?_
      refine lv_iload_n hx hb dX6_lay_144 rfl (lv_at hl 1 rfl) ?_
      refine lv_iconst (v := (0 : Int32)) hx hb dX6_lay_145 (by decide) ?_
      refine rs_iast C hP hS yIA_11 dX6_lay_146 h (fun M8 h H locs hP hS => ?_)
      refine lv_iconst (v := (0 : Int32)) hx hb dX6_lay_147 (by decide) ?_
      refine lv_istore (lv' := [(12, .int (0 : Int32)), (0, .ref (ad 0)), (1, .int a1), (4, .long a4), (7, .int v2), (8, .int v3), (9, .int v4), (10, .int v5), (11, .int v6)]) hx hb dX6_lay_148 hl (by decide) rfl (fun ls hl => ?_)
      obtain ⟨M9, h1, h⟩ := rs_bind h
      have hJ10 : ∀ (H : Heap) (locs : List Loc) (ls : Array Slot), va_P D vwCl (yW ad cI cJ M9) H → va_S (yA ad) s.heap H locs → lv_has ls 15 [(11, .int v6)] → W p l e rX6_lay s m args below meth c H locs 0 0 Q (F0 m 274 ls []) := by
        intro H locs ls hP hS hl
        refine lv_iload hx hb dX6_lay_274 (lv_at hl 0 rfl) ?_
        refine lv_iconst (v := (1 : Int32)) hx hb dX6_lay_276 (by decide) ?_
        refine lv_icmp_le (tgt := 284) hx hb dX6_lay_277 (by decide) (fun cd => ?_) (fun cd => ?_)
        · have h := (if_pos cd).symm.trans h
          refine lv_iconst (v := (0 : Int32)) hx hb dX6_lay_284 (by decide) ?_
          obtain ⟨rfl, hz⟩ := rs_okZM h
          exact hret H locs _ ls hz hP hS dX6_lay_285
        · have h := (if_neg cd).symm.trans h
          refine lv_iconst (v := (1 : Int32)) hx hb dX6_lay_280 (by decide) ?_
          refine lv_goto (tgt := 285) hx hb dX6_lay_281 (by decide) ?_
          obtain ⟨rfl, hz⟩ := rs_okZM h
          exact hret H locs _ ls hz hP hS dX6_lay_285
      replace h := h1
      clear h1
      have hL150 : ∀ (n150 : Nat) (v11 : Int32) (M12 : Mem) (H : Heap) (locs : List Loc) (ls : Array Slot), va_P D vwCl (yW ad cI cJ M12) H → va_S (yA ad) s.heap H locs → lv_has ls 15 [(0, .ref (ad 0)), (1, .int a1), (4, .long a4), (7, .int v2), (8, .int v3), (9, .int v4), (10, .int v5), (11, .int v6), (12, .int v11)] → lp (fun _ _ => none) (sX6_lay_150 a1 v4 v2 v3 a4 v5) n150 v11 M12 = some M9 → W p l e rX6_lay s m args below meth c H locs 0 0 Q (F0 m 150 ls []) := by
        intro n150
        induction n150 with
        | zero => intro v11 M12 H locs ls hP hS hl h; have h : (none : Option Mem) = some M9 := h; cases h
        | succ n150 ih150 =>
          intro v11 M12 H locs ls hP hS hl h
          have h : sX6_lay_150 a1 v4 v2 v3 a4 v5 (lp (fun _ _ => none) (sX6_lay_150 a1 v4 v2 v3 a4 v5) n150) v11 M12 = some M9 := h
          generalize lp (fun _ _ => none) (sX6_lay_150 a1 v4 v2 v3 a4 v5) n150 = cont150 at h ih150
          unfold sX6_lay_150 at h
          refine lv_iload hx hb dX6_lay_150 (lv_at hl 8 rfl) ?_
          refine lv_aload_n hx hb dX6_lay_152 rfl (lv_at hl 0 rfl) ?_
          refine gfX6_22 C hP dX6_lay_153 ?_
          refine lv_iload_n hx hb dX6_lay_156 rfl (lv_at hl 1 rfl) ?_
          refine rs_iald C hP yIA_5 dX6_lay_157 h (fun v13 h => ?_)
          refine lv_icmp_ge (tgt := 274) hx hb dX6_lay_158 (by decide) (fun cd => ?_) (fun cd => ?_)
          · have h := (if_pos cd).symm.trans h
            cases h
            exact hJ10 H locs ls hP hS (lv_sub hl [7] rfl)
          · have h := (if_neg cd).symm.trans h
            refine lv_bipush (v := (8 : Int32)) hx hb dX6_lay_161 (by decide) ?_
            refine lv_iload_n hx hb dX6_lay_163 rfl (lv_at hl 1 rfl) ?_
            refine lv_imul hx hb dX6_lay_164 ?_
            refine lv_iload hx hb dX6_lay_165 (lv_at hl 8 rfl) ?_
            refine lv_iadd hx hb dX6_lay_167 ?_
            refine lv_istore (lv' := [(13, .int (((8 : Int32) * a1) + v11)), (0, .ref (ad 0)), (1, .int a1), (4, .long a4), (7, .int v2), (8, .int v3), (9, .int v4), (10, .int v5), (11, .int v6), (12, .int v11)]) hx hb dX6_lay_168 hl (by decide) rfl (fun ls hl => ?_)
            refine lv_iload hx hb dX6_lay_170 (lv_at hl 6 rfl) ?_
            refine lv_iload hx hb dX6_lay_172 (lv_at hl 9 rfl) ?_
            refine lv_ishr hx hb dX6_lay_174 ?_
            refine lv_iconst (v := (1 : Int32)) hx hb dX6_lay_175 (by decide) ?_
            refine lv_iand hx hb dX6_lay_176 ?_
            refine lv_iconst (v := (1 : Int32)) hx hb dX6_lay_177 (by decide) ?_
            obtain ⟨M14, h1, h⟩ := rs_bind h
            have hJ15 : ∀ (H : Heap) (locs : List Loc) (ls : Array Slot), va_P D vwCl (yW ad cI cJ M14) H → va_S (yA ad) s.heap H locs → lv_has ls 15 [(0, .ref (ad 0)), (1, .int a1), (4, .long a4), (7, .int v2), (8, .int v3), (9, .int v4), (10, .int v5), (11, .int v6), (12, .int v11)] → W p l e rX6_lay s m args below meth c H locs 0 0 Q (F0 m 268 ls []) := by
              intro H locs ls hP hS hl
              refine lv_iinc (v := (v11 + 1)) (lv' := [(12, .int (v11 + 1)), (0, .ref (ad 0)), (1, .int a1), (4, .long a4), (7, .int v2), (8, .int v3), (9, .int v4), (10, .int v5), (11, .int v6)]) hx hb dX6_lay_268 hl (k := 8) rfl rfl (by decide) rfl (fun ls hl => ?_)
              refine lv_goto (tgt := 150) hx hb dX6_lay_271 (by decide) ?_
              exact ih150 _ _ H locs ls hP hS (lv_sub hl [1, 2, 3, 4, 5, 6, 7, 8, 0] rfl) h
            replace h := h1
            clear h1
            refine lv_icmp_ne (tgt := 268) hx hb dX6_lay_178 (by decide) (fun cd => ?_) (fun cd => ?_)
            · have h := (if_neg cd).symm.trans h
              cases h
              exact hJ15 H locs ls hP hS (lv_sub hl [1, 2, 3, 4, 5, 6, 7, 8, 9] rfl)
            · have h := (if_pos cd).symm.trans h
              refine lv_aload_n hx hb dX6_lay_181 rfl (lv_at hl 1 rfl) ?_
              refine lv_iload hx hb dX6_lay_182 (lv_at hl 0 rfl) ?_
              refine lv_iload hx hb dX6_lay_184 (lv_at hl 4 rfl) ?_
              refine lv_iload hx hb dX6_lay_186 (lv_at hl 5 rfl) ?_
              obtain ⟨v16, h1, h⟩ := rs_bind h
              refine rs_goI (rs_runV (b := 0) (As := [.int (((8 : Int32) * a1) + v11), .int v2, .int v3]) (rest := []) C hP hS (kX6_stepOf l D ad cI cJ tP tR M12 (((8 : Int32) * a1) + v11) v2 v3 _ h1) mk_X6_stepOf wd_725 (yR_0) rfl ⟨rfl, rfl, Nat.le_of_ble_eq_true rfl, Nat.le_of_ble_eq_true rfl⟩ rfl hl.1 (Nat.le_of_ble_eq_true rfl) dX6_lay_188) hS (fun H locs hP hS => ?_)
              refine lv_iload hx hb dX6_lay_191 (lv_at hl 7 rfl) ?_
              refine lv_isub hx hb dX6_lay_193 ?_
              refine lv_istore (lv' := [(14, .int (v16 - v5)), (13, .int (((8 : Int32) * a1) + v11)), (0, .ref (ad 0)), (1, .int a1), (4, .long a4), (7, .int v2), (8, .int v3), (9, .int v4), (10, .int v5), (11, .int v6), (12, .int v11)]) hx hb dX6_lay_194 hl (by decide) rfl (fun ls hl => ?_)
              refine lv_aload_n hx hb dX6_lay_196 rfl (lv_at hl 2 rfl) ?_
              refine gfX6_37 C hP dX6_lay_197 ?_
              refine lv_bipush (v := (7 : Int32)) hx hb dX6_lay_200 (by decide) ?_
              refine lv_iload_n hx hb dX6_lay_202 rfl (lv_at hl 3 rfl) ?_
              refine lv_imul hx hb dX6_lay_203 ?_
              refine lv_iload hx hb dX6_lay_204 (lv_at hl 0 rfl) ?_
              refine lv_iadd hx hb dX6_lay_206 ?_
              refine lv_aload_n hx hb dX6_lay_207 rfl (lv_at hl 2 rfl) ?_
              refine gfX6_16 C hP dX6_lay_208 ?_
              refine lv_iload hx hb dX6_lay_211 (lv_at hl 1 rfl) ?_
              refine rs_iald C hP yIA_3 dX6_lay_213 h (fun v17 h => ?_)
              obtain ⟨v18, h1, h⟩ := rs_bind h
              have hJ25 : ∀ (H : Heap) (locs : List Loc) (ls : Array Slot), va_P D vwCl (yW ad cI cJ M12) H → va_S (yA ad) s.heap H locs → lv_has ls 15 [(0, .ref (ad 0)), (1, .int a1), (4, .long a4), (7, .int v2), (8, .int v3), (9, .int v4), (10, .int v5), (11, .int v6), (12, .int v11), (14, .int (v16 - v5))] → W p l e rX6_lay s m args below meth c H locs 0 0 Q (F0 m 239 ls [.long v18, .int (((7 : Int32) * a1) + (v16 - v5)), .ref (ad 10)]) := by
                intro H locs ls hP hS hl
                refine rs_last C hP hS yLA_10 dX6_lay_239 h (fun M19 h H locs hP hS => ?_)
                refine lv_aload_n hx hb dX6_lay_240 rfl (lv_at hl 0 rfl) ?_
                refine gfX6_41 C hP dX6_lay_241 ?_
                refine lv_iload_n hx hb dX6_lay_244 rfl (lv_at hl 1 rfl) ?_
                refine lv_iload hx hb dX6_lay_245 (lv_at hl 9 rfl) ?_
                refine lv_aload_n hx hb dX6_lay_247 rfl (lv_at hl 0 rfl) ?_
                refine gfX6_41 C hP dX6_lay_248 ?_
                refine lv_iload_n hx hb dX6_lay_251 rfl (lv_at hl 1 rfl) ?_
                refine rs_iald C hP yIA_11 dX6_lay_252 h (fun v20 h => ?_)
                obtain ⟨v21, h1, h⟩ := rs_bind h
                have hJ23 : ∀ (H : Heap) (locs : List Loc) (ls : Array Slot), va_P D vwCl (yW ad cI cJ M19) H → va_S (yA ad) s.heap H locs → lv_has ls 15 [(0, .ref (ad 0)), (1, .int a1), (4, .long a4), (7, .int v2), (8, .int v3), (9, .int v4), (10, .int v5), (11, .int v6), (12, .int v11)] → W p l e rX6_lay s m args below meth c H locs 0 0 Q (F0 m 267 ls [.int v21, .int a1, .ref (ad 11)]) := by
                  intro H locs ls hP hS hl
                  refine rs_iast C hP hS yIA_11 dX6_lay_267 h (fun M22 h H locs hP hS => ?_)
                  cases h
                  exact hJ15 H locs ls hP hS (lv_sub hl [0, 1, 2, 3, 4, 5, 6, 7, 8] rfl)
                replace h := h1
                clear h1
                refine lv_icmp_le (tgt := 261) hx hb dX6_lay_253 (by decide) (fun cd => ?_) (fun cd => ?_)
                · have h := (if_pos cd).symm.trans h
                  refine lv_aload_n hx hb dX6_lay_261 rfl (lv_at hl 0 rfl) ?_
                  refine gfX6_41 C hP dX6_lay_262 ?_
                  refine lv_iload_n hx hb dX6_lay_265 rfl (lv_at hl 1 rfl) ?_
                  refine rs_iald C hP yIA_11 dX6_lay_266 h (fun v24 h => ?_)
                  cases h
                  exact hJ23 H locs ls hP hS (lv_sub hl [0, 1, 2, 3, 4, 5, 6, 7, 8] rfl)
                · have h := (if_neg cd).symm.trans h
                  refine lv_iload hx hb dX6_lay_256 (lv_at hl 9 rfl) ?_
                  refine lv_goto (tgt := 267) hx hb dX6_lay_258 (by decide) ?_
                  cases h
                  exact hJ23 H locs ls hP hS (lv_sub hl [0, 1, 2, 3, 4, 5, 6, 7, 8] rfl)
              replace h := h1
              clear h1
              refine lv_if_ge (tgt := 231) hx hb dX6_lay_214 (by decide) (fun cd => ?_) (fun cd => ?_)
              · have h := (if_pos cd).symm.trans h
                refine lv_aload_n hx hb dX6_lay_231 rfl (lv_at hl 2 rfl) ?_
                refine gfX6_16 C hP dX6_lay_232 ?_
                refine lv_iload hx hb dX6_lay_235 (lv_at hl 1 rfl) ?_
                refine rs_iald C hP yIA_3 dX6_lay_237 h (fun v26 h => ?_)
                refine lv_i2l hx hb dX6_lay_238 rfl ?_
                cases h
                exact hJ25 H locs ls hP hS (lv_sub hl [2, 3, 4, 5, 6, 7, 8, 9, 10, 0] rfl)
              · have h := (if_neg cd).symm.trans h
                refine lv_aload_n hx hb dX6_lay_217 rfl (lv_at hl 2 rfl) ?_
                refine gfX6_16 C hP dX6_lay_218 ?_
                refine lv_iload hx hb dX6_lay_221 (lv_at hl 1 rfl) ?_
                refine rs_iald C hP yIA_3 dX6_lay_223 h (fun v27 h => ?_)
                refine lv_i2l hx hb dX6_lay_224 rfl ?_
                refine lv_lload hx hb dX6_lay_225 (lv_at hl 4 rfl) ?_
                refine lv_ladd hx hb dX6_lay_227 ?_
                refine lv_goto (tgt := 239) hx hb dX6_lay_228 (by decide) ?_
                cases h
                exact hJ25 H locs ls hP hS (lv_sub hl [2, 3, 4, 5, 6, 7, 8, 9, 10, 0] rfl)
      exact hL150 N _ _ H locs ls hP hS (lv_sub hl [1, 2, 3, 4, 5, 6, 7, 8, 0] rfl) h
    replace h := h1
    clear h1
    have hL114 : ∀ (n114 : Nat) (v29 : Int32) (M30 : Mem) (H : Heap) (locs : List Loc) (ls : Array Slot), va_P D vwCl (yW ad cI cJ M30) H → va_S (yA ad) s.heap H locs → lv_has ls 15 [(0, .ref (ad 0)), (1, .int a1), (4, .long a4), (7, .int v2), (8, .int v3), (9, .int v4), (10, .int v5), (11, .int v6), (12, .int v29)] → lp (fun _ _ => none) (sX6_lay_114 a1) n114 v29 M30 = some M7 → W p l e rX6_lay s m args below meth c H locs 0 0 Q (F0 m 114 ls []) := by
      intro n114
      induction n114 with
      | zero => intro v29 M30 H locs ls hP hS hl h; have h : (none : Option Mem) = some M7 := h; cases h
      | succ n114 ih114 =>
        intro v29 M30 H locs ls hP hS hl h
        have h : sX6_lay_114 a1 (lp (fun _ _ => none) (sX6_lay_114 a1) n114) v29 M30 = some M7 := h
        generalize lp (fun _ _ => none) (sX6_lay_114 a1) n114 = cont114 at h ih114
        unfold sX6_lay_114 at h
        refine lv_iload hx hb dX6_lay_114 (lv_at hl 8 rfl) ?_
        refine lv_bipush (v := (7 : Int32)) hx hb dX6_lay_116 (by decide) ?_
        refine lv_iload_n hx hb dX6_lay_118 rfl (lv_at hl 1 rfl) ?_
        refine lv_imul hx hb dX6_lay_119 ?_
        refine lv_bipush (v := (7 : Int32)) hx hb dX6_lay_120 (by decide) ?_
        refine lv_iadd hx hb dX6_lay_122 ?_
        refine lv_icmp_ge (tgt := 140) hx hb dX6_lay_123 (by decide) (fun cd => ?_) (fun cd => ?_)
        · have h := (if_pos cd).symm.trans h
          cases h
          exact hJ28 H locs ls hP hS (lv_sub hl [0, 1, 2, 3, 4, 5, 6, 7] rfl)
        · have h := (if_neg cd).symm.trans h
          refine lv_aload_n hx hb dX6_lay_126 rfl (lv_at hl 0 rfl) ?_
          refine gfX6_37 C hP dX6_lay_127 ?_
          refine lv_iload hx hb dX6_lay_130 (lv_at hl 8 rfl) ?_
          refine lv_lconst (v := (0 : Int64)) hx hb dX6_lay_132 (by decide) ?_
          refine rs_last C hP hS yLA_10 dX6_lay_133 h (fun M31 h H locs hP hS => ?_)
          refine lv_iinc (v := (v29 + 1)) (lv' := [(12, .int (v29 + 1)), (0, .ref (ad 0)), (1, .int a1), (4, .long a4), (7, .int v2), (8, .int v3), (9, .int v4), (10, .int v5), (11, .int v6)]) hx hb dX6_lay_134 hl (k := 8) rfl rfl (by decide) rfl (fun ls hl => ?_)
          refine lv_goto (tgt := 114) hx hb dX6_lay_137 (by decide) ?_
          exact ih114 _ _ H locs ls hP hS (lv_sub hl [1, 2, 3, 4, 5, 6, 7, 8, 0] rfl) h
    exact hL114 N _ _ H locs ls hP hS (lv_sub hl [1, 2, 3, 4, 5, 6, 7, 8, 0] rfl) h
  replace h := h1
  clear h1
  have hL40 : ∀ (n40 : Nat) (v33 : Int32) (v34 : Int32) (v35 : Int32) (H : Heap) (locs : List Loc) (ls : Array Slot), va_P D vwCl (yW ad cI cJ M) H → va_S (yA ad) s.heap H locs → lv_has ls 15 [(0, .ref (ad 0)), (1, .int a1), (4, .long a4), (7, .int v2), (8, .int v3), (9, .int v4), (10, .int v33), (11, .int v34), (12, .int v35)] → lp (fun _ _ _ => none) (sX6_lay_40 M a1 v4 v2 v3) n40 v33 v34 v35 = some (v5, v6) → W p l e rX6_lay s m args below meth c H locs 0 0 Q (F0 m 40 ls []) := by
    intro n40
    induction n40 with
    | zero => intro v33 v34 v35 H locs ls hP hS hl h; have h : (none : Option (Int32 × Int32)) = some (v5, v6) := h; cases h
    | succ n40 ih40 =>
      intro v33 v34 v35 H locs ls hP hS hl h
      have h : sX6_lay_40 M a1 v4 v2 v3 (lp (fun _ _ _ => none) (sX6_lay_40 M a1 v4 v2 v3) n40) v33 v34 v35 = some (v5, v6) := h
      generalize lp (fun _ _ _ => none) (sX6_lay_40 M a1 v4 v2 v3) n40 = cont40 at h ih40
      unfold sX6_lay_40 at h
      refine lv_iload hx hb dX6_lay_40 (lv_at hl 8 rfl) ?_
      refine lv_aload_n hx hb dX6_lay_42 rfl (lv_at hl 0 rfl) ?_
      refine gfX6_22 C hP dX6_lay_43 ?_
      refine lv_iload_n hx hb dX6_lay_46 rfl (lv_at hl 1 rfl) ?_
      refine rs_iald C hP yIA_5 dX6_lay_47 h (fun v36 h => ?_)
      refine lv_icmp_ge (tgt := 108) hx hb dX6_lay_48 (by decide) (fun cd => ?_) (fun cd => ?_)
      · have h := (if_pos cd).symm.trans h
        cases h
        exact hJ32 H locs ls hP hS (lv_sub hl [0, 1, 2, 3, 4, 5, 6, 7] rfl)
      · have h := (if_neg cd).symm.trans h
        refine lv_bipush (v := (8 : Int32)) hx hb dX6_lay_51 (by decide) ?_
        refine lv_iload_n hx hb dX6_lay_53 rfl (lv_at hl 1 rfl) ?_
        refine lv_imul hx hb dX6_lay_54 ?_
        refine lv_iload hx hb dX6_lay_55 (lv_at hl 8 rfl) ?_
        refine lv_iadd hx hb dX6_lay_57 ?_
        refine lv_istore (lv' := [(13, .int (((8 : Int32) * a1) + v35)), (0, .ref (ad 0)), (1, .int a1), (4, .long a4), (7, .int v2), (8, .int v3), (9, .int v4), (10, .int v33), (11, .int v34), (12, .int v35)]) hx hb dX6_lay_58 hl (by decide) rfl (fun ls hl => ?_)
        refine lv_iload hx hb dX6_lay_60 (lv_at hl 6 rfl) ?_
        refine lv_iload hx hb dX6_lay_62 (lv_at hl 9 rfl) ?_
        refine lv_ishr hx hb dX6_lay_64 ?_
        refine lv_iconst (v := (1 : Int32)) hx hb dX6_lay_65 (by decide) ?_
        refine lv_iand hx hb dX6_lay_66 ?_
        refine lv_iconst (v := (1 : Int32)) hx hb dX6_lay_67 (by decide) ?_
        obtain ⟨⟨v37, v38⟩, h1, h⟩ := rs_bind h
        dsimp only at h
        have hJ39 : ∀ (H : Heap) (locs : List Loc) (ls : Array Slot), va_P D vwCl (yW ad cI cJ M) H → va_S (yA ad) s.heap H locs → lv_has ls 15 [(0, .ref (ad 0)), (1, .int a1), (4, .long a4), (7, .int v2), (8, .int v3), (9, .int v4), (10, .int v37), (11, .int v38), (12, .int v35)] → W p l e rX6_lay s m args below meth c H locs 0 0 Q (F0 m 102 ls []) := by
          intro H locs ls hP hS hl
          refine lv_iinc (v := (v35 + 1)) (lv' := [(12, .int (v35 + 1)), (0, .ref (ad 0)), (1, .int a1), (4, .long a4), (7, .int v2), (8, .int v3), (9, .int v4), (10, .int v37), (11, .int v38)]) hx hb dX6_lay_102 hl (k := 8) rfl rfl (by decide) rfl (fun ls hl => ?_)
          refine lv_goto (tgt := 40) hx hb dX6_lay_105 (by decide) ?_
          exact ih40 _ _ _ H locs ls hP hS (lv_sub hl [1, 2, 3, 4, 5, 6, 7, 8, 0] rfl) h
        replace h := h1
        clear h1
        refine lv_icmp_ne (tgt := 102) hx hb dX6_lay_68 (by decide) (fun cd => ?_) (fun cd => ?_)
        · have h := (if_neg cd).symm.trans h
          cases h
          exact hJ39 H locs ls hP hS (lv_sub hl [1, 2, 3, 4, 5, 6, 7, 8, 9] rfl)
        · have h := (if_pos cd).symm.trans h
          refine lv_aload_n hx hb dX6_lay_71 rfl (lv_at hl 1 rfl) ?_
          refine lv_iload hx hb dX6_lay_72 (lv_at hl 0 rfl) ?_
          refine lv_iload hx hb dX6_lay_74 (lv_at hl 4 rfl) ?_
          refine lv_iload hx hb dX6_lay_76 (lv_at hl 5 rfl) ?_
          obtain ⟨v40, h1, h⟩ := rs_bind h
          refine rs_goI (rs_runV (b := 0) (As := [.int (((8 : Int32) * a1) + v35), .int v2, .int v3]) (rest := []) C hP hS (kX6_stepOf l D ad cI cJ tP tR M (((8 : Int32) * a1) + v35) v2 v3 _ h1) mk_X6_stepOf wd_725 (yR_0) rfl ⟨rfl, rfl, Nat.le_of_ble_eq_true rfl, Nat.le_of_ble_eq_true rfl⟩ rfl hl.1 (Nat.le_of_ble_eq_true rfl) dX6_lay_78) hS (fun H locs hP hS => ?_)
          refine lv_istore (lv' := [(14, .int v40), (13, .int (((8 : Int32) * a1) + v35)), (0, .ref (ad 0)), (1, .int a1), (4, .long a4), (7, .int v2), (8, .int v3), (9, .int v4), (10, .int v33), (11, .int v34), (12, .int v35)]) hx hb dX6_lay_81 hl (by decide) rfl (fun ls hl => ?_)
          refine lv_iload hx hb dX6_lay_83 (lv_at hl 0 rfl) ?_
          refine lv_iload hx hb dX6_lay_85 (lv_at hl 8 rfl) ?_
          obtain ⟨v41, h1, h⟩ := rs_bind h
          have hJ42 : ∀ (H : Heap) (locs : List Loc) (ls : Array Slot), va_P D vwCl (yW ad cI cJ M) H → va_S (yA ad) s.heap H locs → lv_has ls 15 [(0, .ref (ad 0)), (1, .int a1), (4, .long a4), (7, .int v2), (8, .int v3), (9, .int v4), (11, .int v34), (12, .int v35)] → W p l e rX6_lay s m args below meth c H locs 0 0 Q (F0 m 97 ls [.int v41]) := by
            intro H locs ls hP hS hl
            refine lv_istore (lv' := [(10, .int v41), (0, .ref (ad 0)), (1, .int a1), (4, .long a4), (7, .int v2), (8, .int v3), (9, .int v4), (11, .int v34), (12, .int v35)]) hx hb dX6_lay_97 hl (by decide) rfl (fun ls hl => ?_)
            refine lv_iinc (v := (v34 + 1)) (lv' := [(11, .int (v34 + 1)), (10, .int v41), (0, .ref (ad 0)), (1, .int a1), (4, .long a4), (7, .int v2), (8, .int v3), (9, .int v4), (12, .int v35)]) hx hb dX6_lay_99 hl (k := 7) rfl rfl (by decide) rfl (fun ls hl => ?_)
            cases h
            exact hJ39 H locs ls hP hS (lv_sub hl [2, 3, 4, 5, 6, 7, 1, 0, 8] rfl)
          replace h := h1
          clear h1
          refine lv_icmp_ge (tgt := 95) hx hb dX6_lay_87 (by decide) (fun cd => ?_) (fun cd => ?_)
          · have h := (if_pos cd).symm.trans h
            refine lv_iload hx hb dX6_lay_95 (lv_at hl 8 rfl) ?_
            cases h
            exact hJ42 H locs ls hP hS (lv_sub hl [2, 3, 4, 5, 6, 7, 9, 10] rfl)
          · have h := (if_neg cd).symm.trans h
            refine lv_iload hx hb dX6_lay_90 (lv_at hl 0 rfl) ?_
            refine lv_goto (tgt := 97) hx hb dX6_lay_92 (by decide) ?_
            cases h
            exact hJ42 H locs ls hP hS (lv_sub hl [2, 3, 4, 5, 6, 7, 9, 10] rfl)
  exact hL40 N _ _ _ H locs ls hP hS (lv_sub hl [7, 8, 11, 5, 4, 3, 2, 1, 0] rfl) h
abbrev rX6_power : Room := { frames := 0, cells := 0, slots := 0, locals := 0 }
theorem dX6_power_0 : decode cX6_power 0 = .ok (.lconst 1, 1) := by decide +kernel
theorem dX6_power_1 : decode cX6_power 1 = .ok (.lstore 6, 2) := by decide +kernel
theorem dX6_power_3 : decode cX6_power 3 = .ok (.lload_n 0, 1) := by decide +kernel
theorem dX6_power_4 : decode cX6_power 4 = .ok (.lload 4, 2) := by decide +kernel
theorem dX6_power_6 : decode cX6_power 6 = .ok (.lrem, 1) := by decide +kernel
theorem dX6_power_7 : decode cX6_power 7 = .ok (.lstore 8, 2) := by decide +kernel
theorem dX6_power_9 : decode cX6_power 9 = .ok (.lload_n 2, 1) := by decide +kernel
theorem dX6_power_10 : decode cX6_power 10 = .ok (.lstore 10, 2) := by decide +kernel
theorem dX6_power_12 : decode cX6_power 12 = .ok (.lload 10, 2) := by decide +kernel
theorem dX6_power_14 : decode cX6_power 14 = .ok (.lconst 0, 1) := by decide +kernel
theorem dX6_power_15 : decode cX6_power 15 = .ok (.lcmp, 1) := by decide +kernel
theorem dX6_power_16 : decode cX6_power 16 = .ok (.ifCond .le 50, 3) := by decide +kernel
theorem dX6_power_19 : decode cX6_power 19 = .ok (.lload 10, 2) := by decide +kernel
theorem dX6_power_21 : decode cX6_power 21 = .ok (.ldc2_w 91, 3) := by decide +kernel
theorem dX6_power_24 : decode cX6_power 24 = .ok (.lrem, 1) := by decide +kernel
theorem dX6_power_25 : decode cX6_power 25 = .ok (.lconst 1, 1) := by decide +kernel
theorem dX6_power_26 : decode cX6_power 26 = .ok (.lcmp, 1) := by decide +kernel
theorem dX6_power_27 : decode cX6_power 27 = .ok (.ifCond .ne 14, 3) := by decide +kernel
theorem dX6_power_30 : decode cX6_power 30 = .ok (.lload 6, 2) := by decide +kernel
theorem dX6_power_32 : decode cX6_power 32 = .ok (.lload 8, 2) := by decide +kernel
theorem dX6_power_34 : decode cX6_power 34 = .ok (.lmul, 1) := by decide +kernel
theorem dX6_power_35 : decode cX6_power 35 = .ok (.lload 4, 2) := by decide +kernel
theorem dX6_power_37 : decode cX6_power 37 = .ok (.lrem, 1) := by decide +kernel
theorem dX6_power_38 : decode cX6_power 38 = .ok (.goto 5, 3) := by decide +kernel
theorem dX6_power_41 : decode cX6_power 41 = .ok (.lload 6, 2) := by decide +kernel
theorem dX6_power_43 : decode cX6_power 43 = .ok (.lstore 6, 2) := by decide +kernel
theorem dX6_power_45 : decode cX6_power 45 = .ok (.lload 8, 2) := by decide +kernel
theorem dX6_power_47 : decode cX6_power 47 = .ok (.lload 8, 2) := by decide +kernel
theorem dX6_power_49 : decode cX6_power 49 = .ok (.lmul, 1) := by decide +kernel
theorem dX6_power_50 : decode cX6_power 50 = .ok (.lload 4, 2) := by decide +kernel
theorem dX6_power_52 : decode cX6_power 52 = .ok (.lrem, 1) := by decide +kernel
theorem dX6_power_53 : decode cX6_power 53 = .ok (.lstore 8, 2) := by decide +kernel
theorem dX6_power_55 : decode cX6_power 55 = .ok (.lload 10, 2) := by decide +kernel
theorem dX6_power_57 : decode cX6_power 57 = .ok (.ldc2_w 91, 3) := by decide +kernel
theorem dX6_power_60 : decode cX6_power 60 = .ok (.ldiv, 1) := by decide +kernel
theorem dX6_power_61 : decode cX6_power 61 = .ok (.lstore 10, 2) := by decide +kernel
theorem dX6_power_63 : decode cX6_power 63 = .ok (.goto (-51), 3) := by decide +kernel
theorem dX6_power_66 : decode cX6_power 66 = .ok (.lload 6, 2) := by decide +kernel
theorem dX6_power_68 : decode cX6_power 68 = .ok (.lreturn, 1) := by decide +kernel
set_option maxRecDepth 100000 in
set_option maxHeartbeats 4000000 in
theorem kX6_power (l : Launch) (D : va_G) (ad : Nat → Nat) (cI cJ : ClassId) (tP tR : Nat) (N : Nat) (M : Mem) (a0 : Int64) (a2 : Int64) (a4 : Int64)  (o : Int64) (h : fX6_power N a0 a2 a4 = some o) : qMet l D cI cJ tP tR (yA ad) (yW ad cI cJ) yX6_power cX6_power 12 (some .long) rX6_power [.long a0, .long a2, .long a4] M (qQl D (yA ad) (yW ad cI cJ) o M) := by
  refine rs_enterL (own := RX6) ⟨by decide +kernel, rfl, Nat.le_of_ble_eq_true rfl⟩ ?_
  intro p e s m args below meth c Q C hret H locs ls hP hS hl
  obtain ⟨hx, hb, -⟩ := id C
  have hl : lv_has ls 12 [(0, .long a0), (2, .long a2), (4, .long a4)] := hl
  unfold fX6_power at h
  refine lv_lconst (v := (1 : Int64)) hx hb dX6_power_0 (by decide) ?_
  refine lv_lstore (lv' := [(6, .long (1 : Int64)), (0, .long a0), (2, .long a2), (4, .long a4)]) hx hb dX6_power_1 hl (by decide) rfl (fun ls hl => ?_)
  refine lv_lload_n hx hb dX6_power_3 rfl (lv_at hl 1 rfl) ?_
  refine lv_lload hx hb dX6_power_4 (lv_at hl 3 rfl) ?_
  refine rs_lrem C dX6_power_6 h (fun v1 h => ?_)
  refine lv_lstore (lv' := [(8, .long v1), (6, .long (1 : Int64)), (0, .long a0), (2, .long a2), (4, .long a4)]) hx hb dX6_power_7 hl (by decide) rfl (fun ls hl => ?_)
  refine lv_lload_n hx hb dX6_power_9 rfl (lv_at hl 3 rfl) ?_
  refine lv_lstore (lv' := [(10, .long a2), (8, .long v1), (6, .long (1 : Int64)), (0, .long a0), (2, .long a2), (4, .long a4)]) hx hb dX6_power_10 hl (by decide) rfl (fun ls hl => ?_)
  have hL12 : ∀ (n12 : Nat) (v2 : Int64) (v3 : Int64) (v4 : Int64) (H : Heap) (locs : List Loc) (ls : Array Slot), va_P D vwCl (yW ad cI cJ M) H → va_S (yA ad) s.heap H locs → lv_has ls 12 [(4, .long a4), (6, .long v2), (8, .long v3), (10, .long v4)] → lp (fun _ _ _ => none) (sX6_power_12 a4) n12 v2 v3 v4 = some o → W p l e rX6_power s m args below meth c H locs 0 0 Q (F0 m 12 ls []) := by
    intro n12
    induction n12 with
    | zero => intro v2 v3 v4 H locs ls hP hS hl h; have h : (none : Option Int64) = some o := h; cases h
    | succ n12 ih12 =>
      intro v2 v3 v4 H locs ls hP hS hl h
      have h : sX6_power_12 a4 (lp (fun _ _ _ => none) (sX6_power_12 a4) n12) v2 v3 v4 = some o := h
      generalize lp (fun _ _ _ => none) (sX6_power_12 a4) n12 = cont12 at h ih12
      unfold sX6_power_12 at h
      refine lv_lload hx hb dX6_power_12 (lv_at hl 3 rfl) ?_
      refine lv_lconst (v := (0 : Int64)) hx hb dX6_power_14 (by decide) ?_
      refine rs_lcmp C dX6_power_15 (fun z5 hz => ?_)
      refine lv_if_le (tgt := 66) hx hb dX6_power_16 (by decide) (fun cd => ?_) (fun cd => ?_)
      · have h := (if_neg (hz.2.2.2.2.mp cd)).symm.trans h
        refine lv_lload hx hb dX6_power_66 (lv_at hl 1 rfl) ?_
        cases h
        exact hret H locs _ ls hP hS dX6_power_68
      · have h := (if_pos (Decidable.of_not_not (fun q => cd (hz.2.2.2.2.mpr q)))).symm.trans h
        refine lv_lload hx hb dX6_power_19 (lv_at hl 3 rfl) ?_
        refine rs_ldc2 (v := (2 : Int64)) C wd_619 dX6_power_21 ?_
        refine rs_lrem C dX6_power_24 h (fun v6 h => ?_)
        refine lv_lconst (v := (1 : Int64)) hx hb dX6_power_25 (by decide) ?_
        refine rs_lcmp C dX6_power_26 (fun z7 hz => ?_)
        obtain ⟨v8, h1, h⟩ := rs_bind h
        have hJ11 : ∀ (H : Heap) (locs : List Loc) (ls : Array Slot), va_P D vwCl (yW ad cI cJ M) H → va_S (yA ad) s.heap H locs → lv_has ls 12 [(4, .long a4), (8, .long v3), (10, .long v4)] → W p l e rX6_power s m args below meth c H locs 0 0 Q (F0 m 43 ls [.long v8]) := by
          intro H locs ls hP hS hl
          refine lv_lstore (lv' := [(6, .long v8), (4, .long a4), (8, .long v3), (10, .long v4)]) hx hb dX6_power_43 hl (by decide) rfl (fun ls hl => ?_)
          refine lv_lload hx hb dX6_power_45 (lv_at hl 2 rfl) ?_
          refine lv_lload hx hb dX6_power_47 (lv_at hl 2 rfl) ?_
          refine lv_lmul hx hb dX6_power_49 ?_
          refine lv_lload hx hb dX6_power_50 (lv_at hl 1 rfl) ?_
          refine rs_lrem C dX6_power_52 h (fun v9 h => ?_)
          refine lv_lstore (lv' := [(8, .long v9), (6, .long v8), (4, .long a4), (10, .long v4)]) hx hb dX6_power_53 hl (by decide) rfl (fun ls hl => ?_)
          refine lv_lload hx hb dX6_power_55 (lv_at hl 3 rfl) ?_
          refine rs_ldc2 (v := (2 : Int64)) C wd_619 dX6_power_57 ?_
          refine rs_ldiv C dX6_power_60 h (fun v10 h => ?_)
          refine lv_lstore (lv' := [(10, .long v10), (8, .long v9), (6, .long v8), (4, .long a4)]) hx hb dX6_power_61 hl (by decide) rfl (fun ls hl => ?_)
          refine lv_goto (tgt := 12) hx hb dX6_power_63 (by decide) ?_
          exact ih12 _ _ _ H locs ls hP hS (lv_sub hl [3, 2, 1, 0] rfl) h
        replace h := h1
        clear h1
        refine lv_if_ne (tgt := 41) hx hb dX6_power_27 (by decide) (fun cd => ?_) (fun cd => ?_)
        · have h := (if_neg (fun q => cd (hz.2.1.mpr q))).symm.trans h
          refine lv_lload hx hb dX6_power_41 (lv_at hl 1 rfl) ?_
          cases h
          exact hJ11 H locs ls hP hS (lv_sub hl [0, 2, 3] rfl)
        · have h := (if_pos (hz.2.1.mp cd)).symm.trans h
          refine lv_lload hx hb dX6_power_30 (lv_at hl 1 rfl) ?_
          refine lv_lload hx hb dX6_power_32 (lv_at hl 2 rfl) ?_
          refine lv_lmul hx hb dX6_power_34 ?_
          refine lv_lload hx hb dX6_power_35 (lv_at hl 0 rfl) ?_
          refine rs_lrem C dX6_power_37 h (fun v12 h => ?_)
          refine lv_goto (tgt := 43) hx hb dX6_power_38 (by decide) ?_
          cases h
          exact hJ11 H locs ls hP hS (lv_sub hl [0, 2, 3] rfl)
  exact hL12 N _ _ _ H locs ls hP hS (lv_sub hl [5, 2, 1, 0] rfl) h
abbrev rX6_reduce : Room := { frames := 1, cells := 0, slots := 0, locals := 31 }
theorem dX6_reduce_0 : decode cX6_reduce 0 = .ok (.aload_n 0, 1) := by decide +kernel
theorem dX6_reduce_1 : decode cX6_reduce 1 = .ok (.getfield 37, 3) := by decide +kernel
theorem dX6_reduce_4 : decode cX6_reduce 4 = .ok (.bipush 7, 2) := by decide +kernel
theorem dX6_reduce_6 : decode cX6_reduce 6 = .ok (.iload_n 2, 1) := by decide +kernel
theorem dX6_reduce_7 : decode cX6_reduce 7 = .ok (.imul, 1) := by decide +kernel
theorem dX6_reduce_8 : decode cX6_reduce 8 = .ok (.aload_n 0, 1) := by decide +kernel
theorem dX6_reduce_9 : decode cX6_reduce 9 = .ok (.getfield 41, 3) := by decide +kernel
theorem dX6_reduce_12 : decode cX6_reduce 12 = .ok (.iload_n 2, 1) := by decide +kernel
theorem dX6_reduce_13 : decode cX6_reduce 13 = .ok (.iaload, 1) := by decide +kernel
theorem dX6_reduce_14 : decode cX6_reduce 14 = .ok (.iadd, 1) := by decide +kernel
theorem dX6_reduce_15 : decode cX6_reduce 15 = .ok (.laload, 1) := by decide +kernel
theorem dX6_reduce_16 : decode cX6_reduce 16 = .ok (.lload_n 3, 1) := by decide +kernel
theorem dX6_reduce_17 : decode cX6_reduce 17 = .ok (.ldc2_w 91, 3) := by decide +kernel
theorem dX6_reduce_20 : decode cX6_reduce 20 = .ok (.lsub, 1) := by decide +kernel
theorem dX6_reduce_21 : decode cX6_reduce 21 = .ok (.lload_n 3, 1) := by decide +kernel
theorem dX6_reduce_22 : decode cX6_reduce 22 = .ok (.invokestatic 162, 3) := by decide +kernel
theorem dX6_reduce_25 : decode cX6_reduce 25 = .ok (.lstore 5, 2) := by decide +kernel
theorem dX6_reduce_27 : decode cX6_reduce 27 = .ok (.aload_n 0, 1) := by decide +kernel
theorem dX6_reduce_28 : decode cX6_reduce 28 = .ok (.getfield 41, 3) := by decide +kernel
theorem dX6_reduce_31 : decode cX6_reduce 31 = .ok (.iload_n 1, 1) := by decide +kernel
theorem dX6_reduce_32 : decode cX6_reduce 32 = .ok (.iaload, 1) := by decide +kernel
theorem dX6_reduce_33 : decode cX6_reduce 33 = .ok (.aload_n 0, 1) := by decide +kernel
theorem dX6_reduce_34 : decode cX6_reduce 34 = .ok (.getfield 41, 3) := by decide +kernel
theorem dX6_reduce_37 : decode cX6_reduce 37 = .ok (.iload_n 2, 1) := by decide +kernel
theorem dX6_reduce_38 : decode cX6_reduce 38 = .ok (.iaload, 1) := by decide +kernel
theorem dX6_reduce_39 : decode cX6_reduce 39 = .ok (.if_icmp .lt 173, 3) := by decide +kernel
theorem dX6_reduce_42 : decode cX6_reduce 42 = .ok (.aload_n 0, 1) := by decide +kernel
theorem dX6_reduce_43 : decode cX6_reduce 43 = .ok (.getfield 37, 3) := by decide +kernel
theorem dX6_reduce_46 : decode cX6_reduce 46 = .ok (.bipush 7, 2) := by decide +kernel
theorem dX6_reduce_48 : decode cX6_reduce 48 = .ok (.iload_n 1, 1) := by decide +kernel
theorem dX6_reduce_49 : decode cX6_reduce 49 = .ok (.imul, 1) := by decide +kernel
theorem dX6_reduce_50 : decode cX6_reduce 50 = .ok (.aload_n 0, 1) := by decide +kernel
theorem dX6_reduce_51 : decode cX6_reduce 51 = .ok (.getfield 41, 3) := by decide +kernel
theorem dX6_reduce_54 : decode cX6_reduce 54 = .ok (.iload_n 1, 1) := by decide +kernel
theorem dX6_reduce_55 : decode cX6_reduce 55 = .ok (.iaload, 1) := by decide +kernel
theorem dX6_reduce_56 : decode cX6_reduce 56 = .ok (.iadd, 1) := by decide +kernel
theorem dX6_reduce_57 : decode cX6_reduce 57 = .ok (.laload, 1) := by decide +kernel
theorem dX6_reduce_58 : decode cX6_reduce 58 = .ok (.lload 5, 2) := by decide +kernel
theorem dX6_reduce_60 : decode cX6_reduce 60 = .ok (.lmul, 1) := by decide +kernel
theorem dX6_reduce_61 : decode cX6_reduce 61 = .ok (.lload_n 3, 1) := by decide +kernel
theorem dX6_reduce_62 : decode cX6_reduce 62 = .ok (.lrem, 1) := by decide +kernel
theorem dX6_reduce_63 : decode cX6_reduce 63 = .ok (.lstore 7, 2) := by decide +kernel
theorem dX6_reduce_65 : decode cX6_reduce 65 = .ok (.aload_n 0, 1) := by decide +kernel
theorem dX6_reduce_66 : decode cX6_reduce 66 = .ok (.getfield 41, 3) := by decide +kernel
theorem dX6_reduce_69 : decode cX6_reduce 69 = .ok (.iload_n 1, 1) := by decide +kernel
theorem dX6_reduce_70 : decode cX6_reduce 70 = .ok (.iaload, 1) := by decide +kernel
theorem dX6_reduce_71 : decode cX6_reduce 71 = .ok (.aload_n 0, 1) := by decide +kernel
theorem dX6_reduce_72 : decode cX6_reduce 72 = .ok (.getfield 41, 3) := by decide +kernel
theorem dX6_reduce_75 : decode cX6_reduce 75 = .ok (.iload_n 2, 1) := by decide +kernel
theorem dX6_reduce_76 : decode cX6_reduce 76 = .ok (.iaload, 1) := by decide +kernel
theorem dX6_reduce_77 : decode cX6_reduce 77 = .ok (.isub, 1) := by decide +kernel
theorem dX6_reduce_78 : decode cX6_reduce 78 = .ok (.istore 9, 2) := by decide +kernel
theorem dX6_reduce_80 : decode cX6_reduce 80 = .ok (.iconst 0, 1) := by decide +kernel
theorem dX6_reduce_81 : decode cX6_reduce 81 = .ok (.istore 10, 2) := by decide +kernel
theorem dX6_reduce_83 : decode cX6_reduce 83 = .ok (.iload 10, 2) := by decide +kernel
theorem dX6_reduce_85 : decode cX6_reduce 85 = .ok (.aload_n 0, 1) := by decide +kernel
theorem dX6_reduce_86 : decode cX6_reduce 86 = .ok (.getfield 41, 3) := by decide +kernel
theorem dX6_reduce_89 : decode cX6_reduce 89 = .ok (.iload_n 2, 1) := by decide +kernel
theorem dX6_reduce_90 : decode cX6_reduce 90 = .ok (.iaload, 1) := by decide +kernel
theorem dX6_reduce_91 : decode cX6_reduce 91 = .ok (.if_icmp .gt 75, 3) := by decide +kernel
theorem dX6_reduce_94 : decode cX6_reduce 94 = .ok (.aload_n 0, 1) := by decide +kernel
theorem dX6_reduce_95 : decode cX6_reduce 95 = .ok (.getfield 37, 3) := by decide +kernel
theorem dX6_reduce_98 : decode cX6_reduce 98 = .ok (.bipush 7, 2) := by decide +kernel
theorem dX6_reduce_100 : decode cX6_reduce 100 = .ok (.iload_n 1, 1) := by decide +kernel
theorem dX6_reduce_101 : decode cX6_reduce 101 = .ok (.imul, 1) := by decide +kernel
theorem dX6_reduce_102 : decode cX6_reduce 102 = .ok (.iload 10, 2) := by decide +kernel
theorem dX6_reduce_104 : decode cX6_reduce 104 = .ok (.iadd, 1) := by decide +kernel
theorem dX6_reduce_105 : decode cX6_reduce 105 = .ok (.iload 9, 2) := by decide +kernel
theorem dX6_reduce_107 : decode cX6_reduce 107 = .ok (.iadd, 1) := by decide +kernel
theorem dX6_reduce_108 : decode cX6_reduce 108 = .ok (.laload, 1) := by decide +kernel
theorem dX6_reduce_109 : decode cX6_reduce 109 = .ok (.lload 7, 2) := by decide +kernel
theorem dX6_reduce_111 : decode cX6_reduce 111 = .ok (.aload_n 0, 1) := by decide +kernel
theorem dX6_reduce_112 : decode cX6_reduce 112 = .ok (.getfield 37, 3) := by decide +kernel
theorem dX6_reduce_115 : decode cX6_reduce 115 = .ok (.bipush 7, 2) := by decide +kernel
theorem dX6_reduce_117 : decode cX6_reduce 117 = .ok (.iload_n 2, 1) := by decide +kernel
theorem dX6_reduce_118 : decode cX6_reduce 118 = .ok (.imul, 1) := by decide +kernel
theorem dX6_reduce_119 : decode cX6_reduce 119 = .ok (.iload 10, 2) := by decide +kernel
theorem dX6_reduce_121 : decode cX6_reduce 121 = .ok (.iadd, 1) := by decide +kernel
theorem dX6_reduce_122 : decode cX6_reduce 122 = .ok (.laload, 1) := by decide +kernel
theorem dX6_reduce_123 : decode cX6_reduce 123 = .ok (.lmul, 1) := by decide +kernel
theorem dX6_reduce_124 : decode cX6_reduce 124 = .ok (.lload_n 3, 1) := by decide +kernel
theorem dX6_reduce_125 : decode cX6_reduce 125 = .ok (.lrem, 1) := by decide +kernel
theorem dX6_reduce_126 : decode cX6_reduce 126 = .ok (.lsub, 1) := by decide +kernel
theorem dX6_reduce_127 : decode cX6_reduce 127 = .ok (.lstore 11, 2) := by decide +kernel
theorem dX6_reduce_129 : decode cX6_reduce 129 = .ok (.aload_n 0, 1) := by decide +kernel
theorem dX6_reduce_130 : decode cX6_reduce 130 = .ok (.getfield 37, 3) := by decide +kernel
theorem dX6_reduce_133 : decode cX6_reduce 133 = .ok (.bipush 7, 2) := by decide +kernel
theorem dX6_reduce_135 : decode cX6_reduce 135 = .ok (.iload_n 1, 1) := by decide +kernel
theorem dX6_reduce_136 : decode cX6_reduce 136 = .ok (.imul, 1) := by decide +kernel
theorem dX6_reduce_137 : decode cX6_reduce 137 = .ok (.iload 10, 2) := by decide +kernel
theorem dX6_reduce_139 : decode cX6_reduce 139 = .ok (.iadd, 1) := by decide +kernel
theorem dX6_reduce_140 : decode cX6_reduce 140 = .ok (.iload 9, 2) := by decide +kernel
theorem dX6_reduce_142 : decode cX6_reduce 142 = .ok (.iadd, 1) := by decide +kernel
theorem dX6_reduce_143 : decode cX6_reduce 143 = .ok (.lload 11, 2) := by decide +kernel
theorem dX6_reduce_145 : decode cX6_reduce 145 = .ok (.lconst 0, 1) := by decide +kernel
theorem dX6_reduce_146 : decode cX6_reduce 146 = .ok (.lcmp, 1) := by decide +kernel
theorem dX6_reduce_147 : decode cX6_reduce 147 = .ok (.ifCond .ge 10, 3) := by decide +kernel
theorem dX6_reduce_150 : decode cX6_reduce 150 = .ok (.lload 11, 2) := by decide +kernel
theorem dX6_reduce_152 : decode cX6_reduce 152 = .ok (.lload_n 3, 1) := by decide +kernel
theorem dX6_reduce_153 : decode cX6_reduce 153 = .ok (.ladd, 1) := by decide +kernel
theorem dX6_reduce_154 : decode cX6_reduce 154 = .ok (.goto 5, 3) := by decide +kernel
theorem dX6_reduce_157 : decode cX6_reduce 157 = .ok (.lload 11, 2) := by decide +kernel
theorem dX6_reduce_159 : decode cX6_reduce 159 = .ok (.lastore, 1) := by decide +kernel
theorem dX6_reduce_160 : decode cX6_reduce 160 = .ok (.iinc 10 1, 3) := by decide +kernel
theorem dX6_reduce_163 : decode cX6_reduce 163 = .ok (.goto (-80), 3) := by decide +kernel
theorem dX6_reduce_166 : decode cX6_reduce 166 = .ok (.aload_n 0, 1) := by decide +kernel
theorem dX6_reduce_167 : decode cX6_reduce 167 = .ok (.getfield 41, 3) := by decide +kernel
theorem dX6_reduce_170 : decode cX6_reduce 170 = .ok (.iload_n 1, 1) := by decide +kernel
theorem dX6_reduce_171 : decode cX6_reduce 171 = .ok (.iaload, 1) := by decide +kernel
theorem dX6_reduce_172 : decode cX6_reduce 172 = .ok (.ifCond .lt 37, 3) := by decide +kernel
theorem dX6_reduce_175 : decode cX6_reduce 175 = .ok (.aload_n 0, 1) := by decide +kernel
theorem dX6_reduce_176 : decode cX6_reduce 176 = .ok (.getfield 37, 3) := by decide +kernel
theorem dX6_reduce_179 : decode cX6_reduce 179 = .ok (.bipush 7, 2) := by decide +kernel
theorem dX6_reduce_181 : decode cX6_reduce 181 = .ok (.iload_n 1, 1) := by decide +kernel
theorem dX6_reduce_182 : decode cX6_reduce 182 = .ok (.imul, 1) := by decide +kernel
theorem dX6_reduce_183 : decode cX6_reduce 183 = .ok (.aload_n 0, 1) := by decide +kernel
theorem dX6_reduce_184 : decode cX6_reduce 184 = .ok (.getfield 41, 3) := by decide +kernel
theorem dX6_reduce_187 : decode cX6_reduce 187 = .ok (.iload_n 1, 1) := by decide +kernel
theorem dX6_reduce_188 : decode cX6_reduce 188 = .ok (.iaload, 1) := by decide +kernel
theorem dX6_reduce_189 : decode cX6_reduce 189 = .ok (.iadd, 1) := by decide +kernel
theorem dX6_reduce_190 : decode cX6_reduce 190 = .ok (.laload, 1) := by decide +kernel
theorem dX6_reduce_191 : decode cX6_reduce 191 = .ok (.lconst 0, 1) := by decide +kernel
theorem dX6_reduce_192 : decode cX6_reduce 192 = .ok (.lcmp, 1) := by decide +kernel
theorem dX6_reduce_193 : decode cX6_reduce 193 = .ok (.ifCond .ne 16, 3) := by decide +kernel
theorem dX6_reduce_196 : decode cX6_reduce 196 = .ok (.aload_n 0, 1) := by decide +kernel
theorem dX6_reduce_197 : decode cX6_reduce 197 = .ok (.getfield 41, 3) := by decide +kernel
theorem dX6_reduce_200 : decode cX6_reduce 200 = .ok (.iload_n 1, 1) := by decide +kernel
theorem dX6_reduce_201 : decode cX6_reduce 201 = .ok (.dup2, 1) := by decide +kernel
theorem dX6_reduce_202 : decode cX6_reduce 202 = .ok (.iaload, 1) := by decide +kernel
theorem dX6_reduce_203 : decode cX6_reduce 203 = .ok (.iconst 1, 1) := by decide +kernel
theorem dX6_reduce_204 : decode cX6_reduce 204 = .ok (.isub, 1) := by decide +kernel
theorem dX6_reduce_205 : decode cX6_reduce 205 = .ok (.iastore, 1) := by decide +kernel
theorem dX6_reduce_206 : decode cX6_reduce 206 = .ok (.goto (-40), 3) := by decide +kernel
theorem dX6_reduce_209 : decode cX6_reduce 209 = .ok (.goto (-182), 3) := by decide +kernel
theorem dX6_reduce_212 : decode cX6_reduce 212 = .ok (.return_, 1) := by decide +kernel
set_option maxRecDepth 100000 in
set_option maxHeartbeats 4000000 in
theorem kX6_reduce (l : Launch) (D : va_G) (ad : Nat → Nat) (cI cJ : ClassId) (tP tR : Nat) (N : Nat) (M : Mem) (a1 : Int32) (a2 : Int32) (a3 : Int64)  (o : Mem) (h : fX6_reduce N M a1 a2 a3 = some o) : qMet l D cI cJ tP tR (yA ad) (yW ad cI cJ) yX6_reduce cX6_reduce 13 none rX6_reduce [.ref (ad 0), .int a1, .int a2, .long a3] M (qQv D (yA ad) (yW ad cI cJ) o) := by
  refine rs_enterV (own := RX6) ⟨by decide +kernel, rfl, Nat.le_of_ble_eq_true rfl⟩ ?_
  intro p e s m args below meth c Q C hret H locs ls hP hS hl
  obtain ⟨hx, hb, -⟩ := id C
  have hl : lv_has ls 13 [(0, .ref (ad 0)), (1, .int a1), (2, .int a2), (3, .long a3)] := hl
  unfold fX6_reduce at h
  refine lv_aload_n hx hb dX6_reduce_0 rfl (lv_at hl 0 rfl) ?_
  refine gfX6_37 C hP dX6_reduce_1 ?_
  refine lv_bipush (v := (7 : Int32)) hx hb dX6_reduce_4 (by decide) ?_
  refine lv_iload_n hx hb dX6_reduce_6 rfl (lv_at hl 2 rfl) ?_
  refine lv_imul hx hb dX6_reduce_7 ?_
  refine lv_aload_n hx hb dX6_reduce_8 rfl (lv_at hl 0 rfl) ?_
  refine gfX6_41 C hP dX6_reduce_9 ?_
  refine lv_iload_n hx hb dX6_reduce_12 rfl (lv_at hl 2 rfl) ?_
  refine rs_iald C hP yIA_11 dX6_reduce_13 h (fun v1 h => ?_)
  refine lv_iadd hx hb dX6_reduce_14 ?_
  refine rs_lald C hP yLA_10 dX6_reduce_15 h (fun v2 h => ?_)
  refine lv_lload_n hx hb dX6_reduce_16 rfl (lv_at hl 3 rfl) ?_
  refine rs_ldc2 (v := (2 : Int64)) C wd_619 dX6_reduce_17 ?_
  refine lv_lsub hx hb dX6_reduce_20 ?_
  refine lv_lload_n hx hb dX6_reduce_21 rfl (lv_at hl 3 rfl) ?_
  obtain ⟨v3, h1, h⟩ := rs_bind h
  refine rs_goL (rs_runS (As := [.long v2, .long (a3 - (2 : Int64)), .long a3]) (rest := []) C hP hS (kX6_power l D ad cI cJ tP tR N M v2 (a3 - (2 : Int64)) a3 _ h1) mk_X6_power wd_736 rfl ⟨rfl, rfl, Nat.le_of_ble_eq_true rfl, Nat.le_of_ble_eq_true rfl⟩ rfl hl.1 (Nat.le_of_ble_eq_true rfl) dX6_reduce_22) hS (fun H locs hP hS => ?_)
  refine lv_lstore (lv' := [(5, .long v3), (0, .ref (ad 0)), (1, .int a1), (2, .int a2), (3, .long a3)]) hx hb dX6_reduce_25 hl (by decide) rfl (fun ls hl => ?_)
  have hL27 : ∀ (n27 : Nat) (M4 : Mem) (H : Heap) (locs : List Loc) (ls : Array Slot), va_P D vwCl (yW ad cI cJ M4) H → va_S (yA ad) s.heap H locs → lv_has ls 13 [(0, .ref (ad 0)), (1, .int a1), (2, .int a2), (3, .long a3), (5, .long v3)] → lp (fun _ => none) (sX6_reduce_27 a1 a2 v3 a3 N) n27 M4 = some o → W p l e rX6_reduce s m args below meth c H locs 0 0 Q (F0 m 27 ls []) := by
    intro n27
    induction n27 with
    | zero => intro M4 H locs ls hP hS hl h; have h : (none : Option Mem) = some o := h; cases h
    | succ n27 ih27 =>
      intro M4 H locs ls hP hS hl h
      have h : sX6_reduce_27 a1 a2 v3 a3 N (lp (fun _ => none) (sX6_reduce_27 a1 a2 v3 a3 N) n27) M4 = some o := h
      generalize lp (fun _ => none) (sX6_reduce_27 a1 a2 v3 a3 N) n27 = cont27 at h ih27
      unfold sX6_reduce_27 at h
      refine lv_aload_n hx hb dX6_reduce_27 rfl (lv_at hl 0 rfl) ?_
      refine gfX6_41 C hP dX6_reduce_28 ?_
      refine lv_iload_n hx hb dX6_reduce_31 rfl (lv_at hl 1 rfl) ?_
      refine rs_iald C hP yIA_11 dX6_reduce_32 h (fun v5 h => ?_)
      refine lv_aload_n hx hb dX6_reduce_33 rfl (lv_at hl 0 rfl) ?_
      refine gfX6_41 C hP dX6_reduce_34 ?_
      refine lv_iload_n hx hb dX6_reduce_37 rfl (lv_at hl 2 rfl) ?_
      refine rs_iald C hP yIA_11 dX6_reduce_38 h (fun v6 h => ?_)
      refine lv_icmp_lt (tgt := 212) hx hb dX6_reduce_39 (by decide) (fun cd => ?_) (fun cd => ?_)
      · have h := (if_pos cd).symm.trans h
        cases h
        exact hret H locs _ ls hP hS dX6_reduce_212
      · have h := (if_neg cd).symm.trans h
        refine lv_aload_n hx hb dX6_reduce_42 rfl (lv_at hl 0 rfl) ?_
        refine gfX6_37 C hP dX6_reduce_43 ?_
        refine lv_bipush (v := (7 : Int32)) hx hb dX6_reduce_46 (by decide) ?_
        refine lv_iload_n hx hb dX6_reduce_48 rfl (lv_at hl 1 rfl) ?_
        refine lv_imul hx hb dX6_reduce_49 ?_
        refine lv_aload_n hx hb dX6_reduce_50 rfl (lv_at hl 0 rfl) ?_
        refine gfX6_41 C hP dX6_reduce_51 ?_
        refine lv_iload_n hx hb dX6_reduce_54 rfl (lv_at hl 1 rfl) ?_
        refine rs_iald C hP yIA_11 dX6_reduce_55 h (fun v7 h => ?_)
        refine lv_iadd hx hb dX6_reduce_56 ?_
        refine rs_lald C hP yLA_10 dX6_reduce_57 h (fun v8 h => ?_)
        refine lv_lload hx hb dX6_reduce_58 (lv_at hl 4 rfl) ?_
        refine lv_lmul hx hb dX6_reduce_60 ?_
        refine lv_lload_n hx hb dX6_reduce_61 rfl (lv_at hl 3 rfl) ?_
        refine rs_lrem C dX6_reduce_62 h (fun v9 h => ?_)
        refine lv_lstore (lv' := [(7, .long v9), (0, .ref (ad 0)), (1, .int a1), (2, .int a2), (3, .long a3), (5, .long v3)]) hx hb dX6_reduce_63 hl (by decide) rfl (fun ls hl => ?_)
        refine lv_aload_n hx hb dX6_reduce_65 rfl (lv_at hl 1 rfl) ?_
        refine gfX6_41 C hP dX6_reduce_66 ?_
        refine lv_iload_n hx hb dX6_reduce_69 rfl (lv_at hl 2 rfl) ?_
        refine rs_iald C hP yIA_11 dX6_reduce_70 h (fun v10 h => ?_)
        refine lv_aload_n hx hb dX6_reduce_71 rfl (lv_at hl 1 rfl) ?_
        refine gfX6_41 C hP dX6_reduce_72 ?_
        refine lv_iload_n hx hb dX6_reduce_75 rfl (lv_at hl 3 rfl) ?_
        refine rs_iald C hP yIA_11 dX6_reduce_76 h (fun v11 h => ?_)
        refine lv_isub hx hb dX6_reduce_77 ?_
        refine lv_istore (lv' := [(9, .int (v10 - v11)), (7, .long v9), (0, .ref (ad 0)), (1, .int a1), (2, .int a2), (3, .long a3), (5, .long v3)]) hx hb dX6_reduce_78 hl (by decide) rfl (fun ls hl => ?_)
        refine lv_iconst (v := (0 : Int32)) hx hb dX6_reduce_80 (by decide) ?_
        refine lv_istore (lv' := [(10, .int (0 : Int32)), (9, .int (v10 - v11)), (7, .long v9), (0, .ref (ad 0)), (1, .int a1), (2, .int a2), (3, .long a3), (5, .long v3)]) hx hb dX6_reduce_81 hl (by decide) rfl (fun ls hl => ?_)
        obtain ⟨M12, h1, h⟩ := rs_bind h
        have hJ22 : ∀ (H : Heap) (locs : List Loc) (ls : Array Slot), va_P D vwCl (yW ad cI cJ M12) H → va_S (yA ad) s.heap H locs → lv_has ls 13 [(0, .ref (ad 0)), (1, .int a1), (2, .int a2), (3, .long a3), (5, .long v3)] → W p l e rX6_reduce s m args below meth c H locs 0 0 Q (F0 m 166 ls []) := by
          intro H locs ls hP hS hl
          obtain ⟨M13, h1, h⟩ := rs_bind h
          have hJ14 : ∀ (H : Heap) (locs : List Loc) (ls : Array Slot), va_P D vwCl (yW ad cI cJ M13) H → va_S (yA ad) s.heap H locs → lv_has ls 13 [(0, .ref (ad 0)), (1, .int a1), (2, .int a2), (3, .long a3), (5, .long v3)] → W p l e rX6_reduce s m args below meth c H locs 0 0 Q (F0 m 209 ls []) := by
            intro H locs ls hP hS hl
            refine lv_goto (tgt := 27) hx hb dX6_reduce_209 (by decide) ?_
            exact ih27 _ H locs ls hP hS (lv_sub hl [0, 1, 2, 3, 4] rfl) h
          replace h := h1
          clear h1
          have hL166 : ∀ (n166 : Nat) (M15 : Mem) (H : Heap) (locs : List Loc) (ls : Array Slot), va_P D vwCl (yW ad cI cJ M15) H → va_S (yA ad) s.heap H locs → lv_has ls 13 [(0, .ref (ad 0)), (1, .int a1), (2, .int a2), (3, .long a3), (5, .long v3)] → lp (fun _ => none) (sX6_reduce_166 a1) n166 M15 = some M13 → W p l e rX6_reduce s m args below meth c H locs 0 0 Q (F0 m 166 ls []) := by
            intro n166
            induction n166 with
            | zero => intro M15 H locs ls hP hS hl h; have h : (none : Option Mem) = some M13 := h; cases h
            | succ n166 ih166 =>
              intro M15 H locs ls hP hS hl h
              have h : sX6_reduce_166 a1 (lp (fun _ => none) (sX6_reduce_166 a1) n166) M15 = some M13 := h
              generalize lp (fun _ => none) (sX6_reduce_166 a1) n166 = cont166 at h ih166
              unfold sX6_reduce_166 at h
              refine lv_aload_n hx hb dX6_reduce_166 rfl (lv_at hl 0 rfl) ?_
              refine gfX6_41 C hP dX6_reduce_167 ?_
              refine lv_iload_n hx hb dX6_reduce_170 rfl (lv_at hl 1 rfl) ?_
              refine rs_iald C hP yIA_11 dX6_reduce_171 h (fun v16 h => ?_)
              refine lv_if_lt (tgt := 209) hx hb dX6_reduce_172 (by decide) (fun cd => ?_) (fun cd => ?_)
              · have h := (if_pos cd).symm.trans h
                cases h
                exact hJ14 H locs ls hP hS (lv_sub hl [0, 1, 2, 3, 4] rfl)
              · have h := (if_neg cd).symm.trans h
                refine lv_aload_n hx hb dX6_reduce_175 rfl (lv_at hl 0 rfl) ?_
                refine gfX6_37 C hP dX6_reduce_176 ?_
                refine lv_bipush (v := (7 : Int32)) hx hb dX6_reduce_179 (by decide) ?_
                refine lv_iload_n hx hb dX6_reduce_181 rfl (lv_at hl 1 rfl) ?_
                refine lv_imul hx hb dX6_reduce_182 ?_
                refine lv_aload_n hx hb dX6_reduce_183 rfl (lv_at hl 0 rfl) ?_
                refine gfX6_41 C hP dX6_reduce_184 ?_
                refine lv_iload_n hx hb dX6_reduce_187 rfl (lv_at hl 1 rfl) ?_
                refine rs_iald C hP yIA_11 dX6_reduce_188 h (fun v17 h => ?_)
                refine lv_iadd hx hb dX6_reduce_189 ?_
                refine rs_lald C hP yLA_10 dX6_reduce_190 h (fun v18 h => ?_)
                refine lv_lconst (v := (0 : Int64)) hx hb dX6_reduce_191 (by decide) ?_
                refine rs_lcmp C dX6_reduce_192 (fun z19 hz => ?_)
                refine lv_if_ne (tgt := 209) hx hb dX6_reduce_193 (by decide) (fun cd => ?_) (fun cd => ?_)
                · have h := (if_neg (fun q => cd (hz.2.1.mpr q))).symm.trans h
                  cases h
                  exact hJ14 H locs ls hP hS (lv_sub hl [0, 1, 2, 3, 4] rfl)
                · have h := (if_pos (hz.2.1.mp cd)).symm.trans h
                  refine lv_aload_n hx hb dX6_reduce_196 rfl (lv_at hl 0 rfl) ?_
                  refine gfX6_41 C hP dX6_reduce_197 ?_
                  refine lv_iload_n hx hb dX6_reduce_200 rfl (lv_at hl 1 rfl) ?_
                  refine lv_dup2_11 hx hb dX6_reduce_201 rfl rfl ?_
                  refine rs_iald C hP yIA_11 dX6_reduce_202 h (fun v20 h => ?_)
                  refine lv_iconst (v := (1 : Int32)) hx hb dX6_reduce_203 (by decide) ?_
                  refine lv_isub hx hb dX6_reduce_204 ?_
                  refine rs_iast C hP hS yIA_11 dX6_reduce_205 h (fun M21 h H locs hP hS => ?_)
                  refine lv_goto (tgt := 166) hx hb dX6_reduce_206 (by decide) ?_
                  exact ih166 _ H locs ls hP hS (lv_sub hl [0, 1, 2, 3, 4] rfl) h
          exact hL166 N _ H locs ls hP hS (lv_sub hl [0, 1, 2, 3, 4] rfl) h
        replace h := h1
        clear h1
        have hL83 : ∀ (n83 : Nat) (v23 : Int32) (M24 : Mem) (H : Heap) (locs : List Loc) (ls : Array Slot), va_P D vwCl (yW ad cI cJ M24) H → va_S (yA ad) s.heap H locs → lv_has ls 13 [(0, .ref (ad 0)), (1, .int a1), (2, .int a2), (3, .long a3), (5, .long v3), (7, .long v9), (9, .int (v10 - v11)), (10, .int v23)] → lp (fun _ _ => none) (sX6_reduce_83 a2 a1 v10 v11 v9 a3) n83 v23 M24 = some M12 → W p l e rX6_reduce s m args below meth c H locs 0 0 Q (F0 m 83 ls []) := by
          intro n83
          induction n83 with
          | zero => intro v23 M24 H locs ls hP hS hl h; have h : (none : Option Mem) = some M12 := h; cases h
          | succ n83 ih83 =>
            intro v23 M24 H locs ls hP hS hl h
            have h : sX6_reduce_83 a2 a1 v10 v11 v9 a3 (lp (fun _ _ => none) (sX6_reduce_83 a2 a1 v10 v11 v9 a3) n83) v23 M24 = some M12 := h
            generalize lp (fun _ _ => none) (sX6_reduce_83 a2 a1 v10 v11 v9 a3) n83 = cont83 at h ih83
            unfold sX6_reduce_83 at h
            refine lv_iload hx hb dX6_reduce_83 (lv_at hl 7 rfl) ?_
            refine lv_aload_n hx hb dX6_reduce_85 rfl (lv_at hl 0 rfl) ?_
            refine gfX6_41 C hP dX6_reduce_86 ?_
            refine lv_iload_n hx hb dX6_reduce_89 rfl (lv_at hl 2 rfl) ?_
            refine rs_iald C hP yIA_11 dX6_reduce_90 h (fun v25 h => ?_)
            refine lv_icmp_gt (tgt := 166) hx hb dX6_reduce_91 (by decide) (fun cd => ?_) (fun cd => ?_)
            · have h := (if_pos cd).symm.trans h
              cases h
              exact hJ22 H locs ls hP hS (lv_sub hl [0, 1, 2, 3, 4] rfl)
            · have h := (if_neg cd).symm.trans h
              refine lv_aload_n hx hb dX6_reduce_94 rfl (lv_at hl 0 rfl) ?_
              refine gfX6_37 C hP dX6_reduce_95 ?_
              refine lv_bipush (v := (7 : Int32)) hx hb dX6_reduce_98 (by decide) ?_
              refine lv_iload_n hx hb dX6_reduce_100 rfl (lv_at hl 1 rfl) ?_
              refine lv_imul hx hb dX6_reduce_101 ?_
              refine lv_iload hx hb dX6_reduce_102 (lv_at hl 7 rfl) ?_
              refine lv_iadd hx hb dX6_reduce_104 ?_
              refine lv_iload hx hb dX6_reduce_105 (lv_at hl 6 rfl) ?_
              refine lv_iadd hx hb dX6_reduce_107 ?_
              refine rs_lald C hP yLA_10 dX6_reduce_108 h (fun v26 h => ?_)
              refine lv_lload hx hb dX6_reduce_109 (lv_at hl 5 rfl) ?_
              refine lv_aload_n hx hb dX6_reduce_111 rfl (lv_at hl 0 rfl) ?_
              refine gfX6_37 C hP dX6_reduce_112 ?_
              refine lv_bipush (v := (7 : Int32)) hx hb dX6_reduce_115 (by decide) ?_
              refine lv_iload_n hx hb dX6_reduce_117 rfl (lv_at hl 2 rfl) ?_
              refine lv_imul hx hb dX6_reduce_118 ?_
              refine lv_iload hx hb dX6_reduce_119 (lv_at hl 7 rfl) ?_
              refine lv_iadd hx hb dX6_reduce_121 ?_
              refine rs_lald C hP yLA_10 dX6_reduce_122 h (fun v27 h => ?_)
              refine lv_lmul hx hb dX6_reduce_123 ?_
              refine lv_lload_n hx hb dX6_reduce_124 rfl (lv_at hl 3 rfl) ?_
              refine rs_lrem C dX6_reduce_125 h (fun v28 h => ?_)
              refine lv_lsub hx hb dX6_reduce_126 ?_
              refine lv_lstore (lv' := [(11, .long (v26 - v28)), (0, .ref (ad 0)), (1, .int a1), (2, .int a2), (3, .long a3), (5, .long v3), (7, .long v9), (9, .int (v10 - v11)), (10, .int v23)]) hx hb dX6_reduce_127 hl (by decide) rfl (fun ls hl => ?_)
              refine lv_aload_n hx hb dX6_reduce_129 rfl (lv_at hl 1 rfl) ?_
              refine gfX6_37 C hP dX6_reduce_130 ?_
              refine lv_bipush (v := (7 : Int32)) hx hb dX6_reduce_133 (by decide) ?_
              refine lv_iload_n hx hb dX6_reduce_135 rfl (lv_at hl 2 rfl) ?_
              refine lv_imul hx hb dX6_reduce_136 ?_
              refine lv_iload hx hb dX6_reduce_137 (lv_at hl 8 rfl) ?_
              refine lv_iadd hx hb dX6_reduce_139 ?_
              refine lv_iload hx hb dX6_reduce_140 (lv_at hl 7 rfl) ?_
              refine lv_iadd hx hb dX6_reduce_142 ?_
              refine lv_lload hx hb dX6_reduce_143 (lv_at hl 0 rfl) ?_
              refine lv_lconst (v := (0 : Int64)) hx hb dX6_reduce_145 (by decide) ?_
              refine rs_lcmp C dX6_reduce_146 (fun z29 hz => ?_)
              obtain ⟨v30, h1, h⟩ := rs_bind h
              have hJ32 : ∀ (H : Heap) (locs : List Loc) (ls : Array Slot), va_P D vwCl (yW ad cI cJ M24) H → va_S (yA ad) s.heap H locs → lv_has ls 13 [(0, .ref (ad 0)), (1, .int a1), (2, .int a2), (3, .long a3), (5, .long v3), (7, .long v9), (9, .int (v10 - v11)), (10, .int v23)] → W p l e rX6_reduce s m args below meth c H locs 0 0 Q (F0 m 159 ls [.long v30, .int ((((7 : Int32) * a1) + v23) + (v10 - v11)), .ref (ad 10)]) := by
                intro H locs ls hP hS hl
                refine rs_last C hP hS yLA_10 dX6_reduce_159 h (fun M31 h H locs hP hS => ?_)
                refine lv_iinc (v := (v23 + 1)) (lv' := [(10, .int (v23 + 1)), (0, .ref (ad 0)), (1, .int a1), (2, .int a2), (3, .long a3), (5, .long v3), (7, .long v9), (9, .int (v10 - v11))]) hx hb dX6_reduce_160 hl (k := 7) rfl rfl (by decide) rfl (fun ls hl => ?_)
                refine lv_goto (tgt := 83) hx hb dX6_reduce_163 (by decide) ?_
                exact ih83 _ _ H locs ls hP hS (lv_sub hl [1, 2, 3, 4, 5, 6, 7, 0] rfl) h
              replace h := h1
              clear h1
              refine lv_if_ge (tgt := 157) hx hb dX6_reduce_147 (by decide) (fun cd => ?_) (fun cd => ?_)
              · have h := (if_neg (hz.2.2.2.1.mp cd)).symm.trans h
                refine lv_lload hx hb dX6_reduce_157 (lv_at hl 0 rfl) ?_
                cases h
                exact hJ32 H locs ls hP hS (lv_sub hl [1, 2, 3, 4, 5, 6, 7, 8] rfl)
              · have h := (if_pos (Decidable.of_not_not (fun q => cd (hz.2.2.2.1.mpr q)))).symm.trans h
                refine lv_lload hx hb dX6_reduce_150 (lv_at hl 0 rfl) ?_
                refine lv_lload_n hx hb dX6_reduce_152 rfl (lv_at hl 4 rfl) ?_
                refine lv_ladd hx hb dX6_reduce_153 ?_
                refine lv_goto (tgt := 159) hx hb dX6_reduce_154 (by decide) ?_
                cases h
                exact hJ32 H locs ls hP hS (lv_sub hl [1, 2, 3, 4, 5, 6, 7, 8] rfl)
        exact hL83 N _ _ H locs ls hP hS (lv_sub hl [3, 4, 5, 6, 7, 2, 1, 0] rfl) h
  exact hL27 N _ H locs ls hP hS (lv_sub hl [1, 2, 3, 4, 0] rfl) h
abbrev rX6_meet : Room := { frames := 3, cells := 0, slots := 0, locals := 81 }
theorem dX6_meet_0 : decode cX6_meet 0 = .ok (.aload_n 0, 1) := by decide +kernel
theorem dX6_meet_1 : decode cX6_meet 1 = .ok (.iconst 0, 1) := by decide +kernel
theorem dX6_meet_2 : decode cX6_meet 2 = .ok (.iload_n 1, 1) := by decide +kernel
theorem dX6_meet_3 : decode cX6_meet 3 = .ok (.iload_n 2, 1) := by decide +kernel
theorem dX6_meet_4 : decode cX6_meet 4 = .ok (.lload_n 3, 1) := by decide +kernel
theorem dX6_meet_5 : decode cX6_meet 5 = .ok (.invokevirtual 166, 3) := by decide +kernel
theorem dX6_meet_8 : decode cX6_meet 8 = .ok (.istore 5, 2) := by decide +kernel
theorem dX6_meet_10 : decode cX6_meet 10 = .ok (.aload_n 0, 1) := by decide +kernel
theorem dX6_meet_11 : decode cX6_meet 11 = .ok (.iconst 1, 1) := by decide +kernel
theorem dX6_meet_12 : decode cX6_meet 12 = .ok (.iload_n 1, 1) := by decide +kernel
theorem dX6_meet_13 : decode cX6_meet 13 = .ok (.iload_n 2, 1) := by decide +kernel
theorem dX6_meet_14 : decode cX6_meet 14 = .ok (.lload_n 3, 1) := by decide +kernel
theorem dX6_meet_15 : decode cX6_meet 15 = .ok (.invokevirtual 166, 3) := by decide +kernel
theorem dX6_meet_18 : decode cX6_meet 18 = .ok (.istore 6, 2) := by decide +kernel
theorem dX6_meet_20 : decode cX6_meet 20 = .ok (.iload 5, 2) := by decide +kernel
theorem dX6_meet_22 : decode cX6_meet 22 = .ok (.ifCond .eq 8, 3) := by decide +kernel
theorem dX6_meet_25 : decode cX6_meet 25 = .ok (.iload 6, 2) := by decide +kernel
theorem dX6_meet_27 : decode cX6_meet 27 = .ok (.ifCond .ne 5, 3) := by decide +kernel
theorem dX6_meet_30 : decode cX6_meet 30 = .ok (.iconst 0, 1) := by decide +kernel
theorem dX6_meet_31 : decode cX6_meet 31 = .ok (.ireturn, 1) := by decide +kernel
theorem dX6_meet_32 : decode cX6_meet 32 = .ok (.aload_n 0, 1) := by decide +kernel
theorem dX6_meet_33 : decode cX6_meet 33 = .ok (.getfield 41, 3) := by decide +kernel
theorem dX6_meet_36 : decode cX6_meet 36 = .ok (.iconst 0, 1) := by decide +kernel
theorem dX6_meet_37 : decode cX6_meet 37 = .ok (.iaload, 1) := by decide +kernel
theorem dX6_meet_38 : decode cX6_meet 38 = .ok (.aload_n 0, 1) := by decide +kernel
theorem dX6_meet_39 : decode cX6_meet 39 = .ok (.getfield 41, 3) := by decide +kernel
theorem dX6_meet_42 : decode cX6_meet 42 = .ok (.iconst 1, 1) := by decide +kernel
theorem dX6_meet_43 : decode cX6_meet 43 = .ok (.iaload, 1) := by decide +kernel
theorem dX6_meet_44 : decode cX6_meet 44 = .ok (.if_icmp .lt 7, 3) := by decide +kernel
theorem dX6_meet_47 : decode cX6_meet 47 = .ok (.iconst 0, 1) := by decide +kernel
theorem dX6_meet_48 : decode cX6_meet 48 = .ok (.goto 4, 3) := by decide +kernel
theorem dX6_meet_51 : decode cX6_meet 51 = .ok (.iconst 1, 1) := by decide +kernel
theorem dX6_meet_52 : decode cX6_meet 52 = .ok (.istore 7, 2) := by decide +kernel
theorem dX6_meet_54 : decode cX6_meet 54 = .ok (.aload_n 0, 1) := by decide +kernel
theorem dX6_meet_55 : decode cX6_meet 55 = .ok (.getfield 41, 3) := by decide +kernel
theorem dX6_meet_58 : decode cX6_meet 58 = .ok (.iconst 1, 1) := by decide +kernel
theorem dX6_meet_59 : decode cX6_meet 59 = .ok (.iload 7, 2) := by decide +kernel
theorem dX6_meet_61 : decode cX6_meet 61 = .ok (.isub, 1) := by decide +kernel
theorem dX6_meet_62 : decode cX6_meet 62 = .ok (.iaload, 1) := by decide +kernel
theorem dX6_meet_63 : decode cX6_meet 63 = .ok (.ifCond .le 35, 3) := by decide +kernel
theorem dX6_meet_66 : decode cX6_meet 66 = .ok (.aload_n 0, 1) := by decide +kernel
theorem dX6_meet_67 : decode cX6_meet 67 = .ok (.iload 7, 2) := by decide +kernel
theorem dX6_meet_69 : decode cX6_meet 69 = .ok (.iconst 1, 1) := by decide +kernel
theorem dX6_meet_70 : decode cX6_meet 70 = .ok (.iload 7, 2) := by decide +kernel
theorem dX6_meet_72 : decode cX6_meet 72 = .ok (.isub, 1) := by decide +kernel
theorem dX6_meet_73 : decode cX6_meet 73 = .ok (.lload_n 3, 1) := by decide +kernel
theorem dX6_meet_74 : decode cX6_meet 74 = .ok (.invokevirtual 170, 3) := by decide +kernel
theorem dX6_meet_77 : decode cX6_meet 77 = .ok (.aload_n 0, 1) := by decide +kernel
theorem dX6_meet_78 : decode cX6_meet 78 = .ok (.getfield 41, 3) := by decide +kernel
theorem dX6_meet_81 : decode cX6_meet 81 = .ok (.iload 7, 2) := by decide +kernel
theorem dX6_meet_83 : decode cX6_meet 83 = .ok (.iaload, 1) := by decide +kernel
theorem dX6_meet_84 : decode cX6_meet 84 = .ok (.ifCond .ge 5, 3) := by decide +kernel
theorem dX6_meet_87 : decode cX6_meet 87 = .ok (.iconst 1, 1) := by decide +kernel
theorem dX6_meet_88 : decode cX6_meet 88 = .ok (.ireturn, 1) := by decide +kernel
theorem dX6_meet_89 : decode cX6_meet 89 = .ok (.iconst 1, 1) := by decide +kernel
theorem dX6_meet_90 : decode cX6_meet 90 = .ok (.iload 7, 2) := by decide +kernel
theorem dX6_meet_92 : decode cX6_meet 92 = .ok (.isub, 1) := by decide +kernel
theorem dX6_meet_93 : decode cX6_meet 93 = .ok (.istore 7, 2) := by decide +kernel
theorem dX6_meet_95 : decode cX6_meet 95 = .ok (.goto (-41), 3) := by decide +kernel
theorem dX6_meet_98 : decode cX6_meet 98 = .ok (.iconst 0, 1) := by decide +kernel
theorem dX6_meet_99 : decode cX6_meet 99 = .ok (.ireturn, 1) := by decide +kernel
set_option maxRecDepth 100000 in
set_option maxHeartbeats 4000000 in
theorem kX6_meet (l : Launch) (D : va_G) (ad : Nat → Nat) (cI cJ : ClassId) (tP tR : Nat) (N : Nat) (M : Mem) (a1 : Int32) (a2 : Int32) (a3 : Int64)  (o : (Int32 × Mem)) (h : fX6_meet N M a1 a2 a3 = some o) : qMet l D cI cJ tP tR (yA ad) (yW ad cI cJ) yX6_meet cX6_meet 8 (some .boolean) rX6_meet [.ref (ad 0), .int a1, .int a2, .long a3] M (qQi D (yA ad) (yW ad cI cJ) o.1 o.2) := by
  refine rs_enterZ (own := RX6) ⟨by decide +kernel, rfl, Nat.le_of_ble_eq_true rfl⟩ ?_
  intro p e s m args below meth c Q C hret H locs ls hP hS hl
  obtain ⟨hx, hb, -⟩ := id C
  have hl : lv_has ls 8 [(0, .ref (ad 0)), (1, .int a1), (2, .int a2), (3, .long a3)] := hl
  unfold fX6_meet at h
  refine lv_aload_n hx hb dX6_meet_0 rfl (lv_at hl 0 rfl) ?_
  refine lv_iconst (v := (0 : Int32)) hx hb dX6_meet_1 (by decide) ?_
  refine lv_iload_n hx hb dX6_meet_2 rfl (lv_at hl 1 rfl) ?_
  refine lv_iload_n hx hb dX6_meet_3 rfl (lv_at hl 2 rfl) ?_
  refine lv_lload_n hx hb dX6_meet_4 rfl (lv_at hl 3 rfl) ?_
  obtain ⟨⟨v2, M1⟩, h1, h⟩ := rs_bind h
  dsimp only at h
  refine rs_goI (rs_runV (b := 0) (As := [.int (0 : Int32), .int a1, .int a2, .long a3]) (rest := []) C hP hS (kX6_lay l D ad cI cJ tP tR N M (0 : Int32) a1 a2 a3 _ h1) mk_X6_lay wd_721 (yR_0) rfl ⟨rfl, rfl, Nat.le_of_ble_eq_true rfl, Nat.le_of_ble_eq_true rfl⟩ rfl hl.1 (Nat.le_of_ble_eq_true rfl) dX6_meet_5) hS (fun H locs hP hS => ?_)
  refine lv_istore (lv' := [(5, .int v2), (0, .ref (ad 0)), (1, .int a1), (2, .int a2), (3, .long a3)]) hx hb dX6_meet_8 hl (by decide) rfl (fun ls hl => ?_)
  refine lv_aload_n hx hb dX6_meet_10 rfl (lv_at hl 1 rfl) ?_
  refine lv_iconst (v := (1 : Int32)) hx hb dX6_meet_11 (by decide) ?_
  refine lv_iload_n hx hb dX6_meet_12 rfl (lv_at hl 2 rfl) ?_
  refine lv_iload_n hx hb dX6_meet_13 rfl (lv_at hl 3 rfl) ?_
  refine lv_lload_n hx hb dX6_meet_14 rfl (lv_at hl 4 rfl) ?_
  obtain ⟨⟨v5, M4⟩, h1, h⟩ := rs_bind h
  dsimp only at h
  refine rs_goI (rs_runV (b := 0) (As := [.int (1 : Int32), .int a1, .int a2, .long a3]) (rest := []) C hP hS (kX6_lay l D ad cI cJ tP tR N M1 (1 : Int32) a1 a2 a3 _ h1) mk_X6_lay wd_721 (yR_0) rfl ⟨rfl, rfl, Nat.le_of_ble_eq_true rfl, Nat.le_of_ble_eq_true rfl⟩ rfl hl.1 (Nat.le_of_ble_eq_true rfl) dX6_meet_15) hS (fun H locs hP hS => ?_)
  refine lv_istore (lv' := [(6, .int v5), (5, .int v2), (0, .ref (ad 0)), (1, .int a1), (2, .int a2), (3, .long a3)]) hx hb dX6_meet_18 hl (by decide) rfl (fun ls hl => ?_)
  refine lv_iload hx hb dX6_meet_20 (lv_at hl 1 rfl) ?_
  refine lv_if_eq (tgt := 30) hx hb dX6_meet_22 (by decide) (fun cd => ?_) (fun cd => ?_)
  · have h := (if_pos cd).symm.trans h
    refine lv_iconst (v := (0 : Int32)) hx hb dX6_meet_30 (by decide) ?_
    obtain ⟨rfl, hz⟩ := rs_okZM h
    exact hret H locs _ ls hz hP hS dX6_meet_31
  · have h := (if_neg cd).symm.trans h
    refine lv_iload hx hb dX6_meet_25 (lv_at hl 0 rfl) ?_
    refine lv_if_ne (tgt := 32) hx hb dX6_meet_27 (by decide) (fun cd => ?_) (fun cd => ?_)
    · have h := (if_neg cd).symm.trans h
      refine lv_aload_n hx hb dX6_meet_32 rfl (lv_at hl 2 rfl) ?_
      refine gfX6_41 C hP dX6_meet_33 ?_
      refine lv_iconst (v := (0 : Int32)) hx hb dX6_meet_36 (by decide) ?_
      refine rs_iald C hP yIA_11 dX6_meet_37 h (fun v7 h => ?_)
      refine lv_aload_n hx hb dX6_meet_38 rfl (lv_at hl 2 rfl) ?_
      refine gfX6_41 C hP dX6_meet_39 ?_
      refine lv_iconst (v := (1 : Int32)) hx hb dX6_meet_42 (by decide) ?_
      refine rs_iald C hP yIA_11 dX6_meet_43 h (fun v8 h => ?_)
      obtain ⟨v9, h1, h⟩ := rs_bind h
      have hJ15 : ∀ (H : Heap) (locs : List Loc) (ls : Array Slot), va_P D vwCl (yW ad cI cJ M4) H → va_S (yA ad) s.heap H locs → lv_has ls 8 [(0, .ref (ad 0)), (3, .long a3)] → W p l e rX6_meet s m args below meth c H locs 0 0 Q (F0 m 52 ls [.int v9]) := by
        intro H locs ls hP hS hl
        refine lv_istore (lv' := [(7, .int v9), (0, .ref (ad 0)), (3, .long a3)]) hx hb dX6_meet_52 hl (by decide) rfl (fun ls hl => ?_)
        have hL54 : ∀ (n54 : Nat) (v10 : Int32) (M11 : Mem) (H : Heap) (locs : List Loc) (ls : Array Slot), va_P D vwCl (yW ad cI cJ M11) H → va_S (yA ad) s.heap H locs → lv_has ls 8 [(0, .ref (ad 0)), (3, .long a3), (7, .int v10)] → lp (fun _ _ => none) (sX6_meet_54 N a3) n54 v10 M11 = some o → W p l e rX6_meet s m args below meth c H locs 0 0 Q (F0 m 54 ls []) := by
          intro n54
          induction n54 with
          | zero => intro v10 M11 H locs ls hP hS hl h; have h : (none : Option (Int32 × Mem)) = some o := h; cases h
          | succ n54 ih54 =>
            intro v10 M11 H locs ls hP hS hl h
            have h : sX6_meet_54 N a3 (lp (fun _ _ => none) (sX6_meet_54 N a3) n54) v10 M11 = some o := h
            generalize lp (fun _ _ => none) (sX6_meet_54 N a3) n54 = cont54 at h ih54
            unfold sX6_meet_54 at h
            refine lv_aload_n hx hb dX6_meet_54 rfl (lv_at hl 0 rfl) ?_
            refine gfX6_41 C hP dX6_meet_55 ?_
            refine lv_iconst (v := (1 : Int32)) hx hb dX6_meet_58 (by decide) ?_
            refine lv_iload hx hb dX6_meet_59 (lv_at hl 2 rfl) ?_
            refine lv_isub hx hb dX6_meet_61 ?_
            refine rs_iald C hP yIA_11 dX6_meet_62 h (fun v12 h => ?_)
            refine lv_if_le (tgt := 98) hx hb dX6_meet_63 (by decide) (fun cd => ?_) (fun cd => ?_)
            · have h := (if_pos cd).symm.trans h
              refine lv_iconst (v := (0 : Int32)) hx hb dX6_meet_98 (by decide) ?_
              obtain ⟨rfl, hz⟩ := rs_okZM h
              exact hret H locs _ ls hz hP hS dX6_meet_99
            · have h := (if_neg cd).symm.trans h
              refine lv_aload_n hx hb dX6_meet_66 rfl (lv_at hl 0 rfl) ?_
              refine lv_iload hx hb dX6_meet_67 (lv_at hl 2 rfl) ?_
              refine lv_iconst (v := (1 : Int32)) hx hb dX6_meet_69 (by decide) ?_
              refine lv_iload hx hb dX6_meet_70 (lv_at hl 2 rfl) ?_
              refine lv_isub hx hb dX6_meet_72 ?_
              refine lv_lload_n hx hb dX6_meet_73 rfl (lv_at hl 1 rfl) ?_
              obtain ⟨M13, h1, h⟩ := rs_bind h
              refine rs_goV (rs_runV (b := 0) (As := [.int v10, .int ((1 : Int32) - v10), .long a3]) (rest := []) C hP hS (kX6_reduce l D ad cI cJ tP tR N M11 v10 ((1 : Int32) - v10) a3 _ h1) mk_X6_reduce wd_732 (yR_0) rfl ⟨rfl, rfl, Nat.le_of_ble_eq_true rfl, Nat.le_of_ble_eq_true rfl⟩ rfl hl.1 (Nat.le_of_ble_eq_true rfl) dX6_meet_74) hS (fun H locs hP hS => ?_)
              refine lv_aload_n hx hb dX6_meet_77 rfl (lv_at hl 0 rfl) ?_
              refine gfX6_41 C hP dX6_meet_78 ?_
              refine lv_iload hx hb dX6_meet_81 (lv_at hl 2 rfl) ?_
              refine rs_iald C hP yIA_11 dX6_meet_83 h (fun v14 h => ?_)
              refine lv_if_ge (tgt := 89) hx hb dX6_meet_84 (by decide) (fun cd => ?_) (fun cd => ?_)
              · have h := (if_pos cd).symm.trans h
                refine lv_iconst (v := (1 : Int32)) hx hb dX6_meet_89 (by decide) ?_
                refine lv_iload hx hb dX6_meet_90 (lv_at hl 2 rfl) ?_
                refine lv_isub hx hb dX6_meet_92 ?_
                refine lv_istore (lv' := [(7, .int ((1 : Int32) - v10)), (0, .ref (ad 0)), (3, .long a3)]) hx hb dX6_meet_93 hl (by decide) rfl (fun ls hl => ?_)
                refine lv_goto (tgt := 54) hx hb dX6_meet_95 (by decide) ?_
                exact ih54 _ _ H locs ls hP hS (lv_sub hl [1, 2, 0] rfl) h
              · have h := (if_neg cd).symm.trans h
                refine lv_iconst (v := (1 : Int32)) hx hb dX6_meet_87 (by decide) ?_
                obtain ⟨rfl, hz⟩ := rs_okZM h
                exact hret H locs _ ls hz hP hS dX6_meet_88
        exact hL54 N _ _ H locs ls hP hS (lv_sub hl [1, 2, 0] rfl) h
      replace h := h1
      clear h1
      refine lv_icmp_lt (tgt := 51) hx hb dX6_meet_44 (by decide) (fun cd => ?_) (fun cd => ?_)
      · have h := (if_pos cd).symm.trans h
        refine lv_iconst (v := (1 : Int32)) hx hb dX6_meet_51 (by decide) ?_
        cases h
        exact hJ15 H locs ls hP hS (lv_sub hl [2, 5] rfl)
      · have h := (if_neg cd).symm.trans h
        refine lv_iconst (v := (0 : Int32)) hx hb dX6_meet_47 (by decide) ?_
        refine lv_goto (tgt := 52) hx hb dX6_meet_48 (by decide) ?_
        cases h
        exact hJ15 H locs ls hP hS (lv_sub hl [2, 5] rfl)
    · have h := (if_pos cd).symm.trans h
      refine lv_iconst (v := (0 : Int32)) hx hb dX6_meet_30 (by decide) ?_
      obtain ⟨rfl, hz⟩ := rs_okZM h
      exact hret H locs _ ls hz hP hS dX6_meet_31
abbrev rX6_loses : Room := { frames := 4, cells := 0, slots := 0, locals := 108 }
theorem dX6_loses_0 : decode cX6_loses 0 = .ok (.aload_n 0, 1) := by decide +kernel
theorem dX6_loses_1 : decode cX6_loses 1 = .ok (.iload_n 1, 1) := by decide +kernel
theorem dX6_loses_2 : decode cX6_loses 2 = .ok (.iload_n 2, 1) := by decide +kernel
theorem dX6_loses_3 : decode cX6_loses 3 = .ok (.ldc2_w 174, 3) := by decide +kernel
theorem dX6_loses_6 : decode cX6_loses 6 = .ok (.invokevirtual 176, 3) := by decide +kernel
theorem dX6_loses_9 : decode cX6_loses 9 = .ok (.ifCond .eq 31, 3) := by decide +kernel
theorem dX6_loses_12 : decode cX6_loses 12 = .ok (.aload_n 0, 1) := by decide +kernel
theorem dX6_loses_13 : decode cX6_loses 13 = .ok (.iload_n 1, 1) := by decide +kernel
theorem dX6_loses_14 : decode cX6_loses 14 = .ok (.iload_n 2, 1) := by decide +kernel
theorem dX6_loses_15 : decode cX6_loses 15 = .ok (.ldc2_w 180, 3) := by decide +kernel
theorem dX6_loses_18 : decode cX6_loses 18 = .ok (.invokevirtual 176, 3) := by decide +kernel
theorem dX6_loses_21 : decode cX6_loses 21 = .ok (.ifCond .eq 19, 3) := by decide +kernel
theorem dX6_loses_24 : decode cX6_loses 24 = .ok (.aload_n 0, 1) := by decide +kernel
theorem dX6_loses_25 : decode cX6_loses 25 = .ok (.iload_n 1, 1) := by decide +kernel
theorem dX6_loses_26 : decode cX6_loses 26 = .ok (.iload_n 2, 1) := by decide +kernel
theorem dX6_loses_27 : decode cX6_loses 27 = .ok (.ldc2_w 182, 3) := by decide +kernel
theorem dX6_loses_30 : decode cX6_loses 30 = .ok (.invokevirtual 176, 3) := by decide +kernel
theorem dX6_loses_33 : decode cX6_loses 33 = .ok (.ifCond .eq 7, 3) := by decide +kernel
theorem dX6_loses_36 : decode cX6_loses 36 = .ok (.iconst 1, 1) := by decide +kernel
theorem dX6_loses_37 : decode cX6_loses 37 = .ok (.goto 4, 3) := by decide +kernel
theorem dX6_loses_40 : decode cX6_loses 40 = .ok (.iconst 0, 1) := by decide +kernel
theorem dX6_loses_41 : decode cX6_loses 41 = .ok (.ireturn, 1) := by decide +kernel
set_option maxRecDepth 100000 in
set_option maxHeartbeats 4000000 in
theorem kX6_loses (l : Launch) (D : va_G) (ad : Nat → Nat) (cI cJ : ClassId) (tP tR : Nat) (N : Nat) (M : Mem) (a1 : Int32) (a2 : Int32)  (o : (Int32 × Mem)) (h : fX6_loses N M a1 a2 = some o) : qMet l D cI cJ tP tR (yA ad) (yW ad cI cJ) yX6_loses cX6_loses 3 (some .boolean) rX6_loses [.ref (ad 0), .int a1, .int a2] M (qQi D (yA ad) (yW ad cI cJ) o.1 o.2) := by
  refine rs_enterZ (own := RX6) ⟨by decide +kernel, rfl, Nat.le_of_ble_eq_true rfl⟩ ?_
  intro p e s m args below meth c Q C hret H locs ls hP hS hl
  obtain ⟨hx, hb, -⟩ := id C
  have hl : lv_has ls 3 [(0, .ref (ad 0)), (1, .int a1), (2, .int a2)] := hl
  unfold fX6_loses at h
  refine lv_aload_n hx hb dX6_loses_0 rfl (lv_at hl 0 rfl) ?_
  refine lv_iload_n hx hb dX6_loses_1 rfl (lv_at hl 1 rfl) ?_
  refine lv_iload_n hx hb dX6_loses_2 rfl (lv_at hl 2 rfl) ?_
  refine rs_ldc2 (v := (2147483647 : Int64)) C wd_716 dX6_loses_3 ?_
  obtain ⟨⟨v2, M1⟩, h1, h⟩ := rs_bind h
  dsimp only at h
  refine rs_goI (rs_runV (b := 0) (As := [.int a1, .int a2, .long (2147483647 : Int64)]) (rest := []) C hP hS (kX6_meet l D ad cI cJ tP tR N M a1 a2 (2147483647 : Int64) _ h1) mk_X6_meet wd_717 (yR_0) rfl ⟨rfl, rfl, Nat.le_of_ble_eq_true rfl, Nat.le_of_ble_eq_true rfl⟩ rfl hl.1 (Nat.le_of_ble_eq_true rfl) dX6_loses_6) hS (fun H locs hP hS => ?_)
  refine lv_if_eq (tgt := 40) hx hb dX6_loses_9 (by decide) (fun cd => ?_) (fun cd => ?_)
  · have h := (if_pos cd).symm.trans h
    refine lv_iconst (v := (0 : Int32)) hx hb dX6_loses_40 (by decide) ?_
    obtain ⟨rfl, hz⟩ := rs_okZM h
    exact hret H locs _ ls hz hP hS dX6_loses_41
  · have h := (if_neg cd).symm.trans h
    refine lv_aload_n hx hb dX6_loses_12 rfl (lv_at hl 0 rfl) ?_
    refine lv_iload_n hx hb dX6_loses_13 rfl (lv_at hl 1 rfl) ?_
    refine lv_iload_n hx hb dX6_loses_14 rfl (lv_at hl 2 rfl) ?_
    refine rs_ldc2 (v := (2147483629 : Int64)) C wd_739 dX6_loses_15 ?_
    obtain ⟨⟨v5, M4⟩, h1, h⟩ := rs_bind h
    dsimp only at h
    refine rs_goI (rs_runV (b := 0) (As := [.int a1, .int a2, .long (2147483629 : Int64)]) (rest := []) C hP hS (kX6_meet l D ad cI cJ tP tR N M1 a1 a2 (2147483629 : Int64) _ h1) mk_X6_meet wd_717 (yR_0) rfl ⟨rfl, rfl, Nat.le_of_ble_eq_true rfl, Nat.le_of_ble_eq_true rfl⟩ rfl hl.1 (Nat.le_of_ble_eq_true rfl) dX6_loses_18) hS (fun H locs hP hS => ?_)
    refine lv_if_eq (tgt := 40) hx hb dX6_loses_21 (by decide) (fun cd => ?_) (fun cd => ?_)
    · have h := (if_pos cd).symm.trans h
      refine lv_iconst (v := (0 : Int32)) hx hb dX6_loses_40 (by decide) ?_
      obtain ⟨rfl, hz⟩ := rs_okZM h
      exact hret H locs _ ls hz hP hS dX6_loses_41
    · have h := (if_neg cd).symm.trans h
      refine lv_aload_n hx hb dX6_loses_24 rfl (lv_at hl 0 rfl) ?_
      refine lv_iload_n hx hb dX6_loses_25 rfl (lv_at hl 1 rfl) ?_
      refine lv_iload_n hx hb dX6_loses_26 rfl (lv_at hl 2 rfl) ?_
      refine rs_ldc2 (v := (2147483587 : Int64)) C wd_740 dX6_loses_27 ?_
      obtain ⟨⟨v8, M7⟩, h1, h⟩ := rs_bind h
      dsimp only at h
      refine rs_goI (rs_runV (b := 0) (As := [.int a1, .int a2, .long (2147483587 : Int64)]) (rest := []) C hP hS (kX6_meet l D ad cI cJ tP tR N M4 a1 a2 (2147483587 : Int64) _ h1) mk_X6_meet wd_717 (yR_0) rfl ⟨rfl, rfl, Nat.le_of_ble_eq_true rfl, Nat.le_of_ble_eq_true rfl⟩ rfl hl.1 (Nat.le_of_ble_eq_true rfl) dX6_loses_30) hS (fun H locs hP hS => ?_)
      refine lv_if_eq (tgt := 40) hx hb dX6_loses_33 (by decide) (fun cd => ?_) (fun cd => ?_)
      · have h := (if_pos cd).symm.trans h
        refine lv_iconst (v := (0 : Int32)) hx hb dX6_loses_40 (by decide) ?_
        obtain ⟨rfl, hz⟩ := rs_okZM h
        exact hret H locs _ ls hz hP hS dX6_loses_41
      · have h := (if_neg cd).symm.trans h
        refine lv_iconst (v := (1 : Int32)) hx hb dX6_loses_36 (by decide) ?_
        refine lv_goto (tgt := 41) hx hb dX6_loses_37 (by decide) ?_
        obtain ⟨rfl, hz⟩ := rs_okZM h
        exact hret H locs _ ls hz hP hS dX6_loses_41
abbrev rX6_lose : Room := { frames := 5, cells := 0, slots := 0, locals := 130 }
theorem dX6_lose_0 : decode cX6_lose 0 = .ok (.iload_n 1, 1) := by decide +kernel
theorem dX6_lose_1 : decode cX6_lose 1 = .ok (.iload_n 2, 1) := by decide +kernel
theorem dX6_lose_2 : decode cX6_lose 2 = .ok (.invokestatic 149, 3) := by decide +kernel
theorem dX6_lose_5 : decode cX6_lose 5 = .ok (.ifCond .ne 6, 3) := by decide +kernel
theorem dX6_lose_8 : decode cX6_lose 8 = .ok (.bipush (-2), 2) := by decide +kernel
theorem dX6_lose_10 : decode cX6_lose 10 = .ok (.ireturn, 1) := by decide +kernel
theorem dX6_lose_11 : decode cX6_lose 11 = .ok (.aload_n 0, 1) := by decide +kernel
theorem dX6_lose_12 : decode cX6_lose 12 = .ok (.iconst 2, 1) := by decide +kernel
theorem dX6_lose_13 : decode cX6_lose 13 = .ok (.invokevirtual 95, 3) := by decide +kernel
theorem dX6_lose_16 : decode cX6_lose 16 = .ok (.ifCond .ne 8, 3) := by decide +kernel
theorem dX6_lose_19 : decode cX6_lose 19 = .ok (.bipush (-3), 2) := by decide +kernel
theorem dX6_lose_21 : decode cX6_lose 21 = .ok (.goto 17, 3) := by decide +kernel
theorem dX6_lose_24 : decode cX6_lose 24 = .ok (.aload_n 0, 1) := by decide +kernel
theorem dX6_lose_25 : decode cX6_lose 25 = .ok (.iload_n 1, 1) := by decide +kernel
theorem dX6_lose_26 : decode cX6_lose 26 = .ok (.iload_n 2, 1) := by decide +kernel
theorem dX6_lose_27 : decode cX6_lose 27 = .ok (.invokevirtual 184, 3) := by decide +kernel
theorem dX6_lose_30 : decode cX6_lose 30 = .ok (.ifCond .eq 7, 3) := by decide +kernel
theorem dX6_lose_33 : decode cX6_lose 33 = .ok (.iconst 1, 1) := by decide +kernel
theorem dX6_lose_34 : decode cX6_lose 34 = .ok (.goto 4, 3) := by decide +kernel
theorem dX6_lose_37 : decode cX6_lose 37 = .ok (.iconst 0, 1) := by decide +kernel
theorem dX6_lose_38 : decode cX6_lose 38 = .ok (.ireturn, 1) := by decide +kernel
set_option maxRecDepth 100000 in
set_option maxHeartbeats 4000000 in
theorem kX6_lose (l : Launch) (D : va_G) (ad : Nat → Nat) (cI cJ : ClassId) (tP tR : Nat) (N : Nat) (M : Mem) (a1 : Int32) (a2 : Int32)  (o : (Int32 × Mem)) (h : fX6_lose N M a1 a2 = some o) : qMet l D cI cJ tP tR (yA ad) (yW ad cI cJ) yX6_lose cX6_lose 3 (some .int) rX6_lose [.ref (ad 0), .int a1, .int a2] M (qQi D (yA ad) (yW ad cI cJ) o.1 o.2) := by
  refine rs_enterI (own := RX6) ⟨by decide +kernel, rfl, Nat.le_of_ble_eq_true rfl⟩ ?_
  intro p e s m args below meth c Q C hret H locs ls hP hS hl
  obtain ⟨hx, hb, -⟩ := id C
  have hl : lv_has ls 3 [(0, .ref (ad 0)), (1, .int a1), (2, .int a2)] := hl
  unfold fX6_lose at h
  refine lv_iload_n hx hb dX6_lose_0 rfl (lv_at hl 1 rfl) ?_
  refine lv_iload_n hx hb dX6_lose_1 rfl (lv_at hl 2 rfl) ?_
  obtain ⟨v1, h1, h⟩ := rs_bind h
  refine rs_goI (rs_runS (As := [.int a1, .int a2]) (rest := []) C hP hS (kX6_isWay l D ad cI cJ tP tR M a1 a2 _ h1) mk_X6_isWay wd_700 rfl ⟨rfl, rfl, Nat.le_of_ble_eq_true rfl, Nat.le_of_ble_eq_true rfl⟩ rfl hl.1 (Nat.le_of_ble_eq_true rfl) dX6_lose_2) hS (fun H locs hP hS => ?_)
  refine lv_if_ne (tgt := 11) hx hb dX6_lose_5 (by decide) (fun cd => ?_) (fun cd => ?_)
  · have h := (if_neg cd).symm.trans h
    refine lv_aload_n hx hb dX6_lose_11 rfl (lv_at hl 0 rfl) ?_
    refine lv_iconst (v := (2 : Int32)) hx hb dX6_lose_12 (by decide) ?_
    obtain ⟨v2, h1, h⟩ := rs_bind h
    refine rs_goI (rs_runV (b := 0) (As := [.int (2 : Int32)]) (rest := []) C hP hS (kX6_isThere l D ad cI cJ tP tR M (2 : Int32) _ h1) mk_X6_isThere wd_621 (yR_0) rfl ⟨rfl, rfl, Nat.le_of_ble_eq_true rfl, Nat.le_of_ble_eq_true rfl⟩ rfl hl.1 (Nat.le_of_ble_eq_true rfl) dX6_lose_13) hS (fun H locs hP hS => ?_)
    refine lv_if_ne (tgt := 24) hx hb dX6_lose_16 (by decide) (fun cd => ?_) (fun cd => ?_)
    · have h := (if_neg cd).symm.trans h
      refine lv_aload_n hx hb dX6_lose_24 rfl (lv_at hl 0 rfl) ?_
      refine lv_iload_n hx hb dX6_lose_25 rfl (lv_at hl 1 rfl) ?_
      refine lv_iload_n hx hb dX6_lose_26 rfl (lv_at hl 2 rfl) ?_
      obtain ⟨⟨v4, M3⟩, h1, h⟩ := rs_bind h
      dsimp only at h
      refine rs_goI (rs_runV (b := 0) (As := [.int a1, .int a2]) (rest := []) C hP hS (kX6_loses l D ad cI cJ tP tR N M a1 a2 _ h1) mk_X6_loses wd_712 (yR_0) rfl ⟨rfl, rfl, Nat.le_of_ble_eq_true rfl, Nat.le_of_ble_eq_true rfl⟩ rfl hl.1 (Nat.le_of_ble_eq_true rfl) dX6_lose_27) hS (fun H locs hP hS => ?_)
      refine lv_if_eq (tgt := 37) hx hb dX6_lose_30 (by decide) (fun cd => ?_) (fun cd => ?_)
      · have h := (if_pos cd).symm.trans h
        refine lv_iconst (v := (0 : Int32)) hx hb dX6_lose_37 (by decide) ?_
        cases h
        exact hret H locs _ ls hP hS dX6_lose_38
      · have h := (if_neg cd).symm.trans h
        refine lv_iconst (v := (1 : Int32)) hx hb dX6_lose_33 (by decide) ?_
        refine lv_goto (tgt := 38) hx hb dX6_lose_34 (by decide) ?_
        cases h
        exact hret H locs _ ls hP hS dX6_lose_38
    · have h := (if_pos cd).symm.trans h
      refine lv_bipush (v := (-3 : Int32)) hx hb dX6_lose_19 (by decide) ?_
      refine lv_goto (tgt := 38) hx hb dX6_lose_21 (by decide) ?_
      cases h
      exact hret H locs _ ls hP hS dX6_lose_38
  · have h := (if_pos cd).symm.trans h
    refine lv_bipush (v := (-2 : Int32)) hx hb dX6_lose_8 (by decide) ?_
    cases h
    exact hret H locs _ ls hP hS dX6_lose_10
abbrev rX6_keep : Room := { frames := 5, cells := 0, slots := 0, locals := 130 }
theorem dX6_keep_0 : decode cX6_keep 0 = .ok (.aload_n 0, 1) := by decide +kernel
theorem dX6_keep_1 : decode cX6_keep 1 = .ok (.iconst 2, 1) := by decide +kernel
theorem dX6_keep_2 : decode cX6_keep 2 = .ok (.invokevirtual 95, 3) := by decide +kernel
theorem dX6_keep_5 : decode cX6_keep 5 = .ok (.ifCond .ne 6, 3) := by decide +kernel
theorem dX6_keep_8 : decode cX6_keep 8 = .ok (.bipush (-3), 2) := by decide +kernel
theorem dX6_keep_10 : decode cX6_keep 10 = .ok (.ireturn, 1) := by decide +kernel
theorem dX6_keep_11 : decode cX6_keep 11 = .ok (.aload_n 0, 1) := by decide +kernel
theorem dX6_keep_12 : decode cX6_keep 12 = .ok (.iconst 2, 1) := by decide +kernel
theorem dX6_keep_13 : decode cX6_keep 13 = .ok (.invokevirtual 84, 3) := by decide +kernel
theorem dX6_keep_16 : decode cX6_keep 16 = .ok (.aload_n 0, 1) := by decide +kernel
theorem dX6_keep_17 : decode cX6_keep 17 = .ok (.getfield 74, 3) := by decide +kernel
theorem dX6_keep_20 : decode cX6_keep 20 = .ok (.iconst 3, 1) := by decide +kernel
theorem dX6_keep_21 : decode cX6_keep 21 = .ok (.if_icmp .ge 6, 3) := by decide +kernel
theorem dX6_keep_24 : decode cX6_keep 24 = .ok (.bipush (-5), 2) := by decide +kernel
theorem dX6_keep_26 : decode cX6_keep 26 = .ok (.ireturn, 1) := by decide +kernel
theorem dX6_keep_27 : decode cX6_keep 27 = .ok (.iconst 0, 1) := by decide +kernel
theorem dX6_keep_28 : decode cX6_keep 28 = .ok (.istore_n 1, 1) := by decide +kernel
theorem dX6_keep_29 : decode cX6_keep 29 = .ok (.iload_n 1, 1) := by decide +kernel
theorem dX6_keep_30 : decode cX6_keep 30 = .ok (.aload_n 0, 1) := by decide +kernel
theorem dX6_keep_31 : decode cX6_keep 31 = .ok (.getfield 74, 3) := by decide +kernel
theorem dX6_keep_34 : decode cX6_keep 34 = .ok (.if_icmp .ge 53, 3) := by decide +kernel
theorem dX6_keep_37 : decode cX6_keep 37 = .ok (.iload_n 1, 1) := by decide +kernel
theorem dX6_keep_38 : decode cX6_keep 38 = .ok (.iconst 1, 1) := by decide +kernel
theorem dX6_keep_39 : decode cX6_keep 39 = .ok (.iadd, 1) := by decide +kernel
theorem dX6_keep_40 : decode cX6_keep 40 = .ok (.aload_n 0, 1) := by decide +kernel
theorem dX6_keep_41 : decode cX6_keep 41 = .ok (.getfield 74, 3) := by decide +kernel
theorem dX6_keep_44 : decode cX6_keep 44 = .ok (.irem, 1) := by decide +kernel
theorem dX6_keep_45 : decode cX6_keep 45 = .ok (.istore_n 2, 1) := by decide +kernel
theorem dX6_keep_46 : decode cX6_keep 46 = .ok (.aload_n 0, 1) := by decide +kernel
theorem dX6_keep_47 : decode cX6_keep 47 = .ok (.aload_n 0, 1) := by decide +kernel
theorem dX6_keep_48 : decode cX6_keep 48 = .ok (.getfield 34, 3) := by decide +kernel
theorem dX6_keep_51 : decode cX6_keep 51 = .ok (.iload_n 1, 1) := by decide +kernel
theorem dX6_keep_52 : decode cX6_keep 52 = .ok (.iaload, 1) := by decide +kernel
theorem dX6_keep_53 : decode cX6_keep 53 = .ok (.aload_n 0, 1) := by decide +kernel
theorem dX6_keep_54 : decode cX6_keep 54 = .ok (.getfield 34, 3) := by decide +kernel
theorem dX6_keep_57 : decode cX6_keep 57 = .ok (.iload_n 2, 1) := by decide +kernel
theorem dX6_keep_58 : decode cX6_keep 58 = .ok (.iaload, 1) := by decide +kernel
theorem dX6_keep_59 : decode cX6_keep 59 = .ok (.isub, 1) := by decide +kernel
theorem dX6_keep_60 : decode cX6_keep 60 = .ok (.aload_n 0, 1) := by decide +kernel
theorem dX6_keep_61 : decode cX6_keep 61 = .ok (.getfield 31, 3) := by decide +kernel
theorem dX6_keep_64 : decode cX6_keep 64 = .ok (.iload_n 2, 1) := by decide +kernel
theorem dX6_keep_65 : decode cX6_keep 65 = .ok (.iaload, 1) := by decide +kernel
theorem dX6_keep_66 : decode cX6_keep 66 = .ok (.aload_n 0, 1) := by decide +kernel
theorem dX6_keep_67 : decode cX6_keep 67 = .ok (.getfield 31, 3) := by decide +kernel
theorem dX6_keep_70 : decode cX6_keep 70 = .ok (.iload_n 1, 1) := by decide +kernel
theorem dX6_keep_71 : decode cX6_keep 71 = .ok (.iaload, 1) := by decide +kernel
theorem dX6_keep_72 : decode cX6_keep 72 = .ok (.isub, 1) := by decide +kernel
theorem dX6_keep_73 : decode cX6_keep 73 = .ok (.invokevirtual 184, 3) := by decide +kernel
theorem dX6_keep_76 : decode cX6_keep 76 = .ok (.ifCond .eq 5, 3) := by decide +kernel
theorem dX6_keep_79 : decode cX6_keep 79 = .ok (.iconst 0, 1) := by decide +kernel
theorem dX6_keep_80 : decode cX6_keep 80 = .ok (.ireturn, 1) := by decide +kernel
theorem dX6_keep_81 : decode cX6_keep 81 = .ok (.iinc 1 1, 3) := by decide +kernel
theorem dX6_keep_84 : decode cX6_keep 84 = .ok (.goto (-55), 3) := by decide +kernel
theorem dX6_keep_87 : decode cX6_keep 87 = .ok (.iconst 1, 1) := by decide +kernel
theorem dX6_keep_88 : decode cX6_keep 88 = .ok (.ireturn, 1) := by decide +kernel
set_option maxRecDepth 100000 in
set_option maxHeartbeats 4000000 in
theorem kX6_keep (l : Launch) (D : va_G) (ad : Nat → Nat) (cI cJ : ClassId) (tP tR : Nat) (N : Nat) (M : Mem)   (o : (Int32 × Mem)) (h : fX6_keep N M  = some o) : qMet l D cI cJ tP tR (yA ad) (yW ad cI cJ) yX6_keep cX6_keep 3 (some .int) rX6_keep [.ref (ad 0)] M (qQi D (yA ad) (yW ad cI cJ) o.1 o.2) := by
  refine rs_enterI (own := RX6) ⟨by decide +kernel, rfl, Nat.le_of_ble_eq_true rfl⟩ ?_
  intro p e s m args below meth c Q C hret H locs ls hP hS hl
  obtain ⟨hx, hb, -⟩ := id C
  have hl : lv_has ls 3 [(0, .ref (ad 0))] := hl
  unfold fX6_keep at h
  refine lv_aload_n hx hb dX6_keep_0 rfl (lv_at hl 0 rfl) ?_
  refine lv_iconst (v := (2 : Int32)) hx hb dX6_keep_1 (by decide) ?_
  obtain ⟨v1, h1, h⟩ := rs_bind h
  refine rs_goI (rs_runV (b := 0) (As := [.int (2 : Int32)]) (rest := []) C hP hS (kX6_isThere l D ad cI cJ tP tR M (2 : Int32) _ h1) mk_X6_isThere wd_621 (yR_0) rfl ⟨rfl, rfl, Nat.le_of_ble_eq_true rfl, Nat.le_of_ble_eq_true rfl⟩ rfl hl.1 (Nat.le_of_ble_eq_true rfl) dX6_keep_2) hS (fun H locs hP hS => ?_)
  refine lv_if_ne (tgt := 11) hx hb dX6_keep_5 (by decide) (fun cd => ?_) (fun cd => ?_)
  · have h := (if_neg cd).symm.trans h
    refine lv_aload_n hx hb dX6_keep_11 rfl (lv_at hl 0 rfl) ?_
    refine lv_iconst (v := (2 : Int32)) hx hb dX6_keep_12 (by decide) ?_
    obtain ⟨M2, h1, h⟩ := rs_bind h
    refine rs_goV (rs_runV (b := 0) (As := [.int (2 : Int32)]) (rest := []) C hP hS (kX6_goRound l D ad cI cJ tP tR N M (2 : Int32) _ h1) mk_X6_goRound wd_629 (yR_0) rfl ⟨rfl, rfl, Nat.le_of_ble_eq_true rfl, Nat.le_of_ble_eq_true rfl⟩ rfl hl.1 (Nat.le_of_ble_eq_true rfl) dX6_keep_13) hS (fun H locs hP hS => ?_)
    refine lv_aload_n hx hb dX6_keep_16 rfl (lv_at hl 0 rfl) ?_
    refine gfX6_74 C hP dX6_keep_17 ?_
    refine lv_iconst (v := (3 : Int32)) hx hb dX6_keep_20 (by decide) ?_
    refine lv_icmp_ge (tgt := 27) hx hb dX6_keep_21 (by decide) (fun cd => ?_) (fun cd => ?_)
    · have h := (if_pos cd).symm.trans h
      refine lv_iconst (v := (0 : Int32)) hx hb dX6_keep_27 (by decide) ?_
      refine lv_istore_n (lv' := [(1, .int (0 : Int32)), (0, .ref (ad 0))]) hx hb dX6_keep_28 rfl hl (by decide) rfl (fun ls hl => ?_)
      have hL29 : ∀ (n29 : Nat) (v3 : Int32) (M4 : Mem) (H : Heap) (locs : List Loc) (ls : Array Slot), va_P D vwCl (yW ad cI cJ M4) H → va_S (yA ad) s.heap H locs → lv_has ls 3 [(0, .ref (ad 0)), (1, .int v3)] → lp (fun _ _ => none) (sX6_keep_29 N) n29 v3 M4 = some o → W p l e rX6_keep s m args below meth c H locs 0 0 Q (F0 m 29 ls []) := by
        intro n29
        induction n29 with
        | zero => intro v3 M4 H locs ls hP hS hl h; have h : (none : Option (Int32 × Mem)) = some o := h; cases h
        | succ n29 ih29 =>
          intro v3 M4 H locs ls hP hS hl h
          have h : sX6_keep_29 N (lp (fun _ _ => none) (sX6_keep_29 N) n29) v3 M4 = some o := h
          generalize lp (fun _ _ => none) (sX6_keep_29 N) n29 = cont29 at h ih29
          unfold sX6_keep_29 at h
          refine lv_iload_n hx hb dX6_keep_29 rfl (lv_at hl 1 rfl) ?_
          refine lv_aload_n hx hb dX6_keep_30 rfl (lv_at hl 0 rfl) ?_
          refine gfX6_74 C hP dX6_keep_31 ?_
          refine lv_icmp_ge (tgt := 87) hx hb dX6_keep_34 (by decide) (fun cd => ?_) (fun cd => ?_)
          · have h := (if_pos cd).symm.trans h
            refine lv_iconst (v := (1 : Int32)) hx hb dX6_keep_87 (by decide) ?_
            cases h
            exact hret H locs _ ls hP hS dX6_keep_88
          · have h := (if_neg cd).symm.trans h
            refine lv_iload_n hx hb dX6_keep_37 rfl (lv_at hl 1 rfl) ?_
            refine lv_iconst (v := (1 : Int32)) hx hb dX6_keep_38 (by decide) ?_
            refine lv_iadd hx hb dX6_keep_39 ?_
            refine lv_aload_n hx hb dX6_keep_40 rfl (lv_at hl 0 rfl) ?_
            refine gfX6_74 C hP dX6_keep_41 ?_
            refine rs_irem C dX6_keep_44 h (fun v5 h => ?_)
            refine lv_istore_n (lv' := [(2, .int v5), (0, .ref (ad 0)), (1, .int v3)]) hx hb dX6_keep_45 rfl hl (by decide) rfl (fun ls hl => ?_)
            refine lv_aload_n hx hb dX6_keep_46 rfl (lv_at hl 1 rfl) ?_
            refine lv_aload_n hx hb dX6_keep_47 rfl (lv_at hl 1 rfl) ?_
            refine gfX6_34 C hP dX6_keep_48 ?_
            refine lv_iload_n hx hb dX6_keep_51 rfl (lv_at hl 2 rfl) ?_
            refine rs_iald C hP yIA_9 dX6_keep_52 h (fun v6 h => ?_)
            refine lv_aload_n hx hb dX6_keep_53 rfl (lv_at hl 1 rfl) ?_
            refine gfX6_34 C hP dX6_keep_54 ?_
            refine lv_iload_n hx hb dX6_keep_57 rfl (lv_at hl 0 rfl) ?_
            refine rs_iald C hP yIA_9 dX6_keep_58 h (fun v7 h => ?_)
            refine lv_isub hx hb dX6_keep_59 ?_
            refine lv_aload_n hx hb dX6_keep_60 rfl (lv_at hl 1 rfl) ?_
            refine gfX6_31 C hP dX6_keep_61 ?_
            refine lv_iload_n hx hb dX6_keep_64 rfl (lv_at hl 0 rfl) ?_
            refine rs_iald C hP yIA_8 dX6_keep_65 h (fun v8 h => ?_)
            refine lv_aload_n hx hb dX6_keep_66 rfl (lv_at hl 1 rfl) ?_
            refine gfX6_31 C hP dX6_keep_67 ?_
            refine lv_iload_n hx hb dX6_keep_70 rfl (lv_at hl 2 rfl) ?_
            refine rs_iald C hP yIA_8 dX6_keep_71 h (fun v9 h => ?_)
            refine lv_isub hx hb dX6_keep_72 ?_
            obtain ⟨⟨v11, M10⟩, h1, h⟩ := rs_bind h
            dsimp only at h
            refine rs_goI (rs_runV (b := 0) (As := [.int (v6 - v7), .int (v8 - v9)]) (rest := []) C hP hS (kX6_loses l D ad cI cJ tP tR N M4 (v6 - v7) (v8 - v9) _ h1) mk_X6_loses wd_712 (yR_0) rfl ⟨rfl, rfl, Nat.le_of_ble_eq_true rfl, Nat.le_of_ble_eq_true rfl⟩ rfl hl.1 (Nat.le_of_ble_eq_true rfl) dX6_keep_73) hS (fun H locs hP hS => ?_)
            refine lv_if_eq (tgt := 81) hx hb dX6_keep_76 (by decide) (fun cd => ?_) (fun cd => ?_)
            · have h := (if_pos cd).symm.trans h
              refine lv_iinc (v := (v3 + 1)) (lv' := [(1, .int (v3 + 1)), (2, .int v5), (0, .ref (ad 0))]) hx hb dX6_keep_81 hl (k := 2) rfl rfl (by decide) rfl (fun ls hl => ?_)
              refine lv_goto (tgt := 29) hx hb dX6_keep_84 (by decide) ?_
              exact ih29 _ _ H locs ls hP hS (lv_sub hl [2, 0] rfl) h
            · have h := (if_neg cd).symm.trans h
              refine lv_iconst (v := (0 : Int32)) hx hb dX6_keep_79 (by decide) ?_
              cases h
              exact hret H locs _ ls hP hS dX6_keep_80
      exact hL29 N _ _ H locs ls hP hS (lv_sub hl [1, 0] rfl) h
    · have h := (if_neg cd).symm.trans h
      refine lv_bipush (v := (-5 : Int32)) hx hb dX6_keep_24 (by decide) ?_
      cases h
      exact hret H locs _ ls hP hS dX6_keep_26
  · have h := (if_pos cd).symm.trans h
    refine lv_bipush (v := (-3 : Int32)) hx hb dX6_keep_8 (by decide) ?_
    cases h
    exact hret H locs _ ls hP hS dX6_keep_10
abbrev rX6_areUnlike : Room := { frames := 0, cells := 0, slots := 0, locals := 0 }
theorem dX6_areUnlike_0 : decode cX6_areUnlike 0 = .ok (.iconst 0, 1) := by decide +kernel
theorem dX6_areUnlike_1 : decode cX6_areUnlike 1 = .ok (.istore_n 3, 1) := by decide +kernel
theorem dX6_areUnlike_2 : decode cX6_areUnlike 2 = .ok (.bipush 8, 2) := by decide +kernel
theorem dX6_areUnlike_4 : decode cX6_areUnlike 4 = .ok (.iload_n 1, 1) := by decide +kernel
theorem dX6_areUnlike_5 : decode cX6_areUnlike 5 = .ok (.imul, 1) := by decide +kernel
theorem dX6_areUnlike_6 : decode cX6_areUnlike 6 = .ok (.istore 4, 2) := by decide +kernel
theorem dX6_areUnlike_8 : decode cX6_areUnlike 8 = .ok (.iload 4, 2) := by decide +kernel
theorem dX6_areUnlike_10 : decode cX6_areUnlike 10 = .ok (.bipush 8, 2) := by decide +kernel
theorem dX6_areUnlike_12 : decode cX6_areUnlike 12 = .ok (.iload_n 1, 1) := by decide +kernel
theorem dX6_areUnlike_13 : decode cX6_areUnlike 13 = .ok (.imul, 1) := by decide +kernel
theorem dX6_areUnlike_14 : decode cX6_areUnlike 14 = .ok (.iconst 2, 1) := by decide +kernel
theorem dX6_areUnlike_15 : decode cX6_areUnlike 15 = .ok (.iadd, 1) := by decide +kernel
theorem dX6_areUnlike_16 : decode cX6_areUnlike 16 = .ok (.if_icmp .ge 57, 3) := by decide +kernel
theorem dX6_areUnlike_19 : decode cX6_areUnlike 19 = .ok (.iload_n 2, 1) := by decide +kernel
theorem dX6_areUnlike_20 : decode cX6_areUnlike 20 = .ok (.iconst 1, 1) := by decide +kernel
theorem dX6_areUnlike_21 : decode cX6_areUnlike 21 = .ok (.iand, 1) := by decide +kernel
theorem dX6_areUnlike_22 : decode cX6_areUnlike 22 = .ok (.aload_n 0, 1) := by decide +kernel
theorem dX6_areUnlike_23 : decode cX6_areUnlike 23 = .ok (.getfield 7, 3) := by decide +kernel
theorem dX6_areUnlike_26 : decode cX6_areUnlike 26 = .ok (.iload 4, 2) := by decide +kernel
theorem dX6_areUnlike_28 : decode cX6_areUnlike 28 = .ok (.iaload, 1) := by decide +kernel
theorem dX6_areUnlike_29 : decode cX6_areUnlike 29 = .ok (.imul, 1) := by decide +kernel
theorem dX6_areUnlike_30 : decode cX6_areUnlike 30 = .ok (.iload_n 2, 1) := by decide +kernel
theorem dX6_areUnlike_31 : decode cX6_areUnlike 31 = .ok (.iconst 1, 1) := by decide +kernel
theorem dX6_areUnlike_32 : decode cX6_areUnlike 32 = .ok (.ishr, 1) := by decide +kernel
theorem dX6_areUnlike_33 : decode cX6_areUnlike 33 = .ok (.aload_n 0, 1) := by decide +kernel
theorem dX6_areUnlike_34 : decode cX6_areUnlike 34 = .ok (.getfield 13, 3) := by decide +kernel
theorem dX6_areUnlike_37 : decode cX6_areUnlike 37 = .ok (.iload 4, 2) := by decide +kernel
theorem dX6_areUnlike_39 : decode cX6_areUnlike 39 = .ok (.iaload, 1) := by decide +kernel
theorem dX6_areUnlike_40 : decode cX6_areUnlike 40 = .ok (.imul, 1) := by decide +kernel
theorem dX6_areUnlike_41 : decode cX6_areUnlike 41 = .ok (.iadd, 1) := by decide +kernel
theorem dX6_areUnlike_42 : decode cX6_areUnlike 42 = .ok (.aload_n 0, 1) := by decide +kernel
theorem dX6_areUnlike_43 : decode cX6_areUnlike 43 = .ok (.getfield 16, 3) := by decide +kernel
theorem dX6_areUnlike_46 : decode cX6_areUnlike 46 = .ok (.iload 4, 2) := by decide +kernel
theorem dX6_areUnlike_48 : decode cX6_areUnlike 48 = .ok (.iaload, 1) := by decide +kernel
theorem dX6_areUnlike_49 : decode cX6_areUnlike 49 = .ok (.ifCond .ge 7, 3) := by decide +kernel
theorem dX6_areUnlike_52 : decode cX6_areUnlike 52 = .ok (.iconst 1, 1) := by decide +kernel
theorem dX6_areUnlike_53 : decode cX6_areUnlike 53 = .ok (.goto 4, 3) := by decide +kernel
theorem dX6_areUnlike_56 : decode cX6_areUnlike 56 = .ok (.iconst 0, 1) := by decide +kernel
theorem dX6_areUnlike_57 : decode cX6_areUnlike 57 = .ok (.iadd, 1) := by decide +kernel
theorem dX6_areUnlike_58 : decode cX6_areUnlike 58 = .ok (.istore 5, 2) := by decide +kernel
theorem dX6_areUnlike_60 : decode cX6_areUnlike 60 = .ok (.iload_n 3, 1) := by decide +kernel
theorem dX6_areUnlike_61 : decode cX6_areUnlike 61 = .ok (.iload 5, 2) := by decide +kernel
theorem dX6_areUnlike_63 : decode cX6_areUnlike 63 = .ok (.iconst 2, 1) := by decide +kernel
theorem dX6_areUnlike_64 : decode cX6_areUnlike 64 = .ok (.irem, 1) := by decide +kernel
theorem dX6_areUnlike_65 : decode cX6_areUnlike 65 = .ok (.iadd, 1) := by decide +kernel
theorem dX6_areUnlike_66 : decode cX6_areUnlike 66 = .ok (.istore_n 3, 1) := by decide +kernel
theorem dX6_areUnlike_67 : decode cX6_areUnlike 67 = .ok (.iinc 4 1, 3) := by decide +kernel
theorem dX6_areUnlike_70 : decode cX6_areUnlike 70 = .ok (.goto (-62), 3) := by decide +kernel
theorem dX6_areUnlike_73 : decode cX6_areUnlike 73 = .ok (.iload_n 3, 1) := by decide +kernel
theorem dX6_areUnlike_74 : decode cX6_areUnlike 74 = .ok (.iconst 1, 1) := by decide +kernel
theorem dX6_areUnlike_75 : decode cX6_areUnlike 75 = .ok (.if_icmp .ne 7, 3) := by decide +kernel
theorem dX6_areUnlike_78 : decode cX6_areUnlike 78 = .ok (.iconst 1, 1) := by decide +kernel
theorem dX6_areUnlike_79 : decode cX6_areUnlike 79 = .ok (.goto 4, 3) := by decide +kernel
theorem dX6_areUnlike_82 : decode cX6_areUnlike 82 = .ok (.iconst 0, 1) := by decide +kernel
theorem dX6_areUnlike_83 : decode cX6_areUnlike 83 = .ok (.ireturn, 1) := by decide +kernel
set_option maxRecDepth 100000 in
set_option maxHeartbeats 4000000 in
theorem kX6_areUnlike (l : Launch) (D : va_G) (ad : Nat → Nat) (cI cJ : ClassId) (tP tR : Nat) (N : Nat) (M : Mem) (a1 : Int32) (a2 : Int32)  (o : Int32) (h : fX6_areUnlike N M a1 a2 = some o) : qMet l D cI cJ tP tR (yA ad) (yW ad cI cJ) yX6_areUnlike cX6_areUnlike 6 (some .boolean) rX6_areUnlike [.ref (ad 0), .int a1, .int a2] M (qQi D (yA ad) (yW ad cI cJ) o M) := by
  refine rs_enterZ (own := RX6) ⟨by decide +kernel, rfl, Nat.le_of_ble_eq_true rfl⟩ ?_
  intro p e s m args below meth c Q C hret H locs ls hP hS hl
  obtain ⟨hx, hb, -⟩ := id C
  have hl : lv_has ls 6 [(0, .ref (ad 0)), (1, .int a1), (2, .int a2)] := hl
  unfold fX6_areUnlike at h
  refine lv_iconst (v := (0 : Int32)) hx hb dX6_areUnlike_0 (by decide) ?_
  refine lv_istore_n (lv' := [(3, .int (0 : Int32)), (0, .ref (ad 0)), (1, .int a1), (2, .int a2)]) hx hb dX6_areUnlike_1 rfl hl (by decide) rfl (fun ls hl => ?_)
  refine lv_bipush (v := (8 : Int32)) hx hb dX6_areUnlike_2 (by decide) ?_
  refine lv_iload_n hx hb dX6_areUnlike_4 rfl (lv_at hl 2 rfl) ?_
  refine lv_imul hx hb dX6_areUnlike_5 ?_
  refine lv_istore (lv' := [(4, .int ((8 : Int32) * a1)), (3, .int (0 : Int32)), (0, .ref (ad 0)), (1, .int a1), (2, .int a2)]) hx hb dX6_areUnlike_6 hl (by decide) rfl (fun ls hl => ?_)
  obtain ⟨v1, h1, h⟩ := rs_bind h
  have hJ2 : ∀ (H : Heap) (locs : List Loc) (ls : Array Slot), va_P D vwCl (yW ad cI cJ M) H → va_S (yA ad) s.heap H locs → lv_has ls 6 [(3, .int v1)] → W p l e rX6_areUnlike s m args below meth c H locs 0 0 Q (F0 m 73 ls []) := by
    intro H locs ls hP hS hl
    refine lv_iload_n hx hb dX6_areUnlike_73 rfl (lv_at hl 0 rfl) ?_
    refine lv_iconst (v := (1 : Int32)) hx hb dX6_areUnlike_74 (by decide) ?_
    refine lv_icmp_ne (tgt := 82) hx hb dX6_areUnlike_75 (by decide) (fun cd => ?_) (fun cd => ?_)
    · have h := (if_neg cd).symm.trans h
      refine lv_iconst (v := (0 : Int32)) hx hb dX6_areUnlike_82 (by decide) ?_
      obtain ⟨rfl, hz⟩ := rs_okZ h
      exact hret H locs _ ls hz hP hS dX6_areUnlike_83
    · have h := (if_pos cd).symm.trans h
      refine lv_iconst (v := (1 : Int32)) hx hb dX6_areUnlike_78 (by decide) ?_
      refine lv_goto (tgt := 83) hx hb dX6_areUnlike_79 (by decide) ?_
      obtain ⟨rfl, hz⟩ := rs_okZ h
      exact hret H locs _ ls hz hP hS dX6_areUnlike_83
  replace h := h1
  clear h1
  have hL8 : ∀ (n8 : Nat) (v3 : Int32) (v4 : Int32) (H : Heap) (locs : List Loc) (ls : Array Slot), va_P D vwCl (yW ad cI cJ M) H → va_S (yA ad) s.heap H locs → lv_has ls 6 [(0, .ref (ad 0)), (1, .int a1), (2, .int a2), (3, .int v3), (4, .int v4)] → lp (fun _ _ => none) (sX6_areUnlike_8 a1 M a2) n8 v3 v4 = some v1 → W p l e rX6_areUnlike s m args below meth c H locs 0 0 Q (F0 m 8 ls []) := by
    intro n8
    induction n8 with
    | zero => intro v3 v4 H locs ls hP hS hl h; have h : (none : Option Int32) = some v1 := h; cases h
    | succ n8 ih8 =>
      intro v3 v4 H locs ls hP hS hl h
      have h : sX6_areUnlike_8 a1 M a2 (lp (fun _ _ => none) (sX6_areUnlike_8 a1 M a2) n8) v3 v4 = some v1 := h
      generalize lp (fun _ _ => none) (sX6_areUnlike_8 a1 M a2) n8 = cont8 at h ih8
      unfold sX6_areUnlike_8 at h
      refine lv_iload hx hb dX6_areUnlike_8 (lv_at hl 4 rfl) ?_
      refine lv_bipush (v := (8 : Int32)) hx hb dX6_areUnlike_10 (by decide) ?_
      refine lv_iload_n hx hb dX6_areUnlike_12 rfl (lv_at hl 1 rfl) ?_
      refine lv_imul hx hb dX6_areUnlike_13 ?_
      refine lv_iconst (v := (2 : Int32)) hx hb dX6_areUnlike_14 (by decide) ?_
      refine lv_iadd hx hb dX6_areUnlike_15 ?_
      refine lv_icmp_ge (tgt := 73) hx hb dX6_areUnlike_16 (by decide) (fun cd => ?_) (fun cd => ?_)
      · have h := (if_pos cd).symm.trans h
        cases h
        exact hJ2 H locs ls hP hS (lv_sub hl [3] rfl)
      · have h := (if_neg cd).symm.trans h
        refine lv_iload_n hx hb dX6_areUnlike_19 rfl (lv_at hl 2 rfl) ?_
        refine lv_iconst (v := (1 : Int32)) hx hb dX6_areUnlike_20 (by decide) ?_
        refine lv_iand hx hb dX6_areUnlike_21 ?_
        refine lv_aload_n hx hb dX6_areUnlike_22 rfl (lv_at hl 0 rfl) ?_
        refine gfX6_7 C hP dX6_areUnlike_23 ?_
        refine lv_iload hx hb dX6_areUnlike_26 (lv_at hl 4 rfl) ?_
        refine rs_iald C hP yIA_1 dX6_areUnlike_28 h (fun v5 h => ?_)
        refine lv_imul hx hb dX6_areUnlike_29 ?_
        refine lv_iload_n hx hb dX6_areUnlike_30 rfl (lv_at hl 2 rfl) ?_
        refine lv_iconst (v := (1 : Int32)) hx hb dX6_areUnlike_31 (by decide) ?_
        refine lv_ishr hx hb dX6_areUnlike_32 ?_
        refine lv_aload_n hx hb dX6_areUnlike_33 rfl (lv_at hl 0 rfl) ?_
        refine gfX6_13 C hP dX6_areUnlike_34 ?_
        refine lv_iload hx hb dX6_areUnlike_37 (lv_at hl 4 rfl) ?_
        refine rs_iald C hP yIA_2 dX6_areUnlike_39 h (fun v6 h => ?_)
        refine lv_imul hx hb dX6_areUnlike_40 ?_
        refine lv_iadd hx hb dX6_areUnlike_41 ?_
        refine lv_aload_n hx hb dX6_areUnlike_42 rfl (lv_at hl 0 rfl) ?_
        refine gfX6_16 C hP dX6_areUnlike_43 ?_
        refine lv_iload hx hb dX6_areUnlike_46 (lv_at hl 4 rfl) ?_
        refine rs_iald C hP yIA_3 dX6_areUnlike_48 h (fun v7 h => ?_)
        obtain ⟨v8, h1, h⟩ := rs_bind h
        have hJ10 : ∀ (H : Heap) (locs : List Loc) (ls : Array Slot), va_P D vwCl (yW ad cI cJ M) H → va_S (yA ad) s.heap H locs → lv_has ls 6 [(0, .ref (ad 0)), (1, .int a1), (2, .int a2), (3, .int v3), (4, .int v4)] → W p l e rX6_areUnlike s m args below meth c H locs 0 0 Q (F0 m 57 ls [.int v8, .int (((a2 &&& (1 : Int32)) * v5) + ((a2 >>> ((1 : Int32) &&& 31)) * v6))]) := by
          intro H locs ls hP hS hl
          refine lv_iadd hx hb dX6_areUnlike_57 ?_
          refine lv_istore (lv' := [(5, .int ((((a2 &&& (1 : Int32)) * v5) + ((a2 >>> ((1 : Int32) &&& 31)) * v6)) + v8)), (0, .ref (ad 0)), (1, .int a1), (2, .int a2), (3, .int v3), (4, .int v4)]) hx hb dX6_areUnlike_58 hl (by decide) rfl (fun ls hl => ?_)
          refine lv_iload_n hx hb dX6_areUnlike_60 rfl (lv_at hl 4 rfl) ?_
          refine lv_iload hx hb dX6_areUnlike_61 (lv_at hl 0 rfl) ?_
          refine lv_iconst (v := (2 : Int32)) hx hb dX6_areUnlike_63 (by decide) ?_
          refine rs_irem C dX6_areUnlike_64 h (fun v9 h => ?_)
          refine lv_iadd hx hb dX6_areUnlike_65 ?_
          refine lv_istore_n (lv' := [(3, .int (v3 + v9)), (5, .int ((((a2 &&& (1 : Int32)) * v5) + ((a2 >>> ((1 : Int32) &&& 31)) * v6)) + v8)), (0, .ref (ad 0)), (1, .int a1), (2, .int a2), (4, .int v4)]) hx hb dX6_areUnlike_66 rfl hl (by decide) rfl (fun ls hl => ?_)
          refine lv_iinc (v := (v4 + 1)) (lv' := [(4, .int (v4 + 1)), (3, .int (v3 + v9)), (5, .int ((((a2 &&& (1 : Int32)) * v5) + ((a2 >>> ((1 : Int32) &&& 31)) * v6)) + v8)), (0, .ref (ad 0)), (1, .int a1), (2, .int a2)]) hx hb dX6_areUnlike_67 hl (k := 5) rfl rfl (by decide) rfl (fun ls hl => ?_)
          refine lv_goto (tgt := 8) hx hb dX6_areUnlike_70 (by decide) ?_
          exact ih8 _ _ H locs ls hP hS (lv_sub hl [3, 4, 5, 1, 0] rfl) h
        replace h := h1
        clear h1
        refine lv_if_ge (tgt := 56) hx hb dX6_areUnlike_49 (by decide) (fun cd => ?_) (fun cd => ?_)
        · have h := (if_pos cd).symm.trans h
          refine lv_iconst (v := (0 : Int32)) hx hb dX6_areUnlike_56 (by decide) ?_
          cases h
          exact hJ10 H locs ls hP hS (lv_sub hl [0, 1, 2, 3, 4] rfl)
        · have h := (if_neg cd).symm.trans h
          refine lv_iconst (v := (1 : Int32)) hx hb dX6_areUnlike_52 (by decide) ?_
          refine lv_goto (tgt := 57) hx hb dX6_areUnlike_53 (by decide) ?_
          cases h
          exact hJ10 H locs ls hP hS (lv_sub hl [0, 1, 2, 3, 4] rfl)
  exact hL8 N _ _ H locs ls hP hS (lv_sub hl [2, 3, 4, 1, 0] rfl) h
abbrev rX6_two : Room := { frames := 1, cells := 0, slots := 0, locals := 25 }
theorem dX6_two_0 : decode cX6_two 0 = .ok (.iload_n 1, 1) := by decide +kernel
theorem dX6_two_1 : decode cX6_two 1 = .ok (.i2l, 1) := by decide +kernel
theorem dX6_two_2 : decode cX6_two 2 = .ok (.lconst 0, 1) := by decide +kernel
theorem dX6_two_3 : decode cX6_two 3 = .ok (.lconst 1, 1) := by decide +kernel
theorem dX6_two_4 : decode cX6_two 4 = .ok (.invokestatic 48, 3) := by decide +kernel
theorem dX6_two_7 : decode cX6_two 7 = .ok (.ifCond .ne 7, 3) := by decide +kernel
theorem dX6_two_10 : decode cX6_two 10 = .ok (.sipush (-1002), 3) := by decide +kernel
theorem dX6_two_13 : decode cX6_two 13 = .ok (.ireturn, 1) := by decide +kernel
theorem dX6_two_14 : decode cX6_two 14 = .ok (.aload_n 0, 1) := by decide +kernel
theorem dX6_two_15 : decode cX6_two 15 = .ok (.getfield 22, 3) := by decide +kernel
theorem dX6_two_18 : decode cX6_two 18 = .ok (.iconst 0, 1) := by decide +kernel
theorem dX6_two_19 : decode cX6_two 19 = .ok (.iaload, 1) := by decide +kernel
theorem dX6_two_20 : decode cX6_two 20 = .ok (.iconst 2, 1) := by decide +kernel
theorem dX6_two_21 : decode cX6_two 21 = .ok (.if_icmp .ne 13, 3) := by decide +kernel
theorem dX6_two_24 : decode cX6_two 24 = .ok (.aload_n 0, 1) := by decide +kernel
theorem dX6_two_25 : decode cX6_two 25 = .ok (.getfield 22, 3) := by decide +kernel
theorem dX6_two_28 : decode cX6_two 28 = .ok (.iconst 1, 1) := by decide +kernel
theorem dX6_two_29 : decode cX6_two 29 = .ok (.iaload, 1) := by decide +kernel
theorem dX6_two_30 : decode cX6_two 30 = .ok (.iconst 2, 1) := by decide +kernel
theorem dX6_two_31 : decode cX6_two 31 = .ok (.if_icmp .eq 7, 3) := by decide +kernel
theorem dX6_two_34 : decode cX6_two 34 = .ok (.sipush (-1003), 3) := by decide +kernel
theorem dX6_two_37 : decode cX6_two 37 = .ok (.ireturn, 1) := by decide +kernel
theorem dX6_two_38 : decode cX6_two 38 = .ok (.aload_n 0, 1) := by decide +kernel
theorem dX6_two_39 : decode cX6_two 39 = .ok (.getfield 7, 3) := by decide +kernel
theorem dX6_two_42 : decode cX6_two 42 = .ok (.iconst 1, 1) := by decide +kernel
theorem dX6_two_43 : decode cX6_two 43 = .ok (.iaload, 1) := by decide +kernel
theorem dX6_two_44 : decode cX6_two 44 = .ok (.aload_n 0, 1) := by decide +kernel
theorem dX6_two_45 : decode cX6_two 45 = .ok (.getfield 7, 3) := by decide +kernel
theorem dX6_two_48 : decode cX6_two 48 = .ok (.iconst 0, 1) := by decide +kernel
theorem dX6_two_49 : decode cX6_two 49 = .ok (.iaload, 1) := by decide +kernel
theorem dX6_two_50 : decode cX6_two 50 = .ok (.isub, 1) := by decide +kernel
theorem dX6_two_51 : decode cX6_two 51 = .ok (.aload_n 0, 1) := by decide +kernel
theorem dX6_two_52 : decode cX6_two 52 = .ok (.getfield 13, 3) := by decide +kernel
theorem dX6_two_55 : decode cX6_two 55 = .ok (.bipush 9, 2) := by decide +kernel
theorem dX6_two_57 : decode cX6_two 57 = .ok (.iaload, 1) := by decide +kernel
theorem dX6_two_58 : decode cX6_two 58 = .ok (.aload_n 0, 1) := by decide +kernel
theorem dX6_two_59 : decode cX6_two 59 = .ok (.getfield 13, 3) := by decide +kernel
theorem dX6_two_62 : decode cX6_two 62 = .ok (.bipush 8, 2) := by decide +kernel
theorem dX6_two_64 : decode cX6_two 64 = .ok (.iaload, 1) := by decide +kernel
theorem dX6_two_65 : decode cX6_two 65 = .ok (.isub, 1) := by decide +kernel
theorem dX6_two_66 : decode cX6_two 66 = .ok (.imul, 1) := by decide +kernel
theorem dX6_two_67 : decode cX6_two 67 = .ok (.aload_n 0, 1) := by decide +kernel
theorem dX6_two_68 : decode cX6_two 68 = .ok (.getfield 13, 3) := by decide +kernel
theorem dX6_two_71 : decode cX6_two 71 = .ok (.iconst 1, 1) := by decide +kernel
theorem dX6_two_72 : decode cX6_two 72 = .ok (.iaload, 1) := by decide +kernel
theorem dX6_two_73 : decode cX6_two 73 = .ok (.aload_n 0, 1) := by decide +kernel
theorem dX6_two_74 : decode cX6_two 74 = .ok (.getfield 13, 3) := by decide +kernel
theorem dX6_two_77 : decode cX6_two 77 = .ok (.iconst 0, 1) := by decide +kernel
theorem dX6_two_78 : decode cX6_two 78 = .ok (.iaload, 1) := by decide +kernel
theorem dX6_two_79 : decode cX6_two 79 = .ok (.isub, 1) := by decide +kernel
theorem dX6_two_80 : decode cX6_two 80 = .ok (.aload_n 0, 1) := by decide +kernel
theorem dX6_two_81 : decode cX6_two 81 = .ok (.getfield 7, 3) := by decide +kernel
theorem dX6_two_84 : decode cX6_two 84 = .ok (.bipush 9, 2) := by decide +kernel
theorem dX6_two_86 : decode cX6_two 86 = .ok (.iaload, 1) := by decide +kernel
theorem dX6_two_87 : decode cX6_two 87 = .ok (.aload_n 0, 1) := by decide +kernel
theorem dX6_two_88 : decode cX6_two 88 = .ok (.getfield 7, 3) := by decide +kernel
theorem dX6_two_91 : decode cX6_two 91 = .ok (.bipush 8, 2) := by decide +kernel
theorem dX6_two_93 : decode cX6_two 93 = .ok (.iaload, 1) := by decide +kernel
theorem dX6_two_94 : decode cX6_two 94 = .ok (.isub, 1) := by decide +kernel
theorem dX6_two_95 : decode cX6_two 95 = .ok (.imul, 1) := by decide +kernel
theorem dX6_two_96 : decode cX6_two 96 = .ok (.isub, 1) := by decide +kernel
theorem dX6_two_97 : decode cX6_two 97 = .ok (.istore_n 2, 1) := by decide +kernel
theorem dX6_two_98 : decode cX6_two 98 = .ok (.iload_n 1, 1) := by decide +kernel
theorem dX6_two_99 : decode cX6_two 99 = .ok (.ifCond .ne 5, 3) := by decide +kernel
theorem dX6_two_102 : decode cX6_two 102 = .ok (.iload_n 2, 1) := by decide +kernel
theorem dX6_two_103 : decode cX6_two 103 = .ok (.ireturn, 1) := by decide +kernel
theorem dX6_two_104 : decode cX6_two 104 = .ok (.iconst 0, 1) := by decide +kernel
theorem dX6_two_105 : decode cX6_two 105 = .ok (.istore_n 3, 1) := by decide +kernel
theorem dX6_two_106 : decode cX6_two 106 = .ok (.iconst 0, 1) := by decide +kernel
theorem dX6_two_107 : decode cX6_two 107 = .ok (.istore 4, 2) := by decide +kernel
theorem dX6_two_109 : decode cX6_two 109 = .ok (.iload 4, 2) := by decide +kernel
theorem dX6_two_111 : decode cX6_two 111 = .ok (.iconst 4, 1) := by decide +kernel
theorem dX6_two_112 : decode cX6_two 112 = .ok (.if_icmp .ge 37, 3) := by decide +kernel
theorem dX6_two_115 : decode cX6_two 115 = .ok (.iload_n 3, 1) := by decide +kernel
theorem dX6_two_116 : decode cX6_two 116 = .ok (.aload_n 0, 1) := by decide +kernel
theorem dX6_two_117 : decode cX6_two 117 = .ok (.iconst 0, 1) := by decide +kernel
theorem dX6_two_118 : decode cX6_two 118 = .ok (.iload 4, 2) := by decide +kernel
theorem dX6_two_120 : decode cX6_two 120 = .ok (.invokevirtual 187, 3) := by decide +kernel
theorem dX6_two_123 : decode cX6_two 123 = .ok (.ifCond .eq 17, 3) := by decide +kernel
theorem dX6_two_126 : decode cX6_two 126 = .ok (.aload_n 0, 1) := by decide +kernel
theorem dX6_two_127 : decode cX6_two 127 = .ok (.iconst 1, 1) := by decide +kernel
theorem dX6_two_128 : decode cX6_two 128 = .ok (.iload 4, 2) := by decide +kernel
theorem dX6_two_130 : decode cX6_two 130 = .ok (.invokevirtual 187, 3) := by decide +kernel
theorem dX6_two_133 : decode cX6_two 133 = .ok (.ifCond .eq 7, 3) := by decide +kernel
theorem dX6_two_136 : decode cX6_two 136 = .ok (.iconst 1, 1) := by decide +kernel
theorem dX6_two_137 : decode cX6_two 137 = .ok (.goto 4, 3) := by decide +kernel
theorem dX6_two_140 : decode cX6_two 140 = .ok (.iconst 0, 1) := by decide +kernel
theorem dX6_two_141 : decode cX6_two 141 = .ok (.iadd, 1) := by decide +kernel
theorem dX6_two_142 : decode cX6_two 142 = .ok (.istore_n 3, 1) := by decide +kernel
theorem dX6_two_143 : decode cX6_two 143 = .ok (.iinc 4 1, 3) := by decide +kernel
theorem dX6_two_146 : decode cX6_two 146 = .ok (.goto (-37), 3) := by decide +kernel
theorem dX6_two_149 : decode cX6_two 149 = .ok (.iload_n 2, 1) := by decide +kernel
theorem dX6_two_150 : decode cX6_two 150 = .ok (.ifCond .ne 8, 3) := by decide +kernel
theorem dX6_two_153 : decode cX6_two 153 = .ok (.bipush (-6), 2) := by decide +kernel
theorem dX6_two_155 : decode cX6_two 155 = .ok (.goto 4, 3) := by decide +kernel
theorem dX6_two_158 : decode cX6_two 158 = .ok (.iload_n 3, 1) := by decide +kernel
theorem dX6_two_159 : decode cX6_two 159 = .ok (.ireturn, 1) := by decide +kernel
set_option maxRecDepth 100000 in
set_option maxHeartbeats 4000000 in
theorem kX6_two (l : Launch) (D : va_G) (ad : Nat → Nat) (cI cJ : ClassId) (tP tR : Nat) (N : Nat) (M : Mem) (a1 : Int32)  (o : Int32) (h : fX6_two N M a1 = some o) : qMet l D cI cJ tP tR (yA ad) (yW ad cI cJ) yX6_two cX6_two 5 (some .int) rX6_two [.ref (ad 0), .int a1] M (qQi D (yA ad) (yW ad cI cJ) o M) := by
  refine rs_enterI (own := RX6) ⟨by decide +kernel, rfl, Nat.le_of_ble_eq_true rfl⟩ ?_
  intro p e s m args below meth c Q C hret H locs ls hP hS hl
  obtain ⟨hx, hb, -⟩ := id C
  have hl : lv_has ls 5 [(0, .ref (ad 0)), (1, .int a1)] := hl
  unfold fX6_two at h
  refine lv_iload_n hx hb dX6_two_0 rfl (lv_at hl 1 rfl) ?_
  refine lv_i2l hx hb dX6_two_1 rfl ?_
  refine lv_lconst (v := (0 : Int64)) hx hb dX6_two_2 (by decide) ?_
  refine lv_lconst (v := (1 : Int64)) hx hb dX6_two_3 (by decide) ?_
  obtain ⟨v1, h1, h⟩ := rs_bind h
  refine rs_goI (rs_runS (As := [.long (Int32.toInt64 a1), .long (0 : Int64), .long (1 : Int64)]) (rest := []) C hP hS (kX6_in l D ad cI cJ tP tR M (Int32.toInt64 a1) (0 : Int64) (1 : Int64) _ h1) mk_X6_in wd_593 rfl ⟨rfl, rfl, Nat.le_of_ble_eq_true rfl, Nat.le_of_ble_eq_true rfl⟩ rfl hl.1 (Nat.le_of_ble_eq_true rfl) dX6_two_4) hS (fun H locs hP hS => ?_)
  refine lv_if_ne (tgt := 14) hx hb dX6_two_7 (by decide) (fun cd => ?_) (fun cd => ?_)
  · have h := (if_neg cd).symm.trans h
    refine lv_aload_n hx hb dX6_two_14 rfl (lv_at hl 0 rfl) ?_
    refine gfX6_22 C hP dX6_two_15 ?_
    refine lv_iconst (v := (0 : Int32)) hx hb dX6_two_18 (by decide) ?_
    refine rs_iald C hP yIA_5 dX6_two_19 h (fun v2 h => ?_)
    refine lv_iconst (v := (2 : Int32)) hx hb dX6_two_20 (by decide) ?_
    refine lv_icmp_ne (tgt := 34) hx hb dX6_two_21 (by decide) (fun cd => ?_) (fun cd => ?_)
    · have h := (if_neg cd).symm.trans h
      refine lv_sipush (v := (-1003 : Int32)) hx hb dX6_two_34 (by decide) ?_
      cases h
      exact hret H locs _ ls hP hS dX6_two_37
    · have h := (if_pos cd).symm.trans h
      refine lv_aload_n hx hb dX6_two_24 rfl (lv_at hl 0 rfl) ?_
      refine gfX6_22 C hP dX6_two_25 ?_
      refine lv_iconst (v := (1 : Int32)) hx hb dX6_two_28 (by decide) ?_
      refine rs_iald C hP yIA_5 dX6_two_29 h (fun v3 h => ?_)
      refine lv_iconst (v := (2 : Int32)) hx hb dX6_two_30 (by decide) ?_
      refine lv_icmp_eq (tgt := 38) hx hb dX6_two_31 (by decide) (fun cd => ?_) (fun cd => ?_)
      · have h := (if_pos cd).symm.trans h
        refine lv_aload_n hx hb dX6_two_38 rfl (lv_at hl 0 rfl) ?_
        refine gfX6_7 C hP dX6_two_39 ?_
        refine lv_iconst (v := (1 : Int32)) hx hb dX6_two_42 (by decide) ?_
        refine rs_iald C hP yIA_1 dX6_two_43 h (fun v4 h => ?_)
        refine lv_aload_n hx hb dX6_two_44 rfl (lv_at hl 0 rfl) ?_
        refine gfX6_7 C hP dX6_two_45 ?_
        refine lv_iconst (v := (0 : Int32)) hx hb dX6_two_48 (by decide) ?_
        refine rs_iald C hP yIA_1 dX6_two_49 h (fun v5 h => ?_)
        refine lv_isub hx hb dX6_two_50 ?_
        refine lv_aload_n hx hb dX6_two_51 rfl (lv_at hl 0 rfl) ?_
        refine gfX6_13 C hP dX6_two_52 ?_
        refine lv_bipush (v := (9 : Int32)) hx hb dX6_two_55 (by decide) ?_
        refine rs_iald C hP yIA_2 dX6_two_57 h (fun v6 h => ?_)
        refine lv_aload_n hx hb dX6_two_58 rfl (lv_at hl 0 rfl) ?_
        refine gfX6_13 C hP dX6_two_59 ?_
        refine lv_bipush (v := (8 : Int32)) hx hb dX6_two_62 (by decide) ?_
        refine rs_iald C hP yIA_2 dX6_two_64 h (fun v7 h => ?_)
        refine lv_isub hx hb dX6_two_65 ?_
        refine lv_imul hx hb dX6_two_66 ?_
        refine lv_aload_n hx hb dX6_two_67 rfl (lv_at hl 0 rfl) ?_
        refine gfX6_13 C hP dX6_two_68 ?_
        refine lv_iconst (v := (1 : Int32)) hx hb dX6_two_71 (by decide) ?_
        refine rs_iald C hP yIA_2 dX6_two_72 h (fun v8 h => ?_)
        refine lv_aload_n hx hb dX6_two_73 rfl (lv_at hl 0 rfl) ?_
        refine gfX6_13 C hP dX6_two_74 ?_
        refine lv_iconst (v := (0 : Int32)) hx hb dX6_two_77 (by decide) ?_
        refine rs_iald C hP yIA_2 dX6_two_78 h (fun v9 h => ?_)
        refine lv_isub hx hb dX6_two_79 ?_
        refine lv_aload_n hx hb dX6_two_80 rfl (lv_at hl 0 rfl) ?_
        refine gfX6_7 C hP dX6_two_81 ?_
        refine lv_bipush (v := (9 : Int32)) hx hb dX6_two_84 (by decide) ?_
        refine rs_iald C hP yIA_1 dX6_two_86 h (fun v10 h => ?_)
        refine lv_aload_n hx hb dX6_two_87 rfl (lv_at hl 0 rfl) ?_
        refine gfX6_7 C hP dX6_two_88 ?_
        refine lv_bipush (v := (8 : Int32)) hx hb dX6_two_91 (by decide) ?_
        refine rs_iald C hP yIA_1 dX6_two_93 h (fun v11 h => ?_)
        refine lv_isub hx hb dX6_two_94 ?_
        refine lv_imul hx hb dX6_two_95 ?_
        refine lv_isub hx hb dX6_two_96 ?_
        refine lv_istore_n (lv' := [(2, .int (((v4 - v5) * (v6 - v7)) - ((v8 - v9) * (v10 - v11)))), (0, .ref (ad 0)), (1, .int a1)]) hx hb dX6_two_97 rfl hl (by decide) rfl (fun ls hl => ?_)
        refine lv_iload_n hx hb dX6_two_98 rfl (lv_at hl 2 rfl) ?_
        refine lv_if_ne (tgt := 104) hx hb dX6_two_99 (by decide) (fun cd => ?_) (fun cd => ?_)
        · have h := (if_neg cd).symm.trans h
          refine lv_iconst (v := (0 : Int32)) hx hb dX6_two_104 (by decide) ?_
          refine lv_istore_n (lv' := [(3, .int (0 : Int32)), (2, .int (((v4 - v5) * (v6 - v7)) - ((v8 - v9) * (v10 - v11)))), (0, .ref (ad 0)), (1, .int a1)]) hx hb dX6_two_105 rfl hl (by decide) rfl (fun ls hl => ?_)
          refine lv_iconst (v := (0 : Int32)) hx hb dX6_two_106 (by decide) ?_
          refine lv_istore (lv' := [(4, .int (0 : Int32)), (3, .int (0 : Int32)), (2, .int (((v4 - v5) * (v6 - v7)) - ((v8 - v9) * (v10 - v11)))), (0, .ref (ad 0)), (1, .int a1)]) hx hb dX6_two_107 hl (by decide) rfl (fun ls hl => ?_)
          obtain ⟨v12, h1, h⟩ := rs_bind h
          have hJ13 : ∀ (H : Heap) (locs : List Loc) (ls : Array Slot), va_P D vwCl (yW ad cI cJ M) H → va_S (yA ad) s.heap H locs → lv_has ls 5 [(2, .int (((v4 - v5) * (v6 - v7)) - ((v8 - v9) * (v10 - v11)))), (3, .int v12)] → W p l e rX6_two s m args below meth c H locs 0 0 Q (F0 m 149 ls []) := by
            intro H locs ls hP hS hl
            refine lv_iload_n hx hb dX6_two_149 rfl (lv_at hl 0 rfl) ?_
            refine lv_if_ne (tgt := 158) hx hb dX6_two_150 (by decide) (fun cd => ?_) (fun cd => ?_)
            · have h := (if_neg cd).symm.trans h
              refine lv_iload_n hx hb dX6_two_158 rfl (lv_at hl 1 rfl) ?_
              cases h
              exact hret H locs _ ls hP hS dX6_two_159
            · have h := (if_pos cd).symm.trans h
              refine lv_bipush (v := (-6 : Int32)) hx hb dX6_two_153 (by decide) ?_
              refine lv_goto (tgt := 159) hx hb dX6_two_155 (by decide) ?_
              cases h
              exact hret H locs _ ls hP hS dX6_two_159
          replace h := h1
          clear h1
          have hL109 : ∀ (n109 : Nat) (v14 : Int32) (v15 : Int32) (H : Heap) (locs : List Loc) (ls : Array Slot), va_P D vwCl (yW ad cI cJ M) H → va_S (yA ad) s.heap H locs → lv_has ls 5 [(0, .ref (ad 0)), (2, .int (((v4 - v5) * (v6 - v7)) - ((v8 - v9) * (v10 - v11)))), (3, .int v14), (4, .int v15)] → lp (fun _ _ => none) (sX6_two_109 N M) n109 v14 v15 = some v12 → W p l e rX6_two s m args below meth c H locs 0 0 Q (F0 m 109 ls []) := by
            intro n109
            induction n109 with
            | zero => intro v14 v15 H locs ls hP hS hl h; have h : (none : Option Int32) = some v12 := h; cases h
            | succ n109 ih109 =>
              intro v14 v15 H locs ls hP hS hl h
              have h : sX6_two_109 N M (lp (fun _ _ => none) (sX6_two_109 N M) n109) v14 v15 = some v12 := h
              generalize lp (fun _ _ => none) (sX6_two_109 N M) n109 = cont109 at h ih109
              unfold sX6_two_109 at h
              refine lv_iload hx hb dX6_two_109 (lv_at hl 3 rfl) ?_
              refine lv_iconst (v := (4 : Int32)) hx hb dX6_two_111 (by decide) ?_
              refine lv_icmp_ge (tgt := 149) hx hb dX6_two_112 (by decide) (fun cd => ?_) (fun cd => ?_)
              · have h := (if_pos cd).symm.trans h
                cases h
                exact hJ13 H locs ls hP hS (lv_sub hl [1, 2] rfl)
              · have h := (if_neg cd).symm.trans h
                refine lv_iload_n hx hb dX6_two_115 rfl (lv_at hl 2 rfl) ?_
                refine lv_aload_n hx hb dX6_two_116 rfl (lv_at hl 0 rfl) ?_
                refine lv_iconst (v := (0 : Int32)) hx hb dX6_two_117 (by decide) ?_
                refine lv_iload hx hb dX6_two_118 (lv_at hl 3 rfl) ?_
                obtain ⟨v16, h1, h⟩ := rs_bind h
                refine rs_goI (rs_runV (b := 0) (As := [.int (0 : Int32), .int v15]) (rest := [.int v14]) C hP hS (kX6_areUnlike l D ad cI cJ tP tR N M (0 : Int32) v15 _ h1) mk_X6_areUnlike wd_749 (yR_0) rfl ⟨rfl, rfl, Nat.le_of_ble_eq_true rfl, Nat.le_of_ble_eq_true rfl⟩ rfl hl.1 (Nat.le_of_ble_eq_true rfl) dX6_two_120) hS (fun H locs hP hS => ?_)
                obtain ⟨v17, h1, h⟩ := rs_bind h
                have hJ18 : ∀ (H : Heap) (locs : List Loc) (ls : Array Slot), va_P D vwCl (yW ad cI cJ M) H → va_S (yA ad) s.heap H locs → lv_has ls 5 [(0, .ref (ad 0)), (2, .int (((v4 - v5) * (v6 - v7)) - ((v8 - v9) * (v10 - v11)))), (4, .int v15)] → W p l e rX6_two s m args below meth c H locs 0 0 Q (F0 m 141 ls [.int v17, .int v14]) := by
                  intro H locs ls hP hS hl
                  refine lv_iadd hx hb dX6_two_141 ?_
                  refine lv_istore_n (lv' := [(3, .int (v14 + v17)), (0, .ref (ad 0)), (2, .int (((v4 - v5) * (v6 - v7)) - ((v8 - v9) * (v10 - v11)))), (4, .int v15)]) hx hb dX6_two_142 rfl hl (by decide) rfl (fun ls hl => ?_)
                  refine lv_iinc (v := (v15 + 1)) (lv' := [(4, .int (v15 + 1)), (3, .int (v14 + v17)), (0, .ref (ad 0)), (2, .int (((v4 - v5) * (v6 - v7)) - ((v8 - v9) * (v10 - v11))))]) hx hb dX6_two_143 hl (k := 3) rfl rfl (by decide) rfl (fun ls hl => ?_)
                  refine lv_goto (tgt := 109) hx hb dX6_two_146 (by decide) ?_
                  exact ih109 _ _ H locs ls hP hS (lv_sub hl [2, 3, 1, 0] rfl) h
                replace h := h1
                clear h1
                refine lv_if_eq (tgt := 140) hx hb dX6_two_123 (by decide) (fun cd => ?_) (fun cd => ?_)
                · have h := (if_pos cd).symm.trans h
                  refine lv_iconst (v := (0 : Int32)) hx hb dX6_two_140 (by decide) ?_
                  cases h
                  exact hJ18 H locs ls hP hS (lv_sub hl [0, 1, 3] rfl)
                · have h := (if_neg cd).symm.trans h
                  refine lv_aload_n hx hb dX6_two_126 rfl (lv_at hl 0 rfl) ?_
                  refine lv_iconst (v := (1 : Int32)) hx hb dX6_two_127 (by decide) ?_
                  refine lv_iload hx hb dX6_two_128 (lv_at hl 3 rfl) ?_
                  obtain ⟨v19, h1, h⟩ := rs_bind h
                  refine rs_goI (rs_runV (b := 0) (As := [.int (1 : Int32), .int v15]) (rest := [.int v14]) C hP hS (kX6_areUnlike l D ad cI cJ tP tR N M (1 : Int32) v15 _ h1) mk_X6_areUnlike wd_749 (yR_0) rfl ⟨rfl, rfl, Nat.le_of_ble_eq_true rfl, Nat.le_of_ble_eq_true rfl⟩ rfl hl.1 (Nat.le_of_ble_eq_true rfl) dX6_two_130) hS (fun H locs hP hS => ?_)
                  refine lv_if_eq (tgt := 140) hx hb dX6_two_133 (by decide) (fun cd => ?_) (fun cd => ?_)
                  · have h := (if_pos cd).symm.trans h
                    refine lv_iconst (v := (0 : Int32)) hx hb dX6_two_140 (by decide) ?_
                    cases h
                    exact hJ18 H locs ls hP hS (lv_sub hl [0, 1, 3] rfl)
                  · have h := (if_neg cd).symm.trans h
                    refine lv_iconst (v := (1 : Int32)) hx hb dX6_two_136 (by decide) ?_
                    refine lv_goto (tgt := 141) hx hb dX6_two_137 (by decide) ?_
                    cases h
                    exact hJ18 H locs ls hP hS (lv_sub hl [0, 1, 3] rfl)
          exact hL109 N _ _ H locs ls hP hS (lv_sub hl [3, 2, 1, 0] rfl) h
        · have h := (if_pos cd).symm.trans h
          refine lv_iload_n hx hb dX6_two_102 rfl (lv_at hl 0 rfl) ?_
          cases h
          exact hret H locs _ ls hP hS dX6_two_103
      · have h := (if_neg cd).symm.trans h
        refine lv_sipush (v := (-1003 : Int32)) hx hb dX6_two_34 (by decide) ?_
        cases h
        exact hret H locs _ ls hP hS dX6_two_37
  · have h := (if_pos cd).symm.trans h
    refine lv_sipush (v := (-1002 : Int32)) hx hb dX6_two_10 (by decide) ?_
    cases h
    exact hret H locs _ ls hP hS dX6_two_13
abbrev rX6_isPrime : Room := { frames := 1, cells := 0, slots := 0, locals := 25 }
theorem dX6_isPrime_0 : decode cX6_isPrime 0 = .ok (.iload_n 0, 1) := by decide +kernel
theorem dX6_isPrime_1 : decode cX6_isPrime 1 = .ok (.i2l, 1) := by decide +kernel
theorem dX6_isPrime_2 : decode cX6_isPrime 2 = .ok (.ldc2_w 91, 3) := by decide +kernel
theorem dX6_isPrime_5 : decode cX6_isPrime 5 = .ok (.ldc2_w 190, 3) := by decide +kernel
theorem dX6_isPrime_8 : decode cX6_isPrime 8 = .ok (.invokestatic 48, 3) := by decide +kernel
theorem dX6_isPrime_11 : decode cX6_isPrime 11 = .ok (.ifCond .ne 5, 3) := by decide +kernel
theorem dX6_isPrime_14 : decode cX6_isPrime 14 = .ok (.iconst 0, 1) := by decide +kernel
theorem dX6_isPrime_15 : decode cX6_isPrime 15 = .ok (.ireturn, 1) := by decide +kernel
theorem dX6_isPrime_16 : decode cX6_isPrime 16 = .ok (.iconst 2, 1) := by decide +kernel
theorem dX6_isPrime_17 : decode cX6_isPrime 17 = .ok (.istore_n 1, 1) := by decide +kernel
theorem dX6_isPrime_18 : decode cX6_isPrime 18 = .ok (.iload_n 1, 1) := by decide +kernel
theorem dX6_isPrime_19 : decode cX6_isPrime 19 = .ok (.iload_n 0, 1) := by decide +kernel
theorem dX6_isPrime_20 : decode cX6_isPrime 20 = .ok (.if_icmp .ge 17, 3) := by decide +kernel
theorem dX6_isPrime_23 : decode cX6_isPrime 23 = .ok (.iload_n 0, 1) := by decide +kernel
theorem dX6_isPrime_24 : decode cX6_isPrime 24 = .ok (.iload_n 1, 1) := by decide +kernel
theorem dX6_isPrime_25 : decode cX6_isPrime 25 = .ok (.irem, 1) := by decide +kernel
theorem dX6_isPrime_26 : decode cX6_isPrime 26 = .ok (.ifCond .ne 5, 3) := by decide +kernel
theorem dX6_isPrime_29 : decode cX6_isPrime 29 = .ok (.iconst 0, 1) := by decide +kernel
theorem dX6_isPrime_30 : decode cX6_isPrime 30 = .ok (.ireturn, 1) := by decide +kernel
theorem dX6_isPrime_31 : decode cX6_isPrime 31 = .ok (.iinc 1 1, 3) := by decide +kernel
theorem dX6_isPrime_34 : decode cX6_isPrime 34 = .ok (.goto (-16), 3) := by decide +kernel
theorem dX6_isPrime_37 : decode cX6_isPrime 37 = .ok (.iconst 1, 1) := by decide +kernel
theorem dX6_isPrime_38 : decode cX6_isPrime 38 = .ok (.ireturn, 1) := by decide +kernel
set_option maxRecDepth 100000 in
set_option maxHeartbeats 4000000 in
theorem kX6_isPrime (l : Launch) (D : va_G) (ad : Nat → Nat) (cI cJ : ClassId) (tP tR : Nat) (N : Nat) (M : Mem) (a0 : Int32)  (o : Int32) (h : fX6_isPrime N a0 = some o) : qMet l D cI cJ tP tR (yA ad) (yW ad cI cJ) yX6_isPrime cX6_isPrime 2 (some .boolean) rX6_isPrime [.int a0] M (qQi D (yA ad) (yW ad cI cJ) o M) := by
  refine rs_enterZ (own := RX6) ⟨by decide +kernel, rfl, Nat.le_of_ble_eq_true rfl⟩ ?_
  intro p e s m args below meth c Q C hret H locs ls hP hS hl
  obtain ⟨hx, hb, -⟩ := id C
  have hl : lv_has ls 2 [(0, .int a0)] := hl
  unfold fX6_isPrime at h
  refine lv_iload_n hx hb dX6_isPrime_0 rfl (lv_at hl 0 rfl) ?_
  refine lv_i2l hx hb dX6_isPrime_1 rfl ?_
  refine rs_ldc2 (v := (2 : Int64)) C wd_619 dX6_isPrime_2 ?_
  refine rs_ldc2 (v := (31 : Int64)) C wd_760 dX6_isPrime_5 ?_
  obtain ⟨v1, h1, h⟩ := rs_bind h
  refine rs_goI (rs_runS (As := [.long (Int32.toInt64 a0), .long (2 : Int64), .long (31 : Int64)]) (rest := []) C hP hS (kX6_in l D ad cI cJ tP tR M (Int32.toInt64 a0) (2 : Int64) (31 : Int64) _ h1) mk_X6_in wd_593 rfl ⟨rfl, rfl, Nat.le_of_ble_eq_true rfl, Nat.le_of_ble_eq_true rfl⟩ rfl hl.1 (Nat.le_of_ble_eq_true rfl) dX6_isPrime_8) hS (fun H locs hP hS => ?_)
  refine lv_if_ne (tgt := 16) hx hb dX6_isPrime_11 (by decide) (fun cd => ?_) (fun cd => ?_)
  · have h := (if_neg cd).symm.trans h
    refine lv_iconst (v := (2 : Int32)) hx hb dX6_isPrime_16 (by decide) ?_
    refine lv_istore_n (lv' := [(1, .int (2 : Int32)), (0, .int a0)]) hx hb dX6_isPrime_17 rfl hl (by decide) rfl (fun ls hl => ?_)
    have hL18 : ∀ (n18 : Nat) (v2 : Int32) (H : Heap) (locs : List Loc) (ls : Array Slot), va_P D vwCl (yW ad cI cJ M) H → va_S (yA ad) s.heap H locs → lv_has ls 2 [(0, .int a0), (1, .int v2)] → lp (fun _ => none) (sX6_isPrime_18 a0) n18 v2 = some o → W p l e rX6_isPrime s m args below meth c H locs 0 0 Q (F0 m 18 ls []) := by
      intro n18
      induction n18 with
      | zero => intro v2 H locs ls hP hS hl h; have h : (none : Option Int32) = some o := h; cases h
      | succ n18 ih18 =>
        intro v2 H locs ls hP hS hl h
        have h : sX6_isPrime_18 a0 (lp (fun _ => none) (sX6_isPrime_18 a0) n18) v2 = some o := h
        generalize lp (fun _ => none) (sX6_isPrime_18 a0) n18 = cont18 at h ih18
        unfold sX6_isPrime_18 at h
        refine lv_iload_n hx hb dX6_isPrime_18 rfl (lv_at hl 1 rfl) ?_
        refine lv_iload_n hx hb dX6_isPrime_19 rfl (lv_at hl 0 rfl) ?_
        refine lv_icmp_ge (tgt := 37) hx hb dX6_isPrime_20 (by decide) (fun cd => ?_) (fun cd => ?_)
        · have h := (if_pos cd).symm.trans h
          refine lv_iconst (v := (1 : Int32)) hx hb dX6_isPrime_37 (by decide) ?_
          obtain ⟨rfl, hz⟩ := rs_okZ h
          exact hret H locs _ ls hz hP hS dX6_isPrime_38
        · have h := (if_neg cd).symm.trans h
          refine lv_iload_n hx hb dX6_isPrime_23 rfl (lv_at hl 0 rfl) ?_
          refine lv_iload_n hx hb dX6_isPrime_24 rfl (lv_at hl 1 rfl) ?_
          refine rs_irem C dX6_isPrime_25 h (fun v3 h => ?_)
          refine lv_if_ne (tgt := 31) hx hb dX6_isPrime_26 (by decide) (fun cd => ?_) (fun cd => ?_)
          · have h := (if_neg cd).symm.trans h
            refine lv_iinc (v := (v2 + 1)) (lv' := [(1, .int (v2 + 1)), (0, .int a0)]) hx hb dX6_isPrime_31 hl (k := 1) rfl rfl (by decide) rfl (fun ls hl => ?_)
            refine lv_goto (tgt := 18) hx hb dX6_isPrime_34 (by decide) ?_
            exact ih18 _ H locs ls hP hS (lv_sub hl [1, 0] rfl) h
          · have h := (if_pos cd).symm.trans h
            refine lv_iconst (v := (0 : Int32)) hx hb dX6_isPrime_29 (by decide) ?_
            obtain ⟨rfl, hz⟩ := rs_okZ h
            exact hret H locs _ ls hz hP hS dX6_isPrime_30
    exact hL18 N _ H locs ls hP hS (lv_sub hl [1, 0] rfl) h
  · have h := (if_pos cd).symm.trans h
    refine lv_iconst (v := (0 : Int32)) hx hb dX6_isPrime_14 (by decide) ?_
    obtain ⟨rfl, hz⟩ := rs_okZ h
    exact hret H locs _ ls hz hP hS dX6_isPrime_15
abbrev rX6_isNought : Room := { frames := 1, cells := 0, slots := 0, locals := 31 }
theorem dX6_isNought_0 : decode cX6_isNought 0 = .ok (.lconst 0, 1) := by decide +kernel
theorem dX6_isNought_1 : decode cX6_isNought 1 = .ok (.lstore 5, 2) := by decide +kernel
theorem dX6_isNought_3 : decode cX6_isNought 3 = .ok (.bipush 8, 2) := by decide +kernel
theorem dX6_isNought_5 : decode cX6_isNought 5 = .ok (.iload_n 1, 1) := by decide +kernel
theorem dX6_isNought_6 : decode cX6_isNought 6 = .ok (.imul, 1) := by decide +kernel
theorem dX6_isNought_7 : decode cX6_isNought 7 = .ok (.istore 7, 2) := by decide +kernel
theorem dX6_isNought_9 : decode cX6_isNought 9 = .ok (.iload 7, 2) := by decide +kernel
theorem dX6_isNought_11 : decode cX6_isNought 11 = .ok (.bipush 8, 2) := by decide +kernel
theorem dX6_isNought_13 : decode cX6_isNought 13 = .ok (.iload_n 1, 1) := by decide +kernel
theorem dX6_isNought_14 : decode cX6_isNought 14 = .ok (.imul, 1) := by decide +kernel
theorem dX6_isNought_15 : decode cX6_isNought 15 = .ok (.aload_n 0, 1) := by decide +kernel
theorem dX6_isNought_16 : decode cX6_isNought 16 = .ok (.getfield 22, 3) := by decide +kernel
theorem dX6_isNought_19 : decode cX6_isNought 19 = .ok (.iload_n 1, 1) := by decide +kernel
theorem dX6_isNought_20 : decode cX6_isNought 20 = .ok (.iaload, 1) := by decide +kernel
theorem dX6_isNought_21 : decode cX6_isNought 21 = .ok (.iadd, 1) := by decide +kernel
theorem dX6_isNought_22 : decode cX6_isNought 22 = .ok (.if_icmp .ge 56, 3) := by decide +kernel
theorem dX6_isNought_25 : decode cX6_isNought 25 = .ok (.lload 5, 2) := by decide +kernel
theorem dX6_isNought_27 : decode cX6_isNought 27 = .ok (.aload_n 0, 1) := by decide +kernel
theorem dX6_isNought_28 : decode cX6_isNought 28 = .ok (.getfield 16, 3) := by decide +kernel
theorem dX6_isNought_31 : decode cX6_isNought 31 = .ok (.iload 7, 2) := by decide +kernel
theorem dX6_isNought_33 : decode cX6_isNought 33 = .ok (.iaload, 1) := by decide +kernel
theorem dX6_isNought_34 : decode cX6_isNought 34 = .ok (.i2l, 1) := by decide +kernel
theorem dX6_isNought_35 : decode cX6_isNought 35 = .ok (.iload_n 2, 1) := by decide +kernel
theorem dX6_isNought_36 : decode cX6_isNought 36 = .ok (.i2l, 1) := by decide +kernel
theorem dX6_isNought_37 : decode cX6_isNought 37 = .ok (.aload_n 0, 1) := by decide +kernel
theorem dX6_isNought_38 : decode cX6_isNought 38 = .ok (.getfield 7, 3) := by decide +kernel
theorem dX6_isNought_41 : decode cX6_isNought 41 = .ok (.iload 7, 2) := by decide +kernel
theorem dX6_isNought_43 : decode cX6_isNought 43 = .ok (.iaload, 1) := by decide +kernel
theorem dX6_isNought_44 : decode cX6_isNought 44 = .ok (.i2l, 1) := by decide +kernel
theorem dX6_isNought_45 : decode cX6_isNought 45 = .ok (.iload 4, 2) := by decide +kernel
theorem dX6_isNought_47 : decode cX6_isNought 47 = .ok (.i2l, 1) := by decide +kernel
theorem dX6_isNought_48 : decode cX6_isNought 48 = .ok (.invokestatic 162, 3) := by decide +kernel
theorem dX6_isNought_51 : decode cX6_isNought 51 = .ok (.lmul, 1) := by decide +kernel
theorem dX6_isNought_52 : decode cX6_isNought 52 = .ok (.iload_n 3, 1) := by decide +kernel
theorem dX6_isNought_53 : decode cX6_isNought 53 = .ok (.i2l, 1) := by decide +kernel
theorem dX6_isNought_54 : decode cX6_isNought 54 = .ok (.aload_n 0, 1) := by decide +kernel
theorem dX6_isNought_55 : decode cX6_isNought 55 = .ok (.getfield 13, 3) := by decide +kernel
theorem dX6_isNought_58 : decode cX6_isNought 58 = .ok (.iload 7, 2) := by decide +kernel
theorem dX6_isNought_60 : decode cX6_isNought 60 = .ok (.iaload, 1) := by decide +kernel
theorem dX6_isNought_61 : decode cX6_isNought 61 = .ok (.i2l, 1) := by decide +kernel
theorem dX6_isNought_62 : decode cX6_isNought 62 = .ok (.iload 4, 2) := by decide +kernel
theorem dX6_isNought_64 : decode cX6_isNought 64 = .ok (.i2l, 1) := by decide +kernel
theorem dX6_isNought_65 : decode cX6_isNought 65 = .ok (.invokestatic 162, 3) := by decide +kernel
theorem dX6_isNought_68 : decode cX6_isNought 68 = .ok (.lmul, 1) := by decide +kernel
theorem dX6_isNought_69 : decode cX6_isNought 69 = .ok (.ladd, 1) := by decide +kernel
theorem dX6_isNought_70 : decode cX6_isNought 70 = .ok (.lstore 5, 2) := by decide +kernel
theorem dX6_isNought_72 : decode cX6_isNought 72 = .ok (.iinc 7 1, 3) := by decide +kernel
theorem dX6_isNought_75 : decode cX6_isNought 75 = .ok (.goto (-66), 3) := by decide +kernel
theorem dX6_isNought_78 : decode cX6_isNought 78 = .ok (.lload 5, 2) := by decide +kernel
theorem dX6_isNought_80 : decode cX6_isNought 80 = .ok (.iload 4, 2) := by decide +kernel
theorem dX6_isNought_82 : decode cX6_isNought 82 = .ok (.i2l, 1) := by decide +kernel
theorem dX6_isNought_83 : decode cX6_isNought 83 = .ok (.lrem, 1) := by decide +kernel
theorem dX6_isNought_84 : decode cX6_isNought 84 = .ok (.lconst 0, 1) := by decide +kernel
theorem dX6_isNought_85 : decode cX6_isNought 85 = .ok (.lcmp, 1) := by decide +kernel
theorem dX6_isNought_86 : decode cX6_isNought 86 = .ok (.ifCond .ne 7, 3) := by decide +kernel
theorem dX6_isNought_89 : decode cX6_isNought 89 = .ok (.iconst 1, 1) := by decide +kernel
theorem dX6_isNought_90 : decode cX6_isNought 90 = .ok (.goto 4, 3) := by decide +kernel
theorem dX6_isNought_93 : decode cX6_isNought 93 = .ok (.iconst 0, 1) := by decide +kernel
theorem dX6_isNought_94 : decode cX6_isNought 94 = .ok (.ireturn, 1) := by decide +kernel
set_option maxRecDepth 100000 in
set_option maxHeartbeats 4000000 in
theorem kX6_isNought (l : Launch) (D : va_G) (ad : Nat → Nat) (cI cJ : ClassId) (tP tR : Nat) (N : Nat) (M : Mem) (a1 : Int32) (a2 : Int32) (a3 : Int32) (a4 : Int32)  (o : Int32) (h : fX6_isNought N M a1 a2 a3 a4 = some o) : qMet l D cI cJ tP tR (yA ad) (yW ad cI cJ) yX6_isNought cX6_isNought 8 (some .boolean) rX6_isNought [.ref (ad 0), .int a1, .int a2, .int a3, .int a4] M (qQi D (yA ad) (yW ad cI cJ) o M) := by
  refine rs_enterZ (own := RX6) ⟨by decide +kernel, rfl, Nat.le_of_ble_eq_true rfl⟩ ?_
  intro p e s m args below meth c Q C hret H locs ls hP hS hl
  obtain ⟨hx, hb, -⟩ := id C
  have hl : lv_has ls 8 [(0, .ref (ad 0)), (1, .int a1), (2, .int a2), (3, .int a3), (4, .int a4)] := hl
  unfold fX6_isNought at h
  refine lv_lconst (v := (0 : Int64)) hx hb dX6_isNought_0 (by decide) ?_
  refine lv_lstore (lv' := [(5, .long (0 : Int64)), (0, .ref (ad 0)), (1, .int a1), (2, .int a2), (3, .int a3), (4, .int a4)]) hx hb dX6_isNought_1 hl (by decide) rfl (fun ls hl => ?_)
  refine lv_bipush (v := (8 : Int32)) hx hb dX6_isNought_3 (by decide) ?_
  refine lv_iload_n hx hb dX6_isNought_5 rfl (lv_at hl 2 rfl) ?_
  refine lv_imul hx hb dX6_isNought_6 ?_
  refine lv_istore (lv' := [(7, .int ((8 : Int32) * a1)), (5, .long (0 : Int64)), (0, .ref (ad 0)), (1, .int a1), (2, .int a2), (3, .int a3), (4, .int a4)]) hx hb dX6_isNought_7 hl (by decide) rfl (fun ls hl => ?_)
  obtain ⟨v1, h1, h⟩ := rs_bind h
  have hJ4 : ∀ (H : Heap) (locs : List Loc) (ls : Array Slot), va_P D vwCl (yW ad cI cJ M) H → va_S (yA ad) s.heap H locs → lv_has ls 8 [(4, .int a4), (5, .long v1)] → W p l e rX6_isNought s m args below meth c H locs 0 0 Q (F0 m 78 ls []) := by
    intro H locs ls hP hS hl
    refine lv_lload hx hb dX6_isNought_78 (lv_at hl 1 rfl) ?_
    refine lv_iload hx hb dX6_isNought_80 (lv_at hl 0 rfl) ?_
    refine lv_i2l hx hb dX6_isNought_82 rfl ?_
    refine rs_lrem C dX6_isNought_83 h (fun v2 h => ?_)
    refine lv_lconst (v := (0 : Int64)) hx hb dX6_isNought_84 (by decide) ?_
    refine rs_lcmp C dX6_isNought_85 (fun z3 hz => ?_)
    refine lv_if_ne (tgt := 93) hx hb dX6_isNought_86 (by decide) (fun cd => ?_) (fun cd => ?_)
    · have h := (if_neg (fun q => cd (hz.2.1.mpr q))).symm.trans h
      refine lv_iconst (v := (0 : Int32)) hx hb dX6_isNought_93 (by decide) ?_
      obtain ⟨rfl, hz⟩ := rs_okZ h
      exact hret H locs _ ls hz hP hS dX6_isNought_94
    · have h := (if_pos (hz.2.1.mp cd)).symm.trans h
      refine lv_iconst (v := (1 : Int32)) hx hb dX6_isNought_89 (by decide) ?_
      refine lv_goto (tgt := 94) hx hb dX6_isNought_90 (by decide) ?_
      obtain ⟨rfl, hz⟩ := rs_okZ h
      exact hret H locs _ ls hz hP hS dX6_isNought_94
  replace h := h1
  clear h1
  have hL9 : ∀ (n9 : Nat) (v5 : Int64) (v6 : Int32) (H : Heap) (locs : List Loc) (ls : Array Slot), va_P D vwCl (yW ad cI cJ M) H → va_S (yA ad) s.heap H locs → lv_has ls 8 [(0, .ref (ad 0)), (1, .int a1), (2, .int a2), (3, .int a3), (4, .int a4), (5, .long v5), (7, .int v6)] → lp (fun _ _ => none) (sX6_isNought_9 M a1 N a2 a4 a3) n9 v5 v6 = some v1 → W p l e rX6_isNought s m args below meth c H locs 0 0 Q (F0 m 9 ls []) := by
    intro n9
    induction n9 with
    | zero => intro v5 v6 H locs ls hP hS hl h; have h : (none : Option Int64) = some v1 := h; cases h
    | succ n9 ih9 =>
      intro v5 v6 H locs ls hP hS hl h
      have h : sX6_isNought_9 M a1 N a2 a4 a3 (lp (fun _ _ => none) (sX6_isNought_9 M a1 N a2 a4 a3) n9) v5 v6 = some v1 := h
      generalize lp (fun _ _ => none) (sX6_isNought_9 M a1 N a2 a4 a3) n9 = cont9 at h ih9
      unfold sX6_isNought_9 at h
      refine lv_iload hx hb dX6_isNought_9 (lv_at hl 6 rfl) ?_
      refine lv_bipush (v := (8 : Int32)) hx hb dX6_isNought_11 (by decide) ?_
      refine lv_iload_n hx hb dX6_isNought_13 rfl (lv_at hl 1 rfl) ?_
      refine lv_imul hx hb dX6_isNought_14 ?_
      refine lv_aload_n hx hb dX6_isNought_15 rfl (lv_at hl 0 rfl) ?_
      refine gfX6_22 C hP dX6_isNought_16 ?_
      refine lv_iload_n hx hb dX6_isNought_19 rfl (lv_at hl 1 rfl) ?_
      refine rs_iald C hP yIA_5 dX6_isNought_20 h (fun v7 h => ?_)
      refine lv_iadd hx hb dX6_isNought_21 ?_
      refine lv_icmp_ge (tgt := 78) hx hb dX6_isNought_22 (by decide) (fun cd => ?_) (fun cd => ?_)
      · have h := (if_pos cd).symm.trans h
        cases h
        exact hJ4 H locs ls hP hS (lv_sub hl [4, 5] rfl)
      · have h := (if_neg cd).symm.trans h
        refine lv_lload hx hb dX6_isNought_25 (lv_at hl 5 rfl) ?_
        refine lv_aload_n hx hb dX6_isNought_27 rfl (lv_at hl 0 rfl) ?_
        refine gfX6_16 C hP dX6_isNought_28 ?_
        refine lv_iload hx hb dX6_isNought_31 (lv_at hl 6 rfl) ?_
        refine rs_iald C hP yIA_3 dX6_isNought_33 h (fun v8 h => ?_)
        refine lv_i2l hx hb dX6_isNought_34 rfl ?_
        refine lv_iload_n hx hb dX6_isNought_35 rfl (lv_at hl 2 rfl) ?_
        refine lv_i2l hx hb dX6_isNought_36 rfl ?_
        refine lv_aload_n hx hb dX6_isNought_37 rfl (lv_at hl 0 rfl) ?_
        refine gfX6_7 C hP dX6_isNought_38 ?_
        refine lv_iload hx hb dX6_isNought_41 (lv_at hl 6 rfl) ?_
        refine rs_iald C hP yIA_1 dX6_isNought_43 h (fun v9 h => ?_)
        refine lv_i2l hx hb dX6_isNought_44 rfl ?_
        refine lv_iload hx hb dX6_isNought_45 (lv_at hl 4 rfl) ?_
        refine lv_i2l hx hb dX6_isNought_47 rfl ?_
        obtain ⟨v10, h1, h⟩ := rs_bind h
        refine rs_goL (rs_runS (As := [.long (Int32.toInt64 a2), .long (Int32.toInt64 v9), .long (Int32.toInt64 a4)]) (rest := [.long (Int32.toInt64 v8), .long v5]) C hP hS (kX6_power l D ad cI cJ tP tR N M (Int32.toInt64 a2) (Int32.toInt64 v9) (Int32.toInt64 a4) _ h1) mk_X6_power wd_736 rfl ⟨rfl, rfl, Nat.le_of_ble_eq_true rfl, Nat.le_of_ble_eq_true rfl⟩ rfl hl.1 (Nat.le_of_ble_eq_true rfl) dX6_isNought_48) hS (fun H locs hP hS => ?_)
        refine lv_lmul hx hb dX6_isNought_51 ?_
        refine lv_iload_n hx hb dX6_isNought_52 rfl (lv_at hl 3 rfl) ?_
        refine lv_i2l hx hb dX6_isNought_53 rfl ?_
        refine lv_aload_n hx hb dX6_isNought_54 rfl (lv_at hl 0 rfl) ?_
        refine gfX6_13 C hP dX6_isNought_55 ?_
        refine lv_iload hx hb dX6_isNought_58 (lv_at hl 6 rfl) ?_
        refine rs_iald C hP yIA_2 dX6_isNought_60 h (fun v11 h => ?_)
        refine lv_i2l hx hb dX6_isNought_61 rfl ?_
        refine lv_iload hx hb dX6_isNought_62 (lv_at hl 4 rfl) ?_
        refine lv_i2l hx hb dX6_isNought_64 rfl ?_
        obtain ⟨v12, h1, h⟩ := rs_bind h
        refine rs_goL (rs_runS (As := [.long (Int32.toInt64 a3), .long (Int32.toInt64 v11), .long (Int32.toInt64 a4)]) (rest := [.long ((Int32.toInt64 v8) * v10), .long v5]) C hP hS (kX6_power l D ad cI cJ tP tR N M (Int32.toInt64 a3) (Int32.toInt64 v11) (Int32.toInt64 a4) _ h1) mk_X6_power wd_736 rfl ⟨rfl, rfl, Nat.le_of_ble_eq_true rfl, Nat.le_of_ble_eq_true rfl⟩ rfl hl.1 (Nat.le_of_ble_eq_true rfl) dX6_isNought_65) hS (fun H locs hP hS => ?_)
        refine lv_lmul hx hb dX6_isNought_68 ?_
        refine lv_ladd hx hb dX6_isNought_69 ?_
        refine lv_lstore (lv' := [(5, .long (v5 + (((Int32.toInt64 v8) * v10) * v12))), (0, .ref (ad 0)), (1, .int a1), (2, .int a2), (3, .int a3), (4, .int a4), (7, .int v6)]) hx hb dX6_isNought_70 hl (by decide) rfl (fun ls hl => ?_)
        refine lv_iinc (v := (v6 + 1)) (lv' := [(7, .int (v6 + 1)), (5, .long (v5 + (((Int32.toInt64 v8) * v10) * v12))), (0, .ref (ad 0)), (1, .int a1), (2, .int a2), (3, .int a3), (4, .int a4)]) hx hb dX6_isNought_72 hl (k := 6) rfl rfl (by decide) rfl (fun ls hl => ?_)
        refine lv_goto (tgt := 9) hx hb dX6_isNought_75 (by decide) ?_
        exact ih9 _ _ H locs ls hP hS (lv_sub hl [2, 3, 4, 5, 6, 1, 0] rfl) h
  exact hL9 N _ _ H locs ls hP hS (lv_sub hl [2, 3, 4, 5, 6, 1, 0] rfl) h
abbrev rX6_answers : Room := { frames := 2, cells := 0, slots := 0, locals := 58 }
theorem dX6_answers_0 : decode cX6_answers 0 = .ok (.iconst 0, 1) := by decide +kernel
theorem dX6_answers_1 : decode cX6_answers 1 = .ok (.istore_n 3, 1) := by decide +kernel
theorem dX6_answers_2 : decode cX6_answers 2 = .ok (.iconst 1, 1) := by decide +kernel
theorem dX6_answers_3 : decode cX6_answers 3 = .ok (.istore 4, 2) := by decide +kernel
theorem dX6_answers_5 : decode cX6_answers 5 = .ok (.iload 4, 2) := by decide +kernel
theorem dX6_answers_7 : decode cX6_answers 7 = .ok (.iload_n 1, 1) := by decide +kernel
theorem dX6_answers_8 : decode cX6_answers 8 = .ok (.if_icmp .ge 67, 3) := by decide +kernel
theorem dX6_answers_11 : decode cX6_answers 11 = .ok (.iconst 1, 1) := by decide +kernel
theorem dX6_answers_12 : decode cX6_answers 12 = .ok (.istore 5, 2) := by decide +kernel
theorem dX6_answers_14 : decode cX6_answers 14 = .ok (.iload 5, 2) := by decide +kernel
theorem dX6_answers_16 : decode cX6_answers 16 = .ok (.iload_n 1, 1) := by decide +kernel
theorem dX6_answers_17 : decode cX6_answers 17 = .ok (.if_icmp .ge 52, 3) := by decide +kernel
theorem dX6_answers_20 : decode cX6_answers 20 = .ok (.aload_n 0, 1) := by decide +kernel
theorem dX6_answers_21 : decode cX6_answers 21 = .ok (.iconst 0, 1) := by decide +kernel
theorem dX6_answers_22 : decode cX6_answers 22 = .ok (.iload 4, 2) := by decide +kernel
theorem dX6_answers_24 : decode cX6_answers 24 = .ok (.iload 5, 2) := by decide +kernel
theorem dX6_answers_26 : decode cX6_answers 26 = .ok (.iload_n 1, 1) := by decide +kernel
theorem dX6_answers_27 : decode cX6_answers 27 = .ok (.invokevirtual 192, 3) := by decide +kernel
theorem dX6_answers_30 : decode cX6_answers 30 = .ok (.ifCond .eq 33, 3) := by decide +kernel
theorem dX6_answers_33 : decode cX6_answers 33 = .ok (.aload_n 0, 1) := by decide +kernel
theorem dX6_answers_34 : decode cX6_answers 34 = .ok (.iconst 1, 1) := by decide +kernel
theorem dX6_answers_35 : decode cX6_answers 35 = .ok (.iload 4, 2) := by decide +kernel
theorem dX6_answers_37 : decode cX6_answers 37 = .ok (.iload 5, 2) := by decide +kernel
theorem dX6_answers_39 : decode cX6_answers 39 = .ok (.iload_n 1, 1) := by decide +kernel
theorem dX6_answers_40 : decode cX6_answers 40 = .ok (.invokevirtual 192, 3) := by decide +kernel
theorem dX6_answers_43 : decode cX6_answers 43 = .ok (.ifCond .eq 20, 3) := by decide +kernel
theorem dX6_answers_46 : decode cX6_answers 46 = .ok (.iload_n 3, 1) := by decide +kernel
theorem dX6_answers_47 : decode cX6_answers 47 = .ok (.iload_n 2, 1) := by decide +kernel
theorem dX6_answers_48 : decode cX6_answers 48 = .ok (.if_icmp .ne 12, 3) := by decide +kernel
theorem dX6_answers_51 : decode cX6_answers 51 = .ok (.bipush 100, 2) := by decide +kernel
theorem dX6_answers_53 : decode cX6_answers 53 = .ok (.iload 4, 2) := by decide +kernel
theorem dX6_answers_55 : decode cX6_answers 55 = .ok (.imul, 1) := by decide +kernel
theorem dX6_answers_56 : decode cX6_answers 56 = .ok (.iload 5, 2) := by decide +kernel
theorem dX6_answers_58 : decode cX6_answers 58 = .ok (.iadd, 1) := by decide +kernel
theorem dX6_answers_59 : decode cX6_answers 59 = .ok (.ireturn, 1) := by decide +kernel
theorem dX6_answers_60 : decode cX6_answers 60 = .ok (.iinc 3 1, 3) := by decide +kernel
theorem dX6_answers_63 : decode cX6_answers 63 = .ok (.iinc 5 1, 3) := by decide +kernel
theorem dX6_answers_66 : decode cX6_answers 66 = .ok (.goto (-52), 3) := by decide +kernel
theorem dX6_answers_69 : decode cX6_answers 69 = .ok (.iinc 4 1, 3) := by decide +kernel
theorem dX6_answers_72 : decode cX6_answers 72 = .ok (.goto (-67), 3) := by decide +kernel
theorem dX6_answers_75 : decode cX6_answers 75 = .ok (.iload_n 2, 1) := by decide +kernel
theorem dX6_answers_76 : decode cX6_answers 76 = .ok (.ifCond .ge 7, 3) := by decide +kernel
theorem dX6_answers_79 : decode cX6_answers 79 = .ok (.iload_n 3, 1) := by decide +kernel
theorem dX6_answers_80 : decode cX6_answers 80 = .ok (.goto 5, 3) := by decide +kernel
theorem dX6_answers_83 : decode cX6_answers 83 = .ok (.bipush (-6), 2) := by decide +kernel
theorem dX6_answers_85 : decode cX6_answers 85 = .ok (.ireturn, 1) := by decide +kernel
set_option maxRecDepth 100000 in
set_option maxHeartbeats 4000000 in
theorem kX6_answers (l : Launch) (D : va_G) (ad : Nat → Nat) (cI cJ : ClassId) (tP tR : Nat) (N : Nat) (M : Mem) (a1 : Int32) (a2 : Int32)  (o : Int32) (h : fX6_answers N M a1 a2 = some o) : qMet l D cI cJ tP tR (yA ad) (yW ad cI cJ) yX6_answers cX6_answers 6 (some .int) rX6_answers [.ref (ad 0), .int a1, .int a2] M (qQi D (yA ad) (yW ad cI cJ) o M) := by
  refine rs_enterI (own := RX6) ⟨by decide +kernel, rfl, Nat.le_of_ble_eq_true rfl⟩ ?_
  intro p e s m args below meth c Q C hret H locs ls hP hS hl
  obtain ⟨hx, hb, -⟩ := id C
  have hl : lv_has ls 6 [(0, .ref (ad 0)), (1, .int a1), (2, .int a2)] := hl
  unfold fX6_answers at h
  refine lv_iconst (v := (0 : Int32)) hx hb dX6_answers_0 (by decide) ?_
  refine lv_istore_n (lv' := [(3, .int (0 : Int32)), (0, .ref (ad 0)), (1, .int a1), (2, .int a2)]) hx hb dX6_answers_1 rfl hl (by decide) rfl (fun ls hl => ?_)
  refine lv_iconst (v := (1 : Int32)) hx hb dX6_answers_2 (by decide) ?_
  refine lv_istore (lv' := [(4, .int (1 : Int32)), (3, .int (0 : Int32)), (0, .ref (ad 0)), (1, .int a1), (2, .int a2)]) hx hb dX6_answers_3 hl (by decide) rfl (fun ls hl => ?_)
  have hL5 : ∀ (n5 : Nat) (v1 : Int32) (v2 : Int32) (H : Heap) (locs : List Loc) (ls : Array Slot), va_P D vwCl (yW ad cI cJ M) H → va_S (yA ad) s.heap H locs → lv_has ls 6 [(0, .ref (ad 0)), (1, .int a1), (2, .int a2), (3, .int v1), (4, .int v2)] → lp (fun _ _ => none) (sX6_answers_5 a1 a2 N M) n5 v1 v2 = some o → W p l e rX6_answers s m args below meth c H locs 0 0 Q (F0 m 5 ls []) := by
    intro n5
    induction n5 with
    | zero => intro v1 v2 H locs ls hP hS hl h; have h : (none : Option Int32) = some o := h; cases h
    | succ n5 ih5 =>
      intro v1 v2 H locs ls hP hS hl h
      have h : sX6_answers_5 a1 a2 N M (lp (fun _ _ => none) (sX6_answers_5 a1 a2 N M) n5) v1 v2 = some o := h
      generalize lp (fun _ _ => none) (sX6_answers_5 a1 a2 N M) n5 = cont5 at h ih5
      unfold sX6_answers_5 at h
      refine lv_iload hx hb dX6_answers_5 (lv_at hl 4 rfl) ?_
      refine lv_iload_n hx hb dX6_answers_7 rfl (lv_at hl 1 rfl) ?_
      refine lv_icmp_ge (tgt := 75) hx hb dX6_answers_8 (by decide) (fun cd => ?_) (fun cd => ?_)
      · have h := (if_pos cd).symm.trans h
        refine lv_iload_n hx hb dX6_answers_75 rfl (lv_at hl 2 rfl) ?_
        refine lv_if_ge (tgt := 83) hx hb dX6_answers_76 (by decide) (fun cd => ?_) (fun cd => ?_)
        · have h := (if_pos cd).symm.trans h
          refine lv_bipush (v := (-6 : Int32)) hx hb dX6_answers_83 (by decide) ?_
          cases h
          exact hret H locs _ ls hP hS dX6_answers_85
        · have h := (if_neg cd).symm.trans h
          refine lv_iload_n hx hb dX6_answers_79 rfl (lv_at hl 3 rfl) ?_
          refine lv_goto (tgt := 85) hx hb dX6_answers_80 (by decide) ?_
          cases h
          exact hret H locs _ ls hP hS dX6_answers_85
      · have h := (if_neg cd).symm.trans h
        refine lv_iconst (v := (1 : Int32)) hx hb dX6_answers_11 (by decide) ?_
        refine lv_istore (lv' := [(5, .int (1 : Int32)), (0, .ref (ad 0)), (1, .int a1), (2, .int a2), (3, .int v1), (4, .int v2)]) hx hb dX6_answers_12 hl (by decide) rfl (fun ls hl => ?_)
        have hL14 : ∀ (n14 : Nat) (v3 : Int32) (v4 : Int32) (H : Heap) (locs : List Loc) (ls : Array Slot), va_P D vwCl (yW ad cI cJ M) H → va_S (yA ad) s.heap H locs → lv_has ls 6 [(0, .ref (ad 0)), (1, .int a1), (2, .int a2), (3, .int v3), (4, .int v2), (5, .int v4)] → lp (fun _ _ => none) (sX6_answers_14 a1 cont5 v2 N M a2) n14 v3 v4 = some o → W p l e rX6_answers s m args below meth c H locs 0 0 Q (F0 m 14 ls []) := by
          intro n14
          induction n14 with
          | zero => intro v3 v4 H locs ls hP hS hl h; have h : (none : Option Int32) = some o := h; cases h
          | succ n14 ih14 =>
            intro v3 v4 H locs ls hP hS hl h
            have h : sX6_answers_14 a1 cont5 v2 N M a2 (lp (fun _ _ => none) (sX6_answers_14 a1 cont5 v2 N M a2) n14) v3 v4 = some o := h
            generalize lp (fun _ _ => none) (sX6_answers_14 a1 cont5 v2 N M a2) n14 = cont14 at h ih14
            unfold sX6_answers_14 at h
            refine lv_iload hx hb dX6_answers_14 (lv_at hl 5 rfl) ?_
            refine lv_iload_n hx hb dX6_answers_16 rfl (lv_at hl 1 rfl) ?_
            refine lv_icmp_ge (tgt := 69) hx hb dX6_answers_17 (by decide) (fun cd => ?_) (fun cd => ?_)
            · have h := (if_pos cd).symm.trans h
              refine lv_iinc (v := (v2 + 1)) (lv' := [(4, .int (v2 + 1)), (0, .ref (ad 0)), (1, .int a1), (2, .int a2), (3, .int v3), (5, .int v4)]) hx hb dX6_answers_69 hl (k := 4) rfl rfl (by decide) rfl (fun ls hl => ?_)
              refine lv_goto (tgt := 5) hx hb dX6_answers_72 (by decide) ?_
              exact ih5 _ _ H locs ls hP hS (lv_sub hl [1, 2, 3, 4, 0] rfl) h
            · have h := (if_neg cd).symm.trans h
              refine lv_aload_n hx hb dX6_answers_20 rfl (lv_at hl 0 rfl) ?_
              refine lv_iconst (v := (0 : Int32)) hx hb dX6_answers_21 (by decide) ?_
              refine lv_iload hx hb dX6_answers_22 (lv_at hl 4 rfl) ?_
              refine lv_iload hx hb dX6_answers_24 (lv_at hl 5 rfl) ?_
              refine lv_iload_n hx hb dX6_answers_26 rfl (lv_at hl 1 rfl) ?_
              obtain ⟨v5, h1, h⟩ := rs_bind h
              refine rs_goI (rs_runV (b := 0) (As := [.int (0 : Int32), .int v2, .int v4, .int a1]) (rest := []) C hP hS (kX6_isNought l D ad cI cJ tP tR N M (0 : Int32) v2 v4 a1 _ h1) mk_X6_isNought wd_765 (yR_0) rfl ⟨rfl, rfl, Nat.le_of_ble_eq_true rfl, Nat.le_of_ble_eq_true rfl⟩ rfl hl.1 (Nat.le_of_ble_eq_true rfl) dX6_answers_27) hS (fun H locs hP hS => ?_)
              refine lv_if_eq (tgt := 63) hx hb dX6_answers_30 (by decide) (fun cd => ?_) (fun cd => ?_)
              · have h := (if_pos cd).symm.trans h
                refine lv_iinc (v := (v4 + 1)) (lv' := [(5, .int (v4 + 1)), (0, .ref (ad 0)), (1, .int a1), (2, .int a2), (3, .int v3), (4, .int v2)]) hx hb dX6_answers_63 hl (k := 5) rfl rfl (by decide) rfl (fun ls hl => ?_)
                refine lv_goto (tgt := 14) hx hb dX6_answers_66 (by decide) ?_
                exact ih14 _ _ H locs ls hP hS (lv_sub hl [1, 2, 3, 4, 5, 0] rfl) h
              · have h := (if_neg cd).symm.trans h
                refine lv_aload_n hx hb dX6_answers_33 rfl (lv_at hl 0 rfl) ?_
                refine lv_iconst (v := (1 : Int32)) hx hb dX6_answers_34 (by decide) ?_
                refine lv_iload hx hb dX6_answers_35 (lv_at hl 4 rfl) ?_
                refine lv_iload hx hb dX6_answers_37 (lv_at hl 5 rfl) ?_
                refine lv_iload_n hx hb dX6_answers_39 rfl (lv_at hl 1 rfl) ?_
                obtain ⟨v6, h1, h⟩ := rs_bind h
                refine rs_goI (rs_runV (b := 0) (As := [.int (1 : Int32), .int v2, .int v4, .int a1]) (rest := []) C hP hS (kX6_isNought l D ad cI cJ tP tR N M (1 : Int32) v2 v4 a1 _ h1) mk_X6_isNought wd_765 (yR_0) rfl ⟨rfl, rfl, Nat.le_of_ble_eq_true rfl, Nat.le_of_ble_eq_true rfl⟩ rfl hl.1 (Nat.le_of_ble_eq_true rfl) dX6_answers_40) hS (fun H locs hP hS => ?_)
                refine lv_if_eq (tgt := 63) hx hb dX6_answers_43 (by decide) (fun cd => ?_) (fun cd => ?_)
                · have h := (if_pos cd).symm.trans h
                  refine lv_iinc (v := (v4 + 1)) (lv' := [(5, .int (v4 + 1)), (0, .ref (ad 0)), (1, .int a1), (2, .int a2), (3, .int v3), (4, .int v2)]) hx hb dX6_answers_63 hl (k := 5) rfl rfl (by decide) rfl (fun ls hl => ?_)
                  refine lv_goto (tgt := 14) hx hb dX6_answers_66 (by decide) ?_
                  exact ih14 _ _ H locs ls hP hS (lv_sub hl [1, 2, 3, 4, 5, 0] rfl) h
                · have h := (if_neg cd).symm.trans h
                  refine lv_iload_n hx hb dX6_answers_46 rfl (lv_at hl 3 rfl) ?_
                  refine lv_iload_n hx hb dX6_answers_47 rfl (lv_at hl 2 rfl) ?_
                  refine lv_icmp_ne (tgt := 60) hx hb dX6_answers_48 (by decide) (fun cd => ?_) (fun cd => ?_)
                  · have h := (if_neg cd).symm.trans h
                    refine lv_iinc (v := (v3 + 1)) (lv' := [(3, .int (v3 + 1)), (0, .ref (ad 0)), (1, .int a1), (2, .int a2), (4, .int v2), (5, .int v4)]) hx hb dX6_answers_60 hl (k := 3) rfl rfl (by decide) rfl (fun ls hl => ?_)
                    refine lv_iinc (v := (v4 + 1)) (lv' := [(5, .int (v4 + 1)), (3, .int (v3 + 1)), (0, .ref (ad 0)), (1, .int a1), (2, .int a2), (4, .int v2)]) hx hb dX6_answers_63 hl (k := 5) rfl rfl (by decide) rfl (fun ls hl => ?_)
                    refine lv_goto (tgt := 14) hx hb dX6_answers_66 (by decide) ?_
                    exact ih14 _ _ H locs ls hP hS (lv_sub hl [2, 3, 4, 1, 5, 0] rfl) h
                  · have h := (if_pos cd).symm.trans h
                    refine lv_bipush (v := (100 : Int32)) hx hb dX6_answers_51 (by decide) ?_
                    refine lv_iload hx hb dX6_answers_53 (lv_at hl 4 rfl) ?_
                    refine lv_imul hx hb dX6_answers_55 ?_
                    refine lv_iload hx hb dX6_answers_56 (lv_at hl 5 rfl) ?_
                    refine lv_iadd hx hb dX6_answers_58 ?_
                    cases h
                    exact hret H locs _ ls hP hS dX6_answers_59
        exact hL14 N _ _ H locs ls hP hS (lv_sub hl [1, 2, 3, 4, 5, 0] rfl) h
  exact hL5 N _ _ H locs ls hP hS (lv_sub hl [2, 3, 4, 1, 0] rfl) h
abbrev rX6_round : Room := { frames := 3, cells := 0, slots := 0, locals := 83 }
theorem dX6_round_0 : decode cX6_round 0 = .ok (.iload_n 1, 1) := by decide +kernel
theorem dX6_round_1 : decode cX6_round 1 = .ok (.invokestatic 195, 3) := by decide +kernel
theorem dX6_round_4 : decode cX6_round 4 = .ok (.ifCond .eq 12, 3) := by decide +kernel
theorem dX6_round_7 : decode cX6_round 7 = .ok (.aload_n 0, 1) := by decide +kernel
theorem dX6_round_8 : decode cX6_round 8 = .ok (.iload_n 1, 1) := by decide +kernel
theorem dX6_round_9 : decode cX6_round 9 = .ok (.iconst (-1), 1) := by decide +kernel
theorem dX6_round_10 : decode cX6_round 10 = .ok (.invokevirtual 198, 3) := by decide +kernel
theorem dX6_round_13 : decode cX6_round 13 = .ok (.goto 5, 3) := by decide +kernel
theorem dX6_round_16 : decode cX6_round 16 = .ok (.bipush (-2), 2) := by decide +kernel
theorem dX6_round_18 : decode cX6_round 18 = .ok (.ireturn, 1) := by decide +kernel
set_option maxRecDepth 100000 in
set_option maxHeartbeats 4000000 in
theorem kX6_round (l : Launch) (D : va_G) (ad : Nat → Nat) (cI cJ : ClassId) (tP tR : Nat) (N : Nat) (M : Mem) (a1 : Int32)  (o : Int32) (h : fX6_round N M a1 = some o) : qMet l D cI cJ tP tR (yA ad) (yW ad cI cJ) yX6_round cX6_round 2 (some .int) rX6_round [.ref (ad 0), .int a1] M (qQi D (yA ad) (yW ad cI cJ) o M) := by
  refine rs_enterI (own := RX6) ⟨by decide +kernel, rfl, Nat.le_of_ble_eq_true rfl⟩ ?_
  intro p e s m args below meth c Q C hret H locs ls hP hS hl
  obtain ⟨hx, hb, -⟩ := id C
  have hl : lv_has ls 2 [(0, .ref (ad 0)), (1, .int a1)] := hl
  unfold fX6_round at h
  refine lv_iload_n hx hb dX6_round_0 rfl (lv_at hl 1 rfl) ?_
  obtain ⟨v1, h1, h⟩ := rs_bind h
  refine rs_goI (rs_runS (As := [.int a1]) (rest := []) C hP hS (kX6_isPrime l D ad cI cJ tP tR N M a1 _ h1) mk_X6_isPrime wd_757 rfl ⟨rfl, rfl, Nat.le_of_ble_eq_true rfl, Nat.le_of_ble_eq_true rfl⟩ rfl hl.1 (Nat.le_of_ble_eq_true rfl) dX6_round_1) hS (fun H locs hP hS => ?_)
  refine lv_if_eq (tgt := 16) hx hb dX6_round_4 (by decide) (fun cd => ?_) (fun cd => ?_)
  · have h := (if_pos cd).symm.trans h
    refine lv_bipush (v := (-2 : Int32)) hx hb dX6_round_16 (by decide) ?_
    cases h
    exact hret H locs _ ls hP hS dX6_round_18
  · have h := (if_neg cd).symm.trans h
    refine lv_aload_n hx hb dX6_round_7 rfl (lv_at hl 0 rfl) ?_
    refine lv_iload_n hx hb dX6_round_8 rfl (lv_at hl 1 rfl) ?_
    refine lv_iconst (v := (-1 : Int32)) hx hb dX6_round_9 (by decide) ?_
    obtain ⟨v2, h1, h⟩ := rs_bind h
    refine rs_goI (rs_runV (b := 0) (As := [.int a1, .int (-1 : Int32)]) (rest := []) C hP hS (kX6_answers l D ad cI cJ tP tR N M a1 (-1 : Int32) _ h1) mk_X6_answers wd_761 (yR_0) rfl ⟨rfl, rfl, Nat.le_of_ble_eq_true rfl, Nat.le_of_ble_eq_true rfl⟩ rfl hl.1 (Nat.le_of_ble_eq_true rfl) dX6_round_10) hS (fun H locs hP hS => ?_)
    refine lv_goto (tgt := 18) hx hb dX6_round_13 (by decide) ?_
    cases h
    exact hret H locs _ ls hP hS dX6_round_18
abbrev rX6_answer : Room := { frames := 3, cells := 0, slots := 0, locals := 83 }
theorem dX6_answer_0 : decode cX6_answer 0 = .ok (.iload_n 1, 1) := by decide +kernel
theorem dX6_answer_1 : decode cX6_answer 1 = .ok (.invokestatic 195, 3) := by decide +kernel
theorem dX6_answer_4 : decode cX6_answer 4 = .ok (.ifCond .ne 8, 3) := by decide +kernel
theorem dX6_answer_7 : decode cX6_answer 7 = .ok (.bipush (-2), 2) := by decide +kernel
theorem dX6_answer_9 : decode cX6_answer 9 = .ok (.goto 18, 3) := by decide +kernel
theorem dX6_answer_12 : decode cX6_answer 12 = .ok (.iload_n 2, 1) := by decide +kernel
theorem dX6_answer_13 : decode cX6_answer 13 = .ok (.ifCond .ge 8, 3) := by decide +kernel
theorem dX6_answer_16 : decode cX6_answer 16 = .ok (.bipush (-6), 2) := by decide +kernel
theorem dX6_answer_18 : decode cX6_answer 18 = .ok (.goto 9, 3) := by decide +kernel
theorem dX6_answer_21 : decode cX6_answer 21 = .ok (.aload_n 0, 1) := by decide +kernel
theorem dX6_answer_22 : decode cX6_answer 22 = .ok (.iload_n 1, 1) := by decide +kernel
theorem dX6_answer_23 : decode cX6_answer 23 = .ok (.iload_n 2, 1) := by decide +kernel
theorem dX6_answer_24 : decode cX6_answer 24 = .ok (.invokevirtual 198, 3) := by decide +kernel
theorem dX6_answer_27 : decode cX6_answer 27 = .ok (.ireturn, 1) := by decide +kernel
set_option maxRecDepth 100000 in
set_option maxHeartbeats 4000000 in
theorem kX6_answer (l : Launch) (D : va_G) (ad : Nat → Nat) (cI cJ : ClassId) (tP tR : Nat) (N : Nat) (M : Mem) (a1 : Int32) (a2 : Int32)  (o : Int32) (h : fX6_answer N M a1 a2 = some o) : qMet l D cI cJ tP tR (yA ad) (yW ad cI cJ) yX6_answer cX6_answer 3 (some .int) rX6_answer [.ref (ad 0), .int a1, .int a2] M (qQi D (yA ad) (yW ad cI cJ) o M) := by
  refine rs_enterI (own := RX6) ⟨by decide +kernel, rfl, Nat.le_of_ble_eq_true rfl⟩ ?_
  intro p e s m args below meth c Q C hret H locs ls hP hS hl
  obtain ⟨hx, hb, -⟩ := id C
  have hl : lv_has ls 3 [(0, .ref (ad 0)), (1, .int a1), (2, .int a2)] := hl
  unfold fX6_answer at h
  refine lv_iload_n hx hb dX6_answer_0 rfl (lv_at hl 1 rfl) ?_
  obtain ⟨v1, h1, h⟩ := rs_bind h
  refine rs_goI (rs_runS (As := [.int a1]) (rest := []) C hP hS (kX6_isPrime l D ad cI cJ tP tR N M a1 _ h1) mk_X6_isPrime wd_757 rfl ⟨rfl, rfl, Nat.le_of_ble_eq_true rfl, Nat.le_of_ble_eq_true rfl⟩ rfl hl.1 (Nat.le_of_ble_eq_true rfl) dX6_answer_1) hS (fun H locs hP hS => ?_)
  refine lv_if_ne (tgt := 12) hx hb dX6_answer_4 (by decide) (fun cd => ?_) (fun cd => ?_)
  · have h := (if_neg cd).symm.trans h
    refine lv_iload_n hx hb dX6_answer_12 rfl (lv_at hl 2 rfl) ?_
    refine lv_if_ge (tgt := 21) hx hb dX6_answer_13 (by decide) (fun cd => ?_) (fun cd => ?_)
    · have h := (if_pos cd).symm.trans h
      refine lv_aload_n hx hb dX6_answer_21 rfl (lv_at hl 0 rfl) ?_
      refine lv_iload_n hx hb dX6_answer_22 rfl (lv_at hl 1 rfl) ?_
      refine lv_iload_n hx hb dX6_answer_23 rfl (lv_at hl 2 rfl) ?_
      obtain ⟨v2, h1, h⟩ := rs_bind h
      refine rs_goI (rs_runV (b := 0) (As := [.int a1, .int a2]) (rest := []) C hP hS (kX6_answers l D ad cI cJ tP tR N M a1 a2 _ h1) mk_X6_answers wd_761 (yR_0) rfl ⟨rfl, rfl, Nat.le_of_ble_eq_true rfl, Nat.le_of_ble_eq_true rfl⟩ rfl hl.1 (Nat.le_of_ble_eq_true rfl) dX6_answer_24) hS (fun H locs hP hS => ?_)
      cases h
      exact hret H locs _ ls hP hS dX6_answer_27
    · have h := (if_neg cd).symm.trans h
      refine lv_bipush (v := (-6 : Int32)) hx hb dX6_answer_16 (by decide) ?_
      refine lv_goto (tgt := 27) hx hb dX6_answer_18 (by decide) ?_
      cases h
      exact hret H locs _ ls hP hS dX6_answer_27
  · have h := (if_pos cd).symm.trans h
    refine lv_bipush (v := (-2 : Int32)) hx hb dX6_answer_7 (by decide) ?_
    refine lv_goto (tgt := 27) hx hb dX6_answer_9 (by decide) ?_
    cases h
    exact hret H locs _ ls hP hS dX6_answer_27
abbrev rX6_told : Room := { frames := 2, cells := 0, slots := 0, locals := 45 }
theorem dX6_told_0 : decode cX6_told 0 = .ok (.iload_n 1, 1) := by decide +kernel
theorem dX6_told_1 : decode cX6_told 1 = .ok (.invokestatic 52, 3) := by decide +kernel
theorem dX6_told_4 : decode cX6_told 4 = .ok (.ifCond .eq 12, 3) := by decide +kernel
theorem dX6_told_7 : decode cX6_told 7 = .ok (.aload_n 0, 1) := by decide +kernel
theorem dX6_told_8 : decode cX6_told 8 = .ok (.getfield 22, 3) := by decide +kernel
theorem dX6_told_11 : decode cX6_told 11 = .ok (.iload_n 1, 1) := by decide +kernel
theorem dX6_told_12 : decode cX6_told 12 = .ok (.iaload, 1) := by decide +kernel
theorem dX6_told_13 : decode cX6_told 13 = .ok (.goto 4, 3) := by decide +kernel
theorem dX6_told_16 : decode cX6_told 16 = .ok (.iconst (-1), 1) := by decide +kernel
theorem dX6_told_17 : decode cX6_told 17 = .ok (.ireturn, 1) := by decide +kernel
set_option maxRecDepth 100000 in
set_option maxHeartbeats 4000000 in
theorem kX6_told (l : Launch) (D : va_G) (ad : Nat → Nat) (cI cJ : ClassId) (tP tR : Nat) (M : Mem) (a1 : Int32)  (o : Int32) (h : fX6_told M a1 = some o) : qMet l D cI cJ tP tR (yA ad) (yW ad cI cJ) yX6_told cX6_told 2 (some .int) rX6_told [.ref (ad 0), .int a1] M (qQi D (yA ad) (yW ad cI cJ) o M) := by
  refine rs_enterI (own := RX6) ⟨by decide +kernel, rfl, Nat.le_of_ble_eq_true rfl⟩ ?_
  intro p e s m args below meth c Q C hret H locs ls hP hS hl
  obtain ⟨hx, hb, -⟩ := id C
  have hl : lv_has ls 2 [(0, .ref (ad 0)), (1, .int a1)] := hl
  unfold fX6_told at h
  refine lv_iload_n hx hb dX6_told_0 rfl (lv_at hl 1 rfl) ?_
  obtain ⟨v1, h1, h⟩ := rs_bind h
  refine rs_goI (rs_runS (As := [.int a1]) (rest := []) C hP hS (kX6_isEquation l D ad cI cJ tP tR M a1 _ h1) mk_X6_isEquation wd_590 rfl ⟨rfl, rfl, Nat.le_of_ble_eq_true rfl, Nat.le_of_ble_eq_true rfl⟩ rfl hl.1 (Nat.le_of_ble_eq_true rfl) dX6_told_1) hS (fun H locs hP hS => ?_)
  refine lv_if_eq (tgt := 16) hx hb dX6_told_4 (by decide) (fun cd => ?_) (fun cd => ?_)
  · have h := (if_pos cd).symm.trans h
    refine lv_iconst (v := (-1 : Int32)) hx hb dX6_told_16 (by decide) ?_
    cases h
    exact hret H locs _ ls hP hS dX6_told_17
  · have h := (if_neg cd).symm.trans h
    refine lv_aload_n hx hb dX6_told_7 rfl (lv_at hl 0 rfl) ?_
    refine gfX6_22 C hP dX6_told_8 ?_
    refine lv_iload_n hx hb dX6_told_11 rfl (lv_at hl 1 rfl) ?_
    refine rs_iald C hP yIA_5 dX6_told_12 h (fun v2 h => ?_)
    refine lv_goto (tgt := 17) hx hb dX6_told_13 (by decide) ?_
    cases h
    exact hret H locs _ ls hP hS dX6_told_17

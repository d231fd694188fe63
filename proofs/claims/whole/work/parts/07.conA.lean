theorem rs_okZ {v o : Int32} (h : okZ v = some o) : o = v ∧ (v = 0 ∨ v = 1) := by
  unfold okZ at h
  by_cases hz : v = 0 ∨ v = 1
  · rw [if_pos hz] at h; cases h; exact ⟨rfl, hz⟩
  · rw [if_neg hz] at h; cases h
theorem rs_okZM {v : Int32} {M : Mem} {o : Int32 × Mem} (h : okZM v M = some o) : o = (v, M) ∧ (v = 0 ∨ v = 1) := by
  unfold okZM at h
  by_cases hz : v = 0 ∨ v = 1
  · rw [if_pos hz] at h; cases h; exact ⟨rfl, hz⟩
  · rw [if_neg hz] at h; cases h
theorem eqOf_cell {M : Mem} {a : Int32} {e0 : Nat} (h : fX5_equationOf M a = some (some e0)) : e0 = 1 ∨ e0 = 6 := by
  unfold fX5_equationOf at h
  repeat (first | (split at h) | (simp at h; omega) | (cases h))
abbrev rX5_equationOf : Room := { frames := 0, cells := 0, slots := 0, locals := 0 }
theorem dX5_equationOf_0 : decode cX5_equationOf 0 = .ok (.iload_n 1, 1) := by decide +kernel
theorem dX5_equationOf_1 : decode cX5_equationOf 1 = .ok (.ifCond .ne 8, 3) := by decide +kernel
theorem dX5_equationOf_4 : decode cX5_equationOf 4 = .ok (.aload_n 0, 1) := by decide +kernel
theorem dX5_equationOf_5 : decode cX5_equationOf 5 = .ok (.getfield 10, 3) := by decide +kernel
theorem dX5_equationOf_8 : decode cX5_equationOf 8 = .ok (.areturn, 1) := by decide +kernel
theorem dX5_equationOf_9 : decode cX5_equationOf 9 = .ok (.iload_n 1, 1) := by decide +kernel
theorem dX5_equationOf_10 : decode cX5_equationOf 10 = .ok (.iconst 1, 1) := by decide +kernel
theorem dX5_equationOf_11 : decode cX5_equationOf 11 = .ok (.if_icmp .ne 10, 3) := by decide +kernel
theorem dX5_equationOf_14 : decode cX5_equationOf 14 = .ok (.aload_n 0, 1) := by decide +kernel
theorem dX5_equationOf_15 : decode cX5_equationOf 15 = .ok (.getfield 16, 3) := by decide +kernel
theorem dX5_equationOf_18 : decode cX5_equationOf 18 = .ok (.goto 4, 3) := by decide +kernel
theorem dX5_equationOf_21 : decode cX5_equationOf 21 = .ok (.aconst_null, 1) := by decide +kernel
theorem dX5_equationOf_22 : decode cX5_equationOf 22 = .ok (.areturn, 1) := by decide +kernel
set_option maxRecDepth 100000 in
set_option maxHeartbeats 4000000 in
theorem kX5_equationOf (l : Launch) (D : va_G) (ad : Nat → Nat) (cI cJ : ClassId) (tP tR : Nat) (M : Mem) (a1 : Int32)  (o : (Option Nat)) (h : fX5_equationOf M a1 = some o) : qMet l D cI cJ tP tR (xA ad) (xW ad cI cJ) yX5_equationOf cX5_equationOf 2 (some (.object "RootShapes$Equation")) rX5_equationOf [.ref (ad 0), .int a1] M (qQr D (xA ad) (xW ad cI cJ) (Option.map ad o) M) := by
  refine rs_enterR (own := RX5) ⟨by decide +kernel, rfl, Nat.le_of_ble_eq_true rfl⟩ ?_
  intro p e s m args below meth c Q C hret H locs ls hP hS hl
  obtain ⟨hx, hb, -⟩ := id C
  have hl : lv_has ls 2 [(0, .ref (ad 0)), (1, .int a1)] := hl
  unfold fX5_equationOf at h
  refine lv_iload_n hx hb dX5_equationOf_0 rfl (lv_at hl 1 rfl) ?_
  refine lv_if_ne (tgt := 9) hx hb dX5_equationOf_1 (by decide) (fun cd => ?_) (fun cd => ?_)
  · have h := (if_neg cd).symm.trans h
    refine lv_iload_n hx hb dX5_equationOf_9 rfl (lv_at hl 1 rfl) ?_
    refine lv_iconst (v := (1 : Int32)) hx hb dX5_equationOf_10 (by decide) ?_
    refine lv_icmp_ne (tgt := 21) hx hb dX5_equationOf_11 (by decide) (fun cd => ?_) (fun cd => ?_)
    · have h := (if_neg cd).symm.trans h
      refine lv_null hx hb dX5_equationOf_21 ?_
      cases h
      exact hret H locs _ ls hP hS dX5_equationOf_22
    · have h := (if_pos cd).symm.trans h
      refine lv_aload_n hx hb dX5_equationOf_14 rfl (lv_at hl 0 rfl) ?_
      refine gfX5_16 C hP dX5_equationOf_15 ?_
      refine lv_goto (tgt := 22) hx hb dX5_equationOf_18 (by decide) ?_
      cases h
      exact hret H locs _ ls hP hS dX5_equationOf_22
  · have h := (if_pos cd).symm.trans h
    refine lv_aload_n hx hb dX5_equationOf_4 rfl (lv_at hl 0 rfl) ?_
    refine gfX5_10 C hP dX5_equationOf_5 ?_
    cases h
    exact hret H locs _ ls hP hS dX5_equationOf_8
abbrev rX5_within : Room := { frames := 0, cells := 0, slots := 0, locals := 0 }
theorem dX5_within_0 : decode cX5_within 0 = .ok (.iload_n 0, 1) := by decide +kernel
theorem dX5_within_1 : decode cX5_within 1 = .ok (.iload_n 1, 1) := by decide +kernel
theorem dX5_within_2 : decode cX5_within 2 = .ok (.if_icmp .lt 12, 3) := by decide +kernel
theorem dX5_within_5 : decode cX5_within 5 = .ok (.iload_n 0, 1) := by decide +kernel
theorem dX5_within_6 : decode cX5_within 6 = .ok (.iload_n 2, 1) := by decide +kernel
theorem dX5_within_7 : decode cX5_within 7 = .ok (.if_icmp .gt 7, 3) := by decide +kernel
theorem dX5_within_10 : decode cX5_within 10 = .ok (.iconst 1, 1) := by decide +kernel
theorem dX5_within_11 : decode cX5_within 11 = .ok (.goto 4, 3) := by decide +kernel
theorem dX5_within_14 : decode cX5_within 14 = .ok (.iconst 0, 1) := by decide +kernel
theorem dX5_within_15 : decode cX5_within 15 = .ok (.ireturn, 1) := by decide +kernel
set_option maxRecDepth 100000 in
set_option maxHeartbeats 4000000 in
theorem kX5_within (l : Launch) (D : va_G) (ad : Nat → Nat) (cI cJ : ClassId) (tP tR : Nat) (M : Mem) (a0 : Int32) (a1 : Int32) (a2 : Int32)  (o : Int32) (h : fX5_within a0 a1 a2 = some o) : qMet l D cI cJ tP tR (xA ad) (xW ad cI cJ) yX5_within cX5_within 3 (some .boolean) rX5_within [.int a0, .int a1, .int a2] M (qQi D (xA ad) (xW ad cI cJ) o M) := by
  refine rs_enterZ (own := RX5) ⟨by decide +kernel, rfl, Nat.le_of_ble_eq_true rfl⟩ ?_
  intro p e s m args below meth c Q C hret H locs ls hP hS hl
  obtain ⟨hx, hb, -⟩ := id C
  have hl : lv_has ls 3 [(0, .int a0), (1, .int a1), (2, .int a2)] := hl
  unfold fX5_within at h
  refine lv_iload_n hx hb dX5_within_0 rfl (lv_at hl 0 rfl) ?_
  refine lv_iload_n hx hb dX5_within_1 rfl (lv_at hl 1 rfl) ?_
  refine lv_icmp_lt (tgt := 14) hx hb dX5_within_2 (by decide) (fun cd => ?_) (fun cd => ?_)
  · have h := (if_pos cd).symm.trans h
    refine lv_iconst (v := (0 : Int32)) hx hb dX5_within_14 (by decide) ?_
    obtain ⟨rfl, hz⟩ := rs_okZ h
    exact hret H locs _ ls hz hP hS dX5_within_15
  · have h := (if_neg cd).symm.trans h
    refine lv_iload_n hx hb dX5_within_5 rfl (lv_at hl 0 rfl) ?_
    refine lv_iload_n hx hb dX5_within_6 rfl (lv_at hl 2 rfl) ?_
    refine lv_icmp_gt (tgt := 14) hx hb dX5_within_7 (by decide) (fun cd => ?_) (fun cd => ?_)
    · have h := (if_pos cd).symm.trans h
      refine lv_iconst (v := (0 : Int32)) hx hb dX5_within_14 (by decide) ?_
      obtain ⟨rfl, hz⟩ := rs_okZ h
      exact hret H locs _ ls hz hP hS dX5_within_15
    · have h := (if_neg cd).symm.trans h
      refine lv_iconst (v := (1 : Int32)) hx hb dX5_within_10 (by decide) ?_
      refine lv_goto (tgt := 15) hx hb dX5_within_11 (by decide) ?_
      obtain ⟨rfl, hz⟩ := rs_okZ h
      exact hret H locs _ ls hz hP hS dX5_within_15
abbrev rX5_isFactor : Room := { frames := 1, cells := 0, slots := 0, locals := 22 }
theorem dX5_isFactor_0 : decode cX5_isFactor 0 = .ok (.iload_n 0, 1) := by decide +kernel
theorem dX5_isFactor_1 : decode cX5_isFactor 1 = .ok (.ifCond .eq 18, 3) := by decide +kernel
theorem dX5_isFactor_4 : decode cX5_isFactor 4 = .ok (.iload_n 0, 1) := by decide +kernel
theorem dX5_isFactor_5 : decode cX5_isFactor 5 = .ok (.bipush (-20), 2) := by decide +kernel
theorem dX5_isFactor_7 : decode cX5_isFactor 7 = .ok (.bipush 20, 2) := by decide +kernel
theorem dX5_isFactor_9 : decode cX5_isFactor 9 = .ok (.invokestatic 51, 3) := by decide +kernel
theorem dX5_isFactor_12 : decode cX5_isFactor 12 = .ok (.ifCond .eq 7, 3) := by decide +kernel
theorem dX5_isFactor_15 : decode cX5_isFactor 15 = .ok (.iconst 1, 1) := by decide +kernel
theorem dX5_isFactor_16 : decode cX5_isFactor 16 = .ok (.goto 4, 3) := by decide +kernel
theorem dX5_isFactor_19 : decode cX5_isFactor 19 = .ok (.iconst 0, 1) := by decide +kernel
theorem dX5_isFactor_20 : decode cX5_isFactor 20 = .ok (.ireturn, 1) := by decide +kernel
set_option maxRecDepth 100000 in
set_option maxHeartbeats 4000000 in
theorem kX5_isFactor (l : Launch) (D : va_G) (ad : Nat → Nat) (cI cJ : ClassId) (tP tR : Nat) (M : Mem) (a0 : Int32)  (o : Int32) (h : fX5_isFactor a0 = some o) : qMet l D cI cJ tP tR (xA ad) (xW ad cI cJ) yX5_isFactor cX5_isFactor 1 (some .boolean) rX5_isFactor [.int a0] M (qQi D (xA ad) (xW ad cI cJ) o M) := by
  refine rs_enterZ (own := RX5) ⟨by decide +kernel, rfl, Nat.le_of_ble_eq_true rfl⟩ ?_
  intro p e s m args below meth c Q C hret H locs ls hP hS hl
  obtain ⟨hx, hb, -⟩ := id C
  have hl : lv_has ls 1 [(0, .int a0)] := hl
  unfold fX5_isFactor at h
  refine lv_iload_n hx hb dX5_isFactor_0 rfl (lv_at hl 0 rfl) ?_
  refine lv_if_eq (tgt := 19) hx hb dX5_isFactor_1 (by decide) (fun cd => ?_) (fun cd => ?_)
  · have h := (if_pos cd).symm.trans h
    refine lv_iconst (v := (0 : Int32)) hx hb dX5_isFactor_19 (by decide) ?_
    obtain ⟨rfl, hz⟩ := rs_okZ h
    exact hret H locs _ ls hz hP hS dX5_isFactor_20
  · have h := (if_neg cd).symm.trans h
    refine lv_iload_n hx hb dX5_isFactor_4 rfl (lv_at hl 0 rfl) ?_
    refine lv_bipush (v := (-20 : Int32)) hx hb dX5_isFactor_5 (by decide) ?_
    refine lv_bipush (v := (20 : Int32)) hx hb dX5_isFactor_7 (by decide) ?_
    obtain ⟨v1, h1, h⟩ := rs_bind h
    refine rs_goI (rs_runS (As := [.int a0, .int (-20 : Int32), .int (20 : Int32)]) (rest := []) C hP hS (kX5_within l D ad cI cJ tP tR M a0 (-20 : Int32) (20 : Int32) _ h1) mk_X5_within wd_231 rfl ⟨rfl, rfl, Nat.le_of_ble_eq_true rfl, Nat.le_of_ble_eq_true rfl⟩ rfl hl.1 (Nat.le_of_ble_eq_true rfl) dX5_isFactor_9) hS (fun H locs hP hS => ?_)
    refine lv_if_eq (tgt := 19) hx hb dX5_isFactor_12 (by decide) (fun cd => ?_) (fun cd => ?_)
    · have h := (if_pos cd).symm.trans h
      refine lv_iconst (v := (0 : Int32)) hx hb dX5_isFactor_19 (by decide) ?_
      obtain ⟨rfl, hz⟩ := rs_okZ h
      exact hret H locs _ ls hz hP hS dX5_isFactor_20
    · have h := (if_neg cd).symm.trans h
      refine lv_iconst (v := (1 : Int32)) hx hb dX5_isFactor_15 (by decide) ?_
      refine lv_goto (tgt := 20) hx hb dX5_isFactor_16 (by decide) ?_
      obtain ⟨rfl, hz⟩ := rs_okZ h
      exact hret H locs _ ls hz hP hS dX5_isFactor_20
abbrev rX0_holds : Room := { frames := 0, cells := 0, slots := 0, locals := 0 }
theorem dX0_holds_0 : decode cX0_holds 0 = .ok (.iconst 0, 1) := by decide +kernel
theorem dX0_holds_1 : decode cX0_holds 1 = .ok (.istore_n 3, 1) := by decide +kernel
theorem dX0_holds_2 : decode cX0_holds 2 = .ok (.iload_n 3, 1) := by decide +kernel
theorem dX0_holds_3 : decode cX0_holds 3 = .ok (.aload_n 0, 1) := by decide +kernel
theorem dX0_holds_4 : decode cX0_holds 4 = .ok (.getfield 24, 3) := by decide +kernel
theorem dX0_holds_7 : decode cX0_holds 7 = .ok (.if_icmp .ge 31, 3) := by decide +kernel
theorem dX0_holds_10 : decode cX0_holds 10 = .ok (.aload_n 0, 1) := by decide +kernel
theorem dX0_holds_11 : decode cX0_holds 11 = .ok (.getfield 9, 3) := by decide +kernel
theorem dX0_holds_14 : decode cX0_holds 14 = .ok (.iload_n 3, 1) := by decide +kernel
theorem dX0_holds_15 : decode cX0_holds 15 = .ok (.iaload, 1) := by decide +kernel
theorem dX0_holds_16 : decode cX0_holds 16 = .ok (.iload_n 1, 1) := by decide +kernel
theorem dX0_holds_17 : decode cX0_holds 17 = .ok (.if_icmp .ne 15, 3) := by decide +kernel
theorem dX0_holds_20 : decode cX0_holds 20 = .ok (.aload_n 0, 1) := by decide +kernel
theorem dX0_holds_21 : decode cX0_holds 21 = .ok (.getfield 15, 3) := by decide +kernel
theorem dX0_holds_24 : decode cX0_holds 24 = .ok (.iload_n 3, 1) := by decide +kernel
theorem dX0_holds_25 : decode cX0_holds 25 = .ok (.iaload, 1) := by decide +kernel
theorem dX0_holds_26 : decode cX0_holds 26 = .ok (.iload_n 2, 1) := by decide +kernel
theorem dX0_holds_27 : decode cX0_holds 27 = .ok (.if_icmp .ne 5, 3) := by decide +kernel
theorem dX0_holds_30 : decode cX0_holds 30 = .ok (.iconst 1, 1) := by decide +kernel
theorem dX0_holds_31 : decode cX0_holds 31 = .ok (.ireturn, 1) := by decide +kernel
theorem dX0_holds_32 : decode cX0_holds 32 = .ok (.iinc 3 1, 3) := by decide +kernel
theorem dX0_holds_35 : decode cX0_holds 35 = .ok (.goto (-33), 3) := by decide +kernel
theorem dX0_holds_38 : decode cX0_holds 38 = .ok (.iconst 0, 1) := by decide +kernel
theorem dX0_holds_39 : decode cX0_holds 39 = .ok (.ireturn, 1) := by decide +kernel
set_option maxRecDepth 100000 in
set_option maxHeartbeats 4000000 in
theorem kX0_holds (l : Launch) (D : va_G) (ad : Nat → Nat) (cI cJ : ClassId) (tP tR : Nat) (N : Nat) (M : Mem) (a0 : Nat) (a1 : Int32) (a2 : Int32) (ha0 : a0 = 1 ∨ a0 = 6) (o : Int32) (h : fX0_holds N M a0 a1 a2 = some o) : qMet l D cI cJ tP tR (xA ad) (xW ad cI cJ) yX0_holds cX0_holds 4 (some .boolean) rX0_holds [.ref (ad a0), .int a1, .int a2] M (qQi D (xA ad) (xW ad cI cJ) o M) := by
  refine rs_enterZ (own := RX0) ⟨by decide +kernel, rfl, Nat.le_of_ble_eq_true rfl⟩ ?_
  intro p e s m args below meth c Q C hret H locs ls hP hS hl
  obtain ⟨hx, hb, -⟩ := id C
  have hl : lv_has ls 4 [(0, .ref (ad a0)), (1, .int a1), (2, .int a2)] := hl
  unfold fX0_holds at h
  refine lv_iconst (v := (0 : Int32)) hx hb dX0_holds_0 (by decide) ?_
  refine lv_istore_n (lv' := [(3, .int (0 : Int32)), (0, .ref (ad a0)), (1, .int a1), (2, .int a2)]) hx hb dX0_holds_1 rfl hl (by decide) rfl (fun ls hl => ?_)
  have hL2 : ∀ (n2 : Nat) (v1 : Int32) (H : Heap) (locs : List Loc) (ls : Array Slot), va_P D vwCl (xW ad cI cJ M) H → va_S (xA ad) s.heap H locs → lv_has ls 4 [(0, .ref (ad a0)), (1, .int a1), (2, .int a2), (3, .int v1)] → lp (fun _ => none) (sX0_holds_2 M a0 a1 a2) n2 v1 = some o → W p l e rX0_holds s m args below meth c H locs 0 0 Q (F0 m 2 ls []) := by
    intro n2
    induction n2 with
    | zero => intro v1 H locs ls hP hS hl h; have h : (none : Option Int32) = some o := h; cases h
    | succ n2 ih2 =>
      intro v1 H locs ls hP hS hl h
      have h : sX0_holds_2 M a0 a1 a2 (lp (fun _ => none) (sX0_holds_2 M a0 a1 a2) n2) v1 = some o := h
      generalize lp (fun _ => none) (sX0_holds_2 M a0 a1 a2) n2 = cont2 at h ih2
      unfold sX0_holds_2 at h
      refine lv_iload_n hx hb dX0_holds_2 rfl (lv_at hl 3 rfl) ?_
      refine lv_aload_n hx hb dX0_holds_3 rfl (lv_at hl 0 rfl) ?_
      refine gfX0_24 C hP ha0 dX0_holds_4 ?_
      refine lv_icmp_ge (tgt := 38) hx hb dX0_holds_7 (by decide) (fun cd => ?_) (fun cd => ?_)
      · have h := (if_pos cd).symm.trans h
        refine lv_iconst (v := (0 : Int32)) hx hb dX0_holds_38 (by decide) ?_
        obtain ⟨rfl, hz⟩ := rs_okZ h
        exact hret H locs _ ls hz hP hS dX0_holds_39
      · have h := (if_neg cd).symm.trans h
        refine lv_aload_n hx hb dX0_holds_10 rfl (lv_at hl 0 rfl) ?_
        refine gfX0_9 C hP ha0 dX0_holds_11 ?_
        refine lv_iload_n hx hb dX0_holds_14 rfl (lv_at hl 3 rfl) ?_
        refine rs_iald C hP (xIA_e1 ha0) dX0_holds_15 h (fun v2 h => ?_)
        refine lv_iload_n hx hb dX0_holds_16 rfl (lv_at hl 1 rfl) ?_
        refine lv_icmp_ne (tgt := 32) hx hb dX0_holds_17 (by decide) (fun cd => ?_) (fun cd => ?_)
        · have h := (if_neg cd).symm.trans h
          refine lv_iinc (v := (v1 + 1)) (lv' := [(3, .int (v1 + 1)), (0, .ref (ad a0)), (1, .int a1), (2, .int a2)]) hx hb dX0_holds_32 hl (k := 3) rfl rfl (by decide) rfl (fun ls hl => ?_)
          refine lv_goto (tgt := 2) hx hb dX0_holds_35 (by decide) ?_
          exact ih2 _ H locs ls hP hS (lv_sub hl [1, 2, 3, 0] rfl) h
        · have h := (if_pos cd).symm.trans h
          refine lv_aload_n hx hb dX0_holds_20 rfl (lv_at hl 0 rfl) ?_
          refine gfX0_15 C hP ha0 dX0_holds_21 ?_
          refine lv_iload_n hx hb dX0_holds_24 rfl (lv_at hl 3 rfl) ?_
          refine rs_iald C hP (xIA_e2 ha0) dX0_holds_25 h (fun v3 h => ?_)
          refine lv_iload_n hx hb dX0_holds_26 rfl (lv_at hl 2 rfl) ?_
          refine lv_icmp_ne (tgt := 32) hx hb dX0_holds_27 (by decide) (fun cd => ?_) (fun cd => ?_)
          · have h := (if_neg cd).symm.trans h
            refine lv_iinc (v := (v1 + 1)) (lv' := [(3, .int (v1 + 1)), (0, .ref (ad a0)), (1, .int a1), (2, .int a2)]) hx hb dX0_holds_32 hl (k := 3) rfl rfl (by decide) rfl (fun ls hl => ?_)
            refine lv_goto (tgt := 2) hx hb dX0_holds_35 (by decide) ?_
            exact ih2 _ H locs ls hP hS (lv_sub hl [1, 2, 3, 0] rfl) h
          · have h := (if_pos cd).symm.trans h
            refine lv_iconst (v := (1 : Int32)) hx hb dX0_holds_30 (by decide) ?_
            obtain ⟨rfl, hz⟩ := rs_okZ h
            exact hret H locs _ ls hz hP hS dX0_holds_31
  exact hL2 N _ H locs ls hP hS (lv_sub hl [1, 2, 3, 0] rfl) h
abbrev rX5_forgetFound : Room := { frames := 0, cells := 0, slots := 0, locals := 0 }
theorem dX5_forgetFound_0 : decode cX5_forgetFound 0 = .ok (.aload_n 0, 1) := by decide +kernel
theorem dX5_forgetFound_1 : decode cX5_forgetFound 1 = .ok (.getfield 29, 3) := by decide +kernel
theorem dX5_forgetFound_4 : decode cX5_forgetFound 4 = .ok (.iconst 0, 1) := by decide +kernel
theorem dX5_forgetFound_5 : decode cX5_forgetFound 5 = .ok (.putfield 170, 3) := by decide +kernel
theorem dX5_forgetFound_8 : decode cX5_forgetFound 8 = .ok (.aload_n 0, 1) := by decide +kernel
theorem dX5_forgetFound_9 : decode cX5_forgetFound 9 = .ok (.getfield 43, 3) := by decide +kernel
theorem dX5_forgetFound_12 : decode cX5_forgetFound 12 = .ok (.iconst 0, 1) := by decide +kernel
theorem dX5_forgetFound_13 : decode cX5_forgetFound 13 = .ok (.putfield 173, 3) := by decide +kernel
theorem dX5_forgetFound_16 : decode cX5_forgetFound 16 = .ok (.return_, 1) := by decide +kernel
set_option maxRecDepth 100000 in
set_option maxHeartbeats 4000000 in
theorem kX5_forgetFound (l : Launch) (D : va_G) (ad : Nat → Nat) (cI cJ : ClassId) (tP tR : Nat) (M : Mem)   (o : Mem) (h : fX5_forgetFound M  = some o) : qMet l D cI cJ tP tR (xA ad) (xW ad cI cJ) yX5_forgetFound cX5_forgetFound 1 none rX5_forgetFound [.ref (ad 0)] M (qQv D (xA ad) (xW ad cI cJ) o) := by
  refine rs_enterV (own := RX5) ⟨by decide +kernel, rfl, Nat.le_of_ble_eq_true rfl⟩ ?_
  intro p e s m args below meth c Q C hret H locs ls hP hS hl
  obtain ⟨hx, hb, -⟩ := id C
  have hl : lv_has ls 1 [(0, .ref (ad 0))] := hl
  unfold fX5_forgetFound at h
  refine lv_aload_n hx hb dX5_forgetFound_0 rfl (lv_at hl 0 rfl) ?_
  refine gfX5_29 C hP dX5_forgetFound_1 ?_
  refine lv_iconst (v := (0 : Int32)) hx hb dX5_forgetFound_4 (by decide) ?_
  refine pfX5_170 C hP hS dX5_forgetFound_5 h (fun M1 h H locs hP hS => ?_)
  refine lv_aload_n hx hb dX5_forgetFound_8 rfl (lv_at hl 0 rfl) ?_
  refine gfX5_43 C hP dX5_forgetFound_9 ?_
  refine lv_iconst (v := (0 : Int32)) hx hb dX5_forgetFound_12 (by decide) ?_
  refine pfX5_173 C hP hS dX5_forgetFound_13 h (fun M2 h H locs hP hS => ?_)
  cases h
  exact hret H locs _ ls hP hS dX5_forgetFound_16
abbrev rX0_add : Room := { frames := 0, cells := 0, slots := 0, locals := 0 }
theorem dX0_add_0 : decode cX0_add 0 = .ok (.aload_n 0, 1) := by decide +kernel
theorem dX0_add_1 : decode cX0_add 1 = .ok (.getfield 24, 3) := by decide +kernel
theorem dX0_add_4 : decode cX0_add 4 = .ok (.istore 4, 2) := by decide +kernel
theorem dX0_add_6 : decode cX0_add 6 = .ok (.iload 4, 2) := by decide +kernel
theorem dX0_add_8 : decode cX0_add 8 = .ok (.bipush 8, 2) := by decide +kernel
theorem dX0_add_10 : decode cX0_add 10 = .ok (.if_icmp .lt 6, 3) := by decide +kernel
theorem dX0_add_13 : decode cX0_add 13 = .ok (.bipush (-4), 2) := by decide +kernel
theorem dX0_add_15 : decode cX0_add 15 = .ok (.ireturn, 1) := by decide +kernel
theorem dX0_add_16 : decode cX0_add 16 = .ok (.aload_n 0, 1) := by decide +kernel
theorem dX0_add_17 : decode cX0_add 17 = .ok (.getfield 9, 3) := by decide +kernel
theorem dX0_add_20 : decode cX0_add 20 = .ok (.iload 4, 2) := by decide +kernel
theorem dX0_add_22 : decode cX0_add 22 = .ok (.iload_n 1, 1) := by decide +kernel
theorem dX0_add_23 : decode cX0_add 23 = .ok (.iastore, 1) := by decide +kernel
theorem dX0_add_24 : decode cX0_add 24 = .ok (.aload_n 0, 1) := by decide +kernel
theorem dX0_add_25 : decode cX0_add 25 = .ok (.getfield 15, 3) := by decide +kernel
theorem dX0_add_28 : decode cX0_add 28 = .ok (.iload 4, 2) := by decide +kernel
theorem dX0_add_30 : decode cX0_add 30 = .ok (.iload_n 2, 1) := by decide +kernel
theorem dX0_add_31 : decode cX0_add 31 = .ok (.iastore, 1) := by decide +kernel
theorem dX0_add_32 : decode cX0_add 32 = .ok (.aload_n 0, 1) := by decide +kernel
theorem dX0_add_33 : decode cX0_add 33 = .ok (.getfield 18, 3) := by decide +kernel
theorem dX0_add_36 : decode cX0_add 36 = .ok (.iload 4, 2) := by decide +kernel
theorem dX0_add_38 : decode cX0_add 38 = .ok (.iload_n 3, 1) := by decide +kernel
theorem dX0_add_39 : decode cX0_add 39 = .ok (.iastore, 1) := by decide +kernel
theorem dX0_add_40 : decode cX0_add 40 = .ok (.aload_n 0, 1) := by decide +kernel
theorem dX0_add_41 : decode cX0_add 41 = .ok (.getfield 21, 3) := by decide +kernel
theorem dX0_add_44 : decode cX0_add 44 = .ok (.iload 4, 2) := by decide +kernel
theorem dX0_add_46 : decode cX0_add 46 = .ok (.iconst 0, 1) := by decide +kernel
theorem dX0_add_47 : decode cX0_add 47 = .ok (.iastore, 1) := by decide +kernel
theorem dX0_add_48 : decode cX0_add 48 = .ok (.aload_n 0, 1) := by decide +kernel
theorem dX0_add_49 : decode cX0_add 49 = .ok (.dup, 1) := by decide +kernel
theorem dX0_add_50 : decode cX0_add 50 = .ok (.getfield 24, 3) := by decide +kernel
theorem dX0_add_53 : decode cX0_add 53 = .ok (.iconst 1, 1) := by decide +kernel
theorem dX0_add_54 : decode cX0_add 54 = .ok (.iadd, 1) := by decide +kernel
theorem dX0_add_55 : decode cX0_add 55 = .ok (.putfield 24, 3) := by decide +kernel
theorem dX0_add_58 : decode cX0_add 58 = .ok (.iload 4, 2) := by decide +kernel
theorem dX0_add_60 : decode cX0_add 60 = .ok (.ireturn, 1) := by decide +kernel
set_option maxRecDepth 100000 in
set_option maxHeartbeats 4000000 in
theorem kX0_add (l : Launch) (D : va_G) (ad : Nat → Nat) (cI cJ : ClassId) (tP tR : Nat) (M : Mem) (a0 : Nat) (a1 : Int32) (a2 : Int32) (a3 : Int32) (ha0 : a0 = 1 ∨ a0 = 6) (o : (Int32 × Mem)) (h : fX0_add M a0 a1 a2 a3 = some o) : qMet l D cI cJ tP tR (xA ad) (xW ad cI cJ) yX0_add cX0_add 5 (some .int) rX0_add [.ref (ad a0), .int a1, .int a2, .int a3] M (qQi D (xA ad) (xW ad cI cJ) o.1 o.2) := by
  refine rs_enterI (own := RX0) ⟨by decide +kernel, rfl, Nat.le_of_ble_eq_true rfl⟩ ?_
  intro p e s m args below meth c Q C hret H locs ls hP hS hl
  obtain ⟨hx, hb, -⟩ := id C
  have hl : lv_has ls 5 [(0, .ref (ad a0)), (1, .int a1), (2, .int a2), (3, .int a3)] := hl
  unfold fX0_add at h
  refine lv_aload_n hx hb dX0_add_0 rfl (lv_at hl 0 rfl) ?_
  refine gfX0_24 C hP ha0 dX0_add_1 ?_
  refine lv_istore (lv' := [(4, .int (M.1 a0 4)), (0, .ref (ad a0)), (1, .int a1), (2, .int a2), (3, .int a3)]) hx hb dX0_add_4 hl (by decide) rfl (fun ls hl => ?_)
  refine lv_iload hx hb dX0_add_6 (lv_at hl 0 rfl) ?_
  refine lv_bipush (v := (8 : Int32)) hx hb dX0_add_8 (by decide) ?_
  refine lv_icmp_lt (tgt := 16) hx hb dX0_add_10 (by decide) (fun cd => ?_) (fun cd => ?_)
  · have h := (if_pos cd).symm.trans h
    refine lv_aload_n hx hb dX0_add_16 rfl (lv_at hl 1 rfl) ?_
    refine gfX0_9 C hP ha0 dX0_add_17 ?_
    refine lv_iload hx hb dX0_add_20 (lv_at hl 0 rfl) ?_
    refine lv_iload_n hx hb dX0_add_22 rfl (lv_at hl 2 rfl) ?_
    refine rs_iast C hP hS (xIA_e1 ha0) dX0_add_23 h (fun M1 h H locs hP hS => ?_)
    refine lv_aload_n hx hb dX0_add_24 rfl (lv_at hl 1 rfl) ?_
    refine gfX0_15 C hP ha0 dX0_add_25 ?_
    refine lv_iload hx hb dX0_add_28 (lv_at hl 0 rfl) ?_
    refine lv_iload_n hx hb dX0_add_30 rfl (lv_at hl 3 rfl) ?_
    refine rs_iast C hP hS (xIA_e2 ha0) dX0_add_31 h (fun M2 h H locs hP hS => ?_)
    refine lv_aload_n hx hb dX0_add_32 rfl (lv_at hl 1 rfl) ?_
    refine gfX0_18 C hP ha0 dX0_add_33 ?_
    refine lv_iload hx hb dX0_add_36 (lv_at hl 0 rfl) ?_
    refine lv_iload_n hx hb dX0_add_38 rfl (lv_at hl 4 rfl) ?_
    refine rs_iast C hP hS (xIA_e3 ha0) dX0_add_39 h (fun M3 h H locs hP hS => ?_)
    refine lv_aload_n hx hb dX0_add_40 rfl (lv_at hl 1 rfl) ?_
    refine gfX0_21 C hP ha0 dX0_add_41 ?_
    refine lv_iload hx hb dX0_add_44 (lv_at hl 0 rfl) ?_
    refine lv_iconst (v := (0 : Int32)) hx hb dX0_add_46 (by decide) ?_
    refine rs_iast C hP hS (xIA_e4 ha0) dX0_add_47 h (fun M4 h H locs hP hS => ?_)
    refine lv_aload_n hx hb dX0_add_48 rfl (lv_at hl 1 rfl) ?_
    refine lv_dup hx hb dX0_add_49 rfl ?_
    refine gfX0_24 C hP ha0 dX0_add_50 ?_
    refine lv_iconst (v := (1 : Int32)) hx hb dX0_add_53 (by decide) ?_
    refine lv_iadd hx hb dX0_add_54 ?_
    refine pfX0_24 C hP hS ha0 dX0_add_55 h (fun M5 h H locs hP hS => ?_)
    refine lv_iload hx hb dX0_add_58 (lv_at hl 0 rfl) ?_
    cases h
    exact hret H locs _ ls hP hS dX0_add_60
  · have h := (if_neg cd).symm.trans h
    refine lv_bipush (v := (-4 : Int32)) hx hb dX0_add_13 (by decide) ?_
    cases h
    exact hret H locs _ ls hP hS dX0_add_15
abbrev rX0_has : Room := { frames := 1, cells := 0, slots := 0, locals := 22 }
theorem dX0_has_0 : decode cX0_has 0 = .ok (.iload_n 1, 1) := by decide +kernel
theorem dX0_has_1 : decode cX0_has 1 = .ok (.iconst 0, 1) := by decide +kernel
theorem dX0_has_2 : decode cX0_has 2 = .ok (.aload_n 0, 1) := by decide +kernel
theorem dX0_has_3 : decode cX0_has 3 = .ok (.getfield 24, 3) := by decide +kernel
theorem dX0_has_6 : decode cX0_has 6 = .ok (.iconst 1, 1) := by decide +kernel
theorem dX0_has_7 : decode cX0_has 7 = .ok (.isub, 1) := by decide +kernel
theorem dX0_has_8 : decode cX0_has 8 = .ok (.invokestatic 28, 3) := by decide +kernel
theorem dX0_has_11 : decode cX0_has 11 = .ok (.ireturn, 1) := by decide +kernel
set_option maxRecDepth 100000 in
set_option maxHeartbeats 4000000 in
theorem kX0_has (l : Launch) (D : va_G) (ad : Nat → Nat) (cI cJ : ClassId) (tP tR : Nat) (M : Mem) (a0 : Nat) (a1 : Int32) (ha0 : a0 = 1 ∨ a0 = 6) (o : Int32) (h : fX0_has M a0 a1 = some o) : qMet l D cI cJ tP tR (xA ad) (xW ad cI cJ) yX0_has cX0_has 2 (some .boolean) rX0_has [.ref (ad a0), .int a1] M (qQi D (xA ad) (xW ad cI cJ) o M) := by
  refine rs_enterZ (own := RX0) ⟨by decide +kernel, rfl, Nat.le_of_ble_eq_true rfl⟩ ?_
  intro p e s m args below meth c Q C hret H locs ls hP hS hl
  obtain ⟨hx, hb, -⟩ := id C
  have hl : lv_has ls 2 [(0, .ref (ad a0)), (1, .int a1)] := hl
  unfold fX0_has at h
  refine lv_iload_n hx hb dX0_has_0 rfl (lv_at hl 1 rfl) ?_
  refine lv_iconst (v := (0 : Int32)) hx hb dX0_has_1 (by decide) ?_
  refine lv_aload_n hx hb dX0_has_2 rfl (lv_at hl 0 rfl) ?_
  refine gfX0_24 C hP ha0 dX0_has_3 ?_
  refine lv_iconst (v := (1 : Int32)) hx hb dX0_has_6 (by decide) ?_
  refine lv_isub hx hb dX0_has_7 ?_
  obtain ⟨v1, h1, h⟩ := rs_bind h
  refine rs_goI (rs_runN (As := [.int a1, .int (0 : Int32), .int ((M.1 a0 4) - (1 : Int32))]) (rest := []) C hP hS (kX5_within l D ad cI cJ tP tR M a1 (0 : Int32) ((M.1 a0 4) - (1 : Int32)) _ h1) mk_X5_within (nl_X0_28) rfl ⟨rfl, rfl, Nat.le_of_ble_eq_true rfl, Nat.le_of_ble_eq_true rfl⟩ rfl hl.1 (Nat.le_of_ble_eq_true rfl) dX0_has_8) hS (fun H locs hP hS => ?_)
  obtain ⟨rfl, hz⟩ := rs_okZ h
  exact hret H locs _ ls hz hP hS dX0_has_11
abbrev rX5_anyEmpty : Room := { frames := 0, cells := 0, slots := 0, locals := 0 }
theorem dX5_anyEmpty_0 : decode cX5_anyEmpty 0 = .ok (.aload_n 0, 1) := by decide +kernel
theorem dX5_anyEmpty_1 : decode cX5_anyEmpty 1 = .ok (.getfield 10, 3) := by decide +kernel
theorem dX5_anyEmpty_4 : decode cX5_anyEmpty 4 = .ok (.getfield 59, 3) := by decide +kernel
theorem dX5_anyEmpty_7 : decode cX5_anyEmpty 7 = .ok (.ifCond .eq 13, 3) := by decide +kernel
theorem dX5_anyEmpty_10 : decode cX5_anyEmpty 10 = .ok (.aload_n 0, 1) := by decide +kernel
theorem dX5_anyEmpty_11 : decode cX5_anyEmpty 11 = .ok (.getfield 16, 3) := by decide +kernel
theorem dX5_anyEmpty_14 : decode cX5_anyEmpty 14 = .ok (.getfield 59, 3) := by decide +kernel
theorem dX5_anyEmpty_17 : decode cX5_anyEmpty 17 = .ok (.ifCond .ne 7, 3) := by decide +kernel
theorem dX5_anyEmpty_20 : decode cX5_anyEmpty 20 = .ok (.iconst 1, 1) := by decide +kernel
theorem dX5_anyEmpty_21 : decode cX5_anyEmpty 21 = .ok (.goto 4, 3) := by decide +kernel
theorem dX5_anyEmpty_24 : decode cX5_anyEmpty 24 = .ok (.iconst 0, 1) := by decide +kernel
theorem dX5_anyEmpty_25 : decode cX5_anyEmpty 25 = .ok (.ireturn, 1) := by decide +kernel
set_option maxRecDepth 100000 in
set_option maxHeartbeats 4000000 in
theorem kX5_anyEmpty (l : Launch) (D : va_G) (ad : Nat → Nat) (cI cJ : ClassId) (tP tR : Nat) (M : Mem)   (o : Int32) (h : fX5_anyEmpty M  = some o) : qMet l D cI cJ tP tR (xA ad) (xW ad cI cJ) yX5_anyEmpty cX5_anyEmpty 1 (some .boolean) rX5_anyEmpty [.ref (ad 0)] M (qQi D (xA ad) (xW ad cI cJ) o M) := by
  refine rs_enterZ (own := RX5) ⟨by decide +kernel, rfl, Nat.le_of_ble_eq_true rfl⟩ ?_
  intro p e s m args below meth c Q C hret H locs ls hP hS hl
  obtain ⟨hx, hb, -⟩ := id C
  have hl : lv_has ls 1 [(0, .ref (ad 0))] := hl
  unfold fX5_anyEmpty at h
  refine lv_aload_n hx hb dX5_anyEmpty_0 rfl (lv_at hl 0 rfl) ?_
  refine gfX5_10 C hP dX5_anyEmpty_1 ?_
  refine gfX5_59 C hP (Or.inl rfl) dX5_anyEmpty_4 ?_
  refine lv_if_eq (tgt := 20) hx hb dX5_anyEmpty_7 (by decide) (fun cd => ?_) (fun cd => ?_)
  · have h := (if_pos cd).symm.trans h
    refine lv_iconst (v := (1 : Int32)) hx hb dX5_anyEmpty_20 (by decide) ?_
    refine lv_goto (tgt := 25) hx hb dX5_anyEmpty_21 (by decide) ?_
    obtain ⟨rfl, hz⟩ := rs_okZ h
    exact hret H locs _ ls hz hP hS dX5_anyEmpty_25
  · have h := (if_neg cd).symm.trans h
    refine lv_aload_n hx hb dX5_anyEmpty_10 rfl (lv_at hl 0 rfl) ?_
    refine gfX5_16 C hP dX5_anyEmpty_11 ?_
    refine gfX5_59 C hP (Or.inr rfl) dX5_anyEmpty_14 ?_
    refine lv_if_ne (tgt := 24) hx hb dX5_anyEmpty_17 (by decide) (fun cd => ?_) (fun cd => ?_)
    · have h := (if_neg cd).symm.trans h
      refine lv_iconst (v := (0 : Int32)) hx hb dX5_anyEmpty_24 (by decide) ?_
      obtain ⟨rfl, hz⟩ := rs_okZ h
      exact hret H locs _ ls hz hP hS dX5_anyEmpty_25
    · have h := (if_pos cd).symm.trans h
      refine lv_iconst (v := (1 : Int32)) hx hb dX5_anyEmpty_20 (by decide) ?_
      refine lv_goto (tgt := 25) hx hb dX5_anyEmpty_21 (by decide) ?_
      obtain ⟨rfl, hz⟩ := rs_okZ h
      exact hret H locs _ ls hz hP hS dX5_anyEmpty_25
abbrev rX5_commonPart : Room := { frames := 1, cells := 0, slots := 0, locals := 21 }
theorem dX5_commonPart_0 : decode cX5_commonPart 0 = .ok (.iload_n 0, 1) := by decide +kernel
theorem dX5_commonPart_1 : decode cX5_commonPart 1 = .ok (.invokestatic 193, 3) := by decide +kernel
theorem dX5_commonPart_4 : decode cX5_commonPart 4 = .ok (.istore_n 2, 1) := by decide +kernel
theorem dX5_commonPart_5 : decode cX5_commonPart 5 = .ok (.iload_n 1, 1) := by decide +kernel
theorem dX5_commonPart_6 : decode cX5_commonPart 6 = .ok (.invokestatic 193, 3) := by decide +kernel
theorem dX5_commonPart_9 : decode cX5_commonPart 9 = .ok (.istore_n 3, 1) := by decide +kernel
theorem dX5_commonPart_10 : decode cX5_commonPart 10 = .ok (.iconst 0, 1) := by decide +kernel
theorem dX5_commonPart_11 : decode cX5_commonPart 11 = .ok (.istore 4, 2) := by decide +kernel
theorem dX5_commonPart_13 : decode cX5_commonPart 13 = .ok (.iload 4, 2) := by decide +kernel
theorem dX5_commonPart_15 : decode cX5_commonPart 15 = .ok (.bipush 64, 2) := by decide +kernel
theorem dX5_commonPart_17 : decode cX5_commonPart 17 = .ok (.if_icmp .ge 23, 3) := by decide +kernel
theorem dX5_commonPart_20 : decode cX5_commonPart 20 = .ok (.iload_n 3, 1) := by decide +kernel
theorem dX5_commonPart_21 : decode cX5_commonPart 21 = .ok (.ifCond .eq 19, 3) := by decide +kernel
theorem dX5_commonPart_24 : decode cX5_commonPart 24 = .ok (.iload_n 2, 1) := by decide +kernel
theorem dX5_commonPart_25 : decode cX5_commonPart 25 = .ok (.iload_n 3, 1) := by decide +kernel
theorem dX5_commonPart_26 : decode cX5_commonPart 26 = .ok (.irem, 1) := by decide +kernel
theorem dX5_commonPart_27 : decode cX5_commonPart 27 = .ok (.istore 5, 2) := by decide +kernel
theorem dX5_commonPart_29 : decode cX5_commonPart 29 = .ok (.iload_n 3, 1) := by decide +kernel
theorem dX5_commonPart_30 : decode cX5_commonPart 30 = .ok (.istore_n 2, 1) := by decide +kernel
theorem dX5_commonPart_31 : decode cX5_commonPart 31 = .ok (.iload 5, 2) := by decide +kernel
theorem dX5_commonPart_33 : decode cX5_commonPart 33 = .ok (.istore_n 3, 1) := by decide +kernel
theorem dX5_commonPart_34 : decode cX5_commonPart 34 = .ok (.iinc 4 1, 3) := by decide +kernel
theorem dX5_commonPart_37 : decode cX5_commonPart 37 = .ok (.goto (-24), 3) := by decide +kernel
theorem dX5_commonPart_40 : decode cX5_commonPart 40 = .ok (.iload_n 2, 1) := by decide +kernel
theorem dX5_commonPart_41 : decode cX5_commonPart 41 = .ok (.ireturn, 1) := by decide +kernel
set_option maxRecDepth 100000 in
set_option maxHeartbeats 4000000 in
theorem kX5_commonPart (l : Launch) (D : va_G) (ad : Nat → Nat) (cI cJ : ClassId) (tP tR : Nat) (N : Nat) (M : Mem) (a0 : Int32) (a1 : Int32)  (o : Int32) (h : fX5_commonPart N a0 a1 = some o) : qMet l D cI cJ tP tR (xA ad) (xW ad cI cJ) yX5_commonPart cX5_commonPart 6 (some .int) rX5_commonPart [.int a0, .int a1] M (qQi D (xA ad) (xW ad cI cJ) o M) := by
  refine rs_enterI (own := RX5) ⟨by decide +kernel, rfl, Nat.le_of_ble_eq_true rfl⟩ ?_
  intro p e s m args below meth c Q C hret H locs ls hP hS hl
  obtain ⟨hx, hb, -⟩ := id C
  have hl : lv_has ls 6 [(0, .int a0), (1, .int a1)] := hl
  unfold fX5_commonPart at h
  refine lv_iload_n hx hb dX5_commonPart_0 rfl (lv_at hl 0 rfl) ?_
  refine rs_abs C ⟨wd_311, wd_56, wd_312⟩ wd_332 hl.1 ⟨Nat.le_of_ble_eq_true rfl, Nat.le_of_ble_eq_true rfl⟩ dX5_commonPart_1 ?_
  refine lv_istore_n (lv' := [(2, .int (if 0 ≤ a0 then a0 else 0 - a0)), (0, .int a0), (1, .int a1)]) hx hb dX5_commonPart_4 rfl hl (by decide) rfl (fun ls hl => ?_)
  refine lv_iload_n hx hb dX5_commonPart_5 rfl (lv_at hl 2 rfl) ?_
  refine rs_abs C ⟨wd_311, wd_56, wd_312⟩ wd_332 hl.1 ⟨Nat.le_of_ble_eq_true rfl, Nat.le_of_ble_eq_true rfl⟩ dX5_commonPart_6 ?_
  refine lv_istore_n (lv' := [(3, .int (if 0 ≤ a1 then a1 else 0 - a1)), (2, .int (if 0 ≤ a0 then a0 else 0 - a0)), (0, .int a0), (1, .int a1)]) hx hb dX5_commonPart_9 rfl hl (by decide) rfl (fun ls hl => ?_)
  refine lv_iconst (v := (0 : Int32)) hx hb dX5_commonPart_10 (by decide) ?_
  refine lv_istore (lv' := [(4, .int (0 : Int32)), (3, .int (if 0 ≤ a1 then a1 else 0 - a1)), (2, .int (if 0 ≤ a0 then a0 else 0 - a0)), (0, .int a0), (1, .int a1)]) hx hb dX5_commonPart_11 hl (by decide) rfl (fun ls hl => ?_)
  have hL13 : ∀ (n13 : Nat) (v1 : Int32) (v2 : Int32) (v3 : Int32) (H : Heap) (locs : List Loc) (ls : Array Slot), va_P D vwCl (xW ad cI cJ M) H → va_S (xA ad) s.heap H locs → lv_has ls 6 [(2, .int v1), (3, .int v2), (4, .int v3)] → lp (fun _ _ _ => none) sX5_commonPart_13 n13 v1 v2 v3 = some o → W p l e rX5_commonPart s m args below meth c H locs 0 0 Q (F0 m 13 ls []) := by
    intro n13
    induction n13 with
    | zero => intro v1 v2 v3 H locs ls hP hS hl h; have h : (none : Option Int32) = some o := h; cases h
    | succ n13 ih13 =>
      intro v1 v2 v3 H locs ls hP hS hl h
      have h : sX5_commonPart_13 (lp (fun _ _ _ => none) sX5_commonPart_13 n13) v1 v2 v3 = some o := h
      generalize lp (fun _ _ _ => none) sX5_commonPart_13 n13 = cont13 at h ih13
      unfold sX5_commonPart_13 at h
      refine lv_iload hx hb dX5_commonPart_13 (lv_at hl 2 rfl) ?_
      refine lv_bipush (v := (64 : Int32)) hx hb dX5_commonPart_15 (by decide) ?_
      refine lv_icmp_ge (tgt := 40) hx hb dX5_commonPart_17 (by decide) (fun cd => ?_) (fun cd => ?_)
      · have h := (if_pos cd).symm.trans h
        refine lv_iload_n hx hb dX5_commonPart_40 rfl (lv_at hl 0 rfl) ?_
        cases h
        exact hret H locs _ ls hP hS dX5_commonPart_41
      · have h := (if_neg cd).symm.trans h
        refine lv_iload_n hx hb dX5_commonPart_20 rfl (lv_at hl 1 rfl) ?_
        refine lv_if_eq (tgt := 40) hx hb dX5_commonPart_21 (by decide) (fun cd => ?_) (fun cd => ?_)
        · have h := (if_pos cd).symm.trans h
          refine lv_iload_n hx hb dX5_commonPart_40 rfl (lv_at hl 0 rfl) ?_
          cases h
          exact hret H locs _ ls hP hS dX5_commonPart_41
        · have h := (if_neg cd).symm.trans h
          refine lv_iload_n hx hb dX5_commonPart_24 rfl (lv_at hl 0 rfl) ?_
          refine lv_iload_n hx hb dX5_commonPart_25 rfl (lv_at hl 1 rfl) ?_
          refine rs_irem C dX5_commonPart_26 h (fun v4 h => ?_)
          refine lv_istore (lv' := [(5, .int v4), (2, .int v1), (3, .int v2), (4, .int v3)]) hx hb dX5_commonPart_27 hl (by decide) rfl (fun ls hl => ?_)
          refine lv_iload_n hx hb dX5_commonPart_29 rfl (lv_at hl 2 rfl) ?_
          refine lv_istore_n (lv' := [(2, .int v2), (5, .int v4), (3, .int v2), (4, .int v3)]) hx hb dX5_commonPart_30 rfl hl (by decide) rfl (fun ls hl => ?_)
          refine lv_iload hx hb dX5_commonPart_31 (lv_at hl 1 rfl) ?_
          refine lv_istore_n (lv' := [(3, .int v4), (2, .int v2), (5, .int v4), (4, .int v3)]) hx hb dX5_commonPart_33 rfl hl (by decide) rfl (fun ls hl => ?_)
          refine lv_iinc (v := (v3 + 1)) (lv' := [(4, .int (v3 + 1)), (3, .int v4), (2, .int v2), (5, .int v4)]) hx hb dX5_commonPart_34 hl (k := 3) rfl rfl (by decide) rfl (fun ls hl => ?_)
          refine lv_goto (tgt := 13) hx hb dX5_commonPart_37 (by decide) ?_
          exact ih13 _ _ _ H locs ls hP hS (lv_sub hl [2, 1, 0] rfl) h
  exact hL13 N _ _ _ H locs ls hP hS (lv_sub hl [2, 1, 0] rfl) h
abbrev rX5_across : Room := { frames := 0, cells := 0, slots := 0, locals := 0 }
theorem dX5_across_0 : decode cX5_across 0 = .ok (.aload_n 0, 1) := by decide +kernel
theorem dX5_across_1 : decode cX5_across 1 = .ok (.getfield 77, 3) := by decide +kernel
theorem dX5_across_4 : decode cX5_across 4 = .ok (.iload_n 2, 1) := by decide +kernel
theorem dX5_across_5 : decode cX5_across 5 = .ok (.iaload, 1) := by decide +kernel
theorem dX5_across_6 : decode cX5_across 6 = .ok (.aload_n 0, 1) := by decide +kernel
theorem dX5_across_7 : decode cX5_across 7 = .ok (.getfield 77, 3) := by decide +kernel
theorem dX5_across_10 : decode cX5_across 10 = .ok (.iload_n 1, 1) := by decide +kernel
theorem dX5_across_11 : decode cX5_across 11 = .ok (.iaload, 1) := by decide +kernel
theorem dX5_across_12 : decode cX5_across 12 = .ok (.isub, 1) := by decide +kernel
theorem dX5_across_13 : decode cX5_across 13 = .ok (.aload_n 3, 1) := by decide +kernel
theorem dX5_across_14 : decode cX5_across 14 = .ok (.getfield 81, 3) := by decide +kernel
theorem dX5_across_17 : decode cX5_across 17 = .ok (.iload 5, 2) := by decide +kernel
theorem dX5_across_19 : decode cX5_across 19 = .ok (.iaload, 1) := by decide +kernel
theorem dX5_across_20 : decode cX5_across 20 = .ok (.aload_n 3, 1) := by decide +kernel
theorem dX5_across_21 : decode cX5_across 21 = .ok (.getfield 81, 3) := by decide +kernel
theorem dX5_across_24 : decode cX5_across 24 = .ok (.iload 4, 2) := by decide +kernel
theorem dX5_across_26 : decode cX5_across 26 = .ok (.iaload, 1) := by decide +kernel
theorem dX5_across_27 : decode cX5_across 27 = .ok (.isub, 1) := by decide +kernel
theorem dX5_across_28 : decode cX5_across 28 = .ok (.imul, 1) := by decide +kernel
theorem dX5_across_29 : decode cX5_across 29 = .ok (.aload_n 0, 1) := by decide +kernel
theorem dX5_across_30 : decode cX5_across 30 = .ok (.getfield 81, 3) := by decide +kernel
theorem dX5_across_33 : decode cX5_across 33 = .ok (.iload_n 2, 1) := by decide +kernel
theorem dX5_across_34 : decode cX5_across 34 = .ok (.iaload, 1) := by decide +kernel
theorem dX5_across_35 : decode cX5_across 35 = .ok (.aload_n 0, 1) := by decide +kernel
theorem dX5_across_36 : decode cX5_across 36 = .ok (.getfield 81, 3) := by decide +kernel
theorem dX5_across_39 : decode cX5_across 39 = .ok (.iload_n 1, 1) := by decide +kernel
theorem dX5_across_40 : decode cX5_across 40 = .ok (.iaload, 1) := by decide +kernel
theorem dX5_across_41 : decode cX5_across 41 = .ok (.isub, 1) := by decide +kernel
theorem dX5_across_42 : decode cX5_across 42 = .ok (.aload_n 3, 1) := by decide +kernel
theorem dX5_across_43 : decode cX5_across 43 = .ok (.getfield 77, 3) := by decide +kernel
theorem dX5_across_46 : decode cX5_across 46 = .ok (.iload 5, 2) := by decide +kernel
theorem dX5_across_48 : decode cX5_across 48 = .ok (.iaload, 1) := by decide +kernel
theorem dX5_across_49 : decode cX5_across 49 = .ok (.aload_n 3, 1) := by decide +kernel
theorem dX5_across_50 : decode cX5_across 50 = .ok (.getfield 77, 3) := by decide +kernel
theorem dX5_across_53 : decode cX5_across 53 = .ok (.iload 4, 2) := by decide +kernel
theorem dX5_across_55 : decode cX5_across 55 = .ok (.iaload, 1) := by decide +kernel
theorem dX5_across_56 : decode cX5_across 56 = .ok (.isub, 1) := by decide +kernel
theorem dX5_across_57 : decode cX5_across 57 = .ok (.imul, 1) := by decide +kernel
theorem dX5_across_58 : decode cX5_across 58 = .ok (.isub, 1) := by decide +kernel
theorem dX5_across_59 : decode cX5_across 59 = .ok (.ireturn, 1) := by decide +kernel
set_option maxRecDepth 100000 in
set_option maxHeartbeats 4000000 in
theorem kX5_across (l : Launch) (D : va_G) (ad : Nat → Nat) (cI cJ : ClassId) (tP tR : Nat) (M : Mem) (a0 : Nat) (a1 : Int32) (a2 : Int32) (a3 : Nat) (a4 : Int32) (a5 : Int32) (ha0 : a0 = 1 ∨ a0 = 6) (ha3 : a3 = 1 ∨ a3 = 6) (o : Int32) (h : fX5_across M a0 a1 a2 a3 a4 a5 = some o) : qMet l D cI cJ tP tR (xA ad) (xW ad cI cJ) yX5_across cX5_across 6 (some .int) rX5_across [.ref (ad a0), .int a1, .int a2, .ref (ad a3), .int a4, .int a5] M (qQi D (xA ad) (xW ad cI cJ) o M) := by
  refine rs_enterI (own := RX5) ⟨by decide +kernel, rfl, Nat.le_of_ble_eq_true rfl⟩ ?_
  intro p e s m args below meth c Q C hret H locs ls hP hS hl
  obtain ⟨hx, hb, -⟩ := id C
  have hl : lv_has ls 6 [(0, .ref (ad a0)), (1, .int a1), (2, .int a2), (3, .ref (ad a3)), (4, .int a4), (5, .int a5)] := hl
  unfold fX5_across at h
  refine lv_aload_n hx hb dX5_across_0 rfl (lv_at hl 0 rfl) ?_
  refine gfX5_77 C hP ha0 dX5_across_1 ?_
  refine lv_iload_n hx hb dX5_across_4 rfl (lv_at hl 2 rfl) ?_
  refine rs_iald C hP (xIA_e1 ha0) dX5_across_5 h (fun v1 h => ?_)
  refine lv_aload_n hx hb dX5_across_6 rfl (lv_at hl 0 rfl) ?_
  refine gfX5_77 C hP ha0 dX5_across_7 ?_
  refine lv_iload_n hx hb dX5_across_10 rfl (lv_at hl 1 rfl) ?_
  refine rs_iald C hP (xIA_e1 ha0) dX5_across_11 h (fun v2 h => ?_)
  refine lv_isub hx hb dX5_across_12 ?_
  refine lv_aload_n hx hb dX5_across_13 rfl (lv_at hl 3 rfl) ?_
  refine gfX5_81 C hP ha3 dX5_across_14 ?_
  refine lv_iload hx hb dX5_across_17 (lv_at hl 5 rfl) ?_
  refine rs_iald C hP (xIA_e2 ha3) dX5_across_19 h (fun v3 h => ?_)
  refine lv_aload_n hx hb dX5_across_20 rfl (lv_at hl 3 rfl) ?_
  refine gfX5_81 C hP ha3 dX5_across_21 ?_
  refine lv_iload hx hb dX5_across_24 (lv_at hl 4 rfl) ?_
  refine rs_iald C hP (xIA_e2 ha3) dX5_across_26 h (fun v4 h => ?_)
  refine lv_isub hx hb dX5_across_27 ?_
  refine lv_imul hx hb dX5_across_28 ?_
  refine lv_aload_n hx hb dX5_across_29 rfl (lv_at hl 0 rfl) ?_
  refine gfX5_81 C hP ha0 dX5_across_30 ?_
  refine lv_iload_n hx hb dX5_across_33 rfl (lv_at hl 2 rfl) ?_
  refine rs_iald C hP (xIA_e2 ha0) dX5_across_34 h (fun v5 h => ?_)
  refine lv_aload_n hx hb dX5_across_35 rfl (lv_at hl 0 rfl) ?_
  refine gfX5_81 C hP ha0 dX5_across_36 ?_
  refine lv_iload_n hx hb dX5_across_39 rfl (lv_at hl 1 rfl) ?_
  refine rs_iald C hP (xIA_e2 ha0) dX5_across_40 h (fun v6 h => ?_)
  refine lv_isub hx hb dX5_across_41 ?_
  refine lv_aload_n hx hb dX5_across_42 rfl (lv_at hl 3 rfl) ?_
  refine gfX5_77 C hP ha3 dX5_across_43 ?_
  refine lv_iload hx hb dX5_across_46 (lv_at hl 5 rfl) ?_
  refine rs_iald C hP (xIA_e1 ha3) dX5_across_48 h (fun v7 h => ?_)
  refine lv_aload_n hx hb dX5_across_49 rfl (lv_at hl 3 rfl) ?_
  refine gfX5_77 C hP ha3 dX5_across_50 ?_
  refine lv_iload hx hb dX5_across_53 (lv_at hl 4 rfl) ?_
  refine rs_iald C hP (xIA_e1 ha3) dX5_across_55 h (fun v8 h => ?_)
  refine lv_isub hx hb dX5_across_56 ?_
  refine lv_imul hx hb dX5_across_57 ?_
  refine lv_isub hx hb dX5_across_58 ?_
  cases h
  exact hret H locs _ ls hP hS dX5_across_59
abbrev rX5_isAim : Room := { frames := 1, cells := 0, slots := 0, locals := 22 }
theorem dX5_isAim_0 : decode cX5_isAim 0 = .ok (.iload_n 0, 1) := by decide +kernel
theorem dX5_isAim_1 : decode cX5_isAim 1 = .ok (.bipush (-6), 2) := by decide +kernel
theorem dX5_isAim_3 : decode cX5_isAim 3 = .ok (.bipush 6, 2) := by decide +kernel
theorem dX5_isAim_5 : decode cX5_isAim 5 = .ok (.invokestatic 51, 3) := by decide +kernel
theorem dX5_isAim_8 : decode cX5_isAim 8 = .ok (.ifCond .eq 26, 3) := by decide +kernel
theorem dX5_isAim_11 : decode cX5_isAim 11 = .ok (.iload_n 1, 1) := by decide +kernel
theorem dX5_isAim_12 : decode cX5_isAim 12 = .ok (.bipush (-6), 2) := by decide +kernel
theorem dX5_isAim_14 : decode cX5_isAim 14 = .ok (.bipush 6, 2) := by decide +kernel
theorem dX5_isAim_16 : decode cX5_isAim 16 = .ok (.invokestatic 51, 3) := by decide +kernel
theorem dX5_isAim_19 : decode cX5_isAim 19 = .ok (.ifCond .eq 15, 3) := by decide +kernel
theorem dX5_isAim_22 : decode cX5_isAim 22 = .ok (.iload_n 0, 1) := by decide +kernel
theorem dX5_isAim_23 : decode cX5_isAim 23 = .ok (.ifCond .ne 7, 3) := by decide +kernel
theorem dX5_isAim_26 : decode cX5_isAim 26 = .ok (.iload_n 1, 1) := by decide +kernel
theorem dX5_isAim_27 : decode cX5_isAim 27 = .ok (.ifCond .eq 7, 3) := by decide +kernel
theorem dX5_isAim_30 : decode cX5_isAim 30 = .ok (.iconst 1, 1) := by decide +kernel
theorem dX5_isAim_31 : decode cX5_isAim 31 = .ok (.goto 4, 3) := by decide +kernel
theorem dX5_isAim_34 : decode cX5_isAim 34 = .ok (.iconst 0, 1) := by decide +kernel
theorem dX5_isAim_35 : decode cX5_isAim 35 = .ok (.ireturn, 1) := by decide +kernel
set_option maxRecDepth 100000 in
set_option maxHeartbeats 4000000 in
theorem kX5_isAim (l : Launch) (D : va_G) (ad : Nat → Nat) (cI cJ : ClassId) (tP tR : Nat) (M : Mem) (a0 : Int32) (a1 : Int32)  (o : Int32) (h : fX5_isAim a0 a1 = some o) : qMet l D cI cJ tP tR (xA ad) (xW ad cI cJ) yX5_isAim cX5_isAim 2 (some .boolean) rX5_isAim [.int a0, .int a1] M (qQi D (xA ad) (xW ad cI cJ) o M) := by
  refine rs_enterZ (own := RX5) ⟨by decide +kernel, rfl, Nat.le_of_ble_eq_true rfl⟩ ?_
  intro p e s m args below meth c Q C hret H locs ls hP hS hl
  obtain ⟨hx, hb, -⟩ := id C
  have hl : lv_has ls 2 [(0, .int a0), (1, .int a1)] := hl
  unfold fX5_isAim at h
  refine lv_iload_n hx hb dX5_isAim_0 rfl (lv_at hl 0 rfl) ?_
  refine lv_bipush (v := (-6 : Int32)) hx hb dX5_isAim_1 (by decide) ?_
  refine lv_bipush (v := (6 : Int32)) hx hb dX5_isAim_3 (by decide) ?_
  obtain ⟨v1, h1, h⟩ := rs_bind h
  refine rs_goI (rs_runS (As := [.int a0, .int (-6 : Int32), .int (6 : Int32)]) (rest := []) C hP hS (kX5_within l D ad cI cJ tP tR M a0 (-6 : Int32) (6 : Int32) _ h1) mk_X5_within wd_231 rfl ⟨rfl, rfl, Nat.le_of_ble_eq_true rfl, Nat.le_of_ble_eq_true rfl⟩ rfl hl.1 (Nat.le_of_ble_eq_true rfl) dX5_isAim_5) hS (fun H locs hP hS => ?_)
  refine lv_if_eq (tgt := 34) hx hb dX5_isAim_8 (by decide) (fun cd => ?_) (fun cd => ?_)
  · have h := (if_pos cd).symm.trans h
    refine lv_iconst (v := (0 : Int32)) hx hb dX5_isAim_34 (by decide) ?_
    obtain ⟨rfl, hz⟩ := rs_okZ h
    exact hret H locs _ ls hz hP hS dX5_isAim_35
  · have h := (if_neg cd).symm.trans h
    refine lv_iload_n hx hb dX5_isAim_11 rfl (lv_at hl 1 rfl) ?_
    refine lv_bipush (v := (-6 : Int32)) hx hb dX5_isAim_12 (by decide) ?_
    refine lv_bipush (v := (6 : Int32)) hx hb dX5_isAim_14 (by decide) ?_
    obtain ⟨v2, h1, h⟩ := rs_bind h
    refine rs_goI (rs_runS (As := [.int a1, .int (-6 : Int32), .int (6 : Int32)]) (rest := []) C hP hS (kX5_within l D ad cI cJ tP tR M a1 (-6 : Int32) (6 : Int32) _ h1) mk_X5_within wd_231 rfl ⟨rfl, rfl, Nat.le_of_ble_eq_true rfl, Nat.le_of_ble_eq_true rfl⟩ rfl hl.1 (Nat.le_of_ble_eq_true rfl) dX5_isAim_16) hS (fun H locs hP hS => ?_)
    refine lv_if_eq (tgt := 34) hx hb dX5_isAim_19 (by decide) (fun cd => ?_) (fun cd => ?_)
    · have h := (if_pos cd).symm.trans h
      refine lv_iconst (v := (0 : Int32)) hx hb dX5_isAim_34 (by decide) ?_
      obtain ⟨rfl, hz⟩ := rs_okZ h
      exact hret H locs _ ls hz hP hS dX5_isAim_35
    · have h := (if_neg cd).symm.trans h
      refine lv_iload_n hx hb dX5_isAim_22 rfl (lv_at hl 0 rfl) ?_
      refine lv_if_ne (tgt := 30) hx hb dX5_isAim_23 (by decide) (fun cd => ?_) (fun cd => ?_)
      · have h := (if_neg cd).symm.trans h
        refine lv_iconst (v := (1 : Int32)) hx hb dX5_isAim_30 (by decide) ?_
        refine lv_goto (tgt := 35) hx hb dX5_isAim_31 (by decide) ?_
        obtain ⟨rfl, hz⟩ := rs_okZ h
        exact hret H locs _ ls hz hP hS dX5_isAim_35
      · have h := (if_pos cd).symm.trans h
        refine lv_iload_n hx hb dX5_isAim_26 rfl (lv_at hl 1 rfl) ?_
        refine lv_if_eq (tgt := 34) hx hb dX5_isAim_27 (by decide) (fun cd => ?_) (fun cd => ?_)
        · have h := (if_pos cd).symm.trans h
          refine lv_iconst (v := (0 : Int32)) hx hb dX5_isAim_34 (by decide) ?_
          obtain ⟨rfl, hz⟩ := rs_okZ h
          exact hret H locs _ ls hz hP hS dX5_isAim_35
        · have h := (if_neg cd).symm.trans h
          refine lv_iconst (v := (1 : Int32)) hx hb dX5_isAim_30 (by decide) ?_
          refine lv_goto (tgt := 35) hx hb dX5_isAim_31 (by decide) ?_
          obtain ⟨rfl, hz⟩ := rs_okZ h
          exact hret H locs _ ls hz hP hS dX5_isAim_35
abbrev rJ6_bitCount_0f7a4 : Room := { frames := 0, cells := 0, slots := 0, locals := 0 }
theorem dJ6_bitCount_0f7a4_0 : decode cJ6_bitCount_0f7a4 0 = .ok (.iload_n 0, 1) := by decide +kernel
theorem dJ6_bitCount_0f7a4_1 : decode cJ6_bitCount_0f7a4 1 = .ok (.iload_n 0, 1) := by decide +kernel
theorem dJ6_bitCount_0f7a4_2 : decode cJ6_bitCount_0f7a4 2 = .ok (.iconst 1, 1) := by decide +kernel
theorem dJ6_bitCount_0f7a4_3 : decode cJ6_bitCount_0f7a4 3 = .ok (.iushr, 1) := by decide +kernel
theorem dJ6_bitCount_0f7a4_4 : decode cJ6_bitCount_0f7a4 4 = .ok (.ldc_w 265, 3) := by decide +kernel
theorem dJ6_bitCount_0f7a4_7 : decode cJ6_bitCount_0f7a4 7 = .ok (.iand, 1) := by decide +kernel
theorem dJ6_bitCount_0f7a4_8 : decode cJ6_bitCount_0f7a4 8 = .ok (.isub, 1) := by decide +kernel
theorem dJ6_bitCount_0f7a4_9 : decode cJ6_bitCount_0f7a4 9 = .ok (.istore_n 0, 1) := by decide +kernel
theorem dJ6_bitCount_0f7a4_10 : decode cJ6_bitCount_0f7a4 10 = .ok (.iload_n 0, 1) := by decide +kernel
theorem dJ6_bitCount_0f7a4_11 : decode cJ6_bitCount_0f7a4 11 = .ok (.ldc_w 266, 3) := by decide +kernel
theorem dJ6_bitCount_0f7a4_14 : decode cJ6_bitCount_0f7a4 14 = .ok (.iand, 1) := by decide +kernel
theorem dJ6_bitCount_0f7a4_15 : decode cJ6_bitCount_0f7a4 15 = .ok (.iload_n 0, 1) := by decide +kernel
theorem dJ6_bitCount_0f7a4_16 : decode cJ6_bitCount_0f7a4 16 = .ok (.iconst 2, 1) := by decide +kernel
theorem dJ6_bitCount_0f7a4_17 : decode cJ6_bitCount_0f7a4 17 = .ok (.iushr, 1) := by decide +kernel
theorem dJ6_bitCount_0f7a4_18 : decode cJ6_bitCount_0f7a4 18 = .ok (.ldc_w 266, 3) := by decide +kernel
theorem dJ6_bitCount_0f7a4_21 : decode cJ6_bitCount_0f7a4 21 = .ok (.iand, 1) := by decide +kernel
theorem dJ6_bitCount_0f7a4_22 : decode cJ6_bitCount_0f7a4 22 = .ok (.iadd, 1) := by decide +kernel
theorem dJ6_bitCount_0f7a4_23 : decode cJ6_bitCount_0f7a4 23 = .ok (.istore_n 0, 1) := by decide +kernel
theorem dJ6_bitCount_0f7a4_24 : decode cJ6_bitCount_0f7a4 24 = .ok (.iload_n 0, 1) := by decide +kernel
theorem dJ6_bitCount_0f7a4_25 : decode cJ6_bitCount_0f7a4 25 = .ok (.iload_n 0, 1) := by decide +kernel
theorem dJ6_bitCount_0f7a4_26 : decode cJ6_bitCount_0f7a4 26 = .ok (.iconst 4, 1) := by decide +kernel
theorem dJ6_bitCount_0f7a4_27 : decode cJ6_bitCount_0f7a4 27 = .ok (.iushr, 1) := by decide +kernel
theorem dJ6_bitCount_0f7a4_28 : decode cJ6_bitCount_0f7a4 28 = .ok (.iadd, 1) := by decide +kernel
theorem dJ6_bitCount_0f7a4_29 : decode cJ6_bitCount_0f7a4 29 = .ok (.ldc_w 267, 3) := by decide +kernel
theorem dJ6_bitCount_0f7a4_32 : decode cJ6_bitCount_0f7a4 32 = .ok (.iand, 1) := by decide +kernel
theorem dJ6_bitCount_0f7a4_33 : decode cJ6_bitCount_0f7a4 33 = .ok (.istore_n 0, 1) := by decide +kernel
theorem dJ6_bitCount_0f7a4_34 : decode cJ6_bitCount_0f7a4 34 = .ok (.iload_n 0, 1) := by decide +kernel
theorem dJ6_bitCount_0f7a4_35 : decode cJ6_bitCount_0f7a4 35 = .ok (.iload_n 0, 1) := by decide +kernel
theorem dJ6_bitCount_0f7a4_36 : decode cJ6_bitCount_0f7a4 36 = .ok (.bipush 8, 2) := by decide +kernel
theorem dJ6_bitCount_0f7a4_38 : decode cJ6_bitCount_0f7a4 38 = .ok (.iushr, 1) := by decide +kernel
theorem dJ6_bitCount_0f7a4_39 : decode cJ6_bitCount_0f7a4 39 = .ok (.iadd, 1) := by decide +kernel
theorem dJ6_bitCount_0f7a4_40 : decode cJ6_bitCount_0f7a4 40 = .ok (.istore_n 0, 1) := by decide +kernel
theorem dJ6_bitCount_0f7a4_41 : decode cJ6_bitCount_0f7a4 41 = .ok (.iload_n 0, 1) := by decide +kernel
theorem dJ6_bitCount_0f7a4_42 : decode cJ6_bitCount_0f7a4 42 = .ok (.iload_n 0, 1) := by decide +kernel
theorem dJ6_bitCount_0f7a4_43 : decode cJ6_bitCount_0f7a4 43 = .ok (.bipush 16, 2) := by decide +kernel
theorem dJ6_bitCount_0f7a4_45 : decode cJ6_bitCount_0f7a4 45 = .ok (.iushr, 1) := by decide +kernel
theorem dJ6_bitCount_0f7a4_46 : decode cJ6_bitCount_0f7a4 46 = .ok (.iadd, 1) := by decide +kernel
theorem dJ6_bitCount_0f7a4_47 : decode cJ6_bitCount_0f7a4 47 = .ok (.istore_n 0, 1) := by decide +kernel
theorem dJ6_bitCount_0f7a4_48 : decode cJ6_bitCount_0f7a4 48 = .ok (.iload_n 0, 1) := by decide +kernel
theorem dJ6_bitCount_0f7a4_49 : decode cJ6_bitCount_0f7a4 49 = .ok (.bipush 63, 2) := by decide +kernel
theorem dJ6_bitCount_0f7a4_51 : decode cJ6_bitCount_0f7a4 51 = .ok (.iand, 1) := by decide +kernel
theorem dJ6_bitCount_0f7a4_52 : decode cJ6_bitCount_0f7a4 52 = .ok (.ireturn, 1) := by decide +kernel
set_option maxRecDepth 100000 in
set_option maxHeartbeats 4000000 in
theorem kJ6_bitCount_0f7a4 (l : Launch) (D : va_G) (ad : Nat → Nat) (cI cJ : ClassId) (tP tR : Nat) (M : Mem) (a0 : Int32)  (o : Int32) (h : fJ6_bitCount_0f7a4 a0 = some o) : qMet l D cI cJ tP tR (xA ad) (xW ad cI cJ) yJ6_bitCount_0f7a4 cJ6_bitCount_0f7a4 1 (some .int) rJ6_bitCount_0f7a4 [.int a0] M (qQi D (xA ad) (xW ad cI cJ) o M) := by
  refine rs_enterI (own := RJ6) ⟨by decide +kernel, rfl, Nat.le_of_ble_eq_true rfl⟩ ?_
  intro p e s m args below meth c Q C hret H locs ls hP hS hl
  obtain ⟨hx, hb, -⟩ := id C
  have hl : lv_has ls 1 [(0, .int a0)] := hl
  unfold fJ6_bitCount_0f7a4 at h
  refine lv_iload_n hx hb dJ6_bitCount_0f7a4_0 rfl (lv_at hl 0 rfl) ?_
  refine lv_iload_n hx hb dJ6_bitCount_0f7a4_1 rfl (lv_at hl 0 rfl) ?_
  refine lv_iconst (v := (1 : Int32)) hx hb dJ6_bitCount_0f7a4_2 (by decide) ?_
  refine lv_iushr hx hb dJ6_bitCount_0f7a4_3 rfl ?_
  refine rs_ldcw (v := (1431655765 : Int32)) C wd_429 dJ6_bitCount_0f7a4_4 ?_
  refine lv_iand hx hb dJ6_bitCount_0f7a4_7 ?_
  refine lv_isub hx hb dJ6_bitCount_0f7a4_8 ?_
  refine lv_istore_n (lv' := [(0, .int (a0 - (((Int32.toUInt32 a0 >>> (Int32.toUInt32 (1 : Int32) &&& Int32.toUInt32 31)).toInt32) &&& (1431655765 : Int32))))]) hx hb dJ6_bitCount_0f7a4_9 rfl hl (by decide) rfl (fun ls hl => ?_)
  refine lv_iload_n hx hb dJ6_bitCount_0f7a4_10 rfl (lv_at hl 0 rfl) ?_
  refine rs_ldcw (v := (858993459 : Int32)) C wd_430 dJ6_bitCount_0f7a4_11 ?_
  refine lv_iand hx hb dJ6_bitCount_0f7a4_14 ?_
  refine lv_iload_n hx hb dJ6_bitCount_0f7a4_15 rfl (lv_at hl 0 rfl) ?_
  refine lv_iconst (v := (2 : Int32)) hx hb dJ6_bitCount_0f7a4_16 (by decide) ?_
  refine lv_iushr hx hb dJ6_bitCount_0f7a4_17 rfl ?_
  refine rs_ldcw (v := (858993459 : Int32)) C wd_430 dJ6_bitCount_0f7a4_18 ?_
  refine lv_iand hx hb dJ6_bitCount_0f7a4_21 ?_
  refine lv_iadd hx hb dJ6_bitCount_0f7a4_22 ?_
  refine lv_istore_n (lv' := [(0, .int (((a0 - (((Int32.toUInt32 a0 >>> (Int32.toUInt32 (1 : Int32) &&& Int32.toUInt32 31)).toInt32) &&& (1431655765 : Int32))) &&& (858993459 : Int32)) + (((Int32.toUInt32 (a0 - (((Int32.toUInt32 a0 >>> (Int32.toUInt32 (1 : Int32) &&& Int32.toUInt32 31)).toInt32) &&& (1431655765 : Int32))) >>> (Int32.toUInt32 (2 : Int32) &&& Int32.toUInt32 31)).toInt32) &&& (858993459 : Int32))))]) hx hb dJ6_bitCount_0f7a4_23 rfl hl (by decide) rfl (fun ls hl => ?_)
  refine lv_iload_n hx hb dJ6_bitCount_0f7a4_24 rfl (lv_at hl 0 rfl) ?_
  refine lv_iload_n hx hb dJ6_bitCount_0f7a4_25 rfl (lv_at hl 0 rfl) ?_
  refine lv_iconst (v := (4 : Int32)) hx hb dJ6_bitCount_0f7a4_26 (by decide) ?_
  refine lv_iushr hx hb dJ6_bitCount_0f7a4_27 rfl ?_
  refine lv_iadd hx hb dJ6_bitCount_0f7a4_28 ?_
  refine rs_ldcw (v := (252645135 : Int32)) C wd_431 dJ6_bitCount_0f7a4_29 ?_
  refine lv_iand hx hb dJ6_bitCount_0f7a4_32 ?_
  refine lv_istore_n (lv' := [(0, .int (((((a0 - (((Int32.toUInt32 a0 >>> (Int32.toUInt32 (1 : Int32) &&& Int32.toUInt32 31)).toInt32) &&& (1431655765 : Int32))) &&& (858993459 : Int32)) + (((Int32.toUInt32 (a0 - (((Int32.toUInt32 a0 >>> (Int32.toUInt32 (1 : Int32) &&& Int32.toUInt32 31)).toInt32) &&& (1431655765 : Int32))) >>> (Int32.toUInt32 (2 : Int32) &&& Int32.toUInt32 31)).toInt32) &&& (858993459 : Int32))) + ((Int32.toUInt32 (((a0 - (((Int32.toUInt32 a0 >>> (Int32.toUInt32 (1 : Int32) &&& Int32.toUInt32 31)).toInt32) &&& (1431655765 : Int32))) &&& (858993459 : Int32)) + (((Int32.toUInt32 (a0 - (((Int32.toUInt32 a0 >>> (Int32.toUInt32 (1 : Int32) &&& Int32.toUInt32 31)).toInt32) &&& (1431655765 : Int32))) >>> (Int32.toUInt32 (2 : Int32) &&& Int32.toUInt32 31)).toInt32) &&& (858993459 : Int32))) >>> (Int32.toUInt32 (4 : Int32) &&& Int32.toUInt32 31)).toInt32)) &&& (252645135 : Int32)))]) hx hb dJ6_bitCount_0f7a4_33 rfl hl (by decide) rfl (fun ls hl => ?_)
  refine lv_iload_n hx hb dJ6_bitCount_0f7a4_34 rfl (lv_at hl 0 rfl) ?_
  refine lv_iload_n hx hb dJ6_bitCount_0f7a4_35 rfl (lv_at hl 0 rfl) ?_
  refine lv_bipush (v := (8 : Int32)) hx hb dJ6_bitCount_0f7a4_36 (by decide) ?_
  refine lv_iushr hx hb dJ6_bitCount_0f7a4_38 rfl ?_
  refine lv_iadd hx hb dJ6_bitCount_0f7a4_39 ?_
  refine lv_istore_n (lv' := [(0, .int ((((((a0 - (((Int32.toUInt32 a0 >>> (Int32.toUInt32 (1 : Int32) &&& Int32.toUInt32 31)).toInt32) &&& (1431655765 : Int32))) &&& (858993459 : Int32)) + (((Int32.toUInt32 (a0 - (((Int32.toUInt32 a0 >>> (Int32.toUInt32 (1 : Int32) &&& Int32.toUInt32 31)).toInt32) &&& (1431655765 : Int32))) >>> (Int32.toUInt32 (2 : Int32) &&& Int32.toUInt32 31)).toInt32) &&& (858993459 : Int32))) + ((Int32.toUInt32 (((a0 - (((Int32.toUInt32 a0 >>> (Int32.toUInt32 (1 : Int32) &&& Int32.toUInt32 31)).toInt32) &&& (1431655765 : Int32))) &&& (858993459 : Int32)) + (((Int32.toUInt32 (a0 - (((Int32.toUInt32 a0 >>> (Int32.toUInt32 (1 : Int32) &&& Int32.toUInt32 31)).toInt32) &&& (1431655765 : Int32))) >>> (Int32.toUInt32 (2 : Int32) &&& Int32.toUInt32 31)).toInt32) &&& (858993459 : Int32))) >>> (Int32.toUInt32 (4 : Int32) &&& Int32.toUInt32 31)).toInt32)) &&& (252645135 : Int32)) + ((Int32.toUInt32 (((((a0 - (((Int32.toUInt32 a0 >>> (Int32.toUInt32 (1 : Int32) &&& Int32.toUInt32 31)).toInt32) &&& (1431655765 : Int32))) &&& (858993459 : Int32)) + (((Int32.toUInt32 (a0 - (((Int32.toUInt32 a0 >>> (Int32.toUInt32 (1 : Int32) &&& Int32.toUInt32 31)).toInt32) &&& (1431655765 : Int32))) >>> (Int32.toUInt32 (2 : Int32) &&& Int32.toUInt32 31)).toInt32) &&& (858993459 : Int32))) + ((Int32.toUInt32 (((a0 - (((Int32.toUInt32 a0 >>> (Int32.toUInt32 (1 : Int32) &&& Int32.toUInt32 31)).toInt32) &&& (1431655765 : Int32))) &&& (858993459 : Int32)) + (((Int32.toUInt32 (a0 - (((Int32.toUInt32 a0 >>> (Int32.toUInt32 (1 : Int32) &&& Int32.toUInt32 31)).toInt32) &&& (1431655765 : Int32))) >>> (Int32.toUInt32 (2 : Int32) &&& Int32.toUInt32 31)).toInt32) &&& (858993459 : Int32))) >>> (Int32.toUInt32 (4 : Int32) &&& Int32.toUInt32 31)).toInt32)) &&& (252645135 : Int32)) >>> (Int32.toUInt32 (8 : Int32) &&& Int32.toUInt32 31)).toInt32)))]) hx hb dJ6_bitCount_0f7a4_40 rfl hl (by decide) rfl (fun ls hl => ?_)
  refine lv_iload_n hx hb dJ6_bitCount_0f7a4_41 rfl (lv_at hl 0 rfl) ?_
  refine lv_iload_n hx hb dJ6_bitCount_0f7a4_42 rfl (lv_at hl 0 rfl) ?_
  refine lv_bipush (v := (16 : Int32)) hx hb dJ6_bitCount_0f7a4_43 (by decide) ?_
  refine lv_iushr hx hb dJ6_bitCount_0f7a4_45 rfl ?_
  refine lv_iadd hx hb dJ6_bitCount_0f7a4_46 ?_
  refine lv_istore_n (lv' := [(0, .int (((((((a0 - (((Int32.toUInt32 a0 >>> (Int32.toUInt32 (1 : Int32) &&& Int32.toUInt32 31)).toInt32) &&& (1431655765 : Int32))) &&& (858993459 : Int32)) + (((Int32.toUInt32 (a0 - (((Int32.toUInt32 a0 >>> (Int32.toUInt32 (1 : Int32) &&& Int32.toUInt32 31)).toInt32) &&& (1431655765 : Int32))) >>> (Int32.toUInt32 (2 : Int32) &&& Int32.toUInt32 31)).toInt32) &&& (858993459 : Int32))) + ((Int32.toUInt32 (((a0 - (((Int32.toUInt32 a0 >>> (Int32.toUInt32 (1 : Int32) &&& Int32.toUInt32 31)).toInt32) &&& (1431655765 : Int32))) &&& (858993459 : Int32)) + (((Int32.toUInt32 (a0 - (((Int32.toUInt32 a0 >>> (Int32.toUInt32 (1 : Int32) &&& Int32.toUInt32 31)).toInt32) &&& (1431655765 : Int32))) >>> (Int32.toUInt32 (2 : Int32) &&& Int32.toUInt32 31)).toInt32) &&& (858993459 : Int32))) >>> (Int32.toUInt32 (4 : Int32) &&& Int32.toUInt32 31)).toInt32)) &&& (252645135 : Int32)) + ((Int32.toUInt32 (((((a0 - (((Int32.toUInt32 a0 >>> (Int32.toUInt32 (1 : Int32) &&& Int32.toUInt32 31)).toInt32) &&& (1431655765 : Int32))) &&& (858993459 : Int32)) + (((Int32.toUInt32 (a0 - (((Int32.toUInt32 a0 >>> (Int32.toUInt32 (1 : Int32) &&& Int32.toUInt32 31)).toInt32) &&& (1431655765 : Int32))) >>> (Int32.toUInt32 (2 : Int32) &&& Int32.toUInt32 31)).toInt32) &&& (858993459 : Int32))) + ((Int32.toUInt32 (((a0 - (((Int32.toUInt32 a0 >>> (Int32.toUInt32 (1 : Int32) &&& Int32.toUInt32 31)).toInt32) &&& (1431655765 : Int32))) &&& (858993459 : Int32)) + (((Int32.toUInt32 (a0 - (((Int32.toUInt32 a0 >>> (Int32.toUInt32 (1 : Int32) &&& Int32.toUInt32 31)).toInt32) &&& (1431655765 : Int32))) >>> (Int32.toUInt32 (2 : Int32) &&& Int32.toUInt32 31)).toInt32) &&& (858993459 : Int32))) >>> (Int32.toUInt32 (4 : Int32) &&& Int32.toUInt32 31)).toInt32)) &&& (252645135 : Int32)) >>> (Int32.toUInt32 (8 : Int32) &&& Int32.toUInt32 31)).toInt32)) + ((Int32.toUInt32 ((((((a0 - (((Int32.toUInt32 a0 >>> (Int32.toUInt32 (1 : Int32) &&& Int32.toUInt32 31)).toInt32) &&& (1431655765 : Int32))) &&& (858993459 : Int32)) + (((Int32.toUInt32 (a0 - (((Int32.toUInt32 a0 >>> (Int32.toUInt32 (1 : Int32) &&& Int32.toUInt32 31)).toInt32) &&& (1431655765 : Int32))) >>> (Int32.toUInt32 (2 : Int32) &&& Int32.toUInt32 31)).toInt32) &&& (858993459 : Int32))) + ((Int32.toUInt32 (((a0 - (((Int32.toUInt32 a0 >>> (Int32.toUInt32 (1 : Int32) &&& Int32.toUInt32 31)).toInt32) &&& (1431655765 : Int32))) &&& (858993459 : Int32)) + (((Int32.toUInt32 (a0 - (((Int32.toUInt32 a0 >>> (Int32.toUInt32 (1 : Int32) &&& Int32.toUInt32 31)).toInt32) &&& (1431655765 : Int32))) >>> (Int32.toUInt32 (2 : Int32) &&& Int32.toUInt32 31)).toInt32) &&& (858993459 : Int32))) >>> (Int32.toUInt32 (4 : Int32) &&& Int32.toUInt32 31)).toInt32)) &&& (252645135 : Int32)) + ((Int32.toUInt32 (((((a0 - (((Int32.toUInt32 a0 >>> (Int32.toUInt32 (1 : Int32) &&& Int32.toUInt32 31)).toInt32) &&& (1431655765 : Int32))) &&& (858993459 : Int32)) + (((Int32.toUInt32 (a0 - (((Int32.toUInt32 a0 >>> (Int32.toUInt32 (1 : Int32) &&& Int32.toUInt32 31)).toInt32) &&& (1431655765 : Int32))) >>> (Int32.toUInt32 (2 : Int32) &&& Int32.toUInt32 31)).toInt32) &&& (858993459 : Int32))) + ((Int32.toUInt32 (((a0 - (((Int32.toUInt32 a0 >>> (Int32.toUInt32 (1 : Int32) &&& Int32.toUInt32 31)).toInt32) &&& (1431655765 : Int32))) &&& (858993459 : Int32)) + (((Int32.toUInt32 (a0 - (((Int32.toUInt32 a0 >>> (Int32.toUInt32 (1 : Int32) &&& Int32.toUInt32 31)).toInt32) &&& (1431655765 : Int32))) >>> (Int32.toUInt32 (2 : Int32) &&& Int32.toUInt32 31)).toInt32) &&& (858993459 : Int32))) >>> (Int32.toUInt32 (4 : Int32) &&& Int32.toUInt32 31)).toInt32)) &&& (252645135 : Int32)) >>> (Int32.toUInt32 (8 : Int32) &&& Int32.toUInt32 31)).toInt32)) >>> (Int32.toUInt32 (16 : Int32) &&& Int32.toUInt32 31)).toInt32)))]) hx hb dJ6_bitCount_0f7a4_47 rfl hl (by decide) rfl (fun ls hl => ?_)
  refine lv_iload_n hx hb dJ6_bitCount_0f7a4_48 rfl (lv_at hl 0 rfl) ?_
  refine lv_bipush (v := (63 : Int32)) hx hb dJ6_bitCount_0f7a4_49 (by decide) ?_
  refine lv_iand hx hb dJ6_bitCount_0f7a4_51 ?_
  cases h
  exact hret H locs _ ls hP hS dJ6_bitCount_0f7a4_52
abbrev rX0_isMinus : Room := { frames := 0, cells := 0, slots := 0, locals := 0 }
theorem dX0_isMinus_0 : decode cX0_isMinus 0 = .ok (.aload_n 0, 1) := by decide +kernel
theorem dX0_isMinus_1 : decode cX0_isMinus 1 = .ok (.getfield 18, 3) := by decide +kernel
theorem dX0_isMinus_4 : decode cX0_isMinus 4 = .ok (.iload_n 1, 1) := by decide +kernel
theorem dX0_isMinus_5 : decode cX0_isMinus 5 = .ok (.iaload, 1) := by decide +kernel
theorem dX0_isMinus_6 : decode cX0_isMinus 6 = .ok (.ifCond .ge 7, 3) := by decide +kernel
theorem dX0_isMinus_9 : decode cX0_isMinus 9 = .ok (.iconst 1, 1) := by decide +kernel
theorem dX0_isMinus_10 : decode cX0_isMinus 10 = .ok (.goto 4, 3) := by decide +kernel
theorem dX0_isMinus_13 : decode cX0_isMinus 13 = .ok (.iconst 0, 1) := by decide +kernel
theorem dX0_isMinus_14 : decode cX0_isMinus 14 = .ok (.istore 4, 2) := by decide +kernel
theorem dX0_isMinus_16 : decode cX0_isMinus 16 = .ok (.iload_n 2, 1) := by decide +kernel
theorem dX0_isMinus_17 : decode cX0_isMinus 17 = .ok (.ifCond .eq 26, 3) := by decide +kernel
theorem dX0_isMinus_20 : decode cX0_isMinus 20 = .ok (.aload_n 0, 1) := by decide +kernel
theorem dX0_isMinus_21 : decode cX0_isMinus 21 = .ok (.getfield 9, 3) := by decide +kernel
theorem dX0_isMinus_24 : decode cX0_isMinus 24 = .ok (.iload_n 1, 1) := by decide +kernel
theorem dX0_isMinus_25 : decode cX0_isMinus 25 = .ok (.iaload, 1) := by decide +kernel
theorem dX0_isMinus_26 : decode cX0_isMinus 26 = .ok (.iconst 2, 1) := by decide +kernel
theorem dX0_isMinus_27 : decode cX0_isMinus 27 = .ok (.irem, 1) := by decide +kernel
theorem dX0_isMinus_28 : decode cX0_isMinus 28 = .ok (.ifCond .eq 15, 3) := by decide +kernel
theorem dX0_isMinus_31 : decode cX0_isMinus 31 = .ok (.iload 4, 2) := by decide +kernel
theorem dX0_isMinus_33 : decode cX0_isMinus 33 = .ok (.ifCond .ne 7, 3) := by decide +kernel
theorem dX0_isMinus_36 : decode cX0_isMinus 36 = .ok (.iconst 1, 1) := by decide +kernel
theorem dX0_isMinus_37 : decode cX0_isMinus 37 = .ok (.goto 4, 3) := by decide +kernel
theorem dX0_isMinus_40 : decode cX0_isMinus 40 = .ok (.iconst 0, 1) := by decide +kernel
theorem dX0_isMinus_41 : decode cX0_isMinus 41 = .ok (.istore 4, 2) := by decide +kernel
theorem dX0_isMinus_43 : decode cX0_isMinus 43 = .ok (.iload_n 3, 1) := by decide +kernel
theorem dX0_isMinus_44 : decode cX0_isMinus 44 = .ok (.ifCond .eq 26, 3) := by decide +kernel
theorem dX0_isMinus_47 : decode cX0_isMinus 47 = .ok (.aload_n 0, 1) := by decide +kernel
theorem dX0_isMinus_48 : decode cX0_isMinus 48 = .ok (.getfield 15, 3) := by decide +kernel
theorem dX0_isMinus_51 : decode cX0_isMinus 51 = .ok (.iload_n 1, 1) := by decide +kernel
theorem dX0_isMinus_52 : decode cX0_isMinus 52 = .ok (.iaload, 1) := by decide +kernel
theorem dX0_isMinus_53 : decode cX0_isMinus 53 = .ok (.iconst 2, 1) := by decide +kernel
theorem dX0_isMinus_54 : decode cX0_isMinus 54 = .ok (.irem, 1) := by decide +kernel
theorem dX0_isMinus_55 : decode cX0_isMinus 55 = .ok (.ifCond .eq 15, 3) := by decide +kernel
theorem dX0_isMinus_58 : decode cX0_isMinus 58 = .ok (.iload 4, 2) := by decide +kernel
theorem dX0_isMinus_60 : decode cX0_isMinus 60 = .ok (.ifCond .ne 7, 3) := by decide +kernel
theorem dX0_isMinus_63 : decode cX0_isMinus 63 = .ok (.iconst 1, 1) := by decide +kernel
theorem dX0_isMinus_64 : decode cX0_isMinus 64 = .ok (.goto 4, 3) := by decide +kernel
theorem dX0_isMinus_67 : decode cX0_isMinus 67 = .ok (.iconst 0, 1) := by decide +kernel
theorem dX0_isMinus_68 : decode cX0_isMinus 68 = .ok (.istore 4, 2) := by decide +kernel
theorem dX0_isMinus_70 : decode cX0_isMinus 70 = .ok (.iload 4, 2) := by decide +kernel
theorem dX0_isMinus_72 : decode cX0_isMinus 72 = .ok (.ireturn, 1) := by decide +kernel
set_option maxRecDepth 100000 in
set_option maxHeartbeats 4000000 in
theorem kX0_isMinus (l : Launch) (D : va_G) (ad : Nat → Nat) (cI cJ : ClassId) (tP tR : Nat) (M : Mem) (a0 : Nat) (a1 : Int32) (a2 : Int32) (a3 : Int32) (ha0 : a0 = 1 ∨ a0 = 6) (o : Int32) (h : fX0_isMinus M a0 a1 a2 a3 = some o) : qMet l D cI cJ tP tR (xA ad) (xW ad cI cJ) yX0_isMinus cX0_isMinus 5 (some .boolean) rX0_isMinus [.ref (ad a0), .int a1, .int a2, .int a3] M (qQi D (xA ad) (xW ad cI cJ) o M) := by
  refine rs_enterZ (own := RX0) ⟨by decide +kernel, rfl, Nat.le_of_ble_eq_true rfl⟩ ?_
  intro p e s m args below meth c Q C hret H locs ls hP hS hl
  obtain ⟨hx, hb, -⟩ := id C
  have hl : lv_has ls 5 [(0, .ref (ad a0)), (1, .int a1), (2, .int a2), (3, .int a3)] := hl
  unfold fX0_isMinus at h
  refine lv_aload_n hx hb dX0_isMinus_0 rfl (lv_at hl 0 rfl) ?_
  refine gfX0_18 C hP ha0 dX0_isMinus_1 ?_
  refine lv_iload_n hx hb dX0_isMinus_4 rfl (lv_at hl 1 rfl) ?_
  refine rs_iald C hP (xIA_e3 ha0) dX0_isMinus_5 h (fun v1 h => ?_)
  obtain ⟨v2, h1, h⟩ := rs_bind h
  have hJ13 : ∀ (H : Heap) (locs : List Loc) (ls : Array Slot), va_P D vwCl (xW ad cI cJ M) H → va_S (xA ad) s.heap H locs → lv_has ls 5 [(0, .ref (ad a0)), (1, .int a1), (2, .int a2), (3, .int a3)] → W p l e rX0_isMinus s m args below meth c H locs 0 0 Q (F0 m 14 ls [.int v2]) := by
    intro H locs ls hP hS hl
    refine lv_istore (lv' := [(4, .int v2), (0, .ref (ad a0)), (1, .int a1), (2, .int a2), (3, .int a3)]) hx hb dX0_isMinus_14 hl (by decide) rfl (fun ls hl => ?_)
    refine lv_iload_n hx hb dX0_isMinus_16 rfl (lv_at hl 3 rfl) ?_
    obtain ⟨v3, h1, h⟩ := rs_bind h
    have hJ8 : ∀ (H : Heap) (locs : List Loc) (ls : Array Slot), va_P D vwCl (xW ad cI cJ M) H → va_S (xA ad) s.heap H locs → lv_has ls 5 [(0, .ref (ad a0)), (1, .int a1), (3, .int a3), (4, .int v3)] → W p l e rX0_isMinus s m args below meth c H locs 0 0 Q (F0 m 43 ls []) := by
      intro H locs ls hP hS hl
      refine lv_iload_n hx hb dX0_isMinus_43 rfl (lv_at hl 2 rfl) ?_
      refine lv_if_eq (tgt := 70) hx hb dX0_isMinus_44 (by decide) (fun cd => ?_) (fun cd => ?_)
      · have h := (if_pos cd).symm.trans h
        refine lv_iload hx hb dX0_isMinus_70 (lv_at hl 3 rfl) ?_
        obtain ⟨rfl, hz⟩ := rs_okZ h
        exact hret H locs _ ls hz hP hS dX0_isMinus_72
      · have h := (if_neg cd).symm.trans h
        refine lv_aload_n hx hb dX0_isMinus_47 rfl (lv_at hl 0 rfl) ?_
        refine gfX0_15 C hP ha0 dX0_isMinus_48 ?_
        refine lv_iload_n hx hb dX0_isMinus_51 rfl (lv_at hl 1 rfl) ?_
        refine rs_iald C hP (xIA_e2 ha0) dX0_isMinus_52 h (fun v4 h => ?_)
        refine lv_iconst (v := (2 : Int32)) hx hb dX0_isMinus_53 (by decide) ?_
        refine rs_irem C dX0_isMinus_54 h (fun v5 h => ?_)
        refine lv_if_eq (tgt := 70) hx hb dX0_isMinus_55 (by decide) (fun cd => ?_) (fun cd => ?_)
        · have h := (if_pos cd).symm.trans h
          refine lv_iload hx hb dX0_isMinus_70 (lv_at hl 3 rfl) ?_
          obtain ⟨rfl, hz⟩ := rs_okZ h
          exact hret H locs _ ls hz hP hS dX0_isMinus_72
        · have h := (if_neg cd).symm.trans h
          refine lv_iload hx hb dX0_isMinus_58 (lv_at hl 3 rfl) ?_
          obtain ⟨v6, h1, h⟩ := rs_bind h
          have hJ7 : ∀ (H : Heap) (locs : List Loc) (ls : Array Slot), va_P D vwCl (xW ad cI cJ M) H → va_S (xA ad) s.heap H locs → lv_has ls 5 [] → W p l e rX0_isMinus s m args below meth c H locs 0 0 Q (F0 m 68 ls [.int v6]) := by
            intro H locs ls hP hS hl
            refine lv_istore (lv' := [(4, .int v6)]) hx hb dX0_isMinus_68 hl (by decide) rfl (fun ls hl => ?_)
            refine lv_iload hx hb dX0_isMinus_70 (lv_at hl 0 rfl) ?_
            obtain ⟨rfl, hz⟩ := rs_okZ h
            exact hret H locs _ ls hz hP hS dX0_isMinus_72
          replace h := h1
          clear h1
          refine lv_if_ne (tgt := 67) hx hb dX0_isMinus_60 (by decide) (fun cd => ?_) (fun cd => ?_)
          · have h := (if_neg cd).symm.trans h
            refine lv_iconst (v := (0 : Int32)) hx hb dX0_isMinus_67 (by decide) ?_
            cases h
            exact hJ7 H locs ls hP hS (lv_sub hl [] rfl)
          · have h := (if_pos cd).symm.trans h
            refine lv_iconst (v := (1 : Int32)) hx hb dX0_isMinus_63 (by decide) ?_
            refine lv_goto (tgt := 68) hx hb dX0_isMinus_64 (by decide) ?_
            cases h
            exact hJ7 H locs ls hP hS (lv_sub hl [] rfl)
    replace h := h1
    clear h1
    refine lv_if_eq (tgt := 43) hx hb dX0_isMinus_17 (by decide) (fun cd => ?_) (fun cd => ?_)
    · have h := (if_pos cd).symm.trans h
      cases h
      exact hJ8 H locs ls hP hS (lv_sub hl [1, 2, 4, 0] rfl)
    · have h := (if_neg cd).symm.trans h
      refine lv_aload_n hx hb dX0_isMinus_20 rfl (lv_at hl 1 rfl) ?_
      refine gfX0_9 C hP ha0 dX0_isMinus_21 ?_
      refine lv_iload_n hx hb dX0_isMinus_24 rfl (lv_at hl 2 rfl) ?_
      refine rs_iald C hP (xIA_e1 ha0) dX0_isMinus_25 h (fun v9 h => ?_)
      refine lv_iconst (v := (2 : Int32)) hx hb dX0_isMinus_26 (by decide) ?_
      refine rs_irem C dX0_isMinus_27 h (fun v10 h => ?_)
      refine lv_if_eq (tgt := 43) hx hb dX0_isMinus_28 (by decide) (fun cd => ?_) (fun cd => ?_)
      · have h := (if_pos cd).symm.trans h
        cases h
        exact hJ8 H locs ls hP hS (lv_sub hl [1, 2, 4, 0] rfl)
      · have h := (if_neg cd).symm.trans h
        refine lv_iload hx hb dX0_isMinus_31 (lv_at hl 0 rfl) ?_
        obtain ⟨v11, h1, h⟩ := rs_bind h
        have hJ12 : ∀ (H : Heap) (locs : List Loc) (ls : Array Slot), va_P D vwCl (xW ad cI cJ M) H → va_S (xA ad) s.heap H locs → lv_has ls 5 [(0, .ref (ad a0)), (1, .int a1), (3, .int a3)] → W p l e rX0_isMinus s m args below meth c H locs 0 0 Q (F0 m 41 ls [.int v11]) := by
          intro H locs ls hP hS hl
          refine lv_istore (lv' := [(4, .int v11), (0, .ref (ad a0)), (1, .int a1), (3, .int a3)]) hx hb dX0_isMinus_41 hl (by decide) rfl (fun ls hl => ?_)
          cases h
          exact hJ8 H locs ls hP hS (lv_sub hl [1, 2, 3, 0] rfl)
        replace h := h1
        clear h1
        refine lv_if_ne (tgt := 40) hx hb dX0_isMinus_33 (by decide) (fun cd => ?_) (fun cd => ?_)
        · have h := (if_neg cd).symm.trans h
          refine lv_iconst (v := (0 : Int32)) hx hb dX0_isMinus_40 (by decide) ?_
          cases h
          exact hJ12 H locs ls hP hS (lv_sub hl [1, 2, 4] rfl)
        · have h := (if_pos cd).symm.trans h
          refine lv_iconst (v := (1 : Int32)) hx hb dX0_isMinus_36 (by decide) ?_
          refine lv_goto (tgt := 41) hx hb dX0_isMinus_37 (by decide) ?_
          cases h
          exact hJ12 H locs ls hP hS (lv_sub hl [1, 2, 4] rfl)
  replace h := h1
  clear h1
  refine lv_if_ge (tgt := 13) hx hb dX0_isMinus_6 (by decide) (fun cd => ?_) (fun cd => ?_)
  · have h := (if_pos cd).symm.trans h
    refine lv_iconst (v := (0 : Int32)) hx hb dX0_isMinus_13 (by decide) ?_
    cases h
    exact hJ13 H locs ls hP hS (lv_sub hl [0, 1, 2, 3] rfl)
  · have h := (if_neg cd).symm.trans h
    refine lv_iconst (v := (1 : Int32)) hx hb dX0_isMinus_9 (by decide) ?_
    refine lv_goto (tgt := 14) hx hb dX0_isMinus_10 (by decide) ?_
    cases h
    exact hJ13 H locs ls hP hS (lv_sub hl [0, 1, 2, 3] rfl)
abbrev rX0_signsDiffer : Room := { frames := 1, cells := 0, slots := 0, locals := 24 }
theorem dX0_signsDiffer_0 : decode cX0_signsDiffer 0 = .ok (.aload_n 0, 1) := by decide +kernel
theorem dX0_signsDiffer_1 : decode cX0_signsDiffer 1 = .ok (.iconst 0, 1) := by decide +kernel
theorem dX0_signsDiffer_2 : decode cX0_signsDiffer 2 = .ok (.iload_n 1, 1) := by decide +kernel
theorem dX0_signsDiffer_3 : decode cX0_signsDiffer 3 = .ok (.iload_n 2, 1) := by decide +kernel
theorem dX0_signsDiffer_4 : decode cX0_signsDiffer 4 = .ok (.invokevirtual 32, 3) := by decide +kernel
theorem dX0_signsDiffer_7 : decode cX0_signsDiffer 7 = .ok (.aload_n 0, 1) := by decide +kernel
theorem dX0_signsDiffer_8 : decode cX0_signsDiffer 8 = .ok (.iconst 1, 1) := by decide +kernel
theorem dX0_signsDiffer_9 : decode cX0_signsDiffer 9 = .ok (.iload_n 1, 1) := by decide +kernel
theorem dX0_signsDiffer_10 : decode cX0_signsDiffer 10 = .ok (.iload_n 2, 1) := by decide +kernel
theorem dX0_signsDiffer_11 : decode cX0_signsDiffer 11 = .ok (.invokevirtual 32, 3) := by decide +kernel
theorem dX0_signsDiffer_14 : decode cX0_signsDiffer 14 = .ok (.if_icmp .eq 7, 3) := by decide +kernel
theorem dX0_signsDiffer_17 : decode cX0_signsDiffer 17 = .ok (.iconst 1, 1) := by decide +kernel
theorem dX0_signsDiffer_18 : decode cX0_signsDiffer 18 = .ok (.goto 4, 3) := by decide +kernel
theorem dX0_signsDiffer_21 : decode cX0_signsDiffer 21 = .ok (.iconst 0, 1) := by decide +kernel
theorem dX0_signsDiffer_22 : decode cX0_signsDiffer 22 = .ok (.ireturn, 1) := by decide +kernel
set_option maxRecDepth 100000 in
set_option maxHeartbeats 4000000 in
theorem kX0_signsDiffer (l : Launch) (D : va_G) (ad : Nat → Nat) (cI cJ : ClassId) (tP tR : Nat) (M : Mem) (a0 : Nat) (a1 : Int32) (a2 : Int32) (ha0 : a0 = 1 ∨ a0 = 6) (o : Int32) (h : fX0_signsDiffer M a0 a1 a2 = some o) : qMet l D cI cJ tP tR (xA ad) (xW ad cI cJ) yX0_signsDiffer cX0_signsDiffer 3 (some .boolean) rX0_signsDiffer [.ref (ad a0), .int a1, .int a2] M (qQi D (xA ad) (xW ad cI cJ) o M) := by
  refine rs_enterZ (own := RX0) ⟨by decide +kernel, rfl, Nat.le_of_ble_eq_true rfl⟩ ?_
  intro p e s m args below meth c Q C hret H locs ls hP hS hl
  obtain ⟨hx, hb, -⟩ := id C
  have hl : lv_has ls 3 [(0, .ref (ad a0)), (1, .int a1), (2, .int a2)] := hl
  unfold fX0_signsDiffer at h
  refine lv_aload_n hx hb dX0_signsDiffer_0 rfl (lv_at hl 0 rfl) ?_
  refine lv_iconst (v := (0 : Int32)) hx hb dX0_signsDiffer_1 (by decide) ?_
  refine lv_iload_n hx hb dX0_signsDiffer_2 rfl (lv_at hl 1 rfl) ?_
  refine lv_iload_n hx hb dX0_signsDiffer_3 rfl (lv_at hl 2 rfl) ?_
  obtain ⟨v1, h1, h⟩ := rs_bind h
  refine rs_goI (rs_runV (b := a0) (As := [.int (0 : Int32), .int a1, .int a2]) (rest := []) C hP hS (kX0_isMinus l D ad cI cJ tP tR M a0 (0 : Int32) a1 a2 ha0 _ h1) mk_X0_isMinus wd_479 (xR_eq ha0) rfl ⟨rfl, rfl, Nat.le_of_ble_eq_true rfl, Nat.le_of_ble_eq_true rfl⟩ rfl hl.1 (Nat.le_of_ble_eq_true rfl) dX0_signsDiffer_4) hS (fun H locs hP hS => ?_)
  refine lv_aload_n hx hb dX0_signsDiffer_7 rfl (lv_at hl 0 rfl) ?_
  refine lv_iconst (v := (1 : Int32)) hx hb dX0_signsDiffer_8 (by decide) ?_
  refine lv_iload_n hx hb dX0_signsDiffer_9 rfl (lv_at hl 1 rfl) ?_
  refine lv_iload_n hx hb dX0_signsDiffer_10 rfl (lv_at hl 2 rfl) ?_
  obtain ⟨v2, h1, h⟩ := rs_bind h
  refine rs_goI (rs_runV (b := a0) (As := [.int (1 : Int32), .int a1, .int a2]) (rest := [.int v1]) C hP hS (kX0_isMinus l D ad cI cJ tP tR M a0 (1 : Int32) a1 a2 ha0 _ h1) mk_X0_isMinus wd_479 (xR_eq ha0) rfl ⟨rfl, rfl, Nat.le_of_ble_eq_true rfl, Nat.le_of_ble_eq_true rfl⟩ rfl hl.1 (Nat.le_of_ble_eq_true rfl) dX0_signsDiffer_11) hS (fun H locs hP hS => ?_)
  refine lv_icmp_eq (tgt := 21) hx hb dX0_signsDiffer_14 (by decide) (fun cd => ?_) (fun cd => ?_)
  · have h := (if_pos cd).symm.trans h
    refine lv_iconst (v := (0 : Int32)) hx hb dX0_signsDiffer_21 (by decide) ?_
    obtain ⟨rfl, hz⟩ := rs_okZ h
    exact hret H locs _ ls hz hP hS dX0_signsDiffer_22
  · have h := (if_neg cd).symm.trans h
    refine lv_iconst (v := (1 : Int32)) hx hb dX0_signsDiffer_17 (by decide) ?_
    refine lv_goto (tgt := 22) hx hb dX0_signsDiffer_18 (by decide) ?_
    obtain ⟨rfl, hz⟩ := rs_okZ h
    exact hret H locs _ ls hz hP hS dX0_signsDiffer_22
abbrev rX5_isRoundPrime : Room := { frames := 0, cells := 0, slots := 0, locals := 0 }
theorem dX5_isRoundPrime_0 : decode cX5_isRoundPrime 0 = .ok (.getstatic 190, 3) := by decide +kernel
theorem dX5_isRoundPrime_3 : decode cX5_isRoundPrime 3 = .ok (.astore_n 1, 1) := by decide +kernel
theorem dX5_isRoundPrime_4 : decode cX5_isRoundPrime 4 = .ok (.aload_n 1, 1) := by decide +kernel
theorem dX5_isRoundPrime_5 : decode cX5_isRoundPrime 5 = .ok (.arraylength, 1) := by decide +kernel
theorem dX5_isRoundPrime_6 : decode cX5_isRoundPrime 6 = .ok (.istore_n 2, 1) := by decide +kernel
theorem dX5_isRoundPrime_7 : decode cX5_isRoundPrime 7 = .ok (.iconst 0, 1) := by decide +kernel
theorem dX5_isRoundPrime_8 : decode cX5_isRoundPrime 8 = .ok (.istore_n 3, 1) := by decide +kernel
theorem dX5_isRoundPrime_9 : decode cX5_isRoundPrime 9 = .ok (.iload_n 3, 1) := by decide +kernel
theorem dX5_isRoundPrime_10 : decode cX5_isRoundPrime 10 = .ok (.iload_n 2, 1) := by decide +kernel
theorem dX5_isRoundPrime_11 : decode cX5_isRoundPrime 11 = .ok (.if_icmp .ge 22, 3) := by decide +kernel
theorem dX5_isRoundPrime_14 : decode cX5_isRoundPrime 14 = .ok (.aload_n 1, 1) := by decide +kernel
theorem dX5_isRoundPrime_15 : decode cX5_isRoundPrime 15 = .ok (.iload_n 3, 1) := by decide +kernel
theorem dX5_isRoundPrime_16 : decode cX5_isRoundPrime 16 = .ok (.iaload, 1) := by decide +kernel
theorem dX5_isRoundPrime_17 : decode cX5_isRoundPrime 17 = .ok (.istore 4, 2) := by decide +kernel
theorem dX5_isRoundPrime_19 : decode cX5_isRoundPrime 19 = .ok (.iload 4, 2) := by decide +kernel
theorem dX5_isRoundPrime_21 : decode cX5_isRoundPrime 21 = .ok (.iload_n 0, 1) := by decide +kernel
theorem dX5_isRoundPrime_22 : decode cX5_isRoundPrime 22 = .ok (.if_icmp .ne 5, 3) := by decide +kernel
theorem dX5_isRoundPrime_25 : decode cX5_isRoundPrime 25 = .ok (.iconst 1, 1) := by decide +kernel
theorem dX5_isRoundPrime_26 : decode cX5_isRoundPrime 26 = .ok (.ireturn, 1) := by decide +kernel
theorem dX5_isRoundPrime_27 : decode cX5_isRoundPrime 27 = .ok (.iinc 3 1, 3) := by decide +kernel
theorem dX5_isRoundPrime_30 : decode cX5_isRoundPrime 30 = .ok (.goto (-21), 3) := by decide +kernel
theorem dX5_isRoundPrime_33 : decode cX5_isRoundPrime 33 = .ok (.iconst 0, 1) := by decide +kernel
theorem dX5_isRoundPrime_34 : decode cX5_isRoundPrime 34 = .ok (.ireturn, 1) := by decide +kernel
set_option maxRecDepth 100000 in
set_option maxHeartbeats 4000000 in
theorem kX5_isRoundPrime (l : Launch) (D : va_G) (ad : Nat → Nat) (cI cJ : ClassId) (tP tR : Nat) (N : Nat) (M : Mem) (a0 : Int32)  (o : Int32) (h : fX5_isRoundPrime N a0 = some o) : qMet l D cI cJ tP tR (xA ad) (xW ad cI cJ) yX5_isRoundPrime cX5_isRoundPrime 5 (some .boolean) rX5_isRoundPrime [.int a0] M (qQi D (xA ad) (xW ad cI cJ) o M) := by
  refine rs_enterZ (own := RX5) ⟨by decide +kernel, rfl, Nat.le_of_ble_eq_true rfl⟩ ?_
  intro p e s m args below meth c Q C hret H locs ls hP hS hl
  obtain ⟨hx, hb, -⟩ := id C
  have hl : lv_has ls 5 [(0, .int a0)] := hl
  unfold fX5_isRoundPrime at h
  refine rs_getR C hS wd_490 dX5_isRoundPrime_0 ?_
  refine lv_astore_n (lv' := [(1, .ref tR), (0, .int a0)]) hx hb dX5_isRoundPrime_3 rfl hl (by decide) rfl (fun ls hl => ?_)
  refine lv_aload_n hx hb dX5_isRoundPrime_4 rfl (lv_at hl 0 rfl) ?_
  refine rs_lenR C hS dX5_isRoundPrime_5 ?_
  refine lv_istore_n (lv' := [(2, .int (11 : Int32)), (1, .ref tR), (0, .int a0)]) hx hb dX5_isRoundPrime_6 rfl hl (by decide) rfl (fun ls hl => ?_)
  refine lv_iconst (v := (0 : Int32)) hx hb dX5_isRoundPrime_7 (by decide) ?_
  refine lv_istore_n (lv' := [(3, .int (0 : Int32)), (2, .int (11 : Int32)), (1, .ref tR), (0, .int a0)]) hx hb dX5_isRoundPrime_8 rfl hl (by decide) rfl (fun ls hl => ?_)
  have hL9 : ∀ (n9 : Nat) (v1 : Int32) (H : Heap) (locs : List Loc) (ls : Array Slot), va_P D vwCl (xW ad cI cJ M) H → va_S (xA ad) s.heap H locs → lv_has ls 5 [(0, .int a0), (1, .ref tR), (2, .int (11 : Int32)), (3, .int v1)] → lp (fun _ => none) (sX5_isRoundPrime_9 a0) n9 v1 = some o → W p l e rX5_isRoundPrime s m args below meth c H locs 0 0 Q (F0 m 9 ls []) := by
    intro n9
    induction n9 with
    | zero => intro v1 H locs ls hP hS hl h; have h : (none : Option Int32) = some o := h; cases h
    | succ n9 ih9 =>
      intro v1 H locs ls hP hS hl h
      have h : sX5_isRoundPrime_9 a0 (lp (fun _ => none) (sX5_isRoundPrime_9 a0) n9) v1 = some o := h
      generalize lp (fun _ => none) (sX5_isRoundPrime_9 a0) n9 = cont9 at h ih9
      unfold sX5_isRoundPrime_9 at h
      refine lv_iload_n hx hb dX5_isRoundPrime_9 rfl (lv_at hl 3 rfl) ?_
      refine lv_iload_n hx hb dX5_isRoundPrime_10 rfl (lv_at hl 2 rfl) ?_
      refine lv_icmp_ge (tgt := 33) hx hb dX5_isRoundPrime_11 (by decide) (fun cd => ?_) (fun cd => ?_)
      · have h := (if_pos cd).symm.trans h
        refine lv_iconst (v := (0 : Int32)) hx hb dX5_isRoundPrime_33 (by decide) ?_
        obtain ⟨rfl, hz⟩ := rs_okZ h
        exact hret H locs _ ls hz hP hS dX5_isRoundPrime_34
      · have h := (if_neg cd).symm.trans h
        refine lv_aload_n hx hb dX5_isRoundPrime_14 rfl (lv_at hl 1 rfl) ?_
        refine lv_iload_n hx hb dX5_isRoundPrime_15 rfl (lv_at hl 3 rfl) ?_
        refine rs_ldR C hS dX5_isRoundPrime_16 h (fun v2 h => ?_)
        refine lv_istore (lv' := [(4, .int v2), (0, .int a0), (1, .ref tR), (2, .int (11 : Int32)), (3, .int v1)]) hx hb dX5_isRoundPrime_17 hl (by decide) rfl (fun ls hl => ?_)
        refine lv_iload hx hb dX5_isRoundPrime_19 (lv_at hl 0 rfl) ?_
        refine lv_iload_n hx hb dX5_isRoundPrime_21 rfl (lv_at hl 1 rfl) ?_
        refine lv_icmp_ne (tgt := 27) hx hb dX5_isRoundPrime_22 (by decide) (fun cd => ?_) (fun cd => ?_)
        · have h := (if_neg cd).symm.trans h
          refine lv_iinc (v := (v1 + 1)) (lv' := [(3, .int (v1 + 1)), (4, .int v2), (0, .int a0), (1, .ref tR), (2, .int (11 : Int32))]) hx hb dX5_isRoundPrime_27 hl (k := 4) rfl rfl (by decide) rfl (fun ls hl => ?_)
          refine lv_goto (tgt := 9) hx hb dX5_isRoundPrime_30 (by decide) ?_
          exact ih9 _ H locs ls hP hS (lv_sub hl [2, 3, 4, 0] rfl) h
        · have h := (if_pos cd).symm.trans h
          refine lv_iconst (v := (1 : Int32)) hx hb dX5_isRoundPrime_25 (by decide) ?_
          obtain ⟨rfl, hz⟩ := rs_okZ h
          exact hret H locs _ ls hz hP hS dX5_isRoundPrime_26
  exact hL9 N _ H locs ls hP hS (lv_sub hl [3, 2, 1, 0] rfl) h

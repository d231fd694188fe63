abbrev rX5_term : Room := { frames := 2, cells := 0, slots := 0, locals := 42 }
theorem dX5_term_0 : decode cX5_term 0 = .ok (.aload_n 0, 1) := by decide +kernel
theorem dX5_term_1 : decode cX5_term 1 = .ok (.iload_n 1, 1) := by decide +kernel
theorem dX5_term_2 : decode cX5_term 2 = .ok (.invokevirtual 47, 3) := by decide +kernel
theorem dX5_term_5 : decode cX5_term 5 = .ok (.astore 5, 2) := by decide +kernel
theorem dX5_term_7 : decode cX5_term 7 = .ok (.aload 5, 2) := by decide +kernel
theorem dX5_term_9 : decode cX5_term 9 = .ok (.ifnonnull 5, 3) := by decide +kernel
theorem dX5_term_12 : decode cX5_term 12 = .ok (.iconst (-1), 1) := by decide +kernel
theorem dX5_term_13 : decode cX5_term 13 = .ok (.ireturn, 1) := by decide +kernel
theorem dX5_term_14 : decode cX5_term 14 = .ok (.iload_n 2, 1) := by decide +kernel
theorem dX5_term_15 : decode cX5_term 15 = .ok (.iconst 0, 1) := by decide +kernel
theorem dX5_term_16 : decode cX5_term 16 = .ok (.bipush 6, 2) := by decide +kernel
theorem dX5_term_18 : decode cX5_term 18 = .ok (.invokestatic 51, 3) := by decide +kernel
theorem dX5_term_21 : decode cX5_term 21 = .ok (.ifCond .eq 21, 3) := by decide +kernel
theorem dX5_term_24 : decode cX5_term 24 = .ok (.iload_n 3, 1) := by decide +kernel
theorem dX5_term_25 : decode cX5_term 25 = .ok (.iconst 0, 1) := by decide +kernel
theorem dX5_term_26 : decode cX5_term 26 = .ok (.bipush 6, 2) := by decide +kernel
theorem dX5_term_28 : decode cX5_term 28 = .ok (.invokestatic 51, 3) := by decide +kernel
theorem dX5_term_31 : decode cX5_term 31 = .ok (.ifCond .eq 11, 3) := by decide +kernel
theorem dX5_term_34 : decode cX5_term 34 = .ok (.iload 4, 2) := by decide +kernel
theorem dX5_term_36 : decode cX5_term 36 = .ok (.invokestatic 55, 3) := by decide +kernel
theorem dX5_term_39 : decode cX5_term 39 = .ok (.ifCond .ne 6, 3) := by decide +kernel
theorem dX5_term_42 : decode cX5_term 42 = .ok (.bipush (-2), 2) := by decide +kernel
theorem dX5_term_44 : decode cX5_term 44 = .ok (.ireturn, 1) := by decide +kernel
theorem dX5_term_45 : decode cX5_term 45 = .ok (.aload 5, 2) := by decide +kernel
theorem dX5_term_47 : decode cX5_term 47 = .ok (.getfield 59, 3) := by decide +kernel
theorem dX5_term_50 : decode cX5_term 50 = .ok (.bipush 8, 2) := by decide +kernel
theorem dX5_term_52 : decode cX5_term 52 = .ok (.if_icmp .lt 6, 3) := by decide +kernel
theorem dX5_term_55 : decode cX5_term 55 = .ok (.bipush (-4), 2) := by decide +kernel
theorem dX5_term_57 : decode cX5_term 57 = .ok (.ireturn, 1) := by decide +kernel
theorem dX5_term_58 : decode cX5_term 58 = .ok (.aload 5, 2) := by decide +kernel
theorem dX5_term_60 : decode cX5_term 60 = .ok (.iload_n 2, 1) := by decide +kernel
theorem dX5_term_61 : decode cX5_term 61 = .ok (.iload_n 3, 1) := by decide +kernel
theorem dX5_term_62 : decode cX5_term 62 = .ok (.invokevirtual 63, 3) := by decide +kernel
theorem dX5_term_65 : decode cX5_term 65 = .ok (.ifCond .eq 6, 3) := by decide +kernel
theorem dX5_term_68 : decode cX5_term 68 = .ok (.bipush (-5), 2) := by decide +kernel
theorem dX5_term_70 : decode cX5_term 70 = .ok (.ireturn, 1) := by decide +kernel
theorem dX5_term_71 : decode cX5_term 71 = .ok (.aload_n 0, 1) := by decide +kernel
theorem dX5_term_72 : decode cX5_term 72 = .ok (.invokevirtual 67, 3) := by decide +kernel
theorem dX5_term_75 : decode cX5_term 75 = .ok (.aload 5, 2) := by decide +kernel
theorem dX5_term_77 : decode cX5_term 77 = .ok (.iload_n 2, 1) := by decide +kernel
theorem dX5_term_78 : decode cX5_term 78 = .ok (.iload_n 3, 1) := by decide +kernel
theorem dX5_term_79 : decode cX5_term 79 = .ok (.iload 4, 2) := by decide +kernel
theorem dX5_term_81 : decode cX5_term 81 = .ok (.invokevirtual 70, 3) := by decide +kernel
theorem dX5_term_84 : decode cX5_term 84 = .ok (.ireturn, 1) := by decide +kernel
set_option maxRecDepth 100000 in
set_option maxHeartbeats 4000000 in
theorem kX5_term (l : Launch) (D : va_G) (ad : Nat → Nat) (cI cJ : ClassId) (tP tR : Nat) (N : Nat) (M : Mem) (a1 : Int32) (a2 : Int32) (a3 : Int32) (a4 : Int32)  (o : (Int32 × Mem)) (h : fX5_term N M a1 a2 a3 a4 = some o) : qMet l D cI cJ tP tR (xA ad) (xW ad cI cJ) yX5_term cX5_term 6 (some .int) rX5_term [.ref (ad 0), .int a1, .int a2, .int a3, .int a4] M (qQi D (xA ad) (xW ad cI cJ) o.1 o.2) := by
  refine rs_enterI (own := RX5) ⟨by decide +kernel, rfl, Nat.le_of_ble_eq_true rfl⟩ ?_
  intro p e s m args below meth c Q C hret H locs ls hP hS hl
  obtain ⟨hx, hb, -⟩ := id C
  have hl : lv_has ls 6 [(0, .ref (ad 0)), (1, .int a1), (2, .int a2), (3, .int a3), (4, .int a4)] := hl
  unfold fX5_term at h
  refine lv_aload_n hx hb dX5_term_0 rfl (lv_at hl 0 rfl) ?_
  refine lv_iload_n hx hb dX5_term_1 rfl (lv_at hl 1 rfl) ?_
  obtain ⟨q1, h1, h⟩ := rs_bind h
  refine rs_goR (rs_runV (b := 0) (As := [.int a1]) (rest := []) C hP hS (kX5_equationOf l D ad cI cJ tP tR M a1 _ h1) mk_X5_equationOf wd_227 (xR_0) rfl ⟨rfl, rfl, Nat.le_of_ble_eq_true rfl, Nat.le_of_ble_eq_true rfl⟩ rfl hl.1 (Nat.le_of_ble_eq_true rfl) dX5_term_2) hS (fun H locs hP hS => ?_)
  cases q1 with
  | none =>
    dsimp only at h
    show W p l e rX5_term s m args below meth c H locs 0 0 Q (F0 m 5 ls [.null])
    refine lv_astoreN (lv' := [(5, .null), (0, .ref (ad 0)), (1, .int a1), (2, .int a2), (3, .int a3), (4, .int a4)]) hx hb dX5_term_5 hl (by decide) rfl (fun ls hl => ?_)
    refine lv_aloadN hx hb dX5_term_7 (lv_at hl 0 rfl) ?_
    refine lv_ifnonnullN hx hb dX5_term_9 ?_
    refine lv_iconst (v := (-1 : Int32)) hx hb dX5_term_12 (by decide) ?_
    cases h
    exact hret H locs _ ls hP hS dX5_term_13
  | some e2 =>
    dsimp only at h
    have he2 := eqOf_cell h1
    show W p l e rX5_term s m args below meth c H locs 0 0 Q (F0 m 5 ls [.ref (ad e2)])
    refine lv_astore (lv' := [(5, .ref (ad e2)), (0, .ref (ad 0)), (1, .int a1), (2, .int a2), (3, .int a3), (4, .int a4)]) hx hb dX5_term_5 hl (by decide) rfl (fun ls hl => ?_)
    refine lv_aload hx hb dX5_term_7 (lv_at hl 0 rfl) ?_
    refine lv_ifnonnull (tgt := 14) hx hb dX5_term_9 (by decide) ?_
    refine lv_iload_n hx hb dX5_term_14 rfl (lv_at hl 3 rfl) ?_
    refine lv_iconst (v := (0 : Int32)) hx hb dX5_term_15 (by decide) ?_
    refine lv_bipush (v := (6 : Int32)) hx hb dX5_term_16 (by decide) ?_
    obtain ⟨v3, h1, h⟩ := rs_bind h
    refine rs_goI (rs_runS (As := [.int a2, .int (0 : Int32), .int (6 : Int32)]) (rest := []) C hP hS (kX5_within l D ad cI cJ tP tR M a2 (0 : Int32) (6 : Int32) _ h1) mk_X5_within wd_231 rfl ⟨rfl, rfl, Nat.le_of_ble_eq_true rfl, Nat.le_of_ble_eq_true rfl⟩ rfl hl.1 (Nat.le_of_ble_eq_true rfl) dX5_term_18) hS (fun H locs hP hS => ?_)
    refine lv_if_eq (tgt := 42) hx hb dX5_term_21 (by decide) (fun cd => ?_) (fun cd => ?_)
    · have h := (if_pos cd).symm.trans h
      refine lv_bipush (v := (-2 : Int32)) hx hb dX5_term_42 (by decide) ?_
      cases h
      exact hret H locs _ ls hP hS dX5_term_44
    · have h := (if_neg cd).symm.trans h
      refine lv_iload_n hx hb dX5_term_24 rfl (lv_at hl 4 rfl) ?_
      refine lv_iconst (v := (0 : Int32)) hx hb dX5_term_25 (by decide) ?_
      refine lv_bipush (v := (6 : Int32)) hx hb dX5_term_26 (by decide) ?_
      obtain ⟨v4, h1, h⟩ := rs_bind h
      refine rs_goI (rs_runS (As := [.int a3, .int (0 : Int32), .int (6 : Int32)]) (rest := []) C hP hS (kX5_within l D ad cI cJ tP tR M a3 (0 : Int32) (6 : Int32) _ h1) mk_X5_within wd_231 rfl ⟨rfl, rfl, Nat.le_of_ble_eq_true rfl, Nat.le_of_ble_eq_true rfl⟩ rfl hl.1 (Nat.le_of_ble_eq_true rfl) dX5_term_28) hS (fun H locs hP hS => ?_)
      refine lv_if_eq (tgt := 42) hx hb dX5_term_31 (by decide) (fun cd => ?_) (fun cd => ?_)
      · have h := (if_pos cd).symm.trans h
        refine lv_bipush (v := (-2 : Int32)) hx hb dX5_term_42 (by decide) ?_
        cases h
        exact hret H locs _ ls hP hS dX5_term_44
      · have h := (if_neg cd).symm.trans h
        refine lv_iload hx hb dX5_term_34 (lv_at hl 5 rfl) ?_
        obtain ⟨v5, h1, h⟩ := rs_bind h
        refine rs_goI (rs_runS (As := [.int a4]) (rest := []) C hP hS (kX5_isFactor l D ad cI cJ tP tR M a4 _ h1) mk_X5_isFactor wd_234 rfl ⟨rfl, rfl, Nat.le_of_ble_eq_true rfl, Nat.le_of_ble_eq_true rfl⟩ rfl hl.1 (Nat.le_of_ble_eq_true rfl) dX5_term_36) hS (fun H locs hP hS => ?_)
        refine lv_if_ne (tgt := 45) hx hb dX5_term_39 (by decide) (fun cd => ?_) (fun cd => ?_)
        · have h := (if_neg cd).symm.trans h
          refine lv_aload hx hb dX5_term_45 (lv_at hl 0 rfl) ?_
          refine gfX5_59 C hP he2 dX5_term_47 ?_
          refine lv_bipush (v := (8 : Int32)) hx hb dX5_term_50 (by decide) ?_
          refine lv_icmp_lt (tgt := 58) hx hb dX5_term_52 (by decide) (fun cd => ?_) (fun cd => ?_)
          · have h := (if_pos cd).symm.trans h
            refine lv_aload hx hb dX5_term_58 (lv_at hl 0 rfl) ?_
            refine lv_iload_n hx hb dX5_term_60 rfl (lv_at hl 3 rfl) ?_
            refine lv_iload_n hx hb dX5_term_61 rfl (lv_at hl 4 rfl) ?_
            obtain ⟨v6, h1, h⟩ := rs_bind h
            refine rs_goI (rs_runV (b := e2) (As := [.int a2, .int a3]) (rest := []) C hP hS (kX0_holds l D ad cI cJ tP tR N M e2 a2 a3 he2 _ h1) mk_X0_holds wd_237 (xR_eq he2) rfl ⟨rfl, rfl, Nat.le_of_ble_eq_true rfl, Nat.le_of_ble_eq_true rfl⟩ rfl hl.1 (Nat.le_of_ble_eq_true rfl) dX5_term_62) hS (fun H locs hP hS => ?_)
            refine lv_if_eq (tgt := 71) hx hb dX5_term_65 (by decide) (fun cd => ?_) (fun cd => ?_)
            · have h := (if_pos cd).symm.trans h
              refine lv_aload_n hx hb dX5_term_71 rfl (lv_at hl 1 rfl) ?_
              obtain ⟨M7, h1, h⟩ := rs_bind h
              refine rs_goV (rs_runV (b := 0) (As := []) (rest := []) C hP hS (kX5_forgetFound l D ad cI cJ tP tR M  _ h1) mk_X5_forgetFound wd_241 (xR_0) rfl ⟨rfl, rfl, Nat.le_of_ble_eq_true rfl, Nat.le_of_ble_eq_true rfl⟩ rfl hl.1 (Nat.le_of_ble_eq_true rfl) dX5_term_72) hS (fun H locs hP hS => ?_)
              refine lv_aload hx hb dX5_term_75 (lv_at hl 0 rfl) ?_
              refine lv_iload_n hx hb dX5_term_77 rfl (lv_at hl 3 rfl) ?_
              refine lv_iload_n hx hb dX5_term_78 rfl (lv_at hl 4 rfl) ?_
              refine lv_iload hx hb dX5_term_79 (lv_at hl 5 rfl) ?_
              obtain ⟨⟨v9, M8⟩, h1, h⟩ := rs_bind h
              dsimp only at h
              refine rs_goI (rs_runV (b := e2) (As := [.int a2, .int a3, .int a4]) (rest := []) C hP hS (kX0_add l D ad cI cJ tP tR M7 e2 a2 a3 a4 he2 _ h1) mk_X0_add wd_245 (xR_eq he2) rfl ⟨rfl, rfl, Nat.le_of_ble_eq_true rfl, Nat.le_of_ble_eq_true rfl⟩ rfl hl.1 (Nat.le_of_ble_eq_true rfl) dX5_term_81) hS (fun H locs hP hS => ?_)
              cases h
              exact hret H locs _ ls hP hS dX5_term_84
            · have h := (if_neg cd).symm.trans h
              refine lv_bipush (v := (-5 : Int32)) hx hb dX5_term_68 (by decide) ?_
              cases h
              exact hret H locs _ ls hP hS dX5_term_70
          · have h := (if_neg cd).symm.trans h
            refine lv_bipush (v := (-4 : Int32)) hx hb dX5_term_55 (by decide) ?_
            cases h
            exact hret H locs _ ls hP hS dX5_term_57
        · have h := (if_pos cd).symm.trans h
          refine lv_bipush (v := (-2 : Int32)) hx hb dX5_term_42 (by decide) ?_
          cases h
          exact hret H locs _ ls hP hS dX5_term_44
abbrev rX5_about : Room := { frames := 2, cells := 0, slots := 0, locals := 43 }
theorem dX5_about_0 : decode cX5_about 0 = .ok (.aload_n 0, 1) := by decide +kernel
theorem dX5_about_1 : decode cX5_about 1 = .ok (.iload_n 1, 1) := by decide +kernel
theorem dX5_about_2 : decode cX5_about 2 = .ok (.invokevirtual 47, 3) := by decide +kernel
theorem dX5_about_5 : decode cX5_about 5 = .ok (.astore 4, 2) := by decide +kernel
theorem dX5_about_7 : decode cX5_about 7 = .ok (.aload 4, 2) := by decide +kernel
theorem dX5_about_9 : decode cX5_about 9 = .ok (.ifnull 12, 3) := by decide +kernel
theorem dX5_about_12 : decode cX5_about 12 = .ok (.aload 4, 2) := by decide +kernel
theorem dX5_about_14 : decode cX5_about 14 = .ok (.iload_n 2, 1) := by decide +kernel
theorem dX5_about_15 : decode cX5_about 15 = .ok (.invokevirtual 74, 3) := by decide +kernel
theorem dX5_about_18 : decode cX5_about 18 = .ok (.ifCond .ne 6, 3) := by decide +kernel
theorem dX5_about_21 : decode cX5_about 21 = .ok (.bipush (-101), 2) := by decide +kernel
theorem dX5_about_23 : decode cX5_about 23 = .ok (.ireturn, 1) := by decide +kernel
theorem dX5_about_24 : decode cX5_about 24 = .ok (.iload_n 3, 1) := by decide +kernel
theorem dX5_about_25 : decode cX5_about 25 = .ok (.tableswitch 63 0 3 #[31, 39, 47, 55], 31) := by decide +kernel
theorem dX5_about_56 : decode cX5_about 56 = .ok (.aload 4, 2) := by decide +kernel
theorem dX5_about_58 : decode cX5_about 58 = .ok (.getfield 77, 3) := by decide +kernel
theorem dX5_about_61 : decode cX5_about 61 = .ok (.iload_n 2, 1) := by decide +kernel
theorem dX5_about_62 : decode cX5_about 62 = .ok (.iaload, 1) := by decide +kernel
theorem dX5_about_63 : decode cX5_about 63 = .ok (.ireturn, 1) := by decide +kernel
theorem dX5_about_64 : decode cX5_about 64 = .ok (.aload 4, 2) := by decide +kernel
theorem dX5_about_66 : decode cX5_about 66 = .ok (.getfield 81, 3) := by decide +kernel
theorem dX5_about_69 : decode cX5_about 69 = .ok (.iload_n 2, 1) := by decide +kernel
theorem dX5_about_70 : decode cX5_about 70 = .ok (.iaload, 1) := by decide +kernel
theorem dX5_about_71 : decode cX5_about 71 = .ok (.ireturn, 1) := by decide +kernel
theorem dX5_about_72 : decode cX5_about 72 = .ok (.aload 4, 2) := by decide +kernel
theorem dX5_about_74 : decode cX5_about 74 = .ok (.getfield 84, 3) := by decide +kernel
theorem dX5_about_77 : decode cX5_about 77 = .ok (.iload_n 2, 1) := by decide +kernel
theorem dX5_about_78 : decode cX5_about 78 = .ok (.iaload, 1) := by decide +kernel
theorem dX5_about_79 : decode cX5_about 79 = .ok (.ireturn, 1) := by decide +kernel
theorem dX5_about_80 : decode cX5_about 80 = .ok (.aload 4, 2) := by decide +kernel
theorem dX5_about_82 : decode cX5_about 82 = .ok (.getfield 87, 3) := by decide +kernel
theorem dX5_about_85 : decode cX5_about 85 = .ok (.iload_n 2, 1) := by decide +kernel
theorem dX5_about_86 : decode cX5_about 86 = .ok (.iaload, 1) := by decide +kernel
theorem dX5_about_87 : decode cX5_about 87 = .ok (.ireturn, 1) := by decide +kernel
theorem dX5_about_88 : decode cX5_about 88 = .ok (.bipush (-102), 2) := by decide +kernel
theorem dX5_about_90 : decode cX5_about 90 = .ok (.ireturn, 1) := by decide +kernel
set_option maxRecDepth 100000 in
set_option maxHeartbeats 4000000 in
theorem kX5_about (l : Launch) (D : va_G) (ad : Nat → Nat) (cI cJ : ClassId) (tP tR : Nat) (M : Mem) (a1 : Int32) (a2 : Int32) (a3 : Int32)  (o : Int32) (h : fX5_about M a1 a2 a3 = some o) : qMet l D cI cJ tP tR (xA ad) (xW ad cI cJ) yX5_about cX5_about 5 (some .int) rX5_about [.ref (ad 0), .int a1, .int a2, .int a3] M (qQi D (xA ad) (xW ad cI cJ) o M) := by
  refine rs_enterI (own := RX5) ⟨by decide +kernel, rfl, Nat.le_of_ble_eq_true rfl⟩ ?_
  intro p e s m args below meth c Q C hret H locs ls hP hS hl
  obtain ⟨hx, hb, -⟩ := id C
  have hl : lv_has ls 5 [(0, .ref (ad 0)), (1, .int a1), (2, .int a2), (3, .int a3)] := hl
  unfold fX5_about at h
  refine lv_aload_n hx hb dX5_about_0 rfl (lv_at hl 0 rfl) ?_
  refine lv_iload_n hx hb dX5_about_1 rfl (lv_at hl 1 rfl) ?_
  obtain ⟨q1, h1, h⟩ := rs_bind h
  refine rs_goR (rs_runV (b := 0) (As := [.int a1]) (rest := []) C hP hS (kX5_equationOf l D ad cI cJ tP tR M a1 _ h1) mk_X5_equationOf wd_227 (xR_0) rfl ⟨rfl, rfl, Nat.le_of_ble_eq_true rfl, Nat.le_of_ble_eq_true rfl⟩ rfl hl.1 (Nat.le_of_ble_eq_true rfl) dX5_about_2) hS (fun H locs hP hS => ?_)
  cases q1 with
  | none =>
    dsimp only at h
    show W p l e rX5_about s m args below meth c H locs 0 0 Q (F0 m 5 ls [.null])
    refine lv_astoreN (lv' := [(4, .null), (0, .ref (ad 0)), (1, .int a1), (2, .int a2), (3, .int a3)]) hx hb dX5_about_5 hl (by decide) rfl (fun ls hl => ?_)
    refine lv_aloadN hx hb dX5_about_7 (lv_at hl 0 rfl) ?_
    refine lv_ifnullN (tgt := 21) hx hb dX5_about_9 (by decide) ?_
    refine lv_bipush (v := (-101 : Int32)) hx hb dX5_about_21 (by decide) ?_
    cases h
    exact hret H locs _ ls hP hS dX5_about_23
  | some e2 =>
    dsimp only at h
    have he2 := eqOf_cell h1
    show W p l e rX5_about s m args below meth c H locs 0 0 Q (F0 m 5 ls [.ref (ad e2)])
    refine lv_astore (lv' := [(4, .ref (ad e2)), (0, .ref (ad 0)), (1, .int a1), (2, .int a2), (3, .int a3)]) hx hb dX5_about_5 hl (by decide) rfl (fun ls hl => ?_)
    refine lv_aload hx hb dX5_about_7 (lv_at hl 0 rfl) ?_
    refine lv_ifnull hx hb dX5_about_9 ?_
    refine lv_aload hx hb dX5_about_12 (lv_at hl 0 rfl) ?_
    refine lv_iload_n hx hb dX5_about_14 rfl (lv_at hl 3 rfl) ?_
    obtain ⟨v3, h1, h⟩ := rs_bind h
    refine rs_goI (rs_runV (b := e2) (As := [.int a2]) (rest := []) C hP hS (kX0_has l D ad cI cJ tP tR M e2 a2 he2 _ h1) mk_X0_has wd_253 (xR_eq he2) rfl ⟨rfl, rfl, Nat.le_of_ble_eq_true rfl, Nat.le_of_ble_eq_true rfl⟩ rfl hl.1 (Nat.le_of_ble_eq_true rfl) dX5_about_15) hS (fun H locs hP hS => ?_)
    refine lv_if_ne (tgt := 24) hx hb dX5_about_18 (by decide) (fun cd => ?_) (fun cd => ?_)
    · have h := (if_neg cd).symm.trans h
      refine lv_iload_n hx hb dX5_about_24 rfl (lv_at hl 4 rfl) ?_
      by_cases c0 : a3 = 0
      · have h := (if_pos c0).symm.trans h
        refine lv_tableIn (tgt := 56) (off := 31) hx hb dX5_about_25 (by rw [c0]; decide) (by rw [c0]; decide) (by rw [c0]; rfl) (by decide) ?_
        refine lv_aload hx hb dX5_about_56 (lv_at hl 0 rfl) ?_
        refine gfX5_77 C hP he2 dX5_about_58 ?_
        refine lv_iload_n hx hb dX5_about_61 rfl (lv_at hl 3 rfl) ?_
        refine rs_iald C hP (xIA_e1 he2) dX5_about_62 h (fun v4 h => ?_)
        cases h
        exact hret H locs _ ls hP hS dX5_about_63
      · have h := (if_neg c0).symm.trans h
        by_cases c1 : a3 = 1
        · have h := (if_pos c1).symm.trans h
          refine lv_tableIn (tgt := 64) (off := 39) hx hb dX5_about_25 (by rw [c1]; decide) (by rw [c1]; decide) (by rw [c1]; rfl) (by decide) ?_
          refine lv_aload hx hb dX5_about_64 (lv_at hl 0 rfl) ?_
          refine gfX5_81 C hP he2 dX5_about_66 ?_
          refine lv_iload_n hx hb dX5_about_69 rfl (lv_at hl 3 rfl) ?_
          refine rs_iald C hP (xIA_e2 he2) dX5_about_70 h (fun v5 h => ?_)
          cases h
          exact hret H locs _ ls hP hS dX5_about_71
        · have h := (if_neg c1).symm.trans h
          by_cases c2 : a3 = 2
          · have h := (if_pos c2).symm.trans h
            refine lv_tableIn (tgt := 72) (off := 47) hx hb dX5_about_25 (by rw [c2]; decide) (by rw [c2]; decide) (by rw [c2]; rfl) (by decide) ?_
            refine lv_aload hx hb dX5_about_72 (lv_at hl 0 rfl) ?_
            refine gfX5_84 C hP he2 dX5_about_74 ?_
            refine lv_iload_n hx hb dX5_about_77 rfl (lv_at hl 3 rfl) ?_
            refine rs_iald C hP (xIA_e3 he2) dX5_about_78 h (fun v6 h => ?_)
            cases h
            exact hret H locs _ ls hP hS dX5_about_79
          · have h := (if_neg c2).symm.trans h
            by_cases c3 : a3 = 3
            · have h := (if_pos c3).symm.trans h
              refine lv_tableIn (tgt := 80) (off := 55) hx hb dX5_about_25 (by rw [c3]; decide) (by rw [c3]; decide) (by rw [c3]; rfl) (by decide) ?_
              refine lv_aload hx hb dX5_about_80 (lv_at hl 0 rfl) ?_
              refine gfX5_87 C hP he2 dX5_about_82 ?_
              refine lv_iload_n hx hb dX5_about_85 rfl (lv_at hl 3 rfl) ?_
              refine rs_iald C hP (xIA_e4 he2) dX5_about_86 h (fun v7 h => ?_)
              cases h
              exact hret H locs _ ls hP hS dX5_about_87
            · have h := (if_neg c3).symm.trans h
              have hsw : ¬ (0 ≤ Int32.toInt a3 ∧ Int32.toInt a3 ≤ 3) := by
                rintro ⟨q1, q2⟩
                rcases (show Int32.toInt a3 = 0 ∨ Int32.toInt a3 = 1 ∨ Int32.toInt a3 = 2 ∨ Int32.toInt a3 = 3 by omega) with q | q | q | q
                · exact c0 (Int32.toInt_inj.mp (q.trans rfl))
                · exact c1 (Int32.toInt_inj.mp (q.trans rfl))
                · exact c2 (Int32.toInt_inj.mp (q.trans rfl))
                · exact c3 (Int32.toInt_inj.mp (q.trans rfl))
              refine rs_tabDef (tgt := 88) C dX5_about_25 hsw (by decide) ?_
              refine lv_bipush (v := (-102 : Int32)) hx hb dX5_about_88 (by decide) ?_
              cases h
              exact hret H locs _ ls hP hS dX5_about_90
    · have h := (if_pos cd).symm.trans h
      refine lv_bipush (v := (-101 : Int32)) hx hb dX5_about_21 (by decide) ?_
      cases h
      exact hret H locs _ ls hP hS dX5_about_23
abbrev rX5_change : Room := { frames := 2, cells := 0, slots := 0, locals := 43 }
theorem dX5_change_0 : decode cX5_change 0 = .ok (.aload_n 0, 1) := by decide +kernel
theorem dX5_change_1 : decode cX5_change 1 = .ok (.iload_n 1, 1) := by decide +kernel
theorem dX5_change_2 : decode cX5_change 2 = .ok (.invokevirtual 47, 3) := by decide +kernel
theorem dX5_change_5 : decode cX5_change 5 = .ok (.astore 4, 2) := by decide +kernel
theorem dX5_change_7 : decode cX5_change 7 = .ok (.aload 4, 2) := by decide +kernel
theorem dX5_change_9 : decode cX5_change 9 = .ok (.ifnull 12, 3) := by decide +kernel
theorem dX5_change_12 : decode cX5_change 12 = .ok (.aload 4, 2) := by decide +kernel
theorem dX5_change_14 : decode cX5_change 14 = .ok (.iload_n 2, 1) := by decide +kernel
theorem dX5_change_15 : decode cX5_change 15 = .ok (.invokevirtual 74, 3) := by decide +kernel
theorem dX5_change_18 : decode cX5_change 18 = .ok (.ifCond .ne 6, 3) := by decide +kernel
theorem dX5_change_21 : decode cX5_change 21 = .ok (.bipush (-101), 2) := by decide +kernel
theorem dX5_change_23 : decode cX5_change 23 = .ok (.ireturn, 1) := by decide +kernel
theorem dX5_change_24 : decode cX5_change 24 = .ok (.iload_n 3, 1) := by decide +kernel
theorem dX5_change_25 : decode cX5_change 25 = .ok (.invokestatic 55, 3) := by decide +kernel
theorem dX5_change_28 : decode cX5_change 28 = .ok (.ifCond .ne 6, 3) := by decide +kernel
theorem dX5_change_31 : decode cX5_change 31 = .ok (.bipush (-102), 2) := by decide +kernel
theorem dX5_change_33 : decode cX5_change 33 = .ok (.ireturn, 1) := by decide +kernel
theorem dX5_change_34 : decode cX5_change 34 = .ok (.aload 4, 2) := by decide +kernel
theorem dX5_change_36 : decode cX5_change 36 = .ok (.getfield 84, 3) := by decide +kernel
theorem dX5_change_39 : decode cX5_change 39 = .ok (.iload_n 2, 1) := by decide +kernel
theorem dX5_change_40 : decode cX5_change 40 = .ok (.iaload, 1) := by decide +kernel
theorem dX5_change_41 : decode cX5_change 41 = .ok (.istore 5, 2) := by decide +kernel
theorem dX5_change_43 : decode cX5_change 43 = .ok (.aload 4, 2) := by decide +kernel
theorem dX5_change_45 : decode cX5_change 45 = .ok (.getfield 84, 3) := by decide +kernel
theorem dX5_change_48 : decode cX5_change 48 = .ok (.iload_n 2, 1) := by decide +kernel
theorem dX5_change_49 : decode cX5_change 49 = .ok (.iload_n 3, 1) := by decide +kernel
theorem dX5_change_50 : decode cX5_change 50 = .ok (.iastore, 1) := by decide +kernel
theorem dX5_change_51 : decode cX5_change 51 = .ok (.aload_n 0, 1) := by decide +kernel
theorem dX5_change_52 : decode cX5_change 52 = .ok (.invokevirtual 67, 3) := by decide +kernel
theorem dX5_change_55 : decode cX5_change 55 = .ok (.iload 5, 2) := by decide +kernel
theorem dX5_change_57 : decode cX5_change 57 = .ok (.ireturn, 1) := by decide +kernel
set_option maxRecDepth 100000 in
set_option maxHeartbeats 4000000 in
theorem kX5_change (l : Launch) (D : va_G) (ad : Nat → Nat) (cI cJ : ClassId) (tP tR : Nat) (M : Mem) (a1 : Int32) (a2 : Int32) (a3 : Int32)  (o : (Int32 × Mem)) (h : fX5_change M a1 a2 a3 = some o) : qMet l D cI cJ tP tR (xA ad) (xW ad cI cJ) yX5_change cX5_change 6 (some .int) rX5_change [.ref (ad 0), .int a1, .int a2, .int a3] M (qQi D (xA ad) (xW ad cI cJ) o.1 o.2) := by
  refine rs_enterI (own := RX5) ⟨by decide +kernel, rfl, Nat.le_of_ble_eq_true rfl⟩ ?_
  intro p e s m args below meth c Q C hret H locs ls hP hS hl
  obtain ⟨hx, hb, -⟩ := id C
  have hl : lv_has ls 6 [(0, .ref (ad 0)), (1, .int a1), (2, .int a2), (3, .int a3)] := hl
  unfold fX5_change at h
  refine lv_aload_n hx hb dX5_change_0 rfl (lv_at hl 0 rfl) ?_
  refine lv_iload_n hx hb dX5_change_1 rfl (lv_at hl 1 rfl) ?_
  obtain ⟨q1, h1, h⟩ := rs_bind h
  refine rs_goR (rs_runV (b := 0) (As := [.int a1]) (rest := []) C hP hS (kX5_equationOf l D ad cI cJ tP tR M a1 _ h1) mk_X5_equationOf wd_227 (xR_0) rfl ⟨rfl, rfl, Nat.le_of_ble_eq_true rfl, Nat.le_of_ble_eq_true rfl⟩ rfl hl.1 (Nat.le_of_ble_eq_true rfl) dX5_change_2) hS (fun H locs hP hS => ?_)
  cases q1 with
  | none =>
    dsimp only at h
    show W p l e rX5_change s m args below meth c H locs 0 0 Q (F0 m 5 ls [.null])
    refine lv_astoreN (lv' := [(4, .null), (0, .ref (ad 0)), (1, .int a1), (2, .int a2), (3, .int a3)]) hx hb dX5_change_5 hl (by decide) rfl (fun ls hl => ?_)
    refine lv_aloadN hx hb dX5_change_7 (lv_at hl 0 rfl) ?_
    refine lv_ifnullN (tgt := 21) hx hb dX5_change_9 (by decide) ?_
    refine lv_bipush (v := (-101 : Int32)) hx hb dX5_change_21 (by decide) ?_
    cases h
    exact hret H locs _ ls hP hS dX5_change_23
  | some e2 =>
    dsimp only at h
    have he2 := eqOf_cell h1
    show W p l e rX5_change s m args below meth c H locs 0 0 Q (F0 m 5 ls [.ref (ad e2)])
    refine lv_astore (lv' := [(4, .ref (ad e2)), (0, .ref (ad 0)), (1, .int a1), (2, .int a2), (3, .int a3)]) hx hb dX5_change_5 hl (by decide) rfl (fun ls hl => ?_)
    refine lv_aload hx hb dX5_change_7 (lv_at hl 0 rfl) ?_
    refine lv_ifnull hx hb dX5_change_9 ?_
    refine lv_aload hx hb dX5_change_12 (lv_at hl 0 rfl) ?_
    refine lv_iload_n hx hb dX5_change_14 rfl (lv_at hl 3 rfl) ?_
    obtain ⟨v3, h1, h⟩ := rs_bind h
    refine rs_goI (rs_runV (b := e2) (As := [.int a2]) (rest := []) C hP hS (kX0_has l D ad cI cJ tP tR M e2 a2 he2 _ h1) mk_X0_has wd_253 (xR_eq he2) rfl ⟨rfl, rfl, Nat.le_of_ble_eq_true rfl, Nat.le_of_ble_eq_true rfl⟩ rfl hl.1 (Nat.le_of_ble_eq_true rfl) dX5_change_15) hS (fun H locs hP hS => ?_)
    refine lv_if_ne (tgt := 24) hx hb dX5_change_18 (by decide) (fun cd => ?_) (fun cd => ?_)
    · have h := (if_neg cd).symm.trans h
      refine lv_iload_n hx hb dX5_change_24 rfl (lv_at hl 4 rfl) ?_
      obtain ⟨v4, h1, h⟩ := rs_bind h
      refine rs_goI (rs_runS (As := [.int a3]) (rest := []) C hP hS (kX5_isFactor l D ad cI cJ tP tR M a3 _ h1) mk_X5_isFactor wd_234 rfl ⟨rfl, rfl, Nat.le_of_ble_eq_true rfl, Nat.le_of_ble_eq_true rfl⟩ rfl hl.1 (Nat.le_of_ble_eq_true rfl) dX5_change_25) hS (fun H locs hP hS => ?_)
      refine lv_if_ne (tgt := 34) hx hb dX5_change_28 (by decide) (fun cd => ?_) (fun cd => ?_)
      · have h := (if_neg cd).symm.trans h
        refine lv_aload hx hb dX5_change_34 (lv_at hl 0 rfl) ?_
        refine gfX5_84 C hP he2 dX5_change_36 ?_
        refine lv_iload_n hx hb dX5_change_39 rfl (lv_at hl 3 rfl) ?_
        refine rs_iald C hP (xIA_e3 he2) dX5_change_40 h (fun v5 h => ?_)
        refine lv_istore (lv' := [(5, .int v5), (4, .ref (ad e2)), (0, .ref (ad 0)), (1, .int a1), (2, .int a2), (3, .int a3)]) hx hb dX5_change_41 hl (by decide) rfl (fun ls hl => ?_)
        refine lv_aload hx hb dX5_change_43 (lv_at hl 1 rfl) ?_
        refine gfX5_84 C hP he2 dX5_change_45 ?_
        refine lv_iload_n hx hb dX5_change_48 rfl (lv_at hl 4 rfl) ?_
        refine lv_iload_n hx hb dX5_change_49 rfl (lv_at hl 5 rfl) ?_
        refine rs_iast C hP hS (xIA_e3 he2) dX5_change_50 h (fun M6 h H locs hP hS => ?_)
        refine lv_aload_n hx hb dX5_change_51 rfl (lv_at hl 2 rfl) ?_
        obtain ⟨M7, h1, h⟩ := rs_bind h
        refine rs_goV (rs_runV (b := 0) (As := []) (rest := []) C hP hS (kX5_forgetFound l D ad cI cJ tP tR M6  _ h1) mk_X5_forgetFound wd_241 (xR_0) rfl ⟨rfl, rfl, Nat.le_of_ble_eq_true rfl, Nat.le_of_ble_eq_true rfl⟩ rfl hl.1 (Nat.le_of_ble_eq_true rfl) dX5_change_52) hS (fun H locs hP hS => ?_)
        refine lv_iload hx hb dX5_change_55 (lv_at hl 0 rfl) ?_
        cases h
        exact hret H locs _ ls hP hS dX5_change_57
      · have h := (if_pos cd).symm.trans h
        refine lv_bipush (v := (-102 : Int32)) hx hb dX5_change_31 (by decide) ?_
        cases h
        exact hret H locs _ ls hP hS dX5_change_33
    · have h := (if_pos cd).symm.trans h
      refine lv_bipush (v := (-101 : Int32)) hx hb dX5_change_21 (by decide) ?_
      cases h
      exact hret H locs _ ls hP hS dX5_change_23
abbrev rX5_clear : Room := { frames := 1, cells := 0, slots := 0, locals := 21 }
theorem dX5_clear_0 : decode cX5_clear 0 = .ok (.aload_n 0, 1) := by decide +kernel
theorem dX5_clear_1 : decode cX5_clear 1 = .ok (.iload_n 1, 1) := by decide +kernel
theorem dX5_clear_2 : decode cX5_clear 2 = .ok (.invokevirtual 47, 3) := by decide +kernel
theorem dX5_clear_5 : decode cX5_clear 5 = .ok (.astore_n 2, 1) := by decide +kernel
theorem dX5_clear_6 : decode cX5_clear 6 = .ok (.aload_n 2, 1) := by decide +kernel
theorem dX5_clear_7 : decode cX5_clear 7 = .ok (.ifnonnull 5, 3) := by decide +kernel
theorem dX5_clear_10 : decode cX5_clear 10 = .ok (.iconst (-1), 1) := by decide +kernel
theorem dX5_clear_11 : decode cX5_clear 11 = .ok (.ireturn, 1) := by decide +kernel
theorem dX5_clear_12 : decode cX5_clear 12 = .ok (.aload_n 2, 1) := by decide +kernel
theorem dX5_clear_13 : decode cX5_clear 13 = .ok (.getfield 59, 3) := by decide +kernel
theorem dX5_clear_16 : decode cX5_clear 16 = .ok (.istore_n 3, 1) := by decide +kernel
theorem dX5_clear_17 : decode cX5_clear 17 = .ok (.aload_n 2, 1) := by decide +kernel
theorem dX5_clear_18 : decode cX5_clear 18 = .ok (.iconst 0, 1) := by decide +kernel
theorem dX5_clear_19 : decode cX5_clear 19 = .ok (.putfield 59, 3) := by decide +kernel
theorem dX5_clear_22 : decode cX5_clear 22 = .ok (.aload_n 0, 1) := by decide +kernel
theorem dX5_clear_23 : decode cX5_clear 23 = .ok (.invokevirtual 67, 3) := by decide +kernel
theorem dX5_clear_26 : decode cX5_clear 26 = .ok (.iload_n 3, 1) := by decide +kernel
theorem dX5_clear_27 : decode cX5_clear 27 = .ok (.ireturn, 1) := by decide +kernel
set_option maxRecDepth 100000 in
set_option maxHeartbeats 4000000 in
theorem kX5_clear (l : Launch) (D : va_G) (ad : Nat → Nat) (cI cJ : ClassId) (tP tR : Nat) (M : Mem) (a1 : Int32)  (o : (Int32 × Mem)) (h : fX5_clear M a1 = some o) : qMet l D cI cJ tP tR (xA ad) (xW ad cI cJ) yX5_clear cX5_clear 4 (some .int) rX5_clear [.ref (ad 0), .int a1] M (qQi D (xA ad) (xW ad cI cJ) o.1 o.2) := by
  refine rs_enterI (own := RX5) ⟨by decide +kernel, rfl, Nat.le_of_ble_eq_true rfl⟩ ?_
  intro p e s m args below meth c Q C hret H locs ls hP hS hl
  obtain ⟨hx, hb, -⟩ := id C
  have hl : lv_has ls 4 [(0, .ref (ad 0)), (1, .int a1)] := hl
  unfold fX5_clear at h
  refine lv_aload_n hx hb dX5_clear_0 rfl (lv_at hl 0 rfl) ?_
  refine lv_iload_n hx hb dX5_clear_1 rfl (lv_at hl 1 rfl) ?_
  obtain ⟨q1, h1, h⟩ := rs_bind h
  refine rs_goR (rs_runV (b := 0) (As := [.int a1]) (rest := []) C hP hS (kX5_equationOf l D ad cI cJ tP tR M a1 _ h1) mk_X5_equationOf wd_227 (xR_0) rfl ⟨rfl, rfl, Nat.le_of_ble_eq_true rfl, Nat.le_of_ble_eq_true rfl⟩ rfl hl.1 (Nat.le_of_ble_eq_true rfl) dX5_clear_2) hS (fun H locs hP hS => ?_)
  cases q1 with
  | none =>
    dsimp only at h
    show W p l e rX5_clear s m args below meth c H locs 0 0 Q (F0 m 5 ls [.null])
    refine lv_astore_nN (lv' := [(2, .null), (0, .ref (ad 0)), (1, .int a1)]) hx hb dX5_clear_5 rfl hl (by decide) rfl (fun ls hl => ?_)
    refine lv_aload_nN hx hb dX5_clear_6 rfl (lv_at hl 0 rfl) ?_
    refine lv_ifnonnullN hx hb dX5_clear_7 ?_
    refine lv_iconst (v := (-1 : Int32)) hx hb dX5_clear_10 (by decide) ?_
    cases h
    exact hret H locs _ ls hP hS dX5_clear_11
  | some e2 =>
    dsimp only at h
    have he2 := eqOf_cell h1
    show W p l e rX5_clear s m args below meth c H locs 0 0 Q (F0 m 5 ls [.ref (ad e2)])
    refine lv_astore_n (lv' := [(2, .ref (ad e2)), (0, .ref (ad 0)), (1, .int a1)]) hx hb dX5_clear_5 rfl hl (by decide) rfl (fun ls hl => ?_)
    refine lv_aload_n hx hb dX5_clear_6 rfl (lv_at hl 0 rfl) ?_
    refine lv_ifnonnull (tgt := 12) hx hb dX5_clear_7 (by decide) ?_
    refine lv_aload_n hx hb dX5_clear_12 rfl (lv_at hl 0 rfl) ?_
    refine gfX5_59 C hP he2 dX5_clear_13 ?_
    refine lv_istore_n (lv' := [(3, .int (M.1 e2 4)), (2, .ref (ad e2)), (0, .ref (ad 0)), (1, .int a1)]) hx hb dX5_clear_16 rfl hl (by decide) rfl (fun ls hl => ?_)
    refine lv_aload_n hx hb dX5_clear_17 rfl (lv_at hl 1 rfl) ?_
    refine lv_iconst (v := (0 : Int32)) hx hb dX5_clear_18 (by decide) ?_
    refine pfX5_59 C hP hS he2 dX5_clear_19 h (fun M3 h H locs hP hS => ?_)
    refine lv_aload_n hx hb dX5_clear_22 rfl (lv_at hl 2 rfl) ?_
    obtain ⟨M4, h1, h⟩ := rs_bind h
    refine rs_goV (rs_runV (b := 0) (As := []) (rest := []) C hP hS (kX5_forgetFound l D ad cI cJ tP tR M3  _ h1) mk_X5_forgetFound wd_241 (xR_0) rfl ⟨rfl, rfl, Nat.le_of_ble_eq_true rfl, Nat.le_of_ble_eq_true rfl⟩ rfl hl.1 (Nat.le_of_ble_eq_true rfl) dX5_clear_23) hS (fun H locs hP hS => ?_)
    refine lv_iload_n hx hb dX5_clear_26 rfl (lv_at hl 0 rfl) ?_
    cases h
    exact hret H locs _ ls hP hS dX5_clear_27
abbrev rX5_drawFigure : Room := { frames := 5, cells := 0, slots := 0, locals := 114 }
theorem dX5_drawFigure_0 : decode cX5_drawFigure 0 = .ok (.iload_n 1, 1) := by decide +kernel
theorem dX5_drawFigure_1 : decode cX5_drawFigure 1 = .ok (.iconst 2, 1) := by decide +kernel
theorem dX5_drawFigure_2 : decode cX5_drawFigure 2 = .ok (.if_icmp .ne 29, 3) := by decide +kernel
theorem dX5_drawFigure_5 : decode cX5_drawFigure 5 = .ok (.aload_n 0, 1) := by decide +kernel
theorem dX5_drawFigure_6 : decode cX5_drawFigure 6 = .ok (.invokevirtual 112, 3) := by decide +kernel
theorem dX5_drawFigure_9 : decode cX5_drawFigure 9 = .ok (.ifCond .eq 5, 3) := by decide +kernel
theorem dX5_drawFigure_12 : decode cX5_drawFigure 12 = .ok (.iconst 0, 1) := by decide +kernel
theorem dX5_drawFigure_13 : decode cX5_drawFigure 13 = .ok (.ireturn, 1) := by decide +kernel
theorem dX5_drawFigure_14 : decode cX5_drawFigure 14 = .ok (.aload_n 0, 1) := by decide +kernel
theorem dX5_drawFigure_15 : decode cX5_drawFigure 15 = .ok (.getfield 22, 3) := by decide +kernel
theorem dX5_drawFigure_18 : decode cX5_drawFigure 18 = .ok (.aload_n 0, 1) := by decide +kernel
theorem dX5_drawFigure_19 : decode cX5_drawFigure 19 = .ok (.getfield 10, 3) := by decide +kernel
theorem dX5_drawFigure_22 : decode cX5_drawFigure 22 = .ok (.aload_n 0, 1) := by decide +kernel
theorem dX5_drawFigure_23 : decode cX5_drawFigure 23 = .ok (.getfield 16, 3) := by decide +kernel
theorem dX5_drawFigure_26 : decode cX5_drawFigure 26 = .ok (.invokevirtual 176, 3) := by decide +kernel
theorem dX5_drawFigure_29 : decode cX5_drawFigure 29 = .ok (.iconst 1, 1) := by decide +kernel
theorem dX5_drawFigure_30 : decode cX5_drawFigure 30 = .ok (.ireturn, 1) := by decide +kernel
theorem dX5_drawFigure_31 : decode cX5_drawFigure 31 = .ok (.aload_n 0, 1) := by decide +kernel
theorem dX5_drawFigure_32 : decode cX5_drawFigure 32 = .ok (.iload_n 1, 1) := by decide +kernel
theorem dX5_drawFigure_33 : decode cX5_drawFigure 33 = .ok (.invokevirtual 47, 3) := by decide +kernel
theorem dX5_drawFigure_36 : decode cX5_drawFigure 36 = .ok (.astore_n 2, 1) := by decide +kernel
theorem dX5_drawFigure_37 : decode cX5_drawFigure 37 = .ok (.aload_n 2, 1) := by decide +kernel
theorem dX5_drawFigure_38 : decode cX5_drawFigure 38 = .ok (.ifnull 10, 3) := by decide +kernel
theorem dX5_drawFigure_41 : decode cX5_drawFigure 41 = .ok (.aload_n 2, 1) := by decide +kernel
theorem dX5_drawFigure_42 : decode cX5_drawFigure 42 = .ok (.getfield 59, 3) := by decide +kernel
theorem dX5_drawFigure_45 : decode cX5_drawFigure 45 = .ok (.ifCond .ne 5, 3) := by decide +kernel
theorem dX5_drawFigure_48 : decode cX5_drawFigure 48 = .ok (.iconst 0, 1) := by decide +kernel
theorem dX5_drawFigure_49 : decode cX5_drawFigure 49 = .ok (.ireturn, 1) := by decide +kernel
theorem dX5_drawFigure_50 : decode cX5_drawFigure 50 = .ok (.aload_n 0, 1) := by decide +kernel
theorem dX5_drawFigure_51 : decode cX5_drawFigure 51 = .ok (.getfield 22, 3) := by decide +kernel
theorem dX5_drawFigure_54 : decode cX5_drawFigure 54 = .ok (.aload_n 2, 1) := by decide +kernel
theorem dX5_drawFigure_55 : decode cX5_drawFigure 55 = .ok (.invokevirtual 179, 3) := by decide +kernel
theorem dX5_drawFigure_58 : decode cX5_drawFigure 58 = .ok (.iconst 1, 1) := by decide +kernel
theorem dX5_drawFigure_59 : decode cX5_drawFigure 59 = .ok (.ireturn, 1) := by decide +kernel
set_option maxRecDepth 100000 in
set_option maxHeartbeats 4000000 in
theorem kX5_drawFigure (l : Launch) (D : va_G) (ad : Nat → Nat) (cI cJ : ClassId) (tP tR : Nat) (N : Nat) (M : Mem) (a1 : Int32)  (o : (Int32 × Mem)) (h : fX5_drawFigure N M a1 = some o) : qMet l D cI cJ tP tR (xA ad) (xW ad cI cJ) yX5_drawFigure cX5_drawFigure 3 (some .boolean) rX5_drawFigure [.ref (ad 0), .int a1] M (qQi D (xA ad) (xW ad cI cJ) o.1 o.2) := by
  refine rs_enterZ (own := RX5) ⟨by decide +kernel, rfl, Nat.le_of_ble_eq_true rfl⟩ ?_
  intro p e s m args below meth c Q C hret H locs ls hP hS hl
  obtain ⟨hx, hb, -⟩ := id C
  have hl : lv_has ls 3 [(0, .ref (ad 0)), (1, .int a1)] := hl
  unfold fX5_drawFigure at h
  refine lv_iload_n hx hb dX5_drawFigure_0 rfl (lv_at hl 1 rfl) ?_
  refine lv_iconst (v := (2 : Int32)) hx hb dX5_drawFigure_1 (by decide) ?_
  refine lv_icmp_ne (tgt := 31) hx hb dX5_drawFigure_2 (by decide) (fun cd => ?_) (fun cd => ?_)
  · have h := (if_neg cd).symm.trans h
    refine lv_aload_n hx hb dX5_drawFigure_31 rfl (lv_at hl 0 rfl) ?_
    refine lv_iload_n hx hb dX5_drawFigure_32 rfl (lv_at hl 1 rfl) ?_
    obtain ⟨q1, h1, h⟩ := rs_bind h
    refine rs_goR (rs_runV (b := 0) (As := [.int a1]) (rest := []) C hP hS (kX5_equationOf l D ad cI cJ tP tR M a1 _ h1) mk_X5_equationOf wd_227 (xR_0) rfl ⟨rfl, rfl, Nat.le_of_ble_eq_true rfl, Nat.le_of_ble_eq_true rfl⟩ rfl hl.1 (Nat.le_of_ble_eq_true rfl) dX5_drawFigure_33) hS (fun H locs hP hS => ?_)
    cases q1 with
    | none =>
      dsimp only at h
      show W p l e rX5_drawFigure s m args below meth c H locs 0 0 Q (F0 m 36 ls [.null])
      refine lv_astore_nN (lv' := [(2, .null), (0, .ref (ad 0)), (1, .int a1)]) hx hb dX5_drawFigure_36 rfl hl (by decide) rfl (fun ls hl => ?_)
      refine lv_aload_nN hx hb dX5_drawFigure_37 rfl (lv_at hl 0 rfl) ?_
      refine lv_ifnullN (tgt := 48) hx hb dX5_drawFigure_38 (by decide) ?_
      refine lv_iconst (v := (0 : Int32)) hx hb dX5_drawFigure_48 (by decide) ?_
      obtain ⟨rfl, hz⟩ := rs_okZM h
      exact hret H locs _ ls hz hP hS dX5_drawFigure_49
    | some e2 =>
      dsimp only at h
      have he2 := eqOf_cell h1
      show W p l e rX5_drawFigure s m args below meth c H locs 0 0 Q (F0 m 36 ls [.ref (ad e2)])
      refine lv_astore_n (lv' := [(2, .ref (ad e2)), (0, .ref (ad 0)), (1, .int a1)]) hx hb dX5_drawFigure_36 rfl hl (by decide) rfl (fun ls hl => ?_)
      refine lv_aload_n hx hb dX5_drawFigure_37 rfl (lv_at hl 0 rfl) ?_
      refine lv_ifnull hx hb dX5_drawFigure_38 ?_
      refine lv_aload_n hx hb dX5_drawFigure_41 rfl (lv_at hl 0 rfl) ?_
      refine gfX5_59 C hP he2 dX5_drawFigure_42 ?_
      refine lv_if_ne (tgt := 50) hx hb dX5_drawFigure_45 (by decide) (fun cd => ?_) (fun cd => ?_)
      · have h := (if_neg cd).symm.trans h
        refine lv_aload_n hx hb dX5_drawFigure_50 rfl (lv_at hl 1 rfl) ?_
        refine gfX5_22 C hP dX5_drawFigure_51 ?_
        refine lv_aload_n hx hb dX5_drawFigure_54 rfl (lv_at hl 0 rfl) ?_
        obtain ⟨M3, h1, h⟩ := rs_bind h
        refine rs_goV (rs_runV (b := 11) (As := [.ref (ad e2)]) (rest := []) C hP hS (kX1_drawOne l D ad cI cJ tP tR N M e2 he2 _ h1) mk_X1_drawOne wd_313 (xR_11) rfl ⟨rfl, rfl, Nat.le_of_ble_eq_true rfl, Nat.le_of_ble_eq_true rfl⟩ rfl hl.1 (Nat.le_of_ble_eq_true rfl) dX5_drawFigure_55) hS (fun H locs hP hS => ?_)
        refine lv_iconst (v := (1 : Int32)) hx hb dX5_drawFigure_58 (by decide) ?_
        obtain ⟨rfl, hz⟩ := rs_okZM h
        exact hret H locs _ ls hz hP hS dX5_drawFigure_59
      · have h := (if_pos cd).symm.trans h
        refine lv_iconst (v := (0 : Int32)) hx hb dX5_drawFigure_48 (by decide) ?_
        obtain ⟨rfl, hz⟩ := rs_okZM h
        exact hret H locs _ ls hz hP hS dX5_drawFigure_49
  · have h := (if_pos cd).symm.trans h
    refine lv_aload_n hx hb dX5_drawFigure_5 rfl (lv_at hl 0 rfl) ?_
    obtain ⟨v4, h1, h⟩ := rs_bind h
    refine rs_goI (rs_runV (b := 0) (As := []) (rest := []) C hP hS (kX5_anyEmpty l D ad cI cJ tP tR M  _ h1) mk_X5_anyEmpty wd_274 (xR_0) rfl ⟨rfl, rfl, Nat.le_of_ble_eq_true rfl, Nat.le_of_ble_eq_true rfl⟩ rfl hl.1 (Nat.le_of_ble_eq_true rfl) dX5_drawFigure_6) hS (fun H locs hP hS => ?_)
    refine lv_if_eq (tgt := 14) hx hb dX5_drawFigure_9 (by decide) (fun cd => ?_) (fun cd => ?_)
    · have h := (if_pos cd).symm.trans h
      refine lv_aload_n hx hb dX5_drawFigure_14 rfl (lv_at hl 0 rfl) ?_
      refine gfX5_22 C hP dX5_drawFigure_15 ?_
      refine lv_aload_n hx hb dX5_drawFigure_18 rfl (lv_at hl 0 rfl) ?_
      refine gfX5_10 C hP dX5_drawFigure_19 ?_
      refine lv_aload_n hx hb dX5_drawFigure_22 rfl (lv_at hl 0 rfl) ?_
      refine gfX5_16 C hP dX5_drawFigure_23 ?_
      obtain ⟨M5, h1, h⟩ := rs_bind h
      refine rs_goV (rs_runV (b := 11) (As := [.ref (ad 1), .ref (ad 6)]) (rest := []) C hP hS (kX1_drawSum l D ad cI cJ tP tR N M 1 6 (Or.inl rfl) (Or.inr rfl) _ h1) mk_X1_drawSum wd_278 (xR_11) rfl ⟨rfl, rfl, Nat.le_of_ble_eq_true rfl, Nat.le_of_ble_eq_true rfl⟩ rfl hl.1 (Nat.le_of_ble_eq_true rfl) dX5_drawFigure_26) hS (fun H locs hP hS => ?_)
      refine lv_iconst (v := (1 : Int32)) hx hb dX5_drawFigure_29 (by decide) ?_
      obtain ⟨rfl, hz⟩ := rs_okZM h
      exact hret H locs _ ls hz hP hS dX5_drawFigure_30
    · have h := (if_neg cd).symm.trans h
      refine lv_iconst (v := (0 : Int32)) hx hb dX5_drawFigure_12 (by decide) ?_
      obtain ⟨rfl, hz⟩ := rs_okZM h
      exact hret H locs _ ls hz hP hS dX5_drawFigure_13
abbrev rX5_shape : Room := { frames := 6, cells := 0, slots := 0, locals := 136 }
theorem dX5_shape_0 : decode cX5_shape 0 = .ok (.iload_n 1, 1) := by decide +kernel
theorem dX5_shape_1 : decode cX5_shape 1 = .ok (.iconst 0, 1) := by decide +kernel
theorem dX5_shape_2 : decode cX5_shape 2 = .ok (.iconst 2, 1) := by decide +kernel
theorem dX5_shape_3 : decode cX5_shape 3 = .ok (.invokestatic 51, 3) := by decide +kernel
theorem dX5_shape_6 : decode cX5_shape 6 = .ok (.ifCond .ne 5, 3) := by decide +kernel
theorem dX5_shape_9 : decode cX5_shape 9 = .ok (.iconst (-1), 1) := by decide +kernel
theorem dX5_shape_10 : decode cX5_shape 10 = .ok (.ireturn, 1) := by decide +kernel
theorem dX5_shape_11 : decode cX5_shape 11 = .ok (.iload_n 2, 1) := by decide +kernel
theorem dX5_shape_12 : decode cX5_shape 12 = .ok (.iconst 0, 1) := by decide +kernel
theorem dX5_shape_13 : decode cX5_shape 13 = .ok (.iconst 3, 1) := by decide +kernel
theorem dX5_shape_14 : decode cX5_shape 14 = .ok (.invokestatic 51, 3) := by decide +kernel
theorem dX5_shape_17 : decode cX5_shape 17 = .ok (.ifCond .ne 6, 3) := by decide +kernel
theorem dX5_shape_20 : decode cX5_shape 20 = .ok (.bipush (-2), 2) := by decide +kernel
theorem dX5_shape_22 : decode cX5_shape 22 = .ok (.ireturn, 1) := by decide +kernel
theorem dX5_shape_23 : decode cX5_shape 23 = .ok (.aload_n 0, 1) := by decide +kernel
theorem dX5_shape_24 : decode cX5_shape 24 = .ok (.iload_n 1, 1) := by decide +kernel
theorem dX5_shape_25 : decode cX5_shape 25 = .ok (.invokevirtual 90, 3) := by decide +kernel
theorem dX5_shape_28 : decode cX5_shape 28 = .ok (.ifCond .ne 6, 3) := by decide +kernel
theorem dX5_shape_31 : decode cX5_shape 31 = .ok (.bipush (-3), 2) := by decide +kernel
theorem dX5_shape_33 : decode cX5_shape 33 = .ok (.ireturn, 1) := by decide +kernel
theorem dX5_shape_34 : decode cX5_shape 34 = .ok (.iload_n 2, 1) := by decide +kernel
theorem dX5_shape_35 : decode cX5_shape 35 = .ok (.tableswitch 49 0 2 #[25, 33, 41], 25) := by decide +kernel
theorem dX5_shape_60 : decode cX5_shape 60 = .ok (.aload_n 0, 1) := by decide +kernel
theorem dX5_shape_61 : decode cX5_shape 61 = .ok (.getfield 22, 3) := by decide +kernel
theorem dX5_shape_64 : decode cX5_shape 64 = .ok (.invokevirtual 93, 3) := by decide +kernel
theorem dX5_shape_67 : decode cX5_shape 67 = .ok (.ireturn, 1) := by decide +kernel
theorem dX5_shape_68 : decode cX5_shape 68 = .ok (.aload_n 0, 1) := by decide +kernel
theorem dX5_shape_69 : decode cX5_shape 69 = .ok (.getfield 22, 3) := by decide +kernel
theorem dX5_shape_72 : decode cX5_shape 72 = .ok (.getfield 97, 3) := by decide +kernel
theorem dX5_shape_75 : decode cX5_shape 75 = .ok (.ireturn, 1) := by decide +kernel
theorem dX5_shape_76 : decode cX5_shape 76 = .ok (.aload_n 0, 1) := by decide +kernel
theorem dX5_shape_77 : decode cX5_shape 77 = .ok (.getfield 22, 3) := by decide +kernel
theorem dX5_shape_80 : decode cX5_shape 80 = .ok (.invokevirtual 100, 3) := by decide +kernel
theorem dX5_shape_83 : decode cX5_shape 83 = .ok (.ireturn, 1) := by decide +kernel
theorem dX5_shape_84 : decode cX5_shape 84 = .ok (.aload_n 0, 1) := by decide +kernel
theorem dX5_shape_85 : decode cX5_shape 85 = .ok (.getfield 22, 3) := by decide +kernel
theorem dX5_shape_88 : decode cX5_shape 88 = .ok (.invokevirtual 103, 3) := by decide +kernel
theorem dX5_shape_91 : decode cX5_shape 91 = .ok (.ireturn, 1) := by decide +kernel
set_option maxRecDepth 100000 in
set_option maxHeartbeats 4000000 in
theorem kX5_shape (l : Launch) (D : va_G) (ad : Nat → Nat) (cI cJ : ClassId) (tP tR : Nat) (N : Nat) (M : Mem) (a1 : Int32) (a2 : Int32)  (o : (Int32 × Mem)) (h : fX5_shape N M a1 a2 = some o) : qMet l D cI cJ tP tR (xA ad) (xW ad cI cJ) yX5_shape cX5_shape 3 (some .int) rX5_shape [.ref (ad 0), .int a1, .int a2] M (qQi D (xA ad) (xW ad cI cJ) o.1 o.2) := by
  refine rs_enterI (own := RX5) ⟨by decide +kernel, rfl, Nat.le_of_ble_eq_true rfl⟩ ?_
  intro p e s m args below meth c Q C hret H locs ls hP hS hl
  obtain ⟨hx, hb, -⟩ := id C
  have hl : lv_has ls 3 [(0, .ref (ad 0)), (1, .int a1), (2, .int a2)] := hl
  unfold fX5_shape at h
  refine lv_iload_n hx hb dX5_shape_0 rfl (lv_at hl 1 rfl) ?_
  refine lv_iconst (v := (0 : Int32)) hx hb dX5_shape_1 (by decide) ?_
  refine lv_iconst (v := (2 : Int32)) hx hb dX5_shape_2 (by decide) ?_
  obtain ⟨v1, h1, h⟩ := rs_bind h
  refine rs_goI (rs_runS (As := [.int a1, .int (0 : Int32), .int (2 : Int32)]) (rest := []) C hP hS (kX5_within l D ad cI cJ tP tR M a1 (0 : Int32) (2 : Int32) _ h1) mk_X5_within wd_231 rfl ⟨rfl, rfl, Nat.le_of_ble_eq_true rfl, Nat.le_of_ble_eq_true rfl⟩ rfl hl.1 (Nat.le_of_ble_eq_true rfl) dX5_shape_3) hS (fun H locs hP hS => ?_)
  refine lv_if_ne (tgt := 11) hx hb dX5_shape_6 (by decide) (fun cd => ?_) (fun cd => ?_)
  · have h := (if_neg cd).symm.trans h
    refine lv_iload_n hx hb dX5_shape_11 rfl (lv_at hl 2 rfl) ?_
    refine lv_iconst (v := (0 : Int32)) hx hb dX5_shape_12 (by decide) ?_
    refine lv_iconst (v := (3 : Int32)) hx hb dX5_shape_13 (by decide) ?_
    obtain ⟨v2, h1, h⟩ := rs_bind h
    refine rs_goI (rs_runS (As := [.int a2, .int (0 : Int32), .int (3 : Int32)]) (rest := []) C hP hS (kX5_within l D ad cI cJ tP tR M a2 (0 : Int32) (3 : Int32) _ h1) mk_X5_within wd_231 rfl ⟨rfl, rfl, Nat.le_of_ble_eq_true rfl, Nat.le_of_ble_eq_true rfl⟩ rfl hl.1 (Nat.le_of_ble_eq_true rfl) dX5_shape_14) hS (fun H locs hP hS => ?_)
    refine lv_if_ne (tgt := 23) hx hb dX5_shape_17 (by decide) (fun cd => ?_) (fun cd => ?_)
    · have h := (if_neg cd).symm.trans h
      refine lv_aload_n hx hb dX5_shape_23 rfl (lv_at hl 0 rfl) ?_
      refine lv_iload_n hx hb dX5_shape_24 rfl (lv_at hl 1 rfl) ?_
      obtain ⟨⟨v4, M3⟩, h1, h⟩ := rs_bind h
      dsimp only at h
      refine rs_goI (rs_runV (b := 0) (As := [.int a1]) (rest := []) C hP hS (kX5_drawFigure l D ad cI cJ tP tR N M a1 _ h1) mk_X5_drawFigure wd_270 (xR_0) rfl ⟨rfl, rfl, Nat.le_of_ble_eq_true rfl, Nat.le_of_ble_eq_true rfl⟩ rfl hl.1 (Nat.le_of_ble_eq_true rfl) dX5_shape_25) hS (fun H locs hP hS => ?_)
      refine lv_if_ne (tgt := 34) hx hb dX5_shape_28 (by decide) (fun cd => ?_) (fun cd => ?_)
      · have h := (if_neg cd).symm.trans h
        refine lv_iload_n hx hb dX5_shape_34 rfl (lv_at hl 2 rfl) ?_
        by_cases c0 : a2 = 0
        · have h := (if_pos c0).symm.trans h
          refine lv_tableIn (tgt := 60) (off := 25) hx hb dX5_shape_35 (by rw [c0]; decide) (by rw [c0]; decide) (by rw [c0]; rfl) (by decide) ?_
          refine lv_aload_n hx hb dX5_shape_60 rfl (lv_at hl 0 rfl) ?_
          refine gfX5_22 C hP dX5_shape_61 ?_
          obtain ⟨v6, h1, h⟩ := rs_bind h
          refine rs_goI (rs_runV (b := 11) (As := []) (rest := []) C hP hS (kX1_area l D ad cI cJ tP tR N M3  _ h1) mk_X1_area wd_317 (xR_11) rfl ⟨rfl, rfl, Nat.le_of_ble_eq_true rfl, Nat.le_of_ble_eq_true rfl⟩ rfl hl.1 (Nat.le_of_ble_eq_true rfl) dX5_shape_64) hS (fun H locs hP hS => ?_)
          cases h
          exact hret H locs _ ls hP hS dX5_shape_67
        · have h := (if_neg c0).symm.trans h
          by_cases c1 : a2 = 1
          · have h := (if_pos c1).symm.trans h
            refine lv_tableIn (tgt := 68) (off := 33) hx hb dX5_shape_35 (by rw [c1]; decide) (by rw [c1]; decide) (by rw [c1]; rfl) (by decide) ?_
            refine lv_aload_n hx hb dX5_shape_68 rfl (lv_at hl 0 rfl) ?_
            refine gfX5_22 C hP dX5_shape_69 ?_
            refine gfX5_97 C hP dX5_shape_72 ?_
            cases h
            exact hret H locs _ ls hP hS dX5_shape_75
          · have h := (if_neg c1).symm.trans h
            by_cases c2 : a2 = 2
            · have h := (if_pos c2).symm.trans h
              refine lv_tableIn (tgt := 76) (off := 41) hx hb dX5_shape_35 (by rw [c2]; decide) (by rw [c2]; decide) (by rw [c2]; rfl) (by decide) ?_
              refine lv_aload_n hx hb dX5_shape_76 rfl (lv_at hl 0 rfl) ?_
              refine gfX5_22 C hP dX5_shape_77 ?_
              obtain ⟨v7, h1, h⟩ := rs_bind h
              refine rs_goI (rs_runV (b := 11) (As := []) (rest := []) C hP hS (kX1_rim l D ad cI cJ tP tR N M3  _ h1) mk_X1_rim wd_325 (xR_11) rfl ⟨rfl, rfl, Nat.le_of_ble_eq_true rfl, Nat.le_of_ble_eq_true rfl⟩ rfl hl.1 (Nat.le_of_ble_eq_true rfl) dX5_shape_80) hS (fun H locs hP hS => ?_)
              cases h
              exact hret H locs _ ls hP hS dX5_shape_83
            · have h := (if_neg c2).symm.trans h
              have hsw : ¬ (0 ≤ Int32.toInt a2 ∧ Int32.toInt a2 ≤ 2) := by
                rintro ⟨q1, q2⟩
                rcases (show Int32.toInt a2 = 0 ∨ Int32.toInt a2 = 1 ∨ Int32.toInt a2 = 2 by omega) with q | q | q
                · exact c0 (Int32.toInt_inj.mp (q.trans rfl))
                · exact c1 (Int32.toInt_inj.mp (q.trans rfl))
                · exact c2 (Int32.toInt_inj.mp (q.trans rfl))
              refine rs_tabDef (tgt := 84) C dX5_shape_35 hsw (by decide) ?_
              refine lv_aload_n hx hb dX5_shape_84 rfl (lv_at hl 0 rfl) ?_
              refine gfX5_22 C hP dX5_shape_85 ?_
              obtain ⟨v8, h1, h⟩ := rs_bind h
              refine rs_goI (rs_runV (b := 11) (As := []) (rest := []) C hP hS (kX1_inner l D ad cI cJ tP tR N M3  _ h1) mk_X1_inner wd_333 (xR_11) rfl ⟨rfl, rfl, Nat.le_of_ble_eq_true rfl, Nat.le_of_ble_eq_true rfl⟩ rfl hl.1 (Nat.le_of_ble_eq_true rfl) dX5_shape_88) hS (fun H locs hP hS => ?_)
              cases h
              exact hret H locs _ ls hP hS dX5_shape_91
      · have h := (if_pos cd).symm.trans h
        refine lv_bipush (v := (-3 : Int32)) hx hb dX5_shape_31 (by decide) ?_
        cases h
        exact hret H locs _ ls hP hS dX5_shape_33
    · have h := (if_pos cd).symm.trans h
      refine lv_bipush (v := (-2 : Int32)) hx hb dX5_shape_20 (by decide) ?_
      cases h
      exact hret H locs _ ls hP hS dX5_shape_22
  · have h := (if_pos cd).symm.trans h
    refine lv_iconst (v := (-1 : Int32)) hx hb dX5_shape_9 (by decide) ?_
    cases h
    exact hret H locs _ ls hP hS dX5_shape_10
abbrev rX5_corner : Room := { frames := 6, cells := 0, slots := 0, locals := 136 }
theorem dX5_corner_0 : decode cX5_corner 0 = .ok (.iload_n 1, 1) := by decide +kernel
theorem dX5_corner_1 : decode cX5_corner 1 = .ok (.iconst 0, 1) := by decide +kernel
theorem dX5_corner_2 : decode cX5_corner 2 = .ok (.iconst 2, 1) := by decide +kernel
theorem dX5_corner_3 : decode cX5_corner 3 = .ok (.invokestatic 51, 3) := by decide +kernel
theorem dX5_corner_6 : decode cX5_corner 6 = .ok (.ifCond .ne 5, 3) := by decide +kernel
theorem dX5_corner_9 : decode cX5_corner 9 = .ok (.iconst (-1), 1) := by decide +kernel
theorem dX5_corner_10 : decode cX5_corner 10 = .ok (.ireturn, 1) := by decide +kernel
theorem dX5_corner_11 : decode cX5_corner 11 = .ok (.aload_n 0, 1) := by decide +kernel
theorem dX5_corner_12 : decode cX5_corner 12 = .ok (.iload_n 1, 1) := by decide +kernel
theorem dX5_corner_13 : decode cX5_corner 13 = .ok (.invokevirtual 90, 3) := by decide +kernel
theorem dX5_corner_16 : decode cX5_corner 16 = .ok (.ifCond .ne 6, 3) := by decide +kernel
theorem dX5_corner_19 : decode cX5_corner 19 = .ok (.bipush (-3), 2) := by decide +kernel
theorem dX5_corner_21 : decode cX5_corner 21 = .ok (.ireturn, 1) := by decide +kernel
theorem dX5_corner_22 : decode cX5_corner 22 = .ok (.iload_n 2, 1) := by decide +kernel
theorem dX5_corner_23 : decode cX5_corner 23 = .ok (.iconst 0, 1) := by decide +kernel
theorem dX5_corner_24 : decode cX5_corner 24 = .ok (.aload_n 0, 1) := by decide +kernel
theorem dX5_corner_25 : decode cX5_corner 25 = .ok (.getfield 22, 3) := by decide +kernel
theorem dX5_corner_28 : decode cX5_corner 28 = .ok (.getfield 97, 3) := by decide +kernel
theorem dX5_corner_31 : decode cX5_corner 31 = .ok (.iconst 1, 1) := by decide +kernel
theorem dX5_corner_32 : decode cX5_corner 32 = .ok (.isub, 1) := by decide +kernel
theorem dX5_corner_33 : decode cX5_corner 33 = .ok (.invokestatic 51, 3) := by decide +kernel
theorem dX5_corner_36 : decode cX5_corner 36 = .ok (.ifCond .ne 5, 3) := by decide +kernel
theorem dX5_corner_39 : decode cX5_corner 39 = .ok (.iconst (-1), 1) := by decide +kernel
theorem dX5_corner_40 : decode cX5_corner 40 = .ok (.ireturn, 1) := by decide +kernel
theorem dX5_corner_41 : decode cX5_corner 41 = .ok (.bipush 20, 2) := by decide +kernel
theorem dX5_corner_43 : decode cX5_corner 43 = .ok (.aload_n 0, 1) := by decide +kernel
theorem dX5_corner_44 : decode cX5_corner 44 = .ok (.getfield 22, 3) := by decide +kernel
theorem dX5_corner_47 : decode cX5_corner 47 = .ok (.getfield 106, 3) := by decide +kernel
theorem dX5_corner_50 : decode cX5_corner 50 = .ok (.iload_n 2, 1) := by decide +kernel
theorem dX5_corner_51 : decode cX5_corner 51 = .ok (.iaload, 1) := by decide +kernel
theorem dX5_corner_52 : decode cX5_corner 52 = .ok (.imul, 1) := by decide +kernel
theorem dX5_corner_53 : decode cX5_corner 53 = .ok (.aload_n 0, 1) := by decide +kernel
theorem dX5_corner_54 : decode cX5_corner 54 = .ok (.getfield 22, 3) := by decide +kernel
theorem dX5_corner_57 : decode cX5_corner 57 = .ok (.getfield 109, 3) := by decide +kernel
theorem dX5_corner_60 : decode cX5_corner 60 = .ok (.iload_n 2, 1) := by decide +kernel
theorem dX5_corner_61 : decode cX5_corner 61 = .ok (.iaload, 1) := by decide +kernel
theorem dX5_corner_62 : decode cX5_corner 62 = .ok (.iadd, 1) := by decide +kernel
theorem dX5_corner_63 : decode cX5_corner 63 = .ok (.ireturn, 1) := by decide +kernel
set_option maxRecDepth 100000 in
set_option maxHeartbeats 4000000 in
theorem kX5_corner (l : Launch) (D : va_G) (ad : Nat → Nat) (cI cJ : ClassId) (tP tR : Nat) (N : Nat) (M : Mem) (a1 : Int32) (a2 : Int32)  (o : (Int32 × Mem)) (h : fX5_corner N M a1 a2 = some o) : qMet l D cI cJ tP tR (xA ad) (xW ad cI cJ) yX5_corner cX5_corner 3 (some .int) rX5_corner [.ref (ad 0), .int a1, .int a2] M (qQi D (xA ad) (xW ad cI cJ) o.1 o.2) := by
  refine rs_enterI (own := RX5) ⟨by decide +kernel, rfl, Nat.le_of_ble_eq_true rfl⟩ ?_
  intro p e s m args below meth c Q C hret H locs ls hP hS hl
  obtain ⟨hx, hb, -⟩ := id C
  have hl : lv_has ls 3 [(0, .ref (ad 0)), (1, .int a1), (2, .int a2)] := hl
  unfold fX5_corner at h
  refine lv_iload_n hx hb dX5_corner_0 rfl (lv_at hl 1 rfl) ?_
  refine lv_iconst (v := (0 : Int32)) hx hb dX5_corner_1 (by decide) ?_
  refine lv_iconst (v := (2 : Int32)) hx hb dX5_corner_2 (by decide) ?_
  obtain ⟨v1, h1, h⟩ := rs_bind h
  refine rs_goI (rs_runS (As := [.int a1, .int (0 : Int32), .int (2 : Int32)]) (rest := []) C hP hS (kX5_within l D ad cI cJ tP tR M a1 (0 : Int32) (2 : Int32) _ h1) mk_X5_within wd_231 rfl ⟨rfl, rfl, Nat.le_of_ble_eq_true rfl, Nat.le_of_ble_eq_true rfl⟩ rfl hl.1 (Nat.le_of_ble_eq_true rfl) dX5_corner_3) hS (fun H locs hP hS => ?_)
  refine lv_if_ne (tgt := 11) hx hb dX5_corner_6 (by decide) (fun cd => ?_) (fun cd => ?_)
  · have h := (if_neg cd).symm.trans h
    refine lv_aload_n hx hb dX5_corner_11 rfl (lv_at hl 0 rfl) ?_
    refine lv_iload_n hx hb dX5_corner_12 rfl (lv_at hl 1 rfl) ?_
    obtain ⟨⟨v3, M2⟩, h1, h⟩ := rs_bind h
    dsimp only at h
    refine rs_goI (rs_runV (b := 0) (As := [.int a1]) (rest := []) C hP hS (kX5_drawFigure l D ad cI cJ tP tR N M a1 _ h1) mk_X5_drawFigure wd_270 (xR_0) rfl ⟨rfl, rfl, Nat.le_of_ble_eq_true rfl, Nat.le_of_ble_eq_true rfl⟩ rfl hl.1 (Nat.le_of_ble_eq_true rfl) dX5_corner_13) hS (fun H locs hP hS => ?_)
    refine lv_if_ne (tgt := 22) hx hb dX5_corner_16 (by decide) (fun cd => ?_) (fun cd => ?_)
    · have h := (if_neg cd).symm.trans h
      refine lv_iload_n hx hb dX5_corner_22 rfl (lv_at hl 2 rfl) ?_
      refine lv_iconst (v := (0 : Int32)) hx hb dX5_corner_23 (by decide) ?_
      refine lv_aload_n hx hb dX5_corner_24 rfl (lv_at hl 0 rfl) ?_
      refine gfX5_22 C hP dX5_corner_25 ?_
      refine gfX5_97 C hP dX5_corner_28 ?_
      refine lv_iconst (v := (1 : Int32)) hx hb dX5_corner_31 (by decide) ?_
      refine lv_isub hx hb dX5_corner_32 ?_
      obtain ⟨v5, h1, h⟩ := rs_bind h
      refine rs_goI (rs_runS (As := [.int a2, .int (0 : Int32), .int ((M2.1 11 2) - (1 : Int32))]) (rest := []) C hP hS (kX5_within l D ad cI cJ tP tR M2 a2 (0 : Int32) ((M2.1 11 2) - (1 : Int32)) _ h1) mk_X5_within wd_231 rfl ⟨rfl, rfl, Nat.le_of_ble_eq_true rfl, Nat.le_of_ble_eq_true rfl⟩ rfl hl.1 (Nat.le_of_ble_eq_true rfl) dX5_corner_33) hS (fun H locs hP hS => ?_)
      refine lv_if_ne (tgt := 41) hx hb dX5_corner_36 (by decide) (fun cd => ?_) (fun cd => ?_)
      · have h := (if_neg cd).symm.trans h
        refine lv_bipush (v := (20 : Int32)) hx hb dX5_corner_41 (by decide) ?_
        refine lv_aload_n hx hb dX5_corner_43 rfl (lv_at hl 0 rfl) ?_
        refine gfX5_22 C hP dX5_corner_44 ?_
        refine gfX5_106 C hP dX5_corner_47 ?_
        refine lv_iload_n hx hb dX5_corner_50 rfl (lv_at hl 2 rfl) ?_
        refine rs_iald C hP xIA_12 dX5_corner_51 h (fun v6 h => ?_)
        refine lv_imul hx hb dX5_corner_52 ?_
        refine lv_aload_n hx hb dX5_corner_53 rfl (lv_at hl 0 rfl) ?_
        refine gfX5_22 C hP dX5_corner_54 ?_
        refine gfX5_109 C hP dX5_corner_57 ?_
        refine lv_iload_n hx hb dX5_corner_60 rfl (lv_at hl 2 rfl) ?_
        refine rs_iald C hP xIA_13 dX5_corner_61 h (fun v7 h => ?_)
        refine lv_iadd hx hb dX5_corner_62 ?_
        cases h
        exact hret H locs _ ls hP hS dX5_corner_63
      · have h := (if_pos cd).symm.trans h
        refine lv_iconst (v := (-1 : Int32)) hx hb dX5_corner_39 (by decide) ?_
        cases h
        exact hret H locs _ ls hP hS dX5_corner_40
    · have h := (if_pos cd).symm.trans h
      refine lv_bipush (v := (-3 : Int32)) hx hb dX5_corner_19 (by decide) ?_
      cases h
      exact hret H locs _ ls hP hS dX5_corner_21
  · have h := (if_pos cd).symm.trans h
    refine lv_iconst (v := (-1 : Int32)) hx hb dX5_corner_9 (by decide) ?_
    cases h
    exact hret H locs _ ls hP hS dX5_corner_10
abbrev rX5_areaOf : Room := { frames := 6, cells := 0, slots := 0, locals := 136 }
theorem dX5_areaOf_0 : decode cX5_areaOf 0 = .ok (.aload_n 0, 1) := by decide +kernel
theorem dX5_areaOf_1 : decode cX5_areaOf 1 = .ok (.iload_n 1, 1) := by decide +kernel
theorem dX5_areaOf_2 : decode cX5_areaOf 2 = .ok (.invokevirtual 90, 3) := by decide +kernel
theorem dX5_areaOf_5 : decode cX5_areaOf 5 = .ok (.ifCond .eq 13, 3) := by decide +kernel
theorem dX5_areaOf_8 : decode cX5_areaOf 8 = .ok (.aload_n 0, 1) := by decide +kernel
theorem dX5_areaOf_9 : decode cX5_areaOf 9 = .ok (.getfield 22, 3) := by decide +kernel
theorem dX5_areaOf_12 : decode cX5_areaOf 12 = .ok (.invokevirtual 93, 3) := by decide +kernel
theorem dX5_areaOf_15 : decode cX5_areaOf 15 = .ok (.goto 4, 3) := by decide +kernel
theorem dX5_areaOf_18 : decode cX5_areaOf 18 = .ok (.iconst 0, 1) := by decide +kernel
theorem dX5_areaOf_19 : decode cX5_areaOf 19 = .ok (.ireturn, 1) := by decide +kernel
set_option maxRecDepth 100000 in
set_option maxHeartbeats 4000000 in
theorem kX5_areaOf (l : Launch) (D : va_G) (ad : Nat → Nat) (cI cJ : ClassId) (tP tR : Nat) (N : Nat) (M : Mem) (a1 : Int32)  (o : (Int32 × Mem)) (h : fX5_areaOf N M a1 = some o) : qMet l D cI cJ tP tR (xA ad) (xW ad cI cJ) yX5_areaOf cX5_areaOf 2 (some .int) rX5_areaOf [.ref (ad 0), .int a1] M (qQi D (xA ad) (xW ad cI cJ) o.1 o.2) := by
  refine rs_enterI (own := RX5) ⟨by decide +kernel, rfl, Nat.le_of_ble_eq_true rfl⟩ ?_
  intro p e s m args below meth c Q C hret H locs ls hP hS hl
  obtain ⟨hx, hb, -⟩ := id C
  have hl : lv_has ls 2 [(0, .ref (ad 0)), (1, .int a1)] := hl
  unfold fX5_areaOf at h
  refine lv_aload_n hx hb dX5_areaOf_0 rfl (lv_at hl 0 rfl) ?_
  refine lv_iload_n hx hb dX5_areaOf_1 rfl (lv_at hl 1 rfl) ?_
  obtain ⟨⟨v2, M1⟩, h1, h⟩ := rs_bind h
  dsimp only at h
  refine rs_goI (rs_runV (b := 0) (As := [.int a1]) (rest := []) C hP hS (kX5_drawFigure l D ad cI cJ tP tR N M a1 _ h1) mk_X5_drawFigure wd_270 (xR_0) rfl ⟨rfl, rfl, Nat.le_of_ble_eq_true rfl, Nat.le_of_ble_eq_true rfl⟩ rfl hl.1 (Nat.le_of_ble_eq_true rfl) dX5_areaOf_2) hS (fun H locs hP hS => ?_)
  refine lv_if_eq (tgt := 18) hx hb dX5_areaOf_5 (by decide) (fun cd => ?_) (fun cd => ?_)
  · have h := (if_pos cd).symm.trans h
    refine lv_iconst (v := (0 : Int32)) hx hb dX5_areaOf_18 (by decide) ?_
    cases h
    exact hret H locs _ ls hP hS dX5_areaOf_19
  · have h := (if_neg cd).symm.trans h
    refine lv_aload_n hx hb dX5_areaOf_8 rfl (lv_at hl 0 rfl) ?_
    refine gfX5_22 C hP dX5_areaOf_9 ?_
    obtain ⟨v4, h1, h⟩ := rs_bind h
    refine rs_goI (rs_runV (b := 11) (As := []) (rest := []) C hP hS (kX1_area l D ad cI cJ tP tR N M1  _ h1) mk_X1_area wd_317 (xR_11) rfl ⟨rfl, rfl, Nat.le_of_ble_eq_true rfl, Nat.le_of_ble_eq_true rfl⟩ rfl hl.1 (Nat.le_of_ble_eq_true rfl) dX5_areaOf_12) hS (fun H locs hP hS => ?_)
    refine lv_goto (tgt := 19) hx hb dX5_areaOf_15 (by decide) ?_
    cases h
    exact hret H locs _ ls hP hS dX5_areaOf_19
abbrev rX5_mixed : Room := { frames := 7, cells := 0, slots := 0, locals := 157 }
theorem dX5_mixed_0 : decode cX5_mixed 0 = .ok (.aload_n 0, 1) := by decide +kernel
theorem dX5_mixed_1 : decode cX5_mixed 1 = .ok (.invokevirtual 112, 3) := by decide +kernel
theorem dX5_mixed_4 : decode cX5_mixed 4 = .ok (.ifCond .eq 6, 3) := by decide +kernel
theorem dX5_mixed_7 : decode cX5_mixed 7 = .ok (.bipush (-3), 2) := by decide +kernel
theorem dX5_mixed_9 : decode cX5_mixed 9 = .ok (.ireturn, 1) := by decide +kernel
theorem dX5_mixed_10 : decode cX5_mixed 10 = .ok (.aload_n 0, 1) := by decide +kernel
theorem dX5_mixed_11 : decode cX5_mixed 11 = .ok (.iconst 2, 1) := by decide +kernel
theorem dX5_mixed_12 : decode cX5_mixed 12 = .ok (.invokevirtual 116, 3) := by decide +kernel
theorem dX5_mixed_15 : decode cX5_mixed 15 = .ok (.aload_n 0, 1) := by decide +kernel
theorem dX5_mixed_16 : decode cX5_mixed 16 = .ok (.iconst 0, 1) := by decide +kernel
theorem dX5_mixed_17 : decode cX5_mixed 17 = .ok (.invokevirtual 116, 3) := by decide +kernel
theorem dX5_mixed_20 : decode cX5_mixed 20 = .ok (.isub, 1) := by decide +kernel
theorem dX5_mixed_21 : decode cX5_mixed 21 = .ok (.aload_n 0, 1) := by decide +kernel
theorem dX5_mixed_22 : decode cX5_mixed 22 = .ok (.iconst 1, 1) := by decide +kernel
theorem dX5_mixed_23 : decode cX5_mixed 23 = .ok (.invokevirtual 116, 3) := by decide +kernel
theorem dX5_mixed_26 : decode cX5_mixed 26 = .ok (.isub, 1) := by decide +kernel
theorem dX5_mixed_27 : decode cX5_mixed 27 = .ok (.iconst 2, 1) := by decide +kernel
theorem dX5_mixed_28 : decode cX5_mixed 28 = .ok (.idiv, 1) := by decide +kernel
theorem dX5_mixed_29 : decode cX5_mixed 29 = .ok (.ireturn, 1) := by decide +kernel
set_option maxRecDepth 100000 in
set_option maxHeartbeats 4000000 in
theorem kX5_mixed (l : Launch) (D : va_G) (ad : Nat → Nat) (cI cJ : ClassId) (tP tR : Nat) (N : Nat) (M : Mem)   (o : (Int32 × Mem)) (h : fX5_mixed N M  = some o) : qMet l D cI cJ tP tR (xA ad) (xW ad cI cJ) yX5_mixed cX5_mixed 1 (some .int) rX5_mixed [.ref (ad 0)] M (qQi D (xA ad) (xW ad cI cJ) o.1 o.2) := by
  refine rs_enterI (own := RX5) ⟨by decide +kernel, rfl, Nat.le_of_ble_eq_true rfl⟩ ?_
  intro p e s m args below meth c Q C hret H locs ls hP hS hl
  obtain ⟨hx, hb, -⟩ := id C
  have hl : lv_has ls 1 [(0, .ref (ad 0))] := hl
  unfold fX5_mixed at h
  refine lv_aload_n hx hb dX5_mixed_0 rfl (lv_at hl 0 rfl) ?_
  obtain ⟨v1, h1, h⟩ := rs_bind h
  refine rs_goI (rs_runV (b := 0) (As := []) (rest := []) C hP hS (kX5_anyEmpty l D ad cI cJ tP tR M  _ h1) mk_X5_anyEmpty wd_274 (xR_0) rfl ⟨rfl, rfl, Nat.le_of_ble_eq_true rfl, Nat.le_of_ble_eq_true rfl⟩ rfl hl.1 (Nat.le_of_ble_eq_true rfl) dX5_mixed_1) hS (fun H locs hP hS => ?_)
  refine lv_if_eq (tgt := 10) hx hb dX5_mixed_4 (by decide) (fun cd => ?_) (fun cd => ?_)
  · have h := (if_pos cd).symm.trans h
    refine lv_aload_n hx hb dX5_mixed_10 rfl (lv_at hl 0 rfl) ?_
    refine lv_iconst (v := (2 : Int32)) hx hb dX5_mixed_11 (by decide) ?_
    obtain ⟨⟨v3, M2⟩, h1, h⟩ := rs_bind h
    dsimp only at h
    refine rs_goI (rs_runV (b := 0) (As := [.int (2 : Int32)]) (rest := []) C hP hS (kX5_areaOf l D ad cI cJ tP tR N M (2 : Int32) _ h1) mk_X5_areaOf wd_347 (xR_0) rfl ⟨rfl, rfl, Nat.le_of_ble_eq_true rfl, Nat.le_of_ble_eq_true rfl⟩ rfl hl.1 (Nat.le_of_ble_eq_true rfl) dX5_mixed_12) hS (fun H locs hP hS => ?_)
    refine lv_aload_n hx hb dX5_mixed_15 rfl (lv_at hl 0 rfl) ?_
    refine lv_iconst (v := (0 : Int32)) hx hb dX5_mixed_16 (by decide) ?_
    obtain ⟨⟨v6, M5⟩, h1, h⟩ := rs_bind h
    dsimp only at h
    refine rs_goI (rs_runV (b := 0) (As := [.int (0 : Int32)]) (rest := [.int v3]) C hP hS (kX5_areaOf l D ad cI cJ tP tR N M2 (0 : Int32) _ h1) mk_X5_areaOf wd_347 (xR_0) rfl ⟨rfl, rfl, Nat.le_of_ble_eq_true rfl, Nat.le_of_ble_eq_true rfl⟩ rfl hl.1 (Nat.le_of_ble_eq_true rfl) dX5_mixed_17) hS (fun H locs hP hS => ?_)
    refine lv_isub hx hb dX5_mixed_20 ?_
    refine lv_aload_n hx hb dX5_mixed_21 rfl (lv_at hl 0 rfl) ?_
    refine lv_iconst (v := (1 : Int32)) hx hb dX5_mixed_22 (by decide) ?_
    obtain ⟨⟨v9, M8⟩, h1, h⟩ := rs_bind h
    dsimp only at h
    refine rs_goI (rs_runV (b := 0) (As := [.int (1 : Int32)]) (rest := [.int (v3 - v6)]) C hP hS (kX5_areaOf l D ad cI cJ tP tR N M5 (1 : Int32) _ h1) mk_X5_areaOf wd_347 (xR_0) rfl ⟨rfl, rfl, Nat.le_of_ble_eq_true rfl, Nat.le_of_ble_eq_true rfl⟩ rfl hl.1 (Nat.le_of_ble_eq_true rfl) dX5_mixed_23) hS (fun H locs hP hS => ?_)
    refine lv_isub hx hb dX5_mixed_26 ?_
    refine lv_iconst (v := (2 : Int32)) hx hb dX5_mixed_27 (by decide) ?_
    refine rs_idiv C dX5_mixed_28 h (fun v11 h => ?_)
    cases h
    exact hret H locs _ ls hP hS dX5_mixed_29
  · have h := (if_neg cd).symm.trans h
    refine lv_bipush (v := (-3 : Int32)) hx hb dX5_mixed_7 (by decide) ?_
    cases h
    exact hret H locs _ ls hP hS dX5_mixed_9
abbrev rX5_lift : Room := { frames := 2, cells := 0, slots := 0, locals := 43 }
theorem dX5_lift_0 : decode cX5_lift 0 = .ok (.aload_n 0, 1) := by decide +kernel
theorem dX5_lift_1 : decode cX5_lift 1 = .ok (.iload_n 1, 1) := by decide +kernel
theorem dX5_lift_2 : decode cX5_lift 2 = .ok (.invokevirtual 47, 3) := by decide +kernel
theorem dX5_lift_5 : decode cX5_lift 5 = .ok (.astore 4, 2) := by decide +kernel
theorem dX5_lift_7 : decode cX5_lift 7 = .ok (.aload 4, 2) := by decide +kernel
theorem dX5_lift_9 : decode cX5_lift 9 = .ok (.ifnull 12, 3) := by decide +kernel
theorem dX5_lift_12 : decode cX5_lift 12 = .ok (.aload 4, 2) := by decide +kernel
theorem dX5_lift_14 : decode cX5_lift 14 = .ok (.iload_n 2, 1) := by decide +kernel
theorem dX5_lift_15 : decode cX5_lift 15 = .ok (.invokevirtual 74, 3) := by decide +kernel
theorem dX5_lift_18 : decode cX5_lift 18 = .ok (.ifCond .ne 5, 3) := by decide +kernel
theorem dX5_lift_21 : decode cX5_lift 21 = .ok (.iconst (-1), 1) := by decide +kernel
theorem dX5_lift_22 : decode cX5_lift 22 = .ok (.ireturn, 1) := by decide +kernel
theorem dX5_lift_23 : decode cX5_lift 23 = .ok (.iload_n 3, 1) := by decide +kernel
theorem dX5_lift_24 : decode cX5_lift 24 = .ok (.iconst 0, 1) := by decide +kernel
theorem dX5_lift_25 : decode cX5_lift 25 = .ok (.bipush 100, 2) := by decide +kernel
theorem dX5_lift_27 : decode cX5_lift 27 = .ok (.invokestatic 51, 3) := by decide +kernel
theorem dX5_lift_30 : decode cX5_lift 30 = .ok (.ifCond .ne 6, 3) := by decide +kernel
theorem dX5_lift_33 : decode cX5_lift 33 = .ok (.bipush (-2), 2) := by decide +kernel
theorem dX5_lift_35 : decode cX5_lift 35 = .ok (.ireturn, 1) := by decide +kernel
theorem dX5_lift_36 : decode cX5_lift 36 = .ok (.aload 4, 2) := by decide +kernel
theorem dX5_lift_38 : decode cX5_lift 38 = .ok (.getfield 87, 3) := by decide +kernel
theorem dX5_lift_41 : decode cX5_lift 41 = .ok (.iload_n 2, 1) := by decide +kernel
theorem dX5_lift_42 : decode cX5_lift 42 = .ok (.iaload, 1) := by decide +kernel
theorem dX5_lift_43 : decode cX5_lift 43 = .ok (.istore 5, 2) := by decide +kernel
theorem dX5_lift_45 : decode cX5_lift 45 = .ok (.aload 4, 2) := by decide +kernel
theorem dX5_lift_47 : decode cX5_lift 47 = .ok (.getfield 87, 3) := by decide +kernel
theorem dX5_lift_50 : decode cX5_lift 50 = .ok (.iload_n 2, 1) := by decide +kernel
theorem dX5_lift_51 : decode cX5_lift 51 = .ok (.iload_n 3, 1) := by decide +kernel
theorem dX5_lift_52 : decode cX5_lift 52 = .ok (.iastore, 1) := by decide +kernel
theorem dX5_lift_53 : decode cX5_lift 53 = .ok (.aload_n 0, 1) := by decide +kernel
theorem dX5_lift_54 : decode cX5_lift 54 = .ok (.invokevirtual 67, 3) := by decide +kernel
theorem dX5_lift_57 : decode cX5_lift 57 = .ok (.iload 5, 2) := by decide +kernel
theorem dX5_lift_59 : decode cX5_lift 59 = .ok (.ireturn, 1) := by decide +kernel
set_option maxRecDepth 100000 in
set_option maxHeartbeats 4000000 in
theorem kX5_lift (l : Launch) (D : va_G) (ad : Nat → Nat) (cI cJ : ClassId) (tP tR : Nat) (M : Mem) (a1 : Int32) (a2 : Int32) (a3 : Int32)  (o : (Int32 × Mem)) (h : fX5_lift M a1 a2 a3 = some o) : qMet l D cI cJ tP tR (xA ad) (xW ad cI cJ) yX5_lift cX5_lift 6 (some .int) rX5_lift [.ref (ad 0), .int a1, .int a2, .int a3] M (qQi D (xA ad) (xW ad cI cJ) o.1 o.2) := by
  refine rs_enterI (own := RX5) ⟨by decide +kernel, rfl, Nat.le_of_ble_eq_true rfl⟩ ?_
  intro p e s m args below meth c Q C hret H locs ls hP hS hl
  obtain ⟨hx, hb, -⟩ := id C
  have hl : lv_has ls 6 [(0, .ref (ad 0)), (1, .int a1), (2, .int a2), (3, .int a3)] := hl
  unfold fX5_lift at h
  refine lv_aload_n hx hb dX5_lift_0 rfl (lv_at hl 0 rfl) ?_
  refine lv_iload_n hx hb dX5_lift_1 rfl (lv_at hl 1 rfl) ?_
  obtain ⟨q1, h1, h⟩ := rs_bind h
  refine rs_goR (rs_runV (b := 0) (As := [.int a1]) (rest := []) C hP hS (kX5_equationOf l D ad cI cJ tP tR M a1 _ h1) mk_X5_equationOf wd_227 (xR_0) rfl ⟨rfl, rfl, Nat.le_of_ble_eq_true rfl, Nat.le_of_ble_eq_true rfl⟩ rfl hl.1 (Nat.le_of_ble_eq_true rfl) dX5_lift_2) hS (fun H locs hP hS => ?_)
  cases q1 with
  | none =>
    dsimp only at h
    show W p l e rX5_lift s m args below meth c H locs 0 0 Q (F0 m 5 ls [.null])
    refine lv_astoreN (lv' := [(4, .null), (0, .ref (ad 0)), (1, .int a1), (2, .int a2), (3, .int a3)]) hx hb dX5_lift_5 hl (by decide) rfl (fun ls hl => ?_)
    refine lv_aloadN hx hb dX5_lift_7 (lv_at hl 0 rfl) ?_
    refine lv_ifnullN (tgt := 21) hx hb dX5_lift_9 (by decide) ?_
    refine lv_iconst (v := (-1 : Int32)) hx hb dX5_lift_21 (by decide) ?_
    cases h
    exact hret H locs _ ls hP hS dX5_lift_22
  | some e2 =>
    dsimp only at h
    have he2 := eqOf_cell h1
    show W p l e rX5_lift s m args below meth c H locs 0 0 Q (F0 m 5 ls [.ref (ad e2)])
    refine lv_astore (lv' := [(4, .ref (ad e2)), (0, .ref (ad 0)), (1, .int a1), (2, .int a2), (3, .int a3)]) hx hb dX5_lift_5 hl (by decide) rfl (fun ls hl => ?_)
    refine lv_aload hx hb dX5_lift_7 (lv_at hl 0 rfl) ?_
    refine lv_ifnull hx hb dX5_lift_9 ?_
    refine lv_aload hx hb dX5_lift_12 (lv_at hl 0 rfl) ?_
    refine lv_iload_n hx hb dX5_lift_14 rfl (lv_at hl 3 rfl) ?_
    obtain ⟨v3, h1, h⟩ := rs_bind h
    refine rs_goI (rs_runV (b := e2) (As := [.int a2]) (rest := []) C hP hS (kX0_has l D ad cI cJ tP tR M e2 a2 he2 _ h1) mk_X0_has wd_253 (xR_eq he2) rfl ⟨rfl, rfl, Nat.le_of_ble_eq_true rfl, Nat.le_of_ble_eq_true rfl⟩ rfl hl.1 (Nat.le_of_ble_eq_true rfl) dX5_lift_15) hS (fun H locs hP hS => ?_)
    refine lv_if_ne (tgt := 23) hx hb dX5_lift_18 (by decide) (fun cd => ?_) (fun cd => ?_)
    · have h := (if_neg cd).symm.trans h
      refine lv_iload_n hx hb dX5_lift_23 rfl (lv_at hl 4 rfl) ?_
      refine lv_iconst (v := (0 : Int32)) hx hb dX5_lift_24 (by decide) ?_
      refine lv_bipush (v := (100 : Int32)) hx hb dX5_lift_25 (by decide) ?_
      obtain ⟨v4, h1, h⟩ := rs_bind h
      refine rs_goI (rs_runS (As := [.int a3, .int (0 : Int32), .int (100 : Int32)]) (rest := []) C hP hS (kX5_within l D ad cI cJ tP tR M a3 (0 : Int32) (100 : Int32) _ h1) mk_X5_within wd_231 rfl ⟨rfl, rfl, Nat.le_of_ble_eq_true rfl, Nat.le_of_ble_eq_true rfl⟩ rfl hl.1 (Nat.le_of_ble_eq_true rfl) dX5_lift_27) hS (fun H locs hP hS => ?_)
      refine lv_if_ne (tgt := 36) hx hb dX5_lift_30 (by decide) (fun cd => ?_) (fun cd => ?_)
      · have h := (if_neg cd).symm.trans h
        refine lv_aload hx hb dX5_lift_36 (lv_at hl 0 rfl) ?_
        refine gfX5_87 C hP he2 dX5_lift_38 ?_
        refine lv_iload_n hx hb dX5_lift_41 rfl (lv_at hl 3 rfl) ?_
        refine rs_iald C hP (xIA_e4 he2) dX5_lift_42 h (fun v5 h => ?_)
        refine lv_istore (lv' := [(5, .int v5), (4, .ref (ad e2)), (0, .ref (ad 0)), (1, .int a1), (2, .int a2), (3, .int a3)]) hx hb dX5_lift_43 hl (by decide) rfl (fun ls hl => ?_)
        refine lv_aload hx hb dX5_lift_45 (lv_at hl 1 rfl) ?_
        refine gfX5_87 C hP he2 dX5_lift_47 ?_
        refine lv_iload_n hx hb dX5_lift_50 rfl (lv_at hl 4 rfl) ?_
        refine lv_iload_n hx hb dX5_lift_51 rfl (lv_at hl 5 rfl) ?_
        refine rs_iast C hP hS (xIA_e4 he2) dX5_lift_52 h (fun M6 h H locs hP hS => ?_)
        refine lv_aload_n hx hb dX5_lift_53 rfl (lv_at hl 2 rfl) ?_
        obtain ⟨M7, h1, h⟩ := rs_bind h
        refine rs_goV (rs_runV (b := 0) (As := []) (rest := []) C hP hS (kX5_forgetFound l D ad cI cJ tP tR M6  _ h1) mk_X5_forgetFound wd_241 (xR_0) rfl ⟨rfl, rfl, Nat.le_of_ble_eq_true rfl, Nat.le_of_ble_eq_true rfl⟩ rfl hl.1 (Nat.le_of_ble_eq_true rfl) dX5_lift_54) hS (fun H locs hP hS => ?_)
        refine lv_iload hx hb dX5_lift_57 (lv_at hl 0 rfl) ?_
        cases h
        exact hret H locs _ ls hP hS dX5_lift_59
      · have h := (if_pos cd).symm.trans h
        refine lv_bipush (v := (-2 : Int32)) hx hb dX5_lift_33 (by decide) ?_
        cases h
        exact hret H locs _ ls hP hS dX5_lift_35
    · have h := (if_pos cd).symm.trans h
      refine lv_iconst (v := (-1 : Int32)) hx hb dX5_lift_21 (by decide) ?_
      cases h
      exact hret H locs _ ls hP hS dX5_lift_22
abbrev rX5_cells : Room := { frames := 4, cells := 0, slots := 0, locals := 105 }
theorem dX5_cells_0 : decode cX5_cells 0 = .ok (.aload_n 0, 1) := by decide +kernel
theorem dX5_cells_1 : decode cX5_cells 1 = .ok (.getfield 29, 3) := by decide +kernel
theorem dX5_cells_4 : decode cX5_cells 4 = .ok (.aload_n 0, 1) := by decide +kernel
theorem dX5_cells_5 : decode cX5_cells 5 = .ok (.getfield 10, 3) := by decide +kernel
theorem dX5_cells_8 : decode cX5_cells 8 = .ok (.aload_n 0, 1) := by decide +kernel
theorem dX5_cells_9 : decode cX5_cells 9 = .ok (.getfield 16, 3) := by decide +kernel
theorem dX5_cells_12 : decode cX5_cells 12 = .ok (.invokevirtual 120, 3) := by decide +kernel
theorem dX5_cells_15 : decode cX5_cells 15 = .ok (.aload_n 0, 1) := by decide +kernel
theorem dX5_cells_16 : decode cX5_cells 16 = .ok (.getfield 29, 3) := by decide +kernel
theorem dX5_cells_19 : decode cX5_cells 19 = .ok (.getfield 124, 3) := by decide +kernel
theorem dX5_cells_22 : decode cX5_cells 22 = .ok (.ireturn, 1) := by decide +kernel
set_option maxRecDepth 100000 in
set_option maxHeartbeats 4000000 in
theorem kX5_cells (l : Launch) (D : va_G) (ad : Nat → Nat) (cI cJ : ClassId) (tP tR : Nat) (N : Nat) (M : Mem)   (o : (Int32 × Mem)) (h : fX5_cells N M  = some o) : qMet l D cI cJ tP tR (xA ad) (xW ad cI cJ) yX5_cells cX5_cells 1 (some .int) rX5_cells [.ref (ad 0)] M (qQi D (xA ad) (xW ad cI cJ) o.1 o.2) := by
  refine rs_enterI (own := RX5) ⟨by decide +kernel, rfl, Nat.le_of_ble_eq_true rfl⟩ ?_
  intro p e s m args below meth c Q C hret H locs ls hP hS hl
  obtain ⟨hx, hb, -⟩ := id C
  have hl : lv_has ls 1 [(0, .ref (ad 0))] := hl
  unfold fX5_cells at h
  refine lv_aload_n hx hb dX5_cells_0 rfl (lv_at hl 0 rfl) ?_
  refine gfX5_29 C hP dX5_cells_1 ?_
  refine lv_aload_n hx hb dX5_cells_4 rfl (lv_at hl 0 rfl) ?_
  refine gfX5_10 C hP dX5_cells_5 ?_
  refine lv_aload_n hx hb dX5_cells_8 rfl (lv_at hl 0 rfl) ?_
  refine gfX5_16 C hP dX5_cells_9 ?_
  obtain ⟨M1, h1, h⟩ := rs_bind h
  refine rs_goV (rs_runV (b := 16) (As := [.ref (ad 1), .ref (ad 6)]) (rest := []) C hP hS (kX4_find l D ad cI cJ tP tR N M 1 6 (Or.inl rfl) (Or.inr rfl) _ h1) mk_X4_find wd_359 (xR_16) rfl ⟨rfl, rfl, Nat.le_of_ble_eq_true rfl, Nat.le_of_ble_eq_true rfl⟩ rfl hl.1 (Nat.le_of_ble_eq_true rfl) dX5_cells_12) hS (fun H locs hP hS => ?_)
  refine lv_aload_n hx hb dX5_cells_15 rfl (lv_at hl 0 rfl) ?_
  refine gfX5_29 C hP dX5_cells_16 ?_
  refine gfX5_124 C hP dX5_cells_19 ?_
  cases h
  exact hret H locs _ ls hP hS dX5_cells_22
abbrev rX5_cell : Room := { frames := 4, cells := 0, slots := 0, locals := 105 }
theorem dX5_cell_0 : decode cX5_cell 0 = .ok (.aload_n 0, 1) := by decide +kernel
theorem dX5_cell_1 : decode cX5_cell 1 = .ok (.getfield 29, 3) := by decide +kernel
theorem dX5_cell_4 : decode cX5_cell 4 = .ok (.aload_n 0, 1) := by decide +kernel
theorem dX5_cell_5 : decode cX5_cell 5 = .ok (.getfield 10, 3) := by decide +kernel
theorem dX5_cell_8 : decode cX5_cell 8 = .ok (.aload_n 0, 1) := by decide +kernel
theorem dX5_cell_9 : decode cX5_cell 9 = .ok (.getfield 16, 3) := by decide +kernel
theorem dX5_cell_12 : decode cX5_cell 12 = .ok (.invokevirtual 120, 3) := by decide +kernel
theorem dX5_cell_15 : decode cX5_cell 15 = .ok (.iload_n 1, 1) := by decide +kernel
theorem dX5_cell_16 : decode cX5_cell 16 = .ok (.iconst 0, 1) := by decide +kernel
theorem dX5_cell_17 : decode cX5_cell 17 = .ok (.aload_n 0, 1) := by decide +kernel
theorem dX5_cell_18 : decode cX5_cell 18 = .ok (.getfield 29, 3) := by decide +kernel
theorem dX5_cell_21 : decode cX5_cell 21 = .ok (.getfield 124, 3) := by decide +kernel
theorem dX5_cell_24 : decode cX5_cell 24 = .ok (.iconst 1, 1) := by decide +kernel
theorem dX5_cell_25 : decode cX5_cell 25 = .ok (.isub, 1) := by decide +kernel
theorem dX5_cell_26 : decode cX5_cell 26 = .ok (.invokestatic 51, 3) := by decide +kernel
theorem dX5_cell_29 : decode cX5_cell 29 = .ok (.ifCond .ne 5, 3) := by decide +kernel
theorem dX5_cell_32 : decode cX5_cell 32 = .ok (.iconst (-1), 1) := by decide +kernel
theorem dX5_cell_33 : decode cX5_cell 33 = .ok (.ireturn, 1) := by decide +kernel
theorem dX5_cell_34 : decode cX5_cell 34 = .ok (.iload_n 2, 1) := by decide +kernel
theorem dX5_cell_35 : decode cX5_cell 35 = .ok (.iconst 0, 1) := by decide +kernel
theorem dX5_cell_36 : decode cX5_cell 36 = .ok (.iconst 4, 1) := by decide +kernel
theorem dX5_cell_37 : decode cX5_cell 37 = .ok (.invokestatic 51, 3) := by decide +kernel
theorem dX5_cell_40 : decode cX5_cell 40 = .ok (.ifCond .ne 6, 3) := by decide +kernel
theorem dX5_cell_43 : decode cX5_cell 43 = .ok (.bipush (-2), 2) := by decide +kernel
theorem dX5_cell_45 : decode cX5_cell 45 = .ok (.ireturn, 1) := by decide +kernel
theorem dX5_cell_46 : decode cX5_cell 46 = .ok (.iload_n 2, 1) := by decide +kernel
theorem dX5_cell_47 : decode cX5_cell 47 = .ok (.iconst 4, 1) := by decide +kernel
theorem dX5_cell_48 : decode cX5_cell 48 = .ok (.if_icmp .ne 20, 3) := by decide +kernel
theorem dX5_cell_51 : decode cX5_cell 51 = .ok (.aload_n 0, 1) := by decide +kernel
theorem dX5_cell_52 : decode cX5_cell 52 = .ok (.getfield 29, 3) := by decide +kernel
theorem dX5_cell_55 : decode cX5_cell 55 = .ok (.aload_n 0, 1) := by decide +kernel
theorem dX5_cell_56 : decode cX5_cell 56 = .ok (.getfield 10, 3) := by decide +kernel
theorem dX5_cell_59 : decode cX5_cell 59 = .ok (.aload_n 0, 1) := by decide +kernel
theorem dX5_cell_60 : decode cX5_cell 60 = .ok (.getfield 16, 3) := by decide +kernel
theorem dX5_cell_63 : decode cX5_cell 63 = .ok (.iload_n 1, 1) := by decide +kernel
theorem dX5_cell_64 : decode cX5_cell 64 = .ok (.invokevirtual 127, 3) := by decide +kernel
theorem dX5_cell_67 : decode cX5_cell 67 = .ok (.ireturn, 1) := by decide +kernel
theorem dX5_cell_68 : decode cX5_cell 68 = .ok (.aload_n 0, 1) := by decide +kernel
theorem dX5_cell_69 : decode cX5_cell 69 = .ok (.getfield 29, 3) := by decide +kernel
theorem dX5_cell_72 : decode cX5_cell 72 = .ok (.iload_n 1, 1) := by decide +kernel
theorem dX5_cell_73 : decode cX5_cell 73 = .ok (.iload_n 2, 1) := by decide +kernel
theorem dX5_cell_74 : decode cX5_cell 74 = .ok (.invokevirtual 131, 3) := by decide +kernel
theorem dX5_cell_77 : decode cX5_cell 77 = .ok (.ireturn, 1) := by decide +kernel
set_option maxRecDepth 100000 in
set_option maxHeartbeats 4000000 in
theorem kX5_cell (l : Launch) (D : va_G) (ad : Nat → Nat) (cI cJ : ClassId) (tP tR : Nat) (N : Nat) (M : Mem) (a1 : Int32) (a2 : Int32)  (o : (Int32 × Mem)) (h : fX5_cell N M a1 a2 = some o) : qMet l D cI cJ tP tR (xA ad) (xW ad cI cJ) yX5_cell cX5_cell 3 (some .int) rX5_cell [.ref (ad 0), .int a1, .int a2] M (qQi D (xA ad) (xW ad cI cJ) o.1 o.2) := by
  refine rs_enterI (own := RX5) ⟨by decide +kernel, rfl, Nat.le_of_ble_eq_true rfl⟩ ?_
  intro p e s m args below meth c Q C hret H locs ls hP hS hl
  obtain ⟨hx, hb, -⟩ := id C
  have hl : lv_has ls 3 [(0, .ref (ad 0)), (1, .int a1), (2, .int a2)] := hl
  unfold fX5_cell at h
  refine lv_aload_n hx hb dX5_cell_0 rfl (lv_at hl 0 rfl) ?_
  refine gfX5_29 C hP dX5_cell_1 ?_
  refine lv_aload_n hx hb dX5_cell_4 rfl (lv_at hl 0 rfl) ?_
  refine gfX5_10 C hP dX5_cell_5 ?_
  refine lv_aload_n hx hb dX5_cell_8 rfl (lv_at hl 0 rfl) ?_
  refine gfX5_16 C hP dX5_cell_9 ?_
  obtain ⟨M1, h1, h⟩ := rs_bind h
  refine rs_goV (rs_runV (b := 16) (As := [.ref (ad 1), .ref (ad 6)]) (rest := []) C hP hS (kX4_find l D ad cI cJ tP tR N M 1 6 (Or.inl rfl) (Or.inr rfl) _ h1) mk_X4_find wd_359 (xR_16) rfl ⟨rfl, rfl, Nat.le_of_ble_eq_true rfl, Nat.le_of_ble_eq_true rfl⟩ rfl hl.1 (Nat.le_of_ble_eq_true rfl) dX5_cell_12) hS (fun H locs hP hS => ?_)
  refine lv_iload_n hx hb dX5_cell_15 rfl (lv_at hl 1 rfl) ?_
  refine lv_iconst (v := (0 : Int32)) hx hb dX5_cell_16 (by decide) ?_
  refine lv_aload_n hx hb dX5_cell_17 rfl (lv_at hl 0 rfl) ?_
  refine gfX5_29 C hP dX5_cell_18 ?_
  refine gfX5_124 C hP dX5_cell_21 ?_
  refine lv_iconst (v := (1 : Int32)) hx hb dX5_cell_24 (by decide) ?_
  refine lv_isub hx hb dX5_cell_25 ?_
  obtain ⟨v2, h1, h⟩ := rs_bind h
  refine rs_goI (rs_runS (As := [.int a1, .int (0 : Int32), .int ((M1.1 16 0) - (1 : Int32))]) (rest := []) C hP hS (kX5_within l D ad cI cJ tP tR M1 a1 (0 : Int32) ((M1.1 16 0) - (1 : Int32)) _ h1) mk_X5_within wd_231 rfl ⟨rfl, rfl, Nat.le_of_ble_eq_true rfl, Nat.le_of_ble_eq_true rfl⟩ rfl hl.1 (Nat.le_of_ble_eq_true rfl) dX5_cell_26) hS (fun H locs hP hS => ?_)
  refine lv_if_ne (tgt := 34) hx hb dX5_cell_29 (by decide) (fun cd => ?_) (fun cd => ?_)
  · have h := (if_neg cd).symm.trans h
    refine lv_iload_n hx hb dX5_cell_34 rfl (lv_at hl 2 rfl) ?_
    refine lv_iconst (v := (0 : Int32)) hx hb dX5_cell_35 (by decide) ?_
    refine lv_iconst (v := (4 : Int32)) hx hb dX5_cell_36 (by decide) ?_
    obtain ⟨v3, h1, h⟩ := rs_bind h
    refine rs_goI (rs_runS (As := [.int a2, .int (0 : Int32), .int (4 : Int32)]) (rest := []) C hP hS (kX5_within l D ad cI cJ tP tR M1 a2 (0 : Int32) (4 : Int32) _ h1) mk_X5_within wd_231 rfl ⟨rfl, rfl, Nat.le_of_ble_eq_true rfl, Nat.le_of_ble_eq_true rfl⟩ rfl hl.1 (Nat.le_of_ble_eq_true rfl) dX5_cell_37) hS (fun H locs hP hS => ?_)
    refine lv_if_ne (tgt := 46) hx hb dX5_cell_40 (by decide) (fun cd => ?_) (fun cd => ?_)
    · have h := (if_neg cd).symm.trans h
      refine lv_iload_n hx hb dX5_cell_46 rfl (lv_at hl 2 rfl) ?_
      refine lv_iconst (v := (4 : Int32)) hx hb dX5_cell_47 (by decide) ?_
      refine lv_icmp_ne (tgt := 68) hx hb dX5_cell_48 (by decide) (fun cd => ?_) (fun cd => ?_)
      · have h := (if_neg cd).symm.trans h
        refine lv_aload_n hx hb dX5_cell_68 rfl (lv_at hl 0 rfl) ?_
        refine gfX5_29 C hP dX5_cell_69 ?_
        refine lv_iload_n hx hb dX5_cell_72 rfl (lv_at hl 1 rfl) ?_
        refine lv_iload_n hx hb dX5_cell_73 rfl (lv_at hl 2 rfl) ?_
        obtain ⟨v4, h1, h⟩ := rs_bind h
        refine rs_goI (rs_runV (b := 16) (As := [.int a1, .int a2]) (rest := []) C hP hS (kX4_memberOf l D ad cI cJ tP tR M1 a1 a2 _ h1) mk_X4_memberOf wd_399 (xR_16) rfl ⟨rfl, rfl, Nat.le_of_ble_eq_true rfl, Nat.le_of_ble_eq_true rfl⟩ rfl hl.1 (Nat.le_of_ble_eq_true rfl) dX5_cell_74) hS (fun H locs hP hS => ?_)
        cases h
        exact hret H locs _ ls hP hS dX5_cell_77
      · have h := (if_pos cd).symm.trans h
        refine lv_aload_n hx hb dX5_cell_51 rfl (lv_at hl 0 rfl) ?_
        refine gfX5_29 C hP dX5_cell_52 ?_
        refine lv_aload_n hx hb dX5_cell_55 rfl (lv_at hl 0 rfl) ?_
        refine gfX5_10 C hP dX5_cell_56 ?_
        refine lv_aload_n hx hb dX5_cell_59 rfl (lv_at hl 0 rfl) ?_
        refine gfX5_16 C hP dX5_cell_60 ?_
        refine lv_iload_n hx hb dX5_cell_63 rfl (lv_at hl 1 rfl) ?_
        obtain ⟨v5, h1, h⟩ := rs_bind h
        refine rs_goI (rs_runV (b := 16) (As := [.ref (ad 1), .ref (ad 6), .int a1]) (rest := []) C hP hS (kX4_sizeOf l D ad cI cJ tP tR M1 1 6 a1 (Or.inl rfl) (Or.inr rfl) _ h1) mk_X4_sizeOf wd_390 (xR_16) rfl ⟨rfl, rfl, Nat.le_of_ble_eq_true rfl, Nat.le_of_ble_eq_true rfl⟩ rfl hl.1 (Nat.le_of_ble_eq_true rfl) dX5_cell_64) hS (fun H locs hP hS => ?_)
        cases h
        exact hret H locs _ ls hP hS dX5_cell_67
    · have h := (if_pos cd).symm.trans h
      refine lv_bipush (v := (-2 : Int32)) hx hb dX5_cell_43 (by decide) ?_
      cases h
      exact hret H locs _ ls hP hS dX5_cell_45
  · have h := (if_pos cd).symm.trans h
    refine lv_iconst (v := (-1 : Int32)) hx hb dX5_cell_32 (by decide) ?_
    cases h
    exact hret H locs _ ls hP hS dX5_cell_33
abbrev rX5_fine : Room := { frames := 4, cells := 0, slots := 0, locals := 105 }
theorem dX5_fine_0 : decode cX5_fine 0 = .ok (.aload_n 0, 1) := by decide +kernel
theorem dX5_fine_1 : decode cX5_fine 1 = .ok (.getfield 29, 3) := by decide +kernel
theorem dX5_fine_4 : decode cX5_fine 4 = .ok (.aload_n 0, 1) := by decide +kernel
theorem dX5_fine_5 : decode cX5_fine 5 = .ok (.getfield 10, 3) := by decide +kernel
theorem dX5_fine_8 : decode cX5_fine 8 = .ok (.aload_n 0, 1) := by decide +kernel
theorem dX5_fine_9 : decode cX5_fine 9 = .ok (.getfield 16, 3) := by decide +kernel
theorem dX5_fine_12 : decode cX5_fine 12 = .ok (.invokevirtual 120, 3) := by decide +kernel
theorem dX5_fine_15 : decode cX5_fine 15 = .ok (.aload_n 0, 1) := by decide +kernel
theorem dX5_fine_16 : decode cX5_fine 16 = .ok (.getfield 29, 3) := by decide +kernel
theorem dX5_fine_19 : decode cX5_fine 19 = .ok (.getfield 135, 3) := by decide +kernel
theorem dX5_fine_22 : decode cX5_fine 22 = .ok (.ifCond .eq 7, 3) := by decide +kernel
theorem dX5_fine_25 : decode cX5_fine 25 = .ok (.iconst 0, 1) := by decide +kernel
theorem dX5_fine_26 : decode cX5_fine 26 = .ok (.goto 4, 3) := by decide +kernel
theorem dX5_fine_29 : decode cX5_fine 29 = .ok (.iconst 1, 1) := by decide +kernel
theorem dX5_fine_30 : decode cX5_fine 30 = .ok (.ireturn, 1) := by decide +kernel
set_option maxRecDepth 100000 in
set_option maxHeartbeats 4000000 in
theorem kX5_fine (l : Launch) (D : va_G) (ad : Nat → Nat) (cI cJ : ClassId) (tP tR : Nat) (N : Nat) (M : Mem)   (o : (Int32 × Mem)) (h : fX5_fine N M  = some o) : qMet l D cI cJ tP tR (xA ad) (xW ad cI cJ) yX5_fine cX5_fine 1 (some .int) rX5_fine [.ref (ad 0)] M (qQi D (xA ad) (xW ad cI cJ) o.1 o.2) := by
  refine rs_enterI (own := RX5) ⟨by decide +kernel, rfl, Nat.le_of_ble_eq_true rfl⟩ ?_
  intro p e s m args below meth c Q C hret H locs ls hP hS hl
  obtain ⟨hx, hb, -⟩ := id C
  have hl : lv_has ls 1 [(0, .ref (ad 0))] := hl
  unfold fX5_fine at h
  refine lv_aload_n hx hb dX5_fine_0 rfl (lv_at hl 0 rfl) ?_
  refine gfX5_29 C hP dX5_fine_1 ?_
  refine lv_aload_n hx hb dX5_fine_4 rfl (lv_at hl 0 rfl) ?_
  refine gfX5_10 C hP dX5_fine_5 ?_
  refine lv_aload_n hx hb dX5_fine_8 rfl (lv_at hl 0 rfl) ?_
  refine gfX5_16 C hP dX5_fine_9 ?_
  obtain ⟨M1, h1, h⟩ := rs_bind h
  refine rs_goV (rs_runV (b := 16) (As := [.ref (ad 1), .ref (ad 6)]) (rest := []) C hP hS (kX4_find l D ad cI cJ tP tR N M 1 6 (Or.inl rfl) (Or.inr rfl) _ h1) mk_X4_find wd_359 (xR_16) rfl ⟨rfl, rfl, Nat.le_of_ble_eq_true rfl, Nat.le_of_ble_eq_true rfl⟩ rfl hl.1 (Nat.le_of_ble_eq_true rfl) dX5_fine_12) hS (fun H locs hP hS => ?_)
  refine lv_aload_n hx hb dX5_fine_15 rfl (lv_at hl 0 rfl) ?_
  refine gfX5_29 C hP dX5_fine_16 ?_
  refine gfX5_135 C hP dX5_fine_19 ?_
  refine lv_if_eq (tgt := 29) hx hb dX5_fine_22 (by decide) (fun cd => ?_) (fun cd => ?_)
  · have h := (if_pos cd).symm.trans h
    refine lv_iconst (v := (1 : Int32)) hx hb dX5_fine_29 (by decide) ?_
    cases h
    exact hret H locs _ ls hP hS dX5_fine_30
  · have h := (if_neg cd).symm.trans h
    refine lv_iconst (v := (0 : Int32)) hx hb dX5_fine_25 (by decide) ?_
    refine lv_goto (tgt := 30) hx hb dX5_fine_26 (by decide) ?_
    cases h
    exact hret H locs _ ls hP hS dX5_fine_30
abbrev rX5_face : Room := { frames := 2, cells := 0, slots := 0, locals := 43 }
theorem dX5_face_0 : decode cX5_face 0 = .ok (.aload_n 0, 1) := by decide +kernel
theorem dX5_face_1 : decode cX5_face 1 = .ok (.iload_n 1, 1) := by decide +kernel
theorem dX5_face_2 : decode cX5_face 2 = .ok (.invokevirtual 47, 3) := by decide +kernel
theorem dX5_face_5 : decode cX5_face 5 = .ok (.astore 4, 2) := by decide +kernel
theorem dX5_face_7 : decode cX5_face 7 = .ok (.aload 4, 2) := by decide +kernel
theorem dX5_face_9 : decode cX5_face 9 = .ok (.ifnonnull 5, 3) := by decide +kernel
theorem dX5_face_12 : decode cX5_face 12 = .ok (.iconst (-1), 1) := by decide +kernel
theorem dX5_face_13 : decode cX5_face 13 = .ok (.ireturn, 1) := by decide +kernel
theorem dX5_face_14 : decode cX5_face 14 = .ok (.iload_n 2, 1) := by decide +kernel
theorem dX5_face_15 : decode cX5_face 15 = .ok (.iload_n 3, 1) := by decide +kernel
theorem dX5_face_16 : decode cX5_face 16 = .ok (.invokestatic 139, 3) := by decide +kernel
theorem dX5_face_19 : decode cX5_face 19 = .ok (.ifCond .ne 6, 3) := by decide +kernel
theorem dX5_face_22 : decode cX5_face 22 = .ok (.bipush (-2), 2) := by decide +kernel
theorem dX5_face_24 : decode cX5_face 24 = .ok (.ireturn, 1) := by decide +kernel
theorem dX5_face_25 : decode cX5_face 25 = .ok (.aload 4, 2) := by decide +kernel
theorem dX5_face_27 : decode cX5_face 27 = .ok (.getfield 59, 3) := by decide +kernel
theorem dX5_face_30 : decode cX5_face 30 = .ok (.ifCond .ne 6, 3) := by decide +kernel
theorem dX5_face_33 : decode cX5_face 33 = .ok (.bipush (-3), 2) := by decide +kernel
theorem dX5_face_35 : decode cX5_face 35 = .ok (.ireturn, 1) := by decide +kernel
theorem dX5_face_36 : decode cX5_face 36 = .ok (.aload_n 0, 1) := by decide +kernel
theorem dX5_face_37 : decode cX5_face 37 = .ok (.getfield 36, 3) := by decide +kernel
theorem dX5_face_40 : decode cX5_face 40 = .ok (.aload 4, 2) := by decide +kernel
theorem dX5_face_42 : decode cX5_face 42 = .ok (.iload_n 2, 1) := by decide +kernel
theorem dX5_face_43 : decode cX5_face 43 = .ok (.iload_n 3, 1) := by decide +kernel
theorem dX5_face_44 : decode cX5_face 44 = .ok (.invokevirtual 142, 3) := by decide +kernel
theorem dX5_face_47 : decode cX5_face 47 = .ok (.ireturn, 1) := by decide +kernel
set_option maxRecDepth 100000 in
set_option maxHeartbeats 4000000 in
theorem kX5_face (l : Launch) (D : va_G) (ad : Nat → Nat) (cI cJ : ClassId) (tP tR : Nat) (N : Nat) (M : Mem) (a1 : Int32) (a2 : Int32) (a3 : Int32)  (o : Int32) (h : fX5_face N M a1 a2 a3 = some o) : qMet l D cI cJ tP tR (xA ad) (xW ad cI cJ) yX5_face cX5_face 5 (some .int) rX5_face [.ref (ad 0), .int a1, .int a2, .int a3] M (qQi D (xA ad) (xW ad cI cJ) o M) := by
  refine rs_enterI (own := RX5) ⟨by decide +kernel, rfl, Nat.le_of_ble_eq_true rfl⟩ ?_
  intro p e s m args below meth c Q C hret H locs ls hP hS hl
  obtain ⟨hx, hb, -⟩ := id C
  have hl : lv_has ls 5 [(0, .ref (ad 0)), (1, .int a1), (2, .int a2), (3, .int a3)] := hl
  unfold fX5_face at h
  refine lv_aload_n hx hb dX5_face_0 rfl (lv_at hl 0 rfl) ?_
  refine lv_iload_n hx hb dX5_face_1 rfl (lv_at hl 1 rfl) ?_
  obtain ⟨q1, h1, h⟩ := rs_bind h
  refine rs_goR (rs_runV (b := 0) (As := [.int a1]) (rest := []) C hP hS (kX5_equationOf l D ad cI cJ tP tR M a1 _ h1) mk_X5_equationOf wd_227 (xR_0) rfl ⟨rfl, rfl, Nat.le_of_ble_eq_true rfl, Nat.le_of_ble_eq_true rfl⟩ rfl hl.1 (Nat.le_of_ble_eq_true rfl) dX5_face_2) hS (fun H locs hP hS => ?_)
  cases q1 with
  | none =>
    dsimp only at h
    show W p l e rX5_face s m args below meth c H locs 0 0 Q (F0 m 5 ls [.null])
    refine lv_astoreN (lv' := [(4, .null), (0, .ref (ad 0)), (1, .int a1), (2, .int a2), (3, .int a3)]) hx hb dX5_face_5 hl (by decide) rfl (fun ls hl => ?_)
    refine lv_aloadN hx hb dX5_face_7 (lv_at hl 0 rfl) ?_
    refine lv_ifnonnullN hx hb dX5_face_9 ?_
    refine lv_iconst (v := (-1 : Int32)) hx hb dX5_face_12 (by decide) ?_
    cases h
    exact hret H locs _ ls hP hS dX5_face_13
  | some e2 =>
    dsimp only at h
    have he2 := eqOf_cell h1
    show W p l e rX5_face s m args below meth c H locs 0 0 Q (F0 m 5 ls [.ref (ad e2)])
    refine lv_astore (lv' := [(4, .ref (ad e2)), (0, .ref (ad 0)), (1, .int a1), (2, .int a2), (3, .int a3)]) hx hb dX5_face_5 hl (by decide) rfl (fun ls hl => ?_)
    refine lv_aload hx hb dX5_face_7 (lv_at hl 0 rfl) ?_
    refine lv_ifnonnull (tgt := 14) hx hb dX5_face_9 (by decide) ?_
    refine lv_iload_n hx hb dX5_face_14 rfl (lv_at hl 3 rfl) ?_
    refine lv_iload_n hx hb dX5_face_15 rfl (lv_at hl 4 rfl) ?_
    obtain ⟨v3, h1, h⟩ := rs_bind h
    refine rs_goI (rs_runS (As := [.int a2, .int a3]) (rest := []) C hP hS (kX5_isAim l D ad cI cJ tP tR M a2 a3 _ h1) mk_X5_isAim wd_408 rfl ⟨rfl, rfl, Nat.le_of_ble_eq_true rfl, Nat.le_of_ble_eq_true rfl⟩ rfl hl.1 (Nat.le_of_ble_eq_true rfl) dX5_face_16) hS (fun H locs hP hS => ?_)
    refine lv_if_ne (tgt := 25) hx hb dX5_face_19 (by decide) (fun cd => ?_) (fun cd => ?_)
    · have h := (if_neg cd).symm.trans h
      refine lv_aload hx hb dX5_face_25 (lv_at hl 0 rfl) ?_
      refine gfX5_59 C hP he2 dX5_face_27 ?_
      refine lv_if_ne (tgt := 36) hx hb dX5_face_30 (by decide) (fun cd => ?_) (fun cd => ?_)
      · have h := (if_neg cd).symm.trans h
        refine lv_aload_n hx hb dX5_face_36 rfl (lv_at hl 1 rfl) ?_
        refine gfX5_36 C hP dX5_face_37 ?_
        refine lv_aload hx hb dX5_face_40 (lv_at hl 0 rfl) ?_
        refine lv_iload_n hx hb dX5_face_42 rfl (lv_at hl 3 rfl) ?_
        refine lv_iload_n hx hb dX5_face_43 rfl (lv_at hl 4 rfl) ?_
        obtain ⟨v4, h1, h⟩ := rs_bind h
        refine rs_goI (rs_runV (b := 18) (As := [.ref (ad e2), .int a2, .int a3]) (rest := []) C hP hS (kX2_bitsOf l D ad cI cJ tP tR N M e2 a2 a3 he2 _ h1) mk_X2_bitsOf wd_411 (xR_18) rfl ⟨rfl, rfl, Nat.le_of_ble_eq_true rfl, Nat.le_of_ble_eq_true rfl⟩ rfl hl.1 (Nat.le_of_ble_eq_true rfl) dX5_face_44) hS (fun H locs hP hS => ?_)
        cases h
        exact hret H locs _ ls hP hS dX5_face_47
      · have h := (if_pos cd).symm.trans h
        refine lv_bipush (v := (-3 : Int32)) hx hb dX5_face_33 (by decide) ?_
        cases h
        exact hret H locs _ ls hP hS dX5_face_35
    · have h := (if_pos cd).symm.trans h
      refine lv_bipush (v := (-2 : Int32)) hx hb dX5_face_22 (by decide) ?_
      cases h
      exact hret H locs _ ls hP hS dX5_face_24
abbrev rX5_lose : Room := { frames := 3, cells := 0, slots := 0, locals := 91 }
theorem dX5_lose_0 : decode cX5_lose 0 = .ok (.iload_n 1, 1) := by decide +kernel
theorem dX5_lose_1 : decode cX5_lose 1 = .ok (.iload_n 2, 1) := by decide +kernel
theorem dX5_lose_2 : decode cX5_lose 2 = .ok (.invokestatic 139, 3) := by decide +kernel
theorem dX5_lose_5 : decode cX5_lose 5 = .ok (.ifCond .ne 6, 3) := by decide +kernel
theorem dX5_lose_8 : decode cX5_lose 8 = .ok (.bipush (-2), 2) := by decide +kernel
theorem dX5_lose_10 : decode cX5_lose 10 = .ok (.ireturn, 1) := by decide +kernel
theorem dX5_lose_11 : decode cX5_lose 11 = .ok (.aload_n 0, 1) := by decide +kernel
theorem dX5_lose_12 : decode cX5_lose 12 = .ok (.invokevirtual 112, 3) := by decide +kernel
theorem dX5_lose_15 : decode cX5_lose 15 = .ok (.ifCond .eq 6, 3) := by decide +kernel
theorem dX5_lose_18 : decode cX5_lose 18 = .ok (.bipush (-3), 2) := by decide +kernel
theorem dX5_lose_20 : decode cX5_lose 20 = .ok (.ireturn, 1) := by decide +kernel
theorem dX5_lose_21 : decode cX5_lose 21 = .ok (.aload_n 0, 1) := by decide +kernel
theorem dX5_lose_22 : decode cX5_lose 22 = .ok (.getfield 36, 3) := by decide +kernel
theorem dX5_lose_25 : decode cX5_lose 25 = .ok (.aload_n 0, 1) := by decide +kernel
theorem dX5_lose_26 : decode cX5_lose 26 = .ok (.getfield 10, 3) := by decide +kernel
theorem dX5_lose_29 : decode cX5_lose 29 = .ok (.aload_n 0, 1) := by decide +kernel
theorem dX5_lose_30 : decode cX5_lose 30 = .ok (.getfield 16, 3) := by decide +kernel
theorem dX5_lose_33 : decode cX5_lose 33 = .ok (.iload_n 1, 1) := by decide +kernel
theorem dX5_lose_34 : decode cX5_lose 34 = .ok (.iload_n 2, 1) := by decide +kernel
theorem dX5_lose_35 : decode cX5_lose 35 = .ok (.invokevirtual 146, 3) := by decide +kernel
theorem dX5_lose_38 : decode cX5_lose 38 = .ok (.ifCond .eq 7, 3) := by decide +kernel
theorem dX5_lose_41 : decode cX5_lose 41 = .ok (.iconst 1, 1) := by decide +kernel
theorem dX5_lose_42 : decode cX5_lose 42 = .ok (.goto 4, 3) := by decide +kernel
theorem dX5_lose_45 : decode cX5_lose 45 = .ok (.iconst 0, 1) := by decide +kernel
theorem dX5_lose_46 : decode cX5_lose 46 = .ok (.ireturn, 1) := by decide +kernel
set_option maxRecDepth 100000 in
set_option maxHeartbeats 4000000 in
theorem kX5_lose (l : Launch) (D : va_G) (ad : Nat → Nat) (cI cJ : ClassId) (tP tR : Nat) (N : Nat) (M : Mem) (a1 : Int32) (a2 : Int32)  (o : (Int32 × Mem)) (h : fX5_lose N M a1 a2 = some o) : qMet l D cI cJ tP tR (xA ad) (xW ad cI cJ) yX5_lose cX5_lose 3 (some .int) rX5_lose [.ref (ad 0), .int a1, .int a2] M (qQi D (xA ad) (xW ad cI cJ) o.1 o.2) := by
  refine rs_enterI (own := RX5) ⟨by decide +kernel, rfl, Nat.le_of_ble_eq_true rfl⟩ ?_
  intro p e s m args below meth c Q C hret H locs ls hP hS hl
  obtain ⟨hx, hb, -⟩ := id C
  have hl : lv_has ls 3 [(0, .ref (ad 0)), (1, .int a1), (2, .int a2)] := hl
  unfold fX5_lose at h
  refine lv_iload_n hx hb dX5_lose_0 rfl (lv_at hl 1 rfl) ?_
  refine lv_iload_n hx hb dX5_lose_1 rfl (lv_at hl 2 rfl) ?_
  obtain ⟨v1, h1, h⟩ := rs_bind h
  refine rs_goI (rs_runS (As := [.int a1, .int a2]) (rest := []) C hP hS (kX5_isAim l D ad cI cJ tP tR M a1 a2 _ h1) mk_X5_isAim wd_408 rfl ⟨rfl, rfl, Nat.le_of_ble_eq_true rfl, Nat.le_of_ble_eq_true rfl⟩ rfl hl.1 (Nat.le_of_ble_eq_true rfl) dX5_lose_2) hS (fun H locs hP hS => ?_)
  refine lv_if_ne (tgt := 11) hx hb dX5_lose_5 (by decide) (fun cd => ?_) (fun cd => ?_)
  · have h := (if_neg cd).symm.trans h
    refine lv_aload_n hx hb dX5_lose_11 rfl (lv_at hl 0 rfl) ?_
    obtain ⟨v2, h1, h⟩ := rs_bind h
    refine rs_goI (rs_runV (b := 0) (As := []) (rest := []) C hP hS (kX5_anyEmpty l D ad cI cJ tP tR M  _ h1) mk_X5_anyEmpty wd_274 (xR_0) rfl ⟨rfl, rfl, Nat.le_of_ble_eq_true rfl, Nat.le_of_ble_eq_true rfl⟩ rfl hl.1 (Nat.le_of_ble_eq_true rfl) dX5_lose_12) hS (fun H locs hP hS => ?_)
    refine lv_if_eq (tgt := 21) hx hb dX5_lose_15 (by decide) (fun cd => ?_) (fun cd => ?_)
    · have h := (if_pos cd).symm.trans h
      refine lv_aload_n hx hb dX5_lose_21 rfl (lv_at hl 0 rfl) ?_
      refine gfX5_36 C hP dX5_lose_22 ?_
      refine lv_aload_n hx hb dX5_lose_25 rfl (lv_at hl 0 rfl) ?_
      refine gfX5_10 C hP dX5_lose_26 ?_
      refine lv_aload_n hx hb dX5_lose_29 rfl (lv_at hl 0 rfl) ?_
      refine gfX5_16 C hP dX5_lose_30 ?_
      refine lv_iload_n hx hb dX5_lose_33 rfl (lv_at hl 1 rfl) ?_
      refine lv_iload_n hx hb dX5_lose_34 rfl (lv_at hl 2 rfl) ?_
      obtain ⟨⟨v4, M3⟩, h1, h⟩ := rs_bind h
      dsimp only at h
      refine rs_goI (rs_runV (b := 18) (As := [.ref (ad 1), .ref (ad 6), .int a1, .int a2]) (rest := []) C hP hS (kX2_shareRoot l D ad cI cJ tP tR N M 1 6 a1 a2 (Or.inl rfl) (Or.inr rfl) _ h1) mk_X2_shareRoot wd_420 (xR_18) rfl ⟨rfl, rfl, Nat.le_of_ble_eq_true rfl, Nat.le_of_ble_eq_true rfl⟩ rfl hl.1 (Nat.le_of_ble_eq_true rfl) dX5_lose_35) hS (fun H locs hP hS => ?_)
      refine lv_if_eq (tgt := 45) hx hb dX5_lose_38 (by decide) (fun cd => ?_) (fun cd => ?_)
      · have h := (if_pos cd).symm.trans h
        refine lv_iconst (v := (0 : Int32)) hx hb dX5_lose_45 (by decide) ?_
        cases h
        exact hret H locs _ ls hP hS dX5_lose_46
      · have h := (if_neg cd).symm.trans h
        refine lv_iconst (v := (1 : Int32)) hx hb dX5_lose_41 (by decide) ?_
        refine lv_goto (tgt := 46) hx hb dX5_lose_42 (by decide) ?_
        cases h
        exact hret H locs _ ls hP hS dX5_lose_46
    · have h := (if_neg cd).symm.trans h
      refine lv_bipush (v := (-3 : Int32)) hx hb dX5_lose_18 (by decide) ?_
      cases h
      exact hret H locs _ ls hP hS dX5_lose_20
  · have h := (if_pos cd).symm.trans h
    refine lv_bipush (v := (-2 : Int32)) hx hb dX5_lose_8 (by decide) ?_
    cases h
    exact hret H locs _ ls hP hS dX5_lose_10
abbrev rX5_losesSomewhere : Room := { frames := 3, cells := 0, slots := 0, locals := 91 }
theorem dX5_losesSomewhere_0 : decode cX5_losesSomewhere 0 = .ok (.bipush (-6), 2) := by decide +kernel
theorem dX5_losesSomewhere_2 : decode cX5_losesSomewhere 2 = .ok (.istore_n 1, 1) := by decide +kernel
theorem dX5_losesSomewhere_3 : decode cX5_losesSomewhere 3 = .ok (.iload_n 1, 1) := by decide +kernel
theorem dX5_losesSomewhere_4 : decode cX5_losesSomewhere 4 = .ok (.bipush 6, 2) := by decide +kernel
theorem dX5_losesSomewhere_6 : decode cX5_losesSomewhere 6 = .ok (.if_icmp .gt 55, 3) := by decide +kernel
theorem dX5_losesSomewhere_9 : decode cX5_losesSomewhere 9 = .ok (.bipush (-6), 2) := by decide +kernel
theorem dX5_losesSomewhere_11 : decode cX5_losesSomewhere 11 = .ok (.istore_n 2, 1) := by decide +kernel
theorem dX5_losesSomewhere_12 : decode cX5_losesSomewhere 12 = .ok (.iload_n 2, 1) := by decide +kernel
theorem dX5_losesSomewhere_13 : decode cX5_losesSomewhere 13 = .ok (.bipush 6, 2) := by decide +kernel
theorem dX5_losesSomewhere_15 : decode cX5_losesSomewhere 15 = .ok (.if_icmp .gt 40, 3) := by decide +kernel
theorem dX5_losesSomewhere_18 : decode cX5_losesSomewhere 18 = .ok (.iload_n 1, 1) := by decide +kernel
theorem dX5_losesSomewhere_19 : decode cX5_losesSomewhere 19 = .ok (.iload_n 2, 1) := by decide +kernel
theorem dX5_losesSomewhere_20 : decode cX5_losesSomewhere 20 = .ok (.invokestatic 183, 3) := by decide +kernel
theorem dX5_losesSomewhere_23 : decode cX5_losesSomewhere 23 = .ok (.iconst 1, 1) := by decide +kernel
theorem dX5_losesSomewhere_24 : decode cX5_losesSomewhere 24 = .ok (.if_icmp .ne 25, 3) := by decide +kernel
theorem dX5_losesSomewhere_27 : decode cX5_losesSomewhere 27 = .ok (.aload_n 0, 1) := by decide +kernel
theorem dX5_losesSomewhere_28 : decode cX5_losesSomewhere 28 = .ok (.getfield 36, 3) := by decide +kernel
theorem dX5_losesSomewhere_31 : decode cX5_losesSomewhere 31 = .ok (.aload_n 0, 1) := by decide +kernel
theorem dX5_losesSomewhere_32 : decode cX5_losesSomewhere 32 = .ok (.getfield 10, 3) := by decide +kernel
theorem dX5_losesSomewhere_35 : decode cX5_losesSomewhere 35 = .ok (.aload_n 0, 1) := by decide +kernel
theorem dX5_losesSomewhere_36 : decode cX5_losesSomewhere 36 = .ok (.getfield 16, 3) := by decide +kernel
theorem dX5_losesSomewhere_39 : decode cX5_losesSomewhere 39 = .ok (.iload_n 1, 1) := by decide +kernel
theorem dX5_losesSomewhere_40 : decode cX5_losesSomewhere 40 = .ok (.iload_n 2, 1) := by decide +kernel
theorem dX5_losesSomewhere_41 : decode cX5_losesSomewhere 41 = .ok (.invokevirtual 146, 3) := by decide +kernel
theorem dX5_losesSomewhere_44 : decode cX5_losesSomewhere 44 = .ok (.ifCond .eq 5, 3) := by decide +kernel
theorem dX5_losesSomewhere_47 : decode cX5_losesSomewhere 47 = .ok (.iconst 1, 1) := by decide +kernel
theorem dX5_losesSomewhere_48 : decode cX5_losesSomewhere 48 = .ok (.ireturn, 1) := by decide +kernel
theorem dX5_losesSomewhere_49 : decode cX5_losesSomewhere 49 = .ok (.iinc 2 1, 3) := by decide +kernel
theorem dX5_losesSomewhere_52 : decode cX5_losesSomewhere 52 = .ok (.goto (-40), 3) := by decide +kernel
theorem dX5_losesSomewhere_55 : decode cX5_losesSomewhere 55 = .ok (.iinc 1 1, 3) := by decide +kernel
theorem dX5_losesSomewhere_58 : decode cX5_losesSomewhere 58 = .ok (.goto (-55), 3) := by decide +kernel
theorem dX5_losesSomewhere_61 : decode cX5_losesSomewhere 61 = .ok (.iconst 0, 1) := by decide +kernel
theorem dX5_losesSomewhere_62 : decode cX5_losesSomewhere 62 = .ok (.ireturn, 1) := by decide +kernel
set_option maxRecDepth 100000 in
set_option maxHeartbeats 4000000 in
theorem kX5_losesSomewhere (l : Launch) (D : va_G) (ad : Nat → Nat) (cI cJ : ClassId) (tP tR : Nat) (N : Nat) (M : Mem)   (o : (Int32 × Mem)) (h : fX5_losesSomewhere N M  = some o) : qMet l D cI cJ tP tR (xA ad) (xW ad cI cJ) yX5_losesSomewhere cX5_losesSomewhere 3 (some .boolean) rX5_losesSomewhere [.ref (ad 0)] M (qQi D (xA ad) (xW ad cI cJ) o.1 o.2) := by
  refine rs_enterZ (own := RX5) ⟨by decide +kernel, rfl, Nat.le_of_ble_eq_true rfl⟩ ?_
  intro p e s m args below meth c Q C hret H locs ls hP hS hl
  obtain ⟨hx, hb, -⟩ := id C
  have hl : lv_has ls 3 [(0, .ref (ad 0))] := hl
  unfold fX5_losesSomewhere at h
  refine lv_bipush (v := (-6 : Int32)) hx hb dX5_losesSomewhere_0 (by decide) ?_
  refine lv_istore_n (lv' := [(1, .int (-6 : Int32)), (0, .ref (ad 0))]) hx hb dX5_losesSomewhere_2 rfl hl (by decide) rfl (fun ls hl => ?_)
  have hL3 : ∀ (n3 : Nat) (v1 : Int32) (M2 : Mem) (H : Heap) (locs : List Loc) (ls : Array Slot), va_P D vwCl (xW ad cI cJ M2) H → va_S (xA ad) s.heap H locs → lv_has ls 3 [(0, .ref (ad 0)), (1, .int v1)] → lp (fun _ _ => none) (sX5_losesSomewhere_3 N) n3 v1 M2 = some o → W p l e rX5_losesSomewhere s m args below meth c H locs 0 0 Q (F0 m 3 ls []) := by
    intro n3
    induction n3 with
    | zero => intro v1 M2 H locs ls hP hS hl h; have h : (none : Option (Int32 × Mem)) = some o := h; cases h
    | succ n3 ih3 =>
      intro v1 M2 H locs ls hP hS hl h
      have h : sX5_losesSomewhere_3 N (lp (fun _ _ => none) (sX5_losesSomewhere_3 N) n3) v1 M2 = some o := h
      generalize lp (fun _ _ => none) (sX5_losesSomewhere_3 N) n3 = cont3 at h ih3
      unfold sX5_losesSomewhere_3 at h
      refine lv_iload_n hx hb dX5_losesSomewhere_3 rfl (lv_at hl 1 rfl) ?_
      refine lv_bipush (v := (6 : Int32)) hx hb dX5_losesSomewhere_4 (by decide) ?_
      refine lv_icmp_gt (tgt := 61) hx hb dX5_losesSomewhere_6 (by decide) (fun cd => ?_) (fun cd => ?_)
      · have h := (if_pos cd).symm.trans h
        refine lv_iconst (v := (0 : Int32)) hx hb dX5_losesSomewhere_61 (by decide) ?_
        obtain ⟨rfl, hz⟩ := rs_okZM h
        exact hret H locs _ ls hz hP hS dX5_losesSomewhere_62
      · have h := (if_neg cd).symm.trans h
        refine lv_bipush (v := (-6 : Int32)) hx hb dX5_losesSomewhere_9 (by decide) ?_
        refine lv_istore_n (lv' := [(2, .int (-6 : Int32)), (0, .ref (ad 0)), (1, .int v1)]) hx hb dX5_losesSomewhere_11 rfl hl (by decide) rfl (fun ls hl => ?_)
        have hL12 : ∀ (n12 : Nat) (v3 : Int32) (M4 : Mem) (H : Heap) (locs : List Loc) (ls : Array Slot), va_P D vwCl (xW ad cI cJ M4) H → va_S (xA ad) s.heap H locs → lv_has ls 3 [(0, .ref (ad 0)), (1, .int v1), (2, .int v3)] → lp (fun _ _ => none) (sX5_losesSomewhere_12 cont3 v1 N) n12 v3 M4 = some o → W p l e rX5_losesSomewhere s m args below meth c H locs 0 0 Q (F0 m 12 ls []) := by
          intro n12
          induction n12 with
          | zero => intro v3 M4 H locs ls hP hS hl h; have h : (none : Option (Int32 × Mem)) = some o := h; cases h
          | succ n12 ih12 =>
            intro v3 M4 H locs ls hP hS hl h
            have h : sX5_losesSomewhere_12 cont3 v1 N (lp (fun _ _ => none) (sX5_losesSomewhere_12 cont3 v1 N) n12) v3 M4 = some o := h
            generalize lp (fun _ _ => none) (sX5_losesSomewhere_12 cont3 v1 N) n12 = cont12 at h ih12
            unfold sX5_losesSomewhere_12 at h
            refine lv_iload_n hx hb dX5_losesSomewhere_12 rfl (lv_at hl 2 rfl) ?_
            refine lv_bipush (v := (6 : Int32)) hx hb dX5_losesSomewhere_13 (by decide) ?_
            refine lv_icmp_gt (tgt := 55) hx hb dX5_losesSomewhere_15 (by decide) (fun cd => ?_) (fun cd => ?_)
            · have h := (if_pos cd).symm.trans h
              refine lv_iinc (v := (v1 + 1)) (lv' := [(1, .int (v1 + 1)), (0, .ref (ad 0)), (2, .int v3)]) hx hb dX5_losesSomewhere_55 hl (k := 1) rfl rfl (by decide) rfl (fun ls hl => ?_)
              refine lv_goto (tgt := 3) hx hb dX5_losesSomewhere_58 (by decide) ?_
              exact ih3 _ _ H locs ls hP hS (lv_sub hl [1, 0] rfl) h
            · have h := (if_neg cd).symm.trans h
              refine lv_iload_n hx hb dX5_losesSomewhere_18 rfl (lv_at hl 1 rfl) ?_
              refine lv_iload_n hx hb dX5_losesSomewhere_19 rfl (lv_at hl 2 rfl) ?_
              obtain ⟨v5, h1, h⟩ := rs_bind h
              refine rs_goI (rs_runS (As := [.int v1, .int v3]) (rest := []) C hP hS (kX5_commonPart l D ad cI cJ tP tR N M4 v1 v3 _ h1) mk_X5_commonPart wd_465 rfl ⟨rfl, rfl, Nat.le_of_ble_eq_true rfl, Nat.le_of_ble_eq_true rfl⟩ rfl hl.1 (Nat.le_of_ble_eq_true rfl) dX5_losesSomewhere_20) hS (fun H locs hP hS => ?_)
              refine lv_iconst (v := (1 : Int32)) hx hb dX5_losesSomewhere_23 (by decide) ?_
              refine lv_icmp_ne (tgt := 49) hx hb dX5_losesSomewhere_24 (by decide) (fun cd => ?_) (fun cd => ?_)
              · have h := (if_neg cd).symm.trans h
                refine lv_iinc (v := (v3 + 1)) (lv' := [(2, .int (v3 + 1)), (0, .ref (ad 0)), (1, .int v1)]) hx hb dX5_losesSomewhere_49 hl (k := 2) rfl rfl (by decide) rfl (fun ls hl => ?_)
                refine lv_goto (tgt := 12) hx hb dX5_losesSomewhere_52 (by decide) ?_
                exact ih12 _ _ H locs ls hP hS (lv_sub hl [1, 2, 0] rfl) h
              · have h := (if_pos cd).symm.trans h
                refine lv_aload_n hx hb dX5_losesSomewhere_27 rfl (lv_at hl 0 rfl) ?_
                refine gfX5_36 C hP dX5_losesSomewhere_28 ?_
                refine lv_aload_n hx hb dX5_losesSomewhere_31 rfl (lv_at hl 0 rfl) ?_
                refine gfX5_10 C hP dX5_losesSomewhere_32 ?_
                refine lv_aload_n hx hb dX5_losesSomewhere_35 rfl (lv_at hl 0 rfl) ?_
                refine gfX5_16 C hP dX5_losesSomewhere_36 ?_
                refine lv_iload_n hx hb dX5_losesSomewhere_39 rfl (lv_at hl 1 rfl) ?_
                refine lv_iload_n hx hb dX5_losesSomewhere_40 rfl (lv_at hl 2 rfl) ?_
                obtain ⟨⟨v7, M6⟩, h1, h⟩ := rs_bind h
                dsimp only at h
                refine rs_goI (rs_runV (b := 18) (As := [.ref (ad 1), .ref (ad 6), .int v1, .int v3]) (rest := []) C hP hS (kX2_shareRoot l D ad cI cJ tP tR N M4 1 6 v1 v3 (Or.inl rfl) (Or.inr rfl) _ h1) mk_X2_shareRoot wd_420 (xR_18) rfl ⟨rfl, rfl, Nat.le_of_ble_eq_true rfl, Nat.le_of_ble_eq_true rfl⟩ rfl hl.1 (Nat.le_of_ble_eq_true rfl) dX5_losesSomewhere_41) hS (fun H locs hP hS => ?_)
                refine lv_if_eq (tgt := 49) hx hb dX5_losesSomewhere_44 (by decide) (fun cd => ?_) (fun cd => ?_)
                · have h := (if_pos cd).symm.trans h
                  refine lv_iinc (v := (v3 + 1)) (lv' := [(2, .int (v3 + 1)), (0, .ref (ad 0)), (1, .int v1)]) hx hb dX5_losesSomewhere_49 hl (k := 2) rfl rfl (by decide) rfl (fun ls hl => ?_)
                  refine lv_goto (tgt := 12) hx hb dX5_losesSomewhere_52 (by decide) ?_
                  exact ih12 _ _ H locs ls hP hS (lv_sub hl [1, 2, 0] rfl) h
                · have h := (if_neg cd).symm.trans h
                  refine lv_iconst (v := (1 : Int32)) hx hb dX5_losesSomewhere_47 (by decide) ?_
                  obtain ⟨rfl, hz⟩ := rs_okZM h
                  exact hret H locs _ ls hz hP hS dX5_losesSomewhere_48
        exact hL12 N _ _ H locs ls hP hS (lv_sub hl [1, 2, 0] rfl) h
  exact hL3 N _ _ H locs ls hP hS (lv_sub hl [1, 0] rfl) h
abbrev rX5_keep : Room := { frames := 7, cells := 0, slots := 0, locals := 157 }
theorem dX5_keep_0 : decode cX5_keep 0 = .ok (.aload_n 0, 1) := by decide +kernel
theorem dX5_keep_1 : decode cX5_keep 1 = .ok (.invokevirtual 112, 3) := by decide +kernel
theorem dX5_keep_4 : decode cX5_keep 4 = .ok (.ifCond .eq 6, 3) := by decide +kernel
theorem dX5_keep_7 : decode cX5_keep 7 = .ok (.bipush (-3), 2) := by decide +kernel
theorem dX5_keep_9 : decode cX5_keep 9 = .ok (.ireturn, 1) := by decide +kernel
theorem dX5_keep_10 : decode cX5_keep 10 = .ok (.aload_n 0, 1) := by decide +kernel
theorem dX5_keep_11 : decode cX5_keep 11 = .ok (.iconst 2, 1) := by decide +kernel
theorem dX5_keep_12 : decode cX5_keep 12 = .ok (.invokevirtual 116, 3) := by decide +kernel
theorem dX5_keep_15 : decode cX5_keep 15 = .ok (.ifCond .ne 6, 3) := by decide +kernel
theorem dX5_keep_18 : decode cX5_keep 18 = .ok (.bipush (-5), 2) := by decide +kernel
theorem dX5_keep_20 : decode cX5_keep 20 = .ok (.ireturn, 1) := by decide +kernel
theorem dX5_keep_21 : decode cX5_keep 21 = .ok (.aload_n 0, 1) := by decide +kernel
theorem dX5_keep_22 : decode cX5_keep 22 = .ok (.invokevirtual 150, 3) := by decide +kernel
theorem dX5_keep_25 : decode cX5_keep 25 = .ok (.ifCond .eq 7, 3) := by decide +kernel
theorem dX5_keep_28 : decode cX5_keep 28 = .ok (.iconst 0, 1) := by decide +kernel
theorem dX5_keep_29 : decode cX5_keep 29 = .ok (.goto 4, 3) := by decide +kernel
theorem dX5_keep_32 : decode cX5_keep 32 = .ok (.iconst 1, 1) := by decide +kernel
theorem dX5_keep_33 : decode cX5_keep 33 = .ok (.ireturn, 1) := by decide +kernel
set_option maxRecDepth 100000 in
set_option maxHeartbeats 4000000 in
theorem kX5_keep (l : Launch) (D : va_G) (ad : Nat → Nat) (cI cJ : ClassId) (tP tR : Nat) (N : Nat) (M : Mem)   (o : (Int32 × Mem)) (h : fX5_keep N M  = some o) : qMet l D cI cJ tP tR (xA ad) (xW ad cI cJ) yX5_keep cX5_keep 1 (some .int) rX5_keep [.ref (ad 0)] M (qQi D (xA ad) (xW ad cI cJ) o.1 o.2) := by
  refine rs_enterI (own := RX5) ⟨by decide +kernel, rfl, Nat.le_of_ble_eq_true rfl⟩ ?_
  intro p e s m args below meth c Q C hret H locs ls hP hS hl
  obtain ⟨hx, hb, -⟩ := id C
  have hl : lv_has ls 1 [(0, .ref (ad 0))] := hl
  unfold fX5_keep at h
  refine lv_aload_n hx hb dX5_keep_0 rfl (lv_at hl 0 rfl) ?_
  obtain ⟨v1, h1, h⟩ := rs_bind h
  refine rs_goI (rs_runV (b := 0) (As := []) (rest := []) C hP hS (kX5_anyEmpty l D ad cI cJ tP tR M  _ h1) mk_X5_anyEmpty wd_274 (xR_0) rfl ⟨rfl, rfl, Nat.le_of_ble_eq_true rfl, Nat.le_of_ble_eq_true rfl⟩ rfl hl.1 (Nat.le_of_ble_eq_true rfl) dX5_keep_1) hS (fun H locs hP hS => ?_)
  refine lv_if_eq (tgt := 10) hx hb dX5_keep_4 (by decide) (fun cd => ?_) (fun cd => ?_)
  · have h := (if_pos cd).symm.trans h
    refine lv_aload_n hx hb dX5_keep_10 rfl (lv_at hl 0 rfl) ?_
    refine lv_iconst (v := (2 : Int32)) hx hb dX5_keep_11 (by decide) ?_
    obtain ⟨⟨v3, M2⟩, h1, h⟩ := rs_bind h
    dsimp only at h
    refine rs_goI (rs_runV (b := 0) (As := [.int (2 : Int32)]) (rest := []) C hP hS (kX5_areaOf l D ad cI cJ tP tR N M (2 : Int32) _ h1) mk_X5_areaOf wd_347 (xR_0) rfl ⟨rfl, rfl, Nat.le_of_ble_eq_true rfl, Nat.le_of_ble_eq_true rfl⟩ rfl hl.1 (Nat.le_of_ble_eq_true rfl) dX5_keep_12) hS (fun H locs hP hS => ?_)
    refine lv_if_ne (tgt := 21) hx hb dX5_keep_15 (by decide) (fun cd => ?_) (fun cd => ?_)
    · have h := (if_neg cd).symm.trans h
      refine lv_aload_n hx hb dX5_keep_21 rfl (lv_at hl 0 rfl) ?_
      obtain ⟨⟨v6, M5⟩, h1, h⟩ := rs_bind h
      dsimp only at h
      refine rs_goI (rs_runV (b := 0) (As := []) (rest := []) C hP hS (kX5_losesSomewhere l D ad cI cJ tP tR N M2  _ h1) mk_X5_losesSomewhere wd_461 (xR_0) rfl ⟨rfl, rfl, Nat.le_of_ble_eq_true rfl, Nat.le_of_ble_eq_true rfl⟩ rfl hl.1 (Nat.le_of_ble_eq_true rfl) dX5_keep_22) hS (fun H locs hP hS => ?_)
      refine lv_if_eq (tgt := 32) hx hb dX5_keep_25 (by decide) (fun cd => ?_) (fun cd => ?_)
      · have h := (if_pos cd).symm.trans h
        refine lv_iconst (v := (1 : Int32)) hx hb dX5_keep_32 (by decide) ?_
        cases h
        exact hret H locs _ ls hP hS dX5_keep_33
      · have h := (if_neg cd).symm.trans h
        refine lv_iconst (v := (0 : Int32)) hx hb dX5_keep_28 (by decide) ?_
        refine lv_goto (tgt := 33) hx hb dX5_keep_29 (by decide) ?_
        cases h
        exact hret H locs _ ls hP hS dX5_keep_33
    · have h := (if_pos cd).symm.trans h
      refine lv_bipush (v := (-5 : Int32)) hx hb dX5_keep_18 (by decide) ?_
      cases h
      exact hret H locs _ ls hP hS dX5_keep_20
  · have h := (if_neg cd).symm.trans h
    refine lv_bipush (v := (-3 : Int32)) hx hb dX5_keep_7 (by decide) ?_
    cases h
    exact hret H locs _ ls hP hS dX5_keep_9
abbrev rX5_realAnswers : Room := { frames := 2, cells := 0, slots := 0, locals := 46 }
theorem dX5_realAnswers_0 : decode cX5_realAnswers 0 = .ok (.iconst 0, 1) := by decide +kernel
theorem dX5_realAnswers_1 : decode cX5_realAnswers 1 = .ok (.istore_n 1, 1) := by decide +kernel
theorem dX5_realAnswers_2 : decode cX5_realAnswers 2 = .ok (.iconst 0, 1) := by decide +kernel
theorem dX5_realAnswers_3 : decode cX5_realAnswers 3 = .ok (.istore_n 2, 1) := by decide +kernel
theorem dX5_realAnswers_4 : decode cX5_realAnswers 4 = .ok (.iload_n 2, 1) := by decide +kernel
theorem dX5_realAnswers_5 : decode cX5_realAnswers 5 = .ok (.iconst 4, 1) := by decide +kernel
theorem dX5_realAnswers_6 : decode cX5_realAnswers 6 = .ok (.if_icmp .ge 63, 3) := by decide +kernel
theorem dX5_realAnswers_9 : decode cX5_realAnswers 9 = .ok (.iload_n 2, 1) := by decide +kernel
theorem dX5_realAnswers_10 : decode cX5_realAnswers 10 = .ok (.iconst 1, 1) := by decide +kernel
theorem dX5_realAnswers_11 : decode cX5_realAnswers 11 = .ok (.iand, 1) := by decide +kernel
theorem dX5_realAnswers_12 : decode cX5_realAnswers 12 = .ok (.ifCond .eq 7, 3) := by decide +kernel
theorem dX5_realAnswers_15 : decode cX5_realAnswers 15 = .ok (.iconst 1, 1) := by decide +kernel
theorem dX5_realAnswers_16 : decode cX5_realAnswers 16 = .ok (.goto 4, 3) := by decide +kernel
theorem dX5_realAnswers_19 : decode cX5_realAnswers 19 = .ok (.iconst 0, 1) := by decide +kernel
theorem dX5_realAnswers_20 : decode cX5_realAnswers 20 = .ok (.istore_n 3, 1) := by decide +kernel
theorem dX5_realAnswers_21 : decode cX5_realAnswers 21 = .ok (.iload_n 2, 1) := by decide +kernel
theorem dX5_realAnswers_22 : decode cX5_realAnswers 22 = .ok (.iconst 2, 1) := by decide +kernel
theorem dX5_realAnswers_23 : decode cX5_realAnswers 23 = .ok (.iand, 1) := by decide +kernel
theorem dX5_realAnswers_24 : decode cX5_realAnswers 24 = .ok (.ifCond .eq 7, 3) := by decide +kernel
theorem dX5_realAnswers_27 : decode cX5_realAnswers 27 = .ok (.iconst 1, 1) := by decide +kernel
theorem dX5_realAnswers_28 : decode cX5_realAnswers 28 = .ok (.goto 4, 3) := by decide +kernel
theorem dX5_realAnswers_31 : decode cX5_realAnswers 31 = .ok (.iconst 0, 1) := by decide +kernel
theorem dX5_realAnswers_32 : decode cX5_realAnswers 32 = .ok (.istore 4, 2) := by decide +kernel
theorem dX5_realAnswers_34 : decode cX5_realAnswers 34 = .ok (.aload_n 0, 1) := by decide +kernel
theorem dX5_realAnswers_35 : decode cX5_realAnswers 35 = .ok (.getfield 10, 3) := by decide +kernel
theorem dX5_realAnswers_38 : decode cX5_realAnswers 38 = .ok (.iload_n 3, 1) := by decide +kernel
theorem dX5_realAnswers_39 : decode cX5_realAnswers 39 = .ok (.iload 4, 2) := by decide +kernel
theorem dX5_realAnswers_41 : decode cX5_realAnswers 41 = .ok (.invokevirtual 186, 3) := by decide +kernel
theorem dX5_realAnswers_44 : decode cX5_realAnswers 44 = .ok (.ifCond .eq 19, 3) := by decide +kernel
theorem dX5_realAnswers_47 : decode cX5_realAnswers 47 = .ok (.aload_n 0, 1) := by decide +kernel
theorem dX5_realAnswers_48 : decode cX5_realAnswers 48 = .ok (.getfield 16, 3) := by decide +kernel
theorem dX5_realAnswers_51 : decode cX5_realAnswers 51 = .ok (.iload_n 3, 1) := by decide +kernel
theorem dX5_realAnswers_52 : decode cX5_realAnswers 52 = .ok (.iload 4, 2) := by decide +kernel
theorem dX5_realAnswers_54 : decode cX5_realAnswers 54 = .ok (.invokevirtual 186, 3) := by decide +kernel
theorem dX5_realAnswers_57 : decode cX5_realAnswers 57 = .ok (.ifCond .eq 6, 3) := by decide +kernel
theorem dX5_realAnswers_60 : decode cX5_realAnswers 60 = .ok (.iinc 1 1, 3) := by decide +kernel
theorem dX5_realAnswers_63 : decode cX5_realAnswers 63 = .ok (.iinc 2 1, 3) := by decide +kernel
theorem dX5_realAnswers_66 : decode cX5_realAnswers 66 = .ok (.goto (-62), 3) := by decide +kernel
theorem dX5_realAnswers_69 : decode cX5_realAnswers 69 = .ok (.iload_n 1, 1) := by decide +kernel
theorem dX5_realAnswers_70 : decode cX5_realAnswers 70 = .ok (.ireturn, 1) := by decide +kernel
set_option maxRecDepth 100000 in
set_option maxHeartbeats 4000000 in
theorem kX5_realAnswers (l : Launch) (D : va_G) (ad : Nat → Nat) (cI cJ : ClassId) (tP tR : Nat) (N : Nat) (M : Mem)   (o : Int32) (h : fX5_realAnswers N M  = some o) : qMet l D cI cJ tP tR (xA ad) (xW ad cI cJ) yX5_realAnswers cX5_realAnswers 5 (some .int) rX5_realAnswers [.ref (ad 0)] M (qQi D (xA ad) (xW ad cI cJ) o M) := by
  refine rs_enterI (own := RX5) ⟨by decide +kernel, rfl, Nat.le_of_ble_eq_true rfl⟩ ?_
  intro p e s m args below meth c Q C hret H locs ls hP hS hl
  obtain ⟨hx, hb, -⟩ := id C
  have hl : lv_has ls 5 [(0, .ref (ad 0))] := hl
  unfold fX5_realAnswers at h
  refine lv_iconst (v := (0 : Int32)) hx hb dX5_realAnswers_0 (by decide) ?_
  refine lv_istore_n (lv' := [(1, .int (0 : Int32)), (0, .ref (ad 0))]) hx hb dX5_realAnswers_1 rfl hl (by decide) rfl (fun ls hl => ?_)
  refine lv_iconst (v := (0 : Int32)) hx hb dX5_realAnswers_2 (by decide) ?_
  refine lv_istore_n (lv' := [(2, .int (0 : Int32)), (1, .int (0 : Int32)), (0, .ref (ad 0))]) hx hb dX5_realAnswers_3 rfl hl (by decide) rfl (fun ls hl => ?_)
  have hL4 : ∀ (n4 : Nat) (v1 : Int32) (v2 : Int32) (H : Heap) (locs : List Loc) (ls : Array Slot), va_P D vwCl (xW ad cI cJ M) H → va_S (xA ad) s.heap H locs → lv_has ls 5 [(0, .ref (ad 0)), (1, .int v1), (2, .int v2)] → lp (fun _ _ => none) (sX5_realAnswers_4 M) n4 v1 v2 = some o → W p l e rX5_realAnswers s m args below meth c H locs 0 0 Q (F0 m 4 ls []) := by
    intro n4
    induction n4 with
    | zero => intro v1 v2 H locs ls hP hS hl h; have h : (none : Option Int32) = some o := h; cases h
    | succ n4 ih4 =>
      intro v1 v2 H locs ls hP hS hl h
      have h : sX5_realAnswers_4 M (lp (fun _ _ => none) (sX5_realAnswers_4 M) n4) v1 v2 = some o := h
      generalize lp (fun _ _ => none) (sX5_realAnswers_4 M) n4 = cont4 at h ih4
      unfold sX5_realAnswers_4 at h
      refine lv_iload_n hx hb dX5_realAnswers_4 rfl (lv_at hl 2 rfl) ?_
      refine lv_iconst (v := (4 : Int32)) hx hb dX5_realAnswers_5 (by decide) ?_
      refine lv_icmp_ge (tgt := 69) hx hb dX5_realAnswers_6 (by decide) (fun cd => ?_) (fun cd => ?_)
      · have h := (if_pos cd).symm.trans h
        refine lv_iload_n hx hb dX5_realAnswers_69 rfl (lv_at hl 1 rfl) ?_
        cases h
        exact hret H locs _ ls hP hS dX5_realAnswers_70
      · have h := (if_neg cd).symm.trans h
        refine lv_iload_n hx hb dX5_realAnswers_9 rfl (lv_at hl 2 rfl) ?_
        refine lv_iconst (v := (1 : Int32)) hx hb dX5_realAnswers_10 (by decide) ?_
        refine lv_iand hx hb dX5_realAnswers_11 ?_
        obtain ⟨v3, h1, h⟩ := rs_bind h
        have hJ10 : ∀ (H : Heap) (locs : List Loc) (ls : Array Slot), va_P D vwCl (xW ad cI cJ M) H → va_S (xA ad) s.heap H locs → lv_has ls 5 [(0, .ref (ad 0)), (1, .int v1), (2, .int v2)] → W p l e rX5_realAnswers s m args below meth c H locs 0 0 Q (F0 m 20 ls [.int v3]) := by
          intro H locs ls hP hS hl
          refine lv_istore_n (lv' := [(3, .int v3), (0, .ref (ad 0)), (1, .int v1), (2, .int v2)]) hx hb dX5_realAnswers_20 rfl hl (by decide) rfl (fun ls hl => ?_)
          refine lv_iload_n hx hb dX5_realAnswers_21 rfl (lv_at hl 3 rfl) ?_
          refine lv_iconst (v := (2 : Int32)) hx hb dX5_realAnswers_22 (by decide) ?_
          refine lv_iand hx hb dX5_realAnswers_23 ?_
          obtain ⟨v4, h1, h⟩ := rs_bind h
          have hJ9 : ∀ (H : Heap) (locs : List Loc) (ls : Array Slot), va_P D vwCl (xW ad cI cJ M) H → va_S (xA ad) s.heap H locs → lv_has ls 5 [(0, .ref (ad 0)), (1, .int v1), (2, .int v2), (3, .int v3)] → W p l e rX5_realAnswers s m args below meth c H locs 0 0 Q (F0 m 32 ls [.int v4]) := by
            intro H locs ls hP hS hl
            refine lv_istore (lv' := [(4, .int v4), (0, .ref (ad 0)), (1, .int v1), (2, .int v2), (3, .int v3)]) hx hb dX5_realAnswers_32 hl (by decide) rfl (fun ls hl => ?_)
            refine lv_aload_n hx hb dX5_realAnswers_34 rfl (lv_at hl 1 rfl) ?_
            refine gfX5_10 C hP dX5_realAnswers_35 ?_
            refine lv_iload_n hx hb dX5_realAnswers_38 rfl (lv_at hl 4 rfl) ?_
            refine lv_iload hx hb dX5_realAnswers_39 (lv_at hl 0 rfl) ?_
            obtain ⟨v5, h1, h⟩ := rs_bind h
            refine rs_goI (rs_runV (b := 1) (As := [.int v3, .int v4]) (rest := []) C hP hS (kX0_signsDiffer l D ad cI cJ tP tR M 1 v3 v4 (Or.inl rfl) _ h1) mk_X0_signsDiffer wd_475 (xR_eq (Or.inl rfl)) rfl ⟨rfl, rfl, Nat.le_of_ble_eq_true rfl, Nat.le_of_ble_eq_true rfl⟩ rfl hl.1 (Nat.le_of_ble_eq_true rfl) dX5_realAnswers_41) hS (fun H locs hP hS => ?_)
            obtain ⟨v6, h1, h⟩ := rs_bind h
            have hJ7 : ∀ (H : Heap) (locs : List Loc) (ls : Array Slot), va_P D vwCl (xW ad cI cJ M) H → va_S (xA ad) s.heap H locs → lv_has ls 5 [(0, .ref (ad 0)), (1, .int v6), (2, .int v2)] → W p l e rX5_realAnswers s m args below meth c H locs 0 0 Q (F0 m 63 ls []) := by
              intro H locs ls hP hS hl
              refine lv_iinc (v := (v2 + 1)) (lv' := [(2, .int (v2 + 1)), (0, .ref (ad 0)), (1, .int v6)]) hx hb dX5_realAnswers_63 hl (k := 2) rfl rfl (by decide) rfl (fun ls hl => ?_)
              refine lv_goto (tgt := 4) hx hb dX5_realAnswers_66 (by decide) ?_
              exact ih4 _ _ H locs ls hP hS (lv_sub hl [1, 2, 0] rfl) h
            replace h := h1
            clear h1
            refine lv_if_eq (tgt := 63) hx hb dX5_realAnswers_44 (by decide) (fun cd => ?_) (fun cd => ?_)
            · have h := (if_pos cd).symm.trans h
              cases h
              exact hJ7 H locs ls hP hS (lv_sub hl [1, 2, 3] rfl)
            · have h := (if_neg cd).symm.trans h
              refine lv_aload_n hx hb dX5_realAnswers_47 rfl (lv_at hl 1 rfl) ?_
              refine gfX5_16 C hP dX5_realAnswers_48 ?_
              refine lv_iload_n hx hb dX5_realAnswers_51 rfl (lv_at hl 4 rfl) ?_
              refine lv_iload hx hb dX5_realAnswers_52 (lv_at hl 0 rfl) ?_
              obtain ⟨v8, h1, h⟩ := rs_bind h
              refine rs_goI (rs_runV (b := 6) (As := [.int v3, .int v4]) (rest := []) C hP hS (kX0_signsDiffer l D ad cI cJ tP tR M 6 v3 v4 (Or.inr rfl) _ h1) mk_X0_signsDiffer wd_475 (xR_eq (Or.inr rfl)) rfl ⟨rfl, rfl, Nat.le_of_ble_eq_true rfl, Nat.le_of_ble_eq_true rfl⟩ rfl hl.1 (Nat.le_of_ble_eq_true rfl) dX5_realAnswers_54) hS (fun H locs hP hS => ?_)
              refine lv_if_eq (tgt := 63) hx hb dX5_realAnswers_57 (by decide) (fun cd => ?_) (fun cd => ?_)
              · have h := (if_pos cd).symm.trans h
                cases h
                exact hJ7 H locs ls hP hS (lv_sub hl [1, 2, 3] rfl)
              · have h := (if_neg cd).symm.trans h
                refine lv_iinc (v := (v1 + 1)) (lv' := [(1, .int (v1 + 1)), (4, .int v4), (0, .ref (ad 0)), (2, .int v2), (3, .int v3)]) hx hb dX5_realAnswers_60 hl (k := 2) rfl rfl (by decide) rfl (fun ls hl => ?_)
                cases h
                exact hJ7 H locs ls hP hS (lv_sub hl [2, 0, 3] rfl)
          replace h := h1
          clear h1
          refine lv_if_eq (tgt := 31) hx hb dX5_realAnswers_24 (by decide) (fun cd => ?_) (fun cd => ?_)
          · have h := (if_pos cd).symm.trans h
            refine lv_iconst (v := (0 : Int32)) hx hb dX5_realAnswers_31 (by decide) ?_
            cases h
            exact hJ9 H locs ls hP hS (lv_sub hl [1, 2, 3, 0] rfl)
          · have h := (if_neg cd).symm.trans h
            refine lv_iconst (v := (1 : Int32)) hx hb dX5_realAnswers_27 (by decide) ?_
            refine lv_goto (tgt := 32) hx hb dX5_realAnswers_28 (by decide) ?_
            cases h
            exact hJ9 H locs ls hP hS (lv_sub hl [1, 2, 3, 0] rfl)
        replace h := h1
        clear h1
        refine lv_if_eq (tgt := 19) hx hb dX5_realAnswers_12 (by decide) (fun cd => ?_) (fun cd => ?_)
        · have h := (if_pos cd).symm.trans h
          refine lv_iconst (v := (0 : Int32)) hx hb dX5_realAnswers_19 (by decide) ?_
          cases h
          exact hJ10 H locs ls hP hS (lv_sub hl [0, 1, 2] rfl)
        · have h := (if_neg cd).symm.trans h
          refine lv_iconst (v := (1 : Int32)) hx hb dX5_realAnswers_15 (by decide) ?_
          refine lv_goto (tgt := 20) hx hb dX5_realAnswers_16 (by decide) ?_
          cases h
          exact hJ10 H locs ls hP hS (lv_sub hl [0, 1, 2] rfl)
  exact hL4 N _ _ H locs ls hP hS (lv_sub hl [2, 1, 0] rfl) h
abbrev rX5_two : Room := { frames := 3, cells := 0, slots := 0, locals := 70 }
theorem dX5_two_0 : decode cX5_two 0 = .ok (.iload_n 1, 1) := by decide +kernel
theorem dX5_two_1 : decode cX5_two 1 = .ok (.iconst 0, 1) := by decide +kernel
theorem dX5_two_2 : decode cX5_two 2 = .ok (.iconst 1, 1) := by decide +kernel
theorem dX5_two_3 : decode cX5_two 3 = .ok (.invokestatic 51, 3) := by decide +kernel
theorem dX5_two_6 : decode cX5_two 6 = .ok (.ifCond .ne 7, 3) := by decide +kernel
theorem dX5_two_9 : decode cX5_two 9 = .ok (.sipush (-1002), 3) := by decide +kernel
theorem dX5_two_12 : decode cX5_two 12 = .ok (.ireturn, 1) := by decide +kernel
theorem dX5_two_13 : decode cX5_two 13 = .ok (.aload_n 0, 1) := by decide +kernel
theorem dX5_two_14 : decode cX5_two 14 = .ok (.getfield 10, 3) := by decide +kernel
theorem dX5_two_17 : decode cX5_two 17 = .ok (.getfield 59, 3) := by decide +kernel
theorem dX5_two_20 : decode cX5_two 20 = .ok (.iconst 2, 1) := by decide +kernel
theorem dX5_two_21 : decode cX5_two 21 = .ok (.if_icmp .ne 14, 3) := by decide +kernel
theorem dX5_two_24 : decode cX5_two 24 = .ok (.aload_n 0, 1) := by decide +kernel
theorem dX5_two_25 : decode cX5_two 25 = .ok (.getfield 16, 3) := by decide +kernel
theorem dX5_two_28 : decode cX5_two 28 = .ok (.getfield 59, 3) := by decide +kernel
theorem dX5_two_31 : decode cX5_two 31 = .ok (.iconst 2, 1) := by decide +kernel
theorem dX5_two_32 : decode cX5_two 32 = .ok (.if_icmp .eq 7, 3) := by decide +kernel
theorem dX5_two_35 : decode cX5_two 35 = .ok (.sipush (-1003), 3) := by decide +kernel
theorem dX5_two_38 : decode cX5_two 38 = .ok (.ireturn, 1) := by decide +kernel
theorem dX5_two_39 : decode cX5_two 39 = .ok (.aload_n 0, 1) := by decide +kernel
theorem dX5_two_40 : decode cX5_two 40 = .ok (.getfield 10, 3) := by decide +kernel
theorem dX5_two_43 : decode cX5_two 43 = .ok (.iconst 0, 1) := by decide +kernel
theorem dX5_two_44 : decode cX5_two 44 = .ok (.iconst 1, 1) := by decide +kernel
theorem dX5_two_45 : decode cX5_two 45 = .ok (.aload_n 0, 1) := by decide +kernel
theorem dX5_two_46 : decode cX5_two 46 = .ok (.getfield 16, 3) := by decide +kernel
theorem dX5_two_49 : decode cX5_two 49 = .ok (.iconst 0, 1) := by decide +kernel
theorem dX5_two_50 : decode cX5_two 50 = .ok (.iconst 1, 1) := by decide +kernel
theorem dX5_two_51 : decode cX5_two 51 = .ok (.invokestatic 153, 3) := by decide +kernel
theorem dX5_two_54 : decode cX5_two 54 = .ok (.istore_n 2, 1) := by decide +kernel
theorem dX5_two_55 : decode cX5_two 55 = .ok (.iload_n 1, 1) := by decide +kernel
theorem dX5_two_56 : decode cX5_two 56 = .ok (.ifCond .ne 5, 3) := by decide +kernel
theorem dX5_two_59 : decode cX5_two 59 = .ok (.iload_n 2, 1) := by decide +kernel
theorem dX5_two_60 : decode cX5_two 60 = .ok (.ireturn, 1) := by decide +kernel
theorem dX5_two_61 : decode cX5_two 61 = .ok (.iload_n 2, 1) := by decide +kernel
theorem dX5_two_62 : decode cX5_two 62 = .ok (.ifCond .ne 8, 3) := by decide +kernel
theorem dX5_two_65 : decode cX5_two 65 = .ok (.bipush (-6), 2) := by decide +kernel
theorem dX5_two_67 : decode cX5_two 67 = .ok (.goto 7, 3) := by decide +kernel
theorem dX5_two_70 : decode cX5_two 70 = .ok (.aload_n 0, 1) := by decide +kernel
theorem dX5_two_71 : decode cX5_two 71 = .ok (.invokevirtual 157, 3) := by decide +kernel
theorem dX5_two_74 : decode cX5_two 74 = .ok (.ireturn, 1) := by decide +kernel
set_option maxRecDepth 100000 in
set_option maxHeartbeats 4000000 in
theorem kX5_two (l : Launch) (D : va_G) (ad : Nat → Nat) (cI cJ : ClassId) (tP tR : Nat) (N : Nat) (M : Mem) (a1 : Int32)  (o : Int32) (h : fX5_two N M a1 = some o) : qMet l D cI cJ tP tR (xA ad) (xW ad cI cJ) yX5_two cX5_two 3 (some .int) rX5_two [.ref (ad 0), .int a1] M (qQi D (xA ad) (xW ad cI cJ) o M) := by
  refine rs_enterI (own := RX5) ⟨by decide +kernel, rfl, Nat.le_of_ble_eq_true rfl⟩ ?_
  intro p e s m args below meth c Q C hret H locs ls hP hS hl
  obtain ⟨hx, hb, -⟩ := id C
  have hl : lv_has ls 3 [(0, .ref (ad 0)), (1, .int a1)] := hl
  unfold fX5_two at h
  refine lv_iload_n hx hb dX5_two_0 rfl (lv_at hl 1 rfl) ?_
  refine lv_iconst (v := (0 : Int32)) hx hb dX5_two_1 (by decide) ?_
  refine lv_iconst (v := (1 : Int32)) hx hb dX5_two_2 (by decide) ?_
  obtain ⟨v1, h1, h⟩ := rs_bind h
  refine rs_goI (rs_runS (As := [.int a1, .int (0 : Int32), .int (1 : Int32)]) (rest := []) C hP hS (kX5_within l D ad cI cJ tP tR M a1 (0 : Int32) (1 : Int32) _ h1) mk_X5_within wd_231 rfl ⟨rfl, rfl, Nat.le_of_ble_eq_true rfl, Nat.le_of_ble_eq_true rfl⟩ rfl hl.1 (Nat.le_of_ble_eq_true rfl) dX5_two_3) hS (fun H locs hP hS => ?_)
  refine lv_if_ne (tgt := 13) hx hb dX5_two_6 (by decide) (fun cd => ?_) (fun cd => ?_)
  · have h := (if_neg cd).symm.trans h
    refine lv_aload_n hx hb dX5_two_13 rfl (lv_at hl 0 rfl) ?_
    refine gfX5_10 C hP dX5_two_14 ?_
    refine gfX5_59 C hP (Or.inl rfl) dX5_two_17 ?_
    refine lv_iconst (v := (2 : Int32)) hx hb dX5_two_20 (by decide) ?_
    refine lv_icmp_ne (tgt := 35) hx hb dX5_two_21 (by decide) (fun cd => ?_) (fun cd => ?_)
    · have h := (if_neg cd).symm.trans h
      refine lv_sipush (v := (-1003 : Int32)) hx hb dX5_two_35 (by decide) ?_
      cases h
      exact hret H locs _ ls hP hS dX5_two_38
    · have h := (if_pos cd).symm.trans h
      refine lv_aload_n hx hb dX5_two_24 rfl (lv_at hl 0 rfl) ?_
      refine gfX5_16 C hP dX5_two_25 ?_
      refine gfX5_59 C hP (Or.inr rfl) dX5_two_28 ?_
      refine lv_iconst (v := (2 : Int32)) hx hb dX5_two_31 (by decide) ?_
      refine lv_icmp_eq (tgt := 39) hx hb dX5_two_32 (by decide) (fun cd => ?_) (fun cd => ?_)
      · have h := (if_pos cd).symm.trans h
        refine lv_aload_n hx hb dX5_two_39 rfl (lv_at hl 0 rfl) ?_
        refine gfX5_10 C hP dX5_two_40 ?_
        refine lv_iconst (v := (0 : Int32)) hx hb dX5_two_43 (by decide) ?_
        refine lv_iconst (v := (1 : Int32)) hx hb dX5_two_44 (by decide) ?_
        refine lv_aload_n hx hb dX5_two_45 rfl (lv_at hl 0 rfl) ?_
        refine gfX5_16 C hP dX5_two_46 ?_
        refine lv_iconst (v := (0 : Int32)) hx hb dX5_two_49 (by decide) ?_
        refine lv_iconst (v := (1 : Int32)) hx hb dX5_two_50 (by decide) ?_
        obtain ⟨v2, h1, h⟩ := rs_bind h
        refine rs_goI (rs_runS (As := [.ref (ad 1), .int (0 : Int32), .int (1 : Int32), .ref (ad 6), .int (0 : Int32), .int (1 : Int32)]) (rest := []) C hP hS (kX5_across l D ad cI cJ tP tR M 1 (0 : Int32) (1 : Int32) 6 (0 : Int32) (1 : Int32) (Or.inl rfl) (Or.inr rfl) _ h1) mk_X5_across wd_470 rfl ⟨rfl, rfl, Nat.le_of_ble_eq_true rfl, Nat.le_of_ble_eq_true rfl⟩ rfl hl.1 (Nat.le_of_ble_eq_true rfl) dX5_two_51) hS (fun H locs hP hS => ?_)
        refine lv_istore_n (lv' := [(2, .int v2), (0, .ref (ad 0)), (1, .int a1)]) hx hb dX5_two_54 rfl hl (by decide) rfl (fun ls hl => ?_)
        refine lv_iload_n hx hb dX5_two_55 rfl (lv_at hl 2 rfl) ?_
        refine lv_if_ne (tgt := 61) hx hb dX5_two_56 (by decide) (fun cd => ?_) (fun cd => ?_)
        · have h := (if_neg cd).symm.trans h
          refine lv_iload_n hx hb dX5_two_61 rfl (lv_at hl 0 rfl) ?_
          refine lv_if_ne (tgt := 70) hx hb dX5_two_62 (by decide) (fun cd => ?_) (fun cd => ?_)
          · have h := (if_neg cd).symm.trans h
            refine lv_aload_n hx hb dX5_two_70 rfl (lv_at hl 1 rfl) ?_
            obtain ⟨v3, h1, h⟩ := rs_bind h
            refine rs_goI (rs_runV (b := 0) (As := []) (rest := []) C hP hS (kX5_realAnswers l D ad cI cJ tP tR N M  _ h1) mk_X5_realAnswers wd_471 (xR_0) rfl ⟨rfl, rfl, Nat.le_of_ble_eq_true rfl, Nat.le_of_ble_eq_true rfl⟩ rfl hl.1 (Nat.le_of_ble_eq_true rfl) dX5_two_71) hS (fun H locs hP hS => ?_)
            cases h
            exact hret H locs _ ls hP hS dX5_two_74
          · have h := (if_pos cd).symm.trans h
            refine lv_bipush (v := (-6 : Int32)) hx hb dX5_two_65 (by decide) ?_
            refine lv_goto (tgt := 74) hx hb dX5_two_67 (by decide) ?_
            cases h
            exact hret H locs _ ls hP hS dX5_two_74
        · have h := (if_pos cd).symm.trans h
          refine lv_iload_n hx hb dX5_two_59 rfl (lv_at hl 0 rfl) ?_
          cases h
          exact hret H locs _ ls hP hS dX5_two_60
      · have h := (if_neg cd).symm.trans h
        refine lv_sipush (v := (-1003 : Int32)) hx hb dX5_two_35 (by decide) ?_
        cases h
        exact hret H locs _ ls hP hS dX5_two_38
  · have h := (if_pos cd).symm.trans h
    refine lv_sipush (v := (-1002 : Int32)) hx hb dX5_two_9 (by decide) ?_
    cases h
    exact hret H locs _ ls hP hS dX5_two_12
abbrev rX5_round : Room := { frames := 2, cells := 0, slots := 0, locals := 51 }
theorem dX5_round_0 : decode cX5_round 0 = .ok (.iload_n 1, 1) := by decide +kernel
theorem dX5_round_1 : decode cX5_round 1 = .ok (.invokestatic 160, 3) := by decide +kernel
theorem dX5_round_4 : decode cX5_round 4 = .ok (.ifCond .ne 6, 3) := by decide +kernel
theorem dX5_round_7 : decode cX5_round 7 = .ok (.bipush (-2), 2) := by decide +kernel
theorem dX5_round_9 : decode cX5_round 9 = .ok (.ireturn, 1) := by decide +kernel
theorem dX5_round_10 : decode cX5_round 10 = .ok (.aload_n 0, 1) := by decide +kernel
theorem dX5_round_11 : decode cX5_round 11 = .ok (.getfield 43, 3) := by decide +kernel
theorem dX5_round_14 : decode cX5_round 14 = .ok (.aload_n 0, 1) := by decide +kernel
theorem dX5_round_15 : decode cX5_round 15 = .ok (.getfield 10, 3) := by decide +kernel
theorem dX5_round_18 : decode cX5_round 18 = .ok (.aload_n 0, 1) := by decide +kernel
theorem dX5_round_19 : decode cX5_round 19 = .ok (.getfield 16, 3) := by decide +kernel
theorem dX5_round_22 : decode cX5_round 22 = .ok (.iload_n 1, 1) := by decide +kernel
theorem dX5_round_23 : decode cX5_round 23 = .ok (.invokevirtual 163, 3) := by decide +kernel
theorem dX5_round_26 : decode cX5_round 26 = .ok (.aload_n 0, 1) := by decide +kernel
theorem dX5_round_27 : decode cX5_round 27 = .ok (.getfield 43, 3) := by decide +kernel
theorem dX5_round_30 : decode cX5_round 30 = .ok (.getfield 166, 3) := by decide +kernel
theorem dX5_round_33 : decode cX5_round 33 = .ok (.ireturn, 1) := by decide +kernel
set_option maxRecDepth 100000 in
set_option maxHeartbeats 4000000 in
theorem kX5_round (l : Launch) (D : va_G) (ad : Nat → Nat) (cI cJ : ClassId) (tP tR : Nat) (N : Nat) (M : Mem) (a1 : Int32)  (o : (Int32 × Mem)) (h : fX5_round N M a1 = some o) : qMet l D cI cJ tP tR (xA ad) (xW ad cI cJ) yX5_round cX5_round 2 (some .int) rX5_round [.ref (ad 0), .int a1] M (qQi D (xA ad) (xW ad cI cJ) o.1 o.2) := by
  refine rs_enterI (own := RX5) ⟨by decide +kernel, rfl, Nat.le_of_ble_eq_true rfl⟩ ?_
  intro p e s m args below meth c Q C hret H locs ls hP hS hl
  obtain ⟨hx, hb, -⟩ := id C
  have hl : lv_has ls 2 [(0, .ref (ad 0)), (1, .int a1)] := hl
  unfold fX5_round at h
  refine lv_iload_n hx hb dX5_round_0 rfl (lv_at hl 1 rfl) ?_
  obtain ⟨v1, h1, h⟩ := rs_bind h
  refine rs_goI (rs_runS (As := [.int a1]) (rest := []) C hP hS (kX5_isRoundPrime l D ad cI cJ tP tR N M a1 _ h1) mk_X5_isRoundPrime wd_487 rfl ⟨rfl, rfl, Nat.le_of_ble_eq_true rfl, Nat.le_of_ble_eq_true rfl⟩ rfl hl.1 (Nat.le_of_ble_eq_true rfl) dX5_round_1) hS (fun H locs hP hS => ?_)
  refine lv_if_ne (tgt := 10) hx hb dX5_round_4 (by decide) (fun cd => ?_) (fun cd => ?_)
  · have h := (if_neg cd).symm.trans h
    refine lv_aload_n hx hb dX5_round_10 rfl (lv_at hl 0 rfl) ?_
    refine gfX5_43 C hP dX5_round_11 ?_
    refine lv_aload_n hx hb dX5_round_14 rfl (lv_at hl 0 rfl) ?_
    refine gfX5_10 C hP dX5_round_15 ?_
    refine lv_aload_n hx hb dX5_round_18 rfl (lv_at hl 0 rfl) ?_
    refine gfX5_16 C hP dX5_round_19 ?_
    refine lv_iload_n hx hb dX5_round_22 rfl (lv_at hl 1 rfl) ?_
    obtain ⟨M2, h1, h⟩ := rs_bind h
    refine rs_goV (rs_runV (b := 21) (As := [.ref (ad 1), .ref (ad 6), .int a1]) (rest := []) C hP hS (kX3_find l D ad cI cJ tP tR N M 1 6 a1 (Or.inl rfl) (Or.inr rfl) _ h1) mk_X3_find wd_492 (xR_21) rfl ⟨rfl, rfl, Nat.le_of_ble_eq_true rfl, Nat.le_of_ble_eq_true rfl⟩ rfl hl.1 (Nat.le_of_ble_eq_true rfl) dX5_round_23) hS (fun H locs hP hS => ?_)
    refine lv_aload_n hx hb dX5_round_26 rfl (lv_at hl 0 rfl) ?_
    refine gfX5_43 C hP dX5_round_27 ?_
    refine gfX5_166 C hP dX5_round_30 ?_
    cases h
    exact hret H locs _ ls hP hS dX5_round_33
  · have h := (if_pos cd).symm.trans h
    refine lv_bipush (v := (-2 : Int32)) hx hb dX5_round_7 (by decide) ?_
    cases h
    exact hret H locs _ ls hP hS dX5_round_9
abbrev rX5_answer : Room := { frames := 2, cells := 0, slots := 0, locals := 51 }
theorem dX5_answer_0 : decode cX5_answer 0 = .ok (.iload_n 1, 1) := by decide +kernel
theorem dX5_answer_1 : decode cX5_answer 1 = .ok (.invokestatic 160, 3) := by decide +kernel
theorem dX5_answer_4 : decode cX5_answer 4 = .ok (.ifCond .ne 6, 3) := by decide +kernel
theorem dX5_answer_7 : decode cX5_answer 7 = .ok (.bipush (-2), 2) := by decide +kernel
theorem dX5_answer_9 : decode cX5_answer 9 = .ok (.ireturn, 1) := by decide +kernel
theorem dX5_answer_10 : decode cX5_answer 10 = .ok (.aload_n 0, 1) := by decide +kernel
theorem dX5_answer_11 : decode cX5_answer 11 = .ok (.getfield 43, 3) := by decide +kernel
theorem dX5_answer_14 : decode cX5_answer 14 = .ok (.aload_n 0, 1) := by decide +kernel
theorem dX5_answer_15 : decode cX5_answer 15 = .ok (.getfield 10, 3) := by decide +kernel
theorem dX5_answer_18 : decode cX5_answer 18 = .ok (.aload_n 0, 1) := by decide +kernel
theorem dX5_answer_19 : decode cX5_answer 19 = .ok (.getfield 16, 3) := by decide +kernel
theorem dX5_answer_22 : decode cX5_answer 22 = .ok (.iload_n 1, 1) := by decide +kernel
theorem dX5_answer_23 : decode cX5_answer 23 = .ok (.invokevirtual 163, 3) := by decide +kernel
theorem dX5_answer_26 : decode cX5_answer 26 = .ok (.iload_n 2, 1) := by decide +kernel
theorem dX5_answer_27 : decode cX5_answer 27 = .ok (.iconst 0, 1) := by decide +kernel
theorem dX5_answer_28 : decode cX5_answer 28 = .ok (.aload_n 0, 1) := by decide +kernel
theorem dX5_answer_29 : decode cX5_answer 29 = .ok (.getfield 43, 3) := by decide +kernel
theorem dX5_answer_32 : decode cX5_answer 32 = .ok (.getfield 166, 3) := by decide +kernel
theorem dX5_answer_35 : decode cX5_answer 35 = .ok (.iconst 1, 1) := by decide +kernel
theorem dX5_answer_36 : decode cX5_answer 36 = .ok (.isub, 1) := by decide +kernel
theorem dX5_answer_37 : decode cX5_answer 37 = .ok (.invokestatic 51, 3) := by decide +kernel
theorem dX5_answer_40 : decode cX5_answer 40 = .ok (.ifCond .ne 6, 3) := by decide +kernel
theorem dX5_answer_43 : decode cX5_answer 43 = .ok (.bipush (-6), 2) := by decide +kernel
theorem dX5_answer_45 : decode cX5_answer 45 = .ok (.ireturn, 1) := by decide +kernel
theorem dX5_answer_46 : decode cX5_answer 46 = .ok (.aload_n 0, 1) := by decide +kernel
theorem dX5_answer_47 : decode cX5_answer 47 = .ok (.getfield 43, 3) := by decide +kernel
theorem dX5_answer_50 : decode cX5_answer 50 = .ok (.getfield 167, 3) := by decide +kernel
theorem dX5_answer_53 : decode cX5_answer 53 = .ok (.iload_n 2, 1) := by decide +kernel
theorem dX5_answer_54 : decode cX5_answer 54 = .ok (.iaload, 1) := by decide +kernel
theorem dX5_answer_55 : decode cX5_answer 55 = .ok (.ireturn, 1) := by decide +kernel
set_option maxRecDepth 100000 in
set_option maxHeartbeats 4000000 in
theorem kX5_answer (l : Launch) (D : va_G) (ad : Nat → Nat) (cI cJ : ClassId) (tP tR : Nat) (N : Nat) (M : Mem) (a1 : Int32) (a2 : Int32)  (o : (Int32 × Mem)) (h : fX5_answer N M a1 a2 = some o) : qMet l D cI cJ tP tR (xA ad) (xW ad cI cJ) yX5_answer cX5_answer 3 (some .int) rX5_answer [.ref (ad 0), .int a1, .int a2] M (qQi D (xA ad) (xW ad cI cJ) o.1 o.2) := by
  refine rs_enterI (own := RX5) ⟨by decide +kernel, rfl, Nat.le_of_ble_eq_true rfl⟩ ?_
  intro p e s m args below meth c Q C hret H locs ls hP hS hl
  obtain ⟨hx, hb, -⟩ := id C
  have hl : lv_has ls 3 [(0, .ref (ad 0)), (1, .int a1), (2, .int a2)] := hl
  unfold fX5_answer at h
  refine lv_iload_n hx hb dX5_answer_0 rfl (lv_at hl 1 rfl) ?_
  obtain ⟨v1, h1, h⟩ := rs_bind h
  refine rs_goI (rs_runS (As := [.int a1]) (rest := []) C hP hS (kX5_isRoundPrime l D ad cI cJ tP tR N M a1 _ h1) mk_X5_isRoundPrime wd_487 rfl ⟨rfl, rfl, Nat.le_of_ble_eq_true rfl, Nat.le_of_ble_eq_true rfl⟩ rfl hl.1 (Nat.le_of_ble_eq_true rfl) dX5_answer_1) hS (fun H locs hP hS => ?_)
  refine lv_if_ne (tgt := 10) hx hb dX5_answer_4 (by decide) (fun cd => ?_) (fun cd => ?_)
  · have h := (if_neg cd).symm.trans h
    refine lv_aload_n hx hb dX5_answer_10 rfl (lv_at hl 0 rfl) ?_
    refine gfX5_43 C hP dX5_answer_11 ?_
    refine lv_aload_n hx hb dX5_answer_14 rfl (lv_at hl 0 rfl) ?_
    refine gfX5_10 C hP dX5_answer_15 ?_
    refine lv_aload_n hx hb dX5_answer_18 rfl (lv_at hl 0 rfl) ?_
    refine gfX5_16 C hP dX5_answer_19 ?_
    refine lv_iload_n hx hb dX5_answer_22 rfl (lv_at hl 1 rfl) ?_
    obtain ⟨M2, h1, h⟩ := rs_bind h
    refine rs_goV (rs_runV (b := 21) (As := [.ref (ad 1), .ref (ad 6), .int a1]) (rest := []) C hP hS (kX3_find l D ad cI cJ tP tR N M 1 6 a1 (Or.inl rfl) (Or.inr rfl) _ h1) mk_X3_find wd_492 (xR_21) rfl ⟨rfl, rfl, Nat.le_of_ble_eq_true rfl, Nat.le_of_ble_eq_true rfl⟩ rfl hl.1 (Nat.le_of_ble_eq_true rfl) dX5_answer_23) hS (fun H locs hP hS => ?_)
    refine lv_iload_n hx hb dX5_answer_26 rfl (lv_at hl 2 rfl) ?_
    refine lv_iconst (v := (0 : Int32)) hx hb dX5_answer_27 (by decide) ?_
    refine lv_aload_n hx hb dX5_answer_28 rfl (lv_at hl 0 rfl) ?_
    refine gfX5_43 C hP dX5_answer_29 ?_
    refine gfX5_166 C hP dX5_answer_32 ?_
    refine lv_iconst (v := (1 : Int32)) hx hb dX5_answer_35 (by decide) ?_
    refine lv_isub hx hb dX5_answer_36 ?_
    obtain ⟨v3, h1, h⟩ := rs_bind h
    refine rs_goI (rs_runS (As := [.int a2, .int (0 : Int32), .int ((M2.1 21 1) - (1 : Int32))]) (rest := []) C hP hS (kX5_within l D ad cI cJ tP tR M2 a2 (0 : Int32) ((M2.1 21 1) - (1 : Int32)) _ h1) mk_X5_within wd_231 rfl ⟨rfl, rfl, Nat.le_of_ble_eq_true rfl, Nat.le_of_ble_eq_true rfl⟩ rfl hl.1 (Nat.le_of_ble_eq_true rfl) dX5_answer_37) hS (fun H locs hP hS => ?_)
    refine lv_if_ne (tgt := 46) hx hb dX5_answer_40 (by decide) (fun cd => ?_) (fun cd => ?_)
    · have h := (if_neg cd).symm.trans h
      refine lv_aload_n hx hb dX5_answer_46 rfl (lv_at hl 0 rfl) ?_
      refine gfX5_43 C hP dX5_answer_47 ?_
      refine gfX5_167 C hP dX5_answer_50 ?_
      refine lv_iload_n hx hb dX5_answer_53 rfl (lv_at hl 2 rfl) ?_
      refine rs_iald C hP xIA_22 dX5_answer_54 h (fun v4 h => ?_)
      cases h
      exact hret H locs _ ls hP hS dX5_answer_55
    · have h := (if_pos cd).symm.trans h
      refine lv_bipush (v := (-6 : Int32)) hx hb dX5_answer_43 (by decide) ?_
      cases h
      exact hret H locs _ ls hP hS dX5_answer_45
  · have h := (if_pos cd).symm.trans h
    refine lv_bipush (v := (-2 : Int32)) hx hb dX5_answer_7 (by decide) ?_
    cases h
    exact hret H locs _ ls hP hS dX5_answer_9
abbrev rX5_told : Room := { frames := 1, cells := 0, slots := 0, locals := 21 }
theorem dX5_told_0 : decode cX5_told 0 = .ok (.aload_n 0, 1) := by decide +kernel
theorem dX5_told_1 : decode cX5_told 1 = .ok (.iload_n 1, 1) := by decide +kernel
theorem dX5_told_2 : decode cX5_told 2 = .ok (.invokevirtual 47, 3) := by decide +kernel
theorem dX5_told_5 : decode cX5_told 5 = .ok (.astore_n 2, 1) := by decide +kernel
theorem dX5_told_6 : decode cX5_told 6 = .ok (.aload_n 2, 1) := by decide +kernel
theorem dX5_told_7 : decode cX5_told 7 = .ok (.ifnonnull 7, 3) := by decide +kernel
theorem dX5_told_10 : decode cX5_told 10 = .ok (.iconst (-1), 1) := by decide +kernel
theorem dX5_told_11 : decode cX5_told 11 = .ok (.goto 7, 3) := by decide +kernel
theorem dX5_told_14 : decode cX5_told 14 = .ok (.aload_n 2, 1) := by decide +kernel
theorem dX5_told_15 : decode cX5_told 15 = .ok (.getfield 59, 3) := by decide +kernel
theorem dX5_told_18 : decode cX5_told 18 = .ok (.ireturn, 1) := by decide +kernel
set_option maxRecDepth 100000 in
set_option maxHeartbeats 4000000 in
theorem kX5_told (l : Launch) (D : va_G) (ad : Nat → Nat) (cI cJ : ClassId) (tP tR : Nat) (M : Mem) (a1 : Int32)  (o : Int32) (h : fX5_told M a1 = some o) : qMet l D cI cJ tP tR (xA ad) (xW ad cI cJ) yX5_told cX5_told 3 (some .int) rX5_told [.ref (ad 0), .int a1] M (qQi D (xA ad) (xW ad cI cJ) o M) := by
  refine rs_enterI (own := RX5) ⟨by decide +kernel, rfl, Nat.le_of_ble_eq_true rfl⟩ ?_
  intro p e s m args below meth c Q C hret H locs ls hP hS hl
  obtain ⟨hx, hb, -⟩ := id C
  have hl : lv_has ls 3 [(0, .ref (ad 0)), (1, .int a1)] := hl
  unfold fX5_told at h
  refine lv_aload_n hx hb dX5_told_0 rfl (lv_at hl 0 rfl) ?_
  refine lv_iload_n hx hb dX5_told_1 rfl (lv_at hl 1 rfl) ?_
  obtain ⟨q1, h1, h⟩ := rs_bind h
  refine rs_goR (rs_runV (b := 0) (As := [.int a1]) (rest := []) C hP hS (kX5_equationOf l D ad cI cJ tP tR M a1 _ h1) mk_X5_equationOf wd_227 (xR_0) rfl ⟨rfl, rfl, Nat.le_of_ble_eq_true rfl, Nat.le_of_ble_eq_true rfl⟩ rfl hl.1 (Nat.le_of_ble_eq_true rfl) dX5_told_2) hS (fun H locs hP hS => ?_)
  cases q1 with
  | none =>
    dsimp only at h
    show W p l e rX5_told s m args below meth c H locs 0 0 Q (F0 m 5 ls [.null])
    refine lv_astore_nN (lv' := [(2, .null), (0, .ref (ad 0)), (1, .int a1)]) hx hb dX5_told_5 rfl hl (by decide) rfl (fun ls hl => ?_)
    refine lv_aload_nN hx hb dX5_told_6 rfl (lv_at hl 0 rfl) ?_
    refine lv_ifnonnullN hx hb dX5_told_7 ?_
    refine lv_iconst (v := (-1 : Int32)) hx hb dX5_told_10 (by decide) ?_
    refine lv_goto (tgt := 18) hx hb dX5_told_11 (by decide) ?_
    cases h
    exact hret H locs _ ls hP hS dX5_told_18
  | some e2 =>
    dsimp only at h
    have he2 := eqOf_cell h1
    show W p l e rX5_told s m args below meth c H locs 0 0 Q (F0 m 5 ls [.ref (ad e2)])
    refine lv_astore_n (lv' := [(2, .ref (ad e2)), (0, .ref (ad 0)), (1, .int a1)]) hx hb dX5_told_5 rfl hl (by decide) rfl (fun ls hl => ?_)
    refine lv_aload_n hx hb dX5_told_6 rfl (lv_at hl 0 rfl) ?_
    refine lv_ifnonnull (tgt := 14) hx hb dX5_told_7 (by decide) ?_
    refine lv_aload_n hx hb dX5_told_14 rfl (lv_at hl 0 rfl) ?_
    refine gfX5_59 C hP he2 dX5_told_15 ?_
    cases h
    exact hret H locs _ ls hP hS dX5_told_18

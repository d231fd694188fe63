/-- the 24 cells of the class, by number -/
def xW (ad : Nat → Nat) (cI cJ : ClassId) (M : Mem) : va_W := [(ad 0, .inr (5, [.ref (ad 1), .ref (ad 6), .ref (ad 11), .ref (ad 16), .ref (ad 18), .ref (ad 21)])),
  (ad 1, .inr (0, [.ref (ad 2), .ref (ad 3), .ref (ad 4), .ref (ad 5), .int (M.1 1 4)])),
  (ad 2, .inl (cI, 8, .inl (M.1 2))),
  (ad 3, .inl (cI, 8, .inl (M.1 3))),
  (ad 4, .inl (cI, 8, .inl (M.1 4))),
  (ad 5, .inl (cI, 8, .inl (M.1 5))),
  (ad 6, .inr (0, [.ref (ad 7), .ref (ad 8), .ref (ad 9), .ref (ad 10), .int (M.1 6 4)])),
  (ad 7, .inl (cI, 8, .inl (M.1 7))),
  (ad 8, .inl (cI, 8, .inl (M.1 8))),
  (ad 9, .inl (cI, 8, .inl (M.1 9))),
  (ad 10, .inl (cI, 8, .inl (M.1 10))),
  (ad 11, .inr (1, [.ref (ad 12), .ref (ad 13), .int (M.1 11 2), .ref (ad 14), .ref (ad 15), .int (M.1 11 5)])),
  (ad 12, .inl (cI, 64, .inl (M.1 12))),
  (ad 13, .inl (cI, 64, .inl (M.1 13))),
  (ad 14, .inl (cI, 64, .inl (M.1 14))),
  (ad 15, .inl (cI, 64, .inl (M.1 15))),
  (ad 16, .inr (4, [.int (M.1 16 0), .int (M.1 16 1), .int (M.1 16 2), .ref (ad 17), .int (M.1 16 4), .int (M.1 16 5), .int (M.1 16 6)])),
  (ad 17, .inl (cI, 784, .inl (M.1 17))),
  (ad 18, .inr (2, [.ref (ad 19), .ref (ad 20)])),
  (ad 19, .inl (cJ, 7, .inr (.inl (M.2 19)))),
  (ad 20, .inl (cJ, 7, .inr (.inl (M.2 20)))),
  (ad 21, .inr (3, [.ref (ad 22), .int (M.1 21 1), .int (M.1 21 2), .ref (ad 23)])),
  (ad 22, .inl (cI, 900, .inl (M.1 22))),
  (ad 23, .inl (cI, 217, .inl (M.1 23)))]
def xA (ad : Nat → Nat) (q : Nat) : Prop := ∃ k, k < 24 ∧ q = ad k
theorem xIA_12 {ad : Nat → Nat} {cI cJ : ClassId} : qIA (xW ad cI cJ) ad cI 12 64 := fun M => ⟨rfl, fun k v => rfl⟩
theorem xIA_13 {ad : Nat → Nat} {cI cJ : ClassId} : qIA (xW ad cI cJ) ad cI 13 64 := fun M => ⟨rfl, fun k v => rfl⟩
theorem xIA_14 {ad : Nat → Nat} {cI cJ : ClassId} : qIA (xW ad cI cJ) ad cI 14 64 := fun M => ⟨rfl, fun k v => rfl⟩
theorem xIA_15 {ad : Nat → Nat} {cI cJ : ClassId} : qIA (xW ad cI cJ) ad cI 15 64 := fun M => ⟨rfl, fun k v => rfl⟩
theorem xR_11 {ad : Nat → Nat} {cI cJ : ClassId} {M : Mem} : qRec (xW ad cI cJ) ad M 11 RX1 := ⟨1, _, TX1, 6, rfl, rfl⟩
theorem xLA_19 {ad : Nat → Nat} {cI cJ : ClassId} : qLA (xW ad cI cJ) ad cJ 19 7 := fun M => ⟨rfl, fun k v => rfl⟩
theorem xLA_20 {ad : Nat → Nat} {cI cJ : ClassId} : qLA (xW ad cI cJ) ad cJ 20 7 := fun M => ⟨rfl, fun k v => rfl⟩
theorem xR_18 {ad : Nat → Nat} {cI cJ : ClassId} {M : Mem} : qRec (xW ad cI cJ) ad M 18 RX2 := ⟨2, _, TX2, 2, rfl, rfl⟩
theorem xIA_22 {ad : Nat → Nat} {cI cJ : ClassId} : qIA (xW ad cI cJ) ad cI 22 900 := fun M => ⟨rfl, fun k v => rfl⟩
theorem xIA_23 {ad : Nat → Nat} {cI cJ : ClassId} : qIA (xW ad cI cJ) ad cI 23 217 := fun M => ⟨rfl, fun k v => rfl⟩
theorem xR_21 {ad : Nat → Nat} {cI cJ : ClassId} {M : Mem} : qRec (xW ad cI cJ) ad M 21 RX3 := ⟨3, _, TX3, 4, rfl, rfl⟩
theorem xIA_17 {ad : Nat → Nat} {cI cJ : ClassId} : qIA (xW ad cI cJ) ad cI 17 784 := fun M => ⟨rfl, fun k v => rfl⟩
theorem xR_16 {ad : Nat → Nat} {cI cJ : ClassId} {M : Mem} : qRec (xW ad cI cJ) ad M 16 RX4 := ⟨4, _, TX4, 7, rfl, rfl⟩
theorem xR_0 {ad : Nat → Nat} {cI cJ : ClassId} {M : Mem} : qRec (xW ad cI cJ) ad M 0 RX5 := ⟨5, _, TX5, 6, rfl, rfl⟩
theorem xIA_e1 {ad : Nat → Nat} {cI cJ : ClassId} {b : Nat} (hb : b = 1 ∨ b = 6) : qIA (xW ad cI cJ) ad cI (b + 1) 8 := by
  rcases hb with rfl | rfl
  · exact fun M => ⟨rfl, fun k v => rfl⟩
  · exact fun M => ⟨rfl, fun k v => rfl⟩
theorem xIA_e2 {ad : Nat → Nat} {cI cJ : ClassId} {b : Nat} (hb : b = 1 ∨ b = 6) : qIA (xW ad cI cJ) ad cI (b + 2) 8 := by
  rcases hb with rfl | rfl
  · exact fun M => ⟨rfl, fun k v => rfl⟩
  · exact fun M => ⟨rfl, fun k v => rfl⟩
theorem xIA_e3 {ad : Nat → Nat} {cI cJ : ClassId} {b : Nat} (hb : b = 1 ∨ b = 6) : qIA (xW ad cI cJ) ad cI (b + 3) 8 := by
  rcases hb with rfl | rfl
  · exact fun M => ⟨rfl, fun k v => rfl⟩
  · exact fun M => ⟨rfl, fun k v => rfl⟩
theorem xIA_e4 {ad : Nat → Nat} {cI cJ : ClassId} {b : Nat} (hb : b = 1 ∨ b = 6) : qIA (xW ad cI cJ) ad cI (b + 4) 8 := by
  rcases hb with rfl | rfl
  · exact fun M => ⟨rfl, fun k v => rfl⟩
  · exact fun M => ⟨rfl, fun k v => rfl⟩
theorem xLA_row {ad : Nat → Nat} {cI cJ : ClassId} {b : Nat} (hb : b = 19 ∨ b = 20) : qLA (xW ad cI cJ) ad cJ b 7 := by
  rcases hb with rfl | rfl
  · exact fun M => ⟨rfl, fun k v => rfl⟩
  · exact fun M => ⟨rfl, fun k v => rfl⟩
theorem xR_eq {ad : Nat → Nat} {cI cJ : ClassId} {M : Mem} {b : Nat} (hb : b = 1 ∨ b = 6) : qRec (xW ad cI cJ) ad M b RX0 := by
  rcases hb with rfl | rfl
  · exact ⟨0, _, TX0, 5, rfl, rfl⟩
  · exact ⟨0, _, TX0, 5, rfl, rfl⟩
theorem xE_eq {ad : Nat → Nat} {cI cJ : ClassId} {M : Mem} {b : Nat} (hb : b = 1 ∨ b = 6) : (xW ad cI cJ M)[b]? = some (ad b, .inr (0, [.ref (ad (b + 1)), .ref (ad (b + 2)), .ref (ad (b + 3)), .ref (ad (b + 4)), .int (M.1 b 4)])) := by
  rcases hb with rfl | rfl <;> rfl
/-- the 12 cells of the reference, by number -/
def yW (ad : Nat → Nat) (cI cJ : ClassId) (M : Mem) : va_W := [(ad 0, .inr (6, [.ref (ad 1), .ref (ad 2), .ref (ad 3), .ref (ad 4), .ref (ad 5), .ref (ad 6), .ref (ad 7), .int (M.1 0 7), .ref (ad 8), .ref (ad 9), .int (M.1 0 10), .int (M.1 0 11), .int (M.1 0 12), .int (M.1 0 13), .int (M.1 0 14), .int (M.1 0 15), .int (M.1 0 16), .int (M.1 0 17), .int (M.1 0 18), .int (M.1 0 19), .ref (ad 10), .ref (ad 11)])),
  (ad 1, .inl (cI, 16, .inl (M.1 1))),
  (ad 2, .inl (cI, 16, .inl (M.1 2))),
  (ad 3, .inl (cI, 16, .inl (M.1 3))),
  (ad 4, .inl (cI, 16, .inl (M.1 4))),
  (ad 5, .inl (cI, 2, .inl (M.1 5))),
  (ad 6, .inl (cI, 64, .inl (M.1 6))),
  (ad 7, .inl (cI, 64, .inl (M.1 7))),
  (ad 8, .inl (cI, 64, .inl (M.1 8))),
  (ad 9, .inl (cI, 64, .inl (M.1 9))),
  (ad 10, .inl (cJ, 14, .inr (.inl (M.2 10)))),
  (ad 11, .inl (cI, 2, .inl (M.1 11)))]
def yA (ad : Nat → Nat) (q : Nat) : Prop := ∃ k, k < 12 ∧ q = ad k
theorem yIA_1 {ad : Nat → Nat} {cI cJ : ClassId} : qIA (yW ad cI cJ) ad cI 1 16 := fun M => ⟨rfl, fun k v => rfl⟩
theorem yIA_2 {ad : Nat → Nat} {cI cJ : ClassId} : qIA (yW ad cI cJ) ad cI 2 16 := fun M => ⟨rfl, fun k v => rfl⟩
theorem yIA_3 {ad : Nat → Nat} {cI cJ : ClassId} : qIA (yW ad cI cJ) ad cI 3 16 := fun M => ⟨rfl, fun k v => rfl⟩
theorem yIA_4 {ad : Nat → Nat} {cI cJ : ClassId} : qIA (yW ad cI cJ) ad cI 4 16 := fun M => ⟨rfl, fun k v => rfl⟩
theorem yIA_5 {ad : Nat → Nat} {cI cJ : ClassId} : qIA (yW ad cI cJ) ad cI 5 2 := fun M => ⟨rfl, fun k v => rfl⟩
theorem yIA_6 {ad : Nat → Nat} {cI cJ : ClassId} : qIA (yW ad cI cJ) ad cI 6 64 := fun M => ⟨rfl, fun k v => rfl⟩
theorem yIA_7 {ad : Nat → Nat} {cI cJ : ClassId} : qIA (yW ad cI cJ) ad cI 7 64 := fun M => ⟨rfl, fun k v => rfl⟩
theorem yIA_8 {ad : Nat → Nat} {cI cJ : ClassId} : qIA (yW ad cI cJ) ad cI 8 64 := fun M => ⟨rfl, fun k v => rfl⟩
theorem yIA_9 {ad : Nat → Nat} {cI cJ : ClassId} : qIA (yW ad cI cJ) ad cI 9 64 := fun M => ⟨rfl, fun k v => rfl⟩
theorem yLA_10 {ad : Nat → Nat} {cI cJ : ClassId} : qLA (yW ad cI cJ) ad cJ 10 14 := fun M => ⟨rfl, fun k v => rfl⟩
theorem yIA_11 {ad : Nat → Nat} {cI cJ : ClassId} : qIA (yW ad cI cJ) ad cI 11 2 := fun M => ⟨rfl, fun k v => rfl⟩
theorem yR_0 {ad : Nat → Nat} {cI cJ : ClassId} {M : Mem} : qRec (yW ad cI cJ) ad M 0 RX6 := ⟨6, _, TX6, 22, rfl, rfl⟩
theorem rs_gws {ws : List Cond} (ps : List Nat) (hp : ws = ps.filterMap (fun i => lw_tbl[i]?)) (h : ws.all goodWord = true) : ∀ w ∈ ws, w ∈ gwT := by
  intro w hw
  have h1 := List.all_eq_true.mp h w hw
  rw [hp] at hw
  obtain ⟨i, -, hi⟩ := List.mem_filterMap.mp hw
  exact List.mem_filter.mpr ⟨List.mem_of_getElem? hi, h1⟩
theorem hinX0 : ∀ w ∈ u_ws RX0 TX0 5, w ∈ gwT := rs_gws [97, 99, 101, 103, 105] (by decide +kernel) (by decide +kernel)
theorem hinX1 : ∀ w ∈ u_ws RX1 TX1 6, w ∈ gwT := rs_gws [124, 126, 128, 130, 132, 134] (by decide +kernel) (by decide +kernel)
theorem hinX2 : ∀ w ∈ u_ws RX2 TX2 2, w ∈ gwT := rs_gws [176, 178] (by decide +kernel) (by decide +kernel)
theorem hinX3 : ∀ w ∈ u_ws RX3 TX3 4, w ∈ gwT := rs_gws [195, 197, 199, 201] (by decide +kernel) (by decide +kernel)
theorem hinX4 : ∀ w ∈ u_ws RX4 TX4 7, w ∈ gwT := rs_gws [153, 155, 157, 159, 161, 163, 165] (by decide +kernel) (by decide +kernel)
theorem hinX5 : ∀ w ∈ u_ws RX5 TX5 6, w ∈ gwT := rs_gws [210, 212, 214, 216, 218, 220] (by decide +kernel) (by decide +kernel)
theorem hinX6 : ∀ w ∈ u_ws RX6 TX6 22, w ∈ gwT := rs_gws [541, 543, 545, 547, 549, 551, 553, 555, 557, 559, 561, 563, 565, 567, 569, 571, 573, 575, 577, 579, 581, 583] (by decide +kernel) (by decide +kernel)
theorem wd_0 : Cond.selects RX5 yX5_equationOf yX5_equationOf ∈ gwT := rs_gw 0 (by decide +kernel) rfl
theorem wd_1 : Cond.selects RX5 yX5_forgetFound yX5_forgetFound ∈ gwT := rs_gw 1 (by decide +kernel) rfl
theorem wd_2 : Cond.selects RX5 yX5_drawFigure yX5_drawFigure ∈ gwT := rs_gw 2 (by decide +kernel) rfl
theorem wd_3 : Cond.selects RX5 yX5_anyEmpty yX5_anyEmpty ∈ gwT := rs_gw 3 (by decide +kernel) rfl
theorem wd_4 : Cond.selects RX1 yX1_put yX1_put ∈ gwT := rs_gw 4 (by decide +kernel) rfl
theorem wd_5 : Cond.selects RX1 yX1_wrap yX1_wrap ∈ gwT := rs_gw 5 (by decide +kernel) rfl
theorem wd_6 : Cond.selects RX1 yX1_firstPoint yX1_firstPoint ∈ gwT := rs_gw 6 (by decide +kernel) rfl
theorem wd_7 : Cond.selects RX1 yX1_nextCorner yX1_nextCorner ∈ gwT := rs_gw 7 (by decide +kernel) rfl
theorem wd_8 : Cond.selects RX1 yX1_same yX1_same ∈ gwT := rs_gw 8 (by decide +kernel) rfl
theorem wd_9 : Cond.selects RX1 yX1_sideOf yX1_sideOf ∈ gwT := rs_gw 9 (by decide +kernel) rfl
theorem wd_10 : Cond.selects RX1 yX1_far yX1_far ∈ gwT := rs_gw 10 (by decide +kernel) rfl
theorem wd_11 : Cond.selects RX1 yX1_after yX1_after ∈ gwT := rs_gw 11 (by decide +kernel) rfl
theorem wd_12 : Cond.selects RX5 yX5_areaOf yX5_areaOf ∈ gwT := rs_gw 12 (by decide +kernel) rfl
theorem wd_13 : Cond.selects RX4 yX4_findWith yX4_findWith ∈ gwT := rs_gw 13 (by decide +kernel) rfl
theorem wd_14 : Cond.selects RX4 yX4_tilt yX4_tilt ∈ gwT := rs_gw 14 (by decide +kernel) rfl
theorem wd_15 : Cond.selects RX4 yX4_alikeLowest yX4_alikeLowest ∈ gwT := rs_gw 15 (by decide +kernel) rfl
theorem wd_16 : Cond.selects RX4 yX4_levelOf yX4_levelOf ∈ gwT := rs_gw 16 (by decide +kernel) rfl
theorem wd_17 : Cond.selects RX4 yX4_noteIfLowest yX4_noteIfLowest ∈ gwT := rs_gw 17 (by decide +kernel) rfl
theorem wd_18 : Cond.selects RX2 yX2_layAlong yX2_layAlong ∈ gwT := rs_gw 18 (by decide +kernel) rfl
theorem wd_19 : Cond.selects RX2 yX2_shareRootBy yX2_shareRootBy ∈ gwT := rs_gw 19 (by decide +kernel) rfl
theorem wd_20 : Cond.selects RX2 yX2_degreeOf yX2_degreeOf ∈ gwT := rs_gw 20 (by decide +kernel) rfl
theorem wd_21 : Cond.selects RX2 yX2_lower yX2_lower ∈ gwT := rs_gw 21 (by decide +kernel) rfl
theorem wd_22 : Cond.selects RX5 yX5_losesSomewhere yX5_losesSomewhere ∈ gwT := rs_gw 22 (by decide +kernel) rfl
theorem wd_23 : Cond.selects RX5 yX5_realAnswers yX5_realAnswers ∈ gwT := rs_gw 23 (by decide +kernel) rfl
theorem wd_24 : Cond.selects RX0 yX0_isMinus yX0_isMinus ∈ gwT := rs_gw 24 (by decide +kernel) rfl
theorem wd_25 : Cond.selects RX3 yX3_fillPowers yX3_fillPowers ∈ gwT := rs_gw 25 (by decide +kernel) rfl
theorem wd_26 : Cond.selects RX3 yX3_isNought yX3_isNought ∈ gwT := rs_gw 26 (by decide +kernel) rfl
theorem wd_27 : Cond.selects RX6 yX6_isTerm yX6_isTerm ∈ gwT := rs_gw 27 (by decide +kernel) rfl
theorem wd_28 : Cond.selects RX6 yX6_isThere yX6_isThere ∈ gwT := rs_gw 28 (by decide +kernel) rfl
theorem wd_29 : Cond.selects RX6 yX6_areaOf yX6_areaOf ∈ gwT := rs_gw 29 (by decide +kernel) rfl
theorem wd_30 : Cond.selects RX6 yX6_goRound yX6_goRound ∈ gwT := rs_gw 30 (by decide +kernel) rfl
theorem wd_31 : Cond.selects RX6 yX6_gather yX6_gather ∈ gwT := rs_gw 31 (by decide +kernel) rfl
theorem wd_32 : Cond.selects RX6 yX6_isSame yX6_isSame ∈ gwT := rs_gw 32 (by decide +kernel) rfl
theorem wd_33 : Cond.selects RX6 yX6_isOuter yX6_isOuter ∈ gwT := rs_gw 33 (by decide +kernel) rfl
theorem wd_34 : Cond.selects RX6 yX6_rimOf yX6_rimOf ∈ gwT := rs_gw 34 (by decide +kernel) rfl
theorem wd_35 : Cond.selects RX6 yX6_goThrough yX6_goThrough ∈ gwT := rs_gw 35 (by decide +kernel) rfl
theorem wd_36 : Cond.selects RX6 yX6_isCell yX6_isCell ∈ gwT := rs_gw 36 (by decide +kernel) rfl
theorem wd_37 : Cond.selects RX6 yX6_isLowest yX6_isLowest ∈ gwT := rs_gw 37 (by decide +kernel) rfl
theorem wd_38 : Cond.selects RX6 yX6_height yX6_height ∈ gwT := rs_gw 38 (by decide +kernel) rfl
theorem wd_39 : Cond.selects RX6 yX6_faceOf yX6_faceOf ∈ gwT := rs_gw 39 (by decide +kernel) rfl
theorem wd_40 : Cond.selects RX6 yX6_loses yX6_loses ∈ gwT := rs_gw 40 (by decide +kernel) rfl
theorem wd_41 : Cond.selects RX6 yX6_meet yX6_meet ∈ gwT := rs_gw 41 (by decide +kernel) rfl
theorem wd_42 : Cond.selects RX6 yX6_lay yX6_lay ∈ gwT := rs_gw 42 (by decide +kernel) rfl
theorem wd_43 : Cond.selects RX6 yX6_stepOf yX6_stepOf ∈ gwT := rs_gw 43 (by decide +kernel) rfl
theorem wd_44 : Cond.selects RX6 yX6_reduce yX6_reduce ∈ gwT := rs_gw 44 (by decide +kernel) rfl
theorem wd_45 : Cond.selects RX6 yX6_areUnlike yX6_areUnlike ∈ gwT := rs_gw 45 (by decide +kernel) rfl
theorem wd_46 : Cond.selects RX6 yX6_answers yX6_answers ∈ gwT := rs_gw 46 (by decide +kernel) rfl
theorem wd_47 : Cond.selects RX6 yX6_isNought yX6_isNought ∈ gwT := rs_gw 47 (by decide +kernel) rfl
theorem wd_49 : Cond.initialized RX5 ∈ gwT := rs_gw 49 (by decide +kernel) rfl
theorem wd_50 : Cond.initialized RX0 ∈ gwT := rs_gw 50 (by decide +kernel) rfl
theorem wd_51 : Cond.initialized RX1 ∈ gwT := rs_gw 51 (by decide +kernel) rfl
theorem wd_52 : Cond.initialized RX4 ∈ gwT := rs_gw 52 (by decide +kernel) rfl
theorem wd_53 : Cond.initialized RX2 ∈ gwT := rs_gw 53 (by decide +kernel) rfl
theorem wd_54 : Cond.initialized RX3 ∈ gwT := rs_gw 54 (by decide +kernel) rfl
theorem wd_55 : Cond.initialized RX6 ∈ gwT := rs_gw 55 (by decide +kernel) rfl
theorem wd_56 : Cond.initialized "java/lang/Math" ∈ gwT := rs_gw 56 (by decide +kernel) rfl
theorem wd_57 : Cond.initialized RJ6 ∈ gwT := rs_gw 57 (by decide +kernel) rfl
theorem wd_72 : Cond.fieldLink RX0 9 "RootShapes$Equation" "i" "[I" ∈ gwT := rs_gw 72 (by decide +kernel) rfl
theorem wd_73 : Cond.fieldLink RX1 36 "RootShapes$Equation" "i" "[I" ∈ gwT := rs_gw 73 (by decide +kernel) rfl
theorem wd_74 : Cond.fieldLink RX2 27 "RootShapes$Equation" "i" "[I" ∈ gwT := rs_gw 74 (by decide +kernel) rfl
theorem wd_75 : Cond.fieldLink RX5 77 "RootShapes$Equation" "i" "[I" ∈ gwT := rs_gw 75 (by decide +kernel) rfl
theorem wd_76 : Cond.fieldLink RX3 45 "RootShapes$Equation" "i" "[I" ∈ gwT := rs_gw 76 (by decide +kernel) rfl
theorem wd_77 : Cond.fieldLink RX4 76 "RootShapes$Equation" "i" "[I" ∈ gwT := rs_gw 77 (by decide +kernel) rfl
theorem wd_78 : Cond.fieldLink RX0 15 "RootShapes$Equation" "j" "[I" ∈ gwT := rs_gw 78 (by decide +kernel) rfl
theorem wd_79 : Cond.fieldLink RX1 39 "RootShapes$Equation" "j" "[I" ∈ gwT := rs_gw 79 (by decide +kernel) rfl
theorem wd_80 : Cond.fieldLink RX2 31 "RootShapes$Equation" "j" "[I" ∈ gwT := rs_gw 80 (by decide +kernel) rfl
theorem wd_81 : Cond.fieldLink RX5 81 "RootShapes$Equation" "j" "[I" ∈ gwT := rs_gw 81 (by decide +kernel) rfl
theorem wd_82 : Cond.fieldLink RX3 48 "RootShapes$Equation" "j" "[I" ∈ gwT := rs_gw 82 (by decide +kernel) rfl
theorem wd_83 : Cond.fieldLink RX4 73 "RootShapes$Equation" "j" "[I" ∈ gwT := rs_gw 83 (by decide +kernel) rfl
theorem wd_84 : Cond.fieldLink RX0 18 "RootShapes$Equation" "c" "[I" ∈ gwT := rs_gw 84 (by decide +kernel) rfl
theorem wd_85 : Cond.fieldLink RX5 84 "RootShapes$Equation" "c" "[I" ∈ gwT := rs_gw 85 (by decide +kernel) rfl
theorem wd_86 : Cond.fieldLink RX3 42 "RootShapes$Equation" "c" "[I" ∈ gwT := rs_gw 86 (by decide +kernel) rfl
theorem wd_87 : Cond.fieldLink RX2 66 "RootShapes$Equation" "c" "[I" ∈ gwT := rs_gw 87 (by decide +kernel) rfl
theorem wd_88 : Cond.fieldLink RX0 21 "RootShapes$Equation" "height" "[I" ∈ gwT := rs_gw 88 (by decide +kernel) rfl
theorem wd_89 : Cond.fieldLink RX5 87 "RootShapes$Equation" "height" "[I" ∈ gwT := rs_gw 89 (by decide +kernel) rfl
theorem wd_90 : Cond.fieldLink RX4 70 "RootShapes$Equation" "height" "[I" ∈ gwT := rs_gw 90 (by decide +kernel) rfl
theorem wd_91 : Cond.fieldLink RX0 24 "RootShapes$Equation" "size" "I" ∈ gwT := rs_gw 91 (by decide +kernel) rfl
theorem wd_92 : Cond.fieldLink RX1 31 "RootShapes$Equation" "size" "I" ∈ gwT := rs_gw 92 (by decide +kernel) rfl
theorem wd_93 : Cond.fieldLink RX2 21 "RootShapes$Equation" "size" "I" ∈ gwT := rs_gw 93 (by decide +kernel) rfl
theorem wd_94 : Cond.fieldLink RX4 35 "RootShapes$Equation" "size" "I" ∈ gwT := rs_gw 94 (by decide +kernel) rfl
theorem wd_95 : Cond.fieldLink RX5 59 "RootShapes$Equation" "size" "I" ∈ gwT := rs_gw 95 (by decide +kernel) rfl
theorem wd_96 : Cond.fieldLink RX3 37 "RootShapes$Equation" "size" "I" ∈ gwT := rs_gw 96 (by decide +kernel) rfl
theorem wd_115 : Cond.fieldLink RX1 11 "RootShapes$Figure" "cornerI" "[I" ∈ gwT := rs_gw 115 (by decide +kernel) rfl
theorem wd_116 : Cond.fieldLink RX5 106 "RootShapes$Figure" "cornerI" "[I" ∈ gwT := rs_gw 116 (by decide +kernel) rfl
theorem wd_117 : Cond.fieldLink RX1 15 "RootShapes$Figure" "cornerJ" "[I" ∈ gwT := rs_gw 117 (by decide +kernel) rfl
theorem wd_118 : Cond.fieldLink RX5 109 "RootShapes$Figure" "cornerJ" "[I" ∈ gwT := rs_gw 118 (by decide +kernel) rfl
theorem wd_119 : Cond.fieldLink RX1 18 "RootShapes$Figure" "corners" "I" ∈ gwT := rs_gw 119 (by decide +kernel) rfl
theorem wd_120 : Cond.fieldLink RX5 97 "RootShapes$Figure" "corners" "I" ∈ gwT := rs_gw 120 (by decide +kernel) rfl
theorem wd_121 : Cond.fieldLink RX1 22 "RootShapes$Figure" "pointI" "[I" ∈ gwT := rs_gw 121 (by decide +kernel) rfl
theorem wd_122 : Cond.fieldLink RX1 25 "RootShapes$Figure" "pointJ" "[I" ∈ gwT := rs_gw 122 (by decide +kernel) rfl
theorem wd_123 : Cond.fieldLink RX1 28 "RootShapes$Figure" "points" "I" ∈ gwT := rs_gw 123 (by decide +kernel) rfl
theorem wd_143 : Cond.fieldLink RX4 9 "RootShapes$Subdivision" "count" "I" ∈ gwT := rs_gw 143 (by decide +kernel) rfl
theorem wd_144 : Cond.fieldLink RX5 124 "RootShapes$Subdivision" "count" "I" ∈ gwT := rs_gw 144 (by decide +kernel) rfl
theorem wd_145 : Cond.fieldLink RX4 15 "RootShapes$Subdivision" "crowded" "Z" ∈ gwT := rs_gw 145 (by decide +kernel) rfl
theorem wd_146 : Cond.fieldLink RX5 135 "RootShapes$Subdivision" "crowded" "Z" ∈ gwT := rs_gw 146 (by decide +kernel) rfl
theorem wd_147 : Cond.fieldLink RX4 19 "RootShapes$Subdivision" "known" "Z" ∈ gwT := rs_gw 147 (by decide +kernel) rfl
theorem wd_148 : Cond.fieldLink RX5 170 "RootShapes$Subdivision" "known" "Z" ∈ gwT := rs_gw 148 (by decide +kernel) rfl
theorem wd_149 : Cond.fieldLink RX4 22 "RootShapes$Subdivision" "found" "[I" ∈ gwT := rs_gw 149 (by decide +kernel) rfl
theorem wd_150 : Cond.fieldLink RX4 26 "RootShapes$Subdivision" "scale" "I" ∈ gwT := rs_gw 150 (by decide +kernel) rfl
theorem wd_151 : Cond.fieldLink RX4 29 "RootShapes$Subdivision" "scaledU" "I" ∈ gwT := rs_gw 151 (by decide +kernel) rfl
theorem wd_152 : Cond.fieldLink RX4 32 "RootShapes$Subdivision" "scaledV" "I" ∈ gwT := rs_gw 152 (by decide +kernel) rfl
theorem wd_174 : Cond.fieldLink RX2 11 "RootShapes$Fronts" "one" "[J" ∈ gwT := rs_gw 174 (by decide +kernel) rfl
theorem wd_175 : Cond.fieldLink RX2 15 "RootShapes$Fronts" "other" "[J" ∈ gwT := rs_gw 175 (by decide +kernel) rfl
theorem wd_188 : Cond.fieldLink RX3 9 "RootShapes$Solutions" "found" "[I" ∈ gwT := rs_gw 188 (by decide +kernel) rfl
theorem wd_189 : Cond.fieldLink RX5 167 "RootShapes$Solutions" "found" "[I" ∈ gwT := rs_gw 189 (by decide +kernel) rfl
theorem wd_190 : Cond.fieldLink RX3 15 "RootShapes$Solutions" "count" "I" ∈ gwT := rs_gw 190 (by decide +kernel) rfl
theorem wd_191 : Cond.fieldLink RX5 166 "RootShapes$Solutions" "count" "I" ∈ gwT := rs_gw 191 (by decide +kernel) rfl
theorem wd_192 : Cond.fieldLink RX3 19 "RootShapes$Solutions" "modulus" "I" ∈ gwT := rs_gw 192 (by decide +kernel) rfl
theorem wd_193 : Cond.fieldLink RX5 173 "RootShapes$Solutions" "modulus" "I" ∈ gwT := rs_gw 193 (by decide +kernel) rfl
theorem wd_194 : Cond.fieldLink RX3 22 "RootShapes$Solutions" "powers" "[I" ∈ gwT := rs_gw 194 (by decide +kernel) rfl
theorem wd_204 : Cond.fieldLink RX5 10 "RootShapes" "first" "LRootShapes$Equation;" ∈ gwT := rs_gw 204 (by decide +kernel) rfl
theorem wd_205 : Cond.fieldLink RX5 16 "RootShapes" "second" "LRootShapes$Equation;" ∈ gwT := rs_gw 205 (by decide +kernel) rfl
theorem wd_206 : Cond.fieldLink RX5 22 "RootShapes" "figure" "LRootShapes$Figure;" ∈ gwT := rs_gw 206 (by decide +kernel) rfl
theorem wd_207 : Cond.fieldLink RX5 29 "RootShapes" "subdivision" "LRootShapes$Subdivision;" ∈ gwT := rs_gw 207 (by decide +kernel) rfl
theorem wd_208 : Cond.fieldLink RX5 36 "RootShapes" "fronts" "LRootShapes$Fronts;" ∈ gwT := rs_gw 208 (by decide +kernel) rfl
theorem wd_209 : Cond.fieldLink RX5 43 "RootShapes" "solutions" "LRootShapes$Solutions;" ∈ gwT := rs_gw 209 (by decide +kernel) rfl
theorem wd_224 : Cond.instanceMethod yX5_term ∈ gwT := rs_gw 224 (by decide +kernel) rfl
theorem wd_225 : Cond.selects RX5 yX5_term yX5_term ∈ gwT := rs_gw 225 (by decide +kernel) rfl
theorem wd_226 : Cond.code yX5_term cX5_term 6 (some .int) ∈ gwT := rs_gw 226 (by decide +kernel) rfl
theorem wd_227 : Cond.methodLink RX5 47 yX5_equationOf ∈ gwT := rs_gw 227 (by decide +kernel) rfl
theorem wd_229 : Cond.instanceMethod yX5_equationOf ∈ gwT := rs_gw 229 (by decide +kernel) rfl
theorem wd_230 : Cond.code yX5_equationOf cX5_equationOf 2 (some (.object "RootShapes$Equation")) ∈ gwT := rs_gw 230 (by decide +kernel) rfl
theorem wd_231 : Cond.methodLink RX5 51 yX5_within ∈ gwT := rs_gw 231 (by decide +kernel) rfl
theorem wd_232 : Cond.static yX5_within ∈ gwT := rs_gw 232 (by decide +kernel) rfl
theorem wd_233 : Cond.code yX5_within cX5_within 3 (some .boolean) ∈ gwT := rs_gw 233 (by decide +kernel) rfl
theorem wd_234 : Cond.methodLink RX5 55 yX5_isFactor ∈ gwT := rs_gw 234 (by decide +kernel) rfl
theorem wd_235 : Cond.static yX5_isFactor ∈ gwT := rs_gw 235 (by decide +kernel) rfl
theorem wd_236 : Cond.code yX5_isFactor cX5_isFactor 1 (some .boolean) ∈ gwT := rs_gw 236 (by decide +kernel) rfl
theorem wd_237 : Cond.methodLink RX5 63 yX0_holds ∈ gwT := rs_gw 237 (by decide +kernel) rfl
theorem wd_238 : Cond.instanceMethod yX0_holds ∈ gwT := rs_gw 238 (by decide +kernel) rfl
theorem wd_239 : Cond.selects RX0 yX0_holds yX0_holds ∈ gwT := rs_gw 239 (by decide +kernel) rfl
theorem wd_240 : Cond.code yX0_holds cX0_holds 4 (some .boolean) ∈ gwT := rs_gw 240 (by decide +kernel) rfl
theorem wd_241 : Cond.methodLink RX5 67 yX5_forgetFound ∈ gwT := rs_gw 241 (by decide +kernel) rfl
theorem wd_243 : Cond.instanceMethod yX5_forgetFound ∈ gwT := rs_gw 243 (by decide +kernel) rfl
theorem wd_244 : Cond.code yX5_forgetFound cX5_forgetFound 1 none ∈ gwT := rs_gw 244 (by decide +kernel) rfl
theorem wd_245 : Cond.methodLink RX5 70 yX0_add ∈ gwT := rs_gw 245 (by decide +kernel) rfl
theorem wd_246 : Cond.instanceMethod yX0_add ∈ gwT := rs_gw 246 (by decide +kernel) rfl
theorem wd_247 : Cond.selects RX0 yX0_add yX0_add ∈ gwT := rs_gw 247 (by decide +kernel) rfl
theorem wd_248 : Cond.code yX0_add cX0_add 5 (some .int) ∈ gwT := rs_gw 248 (by decide +kernel) rfl
theorem wd_250 : Cond.instanceMethod yX5_about ∈ gwT := rs_gw 250 (by decide +kernel) rfl
theorem wd_251 : Cond.selects RX5 yX5_about yX5_about ∈ gwT := rs_gw 251 (by decide +kernel) rfl
theorem wd_252 : Cond.code yX5_about cX5_about 5 (some .int) ∈ gwT := rs_gw 252 (by decide +kernel) rfl
theorem wd_253 : Cond.methodLink RX5 74 yX0_has ∈ gwT := rs_gw 253 (by decide +kernel) rfl
theorem wd_254 : Cond.instanceMethod yX0_has ∈ gwT := rs_gw 254 (by decide +kernel) rfl
theorem wd_255 : Cond.selects RX0 yX0_has yX0_has ∈ gwT := rs_gw 255 (by decide +kernel) rfl
theorem wd_256 : Cond.code yX0_has cX0_has 2 (some .boolean) ∈ gwT := rs_gw 256 (by decide +kernel) rfl
theorem wd_259 : Cond.instanceMethod yX5_change ∈ gwT := rs_gw 259 (by decide +kernel) rfl
theorem wd_260 : Cond.selects RX5 yX5_change yX5_change ∈ gwT := rs_gw 260 (by decide +kernel) rfl
theorem wd_261 : Cond.code yX5_change cX5_change 6 (some .int) ∈ gwT := rs_gw 261 (by decide +kernel) rfl
theorem wd_263 : Cond.instanceMethod yX5_clear ∈ gwT := rs_gw 263 (by decide +kernel) rfl
theorem wd_264 : Cond.selects RX5 yX5_clear yX5_clear ∈ gwT := rs_gw 264 (by decide +kernel) rfl
theorem wd_265 : Cond.code yX5_clear cX5_clear 4 (some .int) ∈ gwT := rs_gw 265 (by decide +kernel) rfl
theorem wd_267 : Cond.instanceMethod yX5_shape ∈ gwT := rs_gw 267 (by decide +kernel) rfl
theorem wd_268 : Cond.selects RX5 yX5_shape yX5_shape ∈ gwT := rs_gw 268 (by decide +kernel) rfl
theorem wd_269 : Cond.code yX5_shape cX5_shape 3 (some .int) ∈ gwT := rs_gw 269 (by decide +kernel) rfl
theorem wd_270 : Cond.methodLink RX5 90 yX5_drawFigure ∈ gwT := rs_gw 270 (by decide +kernel) rfl
theorem wd_272 : Cond.instanceMethod yX5_drawFigure ∈ gwT := rs_gw 272 (by decide +kernel) rfl
theorem wd_273 : Cond.code yX5_drawFigure cX5_drawFigure 3 (some .boolean) ∈ gwT := rs_gw 273 (by decide +kernel) rfl
theorem wd_274 : Cond.methodLink RX5 112 yX5_anyEmpty ∈ gwT := rs_gw 274 (by decide +kernel) rfl
theorem wd_276 : Cond.instanceMethod yX5_anyEmpty ∈ gwT := rs_gw 276 (by decide +kernel) rfl
theorem wd_277 : Cond.code yX5_anyEmpty cX5_anyEmpty 1 (some .boolean) ∈ gwT := rs_gw 277 (by decide +kernel) rfl
theorem wd_278 : Cond.methodLink RX5 176 yX1_drawSum ∈ gwT := rs_gw 278 (by decide +kernel) rfl
theorem wd_279 : Cond.instanceMethod yX1_drawSum ∈ gwT := rs_gw 279 (by decide +kernel) rfl
theorem wd_280 : Cond.selects RX1 yX1_drawSum yX1_drawSum ∈ gwT := rs_gw 280 (by decide +kernel) rfl
theorem wd_281 : Cond.code yX1_drawSum cX1_drawSum 5 none ∈ gwT := rs_gw 281 (by decide +kernel) rfl
theorem wd_282 : Cond.methodLink RX1 42 yX1_put ∈ gwT := rs_gw 282 (by decide +kernel) rfl
theorem wd_284 : Cond.instanceMethod yX1_put ∈ gwT := rs_gw 284 (by decide +kernel) rfl
theorem wd_285 : Cond.code yX1_put cX1_put 3 none ∈ gwT := rs_gw 285 (by decide +kernel) rfl
theorem wd_286 : Cond.methodLink RX1 46 yX1_wrap ∈ gwT := rs_gw 286 (by decide +kernel) rfl
theorem wd_288 : Cond.instanceMethod yX1_wrap ∈ gwT := rs_gw 288 (by decide +kernel) rfl
theorem wd_289 : Cond.code yX1_wrap cX1_wrap 4 none ∈ gwT := rs_gw 289 (by decide +kernel) rfl
theorem wd_290 : Cond.methodLink RX1 64 yX1_firstPoint ∈ gwT := rs_gw 290 (by decide +kernel) rfl
theorem wd_292 : Cond.instanceMethod yX1_firstPoint ∈ gwT := rs_gw 292 (by decide +kernel) rfl
theorem wd_293 : Cond.code yX1_firstPoint cX1_firstPoint 4 (some .int) ∈ gwT := rs_gw 293 (by decide +kernel) rfl
theorem wd_294 : Cond.methodLink RX1 67 yX1_nextCorner ∈ gwT := rs_gw 294 (by decide +kernel) rfl
theorem wd_296 : Cond.instanceMethod yX1_nextCorner ∈ gwT := rs_gw 296 (by decide +kernel) rfl
theorem wd_297 : Cond.code yX1_nextCorner cX1_nextCorner 5 (some .int) ∈ gwT := rs_gw 297 (by decide +kernel) rfl
theorem wd_298 : Cond.methodLink RX1 70 yX1_same ∈ gwT := rs_gw 298 (by decide +kernel) rfl
theorem wd_300 : Cond.instanceMethod yX1_same ∈ gwT := rs_gw 300 (by decide +kernel) rfl
theorem wd_301 : Cond.code yX1_same cX1_same 3 (some .boolean) ∈ gwT := rs_gw 301 (by decide +kernel) rfl
theorem wd_302 : Cond.methodLink RX1 74 yX1_sideOf ∈ gwT := rs_gw 302 (by decide +kernel) rfl
theorem wd_304 : Cond.instanceMethod yX1_sideOf ∈ gwT := rs_gw 304 (by decide +kernel) rfl
theorem wd_305 : Cond.code yX1_sideOf cX1_sideOf 4 (some .int) ∈ gwT := rs_gw 305 (by decide +kernel) rfl
theorem wd_306 : Cond.methodLink RX1 78 yX1_far ∈ gwT := rs_gw 306 (by decide +kernel) rfl
theorem wd_308 : Cond.instanceMethod yX1_far ∈ gwT := rs_gw 308 (by decide +kernel) rfl
theorem wd_309 : Cond.code yX1_far cX1_far 3 (some .int) ∈ gwT := rs_gw 309 (by decide +kernel) rfl
theorem wd_310 : Cond.methodLink RX1 81 Lib.Math.abs.name ∈ gwT := rs_gw 310 (by decide +kernel) rfl
theorem wd_311 : Cond.static Lib.Math.abs.name ∈ gwT := rs_gw 311 (by decide +kernel) rfl
theorem wd_312 : Cond.code Lib.Math.abs.name Lib.Math.abs.code 1 (some .int) ∈ gwT := rs_gw 312 (by decide +kernel) rfl
theorem wd_313 : Cond.methodLink RX5 179 yX1_drawOne ∈ gwT := rs_gw 313 (by decide +kernel) rfl
theorem wd_314 : Cond.instanceMethod yX1_drawOne ∈ gwT := rs_gw 314 (by decide +kernel) rfl
theorem wd_315 : Cond.selects RX1 yX1_drawOne yX1_drawOne ∈ gwT := rs_gw 315 (by decide +kernel) rfl
theorem wd_316 : Cond.code yX1_drawOne cX1_drawOne 3 none ∈ gwT := rs_gw 316 (by decide +kernel) rfl
theorem wd_317 : Cond.methodLink RX5 93 yX1_area ∈ gwT := rs_gw 317 (by decide +kernel) rfl
theorem wd_318 : Cond.instanceMethod yX1_area ∈ gwT := rs_gw 318 (by decide +kernel) rfl
theorem wd_319 : Cond.selects RX1 yX1_area yX1_area ∈ gwT := rs_gw 319 (by decide +kernel) rfl
theorem wd_320 : Cond.code yX1_area cX1_area 4 (some .int) ∈ gwT := rs_gw 320 (by decide +kernel) rfl
theorem wd_321 : Cond.methodLink RX1 49 yX1_after ∈ gwT := rs_gw 321 (by decide +kernel) rfl
theorem wd_323 : Cond.instanceMethod yX1_after ∈ gwT := rs_gw 323 (by decide +kernel) rfl
theorem wd_324 : Cond.code yX1_after cX1_after 2 (some .int) ∈ gwT := rs_gw 324 (by decide +kernel) rfl
theorem wd_325 : Cond.methodLink RX5 100 yX1_rim ∈ gwT := rs_gw 325 (by decide +kernel) rfl
theorem wd_326 : Cond.instanceMethod yX1_rim ∈ gwT := rs_gw 326 (by decide +kernel) rfl
theorem wd_327 : Cond.selects RX1 yX1_rim yX1_rim ∈ gwT := rs_gw 327 (by decide +kernel) rfl
theorem wd_328 : Cond.code yX1_rim cX1_rim 4 (some .int) ∈ gwT := rs_gw 328 (by decide +kernel) rfl
theorem wd_330 : Cond.static yX5_commonPart ∈ gwT := rs_gw 330 (by decide +kernel) rfl
theorem wd_331 : Cond.code yX5_commonPart cX5_commonPart 6 (some .int) ∈ gwT := rs_gw 331 (by decide +kernel) rfl
theorem wd_332 : Cond.methodLink RX5 193 Lib.Math.abs.name ∈ gwT := rs_gw 332 (by decide +kernel) rfl
theorem wd_333 : Cond.methodLink RX5 103 yX1_inner ∈ gwT := rs_gw 333 (by decide +kernel) rfl
theorem wd_334 : Cond.instanceMethod yX1_inner ∈ gwT := rs_gw 334 (by decide +kernel) rfl
theorem wd_335 : Cond.selects RX1 yX1_inner yX1_inner ∈ gwT := rs_gw 335 (by decide +kernel) rfl
theorem wd_336 : Cond.code yX1_inner cX1_inner 1 (some .int) ∈ gwT := rs_gw 336 (by decide +kernel) rfl
theorem wd_337 : Cond.methodLink RX1 57 yX1_area ∈ gwT := rs_gw 337 (by decide +kernel) rfl
theorem wd_338 : Cond.methodLink RX1 61 yX1_rim ∈ gwT := rs_gw 338 (by decide +kernel) rfl
theorem wd_340 : Cond.instanceMethod yX5_corner ∈ gwT := rs_gw 340 (by decide +kernel) rfl
theorem wd_341 : Cond.selects RX5 yX5_corner yX5_corner ∈ gwT := rs_gw 341 (by decide +kernel) rfl
theorem wd_342 : Cond.code yX5_corner cX5_corner 3 (some .int) ∈ gwT := rs_gw 342 (by decide +kernel) rfl
theorem wd_344 : Cond.instanceMethod yX5_mixed ∈ gwT := rs_gw 344 (by decide +kernel) rfl
theorem wd_345 : Cond.selects RX5 yX5_mixed yX5_mixed ∈ gwT := rs_gw 345 (by decide +kernel) rfl
theorem wd_346 : Cond.code yX5_mixed cX5_mixed 1 (some .int) ∈ gwT := rs_gw 346 (by decide +kernel) rfl
theorem wd_347 : Cond.methodLink RX5 116 yX5_areaOf ∈ gwT := rs_gw 347 (by decide +kernel) rfl
theorem wd_349 : Cond.instanceMethod yX5_areaOf ∈ gwT := rs_gw 349 (by decide +kernel) rfl
theorem wd_350 : Cond.code yX5_areaOf cX5_areaOf 2 (some .int) ∈ gwT := rs_gw 350 (by decide +kernel) rfl
theorem wd_352 : Cond.instanceMethod yX5_lift ∈ gwT := rs_gw 352 (by decide +kernel) rfl
theorem wd_353 : Cond.selects RX5 yX5_lift yX5_lift ∈ gwT := rs_gw 353 (by decide +kernel) rfl
theorem wd_354 : Cond.code yX5_lift cX5_lift 6 (some .int) ∈ gwT := rs_gw 354 (by decide +kernel) rfl
theorem wd_356 : Cond.instanceMethod yX5_cells ∈ gwT := rs_gw 356 (by decide +kernel) rfl
theorem wd_357 : Cond.selects RX5 yX5_cells yX5_cells ∈ gwT := rs_gw 357 (by decide +kernel) rfl
theorem wd_358 : Cond.code yX5_cells cX5_cells 1 (some .int) ∈ gwT := rs_gw 358 (by decide +kernel) rfl
theorem wd_359 : Cond.methodLink RX5 120 yX4_find ∈ gwT := rs_gw 359 (by decide +kernel) rfl
theorem wd_360 : Cond.instanceMethod yX4_find ∈ gwT := rs_gw 360 (by decide +kernel) rfl
theorem wd_361 : Cond.selects RX4 yX4_find yX4_find ∈ gwT := rs_gw 361 (by decide +kernel) rfl
theorem wd_362 : Cond.code yX4_find cX4_find 5 none ∈ gwT := rs_gw 362 (by decide +kernel) rfl
theorem wd_363 : Cond.methodLink RX4 40 yX4_findWith ∈ gwT := rs_gw 363 (by decide +kernel) rfl
theorem wd_365 : Cond.instanceMethod yX4_findWith ∈ gwT := rs_gw 365 (by decide +kernel) rfl
theorem wd_366 : Cond.code yX4_findWith cX4_findWith 7 none ∈ gwT := rs_gw 366 (by decide +kernel) rfl
theorem wd_367 : Cond.methodLink RX4 58 yX4_tilt ∈ gwT := rs_gw 367 (by decide +kernel) rfl
theorem wd_369 : Cond.instanceMethod yX4_tilt ∈ gwT := rs_gw 369 (by decide +kernel) rfl
theorem wd_370 : Cond.code yX4_tilt cX4_tilt 11 (some .boolean) ∈ gwT := rs_gw 370 (by decide +kernel) rfl
theorem wd_372 : Cond.static yX5_across ∈ gwT := rs_gw 372 (by decide +kernel) rfl
theorem wd_373 : Cond.code yX5_across cX5_across 6 (some .int) ∈ gwT := rs_gw 373 (by decide +kernel) rfl
theorem wd_374 : Cond.methodLink RX4 62 yX4_alikeLowest ∈ gwT := rs_gw 374 (by decide +kernel) rfl
theorem wd_376 : Cond.instanceMethod yX4_alikeLowest ∈ gwT := rs_gw 376 (by decide +kernel) rfl
theorem wd_377 : Cond.code yX4_alikeLowest cX4_alikeLowest 7 (some .int) ∈ gwT := rs_gw 377 (by decide +kernel) rfl
theorem wd_378 : Cond.methodLink RX4 79 yX4_levelOf ∈ gwT := rs_gw 378 (by decide +kernel) rfl
theorem wd_380 : Cond.instanceMethod yX4_levelOf ∈ gwT := rs_gw 380 (by decide +kernel) rfl
theorem wd_381 : Cond.code yX4_levelOf cX4_levelOf 3 (some .int) ∈ gwT := rs_gw 381 (by decide +kernel) rfl
theorem wd_382 : Cond.methodLink RX4 66 yX4_noteIfLowest ∈ gwT := rs_gw 382 (by decide +kernel) rfl
theorem wd_384 : Cond.instanceMethod yX4_noteIfLowest ∈ gwT := rs_gw 384 (by decide +kernel) rfl
theorem wd_385 : Cond.code yX4_noteIfLowest cX4_noteIfLowest 4 none ∈ gwT := rs_gw 385 (by decide +kernel) rfl
theorem wd_387 : Cond.instanceMethod yX5_cell ∈ gwT := rs_gw 387 (by decide +kernel) rfl
theorem wd_388 : Cond.selects RX5 yX5_cell yX5_cell ∈ gwT := rs_gw 388 (by decide +kernel) rfl
theorem wd_389 : Cond.code yX5_cell cX5_cell 3 (some .int) ∈ gwT := rs_gw 389 (by decide +kernel) rfl
theorem wd_390 : Cond.methodLink RX5 127 yX4_sizeOf ∈ gwT := rs_gw 390 (by decide +kernel) rfl
theorem wd_391 : Cond.instanceMethod yX4_sizeOf ∈ gwT := rs_gw 391 (by decide +kernel) rfl
theorem wd_392 : Cond.selects RX4 yX4_sizeOf yX4_sizeOf ∈ gwT := rs_gw 392 (by decide +kernel) rfl
theorem wd_393 : Cond.code yX4_sizeOf cX4_sizeOf 4 (some .int) ∈ gwT := rs_gw 393 (by decide +kernel) rfl
theorem wd_394 : Cond.methodLink RX4 44 yX4_memberOf ∈ gwT := rs_gw 394 (by decide +kernel) rfl
theorem wd_395 : Cond.instanceMethod yX4_memberOf ∈ gwT := rs_gw 395 (by decide +kernel) rfl
theorem wd_396 : Cond.selects RX4 yX4_memberOf yX4_memberOf ∈ gwT := rs_gw 396 (by decide +kernel) rfl
theorem wd_397 : Cond.code yX4_memberOf cX4_memberOf 3 (some .int) ∈ gwT := rs_gw 397 (by decide +kernel) rfl
theorem wd_398 : Cond.methodLink RX4 52 Lib.Math.abs.name ∈ gwT := rs_gw 398 (by decide +kernel) rfl
theorem wd_399 : Cond.methodLink RX5 131 yX4_memberOf ∈ gwT := rs_gw 399 (by decide +kernel) rfl
theorem wd_401 : Cond.instanceMethod yX5_fine ∈ gwT := rs_gw 401 (by decide +kernel) rfl
theorem wd_402 : Cond.selects RX5 yX5_fine yX5_fine ∈ gwT := rs_gw 402 (by decide +kernel) rfl
theorem wd_403 : Cond.code yX5_fine cX5_fine 1 (some .int) ∈ gwT := rs_gw 403 (by decide +kernel) rfl
theorem wd_405 : Cond.instanceMethod yX5_face ∈ gwT := rs_gw 405 (by decide +kernel) rfl
theorem wd_406 : Cond.selects RX5 yX5_face yX5_face ∈ gwT := rs_gw 406 (by decide +kernel) rfl
theorem wd_407 : Cond.code yX5_face cX5_face 5 (some .int) ∈ gwT := rs_gw 407 (by decide +kernel) rfl
theorem wd_408 : Cond.methodLink RX5 139 yX5_isAim ∈ gwT := rs_gw 408 (by decide +kernel) rfl
theorem wd_409 : Cond.static yX5_isAim ∈ gwT := rs_gw 409 (by decide +kernel) rfl
theorem wd_410 : Cond.code yX5_isAim cX5_isAim 2 (some .boolean) ∈ gwT := rs_gw 410 (by decide +kernel) rfl
theorem wd_411 : Cond.methodLink RX5 142 yX2_bitsOf ∈ gwT := rs_gw 411 (by decide +kernel) rfl
theorem wd_412 : Cond.instanceMethod yX2_bitsOf ∈ gwT := rs_gw 412 (by decide +kernel) rfl
theorem wd_413 : Cond.selects RX2 yX2_bitsOf yX2_bitsOf ∈ gwT := rs_gw 413 (by decide +kernel) rfl
theorem wd_414 : Cond.code yX2_bitsOf cX2_bitsOf 8 (some .int) ∈ gwT := rs_gw 414 (by decide +kernel) rfl
theorem wd_415 : Cond.constant RX2 20 (2147483647) ∈ gwT := rs_gw 415 (by decide +kernel) rfl
theorem wd_417 : Cond.instanceMethod yX5_lose ∈ gwT := rs_gw 417 (by decide +kernel) rfl
theorem wd_418 : Cond.selects RX5 yX5_lose yX5_lose ∈ gwT := rs_gw 418 (by decide +kernel) rfl
theorem wd_419 : Cond.code yX5_lose cX5_lose 3 (some .int) ∈ gwT := rs_gw 419 (by decide +kernel) rfl
theorem wd_420 : Cond.methodLink RX5 146 yX2_shareRoot ∈ gwT := rs_gw 420 (by decide +kernel) rfl
theorem wd_421 : Cond.instanceMethod yX2_shareRoot ∈ gwT := rs_gw 421 (by decide +kernel) rfl
theorem wd_422 : Cond.selects RX2 yX2_shareRoot yX2_shareRoot ∈ gwT := rs_gw 422 (by decide +kernel) rfl
theorem wd_423 : Cond.code yX2_shareRoot cX2_shareRoot 13 (some .boolean) ∈ gwT := rs_gw 423 (by decide +kernel) rfl
theorem wd_424 : Cond.methodLink RX2 34 yX2_bitsOf ∈ gwT := rs_gw 424 (by decide +kernel) rfl
theorem wd_426 : Cond.methodLink RX2 42 yJ6_bitCount_0f7a4 ∈ gwT := rs_gw 426 (by decide +kernel) rfl
theorem wd_427 : Cond.static yJ6_bitCount_0f7a4 ∈ gwT := rs_gw 427 (by decide +kernel) rfl
theorem wd_428 : Cond.code yJ6_bitCount_0f7a4 cJ6_bitCount_0f7a4 1 (some .int) ∈ gwT := rs_gw 428 (by decide +kernel) rfl
theorem wd_429 : Cond.constant RJ6 265 (1431655765) ∈ gwT := rs_gw 429 (by decide +kernel) rfl
theorem wd_430 : Cond.constant RJ6 266 (858993459) ∈ gwT := rs_gw 430 (by decide +kernel) rfl
theorem wd_431 : Cond.constant RJ6 267 (252645135) ∈ gwT := rs_gw 431 (by decide +kernel) rfl
theorem wd_432 : Cond.fieldLink RX2 46 "RootShapes$Fronts" "PRIMES" "[J" ∈ gwT := rs_gw 432 (by decide +kernel) rfl
theorem wd_434 : Cond.methodLink RX2 49 yX2_layAlong ∈ gwT := rs_gw 434 (by decide +kernel) rfl
theorem wd_436 : Cond.instanceMethod yX2_layAlong ∈ gwT := rs_gw 436 (by decide +kernel) rfl
theorem wd_437 : Cond.code yX2_layAlong cX2_layAlong 10 none ∈ gwT := rs_gw 437 (by decide +kernel) rfl
theorem wd_438 : Cond.methodLink RX2 57 Lib.Math.min.name ∈ gwT := rs_gw 438 (by decide +kernel) rfl
theorem wd_439 : Cond.static Lib.Math.min.name ∈ gwT := rs_gw 439 (by decide +kernel) rfl
theorem wd_440 : Cond.code Lib.Math.min.name Lib.Math.min.code 2 (some .int) ∈ gwT := rs_gw 440 (by decide +kernel) rfl
theorem wd_442 : Cond.methodLink RX2 53 yX2_shareRootBy ∈ gwT := rs_gw 442 (by decide +kernel) rfl
theorem wd_444 : Cond.instanceMethod yX2_shareRootBy ∈ gwT := rs_gw 444 (by decide +kernel) rfl
theorem wd_445 : Cond.code yX2_shareRootBy cX2_shareRootBy 6 (some .boolean) ∈ gwT := rs_gw 445 (by decide +kernel) rfl
theorem wd_446 : Cond.methodLink RX2 69 yX2_degreeOf ∈ gwT := rs_gw 446 (by decide +kernel) rfl
theorem wd_448 : Cond.instanceMethod yX2_degreeOf ∈ gwT := rs_gw 448 (by decide +kernel) rfl
theorem wd_449 : Cond.code yX2_degreeOf cX2_degreeOf 3 (some .int) ∈ gwT := rs_gw 449 (by decide +kernel) rfl
theorem wd_450 : Cond.methodLink RX2 73 yX2_lower ∈ gwT := rs_gw 450 (by decide +kernel) rfl
theorem wd_452 : Cond.instanceMethod yX2_lower ∈ gwT := rs_gw 452 (by decide +kernel) rfl
theorem wd_453 : Cond.code yX2_lower cX2_lower 15 none ∈ gwT := rs_gw 453 (by decide +kernel) rfl
theorem wd_454 : Cond.methodLink RX2 77 Lib.Math.max.name ∈ gwT := rs_gw 454 (by decide +kernel) rfl
theorem wd_455 : Cond.static Lib.Math.max.name ∈ gwT := rs_gw 455 (by decide +kernel) rfl
theorem wd_456 : Cond.code Lib.Math.max.name Lib.Math.max.code 2 (some .int) ∈ gwT := rs_gw 456 (by decide +kernel) rfl
theorem wd_458 : Cond.instanceMethod yX5_keep ∈ gwT := rs_gw 458 (by decide +kernel) rfl
theorem wd_459 : Cond.selects RX5 yX5_keep yX5_keep ∈ gwT := rs_gw 459 (by decide +kernel) rfl
theorem wd_460 : Cond.code yX5_keep cX5_keep 1 (some .int) ∈ gwT := rs_gw 460 (by decide +kernel) rfl
theorem wd_461 : Cond.methodLink RX5 150 yX5_losesSomewhere ∈ gwT := rs_gw 461 (by decide +kernel) rfl
theorem wd_463 : Cond.instanceMethod yX5_losesSomewhere ∈ gwT := rs_gw 463 (by decide +kernel) rfl
theorem wd_464 : Cond.code yX5_losesSomewhere cX5_losesSomewhere 3 (some .boolean) ∈ gwT := rs_gw 464 (by decide +kernel) rfl
theorem wd_465 : Cond.methodLink RX5 183 yX5_commonPart ∈ gwT := rs_gw 465 (by decide +kernel) rfl
theorem wd_467 : Cond.instanceMethod yX5_two ∈ gwT := rs_gw 467 (by decide +kernel) rfl
theorem wd_468 : Cond.selects RX5 yX5_two yX5_two ∈ gwT := rs_gw 468 (by decide +kernel) rfl
theorem wd_469 : Cond.code yX5_two cX5_two 3 (some .int) ∈ gwT := rs_gw 469 (by decide +kernel) rfl
theorem wd_470 : Cond.methodLink RX5 153 yX5_across ∈ gwT := rs_gw 470 (by decide +kernel) rfl
theorem wd_471 : Cond.methodLink RX5 157 yX5_realAnswers ∈ gwT := rs_gw 471 (by decide +kernel) rfl
theorem wd_473 : Cond.instanceMethod yX5_realAnswers ∈ gwT := rs_gw 473 (by decide +kernel) rfl
theorem wd_474 : Cond.code yX5_realAnswers cX5_realAnswers 5 (some .int) ∈ gwT := rs_gw 474 (by decide +kernel) rfl
theorem wd_475 : Cond.methodLink RX5 186 yX0_signsDiffer ∈ gwT := rs_gw 475 (by decide +kernel) rfl
theorem wd_476 : Cond.instanceMethod yX0_signsDiffer ∈ gwT := rs_gw 476 (by decide +kernel) rfl
theorem wd_477 : Cond.selects RX0 yX0_signsDiffer yX0_signsDiffer ∈ gwT := rs_gw 477 (by decide +kernel) rfl
theorem wd_478 : Cond.code yX0_signsDiffer cX0_signsDiffer 3 (some .boolean) ∈ gwT := rs_gw 478 (by decide +kernel) rfl
theorem wd_479 : Cond.methodLink RX0 32 yX0_isMinus ∈ gwT := rs_gw 479 (by decide +kernel) rfl
theorem wd_481 : Cond.instanceMethod yX0_isMinus ∈ gwT := rs_gw 481 (by decide +kernel) rfl
theorem wd_482 : Cond.code yX0_isMinus cX0_isMinus 5 (some .boolean) ∈ gwT := rs_gw 482 (by decide +kernel) rfl
theorem wd_484 : Cond.instanceMethod yX5_round ∈ gwT := rs_gw 484 (by decide +kernel) rfl
theorem wd_485 : Cond.selects RX5 yX5_round yX5_round ∈ gwT := rs_gw 485 (by decide +kernel) rfl
theorem wd_486 : Cond.code yX5_round cX5_round 2 (some .int) ∈ gwT := rs_gw 486 (by decide +kernel) rfl
theorem wd_487 : Cond.methodLink RX5 160 yX5_isRoundPrime ∈ gwT := rs_gw 487 (by decide +kernel) rfl
theorem wd_488 : Cond.static yX5_isRoundPrime ∈ gwT := rs_gw 488 (by decide +kernel) rfl
theorem wd_489 : Cond.code yX5_isRoundPrime cX5_isRoundPrime 5 (some .boolean) ∈ gwT := rs_gw 489 (by decide +kernel) rfl
theorem wd_490 : Cond.fieldLink RX5 190 "RootShapes" "ROUND_PRIMES" "[I" ∈ gwT := rs_gw 490 (by decide +kernel) rfl
theorem wd_492 : Cond.methodLink RX5 163 yX3_find ∈ gwT := rs_gw 492 (by decide +kernel) rfl
theorem wd_493 : Cond.instanceMethod yX3_find ∈ gwT := rs_gw 493 (by decide +kernel) rfl
theorem wd_494 : Cond.selects RX3 yX3_find yX3_find ∈ gwT := rs_gw 494 (by decide +kernel) rfl
theorem wd_495 : Cond.code yX3_find cX3_find 6 none ∈ gwT := rs_gw 495 (by decide +kernel) rfl
theorem wd_497 : Cond.methodLink RX3 29 yX3_fillPowers ∈ gwT := rs_gw 497 (by decide +kernel) rfl
theorem wd_499 : Cond.instanceMethod yX3_fillPowers ∈ gwT := rs_gw 499 (by decide +kernel) rfl
theorem wd_500 : Cond.code yX3_fillPowers cX3_fillPowers 5 none ∈ gwT := rs_gw 500 (by decide +kernel) rfl
theorem wd_501 : Cond.methodLink RX3 33 yX3_isNought ∈ gwT := rs_gw 501 (by decide +kernel) rfl
theorem wd_503 : Cond.instanceMethod yX3_isNought ∈ gwT := rs_gw 503 (by decide +kernel) rfl
theorem wd_504 : Cond.code yX3_isNought cX3_isNought 7 (some .boolean) ∈ gwT := rs_gw 504 (by decide +kernel) rfl
theorem wd_506 : Cond.instanceMethod yX5_answer ∈ gwT := rs_gw 506 (by decide +kernel) rfl
theorem wd_507 : Cond.selects RX5 yX5_answer yX5_answer ∈ gwT := rs_gw 507 (by decide +kernel) rfl
theorem wd_508 : Cond.code yX5_answer cX5_answer 3 (some .int) ∈ gwT := rs_gw 508 (by decide +kernel) rfl
theorem wd_510 : Cond.instanceMethod yX5_told ∈ gwT := rs_gw 510 (by decide +kernel) rfl
theorem wd_511 : Cond.selects RX5 yX5_told yX5_told ∈ gwT := rs_gw 511 (by decide +kernel) rfl
theorem wd_512 : Cond.code yX5_told cX5_told 3 (some .int) ∈ gwT := rs_gw 512 (by decide +kernel) rfl
theorem wd_519 : Cond.fieldLink RX6 7 "RootShapesModel" "termI" "[I" ∈ gwT := rs_gw 519 (by decide +kernel) rfl
theorem wd_520 : Cond.fieldLink RX6 13 "RootShapesModel" "termJ" "[I" ∈ gwT := rs_gw 520 (by decide +kernel) rfl
theorem wd_521 : Cond.fieldLink RX6 16 "RootShapesModel" "termC" "[I" ∈ gwT := rs_gw 521 (by decide +kernel) rfl
theorem wd_522 : Cond.fieldLink RX6 19 "RootShapesModel" "lifts" "[I" ∈ gwT := rs_gw 522 (by decide +kernel) rfl
theorem wd_523 : Cond.fieldLink RX6 22 "RootShapesModel" "many" "[I" ∈ gwT := rs_gw 523 (by decide +kernel) rfl
theorem wd_524 : Cond.fieldLink RX6 25 "RootShapesModel" "pointX" "[I" ∈ gwT := rs_gw 524 (by decide +kernel) rfl
theorem wd_525 : Cond.fieldLink RX6 28 "RootShapesModel" "pointY" "[I" ∈ gwT := rs_gw 525 (by decide +kernel) rfl
theorem wd_526 : Cond.fieldLink RX6 66 "RootShapesModel" "points" "I" ∈ gwT := rs_gw 526 (by decide +kernel) rfl
theorem wd_527 : Cond.fieldLink RX6 31 "RootShapesModel" "cornerX" "[I" ∈ gwT := rs_gw 527 (by decide +kernel) rfl
theorem wd_528 : Cond.fieldLink RX6 34 "RootShapesModel" "cornerY" "[I" ∈ gwT := rs_gw 528 (by decide +kernel) rfl
theorem wd_529 : Cond.fieldLink RX6 74 "RootShapesModel" "corners" "I" ∈ gwT := rs_gw 529 (by decide +kernel) rfl
theorem wd_530 : Cond.fieldLink RX6 106 "RootShapesModel" "turn" "I" ∈ gwT := rs_gw 530 (by decide +kernel) rfl
theorem wd_531 : Cond.fieldLink RX6 109 "RootShapesModel" "upperU" "I" ∈ gwT := rs_gw 531 (by decide +kernel) rfl
theorem wd_532 : Cond.fieldLink RX6 112 "RootShapesModel" "upperV" "I" ∈ gwT := rs_gw 532 (by decide +kernel) rfl
theorem wd_533 : Cond.fieldLink RX6 118 "RootShapesModel" "isFine" "Z" ∈ gwT := rs_gw 533 (by decide +kernel) rfl
theorem wd_534 : Cond.fieldLink RX6 132 "RootShapesModel" "cellA" "I" ∈ gwT := rs_gw 534 (by decide +kernel) rfl
theorem wd_535 : Cond.fieldLink RX6 135 "RootShapesModel" "cellB" "I" ∈ gwT := rs_gw 535 (by decide +kernel) rfl
theorem wd_536 : Cond.fieldLink RX6 138 "RootShapesModel" "cellC" "I" ∈ gwT := rs_gw 536 (by decide +kernel) rfl
theorem wd_537 : Cond.fieldLink RX6 141 "RootShapesModel" "cellD" "I" ∈ gwT := rs_gw 537 (by decide +kernel) rfl
theorem wd_538 : Cond.fieldLink RX6 125 "RootShapesModel" "allFine" "Z" ∈ gwT := rs_gw 538 (by decide +kernel) rfl
theorem wd_539 : Cond.fieldLink RX6 37 "RootShapesModel" "poly" "[J" ∈ gwT := rs_gw 539 (by decide +kernel) rfl
theorem wd_540 : Cond.fieldLink RX6 41 "RootShapesModel" "degree" "[I" ∈ gwT := rs_gw 540 (by decide +kernel) rfl
theorem wd_587 : Cond.instanceMethod yX6_term ∈ gwT := rs_gw 587 (by decide +kernel) rfl
theorem wd_588 : Cond.selects RX6 yX6_term yX6_term ∈ gwT := rs_gw 588 (by decide +kernel) rfl
theorem wd_589 : Cond.code yX6_term cX6_term 6 (some .int) ∈ gwT := rs_gw 589 (by decide +kernel) rfl
theorem wd_590 : Cond.methodLink RX6 52 yX6_isEquation ∈ gwT := rs_gw 590 (by decide +kernel) rfl
theorem wd_591 : Cond.static yX6_isEquation ∈ gwT := rs_gw 591 (by decide +kernel) rfl
theorem wd_592 : Cond.code yX6_isEquation cX6_isEquation 1 (some .boolean) ∈ gwT := rs_gw 592 (by decide +kernel) rfl
theorem wd_593 : Cond.methodLink RX6 48 yX6_in ∈ gwT := rs_gw 593 (by decide +kernel) rfl
theorem wd_594 : Cond.static yX6_in ∈ gwT := rs_gw 594 (by decide +kernel) rfl
theorem wd_595 : Cond.code yX6_in cX6_in 6 (some .boolean) ∈ gwT := rs_gw 595 (by decide +kernel) rfl
theorem wd_596 : Cond.constantLong RX6 56 (6) ∈ gwT := rs_gw 596 (by decide +kernel) rfl
theorem wd_597 : Cond.constantLong RX6 58 (-20) ∈ gwT := rs_gw 597 (by decide +kernel) rfl
theorem wd_598 : Cond.constantLong RX6 60 (20) ∈ gwT := rs_gw 598 (by decide +kernel) rfl
theorem wd_600 : Cond.instanceMethod yX6_about ∈ gwT := rs_gw 600 (by decide +kernel) rfl
theorem wd_601 : Cond.selects RX6 yX6_about yX6_about ∈ gwT := rs_gw 601 (by decide +kernel) rfl
theorem wd_602 : Cond.code yX6_about cX6_about 5 (some .int) ∈ gwT := rs_gw 602 (by decide +kernel) rfl
theorem wd_603 : Cond.methodLink RX6 62 yX6_isTerm ∈ gwT := rs_gw 603 (by decide +kernel) rfl
theorem wd_605 : Cond.instanceMethod yX6_isTerm ∈ gwT := rs_gw 605 (by decide +kernel) rfl
theorem wd_606 : Cond.code yX6_isTerm cX6_isTerm 3 (some .boolean) ∈ gwT := rs_gw 606 (by decide +kernel) rfl
theorem wd_608 : Cond.instanceMethod yX6_change ∈ gwT := rs_gw 608 (by decide +kernel) rfl
theorem wd_609 : Cond.selects RX6 yX6_change yX6_change ∈ gwT := rs_gw 609 (by decide +kernel) rfl
theorem wd_610 : Cond.code yX6_change cX6_change 5 (some .int) ∈ gwT := rs_gw 610 (by decide +kernel) rfl
theorem wd_612 : Cond.instanceMethod yX6_clear ∈ gwT := rs_gw 612 (by decide +kernel) rfl
theorem wd_613 : Cond.selects RX6 yX6_clear yX6_clear ∈ gwT := rs_gw 613 (by decide +kernel) rfl
theorem wd_614 : Cond.code yX6_clear cX6_clear 3 (some .int) ∈ gwT := rs_gw 614 (by decide +kernel) rfl
theorem wd_616 : Cond.instanceMethod yX6_shape ∈ gwT := rs_gw 616 (by decide +kernel) rfl
theorem wd_617 : Cond.selects RX6 yX6_shape yX6_shape ∈ gwT := rs_gw 617 (by decide +kernel) rfl
theorem wd_618 : Cond.code yX6_shape cX6_shape 5 (some .int) ∈ gwT := rs_gw 618 (by decide +kernel) rfl
theorem wd_619 : Cond.constantLong RX6 91 (2) ∈ gwT := rs_gw 619 (by decide +kernel) rfl
theorem wd_620 : Cond.constantLong RX6 93 (3) ∈ gwT := rs_gw 620 (by decide +kernel) rfl
theorem wd_621 : Cond.methodLink RX6 95 yX6_isThere ∈ gwT := rs_gw 621 (by decide +kernel) rfl
theorem wd_623 : Cond.instanceMethod yX6_isThere ∈ gwT := rs_gw 623 (by decide +kernel) rfl
theorem wd_624 : Cond.code yX6_isThere cX6_isThere 2 (some .boolean) ∈ gwT := rs_gw 624 (by decide +kernel) rfl
theorem wd_625 : Cond.methodLink RX6 98 yX6_areaOf ∈ gwT := rs_gw 625 (by decide +kernel) rfl
theorem wd_627 : Cond.instanceMethod yX6_areaOf ∈ gwT := rs_gw 627 (by decide +kernel) rfl
theorem wd_628 : Cond.code yX6_areaOf cX6_areaOf 5 (some .int) ∈ gwT := rs_gw 628 (by decide +kernel) rfl
theorem wd_629 : Cond.methodLink RX6 84 yX6_goRound ∈ gwT := rs_gw 629 (by decide +kernel) rfl
theorem wd_631 : Cond.instanceMethod yX6_goRound ∈ gwT := rs_gw 631 (by decide +kernel) rfl
theorem wd_632 : Cond.code yX6_goRound cX6_goRound 7 none ∈ gwT := rs_gw 632 (by decide +kernel) rfl
theorem wd_633 : Cond.methodLink RX6 70 yX6_gather ∈ gwT := rs_gw 633 (by decide +kernel) rfl
theorem wd_635 : Cond.instanceMethod yX6_gather ∈ gwT := rs_gw 635 (by decide +kernel) rfl
theorem wd_636 : Cond.code yX6_gather cX6_gather 4 none ∈ gwT := rs_gw 636 (by decide +kernel) rfl
theorem wd_637 : Cond.methodLink RX6 77 yX6_isSame ∈ gwT := rs_gw 637 (by decide +kernel) rfl
theorem wd_639 : Cond.instanceMethod yX6_isSame ∈ gwT := rs_gw 639 (by decide +kernel) rfl
theorem wd_640 : Cond.code yX6_isSame cX6_isSame 3 (some .boolean) ∈ gwT := rs_gw 640 (by decide +kernel) rfl
theorem wd_641 : Cond.methodLink RX6 80 yX6_isOuter ∈ gwT := rs_gw 641 (by decide +kernel) rfl
theorem wd_643 : Cond.instanceMethod yX6_isOuter ∈ gwT := rs_gw 643 (by decide +kernel) rfl
theorem wd_644 : Cond.code yX6_isOuter cX6_isOuter 9 (some .boolean) ∈ gwT := rs_gw 644 (by decide +kernel) rfl
theorem wd_645 : Cond.methodLink RX6 101 yX6_rimOf ∈ gwT := rs_gw 645 (by decide +kernel) rfl
theorem wd_647 : Cond.instanceMethod yX6_rimOf ∈ gwT := rs_gw 647 (by decide +kernel) rfl
theorem wd_648 : Cond.code yX6_rimOf cX6_rimOf 5 (some .int) ∈ gwT := rs_gw 648 (by decide +kernel) rfl
theorem wd_649 : Cond.methodLink RX6 87 yX6_common ∈ gwT := rs_gw 649 (by decide +kernel) rfl
theorem wd_650 : Cond.static yX6_common ∈ gwT := rs_gw 650 (by decide +kernel) rfl
theorem wd_651 : Cond.code yX6_common cX6_common 5 (some .int) ∈ gwT := rs_gw 651 (by decide +kernel) rfl
theorem wd_652 : Cond.methodLink RX6 44 yX6_size ∈ gwT := rs_gw 652 (by decide +kernel) rfl
theorem wd_653 : Cond.static yX6_size ∈ gwT := rs_gw 653 (by decide +kernel) rfl
theorem wd_654 : Cond.code yX6_size cX6_size 1 (some .int) ∈ gwT := rs_gw 654 (by decide +kernel) rfl
theorem wd_656 : Cond.instanceMethod yX6_corner ∈ gwT := rs_gw 656 (by decide +kernel) rfl
theorem wd_657 : Cond.selects RX6 yX6_corner yX6_corner ∈ gwT := rs_gw 657 (by decide +kernel) rfl
theorem wd_658 : Cond.code yX6_corner cX6_corner 3 (some .int) ∈ gwT := rs_gw 658 (by decide +kernel) rfl
theorem wd_660 : Cond.instanceMethod yX6_mixed ∈ gwT := rs_gw 660 (by decide +kernel) rfl
theorem wd_661 : Cond.selects RX6 yX6_mixed yX6_mixed ∈ gwT := rs_gw 661 (by decide +kernel) rfl
theorem wd_662 : Cond.code yX6_mixed cX6_mixed 1 (some .int) ∈ gwT := rs_gw 662 (by decide +kernel) rfl
theorem wd_664 : Cond.instanceMethod yX6_lift ∈ gwT := rs_gw 664 (by decide +kernel) rfl
theorem wd_665 : Cond.selects RX6 yX6_lift yX6_lift ∈ gwT := rs_gw 665 (by decide +kernel) rfl
theorem wd_666 : Cond.code yX6_lift cX6_lift 5 (some .int) ∈ gwT := rs_gw 666 (by decide +kernel) rfl
theorem wd_667 : Cond.constantLong RX6 104 (100) ∈ gwT := rs_gw 667 (by decide +kernel) rfl
theorem wd_669 : Cond.instanceMethod yX6_cells ∈ gwT := rs_gw 669 (by decide +kernel) rfl
theorem wd_670 : Cond.selects RX6 yX6_cells yX6_cells ∈ gwT := rs_gw 670 (by decide +kernel) rfl
theorem wd_671 : Cond.code yX6_cells cX6_cells 1 (some .int) ∈ gwT := rs_gw 671 (by decide +kernel) rfl
theorem wd_672 : Cond.methodLink RX6 144 yX6_goThrough ∈ gwT := rs_gw 672 (by decide +kernel) rfl
theorem wd_674 : Cond.instanceMethod yX6_goThrough ∈ gwT := rs_gw 674 (by decide +kernel) rfl
theorem wd_675 : Cond.code yX6_goThrough cX6_goThrough 7 (some .int) ∈ gwT := rs_gw 675 (by decide +kernel) rfl
theorem wd_676 : Cond.methodLink RX6 128 yX6_isCell ∈ gwT := rs_gw 676 (by decide +kernel) rfl
theorem wd_678 : Cond.instanceMethod yX6_isCell ∈ gwT := rs_gw 678 (by decide +kernel) rfl
theorem wd_679 : Cond.code yX6_isCell cX6_isCell 13 (some .boolean) ∈ gwT := rs_gw 679 (by decide +kernel) rfl
theorem wd_680 : Cond.methodLink RX6 122 yX6_isLowest ∈ gwT := rs_gw 680 (by decide +kernel) rfl
theorem wd_682 : Cond.instanceMethod yX6_isLowest ∈ gwT := rs_gw 682 (by decide +kernel) rfl
theorem wd_683 : Cond.code yX6_isLowest cX6_isLowest 6 (some .boolean) ∈ gwT := rs_gw 683 (by decide +kernel) rfl
theorem wd_684 : Cond.methodLink RX6 115 yX6_height ∈ gwT := rs_gw 684 (by decide +kernel) rfl
theorem wd_686 : Cond.instanceMethod yX6_height ∈ gwT := rs_gw 686 (by decide +kernel) rfl
theorem wd_687 : Cond.code yX6_height cX6_height 3 (some .int) ∈ gwT := rs_gw 687 (by decide +kernel) rfl
theorem wd_689 : Cond.instanceMethod yX6_cell ∈ gwT := rs_gw 689 (by decide +kernel) rfl
theorem wd_690 : Cond.selects RX6 yX6_cell yX6_cell ∈ gwT := rs_gw 690 (by decide +kernel) rfl
theorem wd_691 : Cond.code yX6_cell cX6_cell 3 (some .int) ∈ gwT := rs_gw 691 (by decide +kernel) rfl
theorem wd_693 : Cond.instanceMethod yX6_fine ∈ gwT := rs_gw 693 (by decide +kernel) rfl
theorem wd_694 : Cond.selects RX6 yX6_fine yX6_fine ∈ gwT := rs_gw 694 (by decide +kernel) rfl
theorem wd_695 : Cond.code yX6_fine cX6_fine 2 (some .int) ∈ gwT := rs_gw 695 (by decide +kernel) rfl
theorem wd_697 : Cond.instanceMethod yX6_face ∈ gwT := rs_gw 697 (by decide +kernel) rfl
theorem wd_698 : Cond.selects RX6 yX6_face yX6_face ∈ gwT := rs_gw 698 (by decide +kernel) rfl
theorem wd_699 : Cond.code yX6_face cX6_face 4 (some .int) ∈ gwT := rs_gw 699 (by decide +kernel) rfl
theorem wd_700 : Cond.methodLink RX6 149 yX6_isWay ∈ gwT := rs_gw 700 (by decide +kernel) rfl
theorem wd_701 : Cond.static yX6_isWay ∈ gwT := rs_gw 701 (by decide +kernel) rfl
theorem wd_702 : Cond.code yX6_isWay cX6_isWay 2 (some .boolean) ∈ gwT := rs_gw 702 (by decide +kernel) rfl
theorem wd_703 : Cond.constantLong RX6 147 (-6) ∈ gwT := rs_gw 703 (by decide +kernel) rfl
theorem wd_704 : Cond.methodLink RX6 152 yX6_faceOf ∈ gwT := rs_gw 704 (by decide +kernel) rfl
theorem wd_706 : Cond.instanceMethod yX6_faceOf ∈ gwT := rs_gw 706 (by decide +kernel) rfl
theorem wd_707 : Cond.code yX6_faceOf cX6_faceOf 9 (some .int) ∈ gwT := rs_gw 707 (by decide +kernel) rfl
theorem wd_709 : Cond.instanceMethod yX6_lose ∈ gwT := rs_gw 709 (by decide +kernel) rfl
theorem wd_710 : Cond.selects RX6 yX6_lose yX6_lose ∈ gwT := rs_gw 710 (by decide +kernel) rfl
theorem wd_711 : Cond.code yX6_lose cX6_lose 3 (some .int) ∈ gwT := rs_gw 711 (by decide +kernel) rfl
theorem wd_712 : Cond.methodLink RX6 184 yX6_loses ∈ gwT := rs_gw 712 (by decide +kernel) rfl
theorem wd_714 : Cond.instanceMethod yX6_loses ∈ gwT := rs_gw 714 (by decide +kernel) rfl
theorem wd_715 : Cond.code yX6_loses cX6_loses 3 (some .boolean) ∈ gwT := rs_gw 715 (by decide +kernel) rfl
theorem wd_716 : Cond.constantLong RX6 174 (2147483647) ∈ gwT := rs_gw 716 (by decide +kernel) rfl
theorem wd_717 : Cond.methodLink RX6 176 yX6_meet ∈ gwT := rs_gw 717 (by decide +kernel) rfl
theorem wd_719 : Cond.instanceMethod yX6_meet ∈ gwT := rs_gw 719 (by decide +kernel) rfl
theorem wd_720 : Cond.code yX6_meet cX6_meet 8 (some .boolean) ∈ gwT := rs_gw 720 (by decide +kernel) rfl
theorem wd_721 : Cond.methodLink RX6 166 yX6_lay ∈ gwT := rs_gw 721 (by decide +kernel) rfl
theorem wd_723 : Cond.instanceMethod yX6_lay ∈ gwT := rs_gw 723 (by decide +kernel) rfl
theorem wd_724 : Cond.code yX6_lay cX6_lay 15 (some .boolean) ∈ gwT := rs_gw 724 (by decide +kernel) rfl
theorem wd_725 : Cond.methodLink RX6 156 yX6_stepOf ∈ gwT := rs_gw 725 (by decide +kernel) rfl
theorem wd_727 : Cond.instanceMethod yX6_stepOf ∈ gwT := rs_gw 727 (by decide +kernel) rfl
theorem wd_728 : Cond.code yX6_stepOf cX6_stepOf 4 (some .int) ∈ gwT := rs_gw 728 (by decide +kernel) rfl
theorem wd_729 : Cond.methodLink RX6 159 yX6_floorOf ∈ gwT := rs_gw 729 (by decide +kernel) rfl
theorem wd_730 : Cond.static yX6_floorOf ∈ gwT := rs_gw 730 (by decide +kernel) rfl
theorem wd_731 : Cond.code yX6_floorOf cX6_floorOf 5 (some .int) ∈ gwT := rs_gw 731 (by decide +kernel) rfl
theorem wd_732 : Cond.methodLink RX6 170 yX6_reduce ∈ gwT := rs_gw 732 (by decide +kernel) rfl
theorem wd_734 : Cond.instanceMethod yX6_reduce ∈ gwT := rs_gw 734 (by decide +kernel) rfl
theorem wd_735 : Cond.code yX6_reduce cX6_reduce 13 none ∈ gwT := rs_gw 735 (by decide +kernel) rfl
theorem wd_736 : Cond.methodLink RX6 162 yX6_power ∈ gwT := rs_gw 736 (by decide +kernel) rfl
theorem wd_737 : Cond.static yX6_power ∈ gwT := rs_gw 737 (by decide +kernel) rfl
theorem wd_738 : Cond.code yX6_power cX6_power 12 (some .long) ∈ gwT := rs_gw 738 (by decide +kernel) rfl
theorem wd_739 : Cond.constantLong RX6 180 (2147483629) ∈ gwT := rs_gw 739 (by decide +kernel) rfl
theorem wd_740 : Cond.constantLong RX6 182 (2147483587) ∈ gwT := rs_gw 740 (by decide +kernel) rfl
theorem wd_742 : Cond.instanceMethod yX6_keep ∈ gwT := rs_gw 742 (by decide +kernel) rfl
theorem wd_743 : Cond.selects RX6 yX6_keep yX6_keep ∈ gwT := rs_gw 743 (by decide +kernel) rfl
theorem wd_744 : Cond.code yX6_keep cX6_keep 3 (some .int) ∈ gwT := rs_gw 744 (by decide +kernel) rfl
theorem wd_746 : Cond.instanceMethod yX6_two ∈ gwT := rs_gw 746 (by decide +kernel) rfl
theorem wd_747 : Cond.selects RX6 yX6_two yX6_two ∈ gwT := rs_gw 747 (by decide +kernel) rfl
theorem wd_748 : Cond.code yX6_two cX6_two 5 (some .int) ∈ gwT := rs_gw 748 (by decide +kernel) rfl
theorem wd_749 : Cond.methodLink RX6 187 yX6_areUnlike ∈ gwT := rs_gw 749 (by decide +kernel) rfl
theorem wd_751 : Cond.instanceMethod yX6_areUnlike ∈ gwT := rs_gw 751 (by decide +kernel) rfl
theorem wd_752 : Cond.code yX6_areUnlike cX6_areUnlike 6 (some .boolean) ∈ gwT := rs_gw 752 (by decide +kernel) rfl
theorem wd_754 : Cond.instanceMethod yX6_round ∈ gwT := rs_gw 754 (by decide +kernel) rfl
theorem wd_755 : Cond.selects RX6 yX6_round yX6_round ∈ gwT := rs_gw 755 (by decide +kernel) rfl
theorem wd_756 : Cond.code yX6_round cX6_round 2 (some .int) ∈ gwT := rs_gw 756 (by decide +kernel) rfl
theorem wd_757 : Cond.methodLink RX6 195 yX6_isPrime ∈ gwT := rs_gw 757 (by decide +kernel) rfl
theorem wd_758 : Cond.static yX6_isPrime ∈ gwT := rs_gw 758 (by decide +kernel) rfl
theorem wd_759 : Cond.code yX6_isPrime cX6_isPrime 2 (some .boolean) ∈ gwT := rs_gw 759 (by decide +kernel) rfl
theorem wd_760 : Cond.constantLong RX6 190 (31) ∈ gwT := rs_gw 760 (by decide +kernel) rfl
theorem wd_761 : Cond.methodLink RX6 198 yX6_answers ∈ gwT := rs_gw 761 (by decide +kernel) rfl
theorem wd_763 : Cond.instanceMethod yX6_answers ∈ gwT := rs_gw 763 (by decide +kernel) rfl
theorem wd_764 : Cond.code yX6_answers cX6_answers 6 (some .int) ∈ gwT := rs_gw 764 (by decide +kernel) rfl
theorem wd_765 : Cond.methodLink RX6 192 yX6_isNought ∈ gwT := rs_gw 765 (by decide +kernel) rfl
theorem wd_767 : Cond.instanceMethod yX6_isNought ∈ gwT := rs_gw 767 (by decide +kernel) rfl
theorem wd_768 : Cond.code yX6_isNought cX6_isNought 8 (some .boolean) ∈ gwT := rs_gw 768 (by decide +kernel) rfl
theorem wd_770 : Cond.instanceMethod yX6_answer ∈ gwT := rs_gw 770 (by decide +kernel) rfl
theorem wd_771 : Cond.selects RX6 yX6_answer yX6_answer ∈ gwT := rs_gw 771 (by decide +kernel) rfl
theorem wd_772 : Cond.code yX6_answer cX6_answer 3 (some .int) ∈ gwT := rs_gw 772 (by decide +kernel) rfl
theorem wd_774 : Cond.instanceMethod yX6_told ∈ gwT := rs_gw 774 (by decide +kernel) rfl
theorem wd_775 : Cond.selects RX6 yX6_told yX6_told ∈ gwT := rs_gw 775 (by decide +kernel) rfl
theorem wd_776 : Cond.code yX6_told cX6_told 2 (some .int) ∈ gwT := rs_gw 776 (by decide +kernel) rfl
theorem mk_J6_bitCount_0f7a4 : qMS yJ6_bitCount_0f7a4 cJ6_bitCount_0f7a4 1 (some .int) 1 := ⟨wd_428, wd_427, wd_57, ⟨by decide +kernel, by decide +kernel, by decide +kernel⟩⟩
theorem mk_X0_add : qMV yX0_add cX0_add 5 (some .int) 3 := ⟨wd_248, wd_246, wd_247, wd_50, ⟨by decide +kernel, by decide +kernel, by decide +kernel⟩⟩
theorem mk_X0_has : qMV yX0_has cX0_has 2 (some .boolean) 1 := ⟨wd_256, wd_254, wd_255, wd_50, ⟨by decide +kernel, by decide +kernel, by decide +kernel⟩⟩
theorem mk_X0_holds : qMV yX0_holds cX0_holds 4 (some .boolean) 2 := ⟨wd_240, wd_238, wd_239, wd_50, ⟨by decide +kernel, by decide +kernel, by decide +kernel⟩⟩
theorem mk_X0_isMinus : qMV yX0_isMinus cX0_isMinus 5 (some .boolean) 3 := ⟨wd_482, wd_481, wd_24, wd_50, ⟨by decide +kernel, by decide +kernel, by decide +kernel⟩⟩
theorem mk_X0_signsDiffer : qMV yX0_signsDiffer cX0_signsDiffer 3 (some .boolean) 2 := ⟨wd_478, wd_476, wd_477, wd_50, ⟨by decide +kernel, by decide +kernel, by decide +kernel⟩⟩
theorem mk_X1_after : qMV yX1_after cX1_after 2 (some .int) 1 := ⟨wd_324, wd_323, wd_11, wd_51, ⟨by decide +kernel, by decide +kernel, by decide +kernel⟩⟩
theorem mk_X1_area : qMV yX1_area cX1_area 4 (some .int) 0 := ⟨wd_320, wd_318, wd_319, wd_51, ⟨by decide +kernel, by decide +kernel, by decide +kernel⟩⟩
theorem mk_X1_drawOne : qMV yX1_drawOne cX1_drawOne 3 none 1 := ⟨wd_316, wd_314, wd_315, wd_51, ⟨by decide +kernel, by decide +kernel, by decide +kernel⟩⟩
theorem mk_X1_drawSum : qMV yX1_drawSum cX1_drawSum 5 none 2 := ⟨wd_281, wd_279, wd_280, wd_51, ⟨by decide +kernel, by decide +kernel, by decide +kernel⟩⟩
theorem mk_X1_far : qMV yX1_far cX1_far 3 (some .int) 2 := ⟨wd_309, wd_308, wd_10, wd_51, ⟨by decide +kernel, by decide +kernel, by decide +kernel⟩⟩
theorem mk_X1_firstPoint : qMV yX1_firstPoint cX1_firstPoint 4 (some .int) 0 := ⟨wd_293, wd_292, wd_6, wd_51, ⟨by decide +kernel, by decide +kernel, by decide +kernel⟩⟩
theorem mk_X1_inner : qMV yX1_inner cX1_inner 1 (some .int) 0 := ⟨wd_336, wd_334, wd_335, wd_51, ⟨by decide +kernel, by decide +kernel, by decide +kernel⟩⟩
theorem mk_X1_nextCorner : qMV yX1_nextCorner cX1_nextCorner 5 (some .int) 1 := ⟨wd_297, wd_296, wd_7, wd_51, ⟨by decide +kernel, by decide +kernel, by decide +kernel⟩⟩
theorem mk_X1_put : qMV yX1_put cX1_put 3 none 2 := ⟨wd_285, wd_284, wd_4, wd_51, ⟨by decide +kernel, by decide +kernel, by decide +kernel⟩⟩
theorem mk_X1_rim : qMV yX1_rim cX1_rim 4 (some .int) 0 := ⟨wd_328, wd_326, wd_327, wd_51, ⟨by decide +kernel, by decide +kernel, by decide +kernel⟩⟩
theorem mk_X1_same : qMV yX1_same cX1_same 3 (some .boolean) 2 := ⟨wd_301, wd_300, wd_8, wd_51, ⟨by decide +kernel, by decide +kernel, by decide +kernel⟩⟩
theorem mk_X1_sideOf : qMV yX1_sideOf cX1_sideOf 4 (some .int) 3 := ⟨wd_305, wd_304, wd_9, wd_51, ⟨by decide +kernel, by decide +kernel, by decide +kernel⟩⟩
theorem mk_X1_wrap : qMV yX1_wrap cX1_wrap 4 none 0 := ⟨wd_289, wd_288, wd_5, wd_51, ⟨by decide +kernel, by decide +kernel, by decide +kernel⟩⟩
theorem mk_X2_bitsOf : qMV yX2_bitsOf cX2_bitsOf 8 (some .int) 3 := ⟨wd_414, wd_412, wd_413, wd_53, ⟨by decide +kernel, by decide +kernel, by decide +kernel⟩⟩
theorem mk_X2_degreeOf : qMV yX2_degreeOf cX2_degreeOf 3 (some .int) 1 := ⟨wd_449, wd_448, wd_20, wd_53, ⟨by decide +kernel, by decide +kernel, by decide +kernel⟩⟩
theorem mk_X2_layAlong : qMV yX2_layAlong cX2_layAlong 10 none 5 := ⟨wd_437, wd_436, wd_18, wd_53, ⟨by decide +kernel, by decide +kernel, by decide +kernel⟩⟩
theorem mk_X2_lower : qMV yX2_lower cX2_lower 15 none 5 := ⟨wd_453, wd_452, wd_21, wd_53, ⟨by decide +kernel, by decide +kernel, by decide +kernel⟩⟩
theorem mk_X2_shareRoot : qMV yX2_shareRoot cX2_shareRoot 13 (some .boolean) 4 := ⟨wd_423, wd_421, wd_422, wd_53, ⟨by decide +kernel, by decide +kernel, by decide +kernel⟩⟩
theorem mk_X2_shareRootBy : qMV yX2_shareRootBy cX2_shareRootBy 6 (some .boolean) 1 := ⟨wd_445, wd_444, wd_19, wd_53, ⟨by decide +kernel, by decide +kernel, by decide +kernel⟩⟩
theorem mk_X3_fillPowers : qMV yX3_fillPowers cX3_fillPowers 5 none 1 := ⟨wd_500, wd_499, wd_25, wd_54, ⟨by decide +kernel, by decide +kernel, by decide +kernel⟩⟩
theorem mk_X3_find : qMV yX3_find cX3_find 6 none 3 := ⟨wd_495, wd_493, wd_494, wd_54, ⟨by decide +kernel, by decide +kernel, by decide +kernel⟩⟩
theorem mk_X3_isNought : qMV yX3_isNought cX3_isNought 7 (some .boolean) 4 := ⟨wd_504, wd_503, wd_26, wd_54, ⟨by decide +kernel, by decide +kernel, by decide +kernel⟩⟩
theorem mk_X4_alikeLowest : qMV yX4_alikeLowest cX4_alikeLowest 7 (some .int) 2 := ⟨wd_377, wd_376, wd_15, wd_52, ⟨by decide +kernel, by decide +kernel, by decide +kernel⟩⟩
theorem mk_X4_find : qMV yX4_find cX4_find 5 none 2 := ⟨wd_362, wd_360, wd_361, wd_52, ⟨by decide +kernel, by decide +kernel, by decide +kernel⟩⟩
theorem mk_X4_findWith : qMV yX4_findWith cX4_findWith 7 none 4 := ⟨wd_366, wd_365, wd_13, wd_52, ⟨by decide +kernel, by decide +kernel, by decide +kernel⟩⟩
theorem mk_X4_levelOf : qMV yX4_levelOf cX4_levelOf 3 (some .int) 2 := ⟨wd_381, wd_380, wd_16, wd_52, ⟨by decide +kernel, by decide +kernel, by decide +kernel⟩⟩
theorem mk_X4_memberOf : qMV yX4_memberOf cX4_memberOf 3 (some .int) 2 := ⟨wd_397, wd_395, wd_396, wd_52, ⟨by decide +kernel, by decide +kernel, by decide +kernel⟩⟩
theorem mk_X4_noteIfLowest : qMV yX4_noteIfLowest cX4_noteIfLowest 4 none 3 := ⟨wd_385, wd_384, wd_17, wd_52, ⟨by decide +kernel, by decide +kernel, by decide +kernel⟩⟩
theorem mk_X4_sizeOf : qMV yX4_sizeOf cX4_sizeOf 4 (some .int) 3 := ⟨wd_393, wd_391, wd_392, wd_52, ⟨by decide +kernel, by decide +kernel, by decide +kernel⟩⟩
theorem mk_X4_tilt : qMV yX4_tilt cX4_tilt 11 (some .boolean) 6 := ⟨wd_370, wd_369, wd_14, wd_52, ⟨by decide +kernel, by decide +kernel, by decide +kernel⟩⟩
theorem mk_X5_about : qMV yX5_about cX5_about 5 (some .int) 3 := ⟨wd_252, wd_250, wd_251, wd_49, ⟨by decide +kernel, by decide +kernel, by decide +kernel⟩⟩
theorem mk_X5_across : qMS yX5_across cX5_across 6 (some .int) 6 := ⟨wd_373, wd_372, wd_49, ⟨by decide +kernel, by decide +kernel, by decide +kernel⟩⟩
theorem mk_X5_answer : qMV yX5_answer cX5_answer 3 (some .int) 2 := ⟨wd_508, wd_506, wd_507, wd_49, ⟨by decide +kernel, by decide +kernel, by decide +kernel⟩⟩
theorem mk_X5_anyEmpty : qMV yX5_anyEmpty cX5_anyEmpty 1 (some .boolean) 0 := ⟨wd_277, wd_276, wd_3, wd_49, ⟨by decide +kernel, by decide +kernel, by decide +kernel⟩⟩
theorem mk_X5_areaOf : qMV yX5_areaOf cX5_areaOf 2 (some .int) 1 := ⟨wd_350, wd_349, wd_12, wd_49, ⟨by decide +kernel, by decide +kernel, by decide +kernel⟩⟩
theorem mk_X5_cell : qMV yX5_cell cX5_cell 3 (some .int) 2 := ⟨wd_389, wd_387, wd_388, wd_49, ⟨by decide +kernel, by decide +kernel, by decide +kernel⟩⟩
theorem mk_X5_cells : qMV yX5_cells cX5_cells 1 (some .int) 0 := ⟨wd_358, wd_356, wd_357, wd_49, ⟨by decide +kernel, by decide +kernel, by decide +kernel⟩⟩
theorem mk_X5_change : qMV yX5_change cX5_change 6 (some .int) 3 := ⟨wd_261, wd_259, wd_260, wd_49, ⟨by decide +kernel, by decide +kernel, by decide +kernel⟩⟩
theorem mk_X5_clear : qMV yX5_clear cX5_clear 4 (some .int) 1 := ⟨wd_265, wd_263, wd_264, wd_49, ⟨by decide +kernel, by decide +kernel, by decide +kernel⟩⟩
theorem mk_X5_commonPart : qMS yX5_commonPart cX5_commonPart 6 (some .int) 2 := ⟨wd_331, wd_330, wd_49, ⟨by decide +kernel, by decide +kernel, by decide +kernel⟩⟩
theorem mk_X5_corner : qMV yX5_corner cX5_corner 3 (some .int) 2 := ⟨wd_342, wd_340, wd_341, wd_49, ⟨by decide +kernel, by decide +kernel, by decide +kernel⟩⟩
theorem mk_X5_drawFigure : qMV yX5_drawFigure cX5_drawFigure 3 (some .boolean) 1 := ⟨wd_273, wd_272, wd_2, wd_49, ⟨by decide +kernel, by decide +kernel, by decide +kernel⟩⟩
theorem mk_X5_equationOf : qMV yX5_equationOf cX5_equationOf 2 (some (.object "RootShapes$Equation")) 1 := ⟨wd_230, wd_229, wd_0, wd_49, ⟨by decide +kernel, by decide +kernel, by decide +kernel⟩⟩
theorem mk_X5_face : qMV yX5_face cX5_face 5 (some .int) 3 := ⟨wd_407, wd_405, wd_406, wd_49, ⟨by decide +kernel, by decide +kernel, by decide +kernel⟩⟩
theorem mk_X5_fine : qMV yX5_fine cX5_fine 1 (some .int) 0 := ⟨wd_403, wd_401, wd_402, wd_49, ⟨by decide +kernel, by decide +kernel, by decide +kernel⟩⟩
theorem mk_X5_forgetFound : qMV yX5_forgetFound cX5_forgetFound 1 none 0 := ⟨wd_244, wd_243, wd_1, wd_49, ⟨by decide +kernel, by decide +kernel, by decide +kernel⟩⟩
theorem mk_X5_isAim : qMS yX5_isAim cX5_isAim 2 (some .boolean) 2 := ⟨wd_410, wd_409, wd_49, ⟨by decide +kernel, by decide +kernel, by decide +kernel⟩⟩
theorem mk_X5_isFactor : qMS yX5_isFactor cX5_isFactor 1 (some .boolean) 1 := ⟨wd_236, wd_235, wd_49, ⟨by decide +kernel, by decide +kernel, by decide +kernel⟩⟩
theorem mk_X5_isRoundPrime : qMS yX5_isRoundPrime cX5_isRoundPrime 5 (some .boolean) 1 := ⟨wd_489, wd_488, wd_49, ⟨by decide +kernel, by decide +kernel, by decide +kernel⟩⟩
theorem mk_X5_keep : qMV yX5_keep cX5_keep 1 (some .int) 0 := ⟨wd_460, wd_458, wd_459, wd_49, ⟨by decide +kernel, by decide +kernel, by decide +kernel⟩⟩
theorem mk_X5_lift : qMV yX5_lift cX5_lift 6 (some .int) 3 := ⟨wd_354, wd_352, wd_353, wd_49, ⟨by decide +kernel, by decide +kernel, by decide +kernel⟩⟩
theorem mk_X5_lose : qMV yX5_lose cX5_lose 3 (some .int) 2 := ⟨wd_419, wd_417, wd_418, wd_49, ⟨by decide +kernel, by decide +kernel, by decide +kernel⟩⟩
theorem mk_X5_losesSomewhere : qMV yX5_losesSomewhere cX5_losesSomewhere 3 (some .boolean) 0 := ⟨wd_464, wd_463, wd_22, wd_49, ⟨by decide +kernel, by decide +kernel, by decide +kernel⟩⟩
theorem mk_X5_mixed : qMV yX5_mixed cX5_mixed 1 (some .int) 0 := ⟨wd_346, wd_344, wd_345, wd_49, ⟨by decide +kernel, by decide +kernel, by decide +kernel⟩⟩
theorem mk_X5_realAnswers : qMV yX5_realAnswers cX5_realAnswers 5 (some .int) 0 := ⟨wd_474, wd_473, wd_23, wd_49, ⟨by decide +kernel, by decide +kernel, by decide +kernel⟩⟩
theorem mk_X5_round : qMV yX5_round cX5_round 2 (some .int) 1 := ⟨wd_486, wd_484, wd_485, wd_49, ⟨by decide +kernel, by decide +kernel, by decide +kernel⟩⟩
theorem mk_X5_shape : qMV yX5_shape cX5_shape 3 (some .int) 2 := ⟨wd_269, wd_267, wd_268, wd_49, ⟨by decide +kernel, by decide +kernel, by decide +kernel⟩⟩
theorem mk_X5_term : qMV yX5_term cX5_term 6 (some .int) 4 := ⟨wd_226, wd_224, wd_225, wd_49, ⟨by decide +kernel, by decide +kernel, by decide +kernel⟩⟩
theorem mk_X5_told : qMV yX5_told cX5_told 3 (some .int) 1 := ⟨wd_512, wd_510, wd_511, wd_49, ⟨by decide +kernel, by decide +kernel, by decide +kernel⟩⟩
theorem mk_X5_two : qMV yX5_two cX5_two 3 (some .int) 1 := ⟨wd_469, wd_467, wd_468, wd_49, ⟨by decide +kernel, by decide +kernel, by decide +kernel⟩⟩
theorem mk_X5_within : qMS yX5_within cX5_within 3 (some .boolean) 3 := ⟨wd_233, wd_232, wd_49, ⟨by decide +kernel, by decide +kernel, by decide +kernel⟩⟩
theorem mk_X6_about : qMV yX6_about cX6_about 5 (some .int) 3 := ⟨wd_602, wd_600, wd_601, wd_55, ⟨by decide +kernel, by decide +kernel, by decide +kernel⟩⟩
theorem mk_X6_answer : qMV yX6_answer cX6_answer 3 (some .int) 2 := ⟨wd_772, wd_770, wd_771, wd_55, ⟨by decide +kernel, by decide +kernel, by decide +kernel⟩⟩
theorem mk_X6_answers : qMV yX6_answers cX6_answers 6 (some .int) 2 := ⟨wd_764, wd_763, wd_46, wd_55, ⟨by decide +kernel, by decide +kernel, by decide +kernel⟩⟩
theorem mk_X6_areUnlike : qMV yX6_areUnlike cX6_areUnlike 6 (some .boolean) 2 := ⟨wd_752, wd_751, wd_45, wd_55, ⟨by decide +kernel, by decide +kernel, by decide +kernel⟩⟩
theorem mk_X6_areaOf : qMV yX6_areaOf cX6_areaOf 5 (some .int) 1 := ⟨wd_628, wd_627, wd_29, wd_55, ⟨by decide +kernel, by decide +kernel, by decide +kernel⟩⟩
theorem mk_X6_cell : qMV yX6_cell cX6_cell 3 (some .int) 2 := ⟨wd_691, wd_689, wd_690, wd_55, ⟨by decide +kernel, by decide +kernel, by decide +kernel⟩⟩
theorem mk_X6_cells : qMV yX6_cells cX6_cells 1 (some .int) 0 := ⟨wd_671, wd_669, wd_670, wd_55, ⟨by decide +kernel, by decide +kernel, by decide +kernel⟩⟩
theorem mk_X6_change : qMV yX6_change cX6_change 5 (some .int) 3 := ⟨wd_610, wd_608, wd_609, wd_55, ⟨by decide +kernel, by decide +kernel, by decide +kernel⟩⟩
theorem mk_X6_clear : qMV yX6_clear cX6_clear 3 (some .int) 1 := ⟨wd_614, wd_612, wd_613, wd_55, ⟨by decide +kernel, by decide +kernel, by decide +kernel⟩⟩
theorem mk_X6_common : qMS yX6_common cX6_common 5 (some .int) 2 := ⟨wd_651, wd_650, wd_55, ⟨by decide +kernel, by decide +kernel, by decide +kernel⟩⟩
theorem mk_X6_corner : qMV yX6_corner cX6_corner 3 (some .int) 2 := ⟨wd_658, wd_656, wd_657, wd_55, ⟨by decide +kernel, by decide +kernel, by decide +kernel⟩⟩
theorem mk_X6_face : qMV yX6_face cX6_face 4 (some .int) 3 := ⟨wd_699, wd_697, wd_698, wd_55, ⟨by decide +kernel, by decide +kernel, by decide +kernel⟩⟩
theorem mk_X6_faceOf : qMV yX6_faceOf cX6_faceOf 9 (some .int) 3 := ⟨wd_707, wd_706, wd_39, wd_55, ⟨by decide +kernel, by decide +kernel, by decide +kernel⟩⟩
theorem mk_X6_fine : qMV yX6_fine cX6_fine 2 (some .int) 0 := ⟨wd_695, wd_693, wd_694, wd_55, ⟨by decide +kernel, by decide +kernel, by decide +kernel⟩⟩
theorem mk_X6_floorOf : qMS yX6_floorOf cX6_floorOf 5 (some .int) 2 := ⟨wd_731, wd_730, wd_55, ⟨by decide +kernel, by decide +kernel, by decide +kernel⟩⟩
theorem mk_X6_gather : qMV yX6_gather cX6_gather 4 none 1 := ⟨wd_636, wd_635, wd_31, wd_55, ⟨by decide +kernel, by decide +kernel, by decide +kernel⟩⟩
theorem mk_X6_goRound : qMV yX6_goRound cX6_goRound 7 none 1 := ⟨wd_632, wd_631, wd_30, wd_55, ⟨by decide +kernel, by decide +kernel, by decide +kernel⟩⟩
theorem mk_X6_goThrough : qMV yX6_goThrough cX6_goThrough 7 (some .int) 1 := ⟨wd_675, wd_674, wd_35, wd_55, ⟨by decide +kernel, by decide +kernel, by decide +kernel⟩⟩
theorem mk_X6_height : qMV yX6_height cX6_height 3 (some .int) 1 := ⟨wd_687, wd_686, wd_38, wd_55, ⟨by decide +kernel, by decide +kernel, by decide +kernel⟩⟩
theorem mk_X6_in : qMS yX6_in cX6_in 6 (some .boolean) 3 := ⟨wd_595, wd_594, wd_55, ⟨by decide +kernel, by decide +kernel, by decide +kernel⟩⟩
theorem mk_X6_isCell : qMV yX6_isCell cX6_isCell 13 (some .boolean) 4 := ⟨wd_679, wd_678, wd_36, wd_55, ⟨by decide +kernel, by decide +kernel, by decide +kernel⟩⟩
theorem mk_X6_isEquation : qMS yX6_isEquation cX6_isEquation 1 (some .boolean) 1 := ⟨wd_592, wd_591, wd_55, ⟨by decide +kernel, by decide +kernel, by decide +kernel⟩⟩
theorem mk_X6_isLowest : qMV yX6_isLowest cX6_isLowest 6 (some .boolean) 3 := ⟨wd_683, wd_682, wd_37, wd_55, ⟨by decide +kernel, by decide +kernel, by decide +kernel⟩⟩
theorem mk_X6_isNought : qMV yX6_isNought cX6_isNought 8 (some .boolean) 4 := ⟨wd_768, wd_767, wd_47, wd_55, ⟨by decide +kernel, by decide +kernel, by decide +kernel⟩⟩
theorem mk_X6_isOuter : qMV yX6_isOuter cX6_isOuter 9 (some .boolean) 3 := ⟨wd_644, wd_643, wd_33, wd_55, ⟨by decide +kernel, by decide +kernel, by decide +kernel⟩⟩
theorem mk_X6_isPrime : qMS yX6_isPrime cX6_isPrime 2 (some .boolean) 1 := ⟨wd_759, wd_758, wd_55, ⟨by decide +kernel, by decide +kernel, by decide +kernel⟩⟩
theorem mk_X6_isSame : qMV yX6_isSame cX6_isSame 3 (some .boolean) 2 := ⟨wd_640, wd_639, wd_32, wd_55, ⟨by decide +kernel, by decide +kernel, by decide +kernel⟩⟩
theorem mk_X6_isTerm : qMV yX6_isTerm cX6_isTerm 3 (some .boolean) 2 := ⟨wd_606, wd_605, wd_27, wd_55, ⟨by decide +kernel, by decide +kernel, by decide +kernel⟩⟩
theorem mk_X6_isThere : qMV yX6_isThere cX6_isThere 2 (some .boolean) 1 := ⟨wd_624, wd_623, wd_28, wd_55, ⟨by decide +kernel, by decide +kernel, by decide +kernel⟩⟩
theorem mk_X6_isWay : qMS yX6_isWay cX6_isWay 2 (some .boolean) 2 := ⟨wd_702, wd_701, wd_55, ⟨by decide +kernel, by decide +kernel, by decide +kernel⟩⟩
theorem mk_X6_keep : qMV yX6_keep cX6_keep 3 (some .int) 0 := ⟨wd_744, wd_742, wd_743, wd_55, ⟨by decide +kernel, by decide +kernel, by decide +kernel⟩⟩
theorem mk_X6_lay : qMV yX6_lay cX6_lay 15 (some .boolean) 4 := ⟨wd_724, wd_723, wd_42, wd_55, ⟨by decide +kernel, by decide +kernel, by decide +kernel⟩⟩
theorem mk_X6_lift : qMV yX6_lift cX6_lift 5 (some .int) 3 := ⟨wd_666, wd_664, wd_665, wd_55, ⟨by decide +kernel, by decide +kernel, by decide +kernel⟩⟩
theorem mk_X6_lose : qMV yX6_lose cX6_lose 3 (some .int) 2 := ⟨wd_711, wd_709, wd_710, wd_55, ⟨by decide +kernel, by decide +kernel, by decide +kernel⟩⟩
theorem mk_X6_loses : qMV yX6_loses cX6_loses 3 (some .boolean) 2 := ⟨wd_715, wd_714, wd_40, wd_55, ⟨by decide +kernel, by decide +kernel, by decide +kernel⟩⟩
theorem mk_X6_meet : qMV yX6_meet cX6_meet 8 (some .boolean) 3 := ⟨wd_720, wd_719, wd_41, wd_55, ⟨by decide +kernel, by decide +kernel, by decide +kernel⟩⟩
theorem mk_X6_mixed : qMV yX6_mixed cX6_mixed 1 (some .int) 0 := ⟨wd_662, wd_660, wd_661, wd_55, ⟨by decide +kernel, by decide +kernel, by decide +kernel⟩⟩
theorem mk_X6_power : qMS yX6_power cX6_power 12 (some .long) 3 := ⟨wd_738, wd_737, wd_55, ⟨by decide +kernel, by decide +kernel, by decide +kernel⟩⟩
theorem mk_X6_reduce : qMV yX6_reduce cX6_reduce 13 none 3 := ⟨wd_735, wd_734, wd_44, wd_55, ⟨by decide +kernel, by decide +kernel, by decide +kernel⟩⟩
theorem mk_X6_rimOf : qMV yX6_rimOf cX6_rimOf 5 (some .int) 1 := ⟨wd_648, wd_647, wd_34, wd_55, ⟨by decide +kernel, by decide +kernel, by decide +kernel⟩⟩
theorem mk_X6_round : qMV yX6_round cX6_round 2 (some .int) 1 := ⟨wd_756, wd_754, wd_755, wd_55, ⟨by decide +kernel, by decide +kernel, by decide +kernel⟩⟩
theorem mk_X6_shape : qMV yX6_shape cX6_shape 5 (some .int) 2 := ⟨wd_618, wd_616, wd_617, wd_55, ⟨by decide +kernel, by decide +kernel, by decide +kernel⟩⟩
theorem mk_X6_size : qMS yX6_size cX6_size 1 (some .int) 1 := ⟨wd_654, wd_653, wd_55, ⟨by decide +kernel, by decide +kernel, by decide +kernel⟩⟩
theorem mk_X6_stepOf : qMV yX6_stepOf cX6_stepOf 4 (some .int) 3 := ⟨wd_728, wd_727, wd_43, wd_55, ⟨by decide +kernel, by decide +kernel, by decide +kernel⟩⟩
theorem mk_X6_term : qMV yX6_term cX6_term 6 (some .int) 4 := ⟨wd_589, wd_587, wd_588, wd_55, ⟨by decide +kernel, by decide +kernel, by decide +kernel⟩⟩
theorem mk_X6_told : qMV yX6_told cX6_told 2 (some .int) 1 := ⟨wd_776, wd_774, wd_775, wd_55, ⟨by decide +kernel, by decide +kernel, by decide +kernel⟩⟩
theorem mk_X6_two : qMV yX6_two cX6_two 5 (some .int) 1 := ⟨wd_748, wd_746, wd_747, wd_55, ⟨by decide +kernel, by decide +kernel, by decide +kernel⟩⟩
theorem nl_X0_28 : ((RX0, 28, yX5_within, "RootShapes") : String × Nat × MethodName × String) ∈ nestL := List.mem_of_getElem? (i := 5) rfl
theorem nl_X1_53 : ((RX1, 53, yX5_commonPart, "RootShapes") : String × Nat × MethodName × String) ∈ nestL := List.mem_of_getElem? (i := 6) rfl
theorem nl_X2_38 : ((RX2, 38, yX5_commonPart, "RootShapes") : String × Nat × MethodName × String) ∈ nestL := List.mem_of_getElem? (i := 8) rfl
theorem nl_X2_62 : ((RX2, 62, yX5_within, "RootShapes") : String × Nat × MethodName × String) ∈ nestL := List.mem_of_getElem? (i := 9) rfl
theorem nl_X3_25 : ((RX3, 25, yX5_within, "RootShapes") : String × Nat × MethodName × String) ∈ nestL := List.mem_of_getElem? (i := 10) rfl
theorem nl_X4_48 : ((RX4, 48, yX5_across, "RootShapes") : String × Nat × MethodName × String) ∈ nestL := List.mem_of_getElem? (i := 7) rfl
theorem gfX5_10 {p : Program} {l : Launch} {e : Env} {R : Room} {s : State} {m : MethodId} {args : Array Value} {below : List Frame} {meth : Method} {c : Code} {H : Heap} {locs : List Loc} {Q : State → Prop} {cc : ByteArray} {pc nL : Nat} {ls : Array Slot} {rest : List Value} {D : va_G} {cI cJ : ClassId} {tP tR : Nat} {A : Nat → Prop} {ad : Nat → Nat} {M : Mem} (C : qC p s m args c D cI cJ tP tR A (xW ad cI cJ) cc nL RX5) (hP : va_P D vwCl (xW ad cI cJ M) H) (hdg : decode cc pc = .ok (.getfield 10, 3)) (kk : W p l e R s m args below meth c H locs 0 0 Q (F0 m (pc + 3) ls (.ref (ad 1) :: rest))) : W p l e R s m args below meth c H locs 0 0 Q (F0 m pc ls (.ref (ad 0) :: rest)) := by
  obtain ⟨hx, hb0, hml, hown, hts, hK⟩ := C
  exact va_get (D := D) (ci := 5) (C := RX5) (T := TX5) (N := 6) hx hb0 hts hinX5 hown hK.1 hP 0 rfl rfl 0 (by decide) (hts _ wd_204) (fun _ h9 => h9) rfl hdg kk
theorem gfX5_16 {p : Program} {l : Launch} {e : Env} {R : Room} {s : State} {m : MethodId} {args : Array Value} {below : List Frame} {meth : Method} {c : Code} {H : Heap} {locs : List Loc} {Q : State → Prop} {cc : ByteArray} {pc nL : Nat} {ls : Array Slot} {rest : List Value} {D : va_G} {cI cJ : ClassId} {tP tR : Nat} {A : Nat → Prop} {ad : Nat → Nat} {M : Mem} (C : qC p s m args c D cI cJ tP tR A (xW ad cI cJ) cc nL RX5) (hP : va_P D vwCl (xW ad cI cJ M) H) (hdg : decode cc pc = .ok (.getfield 16, 3)) (kk : W p l e R s m args below meth c H locs 0 0 Q (F0 m (pc + 3) ls (.ref (ad 6) :: rest))) : W p l e R s m args below meth c H locs 0 0 Q (F0 m pc ls (.ref (ad 0) :: rest)) := by
  obtain ⟨hx, hb0, hml, hown, hts, hK⟩ := C
  exact va_get (D := D) (ci := 5) (C := RX5) (T := TX5) (N := 6) hx hb0 hts hinX5 hown hK.1 hP 0 rfl rfl 1 (by decide) (hts _ wd_205) (fun _ h9 => h9) rfl hdg kk
theorem gfX5_22 {p : Program} {l : Launch} {e : Env} {R : Room} {s : State} {m : MethodId} {args : Array Value} {below : List Frame} {meth : Method} {c : Code} {H : Heap} {locs : List Loc} {Q : State → Prop} {cc : ByteArray} {pc nL : Nat} {ls : Array Slot} {rest : List Value} {D : va_G} {cI cJ : ClassId} {tP tR : Nat} {A : Nat → Prop} {ad : Nat → Nat} {M : Mem} (C : qC p s m args c D cI cJ tP tR A (xW ad cI cJ) cc nL RX5) (hP : va_P D vwCl (xW ad cI cJ M) H) (hdg : decode cc pc = .ok (.getfield 22, 3)) (kk : W p l e R s m args below meth c H locs 0 0 Q (F0 m (pc + 3) ls (.ref (ad 11) :: rest))) : W p l e R s m args below meth c H locs 0 0 Q (F0 m pc ls (.ref (ad 0) :: rest)) := by
  obtain ⟨hx, hb0, hml, hown, hts, hK⟩ := C
  exact va_get (D := D) (ci := 5) (C := RX5) (T := TX5) (N := 6) hx hb0 hts hinX5 hown hK.1 hP 0 rfl rfl 2 (by decide) (hts _ wd_206) (fun _ h9 => h9) rfl hdg kk
theorem gfX5_29 {p : Program} {l : Launch} {e : Env} {R : Room} {s : State} {m : MethodId} {args : Array Value} {below : List Frame} {meth : Method} {c : Code} {H : Heap} {locs : List Loc} {Q : State → Prop} {cc : ByteArray} {pc nL : Nat} {ls : Array Slot} {rest : List Value} {D : va_G} {cI cJ : ClassId} {tP tR : Nat} {A : Nat → Prop} {ad : Nat → Nat} {M : Mem} (C : qC p s m args c D cI cJ tP tR A (xW ad cI cJ) cc nL RX5) (hP : va_P D vwCl (xW ad cI cJ M) H) (hdg : decode cc pc = .ok (.getfield 29, 3)) (kk : W p l e R s m args below meth c H locs 0 0 Q (F0 m (pc + 3) ls (.ref (ad 16) :: rest))) : W p l e R s m args below meth c H locs 0 0 Q (F0 m pc ls (.ref (ad 0) :: rest)) := by
  obtain ⟨hx, hb0, hml, hown, hts, hK⟩ := C
  exact va_get (D := D) (ci := 5) (C := RX5) (T := TX5) (N := 6) hx hb0 hts hinX5 hown hK.1 hP 0 rfl rfl 3 (by decide) (hts _ wd_207) (fun _ h9 => h9) rfl hdg kk
theorem gfX5_36 {p : Program} {l : Launch} {e : Env} {R : Room} {s : State} {m : MethodId} {args : Array Value} {below : List Frame} {meth : Method} {c : Code} {H : Heap} {locs : List Loc} {Q : State → Prop} {cc : ByteArray} {pc nL : Nat} {ls : Array Slot} {rest : List Value} {D : va_G} {cI cJ : ClassId} {tP tR : Nat} {A : Nat → Prop} {ad : Nat → Nat} {M : Mem} (C : qC p s m args c D cI cJ tP tR A (xW ad cI cJ) cc nL RX5) (hP : va_P D vwCl (xW ad cI cJ M) H) (hdg : decode cc pc = .ok (.getfield 36, 3)) (kk : W p l e R s m args below meth c H locs 0 0 Q (F0 m (pc + 3) ls (.ref (ad 18) :: rest))) : W p l e R s m args below meth c H locs 0 0 Q (F0 m pc ls (.ref (ad 0) :: rest)) := by
  obtain ⟨hx, hb0, hml, hown, hts, hK⟩ := C
  exact va_get (D := D) (ci := 5) (C := RX5) (T := TX5) (N := 6) hx hb0 hts hinX5 hown hK.1 hP 0 rfl rfl 4 (by decide) (hts _ wd_208) (fun _ h9 => h9) rfl hdg kk
theorem gfX5_43 {p : Program} {l : Launch} {e : Env} {R : Room} {s : State} {m : MethodId} {args : Array Value} {below : List Frame} {meth : Method} {c : Code} {H : Heap} {locs : List Loc} {Q : State → Prop} {cc : ByteArray} {pc nL : Nat} {ls : Array Slot} {rest : List Value} {D : va_G} {cI cJ : ClassId} {tP tR : Nat} {A : Nat → Prop} {ad : Nat → Nat} {M : Mem} (C : qC p s m args c D cI cJ tP tR A (xW ad cI cJ) cc nL RX5) (hP : va_P D vwCl (xW ad cI cJ M) H) (hdg : decode cc pc = .ok (.getfield 43, 3)) (kk : W p l e R s m args below meth c H locs 0 0 Q (F0 m (pc + 3) ls (.ref (ad 21) :: rest))) : W p l e R s m args below meth c H locs 0 0 Q (F0 m pc ls (.ref (ad 0) :: rest)) := by
  obtain ⟨hx, hb0, hml, hown, hts, hK⟩ := C
  exact va_get (D := D) (ci := 5) (C := RX5) (T := TX5) (N := 6) hx hb0 hts hinX5 hown hK.1 hP 0 rfl rfl 5 (by decide) (hts _ wd_209) (fun _ h9 => h9) rfl hdg kk
theorem gfX5_59 {p : Program} {l : Launch} {e : Env} {R : Room} {s : State} {m : MethodId} {args : Array Value} {below : List Frame} {meth : Method} {c : Code} {H : Heap} {locs : List Loc} {Q : State → Prop} {cc : ByteArray} {pc nL : Nat} {ls : Array Slot} {rest : List Value} {D : va_G} {cI cJ : ClassId} {tP tR : Nat} {A : Nat → Prop} {ad : Nat → Nat} {M : Mem} {b : Nat} (C : qC p s m args c D cI cJ tP tR A (xW ad cI cJ) cc nL RX5) (hP : va_P D vwCl (xW ad cI cJ M) H) (hb : b = 1 ∨ b = 6) (hdg : decode cc pc = .ok (.getfield 59, 3)) (kk : W p l e R s m args below meth c H locs 0 0 Q (F0 m (pc + 3) ls (.int (M.1 b 4) :: rest))) : W p l e R s m args below meth c H locs 0 0 Q (F0 m pc ls (.ref (ad b) :: rest)) := by
  obtain ⟨hx, hb0, hml, hown, hts, hK⟩ := C
  exact va_get (D := D) (ci := 0) (C := RX0) (T := TX0) (N := 5) hx hb0 hts hinX0 hown hK.1 hP b (xE_eq hb) rfl 4 (by decide) (hts _ wd_95) (fun _ h9 => h9) rfl hdg kk
theorem gfX5_77 {p : Program} {l : Launch} {e : Env} {R : Room} {s : State} {m : MethodId} {args : Array Value} {below : List Frame} {meth : Method} {c : Code} {H : Heap} {locs : List Loc} {Q : State → Prop} {cc : ByteArray} {pc nL : Nat} {ls : Array Slot} {rest : List Value} {D : va_G} {cI cJ : ClassId} {tP tR : Nat} {A : Nat → Prop} {ad : Nat → Nat} {M : Mem} {b : Nat} (C : qC p s m args c D cI cJ tP tR A (xW ad cI cJ) cc nL RX5) (hP : va_P D vwCl (xW ad cI cJ M) H) (hb : b = 1 ∨ b = 6) (hdg : decode cc pc = .ok (.getfield 77, 3)) (kk : W p l e R s m args below meth c H locs 0 0 Q (F0 m (pc + 3) ls (.ref (ad (b + 1)) :: rest))) : W p l e R s m args below meth c H locs 0 0 Q (F0 m pc ls (.ref (ad b) :: rest)) := by
  obtain ⟨hx, hb0, hml, hown, hts, hK⟩ := C
  exact va_get (D := D) (ci := 0) (C := RX0) (T := TX0) (N := 5) hx hb0 hts hinX0 hown hK.1 hP b (xE_eq hb) rfl 0 (by decide) (hts _ wd_75) (fun _ h9 => h9) rfl hdg kk
theorem gfX5_81 {p : Program} {l : Launch} {e : Env} {R : Room} {s : State} {m : MethodId} {args : Array Value} {below : List Frame} {meth : Method} {c : Code} {H : Heap} {locs : List Loc} {Q : State → Prop} {cc : ByteArray} {pc nL : Nat} {ls : Array Slot} {rest : List Value} {D : va_G} {cI cJ : ClassId} {tP tR : Nat} {A : Nat → Prop} {ad : Nat → Nat} {M : Mem} {b : Nat} (C : qC p s m args c D cI cJ tP tR A (xW ad cI cJ) cc nL RX5) (hP : va_P D vwCl (xW ad cI cJ M) H) (hb : b = 1 ∨ b = 6) (hdg : decode cc pc = .ok (.getfield 81, 3)) (kk : W p l e R s m args below meth c H locs 0 0 Q (F0 m (pc + 3) ls (.ref (ad (b + 2)) :: rest))) : W p l e R s m args below meth c H locs 0 0 Q (F0 m pc ls (.ref (ad b) :: rest)) := by
  obtain ⟨hx, hb0, hml, hown, hts, hK⟩ := C
  exact va_get (D := D) (ci := 0) (C := RX0) (T := TX0) (N := 5) hx hb0 hts hinX0 hown hK.1 hP b (xE_eq hb) rfl 1 (by decide) (hts _ wd_81) (fun _ h9 => h9) rfl hdg kk
theorem gfX5_84 {p : Program} {l : Launch} {e : Env} {R : Room} {s : State} {m : MethodId} {args : Array Value} {below : List Frame} {meth : Method} {c : Code} {H : Heap} {locs : List Loc} {Q : State → Prop} {cc : ByteArray} {pc nL : Nat} {ls : Array Slot} {rest : List Value} {D : va_G} {cI cJ : ClassId} {tP tR : Nat} {A : Nat → Prop} {ad : Nat → Nat} {M : Mem} {b : Nat} (C : qC p s m args c D cI cJ tP tR A (xW ad cI cJ) cc nL RX5) (hP : va_P D vwCl (xW ad cI cJ M) H) (hb : b = 1 ∨ b = 6) (hdg : decode cc pc = .ok (.getfield 84, 3)) (kk : W p l e R s m args below meth c H locs 0 0 Q (F0 m (pc + 3) ls (.ref (ad (b + 3)) :: rest))) : W p l e R s m args below meth c H locs 0 0 Q (F0 m pc ls (.ref (ad b) :: rest)) := by
  obtain ⟨hx, hb0, hml, hown, hts, hK⟩ := C
  exact va_get (D := D) (ci := 0) (C := RX0) (T := TX0) (N := 5) hx hb0 hts hinX0 hown hK.1 hP b (xE_eq hb) rfl 2 (by decide) (hts _ wd_85) (fun _ h9 => h9) rfl hdg kk
theorem gfX5_87 {p : Program} {l : Launch} {e : Env} {R : Room} {s : State} {m : MethodId} {args : Array Value} {below : List Frame} {meth : Method} {c : Code} {H : Heap} {locs : List Loc} {Q : State → Prop} {cc : ByteArray} {pc nL : Nat} {ls : Array Slot} {rest : List Value} {D : va_G} {cI cJ : ClassId} {tP tR : Nat} {A : Nat → Prop} {ad : Nat → Nat} {M : Mem} {b : Nat} (C : qC p s m args c D cI cJ tP tR A (xW ad cI cJ) cc nL RX5) (hP : va_P D vwCl (xW ad cI cJ M) H) (hb : b = 1 ∨ b = 6) (hdg : decode cc pc = .ok (.getfield 87, 3)) (kk : W p l e R s m args below meth c H locs 0 0 Q (F0 m (pc + 3) ls (.ref (ad (b + 4)) :: rest))) : W p l e R s m args below meth c H locs 0 0 Q (F0 m pc ls (.ref (ad b) :: rest)) := by
  obtain ⟨hx, hb0, hml, hown, hts, hK⟩ := C
  exact va_get (D := D) (ci := 0) (C := RX0) (T := TX0) (N := 5) hx hb0 hts hinX0 hown hK.1 hP b (xE_eq hb) rfl 3 (by decide) (hts _ wd_89) (fun _ h9 => h9) rfl hdg kk
theorem gfX5_97 {p : Program} {l : Launch} {e : Env} {R : Room} {s : State} {m : MethodId} {args : Array Value} {below : List Frame} {meth : Method} {c : Code} {H : Heap} {locs : List Loc} {Q : State → Prop} {cc : ByteArray} {pc nL : Nat} {ls : Array Slot} {rest : List Value} {D : va_G} {cI cJ : ClassId} {tP tR : Nat} {A : Nat → Prop} {ad : Nat → Nat} {M : Mem} (C : qC p s m args c D cI cJ tP tR A (xW ad cI cJ) cc nL RX5) (hP : va_P D vwCl (xW ad cI cJ M) H) (hdg : decode cc pc = .ok (.getfield 97, 3)) (kk : W p l e R s m args below meth c H locs 0 0 Q (F0 m (pc + 3) ls (.int (M.1 11 2) :: rest))) : W p l e R s m args below meth c H locs 0 0 Q (F0 m pc ls (.ref (ad 11) :: rest)) := by
  obtain ⟨hx, hb0, hml, hown, hts, hK⟩ := C
  exact va_get (D := D) (ci := 1) (C := RX1) (T := TX1) (N := 6) hx hb0 hts hinX1 hown hK.1 hP 11 rfl rfl 2 (by decide) (hts _ wd_120) (fun _ h9 => h9) rfl hdg kk
theorem gfX5_106 {p : Program} {l : Launch} {e : Env} {R : Room} {s : State} {m : MethodId} {args : Array Value} {below : List Frame} {meth : Method} {c : Code} {H : Heap} {locs : List Loc} {Q : State → Prop} {cc : ByteArray} {pc nL : Nat} {ls : Array Slot} {rest : List Value} {D : va_G} {cI cJ : ClassId} {tP tR : Nat} {A : Nat → Prop} {ad : Nat → Nat} {M : Mem} (C : qC p s m args c D cI cJ tP tR A (xW ad cI cJ) cc nL RX5) (hP : va_P D vwCl (xW ad cI cJ M) H) (hdg : decode cc pc = .ok (.getfield 106, 3)) (kk : W p l e R s m args below meth c H locs 0 0 Q (F0 m (pc + 3) ls (.ref (ad 12) :: rest))) : W p l e R s m args below meth c H locs 0 0 Q (F0 m pc ls (.ref (ad 11) :: rest)) := by
  obtain ⟨hx, hb0, hml, hown, hts, hK⟩ := C
  exact va_get (D := D) (ci := 1) (C := RX1) (T := TX1) (N := 6) hx hb0 hts hinX1 hown hK.1 hP 11 rfl rfl 0 (by decide) (hts _ wd_116) (fun _ h9 => h9) rfl hdg kk
theorem gfX5_109 {p : Program} {l : Launch} {e : Env} {R : Room} {s : State} {m : MethodId} {args : Array Value} {below : List Frame} {meth : Method} {c : Code} {H : Heap} {locs : List Loc} {Q : State → Prop} {cc : ByteArray} {pc nL : Nat} {ls : Array Slot} {rest : List Value} {D : va_G} {cI cJ : ClassId} {tP tR : Nat} {A : Nat → Prop} {ad : Nat → Nat} {M : Mem} (C : qC p s m args c D cI cJ tP tR A (xW ad cI cJ) cc nL RX5) (hP : va_P D vwCl (xW ad cI cJ M) H) (hdg : decode cc pc = .ok (.getfield 109, 3)) (kk : W p l e R s m args below meth c H locs 0 0 Q (F0 m (pc + 3) ls (.ref (ad 13) :: rest))) : W p l e R s m args below meth c H locs 0 0 Q (F0 m pc ls (.ref (ad 11) :: rest)) := by
  obtain ⟨hx, hb0, hml, hown, hts, hK⟩ := C
  exact va_get (D := D) (ci := 1) (C := RX1) (T := TX1) (N := 6) hx hb0 hts hinX1 hown hK.1 hP 11 rfl rfl 1 (by decide) (hts _ wd_118) (fun _ h9 => h9) rfl hdg kk
theorem gfX5_124 {p : Program} {l : Launch} {e : Env} {R : Room} {s : State} {m : MethodId} {args : Array Value} {below : List Frame} {meth : Method} {c : Code} {H : Heap} {locs : List Loc} {Q : State → Prop} {cc : ByteArray} {pc nL : Nat} {ls : Array Slot} {rest : List Value} {D : va_G} {cI cJ : ClassId} {tP tR : Nat} {A : Nat → Prop} {ad : Nat → Nat} {M : Mem} (C : qC p s m args c D cI cJ tP tR A (xW ad cI cJ) cc nL RX5) (hP : va_P D vwCl (xW ad cI cJ M) H) (hdg : decode cc pc = .ok (.getfield 124, 3)) (kk : W p l e R s m args below meth c H locs 0 0 Q (F0 m (pc + 3) ls (.int (M.1 16 0) :: rest))) : W p l e R s m args below meth c H locs 0 0 Q (F0 m pc ls (.ref (ad 16) :: rest)) := by
  obtain ⟨hx, hb0, hml, hown, hts, hK⟩ := C
  exact va_get (D := D) (ci := 4) (C := RX4) (T := TX4) (N := 7) hx hb0 hts hinX4 hown hK.1 hP 16 rfl rfl 0 (by decide) (hts _ wd_144) (fun _ h9 => h9) rfl hdg kk
theorem gfX5_135 {p : Program} {l : Launch} {e : Env} {R : Room} {s : State} {m : MethodId} {args : Array Value} {below : List Frame} {meth : Method} {c : Code} {H : Heap} {locs : List Loc} {Q : State → Prop} {cc : ByteArray} {pc nL : Nat} {ls : Array Slot} {rest : List Value} {D : va_G} {cI cJ : ClassId} {tP tR : Nat} {A : Nat → Prop} {ad : Nat → Nat} {M : Mem} (C : qC p s m args c D cI cJ tP tR A (xW ad cI cJ) cc nL RX5) (hP : va_P D vwCl (xW ad cI cJ M) H) (hdg : decode cc pc = .ok (.getfield 135, 3)) (kk : W p l e R s m args below meth c H locs 0 0 Q (F0 m (pc + 3) ls (.int (M.1 16 1) :: rest))) : W p l e R s m args below meth c H locs 0 0 Q (F0 m pc ls (.ref (ad 16) :: rest)) := by
  obtain ⟨hx, hb0, hml, hown, hts, hK⟩ := C
  exact va_get (D := D) (ci := 4) (C := RX4) (T := TX4) (N := 7) hx hb0 hts hinX4 hown hK.1 hP 16 rfl rfl 1 (by decide) (hts _ wd_146) (fun _ h9 => h9) rfl hdg kk
theorem gfX5_166 {p : Program} {l : Launch} {e : Env} {R : Room} {s : State} {m : MethodId} {args : Array Value} {below : List Frame} {meth : Method} {c : Code} {H : Heap} {locs : List Loc} {Q : State → Prop} {cc : ByteArray} {pc nL : Nat} {ls : Array Slot} {rest : List Value} {D : va_G} {cI cJ : ClassId} {tP tR : Nat} {A : Nat → Prop} {ad : Nat → Nat} {M : Mem} (C : qC p s m args c D cI cJ tP tR A (xW ad cI cJ) cc nL RX5) (hP : va_P D vwCl (xW ad cI cJ M) H) (hdg : decode cc pc = .ok (.getfield 166, 3)) (kk : W p l e R s m args below meth c H locs 0 0 Q (F0 m (pc + 3) ls (.int (M.1 21 1) :: rest))) : W p l e R s m args below meth c H locs 0 0 Q (F0 m pc ls (.ref (ad 21) :: rest)) := by
  obtain ⟨hx, hb0, hml, hown, hts, hK⟩ := C
  exact va_get (D := D) (ci := 3) (C := RX3) (T := TX3) (N := 4) hx hb0 hts hinX3 hown hK.1 hP 21 rfl rfl 1 (by decide) (hts _ wd_191) (fun _ h9 => h9) rfl hdg kk
theorem gfX5_167 {p : Program} {l : Launch} {e : Env} {R : Room} {s : State} {m : MethodId} {args : Array Value} {below : List Frame} {meth : Method} {c : Code} {H : Heap} {locs : List Loc} {Q : State → Prop} {cc : ByteArray} {pc nL : Nat} {ls : Array Slot} {rest : List Value} {D : va_G} {cI cJ : ClassId} {tP tR : Nat} {A : Nat → Prop} {ad : Nat → Nat} {M : Mem} (C : qC p s m args c D cI cJ tP tR A (xW ad cI cJ) cc nL RX5) (hP : va_P D vwCl (xW ad cI cJ M) H) (hdg : decode cc pc = .ok (.getfield 167, 3)) (kk : W p l e R s m args below meth c H locs 0 0 Q (F0 m (pc + 3) ls (.ref (ad 22) :: rest))) : W p l e R s m args below meth c H locs 0 0 Q (F0 m pc ls (.ref (ad 21) :: rest)) := by
  obtain ⟨hx, hb0, hml, hown, hts, hK⟩ := C
  exact va_get (D := D) (ci := 3) (C := RX3) (T := TX3) (N := 4) hx hb0 hts hinX3 hown hK.1 hP 21 rfl rfl 0 (by decide) (hts _ wd_189) (fun _ h9 => h9) rfl hdg kk
theorem gfX0_9 {p : Program} {l : Launch} {e : Env} {R : Room} {s : State} {m : MethodId} {args : Array Value} {below : List Frame} {meth : Method} {c : Code} {H : Heap} {locs : List Loc} {Q : State → Prop} {cc : ByteArray} {pc nL : Nat} {ls : Array Slot} {rest : List Value} {D : va_G} {cI cJ : ClassId} {tP tR : Nat} {A : Nat → Prop} {ad : Nat → Nat} {M : Mem} {b : Nat} (C : qC p s m args c D cI cJ tP tR A (xW ad cI cJ) cc nL RX0) (hP : va_P D vwCl (xW ad cI cJ M) H) (hb : b = 1 ∨ b = 6) (hdg : decode cc pc = .ok (.getfield 9, 3)) (kk : W p l e R s m args below meth c H locs 0 0 Q (F0 m (pc + 3) ls (.ref (ad (b + 1)) :: rest))) : W p l e R s m args below meth c H locs 0 0 Q (F0 m pc ls (.ref (ad b) :: rest)) := by
  obtain ⟨hx, hb0, hml, hown, hts, hK⟩ := C
  exact va_get (D := D) (ci := 0) (C := RX0) (T := TX0) (N := 5) hx hb0 hts hinX0 hown hK.1 hP b (xE_eq hb) rfl 0 (by decide) (hts _ wd_72) (fun _ h9 => h9) rfl hdg kk
theorem gfX0_15 {p : Program} {l : Launch} {e : Env} {R : Room} {s : State} {m : MethodId} {args : Array Value} {below : List Frame} {meth : Method} {c : Code} {H : Heap} {locs : List Loc} {Q : State → Prop} {cc : ByteArray} {pc nL : Nat} {ls : Array Slot} {rest : List Value} {D : va_G} {cI cJ : ClassId} {tP tR : Nat} {A : Nat → Prop} {ad : Nat → Nat} {M : Mem} {b : Nat} (C : qC p s m args c D cI cJ tP tR A (xW ad cI cJ) cc nL RX0) (hP : va_P D vwCl (xW ad cI cJ M) H) (hb : b = 1 ∨ b = 6) (hdg : decode cc pc = .ok (.getfield 15, 3)) (kk : W p l e R s m args below meth c H locs 0 0 Q (F0 m (pc + 3) ls (.ref (ad (b + 2)) :: rest))) : W p l e R s m args below meth c H locs 0 0 Q (F0 m pc ls (.ref (ad b) :: rest)) := by
  obtain ⟨hx, hb0, hml, hown, hts, hK⟩ := C
  exact va_get (D := D) (ci := 0) (C := RX0) (T := TX0) (N := 5) hx hb0 hts hinX0 hown hK.1 hP b (xE_eq hb) rfl 1 (by decide) (hts _ wd_78) (fun _ h9 => h9) rfl hdg kk
theorem gfX0_18 {p : Program} {l : Launch} {e : Env} {R : Room} {s : State} {m : MethodId} {args : Array Value} {below : List Frame} {meth : Method} {c : Code} {H : Heap} {locs : List Loc} {Q : State → Prop} {cc : ByteArray} {pc nL : Nat} {ls : Array Slot} {rest : List Value} {D : va_G} {cI cJ : ClassId} {tP tR : Nat} {A : Nat → Prop} {ad : Nat → Nat} {M : Mem} {b : Nat} (C : qC p s m args c D cI cJ tP tR A (xW ad cI cJ) cc nL RX0) (hP : va_P D vwCl (xW ad cI cJ M) H) (hb : b = 1 ∨ b = 6) (hdg : decode cc pc = .ok (.getfield 18, 3)) (kk : W p l e R s m args below meth c H locs 0 0 Q (F0 m (pc + 3) ls (.ref (ad (b + 3)) :: rest))) : W p l e R s m args below meth c H locs 0 0 Q (F0 m pc ls (.ref (ad b) :: rest)) := by
  obtain ⟨hx, hb0, hml, hown, hts, hK⟩ := C
  exact va_get (D := D) (ci := 0) (C := RX0) (T := TX0) (N := 5) hx hb0 hts hinX0 hown hK.1 hP b (xE_eq hb) rfl 2 (by decide) (hts _ wd_84) (fun _ h9 => h9) rfl hdg kk
theorem gfX0_21 {p : Program} {l : Launch} {e : Env} {R : Room} {s : State} {m : MethodId} {args : Array Value} {below : List Frame} {meth : Method} {c : Code} {H : Heap} {locs : List Loc} {Q : State → Prop} {cc : ByteArray} {pc nL : Nat} {ls : Array Slot} {rest : List Value} {D : va_G} {cI cJ : ClassId} {tP tR : Nat} {A : Nat → Prop} {ad : Nat → Nat} {M : Mem} {b : Nat} (C : qC p s m args c D cI cJ tP tR A (xW ad cI cJ) cc nL RX0) (hP : va_P D vwCl (xW ad cI cJ M) H) (hb : b = 1 ∨ b = 6) (hdg : decode cc pc = .ok (.getfield 21, 3)) (kk : W p l e R s m args below meth c H locs 0 0 Q (F0 m (pc + 3) ls (.ref (ad (b + 4)) :: rest))) : W p l e R s m args below meth c H locs 0 0 Q (F0 m pc ls (.ref (ad b) :: rest)) := by
  obtain ⟨hx, hb0, hml, hown, hts, hK⟩ := C
  exact va_get (D := D) (ci := 0) (C := RX0) (T := TX0) (N := 5) hx hb0 hts hinX0 hown hK.1 hP b (xE_eq hb) rfl 3 (by decide) (hts _ wd_88) (fun _ h9 => h9) rfl hdg kk
theorem gfX0_24 {p : Program} {l : Launch} {e : Env} {R : Room} {s : State} {m : MethodId} {args : Array Value} {below : List Frame} {meth : Method} {c : Code} {H : Heap} {locs : List Loc} {Q : State → Prop} {cc : ByteArray} {pc nL : Nat} {ls : Array Slot} {rest : List Value} {D : va_G} {cI cJ : ClassId} {tP tR : Nat} {A : Nat → Prop} {ad : Nat → Nat} {M : Mem} {b : Nat} (C : qC p s m args c D cI cJ tP tR A (xW ad cI cJ) cc nL RX0) (hP : va_P D vwCl (xW ad cI cJ M) H) (hb : b = 1 ∨ b = 6) (hdg : decode cc pc = .ok (.getfield 24, 3)) (kk : W p l e R s m args below meth c H locs 0 0 Q (F0 m (pc + 3) ls (.int (M.1 b 4) :: rest))) : W p l e R s m args below meth c H locs 0 0 Q (F0 m pc ls (.ref (ad b) :: rest)) := by
  obtain ⟨hx, hb0, hml, hown, hts, hK⟩ := C
  exact va_get (D := D) (ci := 0) (C := RX0) (T := TX0) (N := 5) hx hb0 hts hinX0 hown hK.1 hP b (xE_eq hb) rfl 4 (by decide) (hts _ wd_91) (fun _ h9 => h9) rfl hdg kk
theorem gfX1_11 {p : Program} {l : Launch} {e : Env} {R : Room} {s : State} {m : MethodId} {args : Array Value} {below : List Frame} {meth : Method} {c : Code} {H : Heap} {locs : List Loc} {Q : State → Prop} {cc : ByteArray} {pc nL : Nat} {ls : Array Slot} {rest : List Value} {D : va_G} {cI cJ : ClassId} {tP tR : Nat} {A : Nat → Prop} {ad : Nat → Nat} {M : Mem} (C : qC p s m args c D cI cJ tP tR A (xW ad cI cJ) cc nL RX1) (hP : va_P D vwCl (xW ad cI cJ M) H) (hdg : decode cc pc = .ok (.getfield 11, 3)) (kk : W p l e R s m args below meth c H locs 0 0 Q (F0 m (pc + 3) ls (.ref (ad 12) :: rest))) : W p l e R s m args below meth c H locs 0 0 Q (F0 m pc ls (.ref (ad 11) :: rest)) := by
  obtain ⟨hx, hb0, hml, hown, hts, hK⟩ := C
  exact va_get (D := D) (ci := 1) (C := RX1) (T := TX1) (N := 6) hx hb0 hts hinX1 hown hK.1 hP 11 rfl rfl 0 (by decide) (hts _ wd_115) (fun _ h9 => h9) rfl hdg kk
theorem gfX1_15 {p : Program} {l : Launch} {e : Env} {R : Room} {s : State} {m : MethodId} {args : Array Value} {below : List Frame} {meth : Method} {c : Code} {H : Heap} {locs : List Loc} {Q : State → Prop} {cc : ByteArray} {pc nL : Nat} {ls : Array Slot} {rest : List Value} {D : va_G} {cI cJ : ClassId} {tP tR : Nat} {A : Nat → Prop} {ad : Nat → Nat} {M : Mem} (C : qC p s m args c D cI cJ tP tR A (xW ad cI cJ) cc nL RX1) (hP : va_P D vwCl (xW ad cI cJ M) H) (hdg : decode cc pc = .ok (.getfield 15, 3)) (kk : W p l e R s m args below meth c H locs 0 0 Q (F0 m (pc + 3) ls (.ref (ad 13) :: rest))) : W p l e R s m args below meth c H locs 0 0 Q (F0 m pc ls (.ref (ad 11) :: rest)) := by
  obtain ⟨hx, hb0, hml, hown, hts, hK⟩ := C
  exact va_get (D := D) (ci := 1) (C := RX1) (T := TX1) (N := 6) hx hb0 hts hinX1 hown hK.1 hP 11 rfl rfl 1 (by decide) (hts _ wd_117) (fun _ h9 => h9) rfl hdg kk
theorem gfX1_18 {p : Program} {l : Launch} {e : Env} {R : Room} {s : State} {m : MethodId} {args : Array Value} {below : List Frame} {meth : Method} {c : Code} {H : Heap} {locs : List Loc} {Q : State → Prop} {cc : ByteArray} {pc nL : Nat} {ls : Array Slot} {rest : List Value} {D : va_G} {cI cJ : ClassId} {tP tR : Nat} {A : Nat → Prop} {ad : Nat → Nat} {M : Mem} (C : qC p s m args c D cI cJ tP tR A (xW ad cI cJ) cc nL RX1) (hP : va_P D vwCl (xW ad cI cJ M) H) (hdg : decode cc pc = .ok (.getfield 18, 3)) (kk : W p l e R s m args below meth c H locs 0 0 Q (F0 m (pc + 3) ls (.int (M.1 11 2) :: rest))) : W p l e R s m args below meth c H locs 0 0 Q (F0 m pc ls (.ref (ad 11) :: rest)) := by
  obtain ⟨hx, hb0, hml, hown, hts, hK⟩ := C
  exact va_get (D := D) (ci := 1) (C := RX1) (T := TX1) (N := 6) hx hb0 hts hinX1 hown hK.1 hP 11 rfl rfl 2 (by decide) (hts _ wd_119) (fun _ h9 => h9) rfl hdg kk
theorem gfX1_22 {p : Program} {l : Launch} {e : Env} {R : Room} {s : State} {m : MethodId} {args : Array Value} {below : List Frame} {meth : Method} {c : Code} {H : Heap} {locs : List Loc} {Q : State → Prop} {cc : ByteArray} {pc nL : Nat} {ls : Array Slot} {rest : List Value} {D : va_G} {cI cJ : ClassId} {tP tR : Nat} {A : Nat → Prop} {ad : Nat → Nat} {M : Mem} (C : qC p s m args c D cI cJ tP tR A (xW ad cI cJ) cc nL RX1) (hP : va_P D vwCl (xW ad cI cJ M) H) (hdg : decode cc pc = .ok (.getfield 22, 3)) (kk : W p l e R s m args below meth c H locs 0 0 Q (F0 m (pc + 3) ls (.ref (ad 14) :: rest))) : W p l e R s m args below meth c H locs 0 0 Q (F0 m pc ls (.ref (ad 11) :: rest)) := by
  obtain ⟨hx, hb0, hml, hown, hts, hK⟩ := C
  exact va_get (D := D) (ci := 1) (C := RX1) (T := TX1) (N := 6) hx hb0 hts hinX1 hown hK.1 hP 11 rfl rfl 3 (by decide) (hts _ wd_121) (fun _ h9 => h9) rfl hdg kk
theorem gfX1_25 {p : Program} {l : Launch} {e : Env} {R : Room} {s : State} {m : MethodId} {args : Array Value} {below : List Frame} {meth : Method} {c : Code} {H : Heap} {locs : List Loc} {Q : State → Prop} {cc : ByteArray} {pc nL : Nat} {ls : Array Slot} {rest : List Value} {D : va_G} {cI cJ : ClassId} {tP tR : Nat} {A : Nat → Prop} {ad : Nat → Nat} {M : Mem} (C : qC p s m args c D cI cJ tP tR A (xW ad cI cJ) cc nL RX1) (hP : va_P D vwCl (xW ad cI cJ M) H) (hdg : decode cc pc = .ok (.getfield 25, 3)) (kk : W p l e R s m args below meth c H locs 0 0 Q (F0 m (pc + 3) ls (.ref (ad 15) :: rest))) : W p l e R s m args below meth c H locs 0 0 Q (F0 m pc ls (.ref (ad 11) :: rest)) := by
  obtain ⟨hx, hb0, hml, hown, hts, hK⟩ := C
  exact va_get (D := D) (ci := 1) (C := RX1) (T := TX1) (N := 6) hx hb0 hts hinX1 hown hK.1 hP 11 rfl rfl 4 (by decide) (hts _ wd_122) (fun _ h9 => h9) rfl hdg kk
theorem gfX1_28 {p : Program} {l : Launch} {e : Env} {R : Room} {s : State} {m : MethodId} {args : Array Value} {below : List Frame} {meth : Method} {c : Code} {H : Heap} {locs : List Loc} {Q : State → Prop} {cc : ByteArray} {pc nL : Nat} {ls : Array Slot} {rest : List Value} {D : va_G} {cI cJ : ClassId} {tP tR : Nat} {A : Nat → Prop} {ad : Nat → Nat} {M : Mem} (C : qC p s m args c D cI cJ tP tR A (xW ad cI cJ) cc nL RX1) (hP : va_P D vwCl (xW ad cI cJ M) H) (hdg : decode cc pc = .ok (.getfield 28, 3)) (kk : W p l e R s m args below meth c H locs 0 0 Q (F0 m (pc + 3) ls (.int (M.1 11 5) :: rest))) : W p l e R s m args below meth c H locs 0 0 Q (F0 m pc ls (.ref (ad 11) :: rest)) := by
  obtain ⟨hx, hb0, hml, hown, hts, hK⟩ := C
  exact va_get (D := D) (ci := 1) (C := RX1) (T := TX1) (N := 6) hx hb0 hts hinX1 hown hK.1 hP 11 rfl rfl 5 (by decide) (hts _ wd_123) (fun _ h9 => h9) rfl hdg kk
theorem gfX1_31 {p : Program} {l : Launch} {e : Env} {R : Room} {s : State} {m : MethodId} {args : Array Value} {below : List Frame} {meth : Method} {c : Code} {H : Heap} {locs : List Loc} {Q : State → Prop} {cc : ByteArray} {pc nL : Nat} {ls : Array Slot} {rest : List Value} {D : va_G} {cI cJ : ClassId} {tP tR : Nat} {A : Nat → Prop} {ad : Nat → Nat} {M : Mem} {b : Nat} (C : qC p s m args c D cI cJ tP tR A (xW ad cI cJ) cc nL RX1) (hP : va_P D vwCl (xW ad cI cJ M) H) (hb : b = 1 ∨ b = 6) (hdg : decode cc pc = .ok (.getfield 31, 3)) (kk : W p l e R s m args below meth c H locs 0 0 Q (F0 m (pc + 3) ls (.int (M.1 b 4) :: rest))) : W p l e R s m args below meth c H locs 0 0 Q (F0 m pc ls (.ref (ad b) :: rest)) := by
  obtain ⟨hx, hb0, hml, hown, hts, hK⟩ := C
  exact va_get (D := D) (ci := 0) (C := RX0) (T := TX0) (N := 5) hx hb0 hts hinX0 hown hK.1 hP b (xE_eq hb) rfl 4 (by decide) (hts _ wd_92) (fun _ h9 => h9) rfl hdg kk
theorem gfX1_36 {p : Program} {l : Launch} {e : Env} {R : Room} {s : State} {m : MethodId} {args : Array Value} {below : List Frame} {meth : Method} {c : Code} {H : Heap} {locs : List Loc} {Q : State → Prop} {cc : ByteArray} {pc nL : Nat} {ls : Array Slot} {rest : List Value} {D : va_G} {cI cJ : ClassId} {tP tR : Nat} {A : Nat → Prop} {ad : Nat → Nat} {M : Mem} {b : Nat} (C : qC p s m args c D cI cJ tP tR A (xW ad cI cJ) cc nL RX1) (hP : va_P D vwCl (xW ad cI cJ M) H) (hb : b = 1 ∨ b = 6) (hdg : decode cc pc = .ok (.getfield 36, 3)) (kk : W p l e R s m args below meth c H locs 0 0 Q (F0 m (pc + 3) ls (.ref (ad (b + 1)) :: rest))) : W p l e R s m args below meth c H locs 0 0 Q (F0 m pc ls (.ref (ad b) :: rest)) := by
  obtain ⟨hx, hb0, hml, hown, hts, hK⟩ := C
  exact va_get (D := D) (ci := 0) (C := RX0) (T := TX0) (N := 5) hx hb0 hts hinX0 hown hK.1 hP b (xE_eq hb) rfl 0 (by decide) (hts _ wd_73) (fun _ h9 => h9) rfl hdg kk
theorem gfX1_39 {p : Program} {l : Launch} {e : Env} {R : Room} {s : State} {m : MethodId} {args : Array Value} {below : List Frame} {meth : Method} {c : Code} {H : Heap} {locs : List Loc} {Q : State → Prop} {cc : ByteArray} {pc nL : Nat} {ls : Array Slot} {rest : List Value} {D : va_G} {cI cJ : ClassId} {tP tR : Nat} {A : Nat → Prop} {ad : Nat → Nat} {M : Mem} {b : Nat} (C : qC p s m args c D cI cJ tP tR A (xW ad cI cJ) cc nL RX1) (hP : va_P D vwCl (xW ad cI cJ M) H) (hb : b = 1 ∨ b = 6) (hdg : decode cc pc = .ok (.getfield 39, 3)) (kk : W p l e R s m args below meth c H locs 0 0 Q (F0 m (pc + 3) ls (.ref (ad (b + 2)) :: rest))) : W p l e R s m args below meth c H locs 0 0 Q (F0 m pc ls (.ref (ad b) :: rest)) := by
  obtain ⟨hx, hb0, hml, hown, hts, hK⟩ := C
  exact va_get (D := D) (ci := 0) (C := RX0) (T := TX0) (N := 5) hx hb0 hts hinX0 hown hK.1 hP b (xE_eq hb) rfl 1 (by decide) (hts _ wd_79) (fun _ h9 => h9) rfl hdg kk
theorem gfX2_11 {p : Program} {l : Launch} {e : Env} {R : Room} {s : State} {m : MethodId} {args : Array Value} {below : List Frame} {meth : Method} {c : Code} {H : Heap} {locs : List Loc} {Q : State → Prop} {cc : ByteArray} {pc nL : Nat} {ls : Array Slot} {rest : List Value} {D : va_G} {cI cJ : ClassId} {tP tR : Nat} {A : Nat → Prop} {ad : Nat → Nat} {M : Mem} (C : qC p s m args c D cI cJ tP tR A (xW ad cI cJ) cc nL RX2) (hP : va_P D vwCl (xW ad cI cJ M) H) (hdg : decode cc pc = .ok (.getfield 11, 3)) (kk : W p l e R s m args below meth c H locs 0 0 Q (F0 m (pc + 3) ls (.ref (ad 19) :: rest))) : W p l e R s m args below meth c H locs 0 0 Q (F0 m pc ls (.ref (ad 18) :: rest)) := by
  obtain ⟨hx, hb0, hml, hown, hts, hK⟩ := C
  exact va_get (D := D) (ci := 2) (C := RX2) (T := TX2) (N := 2) hx hb0 hts hinX2 hown hK.1 hP 18 rfl rfl 0 (by decide) (hts _ wd_174) (fun _ h9 => h9) rfl hdg kk
theorem gfX2_15 {p : Program} {l : Launch} {e : Env} {R : Room} {s : State} {m : MethodId} {args : Array Value} {below : List Frame} {meth : Method} {c : Code} {H : Heap} {locs : List Loc} {Q : State → Prop} {cc : ByteArray} {pc nL : Nat} {ls : Array Slot} {rest : List Value} {D : va_G} {cI cJ : ClassId} {tP tR : Nat} {A : Nat → Prop} {ad : Nat → Nat} {M : Mem} (C : qC p s m args c D cI cJ tP tR A (xW ad cI cJ) cc nL RX2) (hP : va_P D vwCl (xW ad cI cJ M) H) (hdg : decode cc pc = .ok (.getfield 15, 3)) (kk : W p l e R s m args below meth c H locs 0 0 Q (F0 m (pc + 3) ls (.ref (ad 20) :: rest))) : W p l e R s m args below meth c H locs 0 0 Q (F0 m pc ls (.ref (ad 18) :: rest)) := by
  obtain ⟨hx, hb0, hml, hown, hts, hK⟩ := C
  exact va_get (D := D) (ci := 2) (C := RX2) (T := TX2) (N := 2) hx hb0 hts hinX2 hown hK.1 hP 18 rfl rfl 1 (by decide) (hts _ wd_175) (fun _ h9 => h9) rfl hdg kk
theorem gfX2_21 {p : Program} {l : Launch} {e : Env} {R : Room} {s : State} {m : MethodId} {args : Array Value} {below : List Frame} {meth : Method} {c : Code} {H : Heap} {locs : List Loc} {Q : State → Prop} {cc : ByteArray} {pc nL : Nat} {ls : Array Slot} {rest : List Value} {D : va_G} {cI cJ : ClassId} {tP tR : Nat} {A : Nat → Prop} {ad : Nat → Nat} {M : Mem} {b : Nat} (C : qC p s m args c D cI cJ tP tR A (xW ad cI cJ) cc nL RX2) (hP : va_P D vwCl (xW ad cI cJ M) H) (hb : b = 1 ∨ b = 6) (hdg : decode cc pc = .ok (.getfield 21, 3)) (kk : W p l e R s m args below meth c H locs 0 0 Q (F0 m (pc + 3) ls (.int (M.1 b 4) :: rest))) : W p l e R s m args below meth c H locs 0 0 Q (F0 m pc ls (.ref (ad b) :: rest)) := by
  obtain ⟨hx, hb0, hml, hown, hts, hK⟩ := C
  exact va_get (D := D) (ci := 0) (C := RX0) (T := TX0) (N := 5) hx hb0 hts hinX0 hown hK.1 hP b (xE_eq hb) rfl 4 (by decide) (hts _ wd_93) (fun _ h9 => h9) rfl hdg kk
theorem gfX2_27 {p : Program} {l : Launch} {e : Env} {R : Room} {s : State} {m : MethodId} {args : Array Value} {below : List Frame} {meth : Method} {c : Code} {H : Heap} {locs : List Loc} {Q : State → Prop} {cc : ByteArray} {pc nL : Nat} {ls : Array Slot} {rest : List Value} {D : va_G} {cI cJ : ClassId} {tP tR : Nat} {A : Nat → Prop} {ad : Nat → Nat} {M : Mem} {b : Nat} (C : qC p s m args c D cI cJ tP tR A (xW ad cI cJ) cc nL RX2) (hP : va_P D vwCl (xW ad cI cJ M) H) (hb : b = 1 ∨ b = 6) (hdg : decode cc pc = .ok (.getfield 27, 3)) (kk : W p l e R s m args below meth c H locs 0 0 Q (F0 m (pc + 3) ls (.ref (ad (b + 1)) :: rest))) : W p l e R s m args below meth c H locs 0 0 Q (F0 m pc ls (.ref (ad b) :: rest)) := by
  obtain ⟨hx, hb0, hml, hown, hts, hK⟩ := C
  exact va_get (D := D) (ci := 0) (C := RX0) (T := TX0) (N := 5) hx hb0 hts hinX0 hown hK.1 hP b (xE_eq hb) rfl 0 (by decide) (hts _ wd_74) (fun _ h9 => h9) rfl hdg kk
theorem gfX2_31 {p : Program} {l : Launch} {e : Env} {R : Room} {s : State} {m : MethodId} {args : Array Value} {below : List Frame} {meth : Method} {c : Code} {H : Heap} {locs : List Loc} {Q : State → Prop} {cc : ByteArray} {pc nL : Nat} {ls : Array Slot} {rest : List Value} {D : va_G} {cI cJ : ClassId} {tP tR : Nat} {A : Nat → Prop} {ad : Nat → Nat} {M : Mem} {b : Nat} (C : qC p s m args c D cI cJ tP tR A (xW ad cI cJ) cc nL RX2) (hP : va_P D vwCl (xW ad cI cJ M) H) (hb : b = 1 ∨ b = 6) (hdg : decode cc pc = .ok (.getfield 31, 3)) (kk : W p l e R s m args below meth c H locs 0 0 Q (F0 m (pc + 3) ls (.ref (ad (b + 2)) :: rest))) : W p l e R s m args below meth c H locs 0 0 Q (F0 m pc ls (.ref (ad b) :: rest)) := by
  obtain ⟨hx, hb0, hml, hown, hts, hK⟩ := C
  exact va_get (D := D) (ci := 0) (C := RX0) (T := TX0) (N := 5) hx hb0 hts hinX0 hown hK.1 hP b (xE_eq hb) rfl 1 (by decide) (hts _ wd_80) (fun _ h9 => h9) rfl hdg kk
theorem gfX2_66 {p : Program} {l : Launch} {e : Env} {R : Room} {s : State} {m : MethodId} {args : Array Value} {below : List Frame} {meth : Method} {c : Code} {H : Heap} {locs : List Loc} {Q : State → Prop} {cc : ByteArray} {pc nL : Nat} {ls : Array Slot} {rest : List Value} {D : va_G} {cI cJ : ClassId} {tP tR : Nat} {A : Nat → Prop} {ad : Nat → Nat} {M : Mem} {b : Nat} (C : qC p s m args c D cI cJ tP tR A (xW ad cI cJ) cc nL RX2) (hP : va_P D vwCl (xW ad cI cJ M) H) (hb : b = 1 ∨ b = 6) (hdg : decode cc pc = .ok (.getfield 66, 3)) (kk : W p l e R s m args below meth c H locs 0 0 Q (F0 m (pc + 3) ls (.ref (ad (b + 3)) :: rest))) : W p l e R s m args below meth c H locs 0 0 Q (F0 m pc ls (.ref (ad b) :: rest)) := by
  obtain ⟨hx, hb0, hml, hown, hts, hK⟩ := C
  exact va_get (D := D) (ci := 0) (C := RX0) (T := TX0) (N := 5) hx hb0 hts hinX0 hown hK.1 hP b (xE_eq hb) rfl 2 (by decide) (hts _ wd_87) (fun _ h9 => h9) rfl hdg kk
theorem gfX3_9 {p : Program} {l : Launch} {e : Env} {R : Room} {s : State} {m : MethodId} {args : Array Value} {below : List Frame} {meth : Method} {c : Code} {H : Heap} {locs : List Loc} {Q : State → Prop} {cc : ByteArray} {pc nL : Nat} {ls : Array Slot} {rest : List Value} {D : va_G} {cI cJ : ClassId} {tP tR : Nat} {A : Nat → Prop} {ad : Nat → Nat} {M : Mem} (C : qC p s m args c D cI cJ tP tR A (xW ad cI cJ) cc nL RX3) (hP : va_P D vwCl (xW ad cI cJ M) H) (hdg : decode cc pc = .ok (.getfield 9, 3)) (kk : W p l e R s m args below meth c H locs 0 0 Q (F0 m (pc + 3) ls (.ref (ad 22) :: rest))) : W p l e R s m args below meth c H locs 0 0 Q (F0 m pc ls (.ref (ad 21) :: rest)) := by
  obtain ⟨hx, hb0, hml, hown, hts, hK⟩ := C
  exact va_get (D := D) (ci := 3) (C := RX3) (T := TX3) (N := 4) hx hb0 hts hinX3 hown hK.1 hP 21 rfl rfl 0 (by decide) (hts _ wd_188) (fun _ h9 => h9) rfl hdg kk
theorem gfX3_15 {p : Program} {l : Launch} {e : Env} {R : Room} {s : State} {m : MethodId} {args : Array Value} {below : List Frame} {meth : Method} {c : Code} {H : Heap} {locs : List Loc} {Q : State → Prop} {cc : ByteArray} {pc nL : Nat} {ls : Array Slot} {rest : List Value} {D : va_G} {cI cJ : ClassId} {tP tR : Nat} {A : Nat → Prop} {ad : Nat → Nat} {M : Mem} (C : qC p s m args c D cI cJ tP tR A (xW ad cI cJ) cc nL RX3) (hP : va_P D vwCl (xW ad cI cJ M) H) (hdg : decode cc pc = .ok (.getfield 15, 3)) (kk : W p l e R s m args below meth c H locs 0 0 Q (F0 m (pc + 3) ls (.int (M.1 21 1) :: rest))) : W p l e R s m args below meth c H locs 0 0 Q (F0 m pc ls (.ref (ad 21) :: rest)) := by
  obtain ⟨hx, hb0, hml, hown, hts, hK⟩ := C
  exact va_get (D := D) (ci := 3) (C := RX3) (T := TX3) (N := 4) hx hb0 hts hinX3 hown hK.1 hP 21 rfl rfl 1 (by decide) (hts _ wd_190) (fun _ h9 => h9) rfl hdg kk
theorem gfX3_19 {p : Program} {l : Launch} {e : Env} {R : Room} {s : State} {m : MethodId} {args : Array Value} {below : List Frame} {meth : Method} {c : Code} {H : Heap} {locs : List Loc} {Q : State → Prop} {cc : ByteArray} {pc nL : Nat} {ls : Array Slot} {rest : List Value} {D : va_G} {cI cJ : ClassId} {tP tR : Nat} {A : Nat → Prop} {ad : Nat → Nat} {M : Mem} (C : qC p s m args c D cI cJ tP tR A (xW ad cI cJ) cc nL RX3) (hP : va_P D vwCl (xW ad cI cJ M) H) (hdg : decode cc pc = .ok (.getfield 19, 3)) (kk : W p l e R s m args below meth c H locs 0 0 Q (F0 m (pc + 3) ls (.int (M.1 21 2) :: rest))) : W p l e R s m args below meth c H locs 0 0 Q (F0 m pc ls (.ref (ad 21) :: rest)) := by
  obtain ⟨hx, hb0, hml, hown, hts, hK⟩ := C
  exact va_get (D := D) (ci := 3) (C := RX3) (T := TX3) (N := 4) hx hb0 hts hinX3 hown hK.1 hP 21 rfl rfl 2 (by decide) (hts _ wd_192) (fun _ h9 => h9) rfl hdg kk
theorem gfX3_22 {p : Program} {l : Launch} {e : Env} {R : Room} {s : State} {m : MethodId} {args : Array Value} {below : List Frame} {meth : Method} {c : Code} {H : Heap} {locs : List Loc} {Q : State → Prop} {cc : ByteArray} {pc nL : Nat} {ls : Array Slot} {rest : List Value} {D : va_G} {cI cJ : ClassId} {tP tR : Nat} {A : Nat → Prop} {ad : Nat → Nat} {M : Mem} (C : qC p s m args c D cI cJ tP tR A (xW ad cI cJ) cc nL RX3) (hP : va_P D vwCl (xW ad cI cJ M) H) (hdg : decode cc pc = .ok (.getfield 22, 3)) (kk : W p l e R s m args below meth c H locs 0 0 Q (F0 m (pc + 3) ls (.ref (ad 23) :: rest))) : W p l e R s m args below meth c H locs 0 0 Q (F0 m pc ls (.ref (ad 21) :: rest)) := by
  obtain ⟨hx, hb0, hml, hown, hts, hK⟩ := C
  exact va_get (D := D) (ci := 3) (C := RX3) (T := TX3) (N := 4) hx hb0 hts hinX3 hown hK.1 hP 21 rfl rfl 3 (by decide) (hts _ wd_194) (fun _ h9 => h9) rfl hdg kk
theorem gfX3_37 {p : Program} {l : Launch} {e : Env} {R : Room} {s : State} {m : MethodId} {args : Array Value} {below : List Frame} {meth : Method} {c : Code} {H : Heap} {locs : List Loc} {Q : State → Prop} {cc : ByteArray} {pc nL : Nat} {ls : Array Slot} {rest : List Value} {D : va_G} {cI cJ : ClassId} {tP tR : Nat} {A : Nat → Prop} {ad : Nat → Nat} {M : Mem} {b : Nat} (C : qC p s m args c D cI cJ tP tR A (xW ad cI cJ) cc nL RX3) (hP : va_P D vwCl (xW ad cI cJ M) H) (hb : b = 1 ∨ b = 6) (hdg : decode cc pc = .ok (.getfield 37, 3)) (kk : W p l e R s m args below meth c H locs 0 0 Q (F0 m (pc + 3) ls (.int (M.1 b 4) :: rest))) : W p l e R s m args below meth c H locs 0 0 Q (F0 m pc ls (.ref (ad b) :: rest)) := by
  obtain ⟨hx, hb0, hml, hown, hts, hK⟩ := C
  exact va_get (D := D) (ci := 0) (C := RX0) (T := TX0) (N := 5) hx hb0 hts hinX0 hown hK.1 hP b (xE_eq hb) rfl 4 (by decide) (hts _ wd_96) (fun _ h9 => h9) rfl hdg kk
theorem gfX3_42 {p : Program} {l : Launch} {e : Env} {R : Room} {s : State} {m : MethodId} {args : Array Value} {below : List Frame} {meth : Method} {c : Code} {H : Heap} {locs : List Loc} {Q : State → Prop} {cc : ByteArray} {pc nL : Nat} {ls : Array Slot} {rest : List Value} {D : va_G} {cI cJ : ClassId} {tP tR : Nat} {A : Nat → Prop} {ad : Nat → Nat} {M : Mem} {b : Nat} (C : qC p s m args c D cI cJ tP tR A (xW ad cI cJ) cc nL RX3) (hP : va_P D vwCl (xW ad cI cJ M) H) (hb : b = 1 ∨ b = 6) (hdg : decode cc pc = .ok (.getfield 42, 3)) (kk : W p l e R s m args below meth c H locs 0 0 Q (F0 m (pc + 3) ls (.ref (ad (b + 3)) :: rest))) : W p l e R s m args below meth c H locs 0 0 Q (F0 m pc ls (.ref (ad b) :: rest)) := by
  obtain ⟨hx, hb0, hml, hown, hts, hK⟩ := C
  exact va_get (D := D) (ci := 0) (C := RX0) (T := TX0) (N := 5) hx hb0 hts hinX0 hown hK.1 hP b (xE_eq hb) rfl 2 (by decide) (hts _ wd_86) (fun _ h9 => h9) rfl hdg kk
theorem gfX3_45 {p : Program} {l : Launch} {e : Env} {R : Room} {s : State} {m : MethodId} {args : Array Value} {below : List Frame} {meth : Method} {c : Code} {H : Heap} {locs : List Loc} {Q : State → Prop} {cc : ByteArray} {pc nL : Nat} {ls : Array Slot} {rest : List Value} {D : va_G} {cI cJ : ClassId} {tP tR : Nat} {A : Nat → Prop} {ad : Nat → Nat} {M : Mem} {b : Nat} (C : qC p s m args c D cI cJ tP tR A (xW ad cI cJ) cc nL RX3) (hP : va_P D vwCl (xW ad cI cJ M) H) (hb : b = 1 ∨ b = 6) (hdg : decode cc pc = .ok (.getfield 45, 3)) (kk : W p l e R s m args below meth c H locs 0 0 Q (F0 m (pc + 3) ls (.ref (ad (b + 1)) :: rest))) : W p l e R s m args below meth c H locs 0 0 Q (F0 m pc ls (.ref (ad b) :: rest)) := by
  obtain ⟨hx, hb0, hml, hown, hts, hK⟩ := C
  exact va_get (D := D) (ci := 0) (C := RX0) (T := TX0) (N := 5) hx hb0 hts hinX0 hown hK.1 hP b (xE_eq hb) rfl 0 (by decide) (hts _ wd_76) (fun _ h9 => h9) rfl hdg kk
theorem gfX3_48 {p : Program} {l : Launch} {e : Env} {R : Room} {s : State} {m : MethodId} {args : Array Value} {below : List Frame} {meth : Method} {c : Code} {H : Heap} {locs : List Loc} {Q : State → Prop} {cc : ByteArray} {pc nL : Nat} {ls : Array Slot} {rest : List Value} {D : va_G} {cI cJ : ClassId} {tP tR : Nat} {A : Nat → Prop} {ad : Nat → Nat} {M : Mem} {b : Nat} (C : qC p s m args c D cI cJ tP tR A (xW ad cI cJ) cc nL RX3) (hP : va_P D vwCl (xW ad cI cJ M) H) (hb : b = 1 ∨ b = 6) (hdg : decode cc pc = .ok (.getfield 48, 3)) (kk : W p l e R s m args below meth c H locs 0 0 Q (F0 m (pc + 3) ls (.ref (ad (b + 2)) :: rest))) : W p l e R s m args below meth c H locs 0 0 Q (F0 m pc ls (.ref (ad b) :: rest)) := by
  obtain ⟨hx, hb0, hml, hown, hts, hK⟩ := C
  exact va_get (D := D) (ci := 0) (C := RX0) (T := TX0) (N := 5) hx hb0 hts hinX0 hown hK.1 hP b (xE_eq hb) rfl 1 (by decide) (hts _ wd_82) (fun _ h9 => h9) rfl hdg kk
theorem gfX4_9 {p : Program} {l : Launch} {e : Env} {R : Room} {s : State} {m : MethodId} {args : Array Value} {below : List Frame} {meth : Method} {c : Code} {H : Heap} {locs : List Loc} {Q : State → Prop} {cc : ByteArray} {pc nL : Nat} {ls : Array Slot} {rest : List Value} {D : va_G} {cI cJ : ClassId} {tP tR : Nat} {A : Nat → Prop} {ad : Nat → Nat} {M : Mem} (C : qC p s m args c D cI cJ tP tR A (xW ad cI cJ) cc nL RX4) (hP : va_P D vwCl (xW ad cI cJ M) H) (hdg : decode cc pc = .ok (.getfield 9, 3)) (kk : W p l e R s m args below meth c H locs 0 0 Q (F0 m (pc + 3) ls (.int (M.1 16 0) :: rest))) : W p l e R s m args below meth c H locs 0 0 Q (F0 m pc ls (.ref (ad 16) :: rest)) := by
  obtain ⟨hx, hb0, hml, hown, hts, hK⟩ := C
  exact va_get (D := D) (ci := 4) (C := RX4) (T := TX4) (N := 7) hx hb0 hts hinX4 hown hK.1 hP 16 rfl rfl 0 (by decide) (hts _ wd_143) (fun _ h9 => h9) rfl hdg kk
theorem gfX4_19 {p : Program} {l : Launch} {e : Env} {R : Room} {s : State} {m : MethodId} {args : Array Value} {below : List Frame} {meth : Method} {c : Code} {H : Heap} {locs : List Loc} {Q : State → Prop} {cc : ByteArray} {pc nL : Nat} {ls : Array Slot} {rest : List Value} {D : va_G} {cI cJ : ClassId} {tP tR : Nat} {A : Nat → Prop} {ad : Nat → Nat} {M : Mem} (C : qC p s m args c D cI cJ tP tR A (xW ad cI cJ) cc nL RX4) (hP : va_P D vwCl (xW ad cI cJ M) H) (hdg : decode cc pc = .ok (.getfield 19, 3)) (kk : W p l e R s m args below meth c H locs 0 0 Q (F0 m (pc + 3) ls (.int (M.1 16 2) :: rest))) : W p l e R s m args below meth c H locs 0 0 Q (F0 m pc ls (.ref (ad 16) :: rest)) := by
  obtain ⟨hx, hb0, hml, hown, hts, hK⟩ := C
  exact va_get (D := D) (ci := 4) (C := RX4) (T := TX4) (N := 7) hx hb0 hts hinX4 hown hK.1 hP 16 rfl rfl 2 (by decide) (hts _ wd_147) (fun _ h9 => h9) rfl hdg kk
theorem gfX4_22 {p : Program} {l : Launch} {e : Env} {R : Room} {s : State} {m : MethodId} {args : Array Value} {below : List Frame} {meth : Method} {c : Code} {H : Heap} {locs : List Loc} {Q : State → Prop} {cc : ByteArray} {pc nL : Nat} {ls : Array Slot} {rest : List Value} {D : va_G} {cI cJ : ClassId} {tP tR : Nat} {A : Nat → Prop} {ad : Nat → Nat} {M : Mem} (C : qC p s m args c D cI cJ tP tR A (xW ad cI cJ) cc nL RX4) (hP : va_P D vwCl (xW ad cI cJ M) H) (hdg : decode cc pc = .ok (.getfield 22, 3)) (kk : W p l e R s m args below meth c H locs 0 0 Q (F0 m (pc + 3) ls (.ref (ad 17) :: rest))) : W p l e R s m args below meth c H locs 0 0 Q (F0 m pc ls (.ref (ad 16) :: rest)) := by
  obtain ⟨hx, hb0, hml, hown, hts, hK⟩ := C
  exact va_get (D := D) (ci := 4) (C := RX4) (T := TX4) (N := 7) hx hb0 hts hinX4 hown hK.1 hP 16 rfl rfl 3 (by decide) (hts _ wd_149) (fun _ h9 => h9) rfl hdg kk
theorem gfX4_26 {p : Program} {l : Launch} {e : Env} {R : Room} {s : State} {m : MethodId} {args : Array Value} {below : List Frame} {meth : Method} {c : Code} {H : Heap} {locs : List Loc} {Q : State → Prop} {cc : ByteArray} {pc nL : Nat} {ls : Array Slot} {rest : List Value} {D : va_G} {cI cJ : ClassId} {tP tR : Nat} {A : Nat → Prop} {ad : Nat → Nat} {M : Mem} (C : qC p s m args c D cI cJ tP tR A (xW ad cI cJ) cc nL RX4) (hP : va_P D vwCl (xW ad cI cJ M) H) (hdg : decode cc pc = .ok (.getfield 26, 3)) (kk : W p l e R s m args below meth c H locs 0 0 Q (F0 m (pc + 3) ls (.int (M.1 16 4) :: rest))) : W p l e R s m args below meth c H locs 0 0 Q (F0 m pc ls (.ref (ad 16) :: rest)) := by
  obtain ⟨hx, hb0, hml, hown, hts, hK⟩ := C
  exact va_get (D := D) (ci := 4) (C := RX4) (T := TX4) (N := 7) hx hb0 hts hinX4 hown hK.1 hP 16 rfl rfl 4 (by decide) (hts _ wd_150) (fun _ h9 => h9) rfl hdg kk
theorem gfX4_29 {p : Program} {l : Launch} {e : Env} {R : Room} {s : State} {m : MethodId} {args : Array Value} {below : List Frame} {meth : Method} {c : Code} {H : Heap} {locs : List Loc} {Q : State → Prop} {cc : ByteArray} {pc nL : Nat} {ls : Array Slot} {rest : List Value} {D : va_G} {cI cJ : ClassId} {tP tR : Nat} {A : Nat → Prop} {ad : Nat → Nat} {M : Mem} (C : qC p s m args c D cI cJ tP tR A (xW ad cI cJ) cc nL RX4) (hP : va_P D vwCl (xW ad cI cJ M) H) (hdg : decode cc pc = .ok (.getfield 29, 3)) (kk : W p l e R s m args below meth c H locs 0 0 Q (F0 m (pc + 3) ls (.int (M.1 16 5) :: rest))) : W p l e R s m args below meth c H locs 0 0 Q (F0 m pc ls (.ref (ad 16) :: rest)) := by
  obtain ⟨hx, hb0, hml, hown, hts, hK⟩ := C
  exact va_get (D := D) (ci := 4) (C := RX4) (T := TX4) (N := 7) hx hb0 hts hinX4 hown hK.1 hP 16 rfl rfl 5 (by decide) (hts _ wd_151) (fun _ h9 => h9) rfl hdg kk
theorem gfX4_32 {p : Program} {l : Launch} {e : Env} {R : Room} {s : State} {m : MethodId} {args : Array Value} {below : List Frame} {meth : Method} {c : Code} {H : Heap} {locs : List Loc} {Q : State → Prop} {cc : ByteArray} {pc nL : Nat} {ls : Array Slot} {rest : List Value} {D : va_G} {cI cJ : ClassId} {tP tR : Nat} {A : Nat → Prop} {ad : Nat → Nat} {M : Mem} (C : qC p s m args c D cI cJ tP tR A (xW ad cI cJ) cc nL RX4) (hP : va_P D vwCl (xW ad cI cJ M) H) (hdg : decode cc pc = .ok (.getfield 32, 3)) (kk : W p l e R s m args below meth c H locs 0 0 Q (F0 m (pc + 3) ls (.int (M.1 16 6) :: rest))) : W p l e R s m args below meth c H locs 0 0 Q (F0 m pc ls (.ref (ad 16) :: rest)) := by
  obtain ⟨hx, hb0, hml, hown, hts, hK⟩ := C
  exact va_get (D := D) (ci := 4) (C := RX4) (T := TX4) (N := 7) hx hb0 hts hinX4 hown hK.1 hP 16 rfl rfl 6 (by decide) (hts _ wd_152) (fun _ h9 => h9) rfl hdg kk
theorem gfX4_35 {p : Program} {l : Launch} {e : Env} {R : Room} {s : State} {m : MethodId} {args : Array Value} {below : List Frame} {meth : Method} {c : Code} {H : Heap} {locs : List Loc} {Q : State → Prop} {cc : ByteArray} {pc nL : Nat} {ls : Array Slot} {rest : List Value} {D : va_G} {cI cJ : ClassId} {tP tR : Nat} {A : Nat → Prop} {ad : Nat → Nat} {M : Mem} {b : Nat} (C : qC p s m args c D cI cJ tP tR A (xW ad cI cJ) cc nL RX4) (hP : va_P D vwCl (xW ad cI cJ M) H) (hb : b = 1 ∨ b = 6) (hdg : decode cc pc = .ok (.getfield 35, 3)) (kk : W p l e R s m args below meth c H locs 0 0 Q (F0 m (pc + 3) ls (.int (M.1 b 4) :: rest))) : W p l e R s m args below meth c H locs 0 0 Q (F0 m pc ls (.ref (ad b) :: rest)) := by
  obtain ⟨hx, hb0, hml, hown, hts, hK⟩ := C
  exact va_get (D := D) (ci := 0) (C := RX0) (T := TX0) (N := 5) hx hb0 hts hinX0 hown hK.1 hP b (xE_eq hb) rfl 4 (by decide) (hts _ wd_94) (fun _ h9 => h9) rfl hdg kk
theorem gfX4_70 {p : Program} {l : Launch} {e : Env} {R : Room} {s : State} {m : MethodId} {args : Array Value} {below : List Frame} {meth : Method} {c : Code} {H : Heap} {locs : List Loc} {Q : State → Prop} {cc : ByteArray} {pc nL : Nat} {ls : Array Slot} {rest : List Value} {D : va_G} {cI cJ : ClassId} {tP tR : Nat} {A : Nat → Prop} {ad : Nat → Nat} {M : Mem} {b : Nat} (C : qC p s m args c D cI cJ tP tR A (xW ad cI cJ) cc nL RX4) (hP : va_P D vwCl (xW ad cI cJ M) H) (hb : b = 1 ∨ b = 6) (hdg : decode cc pc = .ok (.getfield 70, 3)) (kk : W p l e R s m args below meth c H locs 0 0 Q (F0 m (pc + 3) ls (.ref (ad (b + 4)) :: rest))) : W p l e R s m args below meth c H locs 0 0 Q (F0 m pc ls (.ref (ad b) :: rest)) := by
  obtain ⟨hx, hb0, hml, hown, hts, hK⟩ := C
  exact va_get (D := D) (ci := 0) (C := RX0) (T := TX0) (N := 5) hx hb0 hts hinX0 hown hK.1 hP b (xE_eq hb) rfl 3 (by decide) (hts _ wd_90) (fun _ h9 => h9) rfl hdg kk
theorem gfX4_73 {p : Program} {l : Launch} {e : Env} {R : Room} {s : State} {m : MethodId} {args : Array Value} {below : List Frame} {meth : Method} {c : Code} {H : Heap} {locs : List Loc} {Q : State → Prop} {cc : ByteArray} {pc nL : Nat} {ls : Array Slot} {rest : List Value} {D : va_G} {cI cJ : ClassId} {tP tR : Nat} {A : Nat → Prop} {ad : Nat → Nat} {M : Mem} {b : Nat} (C : qC p s m args c D cI cJ tP tR A (xW ad cI cJ) cc nL RX4) (hP : va_P D vwCl (xW ad cI cJ M) H) (hb : b = 1 ∨ b = 6) (hdg : decode cc pc = .ok (.getfield 73, 3)) (kk : W p l e R s m args below meth c H locs 0 0 Q (F0 m (pc + 3) ls (.ref (ad (b + 2)) :: rest))) : W p l e R s m args below meth c H locs 0 0 Q (F0 m pc ls (.ref (ad b) :: rest)) := by
  obtain ⟨hx, hb0, hml, hown, hts, hK⟩ := C
  exact va_get (D := D) (ci := 0) (C := RX0) (T := TX0) (N := 5) hx hb0 hts hinX0 hown hK.1 hP b (xE_eq hb) rfl 1 (by decide) (hts _ wd_83) (fun _ h9 => h9) rfl hdg kk
theorem gfX4_76 {p : Program} {l : Launch} {e : Env} {R : Room} {s : State} {m : MethodId} {args : Array Value} {below : List Frame} {meth : Method} {c : Code} {H : Heap} {locs : List Loc} {Q : State → Prop} {cc : ByteArray} {pc nL : Nat} {ls : Array Slot} {rest : List Value} {D : va_G} {cI cJ : ClassId} {tP tR : Nat} {A : Nat → Prop} {ad : Nat → Nat} {M : Mem} {b : Nat} (C : qC p s m args c D cI cJ tP tR A (xW ad cI cJ) cc nL RX4) (hP : va_P D vwCl (xW ad cI cJ M) H) (hb : b = 1 ∨ b = 6) (hdg : decode cc pc = .ok (.getfield 76, 3)) (kk : W p l e R s m args below meth c H locs 0 0 Q (F0 m (pc + 3) ls (.ref (ad (b + 1)) :: rest))) : W p l e R s m args below meth c H locs 0 0 Q (F0 m pc ls (.ref (ad b) :: rest)) := by
  obtain ⟨hx, hb0, hml, hown, hts, hK⟩ := C
  exact va_get (D := D) (ci := 0) (C := RX0) (T := TX0) (N := 5) hx hb0 hts hinX0 hown hK.1 hP b (xE_eq hb) rfl 0 (by decide) (hts _ wd_77) (fun _ h9 => h9) rfl hdg kk
theorem gfX6_7 {p : Program} {l : Launch} {e : Env} {R : Room} {s : State} {m : MethodId} {args : Array Value} {below : List Frame} {meth : Method} {c : Code} {H : Heap} {locs : List Loc} {Q : State → Prop} {cc : ByteArray} {pc nL : Nat} {ls : Array Slot} {rest : List Value} {D : va_G} {cI cJ : ClassId} {tP tR : Nat} {A : Nat → Prop} {ad : Nat → Nat} {M : Mem} (C : qC p s m args c D cI cJ tP tR A (yW ad cI cJ) cc nL RX6) (hP : va_P D vwCl (yW ad cI cJ M) H) (hdg : decode cc pc = .ok (.getfield 7, 3)) (kk : W p l e R s m args below meth c H locs 0 0 Q (F0 m (pc + 3) ls (.ref (ad 1) :: rest))) : W p l e R s m args below meth c H locs 0 0 Q (F0 m pc ls (.ref (ad 0) :: rest)) := by
  obtain ⟨hx, hb0, hml, hown, hts, hK⟩ := C
  exact va_get (D := D) (ci := 6) (C := RX6) (T := TX6) (N := 22) hx hb0 hts hinX6 hown hK.1 hP 0 rfl rfl 0 (by decide) (hts _ wd_519) (fun _ h9 => h9) rfl hdg kk
theorem gfX6_13 {p : Program} {l : Launch} {e : Env} {R : Room} {s : State} {m : MethodId} {args : Array Value} {below : List Frame} {meth : Method} {c : Code} {H : Heap} {locs : List Loc} {Q : State → Prop} {cc : ByteArray} {pc nL : Nat} {ls : Array Slot} {rest : List Value} {D : va_G} {cI cJ : ClassId} {tP tR : Nat} {A : Nat → Prop} {ad : Nat → Nat} {M : Mem} (C : qC p s m args c D cI cJ tP tR A (yW ad cI cJ) cc nL RX6) (hP : va_P D vwCl (yW ad cI cJ M) H) (hdg : decode cc pc = .ok (.getfield 13, 3)) (kk : W p l e R s m args below meth c H locs 0 0 Q (F0 m (pc + 3) ls (.ref (ad 2) :: rest))) : W p l e R s m args below meth c H locs 0 0 Q (F0 m pc ls (.ref (ad 0) :: rest)) := by
  obtain ⟨hx, hb0, hml, hown, hts, hK⟩ := C
  exact va_get (D := D) (ci := 6) (C := RX6) (T := TX6) (N := 22) hx hb0 hts hinX6 hown hK.1 hP 0 rfl rfl 1 (by decide) (hts _ wd_520) (fun _ h9 => h9) rfl hdg kk
theorem gfX6_16 {p : Program} {l : Launch} {e : Env} {R : Room} {s : State} {m : MethodId} {args : Array Value} {below : List Frame} {meth : Method} {c : Code} {H : Heap} {locs : List Loc} {Q : State → Prop} {cc : ByteArray} {pc nL : Nat} {ls : Array Slot} {rest : List Value} {D : va_G} {cI cJ : ClassId} {tP tR : Nat} {A : Nat → Prop} {ad : Nat → Nat} {M : Mem} (C : qC p s m args c D cI cJ tP tR A (yW ad cI cJ) cc nL RX6) (hP : va_P D vwCl (yW ad cI cJ M) H) (hdg : decode cc pc = .ok (.getfield 16, 3)) (kk : W p l e R s m args below meth c H locs 0 0 Q (F0 m (pc + 3) ls (.ref (ad 3) :: rest))) : W p l e R s m args below meth c H locs 0 0 Q (F0 m pc ls (.ref (ad 0) :: rest)) := by
  obtain ⟨hx, hb0, hml, hown, hts, hK⟩ := C
  exact va_get (D := D) (ci := 6) (C := RX6) (T := TX6) (N := 22) hx hb0 hts hinX6 hown hK.1 hP 0 rfl rfl 2 (by decide) (hts _ wd_521) (fun _ h9 => h9) rfl hdg kk
theorem gfX6_19 {p : Program} {l : Launch} {e : Env} {R : Room} {s : State} {m : MethodId} {args : Array Value} {below : List Frame} {meth : Method} {c : Code} {H : Heap} {locs : List Loc} {Q : State → Prop} {cc : ByteArray} {pc nL : Nat} {ls : Array Slot} {rest : List Value} {D : va_G} {cI cJ : ClassId} {tP tR : Nat} {A : Nat → Prop} {ad : Nat → Nat} {M : Mem} (C : qC p s m args c D cI cJ tP tR A (yW ad cI cJ) cc nL RX6) (hP : va_P D vwCl (yW ad cI cJ M) H) (hdg : decode cc pc = .ok (.getfield 19, 3)) (kk : W p l e R s m args below meth c H locs 0 0 Q (F0 m (pc + 3) ls (.ref (ad 4) :: rest))) : W p l e R s m args below meth c H locs 0 0 Q (F0 m pc ls (.ref (ad 0) :: rest)) := by
  obtain ⟨hx, hb0, hml, hown, hts, hK⟩ := C
  exact va_get (D := D) (ci := 6) (C := RX6) (T := TX6) (N := 22) hx hb0 hts hinX6 hown hK.1 hP 0 rfl rfl 3 (by decide) (hts _ wd_522) (fun _ h9 => h9) rfl hdg kk
theorem gfX6_22 {p : Program} {l : Launch} {e : Env} {R : Room} {s : State} {m : MethodId} {args : Array Value} {below : List Frame} {meth : Method} {c : Code} {H : Heap} {locs : List Loc} {Q : State → Prop} {cc : ByteArray} {pc nL : Nat} {ls : Array Slot} {rest : List Value} {D : va_G} {cI cJ : ClassId} {tP tR : Nat} {A : Nat → Prop} {ad : Nat → Nat} {M : Mem} (C : qC p s m args c D cI cJ tP tR A (yW ad cI cJ) cc nL RX6) (hP : va_P D vwCl (yW ad cI cJ M) H) (hdg : decode cc pc = .ok (.getfield 22, 3)) (kk : W p l e R s m args below meth c H locs 0 0 Q (F0 m (pc + 3) ls (.ref (ad 5) :: rest))) : W p l e R s m args below meth c H locs 0 0 Q (F0 m pc ls (.ref (ad 0) :: rest)) := by
  obtain ⟨hx, hb0, hml, hown, hts, hK⟩ := C
  exact va_get (D := D) (ci := 6) (C := RX6) (T := TX6) (N := 22) hx hb0 hts hinX6 hown hK.1 hP 0 rfl rfl 4 (by decide) (hts _ wd_523) (fun _ h9 => h9) rfl hdg kk
theorem gfX6_25 {p : Program} {l : Launch} {e : Env} {R : Room} {s : State} {m : MethodId} {args : Array Value} {below : List Frame} {meth : Method} {c : Code} {H : Heap} {locs : List Loc} {Q : State → Prop} {cc : ByteArray} {pc nL : Nat} {ls : Array Slot} {rest : List Value} {D : va_G} {cI cJ : ClassId} {tP tR : Nat} {A : Nat → Prop} {ad : Nat → Nat} {M : Mem} (C : qC p s m args c D cI cJ tP tR A (yW ad cI cJ) cc nL RX6) (hP : va_P D vwCl (yW ad cI cJ M) H) (hdg : decode cc pc = .ok (.getfield 25, 3)) (kk : W p l e R s m args below meth c H locs 0 0 Q (F0 m (pc + 3) ls (.ref (ad 6) :: rest))) : W p l e R s m args below meth c H locs 0 0 Q (F0 m pc ls (.ref (ad 0) :: rest)) := by
  obtain ⟨hx, hb0, hml, hown, hts, hK⟩ := C
  exact va_get (D := D) (ci := 6) (C := RX6) (T := TX6) (N := 22) hx hb0 hts hinX6 hown hK.1 hP 0 rfl rfl 5 (by decide) (hts _ wd_524) (fun _ h9 => h9) rfl hdg kk
theorem gfX6_28 {p : Program} {l : Launch} {e : Env} {R : Room} {s : State} {m : MethodId} {args : Array Value} {below : List Frame} {meth : Method} {c : Code} {H : Heap} {locs : List Loc} {Q : State → Prop} {cc : ByteArray} {pc nL : Nat} {ls : Array Slot} {rest : List Value} {D : va_G} {cI cJ : ClassId} {tP tR : Nat} {A : Nat → Prop} {ad : Nat → Nat} {M : Mem} (C : qC p s m args c D cI cJ tP tR A (yW ad cI cJ) cc nL RX6) (hP : va_P D vwCl (yW ad cI cJ M) H) (hdg : decode cc pc = .ok (.getfield 28, 3)) (kk : W p l e R s m args below meth c H locs 0 0 Q (F0 m (pc + 3) ls (.ref (ad 7) :: rest))) : W p l e R s m args below meth c H locs 0 0 Q (F0 m pc ls (.ref (ad 0) :: rest)) := by
  obtain ⟨hx, hb0, hml, hown, hts, hK⟩ := C
  exact va_get (D := D) (ci := 6) (C := RX6) (T := TX6) (N := 22) hx hb0 hts hinX6 hown hK.1 hP 0 rfl rfl 6 (by decide) (hts _ wd_525) (fun _ h9 => h9) rfl hdg kk
theorem gfX6_31 {p : Program} {l : Launch} {e : Env} {R : Room} {s : State} {m : MethodId} {args : Array Value} {below : List Frame} {meth : Method} {c : Code} {H : Heap} {locs : List Loc} {Q : State → Prop} {cc : ByteArray} {pc nL : Nat} {ls : Array Slot} {rest : List Value} {D : va_G} {cI cJ : ClassId} {tP tR : Nat} {A : Nat → Prop} {ad : Nat → Nat} {M : Mem} (C : qC p s m args c D cI cJ tP tR A (yW ad cI cJ) cc nL RX6) (hP : va_P D vwCl (yW ad cI cJ M) H) (hdg : decode cc pc = .ok (.getfield 31, 3)) (kk : W p l e R s m args below meth c H locs 0 0 Q (F0 m (pc + 3) ls (.ref (ad 8) :: rest))) : W p l e R s m args below meth c H locs 0 0 Q (F0 m pc ls (.ref (ad 0) :: rest)) := by
  obtain ⟨hx, hb0, hml, hown, hts, hK⟩ := C
  exact va_get (D := D) (ci := 6) (C := RX6) (T := TX6) (N := 22) hx hb0 hts hinX6 hown hK.1 hP 0 rfl rfl 8 (by decide) (hts _ wd_527) (fun _ h9 => h9) rfl hdg kk
theorem gfX6_34 {p : Program} {l : Launch} {e : Env} {R : Room} {s : State} {m : MethodId} {args : Array Value} {below : List Frame} {meth : Method} {c : Code} {H : Heap} {locs : List Loc} {Q : State → Prop} {cc : ByteArray} {pc nL : Nat} {ls : Array Slot} {rest : List Value} {D : va_G} {cI cJ : ClassId} {tP tR : Nat} {A : Nat → Prop} {ad : Nat → Nat} {M : Mem} (C : qC p s m args c D cI cJ tP tR A (yW ad cI cJ) cc nL RX6) (hP : va_P D vwCl (yW ad cI cJ M) H) (hdg : decode cc pc = .ok (.getfield 34, 3)) (kk : W p l e R s m args below meth c H locs 0 0 Q (F0 m (pc + 3) ls (.ref (ad 9) :: rest))) : W p l e R s m args below meth c H locs 0 0 Q (F0 m pc ls (.ref (ad 0) :: rest)) := by
  obtain ⟨hx, hb0, hml, hown, hts, hK⟩ := C
  exact va_get (D := D) (ci := 6) (C := RX6) (T := TX6) (N := 22) hx hb0 hts hinX6 hown hK.1 hP 0 rfl rfl 9 (by decide) (hts _ wd_528) (fun _ h9 => h9) rfl hdg kk
theorem gfX6_37 {p : Program} {l : Launch} {e : Env} {R : Room} {s : State} {m : MethodId} {args : Array Value} {below : List Frame} {meth : Method} {c : Code} {H : Heap} {locs : List Loc} {Q : State → Prop} {cc : ByteArray} {pc nL : Nat} {ls : Array Slot} {rest : List Value} {D : va_G} {cI cJ : ClassId} {tP tR : Nat} {A : Nat → Prop} {ad : Nat → Nat} {M : Mem} (C : qC p s m args c D cI cJ tP tR A (yW ad cI cJ) cc nL RX6) (hP : va_P D vwCl (yW ad cI cJ M) H) (hdg : decode cc pc = .ok (.getfield 37, 3)) (kk : W p l e R s m args below meth c H locs 0 0 Q (F0 m (pc + 3) ls (.ref (ad 10) :: rest))) : W p l e R s m args below meth c H locs 0 0 Q (F0 m pc ls (.ref (ad 0) :: rest)) := by
  obtain ⟨hx, hb0, hml, hown, hts, hK⟩ := C
  exact va_get (D := D) (ci := 6) (C := RX6) (T := TX6) (N := 22) hx hb0 hts hinX6 hown hK.1 hP 0 rfl rfl 20 (by decide) (hts _ wd_539) (fun _ h9 => h9) rfl hdg kk
theorem gfX6_41 {p : Program} {l : Launch} {e : Env} {R : Room} {s : State} {m : MethodId} {args : Array Value} {below : List Frame} {meth : Method} {c : Code} {H : Heap} {locs : List Loc} {Q : State → Prop} {cc : ByteArray} {pc nL : Nat} {ls : Array Slot} {rest : List Value} {D : va_G} {cI cJ : ClassId} {tP tR : Nat} {A : Nat → Prop} {ad : Nat → Nat} {M : Mem} (C : qC p s m args c D cI cJ tP tR A (yW ad cI cJ) cc nL RX6) (hP : va_P D vwCl (yW ad cI cJ M) H) (hdg : decode cc pc = .ok (.getfield 41, 3)) (kk : W p l e R s m args below meth c H locs 0 0 Q (F0 m (pc + 3) ls (.ref (ad 11) :: rest))) : W p l e R s m args below meth c H locs 0 0 Q (F0 m pc ls (.ref (ad 0) :: rest)) := by
  obtain ⟨hx, hb0, hml, hown, hts, hK⟩ := C
  exact va_get (D := D) (ci := 6) (C := RX6) (T := TX6) (N := 22) hx hb0 hts hinX6 hown hK.1 hP 0 rfl rfl 21 (by decide) (hts _ wd_540) (fun _ h9 => h9) rfl hdg kk
theorem gfX6_66 {p : Program} {l : Launch} {e : Env} {R : Room} {s : State} {m : MethodId} {args : Array Value} {below : List Frame} {meth : Method} {c : Code} {H : Heap} {locs : List Loc} {Q : State → Prop} {cc : ByteArray} {pc nL : Nat} {ls : Array Slot} {rest : List Value} {D : va_G} {cI cJ : ClassId} {tP tR : Nat} {A : Nat → Prop} {ad : Nat → Nat} {M : Mem} (C : qC p s m args c D cI cJ tP tR A (yW ad cI cJ) cc nL RX6) (hP : va_P D vwCl (yW ad cI cJ M) H) (hdg : decode cc pc = .ok (.getfield 66, 3)) (kk : W p l e R s m args below meth c H locs 0 0 Q (F0 m (pc + 3) ls (.int (M.1 0 7) :: rest))) : W p l e R s m args below meth c H locs 0 0 Q (F0 m pc ls (.ref (ad 0) :: rest)) := by
  obtain ⟨hx, hb0, hml, hown, hts, hK⟩ := C
  exact va_get (D := D) (ci := 6) (C := RX6) (T := TX6) (N := 22) hx hb0 hts hinX6 hown hK.1 hP 0 rfl rfl 7 (by decide) (hts _ wd_526) (fun _ h9 => h9) rfl hdg kk
theorem gfX6_74 {p : Program} {l : Launch} {e : Env} {R : Room} {s : State} {m : MethodId} {args : Array Value} {below : List Frame} {meth : Method} {c : Code} {H : Heap} {locs : List Loc} {Q : State → Prop} {cc : ByteArray} {pc nL : Nat} {ls : Array Slot} {rest : List Value} {D : va_G} {cI cJ : ClassId} {tP tR : Nat} {A : Nat → Prop} {ad : Nat → Nat} {M : Mem} (C : qC p s m args c D cI cJ tP tR A (yW ad cI cJ) cc nL RX6) (hP : va_P D vwCl (yW ad cI cJ M) H) (hdg : decode cc pc = .ok (.getfield 74, 3)) (kk : W p l e R s m args below meth c H locs 0 0 Q (F0 m (pc + 3) ls (.int (M.1 0 10) :: rest))) : W p l e R s m args below meth c H locs 0 0 Q (F0 m pc ls (.ref (ad 0) :: rest)) := by
  obtain ⟨hx, hb0, hml, hown, hts, hK⟩ := C
  exact va_get (D := D) (ci := 6) (C := RX6) (T := TX6) (N := 22) hx hb0 hts hinX6 hown hK.1 hP 0 rfl rfl 10 (by decide) (hts _ wd_529) (fun _ h9 => h9) rfl hdg kk
theorem gfX6_106 {p : Program} {l : Launch} {e : Env} {R : Room} {s : State} {m : MethodId} {args : Array Value} {below : List Frame} {meth : Method} {c : Code} {H : Heap} {locs : List Loc} {Q : State → Prop} {cc : ByteArray} {pc nL : Nat} {ls : Array Slot} {rest : List Value} {D : va_G} {cI cJ : ClassId} {tP tR : Nat} {A : Nat → Prop} {ad : Nat → Nat} {M : Mem} (C : qC p s m args c D cI cJ tP tR A (yW ad cI cJ) cc nL RX6) (hP : va_P D vwCl (yW ad cI cJ M) H) (hdg : decode cc pc = .ok (.getfield 106, 3)) (kk : W p l e R s m args below meth c H locs 0 0 Q (F0 m (pc + 3) ls (.int (M.1 0 11) :: rest))) : W p l e R s m args below meth c H locs 0 0 Q (F0 m pc ls (.ref (ad 0) :: rest)) := by
  obtain ⟨hx, hb0, hml, hown, hts, hK⟩ := C
  exact va_get (D := D) (ci := 6) (C := RX6) (T := TX6) (N := 22) hx hb0 hts hinX6 hown hK.1 hP 0 rfl rfl 11 (by decide) (hts _ wd_530) (fun _ h9 => h9) rfl hdg kk
theorem gfX6_109 {p : Program} {l : Launch} {e : Env} {R : Room} {s : State} {m : MethodId} {args : Array Value} {below : List Frame} {meth : Method} {c : Code} {H : Heap} {locs : List Loc} {Q : State → Prop} {cc : ByteArray} {pc nL : Nat} {ls : Array Slot} {rest : List Value} {D : va_G} {cI cJ : ClassId} {tP tR : Nat} {A : Nat → Prop} {ad : Nat → Nat} {M : Mem} (C : qC p s m args c D cI cJ tP tR A (yW ad cI cJ) cc nL RX6) (hP : va_P D vwCl (yW ad cI cJ M) H) (hdg : decode cc pc = .ok (.getfield 109, 3)) (kk : W p l e R s m args below meth c H locs 0 0 Q (F0 m (pc + 3) ls (.int (M.1 0 12) :: rest))) : W p l e R s m args below meth c H locs 0 0 Q (F0 m pc ls (.ref (ad 0) :: rest)) := by
  obtain ⟨hx, hb0, hml, hown, hts, hK⟩ := C
  exact va_get (D := D) (ci := 6) (C := RX6) (T := TX6) (N := 22) hx hb0 hts hinX6 hown hK.1 hP 0 rfl rfl 12 (by decide) (hts _ wd_531) (fun _ h9 => h9) rfl hdg kk
theorem gfX6_112 {p : Program} {l : Launch} {e : Env} {R : Room} {s : State} {m : MethodId} {args : Array Value} {below : List Frame} {meth : Method} {c : Code} {H : Heap} {locs : List Loc} {Q : State → Prop} {cc : ByteArray} {pc nL : Nat} {ls : Array Slot} {rest : List Value} {D : va_G} {cI cJ : ClassId} {tP tR : Nat} {A : Nat → Prop} {ad : Nat → Nat} {M : Mem} (C : qC p s m args c D cI cJ tP tR A (yW ad cI cJ) cc nL RX6) (hP : va_P D vwCl (yW ad cI cJ M) H) (hdg : decode cc pc = .ok (.getfield 112, 3)) (kk : W p l e R s m args below meth c H locs 0 0 Q (F0 m (pc + 3) ls (.int (M.1 0 13) :: rest))) : W p l e R s m args below meth c H locs 0 0 Q (F0 m pc ls (.ref (ad 0) :: rest)) := by
  obtain ⟨hx, hb0, hml, hown, hts, hK⟩ := C
  exact va_get (D := D) (ci := 6) (C := RX6) (T := TX6) (N := 22) hx hb0 hts hinX6 hown hK.1 hP 0 rfl rfl 13 (by decide) (hts _ wd_532) (fun _ h9 => h9) rfl hdg kk
theorem gfX6_118 {p : Program} {l : Launch} {e : Env} {R : Room} {s : State} {m : MethodId} {args : Array Value} {below : List Frame} {meth : Method} {c : Code} {H : Heap} {locs : List Loc} {Q : State → Prop} {cc : ByteArray} {pc nL : Nat} {ls : Array Slot} {rest : List Value} {D : va_G} {cI cJ : ClassId} {tP tR : Nat} {A : Nat → Prop} {ad : Nat → Nat} {M : Mem} (C : qC p s m args c D cI cJ tP tR A (yW ad cI cJ) cc nL RX6) (hP : va_P D vwCl (yW ad cI cJ M) H) (hdg : decode cc pc = .ok (.getfield 118, 3)) (kk : W p l e R s m args below meth c H locs 0 0 Q (F0 m (pc + 3) ls (.int (M.1 0 14) :: rest))) : W p l e R s m args below meth c H locs 0 0 Q (F0 m pc ls (.ref (ad 0) :: rest)) := by
  obtain ⟨hx, hb0, hml, hown, hts, hK⟩ := C
  exact va_get (D := D) (ci := 6) (C := RX6) (T := TX6) (N := 22) hx hb0 hts hinX6 hown hK.1 hP 0 rfl rfl 14 (by decide) (hts _ wd_533) (fun _ h9 => h9) rfl hdg kk
theorem gfX6_125 {p : Program} {l : Launch} {e : Env} {R : Room} {s : State} {m : MethodId} {args : Array Value} {below : List Frame} {meth : Method} {c : Code} {H : Heap} {locs : List Loc} {Q : State → Prop} {cc : ByteArray} {pc nL : Nat} {ls : Array Slot} {rest : List Value} {D : va_G} {cI cJ : ClassId} {tP tR : Nat} {A : Nat → Prop} {ad : Nat → Nat} {M : Mem} (C : qC p s m args c D cI cJ tP tR A (yW ad cI cJ) cc nL RX6) (hP : va_P D vwCl (yW ad cI cJ M) H) (hdg : decode cc pc = .ok (.getfield 125, 3)) (kk : W p l e R s m args below meth c H locs 0 0 Q (F0 m (pc + 3) ls (.int (M.1 0 19) :: rest))) : W p l e R s m args below meth c H locs 0 0 Q (F0 m pc ls (.ref (ad 0) :: rest)) := by
  obtain ⟨hx, hb0, hml, hown, hts, hK⟩ := C
  exact va_get (D := D) (ci := 6) (C := RX6) (T := TX6) (N := 22) hx hb0 hts hinX6 hown hK.1 hP 0 rfl rfl 19 (by decide) (hts _ wd_538) (fun _ h9 => h9) rfl hdg kk
theorem gfX6_132 {p : Program} {l : Launch} {e : Env} {R : Room} {s : State} {m : MethodId} {args : Array Value} {below : List Frame} {meth : Method} {c : Code} {H : Heap} {locs : List Loc} {Q : State → Prop} {cc : ByteArray} {pc nL : Nat} {ls : Array Slot} {rest : List Value} {D : va_G} {cI cJ : ClassId} {tP tR : Nat} {A : Nat → Prop} {ad : Nat → Nat} {M : Mem} (C : qC p s m args c D cI cJ tP tR A (yW ad cI cJ) cc nL RX6) (hP : va_P D vwCl (yW ad cI cJ M) H) (hdg : decode cc pc = .ok (.getfield 132, 3)) (kk : W p l e R s m args below meth c H locs 0 0 Q (F0 m (pc + 3) ls (.int (M.1 0 15) :: rest))) : W p l e R s m args below meth c H locs 0 0 Q (F0 m pc ls (.ref (ad 0) :: rest)) := by
  obtain ⟨hx, hb0, hml, hown, hts, hK⟩ := C
  exact va_get (D := D) (ci := 6) (C := RX6) (T := TX6) (N := 22) hx hb0 hts hinX6 hown hK.1 hP 0 rfl rfl 15 (by decide) (hts _ wd_534) (fun _ h9 => h9) rfl hdg kk
theorem gfX6_135 {p : Program} {l : Launch} {e : Env} {R : Room} {s : State} {m : MethodId} {args : Array Value} {below : List Frame} {meth : Method} {c : Code} {H : Heap} {locs : List Loc} {Q : State → Prop} {cc : ByteArray} {pc nL : Nat} {ls : Array Slot} {rest : List Value} {D : va_G} {cI cJ : ClassId} {tP tR : Nat} {A : Nat → Prop} {ad : Nat → Nat} {M : Mem} (C : qC p s m args c D cI cJ tP tR A (yW ad cI cJ) cc nL RX6) (hP : va_P D vwCl (yW ad cI cJ M) H) (hdg : decode cc pc = .ok (.getfield 135, 3)) (kk : W p l e R s m args below meth c H locs 0 0 Q (F0 m (pc + 3) ls (.int (M.1 0 16) :: rest))) : W p l e R s m args below meth c H locs 0 0 Q (F0 m pc ls (.ref (ad 0) :: rest)) := by
  obtain ⟨hx, hb0, hml, hown, hts, hK⟩ := C
  exact va_get (D := D) (ci := 6) (C := RX6) (T := TX6) (N := 22) hx hb0 hts hinX6 hown hK.1 hP 0 rfl rfl 16 (by decide) (hts _ wd_535) (fun _ h9 => h9) rfl hdg kk
theorem gfX6_138 {p : Program} {l : Launch} {e : Env} {R : Room} {s : State} {m : MethodId} {args : Array Value} {below : List Frame} {meth : Method} {c : Code} {H : Heap} {locs : List Loc} {Q : State → Prop} {cc : ByteArray} {pc nL : Nat} {ls : Array Slot} {rest : List Value} {D : va_G} {cI cJ : ClassId} {tP tR : Nat} {A : Nat → Prop} {ad : Nat → Nat} {M : Mem} (C : qC p s m args c D cI cJ tP tR A (yW ad cI cJ) cc nL RX6) (hP : va_P D vwCl (yW ad cI cJ M) H) (hdg : decode cc pc = .ok (.getfield 138, 3)) (kk : W p l e R s m args below meth c H locs 0 0 Q (F0 m (pc + 3) ls (.int (M.1 0 17) :: rest))) : W p l e R s m args below meth c H locs 0 0 Q (F0 m pc ls (.ref (ad 0) :: rest)) := by
  obtain ⟨hx, hb0, hml, hown, hts, hK⟩ := C
  exact va_get (D := D) (ci := 6) (C := RX6) (T := TX6) (N := 22) hx hb0 hts hinX6 hown hK.1 hP 0 rfl rfl 17 (by decide) (hts _ wd_536) (fun _ h9 => h9) rfl hdg kk
theorem gfX6_141 {p : Program} {l : Launch} {e : Env} {R : Room} {s : State} {m : MethodId} {args : Array Value} {below : List Frame} {meth : Method} {c : Code} {H : Heap} {locs : List Loc} {Q : State → Prop} {cc : ByteArray} {pc nL : Nat} {ls : Array Slot} {rest : List Value} {D : va_G} {cI cJ : ClassId} {tP tR : Nat} {A : Nat → Prop} {ad : Nat → Nat} {M : Mem} (C : qC p s m args c D cI cJ tP tR A (yW ad cI cJ) cc nL RX6) (hP : va_P D vwCl (yW ad cI cJ M) H) (hdg : decode cc pc = .ok (.getfield 141, 3)) (kk : W p l e R s m args below meth c H locs 0 0 Q (F0 m (pc + 3) ls (.int (M.1 0 18) :: rest))) : W p l e R s m args below meth c H locs 0 0 Q (F0 m pc ls (.ref (ad 0) :: rest)) := by
  obtain ⟨hx, hb0, hml, hown, hts, hK⟩ := C
  exact va_get (D := D) (ci := 6) (C := RX6) (T := TX6) (N := 22) hx hb0 hts hinX6 hown hK.1 hP 0 rfl rfl 18 (by decide) (hts _ wd_537) (fun _ h9 => h9) rfl hdg kk
theorem pfX5_59 {β : Type} {p : Program} {l : Launch} {e : Env} {R : Room} {s : State} {m : MethodId} {args : Array Value} {below : List Frame} {meth : Method} {c : Code} {H : Heap} {locs : List Loc} {Q : State → Prop} {cc : ByteArray} {pc nL : Nat} {ls : Array Slot} {rest : List Value} {D : va_G} {cI cJ : ClassId} {tP tR : Nat} {A : Nat → Prop} {ad : Nat → Nat} {M : Mem} {b : Nat} (C : qC p s m args c D cI cJ tP tR A (xW ad cI cJ) cc nL RX5) (hP : va_P D vwCl (xW ad cI cJ M) H) (hS : va_S A s.heap H locs) (hb : b = 1 ∨ b = 6) {v : Int32} {k : Mem → Option β} {o : β} (hdg : decode cc pc = .ok (.putfield 59, 3)) (h : (some (setI M b 4 v)).bind k = some o) (kk : ∀ M2 : Mem, k M2 = some o → ∀ (H : Heap) (locs : List Loc), va_P D vwCl (xW ad cI cJ M2) H → va_S A s.heap H locs → W p l e R s m args below meth c H locs 0 0 Q (F0 m (pc + 3) ls rest)) : W p l e R s m args below meth c H locs 0 0 Q (F0 m pc ls (.int v :: .ref (ad b) :: rest)) := by
  obtain ⟨hx, hb0, hml, hown, hts, hK⟩ := C
  rcases hb with rfl | rfl
  · exact va_put (D := D) (ci := 0) (v := .int v) (ty := .int) (C := RX0) (T := TX0) (N := 5) hx hb0 hts hinX0 tyX0 tyX0_ok nmX0 hown hK.1 hP (hK.2.2.2.2 M) hS 1 rfl rfl 4 (by decide) (hts _ wd_95) (fun _ h9 => h9) rfl (by decide +kernel) rfl rfl (Nat.le_of_ble_eq_true rfl) hdg (fun H1 locs1 h1 _ h3 => kk _ h H1 locs1 h1 h3)
  · exact va_put (D := D) (ci := 0) (v := .int v) (ty := .int) (C := RX0) (T := TX0) (N := 5) hx hb0 hts hinX0 tyX0 tyX0_ok nmX0 hown hK.1 hP (hK.2.2.2.2 M) hS 6 rfl rfl 4 (by decide) (hts _ wd_95) (fun _ h9 => h9) rfl (by decide +kernel) rfl rfl (Nat.le_of_ble_eq_true rfl) hdg (fun H1 locs1 h1 _ h3 => kk _ h H1 locs1 h1 h3)
theorem pfX5_170 {β : Type} {p : Program} {l : Launch} {e : Env} {R : Room} {s : State} {m : MethodId} {args : Array Value} {below : List Frame} {meth : Method} {c : Code} {H : Heap} {locs : List Loc} {Q : State → Prop} {cc : ByteArray} {pc nL : Nat} {ls : Array Slot} {rest : List Value} {D : va_G} {cI cJ : ClassId} {tP tR : Nat} {A : Nat → Prop} {ad : Nat → Nat} {M : Mem} (C : qC p s m args c D cI cJ tP tR A (xW ad cI cJ) cc nL RX5) (hP : va_P D vwCl (xW ad cI cJ M) H) (hS : va_S A s.heap H locs) {v : Int32} {k : Mem → Option β} {o : β} (hdg : decode cc pc = .ok (.putfield 170, 3)) (h : (stZ M 16 2 v).bind k = some o) (kk : ∀ M2 : Mem, k M2 = some o → ∀ (H : Heap) (locs : List Loc), va_P D vwCl (xW ad cI cJ M2) H → va_S A s.heap H locs → W p l e R s m args below meth c H locs 0 0 Q (F0 m (pc + 3) ls rest)) : W p l e R s m args below meth c H locs 0 0 Q (F0 m pc ls (.int v :: .ref (ad 16) :: rest)) := by
  obtain ⟨hx, hb0, hml, hown, hts, hK⟩ := C
  unfold stZ at h
  by_cases hz : v = 0 ∨ v = 1
  · rw [if_pos hz] at h
    exact va_put (D := D) (ci := 4) (v := .int v) (ty := .boolean) (C := RX4) (T := TX4) (N := 7) hx hb0 hts hinX4 tyX4 tyX4_ok nmX4 hown hK.1 hP (hK.2.2.2.2 M) hS 16 rfl rfl 2 (by decide) (hts _ wd_148) (fun _ h9 => h9) rfl (by decide +kernel) (by rcases hz with h | h <;> rw [h] <;> rfl) (by rcases hz with h | h <;> rw [h] <;> rfl) (Nat.le_of_ble_eq_true rfl) hdg (fun H1 locs1 h1 _ h3 => kk _ h H1 locs1 h1 h3)
  · rw [if_neg hz] at h; cases h
theorem pfX5_173 {β : Type} {p : Program} {l : Launch} {e : Env} {R : Room} {s : State} {m : MethodId} {args : Array Value} {below : List Frame} {meth : Method} {c : Code} {H : Heap} {locs : List Loc} {Q : State → Prop} {cc : ByteArray} {pc nL : Nat} {ls : Array Slot} {rest : List Value} {D : va_G} {cI cJ : ClassId} {tP tR : Nat} {A : Nat → Prop} {ad : Nat → Nat} {M : Mem} (C : qC p s m args c D cI cJ tP tR A (xW ad cI cJ) cc nL RX5) (hP : va_P D vwCl (xW ad cI cJ M) H) (hS : va_S A s.heap H locs) {v : Int32} {k : Mem → Option β} {o : β} (hdg : decode cc pc = .ok (.putfield 173, 3)) (h : (some (setI M 21 2 v)).bind k = some o) (kk : ∀ M2 : Mem, k M2 = some o → ∀ (H : Heap) (locs : List Loc), va_P D vwCl (xW ad cI cJ M2) H → va_S A s.heap H locs → W p l e R s m args below meth c H locs 0 0 Q (F0 m (pc + 3) ls rest)) : W p l e R s m args below meth c H locs 0 0 Q (F0 m pc ls (.int v :: .ref (ad 21) :: rest)) := by
  obtain ⟨hx, hb0, hml, hown, hts, hK⟩ := C
  exact va_put (D := D) (ci := 3) (v := .int v) (ty := .int) (C := RX3) (T := TX3) (N := 4) hx hb0 hts hinX3 tyX3 tyX3_ok nmX3 hown hK.1 hP (hK.2.2.2.2 M) hS 21 rfl rfl 2 (by decide) (hts _ wd_193) (fun _ h9 => h9) rfl (by decide +kernel) rfl rfl (Nat.le_of_ble_eq_true rfl) hdg (fun H1 locs1 h1 _ h3 => kk _ h H1 locs1 h1 h3)
theorem pfX0_24 {β : Type} {p : Program} {l : Launch} {e : Env} {R : Room} {s : State} {m : MethodId} {args : Array Value} {below : List Frame} {meth : Method} {c : Code} {H : Heap} {locs : List Loc} {Q : State → Prop} {cc : ByteArray} {pc nL : Nat} {ls : Array Slot} {rest : List Value} {D : va_G} {cI cJ : ClassId} {tP tR : Nat} {A : Nat → Prop} {ad : Nat → Nat} {M : Mem} {b : Nat} (C : qC p s m args c D cI cJ tP tR A (xW ad cI cJ) cc nL RX0) (hP : va_P D vwCl (xW ad cI cJ M) H) (hS : va_S A s.heap H locs) (hb : b = 1 ∨ b = 6) {v : Int32} {k : Mem → Option β} {o : β} (hdg : decode cc pc = .ok (.putfield 24, 3)) (h : (some (setI M b 4 v)).bind k = some o) (kk : ∀ M2 : Mem, k M2 = some o → ∀ (H : Heap) (locs : List Loc), va_P D vwCl (xW ad cI cJ M2) H → va_S A s.heap H locs → W p l e R s m args below meth c H locs 0 0 Q (F0 m (pc + 3) ls rest)) : W p l e R s m args below meth c H locs 0 0 Q (F0 m pc ls (.int v :: .ref (ad b) :: rest)) := by
  obtain ⟨hx, hb0, hml, hown, hts, hK⟩ := C
  rcases hb with rfl | rfl
  · exact va_put (D := D) (ci := 0) (v := .int v) (ty := .int) (C := RX0) (T := TX0) (N := 5) hx hb0 hts hinX0 tyX0 tyX0_ok nmX0 hown hK.1 hP (hK.2.2.2.2 M) hS 1 rfl rfl 4 (by decide) (hts _ wd_91) (fun _ h9 => h9) rfl (by decide +kernel) rfl rfl (Nat.le_of_ble_eq_true rfl) hdg (fun H1 locs1 h1 _ h3 => kk _ h H1 locs1 h1 h3)
  · exact va_put (D := D) (ci := 0) (v := .int v) (ty := .int) (C := RX0) (T := TX0) (N := 5) hx hb0 hts hinX0 tyX0 tyX0_ok nmX0 hown hK.1 hP (hK.2.2.2.2 M) hS 6 rfl rfl 4 (by decide) (hts _ wd_91) (fun _ h9 => h9) rfl (by decide +kernel) rfl rfl (Nat.le_of_ble_eq_true rfl) hdg (fun H1 locs1 h1 _ h3 => kk _ h H1 locs1 h1 h3)
theorem pfX1_18 {β : Type} {p : Program} {l : Launch} {e : Env} {R : Room} {s : State} {m : MethodId} {args : Array Value} {below : List Frame} {meth : Method} {c : Code} {H : Heap} {locs : List Loc} {Q : State → Prop} {cc : ByteArray} {pc nL : Nat} {ls : Array Slot} {rest : List Value} {D : va_G} {cI cJ : ClassId} {tP tR : Nat} {A : Nat → Prop} {ad : Nat → Nat} {M : Mem} (C : qC p s m args c D cI cJ tP tR A (xW ad cI cJ) cc nL RX1) (hP : va_P D vwCl (xW ad cI cJ M) H) (hS : va_S A s.heap H locs) {v : Int32} {k : Mem → Option β} {o : β} (hdg : decode cc pc = .ok (.putfield 18, 3)) (h : (some (setI M 11 2 v)).bind k = some o) (kk : ∀ M2 : Mem, k M2 = some o → ∀ (H : Heap) (locs : List Loc), va_P D vwCl (xW ad cI cJ M2) H → va_S A s.heap H locs → W p l e R s m args below meth c H locs 0 0 Q (F0 m (pc + 3) ls rest)) : W p l e R s m args below meth c H locs 0 0 Q (F0 m pc ls (.int v :: .ref (ad 11) :: rest)) := by
  obtain ⟨hx, hb0, hml, hown, hts, hK⟩ := C
  exact va_put (D := D) (ci := 1) (v := .int v) (ty := .int) (C := RX1) (T := TX1) (N := 6) hx hb0 hts hinX1 tyX1 tyX1_ok nmX1 hown hK.1 hP (hK.2.2.2.2 M) hS 11 rfl rfl 2 (by decide) (hts _ wd_119) (fun _ h9 => h9) rfl (by decide +kernel) rfl rfl (Nat.le_of_ble_eq_true rfl) hdg (fun H1 locs1 h1 _ h3 => kk _ h H1 locs1 h1 h3)
theorem pfX1_28 {β : Type} {p : Program} {l : Launch} {e : Env} {R : Room} {s : State} {m : MethodId} {args : Array Value} {below : List Frame} {meth : Method} {c : Code} {H : Heap} {locs : List Loc} {Q : State → Prop} {cc : ByteArray} {pc nL : Nat} {ls : Array Slot} {rest : List Value} {D : va_G} {cI cJ : ClassId} {tP tR : Nat} {A : Nat → Prop} {ad : Nat → Nat} {M : Mem} (C : qC p s m args c D cI cJ tP tR A (xW ad cI cJ) cc nL RX1) (hP : va_P D vwCl (xW ad cI cJ M) H) (hS : va_S A s.heap H locs) {v : Int32} {k : Mem → Option β} {o : β} (hdg : decode cc pc = .ok (.putfield 28, 3)) (h : (some (setI M 11 5 v)).bind k = some o) (kk : ∀ M2 : Mem, k M2 = some o → ∀ (H : Heap) (locs : List Loc), va_P D vwCl (xW ad cI cJ M2) H → va_S A s.heap H locs → W p l e R s m args below meth c H locs 0 0 Q (F0 m (pc + 3) ls rest)) : W p l e R s m args below meth c H locs 0 0 Q (F0 m pc ls (.int v :: .ref (ad 11) :: rest)) := by
  obtain ⟨hx, hb0, hml, hown, hts, hK⟩ := C
  exact va_put (D := D) (ci := 1) (v := .int v) (ty := .int) (C := RX1) (T := TX1) (N := 6) hx hb0 hts hinX1 tyX1 tyX1_ok nmX1 hown hK.1 hP (hK.2.2.2.2 M) hS 11 rfl rfl 5 (by decide) (hts _ wd_123) (fun _ h9 => h9) rfl (by decide +kernel) rfl rfl (Nat.le_of_ble_eq_true rfl) hdg (fun H1 locs1 h1 _ h3 => kk _ h H1 locs1 h1 h3)
theorem pfX3_15 {β : Type} {p : Program} {l : Launch} {e : Env} {R : Room} {s : State} {m : MethodId} {args : Array Value} {below : List Frame} {meth : Method} {c : Code} {H : Heap} {locs : List Loc} {Q : State → Prop} {cc : ByteArray} {pc nL : Nat} {ls : Array Slot} {rest : List Value} {D : va_G} {cI cJ : ClassId} {tP tR : Nat} {A : Nat → Prop} {ad : Nat → Nat} {M : Mem} (C : qC p s m args c D cI cJ tP tR A (xW ad cI cJ) cc nL RX3) (hP : va_P D vwCl (xW ad cI cJ M) H) (hS : va_S A s.heap H locs) {v : Int32} {k : Mem → Option β} {o : β} (hdg : decode cc pc = .ok (.putfield 15, 3)) (h : (some (setI M 21 1 v)).bind k = some o) (kk : ∀ M2 : Mem, k M2 = some o → ∀ (H : Heap) (locs : List Loc), va_P D vwCl (xW ad cI cJ M2) H → va_S A s.heap H locs → W p l e R s m args below meth c H locs 0 0 Q (F0 m (pc + 3) ls rest)) : W p l e R s m args below meth c H locs 0 0 Q (F0 m pc ls (.int v :: .ref (ad 21) :: rest)) := by
  obtain ⟨hx, hb0, hml, hown, hts, hK⟩ := C
  exact va_put (D := D) (ci := 3) (v := .int v) (ty := .int) (C := RX3) (T := TX3) (N := 4) hx hb0 hts hinX3 tyX3 tyX3_ok nmX3 hown hK.1 hP (hK.2.2.2.2 M) hS 21 rfl rfl 1 (by decide) (hts _ wd_190) (fun _ h9 => h9) rfl (by decide +kernel) rfl rfl (Nat.le_of_ble_eq_true rfl) hdg (fun H1 locs1 h1 _ h3 => kk _ h H1 locs1 h1 h3)
theorem pfX3_19 {β : Type} {p : Program} {l : Launch} {e : Env} {R : Room} {s : State} {m : MethodId} {args : Array Value} {below : List Frame} {meth : Method} {c : Code} {H : Heap} {locs : List Loc} {Q : State → Prop} {cc : ByteArray} {pc nL : Nat} {ls : Array Slot} {rest : List Value} {D : va_G} {cI cJ : ClassId} {tP tR : Nat} {A : Nat → Prop} {ad : Nat → Nat} {M : Mem} (C : qC p s m args c D cI cJ tP tR A (xW ad cI cJ) cc nL RX3) (hP : va_P D vwCl (xW ad cI cJ M) H) (hS : va_S A s.heap H locs) {v : Int32} {k : Mem → Option β} {o : β} (hdg : decode cc pc = .ok (.putfield 19, 3)) (h : (some (setI M 21 2 v)).bind k = some o) (kk : ∀ M2 : Mem, k M2 = some o → ∀ (H : Heap) (locs : List Loc), va_P D vwCl (xW ad cI cJ M2) H → va_S A s.heap H locs → W p l e R s m args below meth c H locs 0 0 Q (F0 m (pc + 3) ls rest)) : W p l e R s m args below meth c H locs 0 0 Q (F0 m pc ls (.int v :: .ref (ad 21) :: rest)) := by
  obtain ⟨hx, hb0, hml, hown, hts, hK⟩ := C
  exact va_put (D := D) (ci := 3) (v := .int v) (ty := .int) (C := RX3) (T := TX3) (N := 4) hx hb0 hts hinX3 tyX3 tyX3_ok nmX3 hown hK.1 hP (hK.2.2.2.2 M) hS 21 rfl rfl 2 (by decide) (hts _ wd_192) (fun _ h9 => h9) rfl (by decide +kernel) rfl rfl (Nat.le_of_ble_eq_true rfl) hdg (fun H1 locs1 h1 _ h3 => kk _ h H1 locs1 h1 h3)
theorem pfX4_9 {β : Type} {p : Program} {l : Launch} {e : Env} {R : Room} {s : State} {m : MethodId} {args : Array Value} {below : List Frame} {meth : Method} {c : Code} {H : Heap} {locs : List Loc} {Q : State → Prop} {cc : ByteArray} {pc nL : Nat} {ls : Array Slot} {rest : List Value} {D : va_G} {cI cJ : ClassId} {tP tR : Nat} {A : Nat → Prop} {ad : Nat → Nat} {M : Mem} (C : qC p s m args c D cI cJ tP tR A (xW ad cI cJ) cc nL RX4) (hP : va_P D vwCl (xW ad cI cJ M) H) (hS : va_S A s.heap H locs) {v : Int32} {k : Mem → Option β} {o : β} (hdg : decode cc pc = .ok (.putfield 9, 3)) (h : (some (setI M 16 0 v)).bind k = some o) (kk : ∀ M2 : Mem, k M2 = some o → ∀ (H : Heap) (locs : List Loc), va_P D vwCl (xW ad cI cJ M2) H → va_S A s.heap H locs → W p l e R s m args below meth c H locs 0 0 Q (F0 m (pc + 3) ls rest)) : W p l e R s m args below meth c H locs 0 0 Q (F0 m pc ls (.int v :: .ref (ad 16) :: rest)) := by
  obtain ⟨hx, hb0, hml, hown, hts, hK⟩ := C
  exact va_put (D := D) (ci := 4) (v := .int v) (ty := .int) (C := RX4) (T := TX4) (N := 7) hx hb0 hts hinX4 tyX4 tyX4_ok nmX4 hown hK.1 hP (hK.2.2.2.2 M) hS 16 rfl rfl 0 (by decide) (hts _ wd_143) (fun _ h9 => h9) rfl (by decide +kernel) rfl rfl (Nat.le_of_ble_eq_true rfl) hdg (fun H1 locs1 h1 _ h3 => kk _ h H1 locs1 h1 h3)
theorem pfX4_15 {β : Type} {p : Program} {l : Launch} {e : Env} {R : Room} {s : State} {m : MethodId} {args : Array Value} {below : List Frame} {meth : Method} {c : Code} {H : Heap} {locs : List Loc} {Q : State → Prop} {cc : ByteArray} {pc nL : Nat} {ls : Array Slot} {rest : List Value} {D : va_G} {cI cJ : ClassId} {tP tR : Nat} {A : Nat → Prop} {ad : Nat → Nat} {M : Mem} (C : qC p s m args c D cI cJ tP tR A (xW ad cI cJ) cc nL RX4) (hP : va_P D vwCl (xW ad cI cJ M) H) (hS : va_S A s.heap H locs) {v : Int32} {k : Mem → Option β} {o : β} (hdg : decode cc pc = .ok (.putfield 15, 3)) (h : (stZ M 16 1 v).bind k = some o) (kk : ∀ M2 : Mem, k M2 = some o → ∀ (H : Heap) (locs : List Loc), va_P D vwCl (xW ad cI cJ M2) H → va_S A s.heap H locs → W p l e R s m args below meth c H locs 0 0 Q (F0 m (pc + 3) ls rest)) : W p l e R s m args below meth c H locs 0 0 Q (F0 m pc ls (.int v :: .ref (ad 16) :: rest)) := by
  obtain ⟨hx, hb0, hml, hown, hts, hK⟩ := C
  unfold stZ at h
  by_cases hz : v = 0 ∨ v = 1
  · rw [if_pos hz] at h
    exact va_put (D := D) (ci := 4) (v := .int v) (ty := .boolean) (C := RX4) (T := TX4) (N := 7) hx hb0 hts hinX4 tyX4 tyX4_ok nmX4 hown hK.1 hP (hK.2.2.2.2 M) hS 16 rfl rfl 1 (by decide) (hts _ wd_145) (fun _ h9 => h9) rfl (by decide +kernel) (by rcases hz with h | h <;> rw [h] <;> rfl) (by rcases hz with h | h <;> rw [h] <;> rfl) (Nat.le_of_ble_eq_true rfl) hdg (fun H1 locs1 h1 _ h3 => kk _ h H1 locs1 h1 h3)
  · rw [if_neg hz] at h; cases h
theorem pfX4_19 {β : Type} {p : Program} {l : Launch} {e : Env} {R : Room} {s : State} {m : MethodId} {args : Array Value} {below : List Frame} {meth : Method} {c : Code} {H : Heap} {locs : List Loc} {Q : State → Prop} {cc : ByteArray} {pc nL : Nat} {ls : Array Slot} {rest : List Value} {D : va_G} {cI cJ : ClassId} {tP tR : Nat} {A : Nat → Prop} {ad : Nat → Nat} {M : Mem} (C : qC p s m args c D cI cJ tP tR A (xW ad cI cJ) cc nL RX4) (hP : va_P D vwCl (xW ad cI cJ M) H) (hS : va_S A s.heap H locs) {v : Int32} {k : Mem → Option β} {o : β} (hdg : decode cc pc = .ok (.putfield 19, 3)) (h : (stZ M 16 2 v).bind k = some o) (kk : ∀ M2 : Mem, k M2 = some o → ∀ (H : Heap) (locs : List Loc), va_P D vwCl (xW ad cI cJ M2) H → va_S A s.heap H locs → W p l e R s m args below meth c H locs 0 0 Q (F0 m (pc + 3) ls rest)) : W p l e R s m args below meth c H locs 0 0 Q (F0 m pc ls (.int v :: .ref (ad 16) :: rest)) := by
  obtain ⟨hx, hb0, hml, hown, hts, hK⟩ := C
  unfold stZ at h
  by_cases hz : v = 0 ∨ v = 1
  · rw [if_pos hz] at h
    exact va_put (D := D) (ci := 4) (v := .int v) (ty := .boolean) (C := RX4) (T := TX4) (N := 7) hx hb0 hts hinX4 tyX4 tyX4_ok nmX4 hown hK.1 hP (hK.2.2.2.2 M) hS 16 rfl rfl 2 (by decide) (hts _ wd_147) (fun _ h9 => h9) rfl (by decide +kernel) (by rcases hz with h | h <;> rw [h] <;> rfl) (by rcases hz with h | h <;> rw [h] <;> rfl) (Nat.le_of_ble_eq_true rfl) hdg (fun H1 locs1 h1 _ h3 => kk _ h H1 locs1 h1 h3)
  · rw [if_neg hz] at h; cases h
theorem pfX4_26 {β : Type} {p : Program} {l : Launch} {e : Env} {R : Room} {s : State} {m : MethodId} {args : Array Value} {below : List Frame} {meth : Method} {c : Code} {H : Heap} {locs : List Loc} {Q : State → Prop} {cc : ByteArray} {pc nL : Nat} {ls : Array Slot} {rest : List Value} {D : va_G} {cI cJ : ClassId} {tP tR : Nat} {A : Nat → Prop} {ad : Nat → Nat} {M : Mem} (C : qC p s m args c D cI cJ tP tR A (xW ad cI cJ) cc nL RX4) (hP : va_P D vwCl (xW ad cI cJ M) H) (hS : va_S A s.heap H locs) {v : Int32} {k : Mem → Option β} {o : β} (hdg : decode cc pc = .ok (.putfield 26, 3)) (h : (some (setI M 16 4 v)).bind k = some o) (kk : ∀ M2 : Mem, k M2 = some o → ∀ (H : Heap) (locs : List Loc), va_P D vwCl (xW ad cI cJ M2) H → va_S A s.heap H locs → W p l e R s m args below meth c H locs 0 0 Q (F0 m (pc + 3) ls rest)) : W p l e R s m args below meth c H locs 0 0 Q (F0 m pc ls (.int v :: .ref (ad 16) :: rest)) := by
  obtain ⟨hx, hb0, hml, hown, hts, hK⟩ := C
  exact va_put (D := D) (ci := 4) (v := .int v) (ty := .int) (C := RX4) (T := TX4) (N := 7) hx hb0 hts hinX4 tyX4 tyX4_ok nmX4 hown hK.1 hP (hK.2.2.2.2 M) hS 16 rfl rfl 4 (by decide) (hts _ wd_150) (fun _ h9 => h9) rfl (by decide +kernel) rfl rfl (Nat.le_of_ble_eq_true rfl) hdg (fun H1 locs1 h1 _ h3 => kk _ h H1 locs1 h1 h3)
theorem pfX4_29 {β : Type} {p : Program} {l : Launch} {e : Env} {R : Room} {s : State} {m : MethodId} {args : Array Value} {below : List Frame} {meth : Method} {c : Code} {H : Heap} {locs : List Loc} {Q : State → Prop} {cc : ByteArray} {pc nL : Nat} {ls : Array Slot} {rest : List Value} {D : va_G} {cI cJ : ClassId} {tP tR : Nat} {A : Nat → Prop} {ad : Nat → Nat} {M : Mem} (C : qC p s m args c D cI cJ tP tR A (xW ad cI cJ) cc nL RX4) (hP : va_P D vwCl (xW ad cI cJ M) H) (hS : va_S A s.heap H locs) {v : Int32} {k : Mem → Option β} {o : β} (hdg : decode cc pc = .ok (.putfield 29, 3)) (h : (some (setI M 16 5 v)).bind k = some o) (kk : ∀ M2 : Mem, k M2 = some o → ∀ (H : Heap) (locs : List Loc), va_P D vwCl (xW ad cI cJ M2) H → va_S A s.heap H locs → W p l e R s m args below meth c H locs 0 0 Q (F0 m (pc + 3) ls rest)) : W p l e R s m args below meth c H locs 0 0 Q (F0 m pc ls (.int v :: .ref (ad 16) :: rest)) := by
  obtain ⟨hx, hb0, hml, hown, hts, hK⟩ := C
  exact va_put (D := D) (ci := 4) (v := .int v) (ty := .int) (C := RX4) (T := TX4) (N := 7) hx hb0 hts hinX4 tyX4 tyX4_ok nmX4 hown hK.1 hP (hK.2.2.2.2 M) hS 16 rfl rfl 5 (by decide) (hts _ wd_151) (fun _ h9 => h9) rfl (by decide +kernel) rfl rfl (Nat.le_of_ble_eq_true rfl) hdg (fun H1 locs1 h1 _ h3 => kk _ h H1 locs1 h1 h3)
theorem pfX4_32 {β : Type} {p : Program} {l : Launch} {e : Env} {R : Room} {s : State} {m : MethodId} {args : Array Value} {below : List Frame} {meth : Method} {c : Code} {H : Heap} {locs : List Loc} {Q : State → Prop} {cc : ByteArray} {pc nL : Nat} {ls : Array Slot} {rest : List Value} {D : va_G} {cI cJ : ClassId} {tP tR : Nat} {A : Nat → Prop} {ad : Nat → Nat} {M : Mem} (C : qC p s m args c D cI cJ tP tR A (xW ad cI cJ) cc nL RX4) (hP : va_P D vwCl (xW ad cI cJ M) H) (hS : va_S A s.heap H locs) {v : Int32} {k : Mem → Option β} {o : β} (hdg : decode cc pc = .ok (.putfield 32, 3)) (h : (some (setI M 16 6 v)).bind k = some o) (kk : ∀ M2 : Mem, k M2 = some o → ∀ (H : Heap) (locs : List Loc), va_P D vwCl (xW ad cI cJ M2) H → va_S A s.heap H locs → W p l e R s m args below meth c H locs 0 0 Q (F0 m (pc + 3) ls rest)) : W p l e R s m args below meth c H locs 0 0 Q (F0 m pc ls (.int v :: .ref (ad 16) :: rest)) := by
  obtain ⟨hx, hb0, hml, hown, hts, hK⟩ := C
  exact va_put (D := D) (ci := 4) (v := .int v) (ty := .int) (C := RX4) (T := TX4) (N := 7) hx hb0 hts hinX4 tyX4 tyX4_ok nmX4 hown hK.1 hP (hK.2.2.2.2 M) hS 16 rfl rfl 6 (by decide) (hts _ wd_152) (fun _ h9 => h9) rfl (by decide +kernel) rfl rfl (Nat.le_of_ble_eq_true rfl) hdg (fun H1 locs1 h1 _ h3 => kk _ h H1 locs1 h1 h3)
theorem pfX6_66 {β : Type} {p : Program} {l : Launch} {e : Env} {R : Room} {s : State} {m : MethodId} {args : Array Value} {below : List Frame} {meth : Method} {c : Code} {H : Heap} {locs : List Loc} {Q : State → Prop} {cc : ByteArray} {pc nL : Nat} {ls : Array Slot} {rest : List Value} {D : va_G} {cI cJ : ClassId} {tP tR : Nat} {A : Nat → Prop} {ad : Nat → Nat} {M : Mem} (C : qC p s m args c D cI cJ tP tR A (yW ad cI cJ) cc nL RX6) (hP : va_P D vwCl (yW ad cI cJ M) H) (hS : va_S A s.heap H locs) {v : Int32} {k : Mem → Option β} {o : β} (hdg : decode cc pc = .ok (.putfield 66, 3)) (h : (some (setI M 0 7 v)).bind k = some o) (kk : ∀ M2 : Mem, k M2 = some o → ∀ (H : Heap) (locs : List Loc), va_P D vwCl (yW ad cI cJ M2) H → va_S A s.heap H locs → W p l e R s m args below meth c H locs 0 0 Q (F0 m (pc + 3) ls rest)) : W p l e R s m args below meth c H locs 0 0 Q (F0 m pc ls (.int v :: .ref (ad 0) :: rest)) := by
  obtain ⟨hx, hb0, hml, hown, hts, hK⟩ := C
  exact va_put (D := D) (ci := 6) (v := .int v) (ty := .int) (C := RX6) (T := TX6) (N := 22) hx hb0 hts hinX6 tyX6 tyX6_ok nmX6 hown hK.1 hP (hK.2.2.2.2 M) hS 0 rfl rfl 7 (by decide) (hts _ wd_526) (fun _ h9 => h9) rfl (by decide +kernel) rfl rfl (Nat.le_of_ble_eq_true rfl) hdg (fun H1 locs1 h1 _ h3 => kk _ h H1 locs1 h1 h3)
theorem pfX6_74 {β : Type} {p : Program} {l : Launch} {e : Env} {R : Room} {s : State} {m : MethodId} {args : Array Value} {below : List Frame} {meth : Method} {c : Code} {H : Heap} {locs : List Loc} {Q : State → Prop} {cc : ByteArray} {pc nL : Nat} {ls : Array Slot} {rest : List Value} {D : va_G} {cI cJ : ClassId} {tP tR : Nat} {A : Nat → Prop} {ad : Nat → Nat} {M : Mem} (C : qC p s m args c D cI cJ tP tR A (yW ad cI cJ) cc nL RX6) (hP : va_P D vwCl (yW ad cI cJ M) H) (hS : va_S A s.heap H locs) {v : Int32} {k : Mem → Option β} {o : β} (hdg : decode cc pc = .ok (.putfield 74, 3)) (h : (some (setI M 0 10 v)).bind k = some o) (kk : ∀ M2 : Mem, k M2 = some o → ∀ (H : Heap) (locs : List Loc), va_P D vwCl (yW ad cI cJ M2) H → va_S A s.heap H locs → W p l e R s m args below meth c H locs 0 0 Q (F0 m (pc + 3) ls rest)) : W p l e R s m args below meth c H locs 0 0 Q (F0 m pc ls (.int v :: .ref (ad 0) :: rest)) := by
  obtain ⟨hx, hb0, hml, hown, hts, hK⟩ := C
  exact va_put (D := D) (ci := 6) (v := .int v) (ty := .int) (C := RX6) (T := TX6) (N := 22) hx hb0 hts hinX6 tyX6 tyX6_ok nmX6 hown hK.1 hP (hK.2.2.2.2 M) hS 0 rfl rfl 10 (by decide) (hts _ wd_529) (fun _ h9 => h9) rfl (by decide +kernel) rfl rfl (Nat.le_of_ble_eq_true rfl) hdg (fun H1 locs1 h1 _ h3 => kk _ h H1 locs1 h1 h3)
theorem pfX6_106 {β : Type} {p : Program} {l : Launch} {e : Env} {R : Room} {s : State} {m : MethodId} {args : Array Value} {below : List Frame} {meth : Method} {c : Code} {H : Heap} {locs : List Loc} {Q : State → Prop} {cc : ByteArray} {pc nL : Nat} {ls : Array Slot} {rest : List Value} {D : va_G} {cI cJ : ClassId} {tP tR : Nat} {A : Nat → Prop} {ad : Nat → Nat} {M : Mem} (C : qC p s m args c D cI cJ tP tR A (yW ad cI cJ) cc nL RX6) (hP : va_P D vwCl (yW ad cI cJ M) H) (hS : va_S A s.heap H locs) {v : Int32} {k : Mem → Option β} {o : β} (hdg : decode cc pc = .ok (.putfield 106, 3)) (h : (some (setI M 0 11 v)).bind k = some o) (kk : ∀ M2 : Mem, k M2 = some o → ∀ (H : Heap) (locs : List Loc), va_P D vwCl (yW ad cI cJ M2) H → va_S A s.heap H locs → W p l e R s m args below meth c H locs 0 0 Q (F0 m (pc + 3) ls rest)) : W p l e R s m args below meth c H locs 0 0 Q (F0 m pc ls (.int v :: .ref (ad 0) :: rest)) := by
  obtain ⟨hx, hb0, hml, hown, hts, hK⟩ := C
  exact va_put (D := D) (ci := 6) (v := .int v) (ty := .int) (C := RX6) (T := TX6) (N := 22) hx hb0 hts hinX6 tyX6 tyX6_ok nmX6 hown hK.1 hP (hK.2.2.2.2 M) hS 0 rfl rfl 11 (by decide) (hts _ wd_530) (fun _ h9 => h9) rfl (by decide +kernel) rfl rfl (Nat.le_of_ble_eq_true rfl) hdg (fun H1 locs1 h1 _ h3 => kk _ h H1 locs1 h1 h3)
theorem pfX6_109 {β : Type} {p : Program} {l : Launch} {e : Env} {R : Room} {s : State} {m : MethodId} {args : Array Value} {below : List Frame} {meth : Method} {c : Code} {H : Heap} {locs : List Loc} {Q : State → Prop} {cc : ByteArray} {pc nL : Nat} {ls : Array Slot} {rest : List Value} {D : va_G} {cI cJ : ClassId} {tP tR : Nat} {A : Nat → Prop} {ad : Nat → Nat} {M : Mem} (C : qC p s m args c D cI cJ tP tR A (yW ad cI cJ) cc nL RX6) (hP : va_P D vwCl (yW ad cI cJ M) H) (hS : va_S A s.heap H locs) {v : Int32} {k : Mem → Option β} {o : β} (hdg : decode cc pc = .ok (.putfield 109, 3)) (h : (some (setI M 0 12 v)).bind k = some o) (kk : ∀ M2 : Mem, k M2 = some o → ∀ (H : Heap) (locs : List Loc), va_P D vwCl (yW ad cI cJ M2) H → va_S A s.heap H locs → W p l e R s m args below meth c H locs 0 0 Q (F0 m (pc + 3) ls rest)) : W p l e R s m args below meth c H locs 0 0 Q (F0 m pc ls (.int v :: .ref (ad 0) :: rest)) := by
  obtain ⟨hx, hb0, hml, hown, hts, hK⟩ := C
  exact va_put (D := D) (ci := 6) (v := .int v) (ty := .int) (C := RX6) (T := TX6) (N := 22) hx hb0 hts hinX6 tyX6 tyX6_ok nmX6 hown hK.1 hP (hK.2.2.2.2 M) hS 0 rfl rfl 12 (by decide) (hts _ wd_531) (fun _ h9 => h9) rfl (by decide +kernel) rfl rfl (Nat.le_of_ble_eq_true rfl) hdg (fun H1 locs1 h1 _ h3 => kk _ h H1 locs1 h1 h3)
theorem pfX6_112 {β : Type} {p : Program} {l : Launch} {e : Env} {R : Room} {s : State} {m : MethodId} {args : Array Value} {below : List Frame} {meth : Method} {c : Code} {H : Heap} {locs : List Loc} {Q : State → Prop} {cc : ByteArray} {pc nL : Nat} {ls : Array Slot} {rest : List Value} {D : va_G} {cI cJ : ClassId} {tP tR : Nat} {A : Nat → Prop} {ad : Nat → Nat} {M : Mem} (C : qC p s m args c D cI cJ tP tR A (yW ad cI cJ) cc nL RX6) (hP : va_P D vwCl (yW ad cI cJ M) H) (hS : va_S A s.heap H locs) {v : Int32} {k : Mem → Option β} {o : β} (hdg : decode cc pc = .ok (.putfield 112, 3)) (h : (some (setI M 0 13 v)).bind k = some o) (kk : ∀ M2 : Mem, k M2 = some o → ∀ (H : Heap) (locs : List Loc), va_P D vwCl (yW ad cI cJ M2) H → va_S A s.heap H locs → W p l e R s m args below meth c H locs 0 0 Q (F0 m (pc + 3) ls rest)) : W p l e R s m args below meth c H locs 0 0 Q (F0 m pc ls (.int v :: .ref (ad 0) :: rest)) := by
  obtain ⟨hx, hb0, hml, hown, hts, hK⟩ := C
  exact va_put (D := D) (ci := 6) (v := .int v) (ty := .int) (C := RX6) (T := TX6) (N := 22) hx hb0 hts hinX6 tyX6 tyX6_ok nmX6 hown hK.1 hP (hK.2.2.2.2 M) hS 0 rfl rfl 13 (by decide) (hts _ wd_532) (fun _ h9 => h9) rfl (by decide +kernel) rfl rfl (Nat.le_of_ble_eq_true rfl) hdg (fun H1 locs1 h1 _ h3 => kk _ h H1 locs1 h1 h3)
theorem pfX6_118 {β : Type} {p : Program} {l : Launch} {e : Env} {R : Room} {s : State} {m : MethodId} {args : Array Value} {below : List Frame} {meth : Method} {c : Code} {H : Heap} {locs : List Loc} {Q : State → Prop} {cc : ByteArray} {pc nL : Nat} {ls : Array Slot} {rest : List Value} {D : va_G} {cI cJ : ClassId} {tP tR : Nat} {A : Nat → Prop} {ad : Nat → Nat} {M : Mem} (C : qC p s m args c D cI cJ tP tR A (yW ad cI cJ) cc nL RX6) (hP : va_P D vwCl (yW ad cI cJ M) H) (hS : va_S A s.heap H locs) {v : Int32} {k : Mem → Option β} {o : β} (hdg : decode cc pc = .ok (.putfield 118, 3)) (h : (stZ M 0 14 v).bind k = some o) (kk : ∀ M2 : Mem, k M2 = some o → ∀ (H : Heap) (locs : List Loc), va_P D vwCl (yW ad cI cJ M2) H → va_S A s.heap H locs → W p l e R s m args below meth c H locs 0 0 Q (F0 m (pc + 3) ls rest)) : W p l e R s m args below meth c H locs 0 0 Q (F0 m pc ls (.int v :: .ref (ad 0) :: rest)) := by
  obtain ⟨hx, hb0, hml, hown, hts, hK⟩ := C
  unfold stZ at h
  by_cases hz : v = 0 ∨ v = 1
  · rw [if_pos hz] at h
    exact va_put (D := D) (ci := 6) (v := .int v) (ty := .boolean) (C := RX6) (T := TX6) (N := 22) hx hb0 hts hinX6 tyX6 tyX6_ok nmX6 hown hK.1 hP (hK.2.2.2.2 M) hS 0 rfl rfl 14 (by decide) (hts _ wd_533) (fun _ h9 => h9) rfl (by decide +kernel) (by rcases hz with h | h <;> rw [h] <;> rfl) (by rcases hz with h | h <;> rw [h] <;> rfl) (Nat.le_of_ble_eq_true rfl) hdg (fun H1 locs1 h1 _ h3 => kk _ h H1 locs1 h1 h3)
  · rw [if_neg hz] at h; cases h
theorem pfX6_125 {β : Type} {p : Program} {l : Launch} {e : Env} {R : Room} {s : State} {m : MethodId} {args : Array Value} {below : List Frame} {meth : Method} {c : Code} {H : Heap} {locs : List Loc} {Q : State → Prop} {cc : ByteArray} {pc nL : Nat} {ls : Array Slot} {rest : List Value} {D : va_G} {cI cJ : ClassId} {tP tR : Nat} {A : Nat → Prop} {ad : Nat → Nat} {M : Mem} (C : qC p s m args c D cI cJ tP tR A (yW ad cI cJ) cc nL RX6) (hP : va_P D vwCl (yW ad cI cJ M) H) (hS : va_S A s.heap H locs) {v : Int32} {k : Mem → Option β} {o : β} (hdg : decode cc pc = .ok (.putfield 125, 3)) (h : (stZ M 0 19 v).bind k = some o) (kk : ∀ M2 : Mem, k M2 = some o → ∀ (H : Heap) (locs : List Loc), va_P D vwCl (yW ad cI cJ M2) H → va_S A s.heap H locs → W p l e R s m args below meth c H locs 0 0 Q (F0 m (pc + 3) ls rest)) : W p l e R s m args below meth c H locs 0 0 Q (F0 m pc ls (.int v :: .ref (ad 0) :: rest)) := by
  obtain ⟨hx, hb0, hml, hown, hts, hK⟩ := C
  unfold stZ at h
  by_cases hz : v = 0 ∨ v = 1
  · rw [if_pos hz] at h
    exact va_put (D := D) (ci := 6) (v := .int v) (ty := .boolean) (C := RX6) (T := TX6) (N := 22) hx hb0 hts hinX6 tyX6 tyX6_ok nmX6 hown hK.1 hP (hK.2.2.2.2 M) hS 0 rfl rfl 19 (by decide) (hts _ wd_538) (fun _ h9 => h9) rfl (by decide +kernel) (by rcases hz with h | h <;> rw [h] <;> rfl) (by rcases hz with h | h <;> rw [h] <;> rfl) (Nat.le_of_ble_eq_true rfl) hdg (fun H1 locs1 h1 _ h3 => kk _ h H1 locs1 h1 h3)
  · rw [if_neg hz] at h; cases h
theorem pfX6_132 {β : Type} {p : Program} {l : Launch} {e : Env} {R : Room} {s : State} {m : MethodId} {args : Array Value} {below : List Frame} {meth : Method} {c : Code} {H : Heap} {locs : List Loc} {Q : State → Prop} {cc : ByteArray} {pc nL : Nat} {ls : Array Slot} {rest : List Value} {D : va_G} {cI cJ : ClassId} {tP tR : Nat} {A : Nat → Prop} {ad : Nat → Nat} {M : Mem} (C : qC p s m args c D cI cJ tP tR A (yW ad cI cJ) cc nL RX6) (hP : va_P D vwCl (yW ad cI cJ M) H) (hS : va_S A s.heap H locs) {v : Int32} {k : Mem → Option β} {o : β} (hdg : decode cc pc = .ok (.putfield 132, 3)) (h : (some (setI M 0 15 v)).bind k = some o) (kk : ∀ M2 : Mem, k M2 = some o → ∀ (H : Heap) (locs : List Loc), va_P D vwCl (yW ad cI cJ M2) H → va_S A s.heap H locs → W p l e R s m args below meth c H locs 0 0 Q (F0 m (pc + 3) ls rest)) : W p l e R s m args below meth c H locs 0 0 Q (F0 m pc ls (.int v :: .ref (ad 0) :: rest)) := by
  obtain ⟨hx, hb0, hml, hown, hts, hK⟩ := C
  exact va_put (D := D) (ci := 6) (v := .int v) (ty := .int) (C := RX6) (T := TX6) (N := 22) hx hb0 hts hinX6 tyX6 tyX6_ok nmX6 hown hK.1 hP (hK.2.2.2.2 M) hS 0 rfl rfl 15 (by decide) (hts _ wd_534) (fun _ h9 => h9) rfl (by decide +kernel) rfl rfl (Nat.le_of_ble_eq_true rfl) hdg (fun H1 locs1 h1 _ h3 => kk _ h H1 locs1 h1 h3)
theorem pfX6_135 {β : Type} {p : Program} {l : Launch} {e : Env} {R : Room} {s : State} {m : MethodId} {args : Array Value} {below : List Frame} {meth : Method} {c : Code} {H : Heap} {locs : List Loc} {Q : State → Prop} {cc : ByteArray} {pc nL : Nat} {ls : Array Slot} {rest : List Value} {D : va_G} {cI cJ : ClassId} {tP tR : Nat} {A : Nat → Prop} {ad : Nat → Nat} {M : Mem} (C : qC p s m args c D cI cJ tP tR A (yW ad cI cJ) cc nL RX6) (hP : va_P D vwCl (yW ad cI cJ M) H) (hS : va_S A s.heap H locs) {v : Int32} {k : Mem → Option β} {o : β} (hdg : decode cc pc = .ok (.putfield 135, 3)) (h : (some (setI M 0 16 v)).bind k = some o) (kk : ∀ M2 : Mem, k M2 = some o → ∀ (H : Heap) (locs : List Loc), va_P D vwCl (yW ad cI cJ M2) H → va_S A s.heap H locs → W p l e R s m args below meth c H locs 0 0 Q (F0 m (pc + 3) ls rest)) : W p l e R s m args below meth c H locs 0 0 Q (F0 m pc ls (.int v :: .ref (ad 0) :: rest)) := by
  obtain ⟨hx, hb0, hml, hown, hts, hK⟩ := C
  exact va_put (D := D) (ci := 6) (v := .int v) (ty := .int) (C := RX6) (T := TX6) (N := 22) hx hb0 hts hinX6 tyX6 tyX6_ok nmX6 hown hK.1 hP (hK.2.2.2.2 M) hS 0 rfl rfl 16 (by decide) (hts _ wd_535) (fun _ h9 => h9) rfl (by decide +kernel) rfl rfl (Nat.le_of_ble_eq_true rfl) hdg (fun H1 locs1 h1 _ h3 => kk _ h H1 locs1 h1 h3)
theorem pfX6_138 {β : Type} {p : Program} {l : Launch} {e : Env} {R : Room} {s : State} {m : MethodId} {args : Array Value} {below : List Frame} {meth : Method} {c : Code} {H : Heap} {locs : List Loc} {Q : State → Prop} {cc : ByteArray} {pc nL : Nat} {ls : Array Slot} {rest : List Value} {D : va_G} {cI cJ : ClassId} {tP tR : Nat} {A : Nat → Prop} {ad : Nat → Nat} {M : Mem} (C : qC p s m args c D cI cJ tP tR A (yW ad cI cJ) cc nL RX6) (hP : va_P D vwCl (yW ad cI cJ M) H) (hS : va_S A s.heap H locs) {v : Int32} {k : Mem → Option β} {o : β} (hdg : decode cc pc = .ok (.putfield 138, 3)) (h : (some (setI M 0 17 v)).bind k = some o) (kk : ∀ M2 : Mem, k M2 = some o → ∀ (H : Heap) (locs : List Loc), va_P D vwCl (yW ad cI cJ M2) H → va_S A s.heap H locs → W p l e R s m args below meth c H locs 0 0 Q (F0 m (pc + 3) ls rest)) : W p l e R s m args below meth c H locs 0 0 Q (F0 m pc ls (.int v :: .ref (ad 0) :: rest)) := by
  obtain ⟨hx, hb0, hml, hown, hts, hK⟩ := C
  exact va_put (D := D) (ci := 6) (v := .int v) (ty := .int) (C := RX6) (T := TX6) (N := 22) hx hb0 hts hinX6 tyX6 tyX6_ok nmX6 hown hK.1 hP (hK.2.2.2.2 M) hS 0 rfl rfl 17 (by decide) (hts _ wd_536) (fun _ h9 => h9) rfl (by decide +kernel) rfl rfl (Nat.le_of_ble_eq_true rfl) hdg (fun H1 locs1 h1 _ h3 => kk _ h H1 locs1 h1 h3)
theorem pfX6_141 {β : Type} {p : Program} {l : Launch} {e : Env} {R : Room} {s : State} {m : MethodId} {args : Array Value} {below : List Frame} {meth : Method} {c : Code} {H : Heap} {locs : List Loc} {Q : State → Prop} {cc : ByteArray} {pc nL : Nat} {ls : Array Slot} {rest : List Value} {D : va_G} {cI cJ : ClassId} {tP tR : Nat} {A : Nat → Prop} {ad : Nat → Nat} {M : Mem} (C : qC p s m args c D cI cJ tP tR A (yW ad cI cJ) cc nL RX6) (hP : va_P D vwCl (yW ad cI cJ M) H) (hS : va_S A s.heap H locs) {v : Int32} {k : Mem → Option β} {o : β} (hdg : decode cc pc = .ok (.putfield 141, 3)) (h : (some (setI M 0 18 v)).bind k = some o) (kk : ∀ M2 : Mem, k M2 = some o → ∀ (H : Heap) (locs : List Loc), va_P D vwCl (yW ad cI cJ M2) H → va_S A s.heap H locs → W p l e R s m args below meth c H locs 0 0 Q (F0 m (pc + 3) ls rest)) : W p l e R s m args below meth c H locs 0 0 Q (F0 m pc ls (.int v :: .ref (ad 0) :: rest)) := by
  obtain ⟨hx, hb0, hml, hown, hts, hK⟩ := C
  exact va_put (D := D) (ci := 6) (v := .int v) (ty := .int) (C := RX6) (T := TX6) (N := 22) hx hb0 hts hinX6 tyX6 tyX6_ok nmX6 hown hK.1 hP (hK.2.2.2.2 M) hS 0 rfl rfl 18 (by decide) (hts _ wd_537) (fun _ h9 => h9) rfl (by decide +kernel) rfl rfl (Nat.le_of_ble_eq_true rfl) hdg (fun H1 locs1 h1 _ h3 => kk _ h H1 locs1 h1 h3)

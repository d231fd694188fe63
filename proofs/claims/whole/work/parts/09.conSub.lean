abbrev rX4_tilt : Room := { frames := 1, cells := 0, slots := 0, locals := 25 }
theorem dX4_tilt_0 : decode cX4_tilt 0 = .ok (.aload_n 1, 1) := by decide +kernel
theorem dX4_tilt_1 : decode cX4_tilt 1 = .ok (.iload_n 3, 1) := by decide +kernel
theorem dX4_tilt_2 : decode cX4_tilt 2 = .ok (.iload 4, 2) := by decide +kernel
theorem dX4_tilt_4 : decode cX4_tilt 4 = .ok (.aload_n 2, 1) := by decide +kernel
theorem dX4_tilt_5 : decode cX4_tilt 5 = .ok (.iload 5, 2) := by decide +kernel
theorem dX4_tilt_7 : decode cX4_tilt 7 = .ok (.iload 6, 2) := by decide +kernel
theorem dX4_tilt_9 : decode cX4_tilt 9 = .ok (.invokestatic 48, 3) := by decide +kernel
theorem dX4_tilt_12 : decode cX4_tilt 12 = .ok (.istore 7, 2) := by decide +kernel
theorem dX4_tilt_14 : decode cX4_tilt 14 = .ok (.iload 7, 2) := by decide +kernel
theorem dX4_tilt_16 : decode cX4_tilt 16 = .ok (.ifCond .ne 5, 3) := by decide +kernel
theorem dX4_tilt_19 : decode cX4_tilt 19 = .ok (.iconst 0, 1) := by decide +kernel
theorem dX4_tilt_20 : decode cX4_tilt 20 = .ok (.ireturn, 1) := by decide +kernel
theorem dX4_tilt_21 : decode cX4_tilt 21 = .ok (.iload 7, 2) := by decide +kernel
theorem dX4_tilt_23 : decode cX4_tilt 23 = .ok (.ifCond .ge 7, 3) := by decide +kernel
theorem dX4_tilt_26 : decode cX4_tilt 26 = .ok (.iconst (-1), 1) := by decide +kernel
theorem dX4_tilt_27 : decode cX4_tilt 27 = .ok (.goto 4, 3) := by decide +kernel
theorem dX4_tilt_30 : decode cX4_tilt 30 = .ok (.iconst 1, 1) := by decide +kernel
theorem dX4_tilt_31 : decode cX4_tilt 31 = .ok (.istore 8, 2) := by decide +kernel
theorem dX4_tilt_33 : decode cX4_tilt 33 = .ok (.aload_n 1, 1) := by decide +kernel
theorem dX4_tilt_34 : decode cX4_tilt 34 = .ok (.getfield 70, 3) := by decide +kernel
theorem dX4_tilt_37 : decode cX4_tilt 37 = .ok (.iload_n 3, 1) := by decide +kernel
theorem dX4_tilt_38 : decode cX4_tilt 38 = .ok (.iaload, 1) := by decide +kernel
theorem dX4_tilt_39 : decode cX4_tilt 39 = .ok (.aload_n 1, 1) := by decide +kernel
theorem dX4_tilt_40 : decode cX4_tilt 40 = .ok (.getfield 70, 3) := by decide +kernel
theorem dX4_tilt_43 : decode cX4_tilt 43 = .ok (.iload 4, 2) := by decide +kernel
theorem dX4_tilt_45 : decode cX4_tilt 45 = .ok (.iaload, 1) := by decide +kernel
theorem dX4_tilt_46 : decode cX4_tilt 46 = .ok (.isub, 1) := by decide +kernel
theorem dX4_tilt_47 : decode cX4_tilt 47 = .ok (.istore 9, 2) := by decide +kernel
theorem dX4_tilt_49 : decode cX4_tilt 49 = .ok (.aload_n 2, 1) := by decide +kernel
theorem dX4_tilt_50 : decode cX4_tilt 50 = .ok (.getfield 70, 3) := by decide +kernel
theorem dX4_tilt_53 : decode cX4_tilt 53 = .ok (.iload 5, 2) := by decide +kernel
theorem dX4_tilt_55 : decode cX4_tilt 55 = .ok (.iaload, 1) := by decide +kernel
theorem dX4_tilt_56 : decode cX4_tilt 56 = .ok (.aload_n 2, 1) := by decide +kernel
theorem dX4_tilt_57 : decode cX4_tilt 57 = .ok (.getfield 70, 3) := by decide +kernel
theorem dX4_tilt_60 : decode cX4_tilt 60 = .ok (.iload 6, 2) := by decide +kernel
theorem dX4_tilt_62 : decode cX4_tilt 62 = .ok (.iaload, 1) := by decide +kernel
theorem dX4_tilt_63 : decode cX4_tilt 63 = .ok (.isub, 1) := by decide +kernel
theorem dX4_tilt_64 : decode cX4_tilt 64 = .ok (.istore 10, 2) := by decide +kernel
theorem dX4_tilt_66 : decode cX4_tilt 66 = .ok (.aload_n 0, 1) := by decide +kernel
theorem dX4_tilt_67 : decode cX4_tilt 67 = .ok (.iload 8, 2) := by decide +kernel
theorem dX4_tilt_69 : decode cX4_tilt 69 = .ok (.iload 7, 2) := by decide +kernel
theorem dX4_tilt_71 : decode cX4_tilt 71 = .ok (.imul, 1) := by decide +kernel
theorem dX4_tilt_72 : decode cX4_tilt 72 = .ok (.putfield 26, 3) := by decide +kernel
theorem dX4_tilt_75 : decode cX4_tilt 75 = .ok (.aload_n 0, 1) := by decide +kernel
theorem dX4_tilt_76 : decode cX4_tilt 76 = .ok (.iload 8, 2) := by decide +kernel
theorem dX4_tilt_78 : decode cX4_tilt 78 = .ok (.iload 9, 2) := by decide +kernel
theorem dX4_tilt_80 : decode cX4_tilt 80 = .ok (.aload_n 2, 1) := by decide +kernel
theorem dX4_tilt_81 : decode cX4_tilt 81 = .ok (.getfield 73, 3) := by decide +kernel
theorem dX4_tilt_84 : decode cX4_tilt 84 = .ok (.iload 6, 2) := by decide +kernel
theorem dX4_tilt_86 : decode cX4_tilt 86 = .ok (.iaload, 1) := by decide +kernel
theorem dX4_tilt_87 : decode cX4_tilt 87 = .ok (.aload_n 2, 1) := by decide +kernel
theorem dX4_tilt_88 : decode cX4_tilt 88 = .ok (.getfield 73, 3) := by decide +kernel
theorem dX4_tilt_91 : decode cX4_tilt 91 = .ok (.iload 5, 2) := by decide +kernel
theorem dX4_tilt_93 : decode cX4_tilt 93 = .ok (.iaload, 1) := by decide +kernel
theorem dX4_tilt_94 : decode cX4_tilt 94 = .ok (.isub, 1) := by decide +kernel
theorem dX4_tilt_95 : decode cX4_tilt 95 = .ok (.imul, 1) := by decide +kernel
theorem dX4_tilt_96 : decode cX4_tilt 96 = .ok (.iload 10, 2) := by decide +kernel
theorem dX4_tilt_98 : decode cX4_tilt 98 = .ok (.aload_n 1, 1) := by decide +kernel
theorem dX4_tilt_99 : decode cX4_tilt 99 = .ok (.getfield 73, 3) := by decide +kernel
theorem dX4_tilt_102 : decode cX4_tilt 102 = .ok (.iload 4, 2) := by decide +kernel
theorem dX4_tilt_104 : decode cX4_tilt 104 = .ok (.iaload, 1) := by decide +kernel
theorem dX4_tilt_105 : decode cX4_tilt 105 = .ok (.aload_n 1, 1) := by decide +kernel
theorem dX4_tilt_106 : decode cX4_tilt 106 = .ok (.getfield 73, 3) := by decide +kernel
theorem dX4_tilt_109 : decode cX4_tilt 109 = .ok (.iload_n 3, 1) := by decide +kernel
theorem dX4_tilt_110 : decode cX4_tilt 110 = .ok (.iaload, 1) := by decide +kernel
theorem dX4_tilt_111 : decode cX4_tilt 111 = .ok (.isub, 1) := by decide +kernel
theorem dX4_tilt_112 : decode cX4_tilt 112 = .ok (.imul, 1) := by decide +kernel
theorem dX4_tilt_113 : decode cX4_tilt 113 = .ok (.isub, 1) := by decide +kernel
theorem dX4_tilt_114 : decode cX4_tilt 114 = .ok (.imul, 1) := by decide +kernel
theorem dX4_tilt_115 : decode cX4_tilt 115 = .ok (.putfield 29, 3) := by decide +kernel
theorem dX4_tilt_118 : decode cX4_tilt 118 = .ok (.aload_n 0, 1) := by decide +kernel
theorem dX4_tilt_119 : decode cX4_tilt 119 = .ok (.iload 8, 2) := by decide +kernel
theorem dX4_tilt_121 : decode cX4_tilt 121 = .ok (.iload 10, 2) := by decide +kernel
theorem dX4_tilt_123 : decode cX4_tilt 123 = .ok (.aload_n 1, 1) := by decide +kernel
theorem dX4_tilt_124 : decode cX4_tilt 124 = .ok (.getfield 76, 3) := by decide +kernel
theorem dX4_tilt_127 : decode cX4_tilt 127 = .ok (.iload 4, 2) := by decide +kernel
theorem dX4_tilt_129 : decode cX4_tilt 129 = .ok (.iaload, 1) := by decide +kernel
theorem dX4_tilt_130 : decode cX4_tilt 130 = .ok (.aload_n 1, 1) := by decide +kernel
theorem dX4_tilt_131 : decode cX4_tilt 131 = .ok (.getfield 76, 3) := by decide +kernel
theorem dX4_tilt_134 : decode cX4_tilt 134 = .ok (.iload_n 3, 1) := by decide +kernel
theorem dX4_tilt_135 : decode cX4_tilt 135 = .ok (.iaload, 1) := by decide +kernel
theorem dX4_tilt_136 : decode cX4_tilt 136 = .ok (.isub, 1) := by decide +kernel
theorem dX4_tilt_137 : decode cX4_tilt 137 = .ok (.imul, 1) := by decide +kernel
theorem dX4_tilt_138 : decode cX4_tilt 138 = .ok (.iload 9, 2) := by decide +kernel
theorem dX4_tilt_140 : decode cX4_tilt 140 = .ok (.aload_n 2, 1) := by decide +kernel
theorem dX4_tilt_141 : decode cX4_tilt 141 = .ok (.getfield 76, 3) := by decide +kernel
theorem dX4_tilt_144 : decode cX4_tilt 144 = .ok (.iload 6, 2) := by decide +kernel
theorem dX4_tilt_146 : decode cX4_tilt 146 = .ok (.iaload, 1) := by decide +kernel
theorem dX4_tilt_147 : decode cX4_tilt 147 = .ok (.aload_n 2, 1) := by decide +kernel
theorem dX4_tilt_148 : decode cX4_tilt 148 = .ok (.getfield 76, 3) := by decide +kernel
theorem dX4_tilt_151 : decode cX4_tilt 151 = .ok (.iload 5, 2) := by decide +kernel
theorem dX4_tilt_153 : decode cX4_tilt 153 = .ok (.iaload, 1) := by decide +kernel
theorem dX4_tilt_154 : decode cX4_tilt 154 = .ok (.isub, 1) := by decide +kernel
theorem dX4_tilt_155 : decode cX4_tilt 155 = .ok (.imul, 1) := by decide +kernel
theorem dX4_tilt_156 : decode cX4_tilt 156 = .ok (.isub, 1) := by decide +kernel
theorem dX4_tilt_157 : decode cX4_tilt 157 = .ok (.imul, 1) := by decide +kernel
theorem dX4_tilt_158 : decode cX4_tilt 158 = .ok (.putfield 32, 3) := by decide +kernel
theorem dX4_tilt_161 : decode cX4_tilt 161 = .ok (.iconst 1, 1) := by decide +kernel
theorem dX4_tilt_162 : decode cX4_tilt 162 = .ok (.ireturn, 1) := by decide +kernel
set_option maxRecDepth 100000 in
set_option maxHeartbeats 4000000 in
theorem kX4_tilt (l : Launch) (D : va_G) (ad : Nat → Nat) (cI cJ : ClassId) (tP tR : Nat) (M : Mem) (a1 : Nat) (a2 : Nat) (a3 : Int32) (a4 : Int32) (a5 : Int32) (a6 : Int32) (ha1 : a1 = 1 ∨ a1 = 6) (ha2 : a2 = 1 ∨ a2 = 6) (o : (Int32 × Mem)) (h : fX4_tilt M a1 a2 a3 a4 a5 a6 = some o) : qMet l D cI cJ tP tR (xA ad) (xW ad cI cJ) yX4_tilt cX4_tilt 11 (some .boolean) rX4_tilt [.ref (ad 16), .ref (ad a1), .ref (ad a2), .int a3, .int a4, .int a5, .int a6] M (qQi D (xA ad) (xW ad cI cJ) o.1 o.2) := by
  refine rs_enterZ (own := RX4) ⟨by decide +kernel, rfl, Nat.le_of_ble_eq_true rfl⟩ ?_
  intro p e s m args below meth c Q C hret H locs ls hP hS hl
  obtain ⟨hx, hb, -⟩ := id C
  have hl : lv_has ls 11 [(0, .ref (ad 16)), (1, .ref (ad a1)), (2, .ref (ad a2)), (3, .int a3), (4, .int a4), (5, .int a5), (6, .int a6)] := hl
  unfold fX4_tilt at h
  refine lv_aload_n hx hb dX4_tilt_0 rfl (lv_at hl 1 rfl) ?_
  refine lv_iload_n hx hb dX4_tilt_1 rfl (lv_at hl 3 rfl) ?_
  refine lv_iload hx hb dX4_tilt_2 (lv_at hl 4 rfl) ?_
  refine lv_aload_n hx hb dX4_tilt_4 rfl (lv_at hl 2 rfl) ?_
  refine lv_iload hx hb dX4_tilt_5 (lv_at hl 5 rfl) ?_
  refine lv_iload hx hb dX4_tilt_7 (lv_at hl 6 rfl) ?_
  obtain ⟨v1, h1, h⟩ := rs_bind h
  refine rs_goI (rs_runN (As := [.ref (ad a1), .int a3, .int a4, .ref (ad a2), .int a5, .int a6]) (rest := []) C hP hS (kX5_across l D ad cI cJ tP tR M a1 a3 a4 a2 a5 a6 ha1 ha2 _ h1) mk_X5_across (nl_X4_48) rfl ⟨rfl, rfl, Nat.le_of_ble_eq_true rfl, Nat.le_of_ble_eq_true rfl⟩ rfl hl.1 (Nat.le_of_ble_eq_true rfl) dX4_tilt_9) hS (fun H locs hP hS => ?_)
  refine lv_istore (lv' := [(7, .int v1), (0, .ref (ad 16)), (1, .ref (ad a1)), (2, .ref (ad a2)), (3, .int a3), (4, .int a4), (5, .int a5), (6, .int a6)]) hx hb dX4_tilt_12 hl (by decide) rfl (fun ls hl => ?_)
  refine lv_iload hx hb dX4_tilt_14 (lv_at hl 0 rfl) ?_
  refine lv_if_ne (tgt := 21) hx hb dX4_tilt_16 (by decide) (fun cd => ?_) (fun cd => ?_)
  · have h := (if_neg cd).symm.trans h
    refine lv_iload hx hb dX4_tilt_21 (lv_at hl 0 rfl) ?_
    obtain ⟨v2, h1, h⟩ := rs_bind h
    have hJ18 : ∀ (H : Heap) (locs : List Loc) (ls : Array Slot), va_P D vwCl (xW ad cI cJ M) H → va_S (xA ad) s.heap H locs → lv_has ls 11 [(0, .ref (ad 16)), (1, .ref (ad a1)), (2, .ref (ad a2)), (3, .int a3), (4, .int a4), (5, .int a5), (6, .int a6), (7, .int v1)] → W p l e rX4_tilt s m args below meth c H locs 0 0 Q (F0 m 31 ls [.int v2]) := by
      intro H locs ls hP hS hl
      refine lv_istore (lv' := [(8, .int v2), (0, .ref (ad 16)), (1, .ref (ad a1)), (2, .ref (ad a2)), (3, .int a3), (4, .int a4), (5, .int a5), (6, .int a6), (7, .int v1)]) hx hb dX4_tilt_31 hl (by decide) rfl (fun ls hl => ?_)
      refine lv_aload_n hx hb dX4_tilt_33 rfl (lv_at hl 2 rfl) ?_
      refine gfX4_70 C hP ha1 dX4_tilt_34 ?_
      refine lv_iload_n hx hb dX4_tilt_37 rfl (lv_at hl 4 rfl) ?_
      refine rs_iald C hP (xIA_e4 ha1) dX4_tilt_38 h (fun v3 h => ?_)
      refine lv_aload_n hx hb dX4_tilt_39 rfl (lv_at hl 2 rfl) ?_
      refine gfX4_70 C hP ha1 dX4_tilt_40 ?_
      refine lv_iload hx hb dX4_tilt_43 (lv_at hl 5 rfl) ?_
      refine rs_iald C hP (xIA_e4 ha1) dX4_tilt_45 h (fun v4 h => ?_)
      refine lv_isub hx hb dX4_tilt_46 ?_
      refine lv_istore (lv' := [(9, .int (v3 - v4)), (8, .int v2), (0, .ref (ad 16)), (1, .ref (ad a1)), (2, .ref (ad a2)), (3, .int a3), (4, .int a4), (5, .int a5), (6, .int a6), (7, .int v1)]) hx hb dX4_tilt_47 hl (by decide) rfl (fun ls hl => ?_)
      refine lv_aload_n hx hb dX4_tilt_49 rfl (lv_at hl 4 rfl) ?_
      refine gfX4_70 C hP ha2 dX4_tilt_50 ?_
      refine lv_iload hx hb dX4_tilt_53 (lv_at hl 7 rfl) ?_
      refine rs_iald C hP (xIA_e4 ha2) dX4_tilt_55 h (fun v5 h => ?_)
      refine lv_aload_n hx hb dX4_tilt_56 rfl (lv_at hl 4 rfl) ?_
      refine gfX4_70 C hP ha2 dX4_tilt_57 ?_
      refine lv_iload hx hb dX4_tilt_60 (lv_at hl 8 rfl) ?_
      refine rs_iald C hP (xIA_e4 ha2) dX4_tilt_62 h (fun v6 h => ?_)
      refine lv_isub hx hb dX4_tilt_63 ?_
      refine lv_istore (lv' := [(10, .int (v5 - v6)), (9, .int (v3 - v4)), (8, .int v2), (0, .ref (ad 16)), (1, .ref (ad a1)), (2, .ref (ad a2)), (3, .int a3), (4, .int a4), (5, .int a5), (6, .int a6), (7, .int v1)]) hx hb dX4_tilt_64 hl (by decide) rfl (fun ls hl => ?_)
      refine lv_aload_n hx hb dX4_tilt_66 rfl (lv_at hl 3 rfl) ?_
      refine lv_iload hx hb dX4_tilt_67 (lv_at hl 2 rfl) ?_
      refine lv_iload hx hb dX4_tilt_69 (lv_at hl 10 rfl) ?_
      refine lv_imul hx hb dX4_tilt_71 ?_
      refine pfX4_26 C hP hS dX4_tilt_72 h (fun M7 h H locs hP hS => ?_)
      refine lv_aload_n hx hb dX4_tilt_75 rfl (lv_at hl 3 rfl) ?_
      refine lv_iload hx hb dX4_tilt_76 (lv_at hl 2 rfl) ?_
      refine lv_iload hx hb dX4_tilt_78 (lv_at hl 1 rfl) ?_
      refine lv_aload_n hx hb dX4_tilt_80 rfl (lv_at hl 5 rfl) ?_
      refine gfX4_73 C hP ha2 dX4_tilt_81 ?_
      refine lv_iload hx hb dX4_tilt_84 (lv_at hl 9 rfl) ?_
      refine rs_iald C hP (xIA_e2 ha2) dX4_tilt_86 h (fun v8 h => ?_)
      refine lv_aload_n hx hb dX4_tilt_87 rfl (lv_at hl 5 rfl) ?_
      refine gfX4_73 C hP ha2 dX4_tilt_88 ?_
      refine lv_iload hx hb dX4_tilt_91 (lv_at hl 8 rfl) ?_
      refine rs_iald C hP (xIA_e2 ha2) dX4_tilt_93 h (fun v9 h => ?_)
      refine lv_isub hx hb dX4_tilt_94 ?_
      refine lv_imul hx hb dX4_tilt_95 ?_
      refine lv_iload hx hb dX4_tilt_96 (lv_at hl 0 rfl) ?_
      refine lv_aload_n hx hb dX4_tilt_98 rfl (lv_at hl 4 rfl) ?_
      refine gfX4_73 C hP ha1 dX4_tilt_99 ?_
      refine lv_iload hx hb dX4_tilt_102 (lv_at hl 7 rfl) ?_
      refine rs_iald C hP (xIA_e2 ha1) dX4_tilt_104 h (fun v10 h => ?_)
      refine lv_aload_n hx hb dX4_tilt_105 rfl (lv_at hl 4 rfl) ?_
      refine gfX4_73 C hP ha1 dX4_tilt_106 ?_
      refine lv_iload_n hx hb dX4_tilt_109 rfl (lv_at hl 6 rfl) ?_
      refine rs_iald C hP (xIA_e2 ha1) dX4_tilt_110 h (fun v11 h => ?_)
      refine lv_isub hx hb dX4_tilt_111 ?_
      refine lv_imul hx hb dX4_tilt_112 ?_
      refine lv_isub hx hb dX4_tilt_113 ?_
      refine lv_imul hx hb dX4_tilt_114 ?_
      refine pfX4_29 C hP hS dX4_tilt_115 h (fun M12 h H locs hP hS => ?_)
      refine lv_aload_n hx hb dX4_tilt_118 rfl (lv_at hl 3 rfl) ?_
      refine lv_iload hx hb dX4_tilt_119 (lv_at hl 2 rfl) ?_
      refine lv_iload hx hb dX4_tilt_121 (lv_at hl 0 rfl) ?_
      refine lv_aload_n hx hb dX4_tilt_123 rfl (lv_at hl 4 rfl) ?_
      refine gfX4_76 C hP ha1 dX4_tilt_124 ?_
      refine lv_iload hx hb dX4_tilt_127 (lv_at hl 7 rfl) ?_
      refine rs_iald C hP (xIA_e1 ha1) dX4_tilt_129 h (fun v13 h => ?_)
      refine lv_aload_n hx hb dX4_tilt_130 rfl (lv_at hl 4 rfl) ?_
      refine gfX4_76 C hP ha1 dX4_tilt_131 ?_
      refine lv_iload_n hx hb dX4_tilt_134 rfl (lv_at hl 6 rfl) ?_
      refine rs_iald C hP (xIA_e1 ha1) dX4_tilt_135 h (fun v14 h => ?_)
      refine lv_isub hx hb dX4_tilt_136 ?_
      refine lv_imul hx hb dX4_tilt_137 ?_
      refine lv_iload hx hb dX4_tilt_138 (lv_at hl 1 rfl) ?_
      refine lv_aload_n hx hb dX4_tilt_140 rfl (lv_at hl 5 rfl) ?_
      refine gfX4_76 C hP ha2 dX4_tilt_141 ?_
      refine lv_iload hx hb dX4_tilt_144 (lv_at hl 9 rfl) ?_
      refine rs_iald C hP (xIA_e1 ha2) dX4_tilt_146 h (fun v15 h => ?_)
      refine lv_aload_n hx hb dX4_tilt_147 rfl (lv_at hl 5 rfl) ?_
      refine gfX4_76 C hP ha2 dX4_tilt_148 ?_
      refine lv_iload hx hb dX4_tilt_151 (lv_at hl 8 rfl) ?_
      refine rs_iald C hP (xIA_e1 ha2) dX4_tilt_153 h (fun v16 h => ?_)
      refine lv_isub hx hb dX4_tilt_154 ?_
      refine lv_imul hx hb dX4_tilt_155 ?_
      refine lv_isub hx hb dX4_tilt_156 ?_
      refine lv_imul hx hb dX4_tilt_157 ?_
      refine pfX4_32 C hP hS dX4_tilt_158 h (fun M17 h H locs hP hS => ?_)
      refine lv_iconst (v := (1 : Int32)) hx hb dX4_tilt_161 (by decide) ?_
      obtain ⟨rfl, hz⟩ := rs_okZM h
      exact hret H locs _ ls hz hP hS dX4_tilt_162
    replace h := h1
    clear h1
    refine lv_if_ge (tgt := 30) hx hb dX4_tilt_23 (by decide) (fun cd => ?_) (fun cd => ?_)
    · have h := (if_pos cd).symm.trans h
      refine lv_iconst (v := (1 : Int32)) hx hb dX4_tilt_30 (by decide) ?_
      cases h
      exact hJ18 H locs ls hP hS (lv_sub hl [1, 2, 3, 4, 5, 6, 7, 0] rfl)
    · have h := (if_neg cd).symm.trans h
      refine lv_iconst (v := (-1 : Int32)) hx hb dX4_tilt_26 (by decide) ?_
      refine lv_goto (tgt := 31) hx hb dX4_tilt_27 (by decide) ?_
      cases h
      exact hJ18 H locs ls hP hS (lv_sub hl [1, 2, 3, 4, 5, 6, 7, 0] rfl)
  · have h := (if_pos cd).symm.trans h
    refine lv_iconst (v := (0 : Int32)) hx hb dX4_tilt_19 (by decide) ?_
    obtain ⟨rfl, hz⟩ := rs_okZM h
    exact hret H locs _ ls hz hP hS dX4_tilt_20
abbrev rX4_levelOf : Room := { frames := 0, cells := 0, slots := 0, locals := 0 }
theorem dX4_levelOf_0 : decode cX4_levelOf 0 = .ok (.aload_n 0, 1) := by decide +kernel
theorem dX4_levelOf_1 : decode cX4_levelOf 1 = .ok (.getfield 26, 3) := by decide +kernel
theorem dX4_levelOf_4 : decode cX4_levelOf 4 = .ok (.aload_n 1, 1) := by decide +kernel
theorem dX4_levelOf_5 : decode cX4_levelOf 5 = .ok (.getfield 70, 3) := by decide +kernel
theorem dX4_levelOf_8 : decode cX4_levelOf 8 = .ok (.iload_n 2, 1) := by decide +kernel
theorem dX4_levelOf_9 : decode cX4_levelOf 9 = .ok (.iaload, 1) := by decide +kernel
theorem dX4_levelOf_10 : decode cX4_levelOf 10 = .ok (.imul, 1) := by decide +kernel
theorem dX4_levelOf_11 : decode cX4_levelOf 11 = .ok (.aload_n 0, 1) := by decide +kernel
theorem dX4_levelOf_12 : decode cX4_levelOf 12 = .ok (.getfield 29, 3) := by decide +kernel
theorem dX4_levelOf_15 : decode cX4_levelOf 15 = .ok (.aload_n 1, 1) := by decide +kernel
theorem dX4_levelOf_16 : decode cX4_levelOf 16 = .ok (.getfield 76, 3) := by decide +kernel
theorem dX4_levelOf_19 : decode cX4_levelOf 19 = .ok (.iload_n 2, 1) := by decide +kernel
theorem dX4_levelOf_20 : decode cX4_levelOf 20 = .ok (.iaload, 1) := by decide +kernel
theorem dX4_levelOf_21 : decode cX4_levelOf 21 = .ok (.imul, 1) := by decide +kernel
theorem dX4_levelOf_22 : decode cX4_levelOf 22 = .ok (.iadd, 1) := by decide +kernel
theorem dX4_levelOf_23 : decode cX4_levelOf 23 = .ok (.aload_n 0, 1) := by decide +kernel
theorem dX4_levelOf_24 : decode cX4_levelOf 24 = .ok (.getfield 32, 3) := by decide +kernel
theorem dX4_levelOf_27 : decode cX4_levelOf 27 = .ok (.aload_n 1, 1) := by decide +kernel
theorem dX4_levelOf_28 : decode cX4_levelOf 28 = .ok (.getfield 73, 3) := by decide +kernel
theorem dX4_levelOf_31 : decode cX4_levelOf 31 = .ok (.iload_n 2, 1) := by decide +kernel
theorem dX4_levelOf_32 : decode cX4_levelOf 32 = .ok (.iaload, 1) := by decide +kernel
theorem dX4_levelOf_33 : decode cX4_levelOf 33 = .ok (.imul, 1) := by decide +kernel
theorem dX4_levelOf_34 : decode cX4_levelOf 34 = .ok (.iadd, 1) := by decide +kernel
theorem dX4_levelOf_35 : decode cX4_levelOf 35 = .ok (.ireturn, 1) := by decide +kernel
set_option maxRecDepth 100000 in
set_option maxHeartbeats 4000000 in
theorem kX4_levelOf (l : Launch) (D : va_G) (ad : Nat → Nat) (cI cJ : ClassId) (tP tR : Nat) (M : Mem) (a1 : Nat) (a2 : Int32) (ha1 : a1 = 1 ∨ a1 = 6) (o : Int32) (h : fX4_levelOf M a1 a2 = some o) : qMet l D cI cJ tP tR (xA ad) (xW ad cI cJ) yX4_levelOf cX4_levelOf 3 (some .int) rX4_levelOf [.ref (ad 16), .ref (ad a1), .int a2] M (qQi D (xA ad) (xW ad cI cJ) o M) := by
  refine rs_enterI (own := RX4) ⟨by decide +kernel, rfl, Nat.le_of_ble_eq_true rfl⟩ ?_
  intro p e s m args below meth c Q C hret H locs ls hP hS hl
  obtain ⟨hx, hb, -⟩ := id C
  have hl : lv_has ls 3 [(0, .ref (ad 16)), (1, .ref (ad a1)), (2, .int a2)] := hl
  unfold fX4_levelOf at h
  refine lv_aload_n hx hb dX4_levelOf_0 rfl (lv_at hl 0 rfl) ?_
  refine gfX4_26 C hP dX4_levelOf_1 ?_
  refine lv_aload_n hx hb dX4_levelOf_4 rfl (lv_at hl 1 rfl) ?_
  refine gfX4_70 C hP ha1 dX4_levelOf_5 ?_
  refine lv_iload_n hx hb dX4_levelOf_8 rfl (lv_at hl 2 rfl) ?_
  refine rs_iald C hP (xIA_e4 ha1) dX4_levelOf_9 h (fun v1 h => ?_)
  refine lv_imul hx hb dX4_levelOf_10 ?_
  refine lv_aload_n hx hb dX4_levelOf_11 rfl (lv_at hl 0 rfl) ?_
  refine gfX4_29 C hP dX4_levelOf_12 ?_
  refine lv_aload_n hx hb dX4_levelOf_15 rfl (lv_at hl 1 rfl) ?_
  refine gfX4_76 C hP ha1 dX4_levelOf_16 ?_
  refine lv_iload_n hx hb dX4_levelOf_19 rfl (lv_at hl 2 rfl) ?_
  refine rs_iald C hP (xIA_e1 ha1) dX4_levelOf_20 h (fun v2 h => ?_)
  refine lv_imul hx hb dX4_levelOf_21 ?_
  refine lv_iadd hx hb dX4_levelOf_22 ?_
  refine lv_aload_n hx hb dX4_levelOf_23 rfl (lv_at hl 0 rfl) ?_
  refine gfX4_32 C hP dX4_levelOf_24 ?_
  refine lv_aload_n hx hb dX4_levelOf_27 rfl (lv_at hl 1 rfl) ?_
  refine gfX4_73 C hP ha1 dX4_levelOf_28 ?_
  refine lv_iload_n hx hb dX4_levelOf_31 rfl (lv_at hl 2 rfl) ?_
  refine rs_iald C hP (xIA_e2 ha1) dX4_levelOf_32 h (fun v3 h => ?_)
  refine lv_imul hx hb dX4_levelOf_33 ?_
  refine lv_iadd hx hb dX4_levelOf_34 ?_
  cases h
  exact hret H locs _ ls hP hS dX4_levelOf_35
abbrev rX4_alikeLowest : Room := { frames := 1, cells := 0, slots := 0, locals := 22 }
theorem dX4_alikeLowest_0 : decode cX4_alikeLowest 0 = .ok (.aload_n 0, 1) := by decide +kernel
theorem dX4_alikeLowest_1 : decode cX4_alikeLowest 1 = .ok (.aload_n 1, 1) := by decide +kernel
theorem dX4_alikeLowest_2 : decode cX4_alikeLowest 2 = .ok (.iload_n 2, 1) := by decide +kernel
theorem dX4_alikeLowest_3 : decode cX4_alikeLowest 3 = .ok (.invokevirtual 79, 3) := by decide +kernel
theorem dX4_alikeLowest_6 : decode cX4_alikeLowest 6 = .ok (.istore_n 3, 1) := by decide +kernel
theorem dX4_alikeLowest_7 : decode cX4_alikeLowest 7 = .ok (.iconst 0, 1) := by decide +kernel
theorem dX4_alikeLowest_8 : decode cX4_alikeLowest 8 = .ok (.istore 4, 2) := by decide +kernel
theorem dX4_alikeLowest_10 : decode cX4_alikeLowest 10 = .ok (.iconst 0, 1) := by decide +kernel
theorem dX4_alikeLowest_11 : decode cX4_alikeLowest 11 = .ok (.istore 5, 2) := by decide +kernel
theorem dX4_alikeLowest_13 : decode cX4_alikeLowest 13 = .ok (.iload 5, 2) := by decide +kernel
theorem dX4_alikeLowest_15 : decode cX4_alikeLowest 15 = .ok (.aload_n 1, 1) := by decide +kernel
theorem dX4_alikeLowest_16 : decode cX4_alikeLowest 16 = .ok (.getfield 35, 3) := by decide +kernel
theorem dX4_alikeLowest_19 : decode cX4_alikeLowest 19 = .ok (.if_icmp .ge 35, 3) := by decide +kernel
theorem dX4_alikeLowest_22 : decode cX4_alikeLowest 22 = .ok (.aload_n 0, 1) := by decide +kernel
theorem dX4_alikeLowest_23 : decode cX4_alikeLowest 23 = .ok (.aload_n 1, 1) := by decide +kernel
theorem dX4_alikeLowest_24 : decode cX4_alikeLowest 24 = .ok (.iload 5, 2) := by decide +kernel
theorem dX4_alikeLowest_26 : decode cX4_alikeLowest 26 = .ok (.invokevirtual 79, 3) := by decide +kernel
theorem dX4_alikeLowest_29 : decode cX4_alikeLowest 29 = .ok (.istore 6, 2) := by decide +kernel
theorem dX4_alikeLowest_31 : decode cX4_alikeLowest 31 = .ok (.iload 6, 2) := by decide +kernel
theorem dX4_alikeLowest_33 : decode cX4_alikeLowest 33 = .ok (.iload_n 3, 1) := by decide +kernel
theorem dX4_alikeLowest_34 : decode cX4_alikeLowest 34 = .ok (.if_icmp .ge 5, 3) := by decide +kernel
theorem dX4_alikeLowest_37 : decode cX4_alikeLowest 37 = .ok (.iconst 0, 1) := by decide +kernel
theorem dX4_alikeLowest_38 : decode cX4_alikeLowest 38 = .ok (.ireturn, 1) := by decide +kernel
theorem dX4_alikeLowest_39 : decode cX4_alikeLowest 39 = .ok (.iload 6, 2) := by decide +kernel
theorem dX4_alikeLowest_41 : decode cX4_alikeLowest 41 = .ok (.iload_n 3, 1) := by decide +kernel
theorem dX4_alikeLowest_42 : decode cX4_alikeLowest 42 = .ok (.if_icmp .ne 6, 3) := by decide +kernel
theorem dX4_alikeLowest_45 : decode cX4_alikeLowest 45 = .ok (.iinc 4 1, 3) := by decide +kernel
theorem dX4_alikeLowest_48 : decode cX4_alikeLowest 48 = .ok (.iinc 5 1, 3) := by decide +kernel
theorem dX4_alikeLowest_51 : decode cX4_alikeLowest 51 = .ok (.goto (-38), 3) := by decide +kernel
theorem dX4_alikeLowest_54 : decode cX4_alikeLowest 54 = .ok (.iload 4, 2) := by decide +kernel
theorem dX4_alikeLowest_56 : decode cX4_alikeLowest 56 = .ok (.ireturn, 1) := by decide +kernel
set_option maxRecDepth 100000 in
set_option maxHeartbeats 4000000 in
theorem kX4_alikeLowest (l : Launch) (D : va_G) (ad : Nat → Nat) (cI cJ : ClassId) (tP tR : Nat) (N : Nat) (M : Mem) (a1 : Nat) (a2 : Int32) (ha1 : a1 = 1 ∨ a1 = 6) (o : Int32) (h : fX4_alikeLowest N M a1 a2 = some o) : qMet l D cI cJ tP tR (xA ad) (xW ad cI cJ) yX4_alikeLowest cX4_alikeLowest 7 (some .int) rX4_alikeLowest [.ref (ad 16), .ref (ad a1), .int a2] M (qQi D (xA ad) (xW ad cI cJ) o M) := by
  refine rs_enterI (own := RX4) ⟨by decide +kernel, rfl, Nat.le_of_ble_eq_true rfl⟩ ?_
  intro p e s m args below meth c Q C hret H locs ls hP hS hl
  obtain ⟨hx, hb, -⟩ := id C
  have hl : lv_has ls 7 [(0, .ref (ad 16)), (1, .ref (ad a1)), (2, .int a2)] := hl
  unfold fX4_alikeLowest at h
  refine lv_aload_n hx hb dX4_alikeLowest_0 rfl (lv_at hl 0 rfl) ?_
  refine lv_aload_n hx hb dX4_alikeLowest_1 rfl (lv_at hl 1 rfl) ?_
  refine lv_iload_n hx hb dX4_alikeLowest_2 rfl (lv_at hl 2 rfl) ?_
  obtain ⟨v1, h1, h⟩ := rs_bind h
  refine rs_goI (rs_runV (b := 16) (As := [.ref (ad a1), .int a2]) (rest := []) C hP hS (kX4_levelOf l D ad cI cJ tP tR M a1 a2 ha1 _ h1) mk_X4_levelOf wd_378 (xR_16) rfl ⟨rfl, rfl, Nat.le_of_ble_eq_true rfl, Nat.le_of_ble_eq_true rfl⟩ rfl hl.1 (Nat.le_of_ble_eq_true rfl) dX4_alikeLowest_3) hS (fun H locs hP hS => ?_)
  refine lv_istore_n (lv' := [(3, .int v1), (0, .ref (ad 16)), (1, .ref (ad a1)), (2, .int a2)]) hx hb dX4_alikeLowest_6 rfl hl (by decide) rfl (fun ls hl => ?_)
  refine lv_iconst (v := (0 : Int32)) hx hb dX4_alikeLowest_7 (by decide) ?_
  refine lv_istore (lv' := [(4, .int (0 : Int32)), (3, .int v1), (0, .ref (ad 16)), (1, .ref (ad a1)), (2, .int a2)]) hx hb dX4_alikeLowest_8 hl (by decide) rfl (fun ls hl => ?_)
  refine lv_iconst (v := (0 : Int32)) hx hb dX4_alikeLowest_10 (by decide) ?_
  refine lv_istore (lv' := [(5, .int (0 : Int32)), (4, .int (0 : Int32)), (3, .int v1), (0, .ref (ad 16)), (1, .ref (ad a1)), (2, .int a2)]) hx hb dX4_alikeLowest_11 hl (by decide) rfl (fun ls hl => ?_)
  have hL13 : ∀ (n13 : Nat) (v2 : Int32) (v3 : Int32) (H : Heap) (locs : List Loc) (ls : Array Slot), va_P D vwCl (xW ad cI cJ M) H → va_S (xA ad) s.heap H locs → lv_has ls 7 [(0, .ref (ad 16)), (1, .ref (ad a1)), (3, .int v1), (4, .int v2), (5, .int v3)] → lp (fun _ _ => none) (sX4_alikeLowest_13 M a1 v1) n13 v2 v3 = some o → W p l e rX4_alikeLowest s m args below meth c H locs 0 0 Q (F0 m 13 ls []) := by
    intro n13
    induction n13 with
    | zero => intro v2 v3 H locs ls hP hS hl h; have h : (none : Option Int32) = some o := h; cases h
    | succ n13 ih13 =>
      intro v2 v3 H locs ls hP hS hl h
      have h : sX4_alikeLowest_13 M a1 v1 (lp (fun _ _ => none) (sX4_alikeLowest_13 M a1 v1) n13) v2 v3 = some o := h
      generalize lp (fun _ _ => none) (sX4_alikeLowest_13 M a1 v1) n13 = cont13 at h ih13
      unfold sX4_alikeLowest_13 at h
      refine lv_iload hx hb dX4_alikeLowest_13 (lv_at hl 4 rfl) ?_
      refine lv_aload_n hx hb dX4_alikeLowest_15 rfl (lv_at hl 1 rfl) ?_
      refine gfX4_35 C hP ha1 dX4_alikeLowest_16 ?_
      refine lv_icmp_ge (tgt := 54) hx hb dX4_alikeLowest_19 (by decide) (fun cd => ?_) (fun cd => ?_)
      · have h := (if_pos cd).symm.trans h
        refine lv_iload hx hb dX4_alikeLowest_54 (lv_at hl 3 rfl) ?_
        cases h
        exact hret H locs _ ls hP hS dX4_alikeLowest_56
      · have h := (if_neg cd).symm.trans h
        refine lv_aload_n hx hb dX4_alikeLowest_22 rfl (lv_at hl 0 rfl) ?_
        refine lv_aload_n hx hb dX4_alikeLowest_23 rfl (lv_at hl 1 rfl) ?_
        refine lv_iload hx hb dX4_alikeLowest_24 (lv_at hl 4 rfl) ?_
        obtain ⟨v4, h1, h⟩ := rs_bind h
        refine rs_goI (rs_runV (b := 16) (As := [.ref (ad a1), .int v3]) (rest := []) C hP hS (kX4_levelOf l D ad cI cJ tP tR M a1 v3 ha1 _ h1) mk_X4_levelOf wd_378 (xR_16) rfl ⟨rfl, rfl, Nat.le_of_ble_eq_true rfl, Nat.le_of_ble_eq_true rfl⟩ rfl hl.1 (Nat.le_of_ble_eq_true rfl) dX4_alikeLowest_26) hS (fun H locs hP hS => ?_)
        refine lv_istore (lv' := [(6, .int v4), (0, .ref (ad 16)), (1, .ref (ad a1)), (3, .int v1), (4, .int v2), (5, .int v3)]) hx hb dX4_alikeLowest_29 hl (by decide) rfl (fun ls hl => ?_)
        refine lv_iload hx hb dX4_alikeLowest_31 (lv_at hl 0 rfl) ?_
        refine lv_iload_n hx hb dX4_alikeLowest_33 rfl (lv_at hl 3 rfl) ?_
        refine lv_icmp_ge (tgt := 39) hx hb dX4_alikeLowest_34 (by decide) (fun cd => ?_) (fun cd => ?_)
        · have h := (if_pos cd).symm.trans h
          refine lv_iload hx hb dX4_alikeLowest_39 (lv_at hl 0 rfl) ?_
          refine lv_iload_n hx hb dX4_alikeLowest_41 rfl (lv_at hl 3 rfl) ?_
          obtain ⟨v5, h1, h⟩ := rs_bind h
          have hJ6 : ∀ (H : Heap) (locs : List Loc) (ls : Array Slot), va_P D vwCl (xW ad cI cJ M) H → va_S (xA ad) s.heap H locs → lv_has ls 7 [(0, .ref (ad 16)), (1, .ref (ad a1)), (3, .int v1), (4, .int v5), (5, .int v3)] → W p l e rX4_alikeLowest s m args below meth c H locs 0 0 Q (F0 m 48 ls []) := by
            intro H locs ls hP hS hl
            refine lv_iinc (v := (v3 + 1)) (lv' := [(5, .int (v3 + 1)), (0, .ref (ad 16)), (1, .ref (ad a1)), (3, .int v1), (4, .int v5)]) hx hb dX4_alikeLowest_48 hl (k := 4) rfl rfl (by decide) rfl (fun ls hl => ?_)
            refine lv_goto (tgt := 13) hx hb dX4_alikeLowest_51 (by decide) ?_
            exact ih13 _ _ H locs ls hP hS (lv_sub hl [1, 2, 3, 4, 0] rfl) h
          replace h := h1
          clear h1
          refine lv_icmp_ne (tgt := 48) hx hb dX4_alikeLowest_42 (by decide) (fun cd => ?_) (fun cd => ?_)
          · have h := (if_neg cd).symm.trans h
            cases h
            exact hJ6 H locs ls hP hS (lv_sub hl [1, 2, 3, 4, 5] rfl)
          · have h := (if_pos cd).symm.trans h
            refine lv_iinc (v := (v2 + 1)) (lv' := [(4, .int (v2 + 1)), (6, .int v4), (0, .ref (ad 16)), (1, .ref (ad a1)), (3, .int v1), (5, .int v3)]) hx hb dX4_alikeLowest_45 hl (k := 4) rfl rfl (by decide) rfl (fun ls hl => ?_)
            cases h
            exact hJ6 H locs ls hP hS (lv_sub hl [2, 3, 4, 0, 5] rfl)
        · have h := (if_neg cd).symm.trans h
          refine lv_iconst (v := (0 : Int32)) hx hb dX4_alikeLowest_37 (by decide) ?_
          cases h
          exact hret H locs _ ls hP hS dX4_alikeLowest_38
  exact hL13 N _ _ H locs ls hP hS (lv_sub hl [3, 4, 2, 1, 0] rfl) h
abbrev rX4_noteIfLowest : Room := { frames := 0, cells := 0, slots := 0, locals := 0 }
theorem dX4_noteIfLowest_0 : decode cX4_noteIfLowest 0 = .ok (.iload_n 1, 1) := by decide +kernel
theorem dX4_noteIfLowest_1 : decode cX4_noteIfLowest 1 = .ok (.ifCond .eq 19, 3) := by decide +kernel
theorem dX4_noteIfLowest_4 : decode cX4_noteIfLowest 4 = .ok (.iload_n 2, 1) := by decide +kernel
theorem dX4_noteIfLowest_5 : decode cX4_noteIfLowest 5 = .ok (.ifCond .eq 15, 3) := by decide +kernel
theorem dX4_noteIfLowest_8 : decode cX4_noteIfLowest 8 = .ok (.aload_n 0, 1) := by decide +kernel
theorem dX4_noteIfLowest_9 : decode cX4_noteIfLowest 9 = .ok (.getfield 9, 3) := by decide +kernel
theorem dX4_noteIfLowest_12 : decode cX4_noteIfLowest 12 = .ok (.aload_n 0, 1) := by decide +kernel
theorem dX4_noteIfLowest_13 : decode cX4_noteIfLowest 13 = .ok (.getfield 22, 3) := by decide +kernel
theorem dX4_noteIfLowest_16 : decode cX4_noteIfLowest 16 = .ok (.arraylength, 1) := by decide +kernel
theorem dX4_noteIfLowest_17 : decode cX4_noteIfLowest 17 = .ok (.if_icmp .lt 4, 3) := by decide +kernel
theorem dX4_noteIfLowest_20 : decode cX4_noteIfLowest 20 = .ok (.return_, 1) := by decide +kernel
theorem dX4_noteIfLowest_21 : decode cX4_noteIfLowest 21 = .ok (.aload_n 0, 1) := by decide +kernel
theorem dX4_noteIfLowest_22 : decode cX4_noteIfLowest 22 = .ok (.getfield 22, 3) := by decide +kernel
theorem dX4_noteIfLowest_25 : decode cX4_noteIfLowest 25 = .ok (.aload_n 0, 1) := by decide +kernel
theorem dX4_noteIfLowest_26 : decode cX4_noteIfLowest 26 = .ok (.getfield 9, 3) := by decide +kernel
theorem dX4_noteIfLowest_29 : decode cX4_noteIfLowest 29 = .ok (.iload_n 3, 1) := by decide +kernel
theorem dX4_noteIfLowest_30 : decode cX4_noteIfLowest 30 = .ok (.iastore, 1) := by decide +kernel
theorem dX4_noteIfLowest_31 : decode cX4_noteIfLowest 31 = .ok (.aload_n 0, 1) := by decide +kernel
theorem dX4_noteIfLowest_32 : decode cX4_noteIfLowest 32 = .ok (.dup, 1) := by decide +kernel
theorem dX4_noteIfLowest_33 : decode cX4_noteIfLowest 33 = .ok (.getfield 9, 3) := by decide +kernel
theorem dX4_noteIfLowest_36 : decode cX4_noteIfLowest 36 = .ok (.iconst 1, 1) := by decide +kernel
theorem dX4_noteIfLowest_37 : decode cX4_noteIfLowest 37 = .ok (.iadd, 1) := by decide +kernel
theorem dX4_noteIfLowest_38 : decode cX4_noteIfLowest 38 = .ok (.putfield 9, 3) := by decide +kernel
theorem dX4_noteIfLowest_41 : decode cX4_noteIfLowest 41 = .ok (.iload_n 1, 1) := by decide +kernel
theorem dX4_noteIfLowest_42 : decode cX4_noteIfLowest 42 = .ok (.iconst 2, 1) := by decide +kernel
theorem dX4_noteIfLowest_43 : decode cX4_noteIfLowest 43 = .ok (.if_icmp .gt 8, 3) := by decide +kernel
theorem dX4_noteIfLowest_46 : decode cX4_noteIfLowest 46 = .ok (.iload_n 2, 1) := by decide +kernel
theorem dX4_noteIfLowest_47 : decode cX4_noteIfLowest 47 = .ok (.iconst 2, 1) := by decide +kernel
theorem dX4_noteIfLowest_48 : decode cX4_noteIfLowest 48 = .ok (.if_icmp .le 8, 3) := by decide +kernel
theorem dX4_noteIfLowest_51 : decode cX4_noteIfLowest 51 = .ok (.aload_n 0, 1) := by decide +kernel
theorem dX4_noteIfLowest_52 : decode cX4_noteIfLowest 52 = .ok (.iconst 1, 1) := by decide +kernel
theorem dX4_noteIfLowest_53 : decode cX4_noteIfLowest 53 = .ok (.putfield 15, 3) := by decide +kernel
theorem dX4_noteIfLowest_56 : decode cX4_noteIfLowest 56 = .ok (.return_, 1) := by decide +kernel
set_option maxRecDepth 100000 in
set_option maxHeartbeats 4000000 in
theorem kX4_noteIfLowest (l : Launch) (D : va_G) (ad : Nat → Nat) (cI cJ : ClassId) (tP tR : Nat) (M : Mem) (a1 : Int32) (a2 : Int32) (a3 : Int32)  (o : Mem) (h : fX4_noteIfLowest M a1 a2 a3 = some o) : qMet l D cI cJ tP tR (xA ad) (xW ad cI cJ) yX4_noteIfLowest cX4_noteIfLowest 4 none rX4_noteIfLowest [.ref (ad 16), .int a1, .int a2, .int a3] M (qQv D (xA ad) (xW ad cI cJ) o) := by
  refine rs_enterV (own := RX4) ⟨by decide +kernel, rfl, Nat.le_of_ble_eq_true rfl⟩ ?_
  intro p e s m args below meth c Q C hret H locs ls hP hS hl
  obtain ⟨hx, hb, -⟩ := id C
  have hl : lv_has ls 4 [(0, .ref (ad 16)), (1, .int a1), (2, .int a2), (3, .int a3)] := hl
  unfold fX4_noteIfLowest at h
  refine lv_iload_n hx hb dX4_noteIfLowest_0 rfl (lv_at hl 1 rfl) ?_
  refine lv_if_eq (tgt := 20) hx hb dX4_noteIfLowest_1 (by decide) (fun cd => ?_) (fun cd => ?_)
  · have h := (if_pos cd).symm.trans h
    cases h
    exact hret H locs _ ls hP hS dX4_noteIfLowest_20
  · have h := (if_neg cd).symm.trans h
    refine lv_iload_n hx hb dX4_noteIfLowest_4 rfl (lv_at hl 2 rfl) ?_
    refine lv_if_eq (tgt := 20) hx hb dX4_noteIfLowest_5 (by decide) (fun cd => ?_) (fun cd => ?_)
    · have h := (if_pos cd).symm.trans h
      cases h
      exact hret H locs _ ls hP hS dX4_noteIfLowest_20
    · have h := (if_neg cd).symm.trans h
      refine lv_aload_n hx hb dX4_noteIfLowest_8 rfl (lv_at hl 0 rfl) ?_
      refine gfX4_9 C hP dX4_noteIfLowest_9 ?_
      refine lv_aload_n hx hb dX4_noteIfLowest_12 rfl (lv_at hl 0 rfl) ?_
      refine gfX4_22 C hP dX4_noteIfLowest_13 ?_
      refine rs_alenI (v := (784 : Int32)) C hP xIA_17 rfl dX4_noteIfLowest_16 ?_
      refine lv_icmp_lt (tgt := 21) hx hb dX4_noteIfLowest_17 (by decide) (fun cd => ?_) (fun cd => ?_)
      · have h := (if_pos cd).symm.trans h
        refine lv_aload_n hx hb dX4_noteIfLowest_21 rfl (lv_at hl 0 rfl) ?_
        refine gfX4_22 C hP dX4_noteIfLowest_22 ?_
        refine lv_aload_n hx hb dX4_noteIfLowest_25 rfl (lv_at hl 0 rfl) ?_
        refine gfX4_9 C hP dX4_noteIfLowest_26 ?_
        refine lv_iload_n hx hb dX4_noteIfLowest_29 rfl (lv_at hl 3 rfl) ?_
        refine rs_iast C hP hS xIA_17 dX4_noteIfLowest_30 h (fun M1 h H locs hP hS => ?_)
        refine lv_aload_n hx hb dX4_noteIfLowest_31 rfl (lv_at hl 0 rfl) ?_
        refine lv_dup hx hb dX4_noteIfLowest_32 rfl ?_
        refine gfX4_9 C hP dX4_noteIfLowest_33 ?_
        refine lv_iconst (v := (1 : Int32)) hx hb dX4_noteIfLowest_36 (by decide) ?_
        refine lv_iadd hx hb dX4_noteIfLowest_37 ?_
        refine pfX4_9 C hP hS dX4_noteIfLowest_38 h (fun M2 h H locs hP hS => ?_)
        refine lv_iload_n hx hb dX4_noteIfLowest_41 rfl (lv_at hl 1 rfl) ?_
        refine lv_iconst (v := (2 : Int32)) hx hb dX4_noteIfLowest_42 (by decide) ?_
        refine lv_icmp_gt (tgt := 51) hx hb dX4_noteIfLowest_43 (by decide) (fun cd => ?_) (fun cd => ?_)
        · have h := (if_pos cd).symm.trans h
          refine lv_aload_n hx hb dX4_noteIfLowest_51 rfl (lv_at hl 0 rfl) ?_
          refine lv_iconst (v := (1 : Int32)) hx hb dX4_noteIfLowest_52 (by decide) ?_
          refine pfX4_15 C hP hS dX4_noteIfLowest_53 h (fun M3 h H locs hP hS => ?_)
          cases h
          exact hret H locs _ ls hP hS dX4_noteIfLowest_56
        · have h := (if_neg cd).symm.trans h
          refine lv_iload_n hx hb dX4_noteIfLowest_46 rfl (lv_at hl 2 rfl) ?_
          refine lv_iconst (v := (2 : Int32)) hx hb dX4_noteIfLowest_47 (by decide) ?_
          refine lv_icmp_le (tgt := 56) hx hb dX4_noteIfLowest_48 (by decide) (fun cd => ?_) (fun cd => ?_)
          · have h := (if_pos cd).symm.trans h
            cases h
            exact hret H locs _ ls hP hS dX4_noteIfLowest_56
          · have h := (if_neg cd).symm.trans h
            refine lv_aload_n hx hb dX4_noteIfLowest_51 rfl (lv_at hl 0 rfl) ?_
            refine lv_iconst (v := (1 : Int32)) hx hb dX4_noteIfLowest_52 (by decide) ?_
            refine pfX4_15 C hP hS dX4_noteIfLowest_53 h (fun M4 h H locs hP hS => ?_)
            cases h
            exact hret H locs _ ls hP hS dX4_noteIfLowest_56
      · have h := (if_neg cd).symm.trans h
        cases h
        exact hret H locs _ ls hP hS dX4_noteIfLowest_20
abbrev rX4_findWith : Room := { frames := 2, cells := 0, slots := 0, locals := 55 }
theorem dX4_findWith_0 : decode cX4_findWith 0 = .ok (.iconst 0, 1) := by decide +kernel
theorem dX4_findWith_1 : decode cX4_findWith 1 = .ok (.istore 5, 2) := by decide +kernel
theorem dX4_findWith_3 : decode cX4_findWith 3 = .ok (.iload 5, 2) := by decide +kernel
theorem dX4_findWith_5 : decode cX4_findWith 5 = .ok (.aload_n 2, 1) := by decide +kernel
theorem dX4_findWith_6 : decode cX4_findWith 6 = .ok (.getfield 35, 3) := by decide +kernel
theorem dX4_findWith_9 : decode cX4_findWith 9 = .ok (.if_icmp .ge 81, 3) := by decide +kernel
theorem dX4_findWith_12 : decode cX4_findWith 12 = .ok (.iload 5, 2) := by decide +kernel
theorem dX4_findWith_14 : decode cX4_findWith 14 = .ok (.iconst 1, 1) := by decide +kernel
theorem dX4_findWith_15 : decode cX4_findWith 15 = .ok (.iadd, 1) := by decide +kernel
theorem dX4_findWith_16 : decode cX4_findWith 16 = .ok (.istore 6, 2) := by decide +kernel
theorem dX4_findWith_18 : decode cX4_findWith 18 = .ok (.iload 6, 2) := by decide +kernel
theorem dX4_findWith_20 : decode cX4_findWith 20 = .ok (.aload_n 2, 1) := by decide +kernel
theorem dX4_findWith_21 : decode cX4_findWith 21 = .ok (.getfield 35, 3) := by decide +kernel
theorem dX4_findWith_24 : decode cX4_findWith 24 = .ok (.if_icmp .ge 60, 3) := by decide +kernel
theorem dX4_findWith_27 : decode cX4_findWith 27 = .ok (.aload_n 0, 1) := by decide +kernel
theorem dX4_findWith_28 : decode cX4_findWith 28 = .ok (.aload_n 1, 1) := by decide +kernel
theorem dX4_findWith_29 : decode cX4_findWith 29 = .ok (.aload_n 2, 1) := by decide +kernel
theorem dX4_findWith_30 : decode cX4_findWith 30 = .ok (.iload_n 3, 1) := by decide +kernel
theorem dX4_findWith_31 : decode cX4_findWith 31 = .ok (.iload 4, 2) := by decide +kernel
theorem dX4_findWith_33 : decode cX4_findWith 33 = .ok (.iload 5, 2) := by decide +kernel
theorem dX4_findWith_35 : decode cX4_findWith 35 = .ok (.iload 6, 2) := by decide +kernel
theorem dX4_findWith_37 : decode cX4_findWith 37 = .ok (.invokevirtual 58, 3) := by decide +kernel
theorem dX4_findWith_40 : decode cX4_findWith 40 = .ok (.ifCond .eq 38, 3) := by decide +kernel
theorem dX4_findWith_43 : decode cX4_findWith 43 = .ok (.aload_n 0, 1) := by decide +kernel
theorem dX4_findWith_44 : decode cX4_findWith 44 = .ok (.aload_n 0, 1) := by decide +kernel
theorem dX4_findWith_45 : decode cX4_findWith 45 = .ok (.aload_n 1, 1) := by decide +kernel
theorem dX4_findWith_46 : decode cX4_findWith 46 = .ok (.iload_n 3, 1) := by decide +kernel
theorem dX4_findWith_47 : decode cX4_findWith 47 = .ok (.invokevirtual 62, 3) := by decide +kernel
theorem dX4_findWith_50 : decode cX4_findWith 50 = .ok (.aload_n 0, 1) := by decide +kernel
theorem dX4_findWith_51 : decode cX4_findWith 51 = .ok (.aload_n 2, 1) := by decide +kernel
theorem dX4_findWith_52 : decode cX4_findWith 52 = .ok (.iload 5, 2) := by decide +kernel
theorem dX4_findWith_54 : decode cX4_findWith 54 = .ok (.invokevirtual 62, 3) := by decide +kernel
theorem dX4_findWith_57 : decode cX4_findWith 57 = .ok (.iload_n 3, 1) := by decide +kernel
theorem dX4_findWith_58 : decode cX4_findWith 58 = .ok (.bipush 9, 2) := by decide +kernel
theorem dX4_findWith_60 : decode cX4_findWith 60 = .ok (.ishl, 1) := by decide +kernel
theorem dX4_findWith_61 : decode cX4_findWith 61 = .ok (.iload 4, 2) := by decide +kernel
theorem dX4_findWith_63 : decode cX4_findWith 63 = .ok (.bipush 6, 2) := by decide +kernel
theorem dX4_findWith_65 : decode cX4_findWith 65 = .ok (.ishl, 1) := by decide +kernel
theorem dX4_findWith_66 : decode cX4_findWith 66 = .ok (.ior, 1) := by decide +kernel
theorem dX4_findWith_67 : decode cX4_findWith 67 = .ok (.iload 5, 2) := by decide +kernel
theorem dX4_findWith_69 : decode cX4_findWith 69 = .ok (.iconst 3, 1) := by decide +kernel
theorem dX4_findWith_70 : decode cX4_findWith 70 = .ok (.ishl, 1) := by decide +kernel
theorem dX4_findWith_71 : decode cX4_findWith 71 = .ok (.ior, 1) := by decide +kernel
theorem dX4_findWith_72 : decode cX4_findWith 72 = .ok (.iload 6, 2) := by decide +kernel
theorem dX4_findWith_74 : decode cX4_findWith 74 = .ok (.ior, 1) := by decide +kernel
theorem dX4_findWith_75 : decode cX4_findWith 75 = .ok (.invokevirtual 66, 3) := by decide +kernel
theorem dX4_findWith_78 : decode cX4_findWith 78 = .ok (.iinc 6 1, 3) := by decide +kernel
theorem dX4_findWith_81 : decode cX4_findWith 81 = .ok (.goto (-63), 3) := by decide +kernel
theorem dX4_findWith_84 : decode cX4_findWith 84 = .ok (.iinc 5 1, 3) := by decide +kernel
theorem dX4_findWith_87 : decode cX4_findWith 87 = .ok (.goto (-84), 3) := by decide +kernel
theorem dX4_findWith_90 : decode cX4_findWith 90 = .ok (.return_, 1) := by decide +kernel
set_option maxRecDepth 100000 in
set_option maxHeartbeats 4000000 in
theorem kX4_findWith (l : Launch) (D : va_G) (ad : Nat → Nat) (cI cJ : ClassId) (tP tR : Nat) (N : Nat) (M : Mem) (a1 : Nat) (a2 : Nat) (a3 : Int32) (a4 : Int32) (ha1 : a1 = 1 ∨ a1 = 6) (ha2 : a2 = 1 ∨ a2 = 6) (o : Mem) (h : fX4_findWith N M a1 a2 a3 a4 = some o) : qMet l D cI cJ tP tR (xA ad) (xW ad cI cJ) yX4_findWith cX4_findWith 7 none rX4_findWith [.ref (ad 16), .ref (ad a1), .ref (ad a2), .int a3, .int a4] M (qQv D (xA ad) (xW ad cI cJ) o) := by
  refine rs_enterV (own := RX4) ⟨by decide +kernel, rfl, Nat.le_of_ble_eq_true rfl⟩ ?_
  intro p e s m args below meth c Q C hret H locs ls hP hS hl
  obtain ⟨hx, hb, -⟩ := id C
  have hl : lv_has ls 7 [(0, .ref (ad 16)), (1, .ref (ad a1)), (2, .ref (ad a2)), (3, .int a3), (4, .int a4)] := hl
  unfold fX4_findWith at h
  refine lv_iconst (v := (0 : Int32)) hx hb dX4_findWith_0 (by decide) ?_
  refine lv_istore (lv' := [(5, .int (0 : Int32)), (0, .ref (ad 16)), (1, .ref (ad a1)), (2, .ref (ad a2)), (3, .int a3), (4, .int a4)]) hx hb dX4_findWith_1 hl (by decide) rfl (fun ls hl => ?_)
  have hL3 : ∀ (n3 : Nat) (v1 : Int32) (M2 : Mem) (H : Heap) (locs : List Loc) (ls : Array Slot), va_P D vwCl (xW ad cI cJ M2) H → va_S (xA ad) s.heap H locs → lv_has ls 7 [(0, .ref (ad 16)), (1, .ref (ad a1)), (2, .ref (ad a2)), (3, .int a3), (4, .int a4), (5, .int v1)] → lp (fun _ _ => none) (sX4_findWith_3 a2 a1 a3 a4 N) n3 v1 M2 = some o → W p l e rX4_findWith s m args below meth c H locs 0 0 Q (F0 m 3 ls []) := by
    intro n3
    induction n3 with
    | zero => intro v1 M2 H locs ls hP hS hl h; have h : (none : Option Mem) = some o := h; cases h
    | succ n3 ih3 =>
      intro v1 M2 H locs ls hP hS hl h
      have h : sX4_findWith_3 a2 a1 a3 a4 N (lp (fun _ _ => none) (sX4_findWith_3 a2 a1 a3 a4 N) n3) v1 M2 = some o := h
      generalize lp (fun _ _ => none) (sX4_findWith_3 a2 a1 a3 a4 N) n3 = cont3 at h ih3
      unfold sX4_findWith_3 at h
      refine lv_iload hx hb dX4_findWith_3 (lv_at hl 5 rfl) ?_
      refine lv_aload_n hx hb dX4_findWith_5 rfl (lv_at hl 2 rfl) ?_
      refine gfX4_35 C hP ha2 dX4_findWith_6 ?_
      refine lv_icmp_ge (tgt := 90) hx hb dX4_findWith_9 (by decide) (fun cd => ?_) (fun cd => ?_)
      · have h := (if_pos cd).symm.trans h
        cases h
        exact hret H locs _ ls hP hS dX4_findWith_90
      · have h := (if_neg cd).symm.trans h
        refine lv_iload hx hb dX4_findWith_12 (lv_at hl 5 rfl) ?_
        refine lv_iconst (v := (1 : Int32)) hx hb dX4_findWith_14 (by decide) ?_
        refine lv_iadd hx hb dX4_findWith_15 ?_
        refine lv_istore (lv' := [(6, .int (v1 + (1 : Int32))), (0, .ref (ad 16)), (1, .ref (ad a1)), (2, .ref (ad a2)), (3, .int a3), (4, .int a4), (5, .int v1)]) hx hb dX4_findWith_16 hl (by decide) rfl (fun ls hl => ?_)
        obtain ⟨M3, h1, h⟩ := rs_bind h
        have hJ4 : ∀ (H : Heap) (locs : List Loc) (ls : Array Slot), va_P D vwCl (xW ad cI cJ M3) H → va_S (xA ad) s.heap H locs → lv_has ls 7 [(0, .ref (ad 16)), (1, .ref (ad a1)), (2, .ref (ad a2)), (3, .int a3), (4, .int a4), (5, .int v1)] → W p l e rX4_findWith s m args below meth c H locs 0 0 Q (F0 m 84 ls []) := by
          intro H locs ls hP hS hl
          refine lv_iinc (v := (v1 + 1)) (lv' := [(5, .int (v1 + 1)), (0, .ref (ad 16)), (1, .ref (ad a1)), (2, .ref (ad a2)), (3, .int a3), (4, .int a4)]) hx hb dX4_findWith_84 hl (k := 5) rfl rfl (by decide) rfl (fun ls hl => ?_)
          refine lv_goto (tgt := 3) hx hb dX4_findWith_87 (by decide) ?_
          exact ih3 _ _ H locs ls hP hS (lv_sub hl [1, 2, 3, 4, 5, 0] rfl) h
        replace h := h1
        clear h1
        have hL18 : ∀ (n18 : Nat) (v5 : Int32) (M6 : Mem) (H : Heap) (locs : List Loc) (ls : Array Slot), va_P D vwCl (xW ad cI cJ M6) H → va_S (xA ad) s.heap H locs → lv_has ls 7 [(0, .ref (ad 16)), (1, .ref (ad a1)), (2, .ref (ad a2)), (3, .int a3), (4, .int a4), (5, .int v1), (6, .int v5)] → lp (fun _ _ => none) (sX4_findWith_18 a2 a1 a3 a4 v1 N) n18 v5 M6 = some M3 → W p l e rX4_findWith s m args below meth c H locs 0 0 Q (F0 m 18 ls []) := by
          intro n18
          induction n18 with
          | zero => intro v5 M6 H locs ls hP hS hl h; have h : (none : Option Mem) = some M3 := h; cases h
          | succ n18 ih18 =>
            intro v5 M6 H locs ls hP hS hl h
            have h : sX4_findWith_18 a2 a1 a3 a4 v1 N (lp (fun _ _ => none) (sX4_findWith_18 a2 a1 a3 a4 v1 N) n18) v5 M6 = some M3 := h
            generalize lp (fun _ _ => none) (sX4_findWith_18 a2 a1 a3 a4 v1 N) n18 = cont18 at h ih18
            unfold sX4_findWith_18 at h
            refine lv_iload hx hb dX4_findWith_18 (lv_at hl 6 rfl) ?_
            refine lv_aload_n hx hb dX4_findWith_20 rfl (lv_at hl 2 rfl) ?_
            refine gfX4_35 C hP ha2 dX4_findWith_21 ?_
            refine lv_icmp_ge (tgt := 84) hx hb dX4_findWith_24 (by decide) (fun cd => ?_) (fun cd => ?_)
            · have h := (if_pos cd).symm.trans h
              cases h
              exact hJ4 H locs ls hP hS (lv_sub hl [0, 1, 2, 3, 4, 5] rfl)
            · have h := (if_neg cd).symm.trans h
              refine lv_aload_n hx hb dX4_findWith_27 rfl (lv_at hl 0 rfl) ?_
              refine lv_aload_n hx hb dX4_findWith_28 rfl (lv_at hl 1 rfl) ?_
              refine lv_aload_n hx hb dX4_findWith_29 rfl (lv_at hl 2 rfl) ?_
              refine lv_iload_n hx hb dX4_findWith_30 rfl (lv_at hl 3 rfl) ?_
              refine lv_iload hx hb dX4_findWith_31 (lv_at hl 4 rfl) ?_
              refine lv_iload hx hb dX4_findWith_33 (lv_at hl 5 rfl) ?_
              refine lv_iload hx hb dX4_findWith_35 (lv_at hl 6 rfl) ?_
              obtain ⟨⟨v8, M7⟩, h1, h⟩ := rs_bind h
              dsimp only at h
              refine rs_goI (rs_runV (b := 16) (As := [.ref (ad a1), .ref (ad a2), .int a3, .int a4, .int v1, .int v5]) (rest := []) C hP hS (kX4_tilt l D ad cI cJ tP tR M6 a1 a2 a3 a4 v1 v5 ha1 ha2 _ h1) mk_X4_tilt wd_367 (xR_16) rfl ⟨rfl, rfl, Nat.le_of_ble_eq_true rfl, Nat.le_of_ble_eq_true rfl⟩ rfl hl.1 (Nat.le_of_ble_eq_true rfl) dX4_findWith_37) hS (fun H locs hP hS => ?_)
              obtain ⟨M10, h1, h⟩ := rs_bind h
              have hJ11 : ∀ (H : Heap) (locs : List Loc) (ls : Array Slot), va_P D vwCl (xW ad cI cJ M10) H → va_S (xA ad) s.heap H locs → lv_has ls 7 [(0, .ref (ad 16)), (1, .ref (ad a1)), (2, .ref (ad a2)), (3, .int a3), (4, .int a4), (5, .int v1), (6, .int v5)] → W p l e rX4_findWith s m args below meth c H locs 0 0 Q (F0 m 78 ls []) := by
                intro H locs ls hP hS hl
                refine lv_iinc (v := (v5 + 1)) (lv' := [(6, .int (v5 + 1)), (0, .ref (ad 16)), (1, .ref (ad a1)), (2, .ref (ad a2)), (3, .int a3), (4, .int a4), (5, .int v1)]) hx hb dX4_findWith_78 hl (k := 6) rfl rfl (by decide) rfl (fun ls hl => ?_)
                refine lv_goto (tgt := 18) hx hb dX4_findWith_81 (by decide) ?_
                exact ih18 _ _ H locs ls hP hS (lv_sub hl [1, 2, 3, 4, 5, 6, 0] rfl) h
              replace h := h1
              clear h1
              refine lv_if_eq (tgt := 78) hx hb dX4_findWith_40 (by decide) (fun cd => ?_) (fun cd => ?_)
              · have h := (if_pos cd).symm.trans h
                cases h
                exact hJ11 H locs ls hP hS (lv_sub hl [0, 1, 2, 3, 4, 5, 6] rfl)
              · have h := (if_neg cd).symm.trans h
                refine lv_aload_n hx hb dX4_findWith_43 rfl (lv_at hl 0 rfl) ?_
                refine lv_aload_n hx hb dX4_findWith_44 rfl (lv_at hl 0 rfl) ?_
                refine lv_aload_n hx hb dX4_findWith_45 rfl (lv_at hl 1 rfl) ?_
                refine lv_iload_n hx hb dX4_findWith_46 rfl (lv_at hl 3 rfl) ?_
                obtain ⟨v12, h1, h⟩ := rs_bind h
                refine rs_goI (rs_runV (b := 16) (As := [.ref (ad a1), .int a3]) (rest := [.ref (ad 16)]) C hP hS (kX4_alikeLowest l D ad cI cJ tP tR N M7 a1 a3 ha1 _ h1) mk_X4_alikeLowest wd_374 (xR_16) rfl ⟨rfl, rfl, Nat.le_of_ble_eq_true rfl, Nat.le_of_ble_eq_true rfl⟩ rfl hl.1 (Nat.le_of_ble_eq_true rfl) dX4_findWith_47) hS (fun H locs hP hS => ?_)
                refine lv_aload_n hx hb dX4_findWith_50 rfl (lv_at hl 0 rfl) ?_
                refine lv_aload_n hx hb dX4_findWith_51 rfl (lv_at hl 2 rfl) ?_
                refine lv_iload hx hb dX4_findWith_52 (lv_at hl 5 rfl) ?_
                obtain ⟨v13, h1, h⟩ := rs_bind h
                refine rs_goI (rs_runV (b := 16) (As := [.ref (ad a2), .int v1]) (rest := [.int v12, .ref (ad 16)]) C hP hS (kX4_alikeLowest l D ad cI cJ tP tR N M7 a2 v1 ha2 _ h1) mk_X4_alikeLowest wd_374 (xR_16) rfl ⟨rfl, rfl, Nat.le_of_ble_eq_true rfl, Nat.le_of_ble_eq_true rfl⟩ rfl hl.1 (Nat.le_of_ble_eq_true rfl) dX4_findWith_54) hS (fun H locs hP hS => ?_)
                refine lv_iload_n hx hb dX4_findWith_57 rfl (lv_at hl 3 rfl) ?_
                refine lv_bipush (v := (9 : Int32)) hx hb dX4_findWith_58 (by decide) ?_
                refine lv_ishl hx hb dX4_findWith_60 ?_
                refine lv_iload hx hb dX4_findWith_61 (lv_at hl 4 rfl) ?_
                refine lv_bipush (v := (6 : Int32)) hx hb dX4_findWith_63 (by decide) ?_
                refine lv_ishl hx hb dX4_findWith_65 ?_
                refine lv_ior hx hb dX4_findWith_66 ?_
                refine lv_iload hx hb dX4_findWith_67 (lv_at hl 5 rfl) ?_
                refine lv_iconst (v := (3 : Int32)) hx hb dX4_findWith_69 (by decide) ?_
                refine lv_ishl hx hb dX4_findWith_70 ?_
                refine lv_ior hx hb dX4_findWith_71 ?_
                refine lv_iload hx hb dX4_findWith_72 (lv_at hl 6 rfl) ?_
                refine lv_ior hx hb dX4_findWith_74 ?_
                obtain ⟨M14, h1, h⟩ := rs_bind h
                refine rs_goV (rs_runV (b := 16) (As := [.int v12, .int v13, .int ((((a3 <<< ((9 : Int32) &&& 31)) ||| (a4 <<< ((6 : Int32) &&& 31))) ||| (v1 <<< ((3 : Int32) &&& 31))) ||| v5)]) (rest := []) C hP hS (kX4_noteIfLowest l D ad cI cJ tP tR M7 v12 v13 ((((a3 <<< ((9 : Int32) &&& 31)) ||| (a4 <<< ((6 : Int32) &&& 31))) ||| (v1 <<< ((3 : Int32) &&& 31))) ||| v5) _ h1) mk_X4_noteIfLowest wd_382 (xR_16) rfl ⟨rfl, rfl, Nat.le_of_ble_eq_true rfl, Nat.le_of_ble_eq_true rfl⟩ rfl hl.1 (Nat.le_of_ble_eq_true rfl) dX4_findWith_75) hS (fun H locs hP hS => ?_)
                cases h
                exact hJ11 H locs ls hP hS (lv_sub hl [0, 1, 2, 3, 4, 5, 6] rfl)
        exact hL18 N _ _ H locs ls hP hS (lv_sub hl [1, 2, 3, 4, 5, 6, 0] rfl) h
  exact hL3 N _ _ H locs ls hP hS (lv_sub hl [1, 2, 3, 4, 5, 0] rfl) h
abbrev rX4_find : Room := { frames := 3, cells := 0, slots := 0, locals := 81 }
theorem dX4_find_0 : decode cX4_find 0 = .ok (.aload_n 0, 1) := by decide +kernel
theorem dX4_find_1 : decode cX4_find 1 = .ok (.getfield 19, 3) := by decide +kernel
theorem dX4_find_4 : decode cX4_find 4 = .ok (.ifCond .eq 4, 3) := by decide +kernel
theorem dX4_find_7 : decode cX4_find 7 = .ok (.return_, 1) := by decide +kernel
theorem dX4_find_8 : decode cX4_find 8 = .ok (.aload_n 0, 1) := by decide +kernel
theorem dX4_find_9 : decode cX4_find 9 = .ok (.iconst 1, 1) := by decide +kernel
theorem dX4_find_10 : decode cX4_find 10 = .ok (.putfield 19, 3) := by decide +kernel
theorem dX4_find_13 : decode cX4_find 13 = .ok (.aload_n 0, 1) := by decide +kernel
theorem dX4_find_14 : decode cX4_find 14 = .ok (.iconst 0, 1) := by decide +kernel
theorem dX4_find_15 : decode cX4_find 15 = .ok (.putfield 9, 3) := by decide +kernel
theorem dX4_find_18 : decode cX4_find 18 = .ok (.aload_n 0, 1) := by decide +kernel
theorem dX4_find_19 : decode cX4_find 19 = .ok (.iconst 0, 1) := by decide +kernel
theorem dX4_find_20 : decode cX4_find 20 = .ok (.putfield 15, 3) := by decide +kernel
theorem dX4_find_23 : decode cX4_find 23 = .ok (.iconst 0, 1) := by decide +kernel
theorem dX4_find_24 : decode cX4_find 24 = .ok (.istore_n 3, 1) := by decide +kernel
theorem dX4_find_25 : decode cX4_find 25 = .ok (.iload_n 3, 1) := by decide +kernel
theorem dX4_find_26 : decode cX4_find 26 = .ok (.aload_n 1, 1) := by decide +kernel
theorem dX4_find_27 : decode cX4_find 27 = .ok (.getfield 35, 3) := by decide +kernel
theorem dX4_find_30 : decode cX4_find 30 = .ok (.if_icmp .ge 38, 3) := by decide +kernel
theorem dX4_find_33 : decode cX4_find 33 = .ok (.iload_n 3, 1) := by decide +kernel
theorem dX4_find_34 : decode cX4_find 34 = .ok (.iconst 1, 1) := by decide +kernel
theorem dX4_find_35 : decode cX4_find 35 = .ok (.iadd, 1) := by decide +kernel
theorem dX4_find_36 : decode cX4_find 36 = .ok (.istore 4, 2) := by decide +kernel
theorem dX4_find_38 : decode cX4_find 38 = .ok (.iload 4, 2) := by decide +kernel
theorem dX4_find_40 : decode cX4_find 40 = .ok (.aload_n 1, 1) := by decide +kernel
theorem dX4_find_41 : decode cX4_find 41 = .ok (.getfield 35, 3) := by decide +kernel
theorem dX4_find_44 : decode cX4_find 44 = .ok (.if_icmp .ge 18, 3) := by decide +kernel
theorem dX4_find_47 : decode cX4_find 47 = .ok (.aload_n 0, 1) := by decide +kernel
theorem dX4_find_48 : decode cX4_find 48 = .ok (.aload_n 1, 1) := by decide +kernel
theorem dX4_find_49 : decode cX4_find 49 = .ok (.aload_n 2, 1) := by decide +kernel
theorem dX4_find_50 : decode cX4_find 50 = .ok (.iload_n 3, 1) := by decide +kernel
theorem dX4_find_51 : decode cX4_find 51 = .ok (.iload 4, 2) := by decide +kernel
theorem dX4_find_53 : decode cX4_find 53 = .ok (.invokevirtual 40, 3) := by decide +kernel
theorem dX4_find_56 : decode cX4_find 56 = .ok (.iinc 4 1, 3) := by decide +kernel
theorem dX4_find_59 : decode cX4_find 59 = .ok (.goto (-21), 3) := by decide +kernel
theorem dX4_find_62 : decode cX4_find 62 = .ok (.iinc 3 1, 3) := by decide +kernel
theorem dX4_find_65 : decode cX4_find 65 = .ok (.goto (-40), 3) := by decide +kernel
theorem dX4_find_68 : decode cX4_find 68 = .ok (.return_, 1) := by decide +kernel
set_option maxRecDepth 100000 in
set_option maxHeartbeats 4000000 in
theorem kX4_find (l : Launch) (D : va_G) (ad : Nat → Nat) (cI cJ : ClassId) (tP tR : Nat) (N : Nat) (M : Mem) (a1 : Nat) (a2 : Nat) (ha1 : a1 = 1 ∨ a1 = 6) (ha2 : a2 = 1 ∨ a2 = 6) (o : Mem) (h : fX4_find N M a1 a2 = some o) : qMet l D cI cJ tP tR (xA ad) (xW ad cI cJ) yX4_find cX4_find 5 none rX4_find [.ref (ad 16), .ref (ad a1), .ref (ad a2)] M (qQv D (xA ad) (xW ad cI cJ) o) := by
  refine rs_enterV (own := RX4) ⟨by decide +kernel, rfl, Nat.le_of_ble_eq_true rfl⟩ ?_
  intro p e s m args below meth c Q C hret H locs ls hP hS hl
  obtain ⟨hx, hb, -⟩ := id C
  have hl : lv_has ls 5 [(0, .ref (ad 16)), (1, .ref (ad a1)), (2, .ref (ad a2))] := hl
  unfold fX4_find at h
  refine lv_aload_n hx hb dX4_find_0 rfl (lv_at hl 0 rfl) ?_
  refine gfX4_19 C hP dX4_find_1 ?_
  refine lv_if_eq (tgt := 8) hx hb dX4_find_4 (by decide) (fun cd => ?_) (fun cd => ?_)
  · have h := (if_pos cd).symm.trans h
    refine lv_aload_n hx hb dX4_find_8 rfl (lv_at hl 0 rfl) ?_
    refine lv_iconst (v := (1 : Int32)) hx hb dX4_find_9 (by decide) ?_
    refine pfX4_19 C hP hS dX4_find_10 h (fun M1 h H locs hP hS => ?_)
    refine lv_aload_n hx hb dX4_find_13 rfl (lv_at hl 0 rfl) ?_
    refine lv_iconst (v := (0 : Int32)) hx hb dX4_find_14 (by decide) ?_
    refine pfX4_9 C hP hS dX4_find_15 h (fun M2 h H locs hP hS => ?_)
    refine lv_aload_n hx hb dX4_find_18 rfl (lv_at hl 0 rfl) ?_
    refine lv_iconst (v := (0 : Int32)) hx hb dX4_find_19 (by decide) ?_
    refine pfX4_15 C hP hS dX4_find_20 h (fun M3 h H locs hP hS => ?_)
    refine lv_iconst (v := (0 : Int32)) hx hb dX4_find_23 (by decide) ?_
    refine lv_istore_n (lv' := [(3, .int (0 : Int32)), (0, .ref (ad 16)), (1, .ref (ad a1)), (2, .ref (ad a2))]) hx hb dX4_find_24 rfl hl (by decide) rfl (fun ls hl => ?_)
    have hL25 : ∀ (n25 : Nat) (v4 : Int32) (M5 : Mem) (H : Heap) (locs : List Loc) (ls : Array Slot), va_P D vwCl (xW ad cI cJ M5) H → va_S (xA ad) s.heap H locs → lv_has ls 5 [(0, .ref (ad 16)), (1, .ref (ad a1)), (2, .ref (ad a2)), (3, .int v4)] → lp (fun _ _ => none) (sX4_find_25 a1 N a2) n25 v4 M5 = some o → W p l e rX4_find s m args below meth c H locs 0 0 Q (F0 m 25 ls []) := by
      intro n25
      induction n25 with
      | zero => intro v4 M5 H locs ls hP hS hl h; have h : (none : Option Mem) = some o := h; cases h
      | succ n25 ih25 =>
        intro v4 M5 H locs ls hP hS hl h
        have h : sX4_find_25 a1 N a2 (lp (fun _ _ => none) (sX4_find_25 a1 N a2) n25) v4 M5 = some o := h
        generalize lp (fun _ _ => none) (sX4_find_25 a1 N a2) n25 = cont25 at h ih25
        unfold sX4_find_25 at h
        refine lv_iload_n hx hb dX4_find_25 rfl (lv_at hl 3 rfl) ?_
        refine lv_aload_n hx hb dX4_find_26 rfl (lv_at hl 1 rfl) ?_
        refine gfX4_35 C hP ha1 dX4_find_27 ?_
        refine lv_icmp_ge (tgt := 68) hx hb dX4_find_30 (by decide) (fun cd => ?_) (fun cd => ?_)
        · have h := (if_pos cd).symm.trans h
          cases h
          exact hret H locs _ ls hP hS dX4_find_68
        · have h := (if_neg cd).symm.trans h
          refine lv_iload_n hx hb dX4_find_33 rfl (lv_at hl 3 rfl) ?_
          refine lv_iconst (v := (1 : Int32)) hx hb dX4_find_34 (by decide) ?_
          refine lv_iadd hx hb dX4_find_35 ?_
          refine lv_istore (lv' := [(4, .int (v4 + (1 : Int32))), (0, .ref (ad 16)), (1, .ref (ad a1)), (2, .ref (ad a2)), (3, .int v4)]) hx hb dX4_find_36 hl (by decide) rfl (fun ls hl => ?_)
          obtain ⟨M6, h1, h⟩ := rs_bind h
          have hJ7 : ∀ (H : Heap) (locs : List Loc) (ls : Array Slot), va_P D vwCl (xW ad cI cJ M6) H → va_S (xA ad) s.heap H locs → lv_has ls 5 [(0, .ref (ad 16)), (1, .ref (ad a1)), (2, .ref (ad a2)), (3, .int v4)] → W p l e rX4_find s m args below meth c H locs 0 0 Q (F0 m 62 ls []) := by
            intro H locs ls hP hS hl
            refine lv_iinc (v := (v4 + 1)) (lv' := [(3, .int (v4 + 1)), (0, .ref (ad 16)), (1, .ref (ad a1)), (2, .ref (ad a2))]) hx hb dX4_find_62 hl (k := 3) rfl rfl (by decide) rfl (fun ls hl => ?_)
            refine lv_goto (tgt := 25) hx hb dX4_find_65 (by decide) ?_
            exact ih25 _ _ H locs ls hP hS (lv_sub hl [1, 2, 3, 0] rfl) h
          replace h := h1
          clear h1
          have hL38 : ∀ (n38 : Nat) (v8 : Int32) (M9 : Mem) (H : Heap) (locs : List Loc) (ls : Array Slot), va_P D vwCl (xW ad cI cJ M9) H → va_S (xA ad) s.heap H locs → lv_has ls 5 [(0, .ref (ad 16)), (1, .ref (ad a1)), (2, .ref (ad a2)), (3, .int v4), (4, .int v8)] → lp (fun _ _ => none) (sX4_find_38 a1 N a2 v4) n38 v8 M9 = some M6 → W p l e rX4_find s m args below meth c H locs 0 0 Q (F0 m 38 ls []) := by
            intro n38
            induction n38 with
            | zero => intro v8 M9 H locs ls hP hS hl h; have h : (none : Option Mem) = some M6 := h; cases h
            | succ n38 ih38 =>
              intro v8 M9 H locs ls hP hS hl h
              have h : sX4_find_38 a1 N a2 v4 (lp (fun _ _ => none) (sX4_find_38 a1 N a2 v4) n38) v8 M9 = some M6 := h
              generalize lp (fun _ _ => none) (sX4_find_38 a1 N a2 v4) n38 = cont38 at h ih38
              unfold sX4_find_38 at h
              refine lv_iload hx hb dX4_find_38 (lv_at hl 4 rfl) ?_
              refine lv_aload_n hx hb dX4_find_40 rfl (lv_at hl 1 rfl) ?_
              refine gfX4_35 C hP ha1 dX4_find_41 ?_
              refine lv_icmp_ge (tgt := 62) hx hb dX4_find_44 (by decide) (fun cd => ?_) (fun cd => ?_)
              · have h := (if_pos cd).symm.trans h
                cases h
                exact hJ7 H locs ls hP hS (lv_sub hl [0, 1, 2, 3] rfl)
              · have h := (if_neg cd).symm.trans h
                refine lv_aload_n hx hb dX4_find_47 rfl (lv_at hl 0 rfl) ?_
                refine lv_aload_n hx hb dX4_find_48 rfl (lv_at hl 1 rfl) ?_
                refine lv_aload_n hx hb dX4_find_49 rfl (lv_at hl 2 rfl) ?_
                refine lv_iload_n hx hb dX4_find_50 rfl (lv_at hl 3 rfl) ?_
                refine lv_iload hx hb dX4_find_51 (lv_at hl 4 rfl) ?_
                obtain ⟨M10, h1, h⟩ := rs_bind h
                refine rs_goV (rs_runV (b := 16) (As := [.ref (ad a1), .ref (ad a2), .int v4, .int v8]) (rest := []) C hP hS (kX4_findWith l D ad cI cJ tP tR N M9 a1 a2 v4 v8 ha1 ha2 _ h1) mk_X4_findWith wd_363 (xR_16) rfl ⟨rfl, rfl, Nat.le_of_ble_eq_true rfl, Nat.le_of_ble_eq_true rfl⟩ rfl hl.1 (Nat.le_of_ble_eq_true rfl) dX4_find_53) hS (fun H locs hP hS => ?_)
                refine lv_iinc (v := (v8 + 1)) (lv' := [(4, .int (v8 + 1)), (0, .ref (ad 16)), (1, .ref (ad a1)), (2, .ref (ad a2)), (3, .int v4)]) hx hb dX4_find_56 hl (k := 4) rfl rfl (by decide) rfl (fun ls hl => ?_)
                refine lv_goto (tgt := 38) hx hb dX4_find_59 (by decide) ?_
                exact ih38 _ _ H locs ls hP hS (lv_sub hl [1, 2, 3, 4, 0] rfl) h
          exact hL38 N _ _ H locs ls hP hS (lv_sub hl [1, 2, 3, 4, 0] rfl) h
    exact hL25 N _ _ H locs ls hP hS (lv_sub hl [1, 2, 3, 0] rfl) h
  · have h := (if_neg cd).symm.trans h
    cases h
    exact hret H locs _ ls hP hS dX4_find_7
abbrev rX4_memberOf : Room := { frames := 0, cells := 0, slots := 0, locals := 0 }
theorem dX4_memberOf_0 : decode cX4_memberOf 0 = .ok (.aload_n 0, 1) := by decide +kernel
theorem dX4_memberOf_1 : decode cX4_memberOf 1 = .ok (.getfield 22, 3) := by decide +kernel
theorem dX4_memberOf_4 : decode cX4_memberOf 4 = .ok (.iload_n 1, 1) := by decide +kernel
theorem dX4_memberOf_5 : decode cX4_memberOf 5 = .ok (.iaload, 1) := by decide +kernel
theorem dX4_memberOf_6 : decode cX4_memberOf 6 = .ok (.iconst 3, 1) := by decide +kernel
theorem dX4_memberOf_7 : decode cX4_memberOf 7 = .ok (.iconst 3, 1) := by decide +kernel
theorem dX4_memberOf_8 : decode cX4_memberOf 8 = .ok (.iload_n 2, 1) := by decide +kernel
theorem dX4_memberOf_9 : decode cX4_memberOf 9 = .ok (.isub, 1) := by decide +kernel
theorem dX4_memberOf_10 : decode cX4_memberOf 10 = .ok (.imul, 1) := by decide +kernel
theorem dX4_memberOf_11 : decode cX4_memberOf 11 = .ok (.ishr, 1) := by decide +kernel
theorem dX4_memberOf_12 : decode cX4_memberOf 12 = .ok (.bipush 7, 2) := by decide +kernel
theorem dX4_memberOf_14 : decode cX4_memberOf 14 = .ok (.iand, 1) := by decide +kernel
theorem dX4_memberOf_15 : decode cX4_memberOf 15 = .ok (.ireturn, 1) := by decide +kernel
set_option maxRecDepth 100000 in
set_option maxHeartbeats 4000000 in
theorem kX4_memberOf (l : Launch) (D : va_G) (ad : Nat → Nat) (cI cJ : ClassId) (tP tR : Nat) (M : Mem) (a1 : Int32) (a2 : Int32)  (o : Int32) (h : fX4_memberOf M a1 a2 = some o) : qMet l D cI cJ tP tR (xA ad) (xW ad cI cJ) yX4_memberOf cX4_memberOf 3 (some .int) rX4_memberOf [.ref (ad 16), .int a1, .int a2] M (qQi D (xA ad) (xW ad cI cJ) o M) := by
  refine rs_enterI (own := RX4) ⟨by decide +kernel, rfl, Nat.le_of_ble_eq_true rfl⟩ ?_
  intro p e s m args below meth c Q C hret H locs ls hP hS hl
  obtain ⟨hx, hb, -⟩ := id C
  have hl : lv_has ls 3 [(0, .ref (ad 16)), (1, .int a1), (2, .int a2)] := hl
  unfold fX4_memberOf at h
  refine lv_aload_n hx hb dX4_memberOf_0 rfl (lv_at hl 0 rfl) ?_
  refine gfX4_22 C hP dX4_memberOf_1 ?_
  refine lv_iload_n hx hb dX4_memberOf_4 rfl (lv_at hl 1 rfl) ?_
  refine rs_iald C hP xIA_17 dX4_memberOf_5 h (fun v1 h => ?_)
  refine lv_iconst (v := (3 : Int32)) hx hb dX4_memberOf_6 (by decide) ?_
  refine lv_iconst (v := (3 : Int32)) hx hb dX4_memberOf_7 (by decide) ?_
  refine lv_iload_n hx hb dX4_memberOf_8 rfl (lv_at hl 2 rfl) ?_
  refine lv_isub hx hb dX4_memberOf_9 ?_
  refine lv_imul hx hb dX4_memberOf_10 ?_
  refine lv_ishr hx hb dX4_memberOf_11 ?_
  refine lv_bipush (v := (7 : Int32)) hx hb dX4_memberOf_12 (by decide) ?_
  refine lv_iand hx hb dX4_memberOf_14 ?_
  cases h
  exact hret H locs _ ls hP hS dX4_memberOf_15
abbrev rX4_sizeOf : Room := { frames := 1, cells := 0, slots := 0, locals := 25 }
theorem dX4_sizeOf_0 : decode cX4_sizeOf 0 = .ok (.aload_n 1, 1) := by decide +kernel
theorem dX4_sizeOf_1 : decode cX4_sizeOf 1 = .ok (.aload_n 0, 1) := by decide +kernel
theorem dX4_sizeOf_2 : decode cX4_sizeOf 2 = .ok (.iload_n 3, 1) := by decide +kernel
theorem dX4_sizeOf_3 : decode cX4_sizeOf 3 = .ok (.iconst 0, 1) := by decide +kernel
theorem dX4_sizeOf_4 : decode cX4_sizeOf 4 = .ok (.invokevirtual 44, 3) := by decide +kernel
theorem dX4_sizeOf_7 : decode cX4_sizeOf 7 = .ok (.aload_n 0, 1) := by decide +kernel
theorem dX4_sizeOf_8 : decode cX4_sizeOf 8 = .ok (.iload_n 3, 1) := by decide +kernel
theorem dX4_sizeOf_9 : decode cX4_sizeOf 9 = .ok (.iconst 1, 1) := by decide +kernel
theorem dX4_sizeOf_10 : decode cX4_sizeOf 10 = .ok (.invokevirtual 44, 3) := by decide +kernel
theorem dX4_sizeOf_13 : decode cX4_sizeOf 13 = .ok (.aload_n 2, 1) := by decide +kernel
theorem dX4_sizeOf_14 : decode cX4_sizeOf 14 = .ok (.aload_n 0, 1) := by decide +kernel
theorem dX4_sizeOf_15 : decode cX4_sizeOf 15 = .ok (.iload_n 3, 1) := by decide +kernel
theorem dX4_sizeOf_16 : decode cX4_sizeOf 16 = .ok (.iconst 2, 1) := by decide +kernel
theorem dX4_sizeOf_17 : decode cX4_sizeOf 17 = .ok (.invokevirtual 44, 3) := by decide +kernel
theorem dX4_sizeOf_20 : decode cX4_sizeOf 20 = .ok (.aload_n 0, 1) := by decide +kernel
theorem dX4_sizeOf_21 : decode cX4_sizeOf 21 = .ok (.iload_n 3, 1) := by decide +kernel
theorem dX4_sizeOf_22 : decode cX4_sizeOf 22 = .ok (.iconst 3, 1) := by decide +kernel
theorem dX4_sizeOf_23 : decode cX4_sizeOf 23 = .ok (.invokevirtual 44, 3) := by decide +kernel
theorem dX4_sizeOf_26 : decode cX4_sizeOf 26 = .ok (.invokestatic 48, 3) := by decide +kernel
theorem dX4_sizeOf_29 : decode cX4_sizeOf 29 = .ok (.invokestatic 52, 3) := by decide +kernel
theorem dX4_sizeOf_32 : decode cX4_sizeOf 32 = .ok (.ireturn, 1) := by decide +kernel
set_option maxRecDepth 100000 in
set_option maxHeartbeats 4000000 in
theorem kX4_sizeOf (l : Launch) (D : va_G) (ad : Nat → Nat) (cI cJ : ClassId) (tP tR : Nat) (M : Mem) (a1 : Nat) (a2 : Nat) (a3 : Int32) (ha1 : a1 = 1 ∨ a1 = 6) (ha2 : a2 = 1 ∨ a2 = 6) (o : Int32) (h : fX4_sizeOf M a1 a2 a3 = some o) : qMet l D cI cJ tP tR (xA ad) (xW ad cI cJ) yX4_sizeOf cX4_sizeOf 4 (some .int) rX4_sizeOf [.ref (ad 16), .ref (ad a1), .ref (ad a2), .int a3] M (qQi D (xA ad) (xW ad cI cJ) o M) := by
  refine rs_enterI (own := RX4) ⟨by decide +kernel, rfl, Nat.le_of_ble_eq_true rfl⟩ ?_
  intro p e s m args below meth c Q C hret H locs ls hP hS hl
  obtain ⟨hx, hb, -⟩ := id C
  have hl : lv_has ls 4 [(0, .ref (ad 16)), (1, .ref (ad a1)), (2, .ref (ad a2)), (3, .int a3)] := hl
  unfold fX4_sizeOf at h
  refine lv_aload_n hx hb dX4_sizeOf_0 rfl (lv_at hl 1 rfl) ?_
  refine lv_aload_n hx hb dX4_sizeOf_1 rfl (lv_at hl 0 rfl) ?_
  refine lv_iload_n hx hb dX4_sizeOf_2 rfl (lv_at hl 3 rfl) ?_
  refine lv_iconst (v := (0 : Int32)) hx hb dX4_sizeOf_3 (by decide) ?_
  obtain ⟨v1, h1, h⟩ := rs_bind h
  refine rs_goI (rs_runV (b := 16) (As := [.int a3, .int (0 : Int32)]) (rest := [.ref (ad a1)]) C hP hS (kX4_memberOf l D ad cI cJ tP tR M a3 (0 : Int32) _ h1) mk_X4_memberOf wd_394 (xR_16) rfl ⟨rfl, rfl, Nat.le_of_ble_eq_true rfl, Nat.le_of_ble_eq_true rfl⟩ rfl hl.1 (Nat.le_of_ble_eq_true rfl) dX4_sizeOf_4) hS (fun H locs hP hS => ?_)
  refine lv_aload_n hx hb dX4_sizeOf_7 rfl (lv_at hl 0 rfl) ?_
  refine lv_iload_n hx hb dX4_sizeOf_8 rfl (lv_at hl 3 rfl) ?_
  refine lv_iconst (v := (1 : Int32)) hx hb dX4_sizeOf_9 (by decide) ?_
  obtain ⟨v2, h1, h⟩ := rs_bind h
  refine rs_goI (rs_runV (b := 16) (As := [.int a3, .int (1 : Int32)]) (rest := [.int v1, .ref (ad a1)]) C hP hS (kX4_memberOf l D ad cI cJ tP tR M a3 (1 : Int32) _ h1) mk_X4_memberOf wd_394 (xR_16) rfl ⟨rfl, rfl, Nat.le_of_ble_eq_true rfl, Nat.le_of_ble_eq_true rfl⟩ rfl hl.1 (Nat.le_of_ble_eq_true rfl) dX4_sizeOf_10) hS (fun H locs hP hS => ?_)
  refine lv_aload_n hx hb dX4_sizeOf_13 rfl (lv_at hl 2 rfl) ?_
  refine lv_aload_n hx hb dX4_sizeOf_14 rfl (lv_at hl 0 rfl) ?_
  refine lv_iload_n hx hb dX4_sizeOf_15 rfl (lv_at hl 3 rfl) ?_
  refine lv_iconst (v := (2 : Int32)) hx hb dX4_sizeOf_16 (by decide) ?_
  obtain ⟨v3, h1, h⟩ := rs_bind h
  refine rs_goI (rs_runV (b := 16) (As := [.int a3, .int (2 : Int32)]) (rest := [.ref (ad a2), .int v2, .int v1, .ref (ad a1)]) C hP hS (kX4_memberOf l D ad cI cJ tP tR M a3 (2 : Int32) _ h1) mk_X4_memberOf wd_394 (xR_16) rfl ⟨rfl, rfl, Nat.le_of_ble_eq_true rfl, Nat.le_of_ble_eq_true rfl⟩ rfl hl.1 (Nat.le_of_ble_eq_true rfl) dX4_sizeOf_17) hS (fun H locs hP hS => ?_)
  refine lv_aload_n hx hb dX4_sizeOf_20 rfl (lv_at hl 0 rfl) ?_
  refine lv_iload_n hx hb dX4_sizeOf_21 rfl (lv_at hl 3 rfl) ?_
  refine lv_iconst (v := (3 : Int32)) hx hb dX4_sizeOf_22 (by decide) ?_
  obtain ⟨v4, h1, h⟩ := rs_bind h
  refine rs_goI (rs_runV (b := 16) (As := [.int a3, .int (3 : Int32)]) (rest := [.int v3, .ref (ad a2), .int v2, .int v1, .ref (ad a1)]) C hP hS (kX4_memberOf l D ad cI cJ tP tR M a3 (3 : Int32) _ h1) mk_X4_memberOf wd_394 (xR_16) rfl ⟨rfl, rfl, Nat.le_of_ble_eq_true rfl, Nat.le_of_ble_eq_true rfl⟩ rfl hl.1 (Nat.le_of_ble_eq_true rfl) dX4_sizeOf_23) hS (fun H locs hP hS => ?_)
  obtain ⟨v5, h1, h⟩ := rs_bind h
  refine rs_goI (rs_runN (As := [.ref (ad a1), .int v1, .int v2, .ref (ad a2), .int v3, .int v4]) (rest := []) C hP hS (kX5_across l D ad cI cJ tP tR M a1 v1 v2 a2 v3 v4 ha1 ha2 _ h1) mk_X5_across (nl_X4_48) rfl ⟨rfl, rfl, Nat.le_of_ble_eq_true rfl, Nat.le_of_ble_eq_true rfl⟩ rfl hl.1 (Nat.le_of_ble_eq_true rfl) dX4_sizeOf_26) hS (fun H locs hP hS => ?_)
  refine rs_abs C ⟨wd_311, wd_56, wd_312⟩ wd_398 hl.1 ⟨Nat.le_of_ble_eq_true rfl, Nat.le_of_ble_eq_true rfl⟩ dX4_sizeOf_29 ?_
  cases h
  exact hret H locs _ ls hP hS dX4_sizeOf_32
abbrev rX3_fillPowers : Room := { frames := 0, cells := 0, slots := 0, locals := 0 }
theorem dX3_fillPowers_0 : decode cX3_fillPowers 0 = .ok (.iconst 1, 1) := by decide +kernel
theorem dX3_fillPowers_1 : decode cX3_fillPowers 1 = .ok (.istore_n 2, 1) := by decide +kernel
theorem dX3_fillPowers_2 : decode cX3_fillPowers 2 = .ok (.iload_n 2, 1) := by decide +kernel
theorem dX3_fillPowers_3 : decode cX3_fillPowers 3 = .ok (.iload_n 1, 1) := by decide +kernel
theorem dX3_fillPowers_4 : decode cX3_fillPowers 4 = .ok (.if_icmp .ge 46, 3) := by decide +kernel
theorem dX3_fillPowers_7 : decode cX3_fillPowers 7 = .ok (.iconst 1, 1) := by decide +kernel
theorem dX3_fillPowers_8 : decode cX3_fillPowers 8 = .ok (.istore_n 3, 1) := by decide +kernel
theorem dX3_fillPowers_9 : decode cX3_fillPowers 9 = .ok (.iconst 0, 1) := by decide +kernel
theorem dX3_fillPowers_10 : decode cX3_fillPowers 10 = .ok (.istore 4, 2) := by decide +kernel
theorem dX3_fillPowers_12 : decode cX3_fillPowers 12 = .ok (.iload 4, 2) := by decide +kernel
theorem dX3_fillPowers_14 : decode cX3_fillPowers 14 = .ok (.bipush 7, 2) := by decide +kernel
theorem dX3_fillPowers_16 : decode cX3_fillPowers 16 = .ok (.if_icmp .ge 28, 3) := by decide +kernel
theorem dX3_fillPowers_19 : decode cX3_fillPowers 19 = .ok (.aload_n 0, 1) := by decide +kernel
theorem dX3_fillPowers_20 : decode cX3_fillPowers 20 = .ok (.getfield 22, 3) := by decide +kernel
theorem dX3_fillPowers_23 : decode cX3_fillPowers 23 = .ok (.iload_n 2, 1) := by decide +kernel
theorem dX3_fillPowers_24 : decode cX3_fillPowers 24 = .ok (.bipush 7, 2) := by decide +kernel
theorem dX3_fillPowers_26 : decode cX3_fillPowers 26 = .ok (.imul, 1) := by decide +kernel
theorem dX3_fillPowers_27 : decode cX3_fillPowers 27 = .ok (.iload 4, 2) := by decide +kernel
theorem dX3_fillPowers_29 : decode cX3_fillPowers 29 = .ok (.iadd, 1) := by decide +kernel
theorem dX3_fillPowers_30 : decode cX3_fillPowers 30 = .ok (.iload_n 3, 1) := by decide +kernel
theorem dX3_fillPowers_31 : decode cX3_fillPowers 31 = .ok (.iastore, 1) := by decide +kernel
theorem dX3_fillPowers_32 : decode cX3_fillPowers 32 = .ok (.iload_n 3, 1) := by decide +kernel
theorem dX3_fillPowers_33 : decode cX3_fillPowers 33 = .ok (.iload_n 2, 1) := by decide +kernel
theorem dX3_fillPowers_34 : decode cX3_fillPowers 34 = .ok (.imul, 1) := by decide +kernel
theorem dX3_fillPowers_35 : decode cX3_fillPowers 35 = .ok (.iload_n 1, 1) := by decide +kernel
theorem dX3_fillPowers_36 : decode cX3_fillPowers 36 = .ok (.irem, 1) := by decide +kernel
theorem dX3_fillPowers_37 : decode cX3_fillPowers 37 = .ok (.istore_n 3, 1) := by decide +kernel
theorem dX3_fillPowers_38 : decode cX3_fillPowers 38 = .ok (.iinc 4 1, 3) := by decide +kernel
theorem dX3_fillPowers_41 : decode cX3_fillPowers 41 = .ok (.goto (-29), 3) := by decide +kernel
theorem dX3_fillPowers_44 : decode cX3_fillPowers 44 = .ok (.iinc 2 1, 3) := by decide +kernel
theorem dX3_fillPowers_47 : decode cX3_fillPowers 47 = .ok (.goto (-45), 3) := by decide +kernel
theorem dX3_fillPowers_50 : decode cX3_fillPowers 50 = .ok (.return_, 1) := by decide +kernel
set_option maxRecDepth 100000 in
set_option maxHeartbeats 4000000 in
theorem kX3_fillPowers (l : Launch) (D : va_G) (ad : Nat → Nat) (cI cJ : ClassId) (tP tR : Nat) (N : Nat) (M : Mem) (a1 : Int32)  (o : Mem) (h : fX3_fillPowers N M a1 = some o) : qMet l D cI cJ tP tR (xA ad) (xW ad cI cJ) yX3_fillPowers cX3_fillPowers 5 none rX3_fillPowers [.ref (ad 21), .int a1] M (qQv D (xA ad) (xW ad cI cJ) o) := by
  refine rs_enterV (own := RX3) ⟨by decide +kernel, rfl, Nat.le_of_ble_eq_true rfl⟩ ?_
  intro p e s m args below meth c Q C hret H locs ls hP hS hl
  obtain ⟨hx, hb, -⟩ := id C
  have hl : lv_has ls 5 [(0, .ref (ad 21)), (1, .int a1)] := hl
  unfold fX3_fillPowers at h
  refine lv_iconst (v := (1 : Int32)) hx hb dX3_fillPowers_0 (by decide) ?_
  refine lv_istore_n (lv' := [(2, .int (1 : Int32)), (0, .ref (ad 21)), (1, .int a1)]) hx hb dX3_fillPowers_1 rfl hl (by decide) rfl (fun ls hl => ?_)
  have hL2 : ∀ (n2 : Nat) (v1 : Int32) (M2 : Mem) (H : Heap) (locs : List Loc) (ls : Array Slot), va_P D vwCl (xW ad cI cJ M2) H → va_S (xA ad) s.heap H locs → lv_has ls 5 [(0, .ref (ad 21)), (1, .int a1), (2, .int v1)] → lp (fun _ _ => none) (sX3_fillPowers_2 a1 N) n2 v1 M2 = some o → W p l e rX3_fillPowers s m args below meth c H locs 0 0 Q (F0 m 2 ls []) := by
    intro n2
    induction n2 with
    | zero => intro v1 M2 H locs ls hP hS hl h; have h : (none : Option Mem) = some o := h; cases h
    | succ n2 ih2 =>
      intro v1 M2 H locs ls hP hS hl h
      have h : sX3_fillPowers_2 a1 N (lp (fun _ _ => none) (sX3_fillPowers_2 a1 N) n2) v1 M2 = some o := h
      generalize lp (fun _ _ => none) (sX3_fillPowers_2 a1 N) n2 = cont2 at h ih2
      unfold sX3_fillPowers_2 at h
      refine lv_iload_n hx hb dX3_fillPowers_2 rfl (lv_at hl 2 rfl) ?_
      refine lv_iload_n hx hb dX3_fillPowers_3 rfl (lv_at hl 1 rfl) ?_
      refine lv_icmp_ge (tgt := 50) hx hb dX3_fillPowers_4 (by decide) (fun cd => ?_) (fun cd => ?_)
      · have h := (if_pos cd).symm.trans h
        cases h
        exact hret H locs _ ls hP hS dX3_fillPowers_50
      · have h := (if_neg cd).symm.trans h
        refine lv_iconst (v := (1 : Int32)) hx hb dX3_fillPowers_7 (by decide) ?_
        refine lv_istore_n (lv' := [(3, .int (1 : Int32)), (0, .ref (ad 21)), (1, .int a1), (2, .int v1)]) hx hb dX3_fillPowers_8 rfl hl (by decide) rfl (fun ls hl => ?_)
        refine lv_iconst (v := (0 : Int32)) hx hb dX3_fillPowers_9 (by decide) ?_
        refine lv_istore (lv' := [(4, .int (0 : Int32)), (3, .int (1 : Int32)), (0, .ref (ad 21)), (1, .int a1), (2, .int v1)]) hx hb dX3_fillPowers_10 hl (by decide) rfl (fun ls hl => ?_)
        obtain ⟨M3, h1, h⟩ := rs_bind h
        have hJ4 : ∀ (H : Heap) (locs : List Loc) (ls : Array Slot), va_P D vwCl (xW ad cI cJ M3) H → va_S (xA ad) s.heap H locs → lv_has ls 5 [(0, .ref (ad 21)), (1, .int a1), (2, .int v1)] → W p l e rX3_fillPowers s m args below meth c H locs 0 0 Q (F0 m 44 ls []) := by
          intro H locs ls hP hS hl
          refine lv_iinc (v := (v1 + 1)) (lv' := [(2, .int (v1 + 1)), (0, .ref (ad 21)), (1, .int a1)]) hx hb dX3_fillPowers_44 hl (k := 2) rfl rfl (by decide) rfl (fun ls hl => ?_)
          refine lv_goto (tgt := 2) hx hb dX3_fillPowers_47 (by decide) ?_
          exact ih2 _ _ H locs ls hP hS (lv_sub hl [1, 2, 0] rfl) h
        replace h := h1
        clear h1
        have hL12 : ∀ (n12 : Nat) (v5 : Int32) (v6 : Int32) (M7 : Mem) (H : Heap) (locs : List Loc) (ls : Array Slot), va_P D vwCl (xW ad cI cJ M7) H → va_S (xA ad) s.heap H locs → lv_has ls 5 [(0, .ref (ad 21)), (1, .int a1), (2, .int v1), (3, .int v5), (4, .int v6)] → lp (fun _ _ _ => none) (sX3_fillPowers_12 v1 a1) n12 v5 v6 M7 = some M3 → W p l e rX3_fillPowers s m args below meth c H locs 0 0 Q (F0 m 12 ls []) := by
          intro n12
          induction n12 with
          | zero => intro v5 v6 M7 H locs ls hP hS hl h; have h : (none : Option Mem) = some M3 := h; cases h
          | succ n12 ih12 =>
            intro v5 v6 M7 H locs ls hP hS hl h
            have h : sX3_fillPowers_12 v1 a1 (lp (fun _ _ _ => none) (sX3_fillPowers_12 v1 a1) n12) v5 v6 M7 = some M3 := h
            generalize lp (fun _ _ _ => none) (sX3_fillPowers_12 v1 a1) n12 = cont12 at h ih12
            unfold sX3_fillPowers_12 at h
            refine lv_iload hx hb dX3_fillPowers_12 (lv_at hl 4 rfl) ?_
            refine lv_bipush (v := (7 : Int32)) hx hb dX3_fillPowers_14 (by decide) ?_
            refine lv_icmp_ge (tgt := 44) hx hb dX3_fillPowers_16 (by decide) (fun cd => ?_) (fun cd => ?_)
            · have h := (if_pos cd).symm.trans h
              cases h
              exact hJ4 H locs ls hP hS (lv_sub hl [0, 1, 2] rfl)
            · have h := (if_neg cd).symm.trans h
              refine lv_aload_n hx hb dX3_fillPowers_19 rfl (lv_at hl 0 rfl) ?_
              refine gfX3_22 C hP dX3_fillPowers_20 ?_
              refine lv_iload_n hx hb dX3_fillPowers_23 rfl (lv_at hl 2 rfl) ?_
              refine lv_bipush (v := (7 : Int32)) hx hb dX3_fillPowers_24 (by decide) ?_
              refine lv_imul hx hb dX3_fillPowers_26 ?_
              refine lv_iload hx hb dX3_fillPowers_27 (lv_at hl 4 rfl) ?_
              refine lv_iadd hx hb dX3_fillPowers_29 ?_
              refine lv_iload_n hx hb dX3_fillPowers_30 rfl (lv_at hl 3 rfl) ?_
              refine rs_iast C hP hS xIA_23 dX3_fillPowers_31 h (fun M8 h H locs hP hS => ?_)
              refine lv_iload_n hx hb dX3_fillPowers_32 rfl (lv_at hl 3 rfl) ?_
              refine lv_iload_n hx hb dX3_fillPowers_33 rfl (lv_at hl 2 rfl) ?_
              refine lv_imul hx hb dX3_fillPowers_34 ?_
              refine lv_iload_n hx hb dX3_fillPowers_35 rfl (lv_at hl 1 rfl) ?_
              refine rs_irem C dX3_fillPowers_36 h (fun v9 h => ?_)
              refine lv_istore_n (lv' := [(3, .int v9), (0, .ref (ad 21)), (1, .int a1), (2, .int v1), (4, .int v6)]) hx hb dX3_fillPowers_37 rfl hl (by decide) rfl (fun ls hl => ?_)
              refine lv_iinc (v := (v6 + 1)) (lv' := [(4, .int (v6 + 1)), (3, .int v9), (0, .ref (ad 21)), (1, .int a1), (2, .int v1)]) hx hb dX3_fillPowers_38 hl (k := 4) rfl rfl (by decide) rfl (fun ls hl => ?_)
              refine lv_goto (tgt := 12) hx hb dX3_fillPowers_41 (by decide) ?_
              exact ih12 _ _ _ H locs ls hP hS (lv_sub hl [2, 3, 4, 1, 0] rfl) h
        exact hL12 N _ _ _ H locs ls hP hS (lv_sub hl [2, 3, 4, 1, 0] rfl) h
  exact hL2 N _ _ H locs ls hP hS (lv_sub hl [1, 2, 0] rfl) h
abbrev rX3_isNought : Room := { frames := 0, cells := 0, slots := 0, locals := 0 }
theorem dX3_isNought_0 : decode cX3_isNought 0 = .ok (.iconst 0, 1) := by decide +kernel
theorem dX3_isNought_1 : decode cX3_isNought 1 = .ok (.istore 5, 2) := by decide +kernel
theorem dX3_isNought_3 : decode cX3_isNought 3 = .ok (.iconst 0, 1) := by decide +kernel
theorem dX3_isNought_4 : decode cX3_isNought 4 = .ok (.istore 6, 2) := by decide +kernel
theorem dX3_isNought_6 : decode cX3_isNought 6 = .ok (.iload 6, 2) := by decide +kernel
theorem dX3_isNought_8 : decode cX3_isNought 8 = .ok (.aload_n 1, 1) := by decide +kernel
theorem dX3_isNought_9 : decode cX3_isNought 9 = .ok (.getfield 37, 3) := by decide +kernel
theorem dX3_isNought_12 : decode cX3_isNought 12 = .ok (.if_icmp .ge 57, 3) := by decide +kernel
theorem dX3_isNought_15 : decode cX3_isNought 15 = .ok (.iload 5, 2) := by decide +kernel
theorem dX3_isNought_17 : decode cX3_isNought 17 = .ok (.aload_n 1, 1) := by decide +kernel
theorem dX3_isNought_18 : decode cX3_isNought 18 = .ok (.getfield 42, 3) := by decide +kernel
theorem dX3_isNought_21 : decode cX3_isNought 21 = .ok (.iload 6, 2) := by decide +kernel
theorem dX3_isNought_23 : decode cX3_isNought 23 = .ok (.iaload, 1) := by decide +kernel
theorem dX3_isNought_24 : decode cX3_isNought 24 = .ok (.aload_n 0, 1) := by decide +kernel
theorem dX3_isNought_25 : decode cX3_isNought 25 = .ok (.getfield 22, 3) := by decide +kernel
theorem dX3_isNought_28 : decode cX3_isNought 28 = .ok (.iload_n 2, 1) := by decide +kernel
theorem dX3_isNought_29 : decode cX3_isNought 29 = .ok (.bipush 7, 2) := by decide +kernel
theorem dX3_isNought_31 : decode cX3_isNought 31 = .ok (.imul, 1) := by decide +kernel
theorem dX3_isNought_32 : decode cX3_isNought 32 = .ok (.aload_n 1, 1) := by decide +kernel
theorem dX3_isNought_33 : decode cX3_isNought 33 = .ok (.getfield 45, 3) := by decide +kernel
theorem dX3_isNought_36 : decode cX3_isNought 36 = .ok (.iload 6, 2) := by decide +kernel
theorem dX3_isNought_38 : decode cX3_isNought 38 = .ok (.iaload, 1) := by decide +kernel
theorem dX3_isNought_39 : decode cX3_isNought 39 = .ok (.iadd, 1) := by decide +kernel
theorem dX3_isNought_40 : decode cX3_isNought 40 = .ok (.iaload, 1) := by decide +kernel
theorem dX3_isNought_41 : decode cX3_isNought 41 = .ok (.imul, 1) := by decide +kernel
theorem dX3_isNought_42 : decode cX3_isNought 42 = .ok (.aload_n 0, 1) := by decide +kernel
theorem dX3_isNought_43 : decode cX3_isNought 43 = .ok (.getfield 22, 3) := by decide +kernel
theorem dX3_isNought_46 : decode cX3_isNought 46 = .ok (.iload_n 3, 1) := by decide +kernel
theorem dX3_isNought_47 : decode cX3_isNought 47 = .ok (.bipush 7, 2) := by decide +kernel
theorem dX3_isNought_49 : decode cX3_isNought 49 = .ok (.imul, 1) := by decide +kernel
theorem dX3_isNought_50 : decode cX3_isNought 50 = .ok (.aload_n 1, 1) := by decide +kernel
theorem dX3_isNought_51 : decode cX3_isNought 51 = .ok (.getfield 48, 3) := by decide +kernel
theorem dX3_isNought_54 : decode cX3_isNought 54 = .ok (.iload 6, 2) := by decide +kernel
theorem dX3_isNought_56 : decode cX3_isNought 56 = .ok (.iaload, 1) := by decide +kernel
theorem dX3_isNought_57 : decode cX3_isNought 57 = .ok (.iadd, 1) := by decide +kernel
theorem dX3_isNought_58 : decode cX3_isNought 58 = .ok (.iaload, 1) := by decide +kernel
theorem dX3_isNought_59 : decode cX3_isNought 59 = .ok (.imul, 1) := by decide +kernel
theorem dX3_isNought_60 : decode cX3_isNought 60 = .ok (.iadd, 1) := by decide +kernel
theorem dX3_isNought_61 : decode cX3_isNought 61 = .ok (.istore 5, 2) := by decide +kernel
theorem dX3_isNought_63 : decode cX3_isNought 63 = .ok (.iinc 6 1, 3) := by decide +kernel
theorem dX3_isNought_66 : decode cX3_isNought 66 = .ok (.goto (-60), 3) := by decide +kernel
theorem dX3_isNought_69 : decode cX3_isNought 69 = .ok (.iload 5, 2) := by decide +kernel
theorem dX3_isNought_71 : decode cX3_isNought 71 = .ok (.iload 4, 2) := by decide +kernel
theorem dX3_isNought_73 : decode cX3_isNought 73 = .ok (.irem, 1) := by decide +kernel
theorem dX3_isNought_74 : decode cX3_isNought 74 = .ok (.ifCond .ne 7, 3) := by decide +kernel
theorem dX3_isNought_77 : decode cX3_isNought 77 = .ok (.iconst 1, 1) := by decide +kernel
theorem dX3_isNought_78 : decode cX3_isNought 78 = .ok (.goto 4, 3) := by decide +kernel
theorem dX3_isNought_81 : decode cX3_isNought 81 = .ok (.iconst 0, 1) := by decide +kernel
theorem dX3_isNought_82 : decode cX3_isNought 82 = .ok (.ireturn, 1) := by decide +kernel
set_option maxRecDepth 100000 in
set_option maxHeartbeats 4000000 in
theorem kX3_isNought (l : Launch) (D : va_G) (ad : Nat → Nat) (cI cJ : ClassId) (tP tR : Nat) (N : Nat) (M : Mem) (a1 : Nat) (a2 : Int32) (a3 : Int32) (a4 : Int32) (ha1 : a1 = 1 ∨ a1 = 6) (o : Int32) (h : fX3_isNought N M a1 a2 a3 a4 = some o) : qMet l D cI cJ tP tR (xA ad) (xW ad cI cJ) yX3_isNought cX3_isNought 7 (some .boolean) rX3_isNought [.ref (ad 21), .ref (ad a1), .int a2, .int a3, .int a4] M (qQi D (xA ad) (xW ad cI cJ) o M) := by
  refine rs_enterZ (own := RX3) ⟨by decide +kernel, rfl, Nat.le_of_ble_eq_true rfl⟩ ?_
  intro p e s m args below meth c Q C hret H locs ls hP hS hl
  obtain ⟨hx, hb, -⟩ := id C
  have hl : lv_has ls 7 [(0, .ref (ad 21)), (1, .ref (ad a1)), (2, .int a2), (3, .int a3), (4, .int a4)] := hl
  unfold fX3_isNought at h
  refine lv_iconst (v := (0 : Int32)) hx hb dX3_isNought_0 (by decide) ?_
  refine lv_istore (lv' := [(5, .int (0 : Int32)), (0, .ref (ad 21)), (1, .ref (ad a1)), (2, .int a2), (3, .int a3), (4, .int a4)]) hx hb dX3_isNought_1 hl (by decide) rfl (fun ls hl => ?_)
  refine lv_iconst (v := (0 : Int32)) hx hb dX3_isNought_3 (by decide) ?_
  refine lv_istore (lv' := [(6, .int (0 : Int32)), (5, .int (0 : Int32)), (0, .ref (ad 21)), (1, .ref (ad a1)), (2, .int a2), (3, .int a3), (4, .int a4)]) hx hb dX3_isNought_4 hl (by decide) rfl (fun ls hl => ?_)
  obtain ⟨v1, h1, h⟩ := rs_bind h
  have hJ3 : ∀ (H : Heap) (locs : List Loc) (ls : Array Slot), va_P D vwCl (xW ad cI cJ M) H → va_S (xA ad) s.heap H locs → lv_has ls 7 [(4, .int a4), (5, .int v1)] → W p l e rX3_isNought s m args below meth c H locs 0 0 Q (F0 m 69 ls []) := by
    intro H locs ls hP hS hl
    refine lv_iload hx hb dX3_isNought_69 (lv_at hl 1 rfl) ?_
    refine lv_iload hx hb dX3_isNought_71 (lv_at hl 0 rfl) ?_
    refine rs_irem C dX3_isNought_73 h (fun v2 h => ?_)
    refine lv_if_ne (tgt := 81) hx hb dX3_isNought_74 (by decide) (fun cd => ?_) (fun cd => ?_)
    · have h := (if_neg cd).symm.trans h
      refine lv_iconst (v := (0 : Int32)) hx hb dX3_isNought_81 (by decide) ?_
      obtain ⟨rfl, hz⟩ := rs_okZ h
      exact hret H locs _ ls hz hP hS dX3_isNought_82
    · have h := (if_pos cd).symm.trans h
      refine lv_iconst (v := (1 : Int32)) hx hb dX3_isNought_77 (by decide) ?_
      refine lv_goto (tgt := 82) hx hb dX3_isNought_78 (by decide) ?_
      obtain ⟨rfl, hz⟩ := rs_okZ h
      exact hret H locs _ ls hz hP hS dX3_isNought_82
  replace h := h1
  clear h1
  have hL6 : ∀ (n6 : Nat) (v4 : Int32) (v5 : Int32) (H : Heap) (locs : List Loc) (ls : Array Slot), va_P D vwCl (xW ad cI cJ M) H → va_S (xA ad) s.heap H locs → lv_has ls 7 [(0, .ref (ad 21)), (1, .ref (ad a1)), (2, .int a2), (3, .int a3), (4, .int a4), (5, .int v4), (6, .int v5)] → lp (fun _ _ => none) (sX3_isNought_6 M a1 a2 a3) n6 v4 v5 = some v1 → W p l e rX3_isNought s m args below meth c H locs 0 0 Q (F0 m 6 ls []) := by
    intro n6
    induction n6 with
    | zero => intro v4 v5 H locs ls hP hS hl h; have h : (none : Option Int32) = some v1 := h; cases h
    | succ n6 ih6 =>
      intro v4 v5 H locs ls hP hS hl h
      have h : sX3_isNought_6 M a1 a2 a3 (lp (fun _ _ => none) (sX3_isNought_6 M a1 a2 a3) n6) v4 v5 = some v1 := h
      generalize lp (fun _ _ => none) (sX3_isNought_6 M a1 a2 a3) n6 = cont6 at h ih6
      unfold sX3_isNought_6 at h
      refine lv_iload hx hb dX3_isNought_6 (lv_at hl 6 rfl) ?_
      refine lv_aload_n hx hb dX3_isNought_8 rfl (lv_at hl 1 rfl) ?_
      refine gfX3_37 C hP ha1 dX3_isNought_9 ?_
      refine lv_icmp_ge (tgt := 69) hx hb dX3_isNought_12 (by decide) (fun cd => ?_) (fun cd => ?_)
      · have h := (if_pos cd).symm.trans h
        cases h
        exact hJ3 H locs ls hP hS (lv_sub hl [4, 5] rfl)
      · have h := (if_neg cd).symm.trans h
        refine lv_iload hx hb dX3_isNought_15 (lv_at hl 5 rfl) ?_
        refine lv_aload_n hx hb dX3_isNought_17 rfl (lv_at hl 1 rfl) ?_
        refine gfX3_42 C hP ha1 dX3_isNought_18 ?_
        refine lv_iload hx hb dX3_isNought_21 (lv_at hl 6 rfl) ?_
        refine rs_iald C hP (xIA_e3 ha1) dX3_isNought_23 h (fun v6 h => ?_)
        refine lv_aload_n hx hb dX3_isNought_24 rfl (lv_at hl 0 rfl) ?_
        refine gfX3_22 C hP dX3_isNought_25 ?_
        refine lv_iload_n hx hb dX3_isNought_28 rfl (lv_at hl 2 rfl) ?_
        refine lv_bipush (v := (7 : Int32)) hx hb dX3_isNought_29 (by decide) ?_
        refine lv_imul hx hb dX3_isNought_31 ?_
        refine lv_aload_n hx hb dX3_isNought_32 rfl (lv_at hl 1 rfl) ?_
        refine gfX3_45 C hP ha1 dX3_isNought_33 ?_
        refine lv_iload hx hb dX3_isNought_36 (lv_at hl 6 rfl) ?_
        refine rs_iald C hP (xIA_e1 ha1) dX3_isNought_38 h (fun v7 h => ?_)
        refine lv_iadd hx hb dX3_isNought_39 ?_
        refine rs_iald C hP xIA_23 dX3_isNought_40 h (fun v8 h => ?_)
        refine lv_imul hx hb dX3_isNought_41 ?_
        refine lv_aload_n hx hb dX3_isNought_42 rfl (lv_at hl 0 rfl) ?_
        refine gfX3_22 C hP dX3_isNought_43 ?_
        refine lv_iload_n hx hb dX3_isNought_46 rfl (lv_at hl 3 rfl) ?_
        refine lv_bipush (v := (7 : Int32)) hx hb dX3_isNought_47 (by decide) ?_
        refine lv_imul hx hb dX3_isNought_49 ?_
        refine lv_aload_n hx hb dX3_isNought_50 rfl (lv_at hl 1 rfl) ?_
        refine gfX3_48 C hP ha1 dX3_isNought_51 ?_
        refine lv_iload hx hb dX3_isNought_54 (lv_at hl 6 rfl) ?_
        refine rs_iald C hP (xIA_e2 ha1) dX3_isNought_56 h (fun v9 h => ?_)
        refine lv_iadd hx hb dX3_isNought_57 ?_
        refine rs_iald C hP xIA_23 dX3_isNought_58 h (fun v10 h => ?_)
        refine lv_imul hx hb dX3_isNought_59 ?_
        refine lv_iadd hx hb dX3_isNought_60 ?_
        refine lv_istore (lv' := [(5, .int (v4 + ((v6 * v8) * v10))), (0, .ref (ad 21)), (1, .ref (ad a1)), (2, .int a2), (3, .int a3), (4, .int a4), (6, .int v5)]) hx hb dX3_isNought_61 hl (by decide) rfl (fun ls hl => ?_)
        refine lv_iinc (v := (v5 + 1)) (lv' := [(6, .int (v5 + 1)), (5, .int (v4 + ((v6 * v8) * v10))), (0, .ref (ad 21)), (1, .ref (ad a1)), (2, .int a2), (3, .int a3), (4, .int a4)]) hx hb dX3_isNought_63 hl (k := 6) rfl rfl (by decide) rfl (fun ls hl => ?_)
        refine lv_goto (tgt := 6) hx hb dX3_isNought_66 (by decide) ?_
        exact ih6 _ _ H locs ls hP hS (lv_sub hl [2, 3, 4, 5, 6, 1, 0] rfl) h
  exact hL6 N _ _ H locs ls hP hS (lv_sub hl [2, 3, 4, 5, 6, 1, 0] rfl) h
abbrev rX3_find : Room := { frames := 1, cells := 0, slots := 0, locals := 26 }
theorem dX3_find_0 : decode cX3_find 0 = .ok (.iload_n 3, 1) := by decide +kernel
theorem dX3_find_1 : decode cX3_find 1 = .ok (.aload_n 0, 1) := by decide +kernel
theorem dX3_find_2 : decode cX3_find 2 = .ok (.getfield 19, 3) := by decide +kernel
theorem dX3_find_5 : decode cX3_find 5 = .ok (.if_icmp .eq 13, 3) := by decide +kernel
theorem dX3_find_8 : decode cX3_find 8 = .ok (.iload_n 3, 1) := by decide +kernel
theorem dX3_find_9 : decode cX3_find 9 = .ok (.iconst 2, 1) := by decide +kernel
theorem dX3_find_10 : decode cX3_find 10 = .ok (.bipush 31, 2) := by decide +kernel
theorem dX3_find_12 : decode cX3_find 12 = .ok (.invokestatic 25, 3) := by decide +kernel
theorem dX3_find_15 : decode cX3_find 15 = .ok (.ifCond .ne 4, 3) := by decide +kernel
theorem dX3_find_18 : decode cX3_find 18 = .ok (.return_, 1) := by decide +kernel
theorem dX3_find_19 : decode cX3_find 19 = .ok (.aload_n 0, 1) := by decide +kernel
theorem dX3_find_20 : decode cX3_find 20 = .ok (.iload_n 3, 1) := by decide +kernel
theorem dX3_find_21 : decode cX3_find 21 = .ok (.putfield 19, 3) := by decide +kernel
theorem dX3_find_24 : decode cX3_find 24 = .ok (.aload_n 0, 1) := by decide +kernel
theorem dX3_find_25 : decode cX3_find 25 = .ok (.iconst 0, 1) := by decide +kernel
theorem dX3_find_26 : decode cX3_find 26 = .ok (.putfield 15, 3) := by decide +kernel
theorem dX3_find_29 : decode cX3_find 29 = .ok (.aload_n 0, 1) := by decide +kernel
theorem dX3_find_30 : decode cX3_find 30 = .ok (.iload_n 3, 1) := by decide +kernel
theorem dX3_find_31 : decode cX3_find 31 = .ok (.invokevirtual 29, 3) := by decide +kernel
theorem dX3_find_34 : decode cX3_find 34 = .ok (.iconst 1, 1) := by decide +kernel
theorem dX3_find_35 : decode cX3_find 35 = .ok (.istore 4, 2) := by decide +kernel
theorem dX3_find_37 : decode cX3_find 37 = .ok (.iload 4, 2) := by decide +kernel
theorem dX3_find_39 : decode cX3_find 39 = .ok (.iload_n 3, 1) := by decide +kernel
theorem dX3_find_40 : decode cX3_find 40 = .ok (.if_icmp .ge 89, 3) := by decide +kernel
theorem dX3_find_43 : decode cX3_find 43 = .ok (.iconst 1, 1) := by decide +kernel
theorem dX3_find_44 : decode cX3_find 44 = .ok (.istore 5, 2) := by decide +kernel
theorem dX3_find_46 : decode cX3_find 46 = .ok (.iload 5, 2) := by decide +kernel
theorem dX3_find_48 : decode cX3_find 48 = .ok (.iload_n 3, 1) := by decide +kernel
theorem dX3_find_49 : decode cX3_find 49 = .ok (.if_icmp .ge 74, 3) := by decide +kernel
theorem dX3_find_52 : decode cX3_find 52 = .ok (.aload_n 0, 1) := by decide +kernel
theorem dX3_find_53 : decode cX3_find 53 = .ok (.getfield 15, 3) := by decide +kernel
theorem dX3_find_56 : decode cX3_find 56 = .ok (.aload_n 0, 1) := by decide +kernel
theorem dX3_find_57 : decode cX3_find 57 = .ok (.getfield 9, 3) := by decide +kernel
theorem dX3_find_60 : decode cX3_find 60 = .ok (.arraylength, 1) := by decide +kernel
theorem dX3_find_61 : decode cX3_find 61 = .ok (.if_icmp .ge 56, 3) := by decide +kernel
theorem dX3_find_64 : decode cX3_find 64 = .ok (.aload_n 0, 1) := by decide +kernel
theorem dX3_find_65 : decode cX3_find 65 = .ok (.aload_n 1, 1) := by decide +kernel
theorem dX3_find_66 : decode cX3_find 66 = .ok (.iload 4, 2) := by decide +kernel
theorem dX3_find_68 : decode cX3_find 68 = .ok (.iload 5, 2) := by decide +kernel
theorem dX3_find_70 : decode cX3_find 70 = .ok (.iload_n 3, 1) := by decide +kernel
theorem dX3_find_71 : decode cX3_find 71 = .ok (.invokevirtual 33, 3) := by decide +kernel
theorem dX3_find_74 : decode cX3_find 74 = .ok (.ifCond .eq 43, 3) := by decide +kernel
theorem dX3_find_77 : decode cX3_find 77 = .ok (.aload_n 0, 1) := by decide +kernel
theorem dX3_find_78 : decode cX3_find 78 = .ok (.aload_n 2, 1) := by decide +kernel
theorem dX3_find_79 : decode cX3_find 79 = .ok (.iload 4, 2) := by decide +kernel
theorem dX3_find_81 : decode cX3_find 81 = .ok (.iload 5, 2) := by decide +kernel
theorem dX3_find_83 : decode cX3_find 83 = .ok (.iload_n 3, 1) := by decide +kernel
theorem dX3_find_84 : decode cX3_find 84 = .ok (.invokevirtual 33, 3) := by decide +kernel
theorem dX3_find_87 : decode cX3_find 87 = .ok (.ifCond .eq 30, 3) := by decide +kernel
theorem dX3_find_90 : decode cX3_find 90 = .ok (.aload_n 0, 1) := by decide +kernel
theorem dX3_find_91 : decode cX3_find 91 = .ok (.getfield 9, 3) := by decide +kernel
theorem dX3_find_94 : decode cX3_find 94 = .ok (.aload_n 0, 1) := by decide +kernel
theorem dX3_find_95 : decode cX3_find 95 = .ok (.getfield 15, 3) := by decide +kernel
theorem dX3_find_98 : decode cX3_find 98 = .ok (.bipush 100, 2) := by decide +kernel
theorem dX3_find_100 : decode cX3_find 100 = .ok (.iload 4, 2) := by decide +kernel
theorem dX3_find_102 : decode cX3_find 102 = .ok (.imul, 1) := by decide +kernel
theorem dX3_find_103 : decode cX3_find 103 = .ok (.iload 5, 2) := by decide +kernel
theorem dX3_find_105 : decode cX3_find 105 = .ok (.iadd, 1) := by decide +kernel
theorem dX3_find_106 : decode cX3_find 106 = .ok (.iastore, 1) := by decide +kernel
theorem dX3_find_107 : decode cX3_find 107 = .ok (.aload_n 0, 1) := by decide +kernel
theorem dX3_find_108 : decode cX3_find 108 = .ok (.dup, 1) := by decide +kernel
theorem dX3_find_109 : decode cX3_find 109 = .ok (.getfield 15, 3) := by decide +kernel
theorem dX3_find_112 : decode cX3_find 112 = .ok (.iconst 1, 1) := by decide +kernel
theorem dX3_find_113 : decode cX3_find 113 = .ok (.iadd, 1) := by decide +kernel
theorem dX3_find_114 : decode cX3_find 114 = .ok (.putfield 15, 3) := by decide +kernel
theorem dX3_find_117 : decode cX3_find 117 = .ok (.iinc 5 1, 3) := by decide +kernel
theorem dX3_find_120 : decode cX3_find 120 = .ok (.goto (-74), 3) := by decide +kernel
theorem dX3_find_123 : decode cX3_find 123 = .ok (.iinc 4 1, 3) := by decide +kernel
theorem dX3_find_126 : decode cX3_find 126 = .ok (.goto (-89), 3) := by decide +kernel
theorem dX3_find_129 : decode cX3_find 129 = .ok (.return_, 1) := by decide +kernel
set_option maxRecDepth 100000 in
set_option maxHeartbeats 4000000 in
theorem kX3_find (l : Launch) (D : va_G) (ad : Nat → Nat) (cI cJ : ClassId) (tP tR : Nat) (N : Nat) (M : Mem) (a1 : Nat) (a2 : Nat) (a3 : Int32) (ha1 : a1 = 1 ∨ a1 = 6) (ha2 : a2 = 1 ∨ a2 = 6) (o : Mem) (h : fX3_find N M a1 a2 a3 = some o) : qMet l D cI cJ tP tR (xA ad) (xW ad cI cJ) yX3_find cX3_find 6 none rX3_find [.ref (ad 21), .ref (ad a1), .ref (ad a2), .int a3] M (qQv D (xA ad) (xW ad cI cJ) o) := by
  refine rs_enterV (own := RX3) ⟨by decide +kernel, rfl, Nat.le_of_ble_eq_true rfl⟩ ?_
  intro p e s m args below meth c Q C hret H locs ls hP hS hl
  obtain ⟨hx, hb, -⟩ := id C
  have hl : lv_has ls 6 [(0, .ref (ad 21)), (1, .ref (ad a1)), (2, .ref (ad a2)), (3, .int a3)] := hl
  unfold fX3_find at h
  refine lv_iload_n hx hb dX3_find_0 rfl (lv_at hl 3 rfl) ?_
  refine lv_aload_n hx hb dX3_find_1 rfl (lv_at hl 0 rfl) ?_
  refine gfX3_19 C hP dX3_find_2 ?_
  refine lv_icmp_eq (tgt := 18) hx hb dX3_find_5 (by decide) (fun cd => ?_) (fun cd => ?_)
  · have h := (if_pos cd).symm.trans h
    cases h
    exact hret H locs _ ls hP hS dX3_find_18
  · have h := (if_neg cd).symm.trans h
    refine lv_iload_n hx hb dX3_find_8 rfl (lv_at hl 3 rfl) ?_
    refine lv_iconst (v := (2 : Int32)) hx hb dX3_find_9 (by decide) ?_
    refine lv_bipush (v := (31 : Int32)) hx hb dX3_find_10 (by decide) ?_
    obtain ⟨v1, h1, h⟩ := rs_bind h
    refine rs_goI (rs_runN (As := [.int a3, .int (2 : Int32), .int (31 : Int32)]) (rest := []) C hP hS (kX5_within l D ad cI cJ tP tR M a3 (2 : Int32) (31 : Int32) _ h1) mk_X5_within (nl_X3_25) rfl ⟨rfl, rfl, Nat.le_of_ble_eq_true rfl, Nat.le_of_ble_eq_true rfl⟩ rfl hl.1 (Nat.le_of_ble_eq_true rfl) dX3_find_12) hS (fun H locs hP hS => ?_)
    refine lv_if_ne (tgt := 19) hx hb dX3_find_15 (by decide) (fun cd => ?_) (fun cd => ?_)
    · have h := (if_neg cd).symm.trans h
      refine lv_aload_n hx hb dX3_find_19 rfl (lv_at hl 0 rfl) ?_
      refine lv_iload_n hx hb dX3_find_20 rfl (lv_at hl 3 rfl) ?_
      refine pfX3_19 C hP hS dX3_find_21 h (fun M2 h H locs hP hS => ?_)
      refine lv_aload_n hx hb dX3_find_24 rfl (lv_at hl 0 rfl) ?_
      refine lv_iconst (v := (0 : Int32)) hx hb dX3_find_25 (by decide) ?_
      refine pfX3_15 C hP hS dX3_find_26 h (fun M3 h H locs hP hS => ?_)
      refine lv_aload_n hx hb dX3_find_29 rfl (lv_at hl 0 rfl) ?_
      refine lv_iload_n hx hb dX3_find_30 rfl (lv_at hl 3 rfl) ?_
      obtain ⟨M4, h1, h⟩ := rs_bind h
      refine rs_goV (rs_runV (b := 21) (As := [.int a3]) (rest := []) C hP hS (kX3_fillPowers l D ad cI cJ tP tR N M3 a3 _ h1) mk_X3_fillPowers wd_497 (xR_21) rfl ⟨rfl, rfl, Nat.le_of_ble_eq_true rfl, Nat.le_of_ble_eq_true rfl⟩ rfl hl.1 (Nat.le_of_ble_eq_true rfl) dX3_find_31) hS (fun H locs hP hS => ?_)
      refine lv_iconst (v := (1 : Int32)) hx hb dX3_find_34 (by decide) ?_
      refine lv_istore (lv' := [(4, .int (1 : Int32)), (0, .ref (ad 21)), (1, .ref (ad a1)), (2, .ref (ad a2)), (3, .int a3)]) hx hb dX3_find_35 hl (by decide) rfl (fun ls hl => ?_)
      have hL37 : ∀ (n37 : Nat) (v5 : Int32) (M6 : Mem) (H : Heap) (locs : List Loc) (ls : Array Slot), va_P D vwCl (xW ad cI cJ M6) H → va_S (xA ad) s.heap H locs → lv_has ls 6 [(0, .ref (ad 21)), (1, .ref (ad a1)), (2, .ref (ad a2)), (3, .int a3), (4, .int v5)] → lp (fun _ _ => none) (sX3_find_37 a3 N a1 a2) n37 v5 M6 = some o → W p l e rX3_find s m args below meth c H locs 0 0 Q (F0 m 37 ls []) := by
        intro n37
        induction n37 with
        | zero => intro v5 M6 H locs ls hP hS hl h; have h : (none : Option Mem) = some o := h; cases h
        | succ n37 ih37 =>
          intro v5 M6 H locs ls hP hS hl h
          have h : sX3_find_37 a3 N a1 a2 (lp (fun _ _ => none) (sX3_find_37 a3 N a1 a2) n37) v5 M6 = some o := h
          generalize lp (fun _ _ => none) (sX3_find_37 a3 N a1 a2) n37 = cont37 at h ih37
          unfold sX3_find_37 at h
          refine lv_iload hx hb dX3_find_37 (lv_at hl 4 rfl) ?_
          refine lv_iload_n hx hb dX3_find_39 rfl (lv_at hl 3 rfl) ?_
          refine lv_icmp_ge (tgt := 129) hx hb dX3_find_40 (by decide) (fun cd => ?_) (fun cd => ?_)
          · have h := (if_pos cd).symm.trans h
            cases h
            exact hret H locs _ ls hP hS dX3_find_129
          · have h := (if_neg cd).symm.trans h
            refine lv_iconst (v := (1 : Int32)) hx hb dX3_find_43 (by decide) ?_
            refine lv_istore (lv' := [(5, .int (1 : Int32)), (0, .ref (ad 21)), (1, .ref (ad a1)), (2, .ref (ad a2)), (3, .int a3), (4, .int v5)]) hx hb dX3_find_44 hl (by decide) rfl (fun ls hl => ?_)
            obtain ⟨M7, h1, h⟩ := rs_bind h
            have hJ8 : ∀ (H : Heap) (locs : List Loc) (ls : Array Slot), va_P D vwCl (xW ad cI cJ M7) H → va_S (xA ad) s.heap H locs → lv_has ls 6 [(0, .ref (ad 21)), (1, .ref (ad a1)), (2, .ref (ad a2)), (3, .int a3), (4, .int v5)] → W p l e rX3_find s m args below meth c H locs 0 0 Q (F0 m 123 ls []) := by
              intro H locs ls hP hS hl
              refine lv_iinc (v := (v5 + 1)) (lv' := [(4, .int (v5 + 1)), (0, .ref (ad 21)), (1, .ref (ad a1)), (2, .ref (ad a2)), (3, .int a3)]) hx hb dX3_find_123 hl (k := 4) rfl rfl (by decide) rfl (fun ls hl => ?_)
              refine lv_goto (tgt := 37) hx hb dX3_find_126 (by decide) ?_
              exact ih37 _ _ H locs ls hP hS (lv_sub hl [1, 2, 3, 4, 0] rfl) h
            replace h := h1
            clear h1
            have hL46 : ∀ (n46 : Nat) (v9 : Int32) (M10 : Mem) (H : Heap) (locs : List Loc) (ls : Array Slot), va_P D vwCl (xW ad cI cJ M10) H → va_S (xA ad) s.heap H locs → lv_has ls 6 [(0, .ref (ad 21)), (1, .ref (ad a1)), (2, .ref (ad a2)), (3, .int a3), (4, .int v5), (5, .int v9)] → lp (fun _ _ => none) (sX3_find_46 a3 N a1 v5 a2) n46 v9 M10 = some M7 → W p l e rX3_find s m args below meth c H locs 0 0 Q (F0 m 46 ls []) := by
              intro n46
              induction n46 with
              | zero => intro v9 M10 H locs ls hP hS hl h; have h : (none : Option Mem) = some M7 := h; cases h
              | succ n46 ih46 =>
                intro v9 M10 H locs ls hP hS hl h
                have h : sX3_find_46 a3 N a1 v5 a2 (lp (fun _ _ => none) (sX3_find_46 a3 N a1 v5 a2) n46) v9 M10 = some M7 := h
                generalize lp (fun _ _ => none) (sX3_find_46 a3 N a1 v5 a2) n46 = cont46 at h ih46
                unfold sX3_find_46 at h
                refine lv_iload hx hb dX3_find_46 (lv_at hl 5 rfl) ?_
                refine lv_iload_n hx hb dX3_find_48 rfl (lv_at hl 3 rfl) ?_
                refine lv_icmp_ge (tgt := 123) hx hb dX3_find_49 (by decide) (fun cd => ?_) (fun cd => ?_)
                · have h := (if_pos cd).symm.trans h
                  cases h
                  exact hJ8 H locs ls hP hS (lv_sub hl [0, 1, 2, 3, 4] rfl)
                · have h := (if_neg cd).symm.trans h
                  refine lv_aload_n hx hb dX3_find_52 rfl (lv_at hl 0 rfl) ?_
                  refine gfX3_15 C hP dX3_find_53 ?_
                  refine lv_aload_n hx hb dX3_find_56 rfl (lv_at hl 0 rfl) ?_
                  refine gfX3_9 C hP dX3_find_57 ?_
                  refine rs_alenI (v := (900 : Int32)) C hP xIA_22 rfl dX3_find_60 ?_
                  obtain ⟨M11, h1, h⟩ := rs_bind h
                  have hJ12 : ∀ (H : Heap) (locs : List Loc) (ls : Array Slot), va_P D vwCl (xW ad cI cJ M11) H → va_S (xA ad) s.heap H locs → lv_has ls 6 [(0, .ref (ad 21)), (1, .ref (ad a1)), (2, .ref (ad a2)), (3, .int a3), (4, .int v5), (5, .int v9)] → W p l e rX3_find s m args below meth c H locs 0 0 Q (F0 m 117 ls []) := by
                    intro H locs ls hP hS hl
                    refine lv_iinc (v := (v9 + 1)) (lv' := [(5, .int (v9 + 1)), (0, .ref (ad 21)), (1, .ref (ad a1)), (2, .ref (ad a2)), (3, .int a3), (4, .int v5)]) hx hb dX3_find_117 hl (k := 5) rfl rfl (by decide) rfl (fun ls hl => ?_)
                    refine lv_goto (tgt := 46) hx hb dX3_find_120 (by decide) ?_
                    exact ih46 _ _ H locs ls hP hS (lv_sub hl [1, 2, 3, 4, 5, 0] rfl) h
                  replace h := h1
                  clear h1
                  refine lv_icmp_ge (tgt := 117) hx hb dX3_find_61 (by decide) (fun cd => ?_) (fun cd => ?_)
                  · have h := (if_pos cd).symm.trans h
                    cases h
                    exact hJ12 H locs ls hP hS (lv_sub hl [0, 1, 2, 3, 4, 5] rfl)
                  · have h := (if_neg cd).symm.trans h
                    refine lv_aload_n hx hb dX3_find_64 rfl (lv_at hl 0 rfl) ?_
                    refine lv_aload_n hx hb dX3_find_65 rfl (lv_at hl 1 rfl) ?_
                    refine lv_iload hx hb dX3_find_66 (lv_at hl 4 rfl) ?_
                    refine lv_iload hx hb dX3_find_68 (lv_at hl 5 rfl) ?_
                    refine lv_iload_n hx hb dX3_find_70 rfl (lv_at hl 3 rfl) ?_
                    obtain ⟨v13, h1, h⟩ := rs_bind h
                    refine rs_goI (rs_runV (b := 21) (As := [.ref (ad a1), .int v5, .int v9, .int a3]) (rest := []) C hP hS (kX3_isNought l D ad cI cJ tP tR N M10 a1 v5 v9 a3 ha1 _ h1) mk_X3_isNought wd_501 (xR_21) rfl ⟨rfl, rfl, Nat.le_of_ble_eq_true rfl, Nat.le_of_ble_eq_true rfl⟩ rfl hl.1 (Nat.le_of_ble_eq_true rfl) dX3_find_71) hS (fun H locs hP hS => ?_)
                    refine lv_if_eq (tgt := 117) hx hb dX3_find_74 (by decide) (fun cd => ?_) (fun cd => ?_)
                    · have h := (if_pos cd).symm.trans h
                      cases h
                      exact hJ12 H locs ls hP hS (lv_sub hl [0, 1, 2, 3, 4, 5] rfl)
                    · have h := (if_neg cd).symm.trans h
                      refine lv_aload_n hx hb dX3_find_77 rfl (lv_at hl 0 rfl) ?_
                      refine lv_aload_n hx hb dX3_find_78 rfl (lv_at hl 2 rfl) ?_
                      refine lv_iload hx hb dX3_find_79 (lv_at hl 4 rfl) ?_
                      refine lv_iload hx hb dX3_find_81 (lv_at hl 5 rfl) ?_
                      refine lv_iload_n hx hb dX3_find_83 rfl (lv_at hl 3 rfl) ?_
                      obtain ⟨v14, h1, h⟩ := rs_bind h
                      refine rs_goI (rs_runV (b := 21) (As := [.ref (ad a2), .int v5, .int v9, .int a3]) (rest := []) C hP hS (kX3_isNought l D ad cI cJ tP tR N M10 a2 v5 v9 a3 ha2 _ h1) mk_X3_isNought wd_501 (xR_21) rfl ⟨rfl, rfl, Nat.le_of_ble_eq_true rfl, Nat.le_of_ble_eq_true rfl⟩ rfl hl.1 (Nat.le_of_ble_eq_true rfl) dX3_find_84) hS (fun H locs hP hS => ?_)
                      refine lv_if_eq (tgt := 117) hx hb dX3_find_87 (by decide) (fun cd => ?_) (fun cd => ?_)
                      · have h := (if_pos cd).symm.trans h
                        cases h
                        exact hJ12 H locs ls hP hS (lv_sub hl [0, 1, 2, 3, 4, 5] rfl)
                      · have h := (if_neg cd).symm.trans h
                        refine lv_aload_n hx hb dX3_find_90 rfl (lv_at hl 0 rfl) ?_
                        refine gfX3_9 C hP dX3_find_91 ?_
                        refine lv_aload_n hx hb dX3_find_94 rfl (lv_at hl 0 rfl) ?_
                        refine gfX3_15 C hP dX3_find_95 ?_
                        refine lv_bipush (v := (100 : Int32)) hx hb dX3_find_98 (by decide) ?_
                        refine lv_iload hx hb dX3_find_100 (lv_at hl 4 rfl) ?_
                        refine lv_imul hx hb dX3_find_102 ?_
                        refine lv_iload hx hb dX3_find_103 (lv_at hl 5 rfl) ?_
                        refine lv_iadd hx hb dX3_find_105 ?_
                        refine rs_iast C hP hS xIA_22 dX3_find_106 h (fun M15 h H locs hP hS => ?_)
                        refine lv_aload_n hx hb dX3_find_107 rfl (lv_at hl 0 rfl) ?_
                        refine lv_dup hx hb dX3_find_108 rfl ?_
                        refine gfX3_15 C hP dX3_find_109 ?_
                        refine lv_iconst (v := (1 : Int32)) hx hb dX3_find_112 (by decide) ?_
                        refine lv_iadd hx hb dX3_find_113 ?_
                        refine pfX3_15 C hP hS dX3_find_114 h (fun M16 h H locs hP hS => ?_)
                        cases h
                        exact hJ12 H locs ls hP hS (lv_sub hl [0, 1, 2, 3, 4, 5] rfl)
            exact hL46 N _ _ H locs ls hP hS (lv_sub hl [1, 2, 3, 4, 5, 0] rfl) h
      exact hL37 N _ _ H locs ls hP hS (lv_sub hl [1, 2, 3, 4, 0] rfl) h
    · have h := (if_pos cd).symm.trans h
      cases h
      exact hret H locs _ ls hP hS dX3_find_18

/-! promises 6, 7, 8 -/
def XQ (X : Mem) (E : Nat → Nat → Int32) (n0 n1 : Nat) : Prop := (∀ k, 1 ≤ k → k ≤ 10 → X.1 k = E k) ∧ E 1 4 = nI n0 ∧ E 6 4 = nI n1 ∧ okN E 1 n0 ∧ okN E 6 n1
theorem YQ.keep {M M' : Mem} {E : Nat → Nat → Int32} {n0 n1 : Nat} (h : YQ M E n0 n1) (hc : ∀ c, 1 ≤ c → c ≤ 5 → M'.1 c = M.1 c) : YQ M' E n0 n1 := by
  unfold YQ at *
  rw [hc 1 (by decide) (by decide), hc 2 (by decide) (by decide), hc 3 (by decide) (by decide), hc 5 (by decide) (by decide)]
  exact h
theorem XQ.keep {M M' : Mem} {E : Nat → Nat → Int32} {n0 n1 : Nat} (h : XQ M E n0 n1) (hc : ∀ c, 1 ≤ c → c ≤ 10 → M'.1 c = M.1 c) : XQ M' E n0 n1 :=
  ⟨fun k a b => by rw [hc k a b]; exact h.1 k a b, h.2⟩
theorem XQ.sim {X Y : Mem} {n0 n1 : Nat} (h0 : EqR X Y 1 0 0 n0) (h1 : EqR X Y 6 8 1 n1) : XQ X X.1 n0 n1 := ⟨fun _ _ _ => rfl, h0.1, h1.1, okN.of h0, okN.of h1⟩
theorem fg_box {E : Nat → Nat → Int32} {n0 n1 w : Nat} (h0 : okN E 1 n0) (h1 : okN E 6 n1) : box (fgx E n1 w) (fgy E n1 w) (fgn n0 n1 w) ∧ fgn n0 n1 w ≤ 64 := by
  obtain ⟨a0, b0⟩ := h0
  obtain ⟨a1, b1⟩ := h1
  have b0 : ∀ t, t < n0 → (0 ≤ (E 2 t).toInt ∧ (E 2 t).toInt ≤ 6) ∧ (0 ≤ (E 3 t).toInt ∧ (E 3 t).toInt ≤ 6) := fun t ht => ⟨(b0 t ht).1, (b0 t ht).2.1⟩
  have b1 : ∀ t, t < n1 → (0 ≤ (E 7 t).toInt ∧ (E 7 t).toInt ≤ 6) ∧ (0 ≤ (E 8 t).toInt ∧ (E 8 t).toInt ≤ 6) := fun t ht => ⟨(b1 t ht).1, (b1 t ht).2.1⟩
  constructor
  · intro k hk
    unfold fgx fgy
    unfold fgn at hk
    by_cases c0 : w = 0
    · rw [if_pos c0] at hk
      rw [if_pos c0, if_pos c0]
      have := b0 k hk
      omega
    · rw [if_neg c0] at hk
      rw [if_neg c0, if_neg c0]
      by_cases c1 : w = 1
      · rw [if_pos c1] at hk
        rw [if_pos c1, if_pos c1]
        have := b1 k hk
        omega
      · rw [if_neg c1] at hk
        rw [if_neg c1, if_neg c1]
        have p1 : 0 < n1 := by
          rcases Nat.eq_zero_or_pos n1 with q | q
          · rw [q] at hk; omega
          · exact q
        have q1 := b0 (k / n1) (Nat.div_lt_of_lt_mul (by rw [Nat.mul_comm]; exact hk))
        have q2 := b1 (k % n1) (Nat.mod_lt _ p1)
        omega
  · unfold fgn
    split
    · omega
    · split
      · omega
      · have := Nat.mul_le_mul a0 a1
        omega
theorem fgn_2 (n0 n1 : Nat) : fgn n0 n1 2 = n0 * n1 := rfl
theorem w_cases {w : Nat} (h : w < 3) : w = 0 ∨ w = 1 ∨ w = 2 := by omega
theorem nI_nz0 {n : Nat} (h : n ≤ 1000) (h0 : 0 < n) : ¬ nI n = 0 := by rw [i_z, nI_tI (by omega)]; omega
theorem anyEmpty_eq {X : Mem} {E : Nat → Nat → Int32} {n0 n1 : Nat} (h : XQ X E n0 n1) : fX5_anyEmpty X = some (bz (decide (n0 = 0 ∨ n1 = 0))) := by
  obtain ⟨hE, e0, e1, ok0, ok1⟩ := h
  have a0 := ok0.1
  have a1 := ok1.1
  unfold fX5_anyEmpty
  rw [hE 1 (by decide) (by decide), hE 6 (by decide) (by decide), e0, e1, okZ_1, okZ_0]
  by_cases c0 : n0 = 0
  · subst c0; rw [if_pos (by decide)]; simp [bz]
  · rw [if_neg (nI_nz0 (by omega) (by omega))]
    by_cases c1 : n1 = 0
    · subst c1; rw [if_pos (by decide)]; simp [bz]
    · rw [if_neg (nI_nz0 (by omega) (by omega))]; simp [bz, c0, c1]
theorem draw_no {N : Nat} {X : Mem} {E : Nat → Nat → Int32} {n0 n1 w : Nat} (h : XQ X E n0 n1) (hw : w < 3) (h0 : fgn n0 n1 w = 0) : fX5_drawFigure N X (nI w) = some (0, X) := by
  have hA := anyEmpty_eq h
  obtain ⟨hE, e0, e1, ok0, ok1⟩ := h
  unfold fX5_drawFigure
  rcases w_cases hw with c | c | c
  · subst c
    have e : n0 = 0 := h0
    subst e
    rw [if_neg (by decide), show nI 0 = 0 from rfl, eqOf_0]
    simp only [ob_some]
    rw [hE 1 (by decide) (by decide), e0, if_pos (by decide), okZM_0]
  · subst c
    have e : n1 = 0 := h0
    subst e
    rw [if_neg (by decide), show nI 1 = 1 from rfl, eqOf_1]
    simp only [ob_some]
    rw [hE 6 (by decide) (by decide), e1, if_pos (by decide), okZM_0]
  · subst c
    rw [fgn_2] at h0
    have e : n0 = 0 ∨ n1 = 0 := Nat.mul_eq_zero.mp h0
    rw [if_pos (by decide), hA, decide_eq_true e]
    simp only [ob_some, ifb, if_true]
    rw [okZM_0]
theorem draw_eq {N : Nat} {X : Mem} {E : Nat → Nat → Int32} {n0 n1 w m : Nat} (hN : 70 ≤ N) (h : XQ X E n0 n1) (hw : w < 3) (h0 : 0 < fgn n0 n1 w) (hH : HULL (fgx E n1 w) (fgy E n1 w) (fgn n0 n1 w) m) : ∃ X2, fX5_drawFigure N X (nI w) = some (1, X2) ∧ Fg 11 12 13 14 15 2 5 X2 X (fgx E n1 w) (fgy E n1 w) (fgn n0 n1 w) (fun k => fgx E n1 w (seqh (fgx E n1 w) (fgy E n1 w) (fgn n0 n1 w) k)) (fun k => fgy E n1 w (seqh (fgx E n1 w) (fgy E n1 w) (fgn n0 n1 w) k)) m := by
  have hA := anyEmpty_eq h
  obtain ⟨hE, e0, e1, ok0, ok1⟩ := h
  have a0 := ok0.1
  have a1 := ok1.1
  obtain ⟨hB, h64⟩ := fg_box (w := w) ok0 ok1
  unfold fX5_drawFigure
  rcases w_cases hw with c | c | c
  · subst c
    have e : 0 < n0 := h0
    obtain ⟨M1, d1, d2⟩ := drawOne_eq (N := N) (M := X) (E := E) (bs := 1) (n := n0) (by omega) (Or.inl rfl) hE e0 a0
    obtain ⟨M2, g1, g2⟩ := wrap_eq (px := fgx E n1 0) (py := fgy E n1 0) hN d2 h64 hB hH
    refine ⟨M2, ?_, g2⟩
    rw [if_neg (by decide), show nI 0 = 0 from rfl, eqOf_0]
    simp only [ob_some]
    rw [hE 1 (by decide) (by decide), e0, if_neg (nI_nz0 (by omega) (by omega)), d1, g1]
    simp only [ob_some]
    rw [okZM_1]
  · subst c
    have e : 0 < n1 := h0
    obtain ⟨M1, d1, d2⟩ := drawOne_eq (N := N) (M := X) (E := E) (bs := 6) (n := n1) (by omega) (Or.inr rfl) hE e1 a1
    obtain ⟨M2, g1, g2⟩ := wrap_eq (px := fgx E n1 1) (py := fgy E n1 1) hN d2 h64 hB hH
    refine ⟨M2, ?_, g2⟩
    rw [if_neg (by decide), show nI 1 = 1 from rfl, eqOf_1]
    simp only [ob_some]
    rw [hE 6 (by decide) (by decide), e1, if_neg (nI_nz0 (by omega) (by omega)), d1, g1]
    simp only [ob_some]
    rw [okZM_1]
  · subst c
    have e : 0 < n0 * n1 := h0
    have p0 : 0 < n0 := Nat.pos_of_mul_pos_right e
    have p1 : 0 < n1 := Nat.pos_of_mul_pos_left e
    obtain ⟨M1, d1, d2⟩ := drawSum_eq (N := N) (M := X) (E := E) (n0 := n0) (n1 := n1) (by omega) hE e0 e1 a0 a1
    obtain ⟨M2, g1, g2⟩ := wrap_eq (px := fgx E n1 2) (py := fgy E n1 2) hN d2 h64 hB hH
    refine ⟨M2, ?_, g2⟩
    rw [if_pos (by decide), hA, decide_eq_false (by omega)]
    simp only [ob_some, ifb, Bool.false_eq_true, if_false]
    rw [d1, g1]
    simp only [ob_some]
    rw [okZM_1]
theorem there_eq {Y : Mem} {E : Nat → Nat → Int32} {n0 n1 w : Nat} (h : YQ Y E n0 n1) (a0 : n0 ≤ 8) (a1 : n1 ≤ 8) (hw : w < 3) : fX6_isThere Y (nI w) = some (bz (decide (0 < fgn n0 n1 w))) := by
  obtain ⟨⟨y0, -⟩, y1, -⟩ := h
  unfold fX6_isThere
  have le0 : ∀ {α : Type} (n : Nat) (x y : α), n ≤ 8 → (if nI n ≤ 0 then x else y) = if n = 0 then x else y := by
    intro α n x y hn
    rw [i0, if_nle (by omega) (by omega)]
    by_cases c : n = 0
    · rw [if_pos c, if_pos (by omega)]
    · rw [if_neg c, if_neg (by omega)]
  have l0 : ldI Y 5 2 (0 : Int32) = some (nI n0) := by rw [i0, ldI_n (by decide) (by decide), y0]
  have l1 : ldI Y 5 2 (1 : Int32) = some (nI n1) := by rw [i1, ldI_n (by decide) (by decide), y1]
  rcases w_cases hw with c | c | c
  · subst c
    rw [if_neg (by decide), show nI 0 = 0 from rfl, l0, ob_some, le0 _ _ _ a0, okZ_0, okZ_1]
    by_cases c : n0 = 0
    · rw [if_pos c, decide_eq_false (by show ¬ 0 < n0; omega)]; rfl
    · rw [if_neg c, decide_eq_true (by show 0 < n0; omega)]; rfl
  · subst c
    rw [if_neg (by decide), show nI 1 = 1 from rfl, l1, ob_some, le0 _ _ _ a1, okZ_0, okZ_1]
    by_cases c : n1 = 0
    · rw [if_pos c, decide_eq_false (by show ¬ 0 < n1; omega)]; rfl
    · rw [if_neg c, decide_eq_true (by show 0 < n1; omega)]; rfl
  · subst c
    rw [if_pos (by decide), l0, ob_some, le0 _ _ _ a0, l1, ob_some, le0 _ _ _ a1, okZ_0, okZ_1]
    by_cases c : n0 = 0
    · rw [if_pos c, decide_eq_false (by show ¬ 0 < n0 * n1; rw [c]; omega)]; rfl
    · rw [if_neg c]
      by_cases d : n1 = 0
      · rw [if_pos d, decide_eq_false (by show ¬ 0 < n0 * n1; rw [d]; omega)]; rfl
      · rw [if_neg d, decide_eq_true (by show 0 < n0 * n1; exact Nat.mul_pos (by omega) (by omega))]; rfl
theorem go_eq {N : Nat} {Y : Mem} {E : Nat → Nat → Int32} {n0 n1 w m : Nat} (hN : 70 ≤ N) (h : YQ Y E n0 n1) (ok0 : okN E 1 n0) (ok1 : okN E 6 n1) (hw : w < 3) (hH : HULL (fgx E n1 w) (fgy E n1 w) (fgn n0 n1 w) m) : ∃ Y2, fX6_goRound N Y (nI w) = some Y2 ∧ Fg 0 8 9 6 7 10 7 Y2 Y (fgx E n1 w) (fgy E n1 w) (fgn n0 n1 w) (fun k => fgx E n1 w (seqh (fgx E n1 w) (fgy E n1 w) (fgn n0 n1 w) k)) (fun k => fgy E n1 w (seqh (fgx E n1 w) (fgy E n1 w) (fgn n0 n1 w) k)) m := by
  have a0 := ok0.1
  have a1 := ok1.1
  obtain ⟨hB, h64⟩ := fg_box (w := w) ok0 ok1
  unfold fX6_goRound
  rcases w_cases hw with c | c | c
  · subst c
    obtain ⟨M1, d1, d2⟩ := gatherOne (N := N) (M := Y) (E := E) (by omega) no0 h.1.1 a0 (fun t ht => ⟨(h.1.2 t ht).1, (h.1.2 t ht).2.1⟩)
    rw [d1, ob_some]
    exact goWrap (px := fgx E n1 0) (py := fgy E n1 0) hN d2 h64 hB hH
  · subst c
    obtain ⟨M1, d1, d2⟩ := gatherOne (N := N) (M := Y) (E := E) (by omega) no1 h.2.1 a1 (fun t ht => ⟨(h.2.2 t ht).1, (h.2.2 t ht).2.1⟩)
    rw [d1, ob_some]
    exact goWrap (px := fgx E n1 1) (py := fgy E n1 1) hN d2 h64 hB hH
  · subst c
    obtain ⟨M1, d1, d2⟩ := gatherSum (N := N) (M := Y) (E := E) (by omega) h a0 a1
    rw [d1, ob_some]
    exact goWrap (px := fgx E n1 2) (py := fgy E n1 2) hN d2 h64 hB hH
theorem Fg.crn {cc ux uy cx cy pu pc : Nat} {M M0 : Mem} {px py : Nat → Int} {n m : Nat} (h : Fg cc ux uy cx cy pu pc M M0 px py n (fun k => px (seqh px py n k)) (fun k => py (seqh px py n k)) m) (hH : HULL px py n m) : Crn ux uy M (fun k => px (seqh px py n k)) (fun k => py (seqh px py n k)) m := by
  obtain ⟨h1, ⟨h2, h3, h3b, h3c⟩, h4, h5⟩ := h
  obtain ⟨m1, mn, hin, -, -⟩ := hH
  refine ⟨m1, by omega, fun s hs => ⟨h5 s hs, h3b _ (hin s (by omega)).1⟩⟩
def qX (E : Nat → Nat → Int32) (n0 n1 w k : Nat) : Int := fgx E n1 w (seqh (fgx E n1 w) (fgy E n1 w) (fgn n0 n1 w) k)
def qY (E : Nat → Nat → Int32) (n0 n1 w k : Nat) : Int := fgy E n1 w (seqh (fgx E n1 w) (fgy E n1 w) (fgn n0 n1 w) k)
theorem figX {N : Nat} {X : Mem} {E : Nat → Nat → Int32} {n0 n1 w m : Nat} (hN : 70 ≤ N) (h : XQ X E n0 n1) (hw : w < 3) (h0 : 0 < fgn n0 n1 w) (hH : HULL (fgx E n1 w) (fgy E n1 w) (fgn n0 n1 w) m) : ∃ X2, fX5_drawFigure N X (nI w) = some (1, X2) ∧ Crn 12 13 X2 (qX E n0 n1 w) (qY E n0 n1 w) m ∧ X2.1 11 2 = nI m ∧ XQ X2 E n0 n1 ∧ (∀ c, c ≠ 11 → c ≠ 12 → c ≠ 13 → c ≠ 14 → c ≠ 15 → X2.1 c = X.1 c) := by
  obtain ⟨X2, a, b⟩ := draw_eq hN h hw h0 hH
  have k : ∀ c, c ≠ 11 → c ≠ 12 → c ≠ 13 → c ≠ 14 → c ≠ 15 → X2.1 c = X.1 c := fun c c1 c2 c3 c4 c5 => b.1 c c1 c4 c5 c2 c3
  exact ⟨X2, a, b.crn hH, b.2.2.1, h.keep (fun c c1 c2 => k c (by omega) (by omega) (by omega) (by omega) (by omega)), k⟩
theorem figY {N : Nat} {Y : Mem} {E : Nat → Nat → Int32} {n0 n1 w m : Nat} (hN : 70 ≤ N) (h : YQ Y E n0 n1) (ok0 : okN E 1 n0) (ok1 : okN E 6 n1) (hw : w < 3) (hH : HULL (fgx E n1 w) (fgy E n1 w) (fgn n0 n1 w) m) : ∃ Y2, fX6_goRound N Y (nI w) = some Y2 ∧ Crn 8 9 Y2 (qX E n0 n1 w) (qY E n0 n1 w) m ∧ Y2.1 0 10 = nI m ∧ YQ Y2 E n0 n1 ∧ (∀ c, 1 ≤ c → c ≤ 5 → Y2.1 c = Y.1 c) := by
  obtain ⟨Y2, a, b⟩ := go_eq hN h ok0 ok1 hw hH
  have k : ∀ c, 1 ≤ c → c ≤ 5 → Y2.1 c = Y.1 c := fun c c1 c2 => b.1 c (by omega) (by omega) (by omega) (by omega) (by omega)
  exact ⟨Y2, a, b.crn hH, b.2.2.1, h.keep k, k⟩
theorem rimOf_eq {N : Nat} {Y Y2 : Mem} {qx qy : Nat → Int} {m : Nat} {a : Int32} (hN : 70 ≤ N) (hG : fX6_goRound N Y a = some Y2) (h : Crn 8 9 Y2 qx qy m) (hm : Y2.1 0 10 = nI m) : fX6_rimOf N Y a = some (rimV qx qy m, Y2) := by
  have m1 := h.2.1
  have m0 := h.1
  unfold fX6_rimOf rimV
  rw [hG, ob_some, rimYLoop (by omega) h hm, hm]
  have e2 : (2 : Int32) = nI 2 := by decide
  simp only [ob_some, dv2]
  have q1 : ∀ {α : Type} (x y : α), (if nI m = (1 : Int32) then x else y) = if m = 1 then x else y := fun x y => by rw [show (1 : Int32) = nI 1 from rfl, if_neq (by omega) (by omega)]
  have q2 : ∀ {α : Type} (x y : α), (if nI m = (2 : Int32) then x else y) = if m = 2 then x else y := fun x y => by rw [show (2 : Int32) = nI 2 from rfl, if_neq (by omega) (by omega)]
  rw [q1, q2]
  by_cases c1 : m = 1
  · rw [if_pos c1, if_pos c1]
  · rw [if_neg c1, if_neg c1]
    by_cases c2 : m = 2
    · rw [if_pos c2, if_pos c2]
    · rw [if_neg c2, if_neg c2]
theorem areaOfY_eq {N : Nat} {Y Y2 : Mem} {qx qy : Nat → Int} {m : Nat} {a : Int32} (hN : 70 ≤ N) (hG : fX6_goRound N Y a = some Y2) (h : Crn 8 9 Y2 qx qy m) (hm : Y2.1 0 10 = nI m) : fX6_areaOf N Y a = some (iI (arS qx qy m m), Y2) := by
  unfold fX6_areaOf
  rw [hG, ob_some, areaY_eq (by omega) h hm]
theorem inner_eq {N : Nat} {M : Mem} {qx qy : Nat → Int} {m : Nat} (hN : 65 ≤ N) (h : Crn 12 13 M qx qy m) (hm : M.1 11 2 = nI m) : fX1_inner N M = some (if 3 ≤ m then ((iI (arS qx qy m m) - rimV qx qy m) + 2) / 2 else 0) := by
  have m1 := h.2.1
  unfold fX1_inner
  rw [area_eq hN h hm, rim_eq hN h hm, hm]
  simp only [ob_some, dv2]
  rw [show (3 : Int32) = nI 3 from rfl, if_nle (by omega) (by omega)]
  by_cases c : 3 ≤ m
  · rw [if_pos c, if_pos c]
  · rw [if_neg c, if_neg c]
theorem a_within {a : Int32} {k : Nat} (h : 0 ≤ a.toInt ∧ a.toInt ≤ k) (hk : k ≤ 1000) : ∃ w, w < k + 1 ∧ a = nI w := a_of (n := k + 1) (by omega) (by omega)
theorem st_shape {X Y : Mem} {N : Nat} (hN : 70 ≤ N) (a1 a2 : Int32) (h : Sim X Y) : ∃ (r : Int32) (X' Y' : Mem), fX5_shape N X a1 a2 = some (r, X') ∧ fX6_shape N Y a1 a2 = some (r, Y') ∧ Sim X' Y' := by
  obtain ⟨n0, n1, h0, h1, -, -⟩ := id h
  have hX := XQ.sim h0 h1
  have hY := YQ.sim h0 h1
  unfold fX5_shape fX6_shape
  rw [within_eq, within_eq, in32, in32]
  simp only [ob_some, ifb]
  by_cases c1 : 0 ≤ a1.toInt ∧ a1.toInt ≤ 2
  · rw [if_pos (decide_eq_true (show (0 : Int32).toInt ≤ a1.toInt ∧ a1.toInt ≤ (2 : Int32).toInt from c1)), if_pos (decide_eq_true (show (0 : Int64).toInt ≤ a1.toInt ∧ a1.toInt ≤ (2 : Int64).toInt from c1))]
    by_cases c2 : 0 ≤ a2.toInt ∧ a2.toInt ≤ 3
    · rw [if_pos (decide_eq_true (show (0 : Int32).toInt ≤ a2.toInt ∧ a2.toInt ≤ (3 : Int32).toInt from c2)), if_pos (decide_eq_true (show (0 : Int64).toInt ≤ a2.toInt ∧ a2.toInt ≤ (3 : Int64).toInt from c2))]
      obtain ⟨w, hw, rfl⟩ := a_within (k := 2) c1 (by decide)
      rw [there_eq hY h0.2.2.1 h1.2.2.1 hw]
      simp only [ob_some, ifb]
      rcases Nat.eq_zero_or_pos (fgn n0 n1 w) with z | z
      · rw [draw_no hX hw z, decide_eq_false (by omega)]
        exact ⟨-3, X, Y, rfl, rfl, h⟩
      · obtain ⟨m, hH⟩ := hull_ex z (fg_box (w := w) hX.2.2.2.1 hX.2.2.2.2).1
        obtain ⟨X2, x1, x2, x3, x4, x5⟩ := figX hN hX hw z hH
        obtain ⟨Y2, y1, y2, y3, y4, y5⟩ := figY hN hY hX.2.2.2.1 hX.2.2.2.2 hw hH
        obtain ⟨Y3, z1, z2, z3, z4, z5⟩ := figY hN y4 hX.2.2.2.1 hX.2.2.2.2 hw hH
        have hm := x2.2.1
        have hS : Sim X2 Y3 := h.keep (fun c hc => x5 c (by omega) (by omega) (by omega) (by omega) (by omega)) (fun c c1 c2 => by rw [z5 c c1 c2, y5 c c1 c2])
        rw [x1, areaOfY_eq hN y1 y2 y3, decide_eq_true z]
        simp only [ob_some, if_true]
        rw [rimOf_eq hN z1 z2 z3, if1]
        simp only [ob_some]
        rw [area_eq (by omega) x2 x3, rim_eq (by omega) x2 x3, inner_eq (by omega) x2 x3, x3, z3, dv2]
        simp only [ob_some]
        by_cases d0 : a2 = 0
        · rw [if_pos d0, if_pos d0]; exact ⟨_, _, _, rfl, rfl, hS⟩
        · rw [if_neg d0, if_neg d0]
          by_cases d1 : a2 = 1
          · rw [if_pos d1, if_pos d1]; exact ⟨_, _, _, rfl, rfl, hS⟩
          · rw [if_neg d1, if_neg d1]
            by_cases d2 : a2 = 2
            · rw [if_pos d2, if_pos d2]; exact ⟨_, _, _, rfl, rfl, hS⟩
            · rw [if_neg d2, if_neg d2]
              refine ⟨_, _, _, rfl, ?_, hS⟩
              rw [show (3 : Int32) = nI 3 from rfl, if_nle (by omega) (by omega)]
              by_cases e : 3 ≤ m
              · rw [if_pos e, if_pos e]
              · rw [if_neg e, if_neg e]
    · rw [if_neg (show ¬ decide ((0 : Int32).toInt ≤ a2.toInt ∧ a2.toInt ≤ (3 : Int32).toInt) = true by simpa using c2), if_neg (show ¬ decide ((0 : Int64).toInt ≤ a2.toInt ∧ a2.toInt ≤ (3 : Int64).toInt) = true by simpa using c2)]
      exact ⟨-2, X, Y, rfl, rfl, h⟩
  · rw [if_neg (show ¬ decide ((0 : Int32).toInt ≤ a1.toInt ∧ a1.toInt ≤ (2 : Int32).toInt) = true by simpa using c1), if_neg (show ¬ decide ((0 : Int64).toInt ≤ a1.toInt ∧ a1.toInt ≤ (2 : Int64).toInt) = true by simpa using c1)]
    exact ⟨-1, X, Y, rfl, rfl, h⟩
theorem st_corner {X Y : Mem} {N : Nat} (hN : 70 ≤ N) (a1 a2 : Int32) (h : Sim X Y) : ∃ (r : Int32) (X' Y' : Mem), fX5_corner N X a1 a2 = some (r, X') ∧ fX6_corner N Y a1 a2 = some (r, Y') ∧ Sim X' Y' := by
  obtain ⟨n0, n1, h0, h1, -, -⟩ := id h
  have hX := XQ.sim h0 h1
  have hY := YQ.sim h0 h1
  unfold fX5_corner fX6_corner
  rw [within_eq, in32]
  simp only [ob_some, ifb]
  by_cases c1 : 0 ≤ a1.toInt ∧ a1.toInt ≤ 2
  · rw [if_pos (decide_eq_true (show (0 : Int32).toInt ≤ a1.toInt ∧ a1.toInt ≤ (2 : Int32).toInt from c1)), if_pos (decide_eq_true (show (0 : Int64).toInt ≤ a1.toInt ∧ a1.toInt ≤ (2 : Int64).toInt from c1))]
    obtain ⟨w, hw, rfl⟩ := a_within (k := 2) c1 (by decide)
    rw [there_eq hY h0.2.2.1 h1.2.2.1 hw]
    simp only [ob_some, ifb]
    rcases Nat.eq_zero_or_pos (fgn n0 n1 w) with z | z
    · rw [draw_no hX hw z, decide_eq_false (by omega)]
      exact ⟨-3, X, Y, rfl, rfl, h⟩
    · obtain ⟨m, hH⟩ := hull_ex z (fg_box (w := w) hX.2.2.2.1 hX.2.2.2.2).1
      obtain ⟨X2, x1, x2, x3, x4, x5⟩ := figX hN hX hw z hH
      obtain ⟨Y2, y1, y2, y3, y4, y5⟩ := figY hN hY hX.2.2.2.1 hX.2.2.2.2 hw hH
      have hm := x2.2.1
      have hm0 := x2.1
      have hS : Sim X2 Y2 := h.keep (fun c hc => x5 c (by omega) (by omega) (by omega) (by omega) (by omega)) y5
      rw [x1, y1, decide_eq_true z]
      simp only [ob_some, if_true]
      rw [if1, x3, y3, within_eq, in32, nI_m1 (by omega)]
      simp only [ob_some, ifb]
      have e64 : (Int32.toInt64 (nI m - 1)).toInt = (m : Int) - 1 := by rw [Int32.toInt_toInt64, nI_m1 (by omega)]
      rw [e64]
      by_cases c2 : 0 ≤ a2.toInt ∧ a2.toInt ≤ (m : Int) - 1
      · rw [if_pos (decide_eq_true (show (0 : Int32).toInt ≤ a2.toInt ∧ a2.toInt ≤ (m : Int) - 1 from c2)), if_pos (decide_eq_true (show (0 : Int64).toInt ≤ a2.toInt ∧ a2.toInt ≤ (m : Int) - 1 from c2))]
        obtain ⟨t, ht, rfl⟩ := a_of (n := m) (a := a2) (by omega) (by omega)
        rw [x2.x ht, x2.y ht, y2.x ht, y2.y ht]
        exact ⟨_, _, _, rfl, rfl, hS⟩
      · rw [if_neg (show ¬ decide ((0 : Int32).toInt ≤ a2.toInt ∧ a2.toInt ≤ (m : Int) - 1) = true by simpa using c2), if_neg (show ¬ decide ((0 : Int64).toInt ≤ a2.toInt ∧ a2.toInt ≤ (m : Int) - 1) = true by simpa using c2)]
        exact ⟨-1, X2, Y2, rfl, rfl, hS⟩
  · rw [if_neg (show ¬ decide ((0 : Int32).toInt ≤ a1.toInt ∧ a1.toInt ≤ (2 : Int32).toInt) = true by simpa using c1), if_neg (show ¬ decide ((0 : Int64).toInt ≤ a1.toInt ∧ a1.toInt ≤ (2 : Int64).toInt) = true by simpa using c1)]
    exact ⟨-1, X, Y, rfl, rfl, h⟩
theorem areaOf_eq {N : Nat} {X X2 : Mem} {qx qy : Nat → Int} {m : Nat} {a : Int32} (hN : 70 ≤ N) (hG : fX5_drawFigure N X a = some (1, X2)) (h : Crn 12 13 X2 qx qy m) (hm : X2.1 11 2 = nI m) : fX5_areaOf N X a = some (iI (arS qx qy m m), X2) := by
  unfold fX5_areaOf
  rw [hG, ob_some, if1, area_eq (by omega) h hm, ob_some]
theorem st_mixed {X Y : Mem} {N : Nat} (hN : 70 ≤ N) (h : Sim X Y) : ∃ (r : Int32) (X' Y' : Mem), fX5_mixed N X = some (r, X') ∧ fX6_mixed N Y = some (r, Y') ∧ Sim X' Y' := by
  obtain ⟨n0, n1, h0, h1, -, -⟩ := id h
  have hX := XQ.sim h0 h1
  have hY := YQ.sim h0 h1
  unfold fX5_mixed fX6_mixed
  rw [anyEmpty_eq hX, show (2 : Int32) = nI 2 from rfl, there_eq hY h0.2.2.1 h1.2.2.1 (by decide)]
  simp only [ob_some, ifb]
  by_cases c : n0 = 0 ∨ n1 = 0
  · have z : ¬ 0 < fgn n0 n1 2 := by rw [fgn_2, Nat.mul_eq_zero.mpr c]; omega
    rw [decide_eq_true c, decide_eq_false z]
    exact ⟨-3, X, Y, rfl, rfl, h⟩
  · have z0 : 0 < fgn n0 n1 0 := by show 0 < n0; omega
    have z1 : 0 < fgn n0 n1 1 := by show 0 < n1; omega
    have z2 : 0 < fgn n0 n1 2 := by show 0 < n0 * n1; exact Nat.mul_pos (by omega) (by omega)
    rw [decide_eq_false c, decide_eq_true z2]
    obtain ⟨m2, H2⟩ := hull_ex z2 (fg_box (w := 2) hX.2.2.2.1 hX.2.2.2.2).1
    obtain ⟨m0, H0⟩ := hull_ex z0 (fg_box (w := 0) hX.2.2.2.1 hX.2.2.2.2).1
    obtain ⟨m1, H1⟩ := hull_ex z1 (fg_box (w := 1) hX.2.2.2.1 hX.2.2.2.2).1
    obtain ⟨X2, a1, a2, a3, a4, a5⟩ := figX hN hX (by decide) z2 H2
    obtain ⟨X3, b1, b2, b3, b4, b5⟩ := figX hN a4 (by decide) z0 H0
    obtain ⟨X4, c1, c2, c3, c4, c5⟩ := figX hN b4 (by decide) z1 H1
    obtain ⟨Y2, d1, d2, d3, d4, d5⟩ := figY hN hY hX.2.2.2.1 hX.2.2.2.2 (by decide) H2
    obtain ⟨Y3, e1, e2, e3, e4, e5⟩ := figY hN d4 hX.2.2.2.1 hX.2.2.2.2 (by decide) H0
    obtain ⟨Y4, f1, f2, f3, f4, f5⟩ := figY hN e4 hX.2.2.2.1 hX.2.2.2.2 (by decide) H1
    have hS : Sim X4 Y4 := h.keep (fun c hc => by rw [c5 c (by omega) (by omega) (by omega) (by omega) (by omega), b5 c (by omega) (by omega) (by omega) (by omega) (by omega), a5 c (by omega) (by omega) (by omega) (by omega) (by omega)]) (fun c c1 c2 => by rw [f5 c c1 c2, e5 c c1 c2, d5 c c1 c2])
    simp only [Bool.false_eq_true, if_false, if_true]
    rw [areaOf_eq hN a1 a2 a3, areaOfY_eq hN d1 d2 d3]
    simp only [ob_some]
    rw [show (0 : Int32) = nI 0 from rfl, areaOf_eq hN b1 b2 b3, areaOfY_eq hN e1 e2 e3]
    simp only [ob_some]
    rw [show (1 : Int32) = nI 1 from rfl, areaOf_eq hN c1 c2 c3, areaOfY_eq hN f1 f2 f3]
    simp only [ob_some]
    rw [show nI 2 = (2 : Int32) from rfl, dv2]
    exact ⟨_, _, _, rfl, rfl, hS⟩

/-! promises 10 to 12 -/
theorem Sim.found {X X2 Y Y2 : Mem} {n0 n1 : Nat} (h : Sim X Y) (h0 : EqR X Y 1 0 0 n0) (h1 : EqR X Y 6 8 1 n1) (hk : X2.1 16 2 = 1) (hC : CellC X2 n0 n1) (hX : ∀ k, k ≠ 16 → k ≠ 17 → X2.1 k = X.1 k) (hY : YF Y Y2) : Sim X2 Y2 := by
  have hx : ∀ c, 1 ≤ c → c ≤ 10 → X2.1 c = X.1 c := fun c c1 c2 => hX c (by omega) (by omega)
  have hy : ∀ c, 1 ≤ c → c ≤ 5 → Y2.1 c = Y.1 c := fun c c1 c2 => hY.1 c (by omega)
  refine ⟨n0, n1, h0.congr no0 hx hy, h1.congr no1 hx hy, Or.inr ⟨hk, hC⟩, ?_⟩
  obtain ⟨m0, m1, g0, g1, -, g3⟩ := h
  have e0 : m0 = n0 := (nI_eq (by have := g0.2.2.1; omega) (by have := h0.2.2.1; omega)).mp (g0.1.symm.trans h0.1)
  have e1 : m1 = n1 := (nI_eq (by have := g1.2.2.1; omega) (by have := h1.2.2.1; omega)).mp (g1.1.symm.trans h1.1)
  subst e0; subst e1
  rw [hX 21 (by decide) (by decide)]
  rcases g3 with g3 | ⟨m, a, b, c, d⟩
  · exact Or.inl g3
  · refine Or.inr ⟨m, a, ?_⟩
    rw [soL_congr hx, hX 21 (by decide) (by decide), hX 22 (by decide) (by decide)]
    exact ⟨b, c, d⟩
theorem st_cells {X Y : Mem} {N : Nat} (hN : 9 ≤ N) (h : Sim X Y) : ∃ (r : Int32) (X' Y' : Mem), fX5_cells N X = some (r, X') ∧ fX6_cells N Y = some (r, Y') ∧ Sim X' Y' := by
  obtain ⟨n0, n1, h0, h1, hk, -⟩ := id h
  obtain ⟨X2, f1, f2, f3, f4, f5⟩ := find_eq hN h0.1 h1.1 h0.2.2.1 h1.2.2.1 hk
  have hY := YR.sim h0 h1
  have hE : ∀ c, 1 ≤ c → c ≤ 10 → X2.1 c = X.1 c := fun c c1 c2 => f4 c (by omega) (by omega)
  obtain ⟨-, g⟩ := goThrough_eq hN hY T_neg
  obtain ⟨Y2, g1, g2, g3⟩ := g (by have := clL_len (E := X.1) h0.2.2.1 h1.2.2.1; omega)
  unfold fX5_cells fX6_cells
  rw [f1, g1]
  refine ⟨_, X2, Y2, rfl, ?_, h.found h0 h1 f2 f3 f4 g2⟩
  rw [f3.1, clL_congr hE]
  rfl
theorem st_fine {X Y : Mem} {N : Nat} (hN : 9 ≤ N) (h : Sim X Y) : ∃ (r : Int32) (X' Y' : Mem), fX5_fine N X = some (r, X') ∧ fX6_fine N Y = some (r, Y') ∧ Sim X' Y' := by
  obtain ⟨n0, n1, h0, h1, hk, -⟩ := id h
  obtain ⟨X2, f1, f2, f3, f4, f5⟩ := find_eq hN h0.1 h1.1 h0.2.2.1 h1.2.2.1 hk
  have hY := YR.sim h0 h1
  have hE : ∀ c, 1 ≤ c → c ≤ 10 → X2.1 c = X.1 c := fun c c1 c2 => f4 c (by omega) (by omega)
  obtain ⟨-, g⟩ := goThrough_eq hN hY T_neg
  have hl := clL_len (E := X.1) h0.2.2.1 h1.2.2.1
  obtain ⟨Y2, g1, g2, g3⟩ := g (by omega)
  unfold fX5_fine fX6_fine
  rw [f1, g1]
  simp only [ob_some]
  rw [if_neg (nI_pos (by omega)), g3, f3.2.1, clL_congr hE, isCr_congr hE, ifb, ifb]
  cases (clL X.1 n0 n1).any (isCr X.1 n0 n1)
  · exact ⟨1, X2, Y2, by simp, by simp, h.found h0 h1 f2 f3 f4 g2⟩
  · exact ⟨0, X2, Y2, by simp, by simp, h.found h0 h1 f2 f3 f4 g2⟩
theorem st_cell {X Y : Mem} {N : Nat} (hN : 9 ≤ N) (a1 a2 : Int32) (h : Sim X Y) : ∃ (r : Int32) (X' Y' : Mem), fX5_cell N X a1 a2 = some (r, X') ∧ fX6_cell N Y a1 a2 = some (r, Y') ∧ Sim X' Y' := by
  obtain ⟨n0, n1, h0, h1, hk, -⟩ := id h
  obtain ⟨X2, f1, f2, f3, f4, f5⟩ := find_eq hN h0.1 h1.1 h0.2.2.1 h1.2.2.1 hk
  have hY := YR.sim h0 h1
  have hE : ∀ c, 1 ≤ c → c ≤ 10 → X2.1 c = X.1 c := fun c c1 c2 => f4 c (by omega) (by omega)
  have hl := clL_len (E := X.1) h0.2.2.1 h1.2.2.1
  have b0 := h0.2.2.1
  have b1 := h1.2.2.1
  unfold fX5_cell fX6_cell
  rw [f1]
  simp only [ob_some]
  have hcnt : X2.1 16 0 = nI (clL X.1 n0 n1).length := by rw [f3.1, clL_congr hE]
  rw [within_eq, within_eq, hcnt]
  simp only [ob_some, ifb]
  have e1 : (0 : Int32).toInt = 0 := by decide
  have e2 : (4 : Int32).toInt = 4 := by decide
  rw [e1, e2, nI_m1 (by omega)]
  by_cases hp : 0 ≤ a1.toInt ∧ a1.toInt < (clL X.1 n0 n1).length
  · obtain ⟨k, hk1, rfl⟩ := a_of hp (by omega)
    have hp2 : 0 ≤ (nI k).toInt ∧ (nI k).toInt ≤ ((clL X.1 n0 n1).length : Int) - 1 := by omega
    have hq : (clL X.1 n0 n1)[k]? = some ((clL X.1 n0 n1)[k]) := List.getElem?_eq_getElem hk1
    generalize (clL X.1 n0 n1)[k] = q at hq
    obtain ⟨m1, m2, m3, m4⟩ := clL_mem hq
    obtain ⟨g, -⟩ := goThrough_eq hN hY (T_pos (t := k) (by omega))
    obtain ⟨Y2, g1, g2, g3, g4, g5, g6, g7⟩ := g q hq
    have hpk : X2.1 17 k = pck q := f3.2.2 k q (by rw [clL_congr hE]; exact hq)
    obtain ⟨r0, r1, r2, r3⟩ := member_eq (M := X2) (by omega) hpk (by omega) (by omega) (by omega) (by omega)
    have hlt : nI k < nI (k + 1) := nI_lt (by omega) (by omega)
    rw [if_neg (nI_pos (by omega)), g1]
    simp only [ob_some, hp2, and_self, decide_true, if_true]
    rw [if_pos hlt, g4, g5, g6, g7, g3, size_eq]
    simp only [ob_some]
    have hsz : fX4_sizeOf X2 1 6 (nI k) = some (sgn (trn X.1 q.1 q.2.1 q.2.2.1 q.2.2.2) * trn X.1 q.1 q.2.1 q.2.2.1 q.2.2.2) := by
      unfold fX4_sizeOf
      rw [r0, r1, r2, r3]
      simp only [ob_some]
      rw [across_eq (by omega) (by omega) (by omega) (by omega)]
      simp only [ob_some]
      rw [abs_sgn, trn_congr hE]
    have hs := h.found h0 h1 f2 f3 f4 g2
    by_cases c0 : a2 = 0
    · subst c0
      refine ⟨nI q.1, X2, Y2, ?_, by simp, hs⟩
      rw [r0]; simp
    · by_cases c1 : a2 = 1
      · subst c1
        refine ⟨nI q.2.1, X2, Y2, ?_, by simp, hs⟩
        rw [r1]; simp
      · by_cases c2 : a2 = 2
        · subst c2
          refine ⟨nI q.2.2.1, X2, Y2, ?_, by simp, hs⟩
          rw [r2]; simp
        · by_cases c3 : a2 = 3
          · subst c3
            refine ⟨nI q.2.2.2, X2, Y2, ?_, by simp, hs⟩
            rw [r3]; simp
          · by_cases c4 : a2 = 4
            · subst c4
              refine ⟨_, X2, Y2, ?_, by simp; rfl, hs⟩
              rw [hsz]; simp
            · have hno : ¬ (0 ≤ a2.toInt ∧ a2.toInt ≤ 4) := by
                intro w
                obtain ⟨t, t1, t2⟩ := n_of (k := 4) w (by decide)
                subst t2
                rcases (show t = 0 ∨ t = 1 ∨ t = 2 ∨ t = 3 ∨ t = 4 by omega) with rfl | rfl | rfl | rfl | rfl
                · exact c0 rfl
                · exact c1 rfl
                · exact c2 rfl
                · exact c3 rfl
                · exact c4 rfl
              exact ⟨-2, X2, Y2, by simp [hno], by simp [c0, c1, c2, c3, c4], hs⟩
  · have hp2 : ¬ (0 ≤ a1.toInt ∧ a1.toInt ≤ ((clL X.1 n0 n1).length : Int) - 1) := by omega
    simp only [hp2, decide_false, Bool.false_eq_true, if_false]
    by_cases hneg : a1 < 0
    · rw [if_pos hneg]
      exact ⟨-1, X2, Y, rfl, rfl, h.found h0 h1 f2 f3 f4 (YF.rf Y)⟩
    · rw [if_neg hneg]
      have hge : 0 ≤ a1.toInt := by rw [i_lt, e1] at hneg; omega
      obtain ⟨t, t1, t2⟩ := nI_of hneg
      subst t2
      have tt : (nI t).toInt = t := nI_toInt t1
      obtain ⟨-, g⟩ := goThrough_eq hN hY (T_pos t1)
      obtain ⟨Y2, g1, g2, g3⟩ := g (by omega)
      rw [g1]
      simp only [ob_some]
      rw [if_neg (nI_nlt (by omega) t1)]
      exact ⟨-1, X2, Y2, rfl, rfl, h.found h0 h1 f2 f3 f4 g2⟩

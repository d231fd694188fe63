theorem pY_cons {m x y : Nat} (h : y < m) : pY m x y = (x, y) :: pY m x (y + 1) := by unfold pY; rw [upTo_cons h]; rfl
theorem pY_nil {m x y : Nat} (h : m ≤ y) : pY m x y = [] := by unfold pY; rw [upTo_nil h]; rfl
theorem pX_cons {m x : Nat} (h : x < m) : pX m x = pY m x 1 ++ pX m (x + 1) := by unfold pX; rw [upTo_cons h]; rfl
theorem pX_nil {m x : Nat} (h : m ≤ x) : pX m x = [] := by unfold pX; rw [upTo_nil h]; rfl
set_option maxRecDepth 100000 in
theorem pX_len : ∀ m, m < 32 → (pX m 1).length ≤ 900 := by decide +kernel
/-- what the class has found so far -/
def SJ (M0 M : Mem) (n0 n1 m : Nat) (L : List (Nat × Nat)) : Prop :=
  M.1 21 1 = nI (L.filter (isSo M0.1 n0 n1 m)).length ∧ (∀ (k : Nat) (q : Nat × Nat), (L.filter (isSo M0.1 n0 n1 m))[k]? = some q → M.1 22 k = nI (100 * q.1 + q.2)) ∧ M.1 21 2 = nI m ∧ powR M m m ∧ (∀ k, k ≠ 21 → k ≠ 22 → k ≠ 23 → M.1 k = M0.1 k) ∧ M.2 = M0.2
theorem SJ.skip {M0 M : Mem} {n0 n1 m : Nat} {L : List (Nat × Nat)} {q : Nat × Nat} (h : SJ M0 M n0 n1 m L) (hq : isSo M0.1 n0 n1 m q = false) : SJ M0 M n0 n1 m (L ++ [q]) := by
  unfold SJ
  rw [List.filter_append]
  simp only [List.filter_cons, hq, List.filter_nil, Bool.false_eq_true, if_false, List.append_nil]
  exact h
theorem SJ.more {M0 M : Mem} {n0 n1 m K : Nat} {L : List (Nat × Nat)} {q : Nat × Nat} (h : SJ M0 M n0 n1 m L) (hK : K = (L.filter (isSo M0.1 n0 n1 m)).length) (hq : isSo M0.1 n0 n1 m q = true) : SJ M0 (setI (setI M 22 K (nI (100 * q.1 + q.2))) 21 1 (nI (K + 1))) n0 n1 m (L ++ [q]) := by
  obtain ⟨h1, h3, h4, h5, h6, h7⟩ := h
  unfold SJ
  rw [List.filter_append]
  simp only [List.filter_cons, hq, List.filter_nil, if_true, List.length_append, List.length_cons, List.length_nil]
  subst hK
  refine ⟨by rw [setI_eq], ?_, by rw [setI_nk (by decide), setI_ne (by decide)]; exact h4, ?_, ?_, h7⟩
  · intro k q2 hk
    rw [setI_ne (by decide)]
    rcases Nat.lt_trichotomy k (L.filter (isSo M0.1 n0 n1 m)).length with e | e | e
    · rw [setI_nk (by omega)]
      rw [List.getElem?_append_left e] at hk
      exact h3 k q2 hk
    · subst e
      rw [setI_eq]
      rw [List.getElem?_append_right (Nat.le_refl _), Nat.sub_self] at hk
      cases hk; rfl
    · rw [List.getElem?_eq_none (by simp; omega)] at hk
      cases hk
  · intro z z1 z2 k hk
    rw [setI_ne (by decide), setI_ne (by decide)]
    exact h5 z z1 z2 k hk
  · intro k k1 k2 k3
    rw [setI_ne k1, setI_ne k2]; exact h6 k k1 k2 k3
theorem solY {M0 : Mem} {n0 n1 m N x : Nat} (hN : 40 ≤ N) (z0 : M0.1 1 4 = nI n0) (z1 : M0.1 6 4 = nI n1) (ok0 : okN M0.1 1 n0) (ok1 : okN M0.1 6 n1) (hm : 1 < m) (hm2 : m ≤ 31) (hx : 1 ≤ x ∧ x < m) : ∀ n y M L, 1 ≤ y → y ≤ m → m - y < n → SJ M0 M n0 n1 m L → L.length + (pY m x y).length ≤ 900 → ∃ M2, lp (fun _ _ => none) (sX3_find_46 (nI m) N 1 (nI x) 6) n (nI y) M = some M2 ∧ SJ M0 M2 n0 n1 m (L ++ pY m x y) := by
  intro n
  refine lp_rule (bot := fun _ _ => none) (step := sX3_find_46 (nI m) N 1 (nI x) 6) (fun n f => ∀ y M L, 1 ≤ y → y ≤ m → m - y < n → SJ M0 M n0 n1 m L → L.length + (pY m x y).length ≤ 900 → ∃ M2, f (nI y) M = some M2 ∧ SJ M0 M2 n0 n1 m (L ++ pY m x y)) (fun y M L _ _ h => by omega) ?_ n
  intro n f hf y M L hy1 hy2 hn hJ hlen
  unfold sX3_find_46
  rw [if_nle (by omega) (by omega), nI_1]
  by_cases e : m ≤ y
  · rw [if_pos e, pY_nil e, List.append_nil]
    exact ⟨M, rfl, hJ⟩
  · rw [if_neg e]
    rw [pY_cons (show y < m by omega)] at hlen ⊢
    simp only [List.length_cons] at hlen
    have hE : ∀ k, 1 ≤ k → k ≤ 10 → M.1 k = M0.1 k := fun k k1 k2 => hJ.2.2.2.2.1 k (by omega) (by omega) (by omega)
    have hfl : (L.filter (isSo M0.1 n0 n1 m)).length ≤ L.length := List.length_filter_le _ _
    rw [nought_eq (by omega) (Or.inl rfl) hE (by rw [hE 1 (by decide) (by decide)]; exact z0) ok0 hm hm2 hJ.2.2.2.1 hx ⟨hy1, by omega⟩, nought_eq (by omega) (Or.inr rfl) hE (by rw [hE 6 (by decide) (by decide)]; exact z1) ok1 hm hm2 hJ.2.2.2.1 hx ⟨hy1, by omega⟩]
    simp only [ob_some, ifb]
    have hcnt : M.1 21 1 = nI (L.filter (isSo M0.1 n0 n1 m)).length := hJ.1
    have hst : stI M 22 900 (M.1 21 1) (((100 : Int32) * nI x) + nI y) = some (setI M 22 (L.filter (isSo M0.1 n0 n1 m)).length (nI (100 * x + y))) := by
      rw [hcnt, show (100 : Int32) = nI 100 from by decide, show nI 100 * nI x = nI (100 * x) from (Int32.ofNat_mul 100 x).symm, nI_add, stI_n (by omega) (by decide)]
    rw [hst]
    simp only [ob_some]
    rw [setI_ne (by decide), hcnt, nI_1]
    rw [show (900 : Int32) = nI 900 from by decide, if_nle (by omega) (by omega), if_neg (show ¬ 900 ≤ (L.filter (isSo M0.1 n0 n1 m)).length by omega)]
    have hassoc : L ++ (x, y) :: pY m x (y + 1) = (L ++ [(x, y)]) ++ pY m x (y + 1) := by simp
    rw [hassoc]
    by_cases hq : isSo M0.1 n0 n1 m (x, y) = true
    · have hq2 := hq
      unfold isSo at hq2
      rw [Bool.and_eq_true] at hq2
      rw [hq2.1, hq2.2]
      simp only [if_true]
      exact hf (y + 1) _ (L ++ [(x, y)]) (by omega) (by omega) (by omega) (hJ.more rfl hq) (by simp; omega)
    · have hq1 : isSo M0.1 n0 n1 m (x, y) = false := by simpa using hq
      have hres : (if decide (sSum M0.1 1 m x y n0 % (m : Int) = 0) = true then (if decide (sSum M0.1 6 m x y n1 % (m : Int) = 0) = true then some (setI (setI M 22 (L.filter (isSo M0.1 n0 n1 m)).length (nI (100 * x + y))) 21 1 (nI ((L.filter (isSo M0.1 n0 n1 m)).length + 1))) else some M) else some M) = some M := by
        unfold isSo at hq1
        cases h1 : decide (sSum M0.1 1 m x y n0 % (m : Int) = 0)
        · simp
        · rw [h1] at hq1
          simp only [Bool.true_and] at hq1
          rw [hq1]
          simp
      rw [hres]
      exact hf (y + 1) M (L ++ [(x, y)]) (by omega) (by omega) (by omega) (hJ.skip hq1) (by simp; omega)
theorem solX {M0 : Mem} {n0 n1 m N : Nat} (hN : 40 ≤ N) (z0 : M0.1 1 4 = nI n0) (z1 : M0.1 6 4 = nI n1) (ok0 : okN M0.1 1 n0) (ok1 : okN M0.1 6 n1) (hm : 1 < m) (hm2 : m ≤ 31) : ∀ n x M L, 1 ≤ x → x ≤ m → m - x < n → SJ M0 M n0 n1 m L → L.length + (pX m x).length ≤ 900 → ∃ M2, lp (fun _ _ => none) (sX3_find_37 (nI m) N 1 6) n (nI x) M = some M2 ∧ SJ M0 M2 n0 n1 m (L ++ pX m x) := by
  intro n
  refine lp_rule (bot := fun _ _ => none) (step := sX3_find_37 (nI m) N 1 6) (fun n f => ∀ x M L, 1 ≤ x → x ≤ m → m - x < n → SJ M0 M n0 n1 m L → L.length + (pX m x).length ≤ 900 → ∃ M2, f (nI x) M = some M2 ∧ SJ M0 M2 n0 n1 m (L ++ pX m x)) (fun y M L _ _ h => by omega) ?_ n
  intro n f hf x M L hx1 hx2 hn hJ hlen
  unfold sX3_find_37
  rw [if_nle (by omega) (by omega), nI_1]
  by_cases e : m ≤ x
  · rw [if_pos e, pX_nil e, List.append_nil]
    exact ⟨M, rfl, hJ⟩
  · rw [if_neg e]
    rw [pX_cons (show x < m by omega)] at hlen ⊢
    simp only [List.length_append] at hlen
    obtain ⟨M2, g1, g2⟩ := solY hN z0 z1 ok0 ok1 hm hm2 ⟨hx1, by omega⟩ N 1 M L (by omega) (by omega) (by omega) hJ (by omega)
    obtain ⟨M3, k1, k2⟩ := hf (x + 1) M2 (L ++ pY m x 1) (by omega) (by omega) (by omega) g2 (by simp; omega)
    refine ⟨M3, ?_, by rw [List.append_assoc] at k2; exact k2⟩
    have g1' : lp (fun _ _ => none) (sX3_find_46 (nI m) N 1 (nI x) 6) N 1 M = some M2 := g1
    rw [g1']
    exact k1
theorem prm_bd {m : Nat} (h : prm m) : 1 < m ∧ m ≤ 31 := by unfold prm at h; omega
theorem okN.of {X Y : Mem} {b o j n : Nat} (h : EqR X Y b o j n) : okN X.1 b n := ⟨h.2.2.1, fun t ht => by
  obtain ⟨a, b, c, -⟩ := h.2.2.2.2.1 t ht
  exact ⟨a, b, c.2⟩⟩
theorem solve_eq {M : Mem} {n0 n1 m N : Nat} (hN : 40 ≤ N) (z0 : M.1 1 4 = nI n0) (z1 : M.1 6 4 = nI n1) (ok0 : okN M.1 1 n0) (ok1 : okN M.1 6 n1) (hm : prm m) (hk : M.1 21 2 = 0 ∨ SolC M n0 n1) : ∃ M2, fX3_find N M 1 6 (nI m) = some M2 ∧ M2.1 21 2 = nI m ∧ M2.1 21 1 = nI (soL M2.1 n0 n1 m).length ∧ (∀ (k : Nat) (q : Nat × Nat), (soL M2.1 n0 n1 m)[k]? = some q → M2.1 22 k = nI (100 * q.1 + q.2)) ∧ (∀ k, k ≠ 21 → k ≠ 22 → k ≠ 23 → M2.1 k = M.1 k) ∧ M2.2 = M.2 := by
  obtain ⟨hm1, hm2⟩ := prm_bd hm
  unfold fX3_find
  by_cases hq : nI m = M.1 21 2
  · rw [if_pos hq]
    rcases hk with hk | ⟨m2, a, b, c, d⟩
    · rw [hk] at hq
      exact absurd hq (nI_ne0 (by omega) (by omega))
    · have := prm_bd a
      have e : m2 = m := (nI_eq (by omega) (by omega)).mp (b.symm.trans hq.symm)
      subst e
      exact ⟨M, rfl, b, c, d, fun _ _ _ _ => rfl, rfl⟩
  · rw [if_neg hq, within_eq, nI_tI (by omega)]
    have e1 : (2 : Int32).toInt = 2 := by decide
    have e2 : (31 : Int32).toInt = 31 := by decide
    have hb : (2 : Int32).toInt ≤ (m : Int) ∧ (m : Int) ≤ (31 : Int32).toInt := by rw [e1, e2]; omega
    simp only [ob_some, hb, and_self, decide_true, bz_t, if1]
    obtain ⟨M1, g1, g2, g3, g4⟩ := fill_eq hN hm1 hm2 (setI (setI M 21 2 (nI m)) 21 1 0)
    rw [g1]
    simp only [ob_some]
    have hJ : SJ M M1 n0 n1 m [] := by
      refine ⟨?_, fun k q h => by simp at h, ?_, g2, ?_, by rw [g4]; rfl⟩
      · rw [g3 21 (by decide), setI_eq]; rfl
      · rw [g3 21 (by decide), setI_nk (by decide), setI_eq]
      · intro k k1 k2 k3
        rw [g3 k k3, setI_ne k1, setI_ne k1]
    obtain ⟨M2, k1, k2⟩ := solX hN z0 z1 ok0 ok1 hm1 hm2 N 1 M1 [] (by omega) (by omega) (by omega) hJ (by simpa using pX_len m (by omega))
    have k1' : lp (fun _ _ => none) (sX3_find_37 (nI m) N 1 6) N 1 M1 = some M2 := k1
    rw [List.nil_append] at k2
    have hc : ∀ c, 1 ≤ c → c ≤ 10 → M2.1 c = M.1 c := fun c c1 c2 => k2.2.2.2.2.1 c (by omega) (by omega) (by omega)
    refine ⟨M2, k1', k2.2.2.1, ?_, ?_, k2.2.2.2.2.1, k2.2.2.2.2.2⟩
    · rw [soL_congr hc]; exact k2.1
    · rw [soL_congr hc]; exact k2.2.1
/-- the reference counts -/
def YQ (M : Mem) (E : Nat → Nat → Int32) (n0 n1 : Nat) : Prop := (M.1 5 0 = nI n0 ∧ ∀ t, t < n0 → M.1 1 (0 + t) = E (1 + 1) t ∧ M.1 2 (0 + t) = E (1 + 2) t ∧ M.1 3 (0 + t) = E (1 + 3) t) ∧ (M.1 5 1 = nI n1 ∧ ∀ t, t < n1 → M.1 1 (8 + t) = E (6 + 1) t ∧ M.1 2 (8 + t) = E (6 + 2) t ∧ M.1 3 (8 + t) = E (6 + 3) t)
theorem YQ.sim {X Y : Mem} {n0 n1 : Nat} (h0 : EqR X Y 1 0 0 n0) (h1 : EqR X Y 6 8 1 n1) : YQ Y X.1 n0 n1 := by
  refine ⟨⟨h0.2.1, fun t ht => ?_⟩, ⟨h1.2.1, fun t ht => ?_⟩⟩
  · obtain ⟨a, b, c, -⟩ := h0.2.2.2.1 t ht
    exact ⟨a.symm, b.symm, c.symm⟩
  · obtain ⟨a, b, c, -⟩ := h1.2.2.2.1 t ht
    exact ⟨a.symm, b.symm, c.symm⟩
theorem ansY {M : Mem} {E : Nat → Nat → Int32} {n0 n1 m N x T : Nat} {a2 : Int32} (hN : 40 ≤ N) (hQ : YQ M E n0 n1) (ok0 : okN E 1 n0) (ok1 : okN E 6 n1) (hm : 1 < m) (hm2 : m ≤ 31) (hx : 1 ≤ x ∧ x < m) (hT : ∀ K, K ≤ 900 → (nI K = a2 ↔ K = T)) (kont : Int32 → Int32 → Option Int32) : ∀ n y L, 1 ≤ y → y ≤ m → m - y < n → (L.filter (isSo E n0 n1 m)).length ≤ T → L.length + (pY m x y).length ≤ 900 →
    (∀ q, ((L ++ pY m x y).filter (isSo E n0 n1 m))[T]? = some q → lp (fun _ _ => none) (sX6_answers_14 (nI m) kont (nI x) N M a2) n (nI (L.filter (isSo E n0 n1 m)).length) (nI y) = some (nI (100 * q.1 + q.2))) ∧
    (((L ++ pY m x y).filter (isSo E n0 n1 m)).length ≤ T → lp (fun _ _ => none) (sX6_answers_14 (nI m) kont (nI x) N M a2) n (nI (L.filter (isSo E n0 n1 m)).length) (nI y) = kont (nI ((L ++ pY m x y).filter (isSo E n0 n1 m)).length) (nI (x + 1))) := by
  intro n
  refine lp_rule (bot := fun _ _ => none) (step := sX6_answers_14 (nI m) kont (nI x) N M a2) (fun n f => ∀ y L, 1 ≤ y → y ≤ m → m - y < n → (L.filter (isSo E n0 n1 m)).length ≤ T → L.length + (pY m x y).length ≤ 900 →
    (∀ q, ((L ++ pY m x y).filter (isSo E n0 n1 m))[T]? = some q → f (nI (L.filter (isSo E n0 n1 m)).length) (nI y) = some (nI (100 * q.1 + q.2))) ∧
    (((L ++ pY m x y).filter (isSo E n0 n1 m)).length ≤ T → f (nI (L.filter (isSo E n0 n1 m)).length) (nI y) = kont (nI ((L ++ pY m x y).filter (isSo E n0 n1 m)).length) (nI (x + 1)))) (fun y L _ _ h => by omega) ?_ n
  intro n f hf y L hy1 hy2 hn hK hlen
  unfold sX6_answers_14
  rw [if_nle (by omega) (by omega), nI_1, nI_1]
  by_cases e : m ≤ y
  · rw [if_pos e, pY_nil e, List.append_nil]
    refine ⟨fun q hq => ?_, fun _ => rfl⟩
    rw [List.getElem?_eq_none hK] at hq; cases hq
  · rw [if_neg e]
    rw [pY_cons (show y < m by omega)] at hlen ⊢
    simp only [List.length_cons] at hlen
    have hfl : (L.filter (isSo E n0 n1 m)).length ≤ L.length := List.length_filter_le _ _
    have w0 := noughtY_eq (x := x) (y := y) hN no0 hQ.1.1 hQ.1.2 ok0 hm hm2 hx ⟨hy1, by omega⟩
    have w1 := noughtY_eq (x := x) (y := y) hN no1 hQ.2.1 hQ.2.2 ok1 hm hm2 hx ⟨hy1, by omega⟩
    rw [← i0] at w0
    rw [← i1] at w1
    rw [w0, w1]
    simp only [ob_some, ifb]
    have hassoc : L ++ (x, y) :: pY m x (y + 1) = (L ++ [(x, y)]) ++ pY m x (y + 1) := by simp
    rw [hassoc, show (100 : Int32) = nI 100 from by decide, show nI 100 * nI x = nI (100 * x) from (Int32.ofNat_mul 100 x).symm, nI_add]
    by_cases hq : isSo E n0 n1 m (x, y) = true
    · have hq2 := hq
      unfold isSo at hq2
      rw [Bool.and_eq_true] at hq2
      rw [hq2.1, hq2.2]
      simp only [if_true]
      have hfil : (L ++ [(x, y)]).filter (isSo E n0 n1 m) = L.filter (isSo E n0 n1 m) ++ [(x, y)] := by
        rw [List.filter_append]; simp [List.filter_cons, hq]
      by_cases hh : (L.filter (isSo E n0 n1 m)).length = T
      · rw [if_pos ((hT _ (by omega)).mpr hh)]
        refine ⟨fun q hq3 => ?_, fun h2 => ?_⟩
        · rw [List.filter_append, hfil, List.append_assoc, List.getElem?_append_right (by omega), ← hh, Nat.sub_self] at hq3
          simp at hq3
          rw [← hq3]
        · rw [List.filter_append, hfil] at h2
          simp at h2
          omega
      · rw [if_neg (fun q => hh ((hT _ (by omega)).mp q)), nI_1]
        have hl2 : ((L ++ [(x, y)]).filter (isSo E n0 n1 m)).length = (L.filter (isSo E n0 n1 m)).length + 1 := by rw [hfil]; simp
        have := hf (y + 1) (L ++ [(x, y)]) (by omega) (by omega) (by omega) (by omega) (by simp; omega)
        rw [hl2] at this
        exact this
    · have hq1 : isSo E n0 n1 m (x, y) = false := by simpa using hq
      have hfil : (L ++ [(x, y)]).filter (isSo E n0 n1 m) = L.filter (isSo E n0 n1 m) := by
        rw [List.filter_append]; simp [List.filter_cons, hq1]
      have := hf (y + 1) (L ++ [(x, y)]) (by omega) (by omega) (by omega) (by rw [hfil]; exact hK) (by simp; omega)
      rw [hfil] at this
      unfold isSo at hq1
      cases h1 : decide (sSum E 1 m x y n0 % (m : Int) = 0)
      · simp only [Bool.false_eq_true, if_false]
        exact this
      · rw [h1] at hq1
        simp only [Bool.true_and] at hq1
        rw [hq1]
        simp only [if_true, Bool.false_eq_true, if_false]
        exact this

/-! promises 17, 18 -/
def okN (E : Nat → Nat → Int32) (bs n : Nat) : Prop := n ≤ 8 ∧ ∀ t, t < n → (0 ≤ (E (bs + 1) t).toInt ∧ (E (bs + 1) t).toInt ≤ 6) ∧ (0 ≤ (E (bs + 2) t).toInt ∧ (E (bs + 2) t).toInt ≤ 6) ∧ (-20 ≤ (E (bs + 3) t).toInt ∧ (E (bs + 3) t).toInt ≤ 20)
theorem mul_bd {c x y : Int} (hc1 : -20 ≤ c) (hc2 : c ≤ 20) (hx1 : 0 ≤ x) (hx2 : x ≤ 30) (hy1 : 0 ≤ y) (hy2 : y ≤ 30) : -18000 ≤ c * x * y ∧ c * x * y ≤ 18000 := by
  have h1 : 0 ≤ x * y := Int.mul_nonneg hx1 hy1
  have h2 : x * y ≤ 900 := Int.le_trans (Int.mul_le_mul hx2 hy2 hy1 (by decide)) (by decide)
  rw [Int.mul_assoc]
  constructor
  · have := Int.mul_le_mul_of_nonneg_right hc1 h1
    omega
  · have := Int.mul_le_mul_of_nonneg_right hc2 h1
    omega
theorem sSum_bd {E : Nat → Nat → Int32} {bs m x y n : Nat} (h : okN E bs n) (hm : 1 < m) (hm2 : m ≤ 31) : ∀ k, k ≤ n → -(18000 * (k : Int)) ≤ sSum E bs m x y k ∧ sSum E bs m x y k ≤ 18000 * (k : Int) := by
  intro k
  induction k with
  | zero => intro _; simp [sSum]
  | succ k ih =>
    intro hk
    obtain ⟨i1, i2⟩ := ih (by omega)
    obtain ⟨-, -, c1, c2⟩ := h.2 k (by omega)
    have b1 : x ^ (E (bs + 1) k).toInt.toNat % m < m := Nat.mod_lt _ (by omega)
    have b2 : y ^ (E (bs + 2) k).toInt.toNat % m < m := Nat.mod_lt _ (by omega)
    have := mul_bd (c := (E (bs + 3) k).toInt) (x := ((x ^ (E (bs + 1) k).toInt.toNat % m : Nat) : Int)) (y := ((y ^ (E (bs + 2) k).toInt.toNat % m : Nat) : Int)) c1 c2 (by omega) (by omega) (by omega) (by omega)
    have e : ((k + 1 : Nat) : Int) = (k : Int) + 1 := by omega
    rw [sSum, e]
    omega
/-- rows of powers -/
def powR (M : Mem) (m x : Nat) : Prop := ∀ z, 1 ≤ z → z < x → ∀ k, k < 7 → M.1 23 (z * 7 + k) = nI (z ^ k % m)
theorem fillRow {m x : Nat} (hm : 1 < m) (hm2 : m ≤ 31) (hx : 1 ≤ x) (hx2 : x < m) : ∀ n k M, k ≤ 7 → 7 - k < n → powR M m x → (∀ i, i < k → M.1 23 (x * 7 + i) = nI (x ^ i % m)) → ∃ M2, lp (fun _ _ _ => none) (sX3_fillPowers_12 (nI x) (nI m)) n (nI (x ^ k % m)) (nI k) M = some M2 ∧ powR M2 m (x + 1) ∧ (∀ c, c ≠ 23 → M2.1 c = M.1 c) ∧ M2.2 = M.2 := by
  intro n
  refine lp_rule (bot := fun _ _ _ => none) (step := sX3_fillPowers_12 (nI x) (nI m)) (fun n f => ∀ k M, k ≤ 7 → 7 - k < n → powR M m x → (∀ i, i < k → M.1 23 (x * 7 + i) = nI (x ^ i % m)) → ∃ M2, f (nI (x ^ k % m)) (nI k) M = some M2 ∧ powR M2 m (x + 1) ∧ (∀ c, c ≠ 23 → M2.1 c = M.1 c) ∧ M2.2 = M.2) (fun k M _ h => by omega) ?_ n
  intro n f hf k M hk hn hR hrow
  unfold sX3_fillPowers_12
  rw [show (7 : Int32) = nI 7 from by decide, if_nle (by decide) (by omega), nI_1]
  by_cases e : 7 ≤ k
  · rw [if_pos e]
    refine ⟨M, rfl, ?_, fun _ _ => rfl, rfl⟩
    intro z z1 z2 i hi
    rcases Nat.lt_or_ge z x with q | q
    · exact hR z z1 q i hi
    · rw [show z = x by omega]; exact hrow i (by omega)
  · rw [if_neg e]
    have b1 : x ^ k % m < m := Nat.mod_lt _ (by omega)
    have e1 : nI x * nI 7 + nI k = nI (x * 7 + k) := by
      rw [show nI x * nI 7 = nI (x * 7) from (Int32.ofNat_mul x 7).symm, nI_add]
    rw [e1, stI_n (by omega) (by decide)]
    simp only [ob_some]
    have e2 : nI (x ^ k % m) * nI x = nI (x ^ k % m * x) := (Int32.ofNat_mul _ _).symm
    have b2 : x ^ k % m * x ≤ 31 * 31 := Nat.mul_le_mul (by omega) (by omega)
    rw [e2, nI_iI (x ^ k % m * x), nI_iI m, rmI_eq (by omega) (by omega) (by omega) (by omega), tmod_nat]
    simp only [ob_some]
    have e3 : iI ((x ^ k % m * x % m : Nat) : Int) = nI (x ^ (k + 1) % m) := by
      rw [← nI_iI]
      congr 1
      rw [Nat.pow_succ, Nat.mod_mul_mod]
    rw [e3]
    obtain ⟨M2, g1, g2, g3, g4⟩ := hf (k + 1) (setI M 23 (x * 7 + k) (nI (x ^ k % m))) (by omega) (by omega) (by
      intro z z1 z2 i hi
      rw [setI_nk (by omega)]
      exact hR z z1 z2 i hi) (by
      intro i hi
      rcases Nat.lt_or_ge i k with q | q
      · rw [setI_nk (by omega)]; exact hrow i q
      · rw [show i = k by omega, setI_eq])
    exact ⟨M2, g1, g2, fun c hc => by rw [g3 c hc, setI_ne hc], g4⟩
theorem fill_eq {m N : Nat} (hN : 40 ≤ N) (hm : 1 < m) (hm2 : m ≤ 31) (M : Mem) : ∃ M2, fX3_fillPowers N M (nI m) = some M2 ∧ powR M2 m m ∧ (∀ c, c ≠ 23 → M2.1 c = M.1 c) ∧ M2.2 = M.2 := by
  have key := lp_rule (bot := fun _ _ => none) (step := sX3_fillPowers_2 (nI m) N) (fun n f => ∀ x M, 1 ≤ x → x ≤ m → m - x < n → powR M m x → ∃ M2, f (nI x) M = some M2 ∧ powR M2 m m ∧ (∀ c, c ≠ 23 → M2.1 c = M.1 c) ∧ M2.2 = M.2) (fun x M _ _ h => by omega) (by
    intro n f hf x M hx1 hx2 hn hR
    unfold sX3_fillPowers_2
    rw [if_nle (by omega) (by omega), nI_1]
    by_cases e : m ≤ x
    · rw [if_pos e]
      have : x = m := by omega
      subst this
      exact ⟨M, rfl, hR, fun _ _ => rfl, rfl⟩
    · rw [if_neg e]
      obtain ⟨M1, g1, g2, g3, g4⟩ := fillRow hm hm2 hx1 (show x < m by omega) N 0 M (by omega) (by omega) hR (fun i hi => by omega)
      have e0 : nI (x ^ 0 % m) = 1 := by rw [Nat.pow_zero, Nat.mod_eq_of_lt hm]; rfl
      rw [e0] at g1
      have g1' : lp (fun _ _ _ => none) (sX3_fillPowers_12 (nI x) (nI m)) N 1 0 M = some M1 := g1
      rw [g1']
      obtain ⟨M2, k1, k2, k3, k4⟩ := hf (x + 1) M1 (by omega) (by omega) (by omega) g2
      exact ⟨M2, k1, k2, fun c hc => by rw [k3 c hc, g3 c hc], by rw [k4, g4]⟩) N 1 M (by omega) (by omega) (by omega) (fun z z1 z2 => by omega)
  exact key
theorem nought_of {S : Int} {m : Nat} (h1 : -144000 ≤ S) (h2 : S ≤ 144000) (hm : 1 < m) (hm2 : m ≤ 31) : (rmI (iI S) (nI m)).bind (fun v2 => if v2 = 0 then okZ 1 else okZ 0) = some (bz (decide (S % (m : Int) = 0))) := by
  rw [nI_iI m, rmI_eq (by omega) (by omega) (by omega) (by omega)]
  simp only [ob_some, okZ_0, okZ_1]
  have hb : -144000 ≤ S.tmod m ∧ S.tmod m ≤ 144000 := by
    have := Int.tmod_def S m
    rcases Int.le_total 0 S with q | q
    · have a1 := Int.tmod_nonneg (m : Int) q
      have a2 := Int.tmod_lt_of_pos S (show (0 : Int) < m by omega)
      omega
    · have a1 : S.tmod m = -((-S).tmod m) := by rw [Int.neg_tmod]; omega
      have a2 := Int.tmod_nonneg (m : Int) (show 0 ≤ -S by omega)
      have a3 := Int.tmod_lt_of_pos (-S) (show (0 : Int) < m by omega)
      omega
  by_cases c : S % (m : Int) = 0
  · rw [if_pos ((iI_0 (by omega) (by omega)).mpr ((tmod_0 S m).mpr c))]
    simp [c, bz]
  · rw [if_neg (fun q => c ((tmod_0 S m).mp ((iI_0 (by omega) (by omega)).mp q)))]
    simp [c, bz]
theorem noughtL_of {S : Int} {m : Nat} (h1 : -144000 ≤ S) (h2 : S ≤ 144000) (hm : 1 < m) (hm2 : m ≤ 31) : (rmL (jI S) (Int32.toInt64 (nI m))).bind (fun v2 => if v2 = (0 : Int64) then okZ 1 else okZ 0) = some (bz (decide (S % (m : Int) = 0))) := by
  rw [to64, nI_tI (by omega), rmL_eq (by omega) (by omega) (by omega) (by omega)]
  simp only [ob_some, okZ_0, okZ_1]
  have hb : -144000 ≤ S.tmod m ∧ S.tmod m ≤ 144000 := by
    have := Int.tmod_def S m
    rcases Int.le_total 0 S with q | q
    · have a1 := Int.tmod_nonneg (m : Int) q
      have a2 := Int.tmod_lt_of_pos S (show (0 : Int) < m by omega)
      omega
    · have a1 : S.tmod m = -((-S).tmod m) := by rw [Int.neg_tmod]; omega
      have a2 := Int.tmod_nonneg (m : Int) (show 0 ≤ -S by omega)
      have a3 := Int.tmod_lt_of_pos (-S) (show (0 : Int) < m by omega)
      omega
  by_cases c : S % (m : Int) = 0
  · rw [if_pos ((jI_0 (by omega) (by omega)).mpr ((tmod_0 S m).mpr c))]
    simp [c, bz]
  · rw [if_neg (fun q => c ((tmod_0 S m).mp ((jI_0 (by omega) (by omega)).mp q)))]
    simp [c, bz]
theorem nought_eq {M : Mem} {E : Nat → Nat → Int32} {bs n m x y N : Nat} (hN : 9 ≤ N) (hb : bs = 1 ∨ bs = 6) (hE : ∀ k, 1 ≤ k → k ≤ 10 → M.1 k = E k) (hn : M.1 bs 4 = nI n) (hok : okN E bs n) (hm : 1 < m) (hm2 : m ≤ 31) (hP : powR M m m) (hx : 1 ≤ x ∧ x < m) (hy : 1 ≤ y ∧ y < m) : fX3_isNought N M bs (nI x) (nI y) (nI m) = some (bz (decide (sSum E bs m x y n % (m : Int) = 0))) := by
  have hn8 := hok.1
  have key := lp_rule (bot := fun _ _ => none) (step := sX3_isNought_6 M bs (nI x) (nI y)) (fun q f => ∀ t, t ≤ n → n - t < q → f (iI (sSum E bs m x y t)) (nI t) = some (iI (sSum E bs m x y n))) (fun t _ h => by omega) (by
    intro q f hf t ht hq
    unfold sX3_isNought_6
    rw [hn, if_nle (by omega) (by omega), nI_1]
    by_cases e : n ≤ t
    · rw [if_pos e, show t = n by omega]
    · rw [if_neg e]
      obtain ⟨⟨i1, i2⟩, ⟨j1, j2⟩, c1, c2⟩ := hok.2 t (by omega)
      have l1 : ldI M (bs + 1) 8 (nI t) = some (E (bs + 1) t) := by rw [ldI_n (by omega) (by decide), hE (bs + 1) (by omega) (by omega)]
      have l2 : ldI M (bs + 2) 8 (nI t) = some (E (bs + 2) t) := by rw [ldI_n (by omega) (by decide), hE (bs + 2) (by omega) (by omega)]
      have l3 : ldI M (bs + 3) 8 (nI t) = some (E (bs + 3) t) := by rw [ldI_n (by omega) (by decide), hE (bs + 3) (by omega) (by omega)]
      have p1 : ldI M 23 217 ((nI x * 7) + E (bs + 1) t) = some (nI (x ^ (E (bs + 1) t).toInt.toNat % m)) := by
        obtain ⟨i, hi, he⟩ := n_of (k := 6) ⟨i1, i2⟩ (by decide)
        rw [he, nI_tI (by omega), show (7 : Int32) = nI 7 from by decide, show nI x * nI 7 = nI (x * 7) from (Int32.ofNat_mul x 7).symm, nI_add, ldI_n (by omega) (by decide), hP x hx.1 hx.2 i (by omega)]
        rfl
      have p2 : ldI M 23 217 ((nI y * 7) + E (bs + 2) t) = some (nI (y ^ (E (bs + 2) t).toInt.toNat % m)) := by
        obtain ⟨i, hi, he⟩ := n_of (k := 6) ⟨j1, j2⟩ (by decide)
        rw [he, nI_tI (by omega), show (7 : Int32) = nI 7 from by decide, show nI y * nI 7 = nI (y * 7) from (Int32.ofNat_mul y 7).symm, nI_add, ldI_n (by omega) (by decide), hP y hy.1 hy.2 i (by omega)]
        rfl
      simp only [l1, l2, l3, p1, p2, ob_some]
      have e1 : iI (sSum E bs m x y t) + E (bs + 3) t * nI (x ^ (E (bs + 1) t).toInt.toNat % m) * nI (y ^ (E (bs + 2) t).toInt.toNat % m) = iI (sSum E bs m x y (t + 1)) := by
        rw [nI_iI, nI_iI]
        conv => lhs; rw [← iI_of (E (bs + 3) t)]
        rw [iI_mul, iI_mul, iI_add]
        rfl
      rw [e1]
      exact hf (t + 1) (by omega) (by omega)) N 0 (by omega) (by omega)
  have b := sSum_bd (x := x) (y := y) hok hm hm2 n (Nat.le_refl _)
  unfold fX3_isNought
  have k0 : lp (fun _ _ => none) (sX3_isNought_6 M bs (nI x) (nI y)) N 0 0 = some (iI (sSum E bs m x y n)) := key
  rw [k0]
  simp only [ob_some]
  exact nought_of (by omega) (by omega) hm hm2
theorem noughtY_eq {M : Mem} {E : Nat → Nat → Int32} {bs o j n m x y N : Nat} (hN : 40 ≤ N) (hno : eqNo bs o j) (hn : M.1 5 j = nI n) (hM : ∀ t, t < n → M.1 1 (o + t) = E (bs + 1) t ∧ M.1 2 (o + t) = E (bs + 2) t ∧ M.1 3 (o + t) = E (bs + 3) t) (hok : okN E bs n) (hm : 1 < m) (hm2 : m ≤ 31) (hx : 1 ≤ x ∧ x < m) (hy : 1 ≤ y ∧ y < m) : fX6_isNought N M (nI j) (nI x) (nI y) (nI m) = some (bz (decide (sSum E bs m x y n % (m : Int) = 0))) := by
  have hn8 := hok.1
  have hj := hno.j
  have ho := hno.o
  have key := lp_rule (bot := fun _ _ => none) (step := sX6_isNought_9 M (nI j) N (nI x) (nI m) (nI y)) (fun q f => ∀ t, t ≤ n → n - t < q → f (jI (sSum E bs m x y t)) (nI (o + t)) = some (jI (sSum E bs m x y n))) (fun t _ h => by omega) (by
    intro q f hf t ht hq
    unfold sX6_isNought_9
    rw [ldI_n hj (by decide), hn]
    simp only [ob_some]
    rw [e8, ← ho, if_nle (by omega) (by omega), nI_1]
    by_cases e : o + n ≤ o + t
    · rw [if_pos e, show t = n by omega]
    · rw [if_neg e]
      obtain ⟨⟨i1, i2⟩, ⟨j1, j2⟩, c1, c2⟩ := hok.2 t (by omega)
      obtain ⟨z1, z2, z3⟩ := hM t (by omega)
      have l1 : ldI M 1 16 (nI (o + t)) = some (E (bs + 1) t) := by rw [ldI_n (by omega) (by decide), z1]
      have l2 : ldI M 2 16 (nI (o + t)) = some (E (bs + 2) t) := by rw [ldI_n (by omega) (by decide), z2]
      have l3 : ldI M 3 16 (nI (o + t)) = some (E (bs + 3) t) := by rw [ldI_n (by omega) (by decide), z3]
      have p1 : fX6_power N (Int32.toInt64 (nI x)) (Int32.toInt64 (E (bs + 1) t)) (Int32.toInt64 (nI m)) = some (jI ((x ^ (E (bs + 1) t).toInt.toNat % m : Nat) : Int)) := by
        obtain ⟨i, hi, he⟩ := n_of (k := 6) ⟨i1, i2⟩ (by decide)
        rw [he, to64, to64, to64, nI_tI (by omega), nI_tI (by omega), nI_tI (by omega)]
        exact power_eq hN hm (by omega) (by omega) (Nat.lt_of_lt_of_le hi (by decide))
      have p2 : fX6_power N (Int32.toInt64 (nI y)) (Int32.toInt64 (E (bs + 2) t)) (Int32.toInt64 (nI m)) = some (jI ((y ^ (E (bs + 2) t).toInt.toNat % m : Nat) : Int)) := by
        obtain ⟨i, hi, he⟩ := n_of (k := 6) ⟨j1, j2⟩ (by decide)
        rw [he, to64, to64, to64, nI_tI (by omega), nI_tI (by omega), nI_tI (by omega)]
        exact power_eq hN hm (by omega) (by omega) (Nat.lt_of_lt_of_le hi (by decide))
      simp only [l1, l2, l3, p1, p2, ob_some]
      have e1 : jI (sSum E bs m x y t) + Int32.toInt64 (E (bs + 3) t) * jI ((x ^ (E (bs + 1) t).toInt.toNat % m : Nat) : Int) * jI ((y ^ (E (bs + 2) t).toInt.toNat % m : Nat) : Int) = jI (sSum E bs m x y (t + 1)) := by
        rw [to64, jI_mul, jI_mul, jI_add]
        rfl
      rw [e1]
      exact hf (t + 1) (by omega) (by omega)) N 0 (by omega) (by omega)
  have b := sSum_bd (x := x) (y := y) hok hm hm2 n (Nat.le_refl _)
  unfold fX6_isNought
  have g0 : (8 : Int32) * nI j = nI (o + 0) := by
    rw [show (8 : Int32) = nI 8 from by decide, show nI 8 * nI j = nI (8 * j) from (Int32.ofNat_mul 8 j).symm, ho, Nat.add_zero]
  have k0 : lp (fun _ _ => none) (sX6_isNought_9 M (nI j) N (nI x) (nI m) (nI y)) N 0 (nI (o + 0)) = some (jI (sSum E bs m x y n)) := key
  rw [g0, k0]
  simp only [ob_some]
  exact noughtL_of (by omega) (by omega) hm hm2

/-! the class's way down to a common row -/
def Eqv (p : Nat) (f g f0 g0 : Nat → Int) : Prop := ∀ I, Cls p I → ((I f ∧ I g) ↔ (I f0 ∧ I g0))
theorem Eqv.refl (p : Nat) (f g : Nat → Int) : Eqv p f g f g := fun _ _ => Iff.rfl
theorem Eqv.swap {p : Nat} {f g f0 g0 : Nat → Int} (h : Eqv p f g f0 g0) : Eqv p g f g0 f0 := fun I hI => by
  have := h I hI
  constructor
  · intro ⟨a, b⟩; have := this.mp ⟨b, a⟩; exact ⟨this.2, this.1⟩
  · intro ⟨a, b⟩; have := this.mpr ⟨b, a⟩; exact ⟨this.2, this.1⟩
theorem one_nd {p : Nat} (hp : Pr p) : ¬ (p : Int) ∣ 1 := by
  intro h
  have := Int.le_of_dvd (by decide) h
  have := hp.1
  omega
theorem Eqv.step {p : Nat} (hp : Pr p) {f g f2 f0 g0 : Nat → Int} {a b : Int} {k : Nat} (h : Eqv p f g f0 g0) (ha : ¬ (p : Int) ∣ a) (hk : k < 12) (hg : ∀ n, 12 ≤ n + k → g n = 0) (hs : ∀ n, (p : Int) ∣ f2 n - (a * f n - b * shf k g n)) : Eqv p f2 g f0 g0 := by
  intro I hI
  rw [← h I hI]
  constructor
  · intro ⟨i1, i2⟩
    refine ⟨hI f2 g f 1 (-b) a k ha hk hg (fun n => ?_) i1 i2, i2⟩
    have e : a * f n - (1 * f2 n - -b * shf k g n) = -(f2 n - (a * f n - b * shf k g n)) := by grind
    rw [e]
    exact Int.dvd_neg.mpr (hs n)
  · intro ⟨i1, i2⟩
    exact ⟨hI f g f2 a b 1 k (one_nd hp) hk hg (fun n => by rw [Int.one_mul]; exact hs n) i1 i2, i2⟩
def Sz (f : Nat → Int) (k : Nat) : Prop := k ≤ 7 ∧ (∀ n, k ≤ n → f n = 0) ∧ (0 < k → f (k - 1) ≠ 0)
theorem lt_nd {p : Nat} {a : Int} (h0 : a ≠ 0) (h1 : -(p : Int) < a) (h2 : a < (p : Int)) : ¬ (p : Int) ∣ a := by
  intro ⟨z, hz⟩
  have e : a.natAbs = p * z.natAbs := by rw [hz, Int.natAbs_mul, Int.natAbs_natCast]
  rcases Nat.eq_zero_or_pos z.natAbs with w | w
  · rw [w] at e; omega
  · have := Nat.mul_le_mul_left p w; omega
/-- where one row is nought, the other tells -/
theorem end_row {p : Nat} (hp : Pr p) {f g f0 g0 : Nat → Int} {t : Nat} (h : Eqv p f g f0 g0) (hf : ∀ n, f n = 0) (hg : Sz g t) (ht : 1 ≤ t) (hb : ∀ n, -(p : Int) < g n ∧ g n < (p : Int)) : (2 ≤ t → YesP p f0 g0) ∧ (t = 1 → NoP p f0 g0) := by
  obtain ⟨g1, g2, g3⟩ := hg
  have nd : ¬ (p : Int) ∣ g (t - 1) := lt_nd (g3 (by omega)) (hb _).1 (hb _).2
  constructor
  · intro t2
    obtain ⟨s, s1, s2⟩ := run_ex hp (h := g) (d := t - 1) (by omega) (by omega) nd (fun n hn => g2 n (by omega)) (fun _ => 1)
    have := (h _ (ann_cls hp s)).mp ⟨fun j => by
      have z : LL f s j = 0 := sm_zero 12 (fun n _ => by rw [hf n]; simp)
      rw [z]; exact ⟨0, by simp⟩, s2⟩
    exact ⟨s, s1 0 (by omega), this.1, this.2⟩
  · intro t1
    subst t1
    exact ⟨g, nd, fun n hn => g2 n hn, fun I hI a b => ((h I hI).mpr ⟨a, b⟩).2⟩
def RowC (M : Mem) (c : Nat) (f : Nat → Int) (p : Nat) : Prop := (∀ n, n < 7 → M.2 c n = jI (f n)) ∧ (∀ n, 7 ≤ n → f n = 0) ∧ ∀ n, -(p : Int) < f n ∧ f n < (p : Int)
theorem nI_sub {s t : Nat} (h : t ≤ s) : nI s - nI t = nI (s - t) := by
  rw [nI_iI, nI_iI, nI_iI, iI_sub]
  congr 1
  omega
theorem iI_pred {k : Nat} (h : 1 ≤ k) : iI ((k : Int) - 1) = nI (k - 1) := by
  rw [nI_iI]; congr 1; omega
theorem degree_eq {N : Nat} {M : Mem} {c p : Nat} {f : Nat → Int} (hN : 10 ≤ N) (hp : p ≤ 2147483648) (h : RowC M c f p) : ∃ k : Nat, fX2_degreeOf N M c = some (iI ((k : Int) - 1)) ∧ Sz f k := by
  obtain ⟨h1, h2, h3⟩ := h
  have key := lp_rule (bot := fun _ => none) (step := sX2_degreeOf_5 M c) (fun w fc => ∀ k : Nat, k ≤ 7 → k < w → (∀ n, k ≤ n → f n = 0) → ∃ k2 : Nat, fc (iI ((k : Int) - 1)) = some (iI ((k2 : Int) - 1)) ∧ Sz f k2) (fun k _ h => by omega) (by
    intro w fc hf k hk hw hz
    unfold sX2_degreeOf_5
    rw [if_ilt0 (by unfold sml; omega)]
    rcases Nat.eq_zero_or_pos k with z | z
    · rw [if_pos (by omega)]
      exact ⟨k, rfl, hk, hz, fun q => by omega⟩
    · rw [if_neg (by omega), iI_pred z, ldL_n (by omega) (by decide), ob_some, h1 (k - 1) (by omega)]
      have b := h3 (k - 1)
      by_cases c0 : f (k - 1) = 0
      · rw [c0, if_pos (by decide)]
        have nx := hf (k - 1) (by omega) (by omega) (fun n hn => by
          rcases Nat.eq_or_lt_of_le hn with q | q
          · rw [← q]; exact c0
          · exact hz n (by omega))
        have e : nI (k - 1) + -1 = iI (((k - 1 : Nat) : Int) - 1) := by
          rw [nI_iI, show (-1 : Int32) = iI (-1) by decide, iI_add]
          congr 1
        rw [e]
        exact nx
      · rw [if_neg (fun q => c0 ((jI_0 (by omega) (by omega)).mp q)), ← iI_pred z]
        exact ⟨k, rfl, hk, hz, fun _ => c0⟩) N 7 (by omega) (by omega) (fun n hn => h2 n hn)
  exact key
def lowR (f g : Nat → Int) (p s t n : Nat) : Int := if n ≤ s then (g t * f n - f s * shf (s - t) g n).tmod p else 0
theorem mul_lt {a b P : Int} (h1 : -P < a ∧ a < P) (h2 : -P < b ∧ b < P) : -(P * P) ≤ a * b ∧ a * b ≤ P * P := by
  have e : (a * b).natAbs = a.natAbs * b.natAbs := Int.natAbs_mul a b
  have m := Nat.mul_le_mul (show a.natAbs ≤ P.natAbs by omega) (show b.natAbs ≤ P.natAbs by omega)
  have e2 : ((P.natAbs * P.natAbs : Nat) : Int) = P * P := by
    rw [Int.natCast_mul]
    have : ((P.natAbs : Nat) : Int) = P := by omega
    rw [this]
  omega
theorem tmod_bd (a : Int) {p : Nat} (hp : 0 < p) : -(p : Int) < a.tmod p ∧ a.tmod p < (p : Int) := by
  have h1 := Int.tmod_lt_of_pos a (show (0 : Int) < p by omega)
  have h2 := Int.lt_tmod_of_pos a (show (0 : Int) < p by omega)
  omega
theorem tmod_dv (a : Int) (p : Int) : p ∣ a.tmod p - a := by
  have := Int.mul_tdiv_add_tmod a p
  exact ⟨-(a.tdiv p), by rw [Int.mul_neg]; omega⟩
theorem lowR_ok {f g : Nat → Int} {p s t : Nat} (hp : 0 < p) (hs : s ≤ 6) (ht : t ≤ s) (hf : ∀ n, s < n → f n = 0) (hg : ∀ n, t < n → g n = 0) : (∀ n, (p : Int) ∣ lowR f g p s t n - (g t * f n - f s * shf (s - t) g n)) ∧ (∀ n, s ≤ n → lowR f g p s t n = 0) ∧ (∀ n, -(p : Int) < lowR f g p s t n ∧ lowR f g p s t n < (p : Int)) := by
  refine ⟨fun n => ?_, fun n hn => ?_, fun n => ?_⟩
  · unfold lowR
    by_cases c : n ≤ s
    · rw [if_pos c]; exact tmod_dv _ _
    · rw [if_neg c, hf n (by omega)]
      have : shf (s - t) g n = 0 := by
        unfold shf
        rw [if_neg (by omega)]
        exact hg _ (by omega)
      rw [this]
      exact ⟨0, by simp⟩
  · unfold lowR
    rcases Nat.eq_or_lt_of_le hn with q | q
    · rw [← q, if_pos (Nat.le_refl _)]
      have : shf (s - t) g s = g t := by
        unfold shf
        rw [if_neg (by omega)]
        congr 1
        omega
      rw [this, Int.mul_comm, Int.sub_self, Int.zero_tmod]
    · rw [if_neg (by omega)]
  · unfold lowR
    by_cases c : n ≤ s
    · rw [if_pos c]; exact tmod_bd _ hp
    · rw [if_neg c]; omega
theorem lower_eq {N : Nat} {M : Mem} {a1 a3 p s t : Nat} {f g : Nat → Int} (hN : 10 ≤ N) (hp0 : 1 < p) (hp : p ≤ 1000000009) (ha : a1 ≠ a3) (hf : RowC M a1 f p) (hg : RowC M a3 g p) (hs : s ≤ 6) (ht : t ≤ s) (zf : ∀ n, s < n → f n = 0) (zg : ∀ n, t < n → g n = 0) : ∃ M2, fX2_lower N M a1 (nI s) a3 (nI t) (jI p) = some M2 ∧ RowC M2 a1 (lowR f g p s t) p ∧ RowC M2 a3 g p ∧ M2.1 = M.1 := by
  obtain ⟨f1, f2, f3⟩ := hf
  obtain ⟨g1, g2, g3⟩ := id hg
  obtain ⟨r1, r2, r3⟩ := lowR_ok (p := p) (by omega) hs ht zf zg
  unfold fX2_lower
  rw [ldL_n (by omega) (by decide), ldL_n (by omega) (by decide), f1 s (by omega), g1 t (by omega)]
  simp only [ob_some]
  have key := lp_rule (bot := fun _ _ => none) (step := sX2_lower_20 (nI s) (nI t) a3 (jI (f s)) a1 (jI (g t)) (jI p)) (fun w fc => ∀ (k : Nat) (M4 : Mem), k ≤ s + 1 → s + 1 - k < w → (∀ n, n < 7 → M4.2 a1 n = jI (if n < k then lowR f g p s t n else f n)) → (∀ n, n < 7 → M4.2 a3 n = jI (g n)) → M4.1 = M.1 → ∃ M2, fc (nI k) M4 = some M2 ∧ (∀ n, n < 7 → M2.2 a1 n = jI (if n < s + 1 then lowR f g p s t n else f n)) ∧ (∀ n, n < 7 → M2.2 a3 n = jI (g n)) ∧ M2.1 = M.1) (fun k M4 _ h => by omega) (by
    intro w fc hc k M4 hk hw m1 m3 m0
    unfold sX2_lower_20
    rw [if_nlt (by omega) (by omega), nI_sub ht, nI_1]
    by_cases e : s < k
    · rw [if_pos e]
      have : k = s + 1 := by omega
      subst this
      exact ⟨M4, rfl, m1, m3, m0⟩
    · rw [if_neg e, if_nlt (by omega) (by omega)]
      have hv : (if k < s - t then some (0 : Int64) else (ldL M4 a3 7 (nI k - nI (s - t))).bind fun v10 => some (jI (f s) * v10)) = some (jI (f s * shf (s - t) g k)) := by
        unfold shf
        by_cases c : k < s - t
        · rw [if_pos c, if_pos c, Int.mul_zero]; rfl
        · rw [if_neg c, if_neg c, nI_sub (by omega), ldL_n (by omega) (by decide), m3 _ (by omega), ob_some, jI_mul]
      rw [hv]
      simp only [ob_some]
      rw [ldL_n (by omega) (by decide), m1 k (by omega), if_neg (by omega)]
      simp only [ob_some]
      have b1 := mul_lt (g3 t) (f3 k)
      have b2 : -((p : Int) * p) ≤ f s * shf (s - t) g k ∧ f s * shf (s - t) g k ≤ (p : Int) * p := by
        unfold shf
        by_cases c : k < s - t
        · rw [if_pos c, Int.mul_zero]
          have : (0 : Int) ≤ (p : Int) * p := Int.mul_nonneg (by omega) (by omega)
          omega
        · rw [if_neg c]; exact mul_lt (f3 s) (g3 _)
      have pp : (p : Int) * p ≤ 1000000009 * 1000000009 := Int.mul_le_mul (by omega) (by omega) (by omega) (by omega)
      rw [jI_mul, jI_sub, rmL_eq (by omega) (by omega) (by omega) (by omega)]
      simp only [ob_some]
      rw [stL_n (by omega) (by decide)]
      simp only [ob_some]
      have lr : lowR f g p s t k = (g t * f k - f s * shf (s - t) g k).tmod p := by
        unfold lowR
        rw [if_pos (by omega)]
      refine hc (k + 1) _ (by omega) (by omega) (fun n hn => ?_) (fun n hn => ?_) ?_
      · by_cases q : n = k
        · subst q
          rw [setL_eq, if_pos (by omega), lr]
        · rw [setL_nk q, m1 n hn]
          by_cases q2 : n < k
          · rw [if_pos q2, if_pos (by omega)]
          · rw [if_neg q2, if_neg (by omega)]
      · rw [setL_ne (fun q => ha q.symm)]; exact m3 n hn
      · exact m0) N 0 M (by omega) (by omega) (fun n hn => by rw [if_neg (by omega)]; exact f1 n hn) g1 rfl
  obtain ⟨M2, k1, k2, k3, k4⟩ := key
  refine ⟨M2, k1, ⟨fun n hn => ?_, fun n hn => r2 n (by omega), r3⟩, ⟨k3, g2, g3⟩, k4⟩
  rw [k2 n hn]
  by_cases q : n < s + 1
  · rw [if_pos q]
  · rw [if_neg q, zf n (by omega), r2 n (by omega)]

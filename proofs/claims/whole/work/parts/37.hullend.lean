def fsti (px py : Nat → Int) : Nat → Nat
  | 0 => 0
  | k + 1 => if px k < px (fsti px py k) ∨ (px k = px (fsti px py k) ∧ py k < py (fsti px py k)) then k else fsti px py k
theorem fsti_min (px py : Nat → Int) : ∀ n, (0 < n → fsti px py n < n) ∧ ∀ t, t < n → ¬ (px t < px (fsti px py n) ∨ (px t = px (fsti px py n) ∧ py t < py (fsti px py n))) := by
  intro n
  induction n with
  | zero => exact ⟨fun h => by omega, fun t h => by omega⟩
  | succ n ih =>
    obtain ⟨i1, i2⟩ := ih
    unfold fsti
    by_cases h : px n < px (fsti px py n) ∨ (px n = px (fsti px py n) ∧ py n < py (fsti px py n))
    · rw [if_pos h]
      refine ⟨fun _ => by omega, fun t ht => ?_⟩
      rcases Nat.lt_or_ge t n with q | q
      · have := i2 t q; omega
      · rw [show t = n by omega]; omega
    · rw [if_neg h]
      refine ⟨fun _ => ?_, fun t ht => ?_⟩
      · rcases Nat.eq_zero_or_pos n with q | q
        · subst q; simp [fsti]
        · have := i1 q; omega
      · rcases Nat.lt_or_ge t n with q | q
        · exact i2 t q
        · rw [show t = n by omega]; exact h
theorem fsti_ext {px py : Nat → Int} {n : Nat} (hn : 0 < n) (hB : box px py n) : Ext px py n (fsti px py n) := by
  obtain ⟨h1, h2⟩ := fsti_min px py n
  refine ⟨100, 1, fun k hk hs => ?_⟩
  have a := h2 k hk
  obtain ⟨b1, b2⟩ := hB k hk
  obtain ⟨c1, c2⟩ := hB _ (h1 hn)
  unfold smP at hs
  omega
theorem par_id (u v d1 d2 k1 k2 : Int) (h : d1 * k2 - d2 * k1 = 0) : (u * d1 + v * d2) * k1 = (u * k1 + v * k2) * d1 ∧ (u * d1 + v * d2) * k2 = (u * k1 + v * k2) * d2 := by
  constructor <;> grind
theorem NX.inj {px py : Nat → Int} {n a b c c2 : Nat} (hEa : Ext px py n a) (hEb : Ext px py n b) (ha : a < n) (hb : b < n) (h1 : NX px py n a c) (h2 : NX px py n b c2) (hc : smP px py c c2) : smP px py a b := by
  by_cases hab : smP px py b a
  · exact ⟨hab.1.symm, hab.2.symm⟩
  exfalso
  obtain ⟨ua, va, hEa⟩ := hEa
  obtain ⟨ub, vb, hEb⟩ := hEb
  obtain ⟨c1, n1, f1⟩ := h1
  obtain ⟨c3, n2, f2⟩ := h2
  obtain ⟨o1, o2⟩ := f1 b hb
  obtain ⟨o3, -⟩ := f2 a ha
  have gK := hEa b hb hab
  have gD := hEa c c1 n1
  have gA := hEb a ha (fun w => hab ⟨w.1.symm, w.2.symm⟩)
  have gC := hEb c2 c3 n2
  rw [← hc.1, ← hc.2] at gC
  unfold orr at o1 o2 o3
  unfold dst at o2
  rw [← hc.1, ← hc.2] at o3
  have e1 : px c - px b = (px c - px a) - (px b - px a) := by omega
  have e2 : py c - py b = (py c - py a) - (py b - py a) := by omega
  have e3 : px a - px b = -(px b - px a) := by omega
  have e4 : py a - py b = -(py b - py a) := by omega
  rw [e1, e2, e3, e4] at o3
  rw [e3, e4] at gA
  rw [e1, e2] at gC
  have hne : ¬ (px c - px a = 0 ∧ py c - py a = 0) := fun w => n1 ⟨by omega, by omega⟩
  generalize px c - px a = d1 at *
  generalize py c - py a = d2 at *
  generalize px b - px a = k1 at *
  generalize py b - py a = k2 at *
  have z : d1 * k2 - d2 * k1 = 0 := by
    have : (d1 - k1) * -k2 - (d2 - k2) * -k1 = -(d1 * k2 - d2 * k1) := by grind
    omega
  have hd := o2 z
  obtain ⟨p1, p2⟩ := par_id ua va d1 d2 k1 k2 z
  have pb : (ua * d1 + va * d2) * (ub * k1 + vb * k2) = (ua * k1 + va * k2) * (ub * d1 + vb * d2) := by grind
  have gA2 : ub * k1 + vb * k2 < 0 := by
    have : ub * -k1 + vb * -k2 = -(ub * k1 + vb * k2) := by grind
    omega
  have gC2 : ub * k1 + vb * k2 < ub * d1 + vb * d2 := by
    have : ub * (d1 - k1) + vb * (d2 - k2) = (ub * d1 + vb * d2) - (ub * k1 + vb * k2) := by grind
    omega
  have sq : (ua * d1 + va * d2) * (ua * d1 + va * d2) * (k1 * k1 + k2 * k2) = (ua * k1 + va * k2) * (ua * k1 + va * k2) * (d1 * d1 + d2 * d2) := by grind
  generalize ua * d1 + va * d2 = fD at *
  generalize ua * k1 + va * k2 = fK at *
  generalize ub * k1 + vb * k2 = gk at *
  generalize ub * d1 + vb * d2 = gd at *
  have hlt : fD < fK := by
    rcases Int.lt_or_le fD fK with w | w
    · exact w
    · exfalso
      have neg : fD * gk < 0 := by
        have := nl_pos gD (show 0 < -gk by omega)
        rw [Int.mul_neg] at this; omega
      have gdn : gd < 0 := by
        rcases Int.lt_or_le gd 0 with x | x
        · exact x
        · have := nl_nn (show 0 ≤ fK by omega) x
          omega
      have t1 : fD * gk < fD * gd := Int.mul_lt_mul_of_pos_left gC2 gD
      have t2 : fD * gd ≤ fK * gd := by
        have := Int.mul_le_mul_of_nonneg_right w (show 0 ≤ -gd by omega)
        rw [Int.mul_neg, Int.mul_neg] at this
        omega
      omega
  have s1 := sq_nn d1
  have s2 := sq_nn d2
  have hDpos : 0 < d1 * d1 + d2 * d2 := by
    rcases Int.lt_or_le 0 (d1 * d1 + d2 * d2) with w | w
    · exact w
    · exfalso
      exact hne ⟨sq_0 (by omega), sq_0 (by omega)⟩
  have q1 : fD * fD < fK * fK := Int.mul_lt_mul hlt (by omega) (by omega) (by omega)
  have q2 : fD * fD * (d1 * d1 + d2 * d2) < fK * fK * (d1 * d1 + d2 * d2) := Int.mul_lt_mul_of_pos_right q1 hDpos
  have q3 : fD * fD * (k1 * k1 + k2 * k2) ≤ fD * fD * (d1 * d1 + d2 * d2) := Int.mul_le_mul_of_nonneg_left hd (sq_nn fD)
  omega
/-- three corners one behind the other aren't on a line -/
theorem strict3 {px py : Nat → Int} {n a b d : Nat} (hE : Ext px py n a) (ha : a < n) (h1 : NX px py n a b) (h2 : NX px py n b d) (hda : ¬ smP px py d a) : 0 < orr px py a b d := by
  obtain ⟨u, v, hE⟩ := hE
  obtain ⟨b1, n1, f1⟩ := h1
  obtain ⟨d1, n2, f2⟩ := h2
  obtain ⟨o1, o2⟩ := f1 d d1
  obtain ⟨-, o4⟩ := f2 a ha
  rcases Int.lt_or_le 0 (orr px py a b d) with w | w
  · exact w
  · exfalso
    have z : orr px py a b d = 0 := by omega
    have z2 : orr px py b d a = 0 := by
      have : orr px py b d a = orr px py a b d := by unfold orr; grind
      omega
    have q1 := o2 z
    have q2 := o4 z2
    have gB := hE b b1 n1
    have gD := hE d d1 hda
    unfold orr at z
    unfold dst at q1 q2
    have e1 : px d - px b = (px d - px a) - (px b - px a) := by omega
    have e2 : py d - py b = (py d - py a) - (py b - py a) := by omega
    have e3 : px a - px b = -(px b - px a) := by omega
    have e4 : py a - py b = -(py b - py a) := by omega
    rw [e1, e2, e3, e4] at q2
    have hne : ¬ (px d - px a = 0 ∧ py d - py a = 0) := fun w => hda ⟨by omega, by omega⟩
    generalize px d - px a = k1 at *
    generalize py d - py a = k2 at *
    generalize px b - px a = d1 at *
    generalize py b - py a = d2 at *
    obtain ⟨p1, p2⟩ := par_id u v d1 d2 k1 k2 z
    have t1 : (u * d1 + v * d2) * (k1 * d1 + k2 * d2) = (u * k1 + v * k2) * (d1 * d1 + d2 * d2) := by grind
    have t2 : (k1 - d1) * (k1 - d1) + (k2 - d2) * (k2 - d2) = (k1 * k1 + k2 * k2) + (d1 * d1 + d2 * d2) - 2 * (k1 * d1 + k2 * d2) := by grind
    have t3 : -d1 * -d1 + -d2 * -d2 = d1 * d1 + d2 * d2 := by grind
    have t4 : (k1 * d1 + k2 * d2) * (k1 * d1 + k2 * d2) = (k1 * k1 + k2 * k2) * (d1 * d1 + d2 * d2) := by
      have : (k1 * d1 + k2 * d2) * (k1 * d1 + k2 * d2) + (d1 * k2 - d2 * k1) * (d1 * k2 - d2 * k1) = (k1 * k1 + k2 * k2) * (d1 * d1 + d2 * d2) := by grind
      rw [z, Int.zero_mul, Int.add_zero] at this
      exact this
    have s1 := sq_nn k1
    have s2 := sq_nn k2
    have hK : 0 < k1 * k1 + k2 * k2 := by
      rcases Int.lt_or_le 0 (k1 * k1 + k2 * k2) with w | w
      · exact w
      · exfalso
        exact hne ⟨sq_0 (by omega), sq_0 (by omega)⟩
    generalize u * d1 + v * d2 = fD at *
    generalize u * k1 + v * k2 = fK at *
    generalize k1 * d1 + k2 * d2 = kd at *
    generalize k1 * k1 + k2 * k2 = kk at *
    generalize d1 * d1 + d2 * d2 = dd at *
    have hkd : 0 < kd := by
      rcases Int.lt_or_le 0 kd with w | w
      · exact w
      · exfalso
        have a1 := nl_pos gD (show 0 < dd by omega)
        have a2 := nl_nn (show 0 ≤ fD by omega) (show 0 ≤ -kd by omega)
        rw [Int.mul_neg] at a2
        omega
    have hge : kk ≤ kd := by
      rcases Int.lt_or_le kd kk with w | w
      · exfalso
        have a1 : kd * kd < kk * kk := Int.mul_lt_mul w (by omega) hkd (by omega)
        have a2 : kk * kk ≤ kk * dd := Int.mul_le_mul_of_nonneg_left q1 (by omega)
        omega
      · exact w
    omega
theorem pigeon : ∀ (n : Nat) (f : Nat → Nat), (∀ k, k ≤ n → f k < n) → ∃ i j, i < j ∧ j ≤ n ∧ f i = f j := by
  intro n
  induction n with
  | zero => intro f h; have := h 0 (by omega); omega
  | succ n ih =>
    intro f h
    by_cases he : ∃ i, i ≤ n ∧ f i = f (n + 1)
    · obtain ⟨i, h1, h2⟩ := he
      exact ⟨i, n + 1, by omega, by omega, h2⟩
    · have hne : ∀ i, i ≤ n → f i ≠ f (n + 1) := fun i hi q => he ⟨i, hi, q⟩
      have hl := h (n + 1) (by omega)
      obtain ⟨i, j, h1, h2, h3⟩ := ih (fun k => if f (n + 1) < f k then f k - 1 else f k) (by
        intro k hk
        have a := h k (by omega)
        have b := hne k hk
        split <;> omega)
      refine ⟨i, j, h1, by omega, ?_⟩
      have a := hne i (by omega)
      have b := hne j h2
      split at h3 <;> split at h3 <;> omega
theorem least_of {p : Nat → Prop} : ∀ n, p n → ∃ m, m ≤ n ∧ p m ∧ ∀ k, k < m → ¬ p k := by
  intro n
  induction n using Nat.strongRecOn with
  | _ n ih =>
    intro hp
    by_cases h : ∃ k, k < n ∧ p k
    · obtain ⟨k, h1, h2⟩ := h
      obtain ⟨m, a, b, c⟩ := ih k h1 h2
      exact ⟨m, by omega, b, c⟩
    · exact ⟨n, Nat.le_refl _, hp, fun k hk q => h ⟨k, hk, q⟩⟩
def seqh (px py : Nat → Int) (n : Nat) : Nat → Nat
  | 0 => fsti px py n
  | k + 1 => (nx px py (seqh px py n k) n).getD (seqh px py n k)
/-- what the wrapping gives: m corners -/
def HULL (px py : Nat → Int) (n m : Nat) : Prop := 1 ≤ m ∧ m ≤ n ∧ (∀ k, k ≤ m → seqh px py n k < n ∧ Ext px py n (seqh px py n k)) ∧ (∀ k, 1 ≤ k → k < m → ¬ smP px py (seqh px py n k) (seqh px py n 0)) ∧
  ((m = 1 ∧ nx px py (seqh px py n 0) n = none) ∨ (2 ≤ m ∧ (∀ k, k < m → nx px py (seqh px py n k) n = some (seqh px py n (k + 1)) ∧ NX px py n (seqh px py n k) (seqh px py n (k + 1))) ∧ smP px py (seqh px py n m) (seqh px py n 0)))
theorem hull_ex {px py : Nat → Int} {n : Nat} (hn : 0 < n) (hB : box px py n) : ∃ m, HULL px py n m := by
  have h0 := (fsti_min px py n).1 hn
  have e0 := fsti_ext hn hB
  cases hq : nx px py (fsti px py n) n with
  | none =>
    refine ⟨1, Nat.le_refl _, hn, ?_, fun k h1 h2 => by omega, Or.inl ⟨rfl, hq⟩⟩
    intro k hk
    rcases (show k = 0 ∨ k = 1 by omega) with rfl | rfl
    · exact ⟨h0, e0⟩
    · have : seqh px py n 1 = fsti px py n := by
        show (nx px py (fsti px py n) n).getD (fsti px py n) = _
        rw [hq]; rfl
      rw [this]
      exact ⟨h0, e0⟩
  | some b0 =>
    have hb0 := nx_NX e0 hq
    have step : ∀ k, seqh px py n k < n ∧ Ext px py n (seqh px py n k) ∧ nx px py (seqh px py n k) n = some (seqh px py n (k + 1)) := by
      have some_of : ∀ a, a < n → Ext px py n a → ∃ b, nx px py a n = some b := by
        intro a ha hE
        cases hz : nx px py a n with
        | some b => exact ⟨b, rfl⟩
        | none =>
          exfalso
          have w := nx_none hE hz
          have w1 := w _ h0
          have w2 := w _ hb0.1
          exact hb0.2.1 ⟨w2.1.trans w1.1.symm, w2.2.trans w1.2.symm⟩
      have nxt : ∀ k, seqh px py n k < n → Ext px py n (seqh px py n k) → nx px py (seqh px py n k) n = some (seqh px py n (k + 1)) := by
        intro k h1 h2
        obtain ⟨b, hb⟩ := some_of _ h1 h2
        rw [hb]
        show some b = some ((nx px py (seqh px py n k) n).getD (seqh px py n k))
        rw [hb]; rfl
      intro k
      induction k with
      | zero => exact ⟨h0, e0, nxt 0 h0 e0⟩
      | succ k ih =>
        obtain ⟨i1, i2, i3⟩ := ih
        have hN := nx_NX i2 i3
        have hE := NX.ext hB i1 hN
        exact ⟨hN.1, hE, nxt (k + 1) hN.1 hE⟩
    have hNX : ∀ k, NX px py n (seqh px py n k) (seqh px py n (k + 1)) := fun k => nx_NX (step k).2.1 (step k).2.2
    obtain ⟨i, j, hij, hjn, hf⟩ := pigeon n (seqh px py n) (fun k _ => (step k).1)
    have back : ∀ i d, smP px py (seqh px py n i) (seqh px py n (i + d)) → smP px py (seqh px py n 0) (seqh px py n d) := by
      intro i
      induction i with
      | zero => intro d h; rw [Nat.zero_add] at h; exact h
      | succ i ih =>
        intro d h
        rw [show i + 1 + d = (i + d) + 1 by omega] at h
        exact ih d (NX.inj (step i).2.1 (step (i + d)).2.1 (step i).1 (step (i + d)).1 (hNX i) (hNX (i + d)) h)
    have hd : smP px py (seqh px py n 0) (seqh px py n (j - i)) := back i (j - i) (by rw [show i + (j - i) = j by omega, hf]; exact ⟨rfl, rfl⟩)
    obtain ⟨m, m1, ⟨m2, m3⟩, m4⟩ := least_of (p := fun d => 1 ≤ d ∧ smP px py (seqh px py n 0) (seqh px py n d)) (j - i) ⟨by omega, hd⟩
    have hm2 : 2 ≤ m := by
      rcases Nat.lt_or_ge m 2 with q | q
      · exfalso
        have : m = 1 := by omega
        subst this
        exact (hNX 0).2.1 ⟨m3.1.symm, m3.2.symm⟩
      · exact q
    refine ⟨m, m2, by omega, fun k _ => ⟨(step k).1, (step k).2.1⟩, fun k k1 k2 w => m4 k k2 ⟨k1, w.1.symm, w.2.symm⟩, Or.inr ⟨hm2, fun k _ => ⟨(step k).2.2, hNX k⟩, m3.1.symm, m3.2.symm⟩⟩

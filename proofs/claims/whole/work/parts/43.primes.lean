/-! primes, and what Fermat says -/
def noDiv (p : Nat) : Bool := (List.range 216).all fun i => (List.range 216).all fun j => decide (216 * i + j < 2) || !(decide (p % (216 * i + j) = 0))
theorem nd_c0 : noDiv 1000000007 = true := by decide +kernel
theorem nd_c1 : noDiv 1000000009 = true := by decide +kernel
theorem nd_c2 : noDiv 998244353 = true := by decide +kernel
theorem nd_r0 : noDiv 2147483647 = true := by decide +kernel
theorem nd_r1 : noDiv 2147483629 = true := by decide +kernel
theorem nd_r2 : noDiv 2147483587 = true := by decide +kernel
def Pr (p : Nat) : Prop := 1 < p ∧ ∀ a b : Nat, p ∣ a * b → p ∣ a ∨ p ∣ b
theorem nd_at {p : Nat} (h : noDiv p = true) {s : Nat} (h1 : 1 < s) (h2 : s < 46656) : ¬ p % s = 0 := by
  unfold noDiv at h
  have q1 := List.all_eq_true.mp h (s / 216) (List.mem_range.mpr (by omega))
  have q2 := List.all_eq_true.mp q1 (s % 216) (List.mem_range.mpr (by omega))
  rw [Nat.div_add_mod] at q2
  simp only [Bool.or_eq_true, decide_eq_true_eq, Bool.not_eq_true', decide_eq_false_iff_not] at q2
  rcases q2 with w | w
  · omega
  · exact w
theorem nd_div {p : Nat} (h0 : 1 < p) (hp : p < 46656 * 46656) (h : noDiv p = true) {k : Nat} (h1 : 1 < k) (hk : k ∣ p) : k = p := by
  obtain ⟨l, hl⟩ := hk
  rcases Nat.lt_or_ge k 46656 with c | c
  · exact absurd (by rw [hl]; exact Nat.mul_mod_right k l) (nd_at h h1 c)
  · have l1 : l < 46656 := by
      rcases Nat.lt_or_ge l 46656 with d | d
      · exact d
      · have := Nat.mul_le_mul c d; omega
    rcases Nat.lt_or_ge 1 l with d | d
    · exact absurd (by rw [hl]; exact Nat.mul_mod_left k l) (nd_at h d l1)
    · have : l = 0 ∨ l = 1 := by omega
      rcases this with e | e
      · rw [e] at hl; omega
      · rw [e] at hl; omega
theorem Pr_of {p : Nat} (h0 : 1 < p) (hp : p < 46656 * 46656) (h : noDiv p = true) : Pr p := by
  refine ⟨h0, fun a b hab => ?_⟩
  have g1 := Nat.gcd_dvd_right a p
  have gp : 0 < Nat.gcd a p := Nat.gcd_pos_of_pos_right a (by omega)
  rcases Nat.lt_or_ge 1 (Nat.gcd a p) with c | c
  · left
    have e := nd_div h0 hp h c g1
    have := Nat.gcd_dvd_left a p
    rw [e] at this
    exact this
  · right
    have e : Nat.gcd a p = 1 := by omega
    have co : Nat.Coprime p a := by
      show Nat.gcd p a = 1
      rw [Nat.gcd_comm]; exact e
    exact Nat.Coprime.dvd_of_dvd_mul_left co hab
theorem pr_c0 : Pr 1000000007 := Pr_of (by decide) (by decide) nd_c0
theorem pr_c1 : Pr 1000000009 := Pr_of (by decide) (by decide) nd_c1
theorem pr_c2 : Pr 998244353 := Pr_of (by decide) (by decide) nd_c2
theorem pr_r0 : Pr 2147483647 := Pr_of (by decide) (by decide) nd_r0
theorem pr_r1 : Pr 2147483629 := Pr_of (by decide) (by decide) nd_r1
theorem pr_r2 : Pr 2147483587 := Pr_of (by decide) (by decide) nd_r2
theorem Pr.int {p : Nat} (hp : Pr p) {a b : Int} (h : (p : Int) ∣ a * b) : (p : Int) ∣ a ∨ (p : Int) ∣ b := by
  have q := Int.natAbs_dvd_natAbs.mpr h
  rw [Int.natAbs_mul, Int.natAbs_natCast] at q
  rcases hp.2 _ _ q with w | w
  · exact Or.inl (Int.natAbs_dvd_natAbs.mp (by rw [Int.natAbs_natCast]; exact w))
  · exact Or.inr (Int.natAbs_dvd_natAbs.mp (by rw [Int.natAbs_natCast]; exact w))
def bin : Nat → Nat → Nat
  | _, 0 => 1
  | 0, _ + 1 => 0
  | n + 1, k + 1 => bin n k + bin n (k + 1)
theorem bin_0 (n : Nat) : bin n 0 = 1 := by cases n <;> rfl
theorem bin_gt : ∀ n k, n < k → bin n k = 0 := by
  intro n
  induction n with
  | zero => intro k h; cases k with
    | zero => omega
    | succ k => rfl
  | succ n ih => intro k h; cases k with
    | zero => omega
    | succ k =>
      show bin n k + bin n (k + 1) = 0
      rw [ih k (by omega), ih (k + 1) (by omega)]
theorem bin_self : ∀ n, bin n n = 1 := by
  intro n
  induction n with
  | zero => rfl
  | succ n ih =>
    show bin n n + bin n (n + 1) = 1
    rw [ih, bin_gt n (n + 1) (by omega)]
theorem bin_abs : ∀ n k, (k + 1) * bin (n + 1) (k + 1) = (n + 1) * bin n k := by
  intro n
  induction n with
  | zero => intro k; cases k with
    | zero => rfl
    | succ k => show (k + 1 + 1) * (0 + 0) = 1 * 0; omega
  | succ n ih => intro k; cases k with
    | zero =>
      have q := ih 0
      rw [bin_0] at q
      show (0 + 1) * (bin (n + 1) 0 + bin (n + 1) (0 + 1)) = (n + 1 + 1) * bin (n + 1) 0
      rw [bin_0]; omega
    | succ k =>
      have q1 := ih k
      have q2 := ih (k + 1)
      have e : bin (n + 1 + 1) (k + 1 + 1) = bin (n + 1) (k + 1) + bin (n + 1) (k + 1 + 1) := rfl
      have e2 : bin (n + 1) (k + 1) = bin n k + bin n (k + 1) := rfl
      rw [e]
      grind
def bS (x n : Nat) : Nat → Nat
  | 0 => 0
  | m + 1 => bS x n m + bin n m * x ^ m
theorem bS_step (x n : Nat) : ∀ m, bS x (n + 1) (m + 1) = bS x n (m + 1) + x * bS x n m := by
  intro m
  induction m with
  | zero => show 0 + bin (n + 1) 0 * x ^ 0 = (0 + bin n 0 * x ^ 0) + x * 0; rw [bin_0, bin_0, Nat.mul_zero, Nat.add_zero]
  | succ m ih =>
    have e1 : bS x (n + 1) (m + 1 + 1) = bS x (n + 1) (m + 1) + (bin n m + bin n (m + 1)) * x ^ (m + 1) := rfl
    have e2 : bS x n (m + 1 + 1) = bS x n (m + 1) + bin n (m + 1) * x ^ (m + 1) := rfl
    have e3 : bS x n (m + 1) = bS x n m + bin n m * x ^ m := rfl
    rw [e1, ih, e2, e3, Nat.pow_succ]
    grind
theorem bS_pow (x : Nat) : ∀ n, bS x n (n + 1) = (x + 1) ^ n := by
  intro n
  induction n with
  | zero => show 0 + bin 0 0 * x ^ 0 = (x + 1) ^ 0; rfl
  | succ n ih =>
    have e2 : bS x n (n + 1 + 1) = bS x n (n + 1) + bin n (n + 1) * x ^ (n + 1) := rfl
    rw [bS_step, e2, bin_gt n (n + 1) (by omega), ih, Nat.pow_succ]
    grind
theorem bin_dvd {p : Nat} (hp : Pr p) {k : Nat} (h1 : 1 ≤ k) (h2 : k < p) : p ∣ bin p k := by
  obtain ⟨n, rfl⟩ : ∃ n, p = n + 1 := ⟨p - 1, by omega⟩
  obtain ⟨j, rfl⟩ : ∃ j, k = j + 1 := ⟨k - 1, by omega⟩
  have q := bin_abs n j
  rcases hp.2 (j + 1) (bin (n + 1) (j + 1)) ⟨bin n j, q⟩ with w | w
  · exact absurd (Nat.le_of_dvd (by omega) w) (by omega)
  · exact w
theorem bS_mod {p : Nat} (hp : Pr p) (x : Nat) : ∀ m, m + 1 ≤ p → ∃ z, bS x p (m + 1) = 1 + p * z := by
  intro m
  induction m with
  | zero => intro _; exact ⟨0, by show 0 + bin p 0 * x ^ 0 = _; rw [bin_0]; rfl⟩
  | succ m ih =>
    intro h
    obtain ⟨z, hz⟩ := ih (by omega)
    obtain ⟨y, hy⟩ := bin_dvd hp (k := m + 1) (by omega) (by omega)
    refine ⟨z + y * x ^ (m + 1), ?_⟩
    have e : bS x p (m + 1 + 1) = bS x p (m + 1) + bin p (m + 1) * x ^ (m + 1) := rfl
    rw [e, hz, hy, Nat.mul_add, Nat.mul_assoc, Nat.add_assoc]
theorem fermat0 {p : Nat} (hp : Pr p) : ∀ x : Nat, ∃ z : Int, ((x ^ p : Nat) : Int) = x + p * z := by
  intro x
  have hp1 := hp.1
  induction x with
  | zero => exact ⟨0, by rw [Nat.zero_pow (by omega)]; simp⟩
  | succ x ih =>
    obtain ⟨z, hz⟩ := ih
    obtain ⟨n, hn⟩ : ∃ n, p = n + 1 := ⟨p - 1, by omega⟩
    obtain ⟨y, hy⟩ := bS_mod hp x n (by omega)
    have e : bS x p (p + 1) = bS x p p + bin p p * x ^ p := rfl
    rw [bS_pow, bin_self] at e
    rw [← hn] at hy
    rw [hy] at e
    refine ⟨z + y, ?_⟩
    rw [e]
    simp only [Int.natCast_add, Int.natCast_mul, Int.natCast_one, Int.one_mul, hz]
    grind
theorem fermat {p : Nat} (hp : Pr p) {x : Nat} (hx : ¬ (p : Int) ∣ (x : Int)) : (p : Int) ∣ (x : Int) * ((x ^ (p - 2) : Nat) : Int) - 1 := by
  have hp1 := hp.1
  obtain ⟨z, hz⟩ := fermat0 hp x
  obtain ⟨n, hn⟩ : ∃ n, p = n + 2 := ⟨p - 2, by omega⟩
  have e : x ^ p = x * (x * x ^ (p - 2)) := by
    have : p - 2 = n := by omega
    rw [this, hn, Nat.pow_succ, Nat.pow_succ]
    grind
  rw [e] at hz
  have d : (p : Int) ∣ (x : Int) * ((x : Int) * ((x ^ (p - 2) : Nat) : Int) - 1) := ⟨z, by
    simp only [Int.natCast_mul] at hz
    grind⟩
  rcases hp.int d with w | w
  · exact absurd w hx
  · exact w
theorem Pr.inv {p : Nat} (hp : Pr p) {a : Int} (h : ¬ (p : Int) ∣ a) : ∃ b : Int, (p : Int) ∣ a * b - 1 := by
  have hp1 := hp.1
  have n0 : 0 ≤ a % (p : Int) := Int.emod_nonneg a (by omega)
  have e : (((a % (p : Int)).toNat : Nat) : Int) = a % (p : Int) := Int.toNat_of_nonneg n0
  have d := Int.mul_ediv_add_emod a (p : Int)
  have hx : ¬ (p : Int) ∣ (((a % (p : Int)).toNat : Nat) : Int) := by
    rw [e]
    intro q
    obtain ⟨y, hy⟩ := q
    exact h ⟨a / (p : Int) + y, by rw [Int.mul_add]; omega⟩
  obtain ⟨z, hz⟩ := fermat hp hx
  rw [e] at hz
  refine ⟨(((a % (p : Int)).toNat ^ (p - 2) : Nat) : Int), (a / (p : Int)) * (((a % (p : Int)).toNat ^ (p - 2) : Nat) : Int) + z, ?_⟩
  have : a = (p : Int) * (a / (p : Int)) + a % (p : Int) := by omega
  grind

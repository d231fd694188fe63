/-! whole numbers in 32 and 64 bits -/
def iI (z : Int) : Int32 := Int32.ofInt z
def jI (z : Int) : Int64 := Int64.ofInt z
theorem iI_add (a b : Int) : iI a + iI b = iI (a + b) := (Int32.ofInt_add a b).symm
theorem iI_sub (a b : Int) : iI a - iI b = iI (a - b) := (Int32.ofInt_sub a b).symm
theorem iI_mul (a b : Int) : iI a * iI b = iI (a * b) := (Int32.ofInt_mul a b).symm
theorem iI_neg (a : Int) : -iI a = iI (-a) := (Int32.ofInt_neg a).symm
theorem jI_add (a b : Int) : jI a + jI b = jI (a + b) := (Int64.ofInt_add a b).symm
theorem jI_sub (a b : Int) : jI a - jI b = jI (a - b) := (Int64.ofInt_sub a b).symm
theorem jI_mul (a b : Int) : jI a * jI b = jI (a * b) := (Int64.ofInt_mul a b).symm
theorem iI_t {z : Int} (h1 : -2147483648 ≤ z) (h2 : z < 2147483648) : (iI z).toInt = z := Int32.toInt_ofInt_of_le h1 h2
theorem jI_t {z : Int} (h1 : -9223372036854775808 ≤ z) (h2 : z < 9223372036854775808) : (jI z).toInt = z := Int64.toInt_ofInt_of_le h1 h2
theorem iI_of (v : Int32) : iI v.toInt = v := Int32.ofInt_toInt v
theorem jI_of (v : Int64) : jI v.toInt = v := Int64.ofInt_toInt v
theorem nI_iI (n : Nat) : nI n = iI n := by
  rw [← iI_of (nI n)]
  show Int32.ofInt (nI n).toInt = Int32.ofInt n
  unfold nI
  rw [Int32.toInt_ofNat']
  apply Int32.toInt_inj.mp
  simp
theorem to64 (v : Int32) : v.toInt64 = jI v.toInt := by
  rw [← jI_of v.toInt64, Int32.toInt_toInt64]
theorem tdiv_abs {a b : Int} (ha1 : -2147483648 ≤ a) : True := trivial
theorem tdiv_bd (a : Int) {b : Int} (hb : 0 < b) : (0 ≤ a → 0 ≤ a.tdiv b ∧ a.tdiv b ≤ a) ∧ (a ≤ 0 → a ≤ a.tdiv b ∧ a.tdiv b ≤ 0) := by
  constructor
  · intro h
    rw [Int.tdiv_eq_ediv_of_nonneg h]
    exact ⟨Int.ediv_nonneg h (by omega), Int.ediv_le_self b h⟩
  · intro h
    have e : a.tdiv b = -((-a).tdiv b) := by rw [Int.neg_tdiv]; omega
    rw [e, Int.tdiv_eq_ediv_of_nonneg (show 0 ≤ -a by omega)]
    have h1 := Int.ediv_nonneg (show 0 ≤ -a by omega) (show 0 ≤ b by omega)
    have h2 := Int.ediv_le_self b (show 0 ≤ -a by omega)
    omega
theorem dvI_eq {a b : Int} (h1 : -2147483648 ≤ a) (h2 : a < 2147483648) (h3 : 0 < b) (h4 : b < 2147483648) : dvI (iI a) (iI b) = some (iI (a.tdiv b)) := by
  unfold dvI
  have tb := iI_t (z := b) (by omega) h4
  have hne : ¬ iI b = 0 := fun q => by
    have := (i_eq _ _).mp q
    rw [tb] at this
    have e : (0 : Int32).toInt = 0 := by decide
    omega
  have hne1 : iI b ≠ -1 := fun q => by
    have := (i_eq _ _).mp q
    rw [tb] at this
    have e : (-1 : Int32).toInt = -1 := by decide
    omega
  rw [if_neg hne]
  congr 1
  rw [i_eq, Int32.toInt_div_of_ne_right _ _ hne1, iI_t h1 h2, tb]
  have := tdiv_bd a h3
  rw [iI_t]
  · rcases Int.le_total 0 a with q | q
    · have := this.1 q; omega
    · have := this.2 q; omega
  · rcases Int.le_total 0 a with q | q
    · have := this.1 q; omega
    · have := this.2 q; omega
theorem rmI_eq {a b : Int} (h1 : -2147483648 ≤ a) (h2 : a < 2147483648) (h3 : 0 < b) (h4 : b < 2147483648) : rmI (iI a) (iI b) = some (iI (a.tmod b)) := by
  have hd := dvI_eq h1 h2 h3 h4
  unfold dvI at hd
  unfold rmI
  by_cases q : iI b = 0
  · rw [if_pos q] at hd; cases hd
  · rw [if_neg q] at hd ⊢
    have e := Option.some.inj hd
    rw [e, iI_mul, iI_sub]
    congr 2
    rw [Int.tmod_def, Int.mul_comm]
theorem dvL_eq {a b : Int} (h1 : -9223372036854775808 ≤ a) (h2 : a < 9223372036854775808) (h3 : 0 < b) (h4 : b < 9223372036854775808) : dvL (jI a) (jI b) = some (jI (a.tdiv b)) := by
  unfold dvL
  have tb := jI_t (z := b) (by omega) h4
  have hne : ¬ jI b = 0 := fun q => by
    have := (l_eq _ _).mp q
    rw [tb] at this
    have e : (0 : Int64).toInt = 0 := by decide
    omega
  have hne1 : jI b ≠ -1 := fun q => by
    have := (l_eq _ _).mp q
    rw [tb] at this
    have e : (-1 : Int64).toInt = -1 := by decide
    omega
  rw [if_neg hne]
  congr 1
  rw [l_eq, Int64.toInt_div_of_ne_right _ _ hne1, jI_t h1 h2, tb]
  have := tdiv_bd a h3
  rw [jI_t]
  · rcases Int.le_total 0 a with q | q
    · have := this.1 q; omega
    · have := this.2 q; omega
  · rcases Int.le_total 0 a with q | q
    · have := this.1 q; omega
    · have := this.2 q; omega
theorem rmL_eq {a b : Int} (h1 : -9223372036854775808 ≤ a) (h2 : a < 9223372036854775808) (h3 : 0 < b) (h4 : b < 9223372036854775808) : rmL (jI a) (jI b) = some (jI (a.tmod b)) := by
  have hd := dvL_eq h1 h2 h3 h4
  unfold dvL at hd
  unfold rmL
  by_cases q : jI b = 0
  · rw [if_pos q] at hd; cases hd
  · rw [if_neg q] at hd ⊢
    have e := Option.some.inj hd
    rw [e, jI_mul, jI_sub]
    congr 2
    rw [Int.tmod_def, Int.mul_comm]
theorem iI_0 {z : Int} (h1 : -2147483648 ≤ z) (h2 : z < 2147483648) : iI z = 0 ↔ z = 0 := by
  rw [i_eq, iI_t h1 h2]
  have e : (0 : Int32).toInt = 0 := by decide
  rw [e]
theorem jI_0 {z : Int} (h1 : -9223372036854775808 ≤ z) (h2 : z < 9223372036854775808) : jI z = 0 ↔ z = 0 := by
  rw [l_eq, jI_t h1 h2]
  have e : (0 : Int64).toInt = 0 := by decide
  rw [e]
theorem tmod_nat (a b : Nat) : (a : Int).tmod (b : Int) = ((a % b : Nat) : Int) := rfl
theorem tdiv_nat (a b : Nat) : (a : Int).tdiv (b : Int) = ((a / b : Nat) : Int) := rfl
theorem tmod_0 (a : Int) (b : Nat) : a.tmod b = 0 ↔ a % (b : Int) = 0 := by
  rw [← Int.dvd_iff_tmod_eq_zero, Int.dvd_iff_emod_eq_zero]
/-- the reference's powers -/
theorem power_step {p : Nat} (v b e : Nat) : (if e % 2 = 1 then v * b % p else v) * (b * b % p) ^ (e / 2) % p = v * b ^ e % p := by
  have h1 : (b * b % p) ^ (e / 2) % p = (b * b) ^ (e / 2) % p := by rw [← Nat.pow_mod]
  have h2 : (b * b) ^ (e / 2) = b ^ (2 * (e / 2)) := by rw [Nat.pow_mul, Nat.pow_two]
  by_cases h : e % 2 = 1
  · rw [if_pos h, Nat.mul_mod, Nat.mod_mod, h1, ← Nat.mul_mod, h2]
    have : e = 2 * (e / 2) + 1 := by omega
    conv => rhs; rw [this, Nat.pow_succ]
    congr 1
    rw [Nat.mul_assoc, Nat.mul_comm b]
  · rw [if_neg h, Nat.mul_mod, h1, ← Nat.mul_mod, h2]
    have : e = 2 * (e / 2) := by omega
    conv => rhs; rw [this]
theorem powerLoop {p : Nat} (hp : 0 < p) (hp2 : p ≤ 2147483648) : ∀ n v b e : Nat, v < p → b < p → e < 2 ^ n / 2 → e < 9223372036854775808 → lp (fun _ _ _ => none) (sX6_power_12 (jI p)) n (jI v) (jI b) (jI e) = some (jI ((v * b ^ e % p : Nat) : Int)) := by
  intro n
  refine lp_rule (bot := fun _ _ _ => none) (step := sX6_power_12 (jI p)) (fun n f => ∀ v b e : Nat, v < p → b < p → e < 2 ^ n / 2 → e < 9223372036854775808 → f (jI v) (jI b) (jI e) = some (jI ((v * b ^ e % p : Nat) : Int))) (fun v b e _ _ h => by simp at h) ?_ n
  intro n f hf v b e hv hb he he2
  unfold sX6_power_12
  have hpos : (0 : Int64) < jI (e : Int) ↔ 0 < e := by
    rw [l_lt, jI_t (by omega) (by omega)]
    have q : (0 : Int64).toInt = 0 := by decide
    rw [q]; omega
  have hb2 : v * b < 2147483648 * 2147483648 := by
    apply Nat.mul_lt_mul_of_lt_of_le <;> omega
  have hb3 : b * b < 2147483648 * 2147483648 := by
    apply Nat.mul_lt_mul_of_lt_of_le <;> omega
  by_cases c : 0 < e
  · rw [if_pos (hpos.mpr c)]
    rw [show (2 : Int64) = jI ((2 : Nat) : Int) from by decide, rmL_eq (by omega) (by omega) (by decide) (by decide), tmod_nat]
    simp only [ob_some]
    have hone : jI ((e % 2 : Nat) : Int) = 1 ↔ e % 2 = 1 := by
      rw [l_eq, jI_t (by omega) (by omega)]
      have q : (1 : Int64).toInt = 1 := by decide
      rw [q]; omega
    rw [jI_mul, jI_mul, dvL_eq (by omega) (by omega) (by decide) (by decide), tdiv_nat]
    have m1 : ((v : Int) * (b : Int)) = ((v * b : Nat) : Int) := by simp
    have m2 : ((b : Int) * (b : Int)) = ((b * b : Nat) : Int) := by simp
    rw [m1, m2, rmL_eq (by omega) (by omega) (by omega) (by omega), rmL_eq (by omega) (by omega) (by omega) (by omega), tmod_nat, tmod_nat]
    simp only [ob_some]
    have hsel : (if jI ((e % 2 : Nat) : Int) = 1 then some (jI ((v * b % p : Nat) : Int)) else some (jI (v : Int))) = some (jI (((if e % 2 = 1 then v * b % p else v) : Nat) : Int)) := by
      by_cases w : e % 2 = 1
      · rw [if_pos (hone.mpr w), if_pos w]
      · rw [if_neg (fun q => w (hone.mp q)), if_neg w]
    rw [hsel]
    simp only [ob_some]
    rw [hf (if e % 2 = 1 then v * b % p else v) (b * b % p) (e / 2) (by
      split
      · exact Nat.mod_lt _ hp
      · exact hv) (Nat.mod_lt _ hp) (by
        have hn : 0 < n := by
          rcases Nat.eq_zero_or_pos n with q | q
          · subst q; simp at he; omega
          · exact q
        obtain ⟨k, rfl⟩ : ∃ k, n = k + 1 := ⟨n - 1, by omega⟩
        rw [Nat.pow_succ] at he ⊢
        omega) (by omega), power_step]
  · rw [if_neg (fun q => c (hpos.mp q))]
    have : e = 0 := by omega
    subst this
    rw [Nat.pow_zero, Nat.mul_one, Nat.mod_eq_of_lt hv]
theorem power_eq {a n p N : Nat} (hN : 40 ≤ N) (hp : 1 < p) (hp2 : p ≤ 2147483648) (ha : a < 9223372036854775808) (hn : n < 2 ^ 39) : fX6_power N (jI a) (jI n) (jI p) = some (jI ((a ^ n % p : Nat) : Int)) := by
  unfold fX6_power
  rw [rmL_eq (by omega) (by omega) (by omega) (by omega), tmod_nat]
  simp only [ob_some]
  have h1 : (1 : Int64) = jI ((1 : Nat) : Int) := by decide
  have hpow : 2 ^ 39 ≤ 2 ^ N / 2 := by
    have : 2 ^ 40 ≤ 2 ^ N := Nat.pow_le_pow_right (by decide) hN
    omega
  rw [h1, powerLoop (by omega) hp2 N 1 (a % p) n hp (Nat.mod_lt _ (by omega)) (by omega) (by omega), Nat.one_mul, ← Nat.pow_mod]

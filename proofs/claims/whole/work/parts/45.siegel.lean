/-! two rows that a small pair of rows binds -/
def BB : Nat := 1000000000000000000000000
def KK : Nat := 1000000000000000000000001
def dig (i t : Nat) : Nat := i / KK ^ t % KK
theorem KK_pos : 0 < KK := by decide
theorem dig_le (i t : Nat) : dig i t ≤ BB := by
  have := Nat.mod_lt (i / KK ^ t) KK_pos
  have e : KK = BB + 1 := by decide
  unfold dig
  omega
theorem dig_succ (i t : Nat) : dig i (t + 1) = dig (i / KK) t := by
  unfold dig
  rw [Nat.pow_succ, Nat.mul_comm, Nat.div_div_eq_div_mul]
theorem dig_inj : ∀ m i j, i < KK ^ m → j < KK ^ m → (∀ t, t < m → dig i t = dig j t) → i = j := by
  intro m
  induction m with
  | zero => intro i j hi hj _; rw [Nat.pow_zero] at hi hj; omega
  | succ m ih =>
    intro i j hi hj h
    have h0 := h 0 (by omega)
    have e0 : ∀ x, dig x 0 = x % KK := by intro x; unfold dig; rw [Nat.pow_zero, Nat.div_one]
    rw [e0, e0] at h0
    have h1 := ih (i / KK) (j / KK) (Nat.div_lt_of_lt_mul (by rw [Nat.pow_succ, Nat.mul_comm] at hi; exact hi)) (Nat.div_lt_of_lt_mul (by rw [Nat.pow_succ, Nat.mul_comm] at hj; exact hj)) (fun t ht => by rw [← dig_succ, ← dig_succ]; exact h (t + 1) (by omega))
    rw [← Nat.div_add_mod i KK, ← Nat.div_add_mod j KK, h0, h1]
def prd (s : Nat → Nat) : Nat → Nat
  | 0 => 1
  | r + 1 => prd s r * s r
def enl (c : Nat → Nat) (s : Nat → Nat) : Nat → Nat
  | 0 => 0
  | r + 1 => enl c s r * s r + c r
theorem enl_lt {c s : Nat → Nat} : ∀ r, (∀ k, k < r → c k < s k) → enl c s r < prd s r := by
  intro r
  induction r with
  | zero => intro _; show 0 < 1; omega
  | succ r ih =>
    intro h
    have h1 := ih (fun k hk => h k (by omega))
    have h2 := h r (by omega)
    show enl c s r * s r + c r < prd s r * s r
    have h3 : (enl c s r + 1) * s r ≤ prd s r * s r := Nat.mul_le_mul_right _ h1
    rw [Nat.add_mul, Nat.one_mul] at h3
    omega
theorem enl_inj {c c2 s : Nat → Nat} : ∀ r, (∀ k, k < r → c k < s k) → (∀ k, k < r → c2 k < s k) → enl c s r = enl c2 s r → ∀ k, k < r → c k = c2 k := by
  intro r
  induction r with
  | zero => intro _ _ _ k hk; omega
  | succ r ih =>
    intro h1 h2 e k hk
    have a1 := h1 r (by omega)
    have a2 := h2 r (by omega)
    have e' : enl c s r * s r + c r = enl c2 s r * s r + c2 r := e
    have q1 : (enl c s r * s r + c r) / s r = enl c s r := by
      rw [Nat.mul_comm, Nat.mul_add_div (by omega), Nat.div_eq_of_lt a1]; omega
    have q2 : (enl c2 s r * s r + c2 r) / s r = enl c2 s r := by
      rw [Nat.mul_comm, Nat.mul_add_div (by omega), Nat.div_eq_of_lt a2]; omega
    have q : enl c s r = enl c2 s r := by rw [← q1, ← q2, e']
    rw [q] at e'
    rcases Nat.lt_or_ge k r with w | w
    · exact ih (fun k hk => h1 k (by omega)) (fun k hk => h2 k (by omega)) q k w
    · have : k = r := by omega
      subst this
      omega
theorem pig_many (r : Nat) (c : Nat → Nat → Nat) (s : Nat → Nat) (h : ∀ i k, k < r → c i k < s k) : ∃ i j, i < j ∧ j ≤ prd s r ∧ ∀ k, k < r → c i k = c j k := by
  obtain ⟨i, j, a, b, e⟩ := pigeon (prd s r) (fun i => enl (c i) s r) (fun k _ => enl_lt r (h k))
  exact ⟨i, j, a, b, enl_inj r (h i) (h j) e⟩
def ind (d e k t : Nat) : Bool := decide (t < e) && (decide (t ≤ k) && decide (k ≤ t + d))
def cn (d e k : Nat) : Nat → Nat
  | 0 => 0
  | T + 1 => cn d e k T + if ind d e k T then 1 else 0
def sz (d e k : Nat) : Nat := 20 * BB * (cn d e (k + 1) 6 + cn e d (k + 1) 6) + 1
theorem sz_ok : ((List.range 6).all fun d => (List.range 6).all fun e => decide (prd (sz (d + 1) (e + 1)) (d + e + 1) < KK ^ (d + e + 2))) = true := by decide +kernel
theorem sz_lt {d e : Nat} (h1 : 1 ≤ d) (h2 : d ≤ 6) (h3 : 1 ≤ e) (h4 : e ≤ 6) : prd (sz d e) (d + e - 1) < KK ^ (d + e) := by
  have q1 := List.all_eq_true.mp sz_ok (d - 1) (List.mem_range.mpr (by omega))
  have q2 := List.all_eq_true.mp q1 (e - 1) (List.mem_range.mpr (by omega))
  have q3 := of_decide_eq_true q2
  have e1 : d - 1 + 1 = d := by omega
  have e2 : e - 1 + 1 = e := by omega
  have e3 : d - 1 + (e - 1) + 1 = d + e - 1 := by omega
  have e4 : d - 1 + (e - 1) + 2 = d + e := by omega
  rw [e1, e2, e3, e4] at q3
  exact q3
def tm (a : Int) (x : Nat) : Int := a * x + (BB : Int) * (if a < 0 then -a else 0)
theorem tm_bd {a : Int} {x : Nat} (h1 : -20 ≤ a) (h2 : a ≤ 20) (hx : x ≤ BB) : 0 ≤ tm a x ∧ tm a x ≤ 20 * (BB : Int) := by
  unfold tm
  by_cases c : a < 0
  · rw [if_pos c]
    have e : a * (x : Int) + (BB : Int) * -a = (-a) * ((BB : Int) - x) := by grind
    rw [e]
    constructor
    · exact Int.mul_nonneg (by omega) (by omega)
    · have := Int.mul_le_mul (show -a ≤ 20 by omega) (show (BB : Int) - x ≤ BB by omega) (by omega) (by omega)
      exact this
  · rw [if_neg c, Int.mul_zero, Int.add_zero]
    constructor
    · exact Int.mul_nonneg (by omega) (by omega)
    · exact Int.mul_le_mul h2 (by omega) (by omega) (by omega)
def cf (f : Nat → Int) (d e : Nat) (x : Nat → Nat) (k t : Nat) : Int := if ind d e k t then tm (f (k - t)) (x t) else 0
theorem cf_bd {f : Nat → Int} {d e : Nat} {x : Nat → Nat} (hf : ∀ n, -20 ≤ f n ∧ f n ≤ 20) (hx : ∀ t, x t ≤ BB) (k : Nat) : ∀ T, 0 ≤ sm (cf f d e x k) T ∧ sm (cf f d e x k) T ≤ 20 * (BB : Int) * (cn d e k T : Nat) := by
  intro T
  induction T with
  | zero => exact ⟨by show (0 : Int) ≤ 0; omega, by show (0 : Int) ≤ _ * ((0 : Nat) : Int); simp⟩
  | succ T ih =>
    have e1 : sm (cf f d e x k) (T + 1) = sm (cf f d e x k) T + cf f d e x k T := rfl
    have e2 : cn d e k (T + 1) = cn d e k T + if ind d e k T then 1 else 0 := rfl
    rw [e1, e2]
    unfold cf at *
    by_cases c : ind d e k T = true
    · rw [if_pos c, if_pos c]
      have b := tm_bd (hf (k - T)).1 (hf (k - T)).2 (hx T)
      refine ⟨by omega, ?_⟩
      rw [Int.natCast_add, Int.mul_add]
      have : 20 * (BB : Int) * ((1 : Nat) : Int) = 20 * (BB : Int) := by simp
      omega
    · rw [if_neg c, if_neg c]
      simp only [Nat.add_zero, Int.add_zero]
      exact ih
theorem mulp_sm (v g : Nat → Int) (n : Nat) : ∀ K, mulp v g K n = sm (fun t => v t * shf t g n) K := by
  intro K
  induction K with
  | zero => rfl
  | succ K ih => show mulp v g K n + _ = sm _ K + _; rw [ih]
theorem sm_sub (F G : Nat → Int) : ∀ K, sm (fun n => F n - G n) K = sm F K - sm G K := by
  intro K
  induction K with
  | zero => rfl
  | succ K ih => show sm _ K + _ = (sm F K + F K) - (sm G K + G K); rw [ih]; grind
theorem mulp_cf {f : Nat → Int} {d e : Nat} (hf : ∀ n, d < n → f n = 0) (x y : Nat → Nat) (k : Nat) : mulp (fun t => if t < e then (x t : Int) - (y t : Int) else 0) f 6 k = sm (cf f d e x k) 6 - sm (cf f d e y k) 6 := by
  rw [mulp_sm, ← sm_sub]
  apply sm_congr
  intro t _
  unfold cf ind shf
  by_cases c1 : t < e
  · by_cases c2 : k < t
    · rw [if_pos c1, if_pos c2]
      have : ¬ t ≤ k := by omega
      simp [this]
    · rw [if_pos c1, if_neg c2]
      by_cases c3 : k ≤ t + d
      · have : t ≤ k := by omega
        simp only [c1, c3, this, decide_true, Bool.and_self, if_true]
        unfold tm
        grind
      · rw [hf (k - t) (by omega)]
        simp [c3]
  · rw [if_neg c1]
    simp [c1]
/-- a pair of rows, not both nought, that binds f and g to a number, which is not large -/
theorem siegel {f g : Nat → Int} {d e : Nat} (h1 : 1 ≤ d) (h2 : d ≤ 6) (h3 : 1 ≤ e) (h4 : e ≤ 6) (hf : ∀ n, d < n → f n = 0) (hg : ∀ n, e < n → g n = 0) (bf : ∀ n, -20 ≤ f n ∧ f n ≤ 20) (bg : ∀ n, -20 ≤ g n ∧ g n ≤ 20) : ∃ u v : Nat → Int, (∀ i, e ≤ i → u i = 0) ∧ (∀ i, d ≤ i → v i = 0) ∧ (∃ i, u i ≠ 0 ∨ v i ≠ 0) ∧ (∀ n, 1 ≤ n → mulp u f 6 n + mulp v g 6 n = 0) ∧ (mulp u f 6 0 + mulp v g 6 0).natAbs ≤ 40 * BB := by
  have hx : ∀ i t, dig i t ≤ BB := dig_le
  obtain ⟨i, j, hij, hj, hc⟩ := pig_many (d + e - 1) (fun i k => (sm (cf f d e (fun t => dig i t) (k + 1)) 6 + sm (cf g e d (fun t => dig i (e + t)) (k + 1)) 6).toNat) (sz d e) (fun i k _ => by
    have b1 := cf_bd (d := d) (e := e) (x := fun t => dig i t) bf (fun t => hx i t) (k + 1) 6
    have b2 := cf_bd (d := e) (e := d) (x := fun t => dig i (e + t)) bg (fun t => hx i (e + t)) (k + 1) 6
    have q : ((sz d e k : Nat) : Int) = 20 * (BB : Int) * ((cn d e (k + 1) 6 : Nat) : Int) + 20 * (BB : Int) * ((cn e d (k + 1) 6 : Nat) : Int) + 1 := by
      unfold sz
      rw [Nat.mul_add]
      simp only [Int.natCast_add, Int.natCast_mul]
      rfl
    show (_ : Int).toNat < _
    omega)
  have hlt := sz_lt h1 h2 h3 h4
  refine ⟨fun t => if t < e then (dig i t : Int) - (dig j t : Int) else 0, fun t => if t < d then (dig i (e + t) : Int) - (dig j (e + t) : Int) else 0, fun t ht => if_neg (by omega), fun t ht => if_neg (by omega), ?_, ?_, ?_⟩
  · have hne : ¬ ∀ t, t < d + e → dig i t = dig j t := fun q => by
      have := dig_inj (d + e) i j (by omega) (by omega) q
      omega
    obtain ⟨t, ht⟩ := Classical.not_forall.mp hne
    have t1 : t < d + e ∧ dig i t ≠ dig j t := by
      constructor
      · exact Classical.byContradiction fun c => ht (fun q => absurd q c)
      · exact fun q => ht (fun _ => q)
    rcases Nat.lt_or_ge t e with c | c
    · exact ⟨t, Or.inl (by dsimp only; rw [if_pos c]; omega)⟩
    · refine ⟨t - e, Or.inr ?_⟩
      dsimp only
      have : e + (t - e) = t := by omega
      rw [if_pos (by omega), this]; omega
  · intro n hn
    rw [mulp_cf hf (fun t => dig i t) (fun t => dig j t) n, mulp_cf hg (fun t => dig i (e + t)) (fun t => dig j (e + t)) n]
    have bi1 := (cf_bd (d := d) (e := e) (x := fun t => dig i t) bf (fun t => hx i t) n 6).1
    have bi2 := (cf_bd (d := e) (e := d) (x := fun t => dig i (e + t)) bg (fun t => hx i (e + t)) n 6).1
    have bj1 := (cf_bd (d := d) (e := e) (x := fun t => dig j t) bf (fun t => hx j t) n 6).1
    have bj2 := (cf_bd (d := e) (e := d) (x := fun t => dig j (e + t)) bg (fun t => hx j (e + t)) n 6).1
    rcases Nat.lt_or_ge n (d + e) with c | c
    · have q := hc (n - 1) (by omega)
      have e1 : n - 1 + 1 = n := by omega
      rw [e1] at q
      omega
    · have zu : ∀ x, sm (cf f d e x n) 6 = 0 := fun x => sm_zero 6 (fun t _ => by
        unfold cf ind
        rw [if_neg]
        simp only [Bool.and_eq_true, decide_eq_true_eq]
        omega)
      have zv : ∀ x, sm (cf g e d x n) 6 = 0 := fun x => sm_zero 6 (fun t _ => by
        unfold cf ind
        rw [if_neg]
        simp only [Bool.and_eq_true, decide_eq_true_eq]
        omega)
      rw [zu, zu, zv, zv]; rfl
  · rw [mulp_cf hf (fun t => dig i t) (fun t => dig j t) 0, mulp_cf hg (fun t => dig i (e + t)) (fun t => dig j (e + t)) 0]
    have bi1 := cf_bd (d := d) (e := e) (x := fun t => dig i t) bf (fun t => hx i t) 0 6
    have bi2 := cf_bd (d := e) (e := d) (x := fun t => dig i (e + t)) bg (fun t => hx i (e + t)) 0 6
    have bj1 := cf_bd (d := d) (e := e) (x := fun t => dig j t) bf (fun t => hx j t) 0 6
    have bj2 := cf_bd (d := e) (e := d) (x := fun t => dig j (e + t)) bg (fun t => hx j (e + t)) 0 6
    have c1 : ∀ d e, 1 ≤ e → cn d e 0 6 = 1 := by
      intro d e he
      have z : ∀ t, 1 ≤ t → ind d e 0 t = false := fun t ht => by
        unfold ind
        have : ¬ t ≤ 0 := by omega
        simp [this]
      have z0 : ind d e 0 0 = true := by
        unfold ind
        have : 0 < e := by omega
        simp [this]
      simp only [cn, z0, z 1 (by decide), z 2 (by decide), z 3 (by decide), z 4 (by decide), z 5 (by decide)]
      rfl
    rw [c1 d e h3] at bi1 bj1
    rw [c1 e d h1] at bi2 bj2
    omega

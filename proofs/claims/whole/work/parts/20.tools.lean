/-! tools over the functions of part 06: loops, memory, small numbers -/
theorem lp_rule {K : Type} {bot : K} {step : K → K} (Ph : Nat → K → Prop) (h0 : Ph 0 bot) (h : ∀ n k, Ph n k → Ph (n + 1) (step k)) : ∀ n, Ph n (lp bot step n) := by
  intro n
  induction n with
  | zero => exact h0
  | succ n ih => exact h n _ ih
theorem setI_eq (M : Mem) (c k : Nat) (v : Int32) : (setI M c k v).1 c k = v := by simp [setI, upd]
theorem setI_ne {M : Mem} {c k c2 : Nat} {v : Int32} (h : c2 ≠ c) : (setI M c k v).1 c2 = M.1 c2 := by simp [setI, h]
theorem setI_nk {M : Mem} {c k k2 : Nat} {v : Int32} (h : k2 ≠ k) : (setI M c k v).1 c k2 = M.1 c k2 := by simp [setI, upd, h]
theorem setI_L (M : Mem) (c k : Nat) (v : Int32) : (setI M c k v).2 = M.2 := rfl
theorem setL_I (M : Mem) (c k : Nat) (v : Int64) : (setL M c k v).1 = M.1 := rfl
theorem setL_eq (M : Mem) (c k : Nat) (v : Int64) : (setL M c k v).2 c k = v := by simp [setL, vp_updL]
theorem setL_ne {M : Mem} {c k c2 : Nat} {v : Int64} (h : c2 ≠ c) : (setL M c k v).2 c2 = M.2 c2 := by simp [setL, h]
theorem setL_nk {M : Mem} {c k k2 : Nat} {v : Int64} (h : k2 ≠ k) : (setL M c k v).2 c k2 = M.2 c k2 := by simp [setL, vp_updL, h]
theorem ldI_n {M : Mem} {c n k : Nat} (hk : k < n) (hn : n < 2 ^ 31) : ldI M c n (nI k) = some (M.1 c k) := by
  unfold ldI
  rw [if_neg (nI_in hk hn), nI_clamp (by omega)]
theorem ldL_n {M : Mem} {c n k : Nat} (hk : k < n) (hn : n < 2 ^ 31) : ldL M c n (nI k) = some (M.2 c k) := by
  unfold ldL
  rw [if_neg (nI_in hk hn), nI_clamp (by omega)]
theorem stI_n {M : Mem} {c n k : Nat} {v : Int32} (hk : k < n) (hn : n < 2 ^ 31) : stI M c n (nI k) v = some (setI M c k v) := by
  unfold stI
  rw [if_neg (nI_in hk hn), nI_clamp (by omega)]
theorem stL_n {M : Mem} {c n k : Nat} {v : Int64} (hk : k < n) (hn : n < 2 ^ 31) : stL M c n (nI k) v = some (setL M c k v) := by
  unfold stL
  rw [if_neg (nI_in hk hn), nI_clamp (by omega)]
theorem stZ_0 (M : Mem) (c k : Nat) : stZ M c k 0 = some (setI M c k 0) := by simp [stZ]
theorem stZ_1 (M : Mem) (c k : Nat) : stZ M c k 1 = some (setI M c k 1) := by simp [stZ]
theorem okZ_0 : okZ 0 = some 0 := by simp [okZ]
theorem okZ_1 : okZ 1 = some 1 := by simp [okZ]
theorem okZM_0 (M : Mem) : okZM 0 M = some (0, M) := by simp [okZM]
theorem okZM_1 (M : Mem) : okZM 1 M = some (1, M) := by simp [okZM]
theorem ob_some {α β : Type} (a : α) (f : α → Option β) : (some a).bind f = f a := rfl
theorem ob_none {α β : Type} (f : α → Option β) : (none : Option α).bind f = none := rfl
/-- yes and no as the machine has them -/
def bz (b : Bool) : Int32 := if b then 1 else 0
theorem bz_t : bz true = 1 := rfl
theorem bz_f : bz false = 0 := rfl
theorem bz_0 (b : Bool) : bz b = 0 ↔ b = false := by cases b <;> simp [bz]
theorem okZ_bz (b : Bool) : okZ (bz b) = some (bz b) := by cases b <;> simp [bz, okZ]
theorem i0 : (0 : Int32) = nI 0 := by decide
theorem i1 : (1 : Int32) = nI 1 := by decide
theorem i_lt (a b : Int32) : a < b ↔ a.toInt < b.toInt := Int32.lt_iff_toInt_lt
theorem i_le (a b : Int32) : a ≤ b ↔ a.toInt ≤ b.toInt := Int32.le_iff_toInt_le
theorem i_eq (a b : Int32) : a = b ↔ a.toInt = b.toInt := Int32.toInt_inj.symm
theorem l_lt (a b : Int64) : a < b ↔ a.toInt < b.toInt := Int64.lt_iff_toInt_lt
theorem l_eq (a b : Int64) : a = b ↔ a.toInt = b.toInt := Int64.toInt_inj.symm
/-- within, in -/
theorem within_eq (a lo hi : Int32) : fX5_within a lo hi = some (bz (decide (lo.toInt ≤ a.toInt ∧ a.toInt ≤ hi.toInt))) := by
  unfold fX5_within
  rw [okZ_0, okZ_1]
  by_cases h1 : a < lo
  · rw [if_pos h1]
    have : ¬ (lo.toInt ≤ a.toInt ∧ a.toInt ≤ hi.toInt) := by rw [i_lt] at h1; omega
    simp [this, bz]
  · rw [if_neg h1]
    by_cases h2 : hi < a
    · rw [if_pos h2]
      have : ¬ (lo.toInt ≤ a.toInt ∧ a.toInt ≤ hi.toInt) := by rw [i_lt] at h2; omega
      simp [this, bz]
    · rw [if_neg h2]
      have : (lo.toInt ≤ a.toInt ∧ a.toInt ≤ hi.toInt) := by rw [i_lt] at h1 h2; omega
      simp [this, bz]
theorem in_eq (a lo hi : Int64) : fX6_in a lo hi = some (bz (decide (lo.toInt ≤ a.toInt ∧ a.toInt ≤ hi.toInt))) := by
  unfold fX6_in
  rw [okZ_0, okZ_1]
  by_cases h1 : a < lo
  · rw [if_pos h1]
    have : ¬ (lo.toInt ≤ a.toInt ∧ a.toInt ≤ hi.toInt) := by rw [l_lt] at h1; omega
    simp [this, bz]
  · rw [if_neg h1]
    by_cases h2 : hi < a
    · rw [if_pos h2]
      have : ¬ (lo.toInt ≤ a.toInt ∧ a.toInt ≤ hi.toInt) := by rw [l_lt] at h2; omega
      simp [this, bz]
    · rw [if_neg h2]
      have : (lo.toInt ≤ a.toInt ∧ a.toInt ≤ hi.toInt) := by rw [l_lt] at h1 h2; omega
      simp [this, bz]
theorem in32 (a : Int32) (lo hi : Int64) : fX6_in a.toInt64 lo hi = some (bz (decide (lo.toInt ≤ a.toInt ∧ a.toInt ≤ hi.toInt))) := by
  rw [in_eq, Int32.toInt_toInt64]
theorem isFactor_eq (a : Int32) : fX5_isFactor a = some (bz (decide (a.toInt ≠ 0 ∧ -20 ≤ a.toInt ∧ a.toInt ≤ 20))) := by
  unfold fX5_isFactor
  rw [within_eq, okZ_0, okZ_1, ob_some]
  by_cases h : a = 0
  · subst h; simp [bz]
  · rw [if_neg h]
    have h0 : a.toInt ≠ 0 := fun q => h ((i_eq a 0).mpr (by rw [q]; rfl))
    have e1 : (-20 : Int32).toInt = -20 := by decide
    have e2 : (20 : Int32).toInt = 20 := by decide
    rw [e1, e2]
    by_cases h2 : -20 ≤ a.toInt ∧ a.toInt ≤ 20
    · simp [h2, h0, bz]
    · simp [h2, bz]
theorem forget_eq (M : Mem) : fX5_forgetFound M = some (setI (setI M 16 2 0) 21 2 0) := by
  unfold fX5_forgetFound
  rw [stZ_0]; rfl
theorem isEq_eq (a : Int32) : fX6_isEquation a = some (bz (decide (a = 0 ∨ a = 1))) := by
  unfold fX6_isEquation
  rw [in32, ob_some, okZ_bz]
  congr 2
  have e1 : (0 : Int64).toInt = 0 := by decide
  have e2 : (1 : Int64).toInt = 1 := by decide
  rw [e1, e2, decide_eq_decide, i_eq, i_eq]
  have e3 : (0 : Int32).toInt = 0 := by decide
  have e4 : (1 : Int32).toInt = 1 := by decide
  rw [e3, e4]; omega
theorem if1 {α : Type} (a b : α) : (if (1 : Int32) = 0 then a else b) = b := if_neg (by decide)
theorem if0 {α : Type} (a b : α) : (if (0 : Int32) = 0 then a else b) = a := if_pos rfl
theorem ifb {α : Type} (p : Bool) (a b : α) : (if bz p = 0 then a else b) = if p then b else a := by cases p <;> simp [bz]
theorem if_nle {α : Type} {a b : Nat} (ha : a < 2 ^ 31) (hb : b < 2 ^ 31) (x y : α) : (if nI a ≤ nI b then x else y) = if a ≤ b then x else y := by
  by_cases h : a ≤ b
  · rw [if_pos h, if_pos ((nI_leI ha hb).mpr h)]
  · rw [if_neg h, if_neg (fun q => h ((nI_leI ha hb).mp q))]
theorem if_nlt {α : Type} {a b : Nat} (ha : a < 2 ^ 31) (hb : b < 2 ^ 31) (x y : α) : (if nI a < nI b then x else y) = if a < b then x else y := by
  by_cases h : a < b
  · rw [if_pos h, if_pos ((nI_ltI ha hb).mpr h)]
  · rw [if_neg h, if_neg (fun q => h ((nI_ltI ha hb).mp q))]
theorem if_neq {α : Type} {a b : Nat} (ha : a < 2 ^ 31) (hb : b < 2 ^ 31) (x y : α) : (if nI a = nI b then x else y) = if a = b then x else y := by
  by_cases h : a = b
  · rw [if_pos h, if_pos ((nI_eq ha hb).mpr h)]
  · rw [if_neg h, if_neg (fun q => h ((nI_eq ha hb).mp q))]

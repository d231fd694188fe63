/-! the reference goes through its cells -/
def YR (M : Mem) (E : Nat → Nat → Int32) (n0 n1 : Nat) : Prop := M.1 5 0 = nI n0 ∧ M.1 5 1 = nI n1 ∧ n0 ≤ 8 ∧ n1 ≤ 8 ∧ (∀ t, t < n0 → M.1 1 t = E 2 t ∧ M.1 2 t = E 3 t ∧ M.1 4 t = E 5 t) ∧ (∀ t, t < n1 → M.1 1 (8 + t) = E 7 t ∧ M.1 2 (8 + t) = E 8 t ∧ M.1 4 (8 + t) = E 10 t)
def YF (M0 M : Mem) : Prop := (∀ k, k ≠ 0 → M.1 k = M0.1 k) ∧ M.2 = M0.2
theorem YF.rf (M : Mem) : YF M M := ⟨fun _ _ => rfl, rfl⟩
theorem YF.tr {A B C : Mem} (h1 : YF A B) (h2 : YF B C) : YF A C := ⟨fun k hk => (h2.1 k hk).trans (h1.1 k hk), h2.2.trans h1.2⟩
theorem YF.set {A B : Mem} (h : YF A B) (i : Nat) (v : Int32) : YF A (setI B 0 i v) := ⟨fun k hk => by rw [setI_ne hk]; exact h.1 k hk, h.2⟩
theorem YR.of {M0 M : Mem} {E : Nat → Nat → Int32} {n0 n1 : Nat} (h : YR M0 E n0 n1) (hF : YF M0 M) : YR M E n0 n1 := by
  unfold YR at *
  rw [hF.1 5 (by decide), hF.1 1 (by decide), hF.1 2 (by decide), hF.1 4 (by decide)]
  exact h
theorem YR.sim {X Y : Mem} {n0 n1 : Nat} (h0 : EqR X Y 1 0 0 n0) (h1 : EqR X Y 6 8 1 n1) : YR Y X.1 n0 n1 := by
  refine ⟨h0.2.1, h1.2.1, h0.2.2.1, h1.2.2.1, fun t ht => ?_, fun t ht => ?_⟩
  · obtain ⟨a, b, -, d⟩ := h0.2.2.2.1 t ht
    rw [Nat.zero_add] at a b d
    exact ⟨a.symm, b.symm, d.symm⟩
  · obtain ⟨a, b, -, d⟩ := h1.2.2.2.1 t ht
    exact ⟨a.symm, b.symm, d.symm⟩
theorem sq_neg (a b c d : Int32) : (a - b) * (c - d) = (b - a) * (d - c) := by grind
/-- tilted so -/
def tiltY (M : Mem) (E : Nat → Nat → Int32) (a b c d : Nat) : Prop := M.1 0 11 = trn E a b c d ∧ M.1 0 12 = ((E 5 a - E 5 b) * (E 8 d - E 8 c)) - ((E 10 c - E 10 d) * (E 3 b - E 3 a)) ∧ M.1 0 13 = ((E 10 c - E 10 d) * (E 2 b - E 2 a)) - ((E 5 a - E 5 b) * (E 7 d - E 7 c))
theorem size_eq (t : Int32) : fX6_size t = some (sgn t * t) := by
  unfold fX6_size sgn
  by_cases h : 0 ≤ t
  · simp [h]
  · simp [h]
    grind
theorem height_eq {M : Mem} {E : Nat → Nat → Int32} {a b c d bs o j n t : Nat} (hno : eqNo bs o j) (hT : tiltY M E a b c d) (ht : t < 8) (h1 : M.1 1 (o + t) = E (bs + 1) t) (h2 : M.1 2 (o + t) = E (bs + 2) t) (h4 : M.1 4 (o + t) = E (bs + 4) t) : fX6_height M (nI (o + t)) = some (lev E a b c d bs t) := by
  have ho := hno.o
  have hj := hno.j
  unfold fX6_height
  have hs : (if 0 ≤ M.1 0 11 then some (1 : Int32) else some (-1 : Int32)) = some (sgn (M.1 0 11)) := by
    unfold sgn
    split <;> rfl
  rw [hs, size_eq, ldI_n (by omega) (by decide), ldI_n (by omega) (by decide), ldI_n (by omega) (by decide)]
  simp only [ob_some]
  rw [h1, h2, h4, hT.1, hT.2.1, hT.2.2]
  unfold lev tlU tlV
  congr 1
  grind
theorem lev_b (E : Nat → Nat → Int32) (a b c d : Nat) : lev E a b c d 1 b = lev E a b c d 1 a := by
  unfold lev tlU tlV
  show ((sgn (trn E a b c d) * trn E a b c d * E 5 b + _ * E 2 b) + _ * E 3 b) = ((sgn (trn E a b c d) * trn E a b c d * E 5 a + _ * E 2 a) + _ * E 3 a)
  generalize hs : sgn (trn E a b c d) = s
  unfold trn
  grind
theorem lev_d (E : Nat → Nat → Int32) (a b c d : Nat) : lev E a b c d 6 d = lev E a b c d 6 c := by
  unfold lev tlU tlV
  show ((sgn (trn E a b c d) * trn E a b c d * E 10 d + _ * E 7 d) + _ * E 8 d) = ((sgn (trn E a b c d) * trn E a b c d * E 10 c + _ * E 7 c) + _ * E 8 c)
  generalize hs : sgn (trn E a b c d) = s
  unfold trn
  grind
theorem cntB_congr {p q : Nat → Bool} {n : Nat} (h : ∀ t, t < n → p t = q t) : cntB p n = cntB q n := by
  induction n with
  | zero => rfl
  | succ n ih => unfold cntB; rw [ih (fun t ht => h t (by omega)), h n (by omega)]
theorem cntB_rm {p : Nat → Bool} {n a : Nat} (ha : a < n) (hp : p a = true) : cntB p n = cntB (fun t => p t && !(decide (t = a))) n + 1 := by
  induction n with
  | zero => omega
  | succ n ih =>
    unfold cntB
    rcases Nat.lt_or_ge a n with q | q
    · rw [ih q]
      have : ¬ n = a := by omega
      simp only [this, decide_false, Bool.not_false, Bool.and_true]
      omega
    · have e : n = a := by omega
      subst e
      rw [hp]
      simp only [decide_true, Bool.not_true, Bool.and_false, if_true]
      rw [cntB_congr (p := p) (q := fun t => p t && !(decide (t = n))) (fun t ht => by
        have : ¬ t = n := by omega
        simp [this])]
      simp
theorem cntB_0 (p : Nat → Bool) (n : Nat) : cntB p n = 0 ↔ ∀ t, t < n → p t = false := by
  induction n with
  | zero => simp [cntB]
  | succ n ih =>
    unfold cntB
    constructor
    · intro h t ht
      rcases Nat.lt_or_ge t n with q | q
      · exact (ih.mp (by omega)) t q
      · rw [show t = n by omega]
        by_cases e : p n = true
        · rw [e] at h; simp at h
        · simpa using e
    · intro h
      rw [ih.mpr (fun t ht => h t (by omega)), h n (by omega)]
      rfl
theorem crowd_iff {p : Nat → Bool} {n a b : Nat} (hab : a < b) (hb : b < n) (pa : p a = true) (pb : p b = true) : decide (2 < cntB p n) = !(allB (fun t => decide (t = a) || decide (t = b) || !(p t)) n) := by
  have h1 := cntB_rm (n := n) (a := a) (by omega) pa
  have h2 := cntB_rm (p := fun t => p t && !(decide (t = a))) (n := n) (a := b) hb (by
    have : ¬ b = a := by omega
    simp [pb, this])
  by_cases h : allB (fun t => decide (t = a) || decide (t = b) || !(p t)) n = true
  · rw [h]
    rw [allB_iff] at h
    have h3 : cntB (fun t => (p t && !(decide (t = a))) && !(decide (t = b))) n = 0 := by
      rw [cntB_0]
      intro t ht
      have := h t ht
      revert this
      cases p t <;> cases decide (t = a) <;> cases decide (t = b) <;> simp
    simp
    omega
  · have hf : allB (fun t => decide (t = a) || decide (t = b) || !(p t)) n = false := by simpa using h
    rw [hf]
    have h3 : cntB (fun t => (p t && !(decide (t = a))) && !(decide (t = b))) n ≠ 0 := by
      intro q
      rw [cntB_0] at q
      apply h
      rw [allB_iff]
      intro t ht
      have := q t ht
      revert this
      cases p t <;> cases decide (t = a) <;> cases decide (t = b) <;> simp
    simp
    omega

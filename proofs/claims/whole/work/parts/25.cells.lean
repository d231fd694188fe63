/-! promises 10 to 12: the kept cells of the class -/
theorem upTo_cons {a n : Nat} (h : a < n) : upTo a n = a :: upTo (a + 1) n := by
  unfold upTo
  obtain ⟨k, hk⟩ : ∃ k, n - a = k + 1 := ⟨n - a - 1, by omega⟩
  rw [hk, List.range'_succ, show n - (a + 1) = k by omega]
theorem upTo_nil {a n : Nat} (h : n ≤ a) : upTo a n = [] := by
  unfold upTo
  rw [show n - a = 0 by omega]
  rfl
theorem upTo_len (a n : Nat) : (upTo a n).length = n - a := by simp [upTo]
theorem allB_iff (p : Nat → Bool) (n : Nat) : allB p n = true ↔ ∀ t, t < n → p t = true := by
  induction n with
  | zero => simp [allB]
  | succ n ih =>
    simp only [allB, Bool.and_eq_true, ih]
    constructor
    · rintro ⟨h1, h2⟩ t ht
      rcases Nat.lt_or_ge t n with q | q
      · exact h1 t q
      · rw [show t = n by omega]; exact h2
    · intro h
      exact ⟨fun t ht => h t (by omega), h n (by omega)⟩
theorem cntB_le (p : Nat → Bool) (n : Nat) : cntB p n ≤ n := by
  induction n with
  | zero => simp [cntB]
  | succ n ih => unfold cntB; split <;> omega
theorem cntB_cons (p : Nat → Bool) (n : Nat) : cntB p (n + 1) = (if p 0 then 1 else 0) + cntB (fun t => p (t + 1)) n := by
  induction n with
  | zero => simp [cntB]
  | succ n ih =>
    rw [cntB, ih]
    conv => rhs; rw [cntB]
    omega
/-- how many places from v on -/
def cntF (p : Nat → Bool) (v n : Nat) : Nat := cntB (fun t => p (v + t)) (n - v)
theorem cntF_step {p : Nat → Bool} {v n : Nat} (h : v < n) : cntF p v n = (if p v then 1 else 0) + cntF p (v + 1) n := by
  unfold cntF
  obtain ⟨k, hk⟩ : ∃ k, n - v = k + 1 := ⟨n - v - 1, by omega⟩
  rw [hk, cntB_cons, show n - (v + 1) = k by omega]
  simp only [Nat.add_zero]
  congr 2
  funext t
  rw [show v + (t + 1) = v + 1 + t by omega]
theorem cntF_end {p : Nat → Bool} {v n : Nat} (h : n ≤ v) : cntF p v n = 0 := by
  unfold cntF
  rw [show n - v = 0 by omega]
  rfl
theorem cntF_0 (p : Nat → Bool) (n : Nat) : cntF p 0 n = cntB p n := by
  unfold cntF
  simp only [Nat.sub_zero, Nat.zero_add]
/-- tilted so, the heights are lev's -/
def tiltd (M : Mem) (E : Nat → Nat → Int32) (a b c d : Nat) : Prop := M.1 16 4 = sgn (trn E a b c d) * trn E a b c d ∧ M.1 16 5 = tlU E a b c d ∧ M.1 16 6 = tlV E a b c d
theorem level_eq {M : Mem} {E : Nat → Nat → Int32} {a b c d bs t : Nat} (hE : ∀ k, 1 ≤ k → k ≤ 10 → M.1 k = E k) (hT : tiltd M E a b c d) (hb : bs = 1 ∨ bs = 6) (ht : t < 8) : fX4_levelOf M bs (nI t) = some (lev E a b c d bs t) := by
  unfold fX4_levelOf
  rw [ldI_n ht (by decide), ldI_n ht (by decide), ldI_n ht (by decide)]
  simp only [ob_some]
  rw [hT.1, hT.2.1, hT.2.2, hE (bs + 4) (by omega) (by omega), hE (bs + 1) (by omega) (by omega), hE (bs + 2) (by omega) (by omega)]
  rfl
theorem alike_eq {M : Mem} {E : Nat → Nat → Int32} {a b c d bs n k N : Nat} (hN : 9 ≤ N) (hE : ∀ k, 1 ≤ k → k ≤ 10 → M.1 k = E k) (hT : tiltd M E a b c d) (hb : bs = 1 ∨ bs = 6) (hn : M.1 bs 4 = nI n) (hn8 : n ≤ 8) (hk : k < n) :
    fX4_alikeLowest N M bs (nI k) = some (if allB (fun t => decide (lev E a b c d bs k ≤ lev E a b c d bs t)) n then nI (cntB (fun t => decide (lev E a b c d bs t = lev E a b c d bs k)) n) else 0) := by
  unfold fX4_alikeLowest
  rw [level_eq hE hT hb (by omega)]
  simp only [ob_some]
  have key := lp_rule (bot := fun _ _ => none) (step := sX4_alikeLowest_13 M bs (lev E a b c d bs k)) (fun m f => ∀ v al, v ≤ n → al ≤ v → n - v < m → ((∀ t, v ≤ t → t < n → lev E a b c d bs k ≤ lev E a b c d bs t) → f (nI al) (nI v) = some (nI (al + cntF (fun t => decide (lev E a b c d bs t = lev E a b c d bs k)) v n))) ∧ ((¬ ∀ t, v ≤ t → t < n → lev E a b c d bs k ≤ lev E a b c d bs t) → f (nI al) (nI v) = some 0)) (fun v al _ _ h2 => by omega) (by
    intro m f hf v al hv hal hm
    unfold sX4_alikeLowest_13
    rw [hn, if_nle (by omega) (by omega), nI_1, nI_1]
    by_cases e : n ≤ v
    · rw [if_pos e, cntF_end e]
      exact ⟨fun _ => rfl, fun q => absurd (fun t h1 h2 => by omega) q⟩
    · rw [if_neg e, level_eq hE hT hb (by omega)]
      simp only [ob_some]
      by_cases c1 : lev E a b c d bs k ≤ lev E a b c d bs v
      · rw [if_pos c1, cntF_step (show v < n by omega)]
        have ext : (∀ t, v ≤ t → t < n → lev E a b c d bs k ≤ lev E a b c d bs t) ↔ (∀ t, v + 1 ≤ t → t < n → lev E a b c d bs k ≤ lev E a b c d bs t) := by
          constructor
          · exact fun h t h1 h2 => h t (by omega) h2
          · intro h t h1 h2
            rcases Nat.lt_or_ge v t with q | q
            · exact h t (by omega) h2
            · rw [show t = v by omega]; exact c1
        by_cases c2 : lev E a b c d bs v = lev E a b c d bs k
        · rw [if_pos c2]
          simp only [ob_some, c2, decide_true, if_true]
          obtain ⟨k1, k2⟩ := hf (v + 1) (al + 1) (by omega) (by omega) (by omega)
          rw [ext]
          refine ⟨fun q => ?_, fun q => k2 q⟩
          rw [k1 q, Nat.add_assoc]
        · rw [if_neg c2]
          simp only [ob_some, c2, decide_false]
          obtain ⟨k1, k2⟩ := hf (v + 1) al (by omega) (by omega) (by omega)
          rw [ext]
          refine ⟨fun q => ?_, fun q => k2 q⟩
          rw [k1 q]
          simp
      · rw [if_neg c1]
        exact ⟨fun q => absurd (q v (Nat.le_refl _) (by omega)) c1, fun _ => rfl⟩) N 0 0 (by omega) (by omega) (by omega)
  rw [cntF_0] at key
  by_cases hA : ∀ t, 0 ≤ t → t < n → lev E a b c d bs k ≤ lev E a b c d bs t
  · have hB : allB (fun t => decide (lev E a b c d bs k ≤ lev E a b c d bs t)) n = true := by
      rw [allB_iff]
      intro t ht
      simp only [decide_eq_true_eq]
      exact hA t (by omega) ht
    rw [hB, if_pos rfl]
    have := key.1 hA
    rw [Nat.zero_add] at this
    exact this
  · have hB : ¬ allB (fun t => decide (lev E a b c d bs k ≤ lev E a b c d bs t)) n = true := by
      rw [allB_iff]
      intro q
      apply hA
      intro t _ ht
      have := q t ht
      simpa using this
    rw [if_neg hB]
    exact key.2 hA
theorem tilt_eq {M : Mem} {E : Nat → Nat → Int32} {a b c d : Nat} (hE : ∀ k, 1 ≤ k → k ≤ 10 → M.1 k = E k) (ha : a < 8) (hb : b < 8) (hc : c < 8) (hd : d < 8) :
    (trn E a b c d = 0 → fX4_tilt M 1 6 (nI a) (nI b) (nI c) (nI d) = some (0, M)) ∧ (trn E a b c d ≠ 0 → ∃ M2, fX4_tilt M 1 6 (nI a) (nI b) (nI c) (nI d) = some (1, M2) ∧ tiltd M2 E a b c d ∧ (∀ k, k ≠ 16 → M2.1 k = M.1 k) ∧ M2.1 16 0 = M.1 16 0 ∧ M2.1 16 1 = M.1 16 1 ∧ M2.1 16 2 = M.1 16 2 ∧ M2.2 = M.2) := by
  have e : trn M.1 a b c d = trn E a b c d := by rw [trn_congr hE]
  unfold fX4_tilt
  rw [across_eq ha hb hc hd, e]
  simp only [ob_some, okZM_0, okZM_1]
  refine ⟨fun q => by rw [if_pos q], fun q => ?_⟩
  rw [if_neg q]
  have hs : (if 0 ≤ trn E a b c d then some (1 : Int32) else some (-1 : Int32)) = some (sgn (trn E a b c d)) := by
    unfold sgn
    split <;> rfl
  rw [hs]
  simp only [ob_some]
  have g : ∀ (P : Mem) (cl k : Nat), k < 8 → ldI P cl 8 (nI k) = some (P.1 cl k) := fun P cl k hk => ldI_n hk (by decide)
  simp only [g _ _ _ ha, g _ _ _ hb, g _ _ _ hc, g _ _ _ hd, ob_some]
  refine ⟨_, rfl, ⟨?_, ?_, ?_⟩, ?_, ?_, ?_, ?_, rfl⟩
  · rw [setI_nk (by decide), setI_nk (by decide), setI_eq]
  · rw [setI_nk (by decide), setI_eq]
    unfold tlU
    rw [setI_ne (by decide), setI_ne (by decide), hE 5 (by decide) (by decide), hE 8 (by decide) (by decide), hE 10 (by decide) (by decide), hE 3 (by decide) (by decide)]
  · rw [setI_eq]
    unfold tlV
    simp only [setI_ne (show (2 : Nat) ≠ 16 by decide), setI_ne (show (7 : Nat) ≠ 16 by decide), hE 5 (by decide) (by decide), hE 2 (by decide) (by decide), hE 10 (by decide) (by decide), hE 7 (by decide) (by decide)]
  · intro k hk
    rw [setI_ne hk, setI_ne hk, setI_ne hk]
  · rw [setI_nk (by decide), setI_nk (by decide), setI_nk (by decide)]
  · rw [setI_nk (by decide), setI_nk (by decide), setI_nk (by decide)]
  · rw [setI_nk (by decide), setI_nk (by decide), setI_nk (by decide)]

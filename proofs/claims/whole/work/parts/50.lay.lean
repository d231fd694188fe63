/-! laying the terms of a face along its way: the class -/
set_option maxRecDepth 100000 in
theorem bit_fin : ((List.range 8).all fun t => (List.range 256).all fun B => decide (((nI B >>> (nI t &&& 31)) &&& (1 : Int32)) = bz (B.testBit t))) = true := by decide +kernel
theorem bit_at {B t : Nat} (hB : B < 256) (ht : t < 8) : ((nI B >>> (nI t &&& 31)) &&& (1 : Int32)) = bz (B.testBit t) := by
  have q1 := List.all_eq_true.mp bit_fin t (List.mem_range.mpr ht)
  have q2 := List.all_eq_true.mp q1 B (List.mem_range.mpr hB)
  exact of_decide_eq_true q2
def popc (B : Nat) : Nat := cntB (fun s => B.testBit s) 8
set_option maxRecDepth 100000 in
theorem pop_fin : ((List.range 256).all fun B => decide (fJ6_bitCount_0f7a4 (nI B) = some (nI (popc B)))) = true := by decide +kernel
theorem pop_at {B : Nat} (hB : B < 256) : fJ6_bitCount_0f7a4 (nI B) = some (nI (popc B)) := of_decide_eq_true (List.all_eq_true.mp pop_fin B (List.mem_range.mpr hB))
def rmin (F : Nat → Bool) (x : Nat → Int) (L0 : Int) : Nat → Int
  | 0 => L0
  | k + 1 => if F k then (if x k < rmin F x L0 k then x k else rmin F x L0 k) else rmin F x L0 k
theorem rmin_ok {F : Nat → Bool} {x : Nat → Int} {L0 : Int} {n : Nat} (h : ∀ s, s < n → F s = true → x s < L0) : ∀ k, k ≤ n → (rmin F x L0 k = L0 ∧ ∀ s, s < k → F s = false) ∨ (∃ m, m < k ∧ F m = true ∧ rmin F x L0 k = x m ∧ ∀ s, s < k → F s = true → x m ≤ x s) := by
  intro k
  induction k with
  | zero => intro _; exact Or.inl ⟨rfl, fun s hs => by omega⟩
  | succ k ih =>
    intro hk
    have e : rmin F x L0 (k + 1) = if F k then (if x k < rmin F x L0 k then x k else rmin F x L0 k) else rmin F x L0 k := rfl
    have hk2 := ih (by omega)
    cases hF : F k with
    | false =>
      rw [hF] at e
      have e2 : rmin F x L0 (k + 1) = rmin F x L0 k := e
      rw [e2]
      rcases hk2 with ⟨a, b⟩ | ⟨m, a, b, c, d⟩
      · exact Or.inl ⟨a, fun s hs => by
          rcases Nat.lt_or_ge s k with q | q
          · exact b s q
          · have : s = k := by omega
            rw [this]; exact hF⟩
      · exact Or.inr ⟨m, by omega, b, c, fun s hs hs2 => by
          rcases Nat.lt_or_ge s k with q | q
          · exact d s q hs2
          · have : s = k := by omega
            rw [this, hF] at hs2
            exact absurd hs2 (by decide)⟩
    | true =>
      rw [hF] at e
      have e2 : rmin F x L0 (k + 1) = if x k < rmin F x L0 k then x k else rmin F x L0 k := e
      rw [e2]
      right
      rcases hk2 with ⟨a, b⟩ | ⟨m, a, b, c, d⟩
      · have := h k (by omega) hF
        rw [a, if_pos this]
        refine ⟨k, by omega, hF, rfl, fun s hs hs2 => ?_⟩
        rcases Nat.lt_or_ge s k with q | q
        · rw [b s q] at hs2; exact absurd hs2 (by decide)
        · have : s = k := by omega
          rw [this]; omega
      · rw [c]
        by_cases q : x k < x m
        · rw [if_pos q]
          refine ⟨k, by omega, hF, rfl, fun s hs hs2 => ?_⟩
          rcases Nat.lt_or_ge s k with y | y
          · have := d s y hs2; omega
          · have : s = k := by omega
            rw [this]; omega
        · rw [if_neg q]
          refine ⟨m, by omega, b, rfl, fun s hs hs2 => ?_⟩
          rcases Nat.lt_or_ge s k with y | y
          · exact d s y hs2
          · have : s = k := by omega
            rw [this]; omega
theorem rmin_bd {F : Nat → Bool} {x : Nat → Int} {L0 a b : Int} (h0 : a ≤ L0 ∧ L0 ≤ b) {n : Nat} (h : ∀ s, s < n → a ≤ x s ∧ x s ≤ b) : ∀ k, k ≤ n → a ≤ rmin F x L0 k ∧ rmin F x L0 k ≤ b := by
  intro k
  induction k with
  | zero => intro _; exact h0
  | succ k ih =>
    intro hk
    have i1 := ih (by omega)
    have i2 := h k (by omega)
    show a ≤ (if F k then (if x k < rmin F x L0 k then x k else rmin F x L0 k) else rmin F x L0 k) ∧ (if F k then (if x k < rmin F x L0 k then x k else rmin F x L0 k) else rmin F x L0 k) ≤ b
    split
    · split <;> omega
    · omega
def ly (tau : Nat → Nat) (F : Nat → Bool) (c : Nat → Int) : Nat → Nat → Int
  | 0, _ => 0
  | k + 1, n => if F k = true ∧ tau k = n then c k else ly tau F c k n
def lmin (F : Nat → Bool) (x : Nat → Int) (k : Nat) : Int := rmin F x 2147483647 k
theorem lay7 {N : Nat} {M : Mem} {E : Nat → Nat → Int32} {bs n B : Nat} {a b : Int} (hN : 10 ≤ N) (hb : bs = 1 ∨ bs = 6) (hE : ∀ k, 1 ≤ k → k ≤ 10 → M.1 k = E k) (hn : M.1 bs 4 = nI n) (hok : okN E bs n) (ha : -12 ≤ a ∧ a ≤ 12) (hb2 : -12 ≤ b ∧ b ≤ 12) (hB : B < 256) : lp (fun _ _ => none) (sX2_layAlong_7 M bs (nI B) (iI a) (iI b)) N (2147483647 : Int32) (0 : Int32) = some (iI (lmin (fun s => B.testBit s) (vv E bs a b) n)) := by
  have hn8 := hok.1
  have key := lp_rule (bot := fun _ _ => none) (step := sX2_layAlong_7 M bs (nI B) (iI a) (iI b)) (fun w fc => ∀ k, k ≤ n → n - k < w → fc (iI (lmin (fun s => B.testBit s) (vv E bs a b) k)) (nI k) = some (iI (lmin (fun s => B.testBit s) (vv E bs a b) n))) (fun k _ h => by omega) (by
    intro w fc hc k hk hw
    unfold sX2_layAlong_7
    rw [hn, if_nle (by omega) (by omega), nI_1]
    by_cases e : n ≤ k
    · rw [if_pos e]
      have : k = n := by omega
      subst this
      rfl
    · rw [if_neg e, bit_at hB (by omega), ifb]
      have nx := hc (k + 1) (by omega) (by omega)
      have l1 : ldI M (bs + 1) 8 (nI k) = some (E (bs + 1) k) := by rw [ldI_n (by omega) (by decide), hE _ (by omega) (by omega)]
      have l2 : ldI M (bs + 2) 8 (nI k) = some (E (bs + 2) k) := by rw [ldI_n (by omega) (by decide), hE _ (by omega) (by omega)]
      rw [l1, l2]
      simp only [ob_some]
      rw [vv_i]
      have su : lmin (fun s => B.testBit s) (vv E bs a b) (k + 1) = if B.testBit k then (if vv E bs a b k < lmin (fun s => B.testBit s) (vv E bs a b) k then vv E bs a b k else lmin (fun s => B.testBit s) (vv E bs a b) k) else lmin (fun s => B.testBit s) (vv E bs a b) k := rfl
      cases hF : B.testBit k with
      | false =>
        rw [hF] at su
        have su2 : lmin (fun s => B.testBit s) (vv E bs a b) (k + 1) = lmin (fun s => B.testBit s) (vv E bs a b) k := su
        rw [su2] at nx
        simp only [Bool.false_eq_true, if_false, ob_some]
        exact nx
      | true =>
        rw [hF] at su
        have su2 : lmin (fun s => B.testBit s) (vv E bs a b) (k + 1) = if vv E bs a b k < lmin (fun s => B.testBit s) (vv E bs a b) k then vv E bs a b k else lmin (fun s => B.testBit s) (vv E bs a b) k := su
        rw [su2] at nx
        simp only [if_true, ob_some]
        have b1 := vv_bd hok (show k < n by omega) ha hb2
        have b2 : -144 ≤ lmin (fun s => B.testBit s) (vv E bs a b) k ∧ lmin (fun s => B.testBit s) (vv E bs a b) k ≤ 2147483647 := rmin_bd (by omega) (n := n) (fun s hs => by have := vv_bd hok hs ha hb2; omega) k hk
        have q : iI (vv E bs a b k) < iI (lmin (fun s => B.testBit s) (vv E bs a b) k) ↔ vv E bs a b k < lmin (fun s => B.testBit s) (vv E bs a b) k := by
          rw [i_lt, iI_t (by omega) (by omega), iI_t (by omega) (by omega)]
        by_cases c : vv E bs a b k < lmin (fun s => B.testBit s) (vv E bs a b) k
        · rw [if_pos (q.mpr c)]
          rw [if_pos c] at nx
          exact nx
        · rw [if_neg (fun z => c (q.mp z))]
          rw [if_neg c] at nx
          exact nx) N 0 (by omega) (by omega)
  exact key
theorem lay61 {N : Nat} {M : Mem} {a5 : Nat} (hN : 10 ≤ N) : ∃ M2, lp (fun _ _ => none) (sX2_layAlong_61 a5) N (0 : Int32) M = some M2 ∧ (∀ k, k < 7 → M2.2 a5 k = jI 0) ∧ (∀ c, c ≠ a5 → M2.2 c = M.2 c) ∧ M2.1 = M.1 := by
  have key := lp_rule (bot := fun _ _ => none) (step := sX2_layAlong_61 a5) (fun w fc => ∀ (k : Nat) (M4 : Mem), k ≤ 7 → 7 - k < w → (∀ t, t < k → M4.2 a5 t = jI 0) → (∀ c, c ≠ a5 → M4.2 c = M.2 c) → M4.1 = M.1 → ∃ M2, fc (nI k) M4 = some M2 ∧ (∀ k, k < 7 → M2.2 a5 k = jI 0) ∧ (∀ c, c ≠ a5 → M2.2 c = M.2 c) ∧ M2.1 = M.1) (fun k M4 _ h => by omega) (by
    intro w fc hc k M4 hk hw m1 m2 m3
    unfold sX2_layAlong_61
    rw [show (7 : Int32) = nI 7 from rfl, if_nle (by omega) (by omega), nI_1]
    by_cases e : 7 ≤ k
    · rw [if_pos e]
      exact ⟨M4, rfl, fun t ht => m1 t (by omega), m2, m3⟩
    · rw [if_neg e, stL_n (by omega) (by decide)]
      simp only [ob_some]
      refine hc (k + 1) _ (by omega) (by omega) (fun t ht => ?_) (fun c hc => by rw [setL_ne hc]; exact m2 c hc) m3
      by_cases q : t = k
      · subst q; rw [setL_eq]; rfl
      · rw [setL_nk q]; exact m1 t (by omega)) N 0 M (by omega) (by omega) (fun t ht => by omega) (fun _ _ => rfl) rfl
  exact key
theorem layX {N : Nat} {M : Mem} {E : Nat → Nat → Int32} {bs n B a5 : Nat} {a b : Int} {tau : Nat → Nat} (hN : 10 ≤ N) (hb : bs = 1 ∨ bs = 6) (hE : ∀ k, 1 ≤ k → k ≤ 10 → M.1 k = E k) (hn : M.1 bs 4 = nI n) (hok : okN E bs n) (ha : -12 ≤ a ∧ a ≤ 12) (hb2 : -12 ≤ b ∧ b ≤ 12) (hB : B < 256) (hD : 0 < a * a + b * b) (hL : -144 ≤ lmin (fun s => B.testBit s) (vv E bs a b) n ∧ lmin (fun s => B.testBit s) (vv E bs a b) n ≤ 144) (ht : ∀ s, s < n → B.testBit s = true → tau s ≤ 6 ∧ vv E bs a b s - lmin (fun s => B.testBit s) (vv E bs a b) n = (tau s : Int) * (a * a + b * b)) : ∃ M2, fX2_layAlong N M bs (nI B) (iI a) (iI b) a5 = some M2 ∧ (∀ k, k < 7 → M2.2 a5 k = jI (ly tau (fun s => B.testBit s) (fun s => (E (bs + 3) s).toInt) n k)) ∧ (∀ c, c ≠ a5 → M2.2 c = M.2 c) ∧ M2.1 = M.1 := by
  have hn8 := hok.1
  have m1 := bd_mul ha ha
  have m2 := bd_mul hb2 hb2
  obtain ⟨M1, c1, c2, c3, c4⟩ := lay61 (N := N) (M := M) (a5 := a5) hN
  unfold fX2_layAlong
  rw [lay7 hN hb hE hn hok ha hb2 hB]
  simp only [ob_some]
  rw [c1]
  simp only [ob_some, iI_mul, iI_add]
  rw [if_ieq0 (by unfold sml; omega), if_neg (by omega)]
  generalize hLL : lmin (fun s => B.testBit s) (vv E bs a b) n = L at hL ht ⊢
  have key := lp_rule (bot := fun _ _ => none) (step := sX2_layAlong_101 bs (iI a) (iI b) (iI L) (nI B) a5) (fun w fc => ∀ (k : Nat) (M4 : Mem), k ≤ n → n - k < w → (∀ t, t < 7 → M4.2 a5 t = jI (ly tau (fun s => B.testBit s) (fun s => (E (bs + 3) s).toInt) k t)) → (∀ c, c ≠ a5 → M4.2 c = M.2 c) → M4.1 = M.1 → ∃ M2, fc (nI k) M4 = some M2 ∧ (∀ k, k < 7 → M2.2 a5 k = jI (ly tau (fun s => B.testBit s) (fun s => (E (bs + 3) s).toInt) n k)) ∧ (∀ c, c ≠ a5 → M2.2 c = M.2 c) ∧ M2.1 = M.1) (fun k M4 _ h => by omega) (by
    intro w fc hc k M4 hk hw r1 r2 r3
    unfold sX2_layAlong_101
    rw [r3, hn, if_nle (by omega) (by omega), nI_1]
    by_cases e : n ≤ k
    · rw [if_pos e]
      have : k = n := by omega
      subst this
      exact ⟨M4, rfl, r1, r2, r3⟩
    · rw [if_neg e, bit_at hB (by omega)]
      have l1 : ldI M4 (bs + 1) 8 (nI k) = some (E (bs + 1) k) := by rw [ldI_n (by omega) (by decide), r3, hE _ (by omega) (by omega)]
      have l2 : ldI M4 (bs + 2) 8 (nI k) = some (E (bs + 2) k) := by rw [ldI_n (by omega) (by decide), r3, hE _ (by omega) (by omega)]
      have l3 : ldI M4 (bs + 3) 8 (nI k) = some (E (bs + 3) k) := by rw [ldI_n (by omega) (by decide), r3, hE _ (by omega) (by omega)]
      have b1 := vv_bd hok (show k < n by omega) ha hb2
      rw [l1, l2, l3]
      simp only [ob_some]
      rw [vv_i, iI_sub, iI_mul, iI_mul, iI_add, dvI_eq (by omega) (by omega) (by omega) (by omega)]
      simp only [ob_some, ifb]
      have su : ∀ t, ly tau (fun s => B.testBit s) (fun s => (E (bs + 3) s).toInt) (k + 1) t = if B.testBit k = true ∧ tau k = t then (E (bs + 3) k).toInt else ly tau (fun s => B.testBit s) (fun s => (E (bs + 3) s).toInt) k t := fun t => rfl
      cases hF : B.testBit k with
      | false =>
        simp only [Bool.false_eq_true, if_false, ob_some]
        refine hc (k + 1) _ (by omega) (by omega) (fun t ht => ?_) r2 r3
        rw [su, hF, if_neg (fun q => absurd q.1 (by decide))]
        exact r1 t ht
      | true =>
        obtain ⟨t1, t2⟩ := ht k (by omega) hF
        simp only [if_true]
        rw [t2, Int.mul_tdiv_cancel _ (by omega), ← nI_iI, within_eq]
        simp only [ob_some, ifb]
        rw [nI_tI (by omega)]
        rw [if_pos (decide_eq_true (show (0 : Int32).toInt ≤ (tau k : Int) ∧ (tau k : Int) ≤ ((7 : Int32) - 1).toInt by
          have e0 : (0 : Int32).toInt = 0 := rfl
          have e6 : ((7 : Int32) - 1).toInt = 6 := rfl
          omega))]
        rw [stL_n (by omega) (by decide), to64]
        simp only [ob_some]
        refine hc (k + 1) _ (by omega) (by omega) (fun t ht => ?_) (fun c hc => by rw [setL_ne hc]; exact r2 c hc) r3
        rw [su, hF]
        by_cases q : t = tau k
        · subst q
          rw [setL_eq, if_pos ⟨rfl, rfl⟩]
        · rw [setL_nk q, if_neg (fun z => q z.2.symm)]
          exact r1 t ht) N 0 M1 (by omega) (by omega) c2 c3 c4
  exact key

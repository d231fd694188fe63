/-! the class finds its cells -/
def CJ (M0 M : Mem) (n0 n1 : Nat) (L : List (Nat × Nat × Nat × Nat)) : Prop :=
  M.1 16 0 = nI (L.filter (isCl M0.1 n0 n1)).length ∧ M.1 16 1 = bz ((L.filter (isCl M0.1 n0 n1)).any (isCr M0.1 n0 n1)) ∧ (∀ (k : Nat) (q : Nat × Nat × Nat × Nat), (L.filter (isCl M0.1 n0 n1))[k]? = some q → M.1 17 k = pck q) ∧ M.1 16 2 = 1 ∧ (∀ k, k ≠ 16 → k ≠ 17 → M.1 k = M0.1 k) ∧ M.2 = M0.2
theorem note_eq {M : Mem} {K c0 c1 : Nat} {w : Int32} (p0 p1 : Bool) (h : M.1 16 0 = nI K) (hK : K < 784) (h0 : 1 ≤ c0 ∧ c0 ≤ 8) (h1 : 1 ≤ c1 ∧ c1 ≤ 8) :
    fX4_noteIfLowest M (if p0 then nI c0 else 0) (if p1 then nI c1 else 0) w = some (if p0 && p1 then (if decide (2 < c0) || decide (2 < c1) then setI (setI (setI M 17 K w) 16 0 (nI (K + 1))) 16 1 1 else setI (setI M 17 K w) 16 0 (nI (K + 1))) else M) := by
  unfold fX4_noteIfLowest
  have z0 : ¬ nI c0 = 0 := nI_ne0 (by omega) (by omega)
  have z1 : ¬ nI c1 = 0 := nI_ne0 (by omega) (by omega)
  cases p0
  · simp
  · cases p1
    · simp [z0]
    · have g : M.1 16 0 < 784 := by rw [h]; exact nI_lt (a := K) (b := 784) hK (by decide)
      simp only [if_true, z0, z1, if_false, g, Bool.and_self]
      rw [h, stI_n hK (by decide)]
      simp only [ob_some]
      rw [setI_ne (by decide), h, i1, nI_add, show (2 : Int32) = nI 2 from by decide, if_nlt (by decide) (by omega), if_nle (by omega) (by decide), ← i1, stZ_1]
      simp only [ob_some]
      by_cases q0 : 2 < c0
      · simp [q0]
      · by_cases q1 : 2 < c1
        · have q2 : ¬ c1 ≤ 2 := by omega
          simp [q0, q1, q2]
        · have q2 : c1 ≤ 2 := by omega
          simp [q0, q1, q2]
theorem pack_eq (a b c d : Nat) : (((nI a <<< ((9 : Int32) &&& 31)) ||| (nI b <<< ((6 : Int32) &&& 31))) ||| (nI c <<< ((3 : Int32) &&& 31))) ||| nI d = pck (a, b, c, d) := rfl
theorem cntB_pos {p : Nat → Bool} {n k : Nat} (hk : k < n) (h : p k = true) : 1 ≤ cntB p n := by
  induction n with
  | zero => omega
  | succ n ih =>
    unfold cntB
    rcases Nat.lt_or_ge k n with q | q
    · have := ih q; omega
    · rw [show n = k by omega, h]; simp
theorem CJ.skip {M0 M : Mem} {n0 n1 : Nat} {L : List (Nat × Nat × Nat × Nat)} {q : Nat × Nat × Nat × Nat} (h : CJ M0 M n0 n1 L) (hq : isCl M0.1 n0 n1 q = false) : CJ M0 M n0 n1 (L ++ [q]) := by
  unfold CJ
  rw [List.filter_append]
  simp only [List.filter_cons, hq, List.filter_nil, Bool.false_eq_true, if_false, List.append_nil]
  exact h
theorem CJ.more {M0 M : Mem} {n0 n1 K : Nat} {L : List (Nat × Nat × Nat × Nat)} {q : Nat × Nat × Nat × Nat} (h : CJ M0 M n0 n1 L) (hK : K = (L.filter (isCl M0.1 n0 n1)).length) (hq : isCl M0.1 n0 n1 q = true) :
    CJ M0 (if isCr M0.1 n0 n1 q then setI (setI (setI M 17 K (pck q)) 16 0 (nI (K + 1))) 16 1 1 else setI (setI M 17 K (pck q)) 16 0 (nI (K + 1))) n0 n1 (L ++ [q]) := by
  obtain ⟨h1, h2, h3, h4, h5, h6⟩ := h
  unfold CJ
  rw [List.filter_append]
  simp only [List.filter_cons, hq, List.filter_nil, if_true, List.length_append, List.any_append, List.length_cons, List.length_nil, List.any_cons, List.any_nil, Bool.or_false]
  subst hK
  have f17 : ∀ (M' : Mem) , (∀ k, M'.1 17 k = (setI M 17 (L.filter (isCl M0.1 n0 n1)).length (pck q)).1 17 k) → ∀ (k : Nat) (q2 : Nat × Nat × Nat × Nat), (L.filter (isCl M0.1 n0 n1) ++ [q])[k]? = some q2 → M'.1 17 k = pck q2 := by
    intro M' hM' k q2 hk
    rw [hM']
    rcases Nat.lt_trichotomy k (L.filter (isCl M0.1 n0 n1)).length with e | e | e
    · rw [setI_nk (by omega)]
      rw [List.getElem?_append_left e] at hk
      exact h3 k q2 hk
    · subst e
      rw [setI_eq]
      rw [List.getElem?_append_right (Nat.le_refl _), Nat.sub_self] at hk
      cases hk; rfl
    · rw [List.getElem?_eq_none (by simp; omega)] at hk
      cases hk
  by_cases hc : isCr M0.1 n0 n1 q = true
  · rw [if_pos hc, hc]
    refine ⟨by rw [setI_nk (by decide), setI_eq], by rw [setI_eq]; simp [bz], f17 _ (fun k => by rw [setI_ne (by decide), setI_ne (by decide)]), ?_, ?_, h6⟩
    · rw [setI_nk (by decide), setI_nk (by decide), setI_ne (by decide)]; exact h4
    · intro k k1 k2
      rw [setI_ne k1, setI_ne k1, setI_ne k2]; exact h5 k k1 k2
  · rw [if_neg hc]
    have hc2 : isCr M0.1 n0 n1 q = false := by simpa using hc
    rw [hc2, Bool.or_false]
    refine ⟨by rw [setI_eq], by rw [setI_nk (by decide), setI_ne (by decide)]; exact h2, f17 _ (fun k => by rw [setI_ne (by decide)]), ?_, ?_, h6⟩
    · rw [setI_nk (by decide), setI_ne (by decide)]; exact h4
    · intro k k1 k2
      rw [setI_ne k1, setI_ne k2]; exact h5 k k1 k2
theorem CJ.same {M0 M M2 : Mem} {n0 n1 : Nat} {L : List (Nat × Nat × Nat × Nat)} (h : CJ M0 M n0 n1 L) (a : ∀ k, k ≠ 16 → M2.1 k = M.1 k) (b : M2.1 16 0 = M.1 16 0) (c : M2.1 16 1 = M.1 16 1) (d : M2.1 16 2 = M.1 16 2) (e : M2.2 = M.2) : CJ M0 M2 n0 n1 L := by
  obtain ⟨h1, h2, h3, h4, h5, h6⟩ := h
  refine ⟨by rw [b]; exact h1, by rw [c]; exact h2, fun k q hk => by rw [a 17 (by decide)]; exact h3 k q hk, by rw [d]; exact h4, fun k k1 k2 => by rw [a k k1]; exact h5 k k1 k2, by rw [e]; exact h6⟩
/-- one quadruple -/
theorem quad_step {M0 M : Mem} {n0 n1 a b c d N : Nat} {L : List (Nat × Nat × Nat × Nat)} (hN : 9 ≤ N) (z0 : M0.1 1 4 = nI n0) (z1 : M0.1 6 4 = nI n1) (b0 : n0 ≤ 8) (b1 : n1 ≤ 8) (ha : a < n0) (hb : b < n0) (hc : c < n1) (hd : d < n1) (h : CJ M0 M n0 n1 L) (hL : L.length < 784) :
    ∃ M2, (Option.bind (fX4_tilt M 1 6 (nI a) (nI b) (nI c) (nI d)) fun t9 => Option.bind (if t9.1 = 0 then some t9.2 else Option.bind (fX4_alikeLowest N t9.2 1 (nI a)) fun v12 => Option.bind (fX4_alikeLowest N t9.2 6 (nI c)) fun v13 => Option.bind (fX4_noteIfLowest t9.2 v12 v13 ((((nI a <<< ((9 : Int32) &&& 31)) ||| (nI b <<< ((6 : Int32) &&& 31))) ||| (nI c <<< ((3 : Int32) &&& 31))) ||| nI d)) fun M14 => some M14) fun M10 => some M10) = some M2 ∧ CJ M0 M2 n0 n1 (L ++ [(a, b, c, d)]) := by
  have hE : ∀ k, 1 ≤ k → k ≤ 10 → M.1 k = M0.1 k := fun k k1 k2 => h.2.2.2.2.1 k (by omega) (by omega)
  obtain ⟨t0, t1⟩ := tilt_eq (M := M) (E := M0.1) (a := a) (b := b) (c := c) (d := d) hE (by omega) (by omega) (by omega) (by omega)
  by_cases ht : trn M0.1 a b c d = 0
  · rw [t0 ht]
    refine ⟨M, by simp [ob_some], h.skip ?_⟩
    simp [isCl, ht]
  · obtain ⟨M1, e1, e2, e3, e4, e5, e6, e7⟩ := t1 ht
    rw [e1]
    simp only [ob_some, if1]
    have hE1 : ∀ k, 1 ≤ k → k ≤ 10 → M1.1 k = M0.1 k := fun k k1 k2 => by rw [e3 k (by omega)]; exact hE k k1 k2
    rw [alike_eq hN hE1 e2 (Or.inl rfl) (by rw [hE1 1 (by decide) (by decide)]; exact z0) b0 ha, alike_eq hN hE1 e2 (Or.inr rfl) (by rw [hE1 6 (by decide) (by decide)]; exact z1) b1 hc]
    simp only [ob_some]
    have hJ1 := h.same e3 e4 e5 e6 e7
    have hlen : (L.filter (isCl M0.1 n0 n1)).length ≤ L.length := List.length_filter_le _ _
    have p0 := cntB_pos (p := fun t => decide (lev M0.1 a b c d 1 t = lev M0.1 a b c d 1 a)) ha (by simp)
    have p1 := cntB_pos (p := fun t => decide (lev M0.1 a b c d 6 t = lev M0.1 a b c d 6 c)) hc (by simp)
    have q0 := cntB_le (fun t => decide (lev M0.1 a b c d 1 t = lev M0.1 a b c d 1 a)) n0
    have q1 := cntB_le (fun t => decide (lev M0.1 a b c d 6 t = lev M0.1 a b c d 6 c)) n1
    rw [note_eq _ _ hJ1.1 (by omega) ⟨p0, by omega⟩ ⟨p1, by omega⟩, pack_eq]
    simp only [ob_some]
    refine ⟨_, rfl, ?_⟩
    by_cases hq : isCl M0.1 n0 n1 (a, b, c, d) = true
    · have hq2 : (allB (fun t => decide (lev M0.1 a b c d 1 a ≤ lev M0.1 a b c d 1 t)) n0 && allB (fun t => decide (lev M0.1 a b c d 6 c ≤ lev M0.1 a b c d 6 t)) n1) = true := by
        simp only [isCl, ht, decide_false, Bool.not_false, Bool.true_and] at hq
        exact hq
      rw [hq2, if_pos rfl]
      have hcr : (decide (2 < cntB (fun t => decide (lev M0.1 a b c d 1 t = lev M0.1 a b c d 1 a)) n0) || decide (2 < cntB (fun t => decide (lev M0.1 a b c d 6 t = lev M0.1 a b c d 6 c)) n1)) = isCr M0.1 n0 n1 (a, b, c, d) := rfl
      rw [hcr]
      exact CJ.more (K := (L.filter (isCl M0.1 n0 n1)).length) hJ1 rfl hq
    · have hq1 : isCl M0.1 n0 n1 (a, b, c, d) = false := by simpa using hq
      have hq2 : ¬ (allB (fun t => decide (lev M0.1 a b c d 1 a ≤ lev M0.1 a b c d 1 t)) n0 && allB (fun t => decide (lev M0.1 a b c d 6 c ≤ lev M0.1 a b c d 6 t)) n1) = true := by
        simp only [isCl, ht, decide_false, Bool.not_false, Bool.true_and] at hq
        exact hq
      rw [if_neg hq2]
      exact hJ1.skip hq1
theorem qD_cons {n1 a b c d : Nat} (h : d < n1) : qD n1 a b c d = (a, b, c, d) :: qD n1 a b c (d + 1) := by unfold qD; rw [upTo_cons h]; rfl
theorem qD_nil {n1 a b c d : Nat} (h : n1 ≤ d) : qD n1 a b c d = [] := by unfold qD; rw [upTo_nil h]; rfl
theorem qC_cons {n1 a b c : Nat} (h : c < n1) : qCc n1 a b c = qD n1 a b c (c + 1) ++ qCc n1 a b (c + 1) := by unfold qCc; rw [upTo_cons h]; rfl
theorem qC_nil {n1 a b c : Nat} (h : n1 ≤ c) : qCc n1 a b c = [] := by unfold qCc; rw [upTo_nil h]; rfl
theorem qB_cons {n0 n1 a b : Nat} (h : b < n0) : qBb n0 n1 a b = qCc n1 a b 0 ++ qBb n0 n1 a (b + 1) := by unfold qBb; rw [upTo_cons h]; rfl
theorem qB_nil {n0 n1 a b : Nat} (h : n0 ≤ b) : qBb n0 n1 a b = [] := by unfold qBb; rw [upTo_nil h]; rfl
theorem qA_cons {n0 n1 a : Nat} (h : a < n0) : qAa n0 n1 a = qBb n0 n1 a (a + 1) ++ qAa n0 n1 (a + 1) := by unfold qAa; rw [upTo_cons h]; rfl
theorem qA_nil {n0 n1 a : Nat} (h : n0 ≤ a) : qAa n0 n1 a = [] := by unfold qAa; rw [upTo_nil h]; rfl
set_option maxRecDepth 100000 in
theorem qA_len : ∀ n0, n0 < 9 → ∀ n1, n1 < 9 → (qAa n0 n1 0).length ≤ 784 := by decide +kernel
theorem CJ.size {M0 M : Mem} {n0 n1 : Nat} {L : List (Nat × Nat × Nat × Nat)} (h : CJ M0 M n0 n1 L) (k : Nat) (hk : k = 1 ∨ k = 6) : M.1 k = M0.1 k := h.2.2.2.2.1 k (by omega) (by omega)
theorem findD {M0 : Mem} {n0 n1 N a b c : Nat} (hN : 9 ≤ N) (z0 : M0.1 1 4 = nI n0) (z1 : M0.1 6 4 = nI n1) (b0 : n0 ≤ 8) (b1 : n1 ≤ 8) (ha : a < n0) (hb : b < n0) (hc : c < n1) : ∀ n d M L, d ≤ n1 → n1 - d < n → CJ M0 M n0 n1 L → L.length + (qD n1 a b c d).length ≤ 784 → ∃ M2, lp (fun _ _ => none) (sX4_findWith_18 6 1 (nI a) (nI b) (nI c) N) n (nI d) M = some M2 ∧ CJ M0 M2 n0 n1 (L ++ qD n1 a b c d) := by
  intro n
  refine lp_rule (bot := fun _ _ => none) (step := sX4_findWith_18 6 1 (nI a) (nI b) (nI c) N) (fun n f => ∀ d M L, d ≤ n1 → n1 - d < n → CJ M0 M n0 n1 L → L.length + (qD n1 a b c d).length ≤ 784 → ∃ M2, f (nI d) M = some M2 ∧ CJ M0 M2 n0 n1 (L ++ qD n1 a b c d)) (fun d M L _ h _ _ => by omega) ?_ n
  intro n f hf d M L hd hn hJ hlen
  unfold sX4_findWith_18
  rw [hJ.size 6 (Or.inr rfl), z1, if_nle (by omega) (by omega), nI_1]
  by_cases e : n1 ≤ d
  · rw [if_pos e, qD_nil e, List.append_nil]
    exact ⟨M, rfl, hJ⟩
  · rw [if_neg e]
    rw [qD_cons (show d < n1 by omega)] at hlen ⊢
    simp only [List.length_cons] at hlen
    obtain ⟨M2, g1, g2⟩ := quad_step hN z0 z1 b0 b1 ha hb hc (show d < n1 by omega) hJ (by omega)
    obtain ⟨M3, k1, k2⟩ := hf (d + 1) M2 (L ++ [(a, b, c, d)]) (by omega) (by omega) g2 (by simp; omega)
    refine ⟨M3, ?_, by rw [List.append_assoc] at k2; exact k2⟩
    obtain ⟨t9, r1, r2⟩ := rs_bind g1
    obtain ⟨M10, r3, r4⟩ := rs_bind r2
    cases r4
    rw [r1]
    simp only [ob_some]
    rw [r3]
    exact k1
theorem findC {M0 : Mem} {n0 n1 N a b : Nat} (hN : 9 ≤ N) (z0 : M0.1 1 4 = nI n0) (z1 : M0.1 6 4 = nI n1) (b0 : n0 ≤ 8) (b1 : n1 ≤ 8) (ha : a < n0) (hb : b < n0) : ∀ n c M L, c ≤ n1 → n1 - c < n → CJ M0 M n0 n1 L → L.length + (qCc n1 a b c).length ≤ 784 → ∃ M2, lp (fun _ _ => none) (sX4_findWith_3 6 1 (nI a) (nI b) N) n (nI c) M = some M2 ∧ CJ M0 M2 n0 n1 (L ++ qCc n1 a b c) := by
  intro n
  refine lp_rule (bot := fun _ _ => none) (step := sX4_findWith_3 6 1 (nI a) (nI b) N) (fun n f => ∀ c M L, c ≤ n1 → n1 - c < n → CJ M0 M n0 n1 L → L.length + (qCc n1 a b c).length ≤ 784 → ∃ M2, f (nI c) M = some M2 ∧ CJ M0 M2 n0 n1 (L ++ qCc n1 a b c)) (fun d M L _ h _ _ => by omega) ?_ n
  intro n f hf c M L hd hn hJ hlen
  unfold sX4_findWith_3
  rw [hJ.size 6 (Or.inr rfl), z1, if_nle (by omega) (by omega), nI_1]
  by_cases e : n1 ≤ c
  · rw [if_pos e, qC_nil e, List.append_nil]
    exact ⟨M, rfl, hJ⟩
  · rw [if_neg e]
    rw [qC_cons (show c < n1 by omega)] at hlen ⊢
    simp only [List.length_append] at hlen
    obtain ⟨M2, g1, g2⟩ := findD hN z0 z1 b0 b1 ha hb (show c < n1 by omega) N (c + 1) M L (by omega) (by omega) hJ (by omega)
    obtain ⟨M3, k1, k2⟩ := hf (c + 1) M2 (L ++ qD n1 a b c (c + 1)) (by omega) (by omega) g2 (by simp; omega)
    refine ⟨M3, ?_, by rw [List.append_assoc] at k2; exact k2⟩
    rw [g1]
    exact k1
theorem findB {M0 : Mem} {n0 n1 N a : Nat} (hN : 9 ≤ N) (z0 : M0.1 1 4 = nI n0) (z1 : M0.1 6 4 = nI n1) (b0 : n0 ≤ 8) (b1 : n1 ≤ 8) (ha : a < n0) : ∀ n b M L, b ≤ n0 → n0 - b < n → CJ M0 M n0 n1 L → L.length + (qBb n0 n1 a b).length ≤ 784 → ∃ M2, lp (fun _ _ => none) (sX4_find_38 1 N 6 (nI a)) n (nI b) M = some M2 ∧ CJ M0 M2 n0 n1 (L ++ qBb n0 n1 a b) := by
  intro n
  refine lp_rule (bot := fun _ _ => none) (step := sX4_find_38 1 N 6 (nI a)) (fun n f => ∀ b M L, b ≤ n0 → n0 - b < n → CJ M0 M n0 n1 L → L.length + (qBb n0 n1 a b).length ≤ 784 → ∃ M2, f (nI b) M = some M2 ∧ CJ M0 M2 n0 n1 (L ++ qBb n0 n1 a b)) (fun d M L _ h _ _ => by omega) ?_ n
  intro n f hf b M L hd hn hJ hlen
  unfold sX4_find_38
  rw [hJ.size 1 (Or.inl rfl), z0, if_nle (by omega) (by omega), nI_1]
  by_cases e : n0 ≤ b
  · rw [if_pos e, qB_nil e, List.append_nil]
    exact ⟨M, rfl, hJ⟩
  · rw [if_neg e]
    rw [qB_cons (show b < n0 by omega)] at hlen ⊢
    simp only [List.length_append] at hlen
    obtain ⟨M2, g1, g2⟩ := findC hN z0 z1 b0 b1 ha (show b < n0 by omega) N 0 M L (by omega) (by omega) hJ (by omega)
    obtain ⟨M3, k1, k2⟩ := hf (b + 1) M2 (L ++ qCc n1 a b 0) (by omega) (by omega) g2 (by simp; omega)
    refine ⟨M3, ?_, by rw [List.append_assoc] at k2; exact k2⟩
    have g3 : fX4_findWith N M 1 6 (nI a) (nI b) = some M2 := g1
    rw [g3]
    exact k1
theorem findA {M0 : Mem} {n0 n1 N : Nat} (hN : 9 ≤ N) (z0 : M0.1 1 4 = nI n0) (z1 : M0.1 6 4 = nI n1) (b0 : n0 ≤ 8) (b1 : n1 ≤ 8) : ∀ n a M L, a ≤ n0 → n0 - a < n → CJ M0 M n0 n1 L → L.length + (qAa n0 n1 a).length ≤ 784 → ∃ M2, lp (fun _ _ => none) (sX4_find_25 1 N 6) n (nI a) M = some M2 ∧ CJ M0 M2 n0 n1 (L ++ qAa n0 n1 a) := by
  intro n
  refine lp_rule (bot := fun _ _ => none) (step := sX4_find_25 1 N 6) (fun n f => ∀ a M L, a ≤ n0 → n0 - a < n → CJ M0 M n0 n1 L → L.length + (qAa n0 n1 a).length ≤ 784 → ∃ M2, f (nI a) M = some M2 ∧ CJ M0 M2 n0 n1 (L ++ qAa n0 n1 a)) (fun d M L _ h _ _ => by omega) ?_ n
  intro n f hf a M L hd hn hJ hlen
  unfold sX4_find_25
  rw [hJ.size 1 (Or.inl rfl), z0, if_nle (by omega) (by omega), nI_1]
  by_cases e : n0 ≤ a
  · rw [if_pos e, qA_nil e, List.append_nil]
    exact ⟨M, rfl, hJ⟩
  · rw [if_neg e]
    rw [qA_cons (show a < n0 by omega)] at hlen ⊢
    simp only [List.length_append] at hlen
    obtain ⟨M2, g1, g2⟩ := findB hN z0 z1 b0 b1 (show a < n0 by omega) N (a + 1) M L (by omega) (by omega) hJ (by omega)
    obtain ⟨M3, k1, k2⟩ := hf (a + 1) M2 (L ++ qBb n0 n1 a (a + 1)) (by omega) (by omega) g2 (by simp; omega)
    refine ⟨M3, ?_, by rw [List.append_assoc] at k2; exact k2⟩
    rw [g1]
    exact k1
theorem find_eq {M : Mem} {n0 n1 N : Nat} (hN : 9 ≤ N) (z0 : M.1 1 4 = nI n0) (z1 : M.1 6 4 = nI n1) (b0 : n0 ≤ 8) (b1 : n1 ≤ 8) (hk : M.1 16 2 = 0 ∨ (M.1 16 2 = 1 ∧ CellC M n0 n1)) : ∃ M2, fX4_find N M 1 6 = some M2 ∧ M2.1 16 2 = 1 ∧ CellC M2 n0 n1 ∧ (∀ k, k ≠ 16 → k ≠ 17 → M2.1 k = M.1 k) ∧ M2.2 = M.2 := by
  unfold fX4_find
  rcases hk with hk | ⟨hk, hC⟩
  · rw [if_pos hk, stZ_1]
    simp only [ob_some]
    rw [stZ_0]
    simp only [ob_some]
    have hJ : CJ M (setI (setI (setI M 16 2 1) 16 0 0) 16 1 0) n0 n1 [] := by
      refine ⟨by rw [setI_nk (by decide), setI_eq]; rfl, by rw [setI_eq]; rfl, fun k q h => by simp at h, by rw [setI_nk (by decide), setI_nk (by decide), setI_eq], fun k k1 k2 => by rw [setI_ne k1, setI_ne k1, setI_ne k1], rfl⟩
    obtain ⟨M2, g1, g2⟩ := findA hN z0 z1 b0 b1 N 0 _ [] (by omega) (by omega) hJ (by simpa using qA_len n0 (by omega) n1 (by omega))
    refine ⟨M2, g1, g2.2.2.2.1, ?_, g2.2.2.2.2.1, g2.2.2.2.2.2⟩
    have hc : ∀ c, 1 ≤ c → c ≤ 10 → M2.1 c = M.1 c := fun c c1 c2 => g2.2.2.2.2.1 c (by omega) (by omega)
    unfold CellC
    rw [clL_congr hc, isCr_congr hc]
    rw [List.nil_append] at g2
    exact ⟨g2.1, g2.2.1, g2.2.2.1⟩
  · rw [if_neg (by rw [hk]; decide)]
    exact ⟨M, rfl, hk, hC, fun _ _ _ => rfl, rfl⟩

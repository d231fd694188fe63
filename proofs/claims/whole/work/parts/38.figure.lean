/-! figures: points and corners in the rows of both -/
def sml (z : Int) : Prop := -1000000 ≤ z ∧ z ≤ 1000000
theorem if_ilt {α : Type} {a b : Int} (ha : sml a) (hb : sml b) (x y : α) : (if iI a < iI b then x else y) = if a < b then x else y := by
  unfold sml at *
  have e : iI a < iI b ↔ a < b := by rw [i_lt, iI_t (by omega) (by omega), iI_t (by omega) (by omega)]
  by_cases h : a < b
  · rw [if_pos h, if_pos (e.mpr h)]
  · rw [if_neg h, if_neg (fun q => h (e.mp q))]
theorem if_ile {α : Type} {a b : Int} (ha : sml a) (hb : sml b) (x y : α) : (if iI a ≤ iI b then x else y) = if a ≤ b then x else y := by
  unfold sml at *
  have e : iI a ≤ iI b ↔ a ≤ b := by rw [i_le, iI_t (by omega) (by omega), iI_t (by omega) (by omega)]
  by_cases h : a ≤ b
  · rw [if_pos h, if_pos (e.mpr h)]
  · rw [if_neg h, if_neg (fun q => h (e.mp q))]
theorem if_ieq {α : Type} {a b : Int} (ha : sml a) (hb : sml b) (x y : α) : (if iI a = iI b then x else y) = if a = b then x else y := by
  unfold sml at *
  have e : iI a = iI b ↔ a = b := by rw [i_eq, iI_t (by omega) (by omega), iI_t (by omega) (by omega)]
  by_cases h : a = b
  · rw [if_pos h, if_pos (e.mpr h)]
  · rw [if_neg h, if_neg (fun q => h (e.mp q))]
theorem z0 : (0 : Int32) = iI 0 := by decide
theorem sml0 : sml 0 := by unfold sml; omega
theorem if_ilt0 {α : Type} {a : Int} (ha : sml a) (x y : α) : (if iI a < 0 then x else y) = if a < 0 then x else y := by rw [z0, if_ilt ha sml0]
theorem if_i0lt {α : Type} {a : Int} (ha : sml a) (x y : α) : (if 0 < iI a then x else y) = if 0 < a then x else y := by rw [z0, if_ilt sml0 ha]
theorem if_ieq0 {α : Type} {a : Int} (ha : sml a) (x y : α) : (if iI a = 0 then x else y) = if a = 0 then x else y := by rw [z0, if_ieq ha sml0]
theorem if_i0le {α : Type} {a : Int} (ha : sml a) (x y : α) : (if 0 ≤ iI a then x else y) = if 0 ≤ a then x else y := by rw [z0, if_ile sml0 ha]
def Gp (cc cx cy pc : Nat) (M M0 : Mem) (px py : Nat → Int) (t : Nat) : Prop :=
  (∀ c, c ≠ cc → c ≠ cx → c ≠ cy → M.1 c = M0.1 c) ∧ M.1 cc pc = nI t ∧ ∀ s, s < t → M.1 cx s = iI (px s) ∧ M.1 cy s = iI (py s)
theorem Gp.put {cc cx cy pc : Nat} {M M0 : Mem} {px py : Nat → Int} {t : Nat} (h : Gp cc cx cy pc M M0 px py t) (d1 : cc ≠ cx) (d2 : cc ≠ cy) (d3 : cx ≠ cy) : Gp cc cx cy pc (setI (setI (setI M cx t (iI (px t))) cy t (iI (py t))) cc pc (nI (t + 1))) M0 px py (t + 1) := by
  obtain ⟨h1, h2, h3⟩ := h
  refine ⟨fun c a b e => ?_, setI_eq _ _ _ _, fun s hs => ?_⟩
  · rw [setI_ne a, setI_ne e, setI_ne b]; exact h1 c a b e
  · rw [setI_ne d1.symm, setI_ne d2.symm, setI_ne d3]
    by_cases q : s = t
    · subst q; rw [setI_eq, setI_eq]; exact ⟨rfl, rfl⟩
    · rw [setI_nk q, setI_nk q, setI_ne d3.symm]; exact h3 s (by omega)
theorem put_eq {M : Mem} {t : Nat} (ht : t < 64) (h : M.1 11 5 = nI t) (a b : Int32) : fX1_put M a b = some (setI (setI (setI M 14 t a) 15 t b) 11 5 (nI (t + 1))) := by
  unfold fX1_put
  rw [h, show (64 : Int32) = nI 64 from by decide, if_nle (by decide) (by omega), if_neg (by omega), stI_n ht (by decide)]
  simp only [ob_some]
  rw [setI_ne (by decide), h, stI_n ht (by decide)]
  simp only [ob_some]
  rw [setI_ne (by decide), setI_ne (by decide), h, nI_1]
theorem ob_self {α : Type} (x : Option α) : (x.bind fun a => some a) = x := by cases x <;> rfl
def fgx (E : Nat → Nat → Int32) (n1 w k : Nat) : Int := if w = 0 then (E 2 k).toInt else if w = 1 then (E 7 k).toInt else (E 2 (k / n1)).toInt + (E 7 (k % n1)).toInt
def fgy (E : Nat → Nat → Int32) (n1 w k : Nat) : Int := if w = 0 then (E 3 k).toInt else if w = 1 then (E 8 k).toInt else (E 3 (k / n1)).toInt + (E 8 (k % n1)).toInt
def fgn (n0 n1 w : Nat) : Nat := if w = 0 then n0 else if w = 1 then n1 else n0 * n1
theorem drawOne_eq {N : Nat} {M : Mem} {E : Nat → Nat → Int32} {bs n : Nat} (hN : 9 ≤ N) (hb : bs = 1 ∨ bs = 6) (hE : ∀ k, 1 ≤ k → k ≤ 10 → M.1 k = E k) (hn : E bs 4 = nI n) (hn8 : n ≤ 8) : ∃ M1, fX1_drawOne N M bs = fX1_wrap N M1 ∧ Gp 11 14 15 5 M1 M (fun t => (E (bs + 1) t).toInt) (fun t => (E (bs + 2) t).toInt) n := by
  have key := lp_rule (bot := fun _ _ => none) (step := sX1_drawOne_7 bs N) (fun m f => ∀ t M3, t ≤ n → n - t < m → Gp 11 14 15 5 M3 M (fun t => (E (bs + 1) t).toInt) (fun t => (E (bs + 2) t).toInt) t → ∃ M1, f (nI t) M3 = fX1_wrap N M1 ∧ Gp 11 14 15 5 M1 M (fun t => (E (bs + 1) t).toInt) (fun t => (E (bs + 2) t).toInt) n) (fun t M3 _ h => by omega) (by
    intro m f hf t M3 ht hm hG
    obtain ⟨g1, g2, g3⟩ := id hG
    have eb : ∀ k, 1 ≤ k → k ≤ 10 → M3.1 k = E k := fun k a b => by rw [g1 k (by omega) (by omega) (by omega)]; exact hE k a b
    unfold sX1_drawOne_7
    rw [eb bs (by omega) (by omega), hn, if_nle (by omega) (by omega), nI_1, ob_self]
    by_cases e : n ≤ t
    · rw [if_pos e]
      have : t = n := by omega
      subst this
      exact ⟨M3, rfl, hG⟩
    · rw [if_neg e, ldI_n (by omega) (by decide), ldI_n (by omega) (by decide), eb (bs + 1) (by omega) (by omega), eb (bs + 2) (by omega) (by omega)]
      simp only [ob_some]
      rw [put_eq (show t < 64 by omega) g2]
      simp only [ob_some]
      have hp := hG.put (by decide) (by decide) (by decide)
      simp only [iI_of] at hp
      exact hf (t + 1) _ (by omega) (by omega) hp) N 0 (setI M 11 5 0) (by omega) (by omega) ⟨fun c a b d => setI_ne a, setI_eq _ _ _ _, fun s hs => by omega⟩
  exact key
theorem divmod_at {n1 t s : Nat} (h : s < n1) : (t * n1 + s) / n1 = t ∧ (t * n1 + s) % n1 = s := by
  have hp : 0 < n1 := by omega
  rw [Nat.mul_comm]
  constructor
  · rw [Nat.mul_add_div hp, Nat.div_eq_of_lt h]; omega
  · rw [Nat.mul_add_mod, Nat.mod_eq_of_lt h]
theorem mul_bd8 {t n0 n1 s : Nat} (h0 : n0 ≤ 8) (h1 : n1 ≤ 8) (ht : t < n0) (hs : s < n1) : t * n1 + s < 64 := by
  have : t * n1 ≤ 7 * n1 := Nat.mul_le_mul_right _ (by omega)
  omega
theorem drawSum_eq {N : Nat} {M : Mem} {E : Nat → Nat → Int32} {n0 n1 : Nat} (hN : 9 ≤ N) (hE : ∀ k, 1 ≤ k → k ≤ 10 → M.1 k = E k) (hn0 : E 1 4 = nI n0) (hn1 : E 6 4 = nI n1) (h0 : n0 ≤ 8) (h1 : n1 ≤ 8) : ∃ M1, fX1_drawSum N M 1 6 = fX1_wrap N M1 ∧ Gp 11 14 15 5 M1 M (fgx E n1 2) (fgy E n1 2) (n0 * n1) := by
  have inner : ∀ t, t < n0 → ∀ m s M3, s ≤ n1 → n1 - s < m → Gp 11 14 15 5 M3 M (fgx E n1 2) (fgy E n1 2) (t * n1 + s) → ∃ M1, lp (fun _ _ => none) (sX1_drawSum_18 6 1 (nI t)) m (nI s) M3 = some M1 ∧ Gp 11 14 15 5 M1 M (fgx E n1 2) (fgy E n1 2) (t * n1 + n1) := by
    intro t ht
    refine lp_rule (bot := fun _ _ => none) (step := sX1_drawSum_18 6 1 (nI t)) (fun m f => ∀ s M3, s ≤ n1 → n1 - s < m → Gp 11 14 15 5 M3 M (fgx E n1 2) (fgy E n1 2) (t * n1 + s) → ∃ M1, f (nI s) M3 = some M1 ∧ Gp 11 14 15 5 M1 M (fgx E n1 2) (fgy E n1 2) (t * n1 + n1)) (fun s M3 _ h => by omega) ?_
    intro m f hf s M3 hs hm hG
    obtain ⟨g1, g2, g3⟩ := id hG
    have eb : ∀ k, 1 ≤ k → k ≤ 10 → M3.1 k = E k := fun k a b => by rw [g1 k (by omega) (by omega) (by omega)]; exact hE k a b
    unfold sX1_drawSum_18
    rw [eb 6 (by decide) (by decide), hn1, if_nle (by omega) (by omega), nI_1]
    by_cases e : n1 ≤ s
    · rw [if_pos e]
      have : s = n1 := by omega
      subst this
      exact ⟨M3, rfl, hG⟩
    · rw [if_neg e, ldI_n (by omega) (by decide), ldI_n (by omega) (by decide), ldI_n (by omega) (by decide), ldI_n (by omega) (by decide), eb (1 + 1) (by decide) (by decide), eb (6 + 1) (by decide) (by decide), eb (1 + 2) (by decide) (by decide), eb (6 + 2) (by decide) (by decide)]
      simp only [ob_some]
      rw [put_eq (mul_bd8 h0 h1 ht (show s < n1 by omega)) g2]
      simp only [ob_some]
      have hp := hG.put (by decide) (by decide) (by decide)
      obtain ⟨d1, d2⟩ := divmod_at (t := t) (show s < n1 by omega)
      have e1 : iI (fgx E n1 2 (t * n1 + s)) = E (1 + 1) t + E (6 + 1) s := by
        show iI ((E 2 ((t * n1 + s) / n1)).toInt + (E 7 ((t * n1 + s) % n1)).toInt) = _
        rw [d1, d2, ← iI_add, iI_of, iI_of]
      have e2 : iI (fgy E n1 2 (t * n1 + s)) = E (1 + 2) t + E (6 + 2) s := by
        show iI ((E 3 ((t * n1 + s) / n1)).toInt + (E 8 ((t * n1 + s) % n1)).toInt) = _
        rw [d1, d2, ← iI_add, iI_of, iI_of]
      rw [e1, e2] at hp
      exact hf (s + 1) _ (by omega) (by omega) hp
  have key := lp_rule (bot := fun _ _ => none) (step := sX1_drawSum_7 1 N 6) (fun m f => ∀ t M3, t ≤ n0 → n0 - t < m → Gp 11 14 15 5 M3 M (fgx E n1 2) (fgy E n1 2) (t * n1) → ∃ M1, f (nI t) M3 = fX1_wrap N M1 ∧ Gp 11 14 15 5 M1 M (fgx E n1 2) (fgy E n1 2) (n0 * n1)) (fun t M3 _ h => by omega) (by
    intro m f hf t M3 ht hm hG
    obtain ⟨g1, g2, g3⟩ := id hG
    unfold sX1_drawSum_7
    rw [g1 1 (by decide) (by decide) (by decide), hE 1 (by decide) (by decide), hn0, if_nle (by omega) (by omega), nI_1, ob_self]
    by_cases e : n0 ≤ t
    · rw [if_pos e]
      have : t = n0 := by omega
      subst this
      exact ⟨M3, rfl, hG⟩
    · rw [if_neg e]
      obtain ⟨M4, k1, k2⟩ := inner t (by omega) N 0 M3 (by omega) (by omega) hG
      rw [show (0 : Int32) = nI 0 from by decide, k1]
      simp only [ob_some]
      exact hf (t + 1) M4 (by omega) (by omega) (by rw [Nat.succ_mul]; exact k2)) N 0 (setI M 11 5 0) (by omega) (by omega) ⟨fun c a b d => setI_ne a, by rw [Nat.zero_mul]; exact setI_eq _ _ _ _, fun s hs => by omega⟩
  exact key
/-- the reference's points -/
theorem putY {M : Mem} {t : Nat} (ht : t < 64) (h : M.1 0 7 = nI t) (a : Int32) : stI M 6 64 (M.1 0 7) a = some (setI M 6 t a) := by rw [h, stI_n ht (by decide)]
theorem gatherOne {N : Nat} {M : Mem} {E : Nat → Nat → Int32} {bs o j n : Nat} (hN : 9 ≤ N) (hno : eqNo bs o j) (hn : M.1 5 j = nI n) (hn8 : n ≤ 8) (hM : ∀ t, t < n → M.1 1 (o + t) = E (bs + 1) t ∧ M.1 2 (o + t) = E (bs + 2) t) : ∃ M1, fX6_gather N M (nI j) = some M1 ∧ Gp 0 6 7 7 M1 M (fun t => (E (bs + 1) t).toInt) (fun t => (E (bs + 2) t).toInt) n := by
  have hj := hno.j
  have ho := hno.o
  have key := lp_rule (bot := fun _ _ => none) (step := sX6_gather_15 (nI j)) (fun m f => ∀ t M3, t ≤ n → n - t < m → Gp 0 6 7 7 M3 M (fun t => (E (bs + 1) t).toInt) (fun t => (E (bs + 2) t).toInt) t → ∃ M1, f (nI (o + t)) M3 = some M1 ∧ Gp 0 6 7 7 M1 M (fun t => (E (bs + 1) t).toInt) (fun t => (E (bs + 2) t).toInt) n) (fun t M3 _ h => by omega) (by
    intro m f hf t M3 ht hm hG
    obtain ⟨g1, g2, g3⟩ := id hG
    unfold sX6_gather_15
    rw [ldI_n hj (by decide), g1 5 (by decide) (by decide) (by decide), hn]
    simp only [ob_some]
    rw [e8, ← ho, if_nle (by omega) (by omega), nI_1]
    by_cases e : o + n ≤ o + t
    · rw [if_pos e]
      have : t = n := by omega
      subst this
      exact ⟨M3, rfl, hG⟩
    · rw [if_neg e]
      obtain ⟨z1, z2⟩ := hM t (by omega)
      rw [ldI_n (by omega) (by decide), g1 1 (by decide) (by decide) (by decide), z1]
      simp only [ob_some]
      rw [g2, stI_n (by omega) (by decide)]
      simp only [ob_some]
      rw [ldI_n (by omega) (by decide), setI_ne (show (2 : Nat) ≠ 6 by decide), g1 2 (by decide) (by decide) (by decide), z2]
      simp only [ob_some]
      rw [setI_ne (show (0 : Nat) ≠ 6 by decide), g2, stI_n (by omega) (by decide)]
      simp only [ob_some]
      rw [setI_ne (show (0 : Nat) ≠ 7 by decide), setI_ne (show (0 : Nat) ≠ 6 by decide), g2, nI_1]
      have hp := hG.put (by decide) (by decide) (by decide)
      simp only [iI_of] at hp
      exact hf (t + 1) _ (by omega) (by omega) hp) N 0 (setI M 0 7 0) (by omega) (by omega) ⟨fun c a b d => setI_ne a, setI_eq _ _ _ _, fun s hs => by omega⟩
  obtain ⟨M1, k1, k2⟩ := key
  refine ⟨M1, ?_, k2⟩
  unfold fX6_gather
  simp only [ob_some]
  rw [show (2 : Int32) = nI 2 from by decide, if_nle (by decide) (by omega), if_neg (by omega)]
  rw [show (8 : Int32) * nI j = nI (o + 0) from by rw [ho, show (8 : Int32) = nI 8 from by decide, show nI 8 * nI j = nI (8 * j) from (Int32.ofNat_mul 8 j).symm, Nat.add_zero]]
  exact k1
theorem gatherSum {N : Nat} {M : Mem} {E : Nat → Nat → Int32} {n0 n1 : Nat} (hN : 9 ≤ N) (hY : YQ M E n0 n1) (h0 : n0 ≤ 8) (h1 : n1 ≤ 8) : ∃ M1, fX6_gather N M (nI 2) = some M1 ∧ Gp 0 6 7 7 M1 M (fgx E n1 2) (fgy E n1 2) (n0 * n1) := by
  obtain ⟨⟨y1, y2⟩, y3, y4⟩ := hY
  have inner : ∀ t, t < n0 → ∀ m s M3, s ≤ n1 → n1 - s < m → Gp 0 6 7 7 M3 M (fgx E n1 2) (fgy E n1 2) (t * n1 + s) → ∃ M1, lp (fun _ _ => none) (sX6_gather_92 (nI t)) m (nI (8 + s)) M3 = some M1 ∧ Gp 0 6 7 7 M1 M (fgx E n1 2) (fgy E n1 2) (t * n1 + n1) := by
    intro t ht
    refine lp_rule (bot := fun _ _ => none) (step := sX6_gather_92 (nI t)) (fun m f => ∀ s M3, s ≤ n1 → n1 - s < m → Gp 0 6 7 7 M3 M (fgx E n1 2) (fgy E n1 2) (t * n1 + s) → ∃ M1, f (nI (8 + s)) M3 = some M1 ∧ Gp 0 6 7 7 M1 M (fgx E n1 2) (fgy E n1 2) (t * n1 + n1)) (fun s M3 _ h => by omega) ?_
    intro m f hf s M3 hs hm hG
    obtain ⟨g1, g2, g3⟩ := id hG
    unfold sX6_gather_92
    have l0 : ldI M3 5 2 (1 : Int32) = some (nI n1) := by rw [i1, ldI_n (by decide) (by decide), g1 5 (by decide) (by decide) (by decide), y3]
    rw [l0]
    simp only [ob_some]
    rw [show (8 : Int32) + nI n1 = nI (8 + n1) from by rw [show (8 : Int32) = nI 8 from by decide, nI_add], if_nle (by omega) (by omega), nI_1]
    by_cases e : 8 + n1 ≤ 8 + s
    · rw [if_pos e]
      have : s = n1 := by omega
      subst this
      exact ⟨M3, rfl, hG⟩
    · rw [if_neg e]
      obtain ⟨a1, a2, -⟩ := y2 t ht
      obtain ⟨b1, b2, -⟩ := y4 s (by omega)
      rw [Nat.zero_add] at a1 a2
      have hlt := mul_bd8 h0 h1 ht (show s < n1 by omega)
      rw [ldI_n (by omega) (by decide), ldI_n (by omega) (by decide), g1 1 (by decide) (by decide) (by decide), a1, b1]
      simp only [ob_some]
      rw [g2, stI_n hlt (by decide)]
      simp only [ob_some]
      rw [ldI_n (by omega) (by decide), ldI_n (by omega) (by decide), setI_ne (show (2 : Nat) ≠ 6 by decide), g1 2 (by decide) (by decide) (by decide), a2, b2]
      simp only [ob_some]
      rw [setI_ne (show (0 : Nat) ≠ 6 by decide), g2, stI_n hlt (by decide)]
      simp only [ob_some]
      rw [setI_ne (show (0 : Nat) ≠ 7 by decide), setI_ne (show (0 : Nat) ≠ 6 by decide), g2, nI_1]
      have hp := hG.put (by decide) (by decide) (by decide)
      obtain ⟨d1, d2⟩ := divmod_at (t := t) (show s < n1 by omega)
      have e1 : iI (fgx E n1 2 (t * n1 + s)) = E (1 + 1) t + E (6 + 1) s := by
        show iI ((E 2 ((t * n1 + s) / n1)).toInt + (E 7 ((t * n1 + s) % n1)).toInt) = _
        rw [d1, d2, ← iI_add, iI_of, iI_of]
      have e2 : iI (fgy E n1 2 (t * n1 + s)) = E (1 + 2) t + E (6 + 2) s := by
        show iI ((E 3 ((t * n1 + s) / n1)).toInt + (E 8 ((t * n1 + s) % n1)).toInt) = _
        rw [d1, d2, ← iI_add, iI_of, iI_of]
      rw [e1, e2] at hp
      exact hf (s + 1) _ (by omega) (by omega) hp
  have key := lp_rule (bot := fun _ _ => none) (step := sX6_gather_79 N) (fun m f => ∀ t M3, t ≤ n0 → n0 - t < m → Gp 0 6 7 7 M3 M (fgx E n1 2) (fgy E n1 2) (t * n1) → ∃ M1, f (nI t) M3 = some M1 ∧ Gp 0 6 7 7 M1 M (fgx E n1 2) (fgy E n1 2) (n0 * n1)) (fun t M3 _ h => by omega) (by
    intro m f hf t M3 ht hm hG
    obtain ⟨g1, g2, g3⟩ := id hG
    unfold sX6_gather_79
    have l0 : ldI M3 5 2 (0 : Int32) = some (nI n0) := by rw [i0, ldI_n (by decide) (by decide), g1 5 (by decide) (by decide) (by decide), y1]
    rw [l0]
    simp only [ob_some]
    rw [if_nle (by omega) (by omega), nI_1]
    by_cases e : n0 ≤ t
    · rw [if_pos e]
      have : t = n0 := by omega
      subst this
      exact ⟨M3, rfl, hG⟩
    · rw [if_neg e]
      obtain ⟨M4, k1, k2⟩ := inner t (by omega) N 0 M3 (by omega) (by omega) hG
      rw [show (8 : Int32) = nI (8 + 0) from by decide, k1]
      simp only [ob_some]
      exact hf (t + 1) M4 (by omega) (by omega) (by rw [Nat.succ_mul]; exact k2)) N 0 (setI M 0 7 0) (by omega) (by omega) ⟨fun c a b d => setI_ne a, by rw [Nat.zero_mul]; exact setI_eq _ _ _ _, fun s hs => by omega⟩
  obtain ⟨M1, k1, k2⟩ := key
  refine ⟨M1, ?_, k2⟩
  unfold fX6_gather
  simp only [ob_some]
  rw [show (2 : Int32) = nI 2 from by decide, if_nle (by decide) (by decide), if_pos (by decide)]
  exact k1

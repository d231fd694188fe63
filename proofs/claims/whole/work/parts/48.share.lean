/-! the class's answer by one prime -/
def StC (M M0 : Mem) (f g f0 g0 : Nat → Int) (s t p : Nat) : Prop := RowC M 19 f p ∧ RowC M 20 g p ∧ Sz f s ∧ Sz g t ∧ Eqv p f g f0 g0 ∧ 1 ≤ s + t ∧ M.1 = M0.1
theorem Sz.le {f : Nat → Int} {k s : Nat} (h : Sz f k) (hz : ∀ n, s ≤ n → f n = 0) : k ≤ s := by
  rcases Nat.lt_or_ge s k with c | c
  · exact absurd (hz (k - 1) (by omega)) (h.2.2 (by omega))
  · exact c
theorem i28 {c : Nat} (h : c ≤ 20) : ¬ (28 : Int32) ≤ nI c := by
  rw [i_le, nI_tI (by omega)]
  have : (28 : Int32).toInt = 28 := rfl
  omega
theorem shareLoop {N : Nat} {M0 : Mem} {f0 g0 : Nat → Int} {p : Nat} (hN : 20 ≤ N) (hp : Pr p) (hp9 : p ≤ 1000000009) : ∀ (c s t : Nat) (f g : Nat → Int) (M : Mem), c + s + t ≤ 14 → StC M M0 f g f0 g0 s t p → ∃ (s2 t2 : Nat) (f2 g2 : Nat → Int) (M2 : Mem), lp (fun _ _ _ _ => none) (sX2_shareRootBy_22 N (jI p)) N (iI ((s : Int) - 1)) (iI ((t : Int) - 1)) (nI c) M = some (iI ((s2 : Int) - 1), iI ((t2 : Int) - 1), M2) ∧ StC M2 M0 f2 g2 f0 g0 s2 t2 p ∧ (s2 = 0 ∨ t2 = 0) := by
  have hp1 := hp.1
  have key := lp_rule (bot := fun _ _ _ _ => none) (step := sX2_shareRootBy_22 N (jI p)) (fun w fc => ∀ (c s t : Nat) (f g : Nat → Int) (M : Mem), c + s + t ≤ 14 → s + t < w → StC M M0 f g f0 g0 s t p → ∃ (s2 t2 : Nat) (f2 g2 : Nat → Int) (M2 : Mem), fc (iI ((s : Int) - 1)) (iI ((t : Int) - 1)) (nI c) M = some (iI ((s2 : Int) - 1), iI ((t2 : Int) - 1), M2) ∧ StC M2 M0 f2 g2 f0 g0 s2 t2 p ∧ (s2 = 0 ∨ t2 = 0)) (fun c s t f g M _ h => by omega) (by
    intro w fc hc c s t f g M hst hw hS
    obtain ⟨rf, rg, zf, zg, hE, h1, h0⟩ := id hS
    have s7 := zf.1
    have t7 := zg.1
    unfold sX2_shareRootBy_22
    rw [if_neg (i28 (by omega)), if_ilt0 (by unfold sml; omega), if_ilt0 (by unfold sml; omega), if_ilt (by unfold sml; omega) (by unfold sml; omega), nI_1]
    rcases Nat.eq_zero_or_pos s with z | z
    · rw [if_pos (by omega)]
      exact ⟨s, t, f, g, M, rfl, hS, Or.inl z⟩
    · rw [if_neg (by omega)]
      rcases Nat.eq_zero_or_pos t with y | y
      · rw [if_pos (by omega)]
        exact ⟨s, t, f, g, M, rfl, hS, Or.inr y⟩
      · rw [if_neg (by omega)]
        by_cases c1 : (s : Int) - 1 < (t : Int) - 1
        · rw [if_pos c1, iI_pred y]
          have lw := lower_eq (N := N) (M := M) (a1 := 20) (a3 := 19) (p := p) (s := t - 1) (t := s - 1) (f := g) (g := f) (by omega) hp1 hp9 (by decide) rg rf (by omega) (by omega) (fun n hn => zg.2.1 n (by omega)) (fun n hn => zf.2.1 n (by omega))
          obtain ⟨M2, l1, l2, l3, l4⟩ := lw
          obtain ⟨r1, r2, r3⟩ := lowR_ok (f := g) (g := f) (p := p) (s := t - 1) (t := s - 1) (by omega) (by omega) (by omega) (fun n hn => zg.2.1 n (by omega)) (fun n hn => zf.2.1 n (by omega))
          obtain ⟨k, k1, k2⟩ := degree_eq (N := N) (by omega) (by omega) l2
          have kk := k2.le r2
          rw [iI_pred z, l1]
          simp only [ob_some]
          rw [k1]
          simp only [ob_some]
          rw [← iI_pred z]
          have nd : ¬ (p : Int) ∣ f (s - 1) := lt_nd (zf.2.2 z) (rf.2.2 _).1 (rf.2.2 _).2
          exact hc (c + 1) s k f _ M2 (by omega) (by omega) ⟨l3, l2, zf, k2, (hE.swap.step hp nd (by omega) (fun n hn => zf.2.1 n (by omega)) r1).swap, by omega, by rw [l4, h0]⟩
        · rw [if_neg c1, iI_pred z]
          have lw := lower_eq (N := N) (M := M) (a1 := 19) (a3 := 20) (p := p) (s := s - 1) (t := t - 1) (f := f) (g := g) (by omega) hp1 hp9 (by decide) rf rg (by omega) (by omega) (fun n hn => zf.2.1 n (by omega)) (fun n hn => zg.2.1 n (by omega))
          obtain ⟨M2, l1, l2, l3, l4⟩ := lw
          obtain ⟨r1, r2, r3⟩ := lowR_ok (f := f) (g := g) (p := p) (s := s - 1) (t := t - 1) (by omega) (by omega) (by omega) (fun n hn => zf.2.1 n (by omega)) (fun n hn => zg.2.1 n (by omega))
          obtain ⟨k, k1, k2⟩ := degree_eq (N := N) (by omega) (by omega) l2
          have kk := k2.le r2
          rw [iI_pred y, l1]
          simp only [ob_some]
          rw [k1]
          simp only [ob_some]
          rw [← iI_pred y]
          have nd : ¬ (p : Int) ∣ g (t - 1) := lt_nd (zg.2.2 y) (rg.2.2 _).1 (rg.2.2 _).2
          exact hc (c + 1) k t _ g M2 (by omega) (by omega) ⟨l2, l3, k2, zg, hE.step hp nd (by omega) (fun n hn => zg.2.1 n (by omega)) r1, by omega, by rw [l4, h0]⟩) N
  exact fun c s t f g M a b => key c s t f g M a (by omega) b
theorem share_eq {N : Nat} {M : Mem} {f0 g0 : Nat → Int} {p n0 : Nat} (hN : 20 ≤ N) (hp : Pr p) (hp9 : p ≤ 1000000009) (hf : RowC M 19 f0 p) (hg : RowC M 20 g0 p) (hn : f0 n0 ≠ 0) : ∃ (r : Bool) (M2 : Mem), fX2_shareRootBy N M (jI p) = some (bz r, M2) ∧ M2.1 = M.1 ∧ (r = true → YesP p f0 g0) ∧ (r = false → NoP p f0 g0) := by
  obtain ⟨s, s1, s2⟩ := degree_eq (N := N) (by omega) (by omega) hf
  obtain ⟨t, t1, t2⟩ := degree_eq (N := N) (by omega) (by omega) hg
  have s0 : 1 ≤ s := by
    rcases Nat.eq_zero_or_pos s with z | z
    · exact absurd (s2.2.1 n0 (by omega)) hn
    · exact z
  have a7 := s2.1
  have b7 := t2.1
  obtain ⟨u, v, f, g, M2, k1, ⟨rf, rg, zf, zg, hE, h1, h0⟩, k3⟩ := shareLoop (M0 := M) hN hp hp9 0 s t f0 g0 M (by omega) ⟨hf, hg, s2, t2, Eqv.refl _ _ _, by omega, rfl⟩
  have u7 := zf.1
  have v7 := zg.1
  unfold fX2_shareRootBy
  rw [s1, t1]
  simp only [ob_some]
  rw [show (0 : Int32) = nI 0 from rfl, k1]
  simp only [ob_some]
  rw [if_ilt (by unfold sml; omega) (by unfold sml; omega)]
  have mx : (if (u : Int) - 1 < (v : Int) - 1 then iI ((v : Int) - 1) else iI ((u : Int) - 1)) = iI ((u : Int) + v - 1) := by
    rcases k3 with w | w
    · subst w
      by_cases c : ((0 : Nat) : Int) - 1 < (v : Int) - 1
      · rw [if_pos c]; congr 1; omega
      · rw [if_neg c]; congr 1; omega
    · subst w
      rw [if_neg (by omega)]; congr 1
  rw [mx, show nI 0 = iI 0 from rfl, if_ile (by unfold sml; omega) sml0, show iI 0 = (0 : Int32) from rfl, okZM_0, okZM_1]
  by_cases c : (u : Int) + v - 1 ≤ 0
  · rw [if_pos c]
    refine ⟨false, M2, rfl, h0, fun q => absurd q (by decide), fun _ => ?_⟩
    rcases k3 with w | w
    · subst w
      exact (end_row hp hE (fun n => zf.2.1 n (by omega)) zg (by omega) rg.2.2).2 (by omega)
    · subst w
      exact ((end_row hp hE.swap (fun n => zg.2.1 n (by omega)) zf (by omega) rf.2.2).2 (by omega)).symm
  · rw [if_neg c]
    refine ⟨true, M2, rfl, h0, fun _ => ?_, fun q => absurd q (by decide)⟩
    rcases k3 with w | w
    · subst w
      exact (end_row hp hE (fun n => zf.2.1 n (by omega)) zg (by omega) rg.2.2).1 (by omega)
    · subst w
      obtain ⟨x, x0, x1, x2⟩ := (end_row hp hE.swap (fun n => zg.2.1 n (by omega)) zf (by omega) rf.2.2).1 (by omega)
      exact ⟨x, x0, x2, x1⟩

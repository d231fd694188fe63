/-! the reference's way down -/
theorem Eqv.comm {p : Nat} {f g f0 g0 : Nat → Int} (h : Eqv p f g f0 g0) : Eqv p g f f0 g0 := fun I hI => by rw [and_comm, h I hI]
def RwY (M : Mem) (w : Nat) (f : Nat → Int) (k p : Nat) : Prop := (∀ n, n < 7 → M.2 10 (7 * w + n) = jI (f n)) ∧ (∀ n, 0 ≤ f n ∧ f n < (p : Int)) ∧ Sz f k ∧ M.1 11 w = iI ((k : Int) - 1)
theorem e7 {w t : Nat} : (7 : Int32) * nI w + nI t = nI (7 * w + t) := by
  rw [nI_iI, nI_iI, nI_iI, show (7 : Int32) = iI 7 by decide, iI_mul, iI_add]
  congr 1
def rdv (x y p : Int) : Int := if x - y < 0 then x - y + p else x - y
theorem rdv_ok {x y : Int} {p : Int} (hx : 0 ≤ x ∧ x < p) (hy : 0 ≤ y ∧ y < p) : (0 ≤ rdv x y p ∧ rdv x y p < p) ∧ p ∣ rdv x y p - (x - y) := by
  unfold rdv
  split
  · exact ⟨by omega, 1, by omega⟩
  · exact ⟨by omega, 0, by omega⟩
def redR (f g : Nat → Int) (p s t : Nat) (v : Int) (m : Nat) : Int := if s - t ≤ m ∧ m < s then rdv (f m) ((v * g (m - (s - t))).tmod p) p else f m
theorem tmod_nn {a : Int} {p : Nat} (ha : 0 ≤ a) (hp : 0 < p) : 0 ≤ a.tmod p ∧ a.tmod p < (p : Int) := by
  exact ⟨Int.tmod_nonneg _ ha, (tmod_bd a hp).2⟩
theorem redR_ok {f g : Nat → Int} {p s t : Nat} {v : Int} (hp : Pr p) (hs : s ≤ 7) (ht : t ≤ s) (h1 : 1 ≤ t) (bf : ∀ n, 0 ≤ f n ∧ f n < (p : Int)) (bg : ∀ n, 0 ≤ g n ∧ g n < (p : Int)) (hf : ∀ n, s ≤ n → f n = 0) (hg : ∀ n, t ≤ n → g n = 0) (hv : 0 ≤ v) (hl : (p : Int) ∣ f (s - 1) - v * g (t - 1)) : (∀ n, (p : Int) ∣ redR f g p s t v n - (1 * f n - v * shf (s - t) g n)) ∧ (∀ n, s - 1 ≤ n → redR f g p s t v n = 0) ∧ (∀ n, 0 ≤ redR f g p s t v n ∧ redR f g p s t v n < (p : Int)) := by
  have hp1 := hp.1
  have bd : ∀ n, 0 ≤ redR f g p s t v n ∧ redR f g p s t v n < (p : Int) := by
    intro n
    unfold redR
    by_cases c : s - t ≤ n ∧ n < s
    · rw [if_pos c]
      exact (rdv_ok (bf n) (tmod_nn (Int.mul_nonneg hv (bg _).1) (by omega))).1
    · rw [if_neg c]; exact bf n
  have dv : ∀ n, (p : Int) ∣ redR f g p s t v n - (1 * f n - v * shf (s - t) g n) := by
    intro n
    unfold redR
    by_cases c : s - t ≤ n ∧ n < s
    · rw [if_pos c]
      have q1 := (rdv_ok (bf n) (tmod_nn (Int.mul_nonneg hv (bg (n - (s - t))).1) (show 0 < p by omega))).2
      have q2 := tmod_dv (v * g (n - (s - t))) p
      have e : shf (s - t) g n = g (n - (s - t)) := by unfold shf; rw [if_neg (by omega)]
      rw [e]
      have := Int.dvd_sub q1 q2
      have e2 : rdv (f n) ((v * g (n - (s - t))).tmod p) p - (f n - (v * g (n - (s - t))).tmod p) - ((v * g (n - (s - t))).tmod p - v * g (n - (s - t))) = rdv (f n) ((v * g (n - (s - t))).tmod p) p - (1 * f n - v * g (n - (s - t))) := by omega
      rw [e2] at this
      exact this
    · rw [if_neg c]
      have e : v * shf (s - t) g n = 0 := by
        unfold shf
        by_cases c2 : n < s - t
        · rw [if_pos c2, Int.mul_zero]
        · rw [if_neg c2, hg _ (by omega), Int.mul_zero]
      rw [e]
      exact ⟨0, by omega⟩
  refine ⟨dv, fun n hn => ?_, bd⟩
  rcases Nat.eq_or_lt_of_le hn with q | q
  · have d := dv n
    have e : shf (s - t) g n = g (t - 1) := by
      unfold shf
      rw [if_neg (by omega)]
      congr 1
      omega
    rw [e, ← q] at d
    rw [← q]
    have d2 := Int.dvd_add d hl
    have e2 : redR f g p s t v (s - 1) - (1 * f (s - 1) - v * g (t - 1)) + (f (s - 1) - v * g (t - 1)) = redR f g p s t v (s - 1) := by omega
    rw [e2] at d2
    have b := bd (s - 1)
    exact Classical.byContradiction fun c => lt_nd c (by omega) b.2 d2
  · unfold redR
    rw [if_neg (by omega)]
    exact hf n (by omega)
theorem red83 {N : Nat} {M : Mem} {w w2 p s t : Nat} {f g : Nat → Int} {v : Int} (hN : 10 ≤ N) (hp0 : 1 < p) (hp : p ≤ 2147483648) (hw : w < 2) (hw2 : w2 < 2) (hne : w2 ≠ w) (hf : RwY M w f s p) (hg : RwY M w2 g t p) (ht : t ≤ s) (h1 : 1 ≤ t) (hv : 0 ≤ v ∧ v < (p : Int)) : ∃ M2, lp (fun _ _ => none) (sX6_reduce_83 (nI w2) (nI w) (iI ((s : Int) - 1)) (iI ((t : Int) - 1)) (jI v) (jI p)) N (0 : Int32) M = some M2 ∧ (∀ n, n < 7 → M2.2 10 (7 * w + n) = jI (redR f g p s t v n)) ∧ (∀ n, n < 7 → M2.2 10 (7 * w2 + n) = jI (g n)) ∧ M2.1 = M.1 := by
  obtain ⟨f1, f2, f3, f4⟩ := hf
  obtain ⟨g1, g2, g3, g4⟩ := hg
  have s7 := f3.1
  have st : iI ((s : Int) - 1) - iI ((t : Int) - 1) = nI (s - t) := by
    rw [iI_sub, nI_iI]; congr 1; omega
  have key := lp_rule (bot := fun _ _ => none) (step := sX6_reduce_83 (nI w2) (nI w) (iI ((s : Int) - 1)) (iI ((t : Int) - 1)) (jI v) (jI p)) (fun u fc => ∀ (k : Nat) (M4 : Mem), k ≤ t → t - k < u → (∀ n, n < 7 → M4.2 10 (7 * w + n) = jI (if n < s - t + k then redR f g p s t v n else f n)) → (∀ n, n < 7 → M4.2 10 (7 * w2 + n) = jI (g n)) → M4.1 = M.1 → ∃ M2, fc (nI k) M4 = some M2 ∧ (∀ n, n < 7 → M2.2 10 (7 * w + n) = jI (if n < s - t + t then redR f g p s t v n else f n)) ∧ (∀ n, n < 7 → M2.2 10 (7 * w2 + n) = jI (g n)) ∧ M2.1 = M.1) (fun k M4 _ h => by omega) (by
    intro u fc hc k M4 hk hu m1 m3 m0
    unfold sX6_reduce_83
    rw [ldI_n hw2 (by decide), m0, g4, iI_pred h1]
    simp only [ob_some]
    rw [← iI_pred h1, st, iI_pred h1, if_nlt (by omega) (by omega), nI_1]
    by_cases e : t - 1 < k
    · rw [if_pos e]
      have : k = t := by omega
      subst this
      exact ⟨M4, rfl, m1, m3, m0⟩
    · rw [if_neg e, e7, e7]
      have ix : nI (7 * w + k) + nI (s - t) = nI (7 * w + (s - t + k)) := by
        rw [nI_iI, nI_iI, nI_iI, iI_add]; congr 1; omega
      rw [ix, ldL_n (by omega) (by decide), ldL_n (by omega) (by decide), m1 _ (by omega), m3 k (by omega), if_neg (by omega)]
      simp only [ob_some]
      have pp : (p : Int) * p ≤ 2147483648 * 2147483648 := Int.mul_le_mul (by omega) (by omega) (by omega) (by omega)
      have bg := g2 k
      have bb := mul_lt (a := v) (b := g k) (P := p) (by omega) (by omega)
      have nn := Int.mul_nonneg hv.1 bg.1
      rw [jI_mul, rmL_eq (by omega) (by omega) (by omega) (by omega)]
      simp only [ob_some]
      have tb := tmod_nn nn (show 0 < p by omega)
      have fb := f2 (s - t + k)
      have rd : (if jI (f (s - t + k)) - jI ((v * g k).tmod p) < (0 : Int64) then some (jI (f (s - t + k)) - jI ((v * g k).tmod p) + jI p) else some (jI (f (s - t + k)) - jI ((v * g k).tmod p))) = some (jI (rdv (f (s - t + k)) ((v * g k).tmod p) p)) := by
        unfold rdv
        rw [jI_sub, jI_add]
        have q : jI (f (s - t + k) - (v * g k).tmod p) < (0 : Int64) ↔ f (s - t + k) - (v * g k).tmod p < 0 := by
          rw [l_lt, jI_t (by omega) (by omega)]
          rfl
        by_cases c : f (s - t + k) - (v * g k).tmod p < 0
        · rw [if_pos (q.mpr c), if_pos c]
        · rw [if_neg (fun z => c (q.mp z)), if_neg c]
      rw [rd]
      simp only [ob_some]
      rw [stL_n (by omega) (by decide)]
      simp only [ob_some]
      have lr : redR f g p s t v (s - t + k) = rdv (f (s - t + k)) ((v * g k).tmod p) p := by
        unfold redR
        rw [if_pos (by omega)]
        have : s - t + k - (s - t) = k := by omega
        rw [this]
      refine hc (k + 1) _ (by omega) (by omega) (fun n hn => ?_) (fun n hn => ?_) m0
      · by_cases q : n = s - t + k
        · subst q
          rw [setL_eq, if_pos (by omega), lr]
        · rw [setL_nk (by omega), m1 n hn]
          by_cases q2 : n < s - t + k
          · rw [if_pos q2, if_pos (by omega)]
          · rw [if_neg q2, if_neg (by omega)]
      · rw [setL_nk (by omega)]; exact m3 n hn) N 0 M (by omega) (by omega) (fun n hn => by
        rw [f1 n hn]
        by_cases c : n < s - t + 0
        · rw [if_pos c]
          unfold redR
          rw [if_neg (by omega)]
        · rw [if_neg c]) g1 rfl
  obtain ⟨M2, k1, k2, k3, k4⟩ := key
  refine ⟨M2, k1, fun n hn => ?_, k3, k4⟩
  rw [k2 n hn]
  by_cases q : n < s - t + t
  · rw [if_pos q]
  · rw [if_neg q]
    unfold redR
    rw [if_neg (by omega)]
theorem red166 {N : Nat} {M : Mem} {w w2 p k0 : Nat} {f : Nat → Int} (hN : 10 ≤ N) (hp : p ≤ 2147483648) (hw : w < 2) (hne : w2 ≠ w) (h1 : ∀ n, n < 7 → M.2 10 (7 * w + n) = jI (f n)) (hb : ∀ n, 0 ≤ f n ∧ f n < (p : Int)) (hk0 : k0 ≤ 7) (hz0 : ∀ n, k0 ≤ n → f n = 0) (hd : M.1 11 w = iI ((k0 : Int) - 1)) : ∃ (k2 : Nat) (M2 : Mem), lp (fun _ => none) (sX6_reduce_166 (nI w)) N M = some M2 ∧ RwY M2 w f k2 p ∧ M2.2 = M.2 ∧ (∀ c, c ≠ 11 → M2.1 c = M.1 c) ∧ M2.1 11 w2 = M.1 11 w2 := by
  have key := lp_rule (bot := fun _ => none) (step := sX6_reduce_166 (nI w)) (fun u fc => ∀ (k : Nat) (M4 : Mem), k ≤ 7 → k < u → (∀ n, k ≤ n → f n = 0) → M4.1 11 w = iI ((k : Int) - 1) → M4.2 = M.2 → (∀ c, c ≠ 11 → M4.1 c = M.1 c) → M4.1 11 w2 = M.1 11 w2 → ∃ (k2 : Nat) (M2 : Mem), fc M4 = some M2 ∧ RwY M2 w f k2 p ∧ M2.2 = M.2 ∧ (∀ c, c ≠ 11 → M2.1 c = M.1 c) ∧ M2.1 11 w2 = M.1 11 w2) (fun k M4 _ h => by omega) (by
    intro u fc hc k M4 hk hu hz md m2 mc mw
    unfold sX6_reduce_166
    rw [ldI_n hw (by decide), md]
    simp only [ob_some]
    rw [if_ilt0 (by unfold sml; omega)]
    rcases Nat.eq_zero_or_pos k with z | z
    · rw [if_pos (by omega)]
      exact ⟨k, M4, rfl, ⟨fun n hn => by rw [m2]; exact h1 n hn, hb, ⟨hk, hz, fun q => by omega⟩, md⟩, m2, mc, mw⟩
    · rw [if_neg (by omega), iI_pred z, e7, ldL_n (by omega) (by decide), m2, h1 _ (by omega)]
      simp only [ob_some]
      have b := hb (k - 1)
      by_cases c0 : f (k - 1) = 0
      · rw [c0, if_pos (by decide)]
        have e : nI (k - 1) - 1 = iI (((k - 1 : Nat) : Int) - 1) := by
          rw [nI_iI, iI_1, iI_sub]
        rw [e, stI_n hw (by decide)]
        simp only [ob_some]
        refine hc (k - 1) _ (by omega) (by omega) (fun n hn => ?_) (setI_eq _ _ _ _) m2 (fun c hc => by rw [setI_ne hc]; exact mc c hc) (by rw [setI_nk hne]; exact mw)
        rcases Nat.eq_or_lt_of_le hn with q | q
        · rw [← q]; exact c0
        · exact hz n (by omega)
      · rw [if_neg (fun q => c0 ((jI_0 (by omega) (by omega)).mp q))]
        exact ⟨k, M4, rfl, ⟨fun n hn => by rw [m2]; exact h1 n hn, hb, ⟨hk, hz, fun _ => c0⟩, md⟩, m2, mc, mw⟩) N k0 M hk0 (by omega) hz0 hd rfl (fun _ _ => rfl) rfl
  exact key
theorem reduce_eq {N : Nat} {M : Mem} {w w2 p s t : Nat} {f g : Nat → Int} (hN : 50 ≤ N) (hP : Pr p) (hp : p ≤ 2147483648) (hw : w < 2) (hw2 : w2 < 2) (hne : w2 ≠ w) (hf : RwY M w f s p) (hg : RwY M w2 g t p) (h1 : 1 ≤ t) : ∃ (f2 : Nat → Int) (s2 : Nat) (M2 : Mem), fX6_reduce N M (nI w) (nI w2) (jI p) = some M2 ∧ RwY M2 w f2 s2 p ∧ RwY M2 w2 g t p ∧ s2 < t ∧ Eqv p f2 g f g ∧ ∀ c, c ≠ 11 → M2.1 c = M.1 c := by
  have hp1 := hP.1
  obtain ⟨g1, g2, g3, g4⟩ := id hg
  have t7 := g3.1
  have gb := g2 (t - 1)
  unfold fX6_reduce
  rw [ldI_n hw2 (by decide), g4, iI_pred h1]
  simp only [ob_some]
  rw [e7, ldL_n (by omega) (by decide), g1 _ (by omega)]
  simp only [ob_some]
  have en : g (t - 1) = (((g (t - 1)).toNat : Nat) : Int) := by omega
  have ep : jI p - (2 : Int64) = jI ((p - 2 : Nat) : Int) := by
    rw [show (2 : Int64) = jI 2 by decide, jI_sub]; congr 1; omega
  rw [ep, en, power_eq (by omega) hp1 hp (by omega) (by omega)]
  simp only [ob_some]
  have nd : ¬ (p : Int) ∣ g (t - 1) := lt_nd (g3.2.2 (by omega)) (by omega) gb.2
  have fm : (p : Int) ∣ g (t - 1) * (((g (t - 1)).toNat ^ (p - 2) % p : Nat) : Int) - 1 := by
    have q := fermat hP (x := (g (t - 1)).toNat) (by rw [← en]; exact nd)
    rw [← en] at q
    have e : ((((g (t - 1)).toNat ^ (p - 2) % p : Nat)) : Int) = (((g (t - 1)).toNat ^ (p - 2) : Nat) : Int) - (p : Int) * ((((g (t - 1)).toNat ^ (p - 2)) / p : Nat) : Int) := by
      have := Nat.div_add_mod ((g (t - 1)).toNat ^ (p - 2)) p
      have h2 : ((((g (t - 1)).toNat ^ (p - 2) : Nat)) : Int) = (p : Int) * ((((g (t - 1)).toNat ^ (p - 2)) / p : Nat) : Int) + ((((g (t - 1)).toNat ^ (p - 2) % p : Nat)) : Int) := by
        rw [← Int.natCast_mul, ← Int.natCast_add, this]
      omega
    rw [e]
    obtain ⟨z, hz⟩ := q
    exact ⟨z - g (t - 1) * ((((g (t - 1)).toNat ^ (p - 2)) / p : Nat) : Int), by grind⟩
  have vb : (((g (t - 1)).toNat ^ (p - 2) % p : Nat) : Int) < p := by
    have := Nat.mod_lt ((g (t - 1)).toNat ^ (p - 2)) (show 0 < p by omega)
    omega
  generalize hv : (((g (t - 1)).toNat ^ (p - 2) % p : Nat) : Int) = v3 at fm vb ⊢
  have v0 : 0 ≤ v3 := by omega
  have key := lp_rule (bot := fun _ => none) (step := sX6_reduce_27 (nI w) (nI w2) (jI v3) (jI p) N) (fun u fc => ∀ (s : Nat) (f' : Nat → Int) (M4 : Mem), s < u → RwY M4 w f' s p → RwY M4 w2 g t p → Eqv p f' g f g → (∀ c, c ≠ 11 → M4.1 c = M.1 c) → ∃ (f2 : Nat → Int) (s2 : Nat) (M2 : Mem), fc M4 = some M2 ∧ RwY M2 w f2 s2 p ∧ RwY M2 w2 g t p ∧ s2 < t ∧ Eqv p f2 g f g ∧ ∀ c, c ≠ 11 → M2.1 c = M.1 c) (fun s f' M4 h => by omega) (by
    intro u fc hc s f' M4 hs rf rg hE mc
    obtain ⟨a1, a2, a3, a4⟩ := id rf
    obtain ⟨b1, b2, b3, b4⟩ := id rg
    have s7 := a3.1
    unfold sX6_reduce_27
    rw [ldI_n hw (by decide), ldI_n hw2 (by decide), a4, b4]
    simp only [ob_some]
    rw [if_ilt (by unfold sml; omega) (by unfold sml; omega)]
    by_cases c : (s : Int) - 1 < (t : Int) - 1
    · rw [if_pos c]
      exact ⟨f', s, M4, rfl, rf, rg, by omega, hE, mc⟩
    · rw [if_neg c]
      have hs1 : 1 ≤ s := by omega
      have fb := a2 (s - 1)
      have le : ldL M4 10 14 ((7 : Int32) * nI w + iI ((s : Int) - 1)) = some (jI (f' (s - 1))) := by
        rw [iI_pred hs1, e7, ldL_n (by omega) (by decide), a1 _ (by omega)]
      rw [le]
      simp only [ob_some]
      have pp : (p : Int) * p ≤ 2147483648 * 2147483648 := Int.mul_le_mul (by omega) (by omega) (by omega) (by omega)
      have bb := mul_lt (a := f' (s - 1)) (b := v3) (P := p) (by omega) (by omega)
      have nn := Int.mul_nonneg fb.1 v0
      rw [jI_mul, rmL_eq (by omega) (by omega) (by omega) (by omega)]
      simp only [ob_some]
      have vb9 := tmod_nn nn (show 0 < p by omega)
      obtain ⟨M5, r1, r2, r3, r4⟩ := red83 (N := N) (by omega) hp1 hp hw hw2 hne rf rg (by omega) h1 vb9
      rw [r1]
      simp only [ob_some]
      have hl : (p : Int) ∣ f' (s - 1) - (f' (s - 1) * v3).tmod p * g (t - 1) := by
        obtain ⟨z, hz⟩ := fm
        obtain ⟨y, hy⟩ := tmod_dv (f' (s - 1) * v3) p
        exact ⟨-(f' (s - 1) * z) - y * g (t - 1), by grind⟩
      obtain ⟨o1, o2, o3⟩ := redR_ok (v := (f' (s - 1) * v3).tmod p) hP s7 (show t ≤ s by omega) h1 a2 b2 a3.2.1 b3.2.1 vb9.1 hl
      have dE : M5.1 11 w = iI ((s : Int) - 1) := by rw [r4]; exact a4
      obtain ⟨k2, M6, q1, q2, q3, q4, q5⟩ := red166 (N := N) (M := M5) (w := w) (w2 := w2) (p := p) (k0 := s) (by omega) hp hw hne r2 o3 s7 (fun n hn => o2 n (by omega)) dE
      rw [q1]
      simp only [ob_some]
      have kl := q2.2.2.1.le o2
      exact hc k2 _ M6 (by omega) q2 ⟨fun n hn => by rw [q3]; exact r3 n hn, b2, b3, by rw [q5, r4]; exact b4⟩ (hE.step hP (one_nd hP) (by omega) (fun n hn => b3.2.1 n (by omega)) o1) (fun c hc => by rw [q4 c hc, r4]; exact mc c hc)) N s f M (by have := hf.2.2.1.1; omega) hf hg (Eqv.refl _ _ _) (fun _ _ => rfl)
  exact key
theorem meetLoop {N : Nat} {M0 : Mem} {f0 g0 : Nat → Int} {p : Nat} (hN : 50 ≤ N) (hP : Pr p) (hp : p ≤ 2147483648) : ∀ (w s t : Nat) (f g : Nat → Int) (M : Mem), w < 2 → 1 ≤ t → RwY M w f s p → RwY M (1 - w) g t p → Eqv p f g f0 g0 → (∀ c, c ≠ 11 → M.1 c = M0.1 c) → ∃ (r : Bool) (M2 : Mem), lp (fun _ _ => none) (sX6_meet_54 N (jI p)) N (nI w) M = some (bz r, M2) ∧ (∀ c, c ≠ 11 → M2.1 c = M0.1 c) ∧ (r = true → YesP p f0 g0) ∧ (r = false → NoP p f0 g0) := by
  have key := lp_rule (bot := fun _ _ => none) (step := sX6_meet_54 N (jI p)) (fun u fc => ∀ (w s t : Nat) (f g : Nat → Int) (M : Mem), t < u → w < 2 → 1 ≤ t → RwY M w f s p → RwY M (1 - w) g t p → Eqv p f g f0 g0 → (∀ c, c ≠ 11 → M.1 c = M0.1 c) → ∃ (r : Bool) (M2 : Mem), fc (nI w) M = some (bz r, M2) ∧ (∀ c, c ≠ 11 → M2.1 c = M0.1 c) ∧ (r = true → YesP p f0 g0) ∧ (r = false → NoP p f0 g0)) (fun w s t f g M h => by omega) (by
    intro u fc hc w s t f g M ht hw h1 rf rg hE mc
    obtain ⟨b1, b2, b3, b4⟩ := id rg
    have t7 := b3.1
    unfold sX6_meet_54
    rw [i1, nI_sub (by omega), ldI_n (by omega) (by decide), b4]
    simp only [ob_some]
    rw [z0, if_ile (by unfold sml; omega) sml0]
    have gbd : ∀ n, -(p : Int) < g n ∧ g n < (p : Int) := fun n => by have := b2 n; omega
    by_cases c : (t : Int) - 1 ≤ 0
    · rw [if_pos c, ← z0, okZM_0]
      refine ⟨false, M, rfl, mc, fun q => absurd q (by decide), fun _ => ?_⟩
      have t1 : t = 1 := by omega
      subst t1
      exact ⟨g, lt_nd (b3.2.2 (by omega)) (gbd _).1 (gbd _).2, fun n hn => b3.2.1 n hn, fun I hI a b => ((hE I hI).mpr ⟨a, b⟩).2⟩
    · rw [if_neg c]
      obtain ⟨f2, s2, M2, q1, q2, q3, q4, q5, q6⟩ := reduce_eq (N := N) hN hP hp hw (show 1 - w < 2 by omega) (by omega) rf rg h1
      rw [q1]
      simp only [ob_some]
      rw [ldI_n hw (by decide), q2.2.2.2]
      simp only [ob_some]
      have s7 := q2.2.2.1.1
      rw [if_ile sml0 (by unfold sml; omega)]
      have hE2 : Eqv p f2 g f0 g0 := fun I hI => by rw [q5 I hI, hE I hI]
      by_cases d : (0 : Int) ≤ (s2 : Int) - 1
      · rw [if_pos d]
        have ww : 1 - (1 - w) = w := by omega
        exact hc (1 - w) t s2 g f2 M2 (by omega) (by omega) (by omega) q3 (by rw [ww]; exact q2) hE2.comm (fun c hc => by rw [q6 c hc]; exact mc c hc)
      · rw [if_neg d, ← i1, okZM_1]
        refine ⟨true, M2, rfl, fun c hc => by rw [q6 c hc]; exact mc c hc, fun _ => ?_, fun q => absurd q (by decide)⟩
        exact (end_row hP hE2 (fun n => q2.2.2.1.2.1 n (by omega)) b3 h1 gbd).1 (by omega)) N
  exact fun w s t f g M a b c d e f' => key w s t f g M (by have := d.2.2.1.1; omega) a b c d e f'

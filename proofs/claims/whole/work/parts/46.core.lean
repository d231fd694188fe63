/-! what three primes say, three others say too -/
def wt (u : Nat → Int) : Nat := (u 0).natAbs + (u 1).natAbs + (u 2).natAbs + (u 3).natAbs + (u 4).natAbs + (u 5).natAbs
theorem wt_mul (p : Nat) (u u2 : Nat → Int) (h : ∀ i, u i = (p : Int) * u2 i) : wt u = p * wt u2 := by
  unfold wt
  rw [h 0, h 1, h 2, h 3, h 4, h 5]
  simp only [Int.natAbs_mul, Int.natAbs_natCast, Nat.mul_add]
theorem wt_zero {u : Nat → Int} (h : wt u = 0) (hz : ∀ i, 6 ≤ i → u i = 0) : ∀ i, u i = 0 := by
  intro i
  unfold wt at h
  rcases Nat.lt_or_ge i 6 with c | c
  · have : i = 0 ∨ i = 1 ∨ i = 2 ∨ i = 3 ∨ i = 4 ∨ i = 5 := by omega
    rcases this with rfl | rfl | rfl | rfl | rfl | rfl <;> omega
  · exact hz i c
theorem mulp_smul (p : Int) (u u2 f : Nat → Int) (h : ∀ i, u i = p * u2 i) (n : Nat) : mulp u f 6 n = p * mulp u2 f 6 n := by
  rw [mulp_sm, mulp_sm, ← sm_mul]
  apply sm_congr
  intro t _
  rw [h t]; grind
theorem no_sol {p : Nat} (hp : Pr p) {f g : Nat → Int} {d e : Nat} (h1 : 1 ≤ d) (h2 : d ≤ 6) (h3 : 1 ≤ e) (h4 : e ≤ 6) (hd : ¬ (p : Int) ∣ f d) (he : ¬ (p : Int) ∣ g e) (hf : ∀ n, d < n → f n = 0) (hg : ∀ n, e < n → g n = 0) (hN : NoP p f g) : ∀ T : Nat, ∀ u v : Nat → Int, (∀ i, e ≤ i → u i = 0) → (∀ i, d ≤ i → v i = 0) → (∀ n, mulp u f 6 n + mulp v g 6 n = 0) → wt u + wt v ≤ T → ∀ i, u i = 0 ∧ v i = 0 := by
  have hp1 := hp.1
  intro T
  induction T with
  | zero =>
    intro u v hu hv _ hw i
    exact ⟨wt_zero (by omega) (fun i hi => hu i (by omega)) i, wt_zero (by omega) (fun i hi => hv i (by omega)) i⟩
  | succ T ih =>
    intro u v hu hv hs hw
    have dv := no_van (u := u) (v := v) hp h1 h2 hd hf (fun n hn => hg n (by omega)) hv hN (fun n => by rw [hs n]; exact ⟨0, by simp⟩)
    have du := no_van (u := v) (v := u) hp h3 h4 he hg (fun n hn => hf n (by omega)) hu hN.symm (fun n => by rw [Int.add_comm, hs n]; exact ⟨0, by simp⟩)
    have eu : ∀ i, u i = (p : Int) * (u i / (p : Int)) := fun i => (Int.mul_ediv_cancel' (du i)).symm
    have ev : ∀ i, v i = (p : Int) * (v i / (p : Int)) := fun i => (Int.mul_ediv_cancel' (dv i)).symm
    have wu := wt_mul p u (fun i => u i / (p : Int)) eu
    have wv := wt_mul p v (fun i => v i / (p : Int)) ev
    have m1 : 2 * wt (fun i => u i / (p : Int)) ≤ p * wt (fun i => u i / (p : Int)) := Nat.mul_le_mul_right _ (by omega)
    have m2 : 2 * wt (fun i => v i / (p : Int)) ≤ p * wt (fun i => v i / (p : Int)) := Nat.mul_le_mul_right _ (by omega)
    have q := ih (fun i => u i / (p : Int)) (fun i => v i / (p : Int)) (fun i hi => by show u i / (p : Int) = 0; rw [hu i hi]; simp) (fun i hi => by show v i / (p : Int) = 0; rw [hv i hi]; simp) (fun n => by
      have s := hs n
      rw [mulp_smul p u _ f eu, mulp_smul p v _ g ev, ← Int.mul_add] at s
      rcases Int.mul_eq_zero.mp s with w | w
      · omega
      · exact w) (by omega)
    intro i
    obtain ⟨a, b⟩ := q i
    have a' : u i / (p : Int) = 0 := a
    have b' : v i / (p : Int) = 0 := b
    rw [eu i, ev i, a', b']
    simp
theorem yes_dvd {p : Nat} {f g u v : Nat → Int} (hf : ∀ n, 7 ≤ n → f n = 0) (hg : ∀ n, 7 ≤ n → g n = 0) (hY : YesP p f g) (hs : ∀ n, 1 ≤ n → mulp u f 6 n + mulp v g 6 n = 0) : (p : Int) ∣ mulp u f 6 0 + mulp v g 6 0 := by
  obtain ⟨s, s0, sf, sg⟩ := hY
  have e := LL_const (c := fun n => mulp u f 6 n + 1 * mulp v g 6 n) (fun n hn => by show mulp u f 6 n + 1 * mulp v g 6 n = 0; rw [Int.one_mul]; exact hs n hn) s 0
  rw [LL_radd, LL_mulp hf u s 0 6 (by decide), LL_mulp hg v s 0 6 (by decide), s0, Int.mul_one] at e
  have e2 : mulp u f 6 0 + mulp v g 6 0 = sm (fun i => u i * LL f s (i + 0)) 6 + 1 * sm (fun i => v i * LL g s (i + 0)) 6 := by
    rw [e]; show _ = mulp u f 6 0 + 1 * mulp v g 6 0; rw [Int.one_mul]
  rw [e2]
  exact Int.dvd_add (sm_dvd 6 (fun i _ => Int.dvd_mul_of_dvd_right (sf _))) (Int.dvd_mul_of_dvd_right (sm_dvd 6 (fun i _ => Int.dvd_mul_of_dvd_right (sg _))))
theorem three_dvd {p1 p2 p3 : Nat} (hp2 : Pr p2) (hp3 : Pr p3) (n21 : ¬ (p2 : Int) ∣ (p1 : Int)) (n31 : ¬ (p3 : Int) ∣ (p1 : Int)) (n32 : ¬ (p3 : Int) ∣ (p2 : Int)) {c : Int} (h1 : (p1 : Int) ∣ c) (h2 : (p2 : Int) ∣ c) (h3 : (p3 : Int) ∣ c) (hb : c.natAbs < p1 * p2 * p3) : c = 0 := by
  obtain ⟨c1, rfl⟩ := h1
  rcases hp2.int h2 with w | w
  · exact absurd w n21
  · obtain ⟨c2, rfl⟩ := w
    rcases hp3.int h3 with w | w
    · exact absurd w n31
    · rcases hp3.int w with w | w
      · exact absurd w n32
      · obtain ⟨c3, rfl⟩ := w
        have e : ((p1 : Int) * ((p2 : Int) * ((p3 : Int) * c3))).natAbs = p1 * p2 * p3 * c3.natAbs := by
          simp only [Int.natAbs_mul, Int.natAbs_natCast, Nat.mul_assoc]
        rw [e] at hb
        rcases Nat.eq_zero_or_pos c3.natAbs with z | z
        · have : c3 = 0 := by omega
          rw [this]; simp
        · have := Nat.mul_le_mul_left (p1 * p2 * p3) z
          omega
theorem small_nd {p : Nat} {a : Int} (hp : 20 < p) (h0 : a ≠ 0) (h1 : -20 ≤ a) (h2 : a ≤ 20) : ¬ (p : Int) ∣ a := by
  intro ⟨z, hz⟩
  have e : a.natAbs = p * z.natAbs := by rw [hz, Int.natAbs_mul, Int.natAbs_natCast]
  rcases Nat.eq_zero_or_pos z.natAbs with w | w
  · rw [w] at e; omega
  · have := Nat.mul_le_mul_left p w; omega
def RowOK (f : Nat → Int) (d : Nat) : Prop := 1 ≤ d ∧ d ≤ 6 ∧ f d ≠ 0 ∧ (∀ n, d < n → f n = 0) ∧ ∀ n, -20 ≤ f n ∧ f n ≤ 20
theorem core {p1 p2 p3 q : Nat} (hp2 : Pr p2) (hp3 : Pr p3) (hq : Pr q) (n21 : ¬ (p2 : Int) ∣ (p1 : Int)) (n31 : ¬ (p3 : Int) ∣ (p1 : Int)) (n32 : ¬ (p3 : Int) ∣ (p2 : Int)) (hB : 40 * BB < p1 * p2 * p3) (hq20 : 20 < q) {f g : Nat → Int} {d e : Nat} (hf : RowOK f d) (hg : RowOK g e) (y1 : YesP p1 f g) (y2 : YesP p2 f g) (y3 : YesP p3 f g) : ¬ NoP q f g := by
  intro hN
  obtain ⟨f1, f2, f3, f4, f5⟩ := hf
  obtain ⟨g1, g2, g3, g4, g5⟩ := hg
  obtain ⟨u, v, hu, hv, ⟨i, hi⟩, hs, hc⟩ := siegel f1 f2 g1 g2 f4 g4 f5 g5
  have a1 := yes_dvd (fun n hn => f4 n (by omega)) (fun n hn => g4 n (by omega)) y1 hs
  have a2 := yes_dvd (fun n hn => f4 n (by omega)) (fun n hn => g4 n (by omega)) y2 hs
  have a3 := yes_dvd (fun n hn => f4 n (by omega)) (fun n hn => g4 n (by omega)) y3 hs
  have z := three_dvd hp2 hp3 n21 n31 n32 a1 a2 a3 (by omega)
  have al := no_sol hq f1 f2 g1 g2 (small_nd hq20 f3 (f5 d).1 (f5 d).2) (small_nd hq20 g3 (g5 e).1 (g5 e).2) f4 g4 hN (wt u + wt v) u v hu hv (fun n => by
    rcases Nat.eq_zero_or_pos n with w | w
    · rw [w]; exact z
    · exact hs n w) (Nat.le_refl _) i
  rcases hi with w | w
  · exact w al.1
  · exact w al.2
theorem core_c {q : Nat} (hq : Pr q) (hq20 : 20 < q) {f g : Nat → Int} {d e : Nat} (hf : RowOK f d) (hg : RowOK g e) (y1 : YesP 1000000007 f g) (y2 : YesP 1000000009 f g) (y3 : YesP 998244353 f g) : ¬ NoP q f g :=
  core pr_c1 pr_c2 hq (by decide) (by decide) (by decide) (by decide) hq20 hf hg y1 y2 y3
theorem core_r {q : Nat} (hq : Pr q) (hq20 : 20 < q) {f g : Nat → Int} {d e : Nat} (hf : RowOK f d) (hg : RowOK g e) (y1 : YesP 2147483647 f g) (y2 : YesP 2147483629 f g) (y3 : YesP 2147483587 f g) : ¬ NoP q f g :=
  core pr_r1 pr_r2 hq (by decide) (by decide) (by decide) (by decide) hq20 hf hg y1 y2 y3

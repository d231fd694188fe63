/-! the rows that both lay -/
theorem ly_val (tau : Nat → Nat) (F : Nat → Bool) (c : Nat → Int) : ∀ k t, ly tau F c k t = 0 ∨ ∃ s, s < k ∧ F s = true ∧ tau s = t ∧ ly tau F c k t = c s := by
  intro k
  induction k with
  | zero => intro t; exact Or.inl rfl
  | succ k ih =>
    intro t
    have e : ly tau F c (k + 1) t = if F k = true ∧ tau k = t then c k else ly tau F c k t := rfl
    by_cases q : F k = true ∧ tau k = t
    · rw [if_pos q] at e
      exact Or.inr ⟨k, by omega, q.1, q.2, e⟩
    · rw [if_neg q] at e
      rw [e]
      rcases ih t with w | ⟨s, s1, s2, s3, s4⟩
      · exact Or.inl w
      · exact Or.inr ⟨s, by omega, s2, s3, s4⟩
theorem ly_hit (tau : Nat → Nat) (F : Nat → Bool) (c : Nat → Int) : ∀ k s, s < k → F s = true → ∃ u, u < k ∧ F u = true ∧ tau u = tau s ∧ ly tau F c k (tau s) = c u := by
  intro k
  induction k with
  | zero => intro s h; omega
  | succ k ih =>
    intro s hs hF
    have e : ly tau F c (k + 1) (tau s) = if F k = true ∧ tau k = tau s then c k else ly tau F c k (tau s) := rfl
    by_cases q : F k = true ∧ tau k = tau s
    · rw [if_pos q] at e
      exact ⟨k, by omega, q.1, q.2, e⟩
    · rw [if_neg q] at e
      rw [e]
      rcases Nat.lt_or_ge s k with w | w
      · obtain ⟨u, u1, u2, u3, u4⟩ := ih s w hF
        exact ⟨u, by omega, u2, u3, u4⟩
      · have : s = k := by omega
        subst this
        exact absurd ⟨hF, rfl⟩ q
theorem dm_max (tau : Nat → Nat) (F : Nat → Bool) : ∀ k s, s < k → F s = true → tau s ≤ dm tau F k := by
  intro k
  induction k with
  | zero => intro s h; omega
  | succ k ih =>
    intro s hs hF
    show tau s ≤ if F k then (if tau k ≤ dm tau F k then dm tau F k else tau k) else dm tau F k
    rcases Nat.lt_or_ge s k with w | w
    · have := ih s w hF
      split
      · split <;> omega
      · exact this
    · have : s = k := by omega
      subst this
      rw [if_pos hF]
      split <;> omega
theorem dm_att (tau : Nat → Nat) (F : Nat → Bool) : ∀ k, dm tau F k = 0 ∨ ∃ s, s < k ∧ F s = true ∧ tau s = dm tau F k := by
  intro k
  induction k with
  | zero => exact Or.inl rfl
  | succ k ih =>
    have e : dm tau F (k + 1) = if F k then (if tau k ≤ dm tau F k then dm tau F k else tau k) else dm tau F k := rfl
    have old : dm tau F (k + 1) = dm tau F k → dm tau F (k + 1) = 0 ∨ ∃ s, s < k + 1 ∧ F s = true ∧ tau s = dm tau F (k + 1) := by
      intro q
      rw [q]
      rcases ih with w | ⟨s, s1, s2, s3⟩
      · exact Or.inl w
      · exact Or.inr ⟨s, by omega, s2, s3⟩
    by_cases hF : F k = true
    · rw [if_pos hF] at e
      by_cases c : tau k ≤ dm tau F k
      · rw [if_pos c] at e; exact old e
      · rw [if_neg c] at e; exact Or.inr ⟨k, by omega, hF, e.symm⟩
    · rw [if_neg hF] at e; exact old e
theorem cnt_one (F : Nat → Bool) : ∀ n, 1 ≤ cntB F n → ∃ s, s < n ∧ F s = true := by
  intro n
  induction n with
  | zero => intro h; exact absurd (show 1 ≤ 0 from h) (by decide)
  | succ n ih =>
    intro h
    by_cases hF : F n = true
    · exact ⟨n, by omega, hF⟩
    · have e : cntB F (n + 1) = cntB F n + if F n then 1 else 0 := rfl
      rw [if_neg hF] at e
      obtain ⟨s, s1, s2⟩ := ih (by omega)
      exact ⟨s, by omega, s2⟩
theorem cnt_two (F : Nat → Bool) : ∀ n, 2 ≤ cntB F n → ∃ s u, s < u ∧ u < n ∧ F s = true ∧ F u = true := by
  intro n
  induction n with
  | zero => intro h; exact absurd (show 2 ≤ 0 from h) (by decide)
  | succ n ih =>
    intro h
    have e : cntB F (n + 1) = cntB F n + if F n then 1 else 0 := rfl
    by_cases hF : F n = true
    · rw [if_pos hF] at e
      obtain ⟨s, s1, s2⟩ := cnt_one F n (by omega)
      exact ⟨s, n, s1, by omega, s2, hF⟩
    · rw [if_neg hF] at e
      obtain ⟨s, u, a, b, c, d⟩ := ih (by omega)
      exact ⟨s, u, a, by omega, c, d⟩
theorem cnt_tail {F : Nat → Bool} {n : Nat} : ∀ T, n ≤ T → (∀ s, n ≤ s → F s = false) → cntB F T = cntB F n := by
  intro T
  induction T with
  | zero => intro h _; have : n = 0 := by omega
            rw [this]
  | succ T ih =>
    intro h hz
    rcases Nat.lt_or_ge n (T + 1) with c | c
    · show cntB F T + (if F T then 1 else 0) = _
      rw [hz T (by omega), ih (by omega) hz]; rfl
    · have : n = T + 1 := by omega
      rw [this]
theorem row_sz {E : Nat → Nat → Int32} {bs n B : Nat} {P Q : Int} {tau : Nat → Nat} {c : Nat → Int} (hT : TauOK E bs n P Q B tau) (hc : ∀ s, s < n → c s ≠ 0) : dm tau (fun s => B.testBit s) n ≤ 6 ∧ ly tau (fun s => B.testBit s) c n (dm tau (fun s => B.testBit s) n) ≠ 0 ∧ ∀ t, dm tau (fun s => B.testBit s) n < t → ly tau (fun s => B.testBit s) c n t = 0 := by
  obtain ⟨-, -, h3, ⟨m, m1, m2, m3⟩, -⟩ := hT
  refine ⟨dm_bd (fun s hs hs2 => (h3 s hs hs2).1) n (Nat.le_refl _), ?_, fun t ht => ?_⟩
  · have at' : ∃ s, s < n ∧ B.testBit s = true ∧ tau s = dm tau (fun s => B.testBit s) n := by
      rcases dm_att tau (fun s => B.testBit s) n with w | w
      · exact ⟨m, m1, m2, by rw [m3, w]⟩
      · exact w
    obtain ⟨s, s1, s2, s3⟩ := at'
    obtain ⟨u, u1, -, -, u4⟩ := ly_hit tau (fun s => B.testBit s) c n s s1 s2
    rw [← s3, u4]
    exact hc u u1
  · rcases ly_val tau (fun s => B.testBit s) c n t with w | ⟨s, s1, s2, s3, -⟩
    · exact w
    · have := dm_max tau (fun s => B.testBit s) n s s1 s2
      omega
theorem row_ok {E : Nat → Nat → Int32} {bs n B : Nat} {P Q : Int} {tau : Nat → Nat} {c : Nat → Int} (hT : TauOK E bs n P Q B tau) (hc : ∀ s, s < n → c s ≠ 0 ∧ -20 ≤ c s ∧ c s ≤ 20) (hne : ∀ t u, t < n → u < n → E (bs + 1) t = E (bs + 1) u → E (bs + 2) t = E (bs + 2) u → t = u) (h2 : 2 ≤ cntB (fun s => B.testBit s) n) : RowOK (ly tau (fun s => B.testBit s) c n) (dm tau (fun s => B.testBit s) n) := by
  obtain ⟨r1, r2, r3⟩ := row_sz hT (fun s hs => (hc s hs).1)
  refine ⟨?_, r1, r2, r3, fun t => ?_⟩
  · obtain ⟨-, -, h3, -, h5⟩ := hT
    obtain ⟨s, u, a, b, x, y⟩ := cnt_two (fun s => B.testBit s) n h2
    have m1 := dm_max tau (fun s => B.testBit s) n s (by omega) x
    have m2 := dm_max tau (fun s => B.testBit s) n u b y
    rcases Nat.eq_zero_or_pos (dm tau (fun s => B.testBit s) n) with z | z
    · have q := h5 s u (by omega) b x y (by omega)
      have := hne s u (by omega) b q.1 q.2
      omega
    · exact z
  · rcases ly_val tau (fun s => B.testBit s) c n t with w | ⟨s, s1, -, -, s4⟩
    · rw [w]; omega
    · rw [s4]; exact (hc s s1).2
theorem rowY_ok {E : Nat → Nat → Int32} {bs n B p : Nat} {P Q : Int} {tau : Nat → Nat} (hp : 20 < p) (hT : TauOK E bs n P Q B tau) (hc : ∀ s, s < n → (E (bs + 3) s).toInt ≠ 0 ∧ -20 ≤ (E (bs + 3) s).toInt ∧ (E (bs + 3) s).toInt ≤ 20) : Sz (ly tau (fun s => B.testBit s) (cY E bs p) n) (dm tau (fun s => B.testBit s) n + 1) ∧ (∀ t, 0 ≤ ly tau (fun s => B.testBit s) (cY E bs p) n t ∧ ly tau (fun s => B.testBit s) (cY E bs p) n t < (p : Int)) ∧ ∀ t, (p : Int) ∣ ly tau (fun s => B.testBit s) (cY E bs p) n t - ly tau (fun s => B.testBit s) (fun s => (E (bs + 3) s).toInt) n t := by
  have cb : ∀ s, s < n → cY E bs p s ≠ 0 ∧ 0 ≤ cY E bs p s ∧ cY E bs p s < (p : Int) := by
    intro s hs
    have := hc s hs
    unfold cY
    split <;> omega
  obtain ⟨r1, r2, r3⟩ := row_sz (c := cY E bs p) hT (fun s hs => (cb s hs).1)
  refine ⟨⟨by omega, fun t ht => r3 t (by omega), fun _ => r2⟩, fun t => ?_, fun t => ?_⟩
  · rcases ly_val tau (fun s => B.testBit s) (cY E bs p) n t with w | ⟨s, s1, -, -, s4⟩
    · rw [w]; omega
    · rw [s4]; exact (cb s s1).2
  · have gen : ∀ k, (p : Int) ∣ ly tau (fun s => B.testBit s) (cY E bs p) k t - ly tau (fun s => B.testBit s) (fun s => (E (bs + 3) s).toInt) k t := by
      intro k
      induction k with
      | zero => exact ⟨0, by show (0 : Int) - 0 = _; simp⟩
      | succ k ih =>
        show (p : Int) ∣ (if B.testBit k = true ∧ tau k = t then cY E bs p k else ly tau (fun s => B.testBit s) (cY E bs p) k t) - (if B.testBit k = true ∧ tau k = t then (E (bs + 3) k).toInt else ly tau (fun s => B.testBit s) (fun s => (E (bs + 3) s).toInt) k t)
        by_cases q : B.testBit k = true ∧ tau k = t
        · rw [if_pos q, if_pos q]
          unfold cY
          split
          · exact ⟨0, by omega⟩
          · exact ⟨1, by omega⟩
        · rw [if_neg q, if_neg q]; exact ih
    exact gen n
theorem LL_tr {p : Int} {f f' : Nat → Int} (h : ∀ t, p ∣ f' t - f t) {s : Nat → Int} {j : Nat} (hd : p ∣ LL f' s j) : p ∣ LL f s j := by
  have e : LL f s j = LL f' s j - sm (fun n => (f' n - f n) * s (n + j)) 12 := by
    unfold LL
    rw [← sm_sub]
    apply sm_congr
    intro n _
    grind
  rw [e]
  exact Int.dvd_sub hd (sm_dvd 12 (fun n _ => Int.dvd_mul_of_dvd_left (h n)))
theorem YesP.tr {p : Nat} {f g f' g' : Nat → Int} (h : YesP p f' g') (ef : ∀ t, (p : Int) ∣ f' t - f t) (eg : ∀ t, (p : Int) ∣ g' t - g t) : YesP p f g := by
  obtain ⟨s, s0, s1, s2⟩ := h
  exact ⟨s, s0, fun j => LL_tr ef (s1 j), fun j => LL_tr eg (s2 j)⟩
theorem NoP.tr {p : Nat} (hp : Pr p) {f g f' g' : Nat → Int} (h : NoP p f' g') (ef : ∀ t, (p : Int) ∣ f' t - f t) (eg : ∀ t, (p : Int) ∣ g' t - g t) (zf : ∀ n, 7 ≤ n → f n = 0) (zg : ∀ n, 7 ≤ n → g n = 0) : NoP p f g := by
  obtain ⟨c, c1, c2, c3⟩ := h
  refine ⟨c, c1, c2, fun I hI i1 i2 => c3 I hI ?_ ?_⟩
  · exact hI f f f' 1 0 1 0 (one_nd hp) (by decide) (fun n hn => zf n (by omega)) (fun n => by
      have e : 1 * f' n - (1 * f n - 0 * shf 0 f n) = f' n - f n := by simp
      rw [e]; exact ef n) i1 i1
  · exact hI g g g' 1 0 1 0 (one_nd hp) (by decide) (fun n hn => zg n (by omega)) (fun n => by
      have e : 1 * g' n - (1 * g n - 0 * shf 0 g n) = g' n - g n := by simp
      rw [e]; exact eg n) i2 i2

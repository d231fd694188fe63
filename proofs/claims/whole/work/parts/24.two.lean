/-! promise 16 -/
def isMp (v2 a2 a3 vi vj : Int32) : Option Int32 :=
  Option.bind (
    if a2 = 0 then
      some v2
    else
      (rmI vi (2 : Int32)).bind fun v10 =>
      if v10 = 0 then
        some v2
      else
        Option.bind (
          if v2 = 0 then
            some (1 : Int32)
          else
            some (0 : Int32)
        ) fun v11 =>
        some v11
  ) fun v3 =>
  if a3 = 0 then
    okZ v3
  else
    (rmI vj (2 : Int32)).bind fun v5 =>
    if v5 = 0 then
      okZ v3
    else
      Option.bind (
        if v3 = 0 then
          some (1 : Int32)
        else
          some (0 : Int32)
      ) fun v6 =>
      okZ v6
def mb (s i j : Nat) (cn : Bool) : Bool := decide (((s % 2) * i + (s / 2) * j + (if cn then 1 else 0)) % 2 = 1)
set_option maxRecDepth 100000 in
theorem isMp_fin : ∀ s, s < 4 → ∀ i, i < 7 → ∀ j, j < 7 → ∀ cn : Bool, isMp (bz cn) (bz (decide (s % 2 = 1))) (bz (decide (s / 2 = 1))) (nI i) (nI j) = some (bz (mb s i j cn)) := by decide +kernel
set_option maxRecDepth 100000 in
theorem turns_fin : ∀ s, s < 4 → ∀ i, i < 7 → ∀ j, j < 7 → ∀ cn : Bool, rmI ((((nI s &&& (1 : Int32)) * nI i) + ((nI s >>> ((1 : Int32) &&& 31)) * nI j)) + bz cn) (2 : Int32) = some (bz (mb s i j cn)) := by decide +kernel
theorem cneg_eq (v : Int32) : (if 0 ≤ v then some (0 : Int32) else some (1 : Int32)) = some (bz (decide (v.toInt < 0))) := by
  have e : (0 : Int32).toInt = 0 := by decide
  by_cases h : 0 ≤ v
  · have h2 : ¬ v.toInt < 0 := by rw [i_le, e] at h; omega
    simp [h, h2, bz]
  · have h2 : v.toInt < 0 := by rw [i_le, e] at h; omega
    simp [h, h2, bz]
theorem isMinus_eq {X : Mem} {b t i j s : Nat} (ht : t < 8) (hi : X.1 (b + 1) t = nI i) (hj : X.1 (b + 2) t = nI j) (hi7 : i < 7) (hj7 : j < 7) (hs : s < 4) : fX0_isMinus X b (nI t) (bz (decide (s % 2 = 1))) (bz (decide (s / 2 = 1))) = some (bz (mb s i j (decide ((X.1 (b + 3) t).toInt < 0)))) := by
  have l1 : ldI X (b + 1) 8 (nI t) = some (nI i) := by rw [ldI_n ht (by decide), hi]
  have l2 : ldI X (b + 2) 8 (nI t) = some (nI j) := by rw [ldI_n ht (by decide), hj]
  have l3 : ldI X (b + 3) 8 (nI t) = some (X.1 (b + 3) t) := ldI_n ht (by decide)
  rw [← isMp_fin s hs i hi7 j hj7]
  unfold fX0_isMinus isMp
  simp only [l1, l2, l3, ob_some, cneg_eq]
def df (X : Mem) (b s i0 j0 i1 j1 : Nat) : Bool := mb s i0 j0 (decide ((X.1 (b + 3) 0).toInt < 0)) != mb s i1 j1 (decide ((X.1 (b + 3) 1).toInt < 0))
theorem bz_inj (p q : Bool) : bz p = bz q ↔ p = q := by cases p <;> cases q <;> simp [bz]
theorem differ_eq {X : Mem} {b s i0 j0 i1 j1 : Nat} (h0 : X.1 (b + 1) 0 = nI i0) (h1 : X.1 (b + 2) 0 = nI j0) (h2 : X.1 (b + 1) 1 = nI i1) (h3 : X.1 (b + 2) 1 = nI j1) (q0 : i0 < 7) (q1 : j0 < 7) (q2 : i1 < 7) (q3 : j1 < 7) (hs : s < 4) : fX0_signsDiffer X b (bz (decide (s % 2 = 1))) (bz (decide (s / 2 = 1))) = some (bz (df X b s i0 j0 i1 j1)) := by
  unfold fX0_signsDiffer
  rw [show (0 : Int32) = nI 0 from by decide, isMinus_eq (by decide) h0 h1 q0 q1 hs, show (1 : Int32) = nI 1 from by decide, isMinus_eq (by decide) h2 h3 q2 q3 hs, show nI 0 = (0 : Int32) from rfl, show nI 1 = (1 : Int32) from rfl]
  simp only [ob_some, bz_inj, okZ_0, okZ_1, df]
  by_cases e : mb s i0 j0 (decide ((X.1 (b + 3) 0).toInt < 0)) = mb s i1 j1 (decide ((X.1 (b + 3) 1).toInt < 0))
  · simp [e, bz]
  · simp [e, bz]
theorem unlike_eq {X Y : Mem} {b o j n s i0 j0 i1 j1 N : Nat} (hN : 3 ≤ N) (hno : eqNo b o j) (hR : EqR X Y b o j n) (hn : n = 2) (h0 : X.1 (b + 1) 0 = nI i0) (h1 : X.1 (b + 2) 0 = nI j0) (h2 : X.1 (b + 1) 1 = nI i1) (h3 : X.1 (b + 2) 1 = nI j1) (q0 : i0 < 7) (q1 : j0 < 7) (q2 : i1 < 7) (q3 : j1 < 7) (hs : s < 4) : fX6_areUnlike N Y (nI j) (nI s) = some (bz (df X b s i0 j0 i1 j1)) := by
  subst hn
  obtain ⟨-, -, -, s4, -⟩ := hR
  obtain ⟨u1, u2, u3, -⟩ := s4 0 (by decide)
  obtain ⟨w1, w2, w3, -⟩ := s4 1 (by decide)
  have hj := hno.j
  have ho := hno.o
  obtain ⟨N', rfl⟩ : ∃ N', N = N' + 3 := ⟨N - 3, by omega⟩
  have g0 : (8 : Int32) * nI j = nI o := by
    rw [show (8 : Int32) = nI 8 from by decide, show nI 8 * nI j = nI (8 * j) from (Int32.ofNat_mul 8 j).symm, ho]
  have g1 : nI o + 2 = nI (o + 2) := nI_add o 2
  have A : ∀ (k : Int32 → Int32 → Option Int32) (v : Int32), sX6_areUnlike_8 (nI j) Y (nI s) k v (nI o) = k (v + bz (mb s i0 j0 (decide ((X.1 (b + 3) 0).toInt < 0)))) (nI (o + 1)) := by
    intro k v
    unfold sX6_areUnlike_8
    have l1 : ldI Y 1 16 (nI o) = some (nI i0) := by rw [ldI_n (by omega) (by decide), ← h0, u1]; rfl
    have l2 : ldI Y 2 16 (nI o) = some (nI j0) := by rw [ldI_n (by omega) (by decide), ← h1, u2]; rfl
    have l3 : ldI Y 3 16 (nI o) = some (X.1 (b + 3) 0) := by rw [ldI_n (by omega) (by decide), u3]; rfl
    rw [g0, g1, if_nle (by omega) (by omega), if_neg (by omega), nI_1]
    simp only [l1, l2, l3, ob_some, cneg_eq, turns_fin s hs i0 q0 j0 q1]
  have B : ∀ (k : Int32 → Int32 → Option Int32) (v : Int32), sX6_areUnlike_8 (nI j) Y (nI s) k v (nI (o + 1)) = k (v + bz (mb s i1 j1 (decide ((X.1 (b + 3) 1).toInt < 0)))) (nI (o + 2)) := by
    intro k v
    unfold sX6_areUnlike_8
    have l1 : ldI Y 1 16 (nI (o + 1)) = some (nI i1) := by rw [ldI_n (by omega) (by decide), ← h2, w1]
    have l2 : ldI Y 2 16 (nI (o + 1)) = some (nI j1) := by rw [ldI_n (by omega) (by decide), ← h3, w2]
    have l3 : ldI Y 3 16 (nI (o + 1)) = some (X.1 (b + 3) 1) := by rw [ldI_n (by omega) (by decide), w3]
    rw [g0, g1, if_nle (by omega) (by omega), if_neg (by omega), nI_1]
    simp only [l1, l2, l3, ob_some, cneg_eq, turns_fin s hs i1 q2 j1 q3]
  have E : ∀ (k : Int32 → Int32 → Option Int32) (v : Int32), sX6_areUnlike_8 (nI j) Y (nI s) k v (nI (o + 2)) = some v := by
    intro k v
    unfold sX6_areUnlike_8
    rw [g0, g1, if_nle (by omega) (by omega), if_pos (by omega)]
  unfold fX6_areUnlike
  rw [g0]
  show Option.bind (sX6_areUnlike_8 (nI j) Y (nI s) (sX6_areUnlike_8 (nI j) Y (nI s) (sX6_areUnlike_8 (nI j) Y (nI s) (lp (fun _ _ => none) (sX6_areUnlike_8 (nI j) Y (nI s)) N'))) 0 (nI o)) _ = _
  rw [A, B, E]
  simp only [ob_some, okZ_0, okZ_1, df]
  generalize mb s i0 j0 (decide ((X.1 (b + 3) 0).toInt < 0)) = p
  generalize mb s i1 j1 (decide ((X.1 (b + 3) 1).toInt < 0)) = q
  cases p <;> cases q <;> decide
theorem real_eq {X : Mem} {N : Nat} (hN : 5 ≤ N) (p q : Nat → Bool) (hp : ∀ s, s < 4 → fX0_signsDiffer X 1 (bz (decide (s % 2 = 1))) (bz (decide (s / 2 = 1))) = some (bz (p s))) (hq : ∀ s, s < 4 → fX0_signsDiffer X 6 (bz (decide (s % 2 = 1))) (bz (decide (s / 2 = 1))) = some (bz (q s))) : fX5_realAnswers N X = some ((((0 + bz (p 0 && q 0)) + bz (p 1 && q 1)) + bz (p 2 && q 2)) + bz (p 3 && q 3)) := by
  obtain ⟨N', rfl⟩ : ∃ N', N = N' + 5 := ⟨N - 5, by omega⟩
  have A : ∀ (s : Nat), s < 4 → ∀ (k : Int32 → Int32 → Option Int32) (v : Int32), sX5_realAnswers_4 X k v (nI s) = k (v + bz (p s && q s)) (nI (s + 1)) := by
    intro s hs k v
    unfold sX5_realAnswers_4
    have e1 : (if (nI s &&& (1 : Int32)) = 0 then some (0 : Int32) else some (1 : Int32)) = some (bz (decide (s % 2 = 1))) := by
      rcases (show s = 0 ∨ s = 1 ∨ s = 2 ∨ s = 3 by omega) with rfl | rfl | rfl | rfl <;> decide
    have e2 : (if (nI s &&& (2 : Int32)) = 0 then some (0 : Int32) else some (1 : Int32)) = some (bz (decide (s / 2 = 1))) := by
      rcases (show s = 0 ∨ s = 1 ∨ s = 2 ∨ s = 3 by omega) with rfl | rfl | rfl | rfl <;> decide
    rw [show (4 : Int32) = nI 4 from by decide, if_nle (by decide) (by omega), if_neg (by omega), e1, e2, nI_1]
    simp only [ob_some, hp s hs, hq s hs, ifb]
    cases p s <;> cases q s <;> simp [bz]
  have E : ∀ (k : Int32 → Int32 → Option Int32) (v : Int32), sX5_realAnswers_4 X k v (nI 4) = some v := by
    intro k v
    unfold sX5_realAnswers_4
    rw [if_pos (by decide)]
  show sX5_realAnswers_4 X (sX5_realAnswers_4 X (sX5_realAnswers_4 X (sX5_realAnswers_4 X (sX5_realAnswers_4 X (lp (fun _ _ => none) (sX5_realAnswers_4 X) N'))))) 0 (nI 0) = _
  rw [A 0 (by decide), A 1 (by decide), A 2 (by decide), A 3 (by decide), E]
theorem twoLoop_eq {Y : Mem} {N : Nat} (hN : 5 ≤ N) (p q : Nat → Bool) (hp : ∀ s, s < 4 → fX6_areUnlike N Y (nI 0) (nI s) = some (bz (p s))) (hq : ∀ s, s < 4 → fX6_areUnlike N Y (nI 1) (nI s) = some (bz (q s))) : lp (fun _ _ => none) (sX6_two_109 N Y) N 0 0 = some ((((0 + bz (p 0 && q 0)) + bz (p 1 && q 1)) + bz (p 2 && q 2)) + bz (p 3 && q 3)) := by
  obtain ⟨N', hN'⟩ : ∃ N', N = N' + 5 := ⟨N - 5, by omega⟩
  have A : ∀ (s : Nat), s < 4 → ∀ (k : Int32 → Int32 → Option Int32) (v : Int32), sX6_two_109 N Y k v (nI s) = k (v + bz (p s && q s)) (nI (s + 1)) := by
    intro s hs k v
    unfold sX6_two_109
    rw [show (4 : Int32) = nI 4 from by decide, if_nle (by decide) (by omega), if_neg (by omega), nI_1]
    have h1 := hp s hs
    have h2 := hq s hs
    rw [← i0] at h1
    rw [← i1] at h2
    simp only [ob_some, h1, h2, ifb]
    cases p s <;> cases q s <;> simp [bz]
  have E : ∀ (k : Int32 → Int32 → Option Int32) (v : Int32), sX6_two_109 N Y k v (nI 4) = some v := by
    intro k v
    unfold sX6_two_109
    rw [if_pos (by decide)]
  have key : lp (fun _ _ => none) (sX6_two_109 N Y) (N' + 5) 0 (nI 0) = some ((((0 + bz (p 0 && q 0)) + bz (p 1 && q 1)) + bz (p 2 && q 2)) + bz (p 3 && q 3)) := by
    show sX6_two_109 N Y (sX6_two_109 N Y (sX6_two_109 N Y (sX6_two_109 N Y (sX6_two_109 N Y (lp (fun _ _ => none) (sX6_two_109 N Y) N'))))) 0 (nI 0) = _
    rw [A 0 (by decide), A 1 (by decide), A 2 (by decide), A 3 (by decide), E]
  rw [← hN'] at key
  exact key
theorem across_eq {X : Mem} {a b c d : Nat} (ha : a < 8) (hb : b < 8) (hc : c < 8) (hd : d < 8) : fX5_across X 1 (nI a) (nI b) 6 (nI c) (nI d) = some (trn X.1 a b c d) := by
  unfold fX5_across trn
  rw [ldI_n hb (by decide), ldI_n ha (by decide), ldI_n hd (by decide), ldI_n hc (by decide), ldI_n hb (by decide), ldI_n ha (by decide), ldI_n hd (by decide), ldI_n hc (by decide)]
  rfl
theorem n_of {v : Int32} {k : Nat} (h : 0 ≤ v.toInt ∧ v.toInt ≤ k) (hk : k ≤ 1000) : ∃ i : Nat, i < k + 1 ∧ v = nI i := a_of (n := k + 1) (by omega) (by omega)
theorem st_two {X Y : Mem} {N : Nat} (hN : 5 ≤ N) (a1 : Int32) (h : Sim X Y) : ∃ r : Int32, fX5_two N X a1 = some r ∧ fX6_two N Y a1 = some r ∧ Sim X Y := by
  obtain ⟨n0, n1, h0, h1, -⟩ := id h
  unfold fX5_two fX6_two
  rw [within_eq, in32]
  simp only [ob_some, ifb]
  have e1 : (0 : Int32).toInt = 0 := by decide
  have e2 : (1 : Int32).toInt = 1 := by decide
  have e3 : (0 : Int64).toInt = 0 := by decide
  have e4 : (1 : Int64).toInt = 1 := by decide
  rw [e1, e2, e3, e4]
  by_cases hp : 0 ≤ a1.toInt ∧ a1.toInt ≤ 1
  · simp only [hp, and_self, decide_true, if_true]
    have l0 : ldI Y 5 2 0 = some (nI n0) := by rw [i0, ldI_n (by decide) (by decide), h0.2.1]
    have l1 : ldI Y 5 2 1 = some (nI n1) := by rw [i1, ldI_n (by decide) (by decide), h1.2.1]
    rw [l0, h0.1, h1.1]
    simp only [ob_some, l1]
    have b0 := h0.2.2.1
    have b1 := h1.2.2.1
    rw [show (2 : Int32) = nI 2 from by decide, if_neq (by omega) (by decide), if_neq (by omega) (by decide), if_neq (by omega) (by decide)]
    by_cases c0 : n0 = 2
    · by_cases c1 : n1 = 2
      · subst c0; subst c1
        obtain ⟨u1, u2, u3, -⟩ := h0.2.2.2.1 0 (by decide)
        obtain ⟨w1, w2, w3, -⟩ := h0.2.2.2.1 1 (by decide)
        obtain ⟨x1, x2, x3, -⟩ := h1.2.2.2.1 0 (by decide)
        obtain ⟨z1, z2, z3, -⟩ := h1.2.2.2.1 1 (by decide)
        have m1 : ldI Y 1 16 1 = some (X.1 2 1) := by rw [i1, ldI_n (by decide) (by decide), w1]
        have m2 : ldI Y 1 16 0 = some (X.1 2 0) := by rw [i0, ldI_n (by decide) (by decide), u1]
        have m3 : ldI Y 2 16 9 = some (X.1 8 1) := by rw [show (9 : Int32) = nI 9 from by decide, ldI_n (by decide) (by decide), z2]
        have m4 : ldI Y 2 16 8 = some (X.1 8 0) := by rw [show (8 : Int32) = nI 8 from by decide, ldI_n (by decide) (by decide), x2]
        have m5 : ldI Y 2 16 1 = some (X.1 3 1) := by rw [i1, ldI_n (by decide) (by decide), w2]
        have m6 : ldI Y 2 16 0 = some (X.1 3 0) := by rw [i0, ldI_n (by decide) (by decide), u2]
        have m7 : ldI Y 1 16 9 = some (X.1 7 1) := by rw [show (9 : Int32) = nI 9 from by decide, ldI_n (by decide) (by decide), z1]
        have m8 : ldI Y 1 16 8 = some (X.1 7 0) := by rw [show (8 : Int32) = nI 8 from by decide, ldI_n (by decide) (by decide), x1]
        have ac : fX5_across X 1 0 1 6 0 1 = some (trn X.1 0 1 0 1) := across_eq (by decide) (by decide) (by decide) (by decide)
        obtain ⟨g0, g1, -⟩ := h0.2.2.2.2.1 0 (by decide)
        obtain ⟨g2, g3, -⟩ := h0.2.2.2.2.1 1 (by decide)
        obtain ⟨k0, k1, -⟩ := h1.2.2.2.2.1 0 (by decide)
        obtain ⟨k2, k3, -⟩ := h1.2.2.2.2.1 1 (by decide)
        obtain ⟨p0, p0l, p0e⟩ := n_of (k := 6) g0 (by decide)
        obtain ⟨p1, p1l, p1e⟩ := n_of (k := 6) g1 (by decide)
        obtain ⟨p2, p2l, p2e⟩ := n_of (k := 6) g2 (by decide)
        obtain ⟨p3, p3l, p3e⟩ := n_of (k := 6) g3 (by decide)
        obtain ⟨r0, r0l, r0e⟩ := n_of (k := 6) k0 (by decide)
        obtain ⟨r1, r1l, r1e⟩ := n_of (k := 6) k1 (by decide)
        obtain ⟨r2, r2l, r2e⟩ := n_of (k := 6) k2 (by decide)
        obtain ⟨r3, r3l, r3e⟩ := n_of (k := 6) k3 (by decide)
        have R1 := real_eq (X := X) hN (fun s => df X 1 s p0 p1 p2 p3) (fun s => df X 6 s r0 r1 r2 r3) (fun s hs => differ_eq p0e p1e p2e p3e p0l p1l p2l p3l hs) (fun s hs => differ_eq r0e r1e r2e r3e r0l r1l r2l r3l hs)
        have R2 := twoLoop_eq (Y := Y) hN (fun s => df X 1 s p0 p1 p2 p3) (fun s => df X 6 s r0 r1 r2 r3) (fun s hs => unlike_eq (by omega) no0 h0 rfl p0e p1e p2e p3e p0l p1l p2l p3l hs) (fun s hs => unlike_eq (by omega) no1 h1 rfl r0e r1e r2e r3e r0l r1l r2l r3l hs)
        simp only [if_true, ac, m1, m2, m3, m4, m5, m6, m7, m8, ob_some, R1, R2]
        show ∃ r, (if a1 = 0 then some (trn X.1 0 1 0 1) else if trn X.1 0 1 0 1 = 0 then some (-6) else some _) = some r ∧ (if a1 = 0 then some (trn X.1 0 1 0 1) else if trn X.1 0 1 0 1 = 0 then some (-6) else some _) = some r ∧ Sim X Y
        by_cases d0 : a1 = 0
        · exact ⟨trn X.1 0 1 0 1, by rw [if_pos d0], by rw [if_pos d0], h⟩
        · rw [if_neg d0]
          by_cases d1 : trn X.1 0 1 0 1 = 0
          · exact ⟨-6, by rw [if_pos d1], by rw [if_pos d1], h⟩
          · exact ⟨_, by rw [if_neg d1], by rw [if_neg d1], h⟩
      · have hne : ¬ nI n1 = nI 2 := fun q => c1 ((nI_eq (by omega) (by decide)).mp q)
        exact ⟨-1003, by simp [c0, c1], by simp [c0, hne], h⟩
    · exact ⟨-1003, by simp [c0], by simp [c0], h⟩
  · exact ⟨-1002, by simp [hp], by simp [hp], h⟩

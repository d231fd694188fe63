/-! promises 2 to 5, 9, 19 -/
theorem eqOf_0 (M : Mem) : fX5_equationOf M 0 = some (some 1) := by simp [fX5_equationOf]
theorem eqOf_1 (M : Mem) : fX5_equationOf M 1 = some (some 6) := by simp [fX5_equationOf]
theorem eqOf_n {M : Mem} {a : Int32} (h0 : ¬ a = 0) (h1 : ¬ a = 1) : fX5_equationOf M a = some none := by simp [fX5_equationOf, h0, h1]
theorem nI_tI {n : Nat} (h : n ≤ 1000000) : (nI n).toInt = n := nI_toInt (by omega)
theorem nI_m1 {n : Nat} (h : n ≤ 1000000) : (nI n - 1).toInt = (n : Int) - 1 := by
  rw [Int32.toInt_sub, nI_tI h]
  show Int.bmod ((n : Int) - 1) (2 ^ 32) = _
  rw [Int.bmod_eq_of_le] <;> omega
theorem has_eq {X : Mem} {b n : Nat} (h : X.1 b 4 = nI n) (hn : n ≤ 8) (a : Int32) : fX0_has X b a = some (bz (decide (0 ≤ a.toInt ∧ a.toInt < n))) := by
  unfold fX0_has
  rw [within_eq, ob_some, okZ_bz, h]
  have e1 : (0 : Int32).toInt = 0 := by decide
  rw [e1, nI_m1 (by omega)]
  congr 2
  rw [decide_eq_decide]; omega
theorem isTerm_eq {Y : Mem} {j n : Nat} (hj : j < 2) (h : Y.1 5 j = nI n) (hn : n ≤ 8) (a : Int32) : fX6_isTerm Y (nI j) a = some (bz (decide (0 ≤ a.toInt ∧ a.toInt < n))) := by
  unfold fX6_isTerm
  have hq : nI j = 0 ∨ nI j = 1 := by
    rcases (show j = 0 ∨ j = 1 by omega) with rfl | rfl
    · exact Or.inl rfl
    · exact Or.inr rfl
  rw [isEq_eq, ob_some]
  simp only [hq, decide_true, bz_t]
  rw [if_neg (by decide), ldI_n hj (by decide), ob_some, h, in32, ob_some, Int32.toInt_toInt64, nI_m1 (by omega)]
  have e1 : (0 : Int64).toInt = 0 := by decide
  rw [e1]
  by_cases hp : 0 ≤ a.toInt ∧ a.toInt < n
  · have hp2 : 0 ≤ a.toInt ∧ a.toInt ≤ (n : Int) - 1 := by omega
    simp [hp, hp2, bz, okZ]
  · have hp2 : ¬ (0 ≤ a.toInt ∧ a.toInt ≤ (n : Int) - 1) := by omega
    simp [hp, hp2, bz, okZ]
theorem isTerm_n {Y : Mem} {e a : Int32} (h0 : ¬ e = 0) (h1 : ¬ e = 1) : fX6_isTerm Y e a = some 0 := by
  unfold fX6_isTerm
  rw [isEq_eq, ob_some]
  simp [h0, h1, bz, okZ]
theorem a_of {a : Int32} {n : Nat} (h : 0 ≤ a.toInt ∧ a.toInt < n) (hn : n ≤ 1000000) : ∃ t, t < n ∧ a = nI t := by
  refine ⟨a.toInt.toNat, by omega, ?_⟩
  rw [i_eq, nI_tI (by omega)]
  omega
theorem e8 {j t : Nat} : (8 : Int32) * nI j + nI t = nI (8 * j + t) := by
  rw [show (8 : Int32) = nI 8 from by decide, show nI 8 * nI j = nI (8 * j) from (Int32.ofNat_mul 8 j).symm, nI_add]
theorem st_about {X Y : Mem} (a1 a2 a3 : Int32) (h : Sim X Y) : ∃ r : Int32, fX5_about X a1 a2 a3 = some r ∧ fX6_about Y a1 a2 a3 = some r ∧ Sim X Y := by
  have core : ∀ b o j n, eqNo b o j → EqR X Y b o j n → ∃ r : Int32, ((fX0_has X b a2).bind fun v3 => if v3 = 0 then some (-101 : Int32) else if a3 = 0 then (ldI X (b + 1) 8 a2).bind fun v4 => some v4 else if a3 = 1 then (ldI X (b + 2) 8 a2).bind fun v5 => some v5 else if a3 = 2 then (ldI X (b + 3) 8 a2).bind fun v6 => some v6 else if a3 = 3 then (ldI X (b + 4) 8 a2).bind fun v7 => some v7 else some (-102 : Int32)) = some r ∧ fX6_about Y (nI j) a2 a3 = some r := by
    intro b o j n hno hR
    obtain ⟨s1, s2, s3, s4, s5, s6⟩ := hR
    have hj : j < 2 := hno.j
    have ho : o = 8 * j := hno.o
    unfold fX6_about
    rw [has_eq s1 s3, isTerm_eq hj s2 s3, ob_some, ob_some]
    by_cases hp : 0 ≤ a2.toInt ∧ a2.toInt < n
    · obtain ⟨t, ht, rfl⟩ := a_of hp (by omega)
      obtain ⟨q1, q2, q3, q4⟩ := s4 t ht
      simp only [hp, and_self, decide_true, bz_t]
      have l1 : ldI X (b + 1) 8 (nI t) = some (X.1 (b + 1) t) := ldI_n (by omega) (by decide)
      have l2 : ldI X (b + 2) 8 (nI t) = some (X.1 (b + 2) t) := ldI_n (by omega) (by decide)
      have l3 : ldI X (b + 3) 8 (nI t) = some (X.1 (b + 3) t) := ldI_n (by omega) (by decide)
      have l4 : ldI X (b + 4) 8 (nI t) = some (X.1 (b + 4) t) := ldI_n (by omega) (by decide)
      have m1 : ldI Y 1 16 (nI (o + t)) = some (Y.1 1 (o + t)) := ldI_n (by omega) (by decide)
      have m2 : ldI Y 2 16 (nI (o + t)) = some (Y.1 2 (o + t)) := ldI_n (by omega) (by decide)
      have m3 : ldI Y 3 16 (nI (o + t)) = some (Y.1 3 (o + t)) := ldI_n (by omega) (by decide)
      have m4 : ldI Y 4 16 (nI (o + t)) = some (Y.1 4 (o + t)) := ldI_n (by omega) (by decide)
      simp only [if1, e8, ← ho, l1, l2, l3, l4, m1, m2, m3, m4, ob_some, q1, q2, q3, q4]
      by_cases c0 : a3 = 0
      · exact ⟨Y.1 1 (o + t), by simp [c0], by simp [c0]⟩
      · by_cases c1 : a3 = 1
        · exact ⟨Y.1 2 (o + t), by simp [c1], by simp [c1]⟩
        · by_cases c2 : a3 = 2
          · exact ⟨Y.1 3 (o + t), by simp [c2], by simp [c2]⟩
          · by_cases c3 : a3 = 3
            · exact ⟨Y.1 4 (o + t), by simp [c3], by simp [c3]⟩
            · exact ⟨-102, by simp [c0, c1, c2, c3], by simp [c0, c1, c2, c3]⟩
    · simp only [hp, decide_false, bz_f, if_true]
      exact ⟨_, rfl, rfl⟩
  obtain ⟨n0, n1, h0, h1, -⟩ := id h
  unfold fX5_about
  by_cases c0 : a1 = 0
  · subst c0
    obtain ⟨r, g1, g2⟩ := core 1 0 0 n0 (Or.inl ⟨rfl, rfl, rfl⟩) h0
    rw [eqOf_0]
    exact ⟨r, g1, g2, h⟩
  · by_cases c1 : a1 = 1
    · subst c1
      obtain ⟨r, g1, g2⟩ := core 6 8 1 n1 (Or.inr ⟨rfl, rfl, rfl⟩) h1
      rw [eqOf_1]
      exact ⟨r, g1, g2, h⟩
    · rw [eqOf_n c0 c1]
      refine ⟨-101, rfl, ?_, h⟩
      unfold fX6_about
      rw [isTerm_n c0 c1]; rfl
theorem st_told {X Y : Mem} (a1 : Int32) (h : Sim X Y) : ∃ r : Int32, fX5_told X a1 = some r ∧ fX6_told Y a1 = some r ∧ Sim X Y := by
  obtain ⟨n0, n1, h0, h1, -⟩ := id h
  unfold fX5_told fX6_told
  rw [isEq_eq, ob_some]
  by_cases c0 : a1 = 0
  · subst c0
    rw [eqOf_0]
    refine ⟨nI n0, by rw [← h0.1]; rfl, ?_, h⟩
    simp only [true_or, decide_true, bz_t]
    rw [if_neg (by decide), i0, ldI_n (by decide) (by decide), h0.2.1]; rfl
  · by_cases c1 : a1 = 1
    · subst c1
      rw [eqOf_1]
      refine ⟨nI n1, by rw [← h1.1]; rfl, ?_, h⟩
      simp only [or_true, decide_true, bz_t]
      rw [if_neg (by decide), i1, ldI_n (by decide) (by decide), h1.2.1]; rfl
    · rw [eqOf_n c0 c1]
      exact ⟨-1, rfl, by simp [c0, c1, bz], h⟩

theorem EqR.congr {X X' Y Y' : Mem} {b o j n : Nat} (hno : eqNo b o j) (h : EqR X Y b o j n) (hx : ∀ c, 1 ≤ c → c ≤ 10 → X'.1 c = X.1 c) (hy : ∀ c, 1 ≤ c → c ≤ 5 → Y'.1 c = Y.1 c) : EqR X' Y' b o j n := by
  have e0 : X'.1 b = X.1 b := hx _ (by unfold eqNo at hno; omega) (by unfold eqNo at hno; omega)
  have e1 : X'.1 (b + 1) = X.1 (b + 1) := hx _ (by unfold eqNo at hno; omega) (by unfold eqNo at hno; omega)
  have e2 : X'.1 (b + 2) = X.1 (b + 2) := hx _ (by unfold eqNo at hno; omega) (by unfold eqNo at hno; omega)
  have e3 : X'.1 (b + 3) = X.1 (b + 3) := hx _ (by unfold eqNo at hno; omega) (by unfold eqNo at hno; omega)
  have e4 : X'.1 (b + 4) = X.1 (b + 4) := hx _ (by unfold eqNo at hno; omega) (by unfold eqNo at hno; omega)
  unfold EqR at *
  simp only [e0, e1, e2, e3, e4, hy 1 (by decide) (by decide), hy 2 (by decide) (by decide), hy 3 (by decide) (by decide), hy 4 (by decide) (by decide), hy 5 (by decide) (by decide)]
  exact h
/-- behind a change nothing is kept -/
theorem Sim.fresh {X Y : Mem} {n0 n1 : Nat} (h0 : EqR X Y 1 0 0 n0) (h1 : EqR X Y 6 8 1 n1) (hk : X.1 16 2 = 0) (hm : X.1 21 2 = 0) : Sim X Y := ⟨n0, n1, h0, h1, Or.inl hk, Or.inl hm⟩
theorem forget_cell (X : Mem) : ∀ c, 1 ≤ c → c ≤ 10 → (setI (setI X 16 2 0) 21 2 0).1 c = X.1 c := by
  intro c h1 h2
  rw [setI_ne (by omega), setI_ne (by omega)]
theorem forget_k (X : Mem) : (setI (setI X 16 2 0) 21 2 0).1 16 2 = 0 ∧ (setI (setI X 16 2 0) 21 2 0).1 21 2 = 0 := by simp [setI, upd]
theorem Sim.forget {X Y : Mem} {n0 n1 : Nat} (h0 : EqR X Y 1 0 0 n0) (h1 : EqR X Y 6 8 1 n1) : Sim (setI (setI X 16 2 0) 21 2 0) Y :=
  Sim.fresh (h0.congr (Or.inl ⟨rfl, rfl, rfl⟩) (forget_cell X) (fun _ _ _ => rfl)) (h1.congr (Or.inr ⟨rfl, rfl, rfl⟩) (forget_cell X) (fun _ _ _ => rfl)) (forget_k X).1 (forget_k X).2
def okv (k : Nat) (v : Int32) : Prop := (k = 3 ∧ v.toInt ≠ 0 ∧ -20 ≤ v.toInt ∧ v.toInt ≤ 20) ∨ (k = 4 ∧ 0 ≤ v.toInt ∧ v.toInt ≤ 100)
theorem EqR.put {X Y : Mem} {b o j n t k : Nat} {v : Int32} (hno : eqNo b o j) (h : EqR X Y b o j n) (ht : t < n) (hv : okv k v) : EqR (setI X (b + k) t v) (setI Y k (o + t) v) b o j n := by
  obtain ⟨s1, s2, s3, s4, s5, s6⟩ := h
  have hk : k = 3 ∨ k = 4 := by unfold okv at hv; omega
  refine ⟨by rw [setI_ne (by omega)]; exact s1, by rw [setI_ne (by omega)]; exact s2, s3, ?_, ?_, ?_⟩
  · intro u hu
    obtain ⟨q1, q2, q3, q4⟩ := s4 u hu
    rw [setI_ne (show b + 1 ≠ b + k by omega), setI_ne (show b + 2 ≠ b + k by omega), setI_ne (show (1 : Nat) ≠ k by omega), setI_ne (show (2 : Nat) ≠ k by omega)]
    refine ⟨q1, q2, ?_, ?_⟩
    · rcases hk with rfl | rfl
      · by_cases e : u = t
        · subst e; rw [setI_eq, setI_eq]
        · rw [setI_nk e, setI_nk (by omega)]; exact q3
      · rw [setI_ne (by omega), setI_ne (by omega)]; exact q3
    · rcases hk with rfl | rfl
      · rw [setI_ne (by omega), setI_ne (by omega)]; exact q4
      · by_cases e : u = t
        · subst e; rw [setI_eq, setI_eq]
        · rw [setI_nk e, setI_nk (by omega)]; exact q4
  · intro u hu
    obtain ⟨q1, q2, q3, q4⟩ := s5 u hu
    rw [setI_ne (show b + 1 ≠ b + k by omega), setI_ne (show b + 2 ≠ b + k by omega)]
    refine ⟨q1, q2, ?_, ?_⟩
    · rcases hk with rfl | rfl
      · by_cases e : u = t
        · subst e; rw [setI_eq]; unfold okv at hv; omega
        · rw [setI_nk e]; exact q3
      · rw [setI_ne (by omega)]; exact q3
    · rcases hk with rfl | rfl
      · rw [setI_ne (by omega)]; exact q4
      · by_cases e : u = t
        · subst e; rw [setI_eq]; unfold okv at hv; omega
        · rw [setI_nk e]; exact q4
  · intro u w hu hw
    rw [setI_ne (show b + 1 ≠ b + k by omega), setI_ne (show b + 2 ≠ b + k by omega)]
    exact s6 u w hu hw
theorem EqR.other {X Y : Mem} {b o j n b2 o2 j2 t k : Nat} {v : Int32} (hno : eqNo b o j) (hno2 : eqNo b2 o2 j2) (hne : b2 ≠ b) (h : EqR X Y b o j n) (ht : t < 8) (hk : 1 ≤ k ∧ k ≤ 4) : EqR (setI X (b2 + k) t v) (setI Y k (o2 + t) v) b o j n := by
  obtain ⟨s1, s2, s3, s4, s5, s6⟩ := h
  have hx : ∀ i, i ≤ 4 → (setI X (b2 + k) t v).1 (b + i) = X.1 (b + i) := fun i hi => setI_ne (by unfold eqNo at *; omega)
  have hy : ∀ i u, u < n → (setI Y k (o2 + t) v).1 i (o + u) = Y.1 i (o + u) := by
    intro i u hu
    by_cases e : i = k
    · subst e; exact setI_nk (by unfold eqNo at *; omega)
    · rw [setI_ne e]
  have e0 : (setI X (b2 + k) t v).1 b = X.1 b := hx 0 (by omega)
  refine ⟨by rw [e0]; exact s1, by rw [setI_ne (by omega)]; exact s2, s3, ?_, ?_, ?_⟩
  · intro u hu
    rw [hx 1 (by omega), hx 2 (by omega), hx 3 (by omega), hx 4 (by omega), hy 1 u hu, hy 2 u hu, hy 3 u hu, hy 4 u hu]
    exact s4 u hu
  · intro u hu
    rw [hx 1 (by omega), hx 2 (by omega), hx 3 (by omega), hx 4 (by omega)]
    exact s5 u hu
  · intro u w hu hw
    rw [hx 1 (by omega), hx 2 (by omega)]
    exact s6 u w hu hw
theorem no0 : eqNo 1 0 0 := Or.inl ⟨rfl, rfl, rfl⟩
theorem no1 : eqNo 6 8 1 := Or.inr ⟨rfl, rfl, rfl⟩
theorem st_change {X Y : Mem} (a1 a2 a3 : Int32) (h : Sim X Y) : ∃ (r : Int32) (X' Y' : Mem), fX5_change X a1 a2 a3 = some (r, X') ∧ fX6_change Y a1 a2 a3 = some (r, Y') ∧ Sim X' Y' := by
  have core : ∀ b o j n, eqNo b o j → EqR X Y b o j n → (∀ t, t < n → okv 3 a3 → Sim (setI (setI (setI X (b + 3) t a3) 16 2 0) 21 2 0) (setI Y 3 (o + t) a3)) → ∃ (r : Int32) (X' Y' : Mem), ((fX0_has X b a2).bind fun v3 => if v3 = 0 then some ((-101 : Int32), X) else (fX5_isFactor a3).bind fun v4 => if v4 = 0 then some ((-102 : Int32), X) else (ldI X (b + 3) 8 a2).bind fun v5 => (stI X (b + 3) 8 a2 a3).bind fun M6 => (fX5_forgetFound M6).bind fun M7 => some (v5, M7)) = some (r, X') ∧ fX6_change Y (nI j) a2 a3 = some (r, Y') ∧ Sim X' Y' := by
    intro b o j n hno hR hfin
    obtain ⟨s1, s2, s3, s4, s5, s6⟩ := hR
    have hj : j < 2 := hno.j
    have ho : o = 8 * j := hno.o
    unfold fX6_change
    rw [has_eq s1 s3, isTerm_eq hj s2 s3, isFactor_eq, in32]
    simp only [ob_some, ifb]
    by_cases hp : 0 ≤ a2.toInt ∧ a2.toInt < n
    · obtain ⟨t, ht, rfl⟩ := a_of hp (by omega)
      obtain ⟨q1, q2, q3, q4⟩ := s4 t ht
      simp only [hp, and_self, decide_true, if_true]
      have e1 : (-20 : Int64).toInt = -20 := by decide
      have e2 : (20 : Int64).toInt = 20 := by decide
      rw [e1, e2]
      have l3 : ldI X (b + 3) 8 (nI t) = some (X.1 (b + 3) t) := ldI_n (by omega) (by decide)
      have m3 : ldI Y 3 16 (nI (o + t)) = some (Y.1 3 (o + t)) := ldI_n (by omega) (by decide)
      have l4 : stI X (b + 3) 8 (nI t) a3 = some (setI X (b + 3) t a3) := stI_n (by omega) (by decide)
      have m4 : stI Y 3 16 (nI (o + t)) a3 = some (setI Y 3 (o + t) a3) := stI_n (by omega) (by decide)
      simp only [e8, ← ho, l3, m3, l4, m4, ob_some, forget_eq]
      by_cases c1 : -20 ≤ a3.toInt ∧ a3.toInt ≤ 20
      · by_cases c2 : a3 = 0
        · subst c2
          exact ⟨-102, X, Y, by simp, by simp, h⟩
        · have c3 : a3.toInt ≠ 0 := fun q => c2 ((i_eq a3 0).mpr (by rw [q]; rfl))
          refine ⟨Y.1 3 (o + t), _, _, by simp [c1, c2, c3, q3], by simp [c1, c2], hfin t ht (Or.inl ⟨rfl, c3, c1⟩)⟩
      · exact ⟨-102, X, Y, by simp [c1], by simp [c1], h⟩
    · simp only [hp, decide_false]
      exact ⟨_, _, _, rfl, rfl, h⟩
  obtain ⟨n0, n1, h0, h1, -⟩ := id h
  unfold fX5_change
  by_cases c0 : a1 = 0
  · subst c0
    obtain ⟨r, X', Y', g1, g2, g3⟩ := core 1 0 0 n0 no0 h0 (fun t ht hv => Sim.forget (h0.put no0 ht hv) (h1.other no1 no0 (by decide) (by have := h0.2.2.1; omega) (by decide)))
    rw [eqOf_0]
    exact ⟨r, X', Y', g1, g2, g3⟩
  · by_cases c1 : a1 = 1
    · subst c1
      obtain ⟨r, X', Y', g1, g2, g3⟩ := core 6 8 1 n1 no1 h1 (fun t ht hv => Sim.forget (h0.other no0 no1 (by decide) (by have := h1.2.2.1; omega) (by decide)) (h1.put no1 ht hv))
      rw [eqOf_1]
      exact ⟨r, X', Y', g1, g2, g3⟩
    · rw [eqOf_n c0 c1]
      refine ⟨-101, X, Y, rfl, ?_, h⟩
      unfold fX6_change
      rw [isTerm_n c0 c1]; rfl
theorem st_lift {X Y : Mem} (a1 a2 a3 : Int32) (h : Sim X Y) : ∃ (r : Int32) (X' Y' : Mem), fX5_lift X a1 a2 a3 = some (r, X') ∧ fX6_lift Y a1 a2 a3 = some (r, Y') ∧ Sim X' Y' := by
  have core : ∀ b o j n, eqNo b o j → EqR X Y b o j n → (∀ t, t < n → okv 4 a3 → Sim (setI (setI (setI X (b + 4) t a3) 16 2 0) 21 2 0) (setI Y 4 (o + t) a3)) → ∃ (r : Int32) (X' Y' : Mem), ((fX0_has X b a2).bind fun v3 => if v3 = 0 then some ((-1 : Int32), X) else (fX5_within a3 0 100).bind fun v4 => if v4 = 0 then some ((-2 : Int32), X) else (ldI X (b + 4) 8 a2).bind fun v5 => (stI X (b + 4) 8 a2 a3).bind fun M6 => (fX5_forgetFound M6).bind fun M7 => some (v5, M7)) = some (r, X') ∧ fX6_lift Y (nI j) a2 a3 = some (r, Y') ∧ Sim X' Y' := by
    intro b o j n hno hR hfin
    obtain ⟨s1, s2, s3, s4, s5, s6⟩ := hR
    have hj : j < 2 := hno.j
    have ho : o = 8 * j := hno.o
    unfold fX6_lift
    rw [has_eq s1 s3, isTerm_eq hj s2 s3, within_eq, in32]
    simp only [ob_some, ifb]
    by_cases hp : 0 ≤ a2.toInt ∧ a2.toInt < n
    · obtain ⟨t, ht, rfl⟩ := a_of hp (by omega)
      obtain ⟨q1, q2, q3, q4⟩ := s4 t ht
      simp only [hp, and_self, decide_true, if_true]
      have e1 : (0 : Int64).toInt = 0 := by decide
      have e2 : (100 : Int64).toInt = 100 := by decide
      have e3 : (0 : Int32).toInt = 0 := by decide
      have e4 : (100 : Int32).toInt = 100 := by decide
      rw [e1, e2, e3, e4]
      have l3 : ldI X (b + 4) 8 (nI t) = some (X.1 (b + 4) t) := ldI_n (by omega) (by decide)
      have m3 : ldI Y 4 16 (nI (o + t)) = some (Y.1 4 (o + t)) := ldI_n (by omega) (by decide)
      have l4 : stI X (b + 4) 8 (nI t) a3 = some (setI X (b + 4) t a3) := stI_n (by omega) (by decide)
      have m4 : stI Y 4 16 (nI (o + t)) a3 = some (setI Y 4 (o + t) a3) := stI_n (by omega) (by decide)
      simp only [e8, ← ho, l3, m3, l4, m4, ob_some, forget_eq]
      by_cases c1 : 0 ≤ a3.toInt ∧ a3.toInt ≤ 100
      · refine ⟨Y.1 4 (o + t), _, _, by simp [c1, q4], by simp [c1], hfin t ht (Or.inr ⟨rfl, c1⟩)⟩
      · exact ⟨-2, X, Y, by simp [c1], by simp [c1], h⟩
    · simp only [hp, decide_false]
      exact ⟨_, _, _, rfl, rfl, h⟩
  obtain ⟨n0, n1, h0, h1, -⟩ := id h
  unfold fX5_lift
  by_cases c0 : a1 = 0
  · subst c0
    obtain ⟨r, X', Y', g1, g2, g3⟩ := core 1 0 0 n0 no0 h0 (fun t ht hv => Sim.forget (h0.put no0 ht hv) (h1.other no1 no0 (by decide) (by have := h0.2.2.1; omega) (by decide)))
    rw [eqOf_0]
    exact ⟨r, X', Y', g1, g2, g3⟩
  · by_cases c1 : a1 = 1
    · subst c1
      obtain ⟨r, X', Y', g1, g2, g3⟩ := core 6 8 1 n1 no1 h1 (fun t ht hv => Sim.forget (h0.other no0 no1 (by decide) (by have := h1.2.2.1; omega) (by decide)) (h1.put no1 ht hv))
      rw [eqOf_1]
      exact ⟨r, X', Y', g1, g2, g3⟩
    · rw [eqOf_n c0 c1]
      refine ⟨-1, X, Y, rfl, ?_, h⟩
      unfold fX6_lift
      rw [isTerm_n c0 c1]; rfl

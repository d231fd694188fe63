/-! steps along a way -/
def wya (P Q : Int) : Int := (-Q).tdiv (gg P Q)
def wyb (P Q : Int) : Int := P.tdiv (gg P Q)
theorem way_fin : ((List.range 25).all fun x => (List.range 25).all fun y => (decide (x = 12) && decide (y = 12)) || (decide (0 < gg ((x : Int) - 12) ((y : Int) - 12)) && (decide (gg ((x : Int) - 12) ((y : Int) - 12) ≤ 12) && (decide ((x : Int) - 12 = gg ((x : Int) - 12) ((y : Int) - 12) * wyb ((x : Int) - 12) ((y : Int) - 12)) && (decide ((y : Int) - 12 = -(gg ((x : Int) - 12) ((y : Int) - 12) * wya ((x : Int) - 12) ((y : Int) - 12))) && (decide (-12 ≤ wya ((x : Int) - 12) ((y : Int) - 12)) && (decide (wya ((x : Int) - 12) ((y : Int) - 12) ≤ 12) && (decide (-12 ≤ wyb ((x : Int) - 12) ((y : Int) - 12)) && (decide (wyb ((x : Int) - 12) ((y : Int) - 12) ≤ 12) && decide (Nat.gcd (wya ((x : Int) - 12) ((y : Int) - 12)).natAbs (wyb ((x : Int) - 12) ((y : Int) - 12)).natAbs = 1)))))))))) = true := by decide +kernel
def dirOK (P Q : Int) : Prop := (-12 ≤ P ∧ P ≤ 12) ∧ (-12 ≤ Q ∧ Q ≤ 12) ∧ (P ≠ 0 ∨ Q ≠ 0)
theorem way_ok {P Q : Int} (h : dirOK P Q) : 0 < gg P Q ∧ gg P Q ≤ 12 ∧ P = gg P Q * wyb P Q ∧ Q = -(gg P Q * wya P Q) ∧ -12 ≤ wya P Q ∧ wya P Q ≤ 12 ∧ -12 ≤ wyb P Q ∧ wyb P Q ≤ 12 ∧ Nat.gcd (wya P Q).natAbs (wyb P Q).natAbs = 1 := by
  obtain ⟨h1, h2, h3⟩ := h
  have q1 := List.all_eq_true.mp way_fin (P + 12).toNat (List.mem_range.mpr (by omega))
  have q2 := List.all_eq_true.mp q1 (Q + 12).toNat (List.mem_range.mpr (by omega))
  have e1 : (((P + 12).toNat : Nat) : Int) - 12 = P := by omega
  have e2 : (((Q + 12).toNat : Nat) : Int) - 12 = Q := by omega
  rw [e1, e2] at q2
  simp only [Bool.or_eq_true, Bool.and_eq_true, decide_eq_true_eq] at q2
  rcases q2 with w | w
  · omega
  · exact w
theorem par_ex {a b dx dy : Int} (hg : Nat.gcd a.natAbs b.natAbs = 1) (h : b * dx = a * dy) : ∃ t : Int, dx = t * a ∧ dy = t * b := by
  by_cases ha : a = 0
  · subst ha
    have hb : b.natAbs = 1 := by simpa using hg
    rw [Int.zero_mul] at h
    have h0 : dx = 0 := by
      rcases Int.mul_eq_zero.mp h with w | w
      · omega
      · exact w
    refine ⟨dy * b, by rw [h0]; simp, ?_⟩
    have : b = 1 ∨ b = -1 := by omega
    rcases this with e | e
    · rw [e]; simp
    · rw [e]; simp
  · have d : a.natAbs ∣ b.natAbs * dx.natAbs := ⟨dy.natAbs, by rw [← Int.natAbs_mul, ← Int.natAbs_mul, h]⟩
    have d2 : a.natAbs ∣ dx.natAbs := Nat.Coprime.dvd_of_dvd_mul_left hg d
    obtain ⟨t, ht⟩ := Int.natAbs_dvd_natAbs.mp d2
    refine ⟨t, by rw [ht]; exact Int.mul_comm _ _, ?_⟩
    rw [ht] at h
    have : a * (b * t) = a * dy := by rw [← h]; grind
    have := Int.eq_of_mul_eq_mul_left ha this
    rw [← this]; exact Int.mul_comm _ _
theorem flr_add {a b t : Int} (hb : b ≠ 0) : flr (a + t * b) b = flr a b + t := by
  unfold flr
  by_cases c : 0 ≤ b
  · rw [if_pos c, if_pos c, Int.add_mul_ediv_right _ _ hb]
  · rw [if_neg c, if_neg c]
    have e : -(a + t * b) = -a + t * (-b) := by rw [Int.mul_neg]; omega
    rw [e, Int.add_mul_ediv_right _ _ (by omega)]
theorem isF_iff {v : Nat → Int} {n s : Nat} : isF v n s = true ↔ s < n ∧ ∀ u, u < n → v s ≤ v u := by
  unfold isF
  rw [Bool.and_eq_true, decide_eq_true_eq, allB_iff]
  constructor
  · intro ⟨a, b⟩; exact ⟨a, fun u hu => of_decide_eq_true (b u hu)⟩
  · intro ⟨a, b⟩; exact ⟨a, fun u hu => decide_eq_true (b u hu)⟩
def TauOK (E : Nat → Nat → Int32) (bs n : Nat) (P Q : Int) (B : Nat) (tau : Nat → Nat) : Prop :=
  (-144 ≤ lmin (fun s => B.testBit s) (vv E bs (wya P Q) (wyb P Q)) n ∧ lmin (fun s => B.testBit s) (vv E bs (wya P Q) (wyb P Q)) n ≤ 144) ∧
  (-1000 ≤ rmin (fun s => B.testBit s) (stp E bs (wya P Q) (wyb P Q)) 1000 n ∧ rmin (fun s => B.testBit s) (stp E bs (wya P Q) (wyb P Q)) 1000 n ≤ 1000) ∧
  (∀ s, s < n → B.testBit s = true → tau s ≤ 6 ∧ vv E bs (wya P Q) (wyb P Q) s - lmin (fun s => B.testBit s) (vv E bs (wya P Q) (wyb P Q)) n = (tau s : Int) * (wya P Q * wya P Q + wyb P Q * wyb P Q) ∧ stp E bs (wya P Q) (wyb P Q) s - rmin (fun s => B.testBit s) (stp E bs (wya P Q) (wyb P Q)) 1000 n = (tau s : Int)) ∧
  (∃ m, m < n ∧ B.testBit m = true ∧ tau m = 0) ∧
  (∀ s u, s < n → u < n → B.testBit s = true → B.testBit u = true → tau s = tau u → E (bs + 1) s = E (bs + 1) u ∧ E (bs + 2) s = E (bs + 2) u)
theorem dd_pos {a b : Int} (h : a ≠ 0 ∨ b ≠ 0) : 0 < a * a + b * b := by
  have h1 := sq_nn a
  have h2 := sq_nn b
  rcases h with w | w
  · have : a * a ≠ 0 := fun q => w (sq_0 q)
    omega
  · have : b * b ≠ 0 := fun q => w (sq_0 q)
    omega
theorem abs_le_mul {t a : Int} (ha : a ≠ 0) (h : -6 ≤ t * a ∧ t * a ≤ 6) : -6 ≤ t ∧ t ≤ 6 := by
  have e : (t * a).natAbs = t.natAbs * a.natAbs := Int.natAbs_mul t a
  have := Nat.mul_le_mul_left t.natAbs (show 1 ≤ a.natAbs by omega)
  omega
theorem tau_ex {E : Nat → Nat → Int32} {bs n B : Nat} {P Q : Int} (hok : okN E bs n) (hn : 0 < n) (hd : dirOK P Q) (hB : ∀ s, B.testBit s = isF (vv E bs P Q) n s) : ∃ tau, TauOK E bs n P Q B tau := by
  obtain ⟨g1, g2, eP, eQ, a1, a2, b1, b2, hg⟩ := way_ok hd
  generalize ha : wya P Q = a at *
  generalize hb : wyb P Q = b at *
  generalize hgg : gg P Q = g at *
  have hab : a ≠ 0 ∨ b ≠ 0 := by
    rcases Classical.em (a = 0) with w | w
    · right
      intro q
      rw [w, q] at hg
      exact absurd hg (by decide)
    · exact Or.inl w
  have hD := dd_pos hab
  have hF : ∀ s, B.testBit s = true → s < n := fun s hs => by rw [hB s] at hs; exact (isF_iff.mp hs).1
  have bx := fun s (hs : s < n) => vv_bd hok hs (show -12 ≤ a ∧ a ≤ 12 by omega) (show -12 ≤ b ∧ b ≤ 12 by omega)
  have bst := fun s (hs : s < n) => stp_bd hok hs (show -12 ≤ a ∧ a ≤ 12 by omega) (show -12 ≤ b ∧ b ≤ 12 by omega) hab
  have bv := fun s (hs : s < n) => vv_bd hok hs hd.1 hd.2.1
  have ex : ∃ m, B.testBit m = true := by
    rcases rmin_ok (F := fun _ => true) (x := vv E bs P Q) (L0 := 1000) (n := n) (fun s hs _ => by have := bv s hs; omega) n (Nat.le_refl _) with ⟨-, w⟩ | ⟨m, m1, -, m3, m4⟩
    · exact absurd (w 0 hn) (by decide)
    · exact ⟨m, by rw [hB m]; exact isF_iff.mpr ⟨m1, fun u hu => m4 u hu rfl⟩⟩
  obtain ⟨m0, hm0⟩ := ex
  have rel : ∀ s u, B.testBit s = true → B.testBit u = true → ∃ t : Int, (E (bs + 1) s).toInt - (E (bs + 1) u).toInt = t * a ∧ (E (bs + 2) s).toInt - (E (bs + 2) u).toInt = t * b := by
    intro s u hs hu
    have s1 := isF_iff.mp (by rw [← hB s]; exact hs)
    have u1 := isF_iff.mp (by rw [← hB u]; exact hu)
    have e1 := s1.2 u u1.1
    have e2 := u1.2 s s1.1
    have e : vv E bs P Q s = vv E bs P Q u := by omega
    unfold vv at e
    apply par_ex hg
    have z : g * (b * ((E (bs + 1) s).toInt - (E (bs + 1) u).toInt) - a * ((E (bs + 2) s).toInt - (E (bs + 2) u).toInt)) = 0 := by
      rw [eP, eQ] at e
      grind
    rcases Int.mul_eq_zero.mp z with w | w
    · omega
    · omega
  have relx : ∀ s u t, (E (bs + 1) s).toInt - (E (bs + 1) u).toInt = t * a → (E (bs + 2) s).toInt - (E (bs + 2) u).toInt = t * b → vv E bs a b s - vv E bs a b u = t * (a * a + b * b) := by
    intro s u t h1 h2
    unfold vv
    grind
  have rels : ∀ s u t, (E (bs + 1) s).toInt - (E (bs + 1) u).toInt = t * a → (E (bs + 2) s).toInt - (E (bs + 2) u).toInt = t * b → stp E bs a b s - stp E bs a b u = t := by
    intro s u t h1 h2
    unfold stp
    by_cases c : a = 0
    · rw [if_pos c, if_pos c]
      have e : (E (bs + 2) s).toInt = (E (bs + 2) u).toInt + t * b := by omega
      rw [e, flr_add (by omega)]; omega
    · rw [if_neg c, if_neg c]
      have e : (E (bs + 1) s).toInt = (E (bs + 1) u).toInt + t * a := by omega
      rw [e, flr_add c]; omega
  rcases rmin_ok (F := fun s => B.testBit s) (x := vv E bs a b) (L0 := 2147483647) (n := n) (fun s hs _ => by have := bx s hs; omega) n (Nat.le_refl _) with ⟨-, w⟩ | ⟨m, m1, m2, m3, m4⟩
  · have := w m0 (hF m0 hm0)
    rw [hm0] at this
    exact absurd this (by decide)
  have m3' : lmin (fun s => B.testBit s) (vv E bs a b) n = vv E bs a b m := m3
  have pos : ∀ s t, B.testBit s = true → (E (bs + 1) s).toInt - (E (bs + 1) m).toInt = t * a → (E (bs + 2) s).toInt - (E (bs + 2) m).toInt = t * b → 0 ≤ t := by
    intro s t hs h1 h2
    have e := relx s m t h1 h2
    have q := m4 s (hF s hs) hs
    rcases Int.lt_or_le t 0 with c | c
    · have : t * (a * a + b * b) < 0 := Int.mul_neg_of_neg_of_pos c hD
      omega
    · exact c
  have le6 : ∀ s t, B.testBit s = true → (E (bs + 1) s).toInt - (E (bs + 1) m).toInt = t * a → (E (bs + 2) s).toInt - (E (bs + 2) m).toInt = t * b → t ≤ 6 := by
    intro s t hs h1 h2
    have q1 := hok.2 s (hF s hs)
    have q2 := hok.2 m m1
    rcases hab with w | w
    · exact (abs_le_mul w (by omega)).2
    · exact (abs_le_mul w (by omega)).2
  rcases rmin_ok (F := fun s => B.testBit s) (x := stp E bs a b) (L0 := 1000) (n := n) (fun s hs _ => by have := bst s hs; omega) n (Nat.le_refl _) with ⟨-, w⟩ | ⟨k, k1, k2, k3, k4⟩
  · have := w m0 (hF m0 hm0)
    rw [hm0] at this
    exact absurd this (by decide)
  have k3' : rmin (fun s => B.testBit s) (stp E bs a b) 1000 n = stp E bs a b m := by
    rw [k3]
    obtain ⟨t, t1, t2⟩ := rel k m k2 m2
    have p := pos k t k2 t1 t2
    have r := rels k m t t1 t2
    have q := k4 m m1 m2
    omega
  refine ⟨fun s => ((vv E bs a b s - vv E bs a b m) / (a * a + b * b)).toNat, ?_⟩
  unfold TauOK
  rw [ha, hb, m3', k3']
  have tv : ∀ s t, B.testBit s = true → (E (bs + 1) s).toInt - (E (bs + 1) m).toInt = t * a → (E (bs + 2) s).toInt - (E (bs + 2) m).toInt = t * b → ((((vv E bs a b s - vv E bs a b m) / (a * a + b * b)).toNat : Nat) : Int) = t := by
    intro s t hs h1 h2
    rw [relx s m t h1 h2, Int.mul_ediv_cancel _ (by omega)]
    have := pos s t hs h1 h2
    omega
  refine ⟨bx m m1, by have := bst m m1; omega, fun s hs hs2 => ?_, ⟨m, m1, m2, ?_⟩, fun s u hs hu hs2 hu2 he => ?_⟩
  · obtain ⟨t, t1, t2⟩ := rel s m hs2 m2
    have e := tv s t hs2 t1 t2
    have l := le6 s t hs2 t1 t2
    dsimp only
    refine ⟨by omega, ?_, ?_⟩
    · rw [e]; exact relx s m t t1 t2
    · rw [e]; exact rels s m t t1 t2
  · dsimp only
    rw [Int.sub_self, Int.zero_ediv]; rfl
  · obtain ⟨t, t1, t2⟩ := rel s m hs2 m2
    obtain ⟨r, r1, r2⟩ := rel u m hu2 m2
    have e1 := tv s t hs2 t1 t2
    have e2 := tv u r hu2 r1 r2
    dsimp only at he
    have : t = r := by omega
    rw [this] at t1 t2
    constructor
    · rw [i_eq]; omega
    · rw [i_eq]; omega

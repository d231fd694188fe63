/-! promise 13: fronts as bits -/
def vv (E : Nat → Nat → Int32) (bs : Nat) (p q : Int) (t : Nat) : Int := p * (E (bs + 1) t).toInt + q * (E (bs + 2) t).toInt
def isF (v : Nat → Int) (n s : Nat) : Bool := decide (s < n) && allB (fun u => decide (v s ≤ v u)) n
theorem mul_in {p i : Int} {P I : Int} (h1 : -P ≤ p) (h2 : p ≤ P) (h3 : 0 ≤ i) (h4 : i ≤ I) (hP : 0 ≤ P) : -(P * I) ≤ p * i ∧ p * i ≤ P * I := by
  have a1 : p * i ≤ P * i := Int.mul_le_mul_of_nonneg_right h2 h3
  have a2 : P * i ≤ P * I := Int.mul_le_mul_of_nonneg_left h4 hP
  have a3 : -P * i ≤ p * i := Int.mul_le_mul_of_nonneg_right h1 h3
  rw [Int.neg_mul] at a3
  omega
theorem vv_bd {E : Nat → Nat → Int32} {bs n t : Nat} {p q : Int} (h : okN E bs n) (ht : t < n) (hp : -12 ≤ p ∧ p ≤ 12) (hq : -12 ≤ q ∧ q ≤ 12) : -144 ≤ vv E bs p q t ∧ vv E bs p q t ≤ 144 := by
  obtain ⟨⟨i1, i2⟩, ⟨j1, j2⟩, -⟩ := h.2 t ht
  have a := mul_in (P := 12) (I := 6) hp.1 hp.2 i1 i2 (by decide)
  have b := mul_in (P := 12) (I := 6) hq.1 hq.2 j1 j2 (by decide)
  unfold vv
  omega
theorem vv_i (E : Nat → Nat → Int32) (bs : Nat) (p q : Int) (t : Nat) : iI p * E (bs + 1) t + iI q * E (bs + 2) t = iI (vv E bs p q t) := by
  unfold vv
  conv => lhs; rw [← iI_of (E (bs + 1) t), ← iI_of (E (bs + 2) t)]
  rw [iI_mul, iI_mul, iI_add]
set_option maxRecDepth 100000 in
theorem orb_fin : ∀ t, t < 8 → ∀ B, B < 256 → nI B ||| ((1 : Int32) <<< (nI t &&& 31)) = nI (B ||| 2 ^ t) := by decide +kernel
/-- behind t terms: the least, and which have it -/
def FI (v : Nat → Int) (L0 l : Int) (B t : Nat) : Prop := B < 2 ^ t ∧ (∀ s, s < t → l ≤ v s) ∧ (∀ s, B.testBit s = true ↔ (s < t ∧ v s = l)) ∧ (t = 0 → l = L0) ∧ (0 < t → ∃ s, s < t ∧ v s = l)
theorem FI.start (v : Nat → Int) (L0 : Int) : FI v L0 L0 0 0 := ⟨by decide, fun s h => by omega, fun s => by simp, fun _ => rfl, fun h => by omega⟩
theorem FI.less {v : Nat → Int} {L0 l : Int} {B t : Nat} (h : FI v L0 l B t) (hv : v t < l) : FI v L0 (v t) (2 ^ t) (t + 1) := by
  obtain ⟨h1, h2, h3, h4, h5⟩ := h
  refine ⟨Nat.pow_lt_pow_right (by decide) (by omega), fun s hs => ?_, fun s => ?_, fun q => by omega, fun _ => ⟨t, by omega, rfl⟩⟩
  · rcases Nat.lt_or_ge s t with q | q
    · have := h2 s q; omega
    · rw [show s = t by omega]; exact Int.le_refl _
  · rw [Nat.testBit_two_pow]
    simp only [decide_eq_true_eq]
    constructor
    · rintro rfl; exact ⟨by omega, rfl⟩
    · rintro ⟨q1, q2⟩
      rcases Nat.lt_or_ge s t with q | q
      · have := h2 s q; omega
      · omega
theorem FI.same {v : Nat → Int} {L0 l : Int} {B t : Nat} (h : FI v L0 l B t) (hv : v t = l) : FI v L0 l (B ||| 2 ^ t) (t + 1) := by
  obtain ⟨h1, h2, h3, h4, h5⟩ := h
  refine ⟨Nat.or_lt_two_pow (Nat.lt_of_lt_of_le h1 (Nat.pow_le_pow_right (by decide) (by omega))) (Nat.pow_lt_pow_right (by decide) (by omega)), fun s hs => ?_, fun s => ?_, fun q => by omega, fun _ => ⟨t, by omega, hv⟩⟩
  · rcases Nat.lt_or_ge s t with q | q
    · exact h2 s q
    · rw [show s = t by omega, hv]; exact Int.le_refl _
  · rw [Nat.testBit_or, Nat.testBit_two_pow, Bool.or_eq_true, h3]
    simp only [decide_eq_true_eq]
    constructor
    · rintro (⟨q1, q2⟩ | rfl)
      · exact ⟨by omega, q2⟩
      · exact ⟨by omega, hv⟩
    · rintro ⟨q1, q2⟩
      rcases Nat.lt_or_ge s t with q | q
      · exact Or.inl ⟨q, q2⟩
      · exact Or.inr (by omega)
theorem FI.more {v : Nat → Int} {L0 l : Int} {B t : Nat} (h : FI v L0 l B t) (hv : l < v t) (h0 : v t < L0) : FI v L0 l B (t + 1) := by
  obtain ⟨h1, h2, h3, h4, h5⟩ := h
  have ht : 0 < t := by
    rcases Nat.eq_zero_or_pos t with q | q
    · have := h4 q; omega
    · exact q
  refine ⟨Nat.lt_of_lt_of_le h1 (Nat.pow_le_pow_right (by decide) (by omega)), fun s hs => ?_, fun s => ?_, fun q => by omega, fun _ => ?_⟩
  · rcases Nat.lt_or_ge s t with q | q
    · exact h2 s q
    · rw [show s = t by omega]; omega
  · rw [h3]
    constructor
    · rintro ⟨q1, q2⟩; exact ⟨by omega, q2⟩
    · rintro ⟨q1, q2⟩
      refine ⟨?_, q2⟩
      rcases Nat.lt_or_ge s t with q | q
      · exact q
      · rw [show s = t by omega] at q2; omega
  · obtain ⟨s, s1, s2⟩ := h5 ht
    exact ⟨s, by omega, s2⟩
theorem FI.fin {v : Nat → Int} {L0 l : Int} {B n : Nat} (h : FI v L0 l B n) : ∀ s, B.testBit s = isF v n s := by
  obtain ⟨h1, h2, h3, h4, h5⟩ := h
  intro s
  have : B.testBit s = true ↔ isF v n s = true := by
    rw [h3]
    unfold isF
    rw [Bool.and_eq_true, allB_iff]
    simp only [decide_eq_true_eq]
    constructor
    · rintro ⟨q1, q2⟩
      exact ⟨q1, fun u hu => by rw [q2]; exact h2 u hu⟩
    · rintro ⟨q1, q2⟩
      obtain ⟨u, u1, u2⟩ := h5 (by omega)
      have a := q2 u u1
      have b := h2 s q1
      exact ⟨q1, by omega⟩
  cases hB : B.testBit s <;> cases hF : isF v n s <;> simp_all
theorem bits_eq {M : Mem} {E : Nat → Nat → Int32} {bs n N : Nat} {p q : Int} (hN : 9 ≤ N) (hb : bs = 1 ∨ bs = 6) (hE : ∀ k, 1 ≤ k → k ≤ 10 → M.1 k = E k) (hn : M.1 bs 4 = nI n) (hok : okN E bs n) (hp : -12 ≤ p ∧ p ≤ 12) (hq : -12 ≤ q ∧ q ≤ 12) : ∃ B, fX2_bitsOf N M bs (iI p) (iI q) = some (nI B) ∧ B < 2 ^ n ∧ ∀ s, B.testBit s = isF (vv E bs p q) n s := by
  have hn8 := hok.1
  have key := lp_rule (bot := fun _ _ _ => none) (step := sX2_bitsOf_10 M bs (iI p) (iI q)) (fun m f => ∀ t l B, t ≤ n → n - t < m → -2147483648 ≤ l → l < 2147483648 → FI (vv E bs p q) 2147483647 l B t → ∃ B2, f (nI B) (iI l) (nI t) = some (nI B2) ∧ B2 < 2 ^ n ∧ ∀ s, B2.testBit s = isF (vv E bs p q) n s) (fun t l B _ h => by omega) (by
    intro m f hf t l B ht hm hl1 hl2 hF
    unfold sX2_bitsOf_10
    rw [hn, if_nle (by omega) (by omega), nI_1]
    by_cases e : n ≤ t
    · rw [if_pos e]
      have : t = n := by omega
      subst this
      exact ⟨B, rfl, hF.1, hF.fin⟩
    · rw [if_neg e]
      have l1 : ldI M (bs + 1) 8 (nI t) = some (E (bs + 1) t) := by rw [ldI_n (by omega) (by decide), hE (bs + 1) (by omega) (by omega)]
      have l2 : ldI M (bs + 2) 8 (nI t) = some (E (bs + 2) t) := by rw [ldI_n (by omega) (by decide), hE (bs + 2) (by omega) (by omega)]
      simp only [l1, l2, ob_some, vv_i]
      have bd := vv_bd (p := p) (q := q) hok (show t < n by omega) hp hq
      have hB : B < 256 := Nat.lt_of_lt_of_le hF.1 (Nat.pow_le_pow_right (n := 2) (by decide) (show t ≤ 8 by omega))
      have c1 : iI l ≤ iI (vv E bs p q t) ↔ l ≤ vv E bs p q t := by rw [i_le, iI_t hl1 hl2, iI_t (by omega) (by omega)]
      have c2 : ∀ z : Int, -2147483648 ≤ z → z < 2147483648 → (iI (vv E bs p q t) = iI z ↔ vv E bs p q t = z) := fun z z1 z2 => by rw [i_eq, iI_t (by omega) (by omega), iI_t z1 z2]
      by_cases w : l ≤ vv E bs p q t
      · rw [if_pos (c1.mpr w)]
        simp only [ob_some]
        by_cases w2 : vv E bs p q t = l
        · rw [if_pos ((c2 l hl1 hl2).mpr w2), orb_fin t (by omega) B hB]
          simp only [ob_some]
          exact hf (t + 1) l _ (by omega) (by omega) hl1 hl2 (hF.same w2)
        · rw [if_neg (fun z => w2 ((c2 l hl1 hl2).mp z))]
          simp only [ob_some]
          exact hf (t + 1) l _ (by omega) (by omega) hl1 hl2 (hF.more (by omega) (by omega))
      · rw [if_neg (fun z => w (c1.mp z))]
        simp only [ob_some]
        rw [if_pos trivial]
        simp only [ob_some]
        have o0 : (0 : Int32) ||| ((1 : Int32) <<< (nI t &&& 31)) = nI (2 ^ t) := by
          have := orb_fin t (by omega) 0 (by decide)
          rw [Nat.zero_or] at this
          exact this
        rw [o0]
        exact hf (t + 1) _ _ (by omega) (by omega) (by omega) (by omega) (hF.less (by omega))) N 0 2147483647 0 (by omega) (by omega) (by decide) (by decide) (FI.start _ _)
  exact key
theorem faceY_eq {M : Mem} {E : Nat → Nat → Int32} {bs o j n N : Nat} {p q : Int} (hN : 9 ≤ N) (hno : eqNo bs o j) (hn : M.1 5 j = nI n) (hM : ∀ t, t < n → M.1 1 (o + t) = E (bs + 1) t ∧ M.1 2 (o + t) = E (bs + 2) t) (hok : okN E bs n) (hp : -12 ≤ p ∧ p ≤ 12) (hq : -12 ≤ q ∧ q ≤ 12) : ∃ B, fX6_faceOf N M (nI j) (iI p) (iI q) = some (nI B) ∧ B < 2 ^ n ∧ ∀ s, B.testBit s = isF (vv E bs p q) n s := by
  have hn8 := hok.1
  have hj := hno.j
  have ho := hno.o
  have key := lp_rule (bot := fun _ _ _ => none) (step := sX6_faceOf_11 M (nI j) (iI p) (iI q)) (fun m f => ∀ t l B, t ≤ n → n - t < m → -2147483648 ≤ l → l < 2147483648 → FI (vv E bs p q) 1000 l B t → ∃ B2, f (iI l) (nI B) (nI t) = some (nI B2) ∧ B2 < 2 ^ n ∧ ∀ s, B2.testBit s = isF (vv E bs p q) n s) (fun t l B _ h => by omega) (by
    intro m f hf t l B ht hm hl1 hl2 hF
    unfold sX6_faceOf_11
    rw [ldI_n hj (by decide), hn]
    simp only [ob_some]
    rw [if_nle (by omega) (by omega), nI_1]
    by_cases e : n ≤ t
    · rw [if_pos e]
      have : t = n := by omega
      subst this
      exact ⟨B, rfl, hF.1, hF.fin⟩
    · rw [if_neg e]
      obtain ⟨z1, z2⟩ := hM t (by omega)
      have l1 : ldI M 1 16 ((8 : Int32) * nI j + nI t) = some (E (bs + 1) t) := by rw [e8, ← ho, ldI_n (by omega) (by decide), z1]
      have l2 : ldI M 2 16 ((8 : Int32) * nI j + nI t) = some (E (bs + 2) t) := by rw [e8, ← ho, ldI_n (by omega) (by decide), z2]
      simp only [l1, l2, ob_some, vv_i]
      have bd := vv_bd (p := p) (q := q) hok (show t < n by omega) hp hq
      have hB : B < 256 := Nat.lt_of_lt_of_le hF.1 (Nat.pow_le_pow_right (n := 2) (by decide) (show t ≤ 8 by omega))
      have c1 : iI l ≤ iI (vv E bs p q t) ↔ l ≤ vv E bs p q t := by rw [i_le, iI_t hl1 hl2, iI_t (by omega) (by omega)]
      have c2 : ∀ z : Int, -2147483648 ≤ z → z < 2147483648 → (iI (vv E bs p q t) = iI z ↔ vv E bs p q t = z) := fun z z1 z2 => by rw [i_eq, iI_t (by omega) (by omega), iI_t z1 z2]
      by_cases w : l ≤ vv E bs p q t
      · rw [if_pos (c1.mpr w)]
        simp only [ob_some]
        by_cases w2 : vv E bs p q t = l
        · rw [if_pos ((c2 l hl1 hl2).mpr w2)]
          simp only [ob_some]
          rw [orb_fin t (by omega) B hB]
          exact hf (t + 1) l _ (by omega) (by omega) hl1 hl2 (hF.same w2)
        · rw [if_neg (fun z => w2 ((c2 l hl1 hl2).mp z))]
          simp only [ob_some]
          rw [show nI B ||| (0 : Int32) = nI B from by simp]
          exact hf (t + 1) l _ (by omega) (by omega) hl1 hl2 (hF.more (by omega) (by omega))
      · rw [if_neg (fun z => w (c1.mp z))]
        simp only [ob_some]
        rw [if_pos trivial]
        simp only [ob_some]
        have o0 : (0 : Int32) ||| ((1 : Int32) <<< (nI t &&& 31)) = nI (2 ^ t) := by
          have := orb_fin t (by omega) 0 (by decide)
          rw [Nat.zero_or] at this
          exact this
        rw [o0]
        exact hf (t + 1) _ _ (by omega) (by omega) (by omega) (by omega) (hF.less (by omega))) N 0 1000 0 (by omega) (by omega) (by decide) (by decide) (FI.start _ _)
  exact key
theorem bits_uniq {A B : Nat} {v : Nat → Int} {n : Nat} (hA : ∀ s, A.testBit s = isF v n s) (hB : ∀ s, B.testBit s = isF v n s) : A = B := Nat.eq_of_testBit_eq (fun s => by rw [hA, hB])
theorem i_z (x : Int32) : x = 0 ↔ x.toInt = 0 := by
  rw [i_eq]
  have e : (0 : Int32).toInt = 0 := by decide
  rw [e]
theorem isAim_eq (a b : Int32) : fX5_isAim a b = some (bz (decide ((-6 ≤ a.toInt ∧ a.toInt ≤ 6) ∧ (-6 ≤ b.toInt ∧ b.toInt ≤ 6) ∧ (a.toInt ≠ 0 ∨ b.toInt ≠ 0)))) := by
  unfold fX5_isAim
  rw [within_eq, within_eq, okZ_0, okZ_1]
  have e1 : (-6 : Int32).toInt = -6 := by decide
  have e2 : (6 : Int32).toInt = 6 := by decide
  rw [e1, e2]
  simp only [ob_some, ifb, i_z]
  by_cases c1 : -6 ≤ a.toInt ∧ a.toInt ≤ 6
  · by_cases c2 : -6 ≤ b.toInt ∧ b.toInt ≤ 6
    · by_cases c3 : a.toInt = 0
      · by_cases c4 : b.toInt = 0
        · simp [c3, c4, bz]
        · simp [c2, c3, c4, bz]
      · simp [c1, c2, c3, bz]
    · simp [c1, c2, bz]
  · simp [c1, bz]
theorem isWay_eq (a b : Int32) : fX6_isWay a b = some (bz (decide ((-6 ≤ a.toInt ∧ a.toInt ≤ 6) ∧ (-6 ≤ b.toInt ∧ b.toInt ≤ 6) ∧ (a.toInt ≠ 0 ∨ b.toInt ≠ 0)))) := by
  unfold fX6_isWay
  rw [in32, in32, okZ_0, okZ_1]
  have e1 : (-6 : Int64).toInt = -6 := by decide
  have e2 : (6 : Int64).toInt = 6 := by decide
  rw [e1, e2]
  simp only [ob_some, ifb, i_z]
  by_cases c1 : -6 ≤ a.toInt ∧ a.toInt ≤ 6
  · by_cases c2 : -6 ≤ b.toInt ∧ b.toInt ≤ 6
    · by_cases c3 : a.toInt = 0
      · by_cases c4 : b.toInt = 0
        · simp [c3, c4, bz]
        · simp [c2, c3, c4, bz]
      · simp [c1, c2, c3, bz]
    · simp [c1, c2, bz]
  · simp [c1, bz]
theorem st_face {X Y : Mem} {N : Nat} (hN : 9 ≤ N) (a1 a2 a3 : Int32) (h : Sim X Y) : ∃ r : Int32, fX5_face N X a1 a2 a3 = some r ∧ fX6_face N Y a1 a2 a3 = some r ∧ Sim X Y := by
  have core : ∀ b o j n, eqNo b o j → EqR X Y b o j n → ∃ r : Int32, ((fX5_isAim a2 a3).bind fun v3 => if v3 = 0 then some (-2 : Int32) else if X.1 b 4 = 0 then some (-3 : Int32) else (fX2_bitsOf N X b a2 a3).bind fun v4 => some v4) = some r ∧ fX6_face N Y (nI j) a2 a3 = some r := by
    intro b o j n hno hR
    have hq : nI j = 0 ∨ nI j = 1 := by
      rcases (show j = 0 ∨ j = 1 by have := hno.j; omega) with rfl | rfl
      · exact Or.inl rfl
      · exact Or.inr rfl
    unfold fX6_face
    rw [isEq_eq, isAim_eq, isWay_eq, ldI_n hno.j (by decide), hR.2.1, hR.1]
    simp only [ob_some, ifb, hq, decide_true, if_true]
    by_cases c : (-6 ≤ a2.toInt ∧ a2.toInt ≤ 6) ∧ (-6 ≤ a3.toInt ∧ a3.toInt ≤ 6) ∧ (a2.toInt ≠ 0 ∨ a3.toInt ≠ 0)
    · by_cases c0 : nI n = 0
      · exact ⟨-3, by simp [c, c0], by simp [c, c0]⟩
      · have hok := okN.of hR
        obtain ⟨B1, g1, g2, g3⟩ := bits_eq (M := X) (E := X.1) (N := N) (p := a2.toInt) (q := a3.toInt) hN hno.b (fun _ _ _ => rfl) hR.1 hok (by omega) (by omega)
        obtain ⟨B2, k1, k2, k3⟩ := faceY_eq (M := Y) (E := X.1) (N := N) (p := a2.toInt) (q := a3.toInt) hN hno hR.2.1 (fun t ht => ⟨(hR.2.2.2.1 t ht).1.symm, (hR.2.2.2.1 t ht).2.1.symm⟩) hok (by omega) (by omega)
        rw [iI_of, iI_of] at g1 k1
        have := bits_uniq g3 k3
        subst this
        exact ⟨nI B1, by simp [c, c0, g1], by simp [c, c0, k1]⟩
    · exact ⟨-2, by simp [c], by simp [c]⟩
  obtain ⟨n0, n1, h0, h1, -⟩ := id h
  unfold fX5_face
  by_cases c0 : a1 = 0
  · subst c0
    obtain ⟨r, g1, g2⟩ := core 1 0 0 n0 no0 h0
    rw [eqOf_0]
    exact ⟨r, g1, g2, h⟩
  · by_cases c1 : a1 = 1
    · subst c1
      obtain ⟨r, g1, g2⟩ := core 6 8 1 n1 no1 h1
      rw [eqOf_1]
      exact ⟨r, g1, g2, h⟩
    · rw [eqOf_n c0 c1]
      refine ⟨-1, rfl, ?_, h⟩
      unfold fX6_face
      rw [isEq_eq]
      simp [c0, c1, bz]

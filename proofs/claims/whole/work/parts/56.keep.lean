/-! promise 15 -/
def TrC (N : Nat) (E : Nat → Nat → Int32) (n0 n1 : Nat) (P Q : Int) (r : Bool) : Prop := ∀ X, XQ X E n0 n1 → ∃ X2, fX2_shareRoot N X 1 6 (iI P) (iI Q) = some (bz r, X2) ∧ X2.1 = X.1
def TrY (N : Nat) (E : Nat → Nat → Int32) (n0 n1 : Nat) (P Q : Int) (r : Bool) : Prop := ∀ Y, YQ Y E n0 n1 → ∃ Y2, fX6_loses N Y (iI P) (iI Q) = some (bz r, Y2) ∧ ∀ c, c ≠ 11 → Y2.1 c = Y.1 c
theorem ans_inj {a b : Bool} {X Y : Mem} {o : Option (Int32 × Mem)} (h1 : o = some (bz a, X)) (h2 : o = some (bz b, Y)) : a = b := by
  rw [h1] at h2
  have := (Prod.mk.inj (Option.some.inj h2)).1
  cases a <;> cases b
  · rfl
  · exact absurd this (by decide)
  · exact absurd this (by decide)
  · rfl
theorem TrC.uniq {N : Nat} {E : Nat → Nat → Int32} {n0 n1 : Nat} {P Q : Int} {a b : Bool} {X : Mem} (hX : XQ X E n0 n1) (h1 : TrC N E n0 n1 P Q a) (h2 : TrC N E n0 n1 P Q b) : a = b := by
  obtain ⟨X1, e1, -⟩ := h1 X hX
  obtain ⟨X2, e2, -⟩ := h2 X hX
  exact ans_inj e1 e2
theorem TrY.uniq {N : Nat} {E : Nat → Nat → Int32} {n0 n1 : Nat} {P Q : Int} {a b : Bool} {X : Mem} (hX : YQ X E n0 n1) (h1 : TrY N E n0 n1 P Q a) (h2 : TrY N E n0 n1 P Q b) : a = b := by
  obtain ⟨X1, e1, -⟩ := h1 X hX
  obtain ⟨X2, e2, -⟩ := h2 X hX
  exact ans_inj e1 e2
def twoF (E : Nat → Nat → Int32) (bs n : Nat) (P Q : Int) : Prop := ∃ s u, s < u ∧ u < n ∧ isF (vv E bs P Q) n s = true ∧ isF (vv E bs P Q) n u = true
theorem dir_all {N : Nat} {X Y : Mem} {E : Nat → Nat → Int32} {n0 n1 : Nat} {P Q P2 Q2 : Int} (hN : 50 ≤ N) (hX : XQ X E n0 n1) (hY : YQ Y E n0 n1) (p0 : 0 < n0) (p1 : 0 < n1) (f0 : FX E 1 n0) (f1 : FX E 6 n1) (hd : dirOK P Q) (hd2 : dirOK P2 Q2) (ea : wya P2 Q2 = wya P Q) (eb : wyb P2 Q2 = wyb P Q) (s0 : ∀ s, isF (vv E 1 P2 Q2) n0 s = isF (vv E 1 P Q) n0 s) (s1 : ∀ s, isF (vv E 6 P2 Q2) n1 s = isF (vv E 6 P Q) n1 s) : ∃ r, TrC N E n0 n1 P Q r ∧ TrY N E n0 n1 P2 Q2 r ∧ (r = true → twoF E 1 n0 P Q ∧ twoF E 6 n1 P Q) := by
  obtain ⟨r, X2, Y2, a1, a2, a3, a4, a5⟩ := dir_eq hN hX hY p0 p1 f0 f1 hd hd2 ea eb s0 s1
  refine ⟨r, fun X' hX' => ?_, fun Y' hY' => ?_, a5⟩
  · obtain ⟨r2, X3, Y3, b1, b2, b3, b4, -⟩ := dir_eq hN hX' hY p0 p1 f0 f1 hd hd2 ea eb s0 s1
    have e := ans_inj b2 a2
    subst e
    exact ⟨X3, b1, b3⟩
  · obtain ⟨r2, X3, Y3, b1, b2, b3, b4, -⟩ := dir_eq hN hX hY' p0 p1 f0 f1 hd hd2 ea eb s0 s1
    have e := ans_inj b1 a1
    subst e
    exact ⟨Y3, b2, b4⟩
theorem XQ.same {X X2 : Mem} {E : Nat → Nat → Int32} {n0 n1 : Nat} (h : XQ X E n0 n1) (e : X2.1 = X.1) : XQ X2 E n0 n1 := h.keep (fun c _ _ => by rw [e])
theorem gg_dir {P Q : Int} (h1 : -12 ≤ P ∧ P ≤ 12) (h2 : -12 ≤ Q ∧ Q ≤ 12) (h : gg P Q = 1) : dirOK P Q := by
  refine ⟨h1, h2, ?_⟩
  rcases Classical.em (P = 0) with w | w
  · right
    intro q
    rw [w, q] at h
    exact absurd h (by decide)
  · exact Or.inl w
theorem scanQ {N : Nat} {E : Nat → Nat → Int32} {n0 n1 : Nat} {P : Int} (hN : 30 ≤ N) (hP : -6 ≤ P ∧ P ≤ 6) (hT : ∀ Q, -6 ≤ Q ∧ Q ≤ 6 → gg P Q = 1 → ∃ r, TrC N E n0 n1 P Q r) (K : Int32 → Mem → Option (Int32 × Mem)) {X : Mem} (hX : XQ X E n0 n1) :
    (∃ X2, lp (fun _ _ => none) (sX5_losesSomewhere_12 K (iI P) N) N (-6 : Int32) X = some (1, X2) ∧ X2.1 = X.1 ∧ ∃ Q, (-6 ≤ Q ∧ Q ≤ 6) ∧ gg P Q = 1 ∧ TrC N E n0 n1 P Q true) ∨ (∃ X2, lp (fun _ _ => none) (sX5_losesSomewhere_12 K (iI P) N) N (-6 : Int32) X = K (iI (P + 1)) X2 ∧ X2.1 = X.1 ∧ ∀ Q, -6 ≤ Q ∧ Q ≤ 6 → gg P Q = 1 → TrC N E n0 n1 P Q false) := by
  have key := lp_rule (bot := fun _ _ => none) (step := sX5_losesSomewhere_12 K (iI P) N) (fun w fc => ∀ (Q : Int) (X4 : Mem), -6 ≤ Q → Q ≤ 7 → 7 - Q < (w : Int) → X4.1 = X.1 → (∀ R, -6 ≤ R ∧ R < Q → gg P R = 1 → TrC N E n0 n1 P R false) → (∃ X2, fc (iI Q) X4 = some (1, X2) ∧ X2.1 = X.1 ∧ ∃ Q, (-6 ≤ Q ∧ Q ≤ 6) ∧ gg P Q = 1 ∧ TrC N E n0 n1 P Q true) ∨ (∃ X2, fc (iI Q) X4 = K (iI (P + 1)) X2 ∧ X2.1 = X.1 ∧ ∀ Q, -6 ≤ Q ∧ Q ≤ 6 → gg P Q = 1 → TrC N E n0 n1 P Q false)) (fun Q X4 _ _ h => by omega) (by
    intro w fc hc Q X4 q1 q2 hw m0 hno
    unfold sX5_losesSomewhere_12
    have e1 : ∀ z : Int, iI z + 1 = iI (z + 1) := fun z => by rw [iI_1, iI_add]
    rw [show (6 : Int32) = iI 6 by decide, if_ilt (by unfold sml; omega) (by unfold sml; omega), e1, e1]
    by_cases c : 6 < Q
    · rw [if_pos c]
      exact Or.inr ⟨X4, rfl, m0, fun R hR hg => hno R (by omega) hg⟩
    · rw [if_neg c, common_eq (by omega) (by omega) (by omega)]
      simp only [ob_some]
      have bd : 0 ≤ gg P Q ∧ gg P Q ≤ 12 ∨ True := Or.inr trivial
      have eq1 : iI (gg P Q) = 1 ↔ gg P Q = 1 := by
        have g0 : 0 ≤ gg P Q := by unfold gg; omega
        have gl : gg P Q ≤ 12 := by
          by_cases z : P ≠ 0 ∨ Q ≠ 0
          · exact (way_ok ⟨by omega, by omega, z⟩).2.1
          · have z1 : P = 0 := by omega
            have z2 : Q = 0 := by omega
            rw [z1, z2]; decide
        rw [i_eq, iI_t (by omega) (by omega)]
        rfl
      by_cases g : gg P Q = 1
      · rw [if_pos (eq1.mpr g)]
        obtain ⟨r, hr⟩ := hT Q (by omega) g
        obtain ⟨X5, x1, x2⟩ := hr X4 (hX.same m0)
        rw [x1]
        simp only [ob_some, ifb]
        cases r with
        | true => exact Or.inl ⟨X5, rfl, by rw [x2, m0], Q, by omega, g, hr⟩
        | false =>
          simp only [Bool.false_eq_true, if_false]
          refine hc (Q + 1) X5 (by omega) (by omega) (by omega) (by rw [x2, m0]) (fun R hR hg => ?_)
          rcases Int.lt_or_le R Q with y | y
          · exact hno R (by omega) hg
          · have : R = Q := by omega
            rw [this]; exact hr
      · rw [if_neg (fun z => g (eq1.mp z))]
        refine hc (Q + 1) X4 (by omega) (by omega) (by omega) m0 (fun R hR hg => ?_)
        rcases Int.lt_or_le R Q with y | y
        · exact hno R (by omega) hg
        · have : R = Q := by omega
          rw [this] at hg; exact absurd hg g) N (-6) X (by omega) (by omega) (by omega) rfl (fun R hR => by omega)
  exact key
theorem scanP {N : Nat} {E : Nat → Nat → Int32} {n0 n1 : Nat} (hN : 30 ≤ N) (hT : ∀ P Q, -6 ≤ P ∧ P ≤ 6 → -6 ≤ Q ∧ Q ≤ 6 → gg P Q = 1 → ∃ r, TrC N E n0 n1 P Q r) {X : Mem} (hX : XQ X E n0 n1) :
    ∃ (b : Bool) (X2 : Mem), fX5_losesSomewhere N X = some (bz b, X2) ∧ X2.1 = X.1 ∧ (b = true → ∃ P Q, (-6 ≤ P ∧ P ≤ 6) ∧ (-6 ≤ Q ∧ Q ≤ 6) ∧ gg P Q = 1 ∧ TrC N E n0 n1 P Q true) ∧ (b = false → ∀ P Q, -6 ≤ P ∧ P ≤ 6 → -6 ≤ Q ∧ Q ≤ 6 → gg P Q = 1 → TrC N E n0 n1 P Q false) := by
  have key := lp_rule (bot := fun _ _ => none) (step := sX5_losesSomewhere_3 N) (fun w fc => ∀ (P : Int) (X4 : Mem), -6 ≤ P → P ≤ 7 → 7 - P < (w : Int) → X4.1 = X.1 → (∀ R Q, -6 ≤ R ∧ R < P → -6 ≤ Q ∧ Q ≤ 6 → gg R Q = 1 → TrC N E n0 n1 R Q false) → ∃ (b : Bool) (X2 : Mem), fc (iI P) X4 = some (bz b, X2) ∧ X2.1 = X.1 ∧ (b = true → ∃ P Q, (-6 ≤ P ∧ P ≤ 6) ∧ (-6 ≤ Q ∧ Q ≤ 6) ∧ gg P Q = 1 ∧ TrC N E n0 n1 P Q true) ∧ (b = false → ∀ P Q, -6 ≤ P ∧ P ≤ 6 → -6 ≤ Q ∧ Q ≤ 6 → gg P Q = 1 → TrC N E n0 n1 P Q false)) (fun Q X4 _ _ h => by omega) (by
    intro w fc hc P X4 q1 q2 hw m0 hno
    unfold sX5_losesSomewhere_3
    rw [show (6 : Int32) = iI 6 by decide, if_ilt (by unfold sml; omega) (by unfold sml; omega)]
    by_cases c : 6 < P
    · rw [if_pos c, okZM_0]
      exact ⟨false, X4, rfl, m0, fun q => absurd q (by decide), fun _ R Q hR hQ hg => hno R Q (by omega) hQ hg⟩
    · rw [if_neg c, show iI 6 = (6 : Int32) by decide]
      rcases scanQ hN (show -6 ≤ P ∧ P ≤ 6 by omega) (fun Q hQ hg => hT P Q (by omega) hQ hg) fc (hX.same m0) with ⟨X2, a1, a2, Q, a3, a4, a5⟩ | ⟨X2, a1, a2, a3⟩
      · rw [a1]
        exact ⟨true, X2, rfl, by rw [a2, m0], fun _ => ⟨P, Q, by omega, a3, a4, a5⟩, fun q => absurd q (by decide)⟩
      · rw [a1]
        refine hc (P + 1) X2 (by omega) (by omega) (by omega) (by rw [a2, m0]) (fun R Q hR hQ hg => ?_)
        rcases Int.lt_or_le R P with y | y
        · exact hno R Q (by omega) hQ hg
        · have : R = P := by omega
          rw [this] at hg ⊢
          exact a3 Q hQ hg) N (-6) X (by omega) (by omega) (by omega) rfl (fun R Q hR => by omega)
  exact key
theorem keepLoop {N : Nat} {E : Nat → Nat → Int32} {n0 n1 m : Nat} {qx qy : Nat → Int} {Y : Mem} (hN : 70 ≤ N) (hY : YQ Y E n0 n1) (hC : Crn 8 9 Y qx qy m) (hm : Y.1 0 10 = nI m) (hT : ∀ k, k < m → ∃ r, TrY N E n0 n1 (qy k - qy (aft m k)) (qx (aft m k) - qx k) r) :
    ∃ (b : Bool) (Y2 : Mem), lp (fun _ _ => none) (sX6_keep_29 N) N (0 : Int32) Y = some ((if b then 0 else 1), Y2) ∧ (∀ c, c ≠ 11 → Y2.1 c = Y.1 c) ∧ (b = true → ∃ k, k < m ∧ TrY N E n0 n1 (qy k - qy (aft m k)) (qx (aft m k) - qx k) true) ∧ (b = false → ∀ k, k < m → TrY N E n0 n1 (qy k - qy (aft m k)) (qx (aft m k) - qx k) false) := by
  have m64 := hC.2.1
  have key := lp_rule (bot := fun _ _ => none) (step := sX6_keep_29 N) (fun w fc => ∀ (k : Nat) (Y4 : Mem), k ≤ m → m - k < w → (∀ c, c ≠ 11 → Y4.1 c = Y.1 c) → (∀ j, j < k → TrY N E n0 n1 (qy j - qy (aft m j)) (qx (aft m j) - qx j) false) → ∃ (b : Bool) (Y2 : Mem), fc (nI k) Y4 = some ((if b then 0 else 1), Y2) ∧ (∀ c, c ≠ 11 → Y2.1 c = Y.1 c) ∧ (b = true → ∃ k, k < m ∧ TrY N E n0 n1 (qy k - qy (aft m k)) (qx (aft m k) - qx k) true) ∧ (b = false → ∀ k, k < m → TrY N E n0 n1 (qy k - qy (aft m k)) (qx (aft m k) - qx k) false)) (fun k Y4 _ h => by omega) (by
    intro w fc hc k Y4 hk hw m0 hno
    unfold sX6_keep_29
    rw [m0 0 (by decide), hm, if_nle (by omega) (by omega)]
    by_cases e : m ≤ k
    · rw [if_pos e]
      exact ⟨false, Y4, rfl, m0, fun q => absurd q (by decide), fun _ j hj => hno j (by omega)⟩
    · rw [if_neg e]
      have hkm : k < m := by omega
      have ha := aft_lt hkm
      have hC4 : Crn 8 9 Y4 qx qy m := ⟨hC.1, hC.2.1, fun s hs => by rw [m0 8 (by decide), m0 9 (by decide)]; exact hC.2.2 s hs⟩
      rw [afterY_eq m64 hkm, nI_1]
      simp only [ob_some, hC4.x hkm, hC4.y hkm, hC4.x ha, hC4.y ha, iI_sub]
      obtain ⟨r, hr⟩ := hT k hkm
      obtain ⟨Y5, y1, y2⟩ := hr Y4 (hY.keep (fun c _ _ => m0 c (by omega)))
      rw [y1]
      simp only [ob_some, ifb]
      have m5 : ∀ c, c ≠ 11 → Y5.1 c = Y.1 c := fun c hc => by rw [y2 c hc, m0 c hc]
      cases r with
      | true => exact ⟨true, Y5, rfl, m5, fun _ => ⟨k, hkm, hr⟩, fun q => absurd q (by decide)⟩
      | false =>
        simp only [Bool.false_eq_true, if_false]
        refine hc (k + 1) Y5 (by omega) (by omega) m5 (fun j hj => ?_)
        rcases Nat.lt_or_ge j k with y | y
        · exact hno j y
        · have : j = k := by omega
          rw [this]; exact hr) N 0 Y (by omega) (by omega) (fun _ _ => rfl) (fun j hj => by omega)
  exact key
theorem gg_scale {P Q t : Int} (h : gg P Q = 1) (ht : 0 < t) : gg (t * P) (t * Q) = t := by
  unfold gg at *
  rw [Int.natAbs_mul, Int.natAbs_mul, Nat.gcd_mul_left]
  have : P.natAbs.gcd Q.natAbs = 1 := by omega
  rw [this]; omega
theorem way_scale {P Q t : Int} (h : gg P Q = 1) (ht : 0 < t) : wya (t * P) (t * Q) = wya P Q ∧ wyb (t * P) (t * Q) = wyb P Q ∧ wya P Q = -Q ∧ wyb P Q = P := by
  have a : wya P Q = -Q := by unfold wya; rw [h, Int.tdiv_one]
  have b : wyb P Q = P := by unfold wyb; rw [h, Int.tdiv_one]
  refine ⟨?_, ?_, a, b⟩
  · rw [a]
    unfold wya
    rw [gg_scale h ht, ← Int.mul_neg, Int.mul_tdiv_cancel_left _ (by omega)]
  · rw [b]
    unfold wyb
    rw [gg_scale h ht, Int.mul_tdiv_cancel_left _ (by omega)]
theorem isF_scale {E : Nat → Nat → Int32} {bs n : Nat} {P Q t : Int} (ht : 0 < t) (s : Nat) : isF (vv E bs (t * P) (t * Q)) n s = isF (vv E bs P Q) n s := by
  have e : ∀ s, vv E bs (t * P) (t * Q) s = t * vv E bs P Q s := fun s => by unfold vv; grind
  have le : ∀ s u, vv E bs (t * P) (t * Q) s ≤ vv E bs (t * P) (t * Q) u ↔ vv E bs P Q s ≤ vv E bs P Q u := by
    intro s u
    rw [e, e]
    constructor
    · intro q
      exact Int.le_of_mul_le_mul_left q ht
    · intro q
      exact Int.mul_le_mul_of_nonneg_left q (by omega)
  have iff : isF (vv E bs (t * P) (t * Q)) n s = true ↔ isF (vv E bs P Q) n s = true := by
    rw [isF_iff, isF_iff]
    constructor
    · intro ⟨a, b⟩; exact ⟨a, fun u hu => (le s u).mp (b u hu)⟩
    · intro ⟨a, b⟩; exact ⟨a, fun u hu => (le s u).mpr (b u hu)⟩
  cases h1 : isF (vv E bs (t * P) (t * Q)) n s <;> cases h2 : isF (vv E bs P Q) n s
  · rfl
  · rw [h1, h2] at iff; exact absurd (iff.mpr rfl) (by decide)
  · rw [h1, h2] at iff; exact absurd (iff.mp rfl) (by decide)
  · rfl
theorem keep_same {N : Nat} {X Y : Mem} {E : Nat → Nat → Int32} {n0 n1 m : Nat} (hN : 70 ≤ N) (hX : XQ X E n0 n1) (hY : YQ Y E n0 n1) (p0 : 0 < n0) (p1 : 0 < n1) (f0 : FX E 1 n0) (f1 : FX E 6 n1) (hH : HULL (fgx E n1 2) (fgy E n1 2) (fgn n0 n1 2) m) (hm : 3 ≤ m) :
    (∀ k, k < m → ∃ r, TrY N E n0 n1 (qY E n0 n1 2 k - qY E n0 n1 2 (aft m k)) (qX E n0 n1 2 (aft m k) - qX E n0 n1 2 k) r) ∧ ((∃ P Q, (-6 ≤ P ∧ P ≤ 6) ∧ (-6 ≤ Q ∧ Q ≤ 6) ∧ gg P Q = 1 ∧ TrC N E n0 n1 P Q true) ↔ ∃ k, k < m ∧ TrY N E n0 n1 (qY E n0 n1 2 k - qY E n0 n1 2 (aft m k)) (qX E n0 n1 2 (aft m k) - qX E n0 n1 2 k) true) := by
  obtain ⟨hB, h64⟩ := fg_box (w := 2) hX.2.2.2.1 hX.2.2.2.2
  obtain ⟨e, nxs⟩ := hull_next hB hH (by omega)
  have h7 : smP (fgx E n1 2) (fgy E n1 2) (seqh (fgx E n1 2) (fgy E n1 2) (fgn n0 n1 2) m) (seqh (fgx E n1 2) (fgy E n1 2) (fgn n0 n1 2) 0) := by
    rcases hH.2.2.2.2 with ⟨w, -⟩ | ⟨-, -, w⟩
    · omega
    · exact w
  have ax : ∀ k, k < m → qX E n0 n1 2 (aft m k) = qX E n0 n1 2 (k + 1) ∧ qY E n0 n1 2 (aft m k) = qY E n0 n1 2 (k + 1) := by
    intro k hk
    unfold aft
    by_cases c : m ≤ k + 1
    · rw [if_pos c]
      have : k + 1 = m := by omega
      rw [this]
      exact ⟨h7.1.symm, h7.2.symm⟩
    · rw [if_neg c]; exact ⟨rfl, rfl⟩
  have bx : ∀ k, k ≤ m → (0 ≤ qX E n0 n1 2 k ∧ qX E n0 n1 2 k ≤ 12) ∧ (0 ≤ qY E n0 n1 2 k ∧ qY E n0 n1 2 k ≤ 12) := fun k hk => hB _ (hH.2.2.1 k hk).1
  have dok : ∀ k, k < m → dirOK (qY E n0 n1 2 k - qY E n0 n1 2 (k + 1)) (qX E n0 n1 2 (k + 1) - qX E n0 n1 2 k) := by
    intro k hk
    have b1 := bx k (by omega)
    have b2 := bx (k + 1) (by omega)
    refine ⟨by omega, by omega, ?_⟩
    have ne := (nxs k (by omega)).2.1
    have ne' : ¬ (qX E n0 n1 2 (k + 1) = qX E n0 n1 2 k ∧ qY E n0 n1 2 (k + 1) = qY E n0 n1 2 k) := ne
    omega
  have self : ∀ P Q, dirOK P Q → ∃ r, TrC N E n0 n1 P Q r ∧ TrY N E n0 n1 P Q r ∧ (r = true → twoF E 1 n0 P Q ∧ twoF E 6 n1 P Q) := fun P Q hd => dir_all (by omega) hX hY p0 p1 f0 f1 hd hd rfl rfl (fun _ => rfl) (fun _ => rfl)
  have scl : ∀ P Q t, gg P Q = 1 → 0 < t → dirOK P Q → dirOK (t * P) (t * Q) → ∃ r, TrC N E n0 n1 P Q r ∧ TrY N E n0 n1 (t * P) (t * Q) r ∧ (r = true → twoF E 1 n0 P Q ∧ twoF E 6 n1 P Q) := fun P Q t hg ht h1 h2 => dir_all (by omega) hX hY p0 p1 f0 f1 h1 h2 (way_scale hg ht).1 (way_scale hg ht).2.1 (fun s => isF_scale ht s) (fun s => isF_scale ht s)
  refine ⟨fun k hk => ?_, ?_, ?_⟩
  · obtain ⟨r, -, r2, -⟩ := self _ _ (dok k hk)
    rw [(ax k hk).1, (ax k hk).2]
    exact ⟨r, r2⟩
  · intro ⟨P, Q, hP, hQ, hg, hT⟩
    have hd : dirOK P Q := gg_dir (by omega) (by omega) hg
    obtain ⟨r, r1, r2, r3⟩ := self P Q hd
    have er := TrC.uniq hX r1 hT
    subst er
    obtain ⟨⟨s, u, su, un, sF, uF⟩, ⟨t, t', tt, t'n, tF, -⟩⟩ := r3 rfl
    have s1 := isF_iff.mp sF
    have u1 := isF_iff.mp uF
    have t1 := isF_iff.mp tF
    have fx : ∀ x, x < fgn n0 n1 2 → P * fgx E n1 2 x + Q * fgy E n1 2 x = vv E 1 P Q (x / n1) + vv E 6 P Q (x % n1) := by
      intro x _
      show P * ((E 2 (x / n1)).toInt + (E 7 (x % n1)).toInt) + Q * ((E 3 (x / n1)).toInt + (E 8 (x % n1)).toInt) = (P * (E 2 (x / n1)).toInt + Q * (E 3 (x / n1)).toInt) + (P * (E 7 (x % n1)).toInt + Q * (E 8 (x % n1)).toInt)
      grind
    have rng : ∀ x, x < fgn n0 n1 2 → x / n1 < n0 ∧ x % n1 < n1 := fun x hx => ⟨Nat.div_lt_of_lt_mul (by rw [Nat.mul_comm]; exact hx), Nat.mod_lt _ p1⟩
    have inr : ∀ s, s < n0 → s * n1 + t < fgn n0 n1 2 := by
      intro s hs
      show s * n1 + t < n0 * n1
      have : (s + 1) * n1 ≤ n0 * n1 := Nat.mul_le_mul_right _ hs
      rw [Nat.add_mul, Nat.one_mul] at this
      omega
    have mn : ∀ s, s < n0 → (∀ v, v < n0 → vv E 1 P Q s ≤ vv E 1 P Q v) → ∀ x, x < fgn n0 n1 2 → P * fgx E n1 2 (s * n1 + t) + Q * fgy E n1 2 (s * n1 + t) ≤ P * fgx E n1 2 x + Q * fgy E n1 2 x := by
      intro s hs hv x hx
      obtain ⟨d1, d2⟩ := divmod_at (t := s) (show t < n1 by omega)
      rw [fx _ (inr s hs), fx x hx, d1, d2]
      have a := hv _ (rng x hx).1
      have b := t1.2 _ (rng x hx).2
      omega
    have ne : ¬ smP (fgx E n1 2) (fgy E n1 2) (s * n1 + t) (u * n1 + t) := by
      intro ⟨q1, q2⟩
      obtain ⟨d1, d2⟩ := divmod_at (t := s) (show t < n1 by omega)
      obtain ⟨d3, d4⟩ := divmod_at (t := u) (show t < n1 by omega)
      have q1' : (E 2 ((s * n1 + t) / n1)).toInt + (E 7 ((s * n1 + t) % n1)).toInt = (E 2 ((u * n1 + t) / n1)).toInt + (E 7 ((u * n1 + t) % n1)).toInt := q1
      have q2' : (E 3 ((s * n1 + t) / n1)).toInt + (E 8 ((s * n1 + t) % n1)).toInt = (E 3 ((u * n1 + t) / n1)).toInt + (E 8 ((u * n1 + t) % n1)).toInt := q2
      rw [d1, d2, d3, d4] at q1' q2'
      have := f0.2.2 s u (by omega) un (by rw [i_eq]; show (E 2 s).toInt = (E 2 u).toInt; omega) (by rw [i_eq]; show (E 3 s).toInt = (E 3 u).toInt; omega)
      omega
    obtain ⟨k, hk, z, x, y, w1, w2⟩ := side_ex (p := P) (q := Q) hB hH hm hd.2.2 (inr s (by omega)) (inr u un) ne (mn s (by omega) s1.2) (mn u un u1.2)
    have z' : P * (qX E n0 n1 2 (k + 1) - qX E n0 n1 2 k) + Q * (qY E n0 n1 2 (k + 1) - qY E n0 n1 2 k) = 0 := z
    have w2' : 0 < (qX E n0 n1 2 (k + 1) - qX E n0 n1 2 k) * y - (qY E n0 n1 2 (k + 1) - qY E n0 n1 2 k) * x := w2
    obtain ⟨τ, e1, e2⟩ := par_ex (a := -Q) (b := P) (dx := qX E n0 n1 2 (k + 1) - qX E n0 n1 2 k) (dy := qY E n0 n1 2 (k + 1) - qY E n0 n1 2 k) (by
      rw [Int.natAbs_neg, Nat.gcd_comm]
      unfold gg at hg
      omega) (by rw [Int.neg_mul]; omega)
    have neg : 0 < -τ := by
      rw [e1, e2] at w2'
      have : τ * -Q * y - τ * P * x = -τ * (P * x + Q * y) := by grind
      rw [this] at w2'
      rcases Int.lt_or_le 0 (-τ) with c | c
      · exact c
      · have := Int.mul_nonpos_of_nonpos_of_nonneg c (show 0 ≤ P * x + Q * y by omega)
        omega
    have nP : qY E n0 n1 2 k - qY E n0 n1 2 (k + 1) = -τ * P := by
      have : -τ * P = -(τ * P) := Int.neg_mul _ _
      omega
    have nQ : qX E n0 n1 2 (k + 1) - qX E n0 n1 2 k = -τ * Q := by
      have : τ * -Q = -τ * Q := by grind
      omega
    have dk := dok k hk
    rw [nP, nQ] at dk
    obtain ⟨r', a1, a2, -⟩ := scl P Q (-τ) hg neg hd dk
    have er := TrC.uniq hX a1 hT
    subst er
    refine ⟨k, hk, ?_⟩
    rw [(ax k hk).1, (ax k hk).2, nP, nQ]
    exact a2
  · intro ⟨k, hk, hT⟩
    rw [(ax k hk).1, (ax k hk).2] at hT
    have dk := dok k hk
    obtain ⟨r, r1, r2, r3⟩ := self _ _ dk
    have er := TrY.uniq hY r2 hT
    subst er
    obtain ⟨⟨s, u, su, un, sF, uF⟩, -⟩ := r3 rfl
    obtain ⟨g1, g2, eP, eQ, -, -, -, -, hgc⟩ := way_ok dk
    generalize hP2 : qY E n0 n1 2 k - qY E n0 n1 2 (k + 1) = P2 at *
    generalize hQ2 : qX E n0 n1 2 (k + 1) - qX E n0 n1 2 k = Q2 at *
    generalize hgg : gg P2 Q2 = t at *
    have hg : gg (wyb P2 Q2) (-(wya P2 Q2)) = 1 := by
      unfold gg
      rw [Int.natAbs_neg, Nat.gcd_comm, hgc]; rfl
    have s1 := isF_iff.mp sF
    have u1 := isF_iff.mp uF
    have c1 := s1.2 u u1.1
    have c2 := u1.2 s s1.1
    have ev : P2 * (E (1 + 1) s).toInt + Q2 * (E (1 + 2) s).toInt = P2 * (E (1 + 1) u).toInt + Q2 * (E (1 + 2) u).toInt := by
      have : vv E 1 P2 Q2 s = vv E 1 P2 Q2 u := by omega
      exact this
    have par := par_ex (a := wya P2 Q2) (b := wyb P2 Q2) (dx := (E (1 + 1) s).toInt - (E (1 + 1) u).toInt) (dy := (E (1 + 2) s).toInt - (E (1 + 2) u).toInt) hgc (by
      have z : t * (wyb P2 Q2 * ((E (1 + 1) s).toInt - (E (1 + 1) u).toInt) - wya P2 Q2 * ((E (1 + 2) s).toInt - (E (1 + 2) u).toInt)) = 0 := by
        have e1 : P2 * (E (1 + 1) s).toInt + Q2 * (E (1 + 2) s).toInt - (P2 * (E (1 + 1) u).toInt + Q2 * (E (1 + 2) u).toInt) = 0 := by omega
        have e2 : t * (wyb P2 Q2 * ((E (1 + 1) s).toInt - (E (1 + 1) u).toInt) - wya P2 Q2 * ((E (1 + 2) s).toInt - (E (1 + 2) u).toInt)) = (t * wyb P2 Q2) * (E (1 + 1) s).toInt + -(t * wya P2 Q2) * (E (1 + 2) s).toInt - ((t * wyb P2 Q2) * (E (1 + 1) u).toInt + -(t * wya P2 Q2) * (E (1 + 2) u).toInt) := by grind
        rw [e2, ← eP, ← eQ]
        exact e1
      rcases Int.mul_eq_zero.mp z with w | w
      · omega
      · omega)
    obtain ⟨τ, d1, d2⟩ := par
    have bs := f0.1.2 s (by omega)
    have bu := f0.1.2 u un
    have t0 : τ ≠ 0 := by
      intro q
      rw [q] at d1 d2
      have := f0.2.2 s u (by omega) un (by rw [i_eq]; omega) (by rw [i_eq]; omega)
      omega
    have ra : -6 ≤ wya P2 Q2 ∧ wya P2 Q2 ≤ 6 := abs_le_mul (t := wya P2 Q2) (a := τ) t0 (by rw [Int.mul_comm]; omega)
    have rb : -6 ≤ wyb P2 Q2 ∧ wyb P2 Q2 ≤ 6 := abs_le_mul (t := wyb P2 Q2) (a := τ) t0 (by rw [Int.mul_comm]; omega)
    have hd : dirOK (wyb P2 Q2) (-(wya P2 Q2)) := gg_dir (by omega) (by omega) hg
    have eQ' : Q2 = t * (-(wya P2 Q2)) := by rw [Int.mul_neg]; exact eQ
    obtain ⟨r', a1, a2, -⟩ := scl (wyb P2 Q2) (-(wya P2 Q2)) t hg g1 hd (by rw [← eP, ← eQ']; exact dk)
    rw [← eP, ← eQ'] at a2
    have er := TrY.uniq hY a2 hT
    subst er
    exact ⟨wyb P2 Q2, -(wya P2 Q2), rb, by omega, hg, a1⟩
theorem st_keep {X Y : Mem} {N : Nat} (hN : 70 ≤ N) (h : Sim X Y) : ∃ (r : Int32) (X' Y' : Mem), fX5_keep N X = some (r, X') ∧ fX6_keep N Y = some (r, Y') ∧ Sim X' Y' := by
  obtain ⟨n0, n1, h0, h1, -, -⟩ := id h
  have hX := XQ.sim h0 h1
  have hY := YQ.sim h0 h1
  have f0 := FX.of h0
  have f1 := FX.of h1
  unfold fX5_keep fX6_keep
  rw [anyEmpty_eq hX, show (2 : Int32) = nI 2 from rfl, there_eq hY h0.2.2.1 h1.2.2.1 (by decide)]
  simp only [ob_some, ifb]
  by_cases c : n0 = 0 ∨ n1 = 0
  · have z : ¬ 0 < fgn n0 n1 2 := by rw [fgn_2, Nat.mul_eq_zero.mpr c]; omega
    rw [decide_eq_true c, decide_eq_false z]
    exact ⟨-3, X, Y, rfl, rfl, h⟩
  · have z2 : 0 < fgn n0 n1 2 := by show 0 < n0 * n1; exact Nat.mul_pos (by omega) (by omega)
    rw [decide_eq_false c, decide_eq_true z2]
    obtain ⟨hB, h64⟩ := fg_box (w := 2) hX.2.2.2.1 hX.2.2.2.2
    obtain ⟨m, hH⟩ := hull_ex z2 hB
    obtain ⟨X2, a1, a2, a3, a4, a5⟩ := figX hN hX (by decide) z2 hH
    obtain ⟨Y2, d1, d2, d3, d4, d5⟩ := figY hN hY hX.2.2.2.1 hX.2.2.2.2 (by decide) hH
    have m64 := a2.2.1
    have hS : Sim X2 Y2 := h.keep (fun c hc => a5 c (by omega) (by omega) (by omega) (by omega) (by omega)) d5
    simp only [Bool.false_eq_true, if_false, if_true]
    rw [areaOf_eq hN a1 a2 a3, d1]
    simp only [ob_some]
    have az : iI (arS (qX X.1 n0 n1 2) (qY X.1 n0 n1 2) m m) = 0 ↔ m < 3 := area_zero h64 hB hH
    rw [d3, show (3 : Int32) = nI 3 from rfl, if_nle (by omega) (by omega)]
    by_cases m3 : 3 ≤ m
    · rw [if_neg (fun q => by have := az.mp q; omega), if_pos m3]
      obtain ⟨k1, k2⟩ := keep_same (m := m) hN a4 d4 (by omega) (by omega) f0 f1 hH m3
      have hT : ∀ P Q, -6 ≤ P ∧ P ≤ 6 → -6 ≤ Q ∧ Q ≤ 6 → gg P Q = 1 → ∃ r, TrC N X.1 n0 n1 P Q r := fun P Q hP hQ hg => by
        have hd : dirOK P Q := gg_dir (by omega) (by omega) hg
        obtain ⟨r, r1, -⟩ := dir_all (N := N) (by omega) a4 d4 (by omega) (by omega) f0 f1 hd hd rfl rfl (fun _ => rfl) (fun _ => rfl)
        exact ⟨r, r1⟩
      obtain ⟨b, X3, b1, b2, b3, b4⟩ := scanP (N := N) (by omega) hT a4
      obtain ⟨b', Y3, c1, c2, c3, c4⟩ := keepLoop (N := N) hN d4 d2 d3 k1
      have eb : b' = b := by
        cases b with
        | true =>
          cases b' with
          | true => rfl
          | false =>
            obtain ⟨k, hk, ht⟩ := k2.mp (b3 rfl)
            exact absurd (TrY.uniq d4 ht (c4 rfl k hk)) (by decide)
        | false =>
          cases b' with
          | false => rfl
          | true =>
            obtain ⟨P, Q, hP, hQ, hg, ht⟩ := k2.mpr (c3 rfl)
            exact absurd (TrC.uniq a4 ht (b4 rfl P Q hP hQ hg)) (by decide)
      subst eb
      rw [b1, c1]
      simp only [ob_some, ifb]
      have hS3 : Sim X3 Y3 := hS.keep (fun c _ => by rw [b2]) (fun c x y => c2 c (by omega))
      cases b' with
      | true => exact ⟨0, X3, Y3, rfl, rfl, hS3⟩
      | false => exact ⟨1, X3, Y3, rfl, rfl, hS3⟩
    · rw [if_pos (az.mpr (by omega)), if_neg m3]
      exact ⟨-5, X2, Y2, rfl, rfl, hS⟩

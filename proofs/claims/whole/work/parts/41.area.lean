/-! areas, rims -/
def aft (m k : Nat) : Nat := if m ≤ k + 1 then 0 else k + 1
theorem aft_lt {m k : Nat} (h : k < m) : aft m k < m := by unfold aft; split <;> omega
def arS (qx qy : Nat → Int) (m : Nat) : Nat → Int
  | 0 => 0
  | k + 1 => arS qx qy m k + (qx k * qy (aft m k) - qx (aft m k) * qy k)
def gg (x y : Int) : Int := (Nat.gcd x.natAbs y.natAbs : Nat)
def rmS (qx qy : Nat → Int) (m : Nat) : Nat → Int
  | 0 => 0
  | k + 1 => rmS qx qy m k + gg (qx (aft m k) - qx k) (qy (aft m k) - qy k)
def Crn (cx cy : Nat) (M : Mem) (qx qy : Nat → Int) (m : Nat) : Prop := 1 ≤ m ∧ m ≤ 64 ∧ ∀ s, s < m → (M.1 cx s = iI (qx s) ∧ M.1 cy s = iI (qy s)) ∧ (0 ≤ qx s ∧ qx s ≤ 12) ∧ (0 ≤ qy s ∧ qy s ≤ 12)
theorem Crn.x {cx cy : Nat} {M : Mem} {qx qy : Nat → Int} {m a : Nat} (h : Crn cx cy M qx qy m) (ha : a < m) : ldI M cx 64 (nI a) = some (iI (qx a)) := by
  rw [ldI_n (Nat.lt_of_lt_of_le ha h.2.1) (by decide), (h.2.2 a ha).1.1]
theorem Crn.y {cx cy : Nat} {M : Mem} {qx qy : Nat → Int} {m a : Nat} (h : Crn cx cy M qx qy m) (ha : a < m) : ldI M cy 64 (nI a) = some (iI (qy a)) := by
  rw [ldI_n (Nat.lt_of_lt_of_le ha h.2.1) (by decide), (h.2.2 a ha).1.2]
theorem after_eq {M : Mem} {m k : Nat} (hm : m ≤ 64) (hk : k < m) (h : M.1 11 2 = nI m) : fX1_after M (nI k) = some (nI (aft m k)) := by
  unfold fX1_after aft
  rw [h, nI_1, if_nle (by omega) (by omega)]
  split <;> rfl
theorem afterY_eq {m k : Nat} (hm : m ≤ 64) (hk : k < m) : rmI (nI k + 1) (nI m) = some (nI (aft m k)) := by
  unfold aft
  rw [nI_1, nI_iI, nI_iI, rmI_eq (by omega) (by omega) (by omega) (by omega), tmod_nat, ← nI_iI]
  congr 2
  split
  · have : k + 1 = m := by omega
    rw [this, Nat.mod_self]
  · rw [Nat.mod_eq_of_lt (by omega)]
theorem area_eq {N : Nat} {M : Mem} {qx qy : Nat → Int} {m : Nat} (hN : 65 ≤ N) (h : Crn 12 13 M qx qy m) (hm : M.1 11 2 = nI m) : fX1_area N M = some (iI (arS qx qy m m)) := by
  have m1 := h.2.1
  have key := lp_rule (bot := fun _ _ => none) (step := sX1_area_4 M) (fun w f => ∀ t, t ≤ m → m - t < w → f (iI (arS qx qy m t)) (nI t) = some (iI (arS qx qy m m))) (fun t _ h => by omega) (by
    intro w f hf t ht hw
    unfold sX1_area_4
    rw [hm, if_nle (by omega) (by omega), nI_1]
    by_cases e : m ≤ t
    · rw [if_pos e]
      have : t = m := by omega
      subst this
      rfl
    · rw [if_neg e]
      have htm : t < m := by omega
      have ha := aft_lt htm
      have nxt := hf (t + 1) (by omega) (by omega)
      rw [after_eq m1 htm hm]
      simp only [ob_some, h.x htm, h.y htm, h.x ha, h.y ha, iI_mul, iI_sub, iI_add]
      have : arS qx qy m (t + 1) = arS qx qy m t + (qx t * qy (aft m t) - qy t * qx (aft m t)) := by rw [arS, Int.mul_comm (qy t)]
      rw [← this]
      exact nxt) N 0 (by omega) (by omega)
  exact key
theorem areaY_eq {N : Nat} {M : Mem} {qx qy : Nat → Int} {m : Nat} (hN : 65 ≤ N) (h : Crn 8 9 M qx qy m) (hm : M.1 0 10 = nI m) : lp (fun _ _ => none) (sX6_areaOf_9 M) N (0 : Int32) (0 : Int32) = some (iI (arS qx qy m m), M) := by
  have m1 := h.2.1
  have key := lp_rule (bot := fun _ _ => none) (step := sX6_areaOf_9 M) (fun w f => ∀ t, t ≤ m → m - t < w → f (iI (arS qx qy m t)) (nI t) = some (iI (arS qx qy m m), M)) (fun t _ h => by omega) (by
    intro w f hf t ht hw
    unfold sX6_areaOf_9
    rw [hm, if_nle (by omega) (by omega)]
    by_cases e : m ≤ t
    · rw [if_pos e]
      have : t = m := by omega
      subst this
      rfl
    · rw [if_neg e]
      have htm : t < m := by omega
      have ha := aft_lt htm
      have nxt := hf (t + 1) (by omega) (by omega)
      rw [afterY_eq m1 htm, nI_1]
      simp only [ob_some, h.x htm, h.y htm, h.x ha, h.y ha, iI_mul, iI_sub, iI_add]
      exact nxt) N 0 (by omega) (by omega)
  exact key
theorem gcd_step {x y : Nat} : Nat.gcd x y = Nat.gcd y (x % y) := by
  rw [Nat.gcd_comm x y, Nat.gcd_rec, Nat.gcd_comm]
theorem rm_nat {x y : Nat} (hx : x ≤ 1000) (hy : y ≤ 1000) (h0 : ¬ y = 0) : rmI (nI x) (nI y) = some (nI (x % y)) := by
  rw [nI_iI, nI_iI, rmI_eq (by omega) (by omega) (by omega) (by omega), tmod_nat, ← nI_iI]
theorem common_eq {N : Nat} {a b : Int} (hN : 20 ≤ N) (ha : -12 ≤ a ∧ a ≤ 12) (hb : -12 ≤ b ∧ b ≤ 12) : fX5_commonPart N (iI a) (iI b) = some (iI (gg a b)) := by
  have key := lp_rule (bot := fun _ _ _ => none) (step := sX5_commonPart_13) (fun w f => ∀ x y c : Nat, x ≤ 12 → y ≤ 12 → c + y ≤ 20 → y < w → f (nI x) (nI y) (nI c) = some (nI (Nat.gcd x y))) (fun x y c _ _ _ h => by omega) (by
    intro w f hf x y c hx hy hc hw
    unfold sX5_commonPart_13
    have l : (if (64 : Int32) ≤ nI c then some (nI x) else if nI y = 0 then some (nI x) else (rmI (nI x) (nI y)).bind fun v4 => f (nI y) v4 (nI c + 1)) = (if nI y = 0 then some (nI x) else (rmI (nI x) (nI y)).bind fun v4 => f (nI y) v4 (nI c + 1)) := by
      have q : ¬ (64 : Int32) ≤ nI c := by
        rw [i_le, nI_tI (by omega)]
        have : (64 : Int32).toInt = 64 := rfl
        omega
      rw [if_neg q]
    rw [l]
    by_cases y0 : y = 0
    · subst y0
      rw [if_pos (by decide)]
      simp
    · have q : ¬ nI y = 0 := by
        rw [i_z, nI_tI (by omega)]; omega
      rw [if_neg q, rm_nat (by omega) (by omega) y0, ob_some, nI_1]
      have := Nat.mod_lt x (Nat.pos_of_ne_zero y0)
      rw [gcd_step]
      exact hf y (x % y) (c + 1) hy (by omega) (by omega) (by omega)) N a.natAbs b.natAbs 0 (by omega) (by omega) (by omega) (by omega)
  unfold fX5_commonPart gg
  rw [ab_eq (by unfold sml; omega), ab_eq (by unfold sml; omega), ab_nat, ab_nat, ← nI_iI, ← nI_iI, ← nI_iI]
  exact key
theorem sizeZ_eq {z : Int} (h : sml z) : fX6_size (iI z) = some (iI (ab z)) := by
  unfold fX6_size
  rw [if_i0le h, iI_neg]
  unfold ab
  split <;> rfl
theorem commonY_eq {N : Nat} {a b : Int} (hN : 20 ≤ N) (ha : -12 ≤ a ∧ a ≤ 12) (hb : -12 ≤ b ∧ b ≤ 12) : fX6_common N (iI a) (iI b) = some (iI (gg a b)) := by
  have key := lp_rule (bot := fun _ _ => none) (step := sX6_common_10) (fun w f => ∀ x y : Nat, x ≤ 12 → y ≤ 12 → y < w → f (nI x) (nI y) = some (nI (Nat.gcd x y))) (fun x y _ _ h => by omega) (by
    intro w f hf x y hx hy hw
    unfold sX6_common_10
    by_cases y0 : y = 0
    · subst y0
      rw [if_pos (by decide)]
      simp
    · have q : ¬ nI y = 0 := by
        rw [i_z, nI_tI (by omega)]; omega
      rw [if_neg q, rm_nat (by omega) (by omega) y0, ob_some]
      have := Nat.mod_lt x (Nat.pos_of_ne_zero y0)
      rw [gcd_step]
      exact hf y (x % y) hy (by omega) (by omega)) N a.natAbs b.natAbs (by omega) (by omega) (by omega)
  unfold fX6_common gg
  rw [sizeZ_eq (by unfold sml; omega), sizeZ_eq (by unfold sml; omega), ab_nat, ab_nat, ← nI_iI, ← nI_iI, ← nI_iI]
  exact key
def rimV (qx qy : Nat → Int) (m : Nat) : Int32 := if m = 1 then 1 else if m = 2 then iI (rmS qx qy m m) / 2 + 1 else iI (rmS qx qy m m)
theorem dv2 (x : Int32) : dvI x 2 = some (x / 2) := by unfold dvI; rw [if_neg (by decide)]
theorem rimLoop {N : Nat} {M : Mem} {qx qy : Nat → Int} {m : Nat} (hN : 65 ≤ N) (h : Crn 12 13 M qx qy m) (hm : M.1 11 2 = nI m) : lp (fun _ _ => none) (sX1_rim_17 M N) N (0 : Int32) (0 : Int32) = some (iI (rmS qx qy m m)) := by
  have m1 := h.2.1
  have key := lp_rule (bot := fun _ _ => none) (step := sX1_rim_17 M N) (fun w f => ∀ t, t ≤ m → m - t < w → f (iI (rmS qx qy m t)) (nI t) = some (iI (rmS qx qy m m))) (fun t _ h => by omega) (by
    intro w f hf t ht hw
    unfold sX1_rim_17
    rw [hm, if_nle (by omega) (by omega), nI_1]
    by_cases e : m ≤ t
    · rw [if_pos e]
      have : t = m := by omega
      subst this
      rfl
    · rw [if_neg e]
      have htm : t < m := by omega
      have ha := aft_lt htm
      have nxt := hf (t + 1) (by omega) (by omega)
      have b1 := h.2.2 t htm
      have b2 := h.2.2 _ ha
      rw [after_eq m1 htm hm]
      simp only [ob_some, h.x htm, h.y htm, h.x ha, h.y ha, iI_sub]
      rw [common_eq (by omega) (by omega) (by omega)]
      simp only [ob_some, iI_add]
      exact nxt) N 0 (by omega) (by omega)
  exact key
theorem rim_eq {N : Nat} {M : Mem} {qx qy : Nat → Int} {m : Nat} (hN : 65 ≤ N) (h : Crn 12 13 M qx qy m) (hm : M.1 11 2 = nI m) : fX1_rim N M = some (rimV qx qy m) := by
  have m1 := h.2.1
  have m0 := h.1
  unfold fX1_rim rimV
  rw [rimLoop hN h hm, hm]
  have e2 : (2 : Int32) = nI 2 := by decide
  by_cases c1 : m = 1
  · subst c1; rw [if_neg (by decide), if_pos rfl]; rfl
  · rw [if_neg c1]
    simp only [ob_some, dv2]
    rw [e2, if_nle (by omega) (by omega), if_pos (show 2 ≤ m by omega), if_neq (by omega) (by omega)]
    split <;> rfl
theorem rimYLoop {N : Nat} {M : Mem} {qx qy : Nat → Int} {m : Nat} (hN : 65 ≤ N) (h : Crn 8 9 M qx qy m) (hm : M.1 0 10 = nI m) : lp (fun _ _ => none) (sX6_rimOf_9 M N) N (0 : Int32) (0 : Int32) = some (iI (rmS qx qy m m)) := by
  have m1 := h.2.1
  have key := lp_rule (bot := fun _ _ => none) (step := sX6_rimOf_9 M N) (fun w f => ∀ t, t ≤ m → m - t < w → f (iI (rmS qx qy m t)) (nI t) = some (iI (rmS qx qy m m))) (fun t _ h => by omega) (by
    intro w f hf t ht hw
    unfold sX6_rimOf_9
    rw [hm, if_nle (by omega) (by omega)]
    by_cases e : m ≤ t
    · rw [if_pos e]
      have : t = m := by omega
      subst this
      rfl
    · rw [if_neg e]
      have htm : t < m := by omega
      have ha := aft_lt htm
      have nxt := hf (t + 1) (by omega) (by omega)
      have b1 := h.2.2 t htm
      have b2 := h.2.2 _ ha
      rw [afterY_eq m1 htm, nI_1]
      simp only [ob_some, h.x htm, h.y htm, h.x ha, h.y ha, iI_sub]
      rw [commonY_eq (by omega) (by omega) (by omega)]
      simp only [ob_some, iI_add]
      exact nxt) N 0 (by omega) (by omega)
  exact key

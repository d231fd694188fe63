/-! the sides of a figure -/
theorem nx_pos {px py : Nat → Int} {a b : Nat} (h : smP px py a b) : ∀ k, nx px py a k = nx px py b k := by
  obtain ⟨h1, h2⟩ := h
  intro k
  induction k with
  | zero => rfl
  | succ k ih =>
    unfold nx
    rw [ih]
    unfold orr dst
    rw [h1, h2]
theorem hull_next {px py : Nat → Int} {n m : Nat} (hB : box px py n) (hH : HULL px py n m) (hm : 2 ≤ m) : seqh px py n (m + 1) = seqh px py n 1 ∧ ∀ k, k ≤ m → NX px py n (seqh px py n k) (seqh px py n (k + 1)) := by
  obtain ⟨h1, h2, h3, h4, h5⟩ := hH
  rcases h5 with ⟨w, -⟩ | ⟨-, h6, h7⟩
  · omega
  have e0 := (h6 0 (by omega)).1
  have em : nx px py (seqh px py n m) n = some (seqh px py n 1) := by rw [nx_pos h7, e0]
  have e : seqh px py n (m + 1) = seqh px py n 1 := by
    show (nx px py (seqh px py n m) n).getD (seqh px py n m) = _
    rw [em]; rfl
  refine ⟨e, fun k hk => ?_⟩
  rcases Nat.lt_or_ge k m with w | w
  · exact (h6 k w).2
  · have : k = m := by omega
    subst this
    rw [e]
    exact nx_NX (h3 k (Nat.le_refl _)).2 em
theorem hull_ne2 {px py : Nat → Int} {n m : Nat} (hB : box px py n) (hH : HULL px py n m) (hm : 3 ≤ m) : ∀ k, k < m → ¬ smP px py (seqh px py n (k + 2)) (seqh px py n k) := by
  obtain ⟨e, nxs⟩ := hull_next hB hH (by omega)
  intro k
  induction k with
  | zero => intro _; exact hH.2.2.2.1 2 (by omega) (by omega)
  | succ k ih =>
    intro hk q
    have a1 := hH.2.2.1 (k + 2) (by omega)
    have a2 := hH.2.2.1 k (by omega)
    exact ih (by omega) (NX.inj a1.2 a2.2 a1.1 a2.1 (nxs (k + 2) (by omega)) (nxs k (by omega)) q)
theorem hull_strict {px py : Nat → Int} {n m : Nat} (hB : box px py n) (hH : HULL px py n m) (hm : 3 ≤ m) : ∀ k, k < m → 0 < orr px py (seqh px py n k) (seqh px py n (k + 1)) (seqh px py n (k + 2)) := by
  obtain ⟨e, nxs⟩ := hull_next hB hH (by omega)
  intro k hk
  have a := hH.2.2.1 k (by omega)
  exact strict3 a.2 a.1 (nxs k (by omega)) (nxs (k + 1) (by omega)) (hull_ne2 hB hH hm k hk)
def oS (cx cy : Nat → Int) : Nat → Int
  | 0 => 0
  | t + 1 => oS cx cy t + ((cx t - cx 0) * (cy (t + 1) - cy 0) - (cy t - cy 0) * (cx (t + 1) - cx 0))
theorem ar_id {cx cy : Nat → Int} {m : Nat} : ∀ k, k + 1 ≤ m → arS cx cy m k = oS cx cy k + (cx 0 * cy k - cx k * cy 0) := by
  intro k
  induction k with
  | zero => intro _; show (0 : Int) = 0 + (cx 0 * cy 0 - cx 0 * cy 0); omega
  | succ k ih =>
    intro hk
    have e : aft m k = k + 1 := by unfold aft; rw [if_neg (by omega)]
    show arS cx cy m k + (cx k * cy (aft m k) - cx (aft m k) * cy k) = oS cx cy k + ((cx k - cx 0) * (cy (k + 1) - cy 0) - (cy k - cy 0) * (cx (k + 1) - cx 0)) + _
    rw [e, ih (by omega)]
    grind
theorem ar_all {cx cy : Nat → Int} {m : Nat} (hm : 1 ≤ m) : arS cx cy m m = oS cx cy (m - 1) := by
  obtain ⟨k, rfl⟩ : ∃ k, m = k + 1 := ⟨m - 1, by omega⟩
  have e : aft (k + 1) k = 0 := by unfold aft; rw [if_pos (by omega)]
  show arS cx cy (k + 1) k + (cx k * cy (aft (k + 1) k) - cx (aft (k + 1) k) * cy k) = oS cx cy (k + 1 - 1)
  rw [e, ar_id k (by omega), Nat.add_sub_cancel]
  grind
theorem area_zero {px py : Nat → Int} {n m : Nat} (hn : n ≤ 64) (hB : box px py n) (hH : HULL px py n m) : iI (arS (fun k => px (seqh px py n k)) (fun k => py (seqh px py n k)) m m) = 0 ↔ m < 3 := by
  have hm1 := hH.1
  have hmn := hH.2.1
  rw [ar_all hm1]
  have bx : ∀ k, k ≤ m → (0 ≤ px (seqh px py n k) ∧ px (seqh px py n k) ≤ 12) ∧ (0 ≤ py (seqh px py n k) ∧ py (seqh px py n k) ≤ 12) := fun k hk => hB _ (hH.2.2.1 k hk).1
  have bd : ∀ k, k + 1 ≤ m → -(288 * (k : Int)) ≤ oS (fun k => px (seqh px py n k)) (fun k => py (seqh px py n k)) k ∧ oS (fun k => px (seqh px py n k)) (fun k => py (seqh px py n k)) k ≤ 288 * (k : Int) := by
    intro k
    induction k with
    | zero => intro _; exact ⟨by show _ ≤ (0 : Int); omega, by show (0 : Int) ≤ _; omega⟩
    | succ k ih =>
      intro hk
      have i1 := ih (by omega)
      have b0 := bx 0 (by omega)
      have b1 := bx k (by omega)
      have b2 := bx (k + 1) (by omega)
      have e : oS (fun k => px (seqh px py n k)) (fun k => py (seqh px py n k)) (k + 1) = oS (fun k => px (seqh px py n k)) (fun k => py (seqh px py n k)) k + ((px (seqh px py n k) - px (seqh px py n 0)) * (py (seqh px py n (k + 1)) - py (seqh px py n 0)) - (py (seqh px py n k) - py (seqh px py n 0)) * (px (seqh px py n (k + 1)) - px (seqh px py n 0))) := rfl
      have m1 := bd_mul (a := px (seqh px py n k) - px (seqh px py n 0)) (b := py (seqh px py n (k + 1)) - py (seqh px py n 0)) (by omega) (by omega)
      have m2 := bd_mul (a := py (seqh px py n k) - py (seqh px py n 0)) (b := px (seqh px py n (k + 1)) - px (seqh px py n 0)) (by omega) (by omega)
      rw [e]
      omega
  have bdm := bd (m - 1) (by omega)
  rw [iI_0 (by omega) (by omega)]
  constructor
  · intro z
    rcases Nat.lt_or_ge m 3 with w | w
    · exact w
    · exfalso
      obtain ⟨e, nxs⟩ := hull_next hB hH (by omega)
      have st := hull_strict hB hH w 0 (by omega)
      have tm : ∀ k, oS (fun k => px (seqh px py n k)) (fun k => py (seqh px py n k)) (k + 1) = oS (fun k => px (seqh px py n k)) (fun k => py (seqh px py n k)) k + orr px py (seqh px py n k) (seqh px py n (k + 1)) (seqh px py n 0) := by
        intro k
        show oS (fun k => px (seqh px py n k)) (fun k => py (seqh px py n k)) k + ((px (seqh px py n k) - px (seqh px py n 0)) * (py (seqh px py n (k + 1)) - py (seqh px py n 0)) - (py (seqh px py n k) - py (seqh px py n 0)) * (px (seqh px py n (k + 1)) - px (seqh px py n 0))) = _
        unfold orr
        grind
      have nn : ∀ k, k ≤ m → 0 ≤ orr px py (seqh px py n k) (seqh px py n (k + 1)) (seqh px py n 0) := fun k hk => ((nxs k hk).2.2 _ (hH.2.2.1 0 (by omega)).1).1
      have t2 : 0 < oS (fun k => px (seqh px py n k)) (fun k => py (seqh px py n k)) 2 := by
        have z0 : oS (fun k => px (seqh px py n k)) (fun k => py (seqh px py n k)) 0 = 0 := rfl
        have a0 := tm 0
        have a1 := tm 1
        have n0 := nn 0 (by omega)
        have c : orr px py (seqh px py n 1) (seqh px py n (1 + 1)) (seqh px py n 0) = orr px py (seqh px py n 0) (seqh px py n (0 + 1)) (seqh px py n (0 + 2)) := by
          show orr px py (seqh px py n 1) (seqh px py n 2) (seqh px py n 0) = orr px py (seqh px py n 0) (seqh px py n 1) (seqh px py n 2)
          unfold orr
          grind
        rw [c] at a1
        show 0 < oS (fun k => px (seqh px py n k)) (fun k => py (seqh px py n k)) (1 + 1)
        rw [a1, a0, z0]
        omega
      have mono : ∀ k, 2 ≤ k → k ≤ m → 0 < oS (fun k => px (seqh px py n k)) (fun k => py (seqh px py n k)) k := by
        intro k
        induction k with
        | zero => intro h; omega
        | succ k ih =>
          intro h hk
          rcases Nat.lt_or_ge k 2 with c | c
          · have : k = 1 := by omega
            subst this
            exact t2
          · have := ih c (by omega)
            have := nn k (by omega)
            rw [tm k]
            omega
      have := mono (m - 1) (by omega) (by omega)
      omega
  · intro w
    have : m = 1 ∨ m = 2 := by omega
    rcases this with rfl | rfl
    · rfl
    · show (0 : Int) + ((px (seqh px py n 0) - px (seqh px py n 0)) * (py (seqh px py n (0 + 1)) - py (seqh px py n 0)) - (py (seqh px py n 0) - py (seqh px py n 0)) * (px (seqh px py n (0 + 1)) - px (seqh px py n 0))) = 0
      simp
theorem argmin (v : Nat → Int) : ∀ n, ∃ k, k ≤ n ∧ ∀ j, j ≤ n → v k ≤ v j := by
  intro n
  induction n with
  | zero => exact ⟨0, by omega, fun j hj => by have : j = 0 := by omega
                                               rw [this]; exact Int.le_refl _⟩
  | succ n ih =>
    obtain ⟨k, k1, k2⟩ := ih
    by_cases c : v (n + 1) < v k
    · refine ⟨n + 1, by omega, fun j hj => ?_⟩
      rcases Nat.lt_or_ge j (n + 1) with w | w
      · have := k2 j (by omega); omega
      · have : j = n + 1 := by omega
        rw [this]; exact Int.le_refl _
    · refine ⟨k, by omega, fun j hj => ?_⟩
      rcases Nat.lt_or_ge j (n + 1) with w | w
      · exact k2 j (by omega)
      · have : j = n + 1 := by omega
        rw [this]; omega
theorem cone_id (p q v1 w1 v2 w2 x y : Int) : (v1 * w2 - w1 * v2) * (p * x + q * y) = (x * w2 - y * v2) * (p * v1 + q * w1) + (v1 * y - w1 * x) * (p * v2 + q * w2) := by grind
/-- a way whose lowest points are more than one has a side of the figure among them, and the side's way is the same -/
theorem side_ex {px py : Nat → Int} {n m A B : Nat} {p q : Int} (hB : box px py n) (hH : HULL px py n m) (hm : 3 ≤ m) (hpq : p ≠ 0 ∨ q ≠ 0) (hA : A < n) (hBn : B < n) (hne : ¬ smP px py A B) (mA : ∀ x, x < n → p * px A + q * py A ≤ p * px x + q * py x) (mB : ∀ x, x < n → p * px B + q * py B ≤ p * px x + q * py x) : ∃ k, k < m ∧ p * (px (seqh px py n (k + 1)) - px (seqh px py n k)) + q * (py (seqh px py n (k + 1)) - py (seqh px py n k)) = 0 ∧ ∃ x y : Int, 0 < p * x + q * y ∧ 0 < (px (seqh px py n (k + 1)) - px (seqh px py n k)) * y - (py (seqh px py n (k + 1)) - py (seqh px py n k)) * x := by
  obtain ⟨e, nxs⟩ := hull_next hB hH (by omega)
  have h7 : smP px py (seqh px py n m) (seqh px py n 0) := by
    rcases hH.2.2.2.2 with ⟨w, -⟩ | ⟨-, -, w⟩
    · omega
    · exact w
  obtain ⟨k', kk1, kk2⟩ := argmin (fun j => p * px (seqh px py n (j + 1)) + q * py (seqh px py n (j + 1))) (m - 1)
  generalize hk : k' + 1 = k at *
  have k1 : 1 ≤ k := by omega
  have km : k ≤ m := by omega
  have low : ∀ j, j ≤ m + 1 → p * px (seqh px py n k) + q * py (seqh px py n k) ≤ p * px (seqh px py n j) + q * py (seqh px py n j) := by
    have lo : ∀ j, 1 ≤ j → j ≤ m → p * px (seqh px py n k) + q * py (seqh px py n k) ≤ p * px (seqh px py n j) + q * py (seqh px py n j) := by
      intro j j1 j2
      have := kk2 (j - 1) (by omega)
      have ej : j - 1 + 1 = j := by omega
      rw [ej] at this
      exact this
    intro j hj
    rcases Nat.eq_zero_or_pos j with z | z
    · rw [z, ← h7.1, ← h7.2]; exact lo m (by omega) (by omega)
    · rcases Nat.lt_or_ge m j with w | w
      · have : j = m + 1 := by omega
        rw [this, e]; exact lo 1 (by omega) (by omega)
      · exact lo j z w
  have st := hull_strict hB hH hm (k - 1) (by omega)
  have ek : k - 1 + 1 = k := by omega
  have ek2 : k - 1 + 2 = k + 1 := by omega
  rw [ek, ek2] at st
  have l1 := low (k + 1) (by omega)
  have l2 := low (k - 1) (by omega)
  have nxk := nxs k km
  have nxp := nxs (k - 1) (by omega)
  rw [ek] at nxp
  generalize hv1 : px (seqh px py n (k + 1)) - px (seqh px py n k) = v1 at *
  generalize hw1 : py (seqh px py n (k + 1)) - py (seqh px py n k) = w1 at *
  generalize hv2 : px (seqh px py n (k - 1)) - px (seqh px py n k) = v2 at *
  generalize hw2 : py (seqh px py n (k - 1)) - py (seqh px py n k) = w2 at *
  have W : 0 < v1 * w2 - w1 * v2 := by
    have : orr px py (seqh px py n (k - 1)) (seqh px py n k) (seqh px py n (k + 1)) = v1 * w2 - w1 * v2 := by
      rw [← hv1, ← hw1, ← hv2, ← hw2]
      unfold orr
      grind
    omega
  have p1 : 0 ≤ p * v1 + q * w1 := by
    have : p * v1 + q * w1 = (p * px (seqh px py n (k + 1)) + q * py (seqh px py n (k + 1))) - (p * px (seqh px py n k) + q * py (seqh px py n k)) := by rw [← hv1, ← hw1]; grind
    omega
  have p2 : 0 ≤ p * v2 + q * w2 := by
    have : p * v2 + q * w2 = (p * px (seqh px py n (k - 1)) + q * py (seqh px py n (k - 1))) - (p * px (seqh px py n k) + q * py (seqh px py n k)) := by rw [← hv2, ← hw2]; grind
    omega
  have c1 : ∀ x, x < n → 0 ≤ v1 * (py x - py (seqh px py n k)) - w1 * (px x - px (seqh px py n k)) := by
    intro x hx
    have := (nxk.2.2 x hx).1
    unfold orr at this
    rw [hv1, hw1] at this
    exact this
  have c2 : ∀ x, x < n → 0 ≤ (px x - px (seqh px py n k)) * w2 - (py x - py (seqh px py n k)) * v2 := by
    intro x hx
    have h := (nxp.2.2 x hx).1
    have : orr px py (seqh px py n (k - 1)) (seqh px py n k) x = (px x - px (seqh px py n k)) * w2 - (py x - py (seqh px py n k)) * v2 := by
      rw [← hv2, ← hw2]
      unfold orr
      grind
    omega
  have kn := (hH.2.2.1 k km).1
  -- where both neighbours lie higher, the corner alone is lowest
  have uniq : 0 < p * v1 + q * w1 → 0 < p * v2 + q * w2 → ∀ x, x < n → p * px x + q * py x ≤ p * px (seqh px py n k) + q * py (seqh px py n k) → smP px py x (seqh px py n k) := by
    intro q1 q2 x hx hle
    have id1 := cone_id p q v1 w1 v2 w2 (px x - px (seqh px py n k)) (py x - py (seqh px py n k))
    have a1 := c1 x hx
    have a2 := c2 x hx
    have le : p * (px x - px (seqh px py n k)) + q * (py x - py (seqh px py n k)) ≤ 0 := by
      have : p * (px x - px (seqh px py n k)) + q * (py x - py (seqh px py n k)) = (p * px x + q * py x) - (p * px (seqh px py n k) + q * py (seqh px py n k)) := by grind
      omega
    have L : (v1 * w2 - w1 * v2) * (p * (px x - px (seqh px py n k)) + q * (py x - py (seqh px py n k))) ≤ 0 := Int.mul_nonpos_of_nonneg_of_nonpos (by omega) le
    have t1 := Int.mul_nonneg a2 (show 0 ≤ p * v1 + q * w1 by omega)
    have t2 := Int.mul_nonneg a1 (show 0 ≤ p * v2 + q * w2 by omega)
    have z1 : ((px x - px (seqh px py n k)) * w2 - (py x - py (seqh px py n k)) * v2) * (p * v1 + q * w1) = 0 := by omega
    have z2 : (v1 * (py x - py (seqh px py n k)) - w1 * (px x - px (seqh px py n k))) * (p * v2 + q * w2) = 0 := by omega
    have y1 : (px x - px (seqh px py n k)) * w2 - (py x - py (seqh px py n k)) * v2 = 0 := by
      rcases Int.mul_eq_zero.mp z1 with w | w
      · exact w
      · omega
    have y2 : v1 * (py x - py (seqh px py n k)) - w1 * (px x - px (seqh px py n k)) = 0 := by
      rcases Int.mul_eq_zero.mp z2 with w | w
      · exact w
      · omega
    have zx : (v1 * w2 - w1 * v2) * (px x - px (seqh px py n k)) = 0 := by
      have : (v1 * w2 - w1 * v2) * (px x - px (seqh px py n k)) = v1 * ((px x - px (seqh px py n k)) * w2 - (py x - py (seqh px py n k)) * v2) + v2 * (v1 * (py x - py (seqh px py n k)) - w1 * (px x - px (seqh px py n k))) := by grind
      rw [this, y1, y2]; simp
    have zy : (v1 * w2 - w1 * v2) * (py x - py (seqh px py n k)) = 0 := by
      have : (v1 * w2 - w1 * v2) * (py x - py (seqh px py n k)) = w1 * ((px x - px (seqh px py n k)) * w2 - (py x - py (seqh px py n k)) * v2) + w2 * (v1 * (py x - py (seqh px py n k)) - w1 * (px x - px (seqh px py n k))) := by grind
      rw [this, y1, y2]; simp
    constructor
    · rcases Int.mul_eq_zero.mp zx with w | w
      · omega
      · omega
    · rcases Int.mul_eq_zero.mp zy with w | w
      · omega
      · omega
  have notboth : ¬ (0 < p * v1 + q * w1 ∧ 0 < p * v2 + q * w2) := by
    intro ⟨q1, q2⟩
    have a := uniq q1 q2 A hA (mA _ kn)
    have b := uniq q1 q2 B hBn (mB _ kn)
    exact hne ⟨by rw [a.1, b.1], by rw [a.2, b.2]⟩
  -- p and q are not both nought where one lies higher; where none does, every point is lowest
  have some_pos : (p * v1 + q * w1 = 0 ∧ p * v2 + q * w2 = 0) → (p = 0 ∧ q = 0) := by
    intro ⟨z1, z2⟩
    have zp : (v1 * w2 - w1 * v2) * p = 0 := by
      have : (v1 * w2 - w1 * v2) * p = w2 * (p * v1 + q * w1) - w1 * (p * v2 + q * w2) := by grind
      rw [this, z1, z2]; simp
    have zq : (v1 * w2 - w1 * v2) * q = 0 := by
      have : (v1 * w2 - w1 * v2) * q = v1 * (p * v2 + q * w2) - v2 * (p * v1 + q * w1) := by grind
      rw [this, z1, z2]; simp
    constructor
    · rcases Int.mul_eq_zero.mp zp with w | w
      · omega
      · exact w
    · rcases Int.mul_eq_zero.mp zq with w | w
      · omega
      · exact w
  by_cases z1 : p * v1 + q * w1 = 0
  · have g2 : 0 < p * v2 + q * w2 := by
      rcases Int.lt_or_eq_of_le p2 with w | w
      · exact w
      · have := some_pos ⟨z1, w.symm⟩
        omega
    rcases Nat.lt_or_ge k m with w | w
    · exact ⟨k, w, by rw [hv1, hw1]; exact z1, v2, w2, g2, by rw [hv1, hw1]; exact W⟩
    · have : k = m := by omega
      subst this
      have ex : px (seqh px py n (0 + 1)) - px (seqh px py n 0) = v1 := by rw [← hv1, e, h7.1]
      have ey : py (seqh px py n (0 + 1)) - py (seqh px py n 0) = w1 := by rw [← hw1, e, h7.2]
      exact ⟨0, by omega, by rw [ex, ey]; exact z1, v2, w2, g2, by rw [ex, ey]; exact W⟩
  · have g1 : 0 < p * v1 + q * w1 := by omega
    have z2 : p * v2 + q * w2 = 0 := by
      rcases Int.lt_or_eq_of_le p2 with w | w
      · exact absurd ⟨g1, w⟩ notboth
      · exact w.symm
    have ex : px (seqh px py n (k - 1 + 1)) - px (seqh px py n (k - 1)) = -v2 := by rw [ek, ← hv2]; omega
    have ey : py (seqh px py n (k - 1 + 1)) - py (seqh px py n (k - 1)) = -w2 := by rw [ek, ← hw2]; omega
    refine ⟨k - 1, by omega, ?_, v1, w1, g1, ?_⟩
    · rw [ex, ey, Int.mul_neg, Int.mul_neg]; omega
    · rw [ex, ey]
      have : -v2 * w1 - -w2 * v1 = v1 * w2 - w1 * v2 := by grind
      omega

/-! gift wrapping: it ends, and what it gives -/
def orr (px py : Nat → Int) (a b k : Nat) : Int := (px b - px a) * (py k - py a) - (py b - py a) * (px k - px a)
def dst (px py : Nat → Int) (a k : Nat) : Int := (px k - px a) * (px k - px a) + (py k - py a) * (py k - py a)
def smP (px py : Nat → Int) (a b : Nat) : Prop := px a = px b ∧ py a = py b
/-- b is the next corner from a -/
def NX (px py : Nat → Int) (n a b : Nat) : Prop := b < n ∧ ¬ smP px py b a ∧ ∀ k, k < n → 0 ≤ orr px py a b k ∧ (orr px py a b k = 0 → dst px py a k ≤ dst px py a b)
/-- a is a corner -/
def Ext (px py : Nat → Int) (n a : Nat) : Prop := ∃ u v : Int, ∀ k, k < n → ¬ smP px py k a → 0 < u * (px k - px a) + v * (py k - py a)
def outr (px py : Nat → Int) (a k b : Nat) : Prop := 0 < orr px py a k b ∨ (orr px py a k b = 0 ∧ dst px py a b < dst px py a k)
theorem nl_pos {a b : Int} (ha : 0 < a) (hb : 0 < b) : 0 < a * b := Int.mul_pos ha hb
theorem nl_nn {a b : Int} (ha : 0 ≤ a) (hb : 0 ≤ b) : 0 ≤ a * b := Int.mul_nonneg ha hb
theorem pl_id (u v x1 y1 x2 y2 x3 y3 : Int) : (x1 * y3 - y1 * x3) * (u * x2 + v * y2) = (x1 * y2 - y1 * x2) * (u * x3 + v * y3) + (x2 * y3 - y2 * x3) * (u * x1 + v * y1) := by grind
/-- turning on: from k over b to t -/
theorem turn_tr {u v x1 y1 x2 y2 x3 y3 : Int} (h1 : 0 < u * x1 + v * y1) (h2 : 0 < u * x2 + v * y2) (h3 : 0 < u * x3 + v * y3) (a : 0 ≤ x1 * y2 - y1 * x2) (b : 0 ≤ x2 * y3 - y2 * x3) : 0 ≤ x1 * y3 - y1 * x3 ∧ (x1 * y3 - y1 * x3 = 0 → x1 * y2 - y1 * x2 = 0 ∧ x2 * y3 - y2 * x3 = 0) := by
  have id := pl_id u v x1 y1 x2 y2 x3 y3
  generalize hA : x1 * y2 - y1 * x2 = A at *
  generalize hB : x2 * y3 - y2 * x3 = B at *
  generalize hC : x1 * y3 - y1 * x3 = C at *
  generalize u * x1 + v * y1 = f1 at *
  generalize u * x2 + v * y2 = f2 at *
  generalize u * x3 + v * y3 = f3 at *
  have p1 : 0 ≤ A * f3 := nl_nn a (by omega)
  have p2 : 0 ≤ B * f1 := nl_nn b (by omega)
  constructor
  · rcases Int.lt_or_le C 0 with q | q
    · have : 0 < (-C) * f2 := nl_pos (by omega) h2
      rw [Int.neg_mul] at this
      omega
    · exact q
  · intro hz
    rw [hz, Int.zero_mul] at id
    constructor
    · rcases Int.lt_or_le 0 A with q | q
      · have := nl_pos q h3; omega
      · omega
    · rcases Int.lt_or_le 0 B with q | q
      · have := nl_pos q h1; omega
      · omega
/-- the search for the next corner -/
def nx (px py : Nat → Int) (a : Nat) : Nat → Option Nat
  | 0 => none
  | k + 1 => if px k = px a ∧ py k = py a then nx px py a k else match nx px py a k with
    | none => some k
    | some b => if 0 < orr px py a k b ∨ (orr px py a k b = 0 ∧ dst px py a b < dst px py a k) then some k else some b
theorem nx_inv {px py : Nat → Int} {n a : Nat} (hE : Ext px py n a) : ∀ k, k ≤ n → (nx px py a k = none → ∀ t, t < k → smP px py t a) ∧ (∀ b, nx px py a k = some b → b < k ∧ ¬ smP px py b a ∧ ∀ t, t < k → 0 ≤ orr px py a b t ∧ (orr px py a b t = 0 → dst px py a t ≤ dst px py a b)) := by
  obtain ⟨u, v, hE⟩ := hE
  intro k
  induction k with
  | zero => intro _; exact ⟨fun _ t ht => by omega, fun b h => by cases h⟩
  | succ k ih =>
    intro hk
    obtain ⟨i1, i2⟩ := ih (by omega)
    have zero_at : ∀ b t, smP px py t a → 0 ≤ orr px py a b t ∧ (orr px py a b t = 0 → dst px py a t ≤ dst px py a b) := by
      intro b t ht
      have e1 : orr px py a b t = 0 := by unfold orr; rw [ht.1, ht.2]; simp
      refine ⟨by omega, fun _ => ?_⟩
      unfold dst
      rw [ht.1, ht.2, Int.sub_self, Int.sub_self]
      have q1 : 0 ≤ (px b - px a) * (px b - px a) := by rcases Int.le_total 0 (px b - px a) with w | w; exact nl_nn w w; have := nl_nn (a := -(px b - px a)) (b := -(px b - px a)) (by omega) (by omega); rw [Int.neg_mul_neg] at this; exact this
      have q2 : 0 ≤ (py b - py a) * (py b - py a) := by rcases Int.le_total 0 (py b - py a) with w | w; exact nl_nn w w; have := nl_nn (a := -(py b - py a)) (b := -(py b - py a)) (by omega) (by omega); rw [Int.neg_mul_neg] at this; exact this
      omega
    unfold nx
    by_cases hs : px k = px a ∧ py k = py a
    · rw [if_pos hs]
      refine ⟨fun h t ht => ?_, fun b h => ?_⟩
      · rcases Nat.lt_or_ge t k with q | q
        · exact i1 h t q
        · rw [show t = k by omega]; exact hs
      · obtain ⟨a1, a2, a3⟩ := i2 b h
        refine ⟨by omega, a2, fun t ht => ?_⟩
        rcases Nat.lt_or_ge t k with q | q
        · exact a3 t q
        · rw [show t = k by omega]; exact zero_at b k hs
    · rw [if_neg hs]
      cases hq : nx px py a k with
      | none =>
        refine ⟨fun h => (by cases h), fun b h => ?_⟩
        cases h
        have hall := i1 hq
        refine ⟨by omega, hs, fun t ht => ?_⟩
        rcases Nat.lt_or_ge t k with q | q
        · exact zero_at k t (hall t q)
        · rw [show t = k by omega]
          refine ⟨?_, fun _ => Int.le_refl _⟩
          unfold orr
          rw [Int.mul_comm (py k - py a)]
          omega
      | some b =>
        obtain ⟨a1, a2, a3⟩ := i2 b hq
        have fb := hE b (by omega) a2
        have fk := hE k (by omega) hs
        dsimp only
        by_cases ho : 0 < orr px py a k b ∨ (orr px py a k b = 0 ∧ dst px py a b < dst px py a k)
        · rw [if_pos ho]
          refine ⟨fun h => (by cases h), fun c h => ?_⟩
          cases h
          refine ⟨by omega, hs, fun t ht => ?_⟩
          rcases Nat.lt_or_ge t k with q | q
          · by_cases hst : smP px py t a
            · exact zero_at k t hst
            · have ft := hE t (by omega) hst
              obtain ⟨b1, b2⟩ := a3 t q
              have okb : 0 ≤ orr px py a k b := by rcases ho with w | w <;> omega
              obtain ⟨c1, c2⟩ := turn_tr (u := u) (v := v) (x1 := px k - px a) (y1 := py k - py a) (x2 := px b - px a) (y2 := py b - py a) (x3 := px t - px a) (y3 := py t - py a) fk fb ft okb b1
              refine ⟨c1, fun hz => ?_⟩
              obtain ⟨d1, d2⟩ := c2 hz
              have := b2 d2
              rcases ho with w | w
              · have e : orr px py a k b = 0 := d1
                omega
              · omega
          · rw [show t = k by omega]
            refine ⟨?_, fun _ => Int.le_refl _⟩
            unfold orr
            rw [Int.mul_comm (py k - py a)]
            omega
        · rw [if_neg ho]
          refine ⟨fun h => (by cases h), fun c h => ?_⟩
          cases h
          refine ⟨by omega, a2, fun t ht => ?_⟩
          rcases Nat.lt_or_ge t k with q | q
          · exact a3 t q
          · rw [show t = k by omega]
            have e : orr px py a b k = -(orr px py a k b) := by unfold orr; grind
            rw [e]
            refine ⟨by omega, fun hz => by omega⟩
theorem nx_NX {px py : Nat → Int} {n a b : Nat} (hE : Ext px py n a) (h : nx px py a n = some b) : NX px py n a b := (nx_inv hE n (Nat.le_refl _)).2 b h
theorem nx_none {px py : Nat → Int} {n a : Nat} (hE : Ext px py n a) (h : nx px py a n = none) : ∀ t, t < n → smP px py t a := (nx_inv hE n (Nat.le_refl _)).1 h
/-- the box -/
def box (px py : Nat → Int) (n : Nat) : Prop := ∀ k, k < n → (0 ≤ px k ∧ px k ≤ 12) ∧ (0 ≤ py k ∧ py k ≤ 12)
theorem sq_nn (x : Int) : 0 ≤ x * x := by
  rcases Int.le_total 0 x with w | w
  · exact nl_nn w w
  · have := nl_nn (a := -x) (b := -x) (by omega) (by omega)
    rw [Int.neg_mul_neg] at this; exact this
theorem sq_0 {x : Int} (h : x * x = 0) : x = 0 := by
  rcases Int.mul_eq_zero.mp h with q | q <;> exact q
theorem bd_mul {a b : Int} (ha : -12 ≤ a ∧ a ≤ 12) (hb : -12 ≤ b ∧ b ≤ 12) : -144 ≤ a * b ∧ a * b ≤ 144 := by
  rcases Int.le_total 0 b with w | w
  · have := mul_in (P := 12) (I := 12) ha.1 ha.2 w hb.2 (by decide); omega
  · have := mul_in (P := 12) (I := 12) ha.1 ha.2 (show 0 ≤ -b by omega) (show -b ≤ 12 by omega) (by decide)
    rw [Int.mul_neg] at this; omega
/-- the next corner is a corner -/
theorem NX.ext {px py : Nat → Int} {n a b : Nat} (hB : box px py n) (ha : a < n) (h : NX px py n a b) : Ext px py n b := by
  obtain ⟨hb, hne, hall⟩ := h
  refine ⟨-1000 * (py b - py a) - (px b - px a), 1000 * (px b - px a) - (py b - py a), fun k hk hs => ?_⟩
  obtain ⟨a1, a2⟩ := hB a ha
  obtain ⟨b1, b2⟩ := hB b hb
  obtain ⟨k1, k2⟩ := hB k hk
  obtain ⟨o1, o2⟩ := hall k hk
  have id : (-1000 * (py b - py a) - (px b - px a)) * (px k - px b) + (1000 * (px b - px a) - (py b - py a)) * (py k - py b) = 1000 * orr px py a b k - ((px b - px a) * (px k - px b) + (py b - py a) * (py k - py b)) := by unfold orr; grind
  rw [id]
  have m1 := bd_mul (a := px b - px a) (b := px k - px b) (by omega) (by omega)
  have m2 := bd_mul (a := py b - py a) (b := py k - py b) (by omega) (by omega)
  rcases Int.lt_or_le 0 (orr px py a b k) with q | q
  · omega
  · have hz : orr px py a b k = 0 := by omega
    have hd := o2 hz
    rw [hz]
    -- D.(K - D) < 0
    generalize hX : px b - px a = dx at *
    generalize hY : py b - py a = dy at *
    have eK1 : px k - px b = (px k - px a) - dx := by omega
    have eK2 : py k - py b = (py k - py a) - dy := by omega
    rw [eK1, eK2]
    unfold orr at hz
    unfold dst at hd
    rw [hX, hY] at hz hd
    have hKD : ¬ ((px k - px a) = dx ∧ (py k - py a) = dy) := fun w => hs ⟨by omega, by omega⟩
    generalize px k - px a = kx at *
    generalize py k - py a = ky at *
    have c1 : (dx * kx + dy * ky) * (dx * kx + dy * ky) + (dx * ky - dy * kx) * (dx * ky - dy * kx) = (dx * dx + dy * dy) * (kx * kx + ky * ky) := by grind
    rw [hz, Int.zero_mul, Int.add_zero] at c1
    have hDpos : 0 < dx * dx + dy * dy := by
      have p1 := sq_nn dx
      have p2 := sq_nn dy
      rcases Int.lt_or_le 0 (dx * dx + dy * dy) with w | w
      · exact w
      · exfalso
        have z1 := sq_0 (x := dx) (by omega)
        have z2 := sq_0 (x := dy) (by omega)
        exact hne ⟨by omega, by omega⟩
    have goal : dx * kx + dy * ky < dx * dx + dy * dy := by
      rcases Int.lt_or_le (dx * kx + dy * ky) (dx * dx + dy * dy) with w | w
      · exact w
      · exfalso
        have w1 : (dx * dx + dy * dy) * (dx * dx + dy * dy) ≤ (dx * kx + dy * ky) * (dx * kx + dy * ky) := Int.mul_le_mul w w (by omega) (by omega)
        have w2 : (dx * dx + dy * dy) * (kx * kx + ky * ky) ≤ (dx * dx + dy * dy) * (dx * dx + dy * dy) := Int.mul_le_mul_of_nonneg_left hd (by omega)
        have w3 : (dx * dx + dy * dy) * (kx * kx + ky * ky) = (dx * dx + dy * dy) * (dx * dx + dy * dy) := by omega
        have w4 : kx * kx + ky * ky = dx * dx + dy * dy := Int.eq_of_mul_eq_mul_left (by omega) w3
        have w5 : (dx * kx + dy * ky) * (dx * kx + dy * ky) = (dx * dx + dy * dy) * (dx * dx + dy * dy) := by omega
        have w6 : dx * kx + dy * ky = dx * dx + dy * dy := by
          rcases Int.lt_or_le (dx * dx + dy * dy) (dx * kx + dy * ky) with z | z
          · have : (dx * dx + dy * dy) * (dx * dx + dy * dy) < (dx * kx + dy * ky) * (dx * kx + dy * ky) := Int.mul_lt_mul z (by omega) (by omega) (by omega)
            omega
          · omega
        have w7 : (kx - dx) * (kx - dx) + (ky - dy) * (ky - dy) = 0 := by
          have : (kx - dx) * (kx - dx) + (ky - dy) * (ky - dy) = (kx * kx + ky * ky) + (dx * dx + dy * dy) - 2 * (dx * kx + dy * ky) := by grind
          omega
        have s1 := sq_nn (kx - dx)
        have s2 := sq_nn (ky - dy)
        have z1 := sq_0 (x := kx - dx) (by omega)
        have z2 := sq_0 (x := ky - dy) (by omega)
        exact hKD ⟨by omega, by omega⟩
    have e : dx * (kx - dx) + dy * (ky - dy) = (dx * kx + dy * ky) - (dx * dx + dy * dy) := by grind
    omega

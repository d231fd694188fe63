/-! the wrapping in both -/
theorem iI_1 : (1 : Int32) = iI 1 := by decide
def PtX (cx cy : Nat) (M : Mem) (px py : Nat → Int) (n : Nat) : Prop := n ≤ 64 ∧ box px py n ∧ ∀ s, s < n → M.1 cx s = iI (px s) ∧ M.1 cy s = iI (py s)
theorem PtX.x {cx cy : Nat} {M : Mem} {px py : Nat → Int} {n a : Nat} (h : PtX cx cy M px py n) (ha : a < n) : ldI M cx 64 (nI a) = some (iI (px a)) := by
  rw [ldI_n (Nat.lt_of_lt_of_le ha h.1) (by decide), (h.2.2 a ha).1]
theorem PtX.y {cx cy : Nat} {M : Mem} {px py : Nat → Int} {n a : Nat} (h : PtX cx cy M px py n) (ha : a < n) : ldI M cy 64 (nI a) = some (iI (py a)) := by
  rw [ldI_n (Nat.lt_of_lt_of_le ha h.1) (by decide), (h.2.2 a ha).2]
theorem PtX.sx {cx cy : Nat} {M : Mem} {px py : Nat → Int} {n a : Nat} (h : PtX cx cy M px py n) (ha : a < n) : sml (px a) := by
  have := h.2.1 a ha; unfold sml; omega
theorem PtX.sy {cx cy : Nat} {M : Mem} {px py : Nat → Int} {n a : Nat} (h : PtX cx cy M px py n) (ha : a < n) : sml (py a) := by
  have := h.2.1 a ha; unfold sml; omega
theorem same_eq {M : Mem} {px py : Nat → Int} {n a b : Nat} (h : PtX 14 15 M px py n) (ha : a < n) (hb : b < n) : fX1_same M (nI a) (nI b) = some (bz (decide (px a = px b ∧ py a = py b))) := by
  unfold fX1_same
  simp only [h.x ha, h.x hb, h.y ha, h.y hb, ob_some, okZ_0, okZ_1]
  rw [if_ieq (h.sx ha) (h.sx hb), if_ieq (h.sy ha) (h.sy hb)]
  by_cases c1 : px a = px b
  · by_cases c2 : py a = py b
    · simp [c1, c2, bz]
    · simp [c1, c2, bz]
  · simp [c1, bz]
theorem isSame_eq {M : Mem} {px py : Nat → Int} {n a b : Nat} (h : PtX 6 7 M px py n) (ha : a < n) (hb : b < n) : fX6_isSame M (nI a) (nI b) = some (bz (decide (px a = px b ∧ py a = py b))) := by
  unfold fX6_isSame
  simp only [h.x ha, h.x hb, h.y ha, h.y hb, ob_some, okZ_0, okZ_1]
  rw [if_ieq (h.sx ha) (h.sx hb), if_ieq (h.sy ha) (h.sy hb)]
  by_cases c1 : px a = px b
  · by_cases c2 : py a = py b
    · simp [c1, c2, bz]
    · simp [c1, c2, bz]
  · simp [c1, bz]
theorem orr_bd {px py : Nat → Int} {n a b k : Nat} (hB : box px py n) (ha : a < n) (hb : b < n) (hk : k < n) : sml (orr px py a b k) := by
  have a1 := hB a ha
  have b1 := hB b hb
  have k1 := hB k hk
  have m1 := bd_mul (a := px b - px a) (b := py k - py a) (by omega) (by omega)
  have m2 := bd_mul (a := py b - py a) (b := px k - px a) (by omega) (by omega)
  unfold sml orr; omega
theorem dst_bd {px py : Nat → Int} {n a k : Nat} (hB : box px py n) (ha : a < n) (hk : k < n) : sml (dst px py a k) := by
  have a1 := hB a ha
  have k1 := hB k hk
  have m1 := bd_mul (a := px k - px a) (b := px k - px a) (by omega) (by omega)
  have m2 := bd_mul (a := py k - py a) (b := py k - py a) (by omega) (by omega)
  unfold sml dst; omega
theorem side_eq {M : Mem} {px py : Nat → Int} {n a b k : Nat} (h : PtX 14 15 M px py n) (ha : a < n) (hb : b < n) (hk : k < n) : fX1_sideOf M (nI a) (nI b) (nI k) = some (iI (orr px py a b k)) := by
  unfold fX1_sideOf orr
  simp only [h.x ha, h.x hb, h.y ha, h.y hb, h.x hk, h.y hk, ob_some, iI_sub, iI_mul]
def ab (z : Int) : Int := if 0 ≤ z then z else -z
theorem ab_eq {z : Int} (h : sml z) : (if 0 ≤ iI z then iI z else 0 - iI z) = iI (ab z) := by
  rw [if_i0le h]
  unfold ab
  split
  · rfl
  · rw [z0, iI_sub]; congr 1; omega
def fa (px py : Nat → Int) (a b : Nat) : Int := ab (px b - px a) + ab (py b - py a)
theorem far_eq {M : Mem} {px py : Nat → Int} {n a b : Nat} (h : PtX 14 15 M px py n) (ha : a < n) (hb : b < n) : fX1_far M (nI a) (nI b) = some (iI (fa px py a b)) := by
  unfold fX1_far fa
  have a1 := h.2.1 a ha
  have b1 := h.2.1 b hb
  simp only [h.x ha, h.x hb, h.y ha, h.y hb, ob_some, iI_sub]
  rw [ab_eq (by unfold sml; omega), ab_eq (by unfold sml; omega), iI_add]
def l12b : Bool := (List.range 13).all fun x => (List.range 13).all fun y => (List.range 13).all fun u => (List.range 13).all fun w => (!(x * w == y * u)) || (decide (x + y < u + w) == decide (x * x + y * y < u * u + w * w))
theorem l12_t : l12b = true := by decide +kernel
theorem l12_fin (x y u w : Nat) (hx : x < 13) (hy : y < 13) (hu : u < 13) (hw : w < 13) (h : x * w = y * u) : x + y < u + w ↔ x * x + y * y < u * u + w * w := by
  have q := l12_t
  unfold l12b at q
  have q1 := List.all_eq_true.mp q x (List.mem_range.mpr hx)
  have q2 := List.all_eq_true.mp q1 y (List.mem_range.mpr hy)
  have q3 := List.all_eq_true.mp q2 u (List.mem_range.mpr hu)
  have q4 := List.all_eq_true.mp q3 w (List.mem_range.mpr hw)
  rw [h] at q4
  simpa using q4
theorem ab_nat (z : Int) : ab z = (z.natAbs : Int) := by unfold ab; omega
theorem ab_sq (z : Int) : ab z * ab z = z * z := by
  unfold ab
  split
  · rfl
  · exact Int.neg_mul_neg _ _
theorem ab_mul (a b : Int) : ab (a * b) = ab a * ab b := by rw [ab_nat, ab_nat, ab_nat, Int.natAbs_mul]; simp
theorem l12 {x y u w : Int} (hx : -12 ≤ x ∧ x ≤ 12) (hy : -12 ≤ y ∧ y ≤ 12) (hu : -12 ≤ u ∧ u ≤ 12) (hw : -12 ≤ w ∧ w ≤ 12) (h : x * w - y * u = 0) : ab x + ab y < ab u + ab w ↔ x * x + y * y < u * u + w * w := by
  have e : ab x * ab w = ab y * ab u := by rw [← ab_mul, ← ab_mul]; congr 1; omega
  rw [← ab_sq x, ← ab_sq y, ← ab_sq u, ← ab_sq w]
  rw [ab_nat, ab_nat, ab_nat, ab_nat] at *
  have := l12_fin x.natAbs y.natAbs u.natAbs w.natAbs (by omega) (by omega) (by omega) (by omega) (by exact_mod_cast e)
  constructor
  · intro q
    have := this.mp (by omega)
    exact_mod_cast this
  · intro q
    have := this.mpr (by exact_mod_cast q)
    omega
theorem fa_bd {px py : Nat → Int} {n a k : Nat} (hB : box px py n) (ha : a < n) (hk : k < n) : sml (fa px py a k) := by
  have a1 := hB a ha
  have k1 := hB k hk
  unfold sml fa ab; omega
theorem fa_dst {px py : Nat → Int} {n a b k : Nat} (hB : box px py n) (ha : a < n) (hb : b < n) (hk : k < n) (h : orr px py a b k = 0) : fa px py a b < fa px py a k ↔ dst px py a b < dst px py a k := by
  have a1 := hB a ha
  have b1 := hB b hb
  have k1 := hB k hk
  exact l12 (by omega) (by omega) (by omega) (by omega) h
theorem nx_ne {px py : Nat → Int} {a : Nat} : ∀ k b, nx px py a k = some b → b < k ∧ ¬ (px b = px a ∧ py b = py a) := by
  intro k
  induction k with
  | zero => intro b h; cases h
  | succ k ih =>
    intro b h
    unfold nx at h
    by_cases hs : px k = px a ∧ py k = py a
    · rw [if_pos hs] at h
      have := ih b h
      exact ⟨by omega, this.2⟩
    · rw [if_neg hs] at h
      cases hq : nx px py a k with
      | none => rw [hq] at h; cases h; exact ⟨by omega, hs⟩
      | some c =>
        rw [hq] at h
        dsimp only at h
        split at h
        · cases h; exact ⟨by omega, hs⟩
        · have e : c = b := Option.some.inj h
          have := ih c hq
          subst e
          exact ⟨by omega, this.2⟩
theorem orr_anti (px py : Nat → Int) (a b k : Nat) : orr px py a k b = -(orr px py a b k) := by unfold orr; grind
theorem nextCorner_eq {N : Nat} {M : Mem} {px py : Nat → Int} {n a : Nat} (hN : 65 ≤ N) (h : PtX 14 15 M px py n) (hn : M.1 11 5 = nI n) (ha : a < n) : fX1_nextCorner N M (nI a) = some (nI ((nx px py a n).getD a)) := by
  have hn64 := h.1
  have key := lp_rule (bot := fun _ _ => none) (step := sX1_nextCorner_4 M (nI a)) (fun m f => ∀ t, t ≤ n → n - t < m → f (nI ((nx px py a t).getD a)) (nI t) = some (nI ((nx px py a n).getD a))) (fun t _ h => by omega) (by
    intro m f hf t ht hm
    unfold sX1_nextCorner_4
    rw [hn, if_nle (by omega) (by omega), nI_1]
    by_cases e : n ≤ t
    · rw [if_pos e]
      have : t = n := by omega
      subst this
      rfl
    · rw [if_neg e]
      have htn : t < n := by omega
      have nxt := hf (t + 1) (by omega) (by omega)
      rw [same_eq h htn ha]
      simp only [ob_some, ifb]
      have hsucc : nx px py a (t + 1) = if px t = px a ∧ py t = py a then nx px py a t else match nx px py a t with
        | none => some t
        | some b => if 0 < orr px py a t b ∨ (orr px py a t b = 0 ∧ dst px py a b < dst px py a t) then some t else some b := rfl
      by_cases hs : px t = px a ∧ py t = py a
      · rw [if_pos hs] at hsucc
        rw [hsucc] at nxt
        rw [if_pos (decide_eq_true hs)]
        simp only [ob_some]
        exact nxt
      · rw [if_neg hs] at hsucc
        rw [if_neg (by simpa using hs)]
        cases hq : nx px py a t with
        | none =>
          rw [hq] at hsucc
          rw [hsucc] at nxt
          show Option.bind (Option.bind (fX1_sideOf M (nI a) (nI a) (nI t)) _) _ = _
          rw [side_eq h ha ha htn]
          simp only [ob_some, Option.getD_none]
          rw [same_eq h ha ha]
          simp only [ob_some, ifb, and_self, decide_true, if_true]
          exact nxt
        | some b =>
          rw [hq] at hsucc
          dsimp only at hsucc
          obtain ⟨b1, b2⟩ := nx_ne t b hq
          have hbn : b < n := by omega
          simp only [Option.getD_some]
          rw [side_eq h ha hbn htn, same_eq h hbn ha]
          simp only [ob_some, ifb]
          rw [if_neg (by simpa using b2), if_ilt0 (orr_bd h.2.1 ha hbn htn), if_ieq0 (orr_bd h.2.1 ha hbn htn), far_eq h ha htn, far_eq h ha hbn]
          simp only [ob_some]
          rw [if_ile (fa_bd h.2.1 ha htn) (fa_bd h.2.1 ha hbn)]
          have an := orr_anti px py a b t
          by_cases c1 : orr px py a b t < 0
          · rw [if_pos c1]
            rw [if_pos (Or.inl (by omega))] at hsucc
            rw [hsucc] at nxt
            simp only [ob_some]
            exact nxt
          · rw [if_neg c1]
            by_cases c2 : orr px py a b t = 0
            · rw [if_pos c2]
              have eq := fa_dst h.2.1 ha hbn htn c2
              by_cases c3 : fa px py a t ≤ fa px py a b
              · rw [if_pos c3]
                have w : ¬ dst px py a b < dst px py a t := fun q => by have := eq.mpr q; omega
                rw [if_neg (by omega)] at hsucc
                rw [hsucc] at nxt
                simp only [ob_some]
                exact nxt
              · rw [if_neg c3]
                have w := eq.mp (by omega)
                rw [if_pos (Or.inr ⟨by omega, w⟩)] at hsucc
                rw [hsucc] at nxt
                simp only [ob_some]
                exact nxt
            · rw [if_neg c2]
              rw [if_neg (by omega)] at hsucc
              rw [hsucc] at nxt
              simp only [ob_some]
              exact nxt) N 0 (by omega) (by omega)
  exact key
theorem fsti_1 (px py : Nat → Int) : fsti px py 1 = 0 := by unfold fsti; split <;> rfl
theorem fsti_lt {px py : Nat → Int} {t n : Nat} (h1 : 1 ≤ t) (h2 : t ≤ n) : fsti px py t < n := by
  have := (fsti_min px py t).1 (by omega); omega
theorem first_eq {N : Nat} {M : Mem} {px py : Nat → Int} {n : Nat} (hN : 65 ≤ N) (h : PtX 14 15 M px py n) (hn : M.1 11 5 = nI n) (h1 : 1 ≤ n) : fX1_firstPoint N M = some (nI (fsti px py n)) := by
  have hn64 := h.1
  have key := lp_rule (bot := fun _ _ => none) (step := sX1_firstPoint_4 M) (fun m f => ∀ t, 1 ≤ t → t ≤ n → n - t < m → f (nI (fsti px py t)) (nI t) = some (nI (fsti px py n))) (fun t _ _ h => by omega) (by
    intro m f hf t t1 ht hm
    unfold sX1_firstPoint_4
    rw [hn, if_nle (by omega) (by omega), nI_1]
    by_cases e : n ≤ t
    · rw [if_pos e]
      have : t = n := by omega
      subst this
      rfl
    · rw [if_neg e]
      have htn : t < n := by omega
      have hb := fsti_lt (px := px) (py := py) t1 ht
      have nxt := hf (t + 1) (by omega) (by omega) (by omega)
      simp only [h.x htn, h.y htn, h.x hb, h.y hb, ob_some]
      simp only [if_ieq (h.sx htn) (h.sx hb), if_ilt (h.sx htn) (h.sx hb), if_ile (h.sy hb) (h.sy htn)]
      have hsucc : fsti px py (t + 1) = if px t < px (fsti px py t) ∨ (px t = px (fsti px py t) ∧ py t < py (fsti px py t)) then t else fsti px py t := rfl
      by_cases c1 : px t < px (fsti px py t)
      · rw [if_neg (show ¬ px t = px (fsti px py t) by omega)]
        simp only [ob_some]
        rw [if_pos c1]
        rw [if_pos (Or.inl c1)] at hsucc
        rw [hsucc] at nxt
        exact nxt
      · by_cases c2 : px t = px (fsti px py t)
        · rw [if_pos c2]
          simp only [ob_some]
          rw [if_neg c1, if1]
          by_cases c3 : py (fsti px py t) ≤ py t
          · rw [if_pos c3]
            rw [if_neg (by omega)] at hsucc
            rw [hsucc] at nxt
            exact nxt
          · rw [if_neg c3]
            rw [if_pos (by omega)] at hsucc
            rw [hsucc] at nxt
            exact nxt
        · rw [if_neg c2]
          simp only [ob_some]
          rw [if_neg c1]
          rw [if_pos trivial]
          rw [if_neg (by omega)] at hsucc
          rw [hsucc] at nxt
          exact nxt) N 1 (by omega) h1 (by omega)
  rw [fsti_1] at key
  exact key
def Fg (cc ux uy cx cy pu pc : Nat) (M M0 : Mem) (px py : Nat → Int) (n : Nat) (qx qy : Nat → Int) (k : Nat) : Prop :=
  (∀ c, c ≠ cc → c ≠ cx → c ≠ cy → c ≠ ux → c ≠ uy → M.1 c = M0.1 c) ∧ (M.1 cc pc = nI n ∧ PtX cx cy M px py n) ∧ (M.1 cc pu = nI k ∧ ∀ s, s < k → M.1 ux s = iI (qx s) ∧ M.1 uy s = iI (qy s))
theorem Fg.put {cc ux uy cx cy pu pc : Nat} {M M0 : Mem} {px py : Nat → Int} {n : Nat} {qx qy : Nat → Int} {k : Nat} (h : Fg cc ux uy cx cy pu pc M M0 px py n qx qy k) (d1 : cc ≠ ux) (d2 : cc ≠ uy) (d3 : ux ≠ uy) (d4 : cx ≠ cc ∧ cx ≠ ux ∧ cx ≠ uy) (d5 : cy ≠ cc ∧ cy ≠ ux ∧ cy ≠ uy) (d6 : pc ≠ pu) : Fg cc ux uy cx cy pu pc (setI (setI (setI M ux k (iI (qx k))) uy k (iI (qy k))) cc pu (nI (k + 1))) M0 px py n qx qy (k + 1) := by
  obtain ⟨h1, ⟨h2, h3, h3b, h3c⟩, h4, h5⟩ := h
  refine ⟨fun c a b e f g => ?_, ⟨?_, h3, h3b, fun s hs => ?_⟩, setI_eq _ _ _ _, fun s hs => ?_⟩
  · rw [setI_ne a, setI_ne g, setI_ne f]; exact h1 c a b e f g
  · rw [setI_nk d6, setI_ne d2, setI_ne d1]; exact h2
  · rw [setI_ne d4.1, setI_ne d4.2.2, setI_ne d4.2.1, setI_ne d5.1, setI_ne d5.2.2, setI_ne d5.2.1]; exact h3c s hs
  · rw [setI_ne d1.symm, setI_ne d2.symm, setI_ne d3]
    by_cases q : s = k
    · subst q; rw [setI_eq, setI_eq]; exact ⟨rfl, rfl⟩
    · rw [setI_nk q, setI_nk q, setI_ne d3.symm]; exact h5 s (by omega)
theorem Gp.fig {cc ux uy cx cy pu pc : Nat} {M M0 : Mem} {px py : Nat → Int} {n : Nat} (qx qy : Nat → Int) (h : Gp cc cx cy pc M M0 px py n) (hn : n ≤ 64) (hB : box px py n) (d4 : cx ≠ cc) (d5 : cy ≠ cc) (d6 : pc ≠ pu) : Fg cc ux uy cx cy pu pc (setI M cc pu 0) M0 px py n qx qy 0 := by
  obtain ⟨h1, h2, h3⟩ := h
  refine ⟨fun c a b e f g => by rw [setI_ne a]; exact h1 c a b e, ⟨by rw [setI_nk d6]; exact h2, hn, hB, fun s hs => by rw [setI_ne d4, setI_ne d5]; exact h3 s hs⟩, setI_eq _ _ _ _, fun s hs => by omega⟩
theorem HULL.stop {px py : Nat → Int} {n m : Nat} (h : HULL px py n m) {k : Nat} (hk : k < m) : (px (seqh px py n (k + 1)) = px (seqh px py n 0) ∧ py (seqh px py n (k + 1)) = py (seqh px py n 0)) ↔ k + 1 = m := by
  obtain ⟨h1, h2, h3, h4, h5⟩ := h
  constructor
  · intro q
    rcases Nat.lt_or_ge (k + 1) m with w | w
    · exact absurd q (h4 (k + 1) (by omega) w)
    · omega
  · intro q
    rcases h5 with ⟨a, b⟩ | ⟨a, b, c⟩
    · have : k = 0 := by omega
      subst this
      have e : seqh px py n 1 = seqh px py n 0 := by
        show (nx px py (seqh px py n 0) n).getD (seqh px py n 0) = _
        rw [b]; rfl
      rw [e]; exact ⟨rfl, rfl⟩
    · rw [q]; exact c
theorem wrap_eq {N : Nat} {M M0 : Mem} {px py : Nat → Int} {n m : Nat} (hN : 70 ≤ N) (hG : Gp 11 14 15 5 M M0 px py n) (hn : n ≤ 64) (hB : box px py n) (hH : HULL px py n m) : ∃ M2, fX1_wrap N M = some M2 ∧ Fg 11 12 13 14 15 2 5 M2 M0 px py n (fun k => px (seqh px py n k)) (fun k => py (seqh px py n k)) m := by
  obtain ⟨m1, mn, hin, -, -⟩ := id hH
  have hF0 := hG.fig (ux := 12) (uy := 13) (pu := 2) (fun k => px (seqh px py n k)) (fun k => py (seqh px py n k)) hn hB (by decide) (by decide) (by decide)
  unfold fX1_wrap
  simp only [ob_some]
  rw [first_eq (by omega) hF0.2.1.2 hF0.2.1.1 (by omega)]
  simp only [ob_some]
  have key := lp_rule (bot := fun _ _ _ => none) (step := sX1_wrap_14 N (nI (fsti px py n))) (fun w f => ∀ k M5, k < m → m - k < w → Fg 11 12 13 14 15 2 5 M5 M0 px py n (fun k => px (seqh px py n k)) (fun k => py (seqh px py n k)) k → ∃ M2, f (nI (seqh px py n k)) (nI k) M5 = some M2 ∧ Fg 11 12 13 14 15 2 5 M2 M0 px py n (fun k => px (seqh px py n k)) (fun k => py (seqh px py n k)) m) (fun k M5 _ h => by omega) (by
    intro w f hf k M5 hk hw hF
    have hp := hF.put (by decide) (by decide) (by decide) (by decide) (by decide) (by decide)
    obtain ⟨f1, ⟨f2, f3⟩, f4, f5⟩ := id hF
    obtain ⟨s1, s2⟩ := hin k (by omega)
    obtain ⟨t1, t2⟩ := hin (k + 1) (by omega)
    obtain ⟨u1, -⟩ := hin 0 (by omega)
    unfold sX1_wrap_14
    rw [f2, if_nle (by omega) (by omega), if_neg (by omega), f3.x s1, nI_1]
    simp only [ob_some]
    rw [f4, stI_n (by omega) (by decide)]
    simp only [ob_some]
    have ly : ldI (setI M5 12 k (iI (px (seqh px py n k)))) 15 64 (nI (seqh px py n k)) = some (iI (py (seqh px py n k))) := by
      rw [ldI_n (by omega) (by decide), setI_ne (by decide), (f3.2.2 _ s1).2]
    rw [ly]
    simp only [ob_some]
    rw [setI_ne (show (11 : Nat) ≠ 12 by decide), f4, stI_n (by omega) (by decide)]
    simp only [ob_some]
    rw [setI_ne (show (11 : Nat) ≠ 13 by decide), setI_ne (show (11 : Nat) ≠ 12 by decide), f4, nI_1]
    rw [nextCorner_eq (by omega) hp.2.1.2 hp.2.1.1 s1]
    simp only [ob_some]
    have e : (nx px py (seqh px py n k) n).getD (seqh px py n k) = seqh px py n (k + 1) := rfl
    rw [e, same_eq hp.2.1.2 t1 (show fsti px py n < n from u1)]
    simp only [ob_some, ifb]
    by_cases c : k + 1 = m
    · rw [if_pos (decide_eq_true (show px (seqh px py n (k + 1)) = px (fsti px py n) ∧ py (seqh px py n (k + 1)) = py (fsti px py n) from (hH.stop hk).mpr c))]
      subst c
      exact ⟨_, rfl, hp⟩
    · have hne : ¬ (px (seqh px py n (k + 1)) = px (fsti px py n) ∧ py (seqh px py n (k + 1)) = py (fsti px py n)) := fun q => c ((hH.stop hk).mp q)
      rw [if_neg (by simpa using hne)]
      exact hf (k + 1) _ (by omega) (by omega) hp) N 0 (setI M 11 2 0) (by omega) (by omega) hF0
  exact key

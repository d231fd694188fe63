theorem EqR.zero {X Y : Mem} {b o j n : Nat} (hno : eqNo b o j) (h : EqR X Y b o j n) : EqR (setI X b 4 0) (setI Y 5 j 0) b o j 0 := by
  refine ⟨by rw [setI_eq]; rfl, by rw [setI_eq]; rfl, by omega, fun t ht => by omega, fun t ht => by omega, fun t u ht => by omega⟩
theorem EqR.zero2 {X Y : Mem} {b o j n b2 o2 j2 : Nat} (hno : eqNo b o j) (hno2 : eqNo b2 o2 j2) (hne : b2 ≠ b) (h : EqR X Y b o j n) (v : Int32) : EqR (setI X b2 4 v) (setI Y 5 j2 v) b o j n := by
  obtain ⟨s1, s2, s3, s4, s5, s6⟩ := h
  have hx : ∀ i, i ≤ 4 → (setI X b2 4 v).1 (b + i) = X.1 (b + i) := fun i hi => setI_ne (by unfold eqNo at *; omega)
  have e0 : (setI X b2 4 v).1 b = X.1 b := hx 0 (by omega)
  refine ⟨by rw [e0]; exact s1, by rw [setI_nk (by unfold eqNo at *; omega)]; exact s2, s3, ?_, ?_, ?_⟩
  · intro u hu
    rw [hx 1 (by omega), hx 2 (by omega), hx 3 (by omega), hx 4 (by omega), setI_ne (by decide), setI_ne (by decide), setI_ne (by decide), setI_ne (by decide)]
    exact s4 u hu
  · intro u hu
    rw [hx 1 (by omega), hx 2 (by omega), hx 3 (by omega), hx 4 (by omega)]
    exact s5 u hu
  · intro u w hu hw
    rw [hx 1 (by omega), hx 2 (by omega)]
    exact s6 u w hu hw
theorem st_clear {X Y : Mem} (a1 : Int32) (h : Sim X Y) : ∃ (r : Int32) (X' Y' : Mem), fX5_clear X a1 = some (r, X') ∧ fX6_clear Y a1 = some (r, Y') ∧ Sim X' Y' := by
  obtain ⟨n0, n1, h0, h1, -⟩ := id h
  unfold fX5_clear fX6_clear
  rw [isEq_eq, ob_some]
  by_cases c0 : a1 = 0
  · subst c0
    rw [eqOf_0]
    simp only [true_or, decide_true, bz_t, if1, ob_some, forget_eq]
    refine ⟨nI n0, _, _, by rw [h0.1], ?_, Sim.forget (h0.zero no0) (h1.zero2 no1 no0 (by decide) 0)⟩
    have e1 : ldI Y 5 2 0 = some (nI n0) := by rw [i0, ldI_n (by decide) (by decide), h0.2.1]
    have e2 : stI Y 5 2 0 0 = some (setI Y 5 0 0) := stI_n (k := 0) (by decide) (by decide)
    simp only [e1, e2, ob_some]
  · by_cases c1 : a1 = 1
    · subst c1
      rw [eqOf_1]
      simp only [or_true, decide_true, bz_t, if1, ob_some, forget_eq]
      refine ⟨nI n1, _, _, by rw [h1.1], ?_, Sim.forget (h0.zero2 no0 no1 (by decide) 0) (h1.zero no1)⟩
      have e1 : ldI Y 5 2 1 = some (nI n1) := by rw [i1, ldI_n (by decide) (by decide), h1.2.1]
      have e2 : stI Y 5 2 1 0 = some (setI Y 5 1 0) := stI_n (k := 1) (by decide) (by decide)
      simp only [e1, e2, ob_some]
    · rw [eqOf_n c0 c1]
      exact ⟨-1, X, Y, rfl, by simp [c0, c1, bz], h⟩
/-- is the point there -/
theorem holds_eq {X : Mem} {b n N : Nat} (h : X.1 b 4 = nI n) (hn : n ≤ 8) (hN : 9 ≤ N) (x y : Int32) :
    ((∃ t, t < n ∧ X.1 (b + 1) t = x ∧ X.1 (b + 2) t = y) → fX0_holds N X b x y = some 1) ∧ ((¬ ∃ t, t < n ∧ X.1 (b + 1) t = x ∧ X.1 (b + 2) t = y) → fX0_holds N X b x y = some 0) := by
  have key := lp_rule (bot := fun _ => none) (step := sX0_holds_2 X b x y) (fun m k => ∀ v, v ≤ n → n - v < m → ((∃ t, v ≤ t ∧ t < n ∧ X.1 (b + 1) t = x ∧ X.1 (b + 2) t = y) → k (nI v) = some 1) ∧ ((¬ ∃ t, v ≤ t ∧ t < n ∧ X.1 (b + 1) t = x ∧ X.1 (b + 2) t = y) → k (nI v) = some 0)) (fun v _ h2 => by omega) (by
    intro m k hk v hv hm
    unfold sX0_holds_2
    rw [h, if_nle (by omega) (by omega), nI_1, okZ_0, okZ_1]
    by_cases e : n ≤ v
    · rw [if_pos e]
      exact ⟨fun ⟨t, q1, q2, _⟩ => by omega, fun _ => rfl⟩
    · rw [if_neg e, ldI_n (by omega) (by decide), ldI_n (by omega) (by decide)]
      simp only [ob_some]
      obtain ⟨k1, k2⟩ := hk (v + 1) (by omega) (by omega)
      by_cases c1 : X.1 (b + 1) v = x
      · rw [if_pos c1]
        by_cases c2 : X.1 (b + 2) v = y
        · rw [if_pos c2]
          exact ⟨fun _ => rfl, fun q => absurd ⟨v, Nat.le_refl _, by omega, c1, c2⟩ q⟩
        · rw [if_neg c2]
          refine ⟨fun ⟨t, q1, q2, q3, q4⟩ => k1 ⟨t, ?_, q2, q3, q4⟩, fun q => k2 (fun ⟨t, q1, q2⟩ => q ⟨t, by omega, q2⟩)⟩
          rcases Nat.lt_or_ge v t with w | w
          · omega
          · have : t = v := by omega
            subst this; exact absurd q4 c2
      · rw [if_neg c1]
        refine ⟨fun ⟨t, q1, q2, q3, q4⟩ => k1 ⟨t, ?_, q2, q3, q4⟩, fun q => k2 (fun ⟨t, q1, q2⟩ => q ⟨t, by omega, q2⟩)⟩
        rcases Nat.lt_or_ge v t with w | w
        · omega
        · have : t = v := by omega
          subst this; exact absurd q3 c1) N 0 (by omega) (by omega)
  refine ⟨fun ⟨t, q⟩ => key.1 ⟨t, by omega, q⟩, fun q => key.2 (fun ⟨t, _, q2⟩ => q ⟨t, q2⟩)⟩
/-- the class' memory with a term more -/
def addX (X : Mem) (b n : Nat) (x y z : Int32) : Mem := setI (setI (setI (setI (setI X (b + 1) n x) (b + 2) n y) (b + 3) n z) (b + 4) n 0) b 4 (nI (n + 1))
def addY (Y : Mem) (o j n : Nat) (x y z : Int32) : Mem := setI (setI (setI (setI (setI Y 1 (o + n) x) 2 (o + n) y) 3 (o + n) z) 4 (o + n) 0) 5 j (nI (n + 1))
theorem add_eq {X : Mem} {b n : Nat} (hb : b = 1 ∨ b = 6) (h : X.1 b 4 = nI n) (hn : n < 8) (x y z : Int32) : fX0_add X b x y z = some (nI n, addX X b n x y z) := by
  unfold fX0_add
  have e1 : nI n < 8 := nI_lt (a := n) (b := 8) hn (by decide)
  rw [h, if_pos e1, stI_n (by omega) (by decide)]
  simp only [ob_some]
  rw [stI_n (by omega) (by decide)]
  simp only [ob_some]
  rw [stI_n (by omega) (by decide)]
  simp only [ob_some]
  rw [stI_n (by omega) (by decide)]
  simp only [ob_some]
  rw [setI_ne (by omega), setI_ne (by omega), setI_ne (by omega), setI_ne (by omega), h, i1, nI_add]
  rfl
theorem termY_eq {Y : Mem} {o j n N : Nat} (hj : j < 2) (ho : o = 8 * j) (h : Y.1 5 j = nI n) (hn : n < 8) (hN : 9 ≤ N) (x y z : Int32) :
    ((∃ t, t < n ∧ Y.1 1 (o + t) = x ∧ Y.1 2 (o + t) = y) → lp (fun _ => none) (sX6_term_76 Y (nI j) x y z) N (nI (o + 0)) = some (-5, Y)) ∧ ((¬ ∃ t, t < n ∧ Y.1 1 (o + t) = x ∧ Y.1 2 (o + t) = y) → lp (fun _ => none) (sX6_term_76 Y (nI j) x y z) N (nI (o + 0)) = some (nI n, addY Y o j n x y z)) := by
  have key := lp_rule (bot := fun _ => none) (step := sX6_term_76 Y (nI j) x y z) (fun m k => ∀ v, v ≤ n → n - v < m → ((∃ t, v ≤ t ∧ t < n ∧ Y.1 1 (o + t) = x ∧ Y.1 2 (o + t) = y) → k (nI (o + v)) = some (-5, Y)) ∧ ((¬ ∃ t, v ≤ t ∧ t < n ∧ Y.1 1 (o + t) = x ∧ Y.1 2 (o + t) = y) → k (nI (o + v)) = some (nI n, addY Y o j n x y z))) (fun v _ h2 => by omega) (by
    intro m k hk v hv hm
    unfold sX6_term_76
    rw [ldI_n hj (by decide)]
    simp only [ob_some]
    rw [h, e8, ← ho, if_nle (by omega) (by omega), nI_1]
    by_cases e : o + n ≤ o + v
    · rw [if_pos e, stI_n (by omega) (by decide)]
      simp only [ob_some]
      rw [stI_n (by omega) (by decide)]
      simp only [ob_some]
      rw [stI_n (by omega) (by decide)]
      simp only [ob_some]
      rw [stI_n (by omega) (by decide)]
      simp only [ob_some]
      rw [ldI_n hj (by decide)]
      simp only [ob_some]
      rw [setI_ne (by decide), setI_ne (by decide), setI_ne (by decide), setI_ne (by decide), h, i1, nI_add, stI_n hj (by decide)]
      simp only [ob_some]
      rw [ldI_n hj (by decide)]
      simp only [ob_some]
      rw [setI_eq]
      refine ⟨fun ⟨t, q1, q2, _⟩ => by omega, fun _ => ?_⟩
      rw [show nI (n + 1) - nI 1 = nI n from nI_pred n]
      rfl
    · rw [if_neg e, ldI_n (by omega) (by decide), ldI_n (by omega) (by decide)]
      simp only [ob_some]
      obtain ⟨k1, k2⟩ := hk (v + 1) (by omega) (by omega)
      rw [← Nat.add_assoc] at k1 k2
      by_cases c1 : Y.1 1 (o + v) = x
      · rw [if_pos c1]
        by_cases c2 : Y.1 2 (o + v) = y
        · rw [if_pos c2]
          exact ⟨fun _ => rfl, fun q => absurd ⟨v, Nat.le_refl _, by omega, c1, c2⟩ q⟩
        · rw [if_neg c2]
          refine ⟨fun ⟨t, q1, q2, q3, q4⟩ => k1 ⟨t, ?_, q2, q3, q4⟩, fun q => k2 (fun ⟨t, q1, q2⟩ => q ⟨t, by omega, q2⟩)⟩
          rcases Nat.lt_or_ge v t with w | w
          · omega
          · have : t = v := by omega
            subst this; exact absurd q4 c2
      · rw [if_neg c1]
        refine ⟨fun ⟨t, q1, q2, q3, q4⟩ => k1 ⟨t, ?_, q2, q3, q4⟩, fun q => k2 (fun ⟨t, q1, q2⟩ => q ⟨t, by omega, q2⟩)⟩
        rcases Nat.lt_or_ge v t with w | w
        · omega
        · have : t = v := by omega
          subst this; exact absurd q3 c1) N 0 (by omega) (by omega)
  refine ⟨fun ⟨t, q⟩ => key.1 ⟨t, by omega, q⟩, fun q => key.2 (fun ⟨t, _, q2⟩ => q ⟨t, q2⟩)⟩
theorem addX_size (X : Mem) (b n : Nat) (x y z : Int32) : (addX X b n x y z).1 b 4 = nI (n + 1) := setI_eq _ _ _ _
theorem addX_old {X : Mem} {b n : Nat} {x y z : Int32} {i t : Nat} (hi : 1 ≤ i ∧ i ≤ 4) (ht : t ≠ n) : (addX X b n x y z).1 (b + i) t = X.1 (b + i) t := by
  unfold addX
  rw [setI_ne (by omega)]
  have s : ∀ (M : Mem) (k : Nat) (v : Int32), (setI M (b + k) n v).1 (b + i) t = M.1 (b + i) t := by
    intro M k v
    by_cases e : b + i = b + k
    · rw [e]; exact setI_nk ht
    · rw [setI_ne e]
  rw [s, s, s, s]
theorem addX_new (X : Mem) (b n : Nat) (x y z : Int32) : (addX X b n x y z).1 (b + 1) n = x ∧ (addX X b n x y z).1 (b + 2) n = y ∧ (addX X b n x y z).1 (b + 3) n = z ∧ (addX X b n x y z).1 (b + 4) n = 0 := by
  unfold addX
  refine ⟨?_, ?_, ?_, ?_⟩
  · rw [setI_ne (by omega), setI_ne (by omega), setI_ne (by omega), setI_ne (by omega), setI_eq]
  · rw [setI_ne (by omega), setI_ne (by omega), setI_ne (by omega), setI_eq]
  · rw [setI_ne (by omega), setI_ne (by omega), setI_eq]
  · rw [setI_ne (by omega), setI_eq]
theorem addX_cell {X : Mem} {b n : Nat} {x y z : Int32} {c : Nat} (h : c < b ∨ b + 4 < c) : (addX X b n x y z).1 c = X.1 c := by
  unfold addX
  rw [setI_ne (by omega), setI_ne (by omega), setI_ne (by omega), setI_ne (by omega), setI_ne (by omega)]
theorem addY_old {Y : Mem} {o j n : Nat} {x y z : Int32} {i u : Nat} (hi : 1 ≤ i ∧ i ≤ 4) (hu : u ≠ o + n) : (addY Y o j n x y z).1 i u = Y.1 i u := by
  unfold addY
  rw [setI_ne (by omega)]
  have s : ∀ (M : Mem) (k : Nat) (v : Int32), (setI M k (o + n) v).1 i u = M.1 i u := by
    intro M k v
    by_cases e : i = k
    · rw [e]; exact setI_nk hu
    · rw [setI_ne e]
  rw [s, s, s, s]
theorem addY_new (Y : Mem) (o j n : Nat) (x y z : Int32) : (addY Y o j n x y z).1 1 (o + n) = x ∧ (addY Y o j n x y z).1 2 (o + n) = y ∧ (addY Y o j n x y z).1 3 (o + n) = z ∧ (addY Y o j n x y z).1 4 (o + n) = 0 := by
  unfold addY
  refine ⟨?_, ?_, ?_, ?_⟩
  · rw [setI_ne (by omega), setI_ne (by omega), setI_ne (by omega), setI_ne (by omega), setI_eq]
  · rw [setI_ne (by omega), setI_ne (by omega), setI_ne (by omega), setI_eq]
  · rw [setI_ne (by omega), setI_ne (by omega), setI_eq]
  · rw [setI_ne (by omega), setI_eq]
theorem addY_many {Y : Mem} {o j n : Nat} {x y z : Int32} {k : Nat} (h : k ≠ j) : (addY Y o j n x y z).1 5 k = Y.1 5 k := by
  unfold addY
  rw [setI_nk h, setI_ne (by decide), setI_ne (by decide), setI_ne (by decide), setI_ne (by decide)]
theorem EqR.add {X Y : Mem} {b o j n : Nat} {x y z : Int32} (hno : eqNo b o j) (h : EqR X Y b o j n) (hn : n < 8) (hx : 0 ≤ x.toInt ∧ x.toInt ≤ 6) (hy : 0 ≤ y.toInt ∧ y.toInt ≤ 6) (hz : z.toInt ≠ 0 ∧ -20 ≤ z.toInt ∧ z.toInt ≤ 20) (hnew : ¬ ∃ t, t < n ∧ X.1 (b + 1) t = x ∧ X.1 (b + 2) t = y) : EqR (addX X b n x y z) (addY Y o j n x y z) b o j (n + 1) := by
  obtain ⟨s1, s2, s3, s4, s5, s6⟩ := h
  obtain ⟨x1, x2, x3, x4⟩ := addX_new X b n x y z
  obtain ⟨y1, y2, y3, y4⟩ := addY_new Y o j n x y z
  refine ⟨addX_size _ _ _ _ _ _, setI_eq _ _ _ _, by omega, ?_, ?_, ?_⟩
  · intro t ht
    by_cases e : t = n
    · subst e
      rw [x1, x2, x3, x4, y1, y2, y3, y4]
      exact ⟨rfl, rfl, rfl, rfl⟩
    · rw [addX_old (by decide) e, addX_old (by decide) e, addX_old (by decide) e, addX_old (by decide) e, addY_old (by decide) (by omega), addY_old (by decide) (by omega), addY_old (by decide) (by omega), addY_old (by decide) (by omega)]
      exact s4 t (by omega)
  · intro t ht
    by_cases e : t = n
    · subst e
      rw [x1, x2, x3, x4]
      exact ⟨hx, hy, hz, by decide⟩
    · rw [addX_old (by decide) e, addX_old (by decide) e, addX_old (by decide) e, addX_old (by decide) e]
      exact s5 t (by omega)
  · intro t u ht hu
    by_cases e : t = n
    · by_cases f : u = n
      · intro _ _; omega
      · subst e
        rw [x1, x2, addX_old (by decide) f, addX_old (by decide) f]
        intro q1 q2
        exact absurd ⟨u, by omega, q1.symm, q2.symm⟩ hnew
    · by_cases f : u = n
      · subst f
        rw [x1, x2, addX_old (by decide) e, addX_old (by decide) e]
        intro q1 q2
        exact absurd ⟨t, by omega, q1, q2⟩ hnew
      · rw [addX_old (by decide) e, addX_old (by decide) e, addX_old (by decide) f, addX_old (by decide) f]
        exact s6 t u (by omega) (by omega)
theorem EqR.add2 {X Y : Mem} {b o j n b2 o2 j2 k : Nat} {x y z : Int32} (hno : eqNo b o j) (hno2 : eqNo b2 o2 j2) (hne : b2 ≠ b) (h : EqR X Y b o j n) (hk : k < 8) : EqR (addX X b2 k x y z) (addY Y o2 j2 k x y z) b o j n := by
  obtain ⟨s1, s2, s3, s4, s5, s6⟩ := h
  have hx : ∀ i, i ≤ 4 → (addX X b2 k x y z).1 (b + i) = X.1 (b + i) := fun i hi => addX_cell (by unfold eqNo at *; omega)
  have e0 : (addX X b2 k x y z).1 b = X.1 b := hx 0 (by omega)
  have hy : ∀ i, 1 ≤ i ∧ i ≤ 4 → ∀ u, u < n → (addY Y o2 j2 k x y z).1 i (o + u) = Y.1 i (o + u) := fun i hi u hu => addY_old hi (by unfold eqNo at *; omega)
  refine ⟨by rw [e0]; exact s1, by rw [addY_many (by unfold eqNo at *; omega)]; exact s2, s3, ?_, ?_, ?_⟩
  · intro u hu
    rw [hx 1 (by omega), hx 2 (by omega), hx 3 (by omega), hx 4 (by omega), hy 1 (by decide) u hu, hy 2 (by decide) u hu, hy 3 (by decide) u hu, hy 4 (by decide) u hu]
    exact s4 u hu
  · intro u hu
    rw [hx 1 (by omega), hx 2 (by omega), hx 3 (by omega), hx 4 (by omega)]
    exact s5 u hu
  · intro u w hu hw
    rw [hx 1 (by omega), hx 2 (by omega)]
    exact s6 u w hu hw
theorem st_term {X Y : Mem} {N : Nat} (hN : 9 ≤ N) (a1 a2 a3 a4 : Int32) (h : Sim X Y) : ∃ (r : Int32) (X' Y' : Mem), fX5_term N X a1 a2 a3 a4 = some (r, X') ∧ fX6_term N Y a1 a2 a3 a4 = some (r, Y') ∧ Sim X' Y' := by
  have core : ∀ b o j n, eqNo b o j → EqR X Y b o j n → (n < 8 → (0 ≤ a2.toInt ∧ a2.toInt ≤ 6) → (0 ≤ a3.toInt ∧ a3.toInt ≤ 6) → (a4.toInt ≠ 0 ∧ -20 ≤ a4.toInt ∧ a4.toInt ≤ 20) → (¬ ∃ t, t < n ∧ X.1 (b + 1) t = a2 ∧ X.1 (b + 2) t = a3) → Sim (addX (setI (setI X 16 2 0) 21 2 0) b n a2 a3 a4) (addY Y o j n a2 a3 a4)) →
      ∃ (r : Int32) (X' Y' : Mem), ((fX5_within a2 0 6).bind fun v3 => if v3 = 0 then some ((-2 : Int32), X) else (fX5_within a3 0 6).bind fun v4 => if v4 = 0 then some ((-2 : Int32), X) else (fX5_isFactor a4).bind fun v5 => if v5 = 0 then some ((-2 : Int32), X) else if X.1 b 4 < 8 then (fX0_holds N X b a2 a3).bind fun v6 => if v6 = 0 then (fX5_forgetFound X).bind fun M7 => (fX0_add M7 b a2 a3 a4).bind fun t10 => some (t10.1, t10.2) else some ((-5 : Int32), X) else some ((-4 : Int32), X)) = some (r, X') ∧ fX6_term N Y (nI j) a2 a3 a4 = some (r, Y') ∧ Sim X' Y' := by
    intro b o j n hno hR hfin
    obtain ⟨s1, s2, s3, s4, s5, s6⟩ := hR
    have hj : j < 2 := hno.j
    have ho : o = 8 * j := hno.o
    have hb : b = 1 ∨ b = 6 := hno.b
    have hq : nI j = 0 ∨ nI j = 1 := by
      rcases (show j = 0 ∨ j = 1 by omega) with rfl | rfl
      · exact Or.inl rfl
      · exact Or.inr rfl
    unfold fX6_term
    rw [isEq_eq, within_eq, within_eq, isFactor_eq, in32, in32, in32, ldI_n hj (by decide), s2, s1]
    simp only [ob_some, ifb, hq, decide_true, if_true]
    have e1 : (-20 : Int64).toInt = -20 := by decide
    have e2 : (20 : Int64).toInt = 20 := by decide
    have e3 : (0 : Int64).toInt = 0 := by decide
    have e4 : (6 : Int64).toInt = 6 := by decide
    have e5 : (0 : Int32).toInt = 0 := by decide
    have e6 : (6 : Int32).toInt = 6 := by decide
    rw [e1, e2, e3, e4, e5, e6]
    by_cases c1 : 0 ≤ a2.toInt ∧ a2.toInt ≤ 6
    · by_cases c2 : 0 ≤ a3.toInt ∧ a3.toInt ≤ 6
      · by_cases c3 : -20 ≤ a4.toInt ∧ a4.toInt ≤ 20
        · by_cases c4 : a4 = 0
          · subst c4
            exact ⟨-2, X, Y, by simp [c1, c2], by simp [c1, c2], h⟩
          · have c5 : a4.toInt ≠ 0 := fun q => c4 ((i_eq a4 0).mpr (by rw [q]; rfl))
            by_cases c6 : n = 8
            · subst c6
              have g1 : ¬ nI 8 < 8 := by decide
              have g2 : nI 8 = 8 := by decide
              exact ⟨-4, X, Y, by simp [c1, c2, c3, c5, g1], by simp [c1, c2, c3, c4, g2], h⟩
            · have hn8 : n < 8 := Nat.lt_of_le_of_ne s3 c6
              have g1 : nI n < 8 := nI_lt (a := n) (b := 8) hn8 (by decide)
              have g2 : ¬ nI n = 8 := fun q => by
                exact c6 ((nI_eq (a := n) (b := 8) (Nat.lt_trans hn8 (by decide)) (by decide)).mp q)
              have g3 : (8 : Int32) * nI j = nI (o + 0) := by
                rw [show (8 : Int32) = nI 8 from by decide, show nI 8 * nI j = nI (8 * j) from (Int32.ofNat_mul 8 j).symm, ho, Nat.add_zero]
              obtain ⟨u1, u2⟩ := holds_eq (N := N) s1 s3 hN a2 a3
              obtain ⟨w1, w2⟩ := termY_eq (N := N) hj ho s2 hn8 hN a2 a3 a4
              have hiff : (∃ t, t < n ∧ Y.1 1 (o + t) = a2 ∧ Y.1 2 (o + t) = a3) ↔ (∃ t, t < n ∧ X.1 (b + 1) t = a2 ∧ X.1 (b + 2) t = a3) := by
                constructor
                · rintro ⟨t, q1, q2, q3⟩
                  obtain ⟨z1, z2, -⟩ := s4 t q1
                  exact ⟨t, q1, by rw [z1, q2], by rw [z2, q3]⟩
                · rintro ⟨t, q1, q2, q3⟩
                  obtain ⟨z1, z2, -⟩ := s4 t q1
                  exact ⟨t, q1, by rw [← z1, q2], by rw [← z2, q3]⟩
              by_cases c7 : ∃ t, t < n ∧ X.1 (b + 1) t = a2 ∧ X.1 (b + 2) t = a3
              · refine ⟨-5, X, Y, ?_, ?_, h⟩
                · rw [u1 c7]; simp [c1, c2, c3, c5, g1]
                · rw [g3, w1 (hiff.mpr c7)]; simp [c1, c2, c3, c4, g2]
              · have d1 : (setI (setI X 16 2 0) 21 2 0).1 b 4 = nI n := by rw [forget_cell X b hno.b1 hno.b2]; exact s1
                refine ⟨nI n, _, _, ?_, ?_, hfin hn8 c1 c2 ⟨c5, c3⟩ c7⟩
                · rw [u2 c7, forget_eq]
                  simp only [ob_some, add_eq hb d1 hn8]
                  simp [c1, c2, c3, c5, g1]
                · rw [g3, w2 (fun q => c7 (hiff.mp q))]; simp [c1, c2, c3, c4, g2]
        · exact ⟨-2, X, Y, by simp [c1, c2, c3], by simp [c1, c2, c3], h⟩
      · exact ⟨-2, X, Y, by simp [c1, c2], by simp [c1, c2], h⟩
    · exact ⟨-2, X, Y, by simp [c1], by simp [c1], h⟩
  obtain ⟨n0, n1, h0, h1, -⟩ := id h
  have f0 := h0.congr no0 (forget_cell X) (fun _ _ _ => rfl)
  have f1 := h1.congr no1 (forget_cell X) (fun _ _ _ => rfl)
  have fc := forget_cell X
  have fk := forget_k X
  unfold fX5_term
  by_cases c0 : a1 = 0
  · subst c0
    obtain ⟨r, X', Y', g1, g2, g3⟩ := core 1 0 0 n0 no0 h0 (fun hn hx hy hz hnew => Sim.fresh (f0.add no0 hn hx hy hz (by rw [fc 2 (by decide) (by decide), fc 3 (by decide) (by decide)]; exact hnew)) (f1.add2 no1 no0 (by decide) hn) (by rw [addX_cell (by decide)]; exact fk.1) (by rw [addX_cell (by decide)]; exact fk.2))
    rw [eqOf_0]
    exact ⟨r, X', Y', g1, g2, g3⟩
  · by_cases c1 : a1 = 1
    · subst c1
      obtain ⟨r, X', Y', g1, g2, g3⟩ := core 6 8 1 n1 no1 h1 (fun hn hx hy hz hnew => Sim.fresh (f0.add2 no0 no1 (by decide) hn) (f1.add no1 hn hx hy hz (by rw [fc 7 (by decide) (by decide), fc 8 (by decide) (by decide)]; exact hnew)) (by rw [addX_cell (by decide)]; exact fk.1) (by rw [addX_cell (by decide)]; exact fk.2))
      rw [eqOf_1]
      exact ⟨r, X', Y', g1, g2, g3⟩
    · rw [eqOf_n c0 c1]
      refine ⟨-1, X, Y, rfl, ?_, h⟩
      unfold fX6_term
      rw [isEq_eq]
      simp [c0, c1, bz]

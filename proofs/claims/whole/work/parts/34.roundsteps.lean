theorem ansX {M : Mem} {E : Nat → Nat → Int32} {n0 n1 m N T : Nat} {a2 : Int32} (hN : 40 ≤ N) (hQ : YQ M E n0 n1) (ok0 : okN E 1 n0) (ok1 : okN E 6 n1) (hm : 1 < m) (hm2 : m ≤ 31) (hT : ∀ K, K ≤ 900 → (nI K = a2 ↔ K = T)) : ∀ n x L, 1 ≤ x → x ≤ m → m - x < n → (L.filter (isSo E n0 n1 m)).length ≤ T → L.length + (pX m x).length ≤ 900 →
    (∀ q, ((L ++ pX m x).filter (isSo E n0 n1 m))[T]? = some q → lp (fun _ _ => none) (sX6_answers_5 (nI m) a2 N M) n (nI (L.filter (isSo E n0 n1 m)).length) (nI x) = some (nI (100 * q.1 + q.2))) ∧
    (((L ++ pX m x).filter (isSo E n0 n1 m)).length ≤ T → lp (fun _ _ => none) (sX6_answers_5 (nI m) a2 N M) n (nI (L.filter (isSo E n0 n1 m)).length) (nI x) = if 0 ≤ a2 then some (-6) else some (nI ((L ++ pX m x).filter (isSo E n0 n1 m)).length)) := by
  intro n
  refine lp_rule (bot := fun _ _ => none) (step := sX6_answers_5 (nI m) a2 N M) (fun n f => ∀ x L, 1 ≤ x → x ≤ m → m - x < n → (L.filter (isSo E n0 n1 m)).length ≤ T → L.length + (pX m x).length ≤ 900 →
    (∀ q, ((L ++ pX m x).filter (isSo E n0 n1 m))[T]? = some q → f (nI (L.filter (isSo E n0 n1 m)).length) (nI x) = some (nI (100 * q.1 + q.2))) ∧
    (((L ++ pX m x).filter (isSo E n0 n1 m)).length ≤ T → f (nI (L.filter (isSo E n0 n1 m)).length) (nI x) = if 0 ≤ a2 then some (-6) else some (nI ((L ++ pX m x).filter (isSo E n0 n1 m)).length))) (fun y L _ _ h => by omega) ?_ n
  intro n f hf x L hx1 hx2 hn hK hlen
  unfold sX6_answers_5
  rw [if_nle (by omega) (by omega)]
  by_cases e : m ≤ x
  · rw [if_pos e, pX_nil e, List.append_nil]
    refine ⟨fun q hq => ?_, fun _ => rfl⟩
    rw [List.getElem?_eq_none hK] at hq; cases hq
  · rw [if_neg e]
    rw [pX_cons (show x < m by omega)] at hlen ⊢
    simp only [List.length_append] at hlen
    rw [← List.append_assoc]
    obtain ⟨k1, k2⟩ := ansY hN hQ ok0 ok1 hm hm2 ⟨hx1, show x < m by omega⟩ hT f N 1 L (by omega) (by omega) (by omega) hK (by omega)
    rw [show nI 1 = (1 : Int32) from rfl] at k1 k2
    by_cases hh : ((L ++ pY m x 1).filter (isSo E n0 n1 m)).length ≤ T
    · rw [k2 hh]
      exact hf (x + 1) (L ++ pY m x 1) (by omega) (by omega) (by omega) hh (by simp; omega)
    · have hlt : T < ((L ++ pY m x 1).filter (isSo E n0 n1 m)).length := by omega
      refine ⟨fun q hq => k1 q ?_, fun h2 => ?_⟩
      · rw [List.filter_append, List.getElem?_append_left hlt] at hq
        exact hq
      · rw [List.filter_append, List.length_append] at h2
        omega
theorem answers_eq {M : Mem} {E : Nat → Nat → Int32} {n0 n1 m N T : Nat} {a2 : Int32} (hN : 40 ≤ N) (hQ : YQ M E n0 n1) (ok0 : okN E 1 n0) (ok1 : okN E 6 n1) (hm : 1 < m) (hm2 : m ≤ 31) (hT : ∀ K, K ≤ 900 → (nI K = a2 ↔ K = T)) :
    (∀ q, (soL E n0 n1 m)[T]? = some q → fX6_answers N M (nI m) a2 = some (nI (100 * q.1 + q.2))) ∧ ((soL E n0 n1 m).length ≤ T → fX6_answers N M (nI m) a2 = if 0 ≤ a2 then some (-6) else some (nI (soL E n0 n1 m).length)) :=
  ansX hN hQ ok0 ok1 hm hm2 hT N 1 [] (by omega) (by omega) (by omega) (by simp) (by simpa using pX_len m (by omega))
theorem soL_len {E : Nat → Nat → Int32} {n0 n1 m : Nat} (hm : m ≤ 31) : (soL E n0 n1 m).length ≤ 900 := Nat.le_trans (List.length_filter_le _ _) (pX_len m (by omega))
theorem ldR_n {k : Nat} (hk : k < 11) : ldR (nI k) = some (prR k) := by
  unfold ldR
  rw [if_neg (nI_in hk (by decide)), nI_clamp (by omega)]
theorem roundPrime_eq {N : Nat} (hN : 12 ≤ N) (a : Int32) : ((∃ m, prm m ∧ a = nI m) → fX5_isRoundPrime N a = some 1) ∧ ((¬ ∃ m, prm m ∧ a = nI m) → fX5_isRoundPrime N a = some 0) := by
  have key := lp_rule (bot := fun _ => none) (step := sX5_isRoundPrime_9 a) (fun q f => ∀ k, k ≤ 11 → 11 - k < q → ((∃ t, k ≤ t ∧ t < 11 ∧ prR t = a) → f (nI k) = some 1) ∧ ((¬ ∃ t, k ≤ t ∧ t < 11 ∧ prR t = a) → f (nI k) = some 0)) (fun k _ h => by omega) (by
    intro q f hf k hk hq
    unfold sX5_isRoundPrime_9
    rw [show (11 : Int32) = nI 11 from by decide, if_nle (by decide) (by omega), nI_1, okZ_0, okZ_1]
    by_cases e : 11 ≤ k
    · rw [if_pos e]
      exact ⟨fun ⟨t, h1, h2, _⟩ => by omega, fun _ => rfl⟩
    · rw [if_neg e, ldR_n (by omega)]
      simp only [ob_some]
      by_cases c : prR k = a
      · rw [if_pos c]
        exact ⟨fun _ => rfl, fun h => absurd ⟨k, Nat.le_refl _, by omega, c⟩ h⟩
      · rw [if_neg c]
        obtain ⟨k1, k2⟩ := hf (k + 1) (by omega) (by omega)
        refine ⟨fun ⟨t, h1, h2, h3⟩ => k1 ⟨t, ?_, h2, h3⟩, fun h => k2 (fun ⟨t, h1, h2⟩ => h ⟨t, by omega, h2⟩)⟩
        rcases Nat.lt_or_ge k t with w | w
        · omega
        · have : t = k := by omega
          subst this; exact absurd h3 c) N 0 (by omega) (by omega)
  have hiff : (∃ m, prm m ∧ a = nI m) ↔ (∃ t, 0 ≤ t ∧ t < 11 ∧ prR t = a) := by
    constructor
    · rintro ⟨m, hm, rfl⟩
      unfold prm at hm
      rcases hm with rfl | rfl | rfl | rfl | rfl | rfl | rfl | rfl | rfl | rfl | rfl
      · exact ⟨0, by decide⟩
      · exact ⟨1, by decide⟩
      · exact ⟨2, by decide⟩
      · exact ⟨3, by decide⟩
      · exact ⟨4, by decide⟩
      · exact ⟨5, by decide⟩
      · exact ⟨6, by decide⟩
      · exact ⟨7, by decide⟩
      · exact ⟨8, by decide⟩
      · exact ⟨9, by decide⟩
      · exact ⟨10, by decide⟩
    · rintro ⟨t, -, h2, rfl⟩
      rcases (show t = 0 ∨ t = 1 ∨ t = 2 ∨ t = 3 ∨ t = 4 ∨ t = 5 ∨ t = 6 ∨ t = 7 ∨ t = 8 ∨ t = 9 ∨ t = 10 by omega) with rfl | rfl | rfl | rfl | rfl | rfl | rfl | rfl | rfl | rfl | rfl
      · exact ⟨2, by unfold prm; decide, by decide⟩
      · exact ⟨3, by unfold prm; decide, by decide⟩
      · exact ⟨5, by unfold prm; decide, by decide⟩
      · exact ⟨7, by unfold prm; decide, by decide⟩
      · exact ⟨11, by unfold prm; decide, by decide⟩
      · exact ⟨13, by unfold prm; decide, by decide⟩
      · exact ⟨17, by unfold prm; decide, by decide⟩
      · exact ⟨19, by unfold prm; decide, by decide⟩
      · exact ⟨23, by unfold prm; decide, by decide⟩
      · exact ⟨29, by unfold prm; decide, by decide⟩
      · exact ⟨31, by unfold prm; decide, by decide⟩
  exact ⟨fun h => key.1 (hiff.mp h), fun h => key.2 (fun q => h (hiff.mpr q))⟩
theorem prm_fin : ∀ m, m < 32 → 2 ≤ m → (allB (fun t => decide (t < 2) || !(decide (m % t = 0))) m = true ↔ (m = 2 ∨ m = 3 ∨ m = 5 ∨ m = 7 ∨ m = 11 ∨ m = 13 ∨ m = 17 ∨ m = 19 ∨ m = 23 ∨ m = 29 ∨ m = 31)) := by decide +kernel
theorem isPrime_eq {N : Nat} (hN : 40 ≤ N) (a : Int32) : ((∃ m, prm m ∧ a = nI m) → fX6_isPrime N a = some 1) ∧ ((¬ ∃ m, prm m ∧ a = nI m) → fX6_isPrime N a = some 0) := by
  unfold fX6_isPrime
  rw [in32, okZ_0]
  simp only [ob_some, ifb]
  have e1 : (2 : Int64).toInt = 2 := by decide
  have e2 : (31 : Int64).toInt = 31 := by decide
  rw [e1, e2]
  by_cases hr : 2 ≤ a.toInt ∧ a.toInt ≤ 31
  · obtain ⟨m, hm1, rfl⟩ := a_of (a := a) (n := 32) (by omega) (by omega)
    rw [nI_tI (by omega)] at hr
    rw [nI_tI (by omega)]
    simp only [hr, and_self, decide_true, if_true]
    have key := lp_rule (bot := fun _ => none) (step := sX6_isPrime_18 (nI m)) (fun q f => ∀ d, 2 ≤ d → d ≤ m → m - d < q → ((∀ t, d ≤ t → t < m → m % t ≠ 0) → f (nI d) = some 1) ∧ ((¬ ∀ t, d ≤ t → t < m → m % t ≠ 0) → f (nI d) = some 0)) (fun d _ _ h => by omega) (by
      intro q f hf d hd1 hd2 hq
      unfold sX6_isPrime_18
      rw [if_nle (by omega) (by omega), nI_1, okZ_0, okZ_1]
      by_cases e : m ≤ d
      · rw [if_pos e]
        exact ⟨fun _ => rfl, fun h => absurd (fun t h1 h2 => by omega) h⟩
      · rw [if_neg e, nI_iI m, nI_iI d, rmI_eq (by omega) (by omega) (by omega) (by omega), tmod_nat]
        simp only [ob_some]
        have hlt : m % d < d := Nat.mod_lt _ (by omega)
        by_cases c : m % d = 0
        · rw [if_pos ((iI_0 (by omega) (by omega)).mpr (by omega))]
          exact ⟨fun h => absurd c (h d (Nat.le_refl _) (by omega)), fun _ => rfl⟩
        · rw [if_neg (fun h => c (by have := (iI_0 (by omega) (by omega)).mp h; omega))]
          obtain ⟨k1, k2⟩ := hf (d + 1) (by omega) (by omega) (by omega)
          refine ⟨fun h => k1 (fun t h1 h2 => h t (by omega) h2), fun h => k2 (fun g => h (fun t h1 h2 => ?_))⟩
          rcases Nat.lt_or_ge d t with w | w
          · exact g t (by omega) h2
          · rw [show t = d by omega]; exact c) N 2 (by omega) (by omega) (by omega)
    have hall : (∀ t, 2 ≤ t → t < m → m % t ≠ 0) ↔ prm m := by
      unfold prm
      rw [← prm_fin m (by omega) (by omega), allB_iff]
      constructor
      · intro h t ht
        rcases Nat.lt_or_ge t 2 with w | w
        · simp [w]
        · simp [h t w ht]
      · intro h t h1 h2
        have := h t h2
        simp at this
        omega
    refine ⟨fun ⟨m2, h1, h2⟩ => key.1 (hall.mpr ?_), fun h => key.2 (fun g => h ⟨m, hall.mp g, rfl⟩)⟩
    have b := prm_bd h1
    have : m = m2 := (nI_eq (by omega) (by omega)).mp h2
    rw [this]; exact h1
  · simp only [hr, decide_false, Bool.false_eq_true, if_false]
    refine ⟨fun ⟨m, h1, h2⟩ => ?_, fun _ => trivial⟩
    have b := prm_bd h1
    rw [h2, nI_tI (by omega)] at hr
    omega
theorem Sim.solved {X X2 Y : Mem} {n0 n1 m : Nat} (h : Sim X Y) (h0 : EqR X Y 1 0 0 n0) (h1 : EqR X Y 6 8 1 n1) (hm : prm m) (a : X2.1 21 2 = nI m) (b : X2.1 21 1 = nI (soL X2.1 n0 n1 m).length) (c : ∀ (k : Nat) (q : Nat × Nat), (soL X2.1 n0 n1 m)[k]? = some q → X2.1 22 k = nI (100 * q.1 + q.2)) (hX : ∀ k, k ≠ 21 → k ≠ 22 → k ≠ 23 → X2.1 k = X.1 k) : Sim X2 Y := by
  have hx : ∀ c, 1 ≤ c → c ≤ 10 → X2.1 c = X.1 c := fun c c1 c2 => hX c (by omega) (by omega) (by omega)
  refine ⟨n0, n1, h0.congr no0 hx (fun _ _ _ => rfl), h1.congr no1 hx (fun _ _ _ => rfl), ?_, Or.inr ⟨m, hm, a, b, c⟩⟩
  obtain ⟨m0, m1, g0, g1, g2, -⟩ := h
  have e0 : m0 = n0 := (nI_eq (by have := g0.2.2.1; omega) (by have := h0.2.2.1; omega)).mp (g0.1.symm.trans h0.1)
  have e1 : m1 = n1 := (nI_eq (by have := g1.2.2.1; omega) (by have := h1.2.2.1; omega)).mp (g1.1.symm.trans h1.1)
  subst e0; subst e1
  rw [hX 16 (by decide) (by decide) (by decide)]
  rcases g2 with g2 | ⟨g2, p, q, r⟩
  · exact Or.inl g2
  · refine Or.inr ⟨g2, ?_⟩
    unfold CellC
    rw [clL_congr hx, isCr_congr hx, hX 16 (by decide) (by decide) (by decide), hX 17 (by decide) (by decide) (by decide)]
    exact ⟨p, q, r⟩
theorem T_negR : ∀ K, K ≤ 900 → (nI K = (-1 : Int32) ↔ K = 1000) := by
  intro K hK
  constructor
  · intro h
    have := (i_eq _ _).mp h
    rw [nI_tI (by omega)] at this
    have e : (-1 : Int32).toInt = -1 := by decide
    omega
  · intro h; omega
theorem T_posR {t : Nat} (ht : t < 2 ^ 31) : ∀ K, K ≤ 900 → (nI K = nI t ↔ K = t) := fun K hK => nI_eq (by omega) ht
theorem st_round {X Y : Mem} {N : Nat} (hN : 40 ≤ N) (a1 : Int32) (h : Sim X Y) : ∃ (r : Int32) (X' : Mem), fX5_round N X a1 = some (r, X') ∧ fX6_round N Y a1 = some r ∧ Sim X' Y := by
  obtain ⟨n0, n1, h0, h1, -, hk⟩ := id h
  unfold fX5_round fX6_round
  obtain ⟨p1, p2⟩ := roundPrime_eq (N := N) (by omega) a1
  obtain ⟨q1, q2⟩ := isPrime_eq (N := N) hN a1
  by_cases hp : ∃ m, prm m ∧ a1 = nI m
  · rw [p1 hp, q1 hp]
    obtain ⟨m, hm, rfl⟩ := hp
    simp only [ob_some, if1]
    have hb := prm_bd hm
    obtain ⟨X2, f1, f2, f3, f4, f5, f6⟩ := solve_eq hN h0.1 h1.1 (okN.of h0) (okN.of h1) hm hk
    have hx : ∀ c, 1 ≤ c → c ≤ 10 → X2.1 c = X.1 c := fun c c1 c2 => f5 c (by omega) (by omega) (by omega)
    obtain ⟨-, g⟩ := answers_eq hN (YQ.sim h0 h1) (okN.of h0) (okN.of h1) hb.1 hb.2 T_negR
    rw [f1, g (by have := soL_len (E := X.1) (n0 := n0) (n1 := n1) hb.2; omega)]
    simp only [ob_some]
    rw [if_neg (by decide)]
    refine ⟨_, X2, rfl, ?_, h.solved h0 h1 hm f2 f3 f4 f5⟩
    rw [f3, soL_congr hx]; rfl
  · rw [p2 hp, q2 hp]
    simp only [ob_some, if0]
    exact ⟨-2, X, rfl, rfl, h⟩
theorem st_answer {X Y : Mem} {N : Nat} (hN : 40 ≤ N) (a1 a2 : Int32) (h : Sim X Y) : ∃ (r : Int32) (X' : Mem), fX5_answer N X a1 a2 = some (r, X') ∧ fX6_answer N Y a1 a2 = some r ∧ Sim X' Y := by
  obtain ⟨n0, n1, h0, h1, -, hk⟩ := id h
  unfold fX5_answer fX6_answer
  obtain ⟨p1, p2⟩ := roundPrime_eq (N := N) (by omega) a1
  obtain ⟨q1, q2⟩ := isPrime_eq (N := N) hN a1
  by_cases hp : ∃ m, prm m ∧ a1 = nI m
  · rw [p1 hp, q1 hp]
    obtain ⟨m, hm, rfl⟩ := hp
    simp only [ob_some, if1]
    have hb := prm_bd hm
    obtain ⟨X2, f1, f2, f3, f4, f5, f6⟩ := solve_eq hN h0.1 h1.1 (okN.of h0) (okN.of h1) hm hk
    have hx : ∀ c, 1 ≤ c → c ≤ 10 → X2.1 c = X.1 c := fun c c1 c2 => f5 c (by omega) (by omega) (by omega)
    have hs := h.solved h0 h1 hm f2 f3 f4 f5
    have hl := soL_len (E := X.1) (n0 := n0) (n1 := n1) hb.2
    rw [soL_congr hx] at f3 f4
    have e1 : (0 : Int32).toInt = 0 := by decide
    rw [f1]
    simp only [ob_some]
    rw [within_eq, f3, nI_m1 (by omega), e1]
    simp only [ob_some, ifb]
    by_cases hpos : 0 ≤ a2
    · rw [if_pos hpos]
      have hpos2 : 0 ≤ a2.toInt := by rw [i_le, e1] at hpos; exact hpos
      have hneg : ¬ a2 < 0 := by rw [i_lt, e1]; omega
      obtain ⟨t, t1, rfl⟩ := nI_of hneg
      have tt : (nI t).toInt = t := nI_toInt t1
      obtain ⟨g1, g2⟩ := answers_eq hN (YQ.sim h0 h1) (okN.of h0) (okN.of h1) hb.1 hb.2 (T_posR t1)
      rw [tt]
      by_cases hlt : t < (soL X.1 n0 n1 m).length
      · have hc : (0 : Int) ≤ (t : Int) ∧ (t : Int) ≤ ((soL X.1 n0 n1 m).length : Int) - 1 := by omega
        have hq : (soL X.1 n0 n1 m)[t]? = some ((soL X.1 n0 n1 m)[t]) := List.getElem?_eq_getElem hlt
        rw [g1 _ hq]
        simp only [hc, and_self, decide_true, if_true, ob_some]
        rw [ldI_n (by omega) (by decide), f4 t _ hq]
        exact ⟨_, X2, rfl, rfl, hs⟩
      · have hc : ¬ ((0 : Int) ≤ (t : Int) ∧ (t : Int) ≤ ((soL X.1 n0 n1 m).length : Int) - 1) := by omega
        rw [g2 (by omega), if_pos hpos]
        simp only [hc, decide_false, Bool.false_eq_true, if_false, ob_some]
        exact ⟨_, X2, rfl, rfl, hs⟩
    · rw [if_neg hpos]
      have hneg : ¬ 0 ≤ a2.toInt := by rw [i_le, e1] at hpos; exact hpos
      have hc : ¬ ((0 : Int) ≤ a2.toInt ∧ a2.toInt ≤ ((soL X.1 n0 n1 m).length : Int) - 1) := by omega
      simp only [hc, decide_false, Bool.false_eq_true, if_false]
      exact ⟨_, X2, rfl, rfl, hs⟩
  · rw [p2 hp, q2 hp]
    simp only [ob_some, if0]
    exact ⟨-2, X, rfl, rfl, h⟩

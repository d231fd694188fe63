def allF (p : Nat → Bool) (v n : Nat) : Bool := allB (fun t => p (v + t)) (n - v)
theorem allB_cons (p : Nat → Bool) (n : Nat) : allB p (n + 1) = (p 0 && allB (fun t => p (t + 1)) n) := by
  induction n with
  | zero => simp [allB]
  | succ n ih =>
    rw [allB, ih]
    conv => rhs; rw [allB]
    rw [Bool.and_assoc]
theorem allF_step {p : Nat → Bool} {v n : Nat} (h : v < n) : allF p v n = (p v && allF p (v + 1) n) := by
  unfold allF
  obtain ⟨k, hk⟩ : ∃ k, n - v = k + 1 := ⟨n - v - 1, by omega⟩
  rw [hk, allB_cons, show n - (v + 1) = k by omega]
  simp only [Nat.add_zero]
  congr 2
  funext t
  rw [show v + (t + 1) = v + 1 + t by omega]
theorem allF_end {p : Nat → Bool} {v n : Nat} (h : n ≤ v) : allF p v n = true := by
  unfold allF
  rw [show n - v = 0 by omega]
  rfl
theorem allF_0 (p : Nat → Bool) (n : Nat) : allF p 0 n = allB p n := by
  unfold allF
  simp only [Nat.sub_zero, Nat.zero_add]
theorem okZM_bz (p : Bool) (M : Mem) : okZM (bz p) M = some (bz p, M) := by cases p <;> simp [bz, okZM]
theorem stZ_bz (M : Mem) (c k : Nat) (p : Bool) : stZ M c k (bz p) = some (setI M c k (bz p)) := by cases p <;> simp [bz, stZ]
/-- all but the mark that tells whether it is fine -/
def YG (A B : Mem) : Prop := YF A B ∧ ∀ i, i ≠ 14 → B.1 0 i = A.1 0 i
theorem YG.rf (A : Mem) : YG A A := ⟨YF.rf A, fun _ _ => rfl⟩
theorem YG.tr {A B C : Mem} (h : YG A B) (g : YG B C) : YG A C := ⟨h.1.tr g.1, fun i hi => (g.2 i hi).trans (h.2 i hi)⟩
theorem YG.set (A : Mem) (v : Int32) : YG A (setI A 0 14 v) := ⟨(YF.rf A).set 14 v, fun i hi => setI_nk hi⟩
theorem tiltY.of {A B : Mem} {E : Nat → Nat → Int32} {a b c d : Nat} (h : tiltY A E a b c d) (g : YG A B) : tiltY B E a b c d := by
  unfold tiltY at *
  rw [g.2 11 (by decide), g.2 12 (by decide), g.2 13 (by decide)]
  exact h
/-- an equation of the reference, by E -/
def YE (M : Mem) (E : Nat → Nat → Int32) (bs o j n : Nat) : Prop := M.1 5 j = nI n ∧ n ≤ 8 ∧ ∀ t, t < n → M.1 1 (o + t) = E (bs + 1) t ∧ M.1 2 (o + t) = E (bs + 2) t ∧ M.1 4 (o + t) = E (bs + 4) t
theorem YE.of {A B : Mem} {E : Nat → Nat → Int32} {bs o j n : Nat} (h : YE A E bs o j n) (g : YF A B) : YE B E bs o j n := by
  unfold YE at *
  rw [g.1 5 (by decide), g.1 1 (by decide), g.1 2 (by decide), g.1 4 (by decide)]
  exact h
theorem lowest_eq {M : Mem} {E : Nat → Nat → Int32} {a b c d bs o j n k1 k2 N : Nat} {fi : Bool} (hN : 9 ≤ N) (hno : eqNo bs o j) (hY : YE M E bs o j n) (hT : tiltY M E a b c d) (hk1 : k1 < n) (hk2 : k2 < n) (hf : M.1 0 14 = bz fi) :
    ∃ M2, fX6_isLowest N M (nI j) (nI (o + k1)) (nI (o + k2)) = some (bz (allB (fun t => decide (lev E a b c d bs k1 ≤ lev E a b c d bs t)) n), M2) ∧ YG M M2 ∧ M2.1 0 14 = bz (fi && allB (fun t => decide (t = k1) || decide (t = k2) || !(decide (lev E a b c d bs t = lev E a b c d bs k1))) n) := by
  have hj := hno.j
  have ho := hno.o
  have hn8 := hY.2.1
  have key := lp_rule (bot := fun _ _ _ => none) (step := sX6_isLowest_9 (nI j) (nI (o + k1)) (nI (o + k2))) (fun m f => ∀ v lo fi A, v ≤ n → n - v < m → YE A E bs o j n → tiltY A E a b c d → A.1 0 14 = bz fi → ∃ M2, f (bz lo) (nI (o + v)) A = some (bz (lo && allF (fun t => decide (lev E a b c d bs k1 ≤ lev E a b c d bs t)) v n), M2) ∧ YG A M2 ∧ M2.1 0 14 = bz (fi && allF (fun t => decide (t = k1) || decide (t = k2) || !(decide (lev E a b c d bs t = lev E a b c d bs k1))) v n)) (fun v _ _ _ _ h2 => by omega) (by
    intro m f hf v lo fi A hv hm hYA hTA hfA
    unfold sX6_isLowest_9
    rw [ldI_n hj (by decide), hYA.1]
    simp only [ob_some]
    rw [e8, ← ho, if_nle (by omega) (by omega), nI_1]
    by_cases e : o + n ≤ o + v
    · rw [if_pos e, okZM_bz, allF_end (by omega), allF_end (by omega), Bool.and_true, Bool.and_true]
      exact ⟨A, rfl, YG.rf A, hfA⟩
    · rw [if_neg e, allF_step (show v < n by omega), allF_step (show v < n by omega)]
      obtain ⟨q1, q2, q3⟩ := hYA.2.2 v (by omega)
      obtain ⟨r1, r2, r3⟩ := hYA.2.2 k1 hk1
      have hh1 := height_eq (n := n) hno hTA (t := v) (by omega) q1 q2 q3
      have hh2 := height_eq (n := n) hno hTA (t := k1) (by omega) r1 r2 r3
      have s1 : (if bz lo = 0 then some (0 : Int32) else (fX6_height A (nI (o + v))).bind fun v12 => (fX6_height A (nI (o + k1))).bind fun v13 => if v12 < v13 then some (0 : Int32) else some (1 : Int32)) = some (bz (lo && decide (lev E a b c d bs k1 ≤ lev E a b c d bs v))) := by
        rw [hh1, hh2, ifb]
        simp only [ob_some]
        cases lo
        · simp [bz]
        · simp only [if_true, Bool.true_and]
          by_cases w : lev E a b c d bs v < lev E a b c d bs k1
          · have w2 : ¬ lev E a b c d bs k1 ≤ lev E a b c d bs v := by rw [i_lt] at w; rw [i_le]; omega
            simp [w, w2, bz]
          · have w2 : lev E a b c d bs k1 ≤ lev E a b c d bs v := by rw [i_lt] at w; rw [i_le]; omega
            simp [w, w2, bz]
      have s2 : (if A.1 0 14 = 0 then some (0 : Int32) else if nI (o + v) = nI (o + k1) then some (1 : Int32) else if nI (o + v) = nI (o + k2) then some (1 : Int32) else (fX6_height A (nI (o + v))).bind fun v9 => (fX6_height A (nI (o + k1))).bind fun v10 => if v9 = v10 then some (0 : Int32) else some (1 : Int32)) = some (bz (fi && (decide (v = k1) || decide (v = k2) || !(decide (lev E a b c d bs v = lev E a b c d bs k1))))) := by
        rw [hh1, hh2, hfA, ifb, if_neq (by omega) (by omega), if_neq (by omega) (by omega)]
        simp only [ob_some, Nat.add_left_cancel_iff]
        cases fi
        · simp [bz]
        · simp only [if_true, Bool.true_and]
          by_cases w1 : v = k1
          · simp [w1, bz]
          · by_cases w2 : v = k2
            · simp [w2, bz]
            · by_cases w3 : lev E a b c d bs v = lev E a b c d bs k1
              · simp [w1, w2, w3, bz]
              · simp [w1, w2, w3, bz]
      rw [s1]
      simp only [ob_some]
      rw [s2]
      simp only [ob_some]
      rw [stZ_bz]
      simp only [ob_some]
      have hg := YG.set A (bz (fi && (decide (v = k1) || decide (v = k2) || !(decide (lev E a b c d bs v = lev E a b c d bs k1)))))
      obtain ⟨M2, g1, g2, g3⟩ := hf (v + 1) (lo && decide (lev E a b c d bs k1 ≤ lev E a b c d bs v)) (fi && (decide (v = k1) || decide (v = k2) || !(decide (lev E a b c d bs v = lev E a b c d bs k1)))) _ (by omega) (by omega) (hYA.of hg.1) (hTA.of hg) (setI_eq _ _ _ _)
      refine ⟨M2, ?_, hg.tr g2, ?_⟩
      · rw [← Nat.add_assoc] at g1
        rw [g1, Bool.and_assoc]
      · rw [g3, Bool.and_assoc]) N 0 true fi M (by omega) (by omega) hY hT hf
  rw [allF_0, allF_0, Bool.true_and] at key
  unfold fX6_isLowest
  have g0 : (8 : Int32) * nI j = nI (o + 0) := by
    rw [show (8 : Int32) = nI 8 from by decide, show nI 8 * nI j = nI (8 * j) from (Int32.ofNat_mul 8 j).symm, ho, Nat.add_zero]
  rw [g0]
  exact key
theorem YR.e0 {M : Mem} {E : Nat → Nat → Int32} {n0 n1 : Nat} (h : YR M E n0 n1) : YE M E 1 0 0 n0 := ⟨h.1, h.2.2.1, fun t ht => by rw [Nat.zero_add]; exact h.2.2.2.2.1 t ht⟩
theorem YR.e1 {M : Mem} {E : Nat → Nat → Int32} {n0 n1 : Nat} (h : YR M E n0 n1) : YE M E 6 8 1 n1 := ⟨h.2.1, h.2.2.2.1, fun t ht => h.2.2.2.2.2 t ht⟩
theorem isCell_eq {M : Mem} {E : Nat → Nat → Int32} {a b c d n0 n1 N : Nat} (hN : 9 ≤ N) (hY : YR M E n0 n1) (hab : a < b) (hb : b < n0) (hcd : c < d) (hd : d < n1) :
    ∃ M2, fX6_isCell N M (nI a) (nI b) (nI (8 + c)) (nI (8 + d)) = some (bz (isCl E n0 n1 (a, b, c, d)), M2) ∧ YF M M2 ∧ M2.1 0 11 = trn E a b c d ∧ M2.1 0 19 = M.1 0 19 ∧ (isCl E n0 n1 (a, b, c, d) = true → M2.1 0 14 = bz (!(isCr E n0 n1 (a, b, c, d)))) := by
  obtain ⟨y1, y2, y3, y4, y5, y6⟩ := id hY
  obtain ⟨a1, a2, a3⟩ := y5 a (by omega)
  obtain ⟨b1, b2, b3⟩ := y5 b hb
  obtain ⟨c1, c2, c3⟩ := y6 c (by omega)
  obtain ⟨d1, d2, d3⟩ := y6 d hd
  unfold fX6_isCell
  have g : ∀ (P : Mem) (cl k : Nat), k < 16 → ldI P cl 16 (nI k) = some (P.1 cl k) := fun P cl k hk => ldI_n hk (by decide)
  simp only [g _ _ a (by omega), g _ _ b (by omega), g _ _ (8 + c) (by omega), g _ _ (8 + d) (by omega), ob_some]
  rw [a1, a2, b1, b2, c1, c2, d1, d2]
  have ht : ((E 2 a - E 2 b) * (E 8 c - E 8 d)) - ((E 3 a - E 3 b) * (E 7 c - E 7 d)) = trn E a b c d := by unfold trn; grind
  rw [ht, setI_eq]
  by_cases hz : trn E a b c d = 0
  · rw [if_pos hz, okZM_0]
    refine ⟨setI M 0 11 (trn E a b c d), by simp [isCl, hz, bz], (YF.rf M).set _ _, by rw [setI_eq], by rw [setI_nk (by decide)], ?_⟩
    intro q
    simp [isCl, hz] at q
  · rw [if_neg hz]
    simp only [setI_ne (show (4 : Nat) ≠ 0 by decide)]
    rw [a3, b3, c3, d3, stZ_1]
    simp only [ob_some]
    have hu : ((E 5 b - E 5 a) * (E 8 c - E 8 d)) - ((E 10 d - E 10 c) * (E 3 a - E 3 b)) = ((E 5 a - E 5 b) * (E 8 d - E 8 c)) - ((E 10 c - E 10 d) * (E 3 b - E 3 a)) := by grind
    have hv : ((E 2 a - E 2 b) * (E 10 d - E 10 c)) - ((E 7 c - E 7 d) * (E 5 b - E 5 a)) = ((E 10 c - E 10 d) * (E 2 b - E 2 a)) - ((E 5 a - E 5 b) * (E 7 d - E 7 c)) := by grind
    rw [hu, hv]
    generalize hM1 : setI (setI (setI (setI M 0 11 (trn E a b c d)) 0 12 (((E 5 a - E 5 b) * (E 8 d - E 8 c)) - ((E 10 c - E 10 d) * (E 3 b - E 3 a)))) 0 13 (((E 10 c - E 10 d) * (E 2 b - E 2 a)) - ((E 5 a - E 5 b) * (E 7 d - E 7 c)))) 0 14 1 = M1
    have f1 : YF M M1 := by rw [← hM1]; exact ((((YF.rf M).set _ _).set _ _).set _ _).set _ _
    have t1 : tiltY M1 E a b c d := by
      rw [← hM1]
      refine ⟨?_, ?_, ?_⟩
      · rw [setI_nk (by decide), setI_nk (by decide), setI_nk (by decide), setI_eq]
      · rw [setI_nk (by decide), setI_nk (by decide), setI_eq]
      · rw [setI_nk (by decide), setI_eq]
    have f14 : M1.1 0 14 = bz true := by rw [← hM1, setI_eq]; rfl
    have f19 : M1.1 0 19 = M.1 0 19 := by rw [← hM1, setI_nk (by decide), setI_nk (by decide), setI_nk (by decide), setI_nk (by decide)]
    obtain ⟨M2, g1, g2, g3⟩ := lowest_eq (j := 0) (o := 0) (k1 := a) (k2 := b) hN no0 (hY.of f1).e0 t1 (by omega) hb f14
    rw [Nat.zero_add, Nat.zero_add, ← i0] at g1
    rw [g1]
    simp only [ob_some]
    obtain ⟨M3, k1, k2, k3⟩ := lowest_eq (j := 1) (o := 8) (k1 := c) (k2 := d) hN no1 (hY.of (f1.tr g2.1)).e1 (t1.of g2) (by omega) hd g3
    rw [← i1] at k1
    rw [k1]
    simp only [ob_some, ifb, okZM_0, okZM_1]
    refine ⟨M3, ?_, (f1.tr g2.1).tr k2.1, ?_, ?_, ?_⟩
    · simp only [isCl, hz, decide_false, Bool.not_false, Bool.true_and]
      generalize allB (fun t => decide (lev E a b c d 1 a ≤ lev E a b c d 1 t)) n0 = p
      generalize allB (fun t => decide (lev E a b c d 6 c ≤ lev E a b c d 6 t)) n1 = q
      cases p <;> cases q <;> simp [bz]
    · rw [k2.2 11 (by decide), g2.2 11 (by decide)]; exact t1.1
    · rw [k2.2 19 (by decide), g2.2 19 (by decide)]; exact f19
    · intro _
      rw [k3]
      congr 1
      have r0 := crowd_iff (p := fun t => decide (lev E a b c d 1 t = lev E a b c d 1 a)) hab hb (by simp) (by simp [lev_b])
      have r1 := crowd_iff (p := fun t => decide (lev E a b c d 6 t = lev E a b c d 6 c)) hcd hd (by simp) (by simp [lev_d])
      show _ = !(decide (2 < cntB (fun t => decide (lev E a b c d 1 t = lev E a b c d 1 a)) n0) || decide (2 < cntB (fun t => decide (lev E a b c d 6 t = lev E a b c d 6 c)) n1))
      rw [r0, r1, Bool.true_and, Bool.not_or, Bool.not_not, Bool.not_not]

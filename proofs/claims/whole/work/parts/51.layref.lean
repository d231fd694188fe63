/-! laying the terms of a face along its way: the reference -/
def flr (a b : Int) : Int := if 0 ≤ b then a / b else (-a) / (-b)
theorem floor_fin : ((List.range 7).all fun a => (List.range 25).all fun b => decide (b = 12) || (decide (fX6_floorOf (iI (a : Int)) (iI ((b : Int) - 12)) = some (iI (flr (a : Int) ((b : Int) - 12)))) && (decide (-6 ≤ flr (a : Int) ((b : Int) - 12)) && decide (flr (a : Int) ((b : Int) - 12) ≤ 6)))) = true := by decide +kernel
theorem floor_at {a b : Int} (ha : 0 ≤ a ∧ a ≤ 6) (hb : -12 ≤ b ∧ b ≤ 12) (h0 : b ≠ 0) : fX6_floorOf (iI a) (iI b) = some (iI (flr a b)) ∧ -6 ≤ flr a b ∧ flr a b ≤ 6 := by
  have q1 := List.all_eq_true.mp floor_fin a.toNat (List.mem_range.mpr (by omega))
  have q2 := List.all_eq_true.mp q1 (b + 12).toNat (List.mem_range.mpr (by omega))
  have e1 : ((a.toNat : Nat) : Int) = a := by omega
  have e2 : (((b + 12).toNat : Nat) : Int) - 12 = b := by omega
  rw [e1, e2] at q2
  simp only [Bool.or_eq_true, Bool.and_eq_true, decide_eq_true_eq] at q2
  rcases q2 with w | w
  · omega
  · exact w
def stp (E : Nat → Nat → Int32) (bs : Nat) (a b : Int) (s : Nat) : Int := if a = 0 then flr (E (bs + 2) s).toInt b else flr (E (bs + 1) s).toInt a
theorem stp_bd {E : Nat → Nat → Int32} {bs n s : Nat} {a b : Int} (hok : okN E bs n) (hs : s < n) (ha : -12 ≤ a ∧ a ≤ 12) (hb : -12 ≤ b ∧ b ≤ 12) (h0 : a ≠ 0 ∨ b ≠ 0) : -6 ≤ stp E bs a b s ∧ stp E bs a b s ≤ 6 := by
  have q := hok.2 s hs
  unfold stp
  by_cases c : a = 0
  · rw [if_pos c]; exact (floor_at q.2.1 hb (by omega)).2
  · rw [if_neg c]; exact (floor_at q.1 ha c).2
theorem stepOf_eq {M : Mem} {E : Nat → Nat → Int32} {bs o j n s : Nat} {a b : Int} (hno : eqNo bs o j) (hM : ∀ t, t < n → M.1 1 (o + t) = E (bs + 1) t ∧ M.1 2 (o + t) = E (bs + 2) t) (hok : okN E bs n) (hs : s < n) (ha : -12 ≤ a ∧ a ≤ 12) (hb : -12 ≤ b ∧ b ≤ 12) (h0 : a ≠ 0 ∨ b ≠ 0) : fX6_stepOf M ((8 : Int32) * nI j + nI s) (iI a) (iI b) = some (iI (stp E bs a b s)) := by
  have n8 := hok.1
  have q := hok.2 s hs
  have m := hM s hs
  have jj := hno.j
  have oo := hno.o
  unfold fX6_stepOf stp
  rw [e8, ldI_n (by omega) (by decide), ldI_n (by omega) (by decide), ← oo, m.1, m.2, if_ieq0 (by unfold sml; omega)]
  simp only [ob_some]
  by_cases c : a = 0
  · rw [if_pos c, if_pos c]
    have w := (floor_at q.2.1 hb (by omega)).1
    rw [iI_of] at w
    rw [w]; rfl
  · rw [if_neg c, if_neg c]
    have w := (floor_at q.1 ha c).1
    rw [iI_of] at w
    rw [w]; rfl
theorem cntB_len (F : Nat → Bool) : ∀ n, cntB F n ≤ n := by
  intro n
  induction n with
  | zero => exact Nat.le_refl _
  | succ n ih =>
    show cntB F n + (if F n then 1 else 0) ≤ n + 1
    split <;> omega
theorem ifb1 {α : Type} (p : Bool) (a b : α) : (if bz p = 1 then a else b) = if p then a else b := by cases p <;> simp [bz]
theorem lay40 {N : Nat} {M : Mem} {E : Nat → Nat → Int32} {bs o j n B : Nat} {a b : Int} (hN : 10 ≤ N) (hno : eqNo bs o j) (hn : M.1 5 j = nI n) (hM : ∀ t, t < n → M.1 1 (o + t) = E (bs + 1) t ∧ M.1 2 (o + t) = E (bs + 2) t) (hok : okN E bs n) (ha : -12 ≤ a ∧ a ≤ 12) (hb : -12 ≤ b ∧ b ≤ 12) (h0 : a ≠ 0 ∨ b ≠ 0) (hB : B < 256) : lp (fun _ _ _ => none) (sX6_lay_40 M (nI j) (nI B) (iI a) (iI b)) N (1000 : Int32) (0 : Int32) (0 : Int32) = some (iI (rmin (fun s => B.testBit s) (stp E bs a b) 1000 n), nI (cntB (fun s => B.testBit s) n)) := by
  have hn8 := hok.1
  have key := lp_rule (bot := fun _ _ _ => none) (step := sX6_lay_40 M (nI j) (nI B) (iI a) (iI b)) (fun w fc => ∀ k, k ≤ n → n - k < w → fc (iI (rmin (fun s => B.testBit s) (stp E bs a b) 1000 k)) (nI (cntB (fun s => B.testBit s) k)) (nI k) = some (iI (rmin (fun s => B.testBit s) (stp E bs a b) 1000 n), nI (cntB (fun s => B.testBit s) n))) (fun k _ h => by omega) (by
    intro w fc hc k hk hw
    unfold sX6_lay_40
    rw [ldI_n hno.j (by decide), hn]
    simp only [ob_some]
    rw [if_nle (by omega) (by omega), nI_1, nI_1]
    by_cases e : n ≤ k
    · rw [if_pos e]
      have : k = n := by omega
      subst this
      rfl
    · rw [if_neg e, bit_at hB (by omega), ifb1, stepOf_eq hno hM hok (show k < n by omega) ha hb h0]
      simp only [ob_some]
      have nx := hc (k + 1) (by omega) (by omega)
      have su : rmin (fun s => B.testBit s) (stp E bs a b) 1000 (k + 1) = if B.testBit k then (if stp E bs a b k < rmin (fun s => B.testBit s) (stp E bs a b) 1000 k then stp E bs a b k else rmin (fun s => B.testBit s) (stp E bs a b) 1000 k) else rmin (fun s => B.testBit s) (stp E bs a b) 1000 k := rfl
      have cu : cntB (fun s => B.testBit s) (k + 1) = (if B.testBit k then cntB (fun s => B.testBit s) k + 1 else cntB (fun s => B.testBit s) k) := by
        show cntB (fun s => B.testBit s) k + (if B.testBit k then 1 else 0) = _
        split <;> rfl
      cases hF : B.testBit k with
      | false =>
        rw [hF] at su cu
        have su2 : rmin (fun s => B.testBit s) (stp E bs a b) 1000 (k + 1) = rmin (fun s => B.testBit s) (stp E bs a b) 1000 k := su
        have cu2 : cntB (fun s => B.testBit s) (k + 1) = cntB (fun s => B.testBit s) k := cu
        rw [su2, cu2] at nx
        simp only [Bool.false_eq_true, if_false, ob_some]
        exact nx
      | true =>
        rw [hF] at su cu
        have su2 : rmin (fun s => B.testBit s) (stp E bs a b) 1000 (k + 1) = if stp E bs a b k < rmin (fun s => B.testBit s) (stp E bs a b) 1000 k then stp E bs a b k else rmin (fun s => B.testBit s) (stp E bs a b) 1000 k := su
        have cu2 : cntB (fun s => B.testBit s) (k + 1) = cntB (fun s => B.testBit s) k + 1 := cu
        rw [su2, cu2] at nx
        simp only [if_true, ob_some]
        have b1 := stp_bd hok (show k < n by omega) ha hb h0
        have b2 : -1000 ≤ rmin (fun s => B.testBit s) (stp E bs a b) 1000 k ∧ rmin (fun s => B.testBit s) (stp E bs a b) 1000 k ≤ 1000 := rmin_bd (by omega) (n := n) (fun s hs => by have := stp_bd hok hs ha hb h0; omega) k hk
        rw [if_ile (by unfold sml; omega) (by unfold sml; omega)]
        by_cases c : stp E bs a b k < rmin (fun s => B.testBit s) (stp E bs a b) 1000 k
        · rw [if_neg (by omega)]
          rw [if_pos c] at nx
          simp only [ob_some]
          exact nx
        · rw [if_pos (by omega)]
          rw [if_neg c] at nx
          simp only [ob_some]
          exact nx) N 0 (by omega) (by omega)
  exact key
theorem e70 (w : Nat) : (7 : Int32) * nI w = nI (7 * w) := by
  rw [nI_iI, nI_iI, show (7 : Int32) = iI 7 by decide, iI_mul]
  congr 1
theorem lay114 {N : Nat} {M : Mem} {j : Nat} (hN : 10 ≤ N) (hj : j < 2) : ∃ M2, lp (fun _ _ => none) (sX6_lay_114 (nI j)) N ((7 : Int32) * nI j) M = some M2 ∧ (∀ k, k < 7 → M2.2 10 (7 * j + k) = jI 0) ∧ (∀ k, k < 7 → M2.2 10 (7 * (1 - j) + k) = M.2 10 (7 * (1 - j) + k)) ∧ M2.1 = M.1 := by
  have key := lp_rule (bot := fun _ _ => none) (step := sX6_lay_114 (nI j)) (fun w fc => ∀ (k : Nat) (M4 : Mem), k ≤ 7 → 7 - k < w → (∀ t, t < k → M4.2 10 (7 * j + t) = jI 0) → (∀ k, k < 7 → M4.2 10 (7 * (1 - j) + k) = M.2 10 (7 * (1 - j) + k)) → M4.1 = M.1 → ∃ M2, fc (nI (7 * j + k)) M4 = some M2 ∧ (∀ k, k < 7 → M2.2 10 (7 * j + k) = jI 0) ∧ (∀ k, k < 7 → M2.2 10 (7 * (1 - j) + k) = M.2 10 (7 * (1 - j) + k)) ∧ M2.1 = M.1) (fun k M4 _ h => by omega) (by
    intro w fc hc k M4 hk hw m1 m2 m3
    unfold sX6_lay_114
    have e77 : (7 : Int32) * nI j + (7 : Int32) = nI (7 * j + 7) := e7 (t := 7)
    rw [e77, if_nle (by omega) (by omega), nI_1]
    by_cases e : 7 * j + 7 ≤ 7 * j + k
    · rw [if_pos e]
      exact ⟨M4, rfl, fun t ht => m1 t (by omega), m2, m3⟩
    · rw [if_neg e, stL_n (by omega) (by decide)]
      simp only [ob_some]
      refine hc (k + 1) _ (by omega) (by omega) (fun t ht => ?_) (fun t ht => by rw [setL_nk (by omega)]; exact m2 t ht) m3
      by_cases q : t = k
      · subst q; rw [setL_eq]; rfl
      · rw [setL_nk (by omega)]; exact m1 t (by omega)) N 0 M (by omega) (by omega) (fun t ht => by omega) (fun _ _ => rfl) rfl
  rw [e70]
  exact key
def dm (tau : Nat → Nat) (F : Nat → Bool) : Nat → Nat
  | 0 => 0
  | k + 1 => if F k then (if tau k ≤ dm tau F k then dm tau F k else tau k) else dm tau F k
theorem dm_bd {tau : Nat → Nat} {F : Nat → Bool} {n : Nat} (h : ∀ s, s < n → F s = true → tau s ≤ 6) : ∀ k, k ≤ n → dm tau F k ≤ 6 := by
  intro k
  induction k with
  | zero => intro _; show 0 ≤ 6; omega
  | succ k ih =>
    intro hk
    have := ih (by omega)
    show (if F k then (if tau k ≤ dm tau F k then dm tau F k else tau k) else dm tau F k) ≤ 6
    split
    · rename_i c
      have := h k (by omega) c
      split <;> omega
    · omega
def cY (E : Nat → Nat → Int32) (bs p s : Nat) : Int := if 0 ≤ (E (bs + 3) s).toInt then (E (bs + 3) s).toInt else (E (bs + 3) s).toInt + p
theorem layY {N : Nat} {M : Mem} {E : Nat → Nat → Int32} {bs o j n B p : Nat} {P Q a b g : Int} {tau : Nat → Nat} (hN : 10 ≤ N) (hno : eqNo bs o j) (hn : M.1 5 j = nI n) (hM : ∀ t, t < n → M.1 1 (o + t) = E (bs + 1) t ∧ M.1 2 (o + t) = E (bs + 2) t ∧ M.1 3 (o + t) = E (bs + 3) t) (hok : okN E bs n) (ha : -12 ≤ a ∧ a ≤ 12) (hb : -12 ≤ b ∧ b ≤ 12) (h0 : a ≠ 0 ∨ b ≠ 0) (hB : B < 256) (hg : fX6_common N (iI P) (iI Q) = some (iI g)) (dA : dvI (-iI Q) (iI g) = some (iI a)) (dB : dvI (iI P) (iI g) = some (iI b)) (hF : fX6_faceOf N M (nI j) (iI P) (iI Q) = some (nI B)) (hL : -1000 ≤ rmin (fun s => B.testBit s) (stp E bs a b) 1000 n ∧ rmin (fun s => B.testBit s) (stp E bs a b) 1000 n ≤ 1000) (ht : ∀ s, s < n → B.testBit s = true → tau s ≤ 6 ∧ stp E bs a b s - rmin (fun s => B.testBit s) (stp E bs a b) 1000 n = (tau s : Int)) : ∃ M2, fX6_lay N M (nI j) (iI P) (iI Q) (jI p) = some (bz (decide (1 < cntB (fun s => B.testBit s) n)), M2) ∧ (∀ k, k < 7 → M2.2 10 (7 * j + k) = jI (ly tau (fun s => B.testBit s) (cY E bs p) n k)) ∧ (∀ k, k < 7 → M2.2 10 (7 * (1 - j) + k) = M.2 10 (7 * (1 - j) + k)) ∧ M2.1 11 j = nI (dm tau (fun s => B.testBit s) n) ∧ M2.1 11 (1 - j) = M.1 11 (1 - j) ∧ ∀ c, c ≠ 11 → M2.1 c = M.1 c := by
  have hn8 := hok.1
  have jj := hno.j
  have oo := hno.o
  have hM2 : ∀ t, t < n → M.1 1 (o + t) = E (bs + 1) t ∧ M.1 2 (o + t) = E (bs + 2) t := fun t ht => ⟨(hM t ht).1, (hM t ht).2.1⟩
  obtain ⟨M1, c1, c2, c3, c4⟩ := lay114 (N := N) (M := M) (j := j) hN jj
  unfold fX6_lay
  rw [hg]
  simp only [ob_some]
  rw [dA, dB, hF]
  simp only [ob_some]
  rw [lay40 hN hno hn hM2 hok ha hb h0 hB]
  simp only [ob_some]
  rw [c1]
  simp only [ob_some]
  rw [stI_n jj (by decide)]
  simp only [ob_some]
  generalize hLL : rmin (fun s => B.testBit s) (stp E bs a b) 1000 n = L at hL ht ⊢
  have key := lp_rule (bot := fun _ _ => none) (step := sX6_lay_150 (nI j) (nI B) (iI a) (iI b) (jI p) (iI L)) (fun w fc => ∀ (k : Nat) (M4 : Mem), k ≤ n → n - k < w → (∀ t, t < 7 → M4.2 10 (7 * j + t) = jI (ly tau (fun s => B.testBit s) (cY E bs p) k t)) → (∀ k, k < 7 → M4.2 10 (7 * (1 - j) + k) = M.2 10 (7 * (1 - j) + k)) → M4.1 11 j = nI (dm tau (fun s => B.testBit s) k) → M4.1 11 (1 - j) = M.1 11 (1 - j) → (∀ c, c ≠ 11 → M4.1 c = M.1 c) → ∃ M2, fc (nI k) M4 = some M2 ∧ (∀ k, k < 7 → M2.2 10 (7 * j + k) = jI (ly tau (fun s => B.testBit s) (cY E bs p) n k)) ∧ (∀ k, k < 7 → M2.2 10 (7 * (1 - j) + k) = M.2 10 (7 * (1 - j) + k)) ∧ M2.1 11 j = nI (dm tau (fun s => B.testBit s) n) ∧ M2.1 11 (1 - j) = M.1 11 (1 - j) ∧ ∀ c, c ≠ 11 → M2.1 c = M.1 c) (fun k M4 _ h => by omega) (by
    intro w fc hc k M4 hk hw r1 r2 r3 r4 r5
    unfold sX6_lay_150
    rw [ldI_n jj (by decide), r5 5 (by decide), hn]
    simp only [ob_some]
    rw [if_nle (by omega) (by omega)]
    by_cases e : n ≤ k
    · rw [if_pos e]
      have : k = n := by omega
      subst this
      exact ⟨M4, rfl, r1, r2, r3, r4, r5⟩
    · rw [if_neg e, bit_at hB (by omega), ifb1]
      have hM4 : ∀ t, t < n → M4.1 1 (o + t) = E (bs + 1) t ∧ M4.1 2 (o + t) = E (bs + 2) t := fun t ht => by
        rw [r5 1 (by decide), r5 2 (by decide)]; exact hM2 t ht
      rw [stepOf_eq hno hM4 hok (show k < n by omega) ha hb h0]
      have l3 : ldI M4 3 16 ((8 : Int32) * nI j + nI k) = some (E (bs + 3) k) := by
        rw [e8, ldI_n (by omega) (by decide), r5 3 (by decide), ← oo, (hM k (by omega)).2.2]
      rw [l3]
      simp only [ob_some]
      have cv : (if 0 ≤ E (bs + 3) k then some (Int32.toInt64 (E (bs + 3) k)) else some (Int32.toInt64 (E (bs + 3) k) + jI p)) = some (jI (cY E bs p k)) := by
        unfold cY
        rw [to64, jI_add]
        have q : (0 : Int32) ≤ E (bs + 3) k ↔ 0 ≤ (E (bs + 3) k).toInt := by rw [i_le]; rfl
        by_cases c : 0 ≤ (E (bs + 3) k).toInt
        · rw [if_pos (q.mpr c), if_pos c]
        · rw [if_neg (fun z => c (q.mp z)), if_neg c]
      rw [cv]
      simp only [ob_some]
      have su : ∀ t, ly tau (fun s => B.testBit s) (cY E bs p) (k + 1) t = if B.testBit k = true ∧ tau k = t then cY E bs p k else ly tau (fun s => B.testBit s) (cY E bs p) k t := fun t => rfl
      have du : dm tau (fun s => B.testBit s) (k + 1) = if B.testBit k then (if tau k ≤ dm tau (fun s => B.testBit s) k then dm tau (fun s => B.testBit s) k else tau k) else dm tau (fun s => B.testBit s) k := rfl
      have db : dm tau (fun s => B.testBit s) k ≤ 6 := dm_bd (n := n) (fun s hs hs2 => (ht s hs hs2).1) k hk
      rw [nI_1]
      cases hFk : B.testBit k with
      | false =>
        rw [hFk] at du
        simp only [Bool.false_eq_true, if_false, ob_some]
        refine hc (k + 1) _ (by omega) (by omega) (fun t ht => ?_) r2 (by rw [r3]; exact congrArg nI du.symm) r4 r5
        rw [su, hFk, if_neg (fun q => absurd q.1 (by decide))]
        exact r1 t ht
      | true =>
        rw [hFk] at du
        obtain ⟨t1, t2⟩ := ht k (by omega) hFk
        simp only [if_true]
        rw [iI_sub, t2, ← nI_iI, e7, stL_n (by omega) (by decide)]
        simp only [ob_some]
        have d1 : ldI (setL M4 10 (7 * j + tau k) (jI (cY E bs p k))) 11 2 (nI j) = some (nI (dm tau (fun s => B.testBit s) k)) := by
          rw [ldI_n jj (by decide), setL_I, r3]
        rw [d1]
        simp only [ob_some]
        rw [if_nle (by omega) (by omega)]
        have du2 : dm tau (fun s => B.testBit s) (k + 1) = if tau k ≤ dm tau (fun s => B.testBit s) k then dm tau (fun s => B.testBit s) k else tau k := du
        have mx : (if tau k ≤ dm tau (fun s => B.testBit s) k then some (nI (dm tau (fun s => B.testBit s) k)) else some (nI (tau k))) = some (nI (dm tau (fun s => B.testBit s) (k + 1))) := by
          rw [du2]; split <;> rfl
        rw [mx]
        simp only [ob_some]
        rw [stI_n jj (by decide)]
        simp only [ob_some]
        refine hc (k + 1) _ (by omega) (by omega) (fun t ht => ?_) (fun t ht => ?_) (setI_eq _ _ _ _) ?_ (fun c hc => ?_)
        · rw [setI_L, su, hFk]
          by_cases q : t = tau k
          · subst q
            rw [setL_eq, if_pos ⟨rfl, rfl⟩]
          · rw [setL_nk (by omega), if_neg (fun z => q z.2.symm)]
            exact r1 t ht
        · rw [setI_L, setL_nk (by omega)]
          exact r2 t ht
        · rw [setI_nk (by omega), setL_I]; exact r4
        · rw [setI_ne hc, setL_I]; exact r5 c hc) N 0 (setI M1 11 j 0) (by omega) (by omega) c2 c3 (setI_eq _ _ _ _) (by rw [setI_nk (by omega), c4]) (fun c hc => by rw [setI_ne hc, c4])
  obtain ⟨M2, k1, k2⟩ := key
  refine ⟨M2, ?_, k2⟩
  rw [show (0 : Int32) = nI 0 from rfl] at *
  rw [k1]
  simp only [ob_some]
  have cb := cntB_len (fun s => B.testBit s) n
  rw [i1, if_nle (by omega) (by omega), show nI 0 = (0 : Int32) from rfl, ← i1, okZM_0, okZM_1]
  by_cases c : cntB (fun s => B.testBit s) n ≤ 1
  · rw [if_pos c, decide_eq_false (by omega)]; rfl
  · rw [if_neg c, decide_eq_true (by omega)]; rfl

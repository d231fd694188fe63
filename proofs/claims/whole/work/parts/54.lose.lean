/-! promise 14 -/
def FX (E : Nat → Nat → Int32) (bs n : Nat) : Prop := okN E bs n ∧ (∀ s, s < n → (E (bs + 3) s).toInt ≠ 0 ∧ -20 ≤ (E (bs + 3) s).toInt ∧ (E (bs + 3) s).toInt ≤ 20) ∧ (∀ t u, t < n → u < n → E (bs + 1) t = E (bs + 1) u → E (bs + 2) t = E (bs + 2) u → t = u)
theorem FX.of {X Y : Mem} {b o j n : Nat} (h : EqR X Y b o j n) : FX X.1 b n := ⟨okN.of h, fun s hs => (h.2.2.2.2.1 s hs).2.2.1, h.2.2.2.2.2⟩
def rwf (E : Nat → Nat → Int32) (bs n B : Nat) (tau : Nat → Nat) : Nat → Int := ly tau (fun s => B.testBit s) (fun s => (E (bs + 3) s).toInt) n
def cnf (B n : Nat) : Nat := cntB (fun s => B.testBit s) n
def pk (k : Nat) : Nat := if k = 0 then 1000000007 else if k = 1 then 1000000009 else 998244353
theorem pk_ok (k : Nat) : Pr (pk k) ∧ pk k ≤ 1000000009 ∧ 20 < pk k := by
  unfold pk
  split
  · exact ⟨pr_c0, by decide, by decide⟩
  · split
    · exact ⟨pr_c1, by decide, by decide⟩
    · exact ⟨pr_c2, by decide, by decide⟩
theorem ldP_k {k : Nat} (h : k < 3) : ldP (nI k) = some (jI (pk k)) := by
  have : k = 0 ∨ k = 1 ∨ k = 2 := by omega
  rcases this with rfl | rfl | rfl <;> decide
theorem ways {P Q : Int} (hd : dirOK P Q) : dvI (-iI Q) (iI (gg P Q)) = some (iI (wya P Q)) ∧ dvI (iI P) (iI (gg P Q)) = some (iI (wyb P Q)) := by
  obtain ⟨g1, g2, -⟩ := way_ok hd
  obtain ⟨h1, h2, -⟩ := hd
  constructor
  · rw [iI_neg, dvI_eq (by omega) (by omega) (by omega) (by omega)]; rfl
  · rw [dvI_eq (by omega) (by omega) (by omega) (by omega)]; rfl
theorem way_ne {P Q : Int} (hd : dirOK P Q) : wya P Q ≠ 0 ∨ wyb P Q ≠ 0 := by
  obtain ⟨-, -, -, -, -, -, -, -, hg⟩ := way_ok hd
  rcases Classical.em (wya P Q = 0) with w | w
  · right
    intro q
    rw [w, q] at hg
    exact absurd hg (by decide)
  · exact Or.inl w
theorem shareRoot_eq {N : Nat} {M : Mem} {E : Nat → Nat → Int32} {n0 n1 B0 B1 : Nat} {P Q : Int} {tau0 tau1 : Nat → Nat} (hN : 40 ≤ N) (hX : XQ M E n0 n1) (f0 : FX E 1 n0) (f1 : FX E 6 n1) (hd : dirOK P Q) (hB0 : ∀ s, B0.testBit s = isF (vv E 1 P Q) n0 s) (hB1 : ∀ s, B1.testBit s = isF (vv E 6 P Q) n1 s) (b0 : B0 < 256) (b1 : B1 < 256) (t0 : TauOK E 1 n0 P Q B0 tau0) (t1 : TauOK E 6 n1 P Q B1 tau1) : ∃ (r : Bool) (M2 : Mem), fX2_shareRoot N M 1 6 (iI P) (iI Q) = some (bz r, M2) ∧ M2.1 = M.1 ∧ (r = true → (2 ≤ cnf B0 n0 ∧ 2 ≤ cnf B1 n1) ∧ ∀ k, k < 3 → YesP (pk k) (rwf E 1 n0 B0 tau0) (rwf E 6 n1 B1 tau1)) ∧ (r = false → 2 ≤ cnf B0 n0 → 2 ≤ cnf B1 n1 → ∃ k, NoP (pk k) (rwf E 1 n0 B0 tau0) (rwf E 6 n1 B1 tau1)) := by
  obtain ⟨hE, e0, e1, ok0, ok1⟩ := hX
  have n08 := ok0.1
  have n18 := ok1.1
  have hn0 : M.1 1 4 = nI n0 := by rw [hE 1 (by decide) (by decide)]; exact e0
  have hn1 : M.1 6 4 = nI n1 := by rw [hE 6 (by decide) (by decide)]; exact e1
  obtain ⟨B0', x1, x2, x3⟩ := bits_eq (N := N) (M := M) (E := E) (bs := 1) (by omega) (Or.inl rfl) hE hn0 ok0 hd.1 hd.2.1
  obtain ⟨B1', y1, y2, y3⟩ := bits_eq (N := N) (M := M) (E := E) (bs := 6) (by omega) (Or.inr rfl) hE hn1 ok1 hd.1 hd.2.1
  have u0 : B0' = B0 := bits_uniq x3 hB0
  have u1 : B1' = B1 := bits_uniq y3 hB1
  subst u0
  subst u1
  obtain ⟨g1, g2, -, -, a1, a2, c1, c2, -⟩ := way_ok hd
  obtain ⟨w1, w2⟩ := ways hd
  have hD := dd_pos (way_ne hd)
  have p0 : popc B0' = cnf B0' n0 := cnt_tail 8 n08 (fun s hs => by
    show B0'.testBit s = false
    rw [hB0 s]
    cases q : isF (vv E 1 P Q) n0 s with
    | false => rfl
    | true => have := (isF_iff.mp q).1; omega)
  have p1 : popc B1' = cnf B1' n1 := cnt_tail 8 n18 (fun s hs => by
    show B1'.testBit s = false
    rw [hB1 s]
    cases q : isF (vv E 6 P Q) n1 s with
    | false => rfl
    | true => have := (isF_iff.mp q).1; omega)
  have l0 : cnf B0' n0 ≤ n0 := cntB_len (fun s => B0'.testBit s) n0
  have l1 : cnf B1' n1 ≤ n1 := cntB_len (fun s => B1'.testBit s) n1
  unfold fX2_shareRoot
  rw [x1, y1, common_eq (by omega) hd.1 hd.2.1]
  simp only [ob_some]
  rw [if_ieq0 (by unfold sml; omega), if_neg (by omega), pop_at b0, pop_at b1, p0, p1]
  simp only [ob_some]
  rw [show (2 : Int32) = nI 2 from rfl, if_nlt (by omega) (by omega), if_nle (by omega) (by omega), okZM_0]
  by_cases k0 : cnf B0' n0 < 2
  · rw [if_pos k0]
    exact ⟨false, M, rfl, rfl, fun q => absurd q (by decide), fun _ q => by omega⟩
  · rw [if_neg k0]
    by_cases k1 : 2 ≤ cnf B1' n1
    · rw [if_pos k1]
      have r0 : RowOK (rwf E 1 n0 B0' tau0) (dm tau0 (fun s => B0'.testBit s) n0) := row_ok t0 f0.2.1 f0.2.2 (by show 2 ≤ cnf B0' n0; omega)
      have r1 : RowOK (rwf E 6 n1 B1' tau1) (dm tau1 (fun s => B1'.testBit s) n1) := row_ok t1 f1.2.1 f1.2.2 k1
      have key := lp_rule (bot := fun _ _ => none) (step := sX2_shareRoot_66 (iI Q) (iI (gg P Q)) (iI P) N 1 (nI B0') 6 (nI B1')) (fun w fc => ∀ (k : Nat) (M7 : Mem), k ≤ 3 → 3 - k < w → M7.1 = M.1 → (∀ i, i < k → YesP (pk i) (rwf E 1 n0 B0' tau0) (rwf E 6 n1 B1' tau1)) → ∃ (r : Bool) (M2 : Mem), fc (nI k) M7 = some (bz r, M2) ∧ M2.1 = M.1 ∧ (r = true → (2 ≤ cnf B0' n0 ∧ 2 ≤ cnf B1' n1) ∧ ∀ k, k < 3 → YesP (pk k) (rwf E 1 n0 B0' tau0) (rwf E 6 n1 B1' tau1)) ∧ (r = false → 2 ≤ cnf B0' n0 → 2 ≤ cnf B1' n1 → ∃ k, NoP (pk k) (rwf E 1 n0 B0' tau0) (rwf E 6 n1 B1' tau1))) (fun k M7 _ h => by omega) (by
        intro w fc hc k M7 hk hw m0 hy
        unfold sX2_shareRoot_66
        rw [show (3 : Int32) = nI 3 from rfl, if_nle (by omega) (by omega), nI_1]
        by_cases e : 3 ≤ k
        · rw [if_pos e, okZM_1]
          exact ⟨true, M7, rfl, m0, fun _ => ⟨⟨by omega, k1⟩, fun i hi => hy i (by omega)⟩, fun q => absurd q (by decide)⟩
        · rw [if_neg e, ldP_k (by omega), w1, w2]
          simp only [ob_some]
          have hE7 : ∀ k, 1 ≤ k → k ≤ 10 → M7.1 k = E k := fun k a b => by rw [m0]; exact hE k a b
          obtain ⟨M11, q1, q2, q3, q4⟩ := layX (N := N) (M := M7) (a5 := 19) (tau := tau0) (by omega) (Or.inl rfl) hE7 (by rw [m0]; exact hn0) ok0 ⟨a1, a2⟩ ⟨c1, c2⟩ b0 hD t0.1 (fun s hs hs2 => ⟨(t0.2.2.1 s hs hs2).1, (t0.2.2.1 s hs hs2).2.1⟩)
          rw [q1]
          simp only [ob_some]
          have hE11 : ∀ k, 1 ≤ k → k ≤ 10 → M11.1 k = E k := fun k a b => by rw [q4]; exact hE7 k a b
          obtain ⟨M14, s1, s2, s3, s4⟩ := layX (N := N) (M := M11) (a5 := 20) (tau := tau1) (by omega) (Or.inr rfl) hE11 (by rw [q4, m0]; exact hn1) ok1 ⟨a1, a2⟩ ⟨c1, c2⟩ b1 hD t1.1 (fun s hs hs2 => ⟨(t1.2.2.1 s hs hs2).1, (t1.2.2.1 s hs hs2).2.1⟩)
          rw [s1]
          simp only [ob_some]
          obtain ⟨pp, p9, p20⟩ := pk_ok k
          have rc0 : RowC M14 19 (rwf E 1 n0 B0' tau0) (pk k) := ⟨fun n hn => by rw [s3 19 (by decide)]; exact q2 n hn, fun n hn => r0.2.2.2.1 n (by have := r0.2.1; omega), fun n => by have := r0.2.2.2.2 n; omega⟩
          have rc1 : RowC M14 20 (rwf E 6 n1 B1' tau1) (pk k) := ⟨s2, fun n hn => r1.2.2.2.1 n (by have := r1.2.1; omega), fun n => by have := r1.2.2.2.2 n; omega⟩
          obtain ⟨r, M17, z1, z2, z3, z4⟩ := share_eq (N := N) (by omega) pp p9 rc0 rc1 r0.2.2.1
          rw [z1]
          simp only [ob_some, ifb]
          have mm : M17.1 = M.1 := by rw [z2, s4, q4, m0]
          cases r with
          | false =>
            simp only [Bool.false_eq_true, if_false]
            rw [okZM_0]
            exact ⟨false, M17, rfl, mm, fun q => absurd q (by decide), fun _ _ _ => ⟨k, z4 rfl⟩⟩
          | true =>
            simp only [if_true]
            exact hc (k + 1) M17 (by omega) (by omega) mm (fun i hi => by
              rcases Nat.lt_or_ge i k with u | u
              · exact hy i u
              · have : i = k := by omega
                rw [this]; exact z3 rfl)) N 0 M (by omega) (by omega) rfl (fun i hi => by omega)
      exact key
    · rw [if_neg k1]
      exact ⟨false, M, rfl, rfl, fun q => absurd q (by decide), fun _ _ q => by omega⟩
theorem meet_eq {N : Nat} {M : Mem} {E : Nat → Nat → Int32} {n0 n1 B0 B1 p : Nat} {P Q : Int} {tau0 tau1 : Nat → Nat} (hN : 50 ≤ N) (hP : Pr p) (hp : p ≤ 2147483648) (hp20 : 20 < p) (hY : YQ M E n0 n1) (f0 : FX E 1 n0) (f1 : FX E 6 n1) (hd : dirOK P Q) (hB0 : ∀ s, B0.testBit s = isF (vv E 1 P Q) n0 s) (hB1 : ∀ s, B1.testBit s = isF (vv E 6 P Q) n1 s) (b0 : B0 < 256) (b1 : B1 < 256) (t0 : TauOK E 1 n0 P Q B0 tau0) (t1 : TauOK E 6 n1 P Q B1 tau1) : ∃ (r : Bool) (M2 : Mem), fX6_meet N M (iI P) (iI Q) (jI p) = some (bz r, M2) ∧ (∀ c, c ≠ 11 → M2.1 c = M.1 c) ∧ (r = true → (2 ≤ cnf B0 n0 ∧ 2 ≤ cnf B1 n1) ∧ YesP p (rwf E 1 n0 B0 tau0) (rwf E 6 n1 B1 tau1)) ∧ (r = false → 2 ≤ cnf B0 n0 → 2 ≤ cnf B1 n1 → NoP p (rwf E 1 n0 B0 tau0) (rwf E 6 n1 B1 tau1)) := by
  obtain ⟨ok0, -, -⟩ := id f0
  obtain ⟨ok1, -, -⟩ := id f1
  obtain ⟨g1, g2, -, -, a1, a2, c1, c2, -⟩ := way_ok hd
  obtain ⟨w1, w2⟩ := ways hd
  have hg := commonY_eq (N := N) (by omega) hd.1 hd.2.1
  obtain ⟨B0', x1, x2, x3⟩ := faceY_eq (N := N) (M := M) (E := E) (by omega) no0 hY.1.1 (fun t ht => ⟨(hY.1.2 t ht).1, (hY.1.2 t ht).2.1⟩) ok0 hd.1 hd.2.1
  have u0 : B0' = B0 := bits_uniq x3 hB0
  subst u0
  obtain ⟨M1, q1, q2, q3, q4, q5, q6⟩ := layY (N := N) (p := p) (tau := tau0) (by omega) no0 hY.1.1 hY.1.2 ok0 ⟨a1, a2⟩ ⟨c1, c2⟩ (way_ne hd) b0 hg w1 w2 x1 t0.2.1 (fun s hs hs2 => ⟨(t0.2.2.1 s hs hs2).1, (t0.2.2.1 s hs hs2).2.2⟩)
  have hY1 : YQ M1 E n0 n1 := hY.keep (fun c _ _ => q6 c (by omega))
  obtain ⟨B1', y1, y2, y3⟩ := faceY_eq (N := N) (M := M1) (E := E) (by omega) no1 hY1.2.1 (fun t ht => ⟨(hY1.2.2 t ht).1, (hY1.2.2 t ht).2.1⟩) ok1 hd.1 hd.2.1
  have u1 : B1' = B1 := bits_uniq y3 hB1
  subst u1
  obtain ⟨M2, s1, s2, s3, s4, s5, s6⟩ := layY (N := N) (p := p) (tau := tau1) (by omega) no1 hY1.2.1 hY1.2.2 ok1 ⟨a1, a2⟩ ⟨c1, c2⟩ (way_ne hd) b1 hg w1 w2 y1 t1.2.1 (fun s hs hs2 => ⟨(t1.2.2.1 s hs hs2).1, (t1.2.2.1 s hs hs2).2.2⟩)
  have mm : ∀ c, c ≠ 11 → M2.1 c = M.1 c := fun c hc => by rw [s6 c hc, q6 c hc]
  unfold fX6_meet
  rw [show (0 : Int32) = nI 0 from rfl, q1]
  simp only [ob_some]
  rw [show (1 : Int32) = nI 1 from rfl, s1]
  simp only [ob_some]
  rw [show nI 0 = (0 : Int32) from rfl, show nI 1 = (1 : Int32) from rfl, ifb, ifb, okZM_0]
  by_cases k0 : 1 < cntB (fun s => B0'.testBit s) n0
  · by_cases k1 : 1 < cntB (fun s => B1'.testBit s) n1
    · rw [if_pos (decide_eq_true k0), if_pos (decide_eq_true k1)]
      obtain ⟨v1, v2, v3⟩ := rowY_ok (p := p) hp20 t0 f0.2.1
      obtain ⟨z1, z2, z3⟩ := rowY_ok (p := p) hp20 t1 f1.2.1
      have d0 := v1.1
      have d1 := z1.1
      have e0 : M2.1 11 0 = nI (dm tau0 (fun s => B0'.testBit s) n0) := by
        have : M2.1 11 (1 - 1) = M1.1 11 (1 - 1) := s5
        rw [show (1 - 1 : Nat) = 0 from rfl] at this
        rw [this]; exact q4
      have dd : ∀ k : Nat, nI k = iI (((k + 1 : Nat) : Int) - 1) := fun k => by rw [nI_iI]; congr 1; omega
      have R0 : RwY M2 0 (ly tau0 (fun s => B0'.testBit s) (cY E 1 p) n0) (dm tau0 (fun s => B0'.testBit s) n0 + 1) p := ⟨fun n hn => by
        have h3 := s3 n hn
        have h2 := q2 n hn
        rw [show 7 * (1 - 1) + n = 7 * 0 + n from rfl] at h3
        rw [h3]; exact h2, v2, v1, by rw [e0]; exact dd _⟩
      have R1 : RwY M2 1 (ly tau1 (fun s => B1'.testBit s) (cY E 6 p) n1) (dm tau1 (fun s => B1'.testBit s) n1 + 1) p := ⟨s2, z2, z1, by rw [s4]; exact dd _⟩
      have l0 : ldI M2 11 2 (0 : Int32) = some (nI (dm tau0 (fun s => B0'.testBit s) n0)) := by rw [i0, ldI_n (by decide) (by decide), e0]
      have l1 : ldI M2 11 2 (1 : Int32) = some (nI (dm tau1 (fun s => B1'.testBit s) n1)) := by rw [i1, ldI_n (by decide) (by decide), s4]
      rw [l0, l1]
      simp only [ob_some]
      rw [if_nlt (by omega) (by omega)]
      have r0 : RowOK (rwf E 1 n0 B0' tau0) (dm tau0 (fun s => B0'.testBit s) n0) := row_ok t0 f0.2.1 f0.2.2 k0
      have r1 : RowOK (rwf E 6 n1 B1' tau1) (dm tau1 (fun s => B1'.testBit s) n1) := row_ok t1 f1.2.1 f1.2.2 k1
      have fin : ∀ (r : Bool) (M3 : Mem), (∀ c, c ≠ 11 → M3.1 c = M.1 c) → (r = true → YesP p (ly tau0 (fun s => B0'.testBit s) (cY E 1 p) n0) (ly tau1 (fun s => B1'.testBit s) (cY E 6 p) n1)) → (r = false → NoP p (ly tau0 (fun s => B0'.testBit s) (cY E 1 p) n0) (ly tau1 (fun s => B1'.testBit s) (cY E 6 p) n1)) → (∀ c, c ≠ 11 → M3.1 c = M.1 c) ∧ (r = true → (2 ≤ cnf B0' n0 ∧ 2 ≤ cnf B1' n1) ∧ YesP p (rwf E 1 n0 B0' tau0) (rwf E 6 n1 B1' tau1)) ∧ (r = false → 2 ≤ cnf B0' n0 → 2 ≤ cnf B1' n1 → NoP p (rwf E 1 n0 B0' tau0) (rwf E 6 n1 B1' tau1)) := by
        intro r M3 h1 h2 h3
        exact ⟨h1, fun q => ⟨⟨k0, k1⟩, (h2 q).tr v3 z3⟩, fun q _ _ => (h3 q).tr hP v3 z3 (fun n hn => r0.2.2.2.1 n (by have := r0.2.1; omega)) (fun n hn => r1.2.2.2.1 n (by have := r1.2.1; omega))⟩
      by_cases c : dm tau0 (fun s => B0'.testBit s) n0 < dm tau1 (fun s => B1'.testBit s) n1
      · rw [if_pos c]
        simp only [ob_some]
        obtain ⟨r, M3, o1, o2, o3, o4⟩ := meetLoop (N := N) (M0 := M) hN hP hp 1 _ _ _ _ M2 (by decide) (by omega) R1 R0 (Eqv.refl p (ly tau0 (fun s => B0'.testBit s) (cY E 1 p) n0) (ly tau1 (fun s => B1'.testBit s) (cY E 6 p) n1)).comm mm
        exact ⟨r, M3, o1, fin r M3 o2 o3 o4⟩
      · rw [if_neg c]
        simp only [ob_some]
        obtain ⟨r, M3, o1, o2, o3, o4⟩ := meetLoop (N := N) (M0 := M) hN hP hp 0 _ _ _ _ M2 (by decide) (by omega) R0 R1 (Eqv.refl p (ly tau0 (fun s => B0'.testBit s) (cY E 1 p) n0) (ly tau1 (fun s => B1'.testBit s) (cY E 6 p) n1)) mm
        exact ⟨r, M3, o1, fin r M3 o2 o3 o4⟩
    · rw [if_pos (decide_eq_true k0), if_neg (by simpa using k1)]
      exact ⟨false, M2, rfl, mm, fun q => absurd q (by decide), fun _ _ q => absurd (show 1 < cntB (fun s => B1'.testBit s) n1 from q) k1⟩
  · rw [if_neg (by simpa using k0)]
    exact ⟨false, M2, rfl, mm, fun q => absurd q (by decide), fun _ q => absurd (show 1 < cntB (fun s => B0'.testBit s) n0 from q) k0⟩
theorem loses_eq {N : Nat} {M : Mem} {E : Nat → Nat → Int32} {n0 n1 B0 B1 : Nat} {P Q : Int} {tau0 tau1 : Nat → Nat} (hN : 50 ≤ N) (hY : YQ M E n0 n1) (f0 : FX E 1 n0) (f1 : FX E 6 n1) (hd : dirOK P Q) (hB0 : ∀ s, B0.testBit s = isF (vv E 1 P Q) n0 s) (hB1 : ∀ s, B1.testBit s = isF (vv E 6 P Q) n1 s) (b0 : B0 < 256) (b1 : B1 < 256) (t0 : TauOK E 1 n0 P Q B0 tau0) (t1 : TauOK E 6 n1 P Q B1 tau1) : ∃ (r : Bool) (M2 : Mem), fX6_loses N M (iI P) (iI Q) = some (bz r, M2) ∧ (∀ c, c ≠ 11 → M2.1 c = M.1 c) ∧ (r = true → (2 ≤ cnf B0 n0 ∧ 2 ≤ cnf B1 n1) ∧ YesP 2147483647 (rwf E 1 n0 B0 tau0) (rwf E 6 n1 B1 tau1) ∧ YesP 2147483629 (rwf E 1 n0 B0 tau0) (rwf E 6 n1 B1 tau1) ∧ YesP 2147483587 (rwf E 1 n0 B0 tau0) (rwf E 6 n1 B1 tau1)) ∧ (r = false → 2 ≤ cnf B0 n0 → 2 ≤ cnf B1 n1 → ∃ q, Pr q ∧ 20 < q ∧ NoP q (rwf E 1 n0 B0 tau0) (rwf E 6 n1 B1 tau1)) := by
  obtain ⟨r, M1, a1, a2, a3, a4⟩ := meet_eq (N := N) (p := 2147483647) hN pr_r0 (by decide) (by decide) hY f0 f1 hd hB0 hB1 b0 b1 t0 t1
  have hY1 : YQ M1 E n0 n1 := hY.keep (fun c _ _ => a2 c (by omega))
  obtain ⟨s, M2, c1, c2, c3, c4⟩ := meet_eq (N := N) (p := 2147483629) hN pr_r1 (by decide) (by decide) hY1 f0 f1 hd hB0 hB1 b0 b1 t0 t1
  have hY2 : YQ M2 E n0 n1 := hY1.keep (fun c _ _ => c2 c (by omega))
  obtain ⟨t, M3, d1, d2, d3, d4⟩ := meet_eq (N := N) (p := 2147483587) hN pr_r2 (by decide) (by decide) hY2 f0 f1 hd hB0 hB1 b0 b1 t0 t1
  have a1' : fX6_meet N M (iI P) (iI Q) (2147483647 : Int64) = some (bz r, M1) := a1
  have c1' : fX6_meet N M1 (iI P) (iI Q) (2147483629 : Int64) = some (bz s, M2) := c1
  have d1' : fX6_meet N M2 (iI P) (iI Q) (2147483587 : Int64) = some (bz t, M3) := d1
  unfold fX6_loses
  rw [a1']
  simp only [ob_some, ifb]
  cases r with
  | false => exact ⟨false, M1, rfl, a2, fun q => absurd q (by decide), fun _ x y => ⟨_, pr_r0, by decide, a4 rfl x y⟩⟩
  | true =>
    simp only [if_true]
    rw [c1']
    simp only [ob_some, ifb]
    cases s with
    | false => exact ⟨false, M2, rfl, fun c hc => by rw [c2 c hc, a2 c hc], fun q => absurd q (by decide), fun _ x y => ⟨_, pr_r1, by decide, c4 rfl x y⟩⟩
    | true =>
      simp only [if_true]
      rw [d1']
      simp only [ob_some, ifb]
      cases t with
      | false => exact ⟨false, M3, rfl, fun c hc => by rw [d2 c hc, c2 c hc, a2 c hc], fun q => absurd q (by decide), fun _ x y => ⟨_, pr_r2, by decide, d4 rfl x y⟩⟩
      | true => exact ⟨true, M3, rfl, fun c hc => by rw [d2 c hc, c2 c hc, a2 c hc], fun _ => ⟨(a3 rfl).1, (a3 rfl).2, (c3 rfl).2, (d3 rfl).2⟩, fun q => absurd q (by decide)⟩
/-- the same way, perhaps longer: class and reference tell the same -/
theorem dir_eq {N : Nat} {X Y : Mem} {E : Nat → Nat → Int32} {n0 n1 : Nat} {P Q P2 Q2 : Int} (hN : 50 ≤ N) (hX : XQ X E n0 n1) (hY : YQ Y E n0 n1) (p0 : 0 < n0) (p1 : 0 < n1) (f0 : FX E 1 n0) (f1 : FX E 6 n1) (hd : dirOK P Q) (hd2 : dirOK P2 Q2) (ea : wya P2 Q2 = wya P Q) (eb : wyb P2 Q2 = wyb P Q) (s0 : ∀ s, isF (vv E 1 P2 Q2) n0 s = isF (vv E 1 P Q) n0 s) (s1 : ∀ s, isF (vv E 6 P2 Q2) n1 s = isF (vv E 6 P Q) n1 s) : ∃ (r : Bool) (X2 Y2 : Mem), fX2_shareRoot N X 1 6 (iI P) (iI Q) = some (bz r, X2) ∧ fX6_loses N Y (iI P2) (iI Q2) = some (bz r, Y2) ∧ X2.1 = X.1 ∧ (∀ c, c ≠ 11 → Y2.1 c = Y.1 c) ∧ (r = true → (∃ s u, s < u ∧ u < n0 ∧ isF (vv E 1 P Q) n0 s = true ∧ isF (vv E 1 P Q) n0 u = true) ∧ (∃ s u, s < u ∧ u < n1 ∧ isF (vv E 6 P Q) n1 s = true ∧ isF (vv E 6 P Q) n1 u = true)) := by
  obtain ⟨hE, e0, e1, ok0, ok1⟩ := id hX
  have hn0 : X.1 1 4 = nI n0 := by rw [hE 1 (by decide) (by decide)]; exact e0
  have hn1 : X.1 6 4 = nI n1 := by rw [hE 6 (by decide) (by decide)]; exact e1
  obtain ⟨B0, -, x2, x3⟩ := bits_eq (N := N) (M := X) (E := E) (bs := 1) (by omega) (Or.inl rfl) hE hn0 ok0 hd.1 hd.2.1
  obtain ⟨B1, -, y2, y3⟩ := bits_eq (N := N) (M := X) (E := E) (bs := 6) (by omega) (Or.inr rfl) hE hn1 ok1 hd.1 hd.2.1
  have b0 : B0 < 256 := Nat.lt_of_lt_of_le x2 (Nat.pow_le_pow_right (by decide) ok0.1)
  have b1 : B1 < 256 := Nat.lt_of_lt_of_le y2 (Nat.pow_le_pow_right (by decide) ok1.1)
  obtain ⟨tau0, t0⟩ := tau_ex ok0 p0 hd x3
  obtain ⟨tau1, t1⟩ := tau_ex ok1 p1 hd y3
  have t0' : TauOK E 1 n0 P2 Q2 B0 tau0 := by unfold TauOK at *; rw [ea, eb]; exact t0
  have t1' : TauOK E 6 n1 P2 Q2 B1 tau1 := by unfold TauOK at *; rw [ea, eb]; exact t1
  obtain ⟨r, X2, a1, a2, a3, a4⟩ := shareRoot_eq (N := N) (by omega) hX f0 f1 hd x3 y3 b0 b1 t0 t1
  obtain ⟨s, Y2, c1, c2, c3, c4⟩ := loses_eq (N := N) hN hY f0 f1 hd2 (fun s => by rw [x3 s, s0 s]) (fun s => by rw [y3 s, s1 s]) b0 b1 t0' t1'
  have rs : s = r := by
    cases r with
    | true =>
      cases s with
      | true => rfl
      | false =>
        obtain ⟨⟨k0, k1⟩, hy⟩ := a3 rfl
        obtain ⟨q, q1, q2, q3⟩ := c4 rfl k0 k1
        exact absurd q3 (core_c q1 q2 (row_ok t0 f0.2.1 f0.2.2 k0) (row_ok t1 f1.2.1 f1.2.2 k1) (hy 0 (by decide)) (hy 1 (by decide)) (hy 2 (by decide)))
    | false =>
      cases s with
      | false => rfl
      | true =>
        obtain ⟨⟨k0, k1⟩, h1, h2, h3⟩ := c3 rfl
        obtain ⟨k, hk⟩ := a4 rfl k0 k1
        exact absurd hk (core_r (pk_ok k).1 (pk_ok k).2.2 (row_ok t0 f0.2.1 f0.2.2 k0) (row_ok t1 f1.2.1 f1.2.2 k1) h1 h2 h3)
  subst rs
  refine ⟨s, X2, Y2, a1, c1, a2, c2, fun q => ?_⟩
  obtain ⟨⟨k0, k1⟩, -⟩ := a3 q
  obtain ⟨u, v, d1, d2, d3, d4⟩ := cnt_two (fun s => B0.testBit s) n0 k0
  obtain ⟨u', v', e1', e2', e3', e4'⟩ := cnt_two (fun s => B1.testBit s) n1 k1
  exact ⟨⟨u, v, d1, d2, by rw [← x3 u]; exact d3, by rw [← x3 v]; exact d4⟩, ⟨u', v', e1', e2', by rw [← y3 u']; exact e3', by rw [← y3 v']; exact e4'⟩⟩
theorem st_lose {X Y : Mem} {N : Nat} (hN : 70 ≤ N) (a1 a2 : Int32) (h : Sim X Y) : ∃ (r : Int32) (X' Y' : Mem), fX5_lose N X a1 a2 = some (r, X') ∧ fX6_lose N Y a1 a2 = some (r, Y') ∧ Sim X' Y' := by
  obtain ⟨n0, n1, h0, h1, -, -⟩ := id h
  have hX := XQ.sim h0 h1
  have hY := YQ.sim h0 h1
  unfold fX5_lose fX6_lose
  rw [isAim_eq, isWay_eq, anyEmpty_eq hX, show (2 : Int32) = nI 2 from rfl, there_eq hY h0.2.2.1 h1.2.2.1 (by decide)]
  simp only [ob_some, ifb]
  by_cases c : (-6 ≤ a1.toInt ∧ a1.toInt ≤ 6) ∧ (-6 ≤ a2.toInt ∧ a2.toInt ≤ 6) ∧ (a1.toInt ≠ 0 ∨ a2.toInt ≠ 0)
  · rw [if_pos (decide_eq_true c), if_pos (decide_eq_true c)]
    by_cases d : n0 = 0 ∨ n1 = 0
    · have z : ¬ 0 < fgn n0 n1 2 := by rw [fgn_2, Nat.mul_eq_zero.mpr d]; omega
      rw [decide_eq_true d, decide_eq_false z]
      exact ⟨-3, X, Y, rfl, rfl, h⟩
    · have z : 0 < fgn n0 n1 2 := by show 0 < n0 * n1; exact Nat.mul_pos (by omega) (by omega)
      rw [decide_eq_false d, decide_eq_true z]
      have hd : dirOK a1.toInt a2.toInt := ⟨by omega, by omega, c.2.2⟩
      obtain ⟨r, X2, Y2, q1, q2, q3, q4, -⟩ := dir_eq (N := N) (by omega) hX hY (by omega) (by omega) (FX.of h0) (FX.of h1) hd hd rfl rfl (fun _ => rfl) (fun _ => rfl)
      rw [iI_of, iI_of] at q1 q2
      simp only [Bool.false_eq_true, if_false, if_true]
      rw [q1, q2]
      simp only [ob_some, ifb]
      have hS : Sim X2 Y2 := h.keep (fun c _ => by rw [q3]) (fun c x y => q4 c (by omega))
      cases r with
      | false => exact ⟨0, X2, Y2, rfl, rfl, hS⟩
      | true => exact ⟨1, X2, Y2, rfl, rfl, hS⟩
  · rw [if_neg (by simpa using c), if_neg (by simpa using c)]
    exact ⟨-2, X, Y, rfl, rfl, h⟩

def CY (M0 M : Mem) (E : Nat → Nat → Int32) (n0 n1 : Nat) (L : List (Nat × Nat × Nat × Nat)) : Prop := YF M0 M ∧ M.1 0 19 = bz (!((L.filter (isCl E n0 n1)).any (isCr E n0 n1)))
def hitY (M0 M : Mem) (E : Nat → Nat → Int32) (q : Nat × Nat × Nat × Nat) : Prop := YF M0 M ∧ M.1 0 11 = trn E q.1 q.2.1 q.2.2.1 q.2.2.2 ∧ M.1 0 15 = nI q.1 ∧ M.1 0 16 = nI q.2.1 ∧ M.1 0 17 = nI q.2.2.1 ∧ M.1 0 18 = nI q.2.2.2
theorem goD {M0 : Mem} {E : Nat → Nat → Int32} {n0 n1 N a b c T : Nat} {a1 : Int32} (hN : 9 ≤ N) (hY : YR M0 E n0 n1) (hT : ∀ K, K ≤ 784 → (nI K = a1 ↔ K = T)) (hab : a < b) (hb : b < n0) (hc : c < n1) (kont : Int32 → Int32 → Mem → Option (Int32 × Mem)) : ∀ n d M L, d ≤ n1 → c < d → n1 - d < n → CY M0 M E n0 n1 L → (L.filter (isCl E n0 n1)).length ≤ T → L.length + (qD n1 a b c d).length ≤ 784 →
    (∀ q, ((L ++ qD n1 a b c d).filter (isCl E n0 n1))[T]? = some q → ∃ M2, lp (fun _ _ _ => none) (sX6_goThrough_59 kont (nI (8 + c)) N (nI a) (nI b) a1) n (nI (L.filter (isCl E n0 n1)).length) (nI (8 + d)) M = some (nI (T + 1), M2) ∧ hitY M0 M2 E q) ∧
    (((L ++ qD n1 a b c d).filter (isCl E n0 n1)).length ≤ T → ∃ M2, lp (fun _ _ _ => none) (sX6_goThrough_59 kont (nI (8 + c)) N (nI a) (nI b) a1) n (nI (L.filter (isCl E n0 n1)).length) (nI (8 + d)) M = kont (nI ((L ++ qD n1 a b c d).filter (isCl E n0 n1)).length) (nI (8 + (c + 1))) M2 ∧ CY M0 M2 E n0 n1 (L ++ qD n1 a b c d)) := by
  intro n
  refine lp_rule (bot := fun _ _ _ => none) (step := sX6_goThrough_59 kont (nI (8 + c)) N (nI a) (nI b) a1) (fun n f => ∀ d M L, d ≤ n1 → c < d → n1 - d < n → CY M0 M E n0 n1 L → (L.filter (isCl E n0 n1)).length ≤ T → L.length + (qD n1 a b c d).length ≤ 784 →
    (∀ q, ((L ++ qD n1 a b c d).filter (isCl E n0 n1))[T]? = some q → ∃ M2, f (nI (L.filter (isCl E n0 n1)).length) (nI (8 + d)) M = some (nI (T + 1), M2) ∧ hitY M0 M2 E q) ∧
    (((L ++ qD n1 a b c d).filter (isCl E n0 n1)).length ≤ T → ∃ M2, f (nI (L.filter (isCl E n0 n1)).length) (nI (8 + d)) M = kont (nI ((L ++ qD n1 a b c d).filter (isCl E n0 n1)).length) (nI (8 + (c + 1))) M2 ∧ CY M0 M2 E n0 n1 (L ++ qD n1 a b c d))) (fun d M L _ _ h => by omega) ?_ n
  intro n f hf d M L hd hcd hn hC hK hlen
  have hYM := hY.of hC.1
  have hn8 := hY.2.2.2.1
  unfold sX6_goThrough_59
  have l5 : ldI M 5 2 1 = some (nI n1) := by rw [i1, ldI_n (by decide) (by decide), hYM.2.1]
  rw [l5]
  simp only [ob_some]
  rw [show (8 : Int32) + nI n1 = nI (8 + n1) from nI_add 8 n1, if_nle (by omega) (by omega)]
  by_cases e : 8 + n1 ≤ 8 + d
  · rw [if_pos e, qD_nil (by omega), List.append_nil]
    refine ⟨fun q hq => ?_, fun _ => ⟨M, ?_, hC⟩⟩
    · rw [List.getElem?_eq_none hK] at hq; cases hq
    · rw [show nI (8 + c) + (1 : Int32) = nI (8 + c + 1) from nI_1 _]; rfl
  · rw [if_neg e]
    rw [qD_cons (show d < n1 by omega)] at hlen ⊢
    simp only [List.length_cons] at hlen
    have hfl : (L.filter (isCl E n0 n1)).length ≤ L.length := List.length_filter_le _ _
    obtain ⟨M2, g1, g2, g3, g4, g5⟩ := isCell_eq hN hYM hab hb hcd (show d < n1 by omega)
    rw [g1]
    simp only [ob_some, ifb]
    have hassoc : L ++ (a, b, c, d) :: qD n1 a b c (d + 1) = (L ++ [(a, b, c, d)]) ++ qD n1 a b c (d + 1) := by simp
    rw [hassoc]
    have hs1 : nI (8 + d) + (1 : Int32) = nI (8 + (d + 1)) := nI_1 _
    rw [hs1]
    by_cases hq : isCl E n0 n1 (a, b, c, d) = true
    · rw [hq]
      simp only [if_true]
      have hfil : (L ++ [(a, b, c, d)]).filter (isCl E n0 n1) = L.filter (isCl E n0 n1) ++ [(a, b, c, d)] := by
        rw [List.filter_append]; simp [List.filter_cons, hq]
      by_cases hh : (L.filter (isCl E n0 n1)).length = T
      · rw [if_pos ((hT _ (by omega)).mpr hh)]
        refine ⟨fun q hq2 => ⟨_, by rw [← hh, ← nI_1], ?_⟩, fun h2 => ?_⟩
        · have hq3 : q = (a, b, c, d) := by
            rw [List.filter_append, hfil, List.append_assoc, List.getElem?_append_right (by omega), ← hh, Nat.sub_self] at hq2
            simp at hq2
            exact hq2.symm
          subst hq3
          refine ⟨(((((hC.1.tr g2).set _ _).set _ _).set _ _).set _ _), ?_, ?_, ?_, ?_, ?_⟩
          · rw [setI_nk (by decide), setI_nk (by decide), setI_nk (by decide), setI_nk (by decide)]; exact g3
          · rw [setI_nk (by decide), setI_nk (by decide), setI_nk (by decide), setI_eq]
          · rw [setI_nk (by decide), setI_nk (by decide), setI_eq]
          · rw [setI_nk (by decide), setI_eq]
            show nI (8 + c) - nI 8 = nI c
            rw [Nat.add_comm 8 c, ← nI_add]
            grind
          · rw [setI_eq]
            show nI (8 + d) - nI 8 = nI d
            rw [Nat.add_comm 8 d, ← nI_add]
            grind
        · rw [List.filter_append, hfil] at h2
          simp at h2
          omega
      · rw [if_neg (fun q => hh ((hT _ (by omega)).mp q))]
        have hall : (if M2.1 0 19 = 0 then some (0 : Int32) else if M2.1 0 14 = 0 then some (0 : Int32) else some (1 : Int32)) = some (bz (!(((L ++ [(a, b, c, d)]).filter (isCl E n0 n1)).any (isCr E n0 n1)))) := by
          rw [g4, hC.2, g5 hq, ifb, ifb, hfil, List.any_append]
          simp only [List.any_cons, List.any_nil, Bool.or_false]
          cases (L.filter (isCl E n0 n1)).any (isCr E n0 n1) <;> cases isCr E n0 n1 (a, b, c, d) <;> simp [bz]
        rw [hall]
        simp only [ob_some]
        rw [stZ_bz]
        simp only [ob_some]
        have hC2 : CY M0 (setI M2 0 19 (bz (!(((L ++ [(a, b, c, d)]).filter (isCl E n0 n1)).any (isCr E n0 n1))))) E n0 n1 (L ++ [(a, b, c, d)]) := ⟨(hC.1.tr g2).set _ _, setI_eq _ _ _ _⟩
        have hl2 : ((L ++ [(a, b, c, d)]).filter (isCl E n0 n1)).length = (L.filter (isCl E n0 n1)).length + 1 := by rw [hfil]; simp
        have := hf (d + 1) _ (L ++ [(a, b, c, d)]) (by omega) (by omega) (by omega) hC2 (by omega) (by simp; omega)
        rw [hl2] at this
        rw [show nI (L.filter (isCl E n0 n1)).length + (1 : Int32) = nI ((L.filter (isCl E n0 n1)).length + 1) from nI_1 _]
        exact this
    · have hq1 : isCl E n0 n1 (a, b, c, d) = false := by simpa using hq
      rw [hq1]
      simp only [Bool.false_eq_true, if_false]
      have hfil : (L ++ [(a, b, c, d)]).filter (isCl E n0 n1) = L.filter (isCl E n0 n1) := by
        rw [List.filter_append]; simp [List.filter_cons, hq1]
      have hC2 : CY M0 M2 E n0 n1 (L ++ [(a, b, c, d)]) := ⟨hC.1.tr g2, by rw [g4, hfil]; exact hC.2⟩
      have := hf (d + 1) M2 (L ++ [(a, b, c, d)]) (by omega) (by omega) (by omega) hC2 (by rw [hfil]; exact hK) (by simp; omega)
      rw [hfil] at this
      exact this
theorem goC {M0 : Mem} {E : Nat → Nat → Int32} {n0 n1 N a b T : Nat} {a1 : Int32} (hN : 9 ≤ N) (hY : YR M0 E n0 n1) (hT : ∀ K, K ≤ 784 → (nI K = a1 ↔ K = T)) (hab : a < b) (hb : b < n0) (kont : Int32 → Int32 → Mem → Option (Int32 × Mem)) : ∀ n c M L, c ≤ n1 → n1 - c < n → CY M0 M E n0 n1 L → (L.filter (isCl E n0 n1)).length ≤ T → L.length + (qCc n1 a b c).length ≤ 784 →
    (∀ q, ((L ++ qCc n1 a b c).filter (isCl E n0 n1))[T]? = some q → ∃ M2, lp (fun _ _ _ => none) (sX6_goThrough_39 kont (nI b) N (nI a) a1) n (nI (L.filter (isCl E n0 n1)).length) (nI (8 + c)) M = some (nI (T + 1), M2) ∧ hitY M0 M2 E q) ∧
    (((L ++ qCc n1 a b c).filter (isCl E n0 n1)).length ≤ T → ∃ M2, lp (fun _ _ _ => none) (sX6_goThrough_39 kont (nI b) N (nI a) a1) n (nI (L.filter (isCl E n0 n1)).length) (nI (8 + c)) M = kont (nI ((L ++ qCc n1 a b c).filter (isCl E n0 n1)).length) (nI (b + 1)) M2 ∧ CY M0 M2 E n0 n1 (L ++ qCc n1 a b c)) := by
  intro n
  refine lp_rule (bot := fun _ _ _ => none) (step := sX6_goThrough_39 kont (nI b) N (nI a) a1) (fun n f => ∀ c M L, c ≤ n1 → n1 - c < n → CY M0 M E n0 n1 L → (L.filter (isCl E n0 n1)).length ≤ T → L.length + (qCc n1 a b c).length ≤ 784 →
    (∀ q, ((L ++ qCc n1 a b c).filter (isCl E n0 n1))[T]? = some q → ∃ M2, f (nI (L.filter (isCl E n0 n1)).length) (nI (8 + c)) M = some (nI (T + 1), M2) ∧ hitY M0 M2 E q) ∧
    (((L ++ qCc n1 a b c).filter (isCl E n0 n1)).length ≤ T → ∃ M2, f (nI (L.filter (isCl E n0 n1)).length) (nI (8 + c)) M = kont (nI ((L ++ qCc n1 a b c).filter (isCl E n0 n1)).length) (nI (b + 1)) M2 ∧ CY M0 M2 E n0 n1 (L ++ qCc n1 a b c))) (fun d M L _ h => by omega) ?_ n
  intro n f hf c M L hd hn hC hK hlen
  have hYM := hY.of hC.1
  have hn8 := hY.2.2.2.1
  unfold sX6_goThrough_39
  have l5 : ldI M 5 2 1 = some (nI n1) := by rw [i1, ldI_n (by decide) (by decide), hYM.2.1]
  rw [l5]
  simp only [ob_some]
  rw [show (8 : Int32) + nI n1 = nI (8 + n1) from nI_add 8 n1, if_nle (by omega) (by omega), nI_1, nI_1]
  by_cases e : 8 + n1 ≤ 8 + c
  · rw [if_pos e, qC_nil (by omega), List.append_nil]
    refine ⟨fun q hq => ?_, fun _ => ⟨M, rfl, hC⟩⟩
    rw [List.getElem?_eq_none hK] at hq; cases hq
  · rw [if_neg e]
    rw [qC_cons (show c < n1 by omega)] at hlen ⊢
    simp only [List.length_append] at hlen
    rw [← List.append_assoc]
    obtain ⟨k1, k2⟩ := goD hN hY hT hab hb (show c < n1 by omega) f N (c + 1) M L (by omega) (by omega) (by omega) hC hK (by omega)
    rw [show 8 + c + 1 = 8 + (c + 1) from rfl]
    by_cases hh : ((L ++ qD n1 a b c (c + 1)).filter (isCl E n0 n1)).length ≤ T
    · obtain ⟨M2, g1, g2⟩ := k2 hh
      rw [g1]
      exact hf (c + 1) M2 (L ++ qD n1 a b c (c + 1)) (by omega) (by omega) g2 hh (by simp; omega)
    · have hlt : T < ((L ++ qD n1 a b c (c + 1)).filter (isCl E n0 n1)).length := by omega
      refine ⟨fun q hq => k1 q ?_, fun h2 => ?_⟩
      · rw [List.filter_append, List.getElem?_append_left hlt] at hq
        exact hq
      · rw [List.filter_append, List.length_append] at h2
        omega
theorem goB {M0 : Mem} {E : Nat → Nat → Int32} {n0 n1 N a T : Nat} {a1 : Int32} (hN : 9 ≤ N) (hY : YR M0 E n0 n1) (hT : ∀ K, K ≤ 784 → (nI K = a1 ↔ K = T)) (kont : Int32 → Int32 → Mem → Option (Int32 × Mem)) : ∀ n b M L, b ≤ n0 → a < b → n0 - b < n → CY M0 M E n0 n1 L → (L.filter (isCl E n0 n1)).length ≤ T → L.length + (qBb n0 n1 a b).length ≤ 784 →
    (∀ q, ((L ++ qBb n0 n1 a b).filter (isCl E n0 n1))[T]? = some q → ∃ M2, lp (fun _ _ _ => none) (sX6_goThrough_24 kont (nI a) N a1) n (nI (L.filter (isCl E n0 n1)).length) (nI b) M = some (nI (T + 1), M2) ∧ hitY M0 M2 E q) ∧
    (((L ++ qBb n0 n1 a b).filter (isCl E n0 n1)).length ≤ T → ∃ M2, lp (fun _ _ _ => none) (sX6_goThrough_24 kont (nI a) N a1) n (nI (L.filter (isCl E n0 n1)).length) (nI b) M = kont (nI ((L ++ qBb n0 n1 a b).filter (isCl E n0 n1)).length) (nI (a + 1)) M2 ∧ CY M0 M2 E n0 n1 (L ++ qBb n0 n1 a b)) := by
  intro n
  refine lp_rule (bot := fun _ _ _ => none) (step := sX6_goThrough_24 kont (nI a) N a1) (fun n f => ∀ b M L, b ≤ n0 → a < b → n0 - b < n → CY M0 M E n0 n1 L → (L.filter (isCl E n0 n1)).length ≤ T → L.length + (qBb n0 n1 a b).length ≤ 784 →
    (∀ q, ((L ++ qBb n0 n1 a b).filter (isCl E n0 n1))[T]? = some q → ∃ M2, f (nI (L.filter (isCl E n0 n1)).length) (nI b) M = some (nI (T + 1), M2) ∧ hitY M0 M2 E q) ∧
    (((L ++ qBb n0 n1 a b).filter (isCl E n0 n1)).length ≤ T → ∃ M2, f (nI (L.filter (isCl E n0 n1)).length) (nI b) M = kont (nI ((L ++ qBb n0 n1 a b).filter (isCl E n0 n1)).length) (nI (a + 1)) M2 ∧ CY M0 M2 E n0 n1 (L ++ qBb n0 n1 a b))) (fun d M L _ _ h => by omega) ?_ n
  intro n f hf b M L hd hab hn hC hK hlen
  have hYM := hY.of hC.1
  have hn8 := hY.2.2.1
  have hn9 := hY.2.2.2.1
  unfold sX6_goThrough_24
  have l5 : ldI M 5 2 0 = some (nI n0) := by rw [i0, ldI_n (by decide) (by decide), hYM.1]
  rw [l5]
  simp only [ob_some]
  rw [if_nle (by omega) (by omega), nI_1]
  by_cases e : n0 ≤ b
  · rw [if_pos e, qB_nil (by omega), List.append_nil]
    refine ⟨fun q hq => ?_, fun _ => ⟨M, rfl, hC⟩⟩
    rw [List.getElem?_eq_none hK] at hq; cases hq
  · rw [if_neg e]
    rw [qB_cons (show b < n0 by omega)] at hlen ⊢
    simp only [List.length_append] at hlen
    rw [← List.append_assoc]
    obtain ⟨k1, k2⟩ := goC hN hY hT hab (show b < n0 by omega) f N 0 M L (by omega) (by omega) hC hK (by omega)
    rw [show nI (8 + 0) = (8 : Int32) from rfl] at k1 k2
    by_cases hh : ((L ++ qCc n1 a b 0).filter (isCl E n0 n1)).length ≤ T
    · obtain ⟨M2, g1, g2⟩ := k2 hh
      rw [g1]
      exact hf (b + 1) M2 (L ++ qCc n1 a b 0) (by omega) (by omega) (by omega) g2 hh (by simp; omega)
    · have hlt : T < ((L ++ qCc n1 a b 0).filter (isCl E n0 n1)).length := by omega
      refine ⟨fun q hq => k1 q ?_, fun h2 => ?_⟩
      · rw [List.filter_append, List.getElem?_append_left hlt] at hq
        exact hq
      · rw [List.filter_append, List.length_append] at h2
        omega
theorem goA {M0 : Mem} {E : Nat → Nat → Int32} {n0 n1 N T : Nat} {a1 : Int32} (hN : 9 ≤ N) (hY : YR M0 E n0 n1) (hT : ∀ K, K ≤ 784 → (nI K = a1 ↔ K = T)) : ∀ n a M L, a ≤ n0 → n0 - a < n → CY M0 M E n0 n1 L → (L.filter (isCl E n0 n1)).length ≤ T → L.length + (qAa n0 n1 a).length ≤ 784 →
    (∀ q, ((L ++ qAa n0 n1 a).filter (isCl E n0 n1))[T]? = some q → ∃ M2, lp (fun _ _ _ => none) (sX6_goThrough_9 N a1) n (nI (L.filter (isCl E n0 n1)).length) (nI a) M = some (nI (T + 1), M2) ∧ hitY M0 M2 E q) ∧
    (((L ++ qAa n0 n1 a).filter (isCl E n0 n1)).length ≤ T → ∃ M2, lp (fun _ _ _ => none) (sX6_goThrough_9 N a1) n (nI (L.filter (isCl E n0 n1)).length) (nI a) M = some (nI ((L ++ qAa n0 n1 a).filter (isCl E n0 n1)).length, M2) ∧ CY M0 M2 E n0 n1 (L ++ qAa n0 n1 a)) := by
  intro n
  refine lp_rule (bot := fun _ _ _ => none) (step := sX6_goThrough_9 N a1) (fun n f => ∀ a M L, a ≤ n0 → n0 - a < n → CY M0 M E n0 n1 L → (L.filter (isCl E n0 n1)).length ≤ T → L.length + (qAa n0 n1 a).length ≤ 784 →
    (∀ q, ((L ++ qAa n0 n1 a).filter (isCl E n0 n1))[T]? = some q → ∃ M2, f (nI (L.filter (isCl E n0 n1)).length) (nI a) M = some (nI (T + 1), M2) ∧ hitY M0 M2 E q) ∧
    (((L ++ qAa n0 n1 a).filter (isCl E n0 n1)).length ≤ T → ∃ M2, f (nI (L.filter (isCl E n0 n1)).length) (nI a) M = some (nI ((L ++ qAa n0 n1 a).filter (isCl E n0 n1)).length, M2) ∧ CY M0 M2 E n0 n1 (L ++ qAa n0 n1 a))) (fun d M L _ h => by omega) ?_ n
  intro n f hf a M L hd hn hC hK hlen
  have hYM := hY.of hC.1
  have hn8 := hY.2.2.1
  unfold sX6_goThrough_9
  have l5 : ldI M 5 2 0 = some (nI n0) := by rw [i0, ldI_n (by decide) (by decide), hYM.1]
  rw [l5]
  simp only [ob_some]
  rw [if_nle (by omega) (by omega), nI_1]
  by_cases e : n0 ≤ a
  · rw [if_pos e, qA_nil (by omega), List.append_nil]
    refine ⟨fun q hq => ?_, fun _ => ⟨M, rfl, hC⟩⟩
    rw [List.getElem?_eq_none hK] at hq; cases hq
  · rw [if_neg e]
    rw [qA_cons (show a < n0 by omega)] at hlen ⊢
    simp only [List.length_append] at hlen
    rw [← List.append_assoc]
    obtain ⟨k1, k2⟩ := goB (a := a) hN hY hT f N (a + 1) M L (by omega) (by omega) (by omega) hC hK (by omega)
    by_cases hh : ((L ++ qBb n0 n1 a (a + 1)).filter (isCl E n0 n1)).length ≤ T
    · obtain ⟨M2, g1, g2⟩ := k2 hh
      rw [g1]
      exact hf (a + 1) M2 (L ++ qBb n0 n1 a (a + 1)) (by omega) (by omega) g2 hh (by simp; omega)
    · have hlt : T < ((L ++ qBb n0 n1 a (a + 1)).filter (isCl E n0 n1)).length := by omega
      refine ⟨fun q hq => k1 q ?_, fun h2 => ?_⟩
      · rw [List.filter_append, List.getElem?_append_left hlt] at hq
        exact hq
      · rw [List.filter_append, List.length_append] at h2
        omega
theorem goThrough_eq {M : Mem} {E : Nat → Nat → Int32} {n0 n1 N T : Nat} {a1 : Int32} (hN : 9 ≤ N) (hY : YR M E n0 n1) (hT : ∀ K, K ≤ 784 → (nI K = a1 ↔ K = T)) :
    (∀ q, (clL E n0 n1)[T]? = some q → ∃ M2, fX6_goThrough N M a1 = some (nI (T + 1), M2) ∧ hitY M M2 E q) ∧ ((clL E n0 n1).length ≤ T → ∃ M2, fX6_goThrough N M a1 = some (nI (clL E n0 n1).length, M2) ∧ YF M M2 ∧ M2.1 0 19 = bz (!((clL E n0 n1).any (isCr E n0 n1)))) := by
  have hb0 := hY.2.2.1
  have hb1 := hY.2.2.2.1
  unfold fX6_goThrough
  rw [stZ_1]
  simp only [ob_some]
  have hC : CY M (setI M 0 19 1) E n0 n1 [] := ⟨(YF.rf M).set _ _, by rw [setI_eq]; rfl⟩
  exact goA hN hY hT N 0 _ [] (by omega) (by omega) hC (by simp) (by simpa using qA_len n0 (by omega) n1 (by omega))
theorem clL_len {E : Nat → Nat → Int32} {n0 n1 : Nat} (h0 : n0 ≤ 8) (h1 : n1 ≤ 8) : (clL E n0 n1).length ≤ 784 := Nat.le_trans (List.length_filter_le _ _) (qA_len n0 (by omega) n1 (by omega))
theorem T_neg : ∀ K, K ≤ 784 → (nI K = (-1 : Int32) ↔ K = 1000) := by
  intro K hK
  constructor
  · intro h
    have := (i_eq _ _).mp h
    rw [nI_tI (by omega)] at this
    have e : (-1 : Int32).toInt = -1 := by decide
    omega
  · intro h; omega
theorem T_pos {t : Nat} (ht : t < 2 ^ 31) : ∀ K, K ≤ 784 → (nI K = nI t ↔ K = t) := fun K hK => nI_eq (by omega) ht
set_option maxRecDepth 100000 in
theorem pck_fin : ∀ a, a < 8 → ∀ b, b < 8 → ∀ c, c < 8 → ∀ d, d < 8 → ((pck (a, b, c, d) >>> (((3 : Int32) * ((3 : Int32) - 0)) &&& 31)) &&& (7 : Int32) = nI a ∧ (pck (a, b, c, d) >>> (((3 : Int32) * ((3 : Int32) - 1)) &&& 31)) &&& (7 : Int32) = nI b ∧ (pck (a, b, c, d) >>> (((3 : Int32) * ((3 : Int32) - 2)) &&& 31)) &&& (7 : Int32) = nI c ∧ (pck (a, b, c, d) >>> (((3 : Int32) * ((3 : Int32) - 3)) &&& 31)) &&& (7 : Int32) = nI d) := by decide +kernel
theorem clL_mem {E : Nat → Nat → Int32} {n0 n1 k : Nat} {q : Nat × Nat × Nat × Nat} (h : (clL E n0 n1)[k]? = some q) : q.1 < n0 ∧ q.2.1 < n0 ∧ q.2.2.1 < n1 ∧ q.2.2.2 < n1 := by
  have h1 : q ∈ clL E n0 n1 := List.mem_of_getElem? h
  have h2 : q ∈ qAa n0 n1 0 := (List.mem_filter.mp h1).1
  unfold qAa at h2
  obtain ⟨a, ha, h3⟩ := List.mem_flatMap.mp h2
  unfold qBb at h3
  obtain ⟨b, hb, h4⟩ := List.mem_flatMap.mp h3
  unfold qCc at h4
  obtain ⟨c, hc, h5⟩ := List.mem_flatMap.mp h4
  unfold qD at h5
  obtain ⟨d, hd, rfl⟩ := List.mem_map.mp h5
  have u : ∀ {x y z : Nat}, x ∈ upTo y z → x < z := by
    intro x y z hx
    unfold upTo at hx
    have := List.mem_range'_1.mp hx
    omega
  exact ⟨u ha, u hb, u hc, u hd⟩
theorem member_eq {M : Mem} {k : Nat} {q : Nat × Nat × Nat × Nat} (hk : k < 784) (h : M.1 17 k = pck q) (h1 : q.1 < 8) (h2 : q.2.1 < 8) (h3 : q.2.2.1 < 8) (h4 : q.2.2.2 < 8) : fX4_memberOf M (nI k) 0 = some (nI q.1) ∧ fX4_memberOf M (nI k) 1 = some (nI q.2.1) ∧ fX4_memberOf M (nI k) 2 = some (nI q.2.2.1) ∧ fX4_memberOf M (nI k) 3 = some (nI q.2.2.2) := by
  unfold fX4_memberOf
  rw [ldI_n hk (by decide), h]
  obtain ⟨a, b, c, d⟩ := q
  obtain ⟨g1, g2, g3, g4⟩ := pck_fin a h1 b h2 c h3 d h4
  simp only [ob_some]
  exact ⟨by rw [g1], by rw [g2], by rw [g3], by rw [g4]⟩
theorem abs_sgn (t : Int32) : (if 0 ≤ t then t else 0 - t) = sgn t * t := by
  unfold sgn
  by_cases h : 0 ≤ t
  · simp [h]
  · simp [h]; grind

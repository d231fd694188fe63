/-! the reference's wrapping -/
theorem isOuter_eq {M : Mem} {px py : Nat → Int} {n a k b : Nat} (h : PtX 6 7 M px py n) (ha : a < n) (hk : k < n) (hb : b < n) : fX6_isOuter M (nI a) (nI k) (nI b) = some (bz (decide (0 < orr px py a k b ∨ (orr px py a k b = 0 ∧ dst px py a b < dst px py a k)))) := by
  have o1 := orr_bd h.2.1 ha hk hb
  have d1 := dst_bd h.2.1 ha hk
  have d2 := dst_bd h.2.1 ha hb
  have e1 : orr px py a k b = (px k - px a) * (py b - py a) - (py k - py a) * (px b - px a) := rfl
  have e2 : dst px py a k = (px k - px a) * (px k - px a) + (py k - py a) * (py k - py a) := rfl
  have e3 : dst px py a b = (px b - px a) * (px b - px a) + (py b - py a) * (py b - py a) := rfl
  unfold fX6_isOuter
  simp only [h.x ha, h.x hb, h.y ha, h.y hb, h.x hk, h.y hk, ob_some, iI_sub, iI_mul, iI_add, okZ_0, okZ_1]
  rw [← e1, ← e2, ← e3, if_i0lt o1, if_ieq0 o1, if_ile d1 d2]
  by_cases c1 : 0 < orr px py a k b
  · rw [if_pos c1, decide_eq_true (Or.inl c1)]; rfl
  · rw [if_neg c1]
    by_cases c2 : orr px py a k b = 0
    · rw [if_pos c2]
      by_cases c3 : dst px py a k ≤ dst px py a b
      · rw [if_pos c3, decide_eq_false (by omega)]; rfl
      · rw [if_neg c3, decide_eq_true (by omega)]; rfl
    · rw [if_neg c2, decide_eq_false (by omega)]; rfl
def enc : Option Nat → Int32
  | none => -1
  | some b => nI b
theorem nI_nn {b : Nat} (h : b ≤ 1000000) : ¬ nI b < 0 := by
  intro q
  rw [i_lt, nI_tI h] at q
  have : (0 : Int32).toInt = 0 := rfl
  omega
theorem goInner {N : Nat} {M : Mem} {px py : Nat → Int} {n a : Nat} (hN : 65 ≤ N) (h : PtX 6 7 M px py n) (hn : M.1 0 7 = nI n) (ha : a < n) : lp (fun _ _ => none) (sX6_goRound_147 M (nI a)) N (-1 : Int32) (0 : Int32) = some (enc (nx px py a n)) := by
  have hn64 := h.1
  have key := lp_rule (bot := fun _ _ => none) (step := sX6_goRound_147 M (nI a)) (fun m f => ∀ t, t ≤ n → n - t < m → f (enc (nx px py a t)) (nI t) = some (enc (nx px py a n))) (fun t _ h => by omega) (by
    intro m f hf t ht hm
    unfold sX6_goRound_147
    rw [hn, if_nle (by omega) (by omega), nI_1]
    by_cases e : n ≤ t
    · rw [if_pos e]
      have : t = n := by omega
      subst this
      rfl
    · rw [if_neg e]
      have htn : t < n := by omega
      have nxt := hf (t + 1) (by omega) (by omega)
      rw [isSame_eq h htn ha]
      simp only [ob_some, ifb]
      have hsucc : nx px py a (t + 1) = if px t = px a ∧ py t = py a then nx px py a t else match nx px py a t with
        | none => some t
        | some b => if 0 < orr px py a t b ∨ (orr px py a t b = 0 ∧ dst px py a b < dst px py a t) then some t else some b := rfl
      by_cases hs : px t = px a ∧ py t = py a
      · rw [if_pos hs] at hsucc
        rw [hsucc] at nxt
        rw [if_pos (decide_eq_true hs)]
        simp only [ob_some]
        exact nxt
      · rw [if_neg hs] at hsucc
        rw [if_neg (by simpa using hs)]
        cases hq : nx px py a t with
        | none =>
          rw [hq] at hsucc
          rw [hsucc] at nxt
          rw [if_pos (show enc none < 0 by decide)]
          simp only [ob_some]
          exact nxt
        | some b =>
          rw [hq] at hsucc
          dsimp only at hsucc
          obtain ⟨b1, b2⟩ := nx_ne t b hq
          have hbn : b < n := by omega
          rw [if_neg (show ¬ enc (some b) < 0 from nI_nn (by omega))]
          show Option.bind (Option.bind (fX6_isOuter M (nI a) (nI t) (nI b)) _) _ = _
          rw [isOuter_eq h ha htn hbn]
          simp only [ob_some, ifb]
          by_cases c : 0 < orr px py a t b ∨ (orr px py a t b = 0 ∧ dst px py a b < dst px py a t)
          · rw [if_pos c] at hsucc
            rw [hsucc] at nxt
            rw [if_pos (decide_eq_true c)]
            simp only [ob_some]
            exact nxt
          · rw [if_neg c] at hsucc
            rw [hsucc] at nxt
            rw [if_neg (by simpa using c)]
            simp only [ob_some]
            exact nxt) N 0 (by omega) (by omega)
  exact key
theorem goFirst {N : Nat} {M : Mem} {px py : Nat → Int} {n : Nat} (hN : 65 ≤ N) (h : PtX 6 7 M px py n) (hn : M.1 0 7 = nI n) (h1 : 1 ≤ n) : lp (fun _ _ => none) (sX6_goRound_9 M) N (0 : Int32) (1 : Int32) = some (nI (fsti px py n)) := by
  have hn64 := h.1
  have key := lp_rule (bot := fun _ _ => none) (step := sX6_goRound_9 M) (fun m f => ∀ t, 1 ≤ t → t ≤ n → n - t < m → f (nI (fsti px py t)) (nI t) = some (nI (fsti px py n))) (fun t _ _ h => by omega) (by
    intro m f hf t t1 ht hm
    unfold sX6_goRound_9
    rw [hn, if_nle (by omega) (by omega), nI_1]
    by_cases e : n ≤ t
    · rw [if_pos e]
      have : t = n := by omega
      subst this
      rfl
    · rw [if_neg e]
      have htn : t < n := by omega
      have hb := fsti_lt (px := px) (py := py) t1 ht
      have nxt := hf (t + 1) (by omega) (by omega) (by omega)
      simp only [h.x htn, h.y htn, h.x hb, h.y hb, ob_some]
      simp only [if_ieq (h.sx htn) (h.sx hb), if_ilt (h.sx htn) (h.sx hb), if_ile (h.sy hb) (h.sy htn)]
      have hsucc : fsti px py (t + 1) = if px t < px (fsti px py t) ∨ (px t = px (fsti px py t) ∧ py t < py (fsti px py t)) then t else fsti px py t := rfl
      have s1 : ∀ x y : Int32, ((some (1 : Int32)).bind fun v28 => (if v28 = 0 then some x else some y)) = some y := fun x y => by rw [ob_some, if1]
      have s0 : ∀ x y : Int32, ((some (0 : Int32)).bind fun v28 => (if v28 = 0 then some x else some y)) = some x := fun x y => by rw [ob_some, if0]
      by_cases c1 : px t < px (fsti px py t)
      · rw [if_pos c1]
        rw [if_pos (Or.inl c1)] at hsucc
        rw [hsucc] at nxt
        exact nxt
      · rw [if_neg c1]
        by_cases c2 : px t = px (fsti px py t)
        · rw [if_pos c2]
          by_cases c3 : py (fsti px py t) ≤ py t
          · rw [if_pos c3]
            rw [if_neg (by omega)] at hsucc
            rw [hsucc] at nxt
            exact nxt
          · rw [if_neg c3]
            rw [if_pos (by omega)] at hsucc
            rw [hsucc] at nxt
            exact nxt
        · rw [if_neg c2]
          rw [if_neg (by omega)] at hsucc
          rw [hsucc] at nxt
          exact nxt) N 1 (by omega) h1 (by omega)
  rw [fsti_1] at key
  exact key
theorem goWrap {N : Nat} {M M0 : Mem} {px py : Nat → Int} {n m : Nat} (hN : 70 ≤ N) (hG : Gp 0 6 7 7 M M0 px py n) (hn : n ≤ 64) (hB : box px py n) (hH : HULL px py n m) : ∃ M2, ((lp (fun _ _ => none) (sX6_goRound_9 M) N (0 : Int32) (1 : Int32)).bind fun v2 => (some (setI M 0 10 (0 : Int32))).bind fun M3 => lp (fun _ _ _ => none) (sX6_goRound_96 N v2) N v2 (1 : Int32) M3) = some M2 ∧ Fg 0 8 9 6 7 10 7 M2 M0 px py n (fun k => px (seqh px py n k)) (fun k => py (seqh px py n k)) m := by
  obtain ⟨m1, mn, hin, -, -⟩ := id hH
  have hF0 := hG.fig (ux := 8) (uy := 9) (pu := 10) (fun k => px (seqh px py n k)) (fun k => py (seqh px py n k)) hn hB (by decide) (by decide) (by decide)
  have hX : PtX 6 7 M px py n := ⟨hn, hB, fun s hs => by
    have := hF0.2.1.2.2.2 s hs
    rw [setI_ne (by decide), setI_ne (by decide)] at this
    exact this⟩
  rw [goFirst (by omega) hX hG.2.1 (by omega)]
  simp only [ob_some]
  have key := lp_rule (bot := fun _ _ _ => none) (step := sX6_goRound_96 N (nI (fsti px py n))) (fun w f => (∀ k M5, k < m → m - k + 1 < w → Fg 0 8 9 6 7 10 7 M5 M0 px py n (fun k => px (seqh px py n k)) (fun k => py (seqh px py n k)) k → ∃ M2, f (nI (seqh px py n k)) 1 M5 = some M2 ∧ Fg 0 8 9 6 7 10 7 M2 M0 px py n (fun k => px (seqh px py n k)) (fun k => py (seqh px py n k)) m) ∧ (∀ v M5, 0 < w → Fg 0 8 9 6 7 10 7 M5 M0 px py n (fun k => px (seqh px py n k)) (fun k => py (seqh px py n k)) m → ∃ M2, f v 0 M5 = some M2 ∧ Fg 0 8 9 6 7 10 7 M2 M0 px py n (fun k => px (seqh px py n k)) (fun k => py (seqh px py n k)) m)) ⟨fun k M5 _ h => by omega, fun v M5 h => by omega⟩ (by
    intro w f hf
    refine ⟨fun k M5 hk hw hF => ?_, fun v M5 _ hF => ⟨M5, by unfold sX6_goRound_96; rw [if_pos rfl], hF⟩⟩
    have hp := hF.put (by decide) (by decide) (by decide) (by decide) (by decide) (by decide)
    obtain ⟨f1, ⟨f2, f3⟩, f4, f5⟩ := id hF
    obtain ⟨s1, s2⟩ := hin k (by omega)
    obtain ⟨t1, t2⟩ := hin (k + 1) (by omega)
    obtain ⟨u1, -⟩ := hin 0 (by omega)
    unfold sX6_goRound_96
    rw [if1, f3.x s1]
    simp only [ob_some]
    rw [f4, stI_n (by omega) (by decide)]
    simp only [ob_some]
    have ly : ldI (setI M5 8 k (iI (px (seqh px py n k)))) 7 64 (nI (seqh px py n k)) = some (iI (py (seqh px py n k))) := by
      rw [ldI_n (by omega) (by decide), setI_ne (by decide), (f3.2.2 _ s1).2]
    rw [ly]
    simp only [ob_some]
    rw [setI_ne (show (0 : Nat) ≠ 8 by decide), f4, stI_n (by omega) (by decide)]
    simp only [ob_some]
    rw [setI_ne (show (0 : Nat) ≠ 9 by decide), setI_ne (show (0 : Nat) ≠ 8 by decide), f4, nI_1]
    rw [goInner (by omega) hp.2.1.2 hp.2.1.1 s1]
    simp only [ob_some]
    have e : (nx px py (seqh px py n k) n).getD (seqh px py n k) = seqh px py n (k + 1) := rfl
    have hst := hH.stop hk
    cases hq : nx px py (seqh px py n k) n with
    | none =>
      rw [hq] at e
      have al := nx_none s2 hq (seqh px py n 0) u1
      have e2 : k + 1 = m := hst.mp (by rw [← e]; exact ⟨al.1.symm, al.2.symm⟩)
      rw [if_pos (show enc none < 0 by decide)]
      simp only [ob_some]
      rw [← e2] at hf ⊢
      exact hf.2 _ _ (by omega) hp
    | some b =>
      rw [hq] at e
      have e' : b = seqh px py n (k + 1) := e
      rw [if_neg (show ¬ enc (some b) < 0 from nI_nn (by omega))]
      show ∃ M2, Option.bind (Option.bind (fX6_isSame _ (nI b) (nI (fsti px py n))) _) _ = _ ∧ _
      rw [e', isSame_eq hp.2.1.2 t1 (show fsti px py n < n from u1)]
      simp only [ob_some, ifb]
      by_cases c : k + 1 = m
      · rw [if_pos (decide_eq_true (show px (seqh px py n (k + 1)) = px (fsti px py n) ∧ py (seqh px py n (k + 1)) = py (fsti px py n) from hst.mpr c))]
        simp only [ob_some]
        rw [← c] at hf ⊢
        exact hf.2 _ _ (by omega) hp
      · have hne : ¬ (px (seqh px py n (k + 1)) = px (fsti px py n) ∧ py (seqh px py n (k + 1)) = py (fsti px py n)) := fun q => c (hst.mp q)
        rw [if_neg (by simpa using hne)]
        simp only [ob_some]
        exact hf.1 (k + 1) _ (by omega) (by omega) hp) N
  exact key.1 0 (setI M 0 10 0) (by omega) (by omega) hF0

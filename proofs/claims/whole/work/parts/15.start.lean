theorem wd_58 : Cond.classLink RL 7 RX5 ∈ gwT := rs_gw 58 (by decide +kernel) rfl
theorem wd_59 : Cond.instantiable RX5 6 ∈ gwT := rs_gw 59 (by decide +kernel) rfl
theorem wd_60 : Cond.methodLink RL 9 yX5_init ∈ gwT := rs_gw 60 (by decide +kernel) rfl
theorem wd_61 : Cond.instanceMethod yX5_init ∈ gwT := rs_gw 61 (by decide +kernel) rfl
theorem wd_62 : Cond.code yX5_init cX5_init 1 none ∈ gwT := rs_gw 62 (by decide +kernel) rfl
theorem wd_513 : Cond.classLink RL 10 RX6 ∈ gwT := rs_gw 513 (by decide +kernel) rfl
theorem wd_514 : Cond.instantiable RX6 22 ∈ gwT := rs_gw 514 (by decide +kernel) rfl
theorem wd_515 : Cond.methodLink RL 12 yX6_init ∈ gwT := rs_gw 515 (by decide +kernel) rfl
theorem wd_516 : Cond.instanceMethod yX6_init ∈ gwT := rs_gw 516 (by decide +kernel) rfl
theorem wd_517 : Cond.code yX6_init cX6_init 1 none ∈ gwT := rs_gw 517 (by decide +kernel) rfl
theorem xW_at {ad : Nat → Nat} {cI cJ : ClassId} {M : Mem} {k : Nat} {q : Nat × va_E} (h : (xW ad cI cJ M)[k]? = some q) : q.1 = ad k ∧ k < 24 := by
  have hk : k < 24 := (List.getElem?_eq_some_iff.mp h).1
  refine ⟨?_, hk⟩
  match k, hk with
  | 0, _ => cases h; rfl
  | 1, _ => cases h; rfl
  | 2, _ => cases h; rfl
  | 3, _ => cases h; rfl
  | 4, _ => cases h; rfl
  | 5, _ => cases h; rfl
  | 6, _ => cases h; rfl
  | 7, _ => cases h; rfl
  | 8, _ => cases h; rfl
  | 9, _ => cases h; rfl
  | 10, _ => cases h; rfl
  | 11, _ => cases h; rfl
  | 12, _ => cases h; rfl
  | 13, _ => cases h; rfl
  | 14, _ => cases h; rfl
  | 15, _ => cases h; rfl
  | 16, _ => cases h; rfl
  | 17, _ => cases h; rfl
  | 18, _ => cases h; rfl
  | 19, _ => cases h; rfl
  | 20, _ => cases h; rfl
  | 21, _ => cases h; rfl
  | 22, _ => cases h; rfl
  | 23, _ => cases h; rfl
theorem yW_at {ad : Nat → Nat} {cI cJ : ClassId} {M : Mem} {k : Nat} {q : Nat × va_E} (h : (yW ad cI cJ M)[k]? = some q) : q.1 = ad k ∧ k < 12 := by
  have hk : k < 12 := (List.getElem?_eq_some_iff.mp h).1
  refine ⟨?_, hk⟩
  match k, hk with
  | 0, _ => cases h; rfl
  | 1, _ => cases h; rfl
  | 2, _ => cases h; rfl
  | 3, _ => cases h; rfl
  | 4, _ => cases h; rfl
  | 5, _ => cases h; rfl
  | 6, _ => cases h; rfl
  | 7, _ => cases h; rfl
  | 8, _ => cases h; rfl
  | 9, _ => cases h; rfl
  | 10, _ => cases h; rfl
  | 11, _ => cases h; rfl
theorem xW_len {ad : Nat → Nat} {cI cJ : ClassId} {M : Mem} : (xW ad cI cJ M).length = 24 := rfl
theorem yW_len {ad : Nat → Nat} {cI cJ : ClassId} {M : Mem} : (yW ad cI cJ M).length = 12 := rfl
theorem xW_ex {ad : Nat → Nat} {cI cJ : ClassId} {M : Mem} {k : Nat} (hk : k < 24) : ∃ q, (xW ad cI cJ M)[k]? = some q ∧ q.1 = ad k := by
  have h : (xW ad cI cJ M)[k]? = some ((xW ad cI cJ M)[k]'(by rw [xW_len]; exact hk)) := List.getElem?_eq_getElem _
  exact ⟨_, h, (xW_at h).1⟩
theorem yW_ex {ad : Nat → Nat} {cI cJ : ClassId} {M : Mem} {k : Nat} (hk : k < 12) : ∃ q, (yW ad cI cJ M)[k]? = some q ∧ q.1 = ad k := by
  have h : (yW ad cI cJ M)[k]? = some ((yW ad cI cJ M)[k]'(by rw [yW_len]; exact hk)) := List.getElem?_eq_getElem _
  exact ⟨_, h, (yW_at h).1⟩
theorem xy_facts {A : Nat → Prop} {ad bd : Nat → Nat} {cI cJ : ClassId} {X0 Y0 : Mem} (hD : va_D A (xW ad cI cJ X0 ++ yW bd cI cJ Y0)) : (∀ M, va_D (xA ad) (xW ad cI cJ M)) ∧ (∀ M, va_D (yA bd) (yW bd cI cJ M)) ∧ (∀ q, xA ad q → A q) ∧ (∀ q, yA bd q → A q) ∧ (∀ q, xA ad q → yA bd q → False) := by
  have ax : ∀ k, k < 24 → ∃ q, (xW ad cI cJ X0 ++ yW bd cI cJ Y0)[k]? = some q ∧ q.1 = ad k := by
    intro k hk
    obtain ⟨q, h1, h2⟩ := xW_ex (ad := ad) (cI := cI) (cJ := cJ) (M := X0) hk
    exact ⟨q, by rw [List.getElem?_append_left (by rw [xW_len]; exact hk)]; exact h1, h2⟩
  have ay : ∀ k, k < 12 → ∃ q, (xW ad cI cJ X0 ++ yW bd cI cJ Y0)[24 + k]? = some q ∧ q.1 = bd k := by
    intro k hk
    obtain ⟨q, h1, h2⟩ := yW_ex (ad := bd) (cI := cI) (cJ := cJ) (M := Y0) hk
    refine ⟨q, ?_, h2⟩
    rw [List.getElem?_append_right (by rw [xW_len]; omega), xW_len, show 24 + k - 24 = k by omega]
    exact h1
  refine ⟨fun M => ⟨?_, fun k q h => ?_⟩, fun M => ⟨?_, fun k q h => ?_⟩, ?_, ?_, ?_⟩
  · intro i j p q hp hq hpq
    obtain ⟨e1, l1⟩ := xW_at hp
    obtain ⟨e2, l2⟩ := xW_at hq
    obtain ⟨p', a1, b1⟩ := ax i l1
    obtain ⟨q', a2, b2⟩ := ax j l2
    exact hD.1 i j p' q' a1 a2 (by rw [b1, b2, ← e1, ← e2, hpq])
  · exact ⟨k, (xW_at h).2, (xW_at h).1⟩
  · intro i j p q hp hq hpq
    obtain ⟨e1, l1⟩ := yW_at hp
    obtain ⟨e2, l2⟩ := yW_at hq
    obtain ⟨p', a1, b1⟩ := ay i l1
    obtain ⟨q', a2, b2⟩ := ay j l2
    have := hD.1 _ _ p' q' a1 a2 (by rw [b1, b2, ← e1, ← e2, hpq])
    omega
  · exact ⟨k, (yW_at h).2, (yW_at h).1⟩
  · rintro q ⟨k, hk, rfl⟩
    obtain ⟨p', a1, b1⟩ := ax k hk
    rw [← b1]; exact hD.2 _ _ a1
  · rintro q ⟨k, hk, rfl⟩
    obtain ⟨p', a1, b1⟩ := ay k hk
    rw [← b1]; exact hD.2 _ _ a1
  · rintro q ⟨i, hi, rfl⟩ ⟨j, hj, h⟩
    obtain ⟨p', a1, b1⟩ := ax i hi
    obtain ⟨q', a2, b2⟩ := ay j hj
    have := hD.1 _ _ p' q' a1 a2 (by rw [b1, b2, h])
    omega
theorem nest_in : ∀ q ∈ nestL, Cond.methodLinkNest q.1 q.2.1 q.2.2.1 q.2.2.2 ∈ lw_tbl := by
  have h : nestL.map (fun q => Cond.methodLinkNest q.1 q.2.1 q.2.2.1 q.2.2.2) = ([68, 111, 139, 170, 184, 257, 329, 371, 425, 441, 496] : List Nat).filterMap (fun i => lw_tbl[i]?) := by decide +kernel
  intro q hq
  have h1 : Cond.methodLinkNest q.1 q.2.1 q.2.2.1 q.2.2.2 ∈ nestL.map (fun q => Cond.methodLinkNest q.1 q.2.1 q.2.2.1 q.2.2.2) := List.mem_map.mpr ⟨q, hq, rfl⟩
  rw [h] at h1
  obtain ⟨i, -, hi⟩ := List.mem_filterMap.mp h1
  exact List.mem_of_getElem? hi
theorem st_P {args : Array Value} {s : State} {A : Nat → Prop} (hts : ∀ w ∈ lw_tbl, w.before args s = true) (hgv : (Jvm.Cond.and given_1 narrow_1).before args s = true) (hA : ∀ a : Nat, a < s.heap.size → ¬ A a) : ∃ t, va_Z "RootShapes$Fronts" "PRIMES" "[J" (.ref t) A s s.heap ∧ va_T .long t 3 fP A s s.heap := by
  have hs := flat_of_before _ hgv
  have e0 := va_eqtl (hs (Cond.eq (.elem (.static "RootShapes$Fronts" "PRIMES" "[J") (.int 0)) (.long 1000000007)) (by decide +kernel))
  have e1 := va_eqtl (hs (Cond.eq (.elem (.static "RootShapes$Fronts" "PRIMES" "[J") (.int 1)) (.long 1000000009)) (by decide +kernel))
  have e2 := va_eqtl (hs (Cond.eq (.elem (.static "RootShapes$Fronts" "PRIMES" "[J") (.int 2)) (.long 998244353)) (by decide +kernel))
  obtain ⟨t, h1, h2⟩ := va_Tof (N := 3) (f := fP) (A := A) (by decide) (hs (Cond.arrayOf (.static "RootShapes$Fronts" "PRIMES" "[J") .long) (by decide +kernel)) (va_eqt (hs (Cond.eq (.length (.static "RootShapes$Fronts" "PRIMES" "[J")) (.int 3)) (by decide +kernel)))
    (fun j hj => by
      rcases (show j = 0 ∨ j = 1 ∨ j = 2 by omega) with rfl | rfl | rfl
      · exact e0
      · exact e1
      · exact e2) hA
  exact ⟨t, va_Zof (hts _ (List.mem_of_getElem? (i := 433) (by decide +kernel))) (hts _ (List.mem_of_getElem? (i := 53) (by decide +kernel))) h1 hA, h2⟩
theorem st_R {args : Array Value} {s : State} {A : Nat → Prop} (hts : ∀ w ∈ lw_tbl, w.before args s = true) (hgv : (Jvm.Cond.and given_1 narrow_1).before args s = true) (hA : ∀ a : Nat, a < s.heap.size → ¬ A a) : ∃ t, va_Z "RootShapes" "ROUND_PRIMES" "[I" (.ref t) A s s.heap ∧ va_T .int t 11 fR A s s.heap := by
  have hs := flat_of_before _ hgv
  have e0 := va_eqt (hs (Cond.eq (.elem (.static "RootShapes" "ROUND_PRIMES" "[I") (.int 0)) (.int 2)) (by decide +kernel))
  have e1 := va_eqt (hs (Cond.eq (.elem (.static "RootShapes" "ROUND_PRIMES" "[I") (.int 1)) (.int 3)) (by decide +kernel))
  have e2 := va_eqt (hs (Cond.eq (.elem (.static "RootShapes" "ROUND_PRIMES" "[I") (.int 2)) (.int 5)) (by decide +kernel))
  have e3 := va_eqt (hs (Cond.eq (.elem (.static "RootShapes" "ROUND_PRIMES" "[I") (.int 3)) (.int 7)) (by decide +kernel))
  have e4 := va_eqt (hs (Cond.eq (.elem (.static "RootShapes" "ROUND_PRIMES" "[I") (.int 4)) (.int 11)) (by decide +kernel))
  have e5 := va_eqt (hs (Cond.eq (.elem (.static "RootShapes" "ROUND_PRIMES" "[I") (.int 5)) (.int 13)) (by decide +kernel))
  have e6 := va_eqt (hs (Cond.eq (.elem (.static "RootShapes" "ROUND_PRIMES" "[I") (.int 6)) (.int 17)) (by decide +kernel))
  have e7 := va_eqt (hs (Cond.eq (.elem (.static "RootShapes" "ROUND_PRIMES" "[I") (.int 7)) (.int 19)) (by decide +kernel))
  have e8 := va_eqt (hs (Cond.eq (.elem (.static "RootShapes" "ROUND_PRIMES" "[I") (.int 8)) (.int 23)) (by decide +kernel))
  have e9 := va_eqt (hs (Cond.eq (.elem (.static "RootShapes" "ROUND_PRIMES" "[I") (.int 9)) (.int 29)) (by decide +kernel))
  have e10 := va_eqt (hs (Cond.eq (.elem (.static "RootShapes" "ROUND_PRIMES" "[I") (.int 10)) (.int 31)) (by decide +kernel))
  obtain ⟨t, h1, h2⟩ := va_Tof (N := 11) (f := fR) (A := A) (by decide) (hs (Cond.arrayOf (.static "RootShapes" "ROUND_PRIMES" "[I") .int) (by decide +kernel)) (va_eqt (hs (Cond.eq (.length (.static "RootShapes" "ROUND_PRIMES" "[I")) (.int 11)) (by decide +kernel)))
    (fun j hj => by
      rcases (show j = 0 ∨ j = 1 ∨ j = 2 ∨ j = 3 ∨ j = 4 ∨ j = 5 ∨ j = 6 ∨ j = 7 ∨ j = 8 ∨ j = 9 ∨ j = 10 by omega) with rfl | rfl | rfl | rfl | rfl | rfl | rfl | rfl | rfl | rfl | rfl
      · exact e0
      · exact e1
      · exact e2
      · exact e3
      · exact e4
      · exact e5
      · exact e6
      · exact e7
      · exact e8
      · exact e9
      · exact e10) hA
  exact ⟨t, va_Zof (hts _ (List.mem_of_getElem? (i := 491) (by decide +kernel))) (hts _ (List.mem_of_getElem? (i := 49) (by decide +kernel))) h1 hA, h2⟩
def M00 : Mem := (fun _ _ => 0, fun _ _ => 0)
def M01 : Mem := setI M00 16 4 1
def adOf (a : Nat) (u : Nat → Nat) : Nat → Nat := fun k => match k with
  | 0 => a
  | k + 1 => u (k + 1)
set_option maxRecDepth 100000 in
set_option maxHeartbeats 4000000 in
/-- from the law's entry to its loop -/
theorem start_of {p : Program} {e : Env} {s : State} {m : MethodId} {below : List Frame} {meth : Method} {c : Code} (N : Nat) (Sim : Mem → Mem → Prop) (hst : LawSteps N Sim) (hsim0 : Sim M01 M00) (l : Launch) {b L : Nat} {xs : Nat → Int32} (hL : L ≤ 2560) (C0 : lw_At p s m meth c b L xs) : W p l e room_1 s m #[Value.ref b] below meth c s.heap [] 0 0 (lw_Z below #[Value.ref b] s) (entryFrame m ([Value.ref b] : List Value).toArray 4) := by
  obtain ⟨hx, hb, hr, hml, hown, hts0, hX, hbl, hlocks, hgv⟩ := id C0
  have hts : ∀ w ∈ gwT, w.before #[Value.ref b] s = true := fun w hw => hts0 w (List.mem_filter.mp hw).1
  have hA : ∀ q : Nat, s.heap.size ≤ q → (fun q : Nat => s.heap.size ≤ q) q := fun _ h => h
  have hbA : ¬ (fun q : Nat => s.heap.size ≤ q) b := Nat.not_le.mpr hbl
  obtain ⟨c0, iS0, hKn0⟩ := u_known (C := RX0) (T := TX0) (N := 5) (n := 5) hts hinX0 (hts _ wd_67)
  obtain ⟨c1, iS1, hKn1⟩ := u_known (C := RX1) (T := TX1) (N := 6) (n := 6) hts hinX1 (hts _ wd_110)
  obtain ⟨c2, iS2, hKn2⟩ := u_known (C := RX2) (T := TX2) (N := 2) (n := 2) hts hinX2 (hts _ wd_169)
  obtain ⟨c3, iS3, hKn3⟩ := u_known (C := RX3) (T := TX3) (N := 4) (n := 4) hts hinX3 (hts _ wd_183)
  obtain ⟨c4, iS4, hKn4⟩ := u_known (C := RX4) (T := TX4) (N := 7) (n := 7) hts hinX4 (hts _ wd_138)
  obtain ⟨c5, iS5, hKn5⟩ := u_known (C := RX5) (T := TX5) (N := 6) (n := 6) hts hinX5 (hts _ wd_59)
  obtain ⟨c6, iS6, hKn6⟩ := u_known (C := RX6) (T := TX6) (N := 22) (n := 22) hts hinX6 (hts _ wd_514)
  obtain ⟨D, hKc⟩ : ∃ D : va_G, ∀ (k : Nat) (q : vw_C), vwCl[k]? = some q → u_Kn s q.1 q.2.1 q.2.2 (D.1 k) (D.2 k) := by
    refine ⟨(fun k => if k = 0 then c0 else if k = 1 then c1 else if k = 2 then c2 else if k = 3 then c3 else if k = 4 then c4 else if k = 5 then c5 else  c6, fun k => if k = 0 then iS0 else if k = 1 then iS1 else if k = 2 then iS2 else if k = 3 then iS3 else if k = 4 then iS4 else if k = 5 then iS5 else  iS6), ?_⟩
    intro k q hq
    match k, hq with
    | 0, hq => cases hq; exact hKn0
    | 1, hq => cases hq; exact hKn1
    | 2, hq => cases hq; exact hKn2
    | 3, hq => cases hq; exact hKn3
    | 4, hq => cases hq; exact hKn4
    | 5, hq => cases hq; exact hKn5
    | 6, hq => cases hq; exact hKn6
    | k + 7, hq => simp [vwCl] at hq
  obtain ⟨cI, kI, compI, fI, gI, rI⟩ := Cond.arrayClass_spec (hts _ wd_108)
  obtain ⟨cJ, kJ, compJ, fJ, gJ, rJ⟩ := Cond.arrayClass_spec (hts _ wd_181)
  have hK : va_K D vwCl [(cI, .int), (cJ, .long)] s := by
    refine ⟨hKc, fun k q h => ?_⟩
    match k, h with
    | 0, h => cases h; exact ⟨fun n z => ⟨fun k h => (by cases h), kI, gI, compI, rI⟩, fI⟩
    | 1, h => cases h; exact ⟨fun n z => ⟨fun k h => (by cases h), kJ, gJ, compJ, rJ⟩, fJ⟩
    | k + 2, h => simp at h
  have hN : ∀ q ∈ nestL, va_Nw (.methodLinkNest q.1 q.2.1 q.2.2.1 q.2.2.2) s := fun q hq => va_Nw.of rfl (hts0 _ (nest_in q hq))
  obtain ⟨tP, zP, aP⟩ := st_P (A := (fun q : Nat => s.heap.size ≤ q)) hts0 hgv (fun a h => Nat.not_le.mpr h)
  obtain ⟨tR, zR, aR⟩ := st_R (A := (fun q : Nat => s.heap.size ≤ q)) hts0 hgv (fun a h => Nat.not_le.mpr h)
  have hS : va_S (fun q : Nat => s.heap.size ≤ q) s.heap s.heap [] := va_S.rf
  have hP : va_P D vwCl [] s.heap := fun k q h => by simp at h
  have hD : va_D (fun q : Nat => s.heap.size ≤ q) [] := ⟨fun i j p q h => by simp at h, fun k q h => by simp at h⟩
  have hl := lv_entry ([.ref b]) (n := 4) (Nat.le_of_ble_eq_true rfl)
  rw [lg_entry_eq]
  generalize (lg_sl ([.ref b]) ++ List.replicate (4 - (lg_sl ([.ref b])).length) Slot.unset).toArray = ls at hl ⊢
  have hl : lv_has ls 4 [(0, .ref b)] := hl
  refine va_new (ci := 5) (fs := [.null, .null, .null, .null, .null, .null]) (C := RX5) (T := TX5) (N := 6) hx hb hts hinX5 tyX5 tyX5_ok hown (hts _ wd_58) (hts _ wd_59) (hts _ wd_49) hK hP hD hS hA rfl (fun j hj => by rcases (show j = 0 ∨ j = 1 ∨ j = 2 ∨ j = 3 ∨ j = 4 ∨ j = 5 by omega) with rfl | rfl | rfl | rfl | rfl | rfl <;> rfl) (Nat.le_of_ble_eq_true rfl) (Nat.le_of_ble_eq_true rfl) dL_law_0 (fun q0 H hP hD hS => ?_)
  have hP : va_P D vwCl [(q0, .inr (5, [.null, .null, .null, .null, .null, .null]))] H := hP
  have hD : va_D (fun q : Nat => s.heap.size ≤ q) [(q0, .inr (5, [.null, .null, .null, .null, .null, .null]))] := hD
  refine W.widen (k := 1) (n := 6) (by omega) (by omega) ?_
  refine lv_dup hx hb dL_law_3 rfl ?_
  have hPc := hP.sub (ws' := [(q0, .inr (5, [.null, .null, .null, .null, .null, .null]))]) [0] rfl
  have hDc := hD.sub (ws' := [(q0, .inr (5, [.null, .null, .null, .null, .null, .null]))]) [0] (by decide) rfl
  have hFc := va_free (wc := [(q0, .inr (5, [.null, .null, .null, .null, .null, .null]))]) hD hS hA [0] rfl
  refine va_callv (va_runI (As := []) (rest := [.ref q0]) ⟨hx, hb, hml, hown, hts⟩ (kX5_init l D cI cJ q0 H.size) (cwI 0 hts (rs_good wd_62) rfl rfl rfl (hts _ wd_49) (hts _ wd_60) (hts _ wd_61) rfl (by decide +kernel) ⟨Nat.le_of_ble_eq_true rfl, Nat.le_of_ble_eq_true rfl⟩) ⟨rs_blindI, fun U hU hW => ⟨rfl, by rw [hU], by rw [hU]; exact hPc, va_K.moved hW.alike hK, fun q hq => va_Nw.warmM hW (hN q hq), hDc.weaken (fun _ _ _ _ => trivial)⟩⟩ rfl rfl hl.1 rfl (lv_room (Nat.le_of_ble_eq_true rfl)) dL_law_4 ⟨Nat.le_of_ble_eq_true rfl, Nat.le_of_ble_eq_true rfl⟩) hS (fun q _ h => hFc q h) hFc (fun u t H1 locs ht hvm hw hB hz1 hk1 hS => ?_)
  obtain ⟨hP1, hD1⟩ := hB
  rw [ht] at hP1
  obtain ⟨hP, hD⟩ := va_join (wr := []) (w1 := [(q0, .inr (5, [.ref (u 1), .ref (u 6), .ref (u 11), .ref (u 16), .ref (u 18), .ref (u 21)])), ((u 1), .inr (0, [.ref (u 2), .ref (u 3), .ref (u 4), .ref (u 5), .int 0])), ((u 2), .inl (cI, 8, .inl (fun _ => 0))), ((u 3), .inl (cI, 8, .inl (fun _ => 0))), ((u 4), .inl (cI, 8, .inl (fun _ => 0))), ((u 5), .inl (cI, 8, .inl (fun _ => 0))), ((u 6), .inr (0, [.ref (u 7), .ref (u 8), .ref (u 9), .ref (u 10), .int 0])), ((u 7), .inl (cI, 8, .inl (fun _ => 0))), ((u 8), .inl (cI, 8, .inl (fun _ => 0))), ((u 9), .inl (cI, 8, .inl (fun _ => 0))), ((u 10), .inl (cI, 8, .inl (fun _ => 0))), ((u 11), .inr (1, [.ref (u 12), .ref (u 13), .int 0, .ref (u 14), .ref (u 15), .int 0])), ((u 12), .inl (cI, 64, .inl (fun _ => 0))), ((u 13), .inl (cI, 64, .inl (fun _ => 0))), ((u 14), .inl (cI, 64, .inl (fun _ => 0))), ((u 15), .inl (cI, 64, .inl (fun _ => 0))), ((u 16), .inr (4, [.int 0, .int 0, .int 0, .ref (u 17), .int 1, .int 0, .int 0])), ((u 17), .inl (cI, 784, .inl (fun _ => 0))), ((u 18), .inr (2, [.ref (u 19), .ref (u 20)])), ((u 19), .inl (cJ, 7, .inr (.inl (fun _ => 0)))), ((u 20), .inl (cJ, 7, .inr (.inl (fun _ => 0)))), ((u 21), .inr (3, [.ref (u 22), .int 0, .int 0, .ref (u 23)])), ((u 22), .inl (cI, 900, .inl (fun _ => 0))), ((u 23), .inl (cI, 217, .inl (fun _ => 0)))]) hP hD [0] [] rfl rfl (by decide) (by decide) hk1 hFc hP1 hD1
  generalize H1 = H at hP hS ⊢
  have hP : va_P D vwCl [(q0, .inr (5, [.ref (u 1), .ref (u 6), .ref (u 11), .ref (u 16), .ref (u 18), .ref (u 21)])), ((u 1), .inr (0, [.ref (u 2), .ref (u 3), .ref (u 4), .ref (u 5), .int 0])), ((u 2), .inl (cI, 8, .inl (fun _ => 0))), ((u 3), .inl (cI, 8, .inl (fun _ => 0))), ((u 4), .inl (cI, 8, .inl (fun _ => 0))), ((u 5), .inl (cI, 8, .inl (fun _ => 0))), ((u 6), .inr (0, [.ref (u 7), .ref (u 8), .ref (u 9), .ref (u 10), .int 0])), ((u 7), .inl (cI, 8, .inl (fun _ => 0))), ((u 8), .inl (cI, 8, .inl (fun _ => 0))), ((u 9), .inl (cI, 8, .inl (fun _ => 0))), ((u 10), .inl (cI, 8, .inl (fun _ => 0))), ((u 11), .inr (1, [.ref (u 12), .ref (u 13), .int 0, .ref (u 14), .ref (u 15), .int 0])), ((u 12), .inl (cI, 64, .inl (fun _ => 0))), ((u 13), .inl (cI, 64, .inl (fun _ => 0))), ((u 14), .inl (cI, 64, .inl (fun _ => 0))), ((u 15), .inl (cI, 64, .inl (fun _ => 0))), ((u 16), .inr (4, [.int 0, .int 0, .int 0, .ref (u 17), .int 1, .int 0, .int 0])), ((u 17), .inl (cI, 784, .inl (fun _ => 0))), ((u 18), .inr (2, [.ref (u 19), .ref (u 20)])), ((u 19), .inl (cJ, 7, .inr (.inl (fun _ => 0)))), ((u 20), .inl (cJ, 7, .inr (.inl (fun _ => 0)))), ((u 21), .inr (3, [.ref (u 22), .int 0, .int 0, .ref (u 23)])), ((u 22), .inl (cI, 900, .inl (fun _ => 0))), ((u 23), .inl (cI, 217, .inl (fun _ => 0)))] H := hP
  have hD : va_D (fun q : Nat => s.heap.size ≤ q) [(q0, .inr (5, [.ref (u 1), .ref (u 6), .ref (u 11), .ref (u 16), .ref (u 18), .ref (u 21)])), ((u 1), .inr (0, [.ref (u 2), .ref (u 3), .ref (u 4), .ref (u 5), .int 0])), ((u 2), .inl (cI, 8, .inl (fun _ => 0))), ((u 3), .inl (cI, 8, .inl (fun _ => 0))), ((u 4), .inl (cI, 8, .inl (fun _ => 0))), ((u 5), .inl (cI, 8, .inl (fun _ => 0))), ((u 6), .inr (0, [.ref (u 7), .ref (u 8), .ref (u 9), .ref (u 10), .int 0])), ((u 7), .inl (cI, 8, .inl (fun _ => 0))), ((u 8), .inl (cI, 8, .inl (fun _ => 0))), ((u 9), .inl (cI, 8, .inl (fun _ => 0))), ((u 10), .inl (cI, 8, .inl (fun _ => 0))), ((u 11), .inr (1, [.ref (u 12), .ref (u 13), .int 0, .ref (u 14), .ref (u 15), .int 0])), ((u 12), .inl (cI, 64, .inl (fun _ => 0))), ((u 13), .inl (cI, 64, .inl (fun _ => 0))), ((u 14), .inl (cI, 64, .inl (fun _ => 0))), ((u 15), .inl (cI, 64, .inl (fun _ => 0))), ((u 16), .inr (4, [.int 0, .int 0, .int 0, .ref (u 17), .int 1, .int 0, .int 0])), ((u 17), .inl (cI, 784, .inl (fun _ => 0))), ((u 18), .inr (2, [.ref (u 19), .ref (u 20)])), ((u 19), .inl (cJ, 7, .inr (.inl (fun _ => 0)))), ((u 20), .inl (cJ, 7, .inr (.inl (fun _ => 0)))), ((u 21), .inr (3, [.ref (u 22), .int 0, .int 0, .ref (u 23)])), ((u 22), .inl (cI, 900, .inl (fun _ => 0))), ((u 23), .inl (cI, 217, .inl (fun _ => 0)))] := hD
  refine W.widen (k := 24) (n := 2270) (by omega) (by omega) ?_
  refine lv_astore_n (lv' := [(1, .ref q0), (0, .ref b)]) hx hb dL_law_7 rfl hl (by decide) rfl (fun ls hl => ?_)
  refine va_new (ci := 6) (fs := [.null, .null, .null, .null, .null, .null, .null, .int 0, .null, .null, .int 0, .int 0, .int 0, .int 0, .int 0, .int 0, .int 0, .int 0, .int 0, .int 0, .null, .null]) (C := RX6) (T := TX6) (N := 22) hx hb hts hinX6 tyX6 tyX6_ok hown (hts _ wd_513) (hts _ wd_514) (hts _ wd_55) hK hP hD hS hA rfl (fun j hj => by rcases (show j = 0 ∨ j = 1 ∨ j = 2 ∨ j = 3 ∨ j = 4 ∨ j = 5 ∨ j = 6 ∨ j = 7 ∨ j = 8 ∨ j = 9 ∨ j = 10 ∨ j = 11 ∨ j = 12 ∨ j = 13 ∨ j = 14 ∨ j = 15 ∨ j = 16 ∨ j = 17 ∨ j = 18 ∨ j = 19 ∨ j = 20 ∨ j = 21 by omega) with rfl | rfl | rfl | rfl | rfl | rfl | rfl | rfl | rfl | rfl | rfl | rfl | rfl | rfl | rfl | rfl | rfl | rfl | rfl | rfl | rfl | rfl <;> rfl) (Nat.le_of_ble_eq_true rfl) (Nat.le_of_ble_eq_true rfl) dL_law_8 (fun q8 H hP hD hS => ?_)
  have hP : va_P D vwCl [(q0, .inr (5, [.ref (u 1), .ref (u 6), .ref (u 11), .ref (u 16), .ref (u 18), .ref (u 21)])), ((u 1), .inr (0, [.ref (u 2), .ref (u 3), .ref (u 4), .ref (u 5), .int 0])), ((u 2), .inl (cI, 8, .inl (fun _ => 0))), ((u 3), .inl (cI, 8, .inl (fun _ => 0))), ((u 4), .inl (cI, 8, .inl (fun _ => 0))), ((u 5), .inl (cI, 8, .inl (fun _ => 0))), ((u 6), .inr (0, [.ref (u 7), .ref (u 8), .ref (u 9), .ref (u 10), .int 0])), ((u 7), .inl (cI, 8, .inl (fun _ => 0))), ((u 8), .inl (cI, 8, .inl (fun _ => 0))), ((u 9), .inl (cI, 8, .inl (fun _ => 0))), ((u 10), .inl (cI, 8, .inl (fun _ => 0))), ((u 11), .inr (1, [.ref (u 12), .ref (u 13), .int 0, .ref (u 14), .ref (u 15), .int 0])), ((u 12), .inl (cI, 64, .inl (fun _ => 0))), ((u 13), .inl (cI, 64, .inl (fun _ => 0))), ((u 14), .inl (cI, 64, .inl (fun _ => 0))), ((u 15), .inl (cI, 64, .inl (fun _ => 0))), ((u 16), .inr (4, [.int 0, .int 0, .int 0, .ref (u 17), .int 1, .int 0, .int 0])), ((u 17), .inl (cI, 784, .inl (fun _ => 0))), ((u 18), .inr (2, [.ref (u 19), .ref (u 20)])), ((u 19), .inl (cJ, 7, .inr (.inl (fun _ => 0)))), ((u 20), .inl (cJ, 7, .inr (.inl (fun _ => 0)))), ((u 21), .inr (3, [.ref (u 22), .int 0, .int 0, .ref (u 23)])), ((u 22), .inl (cI, 900, .inl (fun _ => 0))), ((u 23), .inl (cI, 217, .inl (fun _ => 0))), (q8, .inr (6, [.null, .null, .null, .null, .null, .null, .null, .int 0, .null, .null, .int 0, .int 0, .int 0, .int 0, .int 0, .int 0, .int 0, .int 0, .int 0, .int 0, .null, .null]))] H := hP
  have hD : va_D (fun q : Nat => s.heap.size ≤ q) [(q0, .inr (5, [.ref (u 1), .ref (u 6), .ref (u 11), .ref (u 16), .ref (u 18), .ref (u 21)])), ((u 1), .inr (0, [.ref (u 2), .ref (u 3), .ref (u 4), .ref (u 5), .int 0])), ((u 2), .inl (cI, 8, .inl (fun _ => 0))), ((u 3), .inl (cI, 8, .inl (fun _ => 0))), ((u 4), .inl (cI, 8, .inl (fun _ => 0))), ((u 5), .inl (cI, 8, .inl (fun _ => 0))), ((u 6), .inr (0, [.ref (u 7), .ref (u 8), .ref (u 9), .ref (u 10), .int 0])), ((u 7), .inl (cI, 8, .inl (fun _ => 0))), ((u 8), .inl (cI, 8, .inl (fun _ => 0))), ((u 9), .inl (cI, 8, .inl (fun _ => 0))), ((u 10), .inl (cI, 8, .inl (fun _ => 0))), ((u 11), .inr (1, [.ref (u 12), .ref (u 13), .int 0, .ref (u 14), .ref (u 15), .int 0])), ((u 12), .inl (cI, 64, .inl (fun _ => 0))), ((u 13), .inl (cI, 64, .inl (fun _ => 0))), ((u 14), .inl (cI, 64, .inl (fun _ => 0))), ((u 15), .inl (cI, 64, .inl (fun _ => 0))), ((u 16), .inr (4, [.int 0, .int 0, .int 0, .ref (u 17), .int 1, .int 0, .int 0])), ((u 17), .inl (cI, 784, .inl (fun _ => 0))), ((u 18), .inr (2, [.ref (u 19), .ref (u 20)])), ((u 19), .inl (cJ, 7, .inr (.inl (fun _ => 0)))), ((u 20), .inl (cJ, 7, .inr (.inl (fun _ => 0)))), ((u 21), .inr (3, [.ref (u 22), .int 0, .int 0, .ref (u 23)])), ((u 22), .inl (cI, 900, .inl (fun _ => 0))), ((u 23), .inl (cI, 217, .inl (fun _ => 0))), (q8, .inr (6, [.null, .null, .null, .null, .null, .null, .null, .int 0, .null, .null, .int 0, .int 0, .int 0, .int 0, .int 0, .int 0, .int 0, .int 0, .int 0, .int 0, .null, .null]))] := hD
  refine W.widen (k := 25) (n := 2292) (by omega) (by omega) ?_
  refine lv_dup hx hb dL_law_11 rfl ?_
  have hPc := hP.sub (ws' := [(q8, .inr (6, [.null, .null, .null, .null, .null, .null, .null, .int 0, .null, .null, .int 0, .int 0, .int 0, .int 0, .int 0, .int 0, .int 0, .int 0, .int 0, .int 0, .null, .null]))]) [24] rfl
  have hDc := hD.sub (ws' := [(q8, .inr (6, [.null, .null, .null, .null, .null, .null, .null, .int 0, .null, .null, .int 0, .int 0, .int 0, .int 0, .int 0, .int 0, .int 0, .int 0, .int 0, .int 0, .null, .null]))]) [24] (by decide) rfl
  have hFc := va_free (wc := [(q8, .inr (6, [.null, .null, .null, .null, .null, .null, .null, .int 0, .null, .null, .int 0, .int 0, .int 0, .int 0, .int 0, .int 0, .int 0, .int 0, .int 0, .int 0, .null, .null]))]) hD hS hA [24] rfl
  refine va_callv (va_runI (As := []) (rest := [.ref q8]) ⟨hx, hb, hml, hown, hts⟩ (kX6_init l D cI cJ q8 H.size) (cwI 0 hts (rs_good wd_517) rfl rfl rfl (hts _ wd_55) (hts _ wd_515) (hts _ wd_516) rfl (by decide +kernel) ⟨Nat.le_of_ble_eq_true rfl, Nat.le_of_ble_eq_true rfl⟩) ⟨rs_blindI, fun U hU hW => ⟨rfl, by rw [hU], by rw [hU]; exact hPc, va_K.moved hW.alike hK, fun q hq => va_Nw.warmM hW (hN q hq), hDc.weaken (fun _ _ _ _ => trivial)⟩⟩ rfl rfl hl.1 rfl (lv_room (Nat.le_of_ble_eq_true rfl)) dL_law_12 ⟨Nat.le_of_ble_eq_true rfl, Nat.le_of_ble_eq_true rfl⟩) hS (fun q _ h => hFc q h) hFc (fun w t H1 locs ht hvm hw hB hz1 hk1 hS => ?_)
  obtain ⟨hP1, hD1⟩ := hB
  rw [ht] at hP1
  obtain ⟨hP, hD⟩ := va_join (wr := [(q0, .inr (5, [.ref (u 1), .ref (u 6), .ref (u 11), .ref (u 16), .ref (u 18), .ref (u 21)])), ((u 1), .inr (0, [.ref (u 2), .ref (u 3), .ref (u 4), .ref (u 5), .int 0])), ((u 2), .inl (cI, 8, .inl (fun _ => 0))), ((u 3), .inl (cI, 8, .inl (fun _ => 0))), ((u 4), .inl (cI, 8, .inl (fun _ => 0))), ((u 5), .inl (cI, 8, .inl (fun _ => 0))), ((u 6), .inr (0, [.ref (u 7), .ref (u 8), .ref (u 9), .ref (u 10), .int 0])), ((u 7), .inl (cI, 8, .inl (fun _ => 0))), ((u 8), .inl (cI, 8, .inl (fun _ => 0))), ((u 9), .inl (cI, 8, .inl (fun _ => 0))), ((u 10), .inl (cI, 8, .inl (fun _ => 0))), ((u 11), .inr (1, [.ref (u 12), .ref (u 13), .int 0, .ref (u 14), .ref (u 15), .int 0])), ((u 12), .inl (cI, 64, .inl (fun _ => 0))), ((u 13), .inl (cI, 64, .inl (fun _ => 0))), ((u 14), .inl (cI, 64, .inl (fun _ => 0))), ((u 15), .inl (cI, 64, .inl (fun _ => 0))), ((u 16), .inr (4, [.int 0, .int 0, .int 0, .ref (u 17), .int 1, .int 0, .int 0])), ((u 17), .inl (cI, 784, .inl (fun _ => 0))), ((u 18), .inr (2, [.ref (u 19), .ref (u 20)])), ((u 19), .inl (cJ, 7, .inr (.inl (fun _ => 0)))), ((u 20), .inl (cJ, 7, .inr (.inl (fun _ => 0)))), ((u 21), .inr (3, [.ref (u 22), .int 0, .int 0, .ref (u 23)])), ((u 22), .inl (cI, 900, .inl (fun _ => 0))), ((u 23), .inl (cI, 217, .inl (fun _ => 0)))]) (w1 := [(q8, .inr (6, [.ref (w 1), .ref (w 2), .ref (w 3), .ref (w 4), .ref (w 5), .ref (w 6), .ref (w 7), .int 0, .ref (w 8), .ref (w 9), .int 0, .int 0, .int 0, .int 0, .int 0, .int 0, .int 0, .int 0, .int 0, .int 0, .ref (w 10), .ref (w 11)])), ((w 1), .inl (cI, 16, .inl (fun _ => 0))), ((w 2), .inl (cI, 16, .inl (fun _ => 0))), ((w 3), .inl (cI, 16, .inl (fun _ => 0))), ((w 4), .inl (cI, 16, .inl (fun _ => 0))), ((w 5), .inl (cI, 2, .inl (fun _ => 0))), ((w 6), .inl (cI, 64, .inl (fun _ => 0))), ((w 7), .inl (cI, 64, .inl (fun _ => 0))), ((w 8), .inl (cI, 64, .inl (fun _ => 0))), ((w 9), .inl (cI, 64, .inl (fun _ => 0))), ((w 10), .inl (cJ, 14, .inr (.inl (fun _ => 0)))), ((w 11), .inl (cI, 2, .inl (fun _ => 0)))]) hP hD [24] [0, 1, 2, 3, 4, 5, 6, 7, 8, 9, 10, 11, 12, 13, 14, 15, 16, 17, 18, 19, 20, 21, 22, 23] rfl rfl (by decide) (by decide) hk1 hFc hP1 hD1
  generalize H1 = H at hP hS ⊢
  have hP : va_P D vwCl [(q0, .inr (5, [.ref (u 1), .ref (u 6), .ref (u 11), .ref (u 16), .ref (u 18), .ref (u 21)])), ((u 1), .inr (0, [.ref (u 2), .ref (u 3), .ref (u 4), .ref (u 5), .int 0])), ((u 2), .inl (cI, 8, .inl (fun _ => 0))), ((u 3), .inl (cI, 8, .inl (fun _ => 0))), ((u 4), .inl (cI, 8, .inl (fun _ => 0))), ((u 5), .inl (cI, 8, .inl (fun _ => 0))), ((u 6), .inr (0, [.ref (u 7), .ref (u 8), .ref (u 9), .ref (u 10), .int 0])), ((u 7), .inl (cI, 8, .inl (fun _ => 0))), ((u 8), .inl (cI, 8, .inl (fun _ => 0))), ((u 9), .inl (cI, 8, .inl (fun _ => 0))), ((u 10), .inl (cI, 8, .inl (fun _ => 0))), ((u 11), .inr (1, [.ref (u 12), .ref (u 13), .int 0, .ref (u 14), .ref (u 15), .int 0])), ((u 12), .inl (cI, 64, .inl (fun _ => 0))), ((u 13), .inl (cI, 64, .inl (fun _ => 0))), ((u 14), .inl (cI, 64, .inl (fun _ => 0))), ((u 15), .inl (cI, 64, .inl (fun _ => 0))), ((u 16), .inr (4, [.int 0, .int 0, .int 0, .ref (u 17), .int 1, .int 0, .int 0])), ((u 17), .inl (cI, 784, .inl (fun _ => 0))), ((u 18), .inr (2, [.ref (u 19), .ref (u 20)])), ((u 19), .inl (cJ, 7, .inr (.inl (fun _ => 0)))), ((u 20), .inl (cJ, 7, .inr (.inl (fun _ => 0)))), ((u 21), .inr (3, [.ref (u 22), .int 0, .int 0, .ref (u 23)])), ((u 22), .inl (cI, 900, .inl (fun _ => 0))), ((u 23), .inl (cI, 217, .inl (fun _ => 0))), (q8, .inr (6, [.ref (w 1), .ref (w 2), .ref (w 3), .ref (w 4), .ref (w 5), .ref (w 6), .ref (w 7), .int 0, .ref (w 8), .ref (w 9), .int 0, .int 0, .int 0, .int 0, .int 0, .int 0, .int 0, .int 0, .int 0, .int 0, .ref (w 10), .ref (w 11)])), ((w 1), .inl (cI, 16, .inl (fun _ => 0))), ((w 2), .inl (cI, 16, .inl (fun _ => 0))), ((w 3), .inl (cI, 16, .inl (fun _ => 0))), ((w 4), .inl (cI, 16, .inl (fun _ => 0))), ((w 5), .inl (cI, 2, .inl (fun _ => 0))), ((w 6), .inl (cI, 64, .inl (fun _ => 0))), ((w 7), .inl (cI, 64, .inl (fun _ => 0))), ((w 8), .inl (cI, 64, .inl (fun _ => 0))), ((w 9), .inl (cI, 64, .inl (fun _ => 0))), ((w 10), .inl (cJ, 14, .inr (.inl (fun _ => 0)))), ((w 11), .inl (cI, 2, .inl (fun _ => 0)))] H := hP
  have hD : va_D (fun q : Nat => s.heap.size ≤ q) [(q0, .inr (5, [.ref (u 1), .ref (u 6), .ref (u 11), .ref (u 16), .ref (u 18), .ref (u 21)])), ((u 1), .inr (0, [.ref (u 2), .ref (u 3), .ref (u 4), .ref (u 5), .int 0])), ((u 2), .inl (cI, 8, .inl (fun _ => 0))), ((u 3), .inl (cI, 8, .inl (fun _ => 0))), ((u 4), .inl (cI, 8, .inl (fun _ => 0))), ((u 5), .inl (cI, 8, .inl (fun _ => 0))), ((u 6), .inr (0, [.ref (u 7), .ref (u 8), .ref (u 9), .ref (u 10), .int 0])), ((u 7), .inl (cI, 8, .inl (fun _ => 0))), ((u 8), .inl (cI, 8, .inl (fun _ => 0))), ((u 9), .inl (cI, 8, .inl (fun _ => 0))), ((u 10), .inl (cI, 8, .inl (fun _ => 0))), ((u 11), .inr (1, [.ref (u 12), .ref (u 13), .int 0, .ref (u 14), .ref (u 15), .int 0])), ((u 12), .inl (cI, 64, .inl (fun _ => 0))), ((u 13), .inl (cI, 64, .inl (fun _ => 0))), ((u 14), .inl (cI, 64, .inl (fun _ => 0))), ((u 15), .inl (cI, 64, .inl (fun _ => 0))), ((u 16), .inr (4, [.int 0, .int 0, .int 0, .ref (u 17), .int 1, .int 0, .int 0])), ((u 17), .inl (cI, 784, .inl (fun _ => 0))), ((u 18), .inr (2, [.ref (u 19), .ref (u 20)])), ((u 19), .inl (cJ, 7, .inr (.inl (fun _ => 0)))), ((u 20), .inl (cJ, 7, .inr (.inl (fun _ => 0)))), ((u 21), .inr (3, [.ref (u 22), .int 0, .int 0, .ref (u 23)])), ((u 22), .inl (cI, 900, .inl (fun _ => 0))), ((u 23), .inl (cI, 217, .inl (fun _ => 0))), (q8, .inr (6, [.ref (w 1), .ref (w 2), .ref (w 3), .ref (w 4), .ref (w 5), .ref (w 6), .ref (w 7), .int 0, .ref (w 8), .ref (w 9), .int 0, .int 0, .int 0, .int 0, .int 0, .int 0, .int 0, .int 0, .int 0, .int 0, .ref (w 10), .ref (w 11)])), ((w 1), .inl (cI, 16, .inl (fun _ => 0))), ((w 2), .inl (cI, 16, .inl (fun _ => 0))), ((w 3), .inl (cI, 16, .inl (fun _ => 0))), ((w 4), .inl (cI, 16, .inl (fun _ => 0))), ((w 5), .inl (cI, 2, .inl (fun _ => 0))), ((w 6), .inl (cI, 64, .inl (fun _ => 0))), ((w 7), .inl (cI, 64, .inl (fun _ => 0))), ((w 8), .inl (cI, 64, .inl (fun _ => 0))), ((w 9), .inl (cI, 64, .inl (fun _ => 0))), ((w 10), .inl (cJ, 14, .inr (.inl (fun _ => 0)))), ((w 11), .inl (cI, 2, .inl (fun _ => 0)))] := hD
  refine W.widen (k := 36) (n := 2630) (by omega) (by omega) ?_
  refine lv_astore_n (lv' := [(2, .ref q8), (1, .ref q0), (0, .ref b)]) hx hb dL_law_15 rfl hl (by decide) rfl (fun ls hl => ?_)
  refine lv_iconst (v := 0) hx hb dL_law_16 (by decide) ?_
  refine lv_istore_n (lv' := [(3, .int 0), (2, .ref q8), (1, .ref q0), (0, .ref b)]) hx hb dL_law_17 rfl hl (by decide) rfl (fun ls hl => ?_)
  have hD2 : va_D (fun q : Nat => s.heap.size ≤ q) (xW (adOf q0 u) cI cJ M01 ++ yW (adOf q8 w) cI cJ M00) := hD
  have hPX : va_P D vwCl (xW (adOf q0 u) cI cJ M01) H := hP.sub (ws' := [(q0, .inr (5, [.ref (u 1), .ref (u 6), .ref (u 11), .ref (u 16), .ref (u 18), .ref (u 21)])), ((u 1), .inr (0, [.ref (u 2), .ref (u 3), .ref (u 4), .ref (u 5), .int 0])), ((u 2), .inl (cI, 8, .inl (fun _ => 0))), ((u 3), .inl (cI, 8, .inl (fun _ => 0))), ((u 4), .inl (cI, 8, .inl (fun _ => 0))), ((u 5), .inl (cI, 8, .inl (fun _ => 0))), ((u 6), .inr (0, [.ref (u 7), .ref (u 8), .ref (u 9), .ref (u 10), .int 0])), ((u 7), .inl (cI, 8, .inl (fun _ => 0))), ((u 8), .inl (cI, 8, .inl (fun _ => 0))), ((u 9), .inl (cI, 8, .inl (fun _ => 0))), ((u 10), .inl (cI, 8, .inl (fun _ => 0))), ((u 11), .inr (1, [.ref (u 12), .ref (u 13), .int 0, .ref (u 14), .ref (u 15), .int 0])), ((u 12), .inl (cI, 64, .inl (fun _ => 0))), ((u 13), .inl (cI, 64, .inl (fun _ => 0))), ((u 14), .inl (cI, 64, .inl (fun _ => 0))), ((u 15), .inl (cI, 64, .inl (fun _ => 0))), ((u 16), .inr (4, [.int 0, .int 0, .int 0, .ref (u 17), .int 1, .int 0, .int 0])), ((u 17), .inl (cI, 784, .inl (fun _ => 0))), ((u 18), .inr (2, [.ref (u 19), .ref (u 20)])), ((u 19), .inl (cJ, 7, .inr (.inl (fun _ => 0)))), ((u 20), .inl (cJ, 7, .inr (.inl (fun _ => 0)))), ((u 21), .inr (3, [.ref (u 22), .int 0, .int 0, .ref (u 23)])), ((u 22), .inl (cI, 900, .inl (fun _ => 0))), ((u 23), .inl (cI, 217, .inl (fun _ => 0)))]) [0, 1, 2, 3, 4, 5, 6, 7, 8, 9, 10, 11, 12, 13, 14, 15, 16, 17, 18, 19, 20, 21, 22, 23] rfl
  have hPY : va_P D vwCl (yW (adOf q8 w) cI cJ M00) H := hP.sub (ws' := [(q8, .inr (6, [.ref (w 1), .ref (w 2), .ref (w 3), .ref (w 4), .ref (w 5), .ref (w 6), .ref (w 7), .int 0, .ref (w 8), .ref (w 9), .int 0, .int 0, .int 0, .int 0, .int 0, .int 0, .int 0, .int 0, .int 0, .int 0, .ref (w 10), .ref (w 11)])), ((w 1), .inl (cI, 16, .inl (fun _ => 0))), ((w 2), .inl (cI, 16, .inl (fun _ => 0))), ((w 3), .inl (cI, 16, .inl (fun _ => 0))), ((w 4), .inl (cI, 16, .inl (fun _ => 0))), ((w 5), .inl (cI, 2, .inl (fun _ => 0))), ((w 6), .inl (cI, 64, .inl (fun _ => 0))), ((w 7), .inl (cI, 64, .inl (fun _ => 0))), ((w 8), .inl (cI, 64, .inl (fun _ => 0))), ((w 9), .inl (cI, 64, .inl (fun _ => 0))), ((w 10), .inl (cJ, 14, .inr (.inl (fun _ => 0)))), ((w 11), .inl (cI, 2, .inl (fun _ => 0)))]) [24, 25, 26, 27, 28, 29, 30, 31, 32, 33, 34, 35] rfl
  obtain ⟨d1, d2, d3, d4, d5⟩ := xy_facts hD2
  refine law_loop (D := D) (cI := cI) (cJ := cJ) (tP := tP) (tR := tR) (ad := adOf q0 u) (bd := adOf q8 w) N Sim hst hL C0 ⟨hx, hb, hml, hown, hts, ⟨hK, hN, ⟨zP.narrow d3, aP.narrow d3⟩, ⟨zR.narrow d3, aR.narrow d3⟩, d1⟩, ⟨hK, hN, ⟨zP.narrow d4, aP.narrow d4⟩, ⟨zR.narrow d4, aR.narrow d4⟩, d2⟩, d3, d4, d5⟩ (L + 1) 0 M01 M00 (Nat.zero_le L) (by omega) hsim0 _ _ _ hPX hPY hS (lv_sub hl [0, 3, 2, 1] rfl)

theorem rs_blindI {D : va_G} {cI cJ : ClassId} {vs : List Value} {sz : Nat} {w0 : va_W} : FrameBlind (va_Pc vs (fun U => U.heap.size = sz ∧ va_P D vwCl w0 U.heap ∧ va_K D vwCl [(cI, .int), (cJ, .long)] U ∧ (∀ q ∈ nestL, va_Nw (.methodLinkNest q.1 q.2.1 q.2.2.1 q.2.2.2) U) ∧ va_D (fun _ => True) w0)) := fun a U g mk q => ⟨q.1, q.2.1, q.2.2.1, va_K.moved (u := U) (U := U.calling g mk a) (Vm.Alike.refl U.vm) q.2.2.2.1, fun z hz => va_Nw.same (u := U) (U := U.calling g mk a) rfl rfl (q.2.2.2.2.1 z hz), q.2.2.2.2.2⟩
theorem rs_one {D : va_G} {cI cJ cA : ClassId} {U : State} (h : va_K D vwCl ([(cI, .int), (cJ, .long)] ++ [(cA, .int)]) U) : cA = cI := by
  have h1 := (h.2 0 _ rfl).2
  have h2 := (h.2 2 _ rfl).2
  exact Option.some.inj (Eq.trans (Eq.symm h2) h1)
theorem rs_oneJ {D : va_G} {cI cJ cA : ClassId} {U : State} (h : va_K D vwCl ([(cI, .int), (cJ, .long)] ++ [(cA, .long)]) U) : cA = cJ := by
  have h1 := (h.2 1 _ rfl).2
  have h2 := (h.2 2 _ rfl).2
  exact Option.some.inj (Eq.trans (Eq.symm h2) h1)
section QN
variable {p : Program} {l : Launch} {e : Env} {R : Room} {s : State} {m : MethodId} {args : Array Value} {below : List Frame} {meth : Method} {c : Code} {H : Heap} {locs : List Loc} {cells slots : Nat} {Q : State → Prop}
variable {cc : ByteArray} {pc : Nat} {ls : Array Slot} {rest : List Value} {D : va_G} {cI cJ : ClassId} {A : Nat → Prop} {ws : va_W} {H0 : Heap}
theorem rs_newI (hx : p.tables.exec = Jvm.exec) (hb : c.code = cc) (harr : (Cond.arrayClass .int).before args s = true) (hK : va_K D vwCl [(cI, .int), (cJ, .long)] s) (hP : va_P D vwCl ws H) (hD : va_D A ws) (hS : va_S A H0 H locs) (hA : ∀ q, H0.size ≤ q → A q) {n : Int32} {N : Nat} (hn : ¬ n < 0) (hN : n.toNatClampNeg = N) (hbytes : N * componentBytes .int ≤ 536870912) (hcells : cells + 1 ≤ R.cells) (hslots : slots + N ≤ R.slots) (hdg : decode cc pc = .ok (.newarray .int, 2))
    (kk : ∀ (q : Nat) (H1 : Heap), va_P D vwCl (ws ++ [(q, .inl (cI, N, .inl (fun _ => 0)))]) H1 → va_D A (ws ++ [(q, .inl (cI, N, .inl (fun _ => 0)))]) → va_S A H0 H1 locs → W p l e R s m args below meth c H1 locs (cells + 1) (slots + N) Q (F0 m (pc + 2) ls (.ref q :: rest))) : W p l e R s m args below meth c H locs cells slots Q (F0 m pc ls (.int n :: rest)) := by
  refine va_newa (atype := .int) (ty := .int) (a0 := (N, .inl (fun _ => 0))) hx hb harr rfl hK hP hD hS hA (fun cA => rfl) hn hN hbytes hcells hslots hdg (fun q cA H1 h1 h2 h3 h4 => ?_)
  obtain rfl := rs_one h1
  exact kk q H1 h2 h3 h4
theorem rs_newJ (hx : p.tables.exec = Jvm.exec) (hb : c.code = cc) (harr : (Cond.arrayClass .long).before args s = true) (hK : va_K D vwCl [(cI, .int), (cJ, .long)] s) (hP : va_P D vwCl ws H) (hD : va_D A ws) (hS : va_S A H0 H locs) (hA : ∀ q, H0.size ≤ q → A q) {n : Int32} {N : Nat} (hn : ¬ n < 0) (hN : n.toNatClampNeg = N) (hbytes : N * componentBytes .long ≤ 536870912) (hcells : cells + 1 ≤ R.cells) (hslots : slots + N ≤ R.slots) (hdg : decode cc pc = .ok (.newarray .long, 2))
    (kk : ∀ (q : Nat) (H1 : Heap), va_P D vwCl (ws ++ [(q, .inl (cJ, N, .inr (.inl (fun _ => 0))))]) H1 → va_D A (ws ++ [(q, .inl (cJ, N, .inr (.inl (fun _ => 0))))]) → va_S A H0 H1 locs → W p l e R s m args below meth c H1 locs (cells + 1) (slots + N) Q (F0 m (pc + 2) ls (.ref q :: rest))) : W p l e R s m args below meth c H locs cells slots Q (F0 m pc ls (.int n :: rest)) := by
  refine va_newa (atype := .long) (ty := .long) (a0 := (N, .inr (.inl (fun _ => 0)))) hx hb harr rfl hK hP hD hS hA (fun cA => rfl) hn hN hbytes hcells hslots hdg (fun q cA H1 h1 h2 h3 h4 => ?_)
  obtain rfl := rs_oneJ h1
  exact kk q H1 h2 h3 h4
end QN
theorem wd_63 : Cond.methodLink RX5 1 objectInit ∈ gwT := rs_gw 63 (by decide +kernel) rfl
theorem wd_64 : Cond.instanceMethod objectInit ∈ gwT := rs_gw 64 (by decide +kernel) rfl
theorem wd_65 : Cond.code objectInit ⟨#[0xb1]⟩ 1 none ∈ gwT := rs_gw 65 (by decide +kernel) rfl
theorem wd_66 : Cond.classLink RX5 7 RX0 ∈ gwT := rs_gw 66 (by decide +kernel) rfl
theorem wd_67 : Cond.instantiable RX0 5 ∈ gwT := rs_gw 67 (by decide +kernel) rfl
theorem wd_69 : Cond.instanceMethod yX0_init ∈ gwT := rs_gw 69 (by decide +kernel) rfl
theorem wd_70 : Cond.code yX0_init cX0_init 1 none ∈ gwT := rs_gw 70 (by decide +kernel) rfl
theorem wd_71 : Cond.methodLink RX0 3 objectInit ∈ gwT := rs_gw 71 (by decide +kernel) rfl
theorem wd_108 : Cond.arrayClass .int ∈ gwT := rs_gw 108 (by decide +kernel) rfl
theorem wd_109 : Cond.classLink RX5 19 RX1 ∈ gwT := rs_gw 109 (by decide +kernel) rfl
theorem wd_110 : Cond.instantiable RX1 6 ∈ gwT := rs_gw 110 (by decide +kernel) rfl
theorem wd_112 : Cond.instanceMethod yX1_init ∈ gwT := rs_gw 112 (by decide +kernel) rfl
theorem wd_113 : Cond.code yX1_init cX1_init 1 none ∈ gwT := rs_gw 113 (by decide +kernel) rfl
theorem wd_114 : Cond.methodLink RX1 3 objectInit ∈ gwT := rs_gw 114 (by decide +kernel) rfl
theorem wd_137 : Cond.classLink RX5 26 RX4 ∈ gwT := rs_gw 137 (by decide +kernel) rfl
theorem wd_138 : Cond.instantiable RX4 7 ∈ gwT := rs_gw 138 (by decide +kernel) rfl
theorem wd_140 : Cond.instanceMethod yX4_init ∈ gwT := rs_gw 140 (by decide +kernel) rfl
theorem wd_141 : Cond.code yX4_init cX4_init 1 none ∈ gwT := rs_gw 141 (by decide +kernel) rfl
theorem wd_142 : Cond.methodLink RX4 3 objectInit ∈ gwT := rs_gw 142 (by decide +kernel) rfl
theorem wd_168 : Cond.classLink RX5 33 RX2 ∈ gwT := rs_gw 168 (by decide +kernel) rfl
theorem wd_169 : Cond.instantiable RX2 2 ∈ gwT := rs_gw 169 (by decide +kernel) rfl
theorem wd_171 : Cond.instanceMethod yX2_init ∈ gwT := rs_gw 171 (by decide +kernel) rfl
theorem wd_172 : Cond.code yX2_init cX2_init 1 none ∈ gwT := rs_gw 172 (by decide +kernel) rfl
theorem wd_173 : Cond.methodLink RX2 3 objectInit ∈ gwT := rs_gw 173 (by decide +kernel) rfl
theorem wd_181 : Cond.arrayClass .long ∈ gwT := rs_gw 181 (by decide +kernel) rfl
theorem wd_182 : Cond.classLink RX5 40 RX3 ∈ gwT := rs_gw 182 (by decide +kernel) rfl
theorem wd_183 : Cond.instantiable RX3 4 ∈ gwT := rs_gw 183 (by decide +kernel) rfl
theorem wd_185 : Cond.instanceMethod yX3_init ∈ gwT := rs_gw 185 (by decide +kernel) rfl
theorem wd_186 : Cond.code yX3_init cX3_init 1 none ∈ gwT := rs_gw 186 (by decide +kernel) rfl
theorem wd_187 : Cond.methodLink RX3 3 objectInit ∈ gwT := rs_gw 187 (by decide +kernel) rfl
theorem wd_518 : Cond.methodLink RX6 1 objectInit ∈ gwT := rs_gw 518 (by decide +kernel) rfl
theorem nl_X5_9 : ((RX5, 9, yX0_init, "RootShapes") : String × Nat × MethodName × String) ∈ nestL := List.mem_of_getElem? (i := 0) rfl
theorem nl_X5_21 : ((RX5, 21, yX1_init, "RootShapes") : String × Nat × MethodName × String) ∈ nestL := List.mem_of_getElem? (i := 1) rfl
theorem nl_X5_28 : ((RX5, 28, yX4_init, "RootShapes") : String × Nat × MethodName × String) ∈ nestL := List.mem_of_getElem? (i := 2) rfl
theorem nl_X5_35 : ((RX5, 35, yX2_init, "RootShapes") : String × Nat × MethodName × String) ∈ nestL := List.mem_of_getElem? (i := 3) rfl
theorem nl_X5_42 : ((RX5, 42, yX3_init, "RootShapes") : String × Nat × MethodName × String) ∈ nestL := List.mem_of_getElem? (i := 4) rfl
theorem dX0_init_0 : decode cX0_init 0 = .ok (.aload_n 0, 1) := by decide +kernel
theorem dX0_init_1 : decode cX0_init 1 = .ok (.invokespecial 3, 3) := by decide +kernel
theorem dX0_init_4 : decode cX0_init 4 = .ok (.aload_n 0, 1) := by decide +kernel
theorem dX0_init_5 : decode cX0_init 5 = .ok (.bipush 8, 2) := by decide +kernel
theorem dX0_init_7 : decode cX0_init 7 = .ok (.newarray .int, 2) := by decide +kernel
theorem dX0_init_9 : decode cX0_init 9 = .ok (.putfield 9, 3) := by decide +kernel
theorem dX0_init_12 : decode cX0_init 12 = .ok (.aload_n 0, 1) := by decide +kernel
theorem dX0_init_13 : decode cX0_init 13 = .ok (.bipush 8, 2) := by decide +kernel
theorem dX0_init_15 : decode cX0_init 15 = .ok (.newarray .int, 2) := by decide +kernel
theorem dX0_init_17 : decode cX0_init 17 = .ok (.putfield 15, 3) := by decide +kernel
theorem dX0_init_20 : decode cX0_init 20 = .ok (.aload_n 0, 1) := by decide +kernel
theorem dX0_init_21 : decode cX0_init 21 = .ok (.bipush 8, 2) := by decide +kernel
theorem dX0_init_23 : decode cX0_init 23 = .ok (.newarray .int, 2) := by decide +kernel
theorem dX0_init_25 : decode cX0_init 25 = .ok (.putfield 18, 3) := by decide +kernel
theorem dX0_init_28 : decode cX0_init 28 = .ok (.aload_n 0, 1) := by decide +kernel
theorem dX0_init_29 : decode cX0_init 29 = .ok (.bipush 8, 2) := by decide +kernel
theorem dX0_init_31 : decode cX0_init 31 = .ok (.newarray .int, 2) := by decide +kernel
theorem dX0_init_33 : decode cX0_init 33 = .ok (.putfield 21, 3) := by decide +kernel
theorem dX0_init_36 : decode cX0_init 36 = .ok (.aload_n 0, 1) := by decide +kernel
theorem dX0_init_37 : decode cX0_init 37 = .ok (.iconst 0, 1) := by decide +kernel
theorem dX0_init_38 : decode cX0_init 38 = .ok (.putfield 24, 3) := by decide +kernel
theorem dX0_init_41 : decode cX0_init 41 = .ok (.return_, 1) := by decide +kernel
set_option maxRecDepth 100000 in
set_option maxHeartbeats 4000000 in
theorem kX0_init (l : Launch) (D : va_G) (cI cJ : ClassId) (h0 sz : Nat) : Met l yX0_init (Cond.code yX0_init cX0_init 1 none :: gwT) { frames := 1, cells := 4, slots := 32, locals := 12 } (va_Pc [.ref h0] (fun U => U.heap.size = sz ∧ va_P D vwCl [(h0, .inr (0, [.null, .null, .null, .null, .int 0]))] U.heap ∧ va_K D vwCl [(cI, .int), (cJ, .long)] U ∧ (∀ q ∈ nestL, va_Nw (.methodLinkNest q.1 q.2.1 q.2.2.1 q.2.2.2) U) ∧ va_D (fun _ => True) [(h0, .inr (0, [.null, .null, .null, .null, .int 0]))])) (va_Qv (fun (_ : Nat → Nat) => True) (fun u t => va_P D vwCl [(h0, .inr (0, [.ref (u 1), .ref (u 2), .ref (u 3), .ref (u 4), .int 0])), ((u 1), .inl (cI, 8, .inl (fun _ => 0))), ((u 2), .inl (cI, 8, .inl (fun _ => 0))), ((u 3), .inl (cI, 8, .inl (fun _ => 0))), ((u 4), .inl (cI, 8, .inl (fun _ => 0)))] t.heap ∧ va_D (va_A [(h0, .inr (0, [.null, .null, .null, .null, .int 0]))] sz) [(h0, .inr (0, [.ref (u 1), .ref (u 2), .ref (u 3), .ref (u 4), .int 0])), ((u 1), .inl (cI, 8, .inl (fun _ => 0))), ((u 2), .inl (cI, 8, .inl (fun _ => 0))), ((u 3), .inl (cI, 8, .inl (fun _ => 0))), ((u 4), .inl (cI, 8, .inl (fun _ => 0)))]) (va_A [(h0, .inr (0, [.null, .null, .null, .null, .int 0]))] sz)) 4 32 (va_A [(h0, .inr (0, [.null, .null, .null, .null, .int 0]))] sz) := by
  refine Met.ofW (cc := cX0_init) (maxL := 1) (ret := none) (by decide +kernel) rfl ?_
  intro p e s m args below meth c s₁ B hml hv
  obtain ⟨rfl, hsz, hP, hK, hN, hD0⟩ := hv
  have hx := B.exec
  have hb := B.bytes
  have hr := B.returns
  have hts : ∀ w ∈ gwT, w.before _ s = true := fun w hw => atoms_spec (ws := Cond.code yX0_init cX0_init 1 none :: gwT) B.pre w (List.mem_cons_of_mem _ hw)
  have hown : s.vm.findClass RX0 = some m.cls := findClass_of_methodNamed B.named
  have hlocks := B.notSynchronized
  have hin : meth.name = "<init>" := (name_of_methodNamed B.named B.method).1
  subst hsz
  have hD := hD0.self (sz := s.heap.size)
  generalize hAe : va_A [(h0, .inr (0, [.null, .null, .null, .null, .int 0]))] s.heap.size = A at hD ⊢
  have hA : ∀ q : Nat, s.heap.size ≤ q → A q := fun q h => by rw [← hAe]; exact Or.inr h
  have hS : va_S A s.heap s.heap [] := va_S.rf
  have hP : va_P D vwCl [(h0, .inr (0, [.null, .null, .null, .null, .int 0]))] s.heap := hP
  have hl := lv_entry ([.ref h0]) (n := 1) (Nat.le_of_ble_eq_true rfl)
  rw [lg_entry_eq]
  generalize (lg_sl ([.ref h0]) ++ List.replicate (1 - (lg_sl ([.ref h0])).length) Slot.unset).toArray = ls at hl ⊢
  have hl : lv_has ls 1 [(0, .ref h0)] := hl
  refine lv_aload_n hx hb dX0_init_0 rfl (lv_at hl 0 rfl) ?_
  refine W.objInit hx hb hown (hts _ wd_71) (hts _ wd_64) (hts _ wd_65) rfl (by rw [hml]; exact hl.1) rfl dX0_init_1 (Nat.le_of_ble_eq_true rfl) (Nat.le_of_ble_eq_true rfl) ?_
  refine W.eq (g2 := F0 m 4 ls []) rfl ?_
  refine lv_aload_n hx hb dX0_init_4 rfl (lv_at hl 0 rfl) ?_
  refine lv_bipush (v := (8 : Int32)) hx hb dX0_init_5 (by decide) ?_
  refine rs_newI (N := 8) hx hb (hts _ wd_108) hK hP hD hS hA (by decide) (by decide +kernel) (Nat.le_of_ble_eq_true rfl) (Nat.le_of_ble_eq_true rfl) (Nat.le_of_ble_eq_true rfl) dX0_init_7 (fun q7 H hP hD hS => ?_)
  have hP : va_P D vwCl [(h0, .inr (0, [.null, .null, .null, .null, .int 0])), (q7, .inl (cI, 8, .inl (fun _ => 0)))] H := hP
  have hD : va_D A [(h0, .inr (0, [.null, .null, .null, .null, .int 0])), (q7, .inl (cI, 8, .inl (fun _ => 0)))] := hD
  refine W.widen (k := 1) (n := 8) (by omega) (by omega) ?_
  refine va_putF (D := D) (ci := 0) (v := .ref q7) (ty := .array .int) (C := RX0) (T := TX0) (N := 5) hx hb hts hinX0 tyX0 tyX0_ok nmX0 hown hK hP hD hS 0 rfl rfl 0 (by decide) (hts _ wd_72) (fun _ h9 => h9) rfl hin rfl (by decide +kernel) rfl rfl (Nat.le_of_ble_eq_true rfl) dX0_init_9 (fun H locs hP hD hS => ?_)
  have hP : va_P D vwCl [(h0, .inr (0, [.ref q7, .null, .null, .null, .int 0])), (q7, .inl (cI, 8, .inl (fun _ => 0)))] H := hP
  have hD : va_D A [(h0, .inr (0, [.ref q7, .null, .null, .null, .int 0])), (q7, .inl (cI, 8, .inl (fun _ => 0)))] := hD
  refine lv_aload_n hx hb dX0_init_12 rfl (lv_at hl 0 rfl) ?_
  refine lv_bipush (v := (8 : Int32)) hx hb dX0_init_13 (by decide) ?_
  refine rs_newI (N := 8) hx hb (hts _ wd_108) hK hP hD hS hA (by decide) (by decide +kernel) (Nat.le_of_ble_eq_true rfl) (Nat.le_of_ble_eq_true rfl) (Nat.le_of_ble_eq_true rfl) dX0_init_15 (fun q15 H hP hD hS => ?_)
  have hP : va_P D vwCl [(h0, .inr (0, [.ref q7, .null, .null, .null, .int 0])), (q7, .inl (cI, 8, .inl (fun _ => 0))), (q15, .inl (cI, 8, .inl (fun _ => 0)))] H := hP
  have hD : va_D A [(h0, .inr (0, [.ref q7, .null, .null, .null, .int 0])), (q7, .inl (cI, 8, .inl (fun _ => 0))), (q15, .inl (cI, 8, .inl (fun _ => 0)))] := hD
  refine W.widen (k := 2) (n := 16) (by omega) (by omega) ?_
  refine va_putF (D := D) (ci := 0) (v := .ref q15) (ty := .array .int) (C := RX0) (T := TX0) (N := 5) hx hb hts hinX0 tyX0 tyX0_ok nmX0 hown hK hP hD hS 0 rfl rfl 1 (by decide) (hts _ wd_78) (fun _ h9 => h9) rfl hin rfl (by decide +kernel) rfl rfl (Nat.le_of_ble_eq_true rfl) dX0_init_17 (fun H locs hP hD hS => ?_)
  have hP : va_P D vwCl [(h0, .inr (0, [.ref q7, .ref q15, .null, .null, .int 0])), (q7, .inl (cI, 8, .inl (fun _ => 0))), (q15, .inl (cI, 8, .inl (fun _ => 0)))] H := hP
  have hD : va_D A [(h0, .inr (0, [.ref q7, .ref q15, .null, .null, .int 0])), (q7, .inl (cI, 8, .inl (fun _ => 0))), (q15, .inl (cI, 8, .inl (fun _ => 0)))] := hD
  refine lv_aload_n hx hb dX0_init_20 rfl (lv_at hl 0 rfl) ?_
  refine lv_bipush (v := (8 : Int32)) hx hb dX0_init_21 (by decide) ?_
  refine rs_newI (N := 8) hx hb (hts _ wd_108) hK hP hD hS hA (by decide) (by decide +kernel) (Nat.le_of_ble_eq_true rfl) (Nat.le_of_ble_eq_true rfl) (Nat.le_of_ble_eq_true rfl) dX0_init_23 (fun q23 H hP hD hS => ?_)
  have hP : va_P D vwCl [(h0, .inr (0, [.ref q7, .ref q15, .null, .null, .int 0])), (q7, .inl (cI, 8, .inl (fun _ => 0))), (q15, .inl (cI, 8, .inl (fun _ => 0))), (q23, .inl (cI, 8, .inl (fun _ => 0)))] H := hP
  have hD : va_D A [(h0, .inr (0, [.ref q7, .ref q15, .null, .null, .int 0])), (q7, .inl (cI, 8, .inl (fun _ => 0))), (q15, .inl (cI, 8, .inl (fun _ => 0))), (q23, .inl (cI, 8, .inl (fun _ => 0)))] := hD
  refine W.widen (k := 3) (n := 24) (by omega) (by omega) ?_
  refine va_putF (D := D) (ci := 0) (v := .ref q23) (ty := .array .int) (C := RX0) (T := TX0) (N := 5) hx hb hts hinX0 tyX0 tyX0_ok nmX0 hown hK hP hD hS 0 rfl rfl 2 (by decide) (hts _ wd_84) (fun _ h9 => h9) rfl hin rfl (by decide +kernel) rfl rfl (Nat.le_of_ble_eq_true rfl) dX0_init_25 (fun H locs hP hD hS => ?_)
  have hP : va_P D vwCl [(h0, .inr (0, [.ref q7, .ref q15, .ref q23, .null, .int 0])), (q7, .inl (cI, 8, .inl (fun _ => 0))), (q15, .inl (cI, 8, .inl (fun _ => 0))), (q23, .inl (cI, 8, .inl (fun _ => 0)))] H := hP
  have hD : va_D A [(h0, .inr (0, [.ref q7, .ref q15, .ref q23, .null, .int 0])), (q7, .inl (cI, 8, .inl (fun _ => 0))), (q15, .inl (cI, 8, .inl (fun _ => 0))), (q23, .inl (cI, 8, .inl (fun _ => 0)))] := hD
  refine lv_aload_n hx hb dX0_init_28 rfl (lv_at hl 0 rfl) ?_
  refine lv_bipush (v := (8 : Int32)) hx hb dX0_init_29 (by decide) ?_
  refine rs_newI (N := 8) hx hb (hts _ wd_108) hK hP hD hS hA (by decide) (by decide +kernel) (Nat.le_of_ble_eq_true rfl) (Nat.le_of_ble_eq_true rfl) (Nat.le_of_ble_eq_true rfl) dX0_init_31 (fun q31 H hP hD hS => ?_)
  have hP : va_P D vwCl [(h0, .inr (0, [.ref q7, .ref q15, .ref q23, .null, .int 0])), (q7, .inl (cI, 8, .inl (fun _ => 0))), (q15, .inl (cI, 8, .inl (fun _ => 0))), (q23, .inl (cI, 8, .inl (fun _ => 0))), (q31, .inl (cI, 8, .inl (fun _ => 0)))] H := hP
  have hD : va_D A [(h0, .inr (0, [.ref q7, .ref q15, .ref q23, .null, .int 0])), (q7, .inl (cI, 8, .inl (fun _ => 0))), (q15, .inl (cI, 8, .inl (fun _ => 0))), (q23, .inl (cI, 8, .inl (fun _ => 0))), (q31, .inl (cI, 8, .inl (fun _ => 0)))] := hD
  refine W.widen (k := 4) (n := 32) (by omega) (by omega) ?_
  refine va_putF (D := D) (ci := 0) (v := .ref q31) (ty := .array .int) (C := RX0) (T := TX0) (N := 5) hx hb hts hinX0 tyX0 tyX0_ok nmX0 hown hK hP hD hS 0 rfl rfl 3 (by decide) (hts _ wd_88) (fun _ h9 => h9) rfl hin rfl (by decide +kernel) rfl rfl (Nat.le_of_ble_eq_true rfl) dX0_init_33 (fun H locs hP hD hS => ?_)
  have hP : va_P D vwCl [(h0, .inr (0, [.ref q7, .ref q15, .ref q23, .ref q31, .int 0])), (q7, .inl (cI, 8, .inl (fun _ => 0))), (q15, .inl (cI, 8, .inl (fun _ => 0))), (q23, .inl (cI, 8, .inl (fun _ => 0))), (q31, .inl (cI, 8, .inl (fun _ => 0)))] H := hP
  have hD : va_D A [(h0, .inr (0, [.ref q7, .ref q15, .ref q23, .ref q31, .int 0])), (q7, .inl (cI, 8, .inl (fun _ => 0))), (q15, .inl (cI, 8, .inl (fun _ => 0))), (q23, .inl (cI, 8, .inl (fun _ => 0))), (q31, .inl (cI, 8, .inl (fun _ => 0)))] := hD
  refine lv_aload_n hx hb dX0_init_36 rfl (lv_at hl 0 rfl) ?_
  refine lv_iconst (v := (0 : Int32)) hx hb dX0_init_37 (by decide) ?_
  refine va_put (D := D) (ci := 0) (v := .int (0 : Int32)) (ty := .int) (C := RX0) (T := TX0) (N := 5) hx hb hts hinX0 tyX0 tyX0_ok nmX0 hown hK hP hD hS 0 rfl rfl 4 (by decide) (hts _ wd_91) (fun _ h9 => h9) rfl (by decide +kernel) rfl rfl (Nat.le_of_ble_eq_true rfl) dX0_init_38 (fun H locs hP hD hS => ?_)
  have hP : va_P D vwCl [(h0, .inr (0, [.ref q7, .ref q15, .ref q23, .ref q31, .int 0])), (q7, .inl (cI, 8, .inl (fun _ => 0))), (q15, .inl (cI, 8, .inl (fun _ => 0))), (q23, .inl (cI, 8, .inl (fun _ => 0))), (q31, .inl (cI, 8, .inl (fun _ => 0)))] H := hP
  have hD : va_D A [(h0, .inr (0, [.ref q7, .ref q15, .ref q23, .ref q31, .int 0])), (q7, .inl (cI, 8, .inl (fun _ => 0))), (q15, .inl (cI, 8, .inl (fun _ => 0))), (q23, .inl (cI, 8, .inl (fun _ => 0))), (q31, .inl (cI, 8, .inl (fun _ => 0)))] := hD
  have hP9 := hP.sub (ws' := [(h0, .inr (0, [.ref q7, .ref q15, .ref q23, .ref q31, .int 0])), (q7, .inl (cI, 8, .inl (fun _ => 0))), (q15, .inl (cI, 8, .inl (fun _ => 0))), (q23, .inl (cI, 8, .inl (fun _ => 0))), (q31, .inl (cI, 8, .inl (fun _ => 0)))]) [0, 1, 2, 3, 4] rfl
  have hD9 := hD.sub (ws' := [(h0, .inr (0, [.ref q7, .ref q15, .ref q23, .ref q31, .int 0])), (q7, .inl (cI, 8, .inl (fun _ => 0))), (q15, .inl (cI, 8, .inl (fun _ => 0))), (q23, .inl (cI, 8, .inl (fun _ => 0))), (q31, .inl (cI, 8, .inl (fun _ => 0)))]) [0, 1, 2, 3, 4] (by decide) rfl
  exact W.vret hx hb hr (fun t ht hW => ⟨⟨(fun k => ([h0, q7, q15, q23, q31] : List Nat).getD k 0), rfl, trivial, by show va_P D vwCl [(h0, .inr (0, [.ref q7, .ref q15, .ref q23, .ref q31, .int 0])), (q7, .inl (cI, 8, .inl (fun _ => 0))), (q15, .inl (cI, 8, .inl (fun _ => 0))), (q23, .inl (cI, 8, .inl (fun _ => 0))), (q31, .inl (cI, 8, .inl (fun _ => 0)))] t.heap; rw [ht]; exact hP9, hD9⟩, hS.F ht⟩) hS.2.2 dX0_init_41
theorem dX1_init_0 : decode cX1_init 0 = .ok (.aload_n 0, 1) := by decide +kernel
theorem dX1_init_1 : decode cX1_init 1 = .ok (.invokespecial 3, 3) := by decide +kernel
theorem dX1_init_4 : decode cX1_init 4 = .ok (.aload_n 0, 1) := by decide +kernel
theorem dX1_init_5 : decode cX1_init 5 = .ok (.bipush 64, 2) := by decide +kernel
theorem dX1_init_7 : decode cX1_init 7 = .ok (.newarray .int, 2) := by decide +kernel
theorem dX1_init_9 : decode cX1_init 9 = .ok (.putfield 11, 3) := by decide +kernel
theorem dX1_init_12 : decode cX1_init 12 = .ok (.aload_n 0, 1) := by decide +kernel
theorem dX1_init_13 : decode cX1_init 13 = .ok (.bipush 64, 2) := by decide +kernel
theorem dX1_init_15 : decode cX1_init 15 = .ok (.newarray .int, 2) := by decide +kernel
theorem dX1_init_17 : decode cX1_init 17 = .ok (.putfield 15, 3) := by decide +kernel
theorem dX1_init_20 : decode cX1_init 20 = .ok (.aload_n 0, 1) := by decide +kernel
theorem dX1_init_21 : decode cX1_init 21 = .ok (.iconst 0, 1) := by decide +kernel
theorem dX1_init_22 : decode cX1_init 22 = .ok (.putfield 18, 3) := by decide +kernel
theorem dX1_init_25 : decode cX1_init 25 = .ok (.aload_n 0, 1) := by decide +kernel
theorem dX1_init_26 : decode cX1_init 26 = .ok (.bipush 64, 2) := by decide +kernel
theorem dX1_init_28 : decode cX1_init 28 = .ok (.newarray .int, 2) := by decide +kernel
theorem dX1_init_30 : decode cX1_init 30 = .ok (.putfield 22, 3) := by decide +kernel
theorem dX1_init_33 : decode cX1_init 33 = .ok (.aload_n 0, 1) := by decide +kernel
theorem dX1_init_34 : decode cX1_init 34 = .ok (.bipush 64, 2) := by decide +kernel
theorem dX1_init_36 : decode cX1_init 36 = .ok (.newarray .int, 2) := by decide +kernel
theorem dX1_init_38 : decode cX1_init 38 = .ok (.putfield 25, 3) := by decide +kernel
theorem dX1_init_41 : decode cX1_init 41 = .ok (.aload_n 0, 1) := by decide +kernel
theorem dX1_init_42 : decode cX1_init 42 = .ok (.iconst 0, 1) := by decide +kernel
theorem dX1_init_43 : decode cX1_init 43 = .ok (.putfield 28, 3) := by decide +kernel
theorem dX1_init_46 : decode cX1_init 46 = .ok (.return_, 1) := by decide +kernel
set_option maxRecDepth 100000 in
set_option maxHeartbeats 4000000 in
theorem kX1_init (l : Launch) (D : va_G) (cI cJ : ClassId) (h0 sz : Nat) : Met l yX1_init (Cond.code yX1_init cX1_init 1 none :: gwT) { frames := 1, cells := 4, slots := 256, locals := 12 } (va_Pc [.ref h0] (fun U => U.heap.size = sz ∧ va_P D vwCl [(h0, .inr (1, [.null, .null, .int 0, .null, .null, .int 0]))] U.heap ∧ va_K D vwCl [(cI, .int), (cJ, .long)] U ∧ (∀ q ∈ nestL, va_Nw (.methodLinkNest q.1 q.2.1 q.2.2.1 q.2.2.2) U) ∧ va_D (fun _ => True) [(h0, .inr (1, [.null, .null, .int 0, .null, .null, .int 0]))])) (va_Qv (fun (_ : Nat → Nat) => True) (fun u t => va_P D vwCl [(h0, .inr (1, [.ref (u 1), .ref (u 2), .int 0, .ref (u 3), .ref (u 4), .int 0])), ((u 1), .inl (cI, 64, .inl (fun _ => 0))), ((u 2), .inl (cI, 64, .inl (fun _ => 0))), ((u 3), .inl (cI, 64, .inl (fun _ => 0))), ((u 4), .inl (cI, 64, .inl (fun _ => 0)))] t.heap ∧ va_D (va_A [(h0, .inr (1, [.null, .null, .int 0, .null, .null, .int 0]))] sz) [(h0, .inr (1, [.ref (u 1), .ref (u 2), .int 0, .ref (u 3), .ref (u 4), .int 0])), ((u 1), .inl (cI, 64, .inl (fun _ => 0))), ((u 2), .inl (cI, 64, .inl (fun _ => 0))), ((u 3), .inl (cI, 64, .inl (fun _ => 0))), ((u 4), .inl (cI, 64, .inl (fun _ => 0)))]) (va_A [(h0, .inr (1, [.null, .null, .int 0, .null, .null, .int 0]))] sz)) 4 256 (va_A [(h0, .inr (1, [.null, .null, .int 0, .null, .null, .int 0]))] sz) := by
  refine Met.ofW (cc := cX1_init) (maxL := 1) (ret := none) (by decide +kernel) rfl ?_
  intro p e s m args below meth c s₁ B hml hv
  obtain ⟨rfl, hsz, hP, hK, hN, hD0⟩ := hv
  have hx := B.exec
  have hb := B.bytes
  have hr := B.returns
  have hts : ∀ w ∈ gwT, w.before _ s = true := fun w hw => atoms_spec (ws := Cond.code yX1_init cX1_init 1 none :: gwT) B.pre w (List.mem_cons_of_mem _ hw)
  have hown : s.vm.findClass RX1 = some m.cls := findClass_of_methodNamed B.named
  have hlocks := B.notSynchronized
  have hin : meth.name = "<init>" := (name_of_methodNamed B.named B.method).1
  subst hsz
  have hD := hD0.self (sz := s.heap.size)
  generalize hAe : va_A [(h0, .inr (1, [.null, .null, .int 0, .null, .null, .int 0]))] s.heap.size = A at hD ⊢
  have hA : ∀ q : Nat, s.heap.size ≤ q → A q := fun q h => by rw [← hAe]; exact Or.inr h
  have hS : va_S A s.heap s.heap [] := va_S.rf
  have hP : va_P D vwCl [(h0, .inr (1, [.null, .null, .int 0, .null, .null, .int 0]))] s.heap := hP
  have hl := lv_entry ([.ref h0]) (n := 1) (Nat.le_of_ble_eq_true rfl)
  rw [lg_entry_eq]
  generalize (lg_sl ([.ref h0]) ++ List.replicate (1 - (lg_sl ([.ref h0])).length) Slot.unset).toArray = ls at hl ⊢
  have hl : lv_has ls 1 [(0, .ref h0)] := hl
  refine lv_aload_n hx hb dX1_init_0 rfl (lv_at hl 0 rfl) ?_
  refine W.objInit hx hb hown (hts _ wd_114) (hts _ wd_64) (hts _ wd_65) rfl (by rw [hml]; exact hl.1) rfl dX1_init_1 (Nat.le_of_ble_eq_true rfl) (Nat.le_of_ble_eq_true rfl) ?_
  refine W.eq (g2 := F0 m 4 ls []) rfl ?_
  refine lv_aload_n hx hb dX1_init_4 rfl (lv_at hl 0 rfl) ?_
  refine lv_bipush (v := (64 : Int32)) hx hb dX1_init_5 (by decide) ?_
  refine rs_newI (N := 64) hx hb (hts _ wd_108) hK hP hD hS hA (by decide) (by decide +kernel) (Nat.le_of_ble_eq_true rfl) (Nat.le_of_ble_eq_true rfl) (Nat.le_of_ble_eq_true rfl) dX1_init_7 (fun q7 H hP hD hS => ?_)
  have hP : va_P D vwCl [(h0, .inr (1, [.null, .null, .int 0, .null, .null, .int 0])), (q7, .inl (cI, 64, .inl (fun _ => 0)))] H := hP
  have hD : va_D A [(h0, .inr (1, [.null, .null, .int 0, .null, .null, .int 0])), (q7, .inl (cI, 64, .inl (fun _ => 0)))] := hD
  refine W.widen (k := 1) (n := 64) (by omega) (by omega) ?_
  refine va_putF (D := D) (ci := 1) (v := .ref q7) (ty := .array .int) (C := RX1) (T := TX1) (N := 6) hx hb hts hinX1 tyX1 tyX1_ok nmX1 hown hK hP hD hS 0 rfl rfl 0 (by decide) (hts _ wd_115) (fun _ h9 => h9) rfl hin rfl (by decide +kernel) rfl rfl (Nat.le_of_ble_eq_true rfl) dX1_init_9 (fun H locs hP hD hS => ?_)
  have hP : va_P D vwCl [(h0, .inr (1, [.ref q7, .null, .int 0, .null, .null, .int 0])), (q7, .inl (cI, 64, .inl (fun _ => 0)))] H := hP
  have hD : va_D A [(h0, .inr (1, [.ref q7, .null, .int 0, .null, .null, .int 0])), (q7, .inl (cI, 64, .inl (fun _ => 0)))] := hD
  refine lv_aload_n hx hb dX1_init_12 rfl (lv_at hl 0 rfl) ?_
  refine lv_bipush (v := (64 : Int32)) hx hb dX1_init_13 (by decide) ?_
  refine rs_newI (N := 64) hx hb (hts _ wd_108) hK hP hD hS hA (by decide) (by decide +kernel) (Nat.le_of_ble_eq_true rfl) (Nat.le_of_ble_eq_true rfl) (Nat.le_of_ble_eq_true rfl) dX1_init_15 (fun q15 H hP hD hS => ?_)
  have hP : va_P D vwCl [(h0, .inr (1, [.ref q7, .null, .int 0, .null, .null, .int 0])), (q7, .inl (cI, 64, .inl (fun _ => 0))), (q15, .inl (cI, 64, .inl (fun _ => 0)))] H := hP
  have hD : va_D A [(h0, .inr (1, [.ref q7, .null, .int 0, .null, .null, .int 0])), (q7, .inl (cI, 64, .inl (fun _ => 0))), (q15, .inl (cI, 64, .inl (fun _ => 0)))] := hD
  refine W.widen (k := 2) (n := 128) (by omega) (by omega) ?_
  refine va_putF (D := D) (ci := 1) (v := .ref q15) (ty := .array .int) (C := RX1) (T := TX1) (N := 6) hx hb hts hinX1 tyX1 tyX1_ok nmX1 hown hK hP hD hS 0 rfl rfl 1 (by decide) (hts _ wd_117) (fun _ h9 => h9) rfl hin rfl (by decide +kernel) rfl rfl (Nat.le_of_ble_eq_true rfl) dX1_init_17 (fun H locs hP hD hS => ?_)
  have hP : va_P D vwCl [(h0, .inr (1, [.ref q7, .ref q15, .int 0, .null, .null, .int 0])), (q7, .inl (cI, 64, .inl (fun _ => 0))), (q15, .inl (cI, 64, .inl (fun _ => 0)))] H := hP
  have hD : va_D A [(h0, .inr (1, [.ref q7, .ref q15, .int 0, .null, .null, .int 0])), (q7, .inl (cI, 64, .inl (fun _ => 0))), (q15, .inl (cI, 64, .inl (fun _ => 0)))] := hD
  refine lv_aload_n hx hb dX1_init_20 rfl (lv_at hl 0 rfl) ?_
  refine lv_iconst (v := (0 : Int32)) hx hb dX1_init_21 (by decide) ?_
  refine va_put (D := D) (ci := 1) (v := .int (0 : Int32)) (ty := .int) (C := RX1) (T := TX1) (N := 6) hx hb hts hinX1 tyX1 tyX1_ok nmX1 hown hK hP hD hS 0 rfl rfl 2 (by decide) (hts _ wd_119) (fun _ h9 => h9) rfl (by decide +kernel) rfl rfl (Nat.le_of_ble_eq_true rfl) dX1_init_22 (fun H locs hP hD hS => ?_)
  have hP : va_P D vwCl [(h0, .inr (1, [.ref q7, .ref q15, .int 0, .null, .null, .int 0])), (q7, .inl (cI, 64, .inl (fun _ => 0))), (q15, .inl (cI, 64, .inl (fun _ => 0)))] H := hP
  have hD : va_D A [(h0, .inr (1, [.ref q7, .ref q15, .int 0, .null, .null, .int 0])), (q7, .inl (cI, 64, .inl (fun _ => 0))), (q15, .inl (cI, 64, .inl (fun _ => 0)))] := hD
  refine lv_aload_n hx hb dX1_init_25 rfl (lv_at hl 0 rfl) ?_
  refine lv_bipush (v := (64 : Int32)) hx hb dX1_init_26 (by decide) ?_
  refine rs_newI (N := 64) hx hb (hts _ wd_108) hK hP hD hS hA (by decide) (by decide +kernel) (Nat.le_of_ble_eq_true rfl) (Nat.le_of_ble_eq_true rfl) (Nat.le_of_ble_eq_true rfl) dX1_init_28 (fun q28 H hP hD hS => ?_)
  have hP : va_P D vwCl [(h0, .inr (1, [.ref q7, .ref q15, .int 0, .null, .null, .int 0])), (q7, .inl (cI, 64, .inl (fun _ => 0))), (q15, .inl (cI, 64, .inl (fun _ => 0))), (q28, .inl (cI, 64, .inl (fun _ => 0)))] H := hP
  have hD : va_D A [(h0, .inr (1, [.ref q7, .ref q15, .int 0, .null, .null, .int 0])), (q7, .inl (cI, 64, .inl (fun _ => 0))), (q15, .inl (cI, 64, .inl (fun _ => 0))), (q28, .inl (cI, 64, .inl (fun _ => 0)))] := hD
  refine W.widen (k := 3) (n := 192) (by omega) (by omega) ?_
  refine va_putF (D := D) (ci := 1) (v := .ref q28) (ty := .array .int) (C := RX1) (T := TX1) (N := 6) hx hb hts hinX1 tyX1 tyX1_ok nmX1 hown hK hP hD hS 0 rfl rfl 3 (by decide) (hts _ wd_121) (fun _ h9 => h9) rfl hin rfl (by decide +kernel) rfl rfl (Nat.le_of_ble_eq_true rfl) dX1_init_30 (fun H locs hP hD hS => ?_)
  have hP : va_P D vwCl [(h0, .inr (1, [.ref q7, .ref q15, .int 0, .ref q28, .null, .int 0])), (q7, .inl (cI, 64, .inl (fun _ => 0))), (q15, .inl (cI, 64, .inl (fun _ => 0))), (q28, .inl (cI, 64, .inl (fun _ => 0)))] H := hP
  have hD : va_D A [(h0, .inr (1, [.ref q7, .ref q15, .int 0, .ref q28, .null, .int 0])), (q7, .inl (cI, 64, .inl (fun _ => 0))), (q15, .inl (cI, 64, .inl (fun _ => 0))), (q28, .inl (cI, 64, .inl (fun _ => 0)))] := hD
  refine lv_aload_n hx hb dX1_init_33 rfl (lv_at hl 0 rfl) ?_
  refine lv_bipush (v := (64 : Int32)) hx hb dX1_init_34 (by decide) ?_
  refine rs_newI (N := 64) hx hb (hts _ wd_108) hK hP hD hS hA (by decide) (by decide +kernel) (Nat.le_of_ble_eq_true rfl) (Nat.le_of_ble_eq_true rfl) (Nat.le_of_ble_eq_true rfl) dX1_init_36 (fun q36 H hP hD hS => ?_)
  have hP : va_P D vwCl [(h0, .inr (1, [.ref q7, .ref q15, .int 0, .ref q28, .null, .int 0])), (q7, .inl (cI, 64, .inl (fun _ => 0))), (q15, .inl (cI, 64, .inl (fun _ => 0))), (q28, .inl (cI, 64, .inl (fun _ => 0))), (q36, .inl (cI, 64, .inl (fun _ => 0)))] H := hP
  have hD : va_D A [(h0, .inr (1, [.ref q7, .ref q15, .int 0, .ref q28, .null, .int 0])), (q7, .inl (cI, 64, .inl (fun _ => 0))), (q15, .inl (cI, 64, .inl (fun _ => 0))), (q28, .inl (cI, 64, .inl (fun _ => 0))), (q36, .inl (cI, 64, .inl (fun _ => 0)))] := hD
  refine W.widen (k := 4) (n := 256) (by omega) (by omega) ?_
  refine va_putF (D := D) (ci := 1) (v := .ref q36) (ty := .array .int) (C := RX1) (T := TX1) (N := 6) hx hb hts hinX1 tyX1 tyX1_ok nmX1 hown hK hP hD hS 0 rfl rfl 4 (by decide) (hts _ wd_122) (fun _ h9 => h9) rfl hin rfl (by decide +kernel) rfl rfl (Nat.le_of_ble_eq_true rfl) dX1_init_38 (fun H locs hP hD hS => ?_)
  have hP : va_P D vwCl [(h0, .inr (1, [.ref q7, .ref q15, .int 0, .ref q28, .ref q36, .int 0])), (q7, .inl (cI, 64, .inl (fun _ => 0))), (q15, .inl (cI, 64, .inl (fun _ => 0))), (q28, .inl (cI, 64, .inl (fun _ => 0))), (q36, .inl (cI, 64, .inl (fun _ => 0)))] H := hP
  have hD : va_D A [(h0, .inr (1, [.ref q7, .ref q15, .int 0, .ref q28, .ref q36, .int 0])), (q7, .inl (cI, 64, .inl (fun _ => 0))), (q15, .inl (cI, 64, .inl (fun _ => 0))), (q28, .inl (cI, 64, .inl (fun _ => 0))), (q36, .inl (cI, 64, .inl (fun _ => 0)))] := hD
  refine lv_aload_n hx hb dX1_init_41 rfl (lv_at hl 0 rfl) ?_
  refine lv_iconst (v := (0 : Int32)) hx hb dX1_init_42 (by decide) ?_
  refine va_put (D := D) (ci := 1) (v := .int (0 : Int32)) (ty := .int) (C := RX1) (T := TX1) (N := 6) hx hb hts hinX1 tyX1 tyX1_ok nmX1 hown hK hP hD hS 0 rfl rfl 5 (by decide) (hts _ wd_123) (fun _ h9 => h9) rfl (by decide +kernel) rfl rfl (Nat.le_of_ble_eq_true rfl) dX1_init_43 (fun H locs hP hD hS => ?_)
  have hP : va_P D vwCl [(h0, .inr (1, [.ref q7, .ref q15, .int 0, .ref q28, .ref q36, .int 0])), (q7, .inl (cI, 64, .inl (fun _ => 0))), (q15, .inl (cI, 64, .inl (fun _ => 0))), (q28, .inl (cI, 64, .inl (fun _ => 0))), (q36, .inl (cI, 64, .inl (fun _ => 0)))] H := hP
  have hD : va_D A [(h0, .inr (1, [.ref q7, .ref q15, .int 0, .ref q28, .ref q36, .int 0])), (q7, .inl (cI, 64, .inl (fun _ => 0))), (q15, .inl (cI, 64, .inl (fun _ => 0))), (q28, .inl (cI, 64, .inl (fun _ => 0))), (q36, .inl (cI, 64, .inl (fun _ => 0)))] := hD
  have hP9 := hP.sub (ws' := [(h0, .inr (1, [.ref q7, .ref q15, .int 0, .ref q28, .ref q36, .int 0])), (q7, .inl (cI, 64, .inl (fun _ => 0))), (q15, .inl (cI, 64, .inl (fun _ => 0))), (q28, .inl (cI, 64, .inl (fun _ => 0))), (q36, .inl (cI, 64, .inl (fun _ => 0)))]) [0, 1, 2, 3, 4] rfl
  have hD9 := hD.sub (ws' := [(h0, .inr (1, [.ref q7, .ref q15, .int 0, .ref q28, .ref q36, .int 0])), (q7, .inl (cI, 64, .inl (fun _ => 0))), (q15, .inl (cI, 64, .inl (fun _ => 0))), (q28, .inl (cI, 64, .inl (fun _ => 0))), (q36, .inl (cI, 64, .inl (fun _ => 0)))]) [0, 1, 2, 3, 4] (by decide) rfl
  exact W.vret hx hb hr (fun t ht hW => ⟨⟨(fun k => ([h0, q7, q15, q28, q36] : List Nat).getD k 0), rfl, trivial, by show va_P D vwCl [(h0, .inr (1, [.ref q7, .ref q15, .int 0, .ref q28, .ref q36, .int 0])), (q7, .inl (cI, 64, .inl (fun _ => 0))), (q15, .inl (cI, 64, .inl (fun _ => 0))), (q28, .inl (cI, 64, .inl (fun _ => 0))), (q36, .inl (cI, 64, .inl (fun _ => 0)))] t.heap; rw [ht]; exact hP9, hD9⟩, hS.F ht⟩) hS.2.2 dX1_init_46
theorem dX2_init_0 : decode cX2_init 0 = .ok (.aload_n 0, 1) := by decide +kernel
theorem dX2_init_1 : decode cX2_init 1 = .ok (.invokespecial 3, 3) := by decide +kernel
theorem dX2_init_4 : decode cX2_init 4 = .ok (.aload_n 0, 1) := by decide +kernel
theorem dX2_init_5 : decode cX2_init 5 = .ok (.bipush 7, 2) := by decide +kernel
theorem dX2_init_7 : decode cX2_init 7 = .ok (.newarray .long, 2) := by decide +kernel
theorem dX2_init_9 : decode cX2_init 9 = .ok (.putfield 11, 3) := by decide +kernel
theorem dX2_init_12 : decode cX2_init 12 = .ok (.aload_n 0, 1) := by decide +kernel
theorem dX2_init_13 : decode cX2_init 13 = .ok (.bipush 7, 2) := by decide +kernel
theorem dX2_init_15 : decode cX2_init 15 = .ok (.newarray .long, 2) := by decide +kernel
theorem dX2_init_17 : decode cX2_init 17 = .ok (.putfield 15, 3) := by decide +kernel
theorem dX2_init_20 : decode cX2_init 20 = .ok (.return_, 1) := by decide +kernel
set_option maxRecDepth 100000 in
set_option maxHeartbeats 4000000 in
theorem kX2_init (l : Launch) (D : va_G) (cI cJ : ClassId) (h0 sz : Nat) : Met l yX2_init (Cond.code yX2_init cX2_init 1 none :: gwT) { frames := 1, cells := 2, slots := 14, locals := 12 } (va_Pc [.ref h0] (fun U => U.heap.size = sz ∧ va_P D vwCl [(h0, .inr (2, [.null, .null]))] U.heap ∧ va_K D vwCl [(cI, .int), (cJ, .long)] U ∧ (∀ q ∈ nestL, va_Nw (.methodLinkNest q.1 q.2.1 q.2.2.1 q.2.2.2) U) ∧ va_D (fun _ => True) [(h0, .inr (2, [.null, .null]))])) (va_Qv (fun (_ : Nat → Nat) => True) (fun u t => va_P D vwCl [(h0, .inr (2, [.ref (u 1), .ref (u 2)])), ((u 1), .inl (cJ, 7, .inr (.inl (fun _ => 0)))), ((u 2), .inl (cJ, 7, .inr (.inl (fun _ => 0))))] t.heap ∧ va_D (va_A [(h0, .inr (2, [.null, .null]))] sz) [(h0, .inr (2, [.ref (u 1), .ref (u 2)])), ((u 1), .inl (cJ, 7, .inr (.inl (fun _ => 0)))), ((u 2), .inl (cJ, 7, .inr (.inl (fun _ => 0))))]) (va_A [(h0, .inr (2, [.null, .null]))] sz)) 2 14 (va_A [(h0, .inr (2, [.null, .null]))] sz) := by
  refine Met.ofW (cc := cX2_init) (maxL := 1) (ret := none) (by decide +kernel) rfl ?_
  intro p e s m args below meth c s₁ B hml hv
  obtain ⟨rfl, hsz, hP, hK, hN, hD0⟩ := hv
  have hx := B.exec
  have hb := B.bytes
  have hr := B.returns
  have hts : ∀ w ∈ gwT, w.before _ s = true := fun w hw => atoms_spec (ws := Cond.code yX2_init cX2_init 1 none :: gwT) B.pre w (List.mem_cons_of_mem _ hw)
  have hown : s.vm.findClass RX2 = some m.cls := findClass_of_methodNamed B.named
  have hlocks := B.notSynchronized
  have hin : meth.name = "<init>" := (name_of_methodNamed B.named B.method).1
  subst hsz
  have hD := hD0.self (sz := s.heap.size)
  generalize hAe : va_A [(h0, .inr (2, [.null, .null]))] s.heap.size = A at hD ⊢
  have hA : ∀ q : Nat, s.heap.size ≤ q → A q := fun q h => by rw [← hAe]; exact Or.inr h
  have hS : va_S A s.heap s.heap [] := va_S.rf
  have hP : va_P D vwCl [(h0, .inr (2, [.null, .null]))] s.heap := hP
  have hl := lv_entry ([.ref h0]) (n := 1) (Nat.le_of_ble_eq_true rfl)
  rw [lg_entry_eq]
  generalize (lg_sl ([.ref h0]) ++ List.replicate (1 - (lg_sl ([.ref h0])).length) Slot.unset).toArray = ls at hl ⊢
  have hl : lv_has ls 1 [(0, .ref h0)] := hl
  refine lv_aload_n hx hb dX2_init_0 rfl (lv_at hl 0 rfl) ?_
  refine W.objInit hx hb hown (hts _ wd_173) (hts _ wd_64) (hts _ wd_65) rfl (by rw [hml]; exact hl.1) rfl dX2_init_1 (Nat.le_of_ble_eq_true rfl) (Nat.le_of_ble_eq_true rfl) ?_
  refine W.eq (g2 := F0 m 4 ls []) rfl ?_
  refine lv_aload_n hx hb dX2_init_4 rfl (lv_at hl 0 rfl) ?_
  refine lv_bipush (v := (7 : Int32)) hx hb dX2_init_5 (by decide) ?_
  refine rs_newJ (N := 7) hx hb (hts _ wd_181) hK hP hD hS hA (by decide) (by decide +kernel) (Nat.le_of_ble_eq_true rfl) (Nat.le_of_ble_eq_true rfl) (Nat.le_of_ble_eq_true rfl) dX2_init_7 (fun q7 H hP hD hS => ?_)
  have hP : va_P D vwCl [(h0, .inr (2, [.null, .null])), (q7, .inl (cJ, 7, .inr (.inl (fun _ => 0))))] H := hP
  have hD : va_D A [(h0, .inr (2, [.null, .null])), (q7, .inl (cJ, 7, .inr (.inl (fun _ => 0))))] := hD
  refine W.widen (k := 1) (n := 7) (by omega) (by omega) ?_
  refine va_putF (D := D) (ci := 2) (v := .ref q7) (ty := .array .long) (C := RX2) (T := TX2) (N := 2) hx hb hts hinX2 tyX2 tyX2_ok nmX2 hown hK hP hD hS 0 rfl rfl 0 (by decide) (hts _ wd_174) (fun _ h9 => h9) rfl hin rfl (by decide +kernel) rfl rfl (Nat.le_of_ble_eq_true rfl) dX2_init_9 (fun H locs hP hD hS => ?_)
  have hP : va_P D vwCl [(h0, .inr (2, [.ref q7, .null])), (q7, .inl (cJ, 7, .inr (.inl (fun _ => 0))))] H := hP
  have hD : va_D A [(h0, .inr (2, [.ref q7, .null])), (q7, .inl (cJ, 7, .inr (.inl (fun _ => 0))))] := hD
  refine lv_aload_n hx hb dX2_init_12 rfl (lv_at hl 0 rfl) ?_
  refine lv_bipush (v := (7 : Int32)) hx hb dX2_init_13 (by decide) ?_
  refine rs_newJ (N := 7) hx hb (hts _ wd_181) hK hP hD hS hA (by decide) (by decide +kernel) (Nat.le_of_ble_eq_true rfl) (Nat.le_of_ble_eq_true rfl) (Nat.le_of_ble_eq_true rfl) dX2_init_15 (fun q15 H hP hD hS => ?_)
  have hP : va_P D vwCl [(h0, .inr (2, [.ref q7, .null])), (q7, .inl (cJ, 7, .inr (.inl (fun _ => 0)))), (q15, .inl (cJ, 7, .inr (.inl (fun _ => 0))))] H := hP
  have hD : va_D A [(h0, .inr (2, [.ref q7, .null])), (q7, .inl (cJ, 7, .inr (.inl (fun _ => 0)))), (q15, .inl (cJ, 7, .inr (.inl (fun _ => 0))))] := hD
  refine W.widen (k := 2) (n := 14) (by omega) (by omega) ?_
  refine va_putF (D := D) (ci := 2) (v := .ref q15) (ty := .array .long) (C := RX2) (T := TX2) (N := 2) hx hb hts hinX2 tyX2 tyX2_ok nmX2 hown hK hP hD hS 0 rfl rfl 1 (by decide) (hts _ wd_175) (fun _ h9 => h9) rfl hin rfl (by decide +kernel) rfl rfl (Nat.le_of_ble_eq_true rfl) dX2_init_17 (fun H locs hP hD hS => ?_)
  have hP : va_P D vwCl [(h0, .inr (2, [.ref q7, .ref q15])), (q7, .inl (cJ, 7, .inr (.inl (fun _ => 0)))), (q15, .inl (cJ, 7, .inr (.inl (fun _ => 0))))] H := hP
  have hD : va_D A [(h0, .inr (2, [.ref q7, .ref q15])), (q7, .inl (cJ, 7, .inr (.inl (fun _ => 0)))), (q15, .inl (cJ, 7, .inr (.inl (fun _ => 0))))] := hD
  have hP9 := hP.sub (ws' := [(h0, .inr (2, [.ref q7, .ref q15])), (q7, .inl (cJ, 7, .inr (.inl (fun _ => 0)))), (q15, .inl (cJ, 7, .inr (.inl (fun _ => 0))))]) [0, 1, 2] rfl
  have hD9 := hD.sub (ws' := [(h0, .inr (2, [.ref q7, .ref q15])), (q7, .inl (cJ, 7, .inr (.inl (fun _ => 0)))), (q15, .inl (cJ, 7, .inr (.inl (fun _ => 0))))]) [0, 1, 2] (by decide) rfl
  exact W.vret hx hb hr (fun t ht hW => ⟨⟨(fun k => ([h0, q7, q15] : List Nat).getD k 0), rfl, trivial, by show va_P D vwCl [(h0, .inr (2, [.ref q7, .ref q15])), (q7, .inl (cJ, 7, .inr (.inl (fun _ => 0)))), (q15, .inl (cJ, 7, .inr (.inl (fun _ => 0))))] t.heap; rw [ht]; exact hP9, hD9⟩, hS.F ht⟩) hS.2.2 dX2_init_20
theorem dX3_init_0 : decode cX3_init 0 = .ok (.aload_n 0, 1) := by decide +kernel
theorem dX3_init_1 : decode cX3_init 1 = .ok (.invokespecial 3, 3) := by decide +kernel
theorem dX3_init_4 : decode cX3_init 4 = .ok (.aload_n 0, 1) := by decide +kernel
theorem dX3_init_5 : decode cX3_init 5 = .ok (.sipush 900, 3) := by decide +kernel
theorem dX3_init_8 : decode cX3_init 8 = .ok (.newarray .int, 2) := by decide +kernel
theorem dX3_init_10 : decode cX3_init 10 = .ok (.putfield 9, 3) := by decide +kernel
theorem dX3_init_13 : decode cX3_init 13 = .ok (.aload_n 0, 1) := by decide +kernel
theorem dX3_init_14 : decode cX3_init 14 = .ok (.iconst 0, 1) := by decide +kernel
theorem dX3_init_15 : decode cX3_init 15 = .ok (.putfield 15, 3) := by decide +kernel
theorem dX3_init_18 : decode cX3_init 18 = .ok (.aload_n 0, 1) := by decide +kernel
theorem dX3_init_19 : decode cX3_init 19 = .ok (.iconst 0, 1) := by decide +kernel
theorem dX3_init_20 : decode cX3_init 20 = .ok (.putfield 19, 3) := by decide +kernel
theorem dX3_init_23 : decode cX3_init 23 = .ok (.aload_n 0, 1) := by decide +kernel
theorem dX3_init_24 : decode cX3_init 24 = .ok (.sipush 217, 3) := by decide +kernel
theorem dX3_init_27 : decode cX3_init 27 = .ok (.newarray .int, 2) := by decide +kernel
theorem dX3_init_29 : decode cX3_init 29 = .ok (.putfield 22, 3) := by decide +kernel
theorem dX3_init_32 : decode cX3_init 32 = .ok (.return_, 1) := by decide +kernel
set_option maxRecDepth 100000 in
set_option maxHeartbeats 4000000 in
theorem kX3_init (l : Launch) (D : va_G) (cI cJ : ClassId) (h0 sz : Nat) : Met l yX3_init (Cond.code yX3_init cX3_init 1 none :: gwT) { frames := 1, cells := 2, slots := 1117, locals := 12 } (va_Pc [.ref h0] (fun U => U.heap.size = sz ∧ va_P D vwCl [(h0, .inr (3, [.null, .int 0, .int 0, .null]))] U.heap ∧ va_K D vwCl [(cI, .int), (cJ, .long)] U ∧ (∀ q ∈ nestL, va_Nw (.methodLinkNest q.1 q.2.1 q.2.2.1 q.2.2.2) U) ∧ va_D (fun _ => True) [(h0, .inr (3, [.null, .int 0, .int 0, .null]))])) (va_Qv (fun (_ : Nat → Nat) => True) (fun u t => va_P D vwCl [(h0, .inr (3, [.ref (u 1), .int 0, .int 0, .ref (u 2)])), ((u 1), .inl (cI, 900, .inl (fun _ => 0))), ((u 2), .inl (cI, 217, .inl (fun _ => 0)))] t.heap ∧ va_D (va_A [(h0, .inr (3, [.null, .int 0, .int 0, .null]))] sz) [(h0, .inr (3, [.ref (u 1), .int 0, .int 0, .ref (u 2)])), ((u 1), .inl (cI, 900, .inl (fun _ => 0))), ((u 2), .inl (cI, 217, .inl (fun _ => 0)))]) (va_A [(h0, .inr (3, [.null, .int 0, .int 0, .null]))] sz)) 2 1117 (va_A [(h0, .inr (3, [.null, .int 0, .int 0, .null]))] sz) := by
  refine Met.ofW (cc := cX3_init) (maxL := 1) (ret := none) (by decide +kernel) rfl ?_
  intro p e s m args below meth c s₁ B hml hv
  obtain ⟨rfl, hsz, hP, hK, hN, hD0⟩ := hv
  have hx := B.exec
  have hb := B.bytes
  have hr := B.returns
  have hts : ∀ w ∈ gwT, w.before _ s = true := fun w hw => atoms_spec (ws := Cond.code yX3_init cX3_init 1 none :: gwT) B.pre w (List.mem_cons_of_mem _ hw)
  have hown : s.vm.findClass RX3 = some m.cls := findClass_of_methodNamed B.named
  have hlocks := B.notSynchronized
  have hin : meth.name = "<init>" := (name_of_methodNamed B.named B.method).1
  subst hsz
  have hD := hD0.self (sz := s.heap.size)
  generalize hAe : va_A [(h0, .inr (3, [.null, .int 0, .int 0, .null]))] s.heap.size = A at hD ⊢
  have hA : ∀ q : Nat, s.heap.size ≤ q → A q := fun q h => by rw [← hAe]; exact Or.inr h
  have hS : va_S A s.heap s.heap [] := va_S.rf
  have hP : va_P D vwCl [(h0, .inr (3, [.null, .int 0, .int 0, .null]))] s.heap := hP
  have hl := lv_entry ([.ref h0]) (n := 1) (Nat.le_of_ble_eq_true rfl)
  rw [lg_entry_eq]
  generalize (lg_sl ([.ref h0]) ++ List.replicate (1 - (lg_sl ([.ref h0])).length) Slot.unset).toArray = ls at hl ⊢
  have hl : lv_has ls 1 [(0, .ref h0)] := hl
  refine lv_aload_n hx hb dX3_init_0 rfl (lv_at hl 0 rfl) ?_
  refine W.objInit hx hb hown (hts _ wd_187) (hts _ wd_64) (hts _ wd_65) rfl (by rw [hml]; exact hl.1) rfl dX3_init_1 (Nat.le_of_ble_eq_true rfl) (Nat.le_of_ble_eq_true rfl) ?_
  refine W.eq (g2 := F0 m 4 ls []) rfl ?_
  refine lv_aload_n hx hb dX3_init_4 rfl (lv_at hl 0 rfl) ?_
  refine lv_sipush (v := (900 : Int32)) hx hb dX3_init_5 (by decide) ?_
  refine rs_newI (N := 900) hx hb (hts _ wd_108) hK hP hD hS hA (by decide) (by decide +kernel) (Nat.le_of_ble_eq_true rfl) (Nat.le_of_ble_eq_true rfl) (Nat.le_of_ble_eq_true rfl) dX3_init_8 (fun q8 H hP hD hS => ?_)
  have hP : va_P D vwCl [(h0, .inr (3, [.null, .int 0, .int 0, .null])), (q8, .inl (cI, 900, .inl (fun _ => 0)))] H := hP
  have hD : va_D A [(h0, .inr (3, [.null, .int 0, .int 0, .null])), (q8, .inl (cI, 900, .inl (fun _ => 0)))] := hD
  refine W.widen (k := 1) (n := 900) (by omega) (by omega) ?_
  refine va_putF (D := D) (ci := 3) (v := .ref q8) (ty := .array .int) (C := RX3) (T := TX3) (N := 4) hx hb hts hinX3 tyX3 tyX3_ok nmX3 hown hK hP hD hS 0 rfl rfl 0 (by decide) (hts _ wd_188) (fun _ h9 => h9) rfl hin rfl (by decide +kernel) rfl rfl (Nat.le_of_ble_eq_true rfl) dX3_init_10 (fun H locs hP hD hS => ?_)
  have hP : va_P D vwCl [(h0, .inr (3, [.ref q8, .int 0, .int 0, .null])), (q8, .inl (cI, 900, .inl (fun _ => 0)))] H := hP
  have hD : va_D A [(h0, .inr (3, [.ref q8, .int 0, .int 0, .null])), (q8, .inl (cI, 900, .inl (fun _ => 0)))] := hD
  refine lv_aload_n hx hb dX3_init_13 rfl (lv_at hl 0 rfl) ?_
  refine lv_iconst (v := (0 : Int32)) hx hb dX3_init_14 (by decide) ?_
  refine va_put (D := D) (ci := 3) (v := .int (0 : Int32)) (ty := .int) (C := RX3) (T := TX3) (N := 4) hx hb hts hinX3 tyX3 tyX3_ok nmX3 hown hK hP hD hS 0 rfl rfl 1 (by decide) (hts _ wd_190) (fun _ h9 => h9) rfl (by decide +kernel) rfl rfl (Nat.le_of_ble_eq_true rfl) dX3_init_15 (fun H locs hP hD hS => ?_)
  have hP : va_P D vwCl [(h0, .inr (3, [.ref q8, .int 0, .int 0, .null])), (q8, .inl (cI, 900, .inl (fun _ => 0)))] H := hP
  have hD : va_D A [(h0, .inr (3, [.ref q8, .int 0, .int 0, .null])), (q8, .inl (cI, 900, .inl (fun _ => 0)))] := hD
  refine lv_aload_n hx hb dX3_init_18 rfl (lv_at hl 0 rfl) ?_
  refine lv_iconst (v := (0 : Int32)) hx hb dX3_init_19 (by decide) ?_
  refine va_put (D := D) (ci := 3) (v := .int (0 : Int32)) (ty := .int) (C := RX3) (T := TX3) (N := 4) hx hb hts hinX3 tyX3 tyX3_ok nmX3 hown hK hP hD hS 0 rfl rfl 2 (by decide) (hts _ wd_192) (fun _ h9 => h9) rfl (by decide +kernel) rfl rfl (Nat.le_of_ble_eq_true rfl) dX3_init_20 (fun H locs hP hD hS => ?_)
  have hP : va_P D vwCl [(h0, .inr (3, [.ref q8, .int 0, .int 0, .null])), (q8, .inl (cI, 900, .inl (fun _ => 0)))] H := hP
  have hD : va_D A [(h0, .inr (3, [.ref q8, .int 0, .int 0, .null])), (q8, .inl (cI, 900, .inl (fun _ => 0)))] := hD
  refine lv_aload_n hx hb dX3_init_23 rfl (lv_at hl 0 rfl) ?_
  refine lv_sipush (v := (217 : Int32)) hx hb dX3_init_24 (by decide) ?_
  refine rs_newI (N := 217) hx hb (hts _ wd_108) hK hP hD hS hA (by decide) (by decide +kernel) (Nat.le_of_ble_eq_true rfl) (Nat.le_of_ble_eq_true rfl) (Nat.le_of_ble_eq_true rfl) dX3_init_27 (fun q27 H hP hD hS => ?_)
  have hP : va_P D vwCl [(h0, .inr (3, [.ref q8, .int 0, .int 0, .null])), (q8, .inl (cI, 900, .inl (fun _ => 0))), (q27, .inl (cI, 217, .inl (fun _ => 0)))] H := hP
  have hD : va_D A [(h0, .inr (3, [.ref q8, .int 0, .int 0, .null])), (q8, .inl (cI, 900, .inl (fun _ => 0))), (q27, .inl (cI, 217, .inl (fun _ => 0)))] := hD
  refine W.widen (k := 2) (n := 1117) (by omega) (by omega) ?_
  refine va_putF (D := D) (ci := 3) (v := .ref q27) (ty := .array .int) (C := RX3) (T := TX3) (N := 4) hx hb hts hinX3 tyX3 tyX3_ok nmX3 hown hK hP hD hS 0 rfl rfl 3 (by decide) (hts _ wd_194) (fun _ h9 => h9) rfl hin rfl (by decide +kernel) rfl rfl (Nat.le_of_ble_eq_true rfl) dX3_init_29 (fun H locs hP hD hS => ?_)
  have hP : va_P D vwCl [(h0, .inr (3, [.ref q8, .int 0, .int 0, .ref q27])), (q8, .inl (cI, 900, .inl (fun _ => 0))), (q27, .inl (cI, 217, .inl (fun _ => 0)))] H := hP
  have hD : va_D A [(h0, .inr (3, [.ref q8, .int 0, .int 0, .ref q27])), (q8, .inl (cI, 900, .inl (fun _ => 0))), (q27, .inl (cI, 217, .inl (fun _ => 0)))] := hD
  have hP9 := hP.sub (ws' := [(h0, .inr (3, [.ref q8, .int 0, .int 0, .ref q27])), (q8, .inl (cI, 900, .inl (fun _ => 0))), (q27, .inl (cI, 217, .inl (fun _ => 0)))]) [0, 1, 2] rfl
  have hD9 := hD.sub (ws' := [(h0, .inr (3, [.ref q8, .int 0, .int 0, .ref q27])), (q8, .inl (cI, 900, .inl (fun _ => 0))), (q27, .inl (cI, 217, .inl (fun _ => 0)))]) [0, 1, 2] (by decide) rfl
  exact W.vret hx hb hr (fun t ht hW => ⟨⟨(fun k => ([h0, q8, q27] : List Nat).getD k 0), rfl, trivial, by show va_P D vwCl [(h0, .inr (3, [.ref q8, .int 0, .int 0, .ref q27])), (q8, .inl (cI, 900, .inl (fun _ => 0))), (q27, .inl (cI, 217, .inl (fun _ => 0)))] t.heap; rw [ht]; exact hP9, hD9⟩, hS.F ht⟩) hS.2.2 dX3_init_32
theorem dX4_init_0 : decode cX4_init 0 = .ok (.aload_n 0, 1) := by decide +kernel
theorem dX4_init_1 : decode cX4_init 1 = .ok (.invokespecial 3, 3) := by decide +kernel
theorem dX4_init_4 : decode cX4_init 4 = .ok (.aload_n 0, 1) := by decide +kernel
theorem dX4_init_5 : decode cX4_init 5 = .ok (.iconst 0, 1) := by decide +kernel
theorem dX4_init_6 : decode cX4_init 6 = .ok (.putfield 9, 3) := by decide +kernel
theorem dX4_init_9 : decode cX4_init 9 = .ok (.aload_n 0, 1) := by decide +kernel
theorem dX4_init_10 : decode cX4_init 10 = .ok (.iconst 0, 1) := by decide +kernel
theorem dX4_init_11 : decode cX4_init 11 = .ok (.putfield 15, 3) := by decide +kernel
theorem dX4_init_14 : decode cX4_init 14 = .ok (.aload_n 0, 1) := by decide +kernel
theorem dX4_init_15 : decode cX4_init 15 = .ok (.iconst 0, 1) := by decide +kernel
theorem dX4_init_16 : decode cX4_init 16 = .ok (.putfield 19, 3) := by decide +kernel
theorem dX4_init_19 : decode cX4_init 19 = .ok (.aload_n 0, 1) := by decide +kernel
theorem dX4_init_20 : decode cX4_init 20 = .ok (.sipush 784, 3) := by decide +kernel
theorem dX4_init_23 : decode cX4_init 23 = .ok (.newarray .int, 2) := by decide +kernel
theorem dX4_init_25 : decode cX4_init 25 = .ok (.putfield 22, 3) := by decide +kernel
theorem dX4_init_28 : decode cX4_init 28 = .ok (.aload_n 0, 1) := by decide +kernel
theorem dX4_init_29 : decode cX4_init 29 = .ok (.iconst 1, 1) := by decide +kernel
theorem dX4_init_30 : decode cX4_init 30 = .ok (.putfield 26, 3) := by decide +kernel
theorem dX4_init_33 : decode cX4_init 33 = .ok (.aload_n 0, 1) := by decide +kernel
theorem dX4_init_34 : decode cX4_init 34 = .ok (.iconst 0, 1) := by decide +kernel
theorem dX4_init_35 : decode cX4_init 35 = .ok (.putfield 29, 3) := by decide +kernel
theorem dX4_init_38 : decode cX4_init 38 = .ok (.aload_n 0, 1) := by decide +kernel
theorem dX4_init_39 : decode cX4_init 39 = .ok (.iconst 0, 1) := by decide +kernel
theorem dX4_init_40 : decode cX4_init 40 = .ok (.putfield 32, 3) := by decide +kernel
theorem dX4_init_43 : decode cX4_init 43 = .ok (.return_, 1) := by decide +kernel
set_option maxRecDepth 100000 in
set_option maxHeartbeats 4000000 in
theorem kX4_init (l : Launch) (D : va_G) (cI cJ : ClassId) (h0 sz : Nat) : Met l yX4_init (Cond.code yX4_init cX4_init 1 none :: gwT) { frames := 1, cells := 1, slots := 784, locals := 12 } (va_Pc [.ref h0] (fun U => U.heap.size = sz ∧ va_P D vwCl [(h0, .inr (4, [.int 0, .int 0, .int 0, .null, .int 0, .int 0, .int 0]))] U.heap ∧ va_K D vwCl [(cI, .int), (cJ, .long)] U ∧ (∀ q ∈ nestL, va_Nw (.methodLinkNest q.1 q.2.1 q.2.2.1 q.2.2.2) U) ∧ va_D (fun _ => True) [(h0, .inr (4, [.int 0, .int 0, .int 0, .null, .int 0, .int 0, .int 0]))])) (va_Qv (fun (_ : Nat → Nat) => True) (fun u t => va_P D vwCl [(h0, .inr (4, [.int 0, .int 0, .int 0, .ref (u 1), .int 1, .int 0, .int 0])), ((u 1), .inl (cI, 784, .inl (fun _ => 0)))] t.heap ∧ va_D (va_A [(h0, .inr (4, [.int 0, .int 0, .int 0, .null, .int 0, .int 0, .int 0]))] sz) [(h0, .inr (4, [.int 0, .int 0, .int 0, .ref (u 1), .int 1, .int 0, .int 0])), ((u 1), .inl (cI, 784, .inl (fun _ => 0)))]) (va_A [(h0, .inr (4, [.int 0, .int 0, .int 0, .null, .int 0, .int 0, .int 0]))] sz)) 1 784 (va_A [(h0, .inr (4, [.int 0, .int 0, .int 0, .null, .int 0, .int 0, .int 0]))] sz) := by
  refine Met.ofW (cc := cX4_init) (maxL := 1) (ret := none) (by decide +kernel) rfl ?_
  intro p e s m args below meth c s₁ B hml hv
  obtain ⟨rfl, hsz, hP, hK, hN, hD0⟩ := hv
  have hx := B.exec
  have hb := B.bytes
  have hr := B.returns
  have hts : ∀ w ∈ gwT, w.before _ s = true := fun w hw => atoms_spec (ws := Cond.code yX4_init cX4_init 1 none :: gwT) B.pre w (List.mem_cons_of_mem _ hw)
  have hown : s.vm.findClass RX4 = some m.cls := findClass_of_methodNamed B.named
  have hlocks := B.notSynchronized
  have hin : meth.name = "<init>" := (name_of_methodNamed B.named B.method).1
  subst hsz
  have hD := hD0.self (sz := s.heap.size)
  generalize hAe : va_A [(h0, .inr (4, [.int 0, .int 0, .int 0, .null, .int 0, .int 0, .int 0]))] s.heap.size = A at hD ⊢
  have hA : ∀ q : Nat, s.heap.size ≤ q → A q := fun q h => by rw [← hAe]; exact Or.inr h
  have hS : va_S A s.heap s.heap [] := va_S.rf
  have hP : va_P D vwCl [(h0, .inr (4, [.int 0, .int 0, .int 0, .null, .int 0, .int 0, .int 0]))] s.heap := hP
  have hl := lv_entry ([.ref h0]) (n := 1) (Nat.le_of_ble_eq_true rfl)
  rw [lg_entry_eq]
  generalize (lg_sl ([.ref h0]) ++ List.replicate (1 - (lg_sl ([.ref h0])).length) Slot.unset).toArray = ls at hl ⊢
  have hl : lv_has ls 1 [(0, .ref h0)] := hl
  refine lv_aload_n hx hb dX4_init_0 rfl (lv_at hl 0 rfl) ?_
  refine W.objInit hx hb hown (hts _ wd_142) (hts _ wd_64) (hts _ wd_65) rfl (by rw [hml]; exact hl.1) rfl dX4_init_1 (Nat.le_of_ble_eq_true rfl) (Nat.le_of_ble_eq_true rfl) ?_
  refine W.eq (g2 := F0 m 4 ls []) rfl ?_
  refine lv_aload_n hx hb dX4_init_4 rfl (lv_at hl 0 rfl) ?_
  refine lv_iconst (v := (0 : Int32)) hx hb dX4_init_5 (by decide) ?_
  refine va_put (D := D) (ci := 4) (v := .int (0 : Int32)) (ty := .int) (C := RX4) (T := TX4) (N := 7) hx hb hts hinX4 tyX4 tyX4_ok nmX4 hown hK hP hD hS 0 rfl rfl 0 (by decide) (hts _ wd_143) (fun _ h9 => h9) rfl (by decide +kernel) rfl rfl (Nat.le_of_ble_eq_true rfl) dX4_init_6 (fun H locs hP hD hS => ?_)
  have hP : va_P D vwCl [(h0, .inr (4, [.int 0, .int 0, .int 0, .null, .int 0, .int 0, .int 0]))] H := hP
  have hD : va_D A [(h0, .inr (4, [.int 0, .int 0, .int 0, .null, .int 0, .int 0, .int 0]))] := hD
  refine lv_aload_n hx hb dX4_init_9 rfl (lv_at hl 0 rfl) ?_
  refine lv_iconst (v := (0 : Int32)) hx hb dX4_init_10 (by decide) ?_
  refine va_put (D := D) (ci := 4) (v := .int (0 : Int32)) (ty := .boolean) (C := RX4) (T := TX4) (N := 7) hx hb hts hinX4 tyX4 tyX4_ok nmX4 hown hK hP hD hS 0 rfl rfl 1 (by decide) (hts _ wd_145) (fun _ h9 => h9) rfl (by decide +kernel) rfl rfl (Nat.le_of_ble_eq_true rfl) dX4_init_11 (fun H locs hP hD hS => ?_)
  have hP : va_P D vwCl [(h0, .inr (4, [.int 0, .int 0, .int 0, .null, .int 0, .int 0, .int 0]))] H := hP
  have hD : va_D A [(h0, .inr (4, [.int 0, .int 0, .int 0, .null, .int 0, .int 0, .int 0]))] := hD
  refine lv_aload_n hx hb dX4_init_14 rfl (lv_at hl 0 rfl) ?_
  refine lv_iconst (v := (0 : Int32)) hx hb dX4_init_15 (by decide) ?_
  refine va_put (D := D) (ci := 4) (v := .int (0 : Int32)) (ty := .boolean) (C := RX4) (T := TX4) (N := 7) hx hb hts hinX4 tyX4 tyX4_ok nmX4 hown hK hP hD hS 0 rfl rfl 2 (by decide) (hts _ wd_147) (fun _ h9 => h9) rfl (by decide +kernel) rfl rfl (Nat.le_of_ble_eq_true rfl) dX4_init_16 (fun H locs hP hD hS => ?_)
  have hP : va_P D vwCl [(h0, .inr (4, [.int 0, .int 0, .int 0, .null, .int 0, .int 0, .int 0]))] H := hP
  have hD : va_D A [(h0, .inr (4, [.int 0, .int 0, .int 0, .null, .int 0, .int 0, .int 0]))] := hD
  refine lv_aload_n hx hb dX4_init_19 rfl (lv_at hl 0 rfl) ?_
  refine lv_sipush (v := (784 : Int32)) hx hb dX4_init_20 (by decide) ?_
  refine rs_newI (N := 784) hx hb (hts _ wd_108) hK hP hD hS hA (by decide) (by decide +kernel) (Nat.le_of_ble_eq_true rfl) (Nat.le_of_ble_eq_true rfl) (Nat.le_of_ble_eq_true rfl) dX4_init_23 (fun q23 H hP hD hS => ?_)
  have hP : va_P D vwCl [(h0, .inr (4, [.int 0, .int 0, .int 0, .null, .int 0, .int 0, .int 0])), (q23, .inl (cI, 784, .inl (fun _ => 0)))] H := hP
  have hD : va_D A [(h0, .inr (4, [.int 0, .int 0, .int 0, .null, .int 0, .int 0, .int 0])), (q23, .inl (cI, 784, .inl (fun _ => 0)))] := hD
  refine W.widen (k := 1) (n := 784) (by omega) (by omega) ?_
  refine va_putF (D := D) (ci := 4) (v := .ref q23) (ty := .array .int) (C := RX4) (T := TX4) (N := 7) hx hb hts hinX4 tyX4 tyX4_ok nmX4 hown hK hP hD hS 0 rfl rfl 3 (by decide) (hts _ wd_149) (fun _ h9 => h9) rfl hin rfl (by decide +kernel) rfl rfl (Nat.le_of_ble_eq_true rfl) dX4_init_25 (fun H locs hP hD hS => ?_)
  have hP : va_P D vwCl [(h0, .inr (4, [.int 0, .int 0, .int 0, .ref q23, .int 0, .int 0, .int 0])), (q23, .inl (cI, 784, .inl (fun _ => 0)))] H := hP
  have hD : va_D A [(h0, .inr (4, [.int 0, .int 0, .int 0, .ref q23, .int 0, .int 0, .int 0])), (q23, .inl (cI, 784, .inl (fun _ => 0)))] := hD
  refine lv_aload_n hx hb dX4_init_28 rfl (lv_at hl 0 rfl) ?_
  refine lv_iconst (v := (1 : Int32)) hx hb dX4_init_29 (by decide) ?_
  refine va_put (D := D) (ci := 4) (v := .int (1 : Int32)) (ty := .int) (C := RX4) (T := TX4) (N := 7) hx hb hts hinX4 tyX4 tyX4_ok nmX4 hown hK hP hD hS 0 rfl rfl 4 (by decide) (hts _ wd_150) (fun _ h9 => h9) rfl (by decide +kernel) rfl rfl (Nat.le_of_ble_eq_true rfl) dX4_init_30 (fun H locs hP hD hS => ?_)
  have hP : va_P D vwCl [(h0, .inr (4, [.int 0, .int 0, .int 0, .ref q23, .int 1, .int 0, .int 0])), (q23, .inl (cI, 784, .inl (fun _ => 0)))] H := hP
  have hD : va_D A [(h0, .inr (4, [.int 0, .int 0, .int 0, .ref q23, .int 1, .int 0, .int 0])), (q23, .inl (cI, 784, .inl (fun _ => 0)))] := hD
  refine lv_aload_n hx hb dX4_init_33 rfl (lv_at hl 0 rfl) ?_
  refine lv_iconst (v := (0 : Int32)) hx hb dX4_init_34 (by decide) ?_
  refine va_put (D := D) (ci := 4) (v := .int (0 : Int32)) (ty := .int) (C := RX4) (T := TX4) (N := 7) hx hb hts hinX4 tyX4 tyX4_ok nmX4 hown hK hP hD hS 0 rfl rfl 5 (by decide) (hts _ wd_151) (fun _ h9 => h9) rfl (by decide +kernel) rfl rfl (Nat.le_of_ble_eq_true rfl) dX4_init_35 (fun H locs hP hD hS => ?_)
  have hP : va_P D vwCl [(h0, .inr (4, [.int 0, .int 0, .int 0, .ref q23, .int 1, .int 0, .int 0])), (q23, .inl (cI, 784, .inl (fun _ => 0)))] H := hP
  have hD : va_D A [(h0, .inr (4, [.int 0, .int 0, .int 0, .ref q23, .int 1, .int 0, .int 0])), (q23, .inl (cI, 784, .inl (fun _ => 0)))] := hD
  refine lv_aload_n hx hb dX4_init_38 rfl (lv_at hl 0 rfl) ?_
  refine lv_iconst (v := (0 : Int32)) hx hb dX4_init_39 (by decide) ?_
  refine va_put (D := D) (ci := 4) (v := .int (0 : Int32)) (ty := .int) (C := RX4) (T := TX4) (N := 7) hx hb hts hinX4 tyX4 tyX4_ok nmX4 hown hK hP hD hS 0 rfl rfl 6 (by decide) (hts _ wd_152) (fun _ h9 => h9) rfl (by decide +kernel) rfl rfl (Nat.le_of_ble_eq_true rfl) dX4_init_40 (fun H locs hP hD hS => ?_)
  have hP : va_P D vwCl [(h0, .inr (4, [.int 0, .int 0, .int 0, .ref q23, .int 1, .int 0, .int 0])), (q23, .inl (cI, 784, .inl (fun _ => 0)))] H := hP
  have hD : va_D A [(h0, .inr (4, [.int 0, .int 0, .int 0, .ref q23, .int 1, .int 0, .int 0])), (q23, .inl (cI, 784, .inl (fun _ => 0)))] := hD
  have hP9 := hP.sub (ws' := [(h0, .inr (4, [.int 0, .int 0, .int 0, .ref q23, .int 1, .int 0, .int 0])), (q23, .inl (cI, 784, .inl (fun _ => 0)))]) [0, 1] rfl
  have hD9 := hD.sub (ws' := [(h0, .inr (4, [.int 0, .int 0, .int 0, .ref q23, .int 1, .int 0, .int 0])), (q23, .inl (cI, 784, .inl (fun _ => 0)))]) [0, 1] (by decide) rfl
  exact W.vret hx hb hr (fun t ht hW => ⟨⟨(fun k => ([h0, q23] : List Nat).getD k 0), rfl, trivial, by show va_P D vwCl [(h0, .inr (4, [.int 0, .int 0, .int 0, .ref q23, .int 1, .int 0, .int 0])), (q23, .inl (cI, 784, .inl (fun _ => 0)))] t.heap; rw [ht]; exact hP9, hD9⟩, hS.F ht⟩) hS.2.2 dX4_init_43
theorem dX5_init_0 : decode cX5_init 0 = .ok (.aload_n 0, 1) := by decide +kernel
theorem dX5_init_1 : decode cX5_init 1 = .ok (.invokespecial 1, 3) := by decide +kernel
theorem dX5_init_4 : decode cX5_init 4 = .ok (.aload_n 0, 1) := by decide +kernel
theorem dX5_init_5 : decode cX5_init 5 = .ok (.new 7, 3) := by decide +kernel
theorem dX5_init_8 : decode cX5_init 8 = .ok (.dup, 1) := by decide +kernel
theorem dX5_init_9 : decode cX5_init 9 = .ok (.invokespecial 9, 3) := by decide +kernel
theorem dX5_init_12 : decode cX5_init 12 = .ok (.putfield 10, 3) := by decide +kernel
theorem dX5_init_15 : decode cX5_init 15 = .ok (.aload_n 0, 1) := by decide +kernel
theorem dX5_init_16 : decode cX5_init 16 = .ok (.new 7, 3) := by decide +kernel
theorem dX5_init_19 : decode cX5_init 19 = .ok (.dup, 1) := by decide +kernel
theorem dX5_init_20 : decode cX5_init 20 = .ok (.invokespecial 9, 3) := by decide +kernel
theorem dX5_init_23 : decode cX5_init 23 = .ok (.putfield 16, 3) := by decide +kernel
theorem dX5_init_26 : decode cX5_init 26 = .ok (.aload_n 0, 1) := by decide +kernel
theorem dX5_init_27 : decode cX5_init 27 = .ok (.new 19, 3) := by decide +kernel
theorem dX5_init_30 : decode cX5_init 30 = .ok (.dup, 1) := by decide +kernel
theorem dX5_init_31 : decode cX5_init 31 = .ok (.invokespecial 21, 3) := by decide +kernel
theorem dX5_init_34 : decode cX5_init 34 = .ok (.putfield 22, 3) := by decide +kernel
theorem dX5_init_37 : decode cX5_init 37 = .ok (.aload_n 0, 1) := by decide +kernel
theorem dX5_init_38 : decode cX5_init 38 = .ok (.new 26, 3) := by decide +kernel
theorem dX5_init_41 : decode cX5_init 41 = .ok (.dup, 1) := by decide +kernel
theorem dX5_init_42 : decode cX5_init 42 = .ok (.invokespecial 28, 3) := by decide +kernel
theorem dX5_init_45 : decode cX5_init 45 = .ok (.putfield 29, 3) := by decide +kernel
theorem dX5_init_48 : decode cX5_init 48 = .ok (.aload_n 0, 1) := by decide +kernel
theorem dX5_init_49 : decode cX5_init 49 = .ok (.new 33, 3) := by decide +kernel
theorem dX5_init_52 : decode cX5_init 52 = .ok (.dup, 1) := by decide +kernel
theorem dX5_init_53 : decode cX5_init 53 = .ok (.invokespecial 35, 3) := by decide +kernel
theorem dX5_init_56 : decode cX5_init 56 = .ok (.putfield 36, 3) := by decide +kernel
theorem dX5_init_59 : decode cX5_init 59 = .ok (.aload_n 0, 1) := by decide +kernel
theorem dX5_init_60 : decode cX5_init 60 = .ok (.new 40, 3) := by decide +kernel
theorem dX5_init_63 : decode cX5_init 63 = .ok (.dup, 1) := by decide +kernel
theorem dX5_init_64 : decode cX5_init 64 = .ok (.invokespecial 42, 3) := by decide +kernel
theorem dX5_init_67 : decode cX5_init 67 = .ok (.putfield 43, 3) := by decide +kernel
theorem dX5_init_70 : decode cX5_init 70 = .ok (.return_, 1) := by decide +kernel
set_option maxRecDepth 100000 in
set_option maxHeartbeats 4000000 in
theorem kX5_init (l : Launch) (D : va_G) (cI cJ : ClassId) (h0 sz : Nat) : Met l yX5_init (Cond.code yX5_init cX5_init 1 none :: gwT) { frames := 2, cells := 23, slots := 2264, locals := 32 } (va_Pc [.ref h0] (fun U => U.heap.size = sz ∧ va_P D vwCl [(h0, .inr (5, [.null, .null, .null, .null, .null, .null]))] U.heap ∧ va_K D vwCl [(cI, .int), (cJ, .long)] U ∧ (∀ q ∈ nestL, va_Nw (.methodLinkNest q.1 q.2.1 q.2.2.1 q.2.2.2) U) ∧ va_D (fun _ => True) [(h0, .inr (5, [.null, .null, .null, .null, .null, .null]))])) (va_Qv (fun (_ : Nat → Nat) => True) (fun u t => va_P D vwCl [(h0, .inr (5, [.ref (u 1), .ref (u 6), .ref (u 11), .ref (u 16), .ref (u 18), .ref (u 21)])), ((u 1), .inr (0, [.ref (u 2), .ref (u 3), .ref (u 4), .ref (u 5), .int 0])), ((u 2), .inl (cI, 8, .inl (fun _ => 0))), ((u 3), .inl (cI, 8, .inl (fun _ => 0))), ((u 4), .inl (cI, 8, .inl (fun _ => 0))), ((u 5), .inl (cI, 8, .inl (fun _ => 0))), ((u 6), .inr (0, [.ref (u 7), .ref (u 8), .ref (u 9), .ref (u 10), .int 0])), ((u 7), .inl (cI, 8, .inl (fun _ => 0))), ((u 8), .inl (cI, 8, .inl (fun _ => 0))), ((u 9), .inl (cI, 8, .inl (fun _ => 0))), ((u 10), .inl (cI, 8, .inl (fun _ => 0))), ((u 11), .inr (1, [.ref (u 12), .ref (u 13), .int 0, .ref (u 14), .ref (u 15), .int 0])), ((u 12), .inl (cI, 64, .inl (fun _ => 0))), ((u 13), .inl (cI, 64, .inl (fun _ => 0))), ((u 14), .inl (cI, 64, .inl (fun _ => 0))), ((u 15), .inl (cI, 64, .inl (fun _ => 0))), ((u 16), .inr (4, [.int 0, .int 0, .int 0, .ref (u 17), .int 1, .int 0, .int 0])), ((u 17), .inl (cI, 784, .inl (fun _ => 0))), ((u 18), .inr (2, [.ref (u 19), .ref (u 20)])), ((u 19), .inl (cJ, 7, .inr (.inl (fun _ => 0)))), ((u 20), .inl (cJ, 7, .inr (.inl (fun _ => 0)))), ((u 21), .inr (3, [.ref (u 22), .int 0, .int 0, .ref (u 23)])), ((u 22), .inl (cI, 900, .inl (fun _ => 0))), ((u 23), .inl (cI, 217, .inl (fun _ => 0)))] t.heap ∧ va_D (va_A [(h0, .inr (5, [.null, .null, .null, .null, .null, .null]))] sz) [(h0, .inr (5, [.ref (u 1), .ref (u 6), .ref (u 11), .ref (u 16), .ref (u 18), .ref (u 21)])), ((u 1), .inr (0, [.ref (u 2), .ref (u 3), .ref (u 4), .ref (u 5), .int 0])), ((u 2), .inl (cI, 8, .inl (fun _ => 0))), ((u 3), .inl (cI, 8, .inl (fun _ => 0))), ((u 4), .inl (cI, 8, .inl (fun _ => 0))), ((u 5), .inl (cI, 8, .inl (fun _ => 0))), ((u 6), .inr (0, [.ref (u 7), .ref (u 8), .ref (u 9), .ref (u 10), .int 0])), ((u 7), .inl (cI, 8, .inl (fun _ => 0))), ((u 8), .inl (cI, 8, .inl (fun _ => 0))), ((u 9), .inl (cI, 8, .inl (fun _ => 0))), ((u 10), .inl (cI, 8, .inl (fun _ => 0))), ((u 11), .inr (1, [.ref (u 12), .ref (u 13), .int 0, .ref (u 14), .ref (u 15), .int 0])), ((u 12), .inl (cI, 64, .inl (fun _ => 0))), ((u 13), .inl (cI, 64, .inl (fun _ => 0))), ((u 14), .inl (cI, 64, .inl (fun _ => 0))), ((u 15), .inl (cI, 64, .inl (fun _ => 0))), ((u 16), .inr (4, [.int 0, .int 0, .int 0, .ref (u 17), .int 1, .int 0, .int 0])), ((u 17), .inl (cI, 784, .inl (fun _ => 0))), ((u 18), .inr (2, [.ref (u 19), .ref (u 20)])), ((u 19), .inl (cJ, 7, .inr (.inl (fun _ => 0)))), ((u 20), .inl (cJ, 7, .inr (.inl (fun _ => 0)))), ((u 21), .inr (3, [.ref (u 22), .int 0, .int 0, .ref (u 23)])), ((u 22), .inl (cI, 900, .inl (fun _ => 0))), ((u 23), .inl (cI, 217, .inl (fun _ => 0)))]) (va_A [(h0, .inr (5, [.null, .null, .null, .null, .null, .null]))] sz)) 23 2264 (va_A [(h0, .inr (5, [.null, .null, .null, .null, .null, .null]))] sz) := by
  refine Met.ofW (cc := cX5_init) (maxL := 1) (ret := none) (by decide +kernel) rfl ?_
  intro p e s m args below meth c s₁ B hml hv
  obtain ⟨rfl, hsz, hP, hK, hN, hD0⟩ := hv
  have hx := B.exec
  have hb := B.bytes
  have hr := B.returns
  have hts : ∀ w ∈ gwT, w.before _ s = true := fun w hw => atoms_spec (ws := Cond.code yX5_init cX5_init 1 none :: gwT) B.pre w (List.mem_cons_of_mem _ hw)
  have hown : s.vm.findClass RX5 = some m.cls := findClass_of_methodNamed B.named
  have hlocks := B.notSynchronized
  have hin : meth.name = "<init>" := (name_of_methodNamed B.named B.method).1
  subst hsz
  have hD := hD0.self (sz := s.heap.size)
  generalize hAe : va_A [(h0, .inr (5, [.null, .null, .null, .null, .null, .null]))] s.heap.size = A at hD ⊢
  have hA : ∀ q : Nat, s.heap.size ≤ q → A q := fun q h => by rw [← hAe]; exact Or.inr h
  have hS : va_S A s.heap s.heap [] := va_S.rf
  have hP : va_P D vwCl [(h0, .inr (5, [.null, .null, .null, .null, .null, .null]))] s.heap := hP
  have hl := lv_entry ([.ref h0]) (n := 1) (Nat.le_of_ble_eq_true rfl)
  rw [lg_entry_eq]
  generalize (lg_sl ([.ref h0]) ++ List.replicate (1 - (lg_sl ([.ref h0])).length) Slot.unset).toArray = ls at hl ⊢
  have hl : lv_has ls 1 [(0, .ref h0)] := hl
  refine lv_aload_n hx hb dX5_init_0 rfl (lv_at hl 0 rfl) ?_
  refine W.objInit hx hb hown (hts _ wd_63) (hts _ wd_64) (hts _ wd_65) rfl (by rw [hml]; exact hl.1) rfl dX5_init_1 (Nat.le_of_ble_eq_true rfl) (Nat.le_of_ble_eq_true rfl) ?_
  refine W.eq (g2 := F0 m 4 ls []) rfl ?_
  refine lv_aload_n hx hb dX5_init_4 rfl (lv_at hl 0 rfl) ?_
  refine va_new (ci := 0) (fs := [.null, .null, .null, .null, .int 0]) (C := RX0) (T := TX0) (N := 5) hx hb hts hinX0 tyX0 tyX0_ok hown (hts _ wd_66) (hts _ wd_67) (hts _ wd_50) hK hP hD hS hA rfl (fun j hj => by rcases (show j = 0 ∨ j = 1 ∨ j = 2 ∨ j = 3 ∨ j = 4 by omega) with rfl | rfl | rfl | rfl | rfl <;> rfl) (Nat.le_of_ble_eq_true rfl) (Nat.le_of_ble_eq_true rfl) dX5_init_5 (fun q5 H hP hD hS => ?_)
  have hP : va_P D vwCl [(h0, .inr (5, [.null, .null, .null, .null, .null, .null])), (q5, .inr (0, [.null, .null, .null, .null, .int 0]))] H := hP
  have hD : va_D A [(h0, .inr (5, [.null, .null, .null, .null, .null, .null])), (q5, .inr (0, [.null, .null, .null, .null, .int 0]))] := hD
  refine W.widen (k := 1) (n := 5) (by omega) (by omega) ?_
  refine lv_dup hx hb dX5_init_8 rfl ?_
  have hPc := hP.sub (ws' := [(q5, .inr (0, [.null, .null, .null, .null, .int 0]))]) [1] rfl
  have hDc := hD.sub (ws' := [(q5, .inr (0, [.null, .null, .null, .null, .int 0]))]) [1] (by decide) rfl
  have hFc := va_free (wc := [(q5, .inr (0, [.null, .null, .null, .null, .int 0]))]) hD hS hA [1] rfl
  refine va_callv (va_runIN (As := []) (rest := [.ref q5, .ref h0]) ⟨hx, hb, hml, hown, hts⟩ (kX0_init l D cI cJ q5 H.size) ⟨va_cnB 0 hts (rs_good wd_70) rfl rfl rfl (hN _ (nl_X5_9)) (hts _ wd_50) (by decide +kernel) ⟨Nat.le_of_ble_eq_true rfl, Nat.le_of_ble_eq_true rfl⟩, rfl, hts _ wd_69⟩ ⟨rs_blindI, fun U hU hW => ⟨rfl, by rw [hU], by rw [hU]; exact hPc, va_K.moved hW.alike hK, fun q hq => va_Nw.warmM hW (hN q hq), hDc.weaken (fun _ _ _ _ => trivial)⟩⟩ rfl rfl hl.1 rfl (lv_room (Nat.le_of_ble_eq_true rfl)) dX5_init_9 ⟨Nat.le_of_ble_eq_true rfl, Nat.le_of_ble_eq_true rfl⟩) hS (fun q _ h => hFc q h) hFc (fun u9 t H1 locs ht hvm hw hB hz1 hk1 hS => ?_)
  obtain ⟨hP1, hD1⟩ := hB
  rw [ht] at hP1
  obtain ⟨hP, hD⟩ := va_join (wr := [(h0, .inr (5, [.null, .null, .null, .null, .null, .null]))]) (w1 := [(q5, .inr (0, [.ref (u9 1), .ref (u9 2), .ref (u9 3), .ref (u9 4), .int 0])), ((u9 1), .inl (cI, 8, .inl (fun _ => 0))), ((u9 2), .inl (cI, 8, .inl (fun _ => 0))), ((u9 3), .inl (cI, 8, .inl (fun _ => 0))), ((u9 4), .inl (cI, 8, .inl (fun _ => 0)))]) hP hD [1] [0] rfl rfl (by decide) (by decide) hk1 hFc hP1 hD1
  generalize H1 = H at hP hS ⊢
  have hP : va_P D vwCl [(h0, .inr (5, [.null, .null, .null, .null, .null, .null])), (q5, .inr (0, [.ref (u9 1), .ref (u9 2), .ref (u9 3), .ref (u9 4), .int 0])), ((u9 1), .inl (cI, 8, .inl (fun _ => 0))), ((u9 2), .inl (cI, 8, .inl (fun _ => 0))), ((u9 3), .inl (cI, 8, .inl (fun _ => 0))), ((u9 4), .inl (cI, 8, .inl (fun _ => 0)))] H := hP
  have hD : va_D A [(h0, .inr (5, [.null, .null, .null, .null, .null, .null])), (q5, .inr (0, [.ref (u9 1), .ref (u9 2), .ref (u9 3), .ref (u9 4), .int 0])), ((u9 1), .inl (cI, 8, .inl (fun _ => 0))), ((u9 2), .inl (cI, 8, .inl (fun _ => 0))), ((u9 3), .inl (cI, 8, .inl (fun _ => 0))), ((u9 4), .inl (cI, 8, .inl (fun _ => 0)))] := hD
  refine W.widen (k := 5) (n := 37) (by omega) (by omega) ?_
  refine va_putF (D := D) (ci := 5) (v := .ref q5) (ty := .object "RootShapes$Equation") (C := RX5) (T := TX5) (N := 6) hx hb hts hinX5 tyX5 tyX5_ok nmX5 hown hK hP hD hS 0 rfl rfl 0 (by decide) (hts _ wd_204) (fun _ h9 => h9) rfl hin rfl (by decide +kernel) rfl rfl (Nat.le_of_ble_eq_true rfl) dX5_init_12 (fun H locs hP hD hS => ?_)
  have hP : va_P D vwCl [(h0, .inr (5, [.ref q5, .null, .null, .null, .null, .null])), (q5, .inr (0, [.ref (u9 1), .ref (u9 2), .ref (u9 3), .ref (u9 4), .int 0])), ((u9 1), .inl (cI, 8, .inl (fun _ => 0))), ((u9 2), .inl (cI, 8, .inl (fun _ => 0))), ((u9 3), .inl (cI, 8, .inl (fun _ => 0))), ((u9 4), .inl (cI, 8, .inl (fun _ => 0)))] H := hP
  have hD : va_D A [(h0, .inr (5, [.ref q5, .null, .null, .null, .null, .null])), (q5, .inr (0, [.ref (u9 1), .ref (u9 2), .ref (u9 3), .ref (u9 4), .int 0])), ((u9 1), .inl (cI, 8, .inl (fun _ => 0))), ((u9 2), .inl (cI, 8, .inl (fun _ => 0))), ((u9 3), .inl (cI, 8, .inl (fun _ => 0))), ((u9 4), .inl (cI, 8, .inl (fun _ => 0)))] := hD
  refine lv_aload_n hx hb dX5_init_15 rfl (lv_at hl 0 rfl) ?_
  refine va_new (ci := 0) (fs := [.null, .null, .null, .null, .int 0]) (C := RX0) (T := TX0) (N := 5) hx hb hts hinX0 tyX0 tyX0_ok hown (hts _ wd_66) (hts _ wd_67) (hts _ wd_50) hK hP hD hS hA rfl (fun j hj => by rcases (show j = 0 ∨ j = 1 ∨ j = 2 ∨ j = 3 ∨ j = 4 by omega) with rfl | rfl | rfl | rfl | rfl <;> rfl) (Nat.le_of_ble_eq_true rfl) (Nat.le_of_ble_eq_true rfl) dX5_init_16 (fun q16 H hP hD hS => ?_)
  have hP : va_P D vwCl [(h0, .inr (5, [.ref q5, .null, .null, .null, .null, .null])), (q5, .inr (0, [.ref (u9 1), .ref (u9 2), .ref (u9 3), .ref (u9 4), .int 0])), ((u9 1), .inl (cI, 8, .inl (fun _ => 0))), ((u9 2), .inl (cI, 8, .inl (fun _ => 0))), ((u9 3), .inl (cI, 8, .inl (fun _ => 0))), ((u9 4), .inl (cI, 8, .inl (fun _ => 0))), (q16, .inr (0, [.null, .null, .null, .null, .int 0]))] H := hP
  have hD : va_D A [(h0, .inr (5, [.ref q5, .null, .null, .null, .null, .null])), (q5, .inr (0, [.ref (u9 1), .ref (u9 2), .ref (u9 3), .ref (u9 4), .int 0])), ((u9 1), .inl (cI, 8, .inl (fun _ => 0))), ((u9 2), .inl (cI, 8, .inl (fun _ => 0))), ((u9 3), .inl (cI, 8, .inl (fun _ => 0))), ((u9 4), .inl (cI, 8, .inl (fun _ => 0))), (q16, .inr (0, [.null, .null, .null, .null, .int 0]))] := hD
  refine W.widen (k := 6) (n := 42) (by omega) (by omega) ?_
  refine lv_dup hx hb dX5_init_19 rfl ?_
  have hPc := hP.sub (ws' := [(q16, .inr (0, [.null, .null, .null, .null, .int 0]))]) [6] rfl
  have hDc := hD.sub (ws' := [(q16, .inr (0, [.null, .null, .null, .null, .int 0]))]) [6] (by decide) rfl
  have hFc := va_free (wc := [(q16, .inr (0, [.null, .null, .null, .null, .int 0]))]) hD hS hA [6] rfl
  refine va_callv (va_runIN (As := []) (rest := [.ref q16, .ref h0]) ⟨hx, hb, hml, hown, hts⟩ (kX0_init l D cI cJ q16 H.size) ⟨va_cnB 0 hts (rs_good wd_70) rfl rfl rfl (hN _ (nl_X5_9)) (hts _ wd_50) (by decide +kernel) ⟨Nat.le_of_ble_eq_true rfl, Nat.le_of_ble_eq_true rfl⟩, rfl, hts _ wd_69⟩ ⟨rs_blindI, fun U hU hW => ⟨rfl, by rw [hU], by rw [hU]; exact hPc, va_K.moved hW.alike hK, fun q hq => va_Nw.warmM hW (hN q hq), hDc.weaken (fun _ _ _ _ => trivial)⟩⟩ rfl rfl hl.1 rfl (lv_room (Nat.le_of_ble_eq_true rfl)) dX5_init_20 ⟨Nat.le_of_ble_eq_true rfl, Nat.le_of_ble_eq_true rfl⟩) hS (fun q _ h => hFc q h) hFc (fun u20 t H1 locs ht hvm hw hB hz1 hk1 hS => ?_)
  obtain ⟨hP1, hD1⟩ := hB
  rw [ht] at hP1
  obtain ⟨hP, hD⟩ := va_join (wr := [(h0, .inr (5, [.ref q5, .null, .null, .null, .null, .null])), (q5, .inr (0, [.ref (u9 1), .ref (u9 2), .ref (u9 3), .ref (u9 4), .int 0])), ((u9 1), .inl (cI, 8, .inl (fun _ => 0))), ((u9 2), .inl (cI, 8, .inl (fun _ => 0))), ((u9 3), .inl (cI, 8, .inl (fun _ => 0))), ((u9 4), .inl (cI, 8, .inl (fun _ => 0)))]) (w1 := [(q16, .inr (0, [.ref (u20 1), .ref (u20 2), .ref (u20 3), .ref (u20 4), .int 0])), ((u20 1), .inl (cI, 8, .inl (fun _ => 0))), ((u20 2), .inl (cI, 8, .inl (fun _ => 0))), ((u20 3), .inl (cI, 8, .inl (fun _ => 0))), ((u20 4), .inl (cI, 8, .inl (fun _ => 0)))]) hP hD [6] [0, 1, 2, 3, 4, 5] rfl rfl (by decide) (by decide) hk1 hFc hP1 hD1
  generalize H1 = H at hP hS ⊢
  have hP : va_P D vwCl [(h0, .inr (5, [.ref q5, .null, .null, .null, .null, .null])), (q5, .inr (0, [.ref (u9 1), .ref (u9 2), .ref (u9 3), .ref (u9 4), .int 0])), ((u9 1), .inl (cI, 8, .inl (fun _ => 0))), ((u9 2), .inl (cI, 8, .inl (fun _ => 0))), ((u9 3), .inl (cI, 8, .inl (fun _ => 0))), ((u9 4), .inl (cI, 8, .inl (fun _ => 0))), (q16, .inr (0, [.ref (u20 1), .ref (u20 2), .ref (u20 3), .ref (u20 4), .int 0])), ((u20 1), .inl (cI, 8, .inl (fun _ => 0))), ((u20 2), .inl (cI, 8, .inl (fun _ => 0))), ((u20 3), .inl (cI, 8, .inl (fun _ => 0))), ((u20 4), .inl (cI, 8, .inl (fun _ => 0)))] H := hP
  have hD : va_D A [(h0, .inr (5, [.ref q5, .null, .null, .null, .null, .null])), (q5, .inr (0, [.ref (u9 1), .ref (u9 2), .ref (u9 3), .ref (u9 4), .int 0])), ((u9 1), .inl (cI, 8, .inl (fun _ => 0))), ((u9 2), .inl (cI, 8, .inl (fun _ => 0))), ((u9 3), .inl (cI, 8, .inl (fun _ => 0))), ((u9 4), .inl (cI, 8, .inl (fun _ => 0))), (q16, .inr (0, [.ref (u20 1), .ref (u20 2), .ref (u20 3), .ref (u20 4), .int 0])), ((u20 1), .inl (cI, 8, .inl (fun _ => 0))), ((u20 2), .inl (cI, 8, .inl (fun _ => 0))), ((u20 3), .inl (cI, 8, .inl (fun _ => 0))), ((u20 4), .inl (cI, 8, .inl (fun _ => 0)))] := hD
  refine W.widen (k := 10) (n := 74) (by omega) (by omega) ?_
  refine va_putF (D := D) (ci := 5) (v := .ref q16) (ty := .object "RootShapes$Equation") (C := RX5) (T := TX5) (N := 6) hx hb hts hinX5 tyX5 tyX5_ok nmX5 hown hK hP hD hS 0 rfl rfl 1 (by decide) (hts _ wd_205) (fun _ h9 => h9) rfl hin rfl (by decide +kernel) rfl rfl (Nat.le_of_ble_eq_true rfl) dX5_init_23 (fun H locs hP hD hS => ?_)
  have hP : va_P D vwCl [(h0, .inr (5, [.ref q5, .ref q16, .null, .null, .null, .null])), (q5, .inr (0, [.ref (u9 1), .ref (u9 2), .ref (u9 3), .ref (u9 4), .int 0])), ((u9 1), .inl (cI, 8, .inl (fun _ => 0))), ((u9 2), .inl (cI, 8, .inl (fun _ => 0))), ((u9 3), .inl (cI, 8, .inl (fun _ => 0))), ((u9 4), .inl (cI, 8, .inl (fun _ => 0))), (q16, .inr (0, [.ref (u20 1), .ref (u20 2), .ref (u20 3), .ref (u20 4), .int 0])), ((u20 1), .inl (cI, 8, .inl (fun _ => 0))), ((u20 2), .inl (cI, 8, .inl (fun _ => 0))), ((u20 3), .inl (cI, 8, .inl (fun _ => 0))), ((u20 4), .inl (cI, 8, .inl (fun _ => 0)))] H := hP
  have hD : va_D A [(h0, .inr (5, [.ref q5, .ref q16, .null, .null, .null, .null])), (q5, .inr (0, [.ref (u9 1), .ref (u9 2), .ref (u9 3), .ref (u9 4), .int 0])), ((u9 1), .inl (cI, 8, .inl (fun _ => 0))), ((u9 2), .inl (cI, 8, .inl (fun _ => 0))), ((u9 3), .inl (cI, 8, .inl (fun _ => 0))), ((u9 4), .inl (cI, 8, .inl (fun _ => 0))), (q16, .inr (0, [.ref (u20 1), .ref (u20 2), .ref (u20 3), .ref (u20 4), .int 0])), ((u20 1), .inl (cI, 8, .inl (fun _ => 0))), ((u20 2), .inl (cI, 8, .inl (fun _ => 0))), ((u20 3), .inl (cI, 8, .inl (fun _ => 0))), ((u20 4), .inl (cI, 8, .inl (fun _ => 0)))] := hD
  refine lv_aload_n hx hb dX5_init_26 rfl (lv_at hl 0 rfl) ?_
  refine va_new (ci := 1) (fs := [.null, .null, .int 0, .null, .null, .int 0]) (C := RX1) (T := TX1) (N := 6) hx hb hts hinX1 tyX1 tyX1_ok hown (hts _ wd_109) (hts _ wd_110) (hts _ wd_51) hK hP hD hS hA rfl (fun j hj => by rcases (show j = 0 ∨ j = 1 ∨ j = 2 ∨ j = 3 ∨ j = 4 ∨ j = 5 by omega) with rfl | rfl | rfl | rfl | rfl | rfl <;> rfl) (Nat.le_of_ble_eq_true rfl) (Nat.le_of_ble_eq_true rfl) dX5_init_27 (fun q27 H hP hD hS => ?_)
  have hP : va_P D vwCl [(h0, .inr (5, [.ref q5, .ref q16, .null, .null, .null, .null])), (q5, .inr (0, [.ref (u9 1), .ref (u9 2), .ref (u9 3), .ref (u9 4), .int 0])), ((u9 1), .inl (cI, 8, .inl (fun _ => 0))), ((u9 2), .inl (cI, 8, .inl (fun _ => 0))), ((u9 3), .inl (cI, 8, .inl (fun _ => 0))), ((u9 4), .inl (cI, 8, .inl (fun _ => 0))), (q16, .inr (0, [.ref (u20 1), .ref (u20 2), .ref (u20 3), .ref (u20 4), .int 0])), ((u20 1), .inl (cI, 8, .inl (fun _ => 0))), ((u20 2), .inl (cI, 8, .inl (fun _ => 0))), ((u20 3), .inl (cI, 8, .inl (fun _ => 0))), ((u20 4), .inl (cI, 8, .inl (fun _ => 0))), (q27, .inr (1, [.null, .null, .int 0, .null, .null, .int 0]))] H := hP
  have hD : va_D A [(h0, .inr (5, [.ref q5, .ref q16, .null, .null, .null, .null])), (q5, .inr (0, [.ref (u9 1), .ref (u9 2), .ref (u9 3), .ref (u9 4), .int 0])), ((u9 1), .inl (cI, 8, .inl (fun _ => 0))), ((u9 2), .inl (cI, 8, .inl (fun _ => 0))), ((u9 3), .inl (cI, 8, .inl (fun _ => 0))), ((u9 4), .inl (cI, 8, .inl (fun _ => 0))), (q16, .inr (0, [.ref (u20 1), .ref (u20 2), .ref (u20 3), .ref (u20 4), .int 0])), ((u20 1), .inl (cI, 8, .inl (fun _ => 0))), ((u20 2), .inl (cI, 8, .inl (fun _ => 0))), ((u20 3), .inl (cI, 8, .inl (fun _ => 0))), ((u20 4), .inl (cI, 8, .inl (fun _ => 0))), (q27, .inr (1, [.null, .null, .int 0, .null, .null, .int 0]))] := hD
  refine W.widen (k := 11) (n := 80) (by omega) (by omega) ?_
  refine lv_dup hx hb dX5_init_30 rfl ?_
  have hPc := hP.sub (ws' := [(q27, .inr (1, [.null, .null, .int 0, .null, .null, .int 0]))]) [11] rfl
  have hDc := hD.sub (ws' := [(q27, .inr (1, [.null, .null, .int 0, .null, .null, .int 0]))]) [11] (by decide) rfl
  have hFc := va_free (wc := [(q27, .inr (1, [.null, .null, .int 0, .null, .null, .int 0]))]) hD hS hA [11] rfl
  refine va_callv (va_runIN (As := []) (rest := [.ref q27, .ref h0]) ⟨hx, hb, hml, hown, hts⟩ (kX1_init l D cI cJ q27 H.size) ⟨va_cnB 0 hts (rs_good wd_113) rfl rfl rfl (hN _ (nl_X5_21)) (hts _ wd_51) (by decide +kernel) ⟨Nat.le_of_ble_eq_true rfl, Nat.le_of_ble_eq_true rfl⟩, rfl, hts _ wd_112⟩ ⟨rs_blindI, fun U hU hW => ⟨rfl, by rw [hU], by rw [hU]; exact hPc, va_K.moved hW.alike hK, fun q hq => va_Nw.warmM hW (hN q hq), hDc.weaken (fun _ _ _ _ => trivial)⟩⟩ rfl rfl hl.1 rfl (lv_room (Nat.le_of_ble_eq_true rfl)) dX5_init_31 ⟨Nat.le_of_ble_eq_true rfl, Nat.le_of_ble_eq_true rfl⟩) hS (fun q _ h => hFc q h) hFc (fun u31 t H1 locs ht hvm hw hB hz1 hk1 hS => ?_)
  obtain ⟨hP1, hD1⟩ := hB
  rw [ht] at hP1
  obtain ⟨hP, hD⟩ := va_join (wr := [(h0, .inr (5, [.ref q5, .ref q16, .null, .null, .null, .null])), (q5, .inr (0, [.ref (u9 1), .ref (u9 2), .ref (u9 3), .ref (u9 4), .int 0])), ((u9 1), .inl (cI, 8, .inl (fun _ => 0))), ((u9 2), .inl (cI, 8, .inl (fun _ => 0))), ((u9 3), .inl (cI, 8, .inl (fun _ => 0))), ((u9 4), .inl (cI, 8, .inl (fun _ => 0))), (q16, .inr (0, [.ref (u20 1), .ref (u20 2), .ref (u20 3), .ref (u20 4), .int 0])), ((u20 1), .inl (cI, 8, .inl (fun _ => 0))), ((u20 2), .inl (cI, 8, .inl (fun _ => 0))), ((u20 3), .inl (cI, 8, .inl (fun _ => 0))), ((u20 4), .inl (cI, 8, .inl (fun _ => 0)))]) (w1 := [(q27, .inr (1, [.ref (u31 1), .ref (u31 2), .int 0, .ref (u31 3), .ref (u31 4), .int 0])), ((u31 1), .inl (cI, 64, .inl (fun _ => 0))), ((u31 2), .inl (cI, 64, .inl (fun _ => 0))), ((u31 3), .inl (cI, 64, .inl (fun _ => 0))), ((u31 4), .inl (cI, 64, .inl (fun _ => 0)))]) hP hD [11] [0, 1, 2, 3, 4, 5, 6, 7, 8, 9, 10] rfl rfl (by decide) (by decide) hk1 hFc hP1 hD1
  generalize H1 = H at hP hS ⊢
  have hP : va_P D vwCl [(h0, .inr (5, [.ref q5, .ref q16, .null, .null, .null, .null])), (q5, .inr (0, [.ref (u9 1), .ref (u9 2), .ref (u9 3), .ref (u9 4), .int 0])), ((u9 1), .inl (cI, 8, .inl (fun _ => 0))), ((u9 2), .inl (cI, 8, .inl (fun _ => 0))), ((u9 3), .inl (cI, 8, .inl (fun _ => 0))), ((u9 4), .inl (cI, 8, .inl (fun _ => 0))), (q16, .inr (0, [.ref (u20 1), .ref (u20 2), .ref (u20 3), .ref (u20 4), .int 0])), ((u20 1), .inl (cI, 8, .inl (fun _ => 0))), ((u20 2), .inl (cI, 8, .inl (fun _ => 0))), ((u20 3), .inl (cI, 8, .inl (fun _ => 0))), ((u20 4), .inl (cI, 8, .inl (fun _ => 0))), (q27, .inr (1, [.ref (u31 1), .ref (u31 2), .int 0, .ref (u31 3), .ref (u31 4), .int 0])), ((u31 1), .inl (cI, 64, .inl (fun _ => 0))), ((u31 2), .inl (cI, 64, .inl (fun _ => 0))), ((u31 3), .inl (cI, 64, .inl (fun _ => 0))), ((u31 4), .inl (cI, 64, .inl (fun _ => 0)))] H := hP
  have hD : va_D A [(h0, .inr (5, [.ref q5, .ref q16, .null, .null, .null, .null])), (q5, .inr (0, [.ref (u9 1), .ref (u9 2), .ref (u9 3), .ref (u9 4), .int 0])), ((u9 1), .inl (cI, 8, .inl (fun _ => 0))), ((u9 2), .inl (cI, 8, .inl (fun _ => 0))), ((u9 3), .inl (cI, 8, .inl (fun _ => 0))), ((u9 4), .inl (cI, 8, .inl (fun _ => 0))), (q16, .inr (0, [.ref (u20 1), .ref (u20 2), .ref (u20 3), .ref (u20 4), .int 0])), ((u20 1), .inl (cI, 8, .inl (fun _ => 0))), ((u20 2), .inl (cI, 8, .inl (fun _ => 0))), ((u20 3), .inl (cI, 8, .inl (fun _ => 0))), ((u20 4), .inl (cI, 8, .inl (fun _ => 0))), (q27, .inr (1, [.ref (u31 1), .ref (u31 2), .int 0, .ref (u31 3), .ref (u31 4), .int 0])), ((u31 1), .inl (cI, 64, .inl (fun _ => 0))), ((u31 2), .inl (cI, 64, .inl (fun _ => 0))), ((u31 3), .inl (cI, 64, .inl (fun _ => 0))), ((u31 4), .inl (cI, 64, .inl (fun _ => 0)))] := hD
  refine W.widen (k := 15) (n := 336) (by omega) (by omega) ?_
  refine va_putF (D := D) (ci := 5) (v := .ref q27) (ty := .object "RootShapes$Figure") (C := RX5) (T := TX5) (N := 6) hx hb hts hinX5 tyX5 tyX5_ok nmX5 hown hK hP hD hS 0 rfl rfl 2 (by decide) (hts _ wd_206) (fun _ h9 => h9) rfl hin rfl (by decide +kernel) rfl rfl (Nat.le_of_ble_eq_true rfl) dX5_init_34 (fun H locs hP hD hS => ?_)
  have hP : va_P D vwCl [(h0, .inr (5, [.ref q5, .ref q16, .ref q27, .null, .null, .null])), (q5, .inr (0, [.ref (u9 1), .ref (u9 2), .ref (u9 3), .ref (u9 4), .int 0])), ((u9 1), .inl (cI, 8, .inl (fun _ => 0))), ((u9 2), .inl (cI, 8, .inl (fun _ => 0))), ((u9 3), .inl (cI, 8, .inl (fun _ => 0))), ((u9 4), .inl (cI, 8, .inl (fun _ => 0))), (q16, .inr (0, [.ref (u20 1), .ref (u20 2), .ref (u20 3), .ref (u20 4), .int 0])), ((u20 1), .inl (cI, 8, .inl (fun _ => 0))), ((u20 2), .inl (cI, 8, .inl (fun _ => 0))), ((u20 3), .inl (cI, 8, .inl (fun _ => 0))), ((u20 4), .inl (cI, 8, .inl (fun _ => 0))), (q27, .inr (1, [.ref (u31 1), .ref (u31 2), .int 0, .ref (u31 3), .ref (u31 4), .int 0])), ((u31 1), .inl (cI, 64, .inl (fun _ => 0))), ((u31 2), .inl (cI, 64, .inl (fun _ => 0))), ((u31 3), .inl (cI, 64, .inl (fun _ => 0))), ((u31 4), .inl (cI, 64, .inl (fun _ => 0)))] H := hP
  have hD : va_D A [(h0, .inr (5, [.ref q5, .ref q16, .ref q27, .null, .null, .null])), (q5, .inr (0, [.ref (u9 1), .ref (u9 2), .ref (u9 3), .ref (u9 4), .int 0])), ((u9 1), .inl (cI, 8, .inl (fun _ => 0))), ((u9 2), .inl (cI, 8, .inl (fun _ => 0))), ((u9 3), .inl (cI, 8, .inl (fun _ => 0))), ((u9 4), .inl (cI, 8, .inl (fun _ => 0))), (q16, .inr (0, [.ref (u20 1), .ref (u20 2), .ref (u20 3), .ref (u20 4), .int 0])), ((u20 1), .inl (cI, 8, .inl (fun _ => 0))), ((u20 2), .inl (cI, 8, .inl (fun _ => 0))), ((u20 3), .inl (cI, 8, .inl (fun _ => 0))), ((u20 4), .inl (cI, 8, .inl (fun _ => 0))), (q27, .inr (1, [.ref (u31 1), .ref (u31 2), .int 0, .ref (u31 3), .ref (u31 4), .int 0])), ((u31 1), .inl (cI, 64, .inl (fun _ => 0))), ((u31 2), .inl (cI, 64, .inl (fun _ => 0))), ((u31 3), .inl (cI, 64, .inl (fun _ => 0))), ((u31 4), .inl (cI, 64, .inl (fun _ => 0)))] := hD
  refine lv_aload_n hx hb dX5_init_37 rfl (lv_at hl 0 rfl) ?_
  refine va_new (ci := 4) (fs := [.int 0, .int 0, .int 0, .null, .int 0, .int 0, .int 0]) (C := RX4) (T := TX4) (N := 7) hx hb hts hinX4 tyX4 tyX4_ok hown (hts _ wd_137) (hts _ wd_138) (hts _ wd_52) hK hP hD hS hA rfl (fun j hj => by rcases (show j = 0 ∨ j = 1 ∨ j = 2 ∨ j = 3 ∨ j = 4 ∨ j = 5 ∨ j = 6 by omega) with rfl | rfl | rfl | rfl | rfl | rfl | rfl <;> rfl) (Nat.le_of_ble_eq_true rfl) (Nat.le_of_ble_eq_true rfl) dX5_init_38 (fun q38 H hP hD hS => ?_)
  have hP : va_P D vwCl [(h0, .inr (5, [.ref q5, .ref q16, .ref q27, .null, .null, .null])), (q5, .inr (0, [.ref (u9 1), .ref (u9 2), .ref (u9 3), .ref (u9 4), .int 0])), ((u9 1), .inl (cI, 8, .inl (fun _ => 0))), ((u9 2), .inl (cI, 8, .inl (fun _ => 0))), ((u9 3), .inl (cI, 8, .inl (fun _ => 0))), ((u9 4), .inl (cI, 8, .inl (fun _ => 0))), (q16, .inr (0, [.ref (u20 1), .ref (u20 2), .ref (u20 3), .ref (u20 4), .int 0])), ((u20 1), .inl (cI, 8, .inl (fun _ => 0))), ((u20 2), .inl (cI, 8, .inl (fun _ => 0))), ((u20 3), .inl (cI, 8, .inl (fun _ => 0))), ((u20 4), .inl (cI, 8, .inl (fun _ => 0))), (q27, .inr (1, [.ref (u31 1), .ref (u31 2), .int 0, .ref (u31 3), .ref (u31 4), .int 0])), ((u31 1), .inl (cI, 64, .inl (fun _ => 0))), ((u31 2), .inl (cI, 64, .inl (fun _ => 0))), ((u31 3), .inl (cI, 64, .inl (fun _ => 0))), ((u31 4), .inl (cI, 64, .inl (fun _ => 0))), (q38, .inr (4, [.int 0, .int 0, .int 0, .null, .int 0, .int 0, .int 0]))] H := hP
  have hD : va_D A [(h0, .inr (5, [.ref q5, .ref q16, .ref q27, .null, .null, .null])), (q5, .inr (0, [.ref (u9 1), .ref (u9 2), .ref (u9 3), .ref (u9 4), .int 0])), ((u9 1), .inl (cI, 8, .inl (fun _ => 0))), ((u9 2), .inl (cI, 8, .inl (fun _ => 0))), ((u9 3), .inl (cI, 8, .inl (fun _ => 0))), ((u9 4), .inl (cI, 8, .inl (fun _ => 0))), (q16, .inr (0, [.ref (u20 1), .ref (u20 2), .ref (u20 3), .ref (u20 4), .int 0])), ((u20 1), .inl (cI, 8, .inl (fun _ => 0))), ((u20 2), .inl (cI, 8, .inl (fun _ => 0))), ((u20 3), .inl (cI, 8, .inl (fun _ => 0))), ((u20 4), .inl (cI, 8, .inl (fun _ => 0))), (q27, .inr (1, [.ref (u31 1), .ref (u31 2), .int 0, .ref (u31 3), .ref (u31 4), .int 0])), ((u31 1), .inl (cI, 64, .inl (fun _ => 0))), ((u31 2), .inl (cI, 64, .inl (fun _ => 0))), ((u31 3), .inl (cI, 64, .inl (fun _ => 0))), ((u31 4), .inl (cI, 64, .inl (fun _ => 0))), (q38, .inr (4, [.int 0, .int 0, .int 0, .null, .int 0, .int 0, .int 0]))] := hD
  refine W.widen (k := 16) (n := 343) (by omega) (by omega) ?_
  refine lv_dup hx hb dX5_init_41 rfl ?_
  have hPc := hP.sub (ws' := [(q38, .inr (4, [.int 0, .int 0, .int 0, .null, .int 0, .int 0, .int 0]))]) [16] rfl
  have hDc := hD.sub (ws' := [(q38, .inr (4, [.int 0, .int 0, .int 0, .null, .int 0, .int 0, .int 0]))]) [16] (by decide) rfl
  have hFc := va_free (wc := [(q38, .inr (4, [.int 0, .int 0, .int 0, .null, .int 0, .int 0, .int 0]))]) hD hS hA [16] rfl
  refine va_callv (va_runIN (As := []) (rest := [.ref q38, .ref h0]) ⟨hx, hb, hml, hown, hts⟩ (kX4_init l D cI cJ q38 H.size) ⟨va_cnB 0 hts (rs_good wd_141) rfl rfl rfl (hN _ (nl_X5_28)) (hts _ wd_52) (by decide +kernel) ⟨Nat.le_of_ble_eq_true rfl, Nat.le_of_ble_eq_true rfl⟩, rfl, hts _ wd_140⟩ ⟨rs_blindI, fun U hU hW => ⟨rfl, by rw [hU], by rw [hU]; exact hPc, va_K.moved hW.alike hK, fun q hq => va_Nw.warmM hW (hN q hq), hDc.weaken (fun _ _ _ _ => trivial)⟩⟩ rfl rfl hl.1 rfl (lv_room (Nat.le_of_ble_eq_true rfl)) dX5_init_42 ⟨Nat.le_of_ble_eq_true rfl, Nat.le_of_ble_eq_true rfl⟩) hS (fun q _ h => hFc q h) hFc (fun u42 t H1 locs ht hvm hw hB hz1 hk1 hS => ?_)
  obtain ⟨hP1, hD1⟩ := hB
  rw [ht] at hP1
  obtain ⟨hP, hD⟩ := va_join (wr := [(h0, .inr (5, [.ref q5, .ref q16, .ref q27, .null, .null, .null])), (q5, .inr (0, [.ref (u9 1), .ref (u9 2), .ref (u9 3), .ref (u9 4), .int 0])), ((u9 1), .inl (cI, 8, .inl (fun _ => 0))), ((u9 2), .inl (cI, 8, .inl (fun _ => 0))), ((u9 3), .inl (cI, 8, .inl (fun _ => 0))), ((u9 4), .inl (cI, 8, .inl (fun _ => 0))), (q16, .inr (0, [.ref (u20 1), .ref (u20 2), .ref (u20 3), .ref (u20 4), .int 0])), ((u20 1), .inl (cI, 8, .inl (fun _ => 0))), ((u20 2), .inl (cI, 8, .inl (fun _ => 0))), ((u20 3), .inl (cI, 8, .inl (fun _ => 0))), ((u20 4), .inl (cI, 8, .inl (fun _ => 0))), (q27, .inr (1, [.ref (u31 1), .ref (u31 2), .int 0, .ref (u31 3), .ref (u31 4), .int 0])), ((u31 1), .inl (cI, 64, .inl (fun _ => 0))), ((u31 2), .inl (cI, 64, .inl (fun _ => 0))), ((u31 3), .inl (cI, 64, .inl (fun _ => 0))), ((u31 4), .inl (cI, 64, .inl (fun _ => 0)))]) (w1 := [(q38, .inr (4, [.int 0, .int 0, .int 0, .ref (u42 1), .int 1, .int 0, .int 0])), ((u42 1), .inl (cI, 784, .inl (fun _ => 0)))]) hP hD [16] [0, 1, 2, 3, 4, 5, 6, 7, 8, 9, 10, 11, 12, 13, 14, 15] rfl rfl (by decide) (by decide) hk1 hFc hP1 hD1
  generalize H1 = H at hP hS ⊢
  have hP : va_P D vwCl [(h0, .inr (5, [.ref q5, .ref q16, .ref q27, .null, .null, .null])), (q5, .inr (0, [.ref (u9 1), .ref (u9 2), .ref (u9 3), .ref (u9 4), .int 0])), ((u9 1), .inl (cI, 8, .inl (fun _ => 0))), ((u9 2), .inl (cI, 8, .inl (fun _ => 0))), ((u9 3), .inl (cI, 8, .inl (fun _ => 0))), ((u9 4), .inl (cI, 8, .inl (fun _ => 0))), (q16, .inr (0, [.ref (u20 1), .ref (u20 2), .ref (u20 3), .ref (u20 4), .int 0])), ((u20 1), .inl (cI, 8, .inl (fun _ => 0))), ((u20 2), .inl (cI, 8, .inl (fun _ => 0))), ((u20 3), .inl (cI, 8, .inl (fun _ => 0))), ((u20 4), .inl (cI, 8, .inl (fun _ => 0))), (q27, .inr (1, [.ref (u31 1), .ref (u31 2), .int 0, .ref (u31 3), .ref (u31 4), .int 0])), ((u31 1), .inl (cI, 64, .inl (fun _ => 0))), ((u31 2), .inl (cI, 64, .inl (fun _ => 0))), ((u31 3), .inl (cI, 64, .inl (fun _ => 0))), ((u31 4), .inl (cI, 64, .inl (fun _ => 0))), (q38, .inr (4, [.int 0, .int 0, .int 0, .ref (u42 1), .int 1, .int 0, .int 0])), ((u42 1), .inl (cI, 784, .inl (fun _ => 0)))] H := hP
  have hD : va_D A [(h0, .inr (5, [.ref q5, .ref q16, .ref q27, .null, .null, .null])), (q5, .inr (0, [.ref (u9 1), .ref (u9 2), .ref (u9 3), .ref (u9 4), .int 0])), ((u9 1), .inl (cI, 8, .inl (fun _ => 0))), ((u9 2), .inl (cI, 8, .inl (fun _ => 0))), ((u9 3), .inl (cI, 8, .inl (fun _ => 0))), ((u9 4), .inl (cI, 8, .inl (fun _ => 0))), (q16, .inr (0, [.ref (u20 1), .ref (u20 2), .ref (u20 3), .ref (u20 4), .int 0])), ((u20 1), .inl (cI, 8, .inl (fun _ => 0))), ((u20 2), .inl (cI, 8, .inl (fun _ => 0))), ((u20 3), .inl (cI, 8, .inl (fun _ => 0))), ((u20 4), .inl (cI, 8, .inl (fun _ => 0))), (q27, .inr (1, [.ref (u31 1), .ref (u31 2), .int 0, .ref (u31 3), .ref (u31 4), .int 0])), ((u31 1), .inl (cI, 64, .inl (fun _ => 0))), ((u31 2), .inl (cI, 64, .inl (fun _ => 0))), ((u31 3), .inl (cI, 64, .inl (fun _ => 0))), ((u31 4), .inl (cI, 64, .inl (fun _ => 0))), (q38, .inr (4, [.int 0, .int 0, .int 0, .ref (u42 1), .int 1, .int 0, .int 0])), ((u42 1), .inl (cI, 784, .inl (fun _ => 0)))] := hD
  refine W.widen (k := 17) (n := 1127) (by omega) (by omega) ?_
  refine va_putF (D := D) (ci := 5) (v := .ref q38) (ty := .object "RootShapes$Subdivision") (C := RX5) (T := TX5) (N := 6) hx hb hts hinX5 tyX5 tyX5_ok nmX5 hown hK hP hD hS 0 rfl rfl 3 (by decide) (hts _ wd_207) (fun _ h9 => h9) rfl hin rfl (by decide +kernel) rfl rfl (Nat.le_of_ble_eq_true rfl) dX5_init_45 (fun H locs hP hD hS => ?_)
  have hP : va_P D vwCl [(h0, .inr (5, [.ref q5, .ref q16, .ref q27, .ref q38, .null, .null])), (q5, .inr (0, [.ref (u9 1), .ref (u9 2), .ref (u9 3), .ref (u9 4), .int 0])), ((u9 1), .inl (cI, 8, .inl (fun _ => 0))), ((u9 2), .inl (cI, 8, .inl (fun _ => 0))), ((u9 3), .inl (cI, 8, .inl (fun _ => 0))), ((u9 4), .inl (cI, 8, .inl (fun _ => 0))), (q16, .inr (0, [.ref (u20 1), .ref (u20 2), .ref (u20 3), .ref (u20 4), .int 0])), ((u20 1), .inl (cI, 8, .inl (fun _ => 0))), ((u20 2), .inl (cI, 8, .inl (fun _ => 0))), ((u20 3), .inl (cI, 8, .inl (fun _ => 0))), ((u20 4), .inl (cI, 8, .inl (fun _ => 0))), (q27, .inr (1, [.ref (u31 1), .ref (u31 2), .int 0, .ref (u31 3), .ref (u31 4), .int 0])), ((u31 1), .inl (cI, 64, .inl (fun _ => 0))), ((u31 2), .inl (cI, 64, .inl (fun _ => 0))), ((u31 3), .inl (cI, 64, .inl (fun _ => 0))), ((u31 4), .inl (cI, 64, .inl (fun _ => 0))), (q38, .inr (4, [.int 0, .int 0, .int 0, .ref (u42 1), .int 1, .int 0, .int 0])), ((u42 1), .inl (cI, 784, .inl (fun _ => 0)))] H := hP
  have hD : va_D A [(h0, .inr (5, [.ref q5, .ref q16, .ref q27, .ref q38, .null, .null])), (q5, .inr (0, [.ref (u9 1), .ref (u9 2), .ref (u9 3), .ref (u9 4), .int 0])), ((u9 1), .inl (cI, 8, .inl (fun _ => 0))), ((u9 2), .inl (cI, 8, .inl (fun _ => 0))), ((u9 3), .inl (cI, 8, .inl (fun _ => 0))), ((u9 4), .inl (cI, 8, .inl (fun _ => 0))), (q16, .inr (0, [.ref (u20 1), .ref (u20 2), .ref (u20 3), .ref (u20 4), .int 0])), ((u20 1), .inl (cI, 8, .inl (fun _ => 0))), ((u20 2), .inl (cI, 8, .inl (fun _ => 0))), ((u20 3), .inl (cI, 8, .inl (fun _ => 0))), ((u20 4), .inl (cI, 8, .inl (fun _ => 0))), (q27, .inr (1, [.ref (u31 1), .ref (u31 2), .int 0, .ref (u31 3), .ref (u31 4), .int 0])), ((u31 1), .inl (cI, 64, .inl (fun _ => 0))), ((u31 2), .inl (cI, 64, .inl (fun _ => 0))), ((u31 3), .inl (cI, 64, .inl (fun _ => 0))), ((u31 4), .inl (cI, 64, .inl (fun _ => 0))), (q38, .inr (4, [.int 0, .int 0, .int 0, .ref (u42 1), .int 1, .int 0, .int 0])), ((u42 1), .inl (cI, 784, .inl (fun _ => 0)))] := hD
  refine lv_aload_n hx hb dX5_init_48 rfl (lv_at hl 0 rfl) ?_
  refine va_new (ci := 2) (fs := [.null, .null]) (C := RX2) (T := TX2) (N := 2) hx hb hts hinX2 tyX2 tyX2_ok hown (hts _ wd_168) (hts _ wd_169) (hts _ wd_53) hK hP hD hS hA rfl (fun j hj => by rcases (show j = 0 ∨ j = 1 by omega) with rfl | rfl <;> rfl) (Nat.le_of_ble_eq_true rfl) (Nat.le_of_ble_eq_true rfl) dX5_init_49 (fun q49 H hP hD hS => ?_)
  have hP : va_P D vwCl [(h0, .inr (5, [.ref q5, .ref q16, .ref q27, .ref q38, .null, .null])), (q5, .inr (0, [.ref (u9 1), .ref (u9 2), .ref (u9 3), .ref (u9 4), .int 0])), ((u9 1), .inl (cI, 8, .inl (fun _ => 0))), ((u9 2), .inl (cI, 8, .inl (fun _ => 0))), ((u9 3), .inl (cI, 8, .inl (fun _ => 0))), ((u9 4), .inl (cI, 8, .inl (fun _ => 0))), (q16, .inr (0, [.ref (u20 1), .ref (u20 2), .ref (u20 3), .ref (u20 4), .int 0])), ((u20 1), .inl (cI, 8, .inl (fun _ => 0))), ((u20 2), .inl (cI, 8, .inl (fun _ => 0))), ((u20 3), .inl (cI, 8, .inl (fun _ => 0))), ((u20 4), .inl (cI, 8, .inl (fun _ => 0))), (q27, .inr (1, [.ref (u31 1), .ref (u31 2), .int 0, .ref (u31 3), .ref (u31 4), .int 0])), ((u31 1), .inl (cI, 64, .inl (fun _ => 0))), ((u31 2), .inl (cI, 64, .inl (fun _ => 0))), ((u31 3), .inl (cI, 64, .inl (fun _ => 0))), ((u31 4), .inl (cI, 64, .inl (fun _ => 0))), (q38, .inr (4, [.int 0, .int 0, .int 0, .ref (u42 1), .int 1, .int 0, .int 0])), ((u42 1), .inl (cI, 784, .inl (fun _ => 0))), (q49, .inr (2, [.null, .null]))] H := hP
  have hD : va_D A [(h0, .inr (5, [.ref q5, .ref q16, .ref q27, .ref q38, .null, .null])), (q5, .inr (0, [.ref (u9 1), .ref (u9 2), .ref (u9 3), .ref (u9 4), .int 0])), ((u9 1), .inl (cI, 8, .inl (fun _ => 0))), ((u9 2), .inl (cI, 8, .inl (fun _ => 0))), ((u9 3), .inl (cI, 8, .inl (fun _ => 0))), ((u9 4), .inl (cI, 8, .inl (fun _ => 0))), (q16, .inr (0, [.ref (u20 1), .ref (u20 2), .ref (u20 3), .ref (u20 4), .int 0])), ((u20 1), .inl (cI, 8, .inl (fun _ => 0))), ((u20 2), .inl (cI, 8, .inl (fun _ => 0))), ((u20 3), .inl (cI, 8, .inl (fun _ => 0))), ((u20 4), .inl (cI, 8, .inl (fun _ => 0))), (q27, .inr (1, [.ref (u31 1), .ref (u31 2), .int 0, .ref (u31 3), .ref (u31 4), .int 0])), ((u31 1), .inl (cI, 64, .inl (fun _ => 0))), ((u31 2), .inl (cI, 64, .inl (fun _ => 0))), ((u31 3), .inl (cI, 64, .inl (fun _ => 0))), ((u31 4), .inl (cI, 64, .inl (fun _ => 0))), (q38, .inr (4, [.int 0, .int 0, .int 0, .ref (u42 1), .int 1, .int 0, .int 0])), ((u42 1), .inl (cI, 784, .inl (fun _ => 0))), (q49, .inr (2, [.null, .null]))] := hD
  refine W.widen (k := 18) (n := 1129) (by omega) (by omega) ?_
  refine lv_dup hx hb dX5_init_52 rfl ?_
  have hPc := hP.sub (ws' := [(q49, .inr (2, [.null, .null]))]) [18] rfl
  have hDc := hD.sub (ws' := [(q49, .inr (2, [.null, .null]))]) [18] (by decide) rfl
  have hFc := va_free (wc := [(q49, .inr (2, [.null, .null]))]) hD hS hA [18] rfl
  refine va_callv (va_runIN (As := []) (rest := [.ref q49, .ref h0]) ⟨hx, hb, hml, hown, hts⟩ (kX2_init l D cI cJ q49 H.size) ⟨va_cnB 0 hts (rs_good wd_172) rfl rfl rfl (hN _ (nl_X5_35)) (hts _ wd_53) (by decide +kernel) ⟨Nat.le_of_ble_eq_true rfl, Nat.le_of_ble_eq_true rfl⟩, rfl, hts _ wd_171⟩ ⟨rs_blindI, fun U hU hW => ⟨rfl, by rw [hU], by rw [hU]; exact hPc, va_K.moved hW.alike hK, fun q hq => va_Nw.warmM hW (hN q hq), hDc.weaken (fun _ _ _ _ => trivial)⟩⟩ rfl rfl hl.1 rfl (lv_room (Nat.le_of_ble_eq_true rfl)) dX5_init_53 ⟨Nat.le_of_ble_eq_true rfl, Nat.le_of_ble_eq_true rfl⟩) hS (fun q _ h => hFc q h) hFc (fun u53 t H1 locs ht hvm hw hB hz1 hk1 hS => ?_)
  obtain ⟨hP1, hD1⟩ := hB
  rw [ht] at hP1
  obtain ⟨hP, hD⟩ := va_join (wr := [(h0, .inr (5, [.ref q5, .ref q16, .ref q27, .ref q38, .null, .null])), (q5, .inr (0, [.ref (u9 1), .ref (u9 2), .ref (u9 3), .ref (u9 4), .int 0])), ((u9 1), .inl (cI, 8, .inl (fun _ => 0))), ((u9 2), .inl (cI, 8, .inl (fun _ => 0))), ((u9 3), .inl (cI, 8, .inl (fun _ => 0))), ((u9 4), .inl (cI, 8, .inl (fun _ => 0))), (q16, .inr (0, [.ref (u20 1), .ref (u20 2), .ref (u20 3), .ref (u20 4), .int 0])), ((u20 1), .inl (cI, 8, .inl (fun _ => 0))), ((u20 2), .inl (cI, 8, .inl (fun _ => 0))), ((u20 3), .inl (cI, 8, .inl (fun _ => 0))), ((u20 4), .inl (cI, 8, .inl (fun _ => 0))), (q27, .inr (1, [.ref (u31 1), .ref (u31 2), .int 0, .ref (u31 3), .ref (u31 4), .int 0])), ((u31 1), .inl (cI, 64, .inl (fun _ => 0))), ((u31 2), .inl (cI, 64, .inl (fun _ => 0))), ((u31 3), .inl (cI, 64, .inl (fun _ => 0))), ((u31 4), .inl (cI, 64, .inl (fun _ => 0))), (q38, .inr (4, [.int 0, .int 0, .int 0, .ref (u42 1), .int 1, .int 0, .int 0])), ((u42 1), .inl (cI, 784, .inl (fun _ => 0)))]) (w1 := [(q49, .inr (2, [.ref (u53 1), .ref (u53 2)])), ((u53 1), .inl (cJ, 7, .inr (.inl (fun _ => 0)))), ((u53 2), .inl (cJ, 7, .inr (.inl (fun _ => 0))))]) hP hD [18] [0, 1, 2, 3, 4, 5, 6, 7, 8, 9, 10, 11, 12, 13, 14, 15, 16, 17] rfl rfl (by decide) (by decide) hk1 hFc hP1 hD1
  generalize H1 = H at hP hS ⊢
  have hP : va_P D vwCl [(h0, .inr (5, [.ref q5, .ref q16, .ref q27, .ref q38, .null, .null])), (q5, .inr (0, [.ref (u9 1), .ref (u9 2), .ref (u9 3), .ref (u9 4), .int 0])), ((u9 1), .inl (cI, 8, .inl (fun _ => 0))), ((u9 2), .inl (cI, 8, .inl (fun _ => 0))), ((u9 3), .inl (cI, 8, .inl (fun _ => 0))), ((u9 4), .inl (cI, 8, .inl (fun _ => 0))), (q16, .inr (0, [.ref (u20 1), .ref (u20 2), .ref (u20 3), .ref (u20 4), .int 0])), ((u20 1), .inl (cI, 8, .inl (fun _ => 0))), ((u20 2), .inl (cI, 8, .inl (fun _ => 0))), ((u20 3), .inl (cI, 8, .inl (fun _ => 0))), ((u20 4), .inl (cI, 8, .inl (fun _ => 0))), (q27, .inr (1, [.ref (u31 1), .ref (u31 2), .int 0, .ref (u31 3), .ref (u31 4), .int 0])), ((u31 1), .inl (cI, 64, .inl (fun _ => 0))), ((u31 2), .inl (cI, 64, .inl (fun _ => 0))), ((u31 3), .inl (cI, 64, .inl (fun _ => 0))), ((u31 4), .inl (cI, 64, .inl (fun _ => 0))), (q38, .inr (4, [.int 0, .int 0, .int 0, .ref (u42 1), .int 1, .int 0, .int 0])), ((u42 1), .inl (cI, 784, .inl (fun _ => 0))), (q49, .inr (2, [.ref (u53 1), .ref (u53 2)])), ((u53 1), .inl (cJ, 7, .inr (.inl (fun _ => 0)))), ((u53 2), .inl (cJ, 7, .inr (.inl (fun _ => 0))))] H := hP
  have hD : va_D A [(h0, .inr (5, [.ref q5, .ref q16, .ref q27, .ref q38, .null, .null])), (q5, .inr (0, [.ref (u9 1), .ref (u9 2), .ref (u9 3), .ref (u9 4), .int 0])), ((u9 1), .inl (cI, 8, .inl (fun _ => 0))), ((u9 2), .inl (cI, 8, .inl (fun _ => 0))), ((u9 3), .inl (cI, 8, .inl (fun _ => 0))), ((u9 4), .inl (cI, 8, .inl (fun _ => 0))), (q16, .inr (0, [.ref (u20 1), .ref (u20 2), .ref (u20 3), .ref (u20 4), .int 0])), ((u20 1), .inl (cI, 8, .inl (fun _ => 0))), ((u20 2), .inl (cI, 8, .inl (fun _ => 0))), ((u20 3), .inl (cI, 8, .inl (fun _ => 0))), ((u20 4), .inl (cI, 8, .inl (fun _ => 0))), (q27, .inr (1, [.ref (u31 1), .ref (u31 2), .int 0, .ref (u31 3), .ref (u31 4), .int 0])), ((u31 1), .inl (cI, 64, .inl (fun _ => 0))), ((u31 2), .inl (cI, 64, .inl (fun _ => 0))), ((u31 3), .inl (cI, 64, .inl (fun _ => 0))), ((u31 4), .inl (cI, 64, .inl (fun _ => 0))), (q38, .inr (4, [.int 0, .int 0, .int 0, .ref (u42 1), .int 1, .int 0, .int 0])), ((u42 1), .inl (cI, 784, .inl (fun _ => 0))), (q49, .inr (2, [.ref (u53 1), .ref (u53 2)])), ((u53 1), .inl (cJ, 7, .inr (.inl (fun _ => 0)))), ((u53 2), .inl (cJ, 7, .inr (.inl (fun _ => 0))))] := hD
  refine W.widen (k := 20) (n := 1143) (by omega) (by omega) ?_
  refine va_putF (D := D) (ci := 5) (v := .ref q49) (ty := .object "RootShapes$Fronts") (C := RX5) (T := TX5) (N := 6) hx hb hts hinX5 tyX5 tyX5_ok nmX5 hown hK hP hD hS 0 rfl rfl 4 (by decide) (hts _ wd_208) (fun _ h9 => h9) rfl hin rfl (by decide +kernel) rfl rfl (Nat.le_of_ble_eq_true rfl) dX5_init_56 (fun H locs hP hD hS => ?_)
  have hP : va_P D vwCl [(h0, .inr (5, [.ref q5, .ref q16, .ref q27, .ref q38, .ref q49, .null])), (q5, .inr (0, [.ref (u9 1), .ref (u9 2), .ref (u9 3), .ref (u9 4), .int 0])), ((u9 1), .inl (cI, 8, .inl (fun _ => 0))), ((u9 2), .inl (cI, 8, .inl (fun _ => 0))), ((u9 3), .inl (cI, 8, .inl (fun _ => 0))), ((u9 4), .inl (cI, 8, .inl (fun _ => 0))), (q16, .inr (0, [.ref (u20 1), .ref (u20 2), .ref (u20 3), .ref (u20 4), .int 0])), ((u20 1), .inl (cI, 8, .inl (fun _ => 0))), ((u20 2), .inl (cI, 8, .inl (fun _ => 0))), ((u20 3), .inl (cI, 8, .inl (fun _ => 0))), ((u20 4), .inl (cI, 8, .inl (fun _ => 0))), (q27, .inr (1, [.ref (u31 1), .ref (u31 2), .int 0, .ref (u31 3), .ref (u31 4), .int 0])), ((u31 1), .inl (cI, 64, .inl (fun _ => 0))), ((u31 2), .inl (cI, 64, .inl (fun _ => 0))), ((u31 3), .inl (cI, 64, .inl (fun _ => 0))), ((u31 4), .inl (cI, 64, .inl (fun _ => 0))), (q38, .inr (4, [.int 0, .int 0, .int 0, .ref (u42 1), .int 1, .int 0, .int 0])), ((u42 1), .inl (cI, 784, .inl (fun _ => 0))), (q49, .inr (2, [.ref (u53 1), .ref (u53 2)])), ((u53 1), .inl (cJ, 7, .inr (.inl (fun _ => 0)))), ((u53 2), .inl (cJ, 7, .inr (.inl (fun _ => 0))))] H := hP
  have hD : va_D A [(h0, .inr (5, [.ref q5, .ref q16, .ref q27, .ref q38, .ref q49, .null])), (q5, .inr (0, [.ref (u9 1), .ref (u9 2), .ref (u9 3), .ref (u9 4), .int 0])), ((u9 1), .inl (cI, 8, .inl (fun _ => 0))), ((u9 2), .inl (cI, 8, .inl (fun _ => 0))), ((u9 3), .inl (cI, 8, .inl (fun _ => 0))), ((u9 4), .inl (cI, 8, .inl (fun _ => 0))), (q16, .inr (0, [.ref (u20 1), .ref (u20 2), .ref (u20 3), .ref (u20 4), .int 0])), ((u20 1), .inl (cI, 8, .inl (fun _ => 0))), ((u20 2), .inl (cI, 8, .inl (fun _ => 0))), ((u20 3), .inl (cI, 8, .inl (fun _ => 0))), ((u20 4), .inl (cI, 8, .inl (fun _ => 0))), (q27, .inr (1, [.ref (u31 1), .ref (u31 2), .int 0, .ref (u31 3), .ref (u31 4), .int 0])), ((u31 1), .inl (cI, 64, .inl (fun _ => 0))), ((u31 2), .inl (cI, 64, .inl (fun _ => 0))), ((u31 3), .inl (cI, 64, .inl (fun _ => 0))), ((u31 4), .inl (cI, 64, .inl (fun _ => 0))), (q38, .inr (4, [.int 0, .int 0, .int 0, .ref (u42 1), .int 1, .int 0, .int 0])), ((u42 1), .inl (cI, 784, .inl (fun _ => 0))), (q49, .inr (2, [.ref (u53 1), .ref (u53 2)])), ((u53 1), .inl (cJ, 7, .inr (.inl (fun _ => 0)))), ((u53 2), .inl (cJ, 7, .inr (.inl (fun _ => 0))))] := hD
  refine lv_aload_n hx hb dX5_init_59 rfl (lv_at hl 0 rfl) ?_
  refine va_new (ci := 3) (fs := [.null, .int 0, .int 0, .null]) (C := RX3) (T := TX3) (N := 4) hx hb hts hinX3 tyX3 tyX3_ok hown (hts _ wd_182) (hts _ wd_183) (hts _ wd_54) hK hP hD hS hA rfl (fun j hj => by rcases (show j = 0 ∨ j = 1 ∨ j = 2 ∨ j = 3 by omega) with rfl | rfl | rfl | rfl <;> rfl) (Nat.le_of_ble_eq_true rfl) (Nat.le_of_ble_eq_true rfl) dX5_init_60 (fun q60 H hP hD hS => ?_)
  have hP : va_P D vwCl [(h0, .inr (5, [.ref q5, .ref q16, .ref q27, .ref q38, .ref q49, .null])), (q5, .inr (0, [.ref (u9 1), .ref (u9 2), .ref (u9 3), .ref (u9 4), .int 0])), ((u9 1), .inl (cI, 8, .inl (fun _ => 0))), ((u9 2), .inl (cI, 8, .inl (fun _ => 0))), ((u9 3), .inl (cI, 8, .inl (fun _ => 0))), ((u9 4), .inl (cI, 8, .inl (fun _ => 0))), (q16, .inr (0, [.ref (u20 1), .ref (u20 2), .ref (u20 3), .ref (u20 4), .int 0])), ((u20 1), .inl (cI, 8, .inl (fun _ => 0))), ((u20 2), .inl (cI, 8, .inl (fun _ => 0))), ((u20 3), .inl (cI, 8, .inl (fun _ => 0))), ((u20 4), .inl (cI, 8, .inl (fun _ => 0))), (q27, .inr (1, [.ref (u31 1), .ref (u31 2), .int 0, .ref (u31 3), .ref (u31 4), .int 0])), ((u31 1), .inl (cI, 64, .inl (fun _ => 0))), ((u31 2), .inl (cI, 64, .inl (fun _ => 0))), ((u31 3), .inl (cI, 64, .inl (fun _ => 0))), ((u31 4), .inl (cI, 64, .inl (fun _ => 0))), (q38, .inr (4, [.int 0, .int 0, .int 0, .ref (u42 1), .int 1, .int 0, .int 0])), ((u42 1), .inl (cI, 784, .inl (fun _ => 0))), (q49, .inr (2, [.ref (u53 1), .ref (u53 2)])), ((u53 1), .inl (cJ, 7, .inr (.inl (fun _ => 0)))), ((u53 2), .inl (cJ, 7, .inr (.inl (fun _ => 0)))), (q60, .inr (3, [.null, .int 0, .int 0, .null]))] H := hP
  have hD : va_D A [(h0, .inr (5, [.ref q5, .ref q16, .ref q27, .ref q38, .ref q49, .null])), (q5, .inr (0, [.ref (u9 1), .ref (u9 2), .ref (u9 3), .ref (u9 4), .int 0])), ((u9 1), .inl (cI, 8, .inl (fun _ => 0))), ((u9 2), .inl (cI, 8, .inl (fun _ => 0))), ((u9 3), .inl (cI, 8, .inl (fun _ => 0))), ((u9 4), .inl (cI, 8, .inl (fun _ => 0))), (q16, .inr (0, [.ref (u20 1), .ref (u20 2), .ref (u20 3), .ref (u20 4), .int 0])), ((u20 1), .inl (cI, 8, .inl (fun _ => 0))), ((u20 2), .inl (cI, 8, .inl (fun _ => 0))), ((u20 3), .inl (cI, 8, .inl (fun _ => 0))), ((u20 4), .inl (cI, 8, .inl (fun _ => 0))), (q27, .inr (1, [.ref (u31 1), .ref (u31 2), .int 0, .ref (u31 3), .ref (u31 4), .int 0])), ((u31 1), .inl (cI, 64, .inl (fun _ => 0))), ((u31 2), .inl (cI, 64, .inl (fun _ => 0))), ((u31 3), .inl (cI, 64, .inl (fun _ => 0))), ((u31 4), .inl (cI, 64, .inl (fun _ => 0))), (q38, .inr (4, [.int 0, .int 0, .int 0, .ref (u42 1), .int 1, .int 0, .int 0])), ((u42 1), .inl (cI, 784, .inl (fun _ => 0))), (q49, .inr (2, [.ref (u53 1), .ref (u53 2)])), ((u53 1), .inl (cJ, 7, .inr (.inl (fun _ => 0)))), ((u53 2), .inl (cJ, 7, .inr (.inl (fun _ => 0)))), (q60, .inr (3, [.null, .int 0, .int 0, .null]))] := hD
  refine W.widen (k := 21) (n := 1147) (by omega) (by omega) ?_
  refine lv_dup hx hb dX5_init_63 rfl ?_
  have hPc := hP.sub (ws' := [(q60, .inr (3, [.null, .int 0, .int 0, .null]))]) [21] rfl
  have hDc := hD.sub (ws' := [(q60, .inr (3, [.null, .int 0, .int 0, .null]))]) [21] (by decide) rfl
  have hFc := va_free (wc := [(q60, .inr (3, [.null, .int 0, .int 0, .null]))]) hD hS hA [21] rfl
  refine va_callv (va_runIN (As := []) (rest := [.ref q60, .ref h0]) ⟨hx, hb, hml, hown, hts⟩ (kX3_init l D cI cJ q60 H.size) ⟨va_cnB 0 hts (rs_good wd_186) rfl rfl rfl (hN _ (nl_X5_42)) (hts _ wd_54) (by decide +kernel) ⟨Nat.le_of_ble_eq_true rfl, Nat.le_of_ble_eq_true rfl⟩, rfl, hts _ wd_185⟩ ⟨rs_blindI, fun U hU hW => ⟨rfl, by rw [hU], by rw [hU]; exact hPc, va_K.moved hW.alike hK, fun q hq => va_Nw.warmM hW (hN q hq), hDc.weaken (fun _ _ _ _ => trivial)⟩⟩ rfl rfl hl.1 rfl (lv_room (Nat.le_of_ble_eq_true rfl)) dX5_init_64 ⟨Nat.le_of_ble_eq_true rfl, Nat.le_of_ble_eq_true rfl⟩) hS (fun q _ h => hFc q h) hFc (fun u64 t H1 locs ht hvm hw hB hz1 hk1 hS => ?_)
  obtain ⟨hP1, hD1⟩ := hB
  rw [ht] at hP1
  obtain ⟨hP, hD⟩ := va_join (wr := [(h0, .inr (5, [.ref q5, .ref q16, .ref q27, .ref q38, .ref q49, .null])), (q5, .inr (0, [.ref (u9 1), .ref (u9 2), .ref (u9 3), .ref (u9 4), .int 0])), ((u9 1), .inl (cI, 8, .inl (fun _ => 0))), ((u9 2), .inl (cI, 8, .inl (fun _ => 0))), ((u9 3), .inl (cI, 8, .inl (fun _ => 0))), ((u9 4), .inl (cI, 8, .inl (fun _ => 0))), (q16, .inr (0, [.ref (u20 1), .ref (u20 2), .ref (u20 3), .ref (u20 4), .int 0])), ((u20 1), .inl (cI, 8, .inl (fun _ => 0))), ((u20 2), .inl (cI, 8, .inl (fun _ => 0))), ((u20 3), .inl (cI, 8, .inl (fun _ => 0))), ((u20 4), .inl (cI, 8, .inl (fun _ => 0))), (q27, .inr (1, [.ref (u31 1), .ref (u31 2), .int 0, .ref (u31 3), .ref (u31 4), .int 0])), ((u31 1), .inl (cI, 64, .inl (fun _ => 0))), ((u31 2), .inl (cI, 64, .inl (fun _ => 0))), ((u31 3), .inl (cI, 64, .inl (fun _ => 0))), ((u31 4), .inl (cI, 64, .inl (fun _ => 0))), (q38, .inr (4, [.int 0, .int 0, .int 0, .ref (u42 1), .int 1, .int 0, .int 0])), ((u42 1), .inl (cI, 784, .inl (fun _ => 0))), (q49, .inr (2, [.ref (u53 1), .ref (u53 2)])), ((u53 1), .inl (cJ, 7, .inr (.inl (fun _ => 0)))), ((u53 2), .inl (cJ, 7, .inr (.inl (fun _ => 0))))]) (w1 := [(q60, .inr (3, [.ref (u64 1), .int 0, .int 0, .ref (u64 2)])), ((u64 1), .inl (cI, 900, .inl (fun _ => 0))), ((u64 2), .inl (cI, 217, .inl (fun _ => 0)))]) hP hD [21] [0, 1, 2, 3, 4, 5, 6, 7, 8, 9, 10, 11, 12, 13, 14, 15, 16, 17, 18, 19, 20] rfl rfl (by decide) (by decide) hk1 hFc hP1 hD1
  generalize H1 = H at hP hS ⊢
  have hP : va_P D vwCl [(h0, .inr (5, [.ref q5, .ref q16, .ref q27, .ref q38, .ref q49, .null])), (q5, .inr (0, [.ref (u9 1), .ref (u9 2), .ref (u9 3), .ref (u9 4), .int 0])), ((u9 1), .inl (cI, 8, .inl (fun _ => 0))), ((u9 2), .inl (cI, 8, .inl (fun _ => 0))), ((u9 3), .inl (cI, 8, .inl (fun _ => 0))), ((u9 4), .inl (cI, 8, .inl (fun _ => 0))), (q16, .inr (0, [.ref (u20 1), .ref (u20 2), .ref (u20 3), .ref (u20 4), .int 0])), ((u20 1), .inl (cI, 8, .inl (fun _ => 0))), ((u20 2), .inl (cI, 8, .inl (fun _ => 0))), ((u20 3), .inl (cI, 8, .inl (fun _ => 0))), ((u20 4), .inl (cI, 8, .inl (fun _ => 0))), (q27, .inr (1, [.ref (u31 1), .ref (u31 2), .int 0, .ref (u31 3), .ref (u31 4), .int 0])), ((u31 1), .inl (cI, 64, .inl (fun _ => 0))), ((u31 2), .inl (cI, 64, .inl (fun _ => 0))), ((u31 3), .inl (cI, 64, .inl (fun _ => 0))), ((u31 4), .inl (cI, 64, .inl (fun _ => 0))), (q38, .inr (4, [.int 0, .int 0, .int 0, .ref (u42 1), .int 1, .int 0, .int 0])), ((u42 1), .inl (cI, 784, .inl (fun _ => 0))), (q49, .inr (2, [.ref (u53 1), .ref (u53 2)])), ((u53 1), .inl (cJ, 7, .inr (.inl (fun _ => 0)))), ((u53 2), .inl (cJ, 7, .inr (.inl (fun _ => 0)))), (q60, .inr (3, [.ref (u64 1), .int 0, .int 0, .ref (u64 2)])), ((u64 1), .inl (cI, 900, .inl (fun _ => 0))), ((u64 2), .inl (cI, 217, .inl (fun _ => 0)))] H := hP
  have hD : va_D A [(h0, .inr (5, [.ref q5, .ref q16, .ref q27, .ref q38, .ref q49, .null])), (q5, .inr (0, [.ref (u9 1), .ref (u9 2), .ref (u9 3), .ref (u9 4), .int 0])), ((u9 1), .inl (cI, 8, .inl (fun _ => 0))), ((u9 2), .inl (cI, 8, .inl (fun _ => 0))), ((u9 3), .inl (cI, 8, .inl (fun _ => 0))), ((u9 4), .inl (cI, 8, .inl (fun _ => 0))), (q16, .inr (0, [.ref (u20 1), .ref (u20 2), .ref (u20 3), .ref (u20 4), .int 0])), ((u20 1), .inl (cI, 8, .inl (fun _ => 0))), ((u20 2), .inl (cI, 8, .inl (fun _ => 0))), ((u20 3), .inl (cI, 8, .inl (fun _ => 0))), ((u20 4), .inl (cI, 8, .inl (fun _ => 0))), (q27, .inr (1, [.ref (u31 1), .ref (u31 2), .int 0, .ref (u31 3), .ref (u31 4), .int 0])), ((u31 1), .inl (cI, 64, .inl (fun _ => 0))), ((u31 2), .inl (cI, 64, .inl (fun _ => 0))), ((u31 3), .inl (cI, 64, .inl (fun _ => 0))), ((u31 4), .inl (cI, 64, .inl (fun _ => 0))), (q38, .inr (4, [.int 0, .int 0, .int 0, .ref (u42 1), .int 1, .int 0, .int 0])), ((u42 1), .inl (cI, 784, .inl (fun _ => 0))), (q49, .inr (2, [.ref (u53 1), .ref (u53 2)])), ((u53 1), .inl (cJ, 7, .inr (.inl (fun _ => 0)))), ((u53 2), .inl (cJ, 7, .inr (.inl (fun _ => 0)))), (q60, .inr (3, [.ref (u64 1), .int 0, .int 0, .ref (u64 2)])), ((u64 1), .inl (cI, 900, .inl (fun _ => 0))), ((u64 2), .inl (cI, 217, .inl (fun _ => 0)))] := hD
  refine W.widen (k := 23) (n := 2264) (by omega) (by omega) ?_
  refine va_putF (D := D) (ci := 5) (v := .ref q60) (ty := .object "RootShapes$Solutions") (C := RX5) (T := TX5) (N := 6) hx hb hts hinX5 tyX5 tyX5_ok nmX5 hown hK hP hD hS 0 rfl rfl 5 (by decide) (hts _ wd_209) (fun _ h9 => h9) rfl hin rfl (by decide +kernel) rfl rfl (Nat.le_of_ble_eq_true rfl) dX5_init_67 (fun H locs hP hD hS => ?_)
  have hP : va_P D vwCl [(h0, .inr (5, [.ref q5, .ref q16, .ref q27, .ref q38, .ref q49, .ref q60])), (q5, .inr (0, [.ref (u9 1), .ref (u9 2), .ref (u9 3), .ref (u9 4), .int 0])), ((u9 1), .inl (cI, 8, .inl (fun _ => 0))), ((u9 2), .inl (cI, 8, .inl (fun _ => 0))), ((u9 3), .inl (cI, 8, .inl (fun _ => 0))), ((u9 4), .inl (cI, 8, .inl (fun _ => 0))), (q16, .inr (0, [.ref (u20 1), .ref (u20 2), .ref (u20 3), .ref (u20 4), .int 0])), ((u20 1), .inl (cI, 8, .inl (fun _ => 0))), ((u20 2), .inl (cI, 8, .inl (fun _ => 0))), ((u20 3), .inl (cI, 8, .inl (fun _ => 0))), ((u20 4), .inl (cI, 8, .inl (fun _ => 0))), (q27, .inr (1, [.ref (u31 1), .ref (u31 2), .int 0, .ref (u31 3), .ref (u31 4), .int 0])), ((u31 1), .inl (cI, 64, .inl (fun _ => 0))), ((u31 2), .inl (cI, 64, .inl (fun _ => 0))), ((u31 3), .inl (cI, 64, .inl (fun _ => 0))), ((u31 4), .inl (cI, 64, .inl (fun _ => 0))), (q38, .inr (4, [.int 0, .int 0, .int 0, .ref (u42 1), .int 1, .int 0, .int 0])), ((u42 1), .inl (cI, 784, .inl (fun _ => 0))), (q49, .inr (2, [.ref (u53 1), .ref (u53 2)])), ((u53 1), .inl (cJ, 7, .inr (.inl (fun _ => 0)))), ((u53 2), .inl (cJ, 7, .inr (.inl (fun _ => 0)))), (q60, .inr (3, [.ref (u64 1), .int 0, .int 0, .ref (u64 2)])), ((u64 1), .inl (cI, 900, .inl (fun _ => 0))), ((u64 2), .inl (cI, 217, .inl (fun _ => 0)))] H := hP
  have hD : va_D A [(h0, .inr (5, [.ref q5, .ref q16, .ref q27, .ref q38, .ref q49, .ref q60])), (q5, .inr (0, [.ref (u9 1), .ref (u9 2), .ref (u9 3), .ref (u9 4), .int 0])), ((u9 1), .inl (cI, 8, .inl (fun _ => 0))), ((u9 2), .inl (cI, 8, .inl (fun _ => 0))), ((u9 3), .inl (cI, 8, .inl (fun _ => 0))), ((u9 4), .inl (cI, 8, .inl (fun _ => 0))), (q16, .inr (0, [.ref (u20 1), .ref (u20 2), .ref (u20 3), .ref (u20 4), .int 0])), ((u20 1), .inl (cI, 8, .inl (fun _ => 0))), ((u20 2), .inl (cI, 8, .inl (fun _ => 0))), ((u20 3), .inl (cI, 8, .inl (fun _ => 0))), ((u20 4), .inl (cI, 8, .inl (fun _ => 0))), (q27, .inr (1, [.ref (u31 1), .ref (u31 2), .int 0, .ref (u31 3), .ref (u31 4), .int 0])), ((u31 1), .inl (cI, 64, .inl (fun _ => 0))), ((u31 2), .inl (cI, 64, .inl (fun _ => 0))), ((u31 3), .inl (cI, 64, .inl (fun _ => 0))), ((u31 4), .inl (cI, 64, .inl (fun _ => 0))), (q38, .inr (4, [.int 0, .int 0, .int 0, .ref (u42 1), .int 1, .int 0, .int 0])), ((u42 1), .inl (cI, 784, .inl (fun _ => 0))), (q49, .inr (2, [.ref (u53 1), .ref (u53 2)])), ((u53 1), .inl (cJ, 7, .inr (.inl (fun _ => 0)))), ((u53 2), .inl (cJ, 7, .inr (.inl (fun _ => 0)))), (q60, .inr (3, [.ref (u64 1), .int 0, .int 0, .ref (u64 2)])), ((u64 1), .inl (cI, 900, .inl (fun _ => 0))), ((u64 2), .inl (cI, 217, .inl (fun _ => 0)))] := hD
  have hP9 := hP.sub (ws' := [(h0, .inr (5, [.ref q5, .ref q16, .ref q27, .ref q38, .ref q49, .ref q60])), (q5, .inr (0, [.ref (u9 1), .ref (u9 2), .ref (u9 3), .ref (u9 4), .int 0])), ((u9 1), .inl (cI, 8, .inl (fun _ => 0))), ((u9 2), .inl (cI, 8, .inl (fun _ => 0))), ((u9 3), .inl (cI, 8, .inl (fun _ => 0))), ((u9 4), .inl (cI, 8, .inl (fun _ => 0))), (q16, .inr (0, [.ref (u20 1), .ref (u20 2), .ref (u20 3), .ref (u20 4), .int 0])), ((u20 1), .inl (cI, 8, .inl (fun _ => 0))), ((u20 2), .inl (cI, 8, .inl (fun _ => 0))), ((u20 3), .inl (cI, 8, .inl (fun _ => 0))), ((u20 4), .inl (cI, 8, .inl (fun _ => 0))), (q27, .inr (1, [.ref (u31 1), .ref (u31 2), .int 0, .ref (u31 3), .ref (u31 4), .int 0])), ((u31 1), .inl (cI, 64, .inl (fun _ => 0))), ((u31 2), .inl (cI, 64, .inl (fun _ => 0))), ((u31 3), .inl (cI, 64, .inl (fun _ => 0))), ((u31 4), .inl (cI, 64, .inl (fun _ => 0))), (q38, .inr (4, [.int 0, .int 0, .int 0, .ref (u42 1), .int 1, .int 0, .int 0])), ((u42 1), .inl (cI, 784, .inl (fun _ => 0))), (q49, .inr (2, [.ref (u53 1), .ref (u53 2)])), ((u53 1), .inl (cJ, 7, .inr (.inl (fun _ => 0)))), ((u53 2), .inl (cJ, 7, .inr (.inl (fun _ => 0)))), (q60, .inr (3, [.ref (u64 1), .int 0, .int 0, .ref (u64 2)])), ((u64 1), .inl (cI, 900, .inl (fun _ => 0))), ((u64 2), .inl (cI, 217, .inl (fun _ => 0)))]) [0, 1, 2, 3, 4, 5, 6, 7, 8, 9, 10, 11, 12, 13, 14, 15, 16, 17, 18, 19, 20, 21, 22, 23] rfl
  have hD9 := hD.sub (ws' := [(h0, .inr (5, [.ref q5, .ref q16, .ref q27, .ref q38, .ref q49, .ref q60])), (q5, .inr (0, [.ref (u9 1), .ref (u9 2), .ref (u9 3), .ref (u9 4), .int 0])), ((u9 1), .inl (cI, 8, .inl (fun _ => 0))), ((u9 2), .inl (cI, 8, .inl (fun _ => 0))), ((u9 3), .inl (cI, 8, .inl (fun _ => 0))), ((u9 4), .inl (cI, 8, .inl (fun _ => 0))), (q16, .inr (0, [.ref (u20 1), .ref (u20 2), .ref (u20 3), .ref (u20 4), .int 0])), ((u20 1), .inl (cI, 8, .inl (fun _ => 0))), ((u20 2), .inl (cI, 8, .inl (fun _ => 0))), ((u20 3), .inl (cI, 8, .inl (fun _ => 0))), ((u20 4), .inl (cI, 8, .inl (fun _ => 0))), (q27, .inr (1, [.ref (u31 1), .ref (u31 2), .int 0, .ref (u31 3), .ref (u31 4), .int 0])), ((u31 1), .inl (cI, 64, .inl (fun _ => 0))), ((u31 2), .inl (cI, 64, .inl (fun _ => 0))), ((u31 3), .inl (cI, 64, .inl (fun _ => 0))), ((u31 4), .inl (cI, 64, .inl (fun _ => 0))), (q38, .inr (4, [.int 0, .int 0, .int 0, .ref (u42 1), .int 1, .int 0, .int 0])), ((u42 1), .inl (cI, 784, .inl (fun _ => 0))), (q49, .inr (2, [.ref (u53 1), .ref (u53 2)])), ((u53 1), .inl (cJ, 7, .inr (.inl (fun _ => 0)))), ((u53 2), .inl (cJ, 7, .inr (.inl (fun _ => 0)))), (q60, .inr (3, [.ref (u64 1), .int 0, .int 0, .ref (u64 2)])), ((u64 1), .inl (cI, 900, .inl (fun _ => 0))), ((u64 2), .inl (cI, 217, .inl (fun _ => 0)))]) [0, 1, 2, 3, 4, 5, 6, 7, 8, 9, 10, 11, 12, 13, 14, 15, 16, 17, 18, 19, 20, 21, 22, 23] (by decide) rfl
  exact W.vret hx hb hr (fun t ht hW => ⟨⟨(fun k => ([h0, q5, (u9 1), (u9 2), (u9 3), (u9 4), q16, (u20 1), (u20 2), (u20 3), (u20 4), q27, (u31 1), (u31 2), (u31 3), (u31 4), q38, (u42 1), q49, (u53 1), (u53 2), q60, (u64 1), (u64 2)] : List Nat).getD k 0), rfl, trivial, by show va_P D vwCl [(h0, .inr (5, [.ref q5, .ref q16, .ref q27, .ref q38, .ref q49, .ref q60])), (q5, .inr (0, [.ref (u9 1), .ref (u9 2), .ref (u9 3), .ref (u9 4), .int 0])), ((u9 1), .inl (cI, 8, .inl (fun _ => 0))), ((u9 2), .inl (cI, 8, .inl (fun _ => 0))), ((u9 3), .inl (cI, 8, .inl (fun _ => 0))), ((u9 4), .inl (cI, 8, .inl (fun _ => 0))), (q16, .inr (0, [.ref (u20 1), .ref (u20 2), .ref (u20 3), .ref (u20 4), .int 0])), ((u20 1), .inl (cI, 8, .inl (fun _ => 0))), ((u20 2), .inl (cI, 8, .inl (fun _ => 0))), ((u20 3), .inl (cI, 8, .inl (fun _ => 0))), ((u20 4), .inl (cI, 8, .inl (fun _ => 0))), (q27, .inr (1, [.ref (u31 1), .ref (u31 2), .int 0, .ref (u31 3), .ref (u31 4), .int 0])), ((u31 1), .inl (cI, 64, .inl (fun _ => 0))), ((u31 2), .inl (cI, 64, .inl (fun _ => 0))), ((u31 3), .inl (cI, 64, .inl (fun _ => 0))), ((u31 4), .inl (cI, 64, .inl (fun _ => 0))), (q38, .inr (4, [.int 0, .int 0, .int 0, .ref (u42 1), .int 1, .int 0, .int 0])), ((u42 1), .inl (cI, 784, .inl (fun _ => 0))), (q49, .inr (2, [.ref (u53 1), .ref (u53 2)])), ((u53 1), .inl (cJ, 7, .inr (.inl (fun _ => 0)))), ((u53 2), .inl (cJ, 7, .inr (.inl (fun _ => 0)))), (q60, .inr (3, [.ref (u64 1), .int 0, .int 0, .ref (u64 2)])), ((u64 1), .inl (cI, 900, .inl (fun _ => 0))), ((u64 2), .inl (cI, 217, .inl (fun _ => 0)))] t.heap; rw [ht]; exact hP9, hD9⟩, hS.F ht⟩) hS.2.2 dX5_init_70
theorem dX6_init_0 : decode cX6_init 0 = .ok (.aload_n 0, 1) := by decide +kernel
theorem dX6_init_1 : decode cX6_init 1 = .ok (.invokespecial 1, 3) := by decide +kernel
theorem dX6_init_4 : decode cX6_init 4 = .ok (.aload_n 0, 1) := by decide +kernel
theorem dX6_init_5 : decode cX6_init 5 = .ok (.bipush 16, 2) := by decide +kernel
theorem dX6_init_7 : decode cX6_init 7 = .ok (.newarray .int, 2) := by decide +kernel
theorem dX6_init_9 : decode cX6_init 9 = .ok (.putfield 7, 3) := by decide +kernel
theorem dX6_init_12 : decode cX6_init 12 = .ok (.aload_n 0, 1) := by decide +kernel
theorem dX6_init_13 : decode cX6_init 13 = .ok (.bipush 16, 2) := by decide +kernel
theorem dX6_init_15 : decode cX6_init 15 = .ok (.newarray .int, 2) := by decide +kernel
theorem dX6_init_17 : decode cX6_init 17 = .ok (.putfield 13, 3) := by decide +kernel
theorem dX6_init_20 : decode cX6_init 20 = .ok (.aload_n 0, 1) := by decide +kernel
theorem dX6_init_21 : decode cX6_init 21 = .ok (.bipush 16, 2) := by decide +kernel
theorem dX6_init_23 : decode cX6_init 23 = .ok (.newarray .int, 2) := by decide +kernel
theorem dX6_init_25 : decode cX6_init 25 = .ok (.putfield 16, 3) := by decide +kernel
theorem dX6_init_28 : decode cX6_init 28 = .ok (.aload_n 0, 1) := by decide +kernel
theorem dX6_init_29 : decode cX6_init 29 = .ok (.bipush 16, 2) := by decide +kernel
theorem dX6_init_31 : decode cX6_init 31 = .ok (.newarray .int, 2) := by decide +kernel
theorem dX6_init_33 : decode cX6_init 33 = .ok (.putfield 19, 3) := by decide +kernel
theorem dX6_init_36 : decode cX6_init 36 = .ok (.aload_n 0, 1) := by decide +kernel
theorem dX6_init_37 : decode cX6_init 37 = .ok (.iconst 2, 1) := by decide +kernel
theorem dX6_init_38 : decode cX6_init 38 = .ok (.newarray .int, 2) := by decide +kernel
theorem dX6_init_40 : decode cX6_init 40 = .ok (.putfield 22, 3) := by decide +kernel
theorem dX6_init_43 : decode cX6_init 43 = .ok (.aload_n 0, 1) := by decide +kernel
theorem dX6_init_44 : decode cX6_init 44 = .ok (.bipush 64, 2) := by decide +kernel
theorem dX6_init_46 : decode cX6_init 46 = .ok (.newarray .int, 2) := by decide +kernel
theorem dX6_init_48 : decode cX6_init 48 = .ok (.putfield 25, 3) := by decide +kernel
theorem dX6_init_51 : decode cX6_init 51 = .ok (.aload_n 0, 1) := by decide +kernel
theorem dX6_init_52 : decode cX6_init 52 = .ok (.bipush 64, 2) := by decide +kernel
theorem dX6_init_54 : decode cX6_init 54 = .ok (.newarray .int, 2) := by decide +kernel
theorem dX6_init_56 : decode cX6_init 56 = .ok (.putfield 28, 3) := by decide +kernel
theorem dX6_init_59 : decode cX6_init 59 = .ok (.aload_n 0, 1) := by decide +kernel
theorem dX6_init_60 : decode cX6_init 60 = .ok (.bipush 64, 2) := by decide +kernel
theorem dX6_init_62 : decode cX6_init 62 = .ok (.newarray .int, 2) := by decide +kernel
theorem dX6_init_64 : decode cX6_init 64 = .ok (.putfield 31, 3) := by decide +kernel
theorem dX6_init_67 : decode cX6_init 67 = .ok (.aload_n 0, 1) := by decide +kernel
theorem dX6_init_68 : decode cX6_init 68 = .ok (.bipush 64, 2) := by decide +kernel
theorem dX6_init_70 : decode cX6_init 70 = .ok (.newarray .int, 2) := by decide +kernel
theorem dX6_init_72 : decode cX6_init 72 = .ok (.putfield 34, 3) := by decide +kernel
theorem dX6_init_75 : decode cX6_init 75 = .ok (.aload_n 0, 1) := by decide +kernel
theorem dX6_init_76 : decode cX6_init 76 = .ok (.bipush 14, 2) := by decide +kernel
theorem dX6_init_78 : decode cX6_init 78 = .ok (.newarray .long, 2) := by decide +kernel
theorem dX6_init_80 : decode cX6_init 80 = .ok (.putfield 37, 3) := by decide +kernel
theorem dX6_init_83 : decode cX6_init 83 = .ok (.aload_n 0, 1) := by decide +kernel
theorem dX6_init_84 : decode cX6_init 84 = .ok (.iconst 2, 1) := by decide +kernel
theorem dX6_init_85 : decode cX6_init 85 = .ok (.newarray .int, 2) := by decide +kernel
theorem dX6_init_87 : decode cX6_init 87 = .ok (.putfield 41, 3) := by decide +kernel
theorem dX6_init_90 : decode cX6_init 90 = .ok (.return_, 1) := by decide +kernel
set_option maxRecDepth 100000 in
set_option maxHeartbeats 4000000 in
theorem kX6_init (l : Launch) (D : va_G) (cI cJ : ClassId) (h0 sz : Nat) : Met l yX6_init (Cond.code yX6_init cX6_init 1 none :: gwT) { frames := 1, cells := 11, slots := 338, locals := 12 } (va_Pc [.ref h0] (fun U => U.heap.size = sz ∧ va_P D vwCl [(h0, .inr (6, [.null, .null, .null, .null, .null, .null, .null, .int 0, .null, .null, .int 0, .int 0, .int 0, .int 0, .int 0, .int 0, .int 0, .int 0, .int 0, .int 0, .null, .null]))] U.heap ∧ va_K D vwCl [(cI, .int), (cJ, .long)] U ∧ (∀ q ∈ nestL, va_Nw (.methodLinkNest q.1 q.2.1 q.2.2.1 q.2.2.2) U) ∧ va_D (fun _ => True) [(h0, .inr (6, [.null, .null, .null, .null, .null, .null, .null, .int 0, .null, .null, .int 0, .int 0, .int 0, .int 0, .int 0, .int 0, .int 0, .int 0, .int 0, .int 0, .null, .null]))])) (va_Qv (fun (_ : Nat → Nat) => True) (fun u t => va_P D vwCl [(h0, .inr (6, [.ref (u 1), .ref (u 2), .ref (u 3), .ref (u 4), .ref (u 5), .ref (u 6), .ref (u 7), .int 0, .ref (u 8), .ref (u 9), .int 0, .int 0, .int 0, .int 0, .int 0, .int 0, .int 0, .int 0, .int 0, .int 0, .ref (u 10), .ref (u 11)])), ((u 1), .inl (cI, 16, .inl (fun _ => 0))), ((u 2), .inl (cI, 16, .inl (fun _ => 0))), ((u 3), .inl (cI, 16, .inl (fun _ => 0))), ((u 4), .inl (cI, 16, .inl (fun _ => 0))), ((u 5), .inl (cI, 2, .inl (fun _ => 0))), ((u 6), .inl (cI, 64, .inl (fun _ => 0))), ((u 7), .inl (cI, 64, .inl (fun _ => 0))), ((u 8), .inl (cI, 64, .inl (fun _ => 0))), ((u 9), .inl (cI, 64, .inl (fun _ => 0))), ((u 10), .inl (cJ, 14, .inr (.inl (fun _ => 0)))), ((u 11), .inl (cI, 2, .inl (fun _ => 0)))] t.heap ∧ va_D (va_A [(h0, .inr (6, [.null, .null, .null, .null, .null, .null, .null, .int 0, .null, .null, .int 0, .int 0, .int 0, .int 0, .int 0, .int 0, .int 0, .int 0, .int 0, .int 0, .null, .null]))] sz) [(h0, .inr (6, [.ref (u 1), .ref (u 2), .ref (u 3), .ref (u 4), .ref (u 5), .ref (u 6), .ref (u 7), .int 0, .ref (u 8), .ref (u 9), .int 0, .int 0, .int 0, .int 0, .int 0, .int 0, .int 0, .int 0, .int 0, .int 0, .ref (u 10), .ref (u 11)])), ((u 1), .inl (cI, 16, .inl (fun _ => 0))), ((u 2), .inl (cI, 16, .inl (fun _ => 0))), ((u 3), .inl (cI, 16, .inl (fun _ => 0))), ((u 4), .inl (cI, 16, .inl (fun _ => 0))), ((u 5), .inl (cI, 2, .inl (fun _ => 0))), ((u 6), .inl (cI, 64, .inl (fun _ => 0))), ((u 7), .inl (cI, 64, .inl (fun _ => 0))), ((u 8), .inl (cI, 64, .inl (fun _ => 0))), ((u 9), .inl (cI, 64, .inl (fun _ => 0))), ((u 10), .inl (cJ, 14, .inr (.inl (fun _ => 0)))), ((u 11), .inl (cI, 2, .inl (fun _ => 0)))]) (va_A [(h0, .inr (6, [.null, .null, .null, .null, .null, .null, .null, .int 0, .null, .null, .int 0, .int 0, .int 0, .int 0, .int 0, .int 0, .int 0, .int 0, .int 0, .int 0, .null, .null]))] sz)) 11 338 (va_A [(h0, .inr (6, [.null, .null, .null, .null, .null, .null, .null, .int 0, .null, .null, .int 0, .int 0, .int 0, .int 0, .int 0, .int 0, .int 0, .int 0, .int 0, .int 0, .null, .null]))] sz) := by
  refine Met.ofW (cc := cX6_init) (maxL := 1) (ret := none) (by decide +kernel) rfl ?_
  intro p e s m args below meth c s₁ B hml hv
  obtain ⟨rfl, hsz, hP, hK, hN, hD0⟩ := hv
  have hx := B.exec
  have hb := B.bytes
  have hr := B.returns
  have hts : ∀ w ∈ gwT, w.before _ s = true := fun w hw => atoms_spec (ws := Cond.code yX6_init cX6_init 1 none :: gwT) B.pre w (List.mem_cons_of_mem _ hw)
  have hown : s.vm.findClass RX6 = some m.cls := findClass_of_methodNamed B.named
  have hlocks := B.notSynchronized
  have hin : meth.name = "<init>" := (name_of_methodNamed B.named B.method).1
  subst hsz
  have hD := hD0.self (sz := s.heap.size)
  generalize hAe : va_A [(h0, .inr (6, [.null, .null, .null, .null, .null, .null, .null, .int 0, .null, .null, .int 0, .int 0, .int 0, .int 0, .int 0, .int 0, .int 0, .int 0, .int 0, .int 0, .null, .null]))] s.heap.size = A at hD ⊢
  have hA : ∀ q : Nat, s.heap.size ≤ q → A q := fun q h => by rw [← hAe]; exact Or.inr h
  have hS : va_S A s.heap s.heap [] := va_S.rf
  have hP : va_P D vwCl [(h0, .inr (6, [.null, .null, .null, .null, .null, .null, .null, .int 0, .null, .null, .int 0, .int 0, .int 0, .int 0, .int 0, .int 0, .int 0, .int 0, .int 0, .int 0, .null, .null]))] s.heap := hP
  have hl := lv_entry ([.ref h0]) (n := 1) (Nat.le_of_ble_eq_true rfl)
  rw [lg_entry_eq]
  generalize (lg_sl ([.ref h0]) ++ List.replicate (1 - (lg_sl ([.ref h0])).length) Slot.unset).toArray = ls at hl ⊢
  have hl : lv_has ls 1 [(0, .ref h0)] := hl
  refine lv_aload_n hx hb dX6_init_0 rfl (lv_at hl 0 rfl) ?_
  refine W.objInit hx hb hown (hts _ wd_518) (hts _ wd_64) (hts _ wd_65) rfl (by rw [hml]; exact hl.1) rfl dX6_init_1 (Nat.le_of_ble_eq_true rfl) (Nat.le_of_ble_eq_true rfl) ?_
  refine W.eq (g2 := F0 m 4 ls []) rfl ?_
  refine lv_aload_n hx hb dX6_init_4 rfl (lv_at hl 0 rfl) ?_
  refine lv_bipush (v := (16 : Int32)) hx hb dX6_init_5 (by decide) ?_
  refine rs_newI (N := 16) hx hb (hts _ wd_108) hK hP hD hS hA (by decide) (by decide +kernel) (Nat.le_of_ble_eq_true rfl) (Nat.le_of_ble_eq_true rfl) (Nat.le_of_ble_eq_true rfl) dX6_init_7 (fun q7 H hP hD hS => ?_)
  have hP : va_P D vwCl [(h0, .inr (6, [.null, .null, .null, .null, .null, .null, .null, .int 0, .null, .null, .int 0, .int 0, .int 0, .int 0, .int 0, .int 0, .int 0, .int 0, .int 0, .int 0, .null, .null])), (q7, .inl (cI, 16, .inl (fun _ => 0)))] H := hP
  have hD : va_D A [(h0, .inr (6, [.null, .null, .null, .null, .null, .null, .null, .int 0, .null, .null, .int 0, .int 0, .int 0, .int 0, .int 0, .int 0, .int 0, .int 0, .int 0, .int 0, .null, .null])), (q7, .inl (cI, 16, .inl (fun _ => 0)))] := hD
  refine W.widen (k := 1) (n := 16) (by omega) (by omega) ?_
  refine va_putF (D := D) (ci := 6) (v := .ref q7) (ty := .array .int) (C := RX6) (T := TX6) (N := 22) hx hb hts hinX6 tyX6 tyX6_ok nmX6 hown hK hP hD hS 0 rfl rfl 0 (by decide) (hts _ wd_519) (fun _ h9 => h9) rfl hin rfl (by decide +kernel) rfl rfl (Nat.le_of_ble_eq_true rfl) dX6_init_9 (fun H locs hP hD hS => ?_)
  have hP : va_P D vwCl [(h0, .inr (6, [.ref q7, .null, .null, .null, .null, .null, .null, .int 0, .null, .null, .int 0, .int 0, .int 0, .int 0, .int 0, .int 0, .int 0, .int 0, .int 0, .int 0, .null, .null])), (q7, .inl (cI, 16, .inl (fun _ => 0)))] H := hP
  have hD : va_D A [(h0, .inr (6, [.ref q7, .null, .null, .null, .null, .null, .null, .int 0, .null, .null, .int 0, .int 0, .int 0, .int 0, .int 0, .int 0, .int 0, .int 0, .int 0, .int 0, .null, .null])), (q7, .inl (cI, 16, .inl (fun _ => 0)))] := hD
  refine lv_aload_n hx hb dX6_init_12 rfl (lv_at hl 0 rfl) ?_
  refine lv_bipush (v := (16 : Int32)) hx hb dX6_init_13 (by decide) ?_
  refine rs_newI (N := 16) hx hb (hts _ wd_108) hK hP hD hS hA (by decide) (by decide +kernel) (Nat.le_of_ble_eq_true rfl) (Nat.le_of_ble_eq_true rfl) (Nat.le_of_ble_eq_true rfl) dX6_init_15 (fun q15 H hP hD hS => ?_)
  have hP : va_P D vwCl [(h0, .inr (6, [.ref q7, .null, .null, .null, .null, .null, .null, .int 0, .null, .null, .int 0, .int 0, .int 0, .int 0, .int 0, .int 0, .int 0, .int 0, .int 0, .int 0, .null, .null])), (q7, .inl (cI, 16, .inl (fun _ => 0))), (q15, .inl (cI, 16, .inl (fun _ => 0)))] H := hP
  have hD : va_D A [(h0, .inr (6, [.ref q7, .null, .null, .null, .null, .null, .null, .int 0, .null, .null, .int 0, .int 0, .int 0, .int 0, .int 0, .int 0, .int 0, .int 0, .int 0, .int 0, .null, .null])), (q7, .inl (cI, 16, .inl (fun _ => 0))), (q15, .inl (cI, 16, .inl (fun _ => 0)))] := hD
  refine W.widen (k := 2) (n := 32) (by omega) (by omega) ?_
  refine va_putF (D := D) (ci := 6) (v := .ref q15) (ty := .array .int) (C := RX6) (T := TX6) (N := 22) hx hb hts hinX6 tyX6 tyX6_ok nmX6 hown hK hP hD hS 0 rfl rfl 1 (by decide) (hts _ wd_520) (fun _ h9 => h9) rfl hin rfl (by decide +kernel) rfl rfl (Nat.le_of_ble_eq_true rfl) dX6_init_17 (fun H locs hP hD hS => ?_)
  have hP : va_P D vwCl [(h0, .inr (6, [.ref q7, .ref q15, .null, .null, .null, .null, .null, .int 0, .null, .null, .int 0, .int 0, .int 0, .int 0, .int 0, .int 0, .int 0, .int 0, .int 0, .int 0, .null, .null])), (q7, .inl (cI, 16, .inl (fun _ => 0))), (q15, .inl (cI, 16, .inl (fun _ => 0)))] H := hP
  have hD : va_D A [(h0, .inr (6, [.ref q7, .ref q15, .null, .null, .null, .null, .null, .int 0, .null, .null, .int 0, .int 0, .int 0, .int 0, .int 0, .int 0, .int 0, .int 0, .int 0, .int 0, .null, .null])), (q7, .inl (cI, 16, .inl (fun _ => 0))), (q15, .inl (cI, 16, .inl (fun _ => 0)))] := hD
  refine lv_aload_n hx hb dX6_init_20 rfl (lv_at hl 0 rfl) ?_
  refine lv_bipush (v := (16 : Int32)) hx hb dX6_init_21 (by decide) ?_
  refine rs_newI (N := 16) hx hb (hts _ wd_108) hK hP hD hS hA (by decide) (by decide +kernel) (Nat.le_of_ble_eq_true rfl) (Nat.le_of_ble_eq_true rfl) (Nat.le_of_ble_eq_true rfl) dX6_init_23 (fun q23 H hP hD hS => ?_)
  have hP : va_P D vwCl [(h0, .inr (6, [.ref q7, .ref q15, .null, .null, .null, .null, .null, .int 0, .null, .null, .int 0, .int 0, .int 0, .int 0, .int 0, .int 0, .int 0, .int 0, .int 0, .int 0, .null, .null])), (q7, .inl (cI, 16, .inl (fun _ => 0))), (q15, .inl (cI, 16, .inl (fun _ => 0))), (q23, .inl (cI, 16, .inl (fun _ => 0)))] H := hP
  have hD : va_D A [(h0, .inr (6, [.ref q7, .ref q15, .null, .null, .null, .null, .null, .int 0, .null, .null, .int 0, .int 0, .int 0, .int 0, .int 0, .int 0, .int 0, .int 0, .int 0, .int 0, .null, .null])), (q7, .inl (cI, 16, .inl (fun _ => 0))), (q15, .inl (cI, 16, .inl (fun _ => 0))), (q23, .inl (cI, 16, .inl (fun _ => 0)))] := hD
  refine W.widen (k := 3) (n := 48) (by omega) (by omega) ?_
  refine va_putF (D := D) (ci := 6) (v := .ref q23) (ty := .array .int) (C := RX6) (T := TX6) (N := 22) hx hb hts hinX6 tyX6 tyX6_ok nmX6 hown hK hP hD hS 0 rfl rfl 2 (by decide) (hts _ wd_521) (fun _ h9 => h9) rfl hin rfl (by decide +kernel) rfl rfl (Nat.le_of_ble_eq_true rfl) dX6_init_25 (fun H locs hP hD hS => ?_)
  have hP : va_P D vwCl [(h0, .inr (6, [.ref q7, .ref q15, .ref q23, .null, .null, .null, .null, .int 0, .null, .null, .int 0, .int 0, .int 0, .int 0, .int 0, .int 0, .int 0, .int 0, .int 0, .int 0, .null, .null])), (q7, .inl (cI, 16, .inl (fun _ => 0))), (q15, .inl (cI, 16, .inl (fun _ => 0))), (q23, .inl (cI, 16, .inl (fun _ => 0)))] H := hP
  have hD : va_D A [(h0, .inr (6, [.ref q7, .ref q15, .ref q23, .null, .null, .null, .null, .int 0, .null, .null, .int 0, .int 0, .int 0, .int 0, .int 0, .int 0, .int 0, .int 0, .int 0, .int 0, .null, .null])), (q7, .inl (cI, 16, .inl (fun _ => 0))), (q15, .inl (cI, 16, .inl (fun _ => 0))), (q23, .inl (cI, 16, .inl (fun _ => 0)))] := hD
  refine lv_aload_n hx hb dX6_init_28 rfl (lv_at hl 0 rfl) ?_
  refine lv_bipush (v := (16 : Int32)) hx hb dX6_init_29 (by decide) ?_
  refine rs_newI (N := 16) hx hb (hts _ wd_108) hK hP hD hS hA (by decide) (by decide +kernel) (Nat.le_of_ble_eq_true rfl) (Nat.le_of_ble_eq_true rfl) (Nat.le_of_ble_eq_true rfl) dX6_init_31 (fun q31 H hP hD hS => ?_)
  have hP : va_P D vwCl [(h0, .inr (6, [.ref q7, .ref q15, .ref q23, .null, .null, .null, .null, .int 0, .null, .null, .int 0, .int 0, .int 0, .int 0, .int 0, .int 0, .int 0, .int 0, .int 0, .int 0, .null, .null])), (q7, .inl (cI, 16, .inl (fun _ => 0))), (q15, .inl (cI, 16, .inl (fun _ => 0))), (q23, .inl (cI, 16, .inl (fun _ => 0))), (q31, .inl (cI, 16, .inl (fun _ => 0)))] H := hP
  have hD : va_D A [(h0, .inr (6, [.ref q7, .ref q15, .ref q23, .null, .null, .null, .null, .int 0, .null, .null, .int 0, .int 0, .int 0, .int 0, .int 0, .int 0, .int 0, .int 0, .int 0, .int 0, .null, .null])), (q7, .inl (cI, 16, .inl (fun _ => 0))), (q15, .inl (cI, 16, .inl (fun _ => 0))), (q23, .inl (cI, 16, .inl (fun _ => 0))), (q31, .inl (cI, 16, .inl (fun _ => 0)))] := hD
  refine W.widen (k := 4) (n := 64) (by omega) (by omega) ?_
  refine va_putF (D := D) (ci := 6) (v := .ref q31) (ty := .array .int) (C := RX6) (T := TX6) (N := 22) hx hb hts hinX6 tyX6 tyX6_ok nmX6 hown hK hP hD hS 0 rfl rfl 3 (by decide) (hts _ wd_522) (fun _ h9 => h9) rfl hin rfl (by decide +kernel) rfl rfl (Nat.le_of_ble_eq_true rfl) dX6_init_33 (fun H locs hP hD hS => ?_)
  have hP : va_P D vwCl [(h0, .inr (6, [.ref q7, .ref q15, .ref q23, .ref q31, .null, .null, .null, .int 0, .null, .null, .int 0, .int 0, .int 0, .int 0, .int 0, .int 0, .int 0, .int 0, .int 0, .int 0, .null, .null])), (q7, .inl (cI, 16, .inl (fun _ => 0))), (q15, .inl (cI, 16, .inl (fun _ => 0))), (q23, .inl (cI, 16, .inl (fun _ => 0))), (q31, .inl (cI, 16, .inl (fun _ => 0)))] H := hP
  have hD : va_D A [(h0, .inr (6, [.ref q7, .ref q15, .ref q23, .ref q31, .null, .null, .null, .int 0, .null, .null, .int 0, .int 0, .int 0, .int 0, .int 0, .int 0, .int 0, .int 0, .int 0, .int 0, .null, .null])), (q7, .inl (cI, 16, .inl (fun _ => 0))), (q15, .inl (cI, 16, .inl (fun _ => 0))), (q23, .inl (cI, 16, .inl (fun _ => 0))), (q31, .inl (cI, 16, .inl (fun _ => 0)))] := hD
  refine lv_aload_n hx hb dX6_init_36 rfl (lv_at hl 0 rfl) ?_
  refine lv_iconst (v := (2 : Int32)) hx hb dX6_init_37 (by decide) ?_
  refine rs_newI (N := 2) hx hb (hts _ wd_108) hK hP hD hS hA (by decide) (by decide +kernel) (Nat.le_of_ble_eq_true rfl) (Nat.le_of_ble_eq_true rfl) (Nat.le_of_ble_eq_true rfl) dX6_init_38 (fun q38 H hP hD hS => ?_)
  have hP : va_P D vwCl [(h0, .inr (6, [.ref q7, .ref q15, .ref q23, .ref q31, .null, .null, .null, .int 0, .null, .null, .int 0, .int 0, .int 0, .int 0, .int 0, .int 0, .int 0, .int 0, .int 0, .int 0, .null, .null])), (q7, .inl (cI, 16, .inl (fun _ => 0))), (q15, .inl (cI, 16, .inl (fun _ => 0))), (q23, .inl (cI, 16, .inl (fun _ => 0))), (q31, .inl (cI, 16, .inl (fun _ => 0))), (q38, .inl (cI, 2, .inl (fun _ => 0)))] H := hP
  have hD : va_D A [(h0, .inr (6, [.ref q7, .ref q15, .ref q23, .ref q31, .null, .null, .null, .int 0, .null, .null, .int 0, .int 0, .int 0, .int 0, .int 0, .int 0, .int 0, .int 0, .int 0, .int 0, .null, .null])), (q7, .inl (cI, 16, .inl (fun _ => 0))), (q15, .inl (cI, 16, .inl (fun _ => 0))), (q23, .inl (cI, 16, .inl (fun _ => 0))), (q31, .inl (cI, 16, .inl (fun _ => 0))), (q38, .inl (cI, 2, .inl (fun _ => 0)))] := hD
  refine W.widen (k := 5) (n := 66) (by omega) (by omega) ?_
  refine va_putF (D := D) (ci := 6) (v := .ref q38) (ty := .array .int) (C := RX6) (T := TX6) (N := 22) hx hb hts hinX6 tyX6 tyX6_ok nmX6 hown hK hP hD hS 0 rfl rfl 4 (by decide) (hts _ wd_523) (fun _ h9 => h9) rfl hin rfl (by decide +kernel) rfl rfl (Nat.le_of_ble_eq_true rfl) dX6_init_40 (fun H locs hP hD hS => ?_)
  have hP : va_P D vwCl [(h0, .inr (6, [.ref q7, .ref q15, .ref q23, .ref q31, .ref q38, .null, .null, .int 0, .null, .null, .int 0, .int 0, .int 0, .int 0, .int 0, .int 0, .int 0, .int 0, .int 0, .int 0, .null, .null])), (q7, .inl (cI, 16, .inl (fun _ => 0))), (q15, .inl (cI, 16, .inl (fun _ => 0))), (q23, .inl (cI, 16, .inl (fun _ => 0))), (q31, .inl (cI, 16, .inl (fun _ => 0))), (q38, .inl (cI, 2, .inl (fun _ => 0)))] H := hP
  have hD : va_D A [(h0, .inr (6, [.ref q7, .ref q15, .ref q23, .ref q31, .ref q38, .null, .null, .int 0, .null, .null, .int 0, .int 0, .int 0, .int 0, .int 0, .int 0, .int 0, .int 0, .int 0, .int 0, .null, .null])), (q7, .inl (cI, 16, .inl (fun _ => 0))), (q15, .inl (cI, 16, .inl (fun _ => 0))), (q23, .inl (cI, 16, .inl (fun _ => 0))), (q31, .inl (cI, 16, .inl (fun _ => 0))), (q38, .inl (cI, 2, .inl (fun _ => 0)))] := hD
  refine lv_aload_n hx hb dX6_init_43 rfl (lv_at hl 0 rfl) ?_
  refine lv_bipush (v := (64 : Int32)) hx hb dX6_init_44 (by decide) ?_
  refine rs_newI (N := 64) hx hb (hts _ wd_108) hK hP hD hS hA (by decide) (by decide +kernel) (Nat.le_of_ble_eq_true rfl) (Nat.le_of_ble_eq_true rfl) (Nat.le_of_ble_eq_true rfl) dX6_init_46 (fun q46 H hP hD hS => ?_)
  have hP : va_P D vwCl [(h0, .inr (6, [.ref q7, .ref q15, .ref q23, .ref q31, .ref q38, .null, .null, .int 0, .null, .null, .int 0, .int 0, .int 0, .int 0, .int 0, .int 0, .int 0, .int 0, .int 0, .int 0, .null, .null])), (q7, .inl (cI, 16, .inl (fun _ => 0))), (q15, .inl (cI, 16, .inl (fun _ => 0))), (q23, .inl (cI, 16, .inl (fun _ => 0))), (q31, .inl (cI, 16, .inl (fun _ => 0))), (q38, .inl (cI, 2, .inl (fun _ => 0))), (q46, .inl (cI, 64, .inl (fun _ => 0)))] H := hP
  have hD : va_D A [(h0, .inr (6, [.ref q7, .ref q15, .ref q23, .ref q31, .ref q38, .null, .null, .int 0, .null, .null, .int 0, .int 0, .int 0, .int 0, .int 0, .int 0, .int 0, .int 0, .int 0, .int 0, .null, .null])), (q7, .inl (cI, 16, .inl (fun _ => 0))), (q15, .inl (cI, 16, .inl (fun _ => 0))), (q23, .inl (cI, 16, .inl (fun _ => 0))), (q31, .inl (cI, 16, .inl (fun _ => 0))), (q38, .inl (cI, 2, .inl (fun _ => 0))), (q46, .inl (cI, 64, .inl (fun _ => 0)))] := hD
  refine W.widen (k := 6) (n := 130) (by omega) (by omega) ?_
  refine va_putF (D := D) (ci := 6) (v := .ref q46) (ty := .array .int) (C := RX6) (T := TX6) (N := 22) hx hb hts hinX6 tyX6 tyX6_ok nmX6 hown hK hP hD hS 0 rfl rfl 5 (by decide) (hts _ wd_524) (fun _ h9 => h9) rfl hin rfl (by decide +kernel) rfl rfl (Nat.le_of_ble_eq_true rfl) dX6_init_48 (fun H locs hP hD hS => ?_)
  have hP : va_P D vwCl [(h0, .inr (6, [.ref q7, .ref q15, .ref q23, .ref q31, .ref q38, .ref q46, .null, .int 0, .null, .null, .int 0, .int 0, .int 0, .int 0, .int 0, .int 0, .int 0, .int 0, .int 0, .int 0, .null, .null])), (q7, .inl (cI, 16, .inl (fun _ => 0))), (q15, .inl (cI, 16, .inl (fun _ => 0))), (q23, .inl (cI, 16, .inl (fun _ => 0))), (q31, .inl (cI, 16, .inl (fun _ => 0))), (q38, .inl (cI, 2, .inl (fun _ => 0))), (q46, .inl (cI, 64, .inl (fun _ => 0)))] H := hP
  have hD : va_D A [(h0, .inr (6, [.ref q7, .ref q15, .ref q23, .ref q31, .ref q38, .ref q46, .null, .int 0, .null, .null, .int 0, .int 0, .int 0, .int 0, .int 0, .int 0, .int 0, .int 0, .int 0, .int 0, .null, .null])), (q7, .inl (cI, 16, .inl (fun _ => 0))), (q15, .inl (cI, 16, .inl (fun _ => 0))), (q23, .inl (cI, 16, .inl (fun _ => 0))), (q31, .inl (cI, 16, .inl (fun _ => 0))), (q38, .inl (cI, 2, .inl (fun _ => 0))), (q46, .inl (cI, 64, .inl (fun _ => 0)))] := hD
  refine lv_aload_n hx hb dX6_init_51 rfl (lv_at hl 0 rfl) ?_
  refine lv_bipush (v := (64 : Int32)) hx hb dX6_init_52 (by decide) ?_
  refine rs_newI (N := 64) hx hb (hts _ wd_108) hK hP hD hS hA (by decide) (by decide +kernel) (Nat.le_of_ble_eq_true rfl) (Nat.le_of_ble_eq_true rfl) (Nat.le_of_ble_eq_true rfl) dX6_init_54 (fun q54 H hP hD hS => ?_)
  have hP : va_P D vwCl [(h0, .inr (6, [.ref q7, .ref q15, .ref q23, .ref q31, .ref q38, .ref q46, .null, .int 0, .null, .null, .int 0, .int 0, .int 0, .int 0, .int 0, .int 0, .int 0, .int 0, .int 0, .int 0, .null, .null])), (q7, .inl (cI, 16, .inl (fun _ => 0))), (q15, .inl (cI, 16, .inl (fun _ => 0))), (q23, .inl (cI, 16, .inl (fun _ => 0))), (q31, .inl (cI, 16, .inl (fun _ => 0))), (q38, .inl (cI, 2, .inl (fun _ => 0))), (q46, .inl (cI, 64, .inl (fun _ => 0))), (q54, .inl (cI, 64, .inl (fun _ => 0)))] H := hP
  have hD : va_D A [(h0, .inr (6, [.ref q7, .ref q15, .ref q23, .ref q31, .ref q38, .ref q46, .null, .int 0, .null, .null, .int 0, .int 0, .int 0, .int 0, .int 0, .int 0, .int 0, .int 0, .int 0, .int 0, .null, .null])), (q7, .inl (cI, 16, .inl (fun _ => 0))), (q15, .inl (cI, 16, .inl (fun _ => 0))), (q23, .inl (cI, 16, .inl (fun _ => 0))), (q31, .inl (cI, 16, .inl (fun _ => 0))), (q38, .inl (cI, 2, .inl (fun _ => 0))), (q46, .inl (cI, 64, .inl (fun _ => 0))), (q54, .inl (cI, 64, .inl (fun _ => 0)))] := hD
  refine W.widen (k := 7) (n := 194) (by omega) (by omega) ?_
  refine va_putF (D := D) (ci := 6) (v := .ref q54) (ty := .array .int) (C := RX6) (T := TX6) (N := 22) hx hb hts hinX6 tyX6 tyX6_ok nmX6 hown hK hP hD hS 0 rfl rfl 6 (by decide) (hts _ wd_525) (fun _ h9 => h9) rfl hin rfl (by decide +kernel) rfl rfl (Nat.le_of_ble_eq_true rfl) dX6_init_56 (fun H locs hP hD hS => ?_)
  have hP : va_P D vwCl [(h0, .inr (6, [.ref q7, .ref q15, .ref q23, .ref q31, .ref q38, .ref q46, .ref q54, .int 0, .null, .null, .int 0, .int 0, .int 0, .int 0, .int 0, .int 0, .int 0, .int 0, .int 0, .int 0, .null, .null])), (q7, .inl (cI, 16, .inl (fun _ => 0))), (q15, .inl (cI, 16, .inl (fun _ => 0))), (q23, .inl (cI, 16, .inl (fun _ => 0))), (q31, .inl (cI, 16, .inl (fun _ => 0))), (q38, .inl (cI, 2, .inl (fun _ => 0))), (q46, .inl (cI, 64, .inl (fun _ => 0))), (q54, .inl (cI, 64, .inl (fun _ => 0)))] H := hP
  have hD : va_D A [(h0, .inr (6, [.ref q7, .ref q15, .ref q23, .ref q31, .ref q38, .ref q46, .ref q54, .int 0, .null, .null, .int 0, .int 0, .int 0, .int 0, .int 0, .int 0, .int 0, .int 0, .int 0, .int 0, .null, .null])), (q7, .inl (cI, 16, .inl (fun _ => 0))), (q15, .inl (cI, 16, .inl (fun _ => 0))), (q23, .inl (cI, 16, .inl (fun _ => 0))), (q31, .inl (cI, 16, .inl (fun _ => 0))), (q38, .inl (cI, 2, .inl (fun _ => 0))), (q46, .inl (cI, 64, .inl (fun _ => 0))), (q54, .inl (cI, 64, .inl (fun _ => 0)))] := hD
  refine lv_aload_n hx hb dX6_init_59 rfl (lv_at hl 0 rfl) ?_
  refine lv_bipush (v := (64 : Int32)) hx hb dX6_init_60 (by decide) ?_
  refine rs_newI (N := 64) hx hb (hts _ wd_108) hK hP hD hS hA (by decide) (by decide +kernel) (Nat.le_of_ble_eq_true rfl) (Nat.le_of_ble_eq_true rfl) (Nat.le_of_ble_eq_true rfl) dX6_init_62 (fun q62 H hP hD hS => ?_)
  have hP : va_P D vwCl [(h0, .inr (6, [.ref q7, .ref q15, .ref q23, .ref q31, .ref q38, .ref q46, .ref q54, .int 0, .null, .null, .int 0, .int 0, .int 0, .int 0, .int 0, .int 0, .int 0, .int 0, .int 0, .int 0, .null, .null])), (q7, .inl (cI, 16, .inl (fun _ => 0))), (q15, .inl (cI, 16, .inl (fun _ => 0))), (q23, .inl (cI, 16, .inl (fun _ => 0))), (q31, .inl (cI, 16, .inl (fun _ => 0))), (q38, .inl (cI, 2, .inl (fun _ => 0))), (q46, .inl (cI, 64, .inl (fun _ => 0))), (q54, .inl (cI, 64, .inl (fun _ => 0))), (q62, .inl (cI, 64, .inl (fun _ => 0)))] H := hP
  have hD : va_D A [(h0, .inr (6, [.ref q7, .ref q15, .ref q23, .ref q31, .ref q38, .ref q46, .ref q54, .int 0, .null, .null, .int 0, .int 0, .int 0, .int 0, .int 0, .int 0, .int 0, .int 0, .int 0, .int 0, .null, .null])), (q7, .inl (cI, 16, .inl (fun _ => 0))), (q15, .inl (cI, 16, .inl (fun _ => 0))), (q23, .inl (cI, 16, .inl (fun _ => 0))), (q31, .inl (cI, 16, .inl (fun _ => 0))), (q38, .inl (cI, 2, .inl (fun _ => 0))), (q46, .inl (cI, 64, .inl (fun _ => 0))), (q54, .inl (cI, 64, .inl (fun _ => 0))), (q62, .inl (cI, 64, .inl (fun _ => 0)))] := hD
  refine W.widen (k := 8) (n := 258) (by omega) (by omega) ?_
  refine va_putF (D := D) (ci := 6) (v := .ref q62) (ty := .array .int) (C := RX6) (T := TX6) (N := 22) hx hb hts hinX6 tyX6 tyX6_ok nmX6 hown hK hP hD hS 0 rfl rfl 8 (by decide) (hts _ wd_527) (fun _ h9 => h9) rfl hin rfl (by decide +kernel) rfl rfl (Nat.le_of_ble_eq_true rfl) dX6_init_64 (fun H locs hP hD hS => ?_)
  have hP : va_P D vwCl [(h0, .inr (6, [.ref q7, .ref q15, .ref q23, .ref q31, .ref q38, .ref q46, .ref q54, .int 0, .ref q62, .null, .int 0, .int 0, .int 0, .int 0, .int 0, .int 0, .int 0, .int 0, .int 0, .int 0, .null, .null])), (q7, .inl (cI, 16, .inl (fun _ => 0))), (q15, .inl (cI, 16, .inl (fun _ => 0))), (q23, .inl (cI, 16, .inl (fun _ => 0))), (q31, .inl (cI, 16, .inl (fun _ => 0))), (q38, .inl (cI, 2, .inl (fun _ => 0))), (q46, .inl (cI, 64, .inl (fun _ => 0))), (q54, .inl (cI, 64, .inl (fun _ => 0))), (q62, .inl (cI, 64, .inl (fun _ => 0)))] H := hP
  have hD : va_D A [(h0, .inr (6, [.ref q7, .ref q15, .ref q23, .ref q31, .ref q38, .ref q46, .ref q54, .int 0, .ref q62, .null, .int 0, .int 0, .int 0, .int 0, .int 0, .int 0, .int 0, .int 0, .int 0, .int 0, .null, .null])), (q7, .inl (cI, 16, .inl (fun _ => 0))), (q15, .inl (cI, 16, .inl (fun _ => 0))), (q23, .inl (cI, 16, .inl (fun _ => 0))), (q31, .inl (cI, 16, .inl (fun _ => 0))), (q38, .inl (cI, 2, .inl (fun _ => 0))), (q46, .inl (cI, 64, .inl (fun _ => 0))), (q54, .inl (cI, 64, .inl (fun _ => 0))), (q62, .inl (cI, 64, .inl (fun _ => 0)))] := hD
  refine lv_aload_n hx hb dX6_init_67 rfl (lv_at hl 0 rfl) ?_
  refine lv_bipush (v := (64 : Int32)) hx hb dX6_init_68 (by decide) ?_
  refine rs_newI (N := 64) hx hb (hts _ wd_108) hK hP hD hS hA (by decide) (by decide +kernel) (Nat.le_of_ble_eq_true rfl) (Nat.le_of_ble_eq_true rfl) (Nat.le_of_ble_eq_true rfl) dX6_init_70 (fun q70 H hP hD hS => ?_)
  have hP : va_P D vwCl [(h0, .inr (6, [.ref q7, .ref q15, .ref q23, .ref q31, .ref q38, .ref q46, .ref q54, .int 0, .ref q62, .null, .int 0, .int 0, .int 0, .int 0, .int 0, .int 0, .int 0, .int 0, .int 0, .int 0, .null, .null])), (q7, .inl (cI, 16, .inl (fun _ => 0))), (q15, .inl (cI, 16, .inl (fun _ => 0))), (q23, .inl (cI, 16, .inl (fun _ => 0))), (q31, .inl (cI, 16, .inl (fun _ => 0))), (q38, .inl (cI, 2, .inl (fun _ => 0))), (q46, .inl (cI, 64, .inl (fun _ => 0))), (q54, .inl (cI, 64, .inl (fun _ => 0))), (q62, .inl (cI, 64, .inl (fun _ => 0))), (q70, .inl (cI, 64, .inl (fun _ => 0)))] H := hP
  have hD : va_D A [(h0, .inr (6, [.ref q7, .ref q15, .ref q23, .ref q31, .ref q38, .ref q46, .ref q54, .int 0, .ref q62, .null, .int 0, .int 0, .int 0, .int 0, .int 0, .int 0, .int 0, .int 0, .int 0, .int 0, .null, .null])), (q7, .inl (cI, 16, .inl (fun _ => 0))), (q15, .inl (cI, 16, .inl (fun _ => 0))), (q23, .inl (cI, 16, .inl (fun _ => 0))), (q31, .inl (cI, 16, .inl (fun _ => 0))), (q38, .inl (cI, 2, .inl (fun _ => 0))), (q46, .inl (cI, 64, .inl (fun _ => 0))), (q54, .inl (cI, 64, .inl (fun _ => 0))), (q62, .inl (cI, 64, .inl (fun _ => 0))), (q70, .inl (cI, 64, .inl (fun _ => 0)))] := hD
  refine W.widen (k := 9) (n := 322) (by omega) (by omega) ?_
  refine va_putF (D := D) (ci := 6) (v := .ref q70) (ty := .array .int) (C := RX6) (T := TX6) (N := 22) hx hb hts hinX6 tyX6 tyX6_ok nmX6 hown hK hP hD hS 0 rfl rfl 9 (by decide) (hts _ wd_528) (fun _ h9 => h9) rfl hin rfl (by decide +kernel) rfl rfl (Nat.le_of_ble_eq_true rfl) dX6_init_72 (fun H locs hP hD hS => ?_)
  have hP : va_P D vwCl [(h0, .inr (6, [.ref q7, .ref q15, .ref q23, .ref q31, .ref q38, .ref q46, .ref q54, .int 0, .ref q62, .ref q70, .int 0, .int 0, .int 0, .int 0, .int 0, .int 0, .int 0, .int 0, .int 0, .int 0, .null, .null])), (q7, .inl (cI, 16, .inl (fun _ => 0))), (q15, .inl (cI, 16, .inl (fun _ => 0))), (q23, .inl (cI, 16, .inl (fun _ => 0))), (q31, .inl (cI, 16, .inl (fun _ => 0))), (q38, .inl (cI, 2, .inl (fun _ => 0))), (q46, .inl (cI, 64, .inl (fun _ => 0))), (q54, .inl (cI, 64, .inl (fun _ => 0))), (q62, .inl (cI, 64, .inl (fun _ => 0))), (q70, .inl (cI, 64, .inl (fun _ => 0)))] H := hP
  have hD : va_D A [(h0, .inr (6, [.ref q7, .ref q15, .ref q23, .ref q31, .ref q38, .ref q46, .ref q54, .int 0, .ref q62, .ref q70, .int 0, .int 0, .int 0, .int 0, .int 0, .int 0, .int 0, .int 0, .int 0, .int 0, .null, .null])), (q7, .inl (cI, 16, .inl (fun _ => 0))), (q15, .inl (cI, 16, .inl (fun _ => 0))), (q23, .inl (cI, 16, .inl (fun _ => 0))), (q31, .inl (cI, 16, .inl (fun _ => 0))), (q38, .inl (cI, 2, .inl (fun _ => 0))), (q46, .inl (cI, 64, .inl (fun _ => 0))), (q54, .inl (cI, 64, .inl (fun _ => 0))), (q62, .inl (cI, 64, .inl (fun _ => 0))), (q70, .inl (cI, 64, .inl (fun _ => 0)))] := hD
  refine lv_aload_n hx hb dX6_init_75 rfl (lv_at hl 0 rfl) ?_
  refine lv_bipush (v := (14 : Int32)) hx hb dX6_init_76 (by decide) ?_
  refine rs_newJ (N := 14) hx hb (hts _ wd_181) hK hP hD hS hA (by decide) (by decide +kernel) (Nat.le_of_ble_eq_true rfl) (Nat.le_of_ble_eq_true rfl) (Nat.le_of_ble_eq_true rfl) dX6_init_78 (fun q78 H hP hD hS => ?_)
  have hP : va_P D vwCl [(h0, .inr (6, [.ref q7, .ref q15, .ref q23, .ref q31, .ref q38, .ref q46, .ref q54, .int 0, .ref q62, .ref q70, .int 0, .int 0, .int 0, .int 0, .int 0, .int 0, .int 0, .int 0, .int 0, .int 0, .null, .null])), (q7, .inl (cI, 16, .inl (fun _ => 0))), (q15, .inl (cI, 16, .inl (fun _ => 0))), (q23, .inl (cI, 16, .inl (fun _ => 0))), (q31, .inl (cI, 16, .inl (fun _ => 0))), (q38, .inl (cI, 2, .inl (fun _ => 0))), (q46, .inl (cI, 64, .inl (fun _ => 0))), (q54, .inl (cI, 64, .inl (fun _ => 0))), (q62, .inl (cI, 64, .inl (fun _ => 0))), (q70, .inl (cI, 64, .inl (fun _ => 0))), (q78, .inl (cJ, 14, .inr (.inl (fun _ => 0))))] H := hP
  have hD : va_D A [(h0, .inr (6, [.ref q7, .ref q15, .ref q23, .ref q31, .ref q38, .ref q46, .ref q54, .int 0, .ref q62, .ref q70, .int 0, .int 0, .int 0, .int 0, .int 0, .int 0, .int 0, .int 0, .int 0, .int 0, .null, .null])), (q7, .inl (cI, 16, .inl (fun _ => 0))), (q15, .inl (cI, 16, .inl (fun _ => 0))), (q23, .inl (cI, 16, .inl (fun _ => 0))), (q31, .inl (cI, 16, .inl (fun _ => 0))), (q38, .inl (cI, 2, .inl (fun _ => 0))), (q46, .inl (cI, 64, .inl (fun _ => 0))), (q54, .inl (cI, 64, .inl (fun _ => 0))), (q62, .inl (cI, 64, .inl (fun _ => 0))), (q70, .inl (cI, 64, .inl (fun _ => 0))), (q78, .inl (cJ, 14, .inr (.inl (fun _ => 0))))] := hD
  refine W.widen (k := 10) (n := 336) (by omega) (by omega) ?_
  refine va_putF (D := D) (ci := 6) (v := .ref q78) (ty := .array .long) (C := RX6) (T := TX6) (N := 22) hx hb hts hinX6 tyX6 tyX6_ok nmX6 hown hK hP hD hS 0 rfl rfl 20 (by decide) (hts _ wd_539) (fun _ h9 => h9) rfl hin rfl (by decide +kernel) rfl rfl (Nat.le_of_ble_eq_true rfl) dX6_init_80 (fun H locs hP hD hS => ?_)
  have hP : va_P D vwCl [(h0, .inr (6, [.ref q7, .ref q15, .ref q23, .ref q31, .ref q38, .ref q46, .ref q54, .int 0, .ref q62, .ref q70, .int 0, .int 0, .int 0, .int 0, .int 0, .int 0, .int 0, .int 0, .int 0, .int 0, .ref q78, .null])), (q7, .inl (cI, 16, .inl (fun _ => 0))), (q15, .inl (cI, 16, .inl (fun _ => 0))), (q23, .inl (cI, 16, .inl (fun _ => 0))), (q31, .inl (cI, 16, .inl (fun _ => 0))), (q38, .inl (cI, 2, .inl (fun _ => 0))), (q46, .inl (cI, 64, .inl (fun _ => 0))), (q54, .inl (cI, 64, .inl (fun _ => 0))), (q62, .inl (cI, 64, .inl (fun _ => 0))), (q70, .inl (cI, 64, .inl (fun _ => 0))), (q78, .inl (cJ, 14, .inr (.inl (fun _ => 0))))] H := hP
  have hD : va_D A [(h0, .inr (6, [.ref q7, .ref q15, .ref q23, .ref q31, .ref q38, .ref q46, .ref q54, .int 0, .ref q62, .ref q70, .int 0, .int 0, .int 0, .int 0, .int 0, .int 0, .int 0, .int 0, .int 0, .int 0, .ref q78, .null])), (q7, .inl (cI, 16, .inl (fun _ => 0))), (q15, .inl (cI, 16, .inl (fun _ => 0))), (q23, .inl (cI, 16, .inl (fun _ => 0))), (q31, .inl (cI, 16, .inl (fun _ => 0))), (q38, .inl (cI, 2, .inl (fun _ => 0))), (q46, .inl (cI, 64, .inl (fun _ => 0))), (q54, .inl (cI, 64, .inl (fun _ => 0))), (q62, .inl (cI, 64, .inl (fun _ => 0))), (q70, .inl (cI, 64, .inl (fun _ => 0))), (q78, .inl (cJ, 14, .inr (.inl (fun _ => 0))))] := hD
  refine lv_aload_n hx hb dX6_init_83 rfl (lv_at hl 0 rfl) ?_
  refine lv_iconst (v := (2 : Int32)) hx hb dX6_init_84 (by decide) ?_
  refine rs_newI (N := 2) hx hb (hts _ wd_108) hK hP hD hS hA (by decide) (by decide +kernel) (Nat.le_of_ble_eq_true rfl) (Nat.le_of_ble_eq_true rfl) (Nat.le_of_ble_eq_true rfl) dX6_init_85 (fun q85 H hP hD hS => ?_)
  have hP : va_P D vwCl [(h0, .inr (6, [.ref q7, .ref q15, .ref q23, .ref q31, .ref q38, .ref q46, .ref q54, .int 0, .ref q62, .ref q70, .int 0, .int 0, .int 0, .int 0, .int 0, .int 0, .int 0, .int 0, .int 0, .int 0, .ref q78, .null])), (q7, .inl (cI, 16, .inl (fun _ => 0))), (q15, .inl (cI, 16, .inl (fun _ => 0))), (q23, .inl (cI, 16, .inl (fun _ => 0))), (q31, .inl (cI, 16, .inl (fun _ => 0))), (q38, .inl (cI, 2, .inl (fun _ => 0))), (q46, .inl (cI, 64, .inl (fun _ => 0))), (q54, .inl (cI, 64, .inl (fun _ => 0))), (q62, .inl (cI, 64, .inl (fun _ => 0))), (q70, .inl (cI, 64, .inl (fun _ => 0))), (q78, .inl (cJ, 14, .inr (.inl (fun _ => 0)))), (q85, .inl (cI, 2, .inl (fun _ => 0)))] H := hP
  have hD : va_D A [(h0, .inr (6, [.ref q7, .ref q15, .ref q23, .ref q31, .ref q38, .ref q46, .ref q54, .int 0, .ref q62, .ref q70, .int 0, .int 0, .int 0, .int 0, .int 0, .int 0, .int 0, .int 0, .int 0, .int 0, .ref q78, .null])), (q7, .inl (cI, 16, .inl (fun _ => 0))), (q15, .inl (cI, 16, .inl (fun _ => 0))), (q23, .inl (cI, 16, .inl (fun _ => 0))), (q31, .inl (cI, 16, .inl (fun _ => 0))), (q38, .inl (cI, 2, .inl (fun _ => 0))), (q46, .inl (cI, 64, .inl (fun _ => 0))), (q54, .inl (cI, 64, .inl (fun _ => 0))), (q62, .inl (cI, 64, .inl (fun _ => 0))), (q70, .inl (cI, 64, .inl (fun _ => 0))), (q78, .inl (cJ, 14, .inr (.inl (fun _ => 0)))), (q85, .inl (cI, 2, .inl (fun _ => 0)))] := hD
  refine W.widen (k := 11) (n := 338) (by omega) (by omega) ?_
  refine va_putF (D := D) (ci := 6) (v := .ref q85) (ty := .array .int) (C := RX6) (T := TX6) (N := 22) hx hb hts hinX6 tyX6 tyX6_ok nmX6 hown hK hP hD hS 0 rfl rfl 21 (by decide) (hts _ wd_540) (fun _ h9 => h9) rfl hin rfl (by decide +kernel) rfl rfl (Nat.le_of_ble_eq_true rfl) dX6_init_87 (fun H locs hP hD hS => ?_)
  have hP : va_P D vwCl [(h0, .inr (6, [.ref q7, .ref q15, .ref q23, .ref q31, .ref q38, .ref q46, .ref q54, .int 0, .ref q62, .ref q70, .int 0, .int 0, .int 0, .int 0, .int 0, .int 0, .int 0, .int 0, .int 0, .int 0, .ref q78, .ref q85])), (q7, .inl (cI, 16, .inl (fun _ => 0))), (q15, .inl (cI, 16, .inl (fun _ => 0))), (q23, .inl (cI, 16, .inl (fun _ => 0))), (q31, .inl (cI, 16, .inl (fun _ => 0))), (q38, .inl (cI, 2, .inl (fun _ => 0))), (q46, .inl (cI, 64, .inl (fun _ => 0))), (q54, .inl (cI, 64, .inl (fun _ => 0))), (q62, .inl (cI, 64, .inl (fun _ => 0))), (q70, .inl (cI, 64, .inl (fun _ => 0))), (q78, .inl (cJ, 14, .inr (.inl (fun _ => 0)))), (q85, .inl (cI, 2, .inl (fun _ => 0)))] H := hP
  have hD : va_D A [(h0, .inr (6, [.ref q7, .ref q15, .ref q23, .ref q31, .ref q38, .ref q46, .ref q54, .int 0, .ref q62, .ref q70, .int 0, .int 0, .int 0, .int 0, .int 0, .int 0, .int 0, .int 0, .int 0, .int 0, .ref q78, .ref q85])), (q7, .inl (cI, 16, .inl (fun _ => 0))), (q15, .inl (cI, 16, .inl (fun _ => 0))), (q23, .inl (cI, 16, .inl (fun _ => 0))), (q31, .inl (cI, 16, .inl (fun _ => 0))), (q38, .inl (cI, 2, .inl (fun _ => 0))), (q46, .inl (cI, 64, .inl (fun _ => 0))), (q54, .inl (cI, 64, .inl (fun _ => 0))), (q62, .inl (cI, 64, .inl (fun _ => 0))), (q70, .inl (cI, 64, .inl (fun _ => 0))), (q78, .inl (cJ, 14, .inr (.inl (fun _ => 0)))), (q85, .inl (cI, 2, .inl (fun _ => 0)))] := hD
  have hP9 := hP.sub (ws' := [(h0, .inr (6, [.ref q7, .ref q15, .ref q23, .ref q31, .ref q38, .ref q46, .ref q54, .int 0, .ref q62, .ref q70, .int 0, .int 0, .int 0, .int 0, .int 0, .int 0, .int 0, .int 0, .int 0, .int 0, .ref q78, .ref q85])), (q7, .inl (cI, 16, .inl (fun _ => 0))), (q15, .inl (cI, 16, .inl (fun _ => 0))), (q23, .inl (cI, 16, .inl (fun _ => 0))), (q31, .inl (cI, 16, .inl (fun _ => 0))), (q38, .inl (cI, 2, .inl (fun _ => 0))), (q46, .inl (cI, 64, .inl (fun _ => 0))), (q54, .inl (cI, 64, .inl (fun _ => 0))), (q62, .inl (cI, 64, .inl (fun _ => 0))), (q70, .inl (cI, 64, .inl (fun _ => 0))), (q78, .inl (cJ, 14, .inr (.inl (fun _ => 0)))), (q85, .inl (cI, 2, .inl (fun _ => 0)))]) [0, 1, 2, 3, 4, 5, 6, 7, 8, 9, 10, 11] rfl
  have hD9 := hD.sub (ws' := [(h0, .inr (6, [.ref q7, .ref q15, .ref q23, .ref q31, .ref q38, .ref q46, .ref q54, .int 0, .ref q62, .ref q70, .int 0, .int 0, .int 0, .int 0, .int 0, .int 0, .int 0, .int 0, .int 0, .int 0, .ref q78, .ref q85])), (q7, .inl (cI, 16, .inl (fun _ => 0))), (q15, .inl (cI, 16, .inl (fun _ => 0))), (q23, .inl (cI, 16, .inl (fun _ => 0))), (q31, .inl (cI, 16, .inl (fun _ => 0))), (q38, .inl (cI, 2, .inl (fun _ => 0))), (q46, .inl (cI, 64, .inl (fun _ => 0))), (q54, .inl (cI, 64, .inl (fun _ => 0))), (q62, .inl (cI, 64, .inl (fun _ => 0))), (q70, .inl (cI, 64, .inl (fun _ => 0))), (q78, .inl (cJ, 14, .inr (.inl (fun _ => 0)))), (q85, .inl (cI, 2, .inl (fun _ => 0)))]) [0, 1, 2, 3, 4, 5, 6, 7, 8, 9, 10, 11] (by decide) rfl
  exact W.vret hx hb hr (fun t ht hW => ⟨⟨(fun k => ([h0, q7, q15, q23, q31, q38, q46, q54, q62, q70, q78, q85] : List Nat).getD k 0), rfl, trivial, by show va_P D vwCl [(h0, .inr (6, [.ref q7, .ref q15, .ref q23, .ref q31, .ref q38, .ref q46, .ref q54, .int 0, .ref q62, .ref q70, .int 0, .int 0, .int 0, .int 0, .int 0, .int 0, .int 0, .int 0, .int 0, .int 0, .ref q78, .ref q85])), (q7, .inl (cI, 16, .inl (fun _ => 0))), (q15, .inl (cI, 16, .inl (fun _ => 0))), (q23, .inl (cI, 16, .inl (fun _ => 0))), (q31, .inl (cI, 16, .inl (fun _ => 0))), (q38, .inl (cI, 2, .inl (fun _ => 0))), (q46, .inl (cI, 64, .inl (fun _ => 0))), (q54, .inl (cI, 64, .inl (fun _ => 0))), (q62, .inl (cI, 64, .inl (fun _ => 0))), (q70, .inl (cI, 64, .inl (fun _ => 0))), (q78, .inl (cJ, 14, .inr (.inl (fun _ => 0)))), (q85, .inl (cI, 2, .inl (fun _ => 0)))] t.heap; rw [ht]; exact hP9, hD9⟩, hS.F ht⟩) hS.2.2 dX6_init_90

/-! memory as the proof sees it: whole numbers by cell and place; what can fall is an Option -/
abbrev Mem : Type := (Nat → Nat → Int32) × (Nat → Nat → Int64)
def setI (M : Mem) (c k : Nat) (v : Int32) : Mem := (fun c' => if c' = c then upd (M.1 c') k v else M.1 c', M.2)
def setL (M : Mem) (c k : Nat) (v : Int64) : Mem := (M.1, fun c' => if c' = c then vp_updL (M.2 c') k v else M.2 c')
def ldI (M : Mem) (c n : Nat) (i : Int32) : Option Int32 := if i < 0 ∨ n ≤ i.toNatClampNeg then none else some (M.1 c i.toNatClampNeg)
def ldL (M : Mem) (c n : Nat) (i : Int32) : Option Int64 := if i < 0 ∨ n ≤ i.toNatClampNeg then none else some (M.2 c i.toNatClampNeg)
def stI (M : Mem) (c n : Nat) (i v : Int32) : Option Mem := if i < 0 ∨ n ≤ i.toNatClampNeg then none else some (setI M c i.toNatClampNeg v)
def stL (M : Mem) (c n : Nat) (i : Int32) (v : Int64) : Option Mem := if i < 0 ∨ n ≤ i.toNatClampNeg then none else some (setL M c i.toNatClampNeg v)
def stZ (M : Mem) (c k : Nat) (v : Int32) : Option Mem := if v = 0 ∨ v = 1 then some (setI M c k v) else none
def dvI (x y : Int32) : Option Int32 := if y = 0 then none else some (x / y)
def rmI (x y : Int32) : Option Int32 := if y = 0 then none else some (x - x / y * y)
def dvL (x y : Int64) : Option Int64 := if y = 0 then none else some (x / y)
def rmL (x y : Int64) : Option Int64 := if y = 0 then none else some (x - x / y * y)
def okZ (v : Int32) : Option Int32 := if v = 0 ∨ v = 1 then some v else none
def okZM (v : Int32) (M : Mem) : Option (Int32 × Mem) := if v = 0 ∨ v = 1 then some (v, M) else none
def lp {K : Type} (bot : K) (step : K → K) : Nat → K
  | 0 => bot
  | n + 1 => step (lp bot step n)
def prP (k : Nat) : Int64 := if k = 0 then 1000000007 else if k = 1 then 1000000009 else 998244353
def prR (k : Nat) : Int32 := if k = 0 then 2 else if k = 1 then 3 else if k = 2 then 5 else if k = 3 then 7 else if k = 4 then 11 else if k = 5 then 13 else if k = 6 then 17 else if k = 7 then 19 else if k = 8 then 23 else if k = 9 then 29 else 31
def ldP (i : Int32) : Option Int64 := if i < 0 ∨ 3 ≤ i.toNatClampNeg then none else some (prP i.toNatClampNeg)
def ldR (i : Int32) : Option Int32 := if i < 0 ∨ 11 ≤ i.toNatClampNeg then none else some (prR i.toNatClampNeg)
theorem rs_bind {α β : Type} {x : Option α} {k : α → Option β} {o : β} (h : x.bind k = some o) : ∃ v, x = some v ∧ k v = some o := by
  cases x with
  | none => cases h
  | some v => exact ⟨v, rfl, h⟩
/-! the words that every method takes along -/
def gwT : List Cond := lw_tbl.filter goodWord
theorem rs_gw {w : Cond} (i : Nat) (h : lw_tbl[i]? = some w) (hg : goodWord w = true) : w ∈ gwT := List.mem_filter.mpr ⟨List.mem_of_getElem? h, hg⟩
theorem rs_good {y : MethodName} {b : ByteArray} {n : Nat} {r : Option FieldType} (h : Cond.code y b n r ∈ gwT) : GoodIn gwT (Cond.code y b n r :: gwT) := by
  intro w hw
  have h1 : w ∈ gwT := by
    rcases List.mem_cons.mp hw with e | e
    · rw [e]; exact h
    · exact e
  exact ⟨h1, good_of_word (List.mem_filter.mp h1).2⟩
def nestL : List (String × Nat × MethodName × String) := [("RootShapes", 9, ⟨"RootShapes$Equation", "<init>", "()V"⟩, "RootShapes"), ("RootShapes", 21, ⟨"RootShapes$Figure", "<init>", "()V"⟩, "RootShapes"), ("RootShapes", 28, ⟨"RootShapes$Subdivision", "<init>", "()V"⟩, "RootShapes"), ("RootShapes", 35, ⟨"RootShapes$Fronts", "<init>", "()V"⟩, "RootShapes"), ("RootShapes", 42, ⟨"RootShapes$Solutions", "<init>", "()V"⟩, "RootShapes"), ("RootShapes$Equation", 28, ⟨"RootShapes", "within", "(III)Z"⟩, "RootShapes"), ("RootShapes$Figure", 53, ⟨"RootShapes", "commonPart", "(II)I"⟩, "RootShapes"), ("RootShapes$Subdivision", 48, ⟨"RootShapes", "across", "(LRootShapes$Equation;IILRootShapes$Equation;II)I"⟩, "RootShapes"), ("RootShapes$Fronts", 38, ⟨"RootShapes", "commonPart", "(II)I"⟩, "RootShapes"), ("RootShapes$Fronts", 62, ⟨"RootShapes", "within", "(III)Z"⟩, "RootShapes"), ("RootShapes$Solutions", 25, ⟨"RootShapes", "within", "(III)Z"⟩, "RootShapes")]
def fP (k : Nat) : Value := .long (prP k)
def fR (k : Nat) : Value := .int (prR k)
def qK (D : va_G) (cI cJ : ClassId) (tP tR : Nat) (A : Nat → Prop) (ws : Mem → va_W) (U : State) : Prop :=
  va_K D vwCl [(cI, .int), (cJ, .long)] U ∧ (∀ q ∈ nestL, va_Nw (.methodLinkNest q.1 q.2.1 q.2.2.1 q.2.2.2) U) ∧
  (va_Z "RootShapes$Fronts" "PRIMES" "[J" (.ref tP) A U U.heap ∧ va_T .long tP 3 fP A U U.heap) ∧
  (va_Z "RootShapes" "ROUND_PRIMES" "[I" (.ref tR) A U U.heap ∧ va_T .int tR 11 fR A U U.heap) ∧ ∀ M : Mem, va_D A (ws M)
theorem qK.calling {D : va_G} {cI cJ : ClassId} {tP tR : Nat} {A : Nat → Prop} {ws : Mem → va_W} {U : State} (h : qK D cI cJ tP tR A ws U) (g : JFrame) (mk : MethodId) (a : Array Value) : qK D cI cJ tP tR A ws (U.calling g mk a) := by
  obtain ⟨h1, h2, ⟨h3, h4⟩, ⟨h5, h6⟩, h7⟩ := h
  exact ⟨va_K.moved (u := U) (U := U.calling g mk a) (Vm.Alike.refl U.vm) h1, fun q hq => va_Nw.same (u := U) (U := U.calling g mk a) rfl rfl (h2 q hq),
    ⟨va_Z.moved (u := U) (U := U.calling g mk a) (Vm.Alike.refl U.vm) h3, va_T.moved (u := U) (U := U.calling g mk a) (Vm.Alike.refl U.vm) h4⟩,
    ⟨va_Z.moved (u := U) (U := U.calling g mk a) (Vm.Alike.refl U.vm) h5, va_T.moved (u := U) (U := U.calling g mk a) (Vm.Alike.refl U.vm) h6⟩, h7⟩
theorem qK.next {D : va_G} {cI cJ : ClassId} {tP tR : Nat} {A : Nat → Prop} {ws : Mem → va_W} {s U : State} {H : Heap} {locs : List Loc} (h : qK D cI cJ tP tR A ws s) (hS : va_S A s.heap H locs) (hU : U.heap = H) (hW : s.WarmedH U.vm) : qK D cI cJ tP tR A ws U := by
  obtain ⟨h1, h2, ⟨h3, h4⟩, ⟨h5, h6⟩, h7⟩ := h
  subst hU
  exact ⟨va_K.moved hW.alike h1, fun q hq => va_Nw.warmM hW (h2 q hq), ⟨(va_Z.moved hW.alike h3).kept hS.2.1, (va_T.moved hW.alike h4).kept hS.2.1⟩, ⟨(va_Z.moved hW.alike h5).kept hS.2.1, (va_T.moved hW.alike h6).kept hS.2.1⟩, h7⟩
def qC (p : Program) (s : State) (m : MethodId) (args : Array Value) (c : Code) (D : va_G) (cI cJ : ClassId) (tP tR : Nat) (A : Nat → Prop) (ws : Mem → va_W) (cc : ByteArray) (nL : Nat) (own : String) : Prop :=
  p.tables.exec = Jvm.exec ∧ c.code = cc ∧ c.maxLocals = nL ∧ s.vm.findClass own = some m.cls ∧ (∀ w ∈ gwT, w.before args s = true) ∧ qK D cI cJ tP tR A ws s
def qIA (ws : Mem → va_W) (ad : Nat → Nat) (cI : ClassId) (cl n : Nat) : Prop := ∀ M : Mem, (ws M)[cl]? = some (ad cl, .inl (cI, n, .inl (M.1 cl))) ∧ ∀ (k : Nat) (v : Int32), (ws M).set cl (ad cl, .inl (cI, n, .inl (upd (M.1 cl) k v))) = ws (setI M cl k v)
def qLA (ws : Mem → va_W) (ad : Nat → Nat) (cJ : ClassId) (cl n : Nat) : Prop := ∀ M : Mem, (ws M)[cl]? = some (ad cl, .inl (cJ, n, .inr (.inl (M.2 cl)))) ∧ ∀ (k : Nat) (v : Int64), (ws M).set cl (ad cl, .inl (cJ, n, .inr (.inl (vp_updL (M.2 cl) k v)))) = ws (setL M cl k v)
abbrev qMet (l : Launch) (D : va_G) (cI cJ : ClassId) (tP tR : Nat) (A : Nat → Prop) (ws : Mem → va_W) (y : MethodName) (cy : ByteArray) (ly : Nat) (ry : Option FieldType) (rm : Room) (vs : List Value) (M : Mem) (Qc : Array Value → State → Outcome → State → Prop) : Prop :=
  Met l y (Cond.code y cy ly ry :: gwT) rm (va_Pc vs (fun U => qK D cI cJ tP tR A ws U ∧ va_P D vwCl (ws M) U.heap)) Qc 0 0 A
abbrev qQi (D : va_G) (A : Nat → Prop) (ws : Mem → va_W) (r : Int32) (M : Mem) : Array Value → State → Outcome → State → Prop := va_Qi (fun (r' : Int32) (_ : Unit) => r' = r) (fun _ t => va_P D vwCl (ws M) t.heap) A
abbrev qQl (D : va_G) (A : Nat → Prop) (ws : Mem → va_W) (r : Int64) (M : Mem) : Array Value → State → Outcome → State → Prop := va_Ql (fun (r' : Int64) (_ : Unit) => r' = r) (fun _ t => va_P D vwCl (ws M) t.heap) A
abbrev qQv (D : va_G) (A : Nat → Prop) (ws : Mem → va_W) (M : Mem) : Array Value → State → Outcome → State → Prop := va_Qv (fun (_ : Unit) => True) (fun _ t => va_P D vwCl (ws M) t.heap) A
abbrev qQr (D : va_G) (A : Nat → Prop) (ws : Mem → va_W) (r : Option Nat) (M : Mem) : Array Value → State → Outcome → State → Prop := va_Qq (fun (r' : Option Nat) (_ : Unit) => r' = r) (fun _ t => va_P D vwCl (ws M) t.heap) A
/-- a method of ours that can be called on an object: its words -/
def qMV (y : MethodName) (cy : ByteArray) (ly : Nat) (ry : Option FieldType) (n : Nat) : Prop :=
  Cond.code y cy ly ry ∈ gwT ∧ Cond.instanceMethod y ∈ gwT ∧ Cond.selects y.cls y y ∈ gwT ∧ Cond.initialized y.cls ∈ gwT ∧ (y.cls ≠ "java/lang/invoke/MethodHandle" ∧ y.cls ≠ "java/lang/invoke/VarHandle" ∧ (parseMethodDescriptor y.desc).map (fun d => d.parameters.length) = some n)
def qMS (y : MethodName) (cy : ByteArray) (ly : Nat) (ry : Option FieldType) (n : Nat) : Prop :=
  Cond.code y cy ly ry ∈ gwT ∧ Cond.static y ∈ gwT ∧ Cond.initialized y.cls ∈ gwT ∧ (y.cls ≠ "java/lang/invoke/MethodHandle" ∧ y.cls ≠ "java/lang/invoke/VarHandle" ∧ (parseMethodDescriptor y.desc).map (fun d => d.parameters.length) = some n)
def qR (rm R : Room) (ly : Nat) : Prop := rm.cells = 0 ∧ rm.slots = 0 ∧ rm.frames + 1 ≤ R.frames ∧ 8 + (ly + 11) + rm.locals ≤ R.locals
section QR
variable {p : Program} {l : Launch} {e : Env} {R : Room} {s : State} {m : MethodId} {args : Array Value} {below : List Frame} {meth : Method} {c : Code} {H : Heap} {locs : List Loc} {Q : State → Prop}
variable {cc : ByteArray} {pc nL : Nat} {own : String} {ls : Array Slot} {rest : List Value} {D : va_G} {cI cJ : ClassId} {tP tR : Nat} {A : Nat → Prop} {ws : Mem → va_W} {ad : Nat → Nat} {M : Mem}
theorem rs_iald {β : Type} (C : qC p s m args c D cI cJ tP tR A ws cc nL own) (hP : va_P D vwCl (ws M) H) {cl n : Nat} (ha : qIA ws ad cI cl n) {i : Int32} {k : Int32 → Option β} {o : β} (hdg : decode cc pc = .ok (.iaload, 1)) (h : (ldI M cl n i).bind k = some o)
    (kk : ∀ v : Int32, k v = some o → W p l e R s m args below meth c H locs 0 0 Q (F0 m (pc + 1) ls (.int v :: rest))) : W p l e R s m args below meth c H locs 0 0 Q (F0 m pc ls (.int i :: .ref (ad cl) :: rest)) := by
  obtain ⟨hx, hb, -, -, -, hK, -⟩ := C
  unfold ldI at h
  by_cases hi : i < 0 ∨ n ≤ i.toNatClampNeg
  · rw [if_pos hi] at h; cases h
  · rw [if_neg hi] at h
    exact va_iald hx hb hK hP cl 0 (ha M).1 rfl hi hdg (kk _ h)
theorem rs_lald {β : Type} (C : qC p s m args c D cI cJ tP tR A ws cc nL own) (hP : va_P D vwCl (ws M) H) {cl n : Nat} (ha : qLA ws ad cJ cl n) {i : Int32} {k : Int64 → Option β} {o : β} (hdg : decode cc pc = .ok (.laload, 1)) (h : (ldL M cl n i).bind k = some o)
    (kk : ∀ v : Int64, k v = some o → W p l e R s m args below meth c H locs 0 0 Q (F0 m (pc + 1) ls (.long v :: rest))) : W p l e R s m args below meth c H locs 0 0 Q (F0 m pc ls (.int i :: .ref (ad cl) :: rest)) := by
  obtain ⟨hx, hb, -, -, -, hK, -⟩ := C
  unfold ldL at h
  by_cases hi : i < 0 ∨ n ≤ i.toNatClampNeg
  · rw [if_pos hi] at h; cases h
  · rw [if_neg hi] at h
    exact va_lald hx hb hK hP cl 1 (ha M).1 rfl hi hdg (kk _ h)
theorem rs_iast {β : Type} (C : qC p s m args c D cI cJ tP tR A ws cc nL own) (hP : va_P D vwCl (ws M) H) (hS : va_S A s.heap H locs) {cl n : Nat} (ha : qIA ws ad cI cl n) {i x : Int32} {k : Mem → Option β} {o : β} (hdg : decode cc pc = .ok (.iastore, 1)) (h : (stI M cl n i x).bind k = some o)
    (kk : ∀ M' : Mem, k M' = some o → ∀ (H : Heap) (locs : List Loc), va_P D vwCl (ws M') H → va_S A s.heap H locs → W p l e R s m args below meth c H locs 0 0 Q (F0 m (pc + 1) ls rest)) : W p l e R s m args below meth c H locs 0 0 Q (F0 m pc ls (.int x :: .int i :: .ref (ad cl) :: rest)) := by
  obtain ⟨hx, hb, -, -, -, hK, -, -, -, hD⟩ := C
  unfold stI at h
  by_cases hi : i < 0 ∨ n ≤ i.toNatClampNeg
  · rw [if_pos hi] at h; cases h
  · rw [if_neg hi] at h
    exact va_iast hx hb hK hP (hD M) hS cl 0 (ha M).1 rfl hi hdg (fun H1 locs1 h1 _ h3 => kk _ h H1 locs1 (by rw [← (ha M).2]; exact h1) h3)
theorem rs_last {β : Type} (C : qC p s m args c D cI cJ tP tR A ws cc nL own) (hP : va_P D vwCl (ws M) H) (hS : va_S A s.heap H locs) {cl n : Nat} (ha : qLA ws ad cJ cl n) {i : Int32} {x : Int64} {k : Mem → Option β} {o : β} (hdg : decode cc pc = .ok (.lastore, 1)) (h : (stL M cl n i x).bind k = some o)
    (kk : ∀ M' : Mem, k M' = some o → ∀ (H : Heap) (locs : List Loc), va_P D vwCl (ws M') H → va_S A s.heap H locs → W p l e R s m args below meth c H locs 0 0 Q (F0 m (pc + 1) ls rest)) : W p l e R s m args below meth c H locs 0 0 Q (F0 m pc ls (.long x :: .int i :: .ref (ad cl) :: rest)) := by
  obtain ⟨hx, hb, -, -, -, hK, -, -, -, hD⟩ := C
  unfold stL at h
  by_cases hi : i < 0 ∨ n ≤ i.toNatClampNeg
  · rw [if_pos hi] at h; cases h
  · rw [if_neg hi] at h
    exact va_last hx hb hK hP (hD M) hS cl 1 (ha M).1 rfl hi hdg (fun H1 locs1 h1 _ h3 => kk _ h H1 locs1 (by rw [← (ha M).2]; exact h1) h3)
theorem rs_alenI (C : qC p s m args c D cI cJ tP tR A ws cc nL own) (hP : va_P D vwCl (ws M) H) {cl n : Nat} (ha : qIA ws ad cI cl n) {v : Int32} (hv : Int32.ofNat n = v) (hdg : decode cc pc = .ok (.arraylength, 1))
    (kk : W p l e R s m args below meth c H locs 0 0 Q (F0 m (pc + 1) ls (.int v :: rest))) : W p l e R s m args below meth c H locs 0 0 Q (F0 m pc ls (.ref (ad cl) :: rest)) := by
  obtain ⟨hx, hb, -, -, -, hK, -⟩ := C
  exact va_alen hx hb hK hP cl 0 (ha M).1 rfl hv hdg kk
theorem rs_alenL (C : qC p s m args c D cI cJ tP tR A ws cc nL own) (hP : va_P D vwCl (ws M) H) {cl n : Nat} (ha : qLA ws ad cJ cl n) {v : Int32} (hv : Int32.ofNat n = v) (hdg : decode cc pc = .ok (.arraylength, 1))
    (kk : W p l e R s m args below meth c H locs 0 0 Q (F0 m (pc + 1) ls (.int v :: rest))) : W p l e R s m args below meth c H locs 0 0 Q (F0 m pc ls (.ref (ad cl) :: rest)) := by
  obtain ⟨hx, hb, -, -, -, hK, -⟩ := C
  exact va_alen hx hb hK hP cl 1 (ha M).1 rfl hv hdg kk
theorem rs_idiv {β : Type} (C : qC p s m args c D cI cJ tP tR A ws cc nL own) {x y : Int32} {k : Int32 → Option β} {o : β} (hdg : decode cc pc = .ok (.idiv, 1)) (h : (dvI x y).bind k = some o)
    (kk : ∀ v : Int32, k v = some o → W p l e R s m args below meth c H locs 0 0 Q (F0 m (pc + 1) ls (.int v :: rest))) : W p l e R s m args below meth c H locs 0 0 Q (F0 m pc ls (.int y :: .int x :: rest)) := by
  unfold dvI at h
  by_cases hi : y = 0
  · rw [if_pos hi] at h; cases h
  · rw [if_neg hi] at h
    exact lv_idiv C.1 C.2.1 hdg hi (kk _ h)
theorem rs_irem {β : Type} (C : qC p s m args c D cI cJ tP tR A ws cc nL own) {x y : Int32} {k : Int32 → Option β} {o : β} (hdg : decode cc pc = .ok (.irem, 1)) (h : (rmI x y).bind k = some o)
    (kk : ∀ v : Int32, k v = some o → W p l e R s m args below meth c H locs 0 0 Q (F0 m (pc + 1) ls (.int v :: rest))) : W p l e R s m args below meth c H locs 0 0 Q (F0 m pc ls (.int y :: .int x :: rest)) := by
  unfold rmI at h
  by_cases hi : y = 0
  · rw [if_pos hi] at h; cases h
  · rw [if_neg hi] at h
    exact lv_irem C.1 C.2.1 hdg hi (kk _ h)
theorem rs_ldiv {β : Type} (C : qC p s m args c D cI cJ tP tR A ws cc nL own) {x y : Int64} {k : Int64 → Option β} {o : β} (hdg : decode cc pc = .ok (.ldiv, 1)) (h : (dvL x y).bind k = some o)
    (kk : ∀ v : Int64, k v = some o → W p l e R s m args below meth c H locs 0 0 Q (F0 m (pc + 1) ls (.long v :: rest))) : W p l e R s m args below meth c H locs 0 0 Q (F0 m pc ls (.long y :: .long x :: rest)) := by
  unfold dvL at h
  by_cases hi : y = 0
  · rw [if_pos hi] at h; cases h
  · rw [if_neg hi] at h
    exact lv_ldiv C.1 C.2.1 hdg hi (kk _ h)
theorem rs_lrem {β : Type} (C : qC p s m args c D cI cJ tP tR A ws cc nL own) {x y : Int64} {k : Int64 → Option β} {o : β} (hdg : decode cc pc = .ok (.lrem, 1)) (h : (rmL x y).bind k = some o)
    (kk : ∀ v : Int64, k v = some o → W p l e R s m args below meth c H locs 0 0 Q (F0 m (pc + 1) ls (.long v :: rest))) : W p l e R s m args below meth c H locs 0 0 Q (F0 m pc ls (.long y :: .long x :: rest)) := by
  unfold rmL at h
  by_cases hi : y = 0
  · rw [if_pos hi] at h; cases h
  · rw [if_neg hi] at h
    exact lv_lrem C.1 C.2.1 hdg hi (kk _ h)
theorem rs_lcmp (C : qC p s m args c D cI cJ tP tR A ws cc nL own) {x y : Int64} (hdg : decode cc pc = .ok (.lcmp, 1))
    (kk : ∀ v : Int32, ((v < 0 ↔ x < y) ∧ (v = 0 ↔ x = y) ∧ (0 < v ↔ y < x) ∧ (0 ≤ v ↔ ¬ x < y) ∧ (v ≤ 0 ↔ ¬ y < x)) → W p l e R s m args below meth c H locs 0 0 Q (F0 m (pc + 1) ls (.int v :: rest))) : W p l e R s m args below meth c H locs 0 0 Q (F0 m pc ls (.long y :: .long x :: rest)) := by
  refine W.lcmp C.1 C.2.1 hdg (kk _ ?_)
  unfold lg_cmp
  by_cases h1 : y < x
  · have h2 : ¬ x < y := lg_lt_not h1
    have h3 : ¬ x = y := fun h => h2 (h ▸ h1)
    simp [h1, h2, h3]
  · by_cases h2 : x = y
    · subst h2
      simp
    · have h3 : x < y := by
        simp only [Int64.lt_iff_toInt_lt] at *
        have : x.toInt ≠ y.toInt := fun h => h2 (Int64.toInt_inj.mp h)
        omega
      simp [h1, h2, h3]
def qRec (ws : Mem → va_W) (ad : Nat → Nat) (M : Mem) (b : Nat) (cls : String) : Prop := ∃ (ci : Nat) (fs : List Value) (T : u_T) (N : Nat), vwCl[ci]? = some (cls, T, N) ∧ (ws M)[b]? = some (ad b, .inr (ci, fs))
theorem rs_blind {vs : List Value} : FrameBlind (va_Pc vs (fun U => qK D cI cJ tP tR A ws U ∧ va_P D vwCl (ws M) U.heap)) := fun a U g mk q => ⟨q.1, q.2.1.calling g mk a, q.2.2⟩
theorem rs_runV {y : MethodName} {cy : ByteArray} {ly n b index : Nat} {ry : Option FieldType} {rm : Room} {As st0 : List Value} {Qc : Array Value → State → Outcome → State → Prop} (C : qC p s m args c D cI cJ tP tR A ws cc nL own) (hP : va_P D vwCl (ws M) H) (hS : va_S A s.heap H locs) (hM : qMet l D cI cJ tP tR A ws y cy ly ry rm (.ref (ad b) :: As) M Qc) (hy : qMV y cy ly ry n) (hlink : Cond.methodLink own index y ∈ gwT) (hrec : qRec ws ad M b y.cls) (hn : As.length = n) (hR : qR rm R ly) (hst : st0 = As.reverse ++ .ref (ad b) :: rest) (hls : ls.size = nL) (hW : (rest.map fun v => v.category).sum ≤ 8) (hdg : decode cc pc = .ok (.invokevirtual index, 3)) :
    va_Run p l e R s m args below meth c H locs 0 0 0 0 (F0 m pc ls st0) rest (Qc (Value.ref (ad b) :: As).toArray) A := by
  obtain ⟨hx, hb, hml, hown, hts, hK⟩ := C
  obtain ⟨ci, fs, T, N, hci, he⟩ := hrec
  have cw : CallW R s args own y.cls index y cy ly ry (Cond.code y cy ly ry :: gwT) rm 0 0 n := ⟨callB_of n hts (rs_good hy.1) rfl hR.1 hR.2.1 (hts _ hy.2.2.2.1) (hts _ hlink) hy.2.2.2.2 ⟨hR.2.2.1, hR.2.2.2⟩, hts _ hy.2.1, hts _ hy.2.2.1⟩
  exact va_runV ⟨hx, hb, hml, hown, hts⟩ hM cw ⟨rs_blind, va_recv hK.1 hP hci he, fun U hU hW => ⟨rfl, hK.next hS hU hW, by rw [hU]; exact hP⟩⟩ rfl hn hls hst (lv_room hW) hdg ⟨Nat.zero_le _, Nat.zero_le _⟩
theorem rs_runS {y : MethodName} {cy : ByteArray} {ly n index : Nat} {ry : Option FieldType} {rm : Room} {As st0 : List Value} {Qc : Array Value → State → Outcome → State → Prop} (C : qC p s m args c D cI cJ tP tR A ws cc nL own) (hP : va_P D vwCl (ws M) H) (hS : va_S A s.heap H locs) (hM : qMet l D cI cJ tP tR A ws y cy ly ry rm As M Qc) (hy : qMS y cy ly ry n) (hlink : Cond.methodLink own index y ∈ gwT) (hn : As.length = n) (hR : qR rm R ly) (hst : st0 = As.reverse ++ rest) (hls : ls.size = nL) (hW : (rest.map fun v => v.category).sum ≤ 8) (hdg : decode cc pc = .ok (.invokestatic index, 3)) :
    va_Run p l e R s m args below meth c H locs 0 0 0 0 (F0 m pc ls st0) rest (Qc As.toArray) A := by
  obtain ⟨hx, hb, hml, hown, hts, hK⟩ := C
  have cw : CallB R s args own index y cy ly ry (Cond.code y cy ly ry :: gwT) rm 0 0 n ∧ (Cond.static y).before args s = true := ⟨callB_of n hts (rs_good hy.1) rfl hR.1 hR.2.1 (hts _ hy.2.2.1) (hts _ hlink) hy.2.2.2 ⟨hR.2.2.1, hR.2.2.2⟩, hts _ hy.2.1⟩
  exact va_runS ⟨hx, hb, hml, hown, hts⟩ hM cw ⟨rs_blind, fun U hU hW => ⟨rfl, hK.next hS hU hW, by rw [hU]; exact hP⟩⟩ rfl hn hls hst (lv_room hW) hdg ⟨Nat.zero_le _, Nat.zero_le _⟩
theorem rs_runN {y : MethodName} {host : String} {cy : ByteArray} {ly n index : Nat} {ry : Option FieldType} {rm : Room} {As st0 : List Value} {Qc : Array Value → State → Outcome → State → Prop} (C : qC p s m args c D cI cJ tP tR A ws cc nL own) (hP : va_P D vwCl (ws M) H) (hS : va_S A s.heap H locs) (hM : qMet l D cI cJ tP tR A ws y cy ly ry rm As M Qc) (hy : qMS y cy ly ry n) (hlink : (own, index, y, host) ∈ nestL) (hn : As.length = n) (hR : qR rm R ly) (hst : st0 = As.reverse ++ rest) (hls : ls.size = nL) (hW : (rest.map fun v => v.category).sum ≤ 8) (hdg : decode cc pc = .ok (.invokestatic index, 3)) :
    va_Run p l e R s m args below meth c H locs 0 0 0 0 (F0 m pc ls st0) rest (Qc As.toArray) A := by
  obtain ⟨hx, hb, hml, hown, hts, hK⟩ := C
  have cw := va_cnB (R := R) (s := s) (args := args) (own := own) (host := host) (index := index) (mc := 0) (ms := 0) n hts (rs_good hy.1) rfl hR.1 hR.2.1 (hK.2.1 _ hlink) (hts _ hy.2.2.1) hy.2.2.2 ⟨hR.2.2.1, hR.2.2.2⟩
  exact va_runSN ⟨hx, hb, hml, hown, hts⟩ hM ⟨cw, hts _ hy.2.1, trivial⟩ ⟨rs_blind, fun U hU hW => ⟨rfl, hK.next hS hU hW, by rw [hU]; exact hP⟩⟩ rfl hn hls hst (lv_room hW) hdg ⟨Nat.zero_le _, Nat.zero_le _⟩
theorem rs_goI {a : Array Value} {st0 : List Value} {r : Int32} {M' : Mem} (hr : va_Run p l e R s m args below meth c H locs 0 0 0 0 (F0 m pc ls st0) rest (qQi D A ws r M' a) A) (hS : va_S A s.heap H locs)
    (kk : ∀ (H : Heap) (locs : List Loc), va_P D vwCl (ws M') H → va_S A s.heap H locs → W p l e R s m args below meth c H locs 0 0 Q (F0 m (pc + 3) ls (.int r :: rest))) : W p l e R s m args below meth c H locs 0 0 Q (F0 m pc ls st0) := by
  refine va_calli hr hS (fun q _ h => h) (fun q h => h) (fun r' u t H1 locs1 ht hvm hp hB hz hk hS1 => ?_)
  subst hp
  rw [ht] at hB
  exact kk H1 locs1 hB hS1
theorem rs_goL {a : Array Value} {st0 : List Value} {r : Int64} {M' : Mem} (hr : va_Run p l e R s m args below meth c H locs 0 0 0 0 (F0 m pc ls st0) rest (qQl D A ws r M' a) A) (hS : va_S A s.heap H locs)
    (kk : ∀ (H : Heap) (locs : List Loc), va_P D vwCl (ws M') H → va_S A s.heap H locs → W p l e R s m args below meth c H locs 0 0 Q (F0 m (pc + 3) ls (.long r :: rest))) : W p l e R s m args below meth c H locs 0 0 Q (F0 m pc ls st0) := by
  refine va_calll hr hS (fun q _ h => h) (fun q h => h) (fun r' u t H1 locs1 ht hvm hp hB hz hk hS1 => ?_)
  subst hp
  rw [ht] at hB
  exact kk H1 locs1 hB hS1
theorem rs_goV {a : Array Value} {st0 : List Value} {M' : Mem} (hr : va_Run p l e R s m args below meth c H locs 0 0 0 0 (F0 m pc ls st0) rest (qQv D A ws M' a) A) (hS : va_S A s.heap H locs)
    (kk : ∀ (H : Heap) (locs : List Loc), va_P D vwCl (ws M') H → va_S A s.heap H locs → W p l e R s m args below meth c H locs 0 0 Q (F0 m (pc + 3) ls rest)) : W p l e R s m args below meth c H locs 0 0 Q (F0 m pc ls st0) := by
  refine va_callv hr hS (fun q _ h => h) (fun q h => h) (fun u t H1 locs1 ht hvm hp hB hz hk hS1 => ?_)
  rw [ht] at hB
  exact kk H1 locs1 hB hS1
theorem rs_goR {a : Array Value} {st0 : List Value} {r : Option Nat} {M' : Mem} (hr : va_Run p l e R s m args below meth c H locs 0 0 0 0 (F0 m pc ls st0) rest (qQr D A ws r M' a) A) (hS : va_S A s.heap H locs)
    (kk : ∀ (H : Heap) (locs : List Loc), va_P D vwCl (ws M') H → va_S A s.heap H locs → W p l e R s m args below meth c H locs 0 0 Q (F0 m (pc + 3) ls (va_rf r :: rest))) : W p l e R s m args below meth c H locs 0 0 Q (F0 m pc ls st0) := by
  refine va_callq hr hS (fun q _ h => h) (fun q h => h) (fun r' u t H1 locs1 ht hvm hp hB hz hk hS1 => ?_)
  subst hp
  rw [ht] at hB
  exact kk H1 locs1 hB hS1
theorem rs_abs (C : qC p s m args c D cI cJ tP tR A ws cc nL own) {index : Nat} (hw : Cond.static Lib.Math.abs.name ∈ gwT ∧ Cond.initialized "java/lang/Math" ∈ gwT ∧ Cond.code Lib.Math.abs.name Lib.Math.abs.code 1 (some .int) ∈ gwT) (hlink : Cond.methodLink own index Lib.Math.abs.name ∈ gwT) (hls : ls.size = nL) (hR : 1 ≤ R.frames ∧ (rest.map fun v => v.category).sum + 13 ≤ R.locals) {x : Int32} (hdg : decode cc pc = .ok (.invokestatic index, 3))
    (kk : W p l e R s m args below meth c H locs 0 0 Q (F0 m (pc + 3) ls (.int (if 0 ≤ x then x else 0 - x) :: rest))) : W p l e R s m args below meth c H locs 0 0 Q (F0 m pc ls (.int x :: rest)) := by
  obtain ⟨hx, hb, hml, hown, hts, hK⟩ := C
  exact va_mabs hx hb (hml.trans hls.symm) hown (hts _ hlink) (hts _ hw.1) (hts _ hw.2.1) (hts _ hw.2.2) hR.1 hR.2 (Nat.zero_le _) (Nat.zero_le _) hdg kk
theorem rs_max (C : qC p s m args c D cI cJ tP tR A ws cc nL own) {index : Nat} (hw : Cond.static Lib.Math.max.name ∈ gwT ∧ Cond.initialized "java/lang/Math" ∈ gwT ∧ Cond.code Lib.Math.max.name Lib.Math.max.code 2 (some .int) ∈ gwT) (hlink : Cond.methodLink own index Lib.Math.max.name ∈ gwT) (hls : ls.size = nL) (hR : 1 ≤ R.frames ∧ (rest.map fun v => v.category).sum + 13 ≤ R.locals) {x y : Int32} (hdg : decode cc pc = .ok (.invokestatic index, 3))
    (kk : W p l e R s m args below meth c H locs 0 0 Q (F0 m (pc + 3) ls (.int (if x < y then y else x) :: rest))) : W p l e R s m args below meth c H locs 0 0 Q (F0 m pc ls (.int y :: .int x :: rest)) := by
  obtain ⟨hx, hb, hml, hown, hts, hK⟩ := C
  exact va_mmax hx hb (hml.trans hls.symm) hown (hts _ hlink) (hts _ hw.1) (hts _ hw.2.1) (hts _ hw.2.2) hR.1 hR.2 (Nat.zero_le _) (Nat.zero_le _) hdg kk
theorem rs_min (C : qC p s m args c D cI cJ tP tR A ws cc nL own) {index : Nat} (hw : Cond.static Lib.Math.min.name ∈ gwT ∧ Cond.initialized "java/lang/Math" ∈ gwT ∧ Cond.code Lib.Math.min.name Lib.Math.min.code 2 (some .int) ∈ gwT) (hlink : Cond.methodLink own index Lib.Math.min.name ∈ gwT) (hls : ls.size = nL) (hR : 1 ≤ R.frames ∧ (rest.map fun v => v.category).sum + 13 ≤ R.locals) {x y : Int32} (hdg : decode cc pc = .ok (.invokestatic index, 3))
    (kk : W p l e R s m args below meth c H locs 0 0 Q (F0 m (pc + 3) ls (.int (if y < x then y else x) :: rest))) : W p l e R s m args below meth c H locs 0 0 Q (F0 m pc ls (.int y :: .int x :: rest)) := by
  obtain ⟨hx, hb, hml, hown, hts, hK⟩ := C
  exact va_mmin hx hb (hml.trans hls.symm) hown (hts _ hlink) (hts _ hw.1) (hts _ hw.2.1) (hts _ hw.2.2) hR.1 hR.2 (Nat.zero_le _) (Nat.zero_le _) hdg kk
theorem rs_ldc (C : qC p s m args c D cI cJ tP tR A ws cc nL own) {index : Nat} {v : Int32} (hw : Cond.constant own index v ∈ gwT) (hdg : decode cc pc = .ok (.ldc index, 2)) (k : W p l e R s m args below meth c H locs 0 0 Q (F0 m (pc + 2) ls (.int v :: rest))) : W p l e R s m args below meth c H locs 0 0 Q (F0 m pc ls rest) := by
  obtain ⟨hx, hb, hml, hown, hts, hK⟩ := C
  exact lv_ldc hx hb hown (hts _ hw) hdg k
theorem rs_ldcw (C : qC p s m args c D cI cJ tP tR A ws cc nL own) {index : Nat} {v : Int32} (hw : Cond.constant own index v ∈ gwT) (hdg : decode cc pc = .ok (.ldc_w index, 3)) (k : W p l e R s m args below meth c H locs 0 0 Q (F0 m (pc + 3) ls (.int v :: rest))) : W p l e R s m args below meth c H locs 0 0 Q (F0 m pc ls rest) := by
  obtain ⟨hx, hb, hml, hown, hts, hK⟩ := C
  exact lv_ldcw hx hb hown (hts _ hw) hdg k
theorem rs_ldc2 (C : qC p s m args c D cI cJ tP tR A ws cc nL own) {index : Nat} {v : Int64} (hw : Cond.constantLong own index v ∈ gwT) (hdg : decode cc pc = .ok (.ldc2_w index, 3)) (k : W p l e R s m args below meth c H locs 0 0 Q (F0 m (pc + 3) ls (.long v :: rest))) : W p l e R s m args below meth c H locs 0 0 Q (F0 m pc ls rest) := by
  obtain ⟨hx, hb, hml, hown, hts, hK⟩ := C
  exact lv_ldc2 hx hb hown (hts _ hw) hdg k
theorem rs_getP (C : qC p s m args c D cI cJ tP tR A ws cc nL own) (hS : va_S A s.heap H locs) {index : Nat} (hlink : Cond.fieldLink own index "RootShapes$Fronts" "PRIMES" "[J" ∈ gwT) (hdg : decode cc pc = .ok (.getstatic index, 3))
    (kk : W p l e R s m args below meth c H locs 0 0 Q (F0 m (pc + 3) ls (.ref tP :: rest))) : W p l e R s m args below meth c H locs 0 0 Q (F0 m pc ls rest) := by
  obtain ⟨hx, hb, hml, hown, hts, hK⟩ := C
  exact va_gets hx hb hK.2.2.1.1 hS hown (hts _ hlink) (fun _ h => h) hdg kk
theorem rs_getR (C : qC p s m args c D cI cJ tP tR A ws cc nL own) (hS : va_S A s.heap H locs) {index : Nat} (hlink : Cond.fieldLink own index "RootShapes" "ROUND_PRIMES" "[I" ∈ gwT) (hdg : decode cc pc = .ok (.getstatic index, 3))
    (kk : W p l e R s m args below meth c H locs 0 0 Q (F0 m (pc + 3) ls (.ref tR :: rest))) : W p l e R s m args below meth c H locs 0 0 Q (F0 m pc ls rest) := by
  obtain ⟨hx, hb, hml, hown, hts, hK⟩ := C
  exact va_gets hx hb hK.2.2.2.1.1 hS hown (hts _ hlink) (fun _ h => h) hdg kk
theorem rs_lenP (C : qC p s m args c D cI cJ tP tR A ws cc nL own) (hS : va_S A s.heap H locs) (hdg : decode cc pc = .ok (.arraylength, 1)) (kk : W p l e R s m args below meth c H locs 0 0 Q (F0 m (pc + 1) ls (.int 3 :: rest))) : W p l e R s m args below meth c H locs 0 0 Q (F0 m pc ls (.ref tP :: rest)) := by
  obtain ⟨hx, hb, hml, hown, hts, hK⟩ := C
  exact va_tlen hx hb hK.2.2.1.2 hS rfl hdg kk
theorem rs_lenR (C : qC p s m args c D cI cJ tP tR A ws cc nL own) (hS : va_S A s.heap H locs) (hdg : decode cc pc = .ok (.arraylength, 1)) (kk : W p l e R s m args below meth c H locs 0 0 Q (F0 m (pc + 1) ls (.int 11 :: rest))) : W p l e R s m args below meth c H locs 0 0 Q (F0 m pc ls (.ref tR :: rest)) := by
  obtain ⟨hx, hb, hml, hown, hts, hK⟩ := C
  exact va_tlen hx hb hK.2.2.2.1.2 hS rfl hdg kk
theorem rs_ldP {β : Type} (C : qC p s m args c D cI cJ tP tR A ws cc nL own) (hS : va_S A s.heap H locs) {i : Int32} {k : Int64 → Option β} {o : β} (hdg : decode cc pc = .ok (.laload, 1)) (h : (ldP i).bind k = some o) (kk : ∀ v : Int64, k v = some o → W p l e R s m args below meth c H locs 0 0 Q (F0 m (pc + 1) ls (.long v :: rest))) : W p l e R s m args below meth c H locs 0 0 Q (F0 m pc ls (.int i :: .ref tP :: rest)) := by
  obtain ⟨hx, hb, hml, hown, hts, hK⟩ := C
  unfold ldP at h
  by_cases hi : i < 0 ∨ 3 ≤ i.toNatClampNeg
  · rw [if_pos hi] at h; cases h
  · rw [if_neg hi] at h
    exact va_tl hx hb hK.2.2.1.2 hS hi rfl hdg (kk _ h)
theorem rs_ldR {β : Type} (C : qC p s m args c D cI cJ tP tR A ws cc nL own) (hS : va_S A s.heap H locs) {i : Int32} {k : Int32 → Option β} {o : β} (hdg : decode cc pc = .ok (.iaload, 1)) (h : (ldR i).bind k = some o) (kk : ∀ v : Int32, k v = some o → W p l e R s m args below meth c H locs 0 0 Q (F0 m (pc + 1) ls (.int v :: rest))) : W p l e R s m args below meth c H locs 0 0 Q (F0 m pc ls (.int i :: .ref tR :: rest)) := by
  obtain ⟨hx, hb, hml, hown, hts, hK⟩ := C
  unfold ldR at h
  by_cases hi : i < 0 ∨ 11 ≤ i.toNatClampNeg
  · rw [if_pos hi] at h; cases h
  · rw [if_neg hi] at h
    exact va_ti hx hb hK.2.2.2.1.2 hS hi rfl hdg (kk _ h)
theorem rs_tabDef (C : qC p s m args c D cI cJ tP tR A ws cc nL own) {dflt hi : Int} {offs : Array Int} {len tgt : Nat} {x : Int32} (hdg : decode cc pc = .ok (.tableswitch dflt 0 hi offs, len)) (h : ¬ (0 ≤ x.toInt ∧ x.toInt ≤ hi)) (ht : (pc : Int) + dflt = (tgt : Int))
    (k : W p l e R s m args below meth c H locs 0 0 Q (F0 m tgt ls rest)) : W p l e R s m args below meth c H locs 0 0 Q (F0 m pc ls (.int x :: rest)) :=
  lv_tableOut C.1 C.2.1 hdg (by omega) ht k
end QR
theorem rs_enterI {l : Launch} {D : va_G} {cI cJ : ClassId} {tP tR : Nat} {A : Nat → Prop} {ws : Mem → va_W} {y : MethodName} {cy : ByteArray} {ly : Nat} {rm : Room} {vs : List Value} {M M' : Mem} {r : Int32} {own : String} (hy : plainName y.cls = true ∧ y.cls = own ∧ (lg_sl vs).length ≤ ly)
    (body : ∀ (p : Program) (e : Env) (s : State) (m : MethodId) (args : Array Value) (below : List Frame) (meth : Method) (c : Code) (Q : State → Prop), qC p s m args c D cI cJ tP tR A ws cy ly own → (∀ (H : Heap) (locs : List Loc) (pc : Nat) (ls : Array Slot), va_P D vwCl (ws M') H → va_S A s.heap H locs → decode cy pc = .ok (.ireturn, 1) → W p l e rm s m args below meth c H locs 0 0 Q (F0 m pc ls [.int r])) → ∀ (H : Heap) (locs : List Loc) (ls : Array Slot), va_P D vwCl (ws M) H → va_S A s.heap H locs → lv_has ls ly (lv_args 0 vs) → W p l e rm s m args below meth c H locs 0 0 Q (F0 m 0 ls [])) :
    qMet l D cI cJ tP tR A ws y cy ly (some .int) rm vs M (qQi D A ws r M') := by
  obtain ⟨hy1, hy2, hlen⟩ := hy
  refine Met.ofW (cc := cy) (maxL := ly) (ret := some .int) hy1 rfl ?_
  intro p e s m args below meth c s₁ B hml hv
  obtain ⟨rfl, hK, hP⟩ := hv
  have hl := lv_entry vs (n := ly) hlen
  rw [lg_entry_eq]
  have hts := atoms_spec (ws := Cond.code y cy ly (some .int) :: gwT) B.pre
  refine body p e s m _ below meth c _ ⟨B.exec, B.bytes, hml, by rw [← hy2]; exact findClass_of_methodNamed B.named, fun w hw => hts w (List.mem_cons_of_mem _ hw), hK⟩ ?_ s.heap [] _ hP va_S.rf hl
  intro H locs pc ls hP hS hd
  exact W.iret B.exec B.bytes B.returns (fun t ht hW => ⟨⟨r, (), rfl, rfl, by show va_P D vwCl (ws M') t.heap; rw [ht]; exact hP⟩, hS.F ht⟩) hS.2.2 hd (hlocks := B.notSynchronized)
theorem rs_enterZ {l : Launch} {D : va_G} {cI cJ : ClassId} {tP tR : Nat} {A : Nat → Prop} {ws : Mem → va_W} {y : MethodName} {cy : ByteArray} {ly : Nat} {rm : Room} {vs : List Value} {M M' : Mem} {r : Int32} {own : String} (hy : plainName y.cls = true ∧ y.cls = own ∧ (lg_sl vs).length ≤ ly)
    (body : ∀ (p : Program) (e : Env) (s : State) (m : MethodId) (args : Array Value) (below : List Frame) (meth : Method) (c : Code) (Q : State → Prop), qC p s m args c D cI cJ tP tR A ws cy ly own → (∀ (H : Heap) (locs : List Loc) (pc : Nat) (ls : Array Slot), (r = 0 ∨ r = 1) → va_P D vwCl (ws M') H → va_S A s.heap H locs → decode cy pc = .ok (.ireturn, 1) → W p l e rm s m args below meth c H locs 0 0 Q (F0 m pc ls [.int r])) → ∀ (H : Heap) (locs : List Loc) (ls : Array Slot), va_P D vwCl (ws M) H → va_S A s.heap H locs → lv_has ls ly (lv_args 0 vs) → W p l e rm s m args below meth c H locs 0 0 Q (F0 m 0 ls [])) :
    qMet l D cI cJ tP tR A ws y cy ly (some .boolean) rm vs M (qQi D A ws r M') := by
  obtain ⟨hy1, hy2, hlen⟩ := hy
  refine Met.ofW (cc := cy) (maxL := ly) (ret := some .boolean) hy1 rfl ?_
  intro p e s m args below meth c s₁ B hml hv
  obtain ⟨rfl, hK, hP⟩ := hv
  have hl := lv_entry vs (n := ly) hlen
  rw [lg_entry_eq]
  have hts := atoms_spec (ws := Cond.code y cy ly (some .boolean) :: gwT) B.pre
  refine body p e s m _ below meth c _ ⟨B.exec, B.bytes, hml, by rw [← hy2]; exact findClass_of_methodNamed B.named, fun w hw => hts w (List.mem_cons_of_mem _ hw), hK⟩ ?_ s.heap [] _ hP va_S.rf hl
  intro H locs pc ls hr hP hS hd
  exact W.zret (ty := .boolean) B.exec B.bytes B.returns (by rcases hr with h | h <;> rw [h] <;> rfl) (fun t ht hW => ⟨⟨r, (), rfl, rfl, by show va_P D vwCl (ws M') t.heap; rw [ht]; exact hP⟩, hS.F ht⟩) hS.2.2 hd (hlocks := B.notSynchronized)
theorem rs_enterL {l : Launch} {D : va_G} {cI cJ : ClassId} {tP tR : Nat} {A : Nat → Prop} {ws : Mem → va_W} {y : MethodName} {cy : ByteArray} {ly : Nat} {rm : Room} {vs : List Value} {M M' : Mem} {r : Int64} {own : String} (hy : plainName y.cls = true ∧ y.cls = own ∧ (lg_sl vs).length ≤ ly)
    (body : ∀ (p : Program) (e : Env) (s : State) (m : MethodId) (args : Array Value) (below : List Frame) (meth : Method) (c : Code) (Q : State → Prop), qC p s m args c D cI cJ tP tR A ws cy ly own → (∀ (H : Heap) (locs : List Loc) (pc : Nat) (ls : Array Slot), va_P D vwCl (ws M') H → va_S A s.heap H locs → decode cy pc = .ok (.lreturn, 1) → W p l e rm s m args below meth c H locs 0 0 Q (F0 m pc ls [.long r])) → ∀ (H : Heap) (locs : List Loc) (ls : Array Slot), va_P D vwCl (ws M) H → va_S A s.heap H locs → lv_has ls ly (lv_args 0 vs) → W p l e rm s m args below meth c H locs 0 0 Q (F0 m 0 ls [])) :
    qMet l D cI cJ tP tR A ws y cy ly (some .long) rm vs M (qQl D A ws r M') := by
  obtain ⟨hy1, hy2, hlen⟩ := hy
  refine Met.ofW (cc := cy) (maxL := ly) (ret := some .long) hy1 rfl ?_
  intro p e s m args below meth c s₁ B hml hv
  obtain ⟨rfl, hK, hP⟩ := hv
  have hl := lv_entry vs (n := ly) hlen
  rw [lg_entry_eq]
  have hts := atoms_spec (ws := Cond.code y cy ly (some .long) :: gwT) B.pre
  refine body p e s m _ below meth c _ ⟨B.exec, B.bytes, hml, by rw [← hy2]; exact findClass_of_methodNamed B.named, fun w hw => hts w (List.mem_cons_of_mem _ hw), hK⟩ ?_ s.heap [] _ hP va_S.rf hl
  intro H locs pc ls hP hS hd
  exact W.lret B.exec B.bytes B.returns (fun t ht hW => ⟨⟨r, (), rfl, rfl, by show va_P D vwCl (ws M') t.heap; rw [ht]; exact hP⟩, hS.F ht⟩) hS.2.2 hd (hlocks := B.notSynchronized)
theorem rs_enterV {l : Launch} {D : va_G} {cI cJ : ClassId} {tP tR : Nat} {A : Nat → Prop} {ws : Mem → va_W} {y : MethodName} {cy : ByteArray} {ly : Nat} {rm : Room} {vs : List Value} {M M' : Mem} {own : String} (hy : plainName y.cls = true ∧ y.cls = own ∧ (lg_sl vs).length ≤ ly)
    (body : ∀ (p : Program) (e : Env) (s : State) (m : MethodId) (args : Array Value) (below : List Frame) (meth : Method) (c : Code) (Q : State → Prop), qC p s m args c D cI cJ tP tR A ws cy ly own → (∀ (H : Heap) (locs : List Loc) (pc : Nat) (ls : Array Slot), va_P D vwCl (ws M') H → va_S A s.heap H locs → decode cy pc = .ok (.return_, 1) → W p l e rm s m args below meth c H locs 0 0 Q (F0 m pc ls [])) → ∀ (H : Heap) (locs : List Loc) (ls : Array Slot), va_P D vwCl (ws M) H → va_S A s.heap H locs → lv_has ls ly (lv_args 0 vs) → W p l e rm s m args below meth c H locs 0 0 Q (F0 m 0 ls [])) :
    qMet l D cI cJ tP tR A ws y cy ly none rm vs M (qQv D A ws M') := by
  obtain ⟨hy1, hy2, hlen⟩ := hy
  refine Met.ofW (cc := cy) (maxL := ly) (ret := none) hy1 rfl ?_
  intro p e s m args below meth c s₁ B hml hv
  obtain ⟨rfl, hK, hP⟩ := hv
  have hl := lv_entry vs (n := ly) hlen
  rw [lg_entry_eq]
  have hts := atoms_spec (ws := Cond.code y cy ly none :: gwT) B.pre
  refine body p e s m _ below meth c _ ⟨B.exec, B.bytes, hml, by rw [← hy2]; exact findClass_of_methodNamed B.named, fun w hw => hts w (List.mem_cons_of_mem _ hw), hK⟩ ?_ s.heap [] _ hP va_S.rf hl
  intro H locs pc ls hP hS hd
  exact W.vret B.exec B.bytes B.returns (fun t ht hW => ⟨⟨(), rfl, trivial, by show va_P D vwCl (ws M') t.heap; rw [ht]; exact hP⟩, hS.F ht⟩) hS.2.2 hd (hlocks := B.notSynchronized)
theorem rs_enterR {l : Launch} {D : va_G} {cI cJ : ClassId} {tP tR : Nat} {A : Nat → Prop} {ws : Mem → va_W} {y : MethodName} {cy : ByteArray} {ly : Nat} {rm : Room} {vs : List Value} {M M' : Mem} {r : Option Nat} {cn own : String} (hy : plainName y.cls = true ∧ y.cls = own ∧ (lg_sl vs).length ≤ ly)
    (body : ∀ (p : Program) (e : Env) (s : State) (m : MethodId) (args : Array Value) (below : List Frame) (meth : Method) (c : Code) (Q : State → Prop), qC p s m args c D cI cJ tP tR A ws cy ly own → (∀ (H : Heap) (locs : List Loc) (pc : Nat) (ls : Array Slot), va_P D vwCl (ws M') H → va_S A s.heap H locs → decode cy pc = .ok (.areturn, 1) → W p l e rm s m args below meth c H locs 0 0 Q (F0 m pc ls [va_rf r])) → ∀ (H : Heap) (locs : List Loc) (ls : Array Slot), va_P D vwCl (ws M) H → va_S A s.heap H locs → lv_has ls ly (lv_args 0 vs) → W p l e rm s m args below meth c H locs 0 0 Q (F0 m 0 ls [])) :
    qMet l D cI cJ tP tR A ws y cy ly (some (.object cn)) rm vs M (qQr D A ws r M') := by
  obtain ⟨hy1, hy2, hlen⟩ := hy
  refine Met.ofW (cc := cy) (maxL := ly) (ret := some (.object cn)) hy1 rfl ?_
  intro p e s m args below meth c s₁ B hml hv
  obtain ⟨rfl, hK, hP⟩ := hv
  have hl := lv_entry vs (n := ly) hlen
  rw [lg_entry_eq]
  have hts := atoms_spec (ws := Cond.code y cy ly (some (.object cn)) :: gwT) B.pre
  refine body p e s m _ below meth c _ ⟨B.exec, B.bytes, hml, by rw [← hy2]; exact findClass_of_methodNamed B.named, fun w hw => hts w (List.mem_cons_of_mem _ hw), hK⟩ ?_ s.heap [] _ hP va_S.rf hl
  intro H locs pc ls hP hS hd
  exact W.aret B.exec B.bytes B.returns (Or.inl ⟨_, rfl⟩) (va_rf_or r) (fun t ht hW => ⟨⟨r, (), rfl, rfl, by show va_P D vwCl (ws M') t.heap; rw [ht]; exact hP⟩, hS.F ht⟩) hS.2.2 hd (hlocks := B.notSynchronized)

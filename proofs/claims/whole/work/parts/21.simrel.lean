/-! what a state IS: two equations; the cells and the answers that the class keeps -/
def EqR (X Y : Mem) (b o j n : Nat) : Prop :=
  X.1 b 4 = nI n ∧ Y.1 5 j = nI n ∧ n ≤ 8 ∧
  (∀ t, t < n → X.1 (b + 1) t = Y.1 1 (o + t) ∧ X.1 (b + 2) t = Y.1 2 (o + t) ∧ X.1 (b + 3) t = Y.1 3 (o + t) ∧ X.1 (b + 4) t = Y.1 4 (o + t)) ∧
  (∀ t, t < n → (0 ≤ (X.1 (b + 1) t).toInt ∧ (X.1 (b + 1) t).toInt ≤ 6) ∧ (0 ≤ (X.1 (b + 2) t).toInt ∧ (X.1 (b + 2) t).toInt ≤ 6) ∧ ((X.1 (b + 3) t).toInt ≠ 0 ∧ -20 ≤ (X.1 (b + 3) t).toInt ∧ (X.1 (b + 3) t).toInt ≤ 20) ∧ (0 ≤ (X.1 (b + 4) t).toInt ∧ (X.1 (b + 4) t).toInt ≤ 100)) ∧
  (∀ t u, t < n → u < n → X.1 (b + 1) t = X.1 (b + 1) u → X.1 (b + 2) t = X.1 (b + 2) u → t = u)
def eqNo (b o j : Nat) : Prop := (b = 1 ∧ o = 0 ∧ j = 0) ∨ (b = 6 ∧ o = 8 ∧ j = 1)
theorem eqNo.j {b o j : Nat} (h : eqNo b o j) : j < 2 := by unfold eqNo at h; omega
theorem eqNo.o {b o j : Nat} (h : eqNo b o j) : o = 8 * j := by unfold eqNo at h; omega
theorem eqNo.b {b o j : Nat} (h : eqNo b o j) : b = 1 ∨ b = 6 := by unfold eqNo at h; omega
theorem eqNo.b1 {b o j : Nat} (h : eqNo b o j) : 1 ≤ b := by unfold eqNo at h; omega
theorem eqNo.b2 {b o j : Nat} (h : eqNo b o j) : b ≤ 10 := by unfold eqNo at h; omega
/-- cells of the lift -/
def trn (E : Nat → Nat → Int32) (a b c d : Nat) : Int32 := ((E 2 b - E 2 a) * (E 8 d - E 8 c)) - ((E 3 b - E 3 a) * (E 7 d - E 7 c))
def sgn (t : Int32) : Int32 := if 0 ≤ t then 1 else -1
def tlU (E : Nat → Nat → Int32) (a b c d : Nat) : Int32 := sgn (trn E a b c d) * (((E 5 a - E 5 b) * (E 8 d - E 8 c)) - ((E 10 c - E 10 d) * (E 3 b - E 3 a)))
def tlV (E : Nat → Nat → Int32) (a b c d : Nat) : Int32 := sgn (trn E a b c d) * (((E 10 c - E 10 d) * (E 2 b - E 2 a)) - ((E 5 a - E 5 b) * (E 7 d - E 7 c)))
def lev (E : Nat → Nat → Int32) (a b c d bs t : Nat) : Int32 := (((sgn (trn E a b c d) * trn E a b c d) * E (bs + 4) t) + (tlU E a b c d * E (bs + 1) t)) + (tlV E a b c d * E (bs + 2) t)
def allB (p : Nat → Bool) : Nat → Bool
  | 0 => true
  | n + 1 => allB p n && p n
def cntB (p : Nat → Bool) : Nat → Nat
  | 0 => 0
  | n + 1 => cntB p n + (if p n then 1 else 0)
def isCl (E : Nat → Nat → Int32) (n0 n1 : Nat) (q : Nat × Nat × Nat × Nat) : Bool :=
  !(decide (trn E q.1 q.2.1 q.2.2.1 q.2.2.2 = 0)) && (allB (fun t => decide (lev E q.1 q.2.1 q.2.2.1 q.2.2.2 1 q.1 ≤ lev E q.1 q.2.1 q.2.2.1 q.2.2.2 1 t)) n0 && allB (fun t => decide (lev E q.1 q.2.1 q.2.2.1 q.2.2.2 6 q.2.2.1 ≤ lev E q.1 q.2.1 q.2.2.1 q.2.2.2 6 t)) n1)
def alk (E : Nat → Nat → Int32) (n bs : Nat) (q : Nat × Nat × Nat × Nat) (k : Nat) : Nat := cntB (fun t => decide (lev E q.1 q.2.1 q.2.2.1 q.2.2.2 bs t = lev E q.1 q.2.1 q.2.2.1 q.2.2.2 bs k)) n
def isCr (E : Nat → Nat → Int32) (n0 n1 : Nat) (q : Nat × Nat × Nat × Nat) : Bool := decide (2 < alk E n0 1 q q.1) || decide (2 < alk E n1 6 q q.2.2.1)
/-- from .. on below n -/
def upTo (a n : Nat) : List Nat := List.range' a (n - a)
def qD (n1 a b c d : Nat) : List (Nat × Nat × Nat × Nat) := (upTo d n1).map (fun x => (a, b, c, x))
def qCc (n1 a b c : Nat) : List (Nat × Nat × Nat × Nat) := (upTo c n1).flatMap (fun x => qD n1 a b x (x + 1))
def qBb (n0 n1 a b : Nat) : List (Nat × Nat × Nat × Nat) := (upTo b n0).flatMap (fun x => qCc n1 a x 0)
def qAa (n0 n1 a : Nat) : List (Nat × Nat × Nat × Nat) := (upTo a n0).flatMap (fun x => qBb n0 n1 x (x + 1))
def clL (E : Nat → Nat → Int32) (n0 n1 : Nat) : List (Nat × Nat × Nat × Nat) := (qAa n0 n1 0).filter (isCl E n0 n1)
def pck (q : Nat × Nat × Nat × Nat) : Int32 := (((nI q.1 <<< ((9 : Int32) &&& 31)) ||| (nI q.2.1 <<< ((6 : Int32) &&& 31))) ||| (nI q.2.2.1 <<< ((3 : Int32) &&& 31))) ||| nI q.2.2.2
def CellC (X : Mem) (n0 n1 : Nat) : Prop := X.1 16 0 = nI (clL X.1 n0 n1).length ∧ X.1 16 1 = bz ((clL X.1 n0 n1).any (isCr X.1 n0 n1)) ∧ ∀ (k : Nat) (q : Nat × Nat × Nat × Nat), (clL X.1 n0 n1)[k]? = some q → X.1 17 k = pck q
/-- answers where numbers go round m -/
def sSum (E : Nat → Nat → Int32) (bs m x y : Nat) : Nat → Int
  | 0 => 0
  | n + 1 => sSum E bs m x y n + (E (bs + 3) n).toInt * ((x ^ (E (bs + 1) n).toInt.toNat % m : Nat) : Int) * ((y ^ (E (bs + 2) n).toInt.toNat % m : Nat) : Int)
def isSo (E : Nat → Nat → Int32) (n0 n1 m : Nat) (q : Nat × Nat) : Bool := decide (sSum E 1 m q.1 q.2 n0 % (m : Int) = 0) && decide (sSum E 6 m q.1 q.2 n1 % (m : Int) = 0)
def pY (m x y : Nat) : List (Nat × Nat) := (upTo y m).map (fun z => (x, z))
def pX (m x : Nat) : List (Nat × Nat) := (upTo x m).flatMap (fun z => pY m z 1)
def soL (E : Nat → Nat → Int32) (n0 n1 m : Nat) : List (Nat × Nat) := (pX m 1).filter (isSo E n0 n1 m)
def prm (m : Nat) : Prop := m = 2 ∨ m = 3 ∨ m = 5 ∨ m = 7 ∨ m = 11 ∨ m = 13 ∨ m = 17 ∨ m = 19 ∨ m = 23 ∨ m = 29 ∨ m = 31
def SolC (X : Mem) (n0 n1 : Nat) : Prop := ∃ m, prm m ∧ X.1 21 2 = nI m ∧ X.1 21 1 = nI (soL X.1 n0 n1 m).length ∧ ∀ (k : Nat) (q : Nat × Nat), (soL X.1 n0 n1 m)[k]? = some q → X.1 22 k = nI (100 * q.1 + q.2)
def Sim (X Y : Mem) : Prop := ∃ n0 n1 : Nat, EqR X Y 1 0 0 n0 ∧ EqR X Y 6 8 1 n1 ∧ (X.1 16 2 = 0 ∨ (X.1 16 2 = 1 ∧ CellC X n0 n1)) ∧ (X.1 21 2 = 0 ∨ SolC X n0 n1)
/-- the kept lists rest on the equations alone -/
theorem trn_congr {E F : Nat → Nat → Int32} (h : ∀ c, 1 ≤ c → c ≤ 10 → E c = F c) : trn E = trn F := by
  funext a b c d
  simp only [trn, h 2 (by decide) (by decide), h 3 (by decide) (by decide), h 7 (by decide) (by decide), h 8 (by decide) (by decide)]
theorem lev_congr {E F : Nat → Nat → Int32} (h : ∀ c, 1 ≤ c → c ≤ 10 → E c = F c) (a b c d bs t : Nat) (hb : bs = 1 ∨ bs = 6) : lev E a b c d bs t = lev F a b c d bs t := by
  have e1 : E (bs + 4) = F (bs + 4) := h _ (by omega) (by omega)
  have e2 : E (bs + 1) = F (bs + 1) := h _ (by omega) (by omega)
  have e3 : E (bs + 2) = F (bs + 2) := h _ (by omega) (by omega)
  simp only [lev, tlU, tlV, trn_congr h, e1, e2, e3, h 2 (by decide) (by decide), h 3 (by decide) (by decide), h 7 (by decide) (by decide), h 8 (by decide) (by decide), h 5 (by decide) (by decide), h 10 (by decide) (by decide)]
theorem isCl_congr {E F : Nat → Nat → Int32} (h : ∀ c, 1 ≤ c → c ≤ 10 → E c = F c) (n0 n1 : Nat) : isCl E n0 n1 = isCl F n0 n1 := by
  funext q
  simp only [isCl, trn_congr h, lev_congr h _ _ _ _ 1 _ (Or.inl rfl), lev_congr h _ _ _ _ 6 _ (Or.inr rfl)]
theorem alk_congr {E F : Nat → Nat → Int32} (h : ∀ c, 1 ≤ c → c ≤ 10 → E c = F c) (n bs : Nat) (hb : bs = 1 ∨ bs = 6) (q : Nat × Nat × Nat × Nat) (k : Nat) : alk E n bs q k = alk F n bs q k := by
  unfold alk
  congr 1
  funext t
  rw [lev_congr h _ _ _ _ bs t hb, lev_congr h _ _ _ _ bs k hb]
theorem isCr_congr {E F : Nat → Nat → Int32} (h : ∀ c, 1 ≤ c → c ≤ 10 → E c = F c) (n0 n1 : Nat) : isCr E n0 n1 = isCr F n0 n1 := by
  funext q
  simp only [isCr, alk_congr h _ 1 (Or.inl rfl), alk_congr h _ 6 (Or.inr rfl)]
theorem clL_congr {E F : Nat → Nat → Int32} (h : ∀ c, 1 ≤ c → c ≤ 10 → E c = F c) (n0 n1 : Nat) : clL E n0 n1 = clL F n0 n1 := by
  simp only [clL, isCl_congr h]
theorem sSum_congr {E F : Nat → Nat → Int32} (h : ∀ c, 1 ≤ c → c ≤ 10 → E c = F c) (bs m x y : Nat) (hb : bs = 1 ∨ bs = 6) (n : Nat) : sSum E bs m x y n = sSum F bs m x y n := by
  have e1 : E (bs + 3) = F (bs + 3) := h _ (by omega) (by omega)
  have e2 : E (bs + 1) = F (bs + 1) := h _ (by omega) (by omega)
  have e3 : E (bs + 2) = F (bs + 2) := h _ (by omega) (by omega)
  induction n with
  | zero => rfl
  | succ n ih => simp only [sSum, ih, e1, e2, e3]
theorem soL_congr {E F : Nat → Nat → Int32} (h : ∀ c, 1 ≤ c → c ≤ 10 → E c = F c) (n0 n1 m : Nat) : soL E n0 n1 m = soL F n0 n1 m := by
  have : isSo E n0 n1 m = isSo F n0 n1 m := by
    funext q
    simp only [isSo, sSum_congr h 1 _ _ _ (Or.inl rfl), sSum_congr h 6 _ _ _ (Or.inr rfl)]
  simp only [soL, this]
/-- where only other cells change, all stays -/
theorem Sim.keep {X X' Y Y' : Mem} (h : Sim X Y) (hx : ∀ c, (1 ≤ c ∧ c ≤ 10) ∨ c = 16 ∨ c = 17 ∨ c = 21 ∨ c = 22 → X'.1 c = X.1 c) (hy : ∀ c, 1 ≤ c → c ≤ 5 → Y'.1 c = Y.1 c) : Sim X' Y' := by
  obtain ⟨n0, n1, h0, h1, h2, h3⟩ := h
  have hc : ∀ c, 1 ≤ c → c ≤ 10 → X'.1 c = X.1 c := fun c a b => hx c (Or.inl ⟨a, b⟩)
  refine ⟨n0, n1, ?_, ?_, ?_, ?_⟩
  · unfold EqR at *
    simp only [hc 1 (by decide) (by decide), hc 2 (by decide) (by decide), hc 3 (by decide) (by decide), hc 4 (by decide) (by decide), hc 5 (by decide) (by decide), hy 1 (by decide) (by decide), hy 2 (by decide) (by decide), hy 3 (by decide) (by decide), hy 4 (by decide) (by decide), hy 5 (by decide) (by decide)]
    exact h0
  · unfold EqR at *
    simp only [hc 6 (by decide) (by decide), hc 7 (by decide) (by decide), hc 8 (by decide) (by decide), hc 9 (by decide) (by decide), hc 10 (by decide) (by decide), hy 1 (by decide) (by decide), hy 2 (by decide) (by decide), hy 3 (by decide) (by decide), hy 4 (by decide) (by decide), hy 5 (by decide) (by decide)]
    exact h1
  · rw [hx 16 (by omega)]
    rcases h2 with h2 | ⟨h2, a, b, c⟩
    · exact Or.inl h2
    · refine Or.inr ⟨h2, ?_⟩
      unfold CellC
      rw [clL_congr hc, isCr_congr hc, hx 16 (by omega), hx 17 (by omega)]
      exact ⟨a, b, c⟩
  · rw [hx 21 (by omega)]
    rcases h3 with h3 | ⟨m, a, b, c, d⟩
    · exact Or.inl h3
    · refine Or.inr ⟨m, a, ?_⟩
      rw [soL_congr hc, hx 21 (by omega), hx 22 (by omega)]
      exact ⟨b, c, d⟩

/-! rows of factors, and the runs of numbers that they send to nought -/
def sm (F : Nat → Int) : Nat → Int
  | 0 => 0
  | k + 1 => sm F k + F k
theorem sm_congr {F G : Nat → Int} : ∀ K, (∀ n, n < K → F n = G n) → sm F K = sm G K := by
  intro K
  induction K with
  | zero => intro _; rfl
  | succ K ih => intro h; show sm F K + F K = sm G K + G K; rw [ih (fun n hn => h n (by omega)), h K (by omega)]
theorem sm_lin (F G H : Nat → Int) (a b c : Int) : ∀ K, sm (fun n => c * H n - (a * F n - b * G n)) K = c * sm H K - (a * sm F K - b * sm G K) := by
  intro K
  induction K with
  | zero => show (0 : Int) = c * 0 - (a * 0 - b * 0); simp
  | succ K ih => show sm _ K + _ = c * (sm H K + H K) - (a * (sm F K + F K) - b * (sm G K + G K)); rw [ih]; grind
theorem sm_add (F G : Nat → Int) : ∀ K, sm (fun n => F n + G n) K = sm F K + sm G K := by
  intro K
  induction K with
  | zero => rfl
  | succ K ih => show sm _ K + _ = (sm F K + F K) + (sm G K + G K); rw [ih]; grind
theorem sm_mul (F : Nat → Int) (a : Int) : ∀ K, sm (fun n => a * F n) K = a * sm F K := by
  intro K
  induction K with
  | zero => show (0 : Int) = a * 0; simp
  | succ K ih => show sm _ K + _ = a * (sm F K + F K); rw [ih]; grind
theorem sm_zero {F : Nat → Int} : ∀ K, (∀ n, n < K → F n = 0) → sm F K = 0 := by
  intro K
  induction K with
  | zero => intro _; rfl
  | succ K ih => intro h; show sm F K + F K = 0; rw [ih (fun n hn => h n (by omega)), h K (by omega)]; rfl
theorem sm_tail {F : Nat → Int} {K : Nat} : ∀ T, K ≤ T → (∀ n, K ≤ n → n < T → F n = 0) → sm F T = sm F K := by
  intro T
  induction T with
  | zero => intro h _; have : K = 0 := by omega
            rw [this]
  | succ T ih =>
    intro h hz
    rcases Nat.lt_or_ge K (T + 1) with c | c
    · show sm F T + F T = _
      rw [ih (by omega) (fun n a b => hz n a (by omega)), hz T (by omega) (by omega)]; simp
    · have : K = T + 1 := by omega
      rw [this]
theorem sm_dvd {p : Int} {F : Nat → Int} : ∀ K, (∀ n, n < K → p ∣ F n) → p ∣ sm F K := by
  intro K
  induction K with
  | zero => intro _; exact ⟨0, by show (0 : Int) = _; simp⟩
  | succ K ih => intro h; exact Int.dvd_add (ih (fun n hn => h n (by omega))) (h K (by omega))
theorem sm_shift (G : Nat → Int) (k : Nat) : ∀ K, sm (fun n => if n < k then 0 else G (n - k)) (k + K) = sm G K := by
  intro K
  induction K with
  | zero => exact sm_zero k (fun n hn => if_pos hn)
  | succ K ih =>
    show sm _ (k + K) + (if k + K < k then 0 else G (k + K - k)) = sm G K + G K
    rw [ih, if_neg (by omega), Nat.add_sub_cancel_left]
def shf (k : Nat) (g : Nat → Int) (n : Nat) : Int := if n < k then 0 else g (n - k)
def LL (f s : Nat → Int) (j : Nat) : Int := sm (fun n => f n * s (n + j)) 12
theorem LL_shf {g : Nat → Int} {k : Nat} (hk : k < 12) (hg : ∀ n, 12 ≤ n + k → g n = 0) (s : Nat → Int) (j : Nat) : LL (shf k g) s j = LL g s (k + j) := by
  unfold LL
  have e1 := sm_shift (fun n => g n * s (n + (k + j))) k (12 - k)
  have e2 : k + (12 - k) = 12 := by omega
  rw [e2] at e1
  have e3 : sm (fun n => g n * s (n + (k + j))) 12 = sm (fun n => g n * s (n + (k + j))) (12 - k) := sm_tail 12 (by omega) (fun n a b => by rw [hg n (by omega)]; simp)
  rw [e3, ← e1]
  apply sm_congr
  intro n hn
  unfold shf
  by_cases c : n < k
  · rw [if_pos c, if_pos c]; simp
  · rw [if_neg c, if_neg c]
    have : n - k + (k + j) = n + j := by omega
    rw [this]
def Cls (p : Nat) (I : (Nat → Int) → Prop) : Prop := ∀ (f g h : Nat → Int) (a b c : Int) (k : Nat), ¬ (p : Int) ∣ c → k < 12 → (∀ n, 12 ≤ n + k → g n = 0) → (∀ n, (p : Int) ∣ c * h n - (a * f n - b * shf k g n)) → I f → I g → I h
theorem ann_cls {p : Nat} (hp : Pr p) (s : Nat → Int) : Cls p (fun w => ∀ j, (p : Int) ∣ LL w s j) := by
  intro f g h a b c k hc hk hg hh hf hg2 j
  have e : c * LL h s j - (a * LL f s j - b * LL (shf k g) s j) = sm (fun n => (c * h n - (a * f n - b * shf k g n)) * s (n + j)) 12 := by
    unfold LL
    rw [← sm_lin]
    apply sm_congr
    intro n _
    grind
  have d1 : (p : Int) ∣ c * LL h s j - (a * LL f s j - b * LL (shf k g) s j) := by
    rw [e]
    exact sm_dvd 12 (fun n _ => Int.dvd_mul_of_dvd_left (hh n))
  rw [LL_shf hk hg] at d1
  have d2 : (p : Int) ∣ a * LL f s j - b * LL g s (k + j) := Int.dvd_sub (Int.dvd_mul_of_dvd_right (hf j)) (Int.dvd_mul_of_dvd_right (hg2 (k + j)))
  have d3 : (p : Int) ∣ c * LL h s j := by
    have := Int.dvd_add d1 d2
    have e : c * LL h s j - (a * LL f s j - b * LL g s (k + j)) + (a * LL f s j - b * LL g s (k + j)) = c * LL h s j := by omega
    rw [e] at this
    exact this
  rcases hp.int d3 with w | w
  · exact absurd w hc
  · exact w
/-! runs that a row of factors makes -/
def win (a h : Nat → Int) (d : Nat) (b : Int) : Nat → Nat → Int
  | 0, i => a i
  | j + 1, i => if i + 1 < d then win a h d b j (i + 1) else -b * sm (fun m => h m * win a h d b j m) d
theorem win_at (a h : Nat → Int) (d : Nat) (b : Int) : ∀ i j, i < d → win a h d b j i = win a h d b (j + i) 0 := by
  intro i
  induction i with
  | zero => intro j _; rfl
  | succ i ih =>
    intro j hi
    have e : win a h d b (j + 1) i = win a h d b j (i + 1) := by
      show (if i + 1 < d then _ else _) = _
      rw [if_pos hi]
    rw [← e, ih (j + 1) (by omega)]
    congr 1
    omega
theorem run_ex {p : Nat} (hp : Pr p) {h : Nat → Int} {d : Nat} (h1 : 1 ≤ d) (h2 : d < 12) (hd : ¬ (p : Int) ∣ h d) (hz : ∀ n, d < n → h n = 0) (a : Nat → Int) : ∃ s : Nat → Int, (∀ i, i < d → s i = a i) ∧ ∀ j, (p : Int) ∣ LL h s j := by
  obtain ⟨b, hb⟩ := hp.inv hd
  refine ⟨fun j => win a h d b j 0, fun i hi => ?_, fun j => ?_⟩
  · have := win_at a h d b i 0 hi
    rw [Nat.zero_add] at this
    exact this.symm
  · unfold LL
    have t : sm (fun n => h n * win a h d b (n + j) 0) 12 = sm (fun n => h n * win a h d b (n + j) 0) (d + 1) := sm_tail 12 (by omega) (fun n x y => by rw [hz n (by omega)]; simp)
    show (p : Int) ∣ sm (fun n => h n * win a h d b (n + j) 0) 12
    rw [t]
    show (p : Int) ∣ sm (fun n => h n * win a h d b (n + j) 0) d + h d * win a h d b (d + j) 0
    have e1 : sm (fun n => h n * win a h d b (n + j) 0) d = sm (fun m => h m * win a h d b j m) d := sm_congr d (fun n hn => by rw [win_at a h d b n j hn, Nat.add_comm n j])
    have e2 : win a h d b (d + j) 0 = -b * sm (fun m => h m * win a h d b j m) d := by
      have w := win_at a h d b (d - 1) (j + 1) (by omega)
      have q : j + 1 + (d - 1) = d + j := by omega
      rw [q] at w
      rw [← w]
      show (if d - 1 + 1 < d then _ else _) = _
      rw [if_neg (by omega)]
    rw [e1, e2]
    obtain ⟨z, hz⟩ := hb
    exact ⟨-(z * sm (fun m => h m * win a h d b j m) d), by grind⟩
def vop (v : Nat → Int) (s : Nat → Int) : Nat → Nat → Int
  | 0, _ => 0
  | K + 1, m => vop v s K m + v K * s (K + m)
def mulp (v g : Nat → Int) : Nat → Nat → Int
  | 0, _ => 0
  | K + 1, n => mulp v g K n + v K * shf K g n
theorem LL_add (f s t : Nat → Int) (c : Int) (m j : Nat) : LL f (fun x => s x + c * t (m + x)) j = LL f s j + c * LL f t (m + j) := by
  unfold LL
  rw [← sm_mul, ← sm_add]
  apply sm_congr
  intro n _
  have : m + (n + j) = n + (m + j) := by omega
  show f n * (s (n + j) + c * t (m + (n + j))) = _
  rw [this]
  grind
theorem LL_vop (w v s : Nat → Int) (j : Nat) : ∀ K, LL w (vop v s K) j = sm (fun i => v i * LL w s (i + j)) K := by
  intro K
  induction K with
  | zero => exact sm_zero 12 (fun n _ => by show w n * 0 = 0; simp)
  | succ K ih =>
    show LL w (fun x => vop v s K x + v K * s (K + x)) j = sm _ K + v K * LL w s (K + j)
    rw [LL_add, ih]
theorem LL_radd (f g s : Nat → Int) (c : Int) (j : Nat) : LL (fun n => f n + c * g n) s j = LL f s j + c * LL g s j := by
  unfold LL
  rw [← sm_mul, ← sm_add]
  apply sm_congr
  intro n _
  grind
theorem LL_mulp {g : Nat → Int} (hg : ∀ n, 7 ≤ n → g n = 0) (v s : Nat → Int) (j : Nat) : ∀ K, K ≤ 6 → LL (mulp v g K) s j = sm (fun i => v i * LL g s (i + j)) K := by
  intro K
  induction K with
  | zero => intro _; exact sm_zero 12 (fun n _ => by show 0 * _ = 0; simp)
  | succ K ih =>
    intro hK
    show LL (fun x => mulp v g K x + v K * shf K g x) s j = sm _ K + v K * LL g s (K + j)
    rw [LL_radd, ih (by omega), LL_shf (by omega) (fun n hn => hg n (by omega))]
def YesP (p : Nat) (f g : Nat → Int) : Prop := ∃ s : Nat → Int, s 0 = 1 ∧ (∀ j, (p : Int) ∣ LL f s j) ∧ (∀ j, (p : Int) ∣ LL g s j)
def NoP (p : Nat) (f g : Nat → Int) : Prop := ∃ c : Nat → Int, ¬ (p : Int) ∣ c 0 ∧ (∀ n, 1 ≤ n → c n = 0) ∧ ∀ I, Cls p I → I f → I g → I c
theorem NoP.symm {p : Nat} {f g : Nat → Int} (h : NoP p f g) : NoP p g f := by
  obtain ⟨c, h1, h2, h3⟩ := h
  exact ⟨c, h1, h2, fun I hI a b => h3 I hI b a⟩
theorem LL_const {c : Nat → Int} (h : ∀ n, 1 ≤ n → c n = 0) (s : Nat → Int) (j : Nat) : LL c s j = c 0 * s j := by
  unfold LL
  have t : sm (fun n => c n * s (n + j)) 12 = sm (fun n => c n * s (n + j)) 1 := sm_tail 12 (by decide) (fun n x y => by rw [h n x]; simp)
  rw [t]
  show 0 + c 0 * s (0 + j) = _
  rw [Nat.zero_add, Int.zero_add]
theorem no_van {p : Nat} (hp : Pr p) {f g u v : Nat → Int} {d : Nat} (h1 : 1 ≤ d) (h2 : d ≤ 6) (hd : ¬ (p : Int) ∣ f d) (hf : ∀ n, d < n → f n = 0) (hg : ∀ n, 7 ≤ n → g n = 0) (hv : ∀ i, d ≤ i → v i = 0) (hN : NoP p f g) (hu : ∀ n, (p : Int) ∣ mulp u f 6 n + mulp v g 6 n) : ∀ i, (p : Int) ∣ v i := by
  intro i0
  rcases Nat.lt_or_ge i0 d with hi | hi
  · obtain ⟨s, s1, s2⟩ := run_ex hp h1 (by omega) hd hf (fun i => if i = i0 then 1 else 0)
    obtain ⟨c, c1, c2, c3⟩ := hN
    have hf7 : ∀ n, 7 ≤ n → f n = 0 := fun n hn => hf n (by omega)
    have q := c3 _ (ann_cls hp (vop v s 6)) (fun j => by
      rw [LL_vop]
      exact sm_dvd 6 (fun i _ => Int.dvd_mul_of_dvd_right (s2 (i + j)))) (fun j => by
      rw [LL_vop, ← LL_mulp hg v s j 6 (by decide)]
      have a1 : (p : Int) ∣ LL (fun n => mulp u f 6 n + 1 * mulp v g 6 n) s j := sm_dvd 12 (fun n _ => Int.dvd_mul_of_dvd_left (by show (p : Int) ∣ mulp u f 6 n + 1 * mulp v g 6 n; rw [Int.one_mul]; exact hu n))
      have a2 : (p : Int) ∣ LL (mulp u f 6) s j := by
        rw [LL_mulp hf7 u s j 6 (by decide)]
        exact sm_dvd 6 (fun i _ => Int.dvd_mul_of_dvd_right (s2 (i + j)))
      rw [LL_radd, Int.one_mul] at a1
      have := Int.dvd_sub a1 a2
      have e : LL (mulp u f 6) s j + LL (mulp v g 6) s j - LL (mulp u f 6) s j = LL (mulp v g 6) s j := by omega
      rw [e] at this
      exact this) 0
    rw [LL_const c2] at q
    rcases hp.int q with w | w
    · exact absurd w c1
    · have e : vop v s 6 0 = v i0 := by
        show (((((0 + v 0 * s (0 + 0)) + v 1 * s (1 + 0)) + v 2 * s (2 + 0)) + v 3 * s (3 + 0)) + v 4 * s (4 + 0)) + v 5 * s (5 + 0) = _
        have t : ∀ i, i < 6 → v i * s (i + 0) = if i = i0 then v i0 else 0 := by
          intro i _
          rcases Nat.lt_or_ge i d with c | c
          · show v i * s i = _
            rw [s1 i c]
            by_cases e : i = i0
            · rw [if_pos e, if_pos e, e]; simp
            · rw [if_neg e, if_neg e]; simp
          · rw [hv i c, if_neg (by omega)]; simp
        rw [t 0 (by decide), t 1 (by decide), t 2 (by decide), t 3 (by decide), t 4 (by decide), t 5 (by decide)]
        have : i0 = 0 ∨ i0 = 1 ∨ i0 = 2 ∨ i0 = 3 ∨ i0 = 4 ∨ i0 = 5 := by omega
        rcases this with rfl | rfl | rfl | rfl | rfl | rfl <;> simp
      rw [e] at w
      exact w
  · rw [hv i0 hi]; exact ⟨0, by simp⟩

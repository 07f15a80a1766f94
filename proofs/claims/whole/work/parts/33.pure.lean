/-! what a run comes to, as functions of whole numbers; the rows are named by the cells of the reference -/
def sumI : Nat → (Int → Int) → Int
  | 0, _ => 0
  | n + 1, f => sumI n f + f n
def maxI : Nat → (Int → Int) → Int
  | 0, _ => -1
  | n + 1, f => max (maxI n f) (f n)
def exB : Nat → (Int → Bool) → Bool
  | 0, _ => false
  | n + 1, p => exB n p || p n
def mkB : Nat → (Int → Bool) → Int
  | 0, _ => 0
  | n + 1, p => if p n = true then iOr (mkB n p) (1 * 2 ^ (n : Int).toNat) else mkB n p
def caF (P : Mem) (t j : Int) : Int := P 116 t + P 122 t + j * P 114 t
def com (P s : Mem) (τ t : Int) : Bool := tb (P 104 27) t && decide (τ = caF P t (s 123 t))
/-- a job comes; one begins, if none goes on; the task is told that it goes on, or not -/
def cmA (P : Mem) (τ t : Int) (s : Mem) : Mem := if com P s τ t = true then mset (mset s 126 (200 * t + s 123 t) (-1)) 123 t (s 123 t + 1) else s
def cmB (t : Int) (s : Mem) : Mem := if s 130 t = 0 ∧ s 124 t < s 123 t then mset (mset (mset (mset s 130 t 1) 127 t 0) 128 t 0) 124 t (s 124 t + 1) else s
def cmC (t : Int) (s : Mem) : Mem := mset (mset s 132 t (if s 130 t = 0 then 0 else 3)) 133 t 0
def comesF (P : Mem) (τ : Int) : Nat → Mem → Mem
  | 0, s => s
  | n + 1, s => cmC n (cmB n (cmA P τ n (comesF P τ n s)))
def cntO (s : Mem) (i h : Int) : Int := sumI 8 fun t => if ¬ t = i ∧ tb (s 129 t) h = true then 1 else 0
def tksP (P : Mem) (t h : Int) : Bool := exB (P 117 t).toNat fun k => decide (P 118 (20 * t + k) = 1) && decide (P 119 (20 * t + k) = h)
def hiR (P : Mem) (h : Int) : Int := maxI 8 fun t => if (tb (P 104 27) t && tksP P t h) = true then P 121 t else -1
def barB (P s : Mem) (i : Int) : Int := mkB 6 fun h => decide (P 104 34 = 2 ∧ h < P 104 0 ∧ 0 < cntO s i h ∧ P 121 i ≤ hiR P h)
def fulP (P s : Mem) (i h : Int) : Bool := decide (P 106 h ≤ cntO s i h)
def brkP (P : Mem) (τ h : Int) : Bool := decide (P 107 h ≤ τ ∧ τ ≤ P 108 h)
def wtX (P s : Mem) (i h : Int) : Int := iOr (barB P s i) (if fulP P s i h = true then 1 * 2 ^ h.toNat else 0)
def wtB (P s : Mem) (i h : Int) : Int := mkB 8 fun t => decide (¬ t = i) && decide (¬ iAnd (s 129 t) (wtX P s i h) = 0)
def waitP (P s : Mem) (τ i h : Int) : Bool := fulP P s i h || decide (¬ barB P s i = 0) || brkP P τ h
def endF (τ i : Int) (s : Mem) : Mem := mset (mset (mset s 126 (200 * i + s 124 i - 1) τ) 130 i 0) 129 i 0
def clrB (b h : Int) : Int := iAnd b (iXor (1 * 2 ^ h.toNat) (-1))
def doF (P : Mem) (τ i : Int) : Nat → Mem → Int × Mem
  | 0, s => (2, mset (endF τ i s) 132 i 0)
  | n + 1, s => if P 118 (20 * i + s 127 i) = 0 then (0, mset s 132 i 1)
    else if P 118 (20 * i + s 127 i) = 2 then doF P τ i n (mset (mset s 129 i (clrB (s 129 i) (P 119 (20 * i + s 127 i)))) 127 i (s 127 i + 1))
    else if waitP P s τ i (P 119 (20 * i + s 127 i)) = true then (1, mset (mset s 132 i 2) 133 i (wtB P s i (P 119 (20 * i + s 127 i))))
    else doF P τ i n (mset (mset s 129 i (iOr (s 129 i) (1 * 2 ^ (P 119 (20 * i + s 127 i)).toNat))) 127 i (s 127 i + 1))
/-- keys in force: the greatest ones that are no greater than the own ones, and than those of all that wait for one -/
def clF (w g : Int → Int) : Prop := ∀ t o, 0 ≤ t → t < 8 → 0 ≤ o → o < 8 → tb (w t) o = true → g o ≤ g t
def IsF (b w f : Int → Int) : Prop := (∀ t, 0 ≤ t → t < 8 → f t ≤ b t) ∧ clF w f ∧ ∀ g : Int → Int, (∀ t, 0 ≤ t → t < 8 → g t ≤ b t) → clF w g → ∀ t, 0 ≤ t → t < 8 → g t ≤ f t
noncomputable def frcF (b w : Int → Int) : Int → Int := @Classical.epsilon (Int → Int) ⟨fun _ => 0⟩ (IsF b w)
def kbF (P s : Mem) (t : Int) : Int := if P 104 33 = 0 then 99 - P 121 t else if P 104 33 = 1 then P 116 t + P 122 t + (s 124 t - 1) * P 114 t + P 115 t else s 131 t
def baF (P s : Mem) (t : Int) : Int := if s 130 t = 0 then 0 else kbF P s t
noncomputable def frc (P s : Mem) : Int → Int := if 0 < P 104 34 ∧ P 104 33 < 2 then frcF (baF P s) (s 133) else baF P s
def firB (P : Mem) : Int := mkB 6 fun h => decide (h < P 104 0 ∧ P 105 h = 2)
def firP (P s : Mem) (t : Int) : Bool := decide (¬ iAnd (s 129 t) (firB P) = 0)
def betF (f : Int → Int) (P s : Mem) (t : Int) (z : Int × Bool) : Bool := decide (z.1 = -1) || (firP P s t && !z.2) || (decide (firP P s t = z.2) && decide (f t < f z.1))
def nx (f : Int → Int) (P s : Mem) : Nat → Int × Bool
  | 0 => (-1, false)
  | n + 1 => if ¬ s 130 n = 0 ∧ s 132 n = 3 ∧ betF f P s n (nx f P s n) = true then ((n : Int), firP P s n) else nx f P s n
noncomputable def nextF (P s : Mem) : Int := (nx (frc P s) P s 8).1
def filF (P : Mem) (τ h : Int) (s : Mem) : Mem := fun c k => if c = 135 ∧ 3 * τ + h ≤ k ∧ k < 3 * τ + P 104 24 then -1 else s c k
noncomputable def choF (P : Mem) (τ : Int) : Nat → Int → Mem → Mem
  | 0, h, s => filF P τ h s
  | n + 1, h, s => if h < P 104 24 ∧ ¬ nextF P s = -1 then
      (if (doF P τ (nextF P s) (P 117 (nextF P s) - s 127 (nextF P s)).toNat s).1 = 0
        then choF P τ n (h + 1) (mset (doF P τ (nextF P s) (P 117 (nextF P s) - s 127 (nextF P s)).toNat s).2 135 (3 * τ + h) (nextF P s))
        else choF P τ n h (doF P τ (nextF P s) (P 117 (nextF P s) - s 127 (nextF P s)).toNat s).2)
    else filF P τ h s
/-- who reaches whom -/
def rchS (w : Int → Int) : Nat → Int → Int
  | 0, r => r
  | n + 1, r => if tb (rchS w n r) n = true then iOr (rchS w n r) (w n) else rchS w n r
def rchR (w : Int → Int) : Nat → Int → Int
  | 0, r => r
  | n + 1, r => rchS w 8 (rchR w n r)
def rngB (w : Int → Int) : Int := mkB 8 fun t => tb (rchR w 8 (w t)) t
def notF (s : Mem) (τ : Int) : Mem := fun c k =>
  if c = 136 ∧ 0 ≤ k ∧ k < 1600 ∧ k % 200 = τ then s 132 (k / 200)
  else if c = 104 ∧ k = 49 ∧ s 104 49 = -1 ∧ ¬ rngB (s 133) = 0 then τ
  else if c = 104 ∧ k = 50 ∧ s 104 49 = -1 ∧ ¬ rngB (s 133) = 0 then rngB (s 133)
  else s c k
def tkO (P : Mem) (t k : Int) : Int := P 119 (20 * t + k) + if t = P 104 30 ∧ k = P 104 31 then P 104 32 else 0
def givF (P : Mem) (t : Int) : Nat → Mem → Mem
  | 0, s => s
  | n + 1, s => if P 118 (20 * t + s 127 t) = 2 then givF P t n (mset (mset s 129 t (clrB (s 129 t) (P 119 (20 * t + s 127 t)))) 127 t (s 127 t + 1)) else s
def wkA (τ t : Int) (s : Mem) : Mem := mset (mset s 131 t τ) 128 t (s 128 t + 1)
def wkB (P : Mem) (t : Int) (s : Mem) : Mem := givF P t (P 117 t - (s 127 t + 1)).toNat (mset (mset s 128 t 0) 127 t (s 127 t + 1))
def wk1 (P : Mem) (τ t : Int) (s : Mem) : Mem :=
  if s 132 t = 1 then
    (if s 128 t + 1 = tkO P t (s 127 t) then
      (if wkB P t (wkA τ t s) 127 t = P 117 t then endF (τ + 1) t (wkB P t (wkA τ t s)) else wkB P t (wkA τ t s))
     else wkA τ t s)
  else s
def wkF (P : Mem) (τ : Int) : Nat → Mem → Mem
  | 0, s => s
  | n + 1, s => wk1 P τ n (wkF P τ n s)
/-- how a run begins; what else there is has no meaning -/
def IniS (s : Mem) : Prop := (∀ t, 0 ≤ t → t < 8 → s 123 t = 0 ∧ s 124 t = 0 ∧ s 129 t = 0 ∧ s 130 t = 0 ∧ s 131 t = -1) ∧ s 104 49 = -1 ∧ s 104 50 = 0
noncomputable def tickF (P s : Mem) (τ : Int) : Mem := wkF P τ 8 (notF (choF P τ 8 0 (comesF P τ 8 s)) τ)
noncomputable def rnF (P s0 : Mem) : Nat → Mem
  | 0 => s0
  | n + 1 => tickF P (rnF P s0 n) n
/-- what a run is told by: late, the longest, .. -/
def dnF (s : Mem) (t j : Int) : Int := s 126 (200 * t + j)
def ltJ (P s : Mem) (T t j : Int) : Bool := if dnF s t j = -1 then decide (caF P t j + P 115 t ≤ T) else decide (caF P t j + P 115 t < dnF s t j)
def ltF (P s : Mem) (T t : Int) : Int := sumI (s 123 t).toNat fun j => if ltJ P s T t j = true then 1 else 0
def ltA (P s : Mem) (T : Int) : Int := sumI 8 (ltF P s T)
def dmF (s : Mem) (t : Int) : Int := sumI (s 123 t).toNat fun j => if dnF s t j = -1 then 0 else 1
def lgF (P s : Mem) (t : Int) : Int := maxI (s 123 t).toNat fun j => if dnF s t j = -1 then -1 else dnF s t j - caF P t j
def tiF (s : Mem) (T t z : Int) : Int := sumI T.toNat fun k => if s 136 (200 * t + k) = z then 1 else 0
def bhF (P s : Mem) (T t : Int) : Int := sumI T.toNat fun k => if (exB 8 fun o => decide (s 136 (200 * o + k) = 1) && decide (P 111 o < P 111 t)) = true ∧ 1 < s 136 (200 * t + k) then 1 else 0
theorem ms_eq {M : Mem} {c : Nat} {k v : Int} : mset M c k v c k = v := by simp [mset]
theorem ms_ne {M : Mem} {c c' : Nat} {k k' v : Int} (h : ¬ (c' = c ∧ k' = k)) : mset M c k v c' k' = M c' k' := by simp only [mset, if_neg h]
theorem ms_c {M : Mem} {c c' : Nat} {k k' v : Int} (h : ¬ c' = c) : mset M c k v c' k' = M c' k' := ms_ne fun q => h q.1
theorem ms_k {M : Mem} {c : Nat} {k k' v : Int} (h : ¬ k' = k) : mset M c k v c k' = M c k' := ms_ne fun q => h q.2
theorem mkB_B (n : Nat) (p : Int → Bool) (hn : n ≤ 31) : inB (mkB n p) := by
  induction n with
  | zero => exact ⟨by simp [mkB], by simp [mkB]⟩
  | succ n ih =>
    simp only [mkB]
    split
    · exact or_B (ih (by omega)) (pow_B (by omega))
    · exact ih (by omega)
theorem tb_mkB (n : Nat) (p : Int → Bool) (hn : n ≤ 31) {i : Int} (hi : 0 ≤ i) : tb (mkB n p) i = (decide (i < n) && p i) := by
  induction n with
  | zero =>
    simp only [mkB, tb_zero]
    rw [decide_eq_false (by omega)]
    rfl
  | succ n ih =>
    simp only [mkB]
    have e := ih (by omega)
    by_cases hp : p n = true
    · rw [if_pos hp, tb_or (mkB_B n p (by omega)) (pow_B (by omega)), e, tb_pow (by omega) hi]
      by_cases h1 : i = n
      · subst h1
        rw [hp, decide_eq_true (by omega : (n : Int) < ((n + 1 : Nat) : Int)), decide_eq_true (rfl : (n : Int) = n)]
        simp
      · rw [decide_eq_false (by omega : ¬ (n : Int) = i), Bool.or_false]
        congr 1
        exact decide_eq_decide.mpr ⟨fun h => by omega, fun h => by omega⟩
    · rw [if_neg hp, e]
      by_cases h1 : i = n
      · subst h1
        rw [Bool.not_eq_true _ |>.mp hp]
        simp
      · congr 1
        exact decide_eq_decide.mpr ⟨fun h => by omega, fun h => by omega⟩
theorem mkB_lt {n : Nat} {p : Int → Bool} (hn : n ≤ 31) : mkB n p < 2 ^ n := lt_tb fun i hi => by
  rw [tb_mkB n p hn (by omega), decide_eq_false (by omega)]
  rfl
theorem sumI_congr {n : Nat} {f g : Int → Int} (h : ∀ k : Int, 0 ≤ k → k < n → f k = g k) : sumI n f = sumI n g := by
  induction n with
  | zero => rfl
  | succ n ih =>
    simp only [sumI]
    rw [ih fun k h0 h1 => h k h0 (by omega), h n (by omega) (by omega)]
theorem maxI_congr {n : Nat} {f g : Int → Int} (h : ∀ k : Int, 0 ≤ k → k < n → f k = g k) : maxI n f = maxI n g := by
  induction n with
  | zero => rfl
  | succ n ih =>
    simp only [maxI]
    rw [ih fun k h0 h1 => h k h0 (by omega), h n (by omega) (by omega)]
theorem exB_iff {n : Nat} {p : Int → Bool} : exB n p = true ↔ ∃ k : Int, 0 ≤ k ∧ k < n ∧ p k = true := by
  induction n with
  | zero => simp only [exB]; exact ⟨fun h => absurd h (by decide), fun ⟨k, h0, h1, _⟩ => by omega⟩
  | succ n ih =>
    simp only [exB, Bool.or_eq_true, ih]
    constructor
    · rintro (⟨k, h0, h1, h2⟩ | h)
      · exact ⟨k, h0, by omega, h2⟩
      · exact ⟨n, by omega, by omega, h⟩
    · rintro ⟨k, h0, h1, h2⟩
      by_cases e : k = n
      · subst e; exact Or.inr h2
      · exact Or.inl ⟨k, h0, by omega, h2⟩
theorem sumI_0 {n : Nat} {f : Int → Int} {b : Int} (h : ∀ k : Int, 0 ≤ k → k < n → 0 ≤ f k ∧ f k ≤ b) : 0 ≤ sumI n f ∧ sumI n f ≤ n * b := by
  induction n with
  | zero => simp [sumI]
  | succ n ih =>
    simp only [sumI]
    have h1 := ih fun k h0 h1 => h k h0 (by omega)
    have h2 := h n (by omega) (by omega)
    have e : (((n + 1 : Nat) : Int)) * b = n * b + b := by rw [Int.natCast_add, Int.add_mul]; simp
    rw [e]
    omega

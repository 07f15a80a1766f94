/-! orders -/
section
variable {M N : Mem} {A : Int} {o p e : Int → Int}
def falF (o : Int → Int) : Nat → Int
  | 0 => -1
  | m + 1 => if o ((m : Int) + 1) < o m then falF o m else m
def othF (o : Int → Int) (i : Int) : Nat → Int
  | 0 => 0
  | m + 1 => if o ((m : Int) + 1) < o i then othF o i m else (m : Int) + 1
def rvF : Nat → Int → Int → (Int → Int) → (Int → Int)
  | 0, _, _, o => o
  | m + 1, l, h, o => if l < h then rvF m (l + 1) (h - 1) (swF o l h) else o
def nxO (n : Nat) (o : Int → Int) : Int → Int := rvF 8 (falF o (n - 1) + 1) ((n : Int) - 1) (swF o (falF o (n - 1)) (othF o (falF o (n - 1)) (n - 1)))
theorem fal_B : ∀ m : Nat, -1 ≤ falF o m ∧ falF o m < m ∧ (0 ≤ falF o m → ¬ o (falF o m + 1) < o (falF o m)) := by
  intro m
  induction m with
  | zero => simp only [falF]; omega
  | succ m ih =>
    simp only [falF]
    split
    · exact ⟨ih.1, by omega, ih.2.2⟩
    · next h => exact ⟨by omega, by omega, fun _ => h⟩
theorem oth_B {i : Int} : ∀ m : Nat, 0 ≤ othF o i m ∧ othF o i m ≤ m := by
  intro m
  induction m with
  | zero => simp only [othF]; omega
  | succ m ih =>
    simp only [othF]
    split <;> omega
/-- places of orders, all of them -/
def pT : Nat → List Nat
  | 1 => [0]
  | 2 => [1, 10]
  | 3 => [12, 21, 102, 120, 201, 210]
  | 4 => [123, 132, 213, 231, 312, 321, 1023, 1032, 1203, 1230, 1302, 1320, 2013, 2031, 2103, 2130, 2301, 2310, 3012, 3021, 3102, 3120, 3201, 3210]
  | 5 => [1234, 1243, 1324, 1342, 1423, 1432, 2134, 2143, 2314, 2341, 2413, 2431, 3124, 3142, 3214, 3241, 3412, 3421, 4123, 4132, 4213, 4231, 4312, 4321, 10234, 10243, 10324, 10342, 10423, 10432, 12034, 12043, 12304, 12340, 12403, 12430, 13024, 13042, 13204, 13240, 13402, 13420, 14023, 14032, 14203, 14230, 14302, 14320, 20134, 20143, 20314, 20341, 20413, 20431, 21034, 21043, 21304, 21340, 21403, 21430, 23014, 23041, 23104, 23140, 23401, 23410, 24013, 24031, 24103, 24130, 24301, 24310, 30124, 30142, 30214, 30241, 30412, 30421, 31024, 31042, 31204, 31240, 31402, 31420, 32014, 32041, 32104, 32140, 32401, 32410, 34012, 34021, 34102, 34120, 34201, 34210, 40123, 40132, 40213, 40231, 40312, 40321, 41023, 41032, 41203, 41230, 41302, 41320, 42013, 42031, 42103, 42130, 42301, 42310, 43012, 43021, 43102, 43120, 43201, 43210]
  | _ => []
def pF (n m : Nat) (k : Int) : Int := ((((pT n).getD m 0 / 10 ^ (n - 1 - k.toNat)) % 10 : Nat) : Int)
def pmB (n m : Nat) : Bool :=
  (List.range n).all (fun k => decide (0 ≤ pF n m (k : Int) ∧ pF n m (k : Int) < (n : Int))) && (List.range n).all (fun j => (List.range n).any fun k => decide (pF n m (k : Int) = (j : Int))) && (if m + 1 < (pT n).length then decide (0 ≤ falF (pF n m) (n - 1)) && (List.range n).all (fun k => decide (nxO n (pF n m) (k : Int) = pF n (m + 1) (k : Int))) else decide (falF (pF n m) (n - 1) < 0)) && (List.range n).all (fun k => decide (pF n 0 (k : Int) = (k : Int)))
theorem pmB_all : [1, 2, 3, 4, 5].all (fun n => (List.range (pT n).length).all (pmB n)) = true := by decide +kernel
def fcN (n : Nat) : Nat := (pT n).length
theorem fc_B {n : Nat} (n1 : 1 ≤ n) (n5 : n ≤ 5) : 1 ≤ fcN n ∧ fcN n ≤ 120 := by
  have : n = 1 ∨ n = 2 ∨ n = 3 ∨ n = 4 ∨ n = 5 := by omega
  rcases this with rfl | rfl | rfl | rfl | rfl <;> decide +kernel
theorem pm_ok {n m : Nat} (n1 : 1 ≤ n) (n5 : n ≤ 5) (hm : m < fcN n) : (∀ k : Int, 0 ≤ k → k < n → 0 ≤ pF n m k ∧ pF n m k < n) ∧ (∀ j : Int, 0 ≤ j → j < n → ∃ k : Int, 0 ≤ k ∧ k < n ∧ pF n m k = j) ∧ (m + 1 < fcN n → 0 ≤ falF (pF n m) (n - 1) ∧ ∀ k : Int, 0 ≤ k → k < n → nxO n (pF n m) k = pF n (m + 1) k) ∧ (¬ m + 1 < fcN n → falF (pF n m) (n - 1) < 0) ∧ ∀ k : Int, 0 ≤ k → k < n → pF n 0 k = k := by
  have h := List.all_eq_true.mp (List.all_eq_true.mp pmB_all n (by simp; omega)) m (List.mem_range.mpr hm)
  unfold pmB at h
  simp only [Bool.and_eq_true] at h
  obtain ⟨⟨⟨h1, h2⟩, h3⟩, h4⟩ := h
  have all : ∀ (p : Nat → Bool) (k : Int), (List.range n).all p = true → 0 ≤ k → k < n → ∃ j : Nat, k = j ∧ p j = true := fun p k hp k0 k1 => ⟨k.toNat, by omega, List.all_eq_true.mp hp _ (List.mem_range.mpr (by omega))⟩
  refine ⟨fun k k0 k1 => ?_, fun j j0 j1 => ?_, fun q => ?_, fun q => ?_, fun k k0 k1 => ?_⟩
  · obtain ⟨i, rfl, w⟩ := all _ k h1 k0 k1
    exact of_decide_eq_true w
  · obtain ⟨i, rfl, w⟩ := all _ j h2 j0 j1
    obtain ⟨x, hx, w⟩ := List.any_eq_true.mp w
    have := List.mem_range.mp hx
    exact ⟨x, by omega, by omega, of_decide_eq_true w⟩
  · rw [if_pos (show m + 1 < (pT n).length from q)] at h3
    simp only [Bool.and_eq_true] at h3
    refine ⟨of_decide_eq_true h3.1, fun k k0 k1 => ?_⟩
    obtain ⟨i, rfl, w⟩ := all _ k h3.2 k0 k1
    exact of_decide_eq_true w
  · rw [if_neg (show ¬ m + 1 < (pT n).length from q)] at h3
    exact of_decide_eq_true h3
  · obtain ⟨i, rfl, w⟩ := all _ k h4 k0 k1
    exact of_decide_eq_true w
/-- rows that are numbered upward -/
def upw (n : Nat) (e : Int → Int) : Prop := ∀ a b : Int, 0 ≤ a → a < n → 0 ≤ b → b < n → (e a < e b ↔ a < b)
def ovr (n : Nat) (e o p : Int → Int) : Prop := ∀ k : Int, 0 ≤ k → k < n → o k = e (p k) ∧ 0 ≤ p k ∧ p k < n
theorem fal_m {n : Nat} (hu : upw n e) (ho : ovr n e o p) : ∀ m : Nat, m + 1 ≤ n → falF o m = falF p m := by
  intro m
  induction m with
  | zero => exact fun _ => rfl
  | succ m ih =>
    intro hm
    have a := ho m (by omega) (by omega)
    have b := ho ((m : Int) + 1) (by omega) (by omega)
    have iff := hu _ _ b.2.1 b.2.2 a.2.1 a.2.2
    simp only [falF]
    rw [a.1, b.1, ih (by omega)]
    by_cases q : p ((m : Int) + 1) < p m
    · rw [if_pos q, if_pos (iff.mpr q)]
    · rw [if_neg q, if_neg fun w => q (iff.mp w)]
theorem oth_m {n : Nat} {i : Int} (hu : upw n e) (ho : ovr n e o p) (i0 : 0 ≤ i) (i1 : i < n) : ∀ m : Nat, m + 1 ≤ n → othF o i m = othF p i m := by
  intro m
  induction m with
  | zero => exact fun _ => rfl
  | succ m ih =>
    intro hm
    have a := ho i i0 i1
    have b := ho ((m : Int) + 1) (by omega) (by omega)
    have iff := hu _ _ b.2.1 b.2.2 a.2.1 a.2.2
    simp only [othF]
    rw [a.1, b.1, ih (by omega)]
    by_cases q : p ((m : Int) + 1) < p i
    · rw [if_pos q, if_pos (iff.mpr q)]
    · rw [if_neg q, if_neg fun w => q (iff.mp w)]
theorem sw_m {n : Nat} {a b : Int} (ho : ovr n e o p) (a0 : 0 ≤ a) (a1 : a < n) (b0 : 0 ≤ b) (b1 : b < n) : ovr n e (swF o a b) (swF p a b) := by
  intro k k0 k1
  unfold swF
  by_cases q : k = a
  · rw [if_pos q, if_pos q]; exact ho b b0 b1
  · rw [if_neg q, if_neg q]
    by_cases q2 : k = b
    · rw [if_pos q2, if_pos q2]; exact ho a a0 a1
    · rw [if_neg q2, if_neg q2]; exact ho k k0 k1
theorem rv_m {n : Nat} : ∀ (m : Nat) (l h : Int) (o p : Int → Int), ovr n e o p → 0 ≤ l → h < n → ovr n e (rvF m l h o) (rvF m l h p) := by
  intro m
  induction m with
  | zero => exact fun _ _ _ _ h _ _ => h
  | succ m ih =>
    intro l h o p ho l0 h1
    simp only [rvF]
    by_cases q : l < h
    · rw [if_pos q, if_pos q]
      exact ih _ _ _ _ (sw_m ho l0 (by omega) (by omega) h1) (by omega) (by omega)
    · rw [if_neg q, if_neg q]; exact ho
theorem nx_m {n : Nat} (n1 : 1 ≤ n) (hu : upw n e) (ho : ovr n e o p) (hf : 0 ≤ falF p (n - 1)) : falF o (n - 1) = falF p (n - 1) ∧ ovr n e (nxO n o) (nxO n p) := by
  have ef := fal_m hu ho (n - 1) (by omega)
  have fb := fal_B (o := p) (n - 1)
  have ob := oth_B (o := p) (i := falF p (n - 1)) (n - 1)
  have eo := oth_m hu ho hf (by omega) (n - 1) (by omega)
  refine ⟨ef, ?_⟩
  unfold nxO
  rw [ef, eo]
  exact rv_m 8 _ _ _ _ (sw_m ho hf (by omega) ob.1 (by omega)) (by omega) (by omega)
end

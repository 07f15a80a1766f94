/-! where the cells lie behind the constructors, and the references, by rule -/
def plA (j : Int) : Nat := 11 + 4 * j.toNat
def shA (j : Int) : Nat := 43 + 2 * j.toNat
def ckA (B : Nat) (j : Int) : Nat := B + 6 + 2 * j.toNat
/-- the plan of a cook -/
def plC (c : Nat) : Nat := if c < 75 then 2 * c - 105 else 2 * c - 151
def moR : List Nat := [0, 107, 108, 109, 110, 111, 112, 113, 114, 0, 0, 115, 116, 117, 118, 119, 120, 121, 122, 0, 0, 0, 0, 0, 0, 0, 0, 0, 123, 124, 0, 0, 0, 0, 0, 125, 126, 127, 128, 129, 130, 131, 132, 133, 134, 135, 136, 137, 138, 0, 0, 0, 139, 140, 0, 0, 0, 0, 0, 141, 142, 143, 144, 145, 0]
def RF (c : Nat) (k : Int) : Nat :=
  if c = 5 then plA k + 2
  else if c = 10 then shA k + 2
  else if c = 53 then ckA 52 k + 2
  else if c = 76 then ckA 75 k + 2
  else if 11 ≤ c ∧ c < 43 then (if k = 0 then c + 3 else if k = 7 then c + 4 else c + 5)
  else if 43 ≤ c ∧ c < 51 then c + 3
  else if (58 ≤ c ∧ c < 74) ∨ (81 ≤ c ∧ c < 97) then (if k = 1 then c + 3 else plC c + 2)
  else if c = 52 ∨ c = 75 then (if k = 0 then 3 else c + 2 + k.toNat)
  else if c = 6 ∨ c = 97 then c + 2 + k.toNat
  else if c = 0 then ([3, 7, 8, 53, 54, 76, 12] : List Nat).getD k.toNat 0
  else if c = 1 then k.toNat + 2
  else if c = 51 then ([3, 7, 8] : List Nat).getD k.toNat 0
  else if c = 74 then ([8, 99, 77, 0, 0, 103, 0, 0, 0, 0, 0, 104, 0, 0, 105] : List Nat).getD k.toNat 0
  else if c = 104 then moR.getD k.toNat 0
  else 0
def R0 : Rfs := σ2.2.1
/-- a place that holds a reference -/
def rok (c k : Nat) : Bool := match K0[c]? with
  | some q => if q.1 < 10 then decide (k < cnN q.1) && decide (ftk q.1 k = 2) else decide (12 ≤ q.1) && decide (k < q.2)
  | none => false
def Rchk : Bool := (List.range 144).all fun c => (List.range 65).all fun k => !(rok c k) || decide (σ2.2.1 c k = RF c k)
theorem R0_ok : Rchk = true := by decide +kernel
theorem rok_lt {c k : Nat} (h : rok c k = true) : c < 144 ∧ k < 65 := by
  unfold rok at h
  split at h
  · next q hq =>
    have hc : c < 144 := (List.getElem?_eq_some_iff.mp hq).1
    have hb : ∀ q ∈ K0, q.1 < 10 ∧ cnN q.1 ≤ 65 ∨ 10 ≤ q.1 ∧ (12 ≤ q.1 → q.2 ≤ 65) := by decide +kernel
    have := hb q (List.mem_of_getElem? hq)
    split at h
    · simp only [Bool.and_eq_true, decide_eq_true_eq] at h
      exact ⟨hc, by omega⟩
    · simp only [Bool.and_eq_true, decide_eq_true_eq] at h
      exact ⟨hc, by omega⟩
  · cases h
theorem R0_F {c k : Nat} (h : rok c k = true) : R0 c k = RF c k := by
  have h1 := List.all_eq_true.mp (List.all_eq_true.mp R0_ok c (List.mem_range.mpr (rok_lt h).1)) k (List.mem_range.mpr (rok_lt h).2)
  simp only [h, Bool.not_true, Bool.false_or, decide_eq_true_eq] at h1
  exact h1
def isPl (P : Nat) : Prop := 11 ≤ P ∧ P < 43 ∧ (P - 11) % 4 = 0
def isSh (c : Nat) : Prop := 43 ≤ c ∧ c < 51 ∧ (c - 43) % 2 = 0
def isRb (B : Nat) : Prop := B = 52 ∨ B = 75
def isSt (c : Nat) : Prop := c = 6 ∨ c = 97
def isCk (c : Nat) : Prop := (58 ≤ c ∧ c < 74 ∧ c % 2 = 0) ∨ (81 ≤ c ∧ c < 97 ∧ c % 2 = 1)
theorem pl_mem {c : Nat} (h : isPl c) : c ∈ ([11, 15, 19, 23, 27, 31, 35, 39] : List Nat) := by
  obtain ⟨h1, h2, h3⟩ := h
  have : c = 11 ∨ c = 15 ∨ c = 19 ∨ c = 23 ∨ c = 27 ∨ c = 31 ∨ c = 35 ∨ c = 39 := by omega
  simpa using this
theorem sh_mem {c : Nat} (h : isSh c) : c ∈ ([43, 45, 47, 49] : List Nat) := by
  obtain ⟨h1, h2, h3⟩ := h
  have : c = 43 ∨ c = 45 ∨ c = 47 ∨ c = 49 := by omega
  simpa using this
theorem rb_mem {c : Nat} (h : isRb c) : c ∈ ([52, 75] : List Nat) := by simpa [isRb] using h
theorem st_mem {c : Nat} (h : isSt c) : c ∈ ([6, 97] : List Nat) := by simpa [isSt] using h
theorem ck_mem {c : Nat} (h : isCk c) : c ∈ ([58, 60, 62, 64, 66, 68, 70, 72, 81, 83, 85, 87, 89, 91, 93, 95] : List Nat) := by
  have : c = 58 ∨ c = 60 ∨ c = 62 ∨ c = 64 ∨ c = 66 ∨ c = 68 ∨ c = 70 ∨ c = 72 ∨ c = 81 ∨ c = 83 ∨ c = 85 ∨ c = 87 ∨ c = 89 ∨ c = 91 ∨ c = 93 ∨ c = 95 := by
    unfold isCk at h
    omega
  simpa using this
theorem kin_T {c ci n : Nat} (h : K0[c]? = some (ci, n)) : kin K0 c ci = True := eq_true ⟨n, h⟩
theorem arr_T {c kd n : Nat} (h : K0[c]? = some (kd, n)) (j : Int) : arr K0 c kd j = (0 ≤ j ∧ j < n) := by
  refine propext ⟨fun ⟨n', h1, h2⟩ => ?_, fun h2 => ⟨n, h, h2⟩⟩
  rw [h] at h1
  cases h1
  exact h2
theorem arq_T {c kd n : Nat} (h : K0[c]? = some (kd, n)) (h1 : 12 ≤ kd ∧ kd ≤ 14) (j : Int) : arq K0 c j = (0 ≤ j ∧ j < n) := by
  refine propext ⟨fun ⟨kd', n', h1, h2⟩ => ?_, fun h2 => ⟨kd, n, h, h1.1, h1.2, h2⟩⟩
  rw [h] at h1
  cases h1
  exact h2.2.2
theorem aln_T {c kd n : Nat} (h : K0[c]? = some (kd, n)) (h1 : 10 ≤ kd ∧ kd ≤ 14) (n' : Nat) : aln K0 c n' = (n' = n) := by
  refine propext ⟨fun ⟨kd', h2, h3⟩ => ?_, fun h2 => ⟨kd, by rw [h2]; exact h, h1⟩⟩
  rw [h] at h2
  cases h2
  rfl
theorem mem_all {l : List Nat} {P : Nat → Bool} (h : l.all P = true) {c : Nat} (hc : c ∈ l) : P c = true := List.all_eq_true.mp h c hc
theorem kpl {c : Nat} (h : isPl c) : K0[c]? = some (1, 13) := of_decide_eq_true (mem_all (l := [11, 15, 19, 23, 27, 31, 35, 39]) (P := fun c => decide (K0[c]? = some (1, 13))) (by decide +kernel) (pl_mem h))
theorem kpl1 {c : Nat} (h : isPl c) : K0[c + 1]? = some (10, 60) := of_decide_eq_true (mem_all (l := [11, 15, 19, 23, 27, 31, 35, 39]) (P := fun c => decide (K0[c + 1]? = some (10, 60))) (by decide +kernel) (pl_mem h))
theorem kpl2 {c : Nat} (h : isPl c) : K0[c + 2]? = some (10, 20) := of_decide_eq_true (mem_all (l := [11, 15, 19, 23, 27, 31, 35, 39]) (P := fun c => decide (K0[c + 2]? = some (10, 20))) (by decide +kernel) (pl_mem h))
theorem kpl3 {c : Nat} (h : isPl c) : K0[c + 3]? = some (10, 20) := of_decide_eq_true (mem_all (l := [11, 15, 19, 23, 27, 31, 35, 39]) (P := fun c => decide (K0[c + 3]? = some (10, 20))) (by decide +kernel) (pl_mem h))
theorem ksh {c : Nat} (h : isSh c) : K0[c]? = some (6, 4) := of_decide_eq_true (mem_all (l := [43, 45, 47, 49]) (P := fun c => decide (K0[c]? = some (6, 4))) (by decide +kernel) (sh_mem h))
theorem ksh1 {c : Nat} (h : isSh c) : K0[c + 1]? = some (10, 60) := of_decide_eq_true (mem_all (l := [43, 45, 47, 49]) (P := fun c => decide (K0[c + 1]? = some (10, 60))) (by decide +kernel) (sh_mem h))
theorem kck {c : Nat} (h : isCk c) : K0[c]? = some (0, 18) := of_decide_eq_true (mem_all (l := [58, 60, 62, 64, 66, 68, 70, 72, 81, 83, 85, 87, 89, 91, 93, 95]) (P := fun c => decide (K0[c]? = some (0, 18))) (by decide +kernel) (ck_mem h))
theorem kck1 {c : Nat} (h : isCk c) : K0[c + 1]? = some (10, 120) := of_decide_eq_true (mem_all (l := [58, 60, 62, 64, 66, 68, 70, 72, 81, 83, 85, 87, 89, 91, 93, 95]) (P := fun c => decide (K0[c + 1]? = some (10, 120))) (by decide +kernel) (ck_mem h))
theorem krb {c : Nat} (h : isRb c) : K0[c]? = some (3, 18) := of_decide_eq_true (mem_all (l := [52, 75]) (P := fun c => decide (K0[c]? = some (3, 18))) (by decide +kernel) (rb_mem h))
theorem krb1 {c : Nat} (h : isRb c) : K0[c + 1]? = some (12, 8) := of_decide_eq_true (mem_all (l := [52, 75]) (P := fun c => decide (K0[c + 1]? = some (12, 8))) (by decide +kernel) (rb_mem h))
theorem krb2 {c : Nat} (h : isRb c) : K0[c + 2]? = some (10, 120) := of_decide_eq_true (mem_all (l := [52, 75]) (P := fun c => decide (K0[c + 2]? = some (10, 120))) (by decide +kernel) (rb_mem h))
theorem krb3 {c : Nat} (h : isRb c) : K0[c + 3]? = some (10, 120) := of_decide_eq_true (mem_all (l := [52, 75]) (P := fun c => decide (K0[c + 3]? = some (10, 120))) (by decide +kernel) (rb_mem h))
theorem krb4 {c : Nat} (h : isRb c) : K0[c + 4]? = some (10, 120) := of_decide_eq_true (mem_all (l := [52, 75]) (P := fun c => decide (K0[c + 4]? = some (10, 120))) (by decide +kernel) (rb_mem h))
theorem krb5 {c : Nat} (h : isRb c) : K0[c + 5]? = some (10, 360) := of_decide_eq_true (mem_all (l := [52, 75]) (P := fun c => decide (K0[c + 5]? = some (10, 360))) (by decide +kernel) (rb_mem h))
theorem kst {c : Nat} (h : isSt c) : K0[c]? = some (5, 11) := of_decide_eq_true (mem_all (l := [6, 97]) (P := fun c => decide (K0[c]? = some (5, 11))) (by decide +kernel) (st_mem h))
theorem kst1 {c : Nat} (h : isSt c) : K0[c + 1]? = some (10, 8) := of_decide_eq_true (mem_all (l := [6, 97]) (P := fun c => decide (K0[c + 1]? = some (10, 8))) (by decide +kernel) (st_mem h))
theorem kst2 {c : Nat} (h : isSt c) : K0[c + 2]? = some (10, 8) := of_decide_eq_true (mem_all (l := [6, 97]) (P := fun c => decide (K0[c + 2]? = some (10, 8))) (by decide +kernel) (st_mem h))
theorem kst3 {c : Nat} (h : isSt c) : K0[c + 3]? = some (10, 8) := of_decide_eq_true (mem_all (l := [6, 97]) (P := fun c => decide (K0[c + 3]? = some (10, 8))) (by decide +kernel) (st_mem h))
theorem rpl0 {c : Nat} (h : isPl c) : R0 c 0 = c + 3 := by
  have h2 := of_decide_eq_true (mem_all (l := [11, 15, 19, 23, 27, 31, 35, 39]) (P := fun c => decide (rok c 0 = true ∧ RF c 0 = c + 3)) (by decide +kernel) (pl_mem h))
  exact (R0_F (k := 0) h2.1).trans h2.2
theorem rpl7 {c : Nat} (h : isPl c) : R0 c 7 = c + 4 := by
  have h2 := of_decide_eq_true (mem_all (l := [11, 15, 19, 23, 27, 31, 35, 39]) (P := fun c => decide (rok c 7 = true ∧ RF c 7 = c + 4)) (by decide +kernel) (pl_mem h))
  exact (R0_F (k := 7) h2.1).trans h2.2
theorem rpl8 {c : Nat} (h : isPl c) : R0 c 8 = c + 5 := by
  have h2 := of_decide_eq_true (mem_all (l := [11, 15, 19, 23, 27, 31, 35, 39]) (P := fun c => decide (rok c 8 = true ∧ RF c 8 = c + 5)) (by decide +kernel) (pl_mem h))
  exact (R0_F (k := 8) h2.1).trans h2.2
theorem rsh3 {c : Nat} (h : isSh c) : R0 c 3 = c + 3 := by
  have h2 := of_decide_eq_true (mem_all (l := [43, 45, 47, 49]) (P := fun c => decide (rok c 3 = true ∧ RF c 3 = c + 3)) (by decide +kernel) (sh_mem h))
  exact (R0_F (k := 3) h2.1).trans h2.2
theorem rck0 {c : Nat} (h : isCk c) : R0 c 0 = plC c + 2 := by
  have h2 := of_decide_eq_true (mem_all (l := [58, 60, 62, 64, 66, 68, 70, 72, 81, 83, 85, 87, 89, 91, 93, 95]) (P := fun c => decide (rok c 0 = true ∧ RF c 0 = plC c + 2)) (by decide +kernel) (ck_mem h))
  exact (R0_F (k := 0) h2.1).trans h2.2
theorem rck1 {c : Nat} (h : isCk c) : R0 c 1 = c + 3 := by
  have h2 := of_decide_eq_true (mem_all (l := [58, 60, 62, 64, 66, 68, 70, 72, 81, 83, 85, 87, 89, 91, 93, 95]) (P := fun c => decide (rok c 1 = true ∧ RF c 1 = c + 3)) (by decide +kernel) (ck_mem h))
  exact (R0_F (k := 1) h2.1).trans h2.2
theorem rrb0 {c : Nat} (h : isRb c) : R0 c 0 = 3 := by
  have h2 := of_decide_eq_true (mem_all (l := [52, 75]) (P := fun c => decide (rok c 0 = true ∧ RF c 0 = 3)) (by decide +kernel) (rb_mem h))
  exact (R0_F (k := 0) h2.1).trans h2.2
theorem rrb1 {c : Nat} (h : isRb c) : R0 c 1 = c + 3 := by
  have h2 := of_decide_eq_true (mem_all (l := [52, 75]) (P := fun c => decide (rok c 1 = true ∧ RF c 1 = c + 3)) (by decide +kernel) (rb_mem h))
  exact (R0_F (k := 1) h2.1).trans h2.2
theorem rrb2 {c : Nat} (h : isRb c) : R0 c 2 = c + 4 := by
  have h2 := of_decide_eq_true (mem_all (l := [52, 75]) (P := fun c => decide (rok c 2 = true ∧ RF c 2 = c + 4)) (by decide +kernel) (rb_mem h))
  exact (R0_F (k := 2) h2.1).trans h2.2
theorem rrb3 {c : Nat} (h : isRb c) : R0 c 3 = c + 5 := by
  have h2 := of_decide_eq_true (mem_all (l := [52, 75]) (P := fun c => decide (rok c 3 = true ∧ RF c 3 = c + 5)) (by decide +kernel) (rb_mem h))
  exact (R0_F (k := 3) h2.1).trans h2.2
theorem rrb4 {c : Nat} (h : isRb c) : R0 c 4 = c + 6 := by
  have h2 := of_decide_eq_true (mem_all (l := [52, 75]) (P := fun c => decide (rok c 4 = true ∧ RF c 4 = c + 6)) (by decide +kernel) (rb_mem h))
  exact (R0_F (k := 4) h2.1).trans h2.2
theorem rrb5 {c : Nat} (h : isRb c) : R0 c 5 = c + 7 := by
  have h2 := of_decide_eq_true (mem_all (l := [52, 75]) (P := fun c => decide (rok c 5 = true ∧ RF c 5 = c + 7)) (by decide +kernel) (rb_mem h))
  exact (R0_F (k := 5) h2.1).trans h2.2
theorem rst1 {c : Nat} (h : isSt c) : R0 c 1 = c + 3 := by
  have h2 := of_decide_eq_true (mem_all (l := [6, 97]) (P := fun c => decide (rok c 1 = true ∧ RF c 1 = c + 3)) (by decide +kernel) (st_mem h))
  exact (R0_F (k := 1) h2.1).trans h2.2
theorem rst2 {c : Nat} (h : isSt c) : R0 c 2 = c + 4 := by
  have h2 := of_decide_eq_true (mem_all (l := [6, 97]) (P := fun c => decide (rok c 2 = true ∧ RF c 2 = c + 4)) (by decide +kernel) (st_mem h))
  exact (R0_F (k := 2) h2.1).trans h2.2
theorem rst3 {c : Nat} (h : isSt c) : R0 c 3 = c + 5 := by
  have h2 := of_decide_eq_true (mem_all (l := [6, 97]) (P := fun c => decide (rok c 3 = true ∧ RF c 3 = c + 5)) (by decide +kernel) (st_mem h))
  exact (R0_F (k := 3) h2.1).trans h2.2
theorem pl_ck {c : Nat} (h : isCk c) : isPl (plC c) := by
  have h2 : (decide (11 ≤ plC c ∧ plC c < 43 ∧ (plC c - 11) % 4 = 0)) = true := mem_all (l := [58, 60, 62, 64, 66, 68, 70, 72, 81, 83, 85, 87, 89, 91, 93, 95]) (P := fun c => decide (11 ≤ plC c ∧ plC c < 43 ∧ (plC c - 11) % 4 = 0)) (by decide +kernel) (ck_mem h)
  have h3 : (11 ≤ plC c ∧ plC c < 43 ∧ (plC c - 11) % 4 = 0) := of_decide_eq_true h2
  exact h3
theorem arf {c : Nat} {B : Nat → Nat} {n : Nat} (h : (List.range n).all (fun k => decide (rok c k = true ∧ RF c k = B k)) = true) {j : Int} (h0 : 0 ≤ j) (h1 : j < n) : R0 c j = B j.toNat := by
  have h2 := of_decide_eq_true (List.all_eq_true.mp h j.toNat (List.mem_range.mpr (by omega)))
  have h3 := (R0_F h2.1).trans h2.2
  rw [Int.toNat_of_nonneg h0] at h3
  exact h3
theorem rcks {c : Nat} (h : isRb c) {j : Int} (h0 : 0 ≤ j) (h1 : j < 8) : R0 (c + 1) j = ckA c j + 2 := by
  rcases h with rfl | rfl
  · exact arf (B := fun k => ckA 52 k + 2) (n := 8) (by decide +kernel) h0 h1
  · exact arf (B := fun k => ckA 75 k + 2) (n := 8) (by decide +kernel) h0 h1
theorem rpls {j : Int} (h0 : 0 ≤ j) (h1 : j < 8) : R0 5 j = plA j + 2 := arf (B := fun k => plA k + 2) (n := 8) (by decide +kernel) h0 h1
theorem rshs {j : Int} (h0 : 0 ≤ j) (h1 : j < 4) : R0 10 j = shA j + 2 := arf (B := fun k => shA k + 2) (n := 4) (by decide +kernel) h0 h1
theorem isPl_A {j : Int} (h0 : 0 ≤ j) (h1 : j < 8) : isPl (plA j) := by unfold isPl plA; omega
theorem isSh_A {j : Int} (h0 : 0 ≤ j) (h1 : j < 4) : isSh (shA j) := by unfold isSh shA; omega
theorem isCk_A {B : Nat} (hB : isRb B) {j : Int} (h0 : 0 ≤ j) (h1 : j < 8) : isCk (ckA B j) := by unfold isRb at hB; unfold isCk ckA; omega
theorem plC_A {B : Nat} (hB : isRb B) {j : Int} (h0 : 0 ≤ j) (h1 : j < 8) : plC (ckA B j) = plA j := by rcases hB with rfl | rfl <;> (unfold plC ckA plA; split <;> omega)

section EL
variable {α : Type} {z : α}
theorem p1I_e {st : List AV} {f : Int → List AV → Option α} (h : p1I st f = some z) : ∃ x r, st = vI x :: r ∧ f x r = some z := by
  unfold p1I at h
  split at h
  · exact ⟨_, _, rfl, h⟩
  · cases h
theorem p2I_e {st : List AV} {f : Int → Int → List AV → Option α} (h : p2I st f = some z) : ∃ x y r, st = vI y :: vI x :: r ∧ f x y r = some z := by
  unfold p2I at h
  split at h
  · exact ⟨_, _, _, rfl, h⟩
  · cases h
theorem p2L_e {st : List AV} {f : Int → Int → List AV → Option α} (h : p2L st f = some z) : ∃ x y r, st = vL y :: vL x :: r ∧ f x y r = some z := by
  unfold p2L at h
  split at h
  · exact ⟨_, _, _, rfl, h⟩
  · cases h
theorem p1R_e {st : List AV} {f : Nat → List AV → Option α} (h : p1R st f = some z) : ∃ c r, st = vR (c + 2) :: r ∧ f c r = some z := by
  unfold p1R at h
  split at h
  · exact ⟨_, _, rfl, h⟩
  · cases h
theorem p2IR_e {st : List AV} {f : Int → Nat → List AV → Option α} (h : p2IR st f = some z) : ∃ j c r, st = vI j :: vR (c + 1) :: r ∧ f j c r = some z := by
  unfold p2IR at h
  split at h
  · exact ⟨_, _, _, rfl, h⟩
  · cases h
theorem p3_e {st : List AV} {f : AV → Int → Nat → List AV → Option α} (h : p3 st f = some z) : ∃ v j c r, st = v :: vI j :: vR (c + 2) :: r ∧ f v j c r = some z := by
  unfold p3 at h
  split at h
  · exact ⟨_, _, _, _, rfl, h⟩
  · cases h
theorem gI_e {ls : List AV} {i : Nat} {f : Int → Option α} (h : gI ls i f = some z) : ∃ x, ls[i]? = some (vI x) ∧ f x = some z := by
  unfold gI at h
  split at h
  · exact ⟨_, by assumption, h⟩
  · cases h
theorem gL_e {ls : List AV} {i : Nat} {f : Int → Option α} (h : gL ls i f = some z) : ∃ x, ls[i]? = some (vL x) ∧ f x = some z := by
  unfold gL at h
  split at h
  · exact ⟨_, by assumption, h⟩
  · cases h
theorem gR_e {ls : List AV} {i : Nat} {f : Nat → Option α} (h : gR ls i f = some z) : ∃ r, ls[i]? = some (vR (r + 1)) ∧ f (r + 1) = some z := by
  unfold gR at h
  split at h
  · exact ⟨_, by assumption, h⟩
  · cases h
theorem oI_e {v : AV} {f : Int → Option α} (h : oI v f = some z) : ∃ x, v = vI x ∧ f x = some z := by
  unfold oI at h
  split at h
  · exact ⟨_, rfl, h⟩
  · cases h
theorem oR_e {v : AV} {f : Nat → Option α} (h : oR v f = some z) : ∃ x, v = vR x ∧ f x = some z := by
  unfold oR at h
  split at h
  · exact ⟨_, rfl, h⟩
  · cases h
theorem sto1_e {ls : List AV} {i : Nat} {v : AV} {f : List AV → Option α} (h : sto1 ls i v f = some z) : i < ls.length ∧ cat2 (ls.getD (i - 1) vU) = false ∧ f (ls.set i v) = some z := by
  unfold sto1 at h
  split at h
  · next q => exact ⟨q.1, q.2, h⟩
  · cases h
theorem sto2_e {ls : List AV} {i : Nat} {v : AV} {f : List AV → Option α} (h : sto2 ls i v f = some z) : i + 1 < ls.length ∧ cat2 (ls.getD (i - 1) vU) = false ∧ f ((ls.set i v).set (i + 1) vU) = some z := by
  unfold sto2 at h
  split at h
  · next q => exact ⟨q.1, q.2.1, h⟩
  · cases h
theorem a1_e {a : List Nat} {f : Nat → Option α} (h : a1 a f = some z) : ∃ x r, a = x :: r ∧ f x = some z := by
  unfold a1 at h
  split at h
  · exact ⟨_, _, rfl, h⟩
  · cases h
theorem a2_e {a : List Nat} {f : Nat → Nat → Option α} (h : a2 a f = some z) : ∃ x y r, a = x :: y :: r ∧ f x y = some z := by
  unfold a2 at h
  split at h
  · exact ⟨_, _, _, rfl, h⟩
  · cases h
theorem ite_e {P : Prop} [Decidable P] {a : Option α} (h : (if P then a else none) = some z) : P ∧ a = some z := by
  by_cases hp : P
  · rw [if_pos hp] at h; exact ⟨hp, h⟩
  · rw [if_neg hp] at h; cases h
theorem kd_e {K : List (Nat × Nat)} {c : Nat} {f : Nat → Nat → Option α} (h : (match K[c]? with
    | some (kd, n) => f kd n
    | none => none) = some z) : ∃ kd n, K[c]? = some (kd, n) ∧ f kd n = some z := by
  split at h
  · exact ⟨_, _, by assumption, h⟩
  · cases h
end EL
theorem wdo_e {h : Nat} {w : Jvm.Cond} (q : wdo h w = true) : lw_tbl[h]? = some w := of_decide_eq_true q
theorem tgo_e {mi pc j : Nat} {off : Int} (q : tgo mi pc off j = true) : (pc : Int) + off = (spc mi j : Int) ∧ j < (bks mi).length := by
  simp only [tgo, Bool.and_eq_true, decide_eq_true_eq] at q
  exact q
theorem fldo_e {mi idx ci k h : Nat} (q : fldo mi idx ci k h = true) : fldW (mO mi) idx ((clD ci).2.1 k) ∧ ci < 10 ∧ k < cnN ci := by
  simp only [fldo, Bool.and_eq_true, Bool.or_eq_true, decide_eq_true_eq] at q
  refine ⟨?_, q.1.2, q.2⟩
  rcases q.1.1 with h1 | h1
  · exact Or.inl (bigW_of (wdo_e h1) rfl)
  · exact Or.inr (nstW_of (wdo_e h1) rfl)
theorem lks_off (ps : List (Int × Int)) (d x : Int) : Op.lookupswitch.offset ps d x = match lks ps x with
    | 0 => d
    | k + 1 => (ps.getD k (0, 0)).2 := by
  induction ps with
  | nil => simp [Op.lookupswitch.offset, lks]
  | cons q r ih =>
    obtain ⟨a, o⟩ := q
    by_cases h : x = a
    · subst h
      simp [Op.lookupswitch.offset, lks]
    · simp only [lks, h, if_false]
      have e : Op.lookupswitch.offset ((a, o) :: r) d x = Op.lookupswitch.offset r d x := by
        simp [Op.lookupswitch.offset, h, Ne.symm h]
      rw [e, ih]
      cases lks r x <;> simp
theorem lks_lt (ps : List (Int × Int)) (x : Int) {k : Nat} (h : lks ps x = k + 1) : k < ps.length := by
  induction ps generalizing k with
  | nil => simp [lks] at h
  | cons q r ih =>
    simp only [lks] at h
    split at h
    · have : k = 0 := by omega
      subst this
      simp
    · split at h
      · cases h
      · next k2 hk =>
        have := ih hk
        simp only [List.length_cons]
        omega

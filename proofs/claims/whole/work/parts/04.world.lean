/-! the small machine's cells as a world of the kit -/
def isNst (w : Jvm.Cond) : Bool := match w with
  | .fieldLinkNest _ _ _ _ _ _ => true
  | .methodLinkNest _ _ _ _ => true
  | _ => false
def bigW : List Jvm.Cond := lw_tbl.filter goodWord
def nstW : List Jvm.Cond := lw_tbl.filter isNst
theorem bigW_of {i : Nat} {w : Jvm.Cond} (h : lw_tbl[i]? = some w) (hg : goodWord w = true) : w ∈ bigW := List.mem_filter.mpr ⟨List.mem_of_getElem? h, hg⟩
theorem nstW_of {i : Nat} {w : Jvm.Cond} (h : lw_tbl[i]? = some w) (hg : isNst w = true) : w ∈ nstW := List.mem_filter.mpr ⟨List.mem_of_getElem? h, hg⟩
def ty5 (cA : Nat → ClassId) : List (ClassId × FieldType) := [(cA 0, .int), (cA 1, .boolean), (cA 2, .object RX0), (cA 3, .object RX1), (cA 4, .object RX6)]
def rfo (n0 b r : Nat) : Option Nat := match r with
  | 0 => none
  | 1 => some b
  | c + 2 => some (n0 + c)
def cvR (n0 b r : Nat) : Value := va_rf (rfo n0 b r)
def cv (n0 b : Nat) (v : AV) : Value := match v with
  | .inl i => .int (Int32.ofInt i)
  | .inr (.inl l) => .long (Int64.ofInt l)
  | .inr (.inr (.inl r)) => cvR n0 b r
  | .inr (.inr (.inr _)) => .null
def cfs (n0 b : Nat) (R : Rfs) (M : Mem) (c kd : Nat) : List Value := (List.range (cnN kd)).map (fun k => if ftk kd k = 2 then cvR n0 b (R c k) else .int (Int32.ofInt (M c k)))
def ce (n0 b : Nat) (cA : Nat → ClassId) (R : Rfs) (M : Mem) (c : Nat) (q : Nat × Nat) : va_E :=
  if q.1 < 10 then .inr (q.1, cfs n0 b R M c q.1)
  else if q.1 < 12 then .inl (cA (q.1 - 10), q.2, .inl (fun j => Int32.ofInt (M c j)))
  else .inl (cA (q.1 - 10), q.2, .inr (.inr (.inr (.inr (fun j => rfo n0 b (R c j))))))
def wd (n0 b : Nat) (cA : Nat → ClassId) (σ : Sg) : va_W := (List.range σ.1.length).map (fun c => (n0 + c, ce n0 b cA σ.2.1 σ.2.2 c (σ.1.getD c (0, 0))))
theorem wd_len (n0 b : Nat) (cA : Nat → ClassId) (σ : Sg) : (wd n0 b cA σ).length = σ.1.length := by simp [wd]
theorem wd_get {n0 b : Nat} {cA : Nat → ClassId} {σ : Sg} {c : Nat} {q : Nat × Nat} (h : σ.1[c]? = some q) : (wd n0 b cA σ)[c]? = some (n0 + c, ce n0 b cA σ.2.1 σ.2.2 c q) := by
  have hl : c < σ.1.length := (List.getElem?_eq_some_iff.mp h).1
  have hq : σ.1.getD c (0, 0) = q := by simp [List.getD_eq_getElem?_getD, h]
  unfold wd
  rw [List.getElem?_map, List.getElem?_range hl, Option.map_some, hq]
theorem wd_set {n0 b : Nat} {cA : Nat → ClassId} {K : List (Nat × Nat)} {R R' : Rfs} {M M' : Mem} {c : Nat} {q : Nat × Nat} {x : va_E} (h : K[c]? = some q) (hx : ce n0 b cA R' M' c q = x)
    (ho : ∀ c' q', c' ≠ c → ce n0 b cA R' M' c' q' = ce n0 b cA R M c' q') : (wd n0 b cA (K, R, M)).set c (n0 + c, x) = wd n0 b cA (K, R', M') := by
  have hl : c < K.length := (List.getElem?_eq_some_iff.mp h).1
  apply List.ext_getElem?
  intro i
  by_cases hi : i = c
  · subst hi
    rw [List.getElem?_set_self (by rw [wd_len]; exact hl), wd_get (σ := (K, R', M')) h, hx]
  · rw [List.getElem?_set_ne (Ne.symm hi)]
    cases hk : K[i]? with
    | some q' => rw [wd_get (σ := (K, R, M)) hk, wd_get (σ := (K, R', M')) hk, ho i q' hi]
    | none =>
      have hi2 : K.length ≤ i := by simpa using hk
      rw [List.getElem?_eq_none (by rw [wd_len]; exact hi2), List.getElem?_eq_none (by rw [wd_len]; exact hi2)]
theorem wd_push {n0 b : Nat} {cA : Nat → ClassId} {K : List (Nat × Nat)} {R R' : Rfs} {M M' : Mem} {q : Nat × Nat} {x : va_E} (hx : ce n0 b cA R' M' K.length q = x)
    (ho : ∀ c' q', c' ≠ K.length → ce n0 b cA R' M' c' q' = ce n0 b cA R M c' q') : wd n0 b cA (K, R, M) ++ [(n0 + K.length, x)] = wd n0 b cA (K ++ [q], R', M') := by
  have e : (List.range K.length).map (fun c => (n0 + c, ce n0 b cA R' M' c ((K ++ [q]).getD c (0, 0)))) = (List.range K.length).map (fun c => (n0 + c, ce n0 b cA R M c (K.getD c (0, 0)))) := by
    apply List.map_congr_left
    intro i hi
    have hi' : i < K.length := List.mem_range.mp hi
    rw [ho i _ (Nat.ne_of_lt hi')]
    simp [List.getD_eq_getElem?_getD, List.getElem?_append_left hi']
  unfold wd
  simp only [List.length_append, List.length_singleton, List.range_succ, List.map_append, List.map_cons, List.map_nil]
  rw [e, ← hx]
  simp [List.getD_eq_getElem?_getD]
theorem wd_D (n0 b : Nat) (cA : Nat → ClassId) (σ : Sg) : va_D (fun q => n0 ≤ q) (wd n0 b cA σ) := by
  have key : ∀ (i : Nat) (p : Nat × va_E), (wd n0 b cA σ)[i]? = some p → p.1 = n0 + i := by
    intro i p h
    have hl : i < σ.1.length := by rw [← wd_len n0 b cA σ]; exact (List.getElem?_eq_some_iff.mp h).1
    rw [wd_get (List.getElem?_eq_getElem hl)] at h
    cases h
    rfl
  exact ⟨fun i j p q hi hj hpq => by have := key i p hi; have := key j q hj; omega, fun k q h => by rw [key k q h]; exact Nat.le_add_right _ _⟩
def slN (K : List (Nat × Nat)) : Nat := (K.map (fun q => q.2)).sum
theorem slN_push (K : List (Nat × Nat)) (q : Nat × Nat) : slN (K ++ [q]) = slN K + q.2 := by simp [slN]
def inL (i : Int) : Prop := -9223372036854775808 ≤ i ∧ i ≤ 9223372036854775807
def okv (v : AV) : Prop := match v with
  | .inl x => inR x
  | .inr (.inl x) => inL x
  | _ => True
def INV (ls st : List AV) (σ : Sg) : Prop := (∀ v ∈ ls, okv v) ∧ (∀ v ∈ st, okv v) ∧ (∀ c j, inR (σ.2.2 c j)) ∧ ∀ q ∈ σ.1, q.2 ≤ 100000
def WH (n0 b L : Nat) (sx : Int → Int) (D : va_G) (cA : Nat → ClassId) (s : State) (σ : Sg) (H : Heap) : Prop :=
  H.size = n0 + σ.1.length ∧ va_P D vwCl (wd n0 b cA σ) H ∧ va_X b L (fun j => Int32.ofInt (sx j)) s H ∧ b < n0 ∧ L ≤ 100000 ∧ ∀ j, inR (sx j)
/-! the locals -/
def isU (v : AV) : Bool := match v with
  | .inr (.inr (.inr _)) => true
  | _ => false
def lst (n0 b : Nat) (ls : List AV) : List (Nat × Value) := (List.range ls.length).filterMap (fun i => match ls[i]? with
  | some v => if isU v = true then none else some (i, cv n0 b v)
  | none => none)
theorem lst_mem {n0 b : Nat} {ls : List AV} {i : Nat} {v : AV} (h : ls[i]? = some v) (hu : isU v = false) : (i, cv n0 b v) ∈ lst n0 b ls := by
  refine List.mem_filterMap.mpr ⟨i, List.mem_range.mpr (List.getElem?_eq_some_iff.mp h).1, ?_⟩
  simp [h, hu]
theorem lst_of {n0 b : Nat} {ls : List AV} {q : Nat × Value} (h : q ∈ lst n0 b ls) : ∃ v, ls[q.1]? = some v ∧ isU v = false ∧ q.2 = cv n0 b v := by
  obtain ⟨i, -, hi⟩ := List.mem_filterMap.mp h
  cases hv : ls[i]? with
  | none => rw [hv] at hi; cases hi
  | some v =>
    rw [hv] at hi
    dsimp only at hi
    by_cases hu : isU v = true
    · rw [if_pos hu] at hi; cases hi
    · rw [if_neg hu] at hi
      cases hi
      exact ⟨v, hv, by simpa using hu, rfl⟩
def LH (n0 b : Nat) (lsA : Array Slot) (nL : Nat) (ls : List AV) : Prop := ls.length = nL ∧ lv_has lsA nL (lst n0 b ls)
theorem LH.get {n0 b nL : Nat} {lsA : Array Slot} {ls : List AV} (h : LH n0 b lsA nL ls) {i : Nat} {v : AV} (hv : ls[i]? = some v) (hu : isU v = false) : lsA[i]? = some (.val (cv n0 b v)) := h.2.2.2 _ (lst_mem hv hu)
theorem LH.place {n0 b nL : Nat} {lsA : Array Slot} {ls : List AV} (_ : LH n0 b lsA nL ls) {i : Nat} {v : AV} (hv : ls[i]? = some v) (hu : isU v = false) : ∃ k : Nat, (lst n0 b ls)[k]? = some (i, cv n0 b v) := List.getElem?_of_mem (lst_mem hv hu)
theorem cv_cat {n0 b : Nat} {v : AV} (h : cat2 v = false) : (cv n0 b v).category = 1 := by
  rcases v with x | x | r | u
  · rfl
  · simp [cat2] at h
  · show (va_rf (rfo n0 b r)).category = 1
    cases rfo n0 b r <;> rfl
  · rfl
theorem cv_catn (n0 b : Nat) (v : AV) : (cv n0 b v).category = catn v := by
  rcases v with x | x | r | u
  · rfl
  · rfl
  · show (va_rf (rfo n0 b r)).category = 1
    cases rfo n0 b r <;> rfl
  · rfl
theorem cv_catS (n0 b : Nat) (st : List AV) : ((st.map (cv n0 b)).map fun v => v.category).sum = catS st := by
  induction st with
  | nil => rfl
  | cons v r ih => simp only [List.map_cons, List.sum_cons, catS] at ih ⊢; rw [ih, cv_catn]
theorem getD_prev {ls : List AV} {i j : Nat} {w : AV} (h : ls[j]? = some w) (e : j + 1 = i) (hc : cat2 (ls.getD (i - 1) vU) = false) : cat2 w = false := by
  subst e
  rw [Nat.add_sub_cancel, List.getD_eq_getElem?_getD, h] at hc
  exact hc
theorem LH.st1 {n0 b nL : Nat} {lsA lsB : Array Slot} {ls : List AV} (h : LH n0 b lsA nL ls) {i : Nat} {v : AV} (hc : cat2 (ls.getD (i - 1) vU) = false) (hi : i < ls.length)
    (hB : lv_has lsB nL ((i, cv n0 b v) :: (lst n0 b ls).filter (fun q => !(q.1 == i) && !(q.1 + 1 == i && q.2.category == 2)))) : LH n0 b lsB nL (ls.set i v) := by
  refine ⟨by rw [List.length_set]; exact h.1, hB.1, hB.2.1, fun q hq => hB.2.2 q ?_⟩
  obtain ⟨w, h1, h2, h3⟩ := lst_of hq
  obtain ⟨j, q2⟩ := q
  dsimp only at h1 h3
  subst h3
  by_cases hj : j = i
  · subst hj
    rw [List.getElem?_set_self hi] at h1
    cases h1
    exact List.mem_cons_self
  · rw [List.getElem?_set_ne (Ne.symm hj)] at h1
    refine List.mem_cons_of_mem _ (List.mem_filter.mpr ⟨lst_mem h1 h2, ?_⟩)
    by_cases hj2 : j + 1 = i
    · have := cv_cat (n0 := n0) (b := b) (getD_prev h1 hj2 hc)
      simp [hj, this]
    · simp [hj, hj2]
theorem LH.st2 {n0 b nL : Nat} {lsA lsB : Array Slot} {ls : List AV} (h : LH n0 b lsA nL ls) {i : Nat} {v : AV} (hc : cat2 (ls.getD (i - 1) vU) = false) (hi : i + 1 < ls.length)
    (hB : lv_has lsB nL ((i, cv n0 b v) :: (lst n0 b ls).filter (fun q => !(q.1 == i) && (!(q.1 == i + 1) && !(q.1 + 1 == i && q.2.category == 2))))) : LH n0 b lsB nL ((ls.set i v).set (i + 1) vU) := by
  refine ⟨by rw [List.length_set, List.length_set]; exact h.1, hB.1, hB.2.1, fun q hq => hB.2.2 q ?_⟩
  obtain ⟨w, h1, h2, h3⟩ := lst_of hq
  obtain ⟨j, q2⟩ := q
  dsimp only at h1 h3
  subst h3
  by_cases hk : j = i + 1
  · subst hk
    rw [List.getElem?_set_self (by rw [List.length_set]; exact hi)] at h1
    cases h1
    simp [isU] at h2
  · rw [List.getElem?_set_ne (Ne.symm hk)] at h1
    by_cases hj : j = i
    · subst hj
      rw [List.getElem?_set_self (by omega)] at h1
      cases h1
      exact List.mem_cons_self
    · rw [List.getElem?_set_ne (Ne.symm hj)] at h1
      refine List.mem_cons_of_mem _ (List.mem_filter.mpr ⟨lst_mem h1 h2, ?_⟩)
      by_cases hj2 : j + 1 = i
      · have := cv_cat (n0 := n0) (b := b) (getD_prev h1 hj2 hc)
        simp [hj, hk, this]
      · simp [hj, hk, hj2]
theorem mem_set_ok {ls : List AV} {i : Nat} {v : AV} (h : ∀ w ∈ ls, okv w) (hv : okv v) : ∀ w ∈ ls.set i v, okv w := fun w hw => by
  rcases List.mem_or_eq_of_mem_set hw with h1 | h1
  · exact h w h1
  · rw [h1]; exact hv
/-! numbers -/
theorem n32 {x : Int} (h : inR x) : (Int32.ofInt x).toInt = x := Int32.toInt_ofInt_of_le h.1 (by have := h.2; omega)
theorem n64 {x : Int} (h : inL x) : (Int64.ofInt x).toInt = x := Int64.toInt_ofInt_of_le h.1 (by have := h.2; omega)
theorem r32 (x : Int32) : inR x.toInt := ⟨x.le_toInt, by have := x.toInt_lt; omega⟩
theorem r64 (x : Int64) : inL x.toInt := ⟨x.le_toInt, by have := x.toInt_lt; omega⟩
theorem n32_eq {x y : Int} (hx : inR x) (hy : inR y) : Int32.ofInt x = Int32.ofInt y ↔ x = y := by rw [← Int32.toInt_inj, n32 hx, n32 hy]
theorem n32_lt {x y : Int} (hx : inR x) (hy : inR y) : Int32.ofInt x < Int32.ofInt y ↔ x < y := by rw [Int32.lt_iff_toInt_lt, n32 hx, n32 hy]
theorem n32_le {x y : Int} (hx : inR x) (hy : inR y) : Int32.ofInt x ≤ Int32.ofInt y ↔ x ≤ y := by rw [Int32.le_iff_toInt_le, n32 hx, n32 hy]
theorem n32_nat {x : Int} (h : 0 ≤ x) : Int32.ofInt x = nI x.toNat := by
  obtain ⟨n, rfl⟩ := Int.eq_ofNat_of_zero_le h
  rfl
theorem n32_cl {x : Int} (h0 : 0 ≤ x) (h : inR x) : (Int32.ofInt x).toNatClampNeg = x.toNat := by
  rw [n32_nat h0]; exact nI_clamp (by have := h.2; omega)
theorem n32_in {x : Int} {n : Nat} (h0 : 0 ≤ x) (h : inR x) (hn : x < n) : vp_in (Int32.ofInt x) n := by
  rw [n32_nat h0]
  refine fun q => q.elim (fun q => nI_pos (by have := h.2; omega) q) (fun q => ?_)
  rw [nI_clamp (by have := h.2; omega)] at q
  omega
theorem n32_div {x y : Int} (hx : 0 ≤ x) (hy : 0 < y) (h1 : inR x) (h2 : inR y) : Int32.ofInt x / Int32.ofInt y = Int32.ofInt (x / y) := by
  rw [n32_nat hx, n32_nat (Int.le_of_lt hy), pk_div (by have := h1.2; omega) (by omega) (by have := h2.2; omega), n32_nat (Int.ediv_nonneg hx (Int.le_of_lt hy))]
  congr 1
  obtain ⟨n, rfl⟩ := Int.eq_ofNat_of_zero_le hx
  obtain ⟨k, rfl⟩ := Int.eq_ofNat_of_zero_le (Int.le_of_lt hy)
  show n / k = _
  rw [← Int.natCast_ediv, Int.toNat_natCast]
theorem n32_mod {x y : Int} (hx : 0 ≤ x) (hy : 0 < y) (h1 : inR x) (h2 : inR y) : Int32.ofInt x - Int32.ofInt x / Int32.ofInt y * Int32.ofInt y = Int32.ofInt (x % y) := by
  rw [n32_nat hx, n32_nat (Int.le_of_lt hy), pk_rem (by have := h1.2; omega) (by omega) (by have := h2.2; omega), n32_nat (Int.emod_nonneg _ (by omega))]
  congr 1
  obtain ⟨n, rfl⟩ := Int.eq_ofNat_of_zero_le hx
  obtain ⟨k, rfl⟩ := Int.eq_ofNat_of_zero_le (Int.le_of_lt hy)
  show n % k = _
  rw [← Int.natCast_emod, Int.toNat_natCast]
theorem sm_31 : ∀ n, n < 31 → ((nI n &&& 31).toBitVec.smod 32).toNat = n := by decide +kernel
theorem um_31 : ∀ n, n < 31 → (((nI n).toUInt32 &&& Int32.toUInt32 31).toBitVec % 32).toNat = n := by decide +kernel
theorem n32_shl {x y : Int} (hx : 0 ≤ x) (hy : 0 ≤ y) (hy2 : y ≤ 30) (h : x * 2 ^ y.toNat ≤ 2147483647) : Int32.ofInt x <<< (Int32.ofInt y &&& 31) = Int32.ofInt (x * 2 ^ y.toNat) := by
  obtain ⟨n, rfl⟩ := Int.eq_ofNat_of_zero_le hx
  obtain ⟨k, rfl⟩ := Int.eq_ofNat_of_zero_le hy
  have h3 : n * 2 ^ k ≤ 2147483647 := by
    have : ((n * 2 ^ k : Nat) : Int) ≤ 2147483647 := by simpa using h
    omega
  have h4 := pk_shlN (n := n) (nI k &&& 31) k (sm_31 k (by omega)) (by omega)
  have h5 : (n : Int) * 2 ^ (k : Int).toNat = ((n * 2 ^ k : Nat) : Int) := by simp
  rw [h5]
  exact h4
theorem n32_shr {x y : Int} (hx : 0 ≤ x) (hy : 0 ≤ y) (hy2 : y ≤ 30) (h : inR x) : Int32.ofInt x >>> (Int32.ofInt y &&& 31) = Int32.ofInt (x / 2 ^ y.toNat) := by
  obtain ⟨n, rfl⟩ := Int.eq_ofNat_of_zero_le hx
  obtain ⟨k, rfl⟩ := Int.eq_ofNat_of_zero_le hy
  have h4 := pk_shrN (n := n) (by have := h.2; omega) (nI k &&& 31) k (sm_31 k (by omega))
  have h5 : (n : Int) / 2 ^ (k : Int).toNat = ((n / 2 ^ k : Nat) : Int) := by simp
  rw [h5]
  exact h4
theorem n32_ushr {x y : Int} (hx : 0 ≤ x) (hy : 0 ≤ y) (hy2 : y ≤ 30) (h : inR x) : ((Int32.ofInt x).toUInt32 >>> ((Int32.ofInt y).toUInt32 &&& Int32.toUInt32 31)).toInt32 = Int32.ofInt (x / 2 ^ y.toNat) := by
  obtain ⟨n, rfl⟩ := Int.eq_ofNat_of_zero_le hx
  obtain ⟨k, rfl⟩ := Int.eq_ofNat_of_zero_le hy
  have h4 := pk_ushrN (n := n) (by have := h.2; omega) (nI k) k (um_31 k (by omega))
  have h5 : (n : Int) / 2 ^ (k : Int).toNat = ((n / 2 ^ k : Nat) : Int) := by simp
  rw [h5]
  exact h4
theorem two_pow_pos (k : Nat) : (1 : Int) ≤ 2 ^ k := by
  have : 0 < (2 : Int) ^ k := Int.pow_pos (by omega)
  omega
theorem div_in {x : Int} (k : Nat) (hx : 0 ≤ x) (h : inR x) : inR (x / 2 ^ k) := by
  have h1 : 0 ≤ x / 2 ^ k := Int.ediv_nonneg hx (by have := two_pow_pos k; omega)
  have h2 : x / 2 ^ k ≤ x := Int.ediv_le_self _ hx
  have := h.2
  exact ⟨by omega, by omega⟩

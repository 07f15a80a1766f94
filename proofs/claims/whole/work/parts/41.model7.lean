def CVt (P s : Mem) (τ t : Int) : Prop := s 123 t ≤ τ ∧ (tb (P 104 27) t = true → τ ≤ caF P t (s 123 t) ∧ (0 < s 123 t → caF P t (s 123 t - 1) < τ))
def CV (P s : Mem) (τ : Int) : Prop := ∀ t, 0 ≤ t → t < 8 → CVt P s τ t
section
variable {sx : Int → Int} {L : Nat} {P s M : Mem} {τ : Int} {Q : Option AV → Mem → Prop}
theorem caF_s (t j : Int) : caF P t (j + 1) = caF P t j + P 114 t := by
  unfold caF
  rw [Int.add_mul]
  omega
theorem caF_lt {t i j : Int} (h : 1 ≤ P 114 t) (hij : i < j) : caF P t i + P 114 t ≤ caF P t j := by
  unfold caF
  have e : j * P 114 t = i * P 114 t + (j - i) * P 114 t := by rw [← Int.add_mul]; congr 1; omega
  have := Int.mul_le_mul_of_nonneg_right (show 1 ≤ j - i by omega) (show 0 ≤ P 114 t by omega)
  omega
/-- when one comes: the reference asks by a remainder -/
theorem com_iff {t : Int} (hA : tb (P 104 27) t = true) (hs : 1 ≤ P 114 t) (hc : CVt P s τ t) (h0 : 0 ≤ s 123 t) : (0 ≤ τ - P 116 t - P 122 t ∧ (τ - P 116 t - P 122 t) % P 114 t = 0) ↔ τ = caF P t (s 123 t) := by
  obtain ⟨c1, c2⟩ := hc
  have c3 := c2 hA
  constructor
  · rintro ⟨a, b⟩
    have d := Int.mul_ediv_add_emod (τ - P 116 t - P 122 t) (P 114 t)
    rw [b, Int.add_zero, Int.mul_comm] at d
    have e : τ = caF P t ((τ - P 116 t - P 122 t) / P 114 t) := by
      unfold caF
      omega
    generalize (τ - P 116 t - P 122 t) / P 114 t = q at e d
    have hq : 0 ≤ q := by
      apply Classical.byContradiction
      intro hq
      have := Int.mul_le_mul_of_nonneg_right (show q ≤ -1 by omega) (show 0 ≤ P 114 t by omega)
      omega
    by_cases x1 : q < s 123 t
    · have := c3.2 (by omega)
      by_cases x2 : q = s 123 t - 1
      · rw [x2] at e; omega
      · have := caF_lt (P := P) (t := t) (i := q) (j := s 123 t - 1) hs (by omega)
        omega
    · by_cases x2 : s 123 t < q
      · have := caF_lt (P := P) (t := t) hs x2
        omega
      · rw [show q = s 123 t by omega] at e
        exact e
  · intro e
    unfold caF at e
    have e2 : τ - P 116 t - P 122 t = s 123 t * P 114 t := by omega
    rw [e2]
    exact ⟨Int.mul_nonneg h0 (by omega), Int.mul_emod_left _ _⟩
theorem cmA_c {t : Int} {c : Nat} (h : ¬ c = 123) (h2 : ¬ c = 126) : cmA P τ t s c = s c := by
  unfold cmA
  split
  · rw [ms_f h, ms_f h2]
  · rfl
theorem cmA_k {t k : Int} (h : ¬ k = t) : cmA P τ t s 123 k = s 123 k := by
  unfold cmA
  split
  · rw [ms_k h, ms_c (by omega)]
  · rfl
theorem cmA_t {t : Int} : cmA P τ t s 123 t = if com P s τ t = true then s 123 t + 1 else s 123 t := by
  unfold cmA
  split
  · rw [ms_eq]
  · rfl
theorem cmB_c {t : Int} {c : Nat} (h : ¬ c = 124) (h2 : ¬ c = 127) (h3 : ¬ c = 128) (h4 : ¬ c = 130) : cmB t s c = s c := by
  unfold cmB
  split
  · rw [ms_f h, ms_f h3, ms_f h2, ms_f h4]
  · rfl
theorem cmB_k {t k : Int} {c : Nat} (h : ¬ k = t) : cmB t s c k = s c k := by
  unfold cmB
  split
  · rw [ms_ne (by omega), ms_ne (by omega), ms_ne (by omega), ms_ne (by omega)]
  · rfl
theorem cmC_c {t : Int} {c : Nat} (h : ¬ c = 132) (h2 : ¬ c = 133) : cmC t s c = s c := by
  unfold cmC
  rw [ms_f h2, ms_f h]
theorem cmC_k {t k : Int} {c : Nat} (h : ¬ k = t) : cmC t s c k = s c k := by
  unfold cmC
  rw [ms_ne (by omega), ms_ne (by omega)]
def cm1 (P : Mem) (τ t : Int) (s : Mem) : Mem := cmC t (cmB t (cmA P τ t s))
theorem cm1_k {t k : Int} {c : Nat} (h : ¬ k = t) (h2 : ¬ c = 126) : cm1 P τ t s c k = s c k := by
  unfold cm1
  rw [cmC_k h, cmB_k h]
  by_cases e : c = 123
  · rw [e, cmA_k h]
  · rw [cmA_c e h2]
theorem cm1_123 {t : Int} : cm1 P τ t s 123 t = if com P s τ t = true then s 123 t + 1 else s 123 t := by
  unfold cm1
  rw [cmC_c (by omega) (by omega), cmB_c (by omega) (by omega) (by omega) (by omega), cmA_t]
theorem cm1_SV {t : Int} (hv : SV P s) (hp : PV P) (hc : CVt P s τ t) (hτ : τ < 120) (h0 : 0 ≤ t) (h1 : t < 8) : SV P (cm1 P τ t s) := by
  intro k a b
  have q := hv k a b
  by_cases e : k = t
  · subst e
    obtain ⟨a1, a2, a3, a4, a5, a6, a7, a8, a9, a10⟩ := q
    have hc1 := hc.1
    have x123 := cm1_123 (P := P) (s := s) (τ := τ) (t := k)
    have x129 : cm1 P τ k s 129 = s 129 := by unfold cm1; rw [cmC_c (by omega) (by omega), cmB_c (by omega) (by omega) (by omega) (by omega), cmA_c (by omega) (by omega)]
    have x131 : cm1 P τ k s 131 = s 131 := by unfold cm1; rw [cmC_c (by omega) (by omega), cmB_c (by omega) (by omega) (by omega) (by omega), cmA_c (by omega) (by omega)]
    have y : ∀ c : Nat, ¬ c = 132 → ¬ c = 133 → cm1 P τ k s c k = cmB k (cmA P τ k s) c k := fun c h1 h2 => by unfold cm1; rw [cmC_c h1 h2]
    have hcom : com P s τ k = true → tb (P 104 27) k = true := by
      unfold com
      intro z
      simp only [Bool.and_eq_true] at z
      exact z.1
    unfold SVt
    rw [x129, x131, x123, y 124 (by omega) (by omega), y 127 (by omega) (by omega), y 130 (by omega) (by omega)]
    unfold cmB
    rw [cmA_t, cmA_c (c := 130) (by omega) (by omega), cmA_c (c := 124) (by omega) (by omega)]
    have hP := fun z => hp.2.2.2.2.2.2.2.2.2.2.2.2 k a b z
    have hx : (if com P s τ k = true then s 123 k + 1 else s 123 k) = s 123 k ∨ (tb (P 104 27) k = true ∧ (if com P s τ k = true then s 123 k + 1 else s 123 k) = s 123 k + 1) := by
      split
      · next w => exact Or.inr ⟨hcom w, rfl⟩
      · exact Or.inl rfl
    revert hx
    generalize (if com P s τ k = true then s 123 k + 1 else s 123 k) = x
    intro hx
    have hx2 : tb (P 104 27) k = false → x = 0 := by
      intro w
      rcases hx with hx | hx
      · rw [hx]; exact a7 w
      · rw [w] at hx; cases hx.1
    by_cases g : s 130 k = 0 ∧ s 124 k < x
    · simp only [if_pos g]
      rw [ms_eq, ms_c (c' := 130) (by omega), ms_c (c' := 130) (by omega), ms_c (c' := 130) (by omega), ms_eq, ms_c (c' := 127) (by omega), ms_c (c' := 127) (by omega), ms_eq]
      have hA : tb (P 104 27) k = true := by
        cases hA : tb (P 104 27) k
        · have := hx2 hA
          omega
        · rfl
      have hV := hP hA
      refine ⟨by omega, by omega, by omega, a4, Or.inr rfl, fun z => by omega, hx2, fun _ => ⟨by omega, by omega, hV.2.2.2.2.2.2.1, ?_⟩, a9, a10⟩
      rw [a6 g.1]
      rfl
    · simp only [if_neg g]
      rw [cmA_c (c := 130) (by omega) (by omega), cmA_c (c := 124) (by omega) (by omega), cmA_c (c := 127) (by omega) (by omega)]
      exact ⟨a1, by omega, by omega, a4, a5, a6, hx2, a8, a9, a10⟩
  · unfold SVt
    rw [cm1_k e (by omega), cm1_k e (by omega), cm1_k e (by omega), cm1_k e (by omega), cm1_k e (by omega), cm1_k e (by omega)]
    exact q
theorem comesF_s {k : Int} (h : 0 ≤ k) : comesF P τ (k + 1).toNat s = cm1 P τ k (comesF P τ k.toNat s) := by
  rw [show (k + 1).toNat = k.toNat + 1 by omega]
  simp only [comesF, cm1, Int.toNat_of_nonneg h]
theorem s_161 (hR : MR P s M τ) (hv : SV P s) (hp : PV P) (hc : CV P s τ) (hτ0 : 0 ≤ τ) (hτ : τ < 120) (hQ : ∀ M', MR P (comesF P τ 8 s) M' τ → Frm M M' → SV P (comesF P τ 8 s) → Q none M') : Mq sx L K0 R0 161 [vR 106] M Q := by
  refine m_161 (b_161_0 (lpM (N := 8) (I := fun k M' => MR P (comesF P τ k.toNat s) M' τ ∧ Frm M M' ∧ SV P (comesF P τ k.toNat s) ∧ ∀ t, k ≤ t → t < 8 → CVt P (comesF P τ k.toNat s) τ t) (G := fun k M' => ∀ u2, cat2 u2 = false → Rn sx L K0 R0 161 1 [vR 106, vI k, u2] [] M' Q) (fun k M' k0 k1 hI ih => ?_) (fun M' hI u2 h2 => b_161_1 h2 ⟨fun _ => b_161_6 h2 (hQ M' hI.1 hI.2.1 hI.2.2.1), fun q => absurd (by omega) q⟩) 0 M (by omega) (by omega) ⟨hR, Frm.rfl', hv, fun t a b => hc t a b⟩ vU rfl))
  intro u2 h2
  rw [comesF_s k0] at ih
  generalize comesF P τ k.toNat s = z at hI ih
  obtain ⟨i1, i2, i3, i4⟩ := hI
  have hck := i4 k (by omega) k1
  have hvk := i3 k k0 k1
  obtain ⟨a1, a2, a3, a4, a5, a6, a7, a8, a9, a10⟩ := hvk
  have e51 : M' 104 51 = τ := i1.2.2.2.2
  have e116 : M' 116 k = P 116 k := i1.p (Or.inl (by omega))
  have e122 : M' 122 k = P 122 k := i1.p (Or.inl (by omega))
  have e114 : M' 114 k = P 114 k := i1.p (Or.inl (by omega))
  have e27 : M' 104 27 = P 104 27 := i1.m (by omega)
  have hA := hp.1
  -- behind the coming
  have two : ∀ (M2 : Mem) (x2 : Int), MR P (cmA P τ k z) M2 τ → Frm M M2 → Rn sx L K0 R0 161 2 [vR 106, vI k, vI x2] [] M2 Q := by
    intro M2 x2 j1 j2
    have last : ∀ M3 : Mem, MR P (cmB k (cmA P τ k z)) M3 τ → Frm M M3 → Rn sx L K0 R0 161 3 [vR 106, vI k, vI x2] [] M3 Q := by
      intro M3 l1 l2
      have e130 : M3 130 k = cmB k (cmA P τ k z) 130 k := by rw [l1.sf (by omega)]
      have fin : ∀ y : Int, y = (if cmB k (cmA P τ k z) 130 k = 0 then 0 else 3) → Rn sx L K0 R0 161 5 [vR 106, vI k, vI x2] [vI y, vI k, vR 134] M3 Q := by
        intro y hy
        refine b_161_5 ⟨⟨k0, k1⟩, ⟨k0, k1⟩, ⟨by omega, by omega⟩, ?_⟩
        refine ih _ ⟨?_, (l2.set (runC_of (by omega))).set (runC_of (by omega)), cm1_SV i3 hp hck hτ k0 k1, fun t a b => ?_⟩ _ rfl
        · rw [hy]
          exact (l1.set (by unfold isS; omega) (by omega)).set (by unfold isS; omega) (by omega)
        · have := i4 t (by omega) b
          unfold CVt at this ⊢
          rw [cm1_k (by omega) (by omega)]
          exact this
      refine b_161_3 ⟨⟨k0, k1⟩, fun q => b_161_4 (fin 0 ?_), fun q => fin 3 ?_⟩
      · rw [if_pos (by omega)]
      · rw [if_neg (by omega)]
    have e130 : M2 130 k = cmA P τ k z 130 k := by rw [j1.sf (by omega)]
    have e123 : M2 123 k = cmA P τ k z 123 k := by rw [j1.sf (by omega)]
    have e124 : M2 124 k = cmA P τ k z 124 k := by rw [j1.sf (by omega)]
    have e124' : cmA P τ k z 124 k = z 124 k := by rw [cmA_c (by omega) (by omega)]
    have nob : ¬ (cmA P τ k z 130 k = 0 ∧ cmA P τ k z 124 k < cmA P τ k z 123 k) → Rn sx L K0 R0 161 3 [vR 106, vI k, vI x2] [] M2 Q := fun w => last M2 (by unfold cmB; rw [if_neg w]; exact j1) j2
    refine b_161_2 ⟨⟨k0, k1⟩, fun q => nob (by omega), fun q => ⟨⟨k0, k1⟩, ⟨k0, k1⟩, fun q2 => nob (by omega), fun q2 => ⟨⟨k0, k1⟩, ⟨k0, k1⟩, ⟨k0, k1⟩, ⟨k0, k1⟩, ?_, ⟨k0, k1⟩, ?_⟩⟩⟩
    · rw [ms_c (by omega), ms_c (by omega), ms_c (by omega)]
      exact ⟨by omega, by omega⟩
    · rw [ms_c (by omega), ms_c (by omega), ms_c (by omega)]
      refine last _ ?_ ((((j2.set (runC_of (by omega))).set (runC_of (by omega))).set (runC_of (by omega))).set (runC_of (by omega)))
      unfold cmB
      rw [if_pos (by omega), e124]
      exact (((j1.set (by unfold isS; omega) (by omega)).set (by unfold isS; omega) (by omega)).set (by unfold isS; omega) (by omega)).set (by unfold isS; omega) (by omega)
  have noA : com P z τ k = false → Rn sx L K0 R0 161 2 [vR 106, vI k, vI (M' 104 51 - M' 116 k - M' 122 k)] [] M' Q := fun w => two M' _ (by unfold cmA; rw [if_neg (by rw [w]; decide)]; exact i1) i2
  have rg := hp.2.2.2.2.2.2.2.2.2.2.2.1 k k0 k1
  have hci := fun w => com_iff (P := P) (s := z) (τ := τ) (t := k) w
  have noA2 : tb (P 104 27) k = false → com P z τ k = false := fun w => by unfold com; rw [w]; rfl
  rw [← e27] at hA
  refine b_161_1 h2 ⟨fun q => absurd q (by omega), fun _ => ⟨⟨k0, k1⟩, ⟨by omega, by omega⟩, ⟨k0, k1⟩, ⟨by omega, by omega⟩, ⟨hA.1, k0, by omega⟩, fun q => noA (noA2 ?_), fun q => ?_⟩⟩
  · rw [bt_1 hA, e27] at q
    cases e : tb (P 104 27) k
    · rfl
    · exact absurd e q
  rw [bt_1 hA, e27] at q
  have hAk := Decidable.not_not.mp q
  have hV := hp.2.2.2.2.2.2.2.2.2.2.2.2 k k0 k1 hAk
  have hi := hci hAk hV.1 hck (by omega)
  have hV1 := hV.1
  have noC : ¬ (0 ≤ τ - P 116 k - P 122 k ∧ (τ - P 116 k - P 122 k) % P 114 k = 0) → com P z τ k = false := fun w => by
    unfold com
    rw [decide_eq_false (fun e => w (hi.mpr e)), Bool.and_false]
  refine ⟨fun q2 => noA (noC (by omega)), fun q2 => ⟨⟨k0, k1⟩, ⟨by omega, by omega⟩, fun q3 => noA (noC ?_), fun q3 => ?_⟩⟩
  · rw [e51, e116, e122, e114] at q3
    exact fun w => q3 w.2
  rw [e51, e116, e122, e114] at q3
  have hcome : τ = caF P k (z 123 k) := hi.mp ⟨by omega, Decidable.not_not.mp q3⟩
  have hcom : com P z τ k = true := by
    unfold com
    rw [hAk, decide_eq_true hcome]
    rfl
  have e123 : M' 123 k = z 123 k := by rw [i1.sf (by omega)]
  have hle := hck.1
  simp only [ms_c (show ¬ (123 : Nat) = 125 by decide), ms_c (show ¬ (123 : Nat) = 126 by decide)]
  refine ⟨⟨by omega, by omega⟩, ⟨k0, k1⟩, ⟨by omega, by omega⟩, ⟨by omega, by omega⟩, ⟨by omega, by omega⟩, ⟨k0, k1⟩, ⟨by omega, by omega⟩, ⟨by omega, by omega⟩, ⟨k0, k1⟩, ⟨by omega, by omega⟩, ⟨k0, k1⟩, two _ _ ?_ (((i2.set (runC_of (by omega))).set (runC_of (by omega))).set (runC_of (by omega)))⟩
  obtain ⟨h1, h2, h3, h4, h5⟩ := i1
  unfold cmA
  rw [if_pos hcom, e123, e51]
  refine ⟨fun c' k' q => ?_, fun c' k' q => ?_, fun h a b => ?_, fun t j a b a2 b2 => ?_, ?_⟩
  · rw [ms_c (by unfold isP at q; omega), ms_c (by unfold isP at q; omega), ms_c (by unfold isP at q; omega)]
    exact h1 _ _ q
  · have e := h2 c' k' q
    by_cases w : c' = 123 ∧ k' = k
    · rw [w.1, w.2, ms_eq, ms_eq]
    · rw [ms_ne w, ms_ne w]
      by_cases w2 : c' = 126 ∧ k' = 200 * k + z 123 k
      · rw [w2.1, w2.2, ms_eq, ms_eq]
      · rw [ms_ne w2, ms_ne w2, ms_c (by unfold isS at q; omega)]
        exact e
  · rw [ms_c (by omega), ms_c (by omega), ms_c (by omega)]
    exact h3 h a b
  · rw [ms_c (c' := 125) (by omega), ms_c (c' := 125) (by omega)]
    have ht := i3 t a b
    have ht1 := ht.2.2.1
    by_cases w : t = k ∧ j = z 123 k
    · rw [w.1, w.2, ms_eq]
      exact hcome
    · have b3 : j < z 123 t := by
        by_cases w2 : t = k
        · rw [w2, ms_eq] at b2
          rw [w2]
          omega
        · rw [ms_k w2, ms_c (by omega)] at b2
          exact b2
      rw [ms_k (by omega)]
      exact h4 t j a b a2 b3
  · rw [ms_c (by omega), ms_c (by omega), ms_c (by omega)]
    exact h5
end

/-! what the reference tells of a run -/
section
variable {sx : Int → Int} {L : Nat} {P s M : Mem} {τ : Int} {Q : Option AV → Mem → Prop}
def TM (P s M : Mem) : Prop := (∀ c k, isS c k → M c k = s c k) ∧ (∀ t j, 0 ≤ t → t < 8 → 0 ≤ j → j < s 123 t → M 125 (200 * t + j) = caF P t j) ∧ (∀ t, 0 ≤ t → t < 8 → (tb (P 104 27) t = true → M 115 t = P 115 t) ∧ M 111 t = P 111 t) ∧ M 104 25 = P 104 25
theorem MR.tm (h : MR P s M τ) : TM P s M := ⟨h.2.1, h.2.2.2.1, fun t _ _ => ⟨fun _ => h.p (Or.inl (by omega)), h.p (Or.inl (by omega))⟩, h.m (by omega)⟩
theorem TM.sf (h : TM P s M) {c : Nat} (q : c = 123 ∨ c = 124 ∨ (126 ≤ c ∧ c ≤ 133) ∨ c = 135 ∨ c = 136) : M c = s c := by
  funext k
  exact h.1 c k (by unfold isS; omega)
/-- what was run is in bounds -/
theorem ca_B (hp : PV P) {t j : Int} (h0 : 0 ≤ t) (h1 : t < 8) (hA : tb (P 104 27) t = true) (j0 : 0 ≤ j) (j1 : j < 120) : 0 ≤ caF P t j ∧ caF P t j ≤ 7400 := by
  obtain ⟨v1, v2, v3, v4, v5, v6, v7⟩ := hp.2.2.2.2.2.2.2.2.2.2.2.2 t h0 h1 hA
  obtain ⟨r1, r2, r3, r4, r5, r6⟩ := hp.2.2.2.2.2.2.2.2.2.2.2.1 t h0 h1
  have := mulB (a := j) (b := P 114 t) (A := 119) (B := 60) j0 (by omega) (by omega) (by omega)
  unfold caF
  omega
theorem am_j (hr : RI P s τ) {t j : Int} (h0 : 0 ≤ t) (h1 : t < 8) (j0 : 0 ≤ j) (j1 : j < s 123 t) : tb (P 104 27) t = true := by
  have := (hr t h0 h1).1
  obtain ⟨a1, a2, a3, a4, a5, a6, a7, a8, a9⟩ := this
  cases e : tb (P 104 27) t
  · have := a7 e; omega
  · rfl
theorem dn_B (hr : RI P s τ) (hτ0 : 0 ≤ τ) (hτ : τ ≤ 120) {t j : Int} (h0 : 0 ≤ t) (h1 : t < 8) (j0 : 0 ≤ j) (j1 : j < s 123 t) : -1 ≤ dnF s t j ∧ dnF s t j ≤ 120 := by
  have := (hr t h0 h1).2.2.2 j j0 j1
  unfold dnF
  by_cases e : j < s 124 t - s 130 t
  · have := this.1 e; omega
  · have := this.2 e; omega
theorem s_179 {t : Int} (hp : PV P) (hr : RI P s τ) (hM : TM P s M) (h0 : 0 ≤ t) (h1 : t < 8) (hQ : Q (some (vI (ltF P s (P 104 25) t))) M) : Mq sx L K0 R0 179 [vR 106, vI t] M Q := by
  have hc := (hr t h0 h1).1
  have hc1 := hc.1
  have hc2 := hc.2.1
  have hc3 := hc.2.2.1
  have e123 : M 123 t = s 123 t := by rw [hM.sf (by omega)]
  have e25 : M 104 25 = P 104 25 := hM.2.2.2
  refine m_179 (b_179_0 (lpI (N := s 123 t) (G := fun k => ∀ u4 u5, cat2 u4 = false → cat2 u5 = false → Rn sx L K0 R0 179 1 [vR 106, vI t, vI (sumI k.toNat fun j => if ltJ P s (P 104 25) t j = true then 1 else 0), vI k, u4, u5] [] M Q) (fun k k0 k1 ih => ?_) (fun u4 u5 h4 h5 => b_179_1 h4 h5 ⟨⟨h0, h1⟩, fun _ => b_179_6 h4 h5 hQ, fun q => absurd (by omega) q⟩) 0 (by omega) (by omega) vU vU rfl rfl))
  intro u4 u5 h4 h5
  rw [sumI_s k0] at ih
  have hs := sumI_0 (n := k.toNat) (f := fun j => if ltJ P s (P 104 25) t j = true then 1 else 0) (b := 1) (fun t _ _ => r01)
  have hA := am_j hr h0 h1 k0 k1
  have hB := ca_B hp h0 h1 hA k0 (by omega)
  have hV := hp.2.2.2.2.2.2.2.2.2.2.2.2 t h0 h1 hA
  have v3 := hV.2.2.1
  have v4 := hV.2.2.2.1
  have e125 : M 125 (200 * t + k) = caF P t k := hM.2.1 t k h0 h1 k0 k1
  have e126 : M 126 (200 * t + k) = dnF s t k := by rw [hM.sf (by omega)]; rfl
  have e115 : M 115 t = P 115 t := (hM.2.2.1 t h0 h1).1 hA
  have R : (0 : Int) ≤ 200 * t + k ∧ 200 * t + k < 1600 := by omega
  have R1 : inR (200 * t) := ⟨by omega, by omega⟩
  have R2 : inR (200 * t + k) := ⟨by omega, by omega⟩
  -- the end of one turn
  have fin : ∀ y x4 x5 : Int, y = (if ltJ P s (P 104 25) t k = true then 1 else 0) → Rn sx L K0 R0 179 5 [vR 106, vI t, vI (sumI k.toNat fun j => if ltJ P s (P 104 25) t j = true then 1 else 0), vI k, vI x4, vI x5] [vI y, vI (sumI k.toNat fun j => if ltJ P s (P 104 25) t j = true then 1 else 0)] M Q := by
    intro y x4 x5 hy
    have := r01 (p := ltJ P s (P 104 25) t k)
    rw [hy]
    exact b_179_5 ⟨⟨by omega, by omega⟩, ⟨by omega, by omega⟩, ih _ _ rfl rfl⟩
  refine b_179_1 h4 h5 ⟨⟨h0, h1⟩, fun q => absurd q (by omega), fun _ => ⟨R1, R2, R, ⟨h0, h1⟩, by rw [e125, e115]; exact ⟨by omega, by omega⟩, R1, R2, R, ?_⟩⟩
  rw [e125, e126, e115, e25]
  have el : ltJ P s (P 104 25) t k = if dnF s t k = -1 then decide (caF P t k + P 115 t ≤ P 104 25) else decide (caF P t k + P 115 t < dnF s t k) := rfl
  refine ⟨fun q => ?_, fun q => ⟨fun q2 => b_179_2 (fin 0 _ _ ?_), fun q2 => fin 1 _ _ ?_⟩⟩
  · rw [if_neg q] at el
    refine b_179_3 ⟨fun q2 => b_179_4 (fin 0 _ _ ?_), fun q2 => fin 1 _ _ ?_⟩
    · rw [el, decide_eq_false (by omega)]; rfl
    · rw [el, decide_eq_true (by omega)]; rfl
  · rw [if_pos (by omega)] at el
    rw [el, decide_eq_false (by omega)]; rfl
  · rw [if_pos (by omega)] at el
    rw [el, decide_eq_true (by omega)]; rfl
theorem ltF_B (hr : RI P s τ) {T t : Int} (h0 : 0 ≤ t) (h1 : t < 8) : 0 ≤ ltF P s T t ∧ ltF P s T t ≤ 120 := by
  have hs := sumI_0 (n := (s 123 t).toNat) (f := fun j => if ltJ P s T t j = true then 1 else 0) (b := 1) (fun t _ _ => r01)
  have := (hr t h0 h1).1.2.2.1
  unfold ltF
  omega
theorem s_180 (hp : PV P) (hr : RI P s τ) (hM : TM P s M) (hQ : Q (some (vI (ltA P s (P 104 25)))) M) : Mq sx L K0 R0 180 [vR 106] M Q := by
  refine m_180 (b_180_0 (lpI (N := 8) (G := fun k => Rn sx L K0 R0 180 1 [vR 106, vI (sumI k.toNat (ltF P s (P 104 25))), vI k] [] M Q) (fun k k0 k1 ih => ?_) (b_180_1 ⟨fun _ => b_180_2 hQ, fun q => absurd (by omega) q⟩) 0 (by omega) (by omega)))
  rw [sumI_s k0] at ih
  have hs := sumI_0 (n := k.toNat) (f := ltF P s (P 104 25)) (b := 120) (fun t a b => ltF_B hr a (by omega))
  have hs2 := ltF_B (T := P 104 25) hr k0 k1
  exact b_180_1 ⟨fun q => absurd q (by omega), fun _ => s_179 hp hr hM k0 k1 ⟨_, rfl, ⟨by omega, by omega⟩, ⟨by omega, by omega⟩, ih⟩⟩
theorem s_185 {t : Int} (hr : RI P s τ) (hM : TM P s M) (h0 : 0 ≤ t) (h1 : t < 8) (hQ : Q (some (vI (dmF s t))) M) : Mq sx L K0 R0 185 [vR 106, vI t] M Q := by
  have hc := (hr t h0 h1).1
  have hc1 := hc.1
  have hc2 := hc.2.1
  have hc3 := hc.2.2.1
  have e123 : M 123 t = s 123 t := by rw [hM.sf (by omega)]
  refine m_185 (b_185_0 (lpI (N := s 123 t) (G := fun k => Rn sx L K0 R0 185 1 [vR 106, vI t, vI (sumI k.toNat fun j => if dnF s t j = -1 then 0 else 1), vI k] [] M Q) (fun k k0 k1 ih => ?_) (b_185_1 ⟨⟨h0, h1⟩, fun _ => b_185_4 hQ, fun q => absurd (by omega) q⟩) 0 (by omega) (by omega)))
  rw [sumI_s k0] at ih
  have hs := sumI_0 (n := k.toNat) (f := fun j => if dnF s t j = -1 then 0 else 1) (b := 1) (fun t _ _ => by split <;> omega)
  have e126 : M 126 (200 * t + k) = dnF s t k := by rw [hM.sf (by omega)]; rfl
  have fin : ∀ y : Int, y = (if dnF s t k = -1 then 0 else 1) → Rn sx L K0 R0 185 3 [vR 106, vI t, vI (sumI k.toNat fun j => if dnF s t j = -1 then 0 else 1), vI k] [vI y, vI (sumI k.toNat fun j => if dnF s t j = -1 then 0 else 1)] M Q := by
    intro y hy
    have : 0 ≤ y ∧ y ≤ 1 := by rw [hy]; split <;> omega
    refine b_185_3 ⟨⟨by omega, by omega⟩, ⟨by omega, by omega⟩, ?_⟩
    rw [hy]
    exact ih
  refine b_185_1 ⟨⟨h0, h1⟩, fun q => absurd q (by omega), fun _ => ⟨⟨by omega, by omega⟩, ⟨by omega, by omega⟩, ⟨by omega, by omega⟩, ?_⟩⟩
  rw [e126]
  exact ⟨fun q => b_185_2 (fin 1 (by rw [if_neg q])), fun q => fin 0 (by rw [if_pos (by omega)])⟩
theorem s_186 {t : Int} (hp : PV P) (hr : RI P s τ) (hτ0 : 0 ≤ τ) (hτ : τ ≤ 120) (hM : TM P s M) (h0 : 0 ≤ t) (h1 : t < 8) (hQ : Q (some (vI (lgF P s t))) M) : Mq sx L K0 R0 186 [vR 106, vI t] M Q := by
  have hc := (hr t h0 h1).1
  have hc1 := hc.1
  have hc2 := hc.2.1
  have hc3 := hc.2.2.1
  have e123 : M 123 t = s 123 t := by rw [hM.sf (by omega)]
  refine m_186 (b_186_0 (lpI (N := s 123 t) (G := fun k => ∀ u4, cat2 u4 = false → Rn sx L K0 R0 186 1 [vR 106, vI t, vI (maxI k.toNat fun j => if dnF s t j = -1 then -1 else dnF s t j - caF P t j), vI k, u4] [] M Q) (fun k k0 k1 ih => ?_) (fun u4 h4 => b_186_1 h4 ⟨⟨h0, h1⟩, fun _ => b_186_6 h4 hQ, fun q => absurd (by omega) q⟩) 0 (by omega) (by omega) vU rfl))
  intro u4 h4
  rw [maxI_s k0] at ih
  have hA := am_j hr h0 h1 k0 k1
  have hB := ca_B hp h0 h1 hA k0 (by omega)
  have hD := dn_B hr hτ0 hτ h0 h1 k0 k1
  have e126 : M 126 (200 * t + k) = dnF s t k := by rw [hM.sf (by omega)]; rfl
  have e125 : M 125 (200 * t + k) = caF P t k := hM.2.1 t k h0 h1 k0 k1
  have fin : ∀ (y : Int) (u4 : AV), cat2 u4 = false → y = (if dnF s t k = -1 then -1 else dnF s t k - caF P t k) → Rn sx L K0 R0 186 3 [vR 106, vI t, vI (maxI k.toNat fun j => if dnF s t j = -1 then -1 else dnF s t j - caF P t j), vI k, u4] [vI y] M Q := by
    intro y u4 h4 hy
    rw [← hy] at ih
    refine b_186_3 h4 ⟨fun q => b_186_4 (b_186_5 ⟨⟨by omega, by omega⟩, ?_⟩), fun q => b_186_5 ⟨⟨by omega, by omega⟩, ?_⟩⟩
    · have := ih (vI y) rfl
      rw [show max (maxI k.toNat fun j => if dnF s t j = -1 then -1 else dnF s t j - caF P t j) y = maxI k.toNat fun j => if dnF s t j = -1 then -1 else dnF s t j - caF P t j by omega] at this
      exact this
    · have := ih (vI y) rfl
      rw [show max (maxI k.toNat fun j => if dnF s t j = -1 then -1 else dnF s t j - caF P t j) y = y by omega] at this
      exact this
  have R : (0 : Int) ≤ 200 * t + k ∧ 200 * t + k < 1600 := by omega
  have R1 : inR (200 * t) := ⟨by omega, by omega⟩
  have R2 : inR (200 * t + k) := ⟨by omega, by omega⟩
  refine b_186_1 h4 ⟨⟨h0, h1⟩, fun q => absurd q (by omega), fun _ => ⟨R1, R2, R, ?_⟩⟩
  rw [e126]
  refine ⟨fun q => b_186_2 h4 ⟨R1, R2, R, R1, R2, R, ?_⟩, fun q => fin _ _ h4 (by rw [if_pos (by omega)])⟩
  rw [e126, e125]
  exact ⟨⟨by omega, by omega⟩, fin _ _ h4 (by rw [if_neg q])⟩
theorem s_187 {t z : Int} (hT : 0 ≤ P 104 25 ∧ P 104 25 ≤ 120) (hM : TM P s M) (h0 : 0 ≤ t) (h1 : t < 8) (hQ : Q (some (vI (tiF s (P 104 25) t z))) M) : Mq sx L K0 R0 187 [vR 106, vI t, vI z] M Q := by
  have e25 : M 104 25 = P 104 25 := hM.2.2.2
  refine m_187 (b_187_0 (lpI (N := P 104 25) (G := fun k => Rn sx L K0 R0 187 1 [vR 106, vI t, vI z, vI (sumI k.toNat fun k => if s 136 (200 * t + k) = z then 1 else 0), vI k] [] M Q) (fun k k0 k1 ih => ?_) (b_187_1 ⟨fun _ => b_187_4 hQ, fun q => absurd (by omega) q⟩) 0 (by omega) (by omega)))
  rw [sumI_s k0] at ih
  have hs := sumI_0 (n := k.toNat) (f := fun k => if s 136 (200 * t + k) = z then 1 else 0) (b := 1) (fun t _ _ => by split <;> omega)
  have e136 : M 136 (200 * t + k) = s 136 (200 * t + k) := by rw [hM.sf (by omega)]
  have fin : ∀ y : Int, y = (if s 136 (200 * t + k) = z then 1 else 0) → Rn sx L K0 R0 187 3 [vR 106, vI t, vI z, vI (sumI k.toNat fun k => if s 136 (200 * t + k) = z then 1 else 0), vI k] [vI y, vI (sumI k.toNat fun k => if s 136 (200 * t + k) = z then 1 else 0)] M Q := by
    intro y hy
    have : 0 ≤ y ∧ y ≤ 1 := by rw [hy]; split <;> omega
    refine b_187_3 ⟨⟨by omega, by omega⟩, ⟨by omega, by omega⟩, ?_⟩
    rw [hy]
    exact ih
  refine b_187_1 ⟨fun q => absurd q (by omega), fun _ => ⟨⟨by omega, by omega⟩, ⟨by omega, by omega⟩, ⟨by omega, by omega⟩, ?_⟩⟩
  rw [e136]
  exact ⟨fun q => b_187_2 (fin 0 (by rw [if_neg q])), fun q => fin 1 (by rw [if_pos (by omega)])⟩
theorem s_188 {t : Int} (hT : 0 ≤ P 104 25 ∧ P 104 25 ≤ 120) (hM : TM P s M) (h0 : 0 ≤ t) (h1 : t < 8) (hQ : Q (some (vI (bhF P s (P 104 25) t))) M) : Mq sx L K0 R0 188 [vR 106, vI t] M Q := by
  have e25 : M 104 25 = P 104 25 := hM.2.2.2
  have e136 : M 136 = s 136 := hM.sf (by omega)
  refine m_188 (b_188_0 (lpI (N := P 104 25) (G := fun k => ∀ u4 u5, cat2 u4 = false → cat2 u5 = false → Rn sx L K0 R0 188 1 [vR 106, vI t, vI (sumI k.toNat fun k => if (exB 8 fun o => decide (s 136 (200 * o + k) = 1) && decide (P 111 o < P 111 t)) = true ∧ 1 < s 136 (200 * t + k) then 1 else 0), vI k, u4, u5] [] M Q) (fun k k0 k1 ih => ?_) (fun u4 u5 h4 h5 => b_188_1 h4 h5 ⟨fun _ => b_188_9 h4 h5 hQ, fun q => absurd (by omega) q⟩) 0 (by omega) (by omega) vU vU rfl rfl))
  intro u4 u5 h4 h5
  rw [sumI_s k0] at ih
  have hs := sumI_0 (n := k.toNat) (f := fun k => if (exB 8 fun o => decide (s 136 (200 * o + k) = 1) && decide (P 111 o < P 111 t)) = true ∧ 1 < s 136 (200 * t + k) then 1 else 0) (b := 1) (fun t _ _ => by split <;> omega)
  generalize (sumI k.toNat fun k => if (exB 8 fun o => decide (s 136 (200 * o + k) = 1) && decide (P 111 o < P 111 t)) = true ∧ 1 < s 136 (200 * t + k) then 1 else 0) = sm at hs ih ⊢
  have fin : ∀ (y x4 x5 : Int), y = (if (exB 8 fun o => decide (s 136 (200 * o + k) = 1) && decide (P 111 o < P 111 t)) = true ∧ 1 < s 136 (200 * t + k) then 1 else 0) → Rn sx L K0 R0 188 8 [vR 106, vI t, vI sm, vI k, vI x4, vI x5] [vI y, vI sm] M Q := by
    intro y x4 x5 hy
    have : 0 ≤ y ∧ y ≤ 1 := by rw [hy]; split <;> omega
    refine b_188_8 ⟨⟨by omega, by omega⟩, ⟨by omega, by omega⟩, ?_⟩
    rw [hy]
    exact ih _ _ rfl rfl
  refine b_188_1 h4 h5 ⟨fun q => absurd q (by omega), fun _ => ?_⟩
  refine lpI (N := 8) (G := fun o => ∀ y : Int, (y = 0 ↔ (exB o.toNat fun o => decide (s 136 (200 * o + k) = 1) && decide (P 111 o < P 111 t)) = false) → Rn sx L K0 R0 188 2 [vR 106, vI t, vI sm, vI k, vI y, vI o] [] M Q) (fun o o0 o1 iho => ?_) (fun y hy => b_188_2 ⟨fun _ => ?_, fun q => absurd (by omega) q⟩) 0 (by omega) (by omega) 0 ⟨fun _ => rfl, fun _ => rfl⟩
  · intro y hy
    rw [exB_s o0] at iho
    have R : (0 : Int) ≤ 200 * o + k ∧ 200 * o + k < 1600 := by omega
    have e1 : M 111 o = P 111 o := (hM.2.2.1 o o0 o1).2
    have e2 : M 111 t = P 111 t := (hM.2.2.1 t h0 h1).2
    refine b_188_2 ⟨fun q => absurd q (by omega), fun _ => ⟨fun q => b_188_3 (b_188_5 ⟨⟨by omega, by omega⟩, iho 1 ⟨fun w => by omega, fun w => ?_⟩⟩), fun q => ⟨⟨by omega, by omega⟩, ⟨by omega, by omega⟩, R, ?_⟩⟩⟩
    · rw [Bool.or_eq_false_iff] at w
      exact absurd (hy.mpr w.1) q
    · have z := hy.mp (by omega)
      rw [e136, e1, e2]
      refine ⟨fun q2 => b_188_4 (b_188_5 ⟨⟨by omega, by omega⟩, iho 0 ⟨fun _ => ?_, fun _ => rfl⟩⟩), fun q2 => ⟨⟨o0, o1⟩, ⟨h0, h1⟩, fun q3 => b_188_4 (b_188_5 ⟨⟨by omega, by omega⟩, iho 0 ⟨fun _ => ?_, fun _ => rfl⟩⟩), fun q3 => b_188_3 (b_188_5 ⟨⟨by omega, by omega⟩, iho 1 ⟨fun w => by omega, fun w => ?_⟩⟩)⟩⟩
      · rw [z, decide_eq_false q2]; rfl
      · rw [z, decide_eq_false (by omega : ¬ P 111 o < P 111 t), Bool.and_false]; rfl
      · rw [z, decide_eq_true (by omega : s 136 (200 * o + k) = 1), decide_eq_true (by omega : P 111 o < P 111 t)] at w
        exact absurd w (by decide)
  · have hy' : y = 0 ↔ (exB 8 fun o => decide (s 136 (200 * o + k) = 1) && decide (P 111 o < P 111 t)) = false := hy
    refine b_188_6 ⟨fun q => b_188_7 (fin 0 _ _ ?_), fun q => ⟨⟨by omega, by omega⟩, ⟨by omega, by omega⟩, ⟨by omega, by omega⟩, ?_⟩⟩
    · rw [hy'.mp q, if_neg (fun w => absurd w.1 (by decide))]
    · rw [e136]
      have : (exB 8 fun o => decide (s 136 (200 * o + k) = 1) && decide (P 111 o < P 111 t)) = true := by
        cases e : (exB 8 fun o => decide (s 136 (200 * o + k) = 1) && decide (P 111 o < P 111 t))
        · exact absurd (hy'.mpr e) q
        · rfl
      refine ⟨fun q2 => b_188_7 (fin 0 _ _ ?_), fun q2 => fin 1 _ _ ?_⟩
      · rw [if_neg (fun w => absurd w.2 (by omega))]
      · rw [if_pos ⟨this, by omega⟩]
def tolF (P s : Mem) (T t w : Int) : Int := if w = 0 then s 123 t else if w = 1 then dmF s t else if w = 2 then ltF P s T t else if w = 3 then lgF P s t else if w = 4 then tiF s T t 1 else if w = 5 then tiF s T t 2 else bhF P s T t
theorem s_189 {t w : Int} (hp : PV P) (hr : RI P s (P 104 25)) (hT : 1 ≤ P 104 25 ∧ P 104 25 ≤ 120) (hM : TM P s M) (h0 : 0 ≤ t) (h1 : t < 8) (hw : 0 ≤ w ∧ w ≤ 6) (hQ : Q (some (vI (tolF P s (P 104 25) t w))) M) : Mq sx L K0 R0 189 [vR 106, vI t, vI w] M Q := by
  have e123 : M 123 t = s 123 t := by rw [hM.sf (by omega)]
  unfold tolF at hQ
  refine m_189 (b_189_0 ⟨fun q => b_189_7 (s_188 (by omega) hM h0 h1 ⟨_, rfl, ?_⟩), fun q => b_189_1 ⟨⟨h0, h1⟩, ?_⟩, fun q => b_189_2 (s_185 hr hM h0 h1 ⟨_, rfl, ?_⟩), fun q => b_189_3 (s_179 hp hr hM h0 h1 ⟨_, rfl, ?_⟩), fun q => b_189_4 (s_186 hp hr (by omega) (by omega) hM h0 h1 ⟨_, rfl, ?_⟩), fun q => b_189_5 (s_187 (by omega) hM h0 h1 ⟨_, rfl, ?_⟩), fun q => b_189_6 (s_187 (by omega) hM h0 h1 ⟨_, rfl, ?_⟩)⟩)
  · rw [if_neg (by omega), if_neg (by omega), if_neg (by omega), if_neg (by omega), if_neg (by omega), if_neg (by omega)] at hQ
    exact hQ
  · rw [if_pos q] at hQ
    rw [e123]
    exact hQ
  · rw [if_neg (by omega), if_pos q] at hQ
    exact hQ
  · rw [if_neg (by omega), if_neg (by omega), if_pos q] at hQ
    exact hQ
  · rw [if_neg (by omega), if_neg (by omega), if_neg (by omega), if_pos q] at hQ
    exact hQ
  · rw [if_neg (by omega), if_neg (by omega), if_neg (by omega), if_neg (by omega), if_pos q] at hQ
    exact hQ
  · rw [if_neg (by omega), if_neg (by omega), if_neg (by omega), if_neg (by omega), if_neg (by omega), if_pos q] at hQ
    exact hQ
end

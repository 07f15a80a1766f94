section
variable {sx : Int → Int} {L : Nat} {P s M : Mem} {τ : Int} {Q : Option AV → Mem → Prop}
theorem rchS_B {w : Int → Int} (hw : ∀ t, 0 ≤ t → t < 8 → inB (w t)) {r : Int} (hr : inB r) : ∀ n : Nat, n ≤ 8 → inB (rchS w n r) := by
  intro n
  induction n with
  | zero => intro _; exact hr
  | succ n ih =>
    intro hn
    simp only [rchS]
    split
    · exact or_B (ih (by omega)) (hw n (by omega) (by omega))
    · exact ih (by omega)
theorem rchR_B {w : Int → Int} (hw : ∀ t, 0 ≤ t → t < 8 → inB (w t)) {r : Int} (hr : inB r) : ∀ n : Nat, inB (rchR w n r) := by
  intro n
  induction n with
  | zero => exact hr
  | succ n ih => exact rchS_B hw ih 8 (by omega)
theorem rchS_s {w : Int → Int} {r k : Int} (h : 0 ≤ k) : rchS w (k + 1).toNat r = if tb (rchS w k.toNat r) k = true then iOr (rchS w k.toNat r) (w k) else rchS w k.toNat r := by
  rw [show (k + 1).toNat = k.toNat + 1 by omega]
  simp only [rchS, Int.toNat_of_nonneg h]
theorem rchR_s {w : Int → Int} {r k : Int} (h : 0 ≤ k) : rchR w (k + 1).toNat r = rchS w 8 (rchR w k.toNat r) := by
  rw [show (k + 1).toNat = k.toNat + 1 by omega]
  simp only [rchR]
theorem and_pow {r t : Int} (hr : inB r) (h0 : 0 ≤ t) (h1 : t ≤ 30) : iAnd r (1 * 2 ^ t.toNat) = if tb r t = true then 1 * 2 ^ t.toNat else 0 := by
  have hP := pow_B h1
  refine tb_ext (and_B hr hP).1 ?_ fun i hi => ?_
  · split
    · exact hP.1
    · omega
  · rw [tb_and hr hP, tb_pow h0 hi]
    by_cases e : t = i
    · subst e
      cases h : tb r t
      · simp [tb_zero]
      · simp only [decide_true, Bool.and_self, if_true]
        rw [tb_pow h0 h0]
        simp
    · rw [decide_eq_false e, Bool.and_false]
      split
      · rw [tb_pow h0 hi, decide_eq_false e]
      · rw [tb_zero]
theorem s_175 (hw : ∀ t, 0 ≤ t → t < 8 → inB (M 133 t)) (hQ : Q (some (vI (rngB (M 133)))) M) : Mq sx L K0 R0 175 [vR 106] M Q := by
  refine m_175 (b_175_0 (lpI (N := 8) (G := fun t => ∀ u3 u4 u5, cat2 u3 = false → cat2 u4 = false → cat2 u5 = false → Rn sx L K0 R0 175 1 [vR 106, vI (mkB t.toNat fun t => tb (rchR (M 133) 8 (M 133 t)) t), vI t, u3, u4, u5] [] M Q) (fun t t0 t1 ih => ?_) (fun u3 u4 u5 h3 h4 h5 => b_175_1 h3 h4 h5 ⟨fun _ => b_175_8 h3 h4 h5 hQ, fun q => absurd (by omega) q⟩) 0 (by omega) (by omega) vU vU vU rfl rfl rfl))
  intro u3 u4 u5 h3 h4 h5
  rw [mkB_s t0] at ih
  have hBb := mkB_B t.toNat (fun t => tb (rchR (M 133) 8 (M 133 t)) t) (by omega)
  generalize mkB t.toNat (fun t => tb (rchR (M 133) 8 (M 133 t)) t) = b at ih hBb ⊢
  refine b_175_1 h3 h4 h5 ⟨fun q => absurd q (by omega), fun _ => ⟨⟨t0, t1⟩, ?_⟩⟩
  refine lpI (N := 8) (G := fun n => ∀ u5, cat2 u5 = false → Rn sx L K0 R0 175 2 [vR 106, vI b, vI t, vI (rchR (M 133) n.toNat (M 133 t)), vI n, u5] [] M Q) (fun n n0 n1 ihn => ?_) (fun u5 h5 => ?_) 0 (by omega) (by omega) u5 h5
  · intro u5 h5
    rw [rchR_s n0] at ihn
    have hRb := rchR_B hw (hw t t0 t1) n.toNat
    generalize rchR (M 133) n.toNat (M 133 t) = r at ihn hRb ⊢
    refine b_175_2 h5 ⟨fun q => absurd q (by omega), fun _ => ?_⟩
    refine lpI (N := 8) (G := fun o => Rn sx L K0 R0 175 3 [vR 106, vI b, vI t, vI (rchS (M 133) o.toNat r), vI n, vI o] [] M Q) (fun o o0 o1 iho => ?_) (b_175_3 ⟨fun _ => b_175_6 ⟨⟨by omega, by omega⟩, ihn _ rfl⟩, fun q => absurd (by omega) q⟩) 0 (by omega) (by omega)
    rw [rchS_s o0] at iho
    have hSb := rchS_B hw hRb o.toNat (by omega)
    generalize rchS (M 133) o.toNat r = r2 at iho hSb ⊢
    refine b_175_3 ⟨fun q => absurd q (by omega), fun _ => ⟨⟨hSb.1, o0, by omega⟩, fun q => b_175_4 (b_175_5 ⟨⟨by omega, by omega⟩, ?_⟩), fun q => ⟨⟨o0, o1⟩, b_175_5 ⟨⟨by omega, by omega⟩, ?_⟩⟩⟩⟩
    · rw [bt_1 hSb] at q
      rw [if_neg q] at iho
      rw [or_0 hSb]
      exact iho
    · rw [bt_1 hSb] at q
      rw [if_pos (Decidable.not_not.mp q)] at iho
      exact iho
  · refine b_175_2 h5 ⟨fun _ => b_175_7 h5 ⟨pow30 t0 (by omega), ⟨by omega, by omega⟩, ?_⟩, fun q => absurd (by omega) q⟩
    have hRb := rchR_B hw (hw t t0 t1) 8
    have ih2 := ih (vI (rchR (M 133) (8 : Int).toNat (M 133 t))) (vI 8) u5 rfl rfl h5
    rw [show (8 : Int).toNat = 8 from rfl] at ih2 ⊢
    rw [and_pow hRb t0 (by omega)]
    by_cases e : tb (rchR (M 133) 8 (M 133 t)) t = true
    · rw [if_pos e] at ih2 ⊢
      exact ih2
    · rw [if_neg e] at ih2 ⊢
      rw [or_0 hBb]
      exact ih2
theorem s_176 {t k : Int} (hR : MR P s M τ) (hp : PV P) (h0 : 0 ≤ t) (h1 : t < 8) (k0 : 0 ≤ k) (k1 : k < 20) (ha : 0 ≤ P 119 (20 * t + k) ∧ P 119 (20 * t + k) ≤ 9) (hQ : Q (some (vI (tkO P t k))) M) : Mq sx L K0 R0 176 [vR 106, vI t, vI k] M Q := by
  have e119 : M 119 = P 119 := hR.pf (by omega)
  have e30 : M 104 30 = P 104 30 := hR.m (by omega)
  have e31 : M 104 31 = P 104 31 := hR.m (by omega)
  have e32 : M 104 32 = P 104 32 := hR.m (by omega)
  have hl := hp.2.2.2.2.2.2.2.2.2.1
  have hl2 := hp.2.2.2.2.2.2.2.2.2.2.1
  unfold tkO at hQ
  refine m_176 (b_176_0 ⟨⟨by omega, by omega⟩, ⟨by omega, by omega⟩, ⟨by omega, by omega⟩, ?_⟩)
  rw [e119, e30, e31, e32]
  refine ⟨fun q => b_176_1 (b_176_2 ⟨⟨by omega, by omega⟩, ?_⟩), fun q => ⟨fun q2 => b_176_1 (b_176_2 ⟨⟨by omega, by omega⟩, ?_⟩), fun q2 => b_176_2 ⟨⟨by omega, by omega⟩, ?_⟩⟩⟩
  · rw [if_neg (by omega)] at hQ; exact hQ
  · rw [if_neg (by omega)] at hQ; exact hQ
  · rw [if_pos (by omega)] at hQ; exact hQ
/-- where each task at work stands -/
def W1t (P s : Mem) (t : Int) : Prop := s 132 t = 1 → s 130 t = 1 ∧ s 127 t < P 117 t ∧ P 118 (20 * t + s 127 t) = 0
def DVt (P s : Mem) (t : Int) : Prop := s 130 t = 1 → 0 ≤ s 128 t ∧ (s 127 t < P 117 t → (P 118 (20 * t + s 127 t) = 0 → s 128 t < tkO P t (s 127 t)) ∧ (¬ P 118 (20 * t + s 127 t) = 0 → s 128 t = 0))
/-- what giving back leaves -/
def GvR (P : Mem) (t : Int) (s z : Mem) : Prop := (∀ c k, ¬ (c = 127 ∧ k = t) → ¬ (c = 129 ∧ k = t) → z c k = s c k) ∧ SV P z ∧ s 127 t ≤ z 127 t ∧ z 127 t ≤ P 117 t ∧ (z 127 t < P 117 t → ¬ P 118 (20 * t + z 127 t) = 2)
theorem givF_R {t : Int} (hp : PV P) (h0 : 0 ≤ t) (h1 : t < 8) : ∀ (n : Nat) (s : Mem), SV P s → s 130 t = 1 → n = (P 117 t - s 127 t).toNat → GvR P t s (givF P t n s) := by
  intro n
  induction n with
  | zero =>
    intro s hv ho hn
    have b := (hv t h0 h1).2.2.2.2.2.2.2.1 ho
    exact ⟨fun _ _ _ _ => rfl, hv, Int.le_refl _, b.2.2.1, fun q => by simp only [givF] at q; omega⟩
  | succ n ih =>
    intro s hv ho hn
    obtain ⟨a1, a2, a3, a4, a5, a6, a7, a8, a9⟩ := hv t h0 h1
    have b := a8 ho
    have hV := hp.2.2.2.2.2.2.2.2.2.2.2.2 t h0 h1 (hv.amo h0 h1 ho)
    obtain ⟨v1, v2, v3, v4, v5, v6, v7, v8, v9⟩ := hV
    have hk : s 127 t < P 117 t := by omega
    have hst := v9 (s 127 t).toNat (by omega)
    rw [Int.toNat_of_nonneg b.2.1] at hst
    have hth := hp.2.2.1
    have hhv := hv_s P t b.2.1
    rw [← b.2.2.2] at hhv
    simp only [givF]
    by_cases g : P 118 (20 * t + s 127 t) = 2
    · rw [if_pos g]
      rw [if_neg (by omega), if_pos g] at hhv
      have r := ih (mset (mset s 129 t (clrB (s 129 t) (P 119 (20 * t + s 127 t)))) 127 t (s 127 t + 1)) (hv.mv hp h0 h1 ho hk hhv.symm (andn_B a4 (pow_B (by omega)))) (by rw [ms_c (by omega), ms_c (by omega)]; exact ho) (by rw [ms_eq]; omega)
      obtain ⟨r1, r2, r3, r4⟩ := r
      rw [ms_eq] at r3
      refine ⟨fun c k q q2 => ?_, r2, by omega, r4⟩
      rw [r1 c k q q2, ms_ne q, ms_ne q2]
    · rw [if_neg g]
      exact ⟨fun _ _ _ _ => rfl, hv, Int.le_refl _, by omega, fun _ => g⟩
end

/-! how long a thing is held -/
section
variable {sx : Int → Int} {L : Nat} {P M : Mem} {Q : Option AV → Mem → Prop}
/-- work done from step x on until thing a is given back -/
def hwF (P : Mem) (t a : Int) : Nat → Int → Int
  | 0, _ => 0
  | m + 1, x => if P 118 (20 * t + x) = 2 ∧ P 119 (20 * t + x) = a then 0 else (if P 118 (20 * t + x) = 0 then P 119 (20 * t + x) else 0) + hwF P t a m (x + 1)
def whd (P : Mem) (t x : Int) : Int := hwF P t (P 119 (20 * t + x)) (P 117 t - (x + 1)).toNat (x + 1)
def mxF (P : Mem) (t b : Int) : Nat → Int
  | 0 => 0
  | k + 1 => if P 118 (20 * t + k) = 1 ∧ tb b (P 119 (20 * t + k)) = true then max (mxF P t b k) (whd P t k) else mxF P t b k
/-- the steps as the reference has read them -/
def RS (P M : Mem) (t : Int) : Prop := M 117 t = P 117 t ∧ ∀ k, 0 ≤ k → k < P 117 t → M 118 (20 * t + k) = P 118 (20 * t + k) ∧ M 119 (20 * t + k) = P 119 (20 * t + k)
theorem stp_B {t x : Int} (hV : PVt P t) (hp0 : P 104 0 ≤ 6) (x0 : 0 ≤ x) (x1 : x < P 117 t) : (P 118 (20 * t + x) = 0 ∨ P 118 (20 * t + x) = 1 ∨ P 118 (20 * t + x) = 2) ∧ 0 ≤ P 119 (20 * t + x) ∧ P 119 (20 * t + x) ≤ 9 := by
  have v := hV.2.2.2.2.2.2.2.2 x.toNat (by omega)
  rw [Int.toNat_of_nonneg x0] at v
  omega
theorem hw_B {t a : Int} (hV : PVt P t) (hp0 : P 104 0 ≤ 6) : ∀ (m : Nat) (x : Int), 0 ≤ x → x + m = P 117 t → 0 ≤ hwF P t a m x ∧ hwF P t a m x ≤ 9 * m := by
  intro m
  induction m with
  | zero => intro x _ _; simp [hwF]
  | succ m ih =>
    intro x x0 xm
    have i := ih (x + 1) (by omega) (by omega)
    have b := stp_B hV hp0 x0 (by omega)
    simp only [hwF]
    split
    · omega
    · split <;> omega
theorem whd_B {t x : Int} (hV : PVt P t) (hp0 : P 104 0 ≤ 6) (x0 : 0 ≤ x) (x1 : x < P 117 t) : 0 ≤ whd P t x ∧ whd P t x ≤ 180 := by
  have h := hw_B (a := P 119 (20 * t + x)) hV hp0 (P 117 t - (x + 1)).toNat (x + 1) (by omega) (by omega)
  have := hV.2.2.2.2.2.2.2.1
  unfold whd
  omega
theorem mx_B {t b : Int} (hV : PVt P t) (hp0 : P 104 0 ≤ 6) : ∀ k : Nat, (k : Int) ≤ P 117 t → 0 ≤ mxF P t b k ∧ mxF P t b k ≤ 180 := by
  intro k
  induction k with
  | zero => intro _; simp [mxF]
  | succ k ih =>
    intro hk
    have i := ih (by omega)
    have w := whd_B hV hp0 (x := k) (by omega) (by omega)
    simp only [mxF]
    split <;> omega
theorem s_28 {t x : Int} (hC : CPl P M) (hp : PV P) (h0 : 0 ≤ t) (h1 : t < 8) (hA : tb (P 104 27) t = true) (x0 : 0 ≤ x) (x1 : x < P 117 t) (hQ : Q (some (vI (whd P t x))) M) : Mq sx L K0 R0 28 [vR (plA t + 2), vI x] M Q := by
  have hc := isPl_A h0 h1
  have hV := hp.2.2.2.2.2.2.2.2.2.2.2.2 t h0 h1 hA
  have hp0 := hp.2.2.1
  have n20 := hV.2.2.2.2.2.2.2.1
  have e9 := (hC.2.2.2.2 t h0 h1 hA).2.2.2.1
  have lp : ∀ (m : Nat) (y acc : Int) (u5 : AV), cat2 u5 = false → 0 ≤ y → y + m = P 117 t → 0 ≤ acc → acc + 9 * m ≤ 400 → Q (some (vI (acc + hwF P t (P 119 (20 * t + x)) m y))) M → Rn sx L K0 R0 28 1 [vR (plA t + 2), vI x, vI (P 119 (20 * t + x)), vI acc, vI y, u5] [] M Q := by
    intro m
    induction m with
    | zero =>
      intro y acc u5 hu y0 ym a0 a1 hq
      simp only [hwF, Int.add_zero] at hq
      exact b_28_1 hc hu ⟨fun _ => b_28_4 hc hu hq, fun q => absurd (by omega) q⟩
    | succ m ih =>
      intro y acc u5 hu y0 ym a0 a1 hq
      have b := stp_B hV hp0 y0 (by omega)
      have go : ¬ (P 118 (20 * t + y) = 2 ∧ P 119 (20 * t + y) = P 119 (20 * t + x)) → Rn sx L K0 R0 28 2 [vR (plA t + 2), vI x, vI (P 119 (20 * t + x)), vI acc, vI y, vI (P 118 (20 * t + y) + 1)] [] M Q := by
        intro w
        simp only [hwF, if_neg w] at hq
        refine b_28_2 hc ⟨fun q => b_28_3 hc ⟨⟨by omega, by omega⟩, ih (y + 1) acc _ rfl (by omega) (by omega) a0 (by omega) ?_⟩, fun q => s_26 hC hp h0 h1 hA y0 (by omega) ⟨_, rfl, ⟨by omega, by omega⟩, b_28_3 hc ⟨⟨by omega, by omega⟩, ih (y + 1) _ _ rfl (by omega) (by omega) (by omega) (by omega) ?_⟩⟩⟩
        · rw [if_neg (by omega), Int.zero_add] at hq; exact hq
        · rw [if_pos (by omega), ← Int.add_assoc] at hq; exact hq
      refine b_28_1 hc hu ⟨fun q => absurd q (by omega), fun _ => s_25 hC hp h0 h1 hA y0 (fun _ => ⟨_, rfl, fun q => go (by omega), fun q => s_26 hC hp h0 h1 hA y0 (by omega) ⟨_, rfl, fun q2 => go (by omega), fun q2 => ?_⟩⟩) (fun q => absurd q (by omega))⟩
      simp only [hwF] at hq
      rw [if_pos ⟨by omega, by omega⟩, Int.add_zero] at hq
      exact hq
  refine m_28 (b_28_0 hc (s_26 hC hp h0 h1 hA x0 x1 ⟨_, rfl, ⟨by omega, by omega⟩, lp (P 117 t - (x + 1)).toNat (x + 1) 0 vU rfl (by omega) (by omega) (by omega) (by omega) ?_⟩))
  rw [Int.zero_add]; exact hQ
theorem s_27 {t b : Int} (hC : CPl P M) (hp : PV P) (h0 : 0 ≤ t) (h1 : t < 8) (hA : tb (P 104 27) t = true) (bB : inB b) (hQ : Q (some (vI (mxF P t b (P 117 t).toNat))) M) : Mq sx L K0 R0 27 [vR (plA t + 2), vI b] M Q := by
  have hc := isPl_A h0 h1
  have hV := hp.2.2.2.2.2.2.2.2.2.2.2.2 t h0 h1 hA
  have hp0 := hp.2.2.1
  have n0 := hV.2.2.2.2.2.2.1
  have n20 := hV.2.2.2.2.2.2.2.1
  have e9 := (hC.2.2.2.2 t h0 h1 hA).2.2.2.1
  refine m_27 (b_27_0 hc (lpI (N := P 117 t) (G := fun k => Rn sx L K0 R0 27 1 [vR (plA t + 2), vI b, vI (mxF P t b k.toNat), vI k] [] M Q) (fun k k0 k1 ih => ?_) (b_27_1 hc ⟨fun _ => b_27_3 hc hQ, fun q => absurd (by omega) q⟩) 0 (by omega) n0))
  have bb := stp_B hV hp0 k0 k1
  rw [show (k + 1).toNat = k.toNat + 1 by omega] at ih
  simp only [mxF, Int.toNat_of_nonneg k0] at ih
  have no : ¬ (P 118 (20 * t + k) = 1 ∧ tb b (P 119 (20 * t + k)) = true) → Rn sx L K0 R0 27 2 [vR (plA t + 2), vI b, vI (mxF P t b k.toNat), vI k] [] M Q := fun w => by
    rw [if_neg w] at ih
    exact b_27_2 hc ⟨⟨by omega, by omega⟩, ih⟩
  refine b_27_1 hc ⟨fun q => absurd q (by omega), fun _ => s_25 hC hp h0 h1 hA k0 (fun _ => ⟨_, rfl, fun q => no (by omega), fun q => s_26 hC hp h0 h1 hA k0 k1 ⟨_, rfl, ⟨bB.1, by omega, by omega⟩, fun w => no ?_, fun w => s_28 hC hp h0 h1 hA k0 k1 ⟨_, rfl, b_27_2 hc ⟨⟨by omega, by omega⟩, ?_⟩⟩⟩⟩) (fun q => absurd q (by omega))⟩
  · rw [bt_ne bB] at w
    rw [w]; simp
  · rw [bt_ne bB] at w
    rw [if_pos ⟨by omega, by simpa using w⟩] at ih
    exact ih
theorem s_195 {t x : Int} (hV : PVt P t) (hp0 : P 104 0 ≤ 6) (hR : RS P M t) (h0 : 0 ≤ t) (h1 : t < 8) (x0 : 0 ≤ x) (x1 : x < P 117 t) (hQ : Q (some (vI (whd P t x))) M) : Mq sx L K0 R0 195 [vR 106, vI t, vI x] M Q := by
  have n20 := hV.2.2.2.2.2.2.2.1
  have e9 := hR.1
  have lp : ∀ (m : Nat) (y acc : Int) (u6 : AV), cat2 u6 = false → 0 ≤ y → y + m = P 117 t → 0 ≤ acc → acc + 9 * m ≤ 400 → Q (some (vI (acc + hwF P t (P 119 (20 * t + x)) m y))) M → Rn sx L K0 R0 195 1 [vR 106, vI t, vI x, vI (P 119 (20 * t + x)), vI acc, vI y, u6] [] M Q := by
    intro m
    induction m with
    | zero =>
      intro y acc u6 hu y0 ym a0 a1 hq
      simp only [hwF, Int.add_zero] at hq
      exact b_195_1 hu ⟨⟨h0, h1⟩, fun _ => b_195_5 hu hq, fun q => absurd (by omega) q⟩
    | succ m ih =>
      intro y acc u6 hu y0 ym a0 a1 hq
      have b := stp_B hV hp0 y0 (by omega)
      have r := hR.2 y y0 (by omega)
      have go : ¬ (P 118 (20 * t + y) = 2 ∧ P 119 (20 * t + y) = P 119 (20 * t + x)) → Rn sx L K0 R0 195 2 [vR 106, vI t, vI x, vI (P 119 (20 * t + x)), vI acc, vI y, vI (20 * t + y)] [] M Q := by
        intro w
        simp only [hwF, if_neg w] at hq
        refine b_195_2 ⟨⟨by omega, by omega⟩, fun q => b_195_3 (b_195_4 ⟨⟨by omega, by omega⟩, ⟨by omega, by omega⟩, ih (y + 1) _ _ rfl (by omega) (by omega) (by omega) (by omega) ?_⟩), fun q => ⟨⟨by omega, by omega⟩, b_195_4 ⟨⟨by omega, by omega⟩, ⟨by omega, by omega⟩, ih (y + 1) _ _ rfl (by omega) (by omega) (by omega) (by omega) ?_⟩⟩⟩
        · rw [if_neg (by omega), Int.zero_add] at hq
          rw [Int.add_zero]; exact hq
        · rw [if_pos (by omega), ← Int.add_assoc] at hq
          rw [r.2]; exact hq
      refine b_195_1 hu ⟨⟨h0, h1⟩, fun q => absurd q (by omega), fun _ => ⟨⟨by omega, by omega⟩, ⟨by omega, by omega⟩, ⟨by omega, by omega⟩, fun q => go (by omega), fun q => ⟨⟨by omega, by omega⟩, fun q2 => go (by omega), fun q2 => ?_⟩⟩⟩
      simp only [hwF] at hq
      rw [if_pos ⟨by omega, by omega⟩, Int.add_zero] at hq
      exact hq
  refine m_195 (b_195_0 ⟨⟨by omega, by omega⟩, ⟨by omega, by omega⟩, ⟨by omega, by omega⟩, ⟨by omega, by omega⟩, ?_⟩)
  rw [(hR.2 x x0 x1).2]
  refine lp (P 117 t - (x + 1)).toNat (x + 1) 0 vU rfl (by omega) (by omega) (by omega) (by omega) ?_
  rw [Int.zero_add]; exact hQ
end

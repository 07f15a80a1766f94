section
variable {sx : Int → Int} {L : Nat} {P s M : Mem} {τ : Int} {Q : Option AV → Mem → Prop}
theorem cnt_all {i h : Int} (hi : tb (M 129 i) h = false) (h0 : 0 ≤ i) (h1 : i < 8) : sumI 8 (fun t => if tb (M 129 t) h = true then 1 else 0) = cntO M i h := by
  unfold cntO
  refine sumI_congr fun t _ _ => ?_
  by_cases e : t = i
  · subst e
    rw [hi]
    simp
  · simp [e]
theorem sum_split {i : Int} {f g : Int → Int} (h : ∀ t, ¬ t = i → f t = g t) : ∀ n : Nat, 0 ≤ i → sumI n f - (if i < n then f i else 0) = sumI n g - (if i < n then g i else 0) := by
  intro n h0
  induction n with
  | zero => simp only [sumI]; rw [if_neg (by omega), if_neg (by omega)]
  | succ n ih =>
    simp only [sumI]
    by_cases e : (n : Int) = i
    · rw [if_neg (by omega), if_neg (by omega)] at ih
      rw [if_pos (by omega), if_pos (by omega), e]
      omega
    · rw [h n e]
      by_cases e2 : i < (n : Int)
      · rw [if_pos e2, if_pos e2] at ih
        rw [if_pos (by omega), if_pos (by omega)]
        omega
      · rw [if_neg e2, if_neg e2] at ih
        rw [if_neg (by omega), if_neg (by omega)]
        omega
theorem cnt_but {i h : Int} (h0 : 0 ≤ i) (h1 : i < 8) : sumI 8 (fun t => if tb (M 129 t) h = true then 1 else 0) - (if tb (M 129 i) h = true then 1 else 0) = cntO M i h := by
  have := sum_split (i := i) (f := fun t => if tb (M 129 t) h = true then 1 else 0) (g := fun t => if ¬ t = i ∧ tb (M 129 t) h = true then 1 else 0) (fun t e => by simp [e]) 8 h0
  have e : i < ((8 : Nat) : Int) := by omega
  simp only [if_pos e, not_true_eq_false, false_and, if_false, Int.sub_zero] at this
  exact this
theorem cnt_B {i h : Int} : 0 ≤ cntO M i h ∧ cntO M i h ≤ 8 := by
  have := sumI_0 (n := 8) (f := fun t => if ¬ t = i ∧ tb (M 129 t) h = true then 1 else 0) (b := 1) (fun t _ _ => by split <;> omega)
  unfold cntO
  omega
theorem s_164 {i : Int} (hb : ∀ t, 0 ≤ t → t < 8 → inB (M 129 t)) (h0 : 0 ≤ i) (h1 : i < 8) (hn : 0 ≤ M 104 0 ∧ M 104 0 ≤ 6) (hh : ∀ h, 0 ≤ h → h < M 104 0 → M 137 h = hiR M h) (hQ : Q (some (vI (barB M M i))) M) : Mq sx L K0 R0 164 [vR 106, vI i] M Q := by
  have full : ∀ n : Nat, n ≤ 31 → (∀ h : Int, 0 ≤ h → n ≤ h → h < 6 → (decide (M 104 34 = 2 ∧ h < M 104 0 ∧ 0 < cntO M i h ∧ M 121 i ≤ hiR M h)) = false) → n ≤ 6 → mkB n (fun h => decide (M 104 34 = 2 ∧ h < M 104 0 ∧ 0 < cntO M i h ∧ M 121 i ≤ hiR M h)) = barB M M i := by
    intro n hn hz hn6
    refine tb_ext (mkB_B n _ hn).1 (mkB_B 6 _ (by omega)).1 fun h hh0 => ?_
    unfold barB
    rw [tb_mkB n _ hn hh0, tb_mkB 6 _ (by omega) hh0]
    by_cases e : h < n
    · rw [decide_eq_true e, decide_eq_true (by omega : h < ((6 : Nat) : Int))]
    · by_cases e6 : h < 6
      · rw [hz h hh0 (by omega) e6, decide_eq_false e, Bool.and_false, Bool.and_false]
      · rw [decide_eq_false e, decide_eq_false (by omega : ¬ h < ((6 : Nat) : Int))]
  refine m_164 (b_164_0 ?_)
  by_cases hl : M 104 34 = 2
  · refine lpI (N := M 104 0) (G := fun k => ∀ u4, cat2 u4 = false → Rn sx L K0 R0 164 1 [vR 106, vI i, vI (mkB k.toNat (fun h => decide (M 104 34 = 2 ∧ h < M 104 0 ∧ 0 < cntO M i h ∧ M 121 i ≤ hiR M h))), vI k, u4] [] M Q) (fun k k0 k1 ih => ?_) (fun u4 h4 => ?_) 0 (by omega) hn.1 vU rfl
    · intro u4 h4
      rw [mkB_s k0] at ih
      refine b_164_1 h4 ⟨fun q => absurd q (by omega), fun _ => ⟨fun q => absurd hl q, fun _ => ?_⟩⟩
      refine s_162 hb k0 (by omega) ⟨_, rfl, ⟨h0, h1⟩, ⟨(hb i h0 h1).1, k0, by omega⟩, ?_⟩
      rw [bt_eq (hb i h0 h1), cnt_but h0 h1]
      have hc := cnt_B (M := M) (i := i) (h := k)
      have hB := mkB_B k.toNat (fun h => decide (M 104 34 = 2 ∧ h < M 104 0 ∧ 0 < cntO M i h ∧ M 121 i ≤ hiR M h)) (by omega)
      have no : decide (M 104 34 = 2 ∧ k < M 104 0 ∧ 0 < cntO M i k ∧ M 121 i ≤ hiR M k) = false → Rn sx L K0 R0 164 2 [vR 106, vI i, vI (mkB k.toNat (fun h => decide (M 104 34 = 2 ∧ h < M 104 0 ∧ 0 < cntO M i h ∧ M 121 i ≤ hiR M h))), vI k, vI (cntO M i k)] [vI (mkB k.toNat (fun h => decide (M 104 34 = 2 ∧ h < M 104 0 ∧ 0 < cntO M i h ∧ M 121 i ≤ hiR M h)))] M Q := by
        intro e
        rw [e, if_neg (by decide)] at ih
        refine b_164_2 (b_164_3 ⟨⟨by omega, by omega⟩, ?_⟩)
        rw [or_0 hB]
        exact ih _ rfl
      refine ⟨⟨by omega, by omega⟩, fun q => no (decide_eq_false (by omega)), fun q => ⟨⟨k0, by omega⟩, ⟨h0, h1⟩, fun q2 => no (decide_eq_false ?_), fun q2 => ⟨pow30 k0 (by omega), b_164_3 ⟨⟨by omega, by omega⟩, ?_⟩⟩⟩⟩
      · rw [hh k k0 k1] at q2
        omega
      · rw [hh k k0 k1] at q2
        rw [decide_eq_true ⟨hl, k1, by omega, by omega⟩, if_pos rfl] at ih
        exact ih _ rfl
    · refine b_164_1 h4 ⟨fun _ => b_164_4 h4 ?_, fun q => absurd (by omega) q⟩
      rw [full (M 104 0).toNat (by omega) (fun h _ e _ => decide_eq_false (by omega)) (by omega)]
      exact hQ
  · have e := full 0 (by omega) (fun h _ _ _ => decide_eq_false (fun q => hl q.1)) (by omega)
    have fin : Rn sx L K0 R0 164 4 [vR 106, vI i, vI 0, vI 0, vU] [] M Q := b_164_4 rfl (by rw [← e] at hQ; exact hQ)
    exact b_164_1 rfl ⟨fun _ => fin, fun _ => ⟨fun _ => fin, fun q => absurd hl q⟩⟩
theorem s_165 {h : Int} (h0 : 0 ≤ h) (h1 : h < 6) (hQ : Q (some (vI (if brkP M (M 104 51) h = true then 1 else 0))) M) : Mq sx L K0 R0 165 [vR 106, vI h] M Q := by
  refine m_165 (b_165_0 ⟨⟨h0, h1⟩, ⟨h0, h1⟩, s_137 fun r hr => ⟨r, rfl, by omega, ?_⟩⟩)
  have : r = if brkP M (M 104 51) h = true then 1 else 0 := by
    unfold brkP
    simp only [decide_eq_true_eq]
    split <;> omega
  rw [this]
  exact hQ
theorem s_166 {x i : Int} (hQ : Q (some (vI (mkB 8 fun t => decide (¬ t = i) && decide (¬ iAnd (M 129 t) x = 0)))) M) : Mq sx L K0 R0 166 [vR 106, vI x, vI i] M Q := by
  refine m_166 (b_166_0 (lpI (N := 8) (G := fun k => Rn sx L K0 R0 166 1 [vR 106, vI x, vI i, vI (mkB k.toNat fun t => decide (¬ t = i) && decide (¬ iAnd (M 129 t) x = 0)), vI k] [] M Q) (fun k k0 k1 ih => ?_) (b_166_1 ⟨fun _ => b_166_4 hQ, fun q => absurd (by omega) q⟩) 0 (by omega) (by omega)))
  rw [mkB_s k0] at ih
  have hB := mkB_B k.toNat (fun t => decide (¬ t = i) && decide (¬ iAnd (M 129 t) x = 0)) (by omega)
  have no : (decide (¬ k = i) && decide (¬ iAnd (M 129 k) x = 0)) = false → Rn sx L K0 R0 166 2 [vR 106, vI x, vI i, vI (mkB k.toNat fun t => decide (¬ t = i) && decide (¬ iAnd (M 129 t) x = 0)), vI k] [vI (mkB k.toNat fun t => decide (¬ t = i) && decide (¬ iAnd (M 129 t) x = 0))] M Q := by
    intro e
    rw [e, if_neg (by decide)] at ih
    refine b_166_2 (b_166_3 ⟨⟨by omega, by omega⟩, ?_⟩)
    rw [or_0 hB]
    exact ih
  refine b_166_1 ⟨fun q => absurd q (by omega), fun _ => ⟨fun q => no (by simp [q]), fun q => ⟨⟨k0, k1⟩, fun q2 => no (by simp [q2]), fun q2 => ⟨pow30 k0 (by omega), b_166_3 ⟨⟨by omega, by omega⟩, ?_⟩⟩⟩⟩⟩
  rw [decide_eq_true q, decide_eq_true q2, if_pos (by decide)] at ih
  exact ih
end

section
variable {sx : Int → Int} {L : Nat} {P s M : Mem} {τ : Int} {Q : Option AV → Mem → Prop}
theorem s_172 {i : Int} (hb : inB (M 129 i)) (h0 : 0 ≤ i) (h1 : i < 8) (hn : 0 ≤ M 104 0 ∧ M 104 0 ≤ 6) (hQ : Q (some (vI (if firP M M i = true then 1 else 0))) M) : Mq sx L K0 R0 172 [vR 106, vI i] M Q := by
  have hF : inB (firB M) := mkB_B 6 _ (by omega)
  have bit : ∀ h, 0 ≤ h → tb (iAnd (M 129 i) (firB M)) h = (tb (M 129 i) h && (decide (h < 6) && decide (h < M 104 0 ∧ M 105 h = 2))) := by
    intro h a
    rw [tb_and hb hF]
    unfold firB
    rw [tb_mkB 6 _ (by omega) a]
    rfl
  have yes : ∀ h, 0 ≤ h → h < M 104 0 → tb (M 129 i) h = true → M 105 h = 2 → Q (some (vI 1)) M := by
    intro h a b c d
    have : firP M M i = true := by
      unfold firP
      refine decide_eq_true ((tb_ne0 (and_B hb hF).1).mpr ⟨h, a, ?_⟩)
      rw [bit h a, c, decide_eq_true (by omega), decide_eq_true ⟨b, d⟩]
      rfl
    rw [this] at hQ
    exact hQ
  have no : (∀ h, 0 ≤ h → h < M 104 0 → ¬ (tb (M 129 i) h = true ∧ M 105 h = 2)) → Q (some (vI 0)) M := by
    intro H
    have : firP M M i = false := by
      unfold firP
      refine decide_eq_false (fun q => ?_)
      obtain ⟨h, a, e⟩ := (tb_ne0 (and_B hb hF).1).mp q
      rw [bit h a] at e
      simp only [Bool.and_eq_true, decide_eq_true_eq] at e
      exact H h a e.2.2.1 ⟨e.1, e.2.2.2⟩
    rw [this] at hQ
    exact hQ
  refine m_172 (b_172_0 (lpI (N := M 104 0) (G := fun k => (∀ h, 0 ≤ h → h < k → ¬ (tb (M 129 i) h = true ∧ M 105 h = 2)) → Rn sx L K0 R0 172 1 [vR 106, vI i, vI k] [] M Q) (fun k k0 k1 ih => ?_) (fun H => b_172_1 ⟨fun _ => b_172_3 (no H), fun q => absurd (by omega) q⟩) 0 (by omega) hn.1 (fun h a b => by omega)))
  intro H
  have nx : ¬ (tb (M 129 i) k = true ∧ M 105 k = 2) → Rn sx L K0 R0 172 2 [vR 106, vI i, vI k] [] M Q := fun q => b_172_2 ⟨⟨by omega, by omega⟩, ih (fun h a b => by
    by_cases e : h = k
    · rw [e]; exact q
    · exact H h a (by omega))⟩
  refine b_172_1 ⟨fun q => absurd q (by omega), fun _ => ⟨⟨h0, h1⟩, ⟨hb.1, k0, by omega⟩, fun q => nx ?_, fun q => ⟨⟨k0, by omega⟩, fun q2 => nx ?_, fun q2 => ?_⟩⟩⟩
  · rw [bt_1 hb] at q
    exact fun z => q z.1
  · exact fun z => q2 z.2
  · rw [bt_1 hb] at q
    exact yes k k0 k1 (Decidable.not_not.mp q) (Decidable.not_not.mp q2)
theorem MR.fir (h : MR P s M τ) (x : Int) : firP M M x = firP P s x := by
  unfold firP firB
  rw [h.sf (c := 129) (by omega), h.m (k := 0) (by omega), h.pf (c := 105) (by omega)]
theorem nx_B {f : Int → Int} (n : Nat) : -1 ≤ (nx f P s n).1 ∧ (nx f P s n).1 < n ∧ (¬ (nx f P s n).1 = -1 → ¬ s 130 (nx f P s n).1 = 0 ∧ s 132 (nx f P s n).1 = 3) := by
  induction n with
  | zero => simp [nx]
  | succ n ih =>
    simp only [nx]
    split
    · next h => exact ⟨by dsimp only; omega, by dsimp only; omega, fun _ => ⟨h.1, h.2.1⟩⟩
    · exact ⟨ih.1, by omega, ih.2.2⟩
theorem nx_s {f : Int → Int} {k : Int} (h : 0 ≤ k) : nx f P s (k + 1).toNat = if ¬ s 130 k = 0 ∧ s 132 k = 3 ∧ betF f P s k (nx f P s k.toNat) = true then (k, firP P s k) else nx f P s k.toNat := by
  rw [show (k + 1).toNat = k.toNat + 1 by omega]
  simp only [nx, Int.toNat_of_nonneg h]
theorem b2 {p : Bool} {y : Int} (h : y = if p = true then 1 else 0) : (y = 0 ↔ p = false) := by
  cases p
  · simp [h]
  · simp [h]
theorem s_173 (hR : MR P s M τ) (hv : SV P s) (hp : PV P) (hw : WV s) (hQ : ∀ M', MR P s M' τ → Frm M M' → Q (some (vI (nextF P s))) M') : Mq sx L K0 R0 173 [vR 106] M Q := by
  refine m_173 (b_173_0 (s_171 hR hv hp hw fun M' i1 i2 i3 => ⟨rfl, ?_⟩))
  have i4 := hQ M' i1 i2
  clear hQ hR i2
  have h129 : M' 129 = s 129 := i1.sf (by omega)
  have h130 : M' 130 = s 130 := i1.sf (by omega)
  have h132 : M' 132 = s 132 := i1.sf (by omega)
  have hth : 0 ≤ M' 104 0 ∧ M' 104 0 ≤ 6 := by rw [i1.m (by omega)]; exact ⟨hp.2.1, hp.2.2.1⟩
  refine lpI (N := 8) (G := fun k => ∀ y u4 u5, (y = if (nx (frc P s) P s k.toNat).2 = true then 1 else 0) → cat2 u4 = false → cat2 u5 = false → Rn sx L K0 R0 173 1 [vR 106, vI (nx (frc P s) P s k.toNat).1, vI y, vI k, u4, u5] [] M' Q) (fun k k0 k1 ih => ?_) (fun y u4 u5 hy h4 h5 => b_173_1 h4 h5 ⟨fun _ => b_173_11 h4 h5 i4, fun q => absurd (by omega) q⟩) 0 (by omega) (by omega) 0 vU vU rfl rfl rfl
  intro y u4 u5 hy h4 h5
  have hB := nx_B (P := P) (s := s) (f := frc P s) k.toNat
  rw [nx_s k0] at ih
  generalize hz : nx (frc P s) P s k.toNat = z at hy ih hB ⊢
  obtain ⟨zb, zf⟩ := z
  dsimp only at hy hB ih ⊢
  have skip : ¬ (¬ s 130 k = 0 ∧ s 132 k = 3 ∧ betF (frc P s) P s k (zb, zf) = true) → ∀ u4 u5, cat2 u4 = false → cat2 u5 = false → Rn sx L K0 R0 173 10 [vR 106, vI zb, vI y, vI k, u4, u5] [] M' Q := by
    intro q u4 u5 h4 h5
    rw [if_neg q] at ih
    exact b_173_10 h4 h5 ⟨⟨by omega, by omega⟩, ih y u4 u5 hy h4 h5⟩
  refine b_173_1 h4 h5 ⟨fun q => absurd q (by omega), fun _ => ⟨⟨k0, k1⟩, ?_⟩⟩
  rw [h130, h132]
  refine ⟨fun q => skip (fun z => z.1 q) _ _ h4 h5, fun q => ⟨⟨k0, k1⟩, fun q2 => skip (fun z => q2 z.2.1) _ _ h4 h5, fun q2 => s_172 (by rw [h129]; exact (hv k k0 k1).2.2.2.1) k0 k1 hth ⟨_, rfl, ?_⟩⟩⟩
  have q3 := Decidable.not_not.mp q2
  rw [i1.fir]
  generalize hx : (if firP P s k = true then (1 : Int) else 0) = x4
  have hx4 := b2 hx.symm
  have hy0 := b2 hy
  have take : betF (frc P s) P s k (zb, zf) = true → Rn sx L K0 R0 173 3 [vR 106, vI zb, vI y, vI k, vI x4, u5] [] M' Q := by
    intro w
    rw [if_pos (show ¬ s 130 k = 0 ∧ s 132 k = 3 ∧ betF (frc P s) P s k (zb, zf) = true from ⟨q, q3, w⟩)] at ih
    refine b_173_3 h5 (b_173_5 h5 ⟨fun q => absurd q (by omega), fun _ => b_173_7 ⟨fun q => absurd q (by omega), fun _ => b_173_9 (b_173_10 rfl rfl ⟨⟨by omega, by omega⟩, ih x4 _ _ hx.symm rfl rfl⟩)⟩⟩)
  have leave : ¬ betF (frc P s) P s k (zb, zf) = true → Rn sx L K0 R0 173 4 [vR 106, vI zb, vI y, vI k, vI x4, u5] [] M' Q := by
    intro w
    refine b_173_4 h5 (b_173_5 h5 ⟨fun _ => b_173_6 (b_173_7 ⟨fun _ => b_173_8 (b_173_9 (skip (fun z => w z.2.2) _ _ rfl rfl)), fun q => absurd rfl q⟩), fun q => absurd rfl q⟩)
  have two : ¬ zb = -1 → ¬ (firP P s k = true ∧ zf = false) → Rn sx L K0 R0 173 2 [vR 106, vI zb, vI y, vI k, vI x4, u5] [] M' Q := by
    intro w1 w2
    have hzb : 0 ≤ zb ∧ zb < 8 := by omega
    have eqf : ¬ ¬ x4 = y → firP P s k = zf := by
      intro w
      cases e1 : firP P s k <;> cases e2 : zf
      · rfl
      · rw [e1] at hx; rw [e2] at hy; simp only [Bool.false_eq_true, if_false, if_true] at hx hy; omega
      · exact absurd ⟨e1, e2⟩ w2
      · rfl
    refine b_173_2 h5 ⟨fun w => leave fun e => ?_, fun w => ⟨⟨k0, k1⟩, hzb, ?_⟩⟩
    · unfold betF at e
      simp only [Bool.or_eq_true, Bool.and_eq_true, decide_eq_true_eq, Bool.not_eq_true'] at e
      rcases e with (e | e) | e
      · exact w1 e
      · exact w2 e
      · refine w ?_
        rw [← hx, hy, e.1]
    · rw [i3 zb hzb.1 hzb.2, i3 k k0 k1]
      refine ⟨fun w3 => leave fun e => ?_, fun w3 => take ?_⟩
      · unfold betF at e
        simp only [Bool.or_eq_true, Bool.and_eq_true, decide_eq_true_eq, Bool.not_eq_true'] at e
        rcases e with (e | e) | e
        · exact w1 e
        · exact w2 e
        · omega
      · unfold betF
        rw [decide_eq_true (eqf w), decide_eq_true (show frc P s k < frc P s zb by omega)]
        simp
  refine ⟨fun w => take ?_, fun w => ⟨fun w2 => two w ?_, fun w2 => ⟨fun w3 => take ?_, fun w3 => two w ?_⟩⟩⟩
  · unfold betF
    rw [decide_eq_true w]
    rfl
  · rw [hx4.mp w2]
    simp
  · unfold betF
    have e1 : firP P s k = true := by
      cases e : firP P s k
      · exact absurd (hx4.mpr e) w2
      · rfl
    rw [e1, hy0.mp w3]
    simp
  · intro w4
    exact w3 (hy0.mpr w4.2)
end

/-! the class: whether a task must wait; how far it goes on -/
section
variable {sx : Int → Int} {L : Nat} {P s M : Mem} {τ : Int} {Q : Option AV → Mem → Prop} {B : Nat}
def HRl (P s M : Mem) (B : Nat) (τ : Int) : Prop := (∀ t, 0 ≤ t → t < 8 → M (ckA B t) 12 = s 129 t) ∧ (∀ t, 0 ≤ t → t < 8 → M (ckA B t) 17 = brB P t) ∧ M B 14 = brkB P τ
theorem hl_s {i h k : Int} (k0 : 0 ≤ k) : hlB s i h (k + 1).toNat = if (decide (¬ k = i) && tb (s 129 k) h) = true then iOr (hlB s i h k.toNat) (1 * 2 ^ k.toNat) else hlB s i h k.toNat := mkB_s k0 _
theorem brr_s {i k : Int} (k0 : 0 ≤ k) : brrB P s i (k + 1).toNat = if (decide (¬ k = i) && decide (¬ iAnd (s 129 k) (brB P i) = 0)) = true then iOr (brrB P s i k.toNat) (1 * 2 ^ k.toNat) else brrB P s i k.toNat := mkB_s k0 _
theorem s_43 {i h : Int} (hB : isRb B) (hC : CPl P M) (hp : PV P) (hv : ∀ t, 0 ≤ t → t < 8 → inB (s 129 t)) (hR : HRl P s M B τ) (h0 : 0 ≤ i) (h1 : i < 8) (g0 : 0 ≤ h) (g1 : h < P 104 0)
    (hQ1 : waitP P s τ i h = true → Q (some (vI 1)) (mset M (ckA B i) 13 (wtB P s i h))) (hQ2 : waitP P s τ i h = false → ∀ v, Q (some (vI 0)) (mset M (ckA B i) 13 v)) : Mq sx L K0 R0 43 [vR (B + 2), vI i, vI h] M Q := by
  have hth2 := hp.2.2.1
  have hc := isCk_A hB h0 h1
  refine m_43 (b_43_0 hB ⟨h0, h1⟩ (lpI (N := 8) (G := fun k => Rn sx L K0 R0 43 1 [vR (B + 2), vI i, vI h, vR (ckA B i + 2), vI (hlB s i h k.toNat), vI (sumI k.toNat fun t => if ¬ t = i ∧ tb (s 129 t) h = true then 1 else 0), vI (brrB P s i k.toNat), vI k] [] M Q) (fun k k0 k1 ih => ?_) (b_43_1 hB hc ⟨fun _ => ?_, fun q => absurd (by omega) q⟩) 0 (by omega) (by omega)))
  · rw [sumI_s k0, hl_s k0, brr_s k0] at ih
    have hs := sumI_0 (n := k.toNat) (f := fun t => if ¬ t = i ∧ tb (s 129 t) h = true then 1 else 0) (b := 1) (fun t _ _ => by split <;> omega)
    generalize (sumI k.toNat fun t => if ¬ t = i ∧ tb (s 129 t) h = true then 1 else 0) = sm at hs ih ⊢
    generalize hlB s i h k.toNat = x4 at ih ⊢
    generalize brrB P s i k.toNat = x6 at ih ⊢
    refine b_43_1 hB hc ⟨fun q => absurd q (by omega), fun _ => ⟨fun q => ?_, fun q => ?_⟩⟩
    · have e12 : M (ckA B k) 12 = s 129 k := hR.1 k k0 k1
      have e17 : M (ckA B i) 17 = brB P i := hR.2.1 i h0 h1
      have hb := hv k k0 k1
      have three : ∀ (y4 y5 : Int), y4 = (if tb (s 129 k) h = true then iOr x4 (1 * 2 ^ k.toNat) else x4) → y5 = sm + (if tb (s 129 k) h = true then 1 else 0) → Rn sx L K0 R0 43 3 [vR (B + 2), vI i, vI h, vR (ckA B i + 2), vI y4, vI y5, vI x6, vI k] [] M Q := by
        intro y4 y5 hy4 hy5
        simp only [q, not_false_eq_true, decide_true, Bool.true_and, true_and] at ih
        rw [← hy4, ← hy5] at ih
        refine b_43_3 hB hc ⟨k0, k1⟩ ?_
        rw [e12, e17]
        refine ⟨fun w => b_43_4 hB hc ⟨⟨by omega, by omega⟩, ?_⟩, fun w => ⟨⟨by omega, by omega, (pow30 k0 (by omega)).2.2.2⟩, b_43_4 hB hc ⟨⟨by omega, by omega⟩, ?_⟩⟩⟩
        · rw [decide_eq_false (fun z => z w), if_neg (by decide)] at ih
          exact ih
        · rw [decide_eq_true w, if_pos (by decide)] at ih
          exact ih
      refine b_43_2 hB hc ⟨k0, k1⟩ ?_
      rw [e12]
      refine ⟨⟨hb.1, g0, by omega⟩, fun w => three _ _ ?_ ?_, fun w => ⟨⟨by omega, by omega, (pow30 k0 (by omega)).2.2.2⟩, ⟨by omega, by omega⟩, three _ _ ?_ ?_⟩⟩
      · rw [bt_ne hb] at w
        rw [w]; rfl
      · rw [bt_ne hb] at w
        rw [w]; simp
      · rw [bt_ne hb] at w
        rw [if_pos (by simpa using w)]
      · rw [bt_ne hb] at w
        rw [if_pos (by simpa using w)]
    · have q2 := Decidable.not_not.mp q
      rw [if_neg (show ¬ (decide (¬ k = i) && tb (s 129 k) h) = true by simp [q2]), if_neg (show ¬ (¬ k = i ∧ tb (s 129 k) h = true) from fun w => w.1 q2), if_neg (show ¬ (decide (¬ k = i) && decide (¬ iAnd (s 129 k) (brB P i) = 0)) = true by simp [q2]), Int.add_zero] at ih
      refine b_43_4 hB hc ⟨⟨by omega, by omega⟩, ?_⟩
      exact ih
  · rw [show (8 : Int).toNat = 8 from rfl]
    have e2 := (hC.2.2.1 h g0 g1).1
    have W := wt_eq (P := P) (i := i) hv g0 (by omega : h < 6)
    have NB := bar_ne (P := P) (i := i) hv
    have tbk : tb (brkB P τ) h = brkP P τ h := by
      unfold brkB
      rw [tb_mkB 6 _ (by omega) g0, decide_eq_true (show h < ((6 : Nat) : Int) by omega), decide_eq_true g1]
      simp
    have iB : inB (brkB P τ) := mkB_B 6 _ (by omega)
    have e14 : ∀ v, mset M (ckA B i) 13 v B 14 = brkB P τ := fun v => by rw [ms_c (B_ck (by omega))]; exact hR.2.2
    have cn : cntO s i h = sumI 8 fun t => if ¬ t = i ∧ tb (s 129 t) h = true then 1 else 0 := rfl
    rw [← cn]
    -- behind the last look
    have ten : ∀ (x7 y1 : Int) (x4 x5 : Int), (x7 = 0 ↔ fulP P s i h = false) → (y1 = wtB P s i h) → Rn sx L K0 R0 43 10 [vR (B + 2), vI i, vI h, vR (ckA B i + 2), vI x4, vI x5, vI (brrB P s i 8), vI x7] [vI y1, vR (ckA B i + 2)] M Q := by
      intro x7 y1 x4 x5 hx7 hy1
      have yes : waitP P s τ i h = true → Rn sx L K0 R0 43 11 [vR (B + 2), vI i, vI h, vR (ckA B i + 2), vI x4, vI x5, vI (brrB P s i 8), vI x7] [] (mset M (ckA B i) 13 y1) Q := by
        intro w
        refine b_43_11 hB hc (b_43_13 hB hc ⟨Or.inr rfl, ?_⟩)
        rw [hy1]
        exact hQ1 w
      refine b_43_10 hB hc hc ⟨fun q => yes ?_, fun q => ⟨fun q2 => yes ?_, fun q2 => ?_⟩⟩
      · unfold waitP
        cases e : fulP P s i h
        · exact absurd (hx7.mpr e) q
        · rfl
      · unfold waitP
        rw [decide_eq_true (NB.mp q2)]
        simp
      · rw [e14]
        refine ⟨⟨iB.1, g0, by omega⟩, fun q3 => ?_, fun q3 => yes ?_⟩
        · rw [bt_ne iB, tbk] at q3
          refine b_43_12 hB hc (b_43_13 hB hc ⟨Or.inl rfl, hQ2 ?_ _⟩)
          unfold waitP
          rw [hx7.mp (by omega), q3, decide_eq_false (fun w => q2 (NB.mpr w))]
          rfl
        · rw [bt_ne iB, tbk] at q3
          unfold waitP
          rw [show brkP P τ h = true by simpa using q3]
          simp
    have ful : fulP P s i h = decide (P 106 h ≤ cntO s i h) := rfl
    have eight : ∀ y : Int, (y = 0 ↔ fulP P s i h = false) → Rn sx L K0 R0 43 8 [vR (B + 2), vI i, vI h, vR (ckA B i + 2), vI (hlB s i h 8), vI (cntO s i h), vI (brrB P s i 8), vI 8] [vI y] M Q := by
      intro y hy
      refine b_43_8 hB hc ⟨fun q => b_43_9 hB hc hc (ten y _ _ _ hy ?_), fun q => ten y _ _ _ hy ?_⟩
      · rw [W, if_neg (by rw [hy.mp q]; decide)]
      · rw [W, if_pos ?_]
        cases e : fulP P s i h
        · exact absurd (hy.mpr e) q
        · rfl
    refine b_43_5 hB hc ⟨fun q => absurd q (by omega), fun _ => ⟨fun q => absurd q (by omega), fun _ => ⟨⟨g0, by omega⟩, fun q => b_43_7 hB hc (eight 0 ⟨fun _ => ?_, fun _ => rfl⟩), fun q => b_43_6 hB hc (eight 1 ⟨fun w => by omega, fun w => ?_⟩)⟩⟩⟩
    · rw [ful]; exact decide_eq_false (by omega)
    · rw [ful] at w
      have := of_decide_eq_false w
      omega
/-- what going on may change -/
def FrI (B : Nat) (i : Int) (M M' : Mem) : Prop := ∀ c k, ¬ (c = ckA B i ∧ (k = 10 ∨ k = 12 ∨ k = 13)) → M' c k = M c k
theorem FrI.rfl' {i : Int} : FrI B i M M := fun _ _ _ => rfl
theorem FrI.set {i : Int} {M1 : Mem} {k v : Int} (h : FrI B i M M1) (hk : k = 10 ∨ k = 12 ∨ k = 13) : FrI B i M (mset M1 (ckA B i) k v) := fun c' k' q => by
  rw [ms_ne (fun e => q ⟨e.1, by omega⟩), h c' k' q]
theorem FrI.b {i : Int} {M1 : Mem} (h : FrI B i M M1) (h0 : 0 ≤ i) (h1 : i < 8) : FrB B M M1 := fun c k q => h c k fun e => q (by rw [e.1]; exact ck_in h0 h1)
theorem HRl.mv {i v : Int} {M' : Mem} {w : Int} (h : HRl P s M B τ) (h0 : 0 ≤ i) (e : M' (ckA B i) 12 = v) (f : FrI B i M M') : HRl P (mset (mset s 129 i v) 127 i w) M' B τ := by
  refine ⟨fun t a b => ?_, fun t a b => ?_, ?_⟩
  · rw [ms_c (by omega)]
    by_cases q : t = i
    · rw [q, ms_eq]; exact e
    · rw [ms_k q, f _ _ (fun z => ck_inj a h0 q z.1)]
      exact h.1 t a b
  · rw [f _ _ (fun z => by omega)]
    exact h.2.1 t a b
  · rw [f _ _ (fun z => by omega)]
    exact h.2.2
theorem HRl.fr {i : Int} {M' : Mem} (h : HRl P s M B τ) (h0 : 0 ≤ i) (h1 : i < 8) (e : M' (ckA B i) 12 = M (ckA B i) 12) (f : FrI B i M M') : HRl P s M' B τ := by
  refine ⟨fun t a b => ?_, fun t a b => ?_, ?_⟩
  · by_cases q : t = i
    · rw [q, e]; exact h.1 i h0 h1
    · rw [f _ _ (fun z => ck_inj a h0 q z.1)]
      exact h.1 t a b
  · rw [f _ _ (fun z => by omega)]
    exact h.2.1 t a b
  · rw [f _ _ (fun z => by omega)]
    exact h.2.2
theorem s_42l {i : Int} (hB : isRb B) (hp : PV P) (h0 : 0 ≤ i) (h1 : i < 8) (M0 : Mem) : ∀ (n : Nat) (s M : Mem) (u5 u6 : AV), CPl P M → HRl P s M B τ → SV P s → s 130 i = 1 → n = (P 117 i - s 127 i).toNat → FrI B i M0 M → cat2 u5 = false → cat2 u6 = false →
    (∀ M' r, FrI B i M0 M' → ((doF P τ i n s).1 = 0 ∧ r = 1 ∨ (doF P τ i n s).1 = 1 ∧ r = 2 ∨ (doF P τ i n s).1 = 2 ∧ r = -1) → (¬ (doF P τ i n s).1 = 2 → M' (ckA B i) 10 = (doF P τ i n s).2 127 i ∧ M' (ckA B i) 12 = (doF P τ i n s).2 129 i) → ((doF P τ i n s).1 = 1 → M' (ckA B i) 13 = (doF P τ i n s).2 133 i) → Q (some (vI r)) M') →
    Rn sx L K0 R0 42 1 [vR (B + 2), vI i, vR (ckA B i + 2), vR (plA i + 2), vI (s 127 i), u5, u6] [] M Q := by
  intro n
  have hc := isCk_A hB h0 h1
  have hl := isPl_A h0 h1
  induction n with
  | zero =>
    intro s M u5 u6 hC hR hv ho hn hF h5 h6 hQ
    have b := (hv i h0 h1).2.2.2.2.2.2.2.1 ho
    have hA := hv.amo h0 h1 ho
    have e9 := (hC.2.2.2.2 i h0 h1 hA).2.2.2.1
    exact b_42_1 hB hc hl h5 h6 ⟨fun _ => b_42_6 hB hc hl h5 h6 (hQ M (-1) hF (Or.inr (Or.inr ⟨rfl, rfl⟩)) (fun q => absurd rfl q) (fun q => by simp only [doF] at q; omega)), fun q => absurd (by omega) q⟩
  | succ n ih =>
    intro s M u5 u6 hC hR hv ho hn hF h5 h6 hQ
    obtain ⟨a1, a2, a3, a4, a5, a6, a7, a8, a9⟩ := hv i h0 h1
    have b := a8 ho
    have hA := hv.amo h0 h1 ho
    have hV := hp.2.2.2.2.2.2.2.2.2.2.2.2 i h0 h1 hA
    obtain ⟨v1, v2, v3, v4, v5, v6, v7, v8, v9⟩ := hV
    have hk : s 127 i < P 117 i := by omega
    have hst := v9 (s 127 i).toNat (by omega)
    rw [Int.toNat_of_nonneg b.2.1] at hst
    have hth := hp.2.2.1
    have hhv := hv_s P i b.2.1
    rw [← b.2.2.2] at hhv
    have e9 := (hC.2.2.2.2 i h0 h1 hA).2.2.2.1
    have F1 : FrI B i M (mset M (ckA B i) 10 (s 127 i)) := FrI.rfl'.set (by omega)
    have F0 : FrI B i M0 (mset M (ckA B i) 10 (s 127 i)) := hF.set (by omega)
    have C1 := hC.fr hB (F1.b h0 h1)
    have x12 : mset M (ckA B i) 10 (s 127 i) (ckA B i) 12 = s 129 i := by rw [ms_k (by omega)]; exact hR.1 i h0 h1
    have R1 : HRl P s (mset M (ckA B i) 10 (s 127 i)) B τ := hR.fr h0 h1 (by rw [ms_k (by omega)]) F1
    have x10 : mset M (ckA B i) 10 (s 127 i) (ckA B i) 10 = s 127 i := ms_eq
    simp only [doF] at hQ
    refine b_42_1 hB hc hl h5 h6 ⟨fun q => absurd q (by omega), fun _ => ?_⟩
    generalize mset M (ckA B i) 10 (s 127 i) = M1 at F0 C1 x12 R1 x10 ⊢
    refine s_25 C1 hp h0 h1 hA b.2.1 (fun _ => ⟨_, rfl, fun q => ?_, fun q => ?_⟩) (fun q => absurd q (by omega))
    · have q' : ¬ P 118 (20 * i + s 127 i) = 0 := by omega
      rw [if_neg q'] at hQ
      have hst2 := hst.resolve_left (fun q2 => q' q2.1)
      refine b_42_2 hB hc hl h6 (s_26 C1 hp h0 h1 hA b.2.1 hk ⟨_, rfl, fun g => ?_, fun g => ?_⟩)
      · have g' : ¬ P 118 (20 * i + s 127 i) = 2 := by omega
        rw [if_neg g'] at hQ
        rw [if_neg q', if_neg g'] at hhv
        have hBt : inB (iOr (s 129 i) (1 * 2 ^ (P 119 (20 * i + s 127 i)).toNat)) := or_B a4 (pow_B (by omega))
        refine b_42_3 hB hc hl (s_43 hB C1 hp (fun t a b => (hv t a b).2.2.2.1) R1 h0 h1 hst2.2.1 hst2.2.2.1 (fun w => ⟨_, rfl, fun q => absurd q (by omega), fun _ => ?_⟩) (fun w v => ⟨_, rfl, fun _ => b_42_4 hB hc hl ⟨pow30 hst2.2.1 (by omega), b_42_5 hB hc hl ⟨⟨by omega, by omega⟩, ?_⟩⟩, fun q => absurd rfl q⟩))
        · rw [if_pos w] at hQ
          refine hQ _ 2 (F0.set (by omega)) (Or.inr (Or.inl ⟨rfl, rfl⟩)) (fun _ => ⟨?_, ?_⟩) (fun _ => ?_)
          · dsimp only
            rw [ms_k (by omega), ms_c (by omega), ms_c (by omega)]; exact x10
          · dsimp only
            rw [ms_k (by omega), ms_c (by omega), ms_c (by omega)]; exact x12
          · dsimp only
            rw [ms_eq, ms_eq]
        · rw [if_neg (by rw [w]; decide)] at hQ
          have F2 := (F0.set (k := 13) (v := v) (by omega)).set (k := 12) (v := iOr (mset M1 (ckA B i) 13 v (ckA B i) 12) (1 * 2 ^ (P 119 (20 * i + s 127 i)).toNat)) (by omega)
          have F3 : FrI B i M1 (mset (mset M1 (ckA B i) 13 v) (ckA B i) 12 (iOr (mset M1 (ckA B i) 13 v (ckA B i) 12) (1 * 2 ^ (P 119 (20 * i + s 127 i)).toNat))) := (FrI.rfl'.set (by omega)).set (by omega)
          have := ih (mset (mset s 129 i (iOr (s 129 i) (1 * 2 ^ (P 119 (20 * i + s 127 i)).toNat))) 127 i (s 127 i + 1)) (mset (mset M1 (ckA B i) 13 v) (ckA B i) 12 (iOr (mset M1 (ckA B i) 13 v (ckA B i) 12) (1 * 2 ^ (P 119 (20 * i + s 127 i)).toNat))) (vI (P 118 (20 * i + s 127 i) + 1)) (vI (P 119 (20 * i + s 127 i))) (C1.fr hB (F3.b h0 h1)) (R1.mv h0 ?_ F3) (hv.mv hp h0 h1 ho hk hhv.symm hBt) (by rw [ms_c (by omega), ms_c (by omega)]; exact ho) (by rw [ms_eq]; omega) F2 rfl rfl hQ
          · rw [ms_eq] at this
            exact this
          · rw [ms_eq, ms_k (by omega), x12]
      · have g' : P 118 (20 * i + s 127 i) = 2 := by omega
        rw [if_pos g'] at hQ
        rw [if_neg q', if_pos g'] at hhv
        have hBt : inB (clrB (s 129 i) (P 119 (20 * i + s 127 i))) := andn_B a4 (pow_B (by omega))
        refine ⟨pow30 hst2.2.1 (by omega), b_42_5 hB hc hl ⟨⟨by omega, by omega⟩, ?_⟩⟩
        have F2 := F0.set (k := 12) (v := iAnd (M1 (ckA B i) 12) (iXor (1 * 2 ^ (P 119 (20 * i + s 127 i)).toNat) (-1))) (by omega)
        have F3 : FrI B i M1 (mset M1 (ckA B i) 12 (iAnd (M1 (ckA B i) 12) (iXor (1 * 2 ^ (P 119 (20 * i + s 127 i)).toNat) (-1)))) := FrI.rfl'.set (by omega)
        have := ih (mset (mset s 129 i (clrB (s 129 i) (P 119 (20 * i + s 127 i)))) 127 i (s 127 i + 1)) (mset M1 (ckA B i) 12 (iAnd (M1 (ckA B i) 12) (iXor (1 * 2 ^ (P 119 (20 * i + s 127 i)).toNat) (-1)))) (vI (P 118 (20 * i + s 127 i) + 1)) (vI (P 119 (20 * i + s 127 i))) (C1.fr hB (F3.b h0 h1)) (R1.mv h0 ?_ F3) (hv.mv hp h0 h1 ho hk hhv.symm hBt) (by rw [ms_c (by omega), ms_c (by omega)]; exact ho) (by rw [ms_eq]; omega) F2 rfl rfl hQ
        · rw [ms_eq] at this
          exact this
        · rw [ms_eq, x12]
          rfl
    · have q' : P 118 (20 * i + s 127 i) = 0 := by omega
      rw [if_pos q'] at hQ
      refine hQ M1 1 F0 (Or.inl ⟨rfl, rfl⟩) (fun _ => ⟨?_, ?_⟩) (fun q => absurd q (by dsimp only; omega))
      · dsimp only
        rw [ms_c (by omega)]; exact x10
      · dsimp only
        rw [ms_c (by omega)]; exact x12
theorem s_42 {i : Int} (hB : isRb B) (hp : PV P) (h0 : 0 ≤ i) (h1 : i < 8) (hC : CPl P M) (hR : HRl P s M B τ) (hv : SV P s) (ho : s 130 i = 1) (e10 : M (ckA B i) 10 = s 127 i)
    (hQ : ∀ M' r, FrI B i M M' → ((doF P τ i (P 117 i - s 127 i).toNat s).1 = 0 ∧ r = 1 ∨ (doF P τ i (P 117 i - s 127 i).toNat s).1 = 1 ∧ r = 2 ∨ (doF P τ i (P 117 i - s 127 i).toNat s).1 = 2 ∧ r = -1) → (¬ (doF P τ i (P 117 i - s 127 i).toNat s).1 = 2 → M' (ckA B i) 10 = (doF P τ i (P 117 i - s 127 i).toNat s).2 127 i ∧ M' (ckA B i) 12 = (doF P τ i (P 117 i - s 127 i).toNat s).2 129 i) → ((doF P τ i (P 117 i - s 127 i).toNat s).1 = 1 → M' (ckA B i) 13 = (doF P τ i (P 117 i - s 127 i).toNat s).2 133 i) → Q (some (vI r)) M') : Mq sx L K0 R0 42 [vR (B + 2), vI i] M Q := by
  refine m_42 (b_42_0 hB ⟨h0, h1⟩ ?_)
  rw [plC_A hB h0 h1, e10]
  exact s_42l hB hp h0 h1 M _ s M vU vU hC hR hv ho rfl FrI.rfl' rfl rfl hQ
end

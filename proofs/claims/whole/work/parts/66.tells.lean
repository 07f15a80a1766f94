/-! what the class tells of a run -/
section
variable {sx : Int → Int} {L : Nat} {P s z M : Mem} {τ T : Int} {Q : Option AV → Mem → Prop} {B S : Nat}
theorem rn_136 {s0 : Mem} (hp : PV P) (hi : IniS s0) : ∀ n : Nat, n ≤ 120 → ∀ t t' : Int, 0 ≤ t → t < 8 → 0 ≤ t' → t' < n → rnF P s0 n 136 (200 * t + t') = 0 ∨ rnF P s0 n 136 (200 * t + t') = 1 ∨ rnF P s0 n 136 (200 * t + t') = 2 ∨ rnF P s0 n 136 (200 * t + t') = 3 := by
  intro n
  induction n with
  | zero => intro _ t t' _ _ a b; omega
  | succ n ih =>
    intro hn t t' t0 t1 a b
    have hRI := rn_R hp hi n (by omega)
    have mi2 := cho_R hp (by omega) (by omega) 8 0 _ (comes_MI (τ := n) hp (by omega) (by omega) hRI)
    simp only [rnF]
    unfold tickF
    rw [wkF_c (by omega)]
    by_cases e : t' = n
    · have : notF (choF P (n : Int) 8 0 (comesF P n 8 (rnF P s0 n))) n 136 (200 * t + t') = choF P (n : Int) 8 0 (comesF P n 8 (rnF P s0 n)) 132 t := by
        unfold notF
        rw [if_pos ⟨rfl, by omega⟩, show (200 * t + t') / 200 = t by omega]
      rw [this]
      have st := (mi2 t t0 t1).2.2.2.2.1
      have sv := (mi2 t t0 t1).1.2.2.2.2.1
      rcases sv with sv | sv
      · exact Or.inl (st.1 sv)
      · exact Or.inr (st.2.1 sv)
    · have : notF (choF P (n : Int) 8 0 (comesF P n 8 (rnF P s0 n))) n 136 (200 * t + t') = rnF P s0 n 136 (200 * t + t') := by
        unfold notF
        rw [if_neg (by omega), if_neg (by omega), if_neg (by omega), choF_c (by omega), comesF_c (by omega)]
      rw [this]
      exact ih (by omega) t t' t0 t1 a (by omega)
/-- states that are told -/
def S3 (s : Mem) (T : Int) : Prop := ∀ t t', 0 ≤ t → t < 8 → 0 ≤ t' → t' < T → s 136 (200 * t + t') = 0 ∨ s 136 (200 * t + t') = 1 ∨ s 136 (200 * t + t') = 2 ∨ s 136 (200 * t + t') = 3
theorem s_8 {t j : Int} (hB : isRb B) (h0 : 0 ≤ t) (h1 : t < 8) (hI : RI P s τ) (hj : CJ P s M B t) (hQ1 : 0 ≤ j → j < s 123 t → Q (some (vI (dnF s t j))) M) (hQ2 : ¬ (0 ≤ j ∧ j < s 123 t) → Q (some (vI (-1))) M) : Mq sx L K0 R0 8 [vR (ckA B t + 2), vI j] M Q := by
  have hk := isCk_A hB h0 h1
  have h3 := (hI t h0 h1).1.2.2.1
  obtain ⟨j1, j2, j3, j4, j5, j6⟩ := hj
  refine m_8 (b_8_0 hk ⟨fun q => b_8_1 hk (b_8_2 hk (hQ2 (by omega))), fun q => ?_⟩)
  rw [j1]
  refine ⟨fun q2 => b_8_1 hk (b_8_2 hk (hQ2 (by omega))), fun q2 => ⟨fun q3 => absurd q3 (by omega), fun q3 => ⟨⟨by omega, by omega⟩, b_8_2 hk ?_⟩⟩⟩
  rw [j6 j (by omega) (by omega)]
  exact hQ1 (by omega) (by omega)
theorem s_9 {t : Int} (hB : isRb B) (h0 : 0 ≤ t) (h1 : t < 8) (hI : RI P s τ) (hj : CJ P s M B t) (hQ : Q (some (vI (dmF s t))) M) : Mq sx L K0 R0 9 [vR (ckA B t + 2)] M Q := by
  have hk := isCk_A hB h0 h1
  have h3 := (hI t h0 h1).1.2.2.1
  have h4 := (hI t h0 h1).1.1
  have h5 := (hI t h0 h1).1.2.1
  have j1 := hj.1
  refine m_9 (b_9_0 hk (lpI (N := s 123 t) (G := fun k => Rn sx L K0 R0 9 1 [vR (ckA B t + 2), vI (sumI k.toNat fun j => if dnF s t j = -1 then 0 else 1), vI k] [] M Q) (fun k k0 k1 ih => ?_) (b_9_1 hk ⟨fun _ => b_9_3 hk hQ, fun q => absurd (by omega) q⟩) 0 (by omega) (by omega)))
  rw [sumI_s k0] at ih
  have hs := sumI_0 (n := k.toNat) (f := fun j => if dnF s t j = -1 then 0 else 1) (b := 1) (fun t _ _ => by split <;> omega)
  refine b_9_1 hk ⟨fun q => absurd q (by omega), fun _ => s_8 hB h0 h1 hI hj (fun _ _ => ⟨_, rfl, fun q => b_9_2 hk ⟨⟨by omega, by omega⟩, ?_⟩, fun q => ⟨⟨by omega, by omega⟩, b_9_2 hk ⟨⟨by omega, by omega⟩, ?_⟩⟩⟩) (fun q => absurd ⟨k0, k1⟩ q)⟩
  · rw [if_pos q, Int.add_zero] at ih; exact ih
  · rw [if_neg q] at ih; exact ih
theorem s_10 {t : Int} (hB : isRb B) (h0 : 0 ≤ t) (h1 : t < 8) (hp : PV P) (hC : CPl P M) (hR : CPr P M B T) (hI : RI P s τ) (hj : CJ P s M B t) {T' : Int} (hQ : Q (some (vI (ltF P s T' t))) M) : Mq sx L K0 R0 10 [vR (ckA B t + 2), vI T'] M Q := by
  have hk := isCk_A hB h0 h1
  have h3 := (hI t h0 h1).1.2.2.1
  have h4 := (hI t h0 h1).1.1
  have h5 := (hI t h0 h1).1.2.1
  have j1 := hj.1
  refine m_10 (b_10_0 hk (lpI (N := s 123 t) (G := fun k => ∀ u4, cat2 u4 = false → Rn sx L K0 R0 10 1 [vR (ckA B t + 2), vI T', vI (sumI k.toNat fun j => if ltJ P s T' t j = true then 1 else 0), vI k, u4] [] M Q) (fun k k0 k1 ih => ?_) (fun u4 h4 => b_10_1 hk h4 ⟨fun _ => b_10_5 hk h4 hQ, fun q => absurd (by omega) q⟩) 0 (by omega) (by omega) vU rfl))
  intro u4 h4'
  rw [sumI_s k0] at ih
  have hs := sumI_0 (n := k.toNat) (f := fun j => if ltJ P s T' t j = true then 1 else 0) (b := 1) (fun t _ _ => r01)
  generalize (sumI k.toNat fun j => if ltJ P s T' t j = true then 1 else 0) = sm at hs ih ⊢
  have hA := am_j hI h0 h1 k0 k1
  have e2 := (hR.2.2.2.2.2 t h0 h1).1 hA
  have el : ltJ P s T' t k = if dnF s t k = -1 then decide (caF P t k + P 115 t ≤ T') else decide (caF P t k + P 115 t < dnF s t k) := rfl
  have no : ∀ x4, ltJ P s T' t k = false → Rn sx L K0 R0 10 4 [vR (ckA B t + 2), vI T', vI sm, vI k, vI x4] [] M Q := by
    intro x4 w
    rw [w, if_neg (by decide), Int.add_zero] at ih
    exact b_10_4 hk ⟨⟨by omega, by omega⟩, ih _ rfl⟩
  have yes : ∀ x4, ltJ P s T' t k = true → Rn sx L K0 R0 10 3 [vR (ckA B t + 2), vI T', vI sm, vI k, vI x4] [] M Q := by
    intro x4 w
    rw [w, if_pos rfl] at ih
    exact b_10_3 hk ⟨⟨by omega, by omega⟩, b_10_4 hk ⟨⟨by omega, by omega⟩, ih _ rfl⟩⟩
  refine b_10_1 hk h4' ⟨fun q => absurd q (by omega), fun _ => s_8 hB h0 h1 hI hj (fun _ _ => ⟨_, rfl, fun q => b_10_2 hk (s_3 hB h0 h1 hC hp hA e2 k0 (by omega) ⟨_, rfl, fun q2 => no _ ?_, fun q2 => yes _ ?_⟩), fun q => s_3 hB h0 h1 hC hp hA e2 k0 (by omega) ⟨_, rfl, fun q2 => no _ ?_, fun q2 => yes _ ?_⟩⟩) (fun q => absurd ⟨k0, k1⟩ q)⟩
  · rw [el, if_neg q]; exact decide_eq_false (by omega)
  · rw [el, if_neg q]; exact decide_eq_true (by omega)
  · rw [el, if_pos (by omega)]; exact decide_eq_false (by omega)
  · rw [el, if_pos (by omega)]; exact decide_eq_true (by omega)
theorem s_11 {t : Int} (hB : isRb B) (h0 : 0 ≤ t) (h1 : t < 8) (hp : PV P) (hτ0 : 0 ≤ τ) (hτ : τ ≤ 120) (hC : CPl P M) (hR : CPr P M B T) (hI : RI P s τ) (hj : CJ P s M B t) (hQ : Q (some (vI (lgF P s t))) M) : Mq sx L K0 R0 11 [vR (ckA B t + 2)] M Q := by
  have hk := isCk_A hB h0 h1
  have h3 := (hI t h0 h1).1.2.2.1
  have h4 := (hI t h0 h1).1.1
  have h5 := (hI t h0 h1).1.2.1
  have j1 := hj.1
  refine m_11 (b_11_0 hk (lpI (N := s 123 t) (G := fun k => ∀ u4, cat2 u4 = false → Rn sx L K0 R0 11 1 [vR (ckA B t + 2), vI (maxI k.toNat fun j => if dnF s t j = -1 then -1 else dnF s t j - caF P t j), vI k, u4] [] M Q) (fun k k0 k1 ih => ?_) (fun u4 h4 => b_11_1 hk h4 ⟨fun _ => b_11_3 hk h4 hQ, fun q => absurd (by omega) q⟩) 0 (by omega) (by omega) vU rfl))
  intro u4 h4'
  rw [maxI_s k0] at ih
  have hge := maxI_ge (n := k.toNat) (f := fun j => if dnF s t j = -1 then -1 else dnF s t j - caF P t j)
  generalize (maxI k.toNat fun j => if dnF s t j = -1 then -1 else dnF s t j - caF P t j) = mx at hge ih ⊢
  have hA := am_j hI h0 h1 k0 k1
  have hb := ca_B hp h0 h1 hA k0 (by omega)
  have hd := dn_B hI hτ0 hτ h0 h1 k0 k1
  refine b_11_1 hk h4' ⟨fun q => absurd q (by omega), fun _ => s_8 hB h0 h1 hI hj (fun _ _ => ⟨_, rfl, fun q => b_11_2 hk ⟨⟨by omega, by omega⟩, ?_⟩, fun q => s_2 hB h0 h1 hC hp hA ((hR.2.2.2.2.2 t h0 h1).1 hA) k0 (by omega) ⟨_, rfl, ⟨by omega, by omega⟩, b_11_2 hk ⟨⟨by omega, by omega⟩, ?_⟩⟩⟩) (fun q => absurd ⟨k0, k1⟩ q)⟩
  · rw [if_pos q, show max mx (-1) = mx by omega] at ih
    exact ih _ rfl
  · rw [if_neg q] at ih
    exact ih _ rfl
theorem s_50 {t n : Int} (hB : isRb B) (hp : PV P) (hR : CPr P M B T) (hT : T ≤ 120) (hc : CHs P s M B T) (t0 : 0 ≤ t) (t1 : t < T) (n0 : 0 ≤ n) (n1 : n < P 104 24) (hQ : Q (some (vI (s 135 (3 * t + n)))) M) : Mq sx L K0 R0 50 [vR (B + 2), vI t, vI n] M Q := by
  have h3 := hp.2.2.2.2.2.2.2.2.1
  have e10 := hR.2.2.2.2.1
  refine m_50 (b_50_0 hB ⟨fun q => absurd q (by omega), fun _ => ⟨fun q => absurd q (by omega), fun _ => ⟨fun q => absurd q (by omega), fun _ => ⟨fun q => absurd q (by omega), fun _ => ⟨⟨by omega, by omega⟩, ⟨by omega, by omega⟩, ⟨by omega, by omega⟩, b_50_2 hB ?_⟩⟩⟩⟩⟩)
  rw [hc t n t0 t1 n0 n1]
  exact hQ
theorem s_51 {i t : Int} (hB : isRb B) (hR : CPr P M B T) (hT : T ≤ 120) (hl : CLg s M B T) (h3 : S3 s T) (i0 : 0 ≤ i) (i1 : i < 8) (t0 : 0 ≤ t) (t1 : t < T) (hQ : Q (some (vI (s 136 (200 * i + t)))) M) : Mq sx L K0 R0 51 [vR (B + 2), vI i, vI t] M Q := by
  have e10 := hR.2.2.2.2.1
  obtain ⟨l1, l2, l3⟩ := hl t t0 t1
  have hB1 : inB (M (B + 2) t) := by rw [l1]; exact mkB_B 8 _ (by omega)
  have hB2 : inB (M (B + 3) t) := by rw [l2]; exact mkB_B 8 _ (by omega)
  have hB3 : inB (M (B + 4) t) := by rw [l3]; exact mkB_B 8 _ (by omega)
  have g := h3 i t i0 i1 t0 t1
  refine m_51 (b_51_0 hB ⟨fun q => absurd q (by omega), fun _ => ⟨fun q => absurd q (by omega), fun _ => ⟨⟨t0, by omega⟩, ⟨hB3.1, i0, by omega⟩, fun q => ?_, fun q => b_51_1 hB ?_⟩⟩⟩)
  · rw [bt_ne hB3, l3, tb8 i0 i1] at q
    have q' : ¬ s 136 (200 * i + t) = 0 := by simpa using q
    refine b_51_2 hB ⟨⟨t0, by omega⟩, ⟨hB1.1, i0, by omega⟩, fun w => ?_, fun w => ?_⟩
    · rw [bt_ne hB1, l1, tb8 i0 i1] at w
      have w' : ¬ s 136 (200 * i + t) = 1 := by simpa using w
      refine b_51_3 hB ⟨⟨t0, by omega⟩, ⟨hB2.1, i0, by omega⟩, fun v => b_51_4 hB (b_51_5 hB ?_), fun v => b_51_5 hB ?_⟩
      · rw [bt_ne hB2, l2, tb8 i0 i1] at v
        have v' : ¬ s 136 (200 * i + t) = 2 := by simpa using v
        rw [show s 136 (200 * i + t) = 3 by omega] at hQ
        exact hQ
      · rw [bt_ne hB2, l2, tb8 i0 i1] at v
        have v' : s 136 (200 * i + t) = 2 := by simpa using v
        rw [v'] at hQ
        exact hQ
    · rw [bt_ne hB1, l1, tb8 i0 i1] at w
      have w' : s 136 (200 * i + t) = 1 := by simpa using w
      rw [w'] at hQ
      exact hQ
  · have q2 := Decidable.not_not.mp q
    rw [bt_ne hB3, l3, tb8 i0 i1] at q2
    have q' : s 136 (200 * i + t) = 0 := by simpa using q2
    rw [q'] at hQ
    exact hQ
theorem s_52 {i w : Int} {c : Nat} (hB : isRb B) (hR : CPr P M B T) (hT0 : 0 ≤ T) (hT : T ≤ 120) (hc : K0[c]? = some (10, 120)) (hl : ∀ t', 0 ≤ t' → t' < T → M c t' = mkB 8 (fun t => decide (s 136 (200 * t + t') = w))) (i0 : 0 ≤ i) (i1 : i < 8) (hQ : Q (some (vI (tiF s T i w))) M) : Mq sx L K0 R0 52 [vR (B + 2), vR (c + 2), vI i] M Q := by
  have e10 := hR.2.2.2.2.1
  refine m_52 (b_52_0 hB hc (lpI (N := T) (G := fun k => Rn sx L K0 R0 52 1 [vR (B + 2), vR (c + 2), vI i, vI (sumI k.toNat fun k => if s 136 (200 * i + k) = w then 1 else 0), vI k] [] M Q) (fun k k0 k1 ih => ?_) (b_52_1 hB hc ⟨fun _ => b_52_2 hB hc hQ, fun q => absurd (by omega) q⟩) 0 (by omega) hT0))
  rw [sumI_s k0] at ih
  have hs := sumI_0 (n := k.toNat) (f := fun k => if s 136 (200 * i + k) = w then 1 else 0) (b := 1) (fun t _ _ => by split <;> omega)
  generalize (sumI k.toNat fun k => if s 136 (200 * i + k) = w then 1 else 0) = sm at hs ih ⊢
  have l := hl k k0 k1
  have hb : inB (M c k) := by rw [l]; exact mkB_B 8 _ (by omega)
  have e : iAnd (M c k / 2 ^ i.toNat) 1 = if s 136 (200 * i + k) = w then 1 else 0 := by
    rw [bt_eq hb, l, tb8 i0 i1]
    by_cases g : s 136 (200 * i + k) = w
    · rw [if_pos (decide_eq_true g), if_pos g]
    · rw [if_neg (by rw [decide_eq_false g]; decide), if_neg g]
  have e01 : 0 ≤ iAnd (M c k / 2 ^ i.toNat) 1 ∧ iAnd (M c k / 2 ^ i.toNat) 1 ≤ 1 := by rw [e]; split <;> omega
  refine b_52_1 hB hc ⟨fun q => absurd q (by omega), fun _ => ⟨fun q => absurd q (by omega), fun _ => ⟨⟨k0, by omega⟩, ⟨hb.1, i0, by omega⟩, ⟨by omega, by omega⟩, ⟨by omega, by omega⟩, ?_⟩⟩⟩
  rw [e]
  exact ih
theorem s_80 {t : Int} (hS : isSt S) (h0 : 0 ≤ t) (h1 : t < 8) (hQ : Q (some (vI (M (S + 1) t))) M) : Mq sx L K0 R0 80 [vR (S + 2), vI t] M Q :=
  m_80 (b_80_0 hS (s_125 fun r hr => ⟨_, rfl, fun q => absurd q (by omega), fun _ => ⟨⟨h0, h1⟩, b_80_2 hS hQ⟩⟩))
theorem s_81 {t : Int} (hS : isSt S) (h0 : 0 ≤ t) (h1 : t < 8) (hQ : Q (some (vI (mkB 8 fun o => decide (M (S + 1) o < M (S + 1) t)))) M) : Mq sx L K0 R0 81 [vR (S + 2), vI t] M Q := by
  refine m_81 (b_81_0 hS (lpI (N := 8) (G := fun k => Rn sx L K0 R0 81 1 [vR (S + 2), vI t, vI (mkB k.toNat fun o => decide (M (S + 1) o < M (S + 1) t)), vI k] [] M Q) (fun k k0 k1 ih => ?_) (b_81_1 hS ⟨fun _ => b_81_3 hS hQ, fun q => absurd (by omega) q⟩) 0 (by omega) (by omega)))
  rw [mkB_s k0] at ih
  refine b_81_1 hS ⟨fun q => absurd q (by omega), fun _ => ⟨⟨k0, k1⟩, s_80 hS h0 h1 ⟨_, rfl, fun q => b_81_2 hS ⟨⟨by omega, by omega⟩, ?_⟩, fun q => ⟨pow30 k0 (by omega), b_81_2 hS ⟨⟨by omega, by omega⟩, ?_⟩⟩⟩⟩⟩
  · rw [decide_eq_false (by omega), if_neg (by decide)] at ih; exact ih
  · rw [decide_eq_true (by omega), if_pos rfl] at ih; exact ih
theorem s_53 {i o : Int} (hB : isRb B) (hR : CPr P M B T) (hT0 : 0 ≤ T) (hT : T ≤ 120) (hl : CLg s M B T) (h3 : S3 s T) (i0 : 0 ≤ i) (i1 : i < 8) (ho : o = mkB 8 fun o => decide (P 111 o < P 111 i)) (hQ : Q (some (vI (bhF P s T i))) M) : Mq sx L K0 R0 53 [vR (B + 2), vI i, vI o] M Q := by
  have e10 := hR.2.2.2.2.1
  have oB : inB o := by rw [ho]; exact mkB_B 8 _ (by omega)
  refine m_53 (b_53_0 hB (lpI (N := T) (G := fun k => Rn sx L K0 R0 53 1 [vR (B + 2), vI i, vI o, vI (sumI k.toNat fun k => if (exB 8 fun o => decide (s 136 (200 * o + k) = 1) && decide (P 111 o < P 111 i)) = true ∧ 1 < s 136 (200 * i + k) then 1 else 0), vI k] [] M Q) (fun k k0 k1 ih => ?_) (b_53_1 hB ⟨fun _ => b_53_3 hB hQ, fun q => absurd (by omega) q⟩) 0 (by omega) hT0))
  rw [sumI_s k0] at ih
  have hs := sumI_0 (n := k.toNat) (f := fun k => if (exB 8 fun o => decide (s 136 (200 * o + k) = 1) && decide (P 111 o < P 111 i)) = true ∧ 1 < s 136 (200 * i + k) then 1 else 0) (b := 1) (fun t _ _ => by split <;> omega)
  generalize (sumI k.toNat fun k => if (exB 8 fun o => decide (s 136 (200 * o + k) = 1) && decide (P 111 o < P 111 i)) = true ∧ 1 < s 136 (200 * i + k) then 1 else 0) = sm at hs ih ⊢
  obtain ⟨l1, l2, l4⟩ := hl k k0 k1
  have hb1 : inB (M (B + 2) k) := by rw [l1]; exact mkB_B 8 _ (by omega)
  have hb3 : inB (M (B + 4) k) := by rw [l4]; exact mkB_B 8 _ (by omega)
  have g := h3 i k i0 i1 k0 k1
  have hn := andn_B hb3 hb1
  have c1 : (iAnd (M (B + 2) k) o = 0) ↔ (exB 8 fun o => decide (s 136 (200 * o + k) = 1) && decide (P 111 o < P 111 i)) = false := by
    rw [tb_eq0 (and_B hb1 oB).1]
    constructor
    · intro h
      cases e : (exB 8 fun o => decide (s 136 (200 * o + k) = 1) && decide (P 111 o < P 111 i))
      · rfl
      · obtain ⟨x, x0, x1, y⟩ := exB_iff.mp e
        have := h x x0
        rw [tb_and hb1 oB, l1, ho, tb8 x0 (by omega), tb8 x0 (by omega)] at this
        rw [this] at y
        cases y
    · intro h x x0
      rw [tb_and hb1 oB, l1, ho]
      by_cases e : x < 8
      · rw [tb8 x0 e, tb8 x0 e]
        cases y : (decide (s 136 (200 * x + k) = 1) && decide (P 111 x < P 111 i))
        · rfl
        · rw [exB_iff.mpr ⟨x, x0, by omega, y⟩] at h
          cases h
      · rw [tb8' x0 e]; rfl
  have c2 : iAnd (iAnd (M (B + 4) k) (iXor (M (B + 2) k) (-1)) / 2 ^ i.toNat) 1 = if 1 < s 136 (200 * i + k) then 1 else 0 := by
    rw [bt_eq hn, tb_andn hb3 hb1, l1, l4, tb8 i0 i1, tb8 i0 i1]
    rcases g with g | g | g | g <;> rw [g] <;> decide
  have e01 : 0 ≤ iAnd (iAnd (M (B + 4) k) (iXor (M (B + 2) k) (-1)) / 2 ^ i.toNat) 1 ∧ iAnd (iAnd (M (B + 4) k) (iXor (M (B + 2) k) (-1)) / 2 ^ i.toNat) 1 ≤ 1 := by rw [c2]; split <;> omega
  refine b_53_1 hB ⟨fun q => absurd q (by omega), fun _ => ⟨⟨k0, by omega⟩, fun q => b_53_2 hB ⟨⟨by omega, by omega⟩, ?_⟩, fun q => ⟨⟨k0, by omega⟩, ⟨k0, by omega⟩, ⟨hn.1, i0, by omega⟩, ⟨by omega, by omega⟩, b_53_2 hB ⟨⟨by omega, by omega⟩, ?_⟩⟩⟩⟩
  · rw [if_neg (fun w => by rw [c1.mp q] at w; exact absurd w.1 (by decide)), Int.add_zero] at ih
    exact ih
  · rw [c2]
    have e1 : (exB 8 fun o => decide (s 136 (200 * o + k) = 1) && decide (P 111 o < P 111 i)) = true := by
      cases e : (exB 8 fun o => decide (s 136 (200 * o + k) = 1) && decide (P 111 o < P 111 i))
      · exact absurd (c1.mpr e) q
      · rfl
    by_cases v : 1 < s 136 (200 * i + k)
    · rw [if_pos v]
      rw [if_pos ⟨e1, v⟩] at ih
      exact ih
    · rw [if_neg v]
      rw [if_neg (fun w => v w.2)] at ih
      exact ih
end

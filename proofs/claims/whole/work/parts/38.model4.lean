theorem runC_of {c : Nat} {k : Int} (h : (123 ≤ c ∧ c ≤ 137)) : runC c k := Or.inl h
theorem hv_s (P : Mem) (t : Int) {k : Int} (h : 0 ≤ k) : hvF P t (k + 1).toNat = if P 118 (20 * t + k) = 0 then hvF P t k.toNat else if P 118 (20 * t + k) = 2 then clrB (hvF P t k.toNat) (P 119 (20 * t + k)) else iOr (hvF P t k.toNat) (1 * 2 ^ (P 119 (20 * t + k)).toNat) := by
  rw [show (k + 1).toNat = k.toNat + 1 by omega]
  simp only [hvF, Int.toNat_of_nonneg h]
section
variable {sx : Int → Int} {L : Nat} {P s M : Mem} {τ : Int} {Q : Option AV → Mem → Prop}
theorem s_169l {i : Int} (hp : PV P) (h0 : 0 ≤ i) (h1 : i < 8) : ∀ (n : Nat) (s M : Mem) (u3 : AV), MR P s M τ → SV P s → s 130 i = 1 → n = (P 117 i - s 127 i).toNat → cat2 u3 = false →
    (∀ M', MR P (doF P τ i n s).2 M' τ → Frm M M' → Q (some (vI (if (doF P τ i n s).1 = 0 then 1 else 0))) M') → Rn sx L K0 R0 169 1 [vR 106, vI i, vI 1, u3] [] M Q := by
  intro n
  induction n with
  | zero =>
    intro s M u3 hR hv ho hn h3 hQ
    obtain ⟨a1, a2, a3, a4, a5, a6, a7, a8, a9⟩ := hv i h0 h1
    have b := a8 ho
    have e117 : M 117 i = P 117 i := hR.p (Or.inl (by omega))
    have e127 : M 127 i = s 127 i := by rw [hR.sf (by omega)]
    have e124 : M 124 i = s 124 i := by rw [hR.sf (by omega)]
    have e9 : Rn sx L K0 R0 169 9 [vR 106, vI i, vI 1, u3] [] M Q := by
      refine b_169_9 h3 ⟨fun q => absurd q (by omega), fun _ => s_168 h0 h1 (by omega) ⟨rfl, ⟨h0, h1⟩, b_169_10 h3 ?_⟩⟩
      refine hQ _ ?_ ?_
      · simp only [doF]
        unfold endF
        rw [e124, hR.2.2.2.2]
        exact (((hR.set (by unfold isS; omega) (by omega)).set (by unfold isS; omega) (by omega)).set (by unfold isS; omega) (by omega)).set (by unfold isS; omega) (by omega)
      · unfold endF
        exact (((Frm.rfl'.set (runC_of (by omega))).set (runC_of (by omega))).set (runC_of (by omega))).set (runC_of (by omega))
    exact b_169_1 h3 ⟨fun q => absurd q (by omega), fun _ => ⟨⟨h0, h1⟩, ⟨h0, h1⟩, fun _ => e9, fun q => absurd (by omega) q⟩⟩
  | succ n ih =>
    intro s M u3 hR hv ho hn h3 hQ
    obtain ⟨a1, a2, a3, a4, a5, a6, a7, a8, a9⟩ := hv i h0 h1
    have b := a8 ho
    have hV : PVt P i := hp.2.2.2.2.2.2.2.2.2.2.2.2 i h0 h1 (hv.amo h0 h1 ho)
    obtain ⟨v1, v2, v3, v4, v5, v6, v7, v8, v9⟩ := hV
    have hk : s 127 i < P 117 i := by omega
    have hst := v9 (s 127 i).toNat (by omega)
    rw [Int.toNat_of_nonneg b.2.1] at hst
    have e117 : M 117 i = P 117 i := hR.p (Or.inl (by omega))
    have e127 : M 127 i = s 127 i := by rw [hR.sf (by omega)]
    have e129 : M 129 i = s 129 i := by rw [hR.sf (by omega)]
    have e118 : M 118 = P 118 := hR.pf (by omega)
    have e119 : M 119 = P 119 := hR.pf (by omega)
    have hth := hp.2.2.1
    have hhv := hv_s P i b.2.1
    rw [← b.2.2.2] at hhv
    have w : (0 : Int) ≤ 20 * i + M 127 i ∧ 20 * i + M 127 i < 160 := by omega
    refine b_169_1 h3 ⟨fun q => absurd q (by omega), fun _ => ⟨⟨h0, h1⟩, ⟨h0, h1⟩, fun q => absurd q (by omega), fun _ => ⟨⟨by omega, by omega⟩, ⟨h0, h1⟩, ⟨by omega, by omega⟩, w, fun q => ?_, fun q => ⟨⟨h0, h1⟩, ?_⟩⟩⟩⟩
    · rw [e118, e127] at q
      simp only [doF, if_neg q] at hQ
      have hst2 := hst.resolve_left (fun q2 => q q2.1)
      rw [e127] at w ⊢
      by_cases g : P 118 (20 * i + s 127 i) = 2
      · rw [if_pos g] at hQ
        rw [if_neg q, if_pos g] at hhv
        have hB : inB (clrB (s 129 i) (P 119 (20 * i + s 127 i))) := andn_B a4 (pow_B (by omega))
        refine b_169_2 ⟨w, fun q2 => absurd g (by rw [e118] at q2; exact q2), fun _ => ⟨⟨h0, h1⟩, w, ?_, ⟨h0, h1⟩, ?_⟩⟩
        · rw [e119]
          exact pow30 (by omega) (by omega)
        · rw [e119, e129]
          refine b_169_3 ⟨w, fun _ => b_169_4 (b_169_6 ⟨⟨h0, h1⟩, fun q2 => absurd q2 (by omega), fun _ => b_169_8 ?_⟩), fun q2 => absurd (by rw [ms_c (by omega), e118]; exact g) q2⟩
          rw [ms_c (by omega), e127]
          refine ⟨⟨by omega, by omega⟩, ⟨h0, h1⟩, ?_⟩
          refine ih (mset (mset s 129 i (clrB (s 129 i) (P 119 (20 * i + s 127 i)))) 127 i (s 127 i + 1)) _ _ ?_ ?_ ?_ ?_ rfl ?_
          · exact (hR.set (by unfold isS; omega) (by omega)).set (by unfold isS; omega) (by omega)
          · exact hv.mv hp h0 h1 ho hk hhv.symm hB
          · rw [ms_c (by omega), ms_c (by omega)]; exact ho
          · rw [ms_eq]; omega
          · intro M' m1 m2
            exact hQ M' m1 (((Frm.rfl'.set (runC_of (by omega))).set (runC_of (by omega))).tr m2)
      · rw [if_neg g] at hQ
        rw [if_neg q, if_neg g] at hhv
        have g1 : P 118 (20 * i + s 127 i) = 1 := by omega
        have hno : tb (s 129 i) (P 119 (20 * i + s 127 i)) = false := by
          rw [b.2.2.2]
          exact hst2.2.2.2 g1
        have hB : inB (iOr (s 129 i) (1 * 2 ^ (P 119 (20 * i + s 127 i)).toNat)) := or_B a4 (pow_B (by omega))
        refine b_169_2 ⟨w, fun _ => b_169_3 ⟨w, fun q2 => absurd (by rw [← e118]; exact q2) g, fun _ => ⟨w, ?_⟩⟩, fun q2 => absurd (by rw [e118]; exact g) q2⟩
        rw [e119]
        refine s_167 hR hv hp h0 h1 hst2.2.1 hst2.2.2.1 hno (fun ww => ⟨_, rfl, fun _ => b_169_5 (b_169_6 ⟨⟨h0, h1⟩, fun _ => b_169_7 (b_169_8 ?_), fun q2 => absurd rfl q2⟩), fun q2 => absurd rfl q2⟩) (fun ww => ⟨_, rfl, fun q2 => absurd q2 (by omega), fun _ => b_169_4 (b_169_6 ⟨⟨h0, h1⟩, fun q2 => absurd q2 (by omega), fun _ => b_169_8 ?_⟩)⟩)
        · rw [if_pos ww] at hQ
          rw [ms_c (by omega), ms_c (by omega), e127]
          refine ⟨⟨by omega, by omega⟩, ⟨h0, h1⟩, ?_⟩
          rw [mset_id (by rw [ms_c (by omega), ms_c (by omega), e127]; omega)]
          refine b_169_1 rfl ⟨fun _ => b_169_9 rfl ⟨fun _ => b_169_10 rfl ?_, fun q2 => absurd rfl q2⟩, fun q2 => absurd rfl q2⟩
          exact hQ _ ((hR.set (by unfold isS; omega) (by omega)).set (by unfold isS; omega) (by omega)) ((Frm.rfl'.set (runC_of (by omega))).set (runC_of (by omega)))
        · rw [if_neg (by rw [ww]; decide)] at hQ
          rw [ms_c (by omega), e127]
          refine ⟨⟨by omega, by omega⟩, ⟨h0, h1⟩, ?_⟩
          refine ih (mset (mset s 129 i (iOr (s 129 i) (1 * 2 ^ (P 119 (20 * i + s 127 i)).toNat))) 127 i (s 127 i + 1)) _ _ ?_ ?_ ?_ ?_ rfl ?_
          · exact (hR.set (by unfold isS; omega) (by omega)).set (by unfold isS; omega) (by omega)
          · exact hv.mv hp h0 h1 ho hk hhv.symm hB
          · rw [ms_c (by omega), ms_c (by omega)]; exact ho
          · rw [ms_eq]; omega
          · intro M' m1 m2
            exact hQ M' m1 (((Frm.rfl'.set (runC_of (by omega))).set (runC_of (by omega))).tr m2)
    · rw [e118, e127] at q
      have q2 := Decidable.not_not.mp q
      simp only [doF, if_pos q2] at hQ
      exact hQ _ (hR.set (by unfold isS; omega) (by omega)) (Frm.rfl'.set (runC_of (by omega)))
theorem s_169 {i : Int} (hR : MR P s M τ) (hv : SV P s) (hp : PV P) (h0 : 0 ≤ i) (h1 : i < 8) (ho : s 130 i = 1)
    (hQ : ∀ M', MR P (doF P τ i (P 117 i - s 127 i).toNat s).2 M' τ → Frm M M' → Q (some (vI (if (doF P τ i (P 117 i - s 127 i).toNat s).1 = 0 then 1 else 0))) M') : Mq sx L K0 R0 169 [vR 106, vI i] M Q :=
  m_169 (b_169_0 (s_169l hp h0 h1 _ s M vU hR hv ho rfl rfl hQ))
end

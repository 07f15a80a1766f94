/-! write -/
section
variable {sx : Int → Int} {L : Nat} {M : Mem} {Q : Option AV → Mem → Prop} {S1 : Mem → Prop}
theorem s_50r {k : Int} (k0 : 0 ≤ k) (k1 : k < M 52 10) (k2 : k < 120) (hQ : Q (some (vI (M 57 k))) M) : Mq sx L K0 R0 50 [vR 54, vI k, vI 0] M Q := by
  have e : (0 : Int) * 120 + k = k := by omega
  refine m_50 (b_50_0 (Or.inl rfl) ⟨fun q => absurd q (by omega), fun _ => ⟨fun q => absurd q (by omega), fun _ => ⟨fun q => absurd q (by omega), fun _ => ⟨fun q => absurd q (by omega), fun _ => ⟨⟨by omega, by omega⟩, ⟨by omega, by omega⟩, ⟨by omega, by omega⟩, b_50_2 (Or.inl rfl) ?_⟩⟩⟩⟩⟩)
  rw [e]; exact hQ
theorem op_29 (hs : SROK (S1, SHT)) (a : Int) : OpOk sx L (INVM (S1, SHT)) 122 223 [vI a] := by
  intro M h
  by_cases g : 0 ≤ a ∧ a < 4
  · have hS : SHT M := h.1.2.2.2.2.2.1
    have sa : SH1 M a := hS a g.1 g.2
    have rg := sh_rg g.1 g.2
    have hk := isSh_A g.1 g.2
    have a1 := sa.1
    have a2 := sa.2.1
    refine m_122 (b_122_0 (s_126 fun r hr => ⟨r, rfl, fun _ => b_122_1 g ⟨fun w => b_122_2 hk (s_135 hs h fun M1 h1 h7 f1 => ⟨rfl, ?_⟩), fun w => find_ok hs h (by omega) (by omega) fun M1 Q f hQ => ?_⟩, fun q => absurd (by omega) q⟩))
    · have hb := h1.1.1
      have ru := hb.2.2.2.2.1
      have e10 := ru.2.2.2.2.2.2.2.2.2.1
      have e11 := ru.2.2.2.2.2.2.2.2.2.2.1
      have e12 := ru.2.2.2.2.2.2.2.2.2.2.2.1
      have hS1 : SHT M1 := h1.1.2.2.2.2.2.1
      have sa1 : SH1 M1 a := hS1 a g.1 g.2
      have w1 : M1 (shA a) 0 = 0 := by rw [f1 _ _ (by omega) (by omega)]; exact w
      obtain ⟨_, g1, g2, g3, g4, g5, g6, g7⟩ := sa1.on (by rw [sa1.2.1, w1]; omega)
      have hRF : ∀ P s0, PDs P M1 6 → IniS s0 → RFn P (rnF P s0 (M1 104 25).toNat) M1 52 (M1 104 25) := by
        rcases h1.1.2.2.2.1 with v | v
        · omega
        · exact v.2
      have t10 : M1 52 10 = M1 104 25 := (hRF _ _ (PTm_ok hb) s00_ok).2.1.2.2.2.2.1
      have h24 : ∀ P, PDs P M1 6 → 0 < P 104 24 := fun P hp => by
        have := hp.1.2.2.2.1
        have := ru.2.2.2.2.2.2.1
        omega
      have tv : ∀ i, 0 ≤ i → i < M1 104 25 → Tv M1 (M1 57 i) (fun P s => s 135 (3 * i)) := fun i i0 i1 P s0 hp hi => by
        have := (hRF P s0 hp hi).2.2.2.2.2 i 0 i0 i1 (by omega) (h24 P hp)
        rw [show (0 : Int) * 120 + i = i by omega, show 3 * i + 0 = 3 * i by omega] at this
        exact this
      generalize hn : min (M1 (shA a) 2) (M1 6 7) = n
      refine lpM (N := n) (I := fun k M2 => (∀ x k', ¬ x = shA a + 1 → M2 x k' = M1 x k') ∧ (∀ i, 0 ≤ i → i < k → M2 (shA a + 1) i = cvF (M1 (shA a) 1) (M1 57 i)) ∧ ∀ i, k ≤ i → M2 (shA a + 1) i = M1 (shA a + 1) i) (G := fun k M2 => Rn sx L K0 R0 122 3 [vR 2, vI a, vR (shA a + 2), vI n, vI k] [] M2 _) (fun k M2 k0 k1 hI ih => ?_) (fun M2 hI => b_122_3 hk ⟨fun _ => b_122_4 hk ⟨n, rfl, ?_⟩, fun q => absurd (by omega) q⟩) 0 M1 (by omega) (by omega) ⟨fun x k' _ => rfl, fun i a b => by omega, fun i _ => rfl⟩
      · obtain ⟨i1, i2, i3⟩ := hI
        refine b_122_3 hk ⟨fun q => absurd q (by omega), fun _ => s_50r k0 (by rw [i1 _ _ (by omega)]; omega) (by omega) ⟨_, rfl, s_88 hk k0 (by rw [i1 _ _ (by omega)]; omega) (by omega) ⟨rfl, ⟨by omega, by omega⟩, ih _ ⟨fun x k' p => by rw [ms_c p]; exact i1 x k' p, fun i x y => ?_, fun i x => by rw [ms_k (by omega)]; exact i3 i (by omega)⟩⟩⟩⟩
        by_cases ei : i = k
        · rw [ei, ms_eq, i1 _ _ (by omega), i1 _ _ (by omega)]
        · rw [ms_k ei]; exact i2 i x (by omega)
      · obtain ⟨i1, i2, i3⟩ := hI
        have h2 : INVM (S1, fun _ => True) M2 := shf_inv hs h1 (fun x k' p q _ _ => i1 _ _ (by omega)) trivial (FND.fr h1.1.2.2.2.2.2.2 (i1 _ _ (by omega)) (i1 _ _ (by omega)))
        have b2 : BFr M1 M2 := fun c k q => i1 c k (by unfold baseC at q; omega)
        refine m_223 (b_223_0 (s_215 fun r hr => ⟨r, rfl, fun _ => b_223_1 ⟨g, fun _ => b_223_2 (s_181 (srok_T hs) h2 fun M3 h3 h26 _ f3 => ⟨rfl, ?_⟩), fun q => absurd (by rw [i1 _ _ (by omega), sa1.2.1]; omega) q⟩, fun q => absurd (by omega) q⟩))
        have E3 : ∀ x k', 43 ≤ x ∧ x ≤ 50 ∨ 139 ≤ x ∧ x ≤ 142 → M3 x k' = M2 x k' := fun x k' q => f3 x k' (by omega) (by omega)
        have t25 : M3 104 25 = M1 104 25 := by rw [f3.bf.m (k := 25) (by omega), b2.m (k := 25) (by omega)]
        have t141 : M3 141 a = M1 141 a := by rw [E3 _ _ (by omega), i1 _ _ (by omega)]
        refine lpM (N := n) (I := fun k M4 => (∀ x k', ¬ (x = 142 ∧ 60 * a ≤ k' ∧ k' < 60 * a + 60) → M4 x k' = M3 x k') ∧ (∀ i, 0 ≤ i → i < k → M4 142 (60 * a + i) = cvF (M3 140 a) (M3 135 (3 * i))) ∧ ∀ i, k ≤ i → i < 60 → M4 142 (60 * a + i) = M3 142 (60 * a + i)) (G := fun k M4 => Rn sx L K0 R0 223 3 [vR 106, vI a, vI k] [] M4 _) (fun k M4 k0 k1 hI ih => ?_) (fun M4 hI => b_223_3 ?_) 0 M3 (by omega) (by omega) ⟨fun x k' _ => rfl, fun i a b => by omega, fun i _ _ => rfl⟩
        · obtain ⟨j1, j2, j3⟩ := hI
          have q25 : M4 104 25 = M3 104 25 := j1 _ _ (by omega)
          have q141 : M4 141 a = M3 141 a := j1 _ _ (by omega)
          refine b_223_3 ⟨fun q => absurd q (by omega), fun _ => ⟨g, fun q => absurd q (by omega), fun _ => ⟨⟨by omega, by omega⟩, ⟨by omega, by omega⟩, s_219 g k0 (by omega) ⟨rfl, ⟨by omega, by omega⟩, ih _ ⟨fun x k' p => by rw [ms_ne (by omega)]; exact j1 x k' p, fun i x y => ?_, fun i x y => by rw [ms_k (by omega)]; exact j3 i (by omega) y⟩⟩⟩⟩⟩
          by_cases ei : i = k
          · rw [ei, ms_eq, j1 _ _ (by omega), j1 135 _ (by omega)]
          · rw [ms_k (by omega)]; exact j2 i x (by omega)
        · obtain ⟨j1, j2, j3⟩ := hI
          have q25 : M4 104 25 = M3 104 25 := j1 _ _ (by omega)
          have q141 : M4 141 a = M3 141 a := j1 _ _ (by omega)
          have fin : INVM (S1, SHT) M4 := by
            have F : ∀ x k, ¬ x = shA a + 1 → ¬ (x = 142 ∧ 60 * a ≤ k ∧ k < 60 * a + 60) → 43 ≤ x ∧ x ≤ 50 ∨ 139 ≤ x ∧ x ≤ 142 → M4 x k = M1 x k := fun x k p q r => by rw [j1 _ _ q, E3 _ _ r, i1 _ _ p]
            refine shf_inv (S2 := fun _ => True) (S2' := SHT) (srok_T hs) h3 (fun x k p q _ _ => j1 _ _ (by omega)) (SHT.one (M := M1) hS1 g (fun x k p q x' y r => F x k q y r) ?_) (FND.fr h3.1.2.2.2.2.2.2 (j1 _ _ (by omega)) (j1 _ _ (by omega)))
            unfold SH1
            rw [F (shA a) 0 (by omega) (by omega) (by omega), F (shA a) 1 (by omega) (by omega) (by omega), F (shA a) 2 (by omega) (by omega) (by omega), F 139 _ (by omega) (by omega) (by omega), F 140 _ (by omega) (by omega) (by omega), F 141 _ (by omega) (by omega) (by omega)]
            refine ⟨Or.inl w1, sa1.2.1, fun _ => ⟨g1, g2, g3, g4, g5, g6, fun j x0 x1 => ?_⟩⟩
            rw [j1 (shA a + 1) j (by omega), E3 _ _ (by omega)]
            by_cases wj : j < n
            · rw [j2 j x0 wj, i2 j x0 wj]
              obtain ⟨P, s, pv, ri, tm, er, _⟩ := told_r h3 h26 (((tv j x0 (by omega)).fr b2).fr f3.bf)
              rw [er, ← tm.sf (c := 135) (by omega), E3 140 _ (by omega), i1 140 _ (by omega), g3]
            · rw [j3 j (by omega) x1, i3 j (by omega), E3 _ _ (by omega), i1 142 _ (by omega)]
              exact g7 j x0 x1
          exact ⟨fun _ => b_223_4 ⟨rfl, fin⟩, fun _ => ⟨g, fun _ => b_223_4 ⟨rfl, fin⟩, fun q => absurd (by omega) q⟩⟩
    · exact m_223 (b_223_0 (s_215 fun r hr => ⟨r, rfl, fun _ => b_223_1 ⟨g, fun q => absurd (by rw [f _ _ (by omega)]; omega) q, fun _ => s_214 (by omega) (by omega) ⟨_, rfl, hQ⟩⟩, fun q => absurd (by omega) q⟩))
  · refine ref_ok h (fun Q hQ => m_122 (b_122_0 (s_126 fun r hr => ⟨r, rfl, fun q => absurd (by omega) g, fun _ => hQ⟩))) (fun Q hQ => m_223 (b_223_0 (s_215 fun r hr => ⟨r, rfl, fun q => absurd (by omega) g, fun _ => hQ⟩)))
end

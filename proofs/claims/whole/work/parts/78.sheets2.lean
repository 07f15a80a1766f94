/-! put, get, copy -/
section
variable {sx : Int → Int} {L : Nat} {M : Mem} {Q : Option AV → Mem → Prop} {S1 : Mem → Prop}
def cvF (t v : Int) : Int := if t = 0 then i2B v else if t = 1 then i2S v else v
/-- what is found at an item -/
def fdF (M : Mem) (a b i : Int) : Int := if M 139 a = 0 then 1 else if ¬ M 140 a = b then 3 else if ¬ (0 ≤ i ∧ i < M 141 a) then 2 else 0
theorem fdF_cg {M' : Mem} {a b i : Int} (f : ∀ c k, 139 ≤ c ∧ c ≤ 141 → M' c k = M c k) : fdF M' a b i = fdF M a b i := by
  unfold fdF
  rw [f 139 a (by omega), f 140 a (by omega), f 141 a (by omega)]
theorem fd1 {a b i : Int} (h : M 139 a = 0) : fdF M a b i = 1 := by unfold fdF; rw [if_pos h]
theorem fd3 {a b i : Int} (h : ¬ M 139 a = 0) (h2 : ¬ M 140 a = b) : fdF M a b i = 3 := by unfold fdF; rw [if_neg h, if_pos h2]
theorem fd2 {a b i : Int} (h : ¬ M 139 a = 0) (h2 : M 140 a = b) (h3 : ¬ (0 ≤ i ∧ i < M 141 a)) : fdF M a b i = 2 := by unfold fdF; rw [if_neg h, if_neg (by omega), if_pos h3]
theorem fd0 {a b i : Int} (h : ¬ M 139 a = 0) (h2 : M 140 a = b) (h3 : 0 ≤ i ∧ i < M 141 a) : fdF M a b i = 0 := by unfold fdF; rw [if_neg h, if_neg (by omega), if_neg (by omega)]
theorem fdR (a b i : Int) : fdF M a b i = 0 ∧ ¬ M 139 a = 0 ∧ M 140 a = b ∧ 0 ≤ i ∧ i < M 141 a ∨ 1 ≤ fdF M a b i ∧ fdF M a b i ≤ 3 := by
  by_cases h : M 139 a = 0
  · exact Or.inr (by rw [fd1 h]; omega)
  · by_cases h2 : M 140 a = b
    · by_cases h3 : 0 ≤ i ∧ i < M 141 a
      · exact Or.inl ⟨fd0 h h2 h3, h, h2, h3⟩
      · exact Or.inr (by rw [fd2 h h2 h3]; omega)
    · exact Or.inr (by rw [fd3 h h2]; omega)
theorem SH1.on {a : Int} (h : SH1 M a) (q : ¬ M 139 a = 0) : M (shA a) 0 = 0 ∧ 0 ≤ M 140 a ∧ M 140 a ≤ 2 ∧ M (shA a) 1 = M 140 a ∧ 0 ≤ M 141 a ∧ M 141 a ≤ 60 ∧ M (shA a) 2 = M 141 a ∧ ∀ i, 0 ≤ i → i < 60 → M 142 (60 * a + i) = M (shA a + 1) i := by
  obtain ⟨h1, h2, h3⟩ := h
  have e : M (shA a) 0 = 0 := by omega
  exact ⟨e, h3 e⟩
theorem s_85 {a b i : Int} (h : SH1 M a) (g : 0 ≤ a ∧ a < 4) (hQ : ∀ r, (fdF M a b i = 0 ∧ r = -1 ∨ ¬ fdF M a b i = 0 ∧ r = fdF M a b i) → Q (some (vI r)) M) : Mq sx L K0 R0 85 [vR (shA a + 2), vI b, vI i] M Q := by
  have hk := isSh_A g.1 g.2
  have h2 := h.2.1
  refine m_85 (b_85_0 hk ⟨fun q => ?_, fun q => ?_⟩)
  · obtain ⟨_, g1, g2, g3, g4, g5, g6, g7⟩ := h.on (by omega)
    refine b_85_1 hk ⟨fun q2 => b_85_2 hk ⟨fun q3 => b_85_3 hk (b_85_5 hk (hQ _ ?_)), fun q3 => ⟨fun q4 => b_85_4 hk (b_85_5 hk (hQ _ ?_)), fun q4 => b_85_3 hk (b_85_5 hk (hQ _ ?_))⟩⟩, fun q2 => hQ _ ?_⟩
    · rw [fd2 (by omega) (by omega) (by omega)]; omega
    · rw [fd0 (by omega) (by omega) (by omega)]; omega
    · rw [fd2 (by omega) (by omega) (by omega)]; omega
    · rw [fd3 (by omega) (by omega)]; omega
  · refine hQ _ ?_
    have := h.1
    rw [fd1 (by omega)]; omega
theorem s_87 {a i : Int} (h : SH1 M a) (g : 0 ≤ a ∧ a < 4) (q : ¬ M 139 a = 0) (i0 : 0 ≤ i) (i1 : i < M 141 a) (hQ : Q (some (vI (M 142 (60 * a + i)))) M) : Mq sx L K0 R0 87 [vR (shA a + 2), vI i] M Q := by
  have hk := isSh_A g.1 g.2
  obtain ⟨_, g1, g2, g3, g4, g5, g6, g7⟩ := h.on q
  refine m_87 (b_87_0 hk ⟨fun q => absurd q (by omega), fun _ => ⟨fun q => absurd q (by omega), fun _ => ⟨fun q => absurd q (by omega), fun _ => ⟨⟨by omega, by omega⟩, b_87_2 hk ?_⟩⟩⟩⟩)
  rw [← g7 i i0 (by omega)]; exact hQ
theorem s_88 {c0 : Nat} {i v : Int} (hk : isSh c0) (i0 : 0 ≤ i) (i1 : i < M c0 2) (i2 : i < 60) (hQ : Q none (mset M (c0 + 1) i (cvF (M c0 1) v))) : Mq sx L K0 R0 88 [vR (c0 + 2), vI i, vI v] M Q := by
  refine m_88 (b_88_0 hk ⟨fun q => absurd q (by omega), fun _ => ⟨fun q => absurd q (by omega), fun _ => ⟨fun _ => b_88_2 hk ⟨fun q => b_88_3 hk ⟨fun q2 => b_88_4 hk (b_88_5 hk ⟨⟨by omega, by omega⟩, b_88_6 hk ?_⟩), fun q2 => b_88_5 hk ⟨⟨by omega, by omega⟩, b_88_6 hk ?_⟩⟩, fun q => ⟨⟨by omega, by omega⟩, b_88_6 hk ?_⟩⟩, fun q => absurd i2 q⟩⟩⟩)
  · unfold cvF at hQ
    rw [if_neg q, if_neg q2] at hQ; exact hQ
  · unfold cvF at hQ
    rw [if_neg q, if_pos (by omega)] at hQ; exact hQ
  · unfold cvF at hQ
    rw [if_pos (by omega)] at hQ; exact hQ
theorem s_219 {a i v : Int} (g : 0 ≤ a ∧ a < 4) (i0 : 0 ≤ i) (i2 : i < 60) (hQ : Q none (mset M 142 (60 * a + i) (cvF (M 140 a) v))) : Mq sx L K0 R0 219 [vR 106, vI a, vI i, vI v] M Q := by
  refine m_219 (b_219_0 ⟨⟨by omega, by omega⟩, ⟨by omega, by omega⟩, g, fun q => b_219_1 ⟨g, fun q2 => b_219_2 (b_219_3 ⟨⟨by omega, by omega⟩, ?_⟩), fun q2 => b_219_3 ⟨⟨by omega, by omega⟩, ?_⟩⟩, fun q => b_219_3 ⟨⟨by omega, by omega⟩, ?_⟩⟩)
  · unfold cvF at hQ
    rw [if_neg q, if_neg q2] at hQ; exact hQ
  · unfold cvF at hQ
    rw [if_neg q, if_pos (by omega)] at hQ; exact hQ
  · unfold cvF at hQ
    rw [if_pos (by omega)] at hQ; exact hQ
theorem s_218 {a b i : Int} (g : 0 ≤ a ∧ a < 4) (hz : ¬ M 139 a = 0 → 0 ≤ M 141 a ∧ M 141 a ≤ 60) (hQ : Q (some (vI (fdF M a b i))) M) : Mq sx L K0 R0 218 [vR 106, vI a, vI b, vI i] M Q := by
  refine m_218 (b_218_0 ⟨g, fun q => b_218_1 ⟨g, fun q2 => ?_, fun q2 => b_218_4 ?_⟩, fun q => b_218_4 ?_⟩)
  · have z := hz q
    refine b_218_2 ⟨g, ⟨by omega, by omega⟩, s_137 fun r hr => ⟨r, rfl, fun w => b_218_3 (b_218_4 ?_), fun w => b_218_4 ?_⟩⟩
    · rw [fd2 q q2 (by omega)] at hQ; exact hQ
    · rw [fd0 q q2 (by omega)] at hQ; exact hQ
  · rw [fd3 q q2] at hQ; exact hQ
  · rw [fd1 (by omega)] at hQ; exact hQ
theorem op_26 (hs : SROK (S1, SHT)) (a b i v : Int) : OpOk sx L (INVM (S1, SHT)) 119 220 [vI a, vI b, vI i, vI v] := by
  intro M h
  by_cases g : (0 ≤ a ∧ a < 4) ∧ 0 ≤ b ∧ b ≤ 2
  · have hS : SHT M := h.1.2.2.2.2.2.1
    have h1 : SH1 M a := hS a g.1.1 g.1.2
    have rg := sh_rg g.1.1 g.1.2
    have hk := isSh_A g.1.1 g.1.2
    have fr := fdR (M := M) a b i
    refine m_119 (b_119_0 (s_126 fun r hr => ⟨r, rfl, fun q => absurd q (by omega), fun _ => s_127 fun r2 hr2 => ⟨r2, rfl, fun _ => b_119_2 g.1 (s_85 h1 g.1 fun r3 hr3 => ⟨r3, rfl, fun w => b_119_3 g.1 ?_, fun w => ?_⟩), fun q => absurd (by omega) q⟩⟩))
    · obtain ⟨e, k1, k2, k3, k4⟩ : fdF M a b i = 0 ∧ ¬ M 139 a = 0 ∧ M 140 a = b ∧ 0 ≤ i ∧ i < M 141 a := by omega
      obtain ⟨g0, g1, g2, g3, g4, g5, g6, g7⟩ := h1.on k1
      refine s_88 hk k3 (by omega) (by omega) ⟨rfl, 1, rfl, ?_⟩
      rw [g3]
      have F : ∀ d k', ¬ (d = shA a + 1 ∧ k' = i) → mset M (shA a + 1) i (cvF (M 140 a) v) d k' = M d k' := fun d k' p => ms_ne p
      refine m_220 (b_220_0 (s_215 fun r hr => ⟨r, rfl, fun q => absurd q (by omega), fun _ => s_137 fun r2 hr2 => ⟨r2, rfl, fun _ => b_220_2 (s_218 g.1 (fun _ => by rw [F _ _ (by omega)]; omega) ⟨_, rfl, ?_⟩), fun q => absurd (by omega) q⟩⟩))
      rw [fdF_cg (M := M) (fun c k q => F c k (by omega)), e]
      refine ⟨fun _ => b_220_3 (s_219 g.1 k3 (by omega) ⟨rfl, rfl, ?_⟩), fun q => absurd (by omega) q⟩
      rw [F _ _ (by omega)]
      have F2 : ∀ d k', ¬ (d = shA a + 1 ∧ k' = i) → ¬ (d = 142 ∧ k' = 60 * a + i) → mset (mset M (shA a + 1) i (cvF (M 140 a) v)) 142 (60 * a + i) (cvF (M 140 a) v) d k' = M d k' := fun d k' p q => by rw [ms_ne q, ms_ne p]
      refine shf_inv hs h (fun d k' p q _ _ => F2 d k' (by omega) (by omega)) (SHT.one (M := M) hS g.1 (fun d k' p q x y _ => F2 d k' (by omega) (by omega)) ?_) (FND.fr h.1.2.2.2.2.2.2 (F2 _ _ (by omega) (by omega)) (F2 _ _ (by omega) (by omega)))
      unfold SH1
      rw [F2 (shA a) 0 (by omega) (by omega), F2 (shA a) 1 (by omega) (by omega), F2 (shA a) 2 (by omega) (by omega), F2 139 _ (by omega) (by omega), F2 140 _ (by omega) (by omega), F2 141 _ (by omega) (by omega)]
      refine ⟨Or.inl g0, h1.2.1, fun _ => ⟨g1, g2, g3, g4, g5, g6, fun j j0 j1 => ?_⟩⟩
      by_cases ej : j = i
      · rw [ej, ms_eq, ms_c (by omega), ms_eq]
      · rw [F2 _ _ (by omega) (by omega), F2 _ _ (by omega) (by omega)]
        exact g7 j j0 j1
    · obtain ⟨e, e2⟩ : ¬ fdF M a b i = 0 ∧ r3 = fdF M a b i := by omega
      refine find_ok hs h (by omega) (by omega) fun M1 Q f hQ => ?_
      refine m_220 (b_220_0 (s_215 fun r hr => ⟨r, rfl, fun q => absurd q (by omega), fun _ => s_137 fun r2 hr2 => ⟨r2, rfl, fun _ => b_220_2 (s_218 g.1 (fun q => ?_) ⟨_, rfl, ?_⟩), fun q => absurd (by omega) q⟩⟩))
      · rw [f _ _ (by omega)] at q
        have z := h1.on q
        rw [f _ _ (by omega)]
        omega
      · rw [fdF_cg (M := M) (fun c k q => f c k (by omega)), ← e2]
        exact ⟨fun q => absurd q (by omega), fun _ => s_214 (by omega) (by omega) ⟨_, rfl, hQ⟩⟩
  · refine ref_ok h (fun Q hQ => m_119 (b_119_0 (s_126 fun r hr => ⟨r, rfl, fun q => b_119_1 hQ, fun _ => s_127 fun r2 hr2 => ⟨r2, rfl, fun q => absurd (by omega) g, fun _ => b_119_1 hQ⟩⟩))) (fun Q hQ => m_220 (b_220_0 (s_215 fun r hr => ⟨r, rfl, fun q => b_220_1 hQ, fun _ => s_137 fun r2 hr2 => ⟨r2, rfl, fun q => absurd (by omega) g, fun _ => b_220_1 hQ⟩⟩)))
theorem op_27 (hs : SROK (S1, SHT)) (a b i : Int) : OpOk sx L (INVM (S1, SHT)) 120 221 [vI a, vI b, vI i] := by
  intro M h
  by_cases g : (0 ≤ a ∧ a < 4) ∧ 0 ≤ b ∧ b ≤ 2
  · have hS : SHT M := h.1.2.2.2.2.2.1
    have h1 : SH1 M a := hS a g.1.1 g.1.2
    have fr := fdR (M := M) a b i
    refine m_120 (b_120_0 (s_126 fun r hr => ⟨r, rfl, fun q => absurd q (by omega), fun _ => s_127 fun r2 hr2 => ⟨r2, rfl, fun _ => b_120_2 g.1 (s_85 h1 g.1 fun r3 hr3 => ⟨r3, rfl, fun w => b_120_3 g.1 ?_, fun w => ⟨_, rfl, ?_⟩⟩), fun q => absurd (by omega) q⟩⟩))
    · obtain ⟨e, k1, k2, k3, k4⟩ : fdF M a b i = 0 ∧ ¬ M 139 a = 0 ∧ M 140 a = b ∧ 0 ≤ i ∧ i < M 141 a := by omega
      obtain ⟨g0, g1, g2, g3, g4, g5, g6, g7⟩ := h1.on k1
      refine s_87 h1 g.1 k1 k3 k4 ⟨_, rfl, _, rfl, ?_⟩
      refine m_221 (b_221_0 (s_215 fun r hr => ⟨r, rfl, fun q => absurd q (by omega), fun _ => s_137 fun r2 hr2 => ⟨r2, rfl, fun _ => b_221_2 (s_218 g.1 (fun _ => by omega) ⟨_, rfl, fun _ => b_221_3 ⟨⟨by omega, by omega⟩, ⟨by omega, by omega⟩, ⟨by omega, by omega⟩, rfl, h⟩, fun q => absurd (by omega) q⟩), fun q => absurd (by omega) q⟩⟩))
    · obtain ⟨e, e2⟩ : ¬ fdF M a b i = 0 ∧ r3 = fdF M a b i := by omega
      have f : ∀ c k, ¬ (c = 0 ∧ k = 9) → mset M 0 9 r3 c k = M c k := fun c k q => ms_ne q
      refine m_221 (b_221_0 (s_215 fun r hr => ⟨r, rfl, fun q => absurd q (by omega), fun _ => s_137 fun r2 hr2 => ⟨r2, rfl, fun _ => b_221_2 (s_218 g.1 (fun q => ?_) ⟨_, rfl, ?_⟩), fun q => absurd (by omega) q⟩⟩))
      · rw [f _ _ (by omega)] at q
        have z := h1.on q
        rw [f _ _ (by omega)]
        omega
      · rw [fdF_cg (M := M) (fun c k q => f c k (by omega)), ← e2]
        exact ⟨fun q => absurd q (by omega), fun _ => ⟨rfl, fnd_ok hs h (by omega) (by omega)⟩⟩
  · refine ref_ok h (fun Q hQ => m_120 (b_120_0 (s_126 fun r hr => ⟨r, rfl, fun q => b_120_1 hQ, fun _ => s_127 fun r2 hr2 => ⟨r2, rfl, fun q => absurd (by omega) g, fun _ => b_120_1 hQ⟩⟩))) (fun Q hQ => m_221 (b_221_0 (s_215 fun r hr => ⟨r, rfl, fun q => b_221_1 hQ, fun _ => s_137 fun r2 hr2 => ⟨r2, rfl, fun q => absurd (by omega) g, fun _ => b_221_1 hQ⟩⟩)))
end

/-! the sheets -/
section
variable {sx : Int → Int} {L : Nat} {M : Mem} {Q : Option AV → Mem → Prop} {S1 : Mem → Prop}
/-- sheets and findings, and nothing else -/
def ShF (M M' : Mem) : Prop := ∀ c k, ¬ (43 ≤ c ∧ c ≤ 50) → ¬ (139 ≤ c ∧ c ≤ 143) → ¬ (c = 0 ∧ k = 9) → ¬ (c = 104 ∧ k = 64) → M' c k = M c k
theorem ShF.bf {M' : Mem} (f : ShF M M') : BFr M M' := fun c k q => f c k (by unfold baseC at q; omega) (by unfold baseC at q; omega) (by unfold baseC at q; omega) (by unfold baseC at q; omega)
theorem shf_inv {M' : Mem} {S2 S2' : Mem → Prop} (hs : SROK (S1, S2)) (h : INVM (S1, S2) M) (f : ShF M M') (h6 : S2' M') (h7 : FND M') : INVM (S1, S2') M' := by
  obtain ⟨⟨h1, h2, h3, h4, h5, _, _⟩, h8⟩ := h
  have b := f.bf
  refine ⟨⟨h1.fr b, ?_, by rw [f 104 32 (by omega) (by omega) (by omega) (by omega)]; exact h3, h4.fr b fun c k q => f c k (by omega) (by omega) (by omega) (by omega), hs.1 M M' h5 b fun c k q => f c k (by omega) (by omega) (by omega) (by omega), h6, h7⟩, h8.fr b fun c k q => f c k (by unfold isS at q; omega) (by unfold isS at q; omega) (by unfold isS at q; omega) (by unfold isS at q; omega)⟩
  unfold RDI
  rw [f 104 10 (by omega) (by omega) (by omega) (by omega)]
  exact h2.imp id fun w => ⟨w.1, w.2.fr b fun c k q => f c k (by omega) (by omega) (by omega) (by omega)⟩
theorem srok_T {S2 : Mem → Prop} (hs : SROK (S1, S2)) : SROK (S1, fun _ => True) := ⟨hs.1, hs.2.1, fun _ _ _ _ => trivial⟩
theorem srok_S (hs : SROK (S1, SHT)) : SROK (S1, SHT) := ⟨hs.1, hs.2.1, fun _ _ h f => h.fr f⟩
theorem FND.fr {M' : Mem} (h : FND M) (e : M' 104 64 = M 104 64) (e2 : M' 0 9 = M 0 9) : FND M' := by
  unfold FND
  rw [e, e2]; exact h
theorem fnd_ok {x : Int} (hs : SROK (S1, SHT)) (h : INVM (S1, SHT) M) (x0 : 0 ≤ x) (x1 : x ≤ 5) : INVM (S1, SHT) (mset (mset M 0 9 x) 104 64 x) := by
  have f : ∀ c k, ¬ (c = 0 ∧ k = 9) → ¬ (c = 104 ∧ k = 64) → mset (mset M 0 9 x) 104 64 x c k = M c k := fun c k a b => by rw [ms_ne b, ms_ne a]
  refine shf_inv hs h (fun c k _ _ a b => f c k a b) (SHT.fr h.1.2.2.2.2.2.1 fun c k q => f c k (by omega) (by omega)) ⟨?_, ?_, ?_⟩
  · rw [ms_eq]; exact x0
  · rw [ms_eq]; exact x1
  · rw [ms_eq, ms_ne (by omega), ms_eq]
theorem s_132 {x : Int} (x0 : 0 ≤ x) (x1 : x ≤ 5) (hQ : Q (some (vI (-10 - x))) (mset M 0 9 x)) : Mq sx L K0 R0 132 [vR 2, vI x] M Q := m_132 (b_132_0 ⟨⟨by omega, by omega⟩, hQ⟩)
theorem s_214 {x : Int} (x0 : 0 ≤ x) (x1 : x ≤ 5) (hQ : Q (some (vI (-10 - x))) (mset M 104 64 x)) : Mq sx L K0 R0 214 [vR 106, vI x] M Q := m_214 (b_214_0 ⟨⟨by omega, by omega⟩, hQ⟩)
/-- both sides find -/
theorem find_ok {mm : Nat} {as : List AV} {x : Int} (hs : SROK (S1, SHT)) (h : INVM (S1, SHT) M) (x0 : 0 ≤ x) (x1 : x ≤ 5) (h2 : ∀ (M1 : Mem) (Q : Option AV → Mem → Prop), (∀ c k, ¬ (c = 0 ∧ k = 9) → M1 c k = M c k) → Q (some (vI (-10 - x))) (mset M1 104 64 x) → Mq sx L K0 R0 mm (vR 106 :: as) M1 Q) : Mq sx L K0 R0 132 [vR 2, vI x] M (fun rv M1 => ∃ r, rv = some (vI r) ∧ (fun rv M1 => ∃ r, rv = some (vI r) ∧ Mq sx L K0 R0 mm (vR 106 :: as) M1 (fun rv2 M2 => rv2 = some (vI r) ∧ INVM (S1, SHT) M2)) (some (vI r)) M1) :=
  s_132 x0 x1 ⟨_, rfl, _, rfl, h2 _ _ (fun c k a => ms_ne a) ⟨rfl, fnd_ok hs h x0 x1⟩⟩
theorem s_126 {x : Int} (hQ : ∀ r, (0 ≤ x ∧ x < 4 ∧ r = 1 ∨ ¬ (0 ≤ x ∧ x < 4) ∧ r = 0) → Q (some (vI r)) M) : Mq sx L K0 R0 126 [vI x] M Q :=
  m_126 (b_126_0 ⟨fun q => b_126_1 (b_126_2 ⟨Or.inl rfl, hQ 0 (by omega)⟩), fun q => ⟨fun q2 => b_126_1 (b_126_2 ⟨Or.inl rfl, hQ 0 (by omega)⟩), fun q2 => b_126_2 ⟨Or.inr rfl, hQ 1 (by omega)⟩⟩⟩)
theorem s_127 {x : Int} (hQ : ∀ r, (0 ≤ x ∧ x ≤ 2 ∧ r = 1 ∨ ¬ (0 ≤ x ∧ x ≤ 2) ∧ r = 0) → Q (some (vI r)) M) : Mq sx L K0 R0 127 [vI x] M Q :=
  m_127 (b_127_0 ⟨fun q => b_127_1 (b_127_2 ⟨Or.inl rfl, hQ 0 (by omega)⟩), fun q => ⟨fun q2 => b_127_1 (b_127_2 ⟨Or.inl rfl, hQ 0 (by omega)⟩), fun q2 => b_127_2 ⟨Or.inr rfl, hQ 1 (by omega)⟩⟩⟩)
theorem s_215 {x : Int} (hQ : ∀ r, (0 ≤ x ∧ x < 4 ∧ r = 1 ∨ ¬ (0 ≤ x ∧ x < 4) ∧ r = 0) → Q (some (vI r)) M) : Mq sx L K0 R0 215 [vI x] M Q :=
  m_215 (b_215_0 (s_137 fun r hr => ⟨r, rfl, by omega, hQ r (by omega)⟩))
theorem s_84 {c0 : Nat} {x1 x2 : Int} (h0 : isSh c0) (hQ : ∀ M', M' c0 0 = 0 → M' c0 1 = x1 → M' c0 2 = x2 → (∀ i, 0 ≤ i → i < 60 → M' (c0 + 1) i = 0) → (∀ c k, ¬ c = c0 → ¬ c = c0 + 1 → M' c k = M c k) → Q none M') : Mq sx L K0 R0 84 [vR (c0 + 2), vI x1, vI x2] M Q := by
  refine m_84 (b_84_0 h0 ?_)
  refine lpM (N := 60) (I := fun k M1 => M1 c0 0 = 0 ∧ M1 c0 1 = x1 ∧ M1 c0 2 = x2 ∧ (∀ i, 0 ≤ i → i < k → M1 (c0 + 1) i = 0) ∧ ∀ c k', ¬ c = c0 → ¬ c = c0 + 1 → M1 c k' = M c k') (G := fun k M1 => Rn sx L K0 R0 84 1 [vR (c0 + 2), vI x1, vI x2, vI k] [] M1 Q) (fun k M1 k0 k1 hI ih => ?_) (fun M1 hI => b_84_1 h0 ⟨fun _ => b_84_2 h0 (hQ M1 hI.1 hI.2.1 hI.2.2.1 hI.2.2.2.1 hI.2.2.2.2), fun q => absurd (by omega) q⟩) 0 _ (by omega) (by omega) ⟨?_, ?_, ms_eq, fun i a b => by omega, fun c k' a _ => by rw [ms_c a, ms_c a, ms_c a]⟩
  · obtain ⟨i1, i2, i3, i4, i5⟩ := hI
    refine b_84_1 h0 ⟨fun q => absurd q (by omega), fun _ => ⟨⟨by omega, by omega⟩, ⟨by omega, by omega⟩, ih _ ⟨by rw [ms_c (by omega)]; exact i1, by rw [ms_c (by omega)]; exact i2, by rw [ms_c (by omega)]; exact i3, fun i a b => ?_, fun c k' a b => by rw [ms_c b]; exact i5 c k' a b⟩⟩⟩
    by_cases e : i = k
    · rw [e, ms_eq]
    · rw [ms_k e]; exact i4 i a (by omega)
  · rw [ms_k (by omega), ms_k (by omega), ms_eq]
  · rw [ms_k (by omega), ms_eq]
theorem sh_ne {a b : Int} (a0 : 0 ≤ a) (b0 : 0 ≤ b) (h : ¬ a = b) : ¬ shA a = shA b ∧ ¬ shA a = shA b + 1 ∧ ¬ shA a + 1 = shA b ∧ ¬ shA a + 1 = shA b + 1 := by unfold shA; omega
/-- one sheet -/
def SH1 (M : Mem) (s : Int) : Prop := (M (shA s) 0 = 0 ∨ M (shA s) 0 = 1) ∧ M 139 s = 1 - M (shA s) 0 ∧ (M (shA s) 0 = 0 → 0 ≤ M 140 s ∧ M 140 s ≤ 2 ∧ M (shA s) 1 = M 140 s ∧ 0 ≤ M 141 s ∧ M 141 s ≤ 60 ∧ M (shA s) 2 = M 141 s ∧ ∀ i, 0 ≤ i → i < 60 → M 142 (60 * s + i) = M (shA s + 1) i)
theorem SH1.fr {M' : Mem} {s : Int} (h : SH1 M s) (f : ∀ c k, (c = shA s ∨ c = shA s + 1 ∨ (139 ≤ c ∧ c ≤ 141 ∧ k = s) ∨ (c = 142 ∧ 60 * s ≤ k ∧ k < 60 * s + 60)) → M' c k = M c k) : SH1 M' s := by
  have e := fun k => f (shA s) k (Or.inl rfl)
  unfold SH1
  rw [e, e, e, f 139 s (by omega), f 140 s (by omega), f 141 s (by omega)]
  obtain ⟨h1, h2, h3⟩ := h
  refine ⟨h1, h2, fun q => ?_⟩
  obtain ⟨g1, g2, g3, g4, g5, g6, g7⟩ := h3 q
  refine ⟨g1, g2, g3, g4, g5, g6, fun i i0 i1 => ?_⟩
  rw [f 142 _ (by omega), f (shA s + 1) i (by omega)]
  exact g7 i i0 i1
/-- one sheet has changed -/
theorem SHT.one {M' : Mem} {a : Int} (h : SHT M) (a0 : 0 ≤ a ∧ a < 4) (f : ∀ c k, ¬ c = shA a → ¬ c = shA a + 1 → ¬ (139 ≤ c ∧ c ≤ 141 ∧ k = a) → ¬ (c = 142 ∧ 60 * a ≤ k ∧ k < 60 * a + 60) → 43 ≤ c ∧ c ≤ 50 ∨ 139 ≤ c ∧ c ≤ 142 → M' c k = M c k) (ha : SH1 M' a) : SHT M' := by
  intro s s0 s1
  by_cases e : s = a
  · rw [e]; exact ha
  · have n := sh_ne s0 a0.1 e
    have r := sh_rg s0 s1
    have r' := sh_rg a0.1 a0.2
    exact SH1.fr (M := M) (h s s0 s1) fun c k q => f c k (by omega) (by omega) (by omega) (by omega) (by omega)
theorem op_24 (hs : SROK (S1, SHT)) (a b c : Int) : OpOk sx L (INVM (S1, SHT)) 117 216 [vI a, vI b, vI c] := by
  intro M h
  by_cases g : (0 ≤ a ∧ a < 4) ∧ (0 ≤ b ∧ b ≤ 2) ∧ c ≤ 60
  · by_cases g2 : 0 ≤ c
    · refine m_117 (b_117_0 (s_126 fun r hr => ⟨r, rfl, fun q => absurd q (by omega), fun _ => s_127 fun r2 hr2 => ⟨r2, rfl, fun q => absurd q (by omega), fun _ => ⟨fun _ => b_117_2 ⟨fun _ => b_117_3 g.1 (s_84 (isSh_A g.1.1 g.1.2) fun M1 k1 k2 k3 k4 k5 => ⟨rfl, c, rfl, ?_⟩), fun q => absurd g2 q⟩, fun q => absurd g.2.2 q⟩⟩⟩))
      have rg := sh_rg g.1.1 g.1.2
      refine m_216 (b_216_0 (s_215 fun r hr => ⟨r, rfl, fun q => absurd q (by omega), fun _ => s_137 fun r2 hr2 => ⟨r2, rfl, fun q => absurd q (by omega), fun _ => ⟨fun _ => b_216_2 ⟨fun _ => b_216_3 ⟨g.1, g.1, g.1, ?_⟩, fun q => absurd g2 q⟩, fun q => absurd g.2.2 q⟩⟩⟩))
      refine lpM (N := 60) (I := fun k M2 => M2 139 a = 1 ∧ M2 140 a = b ∧ M2 141 a = c ∧ (∀ i, 0 ≤ i → i < k → M2 142 (60 * a + i) = 0) ∧ ∀ d k', ¬ (139 ≤ d ∧ d ≤ 141 ∧ k' = a) → ¬ (d = 142 ∧ 60 * a ≤ k' ∧ k' < 60 * a + 60) → M2 d k' = M1 d k') (G := fun k M2 => Rn sx L K0 R0 216 4 [vR 106, vI a, vI b, vI c, vI k] [] M2 _) (fun k M2 q0 q1 hI ih => ?_) (fun M2 hI => b_216_4 ⟨fun _ => b_216_5 ⟨rfl, ?_⟩, fun q => absurd (by omega) q⟩) 0 _ (by omega) (by omega) ⟨?_, ?_, ms_eq, fun i a b => by omega, fun d k' p q => by rw [ms_ne (by omega), ms_ne (by omega), ms_ne (by omega)]⟩
      · obtain ⟨i1, i2, i3, i4, i5⟩ := hI
        refine b_216_4 ⟨fun q => absurd q (by omega), fun _ => ⟨⟨by omega, by omega⟩, ⟨by omega, by omega⟩, ⟨by omega, by omega⟩, ⟨by omega, by omega⟩, ih _ ⟨by rw [ms_c (by omega)]; exact i1, by rw [ms_c (by omega)]; exact i2, by rw [ms_c (by omega)]; exact i3, fun i x y => ?_, fun d k' p q => by rw [ms_ne (by omega)]; exact i5 d k' p q⟩⟩⟩
        by_cases e : i = k
        · rw [e, ms_eq]
        · rw [ms_k (by omega)]; exact i4 i x (by omega)
      · rw [ms_c (by omega), ms_c (by omega), ms_eq]
      · rw [ms_c (by omega), ms_eq]
      · obtain ⟨i1, i2, i3, i4, i5⟩ := hI
        have z0 : M2 (shA a) 0 = 0 := by rw [i5 _ _ (by omega) (by omega)]; exact k1
        have z1 : M2 (shA a) 1 = b := by rw [i5 _ _ (by omega) (by omega)]; exact k2
        have z2 : M2 (shA a) 2 = c := by rw [i5 _ _ (by omega) (by omega)]; exact k3
        have z3 : ∀ i, 0 ≤ i → i < 60 → M2 (shA a + 1) i = 0 := fun i x y => by rw [i5 _ _ (by omega) (by omega)]; exact k4 i x y
        have F : ∀ d k', ¬ d = shA a → ¬ d = shA a + 1 → ¬ (139 ≤ d ∧ d ≤ 141 ∧ k' = a) → ¬ (d = 142 ∧ 60 * a ≤ k' ∧ k' < 60 * a + 60) → M2 d k' = M d k' := fun d k' p q x y => by rw [i5 _ _ x y]; exact k5 _ _ p q
        refine shf_inv hs h (fun d k' p q _ _ => F d k' (by omega) (by omega) (by omega) (by omega)) (SHT.one (M := M) h.1.2.2.2.2.2.1 g.1 (fun d k' p q x y _ => F d k' p q x y) ⟨Or.inl z0, by omega, fun _ => ⟨by omega, by omega, by omega, by omega, by omega, by omega, fun i x y => by rw [i4 i x y, z3 i x y]⟩⟩) (FND.fr h.1.2.2.2.2.2.2 (F _ _ (by omega) (by omega) (by omega) (by omega)) (F _ _ (by omega) (by omega) (by omega) (by omega)))
    · refine m_117 (b_117_0 (s_126 fun r hr => ⟨r, rfl, fun q => absurd q (by omega), fun _ => s_127 fun r2 hr2 => ⟨r2, rfl, fun q => absurd q (by omega), fun _ => ⟨fun _ => b_117_2 ⟨fun q => absurd q g2, fun _ => find_ok hs h (by omega) (by omega) fun M1 Q _ hQ => ?_⟩, fun q => absurd g.2.2 q⟩⟩⟩))
      exact m_216 (b_216_0 (s_215 fun r hr => ⟨r, rfl, fun q => absurd q (by omega), fun _ => s_137 fun r2 hr2 => ⟨r2, rfl, fun q => absurd q (by omega), fun _ => ⟨fun _ => b_216_2 ⟨fun q => absurd q g2, fun _ => s_214 (by omega) (by omega) ⟨_, rfl, hQ⟩⟩, fun q => absurd g.2.2 q⟩⟩⟩))
  · refine ref_ok h (fun Q hQ => m_117 (b_117_0 (s_126 fun r hr => ⟨r, rfl, fun q => b_117_1 hQ, fun _ => s_127 fun r2 hr2 => ⟨r2, rfl, fun q => b_117_1 hQ, fun _ => ⟨fun _ => absurd (by omega) g, fun _ => b_117_1 hQ⟩⟩⟩))) (fun Q hQ => m_216 (b_216_0 (s_215 fun r hr => ⟨r, rfl, fun q => b_216_1 hQ, fun _ => s_137 fun r2 hr2 => ⟨r2, rfl, fun q => b_216_1 hQ, fun _ => ⟨fun _ => absurd (by omega) g, fun _ => b_216_1 hQ⟩⟩⟩)))
theorem op_25 (hs : SROK (S1, SHT)) (a : Int) : OpOk sx L (INVM (S1, SHT)) 118 217 [vI a] := by
  intro M h
  by_cases g : 0 ≤ a ∧ a < 4
  · have hS : SHT M := h.1.2.2.2.2.2.1
    obtain ⟨h1, h2, h3⟩ := hS a g.1 g.2
    have rg := sh_rg g.1 g.2
    refine m_118 (b_118_0 (s_126 fun r hr => ⟨r, rfl, fun _ => b_118_1 g ⟨fun w => b_118_2 (isSh_A g.1 g.2) ⟨_, rfl, ?_⟩, fun w => find_ok hs h (by omega) (by omega) fun M1 Q f hQ => ?_⟩, fun q => absurd (by omega) q⟩))
    · obtain ⟨g1, g2, g3, g4, g5, g6, g7⟩ := h3 w
      refine m_217 (b_217_0 (s_215 fun r hr => ⟨r, rfl, fun _ => b_217_1 ⟨g, fun _ => b_217_2 ⟨g, g, ?_, ?_⟩, fun q => absurd (by rw [ms_c (by omega)]; omega) q⟩, fun q => absurd (by omega) q⟩))
      · rw [ms_c (by omega), ms_c (by omega), ms_k (by omega), g6]
      · have F : ∀ d k', ¬ (d = shA a ∧ k' = 0) → ¬ (d = 139 ∧ k' = a) → mset (mset M (shA a) 0 1) 139 a 0 d k' = M d k' := fun d k' p q => by rw [ms_ne q, ms_ne p]
        have z : mset (mset M (shA a) 0 1) 139 a 0 (shA a) 0 = 1 := by rw [ms_c (by omega), ms_eq]
        refine shf_inv hs h (fun d k' p q _ _ => F d k' (by omega) (by omega)) (SHT.one (M := M) hS g (fun d k' p q x y _ => F d k' (by omega) (by omega)) ⟨Or.inr z, by rw [z, ms_eq]; omega, fun q => by omega⟩) (FND.fr h.1.2.2.2.2.2.2 (F _ _ (by omega) (by omega)) (F _ _ (by omega) (by omega)))
    · exact m_217 (b_217_0 (s_215 fun r hr => ⟨r, rfl, fun _ => b_217_1 ⟨g, fun q => absurd (by rw [f _ _ (by omega)]; omega) q, fun _ => s_214 (by omega) (by omega) ⟨_, rfl, hQ⟩⟩, fun q => absurd (by omega) q⟩))
  · refine ref_ok h (fun Q hQ => m_118 (b_118_0 (s_126 fun r hr => ⟨r, rfl, fun q => absurd (by omega) g, fun _ => hQ⟩))) (fun Q hQ => m_217 (b_217_0 (s_215 fun r hr => ⟨r, rfl, fun q => absurd (by omega) g, fun _ => hQ⟩)))
end

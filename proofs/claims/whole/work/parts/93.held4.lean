/-! held -/
section
variable {sx : Int → Int} {L : Nat} {M M1 P : Mem} {Q : Option AV → Mem → Prop} {SR : (Mem → Prop) × (Mem → Prop)}
abbrev bdP (M : Mem) (t : Int) : Prop := M 104 22 = 0 ∧ M 104 23 = 2 ∧ M 104 24 = 1 ∧ tb (areB M) t = true
theorem s_30 {t : Int} (hb : BASE M) (t0 : 0 ≤ t) (t1 : t < 8) (hQ : ∀ r, (bdP M t ∧ r = 1 ∨ ¬ bdP M t ∧ r = 0) → Q (some (vI r)) M) : Mq sx L K0 R0 30 [vR 53, vI t] M Q := by
  obtain ⟨e1, e2, e3, e4, e5, e6, e7, e8, e9, e10, e11, e12, e13⟩ := hb.2.2.2.2.1
  have no : ¬ bdP M t → Rn sx L K0 R0 30 1 [vR 53, vI t] [] M Q := fun w => b_30_1 (b_30_2 ⟨Or.inl rfl, hQ _ (Or.inr ⟨w, rfl⟩)⟩)
  refine m_30 (b_30_0 ⟨fun q => no fun w => ?_, fun q => ⟨fun q2 => no fun w => ?_, fun q2 => ⟨fun q3 => no fun w => ?_, fun q3 => s_78 hb t0 t1 fun r hr => ⟨r, rfl, fun q4 => no fun w => ?_, fun q4 => b_30_2 ⟨Or.inr rfl, hQ _ (Or.inl ⟨⟨by omega, by omega, by omega, ?_⟩, rfl⟩)⟩⟩⟩⟩⟩)
  · exact q (by rw [e3]; exact w.1)
  · exact q2 (by rw [e6]; exact w.2.1)
  · exact q3 (by rw [e9]; exact w.2.2.1)
  · rcases hr with z | z
    · omega
    · have := w.2.2.2
      rw [z.1] at this
      exact absurd this (by decide)
  · rcases hr with z | z
    · exact z.1
    · omega
theorem s_197 {t : Int} (hs : SROK SR) (h : INVM SR M) (t0 : 0 ≤ t) (t1 : t < 8) (hQ : ∀ r M', INVM SR M' → BFr M M' → (bdP M t ∧ r = 1 ∨ ¬ bdP M t ∧ r = 0) → Q (some (vI r)) M') : Mq sx L K0 R0 197 [vR 106, vI t] M Q := by
  have no : ¬ bdP M t → ∀ M', INVM SR M' → BFr M M' → Rn sx L K0 R0 197 1 [vR 106, vI t] [] M' Q := fun w M' h' f => b_197_1 (b_197_2 ⟨Or.inl rfl, hQ _ M' h' f (Or.inr ⟨w, rfl⟩)⟩)
  refine m_197 (b_197_0 ⟨fun q => no (fun w => q w.1) M h BFr.rfl', fun q => ⟨fun q2 => no (fun w => q2 w.2.1) M h BFr.rfl', fun q2 => ⟨fun q3 => no (fun w => q3 w.2.2.1) M h BFr.rfl', fun q3 => s_154 (I := INVM SR) (fun M h => h.1.1) (fun Q hQ => s_150i hs h hQ) fun M1 h1 _ _ f1 => ⟨_, rfl, ⟨areB_B.1, t0, by omega⟩, fun q4 => no (fun w => ?_) M1 h1 f1.bf, fun q4 => b_197_2 ⟨Or.inr rfl, hQ _ M1 h1 f1.bf (Or.inl ⟨⟨by omega, by omega, by omega, ?_⟩, rfl⟩)⟩⟩⟩⟩⟩)
  · rw [bt_1 areB_B] at q4; exact q4 w.2.2.2
  · rw [bt_1 areB_B] at q4; exact Decidable.not_not.mp q4
theorem s_196 {t : Int} (hs : SROK SR) (hb : BASE M) (at' : tb (areB M) t = true) (bf : BFr M M1) (h : INVM SR M1) (t0 : 0 ≤ t) (t1 : t < 8) (hQ : ∀ M', INVM SR M' → BFr M M' → RDok M' → Q (some (vI (hmF M t (hkF M t 8) 8))) M') : Mq sx L K0 R0 196 [vR 106, vI t] M1 Q := by
  refine m_196 (b_196_0 (s_154 (I := INVM SR) (fun M h => h.1.1) (fun Q hQ => s_150i hs h hQ) fun M2 h2 _ r2 f2 => ⟨_, rfl, ?_⟩))
  have b2 := bf.tr f2.bf
  rw [bf.are]
  refine s_196a hb b2 r2 t0 t1 fun u5 u6 h5 h6 i => b_196_12 h5 h6 ?_
  rw [mask_eq hb t0 t1 at']
  exact s_196b hb b2 r2 t0 t1 (hk_B hb t0 t1 at' 8 (by omega)) (hQ M2 h2 b2 r2) u6 h6
theorem op_17 (hs : SROK SR) (a : Int) : OpOk sx L (INVM SR) 110 200 [vI a] := by
  intro M h
  have hb := h.1.1
  by_cases g : 0 ≤ a ∧ a < 8
  · refine m_110 (b_110_0 (s_125 fun r hr => ⟨r, rfl, fun _ => b_110_1 (s_30 hb g.1 g.2 fun r2 hr2 => ⟨r2, rfl, fun q => b_110_2 (b_110_3 ⟨_, rfl, ?_⟩), fun q => ?_⟩), fun q => absurd (by omega) q⟩))
    · have nb : ¬ bdP M a := by
        rcases hr2 with z | z
        · omega
        · exact z.1
      refine m_200 (b_200_0 (s_142 fun r3 hr3 => ⟨r3, rfl, fun _ => b_200_1 (s_197 hs h g.1 g.2 fun r4 M1 h1 _ hr4 => ⟨r4, rfl, fun _ => b_200_2 (b_200_3 ⟨rfl, h1⟩), fun q4 => ?_⟩), fun q => absurd (by omega) q⟩))
      rcases hr4 with z | z
      · exact absurd z.1 nb
      · omega
    · have nb : bdP M a := by
        rcases hr2 with z | z
        · exact z.1
        · omega
      refine s_32 hb g.1 g.2 nb.2.2.2 ⟨_, rfl, b_110_3 ⟨_, rfl, m_200 (b_200_0 (s_142 fun r3 hr3 => ⟨r3, rfl, fun _ => b_200_1 (s_197 hs h g.1 g.2 fun r4 M1 h1 f1 hr4 => ⟨r4, rfl, fun q4 => ?_, fun _ => s_196 hs hb nb.2.2.2 f1 h1 g.1 g.2 fun M2 h2 _ _ => ⟨_, rfl, b_200_3 ⟨rfl, h2⟩⟩⟩), fun q => absurd (by omega) q⟩))⟩⟩
      rcases hr4 with z | z
      · omega
      · exact absurd nb z.1
  · exact ref_ok h (fun Q hQ => m_110 (b_110_0 (s_125 fun r hr => ⟨r, rfl, fun q => absurd (by omega) g, fun _ => hQ⟩))) (fun Q hQ => m_200 (b_200_0 (s_142 fun r hr => ⟨r, rfl, fun q => absurd (by omega) g, fun _ => hQ⟩)))
end

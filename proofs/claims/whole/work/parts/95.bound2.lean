/-! bound: the call -/
section
variable {sx : Int → Int} {L : Nat} {M M1 P : Mem} {Q : Option AV → Mem → Prop} {SR : (Mem → Prop) × (Mem → Prop)}
theorem s_197r {t : Int} (hs : SROK SR) (h : INVM SR M) (t0 : 0 ≤ t) (t1 : t < 8) (hd : bdP M t) (hQ : ∀ M', INVM SR M' → BFr M M' → RDok M' → Q (some (vI 1)) M') : Mq sx L K0 R0 197 [vR 106, vI t] M Q := by
  refine m_197 (b_197_0 ⟨fun q => absurd hd.1 q, fun q => ⟨fun q2 => absurd hd.2.1 q2, fun q2 => ⟨fun q3 => absurd hd.2.2.1 q3, fun q3 => s_154 (I := INVM SR) (fun M h => h.1.1) (fun Q hQ => s_150i hs h hQ) fun M1 h1 _ r1 f1 => ⟨_, rfl, ⟨areB_B.1, t0, by omega⟩, fun q4 => ?_, fun q4 => b_197_2 ⟨Or.inr rfl, hQ M1 h1 f1.bf r1⟩⟩⟩⟩⟩)
  rw [bt_1 areB_B] at q4
  exact absurd hd.2.2.2 q4
theorem s_198 {t : Int} (hs : SROK SR) (hb : BASE M) (at' : tb (areB M) t = true) (bf : BFr M M1) (h : INVM SR M1) (rd : RDok M1) (t0 : 0 ≤ t) (t1 : t < 8) (hQ : ∀ M', INVM SR M' → Q (some (vI (bdF (ownF M t) (waF M t) 401 (ownF M t)))) M') : Mq sx L K0 R0 198 [vR 106, vI t] M1 Q := by
  have am := am_B hb t0 t1 at'
  have hm := hm_B (t := t) (b := hkF M t 8) hb 8 (by omega)
  have ow : 0 ≤ ownF M t ∧ ownF M t ≤ 400 := by unfold ownF; omega
  have w := wa_B (t := t) hb ow.1 ow.2
  refine m_198 (b_198_0 (s_151w hb bf rd t0 t1 at' ⟨_, rfl, s_196 hs hb at' bf h t0 t1 fun M2 h2 b2 r2 => ⟨_, rfl, ?_⟩⟩))
  have e : M (plA t) 10 + hmF M t (hkF M t 8) 8 = ownF M t := rfl
  rw [e]
  refine ⟨⟨by omega, by omega⟩, s_154 (I := INVM SR) (fun M h => h.1.1) (fun Q hQ => s_150i hs h2 hQ) fun M3 h3 _ r3 f3 => ⟨_, rfl, ?_⟩⟩
  rw [b2.are]
  exact s_198l hb (b2.tr f3.bf) r3 t0 t1 ow 401 _ _ vU rfl (by omega) ow.1 (by omega) (by omega) (hQ M3 h3)
theorem op_16 (hs : SROK SR) (a : Int) : OpOk sx L (INVM SR) 109 199 [vI a] := by
  intro M h
  have hb := h.1.1
  by_cases g : 0 ≤ a ∧ a < 8
  · refine m_109 (b_109_0 (s_125 fun r hr => ⟨r, rfl, fun _ => b_109_1 (s_30 hb g.1 g.2 fun r2 hr2 => ⟨r2, rfl, fun q => b_109_2 (b_109_3 ⟨_, rfl, ?_⟩), fun q => ?_⟩), fun q => absurd (by omega) q⟩))
    · have nb : ¬ bdP M a := by
        rcases hr2 with z | z
        · omega
        · exact z.1
      refine m_199 (b_199_0 (s_142 fun r3 hr3 => ⟨r3, rfl, fun _ => b_199_1 (s_197 hs h g.1 g.2 fun r4 M1 h1 _ hr4 => ⟨r4, rfl, fun _ => b_199_2 (b_199_3 ⟨rfl, h1⟩), fun q4 => ?_⟩), fun q => absurd (by omega) q⟩))
      rcases hr4 with z | z
      · exact absurd z.1 nb
      · omega
    · have nb : bdP M a := by
        rcases hr2 with z | z
        · exact z.1
        · omega
      exact s_33 hb g.1 g.2 nb.2.2.2 ⟨_, rfl, b_109_3 ⟨_, rfl, m_199 (b_199_0 (s_142 fun r3 hr3 => ⟨r3, rfl, fun _ => b_199_1 (s_197r hs h g.1 g.2 nb fun M1 h1 f1 rd => ⟨1, rfl, fun q4 => absurd q4 (by omega), fun _ => s_198 hs hb nb.2.2.2 f1 h1 rd g.1 g.2 fun M2 h2 => ⟨_, rfl, b_199_3 ⟨rfl, h2⟩⟩⟩), fun q => absurd (by omega) q⟩))⟩⟩
  · exact ref_ok h (fun Q hQ => m_109 (b_109_0 (s_125 fun r hr => ⟨r, rfl, fun q => absurd (by omega) g, fun _ => hQ⟩))) (fun Q hQ => m_199 (b_199_0 (s_142 fun r hr => ⟨r, rfl, fun q => absurd (by omega) g, fun _ => hQ⟩)))
end

/-! slack: the call -/
section
variable {sx : Int → Int} {L : Nat} {M N : Mem} {Q : Option AV → Mem → Prop} {SR : (Mem → Prop) × (Mem → Prop)}
theorem bx_112_0 {x1 x2 : Int} (hx : ¬ (0 ≤ x1 ∧ x1 < 8)) (h : Q (some (vI (-2))) M) : Rn sx L K0 R0 112 0 [vR 2, vI x1, vI x2] [] M Q := by
  refine Rn_w (by decide) ?_
  show wpc sx L K0 R0 112 [(0, 1, .iload_n 1, []), (1, 3, .invokestatic 87, [125, 668, 1]), (4, 3, .ifCond .eq 17, [1]), (7, 1, .aload_n 0, []), (8, 3, .getfield 18, [8, 1, 567]), (11, 1, .iload_n 1, []), (12, 1, .aaload, []), (13, 1, .iload_n 2, []), (14, 3, .invokevirtual 229, [25, 998, 1]), (17, 1, .iconst 1, []), (18, 3, .if_icmp .eq 6, [2])] 1 [vR 2, vI x1, vI x2] [] M Q
  simp only [w_il_1, w_ivs_1 (c2I _) cs0, rk_125, rvk2, List.cons_append, List.nil_append, w_if_eq]
  exact s_125 fun r hr => ⟨r, rfl, fun _ => b_112_1 h, fun q => absurd (by omega) q⟩
abbrev wkP (M : Mem) (a b : Int) : Prop := 0 ≤ b ∧ b < M (plA a) 9 ∧ M (plA a + 2) b = 1
theorem s_25w {a b : Int} (hb : BASE M) (a0 : 0 ≤ a) (a1 : a < 8) (hQ : ∀ r, (wkP M a b ∧ r = 1 ∨ ¬ wkP M a b ∧ ¬ r = 1) → Q (some (vI r)) M) : Mq sx L K0 R0 25 [vR (plA a + 2), vI b] M Q := by
  have hl := isPl_A a0 a1
  have bt := hb.2.1 a a0 a1
  have k17 := stN_le bt
  have s1 := bt.2.2.2.2.2.2.2.2.1
  refine m_25 (b_25_0 hl ⟨fun q => b_25_1 hl (b_25_2 hl (hQ _ (Or.inr ⟨fun w => by have := w.1; omega, by omega⟩))), fun q => ⟨fun q2 => b_25_1 hl (b_25_2 hl (hQ _ (Or.inr ⟨fun w => by have := w.2.1; omega, by omega⟩))), fun q2 => ⟨fun q3 => absurd q3 (by omega), fun _ => ⟨⟨by omega, by omega⟩, b_25_2 hl (hQ _ ?_)⟩⟩⟩⟩)
  by_cases w : M (plA a + 2) b = 1
  · exact Or.inl ⟨⟨by omega, by omega, w⟩, w⟩
  · exact Or.inr ⟨fun v => w v.2.2, w⟩
theorem op_19 (hs : SROK SR) (a b : Int) : OpOk sx L (INVM SR) 112 205 [vI a, vI b] := by
  intro M h
  have hb := h.1.1
  by_cases g : 0 ≤ a ∧ a < 8
  · -- the reference's way to the step
    have bt := hb.2.1 a g.1 g.2
    have k17 := stN_le bt
    have s1 := bt.2.2.2.2.2.2.2.2.1
    have ref : ∀ (M0 : Mem), TrF M M0 → ∀ Q : Option AV → Mem → Prop, (¬ wkP M a b → ∀ M1, INVM SR M1 → Q (some (vI (-2))) M1) → (wkP M a b → ∀ M1, INVM SR M1 → BFr M M1 → Rn sx L K0 R0 205 4 [vR 106, vI a, vI b] [] M1 Q) → Mq sx L K0 R0 205 [vR 106, vI a, vI b] M0 Q := by
      intro M0 f0 Q q1 q2
      have h0 := h.tri hs f0
      refine m_205 (b_205_0 (s_142 fun r hr => ⟨r, rfl, fun q => absurd q (by omega), fun _ => ⟨fun b0 => b_205_2 (s_150i hs h0 fun M1 h1 _ r1 f1 => ⟨rfl, g, ?_⟩), fun nb => b_205_1 (q1 (fun w => nb w.1) M0 h0)⟩⟩))
      have bf : BFr M M1 := f0.bf.tr f1.bf
      have rs := rsT hb bf r1 g.1 g.2
      have e117 : PTm M 117 a = M (plA a) 9 := rfl
      have e1 := rs.1
      refine ⟨fun q => b_205_3 (q1 (fun w => by have := w.2.1; omega) M1 h1), fun q => ⟨⟨by omega, by omega⟩, ⟨by omega, by omega⟩, ⟨by omega, by omega⟩, ?_⟩⟩
      have e2 := (rs.2 b b0 (by omega)).1
      have x1 : (20 * a + b) / 20 = a := by omega
      have x2 : (20 * a + b) % 20 = b := by omega
      have y1 : PTm M 118 (20 * a + b) = M (plA ((20 * a + b) / 20) + 2) ((20 * a + b) % 20) - 1 := rfl
      rw [x1, x2] at y1
      rw [e2, y1]
      exact ⟨fun w => q2 ⟨b0, by omega, by omega⟩ M1 h1 bf, fun w => b_205_3 (q1 (fun v => by have := v.2.2; omega) M1 h1)⟩
    refine m_112 (b_112_0 g (s_125 fun r hr => ⟨r, rfl, fun q => absurd q (by omega), fun _ => s_25w hb g.1 g.2 fun r2 hr2 => ⟨r2, rfl, fun q => ?_, fun q => b_112_1 ⟨_, rfl, ref M (fun _ _ _ => rfl) _ (fun _ M1 h1 => ⟨rfl, h1⟩) fun w => ?_⟩⟩⟩))
    · have wk : wkP M a b := by
        rcases hr2 with z | z
        · exact z.1
        · exact absurd q z.2
      refine b_112_2 (s_78 hb g.1 g.2 fun r3 hr3 => ⟨r3, rfl, fun q3 => b_112_3 (b_112_4 ⟨_, rfl, ref M (fun _ _ _ => rfl) _ (fun w => absurd wk w) fun _ M1 h1 bf => b_205_4 ?_⟩), fun q3 => s_62 hb fun r4 M4 f4 hr4 => ⟨_, rfl, b_112_4 ⟨_, rfl, ref M4 f4 _ (fun w => absurd wk w) fun _ M1 h1 bf => b_205_4 ?_⟩⟩⟩)
      · refine s_154 (I := INVM SR) (fun M h => h.1.1) (fun Q hQ => s_150i hs h1 hQ) fun M2 h2 _ _ f2 => ⟨_, rfl, ⟨areB_B.1, g.1, by omega⟩, fun w => ?_, fun _ => ⟨rfl, h2⟩⟩
        rw [bf.are, bt_ne areB_B] at w
        rcases hr3 with z | z
        · omega
        · exact absurd z.1 w
      · refine s_154 (I := INVM SR) (fun M h => h.1.1) (fun Q hQ => s_150i hs h1 hQ) fun M2 h2 _ _ f2 => ⟨_, rfl, ⟨areB_B.1, g.1, by omega⟩, fun _ => b_205_5 ?_, fun w => ?_⟩
        · refine s_159 (I := INVM SR) (fun M h => h.1.1) (fun Q hQ => s_150i hs h2 hQ) fun M5 M6 h5 e5 r5 f5 g6 a6 => ⟨rfl, ?_⟩
          have b6 : BFr M M6 := ((bf.tr f2.bf).tr f5.bf).tr fun c k q => g6 c k (by unfold baseC at q; omega) (by unfold baseC at q; omega)
          have fa : FrA M5 M6 := fun c k p q => g6 c k (by omega) (by omega)
          have i6 : INV0 SR M6 := h5.1.fa hs fa (g6 _ _ (by omega) (by omega)) fun c k q => g6 c k (by omega) (by omega)
          have F : ∀ c k, ¬ (c = 104 ∧ 30 ≤ k ∧ k ≤ 32) → mset (mset (mset M6 104 30 a) 104 31 b) 104 32 0 c k = M6 c k := fun c k q => by rw [ms_ne (by omega), ms_ne (by omega), ms_ne (by omega)]
          have b7 : BFr M6 (mset (mset (mset M6 104 30 a) 104 31 b) 104 32 0) := fun c k q => F c k (by unfold baseC at q; omega)
          have r6 : RDok M6 := r5.fr fa.bf fun c k q => g6 c k (by omega) (by omega)
          obtain ⟨t1, t2, t3, t4, t5⟩ := a6
          have i7 : INV0 SR (mset (mset (mset M6 104 30 a) 104 31 b) 104 32 0) := by
            obtain ⟨y1, y2, y3, y4, y5, y6, y7⟩ := i6
            refine ⟨y1.fr b7, ?_, by rw [ms_eq]; omega, y4.fr b7 fun c i q => F c i (by omega), hs.1 _ _ y5 b7 fun c i q => F c i (by omega), hs.2.2 _ _ y6 fun c i q => F c i (by omega), FND.fr y7 (F _ _ (by omega)) (F _ _ (by omega))⟩
            unfold RDI
            rw [F 104 10 (by omega)]
            exact y2.imp id fun w => ⟨w.1, w.2.fr b7 fun c i q => F c i (by omega)⟩
          refine s_205 hs hb (fun k N k0 k1 nl lk i0 n26 => ⟨?_, ?_⟩) _ ⟨b6.tr b7, r6.fr b7 fun c k q => F c k (by omega), by rw [F _ _ (by omega), g6 _ _ (by omega) (by omega)]; exact e5, by rw [F _ _ (by omega), b7.are]; exact t1, fun t x y => by rw [F _ _ (by omega), F _ _ (by omega), F _ _ (by omega)]; exact t2 t x y, by rw [ms_k (by omega), ms_k (by omega), ms_eq], by rw [ms_k (by omega), ms_eq], by rw [F _ _ (by omega), F _ _ (by omega)]; exact t4, by rw [F _ _ (by omega), F _ _ (by omega)]; exact t5, ms_eq⟩ i7
          · have : k - 1 = r4 := by
              rcases hr4 with ⟨k', c0, c1, c2, c3, c4⟩ | ⟨c1, c2⟩
              · by_cases x : k' < k
                · exact absurd c3 (nl k' c0 x)
                · by_cases y : k < k'
                  · rcases lk with z | z
                    · omega
                    · exact absurd z (c2 k k0 y)
                  · omega
              · rcases lk with z | z
                · omega
                · by_cases y : k ≤ 20
                  · exact absurd z (c1 k k0 y)
                  · omega
            rw [this]
          · exact ⟨i0.fa hs (fun c i p q => ms_ne (by omega)) (ms_k (by omega)) fun c i q => ms_c (by omega), Or.inl (by rw [ms_k (by omega)]; exact n26)⟩
        · have w' := Decidable.not_not.mp w
          rw [bf.are, bt_ne areB_B] at w'
          rcases hr3 with z | z
          · rw [z.1] at w'; exact absurd w' (by decide)
          · omega
    · rcases hr2 with z | z
      · exact absurd z.2 q
      · exact absurd w z.1
  · exact ref_ok h (fun Q hQ => m_112 (bx_112_0 g hQ)) (fun Q hQ => m_205 (b_205_0 (s_142 fun r hr => ⟨r, rfl, fun _ => b_205_1 hQ, fun q => absurd (by omega) g⟩)))
end

/-! rule, drop, broken -/
section
variable {sx : Int → Int} {L : Nat} {M M' : Mem} {Q : Option AV → Mem → Prop} {SR : (Mem → Prop) × (Mem → Prop)}
theorem BASE.dB (hb : BASE M) : inB (M 0 8) := by
  obtain ⟨d1, d2, d3⟩ := hb.2.2.2.1
  exact ⟨by omega, by omega⟩
theorem s_158 {a b : Int} (ha : 0 ≤ a ∧ a ≤ 3) (hb : (a ≤ 1 → 0 ≤ b ∧ b ≤ 2) ∧ (a = 2 → 1 ≤ b ∧ b ≤ 3) ∧ (a = 3 → 1 ≤ b ∧ b ≤ 120)) (hQ : ∀ M', M' 104 (22 + a) = b → M' 104 26 = 0 → (∀ c k, ¬ (c = 104 ∧ k = 22 + a) → ¬ (c = 104 ∧ k = 26) → M' c k = M c k) → Q (some (vI (M 104 (22 + a)))) M') : Mq sx L K0 R0 158 [vR 106, vI a, vI b] M Q := by
  have fin : ∀ y1 y2 y3 y4, (a = 0 ∧ y1 = b ∨ ¬ a = 0 ∧ y1 = M 104 22) → (a = 1 ∧ y2 = b ∨ ¬ a = 1 ∧ y2 = M 104 23) → (a = 2 ∧ y3 = b ∨ ¬ a = 2 ∧ y3 = M 104 24) → (a = 3 ∧ y4 = b ∨ ¬ a = 3 ∧ y4 = M 104 25) → Q (some (vI (M 104 (22 + a)))) (mset (mset (mset (mset (mset M 104 22 y1) 104 23 y2) 104 24 y3) 104 25 y4) 104 26 0) := by
    intro y1 y2 y3 y4 c1 c2 c3 c4
    have e22 : mset (mset (mset (mset (mset M 104 22 y1) 104 23 y2) 104 24 y3) 104 25 y4) 104 26 0 104 22 = y1 := by rw [ms_k (by omega), ms_k (by omega), ms_k (by omega), ms_k (by omega), ms_eq]
    have e23 : mset (mset (mset (mset (mset M 104 22 y1) 104 23 y2) 104 24 y3) 104 25 y4) 104 26 0 104 23 = y2 := by rw [ms_k (by omega), ms_k (by omega), ms_k (by omega), ms_eq]
    have e24 : mset (mset (mset (mset (mset M 104 22 y1) 104 23 y2) 104 24 y3) 104 25 y4) 104 26 0 104 24 = y3 := by rw [ms_k (by omega), ms_k (by omega), ms_eq]
    have e25 : mset (mset (mset (mset (mset M 104 22 y1) 104 23 y2) 104 24 y3) 104 25 y4) 104 26 0 104 25 = y4 := by rw [ms_k (by omega), ms_eq]
    have eo : ∀ c k, ¬ (c = 104 ∧ 22 ≤ k ∧ k ≤ 26) → mset (mset (mset (mset (mset M 104 22 y1) 104 23 y2) 104 24 y3) 104 25 y4) 104 26 0 c k = M c k := fun c k q => by rw [ms_ne (by omega), ms_ne (by omega), ms_ne (by omega), ms_ne (by omega), ms_ne (by omega)]
    refine hQ _ ?_ ms_eq fun c k p q => ?_
    · have : a = 0 ∨ a = 1 ∨ a = 2 ∨ a = 3 := by omega
      rcases this with rfl | rfl | rfl | rfl
      · exact e22.trans (by omega)
      · exact e23.trans (by omega)
      · exact e24.trans (by omega)
      · exact e25.trans (by omega)
    · by_cases w : c = 104 ∧ 22 ≤ k ∧ k ≤ 25
      · obtain ⟨rfl, w1, w2⟩ := w
        have : k = 22 ∨ k = 23 ∨ k = 24 ∨ k = 25 := by omega
        rcases this with rfl | rfl | rfl | rfl
        · exact e22.trans (by omega)
        · exact e23.trans (by omega)
        · exact e24.trans (by omega)
        · exact e25.trans (by omega)
      · exact eo c k (by omega)
  have st10 : ∀ y0, y0 = M 104 (22 + a) → Rn sx L K0 R0 158 10 [vR 106, vI a, vI b, vI 1, vU] [vI y0] M Q := by
    intro y0 e0
    rw [← e0] at fin
    have st18 : ∀ y1 y2 y3, (a = 0 ∧ y1 = b ∨ ¬ a = 0 ∧ y1 = M 104 22) → (a = 1 ∧ y2 = b ∨ ¬ a = 1 ∧ y2 = M 104 23) → (a = 2 ∧ y3 = b ∨ ¬ a = 2 ∧ y3 = M 104 24) → Rn sx L K0 R0 158 16 [vR 106, vI a, vI b, vI 1, vI y0] [vI y3, vR 106] (mset (mset M 104 22 y1) 104 23 y2) Q := fun y1 y2 y3 c1 c2 c3 =>
      b_158_16 ⟨fun q => b_158_17 (b_158_18 (fin y1 y2 y3 _ c1 c2 c3 (Or.inr ⟨q, by rw [ms_k (by omega), ms_k (by omega), ms_k (by omega)]⟩))), fun q => b_158_18 (fin y1 y2 y3 _ c1 c2 c3 (Or.inl ⟨by omega, rfl⟩))⟩
    have st16 : ∀ y1 y2, (a = 0 ∧ y1 = b ∨ ¬ a = 0 ∧ y1 = M 104 22) → (a = 1 ∧ y2 = b ∨ ¬ a = 1 ∧ y2 = M 104 23) → Rn sx L K0 R0 158 14 [vR 106, vI a, vI b, vI 1, vI y0] [vI y2, vR 106] (mset M 104 22 y1) Q := fun y1 y2 c1 c2 =>
      b_158_14 ⟨fun q => b_158_15 (st18 y1 y2 _ c1 c2 (Or.inr ⟨q, by rw [ms_k (by omega), ms_k (by omega)]⟩)), fun q => st18 y1 y2 _ c1 c2 (Or.inl ⟨by omega, rfl⟩)⟩
    have st14 : ∀ y1, (a = 0 ∧ y1 = b ∨ ¬ a = 0 ∧ y1 = M 104 22) → Rn sx L K0 R0 158 12 [vR 106, vI a, vI b, vI 1, vI y0] [vI y1, vR 106] M Q := fun y1 c1 =>
      b_158_12 ⟨fun q => b_158_13 (st16 y1 _ c1 (Or.inr ⟨q, by rw [ms_k (by omega)]⟩)), fun q => st16 y1 _ c1 (Or.inl ⟨by omega, rfl⟩)⟩
    exact b_158_10 ⟨fun q => b_158_11 (st14 _ (Or.inr ⟨q, rfl⟩)), fun q => st14 _ (Or.inl ⟨by omega, rfl⟩)⟩
  have st6 : Rn sx L K0 R0 158 6 [vR 106, vI a, vI b, vI 1, vU] [] M Q :=
    b_158_6 ⟨fun q => b_158_7 ⟨fun q2 => b_158_8 ⟨fun q3 => b_158_9 (st10 _ (by rw [show (22 : Int) + a = 25 by omega])), fun q3 => st10 _ (by rw [show (22 : Int) + a = 24 by omega])⟩, fun q2 => st10 _ (by rw [show (22 : Int) + a = 23 by omega])⟩, fun q => st10 _ (by rw [show (22 : Int) + a = 22 by omega])⟩
  have st5 : ∀ r, r = 1 → Rn sx L K0 R0 158 5 [vR 106, vI a, vI b, vU, vU] [vI r] M Q := fun r e => by
    subst e
    exact b_158_5 ⟨fun _ => st6, fun q => absurd (by omega) q⟩
  exact m_158 (b_158_0 ⟨fun q => b_158_1 (s_137 fun r hr => ⟨r, rfl, st5 r (by omega)⟩), fun q => ⟨fun q2 => b_158_2 ⟨fun q3 => b_158_3 ⟨fun q4 => absurd (by omega) q4, fun _ => s_137 fun r hr => ⟨r, rfl, fun q => absurd q (by omega), fun _ => st5 1 rfl⟩⟩, fun q3 => s_137 fun r hr => ⟨r, rfl, st5 r (by omega)⟩⟩, fun q2 => b_158_1 (s_137 fun r hr => ⟨r, rfl, st5 r (by omega)⟩)⟩⟩)
theorem s_158x {a b : Int} (g : ¬ ((0 ≤ a ∧ a ≤ 3) ∧ (a ≤ 1 → 0 ≤ b ∧ b ≤ 2) ∧ (a = 2 → 1 ≤ b ∧ b ≤ 3) ∧ (a = 3 → 1 ≤ b ∧ b ≤ 120))) (hQ : Q (some (vI (-2))) M) : Mq sx L K0 R0 158 [vR 106, vI a, vI b] M Q := by
  have st5 : ∀ r, r = 0 → Rn sx L K0 R0 158 5 [vR 106, vI a, vI b, vU, vU] [vI r] M Q := fun r e => by
    subst e
    exact b_158_5 ⟨fun q => absurd rfl q, fun _ => hQ⟩
  exact m_158 (b_158_0 ⟨fun q => b_158_1 (s_137 fun r hr => ⟨r, rfl, st5 r (by omega)⟩), fun q => ⟨fun q2 => b_158_2 ⟨fun q3 => b_158_3 ⟨fun q4 => b_158_4 (st5 0 rfl), fun _ => s_137 fun r hr => ⟨r, rfl, fun q => b_158_4 (st5 0 rfl), fun q => absurd (by omega) q⟩⟩, fun q3 => s_137 fun r hr => ⟨r, rfl, st5 r (by omega)⟩⟩, fun q2 => b_158_1 (s_137 fun r hr => ⟨r, rfl, st5 r (by omega)⟩)⟩⟩)
theorem s_129 {a : Int} (hQ : ∀ r, (1 < a ∧ r = 1 ∨ ¬ 1 < a ∧ r = 0) → Q (some (vI r)) M) : Mq sx L K0 R0 129 [vI a] M Q :=
  m_129 (b_129_0 ⟨fun q => b_129_1 (b_129_2 (hQ _ (by omega))), fun q => b_129_2 (hQ _ (by omega))⟩)
theorem s_130 {a : Int} (hQ : ∀ r, (a ≤ 1 ∧ r = 2 ∨ a = 2 ∧ r = 3 ∨ 2 < a ∧ r = 120) → Q (some (vI r)) M) : Mq sx L K0 R0 130 [vI a] M Q :=
  m_130 (b_130_0 ⟨fun q => b_130_1 ⟨fun q2 => b_130_2 (b_130_3 (hQ _ (by omega))), fun q2 => b_130_3 (hQ _ (by omega))⟩, fun q => hQ _ (by omega)⟩)
theorem op_9r (hs : SROK SR) (a b : Int) : OpOk sx L (INVM SR) 102 158 [vI a, vI b] := by
  intro M h
  have hb := h.1.1
  by_cases g : (0 ≤ a ∧ a ≤ 3) ∧ (a ≤ 1 → 0 ≤ b ∧ b ≤ 2) ∧ (a = 2 → 1 ≤ b ∧ b ≤ 3) ∧ (a = 3 → 1 ≤ b ∧ b ≤ 120)
  · have e8 : mset M 6 (4 + a) b 0 8 = M 0 8 := ms_c (by omega)
    have st : Mq sx L K0 R0 134 [vR 2] (mset M 6 (4 + a) b) (fun rv M3 => rv = none ∧ (∃ r, some (vI (M 6 (4 + a))) = some (vI r) ∧ Mq sx L K0 R0 158 [vR 106, vI a, vI b] M3 (fun rv2 M2 => rv2 = some (vI r) ∧ INVM SR M2))) := by
      refine s_134 (by rw [e8]; exact hb.dB) fun M1 h60 h7 z3 z6 z10 z13 f1 => ⟨rfl, _, rfl, s_158 g.1 g.2 fun M2 k1 h26 f2 => ?_⟩
      have F1 : ∀ x k, ¬ (x = 6 ∧ (k = 0 ∨ k = 4 + a)) → ¬ (x = 0 ∧ k = 7) → ¬ x = 74 → M1 x k = M x k := fun x k q r s => by rw [f1 x k (by omega) r s, ms_ne (by omega)]
      have F : ∀ x k, ¬ (x = 6 ∧ (k = 0 ∨ k = 4 + a)) → ¬ (x = 0 ∧ k = 7) → ¬ x = 74 → ¬ (x = 104 ∧ (k = 22 + a ∨ k = 26)) → M2 x k = M x k := fun x k q r s t => by rw [f2 x k (by omega) (by omega), F1 x k q r s]
      rw [cls_are hb (fun t t0 t1 => by have := pl_rg t0 t1; exact ms_c (by omega)) e8] at h60
      have old : M1 104 (22 + a) = M 6 (4 + a) := by
        obtain ⟨e1, e2, e3, e4, e5, e6, e7, e8, e9, e10, e11, e12, e13⟩ := hb.2.2.2.2.1
        rw [F1 _ _ (by omega) (by omega) (by omega)]
        have : a = 0 ∨ a = 1 ∨ a = 2 ∨ a = 3 := by omega
        rcases this with rfl | rfl | rfl | rfl
        · exact e3.symm
        · exact e6.symm
        · exact e9.symm
        · exact e12.symm
      refine ⟨by rw [old], ?_⟩
      have k2 : M2 6 (4 + a) = b := by rw [f2 _ _ (by omega) (by omega), f1 _ _ (by omega) (by omega) (by omega), ms_eq]
      obtain ⟨b1, b2, b3, b4, b5, b6⟩ := hb
      refine mut_ok hs h (fun c k p q r s => F c k (by unfold baseC at p; omega) q r (by unfold baseC at p; omega)) ⟨b1.fr fun c k q => F c k (by omega) (by omega) (by omega) (by omega), fun t t0 t1 => ((b2 t t0 t1).fr fun c k q => ?_).1, fun t t0 t1 => (b3 t t0 t1).fr fun c q => F c t (by omega) (by omega) (by omega) (by omega), ?_, ?_, ?_⟩ ?_ ?_ ?_ ?_ ?_ h26 (Or.inr fun c k q => F c k (by omega) (by omega) (by omega) (by omega))
      · have := pl_rg t0 t1
        exact F c k (by omega) (by omega) (by omega) (by omega)
      · rw [F 104 9 (by omega) (by omega) (by omega) (by omega), F 0 8 (by omega) (by omega) (by omega) (by omega)]
        exact b4
      · obtain ⟨e1, e2, e3, e4, e5, e6, e7, e8, e9, e10, e11, e12, e13⟩ := b5
        have x13 : M2 6 8 = -1 := by rw [F 6 8 (by omega) (by omega) (by omega) (by omega)]; exact e13
        have same : ∀ j : Int, 0 ≤ j → j ≤ 3 → ¬ j = a → M2 104 (22 + j) = M 104 (22 + j) ∧ M2 6 (4 + j) = M 6 (4 + j) := fun j j0 j1 jn => ⟨F _ _ (by omega) (by omega) (by omega) (by omega), F _ _ (by omega) (by omega) (by omega) (by omega)⟩
        have j0 := same 0 (by omega) (by omega)
        have j1 := same 1 (by omega) (by omega)
        have j2 := same 2 (by omega) (by omega)
        have j3 := same 3 (by omega) (by omega)
        simp only [Int.add_zero, show (22 : Int) + 1 = 23 from rfl, show (22 : Int) + 2 = 24 from rfl, show (22 : Int) + 3 = 25 from rfl, show (4 : Int) + 1 = 5 from rfl, show (4 : Int) + 2 = 6 from rfl, show (4 : Int) + 3 = 7 from rfl] at j0 j1 j2 j3
        have : a = 0 ∨ a = 1 ∨ a = 2 ∨ a = 3 := by omega
        unfold BRul
        rcases this with rfl | rfl | rfl | rfl
        · rw [show (22 : Int) + 0 = 22 from rfl] at k1
          rw [show (4 : Int) + 0 = 4 from rfl] at k2
          omega
        · rw [show (22 : Int) + 1 = 23 from rfl] at k1
          rw [show (4 : Int) + 1 = 5 from rfl] at k2
          omega
        · rw [show (22 : Int) + 2 = 24 from rfl] at k1
          rw [show (4 : Int) + 2 = 6 from rfl] at k2
          omega
        · rw [show (22 : Int) + 3 = 25 from rfl] at k1
          rw [show (4 : Int) + 3 = 7 from rfl] at k2
          omega
      · rw [f2 _ _ (by omega) (by omega), h60, are_fr (M := M) (M' := M2) fun c k q => F c k (by omega) (by omega) (by omega) (by omega)]
      · rw [f2 _ _ (by omega) (by omega)]; exact h7
      · rw [f2 _ _ (by omega) (by omega)]; exact z3
      · rw [f2 _ _ (by omega) (by omega)]; exact z6
      · rw [f2 _ _ (by omega) (by omega)]; exact z10
      · rw [f2 _ _ (by omega) (by omega)]; exact z13
    have h6 : isSt 6 := Or.inl rfl
    have st77 : ∀ r, r = M 6 (4 + a) → Mq sx L K0 R0 77 [vR 8, vI a, vI b] M (fun rv M2 => rv = none ∧ Mq sx L K0 R0 134 [vR 2] M2 (fun rv M3 => rv = none ∧ (∃ r', some (vI r) = some (vI r') ∧ Mq sx L K0 R0 158 [vR 106, vI a, vI b] M3 (fun rv2 M2 => rv2 = some (vI r') ∧ INVM SR M2)))) := by
      intro r e
      rw [e]
      refine m_77 (b_77_0 (c0 := 6) h6 ⟨fun q => b_77_4 h6 (b_77_5 h6 ⟨rfl, ?_⟩), fun q => b_77_1 h6 (b_77_5 h6 ⟨rfl, ?_⟩), fun q => b_77_2 h6 (b_77_5 h6 ⟨rfl, ?_⟩), fun q => b_77_3 h6 (b_77_5 h6 ⟨rfl, ?_⟩)⟩)
      · rw [show (7 : Int) = 4 + a by omega]; exact st
      · rw [show mset M 6 4 b = mset M 6 (4 + a) b by rw [q]; rfl]; exact st
      · rw [show mset M 6 5 b = mset M 6 (4 + a) b by rw [q]; rfl]; exact st
      · rw [show mset M 6 6 b = mset M 6 (4 + a) b by rw [q]; rfl]; exact st
    exact m_102 (b_102_0 ⟨fun q => absurd q (by omega), fun _ => ⟨fun q => absurd q (by omega), fun _ => s_129 fun r hr => ⟨r, rfl, fun q => absurd q (by omega), fun _ => s_130 fun r2 hr2 => ⟨r2, rfl, fun _ => b_102_2 (m_76 (b_76_0 (c0 := 6) h6 ⟨fun q => b_76_4 h6 ⟨_, rfl, st77 _ (by rw [show (4 : Int) + a = 7 by omega])⟩, fun q => b_76_1 h6 ⟨_, rfl, st77 _ (by rw [show (4 : Int) + a = 4 by omega])⟩, fun q => b_76_2 h6 ⟨_, rfl, st77 _ (by rw [show (4 : Int) + a = 5 by omega])⟩, fun q => b_76_3 h6 ⟨_, rfl, st77 _ (by rw [show (4 : Int) + a = 6 by omega])⟩⟩)), fun q => absurd (by omega) q⟩⟩⟩⟩)
  · refine ref_ok h (fun Q hQ => m_102 (b_102_0 ⟨fun q => b_102_1 hQ, fun _ => ⟨fun q => b_102_1 hQ, fun _ => s_129 fun r hr => ⟨r, rfl, fun q => b_102_1 hQ, fun _ => s_130 fun r2 hr2 => ⟨r2, rfl, fun _ => absurd ⟨⟨by omega, by omega⟩, by omega, by omega, by omega⟩ g, fun _ => b_102_1 hQ⟩⟩⟩⟩)) (fun Q hQ => s_158x g hQ)
end

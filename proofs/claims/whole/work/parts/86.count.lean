/-! count, digest -/
section
variable {sx : Int → Int} {L : Nat} {M M' : Mem} {Q : Option AV → Mem → Prop} {SR : (Mem → Prop) × (Mem → Prop)}
def cnF (M : Mem) (a : Int) : Int := if a = 0 then M 104 0 else if a = 1 then areB M else if a = 2 then sumI 8 (fun t => M 109 t) else if a = 3 then M 104 9 else if a = 4 then M 104 22 else if a = 5 then M 104 23 else if a = 6 then M 104 24 else if a = 7 then M 104 25 else if a = 8 then M 104 64 else -2
theorem cn0 : cnF M 0 = M 104 0 := rfl
theorem cn1 : cnF M 1 = areB M := rfl
theorem cn2 : cnF M 2 = sumI 8 (fun t => M 109 t) := rfl
theorem cnF3 : cnF M 3 = M 104 9 := rfl
theorem cn4 : cnF M 4 = M 104 22 := rfl
theorem cn5 : cnF M 5 = M 104 23 := rfl
theorem cn6 : cnF M 6 = M 104 24 := rfl
theorem cn7 : cnF M 7 = M 104 25 := rfl
theorem cn8 : cnF M 8 = M 104 64 := rfl
theorem cnx {a : Int} (g : ¬ (0 ≤ a ∧ a ≤ 8)) : cnF M a = -2 := by
  unfold cnF
  rw [if_neg (by omega), if_neg (by omega), if_neg (by omega), if_neg (by omega), if_neg (by omega), if_neg (by omega), if_neg (by omega), if_neg (by omega), if_neg (by omega)]
theorem cn_bf (f : BFr M M') {a : Int} (h : ¬ a = 8) : cnF M' a = cnF M a := by
  unfold cnF
  rw [f.m (k := 0) (by omega), f.are, f.m (k := 9) (by omega), f.m (k := 22) (by omega), f.m (k := 23) (by omega), f.m (k := 24) (by omega), f.m (k := 25) (by omega), sumI_congr (g := fun t => M 109 t) fun t _ _ => f.a (c := 109) (by omega) t, if_neg h, if_neg h]
theorem s_133 (hb : BASE M) (hQ : Q (some (vI (sumI 8 fun t => M 109 t))) M) : Mq sx L K0 R0 133 [vR 2] M Q := by
  refine m_133 (b_133_0 (lpI (N := 8) (G := fun k => Rn sx L K0 R0 133 1 [vR 2, vI (sumI k.toNat fun t => M 109 t), vI k] [] M Q) (fun k k0 k1 ih => ?_) (bx_133_1 (by omega) (b_133_2 hQ)) 0 (by omega) (by omega)))
  rw [sumI_s k0] at ih
  have hs := sumI_0 (n := k.toNat) (f := fun t => M 109 t) (b := 60) (fun t a b => by have := hb.2.1 t a (by omega); exact ⟨this.1, this.2.1⟩)
  have b := hb.2.1 k k0 k1
  have b0 := b.1
  have b1 := b.2.1
  refine b_133_1 ⟨k0, k1⟩ ⟨fun q => absurd q (by omega), fun _ => ?_⟩
  rw [b.2.2.1.1]
  exact ⟨⟨by omega, by omega⟩, ⟨by omega, by omega⟩, ih⟩
theorem s_123 {a : Int} (hb : BASE M) (hf : FND M) (hQ : Q (some (vI (cnF M a))) M) : Mq sx L K0 R0 123 [vR 2, vI a] M Q := by
  obtain ⟨e1, e2, e3, e4, e5, e6, e7, e8, e9, e10, e11, e12, e13⟩ := hb.2.2.2.2.1
  have h6 : isSt 6 := Or.inl rfl
  have part : ∀ (v : Int), (0 ≤ v ∧ v ≤ 3) → a = v + 4 → Rn sx L K0 R0 123 5 [vR 2, vI a] [] M Q := by
    intro v hv ea
    refine b_123_5 ⟨⟨by omega, by omega⟩, m_76 (b_76_0 (c0 := 6) h6 ⟨fun q => b_76_4 h6 ⟨_, rfl, ?_⟩, fun q => b_76_1 h6 ⟨_, rfl, ?_⟩, fun q => b_76_2 h6 ⟨_, rfl, ?_⟩, fun q => b_76_3 h6 ⟨_, rfl, ?_⟩⟩)⟩
    · rw [show a = 7 by omega, cn7] at hQ; rw [e12]; exact hQ
    · rw [show a = 4 by omega, cn4] at hQ; rw [e3]; exact hQ
    · rw [show a = 5 by omega, cn5] at hQ; rw [e6]; exact hQ
    · rw [show a = 6 by omega, cn6] at hQ; rw [e9]; exact hQ
  refine m_123 (b_123_0 ⟨fun q => b_123_7 ?_, fun q => b_123_1 ?_, fun q => b_123_2 ?_, fun q => b_123_3 (s_133 hb ⟨_, rfl, ?_⟩), fun q => b_123_4 ?_, fun q => part 0 (by omega) (by omega), fun q => part 1 (by omega) (by omega), fun q => part 2 (by omega) (by omega), fun q => part 3 (by omega) (by omega), fun q => b_123_6 ?_⟩)
  · rw [cnx (by omega)] at hQ; exact hQ
  · rw [q, cn0] at hQ; rw [hb.1.2.2.1]; exact hQ
  · rw [q, cn1] at hQ; rw [hb.2.2.2.2.2]; exact hQ
  · rw [q, cn2] at hQ; exact hQ
  · rw [q, cnF3] at hQ; rw [hb.2.2.2.1.2.2]; exact hQ
  · rw [q, cn8] at hQ; rw [hf.2.2]; exact hQ
theorem s_224 {a : Int} (hs : SROK SR) (h : INVM SR M) (hQ : ∀ M', INVM SR M' → FrR M M' → Q (some (vI (cnF M a))) M') : Mq sx L K0 R0 224 [vR 106, vI a] M Q := by
  have hq := hQ M h fun _ _ _ _ => rfl
  have b := fun t t0 t1 => h.1.1.2.1 t t0 t1
  refine m_224 (b_224_0 ⟨fun q => b_224_10 ?_, fun q => b_224_1 ?_, fun q => b_224_2 (s_154 (I := INVM SR) (fun M h => h.1.1) (fun Q hQ => s_150i hs h hQ) fun M1 h1 _ _ f1 => ⟨_, rfl, ?_⟩), fun q => b_224_3 ?_, fun q => b_224_4 ?_, fun q => b_224_5 ?_, fun q => b_224_6 ?_, fun q => b_224_7 ?_, fun q => b_224_8 ?_, fun q => b_224_9 ?_⟩)
  · rw [cnx (by omega)] at hq; exact hq
  · rw [q, cn0] at hq; exact hq
  · have := hQ M1 h1 f1
    rw [q, cn1] at this; exact this
  · have b0 := b 0 (by omega) (by omega)
    have b1 := b 1 (by omega) (by omega)
    have b2 := b 2 (by omega) (by omega)
    have b3 := b 3 (by omega) (by omega)
    have b4 := b 4 (by omega) (by omega)
    have b5 := b 5 (by omega) (by omega)
    have b6 := b 6 (by omega) (by omega)
    have b7 := b 7 (by omega) (by omega)
    have x0 := b0.1
    have y0 := b0.2.1
    have x1 := b1.1
    have y1 := b1.2.1
    have x2 := b2.1
    have y2 := b2.2.1
    have x3 := b3.1
    have y3 := b3.2.1
    have x4 := b4.1
    have y4 := b4.2.1
    have x5 := b5.1
    have y5 := b5.2.1
    have x6 := b6.1
    have y6 := b6.2.1
    have x7 := b7.1
    have y7 := b7.2.1
    clear b0 b1 b2 b3 b4 b5 b6 b7
    refine ⟨by omega, by omega, ⟨by omega, by omega⟩, by omega, ⟨by omega, by omega⟩, by omega, ⟨by omega, by omega⟩, by omega, ⟨by omega, by omega⟩, by omega, ⟨by omega, by omega⟩, by omega, ⟨by omega, by omega⟩, by omega, ⟨by omega, by omega⟩, ?_⟩
    rw [q, cn2] at hq
    have e : (sumI 8 fun t => M 109 t) = M 109 0 + M 109 1 + M 109 2 + M 109 3 + M 109 4 + M 109 5 + M 109 6 + M 109 7 := by
      show 0 + M 109 0 + M 109 1 + M 109 2 + M 109 3 + M 109 4 + M 109 5 + M 109 6 + M 109 7 = _
      omega
    rw [e] at hq
    exact hq
  · rw [q, cnF3] at hq; exact hq
  · rw [q, cn4] at hq; exact hq
  · rw [q, cn5] at hq; exact hq
  · rw [q, cn6] at hq; exact hq
  · rw [q, cn7] at hq; exact hq
  · rw [q, cn8] at hq; exact hq
theorem op_30 (hs : SROK SR) (a : Int) : OpOk sx L (INVM SR) 123 224 [vI a] := by
  intro M h
  exact s_123 h.1.1 h.1.2.2.2.2.2.2 ⟨_, rfl, s_224 hs h fun M' h' _ => ⟨rfl, h'⟩⟩
end

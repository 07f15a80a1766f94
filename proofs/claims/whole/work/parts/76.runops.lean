/-! the calls that tell of a run -/
section
variable {sx : Int → Int} {L : Nat} {M : Mem} {Q : Option AV → Mem → Prop} {SR : (Mem → Prop) × (Mem → Prop)}
def Tv (M : Mem) (r : Int) (g : Mem → Mem → Int) : Prop := ∀ P s0, PDs P M 6 → IniS s0 → r = g P (rnF P s0 (M 104 25).toNat)
theorem Tv.fr {M' : Mem} {r : Int} {g : Mem → Mem → Int} (h : Tv M r g) (f : BFr M M') : Tv M' r g := fun P s0 hp hi => by
  rw [f.m (k := 25) (by omega)]
  exact h P s0 (hp.fr f.sy) hi
theorem told_c {g : Mem → Mem → Int} {mi : Nat} {av : List AV} (h : INVM SR M) (h7 : M 0 7 = 1)
    (row : ∀ P s, PV P → RI P s (M 104 25) → S3 s (M 104 25) → RFn P s M 52 (M 104 25) → P 104 24 = M 104 24 → (∀ t, 0 ≤ t → t < 8 → P 111 t = M 111 t) → Mq sx L K0 R0 mi av M (fun rv M' => rv = some (vI (g P s)) ∧ M' = M)) (hQ : ∀ r, Tv M r g → Q (some (vI r)) M) : Mq sx L K0 R0 mi av M Q := by
  have hb := h.1.1
  have ru := hb.2.2.2.2.1
  have hRF : ∀ P s0, PDs P M 6 → IniS s0 → RFn P (rnF P s0 (M 104 25).toNat) M 52 (M 104 25) := by
    rcases h.1.2.2.2.1 with w | w
    · omega
    · exact w.2
  have e10 := ru.2.2.2.2.2.2.2.2.2.1
  have e11 := ru.2.2.2.2.2.2.2.2.2.2.1
  have := Mq_all (sx := sx) (L := L) (M := M) (mi := mi) (av := av) (ι := {q : Mem × Mem // PDs q.1 M 6 ∧ IniS q.2}) (Qi := fun q rv M' => rv = some (vI (g q.1.1 (rnF q.1.1 q.1.2 (M 104 25).toNat))) ∧ M' = M) ⟨(PTm M, s00), PTm_ok hb, s00_ok⟩ (fun q => by
    obtain ⟨hp, hC, hs⟩ := q.2.1.ok hb
    have ri := rn_R hp q.2.2 (M 104 25).toNat (by omega)
    have s3 := rn_136 hp q.2.2 (M 104 25).toNat (by omega)
    rw [Int.toNat_of_nonneg (by omega)] at ri s3
    exact row q.1.1 _ hp ri s3 (hRF _ _ q.2.1 q.2.2) q.2.1.1.2.2.2.1 fun t a b => (q.2.1.1.2.2.2.2.2 t a b).2)
  refine Mq.mono this fun rv M' h => ?_
  have h1 := h ⟨(PTm M, s00), PTm_ok hb, s00_ok⟩
  rw [h1.2, h1.1]
  refine hQ _ fun P s0 hp hi => ?_
  have h2 := (h ⟨(P, s0), hp, hi⟩).1
  rw [h1.1] at h2
  have h3 := Option.some.inj h2
  exact Sum.inl.inj h3
theorem told_r {g : Mem → Mem → Int} {r : Int} (h : INVM SR M) (h26 : M 104 26 = 1) (hT : Tv M r g) : ∃ P s, PV P ∧ RI P s (M 104 25) ∧ TM P s M ∧ r = g P s ∧ P 104 24 = M 104 24 ∧ P 104 25 = M 104 25 := by
  rcases h.2 with w | ⟨_, _, P, s0, hp, hi, tm⟩
  · omega
  · have hb := h.1.1
    have ru := hb.2.2.2.2.1
    have e10 := ru.2.2.2.2.2.2.2.2.2.1
    have e11 := ru.2.2.2.2.2.2.2.2.2.2.1
    obtain ⟨pv, _, _⟩ := hp.ok hb
    have ri := rn_R pv hi (M 104 25).toNat (by omega)
    rw [Int.toNat_of_nonneg (by omega)] at ri
    exact ⟨P, _, pv, ri, tm, hT P s0 hp hi, hp.1.2.2.2.1, hp.1.2.2.2.2.1⟩
theorem s_131 {t : Int} (hb : BASE M) (hQ : ∀ r, (0 ≤ t ∧ t < M 104 25 ∧ r = 1 ∨ ¬ (0 ≤ t ∧ t < M 104 25) ∧ r = 0) → Q (some (vI r)) M) : Mq sx L K0 R0 131 [vR 2, vI t] M Q := by
  have e := hb.2.2.2.2.1.2.2.2.2.2.2.2.2.2.2.2.1
  refine m_131 (b_131_0 ⟨fun q => b_131_1 (b_131_2 ⟨Or.inl rfl, hQ 0 (by omega)⟩), fun q => ?_⟩)
  rw [e]
  exact ⟨fun q2 => b_131_1 (b_131_2 ⟨Or.inl rfl, hQ 0 (by omega)⟩), fun q2 => b_131_2 ⟨Or.inr rfl, hQ 1 (by omega)⟩⟩
theorem s_142 {t : Int} (hQ : ∀ r, (0 ≤ t ∧ t < 8 ∧ r = 1 ∨ ¬ (0 ≤ t ∧ t < 8) ∧ r = 0) → Q (some (vI r)) M) : Mq sx L K0 R0 142 [vI t] M Q :=
  m_142 (b_142_0 (s_137 fun r hr => ⟨r, rfl, by omega, hQ r (by omega)⟩))
/-- a call that is refused on both sides, nothing being changed -/
theorem ref_ok {mc mm : Nat} {as : List AV} {r : Int} (h : INVM SR M) (h1 : ∀ Q : Option AV → Mem → Prop, Q (some (vI r)) M → Mq sx L K0 R0 mc (vR 2 :: as) M Q) (h2 : ∀ Q : Option AV → Mem → Prop, Q (some (vI r)) M → Mq sx L K0 R0 mm (vR 106 :: as) M Q) : Mq sx L K0 R0 mc (vR 2 :: as) M (fun rv M1 => ∃ r, rv = some (vI r) ∧ Mq sx L K0 R0 mm (vR 106 :: as) M1 (fun rv2 M2 => rv2 = some (vI r) ∧ INVM SR M2)) :=
  h1 _ ⟨r, rfl, h2 _ ⟨rfl, h⟩⟩
theorem op_9 (hs : SROK SR) (a b : Int) : OpOk sx L (INVM SR) 103 182 [vI a, vI b] := by
  intro M h
  have hb := h.1.1
  obtain ⟨e1, e2, e3, e4, e5, e6, e7, e8, e9, e10, e11, e12, e13⟩ := hb.2.2.2.2.1
  by_cases g : (0 ≤ a ∧ a < M 104 25) ∧ 0 ≤ b ∧ b < M 104 24
  · refine m_103 (b_103_0 (s_131 hb fun r hr => ⟨r, rfl, fun q => absurd q (by omega), fun _ => ⟨fun q => absurd q (by omega), fun _ => ⟨fun _ => b_103_2 (s_135 hs h fun M1 h1 h7 f1 => ⟨rfl, ?_⟩), fun q => absurd (by omega) q⟩⟩⟩))
    have b1 := f1.bf
    have t25 : M1 104 25 = M 104 25 := b1.m (by omega)
    have t24 : M1 104 24 = M 104 24 := b1.m (by omega)
    refine told_c (g := fun P s => s 135 (3 * a + b)) h1 h7 (fun P s hp ri s3 rf p24 p111 => s_50 (Or.inl rfl) hp rf.2.1 (by omega) rf.2.2.2.2.2 g.1.1 (by omega) g.2.1 (by omega) ⟨rfl, rfl⟩) fun r hT => ⟨r, rfl, r, rfl, ?_⟩
    refine m_182 (b_182_0 ⟨⟨by omega, by omega⟩, s_137 fun r1 hr1 => ⟨r1, rfl, fun q => absurd q (by omega), fun _ => ⟨⟨by omega, by omega⟩, s_137 fun r2 hr2 => ⟨r2, rfl, fun _ => b_182_2 (s_181 hs h1 fun M2 h2 h26 _ f2 => ⟨rfl, ⟨by omega, by omega⟩, ⟨by omega, by omega⟩, ⟨by omega, by omega⟩, ?_, h2⟩), fun q => absurd (by omega) q⟩⟩⟩⟩)
    obtain ⟨P, s, pv, ri, tm, er, _⟩ := told_r h2 h26 (hT.fr f2.bf)
    rw [er, tm.sf (c := 135) (by omega)]
  · refine ref_ok h (fun Q hQ => m_103 (b_103_0 (s_131 hb fun r hr => ⟨r, rfl, fun q => b_103_1 hQ, fun q => ⟨fun q => b_103_1 hQ, fun q2 => ⟨fun q3 => absurd (by omega) g, fun _ => b_103_1 hQ⟩⟩⟩))) (fun Q hQ => m_182 (b_182_0 ⟨⟨by omega, by omega⟩, s_137 fun r1 hr1 => ⟨r1, rfl, fun q => b_182_1 hQ, fun _ => ⟨⟨by omega, by omega⟩, s_137 fun r2 hr2 => ⟨r2, rfl, fun q => absurd (by omega) g, fun _ => b_182_1 hQ⟩⟩⟩⟩))
theorem op_10 (hs : SROK SR) (a b : Int) : OpOk sx L (INVM SR) 104 183 [vI a, vI b] := by
  intro M h
  have hb := h.1.1
  obtain ⟨e1, e2, e3, e4, e5, e6, e7, e8, e9, e10, e11, e12, e13⟩ := hb.2.2.2.2.1
  by_cases g : (0 ≤ a ∧ a < 8) ∧ 0 ≤ b ∧ b < M 104 25
  · refine m_104 (b_104_0 (s_125 fun r hr => ⟨r, rfl, fun q => absurd q (by omega), fun _ => s_131 hb fun r2 hr2 => ⟨r2, rfl, fun _ => b_104_2 (s_135 hs h fun M1 h1 h7 f1 => ⟨rfl, ?_⟩), fun q => absurd (by omega) q⟩⟩))
    have b1 := f1.bf
    have t25 : M1 104 25 = M 104 25 := b1.m (by omega)
    refine told_c (g := fun P s => s 136 (200 * a + b)) h1 h7 (fun P s hp ri s3 rf p24 p111 => s_51 (Or.inl rfl) rf.2.1 (by omega) rf.2.2.2.1 s3 g.1.1 g.1.2 g.2.1 (by omega) ⟨rfl, rfl⟩) fun r hT => ⟨r, rfl, r, rfl, ?_⟩
    refine m_183 (b_183_0 (s_142 fun r1 hr1 => ⟨r1, rfl, fun q => absurd q (by omega), fun _ => ⟨⟨by omega, by omega⟩, s_137 fun r2 hr2 => ⟨r2, rfl, fun _ => b_183_2 (s_181 hs h1 fun M2 h2 h26 _ f2 => ⟨rfl, ⟨by omega, by omega⟩, ⟨by omega, by omega⟩, ⟨by omega, by omega⟩, ?_, h2⟩), fun q => absurd (by omega) q⟩⟩⟩))
    obtain ⟨P, s, pv, ri, tm, er, _⟩ := told_r h2 h26 (hT.fr f2.bf)
    rw [er, tm.sf (c := 136) (by omega)]
  · refine ref_ok h (fun Q hQ => m_104 (b_104_0 (s_125 fun r hr => ⟨r, rfl, fun q => b_104_1 hQ, fun _ => s_131 hb fun r2 hr2 => ⟨r2, rfl, fun _ => absurd (by omega) g, fun _ => b_104_1 hQ⟩⟩))) (fun Q hQ => m_183 (b_183_0 (s_142 fun r1 hr1 => ⟨r1, rfl, fun q => b_183_1 hQ, fun _ => ⟨⟨by omega, by omega⟩, s_137 fun r2 hr2 => ⟨r2, rfl, fun _ => absurd (by omega) g, fun _ => b_183_1 hQ⟩⟩⟩)))
theorem op_11 (hs : SROK SR) (a b : Int) : OpOk sx L (INVM SR) 105 184 [vI a, vI b] := by
  intro M h
  have hb := h.1.1
  obtain ⟨e1, e2, e3, e4, e5, e6, e7, e8, e9, e10, e11, e12, e13⟩ := hb.2.2.2.2.1
  by_cases g : (0 ≤ a ∧ a < 8) ∧ 0 ≤ b
  · refine m_105 (b_105_0 (s_125 fun r hr => ⟨r, rfl, fun q => absurd q (by omega), fun _ => ⟨fun _ => b_105_2 g.1 (s_135 hs h fun M1 h1 h7 f1 => ⟨rfl, ?_⟩), fun q => absurd g.2 q⟩⟩))
    have b1 := f1.bf
    have t25 : M1 104 25 = M 104 25 := b1.m (by omega)
    refine told_c (g := fun P s => if b < s 123 a then dnF s a b else -1) h1 h7 (fun P s hp ri s3 rf p24 p111 => s_8 (Or.inl rfl) g.1.1 g.1.2 ri (rf.2.2.1 a g.1.1 g.1.2).1 (fun _ w => ⟨by rw [if_pos w], rfl⟩) (fun w => ⟨by rw [if_neg (by omega)], rfl⟩)) fun r hT => ⟨r, rfl, r, rfl, ?_⟩
    refine m_184 (b_184_0 (s_142 fun r1 hr1 => ⟨r1, rfl, fun q => absurd q (by omega), fun _ => ⟨fun _ => b_184_2 (s_181 hs h1 fun M2 h2 h26 _ f2 => ⟨rfl, g.1, ?_⟩), fun q => absurd g.2 q⟩⟩))
    obtain ⟨P, s, pv, ri, tm, er, _⟩ := told_r h2 h26 (hT.fr f2.bf)
    have hc := (ri a g.1.1 g.1.2).1.2.2.1
    rw [tm.sf (c := 123) (by omega), tm.sf (c := 126) (by omega)]
    refine ⟨fun q => b_184_3 (b_184_4 ⟨?_, h2⟩), fun q => ⟨⟨by omega, by omega⟩, ⟨by omega, by omega⟩, ⟨by omega, by omega⟩, b_184_4 ⟨?_, h2⟩⟩⟩
    · rw [er, if_neg (by omega)]
    · rw [er, if_pos (by omega)]; rfl
  · refine ref_ok h (fun Q hQ => m_105 (b_105_0 (s_125 fun r hr => ⟨r, rfl, fun q => b_105_1 hQ, fun _ => ⟨fun q => absurd (by omega) g, fun q => b_105_1 hQ⟩⟩))) (fun Q hQ => m_184 (b_184_0 (s_142 fun r1 hr1 => ⟨r1, rfl, fun q => b_184_1 hQ, fun _ => ⟨fun q => absurd (by omega) g, fun _ => b_184_1 hQ⟩⟩)))
theorem kB (j : Nat) (hj : j = 54 ∨ j = 55) : K0[j]? = some (10, 120) := by
  rcases hj with rfl | rfl <;> decide +kernel
/-- told, over a run that is kept -/
theorem told_row {a w : Int} {P s : Mem} (h : INVM SR M) (a0 : 0 ≤ a) (a1 : a < 8) (hp : PV P) (ri : RI P s (M 104 25)) (s3 : S3 s (M 104 25)) (rf : RFn P s M 52 (M 104 25)) (p111 : ∀ t, 0 ≤ t → t < 8 → P 111 t = M 111 t) :
    (w = 0 → M (ckA 52 a) 6 = tolF P s (M 104 25) a w) ∧ (w = 1 → Mq sx L K0 R0 9 [vR (ckA 52 a + 2)] M (fun rv M' => rv = some (vI (tolF P s (M 104 25) a w)) ∧ M' = M)) ∧ (w = 2 → Mq sx L K0 R0 10 [vR (ckA 52 a + 2), vI (M 104 25)] M (fun rv M' => rv = some (vI (tolF P s (M 104 25) a w)) ∧ M' = M)) ∧ (w = 3 → Mq sx L K0 R0 11 [vR (ckA 52 a + 2)] M (fun rv M' => rv = some (vI (tolF P s (M 104 25) a w)) ∧ M' = M)) ∧ (w = 4 → Mq sx L K0 R0 52 [vR 54, vR 56, vI a] M (fun rv M' => rv = some (vI (tolF P s (M 104 25) a w)) ∧ M' = M)) ∧ (w = 5 → Mq sx L K0 R0 52 [vR 54, vR 57, vI a] M (fun rv M' => rv = some (vI (tolF P s (M 104 25) a w)) ∧ M' = M)) ∧ (w = 6 → Mq sx L K0 R0 53 [vR 54, vI a, vI (mkB 8 fun o => decide (M 7 o < M 7 a))] M (fun rv M' => rv = some (vI (tolF P s (M 104 25) a w)) ∧ M' = M)) := by
  have hb := h.1.1
  obtain ⟨e1, e2, e3, e4, e5, e6, e7, e8, e9, e10, e11, e12, e13⟩ := hb.2.2.2.2.1
  have cj := (rf.2.2.1 a a0 a1).1
  refine ⟨fun q => ?_, fun q => ?_, fun q => ?_, fun q => ?_, fun q => ?_, fun q => ?_, fun q => ?_⟩ <;> subst q
  · exact cj.1
  · exact s_9 (Or.inl rfl) a0 a1 ri cj ⟨rfl, rfl⟩
  · exact s_10 (Or.inl rfl) a0 a1 hp rf.1 rf.2.1 ri cj ⟨rfl, rfl⟩
  · exact s_11 (Or.inl rfl) a0 a1 hp (by omega) (by omega) rf.1 rf.2.1 ri cj ⟨rfl, rfl⟩
  · exact s_52 (B := 52) (c := 54) (w := 1) (Or.inl rfl) rf.2.1 (by omega) (by omega) (kB 54 (by omega)) (fun t' a b => (rf.2.2.2.1 t' a b).1) a0 a1 ⟨rfl, rfl⟩
  · exact s_52 (B := 52) (c := 55) (w := 2) (Or.inl rfl) rf.2.1 (by omega) (by omega) (kB 55 (by omega)) (fun t' a b => (rf.2.2.2.1 t' a b).2.1) a0 a1 ⟨rfl, rfl⟩
  · refine s_53 (B := 52) (P := P) (Or.inl rfl) rf.2.1 (by omega) (by omega) rf.2.2.2.1 s3 a0 a1 ?_ ⟨rfl, rfl⟩
    refine mkB_cg fun o o0 o1 => ?_
    rw [p111 o o0 (by omega), p111 a a0 a1, (hb.2.2.1 o o0 (by omega)).2.2.1, (hb.2.2.1 a a0 a1).2.2.1]
theorem s_106 {a w : Int} (hs : SROK SR) (h : INVM SR M) (a0 : 0 ≤ a) (a1 : a < 8) (w0 : 0 ≤ w) (w1 : w ≤ 6) (hQ : ∀ r M1, INVM SR M1 → GFr M M1 → M1 0 7 = 1 → Tv M1 r (fun P s => tolF P s (M1 104 25) a w) → Q (some (vI r)) M1) : Mq sx L K0 R0 106 [vR 2, vI a, vI w] M Q := by
  refine m_106 (b_106_0 (s_125 fun r hr => ⟨r, rfl, fun q => absurd q (by omega), fun _ => ⟨fun q => absurd q (by omega), fun _ => ⟨fun _ => b_106_2 ⟨a0, a1⟩ (s_135 hs h fun M1 h1 h7 f1 => ⟨rfl, ?_⟩), fun q => absurd (by omega) q⟩⟩⟩))
  have hk := isCk_A (B := 52) (Or.inl rfl) a0 a1
  have e67 : M1 6 7 = M1 104 25 := h1.1.1.2.2.2.2.1.2.2.2.2.2.2.2.2.2.2.2.1
  have hQ1 := fun r => hQ r M1 h1 f1 h7
  have row := fun P s hp ri s3 rf (p24 : P 104 24 = M1 104 24) p111 => told_row (sx := sx) (L := L) (w := w) (P := P) (s := s) h1 a0 a1 hp ri s3 rf p111
  refine ⟨fun q => b_106_9 hk (s_81 (Or.inl rfl) a0 a1 ⟨_, rfl, told_c h1 h7 (fun P s hp ri s3 rf p24 p111 => (row P s hp ri s3 rf p24 p111).2.2.2.2.2.2 (by omega)) fun r hT => ⟨r, rfl, hQ1 r hT⟩⟩), fun q => b_106_3 hk (hQ1 _ fun P s0 hp hi => ?_), fun q => b_106_4 hk (told_c h1 h7 (fun P s hp ri s3 rf p24 p111 => (row P s hp ri s3 rf p24 p111).2.1 q) fun r hT => ⟨r, rfl, hQ1 r hT⟩), fun q => b_106_5 hk ?_, fun q => b_106_6 hk (told_c h1 h7 (fun P s hp ri s3 rf p24 p111 => (row P s hp ri s3 rf p24 p111).2.2.2.1 q) fun r hT => ⟨r, rfl, hQ1 r hT⟩), fun q => b_106_7 hk (told_c h1 h7 (fun P s hp ri s3 rf p24 p111 => (row P s hp ri s3 rf p24 p111).2.2.2.2.1 q) fun r hT => ⟨r, rfl, hQ1 r hT⟩), fun q => b_106_8 hk (told_c h1 h7 (fun P s hp ri s3 rf p24 p111 => (row P s hp ri s3 rf p24 p111).2.2.2.2.2.1 q) fun r hT => ⟨r, rfl, hQ1 r hT⟩)⟩
  · rcases h1.1.2.2.2.1 with v | v
    · omega
    · rw [(v.2 P s0 hp hi).2.2.1 a a0 a1 |>.1.1, q]; rfl
  · rw [e67]
    exact told_c h1 h7 (fun P s hp ri s3 rf p24 p111 => (row P s hp ri s3 rf p24 p111).2.2.1 q) fun r hT => ⟨r, rfl, hQ1 r hT⟩
theorem op_12 (hs : SROK SR) (a b : Int) : OpOk sx L (INVM SR) 106 190 [vI a, vI b] := by
  intro M h
  have hb := h.1.1
  obtain ⟨e1, e2, e3, e4, e5, e6, e7, e8, e9, e10, e11, e12, e13⟩ := hb.2.2.2.2.1
  by_cases g : (0 ≤ a ∧ a < 8) ∧ 0 ≤ b ∧ b ≤ 6
  · refine s_106 hs h g.1.1 g.1.2 g.2.1 g.2.2 fun r M1 h1 f1 _ hT => ⟨r, rfl, ?_⟩
    refine m_190 (b_190_0 (s_142 fun r1 hr1 => ⟨r1, rfl, fun q => absurd q (by omega), fun _ => s_137 fun r2 hr2 => ⟨r2, rfl, fun _ => b_190_2 (s_181 hs h1 fun M2 h2 h26 _ f2 => ⟨rfl, ?_⟩), fun q => absurd (by omega) q⟩⟩))
    have t25 : M2 104 25 = M1 104 25 := f2.bf.m (by omega)
    have r25 : M1 104 25 = M 104 25 := f1.bf.m (by omega)
    obtain ⟨P, s, pv, ri, tm, er, _, p25⟩ := told_r h2 h26 (hT.fr f2.bf)
    rw [← p25] at ri
    refine s_189 pv ri (by omega) tm g.1.1 g.1.2 g.2 ⟨_, rfl, ?_, h2⟩
    rw [er, p25, t25]
  · refine ref_ok h (fun Q hQ => m_106 (b_106_0 (s_125 fun r hr => ⟨r, rfl, fun q => b_106_1 hQ, fun _ => ⟨fun q => b_106_1 hQ, fun q => ⟨fun _ => absurd (by omega) g, fun _ => b_106_1 hQ⟩⟩⟩))) (fun Q hQ => m_190 (b_190_0 (s_142 fun r1 hr1 => ⟨r1, rfl, fun q => b_190_1 hQ, fun _ => s_137 fun r2 hr2 => ⟨r2, rfl, fun _ => absurd (by omega) g, fun _ => b_190_1 hQ⟩⟩)))
theorem s_107 (hs : SROK SR) (h : INVM SR M) (hQ : ∀ r M1, INVM SR M1 → GFr M M1 → M1 0 7 = 1 → Tv M1 r (fun P s => ltA P s (M1 104 25)) → Q (some (vI r)) M1) : Mq sx L K0 R0 107 [vR 2] M Q := by
  refine m_107 (b_107_0 (s_135 hs h fun M1 h1 h7 f1 => ⟨rfl, ?_⟩))
  have hb := h1.1.1
  obtain ⟨e1, e2, e3, e4, e5, e6, e7, e8, e9, e10, e11, e12, e13⟩ := hb.2.2.2.2.1
  -- as for a call
  have row : ∀ P s, PV P → RI P s (M1 104 25) → RFn P s M1 52 (M1 104 25) → Rn sx L K0 R0 107 1 [vR 2, vI 0, vI 0] [] M1 (fun rv M' => rv = some (vI (ltA P s (M1 104 25))) ∧ M' = M1) := by
    intro P s hp ri rf
    refine lpI (N := 8) (G := fun k => Rn sx L K0 R0 107 1 [vR 2, vI (sumI k.toNat (ltF P s (M1 104 25))), vI k] [] M1 (fun rv M' => rv = some (vI (ltA P s (M1 104 25))) ∧ M' = M1)) (fun k k0 k1 ih => ?_) (bx_107_1 (by omega) (b_107_2 ⟨rfl, rfl⟩)) 0 (by omega) (by omega)
    rw [sumI_s k0] at ih
    have hs := sumI_0 (n := k.toNat) (f := ltF P s (M1 104 25)) (b := 120) (fun t a b => ltF_B ri a (by omega))
    have hs2 := ltF_B (T := M1 104 25) ri k0 k1
    refine b_107_1 ⟨k0, k1⟩ ⟨fun q => absurd q (by omega), fun _ => ?_⟩
    rw [e12]
    exact s_10 (Or.inl rfl) k0 k1 hp rf.1 rf.2.1 ri (rf.2.2.1 k k0 k1).1 ⟨_, rfl, ⟨by omega, by omega⟩, ⟨by omega, by omega⟩, ih⟩
  have hRF : ∀ P s0, PDs P M1 6 → IniS s0 → RFn P (rnF P s0 (M1 104 25).toNat) M1 52 (M1 104 25) := by
    rcases h1.1.2.2.2.1 with w | w
    · omega
    · exact w.2
  have rr : ∀ P s0, PDs P M1 6 → IniS s0 → PV P ∧ RI P (rnF P s0 (M1 104 25).toNat) (M1 104 25) := fun P s0 hp hi => by
    obtain ⟨pv, _, _⟩ := hp.ok hb
    have ri := rn_R pv hi (M1 104 25).toNat (by omega)
    rw [Int.toNat_of_nonneg (by omega)] at ri
    exact ⟨pv, ri⟩
  have p0 := PTm_ok hb
  obtain ⟨n, rv, M', hr, hq⟩ := row (PTm M1) _ (rr _ _ p0 s00_ok).1 (rr _ _ p0 s00_ok).2 (hRF _ _ p0 s00_ok)
  rw [hq.1, hq.2] at hr
  refine ⟨n, _, _, hr, hQ _ M1 h1 f1 h7 fun P s0 hp hi => ?_⟩
  obtain ⟨n2, rv2, M2, hr2, hq2⟩ := row P _ (rr _ _ hp hi).1 (rr _ _ hp hi).2 (hRF _ _ hp hi)
  rw [hq2.1, hq2.2] at hr2
  have a := run_up _ _ _ _ _ _ _ _ hr n2
  have b := run_up _ _ _ _ _ _ _ _ hr2 n
  rw [Nat.add_comm] at b
  rw [a] at b
  have b1 := (Prod.mk.inj (Option.some.inj b)).1
  exact Sum.inl.inj (Option.some.inj b1)
theorem op_13 (hs : SROK SR) : OpOk sx L (INVM SR) 107 191 [] := by
  intro M h
  refine s_107 hs h fun r M1 h1 f1 _ hT => ⟨r, rfl, m_191 (b_191_0 (s_181 hs h1 fun M2 h2 h26 _ f2 => ⟨rfl, ?_⟩))⟩
  have t25 : M2 104 25 = M1 104 25 := f2.bf.m (by omega)
  obtain ⟨P, s, pv, ri, tm, er, _, p25⟩ := told_r h2 h26 (hT.fr f2.bf)
  rw [← p25] at ri
  refine s_180 pv ri tm ⟨_, rfl, ?_, h2⟩
  rw [er, p25, t25]
theorem s_108 {w : Int} (hs : SROK SR) (h : INVM SR M) (w0 : 0 ≤ w) (w1 : w ≤ 1) (hQ : ∀ r M1, INVM SR M1 → GFr M M1 → M1 0 7 = 1 → Tv M1 r (fun _ s => if w = 0 then s 104 49 else s 104 50) → Q (some (vI r)) M1) : Mq sx L K0 R0 108 [vR 2, vI w] M Q := by
  refine m_108 (b_108_0 ⟨fun q => absurd q (by omega), fun _ => ⟨fun _ => b_108_2 (s_135 hs h fun M1 h1 h7 f1 => ⟨rfl, ?_⟩), fun q => absurd w1 q⟩⟩)
  have hRF : ∀ P s0, PDs P M1 6 → IniS s0 → RFn P (rnF P s0 (M1 104 25).toNat) M1 52 (M1 104 25) := by
    rcases h1.1.2.2.2.1 with w | w
    · omega
    · exact w.2
  refine ⟨fun q => b_108_3 (b_108_4 (hQ _ M1 h1 f1 h7 fun P s0 hp hi => ?_)), fun q => b_108_4 (hQ _ M1 h1 f1 h7 fun P s0 hp hi => ?_)⟩
  · dsimp only
    rw [if_neg q]; exact (hRF P s0 hp hi).2.2.2.2.1.2.1
  · dsimp only
    rw [if_pos (by omega)]; exact (hRF P s0 hp hi).2.2.2.2.1.1
theorem op_14 (hs : SROK SR) (a : Int) : OpOk sx L (INVM SR) 108 192 [vI a] := by
  intro M h
  by_cases g : 0 ≤ a ∧ a ≤ 1
  · refine s_108 hs h g.1 g.2 fun r M1 h1 f1 _ hT => ⟨r, rfl, ?_⟩
    refine m_192 (b_192_0 (s_137 fun r1 hr1 => ⟨r1, rfl, fun _ => b_192_1 (s_181 hs h1 fun M2 h2 h26 _ f2 => ⟨rfl, ?_⟩), fun q => absurd (by omega) q⟩))
    obtain ⟨P, s, pv, ri, tm, er, _⟩ := told_r h2 h26 (hT.fr f2.bf)
    refine ⟨fun q => b_192_2 (b_192_3 ⟨?_, h2⟩), fun q => b_192_3 ⟨?_, h2⟩⟩
    · rw [er, if_neg q, tm.1 104 50 (by unfold isS; omega)]
    · rw [er, if_pos (by omega), tm.1 104 49 (by unfold isS; omega)]
  · refine ref_ok h (fun Q hQ => m_108 (b_108_0 ⟨fun q => b_108_1 hQ, fun _ => ⟨fun q => absurd (by omega) g, fun q => b_108_1 hQ⟩⟩)) (fun Q hQ => m_192 (b_192_0 (s_137 fun r1 hr1 => ⟨r1, rfl, fun _ => absurd (by omega) g, fun _ => hQ⟩)))
end

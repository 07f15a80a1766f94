/-! digest -/
section
variable {sx : Int → Int} {L : Nat} {M M' : Mem} {Q : Option AV → Mem → Prop} {SR : (Mem → Prop) × (Mem → Prop)}
def dg (l r : Int) : Int := lAdd (lMul 31 l) r
def dgN (f : Int → Int) : Nat → Int → Int
  | 0, l => l
  | n + 1, l => dg (dgN f n l) (f n)
theorem dgN_s {f : Int → Int} {l k : Int} (h : 0 ≤ k) : dgN f (k + 1).toNat l = dg (dgN f k.toNat l) (f k) := by
  rw [show (k + 1).toNat = k.toNat + 1 by omega]
  simp only [dgN, Int.toNat_of_nonneg h]
def dgO (f : Int → Int) (g : Int → Int → Int) : Nat → Int → Int
  | 0, l => l
  | n + 1, l => dgN (g n) 7 (dg (dgO f g n l) (f n))
theorem dgO_s {f : Int → Int} {g : Int → Int → Int} {l k : Int} (h : 0 ≤ k) : dgO f g (k + 1).toNat l = dgN (g k) 7 (dg (dgO f g k.toNat l) (f k)) := by
  rw [show (k + 1).toNat = k.toNat + 1 by omega]
  simp only [dgO, Int.toNat_of_nonneg h]
theorem t7 : (7 : Int).toNat = 7 := rfl
theorem t8 : (8 : Int).toNat = 8 := rfl
theorem dgN_0 {f : Int → Int} {l : Int} : dgN f (0 : Int).toNat l = l := rfl
theorem dgO_0 {f : Int → Int} {g : Int → Int → Int} {l : Int} : dgO f g (0 : Int).toNat l = l := rfl
theorem dg_e {l r : Int} : lAdd (lMul 31 l) r = dg l r := rfl
/-- what is told, by parameters of its own -/
noncomputable def cV (M : Mem) (g : Mem → Mem → Int) : Int := g (PTm M) (rnF (PTm M) s00 (M 104 25).toNat)
theorem Tv.cv {r : Int} {g : Mem → Mem → Int} (hb : BASE M) (h : Tv M r g) : r = cV M g := h _ _ (PTm_ok hb) s00_ok
def flF (M : Mem) (t : Int) : Int := ftF (txR M t) (M 109 t) (M 104 0)
noncomputable def toF (M : Mem) (a w : Int) : Int := cV M fun P s => tolF P s (M 104 25) a w
noncomputable def whF (M : Mem) (i : Int) : Int := cV M fun _ s => s 135 (3 * i)
noncomputable def rgF (M : Mem) (w : Int) : Int := cV M fun _ s => if w = 0 then s 104 49 else s 104 50
noncomputable def dgA (M : Mem) : Int := dg (dg (dg (dgN (whF M) (M 104 25).toNat (dgO (flF M) (toF M) 8 (dgN (cnF M) 8 17))) (cV M fun P s => ltA P s (M 104 25))) (rgF M 0)) (rgF M 1)
theorem GFr.tr {M1 M2 : Mem} (f : GFr M M1) (g : GFr M1 M2) : GFr M M2 := fun c k a b => (g c k a b).trans (f c k a b)
theorem flF_bf (f : BFr M M') (t : Int) : flF M' t = flF M t := by
  unfold flF
  rw [f.tx, f.a (c := 109) (by omega), f.m (k := 0) (by omega)]
theorem s_98 {t : Int} (hb : BASE M) (t0 : 0 ≤ t) (t1 : t < 8) (hQ : Q (some (vI (flF M t))) M) : Mq sx L K0 R0 98 [vR 2, vI t] M Q := by
  refine m_98 (b_98_0 ⟨t0, t1⟩ (s_125 fun r hr => ⟨r, rfl, fun q => absurd q (by omega), fun _ => b_98_2 ?_⟩))
  rw [(hb.2.1 t t0 t1).2.2.2.2.1]; exact hQ
theorem s_103 {i : Int} (hs : SROK SR) (h : INVM SR M) (i0 : 0 ≤ i) (i1 : i < M 104 25) (hQ : ∀ r M1, INVM SR M1 → GFr M M1 → Tv M1 r (fun _ s => s 135 (3 * i)) → Q (some (vI r)) M1) : Mq sx L K0 R0 103 [vR 2, vI i, vI 0] M Q := by
  have hb := h.1.1
  obtain ⟨e1, e2, e3, e4, e5, e6, e7, e8, e9, e10, e11, e12, e13⟩ := hb.2.2.2.2.1
  refine m_103 (b_103_0 (s_131 hb fun r hr => ⟨r, rfl, fun q => absurd q (by omega), fun _ => ⟨fun q => absurd q (by omega), fun _ => ⟨fun _ => b_103_2 (s_135 hs h fun M1 h1 h7 f1 => ⟨rfl, ?_⟩), fun q => absurd (by omega) q⟩⟩⟩))
  have b1 := f1.bf
  have t25 : M1 104 25 = M 104 25 := b1.m (by omega)
  have t24 : M1 104 24 = M 104 24 := b1.m (by omega)
  refine told_c (g := fun P s => s 135 (3 * i + 0)) h1 h7 (fun P s hp ri s3 rf p24 p111 => s_50 (Or.inl rfl) hp rf.2.1 (by omega) rf.2.2.2.2.2 i0 (by omega) (by omega) (by omega) ⟨rfl, rfl⟩) fun r hT => ⟨r, rfl, hQ r M1 h1 f1 ?_⟩
  simp only [Int.add_zero] at hT
  exact hT
theorem tv_to (hs : SROK SR) (h : INVM SR M) {a w : Int} (a0 : 0 ≤ a) (a1 : a < 8) (w0 : 0 ≤ w) (w1 : w ≤ 6) : Tv M (toF M a w) (fun P s => tolF P s (M 104 25) a w) := by
  obtain ⟨_, _, _, _, r, hT⟩ := s_106 (sx := fun x => x) (L := 0) hs h a0 a1 w0 w1 (Q := fun _ _ => ∃ r, Tv M r (fun P s => tolF P s (M 104 25) a w)) fun r M1 h1 f1 _ hT => ⟨r, by
    have := hT.fr f1.bf.sy
    rw [f1.bf.m (k := 25) (by omega)] at this
    exact this⟩
  have e := hT.cv h.1.1
  unfold toF
  rw [← e]; exact hT
theorem tv_wh (hs : SROK SR) (h : INVM SR M) {i : Int} (i0 : 0 ≤ i) (i1 : i < M 104 25) : Tv M (whF M i) (fun _ s => s 135 (3 * i)) := by
  obtain ⟨_, _, _, _, r, hT⟩ := s_103 (sx := fun x => x) (L := 0) hs h i0 i1 (Q := fun _ _ => ∃ r, Tv M r (fun _ s => s 135 (3 * i))) fun r M1 h1 f1 hT => ⟨r, hT.fr f1.bf.sy⟩
  have e := hT.cv h.1.1
  unfold whF
  rw [← e]; exact hT
theorem tv_lt (hs : SROK SR) (h : INVM SR M) : Tv M (cV M fun P s => ltA P s (M 104 25)) (fun P s => ltA P s (M 104 25)) := by
  obtain ⟨_, _, _, _, r, hT⟩ := s_107 (sx := fun x => x) (L := 0) hs h (Q := fun _ _ => ∃ r, Tv M r (fun P s => ltA P s (M 104 25))) fun r M1 h1 f1 _ hT => ⟨r, by
    have := hT.fr f1.bf.sy
    rw [f1.bf.m (k := 25) (by omega)] at this
    exact this⟩
  have e := hT.cv h.1.1
  rw [← e]; exact hT
theorem tv_rg (hs : SROK SR) (h : INVM SR M) {w : Int} (w0 : 0 ≤ w) (w1 : w ≤ 1) : Tv M (rgF M w) (fun _ s => if w = 0 then s 104 49 else s 104 50) := by
  obtain ⟨_, _, _, _, r, hT⟩ := s_108 (sx := fun x => x) (L := 0) hs h w0 w1 (Q := fun _ _ => ∃ r, Tv M r (fun _ s => if w = 0 then s 104 49 else s 104 50)) fun r M1 h1 f1 _ hT => ⟨r, hT.fr f1.bf.sy⟩
  have e := hT.cv h.1.1
  unfold rgF
  rw [← e]; exact hT
theorem s_124 (hs : SROK SR) (h : INVM SR M) (hQ : ∀ M1, INVM SR M1 → GFr M M1 → Q (some (vL (dgA M))) M1) : Mq sx L K0 R0 124 [vR 2] M Q := by
  have hb := h.1.1
  obtain ⟨e1, e2, e3, e4, e5, e6, e7, e8, e9, e10, e11, e12, e13⟩ := hb.2.2.2.2.1
  have val : ∀ {r : Int} {g : Mem → Mem → Int} {M1 : Mem}, GFr M M1 → Tv M1 r g → r = cV M g := fun f hT => (hT.fr f.bf.sy).cv hb
  refine m_124 (b_124_0 ?_)
  have start : Rn sx L K0 R0 124 1 [vR 2, vL (dgN (cnF M) (0 : Int).toNat 17), vU, vI 0, vU] [] M Q → Rn sx L K0 R0 124 1 [vR 2, vL 17, vU, vI 0, vU] [] M Q := fun w => by
    rw [dgN_0] at w; exact w
  refine start ?_
  refine lpI (N := 8) (G := fun k => Rn sx L K0 R0 124 1 [vR 2, vL (dgN (cnF M) k.toNat 17), vU, vI k, vU] [] M Q) (fun k k0 k1 ih => ?_) (b_124_1 ⟨fun _ => b_124_2 ?_, fun q => absurd (by omega) q⟩) 0 (by omega) (by omega)
  · rw [dgN_s k0] at ih
    exact b_124_1 ⟨fun q => absurd q (by omega), fun _ => s_123 hb h.1.2.2.2.2.2.2 ⟨_, rfl, ⟨by omega, by omega⟩, by rw [dg_e]; exact ih⟩⟩
  -- each task
  rw [t8]
  have last : ∀ M1, INVM SR M1 → GFr M M1 → ∀ u4 : AV, cat2 u4 = false → Rn sx L K0 R0 124 3 [vR 2, vL (dgO (flF M) (toF M) 8 (dgN (cnF M) 8 17)), vU, vI 8, u4] [] M1 Q := by
    intro M1 h1 f1 u4 hu
    refine b_124_3 hu ⟨fun _ => b_124_6 hu ?_, fun q => absurd (by omega) q⟩
    generalize hl0 : dgO (flF M) (toF M) 8 (dgN (cnF M) 8 17) = l0
    have start : Rn sx L K0 R0 124 7 [vR 2, vL (dgN (whF M) (0 : Int).toNat l0), vU, vI 0, u4] [] M1 Q → Rn sx L K0 R0 124 7 [vR 2, vL l0, vU, vI 0, u4] [] M1 Q := fun w => by
      rw [dgN_0] at w; exact w
    refine start ?_
    refine lpM (N := M 104 25) (I := fun k M2 => INVM SR M2 ∧ GFr M M2) (G := fun k M2 => Rn sx L K0 R0 124 7 [vR 2, vL (dgN (whF M) k.toNat l0), vU, vI k, u4] [] M2 Q) (fun k M2 k0 k1 hI ih => ?_) (fun M2 hI => ?_) 0 M1 (by omega) (by omega) ⟨h1, f1⟩
    · rw [dgN_s k0] at ih
      have m25 : M2 104 25 = M 104 25 := hI.2.bf.m (by omega)
      have q67 : M2 6 7 = M 6 7 := hI.2.bf.a (by omega) 7
      refine b_124_7 hu ⟨fun q => absurd q (by omega), fun _ => s_103 hs hI.1 k0 (by omega) fun r M3 h3 f3 hT => ⟨r, rfl, ⟨by omega, by omega⟩, ?_⟩⟩
      have := val (hI.2.tr f3) hT
      have r' : r = whF M k := this
      rw [r', dg_e]
      exact ih M3 ⟨h3, hI.2.tr f3⟩
    · have q67 : M2 6 7 = M 6 7 := hI.2.bf.a (by omega) 7
      refine b_124_7 hu ⟨fun _ => b_124_8 hu ?_, fun q => absurd (by omega) q⟩
      refine s_107 hs hI.1 fun r3 M3 h3 f3 _ t3 => ⟨r3, rfl, s_108 hs h3 (by omega) (by omega) fun r4 M4 h4 f4 _ t4 => ⟨r4, rfl, s_108 hs h4 (by omega) (by omega) fun r5 M5 h5 f5 _ t5 => ⟨r5, rfl, ?_⟩⟩⟩
      have g3 := hI.2.tr f3
      have g4 := g3.tr f4
      have g5 := g4.tr f5
      have m25 : M3 104 25 = M 104 25 := g3.bf.m (by omega)
      rw [m25] at t3
      have v3 := val g3 t3
      have v4 : r4 = rgF M 0 := val g4 t4
      have v5 : r5 = rgF M 1 := val g5 t5
      have hq := hQ M5 h5 g5
      unfold dgA at hq
      rw [hl0] at hq
      rw [v3, v4, v5, dg_e, dg_e, dg_e]
      exact hq
  have task : ∀ k : Int, 0 ≤ k → k ≤ 8 → ∀ M1, (INVM SR M1 ∧ GFr M M1) → ∀ u4 : AV, cat2 u4 = false → Rn sx L K0 R0 124 3 [vR 2, vL (dgO (flF M) (toF M) k.toNat (dgN (cnF M) 8 17)), vU, vI k, u4] [] M1 Q := by
    intro k k0 k1 M1 hI
    refine lpM (N := 8) (I := fun k M1 => INVM SR M1 ∧ GFr M M1) (G := fun k M1 => ∀ u4 : AV, cat2 u4 = false → Rn sx L K0 R0 124 3 [vR 2, vL (dgO (flF M) (toF M) k.toNat (dgN (cnF M) 8 17)), vU, vI k, u4] [] M1 Q) (fun k M1 k0 k1 hI ih u4 hu => ?_) (fun M1 hI u4 hu => by rw [t8]; exact last M1 hI.1 hI.2 u4 hu) k M1 k0 k1 hI
    rw [dgO_s k0] at ih
    refine b_124_3 hu ⟨fun q => absurd q (by omega), fun _ => s_98 hI.1.1.1 k0 k1 ⟨_, rfl, ?_⟩⟩
    rw [flF_bf hI.2.bf, dg_e]
    generalize dg (dgO (flF M) (toF M) k.toNat (dgN (cnF M) 8 17)) (flF M k) = l1 at ih ⊢
    have start : Rn sx L K0 R0 124 4 [vR 2, vL (dgN (toF M k) (0 : Int).toNat l1), vU, vI k, vI 0] [] M1 Q → Rn sx L K0 R0 124 4 [vR 2, vL l1, vU, vI k, vI 0] [] M1 Q := fun w => by
      rw [dgN_0] at w; exact w
    refine start ?_
    refine lpM (N := 7) (I := fun j M2 => INVM SR M2 ∧ GFr M M2) (G := fun j M2 => Rn sx L K0 R0 124 4 [vR 2, vL (dgN (toF M k) j.toNat l1), vU, vI k, vI j] [] M2 Q) (fun j M2 j0 j1 hJ ih2 => ?_) (fun M2 hJ => b_124_4 ⟨fun _ => b_124_5 ⟨⟨by omega, by omega⟩, by rw [t7]; exact ih M2 hJ _ rfl⟩, fun q => absurd (by omega) q⟩) 0 M1 (by omega) (by omega) hI
    rw [dgN_s j0] at ih2
    refine b_124_4 ⟨fun q => absurd q (by omega), fun _ => s_106 hs hJ.1 k0 k1 j0 (by omega) fun r M3 h3 f3 _ hT => ⟨r, rfl, ⟨by omega, by omega⟩, ?_⟩⟩
    have g3 := hJ.2.tr f3
    have m25 : M3 104 25 = M 104 25 := g3.bf.m (by omega)
    rw [m25] at hT
    have r' : r = toF M k j := val g3 hT
    rw [r', dg_e]
    exact ih2 M3 ⟨h3, g3⟩
  have fin := task 0 (by omega) (by omega) M ⟨h, fun _ _ _ _ => rfl⟩ vU rfl
  rw [dgO_0] at fin
  exact fin
theorem op_31 (hs : SROK SR) : OpOkL sx L (INVM SR) 124 225 [] := by
  intro M h
  refine s_124 hs h fun M1 h1 f1 => ⟨_, rfl, m_225 (b_225_0 ?_)⟩
  have hb := h.1.1
  have start : Rn sx L K0 R0 225 1 [vR 106, vL (dgN (cnF M) (0 : Int).toNat 17), vU, vI 0, vU] [] M1 (fun rv2 M2 => rv2 = some (vL (dgA M)) ∧ INVM SR M2) → Rn sx L K0 R0 225 1 [vR 106, vL 17, vU, vI 0, vU] [] M1 (fun rv2 M2 => rv2 = some (vL (dgA M)) ∧ INVM SR M2) := fun w => by
    rw [dgN_0] at w; exact w
  refine start ?_
  refine lpM (N := 8) (I := fun k M2 => INVM SR M2 ∧ BFr M M2) (G := fun k M2 => Rn sx L K0 R0 225 1 [vR 106, vL (dgN (cnF M) k.toNat 17), vU, vI k, vU] [] M2 (fun rv2 M2 => rv2 = some (vL (dgA M)) ∧ INVM SR M2)) (fun k M2 k0 k1 hI ih => ?_) (fun M2 hI => b_225_1 ⟨fun _ => b_225_2 (s_181 hs hI.1 fun M3 h3 h26 rd f3 => ⟨rfl, ?_⟩), fun q => absurd (by omega) q⟩) 0 M1 (by omega) (by omega) ⟨h1, f1.bf⟩
  · rw [dgN_s k0] at ih
    refine b_225_1 ⟨fun q => absurd q (by omega), fun _ => s_224 hs hI.1 fun M3 h3 f3 => ⟨_, rfl, ⟨by omega, by omega⟩, ?_⟩⟩
    rw [cn_bf hI.2 (by omega), dg_e]
    exact ih M3 ⟨h3, hI.2.tr f3.bf⟩
  rw [t8]
  have bf : BFr M M3 := hI.2.tr f3.bf
  obtain ⟨e1, e2, e3, e4, e5, e6, e7, e8, e9, e10, e11, e12, e13⟩ := hb.2.2.2.2.1
  have m25 : M3 104 25 = M 104 25 := bf.m (by omega)
  rcases h3.2 with w | ⟨_, _, P, s0, hp, hi, tm⟩
  · omega
  have p25 : P 104 25 = M3 104 25 := hp.1.2.2.2.2.1
  obtain ⟨pv, _, _⟩ := hp.ok h3.1.1
  have ri : RI P (rnF P s0 (M3 104 25).toNat) (P 104 25) := by
    have := rn_R pv hi (M3 104 25).toNat (by omega)
    rw [Int.toNat_of_nonneg (by omega)] at this
    rw [p25]
    exact this
  have to : ∀ a w, 0 ≤ a → a < 8 → 0 ≤ w → w ≤ 6 → toF M a w = tolF P (rnF P s0 (M3 104 25).toNat) (P 104 25) a w := fun a w a0 a1 w0 w1 => by
    have this : toF M a w = tolF P (rnF P s0 (M3 104 25).toNat) (M 104 25) a w := (tv_to hs h a0 a1 w0 w1).fr bf P s0 hp hi
    rw [this, p25, m25]
  have wh : ∀ i, 0 ≤ i → i < M 104 25 → whF M i = M3 135 (3 * i) := fun i i0 i1 => by
    have this : whF M i = rnF P s0 (M3 104 25).toNat 135 (3 * i) := (tv_wh hs h i0 i1).fr bf P s0 hp hi
    rw [this, ← tm.sf (c := 135) (by omega)]
  have lt : (cV M fun P s => ltA P s (M 104 25)) = ltA P (rnF P s0 (M3 104 25).toNat) (P 104 25) := by
    have this : (cV M fun P s => ltA P s (M 104 25)) = ltA P (rnF P s0 (M3 104 25).toNat) (M 104 25) := (tv_lt hs h).fr bf P s0 hp hi
    rw [this, p25, m25]
  have r0 : rgF M 0 = M3 104 49 := by
    have this : rgF M 0 = if (0 : Int) = 0 then rnF P s0 (M3 104 25).toNat 104 49 else rnF P s0 (M3 104 25).toNat 104 50 := (tv_rg hs h (w := 0) (by omega) (by omega)).fr bf P s0 hp hi
    rw [this, if_pos rfl, tm.1 104 49 (by unfold isS; omega)]
  have r1 : rgF M 1 = M3 104 50 := by
    have this : rgF M 1 = if (1 : Int) = 0 then rnF P s0 (M3 104 25).toNat 104 49 else rnF P s0 (M3 104 25).toNat 104 50 := (tv_rg hs h (w := 1) (by omega) (by omega)).fr bf P s0 hp hi
    rw [this, if_neg (by omega), tm.1 104 50 (by unfold isS; omega)]
  have fl : ∀ t, 0 ≤ t → t < 8 → M3 113 t = flF M t := fun t t0 t1 => by
    rw [(rd t t0 t1).1, ← flF_bf bf]; rfl
  have last : ∀ u4 : AV, cat2 u4 = false → Rn sx L K0 R0 225 3 [vR 106, vL (dgO (flF M) (toF M) 8 (dgN (cnF M) 8 17)), vU, vI 8, u4] [] M3 (fun rv2 M2 => rv2 = some (vL (dgA M)) ∧ INVM SR M2) := by
    intro u4 hu
    refine b_225_3 hu ⟨fun _ => b_225_6 hu ?_, fun q => absurd (by omega) q⟩
    generalize hl0 : dgO (flF M) (toF M) 8 (dgN (cnF M) 8 17) = l0
    have start : Rn sx L K0 R0 225 7 [vR 106, vL (dgN (whF M) (0 : Int).toNat l0), vU, vI 0, u4] [] M3 (fun rv2 M2 => rv2 = some (vL (dgA M)) ∧ INVM SR M2) → Rn sx L K0 R0 225 7 [vR 106, vL l0, vU, vI 0, u4] [] M3 (fun rv2 M2 => rv2 = some (vL (dgA M)) ∧ INVM SR M2) := fun w => by
      rw [dgN_0] at w; exact w
    refine start ?_
    refine lpI (N := M 104 25) (G := fun k => Rn sx L K0 R0 225 7 [vR 106, vL (dgN (whF M) k.toNat l0), vU, vI k, u4] [] M3 (fun rv2 M2 => rv2 = some (vL (dgA M)) ∧ INVM SR M2)) (fun k k0 k1 ih => ?_) (b_225_7 hu ⟨fun _ => b_225_8 hu (s_180 pv ri tm ⟨_, rfl, ?_, h3⟩), fun q => absurd (by omega) q⟩) 0 (by omega) (by omega)
    · rw [dgN_s k0, wh k k0 k1] at ih
      exact b_225_7 hu ⟨fun q => absurd q (by omega), fun _ => ⟨⟨by omega, by omega⟩, ⟨by omega, by omega⟩, ⟨by omega, by omega⟩, by rw [dg_e]; exact ih⟩⟩
    · unfold dgA
      rw [← r0, ← r1, ← lt, dg_e, dg_e, dg_e, hl0]
  have task : ∀ k : Int, 0 ≤ k → k ≤ 8 → ∀ u4 : AV, cat2 u4 = false → Rn sx L K0 R0 225 3 [vR 106, vL (dgO (flF M) (toF M) k.toNat (dgN (cnF M) 8 17)), vU, vI k, u4] [] M3 (fun rv2 M2 => rv2 = some (vL (dgA M)) ∧ INVM SR M2) := by
    refine lpI (N := 8) (G := fun k => ∀ u4 : AV, cat2 u4 = false → Rn sx L K0 R0 225 3 [vR 106, vL (dgO (flF M) (toF M) k.toNat (dgN (cnF M) 8 17)), vU, vI k, u4] [] M3 (fun rv2 M2 => rv2 = some (vL (dgA M)) ∧ INVM SR M2)) (fun k k0 k1 ih u4 hu => ?_) (by rw [t8]; exact last)
    rw [dgO_s k0] at ih
    refine b_225_3 hu ⟨fun q => absurd q (by omega), fun _ => ⟨⟨k0, k1⟩, ?_⟩⟩
    rw [fl k k0 k1, dg_e]
    generalize dg (dgO (flF M) (toF M) k.toNat (dgN (cnF M) 8 17)) (flF M k) = l1 at ih ⊢
    have start : Rn sx L K0 R0 225 4 [vR 106, vL (dgN (toF M k) (0 : Int).toNat l1), vU, vI k, vI 0] [] M3 (fun rv2 M2 => rv2 = some (vL (dgA M)) ∧ INVM SR M2) → Rn sx L K0 R0 225 4 [vR 106, vL l1, vU, vI k, vI 0] [] M3 (fun rv2 M2 => rv2 = some (vL (dgA M)) ∧ INVM SR M2) := fun w => by
      rw [dgN_0] at w; exact w
    refine start ?_
    refine lpI (N := 7) (G := fun j => Rn sx L K0 R0 225 4 [vR 106, vL (dgN (toF M k) j.toNat l1), vU, vI k, vI j] [] M3 (fun rv2 M2 => rv2 = some (vL (dgA M)) ∧ INVM SR M2)) (fun j j0 j1 ih2 => ?_) (b_225_4 ⟨fun _ => b_225_5 ⟨⟨by omega, by omega⟩, by rw [t7]; exact ih _ rfl⟩, fun q => absurd (by omega) q⟩) 0 (by omega) (by omega)
    rw [dgN_s j0, to k j k0 k1 j0 (by omega)] at ih2
    exact b_225_4 ⟨fun q => absurd q (by omega), fun _ => s_189 pv ri (by omega) tm k0 k1 ⟨j0, by omega⟩ ⟨_, rfl, ⟨by omega, by omega⟩, by rw [dg_e]; exact ih2⟩⟩
  have fin := task 0 (by omega) (by omega) vU rfl
  rw [dgO_0] at fin
  exact fin
end

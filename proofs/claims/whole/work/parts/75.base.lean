section
variable {sx : Int → Int} {L : Nat} {M : Mem} {Q : Option AV → Mem → Prop} {SR : (Mem → Prop) × (Mem → Prop)}
theorem bx_98_0 {x1 : Int} (hx : ¬ (0 ≤ x1 ∧ x1 < 8)) (h : Q (some (vI (-2))) M) : Rn sx L K0 R0 98 0 [vR 2, vI x1] [] M Q := by
  refine Rn_w (by decide) ?_
  show wpc sx L K0 R0 98 [(0, 1, .iload_n 1, []), (1, 3, .invokestatic 87, [125, 668, 1]), (4, 3, .ifCond .eq 15, [1]), (7, 1, .aload_n 0, []), (8, 3, .getfield 18, [8, 1, 567]), (11, 1, .iload_n 1, []), (12, 1, .aaload, []), (13, 3, .getfield 96, [1, 3, 273]), (16, 3, .goto 5, [2])] 0 [vR 2, vI x1] [] M Q
  simp only [w_il_1, w_ivs_1 (c2I _) cs0, rk_125, rvk2, List.cons_append, List.nil_append, w_if_eq]
  exact s_125 fun r hr => ⟨r, rfl, fun _ => b_98_1 (b_98_2 h), fun q => absurd (by omega) q⟩
/-- what reading may change -/
def FrR (M M' : Mem) : Prop := ∀ c k, ¬ (113 ≤ c ∧ c ≤ 120) → ¬ (c = 104 ∧ (k = 10 ∨ k = 19 ∨ k = 20 ∨ k = 21)) → M' c k = M c k
theorem FrR.rfl' : FrR M M := fun _ _ _ _ => rfl
theorem FrR.bf {M' : Mem} (f : FrR M M') : BFr M M' := fun c k q => f c k (by unfold baseC at q; omega) (by unfold baseC at q; omega)
theorem FrT.r {t : Int} {M' : Mem} (f : FrT t M M') : FrR M M' := fun c k a b => f c k (fun w => a (by omega)) (fun w => a (by omega)) (fun w => b ⟨w.1, by omega⟩)
theorem FrR.tr {M1 M2 : Mem} (f : FrR M M1) (g : FrR M1 M2) : FrR M M2 := fun c k a b => (g c k a b).trans (f c k a b)
theorem RdT.ft {x : Int → Int} {n h t u : Int} {M' : Mem} (hR : RdT x n h M t) (f : FrT u M M') (e : ¬ t = u) (hk : stN x n h ≤ 17) : RdT x n h M' t := by
  obtain ⟨h1, h2, h3, h4, h5, h6, h7⟩ := hR
  have g : ∀ c, (113 ≤ c ∧ c ≤ 117 ∨ c = 120) → M' c t = M c t := fun c q => f c t (fun w => e w.2) (by omega) (by omega)
  refine ⟨by rw [g 113 (by omega)]; exact h1, by rw [g 114 (by omega)]; exact h2, by rw [g 115 (by omega)]; exact h3, by rw [g 116 (by omega)]; exact h4, by rw [g 117 (by omega)]; exact h5, fun w => by rw [g 120 (by omega)]; exact h6 w, fun j hj => ?_⟩
  rw [f 118 _ (by omega) (by omega) (by omega), f 119 _ (by omega) (by omega) (by omega)]
  exact h7 j hj
theorem s_150 (hb : BASE M) (hr : RDI M) (hQ : ∀ M', FrR M M' → M' 104 10 = 1 → RDok M' → (M 104 10 = 1 → M' = M) → Q none M') : Mq sx L K0 R0 150 [vR 106] M Q := by
  have hT := hb.1
  refine m_150 (b_150_0 ⟨fun q => b_150_1 ?_, fun q => ?_⟩)
  · have f0 : FrR M (mset M 104 10 1) := fun c k _ b => ms_ne (by omega)
    refine lpM (N := 8) (I := fun k M' => FrR M M' ∧ M' 104 10 = 1 ∧ ∀ t, 0 ≤ t → t < k → RdT (txR M t) (M 109 t) (M 104 0) M' t) (G := fun k M' => Rn sx L K0 R0 150 2 [vR 106, vI k] [] M' Q) (fun k M' k0 k1 hI ih => ?_) (fun M' hI => b_150_2 ⟨fun _ => b_150_3 (hQ M' hI.1 hI.2.1 (fun t a b => ?_) (fun w => by omega)), fun q => absurd (by omega) q⟩) 0 _ (by omega) (by omega) ⟨f0, ms_eq, fun t a b => by omega⟩
    · obtain ⟨i1, i2, i3⟩ := hI
      obtain ⟨n0, n1, _, _⟩ := hb.2.1 k k0 k1
      refine b_150_2 ⟨fun q => absurd q (by omega), fun _ => s_149 (x := txR M k) (n := M 109 k) (h := M 104 0) k0 k1 n0 n1 hT.1 hT.2.1 (i1.bf.m (by omega)) (i1.bf.a (c := 109) (by omega) k) (fun j j0 j1 => ?_) fun M2 g1 g2 => ⟨rfl, ⟨by omega, by omega⟩, ih M2 ⟨i1.tr g2.r, by rw [g2 _ _ (by omega) (by omega) (by omega)]; exact i2, fun t a b => ?_⟩⟩⟩
      · rw [i1.bf.a (c := 110) (by omega)]
        unfold txR
        rw [if_pos ⟨j0, j1⟩]
      · by_cases e : t = k
        · rw [e]; exact g1
        · exact (i3 t a (by omega)).ft g2 e (stN_le (hb.2.1 t a (by omega)))
    · have b' := hI.1.bf
      rw [b'.tx, b'.a (c := 109) (by omega), b'.m (k := 0) (by omega)]
      exact hI.2.2 t a b
  · rcases hr with w | w
    · exact absurd w q
    · exact hQ M FrR.rfl' w.1 w.2 (fun _ => rfl)
theorem INV0.rd {M' : Mem} (hs : SROK SR) (h : INV0 SR M) (f : FrR M M') (e : M' 104 10 = 1) (r : RDok M') : INV0 SR M' := by
  obtain ⟨h1, h2, h3, h4, h5, h6, h7⟩ := h
  have b := f.bf
  refine ⟨h1.fr b, Or.inr ⟨e, r⟩, by rw [f _ _ (by omega) (by omega)]; exact h3, h4.fr b fun c k q => f c k (by omega) (by omega), hs.1 M M' h5 b fun c k q => f c k (by omega) (by omega), hs.2.2 M M' h6 fun c k q => f c k (by omega) (by omega), ?_⟩
  unfold FND
  rw [f 104 64 (by omega) (by omega), f 0 9 (by omega) (by omega)]
  exact h7
theorem RUNR.rd {M' : Mem} (h : RUNR M) (f : FrR M M') (s : M 104 10 = 1 → M' = M) : RUNR M' := by
  rcases h with h | ⟨h1, h2, h3⟩
  · exact Or.inl (by rw [f _ _ (by omega) (by omega)]; exact h)
  · rw [s h2]; exact Or.inr ⟨h1, h2, h3⟩
theorem s_150i (hs : SROK SR) (h : INVM SR M) (hQ : ∀ M', INVM SR M' → M' 104 10 = 1 → RDok M' → FrR M M' → Q none M') : Mq sx L K0 R0 150 [vR 106] M Q :=
  s_150 h.1.1 h.1.2.1 fun M' f e r s => hQ M' ⟨h.1.rd hs f e r, h.2.rd f s⟩ e r f
theorem s_150z (hs : SROK SR) (h : INV0 SR M) (hQ : ∀ M', INV0 SR M' → M' 104 10 = 1 → RDok M' → FrR M M' → Q none M') : Mq sx L K0 R0 150 [vR 106] M Q :=
  s_150 h.1 h.2.1 fun M' f e r _ => hQ M' (h.rd hs f e r) e r f
/-- those that are: over either invariant -/
theorem s_154 {I : Mem → Prop} (hI : ∀ M, I M → BASE M) (hrd : ∀ (Q : Option AV → Mem → Prop), (∀ M', I M' → M' 104 10 = 1 → RDok M' → FrR M M' → Q none M') → Mq sx L K0 R0 150 [vR 106] M Q) (hQ : ∀ M', I M' → M' 104 10 = 1 → RDok M' → FrR M M' → Q (some (vI (areB M))) M') : Mq sx L K0 R0 154 [vR 106] M Q := by
  refine m_154 (b_154_0 (hrd _ fun M1 i1 e1 r1 f1 => ⟨rfl, ?_⟩))
  have hb := hI M1 i1
  have d := hb.2.2.2.1
  have ea : areB M1 = areB M := f1.bf.are
  have hQ' := hQ M1 i1 e1 r1 f1
  rw [← ea] at hQ'
  have dB : inB (M1 104 9) := ⟨d.1, by have := d.2.1; omega⟩
  refine lpI (N := 8) (G := fun k => Rn sx L K0 R0 154 1 [vR 106, vI (mkB k.toNat fun t => decide (ftF (txR M1 t) (M1 109 t) (M1 104 0) = -1) && !tb (M1 104 9) t), vI k] [] M1 Q) (fun k k0 k1 ih => ?_) (b_154_1 ⟨fun _ => b_154_4 hQ', fun q => absurd (by omega) q⟩) 0 (by omega) (by omega)
  rw [mkB_s k0] at ih
  have hB := mkB_B k.toNat (fun t => decide (ftF (txR M1 t) (M1 109 t) (M1 104 0) = -1) && !tb (M1 104 9) t) (by omega)
  generalize (mkB k.toNat fun t => decide (ftF (txR M1 t) (M1 109 t) (M1 104 0) = -1) && !tb (M1 104 9) t) = b at ih hB ⊢
  have e113 := (r1 k k0 k1).1
  have no : (decide (ftF (txR M1 k) (M1 109 k) (M1 104 0) = -1) && !tb (M1 104 9) k) = false → Rn sx L K0 R0 154 2 [vR 106, vI b, vI k] [vI b] M1 Q := by
    intro w
    rw [w, if_neg (by decide)] at ih
    refine b_154_2 (b_154_3 ⟨⟨by omega, by omega⟩, ?_⟩)
    rw [or_0 hB]; exact ih
  refine b_154_1 ⟨fun q => absurd q (by omega), fun _ => ⟨⟨k0, k1⟩, ?_⟩⟩
  rw [e113]
  refine ⟨fun q => no (by rw [decide_eq_false q]; rfl), fun q => ⟨⟨dB.1, k0, by omega⟩, fun q2 => no ?_, fun q2 => ⟨pow30 k0 (by omega), b_154_3 ⟨⟨by omega, by omega⟩, ?_⟩⟩⟩⟩
  · rw [bt_ne dB] at q2
    rw [show tb (M1 104 9) k = true by simpa using q2]; simp
  · have q3 := Decidable.not_not.mp q2
    rw [bt_ne dB] at q3
    rw [q3, decide_eq_true (Decidable.not_not.mp q), if_pos (by decide)] at ih
    exact ih
/-- what is told goes into a run -/
def FrA (M M' : Mem) : Prop := ∀ c k, ¬ (113 ≤ c ∧ c ≤ 122) → ¬ (c = 104 ∧ (k = 10 ∨ k = 19 ∨ k = 20 ∨ k = 21 ∨ k = 27 ∨ k = 30 ∨ k = 33 ∨ k = 34)) → M' c k = M c k
theorem FrA.bf {M' : Mem} (f : FrA M M') : BFr M M' := fun c k q => f c k (by unfold baseC at q; omega) (by unfold baseC at q; omega)
theorem FrR.a {M' : Mem} (f : FrR M M') : FrA M M' := fun c k a b => f c k (by omega) (by omega)
theorem FrA.tr {M1 M2 : Mem} (f : FrA M M1) (g : FrA M1 M2) : FrA M M2 := fun c k a b => (g c k a b).trans (f c k a b)
/-- the reference's memory tells its run what is told -/
def AsT (M : Mem) : Prop := M 104 27 = areB M ∧ (∀ t, 0 ≤ t → t < 8 → M 121 t = M 111 t ∧ M 122 t = 0) ∧ M 104 30 = -1 ∧ M 104 33 = M 104 22 ∧ M 104 34 = M 104 23
theorem INV0.fa {M' : Mem} (hs : SROK SR) (h : INV0 SR M) (f : FrA M M') (e : M' 104 10 = M 104 10) (g : ∀ c k, 113 ≤ c ∧ c ≤ 120 → M' c k = M c k) : INV0 SR M' := by
  obtain ⟨h1, h2, h3, h4, h5, h6, h7⟩ := h
  have b := f.bf
  refine ⟨h1.fr b, ?_, by rw [f _ _ (by omega) (by omega)]; exact h3, h4.fr b fun c k q => f c k (by omega) (by omega), hs.1 M M' h5 b fun c k q => f c k (by omega) (by omega), hs.2.2 M M' h6 fun c k q => f c k (by omega) (by omega), ?_⟩
  · unfold RDI
    rw [e]
    exact h2.imp id fun w => ⟨w.1, w.2.fr b g⟩
  · unfold FND
    rw [f 104 64 (by omega) (by omega), f 0 9 (by omega) (by omega)]
    exact h7
theorem s_159 {I : Mem → Prop} (hI : ∀ M, I M → BASE M) (hrd : ∀ (Q : Option AV → Mem → Prop), (∀ M', I M' → M' 104 10 = 1 → RDok M' → FrR M M' → Q none M') → Mq sx L K0 R0 150 [vR 106] M Q) (hQ : ∀ M1 M', I M1 → M1 104 10 = 1 → RDok M1 → FrA M M1 → (∀ c k, ¬ (c = 121 ∨ c = 122) → ¬ (c = 104 ∧ (k = 27 ∨ k = 30 ∨ k = 33 ∨ k = 34)) → M' c k = M1 c k) → AsT M' → Q none M') : Mq sx L K0 R0 159 [vR 106] M Q := by
  refine m_159 (b_159_0 (s_154 hI hrd fun M1 i1 e1 r1 f1 => ⟨_, rfl, ?_⟩))
  have hb := hI M1 i1
  refine lpM (N := 8) (I := fun k M' => (∀ c k, ¬ (c = 121 ∨ c = 122) → ¬ (c = 104 ∧ k = 27) → M' c k = M1 c k) ∧ M' 104 27 = areB M ∧ ∀ t, 0 ≤ t → t < k → M' 121 t = M1 111 t ∧ M' 122 t = 0) (G := fun k M' => Rn sx L K0 R0 159 1 [vR 106, vI k] [] M' Q) (fun k M' k0 k1 hJ ih => ?_) (fun M' hJ => b_159_1 ⟨fun _ => b_159_2 ?_, fun q => absurd (by omega) q⟩) 0 _ (by omega) (by omega) ⟨fun c k _ b => ms_ne b, ms_eq, fun t a b => by omega⟩
  · obtain ⟨j1, j2, j3⟩ := hJ
    refine b_159_1 ⟨fun q => absurd q (by omega), fun _ => ⟨⟨k0, k1⟩, ⟨k0, k1⟩, ⟨k0, k1⟩, ⟨by omega, by omega⟩, ih _ ⟨fun c i a b => ?_, ?_, fun t a b => ?_⟩⟩⟩
    · rw [ms_c (by omega), ms_c (by omega)]; exact j1 c i a b
    · rw [ms_c (by omega), ms_c (by omega)]; exact j2
    · by_cases e : t = k
      · rw [e, ms_c (by omega), ms_eq, ms_eq]
        exact ⟨j1 111 k (by omega) (by omega), rfl⟩
      · rw [ms_c (by omega), ms_k e, ms_k e, ms_c (by omega)]
        exact j3 t a (by omega)
  · obtain ⟨j1, j2, j3⟩ := hJ
    have e22 : mset M' 104 30 (-1) 104 22 = M1 104 22 := by rw [ms_k (by omega)]; exact j1 _ _ (by omega) (by omega)
    have e23 : mset (mset M' 104 30 (-1)) 104 33 (M1 104 22) 104 23 = M1 104 23 := by rw [ms_k (by omega), ms_k (by omega)]; exact j1 _ _ (by omega) (by omega)
    rw [e22, e23]
    have g : ∀ c k, ¬ (c = 121 ∨ c = 122) → ¬ (c = 104 ∧ (k = 27 ∨ k = 30 ∨ k = 33 ∨ k = 34)) → mset (mset (mset M' 104 30 (-1)) 104 33 (M1 104 22)) 104 34 (M1 104 23) c k = M1 c k := fun c k a b => by
      rw [ms_ne (by omega), ms_ne (by omega), ms_ne (by omega)]; exact j1 c k a (by omega)
    have gb : BFr M1 (mset (mset (mset M' 104 30 (-1)) 104 33 (M1 104 22)) 104 34 (M1 104 23)) := fun c k q => g c k (by unfold baseC at q; omega) (by unfold baseC at q; omega)
    refine hQ M1 _ i1 e1 r1 f1.a g ⟨?_, fun t a b => ?_, ?_, ?_, ?_⟩
    · rw [gb.are, ms_k (by omega), ms_k (by omega), ms_k (by omega), j2, f1.bf.are]
    · rw [ms_c (by omega), ms_c (by omega), ms_c (by omega), ms_c (c' := 122) (by omega), ms_c (c' := 122) (by omega), ms_c (c' := 122) (by omega), gb.a (c := 111) (by omega)]
      exact j3 t a b
    · rw [ms_k (by omega), ms_k (by omega), ms_eq]
    · rw [ms_k (by omega), ms_eq, gb.m (by omega)]
    · rw [ms_eq, gb.m (by omega)]
/-- the reference's memory describes itself -/
theorem AsT.pds (hb : BASE M) (hr : RDok M) (ha : AsT M) (hl : 0 ≤ M 104 32 ∧ M 104 32 ≤ 21) : PDs M M 6 := by
  obtain ⟨⟨a1, a2, a3, a4, a5⟩, b, c, d, ⟨e1, e2, e3, e4, e5, e6, e7, e8, e9, e10, e11, e12, e13⟩, g⟩ := id hb
  obtain ⟨t1, t2, t3, t4, t5⟩ := ha
  refine ⟨⟨rfl, rfl, fun _ _ _ => ⟨rfl, rfl, rfl⟩, rfl, rfl, fun t t0 t1 => ⟨?_, rfl⟩⟩, ⟨by rw [g, t1], by rw [e3, t4], by rw [e6, t5], e9, fun t a b => ?_, by rw [e13, t3], fun q => by omega⟩, fun t a b w => by rw [t1] at w; exact w, by rw [t1]; exact areB_B, by rw [t4]; exact e1, by rw [t4]; exact e2, by rw [t5]; exact e4, by rw [t5]; exact e5, hl.1, hl.2, fun t a b => ?_⟩
  · obtain ⟨_, h2, h3, h4, h5, _, h7⟩ := hr t t0 t1
    exact ⟨h2, h3, h4, h5, h7⟩
  · obtain ⟨r1, r2, r3, r4, r5, r6, r7⟩ := c t a b
    rw [(t2 t a b).1, (t2 t a b).2]
    exact ⟨r3, r7⟩
  · obtain ⟨r1, r2, r3, r4, r5, r6, r7⟩ := c t a b
    rw [(t2 t a b).1, (t2 t a b).2]
    exact ⟨r1, r2, by omega, by omega⟩
/-- what a told run of the reference may change -/
def FrM (M M' : Mem) : Prop := ∀ c k, ¬ (113 ≤ c ∧ c ≤ 137) → ¬ (c = 104 ∧ (k = 10 ∨ (19 ≤ k ∧ k ≤ 21) ∨ (26 ≤ k ∧ k ≤ 34) ∨ (49 ≤ k ∧ k ≤ 51))) → M' c k = M c k
theorem FrM.bf {M' : Mem} (f : FrM M M') : BFr M M' := fun c k q => f c k (by unfold baseC at q; omega) (by unfold baseC at q; omega)
theorem FrM.tr {M1 M2 : Mem} (f : FrM M M1) (g : FrM M1 M2) : FrM M M2 := fun c k a b => (g c k a b).trans (f c k a b)
theorem FrA.mm {M' : Mem} (f : FrA M M') : FrM M M' := fun c k a b => f c k (by omega) (by omega)
theorem FrR.mm {M' : Mem} (f : FrR M M') : FrM M M' := f.a.mm
theorem Frm.mm {M' : Mem} (f : Frm M M') : FrM M M' := fun c k a b => f c k (by unfold runC; omega)
/-- invariants but the reference's run, over a run -/
theorem INV0.fm {M' : Mem} (hs : SROK SR) (h : INV0 SR M) (f : FrM M M') (e : M' 104 10 = M 104 10) (e32 : M' 104 32 = M 104 32) (g : ∀ c k, 113 ≤ c ∧ c ≤ 120 → M' c k = M c k) : INV0 SR M' := by
  obtain ⟨h1, h2, h3, h4, h5, h6, h7⟩ := h
  have b := f.bf
  refine ⟨h1.fr b, ?_, by rw [e32]; exact h3, h4.fr b fun c k q => f c k (by omega) (by omega), hs.1 M M' h5 b fun c k q => f c k (by omega) (by omega), hs.2.2 M M' h6 fun c k q => f c k (by omega) (by omega), ?_⟩
  · unfold RDI
    rw [e]
    exact h2.imp id fun w => ⟨w.1, w.2.fr b g⟩
  · unfold FND
    rw [f 104 64 (by omega) (by omega), f 0 9 (by omega) (by omega)]
    exact h7
theorem s_181 (hs : SROK SR) (h : INVM SR M) (hQ : ∀ M', INVM SR M' → M' 104 26 = 1 → RDok M' → FrM M M' → Q none M') : Mq sx L K0 R0 181 [vR 106] M Q := by
  refine m_181 (b_181_0 (s_150i hs h fun M1 h1 e1 r1 f1 => ⟨rfl, fun q => b_181_1 ?_, fun q => ?_⟩))
  · have e26 : M1 104 26 = 1 := by
      rcases h1.2 with w | w
      · exact absurd w q
      · exact w.1
    exact hQ M1 h1 e26 r1 f1.mm
  · refine s_159 (I := INVM SR) (fun M h => h.1.1) (fun Q hQ => s_150i hs h1 hQ) fun M2 M3 h2 e2 r2 f2 g3 a3 => ⟨rfl, ?_⟩
    have f3 : FrA M2 M3 := fun c k a b => g3 c k (by omega) (by omega)
    have e3 : M3 104 10 = M2 104 10 := g3 _ _ (by omega) (by omega)
    have k3 : ∀ c k, 113 ≤ c ∧ c ≤ 120 → M3 c k = M2 c k := fun c k q => g3 c k (by omega) (by omega)
    have i3 := h2.1.fa hs f3 e3 k3
    have r3 := r2.fr f3.bf k3
    have pds := AsT.pds i3.1 r3 a3 i3.2.2.1
    obtain ⟨pv, _, _⟩ := pds.ok i3.1
    have ru := i3.1.2.2.2.2.1
    refine s_178 (P := M3) pv (fun _ _ _ => rfl) ⟨ru.2.2.2.2.2.2.2.2.2.1, ru.2.2.2.2.2.2.2.2.2.2.1⟩ fun s0 M4 hi mr f4 => ⟨rfl, b_181_1 ?_⟩
    have g4 : ∀ c k, ¬ runC c k → ¬ (c = 104 ∧ k = 26) → mset M4 104 26 1 c k = M3 c k := fun c k a b => by rw [ms_ne b]; exact f4 c k a
    have fm : FrM M3 (mset M4 104 26 1) := fun c k a b => g4 c k (by unfold runC; omega) (by omega)
    have i4 := i3.fm hs fm (g4 _ _ (by unfold runC; omega) (by omega)) (g4 _ _ (by unfold runC; omega) (by omega)) fun c k q => g4 c k (by unfold runC; omega) (by omega)
    have b4 := fm.bf
    refine hQ _ ⟨i4, Or.inr ⟨ms_eq, by rw [g4 _ _ (by unfold runC; omega) (by omega), e3, e2], M3, s0, pds.fr b4, hi, ?_⟩⟩ ms_eq (r3.fr b4 fun c k q => g4 c k (by unfold runC; omega) (by omega)) (((f1.mm.tr f2.mm).tr f3.mm).tr fm)
    rw [b4.m (k := 25) (by omega)]
    exact mr.tm.fr fun c k q => ms_ne (by unfold isS at q; omega)
end

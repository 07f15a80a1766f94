/-! the reference's works, begins, runs -/
section
variable {sx : Int → Int} {L : Nat} {P s M : Mem} {τ : Int} {Q : Option AV → Mem → Prop}
/-- what the loop over works keeps -/
def WkI (P : Mem) (k : Int) (z : Mem) : Prop := SV P z ∧ (∀ t, 0 ≤ t → t < 8 → DVt P z t) ∧ ∀ t, k ≤ t → t < 8 → W1t P z t
theorem WkI.nx {k : Int} {z : Mem} (h : WkI P k z) (hp : PV P) (hτ0 : 0 ≤ τ) (hτ : τ < 120) (h0 : 0 ≤ k) (h1 : k < 8) : WkI P (k + 1) (wk1 P τ k z) := by
  obtain ⟨a1, a2, a3⟩ := h
  have r := wk1_R hτ0 hτ hp a1 h0 h1 (a3 k (by omega) h1) (a2 k h0 h1)
  obtain ⟨r1, r2, r3, r4, r5⟩ := r
  refine ⟨r4, fun t b c => ?_, fun t b c => ?_⟩
  · by_cases e : t = k
    · rw [e]; exact r5
    · have := a2 t b c
      unfold DVt at this ⊢
      rw [r1 130 t (by omega) e, r1 128 t (by omega) e, r1 127 t (by omega) e]
      exact this
  · have e : ¬ t = k := by omega
    have := a3 t (by omega) c
    unfold W1t at this ⊢
    rw [r1 132 t (by omega) e, r1 130 t (by omega) e, r1 127 t (by omega) e]
    exact this
theorem s_177 (hR : MR P s M τ) (hp : PV P) (hτ0 : 0 ≤ τ) (hτ : τ < 120) (hI : WkI P 0 s) (hQ : ∀ M', MR P (wkF P τ 8 s) M' τ → Frm M M' → WkI P 8 (wkF P τ 8 s) → Q none M') : Mq sx L K0 R0 177 [vR 106] M Q := by
  refine m_177 (b_177_0 (lpM (N := 8) (I := fun k M' => MR P (wkF P τ k.toNat s) M' τ ∧ Frm M M' ∧ WkI P k (wkF P τ k.toNat s)) (G := fun k M' => Rn sx L K0 R0 177 1 [vR 106, vI k] [] M' Q) (fun k M' k0 k1 hJ ih => ?_) (fun M' hJ => b_177_1 ⟨fun _ => b_177_5 (hQ M' hJ.1 hJ.2.1 hJ.2.2), fun q => absurd (by omega) q⟩) 0 M (by omega) (by omega) ⟨hR, Frm.rfl', hI⟩))
  obtain ⟨j1, j2, j3⟩ := hJ
  rw [wkF_s k0] at ih
  generalize wkF P τ k.toNat s = z at j1 j3 ih
  have jn := j3.nx hp hτ0 hτ k0 k1
  have fin : ∀ M', MR P (wk1 P τ k z) M' τ → Frm M M' → Rn sx L K0 R0 177 4 [vR 106, vI k] [] M' Q := fun M' a b => b_177_4 ⟨⟨by omega, by omega⟩, ih M' ⟨a, b, jn⟩⟩
  have e132 : M' 132 k = z 132 k := by rw [j1.sf (by omega)]
  have e128 : M' 128 k = z 128 k := by rw [j1.sf (by omega)]
  have e127 : M' 127 k = z 127 k := by rw [j1.sf (by omega)]
  have e51 : M' 104 51 = τ := j1.2.2.2.2
  refine b_177_1 ⟨fun q => absurd q (by omega), fun _ => ⟨⟨k0, k1⟩, fun q => fin M' ?_ j2, fun q => ?_⟩⟩
  · unfold wk1
    rw [if_neg (by omega)]
    exact j1
  have h : z 132 k = 1 := by omega
  have w := j3.2.2 k (by omega) k1 h
  have d := (j3.2.1 k k0 k1 w.1)
  have hV := hp.2.2.2.2.2.2.2.2.2.2.2.2 k k0 k1 (j3.1.amo k0 k1 w.1)
  obtain ⟨v1, v2, v3, v4, v5, v6, v7, v8, v9⟩ := hV
  have b := (j3.1 k k0 k1).2.2.2.2.2.2.2.1 w.1
  have b3 := (j3.1 k k0 k1).2.2.1
  have b2 := (j3.1 k k0 k1).2.1
  have hst := v9 (z 127 k).toNat (by omega)
  rw [Int.toNat_of_nonneg b.2.1] at hst
  have d2 := (d.2 w.2.1).1 w.2.2
  have hl := hp.2.2.2.2.2.2.2.2.2.1
  have hl2 := hp.2.2.2.2.2.2.2.2.2.2.1
  have htk : tkO P k (z 127 k) ≤ 30 := by unfold tkO; split <;> omega
  unfold wk1 at fin
  rw [if_pos h] at fin
  have eA : mset (mset M' 131 k (M' 104 51)) 128 k ((mset M' 131 k (M' 104 51)) 128 k + 1) = mset (mset M' 131 k τ) 128 k (z 128 k + 1) := by
    rw [ms_c (c' := 128) (by omega), e128, e51]
  rw [eA]
  have jA : MR P (wkA τ k z) (mset (mset M' 131 k τ) 128 k (z 128 k + 1)) τ := (j1.set (by unfold isS; omega) (by omega)).set (by unfold isS; omega) (by omega)
  have fA : Frm M (mset (mset M' 131 k τ) 128 k (z 128 k + 1)) := (j2.set (runC_of (by omega))).set (runC_of (by omega))
  have sA := wkA_R (t := k) hτ0 hτ j3.1
  have aA : wkA τ k z 127 k = z 127 k := by unfold wkA; rw [ms_c (by omega), ms_c (by omega)]
  have aB : wkA τ k z 130 k = 1 := by unfold wkA; rw [ms_c (by omega), ms_c (by omega)]; exact w.1
  have aC : wkA τ k z 124 k = z 124 k := by unfold wkA; rw [ms_c (by omega), ms_c (by omega)]
  have x127 : (mset (mset M' 131 k τ) 128 k (z 128 k + 1)) 127 k = z 127 k := by rw [ms_c (by omega), ms_c (by omega), e127]
  have x128 : (mset (mset M' 131 k τ) 128 k (z 128 k + 1)) 128 k = z 128 k + 1 := ms_eq
  have x0 : mset M' 131 k (M' 104 51) 128 k = z 128 k := by rw [ms_c (by omega), e128]
  generalize hMA : mset (mset M' 131 k τ) 128 k (z 128 k + 1) = MA at jA fA x127 x128 ⊢
  refine ⟨⟨k0, k1⟩, ⟨k0, k1⟩, ⟨by omega, by omega⟩, ⟨k0, k1⟩, ⟨k0, k1⟩, ⟨k0, k1⟩, ?_⟩
  rw [x127]
  refine s_176 jA hp k0 k1 b.2.1 (by omega) (by omega) ⟨_, rfl, ?_⟩
  rw [x128]
  refine ⟨fun q => fin MA ?_ fA, fun q => ?_⟩
  · rw [if_neg q]
    exact jA
  have q2 := Decidable.not_not.mp q
  rw [if_pos q2] at fin
  have eB : (mset MA 128 k 0) 127 k = wkA τ k z 127 k := by rw [ms_c (by omega), x127, aA]
  rw [eB, aA]
  refine ⟨⟨k0, k1⟩, ⟨k0, k1⟩, ⟨by omega, by omega⟩, ⟨k0, k1⟩, ?_⟩
  have sB : SV P (mset (mset (wkA τ k z) 128 k 0) 127 k (wkA τ k z 127 k + 1)) := by
    refine sA.nx hp k0 k1 ?_
    rw [aA, aB]
    exact ⟨rfl, w.2⟩
  have oB : (mset (mset (wkA τ k z) 128 k 0) 127 k (wkA τ k z 127 k + 1)) 130 k = 1 := by rw [ms_c (by omega), ms_c (by omega)]; exact aB
  have GR := givF_R hp k0 k1 (P 117 k - (wkA τ k z 127 k + 1)).toNat _ sB oB (by rw [ms_eq])
  refine s_177g (τ := τ) (s := mset (mset (wkA τ k z) 128 k 0) 127 k (wkA τ k z 127 k + 1)) hp k0 k1 M (P 117 k - (wkA τ k z 127 k + 1)).toNat _ ?_ sB oB ?_ ((fA.set (runC_of (by omega))).set (runC_of (by omega))) (fun M2 g1 g2 => ?_)
  · rw [aA]
    exact (jA.set (by unfold isS; omega) (by omega)).set (by unfold isS; omega) (by omega)
  · rw [ms_eq]
  have g1' : MR P (wkB P k (wkA τ k z)) M2 τ := g1
  have GR' : GvR P k (mset (mset (wkA τ k z) 128 k 0) 127 k (wkA τ k z 127 k + 1)) (wkB P k (wkA τ k z)) := GR
  clear g1 GR
  have y127 : M2 127 k = wkB P k (wkA τ k z) 127 k := by rw [g1'.sf (by omega)]
  have y117 : M2 117 k = P 117 k := g1'.p (Or.inl (by omega))
  have y124 : M2 124 k = z 124 k := by
    rw [g1'.sf (by omega), GR'.1 124 k (by omega) (by omega), ms_c (by omega), ms_c (by omega), aC]
  have y51 : M2 104 51 = τ := g1'.2.2.2.2
  have z124 : wkB P k (wkA τ k z) 124 k = z 124 k := by rw [GR'.1 124 k (by omega) (by omega), ms_c (by omega), ms_c (by omega), aC]
  generalize wkB P k (wkA τ k z) = y at fin g1' GR' y127 z124
  refine b_177_3 ⟨⟨k0, k1⟩, ⟨k0, k1⟩, fun q => fin M2 ?_ g2, fun q => ⟨⟨by omega, by omega⟩, s_168 k0 k1 (by omega) ⟨rfl, fin _ ?_ ?_⟩⟩⟩
  · rw [if_neg (by omega)]
    exact g1'
  · rw [if_pos (by omega), y51]
    unfold endF
    rw [y124, z124]
    exact ((g1'.set (by unfold isS; omega) (by omega)).set (by unfold isS; omega) (by omega)).set (by unfold isS; omega) (by omega)
  · unfold endF
    exact ((g2.set (runC_of (by omega))).set (runC_of (by omega))).set (runC_of (by omega))
end

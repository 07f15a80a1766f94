theorem ms_k' {M : Mem} {c c' : Nat} {k k' v : Int} (h : ¬ k' = k) : mset M c k v c' k' = M c' k' := ms_ne fun q => h q.2
section
variable {sx : Int → Int} {L : Nat} {P s M : Mem} {τ : Int} {Q : Option AV → Mem → Prop}
theorem s_177g {t : Int} (hp : PV P) (h0 : 0 ≤ t) (h1 : t < 8) (M0 : Mem) : ∀ (n : Nat) (s M : Mem), MR P s M τ → SV P s → s 130 t = 1 → n = (P 117 t - s 127 t).toNat → Frm M0 M →
    (∀ M', MR P (givF P t n s) M' τ → Frm M0 M' → Rn sx L K0 R0 177 3 [vR 106, vI t] [] M' Q) → Rn sx L K0 R0 177 2 [vR 106, vI t] [] M Q := by
  intro n
  induction n with
  | zero =>
    intro s M hR hv ho hn hF hQ
    have b := (hv t h0 h1).2.2.2.2.2.2.2.1 ho
    have e117 : M 117 t = P 117 t := hR.p (Or.inl (by omega))
    have e127 : M 127 t = s 127 t := by rw [hR.sf (by omega)]
    exact b_177_2 ⟨⟨h0, h1⟩, ⟨h0, h1⟩, fun _ => hQ M hR hF, fun q => absurd (by omega) q⟩
  | succ n ih =>
    intro s M hR hv ho hn hF hQ
    obtain ⟨a1, a2, a3, a4, a5, a6, a7, a8, a9⟩ := hv t h0 h1
    have b := a8 ho
    have hV := hp.2.2.2.2.2.2.2.2.2.2.2.2 t h0 h1 (hv.amo h0 h1 ho)
    obtain ⟨v1, v2, v3, v4, v5, v6, v7, v8, v9⟩ := hV
    have hk : s 127 t < P 117 t := by omega
    have hst := v9 (s 127 t).toNat (by omega)
    rw [Int.toNat_of_nonneg b.2.1] at hst
    have hth := hp.2.2.1
    have hhv := hv_s P t b.2.1
    rw [← b.2.2.2] at hhv
    have e117 : M 117 t = P 117 t := hR.p (Or.inl (by omega))
    have e127 : M 127 t = s 127 t := by rw [hR.sf (by omega)]
    have e129 : M 129 t = s 129 t := by rw [hR.sf (by omega)]
    have e118 : M 118 = P 118 := hR.pf (by omega)
    have e119 : M 119 = P 119 := hR.pf (by omega)
    simp only [givF] at hQ
    have w : (0 : Int) ≤ 20 * t + M 127 t ∧ 20 * t + M 127 t < 160 := by omega
    refine b_177_2 ⟨⟨h0, h1⟩, ⟨h0, h1⟩, fun q => absurd q (by omega), fun _ => ⟨⟨by omega, by omega⟩, ⟨h0, h1⟩, ⟨by omega, by omega⟩, w, fun q => ?_, fun q => ⟨⟨h0, h1⟩, ⟨by omega, by omega⟩, ⟨h0, h1⟩, ⟨by omega, by omega⟩, w, ?_⟩⟩⟩
    · rw [e118, e127] at q
      rw [if_neg q] at hQ
      exact hQ M hR hF
    · rw [e118, e127] at q
      have q2 := Decidable.not_not.mp q
      rw [if_pos q2] at hQ
      rw [if_neg (by omega), if_pos q2] at hhv
      rw [e119, e127, e129, ms_c (by omega), e127]
      refine ⟨pow30 (by omega) (by omega), ⟨h0, h1⟩, ⟨h0, h1⟩, ⟨by omega, by omega⟩, ⟨h0, h1⟩, ?_⟩
      refine ih (mset (mset s 129 t (clrB (s 129 t) (P 119 (20 * t + s 127 t)))) 127 t (s 127 t + 1)) _ ((hR.set (by unfold isS; omega) (by omega)).set (by unfold isS; omega) (by omega)) (hv.mv hp h0 h1 ho hk hhv.symm (andn_B a4 (pow_B (by omega)))) (by rw [ms_c (by omega), ms_c (by omega)]; exact ho) (by rw [ms_eq]; omega) ((hF.set (runC_of (by omega))).set (runC_of (by omega))) hQ
/-- what a task's work leaves -/
def WkR (P : Mem) (t : Int) (s z : Mem) : Prop := (∀ c k, ¬ c = 126 → ¬ k = t → z c k = s c k) ∧ (∀ c k, (c = 123 ∨ c = 124 ∨ c = 132 ∨ c = 133 ∨ c = 135 ∨ c = 136 ∨ c = 104) → z c k = s c k) ∧ (∀ k, ¬ k = 200 * t + s 124 t - 1 → z 126 k = s 126 k) ∧ SV P z ∧ DVt P z t
theorem wkA_R {t : Int} (hτ0 : 0 ≤ τ) (hτ : τ < 120) (hv : SV P s) : SV P (wkA τ t s) := by
  intro k a b
  have := hv k a b
  unfold SVt at this ⊢
  unfold wkA
  rw [ms_c (c' := 123) (by omega), ms_c (c' := 123) (by omega), ms_c (c' := 124) (by omega), ms_c (c' := 124) (by omega), ms_c (c' := 127) (by omega), ms_c (c' := 127) (by omega), ms_c (c' := 129) (by omega), ms_c (c' := 129) (by omega), ms_c (c' := 130) (by omega), ms_c (c' := 130) (by omega), ms_c (c' := 131) (by omega)]
  obtain ⟨a1, a2, a3, a4, a5, a6, a7, a8, a9⟩ := this
  refine ⟨a1, a2, a3, a4, a5, a6, a7, a8, ?_⟩
  by_cases e : k = t
  · rw [e, ms_eq]; omega
  · rw [ms_k e]; exact a9
theorem SV.nx {t : Int} (hv : SV P s) (hp : PV P) (h0 : 0 ≤ t) (h1 : t < 8) (hw : s 130 t = 1 ∧ s 127 t < P 117 t ∧ P 118 (20 * t + s 127 t) = 0) : SV P (mset (mset s 128 t 0) 127 t (s 127 t + 1)) := by
  have q := hv t h0 h1
  obtain ⟨a1, a2, a3, a4, a5, a6, a7, a8, a9⟩ := q
  have hk := hv_s P t (a8 hw.1).2.1
  rw [if_pos hw.2.2] at hk
  have e : mset (mset s 128 t 0) 127 t (s 127 t + 1) = mset (mset (mset s 129 t (s 129 t)) 127 t (s 127 t + 1)) 128 t 0 := by
    rw [mset_id rfl]
    funext c k
    simp only [mset]
    by_cases x : c = 127 ∧ k = t
    · rw [if_pos x, if_neg (by omega), if_pos x]
    · rw [if_neg x, if_neg x]
  rw [e]
  refine (hv.mv (v := s 129 t) hp h0 h1 hw.1 hw.2.1 ?_ a4).same fun c k q => ms_c (by omega)
  rw [hk]
  exact (a8 hw.1).2.2.2
theorem wk1_R {t : Int} (hτ0 : 0 ≤ τ) (hτ : τ < 120) (hp : PV P) (hv : SV P s) (h0 : 0 ≤ t) (h1 : t < 8) (hw : W1t P s t) (hd : DVt P s t) : WkR P t s (wk1 P τ t s) := by
  unfold wk1
  by_cases h : s 132 t = 1
  · rw [if_pos h]
    have w := hw h
    have d := (hd w.1).2 w.2.1
    have d1 := d.1 w.2.2
    have d0 := (hd w.1).1
    have hvA := wkA_R (t := t) hτ0 hτ hv
    have a127 : wkA τ t s 127 t = s 127 t := by unfold wkA; rw [ms_c (by omega), ms_c (by omega)]
    have a130 : wkA τ t s 130 t = s 130 t := by unfold wkA; rw [ms_c (by omega), ms_c (by omega)]
    have fA : ∀ c k, ¬ (c = 131 ∧ k = t) → ¬ (c = 128 ∧ k = t) → wkA τ t s c k = s c k := fun c k q q2 => by unfold wkA; rw [ms_ne q2, ms_ne q]
    by_cases h2 : s 128 t + 1 = tkO P t (s 127 t)
    · rw [if_pos h2]
      have G : GvR P t (mset (mset (wkA τ t s) 128 t 0) 127 t (wkA τ t s 127 t + 1)) (wkB P t (wkA τ t s)) := by
        refine givF_R hp h0 h1 _ _ (hvA.nx hp h0 h1 ?_) ?_ ?_
        · rw [a127, a130]; exact w
        · rw [ms_c (by omega), ms_c (by omega), a130]; exact w.1
        · rw [ms_eq]
      generalize wkB P t (wkA τ t s) = z at G ⊢
      obtain ⟨g1, g2, g3, g4, g5⟩ := G
      have fz : ∀ c k, ¬ (c = 127 ∧ k = t) → ¬ (c = 129 ∧ k = t) → ¬ (c = 131 ∧ k = t) → ¬ (c = 128 ∧ k = t) → z c k = s c k := fun c k q1 q2 q3 q4 => by
        rw [g1 c k q1 q2, ms_ne q1, ms_ne q4, fA c k q3 q4]
      have z128 : z 128 t = 0 := by rw [g1 128 t (by omega) (by omega), ms_c (by omega), ms_eq]
      have z130 : z 130 t = 1 := by rw [fz 130 t (by omega) (by omega) (by omega) (by omega)]; exact w.1
      have z124 : z 124 t = s 124 t := fz 124 t (by omega) (by omega) (by omega) (by omega)
      by_cases h3 : z 127 t = P 117 t
      · rw [if_pos h3]
        refine ⟨fun c k q q2 => ?_, fun c k q => ?_, fun k q => ?_, g2.end' h0 h1, fun q => ?_⟩
        · unfold endF
          rw [ms_k' q2, ms_k' q2, ms_c q]
          exact fz c k (by omega) (by omega) (by omega) (by omega)
        · unfold endF
          rw [ms_c (by omega), ms_c (by omega), ms_c (by omega)]
          exact fz c k (by omega) (by omega) (by omega) (by omega)
        · unfold endF
          rw [z124, ms_c (by omega), ms_c (by omega), ms_k q]
          exact fz 126 k (by omega) (by omega) (by omega) (by omega)
        · unfold endF at q
          rw [ms_c (by omega), ms_eq] at q
          cases q
      · rw [if_neg h3]
        refine ⟨fun c k q q2 => fz c k (by omega) (by omega) (by omega) (by omega), fun c k q => fz c k (by omega) (by omega) (by omega) (by omega), fun k q => fz 126 k (by omega) (by omega) (by omega) (by omega), g2, fun _ => ⟨by omega, fun q => ⟨fun q2 => ?_, fun _ => z128⟩⟩⟩
        have hz := g2 t h0 h1
        have b := hz.2.2.2.2.2.2.2.1 z130
        have hV := hp.2.2.2.2.2.2.2.2.2.2.2.2 t h0 h1 (g2.amo h0 h1 z130)
        obtain ⟨v1, v2, v3, v4, v5, v6, v7, v8, v9⟩ := hV
        have hst := v9 (z 127 t).toNat (by omega)
        rw [Int.toNat_of_nonneg b.2.1] at hst
        have hl := hp.2.2.2.2.2.2.2.2.2.1
        rw [z128]
        unfold tkO
        split <;> omega
    · rw [if_neg h2]
      refine ⟨fun c k q q2 => fA c k (by omega) (by omega), fun c k q => fA c k (by omega) (by omega), fun k q => fA 126 k (by omega) (by omega), hvA, fun _ => ?_⟩
      have e128 : wkA τ t s 128 t = s 128 t + 1 := by unfold wkA; rw [ms_eq]
      rw [e128, a127]
      exact ⟨by omega, fun _ => ⟨fun _ => by omega, fun q => absurd w.2.2 q⟩⟩
  · rw [if_neg h]
    exact ⟨fun _ _ _ _ => rfl, fun _ _ _ => rfl, fun _ _ => rfl, hv, hd⟩
theorem wkF_s {k : Int} (h : 0 ≤ k) : wkF P τ (k + 1).toNat s = wk1 P τ k (wkF P τ k.toNat s) := by
  rw [show (k + 1).toNat = k.toNat + 1 by omega]
  simp only [wkF, Int.toNat_of_nonneg h]
end

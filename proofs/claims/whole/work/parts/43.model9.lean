section
variable {sx : Int → Int} {L : Nat} {P s M : Mem} {τ : Int} {Q : Option AV → Mem → Prop}
theorem filF_0 {h : Int} (hh : P 104 24 ≤ h) : filF P τ h s = s := by
  funext c k
  unfold filF
  rw [if_neg (by omega)]
theorem filF_s {h : Int} (hh : h < P 104 24) : filF P τ (h + 1) (mset s 135 (3 * τ + h) (-1)) = filF P τ h s := by
  funext c k
  unfold filF
  by_cases e : c = 135 ∧ k = 3 * τ + h
  · rw [e.1, e.2, ms_eq, if_neg (by omega), if_pos (by omega)]
  · rw [ms_ne e]
    by_cases e2 : c = 135 ∧ 3 * τ + h ≤ k ∧ k < 3 * τ + P 104 24
    · rw [if_pos (by omega), if_pos e2]
    · rw [if_neg (by omega), if_neg e2]
theorem SV.cho {k v : Int} (h : SV P s) : SV P (mset s 135 k v) := h.same fun c k q => ms_c (by omega)
theorem WV.cho {k v : Int} (h : WV s) : WV (mset s 135 k v) := fun t a b => by rw [ms_c (by omega)]; exact h t a b
theorem s_174f (hp : PV P) (hτ0 : 0 ≤ τ) (hτ : τ < 120) (M0 : Mem) : ∀ (m : Nat) (h : Int) (s M : Mem) (u2 u3 : AV), m = (P 104 24 - h).toNat → 0 ≤ h → MR P s M τ → SV P s → WV s → nextF P s = -1 → Frm M0 M → cat2 u2 = false → cat2 u3 = false →
    (∀ M', MR P (filF P τ h s) M' τ → Frm M0 M' → Q none M') → Rn sx L K0 R0 174 1 [vR 106, vI h, u2, u3] [] M Q := by
  intro m
  induction m with
  | zero =>
    intro h s M u2 u3 hm h0 hR hv hw hx hF h2 h3 hQ
    rw [filF_0 (by omega)] at hQ
    have e24 : M 104 24 = P 104 24 := hR.m (by omega)
    exact b_174_1 h2 h3 ⟨fun _ => b_174_8 h2 h3 (hQ M hR hF), fun q => absurd (by omega) q⟩
  | succ m ih =>
    intro h s M u2 u3 hm h0 hR hv hw hx hF h2 h3 hQ
    have e24 : M 104 24 = P 104 24 := hR.m (by omega)
    have hh := hp.2.2.2.2.2.2.2.2.1
    refine b_174_1 h2 h3 ⟨fun q => absurd q (by omega), fun _ => s_173 hR hv hp hw fun M1 j1 j2 => ⟨_, rfl, ?_⟩⟩
    rw [hx]
    have e51 : M1 104 51 = τ := j1.2.2.2.2
    refine b_174_2 ⟨fun q => absurd rfl q, fun _ => ⟨fun _ => b_174_7 ?_, fun q => absurd rfl q⟩⟩
    rw [e51]
    refine ⟨⟨by omega, by omega⟩, ⟨by omega, by omega⟩, ⟨by omega, by omega⟩, ⟨by omega, by omega⟩, ?_⟩
    refine ih (h + 1) (mset s 135 (3 * τ + h) (-1)) _ _ _ (by omega) (by omega) (j1.set (by unfold isS; omega) (by omega)) hv.cho hw.cho ?_ ((hF.tr j2).set (runC_of (by omega))) rfl rfl ?_
    · rw [nextF_same fun c q => ms_f q]
      exact hx
    · rw [filF_s (by omega)]
      exact hQ
theorem s_174l (hp : PV P) (hτ0 : 0 ≤ τ) (hτ : τ < 120) (M0 : Mem) : ∀ (n : Nat),
    (∀ (h : Int) (s M : Mem) (u2 u3 : AV), 0 ≤ h → MR P s M τ → SV P s → WV s → cn3 s ≤ n → Frm M0 M → cat2 u2 = false → cat2 u3 = false →
      (∀ M', MR P (choF P τ n h s) M' τ → Frm M0 M' → Q none M') → Rn sx L K0 R0 174 1 [vR 106, vI h, u2, u3] [] M Q) ∧
    (∀ (h : Int) (s M : Mem), 0 ≤ h → h < P 104 24 → MR P s M τ → SV P s → WV s → cn3 s ≤ n → Frm M0 M →
      (∀ M', MR P (choF P τ n h s) M' τ → Frm M0 M' → Q none M') → Rn sx L K0 R0 174 2 [vR 106, vI h, vI (-1), vI (nextF P s)] [] M Q) := by
  intro n
  have hh := hp.2.2.2.2.2.2.2.2.1
  -- block 2 where nothing is left
  have stop : ∀ (h : Int) (s M : Mem), 0 ≤ h → h < P 104 24 → MR P s M τ → SV P s → WV s → nextF P s = -1 → Frm M0 M → (∀ M', MR P (filF P τ h s) M' τ → Frm M0 M' → Q none M') → Rn sx L K0 R0 174 2 [vR 106, vI h, vI (-1), vI (nextF P s)] [] M Q := by
    intro h s M h0 h1 hR hv hw hx hF hQ
    rw [hx]
    have e51 : M 104 51 = τ := hR.2.2.2.2
    refine b_174_2 ⟨fun q => absurd rfl q, fun _ => ⟨fun _ => b_174_7 ?_, fun q => absurd rfl q⟩⟩
    rw [e51]
    refine ⟨⟨by omega, by omega⟩, ⟨by omega, by omega⟩, ⟨by omega, by omega⟩, ⟨by omega, by omega⟩, ?_⟩
    refine s_174f hp hτ0 hτ M0 _ (h + 1) (mset s 135 (3 * τ + h) (-1)) _ _ _ rfl (by omega) (hR.set (by unfold isS; omega) (by omega)) hv.cho hw.cho ?_ (hF.set (runC_of (by omega))) rfl rfl ?_
    · rw [nextF_same fun c q => ms_f q]
      exact hx
    · rw [filF_s (by omega)]
      exact hQ
  -- from block 2 to block 1
  have head : ∀ k : Nat, (∀ (h : Int) (s M : Mem), 0 ≤ h → h < P 104 24 → MR P s M τ → SV P s → WV s → cn3 s ≤ k → Frm M0 M →
      (∀ M', MR P (choF P τ k h s) M' τ → Frm M0 M' → Q none M') → Rn sx L K0 R0 174 2 [vR 106, vI h, vI (-1), vI (nextF P s)] [] M Q) →
      ∀ (h : Int) (s M : Mem) (u2 u3 : AV), 0 ≤ h → MR P s M τ → SV P s → WV s → cn3 s ≤ k → Frm M0 M → cat2 u2 = false → cat2 u3 = false →
      (∀ M', MR P (choF P τ k h s) M' τ → Frm M0 M' → Q none M') → Rn sx L K0 R0 174 1 [vR 106, vI h, u2, u3] [] M Q := by
    intro k H h s M u2 u3 h0 hR hv hw hc hF h2 h3 hQ
    have e24 : M 104 24 = P 104 24 := hR.m (by omega)
    refine b_174_1 h2 h3 ⟨fun q => b_174_8 h2 h3 (hQ M ?_ hF), fun q => s_173 hR hv hp hw fun M1 j1 j2 => ⟨_, rfl, H h s M1 h0 (by omega) j1 hv hw hc (hF.tr j2) hQ⟩⟩
    have : choF P τ k h s = s := by
      cases k with
      | zero => simp only [choF]; exact filF_0 (by omega)
      | succ k => simp only [choF]; rw [if_neg (by omega)]; exact filF_0 (by omega)
    rw [this]
    exact hR
  induction n with
  | zero =>
    have A : ∀ (h : Int) (s M : Mem), 0 ≤ h → h < P 104 24 → MR P s M τ → SV P s → WV s → cn3 s ≤ (0 : Nat) → Frm M0 M →
        (∀ M', MR P (choF P τ 0 h s) M' τ → Frm M0 M' → Q none M') → Rn sx L K0 R0 174 2 [vR 106, vI h, vI (-1), vI (nextF P s)] [] M Q := by
      intro h s M h0 h1 hR hv hw hc hF hQ
      have hx : nextF P s = -1 := by
        apply Classical.byContradiction
        intro q
        have nb := next_B (P := P) (s := s)
        have := cn3_pos (by omega) nb.2.1 (nb.2.2 q)
        omega
      exact stop h s M h0 h1 hR hv hw hx hF hQ
    exact ⟨head 0 A, A⟩
  | succ n ih =>
    have A : ∀ (h : Int) (s M : Mem), 0 ≤ h → h < P 104 24 → MR P s M τ → SV P s → WV s → cn3 s ≤ (n + 1 : Nat) → Frm M0 M →
        (∀ M', MR P (choF P τ (n + 1) h s) M' τ → Frm M0 M' → Q none M') → Rn sx L K0 R0 174 2 [vR 106, vI h, vI (-1), vI (nextF P s)] [] M Q := by
      intro h s M h0 h1 hR hv hw hc hF hQ
      by_cases hx : nextF P s = -1
      · refine stop h s M h0 h1 hR hv hw hx hF ?_
        simp only [choF] at hQ
        rw [if_neg (fun w => w.2 hx)] at hQ
        exact hQ
      simp only [choF] at hQ
      rw [if_pos ⟨h1, hx⟩] at hQ
      have nb := next_B (P := P) (s := s)
      have ho3 := nb.2.2 hx
      generalize nextF P s = i at hx nb ho3 hQ ⊢
      have i0 : 0 ≤ i := by omega
      have ho := hv.on i0 nb.2.1 ho3.1
      have hD := doF_R (τ := τ) hp i0 nb.2.1 _ s hv hw ho rfl
      have hlt := cn3_lt i0 nb.2.1 hD ho3
      refine b_174_2 ⟨fun q => absurd rfl q, fun _ => ⟨fun q => absurd q hx, fun _ => s_169 hR hv hp i0 nb.2.1 ho fun M1 j1 j2 => ⟨_, rfl, ?_⟩⟩⟩
      generalize doF P τ i (P 117 i - s 127 i).toNat s = z at hQ hD hlt j1 ⊢
      obtain ⟨d1, d2, d3, d4⟩ := hD
      by_cases w : z.1 = 0
      · rw [if_pos w]
        rw [if_pos w] at hQ
        have e51 : M1 104 51 = τ := j1.2.2.2.2
        refine ⟨fun q => absurd q (by omega), fun _ => b_174_4 ⟨fun _ => b_174_5 (b_174_6 (b_174_2 ⟨fun _ => b_174_7 ?_, fun q => absurd hx q⟩)), fun q => absurd hx q⟩⟩
        rw [e51]
        refine ⟨⟨by omega, by omega⟩, ⟨by omega, by omega⟩, ⟨by omega, by omega⟩, ⟨by omega, by omega⟩, ?_⟩
        refine ih.1 (h + 1) (mset z.2 135 (3 * τ + h) i) _ _ _ (by omega) (j1.set (by unfold isS; omega) (by omega)) d2.cho (WV.cho d3) ?_ ((hF.tr j2).set (runC_of (by omega))) rfl rfl hQ
        have e : cn3 (mset z.2 135 (3 * τ + h) i) = cn3 z.2 := by
          unfold cn3
          rw [ms_f (by omega), ms_f (by omega)]
        omega
      · rw [if_neg w]
        rw [if_neg w] at hQ
        refine ⟨fun _ => b_174_3 (b_174_4 ⟨fun q => absurd rfl q, fun _ => s_173 j1 d2 hp d3 fun M2 l1 l2 => ⟨_, rfl, b_174_6 ?_⟩⟩), fun q => absurd rfl q⟩
        exact ih.2 h z.2 M2 h0 h1 l1 d2 d3 (by omega) ((hF.tr j2).tr l2) hQ
    exact ⟨head (n + 1) A, A⟩
theorem cn3_8 : cn3 s ≤ (8 : Nat) := by
  have := sumI_0 (n := 8) (f := fun t => if ¬ s 130 t = 0 ∧ s 132 t = 3 then 1 else 0) (b := 1) (fun t _ _ => by split <;> omega)
  unfold cn3
  omega
theorem s_174 (hR : MR P s M τ) (hv : SV P s) (hp : PV P) (hw : WV s) (hτ0 : 0 ≤ τ) (hτ : τ < 120) (hQ : ∀ M', MR P (choF P τ 8 0 s) M' τ → Frm M M' → Q none M') : Mq sx L K0 R0 174 [vR 106] M Q :=
  m_174 (b_174_0 ((s_174l hp hτ0 hτ M 8).1 0 s M vU vU (by omega) hR hv hw cn3_8 Frm.rfl' rfl rfl hQ))
end

theorem mulB {a b A B : Int} (ha : 0 ≤ a) (hA : a ≤ A) (hb : 0 ≤ b) (hB : b ≤ B) : 0 ≤ a * b ∧ a * b ≤ A * B :=
  ⟨Int.mul_nonneg ha hb, Int.mul_le_mul hA hB hb (by omega)⟩
theorem IsF.uniq {b w f g : Int → Int} (hf : IsF b w f) (hg : IsF b w g) {t : Int} (h0 : 0 ≤ t) (h1 : t < 8) : f t = g t := by
  have h1' := hf.2.2 g hg.1 hg.2.1 t h0 h1
  have h2' := hg.2.2 f hf.1 hf.2.1 t h0 h1
  omega
theorem frcF_eq {b w f : Int → Int} (hf : IsF b w f) {t : Int} (h0 : 0 ≤ t) (h1 : t < 8) : frcF b w t = f t := by
  have : IsF b w (frcF b w) := by
    unfold frcF
    exact Classical.epsilon_spec_aux _ (IsF b w) ⟨f, hf⟩
  exact IsF.uniq this hf h0 h1
theorem sumI_lt {n : Nat} {f g : Int → Int} {o : Int} (h : ∀ k : Int, 0 ≤ k → k < n → f k ≤ g k) (ho : 0 ≤ o) (h1 : o < n) (h2 : f o < g o) : sumI n f < sumI n g := by
  induction n with
  | zero => omega
  | succ n ih =>
    have mono : ∀ m : Nat, m ≤ n → sumI m f ≤ sumI m g := by
      intro m
      induction m with
      | zero => intro _; simp [sumI]
      | succ m im =>
        intro hm
        simp only [sumI]
        have := im (by omega)
        have := h m (by omega) (by omega)
        omega
    simp only [sumI]
    by_cases e : o = n
    · subst e
      have := mono n (by omega)
      omega
    · have := ih (fun k a b => h k a (by omega)) (by omega)
      have := h n (by omega) (by omega)
      omega
section
variable {sx : Int → Int} {L : Nat} {P s M : Mem} {τ : Int} {Q : Option AV → Mem → Prop}
theorem MR.set134 {k v : Int} (h : MR P s M τ) : MR P s (mset M 134 k v) τ := by
  obtain ⟨h1, h2, h3, h4, h5⟩ := h
  refine ⟨fun c' k' q => ?_, fun c' k' q => ?_, fun h a b => ?_, fun t j a b a2 b2 => ?_, ?_⟩
  · rw [ms_c (by unfold isP at q; omega)]; exact h1 _ _ q
  · rw [ms_c (by unfold isS at q; omega)]; exact h2 _ _ q
  · rw [ms_c (by omega)]; exact h3 h a b
  · rw [ms_c (by omega)]; exact h4 t j a b a2 b2
  · rw [ms_c (by omega)]; exact h5
theorem SV.on (hv : SV P s) {i : Int} (h0 : 0 ≤ i) (h1 : i < 8) (h : ¬ s 130 i = 0) : s 130 i = 1 := by
  have := (hv i h0 h1).2.2.2.2.1
  omega
theorem kb_B (hv : SV P s) (hp : PV P) {i : Int} (h0 : 0 ≤ i) (h1 : i < 8) (ho : s 130 i = 1) : 0 ≤ (s 124 i - 1) * P 114 i ∧ (s 124 i - 1) * P 114 i ≤ 119 * 60 := by
  have q := hv i h0 h1
  obtain ⟨v1, v2, v3⟩ := hp.2.2.2.2.2.2.2.2.2.2.2.2 i h0 h1 (hv.amo h0 h1 ho)
  obtain ⟨a1, a2, a3, a4, a5, a6, a7, a8, a9⟩ := q
  have := a8 ho
  exact mulB (by omega) (by omega) (by omega) (by omega)
theorem s_170 {i : Int} (hR : MR P s M τ) (hv : SV P s) (hp : PV P) (h0 : 0 ≤ i) (h1 : i < 8) (ho : s 130 i = 1) (hQ : Q (some (vI (kbF P s i))) M) : Mq sx L K0 R0 170 [vR 106, vI i] M Q := by
  have q := hv i h0 h1
  obtain ⟨a1, a2, a3, a4, a5, a6, a7, a8, a9⟩ := q
  have b := a8 ho
  have hm := kb_B hv hp h0 h1 ho
  obtain ⟨v1, v2, v3, v4, v5, v6, v7⟩ := hp.2.2.2.2.2.2.2.2.2.2.2.2 i h0 h1 (hv.amo h0 h1 ho)
  obtain ⟨r1, r2, r3, r4⟩ := hp.2.2.2.2.2.2.2.2.2.2.2.1 i h0 h1
  have e33 : M 104 33 = P 104 33 := hR.m (by omega)
  have e121 : M 121 i = P 121 i := hR.p (Or.inl (by omega))
  have e115 : M 115 i = P 115 i := hR.p (Or.inl (by omega))
  have e124 : M 124 i = s 124 i := by rw [hR.sf (by omega)]
  have e131 : M 131 i = s 131 i := by rw [hR.sf (by omega)]
  have e125 : M 125 (200 * i + M 124 i - 1) = caF P i (s 124 i - 1) := by
    rw [show 200 * i + M 124 i - 1 = 200 * i + (s 124 i - 1) by omega]
    exact hR.2.2.2.1 i _ h0 h1 (by omega) (by omega)
  unfold kbF at hQ
  refine m_170 (b_170_0 ⟨fun q => b_170_1 ⟨fun q2 => b_170_2 ⟨⟨h0, h1⟩, b_170_3 ?_⟩, fun q2 => ⟨⟨by omega, by omega⟩, ⟨h0, h1⟩, ⟨by omega, by omega⟩, ⟨by omega, by omega⟩, ⟨by omega, by omega⟩, ⟨h0, h1⟩, ?_, b_170_3 ?_⟩⟩, fun q => ⟨⟨h0, h1⟩, ⟨by omega, by omega⟩, b_170_3 ?_⟩⟩)
  · rw [if_neg (by omega), if_neg (by omega)] at hQ
    rw [e131]
    exact hQ
  · rw [e125]
    unfold caF
    exact ⟨by omega, by omega⟩
  · rw [if_neg (by omega), if_pos (by omega)] at hQ
    rw [e125, e115]
    exact hQ
  · rw [if_pos (by omega)] at hQ
    rw [e121]
    exact hQ
def WV (s : Mem) : Prop := ∀ t, 0 ≤ t → t < 8 → inB (s 133 t)
/-- what the loop over forces keeps -/
def PreF (b w f : Int → Int) : Prop := (∀ t, 0 ≤ t → t < 8 → f t ≤ b t) ∧ ∀ g : Int → Int, (∀ t, 0 ≤ t → t < 8 → g t ≤ b t) → clF w g → ∀ t, 0 ≤ t → t < 8 → g t ≤ f t
theorem s_171w (hp : PV P) (hw : WV s) (hb : ∀ t, 0 ≤ t → t < 8 → -1 ≤ baF P s t) (M0 : Mem) : ∀ (n : Nat) (M : Mem) (u2 u3 : AV), MR P s M τ → Frm M0 M → PreF (baF P s) (s 133) (M 134) → sumI 8 (M 134) + 8 < n → cat2 u2 = false → cat2 u3 = false →
    (∀ M', MR P s M' τ → Frm M0 M' → IsF (baF P s) (s 133) (M' 134) → Q none M') → Rn sx L K0 R0 171 7 [vR 106, vI 1, u2, u3] [] M Q := by
  have low : ∀ M : Mem, PreF (baF P s) (s 133) (M 134) → ∀ t, 0 ≤ t → t < 8 → -1 ≤ M 134 t := fun M h t a b => h.2 (fun _ => -1) hb (fun _ _ _ _ _ _ _ => Int.le_refl _) t a b
  intro n
  induction n with
  | zero =>
    intro M u2 u3 hR hF hP hn h2 h3 hQ
    have := low M hP
    simp only [sumI] at hn
    have q0 := this 0 (by omega) (by omega)
    have q1 := this 1 (by omega) (by omega)
    have q2 := this 2 (by omega) (by omega)
    have q3 := this 3 (by omega) (by omega)
    have q4 := this 4 (by omega) (by omega)
    have q5 := this 5 (by omega) (by omega)
    have q6 := this 6 (by omega) (by omega)
    have q7 := this 7 (by omega) (by omega)
    have e0 : ((0 : Nat) : Int) = 0 := rfl
    have e1 : ((1 : Nat) : Int) = 1 := rfl
    have e2 : ((2 : Nat) : Int) = 2 := rfl
    have e3 : ((3 : Nat) : Int) = 3 := rfl
    have e4 : ((4 : Nat) : Int) = 4 := rfl
    have e5 : ((5 : Nat) : Int) = 5 := rfl
    have e6 : ((6 : Nat) : Int) = 6 := rfl
    have e7 : ((7 : Nat) : Int) = 7 := rfl
    rw [e0, e1, e2, e3, e4, e5, e6, e7] at hn
    omega
  | succ n ih =>
    intro M u2 u3 hR hF hP hn h2 h3 hQ
    -- one pass: what is kept at (t, o)
    let I : Int → Int → Int → Mem → Prop := fun t o m M' => MR P s M' τ ∧ Frm M0 M' ∧ PreF (baF P s) (s 133) (M' 134) ∧ ((m = 0 ∧ M' = M ∧ ∀ t' o', 0 ≤ t' → t' < 8 → 0 ≤ o' → o' < 8 → (t' < t ∨ t' = t ∧ o' < o) → tb (s 133 t') o' = true → M 134 o' ≤ M 134 t') ∨ (m = 1 ∧ sumI 8 (M' 134) < sumI 8 (M 134)))
    have outer : ∀ t, 0 ≤ t → t ≤ 8 → ∀ m M' u3, I t 0 m M' → cat2 u3 = false → Rn sx L K0 R0 171 8 [vR 106, vI m, vI t, u3] [] M' Q := by
      refine lpI (N := 8) (fun t t0 t1 iht => ?_) ?_
      · intro m M' u3 hI h3
        have inner : ∀ o, 0 ≤ o → o ≤ 8 → ∀ m M', I t o m M' → Rn sx L K0 R0 171 9 [vR 106, vI m, vI t, vI o] [] M' Q := by
          refine lpI (N := 8) (fun o o0 o1 iho => ?_) ?_
          · intro m M' hI
            obtain ⟨i1, i2, i3, i4⟩ := hI
            have e133 : M' 133 = s 133 := i1.sf (by omega)
            have hwt := hw t t0 t1
            have same : (tb (s 133 t) o = true → M' 134 o ≤ M' 134 t) → Rn sx L K0 R0 171 10 [vR 106, vI m, vI t, vI o] [] M' Q := by
              intro hc
              refine b_171_10 ⟨⟨by omega, by omega⟩, iho m M' ⟨i1, i2, i3, ?_⟩⟩
              rcases i4 with ⟨j1, j2, j3⟩ | j
              · refine Or.inl ⟨j1, j2, fun t' o' a b c d e f => ?_⟩
                by_cases e2 : t' = t ∧ o' = o
                · rw [e2.1, e2.2] at f ⊢
                  rw [← j2]
                  exact hc f
                · exact j3 t' o' a b c d (by omega) f
              · exact Or.inr j
            refine b_171_9 ⟨fun q => absurd q (by omega), fun _ => ⟨⟨t0, t1⟩, ?_⟩⟩
            rw [e133]
            refine ⟨⟨hwt.1, o0, by omega⟩, fun q => same fun f => ?_, fun q => ⟨⟨t0, t1⟩, ⟨o0, o1⟩, fun q2 => same fun _ => q2, fun q2 => ⟨⟨t0, t1⟩, ⟨o0, o1⟩, b_171_10 ⟨⟨by omega, by omega⟩, iho 1 _ ⟨i1.set134, i2.set (runC_of (by omega)), ?_, ?_⟩⟩⟩⟩⟩
            · rw [bt_1 hwt] at q
              exact absurd f q
            · rw [bt_1 hwt] at q
              have q3 := Decidable.not_not.mp q
              refine ⟨fun k a b => ?_, fun g g1 g2 k a b => ?_⟩
              · by_cases e : k = o
                · rw [e, ms_eq]
                  have := i3.1 o o0 o1
                  omega
                · rw [ms_k e]; exact i3.1 k a b
              · by_cases e : k = o
                · rw [e, ms_eq]
                  have x1 := i3.2 g g1 g2 t t0 t1
                  have x2 := g2 t o t0 t1 o0 o1 q3
                  omega
                · rw [ms_k e]; exact i3.2 g g1 g2 k a b
            · have lt : sumI 8 (mset M' 134 o (M' 134 t) 134) < sumI 8 (M' 134) := by
                refine sumI_lt (o := o) (fun k a b => ?_) o0 (by omega) ?_
                · by_cases e : k = o
                  · rw [e, ms_eq]; omega
                  · rw [ms_k e]; omega
                · rw [ms_eq]; omega
              refine Or.inr ⟨rfl, ?_⟩
              rcases i4 with ⟨j1, j2, j3⟩ | j
              · rw [← j2]; exact lt
              · omega
          · intro m M' hI
            refine b_171_9 ⟨fun _ => b_171_11 ⟨⟨by omega, by omega⟩, iht m M' _ ?_ rfl⟩, fun q => absurd (by omega) q⟩
            obtain ⟨i1, i2, i3, i4⟩ := hI
            refine ⟨i1, i2, i3, ?_⟩
            rcases i4 with ⟨j1, j2, j3⟩ | j
            · exact Or.inl ⟨j1, j2, fun t' o' a b c d e f => j3 t' o' a b c d (by omega) f⟩
            · exact Or.inr j
        exact b_171_8 h3 ⟨fun q => absurd q (by omega), fun _ => inner 0 (by omega) (by omega) m M' hI⟩
      · intro m M' u3 hI h3
        obtain ⟨i1, i2, i3, i4⟩ := hI
        refine b_171_8 h3 ⟨fun _ => b_171_12 h3 ?_, fun q => absurd (by omega) q⟩
        rcases i4 with ⟨j1, j2, j3⟩ | ⟨j1, j2⟩
        · rw [j1]
          refine b_171_7 rfl h3 ⟨fun _ => b_171_13 rfl h3 (hQ _ i1 i2 ⟨i3.1, fun t o a b c d e => ?_, i3.2⟩), fun q => absurd rfl q⟩
          rw [j2]
          exact j3 t o a b c d (by omega) e
        · rw [j1]
          exact ih M' _ _ i1 i2 i3 (by omega) rfl h3 hQ
    exact b_171_7 h2 h3 ⟨fun q => absurd q (by omega), fun _ => outer 0 (by omega) (by omega) 0 M u3 ⟨hR, hF, hP, Or.inl ⟨rfl, rfl, fun t' o' a b c d e => by omega⟩⟩ h3⟩
theorem s_171 (hR : MR P s M τ) (hv : SV P s) (hp : PV P) (hw : WV s) (hQ : ∀ M', MR P s M' τ → Frm M M' → (∀ t, 0 ≤ t → t < 8 → M' 134 t = frc P s t) → Q none M') : Mq sx L K0 R0 171 [vR 106] M Q := by
  refine m_171 (b_171_0 (lpM (N := 8) (I := fun k M' => MR P s M' τ ∧ Frm M M' ∧ ∀ t, 0 ≤ t → t < k → M' 134 t = baF P s t) (G := fun k M' => Rn sx L K0 R0 171 1 [vR 106, vI k, vU, vU] [] M' Q) (fun k M' k0 k1 hI ih => ?_) (fun M' hI => ?_) 0 M (by omega) (by omega) ⟨hR, Frm.rfl', fun t a b => by omega⟩))
  · obtain ⟨i1, i2, i3⟩ := hI
    have e130 : M' 130 k = s 130 k := by rw [i1.sf (by omega)]
    have fin : ∀ y, y = baF P s k → Rn sx L K0 R0 171 3 [vR 106, vI k, vU, vU] [vI y, vI k, vR 136] M' Q := by
      intro y hy
      refine b_171_3 ⟨⟨k0, k1⟩, ⟨by omega, by omega⟩, ih _ ⟨i1.set134, i2.set (runC_of (by omega)), fun t a b => ?_⟩⟩
      by_cases e : t = k
      · rw [e, ms_eq, hy]
      · rw [ms_k e]; exact i3 t a (by omega)
    refine b_171_1 ⟨fun q => absurd q (by omega), fun _ => ⟨⟨k0, k1⟩, fun q => b_171_2 (fin 0 ?_), fun q => s_170 i1 hv hp k0 k1 (hv.on k0 k1 (by omega)) ⟨_, rfl, fin _ ?_⟩⟩⟩
    · unfold baF
      rw [if_pos (by omega)]
    · unfold baF
      rw [if_neg (by omega)]
  · obtain ⟨i1, i2, i3⟩ := hI
    have e33 : M' 104 33 = P 104 33 := i1.m (by omega)
    have e34 : M' 104 34 = P 104 34 := i1.m (by omega)
    have no : ¬ (0 < P 104 34 ∧ P 104 33 < 2) → Rn sx L K0 R0 171 5 [vR 106, vI 8, vU, vU] [] M' Q := by
      intro q
      refine b_171_5 (b_171_6 (b_171_7 rfl rfl ⟨fun _ => b_171_13 rfl rfl (hQ _ i1 i2 ?_), fun q => absurd rfl q⟩))
      unfold frc
      rw [if_neg q]
      exact i3
    refine b_171_1 ⟨fun _ => b_171_4 ⟨fun q => no (by omega), fun q => ⟨fun q2 => no (by omega), fun q2 => b_171_6 ?_⟩⟩, fun q => absurd (by omega) q⟩
    have hb : ∀ t, 0 ≤ t → t < 8 → -1 ≤ baF P s t := by
      intro t a b
      unfold baF
      split
      · omega
      · next h =>
        have ho := hv.on a b h
        have hk := kb_B hv hp a b ho
        obtain ⟨v1, v2, v3, v4, v5, v6, v7⟩ := hp.2.2.2.2.2.2.2.2.2.2.2.2 t a b (hv.amo a b ho)
        obtain ⟨r1, r2, r3, r4⟩ := hp.2.2.2.2.2.2.2.2.2.2.2.1 t a b
        have := hp.2.2.2.1
        unfold kbF
        split
        · omega
        · rw [if_pos (by omega)]
          omega
    refine s_171w hp hw hb M (sumI 8 (M' 134) + 9).toNat M' vU vU i1 i2 ⟨fun t a b => by rw [i3 t a b]; omega, fun g g1 g2 t a b => by rw [i3 t a b]; exact g1 t a b⟩ ?_ rfl rfl (fun M2 m1 m2 m3 => hQ _ m1 m2 fun t a b => ?_)
    · omega
    · unfold frc
      rw [if_pos (by omega)]
      exact (frcF_eq m3 a b).symm
end

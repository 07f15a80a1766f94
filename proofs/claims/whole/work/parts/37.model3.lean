theorem mset_id {M : Mem} {c : Nat} {k v : Int} (h : M c k = v) : mset M c k v = M := by
  funext c' k'
  by_cases e : c' = c ∧ k' = k
  · rw [e.1, e.2, ms_eq, h]
  · rw [ms_ne e]
theorem ms_f {M : Mem} {c c' : Nat} {k v : Int} (h : ¬ c' = c) : mset M c k v c' = M c' := by
  funext k'
  exact ms_c h
theorem isS_runC {c : Nat} {k : Int} (h : isS c k) : runC c k := by
  unfold isS at h
  unfold runC
  omega
theorem isS_isP {c : Nat} {k : Int} (h : isS c k) : ¬ isP c k := by
  unfold isS at h
  unfold isP
  omega
theorem MR.set {P s M : Mem} {τ : Int} {c : Nat} {k v : Int} (h : MR P s M τ) (hc : isS c k) (hn : ¬ c = 123) : MR P (mset s c k v) (mset M c k v) τ := by
  obtain ⟨h1, h2, h3, h4, h5⟩ := h
  have hS := hc
  unfold isS at hc
  refine ⟨fun c' k' q => ?_, fun c' k' q => ?_, fun h a b => ?_, fun t j a b a2 b2 => ?_, ?_⟩
  · rw [ms_ne (fun e => isS_isP hS (by rw [← e.1, ← e.2]; exact q))]
    exact h1 _ _ q
  · by_cases e : c' = c ∧ k' = k
    · rw [e.1, e.2, ms_eq, ms_eq]
    · rw [ms_ne e, ms_ne e]
      exact h2 _ _ q
  · rw [ms_c (by omega)]
    exact h3 h a b
  · rw [ms_c (by omega)] at b2
    rw [ms_c (by omega)]
    exact h4 t j a b a2 b2
  · rw [ms_ne (by omega)]
    exact h5
section
variable {sx : Int → Int} {L : Nat} {P s M : Mem} {τ : Int} {Q : Option AV → Mem → Prop}
theorem MR.p (h : MR P s M τ) {c : Nat} {k : Int} (q : isP c k) : M c k = P c k := h.1 c k q
theorem MR.st (h : MR P s M τ) {c : Nat} {k : Int} (q : isS c k) : M c k = s c k := h.2.1 c k q
theorem MR.pf (h : MR P s M τ) {c : Nat} (q : 105 ≤ c ∧ c ≤ 122) : M c = P c := by
  funext k
  exact h.1 c k (Or.inl q)
theorem MR.sf (h : MR P s M τ) {c : Nat} (q : c = 123 ∨ c = 124 ∨ (126 ≤ c ∧ c ≤ 133) ∨ c = 135 ∨ c = 136) : M c = s c := by
  funext k
  exact h.2.1 c k (by unfold isS; omega)
theorem MR.m (h : MR P s M τ) {k : Int} (q : ¬ k = 49 ∧ ¬ k = 50 ∧ ¬ k = 51) : M 104 k = P 104 k := h.1 104 k (Or.inr ⟨rfl, q⟩)
theorem MR.hi (h : MR P s M τ) (x : Int) : hiR M x = hiR P x := by
  unfold hiR tksP
  rw [h.m (by omega), h.pf (c := 117) (by omega), h.pf (c := 118) (by omega), h.pf (c := 119) (by omega), h.pf (c := 121) (by omega)]
theorem MR.cnt (h : MR P s M τ) (i x : Int) : cntO M i x = cntO s i x := by
  unfold cntO
  rw [h.sf (c := 129) (by omega)]
theorem MR.bar (h : MR P s M τ) (i : Int) : barB M M i = barB P s i := by
  unfold barB
  simp only [h.hi, h.cnt, h.m (k := 34) (by omega), h.m (k := 0) (by omega), h.pf (c := 121) (by omega)]
theorem MR.ful (h : MR P s M τ) (i x : Int) : fulP M M i x = fulP P s i x := by
  unfold fulP
  simp only [h.cnt, h.pf (c := 106) (by omega)]
theorem MR.brk (h : MR P s M τ) (x : Int) : brkP M (M 104 51) x = brkP P τ x := by
  unfold brkP
  simp only [h.pf (c := 107) (by omega), h.pf (c := 108) (by omega), h.2.2.2.2]
theorem SV.amo (h : SV P s) {i : Int} (h0 : 0 ≤ i) (h1 : i < 8) (ho : s 130 i = 1) : tb (P 104 27) i = true := by
  obtain ⟨a1, a2, a3, a4, a5, a6, a7, a8, a9⟩ := h i h0 h1
  cases e : tb (P 104 27) i
  · have := a7 e
    have := (a8 ho).1
    omega
  · rfl
theorem s_167 {i h : Int} (hR : MR P s M τ) (hv : SV P s) (hp : PV P) (h0 : 0 ≤ i) (h1 : i < 8) (g0 : 0 ≤ h) (g1 : h < P 104 0) (hi : tb (s 129 i) h = false)
    (hQ1 : waitP P s τ i h = true → Q (some (vI 0)) (mset (mset M 132 i 2) 133 i (wtB P s i h))) (hQ2 : waitP P s τ i h = false → Q (some (vI 1)) (mset M 129 i (iOr (s 129 i) (1 * 2 ^ h.toNat)))) : Mq sx L K0 R0 167 [vR 106, vI i, vI h] M Q := by
  have e129 : M 129 = s 129 := hR.sf (by omega)
  have hb : ∀ t, 0 ≤ t → t < 8 → inB (M 129 t) := fun t a b => by rw [e129]; exact (hv t a b).2.2.2.1
  have hth : 0 ≤ M 104 0 ∧ M 104 0 ≤ 6 := by rw [hR.m (by omega)]; exact ⟨hp.2.1, hp.2.2.1⟩
  have hhi : ∀ h, 0 ≤ h → h < M 104 0 → M 137 h = hiR M h := fun h a b => by
    rw [hR.m (by omega)] at b
    rw [hR.hi, hR.2.2.1 h a b]
  have hth2 := hp.2.2.1
  have e106 : M 106 h = P 106 h := by rw [hR.pf (by omega)]
  -- behind the first question
  have two : ∀ y : Int, y = (if fulP P s i h = true then 1 else 0) → Rn sx L K0 R0 167 2 [vR 106, vI i, vI h, vU, vU] [vI y] M Q := by
    intro y hy
    refine b_167_2 (s_164 hb h0 h1 hth hhi ⟨_, rfl, ?_⟩)
    rw [hR.bar]
    have hB : inB (barB P s i) := mkB_B 6 _ (by omega)
    have wait : waitP P s τ i h = true → Rn sx L K0 R0 167 3 [vR 106, vI i, vI h, vI y, vI (barB P s i)] [] M Q := by
      intro w
      have fin : ∀ z : Int, z = (if fulP P s i h = true then 1 * 2 ^ h.toNat else 0) → Rn sx L K0 R0 167 5 [vR 106, vI i, vI h, vI y, vI (barB P s i)] [vI z, vI (barB P s i), vR 106, vI i, vR 135] (mset M 132 i 2) Q := by
        intro z hz
        refine b_167_5 (s_166 ⟨_, rfl, ⟨h0, h1⟩, ?_⟩)
        rw [ms_f (by omega), e129, hz]
        exact hQ1 w
      refine b_167_3 ⟨⟨h0, h1⟩, fun q => b_167_4 (fin 0 ?_), fun q => ⟨pow30 g0 (by omega), fin _ ?_⟩⟩
      · rw [hy] at q
        split at q
        · cases q
        · next e => rw [if_neg e]
      · rw [hy] at q
        split at q
        · next e => rw [if_pos e]
        · exact absurd rfl q
    refine ⟨fun q => wait ?_, fun q => ⟨fun q2 => wait ?_, fun q2 => s_165 g0 (by omega) ⟨_, rfl, fun q3 => ?_, fun q3 => wait ?_⟩⟩⟩
    · rw [hy] at q
      unfold waitP
      split at q
      · next e => rw [e]; rfl
      · exact absurd rfl q
    · unfold waitP
      rw [decide_eq_true q2]
      simp
    · rw [hR.brk] at q3
      have w : waitP P s τ i h = false := by
        unfold waitP
        have e1 : fulP P s i h = false := by
          cases e : fulP P s i h
          · rfl
          · rw [hy, e] at q; exact absurd (by decide) q
        have e2 : brkP P τ h = false := by
          cases e : brkP P τ h
          · rfl
          · rw [e] at q3; cases q3
        rw [e1, e2, decide_eq_false q2]
        rfl
      have := hQ2 w
      rw [← e129] at this
      exact b_167_6 ⟨⟨h0, h1⟩, pow30 g0 (by omega), ⟨h0, h1⟩, this⟩
    · rw [hR.brk] at q3
      unfold waitP
      cases e : brkP P τ h
      · rw [e] at q3; exact absurd rfl q3
      · simp
  refine m_167 (b_167_0 (s_162 hb g0 (by omega) ⟨_, rfl, ⟨g0, by omega⟩, ?_⟩))
  rw [cnt_all (by rw [e129]; exact hi) h0 h1, hR.cnt, e106]
  refine ⟨fun q => b_167_1 (two 0 ?_), fun q => two 1 ?_⟩
  · unfold fulP
    rw [decide_eq_false (by omega)]
    rfl
  · unfold fulP
    rw [decide_eq_true (by omega)]
    rfl
theorem s_168 {i on : Int} (h0 : 0 ≤ i) (h1 : i < 8) (hb : 1 ≤ M 124 i ∧ M 124 i ≤ 120) (hQ : Q none (endF on i M)) : Mq sx L K0 R0 168 [vR 106, vI i, vI on] M Q :=
  m_168 (b_168_0 ⟨⟨by omega, by omega⟩, ⟨h0, h1⟩, ⟨by omega, by omega⟩, ⟨by omega, by omega⟩, ⟨by omega, by omega⟩, ⟨h0, h1⟩, ⟨h0, h1⟩, hQ⟩)
theorem SV.mv (h : SV P s) (hp : PV P) {i v : Int} (h0 : 0 ≤ i) (h1 : i < 8) (ho : s 130 i = 1) (hk : s 127 i < P 117 i) (hv : v = hvF P i (s 127 i + 1).toNat) (hB : inB v) : SV P (mset (mset s 129 i v) 127 i (s 127 i + 1)) := by
  intro t a b
  have q := h t a b
  obtain ⟨a1, a2, a3, a4, a5, a6, a7, a8, a9⟩ := q
  unfold SVt
  rw [ms_c (by omega), ms_c (by omega), ms_c (c' := 123) (by omega), ms_c (c' := 123) (by omega), ms_c (c' := 130) (by omega), ms_c (c' := 130) (by omega), ms_c (c' := 131) (by omega), ms_c (c' := 131) (by omega), ms_c (c' := 129) (by omega)]
  by_cases e : t = i
  · subst e
    rw [ms_eq, ms_eq]
    refine ⟨a1, a2, a3, hB, a5, fun q => by omega, a7, fun _ => ⟨(a8 ho).1, by have := (a8 ho).2.1; omega, by omega, hv⟩, a9⟩
  · rw [ms_k e, ms_k e, ms_c (by omega)]
    exact ⟨a1, a2, a3, a4, a5, a6, a7, a8, a9⟩
end

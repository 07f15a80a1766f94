/-! what a try of a task leaves -/
section
variable {sx : Int → Int} {L : Nat} {P s M : Mem} {τ : Int} {Q : Option AV → Mem → Prop}
/-- the cells of others, and what a try never writes -/
def DoK (i : Int) (s s' : Mem) : Prop := (∀ c k, (c = 123 ∨ c = 124 ∨ c = 128 ∨ c = 131 ∨ c = 135 ∨ c = 136 ∨ c = 104) → s' c k = s c k) ∧ (∀ c k, ¬ c = 126 → ¬ k = i → s' c k = s c k) ∧ ∀ k, ¬ k = 200 * i + s 124 i - 1 → s' 126 k = s 126 k
theorem DoK.rfl' {i : Int} : DoK i s s := ⟨fun _ _ _ => rfl, fun _ _ _ _ => rfl, fun _ _ => rfl⟩
theorem DoK.set {i v : Int} {c : Nat} {s' : Mem} (h : DoK i s s') (hc : c = 127 ∨ c = 129 ∨ c = 130 ∨ c = 132 ∨ c = 133) : DoK i s (mset s' c i v) := by
  refine ⟨fun c' k q => ?_, fun c' k q q2 => ?_, fun k q => ?_⟩
  · rw [ms_c (by omega)]; exact h.1 c' k q
  · rw [ms_ne (by omega)]; exact h.2.1 c' k q q2
  · rw [ms_c (by omega)]; exact h.2.2 k q
theorem DoK.tr {i : Int} {s1 s2 : Mem} (h : DoK i s s1) (h2 : DoK i s1 s2) : DoK i s s2 := by
  refine ⟨fun c k q => (h2.1 c k q).trans (h.1 c k q), fun c k q q2 => (h2.2.1 c k q q2).trans (h.2.1 c k q q2), fun k q => (h2.2.2 k ?_).trans (h.2.2 k q)⟩
  rw [h.1 124 i (by omega)]
  exact q
/-- what a try comes to -/
def DoR (P s : Mem) (i : Int) (z : Int × Mem) : Prop := DoK i s z.2 ∧ SV P z.2 ∧ (∀ t, 0 ≤ t → t < 8 → inB (z.2 133 t)) ∧
  ((z.1 = 0 ∧ z.2 132 i = 1 ∧ z.2 130 i = 1 ∧ z.2 127 i < P 117 i ∧ P 118 (20 * i + z.2 127 i) = 0) ∨ (z.1 = 1 ∧ z.2 132 i = 2 ∧ z.2 130 i = 1 ∧ z.2 127 i < P 117 i ∧ P 118 (20 * i + z.2 127 i) = 1) ∨ (z.1 = 2 ∧ z.2 132 i = 0 ∧ z.2 130 i = 0)) ∧ (s 127 i ≤ z.2 127 i) ∧ (¬ z.1 = 1 → z.2 133 i = s 133 i)
theorem SV.same {s' : Mem} (h : SV P s) (e : ∀ c k, (c = 123 ∨ c = 124 ∨ c = 127 ∨ c = 129 ∨ c = 130 ∨ c = 131) → s' c k = s c k) : SV P s' := by
  intro t a b
  have := h t a b
  unfold SVt at this ⊢
  rw [e 123 t (by omega), e 124 t (by omega), e 127 t (by omega), e 129 t (by omega), e 130 t (by omega), e 131 t (by omega)]
  exact this
theorem SV.end' {i : Int} (h : SV P s) (h0 : 0 ≤ i) (h1 : i < 8) : SV P (endF τ i s) := by
  intro t a b
  have := h t a b
  unfold SVt at this ⊢
  unfold endF
  rw [ms_c (c' := 123) (by omega), ms_c (c' := 123) (by omega), ms_c (c' := 123) (by omega), ms_c (c' := 124) (by omega), ms_c (c' := 124) (by omega), ms_c (c' := 124) (by omega), ms_c (c' := 127) (by omega), ms_c (c' := 127) (by omega), ms_c (c' := 127) (by omega), ms_c (c' := 131) (by omega), ms_c (c' := 131) (by omega), ms_c (c' := 131) (by omega), ms_c (c' := 130) (by omega)]
  obtain ⟨a1, a2, a3, a4, a5, a6, a7, a8, a9⟩ := this
  by_cases e : t = i
  · subst e
    rw [ms_eq, ms_eq]
    exact ⟨a1, a2, a3, ⟨by omega, by omega⟩, Or.inl rfl, fun _ => rfl, a7, fun q => by omega, a9⟩
  · rw [ms_k e, ms_k e, ms_c (by omega), ms_c (by omega)]
    exact ⟨a1, a2, a3, a4, a5, a6, a7, a8, a9⟩
theorem wtB_B {i h : Int} : inB (wtB P s i h) := mkB_B 8 _ (by omega)
theorem doF_R {i : Int} (hp : PV P) (h0 : 0 ≤ i) (h1 : i < 8) : ∀ (n : Nat) (s : Mem), SV P s → WV s → s 130 i = 1 → n = (P 117 i - s 127 i).toNat → DoR P s i (doF P τ i n s) := by
  intro n
  induction n with
  | zero =>
    intro s hv hw ho hn
    simp only [doF]
    unfold DoR
    dsimp only
    refine ⟨?_, ?_, ?_, ?_, ?_, ?_⟩
    · unfold endF
      refine DoK.set (DoK.set (DoK.set ⟨fun c k q => ms_c (by omega), fun c k q q2 => ms_c (by omega), fun k q => ms_k (by omega)⟩ (by omega)) (by omega)) (by omega)
    · exact (hv.end' h0 h1).same fun c k q => ms_c (by omega)
    · intro t a b
      unfold endF
      rw [ms_c (by omega), ms_c (by omega), ms_c (by omega), ms_c (by omega)]
      exact hw t a b
    · refine Or.inr (Or.inr ⟨rfl, ms_eq, ?_⟩)
      unfold endF
      rw [ms_c (by omega), ms_c (by omega), ms_eq]
    · unfold endF
      rw [ms_c (by omega), ms_c (by omega), ms_c (by omega), ms_c (by omega)]
      omega
    · intro _
      unfold endF
      rw [ms_c (by omega), ms_c (by omega), ms_c (by omega), ms_c (by omega)]
  | succ n ih =>
    intro s hv hw ho hn
    obtain ⟨a1, a2, a3, a4, a5, a6, a7, a8, a9⟩ := hv i h0 h1
    have b := a8 ho
    have hV := hp.2.2.2.2.2.2.2.2.2.2.2.2 i h0 h1 (hv.amo h0 h1 ho)
    obtain ⟨v1, v2, v3, v4, v5, v6, v7, v8, v9⟩ := hV
    have hk : s 127 i < P 117 i := by omega
    have hst := v9 (s 127 i).toNat (by omega)
    rw [Int.toNat_of_nonneg b.2.1] at hst
    have hth := hp.2.2.1
    have hhv := hv_s P i b.2.1
    rw [← b.2.2.2] at hhv
    have go : ∀ v, v = hvF P i (s 127 i + 1).toNat → inB v → DoR P s i (doF P τ i n (mset (mset s 129 i v) 127 i (s 127 i + 1))) := by
      intro v hv2 hB
      have r := ih (mset (mset s 129 i v) 127 i (s 127 i + 1)) (hv.mv hp h0 h1 ho hk hv2 hB) (fun t a b => by rw [ms_c (by omega), ms_c (by omega)]; exact hw t a b) (by rw [ms_c (by omega), ms_c (by omega)]; exact ho) (by rw [ms_eq]; omega)
      obtain ⟨r1, r2, r3, r4, r5, r6⟩ := r
      rw [ms_eq] at r5
      rw [ms_c (by omega), ms_c (by omega)] at r6
      exact ⟨((DoK.rfl'.set (by omega)).set (by omega)).tr r1, r2, r3, r4, by omega, r6⟩
    simp only [doF]
    by_cases q : P 118 (20 * i + s 127 i) = 0
    · rw [if_pos q]
      unfold DoR
      dsimp only
      refine ⟨DoK.rfl'.set (by omega), hv.same fun c k q => ms_c (by omega), fun t a b => by rw [ms_c (by omega)]; exact hw t a b, Or.inl ⟨rfl, ms_eq, ?_, ?_, ?_⟩, ?_, fun _ => ms_c (by omega)⟩
      · rw [ms_c (by omega)]; exact ho
      · rw [ms_c (by omega)]; exact hk
      · rw [ms_c (by omega)]; exact q
      · rw [ms_c (by omega)]; omega
    · rw [if_neg q]
      have hst2 := hst.resolve_left (fun q2 => q q2.1)
      by_cases g : P 118 (20 * i + s 127 i) = 2
      · rw [if_pos g]
        rw [if_neg q, if_pos g] at hhv
        exact go _ hhv.symm (andn_B a4 (pow_B (by omega)))
      · rw [if_neg g]
        rw [if_neg q, if_neg g] at hhv
        split
        · unfold DoR
          dsimp only
          refine ⟨(DoK.rfl'.set (by omega)).set (by omega), hv.same fun c k q => by rw [ms_c (by omega), ms_c (by omega)], fun t a b => ?_, Or.inr (Or.inl ⟨rfl, ?_, ?_, ?_, ?_⟩), ?_, fun q => absurd rfl q⟩
          · by_cases e : t = i
            · rw [e, ms_eq]; exact wtB_B
            · rw [ms_k e, ms_c (by omega)]; exact hw t a b
          · rw [ms_c (by omega), ms_eq]
          · rw [ms_c (by omega), ms_c (by omega)]; exact ho
          · rw [ms_c (by omega), ms_c (by omega)]; exact hk
          · rw [ms_c (by omega), ms_c (by omega)]; omega
          · rw [ms_c (by omega), ms_c (by omega)]; omega
        · exact go _ hhv.symm (or_B a4 (pow_B (by omega)))
/-- how many are still to be tried -/
def cn3 (s : Mem) : Int := sumI 8 fun t => if ¬ s 130 t = 0 ∧ s 132 t = 3 then 1 else 0
theorem cn3_lt {i : Int} {z : Int × Mem} (h0 : 0 ≤ i) (h1 : i < 8) (h : DoR P s i z) (ho : ¬ s 130 i = 0 ∧ s 132 i = 3) : cn3 z.2 < cn3 s := by
  unfold cn3
  have n3 : ¬ z.2 132 i = 3 := by rcases h.2.2.2.1 with q | q | q <;> omega
  refine sumI_lt (o := i) (fun k a b => ?_) h0 (by omega) ?_
  · by_cases e : k = i
    · rw [e]
      rw [if_neg (fun w => n3 w.2)]
      split <;> omega
    · rw [h.1.2.1 130 k (by omega) e, h.1.2.1 132 k (by omega) e]
      omega
  · rw [if_neg (fun w => n3 w.2), if_pos ho]
    omega
theorem cn3_pos {i : Int} (h0 : 0 ≤ i) (h1 : i < 8) (ho : ¬ s 130 i = 0 ∧ s 132 i = 3) : 0 < cn3 s := by
  have := sumI_lt (n := 8) (f := fun _ => 0) (g := fun t => if ¬ s 130 t = 0 ∧ s 132 t = 3 then 1 else 0) (o := i) (fun k a b => by split <;> omega) h0 (by omega) (by rw [if_pos ho]; omega)
  have e : sumI 8 (fun _ => 0) = 0 := by decide
  unfold cn3
  omega
theorem next_B : -1 ≤ nextF P s ∧ nextF P s < 8 ∧ (¬ nextF P s = -1 → ¬ s 130 (nextF P s) = 0 ∧ s 132 (nextF P s) = 3) := nx_B 8
theorem nextF_same {s' : Mem} (e : ∀ c, ¬ c = 135 → s' c = s c) : nextF P s' = nextF P s := by
  have e1 : frc P s' = frc P s := by
    unfold frc baF kbF
    simp only [e 130 (by omega), e 124 (by omega), e 131 (by omega), e 133 (by omega)]
  have e4 : ∀ t, firP P s' t = firP P s t := fun t => by unfold firP; rw [e 129 (by omega)]
  have e3 : ∀ t z, betF (frc P s) P s' t z = betF (frc P s) P s t z := fun t z => by unfold betF; rw [e4]
  have e2 : ∀ n, nx (frc P s) P s' n = nx (frc P s) P s n := by
    intro n
    induction n with
    | zero => rfl
    | succ n ih =>
      simp only [nx, ih, e3, e4, e 130 (by omega), e 132 (by omega)]
  unfold nextF
  rw [e1, e2]
end

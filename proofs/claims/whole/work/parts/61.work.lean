/-! the class: a tick of work -/
section
variable {sx : Int → Int} {L : Nat} {P s z M : Mem} {τ T : Int} {Q : Option AV → Mem → Prop} {B : Nat}
def FrW (B : Nat) (i : Int) (M M' : Mem) : Prop := ∀ c k, ¬ (c = ckA B i ∧ (k = 10 ∨ k = 11 ∨ k = 12)) → M' c k = M c k
theorem FrW.rfl' {i : Int} : FrW B i M M := fun _ _ _ => rfl
theorem FrW.set {i : Int} {M1 : Mem} {k v : Int} (h : FrW B i M M1) (hk : k = 10 ∨ k = 11 ∨ k = 12) : FrW B i M (mset M1 (ckA B i) k v) := fun c' k' q => by
  rw [ms_ne (fun e => q ⟨e.1, by omega⟩), h c' k' q]
theorem FrW.b {i : Int} {M1 : Mem} (h : FrW B i M M1) (h0 : 0 ≤ i) (h1 : i < 8) : FrB B M M1 := fun c k q => h c k fun e => q (by rw [e.1]; exact ck_in h0 h1)
theorem s_6g {i : Int} (hB : isRb B) (hp : PV P) (h0 : 0 ≤ i) (h1 : i < 8) (hA : tb (P 104 27) i = true) (M0 : Mem) (x1 : Int) : ∀ (n : Nat) (s M : Mem), CPl P M → SV P s → s 130 i = 1 → n = (P 117 i - s 127 i).toNat → M (ckA B i) 12 = s 129 i → M (ckA B i) 10 = s 127 i → FrW B i M0 M →
    (∀ M', FrW B i M0 M' → M' (ckA B i) 11 = M (ckA B i) 11 → M' (ckA B i) 12 = givF P i n s 129 i → M' (ckA B i) 10 = givF P i n s 127 i → CPl P M' → ∀ x2, Rn sx L K0 R0 6 4 [vR (ckA B i + 2), vI x1, vI x2] [] M' Q) → Rn sx L K0 R0 6 3 [vR (ckA B i + 2), vI x1, vI (s 127 i)] [] M Q := by
  have hc := isCk_A hB h0 h1
  intro n
  induction n with
  | zero =>
    intro s M hC hv ho hn e12 e10 hF hQ
    have b := (hv i h0 h1).2.2.2.2.2.2.2.1 ho
    refine b_6_3 hc ⟨fun _ => hQ M hF rfl e12 e10 hC _, fun q => ?_⟩
    rw [plC_A hB h0 h1]
    refine s_25 hC hp h0 h1 hA b.2.1 (fun w => absurd w (by omega)) (fun _ => ⟨_, rfl, fun _ => hQ M hF rfl e12 e10 hC _, fun w => absurd w (by omega)⟩)
  | succ n ih =>
    intro s M hC hv ho hn e12 e10 hF hQ
    obtain ⟨a1, a2, a3, a4, a5, a6, a7, a8, a9⟩ := hv i h0 h1
    have b := a8 ho
    have hV := hp.2.2.2.2.2.2.2.2.2.2.2.2 i h0 h1 hA
    obtain ⟨v1, v2, v3, v4, v5, v6, v7, v8, v9⟩ := hV
    have hk : s 127 i < P 117 i := by omega
    have hst := v9 (s 127 i).toNat (by omega)
    rw [Int.toNat_of_nonneg b.2.1] at hst
    have hth := hp.2.2.1
    have hhv := hv_s P i b.2.1
    rw [← b.2.2.2] at hhv
    simp only [givF] at hQ
    refine b_6_3 hc ⟨fun q => absurd q (by omega), fun _ => ?_⟩
    rw [plC_A hB h0 h1]
    refine s_25 hC hp h0 h1 hA b.2.1 (fun _ => ⟨_, rfl, fun q => ?_, fun q => s_26 hC hp h0 h1 hA b.2.1 hk ⟨_, rfl, ?_⟩⟩) (fun q => absurd q (by omega))
    · rw [if_neg (by omega)] at hQ
      exact hQ M hF rfl e12 e10 hC _
    · have g : P 118 (20 * i + s 127 i) = 2 := by omega
      rw [if_pos g] at hQ
      rw [if_neg (by omega), if_pos g] at hhv
      rw [e12]
      refine ⟨pow30 (by omega) (by omega), ⟨by omega, by omega⟩, ⟨by omega, by omega⟩, ?_⟩
      have F2 : FrW B i M (mset (mset M (ckA B i) 12 (iAnd (s 129 i) (iXor (1 * 2 ^ (P 119 (20 * i + s 127 i)).toNat) (-1)))) (ckA B i) 10 (s 127 i + 1)) := (FrW.rfl'.set (by omega)).set (by omega)
      have := ih (mset (mset s 129 i (clrB (s 129 i) (P 119 (20 * i + s 127 i)))) 127 i (s 127 i + 1)) (mset (mset M (ckA B i) 12 (iAnd (s 129 i) (iXor (1 * 2 ^ (P 119 (20 * i + s 127 i)).toNat) (-1)))) (ckA B i) 10 (s 127 i + 1)) (hC.fr hB (F2.b h0 h1)) (hv.mv hp h0 h1 ho hk hhv.symm (andn_B a4 (pow_B (by omega)))) (by rw [ms_c (by omega), ms_c (by omega)]; exact ho) (by rw [ms_eq]; omega) (by rw [ms_k (by omega), ms_eq, ms_c (by omega), ms_eq]; rfl) (by rw [ms_eq, ms_eq]) ((hF.set (by omega)).set (by omega)) (fun M' f1 f2 => hQ M' f1 (by rw [f2, ms_k (by omega), ms_k (by omega)]))
      rw [ms_eq] at this
      exact this
/-- working: what of it is told by the state -/
theorem s_6 {i : Int} (hB : isRb B) (hp : PV P) (h0 : 0 ≤ i) (h1 : i < 8) (hC : CPl P M) (hR : CPr P M B T) (hv : SV P s) (hd : DVt P s i) (hτ0 : 0 ≤ τ) (hτ : τ < 120) (hw : s 130 i = 1 ∧ s 127 i < P 117 i ∧ P 118 (20 * i + s 127 i) = 0) (e10 : M (ckA B i) 10 = s 127 i) (e11 : M (ckA B i) 11 = s 128 i) (e12 : M (ckA B i) 12 = s 129 i)
    (hQ1 : ¬ s 128 i + 1 = tkO P i (s 127 i) → ∀ M', FrW B i M M' → M' (ckA B i) 10 = s 127 i → M' (ckA B i) 11 = s 128 i + 1 → M' (ckA B i) 12 = s 129 i → Q (some (vI 0)) M')
    (hQ2 : s 128 i + 1 = tkO P i (s 127 i) → ∀ M' r, FrW B i M M' → M' (ckA B i) 10 = wkB P i (wkA τ i s) 127 i → M' (ckA B i) 11 = 0 → M' (ckA B i) 12 = wkB P i (wkA τ i s) 129 i → (wkB P i (wkA τ i s) 127 i = P 117 i ∧ r = 1 ∨ ¬ wkB P i (wkA τ i s) 127 i = P 117 i ∧ r = 0) → Q (some (vI r)) M') : Mq sx L K0 R0 6 [vR (ckA B i + 2)] M Q := by
  have hc := isCk_A hB h0 h1
  have hA := hv.amo h0 h1 hw.1
  have b := (hv i h0 h1).2.2.2.2.2.2.2.1 hw.1
  have hV := hp.2.2.2.2.2.2.2.2.2.2.2.2 i h0 h1 hA
  obtain ⟨v1, v2, v3, v4, v5, v6, v7, v8, v9⟩ := hV
  have hst := v9 (s 127 i).toNat (by omega)
  rw [Int.toNat_of_nonneg b.2.1] at hst
  have d := (hd hw.1)
  have d1 := (d.2 hw.2.1).1 hw.2.2
  have hl := hp.2.2.2.2.2.2.2.2.2.1
  have hl2 := hp.2.2.2.2.2.2.2.2.2.2.1
  have htk : tkO P i (s 127 i) ≤ 30 := by unfold tkO; split <;> omega
  obtain ⟨p1, p2, p3, p4, p5, p6⟩ := hR
  obtain ⟨_, _, q4, q5, _⟩ := p6 i h0 h1
  refine m_6 (b_6_0 hc ?_)
  rw [e11, ms_k (by omega), e10, plC_A hB h0 h1]
  have F1 : FrW B i M (mset M (ckA B i) 11 (s 128 i + 1)) := FrW.rfl'.set (by omega)
  have C1 := hC.fr hB (F1.b h0 h1)
  have g4 : mset M (ckA B i) 11 (s 128 i + 1) (ckA B i) 4 = M (ckA B i) 4 := ms_k (by omega)
  have g5 : mset M (ckA B i) 11 (s 128 i + 1) (ckA B i) 5 = M (ckA B i) 5 := ms_k (by omega)
  have g10 : mset M (ckA B i) 11 (s 128 i + 1) (ckA B i) 10 = s 127 i := by rw [ms_k (by omega)]; exact e10
  have g11 : mset M (ckA B i) 11 (s 128 i + 1) (ckA B i) 11 = s 128 i + 1 := ms_eq
  have g12 : mset M (ckA B i) 11 (s 128 i + 1) (ckA B i) 12 = s 129 i := by rw [ms_k (by omega)]; exact e12
  generalize mset M (ckA B i) 11 (s 128 i + 1) = M1 at F1 C1 g4 g5 g10 g11 g12 ⊢
  refine ⟨⟨by omega, by omega⟩, s_26 C1 hp h0 h1 hA b.2.1 hw.2.1 ⟨_, rfl, ?_⟩⟩
  have one : Rn sx L K0 R0 6 1 [vR (ckA B i + 2), vI (tkO P i (s 127 i)), vU] [] M1 Q := by
    refine b_6_1 hc ?_
    rw [g11]
    refine ⟨fun q => b_6_2 hc ?_, fun q => hQ1 (by omega) M1 F1 g10 g11 g12⟩
    rw [ms_k (by omega), g10, ms_eq]
    refine ⟨⟨by omega, by omega⟩, ?_⟩
    have hvA := wkA_R (t := i) hτ0 hτ hv
    have aA : wkA τ i s 127 i = s 127 i := by unfold wkA; rw [ms_c (by omega), ms_c (by omega)]
    have aB : wkA τ i s 130 i = 1 := by unfold wkA; rw [ms_c (by omega), ms_c (by omega)]; exact hw.1
    have aC : wkA τ i s 129 i = s 129 i := by unfold wkA; rw [ms_c (by omega), ms_c (by omega)]
    have F2 : FrW B i M (mset (mset M1 (ckA B i) 11 0) (ckA B i) 10 (s 127 i + 1)) := (F1.set (by omega)).set (by omega)
    have G := s_6g (Q := Q) (sx := sx) (L := L) hB hp h0 h1 hA M (tkO P i (s 127 i)) (P 117 i - (wkA τ i s 127 i + 1)).toNat (mset (mset (wkA τ i s) 128 i 0) 127 i (wkA τ i s 127 i + 1)) (mset (mset M1 (ckA B i) 11 0) (ckA B i) 10 (s 127 i + 1)) (hC.fr hB (F2.b h0 h1)) (hvA.nx hp h0 h1 (by rw [aA, aB]; exact ⟨rfl, hw.2⟩)) (by rw [ms_c (by omega), ms_c (by omega)]; exact aB) (by rw [ms_eq]) (by rw [ms_k (by omega), ms_k (by omega), g12, ms_c (by omega), ms_c (by omega), aC]) (by rw [ms_eq, ms_eq, aA]) F2
    rw [ms_eq, aA] at G
    rw [← aA] at G
    refine G fun M' f1 f2 f3 f4 f5 x2 => ?_
    rw [ms_k (by omega), ms_eq] at f2
    have fin : ∀ r, (wkB P i (wkA τ i s) 127 i = P 117 i ∧ r = 1 ∨ ¬ wkB P i (wkA τ i s) 127 i = P 117 i ∧ r = 0) → Q (some (vI r)) M' := fun r hr => hQ2 (by omega) M' r f1 f4 f2 f3 hr
    have GR := givF_R hp h0 h1 (P 117 i - (wkA τ i s 127 i + 1)).toNat _ (hvA.nx hp h0 h1 (by rw [aA, aB]; exact ⟨rfl, hw.2⟩)) (by rw [ms_c (by omega), ms_c (by omega)]; exact aB) (by rw [ms_eq])
    have le : wkB P i (wkA τ i s) 127 i ≤ P 117 i := GR.2.2.2.1
    have f4' : M' (ckA B i) 10 = wkB P i (wkA τ i s) 127 i := f4
    refine b_6_4 hc ?_
    rw [plC_A hB h0 h1, (f5.2.2.2.2 i h0 h1 hA).2.2.2.1, f4']
    exact ⟨fun q => b_6_5 hc (b_6_6 hc ⟨Or.inl rfl, fin 0 (Or.inr ⟨by omega, rfl⟩)⟩), fun q => b_6_6 hc ⟨Or.inr rfl, fin 1 (Or.inl ⟨by omega, rfl⟩)⟩⟩
  rw [g10, g4, q4, g5]
  by_cases e1 : i = P 104 30
  · rw [if_pos e1]
    refine ⟨fun q => ?_, fun q => ⟨?_, ?_⟩⟩
    · have e : tkO P i (s 127 i) = P 119 (20 * i + s 127 i) := by unfold tkO; rw [if_neg (fun w => q w.2)]; omega
      rw [e] at one
      exact one
    · rw [q5 e1]; exact ⟨by omega, by omega⟩
    · have e : tkO P i (s 127 i) = P 119 (20 * i + s 127 i) + M (ckA B i) 5 := by unfold tkO; rw [if_pos ⟨e1, by omega⟩, q5 e1]
      rw [e] at one
      exact one
  · rw [if_neg e1]
    refine ⟨fun q => ?_, fun q => absurd q (by omega)⟩
    have e : tkO P i (s 127 i) = P 119 (20 * i + s 127 i) := by unfold tkO; rw [if_neg (fun w => e1 w.1)]; omega
    rw [e] at one
    exact one
def FrV (B : Nat) (M M' : Mem) : Prop := FrB B M M' ∧ (∀ k, ¬ k = 11 → ¬ k = 17 → M' B k = M B k) ∧ (∀ c k, B < c → c < B + 6 → M' c k = M c k) ∧ ∀ t k, 0 ≤ t → t < 8 → (2 ≤ k ∧ k ≤ 5 ∨ k = 17) → M' (ckA B t) k = M (ckA B t) k
theorem FrV.tr {M1 M2 : Mem} (h : FrV B M M1) (h2 : FrV B M1 M2) : FrV B M M2 := ⟨h.1.tr h2.1, fun k q r => (h2.2.1 k q r).trans (h.2.1 k q r), fun c k a b => (h2.2.2.1 c k a b).trans (h.2.2.1 c k a b), fun t k a b c => (h2.2.2.2 t k a b c).trans (h.2.2.2 t k a b c)⟩
theorem FrV.rfl' : FrV B M M := ⟨FrB.rfl', fun _ _ _ => rfl, fun _ _ _ _ => rfl, fun _ _ _ _ _ => rfl⟩
theorem FrW.v {i : Int} {M1 : Mem} (h : FrW B i M M1) (h0 : 0 ≤ i) (h1 : i < 8) : FrV B M M1 := ⟨h.b h0 h1, fun k _ _ => h _ _ (fun w => B_ck (by omega) w.1), fun c k a b => h _ _ (fun w => B_ck (by omega) w.1), fun t k a b c => h _ _ (fun w => by omega)⟩
theorem CPr.fv {M' : Mem} (h : CPr P M B T) (f : FrV B M M') : CPr P M' B T := by
  obtain ⟨h1, h2, h3, h4, h5, h6⟩ := h
  have g := f.2.1
  refine ⟨by rw [g 6 (by omega) (by omega)]; exact h1, by rw [g 7 (by omega) (by omega)]; exact h2, by rw [g 8 (by omega) (by omega)]; exact h3, by rw [g 9 (by omega) (by omega)]; exact h4, by rw [g 10 (by omega) (by omega)]; exact h5, fun t a b => ?_⟩
  have c := f.2.2.2
  rw [c t 2 a b (by omega), c t 3 a b (by omega), c t 4 a b (by omega), c t 5 a b (by omega), c t 17 a b (by omega)]
  exact h6 t a b
end

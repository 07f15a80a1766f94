section
variable {sx : Int → Int} {L : Nat} {P s z M : Mem} {τ T : Int} {Q : Option AV → Mem → Prop} {B : Nat}
theorem CM.cg {s' : Mem} (h : CM P s M B T τ) (e : ∀ c, ¬ c = 135 → ¬ c = 136 → ¬ c = 104 → s' c = s c) : CM P s' M B T τ := by
  obtain ⟨h1, h2, h3, ⟨b1, b2, b3⟩, h5, h6⟩ := h
  refine ⟨h1, h2, fun t a b => (h3 t a b).eq (fun c k q => by rw [e c (by omega) (by omega) (by omega)]) (fun _ _ => rfl) (fun _ => rfl), ⟨?_, ?_, ?_⟩, h5, h6.mv (fun t a b c => by rw [← e 130 (by omega) (by omega) (by omega)]; exact c) (fun t a b => by rw [e 124 (by omega) (by omega) (by omega), e 131 (by omega) (by omega) (by omega)]; exact ⟨rfl, rfl⟩) (fun t a b => by rw [e 133 (by omega) (by omega) (by omega)]) (fun _ _ _ => rfl)⟩
  · rw [e 130 (by omega) (by omega) (by omega)]; exact b1
  · rw [e 132 (by omega) (by omega) (by omega)]; exact b2
  · rw [e 132 (by omega) (by omega) (by omega)]; exact b3
theorem LC.cg {s' : Mem} (h : LC P s τ) (e1 : s' 123 = s 123) (e2 : s' 126 = s 126) : LC P s' τ := by
  unfold LC at h ⊢
  rw [e1, e2]; exact h
theorem DL.cg {s' : Mem} (h : DL P s) (e1 : s' 123 = s 123) (e2 : s' 126 = s 126) : DL P s' := by
  unfold DL at h ⊢
  rw [e1, e2]; exact h
theorem FLG.cg {s' M' : Mem} (h : FLG P s M B τ) (e1 : s' 123 = s 123) (e2 : s' 126 = s 126) (e3 : M' B 17 = M B 17) : FLG P s' M' B τ := by
  unfold FLG at h ⊢
  rw [e3]
  exact ⟨h.1, fun q => (h.2.1 q).cg e1 e2, fun q => (h.2.2 q).cg e1 e2⟩
theorem FrI.y {t : Int} {M1 : Mem} (h : FrI B t M M1) (h0 : 0 ≤ t) (h1 : t < 8) : FrY B τ M M1 := (h.x h0 h1).y
def ChR (z M : Mem) (B : Nat) (τ h : Int) : Prop := (∀ i, 0 ≤ i → i < h → M (B + 5) (i * 120 + τ) = z 135 (3 * τ + i)) ∧ ∀ i, h ≤ i → i < 3 → M (B + 5) (i * 120 + τ) = -1
theorem s_40l (hB : isRb B) (hp : PV P) (hτ0 : 0 ≤ τ) (hτ : τ < 120) (M0 : Mem) : ∀ (m : Nat) (h : Int) (z M : Mem) (u4 : AV), m ≤ 8 → 0 ≤ h → h ≤ P 104 24 → MI P z τ → CM P z M B T τ → FLG P z M B τ → ChR z M B τ h → FrY B τ M0 M → cat2 u4 = false →
    (∀ M', CM P (choF P τ m h z) M' B T τ → FLG P (choF P τ m h z) M' B τ → (∀ i, 0 ≤ i → i < P 104 24 → M' (B + 5) (i * 120 + τ) = choF P τ m h z 135 (3 * τ + i)) → FrY B τ M0 M' → Q none M') → Rn sx L K0 R0 40 3 [vR (B + 2), vI τ, vI h, vI (8 - m), u4] [] M Q := by
  have hh3 := hp.2.2.2.2.2.2.2.2.1
  have stop : ∀ (h : Int) (z M : Mem), 0 ≤ h → CM P z M B T τ → FLG P z M B τ → ChR z M B τ h → FrY B τ M0 M →
      (∀ M', CM P (filF P τ h z) M' B T τ → FLG P (filF P τ h z) M' B τ → (∀ i, 0 ≤ i → i < P 104 24 → M' (B + 5) (i * 120 + τ) = filF P τ h z 135 (3 * τ + i)) → FrY B τ M0 M' → Q none M') → Q none M := by
    intro h z M h0 hC hL hR hF hQ
    have e : ∀ c, ¬ c = 135 → filF P τ h z c = z c := fun c q => by funext k; unfold filF; rw [if_neg (fun w => q w.1)]
    refine hQ M (hC.cg fun c q _ _ => e c q) (hL.cg (e 123 (by omega)) (e 126 (by omega)) rfl) (fun i a b => ?_) hF
    unfold filF
    by_cases q : i < h
    · rw [if_neg (by omega)]; exact hR.1 i a q
    · rw [if_pos (by omega)]; exact hR.2 i (by omega) (by omega)
  intro m
  induction m with
  | zero =>
    intro h z M u4 _ h0 hh hI hC hL hR hF h4 hQ
    exact b_40_3 hB h4 ⟨fun _ => b_40_9 hB h4 (stop h z M h0 hC hL hR hF hQ), fun q => absurd (by omega) q⟩
  | succ m ih =>
    intro h z M u4 hm h0 hh hI hC hL hR hF h4 hQ
    have eight : ∀ (h : Int) (z M : Mem) (x4 : Int), 0 ≤ h → h ≤ P 104 24 → MI P z τ → CM P z M B T τ → FLG P z M B τ → ChR z M B τ h → FrY B τ M0 M →
        (∀ M', CM P (choF P τ m h z) M' B T τ → FLG P (choF P τ m h z) M' B τ → (∀ i, 0 ≤ i → i < P 104 24 → M' (B + 5) (i * 120 + τ) = choF P τ m h z 135 (3 * τ + i)) → FrY B τ M0 M' → Q none M') → Rn sx L K0 R0 40 8 [vR (B + 2), vI τ, vI h, vI (8 - ((m + 1 : Nat) : Int)), vI x4] [] M Q := by
      intro h z M x4 h0 hh hI hC hL hR hF hQ
      refine b_40_8 hB ⟨⟨by omega, by omega⟩, ?_⟩
      rw [show 8 - ((m + 1 : Nat) : Int) + 1 = 8 - (m : Int) by omega]
      exact ih h z M _ (by omega) h0 hh hI hC hL hR hF rfl hQ
    obtain ⟨hCl, hPr, hMt, hBT, h14, hKI⟩ := id hC
    have hst : STs z := fun t a b => (hI t a b).2.2.2.2.1
    have hv := hI.sv
    have e9 : M B 9 = P 104 24 := hPr.2.2.2.1
    simp only [choF] at hQ
    refine b_40_3 hB h4 ⟨fun q => absurd q (by omega), fun _ => ⟨fun q => b_40_9 hB h4 (stop h z M h0 hC hL hR hF ?_), fun q => ?_⟩⟩
    · rw [if_neg (by omega)] at hQ
      exact hQ
    have nb := next_B (P := P) (s := z)
    refine s_41 hB hCl.2.1 hv hst (fun t a b => (hMt t a b).1.2.2.2.1) hBT (hKI.key hst hv) ⟨_, rfl, s_125 fun r hr => ⟨_, rfl, fun w => ?_, fun w => ?_⟩⟩
    · have hn : ¬ nextF P z = -1 := by omega
      rw [if_pos ⟨by omega, hn⟩] at hQ
      have ho3 := nb.2.2 hn
      have hlt := nb.2.1
      have hge := nb.1
      generalize nextF P z = i at hQ hn ho3 hlt hge hr ⊢
      have i0 : 0 ≤ i := by omega
      have ho := hv.on i0 hlt ho3.1
      have R := doF_R (τ := τ) hp i0 hlt _ z hv hI.wv ho rfl
      have D := doF_D (P := P) (τ := τ) (i := i) (P 117 i - z 127 i).toNat z
      have H := doF_H (P := P) (τ := τ) (i := i) (P 117 i - z 127 i).toNat z
      have hMI := do_R hp hτ0 hτ i0 hlt ho ho3.2 hI
      have hi := hI i i0 hlt
      have hw0 : z 133 i = 0 := hi.2.2.2.2.1.2.2.1 (by omega)
      have ci := hMt i i0 hlt
      obtain ⟨⟨j1, j2, j3, j4, j5, j6⟩, w16, w13⟩ := id ci
      rw [if_neg (by omega)] at j3
      have j5 := j5 ho
      have hjb := (hi.1.2.2.2.2.2.2.2.1 ho).1
      have hj1 := hi.1.2.1
      have hj2 := hi.1.2.2.1
      have hHR : HRl P z M B τ := ⟨fun t a b => (hMt t a b).1.2.2.2.1, fun t a b => (hPr.2.2.2.2.2 t a b).2.2.2.2, h14⟩
      refine b_40_4 hB (s_42 hB hp i0 hlt hCl hHR hv ho j5.2.1 fun M2 r F2 hr2 g1 g2 => ⟨_, rfl, ?_⟩)
      have smt : ∀ t, 0 ≤ t → ¬ t = i → SmT z (doF P τ i (P 117 i - z 127 i).toNat z).2 t := fun t a e => do_sm i0 hlt a hi.1 ho R e
      generalize doF P τ i (P 117 i - z 127 i).toNat z = y at hQ R D H hMI hr2 g1 g2 smt
      obtain ⟨r1, r2, r3, r4, r5, r6⟩ := R
      have y123 : ∀ t, y.2 123 t = z 123 t := fun t => r1.1 123 t (by omega)
      have y124 : ∀ t, y.2 124 t = z 124 t := fun t => r1.1 124 t (by omega)
      have y128 : ∀ t, y.2 128 t = z 128 t := fun t => r1.1 128 t (by omega)
      have y131 : ∀ t, y.2 131 t = z 131 t := fun t => r1.1 131 t (by omega)
      have f2 : ∀ c k, ¬ (c = ckA B i ∧ (k = 10 ∨ k = 12 ∨ k = 13)) → M2 c k = M c k := F2
      have FY2 : FrY B τ M0 M2 := hF.tr (F2.y i0 hlt)
      have b11 : M2 B 11 = M B 11 := f2 _ _ (fun w => B_ck (by omega) w.1)
      have b12 : M2 B 12 = M B 12 := f2 _ _ (fun w => B_ck (by omega) w.1)
      have b13 : M2 B 13 = M B 13 := f2 _ _ (fun w => B_ck (by omega) w.1)
      have b14 : M2 B 14 = M B 14 := f2 _ _ (fun w => B_ck (by omega) w.1)
      have b17 : M2 B 17 = M B 17 := f2 _ _ (fun w => B_ck (by omega) w.1)
      have B5 : ∀ k, M2 (B + 5) k = M (B + 5) k := fun k => f2 _ _ (fun w => B_ck (by omega) w.1)
      -- what all ways have in common
      have oth : ∀ M3 : Mem, (∀ t k, 0 ≤ t → t < 8 → ¬ t = i → (6 ≤ k ∧ k ≤ 16 ∧ ¬ k = 14 ∧ ¬ k = 15) → M3 (ckA B t) k = M2 (ckA B t) k) → (∀ t k, 0 ≤ t → t < 8 → ¬ t = i → M3 (ckA B t + 1) k = M2 (ckA B t + 1) k) → ∀ t, 0 ≤ t → t < 8 → ¬ t = i → CMt P y.2 M3 B τ t := by
        intro M3 k1 k2 t a b e
        refine (hMt t a b).sm (hI t a b).1 (smt t a e) (fun k q => ?_) (fun k => ?_)
        · rw [k1 t k a b e q, f2 _ _ (fun w => ck_inj a i0 e w.1)]
        · rw [k2 t k a b e, f2 _ _ (fun w => ck_inj2 w.1)]
      have own : ¬ y.1 = 2 → ∀ M3 : Mem, (∀ k, (6 ≤ k ∧ k ≤ 12) → M3 (ckA B i) k = M2 (ckA B i) k) → (∀ k, M3 (ckA B i + 1) k = M2 (ckA B i + 1) k) → CJ P y.2 M3 B i := by
        intro n2 M3 k1 k2
        have y130 : y.2 130 i = 1 := by rcases r4 with q | q | q <;> omega
        have gg := g1 n2
        refine ⟨?_, ?_, ?_, ?_, fun _ => ⟨?_, ?_, ?_⟩, fun j a b => ?_⟩
        · rw [k1 6 (by omega), f2 _ _ (by omega), y123]; exact j1
        · rw [k1 7 (by omega), f2 _ _ (by omega), y124]; exact j2
        · rw [k1 8 (by omega), f2 _ _ (by omega), y124, y130, if_neg (by omega)]; exact j3
        · rw [k1 12 (by omega)]; exact gg.2
        · rw [k1 9 (by omega), f2 _ _ (by omega), y124]; exact j5.1
        · rw [k1 10 (by omega)]; exact gg.1
        · rw [k1 11 (by omega), f2 _ _ (by omega), y128]; exact j5.2.2
        · rw [k2, f2 _ _ (fun w => ck_inj2 w.1), D.1 n2]
          rw [y123] at b
          exact j6 j a b
      have bt130 : ∀ t, 0 ≤ t → t < 8 → ¬ t = i → y.2 130 t = z 130 t := fun t a b e => (smt t a e).1 130 (by omega) (by omega) (by omega) (by omega)
      have bt132 : ∀ t, 0 ≤ t → t < 8 → ¬ t = i → y.2 132 t = z 132 t := fun t a b e => (smt t a e).1 132 (by omega) (by omega) (by omega) (by omega)
      have bt133 : ∀ t, 0 ≤ t → t < 8 → ¬ t = i → y.2 133 t = z 133 t := fun t a b e => (smt t a e).1 133 (by omega) (by omega) (by omega) (by omega)
      have y123f : y.2 123 = z 123 := by funext t; exact y123 t
      have keys : ¬ y.1 = 1 → ∀ M3 : Mem, (∀ t, 0 ≤ t → t < 8 → M3 (ckA B t) 15 = M2 (ckA B t) 15) → KI P y.2 M3 B := by
        intro n1 M3 k1
        refine hKI.mv (fun t a b c => ?_) (fun t a b => ⟨y124 t, y131 t⟩) (fun t a b => ?_) (fun t a b => ?_)
        · by_cases e : t = i
          · rw [e]; exact ho
          · rw [← bt130 t a b e]; exact c
        · by_cases e : t = i
          · rw [e]; exact r6 n1
          · exact bt133 t a b e
        · rw [k1 t a b, f2 _ _ (by omega)]
      refine ⟨fun q2 => ?_, fun q2 => ?_, fun q2 => ⟨fun q3 => ?_, fun _ => trivial⟩⟩
      · -- its steps are at an end
        have n2 : y.1 = 2 := by omega
        rw [if_neg (by omega)] at hQ
        have yy : y.2 132 i = 0 ∧ y.2 130 i = 0 := by rcases r4 with q | q | q <;> omega
        have y129 : y.2 129 i = 0 := (r2 i i0 hlt).2.2.2.2.2.1 yy.2
        refine b_40_7 hB (s_46 (d := caF P i (z 124 i - 1) + P 115 i) (j := z 124 i - 1) hB i0 hlt (by rw [f2 _ _ (by omega)]; exact j5.1) (by rw [f2 _ _ (by omega)]; exact j3) (by omega) (by omega) fun M3 f3 e8 e12 ed e11 e17 => ⟨rfl, ?_⟩)
        have FY3 : FrY B τ M2 M3 := by
          refine ⟨fun c k q => f3 c k (fun w => q (by rw [w.1]; exact ck_in i0 hlt)) (fun w => q (by rw [w.1]; exact ck_in1 i0 hlt)) (fun w => q (by rw [w.1]; omega)), fun k q1 q2 => f3 _ _ (fun w => B_ck (by omega) w.1) (fun w => B_ck1 (by omega) w.1) (by omega), fun c k a b => f3 _ _ (fun w => B_ck (by omega) w.1) (fun w => B_ck1 (by omega) w.1) (by omega), fun k _ => f3 _ _ (fun w => B_ck (by omega) w.1) (fun w => B_ck1 (by omega) w.1) (by omega), fun t k a b c => f3 _ _ (by omega) (fun w => ck_inj1 w.1) (fun w => ck_B (by omega) w.1)⟩
        have FY := FY2.tr FY3
        have yd : ∀ k, y.2 126 k = if k = 200 * i + z 124 i - 1 then τ else z 126 k := D.2 n2
        refine eight h y.2 M3 _ h0 hh hMI ⟨hCl.fr hB (((F2.b i0 hlt)).tr FY3.1), (hPr.fx (F2.x i0 hlt)).fy FY3, fun t a b => ?_, ⟨?_, ?_, ?_⟩, ?_, keys (by omega) M3 (fun t a b => f3 _ _ (by omega) (fun w => ck_inj1 w.1) (fun w => ck_B (by omega) w.1))⟩ ?_ ?_ FY hQ
        · by_cases e : t = i
          · rw [e]
            refine ⟨⟨?_, ?_, ?_, ?_, fun q => ?_, fun j a b => ?_⟩, ?_, fun q => ?_⟩
            · rw [f3 _ _ (by omega) (fun w => ck_inj1 w.1) (fun w => ck_B (by omega) w.1), f2 _ _ (by omega), y123]; exact j1
            · rw [f3 _ _ (by omega) (fun w => ck_inj1 w.1) (fun w => ck_B (by omega) w.1), f2 _ _ (by omega), y124]; exact j2
            · rw [e8, yy.2, if_pos rfl]
            · rw [e12, y129]
            · omega
            · rw [y123] at b
              rw [yd]
              by_cases e2 : j = z 124 i - 1
              · rw [e2, ed, if_pos (by omega)]
              · rw [if_neg (by omega), f3 _ _ (fun w => ck_inj2 w.1) (by omega) (fun w => ck1_B (by omega) w.1), f2 _ _ (fun w => ck_inj2 w.1)]
                exact j6 j a b
            · rw [yy.1, if_neg (by omega), f3 _ _ (by omega) (fun w => ck_inj1 w.1) (fun w => ck_B (by omega) w.1), f2 _ _ (by omega), y131, w16, if_neg (by omega)]
            · omega
          · exact oth M3 (fun t k a b e q => f3 _ _ (fun w => ck_inj a i0 e w.1) (fun w => ck_inj1 w.1) (fun w => ck_B (by omega) w.1)) (fun t k a b e => f3 _ _ (fun w => ck_inj2 w.1) (fun w => ck_inj3 a i0 e w.1) (fun w => ck1_B (by omega) w.1)) t a b e
        · rw [e11, b11, hBT.1]
          exact mk_andn i0 hlt (by rw [yy.2]; rfl) (fun t a b e => by rw [bt130 t a b e])
        · rw [f3 _ _ (fun w => B_ck (by omega) w.1) (fun w => B_ck1 (by omega) w.1) (by omega), b12, hBT.2.1]
          refine mkB_cg fun t a b => ?_
          by_cases e : t = i
          · rw [e, yy.1, ho3.2]; rfl
          · rw [bt132 t a (by omega) e]
        · rw [f3 _ _ (fun w => B_ck (by omega) w.1) (fun w => B_ck1 (by omega) w.1) (by omega), b13, hBT.2.2]
          refine mkB_cg fun t a b => ?_
          by_cases e : t = i
          · rw [e, yy.1, ho3.2]; rfl
          · rw [bt132 t a (by omega) e]
        · rw [f3 _ _ (fun w => B_ck (by omega) w.1) (fun w => B_ck1 (by omega) w.1) (by omega), b14]; exact h14
        · have jl : JL τ z y.2 := fun t j a b c d => ⟨by rw [y123]; exact d, by
            rw [yd]
            by_cases e : 200 * t + j = 200 * i + z 124 i - 1
            · rw [if_pos e]
              have hd := (hI t a b).1.2.2.1
              have e3 : t = i := by omega
              have dn := hi.2.2.2.2.2.2 j c (by rw [← e3]; exact d)
              refine Or.inr ⟨?_, by omega⟩
              rw [e3]
              exact dn.2 (by omega)
            · rw [if_neg e]; exact Or.inl rfl⟩
          have dj : z 124 i - 1 < z 123 i := by omega
          rw [b17] at e17
          unfold FLG
          rw [e17]
          by_cases lt : caF P i (z 124 i - 1) + P 115 i < τ
          · rw [if_pos lt]
            refine ⟨Or.inr rfl, fun _ => ⟨i, z 124 i - 1, i0, hlt, by omega, by rw [y123]; exact dj, Or.inl ?_⟩, fun q => by omega⟩
            rw [yd, if_pos (by omega)]
            exact ⟨by omega, lt⟩
          · rw [if_neg lt]
            refine ⟨hL.1, fun q => (hL.2.1 q).up jl hτ0, fun q t j a b c d e => ?_⟩
            rw [y123] at d
            rw [yd] at e ⊢
            by_cases e4 : 200 * t + j = 200 * i + z 124 i - 1
            · have hd := (hI t a b).1.2.2.1
              have e3 : t = i := by omega
              rw [if_pos e4, e3, show j = z 124 i - 1 by omega]
              omega
            · rw [if_neg e4] at e ⊢
              exact hL.2.2 q t j a b c d e
        · refine ⟨fun i2 a b => ?_, fun i2 a b => ?_⟩
          · rw [f3 _ _ (fun w => B_ck (by omega) w.1) (fun w => B_ck1 (by omega) w.1) (by omega), B5, r1.1 135 _ (by omega)]; exact hR.1 i2 a b
          · rw [f3 _ _ (fun w => B_ck (by omega) w.1) (fun w => B_ck1 (by omega) w.1) (by omega), B5]; exact hR.2 i2 a b
      · -- it works
        have n0 : y.1 = 0 := by omega
        rw [if_pos n0] at hQ
        have yy : y.2 132 i = 1 ∧ y.2 130 i = 1 := by rcases r4 with q | q | q <;> omega
        refine b_40_5 hB ⟨i0, hlt⟩ ⟨⟨by omega, by omega, (pow30 i0 (by omega)).2.2.2⟩, ⟨by omega, by omega⟩, ⟨by omega, by omega⟩, ⟨by omega, by omega⟩, ⟨by omega, by omega⟩, ?_⟩
        have FX3 : FrX B M2 (mset (mset M2 B 12 (iOr (M2 B 12) (1 * 2 ^ i.toNat))) (ckA B i) 16 τ) := (FrX.rfl'.setB (by omega)).setC i0 hlt (by omega)
        have FY3 : FrY B τ M2 (mset (mset (mset M2 B 12 (iOr (M2 B 12) (1 * 2 ^ i.toNat))) (ckA B i) 16 τ) (B + 5) (h * 120 + τ) i) := (FX3.y).set5 h0 (by omega)
        have CMy : CM P y.2 (mset (mset (mset M2 B 12 (iOr (M2 B 12) (1 * 2 ^ i.toNat))) (ckA B i) 16 τ) (B + 5) (h * 120 + τ) i) B T τ := by
          refine ⟨hCl.fr hB (((F2.b i0 hlt)).tr FY3.1), (hPr.fx (F2.x i0 hlt)).fy FY3, fun t a b => ?_, ⟨?_, ?_, ?_⟩, ?_, keys (by omega) _ (fun t a b => by rw [ms_c (ck_B (by omega)), ms_k' (by omega), ms_c (ck_B (by omega))])⟩
          · by_cases e : t = i
            · rw [e]
              refine ⟨own (by omega) _ (fun k q => by rw [ms_c (ck_B (by omega)), ms_k (by omega), ms_c (ck_B (by omega))]) (fun k => by rw [ms_c (ck1_B (by omega)), ms_c (by omega), ms_c (ck1_B (by omega))]), ?_, fun q => by omega⟩
              rw [ms_c (ck_B (by omega)), ms_eq, yy.1, if_pos rfl]
            · exact oth _ (fun t k a b e q => by rw [ms_c (ck_B (by omega)), ms_c (ck_inj a i0 e), ms_c (ck_B (by omega))]) (fun t k a b e => by rw [ms_c (ck1_B (by omega)), ms_c ck_inj2, ms_c (ck1_B (by omega))]) t a b e
          · rw [ms_c (by omega), ms_c (B_ck (by omega)), ms_k (by omega), b11, hBT.1]
            refine mkB_cg fun t a b => ?_
            by_cases e : t = i
            · rw [e, yy.2, ho]
            · rw [bt130 t a (by omega) e]
          · rw [ms_c (by omega), ms_c (B_ck (by omega)), ms_eq, b12, hBT.2.1]
            exact mk_or i0 hlt (by rw [yy.1]; rfl) (fun t a b e => by rw [bt132 t a b e])
          · rw [ms_c (by omega), ms_c (B_ck (by omega)), ms_k (by omega), b13, hBT.2.2]
            refine mkB_cg fun t a b => ?_
            by_cases e : t = i
            · rw [e, yy.1, ho3.2]; rfl
            · rw [bt132 t a (by omega) e]
          · rw [ms_c (by omega), ms_c (B_ck (by omega)), ms_k (by omega), b14]; exact h14
        have e135 : ∀ c, ¬ c = 135 → mset y.2 135 (3 * τ + h) i c = y.2 c := fun c q => ms_f q
        refine eight (h + 1) (mset y.2 135 (3 * τ + h) i) _ _ (by omega) (by omega) (hMI.same fun c k a _ _ => ms_c a) (CMy.cg fun c a _ _ => e135 c a) ?_ ⟨fun i2 a b => ?_, fun i2 a b => ?_⟩ (FY2.tr FY3) hQ
        · refine hL.cg (by rw [e135 123 (by omega), y123f]) (by rw [e135 126 (by omega), D.1 (by omega)]) ?_
          rw [ms_c (by omega), ms_c (B_ck (by omega)), ms_k (by omega), b17]
        · by_cases e : i2 = h
          · rw [e, ms_eq, ms_eq]
          · rw [ms_k (by omega), ms_c (B_ck (by omega)), ms_c (by omega), B5, ms_k (by omega), r1.1 135 _ (by omega)]
            exact hR.1 i2 a (by omega)
        · rw [ms_k (by omega), ms_c (B_ck (by omega)), ms_c (by omega), B5]
          exact hR.2 i2 (by omega) b
      · -- it waits
        have n1 : y.1 = 1 := by omega
        rw [if_neg (by omega)] at hQ
        have yy : y.2 132 i = 2 ∧ y.2 130 i = 1 := by rcases r4 with q | q | q <;> omega
        have w3 : M2 (ckA B i) 13 = y.2 133 i := g2 n1
        have FX3 : FrX B M2 (mset M2 B 13 (iOr (M2 B 13) (1 * 2 ^ i.toNat))) := FrX.rfl'.setB (by omega)
        have m13 : mset M2 B 13 (iOr (M2 B 13) (1 * 2 ^ i.toNat)) B 13 = mkB 8 (fun t => decide (y.2 132 t = 2)) := by
          rw [ms_eq, b13, hBT.2.2]
          exact mk_or i0 hlt (by rw [yy.1]; rfl) (fun t a b e => by rw [bt132 t a b e])
        have c13 : ∀ t, 0 ≤ t → t < 8 → y.2 132 t = 2 → mset M2 B 13 (iOr (M2 B 13) (1 * 2 ^ i.toNat)) (ckA B t) 13 = y.2 133 t := by
          intro t a b c
          rw [ms_c (ck_B (by omega))]
          by_cases e : t = i
          · rw [e]; exact w3
          · rw [f2 _ _ (fun w => ck_inj a i0 e w.1), bt133 t a b e]
            rw [bt132 t a b e] at c
            exact (hMt t a b).2.2 c
        have wq : ∀ t, 0 ≤ t → t < 8 → wC (mset M2 B 13 (iOr (M2 B 13) (1 * 2 ^ i.toNat))) B t = y.2 133 t := by
          intro t a b
          unfold wC
          rw [m13, tb8 a b]
          by_cases e : y.2 132 t = 2
          · rw [if_pos (decide_eq_true e), c13 t a b e]
          · rw [if_neg (by rw [decide_eq_false e]; decide)]
            exact ((hMI t a b).2.2.2.2.1.2.2.1 e).symm
        have e7 : ∀ k, ¬ (11 ≤ k ∧ k ≤ 14) → mset M2 B 13 (iOr (M2 B 13) (1 * 2 ^ i.toNat)) B k = M B k := fun k q => by rw [ms_k (by omega), f2 _ _ (fun w => B_ck (by omega) w.1)]
        have fin : ∀ M4, FrK B (mset M2 B 13 (iOr (M2 B 13) (1 * 2 ^ i.toNat))) M4 → KI P y.2 M4 B → Rn sx L K0 R0 40 8 [vR (B + 2), vI τ, vI h, vI (8 - ((m + 1 : Nat) : Int)), vI i] [] M4 Q := by
          intro M4 F4 K4
          have q4 : ∀ c k, ¬ k = 15 → M4 c k = mset M2 B 13 (iOr (M2 B 13) (1 * 2 ^ i.toNat)) c k := fun c k q => F4.k q
          have qB : ∀ k, M4 B k = mset M2 B 13 (iOr (M2 B 13) (1 * 2 ^ i.toNat)) B k := fun k => F4 _ _ (fun w => by obtain ⟨_, t, a, b, e⟩ := w; exact B_ck (by omega) e)
          have q1 : ∀ t k, M4 (ckA B t + 1) k = mset M2 B 13 (iOr (M2 B 13) (1 * 2 ^ i.toNat)) (ckA B t + 1) k := fun t k => F4 _ _ (fun w => by obtain ⟨_, u, a, b, e⟩ := w; exact ck_inj2 e)
          have q5 : ∀ k, M4 (B + 5) k = M (B + 5) k := fun k => by rw [F4 _ _ (fun w => by obtain ⟨_, t, a, b, e⟩ := w; exact B_ck (by omega) e), ms_c (by omega), B5]
          refine eight h y.2 M4 _ h0 hh hMI ⟨hCl.fr hB (((F2.b i0 hlt).tr FX3.1).tr F4.b), ((hPr.fx (F2.x i0 hlt)).fx FX3).fx F4.x, fun t a b => ?_, ⟨?_, ?_, ?_⟩, ?_, K4⟩ ?_ ⟨fun i2 a b => ?_, fun i2 a b => ?_⟩ ((FY2.tr FX3.y).tr F4.x.y) hQ
          · by_cases e : t = i
            · rw [e]
              refine ⟨own (by omega) _ (fun k q => by rw [q4 _ _ (by omega), ms_c (ck_B (by omega))]) (fun k => by rw [q1, ms_c (ck1_B (by omega))]), ?_, fun _ => ?_⟩
              · rw [q4 _ _ (by omega), ms_c (ck_B (by omega)), f2 _ _ (by omega), y131, yy.1, if_neg (by omega), w16, if_neg (by omega)]
              · rw [q4 _ _ (by omega), ms_c (ck_B (by omega))]; exact w3
            · exact oth _ (fun t k a b e q => by rw [q4 _ _ (by omega), ms_c (ck_B (by omega))]) (fun t k a b e => by rw [q1, ms_c (ck1_B (by omega))]) t a b e
          · rw [qB, ms_k (by omega), b11, hBT.1]
            refine mkB_cg fun t a b => ?_
            by_cases e : t = i
            · rw [e, yy.2, ho]
            · rw [bt130 t a (by omega) e]
          · rw [qB, ms_k (by omega), b12, hBT.2.1]
            refine mkB_cg fun t a b => ?_
            by_cases e : t = i
            · rw [e, yy.1, ho3.2]; rfl
            · rw [bt132 t a (by omega) e]
          · rw [qB]; exact m13
          · rw [qB, ms_k (by omega), b14]; exact h14
          · exact hL.cg y123f (D.1 (by omega)) (by rw [qB, ms_k (by omega), b17])
          · rw [q5, r1.1 135 _ (by omega)]; exact hR.1 i2 a b
          · rw [q5]; exact hR.2 i2 a b
        have r33 := hp.2.2.2.1
        have r33b := hp.2.2.2.2.1
        have r34 := hp.2.2.2.2.2.1
        have x7 : mset M2 B 13 (iOr (M2 B 13) (1 * 2 ^ i.toNat)) B 7 = P 104 33 := by rw [e7 7 (by omega)]; exact hPr.2.1
        have x8 : mset M2 B 13 (iOr (M2 B 13) (1 * 2 ^ i.toNat)) B 8 = P 104 34 := by rw [e7 8 (by omega)]; exact hPr.2.2.1
        have kk : ∀ t, 0 ≤ t → t < 8 → mset M2 B 13 (iOr (M2 B 13) (1 * 2 ^ i.toNat)) (ckA B t) 15 = M (ckA B t) 15 := fun t a b => by rw [ms_c (ck_B (by omega)), f2 _ _ (by omega)]
        have kb : ∀ t, 0 ≤ t → t < 8 → kbF P y.2 t = kbF P z t := fun t a b => by unfold kbF; rw [y124, y131]
        have o1 : ∀ t, 0 ≤ t → t < 8 → y.2 130 t = 1 → z 130 t = 1 := by
          intro t a b c
          by_cases e : t = i
          · rw [e]; exact ho
          · rw [← bt130 t a b e]; exact c
        obtain ⟨b0, hb1, hb2, hb3⟩ := hKI
        refine b_40_6 hB ⟨pow30 i0 (by omega), s_44 hB (by rw [m13]; exact mkB_B 8 _ (by omega)) (fun t a b c => ?_) (fun q => ⟨rfl, fin _ FrK.rfl' ⟨b0, fun t a b c => by rw [kb t a b]; exact hb1 t a b (o1 t a b c), fun hl => ?_, fun hl t a b => by rw [kk t a b]; exact hb3 hl t a b⟩⟩) (fun q M4 F4 hF4 => ⟨rfl, fin M4 F4 ⟨b0, fun t a b c => by rw [kb t a b]; exact hb1 t a b (o1 t a b c), fun hl => ⟨?_, fun t o a b c d e => ?_⟩, fun hl => ?_⟩⟩)⟩
        · rw [m13, tb8 a b, decide_eq_true_eq] at c
          rw [c13 t a b c]
          exact ⟨r3 t a b, (hMI t a b).2.2.2.2.1.2.2.2.1⟩
        · exfalso
          rw [x7, x8] at q
          omega
        · have hK := (hb2 hl).1
          refine IsF.more (w' := y.2 133) hK (fun t o a b c d e => ?_) ?_
          · by_cases g : t = i
            · rw [g, hw0, tb_zero] at e; cases e
            · rw [bt133 t a b g]; exact e
          · refine (hF4.wcg fun t a b => (wq t a b).symm) |> fun w => ⟨fun t a b => ?_, w.2.1, fun g g1 g2 t a b => w.2.2 g (fun t a b => by dsimp only; rw [kk t a b]; exact g1 t a b) g2 t a b⟩
            have := w.1 t a b
            dsimp only at this
            rw [kk t a b] at this
            exact this
        · by_cases g : t = i
          · rw [g] at e ⊢
            have hh := H n1 o c d e
            have og : z 130 o = 1 := by
              refine hv.on c d fun w => hh.2 ?_
              exact (hv o c d).2.2.2.2.2.1 w
            have q1 := kb_0 hp hv hl.2 i0 hlt ho
            have q2 := kb_0 hp hv hl.2 c d og
            have q3 := hb1 i i0 hlt ho
            have q4 := hb1 o c d og
            omega
          · rw [bt133 t a b g] at e
            exact (hb2 hl).2 t o a b c d e
        · exfalso
          rw [x7, x8] at q
          exact hl ⟨by omega, by omega⟩
    · have hn : nextF P z = -1 := by omega
      rw [if_neg (fun w => w.2 hn)] at hQ
      exact stop h z M h0 hC hL hR hF hQ
end

section
variable {sx : Int → Int} {L : Nat} {P s z M : Mem} {τ T : Int} {Q : Option AV → Mem → Prop} {B : Nat}
theorem givF_c {t : Int} {c : Nat} (h1 : ¬ c = 127) (h2 : ¬ c = 129) : ∀ (n : Nat) (s : Mem), givF P t n s c = s c := by
  intro n
  induction n with
  | zero => exact fun _ => rfl
  | succ n ih =>
    intro s
    simp only [givF]
    split
    · rw [ih, ms_f h1, ms_f h2]
    · rfl
theorem wkB_c {t : Int} {c : Nat} (h1 : ¬ c = 127) (h2 : ¬ c = 129) (h3 : ¬ c = 128) : wkB P t s c = s c := by
  unfold wkB
  rw [givF_c h1 h2, ms_f h1, ms_f h3]
theorem wk1_c {t : Int} {c : Nat} (h : c < 126 ∨ 131 < c) : wk1 P τ t s c = s c := by
  have a : wkA τ t s c = s c := by unfold wkA; rw [ms_f (by omega), ms_f (by omega)]
  have b : wkB P t (wkA τ t s) c = s c := by rw [wkB_c (by omega) (by omega) (by omega), a]
  unfold wk1
  split
  · split
    · split
      · unfold endF
        rw [ms_f (by omega), ms_f (by omega), ms_f (by omega), b]
      · exact b
    · exact a
  · rfl
theorem wkF_c {c : Nat} (h : c < 126 ∨ 131 < c) : ∀ n : Nat, wkF P τ n s c = s c := by
  intro n
  induction n with
  | zero => rfl
  | succ n ih => simp only [wkF]; rw [wk1_c h, ih]
def FL1 (P s M : Mem) (B : Nat) (τ : Int) : Prop := FLG P s M B τ
theorem CMt.bt {t : Int} (h : CMt P s M B τ t) (q : ¬ s 132 t = 1) : CBt P s M B t := ⟨h.1, by rw [h.2.1, if_neg q]⟩
theorem CBt.sm {s' M' : Mem} {t : Int} (hv : SVt P s t) (h : CBt P s M B t) (e : SmT s s' t) (f : ∀ k, (6 ≤ k ∧ k ≤ 16 ∧ ¬ k = 14 ∧ ¬ k = 15) → M' (ckA B t) k = M (ckA B t) k) (g : ∀ k, M' (ckA B t + 1) k = M (ckA B t + 1) k) : CBt P s' M' B t := by
  refine ⟨?_, ?_⟩
  · have : CJ P s' M B t := h.1.sm hv e (fun _ => rfl) (fun _ => rfl)
    exact this.eq (fun _ _ _ => rfl) (fun k q => f k (by omega)) g
  · rw [f 16 (by omega), e.1 131 (by omega) (by omega) (by omega) (by omega)]; exact h.2
theorem s_49 (hB : isRb B) (hp : PV P) (hτ0 : 0 ≤ τ) (hτ : τ < 120) (hI : MI P z τ) (hC : CM P z M B T τ) (hL : FLG P z M B τ)
    (hQ : ∀ M', CPl P M' → CPr P M' B T → (∀ t, 0 ≤ t → t < 8 → CBt P (wkF P τ 8 z) M' B t) → FLG P (wkF P τ 8 z) M' B (τ + 1) → FrV B M M' → Q none M') : Mq sx L K0 R0 49 [vR (B + 2), vI τ] M Q := by
  obtain ⟨hCl, hPr, hMt, ⟨b1, b2, b3⟩, h14, hKI⟩ := hC
  have WR := wkF_R hp hτ0 hτ hI
  have i12 : inB (M B 12) := by rw [b2]; exact mkB_B 8 _ (by omega)
  refine m_49 (b_49_0 hB (lpM (N := 8) (I := fun k M' => FrV B M M' ∧ (∀ t, 0 ≤ t → t < 8 → (t < k → CBt P (wkF P τ k.toNat z) M' B t) ∧ (¬ t < k → CMt P (wkF P τ k.toNat z) M' B τ t)) ∧ M' B 11 = mkB 8 (fun t => decide (¬ wkF P τ k.toNat z 130 t = 0)) ∧ FLG P (wkF P τ k.toNat z) M' B (τ + 1)) (G := fun k M' => Rn sx L K0 R0 49 1 [vR (B + 2), vI τ, vI k] [] M' Q) (fun k M' k0 k1 hJ ih => ?_) (fun M' hJ => bx_49_1 hB (by omega) (b_49_4 hB (hQ M' (hCl.fr hB hJ.1.1) (hPr.fv hJ.1) (fun t a b => (hJ.2.1 t a b).1 b) hJ.2.2.2 hJ.1))) 0 M (by omega) (by omega) ⟨FrV.rfl', fun t a b => ⟨fun q => by omega, fun _ => hMt t a b⟩, b1, hL.1, fun q => (hL.2.1 q).tk, hL.2.2⟩))
  obtain ⟨i1, i2, i3, i4⟩ := hJ
  have wr := WR k.toNat (by omega)
  have hm := (wr k k0 k1).2 (by omega)
  have hv : SV P (wkF P τ k.toNat z) := fun t a b => by
    by_cases q : t < k.toNat
    · exact ((wr t a b).1 q).1
    · exact ((wr t a b).2 q).1
  have c132 : wkF P τ k.toNat z 132 k = z 132 k := by rw [wkF_c (by omega)]
  clear wr
  rw [wkF_s k0] at ih
  generalize wkF P τ k.toNat z = y at i2 i3 i4 hm hv c132 ih
  obtain ⟨m1, m2, m3, m4, m5, m6, m7⟩ := hm
  have smt : ∀ t, 0 ≤ t → ¬ t = k → SmT y (wk1 P τ k y) t := fun t a e => wk1_sm k0 hp hτ0 hτ hv k1 a m3 m4 e
  have hri := wk1_I hp hτ0 hτ k0 k1 hv ⟨m1, m2, m3, m4, m5, m6, m7⟩
  have y123 : ∀ t, wk1 P τ k y 123 t = y 123 t := fun t => by rw [wk1_c (by omega)]
  -- behind the work
  have two : ∀ M2, FrV B M M2 → (∀ t, 0 ≤ t → t < 8 → ¬ t = k → (∀ j, (6 ≤ j ∧ j ≤ 16 ∧ ¬ j = 14 ∧ ¬ j = 15) → M2 (ckA B t) j = M' (ckA B t) j) ∧ ∀ j, M2 (ckA B t + 1) j = M' (ckA B t + 1) j) → CBt P (wk1 P τ k y) M2 B k → M2 B 11 = mkB 8 (fun t => decide (¬ wk1 P τ k y 130 t = 0)) → FLG P (wk1 P τ k y) M2 B (τ + 1) → Rn sx L K0 R0 49 2 [vR (B + 2), vI τ, vI k] [] M2 Q := by
    intro M2 f g cb e11 fl
    have i11 : inB (M2 B 11) := by rw [e11]; exact mkB_B 8 _ (by omega)
    have fin : ∀ M3 : Mem, (∀ c j, ¬ (c = B ∧ j = 17) → M3 c j = M2 c j) → FLG P (wk1 P τ k y) M3 B (τ + 1) → Rn sx L K0 R0 49 3 [vR (B + 2), vI τ, vI k] [] M3 Q := by
      intro M3 h fl3
      refine b_49_3 hB ⟨⟨by omega, by omega⟩, ih M3 ⟨f.tr ⟨fun c j q => h c j (fun w => q (by rw [w.1]; omega)), fun j _ q => h B j (fun w => q w.2), fun c j a b => h c j (fun w => by omega), fun t j a b _ => h _ _ (fun w => ck_B (by omega) w.1)⟩, fun t a b => ?_, by rw [h B 11 (by omega)]; exact e11, fl3⟩⟩
      have hC3 : ∀ j, M3 (ckA B t) j = M2 (ckA B t) j := fun j => h _ _ (fun w => ck_B (by omega) w.1)
      have hD3 : ∀ j, M3 (ckA B t + 1) j = M2 (ckA B t + 1) j := fun j => h _ _ (fun w => ck1_B (by omega) w.1)
      by_cases e : t = k
      · rw [e] at hC3 hD3 ⊢
        refine ⟨fun _ => ⟨cb.1.eq (fun _ _ _ => rfl) (fun j _ => hC3 j) hD3, by rw [hC3]; exact cb.2⟩, fun q => by omega⟩
      · have s1 := smt t a e
        have g1 := g t a b e
        refine ⟨fun q => ((i2 t a b).1 (by omega)).sm (hv t a b) s1 (fun j w => by rw [hC3, g1.1 j w]) (fun j => by rw [hD3, g1.2]), fun q => ((i2 t a b).2 (by omega)).sm (hv t a b) s1 (fun j w => by rw [hC3, g1.1 j w]) (fun j => by rw [hD3, g1.2])⟩
    refine b_49_2 hB ⟨k0, k1⟩ ⟨⟨i11.1, by omega⟩, fun q => fin M2 (fun _ _ _ => rfl) fl, fun q => ⟨fun q2 => fin M2 (fun _ _ _ => rfl) fl, fun q2 => fin _ (fun c j w => ms_ne w) ?_⟩⟩
    rw [bt_ne i11, e11, tb8 k0 k1] at q
    have go : ¬ wk1 P τ k y 130 k = 0 := by simpa using q
    have go1 : wk1 P τ k y 130 k = 1 := by have := hri.1.2.2.2.2.1; omega
    have b := hri.1.2.2.2.2.2.2.2.1 go1
    have dd := (cb.1.2.2.2.2.1 go1).1
    have le := hri.1.2.1
    refine ⟨Or.inr ms_eq, fun _ => ⟨k, wk1 P τ k y 124 k - 1, k0, k1, by omega, by omega, Or.inr ⟨?_, by omega⟩⟩, fun w => by rw [ms_eq] at w; omega⟩
    exact (hri.2.2.2 (wk1 P τ k y 124 k - 1) (by omega) (by omega)).2 (by omega)
  have e12 : M' B 12 = M B 12 := i1.2.1 12 (by omega) (by omega)
  have ck := (i2 k k0 k1).2 (by omega)
  obtain ⟨⟨j1, j2, j3, j4, j5, j6⟩, w16, w13⟩ := id ck
  refine b_49_1 hB ⟨k0, k1⟩ ⟨fun q => absurd q (by omega), fun _ => ?_⟩
  rw [e12]
  refine ⟨⟨i12.1, by omega⟩, fun q => ?_, fun q => ?_⟩
  · rw [bt_ne i12, b2, tb8 k0 k1] at q
    have n1 : ¬ y 132 k = 1 := by rw [c132]; simpa using q
    have e : wk1 P τ k y = y := by unfold wk1; rw [if_neg n1]
    refine two M' i1 (fun _ _ _ _ => ⟨fun _ _ => rfl, fun _ => rfl⟩) (by rw [e]; exact ck.bt n1) (by rw [e]; exact i3) (by rw [e]; exact i4)
  · rw [bt_ne i12, b2, tb8 k0 k1] at q
    have n1 : y 132 k = 1 := by rw [c132]; simpa using q
    have w := m3 n1
    have j5 := j5 w.1
    rw [if_neg (by omega)] at j3
    rw [if_pos n1] at w16
    have e1 : wk1 P τ k y = if y 128 k + 1 = tkO P k (y 127 k) then (if wkB P k (wkA τ k y) 127 k = P 117 k then endF (τ + 1) k (wkB P k (wkA τ k y)) else wkB P k (wkA τ k y)) else wkA τ k y := by unfold wk1; rw [if_pos n1]
    have hb := (m1.2.2.2.2.2.2.2.1 w.1).1
    have hb2 := m1.2.1
    have hb3 := m1.2.2.1
    refine s_6 (τ := τ) hB hp k0 k1 (hCl.fr hB i1.1) (hPr.fv i1) hv m4 hτ0 hτ w j5.2.1 j5.2.2 j4 (fun ne M2 f2 g10 g11 g12 => ⟨_, rfl, fun _ => ?_, fun w => absurd rfl w⟩) (fun eq M2 r f2 g10 g11 g12 hr => ⟨_, rfl, ?_⟩)
    · rw [if_neg ne] at e1
      have c6 : ∀ j, ¬ (j = 10 ∨ j = 11 ∨ j = 12) → M2 (ckA B k) j = M' (ckA B k) j := fun j w => f2 _ _ (fun v => w v.2)
      refine two M2 (i1.tr (f2.v k0 k1)) (fun t a b e => ⟨fun j _ => f2 _ _ (fun v => ck_inj a k0 e v.1), fun j => f2 _ _ (fun v => ck_inj2 v.1)⟩) ?_ ?_ ?_
      · rw [e1]
        unfold wkA
        refine ⟨⟨?_, ?_, ?_, ?_, fun _ => ⟨?_, ?_, ?_⟩, fun j a b => ?_⟩, ?_⟩
        · rw [c6 6 (by omega), ms_c (by omega), ms_c (by omega)]; exact j1
        · rw [c6 7 (by omega), ms_c (by omega), ms_c (by omega)]; exact j2
        · rw [c6 8 (by omega), ms_c (c' := 130) (by omega), ms_c (c' := 130) (by omega), ms_c (c' := 124) (by omega), ms_c (c' := 124) (by omega), if_neg (by omega)]; exact j3
        · rw [g12, ms_c (by omega), ms_c (by omega)]
        · rw [c6 9 (by omega), ms_c (c' := 124) (by omega), ms_c (c' := 124) (by omega)]; exact j5.1
        · rw [g10, ms_c (by omega), ms_c (by omega)]
        · rw [g11, ms_eq]
        · rw [ms_c (by omega), ms_c (by omega)] at b
          rw [f2 _ _ (fun v => ck_inj2 v.1), ms_c (c' := 126) (by omega), ms_c (c' := 126) (by omega)]
          exact j6 j a b
        · rw [c6 16 (by omega), w16, ms_c (by omega), ms_eq]
      · rw [f2 _ _ (fun v => B_ck (by omega) v.1), i3, e1]
        unfold wkA
        rw [ms_f (c' := 130) (by omega), ms_f (c' := 130) (by omega)]
      · refine i4.cg ?_ ?_ (f2 _ _ (fun v => B_ck (by omega) v.1))
        · rw [e1]; unfold wkA; rw [ms_f (by omega), ms_f (by omega)]
        · rw [e1]; unfold wkA; rw [ms_f (by omega), ms_f (by omega)]
    · rw [if_pos eq] at e1
      have c6 : ∀ j, ¬ (j = 10 ∨ j = 11 ∨ j = 12) → M2 (ckA B k) j = M' (ckA B k) j := fun j w => f2 _ _ (fun v => w v.2)
      have bA : ∀ c, ¬ c = 127 → ¬ c = 128 → ¬ c = 129 → ¬ c = 131 → wkB P k (wkA τ k y) c = y c := fun c h1 h2 h3 h4 => by
        rw [wkB_c h1 h3 h2]
        unfold wkA
        rw [ms_f h2, ms_f h4]
      have b131 : wkB P k (wkA τ k y) 131 k = τ := by
        rw [wkB_c (by omega) (by omega) (by omega)]
        unfold wkA
        rw [ms_c (by omega), ms_eq]
      have b128 : wkB P k (wkA τ k y) 128 k = 0 := by
        unfold wkB
        rw [givF_c (by omega) (by omega), ms_c (by omega), ms_eq]
      rcases hr with ⟨hr1, hr2⟩ | ⟨hr1, hr2⟩
      · -- its steps are at an end
        rw [if_pos hr1] at e1
        rw [hr2]
        refine ⟨fun v => absurd v (by omega), fun _ => ⟨⟨by omega, by omega⟩, ?_⟩⟩
        refine s_46 (d := caF P k (y 124 k - 1) + P 115 k) (j := y 124 k - 1) hB k0 k1 (by rw [c6 9 (by omega)]; exact j5.1) (by rw [c6 8 (by omega)]; exact j3) (by omega) (by omega) fun M3 f3 e8 e12' ed e11 e17 => ⟨rfl, ?_⟩
        have z130 : wk1 P τ k y 130 k = 0 := by rw [e1]; unfold endF; rw [ms_c (by omega), ms_eq]
        have z129 : wk1 P τ k y 129 k = 0 := by rw [e1]; unfold endF; rw [ms_eq]
        have z124 : ∀ t, wk1 P τ k y 124 t = y 124 t := fun t => by rw [wk1_c (by omega)]
        have z131 : wk1 P τ k y 131 k = τ := by rw [e1]; unfold endF; rw [ms_c (by omega), ms_c (by omega), ms_c (by omega)]; exact b131
        have z126 : ∀ j, wk1 P τ k y 126 j = if j = 200 * k + y 124 k - 1 then τ + 1 else y 126 j := by
          intro j
          rw [e1]
          unfold endF
          rw [ms_c (c' := 126) (by omega), ms_c (c' := 126) (by omega), bA 124 (by omega) (by omega) (by omega) (by omega)]
          by_cases e : j = 200 * k + y 124 k - 1
          · rw [e, ms_eq, if_pos rfl]
          · rw [ms_k e, if_neg e, bA 126 (by omega) (by omega) (by omega) (by omega)]
        have g3 : ∀ c j, ¬ (c = ckA B k) → ¬ (c = ckA B k + 1) → ¬ c = B → M3 c j = M2 c j := fun c j a b d => f3 c j (fun v => a v.1) (fun v => b v.1) (fun v => d v.1)
        have f3b : FrV B M2 M3 := ⟨fun c j q => g3 c j (fun v => q (by rw [v]; exact ck_in k0 k1)) (fun v => q (by rw [v]; exact ck_in1 k0 k1)) (fun v => q (by rw [v]; omega)), fun j a b => f3 _ _ (fun v => B_ck (by omega) v.1) (fun v => B_ck1 (by omega) v.1) (by omega), fun c j a b => g3 c j (B_ck (by omega)) (B_ck1 (by omega)) (by omega), fun t j a b c => f3 _ _ (by omega) (fun v => ck_inj1 v.1) (fun v => ck_B (by omega) v.1)⟩
        refine two M3 ((i1.tr (f2.v k0 k1)).tr f3b) (fun t a b e => ⟨fun j _ => ?_, fun j => ?_⟩) ?_ ?_ ?_
        · rw [g3 _ _ (ck_inj a k0 e) ck_inj1 (ck_B (by omega)), f2 _ _ (fun v => ck_inj a k0 e v.1)]
        · rw [g3 _ _ ck_inj2 (ck_inj3 a k0 e) (ck1_B (by omega)), f2 _ _ (fun v => ck_inj2 v.1)]
        · have c3 : ∀ j, ¬ (j = 8 ∨ j = 12) → M3 (ckA B k) j = M2 (ckA B k) j := fun j v => f3 _ _ (fun q => v q.2) (fun q => ck_inj1 q.1) (fun q => ck_B (by omega) q.1)
          refine ⟨⟨?_, ?_, ?_, ?_, fun v => by omega, fun j a b => ?_⟩, ?_⟩
          · rw [c3 6 (by omega), c6 6 (by omega), y123]; exact j1
          · rw [c3 7 (by omega), c6 7 (by omega), z124]; exact j2
          · rw [e8, z130, if_pos rfl]
          · rw [e12', z129]
          · rw [y123] at b
            rw [z126]
            by_cases e : j = y 124 k - 1
            · rw [e, ed, if_pos (by omega)]
            · rw [if_neg (by omega), f3 _ _ (fun v => ck_inj2 v.1) (by omega) (fun v => ck1_B (by omega) v.1), f2 _ _ (fun v => ck_inj2 v.1)]
              exact j6 j a b
          · rw [c3 16 (by omega), c6 16 (by omega), w16, z131]
        · rw [e11, f2 _ _ (fun v => B_ck (by omega) v.1), i3]
          exact mk_andn k0 k1 (by rw [z130]; rfl) (fun t a b e => by rw [(smt t a e).1 130 (by omega) (by omega) (by omega) (by omega)])
        · have m17 : M2 B 17 = M' B 17 := f2 _ _ (fun v => B_ck (by omega) v.1)
          unfold FLG
          rw [m17] at e17
          rw [e17]
          have dj : y 124 k - 1 < y 123 k := by omega
          have pos : ∀ t j, 0 ≤ t → t < 8 → 0 ≤ j → j < y 123 t → (200 * t + j = 200 * k + y 124 k - 1 → t = k ∧ j = y 124 k - 1) := fun t j a b c d e => by
            have := (hv t a b).2.2.1
            omega
          by_cases lt : caF P k (y 124 k - 1) + P 115 k < τ + 1
          · rw [if_pos lt]
            refine ⟨Or.inr rfl, fun _ => ⟨k, y 124 k - 1, k0, k1, by omega, by rw [y123]; exact dj, Or.inl ?_⟩, fun v => by omega⟩
            rw [z126, if_pos (by omega)]
            exact ⟨by omega, lt⟩
          · rw [if_neg lt]
            refine ⟨i4.1, fun v => (i4.2.1 v).up (fun t j a b c d => ⟨by rw [y123]; exact d, ?_⟩) (by omega), fun v t j a b c d e => ?_⟩
            · rw [z126]
              by_cases e : 200 * t + j = 200 * k + y 124 k - 1
              · rw [if_pos e]
                have e3 := pos t j a b c d e
                refine Or.inr ⟨?_, by omega⟩
                rw [e3.1]
                exact (m7 j c (by rw [← e3.1]; exact d)).2 (by omega)
              · rw [if_neg e]; exact Or.inl rfl
            · rw [y123] at d
              rw [z126] at e ⊢
              by_cases e4 : 200 * t + j = 200 * k + y 124 k - 1
              · have e3 := pos t j a b c d e4
                rw [if_pos e4, e3.1, e3.2]
                omega
              · rw [if_neg e4] at e ⊢
                exact i4.2.2 v t j a b c d e
      · rw [if_neg hr1] at e1
        rw [hr2]
        refine ⟨fun _ => two M2 (i1.tr (f2.v k0 k1)) (fun t a b e => ⟨fun j _ => f2 _ _ (fun v => ck_inj a k0 e v.1), fun j => f2 _ _ (fun v => ck_inj2 v.1)⟩) ?_ ?_ ?_, fun v => absurd rfl v⟩
        · rw [e1]
          refine ⟨⟨?_, ?_, ?_, ?_, fun _ => ⟨?_, ?_, ?_⟩, fun j a b => ?_⟩, ?_⟩
          · rw [c6 6 (by omega), bA 123 (by omega) (by omega) (by omega) (by omega)]; exact j1
          · rw [c6 7 (by omega), bA 124 (by omega) (by omega) (by omega) (by omega)]; exact j2
          · rw [c6 8 (by omega), bA 130 (by omega) (by omega) (by omega) (by omega), bA 124 (by omega) (by omega) (by omega) (by omega), if_neg (by omega)]; exact j3
          · exact g12
          · rw [c6 9 (by omega), bA 124 (by omega) (by omega) (by omega) (by omega)]; exact j5.1
          · exact g10
          · rw [g11, b128]
          · rw [bA 123 (by omega) (by omega) (by omega) (by omega)] at b
            rw [f2 _ _ (fun v => ck_inj2 v.1), bA 126 (by omega) (by omega) (by omega) (by omega)]
            exact j6 j a b
          · rw [c6 16 (by omega), w16, b131]
        · rw [f2 _ _ (fun v => B_ck (by omega) v.1), i3, e1, bA 130 (by omega) (by omega) (by omega) (by omega)]
        · refine i4.cg ?_ ?_ (f2 _ _ (fun v => B_ck (by omega) v.1))
          · rw [e1]; exact bA 123 (by omega) (by omega) (by omega) (by omega)
          · rw [e1]; exact bA 126 (by omega) (by omega) (by omega) (by omega)
end

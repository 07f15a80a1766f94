/-! the class: a tick begins -/
section
variable {sx : Int → Int} {L : Nat} {P s M : Mem} {τ T : Int} {Q : Option AV → Mem → Prop} {B : Nat}
def FrX (B : Nat) (M M' : Mem) : Prop := FrB B M M' ∧ (∀ k, ¬ (11 ≤ k ∧ k ≤ 14) → M' B k = M B k) ∧ (∀ c k, B < c → c < B + 6 → M' c k = M c k) ∧ ∀ t k, 0 ≤ t → t < 8 → (2 ≤ k ∧ k ≤ 5 ∨ k = 17) → M' (ckA B t) k = M (ckA B t) k
theorem FrX.rfl' : FrX B M M := ⟨FrB.rfl', fun _ _ => rfl, fun _ _ _ _ => rfl, fun _ _ _ _ _ => rfl⟩
theorem FrX.tr {M1 M2 : Mem} (h : FrX B M M1) (h2 : FrX B M1 M2) : FrX B M M2 := ⟨h.1.tr h2.1, fun k q => (h2.2.1 k q).trans (h.2.1 k q), fun c k a b => (h2.2.2.1 c k a b).trans (h.2.2.1 c k a b), fun t k a b c => (h2.2.2.2 t k a b c).trans (h.2.2.2 t k a b c)⟩
theorem FrX.setB {M1 : Mem} {k v : Int} (h : FrX B M M1) (hk : 11 ≤ k ∧ k ≤ 14) : FrX B M (mset M1 B k v) := by
  refine ⟨h.1.set (by omega), fun k' q => ?_, fun c k' a b => ?_, fun t k' a b c => ?_⟩
  · rw [ms_k (by omega)]; exact h.2.1 k' q
  · rw [ms_c (by omega)]; exact h.2.2.1 c k' a b
  · rw [ms_c (ck_B (by omega))]; exact h.2.2.2 t k' a b c
theorem FrX.setC {M1 : Mem} {t k v : Int} (h : FrX B M M1) (h0 : 0 ≤ t) (h1 : t < 8) (hk : 6 ≤ k ∧ k ≤ 16) : FrX B M (mset M1 (ckA B t) k v) := by
  refine ⟨h.1.set (ck_in h0 h1), fun k' q => ?_, fun c k' a b => ?_, fun t' k' a b c => ?_⟩
  · rw [ms_c (B_ck (by omega))]; exact h.2.1 k' q
  · rw [ms_c (B_ck (by omega))]; exact h.2.2.1 c k' a b
  · rw [ms_ne (by omega)]; exact h.2.2.2 t' k' a b c
theorem FrJ.x {t : Int} {M1 : Mem} (h : FrJ B t M M1) (h0 : 0 ≤ t) (h1 : t < 8) : FrX B M M1 := by
  refine ⟨h.b h0 h1, fun k q => h _ _ (fun w => B_ck (by omega) w.1) (B_ck1 (by omega)), fun c k a b => h _ _ (fun w => B_ck (by omega) w.1) (B_ck1 (by omega)), fun t' k a b c => h _ _ (fun w => by omega) ck_inj1⟩
theorem FrI.x {t : Int} {M1 : Mem} (h : FrI B t M M1) (h0 : 0 ≤ t) (h1 : t < 8) : FrX B M M1 := by
  refine ⟨h.b h0 h1, fun k q => h _ _ (fun w => B_ck (by omega) w.1), fun c k a b => h _ _ (fun w => B_ck (by omega) w.1), fun t' k a b c => h _ _ (fun w => by omega)⟩
theorem FrK.x {M1 : Mem} (h : FrK B M M1) : FrX B M M1 := by
  refine ⟨h.b, fun k q => h _ _ (fun w => ?_), fun c k a b => h _ _ (fun w => ?_), fun t' k a b c => h _ _ (fun w => by omega)⟩
  · obtain ⟨_, t, a, b, e⟩ := w; exact B_ck (by omega) e
  · obtain ⟨_, t, a2, b2, e⟩ := w; exact B_ck (by omega) e
theorem CPr.fx {M' : Mem} (h : CPr P M B T) (f : FrX B M M') : CPr P M' B T := by
  obtain ⟨h1, h2, h3, h4, h5, h6⟩ := h
  have g := f.2.1
  refine ⟨by rw [g 6 (by omega)]; exact h1, by rw [g 7 (by omega)]; exact h2, by rw [g 8 (by omega)]; exact h3, by rw [g 9 (by omega)]; exact h4, by rw [g 10 (by omega)]; exact h5, fun t a b => ?_⟩
  have c := f.2.2.2
  rw [c t 2 a b (by omega), c t 3 a b (by omega), c t 4 a b (by omega), c t 5 a b (by omega), c t 17 a b (by omega)]
  exact h6 t a b
/-- the keys in force -/
def KI (P s M : Mem) (B : Nat) : Prop := ∃ b0 : Int → Int, (∀ t, 0 ≤ t → t < 8 → s 130 t = 1 → b0 t + offK P = kbF P s t) ∧ ((0 < P 104 34 ∧ P 104 33 < 2) → IsF b0 (s 133) (fun t => M (ckA B t) 15) ∧ ∀ t o, 0 ≤ t → t < 8 → 0 ≤ o → o < 8 → tb (s 133 t) o = true → 0 ≤ b0 t + offK P ∧ 0 ≤ b0 o + offK P) ∧ (¬ (0 < P 104 34 ∧ P 104 33 < 2) → ∀ t, 0 ≤ t → t < 8 → M (ckA B t) 15 = b0 t)
theorem KI.key (hst : STs s) (hv : SV P s) (h : KI P s M B) : ∀ t, 0 ≤ t → t < 8 → s 130 t = 1 → M (ckA B t) 15 + offK P = frc P s t := by
  intro t a b ho
  obtain ⟨b0, h1, h2, h3⟩ := h
  unfold frc
  by_cases hl : 0 < P 104 34 ∧ P 104 33 < 2
  · rw [if_pos hl]
    obtain ⟨hF, hn⟩ := h2 hl
    have key : IsF (baF P s) (s 133) (fun t => if s 130 t = 0 then 0 else M (ckA B t) 15 + offK P) := by
      have low : ∀ t, 0 ≤ t → t < 8 → 0 ≤ b0 t + offK P → -offK P ≤ M (ckA B t) 15 := by
        intro t a b c
        have := hF.2.2 (fun t => if 0 ≤ b0 t + offK P then -offK P else b0 t) (fun t a b => by split <;> omega) (fun t o a b c d e => by
          have := hn t o a b c d e
          dsimp only
          rw [if_pos this.1, if_pos this.2]
          exact Int.le_refl _) t a b
        rw [if_pos c] at this
        exact this
      refine ⟨fun t a b => ?_, fun t o a b c d e => ?_, fun g g1 g2 t a b => ?_⟩
      · unfold baF
        dsimp only
        by_cases q : s 130 t = 0
        · rw [if_pos q, if_pos q]; omega
        · rw [if_neg q, if_neg q]
          have := hF.1 t a b
          have := h1 t a b (hv.on a b q)
          dsimp only at *
          omega
      · have ht : ¬ s 130 t = 0 := fun q => by
          have z := (hst t a b).1 q
          have := (hst t a b).2.2.1 (by omega)
          rw [this, tb_zero] at e
          cases e
        have := hF.2.1 t o a b c d e
        have l := low t a b (hn t o a b c d e).1
        dsimp only at *
        rw [if_neg ht]
        split <;> omega
      · -- the greatest
        have hh := hF.2.2 (fun t => if s 130 t = 0 then M (ckA B t) 15 else max (g t - offK P) (M (ckA B t) 15)) (fun t a b => ?_) (fun t o a b c d e => ?_) t a b
        · dsimp only at hh ⊢
          by_cases q : s 130 t = 0
          · rw [if_pos q]
            have := g1 t a b
            unfold baF at this
            rw [if_pos q] at this
            exact this
          · rw [if_neg q] at hh ⊢
            omega
        · have := hF.1 t a b
          dsimp only at *
          by_cases q : s 130 t = 0
          · rw [if_pos q]; exact this
          · rw [if_neg q]
            have z := g1 t a b
            unfold baF at z
            rw [if_neg q] at z
            have := h1 t a b (hv.on a b q)
            omega
        · have ht : ¬ s 130 t = 0 := fun q => by
            have z := (hst t a b).1 q
            have := (hst t a b).2.2.1 (by omega)
            rw [this, tb_zero] at e
            cases e
          have k1 := hF.2.1 t o a b c d e
          have k2 := g2 t o a b c d e
          dsimp only at *
          rw [if_neg ht]
          split <;> omega
    rw [frcF_eq key a b]
    rw [if_neg (by omega)]
  · rw [if_neg hl, h3 hl t a b]
    unfold baF
    rw [if_neg (by omega)]
    exact h1 t a b ho
def CBt (P s M : Mem) (B : Nat) (t : Int) : Prop := CJ P s M B t ∧ M (ckA B t) 16 = s 131 t
def CMt (P s M : Mem) (B : Nat) (τ t : Int) : Prop := CJ P s M B t ∧ (M (ckA B t) 16 = if s 132 t = 1 then τ else s 131 t) ∧ (s 132 t = 2 → M (ckA B t) 13 = s 133 t)
theorem mkB_cg {n : Nat} {p q : Int → Bool} (h : ∀ k : Int, 0 ≤ k → k < n → p k = q k) : mkB n p = mkB n q := by
  induction n with
  | zero => rfl
  | succ n ih =>
    simp only [mkB]
    rw [ih fun k h0 h1 => h k h0 (by omega), h n (by omega) (by omega)]
theorem cm1_no {k : Int} (hv : SVt P s k) (hA : tb (P 104 27) k = false) {c : Nat} (h1 : ¬ c = 132) (h2 : ¬ c = 133) : cm1 P τ k s c = s c := by
  obtain ⟨a1, a2, a3, a4, a5, a6, a7, a8, a9⟩ := hv
  have := a7 hA
  have e1 : cmA P τ k s = s := by
    unfold cmA com
    rw [hA, Bool.false_and, if_neg (by decide)]
  unfold cm1
  rw [cmC_c h1 h2, e1]
  unfold cmB
  rw [if_neg (by omega)]
theorem cm1_131 {k : Int} : cm1 P τ k s 131 = s 131 := by
  unfold cm1
  rw [cmC_c (by omega) (by omega), cmB_c (by omega) (by omega) (by omega) (by omega), cmA_c (by omega) (by omega)]
theorem s_39 (hB : isRb B) (hp : PV P) (hC : CPl P M) (hR : CPr P M B T) (hI : RI P s τ) (hb : ∀ t, 0 ≤ t → t < 8 → CBt P s M B t) (hτ0 : 0 ≤ τ) (hτ : τ < 120)
    (hQ : ∀ M', FrX B M M' → (∀ t, 0 ≤ t → t < 8 → CMt P (comesF P τ 8 s) M' B τ t) → M' B 11 = mkB 8 (fun t => decide (¬ comesF P τ 8 s 130 t = 0)) → KI P (comesF P τ 8 s) M' B → Q none M') : Mq sx L K0 R0 39 [vR (B + 2), vI τ] M Q := by
  have CR := comes_R hp hτ0 hτ hI
  refine m_39 (b_39_0 hB (lpM (N := 8) (I := fun k M' => FrX B M M' ∧ (∀ t, 0 ≤ t → t < 8 → CBt P (comesF P τ k.toNat s) M' B t) ∧ M' B 11 = mkB k.toNat (fun t => decide (¬ comesF P τ k.toNat s 130 t = 0)) ∧ ∀ t, 0 ≤ t → t < k → comesF P τ k.toNat s 130 t = 1 → M' (ckA B t) 15 + offK P = kbF P (comesF P τ k.toNat s) t) (G := fun k M' => ∀ u3, cat2 u3 = false → Rn sx L K0 R0 39 1 [vR (B + 2), vI τ, vI k, u3] [] M' Q) (fun k M' k0 k1 hJ ih => ?_) (fun M' hJ u3 h3 => bx_39_1 hB h3 (by omega) (b_39_3 hB h3 ?_)) 0 (mset M B 11 0) (by omega) (by omega) ⟨FrX.rfl'.setB (by omega), fun t a b => ?_, ms_eq, fun t a b => by omega⟩ vU rfl))
  · have cr := CR k.toNat (by omega)
    have hm := (cr k k0 k1).2 (by omega)
    have hv : SV P (comesF P τ k.toNat s) := fun t a b => by
      by_cases q : t < k.toNat
      · exact ((cr t a b).1 q).1
      · exact ((cr t a b).2 q).1
    rw [comesF_s k0] at ih
    generalize comesF P τ k.toNat s = z at hJ ih hm hv
    clear cr
    obtain ⟨i1, i2, i3, i4⟩ := hJ
    intro u3 h3
    have R1 := hR.fx i1
    have C1 := hC.fr hB i1.1
    have hA := hp.1
    obtain ⟨p1, p2, p3, p4, p5, p6⟩ := R1
    have smt : ∀ t, ¬ t = k → SmT z (cm1 P τ k z) t := fun t e => cm1_sm hm.1 e
    -- keys and bits of others
    have keep : ∀ M2 : Mem, (∀ t, 0 ≤ t → t < 8 → ¬ t = k → M2 (ckA B t) 15 = M' (ckA B t) 15) → ∀ t, 0 ≤ t → t < k → cm1 P τ k z 130 t = 1 → M2 (ckA B t) 15 + offK P = kbF P (cm1 P τ k z) t := by
      intro M2 f t a b c
      have e : ¬ t = k := by omega
      have s1 := (smt t e).1
      rw [s1 130 (by omega) (by omega) (by omega) (by omega)] at c
      rw [f t a (by omega) e, i4 t a b c]
      unfold kbF
      rw [s1 124 (by omega) (by omega) (by omega) (by omega), s1 131 (by omega) (by omega) (by omega) (by omega)]
    have bits : mkB k.toNat (fun t => decide (¬ cm1 P τ k z 130 t = 0)) = mkB k.toNat (fun t => decide (¬ z 130 t = 0)) := mkB_cg fun t a b => by rw [(smt t (by omega)).1 130 (by omega) (by omega) (by omega) (by omega)]
    have oth : ∀ M2 : Mem, (∀ t j, 0 ≤ t → t < 8 → ¬ t = k → M2 (ckA B t) j = M' (ckA B t) j ∧ M2 (ckA B t + 1) j = M' (ckA B t + 1) j) → ∀ t, 0 ≤ t → t < 8 → ¬ t = k → CBt P (cm1 P τ k z) M2 B t := by
      intro M2 f t a b e
      refine ⟨(i2 t a b).1.sm (hv t a b) (smt t e) (fun j => (f t j a b e).1) (fun j => (f t j a b e).2), ?_⟩
      rw [(f t 16 a b e).1, (smt t e).1 131 (by omega) (by omega) (by omega) (by omega)]
      exact (i2 t a b).2
    refine b_39_1 hB h3 ⟨k0, k1⟩ ⟨fun q => absurd q (by omega), fun _ => ?_⟩
    rw [p1]
    refine ⟨⟨hA.1, by omega⟩, fun q => ?_, fun q => ?_⟩
    · rw [bt_ne hA] at q
      have no := fun c h1 h2 => cm1_no (P := P) (τ := τ) (k := k) hm.1 q (c := c) h1 h2
      have o0 : z 130 k = 0 := by
        obtain ⟨a1, a2, a3, a4, a5, a6, a7, a8, a9⟩ := hm.1
        have := a7 q
        apply Classical.byContradiction
        intro w
        have := (a8 (by omega)).1
        omega
      refine b_39_2 hB h3 ⟨⟨by omega, by omega⟩, ih M' ⟨i1, fun t a b => ?_, ?_, fun t a b c => ?_⟩ _ h3⟩
      · by_cases e : t = k
        · rw [e]
          refine ⟨(i2 k k0 k1).1.eq (fun c j w => by rw [no c (by omega) (by omega)]) (fun _ _ => rfl) (fun _ => rfl), ?_⟩
          rw [no 131 (by omega) (by omega)]
          exact (i2 k k0 k1).2
        · exact oth M' (fun _ _ _ _ _ => ⟨rfl, rfl⟩) t a b e
      · rw [mkB_s k0, bits, no 130 (by omega) (by omega), o0]
        rw [if_neg (by decide)]
        exact i3
      · by_cases e : t = k
        · rw [e, no 130 (by omega) (by omega), o0] at c; omega
        · exact keep M' (fun _ _ _ _ => rfl) t a (by omega) c
    · rw [bt_ne hA] at q
      have q' : tb (P 104 27) k = true := by simpa using q
      have hmi := cm1_R hp hτ0 hτ k0 k1 hv hm
      have rk := hp.2.2.2.2.2.2.2.2.2.2.2.1 k k0 k1
      refine s_4 hB k0 k1 C1 hp q' ((p6 k k0 k1).1 q') hm.1 hm.2.2.1 hτ (i2 k k0 k1).1 fun M2 j f => ⟨rfl, ?_⟩
      have e7 : M2 B 7 = P 104 33 := by rw [f _ _ (fun w => B_ck (by omega) w.1) (B_ck1 (by omega))]; exact p2
      have e3 : M2 (ckA B k) 3 = P 121 k := by rw [f _ _ (by omega) (by omega)]; exact (p6 k k0 k1).2.1
      have e16 : M2 (ckA B k) 16 = z 131 k := by rw [f _ _ (by omega) (by omega)]; exact (i2 k k0 k1).2
      rw [e7]
      refine s_5 hB k0 k1 (by rw [e3]; exact ⟨by omega, by omega⟩) fun v v0 v1 v2 => ⟨rfl, ?_⟩
      have e8 : mset M2 (ckA B k) 15 v (ckA B k) 8 = if cm1 P τ k z 130 k = 0 then -1 else cm1 P τ k z 124 k - 1 := by
        rw [ms_k (by omega)]; exact j.2.2.1
      have jj : CJ P (cm1 P τ k z) (mset M2 (ckA B k) 15 v) B k := j.eq (fun _ _ _ => rfl) (fun i w => ms_k (by omega)) (fun _ => by rw [ms_c (by omega)])
      have cb : ∀ M3 : Mem, (∀ c i, ¬ (c = B ∧ i = 11) → M3 c i = mset M2 (ckA B k) 15 v c i) → ∀ t, 0 ≤ t → t < 8 → CBt P (cm1 P τ k z) M3 B t := by
        intro M3 g t a b
        by_cases e : t = k
        · rw [e]
          refine ⟨jj.eq (fun _ _ _ => rfl) (fun i _ => g _ _ (fun w => ck_B (by omega) w.1)) (fun i => g _ _ (fun w => ck1_B (by omega) w.1)), ?_⟩
          rw [g _ _ (fun w => ck_B (by omega) w.1), ms_k (by omega), e16, cm1_131]
        · refine oth M3 (fun u i a b e => ⟨?_, ?_⟩) t a b e
          · rw [g _ _ (fun w => ck_B (by omega) w.1), ms_c (ck_inj a k0 e), f _ _ (fun w => ck_inj a k0 e w.1) ck_inj1]
          · rw [g _ _ (fun w => ck1_B (by omega) w.1), ms_c ck_inj2, f _ _ (fun w => ck_inj2 w.1) (ck_inj3 a k0 e)]
      have fx : ∀ M3 : Mem, FrX B (mset M2 (ckA B k) 15 v) M3 → FrX B M M3 := fun M3 g => ((i1.tr (f.x k0 k1)).setC k0 k1 (by omega)).tr g
      have kk : cm1 P τ k z 130 k = 1 → v + offK P = kbF P (cm1 P τ k z) k := by
        intro ho
        unfold kbF offK
        by_cases r0 : P 104 33 = 0
        · rw [if_pos r0, if_pos r0, v0 r0, e3]; omega
        · rw [if_neg r0, if_neg r0]
          by_cases r1 : P 104 33 = 1
          · rw [if_pos r1, v1 r1, (j.2.2.2.2.1 ho).1]
            unfold caF
            omega
          · rw [if_neg r1, v2 r0 r1, e16, cm1_131]; omega
      have keys : ∀ M3 : Mem, (∀ c i, ¬ (c = B ∧ i = 11) → M3 c i = mset M2 (ckA B k) 15 v c i) → ∀ t, 0 ≤ t → t < k + 1 → cm1 P τ k z 130 t = 1 → M3 (ckA B t) 15 + offK P = kbF P (cm1 P τ k z) t := by
        intro M3 g t a b c
        by_cases e : t = k
        · rw [e] at c ⊢
          rw [g _ _ (fun w => ck_B (by omega) w.1), ms_eq]
          exact kk c
        · refine keep M3 (fun u a b e => ?_) t a (by omega) c
          rw [g _ _ (fun w => ck_B (by omega) w.1), ms_c (ck_inj a k0 e), f _ _ (fun w => ck_inj a k0 e w.1) ck_inj1]
      have e11 : mset M2 (ckA B k) 15 v B 11 = mkB k.toNat (fun t => decide (¬ cm1 P τ k z 130 t = 0)) := by
        rw [ms_c (B_ck (by omega)), f _ _ (fun w => B_ck (by omega) w.1) (B_ck1 (by omega)), bits]
        exact i3
      refine ⟨fun w => ?_, fun w => ⟨⟨by omega, by omega, (pow30 k0 (by omega)).2.2.2⟩, ?_⟩⟩
      · have o0 : cm1 P τ k z 130 k = 0 := by
          apply Classical.byContradiction
          intro o
          rw [e8, if_neg o] at w
          have := (hmi.1.2.2.2.2.2.2.2.1 (by have := hmi.1.2.2.2.2.1; omega)).1
          omega
        refine b_39_2 hB rfl ⟨⟨by omega, by omega⟩, ih _ ⟨fx _ FrX.rfl', cb _ (fun _ _ _ => rfl), ?_, keys _ (fun _ _ _ => rfl)⟩ _ rfl⟩
        rw [mkB_s k0, o0, if_neg (by decide)]
        exact e11
      · have o1 : ¬ cm1 P τ k z 130 k = 0 := fun o => by rw [e8, if_pos o] at w; exact w rfl
        have g : ∀ v2 c i, ¬ (c = B ∧ i = 11) → mset (mset M2 (ckA B k) 15 v) B 11 v2 c i = mset M2 (ckA B k) 15 v c i := fun v2 c i q => ms_ne q
        refine b_39_2 hB rfl ⟨⟨by omega, by omega⟩, ih _ ⟨fx _ (FrX.rfl'.setB (by omega)), cb _ (g _), ?_, keys _ (g _)⟩ _ rfl⟩
        rw [mkB_s k0, if_pos (decide_eq_true o1), ms_eq, e11]
  · obtain ⟨i1, i2, i3, i4⟩ := hJ
    rw [show (8 : Int).toNat = 8 from rfl] at i2 i3 i4
    have hmi := comes_MI hp hτ0 hτ hI
    have n1 : ∀ t, 0 ≤ t → t < 8 → ¬ comesF P τ 8 s 132 t = 1 ∧ ¬ comesF P τ 8 s 132 t = 2 ∧ comesF P τ 8 s 133 t = 0 := by
      have : ∀ n : Nat, n ≤ 8 → ∀ t : Int, 0 ≤ t → t < n → ¬ comesF P τ n s 132 t = 1 ∧ ¬ comesF P τ n s 132 t = 2 ∧ comesF P τ n s 133 t = 0 := by
        intro n
        induction n with
        | zero => intro _ t a b; omega
        | succ n ih =>
          intro hn t a b
          simp only [comesF]
          by_cases e : t = n
          · rw [e]
            unfold cmC
            rw [ms_c (c' := 132) (by omega), ms_eq, ms_eq]
            exact ⟨by split <;> omega, by split <;> omega, rfl⟩
          · rw [cmC_k e, cmB_k e, cmC_k e, cmB_k e, cmA_c (by omega) (by omega), cmA_c (by omega) (by omega)]
            exact ih (by omega) t a (by omega)
      exact fun t a b => this 8 (by omega) t a (by omega)
    refine hQ M' i1 (fun t a b => ⟨(i2 t a b).1, ?_, fun q => absurd q (n1 t a b).2.1⟩) i3 ⟨fun t => M' (ckA B t) 15, fun t a b c => i4 t a b c, fun _ => ⟨⟨fun _ _ _ => Int.le_refl _, fun t o a b c d e => ?_, fun g g1 _ => g1⟩, fun t o a b c d e => ?_⟩, fun _ _ _ _ => rfl⟩
    · rw [if_neg (n1 t a b).1]; exact (i2 t a b).2
    · rw [(n1 t a b).2.2, tb_zero] at e; cases e
    · rw [(n1 t a b).2.2, tb_zero] at e; cases e
  · have := hb t a b
    refine ⟨this.1.eq (fun _ _ _ => rfl) (fun i _ => ms_c (ck_B (by omega))) (fun i => ms_c (ck1_B (by omega))), ?_⟩
    rw [ms_c (ck_B (by omega))]
    exact this.2
end

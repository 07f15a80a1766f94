/-! the class: a tick is noted; a ring is looked for -/
section
variable {sx : Int → Int} {L : Nat} {P s z M : Mem} {τ T : Int} {Q : Option AV → Mem → Prop} {B : Nat}
def CLg (s M : Mem) (B : Nat) (n : Int) : Prop := ∀ t', 0 ≤ t' → t' < n → M (B + 2) t' = mkB 8 (fun t => decide (s 136 (200 * t + t') = 1)) ∧ M (B + 3) t' = mkB 8 (fun t => decide (s 136 (200 * t + t') = 2)) ∧ M (B + 4) t' = mkB 8 (fun t => decide (¬ s 136 (200 * t + t') = 0))
def RGr (s M : Mem) (B : Nat) : Prop := M B 15 = s 104 49 ∧ M B 16 = s 104 50 ∧ (s 104 49 = -1 → s 104 50 = 0)
/-- what noting may change -/
def FrN (B : Nat) (τ : Int) (M M' : Mem) : Prop := ∀ c k, ¬ (c = B ∧ (k = 15 ∨ k = 16)) → ¬ (k = 14 ∧ ∃ t, 0 ≤ t ∧ t < 8 ∧ c = ckA B t) → ¬ (B + 2 ≤ c ∧ c ≤ B + 4 ∧ k = τ) → M' c k = M c k
theorem CM.fn {M' : Mem} (hB : isRb B) (h : CM P s M B T τ) (f : FrN B τ M M') : CM P s M' B T τ := by
  obtain ⟨h1, ⟨p1, p2, p3, p4, p5, p6⟩, h3, ⟨b1, b2, b3⟩, h5, h6⟩ := h
  have fB : ∀ k, ¬ (k = 15 ∨ k = 16) → M' B k = M B k := fun k q => f _ _ (fun w => q w.2) (fun w => by obtain ⟨_, t, a, b, e⟩ := w; exact B_ck (by omega) e) (by omega)
  have fC : ∀ t k, ¬ k = 14 → M' (ckA B t) k = M (ckA B t) k := fun t k q => f _ _ (fun w => ck_B (by omega) w.1) (fun w => q w.1) (fun w => by unfold ckA at w; omega)
  have fD : ∀ t k, M' (ckA B t + 1) k = M (ckA B t + 1) k := fun t k => f _ _ (fun w => ck1_B (by omega) w.1) (fun w => by obtain ⟨_, u, a, b, e⟩ := w; exact ck_inj2 e) (fun w => by unfold ckA at w; omega)
  refine ⟨h1.fr hB (fun c k q => f _ _ (fun w => q (by rw [w.1]; omega)) (fun w => by obtain ⟨_, t, a, b, e⟩ := w; exact q (by rw [e]; exact ck_in a b)) (fun w => q (by omega))), ⟨by rw [fB 6 (by omega)]; exact p1, by rw [fB 7 (by omega)]; exact p2, by rw [fB 8 (by omega)]; exact p3, by rw [fB 9 (by omega)]; exact p4, by rw [fB 10 (by omega)]; exact p5, fun t a b => ?_⟩, fun t a b => (h3 t a b).eq (fun _ _ _ => rfl) (fun k q => fC t k (by omega)) (fun k => fD t k), ⟨by rw [fB 11 (by omega)]; exact b1, by rw [fB 12 (by omega)]; exact b2, by rw [fB 13 (by omega)]; exact b3⟩, by rw [fB 14 (by omega)]; exact h5, h6.mv (fun _ _ _ c => c) (fun _ _ _ => ⟨rfl, rfl⟩) (fun _ _ _ => rfl) (fun t a b => fC t 15 (by omega))⟩
  rw [fC t 2 (by omega), fC t 3 (by omega), fC t 4 (by omega), fC t 5 (by omega), fC t 17 (by omega)]
  exact p6 t a b
theorem s_48 {w : Int → Int} (hB : isRb B) (hw : WB w) (hb : inB (M B 13)) (h13 : ∀ t, 0 ≤ t → t < 8 → (if tb (M B 13) t = true then M (ckA B t) 13 else 0) = w t) (h16 : M B 16 = 0) (h15 : M B 15 = -1)
    (hQ : ∀ M', (∀ c k, ¬ (c = B ∧ (k = 15 ∨ k = 16)) → ¬ (k = 14 ∧ ∃ t, 0 ≤ t ∧ t < 8 ∧ c = ckA B t) → M' c k = M c k) → M' B 16 = rngB w → (M' B 15 = if rngB w = 0 then -1 else τ) → Q none M') : Mq sx L K0 R0 48 [vR (B + 2), vI τ] M Q := by
  refine m_48 (b_48_0 hB (lpM (N := 8) (I := fun k M' => (∀ c k, ¬ (k = 14 ∧ ∃ t, 0 ≤ t ∧ t < 8 ∧ c = ckA B t) → M' c k = M c k) ∧ ∀ t, 0 ≤ t → t < k → M' (ckA B t) 14 = w t) (G := fun k M' => Rn sx L K0 R0 48 1 [vR (B + 2), vI τ, vI k, vU] [] M' Q) (fun k M' k0 k1 hI ih => ?_) (fun M' hI => bx_48_1 hB (by omega) (b_48_4 hB ?_)) 0 M (by omega) (by omega) ⟨fun _ _ _ => rfl, fun t a b => by omega⟩))
  · obtain ⟨i1, i2⟩ := hI
    have e13 : M' B 13 = M B 13 := i1 _ _ (fun q => by omega)
    have c13 : M' (ckA B k) 13 = M (ckA B k) 13 := i1 _ _ (fun q => by omega)
    have hk := h13 k k0 k1
    have fin : ∀ v, v = w k → Rn sx L K0 R0 48 3 [vR (B + 2), vI τ, vI k, vU] [vI v, vR (ckA B k + 2)] M' Q := by
      intro v hv
      refine b_48_3 hB (isCk_A hB k0 k1) ⟨⟨by omega, by omega⟩, ih _ ⟨fun c j q => ?_, fun t a b => ?_⟩⟩
      · rw [ms_ne (fun e => q ⟨e.2, k, k0, k1, e.1⟩)]; exact i1 c j q
      · by_cases e : t = k
        · rw [e, ms_eq]; exact hv
        · rw [ms_c (ck_inj a k0 e)]; exact i2 t a (by omega)
    refine b_48_1 hB ⟨k0, k1⟩ ⟨fun q => absurd q (by omega), fun _ => ?_⟩
    rw [e13]
    refine ⟨⟨hb.1, by omega⟩, fun q => b_48_2 hB (isCk_A hB k0 k1) (fin 0 ?_), fun q => fin _ ?_⟩
    · rw [bt_ne hb] at q
      rw [if_neg (by rw [q]; decide)] at hk
      exact hk
    · rw [bt_ne hb] at q
      rw [if_pos (by simpa using q)] at hk
      rw [c13]; exact hk
  · obtain ⟨i1, i2⟩ := hI
    have start : WsI w (fun t => M' (ckA B t) 14) 0 := by
      refine ⟨fun t a b => by dsimp only; rw [i2 t a b]; exact hw t a b, fun i o a b c d e => by dsimp only; rw [i2 i a b]; exact e, fun i o a b c d e => by dsimp only at e; rw [i2 i a b] at e; exact Tc.base c d e, fun j i o a b => by omega⟩
    refine lpM (N := 8) (I := fun k M2 => (∀ c k, ¬ (k = 14 ∧ ∃ t, 0 ≤ t ∧ t < 8 ∧ c = ckA B t) → M2 c k = M c k) ∧ WsI w (fun t => M2 (ckA B t) 14) k) (G := fun k M2 => ∀ u3, cat2 u3 = false → Rn sx L K0 R0 48 5 [vR (B + 2), vI τ, vI k, u3] [] M2 Q) (fun k M2 k0 k1 hJ ih => ?_) (fun M2 hJ u3 h3 => b_48_5 hB h3 ⟨fun _ => b_48_9 hB h3 ?_, fun q => absurd (by omega) q⟩) 0 M' (by omega) (by omega) ⟨i1, start⟩ vU rfl
    · obtain ⟨j1, j2⟩ := hJ
      intro u3 h3
      have jB : ∀ x, 0 ≤ x → x < 8 → inB (M2 (ckA B x) 14) := fun x a b => j2.1 x a b
      refine b_48_5 hB h3 ⟨fun q => absurd q (by omega), fun _ => ?_⟩
      refine lpM (N := 8) (I := fun n M3 => (∀ c k, ¬ (k = 14 ∧ ∃ t, 0 ≤ t ∧ t < 8 ∧ c = ckA B t) → M3 c k = M c k) ∧ ∀ x, 0 ≤ x → x < 8 → M3 (ckA B x) 14 = if x < n ∧ tb (M2 (ckA B x) 14) k = true then iOr (M2 (ckA B x) 14) (M2 (ckA B k) 14) else M2 (ckA B x) 14) (G := fun n M3 => Rn sx L K0 R0 48 6 [vR (B + 2), vI τ, vI k, vI n] [] M3 Q) (fun n M3 n0 n1 hL ih2 => ?_) (fun M3 hL => bx_48_6 hB (by omega) (b_48_8 hB ⟨⟨by omega, by omega⟩, ih M3 ⟨hL.1, ?_⟩ _ rfl⟩)) 0 M2 (by omega) (by omega) ⟨j1, fun x a b => by rw [if_neg (by omega)]⟩
      · obtain ⟨l1, l2⟩ := hL
        have en : M3 (ckA B n) 14 = M2 (ckA B n) 14 := by rw [l2 n n0 n1, if_neg (by omega)]
        have ek : M3 (ckA B k) 14 = M2 (ckA B k) 14 := by
          rw [l2 k k0 k1]
          split
          · exact or_self (jB k k0 k1)
          · rfl
        have hbn := jB n n0 n1
        have fin : ∀ M4 : Mem, (∀ c k, ¬ (k = 14 ∧ ∃ t, 0 ≤ t ∧ t < 8 ∧ c = ckA B t) → M4 c k = M c k) → (∀ x, 0 ≤ x → x < 8 → ¬ x = n → M4 (ckA B x) 14 = M3 (ckA B x) 14) → (M4 (ckA B n) 14 = if tb (M2 (ckA B n) 14) k = true then iOr (M2 (ckA B n) 14) (M2 (ckA B k) 14) else M2 (ckA B n) 14) → Rn sx L K0 R0 48 7 [vR (B + 2), vI τ, vI k, vI n] [] M4 Q := by
          intro M4 f g1 g2
          refine b_48_7 hB ⟨⟨by omega, by omega⟩, ih2 M4 ⟨f, fun x a b => ?_⟩⟩
          by_cases e : x = n
          · rw [e, g2]
            by_cases y : tb (M2 (ckA B n) 14) k = true
            · rw [if_pos y, if_pos ⟨by omega, y⟩]
            · rw [if_neg y, if_neg (fun v => y v.2)]
          · rw [g1 x a b e, l2 x a b]
            by_cases y : tb (M2 (ckA B x) 14) k = true
            · by_cases v : x < n
              · rw [if_pos ⟨v, y⟩, if_pos ⟨by omega, y⟩]
              · rw [if_neg (fun v2 => v v2.1), if_neg (by omega)]
            · rw [if_neg (fun v => y v.2), if_neg (fun v => y v.2)]
        refine b_48_6 hB ⟨n0, n1⟩ ⟨k0, k1⟩ ⟨fun q => absurd q (by omega), fun _ => ?_⟩
        rw [en, ek]
        refine ⟨⟨hbn.1, by omega⟩, fun q => fin M3 l1 (fun _ _ _ _ => rfl) ?_, fun q => fin _ (fun c j v => ?_) (fun x a b e => ms_c (ck_inj a n0 e)) ?_⟩
        · rw [bt_ne hbn] at q
          rw [if_neg (by rw [q]; decide)]; exact en
        · rw [ms_ne (fun e => v ⟨e.2, n, n0, n1, e.1⟩)]; exact l1 c j v
        · rw [bt_ne hbn] at q
          rw [ms_eq, if_pos (by simpa using q)]
      · have e : ∀ x, 0 ≤ x → x < 8 → M3 (ckA B x) 14 = wsP (fun t => M2 (ckA B t) 14) k x := by
          intro x a b
          rw [hL.2 x a b]
          unfold wsP
          by_cases y : tb (M2 (ckA B x) 14) k = true
          · rw [if_pos ⟨b, y⟩, if_pos y]
          · rw [if_neg (fun v => y v.2), if_neg y]
        obtain ⟨n1, n2, n3, n4⟩ := j2.nx k0 k1
        exact ⟨fun t a b => by dsimp only; rw [e t a b]; exact n1 t a b, fun i o a b c d f => by dsimp only; rw [e i a b]; exact n2 i o a b c d f, fun i o a b c d f => by dsimp only at f; rw [e i a b] at f; exact n3 i o a b c d f, fun j i o a b b2 c d f g i2 i3 => by
          dsimp only at i2 i3 ⊢
          rw [e i c d] at i2 ⊢
          rw [e j a b2] at i3
          exact n4 j i o a b b2 c d f g i2 i3⟩
    · obtain ⟨j1, j2⟩ := hJ
      have R := rng_eq hw j2
      have e15 : M2 B 15 = -1 := by rw [j1 _ _ (fun q => by omega)]; exact h15
      have e16 : M2 B 16 = 0 := by rw [j1 _ _ (fun q => by omega)]; exact h16
      refine lpM (N := 8) (I := fun n M3 => (∀ c k, ¬ (c = B ∧ (k = 15 ∨ k = 16)) → M3 c k = M2 c k) ∧ M3 B 16 = mkB n.toNat (fun t => tb (M2 (ckA B t) 14) t) ∧ (M3 B 15 = if mkB n.toNat (fun t => tb (M2 (ckA B t) 14) t) = 0 then -1 else τ)) (G := fun n M3 => Rn sx L K0 R0 48 10 [vR (B + 2), vI τ, vI n, u3] [] M3 Q) (fun n M3 n0 n1 hL ih2 => ?_) (fun M3 hL => bx_48_10 hB h3 (by omega) (b_48_12 hB h3 (hQ M3 (fun c k q1 q2 => ?_) ?_ ?_))) 0 M2 (by omega) (by omega) ⟨fun _ _ _ => rfl, e16, e15⟩
      · obtain ⟨l1, l2, l3⟩ := hL
        rw [mkB_s n0] at ih2
        have hBk := mkB_B n.toNat (fun t => tb (M2 (ckA B t) 14) t) (by omega)
        generalize mkB n.toNat (fun t => tb (M2 (ckA B t) 14) t) = x at ih2 l2 l3 hBk
        have e14 : M3 (ckA B n) 14 = M2 (ckA B n) 14 := l1 _ _ (fun w => ck_B (by omega) w.1)
        have hb14 : inB (M2 (ckA B n) 14) := j2.1 n n0 n1
        refine b_48_10 hB h3 ⟨n0, n1⟩ ⟨fun q => absurd q (by omega), fun _ => ?_⟩
        rw [e14]
        refine ⟨⟨hb14.1, by omega⟩, fun q => b_48_11 hB h3 ⟨⟨by omega, by omega⟩, ih2 M3 ?_⟩, fun q => ⟨⟨by omega, by omega, (pow30 n0 (by omega)).2.2.2⟩, b_48_11 hB h3 ⟨⟨by omega, by omega⟩, ih2 _ ?_⟩⟩⟩
        · rw [bt_ne hb14] at q
          rw [if_neg (by rw [q]; decide)]
          exact ⟨l1, l2, l3⟩
        · rw [bt_ne hb14] at q
          rw [if_pos (by simpa using q)]
          refine ⟨fun c k v => ?_, ?_, ?_⟩
          · rw [ms_ne (by omega), ms_ne (by omega)]; exact l1 c k v
          · rw [ms_k (by omega), ms_eq, l2]
          · rw [ms_eq, if_neg ?_]
            rw [tb_ne0 (or_B hBk (pow_B (by omega))).1]
            exact ⟨n, n0, by rw [tb_or hBk (pow_B (by omega)), tb_pow n0 n0]; simp⟩
      · rw [hL.1 c k q1]
        exact j1 c k q2
      · rw [hL.2.1]; exact R
      · rw [hL.2.2]
        rw [show (8 : Int).toNat = 8 from rfl, R]
theorem s_128 {x : Int} (hx : 0 ≤ x ∧ x < 120) (hQ : Q (some (vI 1)) M) : Mq sx L K0 R0 128 [vI x] M Q :=
  m_128 (b_128_0 ⟨fun q => absurd q (by omega), fun _ => ⟨fun q => absurd q (by omega), fun _ => b_128_2 ⟨Or.inr rfl, hQ⟩⟩⟩)
theorem s_47 (hB : isRb B) (hτ0 : 0 ≤ τ) (hτ : τ < 120) (hI : MI P z τ) (hC : CM P z M B T τ) (hl : CLg z M B τ) (hr : RGr z M B)
    (hQ : ∀ M', CM P (notF z τ) M' B T τ → CLg (notF z τ) M' B (τ + 1) → RGr (notF z τ) M' B → FrN B τ M M' → Q none M') : Mq sx L K0 R0 47 [vR (B + 2), vI τ] M Q := by
  obtain ⟨hCl, hPr, hMt, ⟨b1, b2, b3⟩, h14, hKI⟩ := id hC
  have hst : STs z := fun t a b => (hI t a b).2.2.2.2.1
  refine m_47 (b_47_0 hB (s_128 ⟨hτ0, hτ⟩ ⟨_, rfl, fun _ => b_47_1 hB ?_, fun q => absurd (by omega) q⟩))
  have d1 : ¬ B + 2 = B := by omega
  have e12 : mset M (B + 2) τ (M B 12) B 13 = M B 13 := ms_c (by omega)
  have e11 : mset (mset M (B + 2) τ (M B 12)) (B + 3) τ (M B 13) B 11 = M B 11 := by rw [ms_c (by omega), ms_c (by omega)]
  rw [e12, e11]
  have eB : ∀ k, mset (mset (mset M (B + 2) τ (M B 12)) (B + 3) τ (M B 13)) (B + 4) τ (M B 11) B k = M B k := fun k => by rw [ms_c (by omega), ms_c (by omega), ms_c (by omega)]
  have eC : ∀ t k, mset (mset (mset M (B + 2) τ (M B 12)) (B + 3) τ (M B 13)) (B + 4) τ (M B 11) (ckA B t) k = M (ckA B t) k := fun t k => by rw [ms_c (ck_B (by omega)), ms_c (ck_B (by omega)), ms_c (ck_B (by omega))]
  have g2 : mset (mset (mset M (B + 2) τ (M B 12)) (B + 3) τ (M B 13)) (B + 4) τ (M B 11) (B + 2) τ = M B 12 := by rw [ms_c (by omega), ms_c (by omega), ms_eq]
  have g3 : mset (mset (mset M (B + 2) τ (M B 12)) (B + 3) τ (M B 13)) (B + 4) τ (M B 11) (B + 3) τ = M B 13 := by rw [ms_c (by omega), ms_eq]
  have g4 : mset (mset (mset M (B + 2) τ (M B 12)) (B + 3) τ (M B 13)) (B + 4) τ (M B 11) (B + 4) τ = M B 11 := ms_eq
  have gf : ∀ c k, ¬ (B + 2 ≤ c ∧ c ≤ B + 4 ∧ k = τ) → mset (mset (mset M (B + 2) τ (M B 12)) (B + 3) τ (M B 13)) (B + 4) τ (M B 11) c k = M c k := fun c k q => by rw [ms_ne (by omega), ms_ne (by omega), ms_ne (by omega)]
  generalize mset (mset (mset M (B + 2) τ (M B 12)) (B + 3) τ (M B 13)) (B + 4) τ (M B 11) = M1 at eB eC g2 g3 g4 gf ⊢
  rw [eB, eB]
  have i13 : inB (M B 13) := by rw [b3]; exact mkB_B 8 _ (by omega)
  have lt13 : M B 13 < 256 := by rw [b3]; exact mkB_lt (n := 8) (by omega)
  -- the states that are noted
  have n136 : ∀ t t', 0 ≤ t → t < 8 → 0 ≤ t' → t' < 200 → notF z τ 136 (200 * t + t') = if t' = τ then z 132 t else z 136 (200 * t + t') := by
    intro t t' a b c d
    unfold notF
    by_cases e : t' = τ
    · rw [if_pos ⟨rfl, by omega⟩, if_pos e, show (200 * t + t') / 200 = t by omega]
    · rw [if_neg (by omega), if_neg (by omega), if_neg (by omega), if_neg e]
  have nC : ∀ c, ¬ c = 136 → ¬ c = 104 → notF z τ c = z c := fun c a b => by
    funext k
    unfold notF
    rw [if_neg (by omega), if_neg (by omega), if_neg (by omega)]
  have logs : ∀ M' : Mem, (∀ c k, B + 2 ≤ c → c ≤ B + 4 → M' c k = M1 c k) → CLg (notF z τ) M' B (τ + 1) := by
    intro M' f t' a b
    rw [f _ _ (by omega) (by omega), f _ _ (by omega) (by omega), f _ _ (by omega) (by omega)]
    by_cases e : t' = τ
    · rw [e, g2, g3, g4, b1, b2, b3]
      refine ⟨mkB_cg fun t c d => ?_, mkB_cg fun t c d => ?_, mkB_cg fun t c d => ?_⟩
      · rw [n136 t τ c (by omega) hτ0 (by omega), if_pos rfl]
      · rw [n136 t τ c (by omega) hτ0 (by omega), if_pos rfl]
      · rw [n136 t τ c (by omega) hτ0 (by omega), if_pos rfl]
        have y := hst t c (by omega)
        have v := (hI t c (by omega)).1.2.2.2.2.1
        refine decide_eq_decide.mpr ⟨fun q => ?_, fun q w => ?_⟩
        · have := y.2.1 (by omega)
          omega
        · have := y.1 w
          omega
    · rw [gf _ _ (by omega), gf _ _ (by omega), gf _ _ (by omega)]
      have l := hl t' a (by omega)
      refine ⟨?_, ?_, ?_⟩
      · rw [l.1]; exact mkB_cg fun t c d => by rw [n136 t t' c (by omega) a (by omega), if_neg e]
      · rw [l.2.1]; exact mkB_cg fun t c d => by rw [n136 t t' c (by omega) a (by omega), if_neg e]
      · rw [l.2.2]; exact mkB_cg fun t c d => by rw [n136 t t' c (by omega) a (by omega), if_neg e]
  have cm : ∀ M', FrN B τ M M' → CM P (notF z τ) M' B T τ := fun M' f => (hC.fn hB f).cg fun c a b d => nC c b d
  have f1 : FrN B τ M M1 := fun c k _ _ q => gf c k q
  have n49 : notF z τ 104 49 = if z 104 49 = -1 ∧ ¬ rngB (z 133) = 0 then τ else z 104 49 := by
    unfold notF
    rw [if_neg (by omega)]
    by_cases g : z 104 49 = -1 ∧ ¬ rngB (z 133) = 0
    · rw [if_pos ⟨rfl, rfl, g⟩, if_pos g]
    · rw [if_neg (fun w => g w.2.2), if_neg (by omega), if_neg g]
  have n50 : notF z τ 104 50 = if z 104 49 = -1 ∧ ¬ rngB (z 133) = 0 then rngB (z 133) else z 104 50 := by
    unfold notF
    rw [if_neg (by omega), if_neg (by omega)]
    by_cases g : z 104 49 = -1 ∧ ¬ rngB (z 133) = 0
    · rw [if_pos ⟨rfl, rfl, g⟩, if_pos g]
    · rw [if_neg (fun w => g w.2.2), if_neg g]
  have nor : ¬ (z 104 49 = -1 ∧ ¬ rngB (z 133) = 0) → RGr (notF z τ) M1 B := by
    intro g
    unfold RGr
    rw [eB, eB, n49, n50, if_neg g, if_neg g]
    exact hr
  have wq : ∀ t, 0 ≤ t → t < 8 → (if tb (M B 13) t = true then M (ckA B t) 13 else 0) = z 133 t := by
    intro t a b
    rw [b3, tb8 a b]
    by_cases e : z 132 t = 2
    · rw [if_pos (decide_eq_true e)]; exact (hMt t a b).2.2 e
    · rw [if_neg (by rw [decide_eq_false e]; decide)]; exact ((hst t a b).2.2.1 e).symm
  refine ⟨⟨hτ0, hτ⟩, ⟨hτ0, hτ⟩, ⟨hτ0, hτ⟩, fun q => b_47_2 hB (hQ M1 (cm M1 f1) (logs M1 fun _ _ _ _ => rfl) (nor ?_) f1), fun q => ⟨⟨by omega, by omega⟩, fun q2 => b_47_2 hB (hQ M1 (cm M1 f1) (logs M1 fun _ _ _ _ => rfl) (nor ?_) f1), fun q2 => ?_⟩⟩
  · rw [hr.1] at q
    exact fun w => q w.1
  · have := rng_0 (w := z 133) hI.wv i13.1 lt13 (fun t a b c => ?_) (fun t a b => (hst t a b).2.2.2.1) q2
    · exact fun w => w.2 this
    · rw [b3, tb8 a b, decide_eq_true_eq] at c
      exact (hst t a b).2.2.1 c
  · have z49 : z 104 49 = -1 := by rw [← hr.1]; omega
    have m16 : M1 B 16 = 0 := by rw [eB, hr.2.1]; exact hr.2.2 z49
    refine s_48 (w := z 133) (τ := τ) hB hI.wv (by rw [eB]; exact i13) (fun t a b => by rw [eB, eC]; exact wq t a b) m16 (by rw [eB]; omega) fun M' f r1 r2 => ⟨rfl, b_47_2 hB (hQ M' (cm M' ?_) (logs M' fun c k a b => f c k (fun w => by omega) (fun w => by obtain ⟨_, t, _, _, e⟩ := w; unfold ckA at e; omega)) ?_ ?_)⟩
    · exact fun c k a b d => (f c k a b).trans (gf c k d)
    · unfold RGr
      rw [r1, r2, n49, n50]
      by_cases g : rngB (z 133) = 0
      · rw [if_pos g, if_neg (fun w => w.2 g), if_neg (fun w => w.2 g)]
        exact ⟨z49.symm, by rw [g]; exact (hr.2.2 z49).symm, hr.2.2⟩
      · rw [if_neg g, if_pos ⟨z49, g⟩, if_pos ⟨z49, g⟩]
        exact ⟨rfl, rfl, fun w => by omega⟩
    · exact fun c k a b d => (f c k a b).trans (gf c k d)
end

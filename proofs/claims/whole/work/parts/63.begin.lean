/-! the class: a run begins -/
section
variable {sx : Int → Int} {L : Nat} {P s z M : Mem} {τ T : Int} {Q : Option AV → Mem → Prop} {B S : Nat}
/-- the setting that a run goes by -/
def CSt (P M : Mem) (S : Nat) : Prop := M S 0 = P 104 27 ∧ M S 4 = P 104 33 ∧ M S 5 = P 104 34 ∧ M S 6 = P 104 24 ∧ (∀ t, 0 ≤ t → t < 8 → M (S + 1) t = P 121 t ∧ M (S + 3) t = P 122 t) ∧ M S 8 = P 104 30 ∧ (0 ≤ P 104 30 → M S 9 = P 104 31 ∧ M S 10 = P 104 32)
theorem st_out (hB : isRb B) (hS : isSt S) {j : Nat} (hj : j < 4) : outB B (S + j) := by unfold outB; unfold isRb at hB; unfold isSt at hS; omega
theorem CSt.fr {M' : Mem} (hB : isRb B) (hS : isSt S) (h : CSt P M S) (f : FrB B M M') : CSt P M' S := by
  obtain ⟨h1, h2, h3, h4, h5, h6, h7⟩ := h
  have g : ∀ k, M' S k = M S k := fun k => f S k (st_out hB hS (j := 0) (by omega))
  refine ⟨by rw [g]; exact h1, by rw [g]; exact h2, by rw [g]; exact h3, by rw [g]; exact h4, fun t a b => ?_, by rw [g]; exact h6, fun q => by rw [g, g]; exact h7 q⟩
  rw [f _ _ (st_out hB hS (j := 1) (by omega)), f _ _ (st_out hB hS (j := 3) (by omega))]
  exact h5 t a b
theorem le_maxI {x : Int} {f : Int → Int} (hx : 0 ≤ x) : ∀ n : Nat, x ≤ maxI n f ↔ ∃ k : Int, 0 ≤ k ∧ k < n ∧ x ≤ f k := by
  intro n
  induction n with
  | zero => simp only [maxI]; exact ⟨fun h => by omega, fun ⟨k, a, b, _⟩ => by omega⟩
  | succ n ih =>
    simp only [maxI]
    constructor
    · intro h
      by_cases e : x ≤ maxI n f
      · obtain ⟨k, a, b, c⟩ := ih.mp e
        exact ⟨k, a, by omega, c⟩
      · exact ⟨n, by omega, by omega, by omega⟩
    · rintro ⟨k, a, b, c⟩
      by_cases e : k = n
      · rw [e] at c; omega
      · have := ih.mpr ⟨k, a, by omega, c⟩
        omega
def barP (P : Mem) (i h : Int) (n : Nat) : Bool := exB n fun k => (tb (P 104 27) k && decide (P 121 i ≤ P 121 k)) && tb (tkB P k) h
theorem tk_B {k : Int} : inB (tkB P k) := mkB_B 6 _ (by omega)
theorem bar_eq (hp : PV P) (hl : P 104 34 = 2) {i b : Int} (h0 : 0 ≤ i) (h1 : i < 8) (hb : inB b) (h : ∀ x, 0 ≤ x → tb b x = barP P i x 8) : b = brB P i := by
  refine tb_ext hb.1 brB_B.1 fun x x0 => ?_
  rw [h x x0]
  unfold brB
  rw [tb_mkB 6 _ (by omega) x0]
  refine Bool.eq_iff_iff.mpr ?_
  unfold barP
  rw [exB_iff]
  simp only [Bool.and_eq_true, decide_eq_true_eq]
  have hr0 := (hp.2.2.2.2.2.2.2.2.2.2.2.1 i h0 h1).1
  have e : (P 121 i ≤ hiR P x) ↔ ∃ k : Int, 0 ≤ k ∧ k < 8 ∧ tb (P 104 27) k = true ∧ tksP P k x = true ∧ P 121 i ≤ P 121 k := by
    unfold hiR
    rw [le_maxI hr0]
    constructor
    · rintro ⟨k, a, b, c⟩
      split at c
      · next g => simp only [Bool.and_eq_true] at g; exact ⟨k, a, by omega, g.1, g.2, c⟩
      · omega
    · rintro ⟨k, a, b, c, d, e⟩
      exact ⟨k, a, by omega, by rw [if_pos (by rw [c, d]; rfl)]; exact e⟩
  rw [e]
  constructor
  · rintro ⟨k, a, b, ⟨c, d⟩, f⟩
    unfold tkB at f
    rw [tb_mkB 6 _ (by omega) x0] at f
    simp only [Bool.and_eq_true, decide_eq_true_eq] at f
    refine ⟨f.1, hl, ?_, k, a, by omega, c, f.2, d⟩
    have hV := hp.2.2.2.2.2.2.2.2.2.2.2.2 k a (by omega) c
    have g := f.2
    unfold tksP at g
    obtain ⟨j, j0, j1, g⟩ := exB_iff.mp g
    simp only [Bool.and_eq_true, decide_eq_true_eq] at g
    have st := hV.2.2.2.2.2.2.2.2 j.toNat (by omega)
    rw [Int.toNat_of_nonneg j0] at st
    omega
  · rintro ⟨q, _, _, k, a, b, c, d, f⟩
    refine ⟨k, a, by omega, ⟨c, f⟩, ?_⟩
    unfold tkB
    rw [tb_mkB 6 _ (by omega) x0, decide_eq_true q]
    exact d
theorem s_38 (hB : isRb B) (hp : PV P) (hC : CPl P M) (hl : P 104 34 = 2) (h6 : M B 6 = P 104 27) (h3 : ∀ t, 0 ≤ t → t < 8 → M (ckA B t) 3 = P 121 t) (h17 : ∀ t, 0 ≤ t → t < 8 → M (ckA B t) 17 = 0)
    (hQ : ∀ M', (∀ c k, ¬ (k = 17 ∧ ∃ t, 0 ≤ t ∧ t < 8 ∧ c = ckA B t) → M' c k = M c k) → (∀ t, 0 ≤ t → t < 8 → M' (ckA B t) 17 = brB P t) → Q none M') : Mq sx L K0 R0 38 [vR (B + 2)] M Q := by
  have hA := hp.1
  refine m_38 (b_38_0 hB (lpM (N := 8) (I := fun i M' => (∀ c k, ¬ (k = 17 ∧ ∃ t, 0 ≤ t ∧ t < 8 ∧ c = ckA B t) → M' c k = M c k) ∧ ∀ t, 0 ≤ t → t < 8 → (t < i → M' (ckA B t) 17 = brB P t) ∧ (¬ t < i → M' (ckA B t) 17 = 0)) (G := fun i M' => ∀ u2, cat2 u2 = false → Rn sx L K0 R0 38 1 [vR (B + 2), vI i, u2] [] M' Q) (fun i M' i0 i1 hI ih => ?_) (fun M' hI u2 h2 => b_38_1 hB h2 ⟨fun _ => b_38_5 hB h2 (hQ M' hI.1 fun t a b => (hI.2 t a b).1 b), fun q => absurd (by omega) q⟩) 0 M (by omega) (by omega) ⟨fun _ _ _ => rfl, fun t a b => ⟨fun q => by omega, fun _ => h17 t a b⟩⟩ vU rfl))
  obtain ⟨f1, f2⟩ := hI
  intro u2 h2
  refine b_38_1 hB h2 ⟨fun q => absurd q (by omega), fun _ => ?_⟩
  refine lpM (N := 8) (I := fun k M2 => (∀ c j, ¬ (j = 17 ∧ c = ckA B i) → M2 c j = M' c j) ∧ inB (M2 (ckA B i) 17) ∧ ∀ x, 0 ≤ x → tb (M2 (ckA B i) 17) x = barP P i x k.toNat) (G := fun k M2 => Rn sx L K0 R0 38 2 [vR (B + 2), vI i, vI k] [] M2 Q) (fun k M2 k0 k1 hJ ih2 => ?_) (fun M2 hJ => bx_38_2 hB (by omega) (b_38_4 hB ⟨⟨by omega, by omega⟩, ih M2 ⟨fun c j q => ?_, fun t a b => ?_⟩ _ rfl⟩)) 0 M' (by omega) (by omega) ⟨fun _ _ _ => rfl, by rw [(f2 i i0 i1).2 (by omega)]; exact ⟨by omega, by omega⟩, fun x _ => by rw [(f2 i i0 i1).2 (by omega), tb_zero]; rfl⟩
  · obtain ⟨g1, g2, g3⟩ := hJ
    have e6 : M2 B 6 = P 104 27 := by rw [g1 _ _ (fun w => by omega), f1 _ _ (fun w => by omega)]; exact h6
    have c3 : ∀ t, 0 ≤ t → t < 8 → M2 (ckA B t) 3 = P 121 t := fun t a b => by rw [g1 _ _ (fun w => by omega), f1 _ _ (fun w => by omega)]; exact h3 t a b
    have e11 : tb (P 104 27) k = true → M2 (plA k) 11 = tkB P k := fun w => by
      rw [g1 _ _ (fun w => by omega), f1 _ _ (fun w => by omega)]
      exact (hC.2.2.2.2 k k0 k1 w).2.2.2.2.1
    have fin : ∀ M3 : Mem, (∀ c j, ¬ (j = 17 ∧ c = ckA B i) → M3 c j = M2 c j) → inB (M3 (ckA B i) 17) → (∀ x, 0 ≤ x → tb (M3 (ckA B i) 17) x = barP P i x (k + 1).toNat) → Rn sx L K0 R0 38 3 [vR (B + 2), vI i, vI k] [] M3 Q := fun M3 a b c => b_38_3 hB ⟨⟨by omega, by omega⟩, ih2 M3 ⟨fun c' j q => (a c' j q).trans (g1 c' j q), b, c⟩⟩
    have bs : ∀ x, barP P i x (k + 1).toNat = (barP P i x k.toNat || ((tb (P 104 27) k && decide (P 121 i ≤ P 121 k)) && tb (tkB P k) x)) := fun x => exB_s k0 _
    refine b_38_2 hB ⟨k0, k1⟩ ⟨i0, i1⟩ ⟨fun q => absurd q (by omega), fun _ => ?_⟩
    rw [e6, c3 k k0 k1, c3 i i0 i1, plC_A hB k0 k1]
    refine ⟨⟨hA.1, by omega⟩, fun q => fin M2 (fun _ _ _ => rfl) g2 fun x x0 => ?_, fun q => ⟨fun q2 => fin M2 (fun _ _ _ => rfl) g2 fun x x0 => ?_, fun q2 => fin _ (fun c j w => ms_ne (fun e => w ⟨e.2, e.1⟩)) ?_ fun x x0 => ?_⟩⟩
    · rw [bt_ne hA] at q
      rw [bs, q, g3 x x0]
      simp
    · rw [bs, decide_eq_false (by omega), g3 x x0]
      simp
    · rw [bt_ne hA] at q
      rw [ms_eq, e11 (by simpa using q)]
      exact or_B g2 tk_B
    · rw [bt_ne hA] at q
      have q' : tb (P 104 27) k = true := by simpa using q
      rw [ms_eq, e11 q', tb_or g2 tk_B, bs, g3 x x0, q', decide_eq_true (by omega)]
      simp
  · rw [hJ.1 c j (fun w => q ⟨w.1, i, i0, i1, w.2⟩)]
    exact f1 c j q
  · by_cases e : t = i
    · rw [e]
      exact ⟨fun _ => bar_eq hp hl i0 i1 hJ.2.1 hJ.2.2, fun q => by omega⟩
    · rw [hJ.1 _ _ (fun w => ck_inj a i0 e w.2)]
      exact ⟨fun q => (f2 t a b).1 (by omega), fun q => (f2 t a b).2 (by omega)⟩
/-- what is there when a run has begun -/
theorem s_37 {len : Int} (hB : isRb B) (hS : isSt S) (hp : PV P) (hC : CPl P M) (hs : CSt P M S) (hlen : 0 ≤ len) (hlen2 : len ≤ 120)
    (hQ : ∀ M', CPl P M' → CPr P M' B len → (∀ t s0, 0 ≤ t → t < 8 → IniS s0 → CBt P s0 M' B t) → M' B 15 = -1 → M' B 16 = 0 → M' B 17 = 0 → FrB B M M' → Q none M') : Mq sx L K0 R0 37 [vR (B + 2), vR (S + 2), vI len] M Q := by
  obtain ⟨t1, t2, t3, t4, t5, t6, t7⟩ := id hs
  have hsb : ¬ S = B := by unfold isRb at hB; unfold isSt at hS; omega
  have hh := hp.2.2.2.2.2.2.2.1
  have hh3 := hp.2.2.2.2.2.2.2.2.1
  refine m_37 (b_37_0 hB hS ?_)
  rw [ms_c hsb, ms_c hsb, ms_c hsb, ms_c hsb, ms_c hsb, ms_c hsb, t1, t2, t3, t4, show min (P 104 24) 3 = P 104 24 by omega, show min len 120 = len by omega]
  have F1 : FrB B M (mset (mset (mset (mset (mset (mset (mset (mset M B 6 (P 104 27)) B 7 (P 104 33)) B 8 (P 104 34)) B 9 (P 104 24)) B 10 len) B 15 (-1)) B 16 0) B 17 0) := (((((((FrB.rfl'.set (by omega)).set (by omega)).set (by omega)).set (by omega)).set (by omega)).set (by omega)).set (by omega)).set (by omega)
  have x6 : mset (mset (mset (mset (mset (mset (mset (mset M B 6 (P 104 27)) B 7 (P 104 33)) B 8 (P 104 34)) B 9 (P 104 24)) B 10 len) B 15 (-1)) B 16 0) B 17 0 B 6 = P 104 27 := by simp [mset]
  have x7 : mset (mset (mset (mset (mset (mset (mset (mset M B 6 (P 104 27)) B 7 (P 104 33)) B 8 (P 104 34)) B 9 (P 104 24)) B 10 len) B 15 (-1)) B 16 0) B 17 0 B 7 = P 104 33 := by simp [mset]
  have x8 : mset (mset (mset (mset (mset (mset (mset (mset M B 6 (P 104 27)) B 7 (P 104 33)) B 8 (P 104 34)) B 9 (P 104 24)) B 10 len) B 15 (-1)) B 16 0) B 17 0 B 8 = P 104 34 := by simp [mset]
  have x9 : mset (mset (mset (mset (mset (mset (mset (mset M B 6 (P 104 27)) B 7 (P 104 33)) B 8 (P 104 34)) B 9 (P 104 24)) B 10 len) B 15 (-1)) B 16 0) B 17 0 B 9 = P 104 24 := by simp [mset]
  have x10 : mset (mset (mset (mset (mset (mset (mset (mset M B 6 (P 104 27)) B 7 (P 104 33)) B 8 (P 104 34)) B 9 (P 104 24)) B 10 len) B 15 (-1)) B 16 0) B 17 0 B 10 = len := by simp [mset]
  have x15 : mset (mset (mset (mset (mset (mset (mset (mset M B 6 (P 104 27)) B 7 (P 104 33)) B 8 (P 104 34)) B 9 (P 104 24)) B 10 len) B 15 (-1)) B 16 0) B 17 0 B 15 = -1 := by simp [mset]
  have x16 : mset (mset (mset (mset (mset (mset (mset (mset M B 6 (P 104 27)) B 7 (P 104 33)) B 8 (P 104 34)) B 9 (P 104 24)) B 10 len) B 15 (-1)) B 16 0) B 17 0 B 16 = 0 := by simp [mset]
  have x17 : mset (mset (mset (mset (mset (mset (mset (mset M B 6 (P 104 27)) B 7 (P 104 33)) B 8 (P 104 34)) B 9 (P 104 24)) B 10 len) B 15 (-1)) B 16 0) B 17 0 B 17 = 0 := by simp [mset]
  generalize mset (mset (mset (mset (mset (mset (mset (mset M B 6 (P 104 27)) B 7 (P 104 33)) B 8 (P 104 34)) B 9 (P 104 24)) B 10 len) B 15 (-1)) B 16 0) B 17 0 = M1 at F1 x6 x7 x8 x9 x10 x15 x16 x17 ⊢
  -- the cooks
  let CkI : Mem → Int → Prop := fun M2 t => (tb (P 104 27) t = true → M2 (ckA B t) 2 = P 116 t + P 122 t) ∧ M2 (ckA B t) 3 = P 121 t ∧ (M2 (ckA B t) 4 = if t = P 104 30 then P 104 31 else -1) ∧ (t = P 104 30 → M2 (ckA B t) 5 = P 104 32) ∧ M2 (ckA B t) 17 = 0 ∧ M2 (ckA B t) 6 = 0 ∧ M2 (ckA B t) 7 = 0 ∧ M2 (ckA B t) 8 = -1 ∧ M2 (ckA B t) 12 = 0 ∧ M2 (ckA B t) 16 = -1
  have cbt : ∀ M2 : Mem, ∀ t s0, 0 ≤ t → t < 8 → CkI M2 t → IniS s0 → CBt P s0 M2 B t := by
    intro M2 t s0 a b h hi
    obtain ⟨q1, q2, q3, q4, q5⟩ := hi.1 t a b
    obtain ⟨_, _, _, _, _, r6, r7, r8, r12, r16⟩ := h
    refine ⟨⟨by rw [r6, q1], by rw [r7, q2], by rw [r8, q4, if_pos rfl], by rw [r12, q3], fun w => by omega, fun j j0 j1 => by omega⟩, by rw [r16, q5]⟩
  refine lpM (N := 8) (I := fun k M2 => FrB B M M2 ∧ (∀ j, M2 B j = M1 B j) ∧ ∀ t, 0 ≤ t → t < k → CkI M2 t) (G := fun k M2 => ∀ u4, cat2 u4 = false → Rn sx L K0 R0 37 1 [vR (B + 2), vR (S + 2), vI len, vI k, u4] [] M2 Q) (fun k M2 k0 k1 hI ih => ?_) (fun M2 hI u4 h4 => bx_37_1 hB hS h4 (by omega) ?_) 0 M1 (by omega) (by omega) ⟨F1, fun _ => rfl, fun t a b => by omega⟩ vU rfl
  · obtain ⟨i1, i2, i3⟩ := hI
    intro u4 h4
    have hk := isCk_A hB k0 k1
    have C2 := hC.fr hB i1
    have S2 := hs.fr hB hS i1
    obtain ⟨s1, s2, s3, s4, s5, s6, s7⟩ := id S2
    have e6 := C2.2.2.2.1 k k0 k1
    have r := hp.2.2.2.2.2.2.2.2.2.2.2.1 k k0 k1
    refine b_37_1 hB hS h4 ⟨k0, k1⟩ ⟨fun q => absurd q (by omega), fun _ => ?_⟩
    rw [plC_A hB k0 k1, (s5 k k0 k1).1, (s5 k k0 k1).2]
    refine ⟨⟨by omega, by omega⟩, m_1 (b_1_0 hk ⟨rfl, ?_⟩)⟩
    have e2 : tb (P 104 27) k = true → M2 (plA k) 6 + P 122 k = P 116 k + P 122 k := fun w => by rw [(C2.2.2.2.2 k k0 k1 w).2.2.1]
    generalize hv : M2 (plA k) 6 + P 122 k = v at e2 ⊢
    have F3 : FrB B M (mset (mset (mset (mset (mset (mset (mset (mset (mset (mset M2 (ckA B k) 2 v) (ckA B k) 3 (P 121 k)) (ckA B k) 4 (-1)) (ckA B k) 5 0) (ckA B k) 6 0) (ckA B k) 7 0) (ckA B k) 8 (-1)) (ckA B k) 12 0) (ckA B k) 16 (-1)) (ckA B k) 17 0) := (((((((((i1.set (ck_in k0 k1)).set (ck_in k0 k1)).set (ck_in k0 k1)).set (ck_in k0 k1)).set (ck_in k0 k1)).set (ck_in k0 k1)).set (ck_in k0 k1)).set (ck_in k0 k1)).set (ck_in k0 k1)).set (ck_in k0 k1)
    have nS : ¬ S = ckA B k := by unfold isRb at hB; unfold isSt at hS; unfold ckA; omega
    have g8 : ∀ j, mset (mset (mset (mset (mset (mset (mset (mset (mset (mset M2 (ckA B k) 2 v) (ckA B k) 3 (P 121 k)) (ckA B k) 4 (-1)) (ckA B k) 5 0) (ckA B k) 6 0) (ckA B k) 7 0) (ckA B k) 8 (-1)) (ckA B k) 12 0) (ckA B k) 16 (-1)) (ckA B k) 17 0 S j = M2 S j := fun j => by rw [ms_c nS, ms_c nS, ms_c nS, ms_c nS, ms_c nS, ms_c nS, ms_c nS, ms_c nS, ms_c nS, ms_c nS]
    have gB : ∀ j, mset (mset (mset (mset (mset (mset (mset (mset (mset (mset M2 (ckA B k) 2 v) (ckA B k) 3 (P 121 k)) (ckA B k) 4 (-1)) (ckA B k) 5 0) (ckA B k) 6 0) (ckA B k) 7 0) (ckA B k) 8 (-1)) (ckA B k) 12 0) (ckA B k) 16 (-1)) (ckA B k) 17 0 B j = M1 B j := fun j => by
      have nB : ¬ B = ckA B k := B_ck (by omega)
      rw [ms_c nB, ms_c nB, ms_c nB, ms_c nB, ms_c nB, ms_c nB, ms_c nB, ms_c nB, ms_c nB, ms_c nB]
      exact i2 j
    have gO : ∀ t j, 0 ≤ t → ¬ t = k → mset (mset (mset (mset (mset (mset (mset (mset (mset (mset M2 (ckA B k) 2 v) (ckA B k) 3 (P 121 k)) (ckA B k) 4 (-1)) (ckA B k) 5 0) (ckA B k) 6 0) (ckA B k) 7 0) (ckA B k) 8 (-1)) (ckA B k) 12 0) (ckA B k) 16 (-1)) (ckA B k) 17 0 (ckA B t) j = M2 (ckA B t) j := fun t j a e => by
      have nt : ¬ ckA B t = ckA B k := ck_inj a k0 e
      rw [ms_c nt, ms_c nt, ms_c nt, ms_c nt, ms_c nt, ms_c nt, ms_c nt, ms_c nt, ms_c nt, ms_c nt]
    have gk : ∀ j, mset (mset (mset (mset (mset (mset (mset (mset (mset (mset M2 (ckA B k) 2 v) (ckA B k) 3 (P 121 k)) (ckA B k) 4 (-1)) (ckA B k) 5 0) (ckA B k) 6 0) (ckA B k) 7 0) (ckA B k) 8 (-1)) (ckA B k) 12 0) (ckA B k) 16 (-1)) (ckA B k) 17 0 (ckA B k) j = if j = 17 then 0 else if j = 16 then -1 else if j = 12 then 0 else if j = 8 then -1 else if j = 7 then 0 else if j = 6 then 0 else if j = 5 then 0 else if j = 4 then -1 else if j = 3 then P 121 k else if j = 2 then v else M2 (ckA B k) j := fun j => by simp [mset]
    generalize mset (mset (mset (mset (mset (mset (mset (mset (mset (mset M2 (ckA B k) 2 v) (ckA B k) 3 (P 121 k)) (ckA B k) 4 (-1)) (ckA B k) 5 0) (ckA B k) 6 0) (ckA B k) 7 0) (ckA B k) 8 (-1)) (ckA B k) 12 0) (ckA B k) 16 (-1)) (ckA B k) 17 0 = M3 at F3 g8 gB gO gk ⊢
    rw [g8, s6]
    have fin : ∀ M4 : Mem, FrB B M M4 → (∀ j, M4 B j = M1 B j) → (∀ t j, 0 ≤ t → ¬ t = k → M4 (ckA B t) j = M2 (ckA B t) j) → CkI M4 k → Rn sx L K0 R0 37 2 [vR (B + 2), vR (S + 2), vI len, vI k, vR (ckA B k + 2)] [] M4 Q := fun M4 a b c d => b_37_2 hB hS hk ⟨⟨by omega, by omega⟩, ih M4 ⟨a, b, fun t t0 t1 => by
      by_cases e : t = k
      · rw [e]; exact d
      · have i := i3 t t0 (by omega)
        show (_ ∧ _ ∧ _ ∧ _ ∧ _ ∧ _ ∧ _ ∧ _ ∧ _ ∧ _)
        rw [c t _ t0 e, c t _ t0 e, c t _ t0 e, c t _ t0 e, c t _ t0 e, c t _ t0 e, c t _ t0 e, c t _ t0 e, c t _ t0 e, c t _ t0 e]
        exact i⟩ _ rfl⟩
    refine ⟨fun q => fin M3 F3 gB gO ?_, fun q => ?_⟩
    · show (_ ∧ _ ∧ _ ∧ _ ∧ _ ∧ _ ∧ _ ∧ _ ∧ _ ∧ _)
      rw [gk 2, gk 3, gk 4, gk 5, gk 17, gk 6, gk 7, gk 8, gk 12, gk 16]
      refine ⟨e2, rfl, ?_, fun w => absurd w q, rfl, rfl, rfl, rfl, rfl, rfl⟩
      rw [if_neg q]
      rfl
    · have q' := Decidable.not_not.mp q
      have s7' := s7 (by omega)
      rw [ms_c nS, g8, g8, s7'.1, s7'.2]
      refine fin _ ((F3.set (ck_in k0 k1)).set (ck_in k0 k1)) (fun j => ?_) (fun t j a e => ?_) ?_
      · rw [ms_c (B_ck (by omega)), ms_c (B_ck (by omega))]; exact gB j
      · rw [ms_c (ck_inj a k0 e), ms_c (ck_inj a k0 e)]; exact gO t j a e
      · show (_ ∧ _ ∧ _ ∧ _ ∧ _ ∧ _ ∧ _ ∧ _ ∧ _ ∧ _)
        have n : ∀ j, ¬ j = 4 → ¬ j = 5 → mset (mset M3 (ckA B k) 4 (P 104 31)) (ckA B k) 5 (P 104 32) (ckA B k) j = M3 (ckA B k) j := fun j a b => by rw [ms_k b, ms_k a]
        rw [n 2 (by omega) (by omega), n 3 (by omega) (by omega), n 17 (by omega) (by omega), n 6 (by omega) (by omega), n 7 (by omega) (by omega), n 8 (by omega) (by omega), n 12 (by omega) (by omega), n 16 (by omega) (by omega), gk 2, gk 3, gk 17, gk 6, gk 7, gk 8, gk 12, gk 16]
        refine ⟨e2, rfl, ?_, fun _ => ms_eq, rfl, rfl, rfl, rfl, rfl, rfl⟩
        rw [ms_k (by omega), ms_eq, if_pos q']
  · obtain ⟨i1, i2, i3⟩ := hI
    have fin : ∀ M3 : Mem, FrB B M M3 → (∀ j, M3 B j = M1 B j) → (∀ t, 0 ≤ t → t < 8 → (∀ j, ¬ j = 17 → M3 (ckA B t) j = M2 (ckA B t) j) ∧ M3 (ckA B t) 17 = brB P t) → Q none M3 := by
      intro M3 a b c
      refine hQ M3 (hC.fr hB a) ⟨by rw [b]; exact x6, by rw [b]; exact x7, by rw [b]; exact x8, by rw [b]; exact x9, by rw [b]; exact x10, fun t t0 t1 => ?_⟩ (fun t s0 t0 t1 hi => ?_) (by rw [b]; exact x15) (by rw [b]; exact x16) (by rw [b]; exact x17) a
      · obtain ⟨r1, r2, r3, r4, _⟩ := i3 t t0 t1
        have d := (c t t0 t1).1
        rw [d 2 (by omega), d 3 (by omega), d 4 (by omega), d 5 (by omega)]
        exact ⟨r1, r2, r3, r4, (c t t0 t1).2⟩
      · have d := (c t t0 t1).1
        have cb := cbt M2 t s0 t0 t1 (i3 t t0 t1) hi
        refine ⟨?_, by rw [d 16 (by omega)]; exact cb.2⟩
        obtain ⟨c1, c2, c3, c4, c5, c6⟩ := cb.1
        refine ⟨by rw [d 6 (by omega)]; exact c1, by rw [d 7 (by omega)]; exact c2, by rw [d 8 (by omega)]; exact c3, by rw [d 12 (by omega)]; exact c4, fun w => by rw [d 9 (by omega), d 10 (by omega), d 11 (by omega)]; exact c5 w, fun j j0 j1 => ?_⟩
        have := (hi.1 t t0 t1).1
        omega
    refine b_37_3 hB hS h4 ?_
    rw [i2, x8]
    refine ⟨fun q => b_37_4 hB hS h4 (fin M2 i1 i2 fun t a b => ⟨fun _ _ => rfl, ?_⟩), fun q => ?_⟩
    · rw [(i3 t a b).2.2.2.2.1]
      symm
      unfold brB
      have : mkB 6 (fun h => decide (P 104 34 = 2 ∧ h < P 104 0 ∧ P 121 t ≤ hiR P h)) = mkB 6 (fun _ => false) := mkB_cg fun h _ _ => decide_eq_false (fun w => q w.1)
      rw [this]
      decide
    · refine s_38 hB hp (hC.fr hB i1) (Decidable.not_not.mp q) (by rw [i2]; exact x6) (fun t a b => (i3 t a b).2.1) (fun t a b => (i3 t a b).2.2.2.2.1) fun M3 f g => ⟨rfl, b_37_4 hB hS h4 (fin M3 ?_ (fun j => ?_) fun t a b => ⟨fun j w => f _ _ (fun e => w e.1), g t a b⟩)⟩
      · exact i1.tr fun c j w => f c j fun e => by
          obtain ⟨_, t, a, b, e⟩ := e
          exact w (by rw [e]; exact ck_in a b)
      · rw [f _ _ (fun e => by obtain ⟨_, t, a, b, e⟩ := e; exact B_ck (by omega) e)]
        exact i2 j
end

/-! what holds of each task, between ticks (RIt) and within one (MIt) -/
section
variable {sx : Int → Int} {L : Nat} {P s : Mem} {τ : Int}
def DNt (s : Mem) (τ t : Int) : Prop := ∀ j, 0 ≤ j → j < s 123 t → (j < s 124 t - s 130 t → 0 ≤ s 126 (200 * t + j) ∧ s 126 (200 * t + j) ≤ τ) ∧ (¬ j < s 124 t - s 130 t → s 126 (200 * t + j) = -1)
def STt (s : Mem) (t : Int) : Prop := (s 130 t = 0 → s 132 t = 0) ∧ (s 130 t = 1 → s 132 t = 1 ∨ s 132 t = 2 ∨ s 132 t = 3) ∧ (¬ s 132 t = 2 → s 133 t = 0) ∧ tb (s 133 t) t = false ∧ s 133 t < 256
def MIt (P s : Mem) (τ t : Int) : Prop := SVt P s t ∧ inB (s 133 t) ∧ W1t P s t ∧ DVt P s t ∧ STt s t ∧ CVt P s (τ + 1) t ∧ DNt s τ t
def RIt (P s : Mem) (τ t : Int) : Prop := SVt P s t ∧ DVt P s t ∧ CVt P s τ t ∧ DNt s τ t
def MI (P s : Mem) (τ : Int) : Prop := ∀ t, 0 ≤ t → t < 8 → MIt P s τ t
def RI (P s : Mem) (τ : Int) : Prop := ∀ t, 0 ≤ t → t < 8 → RIt P s τ t
def SmT (s s' : Mem) (t : Int) : Prop := (∀ c, ¬ c = 126 → ¬ c = 135 → ¬ c = 136 → ¬ c = 104 → s' c t = s c t) ∧ ∀ j, 0 ≤ j → j < 200 → s' 126 (200 * t + j) = s 126 (200 * t + j)
theorem MI.sv (h : MI P s τ) : SV P s := fun t a b => (h t a b).1
theorem MI.wv (h : MI P s τ) : WV s := fun t a b => (h t a b).2.1
theorem RI.sv (h : RI P s τ) : SV P s := fun t a b => (h t a b).1
theorem RI.cv (h : RI P s τ) : CV P s τ := fun t a b => (h t a b).2.2.1
theorem DNt.sm {s' : Mem} {t : Int} (hv : SVt P s t) (h : DNt s τ t) (e : SmT s s' t) : DNt s' τ t := by
  intro j j0 j1
  rw [e.1 123 (by omega) (by omega) (by omega) (by omega)] at j1
  rw [e.1 124 (by omega) (by omega) (by omega) (by omega), e.1 130 (by omega) (by omega) (by omega) (by omega), e.2 j j0 (by have := hv.2.2.1; omega)]
  exact h j j0 j1
theorem SVt.sm {s' : Mem} {t : Int} (h : SVt P s t) (e : SmT s s' t) : SVt P s' t := by
  unfold SVt at h ⊢
  rw [e.1 123 (by omega) (by omega) (by omega) (by omega), e.1 124 (by omega) (by omega) (by omega) (by omega), e.1 127 (by omega) (by omega) (by omega) (by omega), e.1 129 (by omega) (by omega) (by omega) (by omega), e.1 130 (by omega) (by omega) (by omega) (by omega), e.1 131 (by omega) (by omega) (by omega) (by omega)]
  exact h
theorem DVt.sm {s' : Mem} {t : Int} (h : DVt P s t) (e : SmT s s' t) : DVt P s' t := by
  unfold DVt at h ⊢
  rw [e.1 127 (by omega) (by omega) (by omega) (by omega), e.1 128 (by omega) (by omega) (by omega) (by omega), e.1 130 (by omega) (by omega) (by omega) (by omega)]
  exact h
theorem CVt.sm {s' : Mem} {t : Int} (h : CVt P s τ t) (e : SmT s s' t) : CVt P s' τ t := by
  unfold CVt at h ⊢
  rw [e.1 123 (by omega) (by omega) (by omega) (by omega)]
  exact h
theorem MIt.sm {s' : Mem} {t : Int} (h : MIt P s τ t) (e : SmT s s' t) : MIt P s' τ t := by
  obtain ⟨h1, h2, h3, h4, h5, h6, h7⟩ := h
  have x : ∀ c, ¬ c = 126 → ¬ c = 135 → ¬ c = 136 → ¬ c = 104 → s' c t = s c t := e.1
  refine ⟨h1.sm e, ?_, ?_, h4.sm e, ?_, h6.sm e, h7.sm h1 e⟩
  · rw [x 133 (by omega) (by omega) (by omega) (by omega)]; exact h2
  · unfold W1t at h3 ⊢
    rw [x 132 (by omega) (by omega) (by omega) (by omega), x 130 (by omega) (by omega) (by omega) (by omega), x 127 (by omega) (by omega) (by omega) (by omega)]
    exact h3
  · unfold STt at h5 ⊢
    rw [x 132 (by omega) (by omega) (by omega) (by omega), x 130 (by omega) (by omega) (by omega) (by omega), x 133 (by omega) (by omega) (by omega) (by omega)]
    exact h5
theorem RIt.sm {s' : Mem} {t : Int} (h : RIt P s τ t) (e : SmT s s' t) : RIt P s' τ t := by
  obtain ⟨h1, h2, h3, h4⟩ := h
  exact ⟨h1.sm e, h2.sm e, h3.sm e, h4.sm h1 e⟩
theorem cm1_sm {t k : Int} (hv : SVt P s t) (h : ¬ k = t) : SmT s (cm1 P τ t s) k := by
  refine ⟨fun c a _ _ _ => cm1_k h a, fun j j0 j1 => ?_⟩
  unfold cm1
  rw [cmC_c (by omega) (by omega), cmB_c (by omega) (by omega) (by omega) (by omega)]
  unfold cmA
  have := hv.1
  have := hv.2.1
  have := hv.2.2.1
  split
  · rw [ms_c (by omega), ms_k (by omega)]
  · rfl
theorem cm1_R {t : Int} (hp : PV P) (hτ0 : 0 ≤ τ) (hτ : τ < 120) (h0 : 0 ≤ t) (h1 : t < 8) (hv : SV P s) (h : RIt P s τ t) : MIt P (cm1 P τ t s) τ t := by
  obtain ⟨i1, i2, i3, i4⟩ := h
  have hSV := cm1_SV hv hp i3 hτ h0 h1 t h0 h1
  have x123 := cm1_123 (P := P) (s := s) (τ := τ) (t := t)
  have x132 : cm1 P τ t s 132 t = if cm1 P τ t s 130 t = 0 then 0 else 3 := by
    unfold cm1
    rw [cmC_c (c := 130) (by omega) (by omega)]
    unfold cmC
    rw [ms_c (by omega), ms_eq]
  have x133 : cm1 P τ t s 133 t = 0 := by unfold cm1 cmC; rw [ms_eq]
  have y : ∀ c : Nat, ¬ c = 132 → ¬ c = 133 → cm1 P τ t s c = cmB t (cmA P τ t s) c := fun c h1 h2 => by unfold cm1; rw [cmC_c h1 h2]
  have hcom : com P s τ t = true → tb (P 104 27) t = true ∧ τ = caF P t (s 123 t) := by
    unfold com
    intro z
    simp only [Bool.and_eq_true, decide_eq_true_eq] at z
    exact z
  obtain ⟨a1, a2, a3, a4, a5, a6, a7, a8, a9, a10⟩ := i1
  refine ⟨hSV, by rw [x133]; exact ⟨by omega, by omega⟩, ?_, ?_, ⟨?_, ?_, fun _ => x133, by rw [x133]; exact tb_zero t, by rw [x133]; omega⟩, ?_, ?_⟩
  · intro q
    rw [x132] at q
    split at q <;> cases q
  · unfold DVt
    rw [y 130 (by omega) (by omega), y 128 (by omega) (by omega), y 127 (by omega) (by omega)]
    unfold cmB
    split
    · next g =>
      rw [ms_c (c' := 128) (by omega), ms_eq, ms_c (c' := 127) (by omega), ms_c (c' := 127) (by omega), ms_eq]
      intro _
      have hA : tb (P 104 27) t = true := by
        cases hA : tb (P 104 27) t
        · have h2 := a7 hA
          rw [cmA_t, cmA_c (by omega) (by omega), cmA_c (by omega) (by omega)] at g
          have : ¬ com P s τ t = true := fun w => by rw [hA] at hcom; exact absurd (hcom w).1 (by decide)
          rw [if_neg this] at g
          omega
        · rfl
      have hV := hp.2.2.2.2.2.2.2.2.2.2.2.2 t h0 h1 hA
      obtain ⟨v1, v2, v3, v4, v5, v6, v7, v8, v9⟩ := hV
      refine ⟨by omega, fun q => ⟨fun q2 => ?_, fun _ => rfl⟩⟩
      have := v9 0 (by omega)
      have hl := hp.2.2.2.2.2.2.2.2.2.1
      unfold tkO
      have e0 : (20 * t + ((0 : Nat) : Int)) = 20 * t + 0 := rfl
      rw [e0] at this
      split <;> omega
    · rw [cmA_c (by omega) (by omega), cmA_c (by omega) (by omega), cmA_c (by omega) (by omega)]
      exact i2
  · intro q
    rw [x132, if_pos q]
  · intro q
    rw [x132, if_neg (by omega)]
    exact Or.inr (Or.inr rfl)
  · unfold CVt
    rw [x123]
    have i3a := i3.1
    have i3b := i3.2
    split
    · next w =>
      have w2 := hcom w
      have hV := hp.2.2.2.2.2.2.2.2.2.2.2.2 t h0 h1 w2.1
      refine ⟨by omega, fun _ => ⟨?_, fun _ => ?_⟩⟩
      · rw [caF_s]; have := hV.1; omega
      · rw [show s 123 t + 1 - 1 = s 123 t by omega]; omega
    · next w =>
      refine ⟨by omega, fun hA => ⟨?_, fun q => ?_⟩⟩
      · have := (i3b hA).1
        have : ¬ τ = caF P t (s 123 t) := fun e => w (by unfold com; rw [hA, decide_eq_true e]; rfl)
        omega
      · have := (i3b hA).2 q
        omega
  · intro j j0 j1
    rw [x123] at j1
    rw [y 124 (by omega) (by omega), y 130 (by omega) (by omega), y 126 (by omega) (by omega), cmB_c (c := 126) (by omega) (by omega) (by omega) (by omega)]
    have ejb : cmB t (cmA P τ t s) 124 t - cmB t (cmA P τ t s) 130 t = s 124 t - s 130 t := by
      unfold cmB
      split
      · next g =>
        rw [ms_eq, ms_c (c' := 130) (by omega), ms_c (c' := 130) (by omega), ms_c (c' := 130) (by omega), ms_eq]
        rw [cmA_c (by omega) (by omega), cmA_c (by omega) (by omega)] at g
        rw [cmA_c (by omega) (by omega)]
        omega
      · rw [cmA_c (by omega) (by omega), cmA_c (by omega) (by omega)]
    rw [ejb]
    unfold cmA
    split
    · next w =>
      rw [if_pos w] at j1
      rw [ms_c (by omega)]
      by_cases e : j = s 123 t
      · rw [e, ms_eq]
        exact ⟨fun q => by omega, fun _ => rfl⟩
      · rw [ms_k (by omega)]
        exact i4 j j0 (by omega)
    · next w =>
      rw [if_neg w] at j1
      exact i4 j j0 j1
theorem comes_R (hp : PV P) (hτ0 : 0 ≤ τ) (hτ : τ < 120) (h : RI P s τ) : ∀ n : Nat, n ≤ 8 → ∀ t : Int, 0 ≤ t → t < 8 → (t < n → MIt P (comesF P τ n s) τ t) ∧ (¬ t < n → RIt P (comesF P τ n s) τ t) := by
  intro n
  induction n with
  | zero => exact fun _ t a b => ⟨fun q => by omega, fun _ => h t a b⟩
  | succ n ih =>
    intro hn t a b
    have ih := ih (by omega)
    have e : comesF P τ (n + 1) s = cm1 P τ n (comesF P τ n s) := rfl
    rw [e]
    have hv : SV P (comesF P τ n s) := fun t a b => by
      by_cases q : t < n
      · exact ((ih t a b).1 q).1
      · exact ((ih t a b).2 q).1
    have hn0 := (ih n (by omega) (by omega)).2 (by omega)
    refine ⟨fun q => ?_, fun q => ?_⟩
    · by_cases e2 : t = n
      · rw [e2]
        exact cm1_R hp hτ0 hτ (by omega) (by omega) hv hn0
      · exact ((ih t a b).1 (by omega)).sm (cm1_sm hn0.1 e2)
    · exact ((ih t a b).2 (by omega)).sm (cm1_sm hn0.1 (by omega))
theorem comes_MI (hp : PV P) (hτ0 : 0 ≤ τ) (hτ : τ < 120) (h : RI P s τ) : MI P (comesF P τ 8 s) τ := fun t a b => (comes_R hp hτ0 hτ h 8 (by omega) t a b).1 (by omega)
/-- more of what a try leaves -/
theorem doF_D {i : Int} : ∀ (n : Nat) (s : Mem), (¬ (doF P τ i n s).1 = 2 → (doF P τ i n s).2 126 = s 126) ∧ ((doF P τ i n s).1 = 2 → ∀ k, (doF P τ i n s).2 126 k = if k = 200 * i + s 124 i - 1 then τ else s 126 k) := by
  intro n
  induction n with
  | zero =>
    intro s
    rw [doF]
    refine ⟨fun q => absurd rfl q, fun _ k => ?_⟩
    unfold endF
    dsimp only
    rw [ms_c (by omega), ms_c (by omega), ms_c (by omega)]
    by_cases e : k = 200 * i + s 124 i - 1
    · rw [e, ms_eq, if_pos rfl]
    · rw [ms_k e, if_neg e]
  | succ n ih =>
    intro s
    have go : ∀ v, (¬ (doF P τ i n (mset (mset s 129 i v) 127 i (s 127 i + 1))).1 = 2 → (doF P τ i n (mset (mset s 129 i v) 127 i (s 127 i + 1))).2 126 = s 126) ∧ ((doF P τ i n (mset (mset s 129 i v) 127 i (s 127 i + 1))).1 = 2 → ∀ k, (doF P τ i n (mset (mset s 129 i v) 127 i (s 127 i + 1))).2 126 k = if k = 200 * i + s 124 i - 1 then τ else s 126 k) := by
      intro v
      have := ih (mset (mset s 129 i v) 127 i (s 127 i + 1))
      rw [ms_f (c' := 126) (by omega), ms_f (c' := 126) (by omega), ms_f (c' := 124) (by omega), ms_f (c' := 124) (by omega)] at this
      exact this
    rw [doF]
    split
    · exact ⟨fun _ => by dsimp only; rw [ms_f (by omega)], fun q => absurd q (by dsimp only; omega)⟩
    · split
      · exact go _
      · split
        · exact ⟨fun _ => by dsimp only; rw [ms_f (by omega), ms_f (by omega)], fun q => absurd q (by dsimp only; omega)⟩
        · exact go _
theorem doF_0 {i : Int} {n : Nat} (h : P 118 (20 * i + s 127 i) = 0) (hn : 0 < n) : doF P τ i n s = (0, mset s 132 i 1) := by
  obtain ⟨m, rfl⟩ : ∃ m, n = m + 1 := ⟨n - 1, by omega⟩
  simp only [doF, if_pos h]
theorem wtB_self {i h : Int} (h0 : 0 ≤ i) : tb (wtB P s i h) i = false ∧ wtB P s i h < 256 := by
  unfold wtB
  refine ⟨?_, mkB_lt (n := 8) (by omega)⟩
  rw [tb_mkB 8 _ (by omega) h0]
  simp
theorem doF_W {i : Int} (h0 : 0 ≤ i) : ∀ (n : Nat) (s : Mem), (doF P τ i n s).1 = 1 → tb ((doF P τ i n s).2 133 i) i = false ∧ (doF P τ i n s).2 133 i < 256 := by
  intro n
  induction n with
  | zero => intro s q; simp only [doF] at q; omega
  | succ n ih =>
    intro s
    simp only [doF]
    split
    · intro q; dsimp only at q; omega
    · split
      · exact ih _
      · split
        · intro _; dsimp only; rw [ms_eq]; exact wtB_self h0
        · exact ih _
theorem do_sm {i t : Int} {z : Int × Mem} (hi0 : 0 ≤ i) (hi : i < 8) (t0 : 0 ≤ t) (hv : SVt P s i) (ho : s 130 i = 1) (h : DoR P s i z) (e : ¬ t = i) : SmT s z.2 t := by
  refine ⟨fun c a _ _ _ => h.1.2.1 c t a e, fun j j0 j1 => h.1.2.2 _ ?_⟩
  have := (hv.2.2.2.2.2.2.2.1 ho).1
  have := hv.2.1
  have := hv.2.2.1
  omega
theorem do_R {i : Int} (hp : PV P) (hτ0 : 0 ≤ τ) (hτ : τ < 120) (h0 : 0 ≤ i) (h1 : i < 8) (ho : s 130 i = 1) (h3 : s 132 i = 3) (h : MI P s τ) : MI P (doF P τ i (P 117 i - s 127 i).toNat s).2 τ := by
  have R := doF_R (τ := τ) hp h0 h1 _ s h.sv h.wv ho rfl
  have D := doF_D (P := P) (τ := τ) (i := i) (P 117 i - s 127 i).toNat s
  have W := doF_W (P := P) (τ := τ) (i := i) h0 (P 117 i - s 127 i).toNat s
  have Z : s 127 i < P 117 i → P 118 (20 * i + s 127 i) = 0 → doF P τ i (P 117 i - s 127 i).toNat s = (0, mset s 132 i 1) := fun a b => doF_0 b (by omega)
  generalize doF P τ i (P 117 i - s 127 i).toNat s = z at R D W Z ⊢
  have hi := h i h0 h1
  intro t a b
  by_cases e : t = i
  · subst e
    obtain ⟨i1, i2, i3, i4, i5, i6, i7⟩ := hi
    obtain ⟨r1, r2, r3, r4, r5, r6⟩ := R
    have e123 : z.2 123 t = s 123 t := r1.1 123 t (by omega)
    have e124 : z.2 124 t = s 124 t := r1.1 124 t (by omega)
    have e128 : z.2 128 t = s 128 t := r1.1 128 t (by omega)
    have w0 : s 133 t = 0 := i5.2.2.1 (by omega)
    have b8 := i1.2.2.2.2.2.2.2.1 ho
    refine ⟨r2 t a b, r3 t a b, ?_, ?_, ⟨?_, ?_, ?_, ?_, ?_⟩, ?_, ?_⟩
    · intro q
      rcases r4 with r | r | r
      · exact ⟨r.2.2.1, r.2.2.2.1, r.2.2.2.2⟩
      · omega
      · omega
    · intro q
      rw [e128]
      have d := i4 ho
      refine ⟨d.1, fun q2 => ?_⟩
      by_cases k1 : s 127 t < P 117 t
      · by_cases k2 : P 118 (20 * t + s 127 t) = 0
        · have := Z k1 k2
          rw [this] at q2 ⊢
          dsimp only at q2 ⊢
          rw [ms_c (by omega)] at q2 ⊢
          exact d.2 q2
        · have d0 := (d.2 k1).2 k2
          have hV := hp.2.2.2.2.2.2.2.2.2.2.2.2 t a b (h.sv.amo a b ho)
          obtain ⟨v1, v2, v3, v4, v5, v6, v7, v8, v9⟩ := hV
          have hst := v9 (z.2 127 t).toNat (by omega)
          rw [Int.toNat_of_nonneg (by omega)] at hst
          have hl := hp.2.2.2.2.2.2.2.2.2.1
          rw [d0]
          refine ⟨fun q3 => ?_, fun _ => rfl⟩
          unfold tkO
          split <;> omega
      · omega
    · intro q
      rcases r4 with r | r | r
      · omega
      · omega
      · exact r.2.1
    · intro q
      rcases r4 with r | r | r
      · exact Or.inl r.2.1
      · exact Or.inr (Or.inl r.2.1)
      · omega
    · intro q
      rw [r6 (by rcases r4 with r | r | r <;> omega)]
      exact w0
    · by_cases g : z.1 = 1
      · exact (W g).1
      · rw [r6 g, w0]; exact tb_zero t
    · by_cases g : z.1 = 1
      · exact (W g).2
      · rw [r6 g, w0]; omega
    · unfold CVt at i6 ⊢
      rw [e123]
      exact i6
    · intro j j0 j1
      rw [e123] at j1
      rw [e124]
      have dn := i7 j j0 j1
      by_cases g : z.1 = 2
      · rw [D.2 g]
        have z0 : z.2 130 t = 0 := by rcases r4 with r | r | r <;> omega
        rw [z0]
        by_cases q : 200 * t + j = 200 * t + s 124 t - 1
        · rw [if_pos q]
          exact ⟨fun _ => ⟨hτ0, by omega⟩, fun q2 => absurd (by omega) q2⟩
        · rw [if_neg q]
          exact ⟨fun q2 => dn.1 (by omega), fun q2 => dn.2 (by omega)⟩
      · rw [D.1 g]
        have z0 : z.2 130 t = 1 := by rcases r4 with r | r | r <;> omega
        rw [z0]
        rw [ho] at dn
        exact dn
  · exact (h t a b).sm (do_sm h0 h1 a hi.1 ho R e)
theorem MI.same {s' : Mem} (h : MI P s τ) (e : ∀ c k, ¬ c = 135 → ¬ c = 136 → ¬ c = 104 → s' c k = s c k) : MI P s' τ := fun t a b => (h t a b).sm ⟨fun c _ h2 h3 h4 => e c t h2 h3 h4, fun j _ _ => e 126 _ (by omega) (by omega) (by omega)⟩
theorem cho_R (hp : PV P) (hτ0 : 0 ≤ τ) (hτ : τ < 120) : ∀ (n : Nat) (h : Int) (s : Mem), MI P s τ → MI P (choF P τ n h s) τ := by
  intro n
  induction n with
  | zero => exact fun h s hM => hM.same fun c k a _ _ => by simp only [choF]; unfold filF; rw [if_neg (by omega)]
  | succ n ih =>
    intro h s hM
    simp only [choF]
    split
    · next g =>
      have nb := next_B (P := P) (s := s)
      have o := nb.2.2 g.2
      have R := do_R hp hτ0 hτ (by omega) nb.2.1 (hM.sv.on (by omega) nb.2.1 o.1) o.2 hM
      split
      · exact ih _ _ (R.same fun c k a _ _ => ms_c a)
      · exact ih _ _ R
    · exact hM.same fun c k a _ _ => by unfold filF; rw [if_neg (by omega)]
theorem not_R (h : MI P s τ) : MI P (notF s τ) τ := h.same fun c k a b d => by
  unfold notF
  rw [if_neg (by omega), if_neg (by omega), if_neg (by omega)]
theorem wk1_D {t : Int} (h1 : W1t P s t) (hp : PV P) (hv : SV P s) (hτ0 : 0 ≤ τ) (hτ : τ < 120) (t0 : 0 ≤ t) (t1 : t < 8) : (wk1 P τ t s 130 t = s 130 t ∧ wk1 P τ t s 126 = s 126) ∨ (s 130 t = 1 ∧ wk1 P τ t s 130 t = 0 ∧ ∀ k, wk1 P τ t s 126 k = if k = 200 * t + s 124 t - 1 then τ + 1 else s 126 k) := by
  unfold wk1
  split
  · next h =>
    have w := h1 h
    split
    · have hvA := wkA_R (t := t) hτ0 hτ hv
      have G : GvR P t (mset (mset (wkA τ t s) 128 t 0) 127 t (wkA τ t s 127 t + 1)) (wkB P t (wkA τ t s)) := by
        refine givF_R hp t0 t1 _ _ (hvA.nx hp t0 t1 ?_) ?_ ?_
        · unfold wkA
          rw [ms_c (c' := 130) (by omega), ms_c (c' := 130) (by omega), ms_c (c' := 127) (by omega), ms_c (c' := 127) (by omega)]
          exact w
        · unfold wkA
          rw [ms_c (c' := 130) (by omega), ms_c (c' := 130) (by omega), ms_c (c' := 130) (by omega), ms_c (c' := 130) (by omega)]
          exact w.1
        · rw [ms_eq]
      have z : ∀ c, (c = 124 ∨ c = 126 ∨ c = 130) → wkB P t (wkA τ t s) c = s c := by
        intro c hc
        funext k
        rw [G.1 c k (by omega) (by omega), ms_c (by omega), ms_c (by omega)]
        unfold wkA
        rw [ms_c (by omega), ms_c (by omega)]
      split
      · refine Or.inr ⟨w.1, ?_, fun k => ?_⟩
        · unfold endF
          rw [ms_c (by omega), ms_eq]
        · unfold endF
          rw [ms_c (by omega), ms_c (by omega), z 124 (by omega)]
          by_cases e : k = 200 * t + s 124 t - 1
          · rw [e, ms_eq, if_pos rfl]
          · rw [ms_k e, if_neg e, z 126 (by omega)]
      · exact Or.inl ⟨by rw [z 130 (by omega)], z 126 (by omega)⟩
    · refine Or.inl ⟨?_, ?_⟩
      · unfold wkA; rw [ms_c (by omega), ms_c (by omega)]
      · unfold wkA; rw [ms_f (by omega), ms_f (by omega)]
  · exact Or.inl ⟨rfl, rfl⟩
theorem wk1_sm {t k : Int} (t0 : 0 ≤ t) (hp : PV P) (hτ0 : 0 ≤ τ) (hτ : τ < 120) (hv : SV P s) (t1 : t < 8) (k0 : 0 ≤ k) (h1 : W1t P s t) (hd : DVt P s t) (e : ¬ k = t) : SmT s (wk1 P τ t s) k := by
  have R := wk1_R hτ0 hτ hp hv t0 t1 h1 hd
  refine ⟨fun c a _ _ _ => R.1 c k a e, fun j j0 j1 => ?_⟩
  rcases wk1_D h1 hp hv hτ0 hτ t0 t1 with d | d
  · rw [d.2]
  · rw [d.2.2, if_neg ?_]
    have := hv t t0 t1
    have b := (this.2.2.2.2.2.2.2.1 d.1).1
    have := this.2.1
    have := (hv t t0 t1).2.2.1
    omega
theorem wk1_I {t : Int} (hp : PV P) (hτ0 : 0 ≤ τ) (hτ : τ < 120) (t0 : 0 ≤ t) (t1 : t < 8) (hv : SV P s) (h : MIt P s τ t) : RIt P (wk1 P τ t s) (τ + 1) t := by
  obtain ⟨i1, i2, i3, i4, i5, i6, i7⟩ := h
  have R := wk1_R hτ0 hτ hp hv t0 t1 i3 i4
  have D := wk1_D i3 hp hv hτ0 hτ t0 t1
  obtain ⟨r1, r2, r3, r4, r5⟩ := R
  have e123 : wk1 P τ t s 123 t = s 123 t := r2 123 t (by omega)
  have e124 : wk1 P τ t s 124 t = s 124 t := r2 124 t (by omega)
  refine ⟨r4 t t0 t1, r5, ?_, ?_⟩
  · unfold CVt at i6 ⊢
    rw [e123]
    exact i6
  · intro j j0 j1
    rw [e123] at j1
    rw [e124]
    have dn := i7 j j0 j1
    rcases D with d | d
    · rw [d.1, d.2]
      exact ⟨fun q => ⟨(dn.1 q).1, by have := (dn.1 q).2; omega⟩, dn.2⟩
    · rw [d.2.1, d.2.2]
      rw [d.1] at dn
      by_cases q : 200 * t + j = 200 * t + s 124 t - 1
      · rw [if_pos q]
        exact ⟨fun _ => ⟨by omega, by omega⟩, fun q2 => absurd (by omega) q2⟩
      · rw [if_neg q]
        exact ⟨fun q2 => ⟨(dn.1 (by omega)).1, by have := (dn.1 (by omega)).2; omega⟩, fun q2 => dn.2 (by omega)⟩
theorem wkF_R (hp : PV P) (hτ0 : 0 ≤ τ) (hτ : τ < 120) (h : MI P s τ) : ∀ n : Nat, n ≤ 8 → ∀ t : Int, 0 ≤ t → t < 8 → (t < n → RIt P (wkF P τ n s) (τ + 1) t) ∧ (¬ t < n → MIt P (wkF P τ n s) τ t) := by
  intro n
  induction n with
  | zero => exact fun _ t a b => ⟨fun q => by omega, fun _ => h t a b⟩
  | succ n ih =>
    intro hn t a b
    have ih := ih (by omega)
    have e : wkF P τ (n + 1) s = wk1 P τ n (wkF P τ n s) := rfl
    rw [e]
    have hv : SV P (wkF P τ n s) := fun t a b => by
      by_cases q : t < n
      · exact ((ih t a b).1 q).1
      · exact ((ih t a b).2 q).1
    have hn0 := (ih n (by omega) (by omega)).2 (by omega)
    refine ⟨fun q => ?_, fun q => ?_⟩
    · by_cases e2 : t = n
      · rw [e2]
        exact wk1_I hp hτ0 hτ (by omega) (by omega) hv hn0
      · exact ((ih t a b).1 (by omega)).sm (wk1_sm (by omega) hp hτ0 hτ hv (by omega) a hn0.2.2.1 hn0.2.2.2.1 e2)
    · exact ((ih t a b).2 (by omega)).sm (wk1_sm (by omega) hp hτ0 hτ hv (by omega) a hn0.2.2.1 hn0.2.2.2.1 (by omega))
theorem tick_R (hp : PV P) (hτ0 : 0 ≤ τ) (hτ : τ < 120) (h : RI P s τ) : RI P (tickF P s τ) (τ + 1) := fun t a b => (wkF_R hp hτ0 hτ (not_R (cho_R hp hτ0 hτ 8 0 _ (comes_MI hp hτ0 hτ h))) 8 (by omega) t a b).1 (by omega)
theorem ini_R (hp : PV P) (h : IniS s) : RI P s 0 := by
  intro t a b
  obtain ⟨h1, h2, h3, h4, h5⟩ := h.1 t a b
  obtain ⟨r1, r2, r3, r4, r5, r6⟩ := hp.2.2.2.2.2.2.2.2.2.2.2.1 t a b
  refine ⟨⟨by omega, by omega, by omega, by rw [h3]; exact ⟨by omega, by omega⟩, by omega, fun _ => h3, fun _ => h1, fun q => by omega, by omega, by omega⟩, fun q => by omega, ⟨by omega, fun _ => ⟨?_, fun q => by omega⟩⟩, fun j j0 j1 => by omega⟩
  rw [h1]
  unfold caF
  omega
theorem rn_R {s0 : Mem} (hp : PV P) (h : IniS s0) : ∀ n : Nat, n ≤ 120 → RI P (rnF P s0 n) n := by
  intro n
  induction n with
  | zero => exact fun _ => ini_R hp h
  | succ n ih =>
    intro hn
    have := tick_R (τ := n) hp (by omega) (by omega) (ih (by omega))
    simp only [rnF]
    rw [show ((n + 1 : Nat) : Int) = (n : Int) + 1 by omega]
    exact this
end

/-! late, for certain and in the end; the class's run to its end -/
section
variable {sx : Int → Int} {L : Nat} {P s z M : Mem} {τ T : Int} {Q : Option AV → Mem → Prop} {B S : Nat}
theorem lt_pos {T : Int} : 0 < ltA P s T ↔ ∃ t j, 0 ≤ t ∧ t < 8 ∧ 0 ≤ j ∧ j < s 123 t ∧ ltJ P s T t j = true := by
  constructor
  · intro h
    apply Classical.byContradiction
    intro q
    have : ltA P s T = sumI 8 (fun _ => 0) := by
      unfold ltA
      refine sumI_congr fun t a b => ?_
      unfold ltF
      have z : ∀ n : Nat, sumI n (fun _ => 0) = 0 := by
        intro n
        induction n with
        | zero => rfl
        | succ n ih => simp only [sumI, ih]; rfl
      rw [sumI_congr (g := fun _ => 0) fun j c d => ?_]
      · exact z _
      · rw [if_neg (fun w => q ⟨t, j, a, by omega, c, by omega, w⟩)]
    have e : sumI 8 (fun _ => 0) = 0 := by decide
    omega
  · rintro ⟨t, j, a, b, c, d, e⟩
    have h0 : ∀ t, 0 ≤ ltF P s T t := fun t => (sumI_0 (n := (s 123 t).toNat) (f := fun j => if ltJ P s T t j = true then 1 else 0) (b := 1) (fun t _ _ => r01)).1
    have h1 : 0 < ltF P s T t := by
      have := sumI_lt (n := (s 123 t).toNat) (f := fun _ => 0) (g := fun j => if ltJ P s T t j = true then 1 else 0) (o := j) (fun k a b => r01.1) c (by omega) (by rw [if_pos e]; omega)
      have z : ∀ n : Nat, sumI n (fun _ => 0) = 0 := by
        intro n
        induction n with
        | zero => rfl
        | succ n ih => simp only [sumI, ih]; rfl
      rw [z] at this
      exact this
    have := sumI_lt (n := 8) (f := fun _ => 0) (g := ltF P s T) (o := t) (fun k _ _ => h0 k) a (by omega) h1
    have e : sumI 8 (fun _ => 0) = 0 := by decide
    unfold ltA
    omega
theorem LC.lt (h : LC P s T) : 0 < ltA P s T := by
  obtain ⟨t, j, a, b, c, d, e⟩ := h
  refine lt_pos.mpr ⟨t, j, a, b, c, d, ?_⟩
  unfold ltJ dnF
  rcases e with e | e
  · rw [if_neg e.1]; exact decide_eq_true e.2
  · rw [if_pos e.1]; exact decide_eq_true (by omega)
theorem do_JL {i : Int} (h0 : 0 ≤ i) (h1 : i < 8) (hp : PV P) (hv : SV P s) (hw : WV s) (ho : s 130 i = 1) (hd : DNt s τ i) (h : ∀ t, 0 ≤ t → t < 8 → s 123 t ≤ 120) : JL τ s (doF P τ i (P 117 i - s 127 i).toNat s).2 := by
  have R := doF_R (τ := τ) hp h0 h1 _ s hv hw ho rfl
  have D := doF_D (P := P) (τ := τ) (i := i) (P 117 i - s 127 i).toNat s
  intro t j a b c d
  refine ⟨by rw [R.1.1 123 t (by omega)]; exact d, ?_⟩
  by_cases e : (doF P τ i (P 117 i - s 127 i).toNat s).1 = 2
  · rw [D.2 e]
    by_cases g : 200 * t + j = 200 * i + s 124 i - 1
    · rw [if_pos g]
      have h3 := h t a b
      have h4 := (hv i h0 h1).2.1
      have h5 := h i h0 h1
      have h6 := ((hv i h0 h1).2.2.2.2.2.2.2.1 ho).1
      have e3 : t = i := by omega
      rw [e3] at d ⊢
      exact Or.inr ⟨(hd j c d).2 (by omega), by omega⟩
    · rw [if_neg g]; exact Or.inl rfl
  · rw [D.1 e]; exact Or.inl rfl
theorem cho_JL (hp : PV P) (hτ0 : 0 ≤ τ) (hτ : τ < 120) : ∀ (n : Nat) (h : Int) (s : Mem), MI P s τ → JL τ s (choF P τ n h s) := by
  have fl : ∀ (h : Int) (s : Mem), JL τ s (filF P τ h s) := fun h s => JL.same (fun t _ _ => by unfold filF; rw [if_neg (by omega)]) (fun t j _ _ _ _ => by unfold filF; rw [if_neg (by omega)])
  intro n
  induction n with
  | zero => intro h s _; simp only [choF]; exact fl h s
  | succ n ih =>
    intro h s hM
    simp only [choF]
    split
    · next g =>
      have nb := next_B (P := P) (s := s)
      have o := nb.2.2 g.2
      have ho := hM.sv.on (by omega) nb.2.1 o.1
      have R := do_R hp hτ0 hτ (by omega) nb.2.1 ho o.2 hM
      have J := do_JL (by omega) nb.2.1 hp hM.sv hM.wv ho (hM _ (by omega) nb.2.1).2.2.2.2.2.2 (fun t a b => (hM t a b).1.2.2.1)
      split
      · refine (J.tr (JL.same (s' := mset (doF P τ (nextF P s) (P 117 (nextF P s) - s 127 (nextF P s)).toNat s).2 135 (3 * τ + h) (nextF P s)) (fun t _ _ => by rw [ms_c (by omega)]) (fun t j _ _ _ _ => by rw [ms_c (by omega)])) hτ0).tr (ih _ _ (R.same fun c k a _ _ => ms_c a)) hτ0
      · exact J.tr (ih _ _ R) hτ0
    · exact fl h s
theorem wk_JL (hp : PV P) (hτ0 : 0 ≤ τ) (hτ : τ < 120) (h : MI P s τ) : ∀ n : Nat, n ≤ 8 → JL τ s (wkF P τ n s) := by
  intro n
  induction n with
  | zero => exact fun _ => JL.same (fun _ _ _ => rfl) (fun _ _ _ _ _ _ => rfl)
  | succ n ih =>
    intro hn
    have R := wkF_R hp hτ0 hτ h n (by omega)
    have hv : SV P (wkF P τ n s) := fun t a b => by
      by_cases q : t < n
      · exact ((R t a b).1 q).1
      · exact ((R t a b).2 q).1
    have hm := (R n (by omega) (by omega)).2 (by omega)
    refine (ih (by omega)).tr ?_ hτ0
    intro t j a b c d
    simp only [wkF]
    refine ⟨by rw [wk1_c (by omega)]; exact d, ?_⟩
    rcases wk1_D (t := n) hm.2.2.1 hp hv hτ0 hτ (by omega) (by omega) with e | e
    · rw [e.2]; exact Or.inl rfl
    · rw [e.2.2]
      by_cases g : 200 * t + j = 200 * (n : Int) + wkF P τ n s 124 n - 1
      · rw [if_pos g]
        have h3 := (hv t a b).2.2.1
        have h4 := (hv n (by omega) (by omega)).2.1
        have h5 := (hv n (by omega) (by omega)).2.2.1
        have h6 := ((hv n (by omega) (by omega)).2.2.2.2.2.2.2.1 e.1).1
        have e3 : t = n := by omega
        rw [e3] at d ⊢
        exact Or.inr ⟨(hm.2.2.2.2.2.2 j c d).2 (by omega), by omega⟩
      · rw [if_neg g]; exact Or.inl rfl
theorem tick_JL (hp : PV P) (hτ0 : 0 ≤ τ) (hτ : τ < 120) (hI : RI P s τ) : JL τ s (tickF P s τ) := by
  have mi1 := comes_MI hp hτ0 hτ hI
  have mi2 := cho_R hp hτ0 hτ 8 0 _ mi1
  have J := comes_J hp hτ0 hτ hI 8 (by omega)
  have j1 : JL τ s (comesF P τ 8 s) := fun t j a b c d => by
    obtain ⟨x, y⟩ := J t a b
    exact ⟨by omega, Or.inl (x j c d)⟩
  have nC : ∀ c, ¬ c = 136 → ¬ c = 104 → notF (choF P τ 8 0 (comesF P τ 8 s)) τ c = choF P τ 8 0 (comesF P τ 8 s) c := fun c a b => by
    funext k
    unfold notF
    rw [if_neg (by omega), if_neg (by omega), if_neg (by omega)]
  have j3 : JL τ (choF P τ 8 0 (comesF P τ 8 s)) (notF (choF P τ 8 0 (comesF P τ 8 s)) τ) := JL.same (fun t _ _ => by rw [nC 123 (by omega) (by omega)]) (fun t j _ _ _ _ => by rw [nC 126 (by omega) (by omega)])
  exact ((j1.tr (cho_JL hp hτ0 hτ 8 0 _ mi1) hτ0).tr j3 hτ0).tr (wk_JL hp hτ0 hτ (not_R mi2) 8 (by omega)) hτ0
theorem LC.run {s0 : Mem} (hp : PV P) (hi : IniS s0) {n : Nat} (h : LC P (rnF P s0 n) n) : ∀ m : Nat, n + m ≤ 120 → LC P (rnF P s0 (n + m)) ((n + m : Nat) : Int) := by
  intro m
  induction m with
  | zero => exact fun _ => h
  | succ m ih =>
    intro hm
    have e : rnF P s0 (n + (m + 1)) = tickF P (rnF P s0 (n + m)) ((n + m : Nat) : Int) := rfl
    rw [e, show ((n + (m + 1) : Nat) : Int) = ((n + m : Nat) : Int) + 1 by omega]
    exact ((ih (by omega)).up (tick_JL hp (by omega) (by omega) (rn_R hp hi _ (by omega))) (by omega)).tk
/-- results that are kept -/
def RFn (P s M : Mem) (B : Nat) (T : Int) : Prop := CPl P M ∧ CPr P M B T ∧ (∀ t, 0 ≤ t → t < 8 → CBt P s M B t) ∧ CLg s M B T ∧ RGr s M B ∧ CHs P s M B T
def GoR (P s0 M : Mem) (B : Nat) (T u : Int) : Prop := (M B 17 = 0 ∨ M B 17 = 1) ∧ (M B 17 = 1 ↔ 0 < ltA P (rnF P s0 T.toNat) T) ∧ ((u = 0 ∨ M B 17 = 0) → RFn P (rnF P s0 T.toNat) M B T)
theorem s_12 {t : Int} (hB : isRb B) (h0 : 0 ≤ t) (h1 : t < 8) (hp : PV P) (hC : CPl P M) (hR : CPr P M B T) (hI : RI P s τ) (hj : CJ P s M B t)
    (hQ : ∀ r, (r = 1 ∧ s 124 t - s 130 t < s 123 t ∧ caF P t (s 124 t - s 130 t) + P 115 t ≤ T ∨ r = 0 ∧ ¬ (s 124 t - s 130 t < s 123 t ∧ caF P t (s 124 t - s 130 t) + P 115 t ≤ T)) → Q (some (vI r)) M) : Mq sx L K0 R0 12 [vR (ckA B t + 2), vI T] M Q := by
  have hk := isCk_A hB h0 h1
  obtain ⟨a1, a2, a3, a4, a5, a6, a7, a8, a9⟩ := (hI t h0 h1).1
  obtain ⟨j1, j2, j3, j4, j5, j6⟩ := hj
  have two : ∀ y, y = s 124 t - s 130 t → Rn sx L K0 R0 12 2 [vR (ckA B t + 2), vI T, vU] [vI y] M Q := by
    intro y hy
    refine b_12_2 hk ?_
    rw [j1]
    refine ⟨fun q => b_12_3 hk (b_12_4 hk ⟨Or.inl rfl, hQ 0 (Or.inr ⟨rfl, fun w => by omega⟩)⟩), fun q => ?_⟩
    have hA := am_j hI h0 h1 (j := y) (by
      rcases a5 with a5 | a5
      · omega
      · have := (a8 a5).1; omega) (by omega)
    have y0 : 0 ≤ y := by
      rcases a5 with a5 | a5
      · omega
      · have := (a8 a5).1; omega
    refine s_3 hB h0 h1 hC hp hA ((hR.2.2.2.2.2 t h0 h1).1 hA) y0 (by omega) ⟨_, rfl, fun q2 => b_12_3 hk (b_12_4 hk ⟨Or.inl rfl, hQ 0 (Or.inr ⟨rfl, fun w => ?_⟩)⟩), fun q2 => b_12_4 hk ⟨Or.inr rfl, hQ 1 (Or.inl ⟨rfl, by omega, ?_⟩)⟩⟩
    · rw [hy] at q2; omega
    · rw [hy] at q2; omega
  refine m_12 (b_12_0 hk ?_)
  rw [j3, j2]
  by_cases g : s 130 t = 0
  · rw [if_pos g]
    exact ⟨fun q => absurd rfl q, fun _ => two _ (by omega)⟩
  · rw [if_neg g]
    have g1 : s 130 t = 1 := by omega
    have b := (a8 g1).1
    refine ⟨fun q => b_12_1 hk ?_, fun q => absurd (by omega) q⟩
    rw [j3, if_neg g]
    exact two _ (by omega)
theorem s_36 {s0 : Mem} {len u : Int} (hB : isRb B) (hS : isSt S) (hp : PV P) (hC : CPl P M) (hs : CSt P M S) (hi : IniS s0) (hlen : 0 ≤ len) (hlen2 : len ≤ 120)
    (hQ : ∀ M', GoR P s0 M' B len u → FrB B M M' → Q none M') : Mq sx L K0 R0 36 [vR (B + 2), vR (S + 2), vI len, vI u] M Q := by
  refine m_36 (b_36_0 hB hS (s_37 hB hS hp hC hs hlen hlen2 fun M1 c1 r1 b1 e15 e16 e17 f1 => ⟨rfl, ?_⟩))
  have start : RR P s0 M1 B len 0 := by
    have i0 := hi
    refine ⟨c1, r1, fun t a b => b1 t s0 a b hi, fun t' a b => by omega, ⟨by rw [e15, hi.2.1], by rw [e16, hi.2.2], fun _ => hi.2.2⟩, ⟨Or.inl e17, fun q => by omega, fun _ t j a b c d => by rw [(hi.1 t a b).1] at d; omega⟩, fun t' h a b => by omega⟩
  refine lpM (N := len) (I := fun k M2 => RR P (rnF P s0 k.toNat) M2 B len k ∧ FrB B M M2) (G := fun k M2 => Rn sx L K0 R0 36 1 [vR (B + 2), vR (S + 2), vI len, vI u, vI k] [] M2 Q) (fun k M2 k0 k1 hJ ih => ?_) (fun M2 hJ => ?_) 0 M1 (by omega) hlen ⟨start, f1⟩
  · obtain ⟨j1, j2⟩ := hJ
    have hRI := rn_R hp hi k.toNat (by omega)
    rw [Int.toNat_of_nonneg k0] at hRI
    have ern : rnF P s0 (k + 1).toNat = tickF P (rnF P s0 k.toNat) k := by
      rw [show (k + 1).toNat = k.toNat + 1 by omega]
      simp only [rnF, Int.toNat_of_nonneg k0]
    have e10 : M2 B 10 = len := j1.2.1.2.2.2.2.1
    refine b_36_1 hB hS ⟨fun q => absurd q (by omega), fun _ => s_tick hB hp k0 (by omega) hRI j1 fun M3 l1 l2 => ?_⟩
    rw [← ern] at l1
    have nx : Rn sx L K0 R0 36 2 [vR (B + 2), vR (S + 2), vI len, vI u, vI k] [] M3 Q := b_36_2 hB hS ⟨⟨by omega, by omega⟩, ih M3 ⟨l1, j2.tr l2⟩⟩
    refine ⟨fun _ => nx, fun q => ⟨fun _ => nx, fun q2 => hQ M3 ?_ (j2.tr l2)⟩⟩
    obtain ⟨x1, x2, x3, x4, x5, x6, x7⟩ := l1
    have f1 : M3 B 17 = 1 := by rcases x6.1 with w | w; exact absurd w q2; exact w
    have lc := x6.2.1 f1
    have lc2 : LC P (rnF P s0 (k + 1).toNat) ((k + 1).toNat : Int) := by rw [Int.toNat_of_nonneg (by omega)]; exact lc
    have run := lc2.run hp hi (len.toNat - (k + 1).toNat) (by omega)
    rw [show (k + 1).toNat + (len.toNat - (k + 1).toNat) = len.toNat by omega, Int.toNat_of_nonneg (by omega)] at run
    exact ⟨x6.1, ⟨fun _ => run.lt, fun _ => f1⟩, fun w => by omega⟩
  · obtain ⟨j1, j2⟩ := hJ
    have hRI := rn_R hp hi len.toNat (by omega)
    rw [Int.toNat_of_nonneg hlen] at hRI
    have e10 : M2 B 10 = len := j1.2.1.2.2.2.2.1
    refine b_36_1 hB hS ⟨fun _ => b_36_3 hB hS ?_, fun q => absurd (by omega) q⟩
    have hQ1 := hQ
    unfold GoR at hQ1
    generalize rnF P s0 len.toNat = sT at j1 hRI hQ1
    obtain ⟨x1, x2, x3, x4, x5, x6, x7⟩ := j1
    refine lpM (N := 8) (I := fun i M3 => (∀ c k, ¬ (c = B ∧ k = 17) → M3 c k = M2 c k) ∧ (M3 B 17 = 0 ∨ M3 B 17 = 1) ∧ (M3 B 17 = 1 → 0 < ltA P sT len) ∧ (M3 B 17 = 0 → DL P sT ∧ ∀ t, 0 ≤ t → t < i → ¬ (sT 124 t - sT 130 t < sT 123 t ∧ caF P t (sT 124 t - sT 130 t) + P 115 t ≤ len))) (G := fun i M3 => Rn sx L K0 R0 36 4 [vR (B + 2), vR (S + 2), vI len, vI u, vI i] [] M3 Q) (fun i M3 i0 i1 hL ih => ?_) (fun M3 hL => bx_36_4 hB hS (by omega) (b_36_6 hB hS (hQ1 M3 ⟨hL.2.1, ⟨hL.2.2.1, fun w => ?_⟩, fun _ => ?_⟩ ?_))) 0 M2 (by omega) (by omega) ⟨fun _ _ _ => rfl, x6.1, fun q => (x6.2.1 q).lt, fun q => ⟨x6.2.2 q, fun t a b => by omega⟩⟩
    · obtain ⟨l1, l2, l3, l4⟩ := hL
      have lC : ∀ t k, M3 (ckA B t) k = M2 (ckA B t) k := fun t k => l1 _ _ (fun w => ck_B (by omega) w.1)
      have lD : ∀ t k, M3 (ckA B t + 1) k = M2 (ckA B t + 1) k := fun t k => l1 _ _ (fun w => ck1_B (by omega) w.1)
      have fb : FrB B M2 M3 := fun c k q => l1 c k (fun w => q (by rw [w.1]; omega))
      have C3 := x1.fr hB fb
      have R3 : CPr P M3 B len := x2.fv ⟨fb, fun k _ q => l1 _ _ (fun w => q w.2), fun c k a b => l1 _ _ (fun w => by omega), fun t k _ _ _ => lC t k⟩
      have J3 : CJ P sT M3 B i := (x3 i i0 i1).1.eq (fun _ _ _ => rfl) (fun k _ => lC i k) (fun k => lD i k)
      have e10' : M3 B 10 = len := R3.2.2.2.2.1
      refine b_36_4 hB hS ⟨i0, i1⟩ ⟨fun q => absurd q (by omega), fun _ => ?_⟩
      rw [e10']
      refine s_12 hB i0 i1 hp C3 R3 hRI J3 fun r hr => ⟨_, rfl, fun q => b_36_5 hB hS ⟨⟨by omega, by omega⟩, ih M3 ⟨l1, l2, l3, fun w => ⟨(l4 w).1, fun t a b => ?_⟩⟩⟩, fun q => b_36_5 hB hS ⟨⟨by omega, by omega⟩, ih _ ⟨fun c k w => ?_, Or.inr ms_eq, fun _ => ?_, fun w => by rw [ms_eq] at w; omega⟩⟩⟩
      · by_cases e : t = i
        · rw [e]; rcases hr with hr | hr; omega; exact hr.2
        · exact (l4 w).2 t a (by omega)
      · rw [ms_ne w]; exact l1 c k w
      · have hr' := hr.resolve_right (fun w => q w.1)
        have a5 := (hRI i i0 i1).1.2.2.2.2.1
        have a8 := (hRI i i0 i1).1.2.2.2.2.2.2.2.1
        have a1 := (hRI i i0 i1).1.1
        have jb0 : 0 ≤ sT 124 i - sT 130 i := by
          rcases a5 with a5 | a5
          · omega
          · have := (a8 a5).1; omega
        refine lt_pos.mpr ⟨i, sT 124 i - sT 130 i, i0, i1, jb0, hr'.2.1, ?_⟩
        unfold ltJ dnF
        rw [if_pos ((hRI i i0 i1).2.2.2 _ jb0 hr'.2.1 |>.2 (by omega))]
        exact decide_eq_true hr'.2.2
    · rcases hL.2.1 with q | q
      · exfalso
        obtain ⟨d1, d2⟩ := hL.2.2.2 q
        obtain ⟨t, j, a, b, c, d, e⟩ := lt_pos.mp w
        unfold ltJ dnF at e
        by_cases g : sT 126 (200 * t + j) = -1
        · rw [if_pos g] at e
          have e := of_decide_eq_true e
          have nb := d2 t a b
          have hv := (hRI t a b).1
          have dn := (hRI t a b).2.2.2 j c d
          have ge : ¬ j < sT 124 t - sT 130 t := fun v => by have := dn.1 v; omega
          have hA := am_j hRI a b c d
          have hV := hp.2.2.2.2.2.2.2.2.2.2.2.2 t a b hA
          have v1 := hV.1
          refine nb ⟨by omega, ?_⟩
          by_cases y : j = sT 124 t - sT 130 t
          · rw [← y]; exact e
          · have := caF_lt (P := P) (t := t) (i := sT 124 t - sT 130 t) (j := j) v1 (by omega)
            omega
        · rw [if_neg g] at e
          have e := of_decide_eq_true e
          have := d1 t j a b c d g
          omega
      · exact q
    · have fb : FrB B M2 M3 := fun c k q => hL.1 c k (fun w => q (by rw [w.1]; omega))
      have lC : ∀ t k, M3 (ckA B t) k = M2 (ckA B t) k := fun t k => hL.1 _ _ (fun w => ck_B (by omega) w.1)
      have lD : ∀ t k, M3 (ckA B t + 1) k = M2 (ckA B t + 1) k := fun t k => hL.1 _ _ (fun w => ck1_B (by omega) w.1)
      refine ⟨x1.fr hB fb, x2.fv ⟨fb, fun k _ q => hL.1 _ _ (fun w => q w.2), fun c k a b => hL.1 _ _ (fun w => by omega), fun t k _ _ _ => lC t k⟩, fun t a b => ⟨(x3 t a b).1.eq (fun _ _ _ => rfl) (fun k _ => lC t k) (fun k => lD t k), by rw [lC]; exact (x3 t a b).2⟩, fun t' a b => ?_, ?_, fun t' h a b c d => ?_⟩
      · rw [hL.1 _ _ (fun w => by omega), hL.1 _ _ (fun w => by omega), hL.1 _ _ (fun w => by omega)]
        exact x4 t' a b
      · unfold RGr
        rw [hL.1 _ _ (fun w => by omega), hL.1 _ _ (fun w => by omega)]
        exact x5
      · rw [hL.1 _ _ (fun w => by omega)]
        exact x7 t' h a b c d
    · exact j2.tr fun c k q => hL.1 c k (fun w => q (by rw [w.1]; omega))
/-- one run serves all that describe it -/
theorem Mq_all {ι : Type} {mi : Nat} {av : List AV} {Qi : ι → Option AV → Mem → Prop} (i0 : ι) (h : ∀ i, Mq sx L K0 R0 mi av M (Qi i)) : Mq sx L K0 R0 mi av M (fun rv M' => ∀ i, Qi i rv M') := by
  obtain ⟨n, rv, M', hr, hq⟩ := h i0
  refine ⟨n, rv, M', hr, fun i => ?_⟩
  obtain ⟨n2, rv2, M2, hr2, hq2⟩ := h i
  have a := run_up _ _ _ _ _ _ _ _ hr n2
  have b := run_up _ _ _ _ _ _ _ _ hr2 n
  rw [Nat.add_comm] at b
  rw [a] at b
  cases b
  exact hq2
end

/-! the class's run: what it goes by, its small methods -/
def tkB (P : Mem) (t : Int) : Int := mkB 6 fun h => tksP P t h
def brB (P : Mem) (t : Int) : Int := mkB 6 fun h => decide (P 104 34 = 2 ∧ h < P 104 0 ∧ P 121 t ≤ hiR P h)
def brkB (P : Mem) (τ : Int) : Int := mkB 6 fun h => decide (h < P 104 0) && brkP P τ h
def CPl (P M : Mem) : Prop := M 1 0 = P 104 0 ∧ M 1 1 = firB P ∧ (∀ h, 0 ≤ h → h < P 104 0 → M 2 h = P 106 h ∧ M 3 h = P 107 h ∧ M 4 h = P 108 h) ∧ (∀ t, 0 ≤ t → t < 8 → 0 ≤ M (plA t) 6 ∧ M (plA t) 6 ≤ 99) ∧
  ∀ t, 0 ≤ t → t < 8 → tb (P 104 27) t = true → M (plA t) 4 = P 114 t ∧ M (plA t) 5 = P 115 t ∧ M (plA t) 6 = P 116 t ∧ M (plA t) 9 = P 117 t ∧ M (plA t) 11 = tkB P t ∧ ∀ k, 0 ≤ k → k < P 117 t → M (plA t + 2) k = P 118 (20 * t + k) + 1 ∧ M (plA t + 3) k = P 119 (20 * t + k)
/-- cells outside of a run's record -/
def outB (B c : Nat) : Prop := ¬ (B ≤ c ∧ c < B + 22)
def FrB (B : Nat) (M M' : Mem) : Prop := ∀ c k, outB B c → M' c k = M c k
theorem FrB.rfl' {B : Nat} {M : Mem} : FrB B M M := fun _ _ _ => rfl
theorem FrB.tr {B : Nat} {M M1 M2 : Mem} (h : FrB B M M1) (h2 : FrB B M1 M2) : FrB B M M2 := fun c k q => (h2 c k q).trans (h c k q)
theorem FrB.set {B : Nat} {M M1 : Mem} {c : Nat} {k v : Int} (h : FrB B M M1) (hc : B ≤ c ∧ c < B + 22) : FrB B M (mset M1 c k v) := fun c' k' q => by
  rw [ms_c (fun e => q (by rw [e]; exact hc)), h c' k' q]
theorem ck_in {B : Nat} {t : Int} (h0 : 0 ≤ t) (h1 : t < 8) : B ≤ ckA B t ∧ ckA B t < B + 22 := by unfold ckA; omega
theorem ck_in1 {B : Nat} {t : Int} (h0 : 0 ≤ t) (h1 : t < 8) : B ≤ ckA B t + 1 ∧ ckA B t + 1 < B + 22 := by unfold ckA; omega
theorem pl_out {B : Nat} (hB : isRb B) {t : Int} (h0 : 0 ≤ t) (h1 : t < 8) (j : Nat) (hj : j < 4) : outB B (plA t + j) := by unfold outB plA; unfold isRb at hB; omega
theorem th_out {B c : Nat} (hB : isRb B) (h : c < 52) : outB B c := by unfold outB; unfold isRb at hB; omega
theorem CPl.fr {P M M' : Mem} {B : Nat} (hB : isRb B) (h : CPl P M) (f : FrB B M M') : CPl P M' := by
  obtain ⟨h1, h2, h3, h4, h5⟩ := h
  refine ⟨by rw [f 1 0 (th_out hB (by omega))]; exact h1, by rw [f 1 1 (th_out hB (by omega))]; exact h2, fun h a b => ?_, fun t a b => ?_, fun t a b c => ?_⟩
  · rw [f 2 h (th_out hB (by omega)), f 3 h (th_out hB (by omega)), f 4 h (th_out hB (by omega))]
    exact h3 h a b
  · rw [f (plA t) 6 (pl_out hB a b 0 (by omega))]
    exact h4 t a b
  · have z := fun k => f (plA t) k (pl_out hB a b 0 (by omega))
    rw [z, z, z, z, z]
    obtain ⟨g1, g2, g3, g4, g5, g6⟩ := h5 t a b c
    refine ⟨g1, g2, g3, g4, g5, fun k k0 k1 => ?_⟩
    rw [f (plA t + 2) k (pl_out hB a b 2 (by omega)), f (plA t + 3) k (pl_out hB a b 3 (by omega))]
    exact g6 k k0 k1
theorem ck_inj {B : Nat} {t u : Int} (h0 : 0 ≤ t) (h1 : 0 ≤ u) (e : ¬ t = u) : ¬ ckA B t = ckA B u := by unfold ckA; omega
theorem ck_inj1 {B : Nat} {t u : Int} : ¬ ckA B t = ckA B u + 1 := by unfold ckA; omega
theorem ck_inj2 {B : Nat} {t u : Int} : ¬ ckA B t + 1 = ckA B u := by unfold ckA; omega
theorem ck_inj3 {B : Nat} {t u : Int} (h0 : 0 ≤ t) (h1 : 0 ≤ u) (e : ¬ t = u) : ¬ ckA B t + 1 = ckA B u + 1 := by unfold ckA; omega
theorem ck_B {B c : Nat} {t : Int} (h : c < B + 6) : ¬ ckA B t = c := by unfold ckA; omega
theorem B_ck {B c : Nat} {t : Int} (h : c < B + 6) : ¬ c = ckA B t := by unfold ckA; omega
theorem ck1_B {B c : Nat} {t : Int} (h : c < B + 6) : ¬ ckA B t + 1 = c := by unfold ckA; omega
theorem B_ck1 {B c : Nat} {t : Int} (h : c < B + 6) : ¬ c = ckA B t + 1 := by unfold ckA; omega
section
variable {sx : Int → Int} {L : Nat} {P s M : Mem} {τ : Int} {Q : Option AV → Mem → Prop} {B : Nat}
theorem s_25 {t k : Int} (hC : CPl P M) (hp : PV P) (h0 : 0 ≤ t) (h1 : t < 8) (hA : tb (P 104 27) t = true) (k0 : 0 ≤ k) (hQ1 : k < P 117 t → Q (some (vI (P 118 (20 * t + k) + 1))) M) (hQ2 : P 117 t ≤ k → Q (some (vI (-1))) M) : Mq sx L K0 R0 25 [vR (plA t + 2), vI k] M Q := by
  obtain ⟨g1, g2, g3, g4, g5, g6⟩ := hC.2.2.2.2 t h0 h1 hA
  have hV := hp.2.2.2.2.2.2.2.2.2.2.2.2 t h0 h1 hA
  have v8 := hV.2.2.2.2.2.2.2.1
  have hl := isPl_A h0 h1
  refine m_25 (b_25_0 hl ⟨fun q => absurd q (by omega), fun _ => ⟨fun q => b_25_1 hl (b_25_2 hl (hQ2 (by omega))), fun q => ⟨fun q => absurd q (by omega), fun _ => ⟨⟨k0, by omega⟩, b_25_2 hl ?_⟩⟩⟩⟩)
  rw [(g6 k k0 (by omega)).1]
  exact hQ1 (by omega)
theorem s_26 {t k : Int} (hC : CPl P M) (hp : PV P) (h0 : 0 ≤ t) (h1 : t < 8) (hA : tb (P 104 27) t = true) (k0 : 0 ≤ k) (k1 : k < P 117 t) (hQ : Q (some (vI (P 119 (20 * t + k)))) M) : Mq sx L K0 R0 26 [vR (plA t + 2), vI k] M Q := by
  obtain ⟨g1, g2, g3, g4, g5, g6⟩ := hC.2.2.2.2 t h0 h1 hA
  have hV := hp.2.2.2.2.2.2.2.2.2.2.2.2 t h0 h1 hA
  have v8 := hV.2.2.2.2.2.2.2.1
  have hl := isPl_A h0 h1
  refine m_26 (b_26_0 hl ⟨fun q => absurd q (by omega), fun _ => ⟨fun q => absurd q (by omega), fun q => ⟨fun q => absurd q (by omega), fun _ => ⟨⟨k0, by omega⟩, b_26_2 hl ?_⟩⟩⟩⟩)
  rw [(g6 k k0 k1).2]
  exact hQ
theorem s_125 {x : Int} (hQ : ∀ r, (0 ≤ x ∧ x < 8 ∧ r = 1 ∨ ¬ (0 ≤ x ∧ x < 8) ∧ r = 0) → Q (some (vI r)) M) : Mq sx L K0 R0 125 [vI x] M Q :=
  m_125 (b_125_0 ⟨fun q => b_125_1 (b_125_2 ⟨Or.inl rfl, hQ 0 (by omega)⟩), fun q => ⟨fun q2 => b_125_1 (b_125_2 ⟨Or.inl rfl, hQ 0 (by omega)⟩), fun q2 => b_125_2 ⟨Or.inr rfl, hQ 1 (by omega)⟩⟩⟩)
theorem s_92 (hC : CPl P M) (hp : PV P) (hQ : Q (some (vI (brkB P τ))) M) : Mq sx L K0 R0 92 [vR 3, vI τ] M Q := by
  have hth := hp.2.1
  have hth2 := hp.2.2.1
  have e0 := hC.1
  have full : ∀ n : Int, 0 ≤ n → n = P 104 0 → mkB n.toNat (fun h => decide (h < P 104 0) && brkP P τ h) = brkB P τ := by
    intro n n0 hn
    refine tb_ext (mkB_B _ _ (by omega)).1 (mkB_B 6 _ (by omega)).1 fun h hh0 => ?_
    unfold brkB
    rw [tb_mkB _ _ (by omega) hh0, tb_mkB 6 _ (by omega) hh0]
    by_cases e : h < P 104 0
    · rw [decide_eq_true (by omega), decide_eq_true (by omega : h < ((6 : Nat) : Int))]
    · rw [decide_eq_false e]; simp
  refine m_92 (b_92_0 (lpI (N := P 104 0) (G := fun k => Rn sx L K0 R0 92 1 [vR 3, vI τ, vI (mkB k.toNat fun h => decide (h < P 104 0) && brkP P τ h), vI k] [] M Q) (fun k k0 k1 ih => ?_) (b_92_1 ⟨fun _ => b_92_3 ?_, fun q => absurd (by omega) q⟩) 0 (by omega) hth))
  · rw [mkB_s k0] at ih
    have hB := mkB_B k.toNat (fun h => decide (h < P 104 0) && brkP P τ h) (by omega)
    obtain ⟨g1, g2, g3⟩ := hC.2.2.1 k k0 k1
    have no : brkP P τ k = false → Rn sx L K0 R0 92 2 [vR 3, vI τ, vI (mkB k.toNat fun h => decide (h < P 104 0) && brkP P τ h), vI k] [] M Q := by
      intro e
      rw [e, Bool.and_false, if_neg (by decide)] at ih
      exact b_92_2 ⟨⟨by omega, by omega⟩, ih⟩
    refine b_92_1 ⟨fun q => absurd q (by omega), fun _ => ⟨fun q => absurd q (by omega), fun _ => ⟨⟨k0, by omega⟩, fun q => no ?_, fun q => ⟨⟨k0, by omega⟩, fun q2 => no ?_, fun q2 => ⟨pow30 k0 (by omega), b_92_2 ⟨⟨by omega, by omega⟩, ?_⟩⟩⟩⟩⟩⟩
    · unfold brkP; exact decide_eq_false (by omega)
    · unfold brkP; exact decide_eq_false (by omega)
    · rw [decide_eq_true k1, show brkP P τ k = true by unfold brkP; exact decide_eq_true (by omega)] at ih
      exact ih
  · rw [full _ hth rfl]
    exact hQ
theorem cnt_pos {i x : Int} : 0 < cntO s i x ↔ ∃ t, 0 ≤ t ∧ t < 8 ∧ ¬ t = i ∧ tb (s 129 t) x = true := by
  constructor
  · intro h
    apply Classical.byContradiction
    intro q
    have : cntO s i x = sumI 8 (fun _ => 0) := by
      unfold cntO
      refine sumI_congr fun t a b => ?_
      rw [if_neg (fun w => q ⟨t, a, by omega, w.1, w.2⟩)]
    have e : sumI 8 (fun _ => 0) = 0 := by decide
    omega
  · rintro ⟨t, a, b, c, d⟩
    have := sumI_lt (n := 8) (f := fun _ => 0) (g := fun t => if ¬ t = i ∧ tb (s 129 t) x = true then 1 else 0) (o := t) (fun k a b => by split <;> omega) a (by omega) (by rw [if_pos ⟨c, d⟩]; omega)
    have e : sumI 8 (fun _ => 0) = 0 := by decide
    unfold cntO
    omega
theorem brB_B {t : Int} : inB (brB P t) := mkB_B 6 _ (by omega)
theorem barB_B {t : Int} : inB (barB P s t) := mkB_B 6 _ (by omega)
/-- whose having bars a task: as the reference has it, and as the class has it -/
theorem bar_iff {i t : Int} (hb : inB (s 129 t)) (ht0 : 0 ≤ t) (ht1 : t < 8) (e : ¬ t = i) : (∃ x, 0 ≤ x ∧ tb (s 129 t) x = true ∧ tb (barB P s i) x = true) ↔ ¬ iAnd (s 129 t) (brB P i) = 0 := by
  rw [tb_ne0 (and_B hb brB_B).1]
  constructor
  · rintro ⟨x, a, b, c⟩
    refine ⟨x, a, ?_⟩
    rw [tb_and hb brB_B, b]
    unfold barB at c
    unfold brB
    rw [tb_mkB 6 _ (by omega) a] at c ⊢
    simp only [Bool.and_eq_true, decide_eq_true_eq] at c
    simp only [Bool.true_and, Bool.and_eq_true, decide_eq_true_eq]
    exact ⟨c.1, c.2.1, c.2.2.1, c.2.2.2.2⟩
  · rintro ⟨x, a, b⟩
    rw [tb_and hb brB_B] at b
    simp only [Bool.and_eq_true] at b
    refine ⟨x, a, b.1, ?_⟩
    have c := b.2
    unfold brB at c
    unfold barB
    rw [tb_mkB 6 _ (by omega) a] at c ⊢
    simp only [Bool.and_eq_true, decide_eq_true_eq] at c ⊢
    exact ⟨c.1, c.2.1, c.2.2.1, cnt_pos.mpr ⟨t, ht0, ht1, e, b.1⟩, c.2.2.2⟩
def hlB (s : Mem) (i h : Int) (n : Nat) : Int := mkB n fun t => decide (¬ t = i) && tb (s 129 t) h
def brrB (P s : Mem) (i : Int) (n : Nat) : Int := mkB n fun t => decide (¬ t = i) && decide (¬ iAnd (s 129 t) (brB P i) = 0)
theorem bar_ne (hv : ∀ t, 0 ≤ t → t < 8 → inB (s 129 t)) {i : Int} : ¬ brrB P s i 8 = 0 ↔ ¬ barB P s i = 0 := by
  unfold brrB
  rw [tb_ne0 (mkB_B 8 _ (by omega)).1, tb_ne0 barB_B.1]
  constructor
  · rintro ⟨t, a, b⟩
    rw [tb_mkB 8 _ (by omega) a] at b
    simp only [Bool.and_eq_true, decide_eq_true_eq] at b
    obtain ⟨x, c, d, e⟩ := (bar_iff (hv t a (by omega)) a (by omega) b.2.1).mpr b.2.2
    exact ⟨x, c, e⟩
  · rintro ⟨x, a, b⟩
    have b' := b
    unfold barB at b
    rw [tb_mkB 6 _ (by omega) a] at b
    simp only [Bool.and_eq_true, decide_eq_true_eq] at b
    obtain ⟨t, c, d, e, f⟩ := cnt_pos.mp b.2.2.2.1
    refine ⟨t, c, ?_⟩
    rw [tb_mkB 8 _ (by omega) c]
    simp only [Bool.and_eq_true, decide_eq_true_eq]
    exact ⟨by omega, e, (bar_iff (hv t c d) c d e).mp ⟨x, a, f, b'⟩⟩
theorem wt_eq (hv : ∀ t, 0 ≤ t → t < 8 → inB (s 129 t)) {i h : Int} (g0 : 0 ≤ h) (g1 : h < 6) : wtB P s i h = if fulP P s i h = true then iOr (hlB s i h 8) (brrB P s i 8) else brrB P s i 8 := by
  have hB : inB (brrB P s i 8) := mkB_B 8 _ (by omega)
  have hH : inB (hlB s i h 8) := mkB_B 8 _ (by omega)
  have hW : inB (wtX P s i h) := by
    unfold wtX
    refine or_B barB_B ?_
    split
    · exact pow_B (by omega)
    · exact ⟨by omega, by omega⟩
  have key : ∀ t, 0 ≤ t → t < 8 → ¬ t = i → ((¬ iAnd (s 129 t) (wtX P s i h) = 0) ↔ (fulP P s i h = true ∧ tb (s 129 t) h = true) ∨ ¬ iAnd (s 129 t) (brB P i) = 0) := by
    intro t a b e
    rw [← bar_iff (hv t a b) a b e, tb_ne0 (and_B (hv t a b) hW).1]
    have pz : inB (if fulP P s i h = true then 1 * 2 ^ h.toNat else 0) := by
      split
      · exact pow_B (by omega)
      · exact ⟨by omega, by omega⟩
    constructor
    · rintro ⟨x, c, d⟩
      rw [tb_and (hv t a b) hW] at d
      unfold wtX at d
      rw [tb_or barB_B pz] at d
      simp only [Bool.and_eq_true, Bool.or_eq_true] at d
      rcases d.2 with d2 | d2
      · exact Or.inr ⟨x, c, d.1, d2⟩
      · split at d2
        · next f =>
          rw [tb_pow g0 c, decide_eq_true_eq] at d2
          exact Or.inl ⟨f, by rw [d2]; exact d.1⟩
        · rw [tb_zero] at d2; cases d2
    · intro q
      rcases q with q | q
      · refine ⟨h, g0, ?_⟩
        rw [tb_and (hv t a b) hW]
        unfold wtX
        rw [tb_or barB_B pz, if_pos q.1, tb_pow g0 g0, q.2]
        simp
      · obtain ⟨x, c, d, f⟩ := q
        refine ⟨x, c, ?_⟩
        rw [tb_and (hv t a b) hW]
        unfold wtX
        rw [tb_or barB_B pz, d, f]
        simp
  have rB : inB (if fulP P s i h = true then iOr (hlB s i h 8) (brrB P s i 8) else brrB P s i 8) := by
    split
    · exact or_B hH hB
    · exact hB
  refine tb_ext wtB_B.1 rB.1 fun t a => ?_
  unfold wtB
  rw [tb_mkB 8 _ (by omega) a]
  by_cases q : t < 8
  · by_cases e : t = i
    · rw [decide_eq_false (show ¬ ¬ t = i from fun w => w e)]
      have z1 : tb (brrB P s i 8) t = false := by unfold brrB; rw [tb_mkB 8 _ (by omega) a, decide_eq_false (show ¬ ¬ t = i from fun w => w e)]; simp
      have z2 : tb (hlB s i h 8) t = false := by unfold hlB; rw [tb_mkB 8 _ (by omega) a, decide_eq_false (show ¬ ¬ t = i from fun w => w e)]; simp
      split
      · rw [tb_or hH hB, z1, z2]; simp
      · rw [z1]; simp
    · rw [decide_eq_true (show t < ((8 : Nat) : Int) by omega), decide_eq_true e]
      have k := key t a q e
      have z1 : tb (brrB P s i 8) t = decide (¬ iAnd (s 129 t) (brB P i) = 0) := by unfold brrB; rw [tb_mkB 8 _ (by omega) a, decide_eq_true (show t < ((8 : Nat) : Int) by omega), decide_eq_true e]; simp
      have z2 : tb (hlB s i h 8) t = tb (s 129 t) h := by unfold hlB; rw [tb_mkB 8 _ (by omega) a, decide_eq_true (show t < ((8 : Nat) : Int) by omega), decide_eq_true e]; simp
      simp only [Bool.true_and]
      split
      · next f =>
        rw [tb_or hH hB, z1, z2]
        by_cases hT : tb (s 129 t) h = true
        · rw [decide_eq_true (k.mpr (Or.inl ⟨f, hT⟩)), hT, Bool.true_or]
        · rw [(Bool.not_eq_true _).mp hT, Bool.false_or]
          exact decide_eq_decide.mpr (k.trans ⟨fun w => w.elim (fun v => absurd v.2 hT) id, Or.inr⟩)
      · next f =>
        rw [z1]
        exact decide_eq_decide.mpr (k.trans ⟨fun w => w.elim (fun v => absurd v.1 f) id, Or.inr⟩)
  · rw [decide_eq_false (show ¬ t < ((8 : Nat) : Int) by omega)]
    have z1 : tb (brrB P s i 8) t = false := by unfold brrB; rw [tb_mkB 8 _ (by omega) a, decide_eq_false (show ¬ t < ((8 : Nat) : Int) by omega)]; simp
    have z2 : tb (hlB s i h 8) t = false := by unfold hlB; rw [tb_mkB 8 _ (by omega) a, decide_eq_false (show ¬ t < ((8 : Nat) : Int) by omega)]; simp
    split
    · rw [tb_or hH hB, z1, z2]; simp
    · rw [z1]; simp
end

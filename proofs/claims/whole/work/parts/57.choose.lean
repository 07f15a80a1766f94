/-! the class: all are chosen -/
section
variable {sx : Int → Int} {L : Nat} {P s z M : Mem} {τ T : Int} {Q : Option AV → Mem → Prop} {B : Nat}
def CM (P s M : Mem) (B : Nat) (T τ : Int) : Prop := CPl P M ∧ CPr P M B T ∧ (∀ t, 0 ≤ t → t < 8 → CMt P s M B τ t) ∧ BT s M B ∧ M B 14 = brkB P τ ∧ KI P s M B
/-- late for certain; none is late of those that are done -/
def LC (P s : Mem) (τ : Int) : Prop := ∃ t j, 0 ≤ t ∧ t < 8 ∧ 0 ≤ j ∧ j < s 123 t ∧ ((¬ s 126 (200 * t + j) = -1 ∧ caF P t j + P 115 t < s 126 (200 * t + j)) ∨ (s 126 (200 * t + j) = -1 ∧ caF P t j + P 115 t < τ))
def DL (P s : Mem) : Prop := ∀ t j, 0 ≤ t → t < 8 → 0 ≤ j → j < s 123 t → ¬ s 126 (200 * t + j) = -1 → s 126 (200 * t + j) ≤ caF P t j + P 115 t
def FLG (P s M : Mem) (B : Nat) (τ : Int) : Prop := (M B 17 = 0 ∨ M B 17 = 1) ∧ (M B 17 = 1 → LC P s τ) ∧ (M B 17 = 0 → DL P s)
def JL (τ : Int) (s s' : Mem) : Prop := ∀ t j, 0 ≤ t → t < 8 → 0 ≤ j → j < s 123 t → j < s' 123 t ∧ (s' 126 (200 * t + j) = s 126 (200 * t + j) ∨ (s 126 (200 * t + j) = -1 ∧ τ ≤ s' 126 (200 * t + j)))
theorem LC.up {s' : Mem} (h : LC P s τ) (e : JL τ s s') (h0 : 0 ≤ τ) : LC P s' τ := by
  obtain ⟨t, j, t0, t1, j0, j1, q⟩ := h
  obtain ⟨e1, e2⟩ := e t j t0 t1 j0 j1
  refine ⟨t, j, t0, t1, j0, e1, ?_⟩
  rcases e2 with e2 | e2
  · rw [e2]; exact q
  · rcases q with q | q
    · exact absurd e2.1 q.1
    · exact Or.inl ⟨by omega, by omega⟩
theorem LC.tk (h : LC P s τ) : LC P s (τ + 1) := by
  obtain ⟨t, j, t0, t1, j0, j1, q⟩ := h
  refine ⟨t, j, t0, t1, j0, j1, ?_⟩
  rcases q with q | q
  · exact Or.inl q
  · exact Or.inr ⟨q.1, by omega⟩
theorem JL.same {s' : Mem} (e1 : ∀ t, 0 ≤ t → t < 8 → s' 123 t = s 123 t) (e2 : ∀ t j, 0 ≤ t → t < 8 → 0 ≤ j → j < s 123 t → s' 126 (200 * t + j) = s 126 (200 * t + j)) : JL τ s s' := fun t j a b c d => ⟨by rw [e1 t a b]; exact d, Or.inl (e2 t j a b c d)⟩
theorem JL.tr {s1 s2 : Mem} (h : JL τ s s1) (h2 : JL τ s1 s2) (h0 : 0 ≤ τ) : JL τ s s2 := by
  intro t j a b c d
  obtain ⟨x1, x2⟩ := h t j a b c d
  obtain ⟨y1, y2⟩ := h2 t j a b c x1
  refine ⟨y1, ?_⟩
  rcases x2 with x2 | x2
  · rcases y2 with y2 | y2
    · exact Or.inl (y2.trans x2)
    · exact Or.inr ⟨x2 ▸ y2.1, y2.2⟩
  · rcases y2 with y2 | y2
    · exact Or.inr ⟨x2.1, by omega⟩
    · exact Or.inr ⟨x2.1, y2.2⟩
theorem IsF.wcg {b w w' K : Int → Int} (h : IsF b w K) (e : ∀ t, 0 ≤ t → t < 8 → w' t = w t) : IsF b w' K := by
  refine ⟨h.1, fun t o a c d f g => ?_, fun g g1 g2 t a c => h.2.2 g g1 (fun t o a c d f k => g2 t o a c d f (by rw [e t a c]; exact k)) t a c⟩
  rw [e t a c] at g
  exact h.2.1 t o a c d f g
theorem KI.mv {M' : Mem} (h : KI P s M B) (e1 : ∀ t, 0 ≤ t → t < 8 → z 130 t = 1 → s 130 t = 1) (e2 : ∀ t, 0 ≤ t → t < 8 → z 124 t = s 124 t ∧ z 131 t = s 131 t) (e3 : ∀ t, 0 ≤ t → t < 8 → z 133 t = s 133 t) (e4 : ∀ t, 0 ≤ t → t < 8 → M' (ckA B t) 15 = M (ckA B t) 15) : KI P z M' B := by
  obtain ⟨b0, h1, h2, h3⟩ := h
  refine ⟨b0, fun t a b c => ?_, fun hl => ⟨?_, fun t o a b c d e => ?_⟩, fun hl t a b => by rw [e4 t a b]; exact h3 hl t a b⟩
  · rw [h1 t a b (e1 t a b c)]
    unfold kbF
    rw [(e2 t a b).1, (e2 t a b).2]
  · exact ((h2 hl).1.wcg e3).cong fun t a b => e4 t a b
  · rw [e3 t a b] at e
    exact (h2 hl).2 t o a b c d e
theorem kb_0 (hp : PV P) (hv : SV P s) (hr : P 104 33 < 2) {t : Int} (h0 : 0 ≤ t) (h1 : t < 8) (ho : s 130 t = 1) : 0 ≤ kbF P s t := by
  have hk := kb_B hv hp h0 h1 ho
  obtain ⟨v1, v2, v3, v4, v5, v6, v7⟩ := hp.2.2.2.2.2.2.2.2.2.2.2.2 t h0 h1 (hv.amo h0 h1 ho)
  obtain ⟨r1, r2, r3, r4⟩ := hp.2.2.2.2.2.2.2.2.2.2.2.1 t h0 h1
  have := hp.2.2.2.1
  unfold kbF
  split
  · omega
  · rw [if_pos (by omega)]
    omega
theorem doF_H {i : Int} : ∀ (n : Nat) (s : Mem), (doF P τ i n s).1 = 1 → ∀ o, 0 ≤ o → o < 8 → tb ((doF P τ i n s).2 133 i) o = true → ¬ o = i ∧ ¬ s 129 o = 0 := by
  intro n
  induction n with
  | zero => intro s q; rw [doF] at q; exact absurd q (by omega)
  | succ n ih =>
    intro s
    have go : ∀ v, (doF P τ i n (mset (mset s 129 i v) 127 i (s 127 i + 1))).1 = 1 → ∀ o, 0 ≤ o → o < 8 → tb ((doF P τ i n (mset (mset s 129 i v) 127 i (s 127 i + 1))).2 133 i) o = true → ¬ o = i ∧ ¬ s 129 o = 0 := by
      intro v q o a b c
      have := ih _ q o a b c
      rw [ms_c (by omega), ms_k this.1] at this
      exact this
    simp only [doF]
    split
    · intro q; exact absurd q (by dsimp only; omega)
    · split
      · exact go _
      · split
        · intro _ o a b c
          dsimp only at c
          rw [ms_eq] at c
          unfold wtB at c
          rw [tb8 a b] at c
          simp only [Bool.and_eq_true, decide_eq_true_eq] at c
          refine ⟨c.1, fun w => c.2 ?_⟩
          rw [w]
          have hW : inB (wtX P s i (P 119 (20 * i + s 127 i))) ∨ True := Or.inr trivial
          unfold iAnd
          have : Int32.ofInt 0 = 0 := by decide
          rw [this, Int32.zero_and]
          decide
        · exact go _
theorem s_46 {i w d j : Int} (hB : isRb B) (h0 : 0 ≤ i) (h1 : i < 8) (hd : M (ckA B i) 9 = d) (hj : M (ckA B i) 8 = j) (j0 : 0 ≤ j) (j1 : j < 120)
    (hQ : ∀ M', (∀ c k, ¬ (c = ckA B i ∧ (k = 8 ∨ k = 12)) → ¬ (c = ckA B i + 1 ∧ k = j) → ¬ (c = B ∧ (k = 11 ∨ k = 17)) → M' c k = M c k) → M' (ckA B i) 8 = -1 → M' (ckA B i) 12 = 0 → M' (ckA B i + 1) j = w → M' B 11 = iAnd (M B 11) (iXor (1 * 2 ^ i.toNat) (-1)) → (M' B 17 = if d < w then 1 else M B 17) → Q none M') : Mq sx L K0 R0 46 [vR (B + 2), vI i, vI w] M Q := by
  have hk := isCk_A hB h0 h1
  have nck : ¬ ckA B i = B := ck_B (by omega)
  have nck1 : ¬ ckA B i + 1 = B := ck1_B (by omega)
  have one : ∀ y : Mem, (∀ c k, ¬ (c = B ∧ k = 17) → y c k = M c k) → (y B 17 = if d < w then 1 else M B 17) → Rn sx L K0 R0 46 1 [vR (B + 2), vI i, vI w, vR (ckA B i + 2)] [] y Q := by
    intro y hy h17
    have y8 : y (ckA B i) 8 = j := by rw [hy _ _ (fun e => nck e.1)]; exact hj
    refine b_46_1 hB hk (m_7 (b_7_0 hk ?_))
    rw [y8]
    refine ⟨fun q => absurd q (by omega), fun _ => ⟨fun q => absurd q (by omega), fun _ => ⟨⟨j0, j1⟩, b_7_1 hk ⟨rfl, pow30 h0 (by omega), ?_⟩⟩⟩⟩
    refine hQ _ (fun c k q1 q2 q3 => ?_) ?_ ?_ ?_ ?_ ?_
    · rw [ms_ne (by omega), ms_ne (by omega), ms_ne (by omega), ms_ne (by omega), hy _ _ (by omega)]
    · rw [ms_c nck, ms_k (by omega), ms_eq]
    · rw [ms_c nck, ms_eq]
    · rw [ms_c nck1, ms_c (by omega), ms_c (by omega), ms_eq]
    · rw [ms_eq, ms_c (by omega), ms_c (by omega), ms_c (by omega), hy _ _ (by omega)]
    · rw [ms_k (by omega), ms_c (by omega), ms_c (by omega), ms_c (by omega), h17]
  refine m_46 (b_46_0 hB ⟨h0, h1⟩ ?_)
  rw [hd]
  refine ⟨fun q => one M (fun _ _ _ => rfl) (by rw [if_neg (by omega)]), fun q => one _ (fun c k q => ms_ne q) (by rw [ms_eq, if_pos (by omega)])⟩
def FrY (B : Nat) (τ : Int) (M M' : Mem) : Prop := FrB B M M' ∧ (∀ k, ¬ (11 ≤ k ∧ k ≤ 14) → ¬ k = 17 → M' B k = M B k) ∧ (∀ c k, B < c → c < B + 5 → M' c k = M c k) ∧ (∀ k, (∀ h, 0 ≤ h → h < 3 → ¬ k = h * 120 + τ) → M' (B + 5) k = M (B + 5) k) ∧ ∀ t k, 0 ≤ t → t < 8 → (2 ≤ k ∧ k ≤ 5 ∨ k = 17) → M' (ckA B t) k = M (ckA B t) k
theorem FrY.tr {M1 M2 : Mem} (h : FrY B τ M M1) (h2 : FrY B τ M1 M2) : FrY B τ M M2 := ⟨h.1.tr h2.1, fun k q r => (h2.2.1 k q r).trans (h.2.1 k q r), fun c k a b => (h2.2.2.1 c k a b).trans (h.2.2.1 c k a b), fun k q => (h2.2.2.2.1 k q).trans (h.2.2.2.1 k q), fun t k a b c => (h2.2.2.2.2 t k a b c).trans (h.2.2.2.2 t k a b c)⟩
theorem FrX.y {M1 : Mem} (h : FrX B M M1) : FrY B τ M M1 := ⟨h.1, fun k q _ => h.2.1 k q, fun c k a b => h.2.2.1 c k a (by omega), fun k _ => h.2.2.1 _ k (by omega) (by omega), h.2.2.2⟩
theorem FrY.rfl' : FrY B τ M M := FrX.rfl'.y
theorem FrY.set5 {M1 : Mem} {h v : Int} (f : FrY B τ M M1) (h0 : 0 ≤ h) (h1 : h < 3) : FrY B τ M (mset M1 (B + 5) (h * 120 + τ) v) := by
  refine ⟨f.1.set (by omega), fun k q r => ?_, fun c k a b => ?_, fun k q => ?_, fun t k a b c => ?_⟩
  · rw [ms_c (by omega)]; exact f.2.1 k q r
  · rw [ms_c (by omega)]; exact f.2.2.1 c k a b
  · rw [ms_k (q h h0 h1)]; exact f.2.2.2.1 k q
  · rw [ms_c (ck_B (by omega))]; exact f.2.2.2.2 t k a b c
theorem CPr.fy {M' : Mem} (h : CPr P M B T) (f : FrY B τ M M') : CPr P M' B T := by
  obtain ⟨h1, h2, h3, h4, h5, h6⟩ := h
  have g := f.2.1
  refine ⟨by rw [g 6 (by omega) (by omega)]; exact h1, by rw [g 7 (by omega) (by omega)]; exact h2, by rw [g 8 (by omega) (by omega)]; exact h3, by rw [g 9 (by omega) (by omega)]; exact h4, by rw [g 10 (by omega) (by omega)]; exact h5, fun t a b => ?_⟩
  have c := f.2.2.2.2
  rw [c t 2 a b (by omega), c t 3 a b (by omega), c t 4 a b (by omega), c t 5 a b (by omega), c t 17 a b (by omega)]
  exact h6 t a b
theorem CMt.eq {s' M' : Mem} {t : Int} (h : CMt P s M B τ t) (e : ∀ c k, (c = 123 ∨ c = 124 ∨ (126 ≤ c ∧ c ≤ 133)) → s' c k = s c k) (f : ∀ k, (6 ≤ k ∧ k ≤ 16 ∧ ¬ k = 14 ∧ ¬ k = 15) → M' (ckA B t) k = M (ckA B t) k) (g : ∀ k, M' (ckA B t + 1) k = M (ckA B t + 1) k) : CMt P s' M' B τ t := by
  obtain ⟨h1, h2, h3⟩ := h
  refine ⟨h1.eq (fun c k q => e c k (by omega)) (fun k q => f k (by omega)) g, ?_, ?_⟩
  · rw [f 16 (by omega), e 132 t (by omega), e 131 t (by omega)]; exact h2
  · rw [f 13 (by omega), e 132 t (by omega), e 133 t (by omega)]; exact h3
theorem CMt.sm {s' M' : Mem} {t : Int} (hv : SVt P s t) (h : CMt P s M B τ t) (e : SmT s s' t) (f : ∀ k, (6 ≤ k ∧ k ≤ 16 ∧ ¬ k = 14 ∧ ¬ k = 15) → M' (ckA B t) k = M (ckA B t) k) (g : ∀ k, M' (ckA B t + 1) k = M (ckA B t + 1) k) : CMt P s' M' B τ t := by
  obtain ⟨h1, h2, h3⟩ := h
  have x := e.1
  refine ⟨?_, ?_, ?_⟩
  · have : CJ P s' M B t := h1.sm hv e (fun _ => rfl) (fun _ => rfl)
    exact this.eq (fun _ _ _ => rfl) (fun k q => f k (by omega)) g
  · rw [f 16 (by omega), x 132 (by omega) (by omega) (by omega) (by omega), x 131 (by omega) (by omega) (by omega) (by omega)]; exact h2
  · rw [f 13 (by omega), x 132 (by omega) (by omega) (by omega) (by omega), x 133 (by omega) (by omega) (by omega) (by omega)]; exact h3
theorem BT.in (h : BT s M B) : inB (M B 11) ∧ inB (M B 12) ∧ inB (M B 13) := by
  obtain ⟨a, b, c⟩ := h
  rw [a, b, c]
  exact ⟨mkB_B 8 _ (by omega), mkB_B 8 _ (by omega), mkB_B 8 _ (by omega)⟩
theorem mk_or {p q : Int → Bool} {i : Int} (h0 : 0 ≤ i) (h1 : i < 8) (hi : q i = true) (e : ∀ t, 0 ≤ t → t < 8 → ¬ t = i → q t = p t) : iOr (mkB 8 p) (1 * 2 ^ i.toNat) = mkB 8 q := by
  refine tb_ext (or_B (mkB_B 8 p (by omega)) (pow_B (by omega))).1 (mkB_B 8 q (by omega)).1 fun t a => ?_
  rw [tb_or (mkB_B 8 p (by omega)) (pow_B (by omega)), tb_pow h0 a]
  by_cases b : t < 8
  · rw [tb8 a b, tb8 a b]
    by_cases c : t = i
    · rw [c, hi]; simp
    · rw [e t a b c, decide_eq_false (by omega), Bool.or_false]
  · rw [tb8' a b, tb8' a b, decide_eq_false (by omega)]; rfl
theorem mk_andn {p q : Int → Bool} {i : Int} (h0 : 0 ≤ i) (h1 : i < 8) (hi : q i = false) (e : ∀ t, 0 ≤ t → t < 8 → ¬ t = i → q t = p t) : iAnd (mkB 8 p) (iXor (1 * 2 ^ i.toNat) (-1)) = mkB 8 q := by
  refine tb_ext (andn_B (mkB_B 8 p (by omega)) (pow_B (by omega))).1 (mkB_B 8 q (by omega)).1 fun t a => ?_
  rw [tb_andn (mkB_B 8 p (by omega)) (pow_B (by omega)), tb_pow h0 a]
  by_cases b : t < 8
  · rw [tb8 a b, tb8 a b]
    by_cases c : t = i
    · rw [c, hi]; simp
    · rw [e t a b c, decide_eq_false (by omega)]; simp
  · rw [tb8' a b, tb8' a b]; rfl
end

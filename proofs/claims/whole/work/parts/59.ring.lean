/-! who reaches whom: by rounds, and by pivots -/
def Tc (w : Int → Int) (t o : Int) : Prop := ∀ r : Int → Prop, (∀ x, 0 ≤ x → x < 8 → tb (w t) x = true → r x) → (∀ k x, 0 ≤ k → k < 8 → r k → 0 ≤ x → x < 8 → tb (w k) x = true → r x) → r o
def WB (w : Int → Int) : Prop := ∀ t, 0 ≤ t → t < 8 → inB (w t)
theorem Tc.base {w : Int → Int} {t x : Int} (a : 0 ≤ x) (b : x < 8) (h : tb (w t) x = true) : Tc w t x := fun _ h1 _ => h1 x a b h
theorem Tc.next {w : Int → Int} {t k x : Int} (h : Tc w t k) (a : 0 ≤ k) (b : k < 8) (c : 0 ≤ x) (d : x < 8) (e : tb (w k) x = true) : Tc w t x := fun r h1 h2 => h2 k x a b (h r h1 h2) c d e
theorem Tc.tr {w : Int → Int} {t k x : Int} (h : Tc w t k) (a : 0 ≤ k) (b : k < 8) (h2 : Tc w k x) : Tc w t x := h2 (fun y => Tc w t y) (fun _ c d e => h.next a b c d e) (fun _ _ c d f g i e => Tc.next f c d g i e)
theorem rchS_sup {w : Int → Int} (hw : WB w) {r x : Int} (hr : inB r) (h : tb r x = true) : ∀ n : Nat, n ≤ 8 → tb (rchS w n r) x = true := by
  intro n
  induction n with
  | zero => exact fun _ => h
  | succ n ih =>
    intro hn
    simp only [rchS]
    split
    · rw [tb_or (rchS_B hw hr n (by omega)) (hw n (by omega) (by omega)), ih (by omega)]; rfl
    · exact ih (by omega)
theorem rchS_mono {w : Int → Int} (hw : WB w) {r x : Int} (hr : inB r) (n : Nat) : ∀ m : Nat, n + m ≤ 8 → tb (rchS w n r) x = true → tb (rchS w (n + m) r) x = true := by
  intro m
  induction m with
  | zero => exact fun _ h => h
  | succ m ih =>
    intro hm h
    rw [show n + (m + 1) = (n + m) + 1 by omega]
    simp only [rchS]
    split
    · rw [tb_or (rchS_B hw hr (n + m) (by omega)) (hw (n + m : Nat) (by omega) (by omega)), ih (by omega) h]; rfl
    · exact ih (by omega) h
theorem rchS_snd {w : Int → Int} (hw : WB w) {r t : Int} (hr : inB r) (h : ∀ x, 0 ≤ x → x < 8 → tb r x = true → Tc w t x) : ∀ n : Nat, n ≤ 8 → ∀ x, 0 ≤ x → x < 8 → tb (rchS w n r) x = true → Tc w t x := by
  intro n
  induction n with
  | zero => exact fun _ => h
  | succ n ih =>
    intro hn x a b c
    simp only [rchS] at c
    split at c
    · next e =>
      rw [tb_or (rchS_B hw hr n (by omega)) (hw n (by omega) (by omega))] at c
      simp only [Bool.or_eq_true] at c
      rcases c with c | c
      · exact ih (by omega) x a b c
      · exact (ih (by omega) n (by omega) (by omega) e).next (by omega) (by omega) a b c
    · exact ih (by omega) x a b c
theorem rchR_snd {w : Int → Int} (hw : WB w) {t : Int} (t0 : 0 ≤ t) (t1 : t < 8) : ∀ n : Nat, ∀ x, 0 ≤ x → x < 8 → tb (rchR w n (w t)) x = true → Tc w t x := by
  intro n
  induction n with
  | zero => exact fun x a b c => Tc.base a b c
  | succ n ih =>
    intro x a b c
    simp only [rchR] at c
    exact rchS_snd hw (rchR_B hw (hw t t0 t1) n) ih 8 (by omega) x a b c
def ClR (w : Int → Int) (r : Int) : Prop := ∀ k x, 0 ≤ k → k < 8 → tb r k = true → 0 ≤ x → x < 8 → tb (w k) x = true → tb r x = true
def cntB (r : Int) : Int := sumI 8 fun x => if tb r x = true then 1 else 0
theorem rchS_fix {w : Int → Int} (hw : WB w) {r : Int} (hr : inB r) (h : ClR w r) : ∀ n : Nat, n ≤ 8 → ∀ x, 0 ≤ x → x < 8 → tb (rchS w n r) x = tb r x := by
  intro n
  induction n with
  | zero => exact fun _ _ _ _ => rfl
  | succ n ih =>
    intro hn x a b
    simp only [rchS]
    split
    · next e =>
      rw [tb_or (rchS_B hw hr n (by omega)) (hw n (by omega) (by omega)), ih (by omega) x a b]
      rw [ih (by omega) n (by omega) (by omega)] at e
      cases c : tb (w n) x
      · simp
      · rw [h n x (by omega) (by omega) e a b c]; rfl
    · exact ih (by omega) x a b
theorem rchR_cl {w : Int → Int} (hw : WB w) {r0 : Int} (h0 : inB r0) : ∀ n : Nat, ClR w (rchR w n r0) ∨ (n : Int) ≤ cntB (rchR w n r0) := by
  intro n
  induction n with
  | zero =>
    refine Or.inr ?_
    have := sumI_0 (n := 8) (f := fun x => if tb (rchR w 0 r0) x = true then 1 else 0) (b := 1) (fun t _ _ => by split <;> omega)
    unfold cntB
    omega
  | succ n ih =>
    have hB := rchR_B hw h0 n
    simp only [rchR]
    generalize rchR w n r0 = r at ih hB
    by_cases c : ClR w r
    · refine Or.inl fun k x a b d e f g => ?_
      rw [rchS_fix hw hB c 8 (by omega) k a b] at d
      rw [rchS_fix hw hB c 8 (by omega) x e f]
      exact c k x a b d e f g
    · refine Or.inr ?_
      have ih := ih.resolve_left c
      unfold ClR at c
      simp only [Classical.not_forall] at c
      obtain ⟨k, x, a, b, d, e, f, g, q⟩ := c
      have inx : tb (rchS w 8 r) x = true := by
        have m := rchS_mono (x := x) hw hB (k.toNat + 1) (7 - k.toNat) (by omega)
        rw [show k.toNat + 1 + (7 - k.toNat) = 8 by omega] at m
        refine m ?_
        simp only [rchS]
        rw [Int.toNat_of_nonneg a, if_pos (rchS_sup hw hB d k.toNat (by omega)), tb_or (rchS_B hw hB k.toNat (by omega)) (hw k a b), g]
        simp
      have : cntB r < cntB (rchS w 8 r) := by
        refine sumI_lt (o := x) (fun y a b => ?_) e (by omega) ?_
        · by_cases z : tb r y = true
          · rw [if_pos z, if_pos (rchS_sup hw hB z 8 (by omega))]; omega
          · rw [if_neg z]; split <;> omega
        · rw [if_neg q, if_pos inx]; omega
      omega
theorem rchR_iff {w : Int → Int} (hw : WB w) {t o : Int} (t0 : 0 ≤ t) (t1 : t < 8) (o0 : 0 ≤ o) (o1 : o < 8) : tb (rchR w 8 (w t)) o = true ↔ Tc w t o := by
  constructor
  · exact rchR_snd hw t0 t1 8 o o0 o1
  · intro h
    have cl : ClR w (rchR w 8 (w t)) := by
      rcases rchR_cl hw (hw t t0 t1) 8 with c | c
      · exact c
      · intro k x a b d e f g
        apply Classical.byContradiction
        intro q
        have := sumI_lt (n := 8) (f := fun y => if tb (rchR w 8 (w t)) y = true then 1 else 0) (g := fun _ => 1) (o := x) (fun k a b => by split <;> omega) e (by omega) (by rw [if_neg q]; omega)
        have e8 : sumI 8 (fun _ => 1) = 8 := by decide
        unfold cntB at c
        omega
    have sup : ∀ n : Nat, ∀ x, tb (w t) x = true → tb (rchR w n (w t)) x = true := by
      intro n
      induction n with
      | zero => exact fun _ h => h
      | succ n ih =>
        intro x h
        simp only [rchR]
        exact rchS_sup hw (rchR_B hw (hw t t0 t1) n) (ih x h) 8 (by omega)
    exact h (fun x => tb (rchR w 8 (w t)) x = true) (fun x _ _ c => sup 8 x c) (fun k x a b c d e f => cl k x a b c d e f)
/-- rows under pivots: what they keep -/
def WsI (w R : Int → Int) (k : Int) : Prop := WB R ∧ (∀ i o, 0 ≤ i → i < 8 → 0 ≤ o → o < 8 → tb (w i) o = true → tb (R i) o = true) ∧ (∀ i o, 0 ≤ i → i < 8 → 0 ≤ o → o < 8 → tb (R i) o = true → Tc w i o) ∧ ∀ j i o, 0 ≤ j → j < k → j < 8 → 0 ≤ i → i < 8 → 0 ≤ o → o < 8 → tb (R i) j = true → tb (R j) o = true → tb (R i) o = true
def wsP (R : Int → Int) (k : Int) : Int → Int := fun x => if tb (R x) k = true then iOr (R x) (R k) else R x
theorem wsP_tb {R : Int → Int} (hR : WB R) {k x o : Int} (k0 : 0 ≤ k) (k1 : k < 8) (x0 : 0 ≤ x) (x1 : x < 8) : tb (wsP R k x) o = (tb (R x) o || (tb (R x) k && tb (R k) o)) := by
  unfold wsP
  split
  · next e => rw [tb_or (hR x x0 x1) (hR k k0 k1), e, Bool.true_and]
  · next e => rw [(Bool.not_eq_true _).mp e]; simp
theorem wsP_B {R : Int → Int} (hR : WB R) {k : Int} (k0 : 0 ≤ k) (k1 : k < 8) : WB (wsP R k) := fun t a b => by
  unfold wsP
  split
  · exact or_B (hR t a b) (hR k k0 k1)
  · exact hR t a b
theorem WsI.nx {w R : Int → Int} {k : Int} (h : WsI w R k) (k0 : 0 ≤ k) (k1 : k < 8) : WsI w (wsP R k) (k + 1) := by
  obtain ⟨h1, h2, h3, h4⟩ := h
  refine ⟨wsP_B h1 k0 k1, fun i o a b c d e => ?_, fun i o a b c d e => ?_, fun j i o a b b2 c d e f g g2 => ?_⟩
  · rw [wsP_tb h1 k0 k1 a b, h2 i o a b c d e]; rfl
  · rw [wsP_tb h1 k0 k1 a b] at e
    simp only [Bool.or_eq_true, Bool.and_eq_true] at e
    rcases e with e | e
    · exact h3 i o a b c d e
    · exact (h3 i k a b k0 k1 e.1).tr k0 k1 (h3 k o k0 k1 c d e.2)
  · rw [wsP_tb h1 k0 k1 c d] at g ⊢
    rw [wsP_tb h1 k0 k1 a b2] at g2
    simp only [Bool.or_eq_true, Bool.and_eq_true] at g g2 ⊢
    by_cases q : j = k
    · rw [q] at g g2
      have x1 : tb (R i) k = true := by rcases g with g | g; exact g; exact g.1
      have x2 : tb (R k) o = true := by rcases g2 with g2 | g2; exact g2; exact g2.2
      exact Or.inr ⟨x1, x2⟩
    · have H := fun i o => h4 j i o a (by omega) b2
      rcases g with g | g <;> rcases g2 with g2 | g2
      · exact Or.inl (H i o c d e f g g2)
      · exact Or.inr ⟨H i k c d k0 k1 g g2.1, g2.2⟩
      · exact Or.inr ⟨g.1, H k o k0 k1 e f g.2 g2⟩
      · exact Or.inr ⟨g.1, g2.2⟩
theorem WsI.iff {w R : Int → Int} (h : WsI w R 8) {i o : Int} (a : 0 ≤ i) (b : i < 8) (c : 0 ≤ o) (d : o < 8) : tb (R i) o = true ↔ Tc w i o := by
  obtain ⟨h1, h2, h3, h4⟩ := h
  refine ⟨h3 i o a b c d, fun q => q (fun x => tb (R i) x = true) (fun x e f g => h2 i x a b e f g) (fun k x e f g j l m => h4 k i x e f f a b j l g (h2 k x e f j l m))⟩
theorem or_self {b : Int} (h : inB b) : iOr b b = b := by
  refine tb_ext (or_B h h).1 h.1 fun i _ => ?_
  rw [tb_or h h, Bool.or_self]
def twoB : Bool := (List.range 256).all fun m => !(decide (iAnd (m : Int) ((m : Int) - 1) = 0)) || (List.range 8).all fun i => (List.range 8).all fun j => decide (i = j) || !(m.testBit i && m.testBit j)
theorem twoB_ok : twoB = true := by decide +kernel
theorem two_one {W : Int} (h0 : 0 ≤ W) (h1 : W < 256) (h : iAnd W (W - 1) = 0) {i j : Int} (i0 : 0 ≤ i) (i1 : i < 8) (j0 : 0 ≤ j) (j1 : j < 8) (hi : tb W i = true) (hj : tb W j = true) : i = j := by
  have := List.all_eq_true.mp twoB_ok W.toNat (List.mem_range.mpr (by omega))
  rw [Int.toNat_of_nonneg h0, decide_eq_true h, Bool.not_true, Bool.false_or] at this
  have := List.all_eq_true.mp (List.all_eq_true.mp this i.toNat (List.mem_range.mpr (by omega))) j.toNat (List.mem_range.mpr (by omega))
  unfold tb at hi hj
  rw [hi, hj] at this
  simp at this
  omega
theorem rng_0 {w : Int → Int} (hw : WB w) {W : Int} (hW0 : 0 ≤ W) (hW1 : W < 256) (hz : ∀ t, 0 ≤ t → t < 8 → ¬ tb W t = true → w t = 0) (hs : ∀ t, 0 ≤ t → t < 8 → tb (w t) t = false) (h : iAnd W (W - 1) = 0) : rngB w = 0 := by
  apply Classical.byContradiction
  intro q
  unfold rngB at q
  obtain ⟨t, a, b⟩ := (tb_ne0 (mkB_B 8 _ (by omega)).1).mp q
  have t1 : t < 8 := by
    apply Classical.byContradiction
    intro z
    rw [tb8' a z] at b
    cases b
  rw [tb8 a t1] at b
  have T := (rchR_iff hw a t1 a t1).mp b
  have := T (fun x => ¬ x = t) (fun x c d e => fun z => by rw [z, hs t a t1] at e; cases e) (fun k x c d e f g i => by
    by_cases y : tb W t = true
    · have : ¬ tb W k = true := fun z => e (two_one hW0 hW1 h c d a t1 z y)
      rw [hz k c d this, tb_zero] at i
      cases i
    · exact fun z => y (by
        exfalso
        have := T (fun _ => False) (fun x c d e => by rw [hz t a t1 y, tb_zero] at e; cases e) (fun _ _ _ _ f _ _ _ => f)
        exact this))
  exact this rfl
theorem rng_eq {w R : Int → Int} (hw : WB w) (h : WsI w R 8) : mkB 8 (fun t => tb (R t) t) = rngB w := by
  unfold rngB
  refine mkB_cg fun t a b => ?_
  have := (h.iff a (by omega) a (by omega)).trans (rchR_iff hw a (by omega) a (by omega)).symm
  exact Bool.eq_iff_iff.mpr this

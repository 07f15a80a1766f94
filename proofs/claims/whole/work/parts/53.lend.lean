/-! keys in force, round by round -/
def ldS (w K : Int → Int) (i : Int) : Int → Int := fun t => if tb (w i) t = true then min (K t) (K i) else K t
def ldR (w K : Int → Int) : Nat → Int → Int
  | 0 => K
  | n + 1 => ldS w (ldR w K n) n
theorem ldS_le (w K : Int → Int) (i t : Int) : ldS w K i t ≤ K t := by
  unfold ldS
  split <;> omega
theorem ldR_le (w K : Int → Int) (t : Int) : ∀ n : Nat, ldR w K n t ≤ K t := by
  intro n
  induction n with
  | zero => exact Int.le_refl _
  | succ n ih => simp only [ldR]; have := ldS_le w (ldR w K n) n t; omega
theorem ldR_mono (w K : Int → Int) (t : Int) (n : Nat) : ∀ m : Nat, ldR w K (n + m) t ≤ ldR w K n t := by
  intro m
  induction m with
  | zero => exact Int.le_refl _
  | succ m ih =>
    rw [show n + (m + 1) = (n + m) + 1 by omega]
    simp only [ldR]
    have := ldS_le w (ldR w K (n + m)) (n + m : Nat) t
    omega
theorem PreF.stp {b w K : Int → Int} (h : PreF b w K) {i : Int} (h0 : 0 ≤ i) (h1 : i < 8) : PreF b w (ldS w K i) := by
  refine ⟨fun t a c => ?_, fun g g1 g2 t a c => ?_⟩
  · have := ldS_le w K i t
    have := h.1 t a c
    omega
  · have k1 := h.2 g g1 g2 t a c
    have k2 := h.2 g g1 g2 i h0 h1
    unfold ldS
    split
    · next e =>
      have := g2 i t h0 h1 a c e
      omega
    · exact k1
theorem PreF.rnd {b w K : Int → Int} (h : PreF b w K) : ∀ n : Nat, n ≤ 8 → PreF b w (ldR w K n) := by
  intro n
  induction n with
  | zero => exact fun _ => h
  | succ n ih => exact fun hn => (ih (by omega)).stp (by omega) (by omega)
theorem ldR_edge (w K : Int → Int) {t o : Int} (t0 : 0 ≤ t) (t1 : t < 8) (e : tb (w t) o = true) : ldR w K 8 o ≤ K t := by
  have a := ldR_mono w K o (t.toNat + 1) (7 - t.toNat)
  rw [show t.toNat + 1 + (7 - t.toNat) = 8 by omega] at a
  have b : ldR w K (t.toNat + 1) o ≤ ldR w K t.toNat t := by
    simp only [ldR]
    unfold ldS
    rw [Int.toNat_of_nonneg t0, if_pos e]
    omega
  have c := ldR_le w K t t.toNat
  omega
theorem ifc {a b c : Int} (h : a = b) : (if a = c then (1 : Int) else 0) = if b = c then 1 else 0 := by rw [h]
theorem exF {b w : Int → Int} {m : Int} (hm : ∀ t, 0 ≤ t → t < 8 → m ≤ b t) : ∀ (n : Nat) (K : Int → Int), PreF b w K → sumI 8 K - 8 * m ≤ n → ∃ F, IsF b w F := by
  have low : ∀ K : Int → Int, PreF b w K → ∀ t, 0 ≤ t → t < 8 → m ≤ K t := fun K h t a c => h.2 (fun _ => m) hm (fun _ _ _ _ _ _ _ => Int.le_refl _) t a c
  have step : ∀ K : Int → Int, PreF b w K → (∃ F, IsF b w F) ∨ ∃ K', PreF b w K' ∧ sumI 8 K' < sumI 8 K := by
    intro K h
    by_cases c : clF w K
    · exact Or.inl ⟨K, h.1, c, h.2⟩
    · unfold clF at c
      simp only [Classical.not_forall] at c
      obtain ⟨t, o, t0, t1, o0, o1, e, q⟩ := c
      refine Or.inr ⟨fun x => if x = o then K t else K x, ⟨fun x a c => ?_, fun g g1 g2 x a c => ?_⟩, ?_⟩
      · have := h.1 x a c
        have := h.1 o o0 o1
        dsimp only
        split
        · next z => rw [z]; omega
        · omega
      · have k1 := h.2 g g1 g2 x a c
        have k2 := h.2 g g1 g2 t t0 t1
        have k3 := g2 t o t0 t1 o0 o1 e
        dsimp only
        split
        · next z => rw [z]; omega
        · omega
      · refine sumI_lt (o := o) (fun x a c => ?_) o0 (by omega) ?_
        · split
          · next z => rw [z]; omega
          · omega
        · rw [if_pos rfl]
          omega
  intro n
  induction n with
  | zero =>
    intro K h hn
    rcases step K h with q | ⟨K', h', q⟩
    · exact q
    · exfalso
      have hl := low K' h'
      have := sumI_0 (n := 8) (f := fun t => K' t - m) (b := (sumI 8 (fun t => K' t - m)) + 100000000000) (fun k a c => ?_)
      · simp only [sumI] at this q hn
        omega
      · have z := hl k a (by omega)
        refine ⟨by omega, ?_⟩
        have y : ∀ j, 0 ≤ j → j < 8 → 0 ≤ K' j - m := fun j a c => by have := hl j a c; omega
        have y0 := y 0 (by omega) (by omega)
        have y1 := y 1 (by omega) (by omega)
        have y2 := y 2 (by omega) (by omega)
        have y3 := y 3 (by omega) (by omega)
        have y4 := y 4 (by omega) (by omega)
        have y5 := y 5 (by omega) (by omega)
        have y6 := y 6 (by omega) (by omega)
        have y7 := y 7 (by omega) (by omega)
        have hk : k = 0 ∨ k = 1 ∨ k = 2 ∨ k = 3 ∨ k = 4 ∨ k = 5 ∨ k = 6 ∨ k = 7 := by omega
        simp only [sumI]
        rcases hk with rfl | rfl | rfl | rfl | rfl | rfl | rfl | rfl <;> simp <;> omega
  | succ n ih =>
    intro K h hn
    rcases step K h with q | ⟨K', h', q⟩
    · exact q
    · exact ih K' h' (by omega)
theorem exF' (b w : Int → Int) : ∃ F, IsF b w F := by
  refine exF (m := min (b 0) (min (b 1) (min (b 2) (min (b 3) (min (b 4) (min (b 5) (min (b 6) (b 7)))))))) (fun t a c => ?_) (sumI 8 b - 8 * min (b 0) (min (b 1) (min (b 2) (min (b 3) (min (b 4) (min (b 5) (min (b 6) (b 7)))))))).toNat b ⟨fun _ _ _ => Int.le_refl _, fun g g1 _ => g1⟩ (by omega)
  have hk : t = 0 ∨ t = 1 ∨ t = 2 ∨ t = 3 ∨ t = 4 ∨ t = 5 ∨ t = 6 ∨ t = 7 := by omega
  rcases hk with rfl | rfl | rfl | rfl | rfl | rfl | rfl | rfl <;> omega
/-- how many are final -/
def finN (F K : Int → Int) : Int := sumI 8 fun t => if K t = F t then 1 else 0
theorem finN_8 {F K : Int → Int} (h : 8 ≤ finN F K) : ∀ t, 0 ≤ t → t < 8 → K t = F t := by
  intro t a c
  apply Classical.byContradiction
  intro q
  have := sumI_lt (n := 8) (f := fun t => if K t = F t then 1 else 0) (g := fun _ => 1) (o := t) (fun k a b => by split <;> omega) a (by omega) (by rw [if_neg q]; omega)
  have e : sumI 8 (fun _ => 1) = 8 := by decide
  unfold finN at h
  omega
theorem finN_le {F K : Int → Int} : 0 ≤ finN F K ∧ finN F K ≤ 8 := by
  have := sumI_0 (n := 8) (f := fun t => if K t = F t then 1 else 0) (b := 1) (fun t _ _ => by split <;> omega)
  unfold finN
  omega
theorem finN_up {b w K F : Int → Int} (hF : IsF b w F) (hK : PreF b w K) : finN F K < finN F (ldR w K 8) ∨ 8 ≤ finN F (ldR w K 8) := by
  have hR := hK.rnd 8 (by omega)
  have keep : ∀ t, 0 ≤ t → t < 8 → K t = F t → ldR w K 8 t = F t := by
    intro t a c e
    have := hR.2 F hF.1 hF.2.1 t a c
    have := ldR_le w K t 8
    omega
  by_cases all : ∀ t, 0 ≤ t → t < 8 → K t = F t
  · refine Or.inr ?_
    unfold finN
    rw [sumI_congr (g := fun _ => 1) fun t a c => by rw [if_pos (keep t a (by omega) (all t a (by omega)))]]
    decide
  · refine Or.inl ?_
    -- one that is not final, of the least key
    have : ∃ v : Int, (∃ t, 0 ≤ t ∧ t < 8 ∧ ¬ K t = F t ∧ F t = v) ∧ ∀ t, 0 ≤ t → t < 8 → ¬ K t = F t → v ≤ F t := by
      simp only [Classical.not_forall] at all
      obtain ⟨t, a, c, q⟩ := all
      have : ∀ (n : Nat) (t : Int), 0 ≤ t → t < 8 → ¬ K t = F t → (sumI 8 fun u => if F u < F t ∧ ¬ K u = F u then 1 else 0) ≤ n → ∃ v : Int, (∃ t, 0 ≤ t ∧ t < 8 ∧ ¬ K t = F t ∧ F t = v) ∧ ∀ t, 0 ≤ t → t < 8 → ¬ K t = F t → v ≤ F t := by
        intro n
        induction n with
        | zero =>
          intro t a c q hn
          refine ⟨F t, ⟨t, a, c, q, rfl⟩, fun u d e f => ?_⟩
          apply Classical.byContradiction
          intro z
          have := sumI_lt (n := 8) (f := fun _ => 0) (g := fun u => if F u < F t ∧ ¬ K u = F u then 1 else 0) (o := u) (fun k a b => by split <;> omega) d (by omega) (by rw [if_pos ⟨by omega, f⟩]; omega)
          have e : sumI 8 (fun _ => 0) = 0 := by decide
          omega
        | succ n ih =>
          intro t a c q hn
          by_cases z : ∀ u, 0 ≤ u → u < 8 → ¬ K u = F u → F t ≤ F u
          · exact ⟨F t, ⟨t, a, c, q, rfl⟩, z⟩
          · simp only [Classical.not_forall] at z
            obtain ⟨u, d, e, f, g⟩ := z
            refine ih u d e f ?_
            have := sumI_lt (n := 8) (f := fun x => if F x < F u ∧ ¬ K x = F x then 1 else 0) (g := fun x => if F x < F t ∧ ¬ K x = F x then 1 else 0) (o := u) (fun k a b => by
              by_cases y : F k < F u ∧ ¬ K k = F k
              · rw [if_pos y, if_pos ⟨by omega, y.2⟩]; omega
              · rw [if_neg y]; split <;> omega) d (by omega) (by rw [if_neg (by omega), if_pos ⟨by omega, f⟩]; omega)
            omega
      exact this _ t a c q (Int.self_le_toNat _)
    obtain ⟨v, ⟨t1, a1, c1, q1, e1⟩, hv⟩ := this
    -- some final one waits for one of that key
    have ex : ∃ u x, 0 ≤ u ∧ u < 8 ∧ 0 ≤ x ∧ x < 8 ∧ tb (w u) x = true ∧ ¬ K x = F x ∧ F x = v ∧ F u = v ∧ K u = F u := by
      apply Classical.byContradiction
      intro no
      have g1 : ∀ t, 0 ≤ t → t < 8 → (if ¬ K t = F t ∧ F t = v then v + 1 else F t) ≤ b t := by
        intro t a c
        have := hK.1 t a c
        have h2 := hK.2 F hF.1 hF.2.1 t a c
        split
        · next z => omega
        · exact hF.1 t a c
      have g2 : clF w (fun t => if ¬ K t = F t ∧ F t = v then v + 1 else F t) := by
        intro u x a c d e f
        have k := hF.2.1 u x a c d e f
        dsimp only
        by_cases z : ¬ K x = F x ∧ F x = v
        · rw [if_pos z]
          by_cases y : ¬ K u = F u ∧ F u = v
          · rw [if_pos y]; omega
          · rw [if_neg y]
            by_cases y2 : F u = v
            · exact absurd ⟨u, x, a, c, d, e, f, z.1, z.2, y2, Classical.byContradiction fun y3 => y ⟨y3, y2⟩⟩ no
            · omega
        · rw [if_neg z]
          split
          · next y => omega
          · exact k
      have := hF.2.2 _ g1 g2 t1 a1 c1
      rw [if_pos ⟨q1, e1⟩] at this
      omega
    obtain ⟨u, x, u0, u1, x0, x1, e, qx, fx, fu, ku⟩ := ex
    have hx : ldR w K 8 x = F x := by
      have := ldR_edge w K u0 u1 e
      have := hR.2 F hF.1 hF.2.1 x x0 x1
      omega
    unfold finN
    refine sumI_lt (o := x) (fun k a c => ?_) x0 (by omega) ?_
    · by_cases z : K k = F k
      · rw [if_pos z, if_pos (keep k a (by omega) z)]; omega
      · rw [if_neg z]; split <;> omega
    · rw [if_neg qx, if_pos hx]
      omega
theorem IsF.cong {b w K F : Int → Int} (hF : IsF b w F) (h : ∀ t, 0 ≤ t → t < 8 → K t = F t) : IsF b w K := by
  refine ⟨fun t a c => by rw [h t a c]; exact hF.1 t a c, fun t o a c d e f => by rw [h t a c, h o d e]; exact hF.2.1 t o a c d e f, fun g g1 g2 t a c => by rw [h t a c]; exact hF.2.2 g g1 g2 t a c⟩
theorem IsF.more {b w K w' K' : Int → Int} (h : IsF b w K) (hs : ∀ t o, 0 ≤ t → t < 8 → 0 ≤ o → o < 8 → tb (w t) o = true → tb (w' t) o = true) (h' : IsF K w' K') : IsF b w' K' := by
  refine ⟨fun t a c => ?_, h'.2.1, fun g g1 g2 t a c => h'.2.2 g (fun t a c => h.2.2 g g1 (fun t o a c d e f => g2 t o a c d e (hs t o a c d e f)) t a c) g2 t a c⟩
  have := h'.1 t a c
  have := h.1 t a c
  omega
theorem clF.of_fix {w K : Int → Int} (h : ∀ t, 0 ≤ t → t < 8 → ldR w K 8 t = K t) : clF w K := by
  intro t o a c d e f
  have := ldR_edge w K a c f
  have := h o d e
  omega
section
variable {sx : Int → Int} {L : Nat} {P s M : Mem} {τ : Int} {Q : Option AV → Mem → Prop} {B : Nat}
/-- nothing but keys is changed -/
def FrK (B : Nat) (M M' : Mem) : Prop := ∀ c k, ¬ (k = 15 ∧ ∃ t, 0 ≤ t ∧ t < 8 ∧ c = ckA B t) → M' c k = M c k
theorem FrK.rfl' : FrK B M M := fun _ _ _ => rfl
theorem FrK.set {M1 : Mem} {t v : Int} (h : FrK B M M1) (h0 : 0 ≤ t) (h1 : t < 8) : FrK B M (mset M1 (ckA B t) 15 v) := fun c' k' q => by
  rw [ms_ne (fun e => q ⟨e.2, t, h0, h1, e.1⟩), h c' k' q]
theorem FrK.tr {M1 M2 : Mem} (h : FrK B M M1) (h2 : FrK B M1 M2) : FrK B M M2 := fun c k q => (h2 c k q).trans (h c k q)
theorem FrK.k {M1 : Mem} (h : FrK B M M1) {c : Nat} {k : Int} (hk : ¬ k = 15) : M1 c k = M c k := h c k fun e => hk e.1
theorem FrK.b {M1 : Mem} (h : FrK B M M1) : FrB B M M1 := fun c k q => h c k fun e => by
  obtain ⟨_, t, a, b, e⟩ := e
  exact q (by rw [e]; exact ck_in a b)
theorem s_45 {i : Int} (hB : isRb B) (h0 : 0 ≤ i) (h1 : i < 8) (hw : inB (M (ckA B i) 13)) (hs : tb (M (ckA B i) 13) i = false)
    (hQ : ∀ M' r, (r = 0 ∨ r = 1) → FrK B M M' → (r = 0 → M' = M) → (∀ t, 0 ≤ t → t < 8 → M' (ckA B t) 15 = if tb (M (ckA B i) 13) t = true then min (M (ckA B t) 15) (M (ckA B i) 15) else M (ckA B t) 15) → Q (some (vI r)) M') : Mq sx L K0 R0 45 [vR (B + 2), vR (ckA B i + 2)] M Q := by
  have hc := isCk_A hB h0 h1
  refine m_45 (b_45_0 hB hc (lpM (N := 8) (I := fun k M' => FrK B M M' ∧ ∀ t, 0 ≤ t → t < 8 → M' (ckA B t) 15 = if t < k ∧ tb (M (ckA B i) 13) t = true then min (M (ckA B t) 15) (M (ckA B i) 15) else M (ckA B t) 15) (G := fun k M' => ∀ r, (r = 0 ∨ r = 1) → (r = 0 → M' = M) → Rn sx L K0 R0 45 1 [vR (B + 2), vR (ckA B i + 2), vI r, vI k] [] M' Q) (fun k M' k0 k1 hI ih => ?_) (fun M' hI r hr hz => bx_45_1 hB hc (by omega) (b_45_3 hB hc ⟨hr, hQ M' r hr hI.1 hz fun t a b => ?_⟩)) 0 M (by omega) (by omega) ⟨FrK.rfl', fun t a b => by rw [if_neg (by omega)]⟩ 0 (Or.inl rfl) (fun _ => rfl)))
  · obtain ⟨i1, i2⟩ := hI
    intro r hr hz
    have e13 : M' (ckA B i) 13 = M (ckA B i) 13 := i1.k (by omega)
    have e15 : M' (ckA B i) 15 = M (ckA B i) 15 := by
      rw [i2 i h0 h1]
      by_cases q : i < k
      · rw [if_neg (fun w => by rw [hs] at w; exact absurd w.2 (by decide))]
      · rw [if_neg (fun w => q w.1)]
    have ek : M' (ckA B k) 15 = M (ckA B k) 15 := by rw [i2 k k0 k1, if_neg (by omega)]
    have nxt : ∀ (M2 : Mem) r, (r = 0 ∨ r = 1) → (r = 0 → M2 = M) → FrK B M M2 → (∀ t, 0 ≤ t → t < 8 → ¬ t = k → M2 (ckA B t) 15 = M' (ckA B t) 15) → (M2 (ckA B k) 15 = if tb (M (ckA B i) 13) k = true then min (M (ckA B k) 15) (M (ckA B i) 15) else M (ckA B k) 15) → Rn sx L K0 R0 45 2 [vR (B + 2), vR (ckA B i + 2), vI r, vI k] [] M2 Q := by
      intro M2 r hr hz f g1 g2
      refine b_45_2 hB hc ⟨⟨by omega, by omega⟩, ih M2 ⟨f, fun t a b => ?_⟩ r hr hz⟩
      by_cases e : t = k
      · rw [e, g2]
        by_cases z : tb (M (ckA B i) 13) k = true
        · rw [if_pos z, if_pos ⟨by omega, z⟩]
        · rw [if_neg z, if_neg (fun w => z w.2)]
      · rw [g1 t a b e, i2 t a b]
        by_cases z : t < k
        · by_cases y : tb (M (ckA B i) 13) t = true
          · rw [if_pos ⟨z, y⟩, if_pos ⟨by omega, y⟩]
          · rw [if_neg (fun w => y w.2), if_neg (fun w => y w.2)]
        · rw [if_neg (fun w => z w.1), if_neg (by omega)]
    refine b_45_1 hB hc ⟨k0, k1⟩ ⟨fun q => absurd q (by omega), fun _ => ?_⟩
    rw [e13, ek, e15]
    refine ⟨⟨hw.1, by omega⟩, fun q => nxt M' r hr hz i1 (fun _ _ _ _ => rfl) ?_, fun q => ⟨fun q2 => nxt M' r hr hz i1 (fun _ _ _ _ => rfl) ?_, fun q2 => nxt _ 1 (Or.inr rfl) (fun w => by omega) (i1.set k0 k1) (fun t a b e => ms_c (ck_inj a k0 e)) ?_⟩⟩
    · rw [bt_ne hw] at q
      rw [ek, q]
      rfl
    · rw [ek]
      split <;> omega
    · rw [bt_ne hw] at q
      rw [ms_eq, if_pos (by simpa using q)]
      omega
  · rw [hI.2 t a b]
    by_cases y : tb (M (ckA B i) 13) t = true
    · rw [if_pos ⟨b, y⟩, if_pos y]
    · rw [if_neg (fun w => y w.2), if_neg y]
/-- who waits for whom, in the class -/
def wC (M : Mem) (B : Nat) : Int → Int := fun t => if tb (M B 13) t = true then M (ckA B t) 13 else 0
theorem s_44 (hB : isRb B) (hb : inB (M B 13)) (hw : ∀ t, 0 ≤ t → t < 8 → tb (M B 13) t = true → inB (M (ckA B t) 13) ∧ tb (M (ckA B t) 13) t = false)
    (hQ1 : (M B 8 = 0 ∨ M B 7 = 2) → Q none M) (hQ2 : ¬ (M B 8 = 0 ∨ M B 7 = 2) → ∀ M', FrK B M M' → IsF (fun t => M (ckA B t) 15) (wC M B) (fun t => M' (ckA B t) 15) → Q none M') : Mq sx L K0 R0 44 [vR (B + 2)] M Q := by
  refine m_44 (b_44_0 hB ⟨fun q => b_44_1 hB (hQ1 (Or.inl q)), fun q => ⟨fun q2 => b_44_2 hB ?_, fun q2 => b_44_1 hB (hQ1 (Or.inr (by omega)))⟩⟩)
  have hQ := hQ2 (by omega)
  clear hQ1 hQ2
  obtain ⟨F, hF⟩ := exF' (fun t => M (ckA B t) 15) (wC M B)
  refine lpM (N := 8) (I := fun r M' => FrK B M M' ∧ PreF (fun t => M (ckA B t) 15) (wC M B) (fun t => M' (ckA B t) 15)) (G := fun r M' => ∀ m u3, cat2 u3 = false → (m = 0 → clF (wC M B) (fun t => M' (ckA B t) 15)) → (¬ m = 0 → r ≤ finN F (fun t => M' (ckA B t) 15)) → Rn sx L K0 R0 44 3 [vR (B + 2), vI m, vI r, u3] [] M' Q) (fun r M' r0 r1 hI ih => ?_) (fun M' hI => ?_) 0 M (by omega) (by omega) ⟨FrK.rfl', fun _ _ _ => Int.le_refl _, fun g g1 _ => g1⟩ 1 vU rfl (fun q => absurd q (by omega)) (fun _ => finN_le.1)
  · obtain ⟨i1, i2⟩ := hI
    intro m u3 h3 hz hn
    refine b_44_3 hB h3 ⟨fun q => absurd q (by omega), fun _ => ⟨fun q => b_44_7 hB h3 (hQ M' i1 ⟨i2.1, hz q, i2.2⟩), fun q => ?_⟩⟩
    have hn := hn q
    -- one round
    refine lpM (N := 8) (I := fun n M2 => FrK B M M2 ∧ ∀ t, 0 ≤ t → t < 8 → M2 (ckA B t) 15 = ldR (wC M B) (fun t => M' (ckA B t) 15) n.toNat t) (G := fun n M2 => ∀ m, (m = 0 ∨ m = 1) → (m = 0 → ∀ t, 0 ≤ t → t < 8 → M2 (ckA B t) 15 = M' (ckA B t) 15) → Rn sx L K0 R0 44 4 [vR (B + 2), vI m, vI r, vI n] [] M2 Q) (fun n M2 n0 n1 hJ ih2 => ?_) (fun M2 hJ m hm hm0 => ?_) 0 M' (by omega) (by omega) ⟨i1, fun t a b => rfl⟩ 0 (Or.inl rfl) (fun _ _ _ _ => rfl)
    · obtain ⟨j1, j2⟩ := hJ
      intro m hm hm0
      have es : ldR (wC M B) (fun t => M' (ckA B t) 15) (n + 1).toNat = ldS (wC M B) (ldR (wC M B) (fun t => M' (ckA B t) 15) n.toNat) n := by
        rw [show (n + 1).toNat = n.toNat + 1 by omega]
        simp only [ldR, Int.toNat_of_nonneg n0]
      rw [es] at ih2
      generalize ldR (wC M B) (fun t => M' (ckA B t) 15) n.toNat = K at j2 ih2
      have e13 : M2 B 13 = M B 13 := j1.k (by omega)
      have c13 : ∀ t, M2 (ckA B t) 13 = M (ckA B t) 13 := fun t => j1.k (by omega)
      refine b_44_4 hB ⟨n0, n1⟩ ⟨fun q => absurd q (by omega), fun _ => ?_⟩
      rw [e13]
      refine ⟨⟨hb.1, by omega⟩, fun q => ?_, fun q => ?_⟩
      · rw [bt_ne hb] at q
        refine b_44_5 hB ⟨⟨by omega, by omega⟩, ih2 M2 ⟨j1, fun t a b => ?_⟩ m hm hm0⟩
        rw [j2 t a b]
        have w0 : wC M B n = 0 := by unfold wC; rw [if_neg (by rw [q]; decide)]
        unfold ldS
        rw [if_neg (by rw [w0, tb_zero]; decide)]
      · rw [bt_ne hb] at q
        have q' : tb (M B 13) n = true := by simpa using q
        have hwn := hw n n0 n1 q'
        refine s_45 hB n0 n1 (by rw [c13]; exact hwn.1) (by rw [c13]; exact hwn.2) fun M3 r' hr' f1 f2 f3 => ⟨_, rfl, ?_⟩
        have up : ∀ t, 0 ≤ t → t < 8 → M3 (ckA B t) 15 = ldS (wC M B) K n t := by
          intro t a b
          rw [f3 t a b, c13, j2 t a b, j2 n n0 n1]
          unfold ldS wC
          rw [if_pos q']
        refine ⟨fun z => b_44_5 hB ⟨⟨by omega, by omega⟩, ih2 M3 ⟨j1.tr f1, up⟩ m hm fun w => ?_⟩, fun z => b_44_5 hB ⟨⟨by omega, by omega⟩, ih2 M3 ⟨j1.tr f1, up⟩ 1 (Or.inr rfl) (fun w => by omega)⟩⟩
        rw [f2 z]
        exact hm0 w
    · obtain ⟨j1, j2⟩ := hJ
      rw [show (8 : Int).toNat = 8 from rfl] at j2
      have P2 := i2.rnd 8 (by omega)
      have cong : PreF (fun t => M (ckA B t) 15) (wC M B) (fun t => M2 (ckA B t) 15) := by
        refine ⟨fun t a b => ?_, fun g g1 g2 t a b => ?_⟩
        · dsimp only
          rw [j2 t a b]
          exact P2.1 t a b
        · dsimp only
          rw [j2 t a b]
          exact P2.2 g g1 g2 t a b
      refine bx_44_4 hB (by omega) (b_44_6 hB ⟨⟨by omega, by omega⟩, ih M2 ⟨j1, cong⟩ m _ rfl (fun w => ?_) (fun w => ?_)⟩)
      · have cl : clF (wC M B) (fun t => M' (ckA B t) 15) := clF.of_fix fun t a b => by rw [← j2 t a b]; exact hm0 w t a b
        intro t o a b c d e
        dsimp only
        rw [hm0 w t a b, hm0 w o c d]
        exact cl t o a b c d e
      · have e : finN F (fun t => M2 (ckA B t) 15) = finN F (ldR (wC M B) (fun t => M' (ckA B t) 15) 8) := by
          unfold finN
          refine sumI_congr fun t a b => ?_
          exact ifc (j2 t a (by omega))
        rw [e]
        rcases finN_up hF i2 with q2 | q2 <;> omega
  · intro m u3 h3 hz hn
    refine b_44_3 hB h3 ⟨fun _ => b_44_7 hB h3 (hQ M' hI.1 ?_), fun q => absurd (by omega) q⟩
    by_cases q : m = 0
    · exact ⟨hI.2.1, hz q, hI.2.2⟩
    · exact hF.cong (finN_8 (hn q))
end

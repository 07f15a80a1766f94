/-! the fewest changes: the reference -/
section
variable {sx : Int → Int} {L : Nat} {M N : Mem} {Q : Option AV → Mem → Prop} {SR : (Mem → Prop) × (Mem → Prop)} {a b k X : Int} {f : Int → Int}
def fR (N : Mem) : Int → Int := fun i => if i = 0 then N 104 54 else if i = 1 then N 104 55 else if i = 2 then N 104 56 else if i = 3 then N 104 57 else N 104 58
theorem fR0 : fR N 0 = N 104 54 := by unfold fR; rw [if_pos rfl]
theorem fR1 : fR N 1 = N 104 55 := by unfold fR; rw [if_neg (by omega), if_pos rfl]
theorem fR2 : fR N 2 = N 104 56 := by unfold fR; rw [if_neg (by omega), if_neg (by omega), if_pos rfl]
theorem fR3 : fR N 3 = N 104 57 := by unfold fR; rw [if_neg (by omega), if_neg (by omega), if_neg (by omega), if_pos rfl]
theorem fR4 : fR N 4 = N 104 58 := by unfold fR; rw [if_neg (by omega), if_neg (by omega), if_neg (by omega), if_neg (by omega)]
theorem fR_e {N' : Mem} (h : ∀ k, 52 ≤ k → N' 104 k = N 104 k) : fR N' = fR N := by
  funext i
  unfold fR
  rw [h 54 (by omega), h 55 (by omega), h 56 (by omega), h 57 (by omega), h 58 (by omega)]
theorem s_210 {ru le : Int} (hs : SROK SR) (hb : BASE M) (h : INV0 SR N) (bf : BFr M N) (r0 : 0 ≤ ru) (r2 : ru ≤ 2) (l0 : 0 ≤ le) (l2 : le ≤ 2) (ab : abT a b) (hQ : ∀ r N', (wlM M ru le a b ∧ r = 1 ∨ ¬ wlM M ru le a b ∧ r = 0) → INVM SR N' → BFr M N' → (∀ k, 52 ≤ k → N' 104 k = N 104 k) → Q (some (vI r)) N') : Mq sx L K0 R0 210 [vR 106, vI ru, vI le, vI a, vI b] N Q := by
  have ok := OKM (a := a) (b := b) hb r0 r2 l0 l2 ab
  refine m_210 (b_210_0 (s_159G hs h bf fun N2 as2 i2 f2 => ⟨rfl, ?_⟩))
  have go : ∀ N3 u5, cat2 u5 = false → AsG M N3 (areB M) ru le (rkM M a b) (fun _ => 0) → FxR N2 N3 → (∀ k, 52 ≤ k → N3 104 k = N2 104 k) → Rn sx L K0 R0 210 1 [vR 106, vI ru, vI le, vI a, vI b, u5] [] N3 Q := by
    intro N3 u5 h5 as3 fx k52
    refine b_210_1 h5 (s_201G hs hb ok as3 (i2.fx hs fx) fun r N5 r0 rl res as5 i5 e26 fx5 _ k5 => ⟨_, rfl, ?_⟩)
    have kk : ∀ k, 52 ≤ k → N5 104 k = N 104 k := fun k q => by rw [k5 k q, k52 k q, f2 _ _ (by omega) (by omega)]
    have iv : INVM SR N5 := ⟨i5, Or.inl e26⟩
    refine ⟨fun q => b_210_2 h5 (b_210_3 h5 ⟨Or.inl rfl, hQ 0 N5 (Or.inr ⟨fun w => w.1 (rl.mp (by omega)), rfl⟩) iv as5.1 kk⟩), fun q => ⟨fun q2 => b_210_2 h5 (b_210_3 h5 ⟨Or.inl rfl, hQ 0 N5 (Or.inr ⟨fun w => q2 (by rw [res.1]; exact w.2), rfl⟩) iv as5.1 kk⟩), fun q2 => b_210_3 h5 ⟨Or.inr rfl, hQ 1 N5 (Or.inl ⟨⟨fun w => by have := rl.mpr w; omega, ?_⟩, rfl⟩) iv as5.1 kk⟩⟩⟩
    rw [← res.1]; exact Decidable.not_not.mp q2
  have F : ∀ c j, ¬ (c = 104 ∧ (j = 33 ∨ j = 34)) → mset (mset N2 104 33 ru) 104 34 le c j = N2 c j := fun c j q => by rw [ms_ne (by omega), ms_ne (by omega)]
  obtain ⟨b1, b2, b3, b4, b5, b6, b7, b8⟩ := id as2
  refine ⟨fun q => go _ _ rfl (as2.up ((FxR.rfl'.set (by omega)).set (by omega)) (F _ _ (by omega)) (by rw [F _ _ (by omega)]; exact b4) (by rw [ms_k (by omega), ms_eq]) ms_eq fun t x y => ?_) ((FxR.rfl'.set (by omega)).set (by omega)) fun k q => F _ _ (by omega), fun q => ?_⟩
  · rw [F _ _ (by omega), F _ _ (by omega)]
    rcases ab with ⟨rfl, rfl⟩ | w
    · show N2 121 t = swF (fun t => M 111 t) (-1) (-1) t ∧ N2 122 t = 0
      rw [swF_n x]; exact b5 t x y
    · omega
  · have w : 0 ≤ a ∧ a < 8 ∧ 0 ≤ b ∧ b < 8 := by
      rcases ab with w | w
      · exact absurd w.1 q
      · exact w
    refine ⟨⟨by omega, by omega⟩, ⟨by omega, by omega⟩, ⟨by omega, by omega⟩, ⟨by omega, by omega⟩, ?_⟩
    rw [F 121 a (by omega), F 121 b (by omega)]
    have F2 : ∀ c j, ¬ (c = 104 ∧ (j = 33 ∨ j = 34)) → ¬ c = 121 → mset (mset (mset (mset N2 104 33 ru) 104 34 le) 121 a (N2 121 b)) 121 b (N2 121 a) c j = N2 c j := fun c j q p => by rw [ms_c p, ms_c p, F c j q]
    have fx : FxR N2 (mset (mset (mset (mset N2 104 33 ru) 104 34 le) 121 a (N2 121 b)) 121 b (N2 121 a)) := (((FxR.rfl'.set (by omega)).set (by omega)).set (by omega)).set (by omega)
    refine go _ _ rfl (as2.up fx (F2 _ _ (by omega) (by omega)) (by rw [F2 _ _ (by omega) (by omega)]; exact b4) (by rw [ms_c (by omega), ms_c (by omega), ms_k (by omega), ms_eq]) (by rw [ms_c (by omega), ms_c (by omega), ms_eq]) fun t x y => ⟨?_, ?_⟩) fx fun k q => F2 _ _ (by omega) (by omega)
    · have ea := (b5 a w.1 w.2.1).1
      have eb := (b5 b w.2.2.1 w.2.2.2).1
      have et := (b5 t x y).1
      show _ = (if t = a then M 111 b else if t = b then M 111 a else M 111 t)
      by_cases e2 : t = b
      · rw [e2, ms_eq, ea]
        by_cases e : b = a
        · rw [if_pos e, e]
        · rw [if_neg e, if_pos rfl]
      · rw [ms_k e2]
        by_cases e : t = a
        · rw [e, ms_eq, if_pos rfl, eb]
        · rw [ms_k e, if_neg e, if_neg e2, F _ _ (by omega)]; exact et
    · rw [F2 _ _ (by omega) (by omega)]; exact (b5 t x y).2
theorem INVM.md {N' : Mem} (hs : SROK SR) (h : INVM SR N) (f : ∀ c k, ¬ (c = 104 ∧ 54 ≤ k ∧ k ≤ 58) → N' c k = N c k) : INVM SR N' := by
  have fx : FxR N N' := fun c k a b => f c k (by omega)
  exact ⟨h.1.fx hs fx, h.2.fr fx.bf fun c k q => f c k (by unfold isS at q; omega)⟩
theorem s_211 {m ru le : Int} (hs : SROK SR) (hb : BASE M) (h : INVM SR N) (bf : BFr M N) (rs : RsX M X (fR N)) (X0 : 0 ≤ X) (X1 : X < 585) (vd : vdM M (X / 65) (X % 65)) (em : m = ctX M X) (er : ru = X / 65 / 3) (el : le = X / 65 % 3) (ea : a = pA (X % 65)) (eb : b = pB (X % 65)) (hQ : ∀ N', INVM SR N' → BFr M N' → RsX M (X + 1) (fR N') → Q none N') : Mq sx L K0 R0 211 [vR 106, vI m, vI ru, vI le, vI a, vI b] N Q := by
  have ab : abT a b := by rw [ea, eb]; exact p_ab (by omega) (by omega)
  have gq : gdX M X ↔ wlM M ru le a b := by
    unfold gdX
    rw [← er, ← el, ← ea, ← eb]
    exact ⟨fun z => z.2, fun z => ⟨vd, z⟩⟩
  have c0 := ctX_0 (M := M) (x := X)
  have one : (fR N 0 = -1 ∨ ctX M X < fR N 0) → Rn sx L K0 R0 211 1 [vR 106, vI m, vI ru, vI le, vI a, vI b] [] N Q := by
    intro hf
    refine b_211_1 (s_210 hs hb h.1 bf (by omega) (by omega) (by omega) (by omega) ab fun r N2 hr i2 b2 k2 => ⟨r, rfl, fun q => b_211_2 (hQ N2 i2 b2 ?_), fun q => b_211_2 (hQ _ (i2.md hs (N' := mset (mset (mset (mset (mset N2 104 54 m) 104 55 ru) 104 56 le) 104 57 a) 104 58 b) fun c k p => ?_) (b2.tr fun c k p => ?_) ?_)⟩)
    · rw [fR_e k2]
      refine RsX_n rs fun w => ?_
      rcases hr with z | z
      · omega
      · exact absurd (gq.mp w) z.1
    · rw [ms_ne (by omega), ms_ne (by omega), ms_ne (by omega), ms_ne (by omega), ms_ne (by omega)]
    · rw [ms_ne (by unfold baseC at p; omega), ms_ne (by unfold baseC at p; omega), ms_ne (by unfold baseC at p; omega), ms_ne (by unfold baseC at p; omega), ms_ne (by unfold baseC at p; omega)]
    · have w : wlM M ru le a b := by
        rcases hr with z | z
        · exact z.1
        · exact absurd z.2 q
      refine RsX_y rs X0 (gq.mpr w) hf ?_ ?_ ?_ ?_ ?_
      · rw [fR0, ms_k (by omega), ms_k (by omega), ms_k (by omega), ms_k (by omega), ms_eq]; exact em
      · rw [fR1, ms_k (by omega), ms_k (by omega), ms_k (by omega), ms_eq]; exact er
      · rw [fR2, ms_k (by omega), ms_k (by omega), ms_eq]; exact el
      · rw [fR3, ms_k (by omega), ms_eq]; exact ea
      · rw [fR4, ms_eq]; exact eb
  have e0 : fR N 0 = N 104 54 := fR0
  exact m_211 (b_211_0 ⟨fun q => one (Or.inl (by omega)), fun q => ⟨fun q2 => b_211_2 (hQ N h bf (RsX_n rs fun _ => ⟨by omega, by omega⟩)), fun q2 => one (Or.inr (by omega))⟩⟩)
theorem RsX_k (h : RsX M X f) : ∀ d : Nat, (∀ x, X ≤ x → x < X + d → ¬ gdX M x) → RsX M (X + d) f := by
  intro d
  induction d with
  | zero => intro _; rw [show X + ((0 : Nat) : Int) = X by omega]; exact h
  | succ d ih =>
    intro q
    rw [show X + ((d + 1 : Nat) : Int) = X + d + 1 by omega]
    exact RsX_n (ih fun x a b => q x a (by omega)) fun w => absurd w (q _ (by omega) (by omega))
theorem RsX_t {X' : Int} (h : RsX M X f) (hX : X ≤ X') (q : ∀ x, X ≤ x → x < X' → ¬ gdX M x) : RsX M X' f := by
  have := RsX_k h (X' - X).toNat fun x a b => q x a (by omega)
  rw [show X + ((X' - X).toNat : Int) = X' by omega] at this
  exact this
theorem and2 {x : Int} (hx : inB x) : iAnd (iAnd (x / 2 ^ a.toNat) (x / 2 ^ b.toNat)) 1 = 1 ↔ tb x a = true ∧ tb x b = true := by
  have p := bt_shr (b := x) (i := a) hx
  have q := bt_shr (b := x) (i := b) hx
  have e0 : ∀ y : Int, inB y → iAnd y 1 = if tb y 0 = true then 1 else 0 := fun y hy => by
    have := bt_eq (b := y) (i := 0) hy
    rw [show y / 2 ^ (0 : Int).toNat = y by simp] at this
    exact this
  have ea := e0 _ p
  have eb := e0 _ q
  rw [bt_eq hx] at ea eb
  rw [e0 _ (and_B p q), tb_and p q]
  cases h1 : tb x a <;> cases h2 : tb x b <;> rw [h1] at ea <;> rw [h2] at eb <;> cases h3 : tb (x / 2 ^ a.toNat) 0 <;> cases h4 : tb (x / 2 ^ b.toNat) 0 <;> rw [h3] at ea <;> rw [h4] at eb <;> simp at ea eb <;> simp
theorem s_212 (hs : SROK SR) (h : INVM SR M) (hQ : ∀ N, INVM SR N → BFr M N → RsX M 585 (fR N) → Q none N) : Mq sx L K0 R0 212 [vR 106] M Q := by
  have hb := h.1.1
  have aB := areB_B (M := M)
  refine m_212 (b_212_0 (s_154 (I := INVM SR) (fun M h => h.1.1) (fun Q hQ => s_150i hs h hQ) fun M1 h1 e1 r1 f1 => ⟨_, rfl, ?_⟩))
  have i0 : INVM SR (mset M1 104 54 (-1)) := h1.md hs fun c k q => ms_ne (by omega)
  have b0 : BFr M (mset M1 104 54 (-1)) := f1.bf.tr fun c k q => ms_ne (by unfold baseC at q; omega)
  suffices H : ∀ u3 u4 u5, cat2 u3 = false → cat2 u4 = false → cat2 u5 = false → Rn sx L K0 R0 212 1 [vR 106, vI (areB M), vI 0, u3, u4, u5] [] (mset M1 104 54 (-1)) Q from H vU vU vU rfl rfl rfl
  refine lpM (N := 9) (I := fun k N => INVM SR N ∧ BFr M N ∧ RsX M (65 * k) (fR N)) (G := fun k N => ∀ u3 u4 u5, cat2 u3 = false → cat2 u4 = false → cat2 u5 = false → Rn sx L K0 R0 212 1 [vR 106, vI (areB M), vI k, u3, u4, u5] [] N Q) (fun k N k0 k1 hI ihk => ?_) (fun N hI u3 u4 u5 h3 h4 h5 => b_212_1 h3 h4 h5 ⟨fun _ => b_212_11 h3 h4 h5 (hQ N hI.1 hI.2.1 (by have := hI.2.2; rw [show (65 : Int) * 9 = 585 from rfl] at this; exact this)), fun q => absurd (Int.le_refl _) q⟩) 0 _ (by omega) (by omega) ⟨i0, b0, Or.inl ⟨by rw [fR0]; exact ms_eq, fun x a b => by omega⟩⟩
  obtain ⟨i1, b1, rs⟩ := hI
  intro u3 u4 u5 h3 h4 h5
  have ch := chM_B (M := M) (k := k)
  have e22 : N 104 22 = M 104 22 := b1.m (by omega)
  have e23 : N 104 23 = M 104 23 := b1.m (by omega)
  have kd : (65 * k) / 65 = k := by omega
  have km : (65 * k) % 65 = 0 := by omega
  have ct0 : ctX M (65 * k) = chM M k := by
    unfold ctX ctM
    rw [kd, km, if_pos rfl, Int.add_zero]
  have ctp : ∀ x, 65 * k + 1 ≤ x → x < 65 * k + 65 → ctX M x = chM M k + 1 := fun x x0 x1 => by
    unfold ctX ctM
    rw [show x / 65 = k by omega, if_neg (by omega)]
  have five : ∀ y0 y1, y0 + y1 = chM M k → Rn sx L K0 R0 212 5 [vR 106, vI (areB M), vI k, u3, u4, u5] [vI y1, vI y0] N Q := by
    intro y0 y1 ey
    refine b_212_5 h3 h4 h5 ⟨⟨by omega, by omega⟩, ⟨k0, by omega⟩, ⟨k0, by omega⟩, ?_⟩
    rw [ey]
    refine s_211 hs hb i1 b1 rs (by omega) (by omega) (by rw [km]; exact Or.inl rfl) ct0.symm (by rw [kd]) (by rw [kd]) (by rw [km]; rfl) (by rw [km]; rfl) fun N2 i2 b2 r2 => ⟨rfl, ?_⟩
    -- the first of two
    have z0 : 65 * k + 1 + 8 * 0 = 65 * k + 1 := by omega
    refine lpM (N := 8) (I := fun a N => INVM SR N ∧ BFr M N ∧ RsX M (65 * k + 1 + 8 * a) (fR N)) (G := fun a N => ∀ v5, cat2 v5 = false → Rn sx L K0 R0 212 6 [vR 106, vI (areB M), vI k, vI (chM M k), vI a, v5] [] N Q) (fun a N a0 a1 hJ iha => ?_) (fun N hJ v5 h5 => b_212_6 h5 ⟨fun _ => b_212_10 h5 ⟨⟨by omega, by omega⟩, ihk N ⟨hJ.1, hJ.2.1, by rw [show 65 * (k + 1) = 65 * k + 1 + 8 * 8 by omega]; exact hJ.2.2⟩ _ _ _ rfl rfl h5⟩, fun q => absurd (Int.le_refl _) q⟩) 0 N2 (by omega) (by omega) ⟨i2, b2, by rw [z0]; exact r2⟩ u5 h5
    obtain ⟨j1, j2, j3⟩ := hJ
    intro v5 h5
    refine b_212_6 h5 ⟨fun q => absurd q (by omega), fun _ => ⟨fun q => b_212_10 h5 ⟨⟨by omega, by omega⟩, ihk N ⟨j1, j2, RsX_t j3 (by omega) fun x x0 x1 w => ?_⟩ _ _ _ rfl rfl h5⟩, fun q => ⟨⟨by omega, by omega⟩, ?_⟩⟩⟩
    · have w := w.1
      unfold vdM at w
      rw [show x / 65 = k by omega] at w
      rcases w with w | w
      · omega
      · have := w.2.2.2; omega
    · -- the second of two
      have nv : ∀ x, 65 * k + 1 + 8 * a ≤ x → x < 65 * k + 1 + 8 * a + 8 → pA (x % 65) = a ∧ pB (x % 65) = x - (65 * k + 1 + 8 * a) ∧ x / 65 = k := fun x x0 x1 => by
        have e : x % 65 = x - 65 * k := by omega
        unfold pA pB
        rw [if_neg (by omega), if_neg (by omega)]
        omega
      have st : RsX M (65 * k + 1 + 8 * a + (a + 1)) (fR N) := RsX_t j3 (by omega) fun x x0 x1 w => by
        obtain ⟨n1, n2, n3⟩ := nv x x0 (by omega)
        have w := w.1
        unfold vdM at w
        rw [n1, n2, n3] at w
        rcases w with w | w
        · omega
        · have := w.1; omega
      refine lpM (N := 8) (I := fun b N => INVM SR N ∧ BFr M N ∧ (a < b → RsX M (65 * k + 1 + 8 * a + b) (fR N))) (G := fun b N => a < b → Rn sx L K0 R0 212 7 [vR 106, vI (areB M), vI k, vI (chM M k), vI a, vI b] [] N Q) (fun b N b0 b1 hK ihb => ?_) (fun N hK hab => b_212_7 ⟨fun _ => b_212_9 ⟨⟨by omega, by omega⟩, iha N ⟨hK.1, hK.2.1, by rw [show 65 * k + 1 + 8 * (a + 1) = 65 * k + 1 + 8 * a + 8 by omega]; exact hK.2.2 hab⟩ _ rfl⟩, fun q => absurd (Int.le_refl _) q⟩) (a + 1) N (by omega) (by omega) ⟨j1, j2, fun _ => st⟩ (by omega)
      intro hab
      obtain ⟨k1', k2, k3⟩ := hK
      have k3 := k3 hab
      obtain ⟨n1, n2, n3⟩ := nv (65 * k + 1 + 8 * a + b) (by omega) (by omega)
      have n2 : pB ((65 * k + 1 + 8 * a + b) % 65) = b := by rw [n2]; omega
      have ctq := ctp (65 * k + 1 + 8 * a + b) (by omega) (by omega)
      have a2 := and2 (a := a) (b := b) aB
      have nx : 65 * k + 1 + 8 * a + (b + 1) = 65 * k + 1 + 8 * a + b + 1 := by omega
      refine b_212_7 ⟨fun q => absurd q (by omega), fun _ => ⟨⟨aB.1, a0, by omega⟩, ⟨aB.1, b0, by omega⟩, fun q => b_212_8 ⟨⟨by omega, by omega⟩, ihb N ⟨k1', k2, fun _ => ?_⟩ (by omega)⟩, fun q => ⟨⟨by omega, by omega⟩, ⟨k0, by omega⟩, ⟨k0, by omega⟩, s_211 hs hb k1' k2 k3 (by omega) (by omega) ?_ (by omega) (by rw [n3]) (by rw [n3]) n1.symm n2.symm fun N5 i5 b5 r5 => ⟨rfl, b_212_8 ⟨⟨by omega, by omega⟩, ihb N5 ⟨i5, b5, fun _ => by rw [nx]; exact r5⟩ (by omega)⟩⟩⟩⟩⟩
      · rw [nx]
        refine RsX_n k3 fun w => absurd w fun w => q (a2.mpr ?_)
        have w := w.1
        unfold vdM at w
        rw [n1, n2] at w
        rcases w with w | w
        · omega
        · exact ⟨w.2.1, w.2.2.1⟩
      · have w := a2.mp (Decidable.not_not.mp q)
        unfold vdM
        rw [n1, n2, n3]
        exact Or.inr ⟨hab, w.1, w.2, by omega⟩
  have three : ∀ y0, y0 = (if k / 3 = M 104 22 then 0 else 1) → Rn sx L K0 R0 212 3 [vR 106, vI (areB M), vI k, u3, u4, u5] [vI y0] N Q := by
    intro y0 ey
    refine b_212_3 h3 h4 h5 ⟨⟨k0, by omega⟩, ?_⟩
    rw [e23]
    refine ⟨fun q => b_212_4 h3 h4 h5 (five _ _ ?_), fun q => five _ _ ?_⟩
    · unfold chM; rw [if_neg q, ey]
    · unfold chM; rw [if_pos (Decidable.not_not.mp q), ey]
  refine b_212_1 h3 h4 h5 ⟨fun q => absurd q (by omega), fun _ => ⟨⟨k0, by omega⟩, ?_⟩⟩
  rw [e22]
  exact ⟨fun q => b_212_2 h3 h4 h5 (three 1 (by rw [if_neg q])), fun q => three 0 (by rw [if_pos (Decidable.not_not.mp q)])⟩
theorem s_213 {w : Int} (hs : SROK SR) (h : INVM SR M) (w0 : 0 ≤ w) (w4 : w ≤ 4) (rc : RsX M 585 (fun i => M 103 i)) (hQ : ∀ N, INVM SR N → Q (some (vI (if 0 < w ∧ M 103 0 = -1 then -3 else M 103 w))) N) : Mq sx L K0 R0 213 [vR 106, vI w] M Q := by
  refine m_213 (b_213_0 (s_137 fun r hr => ⟨r, rfl, fun _ => b_213_1 (s_212 hs h fun N i1 b1 rs => ⟨rfl, ?_⟩), fun q => absurd (by omega) q⟩))
  have hq := hQ N i1
  obtain ⟨u0, u1⟩ := RsX_u rc rs
  rw [fR0] at u0
  rw [fR1, fR2, fR3, fR4] at u1
  have u0 : M 103 0 = N 104 54 := u0
  have u1 : ¬ M 103 0 = -1 → M 103 1 = N 104 55 ∧ M 103 2 = N 104 56 ∧ M 103 3 = N 104 57 ∧ M 103 4 = N 104 58 := u1
  refine ⟨fun q => b_213_2 ⟨fun q2 => ?_, fun q2 => b_213_7 ?_⟩, fun q => ?_⟩
  · have v := u1 (by omega)
    rw [if_neg (by omega)] at hq
    refine b_213_3 ⟨fun p1 => b_213_4 ⟨fun p2 => b_213_5 ⟨fun p3 => b_213_6 (b_213_7 ?_), fun p3 => b_213_7 ?_⟩, fun p2 => b_213_7 ?_⟩, fun p1 => b_213_7 ?_⟩
    · rw [show w = 4 by omega] at hq; rw [← v.2.2.2]; exact hq
    · rw [Decidable.not_not.mp p3] at hq; rw [← v.2.2.1]; exact hq
    · rw [Decidable.not_not.mp p2] at hq; rw [← v.2.1]; exact hq
    · rw [Decidable.not_not.mp p1] at hq; rw [← v.1]; exact hq
  · rw [if_pos (by omega)] at hq; exact hq
  · have e := Decidable.not_not.mp q
    rw [if_neg (by omega), e] at hq
    rw [← u0]; exact hq
end

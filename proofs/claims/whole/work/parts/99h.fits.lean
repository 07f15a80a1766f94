/-! which rules a log fits -/
section
variable {sx : Int → Int} {L : Nat} {P s M M1 N s0 : Mem} {a τ : Int} {Q : Option AV → Mem → Prop} {SR : (Mem → Prop) × (Mem → Prop)}
theorem tick_135 {k : Int} (hk : k < 3 * τ) : tickF P s τ 135 k = s 135 k := by
  unfold tickF
  rw [wkF_c (by omega)]
  unfold notF
  rw [if_neg (by omega), if_neg (by omega), if_neg (by omega), choF_135 hk 8 0 _ (by omega), comesF_c (by omega)]
theorem rn_pre {n : Nat} {k : Int} (hk : k < 3 * n) : ∀ d : Nat, rnF P s0 (n + d) 135 k = rnF P s0 n 135 k := by
  intro d
  induction d with
  | zero => rfl
  | succ d ih =>
    rw [show n + (d + 1) = (n + d) + 1 by omega]
    simp only [rnF]
    rw [tick_135 (by omega), ih]
noncomputable def RGf (M : Mem) (ru le : Int) : Mem := RG M (areB M) ru le (fun t => M 111 t) (fun _ => 0) (M 104 25)
/-- an item is as it is chosen, or not seen -/
def okZ (M : Mem) (a ru le i : Int) : Prop := -1 ≤ M 142 (60 * a + i) → M 142 (60 * a + i) ≤ 7 → M 142 (60 * a + i) = RGf M ru le 135 (3 * i)
def fiS (M : Mem) (a ru le : Int) : Prop := ∀ i, 0 ≤ i → i < M 141 a → i < M 104 25 → okZ M a ru le i
noncomputable def fiB (M : Mem) (a k : Int) : Bool := @decide (fiS M a (k / 3) (k % 3)) (Classical.propDecidable _)
theorem fiB_t {k : Int} (h : fiS M a (k / 3) (k % 3)) : fiB M a k = true := by unfold fiB; exact @decide_eq_true _ (Classical.propDecidable _) h
theorem fiB_f {k : Int} (h : ¬ fiS M a (k / 3) (k % 3)) : fiB M a k = false := by unfold fiB; exact @decide_eq_false _ (Classical.propDecidable _) h
def okT (M : Mem) (a ru le t is : Int) : Prop := (∀ i, 0 ≤ i → i < t → okZ M a ru le i) ∧ is = 1 ∨ ¬ (∀ i, 0 ≤ i → i < t → okZ M a ru le i) ∧ is = 0
theorem okT_1 {ru le t is : Int} (h : okT M a ru le t is) (q : ¬ is = 0) : ∀ i, 0 ≤ i → i < t → okZ M a ru le i := by
  rcases h with z | z
  · exact z.1
  · exact absurd z.2 q
theorem okT_0 {ru le t is : Int} (h : okT M a ru le t is) (q : is = 0) : ¬ ∀ i, 0 ≤ i → i < t → okZ M a ru le i := by
  rcases h with z | z
  · omega
  · exact z.1
theorem OKF {ru le : Int} (hb : BASE M) (r0 : 0 ≤ ru) (r2 : ru ≤ 2) (l0 : 0 ≤ le) (l2 : le ≤ 2) : OKG M (areB M) ru le (fun t => M 111 t) (fun _ => 0) := by
  obtain ⟨h1, h2, h3, h4, h5, h6, h7⟩ := OKG0 hb
  exact ⟨h1, h2, r0, r2, l0, l2, h7⟩
theorem s_68 {ru le : Int} (hb : BASE M) (sh : SH1 M a) (g : 0 ≤ a ∧ a < 4) (q9 : ¬ M 139 a = 0) (r0 : 0 ≤ ru) (r2 : ru ≤ 2) (l0 : 0 ≤ le) (l2 : le ≤ 2) (f : TrF M M1) (tr : TrG M M1 (areB M) ru le (fun t => M 111 t) (fun _ => 0)) (hQ : ∀ r M2, TrF M M2 → TrG M M2 (areB M) ru le (fun t => M 111 t) (fun _ => 0) → (fiS M a ru le ∧ r = 1 ∨ ¬ fiS M a ru le ∧ r = 0) → Q (some (vI r)) M2) : Mq sx L K0 R0 68 [vR 76, vR (shA a + 2)] M1 Q := by
  have hk := isSh_A g.1 g.2
  have rg := sh_rg g.1 g.2
  obtain ⟨g1, g2, g3, g4, g5, g6, g7, g8, g9, g10, g11, g12, g13⟩ := hb.2.2.2.2.1
  obtain ⟨z1, z2, z3, z4, z5, z6, z7, z8⟩ := sh.on q9
  have ok := OKF (ru := ru) (le := le) hb r0 r2 l0 l2
  refine m_68 (b_68_0 hk ?_)
  have e1 : M1 (shA a) 2 = M 141 a := by rw [f _ _ (by omega)]; exact z7
  have e2 : M1 97 7 = M 104 25 := by rw [tr.2.2.2.2.2.1, g12]
  rw [e1, e2]
  refine s_36G hb tr ok (by omega) (by omega) fun M2 gr f2 tr2 => ⟨rfl, ?_⟩
  have t2 := f.tr f2.trf
  have rf := gr.2.2 (Or.inl rfl)
  have pv := ((PG_ok hb tr2 ok).ok (hb.fr tr2.1)).1
  have p24 : 0 < PG M (areB M) ru le (fun t => M 111 t) (fun _ => 0) 104 24 := by have := pv.2.2.2.2.2.2.2.1; omega
  have sh2 : SH1 M2 a := by
    unfold SH1
    have eS : ∀ k, M2 (shA a) k = M (shA a) k := fun k => t2 _ _ (by omega)
    rw [eS, eS, eS, t2 139 _ (by omega), t2 140 _ (by omega), t2 141 _ (by omega)]
    obtain ⟨y1, y2, y3⟩ := sh
    refine ⟨y1, y2, fun q => ?_⟩
    obtain ⟨w1, w2, w3, w4, w5, w6, w7⟩ := y3 q
    refine ⟨w1, w2, w3, w4, w5, w6, fun i i0 i1 => ?_⟩
    rw [t2 142 _ (by omega), t2 (shA a + 1) _ (by omega)]
    exact w7 i i0 i1
  have pre : ∀ i, 0 ≤ i → i < min (M 141 a) (M 104 25) → RGf M ru le 135 (3 * i) = rnF (PG M (areB M) ru le (fun t => M 111 t) (fun _ => 0)) s00 (min (M 141 a) (M 104 25)).toNat 135 (3 * i) := fun i i0 i1 => by
    have := rn_pre (P := PG M (areB M) ru le (fun t => M 111 t) (fun _ => 0)) (s0 := s00) (n := (min (M 141 a) (M 104 25)).toNat) (k := 3 * i) (by omega) ((M 104 25).toNat - (min (M 141 a) (M 104 25)).toNat)
    rw [show (min (M 141 a) (M 104 25)).toNat + ((M 104 25).toNat - (min (M 141 a) (M 104 25)).toNat) = (M 104 25).toNat by omega] at this
    exact this
  suffices H : (∀ i, 0 ≤ i → i < 0 → okZ M a ru le i) → ∀ u4 u5, cat2 u4 = false → cat2 u5 = false → Rn sx L K0 R0 68 1 [vR 76, vR (shA a + 2), vI (min (M 141 a) (M 104 25)), vI 0, u4, u5] [] M2 Q from H (fun i x y => by omega) vU vU rfl rfl
  refine lpI (N := min (M 141 a) (M 104 25)) (G := fun t => (∀ i, 0 ≤ i → i < t → okZ M a ru le i) → ∀ u4 u5, cat2 u4 = false → cat2 u5 = false → Rn sx L K0 R0 68 1 [vR 76, vR (shA a + 2), vI (min (M 141 a) (M 104 25)), vI t, u4, u5] [] M2 Q) (fun t t0 t1 ih => ?_) (fun hall u4 u5 h4 h5 => b_68_1 hk h4 h5 ⟨fun _ => b_68_6 hk h4 h5 (hQ 1 M2 t2 tr2 (Or.inl ⟨fun i x y z => hall i x (by omega), rfl⟩)), fun q => absurd (Int.le_refl _) q⟩) 0 (by omega) (by omega)
  intro hall u4 u5 h4 h5
  have e141 : M2 141 a = M 141 a := t2 _ _ (by omega)
  have e142 : M2 142 (60 * a + t) = M 142 (60 * a + t) := t2 _ _ (by omega)
  have go : ∀ v5, okZ M a ru le t → Rn sx L K0 R0 68 5 [vR 76, vR (shA a + 2), vI (min (M 141 a) (M 104 25)), vI t, vI (M 142 (60 * a + t)), vI v5] [] M2 Q := fun v5 hk' =>
    b_68_5 hk ⟨⟨by omega, by omega⟩, ih (fun i x y => by
      by_cases e : i = t
      · rw [e]; exact hk'
      · exact hall i x (by omega)) _ _ rfl rfl⟩
  have seen : -1 ≤ M 142 (60 * a + t) → M 142 (60 * a + t) ≤ 7 → ∀ u5, cat2 u5 = false → Rn sx L K0 R0 68 2 [vR 76, vR (shA a + 2), vI (min (M 141 a) (M 104 25)), vI t, vI (M 142 (60 * a + t)), u5] [] M2 Q := by
    intro x0 x1 u5 h5
    refine b_68_2 hk h5 (b_68_4 hk h5 ⟨fun q => absurd q (by omega), fun _ => s_50 (Or.inr rfl) pv rf.2.1 (by omega) rf.2.2.2.2.2 t0 t1 (Int.le_refl 0) p24 ⟨_, rfl, ?_⟩⟩)
    rw [Int.add_zero]
    refine ⟨fun q => go 1 fun _ _ => ?_, fun q => hQ 0 M2 t2 tr2 (Or.inr ⟨fun w => q ?_, rfl⟩)⟩
    · rw [pre t t0 t1]; exact q
    · rw [← pre t t0 t1]; exact w t t0 (by omega) (by omega) x0 x1
  refine b_68_1 hk h4 h5 ⟨fun q => absurd q (by omega), fun _ => s_87 sh2 g (by rw [t2 _ _ (by omega)]; exact q9) t0 (by omega) ⟨_, rfl, ?_⟩⟩
  rw [e142]
  exact ⟨fun q => seen (by omega) (by omega) _ h5, fun q => s_125 fun r hr => ⟨r, rfl, fun q2 => b_68_3 hk h5 (b_68_4 hk h5 ⟨fun _ => go 0 fun x y => absurd q2 (by omega), fun q3 => absurd rfl q3⟩), fun q2 => seen (by omega) (by omega) _ h5⟩⟩
theorem s_67 (hb : BASE M) (sh : SH1 M a) (g : 0 ≤ a ∧ a < 4) (q9 : ¬ M 139 a = 0) (hQ : ∀ M2, TrF M M2 → Q (some (vI (mkB 9 (fiB M a)))) M2) : Mq sx L K0 R0 67 [vR 76, vR (shA a + 2)] M Q := by
  have hk := isSh_A g.1 g.2
  refine m_67 (b_67_0 hk (s_75 fun M0 as f0 => ⟨rfl, ?_⟩))
  have t0 : TrF M M0 := fun c k q => f0 c k (by omega)
  suffices H : ∀ u4, cat2 u4 = false → Rn sx L K0 R0 67 1 [vR 76, vR (shA a + 2), vI 0, vI 0, u4] [] M0 Q from H vU rfl
  refine lpM (N := 3) (I := fun r M1 => TrF M M1 ∧ ∃ ru le, TrG M M1 (areB M) ru le (fun t => M 111 t) (fun _ => 0)) (G := fun r M1 => ∀ u4, cat2 u4 = false → Rn sx L K0 R0 67 1 [vR 76, vR (shA a + 2), vI (mkB (3 * r).toNat (fiB M a)), vI r, u4] [] M1 Q) (fun r M1 r0 r1 hI ih => ?_) (fun M1 hI u4 h4 => b_67_1 hk h4 ⟨fun _ => b_67_5 hk h4 (by rw [show ((3 : Int) * 3).toNat = 9 from rfl]; exact hQ M1 hI.1), fun q => absurd (by omega) q⟩) 0 M0 (by omega) (by omega) ⟨t0, _, _, as.tr hb t0.bf⟩
  intro u4 h4
  refine b_67_1 hk h4 ⟨fun q => absurd q (by omega), fun _ => ?_⟩
  have hz : mkB (3 * r).toNat (fiB M a) = mkB (3 * r + 0).toNat (fiB M a) := by rw [Int.add_zero]
  rw [hz]
  refine lpM (N := 3) (I := fun l M1 => TrF M M1 ∧ ∃ ru le, TrG M M1 (areB M) ru le (fun t => M 111 t) (fun _ => 0)) (G := fun l M1 => Rn sx L K0 R0 67 2 [vR 76, vR (shA a + 2), vI (mkB (3 * r + l).toNat (fiB M a)), vI r, vI l] [] M1 Q) (fun l M1 l0 l1 hJ ih2 => ?_) (fun M1 hJ => b_67_2 hk ⟨fun _ => b_67_4 hk ⟨⟨by omega, by omega⟩, ?_⟩, fun q => absurd (by omega) q⟩) 0 M1 (by omega) (by omega) hI
  · obtain ⟨j1, ru, le, j2⟩ := hJ
    have F : ∀ c k, ¬ (c = 97 ∧ (k = 4 ∨ k = 5)) → mset (mset M1 97 4 r) 97 5 l c k = M1 c k := fun c k q => by rw [ms_ne (by omega), ms_ne (by omega)]
    have j3 : TrG M (mset (mset M1 97 4 r) 97 5 l) (areB M) r l (fun t => M 111 t) (fun _ => 0) := by
      obtain ⟨v1, v2, v3, v4, v5, v6, v7, v8⟩ := j2
      refine ⟨v1.tr fun c k q => F c k (by unfold baseC at q; omega), by rw [F _ _ (by omega)]; exact v2, by rw [ms_k (by omega), ms_eq], ms_eq, by rw [F _ _ (by omega)]; exact v5, by rw [F _ _ (by omega)]; exact v6, by rw [F _ _ (by omega)]; exact v7, fun i x y => ?_⟩
      rw [F _ _ (by omega), F _ _ (by omega)]; exact v8 i x y
    have e : 3 * r + (l + 1) = (3 * r + l) + 1 := by omega
    rw [e, mkB_s (by omega)] at ih2
    have k3 : (3 * r + l) / 3 = r := by omega
    have k4 : (3 * r + l) % 3 = l := by omega
    have t3 : TrF M (mset (mset M1 97 4 r) 97 5 l) := fun c k q => by rw [F _ _ (by omega)]; exact j1 c k q
    refine b_67_2 hk ⟨fun q => absurd q (by omega), fun _ => s_68 hb sh g q9 r0 (by omega) l0 (by omega) t3 j3 fun rr M2 t4 j4 hr => ⟨rr, rfl, fun q => b_67_3 hk ⟨⟨by omega, by omega⟩, ?_⟩, fun q => ⟨⟨by omega, by omega⟩, ⟨by omega, by omega⟩, pow30 (by omega) (by omega), b_67_3 hk ⟨⟨by omega, by omega⟩, ?_⟩⟩⟩⟩
    · have hn : ¬ fiS M a ((3 * r + l) / 3) ((3 * r + l) % 3) := by
        rw [k3, k4]
        rcases hr with z | z
        · omega
        · exact z.1
      rw [fiB_f hn, if_neg (by decide)] at ih2
      exact ih2 M2 ⟨t4, _, _, j4⟩
    · have hn : fiS M a ((3 * r + l) / 3) ((3 * r + l) % 3) := by
        rw [k3, k4]
        rcases hr with z | z
        · exact z.1
        · omega
      rw [fiB_t hn, if_pos rfl] at ih2
      exact ih2 M2 ⟨t4, _, _, j4⟩
  · have nx := ih M1 hJ
    rw [show 3 * (r + 1) = 3 * r + 3 by omega] at nx
    exact nx _ rfl
theorem s_209 (hs : SROK SR) (h : INVM SR M) (sh : SH1 M a) (g : 0 ≤ a ∧ a < 4) (q9 : ¬ M 139 a = 0) (hQ : ∀ N, INVM SR N → Q (some (vI (mkB 9 (fiB M a)))) N) : Mq sx L K0 R0 209 [vR 106, vI a] M Q := by
  have hb := h.1.1
  obtain ⟨g1, g2, g3, g4, g5, g6, g7, g8, g9, g10, g11, g12, g13⟩ := hb.2.2.2.2.1
  obtain ⟨z1, z2, z3, z4, z5, z6, z7, z8⟩ := sh.on q9
  refine m_209 (b_209_0 (s_215 fun r hr => ⟨r, rfl, fun _ => b_209_1 ⟨g, fun _ => b_209_2 ?_, fun q => absurd q9 q⟩, fun q => absurd (by omega) q⟩))
  suffices H : ∀ u4 u5 u6 u7, cat2 u4 = false → cat2 u5 = false → cat2 u6 = false → cat2 u7 = false → Rn sx L K0 R0 209 3 [vR 106, vI a, vI 0, vI 0, u4, u5, u6, u7] [] M Q from H vU vU vU vU rfl rfl rfl rfl
  refine lpM (N := 9) (I := fun k N => INVM SR N ∧ BFr M N ∧ ∀ c j, 139 ≤ c ∧ c ≤ 142 → N c j = M c j) (G := fun k N => ∀ u4 u5 u6 u7, cat2 u4 = false → cat2 u5 = false → cat2 u6 = false → cat2 u7 = false → Rn sx L K0 R0 209 3 [vR 106, vI a, vI (mkB k.toNat (fiB M a)), vI k, u4, u5, u6, u7] [] N Q) (fun k N k0 k1 hI ih => ?_) (fun N hI u4 u5 u6 u7 h4 h5 h6 h7 => b_209_3 h4 h5 h6 h7 ⟨fun _ => b_209_11 h4 h5 h6 h7 (hQ N hI.1), fun q => absurd (Int.le_refl _) q⟩) 0 M (by omega) (by omega) ⟨h, BFr.rfl', fun _ _ _ => rfl⟩
  obtain ⟨i1, bf, i3⟩ := hI
  intro u4 u5 u6 u7 h4 h5 h6 h7
  rw [mkB_s k0] at ih
  have mB := mkB_B k.toNat (fiB M a) (by omega)
  generalize mkB k.toNat (fiB M a) = bits at ih mB ⊢
  refine b_209_3 h4 h5 h6 h7 ⟨fun q => absurd q (by omega), fun _ => s_159G hs i1.1 bf fun N2 as2 i2 f2 => ⟨rfl, ⟨k0, by omega⟩, ⟨k0, by omega⟩, ?_⟩⟩
  have fx : FxR N2 (mset (mset N2 104 33 (k / 3)) 104 34 (k % 3)) := (FxR.rfl'.set (by omega)).set (by omega)
  have as3 : AsG M (mset (mset N2 104 33 (k / 3)) 104 34 (k % 3)) (areB M) (k / 3) (k % 3) (fun t => M 111 t) (fun _ => 0) := by
    obtain ⟨b1, b2, b3, b4, b5, b6, b7, b8⟩ := id as2
    exact as2.up fx (by rw [ms_k (by omega), ms_k (by omega)]) (by rw [ms_k (by omega), ms_k (by omega)]; exact b4) (by rw [ms_k (by omega), ms_eq]) ms_eq fun t x y => by rw [ms_c (by omega), ms_c (by omega), ms_c (by omega), ms_c (by omega)]; exact b5 t x y
  refine s_201G hs hb (OKF (ru := k / 3) (le := k % 3) hb (by omega) (by omega) (by omega) (by omega)) as3 (i2.fx hs fx) fun r N3 r0 rl res as4 i4 e26 fx4 _ _ => ⟨_, rfl, ?_⟩
  have n3 : ∀ c j, 139 ≤ c ∧ c ≤ 142 → N3 c j = M c j := fun c j q => by
    rw [fx4 c j (by omega) (by omega), fx c j (by omega) (by omega), f2 c j (by omega) (by omega)]; exact i3 c j q
  have e25 : N3 104 25 = M 104 25 := as4.1.m (by omega)
  have i5 : INVM SR N3 := ⟨i4, Or.inl e26⟩
  have nx := ih N3 ⟨i5, as4.1, n3⟩
  -- behind the items
  have tail : ∀ is x6 w7, cat2 w7 = false → (fiS M a (k / 3) (k % 3) ∧ is = 1 ∨ ¬ fiS M a (k / 3) (k % 3) ∧ is = 0) → Rn sx L K0 R0 209 8 [vR 106, vI a, vI bits, vI k, vI r, vI is, vI x6, w7] [] N3 Q := by
    intro is x6 w7 h7 hi
    refine b_209_8 h7 ⟨fun q => b_209_9 h7 (b_209_10 h7 ⟨⟨by omega, by omega⟩, ?_⟩), fun q => ⟨pow30 k0 (by omega), b_209_10 h7 ⟨⟨by omega, by omega⟩, ?_⟩⟩⟩
    · have hn : ¬ fiS M a (k / 3) (k % 3) := by
        rcases hi with z | z
        · omega
        · exact z.1
      rw [fiB_f hn, if_neg (by decide)] at nx
      rw [or_0 mB]
      exact nx _ _ _ _ rfl rfl rfl h7
    · have hn : fiS M a (k / 3) (k % 3) := by
        rcases hi with z | z
        · exact z.1
        · omega
      rw [fiB_t hn, if_pos rfl] at nx
      exact nx _ _ _ _ rfl rfl rfl h7
  suffices H : ∀ t is w7, 0 ≤ t → t ≤ min (M 141 a) (M 104 25) → cat2 w7 = false → okT M a (k / 3) (k % 3) t is → Rn sx L K0 R0 209 4 [vR 106, vI a, vI bits, vI k, vI r, vI is, vI t, w7] [] N3 Q from H 0 1 u7 (by omega) (by omega) h7 (Or.inl ⟨fun i x y => by omega, rfl⟩)
  intro t is w7 t0 t1 h7 hi
  refine lpI (N := min (M 141 a) (M 104 25)) (G := fun t => ∀ is w7, cat2 w7 = false → okT M a (k / 3) (k % 3) t is → Rn sx L K0 R0 209 4 [vR 106, vI a, vI bits, vI k, vI r, vI is, vI t, w7] [] N3 Q) (fun t t0 t1 ih2 => ?_) (fun is w7 h7 hi => ?_) t t0 t1 is w7 h7 hi
  · intro is w7 h7 hi
    have e141 : N3 141 a = M 141 a := n3 _ _ (by omega)
    have e142 : N3 142 (60 * a + t) = M 142 (60 * a + t) := n3 _ _ (by omega)
    have e135 : N3 135 (3 * t) = RGf M (k / 3) (k % 3) 135 (3 * t) := res.2.1 t t0 (by omega)
    have yes : ∀ y0, (∀ i, 0 ≤ i → i < t → okZ M a (k / 3) (k % 3) i) → okZ M a (k / 3) (k % 3) t → Rn sx L K0 R0 209 5 [vR 106, vI a, vI bits, vI k, vI r, vI is, vI t, vI y0] [] N3 Q := fun y0 w o =>
      b_209_5 (b_209_7 ⟨⟨by omega, by omega⟩, ih2 1 _ rfl (Or.inl ⟨fun i x y => by
        by_cases e : i = t
        · rw [e]; exact o
        · exact w i x (by omega), rfl⟩)⟩)
    have no : ∀ y0, (¬ ∀ i, 0 ≤ i → i < t + 1 → okZ M a (k / 3) (k % 3) i) → Rn sx L K0 R0 209 6 [vR 106, vI a, vI bits, vI k, vI r, vI is, vI t, vI y0] [] N3 Q := fun y0 w =>
      b_209_6 (b_209_7 ⟨⟨by omega, by omega⟩, ih2 0 _ rfl (Or.inr ⟨w, rfl⟩)⟩)
    refine b_209_4 h7 ⟨fun q => absurd q (by omega), fun _ => ⟨g, fun q => absurd q (by omega), fun _ => ⟨⟨by omega, by omega⟩, ⟨by omega, by omega⟩, ⟨by omega, by omega⟩, fun q => no _ ?_, fun q => ?_⟩⟩⟩
    · exact fun z => okT_0 hi q fun i x y => z i x (by omega)
    · have hi1 := okT_1 hi q
      rw [e142]
      refine s_137 fun r1 hr1 => ⟨r1, rfl, fun q1 => yes _ hi1 fun x y => absurd q1 (by omega), fun q1 => ⟨⟨by omega, by omega⟩, ⟨by omega, by omega⟩, ?_⟩⟩
      rw [e135]
      exact ⟨fun q2 => no _ fun z => q2 (z t t0 (by omega) (by omega) (by omega)), fun q2 => yes _ hi1 fun _ _ => Decidable.not_not.mp q2⟩
  · have e141 : N3 141 a = M 141 a := n3 _ _ (by omega)
    have fin : fiS M a (k / 3) (k % 3) ∧ is = 1 ∨ ¬ fiS M a (k / 3) (k % 3) ∧ is = 0 := by
      rcases hi with ⟨z, e⟩ | ⟨z, e⟩
      · exact Or.inl ⟨fun i x y w => z i x (by omega), e⟩
      · exact Or.inr ⟨fun w => z fun i x y => w i x (by omega) (by omega), e⟩
    by_cases e : M 104 25 ≤ M 141 a
    · exact b_209_4 h7 ⟨fun _ => tail _ _ _ h7 fin, fun q => absurd (by omega) q⟩
    · exact b_209_4 h7 ⟨fun q => absurd q (by omega), fun _ => ⟨g, fun _ => tail _ _ _ h7 fin, fun q => absurd (by omega) q⟩⟩
end

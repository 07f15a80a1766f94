/-! the fewest changes: the class -/
section
variable {sx : Int → Int} {L : Nat} {M M1 N : Mem} {Q : Option AV → Mem → Prop} {a b c k : Int}
def FxM (M N : Mem) : Prop := ∀ c k, ¬ (75 ≤ c ∧ c ≤ 100) → ¬ c = 103 → ¬ (c = 74 ∧ k = 13) → N c k = M c k
theorem FxM.s (f : FxM M N) : FxC M N := fun c k q => f c k (by omega) (by omega) (by omega)
theorem FxM.tr {N' : Mem} (f : FxM M N) (g : FxM N N') : FxM M N' := fun c k a b d => (g c k a b d).trans (f c k a b d)
theorem s_72 (ab : abT a b) (hQ : ∀ M2, (∀ k, 0 ≤ k → k < 8 → M2 98 k = swF (fun t => M1 98 t) a b k) → (∀ c k, ¬ c = 98 → M2 c k = M1 c k) → Q none M2) : Mq sx L K0 R0 72 [vR 76, vI a, vI b] M1 Q := by
  refine m_72 (b_72_0 (s_125 fun r hr => ⟨r, rfl, fun q => b_72_1 rfl (hQ M1 (fun k k0 k1 => ?_) fun _ _ _ => rfl), fun q => s_125 fun r2 hr2 => ⟨r2, rfl, fun q2 => ?_, fun q2 => ?_⟩⟩))
  · rcases ab with ⟨e1, e2⟩ | w
    · rw [e1, e2, swF_n k0]
    · omega
  · rcases ab with w | w <;> omega
  · rcases ab with w | w
    · omega
    · refine ⟨⟨by omega, by omega⟩, ⟨by omega, by omega⟩, ⟨by omega, by omega⟩, ⟨by omega, by omega⟩, b_72_1 rfl (hQ _ (fun k k0 k1 => ?_) fun c k q => by rw [ms_c q, ms_c q])⟩
      unfold swF
      by_cases e2 : k = b
      · rw [e2, ms_eq]
        by_cases e : b = a
        · rw [if_pos e, e]
        · rw [if_neg e, if_pos rfl]
      · rw [ms_k e2]
        by_cases e : k = a
        · rw [e, ms_eq, if_pos rfl]
        · rw [ms_k e, if_neg e, if_neg e2]
theorem s_73 (hQ : ∀ M2, M2 103 0 = c → M2 103 1 = M1 97 4 → M2 103 2 = M1 97 5 → M2 103 3 = a → M2 103 4 = b → (∀ c k, ¬ c = 103 → M2 c k = M1 c k) → Q none M2) : Mq sx L K0 R0 73 [vR 76, vI c, vI a, vI b] M1 Q := by
  refine m_73 (b_73_0 ⟨⟨by omega, by omega⟩, ⟨by omega, by omega⟩, ⟨by omega, by omega⟩, ⟨by omega, by omega⟩, ⟨by omega, by omega⟩, hQ _ ?_ ?_ ?_ ?_ ms_eq fun c k q => ?_⟩)
  · rw [ms_k (by omega), ms_k (by omega), ms_k (by omega), ms_k (by omega), ms_eq]
  · rw [ms_k (by omega), ms_k (by omega), ms_k (by omega), ms_eq, ms_c (by omega)]
  · rw [ms_k (by omega), ms_k (by omega), ms_eq, ms_c (by omega), ms_c (by omega)]
  · rw [ms_k (by omega), ms_eq]
  · rw [ms_c q, ms_c q, ms_c q, ms_c q, ms_c q]
/-- a trial with these rules -/
abbrev TrM (M N : Mem) (ru le : Int) : Prop := TrG M N (areB M) ru le (fun t => M 111 t) (fun _ => 0)
theorem TrM.sw {ru le : Int} {rk rk' : Int → Int} (h : TrG M M1 (areB M) ru le rk (fun _ => 0)) (f : ∀ c k, ¬ c = 98 → N c k = M1 c k) (g : ∀ k, 0 ≤ k → k < 8 → N 98 k = rk' k) : TrG M N (areB M) ru le rk' (fun _ => 0) := by
  obtain ⟨v1, v2, v3, v4, v5, v6, v7, v8⟩ := h
  refine ⟨v1.tr fun c k q => f c k (by unfold baseC at q; omega), by rw [f _ _ (by omega)]; exact v2, by rw [f _ _ (by omega)]; exact v3, by rw [f _ _ (by omega)]; exact v4, by rw [f _ _ (by omega)]; exact v5, by rw [f _ _ (by omega)]; exact v6, by rw [f _ _ (by omega)]; exact v7, fun i x y => ⟨g i x y, ?_⟩⟩
  rw [f _ _ (by omega)]; exact (v8 i x y).2
theorem s_71 {ru le : Int} (hb : BASE M) (r0 : 0 ≤ ru) (r2 : ru ≤ 2) (l0 : 0 ≤ le) (l2 : le ≤ 2) (ab : abT a b) (tr : TrM M M1 ru le) (hQ0 : ¬ wlM M ru le a b → ∀ M2, FxM M1 M2 → M2 74 13 = M1 74 13 → TrM M M2 ru le → Q (some (vI 0)) M2) (hQ1 : wlM M ru le a b → ∀ M2, FxM M1 M2 → M2 74 13 = M1 74 13 → M2 103 0 = c → M2 103 1 = ru → M2 103 2 = le → M2 103 3 = a → M2 103 4 = b → Q (some (vI 1)) M2) : Mq sx L K0 R0 71 [vR 76, vI c, vI a, vI b] M1 Q := by
  obtain ⟨g1, g2, g3, g4, g5, g6, g7, g8, g9, g10, g11, g12, g13⟩ := hb.2.2.2.2.1
  have ok := OKM (a := a) (b := b) hb r0 r2 l0 l2 ab
  refine m_71 (b_71_0 (s_72 ab fun M2 h2 f2 => ⟨rfl, ?_⟩))
  have m98 : ∀ t, 0 ≤ t → t < 8 → M1 98 t = M 111 t := fun t x y => (tr.2.2.2.2.2.2.2 t x y).1
  have tr2 : TrG M M2 (areB M) ru le (rkM M a b) (fun _ => 0) := TrM.sw tr f2 fun i x y => by
    rw [h2 i x y]
    unfold rkM swF
    rcases ab with w | w
    · rw [if_neg (by omega), if_neg (by omega), if_neg (by omega), if_neg (by omega)]; exact m98 i x y
    · show (if i = a then M1 98 b else if i = b then M1 98 a else M1 98 i) = if i = a then M 111 b else if i = b then M 111 a else M 111 i
      rw [m98 b w.2.2.1 w.2.2.2, m98 a w.1 w.2.1, m98 i x y]
  have e977 : M2 97 7 = M 104 25 := by rw [tr2.2.2.2.2.2.1, g12]
  rw [e977]
  refine s_36G hb tr2 ok (by omega) g11 fun M3 g f3 tr3 => ⟨rfl, s_72 ab fun M4 h4 f4 => ⟨rfl, ?_⟩⟩
  have m98' : ∀ t, 0 ≤ t → t < 8 → M3 98 t = rkM M a b t := fun t x y => (tr3.2.2.2.2.2.2.2 t x y).1
  have tr4 : TrM M M4 ru le := TrM.sw tr3 f4 fun i x y => by
    rw [h4 i x y]
    rcases ab with ⟨rfl, rfl⟩ | w
    · rw [swF_n x]
      show M3 98 i = M 111 i
      rw [m98' i x y]; exact swF_n x
    · refine swF_2 (f := fun t => M 111 t) ?_ ?_ fun p q => ?_
      · show M3 98 a = M 111 b
        rw [m98' a w.1 w.2.1]; unfold rkM swF; rw [if_pos rfl]
      · show M3 98 b = M 111 a
        rw [m98' b w.2.2.1 w.2.2.2]; unfold rkM swF
        by_cases e : b = a
        · rw [if_pos e, e]
        · rw [if_neg e, if_pos rfl]
      · show M3 98 i = M 111 i
        rw [m98' i x y]; unfold rkM swF; rw [if_neg p, if_neg q]
  have fx : FxM M1 M4 := fun d j x y z => by rw [f4 d j (by omega), f3 d j (by unfold outB; omega), f2 d j (by omega)]
  have e13 : M4 74 13 = M1 74 13 := by rw [f4 _ _ (by omega), f3 _ _ (by unfold outB; omega), f2 _ _ (by omega)]
  have e17 : M4 75 17 = M3 75 17 := f4 _ _ (by omega)
  have e15 : M4 75 15 = M3 75 15 := f4 _ _ (by omega)
  rw [e17, e15]
  refine ⟨fun q => b_71_1 (hQ0 (fun w => w.1 (g.2.1.mp ?_)) M4 fx e13 tr4), fun q => ?_⟩
  · rcases g.1 with z | z
    · exact absurd z q
    · exact z
  · have q' := Decidable.not_not.mp q
    have nl : ¬ ltG M (areB M) ru le (rkM M a b) (fun _ => 0) (M 104 25) := fun w => by
      have := g.2.1.mpr w
      omega
    have rg : M3 75 15 = RG M (areB M) ru le (rkM M a b) (fun _ => 0) (M 104 25) 104 49 := (g.2.2 (Or.inr q')).2.2.2.2.1.1
    rw [rg]
    refine ⟨fun q2 => b_71_2 (s_73 fun M5 x0 x1 x2 x3 x4 f5 => ⟨rfl, hQ1 ⟨nl, q2⟩ M5 (fun d j x y z => by rw [f5 d j y]; exact fx d j x y z) (by rw [f5 _ _ (by omega)]; exact e13) x0 (by rw [x1]; exact tr4.2.2.1) (by rw [x2]; exact tr4.2.2.2.1) x3 x4⟩), fun q2 => b_71_1 (hQ0 (fun w => q2 w.2) M4 fx e13 tr4)⟩
theorem s_70 {ru le : Int} (hb : BASE M) (tr : TrM M M1 ru le) (hQ : Q (some (vI ((if ru = M 104 22 then 0 else 1) + (if le = M 104 23 then 0 else 1)))) M1) : Mq sx L K0 R0 70 [vR 76] M1 Q := by
  obtain ⟨g1, g2, g3, g4, g5, g6, g7, g8, g9, g10, g11, g12, g13⟩ := hb.2.2.2.2.1
  have e1 : M1 6 4 = M 104 22 := by rw [tr.1.a (c := 6) (by omega), g3]
  have e2 : M1 6 5 = M 104 23 := by rw [tr.1.a (c := 6) (by omega), g6]
  have two : ∀ y, Q (some (vI (y + (if le = M 104 23 then 0 else 1)))) M1 → 0 ≤ y → y ≤ 1 → Rn sx L K0 R0 70 2 [vR 76, vU] [vI y] M1 Q := by
    intro y h y0 y1
    refine b_70_2 ?_
    rw [tr.2.2.2.1, e2]
    refine ⟨fun q => b_70_3 ⟨⟨by omega, by omega⟩, b_70_4 ?_⟩, fun q => b_70_4 ?_⟩
    · rw [if_neg q] at h; exact h
    · rw [if_pos (Decidable.not_not.mp q), Int.add_zero] at h; exact h
  refine m_70 (b_70_0 ?_)
  rw [tr.2.2.1, e1]
  refine ⟨fun q => b_70_1 (two 1 ?_ (by omega) (by omega)), fun q => two 0 ?_ (by omega) (by omega)⟩
  · rw [if_neg q] at hQ; exact hQ
  · rw [if_pos (Decidable.not_not.mp q)] at hQ; exact hQ
theorem s_69 (hb : BASE M) (hk : KM M) (hQ : ∀ M', FxM M M' → RsX M 585 (fun i => M' 103 i) → Q none M') : Mq sx L K0 R0 69 [vR 76] M Q := by
  obtain ⟨g1, g2, g3, g4, g5, g6, g7, g8, g9, g10, g11, g12, g13⟩ := hb.2.2.2.2.1
  refine m_69 (b_69_0 ⟨fun q => b_69_1 (s_75 fun M0 as f0 => ⟨rfl, ?_⟩), fun q => ?_⟩)
  · have as' : AsS M M0 := ⟨fun k hk => by rw [as.1 k hk, ms_c (by omega)], fun i a b => by
      have := as.2 i a b
      rw [ms_c (by omega), ms_c (by omega), ms_c (by omega)] at this
      exact this⟩
    have b0 : BFr M M0 := fun c k q => by rw [f0 c k (by unfold baseC at q; omega), ms_c (by unfold baseC at q; omega)]
    have fx0 : FxM M M0 := fun c k a b d => by rw [f0 c k (by omega), ms_ne (by omega)]
    -- none
    suffices H : ∀ u2 u3 u4 u5 u6 u7, cat2 u2 = false → cat2 u3 = false → cat2 u4 = false → cat2 u5 = false → cat2 u6 = false → cat2 u7 = false → Rn sx L K0 R0 69 2 [vR 76, vI 0, u2, u3, u4, u5, u6, u7] [] M0 Q from H vU vU vU vU vU vU rfl rfl rfl rfl rfl rfl
    refine lpM (N := 3) (I := fun c M1 => FxM M M1 ∧ (∃ ru le, TrM M M1 ru le) ∧ CI M c 0) (G := fun c M1 => ∀ u2 u3 u4 u5 u6 u7, cat2 u2 = false → cat2 u3 = false → cat2 u4 = false → cat2 u5 = false → cat2 u6 = false → cat2 u7 = false → Rn sx L K0 R0 69 2 [vR 76, vI c, u2, u3, u4, u5, u6, u7] [] M1 Q) (fun c M1 c0 c1 hI ihc => ?_) (fun M1 hI u2 u3 u4 u5 u6 u7 h2 h3 h4 h5 h6 h7 => b_69_2 h2 h3 h4 h5 h6 h7 ⟨fun _ => b_69_11 h2 h3 h4 h5 h6 h7 (s_73 fun M5 x0 x1 x2 x3 x4 f5 => ⟨rfl, hQ M5 (hI.1.tr fun c k a b d => f5 c k b) (Or.inl ⟨x0, CI_3 hI.2.2⟩)⟩), fun q => absurd (by omega) q⟩) 0 M0 (by omega) (by omega) ⟨fx0, ⟨_, _, as'.tr hb b0⟩, CI_0⟩
    intro u2 u3 u4 u5 u6 u7 h2 h3 h4 h5 h6 h7
    refine b_69_2 h2 h3 h4 h5 h6 h7 ⟨fun q => absurd q (by omega), fun _ => ?_⟩
    -- choices
    suffices H : ∀ u3 u4 u5 u6 u7, cat2 u3 = false → cat2 u4 = false → cat2 u5 = false → cat2 u6 = false → cat2 u7 = false → Rn sx L K0 R0 69 3 [vR 76, vI c, vI 0, u3, u4, u5, u6, u7] [] M1 Q from H u3 u4 u5 u6 u7 h3 h4 h5 h6 h7
    refine lpM (N := 9) (I := fun k M1 => FxM M M1 ∧ (∃ ru le, TrM M M1 ru le) ∧ CI M c (65 * k)) (G := fun k M1 => ∀ u3 u4 u5 u6 u7, cat2 u3 = false → cat2 u4 = false → cat2 u5 = false → cat2 u6 = false → cat2 u7 = false → Rn sx L K0 R0 69 3 [vR 76, vI c, vI k, u3, u4, u5, u6, u7] [] M1 Q) (fun k M1 k0 k1 hJ ihk => ?_) (fun M1 hJ u3 u4 u5 u6 u7 h3 h4 h5 h6 h7 => b_69_3 h3 h4 h5 h6 h7 ⟨fun _ => b_69_10 h3 h4 h5 h6 h7 ⟨⟨by omega, by omega⟩, ihc M1 ⟨hJ.1, hJ.2.1, CI_n (by have := hJ.2.2; rw [show (65 : Int) * 9 = 585 from rfl] at this; exact this)⟩ _ _ _ _ _ _ rfl h3 h4 h5 h6 h7⟩, fun q => absurd (Int.le_refl _) q⟩) 0 M1 (by omega) (by omega) ⟨hI.1, hI.2.1, by rw [Int.mul_zero]; exact hI.2.2⟩
    clear h2 h3 h4 h5 h6 h7 u2 u3 u4 u5 u6 u7
    obtain ⟨j1, ⟨ru, le, j2⟩, j3⟩ := hJ
    intro u3 u4 u5 u6 u7 h3 h4 h5 h6 h7
    have kd : (65 * k) / 65 = k := by omega
    have km : (65 * k) % 65 = 0 := by omega
    have ct0 : ctX M (65 * k) = chM M k := by
      unfold ctX ctM
      rw [kd, km, if_pos rfl, Int.add_zero]
    have F : ∀ c j, ¬ (c = 97 ∧ (j = 4 ∨ j = 5)) → mset (mset M1 97 4 (k / 3)) 97 5 (k % 3) c j = M1 c j := fun c j q => by rw [ms_ne (by omega), ms_ne (by omega)]
    have tr1 : TrM M (mset (mset M1 97 4 (k / 3)) 97 5 (k % 3)) (k / 3) (k % 3) := by
      obtain ⟨v1, v2, v3, v4, v5, v6, v7, v8⟩ := j2
      refine ⟨v1.tr fun c k q => F c k (by unfold baseC at q; omega), by rw [F _ _ (by omega)]; exact v2, by rw [ms_k (by omega), ms_eq], ms_eq, by rw [F _ _ (by omega)]; exact v5, by rw [F _ _ (by omega)]; exact v6, by rw [F _ _ (by omega)]; exact v7, fun i x y => ?_⟩
      rw [F _ _ (by omega), F _ _ (by omega)]; exact v8 i x y
    have fx1 : FxM M (mset (mset M1 97 4 (k / 3)) 97 5 (k % 3)) := fun c j a b d => by rw [F c j (by omega)]; exact j1 c j a b d
    obtain ⟨M2, hM2⟩ : ∃ M2, M2 = mset (mset M1 97 4 (k / 3)) 97 5 (k % 3) := ⟨_, rfl⟩
    rw [← hM2] at tr1 fx1
    clear F j1 j2
    have ch := chM_B (M := M) (k := k)
    -- a pair's index
    have ixd : ∀ p, 0 ≤ p → p < 64 → (65 * k + 1 + p) / 65 = k ∧ (65 * k + 1 + p) % 65 = p + 1 := fun p p0 p1 => by omega
    have ctp : ∀ x, 65 * k + 1 ≤ x → x < 65 * k + 65 → ctX M x = chM M k + 1 := fun x x0 x1 => by
      unfold ctX ctM
      rw [show x / 65 = k by omega, if_neg (by omega)]
    -- behind the pairs
    have nine : ∀ M3 l y p v6 v7, cat2 v6 = false → cat2 v7 = false → FxM M M3 → TrM M M3 (k / 3) (k % 3) → CI M c (65 * (k + 1)) → Rn sx L K0 R0 69 9 [vR 76, vI c, vI k, vI l, vI y, vI p, v6, v7] [] M3 Q := fun M3 l y p v6 v7 a6 a7 f3 t3 ci =>
      b_69_9 a6 a7 ⟨⟨by omega, by omega⟩, ihk M3 ⟨f3, ⟨_, _, t3⟩, ci⟩ _ _ _ _ _ rfl rfl rfl a6 a7⟩
    -- no pairs
    have five : ∀ M3 l, FxM M M3 → TrM M M3 (k / 3) (k % 3) → CI M c (65 * (k + 1)) → Rn sx L K0 R0 69 5 [vR 76, vI c, vI k, vI l, u4, u5, u6, u7] [] M3 Q := fun M3 l f3 t3 ci =>
      b_69_5 h4 h5 h6 h7 (b_69_6 h4 h5 h6 h7 (b_69_7 h6 h7 ⟨fun _ => nine M3 l 0 0 u6 u7 h6 h7 f3 t3 ci, fun q => absurd rfl q⟩))
    have four : ∀ M3 l, l = c - chM M k → FxM M M3 → TrM M M3 (k / 3) (k % 3) → CI M c (65 * k + 1) → Rn sx L K0 R0 69 4 [vR 76, vI c, vI k, vI l, u4, u5, u6, u7] [] M3 Q := by
      intro M3 l el f3 t3 ci
      refine b_69_4 h4 h5 h6 h7 ⟨fun q => five M3 l f3 t3 (CI_k ci fun x x0 x1 _ _ _ => ?_), fun q => s_79 (S := 97) (Or.inr rfl) fun r hr => ⟨r, rfl, fun q2 => five M3 l f3 t3 (CI_k ci fun x x0 x1 y0 y1 w => ?_), fun q2 => ?_⟩⟩
      · rw [ctp x x0 (by omega)]; omega
      · -- not by ranks
        rw [t3.2.2.1, t3.2.2.2.1] at hr
        have nr : ¬ k / 3 = 0 ∧ ¬ k % 3 = 2 := by omega
        intro _
        have w2 := (wlM_r (M := M) (a := pA (x % 65)) (b := pB (x % 65)) nr.1 nr.2).mp (by
          have := w.2
          rw [show x / 65 = k by omega] at this
          exact this)
        have g0 : gdX M (65 * k) := by
          unfold gdX
          rw [kd, km]
          exact ⟨Or.inl rfl, w2⟩
        have := ci (65 * k) (by omega) (by omega) g0
        rw [ct0] at this
        omega
      · -- the pairs
        refine b_69_6 h4 h5 h6 h7 ?_
        have l1 : chM M k + 1 = c := by omega
        have z0 : 65 * k + 1 + 0 = 65 * k + 1 := by omega
        refine lpM (N := 64) (I := fun p M4 => FxM M M4 ∧ TrM M M4 (k / 3) (k % 3) ∧ CI M c (65 * k + 1 + p)) (G := fun p M4 => ∀ v6 v7, cat2 v6 = false → cat2 v7 = false → Rn sx L K0 R0 69 7 [vR 76, vI c, vI k, vI l, vI 1, vI p, v6, v7] [] M4 Q) (fun p M4 p0 p1 hK ihp => ?_) (fun M4 hK v6 v7 a6 a7 => b_69_7 a6 a7 ⟨fun q => absurd q (by omega), fun _ => ⟨fun _ => nine M4 l 1 64 v6 v7 a6 a7 hK.1 hK.2.1 (by rw [show 65 * (k + 1) = 65 * k + 1 + 64 by omega]; exact hK.2.2), fun q => absurd (Int.le_refl _) q⟩⟩) 0 M3 (by omega) (by omega) ⟨f3, t3, by rw [z0]; exact ci⟩ u6 u7 h6 h7
        obtain ⟨k1', k2, k3⟩ := hK
        intro v6 v7 a6 a7
        obtain ⟨d1, d2⟩ := ixd p p0 p1
        have ea : pA (p + 1) = p / 8 := by unfold pA; rw [if_neg (by omega), show p + 1 - 1 = p by omega]
        have eb : pB (p + 1) = p % 8 := by unfold pB; rw [if_neg (by omega), show p + 1 - 1 = p by omega]
        have ctq := ctp (65 * k + 1 + p) (by omega) (by omega)
        have gq : gdX M (65 * k + 1 + p) ↔ (p / 8 < p % 8 ∧ tb (areB M) (p / 8) = true ∧ tb (areB M) (p % 8) = true) ∧ wlM M (k / 3) (k % 3) (p / 8) (p % 8) := by
          unfold gdX vdM
          rw [d1, d2, ea, eb]
          constructor
          · rintro ⟨z | z, w⟩
            · omega
            · exact ⟨⟨z.1, z.2.1, z.2.2.1⟩, w⟩
          · rintro ⟨z, w⟩
            exact ⟨Or.inr ⟨z.1, z.2.1, z.2.2, by omega⟩, w⟩
        have skip : ∀ M5, FxM M M5 → TrM M M5 (k / 3) (k % 3) → ¬ gdX M (65 * k + 1 + p) → Rn sx L K0 R0 69 8 [vR 76, vI c, vI k, vI l, vI 1, vI p, vI (p / 8), vI (p % 8)] [] M5 Q := fun M5 f5 t5 ng =>
          b_69_8 ⟨⟨by omega, by omega⟩, ihp M5 ⟨f5, t5, CI_k k3 fun x x0 x1 _ _ w => absurd w (by rw [show x = 65 * k + 1 + p by omega]; exact ng)⟩ _ _ rfl rfl⟩
        have hb4 := hb.fr k2.1
        have ear := k2.1.are
        refine b_69_7 a6 a7 ⟨fun q => absurd q (by omega), fun _ => ⟨fun q => absurd q (by omega), fun _ => ⟨⟨p0, by omega⟩, ⟨p0, by omega⟩, fun q => skip M4 k1' k2 fun w => ?_, fun q => s_78 hb4 (by omega) (by omega) fun r1 hr1 => ⟨r1, rfl, fun q2 => skip M4 k1' k2 fun w => ?_, fun q2 => s_78 hb4 (by omega) (by omega) fun r2 hr2 => ⟨r2, rfl, fun q3 => skip M4 k1' k2 fun w => ?_, fun q3 => ?_⟩⟩⟩⟩⟩
        · have := (gq.mp w).1.1; omega
        · have := (gq.mp w).1.2.1
          rw [ear] at hr1
          rcases hr1 with z | z
          · omega
          · rw [this] at z; exact absurd z.1 (by decide)
        · have := (gq.mp w).1.2.2
          rw [ear] at hr2
          rcases hr2 with z | z
          · omega
          · rw [this] at z; exact absurd z.1 (by decide)
        · have v : p / 8 < p % 8 ∧ tb (areB M) (p / 8) = true ∧ tb (areB M) (p % 8) = true := by
            rw [ear] at hr1 hr2
            refine ⟨by omega, ?_, ?_⟩
            · rcases hr1 with z | z
              · exact z.1
              · exact absurd z.2 q2
            · rcases hr2 with z | z
              · exact z.1
              · exact absurd z.2 q3
          refine s_71 hb (by omega) (by omega) (by omega) (by omega) (Or.inr ⟨by omega, by omega, by omega, by omega⟩) k2 (fun nw M5 f5 e5 t5 => ⟨0, rfl, fun _ => skip M5 (k1'.tr f5) t5 fun w => nw (gq.mp w).2, fun q => absurd rfl q⟩) fun w M5 f5 e5 x0 x1 x2 x3 x4 => ⟨1, rfl, fun q => absurd q (by omega), fun _ => hQ M5 (k1'.tr f5) (Or.inr ⟨65 * k + 1 + p, CI_h k3 (by omega) (by omega) (gq.mpr ⟨v, w⟩) (by omega), by show M5 103 0 = _; omega, by show M5 103 1 = _; rw [d1]; exact x1, by show M5 103 2 = _; rw [d1]; exact x2, by show M5 103 3 = _; rw [d2, ea]; exact x3, by show M5 103 4 = _; rw [d2, eb]; exact x4⟩)⟩
    refine b_69_3 h3 h4 h5 h6 h7 ⟨fun q => absurd q (by omega), fun _ => ⟨⟨k0, by omega⟩, ⟨k0, by omega⟩, ?_⟩⟩
    rw [← hM2]
    refine s_70 hb tr1 ⟨_, rfl, ?_⟩
    show inR (c - chM M k) ∧ _
    have g0 : gdX M (65 * k) ↔ wlM M (k / 3) (k % 3) (-1) (-1) := by
      unfold gdX
      rw [kd, km]
      exact ⟨fun z => z.2, fun z => ⟨Or.inl rfl, z⟩⟩
    refine ⟨⟨by omega, by omega⟩, fun q => four M2 _ rfl fx1 tr1 (CI_k j3 fun x x0 x1 _ _ _ => ?_), fun q => ?_⟩
    · rw [show x = 65 * k by omega, ct0]
      intro e
      have : ¬ c - chM M k = 0 := q
      omega
    · have hq : c - chM M k = 0 := Decidable.not_not.mp q
      refine s_71 hb (by omega) (by omega) (by omega) (by omega) (Or.inl ⟨rfl, rfl⟩) tr1 (fun nw M5 f5 e5 t5 => ⟨0, rfl, fun _ => four M5 _ rfl (fx1.tr f5) t5 (CI_k j3 fun x x0 x1 _ _ w => absurd (g0.mp (by rw [show x = 65 * k by omega] at w; exact w)) nw), fun q => absurd rfl q⟩) fun w M5 f5 e5 x0 x1 x2 x3 x4 => ⟨1, rfl, fun q => absurd q (by omega), fun _ => hQ M5 (fx1.tr f5) (Or.inr ⟨65 * k, CI_h j3 (by omega) (by omega) (g0.mpr w) (by rw [ct0]; omega), by show M5 103 0 = _; rw [ct0]; omega, by show M5 103 1 = _; rw [kd]; exact x1, by show M5 103 2 = _; rw [kd]; exact x2, by show M5 103 3 = _; rw [km]; exact x3, by show M5 103 4 = _; rw [km]; exact x4⟩)⟩
  · rcases hk with w | w
    · exact absurd w q
    · exact hQ M (fun _ _ _ _ _ => rfl) w
end

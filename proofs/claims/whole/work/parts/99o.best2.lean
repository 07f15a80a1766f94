/-! the best ranks: the class -/
section
variable {sx : Int → Int} {L : Nat} {M M1 N : Mem} {Q : Option AV → Mem → Prop} {a b : Int} {n : Nat}
theorem s_58 {k : Int} (k0 : 0 ≤ k) (k1 : k < 8) (h : 0 ≤ M1 101 k ∧ M1 101 k < 8) (hQ : Q (some (vI (M1 101 k))) M1) : Mq sx L K0 R0 58 [vR 76, vI k] M1 Q :=
  m_58 (b_58_0 ⟨fun q => absurd q (by omega), fun _ => ⟨fun q => absurd q (by omega), fun _ => ⟨⟨k0, k1⟩, b_58_2 (s_125 fun r hr => ⟨r, rfl, fun q => absurd q (by omega), fun _ => b_58_4 hQ⟩)⟩⟩⟩)
theorem ms_sw {c : Nat} : mset (mset M1 c a (M1 c b)) c b (M1 c a) c = swF (M1 c) a b := by
  funext k
  unfold swF
  by_cases e2 : k = b
  · rw [e2, ms_eq]
    by_cases e : b = a
    · rw [if_pos e, e]
    · rw [if_neg e, if_pos rfl]
  · rw [ms_k e2]
    by_cases e : k = a
    · rw [e, ms_eq, if_pos rfl]
    · rw [ms_k e, if_neg e, if_neg e2]
theorem s_61 (a0 : 0 ≤ a) (a1 : a < 8) (b0 : 0 ≤ b) (b1 : b < 8) (hQ : ∀ M2 : Mem, M2 101 = swF (M1 101) a b → (∀ c k, ¬ c = 101 → M2 c k = M1 c k) → Q none M2) : Mq sx L K0 R0 61 [vR 76, vI a, vI b] M1 Q :=
  m_61 (b_61_0 ⟨fun q => absurd q (by omega), fun _ => ⟨fun q => absurd q (by omega), fun _ => ⟨fun q => absurd q (by omega), fun _ => ⟨fun q => absurd q (by omega), fun _ => ⟨⟨a0, a1⟩, ⟨b0, b1⟩, ⟨a0, a1⟩, ⟨b0, b1⟩, b_61_1 rfl (hQ _ ms_sw fun c k q => by rw [ms_c q, ms_c q])⟩⟩⟩⟩⟩)
theorem s_59 (hb : BASE M1) (hQ : ∀ M2, (∀ k, 0 ≤ k → k < onF (areB M1) → M2 101 k = enF (areB M1) 8 k) → (∀ c k, ¬ c = 101 → M2 c k = M1 c k) → Q (some (vI (onF (areB M1)))) M2) : Mq sx L K0 R0 59 [vR 76] M1 Q := by
  refine m_59 (b_59_0 ?_)
  refine lpM (N := 8) (I := fun i M2 => (∀ c k, ¬ c = 101 → M2 c k = M1 c k) ∧ ∀ k, 0 ≤ k → k < cbF (areB M1) i.toNat → M2 101 k = enF (areB M1) i.toNat k) (G := fun i M2 => Rn sx L K0 R0 59 1 [vR 76, vI (cbF (areB M1) i.toNat), vI i] [] M2 Q) (fun i M2 i0 i1 hI ih => ?_) (fun M2 hI => b_59_1 ⟨fun _ => b_59_3 (hQ M2 hI.2 hI.1), fun q => absurd (Int.le_refl _) q⟩) 0 _ (by omega) (by omega) ⟨fun _ _ _ => rfl, fun k a c => ?_⟩
  · obtain ⟨j1, j2⟩ := hI
    have bf : BFr M1 M2 := fun c k q => j1 c k (by unfold baseC at q; omega)
    have c0 := cb_0 (A := areB M1) i.toNat
    have ii : ((i.toNat : Nat) : Int) = i := Int.toNat_of_nonneg i0
    rw [show (i + 1).toNat = i.toNat + 1 by omega, cb_s, ii] at ih
    refine b_59_1 ⟨fun q => absurd q (by omega), fun _ => s_78 (hb.fr bf) i0 i1 fun r hr => ⟨r, rfl, fun q => b_59_2 ⟨⟨by omega, by omega⟩, ?_⟩, fun q => ⟨⟨by omega, by omega⟩, ⟨by omega, by omega⟩, b_59_2 ⟨⟨by omega, by omega⟩, ?_⟩⟩⟩⟩
    · have hA : tb (areB M1) i = false := by
        rw [bf.are] at hr
        rcases hr with z | z
        · omega
        · exact z.1
      rw [hA, if_neg (by decide), Int.add_zero] at ih
      refine ih M2 ⟨j1, fun k a c => ?_⟩
      simp only [enF]
      rw [if_neg fun w => by rw [ii, hA] at w; exact absurd w.1 (by decide)]
      exact j2 k a c
    · have hA : tb (areB M1) i = true := by
        rw [bf.are] at hr
        rcases hr with z | z
        · exact z.1
        · exact absurd z.2 q
      rw [hA, if_pos rfl] at ih
      refine ih _ ⟨fun c k q => by rw [ms_c q]; exact j1 c k q, fun k a c => ?_⟩
      simp only [enF]
      by_cases e : k = cbF (areB M1) i.toNat
      · rw [if_pos ⟨by rw [ii]; exact hA, e⟩, e, ms_eq, ii]
      · rw [if_neg fun w => e w.2, ms_k e]
        exact j2 k a (by omega)
  · have : cbF (areB M1) (0 : Int).toNat = 0 := rfl
    omega
theorem s_60 (n1 : 1 ≤ n) (n8 : n ≤ 8) (ho : ∀ k : Int, 0 ≤ k → k < n → 0 ≤ M1 101 k ∧ M1 101 k < 8) (hQ0 : falF (M1 101) (n - 1) < 0 → Q (some (vI 0)) M1) (hQ1 : 0 ≤ falF (M1 101) (n - 1) → ∀ M2 : Mem, M2 101 = nxO n (M1 101) → (∀ c k, ¬ c = 101 → M2 c k = M1 c k) → Q (some (vI 1)) M2) : Mq sx L K0 R0 60 [vR 76, vI n] M1 Q := by
  have fb := fal_B (o := M1 101) (n - 1)
  -- the rest is turned
  have rv : ∀ (f : Nat) (x2 x3 l h : Int) (M2 : Mem), 0 ≤ l → h < n → h - l ≤ 2 * f → (∀ c k, ¬ c = 101 → M2 c k = M1 c k) → (∀ M3 : Mem, M3 101 = rvF f l h (M2 101) → (∀ c k, ¬ c = 101 → M3 c k = M1 c k) → Q (some (vI 1)) M3) → Rn sx L K0 R0 60 7 [vR 76, vI n, vI x2, vI x3, vI l, vI h] [] M2 Q := by
    intro f
    induction f with
    | zero => intro x2 x3 l h M2 l0 h1 hl f2 hq; exact b_60_7 ⟨fun _ => b_60_8 (hq M2 rfl f2), fun q => absurd (by omega) q⟩
    | succ f ih =>
      intro x2 x3 l h M2 l0 h1 hl f2 hq
      refine b_60_7 ⟨fun q => b_60_8 (hq M2 ?_ f2), fun q => s_61 l0 (by omega) (by omega) (by omega) fun M3 e3 f3 => ⟨rfl, ⟨by omega, by omega⟩, ⟨by omega, by omega⟩, ih _ _ _ _ M3 (by omega) (by omega) (by omega) (fun c k p => by rw [f3 c k p]; exact f2 c k p) fun M4 e4 f4 => hq M4 ?_ f4⟩⟩
      · simp only [rvF]
        rw [if_neg (by omega)]
      · simp only [rvF]
        rw [if_pos (by omega), e4, e3, show h + -1 = h - 1 by omega]
  -- the other one
  have ot : ∀ (m : Nat) (i : Int), i = falF (M1 101) (n - 1) → 0 ≤ i → i < m → m + 1 ≤ n → othF (M1 101) i (n - 1) = othF (M1 101) i m → Rn sx L K0 R0 60 5 [vR 76, vI n, vI i, vI m, vU, vU] [] M1 Q := by
    intro m
    induction m with
    | zero => intro i _ _ _; omega
    | succ m ih =>
      intro i ei i0 i1 hm he
      have six : othF (M1 101) i (n - 1) = (m : Int) + 1 → Rn sx L K0 R0 60 6 [vR 76, vI n, vI i, vI ((m + 1 : Nat) : Int), vU, vU] [] M1 Q := by
        intro eo
        refine b_60_6 (s_61 i0 (by omega) (by omega) (by omega) fun M2 e2 f2 => ⟨rfl, ⟨by omega, by omega⟩, ⟨by omega, by omega⟩, rv 8 _ _ _ _ M2 (by omega) (by omega) (by omega) f2 fun M3 e3 f3 => hQ1 (by omega) M3 ?_ f3⟩)
        unfold nxO
        rw [← ei, eo, e3, e2]
        rfl
      refine b_60_5 ⟨fun q => absurd q (by omega), fun _ => s_58 (by omega) (by omega) (ho _ (by omega) (by omega)) ⟨_, rfl, s_58 i0 (by omega) (ho _ i0 (by omega)) ⟨_, rfl, fun q => six ?_, fun q => ⟨⟨by omega, by omega⟩, ?_⟩⟩⟩⟩
      · rw [he]
        simp only [othF]
        rw [if_neg (by rw [show ((m : Int) + 1) = ((m + 1 : Nat) : Int) by omega]; omega)]
      · have c1 : M1 101 ((m : Int) + 1) < M1 101 i := by rw [show ((m : Int) + 1) = ((m + 1 : Nat) : Int) by omega]; omega
        have ne : i < m := by
          by_cases z : i = m
          · have := fb.2.2 (by omega)
            rw [← ei, z] at this
            rw [z] at c1
            exact absurd c1 this
          · omega
        rw [show ((m + 1 : Nat) : Int) + -1 = m by omega]
        refine ih i ei i0 ne (by omega) ?_
        rw [he]
        simp only [othF]
        rw [if_pos c1]
  -- where it falls
  have fl : ∀ m : Nat, m + 1 ≤ n → falF (M1 101) (n - 1) = falF (M1 101) m → Rn sx L K0 R0 60 1 [vR 76, vI n, vI ((m : Int) - 1), vU, vU, vU] [] M1 Q := by
    intro m
    induction m with
    | zero =>
      intro _ he
      have e0 : falF (M1 101) 0 = -1 := rfl
      exact b_60_1 ⟨fun _ => b_60_2 ⟨fun _ => b_60_3 (hQ0 (by omega)), fun q => absurd (by omega) q⟩, fun q => absurd (by omega) q⟩
    | succ m ih =>
      intro hm he
      rw [show ((m + 1 : Nat) : Int) - 1 = m by omega]
      refine b_60_1 ⟨fun q => absurd q (by omega), fun _ => s_58 (by omega) (by omega) (ho _ (by omega) (by omega)) ⟨_, rfl, ⟨by omega, by omega⟩, s_58 (by omega) (by omega) (ho _ (by omega) (by omega)) ⟨_, rfl, fun q => ?_, fun q => ⟨⟨by omega, by omega⟩, ?_⟩⟩⟩⟩
      · have e : falF (M1 101) (n - 1) = m := by
          rw [he]
          simp only [falF]
          rw [if_neg (by omega)]
        refine b_60_2 ⟨fun q => absurd q (by omega), fun _ => ⟨fun _ => b_60_4 ⟨⟨by omega, by omega⟩, ?_⟩, fun q => absurd (by omega) q⟩⟩
        have := ot (n - 1) m e.symm (by omega) (by omega) (by omega) rfl
        rw [show (((n - 1 : Nat)) : Int) = (n : Int) - 1 by omega] at this
        exact this
      · rw [show (m : Int) + -1 = m - 1 by omega]
        refine ih (by omega) ?_
        rw [he]
        simp only [falF]
        rw [if_pos (by omega)]
  have := fl (n - 1) (by omega) rfl
  rw [show (((n - 1 : Nat)) : Int) - 1 = (n : Int) - 2 by omega] at this
  exact m_60 (b_60_0 ⟨⟨by omega, by omega⟩, this⟩)
def FxB (M N : Mem) : Prop := ∀ c k, ¬ (75 ≤ c ∧ c ≤ 101) → ¬ (c = 74 ∧ (k = 3 ∨ k = 4)) → N c k = M c k
theorem FxB.s (f : FxB M N) : FxC M N := fun c k q => f c k (by omega) (by omega)
theorem s_56 (hb : BASE M) (hk : KB M) (n1 : 1 ≤ nmB M) (n5 : nmB M ≤ 5) (hQ : ∀ M', FxB M M' → (M' 74 4 = 0 ∨ M' 74 4 = 1) → BsX M (M' 74 4) (fun k => M' 101 k) → Q none M') : Mq sx L K0 R0 56 [vR 76] M Q := by
  obtain ⟨g1, g2, g3, g4, g5, g6, g7, g8, g9, g10, g11, g12, g13⟩ := hb.2.2.2.2.1
  have on := onF_B (b := areB M)
  have en : ((nmB M : Nat) : Int) = onF (areB M) := by unfold nmB; omega
  have fc := fc_B n1 n5
  refine m_56 (b_56_0 ⟨fun q => b_56_1 (s_75 fun M0 as f0 => ⟨rfl, ?_⟩), fun q => ?_⟩)
  · have as' : AsS M M0 := ⟨fun k hk => by rw [as.1 k hk, ms_c (by omega), ms_c (by omega)], fun i a b => by
      have := as.2 i a b
      rw [ms_c (by omega), ms_c (by omega), ms_c (by omega), ms_c (by omega), ms_c (by omega), ms_c (by omega)] at this
      exact this⟩
    have b0 : BFr M M0 := fun c k q => by rw [f0 c k (by unfold baseC at q; omega), ms_c (by unfold baseC at q; omega), ms_c (by unfold baseC at q; omega)]
    have fx0 : FxB M M0 := fun c k a b => by rw [f0 c k (by omega), ms_ne (by omega), ms_ne (by omega)]
    have e4 : M0 74 4 = 0 := by rw [f0 _ _ (by omega), ms_eq]
    have tr0 := as'.tr hb b0
    refine s_59 (hb.fr b0) fun M1 h1 f1 => ⟨_, rfl, ?_⟩
    rw [b0.are] at h1 ⊢
    rw [← en]
    -- all orders
    have main : ∀ (d m : Nat) (M1 : Mem) (u4 : AV), fcN (nmB M) - m = d → cat2 u4 = false → FxB M M1 → M1 74 4 = 0 → (∃ rk, TrG M M1 (areB M) (M 104 22) (M 104 23) rk (fun _ => 0)) → (∀ t, 0 ≤ t → t < 8 → tb (areB M) t = false → M1 98 t = M 111 t) → (∀ k : Int, 0 ≤ k → k < nmB M → M1 101 k = oM M m k) → (∀ i, i < m → ltO M i) → m < fcN (nmB M) → Rn sx L K0 R0 56 2 [vR 76, vI (nmB M), vI 1, vI m, u4] [] M1 Q := by
      intro d
      induction d with
      | zero => intro m M1 u4 e _ _ _ _ _ _ _ hm; omega
      | succ d ih =>
        intro m M1 u4 hd hu fx e4 ⟨rk, tr⟩ hz ho hl hm
        obtain ⟨o1, o2, o3, o4⟩ := oM_ok n1 n5 hm
        refine b_56_2 hu ⟨fun q => absurd q (by omega), fun _ => ⟨fun q => absurd q (by omega), fun _ => ?_⟩⟩
        refine lpM (N := (nmB M : Int)) (I := fun k M2 => (∀ c j, ¬ c = 98 → M2 c j = M1 c j) ∧ ∀ t, 0 ≤ t → t < 8 → M2 98 t = rkF (oM M m) (M1 98) k.toNat t) (G := fun k M2 => Rn sx L K0 R0 56 3 [vR 76, vI (nmB M), vI 1, vI m, vI k] [] M2 Q) (fun k M2 k0 k1 hI ihk => ?_) (fun M2 hI => b_56_3 ⟨fun _ => b_56_4 ?_, fun q => absurd (Int.le_refl _) q⟩) 0 M1 (by omega) (by omega) ⟨fun _ _ _ => rfl, fun _ _ _ => rfl⟩
        · obtain ⟨i1, i2⟩ := hI
          have ek : M2 101 k = oM M m k := by rw [i1 _ _ (by omega)]; exact ho k k0 k1
          have ob := o1 k k0 k1
          refine b_56_3 ⟨fun q => absurd q (by omega), fun _ => s_58 k0 (by omega) (by omega) ⟨_, rfl, ⟨by omega, by omega⟩, ⟨by omega, by omega⟩, ⟨by omega, by omega⟩, ihk _ ⟨fun c j q => by rw [ms_c q]; exact i1 c j q, fun t t0 t1 => ?_⟩⟩⟩
          rw [ek, show (k + 1).toNat = k.toNat + 1 by omega]
          simp only [rkF]
          rw [Int.toNat_of_nonneg k0]
          by_cases e : t = oM M m k
          · rw [if_pos e, e, ms_eq]
          · rw [if_neg e, ms_k e]; exact i2 t t0 t1
        · obtain ⟨i1, i2⟩ := hI
          have er : ∀ t, 0 ≤ t → t < 8 → M2 98 t = rkO M m t := fun t t0 t1 => by
            rw [i2 t t0 t1, Int.toNat_natCast]
            refine rkF_c _ ?_
            cases hA : tb (areB M) t
            · exact Or.inr (hz t t0 t1 hA)
            · exact Or.inl (o2 t t0 t1 hA)
          have tr2 : TrG M M2 (areB M) (M 104 22) (M 104 23) (rkO M m) (fun _ => 0) := TrM.sw tr i1 er
          have e977 : M2 97 7 = M 104 25 := by rw [tr2.2.2.2.2.2.1, g12]
          rw [e977]
          refine s_36G hb tr2 (OKO hb) (by omega) g11 fun M3 g f3 tr3 => ⟨rfl, fun q => ?_, fun q => ?_⟩
          · have late : ltO M m := g.2.1.mp (by rcases g.1 with z | z; exact absurd z q; exact z)
            have f13 : ∀ c k, ¬ (75 ≤ c ∧ c ≤ 100) → M3 c k = M1 c k := fun c k p => by rw [f3 c k (by unfold outB; omega), i1 c k (by omega)]
            have fx3 : FxB M M3 := fun c k p r => by rw [f13 c k (by omega)]; exact fx c k p r
            have e43 : M3 74 4 = 0 := by rw [f13 _ _ (by omega)]; exact e4
            have ho3 : ∀ k : Int, 0 ≤ k → k < nmB M → M3 101 k = oM M m k := fun k k0 k1 => by rw [f13 _ _ (by omega)]; exact ho k k0 k1
            -- no more
            have stop : ∀ M4 : Mem, M4 = M3 → (∀ i, i < fcN (nmB M) → ltO M i) → Rn sx L K0 R0 56 6 [vR 76, vI (nmB M), vI 1, vI m, vI (nmB M)] [] M4 Q := by
              intro M4 e all
              subst e
              refine b_56_6 (b_56_7 ⟨⟨by omega, by omega⟩, b_56_2 rfl ⟨fun _ => b_56_8 rfl (hQ M4 fx3 (Or.inl e43) (Or.inl ⟨e43, all⟩)), fun _ => ⟨fun _ => b_56_8 rfl (hQ M4 fx3 (Or.inl e43) (Or.inl ⟨e43, all⟩)), fun w => absurd rfl w⟩⟩⟩)
            obtain ⟨pm1, pm2, pm3, pm4, pm5⟩ := pm_ok n1 n5 hm
            have o43 : ovr (nmB M) (enF (areB M) 8) (M3 101) (pF (nmB M) m) := fun k k0 k1 => by
              rw [ho3 k k0 k1]; exact o4 k k0 k1
            have ef := fal_m o3 o43 (nmB M - 1) (by omega)
            refine b_56_5 (s_79 (S := 97) (Or.inr rfl) fun r hr => ⟨r, rfl, fun w => stop M3 rfl fun i hi => ?_, fun w => s_60 n1 (by omega) (fun k k0 k1 => by rw [ho3 k k0 k1]; exact ⟨(o1 k k0 k1).1, (o1 k k0 k1).2.1⟩) (fun hf => ⟨0, rfl, fun _ => stop M3 rfl fun i hi => ?_, fun w => absurd rfl w⟩) fun hf M4 e4' f4 => ⟨1, rfl, fun w => absurd w (by omega), fun _ => b_56_7 ⟨⟨by omega, by omega⟩, ?_⟩⟩⟩)
            · rw [tr3.2.2.1, tr3.2.2.2.1] at hr
              exact (ltO_r (m := m) (i := i) (by omega) (by omega)).mpr late
            · by_cases z : m + 1 < fcN (nmB M)
              · have := (pm3 z).1; omega
              · by_cases e : i = m
                · rw [e]; exact late
                · exact hl i (by omega)
            · have z : m + 1 < fcN (nmB M) := by
                apply Classical.byContradiction
                intro z
                have := pm4 z; omega
              have nm := nx_m n1 o3 o43 (by omega)
              have nx := ih (m + 1) M4 (vI (nmB M)) (by omega) rfl (fun c k p r => by rw [f4 c k (by omega)]; exact fx3 c k p r) (by rw [f4 _ _ (by omega)]; exact e43) ⟨_, tr3.fr (fun c k p => f4 c k (by unfold baseC at p; omega)) fun c k p => f4 c k (by omega)⟩ (fun t t0 t1 hA => ?_) (fun k k0 k1 => ?_) (fun i hi => ?_) z
              · rw [show ((m : Int) + 1) = ((m + 1 : Nat) : Int) by omega]
                exact nx
              · rw [f4 _ _ (by omega), (tr3.2.2.2.2.2.2.2 t t0 t1).1]
                unfold rkO
                exact rkF_n _ fun k hk e => by
                  have := (o1 k (by omega) (by omega)).2.2
                  rw [e, hA] at this
                  exact absurd this (by decide)
              · rw [e4', (nm.2 k k0 k1).1, (pm3 z).2 k k0 k1]
                rfl
              · by_cases e : i = m
                · rw [e]; exact late
                · exact hl i (by omega)
          · have nl : ¬ ltO M m := fun w => by
              have := g.2.1.mpr w
              have := Decidable.not_not.mp q
              omega
            have f13 : ∀ c k, ¬ (75 ≤ c ∧ c ≤ 100) → ¬ (c = 74 ∧ k = 4) → mset M3 74 4 1 c k = M1 c k := fun c k p r => by rw [ms_ne r, f3 c k (by unfold outB; omega), i1 c k (by omega)]
            refine hQ _ (fun c k p r => by rw [f13 c k (by omega) (by omega)]; exact fx c k p r) (Or.inr ms_eq) (Or.inr ⟨ms_eq, m, hm, nl, hl, fun k k0 k1 => ?_⟩)
            show mset M3 74 4 1 101 k = _
            rw [f13 101 k (by omega) (by omega)]; exact ho k k0 k1
    have b1 : BFr M0 M1 := fun c k q => f1 c k (by unfold baseC at q; omega)
    have tr1 := tr0.fr b1 fun c k q => f1 c k (by omega)
    obtain ⟨_, _, _, _, pm5⟩ := pm_ok (m := 0) n1 n5 (by omega)
    refine main _ 0 M1 vU rfl rfl (fun c k p r => by rw [f1 c k (by omega)]; exact fx0 c k p r) (by rw [f1 _ _ (by omega)]; exact e4) ⟨_, tr1⟩ (fun t t0 t1 _ => (tr1.2.2.2.2.2.2.2 t t0 t1).1) (fun k k0 k1 => ?_) (fun i hi => by omega) (by omega)
    rw [h1 k k0 (by omega)]
    unfold oM
    rw [pm5 k k0 k1]
  · rcases hk with w | w
    · exact absurd w q
    · refine hQ M (fun _ _ _ _ => rfl) ?_ w
      rcases w with w | w
      · exact Or.inl w.1
      · exact Or.inr w.1
end

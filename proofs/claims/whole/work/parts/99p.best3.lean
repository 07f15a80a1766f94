/-! the best ranks: the reference -/
section
variable {sx : Int → Int} {L : Nat} {M M1 N : Mem} {Q : Option AV → Mem → Prop} {SR : (Mem → Prop) × (Mem → Prop)} {n : Nat}
theorem s_202 (n1 : 1 ≤ n) (n5 : n ≤ 5) (hQ0 : falF (M1 138) (n - 1) < 0 → Q (some (vI 0)) M1) (hQ1 : 0 ≤ falF (M1 138) (n - 1) → ∀ M2 : Mem, M2 138 = nxO n (M1 138) → (∀ c k, ¬ c = 138 → M2 c k = M1 c k) → Q (some (vI 1)) M2) : Mq sx L K0 R0 202 [vR 106, vI n] M1 Q := by
  have fb := fal_B (o := M1 138) (n - 1)
  have rv : ∀ (f : Nat) (x2 x3 x4 l h : Int) (M2 : Mem), 0 ≤ l → h < n → h - l ≤ 2 * f → (∀ c k, ¬ c = 138 → M2 c k = M1 c k) → (∀ M3 : Mem, M3 138 = rvF f l h (M2 138) → (∀ c k, ¬ c = 138 → M3 c k = M1 c k) → Q (some (vI 1)) M3) → Rn sx L K0 R0 202 6 [vR 106, vI n, vI x2, vI x3, vI x4, vI l, vI h] [] M2 Q := by
    intro f
    induction f with
    | zero => intro x2 x3 x4 l h M2 l0 h1 hl f2 hq; exact b_202_6 ⟨fun _ => b_202_7 (hq M2 rfl f2), fun q => absurd (by omega) q⟩
    | succ f ih =>
      intro x2 x3 x4 l h M2 l0 h1 hl f2 hq
      refine b_202_6 ⟨fun q => b_202_7 (hq M2 ?_ f2), fun q => ⟨⟨by omega, by omega⟩, ⟨by omega, by omega⟩, ⟨by omega, by omega⟩, ⟨by omega, by omega⟩, ⟨by omega, by omega⟩, ⟨by omega, by omega⟩, ih _ _ _ _ _ _ (by omega) (by omega) (by omega) (fun c k p => by rw [ms_c p, ms_c p]; exact f2 c k p) fun M4 e4 f4 => hq M4 ?_ f4⟩⟩
      · simp only [rvF]
        rw [if_neg (by omega)]
      · simp only [rvF]
        rw [if_pos (by omega), e4, ms_sw, show h + -1 = h - 1 by omega]
  have ot : ∀ (m : Nat) (i : Int), i = falF (M1 138) (n - 1) → 0 ≤ i → i < m → m + 1 ≤ n → othF (M1 138) i (n - 1) = othF (M1 138) i m → Rn sx L K0 R0 202 4 [vR 106, vI n, vI i, vI m, vU, vU, vU] [] M1 Q := by
    intro m
    induction m with
    | zero => intro i _ _ _; omega
    | succ m ih =>
      intro i ei i0 i1 hm he
      refine b_202_4 ⟨⟨by omega, by omega⟩, ⟨by omega, by omega⟩, fun q => ?_, fun q => ⟨⟨by omega, by omega⟩, ?_⟩⟩
      · have eo : othF (M1 138) i (n - 1) = (m : Int) + 1 := by
          rw [he]
          simp only [othF]
          rw [if_neg (by rw [show ((m : Int) + 1) = ((m + 1 : Nat) : Int) by omega]; omega)]
        refine b_202_5 ⟨⟨by omega, by omega⟩, ⟨by omega, by omega⟩, ⟨by omega, by omega⟩, ⟨by omega, by omega⟩, ⟨by omega, by omega⟩, ⟨by omega, by omega⟩, rv 8 _ _ _ _ _ _ (by omega) (by omega) (by omega) (fun c k p => by rw [ms_c p, ms_c p]) fun M3 e3 f3 => hQ1 (by omega) M3 ?_ f3⟩
        unfold nxO
        rw [← ei, eo, e3, ms_sw]
        rfl
      · have c1 : M1 138 ((m : Int) + 1) < M1 138 i := by rw [show ((m : Int) + 1) = ((m + 1 : Nat) : Int) by omega]; omega
        have ne : i < m := by
          by_cases z : i = m
          · have := fb.2.2 (by omega)
            rw [← ei, z] at this
            rw [z] at c1
            exact absurd c1 this
          · omega
        rw [show ((m + 1 : Nat) : Int) + -1 = m by omega]
        refine ih i ei i0 ne (by omega) ?_
        rw [he]
        simp only [othF]
        rw [if_pos c1]
  have fl : ∀ m : Nat, m + 1 ≤ n → falF (M1 138) (n - 1) = falF (M1 138) m → Rn sx L K0 R0 202 1 [vR 106, vI n, vI ((m : Int) - 1), vU, vU, vU, vU] [] M1 Q := by
    intro m
    induction m with
    | zero =>
      intro _ he
      have e0 : falF (M1 138) 0 = -1 := rfl
      exact b_202_1 ⟨fun _ => b_202_2 ⟨fun q => absurd q (by omega), fun _ => hQ0 (by omega)⟩, fun q => absurd (by omega) q⟩
    | succ m ih =>
      intro hm he
      rw [show ((m + 1 : Nat) : Int) - 1 = m by omega]
      refine b_202_1 ⟨fun q => absurd q (by omega), fun _ => ⟨⟨by omega, by omega⟩, ⟨by omega, by omega⟩, ⟨by omega, by omega⟩, fun q => ?_, fun q => ⟨⟨by omega, by omega⟩, ?_⟩⟩⟩
      · have e : falF (M1 138) (n - 1) = m := by
          rw [he]
          simp only [falF]
          rw [if_neg (by omega)]
        refine b_202_2 ⟨fun _ => b_202_3 ⟨⟨by omega, by omega⟩, ?_⟩, fun q => absurd (by omega) q⟩
        have := ot (n - 1) m e.symm (by omega) (by omega) (by omega) rfl
        rw [show (((n - 1 : Nat)) : Int) = (n : Int) - 1 by omega] at this
        exact this
      · rw [show (m : Int) + -1 = m - 1 by omega]
        refine ih (by omega) ?_
        rw [he]
        simp only [falF]
        rw [if_pos (by omega)]
  have := fl (n - 1) (by omega) rfl
  rw [show (((n - 1 : Nat)) : Int) - 1 = (n : Int) - 2 by omega] at this
  exact m_202 (b_202_0 ⟨⟨by omega, by omega⟩, this⟩)
theorem s_203 (hs : SROK SR) (hb : BASE M) (hI : INV0 SR N) (bf : BFr M N) (n1 : 1 ≤ nmB M) (n5 : nmB M ≤ 5) (hQ : ∀ N' r, INVM SR N' → BFr M N' → (r = 0 ∨ r = 1) → BsX M r (fun k => N' 138 k) → Q (some (vI r)) N') : Mq sx L K0 R0 203 [vR 106, vI (areB M)] N Q := by
  have on := onF_B (b := areB M)
  have aB := areB_B (M := M)
  have en : ((nmB M : Nat) : Int) = onF (areB M) := by unfold nmB; omega
  have fc := fc_B n1 n5
  refine m_203 (b_203_0 ?_)
  refine lpM (N := 8) (I := fun i N2 => (∀ c k, ¬ c = 138 → N2 c k = N c k) ∧ ∀ k, 0 ≤ k → k < cbF (areB M) i.toNat → N2 138 k = enF (areB M) i.toNat k) (G := fun i N2 => Rn sx L K0 R0 203 1 [vR 106, vI (areB M), vI (cbF (areB M) i.toNat), vI i, vU] [] N2 Q) (fun i N2 i0 i1 hJ ih => ?_) (fun N1 hJ => b_203_1 ⟨fun _ => b_203_3 ?_, fun q => absurd (Int.le_refl _) q⟩) 0 _ (by omega) (by omega) ⟨fun _ _ _ => rfl, fun k a c => ?_⟩
  · obtain ⟨j1, j2⟩ := hJ
    have c0 := cb_0 (A := areB M) i.toNat
    have ii : ((i.toNat : Nat) : Int) = i := Int.toNat_of_nonneg i0
    have e := bt_eq (i := i) aB
    rw [show (i + 1).toNat = i.toNat + 1 by omega, cb_s, ii] at ih
    cases hA : tb (areB M) i
    · rw [hA, if_neg (by decide)] at e ih
      rw [Int.add_zero] at ih
      refine b_203_1 ⟨fun q => absurd q (by omega), fun _ => ⟨⟨aB.1, i0, by omega⟩, fun _ => b_203_2 ⟨⟨by omega, by omega⟩, ih N2 ⟨j1, fun k a c => ?_⟩⟩, fun q => absurd (by omega) q⟩⟩
      simp only [enF]
      rw [if_neg fun w => by rw [ii, hA] at w; exact absurd w.1 (by decide)]
      exact j2 k a c
    · rw [hA, if_pos rfl] at e ih
      have cl : cbF (areB M) (i.toNat + 1) ≤ onF (areB M) := by
        have mono : ∀ d : Nat, cbF (areB M) (i.toNat + 1) ≤ cbF (areB M) (i.toNat + 1 + d) := by
          intro d
          induction d with
          | zero => exact Int.le_refl _
          | succ d ihd =>
            have ec := cb_s (A := areB M) (i.toNat + 1 + d)
            have := r01 (p := tb (areB M) ((i.toNat + 1 + d : Nat) : Int))
            rw [show i.toNat + 1 + (d + 1) = i.toNat + 1 + d + 1 by omega]
            omega
        have := mono (7 - i.toNat)
        rw [show i.toNat + 1 + (7 - i.toNat) = 8 by omega] at this
        exact this
      rw [cb_s, ii, hA, if_pos rfl] at cl
      refine b_203_1 ⟨fun q => absurd q (by omega), fun _ => ⟨⟨aB.1, i0, by omega⟩, fun q => absurd e q, fun _ => ⟨⟨by omega, by omega⟩, ⟨by omega, by omega⟩, b_203_2 ⟨⟨by omega, by omega⟩, ih _ ⟨fun c k q => by rw [ms_c q]; exact j1 c k q, fun k a c => ?_⟩⟩⟩⟩⟩
      simp only [enF]
      by_cases e : k = cbF (areB M) i.toNat
      · rw [if_pos ⟨by rw [ii]; exact hA, e⟩, e, ms_eq, ii]
      · rw [if_neg fun w => e w.2, ms_k e]
        exact j2 k a (by omega)
  · obtain ⟨j1, j2⟩ := hJ
    have fx1 : FxR N N1 := fun c k a b => j1 c k (by omega)
    have cn : cbF (areB M) (8 : Int).toNat = (nmB M : Int) := by rw [en]; rfl
    rw [cn] at j2 ⊢
    refine s_159G hs (hI.fx hs fx1) (bf.tr fx1.bf) fun N2 as2 i2 f2 => ⟨rfl, ?_⟩
    have main : ∀ (d m : Nat) (N : Mem) (u4 : AV), fcN (nmB M) - m = d → cat2 u4 = false → INV0 SR N → (∃ rk, AsG M N (areB M) (M 104 22) (M 104 23) rk (fun _ => 0)) → (∀ t, 0 ≤ t → t < 8 → tb (areB M) t = false → N 121 t = M 111 t) → (∀ k : Int, 0 ≤ k → k < nmB M → N 138 k = oM M m k) → (∀ i, i < m → ltO M i) → m < fcN (nmB M) → Rn sx L K0 R0 203 4 [vR 106, vI (areB M), vI (nmB M), vI 1, u4] [] N Q := by
      intro d
      induction d with
      | zero => intro m N u4 e _ _ _ _ _ _ hm; omega
      | succ d ih =>
        intro m N u4 hd hu i0 ⟨rk, as⟩ hz ho hl hm
        obtain ⟨o1, o2, o3, o4⟩ := oM_ok n1 n5 hm
        refine b_203_4 hu ⟨fun q => absurd q (by omega), fun _ => ?_⟩
        refine lpM (N := (nmB M : Int)) (I := fun k N2 => (∀ c j, ¬ c = 121 → N2 c j = N c j) ∧ ∀ t, 0 ≤ t → t < 8 → N2 121 t = rkF (oM M m) (N 121) k.toNat t) (G := fun k N2 => Rn sx L K0 R0 203 5 [vR 106, vI (areB M), vI (nmB M), vI 1, vI k] [] N2 Q) (fun k N2 k0 k1 hI ihk => ?_) (fun N2 hI => b_203_5 ⟨fun _ => b_203_6 ?_, fun q => absurd (Int.le_refl _) q⟩) 0 N (by omega) (by omega) ⟨fun _ _ _ => rfl, fun _ _ _ => rfl⟩
        · obtain ⟨i1, i2⟩ := hI
          have ek : N2 138 k = oM M m k := by rw [i1 _ _ (by omega)]; exact ho k k0 k1
          have ob := o1 k k0 k1
          refine b_203_5 ⟨fun q => absurd q (by omega), fun _ => ⟨⟨by omega, by omega⟩, ⟨by omega, by omega⟩, ⟨by omega, by omega⟩, ⟨by omega, by omega⟩, ihk _ ⟨fun c j q => by rw [ms_c q]; exact i1 c j q, fun t t0 t1 => ?_⟩⟩⟩
          rw [ek, show (k + 1).toNat = k.toNat + 1 by omega]
          simp only [rkF]
          rw [Int.toNat_of_nonneg k0]
          by_cases e : t = oM M m k
          · rw [if_pos e, e, ms_eq]
          · rw [if_neg e, ms_k e]; exact i2 t t0 t1
        · obtain ⟨i1, i2⟩ := hI
          have er : ∀ t, 0 ≤ t → t < 8 → N2 121 t = rkO M m t := fun t t0 t1 => by
            rw [i2 t t0 t1, Int.toNat_natCast]
            refine rkF_c _ ?_
            cases hA : tb (areB M) t
            · exact Or.inr (hz t t0 t1 hA)
            · exact Or.inl (o2 t t0 t1 hA)
          have fx : FxR N N2 := fun c k p _ => i1 c k (by omega)
          have as2 : AsG M N2 (areB M) (M 104 22) (M 104 23) (rkO M m) (fun _ => 0) := by
            obtain ⟨b1, b2, b3, b4, b5, b6, b7, b8⟩ := id as
            exact as.up fx (i1 _ _ (by omega)) (by rw [i1 _ _ (by omega)]; exact b4) (by rw [i1 _ _ (by omega)]; exact b7) (by rw [i1 _ _ (by omega)]; exact b8) fun t x y => ⟨er t x y, by rw [i1 _ _ (by omega)]; exact (b5 t x y).2⟩
          refine s_201G hs hb (OKO hb) as2 (i0.fx hs fx) fun r N3 r0 rl res as3 i3 e26 fx3 e138 _ => ⟨_, rfl, fun q => ?_, fun q => ?_⟩
          · have late : ltO M m := rl.mp (by omega)
            have ho3 : ∀ k : Int, 0 ≤ k → k < nmB M → N3 138 k = oM M m k := fun k k0 k1 => by rw [e138, i1 _ _ (by omega)]; exact ho k k0 k1
            obtain ⟨pm1, pm2, pm3, pm4, pm5⟩ := pm_ok n1 n5 hm
            have o43 : ovr (nmB M) (enF (areB M) 8) (N3 138) (pF (nmB M) m) := fun k k0 k1 => by
              rw [ho3 k k0 k1]; exact o4 k k0 k1
            have ef := fal_m o3 o43 (nmB M - 1) (by omega)
            refine b_203_7 (s_202 n1 n5 (fun hf => ⟨0, rfl, b_203_4 rfl ⟨fun _ => b_203_8 rfl (hQ N3 0 ⟨i3, Or.inl e26⟩ as3.1 (Or.inl rfl) (Or.inl ⟨rfl, fun i hi => ?_⟩)), fun q => absurd rfl q⟩⟩) fun hf N4 e4 f4 => ⟨1, rfl, ?_⟩)
            · by_cases z : m + 1 < fcN (nmB M)
              · have := (pm3 z).1; omega
              · by_cases e : i = m
                · rw [e]; exact late
                · exact hl i (by omega)
            · have z : m + 1 < fcN (nmB M) := by
                apply Classical.byContradiction
                intro z
                have := pm4 z; omega
              have nm := nx_m n1 o3 o43 (by omega)
              have fx4 : FxR N3 N4 := fun c k p _ => f4 c k (by omega)
              have as4 : AsG M N4 (areB M) (M 104 22) (M 104 23) (rkO M m) (fun _ => 0) := by
                obtain ⟨b1, b2, b3, b4, b5, b6, b7, b8⟩ := id as3
                exact as3.up fx4 (f4 _ _ (by omega)) (by rw [f4 _ _ (by omega)]; exact b4) (by rw [f4 _ _ (by omega)]; exact b7) (by rw [f4 _ _ (by omega)]; exact b8) fun t x y => by rw [f4 _ _ (by omega), f4 _ _ (by omega)]; exact b5 t x y
              refine ih (m + 1) N4 _ (by omega) rfl (i3.fx hs fx4) ⟨_, as4⟩ (fun t t0 t1 hA => ?_) (fun k k0 k1 => ?_) (fun i hi => ?_) z
              · rw [(as4.2.2.2.2.1 t t0 t1).1]
                unfold rkO
                exact rkF_n _ fun k hk e => by
                  have := (o1 k (by omega) (by omega)).2.2
                  rw [e, hA] at this
                  exact absurd this (by decide)
              · rw [e4, (nm.2 k k0 k1).1, (pm3 z).2 k k0 k1]
                rfl
              · by_cases e : i = m
                · rw [e]; exact late
                · exact hl i (by omega)
          · have nl : ¬ ltO M m := fun w => by
              have := rl.mpr w
              have := Decidable.not_not.mp q
              omega
            refine hQ N3 1 ⟨i3, Or.inl e26⟩ as3.1 (Or.inr rfl) (Or.inr ⟨rfl, m, hm, nl, hl, fun k k0 k1 => ?_⟩)
            show N3 138 k = _
            rw [e138, i1 _ _ (by omega)]; exact ho k k0 k1
    obtain ⟨_, _, _, _, pm5⟩ := pm_ok (m := 0) n1 n5 (by omega)
    refine main _ 0 N2 vU rfl rfl i2 ⟨_, as2⟩ (fun t t0 t1 _ => (as2.2.2.2.2.1 t t0 t1).1) (fun k k0 k1 => ?_) (fun i hi => by omega) (by omega)
    rw [f2 _ _ (by omega) (by omega), j2 k k0 k1]
    unfold oM
    rw [pm5 k k0 k1]
    rfl
  · have : cbF (areB M) (0 : Int).toNat = 0 := rfl
    omega
end

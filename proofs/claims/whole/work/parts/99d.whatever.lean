/-! whatever the beginnings are late by: the class -/
section
variable {sx : Int → Int} {L : Nat} {M M1 N : Mem} {Q : Option AV → Mem → Prop} {SR : (Mem → Prop) × (Mem → Prop)}
def rsF (A c w : Int) : Nat → Int
  | 0 => w
  | n + 1 => if tb A n = true then rsF A c w n / c else rsF A c w n
def dlF (A c w t : Int) : Int := if tb A t = true then rsF A c w t.toNat % c else 0
theorem rsF_0 {A c w : Int} (w0 : 0 ≤ w) (c0 : 0 < c) (n : Nat) : 0 ≤ rsF A c w n ∧ rsF A c w n ≤ w := by
  induction n with
  | zero => simp only [rsF]; omega
  | succ n ih =>
    simp only [rsF]
    split
    · exact ⟨Int.ediv_nonneg ih.1 (by omega), Int.le_trans (Int.ediv_le_self _ ih.1) ih.2⟩
    · exact ih
theorem rsF_s {A c w k : Int} (k0 : 0 ≤ k) : rsF A c w (k + 1).toNat = if tb A k = true then rsF A c w k.toNat / c else rsF A c w k.toNat := by
  rw [show (k + 1).toNat = k.toNat + 1 by omega]
  simp only [rsF, Int.toNat_of_nonneg k0]
theorem dlF_B {A c w t : Int} (c0 : 1 ≤ c) (c4 : c ≤ 4) : 0 ≤ dlF A c w t ∧ dlF A c w t ≤ 3 := by
  unfold dlF
  split
  · have a := Int.emod_nonneg (rsF A c w t.toNat) (show c ≠ 0 by omega)
    have b := Int.emod_lt_of_pos (rsF A c w t.toNat) (show 0 < c by omega)
    omega
  · omega
def pwF (c : Int) : Nat → Int
  | 0 => 1
  | n + 1 => pwF c n * c
theorem pwF_B {c : Int} (c0 : 1 ≤ c) (c4 : c ≤ 4) (n : Nat) (hn : n ≤ 4) : 1 ≤ pwF c n ∧ pwF c n ≤ 256 := by
  have hc : c = 1 ∨ c = 2 ∨ c = 3 ∨ c = 4 := by omega
  have hn' : n = 0 ∨ n = 1 ∨ n = 2 ∨ n = 3 ∨ n = 4 := by omega
  rcases hc with rfl | rfl | rfl | rfl <;> rcases hn' with rfl | rfl | rfl | rfl | rfl <;> simp [pwF]
abbrev dlW (M : Mem) (j w : Int) : Int → Int := dlF (areB M) (j + 1) w
theorem OKW {j w : Int} (hb : BASE M) (j1 : 1 ≤ j) (j3 : j ≤ 3) : OKG M (areB M) (M 104 22) (M 104 23) (fun t => M 111 t) (dlW M j w) := by
  obtain ⟨h1, h2, h3, h4, h5, h6, h7⟩ := OKG0 hb
  exact ⟨h1, h2, h3, h4, h5, h6, fun t a b => ⟨(h7 t a b).1, (h7 t a b).2.1, dlF_B (by omega) (by omega)⟩⟩
abbrev ltW (M : Mem) (j w : Int) : Prop := ltG M (areB M) (M 104 22) (M 104 23) (fun t => M 111 t) (dlW M j w) (M 104 25)
noncomputable abbrev lgW (M : Mem) (j w t : Int) : Int := lgG M (areB M) (M 104 22) (M 104 23) (fun t => M 111 t) (dlW M j w) (M 104 25) t
def wyN (M : Mem) (j : Int) : Int := pwF (j + 1) (onF (areB M)).toNat
noncomputable def lwW (M : Mem) (j n : Int) : Int := sumI n.toNat fun w => l01 (ltW M j w)
noncomputable def mxW (M : Mem) (j n t : Int) : Int := maxI n.toNat fun w => lgW M j w t
/-- what is kept of it -/
def KW (M : Mem) : Prop := M 74 10 = 0 ∨ (1 ≤ M 74 10 ∧ M 74 10 ≤ 3 ∧ M 74 12 = lwW M (M 74 10) (wyN M (M 74 10)) ∧ ∀ t, 0 ≤ t → t < 8 → M 102 t = mxW M (M 74 10) (wyN M (M 74 10)) t)
theorem bmW {j : Int} (hb : BASE M) (b : BFr M N) (j1 : 1 ≤ j) (j3 : j ≤ 3) : wyN N j = wyN M j ∧ (∀ n, lwW N j n = lwW M j n) ∧ ∀ n t, 0 ≤ t → t < 8 → mxW N j n t = mxW M j n t := by
  obtain ⟨g1, g2, g3, g4, g5, g6, g7, g8, g9, g10, g11, g12, g13⟩ := hb.2.2.2.2.1
  have e111 : (fun t => N 111 t) = fun t => M 111 t := funext fun t => b.a (c := 111) (by omega) t
  have ed : ∀ w, dlW N j w = dlW M j w := fun w => by unfold dlW; rw [b.are]
  refine ⟨by unfold wyN; rw [b.are], fun n => ?_, fun n t t0 t1 => ?_⟩
  · unfold lwW ltW
    rw [b.are, b.m (k := 22) (by omega), b.m (k := 23) (by omega), b.m (k := 25) (by omega), e111]
    refine sumI_congr fun w _ _ => l01_c ?_
    rw [ed]
    exact ltG.bm hb (OKW hb j1 j3) b.sy (by omega) g11
  · unfold mxW lgW
    rw [b.are, b.m (k := 22) (by omega), b.m (k := 23) (by omega), b.m (k := 25) (by omega), e111]
    refine maxI_congr fun w _ _ => ?_
    rw [ed]
    exact lgG.bm hb (OKW hb j1 j3) b.sy (by omega) g11 t0 t1
theorem KW.fr (hb : BASE M) (h : KW M) (b : BFr M N) (f : ∀ k, (k = 10 ∨ k = 12) → N 74 k = M 74 k) (g : ∀ k, N 102 k = M 102 k) : KW N := by
  unfold KW
  rw [f 10 (by omega), f 12 (by omega)]
  rcases h with h | ⟨h1, h2, h3, h4⟩
  · exact Or.inl h
  · obtain ⟨e1, e2, e3⟩ := bmW hb b h1 h2
    refine Or.inr ⟨h1, h2, by rw [e1, e2]; exact h3, fun t t0 t1 => ?_⟩
    rw [g, e1, e3 _ _ t0 t1]; exact h4 t t0 t1
theorem s_66 {w c : Int} (hb : BASE M1) (w0 : 0 ≤ w) (c0 : 0 < c) (hz : ∀ t, 0 ≤ t → t < 8 → tb (areB M1) t = false → M1 100 t = 0) (hQ : ∀ M2, (∀ t, 0 ≤ t → t < 8 → M2 100 t = dlF (areB M1) c w t) → (∀ c k, ¬ c = 100 → M2 c k = M1 c k) → Q none M2) : Mq sx L K0 R0 66 [vR 76, vI w, vI c] M1 Q := by
  refine m_66 (b_66_0 ?_)
  refine lpM (N := 8) (I := fun k M2 => (∀ t, 0 ≤ t → t < k → M2 100 t = dlF (areB M1) c w t) ∧ (∀ t, k ≤ t → M2 100 t = M1 100 t) ∧ ∀ c k, ¬ c = 100 → M2 c k = M1 c k) (G := fun k M2 => Rn sx L K0 R0 66 1 [vR 76, vI w, vI c, vI (rsF (areB M1) c w k.toNat), vI k] [] M2 Q) (fun k M2 k0 k1 hI ih => ?_) (fun M2 hI => b_66_1 ⟨fun _ => b_66_3 (hQ M2 (fun t a b => hI.1 t a b) hI.2.2), fun q => absurd (by omega) q⟩) 0 _ (by omega) (by omega) ⟨fun t a b => by omega, fun _ _ => rfl, fun _ _ _ => rfl⟩
  obtain ⟨i1, i2, i3⟩ := hI
  have r := rsF_0 (A := areB M1) (n := k.toNat) w0 c0
  have bf : BFr M1 M2 := fun c k q => i3 c k (by unfold baseC at q; omega)
  rw [rsF_s k0] at ih
  refine b_66_1 ⟨fun q => absurd q (by omega), fun _ => ⟨fun q => absurd q (by omega), fun _ => s_78 (hb.fr bf) k0 k1 fun r1 hr => ⟨r1, rfl, fun q => ?_, fun q => ?_⟩⟩⟩
  · rw [bf.are] at hr
    have hf : tb (areB M1) k = false := by
      rcases hr with z | z
      · omega
      · exact z.1
    rw [hf, if_neg (by decide)] at ih
    refine b_66_2 ⟨⟨by omega, by omega⟩, ih _ ⟨fun t a b => ?_, fun t a => i2 t (by omega), i3⟩⟩
    by_cases e : t = k
    · rw [e, i2 k (by omega), hz k k0 k1 hf]
      unfold dlF
      rw [hf, if_neg (by decide)]
    · exact i1 t a (by omega)
  · rw [bf.are] at hr
    have hf : tb (areB M1) k = true := by
      rcases hr with z | z
      · exact z.1
      · omega
    rw [hf, if_pos rfl] at ih
    refine ⟨⟨r.1, c0⟩, ⟨k0, k1⟩, ⟨r.1, c0⟩, b_66_2 ⟨⟨by omega, by omega⟩, ih _ ⟨fun t a b => ?_, fun t a => ?_, fun c k q => ?_⟩⟩⟩
    · by_cases e : t = k
      · rw [e, ms_eq]
        unfold dlF
        rw [hf, if_pos rfl]
      · rw [ms_k e]; exact i1 t a (by omega)
    · rw [ms_k (by omega)]; exact i2 t (by omega)
    · rw [ms_c q]; exact i3 c k q
/-- what it may change of the class -/
def FxW (M N : Mem) : Prop := ∀ c k, ¬ (75 ≤ c ∧ c ≤ 100) → ¬ c = 102 → ¬ (c = 74 ∧ (k = 10 ∨ k = 12)) → N c k = M c k
theorem FxW.s (f : FxW M N) : FxC M N := fun c k q => f c k (by omega) (by omega) (by omega)
theorem FxW.tf {N' : Mem} (f : FxW M N) (g : TrF N N') : FxW M N' := fun c k a b d => (g c k a).trans (f c k a b d)
theorem FxW.set {c : Nat} {k v : Int} (f : FxW M N) (h : c = 102 ∨ c = 74 ∧ (k = 10 ∨ k = 12)) : FxW M (mset N c k v) := fun c' k' a b d => by
  rw [ms_ne (by omega)]; exact f c' k' a b d
theorem s_65 {j : Int} (hb : BASE M) (hk : KW M) (j1 : 1 ≤ j) (j3 : j ≤ 3) (on4 : onF (areB M) ≤ 4) (hQ : ∀ M', FxW M M' → M' 74 10 = j → KW M' → Q none M') : Mq sx L K0 R0 65 [vR 76, vI j] M Q := by
  obtain ⟨g1, g2, g3, g4, g5, g6, g7, g8, g9, g10, g11, g12, g13⟩ := hb.2.2.2.2.1
  have gg := hb.2.2.2.2.2
  have on := onF_B (b := areB M)
  have al := are_lt (M := M)
  refine m_65 (b_65_0 ⟨fun q => b_65_1 (s_75 fun M0 as f0 => ⟨rfl, ?_⟩), fun q => hQ M (fun _ _ _ _ _ => rfl) (by omega) hk⟩)
  have as' : AsS M M0 := ⟨fun k hk => by rw [as.1 k hk, ms_c (by omega)], fun i a b => by
    have := as.2 i a b
    rw [ms_c (by omega), ms_c (by omega), ms_c (by omega)] at this
    exact this⟩
  have w0 : FxW M (mset M0 74 12 0) := by
    refine FxW.set (fun c k a b d => ?_) (by omega)
    rw [f0 c k (by omega), ms_ne (by omega)]
  have e10 : mset M0 74 12 0 74 10 = j := by rw [ms_k (by omega), f0 _ _ (by omega), ms_eq]
  have tr0 : TrG M (mset M0 74 12 0) (areB M) (M 104 22) (M 104 23) (fun t => M 111 t) (fun _ => 0) := (as'.tr hb (fun c k q => by rw [f0 c k (by unfold baseC at q; omega), ms_c (by unfold baseC at q; omega)])).fr (fun c k q => ms_c (by unfold baseC at q; omega)) fun c k q => ms_c (by omega)
  -- the rows of the longest
  refine lpM (N := 8) (I := fun k M1 => FxW M M1 ∧ M1 74 10 = j ∧ M1 74 12 = 0 ∧ TrG M M1 (areB M) (M 104 22) (M 104 23) (fun t => M 111 t) (fun _ => 0) ∧ ∀ t, 0 ≤ t → t < k → M1 102 t = -1) (G := fun k M1 => Rn sx L K0 R0 65 2 [vR 76, vI j, vI k, vU, vU] [] M1 Q) (fun k M1 k0 k1 hI ih => ?_) (fun M1 hI => b_65_2 ⟨fun _ => b_65_3 ?_, fun q => absurd (by omega) q⟩) 0 _ (by omega) (by omega) ⟨w0, e10, ms_eq, tr0, fun t a b => by omega⟩
  · obtain ⟨i1, i2, i3, i4, i5⟩ := hI
    refine b_65_2 ⟨fun q => absurd q (by omega), fun _ => ⟨⟨k0, k1⟩, ⟨by omega, by omega⟩, ih _ ⟨i1.set (by omega), by rw [ms_c (by omega)]; exact i2, by rw [ms_c (by omega)]; exact i3, i4.fr (fun c k q => ms_c (by unfold baseC at q; omega)) (fun c k q => ms_c (by omega)), fun t a b => ?_⟩⟩⟩
    by_cases e : t = k
    · rw [e, ms_eq]
    · rw [ms_k e]; exact i5 t a (by omega)
  obtain ⟨i1, i2, i3, i4, i5⟩ := hI
  have b1 := i1.s.bf
  have e60 : M1 6 0 = areB M := by rw [b1.a (c := 6) (by omega)]; exact gg
  rw [e60]
  refine s_226 al.1 al.2 ⟨_, rfl, ?_⟩
  -- the ways
  have ways : ∀ k, 0 ≤ k → k ≤ onF (areB M) → Rn sx L K0 R0 65 5 [vR 76, vI j, vI (wyN M j), vI 0, vU] [] M1 Q → Rn sx L K0 R0 65 4 [vR 76, vI j, vI (pwF (j + 1) k.toNat), vI (onF (areB M) - k), vU] [] M1 Q := by
    intro k k0 k1 out
    refine lpI (N := onF (areB M)) (G := fun k => Rn sx L K0 R0 65 4 [vR 76, vI j, vI (pwF (j + 1) k.toNat), vI (onF (areB M) - k), vU] [] M1 Q) (fun k k0 k1 ih => ?_) (b_65_4 ⟨fun _ => ?_, fun q => absurd (by omega) q⟩) k k0 k1
    · have p := pwF_B (c := j + 1) (by omega) (by omega) k.toNat (by omega)
      have p' := pwF_B (c := j + 1) (by omega) (by omega) (k.toNat + 1) (by omega)
      simp only [pwF] at p'
      rw [show (k + 1).toNat = k.toNat + 1 by omega, show onF (areB M) - (k + 1) = onF (areB M) - k + -1 by omega] at ih
      simp only [pwF] at ih
      exact b_65_4 ⟨fun q => absurd q (by omega), fun _ => ⟨⟨by omega, by omega⟩, ⟨by omega, by omega⟩, ⟨by omega, by omega⟩, ih⟩⟩
    · rw [show onF (areB M) - onF (areB M) = 0 by omega]
      exact out
  have wB := pwF_B (c := j + 1) (by omega) (by omega) (onF (areB M)).toNat (by omega)
  have ways0 := ways 0 (by omega) on.1
  rw [show (0 : Int).toNat = 0 from rfl, show onF (areB M) - 0 = onF (areB M) by omega] at ways0
  refine ways0 (b_65_5 ?_)
  -- each way
  suffices H : ∀ u4, cat2 u4 = false → Rn sx L K0 R0 65 6 [vR 76, vI j, vI (wyN M j), vI 0, u4] [] M1 Q from H vU rfl
  refine lpM (N := wyN M j) (I := fun k M2 => FxW M M2 ∧ M2 74 10 = j ∧ M2 74 12 = lwW M j k ∧ (∀ t, 0 ≤ t → t < 8 → M2 102 t = mxW M j k t) ∧ ∃ lt, TrG M M2 (areB M) (M 104 22) (M 104 23) (fun t => M 111 t) lt ∧ ∀ t, 0 ≤ t → t < 8 → tb (areB M) t = false → M2 100 t = 0) (G := fun k M2 => ∀ u4, cat2 u4 = false → Rn sx L K0 R0 65 6 [vR 76, vI j, vI (wyN M j), vI k, u4] [] M2 Q) (fun k M2 k0 k1 hI ih => ?_) (fun M2 hI u4 hu => b_65_6 hu ⟨fun _ => b_65_10 hu ?_, fun q => absurd (by omega) q⟩) 0 M1 (by omega) (by unfold wyN; omega) ⟨i1, i2, i3, fun t a b => i5 t a b, fun _ => 0, i4, fun t a b _ => (i4.2.2.2.2.2.2.2 t a b).2⟩
  · obtain ⟨i1, i2, i3, i4, lt, i5, i6⟩ := hI
    intro u4 hu
    have b2 := i1.s.bf
    refine b_65_6 hu ⟨fun q => absurd q (by omega), fun _ => ⟨⟨by omega, by omega⟩, ?_⟩⟩
    refine s_66 (hb.fr b2) k0 (by omega) (fun t a b w => i6 t a b (by rw [b2.are] at w; exact w)) fun M3 h3 f3 => ⟨rfl, ?_⟩
    rw [b2.are] at h3
    have tr3 : TrG M M3 (areB M) (M 104 22) (M 104 23) (fun t => M 111 t) (dlW M j k) := by
      obtain ⟨v1, v2, v3, v4, v5, v6, v7, v8⟩ := i5
      refine ⟨v1.tr fun c k q => f3 c k (by unfold baseC at q; omega), by rw [f3 _ _ (by omega)]; exact v2, by rw [f3 _ _ (by omega)]; exact v3, by rw [f3 _ _ (by omega)]; exact v4, by rw [f3 _ _ (by omega)]; exact v5, by rw [f3 _ _ (by omega)]; exact v6, by rw [f3 _ _ (by omega)]; exact v7, fun i a b => ⟨?_, h3 i a b⟩⟩
      rw [f3 _ _ (by omega)]; exact (v8 i a b).1
    have e977 : M3 97 7 = M 104 25 := by rw [tr3.2.2.2.2.2.1, g12]
    rw [e977]
    have ok := OKW (w := k) hb j1 j3
    refine s_36G hb tr3 ok (by omega) g11 fun M4 g f4 tr4 => ⟨rfl, ?_⟩
    have rf := g.2.2 (Or.inl rfl)
    have pds := PG_ok hb tr4 ok
    have pv := (pds.ok (hb.fr tr4.1)).1
    have ri := rn_R pv s00_ok (M 104 25).toNat (by omega)
    rw [Int.toNat_of_nonneg (by omega)] at ri
    have f24 : ∀ c k, ¬ (75 ≤ c ∧ c ≤ 100) → M4 c k = M2 c k := fun c k q => by
      rw [f4 c k (by unfold outB; omega), f3 c k (by omega)]
    have k256 : k < 256 := Int.lt_of_lt_of_le k1 (show wyN M j ≤ 256 from wB.2)
    have tail : ∀ M5 : Mem, (∀ c k, ¬ (c = 74 ∧ k = 12) → M5 c k = M4 c k) → M5 74 12 = lwW M j (k + 1) → Rn sx L K0 R0 65 7 [vR 76, vI j, vI (wyN M j), vI k, u4] [] M5 Q := by
      intro M5 f5 e5
      refine b_65_7 hu (lpM (N := 8) (I := fun i M6 => (∀ c k, ¬ c = 102 → M6 c k = M5 c k) ∧ (∀ t, 0 ≤ t → t < i → M6 102 t = mxW M j (k + 1) t) ∧ ∀ t, i ≤ t → M6 102 t = M5 102 t) (G := fun i M6 => Rn sx L K0 R0 65 8 [vR 76, vI j, vI (wyN M j), vI k, vI i] [] M6 Q) (fun i M6 x0 x1 hJ ih2 => ?_) (fun M6 hJ => bx_65_8 (by omega) (b_65_9 ⟨⟨by omega, by omega⟩, ih M6 ?_ _ rfl⟩)) 0 M5 (by omega) (by omega) ⟨fun _ _ _ => rfl, fun t a b => by omega, fun _ _ => rfl⟩)
      · obtain ⟨y1, y2, y3⟩ := hJ
        have f46 : ∀ c k, ¬ c = 102 → ¬ c = 74 → M6 c k = M4 c k := fun c k a b => by rw [y1 c k a, f5 c k (by omega)]
        have rf6 := rf.eq (M' := M6) (Or.inr rfl) fun c k q => f46 c k (by omega) (by omega)
        refine b_65_8 ⟨x0, x1⟩ ⟨fun q => absurd q (by omega), fun _ => s_11 (Or.inr rfl) x0 x1 pv (by omega) g11 rf6.1 rf6.2.1 ri (rf6.2.2.1 i x0 x1).1 ⟨_, rfl, ⟨by omega, by omega⟩, ih2 _ ⟨fun c k q => by rw [ms_c q]; exact y1 c k q, fun t a b => ?_, fun t a => by rw [ms_k (by omega)]; exact y3 t (by omega)⟩⟩⟩
        by_cases e : t = i
        · rw [e, ms_eq, y3 i (by omega), f5 _ _ (by omega), f24 _ _ (by omega), i4 i x0 x1]
          unfold mxW
          rw [maxI_s k0]
          rfl
        · rw [ms_k e]; exact y2 t a (by omega)
      · obtain ⟨y1, y2, y3⟩ := hJ
        have tr6 : TrG M M6 (areB M) (M 104 22) (M 104 23) (fun t => M 111 t) (dlW M j k) := tr4.fr (fun c k q => by rw [y1 c k (by unfold baseC at q; omega), f5 c k (by unfold baseC at q; omega)]) fun c k q => by rw [y1 c k (by omega), f5 c k (by omega)]
        refine ⟨fun c k a b d => by rw [y1 c k b, f5 c k (by omega), f24 c k a]; exact i1 c k a b d, by rw [y1 _ _ (by omega), f5 _ _ (by omega), f24 _ _ (by omega)]; exact i2, by rw [y1 _ _ (by omega)]; exact e5, fun t a b => y2 t a b, dlW M j k, tr6, fun t a b w => ?_⟩
        rw [(tr6.2.2.2.2.2.2.2 t a b).2]
        show dlF (areB M) (j + 1) k t = 0
        unfold dlF
        rw [w, if_neg (by decide)]
    have e12 : M4 74 12 = lwW M j k := by rw [f24 _ _ (by omega)]; exact i3
    have es : lwW M j (k + 1) = lwW M j k + l01 (ltW M j k) := by unfold lwW; rw [sumI_s k0]
    have lB : 0 ≤ lwW M j k ∧ lwW M j k ≤ k.toNat * 1 := sumI_0 (n := k.toNat) (f := fun w => l01 (ltW M j w)) (b := 1) fun _ _ _ => l01_B
    have hk3 : k < 256 := by unfold wyN at k1; omega
    refine ⟨fun q => tail M4 (fun _ _ _ => rfl) ?_, fun q => ⟨⟨by omega, by omega⟩, tail _ (fun c k q => ms_ne q) ?_⟩⟩
    · rw [e12, es, l01_f (p := ltW M j k) fun w => by have := g.2.1.mpr w; omega, Int.add_zero]
    · rw [ms_eq, e12, es, l01_t (p := ltW M j k) (g.2.1.mp (by rcases g.1 with z | z; exact absurd z q; exact z))]
  · obtain ⟨i1, i2, i3, i4, lt, i5, i6⟩ := hI
    refine hQ M2 i1 i2 (Or.inr ?_)
    obtain ⟨e1, e2, e3⟩ := bmW hb i1.s.bf j1 j3
    rw [i2]
    refine ⟨j1, j3, by rw [e1, e2]; exact i3, fun t t0 t1 => ?_⟩
    rw [e1, e3 _ _ t0 t1]; exact i4 t t0 t1
end

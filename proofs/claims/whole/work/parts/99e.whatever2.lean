/-! whatever the beginnings are late by: the reference -/
section
variable {sx : Int → Int} {L : Nat} {M N : Mem} {Q : Option AV → Mem → Prop} {SR : (Mem → Prop) × (Mem → Prop)}
theorem lwW_s {j k : Int} (k0 : 0 ≤ k) : lwW M j (k + 1) = lwW M j k + l01 (ltW M j k) := by unfold lwW; rw [sumI_s k0]
theorem mxW_s {j k t : Int} (k0 : 0 ≤ k) : mxW M j (k + 1) t = max (mxW M j k t) (lgW M j k t) := by unfold mxW; rw [maxI_s k0]
theorem lwW_B {j k : Int} (k0 : 0 ≤ k) : 0 ≤ lwW M j k ∧ lwW M j k ≤ k := by
  have := sumI_0 (n := k.toNat) (f := fun w => l01 (ltW M j w)) (b := 1) fun _ _ _ => l01_B
  unfold lwW
  omega
theorem s_208w {a j w : Int} (hs : SROK SR) (h : INVM SR M) (a0 : 0 ≤ a) (a1 : a < 8) (j1 : 1 ≤ j) (j3 : j ≤ 3) (w0 : 0 ≤ w) (w1 : w ≤ 1) (o : onF (areB M) ≤ 4) (hQ0 : w = 0 → ∀ N, INVM SR N → Q (some (vI (mxW M j (wyN M j) a))) N) (hQ1 : ¬ w = 0 → ∀ N, INVM SR N → Q (some (vI (lwW M j (wyN M j)))) N) : Mq sx L K0 R0 208 [vR 106, vI a, vI j, vI w] M Q := by
  have hb := h.1.1
  have on := onF_B (b := areB M)
  have aB := areB_B (M := M)
  have wB := pwF_B (c := j + 1) (by omega) (by omega) (onF (areB M)).toNat (by omega)
  refine m_208 (b_208_0 (s_142 fun r1 hr1 => ⟨r1, rfl, fun q => absurd q (by omega), fun _ => s_137 fun r2 hr2 => ⟨r2, rfl, fun q => absurd q (by omega), fun _ => s_137 fun r3 hr3 => ⟨r3, rfl, fun _ => b_208_2 ?_, fun q => absurd (by omega) q⟩⟩⟩))
  refine s_154 (I := INVM SR) (fun M h => h.1.1) (fun Q hQ => s_150i hs h hQ) fun M1 h1 e1 r1 f1 => ⟨_, rfl, s_138 aB ⟨_, rfl, fun _ => b_208_3 ?_, fun q => absurd o q⟩⟩
  refine lpI (N := onF (areB M)) (G := fun k => Rn sx L K0 R0 208 4 [vR 106, vI a, vI j, vI w, vI (areB M), vI (pwF (j + 1) k.toNat), vI k, vU, vU, vU, vU] [] M1 Q) (fun k k0 k1 ih => ?_) (b_208_4 (s_138 aB ⟨_, rfl, fun _ => b_208_5 ?_, fun q => absurd (Int.le_refl _) q⟩)) 0 (by omega) on.1
  · have p := pwF_B (c := j + 1) (by omega) (by omega) k.toNat (by omega)
    have p' := pwF_B (c := j + 1) (by omega) (by omega) (k.toNat + 1) (by omega)
    simp only [pwF] at p'
    rw [show (k + 1).toNat = k.toNat + 1 by omega] at ih
    simp only [pwF] at ih
    exact b_208_4 (s_138 aB ⟨_, rfl, fun q => absurd q (by omega), fun _ => ⟨⟨by omega, by omega⟩, ⟨by omega, by omega⟩, ⟨by omega, by omega⟩, ih⟩⟩)
  refine s_159G hs h1.1 f1.bf fun N0 as0 i0 f0 => ⟨rfl, ?_⟩
  suffices H : ∀ u9 u10, cat2 u9 = false → cat2 u10 = false → Rn sx L K0 R0 208 6 [vR 106, vI a, vI j, vI w, vI (areB M), vI (wyN M j), vI (-1), vI 0, vI 0, u9, u10] [] N0 Q from H vU vU rfl rfl
  refine lpM (N := wyN M j) (I := fun k N => (∃ lt, AsG M N (areB M) (M 104 22) (M 104 23) (fun t => M 111 t) lt) ∧ INV0 SR N ∧ (k = 0 ∨ N 104 26 = 0)) (G := fun k N => ∀ u9 u10, cat2 u9 = false → cat2 u10 = false → Rn sx L K0 R0 208 6 [vR 106, vI a, vI j, vI w, vI (areB M), vI (wyN M j), vI (mxW M j k a), vI (lwW M j k), vI k, u9, u10] [] N Q) (fun k N k0 k1 hI ih => ?_) (fun N hI u9 u10 h9 h10 => b_208_6 h9 h10 ⟨fun _ => b_208_17 h9 h10 ⟨fun q => b_208_18 h9 h10 (b_208_19 h9 h10 (hQ1 q N ⟨hI.2.1, Or.inl ?_⟩)), fun q => b_208_19 h9 h10 (hQ0 (Decidable.not_not.mp q) N ⟨hI.2.1, Or.inl ?_⟩)⟩, fun q => absurd (Int.le_refl _) q⟩) 0 N0 (by omega) (by unfold wyN; omega) ⟨⟨_, as0⟩, i0, Or.inl rfl⟩
  · obtain ⟨⟨lt, as⟩, i1, _⟩ := hI
    intro u9 u10 h9 h10
    refine b_208_6 h9 h10 ⟨fun q => absurd q (by omega), fun _ => ?_⟩
    refine lpM (N := 8) (I := fun t N2 => (∀ c k, ¬ c = 122 → N2 c k = N c k) ∧ ∀ i, 0 ≤ i → i < t → N2 122 i = dlW M j k i) (G := fun t N2 => Rn sx L K0 R0 208 7 [vR 106, vI a, vI j, vI w, vI (areB M), vI (wyN M j), vI (mxW M j k a), vI (lwW M j k), vI k, vI (rsF (areB M) (j + 1) k t.toNat), vI t] [] N2 Q) (fun t N2 t0 t1 hJ ih2 => ?_) (fun N2 hJ => b_208_7 ⟨fun _ => b_208_12 ?_, fun q => absurd (Int.le_refl _) q⟩) 0 N (by omega) (by omega) ⟨fun _ _ _ => rfl, fun i x y => by omega⟩
    · obtain ⟨j1', j2'⟩ := hJ
      have e := bt_eq (i := t) aB
      have rs := rsF_0 (A := areB M) (w := k) (c := j + 1) k0 (by omega) t.toNat
      rw [rsF_s t0] at ih2
      have step : ∀ v, v = dlW M j k t → (∀ c k, ¬ c = 122 → mset N2 122 t v c k = N c k) ∧ ∀ i, 0 ≤ i → i < t + 1 → mset N2 122 t v 122 i = dlW M j k i := fun v hv => ⟨fun c k q => by rw [ms_c q]; exact j1' c k q, fun i x y => by
        by_cases e : i = t
        · rw [e, ms_eq]; exact hv
        · rw [ms_k e]; exact j2' i x (by omega)⟩
      have hd : dlW M j k t = if tb (areB M) t = true then rsF (areB M) (j + 1) k t.toNat % (j + 1) else 0 := rfl
      cases hA : tb (areB M) t
      · rw [hA, if_neg (by decide)] at e ih2 hd
        exact b_208_7 ⟨fun q => absurd q (by omega), fun _ => ⟨⟨aB.1, t0, by omega⟩, fun _ => b_208_8 (b_208_9 ⟨⟨t0, t1⟩, ⟨aB.1, t0, by omega⟩, fun _ => b_208_10 (b_208_11 ⟨⟨by omega, by omega⟩, ih2 _ (step 0 hd.symm)⟩), fun q => absurd (by omega) q⟩), fun q => absurd (by omega) q⟩⟩
      · rw [hA, if_pos rfl] at e ih2 hd
        exact b_208_7 ⟨fun q => absurd q (by omega), fun _ => ⟨⟨aB.1, t0, by omega⟩, fun q => absurd e q, fun _ => ⟨⟨by omega, by omega⟩, ⟨rs.1, by omega⟩, b_208_9 ⟨⟨t0, t1⟩, ⟨aB.1, t0, by omega⟩, fun q => absurd e q, fun _ => ⟨⟨by omega, by omega⟩, ⟨rs.1, by omega⟩, b_208_11 ⟨⟨by omega, by omega⟩, ih2 _ (step _ hd.symm)⟩⟩⟩⟩⟩⟩
    · obtain ⟨j1', j2'⟩ := hJ
      have fx : FxR N N2 := fun c k p q => j1' c k (by omega)
      have as2 : AsG M N2 (areB M) (M 104 22) (M 104 23) (fun t => M 111 t) (dlW M j k) := by
        obtain ⟨b1, b2, b3, b4, b5, b6, b7, b8⟩ := id as
        refine as.up fx (j1' _ _ (by omega)) (by rw [j1' _ _ (by omega)]; exact b4) (by rw [j1' _ _ (by omega)]; exact b7) (by rw [j1' _ _ (by omega)]; exact b8) fun t x y => ⟨?_, j2' t x y⟩
        rw [j1' _ _ (by omega)]; exact (b5 t x y).1
      refine s_201G hs hb (OKW (w := k) hb j1 j3) as2 (i1.fx hs fx) fun r N3 r0 rl res as3 i3 e26 fx3 _ _ => ⟨_, rfl, ?_⟩
      have lB := lwW_B (M := M) (j := j) k0
      have k256 : k < 256 := by unfold wyN at k1; omega
      have tail : ∀ v, lwW M j k + v = lwW M j (k + 1) → 0 ≤ v → v ≤ 1 → Rn sx L K0 R0 208 14 [vR 106, vI a, vI j, vI w, vI (areB M), vI (wyN M j), vI (mxW M j k a), vI (lwW M j k), vI k, vI (rsF (areB M) (j + 1) k (8 : Int).toNat), vI 8] [vI v, vI (lwW M j k)] N3 Q := by
        intro v hv v0 v1
        refine b_208_14 ⟨⟨by omega, by omega⟩, ?_⟩
        rw [hv]
        refine res.2.2 sx L a _ a0 a1 ⟨_, rfl, ?_⟩
        have em := mxW_s (M := M) (j := j) (k := k) (t := a) k0
        have nx := ih N3 ⟨⟨_, as3⟩, i3, Or.inr e26⟩
        rw [em] at nx
        refine ⟨fun q => b_208_15 (b_208_16 ⟨⟨by omega, by omega⟩, ?_⟩), fun q => b_208_16 ⟨⟨by omega, by omega⟩, ?_⟩⟩
        · rw [show max (mxW M j k a) (lgW M j k a) = mxW M j k a from Int.max_eq_left q] at nx
          exact nx _ _ rfl rfl
        · rw [show max (mxW M j k a) (lgW M j k a) = lgW M j k a from Int.max_eq_right (Int.le_of_lt (Int.not_le.mp q))] at nx
          exact nx _ _ rfl rfl
      refine ⟨fun q => b_208_13 (tail 0 ?_ (by omega) (by omega)), fun q => tail 1 ?_ (by omega) (by omega)⟩
      · rw [lwW_s k0, l01_f (p := ltW M j k) fun w => by have := rl.mpr w; omega, Int.add_zero]
      · rw [lwW_s k0, l01_t (p := ltW M j k) (rl.mp (by omega))]
  · rcases hI.2.2 with z | z
    · unfold wyN at z; omega
    · exact z
  · rcases hI.2.2 with z | z
    · unfold wyN at z; omega
    · exact z
end

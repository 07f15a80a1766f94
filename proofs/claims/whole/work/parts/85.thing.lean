/-! thing -/
section
variable {sx : Int → Int} {L : Nat} {M M' : Mem} {Q : Option AV → Mem → Prop} {SR : (Mem → Prop) × (Mem → Prop)}
theorem pt_fr {x : Int → Int} {n h t : Int} (b3 : TC x n M (plA t)) (b4 : PlT x n h M (plA t)) (f : ∀ c k, (plA t ≤ c ∧ c ≤ plA t + 3) → M' c k = M c k) : TC x n M' (plA t) ∧ PlT x n h M' (plA t) := by
  have p := fun k => f (plA t) k (by omega)
  obtain ⟨q1, q2, q3, q4, q5, q6⟩ := b4
  obtain ⟨s1, s2, s3, s4, s5⟩ := q6
  refine ⟨⟨by rw [p]; exact b3.1, fun j j0 j1 => by rw [f (plA t + 1) _ (by omega)]; exact b3.2 j j0 j1⟩, by rw [p]; exact q1, by rw [p]; exact q2, by rw [p]; exact q3, by rw [p]; exact q4, by rw [p]; exact q5, by rw [p]; exact s1, by rw [p]; exact s2, by rw [p]; exact s3, by rw [p]; exact s4, fun j hj => ?_⟩
  rw [f (plA t + 2) _ (by omega), f (plA t + 3) _ (by omega)]
  exact s5 j hj
theorem z105 {k v j : Int} : mset M 105 k v 104 j = M 104 j := ms_c (by omega)
theorem z106 {k v j : Int} : mset M 106 k v 104 j = M 104 j := ms_c (by omega)
theorem z107 {k v j : Int} : mset M 107 k v 104 j = M 104 j := ms_c (by omega)
theorem z108 {k v j : Int} : mset M 108 k v 104 j = M 104 j := ms_c (by omega)
theorem s_90 {a b h : Int} (e : M 1 0 = h) (h0 : 0 ≤ h) (h1 : h < 6) (hQ : ∀ M', M' 1 0 = h + 1 → (a = 2 ∧ M' 1 1 = iOr (M 1 1) (1 * 2 ^ h.toNat) ∨ ¬ a = 2 ∧ M' 1 1 = M 1 1) → M' 2 h = b → M' 3 h = 1 → M' 4 h = 0 → (∀ c k, ¬ (c = 1 ∧ 0 ≤ k ∧ k ≤ 1) → ¬ (2 ≤ c ∧ c ≤ 4 ∧ k = h) → M' c k = M c k) → Q (some (vI h)) M') : Mq sx L K0 R0 90 [vR 3, vI a, vI b] M Q := by
  have e1 : mset M 2 h b 1 0 = h := by rw [ms_c (by omega)]; exact e
  have fin : ∀ y, (a = 2 ∧ y = iOr (M 1 1) (1 * 2 ^ h.toNat) ∨ ¬ a = 2 ∧ y = M 1 1) → ∀ N : Mem, N 1 0 = h → N 1 1 = y → N 2 h = b → N 3 h = 1 → N 4 h = 0 → (∀ c k, ¬ (c = 1 ∧ 0 ≤ k ∧ k ≤ 1) → ¬ (2 ≤ c ∧ c ≤ 4 ∧ k = h) → N c k = M c k) → Rn sx L K0 R0 90 3 [vR 3, vI a, vI b] [] N Q := by
    intro y hy N n0 n1 n2 n3 n4 f
    refine b_90_3 ?_
    rw [n0, ms_eq]
    refine ⟨⟨by omega, by omega⟩, ⟨by omega, by omega⟩, ?_⟩
    rw [show h + 1 - 1 = h by omega]
    exact hQ _ ms_eq (by rw [ms_k (by omega), n1]; exact hy) (by rw [ms_c (by omega)]; exact n2) (by rw [ms_c (by omega)]; exact n3) (by rw [ms_c (by omega)]; exact n4) fun c k p q => by rw [ms_ne (by omega)]; exact f c k p q
  refine m_90 (b_90_0 ⟨fun q => absurd q (by omega), fun _ => ⟨fun _ => b_90_2 ?_, fun q => absurd (by omega) q⟩⟩)
  rw [e, e1]
  refine ⟨⟨h0, h1⟩, m_91 (b_91_0 ⟨fun q => absurd q (by omega), fun _ => ⟨fun q => absurd q (by omega), fun _ => ⟨⟨h0, h1⟩, ⟨h0, h1⟩, b_91_1 ⟨rfl, ?_⟩⟩⟩⟩)⟩
  have g10 : mset (mset (mset M 2 h b) 3 h 1) 4 h 0 1 0 = h := by rw [ms_c (by omega), ms_c (by omega)]; exact e1
  have g11 : mset (mset (mset M 2 h b) 3 h 1) 4 h 0 1 1 = M 1 1 := by rw [ms_c (by omega), ms_c (by omega), ms_c (by omega)]
  have g2 : mset (mset (mset M 2 h b) 3 h 1) 4 h 0 2 h = b := by rw [ms_c (by omega), ms_c (by omega), ms_eq]
  have g3 : mset (mset (mset M 2 h b) 3 h 1) 4 h 0 3 h = 1 := by rw [ms_c (by omega), ms_eq]
  have g4 : mset (mset (mset M 2 h b) 3 h 1) 4 h 0 4 h = 0 := ms_eq
  have gf : ∀ c k, ¬ (2 ≤ c ∧ c ≤ 4 ∧ k = h) → mset (mset (mset M 2 h b) 3 h 1) 4 h 0 c k = M c k := fun c k q => by rw [ms_ne (by omega), ms_ne (by omega), ms_ne (by omega)]
  generalize mset (mset (mset M 2 h b) 3 h 1) 4 h 0 = N at g10 g11 g2 g3 g4 gf ⊢
  rw [g10, g11]
  refine ⟨fun q => fin _ (Or.inr ⟨q, rfl⟩) N g10 g11 g2 g3 g4 fun c k _ q => gf c k q, fun q => ⟨pow30 h0 (by omega), fin _ (Or.inl ⟨Decidable.not_not.mp q, rfl⟩) _ ?_ ms_eq ?_ ?_ ?_ fun c k p q => ?_⟩⟩
  · rw [ms_k (by omega)]; exact g10
  · rw [ms_c (by omega)]; exact g2
  · rw [ms_c (by omega)]; exact g3
  · rw [ms_c (by omega)]; exact g4
  · rw [ms_ne (by omega)]; exact gf c k q
theorem op_1 (hs : SROK SR) (a b : Int) : OpOk sx L (INVM SR) 94 139 [vI a, vI b] := by
  intro M h
  have hb := h.1.1
  obtain ⟨a1, a2, a3, a4, a5⟩ := hb.1
  have ref2 : ∀ (Q : Option AV → Mem → Prop) (M1 : Mem), ¬ ((0 ≤ a ∧ a ≤ 2) ∧ (¬ a = 1 → b = 1) ∧ (a = 1 → b = 2 ∨ b = 3)) → Q (some (vI (-2))) M1 → Mq sx L K0 R0 139 [vR 106, vI a, vI b] M1 Q := fun Q M1 g hQ =>
    m_139 (b_139_0 (s_137 fun r hr => ⟨r, rfl, fun q => b_139_2 hQ, fun q => ⟨fun w => b_139_1 ⟨fun w2 => absurd (by omega) g, fun _ => b_139_2 hQ⟩, fun w => s_137 fun r2 hr2 => ⟨r2, rfl, fun _ => b_139_2 hQ, fun q2 => absurd (by omega) g⟩⟩⟩))
  have ref3 : ∀ (Q : Option AV → Mem → Prop) (M1 : Mem), ((0 ≤ a ∧ a ≤ 2) ∧ (¬ a = 1 → b = 1) ∧ (a = 1 → b = 2 ∨ b = 3)) → Rn sx L K0 R0 139 3 [vR 106, vI a, vI b] [] M1 Q → Mq sx L K0 R0 139 [vR 106, vI a, vI b] M1 Q := fun Q M1 g hQ =>
    m_139 (b_139_0 (s_137 fun r hr => ⟨r, rfl, fun q => absurd q (by omega), fun q => ⟨fun w => b_139_1 ⟨fun w2 => hQ, fun w2 => absurd (g.2.1 w) w2⟩, fun w => s_137 fun r2 hr2 => ⟨r2, rfl, fun q2 => absurd q2 (by omega), fun _ => hQ⟩⟩⟩))
  have cls7 : ∀ (Q : Option AV → Mem → Prop), ¬ ((0 ≤ a ∧ a ≤ 2) ∧ (¬ a = 1 → b = 1) ∧ (a = 1 → b = 2 ∨ b = 3)) → Q (some (vI (-2))) M → Mq sx L K0 R0 94 [vR 2, vI a, vI b] M Q := fun Q g hQ => by
    have z : Rn sx L K0 R0 94 7 [vR 2, vI a, vI b, vU, vU, vU] [vI 0] M Q := b_94_7 ⟨fun w => absurd rfl w, fun _ => hQ⟩
    exact m_94 (b_94_0 ⟨fun q => b_94_1 hQ, fun q => ⟨fun q2 => b_94_2 ⟨fun w => b_94_5 ⟨fun _ => b_94_6 z, fun w2 => absurd (by omega) g⟩, fun w => ⟨fun w2 => absurd (by omega) g, fun w2 => ⟨fun _ => b_94_4 z, fun w3 => absurd (by omega) g⟩⟩⟩, fun q2 => b_94_1 hQ⟩⟩)
  have cls8 : ∀ (Q : Option AV → Mem → Prop), ((0 ≤ a ∧ a ≤ 2) ∧ (¬ a = 1 → b = 1) ∧ (a = 1 → b = 2 ∨ b = 3)) → Rn sx L K0 R0 94 8 [vR 2, vI a, vI b, vI 1, vU, vU] [] M Q → Mq sx L K0 R0 94 [vR 2, vI a, vI b] M Q := fun Q g hQ => by
    have z : Rn sx L K0 R0 94 7 [vR 2, vI a, vI b, vU, vU, vU] [vI 1] M Q := b_94_7 ⟨fun _ => hQ, fun w => absurd (by omega) w⟩
    exact m_94 (b_94_0 ⟨fun q => absurd q (by omega), fun q => ⟨fun q2 => b_94_2 ⟨fun w => b_94_5 ⟨fun w2 => absurd (g.2.1 w) w2, fun _ => z⟩, fun w => ⟨fun w2 => b_94_3 z, fun w2 => ⟨fun w3 => absurd (by omega) w3, fun w3 => b_94_3 z⟩⟩⟩, fun q2 => absurd (by omega) q2⟩⟩)
  by_cases g : (0 ≤ a ∧ a ≤ 2) ∧ (¬ a = 1 → b = 1) ∧ (a = 1 → b = 2 ∨ b = 3)
  · by_cases g2 : M 104 0 < 6
    · generalize hh : M 104 0 = n at *
      refine cls8 _ g (b_94_8 ⟨fun _ => b_94_9 (s_90 a3 a1 g2 fun M1 k0 k1 k2 k3 k4 f1 => ⟨_, rfl, ?_⟩), fun q => absurd (by omega) q⟩)
      have f1' : ∀ c k, ¬ (1 ≤ c ∧ c ≤ 4) → M1 c k = M c k := fun c k q => f1 c k (by omega) (by omega)
      refine lpM (N := 8) (I := fun k M2 => (∀ t, 0 ≤ t → t < k → TC (txR M t) (M 109 t) M2 (plA t) ∧ PlT (txR M t) (M 109 t) (n + 1) M2 (plA t)) ∧ (∀ c k', ¬ (11 ≤ c ∧ c ≤ 42) → M2 c k' = M1 c k') ∧ ∀ t, k ≤ t → t < 8 → ∀ c k', plA t ≤ c → c ≤ plA t + 3 → M2 c k' = M1 c k') (G := fun k M2 => Rn sx L K0 R0 94 10 [vR 2, vI a, vI b, vI 1, vI n, vI k] [] M2 _) (fun k M2 q0 q1 hI ih => ?_) (fun M2 hI => bx_94_10 (by omega) (b_94_11 ?_)) 0 M1 (by omega) (by omega) ⟨fun t x y => by omega, fun _ _ _ => rfl, fun _ _ _ _ _ _ _ => rfl⟩
      · obtain ⟨i1, i2, i3⟩ := hI
        obtain ⟨n0, n1, tc, pt⟩ := hb.2.1 k q0 q1
        have pk := pl_rg q0 q1
        refine b_94_10 ⟨q0, q1⟩ ⟨fun q => absurd q (by omega), fun _ => ?_⟩
        rw [i2 1 0 (by omega), k0]
        refine s_15 (isPl_A q0 q1) (pt_fr (M := M) tc pt fun c k' q => by rw [i3 k (by omega) q1 c k' q.1 q.2, f1' _ _ (by omega)]).1 n0 n1 (by omega) (by omega) fun M3 pl tc3 fp => ⟨rfl, ⟨by omega, by omega⟩, ih _ ⟨fun t t0 t1 => ?_, fun c k' q => by rw [fp c k' (by omega) (by omega) (by omega)]; exact i2 c k' q, fun t t0 t1 c k' c0 c1 => ?_⟩⟩
        · by_cases e : t = k
          · subst e; exact ⟨tc3, pl⟩
          · obtain ⟨j1, j2⟩ := i1 t t0 (by omega)
            have pn := pl_ne t0 q0 e
            exact pt_fr j1 j2 fun c k' q => fp c k' (by omega) (by omega) (by omega)
        · have pn := pl_ne (a := t) (b := k) (by omega) q0 (by omega)
          rw [fp c k' (by omega) (by omega) (by omega)]
          exact i3 t (by omega) t1 c k' c0 c1
      · obtain ⟨i1, i2, i3⟩ := hI
        refine s_134 (by rw [i2 _ _ (by omega), f1' _ _ (by omega)]; exact hb.dB) fun M3 h60 h7 z3 z6 z10 z13 f3 => ⟨rfl, n, rfl, ?_⟩
        have F3 : ∀ c k, ¬ (1 ≤ c ∧ c ≤ 4) → ¬ (11 ≤ c ∧ c ≤ 42) → ¬ (c = 6 ∧ k = 0) → ¬ (c = 0 ∧ k = 7) → ¬ c = 74 → M3 c k = M c k := fun c k p q r s t => by rw [f3 c k r s t, i2 c k q, f1' c k p]
        have e0 : M3 104 0 = n := by rw [F3 _ _ (by omega) (by omega) (by omega) (by omega) (by omega)]; exact hh
        refine ref3 _ _ g (b_139_3 ⟨fun _ => b_139_4 ?_, fun q => absurd (by omega) q⟩)
        simp only [z105, z106, z107, z108]
        rw [e0]
        refine ⟨⟨by omega, by omega⟩, ⟨by omega, by omega⟩, ⟨by omega, by omega⟩, ⟨by omega, by omega⟩, ⟨by omega, by omega⟩, m_141 (b_141_0 ⟨rfl, ?_⟩)⟩
        have m0 : mset (mset (mset (mset (mset (mset (mset M3 105 n a) 106 n b) 107 n 1) 108 n 0) 104 0 (n + 1)) 104 10 0) 104 26 0 104 0 = n + 1 := by rw [ms_k (by omega), ms_k (by omega), ms_eq]
        have m105 : ∀ k, mset (mset (mset (mset (mset (mset (mset M3 105 n a) 106 n b) 107 n 1) 108 n 0) 104 0 (n + 1)) 104 10 0) 104 26 0 105 k = if k = n then a else M 105 k := fun k => by
          rw [ms_c (by omega), ms_c (by omega), ms_c (by omega), ms_c (by omega), ms_c (by omega), ms_c (by omega)]
          by_cases e : k = n
          · rw [if_pos e, e, ms_eq]
          · rw [if_neg e, ms_k e, F3 _ _ (by omega) (by omega) (by omega) (by omega) (by omega)]
        have m106 : mset (mset (mset (mset (mset (mset (mset M3 105 n a) 106 n b) 107 n 1) 108 n 0) 104 0 (n + 1)) 104 10 0) 104 26 0 106 n = b := by rw [ms_c (by omega), ms_c (by omega), ms_c (by omega), ms_c (by omega), ms_c (by omega), ms_eq]
        have m107 : mset (mset (mset (mset (mset (mset (mset M3 105 n a) 106 n b) 107 n 1) 108 n 0) 104 0 (n + 1)) 104 10 0) 104 26 0 107 n = 1 := by rw [ms_c (by omega), ms_c (by omega), ms_c (by omega), ms_c (by omega), ms_eq]
        have m108 : mset (mset (mset (mset (mset (mset (mset M3 105 n a) 106 n b) 107 n 1) 108 n 0) 104 0 (n + 1)) 104 10 0) 104 26 0 108 n = 0 := by rw [ms_c (by omega), ms_c (by omega), ms_c (by omega), ms_eq]
        have m10 : mset (mset (mset (mset (mset (mset (mset M3 105 n a) 106 n b) 107 n 1) 108 n 0) 104 0 (n + 1)) 104 10 0) 104 26 0 104 10 = 0 := by rw [ms_k (by omega), ms_eq]
        have m26 : mset (mset (mset (mset (mset (mset (mset M3 105 n a) 106 n b) 107 n 1) 108 n 0) 104 0 (n + 1)) 104 10 0) 104 26 0 104 26 = 0 := ms_eq
        have mF : ∀ c k, ¬ (105 ≤ c ∧ c ≤ 108 ∧ k = n) → ¬ (c = 104 ∧ (k = 0 ∨ k = 10 ∨ k = 26)) → mset (mset (mset (mset (mset (mset (mset M3 105 n a) 106 n b) 107 n 1) 108 n 0) 104 0 (n + 1)) 104 10 0) 104 26 0 c k = M3 c k := fun c k p q => by rw [ms_ne (by omega), ms_ne (by omega), ms_ne (by omega), ms_ne (by omega), ms_ne (by omega), ms_ne (by omega), ms_ne (by omega)]
        generalize mset (mset (mset (mset (mset (mset (mset M3 105 n a) 106 n b) 107 n 1) 108 n 0) 104 0 (n + 1)) 104 10 0) 104 26 0 = M4 at m0 m105 m106 m107 m108 m10 m26 mF ⊢
        rw [m0]
        refine ⟨⟨by omega, by omega⟩, by rw [show n + 1 - 1 = n by omega], ?_⟩
        obtain ⟨_, b2, b3, b4, b5, b6⟩ := hb
        have F : ∀ c k, ¬ (1 ≤ c ∧ c ≤ 4) → ¬ (11 ≤ c ∧ c ≤ 42) → ¬ (c = 6 ∧ k = 0) → ¬ (c = 0 ∧ k = 7) → ¬ c = 74 → ¬ (105 ≤ c ∧ c ≤ 108 ∧ k = n) → ¬ (c = 104 ∧ (k = 0 ∨ k = 10 ∨ k = 26)) → M4 c k = M c k := fun c k p q r s t u v => by rw [mF c k u v, F3 c k p q r s t]
        have E1 : ∀ c k, 1 ≤ c → c ≤ 4 → M4 c k = M1 c k := fun c k p q => by rw [mF c k (by omega) (by omega), f3 c k (by omega) (by omega) (by omega), i2 c k (by omega)]
        have EP : ∀ c k, 11 ≤ c → c ≤ 42 → M4 c k = M2 c k := fun c k p q => by rw [mF c k (by omega) (by omega), f3 c k (by omega) (by omega) (by omega)]
        have tx : ∀ t, txR M4 t = txR M t := fun t => by
          funext j
          unfold txR
          rw [F 109 t (by omega) (by omega) (by omega) (by omega) (by omega) (by omega) (by omega), F 110 _ (by omega) (by omega) (by omega) (by omega) (by omega) (by omega) (by omega)]
        have bt : ∀ t, 0 ≤ t → t < 8 → BTxt M4 t := fun t t0 t1 => by
          obtain ⟨j1, j2⟩ := i1 t t0 t1
          obtain ⟨n0, n1, _, _⟩ := b2 t t0 t1
          have pt := pl_rg t0 t1
          exact BTxt.mk n0 n1 j1 (by rw [m0]; exact j2) (fun c k q => EP c k (by omega) (by omega)) (tx t) (F 109 t (by omega) (by omega) (by omega) (by omega) (by omega) (by omega) (by omega))
        refine mut_ok hs h (fun c k p q r s => F c k (by unfold baseC at p; omega) (by unfold baseC at p; omega) (by unfold baseC at p; omega) q r (by unfold baseC at p; omega) (by unfold baseC at p; omega)) ⟨⟨by rw [m0]; omega, by rw [m0]; omega, ?_, fun i i0 i1 => ?_, ?_⟩, bt, fun t t0 t1 => (b3 t t0 t1).fr fun c q => F c t (by omega) (by omega) (by omega) (by omega) (by omega) (by omega) (by omega), ?_, b5.fr fun c k q => F c k (by omega) (by omega) (by omega) (by omega) (by omega) (by omega) (by omega), ?_⟩ ?_ ?_ ?_ ?_ ?_ m26 (Or.inl m10)
        · rw [E1 _ _ (by omega) (by omega), m0]; exact k0
        · rw [m0] at i1
          rw [E1 2 i (by omega) (by omega), E1 3 i (by omega) (by omega), E1 4 i (by omega) (by omega)]
          by_cases e : i = n
          · rw [e, m106, m107, m108]; exact ⟨k2, k3, k4⟩
          · rw [f1 2 i (by omega) (by omega), f1 3 i (by omega) (by omega), f1 4 i (by omega) (by omega), F 106 i (by omega) (by omega) (by omega) (by omega) (by omega) (by omega) (by omega), F 107 i (by omega) (by omega) (by omega) (by omega) (by omega) (by omega) (by omega), F 108 i (by omega) (by omega) (by omega) (by omega) (by omega) (by omega) (by omega)]
            exact a4 i i0 (by omega)
        · rw [E1 _ _ (by omega) (by omega)]
          have pB := pow_B (i := n) (by omega)
          have fB : inB (firB M) := mkB_B 6 _ (by omega)
          rw [a5] at k1
          have tf : ∀ (N : Mem) i, 0 ≤ i → tb (firB N) i = (decide (i < 6) && decide (i < N 104 0 ∧ N 105 i = 2)) := fun N i i0 => by
            unfold firB
            rw [tb_mkB 6 _ (by omega) i0]; rfl
          refine tb_ext ?_ (mkB_B 6 _ (by omega)).1 fun i i0 => ?_
          · rcases k1 with w | w
            · rw [w.2]; exact (or_B fB pB).1
            · rw [w.2]; exact fB.1
          · rw [tf M4 i i0, m0, m105]
            rcases k1 with w | w
            · rw [w.2, tb_or fB pB, tb_pow a1 i0, tf M i i0, hh]
              by_cases e : i = n
              · rw [if_pos e, decide_eq_true e.symm, decide_eq_true (show i < 6 by omega), decide_eq_true (show i < n + 1 ∧ a = 2 from ⟨by omega, w.1⟩)]
                simp
              · rw [if_neg e, decide_eq_false (show ¬ n = i by omega), Bool.or_false]
                have : (i < n ∧ M 105 i = 2) ↔ (i < n + 1 ∧ M 105 i = 2) := by omega
                simp only [this]
            · rw [w.2, tf M i i0, hh]
              by_cases e : i = n
              · rw [if_pos e, decide_eq_false (show ¬ (i < n ∧ M 105 i = 2) by omega), decide_eq_false (show ¬ (i < n + 1 ∧ a = 2) from fun q => w.1 q.2)]
              · rw [if_neg e]
                have : (i < n ∧ M 105 i = 2) ↔ (i < n + 1 ∧ M 105 i = 2) := by omega
                simp only [this]
        · rw [F 104 9 (by omega) (by omega) (by omega) (by omega) (by omega) (by omega) (by omega), F 0 8 (by omega) (by omega) (by omega) (by omega) (by omega) (by omega) (by omega)]
          exact b4
        · rw [mF _ _ (by omega) (by omega), h60]
          refine cls_are2 (fun t t0 t1 => ?_) ?_
          · have pt := pl_rg t0 t1
            rw [← EP _ _ (by omega) (by omega)]
            exact (bt t t0 t1).2.2.2.2.1
          · rw [F 104 9 (by omega) (by omega) (by omega) (by omega) (by omega) (by omega) (by omega), i2 _ _ (by omega), f1' _ _ (by omega)]
            exact b4.2.2
        · rw [mF _ _ (by omega) (by omega)]; exact h7
        · rw [mF _ _ (by omega) (by omega)]; exact z3
        · rw [mF _ _ (by omega) (by omega)]; exact z6
        · rw [mF _ _ (by omega) (by omega)]; exact z10
        · rw [mF _ _ (by omega) (by omega)]; exact z13
    · exact ref_ok h (fun Q hQ => cls8 _ g (b_94_8 ⟨fun q => absurd q (by omega), fun _ => hQ⟩)) (fun Q hQ => ref3 _ _ g (b_139_3 ⟨fun q => absurd (by omega) q, fun _ => hQ⟩))
  · exact ref_ok h (fun Q hQ => cls7 Q g hQ) (fun Q hQ => ref2 Q M g hQ)
end

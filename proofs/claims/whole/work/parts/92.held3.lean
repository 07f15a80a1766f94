/-! what is held: the reference's two loops -/
section
variable {sx : Int → Int} {L : Nat} {M M1 P : Mem} {Q : Option AV → Mem → Prop}
theorem hm_B {t b : Int} (hb : BASE M) : ∀ k : Nat, k ≤ 8 → 0 ≤ hmF M t b k ∧ hmF M t b k ≤ 180 := by
  intro k
  induction k with
  | zero => intro _; simp [hmF]
  | succ k ih =>
    intro hk
    have i := ih (by omega)
    simp only [hmF]
    by_cases w : ¬ (k : Int) = t ∧ tb (areB M) k = true ∧ ¬ gaP M t k
    · rw [if_pos w]
      have hV := am_V hb (o := k) (by omega) (by omega) w.2.1
      have m := mx_B (b := b) hV hb.1.2.1 (PTm M 117 k).toNat (by have := hV.2.2.2.2.2.2.1; omega)
      omega
    · rw [if_neg w]; exact i
theorem s_196a {t : Int} (hb : BASE M) (bf : BFr M M1) (rd : RDok M1) (t0 : 0 ≤ t) (t1 : t < 8) (hQ : ∀ u5 u6 : AV, cat2 u5 = false → cat2 u6 = false → ∀ h, Rn sx L K0 R0 196 12 [vR 106, vI t, vI (areB M), vI (mkB (M 104 0).toNat fun h => rpF M t h 8), vI h, u5, u6, vU, vU, vU] [] M1 Q) : Rn sx L K0 R0 196 1 [vR 106, vI t, vI (areB M), vI 0, vI 0, vU, vU, vU, vU, vU] [] M1 Q := by
  obtain ⟨a1, a2, a3, a4, a5⟩ := hb.1
  have m0 : M1 104 0 = M 104 0 := bf.m (by omega)
  have e111 : ∀ o, M1 111 o = M 111 o := fun o => bf.a (by omega) o
  have e105 : ∀ o, M1 105 o = M 105 o := fun o => bf.a (by omega) o
  have lp : ∀ h : Int, 0 ≤ h → h ≤ M 104 0 → ∀ u5 u6 : AV, cat2 u5 = false → cat2 u6 = false → Rn sx L K0 R0 196 1 [vR 106, vI t, vI (areB M), vI (mkB h.toNat fun h => rpF M t h 8), vI h, u5, u6, vU, vU, vU] [] M1 Q := by
    refine lpI (N := M 104 0) (G := fun h => ∀ u5 u6 : AV, cat2 u5 = false → cat2 u6 = false → Rn sx L K0 R0 196 1 [vR 106, vI t, vI (areB M), vI (mkB h.toNat fun h => rpF M t h 8), vI h, u5, u6, vU, vU, vU] [] M1 Q) (fun h h0 h1 ih u5 u6 hu5 hu6 => ?_) (fun u5 u6 hu5 hu6 => b_196_1 hu5 hu6 ⟨fun _ => hQ u5 u6 hu5 hu6 _, fun q => absurd (by omega) q⟩)
    rw [mkB_s h0] at ih
    have xB := mkB_B h.toNat (fun h => rpF M t h 8) (by omega)
    generalize (mkB h.toNat fun h => rpF M t h 8) = x3 at ih xB ⊢
    have inner : Rn sx L K0 R0 196 4 [vR 106, vI t, vI (areB M), vI x3, vI h, vI (bzF (rpF M t h (0 : Int).toNat)), vI 0, vU, vU, vU] [] M1 Q := by
      refine lpI (N := 8) (G := fun k => Rn sx L K0 R0 196 4 [vR 106, vI t, vI (areB M), vI x3, vI h, vI (bzF (rpF M t h k.toNat)), vI k, vU, vU, vU] [] M1 Q) (fun k k0 k1 ih2 => ?_) (b_196_4 ⟨fun _ => b_196_9 ⟨fun q => b_196_10 (b_196_11 ⟨⟨by omega, by omega⟩, ?_⟩), fun q => ⟨pow30 h0 (by omega), b_196_11 ⟨⟨by omega, by omega⟩, ?_⟩⟩⟩, fun q => absurd (by omega) q⟩) 0 (by omega) (by omega)
      · have rs : rpF M t h (k + 1).toNat = (rpF M t h k.toNat || (decide (tb (areB M) k = true ∧ (k = t ∨ gaP M t k)) && tksP (PTm M) k h)) := by
          unfold rpF
          rw [exB_s k0, Bool.or_assoc]
        rw [rs] at ih2
        have six : (rpF M t h k.toNat || (decide (tb (areB M) k = true ∧ (k = t ∨ gaP M t k)) && tksP (PTm M) k h)) = true → ∀ y, Rn sx L K0 R0 196 6 [vR 106, vI t, vI (areB M), vI x3, vI h, vI y, vI k, vU, vU, vU] [] M1 Q := fun w y => by
          rw [w] at ih2
          exact b_196_6 (b_196_8 ⟨⟨by omega, by omega⟩, ih2⟩)
        have seven : (rpF M t h k.toNat || (decide (tb (areB M) k = true ∧ (k = t ∨ gaP M t k)) && tksP (PTm M) k h)) = false → ∀ y, Rn sx L K0 R0 196 7 [vR 106, vI t, vI (areB M), vI x3, vI h, vI y, vI k, vU, vU, vU] [] M1 Q := fun w y => by
          rw [w] at ih2
          exact b_196_7 (b_196_8 ⟨⟨by omega, by omega⟩, ih2⟩)
        by_cases rk : rpF M t h k.toNat = true
        · have e1 : bzF (rpF M t h k.toNat) = 1 := by unfold bzF; rw [if_pos rk]
          rw [rk, Bool.true_or] at six
          rw [e1]
          exact b_196_4 ⟨fun q => absurd q (by omega), fun _ => ⟨fun _ => six rfl _, fun q => absurd (by omega) q⟩⟩
        · have e1 : bzF (rpF M t h k.toNat) = 0 := by unfold bzF; rw [if_neg rk]
          rw [Bool.eq_false_iff.mpr rk, Bool.false_or] at six seven
          rw [e1]
          have five : tb (areB M) k = true → (k = t ∨ gaP M t k) → Rn sx L K0 R0 196 5 [vR 106, vI t, vI (areB M), vI x3, vI h, vI 0, vI k, vU, vU, vU] [] M1 Q := fun ak g => by
            rw [decide_eq_true (show tb (areB M) k = true ∧ (k = t ∨ gaP M t k) from ⟨ak, g⟩), Bool.true_and] at six seven
            exact b_196_5 (s_194 (P := PTm M) (am_V hb k0 k1 ak) (rsT hb bf rd k0 k1) k0 k1 fun r hr => ⟨r, rfl, fun q => seven (by rcases hr with z | z; omega; exact z.1) _, fun q => six (by rcases hr with z | z; exact z.1; omega) _⟩)
          refine b_196_4 ⟨fun q => absurd q (by omega), fun _ => ⟨fun q => absurd rfl q, fun _ => ⟨⟨areB_B.1, k0, by omega⟩, fun q => seven ?_ _, fun q => ⟨fun q2 => five ?_ (Or.inl q2), fun q2 => s_193 t0 t1 k0 k1 fun r hr => ⟨r, rfl, fun q3 => seven ?_ _, fun q3 => five ?_ (Or.inr ⟨q2, ?_, ?_⟩)⟩⟩⟩⟩⟩
          · rw [bt_1 areB_B] at q
            rw [decide_eq_false (fun w => q w.1)]; rfl
          · rw [bt_1 areB_B] at q; exact Decidable.not_not.mp q
          · rw [e111, e111] at hr
            rw [decide_eq_false (fun w => ?_)]
            · rfl
            · rcases w.2 with z | z
              · exact q2 z
              · have := z.2.2
                omega
          · rw [bt_1 areB_B] at q; exact Decidable.not_not.mp q
          · rw [bt_1 areB_B] at q; exact Decidable.not_not.mp q
          · rw [e111, e111] at hr
            omega
      · have w : ¬ rpF M t h 8 = true := fun w => by
          have e : bzF (rpF M t h (8 : Int).toNat) = 1 := by unfold bzF; rw [t8, if_pos w]
          omega
        rw [if_neg w] at ih
        rw [or_0 xB]; exact ih _ _ rfl rfl
      · have w : rpF M t h 8 = true := Classical.byContradiction fun w => by
          have e : bzF (rpF M t h (8 : Int).toNat) = 0 := by unfold bzF; rw [t8, if_neg w]
          omega
        rw [if_pos w] at ih
        exact ih _ _ rfl rfl
    refine b_196_1 hu5 hu6 ⟨fun q => absurd q (by omega), fun _ => ⟨⟨h0, by omega⟩, fun q => b_196_2 hu5 hu6 (b_196_3 hu5 hu6 ?_), fun q => b_196_3 hu5 hu6 ?_⟩⟩
    · have e : bzF (rpF M t h (0 : Int).toNat) = 0 := by
        show bzF (decide (M 105 h = 2) || false) = 0
        rw [e105] at q
        rw [decide_eq_false q]; rfl
      rw [e] at inner; exact inner
    · have e : bzF (rpF M t h (0 : Int).toNat) = 1 := by
        show bzF (decide (M 105 h = 2) || false) = 1
        rw [e105] at q
        rw [decide_eq_true (Decidable.not_not.mp q)]; rfl
      rw [e] at inner; exact inner
  exact lp 0 (by omega) a1 vU vU rfl rfl
theorem s_196b {t b : Int} (hb : BASE M) (bf : BFr M M1) (rd : RDok M1) (t0 : 0 ≤ t) (t1 : t < 8) (bB : inB b) (hQ : Q (some (vI (hmF M t b 8))) M1) : ∀ u6 : AV, cat2 u6 = false → Rn sx L K0 R0 196 13 [vR 106, vI t, vI (areB M), vI b, vI 0, vI 0, u6, vU, vU, vU] [] M1 Q := by
  have e111 : ∀ o, M1 111 o = M 111 o := fun o => bf.a (by omega) o
  have lp : ∀ k : Int, 0 ≤ k → k ≤ 8 → ∀ u6 u7 u8 u9 : AV, cat2 u6 = false → cat2 u7 = false → cat2 u8 = false → cat2 u9 = false → Rn sx L K0 R0 196 13 [vR 106, vI t, vI (areB M), vI b, vI (hmF M t b k.toNat), vI k, u6, u7, u8, u9] [] M1 Q := by
    refine lpI (N := 8) (G := fun k => ∀ u6 u7 u8 u9 : AV, cat2 u6 = false → cat2 u7 = false → cat2 u8 = false → cat2 u9 = false → Rn sx L K0 R0 196 13 [vR 106, vI t, vI (areB M), vI b, vI (hmF M t b k.toNat), vI k, u6, u7, u8, u9] [] M1 Q) (fun k k0 k1 ih u6 u7 u8 u9 h6 h7 h8 h9 => ?_) (fun u6 u7 u8 u9 h6 h7 h8 h9 => b_196_13 h6 h7 h8 h9 ⟨fun _ => b_196_24 h6 h7 h8 h9 hQ, fun q => absurd (by omega) q⟩)
    have aB := hm_B (t := t) (b := b) hb k.toNat (by omega)
    rw [show (k + 1).toNat = k.toNat + 1 by omega] at ih
    simp only [hmF, Int.toNat_of_nonneg k0] at ih
    generalize hmF M t b k.toNat = acc at aB ih ⊢
    have rs := rsT hb bf rd k0 k1
    have no : ¬ (¬ k = t ∧ tb (areB M) k = true ∧ ¬ gaP M t k) → Rn sx L K0 R0 196 14 [vR 106, vI t, vI (areB M), vI b, vI acc, vI k, u6, u7, u8, u9] [] M1 Q := fun w => by
      rw [if_neg w] at ih
      have z : Rn sx L K0 R0 196 23 [vR 106, vI t, vI (areB M), vI b, vI acc, vI k, vI 0, vI 0, u8, u9] [] M1 Q := b_196_23 h8 h9 ⟨⟨by omega, by omega⟩, ih _ _ _ _ rfl rfl h8 h9⟩
      exact b_196_14 h6 h7 h8 h9 (b_196_15 h6 h7 h8 h9 (b_196_16 h8 h9 ⟨⟨k0, k1⟩, fun _ => z, fun _ => ⟨fun _ => z, fun q => absurd rfl q⟩⟩))
    refine b_196_13 h6 h7 h8 h9 ⟨fun q => absurd q (by omega), fun _ => ⟨⟨areB_B.1, k0, by omega⟩, fun q => no fun w => ?_, fun q => ⟨fun q2 => no fun w => w.1 q2, fun q2 => s_193 t0 t1 k0 k1 fun r hr => ⟨r, rfl, fun q3 => no fun w => ?_, fun q3 => b_196_15 h6 h7 h8 h9 ?_⟩⟩⟩⟩
    · rw [bt_1 areB_B] at q; exact q w.2.1
    · rw [e111, e111] at hr
      exact w.2.2 ⟨q2, w.2.1, by omega⟩
    · rw [bt_1 areB_B] at q
      have ak := Decidable.not_not.mp q
      have ng : ¬ gaP M t k := fun w => by
        rw [e111, e111] at hr
        have := w.2.2
        omega
      rw [if_pos ⟨q2, ak, ng⟩] at ih
      have hV := am_V hb k0 k1 ak
      have hp0 : PTm M 104 0 ≤ 6 := hb.1.2.1
      have n0 := hV.2.2.2.2.2.2.1
      have n20 := hV.2.2.2.2.2.2.2.1
      have e9 := rs.1
      have start : max acc (mxF (PTm M) k b (0 : Int).toNat) = acc := by
        show max acc 0 = acc
        omega
      have lp2 : ∀ j : Int, 0 ≤ j → j ≤ PTm M 117 k → ∀ u8 u9 : AV, cat2 u8 = false → cat2 u9 = false → Rn sx L K0 R0 196 16 [vR 106, vI t, vI (areB M), vI b, vI (max acc (mxF (PTm M) k b j.toNat)), vI k, vI 1, vI j, u8, u9] [] M1 Q := by
        refine lpI (N := PTm M 117 k) (G := fun j => ∀ u8 u9 : AV, cat2 u8 = false → cat2 u9 = false → Rn sx L K0 R0 196 16 [vR 106, vI t, vI (areB M), vI b, vI (max acc (mxF (PTm M) k b j.toNat)), vI k, vI 1, vI j, u8, u9] [] M1 Q) (fun j j0 j1 ih2 u8 u9 h8 h9 => ?_) (fun u8 u9 h8 h9 => b_196_16 h8 h9 ⟨⟨k0, k1⟩, fun _ => b_196_23 h8 h9 ⟨⟨by omega, by omega⟩, ih _ _ _ _ rfl rfl h8 h9⟩, fun q => absurd (by omega) q⟩)
        have mB := mx_B (b := b) hV hp0 j.toNat (by omega)
        rw [show (j + 1).toNat = j.toNat + 1 by omega] at ih2
        simp only [mxF, Int.toNat_of_nonneg j0] at ih2
        generalize mxF (PTm M) k b j.toNat = mx at mB ih2 ⊢
        have r := rs.2 j j0 j1
        have bb := stp_B hV hp0 j0 j1
        have wB := whd_B hV hp0 j0 j1
        have none' : ¬ (PTm M 118 (20 * k + j) = 1 ∧ tb b (PTm M 119 (20 * k + j)) = true) → Rn sx L K0 R0 196 17 [vR 106, vI t, vI (areB M), vI b, vI (max acc mx), vI k, vI 1, vI j, u8, u9] [] M1 Q := fun w => by
          rw [if_neg w] at ih2
          exact b_196_17 h8 h9 (b_196_18 h8 h9 ⟨fun _ => b_196_19 h9 (b_196_20 h9 ⟨fun _ => b_196_21 (b_196_22 ⟨⟨by omega, by omega⟩, ih2 _ _ rfl rfl⟩), fun q => absurd (by omega) q⟩), fun q => absurd rfl q⟩)
        refine b_196_16 h8 h9 ⟨⟨k0, k1⟩, fun q => absurd q (by omega), fun _ => ⟨fun q => absurd q (by omega), fun _ => ⟨⟨by omega, by omega⟩, ⟨by omega, by omega⟩, ⟨by omega, by omega⟩, fun q => none' (by omega), fun q => ⟨⟨by omega, by omega⟩, ⟨by omega, by omega⟩, ⟨by omega, by omega⟩, ?_⟩⟩⟩⟩
        rw [r.2]
        refine ⟨⟨bB.1, by omega, by omega⟩, fun q4 => none' fun w => ?_, fun q4 => ?_⟩
        · rw [bt_1 bB] at q4; exact q4 w.2
        · rw [bt_1 bB] at q4
          rw [if_pos ⟨by omega, Decidable.not_not.mp q4⟩] at ih2
          refine b_196_18 h8 h9 ⟨fun w => absurd w (by omega), fun _ => s_195 (P := PTm M) hV hp0 rs k0 k1 j0 j1 ⟨_, rfl, b_196_20 h9 ⟨fun w => b_196_21 (b_196_22 ⟨⟨by omega, by omega⟩, ?_⟩), fun w => b_196_22 ⟨⟨by omega, by omega⟩, ?_⟩⟩⟩⟩
          · rw [show max acc (max mx (whd (PTm M) k j)) = max acc mx by omega] at ih2
            exact ih2 _ _ rfl rfl
          · rw [show max acc (max mx (whd (PTm M) k j)) = whd (PTm M) k j by omega] at ih2
            exact ih2 _ _ rfl rfl
      have fin := lp2 0 (by omega) n0 u8 u9 h8 h9
      rw [start] at fin
      exact fin
  intro u6 h6
  exact lp 0 (by omega) (by omega) u6 vU vU vU h6 rfl rfl rfl
end

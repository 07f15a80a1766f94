/-! which plan it is, who goes ahead -/
section
variable {sx : Int → Int} {L : Nat} {M M' : Mem} {Q : Option AV → Mem → Prop}
theorem s_31 {t : Int} (t0 : 0 ≤ t) (t1 : t < 8) (hQ : Q (some (vR (plA t + 2))) M) : Mq sx L K0 R0 31 [vR 53, vI t] M Q := by
  have two : Rn sx L K0 R0 31 2 [vR 53, vI t] [vI t, vR 7] M Q := by
    refine Rn_w (by decide) ?_
    show wpc sx L K0 R0 31 [(16, 1, .aaload, []), (17, 1, .areturn, [])] 0 [vR 53, vI t] [vI t, vR 7] M Q
    simp only [w_aald, rpls t0 t1, arq_T (ks_5) ⟨by decide, by decide⟩, t0, (show t < ((8 : Nat) : Int) from t1), w_ret4 rk_31, true_and, and_true]
    exact hQ
  refine m_31 (Rn_w (by decide) ?_)
  show wpc sx L K0 R0 31 [(0, 1, .aload_n 0, []), (1, 3, .getfield 15, [2, 1, 355]), (4, 1, .iload_n 1, []), (5, 3, .invokestatic 39, [125, 918, 1]), (8, 3, .ifCond .eq 7, [1]), (11, 1, .iload_n 1, []), (12, 3, .goto 4, [2])] 0 [vR 53, vI t] [] M Q
  simp only [w_al_0, w_gf_2_1, kin_T (ks_51), rs_51_1, w_il_1, w_ivs_1 (c2I _) (cs1 _), rk_125, rvk2, List.cons_append, List.nil_append, w_if_eq, w_goto, true_and, and_true]
  exact s_125 fun r hr => ⟨r, rfl, fun q => absurd q (by omega), fun _ => two⟩
abbrev gaP (M : Mem) (t o : Int) : Prop := ¬ o = t ∧ tb (areB M) o = true ∧ (M 111 t < M 111 o ∨ M 111 o = M 111 t ∧ o < t)
theorem s_78 {t : Int} (hb : BASE M) (t0 : 0 ≤ t) (t1 : t < 8) (hQ : ∀ r, (tb (areB M) t = true ∧ r = 1 ∨ tb (areB M) t = false ∧ r = 0) → Q (some (vI r)) M) : Mq sx L K0 R0 78 [vR 8, vI t] M Q := by
  have h6 : isSt 6 := Or.inl rfl
  have e := hb.2.2.2.2.2
  refine m_78 (b_78_0 (c0 := 6) h6 ⟨⟨by rw [e]; exact areB_B.1, t0, by omega⟩, fun w => b_78_1 h6 (b_78_2 h6 ⟨Or.inl rfl, hQ _ (Or.inr ⟨?_, rfl⟩)⟩), fun w => b_78_2 h6 ⟨Or.inr rfl, hQ _ (Or.inl ⟨?_, rfl⟩)⟩⟩)
  · rw [e, bt_ne areB_B] at w; exact w
  · rw [e, bt_ne areB_B] at w; simpa using w
theorem s_82 {t o : Int} (hb : BASE M) (t0 : 0 ≤ t) (t1 : t < 8) (o0 : 0 ≤ o) (o1 : o < 8) (hQ : ∀ r, (gaP M t o ∧ r = 1 ∨ ¬ gaP M t o ∧ r = 0) → Q (some (vI r)) M) : Mq sx L K0 R0 82 [vR 8, vI o, vI t] M Q := by
  have h6 : isSt 6 := Or.inl rfl
  have ro := hb.2.2.1 o o0 o1
  have rt := hb.2.2.1 t t0 t1
  have eo := ro.2.2.1
  have et := rt.2.2.1
  have b1 := ro.1
  have b2 := ro.2.1
  have b3 := rt.1
  have b4 := rt.2.1
  refine m_82 (b_82_0 (c0 := 6) h6 ⟨fun q => b_82_1 h6 (hQ _ (Or.inr ⟨fun w => w.1 q, rfl⟩)), fun q => s_78 hb o0 o1 fun r hr => ⟨r, rfl, fun w => b_82_2 h6 ?_, fun w => b_82_1 h6 (hQ _ (Or.inr ⟨fun v => ?_, rfl⟩))⟩⟩)
  · have ao : tb (areB M) o = true := by
      rcases hr with v | v
      · exact v.1
      · omega
    refine s_80 h6 o0 o1 ⟨_, rfl, s_80 h6 t0 t1 ⟨_, rfl, ?_⟩⟩
    rw [show (6 : Nat) + 1 = 7 from rfl, eo, et]
    exact ⟨⟨by omega, by omega⟩, fun q2 => b_82_3 h6 (b_82_5 h6 ⟨Or.inr rfl, hQ _ (Or.inl ⟨⟨q, ao, Or.inl (by omega)⟩, rfl⟩)⟩), fun q2 => ⟨fun q3 => b_82_4 h6 (b_82_5 h6 ⟨Or.inl rfl, hQ _ (Or.inr ⟨fun w => by have := w.2.2; omega, rfl⟩)⟩), fun q3 => ⟨fun q4 => b_82_4 h6 (b_82_5 h6 ⟨Or.inl rfl, hQ _ (Or.inr ⟨fun w => by have := w.2.2; omega, rfl⟩)⟩), fun q4 => b_82_3 h6 (b_82_5 h6 ⟨Or.inr rfl, hQ _ (Or.inl ⟨⟨q, ao, Or.inr (by omega)⟩, rfl⟩)⟩)⟩⟩⟩
  · rcases hr with z | z
    · omega
    · have := v.2.1
      rw [z.1] at this
      exact absurd this (by decide)
theorem s_193 {t o : Int} (t0 : 0 ≤ t) (t1 : t < 8) (o0 : 0 ≤ o) (o1 : o < 8) (hQ : ∀ r, ((M 111 t < M 111 o ∨ M 111 o = M 111 t ∧ o < t) ∧ r = 1 ∨ ¬ (M 111 t < M 111 o ∨ M 111 o = M 111 t ∧ o < t) ∧ r = 0) → Q (some (vI r)) M) : Mq sx L K0 R0 193 [vR 106, vI o, vI t] M Q :=
  m_193 (b_193_0 ⟨⟨o0, o1⟩, ⟨t0, t1⟩, fun q => b_193_1 (b_193_3 ⟨Or.inr rfl, hQ _ (Or.inl ⟨Or.inl q, rfl⟩)⟩), fun q => ⟨⟨o0, o1⟩, ⟨t0, t1⟩, fun q2 => b_193_2 (b_193_3 ⟨Or.inl rfl, hQ _ (by omega)⟩), fun q2 => ⟨fun q3 => b_193_2 (b_193_3 ⟨Or.inl rfl, hQ _ (by omega)⟩), fun q3 => b_193_1 (b_193_3 ⟨Or.inr rfl, hQ _ (by omega)⟩)⟩⟩⟩)
/-- a task that may run: its span and its work -/
theorem am_B {o : Int} (hb : BASE M) (o0 : 0 ≤ o) (o1 : o < 8) (ao : tb (areB M) o = true) : 1 ≤ M (plA o) 4 ∧ M (plA o) 4 ≤ 60 ∧ 0 ≤ M (plA o) 10 ∧ M (plA o) 10 ≤ 153 := by
  obtain ⟨pv, _, _⟩ := (PTm_ok hb).ok hb
  have e27 : PTm M 104 27 = areB M := by rw [← hb.2.2.2.2.2]; rfl
  have hV := pv.2.2.2.2.2.2.2.2.2.2.2.2 o o0 o1 (by rw [e27]; exact ao)
  have e4 : PTm M 114 o = M (plA o) 4 := rfl
  have v1 := hV.1
  have v2 := hV.2.1
  rw [e4] at v1 v2
  have ft := ((are_t o0 o1).mp ao).1
  have bt := hb.2.1 o o0 o1
  have hd4ok : (hd4 (txR M o) (M 109 o)).1 = -1 := by
    apply Classical.byContradiction
    intro q
    unfold ftF at ft
    rw [if_pos q] at ft
    exact q ft
  have hd := hd_ok bt.1 hd4ok
  have w := wkS_B (x := txR M o) (n := M 109 o) (h := M 104 0) (a := a0F (txR M o) (M 109 o)) (k := stN (txR M o) (M 109 o) (M 104 0)) (by omega) (fun j hj => (st_ok hj).2)
  have k17 := stN_le bt
  have s2 := bt.2.2.2.2.2.2.2.2.2.1
  omega
def qF (M : Mem) (b o : Int) : Int := M (plA o) 10 * ((b + M (plA o) 4 - 1) / M (plA o) 4)
def waF (M : Mem) (t b : Int) : Int := sumI 8 fun o => if gaP M t o then qF M b o else 0
theorem q_B {b o : Int} (hb : BASE M) (o0 : 0 ≤ o) (o1 : o < 8) (ao : tb (areB M) o = true) (b0 : 0 ≤ b) (b1 : b ≤ 400) : (0 ≤ (b + M (plA o) 4 - 1) / M (plA o) 4 ∧ (b + M (plA o) 4 - 1) / M (plA o) 4 ≤ 459) ∧ 0 ≤ qF M b o ∧ qF M b o ≤ 70227 := by
  obtain ⟨h1, h2, h3, h4⟩ := am_B hb o0 o1 ao
  have d0 : 0 ≤ (b + M (plA o) 4 - 1) / M (plA o) 4 := Int.ediv_nonneg (by omega) (by omega)
  have d1 : (b + M (plA o) 4 - 1) / M (plA o) 4 ≤ b + M (plA o) 4 - 1 := Int.ediv_le_self _ (by omega)
  unfold qF
  refine ⟨⟨d0, by omega⟩, Int.mul_nonneg h3 d0, ?_⟩
  have := Int.mul_le_mul (a := M (plA o) 10) (c := 153) (b := (b + M (plA o) 4 - 1) / M (plA o) 4) (d := 459) h4 (by omega) d0 (by omega)
  omega
theorem s_34 {t b : Int} (hb : BASE M) (t0 : 0 ≤ t) (t1 : t < 8) (b0 : 0 ≤ b) (b1 : b ≤ 400) (hQ : Q (some (vI (waF M t b))) M) : Mq sx L K0 R0 34 [vR 53, vI t, vI b] M Q := by
  have lp : ∀ k : Int, 0 ≤ k → k ≤ 8 → ∀ u5 : AV, cat2 u5 = false → Rn sx L K0 R0 34 1 [vR 53, vI t, vI b, vI (sumI k.toNat fun o => if gaP M t o then qF M b o else 0), vI k, u5] [] M Q := by
    refine lpI (N := 8) (G := fun k => ∀ u5 : AV, cat2 u5 = false → Rn sx L K0 R0 34 1 [vR 53, vI t, vI b, vI (sumI k.toNat fun o => if gaP M t o then qF M b o else 0), vI k, u5] [] M Q) (fun k k0 k1 ih u5 hu => ?_) (fun u5 hu => bx_34_1 hu (by omega) (b_34_3 hu ?_))
    · rw [sumI_s k0] at ih
      have hs := sumI_0 (n := k.toNat) (f := fun o => if gaP M t o then qF M b o else 0) (b := 70227) (fun o x y => by
        by_cases w : gaP M t o
        · rw [if_pos w]; exact (q_B hb x (by omega) w.2.1 b0 b1).2
        · rw [if_neg w]; omega)
      generalize (sumI k.toNat fun o => if gaP M t o then qF M b o else 0) = sm at hs ih ⊢
      refine b_34_1 hu ⟨k0, k1⟩ ⟨fun q => absurd q (by omega), fun _ => s_82 hb t0 t1 k0 k1 fun r hr => ⟨r, rfl, fun w => ?_, fun w => ?_⟩⟩
      · have ng : ¬ gaP M t k := by
          rcases hr with v | v
          · omega
          · exact v.1
        rw [if_neg ng, Int.add_zero] at ih
        exact b_34_2 hu ⟨⟨by omega, by omega⟩, ih _ hu⟩
      · have g : gaP M t k := by
          rcases hr with v | v
          · exact v.1
          · omega
        have am := am_B hb k0 k1 g.2.1
        have q := q_B hb k0 k1 g.2.1 b0 b1
        rw [if_pos g] at ih
        have em : max (1 : Int) (M (plA k) 4) = M (plA k) 4 := by omega
        rw [em]
        have eq : M (plA k) 10 * ((b + M (plA k) 4 - 1) / M (plA k) 4) = qF M b k := rfl
        rw [eq]
        exact ⟨⟨by omega, by omega⟩, ⟨by omega, by omega⟩, ⟨by omega, by omega⟩, ⟨by omega, by omega⟩, ⟨by omega, by omega⟩, b_34_2 rfl ⟨⟨by omega, by omega⟩, ih _ rfl⟩⟩
    · unfold waF at hQ; exact hQ
  exact m_34 (b_34_0 (lp 0 (by omega) (by omega) vU rfl))
end

/-! bound -/
section
variable {sx : Int → Int} {L : Nat} {M M1 P : Mem} {Q : Option AV → Mem → Prop} {SR : (Mem → Prop) × (Mem → Prop)}
theorem b_33_0 {t : Int} (t0 : 0 ≤ t) (t1 : t < 8) (h : Mq sx L K0 R0 32 [vR 53, vI t] M (fun rv M1 => ∃ r, rv = some (vI r) ∧ (inR (M (plA t) 10 + r) ∧ Rn sx L K0 R0 33 1 [vR 53, vI t, vI (M (plA t) 10 + r), vI (M (plA t) 10 + r), vI 0, vU] [] M1 Q))) : Rn sx L K0 R0 33 0 [vR 53, vI t, vU, vU, vU, vU] [] M Q := by
  refine Rn_w (by decide) ?_
  show wpc sx L K0 R0 33 [(0, 1, .aload_n 0, []), (1, 1, .iload_n 1, []), (2, 3, .invokevirtual 47, [31, 914, 1]), (5, 3, .getfield 70, [1, 10, 291]), (8, 1, .aload_n 0, []), (9, 1, .iload_n 1, []), (10, 3, .invokevirtual 73, [32, 919, 1]), (13, 1, .iadd, []), (14, 1, .istore_n 2, []), (15, 1, .iload_n 2, []), (16, 1, .istore_n 3, []), (17, 1, .iconst 0, []), (18, 2, .istore 4, [])] 1 [vR 53, vI t, vU, vU, vU, vU] [] M Q
  simp only [w_al_0, w_il_1, w_ivv_1 (c2I _) cs0, mk_31, rk_31, rvk4, kin_T (ks_51), List.cons_append, List.nil_append, true_and, and_true]
  refine s_31 t0 t1 ⟨_, rfl, ?_⟩
  simp only [w_gf_1_10, kin_T (kpl (isPl_A t0 t1)), w_al_0, w_il_1, w_ivv_1 (c2I _) (cs1 _), mk_32, rk_32, rvk1, kin_T (ks_51), List.cons_append, List.nil_append, w_iadd, w_is_2 (c2I _), w_il_2, w_is_3 (c2I _), w_iconst, w_is_4 (c2I _), w_fall, true_and, and_true]
  exact h
theorem b_33_1 {t own b i : Int} {u5 : AV} (hu5 : cat2 u5 = false) (h : (400 < i → Rn sx L K0 R0 33 3 [vR 53, vI t, vI own, vI b, vI i, u5] [] M Q) ∧ (¬ 400 < i → (400 < b → Rn sx L K0 R0 33 3 [vR 53, vI t, vI own, vI b, vI i, u5] [] M Q) ∧ (¬ 400 < b → Mq sx L K0 R0 34 [vR 53, vI t, vI b] M (fun rv M1 => ∃ r, rv = some (vI r) ∧ (inR (own + r) ∧ ((¬ own + r = b → Rn sx L K0 R0 33 2 [vR 53, vI t, vI own, vI b, vI i, vI (own + r)] [] M1 Q) ∧ (¬ (¬ own + r = b) → Q (some (vI b)) M1))))))) : Rn sx L K0 R0 33 1 [vR 53, vI t, vI own, vI b, vI i, u5] [] M Q := by
  refine Rn_w (by decide) ?_
  show wpc sx L K0 R0 33 [(20, 2, .iload 4, []), (22, 3, .sipush 400, []), (25, 3, .if_icmp .gt 37, [3]), (28, 1, .iload_n 3, []), (29, 3, .sipush 400, []), (32, 3, .if_icmp .gt 30, [3]), (35, 1, .iload_n 2, []), (36, 1, .aload_n 0, []), (37, 1, .iload_n 1, []), (38, 1, .iload_n 3, []), (39, 3, .invokevirtual 76, [34, 940, 2]), (42, 1, .iadd, []), (43, 2, .istore 5, []), (45, 2, .iload 5, []), (47, 1, .iload_n 3, []), (48, 3, .if_icmp .ne 5, [2]), (51, 1, .iload_n 3, []), (52, 1, .ireturn, [])] 0 [vR 53, vI t, vI own, vI b, vI i, u5] [] M Q
  simp only [w_il_4, w_sipush, w_ic_gt, w_il_3, w_il_2, w_al_0, w_il_1, w_ivv_2 (c2I _) (c2I _) (cs1 _), mk_34, rk_34, rvk1, kin_T (ks_51), List.cons_append, List.nil_append, w_iadd, w_is_5 (c2I _), w_il_5, w_ic_ne, w_ret1 rk_33, true_and, and_true]
  exact h
theorem b_33_2 {t own b i y : Int} (h : inR (i + 1) ∧ Rn sx L K0 R0 33 1 [vR 53, vI t, vI own, vI y, vI (i + 1), vI y] [] M Q) : Rn sx L K0 R0 33 2 [vR 53, vI t, vI own, vI b, vI i, vI y] [] M Q := by
  refine Rn_w (by decide) ?_
  show wpc sx L K0 R0 33 [(53, 2, .iload 5, []), (55, 1, .istore_n 3, []), (56, 3, .iinc 4 1, []), (59, 3, .goto (-39), [1])] 0 [vR 53, vI t, vI own, vI b, vI i, vI y] [] M Q
  simp only [w_il_5, w_is_3 (c2I _), w_inc_4 (c2I _), w_goto, true_and, and_true]
  exact h
theorem b_33_3 {t own b i : Int} {u5 : AV} (h : Q (some (vI (-1))) M) : Rn sx L K0 R0 33 3 [vR 53, vI t, vI own, vI b, vI i, u5] [] M Q := by
  refine Rn_w (by decide) ?_
  show wpc sx L K0 R0 33 [(62, 1, .iconst (-1), []), (63, 1, .ireturn, [])] 0 [vR 53, vI t, vI own, vI b, vI i, u5] [] M Q
  simp only [w_iconst, w_ret1 rk_33, true_and, and_true]
  exact h
def bdF (own : Int) (f : Int → Int) : Nat → Int → Int
  | 0, _ => -1
  | n + 1, b => if 400 < b then -1 else if own + f b = b then b else bdF own f n (own + f b)
theorem wa_B {t b : Int} (hb : BASE M) (b0 : 0 ≤ b) (b1 : b ≤ 400) : 0 ≤ waF M t b ∧ waF M t b ≤ 561816 := by
  have hs := sumI_0 (n := 8) (f := fun o => if gaP M t o then qF M b o else 0) (b := 70227) (fun o x y => by
    by_cases w : gaP M t o
    · rw [if_pos w]; exact (q_B hb x (by omega) w.2.1 b0 b1).2
    · rw [if_neg w]; omega)
  unfold waF
  omega
theorem sumI_le {f g : Int → Int} : ∀ n : Nat, (∀ k : Int, 0 ≤ k → k < n → f k ≤ g k) → sumI n f ≤ sumI n g := by
  intro n
  induction n with
  | zero => intro _; simp [sumI]
  | succ n ih =>
    intro h
    have h1 := ih fun k a b => h k a (by omega)
    have h2 := h n (by omega) (by omega)
    simp only [sumI]
    omega
theorem wa_mono {t b b' : Int} (hb : BASE M) (h : b ≤ b') : waF M t b ≤ waF M t b' := by
  unfold waF
  refine sumI_le 8 fun o o0 o1 => ?_
  by_cases w : gaP M t o
  · rw [if_pos w, if_pos w]
    obtain ⟨h1, h2, h3, h4⟩ := am_B hb o0 (by omega) w.2.1
    unfold qF
    exact Int.mul_le_mul_of_nonneg_left (Int.ediv_le_ediv (by omega) (by omega)) h3
  · rw [if_neg w, if_neg w]; omega
noncomputable def ownF (M : Mem) (t : Int) : Int := M (plA t) 10 + hmF M t (hkF M t 8) 8
theorem s_33 {t : Int} (hb : BASE M) (t0 : 0 ≤ t) (t1 : t < 8) (at' : tb (areB M) t = true) (hQ : Q (some (vI (bdF (ownF M t) (waF M t) 401 (ownF M t)))) M) : Mq sx L K0 R0 33 [vR 53, vI t] M Q := by
  have am := am_B hb t0 t1 at'
  have hm := hm_B (t := t) (b := hkF M t 8) hb 8 (by omega)
  have ow : 0 ≤ ownF M t ∧ ownF M t ≤ 400 := by unfold ownF; omega
  have lp : ∀ (n : Nat) (i b : Int) (u5 : AV), cat2 u5 = false → i + n = 401 → 0 ≤ i → 0 ≤ b → Q (some (vI (bdF (ownF M t) (waF M t) n b))) M → Rn sx L K0 R0 33 1 [vR 53, vI t, vI (ownF M t), vI b, vI i, u5] [] M Q := by
    intro n
    induction n with
    | zero =>
      intro i b u5 hu hi i0 b0 hq
      exact b_33_1 hu ⟨fun _ => b_33_3 hq, fun q => absurd (by omega) q⟩
    | succ n ih =>
      intro i b u5 hu hi i0 b0 hq
      simp only [bdF] at hq
      refine b_33_1 hu ⟨fun q => absurd q (by omega), fun _ => ⟨fun q => b_33_3 ?_, fun q => s_34 hb t0 t1 b0 (by omega) ⟨_, rfl, ?_, fun q2 => b_33_2 ⟨⟨by omega, by omega⟩, ih (i + 1) _ _ rfl (by omega) (by omega) ?_ ?_⟩, fun q2 => ?_⟩⟩⟩
      · rw [if_pos q] at hq; exact hq
      · have w := wa_B (t := t) hb b0 (by omega)
        exact ⟨by omega, by omega⟩
      · have w := wa_B (t := t) hb b0 (by omega)
        omega
      · rw [if_neg q, if_neg q2] at hq; exact hq
      · rw [if_neg q, if_pos (Decidable.not_not.mp q2)] at hq; exact hq
  refine m_33 (b_33_0 t0 t1 (s_32 hb t0 t1 at' ⟨_, rfl, ?_⟩))
  have e : M (plA t) 10 + hmF M t (hkF M t 8) 8 = ownF M t := rfl
  rw [e]
  exact ⟨⟨by omega, by omega⟩, lp 401 0 (ownF M t) vU rfl (by omega) (by omega) ow.1 hQ⟩
theorem s_151w {o : Int} (hb : BASE M) (bf : BFr M M1) (rd : RDok M1) (o0 : 0 ≤ o) (o1 : o < 8) (ao : tb (areB M) o = true) (hQ : Q (some (vI (M (plA o) 10))) M1) : Mq sx L K0 R0 151 [vR 106, vI o] M1 Q := by
  have hV := am_V hb o0 o1 ao
  have rs := rsT hb bf rd o0 o1
  have n0 := hV.2.2.2.2.2.2.1
  have n20 := hV.2.2.2.2.2.2.2.1
  have bt := hb.2.1 o o0 o1
  have k17 := stN_le bt
  obtain ⟨_, _, tc, p1, p2, p3, p4, p5, s1, s2, s3, s4, s5⟩ := bt
  have e117 : PTm M 117 o = M (plA o) 9 := rfl
  have e9 := rs.1
  refine s_151 (k := stN (txR M o) (M 109 o) (M 104 0)) o0 o1 (by omega) (by omega) (fun j j0 j1 => ?_) ?_
  · have r := rs.2 j j0 (by omega)
    have b := stp_B hV hb.1.2.1 j0 (by omega)
    rw [r.2]; exact b.2
  · have ew : (sumI (stN (txR M o) (M 109 o) (M 104 0)) fun j => if M1 118 (20 * o + j) = 0 then M1 119 (20 * o + j) else 0) = M (plA o) 10 := by
      rw [s2]
      unfold wkS
      refine sumI_congr fun j j0 j1 => ?_
      have r := (rd o o0 o1).2.2.2.2.2.2 j.toNat (by rw [bf.tx, bf.a (c := 109) (by omega), bf.m (k := 0) (by omega)]; omega)
      rw [bf.tx, bf.a (c := 109) (by omega), Int.toNat_of_nonneg j0] at r
      rw [r.1, r.2]
    rw [ew]; exact hQ
theorem s_198l {t : Int} (hb : BASE M) (bf : BFr M M1) (rd : RDok M1) (t0 : 0 ≤ t) (t1 : t < 8) (ow : 0 ≤ ownF M t ∧ ownF M t ≤ 400) : ∀ (n : Nat) (b p : Int) (u6 : AV), cat2 u6 = false → 401 ≤ b + n → 0 ≤ b → ¬ b = p → b ≤ ownF M t + waF M t b → Q (some (vI (bdF (ownF M t) (waF M t) n b))) M1 → Rn sx L K0 R0 198 1 [vR 106, vI t, vI (ownF M t), vI (areB M), vI b, vI p, u6] [] M1 Q := by
  have e111 : ∀ o, M1 111 o = M 111 o := fun o => bf.a (by omega) o
  intro n
  induction n with
  | zero =>
    intro b p u6 hu hn b0 bp _ hq
    exact b_198_1 hu ⟨fun q => absurd q bp, fun _ => ⟨fun _ => b_198_6 hu ⟨fun q => absurd q (by omega), fun _ => b_198_8 hu hq⟩, fun q => absurd (by omega) q⟩⟩
  | succ n ih =>
    intro b p u6 hu hn b0 bp hle hq
    simp only [bdF] at hq
    refine b_198_1 hu ⟨fun q => absurd q bp, fun _ => ⟨fun q => b_198_6 hu ⟨fun q2 => absurd q2 (by omega), fun _ => b_198_8 hu ?_⟩, fun q => ?_⟩⟩
    · rw [if_pos q] at hq; exact hq
    · rw [if_neg q] at hq
      have b1 : b ≤ 400 := by omega
      have w := wa_B (t := t) hb b0 b1
      -- the sum
      have nxt : Rn sx L K0 R0 198 2 [vR 106, vI t, vI (ownF M t), vI (areB M), vI (ownF M t + waF M t b), vI b, vI 8] [] M1 Q := by
        refine b_198_2 ⟨fun _ => b_198_5 ?_, fun q => absurd (by omega) q⟩
        by_cases e : ownF M t + waF M t b = b
        · rw [if_pos e] at hq
          rw [e]
          exact b_198_1 rfl ⟨fun _ => b_198_6 rfl ⟨fun _ => b_198_7 rfl (b_198_8 rfl hq), fun q2 => absurd b1 q2⟩, fun q2 => absurd rfl q2⟩
        · rw [if_neg e] at hq
          have mono := wa_mono (t := t) (b := b) (b' := ownF M t + waF M t b) hb hle
          exact ih _ _ _ rfl (by omega) (by omega) e (by omega) hq
      have start : Rn sx L K0 R0 198 2 [vR 106, vI t, vI (ownF M t), vI (areB M), vI (ownF M t + sumI (0 : Int).toNat fun o => if gaP M t o then qF M b o else 0), vI b, vI 0] [] M1 Q := by
        refine lpI (N := 8) (G := fun k => Rn sx L K0 R0 198 2 [vR 106, vI t, vI (ownF M t), vI (areB M), vI (ownF M t + sumI k.toNat fun o => if gaP M t o then qF M b o else 0), vI b, vI k] [] M1 Q) (fun k k0 k1 ih2 => ?_) nxt 0 (by omega) (by omega)
        rw [sumI_s k0] at ih2
        have hs := sumI_0 (n := k.toNat) (f := fun o => if gaP M t o then qF M b o else 0) (b := 70227) (fun o x y => by
          by_cases w : gaP M t o
          · rw [if_pos w]; exact (q_B hb x (by omega) w.2.1 b0 b1).2
          · rw [if_neg w]; omega)
        generalize (sumI k.toNat fun o => if gaP M t o then qF M b o else 0) = sm at hs ih2 ⊢
        have no : ¬ gaP M t k → Rn sx L K0 R0 198 3 [vR 106, vI t, vI (ownF M t), vI (areB M), vI (ownF M t + sm), vI b, vI k] [vI (ownF M t + sm)] M1 Q := fun w => by
          rw [if_neg w, Int.add_zero] at ih2
          refine b_198_3 (b_198_4 ⟨⟨by omega, by omega⟩, ⟨by omega, by omega⟩, ?_⟩)
          rw [Int.add_zero]; exact ih2
        refine b_198_2 ⟨fun q => absurd q (by omega), fun _ => ⟨⟨areB_B.1, k0, by omega⟩, fun q => no fun w => ?_, fun q => ⟨fun q2 => no fun w => w.1 q2, fun q2 => s_193 t0 t1 k0 k1 fun r hr => ⟨r, rfl, fun q3 => no fun w => ?_, fun q3 => ?_⟩⟩⟩⟩
        · rw [bt_1 areB_B] at q; exact q w.2.1
        · rw [e111, e111] at hr
          have := w.2.2
          omega
        · rw [bt_1 areB_B] at q
          have ak := Decidable.not_not.mp q
          rw [e111, e111] at hr
          have g : gaP M t k := ⟨q2, ak, by omega⟩
          rw [if_pos g] at ih2
          have am := am_B hb k0 k1 ak
          have qb := q_B hb k0 k1 ak b0 b1
          have e114 : M1 114 k = M (plA k) 4 := by
            rw [(rd k k0 k1).2.1, bf.tx, bf.a (c := 109) (by omega), (hb.2.1 k k0 k1).2.2.2.2.2.1]
          rw [e114]
          have eq : (b + M (plA k) 4 - 1) / M (plA k) 4 * M (plA k) 10 = qF M b k := by unfold qF; exact Int.mul_comm _ _
          refine ⟨⟨k0, k1⟩, ⟨by omega, by omega⟩, ⟨by omega, by omega⟩, ⟨k0, k1⟩, ⟨by omega, by omega⟩, s_151w hb bf rd k0 k1 ak ⟨_, rfl, ?_⟩⟩
          rw [eq]
          refine ⟨⟨by omega, by omega⟩, b_198_4 ⟨⟨by omega, by omega⟩, ⟨by omega, by omega⟩, ?_⟩⟩
          rw [Int.add_assoc]; exact ih2
      have z : (sumI (0 : Int).toNat fun o => if gaP M t o then qF M b o else 0) = 0 := rfl
      rw [z, Int.add_zero] at start
      exact start
end

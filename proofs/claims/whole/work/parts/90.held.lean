/-! what is held against a task: the class -/
section
variable {sx : Int → Int} {L : Nat} {M : Mem} {Q : Option AV → Mem → Prop}
theorem b_32_0 {t : Int} (t0 : 0 ≤ t) (t1 : t < 8) (h : Rn sx L K0 R0 32 1 [vR 53, vI t, vI (iOr (M 1 1) (M (plA t) 11)), vI 0, vU] [] M Q) : Rn sx L K0 R0 32 0 [vR 53, vI t, vU, vU, vU] [] M Q := by
  refine Rn_w (by decide) ?_
  show wpc sx L K0 R0 32 [(0, 1, .aload_n 0, []), (1, 3, .getfield 9, [2, 0, 354]), (4, 3, .getfield 42, [7, 1, 174]), (7, 1, .aload_n 0, []), (8, 1, .iload_n 1, []), (9, 3, .invokevirtual 47, [31, 914, 1]), (12, 3, .getfield 51, [1, 11, 294]), (15, 1, .ior, []), (16, 1, .istore_n 2, []), (17, 1, .iconst 0, []), (18, 1, .istore_n 3, [])] 1 [vR 53, vI t, vU, vU, vU] [] M Q
  simp only [w_al_0, w_gf_2_0, kin_T (ks_51), rs_51_0, w_gf_7_1, kin_T (ks_1), w_il_1, w_ivv_1 (c2I _) (cs1 _), mk_31, rk_31, rvk4, List.cons_append, List.nil_append, true_and, and_true]
  refine s_31 t0 t1 ⟨_, rfl, ?_⟩
  simp only [w_gf_1_11, kin_T (kpl (isPl_A t0 t1)), w_ior, w_is_2 (c2I _), w_iconst, w_is_3 (c2I _), w_fall, true_and, and_true]
  exact h
theorem b_32_1 {t b o : Int} (o0 : 0 ≤ o) (o1 : o < 8) (h : Mq sx L K0 R0 82 [vR 8, vI o, vI t] M (fun rv M1 => ∃ r1, rv = some (vI r1) ∧ ((r1 = (0 : Int) → Rn sx L K0 R0 32 2 [vR 53, vI t, vI b, vI o, vU] [] M1 Q) ∧ (¬ (r1 = (0 : Int)) → Rn sx L K0 R0 32 2 [vR 53, vI t, vI (iOr b (M1 (plA o) 11)), vI o, vU] [] M1 Q)))) : Rn sx L K0 R0 32 1 [vR 53, vI t, vI b, vI o, vU] [] M Q := by
  refine Rn_w (by decide) ?_
  show wpc sx L K0 R0 32 [(19, 1, .iload_n 3, []), (20, 2, .bipush 8, []), (22, 3, .if_icmp .ge 33, [3]), (25, 1, .aload_n 0, []), (26, 3, .getfield 19, [2, 2, 356]), (29, 1, .iload_n 3, []), (30, 1, .iload_n 1, []), (31, 3, .invokevirtual 56, [82, 923, 2]), (34, 3, .ifCond .eq 15, [2]), (37, 1, .iload_n 2, []), (38, 1, .aload_n 0, []), (39, 3, .getfield 15, [2, 1, 355]), (42, 1, .iload_n 3, []), (43, 1, .aaload, []), (44, 3, .getfield 51, [1, 11, 294]), (47, 1, .ior, []), (48, 1, .istore_n 2, [])] 2 [vR 53, vI t, vI b, vI o, vU] [] M Q
  simp only [w_il_3, w_bipush, w_ic_ge, w_al_0, w_gf_2_2, kin_T (ks_51), rs_51_2, w_il_1, w_ivv_2 (c2I _) (c2I _) cs0, mk_82, kin_T (ks_6), rk_82, rvk2, List.cons_append, List.nil_append, w_if_eq, w_il_2, w_gf_2_1, rs_51_1, w_aald, rpls o0 o1, arq_T (ks_5) ⟨by decide, by decide⟩, o0, (show o < ((8 : Nat) : Int) from o1), w_gf_1_11, kin_T (kpl (isPl_A o0 o1)), w_ior, w_is_2 (c2I _), w_fall, true_and, and_true]
  exact ⟨fun q => absurd q (by omega), fun _ => h⟩
theorem bx_32_1 {t b o : Int} (hx : 8 ≤ o) (h : Rn sx L K0 R0 32 3 [vR 53, vI t, vI b, vI o, vU] [] M Q) : Rn sx L K0 R0 32 1 [vR 53, vI t, vI b, vI o, vU] [] M Q := by
  refine Rn_w (by decide) ?_
  show wpc sx L K0 R0 32 [(19, 1, .iload_n 3, []), (20, 2, .bipush 8, []), (22, 3, .if_icmp .ge 33, [3]), (25, 1, .aload_n 0, []), (26, 3, .getfield 19, [2, 2, 356]), (29, 1, .iload_n 3, []), (30, 1, .iload_n 1, []), (31, 3, .invokevirtual 56, [82, 923, 2]), (34, 3, .ifCond .eq 15, [2]), (37, 1, .iload_n 2, []), (38, 1, .aload_n 0, []), (39, 3, .getfield 15, [2, 1, 355]), (42, 1, .iload_n 3, []), (43, 1, .aaload, []), (44, 3, .getfield 51, [1, 11, 294]), (47, 1, .ior, []), (48, 1, .istore_n 2, [])] 2 [vR 53, vI t, vI b, vI o, vU] [] M Q
  simp only [w_il_3, w_bipush, w_ic_ge]
  exact ⟨fun _ => h, fun q => absurd hx q⟩
theorem b_32_2 {t b o : Int} (h : inR (o + 1) ∧ Rn sx L K0 R0 32 1 [vR 53, vI t, vI b, vI (o + 1), vU] [] M Q) : Rn sx L K0 R0 32 2 [vR 53, vI t, vI b, vI o, vU] [] M Q := by
  refine Rn_w (by decide) ?_
  show wpc sx L K0 R0 32 [(49, 3, .iinc 3 1, []), (52, 3, .goto (-33), [1])] 0 [vR 53, vI t, vI b, vI o, vU] [] M Q
  simp only [w_inc_3 (c2I _), w_goto, true_and, and_true]
  exact h
theorem b_32_3 {t b o : Int} (h : Rn sx L K0 R0 32 4 [vR 53, vI t, vI b, vI 0, vI 0] [] M Q) : Rn sx L K0 R0 32 3 [vR 53, vI t, vI b, vI o, vU] [] M Q := by
  refine Rn_w (by decide) ?_
  show wpc sx L K0 R0 32 [(55, 1, .iconst 0, []), (56, 1, .istore_n 3, []), (57, 1, .iconst 0, []), (58, 2, .istore 4, [])] 4 [vR 53, vI t, vI b, vI o, vU] [] M Q
  simp only [w_iconst, w_is_3 (c2I _), w_is_4 (c2I _), w_fall, true_and, and_true]
  exact h
theorem b_32_4 {t b v o : Int} (o0 : 0 ≤ o) (o1 : o < 8) (h : (o = t → Rn sx L K0 R0 32 5 [vR 53, vI t, vI b, vI v, vI o] [] M Q) ∧ (¬ o = t → Mq sx L K0 R0 78 [vR 8, vI o] M (fun rv M1 => ∃ r1, rv = some (vI r1) ∧ ((r1 = (0 : Int) → Rn sx L K0 R0 32 5 [vR 53, vI t, vI b, vI v, vI o] [] M1 Q) ∧ (¬ (r1 = (0 : Int)) → Mq sx L K0 R0 82 [vR 8, vI o, vI t] M1 (fun rv M2 => ∃ r2, rv = some (vI r2) ∧ ((¬ r2 = (0 : Int) → Rn sx L K0 R0 32 5 [vR 53, vI t, vI b, vI v, vI o] [] M2 Q) ∧ (¬ (¬ r2 = (0 : Int)) → Mq sx L K0 R0 27 [vR (plA o + 2), vI b] M2 (fun rv M3 => ∃ r3, rv = some (vI r3) ∧ Rn sx L K0 R0 32 5 [vR 53, vI t, vI b, vI (max v r3), vI o] [] M3 Q))))))))) : Rn sx L K0 R0 32 4 [vR 53, vI t, vI b, vI v, vI o] [] M Q := by
  refine Rn_w (by decide) ?_
  show wpc sx L K0 R0 32 [(60, 2, .iload 4, []), (62, 2, .bipush 8, []), (64, 3, .if_icmp .ge 56, [6]), (67, 2, .iload 4, []), (69, 1, .iload_n 1, []), (70, 3, .if_icmp .eq 44, [5]), (73, 1, .aload_n 0, []), (74, 3, .getfield 19, [2, 2, 356]), (77, 2, .iload 4, []), (79, 3, .invokevirtual 35, [78, 909, 1]), (82, 3, .ifCond .eq 32, [5]), (85, 1, .aload_n 0, []), (86, 3, .getfield 19, [2, 2, 356]), (89, 2, .iload 4, []), (91, 1, .iload_n 1, []), (92, 3, .invokevirtual 56, [82, 923, 2]), (95, 3, .ifCond .ne 19, [5]), (98, 1, .iload_n 3, []), (99, 1, .aload_n 0, []), (100, 3, .getfield 15, [2, 1, 355]), (103, 2, .iload 4, []), (105, 1, .aaload, []), (106, 1, .iload_n 2, []), (107, 3, .invokevirtual 60, [27, 928, 1]), (110, 3, .invokestatic 64, [1002, 939]), (113, 1, .istore_n 3, [])] 5 [vR 53, vI t, vI b, vI v, vI o] [] M Q
  simp only [w_il_4, w_bipush, w_ic_ge, w_il_1, w_ic_eq, w_al_0, w_gf_2_2, kin_T (ks_51), rs_51_2, w_ivv_1 (c2I _) cs0, mk_78, kin_T (ks_6), rk_78, rvk2, List.cons_append, List.nil_append, w_if_eq, w_ivv_2 (c2I _) (c2I _) cs0, mk_82, rk_82, w_if_ne, w_il_3, w_gf_2_1, rs_51_1, w_aald, rpls o0 o1, arq_T (ks_5) ⟨by decide, by decide⟩, o0, (show o < ((8 : Nat) : Int) from o1), w_il_2, w_ivv_1 (c2I _) (cs1 _), mk_27, rk_27, rvk1, kin_T (kpl (isPl_A o0 o1)), w_max cs0, w_is_3 (c2I _), w_fall, true_and, and_true]
  exact ⟨fun q => absurd q (by omega), fun _ => h⟩
theorem bx_32_4 {t b v o : Int} (hx : 8 ≤ o) (h : Q (some (vI v)) M) : Rn sx L K0 R0 32 4 [vR 53, vI t, vI b, vI v, vI o] [] M Q := by
  have six : Rn sx L K0 R0 32 6 [vR 53, vI t, vI b, vI v, vI o] [] M Q := by
    refine Rn_w (by decide) ?_
    show wpc sx L K0 R0 32 [(120, 1, .iload_n 3, []), (121, 1, .ireturn, [])] 0 [vR 53, vI t, vI b, vI v, vI o] [] M Q
    simp only [w_il_3, w_ret1 rk_32, true_and, and_true]
    exact h
  refine Rn_w (by decide) ?_
  show wpc sx L K0 R0 32 [(60, 2, .iload 4, []), (62, 2, .bipush 8, []), (64, 3, .if_icmp .ge 56, [6]), (67, 2, .iload 4, []), (69, 1, .iload_n 1, []), (70, 3, .if_icmp .eq 44, [5]), (73, 1, .aload_n 0, []), (74, 3, .getfield 19, [2, 2, 356]), (77, 2, .iload 4, []), (79, 3, .invokevirtual 35, [78, 909, 1]), (82, 3, .ifCond .eq 32, [5]), (85, 1, .aload_n 0, []), (86, 3, .getfield 19, [2, 2, 356]), (89, 2, .iload 4, []), (91, 1, .iload_n 1, []), (92, 3, .invokevirtual 56, [82, 923, 2]), (95, 3, .ifCond .ne 19, [5]), (98, 1, .iload_n 3, []), (99, 1, .aload_n 0, []), (100, 3, .getfield 15, [2, 1, 355]), (103, 2, .iload 4, []), (105, 1, .aaload, []), (106, 1, .iload_n 2, []), (107, 3, .invokevirtual 60, [27, 928, 1]), (110, 3, .invokestatic 64, [1002, 939]), (113, 1, .istore_n 3, [])] 5 [vR 53, vI t, vI b, vI v, vI o] [] M Q
  simp only [w_il_4, w_bipush, w_ic_ge]
  exact ⟨fun _ => six, fun q => absurd hx q⟩
theorem b_32_5 {t b v o : Int} (h : inR (o + 1) ∧ Rn sx L K0 R0 32 4 [vR 53, vI t, vI b, vI v, vI (o + 1)] [] M Q) : Rn sx L K0 R0 32 5 [vR 53, vI t, vI b, vI v, vI o] [] M Q := by
  refine Rn_w (by decide) ?_
  show wpc sx L K0 R0 32 [(114, 3, .iinc 4 1, []), (117, 3, .goto (-57), [4])] 0 [vR 53, vI t, vI b, vI v, vI o] [] M Q
  simp only [w_inc_4 (c2I _), w_goto, true_and, and_true]
  exact h
def hkF (M : Mem) (t : Int) : Nat → Int
  | 0 => iOr (M 1 1) (M (plA t) 11)
  | k + 1 => if gaP M t k then iOr (hkF M t k) (M (plA k) 11) else hkF M t k
def hmF (M : Mem) (t b : Int) : Nat → Int
  | 0 => 0
  | k + 1 => if ¬ (k : Int) = t ∧ tb (areB M) k = true ∧ ¬ gaP M t k then max (hmF M t b k) (mxF (PTm M) k b (PTm M 117 k).toNat) else hmF M t b k
theorem tk_am {o : Int} (hb : BASE M) (o0 : 0 ≤ o) (o1 : o < 8) (ao : tb (areB M) o = true) : M (plA o) 11 = tkB (PTm M) o := by
  obtain ⟨pv, hC, _⟩ := (PTm_ok hb).ok hb
  have e27 : PTm M 104 27 = areB M := by rw [← hb.2.2.2.2.2]; rfl
  exact (hC.2.2.2.2 o o0 o1 (by rw [e27]; exact ao)).2.2.2.2.1
theorem tkB_B {P : Mem} {o : Int} : inB (tkB P o) := mkB_B 6 _ (by omega)
theorem hk_B {t : Int} (hb : BASE M) (t0 : 0 ≤ t) (t1 : t < 8) (at' : tb (areB M) t = true) : ∀ k : Nat, k ≤ 8 → inB (hkF M t k) := by
  intro k
  induction k with
  | zero =>
    intro _
    simp only [hkF]
    rw [tk_am hb t0 t1 at', hb.1.2.2.2.2]
    exact or_B (mkB_B 6 _ (by omega)) tkB_B
  | succ k ih =>
    intro hk
    simp only [hkF]
    by_cases g : gaP M t k
    · rw [if_pos g, tk_am hb (by omega) (by omega) g.2.1]
      exact or_B (ih (by omega)) tkB_B
    · rw [if_neg g]; exact ih (by omega)
theorem s_32 {t : Int} (hb : BASE M) (t0 : 0 ≤ t) (t1 : t < 8) (at' : tb (areB M) t = true) (hQ : Q (some (vI (hmF M t (hkF M t 8) 8))) M) : Mq sx L K0 R0 32 [vR 53, vI t] M Q := by
  obtain ⟨pv, hC, _⟩ := (PTm_ok hb).ok hb
  have e27 : PTm M 104 27 = areB M := by rw [← hb.2.2.2.2.2]; rfl
  have hB := hk_B hb t0 t1 at' 8 (by omega)
  have snd : ∀ b, inB b → Q (some (vI (hmF M t b 8))) M → Rn sx L K0 R0 32 4 [vR 53, vI t, vI b, vI 0, vI 0] [] M Q := by
    intro b bB hq
    refine lpI (N := 8) (G := fun k => Rn sx L K0 R0 32 4 [vR 53, vI t, vI b, vI (hmF M t b k.toNat), vI k] [] M Q) (fun k k0 k1 ih => ?_) (bx_32_4 (by omega) hq) 0 (by omega) (by omega)
    rw [show (k + 1).toNat = k.toNat + 1 by omega] at ih
    simp only [hmF, Int.toNat_of_nonneg k0] at ih
    have no : ¬ (¬ k = t ∧ tb (areB M) k = true ∧ ¬ gaP M t k) → Rn sx L K0 R0 32 5 [vR 53, vI t, vI b, vI (hmF M t b k.toNat), vI k] [] M Q := fun w => by
      rw [if_neg w] at ih
      exact b_32_5 ⟨⟨by omega, by omega⟩, ih⟩
    refine b_32_4 k0 k1 ⟨fun q => no fun w => w.1 q, fun q => s_78 hb k0 k1 fun r hr => ⟨r, rfl, fun w => no fun v => ?_, fun w => s_82 hb t0 t1 k0 k1 fun r2 hr2 => ⟨r2, rfl, fun w2 => no fun v => ?_, fun w2 => ?_⟩⟩⟩
    · rcases hr with z | z
      · omega
      · rw [z.1] at v; exact absurd v.2.1 (by decide)
    · rcases hr2 with z | z
      · exact v.2.2 z.1
      · exact w2 z.2
    · have ak : tb (areB M) k = true := by
        rcases hr with z | z
        · exact z.1
        · omega
      have ng : ¬ gaP M t k := by
        rcases hr2 with z | z
        · omega
        · exact z.1
      rw [if_pos ⟨q, ak, ng⟩] at ih
      exact s_27 hC pv k0 k1 (by rw [e27]; exact ak) bB ⟨_, rfl, b_32_5 ⟨⟨by omega, by omega⟩, ih⟩⟩
  refine m_32 (b_32_0 t0 t1 ?_)
  refine lpI (N := 8) (G := fun k => Rn sx L K0 R0 32 1 [vR 53, vI t, vI (hkF M t k.toNat), vI k, vU] [] M Q) (fun k k0 k1 ih => ?_) (bx_32_1 (by omega) (b_32_3 (snd _ hB hQ))) 0 (by omega) (by omega)
  rw [show (k + 1).toNat = k.toNat + 1 by omega] at ih
  simp only [hkF, Int.toNat_of_nonneg k0] at ih
  refine b_32_1 k0 k1 (s_82 hb t0 t1 k0 k1 fun r hr => ⟨r, rfl, fun w => ?_, fun w => ?_⟩)
  · have ng : ¬ gaP M t k := by
      rcases hr with z | z
      · omega
      · exact z.1
    rw [if_neg ng] at ih
    exact b_32_2 ⟨⟨by omega, by omega⟩, ih⟩
  · have g : gaP M t k := by
      rcases hr with z | z
      · exact z.1
      · omega
    rw [if_pos g] at ih
    exact b_32_2 ⟨⟨by omega, by omega⟩, ih⟩
end

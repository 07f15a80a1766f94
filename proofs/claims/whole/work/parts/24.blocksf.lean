theorem b_195_0 {sx : Int → Int} {L : Nat} {x1 : Int} {x2 : Int} {M : Mem} {Q : Option AV → Mem → Prop} 
    (h : inR ((20 : Int) * x1) ∧ (inR (((20 : Int) * x1) + x2) ∧ (((0 : Int) ≤ ((20 : Int) * x1) + x2 ∧ ((20 : Int) * x1) + x2 < (160 : Int)) ∧ (inR (x2 + 1) ∧ (Rn sx L K0 R0 195 1 [vR 106, vI x1, vI x2, vI (M 119 (((20 : Int) * x1) + x2)), vI 0, vI (x2 + 1), vU] [] M Q))))) : Rn sx L K0 R0 195 0 [vR 106, vI x1, vI x2, vU, vU, vU, vU] [] M Q := by
  refine Rn_w (by decide) ?_
  show wpc sx L K0 R0 195 [(0, 1, .aload_n 0, []), (1, 3, .getfield 52, [9, 17, 1171]), (4, 2, .bipush 20, []), (6, 1, .iload_n 1, []), (7, 1, .imul, []), (8, 1, .iload_n 2, []), (9, 1, .iadd, []), (10, 1, .iaload, []), (11, 1, .istore_n 3, []), (12, 1, .iconst 0, []), (13, 2, .istore 4, []), (15, 1, .iload_n 2, []), (16, 1, .iconst 1, []), (17, 1, .iadd, []), (18, 2, .istore 5, [])] 1 [vR 106, vI x1, vI x2, vU, vU, vU, vU] [] M Q
  simp only [w_al_0, w_gf_9_17, kin_T (ks_104), rs_104_17, w_bipush, w_il_1, w_imul, w_il_2, w_iadd, w_iald, arr_T (ks_119), w_is_3 (c2I _), w_iconst, w_is_4 (c2I _), w_is_5 (c2I _), w_fall, true_and, and_true, true_or, or_true]
  exact h
set_option maxRecDepth 8192 in
theorem b_195_1 {sx : Int → Int} {L : Nat} {x1 : Int} {x2 : Int} {x3 : Int} {x4 : Int} {x5 : Int} {u6 : AV} {M : Mem} {Q : Option AV → Mem → Prop} (hu6 : cat2 u6 = false)
    (h : ((0 : Int) ≤ x1 ∧ x1 < (8 : Int)) ∧ ((M 117 x1 ≤ x5 → Rn sx L K0 R0 195 5 [vR 106, vI x1, vI x2, vI x3, vI x4, vI x5, u6] [] M Q) ∧ (¬ (M 117 x1 ≤ x5) → inR ((20 : Int) * x1) ∧ (inR (((20 : Int) * x1) + x5) ∧ (((0 : Int) ≤ ((20 : Int) * x1) + x5 ∧ ((20 : Int) * x1) + x5 < (160 : Int)) ∧ ((¬ M 118 (((20 : Int) * x1) + x5) = (2 : Int) → Rn sx L K0 R0 195 2 [vR 106, vI x1, vI x2, vI x3, vI x4, vI x5, vI (((20 : Int) * x1) + x5)] [] M Q) ∧ (¬ (¬ M 118 (((20 : Int) * x1) + x5) = (2 : Int)) → ((0 : Int) ≤ ((20 : Int) * x1) + x5 ∧ ((20 : Int) * x1) + x5 < (160 : Int)) ∧ ((¬ M 119 (((20 : Int) * x1) + x5) = x3 → Rn sx L K0 R0 195 2 [vR 106, vI x1, vI x2, vI x3, vI x4, vI x5, vI (((20 : Int) * x1) + x5)] [] M Q) ∧ (¬ (¬ M 119 (((20 : Int) * x1) + x5) = x3) → Q (some (vI x4)) M))))))))) : Rn sx L K0 R0 195 1 [vR 106, vI x1, vI x2, vI x3, vI x4, vI x5, u6] [] M Q := by
  refine Rn_w (by decide) ?_
  show wpc sx L K0 R0 195 [(20, 2, .iload 5, []), (22, 1, .aload_n 0, []), (23, 3, .getfield 46, [9, 15, 1169]), (26, 1, .iload_n 1, []), (27, 1, .iaload, []), (28, 3, .if_icmp .ge 69, [5]), (31, 2, .bipush 20, []), (33, 1, .iload_n 1, []), (34, 1, .imul, []), (35, 2, .iload 5, []), (37, 1, .iadd, []), (38, 2, .istore 6, []), (40, 1, .aload_n 0, []), (41, 3, .getfield 49, [9, 16, 1170]), (44, 2, .iload 6, []), (46, 1, .iaload, []), (47, 1, .iconst 2, []), (48, 3, .if_icmp .ne 17, [2]), (51, 1, .aload_n 0, []), (52, 3, .getfield 52, [9, 17, 1171]), (55, 2, .iload 6, []), (57, 1, .iaload, []), (58, 1, .iload_n 3, []), (59, 3, .if_icmp .ne 6, [2]), (62, 2, .iload 4, []), (64, 1, .ireturn, [])] 0 [vR 106, vI x1, vI x2, vI x3, vI x4, vI x5, u6] [] M Q
  simp only [w_il_5, w_al_0, w_gf_9_15, kin_T (ks_104), rs_104_15, w_il_1, w_iald, arr_T (ks_117), w_ic_ge, w_bipush, w_imul, w_iadd, w_is_6 (c2I _), w_gf_9_16, rs_104_16, w_il_6, arr_T (ks_118), w_iconst, w_ic_ne, w_gf_9_17, rs_104_17, arr_T (ks_119), w_il_3, w_il_4, w_ret1 rk_195, true_and, and_true, true_or, or_true]
  exact h
theorem b_195_2 {sx : Int → Int} {L : Nat} {x1 : Int} {x2 : Int} {x3 : Int} {x4 : Int} {x5 : Int} {x6 : Int} {M : Mem} {Q : Option AV → Mem → Prop} 
    (h : ((0 : Int) ≤ x6 ∧ x6 < (160 : Int)) ∧ ((¬ M 118 x6 = (0 : Int) → Rn sx L K0 R0 195 3 [vR 106, vI x1, vI x2, vI x3, vI x4, vI x5, vI x6] [vI x4] M Q) ∧ (¬ (¬ M 118 x6 = (0 : Int)) → ((0 : Int) ≤ x6 ∧ x6 < (160 : Int)) ∧ (Rn sx L K0 R0 195 4 [vR 106, vI x1, vI x2, vI x3, vI x4, vI x5, vI x6] [vI (M 119 x6), vI x4] M Q)))) : Rn sx L K0 R0 195 2 [vR 106, vI x1, vI x2, vI x3, vI x4, vI x5, vI x6] [] M Q := by
  refine Rn_w (by decide) ?_
  show wpc sx L K0 R0 195 [(65, 2, .iload 4, []), (67, 1, .aload_n 0, []), (68, 3, .getfield 49, [9, 16, 1170]), (71, 2, .iload 6, []), (73, 1, .iaload, []), (74, 3, .ifCond .ne 13, [3]), (77, 1, .aload_n 0, []), (78, 3, .getfield 52, [9, 17, 1171]), (81, 2, .iload 6, []), (83, 1, .iaload, []), (84, 3, .goto 4, [4])] 0 [vR 106, vI x1, vI x2, vI x3, vI x4, vI x5, vI x6] [] M Q
  simp only [w_il_4, w_al_0, w_gf_9_16, kin_T (ks_104), rs_104_16, w_il_6, w_iald, arr_T (ks_118), w_if_ne, w_gf_9_17, rs_104_17, arr_T (ks_119), w_goto, true_and, and_true, true_or, or_true]
  exact h
theorem b_195_3 {sx : Int → Int} {L : Nat} {x1 : Int} {x2 : Int} {x3 : Int} {x4 : Int} {x5 : Int} {x6 : Int} {y0 : Int} {M : Mem} {Q : Option AV → Mem → Prop} 
    (h : Rn sx L K0 R0 195 4 [vR 106, vI x1, vI x2, vI x3, vI x4, vI x5, vI x6] [vI 0, vI y0] M Q) : Rn sx L K0 R0 195 3 [vR 106, vI x1, vI x2, vI x3, vI x4, vI x5, vI x6] [vI y0] M Q := by
  refine Rn_w (by decide) ?_
  show wpc sx L K0 R0 195 [(87, 1, .iconst 0, [])] 4 [vR 106, vI x1, vI x2, vI x3, vI x4, vI x5, vI x6] [vI y0] M Q
  simp only [w_iconst, w_fall, true_and, and_true, true_or, or_true]
  exact h
theorem b_195_4 {sx : Int → Int} {L : Nat} {x1 : Int} {x2 : Int} {x3 : Int} {x4 : Int} {x5 : Int} {x6 : Int} {y0 : Int} {y1 : Int} {M : Mem} {Q : Option AV → Mem → Prop} 
    (h : inR (y0 + y1) ∧ (inR (x5 + 1) ∧ (Rn sx L K0 R0 195 1 [vR 106, vI x1, vI x2, vI x3, vI (y0 + y1), vI (x5 + 1), vI x6] [] M Q))) : Rn sx L K0 R0 195 4 [vR 106, vI x1, vI x2, vI x3, vI x4, vI x5, vI x6] [vI y1, vI y0] M Q := by
  refine Rn_w (by decide) ?_
  show wpc sx L K0 R0 195 [(88, 1, .iadd, []), (89, 2, .istore 4, []), (91, 3, .iinc 5 1, []), (94, 3, .goto (-74), [1])] 0 [vR 106, vI x1, vI x2, vI x3, vI x4, vI x5, vI x6] [vI y1, vI y0] M Q
  simp only [w_iadd, w_is_4 (c2I _), w_inc_5 (c2I _), w_goto, true_and, and_true, true_or, or_true]
  exact h
theorem b_195_5 {sx : Int → Int} {L : Nat} {x1 : Int} {x2 : Int} {x3 : Int} {x4 : Int} {x5 : Int} {u6 : AV} {M : Mem} {Q : Option AV → Mem → Prop} (hu6 : cat2 u6 = false)
    (h : Q (some (vI x4)) M) : Rn sx L K0 R0 195 5 [vR 106, vI x1, vI x2, vI x3, vI x4, vI x5, u6] [] M Q := by
  refine Rn_w (by decide) ?_
  show wpc sx L K0 R0 195 [(97, 2, .iload 4, []), (99, 1, .ireturn, [])] 0 [vR 106, vI x1, vI x2, vI x3, vI x4, vI x5, u6] [] M Q
  simp only [w_il_4, w_ret1 rk_195, true_and, and_true, true_or, or_true]
  exact h
theorem b_196_0 {sx : Int → Int} {L : Nat} {x1 : Int} {M : Mem} {Q : Option AV → Mem → Prop} 
    (h : Mq sx L K0 R0 154 [vR 106] M (fun rv M1 => ∃ r1, rv = some (vI r1) ∧ (Rn sx L K0 R0 196 1 [vR 106, vI x1, vI r1, vI 0, vI 0, vU, vU, vU, vU, vU] [] M1 Q))) : Rn sx L K0 R0 196 0 [vR 106, vI x1, vU, vU, vU, vU, vU, vU, vU, vU] [] M Q := by
  refine Rn_w (by decide) ?_
  show wpc sx L K0 R0 196 [(0, 1, .aload_n 0, []), (1, 3, .invokevirtual 196, [154, 1417, 0]), (4, 1, .istore_n 2, []), (5, 1, .iconst 0, []), (6, 1, .istore_n 3, []), (7, 1, .iconst 0, []), (8, 2, .istore 4, [])] 1 [vR 106, vI x1, vU, vU, vU, vU, vU, vU, vU, vU] [] M Q
  simp only [w_al_0, w_ivv_0  cs0, mk_154, kin_T (ks_104), rk_154, rvk1, List.cons_append, List.nil_append, w_is_2 (c2I _), w_iconst, w_is_3 (c2I _), w_is_4 (c2I _), w_fall, true_and, and_true, true_or, or_true]
  exact h
theorem b_196_1 {sx : Int → Int} {L : Nat} {x1 : Int} {x2 : Int} {x3 : Int} {x4 : Int} {u5 : AV} {u6 : AV} {M : Mem} {Q : Option AV → Mem → Prop} (hu5 : cat2 u5 = false) (hu6 : cat2 u6 = false)
    (h : (M 104 0 ≤ x4 → Rn sx L K0 R0 196 12 [vR 106, vI x1, vI x2, vI x3, vI x4, u5, u6, vU, vU, vU] [] M Q) ∧ (¬ (M 104 0 ≤ x4) → ((0 : Int) ≤ x4 ∧ x4 < (6 : Int)) ∧ ((¬ M 105 x4 = (2 : Int) → Rn sx L K0 R0 196 2 [vR 106, vI x1, vI x2, vI x3, vI x4, u5, u6, vU, vU, vU] [] M Q) ∧ (¬ (¬ M 105 x4 = (2 : Int)) → Rn sx L K0 R0 196 3 [vR 106, vI x1, vI x2, vI x3, vI x4, u5, u6, vU, vU, vU] [vI 1] M Q)))) : Rn sx L K0 R0 196 1 [vR 106, vI x1, vI x2, vI x3, vI x4, u5, u6, vU, vU, vU] [] M Q := by
  refine Rn_w (by decide) ?_
  show wpc sx L K0 R0 196 [(10, 2, .iload 4, []), (12, 1, .aload_n 0, []), (13, 3, .getfield 139, [9, 0, 1154]), (16, 3, .if_icmp .ge 108, [12]), (19, 1, .aload_n 0, []), (20, 3, .getfield 7, [9, 1, 1155]), (23, 2, .iload 4, []), (25, 1, .iaload, []), (26, 1, .iconst 2, []), (27, 3, .if_icmp .ne 7, [2]), (30, 1, .iconst 1, []), (31, 3, .goto 4, [3])] 0 [vR 106, vI x1, vI x2, vI x3, vI x4, u5, u6, vU, vU, vU] [] M Q
  simp only [w_il_4, w_al_0, w_gf_9_0, kin_T (ks_104), w_ic_ge, w_gf_9_1, rs_104_1, w_iald, arr_T (ks_105), w_iconst, w_ic_ne, w_goto, true_and, and_true, true_or, or_true]
  exact h
theorem b_196_2 {sx : Int → Int} {L : Nat} {x1 : Int} {x2 : Int} {x3 : Int} {x4 : Int} {u5 : AV} {u6 : AV} {M : Mem} {Q : Option AV → Mem → Prop} (hu5 : cat2 u5 = false) (hu6 : cat2 u6 = false)
    (h : Rn sx L K0 R0 196 3 [vR 106, vI x1, vI x2, vI x3, vI x4, u5, u6, vU, vU, vU] [vI 0] M Q) : Rn sx L K0 R0 196 2 [vR 106, vI x1, vI x2, vI x3, vI x4, u5, u6, vU, vU, vU] [] M Q := by
  refine Rn_w (by decide) ?_
  show wpc sx L K0 R0 196 [(34, 1, .iconst 0, [])] 3 [vR 106, vI x1, vI x2, vI x3, vI x4, u5, u6, vU, vU, vU] [] M Q
  simp only [w_iconst, w_fall, true_and, and_true, true_or, or_true]
  exact h
theorem b_196_3 {sx : Int → Int} {L : Nat} {x1 : Int} {x2 : Int} {x3 : Int} {x4 : Int} {u5 : AV} {u6 : AV} {y0 : Int} {M : Mem} {Q : Option AV → Mem → Prop} (hu5 : cat2 u5 = false) (hu6 : cat2 u6 = false)
    (h : Rn sx L K0 R0 196 4 [vR 106, vI x1, vI x2, vI x3, vI x4, vI y0, vI 0, vU, vU, vU] [] M Q) : Rn sx L K0 R0 196 3 [vR 106, vI x1, vI x2, vI x3, vI x4, u5, u6, vU, vU, vU] [vI y0] M Q := by
  refine Rn_w (by decide) ?_
  show wpc sx L K0 R0 196 [(35, 2, .istore 5, []), (37, 1, .iconst 0, []), (38, 2, .istore 6, [])] 4 [vR 106, vI x1, vI x2, vI x3, vI x4, u5, u6, vU, vU, vU] [vI y0] M Q
  simp only [w_is_5 (c2I _), w_iconst, w_is_6 (c2I _), w_fall, true_and, and_true, true_or, or_true]
  exact h
theorem b_196_4 {sx : Int → Int} {L : Nat} {x1 : Int} {x2 : Int} {x3 : Int} {x4 : Int} {x5 : Int} {x6 : Int} {M : Mem} {Q : Option AV → Mem → Prop} 
    (h : ((8 : Int) ≤ x6 → Rn sx L K0 R0 196 9 [vR 106, vI x1, vI x2, vI x3, vI x4, vI x5, vI x6, vU, vU, vU] [] M Q) ∧ (¬ ((8 : Int) ≤ x6) → (¬ x5 = (0 : Int) → Rn sx L K0 R0 196 6 [vR 106, vI x1, vI x2, vI x3, vI x4, vI x5, vI x6, vU, vU, vU] [] M Q) ∧ (¬ (¬ x5 = (0 : Int)) → ((0 : Int) ≤ x2 ∧ (0 : Int) ≤ x6 ∧ x6 ≤ (30 : Int)) ∧ ((¬ iAnd (x2 / 2 ^ (x6).toNat) 1 = (1 : Int) → Rn sx L K0 R0 196 7 [vR 106, vI x1, vI x2, vI x3, vI x4, vI x5, vI x6, vU, vU, vU] [] M Q) ∧ (¬ (¬ iAnd (x2 / 2 ^ (x6).toNat) 1 = (1 : Int)) → (x6 = x1 → Rn sx L K0 R0 196 5 [vR 106, vI x1, vI x2, vI x3, vI x4, vI x5, vI x6, vU, vU, vU] [] M Q) ∧ (¬ (x6 = x1) → Mq sx L K0 R0 193 [vR 106, vI x6, vI x1] M (fun rv M1 => ∃ r1, rv = some (vI r1) ∧ ((r1 = (0 : Int) → Rn sx L K0 R0 196 7 [vR 106, vI x1, vI x2, vI x3, vI x4, vI x5, vI x6, vU, vU, vU] [] M1 Q) ∧ (¬ (r1 = (0 : Int)) → Rn sx L K0 R0 196 5 [vR 106, vI x1, vI x2, vI x3, vI x4, vI x5, vI x6, vU, vU, vU] [] M1 Q))))))))) : Rn sx L K0 R0 196 4 [vR 106, vI x1, vI x2, vI x3, vI x4, vI x5, vI x6, vU, vU, vU] [] M Q := by
  refine Rn_w (by decide) ?_
  show wpc sx L K0 R0 196 [(40, 2, .iload 6, []), (42, 2, .bipush 8, []), (44, 3, .if_icmp .ge 58, [9]), (47, 2, .iload 5, []), (49, 3, .ifCond .ne 40, [6]), (52, 1, .iload_n 2, []), (53, 2, .iload 6, []), (55, 1, .ishr, []), (56, 1, .iconst 1, []), (57, 1, .iand, []), (58, 1, .iconst 1, []), (59, 3, .if_icmp .ne 34, [7]), (62, 2, .iload 6, []), (64, 1, .iload_n 1, []), (65, 3, .if_icmp .eq 13, [5]), (68, 1, .aload_n 0, []), (69, 2, .iload 6, []), (71, 1, .iload_n 1, []), (72, 3, .invokevirtual 319, [193, 1585, 2]), (75, 3, .ifCond .eq 18, [7])] 5 [vR 106, vI x1, vI x2, vI x3, vI x4, vI x5, vI x6, vU, vU, vU] [] M Q
  simp only [w_il_6, w_bipush, w_ic_ge, w_il_5, w_if_ne, w_il_2, w_ishr, w_iconst, w_iand, w_ic_ne, w_il_1, w_ic_eq, w_al_0, w_ivv_2 (c2I _) (c2I _) cs0, mk_193, kin_T (ks_104), rk_193, rvk2, List.cons_append, List.nil_append, w_if_eq, w_fall, true_and, and_true, true_or, or_true]
  exact h
theorem b_196_5 {sx : Int → Int} {L : Nat} {x1 : Int} {x2 : Int} {x3 : Int} {x4 : Int} {x5 : Int} {x6 : Int} {M : Mem} {Q : Option AV → Mem → Prop} 
    (h : Mq sx L K0 R0 194 [vR 106, vI x6, vI x4] M (fun rv M1 => ∃ r1, rv = some (vI r1) ∧ ((r1 = (0 : Int) → Rn sx L K0 R0 196 7 [vR 106, vI x1, vI x2, vI x3, vI x4, vI x5, vI x6, vU, vU, vU] [] M1 Q) ∧ (¬ (r1 = (0 : Int)) → Rn sx L K0 R0 196 6 [vR 106, vI x1, vI x2, vI x3, vI x4, vI x5, vI x6, vU, vU, vU] [] M1 Q)))) : Rn sx L K0 R0 196 5 [vR 106, vI x1, vI x2, vI x3, vI x4, vI x5, vI x6, vU, vU, vU] [] M Q := by
  refine Rn_w (by decide) ?_
  show wpc sx L K0 R0 196 [(78, 1, .aload_n 0, []), (79, 2, .iload 6, []), (81, 2, .iload 4, []), (83, 3, .invokevirtual 322, [194, 1589, 2]), (86, 3, .ifCond .eq 7, [7])] 6 [vR 106, vI x1, vI x2, vI x3, vI x4, vI x5, vI x6, vU, vU, vU] [] M Q
  simp only [w_al_0, w_il_6, w_il_4, w_ivv_2 (c2I _) (c2I _) cs0, mk_194, kin_T (ks_104), rk_194, rvk2, List.cons_append, List.nil_append, w_if_eq, w_fall, true_and, and_true, true_or, or_true]
  exact h
theorem b_196_6 {sx : Int → Int} {L : Nat} {x1 : Int} {x2 : Int} {x3 : Int} {x4 : Int} {x5 : Int} {x6 : Int} {M : Mem} {Q : Option AV → Mem → Prop} 
    (h : Rn sx L K0 R0 196 8 [vR 106, vI x1, vI x2, vI x3, vI x4, vI x5, vI x6, vU, vU, vU] [vI 1] M Q) : Rn sx L K0 R0 196 6 [vR 106, vI x1, vI x2, vI x3, vI x4, vI x5, vI x6, vU, vU, vU] [] M Q := by
  refine Rn_w (by decide) ?_
  show wpc sx L K0 R0 196 [(89, 1, .iconst 1, []), (90, 3, .goto 4, [8])] 0 [vR 106, vI x1, vI x2, vI x3, vI x4, vI x5, vI x6, vU, vU, vU] [] M Q
  simp only [w_iconst, w_goto, true_and, and_true, true_or, or_true]
  exact h
theorem b_196_7 {sx : Int → Int} {L : Nat} {x1 : Int} {x2 : Int} {x3 : Int} {x4 : Int} {x5 : Int} {x6 : Int} {M : Mem} {Q : Option AV → Mem → Prop} 
    (h : Rn sx L K0 R0 196 8 [vR 106, vI x1, vI x2, vI x3, vI x4, vI x5, vI x6, vU, vU, vU] [vI 0] M Q) : Rn sx L K0 R0 196 7 [vR 106, vI x1, vI x2, vI x3, vI x4, vI x5, vI x6, vU, vU, vU] [] M Q := by
  refine Rn_w (by decide) ?_
  show wpc sx L K0 R0 196 [(93, 1, .iconst 0, [])] 8 [vR 106, vI x1, vI x2, vI x3, vI x4, vI x5, vI x6, vU, vU, vU] [] M Q
  simp only [w_iconst, w_fall, true_and, and_true, true_or, or_true]
  exact h
theorem b_196_8 {sx : Int → Int} {L : Nat} {x1 : Int} {x2 : Int} {x3 : Int} {x4 : Int} {x5 : Int} {x6 : Int} {y0 : Int} {M : Mem} {Q : Option AV → Mem → Prop} 
    (h : inR (x6 + 1) ∧ (Rn sx L K0 R0 196 4 [vR 106, vI x1, vI x2, vI x3, vI x4, vI y0, vI (x6 + 1), vU, vU, vU] [] M Q)) : Rn sx L K0 R0 196 8 [vR 106, vI x1, vI x2, vI x3, vI x4, vI x5, vI x6, vU, vU, vU] [vI y0] M Q := by
  refine Rn_w (by decide) ?_
  show wpc sx L K0 R0 196 [(94, 2, .istore 5, []), (96, 3, .iinc 6 1, []), (99, 3, .goto (-59), [4])] 0 [vR 106, vI x1, vI x2, vI x3, vI x4, vI x5, vI x6, vU, vU, vU] [vI y0] M Q
  simp only [w_is_5 (c2I _), w_inc_6 (c2I _), w_goto, true_and, and_true, true_or, or_true]
  exact h
theorem b_196_9 {sx : Int → Int} {L : Nat} {x1 : Int} {x2 : Int} {x3 : Int} {x4 : Int} {x5 : Int} {x6 : Int} {M : Mem} {Q : Option AV → Mem → Prop} 
    (h : (x5 = (0 : Int) → Rn sx L K0 R0 196 10 [vR 106, vI x1, vI x2, vI x3, vI x4, vI x5, vI x6, vU, vU, vU] [vI x3] M Q) ∧ (¬ (x5 = (0 : Int)) → ((0 : Int) ≤ (1 : Int) ∧ (0 : Int) ≤ x4 ∧ x4 ≤ (30 : Int) ∧ (1 : Int) * 2 ^ (x4).toNat ≤ (2147483647 : Int)) ∧ (Rn sx L K0 R0 196 11 [vR 106, vI x1, vI x2, vI x3, vI x4, vI x5, vI x6, vU, vU, vU] [vI ((1 : Int) * 2 ^ (x4).toNat), vI x3] M Q))) : Rn sx L K0 R0 196 9 [vR 106, vI x1, vI x2, vI x3, vI x4, vI x5, vI x6, vU, vU, vU] [] M Q := by
  refine Rn_w (by decide) ?_
  show wpc sx L K0 R0 196 [(102, 1, .iload_n 3, []), (103, 2, .iload 5, []), (105, 3, .ifCond .eq 10, [10]), (108, 1, .iconst 1, []), (109, 2, .iload 4, []), (111, 1, .ishl, []), (112, 3, .goto 4, [11])] 0 [vR 106, vI x1, vI x2, vI x3, vI x4, vI x5, vI x6, vU, vU, vU] [] M Q
  simp only [w_il_3, w_il_5, w_if_eq, w_iconst, w_il_4, w_ishl, w_goto, true_and, and_true, true_or, or_true]
  exact h
theorem b_196_10 {sx : Int → Int} {L : Nat} {x1 : Int} {x2 : Int} {x3 : Int} {x4 : Int} {x5 : Int} {x6 : Int} {y0 : Int} {M : Mem} {Q : Option AV → Mem → Prop} 
    (h : Rn sx L K0 R0 196 11 [vR 106, vI x1, vI x2, vI x3, vI x4, vI x5, vI x6, vU, vU, vU] [vI 0, vI y0] M Q) : Rn sx L K0 R0 196 10 [vR 106, vI x1, vI x2, vI x3, vI x4, vI x5, vI x6, vU, vU, vU] [vI y0] M Q := by
  refine Rn_w (by decide) ?_
  show wpc sx L K0 R0 196 [(115, 1, .iconst 0, [])] 11 [vR 106, vI x1, vI x2, vI x3, vI x4, vI x5, vI x6, vU, vU, vU] [vI y0] M Q
  simp only [w_iconst, w_fall, true_and, and_true, true_or, or_true]
  exact h
theorem b_196_11 {sx : Int → Int} {L : Nat} {x1 : Int} {x2 : Int} {x3 : Int} {x4 : Int} {x5 : Int} {x6 : Int} {y0 : Int} {y1 : Int} {M : Mem} {Q : Option AV → Mem → Prop} 
    (h : inR (x4 + 1) ∧ (Rn sx L K0 R0 196 1 [vR 106, vI x1, vI x2, vI (iOr y0 y1), vI (x4 + 1), vI x5, vI x6, vU, vU, vU] [] M Q)) : Rn sx L K0 R0 196 11 [vR 106, vI x1, vI x2, vI x3, vI x4, vI x5, vI x6, vU, vU, vU] [vI y1, vI y0] M Q := by
  refine Rn_w (by decide) ?_
  show wpc sx L K0 R0 196 [(116, 1, .ior, []), (117, 1, .istore_n 3, []), (118, 3, .iinc 4 1, []), (121, 3, .goto (-111), [1])] 0 [vR 106, vI x1, vI x2, vI x3, vI x4, vI x5, vI x6, vU, vU, vU] [vI y1, vI y0] M Q
  simp only [w_ior, w_is_3 (c2I _), w_inc_4 (c2I _), w_goto, true_and, and_true, true_or, or_true]
  exact h
theorem b_196_12 {sx : Int → Int} {L : Nat} {x1 : Int} {x2 : Int} {x3 : Int} {x4 : Int} {u5 : AV} {u6 : AV} {M : Mem} {Q : Option AV → Mem → Prop} (hu5 : cat2 u5 = false) (hu6 : cat2 u6 = false)
    (h : Rn sx L K0 R0 196 13 [vR 106, vI x1, vI x2, vI x3, vI 0, vI 0, u6, vU, vU, vU] [] M Q) : Rn sx L K0 R0 196 12 [vR 106, vI x1, vI x2, vI x3, vI x4, u5, u6, vU, vU, vU] [] M Q := by
  refine Rn_w (by decide) ?_
  show wpc sx L K0 R0 196 [(124, 1, .iconst 0, []), (125, 2, .istore 4, []), (127, 1, .iconst 0, []), (128, 2, .istore 5, [])] 13 [vR 106, vI x1, vI x2, vI x3, vI x4, u5, u6, vU, vU, vU] [] M Q
  simp only [w_iconst, w_is_4 (c2I _), w_is_5 (c2I _), w_fall, true_and, and_true, true_or, or_true]
  exact h
theorem b_196_13 {sx : Int → Int} {L : Nat} {x1 : Int} {x2 : Int} {x3 : Int} {x4 : Int} {x5 : Int} {u6 : AV} {u7 : AV} {u8 : AV} {u9 : AV} {M : Mem} {Q : Option AV → Mem → Prop} (hu6 : cat2 u6 = false) (hu7 : cat2 u7 = false) (hu8 : cat2 u8 = false) (hu9 : cat2 u9 = false)
    (h : ((8 : Int) ≤ x5 → Rn sx L K0 R0 196 24 [vR 106, vI x1, vI x2, vI x3, vI x4, vI x5, u6, u7, u8, u9] [] M Q) ∧ (¬ ((8 : Int) ≤ x5) → ((0 : Int) ≤ x2 ∧ (0 : Int) ≤ x5 ∧ x5 ≤ (30 : Int)) ∧ ((¬ iAnd (x2 / 2 ^ (x5).toNat) 1 = (1 : Int) → Rn sx L K0 R0 196 14 [vR 106, vI x1, vI x2, vI x3, vI x4, vI x5, u6, u7, u8, u9] [] M Q) ∧ (¬ (¬ iAnd (x2 / 2 ^ (x5).toNat) 1 = (1 : Int)) → (x5 = x1 → Rn sx L K0 R0 196 14 [vR 106, vI x1, vI x2, vI x3, vI x4, vI x5, u6, u7, u8, u9] [] M Q) ∧ (¬ (x5 = x1) → Mq sx L K0 R0 193 [vR 106, vI x5, vI x1] M (fun rv M1 => ∃ r1, rv = some (vI r1) ∧ ((¬ r1 = (0 : Int) → Rn sx L K0 R0 196 14 [vR 106, vI x1, vI x2, vI x3, vI x4, vI x5, u6, u7, u8, u9] [] M1 Q) ∧ (¬ (¬ r1 = (0 : Int)) → Rn sx L K0 R0 196 15 [vR 106, vI x1, vI x2, vI x3, vI x4, vI x5, u6, u7, u8, u9] [vI 1] M1 Q)))))))) : Rn sx L K0 R0 196 13 [vR 106, vI x1, vI x2, vI x3, vI x4, vI x5, u6, u7, u8, u9] [] M Q := by
  refine Rn_w (by decide) ?_
  show wpc sx L K0 R0 196 [(130, 2, .iload 5, []), (132, 2, .bipush 8, []), (134, 3, .if_icmp .ge 148, [24]), (137, 1, .iload_n 2, []), (138, 2, .iload 5, []), (140, 1, .ishr, []), (141, 1, .iconst 1, []), (142, 1, .iand, []), (143, 1, .iconst 1, []), (144, 3, .if_icmp .ne 23, [14]), (147, 2, .iload 5, []), (149, 1, .iload_n 1, []), (150, 3, .if_icmp .eq 17, [14]), (153, 1, .aload_n 0, []), (154, 2, .iload 5, []), (156, 1, .iload_n 1, []), (157, 3, .invokevirtual 319, [193, 1585, 2]), (160, 3, .ifCond .ne 7, [14]), (163, 1, .iconst 1, []), (164, 3, .goto 4, [15])] 0 [vR 106, vI x1, vI x2, vI x3, vI x4, vI x5, u6, u7, u8, u9] [] M Q
  simp only [w_il_5, w_bipush, w_ic_ge, w_il_2, w_ishr, w_iconst, w_iand, w_ic_ne, w_il_1, w_ic_eq, w_al_0, w_ivv_2 (c2I _) (c2I _) cs0, mk_193, kin_T (ks_104), rk_193, rvk2, List.cons_append, List.nil_append, w_if_ne, w_goto, true_and, and_true, true_or, or_true]
  exact h
theorem b_196_14 {sx : Int → Int} {L : Nat} {x1 : Int} {x2 : Int} {x3 : Int} {x4 : Int} {x5 : Int} {u6 : AV} {u7 : AV} {u8 : AV} {u9 : AV} {M : Mem} {Q : Option AV → Mem → Prop} (hu6 : cat2 u6 = false) (hu7 : cat2 u7 = false) (hu8 : cat2 u8 = false) (hu9 : cat2 u9 = false)
    (h : Rn sx L K0 R0 196 15 [vR 106, vI x1, vI x2, vI x3, vI x4, vI x5, u6, u7, u8, u9] [vI 0] M Q) : Rn sx L K0 R0 196 14 [vR 106, vI x1, vI x2, vI x3, vI x4, vI x5, u6, u7, u8, u9] [] M Q := by
  refine Rn_w (by decide) ?_
  show wpc sx L K0 R0 196 [(167, 1, .iconst 0, [])] 15 [vR 106, vI x1, vI x2, vI x3, vI x4, vI x5, u6, u7, u8, u9] [] M Q
  simp only [w_iconst, w_fall, true_and, and_true, true_or, or_true]
  exact h
theorem b_196_15 {sx : Int → Int} {L : Nat} {x1 : Int} {x2 : Int} {x3 : Int} {x4 : Int} {x5 : Int} {u6 : AV} {u7 : AV} {u8 : AV} {u9 : AV} {y0 : Int} {M : Mem} {Q : Option AV → Mem → Prop} (hu6 : cat2 u6 = false) (hu7 : cat2 u7 = false) (hu8 : cat2 u8 = false) (hu9 : cat2 u9 = false)
    (h : Rn sx L K0 R0 196 16 [vR 106, vI x1, vI x2, vI x3, vI x4, vI x5, vI y0, vI 0, u8, u9] [] M Q) : Rn sx L K0 R0 196 15 [vR 106, vI x1, vI x2, vI x3, vI x4, vI x5, u6, u7, u8, u9] [vI y0] M Q := by
  refine Rn_w (by decide) ?_
  show wpc sx L K0 R0 196 [(168, 2, .istore 6, []), (170, 1, .iconst 0, []), (171, 2, .istore 7, [])] 16 [vR 106, vI x1, vI x2, vI x3, vI x4, vI x5, u6, u7, u8, u9] [vI y0] M Q
  simp only [w_is_6 (c2I _), w_iconst, w_is_7 (c2I _), w_fall, true_and, and_true, true_or, or_true]
  exact h
set_option maxRecDepth 8192 in
theorem b_196_16 {sx : Int → Int} {L : Nat} {x1 : Int} {x2 : Int} {x3 : Int} {x4 : Int} {x5 : Int} {x6 : Int} {x7 : Int} {u8 : AV} {u9 : AV} {M : Mem} {Q : Option AV → Mem → Prop} (hu8 : cat2 u8 = false) (hu9 : cat2 u9 = false)
    (h : ((0 : Int) ≤ x5 ∧ x5 < (8 : Int)) ∧ ((M 117 x5 ≤ x7 → Rn sx L K0 R0 196 23 [vR 106, vI x1, vI x2, vI x3, vI x4, vI x5, vI x6, vI x7, u8, u9] [] M Q) ∧ (¬ (M 117 x5 ≤ x7) → (x6 = (0 : Int) → Rn sx L K0 R0 196 23 [vR 106, vI x1, vI x2, vI x3, vI x4, vI x5, vI x6, vI x7, u8, u9] [] M Q) ∧ (¬ (x6 = (0 : Int)) → inR ((20 : Int) * x5) ∧ (inR (((20 : Int) * x5) + x7) ∧ (((0 : Int) ≤ ((20 : Int) * x5) + x7 ∧ ((20 : Int) * x5) + x7 < (160 : Int)) ∧ ((¬ M 118 (((20 : Int) * x5) + x7) = (1 : Int) → Rn sx L K0 R0 196 17 [vR 106, vI x1, vI x2, vI x3, vI x4, vI x5, vI x6, vI x7, u8, u9] [] M Q) ∧ (¬ (¬ M 118 (((20 : Int) * x5) + x7) = (1 : Int)) → inR ((20 : Int) * x5) ∧ (inR (((20 : Int) * x5) + x7) ∧ (((0 : Int) ≤ ((20 : Int) * x5) + x7 ∧ ((20 : Int) * x5) + x7 < (160 : Int)) ∧ (((0 : Int) ≤ x3 ∧ (0 : Int) ≤ M 119 (((20 : Int) * x5) + x7) ∧ M 119 (((20 : Int) * x5) + x7) ≤ (30 : Int)) ∧ ((¬ iAnd (x3 / 2 ^ (M 119 (((20 : Int) * x5) + x7)).toNat) 1 = (1 : Int) → Rn sx L K0 R0 196 17 [vR 106, vI x1, vI x2, vI x3, vI x4, vI x5, vI x6, vI x7, u8, u9] [] M Q) ∧ (¬ (¬ iAnd (x3 / 2 ^ (M 119 (((20 : Int) * x5) + x7)).toNat) 1 = (1 : Int)) → Rn sx L K0 R0 196 18 [vR 106, vI x1, vI x2, vI x3, vI x4, vI x5, vI x6, vI x7, u8, u9] [vI 1] M Q))))))))))))) : Rn sx L K0 R0 196 16 [vR 106, vI x1, vI x2, vI x3, vI x4, vI x5, vI x6, vI x7, u8, u9] [] M Q := by
  refine Rn_w (by decide) ?_
  show wpc sx L K0 R0 196 [(173, 2, .iload 7, []), (175, 1, .aload_n 0, []), (176, 3, .getfield 46, [9, 15, 1169]), (179, 2, .iload 5, []), (181, 1, .iaload, []), (182, 3, .if_icmp .ge 94, [23]), (185, 2, .iload 6, []), (187, 3, .ifCond .eq 89, [23]), (190, 1, .aload_n 0, []), (191, 3, .getfield 49, [9, 16, 1170]), (194, 2, .bipush 20, []), (196, 2, .iload 5, []), (198, 1, .imul, []), (199, 2, .iload 7, []), (201, 1, .iadd, []), (202, 1, .iaload, []), (203, 1, .iconst 1, []), (204, 3, .if_icmp .ne 28, [17]), (207, 1, .iload_n 3, []), (208, 1, .aload_n 0, []), (209, 3, .getfield 52, [9, 17, 1171]), (212, 2, .bipush 20, []), (214, 2, .iload 5, []), (216, 1, .imul, []), (217, 2, .iload 7, []), (219, 1, .iadd, []), (220, 1, .iaload, []), (221, 1, .ishr, []), (222, 1, .iconst 1, []), (223, 1, .iand, []), (224, 1, .iconst 1, []), (225, 3, .if_icmp .ne 7, [17]), (228, 1, .iconst 1, []), (229, 3, .goto 4, [18])] 0 [vR 106, vI x1, vI x2, vI x3, vI x4, vI x5, vI x6, vI x7, u8, u9] [] M Q
  simp only [w_il_7, w_al_0, w_gf_9_15, kin_T (ks_104), rs_104_15, w_il_5, w_iald, arr_T (ks_117), w_ic_ge, w_il_6, w_if_eq, w_gf_9_16, rs_104_16, w_bipush, w_imul, w_iadd, arr_T (ks_118), w_iconst, w_ic_ne, w_il_3, w_gf_9_17, rs_104_17, arr_T (ks_119), w_ishr, w_iand, w_goto, true_and, and_true, true_or, or_true]
  exact h
theorem b_196_17 {sx : Int → Int} {L : Nat} {x1 : Int} {x2 : Int} {x3 : Int} {x4 : Int} {x5 : Int} {x6 : Int} {x7 : Int} {u8 : AV} {u9 : AV} {M : Mem} {Q : Option AV → Mem → Prop} (hu8 : cat2 u8 = false) (hu9 : cat2 u9 = false)
    (h : Rn sx L K0 R0 196 18 [vR 106, vI x1, vI x2, vI x3, vI x4, vI x5, vI x6, vI x7, u8, u9] [vI 0] M Q) : Rn sx L K0 R0 196 17 [vR 106, vI x1, vI x2, vI x3, vI x4, vI x5, vI x6, vI x7, u8, u9] [] M Q := by
  refine Rn_w (by decide) ?_
  show wpc sx L K0 R0 196 [(232, 1, .iconst 0, [])] 18 [vR 106, vI x1, vI x2, vI x3, vI x4, vI x5, vI x6, vI x7, u8, u9] [] M Q
  simp only [w_iconst, w_fall, true_and, and_true, true_or, or_true]
  exact h
theorem b_196_18 {sx : Int → Int} {L : Nat} {x1 : Int} {x2 : Int} {x3 : Int} {x4 : Int} {x5 : Int} {x6 : Int} {x7 : Int} {u8 : AV} {u9 : AV} {y0 : Int} {M : Mem} {Q : Option AV → Mem → Prop} (hu8 : cat2 u8 = false) (hu9 : cat2 u9 = false)
    (h : (y0 = (0 : Int) → Rn sx L K0 R0 196 19 [vR 106, vI x1, vI x2, vI x3, vI x4, vI x5, vI x6, vI x7, vI y0, u9] [] M Q) ∧ (¬ (y0 = (0 : Int)) → Mq sx L K0 R0 195 [vR 106, vI x5, vI x7] M (fun rv M1 => ∃ r1, rv = some (vI r1) ∧ (Rn sx L K0 R0 196 20 [vR 106, vI x1, vI x2, vI x3, vI x4, vI x5, vI x6, vI x7, vI y0, u9] [vI r1] M1 Q)))) : Rn sx L K0 R0 196 18 [vR 106, vI x1, vI x2, vI x3, vI x4, vI x5, vI x6, vI x7, u8, u9] [vI y0] M Q := by
  refine Rn_w (by decide) ?_
  show wpc sx L K0 R0 196 [(233, 2, .istore 8, []), (235, 2, .iload 8, []), (237, 3, .ifCond .eq 14, [19]), (240, 1, .aload_n 0, []), (241, 2, .iload 5, []), (243, 2, .iload 7, []), (245, 3, .invokevirtual 325, [195, 1593, 2]), (248, 3, .goto 4, [20])] 0 [vR 106, vI x1, vI x2, vI x3, vI x4, vI x5, vI x6, vI x7, u8, u9] [vI y0] M Q
  simp only [w_is_8 (c2I _), w_il_8, w_if_eq, w_al_0, w_il_5, w_il_7, w_ivv_2 (c2I _) (c2I _) cs0, mk_195, kin_T (ks_104), rk_195, rvk1, List.cons_append, List.nil_append, w_goto, true_and, and_true, true_or, or_true]
  exact h
theorem b_196_19 {sx : Int → Int} {L : Nat} {x1 : Int} {x2 : Int} {x3 : Int} {x4 : Int} {x5 : Int} {x6 : Int} {x7 : Int} {x8 : Int} {u9 : AV} {M : Mem} {Q : Option AV → Mem → Prop} (hu9 : cat2 u9 = false)
    (h : Rn sx L K0 R0 196 20 [vR 106, vI x1, vI x2, vI x3, vI x4, vI x5, vI x6, vI x7, vI x8, u9] [vI 0] M Q) : Rn sx L K0 R0 196 19 [vR 106, vI x1, vI x2, vI x3, vI x4, vI x5, vI x6, vI x7, vI x8, u9] [] M Q := by
  refine Rn_w (by decide) ?_
  show wpc sx L K0 R0 196 [(251, 1, .iconst 0, [])] 20 [vR 106, vI x1, vI x2, vI x3, vI x4, vI x5, vI x6, vI x7, vI x8, u9] [] M Q
  simp only [w_iconst, w_fall, true_and, and_true, true_or, or_true]
  exact h
theorem b_196_20 {sx : Int → Int} {L : Nat} {x1 : Int} {x2 : Int} {x3 : Int} {x4 : Int} {x5 : Int} {x6 : Int} {x7 : Int} {x8 : Int} {u9 : AV} {y0 : Int} {M : Mem} {Q : Option AV → Mem → Prop} (hu9 : cat2 u9 = false)
    (h : (y0 ≤ x4 → Rn sx L K0 R0 196 21 [vR 106, vI x1, vI x2, vI x3, vI x4, vI x5, vI x6, vI x7, vI x8, vI y0] [] M Q) ∧ (¬ (y0 ≤ x4) → Rn sx L K0 R0 196 22 [vR 106, vI x1, vI x2, vI x3, vI x4, vI x5, vI x6, vI x7, vI x8, vI y0] [vI y0] M Q)) : Rn sx L K0 R0 196 20 [vR 106, vI x1, vI x2, vI x3, vI x4, vI x5, vI x6, vI x7, vI x8, u9] [vI y0] M Q := by
  refine Rn_w (by decide) ?_
  show wpc sx L K0 R0 196 [(252, 2, .istore 9, []), (254, 2, .iload 9, []), (256, 2, .iload 4, []), (258, 3, .if_icmp .le 8, [21]), (261, 2, .iload 9, []), (263, 3, .goto 5, [22])] 0 [vR 106, vI x1, vI x2, vI x3, vI x4, vI x5, vI x6, vI x7, vI x8, u9] [vI y0] M Q
  simp only [w_is_9 (c2I _), w_il_9, w_il_4, w_ic_le, w_goto, true_and, and_true, true_or, or_true]
  exact h
theorem b_196_21 {sx : Int → Int} {L : Nat} {x1 : Int} {x2 : Int} {x3 : Int} {x4 : Int} {x5 : Int} {x6 : Int} {x7 : Int} {x8 : Int} {x9 : Int} {M : Mem} {Q : Option AV → Mem → Prop} 
    (h : Rn sx L K0 R0 196 22 [vR 106, vI x1, vI x2, vI x3, vI x4, vI x5, vI x6, vI x7, vI x8, vI x9] [vI x4] M Q) : Rn sx L K0 R0 196 21 [vR 106, vI x1, vI x2, vI x3, vI x4, vI x5, vI x6, vI x7, vI x8, vI x9] [] M Q := by
  refine Rn_w (by decide) ?_
  show wpc sx L K0 R0 196 [(266, 2, .iload 4, [])] 22 [vR 106, vI x1, vI x2, vI x3, vI x4, vI x5, vI x6, vI x7, vI x8, vI x9] [] M Q
  simp only [w_il_4, w_fall, true_and, and_true, true_or, or_true]
  exact h
theorem b_196_22 {sx : Int → Int} {L : Nat} {x1 : Int} {x2 : Int} {x3 : Int} {x4 : Int} {x5 : Int} {x6 : Int} {x7 : Int} {x8 : Int} {x9 : Int} {y0 : Int} {M : Mem} {Q : Option AV → Mem → Prop} 
    (h : inR (x7 + 1) ∧ (Rn sx L K0 R0 196 16 [vR 106, vI x1, vI x2, vI x3, vI y0, vI x5, vI x6, vI (x7 + 1), vI x8, vI x9] [] M Q)) : Rn sx L K0 R0 196 22 [vR 106, vI x1, vI x2, vI x3, vI x4, vI x5, vI x6, vI x7, vI x8, vI x9] [vI y0] M Q := by
  refine Rn_w (by decide) ?_
  show wpc sx L K0 R0 196 [(268, 2, .istore 4, []), (270, 3, .iinc 7 1, []), (273, 3, .goto (-100), [16])] 0 [vR 106, vI x1, vI x2, vI x3, vI x4, vI x5, vI x6, vI x7, vI x8, vI x9] [vI y0] M Q
  simp only [w_is_4 (c2I _), w_inc_7 (c2I _), w_goto, true_and, and_true, true_or, or_true]
  exact h
theorem b_196_23 {sx : Int → Int} {L : Nat} {x1 : Int} {x2 : Int} {x3 : Int} {x4 : Int} {x5 : Int} {x6 : Int} {x7 : Int} {u8 : AV} {u9 : AV} {M : Mem} {Q : Option AV → Mem → Prop} (hu8 : cat2 u8 = false) (hu9 : cat2 u9 = false)
    (h : inR (x5 + 1) ∧ (Rn sx L K0 R0 196 13 [vR 106, vI x1, vI x2, vI x3, vI x4, vI (x5 + 1), vI x6, vI x7, u8, u9] [] M Q)) : Rn sx L K0 R0 196 23 [vR 106, vI x1, vI x2, vI x3, vI x4, vI x5, vI x6, vI x7, u8, u9] [] M Q := by
  refine Rn_w (by decide) ?_
  show wpc sx L K0 R0 196 [(276, 3, .iinc 5 1, []), (279, 3, .goto (-149), [13])] 0 [vR 106, vI x1, vI x2, vI x3, vI x4, vI x5, vI x6, vI x7, u8, u9] [] M Q
  simp only [w_inc_5 (c2I _), w_goto, true_and, and_true, true_or, or_true]
  exact h
theorem b_196_24 {sx : Int → Int} {L : Nat} {x1 : Int} {x2 : Int} {x3 : Int} {x4 : Int} {x5 : Int} {u6 : AV} {u7 : AV} {u8 : AV} {u9 : AV} {M : Mem} {Q : Option AV → Mem → Prop} (hu6 : cat2 u6 = false) (hu7 : cat2 u7 = false) (hu8 : cat2 u8 = false) (hu9 : cat2 u9 = false)
    (h : Q (some (vI x4)) M) : Rn sx L K0 R0 196 24 [vR 106, vI x1, vI x2, vI x3, vI x4, vI x5, u6, u7, u8, u9] [] M Q := by
  refine Rn_w (by decide) ?_
  show wpc sx L K0 R0 196 [(282, 2, .iload 4, []), (284, 1, .ireturn, [])] 0 [vR 106, vI x1, vI x2, vI x3, vI x4, vI x5, u6, u7, u8, u9] [] M Q
  simp only [w_il_4, w_ret1 rk_196, true_and, and_true, true_or, or_true]
  exact h
theorem b_197_0 {sx : Int → Int} {L : Nat} {x1 : Int} {M : Mem} {Q : Option AV → Mem → Prop} 
    (h : (¬ M 104 22 = (0 : Int) → Rn sx L K0 R0 197 1 [vR 106, vI x1] [] M Q) ∧ (¬ (¬ M 104 22 = (0 : Int)) → (¬ M 104 23 = (2 : Int) → Rn sx L K0 R0 197 1 [vR 106, vI x1] [] M Q) ∧ (¬ (¬ M 104 23 = (2 : Int)) → (¬ M 104 24 = (1 : Int) → Rn sx L K0 R0 197 1 [vR 106, vI x1] [] M Q) ∧ (¬ (¬ M 104 24 = (1 : Int)) → Mq sx L K0 R0 154 [vR 106] M (fun rv M1 => ∃ r1, rv = some (vI r1) ∧ (((0 : Int) ≤ r1 ∧ (0 : Int) ≤ x1 ∧ x1 ≤ (30 : Int)) ∧ ((¬ iAnd (r1 / 2 ^ (x1).toNat) 1 = (1 : Int) → Rn sx L K0 R0 197 1 [vR 106, vI x1] [] M1 Q) ∧ (¬ (¬ iAnd (r1 / 2 ^ (x1).toNat) 1 = (1 : Int)) → Rn sx L K0 R0 197 2 [vR 106, vI x1] [vI 1] M1 Q)))))))) : Rn sx L K0 R0 197 0 [vR 106, vI x1] [] M Q := by
  refine Rn_w (by decide) ?_
  show wpc sx L K0 R0 197 [(0, 1, .aload_n 0, []), (1, 3, .getfield 199, [9, 22, 1176]), (4, 3, .ifCond .ne 35, [1]), (7, 1, .aload_n 0, []), (8, 3, .getfield 202, [9, 23, 1177]), (11, 1, .iconst 2, []), (12, 3, .if_icmp .ne 27, [1]), (15, 1, .aload_n 0, []), (16, 3, .getfield 58, [9, 24, 1178]), (19, 1, .iconst 1, []), (20, 3, .if_icmp .ne 19, [1]), (23, 1, .aload_n 0, []), (24, 3, .invokevirtual 196, [154, 1417, 0]), (27, 1, .iload_n 1, []), (28, 1, .ishr, []), (29, 1, .iconst 1, []), (30, 1, .iand, []), (31, 1, .iconst 1, []), (32, 3, .if_icmp .ne 7, [1]), (35, 1, .iconst 1, []), (36, 3, .goto 4, [2])] 0 [vR 106, vI x1] [] M Q
  simp only [w_al_0, w_gf_9_22, kin_T (ks_104), w_if_ne, w_gf_9_23, w_iconst, w_ic_ne, w_gf_9_24, w_ivv_0  cs0, mk_154, rk_154, rvk1, List.cons_append, List.nil_append, w_il_1, w_ishr, w_iand, w_goto, true_and, and_true, true_or, or_true]
  exact h
theorem b_197_1 {sx : Int → Int} {L : Nat} {x1 : Int} {M : Mem} {Q : Option AV → Mem → Prop} 
    (h : Rn sx L K0 R0 197 2 [vR 106, vI x1] [vI 0] M Q) : Rn sx L K0 R0 197 1 [vR 106, vI x1] [] M Q := by
  refine Rn_w (by decide) ?_
  show wpc sx L K0 R0 197 [(39, 1, .iconst 0, [])] 2 [vR 106, vI x1] [] M Q
  simp only [w_iconst, w_fall, true_and, and_true, true_or, or_true]
  exact h
theorem b_197_2 {sx : Int → Int} {L : Nat} {x1 : Int} {y0 : Int} {M : Mem} {Q : Option AV → Mem → Prop} 
    (h : (y0 = 0 ∨ y0 = 1) ∧ (Q (some (vI y0)) M)) : Rn sx L K0 R0 197 2 [vR 106, vI x1] [vI y0] M Q := by
  refine Rn_w (by decide) ?_
  show wpc sx L K0 R0 197 [(40, 1, .ireturn, [])] 0 [vR 106, vI x1] [vI y0] M Q
  simp only [w_ret2 rk_197, true_and, and_true, true_or, or_true]
  exact h
theorem b_198_0 {sx : Int → Int} {L : Nat} {x1 : Int} {M : Mem} {Q : Option AV → Mem → Prop} 
    (h : Mq sx L K0 R0 151 [vR 106, vI x1] M (fun rv M1 => ∃ r1, rv = some (vI r1) ∧ (Mq sx L K0 R0 196 [vR 106, vI x1] M1 (fun rv M2 => ∃ r2, rv = some (vI r2) ∧ (inR (r1 + r2) ∧ (Mq sx L K0 R0 154 [vR 106] M2 (fun rv M3 => ∃ r3, rv = some (vI r3) ∧ (Rn sx L K0 R0 198 1 [vR 106, vI x1, vI (r1 + r2), vI r3, vI (r1 + r2), vI (-1), vU] [] M3 Q)))))))) : Rn sx L K0 R0 198 0 [vR 106, vI x1, vU, vU, vU, vU, vU] [] M Q := by
  refine Rn_w (by decide) ?_
  show wpc sx L K0 R0 198 [(0, 1, .aload_n 0, []), (1, 1, .iload_n 1, []), (2, 3, .invokevirtual 181, [151, 1409, 1]), (5, 1, .aload_n 0, []), (6, 1, .iload_n 1, []), (7, 3, .invokevirtual 328, [196, 1581, 1]), (10, 1, .iadd, []), (11, 1, .istore_n 2, []), (12, 1, .aload_n 0, []), (13, 3, .invokevirtual 196, [154, 1417, 0]), (16, 1, .istore_n 3, []), (17, 1, .iload_n 2, []), (18, 2, .istore 4, []), (20, 1, .iconst (-1), []), (21, 2, .istore 5, [])] 1 [vR 106, vI x1, vU, vU, vU, vU, vU] [] M Q
  simp only [w_al_0, w_il_1, w_ivv_1 (c2I _) cs0, mk_151, kin_T (ks_104), rk_151, rvk1, List.cons_append, List.nil_append, w_ivv_1 (c2I _) (cs1 _), mk_196, rk_196, w_iadd, w_is_2 (c2I _), w_ivv_0  cs0, mk_154, rk_154, w_is_3 (c2I _), w_il_2, w_is_4 (c2I _), w_iconst, w_is_5 (c2I _), w_fall, true_and, and_true, true_or, or_true]
  exact h
theorem b_198_1 {sx : Int → Int} {L : Nat} {x1 : Int} {x2 : Int} {x3 : Int} {x4 : Int} {x5 : Int} {u6 : AV} {M : Mem} {Q : Option AV → Mem → Prop} (hu6 : cat2 u6 = false)
    (h : (x4 = x5 → Rn sx L K0 R0 198 6 [vR 106, vI x1, vI x2, vI x3, vI x4, vI x5, u6] [] M Q) ∧ (¬ (x4 = x5) → ((400 : Int) < x4 → Rn sx L K0 R0 198 6 [vR 106, vI x1, vI x2, vI x3, vI x4, vI x5, u6] [] M Q) ∧ (¬ ((400 : Int) < x4) → Rn sx L K0 R0 198 2 [vR 106, vI x1, vI x2, vI x3, vI x2, vI x4, vI 0] [] M Q))) : Rn sx L K0 R0 198 1 [vR 106, vI x1, vI x2, vI x3, vI x4, vI x5, u6] [] M Q := by
  refine Rn_w (by decide) ?_
  show wpc sx L K0 R0 198 [(23, 2, .iload 4, []), (25, 2, .iload 5, []), (27, 3, .if_icmp .eq 99, [6]), (30, 2, .iload 4, []), (32, 3, .sipush 400, []), (35, 3, .if_icmp .gt 91, [6]), (38, 2, .iload 4, []), (40, 2, .istore 5, []), (42, 1, .iload_n 2, []), (43, 2, .istore 4, []), (45, 1, .iconst 0, []), (46, 2, .istore 6, [])] 2 [vR 106, vI x1, vI x2, vI x3, vI x4, vI x5, u6] [] M Q
  simp only [w_il_4, w_il_5, w_ic_eq, w_sipush, w_ic_gt, w_is_5 (c2I _), w_il_2, w_is_4 (c2I _), w_iconst, w_is_6 (c2I _), w_fall, true_and, and_true, true_or, or_true]
  exact h
set_option maxRecDepth 8192 in
theorem b_198_2 {sx : Int → Int} {L : Nat} {x1 : Int} {x2 : Int} {x3 : Int} {x4 : Int} {x5 : Int} {x6 : Int} {M : Mem} {Q : Option AV → Mem → Prop} 
    (h : ((8 : Int) ≤ x6 → Rn sx L K0 R0 198 5 [vR 106, vI x1, vI x2, vI x3, vI x4, vI x5, vI x6] [] M Q) ∧ (¬ ((8 : Int) ≤ x6) → ((0 : Int) ≤ x3 ∧ (0 : Int) ≤ x6 ∧ x6 ≤ (30 : Int)) ∧ ((¬ iAnd (x3 / 2 ^ (x6).toNat) 1 = (1 : Int) → Rn sx L K0 R0 198 3 [vR 106, vI x1, vI x2, vI x3, vI x4, vI x5, vI x6] [vI x4] M Q) ∧ (¬ (¬ iAnd (x3 / 2 ^ (x6).toNat) 1 = (1 : Int)) → (x6 = x1 → Rn sx L K0 R0 198 3 [vR 106, vI x1, vI x2, vI x3, vI x4, vI x5, vI x6] [vI x4] M Q) ∧ (¬ (x6 = x1) → Mq sx L K0 R0 193 [vR 106, vI x6, vI x1] M (fun rv M1 => ∃ r1, rv = some (vI r1) ∧ ((r1 = (0 : Int) → Rn sx L K0 R0 198 3 [vR 106, vI x1, vI x2, vI x3, vI x4, vI x5, vI x6] [vI x4] M1 Q) ∧ (¬ (r1 = (0 : Int)) → ((0 : Int) ≤ x6 ∧ x6 < (8 : Int)) ∧ (inR (x5 + (M1 114 x6)) ∧ (inR ((x5 + (M1 114 x6)) - 1) ∧ (((0 : Int) ≤ x6 ∧ x6 < (8 : Int)) ∧ (((0 : Int) ≤ (x5 + (M1 114 x6)) - 1 ∧ (0 : Int) < M1 114 x6) ∧ (Mq sx L K0 R0 151 [vR 106, vI x6] M1 (fun rv M2 => ∃ r2, rv = some (vI r2) ∧ (inR ((((x5 + (M1 114 x6)) - 1) / (M1 114 x6)) * r2) ∧ (Rn sx L K0 R0 198 4 [vR 106, vI x1, vI x2, vI x3, vI x4, vI x5, vI x6] [vI ((((x5 + (M1 114 x6)) - 1) / (M1 114 x6)) * r2), vI x4] M2 Q)))))))))))))))) : Rn sx L K0 R0 198 2 [vR 106, vI x1, vI x2, vI x3, vI x4, vI x5, vI x6] [] M Q := by
  refine Rn_w (by decide) ?_
  show wpc sx L K0 R0 198 [(48, 2, .iload 6, []), (50, 2, .bipush 8, []), (52, 3, .if_icmp .ge 71, [5]), (55, 2, .iload 4, []), (57, 1, .iload_n 3, []), (58, 2, .iload 6, []), (60, 1, .ishr, []), (61, 1, .iconst 1, []), (62, 1, .iand, []), (63, 1, .iconst 1, []), (64, 3, .if_icmp .ne 49, [3]), (67, 2, .iload 6, []), (69, 1, .iload_n 1, []), (70, 3, .if_icmp .eq 43, [3]), (73, 1, .aload_n 0, []), (74, 2, .iload 6, []), (76, 1, .iload_n 1, []), (77, 3, .invokevirtual 319, [193, 1585, 2]), (80, 3, .ifCond .eq 33, [3]), (83, 2, .iload 5, []), (85, 1, .aload_n 0, []), (86, 3, .getfield 37, [9, 12, 1166]), (89, 2, .iload 6, []), (91, 1, .iaload, []), (92, 1, .iadd, []), (93, 1, .iconst 1, []), (94, 1, .isub, []), (95, 1, .aload_n 0, []), (96, 3, .getfield 37, [9, 12, 1166]), (99, 2, .iload 6, []), (101, 1, .iaload, []), (102, 1, .idiv, []), (103, 1, .aload_n 0, []), (104, 2, .iload 6, []), (106, 3, .invokevirtual 181, [151, 1409, 1]), (109, 1, .imul, []), (110, 3, .goto 4, [4])] 0 [vR 106, vI x1, vI x2, vI x3, vI x4, vI x5, vI x6] [] M Q
  simp only [w_il_6, w_bipush, w_ic_ge, w_il_4, w_il_3, w_ishr, w_iconst, w_iand, w_ic_ne, w_il_1, w_ic_eq, w_al_0, w_ivv_2 (c2I _) (c2I _) (cs1 _), mk_193, kin_T (ks_104), rk_193, rvk2, List.cons_append, List.nil_append, w_if_eq, w_il_5, w_gf_9_12, rs_104_12, w_iald, arr_T (ks_114), w_iadd, w_isub, w_idiv, w_ivv_1 (c2I _) (cs2 _ _), mk_151, rk_151, rvk1, w_imul, w_goto, true_and, and_true, true_or, or_true]
  exact h
theorem b_198_3 {sx : Int → Int} {L : Nat} {x1 : Int} {x2 : Int} {x3 : Int} {x4 : Int} {x5 : Int} {x6 : Int} {y0 : Int} {M : Mem} {Q : Option AV → Mem → Prop} 
    (h : Rn sx L K0 R0 198 4 [vR 106, vI x1, vI x2, vI x3, vI x4, vI x5, vI x6] [vI 0, vI y0] M Q) : Rn sx L K0 R0 198 3 [vR 106, vI x1, vI x2, vI x3, vI x4, vI x5, vI x6] [vI y0] M Q := by
  refine Rn_w (by decide) ?_
  show wpc sx L K0 R0 198 [(113, 1, .iconst 0, [])] 4 [vR 106, vI x1, vI x2, vI x3, vI x4, vI x5, vI x6] [vI y0] M Q
  simp only [w_iconst, w_fall, true_and, and_true, true_or, or_true]
  exact h
theorem b_198_4 {sx : Int → Int} {L : Nat} {x1 : Int} {x2 : Int} {x3 : Int} {x4 : Int} {x5 : Int} {x6 : Int} {y0 : Int} {y1 : Int} {M : Mem} {Q : Option AV → Mem → Prop} 
    (h : inR (y0 + y1) ∧ (inR (x6 + 1) ∧ (Rn sx L K0 R0 198 2 [vR 106, vI x1, vI x2, vI x3, vI (y0 + y1), vI x5, vI (x6 + 1)] [] M Q))) : Rn sx L K0 R0 198 4 [vR 106, vI x1, vI x2, vI x3, vI x4, vI x5, vI x6] [vI y1, vI y0] M Q := by
  refine Rn_w (by decide) ?_
  show wpc sx L K0 R0 198 [(114, 1, .iadd, []), (115, 2, .istore 4, []), (117, 3, .iinc 6 1, []), (120, 3, .goto (-72), [2])] 0 [vR 106, vI x1, vI x2, vI x3, vI x4, vI x5, vI x6] [vI y1, vI y0] M Q
  simp only [w_iadd, w_is_4 (c2I _), w_inc_6 (c2I _), w_goto, true_and, and_true, true_or, or_true]
  exact h
theorem b_198_5 {sx : Int → Int} {L : Nat} {x1 : Int} {x2 : Int} {x3 : Int} {x4 : Int} {x5 : Int} {x6 : Int} {M : Mem} {Q : Option AV → Mem → Prop} 
    (h : Rn sx L K0 R0 198 1 [vR 106, vI x1, vI x2, vI x3, vI x4, vI x5, vI x6] [] M Q) : Rn sx L K0 R0 198 5 [vR 106, vI x1, vI x2, vI x3, vI x4, vI x5, vI x6] [] M Q := by
  refine Rn_w (by decide) ?_
  show wpc sx L K0 R0 198 [(123, 3, .goto (-100), [1])] 0 [vR 106, vI x1, vI x2, vI x3, vI x4, vI x5, vI x6] [] M Q
  simp only [w_goto, true_and, and_true, true_or, or_true]
  exact h
theorem b_198_6 {sx : Int → Int} {L : Nat} {x1 : Int} {x2 : Int} {x3 : Int} {x4 : Int} {x5 : Int} {u6 : AV} {M : Mem} {Q : Option AV → Mem → Prop} (hu6 : cat2 u6 = false)
    (h : (x4 ≤ (400 : Int) → Rn sx L K0 R0 198 7 [vR 106, vI x1, vI x2, vI x3, vI x4, vI x5, u6] [] M Q) ∧ (¬ (x4 ≤ (400 : Int)) → Rn sx L K0 R0 198 8 [vR 106, vI x1, vI x2, vI x3, vI x4, vI x5, u6] [vI (-1)] M Q)) : Rn sx L K0 R0 198 6 [vR 106, vI x1, vI x2, vI x3, vI x4, vI x5, u6] [] M Q := by
  refine Rn_w (by decide) ?_
  show wpc sx L K0 R0 198 [(126, 2, .iload 4, []), (128, 3, .sipush 400, []), (131, 3, .if_icmp .le 7, [7]), (134, 1, .iconst (-1), []), (135, 3, .goto 5, [8])] 0 [vR 106, vI x1, vI x2, vI x3, vI x4, vI x5, u6] [] M Q
  simp only [w_il_4, w_sipush, w_ic_le, w_iconst, w_goto, true_and, and_true, true_or, or_true]
  exact h
theorem b_198_7 {sx : Int → Int} {L : Nat} {x1 : Int} {x2 : Int} {x3 : Int} {x4 : Int} {x5 : Int} {u6 : AV} {M : Mem} {Q : Option AV → Mem → Prop} (hu6 : cat2 u6 = false)
    (h : Rn sx L K0 R0 198 8 [vR 106, vI x1, vI x2, vI x3, vI x4, vI x5, u6] [vI x4] M Q) : Rn sx L K0 R0 198 7 [vR 106, vI x1, vI x2, vI x3, vI x4, vI x5, u6] [] M Q := by
  refine Rn_w (by decide) ?_
  show wpc sx L K0 R0 198 [(138, 2, .iload 4, [])] 8 [vR 106, vI x1, vI x2, vI x3, vI x4, vI x5, u6] [] M Q
  simp only [w_il_4, w_fall, true_and, and_true, true_or, or_true]
  exact h
theorem b_198_8 {sx : Int → Int} {L : Nat} {x1 : Int} {x2 : Int} {x3 : Int} {x4 : Int} {x5 : Int} {u6 : AV} {y0 : Int} {M : Mem} {Q : Option AV → Mem → Prop} (hu6 : cat2 u6 = false)
    (h : Q (some (vI y0)) M) : Rn sx L K0 R0 198 8 [vR 106, vI x1, vI x2, vI x3, vI x4, vI x5, u6] [vI y0] M Q := by
  refine Rn_w (by decide) ?_
  show wpc sx L K0 R0 198 [(140, 1, .ireturn, [])] 0 [vR 106, vI x1, vI x2, vI x3, vI x4, vI x5, u6] [vI y0] M Q
  simp only [w_ret1 rk_198, true_and, and_true, true_or, or_true]
  exact h
theorem b_199_0 {sx : Int → Int} {L : Nat} {x1 : Int} {M : Mem} {Q : Option AV → Mem → Prop} 
    (h : Mq sx L K0 R0 142 [vI x1] M (fun rv M1 => ∃ r1, rv = some (vI r1) ∧ ((¬ r1 = (0 : Int) → Rn sx L K0 R0 199 1 [vR 106, vI x1] [] M1 Q) ∧ (¬ (¬ r1 = (0 : Int)) → Q (some (vI (-2))) M1)))) : Rn sx L K0 R0 199 0 [vR 106, vI x1] [] M Q := by
  refine Rn_w (by decide) ?_
  show wpc sx L K0 R0 199 [(0, 1, .iload_n 1, []), (1, 3, .invokestatic 152, [142, 1370, 1]), (4, 3, .ifCond .ne 6, [1]), (7, 2, .bipush (-2), []), (9, 1, .ireturn, [])] 0 [vR 106, vI x1] [] M Q
  simp only [w_il_1, w_ivs_1 (c2I _) cs0, rk_142, rvk2, List.cons_append, List.nil_append, w_if_ne, w_bipush, w_ret1 rk_199, true_and, and_true, true_or, or_true]
  exact h
theorem b_199_1 {sx : Int → Int} {L : Nat} {x1 : Int} {M : Mem} {Q : Option AV → Mem → Prop} 
    (h : Mq sx L K0 R0 197 [vR 106, vI x1] M (fun rv M1 => ∃ r1, rv = some (vI r1) ∧ ((r1 = (0 : Int) → Rn sx L K0 R0 199 2 [vR 106, vI x1] [] M1 Q) ∧ (¬ (r1 = (0 : Int)) → Mq sx L K0 R0 198 [vR 106, vI x1] M1 (fun rv M2 => ∃ r2, rv = some (vI r2) ∧ (Rn sx L K0 R0 199 3 [vR 106, vI x1] [vI r2] M2 Q)))))) : Rn sx L K0 R0 199 1 [vR 106, vI x1] [] M Q := by
  refine Rn_w (by decide) ?_
  show wpc sx L K0 R0 199 [(10, 1, .aload_n 0, []), (11, 1, .iload_n 1, []), (12, 3, .invokevirtual 331, [197, 1573, 1]), (15, 3, .ifCond .eq 11, [2]), (18, 1, .aload_n 0, []), (19, 1, .iload_n 1, []), (20, 3, .invokevirtual 334, [198, 1577, 1]), (23, 3, .goto 5, [3])] 0 [vR 106, vI x1] [] M Q
  simp only [w_al_0, w_il_1, w_ivv_1 (c2I _) cs0, mk_197, kin_T (ks_104), rk_197, rvk2, List.cons_append, List.nil_append, w_if_eq, mk_198, rk_198, rvk1, w_goto, true_and, and_true, true_or, or_true]
  exact h
theorem b_199_2 {sx : Int → Int} {L : Nat} {x1 : Int} {M : Mem} {Q : Option AV → Mem → Prop} 
    (h : Rn sx L K0 R0 199 3 [vR 106, vI x1] [vI (-3)] M Q) : Rn sx L K0 R0 199 2 [vR 106, vI x1] [] M Q := by
  refine Rn_w (by decide) ?_
  show wpc sx L K0 R0 199 [(26, 2, .bipush (-3), [])] 3 [vR 106, vI x1] [] M Q
  simp only [w_bipush, w_fall, true_and, and_true, true_or, or_true]
  exact h
theorem b_199_3 {sx : Int → Int} {L : Nat} {x1 : Int} {y0 : Int} {M : Mem} {Q : Option AV → Mem → Prop} 
    (h : Q (some (vI y0)) M) : Rn sx L K0 R0 199 3 [vR 106, vI x1] [vI y0] M Q := by
  refine Rn_w (by decide) ?_
  show wpc sx L K0 R0 199 [(28, 1, .ireturn, [])] 0 [vR 106, vI x1] [vI y0] M Q
  simp only [w_ret1 rk_199, true_and, and_true, true_or, or_true]
  exact h
theorem b_200_0 {sx : Int → Int} {L : Nat} {x1 : Int} {M : Mem} {Q : Option AV → Mem → Prop} 
    (h : Mq sx L K0 R0 142 [vI x1] M (fun rv M1 => ∃ r1, rv = some (vI r1) ∧ ((¬ r1 = (0 : Int) → Rn sx L K0 R0 200 1 [vR 106, vI x1] [] M1 Q) ∧ (¬ (¬ r1 = (0 : Int)) → Q (some (vI (-2))) M1)))) : Rn sx L K0 R0 200 0 [vR 106, vI x1] [] M Q := by
  refine Rn_w (by decide) ?_
  show wpc sx L K0 R0 200 [(0, 1, .iload_n 1, []), (1, 3, .invokestatic 152, [142, 1370, 1]), (4, 3, .ifCond .ne 6, [1]), (7, 2, .bipush (-2), []), (9, 1, .ireturn, [])] 0 [vR 106, vI x1] [] M Q
  simp only [w_il_1, w_ivs_1 (c2I _) cs0, rk_142, rvk2, List.cons_append, List.nil_append, w_if_ne, w_bipush, w_ret1 rk_200, true_and, and_true, true_or, or_true]
  exact h
theorem b_200_1 {sx : Int → Int} {L : Nat} {x1 : Int} {M : Mem} {Q : Option AV → Mem → Prop} 
    (h : Mq sx L K0 R0 197 [vR 106, vI x1] M (fun rv M1 => ∃ r1, rv = some (vI r1) ∧ ((r1 = (0 : Int) → Rn sx L K0 R0 200 2 [vR 106, vI x1] [] M1 Q) ∧ (¬ (r1 = (0 : Int)) → Mq sx L K0 R0 196 [vR 106, vI x1] M1 (fun rv M2 => ∃ r2, rv = some (vI r2) ∧ (Rn sx L K0 R0 200 3 [vR 106, vI x1] [vI r2] M2 Q)))))) : Rn sx L K0 R0 200 1 [vR 106, vI x1] [] M Q := by
  refine Rn_w (by decide) ?_
  show wpc sx L K0 R0 200 [(10, 1, .aload_n 0, []), (11, 1, .iload_n 1, []), (12, 3, .invokevirtual 331, [197, 1573, 1]), (15, 3, .ifCond .eq 11, [2]), (18, 1, .aload_n 0, []), (19, 1, .iload_n 1, []), (20, 3, .invokevirtual 328, [196, 1581, 1]), (23, 3, .goto 5, [3])] 0 [vR 106, vI x1] [] M Q
  simp only [w_al_0, w_il_1, w_ivv_1 (c2I _) cs0, mk_197, kin_T (ks_104), rk_197, rvk2, List.cons_append, List.nil_append, w_if_eq, mk_196, rk_196, rvk1, w_goto, true_and, and_true, true_or, or_true]
  exact h
theorem b_200_2 {sx : Int → Int} {L : Nat} {x1 : Int} {M : Mem} {Q : Option AV → Mem → Prop} 
    (h : Rn sx L K0 R0 200 3 [vR 106, vI x1] [vI (-3)] M Q) : Rn sx L K0 R0 200 2 [vR 106, vI x1] [] M Q := by
  refine Rn_w (by decide) ?_
  show wpc sx L K0 R0 200 [(26, 2, .bipush (-3), [])] 3 [vR 106, vI x1] [] M Q
  simp only [w_bipush, w_fall, true_and, and_true, true_or, or_true]
  exact h
theorem b_200_3 {sx : Int → Int} {L : Nat} {x1 : Int} {y0 : Int} {M : Mem} {Q : Option AV → Mem → Prop} 
    (h : Q (some (vI y0)) M) : Rn sx L K0 R0 200 3 [vR 106, vI x1] [vI y0] M Q := by
  refine Rn_w (by decide) ?_
  show wpc sx L K0 R0 200 [(28, 1, .ireturn, [])] 0 [vR 106, vI x1] [vI y0] M Q
  simp only [w_ret1 rk_200, true_and, and_true, true_or, or_true]
  exact h
theorem b_201_0 {sx : Int → Int} {L : Nat}  {M : Mem} {Q : Option AV → Mem → Prop} 
    (h : Mq sx L K0 R0 178 [vR 106] M (fun rv M1 => rv = none ∧ (Mq sx L K0 R0 180 [vR 106] (mset M1 104 26 0) (fun rv M2 => ∃ r1, rv = some (vI r1) ∧ (Q (some (vI r1)) M2))))) : Rn sx L K0 R0 201 0 [vR 106] [] M Q := by
  refine Rn_w (by decide) ?_
  show wpc sx L K0 R0 201 [(0, 1, .aload_n 0, []), (1, 3, .invokevirtual 295, [178, 1445, 0]), (4, 1, .aload_n 0, []), (5, 1, .iconst 0, []), (6, 3, .putfield 145, [9, 26, 1180]), (9, 1, .aload_n 0, []), (10, 3, .invokevirtual 316, [180, 1561, 0]), (13, 1, .ireturn, [])] 0 [vR 106] [] M Q
  simp only [w_al_0, w_ivv_0  cs0, mk_178, kin_T (ks_104), rk_178, rvk0, List.nil_append, w_iconst, w_pf_9_26, b01_0, mk_180, rk_180, rvk1, List.cons_append, w_ret1 rk_201, true_and, and_true, true_or, or_true]
  exact h
theorem b_202_0 {sx : Int → Int} {L : Nat} {x1 : Int} {M : Mem} {Q : Option AV → Mem → Prop} 
    (h : inR (x1 - 2) ∧ (Rn sx L K0 R0 202 1 [vR 106, vI x1, vI (x1 - 2), vU, vU, vU, vU] [] M Q)) : Rn sx L K0 R0 202 0 [vR 106, vI x1, vU, vU, vU, vU, vU] [] M Q := by
  refine Rn_w (by decide) ?_
  show wpc sx L K0 R0 202 [(0, 1, .iload_n 1, []), (1, 1, .iconst 2, []), (2, 1, .isub, []), (3, 1, .istore_n 2, [])] 1 [vR 106, vI x1, vU, vU, vU, vU, vU] [] M Q
  simp only [w_il_1, w_iconst, w_isub, w_is_2 (c2I _), w_fall, true_and, and_true, true_or, or_true]
  exact h
theorem b_202_1 {sx : Int → Int} {L : Nat} {x1 : Int} {x2 : Int} {M : Mem} {Q : Option AV → Mem → Prop} 
    (h : (x2 < (0 : Int) → Rn sx L K0 R0 202 2 [vR 106, vI x1, vI x2, vU, vU, vU, vU] [] M Q) ∧ (¬ (x2 < (0 : Int)) → ((0 : Int) ≤ x2 ∧ x2 < (6 : Int)) ∧ (inR (x2 + 1) ∧ (((0 : Int) ≤ x2 + 1 ∧ x2 + 1 < (6 : Int)) ∧ ((M 138 x2 ≤ M 138 (x2 + 1) → Rn sx L K0 R0 202 2 [vR 106, vI x1, vI x2, vU, vU, vU, vU] [] M Q) ∧ (¬ (M 138 x2 ≤ M 138 (x2 + 1)) → inR (x2 + -1) ∧ (Rn sx L K0 R0 202 1 [vR 106, vI x1, vI (x2 + -1), vU, vU, vU, vU] [] M Q))))))) : Rn sx L K0 R0 202 1 [vR 106, vI x1, vI x2, vU, vU, vU, vU] [] M Q := by
  refine Rn_w (by decide) ?_
  show wpc sx L K0 R0 202 [(4, 1, .iload_n 2, []), (5, 3, .ifCond .lt 26, [2]), (8, 1, .aload_n 0, []), (9, 3, .getfield 117, [9, 53, 1207]), (12, 1, .iload_n 2, []), (13, 1, .iaload, []), (14, 1, .aload_n 0, []), (15, 3, .getfield 117, [9, 53, 1207]), (18, 1, .iload_n 2, []), (19, 1, .iconst 1, []), (20, 1, .iadd, []), (21, 1, .iaload, []), (22, 3, .if_icmp .le 9, [2]), (25, 3, .iinc 2 (-1), []), (28, 3, .goto (-24), [1])] 0 [vR 106, vI x1, vI x2, vU, vU, vU, vU] [] M Q
  simp only [w_il_2, w_if_lt, w_al_0, w_gf_9_53, kin_T (ks_104), rs_104_53, w_iald, arr_T (ks_138), w_iconst, w_iadd, w_ic_le, w_inc_2 (c2I _), w_goto, true_and, and_true, true_or, or_true]
  exact h
theorem b_202_2 {sx : Int → Int} {L : Nat} {x1 : Int} {x2 : Int} {M : Mem} {Q : Option AV → Mem → Prop} 
    (h : ((0 : Int) ≤ x2 → Rn sx L K0 R0 202 3 [vR 106, vI x1, vI x2, vU, vU, vU, vU] [] M Q) ∧ (¬ ((0 : Int) ≤ x2) → Q (some (vI 0)) M)) : Rn sx L K0 R0 202 2 [vR 106, vI x1, vI x2, vU, vU, vU, vU] [] M Q := by
  refine Rn_w (by decide) ?_
  show wpc sx L K0 R0 202 [(31, 1, .iload_n 2, []), (32, 3, .ifCond .ge 5, [3]), (35, 1, .iconst 0, []), (36, 1, .ireturn, [])] 0 [vR 106, vI x1, vI x2, vU, vU, vU, vU] [] M Q
  simp only [w_il_2, w_if_ge, w_iconst, w_ret2 rk_202, b01_0, true_and, and_true, true_or, or_true]
  exact h
theorem b_202_3 {sx : Int → Int} {L : Nat} {x1 : Int} {x2 : Int} {M : Mem} {Q : Option AV → Mem → Prop} 
    (h : inR (x1 - 1) ∧ (Rn sx L K0 R0 202 4 [vR 106, vI x1, vI x2, vI (x1 - 1), vU, vU, vU] [] M Q)) : Rn sx L K0 R0 202 3 [vR 106, vI x1, vI x2, vU, vU, vU, vU] [] M Q := by
  refine Rn_w (by decide) ?_
  show wpc sx L K0 R0 202 [(37, 1, .iload_n 1, []), (38, 1, .iconst 1, []), (39, 1, .isub, []), (40, 1, .istore_n 3, [])] 4 [vR 106, vI x1, vI x2, vU, vU, vU, vU] [] M Q
  simp only [w_il_1, w_iconst, w_isub, w_is_3 (c2I _), w_fall, true_and, and_true, true_or, or_true]
  exact h
theorem b_202_4 {sx : Int → Int} {L : Nat} {x1 : Int} {x2 : Int} {x3 : Int} {M : Mem} {Q : Option AV → Mem → Prop} 
    (h : ((0 : Int) ≤ x3 ∧ x3 < (6 : Int)) ∧ (((0 : Int) ≤ x2 ∧ x2 < (6 : Int)) ∧ ((M 138 x2 ≤ M 138 x3 → Rn sx L K0 R0 202 5 [vR 106, vI x1, vI x2, vI x3, vU, vU, vU] [] M Q) ∧ (¬ (M 138 x2 ≤ M 138 x3) → inR (x3 + -1) ∧ (Rn sx L K0 R0 202 4 [vR 106, vI x1, vI x2, vI (x3 + -1), vU, vU, vU] [] M Q))))) : Rn sx L K0 R0 202 4 [vR 106, vI x1, vI x2, vI x3, vU, vU, vU] [] M Q := by
  refine Rn_w (by decide) ?_
  show wpc sx L K0 R0 202 [(41, 1, .aload_n 0, []), (42, 3, .getfield 117, [9, 53, 1207]), (45, 1, .iload_n 3, []), (46, 1, .iaload, []), (47, 1, .aload_n 0, []), (48, 3, .getfield 117, [9, 53, 1207]), (51, 1, .iload_n 2, []), (52, 1, .iaload, []), (53, 3, .if_icmp .ge 9, [5]), (56, 3, .iinc 3 (-1), []), (59, 3, .goto (-18), [4])] 0 [vR 106, vI x1, vI x2, vI x3, vU, vU, vU] [] M Q
  simp only [w_al_0, w_gf_9_53, kin_T (ks_104), rs_104_53, w_il_3, w_iald, arr_T (ks_138), w_il_2, w_ic_ge, w_inc_3 (c2I _), w_goto, true_and, and_true, true_or, or_true]
  exact h
set_option maxRecDepth 8192 in
theorem b_202_5 {sx : Int → Int} {L : Nat} {x1 : Int} {x2 : Int} {x3 : Int} {M : Mem} {Q : Option AV → Mem → Prop} 
    (h : ((0 : Int) ≤ x2 ∧ x2 < (6 : Int)) ∧ (((0 : Int) ≤ x3 ∧ x3 < (6 : Int)) ∧ (((0 : Int) ≤ x2 ∧ x2 < (6 : Int)) ∧ (((0 : Int) ≤ x3 ∧ x3 < (6 : Int)) ∧ (inR (x2 + 1) ∧ (inR (x1 - 1) ∧ (Rn sx L K0 R0 202 6 [vR 106, vI x1, vI x2, vI x3, vI (M 138 x2), vI (x2 + 1), vI (x1 - 1)] [] (mset (mset M 138 x2 (M 138 x3)) 138 x3 (M 138 x2)) Q))))))) : Rn sx L K0 R0 202 5 [vR 106, vI x1, vI x2, vI x3, vU, vU, vU] [] M Q := by
  refine Rn_w (by decide) ?_
  show wpc sx L K0 R0 202 [(62, 1, .aload_n 0, []), (63, 3, .getfield 117, [9, 53, 1207]), (66, 1, .iload_n 2, []), (67, 1, .iaload, []), (68, 2, .istore 4, []), (70, 1, .aload_n 0, []), (71, 3, .getfield 117, [9, 53, 1207]), (74, 1, .iload_n 2, []), (75, 1, .aload_n 0, []), (76, 3, .getfield 117, [9, 53, 1207]), (79, 1, .iload_n 3, []), (80, 1, .iaload, []), (81, 1, .iastore, []), (82, 1, .aload_n 0, []), (83, 3, .getfield 117, [9, 53, 1207]), (86, 1, .iload_n 3, []), (87, 2, .iload 4, []), (89, 1, .iastore, []), (90, 1, .iload_n 2, []), (91, 1, .iconst 1, []), (92, 1, .iadd, []), (93, 2, .istore 5, []), (95, 1, .iload_n 1, []), (96, 1, .iconst 1, []), (97, 1, .isub, []), (98, 2, .istore 6, [])] 6 [vR 106, vI x1, vI x2, vI x3, vU, vU, vU] [] M Q
  simp only [w_al_0, w_gf_9_53, kin_T (ks_104), rs_104_53, w_il_2, w_iald, arr_T (ks_138), w_is_4 (c2I _), w_il_3, w_iast, w_il_4, w_iconst, w_iadd, w_is_5 (c2I _), w_il_1, w_isub, w_is_6 (c2I _), w_fall, true_and, and_true, true_or, or_true]
  exact h
set_option maxRecDepth 8192 in
theorem b_202_6 {sx : Int → Int} {L : Nat} {x1 : Int} {x2 : Int} {x3 : Int} {x4 : Int} {x5 : Int} {x6 : Int} {M : Mem} {Q : Option AV → Mem → Prop} 
    (h : (x6 ≤ x5 → Rn sx L K0 R0 202 7 [vR 106, vI x1, vI x2, vI x3, vI x4, vI x5, vI x6] [] M Q) ∧ (¬ (x6 ≤ x5) → ((0 : Int) ≤ x5 ∧ x5 < (6 : Int)) ∧ (((0 : Int) ≤ x6 ∧ x6 < (6 : Int)) ∧ (((0 : Int) ≤ x5 ∧ x5 < (6 : Int)) ∧ (((0 : Int) ≤ x6 ∧ x6 < (6 : Int)) ∧ (inR (x5 + 1) ∧ (inR (x6 + -1) ∧ (Rn sx L K0 R0 202 6 [vR 106, vI x1, vI x2, vI x3, vI (M 138 x5), vI (x5 + 1), vI (x6 + -1)] [] (mset (mset M 138 x5 (M 138 x6)) 138 x6 (M 138 x5)) Q)))))))) : Rn sx L K0 R0 202 6 [vR 106, vI x1, vI x2, vI x3, vI x4, vI x5, vI x6] [] M Q := by
  refine Rn_w (by decide) ?_
  show wpc sx L K0 R0 202 [(100, 2, .iload 5, []), (102, 2, .iload 6, []), (104, 3, .if_icmp .ge 44, [7]), (107, 1, .aload_n 0, []), (108, 3, .getfield 117, [9, 53, 1207]), (111, 2, .iload 5, []), (113, 1, .iaload, []), (114, 2, .istore 4, []), (116, 1, .aload_n 0, []), (117, 3, .getfield 117, [9, 53, 1207]), (120, 2, .iload 5, []), (122, 1, .aload_n 0, []), (123, 3, .getfield 117, [9, 53, 1207]), (126, 2, .iload 6, []), (128, 1, .iaload, []), (129, 1, .iastore, []), (130, 1, .aload_n 0, []), (131, 3, .getfield 117, [9, 53, 1207]), (134, 2, .iload 6, []), (136, 2, .iload 4, []), (138, 1, .iastore, []), (139, 3, .iinc 5 1, []), (142, 3, .iinc 6 (-1), []), (145, 3, .goto (-45), [6])] 0 [vR 106, vI x1, vI x2, vI x3, vI x4, vI x5, vI x6] [] M Q
  simp only [w_il_5, w_il_6, w_ic_ge, w_al_0, w_gf_9_53, kin_T (ks_104), rs_104_53, w_iald, arr_T (ks_138), w_is_4 (c2I _), w_iast, w_il_4, w_inc_5 (c2I _), w_inc_6 (c2I _), w_goto, true_and, and_true, true_or, or_true]
  exact h
theorem b_202_7 {sx : Int → Int} {L : Nat} {x1 : Int} {x2 : Int} {x3 : Int} {x4 : Int} {x5 : Int} {x6 : Int} {M : Mem} {Q : Option AV → Mem → Prop} 
    (h : Q (some (vI 1)) M) : Rn sx L K0 R0 202 7 [vR 106, vI x1, vI x2, vI x3, vI x4, vI x5, vI x6] [] M Q := by
  refine Rn_w (by decide) ?_
  show wpc sx L K0 R0 202 [(148, 1, .iconst 1, []), (149, 1, .ireturn, [])] 0 [vR 106, vI x1, vI x2, vI x3, vI x4, vI x5, vI x6] [] M Q
  simp only [w_iconst, w_ret2 rk_202, b01_1, true_and, and_true, true_or, or_true]
  exact h
theorem b_203_0 {sx : Int → Int} {L : Nat} {x1 : Int} {M : Mem} {Q : Option AV → Mem → Prop} 
    (h : Rn sx L K0 R0 203 1 [vR 106, vI x1, vI 0, vI 0, vU] [] M Q) : Rn sx L K0 R0 203 0 [vR 106, vI x1, vU, vU, vU] [] M Q := by
  refine Rn_w (by decide) ?_
  show wpc sx L K0 R0 203 [(0, 1, .iconst 0, []), (1, 1, .istore_n 2, []), (2, 1, .iconst 0, []), (3, 1, .istore_n 3, [])] 1 [vR 106, vI x1, vU, vU, vU] [] M Q
  simp only [w_iconst, w_is_2 (c2I _), w_is_3 (c2I _), w_fall, true_and, and_true, true_or, or_true]
  exact h
theorem b_203_1 {sx : Int → Int} {L : Nat} {x1 : Int} {x2 : Int} {x3 : Int} {M : Mem} {Q : Option AV → Mem → Prop} 
    (h : ((8 : Int) ≤ x3 → Rn sx L K0 R0 203 3 [vR 106, vI x1, vI x2, vI x3, vU] [] M Q) ∧ (¬ ((8 : Int) ≤ x3) → ((0 : Int) ≤ x1 ∧ (0 : Int) ≤ x3 ∧ x3 ≤ (30 : Int)) ∧ ((¬ iAnd (x1 / 2 ^ (x3).toNat) 1 = (1 : Int) → Rn sx L K0 R0 203 2 [vR 106, vI x1, vI x2, vI x3, vU] [] M Q) ∧ (¬ (¬ iAnd (x1 / 2 ^ (x3).toNat) 1 = (1 : Int)) → ((0 : Int) ≤ x2 ∧ x2 < (6 : Int)) ∧ (inR (x2 + 1) ∧ (Rn sx L K0 R0 203 2 [vR 106, vI x1, vI (x2 + 1), vI x3, vU] [] (mset M 138 x2 x3) Q)))))) : Rn sx L K0 R0 203 1 [vR 106, vI x1, vI x2, vI x3, vU] [] M Q := by
  refine Rn_w (by decide) ?_
  show wpc sx L K0 R0 203 [(4, 1, .iload_n 3, []), (5, 2, .bipush 8, []), (7, 3, .if_icmp .ge 28, [3]), (10, 1, .iload_n 1, []), (11, 1, .iload_n 3, []), (12, 1, .ishr, []), (13, 1, .iconst 1, []), (14, 1, .iand, []), (15, 1, .iconst 1, []), (16, 3, .if_icmp .ne 13, [2]), (19, 1, .aload_n 0, []), (20, 3, .getfield 117, [9, 53, 1207]), (23, 1, .iload_n 2, []), (24, 1, .iload_n 3, []), (25, 1, .iastore, []), (26, 3, .iinc 2 1, [])] 2 [vR 106, vI x1, vI x2, vI x3, vU] [] M Q
  simp only [w_il_3, w_bipush, w_ic_ge, w_il_1, w_ishr, w_iconst, w_iand, w_ic_ne, w_al_0, w_gf_9_53, kin_T (ks_104), rs_104_53, w_il_2, w_iast, arr_T (ks_138), w_inc_2 (c2I _), w_fall, true_and, and_true, true_or, or_true]
  exact h
theorem b_203_2 {sx : Int → Int} {L : Nat} {x1 : Int} {x2 : Int} {x3 : Int} {M : Mem} {Q : Option AV → Mem → Prop} 
    (h : inR (x3 + 1) ∧ (Rn sx L K0 R0 203 1 [vR 106, vI x1, vI x2, vI (x3 + 1), vU] [] M Q)) : Rn sx L K0 R0 203 2 [vR 106, vI x1, vI x2, vI x3, vU] [] M Q := by
  refine Rn_w (by decide) ?_
  show wpc sx L K0 R0 203 [(29, 3, .iinc 3 1, []), (32, 3, .goto (-28), [1])] 0 [vR 106, vI x1, vI x2, vI x3, vU] [] M Q
  simp only [w_inc_3 (c2I _), w_goto, true_and, and_true, true_or, or_true]
  exact h
theorem b_203_3 {sx : Int → Int} {L : Nat} {x1 : Int} {x2 : Int} {x3 : Int} {M : Mem} {Q : Option AV → Mem → Prop} 
    (h : Mq sx L K0 R0 159 [vR 106] M (fun rv M1 => rv = none ∧ (Rn sx L K0 R0 203 4 [vR 106, vI x1, vI x2, vI 1, vU] [] M1 Q))) : Rn sx L K0 R0 203 3 [vR 106, vI x1, vI x2, vI x3, vU] [] M Q := by
  refine Rn_w (by decide) ?_
  show wpc sx L K0 R0 203 [(35, 1, .aload_n 0, []), (36, 3, .invokevirtual 292, [159, 1441, 0]), (39, 1, .iconst 1, []), (40, 1, .istore_n 3, [])] 4 [vR 106, vI x1, vI x2, vI x3, vU] [] M Q
  simp only [w_al_0, w_ivv_0  cs0, mk_159, kin_T (ks_104), rk_159, rvk0, List.nil_append, w_iconst, w_is_3 (c2I _), w_fall, true_and, and_true, true_or, or_true]
  exact h
theorem b_203_4 {sx : Int → Int} {L : Nat} {x1 : Int} {x2 : Int} {x3 : Int} {u4 : AV} {M : Mem} {Q : Option AV → Mem → Prop} (hu4 : cat2 u4 = false)
    (h : (x3 = (0 : Int) → Rn sx L K0 R0 203 8 [vR 106, vI x1, vI x2, vI x3, u4] [] M Q) ∧ (¬ (x3 = (0 : Int)) → Rn sx L K0 R0 203 5 [vR 106, vI x1, vI x2, vI x3, vI 0] [] M Q)) : Rn sx L K0 R0 203 4 [vR 106, vI x1, vI x2, vI x3, u4] [] M Q := by
  refine Rn_w (by decide) ?_
  show wpc sx L K0 R0 203 [(41, 1, .iload_n 3, []), (42, 3, .ifCond .eq 53, [8]), (45, 1, .iconst 0, []), (46, 2, .istore 4, [])] 5 [vR 106, vI x1, vI x2, vI x3, u4] [] M Q
  simp only [w_il_3, w_if_eq, w_iconst, w_is_4 (c2I _), w_fall, true_and, and_true, true_or, or_true]
  exact h
theorem b_203_5 {sx : Int → Int} {L : Nat} {x1 : Int} {x2 : Int} {x3 : Int} {x4 : Int} {M : Mem} {Q : Option AV → Mem → Prop} 
    (h : (x2 ≤ x4 → Rn sx L K0 R0 203 6 [vR 106, vI x1, vI x2, vI x3, vI x4] [] M Q) ∧ (¬ (x2 ≤ x4) → ((0 : Int) ≤ x4 ∧ x4 < (6 : Int)) ∧ (inR ((90 : Int) - x4) ∧ (((0 : Int) ≤ M 138 x4 ∧ M 138 x4 < (8 : Int)) ∧ (inR (x4 + 1) ∧ (Rn sx L K0 R0 203 5 [vR 106, vI x1, vI x2, vI x3, vI (x4 + 1)] [] (mset M 121 (M 138 x4) ((90 : Int) - x4)) Q)))))) : Rn sx L K0 R0 203 5 [vR 106, vI x1, vI x2, vI x3, vI x4] [] M Q := by
  refine Rn_w (by decide) ?_
  show wpc sx L K0 R0 203 [(48, 2, .iload 4, []), (50, 1, .iload_n 2, []), (51, 3, .if_icmp .ge 26, [6]), (54, 1, .aload_n 0, []), (55, 3, .getfield 65, [9, 28, 1182]), (58, 1, .aload_n 0, []), (59, 3, .getfield 117, [9, 53, 1207]), (62, 2, .iload 4, []), (64, 1, .iaload, []), (65, 2, .bipush 90, []), (67, 2, .iload 4, []), (69, 1, .isub, []), (70, 1, .iastore, []), (71, 3, .iinc 4 1, []), (74, 3, .goto (-26), [5])] 0 [vR 106, vI x1, vI x2, vI x3, vI x4] [] M Q
  simp only [w_il_4, w_il_2, w_ic_ge, w_al_0, w_gf_9_28, kin_T (ks_104), rs_104_28, w_gf_9_53, rs_104_53, w_iald, arr_T (ks_138), w_bipush, w_isub, w_iast, arr_T (ks_121), w_inc_4 (c2I _), w_goto, true_and, and_true, true_or, or_true]
  exact h
theorem b_203_6 {sx : Int → Int} {L : Nat} {x1 : Int} {x2 : Int} {x3 : Int} {x4 : Int} {M : Mem} {Q : Option AV → Mem → Prop} 
    (h : Mq sx L K0 R0 201 [vR 106] M (fun rv M1 => ∃ r1, rv = some (vI r1) ∧ ((¬ r1 = (0 : Int) → Rn sx L K0 R0 203 7 [vR 106, vI x1, vI x2, vI x3, vI x4] [] M1 Q) ∧ (¬ (¬ r1 = (0 : Int)) → Q (some (vI 1)) M1)))) : Rn sx L K0 R0 203 6 [vR 106, vI x1, vI x2, vI x3, vI x4] [] M Q := by
  refine Rn_w (by decide) ?_
  show wpc sx L K0 R0 203 [(77, 1, .aload_n 0, []), (78, 3, .invokevirtual 337, [201, 1612, 0]), (81, 3, .ifCond .ne 5, [7]), (84, 1, .iconst 1, []), (85, 1, .ireturn, [])] 0 [vR 106, vI x1, vI x2, vI x3, vI x4] [] M Q
  simp only [w_al_0, w_ivv_0  cs0, mk_201, kin_T (ks_104), rk_201, rvk1, List.cons_append, List.nil_append, w_if_ne, w_iconst, w_ret2 rk_203, b01_1, true_and, and_true, true_or, or_true]
  exact h
theorem b_203_7 {sx : Int → Int} {L : Nat} {x1 : Int} {x2 : Int} {x3 : Int} {x4 : Int} {M : Mem} {Q : Option AV → Mem → Prop} 
    (h : Mq sx L K0 R0 202 [vR 106, vI x2] M (fun rv M1 => ∃ r1, rv = some (vI r1) ∧ (Rn sx L K0 R0 203 4 [vR 106, vI x1, vI x2, vI r1, vI x4] [] M1 Q))) : Rn sx L K0 R0 203 7 [vR 106, vI x1, vI x2, vI x3, vI x4] [] M Q := by
  refine Rn_w (by decide) ?_
  show wpc sx L K0 R0 203 [(86, 1, .aload_n 0, []), (87, 1, .iload_n 2, []), (88, 3, .invokevirtual 340, [202, 1616, 1]), (91, 1, .istore_n 3, []), (92, 3, .goto (-51), [4])] 0 [vR 106, vI x1, vI x2, vI x3, vI x4] [] M Q
  simp only [w_al_0, w_il_2, w_ivv_1 (c2I _) cs0, mk_202, kin_T (ks_104), rk_202, rvk2, List.cons_append, List.nil_append, w_is_3 (c2I _), w_goto, true_and, and_true, true_or, or_true]
  exact h
theorem b_203_8 {sx : Int → Int} {L : Nat} {x1 : Int} {x2 : Int} {x3 : Int} {u4 : AV} {M : Mem} {Q : Option AV → Mem → Prop} (hu4 : cat2 u4 = false)
    (h : Q (some (vI 0)) M) : Rn sx L K0 R0 203 8 [vR 106, vI x1, vI x2, vI x3, u4] [] M Q := by
  refine Rn_w (by decide) ?_
  show wpc sx L K0 R0 203 [(95, 1, .iconst 0, []), (96, 1, .ireturn, [])] 0 [vR 106, vI x1, vI x2, vI x3, u4] [] M Q
  simp only [w_iconst, w_ret2 rk_203, b01_0, true_and, and_true, true_or, or_true]
  exact h
theorem b_204_0 {sx : Int → Int} {L : Nat} {x1 : Int} {M : Mem} {Q : Option AV → Mem → Prop} 
    (h : Mq sx L K0 R0 154 [vR 106] M (fun rv M1 => ∃ r1, rv = some (vI r1) ∧ (Mq sx L K0 R0 138 [vI r1] M1 (fun rv M2 => ∃ r2, rv = some (vI r2) ∧ (inR (r2 - 1) ∧ (Mq sx L K0 R0 137 [vI x1, vI 0, vI (r2 - 1)] M2 (fun rv M3 => ∃ r3, rv = some (vI r3) ∧ ((¬ r3 = (0 : Int) → Rn sx L K0 R0 204 1 [vR 106, vI x1, vI r1] [] M3 Q) ∧ (¬ (¬ r3 = (0 : Int)) → Q (some (vI (-2))) M3))))))))) : Rn sx L K0 R0 204 0 [vR 106, vI x1, vU] [] M Q := by
  refine Rn_w (by decide) ?_
  show wpc sx L K0 R0 204 [(0, 1, .aload_n 0, []), (1, 3, .invokevirtual 196, [154, 1417, 0]), (4, 1, .istore_n 2, []), (5, 1, .iload_n 1, []), (6, 1, .iconst 0, []), (7, 1, .iload_n 2, []), (8, 3, .invokestatic 343, [138, 1605, 1]), (11, 1, .iconst 1, []), (12, 1, .isub, []), (13, 3, .invokestatic 135, [137, 1355, 3]), (16, 3, .ifCond .ne 6, [1]), (19, 2, .bipush (-2), []), (21, 1, .ireturn, [])] 0 [vR 106, vI x1, vU] [] M Q
  simp only [w_al_0, w_ivv_0  cs0, mk_154, kin_T (ks_104), rk_154, rvk1, List.cons_append, List.nil_append, w_is_2 (c2I _), w_il_1, w_iconst, w_il_2, w_ivs_1 (c2I _) (cs2 _ _), rk_138, w_isub, w_ivs_3 (c2I _) (c2I _) (c2I _) cs0, rk_137, rvk2, w_if_ne, w_bipush, w_ret1 rk_204, true_and, and_true, true_or, or_true]
  exact h
theorem b_204_1 {sx : Int → Int} {L : Nat} {x1 : Int} {x2 : Int} {M : Mem} {Q : Option AV → Mem → Prop} 
    (h : Mq sx L K0 R0 138 [vI x2] M (fun rv M1 => ∃ r1, rv = some (vI r1) ∧ ((r1 ≤ (5 : Int) → Rn sx L K0 R0 204 2 [vR 106, vI x1, vI x2] [] M1 Q) ∧ (¬ (r1 ≤ (5 : Int)) → Q (some (vI (-4))) M1)))) : Rn sx L K0 R0 204 1 [vR 106, vI x1, vI x2] [] M Q := by
  refine Rn_w (by decide) ?_
  show wpc sx L K0 R0 204 [(22, 1, .iload_n 2, []), (23, 3, .invokestatic 343, [138, 1605, 1]), (26, 1, .iconst 5, []), (27, 3, .if_icmp .le 6, [2]), (30, 2, .bipush (-4), []), (32, 1, .ireturn, [])] 0 [vR 106, vI x1, vI x2] [] M Q
  simp only [w_il_2, w_ivs_1 (c2I _) cs0, rk_138, rvk1, List.cons_append, List.nil_append, w_iconst, w_ic_le, w_bipush, w_ret1 rk_204, true_and, and_true, true_or, or_true]
  exact h
theorem b_204_2 {sx : Int → Int} {L : Nat} {x1 : Int} {x2 : Int} {M : Mem} {Q : Option AV → Mem → Prop} 
    (h : Mq sx L K0 R0 203 [vR 106, vI x2] M (fun rv M1 => ∃ r1, rv = some (vI r1) ∧ ((r1 = (0 : Int) → Rn sx L K0 R0 204 3 [vR 106, vI x1, vI x2] [] M1 Q) ∧ (¬ (r1 = (0 : Int)) → ((0 : Int) ≤ x1 ∧ x1 < (6 : Int)) ∧ (Rn sx L K0 R0 204 4 [vR 106, vI x1, vI x2] [vI (M1 138 x1)] M1 Q))))) : Rn sx L K0 R0 204 2 [vR 106, vI x1, vI x2] [] M Q := by
  refine Rn_w (by decide) ?_
  show wpc sx L K0 R0 204 [(33, 1, .aload_n 0, []), (34, 1, .iload_n 2, []), (35, 3, .invokevirtual 346, [203, 1608, 1]), (38, 3, .ifCond .eq 12, [3]), (41, 1, .aload_n 0, []), (42, 3, .getfield 117, [9, 53, 1207]), (45, 1, .iload_n 1, []), (46, 1, .iaload, []), (47, 3, .goto 4, [4])] 0 [vR 106, vI x1, vI x2] [] M Q
  simp only [w_al_0, w_il_2, w_ivv_1 (c2I _) cs0, mk_203, kin_T (ks_104), rk_203, rvk2, List.cons_append, List.nil_append, w_if_eq, w_gf_9_53, rs_104_53, w_il_1, w_iald, arr_T (ks_138), w_goto, true_and, and_true, true_or, or_true]
  exact h
theorem b_204_3 {sx : Int → Int} {L : Nat} {x1 : Int} {x2 : Int} {M : Mem} {Q : Option AV → Mem → Prop} 
    (h : Rn sx L K0 R0 204 4 [vR 106, vI x1, vI x2] [vI (-1)] M Q) : Rn sx L K0 R0 204 3 [vR 106, vI x1, vI x2] [] M Q := by
  refine Rn_w (by decide) ?_
  show wpc sx L K0 R0 204 [(50, 1, .iconst (-1), [])] 4 [vR 106, vI x1, vI x2] [] M Q
  simp only [w_iconst, w_fall, true_and, and_true, true_or, or_true]
  exact h
theorem b_204_4 {sx : Int → Int} {L : Nat} {x1 : Int} {x2 : Int} {y0 : Int} {M : Mem} {Q : Option AV → Mem → Prop} 
    (h : Q (some (vI y0)) M) : Rn sx L K0 R0 204 4 [vR 106, vI x1, vI x2] [vI y0] M Q := by
  refine Rn_w (by decide) ?_
  show wpc sx L K0 R0 204 [(51, 1, .ireturn, [])] 0 [vR 106, vI x1, vI x2] [vI y0] M Q
  simp only [w_ret1 rk_204, true_and, and_true, true_or, or_true]
  exact h
theorem b_205_0 {sx : Int → Int} {L : Nat} {x1 : Int} {x2 : Int} {M : Mem} {Q : Option AV → Mem → Prop} 
    (h : Mq sx L K0 R0 142 [vI x1] M (fun rv M1 => ∃ r1, rv = some (vI r1) ∧ ((r1 = (0 : Int) → Rn sx L K0 R0 205 1 [vR 106, vI x1, vI x2] [] M1 Q) ∧ (¬ (r1 = (0 : Int)) → ((0 : Int) ≤ x2 → Rn sx L K0 R0 205 2 [vR 106, vI x1, vI x2] [] M1 Q) ∧ (¬ ((0 : Int) ≤ x2) → Rn sx L K0 R0 205 1 [vR 106, vI x1, vI x2] [] M1 Q))))) : Rn sx L K0 R0 205 0 [vR 106, vI x1, vI x2] [] M Q := by
  refine Rn_w (by decide) ?_
  show wpc sx L K0 R0 205 [(0, 1, .iload_n 1, []), (1, 3, .invokestatic 152, [142, 1370, 1]), (4, 3, .ifCond .eq 7, [1]), (7, 1, .iload_n 2, []), (8, 3, .ifCond .ge 6, [2])] 1 [vR 106, vI x1, vI x2] [] M Q
  simp only [w_il_1, w_ivs_1 (c2I _) cs0, rk_142, rvk2, List.cons_append, List.nil_append, w_if_eq, w_il_2, w_if_ge, w_fall, true_and, and_true, true_or, or_true]
  exact h
theorem b_205_1 {sx : Int → Int} {L : Nat} {x1 : Int} {x2 : Int} {M : Mem} {Q : Option AV → Mem → Prop} 
    (h : Q (some (vI (-2))) M) : Rn sx L K0 R0 205 1 [vR 106, vI x1, vI x2] [] M Q := by
  refine Rn_w (by decide) ?_
  show wpc sx L K0 R0 205 [(11, 2, .bipush (-2), []), (13, 1, .ireturn, [])] 0 [vR 106, vI x1, vI x2] [] M Q
  simp only [w_bipush, w_ret1 rk_205, true_and, and_true, true_or, or_true]
  exact h
theorem b_205_2 {sx : Int → Int} {L : Nat} {x1 : Int} {x2 : Int} {M : Mem} {Q : Option AV → Mem → Prop} 
    (h : Mq sx L K0 R0 150 [vR 106] M (fun rv M1 => rv = none ∧ (((0 : Int) ≤ x1 ∧ x1 < (8 : Int)) ∧ ((M1 117 x1 ≤ x2 → Rn sx L K0 R0 205 3 [vR 106, vI x1, vI x2] [] M1 Q) ∧ (¬ (M1 117 x1 ≤ x2) → inR ((20 : Int) * x1) ∧ (inR (((20 : Int) * x1) + x2) ∧ (((0 : Int) ≤ ((20 : Int) * x1) + x2 ∧ ((20 : Int) * x1) + x2 < (160 : Int)) ∧ ((M1 118 (((20 : Int) * x1) + x2) = (0 : Int) → Rn sx L K0 R0 205 4 [vR 106, vI x1, vI x2] [] M1 Q) ∧ (¬ (M1 118 (((20 : Int) * x1) + x2) = (0 : Int)) → Rn sx L K0 R0 205 3 [vR 106, vI x1, vI x2] [] M1 Q))))))))) : Rn sx L K0 R0 205 2 [vR 106, vI x1, vI x2] [] M Q := by
  refine Rn_w (by decide) ?_
  show wpc sx L K0 R0 205 [(14, 1, .aload_n 0, []), (15, 3, .invokevirtual 187, [150, 1385, 0]), (18, 1, .iload_n 2, []), (19, 1, .aload_n 0, []), (20, 3, .getfield 46, [9, 15, 1169]), (23, 1, .iload_n 1, []), (24, 1, .iaload, []), (25, 3, .if_icmp .ge 17, [3]), (28, 1, .aload_n 0, []), (29, 3, .getfield 49, [9, 16, 1170]), (32, 2, .bipush 20, []), (34, 1, .iload_n 1, []), (35, 1, .imul, []), (36, 1, .iload_n 2, []), (37, 1, .iadd, []), (38, 1, .iaload, []), (39, 3, .ifCond .eq 6, [4])] 3 [vR 106, vI x1, vI x2] [] M Q
  simp only [w_al_0, w_ivv_0  cs0, mk_150, kin_T (ks_104), rk_150, rvk0, List.nil_append, w_il_2, w_gf_9_15, rs_104_15, w_il_1, w_iald, arr_T (ks_117), w_ic_ge, w_gf_9_16, rs_104_16, w_bipush, w_imul, w_iadd, arr_T (ks_118), w_if_eq, w_fall, true_and, and_true, true_or, or_true]
  exact h
theorem b_205_3 {sx : Int → Int} {L : Nat} {x1 : Int} {x2 : Int} {M : Mem} {Q : Option AV → Mem → Prop} 
    (h : Q (some (vI (-2))) M) : Rn sx L K0 R0 205 3 [vR 106, vI x1, vI x2] [] M Q := by
  refine Rn_w (by decide) ?_
  show wpc sx L K0 R0 205 [(42, 2, .bipush (-2), []), (44, 1, .ireturn, [])] 0 [vR 106, vI x1, vI x2] [] M Q
  simp only [w_bipush, w_ret1 rk_205, true_and, and_true, true_or, or_true]
  exact h
theorem b_205_4 {sx : Int → Int} {L : Nat} {x1 : Int} {x2 : Int} {M : Mem} {Q : Option AV → Mem → Prop} 
    (h : Mq sx L K0 R0 154 [vR 106] M (fun rv M1 => ∃ r1, rv = some (vI r1) ∧ (((0 : Int) ≤ r1 ∧ (0 : Int) ≤ x1 ∧ x1 ≤ (30 : Int)) ∧ ((¬ iAnd (r1 / 2 ^ (x1).toNat) 1 = (0 : Int) → Rn sx L K0 R0 205 5 [vR 106, vI x1, vI x2] [] M1 Q) ∧ (¬ (¬ iAnd (r1 / 2 ^ (x1).toNat) 1 = (0 : Int)) → Q (some (vI (-3))) M1))))) : Rn sx L K0 R0 205 4 [vR 106, vI x1, vI x2] [] M Q := by
  refine Rn_w (by decide) ?_
  show wpc sx L K0 R0 205 [(45, 1, .aload_n 0, []), (46, 3, .invokevirtual 196, [154, 1417, 0]), (49, 1, .iload_n 1, []), (50, 1, .ishr, []), (51, 1, .iconst 1, []), (52, 1, .iand, []), (53, 3, .ifCond .ne 6, [5]), (56, 2, .bipush (-3), []), (58, 1, .ireturn, [])] 0 [vR 106, vI x1, vI x2] [] M Q
  simp only [w_al_0, w_ivv_0  cs0, mk_154, kin_T (ks_104), rk_154, rvk1, List.cons_append, List.nil_append, w_il_1, w_ishr, w_iconst, w_iand, w_if_ne, w_bipush, w_ret1 rk_205, true_and, and_true, true_or, or_true]
  exact h
theorem b_205_5 {sx : Int → Int} {L : Nat} {x1 : Int} {x2 : Int} {M : Mem} {Q : Option AV → Mem → Prop} 
    (h : Mq sx L K0 R0 159 [vR 106] M (fun rv M1 => rv = none ∧ (Rn sx L K0 R0 205 6 [vR 106, vI x1, vI x2] [] (mset (mset (mset M1 104 30 x1) 104 31 x2) 104 32 0) Q))) : Rn sx L K0 R0 205 5 [vR 106, vI x1, vI x2] [] M Q := by
  refine Rn_w (by decide) ?_
  show wpc sx L K0 R0 205 [(59, 1, .aload_n 0, []), (60, 3, .invokevirtual 292, [159, 1441, 0]), (63, 1, .aload_n 0, []), (64, 1, .iload_n 1, []), (65, 3, .putfield 208, [9, 30, 1184]), (68, 1, .aload_n 0, []), (69, 1, .iload_n 2, []), (70, 3, .putfield 262, [9, 31, 1185]), (73, 1, .aload_n 0, []), (74, 1, .iconst 0, []), (75, 3, .putfield 265, [9, 32, 1186])] 6 [vR 106, vI x1, vI x2] [] M Q
  simp only [w_al_0, w_ivv_0  cs0, mk_159, kin_T (ks_104), rk_159, rvk0, List.nil_append, w_il_1, w_pf_9_30, w_il_2, w_pf_9_31, w_iconst, w_pf_9_32, w_fall, true_and, and_true, true_or, or_true]
  exact h
theorem b_205_6 {sx : Int → Int} {L : Nat} {x1 : Int} {x2 : Int} {M : Mem} {Q : Option AV → Mem → Prop} 
    (h : ((21 : Int) ≤ M 104 32 → Rn sx L K0 R0 205 7 [vR 106, vI x1, vI x2] [] M Q) ∧ (¬ ((21 : Int) ≤ M 104 32) → Mq sx L K0 R0 201 [vR 106] M (fun rv M1 => ∃ r1, rv = some (vI r1) ∧ ((¬ r1 = (0 : Int) → Rn sx L K0 R0 205 7 [vR 106, vI x1, vI x2] [] M1 Q) ∧ (¬ (¬ r1 = (0 : Int)) → inR ((M1 104 32) + 1) ∧ (Rn sx L K0 R0 205 6 [vR 106, vI x1, vI x2] [] (mset M1 104 32 ((M1 104 32) + 1)) Q)))))) : Rn sx L K0 R0 205 6 [vR 106, vI x1, vI x2] [] M Q := by
  refine Rn_w (by decide) ?_
  show wpc sx L K0 R0 205 [(78, 1, .aload_n 0, []), (79, 3, .getfield 265, [9, 32, 1186]), (82, 2, .bipush 21, []), (84, 3, .if_icmp .ge 23, [7]), (87, 1, .aload_n 0, []), (88, 3, .invokevirtual 337, [201, 1612, 0]), (91, 3, .ifCond .ne 16, [7]), (94, 1, .aload_n 0, []), (95, 1, .dup, []), (96, 3, .getfield 265, [9, 32, 1186]), (99, 1, .iconst 1, []), (100, 1, .iadd, []), (101, 3, .putfield 265, [9, 32, 1186]), (104, 3, .goto (-26), [6])] 0 [vR 106, vI x1, vI x2] [] M Q
  simp only [w_al_0, w_gf_9_32, kin_T (ks_104), w_bipush, w_ic_ge, w_ivv_0  cs0, mk_201, rk_201, rvk1, List.cons_append, List.nil_append, w_if_ne, w_dup (c2R _), w_iconst, w_iadd, w_pf_9_32, w_goto, true_and, and_true, true_or, or_true]
  exact h
theorem b_205_7 {sx : Int → Int} {L : Nat} {x1 : Int} {x2 : Int} {M : Mem} {Q : Option AV → Mem → Prop} 
    (h : inR (((mset M 104 30 (-1)) 104 32) - 1) ∧ (Q (some (vI (((mset M 104 30 (-1)) 104 32) - 1))) (mset M 104 30 (-1)))) : Rn sx L K0 R0 205 7 [vR 106, vI x1, vI x2] [] M Q := by
  refine Rn_w (by decide) ?_
  show wpc sx L K0 R0 205 [(107, 1, .aload_n 0, []), (108, 1, .iconst (-1), []), (109, 3, .putfield 208, [9, 30, 1184]), (112, 1, .aload_n 0, []), (113, 3, .getfield 265, [9, 32, 1186]), (116, 1, .iconst 1, []), (117, 1, .isub, []), (118, 1, .ireturn, [])] 0 [vR 106, vI x1, vI x2] [] M Q
  simp only [w_al_0, w_iconst, w_pf_9_30, kin_T (ks_104), w_gf_9_32, w_isub, w_ret1 rk_205, true_and, and_true, true_or, or_true]
  exact h
theorem b_206_0 {sx : Int → Int} {L : Nat} {x1 : Int} {M : Mem} {Q : Option AV → Mem → Prop} 
    (h : Rn sx L K0 R0 206 1 [vR 106, vI x1, vI 0, vI 0] [] M Q) : Rn sx L K0 R0 206 0 [vR 106, vI x1, vU, vU] [] M Q := by
  refine Rn_w (by decide) ?_
  show wpc sx L K0 R0 206 [(0, 1, .iconst 0, []), (1, 1, .istore_n 2, []), (2, 1, .iconst 0, []), (3, 1, .istore_n 3, [])] 1 [vR 106, vI x1, vU, vU] [] M Q
  simp only [w_iconst, w_is_2 (c2I _), w_is_3 (c2I _), w_fall, true_and, and_true, true_or, or_true]
  exact h
theorem b_206_1 {sx : Int → Int} {L : Nat} {x1 : Int} {x2 : Int} {x3 : Int} {M : Mem} {Q : Option AV → Mem → Prop} 
    (h : ((8 : Int) ≤ x3 → Rn sx L K0 R0 206 4 [vR 106, vI x1, vI x2, vI x3] [] M Q) ∧ (¬ ((8 : Int) ≤ x3) → ((0 : Int) ≤ x1 ∧ (0 : Int) ≤ x3 ∧ x3 ≤ (30 : Int)) ∧ ((¬ iAnd (x1 / 2 ^ (x3).toNat) 1 = (1 : Int) → Rn sx L K0 R0 206 2 [vR 106, vI x1, vI x2, vI x3] [vI x2] M Q) ∧ (¬ (¬ iAnd (x1 / 2 ^ (x3).toNat) 1 = (1 : Int)) → ((0 : Int) ≤ x3 ∧ x3 < (8 : Int)) ∧ (Rn sx L K0 R0 206 3 [vR 106, vI x1, vI x2, vI x3] [vI (M 112 x3), vI x2] M Q))))) : Rn sx L K0 R0 206 1 [vR 106, vI x1, vI x2, vI x3] [] M Q := by
  refine Rn_w (by decide) ?_
  show wpc sx L K0 R0 206 [(4, 1, .iload_n 3, []), (5, 2, .bipush 8, []), (7, 3, .if_icmp .ge 31, [4]), (10, 1, .iload_n 2, []), (11, 1, .iload_n 1, []), (12, 1, .iload_n 3, []), (13, 1, .ishr, []), (14, 1, .iconst 1, []), (15, 1, .iand, []), (16, 1, .iconst 1, []), (17, 3, .if_icmp .ne 12, [2]), (20, 1, .aload_n 0, []), (21, 3, .getfield 31, [9, 8, 1162]), (24, 1, .iload_n 3, []), (25, 1, .iaload, []), (26, 3, .goto 4, [3])] 0 [vR 106, vI x1, vI x2, vI x3] [] M Q
  simp only [w_il_3, w_bipush, w_ic_ge, w_il_2, w_il_1, w_ishr, w_iconst, w_iand, w_ic_ne, w_al_0, w_gf_9_8, kin_T (ks_104), rs_104_8, w_iald, arr_T (ks_112), w_goto, true_and, and_true, true_or, or_true]
  exact h
theorem b_206_2 {sx : Int → Int} {L : Nat} {x1 : Int} {x2 : Int} {x3 : Int} {y0 : Int} {M : Mem} {Q : Option AV → Mem → Prop} 
    (h : Rn sx L K0 R0 206 3 [vR 106, vI x1, vI x2, vI x3] [vI 0, vI y0] M Q) : Rn sx L K0 R0 206 2 [vR 106, vI x1, vI x2, vI x3] [vI y0] M Q := by
  refine Rn_w (by decide) ?_
  show wpc sx L K0 R0 206 [(29, 1, .iconst 0, [])] 3 [vR 106, vI x1, vI x2, vI x3] [vI y0] M Q
  simp only [w_iconst, w_fall, true_and, and_true, true_or, or_true]
  exact h
theorem b_206_3 {sx : Int → Int} {L : Nat} {x1 : Int} {x2 : Int} {x3 : Int} {y0 : Int} {y1 : Int} {M : Mem} {Q : Option AV → Mem → Prop} 
    (h : inR (y0 + y1) ∧ (inR (x3 + 1) ∧ (Rn sx L K0 R0 206 1 [vR 106, vI x1, vI (y0 + y1), vI (x3 + 1)] [] M Q))) : Rn sx L K0 R0 206 3 [vR 106, vI x1, vI x2, vI x3] [vI y1, vI y0] M Q := by
  refine Rn_w (by decide) ?_
  show wpc sx L K0 R0 206 [(30, 1, .iadd, []), (31, 1, .istore_n 2, []), (32, 3, .iinc 3 1, []), (35, 3, .goto (-31), [1])] 0 [vR 106, vI x1, vI x2, vI x3] [vI y1, vI y0] M Q
  simp only [w_iadd, w_is_2 (c2I _), w_inc_3 (c2I _), w_goto, true_and, and_true, true_or, or_true]
  exact h
theorem b_206_4 {sx : Int → Int} {L : Nat} {x1 : Int} {x2 : Int} {x3 : Int} {M : Mem} {Q : Option AV → Mem → Prop} 
    (h : Q (some (vI x2)) M) : Rn sx L K0 R0 206 4 [vR 106, vI x1, vI x2, vI x3] [] M Q := by
  refine Rn_w (by decide) ?_
  show wpc sx L K0 R0 206 [(38, 1, .iload_n 2, []), (39, 1, .ireturn, [])] 0 [vR 106, vI x1, vI x2, vI x3] [] M Q
  simp only [w_il_2, w_ret1 rk_206, true_and, and_true, true_or, or_true]
  exact h
theorem b_207_0 {sx : Int → Int} {L : Nat} {x1 : Int} {M : Mem} {Q : Option AV → Mem → Prop} 
    (h : Mq sx L K0 R0 137 [vI x1, vI 0, vI 1] M (fun rv M1 => ∃ r1, rv = some (vI r1) ∧ ((¬ r1 = (0 : Int) → Rn sx L K0 R0 207 1 [vR 106, vI x1, vU, vU, vU, vU, vU] [] M1 Q) ∧ (¬ (¬ r1 = (0 : Int)) → Q (some (vI (-2))) M1)))) : Rn sx L K0 R0 207 0 [vR 106, vI x1, vU, vU, vU, vU, vU] [] M Q := by
  refine Rn_w (by decide) ?_
  show wpc sx L K0 R0 207 [(0, 1, .iload_n 1, []), (1, 1, .iconst 0, []), (2, 1, .iconst 1, []), (3, 3, .invokestatic 135, [137, 1355, 3]), (6, 3, .ifCond .ne 6, [1]), (9, 2, .bipush (-2), []), (11, 1, .ireturn, [])] 0 [vR 106, vI x1, vU, vU, vU, vU, vU] [] M Q
  simp only [w_il_1, w_iconst, w_ivs_3 (c2I _) (c2I _) (c2I _) cs0, rk_137, rvk2, List.cons_append, List.nil_append, w_if_ne, w_bipush, w_ret1 rk_207, true_and, and_true, true_or, or_true]
  exact h
theorem b_207_1 {sx : Int → Int} {L : Nat} {x1 : Int} {M : Mem} {Q : Option AV → Mem → Prop} 
    (h : Mq sx L K0 R0 154 [vR 106] M (fun rv M1 => ∃ r1, rv = some (vI r1) ∧ (Rn sx L K0 R0 207 2 [vR 106, vI x1, vI r1, vI r1, vI 0, vI 1, vU] [] M1 Q))) : Rn sx L K0 R0 207 1 [vR 106, vI x1, vU, vU, vU, vU, vU] [] M Q := by
  refine Rn_w (by decide) ?_
  show wpc sx L K0 R0 207 [(12, 1, .aload_n 0, []), (13, 3, .invokevirtual 196, [154, 1417, 0]), (16, 1, .istore_n 2, []), (17, 1, .iload_n 2, []), (18, 1, .istore_n 3, []), (19, 1, .iconst 0, []), (20, 2, .istore 4, []), (22, 1, .iconst 1, []), (23, 2, .istore 5, [])] 2 [vR 106, vI x1, vU, vU, vU, vU, vU] [] M Q
  simp only [w_al_0, w_ivv_0  cs0, mk_154, kin_T (ks_104), rk_154, rvk1, List.cons_append, List.nil_append, w_is_2 (c2I _), w_il_2, w_is_3 (c2I _), w_iconst, w_is_4 (c2I _), w_is_5 (c2I _), w_fall, true_and, and_true, true_or, or_true]
  exact h
set_option maxRecDepth 8192 in
theorem b_207_2 {sx : Int → Int} {L : Nat} {x1 : Int} {x2 : Int} {x3 : Int} {x4 : Int} {x5 : Int} {u6 : AV} {M : Mem} {Q : Option AV → Mem → Prop} (hu6 : cat2 u6 = false)
    (h : (x5 = (0 : Int) → Rn sx L K0 R0 207 12 [vR 106, vI x1, vI x2, vI x3, vI x4, vI x5, u6] [] M Q) ∧ (¬ (x5 = (0 : Int)) → Mq sx L K0 R0 206 [vR 106, vI (iAnd x2 (iXor x4 (-1)))] M (fun rv M1 => ∃ r1, rv = some (vI r1) ∧ (Mq sx L K0 R0 206 [vR 106, vI (iAnd x2 (iXor x3 (-1)))] M1 (fun rv M2 => ∃ r2, rv = some (vI r2) ∧ (inR (r1 - r2) ∧ ((¬ r1 - r2 = (0 : Int) → Rn sx L K0 R0 207 3 [vR 106, vI x1, vI x2, vI x3, vI x4, vI x5, vI (r1 - r2)] [] M2 Q) ∧ (¬ (¬ r1 - r2 = (0 : Int)) → Mq sx L K0 R0 138 [vI x3] M2 (fun rv M3 => ∃ r3, rv = some (vI r3) ∧ (Mq sx L K0 R0 138 [vI x4] M3 (fun rv M4 => ∃ r4, rv = some (vI r4) ∧ (inR (r3 - r4) ∧ (Rn sx L K0 R0 207 4 [vR 106, vI x1, vI x2, vI x3, vI x4, vI x5, vI (r1 - r2)] [vI (r3 - r4)] M4 Q))))))))))))) : Rn sx L K0 R0 207 2 [vR 106, vI x1, vI x2, vI x3, vI x4, vI x5, u6] [] M Q := by
  refine Rn_w (by decide) ?_
  show wpc sx L K0 R0 207 [(25, 2, .iload 5, []), (27, 3, .ifCond .eq 119, [12]), (30, 1, .aload_n 0, []), (31, 1, .iload_n 2, []), (32, 2, .iload 4, []), (34, 1, .iconst (-1), []), (35, 1, .ixor, []), (36, 1, .iand, []), (37, 3, .invokevirtual 349, [206, 1628, 1]), (40, 1, .aload_n 0, []), (41, 1, .iload_n 2, []), (42, 1, .iload_n 3, []), (43, 1, .iconst (-1), []), (44, 1, .ixor, []), (45, 1, .iand, []), (46, 3, .invokevirtual 349, [206, 1628, 1]), (49, 1, .isub, []), (50, 2, .istore 6, []), (52, 2, .iload 6, []), (54, 3, .ifCond .ne 16, [3]), (57, 1, .iload_n 3, []), (58, 3, .invokestatic 343, [138, 1605, 1]), (61, 2, .iload 4, []), (63, 3, .invokestatic 343, [138, 1605, 1]), (66, 1, .isub, []), (67, 3, .goto 5, [4])] 0 [vR 106, vI x1, vI x2, vI x3, vI x4, vI x5, u6] [] M Q
  simp only [w_il_5, w_if_eq, w_al_0, w_il_2, w_il_4, w_iconst, w_ixor, w_iand, w_ivv_1 (c2I _) cs0, mk_206, kin_T (ks_104), rk_206, rvk1, List.cons_append, List.nil_append, w_il_3, w_ivv_1 (c2I _) (cs1 _), w_isub, w_is_6 (c2I _), w_il_6, w_if_ne, w_ivs_1 (c2I _) cs0, rk_138, w_ivs_1 (c2I _) (cs1 _), w_goto, true_and, and_true, true_or, or_true]
  exact h
theorem b_207_3 {sx : Int → Int} {L : Nat} {x1 : Int} {x2 : Int} {x3 : Int} {x4 : Int} {x5 : Int} {x6 : Int} {M : Mem} {Q : Option AV → Mem → Prop} 
    (h : Rn sx L K0 R0 207 4 [vR 106, vI x1, vI x2, vI x3, vI x4, vI x5, vI x6] [vI x6] M Q) : Rn sx L K0 R0 207 3 [vR 106, vI x1, vI x2, vI x3, vI x4, vI x5, vI x6] [] M Q := by
  refine Rn_w (by decide) ?_
  show wpc sx L K0 R0 207 [(70, 2, .iload 6, [])] 4 [vR 106, vI x1, vI x2, vI x3, vI x4, vI x5, vI x6] [] M Q
  simp only [w_il_6, w_fall, true_and, and_true, true_or, or_true]
  exact h
theorem b_207_4 {sx : Int → Int} {L : Nat} {x1 : Int} {x2 : Int} {x3 : Int} {x4 : Int} {x5 : Int} {x6 : Int} {y0 : Int} {M : Mem} {Q : Option AV → Mem → Prop} 
    (h : (¬ y0 = (0 : Int) → Rn sx L K0 R0 207 5 [vR 106, vI x1, vI x2, vI x3, vI x4, vI x5, vI y0] [] M Q) ∧ (¬ (¬ y0 = (0 : Int)) → inR (x3 - x4) ∧ (Rn sx L K0 R0 207 6 [vR 106, vI x1, vI x2, vI x3, vI x4, vI x5, vI y0] [vI (x3 - x4)] M Q))) : Rn sx L K0 R0 207 4 [vR 106, vI x1, vI x2, vI x3, vI x4, vI x5, vI x6] [vI y0] M Q := by
  refine Rn_w (by decide) ?_
  show wpc sx L K0 R0 207 [(72, 2, .istore 6, []), (74, 2, .iload 6, []), (76, 3, .ifCond .ne 10, [5]), (79, 1, .iload_n 3, []), (80, 2, .iload 4, []), (82, 1, .isub, []), (83, 3, .goto 5, [6])] 0 [vR 106, vI x1, vI x2, vI x3, vI x4, vI x5, vI x6] [vI y0] M Q
  simp only [w_is_6 (c2I _), w_il_6, w_if_ne, w_il_3, w_il_4, w_isub, w_goto, true_and, and_true, true_or, or_true]
  exact h
theorem b_207_5 {sx : Int → Int} {L : Nat} {x1 : Int} {x2 : Int} {x3 : Int} {x4 : Int} {x5 : Int} {x6 : Int} {M : Mem} {Q : Option AV → Mem → Prop} 
    (h : Rn sx L K0 R0 207 6 [vR 106, vI x1, vI x2, vI x3, vI x4, vI x5, vI x6] [vI x6] M Q) : Rn sx L K0 R0 207 5 [vR 106, vI x1, vI x2, vI x3, vI x4, vI x5, vI x6] [] M Q := by
  refine Rn_w (by decide) ?_
  show wpc sx L K0 R0 207 [(86, 2, .iload 6, [])] 6 [vR 106, vI x1, vI x2, vI x3, vI x4, vI x5, vI x6] [] M Q
  simp only [w_il_6, w_fall, true_and, and_true, true_or, or_true]
  exact h
theorem b_207_6 {sx : Int → Int} {L : Nat} {x1 : Int} {x2 : Int} {x3 : Int} {x4 : Int} {x5 : Int} {x6 : Int} {y0 : Int} {M : Mem} {Q : Option AV → Mem → Prop} 
    (h : (y0 ≤ (0 : Int) → Rn sx L K0 R0 207 9 [vR 106, vI x1, vI x2, vI x3, vI x4, vI x5, vI y0] [] M Q) ∧ (¬ (y0 ≤ (0 : Int)) → Mq sx L K0 R0 159 [vR 106] M (fun rv M1 => rv = none ∧ (Mq sx L K0 R0 201 [vR 106] (mset M1 104 27 (iAnd x2 (iXor x4 (-1)))) (fun rv M2 => ∃ r1, rv = some (vI r1) ∧ ((¬ r1 = (0 : Int) → Rn sx L K0 R0 207 7 [vR 106, vI x1, vI x2, vI x3, vI x4, vI x5, vI y0] [] M2 Q) ∧ (¬ (¬ r1 = (0 : Int)) → Rn sx L K0 R0 207 8 [vR 106, vI x1, vI x2, vI x3, vI x4, vI x5, vI y0] [vI x4] M2 Q))))))) : Rn sx L K0 R0 207 6 [vR 106, vI x1, vI x2, vI x3, vI x4, vI x5, vI x6] [vI y0] M Q := by
  refine Rn_w (by decide) ?_
  show wpc sx L K0 R0 207 [(88, 2, .istore 6, []), (90, 2, .iload 6, []), (92, 3, .ifCond .le 31, [9]), (95, 1, .aload_n 0, []), (96, 3, .invokevirtual 292, [159, 1441, 0]), (99, 1, .aload_n 0, []), (100, 1, .iload_n 2, []), (101, 2, .iload 4, []), (103, 1, .iconst (-1), []), (104, 1, .ixor, []), (105, 1, .iand, []), (106, 3, .putfield 205, [9, 27, 1181]), (109, 1, .aload_n 0, []), (110, 3, .invokevirtual 337, [201, 1612, 0]), (113, 3, .ifCond .ne 8, [7]), (116, 2, .iload 4, []), (118, 3, .goto 4, [8])] 0 [vR 106, vI x1, vI x2, vI x3, vI x4, vI x5, vI x6] [vI y0] M Q
  simp only [w_is_6 (c2I _), w_il_6, w_if_le, w_al_0, w_ivv_0  cs0, mk_159, kin_T (ks_104), rk_159, rvk0, List.nil_append, w_il_2, w_il_4, w_iconst, w_ixor, w_iand, w_pf_9_27, mk_201, rk_201, rvk1, List.cons_append, w_if_ne, w_goto, true_and, and_true, true_or, or_true]
  exact h
theorem b_207_7 {sx : Int → Int} {L : Nat} {x1 : Int} {x2 : Int} {x3 : Int} {x4 : Int} {x5 : Int} {x6 : Int} {M : Mem} {Q : Option AV → Mem → Prop} 
    (h : Rn sx L K0 R0 207 8 [vR 106, vI x1, vI x2, vI x3, vI x4, vI x5, vI x6] [vI x3] M Q) : Rn sx L K0 R0 207 7 [vR 106, vI x1, vI x2, vI x3, vI x4, vI x5, vI x6] [] M Q := by
  refine Rn_w (by decide) ?_
  show wpc sx L K0 R0 207 [(121, 1, .iload_n 3, [])] 8 [vR 106, vI x1, vI x2, vI x3, vI x4, vI x5, vI x6] [] M Q
  simp only [w_il_3, w_fall, true_and, and_true, true_or, or_true]
  exact h
theorem b_207_8 {sx : Int → Int} {L : Nat} {x1 : Int} {x2 : Int} {x3 : Int} {x4 : Int} {x5 : Int} {x6 : Int} {y0 : Int} {M : Mem} {Q : Option AV → Mem → Prop} 
    (h : Rn sx L K0 R0 207 9 [vR 106, vI x1, vI x2, vI y0, vI x4, vI x5, vI x6] [] M Q) : Rn sx L K0 R0 207 8 [vR 106, vI x1, vI x2, vI x3, vI x4, vI x5, vI x6] [vI y0] M Q := by
  refine Rn_w (by decide) ?_
  show wpc sx L K0 R0 207 [(122, 1, .istore_n 3, [])] 9 [vR 106, vI x1, vI x2, vI x3, vI x4, vI x5, vI x6] [vI y0] M Q
  simp only [w_is_3 (c2I _), w_fall, true_and, and_true, true_or, or_true]
  exact h
theorem b_207_9 {sx : Int → Int} {L : Nat} {x1 : Int} {x2 : Int} {x3 : Int} {x4 : Int} {x5 : Int} {x6 : Int} {M : Mem} {Q : Option AV → Mem → Prop} 
    (h : inR (x4 - x2) ∧ ((iAnd (x4 - x2) x2 = (0 : Int) → Rn sx L K0 R0 207 10 [vR 106, vI x1, vI x2, vI x3, vI (iAnd (x4 - x2) x2), vI x5, vI x6] [] M Q) ∧ (¬ (iAnd (x4 - x2) x2 = (0 : Int)) → Rn sx L K0 R0 207 11 [vR 106, vI x1, vI x2, vI x3, vI (iAnd (x4 - x2) x2), vI x5, vI x6] [vI 1] M Q))) : Rn sx L K0 R0 207 9 [vR 106, vI x1, vI x2, vI x3, vI x4, vI x5, vI x6] [] M Q := by
  refine Rn_w (by decide) ?_
  show wpc sx L K0 R0 207 [(123, 2, .iload 4, []), (125, 1, .iload_n 2, []), (126, 1, .isub, []), (127, 1, .iload_n 2, []), (128, 1, .iand, []), (129, 2, .istore 4, []), (131, 2, .iload 4, []), (133, 3, .ifCond .eq 7, [10]), (136, 1, .iconst 1, []), (137, 3, .goto 4, [11])] 0 [vR 106, vI x1, vI x2, vI x3, vI x4, vI x5, vI x6] [] M Q
  simp only [w_il_4, w_il_2, w_isub, w_iand, w_is_4 (c2I _), w_if_eq, w_iconst, w_goto, true_and, and_true, true_or, or_true]
  exact h
theorem b_207_10 {sx : Int → Int} {L : Nat} {x1 : Int} {x2 : Int} {x3 : Int} {x4 : Int} {x5 : Int} {x6 : Int} {M : Mem} {Q : Option AV → Mem → Prop} 
    (h : Rn sx L K0 R0 207 11 [vR 106, vI x1, vI x2, vI x3, vI x4, vI x5, vI x6] [vI 0] M Q) : Rn sx L K0 R0 207 10 [vR 106, vI x1, vI x2, vI x3, vI x4, vI x5, vI x6] [] M Q := by
  refine Rn_w (by decide) ?_
  show wpc sx L K0 R0 207 [(140, 1, .iconst 0, [])] 11 [vR 106, vI x1, vI x2, vI x3, vI x4, vI x5, vI x6] [] M Q
  simp only [w_iconst, w_fall, true_and, and_true, true_or, or_true]
  exact h
theorem b_207_11 {sx : Int → Int} {L : Nat} {x1 : Int} {x2 : Int} {x3 : Int} {x4 : Int} {x5 : Int} {x6 : Int} {y0 : Int} {M : Mem} {Q : Option AV → Mem → Prop} 
    (h : Rn sx L K0 R0 207 2 [vR 106, vI x1, vI x2, vI x3, vI x4, vI y0, vI x6] [] M Q) : Rn sx L K0 R0 207 11 [vR 106, vI x1, vI x2, vI x3, vI x4, vI x5, vI x6] [vI y0] M Q := by
  refine Rn_w (by decide) ?_
  show wpc sx L K0 R0 207 [(141, 2, .istore 5, []), (143, 3, .goto (-118), [2])] 0 [vR 106, vI x1, vI x2, vI x3, vI x4, vI x5, vI x6] [vI y0] M Q
  simp only [w_is_5 (c2I _), w_goto, true_and, and_true, true_or, or_true]
  exact h
theorem b_207_12 {sx : Int → Int} {L : Nat} {x1 : Int} {x2 : Int} {x3 : Int} {x4 : Int} {x5 : Int} {u6 : AV} {M : Mem} {Q : Option AV → Mem → Prop} (hu6 : cat2 u6 = false)
    (h : (¬ x1 = (0 : Int) → Rn sx L K0 R0 207 13 [vR 106, vI x1, vI x2, vI x3, vI x4, vI x5, u6] [] M Q) ∧ (¬ (¬ x1 = (0 : Int)) → Rn sx L K0 R0 207 14 [vR 106, vI x1, vI x2, vI x3, vI x4, vI x5, u6] [vI x3] M Q)) : Rn sx L K0 R0 207 12 [vR 106, vI x1, vI x2, vI x3, vI x4, vI x5, u6] [] M Q := by
  refine Rn_w (by decide) ?_
  show wpc sx L K0 R0 207 [(146, 1, .iload_n 1, []), (147, 3, .ifCond .ne 7, [13]), (150, 1, .iload_n 3, []), (151, 3, .goto 12, [14])] 0 [vR 106, vI x1, vI x2, vI x3, vI x4, vI x5, u6] [] M Q
  simp only [w_il_1, w_if_ne, w_il_3, w_goto, true_and, and_true, true_or, or_true]
  exact h
theorem b_207_13 {sx : Int → Int} {L : Nat} {x1 : Int} {x2 : Int} {x3 : Int} {x4 : Int} {x5 : Int} {u6 : AV} {M : Mem} {Q : Option AV → Mem → Prop} (hu6 : cat2 u6 = false)
    (h : Mq sx L K0 R0 206 [vR 106, vI (iAnd x2 (iXor x3 (-1)))] M (fun rv M1 => ∃ r1, rv = some (vI r1) ∧ (Rn sx L K0 R0 207 14 [vR 106, vI x1, vI x2, vI x3, vI x4, vI x5, u6] [vI r1] M1 Q))) : Rn sx L K0 R0 207 13 [vR 106, vI x1, vI x2, vI x3, vI x4, vI x5, u6] [] M Q := by
  refine Rn_w (by decide) ?_
  show wpc sx L K0 R0 207 [(154, 1, .aload_n 0, []), (155, 1, .iload_n 2, []), (156, 1, .iload_n 3, []), (157, 1, .iconst (-1), []), (158, 1, .ixor, []), (159, 1, .iand, []), (160, 3, .invokevirtual 349, [206, 1628, 1])] 14 [vR 106, vI x1, vI x2, vI x3, vI x4, vI x5, u6] [] M Q
  simp only [w_al_0, w_il_2, w_il_3, w_iconst, w_ixor, w_iand, w_ivv_1 (c2I _) cs0, mk_206, kin_T (ks_104), rk_206, rvk1, List.cons_append, List.nil_append, w_fall, true_and, and_true, true_or, or_true]
  exact h
theorem b_207_14 {sx : Int → Int} {L : Nat} {x1 : Int} {x2 : Int} {x3 : Int} {x4 : Int} {x5 : Int} {u6 : AV} {y0 : Int} {M : Mem} {Q : Option AV → Mem → Prop} (hu6 : cat2 u6 = false)
    (h : Q (some (vI y0)) M) : Rn sx L K0 R0 207 14 [vR 106, vI x1, vI x2, vI x3, vI x4, vI x5, u6] [vI y0] M Q := by
  refine Rn_w (by decide) ?_
  show wpc sx L K0 R0 207 [(163, 1, .ireturn, [])] 0 [vR 106, vI x1, vI x2, vI x3, vI x4, vI x5, u6] [vI y0] M Q
  simp only [w_ret1 rk_207, true_and, and_true, true_or, or_true]
  exact h
theorem b_208_0 {sx : Int → Int} {L : Nat} {x1 : Int} {x2 : Int} {x3 : Int} {M : Mem} {Q : Option AV → Mem → Prop} 
    (h : Mq sx L K0 R0 142 [vI x1] M (fun rv M1 => ∃ r1, rv = some (vI r1) ∧ ((r1 = (0 : Int) → Rn sx L K0 R0 208 1 [vR 106, vI x1, vI x2, vI x3, vU, vU, vU, vU, vU, vU, vU] [] M1 Q) ∧ (¬ (r1 = (0 : Int)) → Mq sx L K0 R0 137 [vI x2, vI 1, vI 3] M1 (fun rv M2 => ∃ r2, rv = some (vI r2) ∧ ((r2 = (0 : Int) → Rn sx L K0 R0 208 1 [vR 106, vI x1, vI x2, vI x3, vU, vU, vU, vU, vU, vU, vU] [] M2 Q) ∧ (¬ (r2 = (0 : Int)) → Mq sx L K0 R0 137 [vI x3, vI 0, vI 1] M2 (fun rv M3 => ∃ r3, rv = some (vI r3) ∧ ((¬ r3 = (0 : Int) → Rn sx L K0 R0 208 2 [vR 106, vI x1, vI x2, vI x3, vU, vU, vU, vU, vU, vU, vU] [] M3 Q) ∧ (¬ (¬ r3 = (0 : Int)) → Rn sx L K0 R0 208 1 [vR 106, vI x1, vI x2, vI x3, vU, vU, vU, vU, vU, vU, vU] [] M3 Q)))))))))) : Rn sx L K0 R0 208 0 [vR 106, vI x1, vI x2, vI x3, vU, vU, vU, vU, vU, vU, vU] [] M Q := by
  refine Rn_w (by decide) ?_
  show wpc sx L K0 R0 208 [(0, 1, .iload_n 1, []), (1, 3, .invokestatic 152, [142, 1370, 1]), (4, 3, .ifCond .eq 21, [1]), (7, 1, .iload_n 2, []), (8, 1, .iconst 1, []), (9, 1, .iconst 3, []), (10, 3, .invokestatic 135, [137, 1355, 3]), (13, 3, .ifCond .eq 12, [1]), (16, 1, .iload_n 3, []), (17, 1, .iconst 0, []), (18, 1, .iconst 1, []), (19, 3, .invokestatic 135, [137, 1355, 3]), (22, 3, .ifCond .ne 6, [2])] 1 [vR 106, vI x1, vI x2, vI x3, vU, vU, vU, vU, vU, vU, vU] [] M Q
  simp only [w_il_1, w_ivs_1 (c2I _) cs0, rk_142, rvk2, List.cons_append, List.nil_append, w_if_eq, w_il_2, w_iconst, w_ivs_3 (c2I _) (c2I _) (c2I _) cs0, rk_137, w_il_3, w_if_ne, w_fall, true_and, and_true, true_or, or_true]
  exact h
theorem b_208_1 {sx : Int → Int} {L : Nat} {x1 : Int} {x2 : Int} {x3 : Int} {M : Mem} {Q : Option AV → Mem → Prop} 
    (h : Q (some (vI (-2))) M) : Rn sx L K0 R0 208 1 [vR 106, vI x1, vI x2, vI x3, vU, vU, vU, vU, vU, vU, vU] [] M Q := by
  refine Rn_w (by decide) ?_
  show wpc sx L K0 R0 208 [(25, 2, .bipush (-2), []), (27, 1, .ireturn, [])] 0 [vR 106, vI x1, vI x2, vI x3, vU, vU, vU, vU, vU, vU, vU] [] M Q
  simp only [w_bipush, w_ret1 rk_208, true_and, and_true, true_or, or_true]
  exact h
theorem b_208_2 {sx : Int → Int} {L : Nat} {x1 : Int} {x2 : Int} {x3 : Int} {M : Mem} {Q : Option AV → Mem → Prop} 
    (h : Mq sx L K0 R0 154 [vR 106] M (fun rv M1 => ∃ r1, rv = some (vI r1) ∧ (Mq sx L K0 R0 138 [vI r1] M1 (fun rv M2 => ∃ r2, rv = some (vI r2) ∧ ((r2 ≤ (4 : Int) → Rn sx L K0 R0 208 3 [vR 106, vI x1, vI x2, vI x3, vI r1, vU, vU, vU, vU, vU, vU] [] M2 Q) ∧ (¬ (r2 ≤ (4 : Int)) → Q (some (vI (-4))) M2)))))) : Rn sx L K0 R0 208 2 [vR 106, vI x1, vI x2, vI x3, vU, vU, vU, vU, vU, vU, vU] [] M Q := by
  refine Rn_w (by decide) ?_
  show wpc sx L K0 R0 208 [(28, 1, .aload_n 0, []), (29, 3, .invokevirtual 196, [154, 1417, 0]), (32, 2, .istore 4, []), (34, 2, .iload 4, []), (36, 3, .invokestatic 343, [138, 1605, 1]), (39, 1, .iconst 4, []), (40, 3, .if_icmp .le 6, [3]), (43, 2, .bipush (-4), []), (45, 1, .ireturn, [])] 0 [vR 106, vI x1, vI x2, vI x3, vU, vU, vU, vU, vU, vU, vU] [] M Q
  simp only [w_al_0, w_ivv_0  cs0, mk_154, kin_T (ks_104), rk_154, rvk1, List.cons_append, List.nil_append, w_is_4 (c2I _), w_il_4, w_ivs_1 (c2I _) cs0, rk_138, w_iconst, w_ic_le, w_bipush, w_ret1 rk_208, true_and, and_true, true_or, or_true]
  exact h
theorem b_208_3 {sx : Int → Int} {L : Nat} {x1 : Int} {x2 : Int} {x3 : Int} {x4 : Int} {M : Mem} {Q : Option AV → Mem → Prop} 
    (h : Rn sx L K0 R0 208 4 [vR 106, vI x1, vI x2, vI x3, vI x4, vI 1, vI 0, vU, vU, vU, vU] [] M Q) : Rn sx L K0 R0 208 3 [vR 106, vI x1, vI x2, vI x3, vI x4, vU, vU, vU, vU, vU, vU] [] M Q := by
  refine Rn_w (by decide) ?_
  show wpc sx L K0 R0 208 [(46, 1, .iconst 1, []), (47, 2, .istore 5, []), (49, 1, .iconst 0, []), (50, 2, .istore 6, [])] 4 [vR 106, vI x1, vI x2, vI x3, vI x4, vU, vU, vU, vU, vU, vU] [] M Q
  simp only [w_iconst, w_is_5 (c2I _), w_is_6 (c2I _), w_fall, true_and, and_true, true_or, or_true]
  exact h
theorem b_208_4 {sx : Int → Int} {L : Nat} {x1 : Int} {x2 : Int} {x3 : Int} {x4 : Int} {x5 : Int} {x6 : Int} {M : Mem} {Q : Option AV → Mem → Prop} 
    (h : Mq sx L K0 R0 138 [vI x4] M (fun rv M1 => ∃ r1, rv = some (vI r1) ∧ ((r1 ≤ x6 → Rn sx L K0 R0 208 5 [vR 106, vI x1, vI x2, vI x3, vI x4, vI x5, vI x6, vU, vU, vU, vU] [] M1 Q) ∧ (¬ (r1 ≤ x6) → inR (x2 + 1) ∧ (inR (x5 * (x2 + 1)) ∧ (inR (x6 + 1) ∧ (Rn sx L K0 R0 208 4 [vR 106, vI x1, vI x2, vI x3, vI x4, vI (x5 * (x2 + 1)), vI (x6 + 1), vU, vU, vU, vU] [] M1 Q))))))) : Rn sx L K0 R0 208 4 [vR 106, vI x1, vI x2, vI x3, vI x4, vI x5, vI x6, vU, vU, vU, vU] [] M Q := by
  refine Rn_w (by decide) ?_
  show wpc sx L K0 R0 208 [(52, 2, .iload 6, []), (54, 2, .iload 4, []), (56, 3, .invokestatic 343, [138, 1605, 1]), (59, 3, .if_icmp .ge 17, [5]), (62, 2, .iload 5, []), (64, 1, .iload_n 2, []), (65, 1, .iconst 1, []), (66, 1, .iadd, []), (67, 1, .imul, []), (68, 2, .istore 5, []), (70, 3, .iinc 6 1, []), (73, 3, .goto (-21), [4])] 0 [vR 106, vI x1, vI x2, vI x3, vI x4, vI x5, vI x6, vU, vU, vU, vU] [] M Q
  simp only [w_il_6, w_il_4, w_ivs_1 (c2I _) (cs1 _), rk_138, rvk1, List.cons_append, List.nil_append, w_ic_ge, w_il_5, w_il_2, w_iconst, w_iadd, w_imul, w_is_5 (c2I _), w_inc_6 (c2I _), w_goto, true_and, and_true, true_or, or_true]
  exact h
theorem b_208_5 {sx : Int → Int} {L : Nat} {x1 : Int} {x2 : Int} {x3 : Int} {x4 : Int} {x5 : Int} {x6 : Int} {M : Mem} {Q : Option AV → Mem → Prop} 
    (h : Mq sx L K0 R0 159 [vR 106] M (fun rv M1 => rv = none ∧ (Rn sx L K0 R0 208 6 [vR 106, vI x1, vI x2, vI x3, vI x4, vI x5, vI (-1), vI 0, vI 0, vU, vU] [] M1 Q))) : Rn sx L K0 R0 208 5 [vR 106, vI x1, vI x2, vI x3, vI x4, vI x5, vI x6, vU, vU, vU, vU] [] M Q := by
  refine Rn_w (by decide) ?_
  show wpc sx L K0 R0 208 [(76, 1, .iconst (-1), []), (77, 2, .istore 6, []), (79, 1, .iconst 0, []), (80, 2, .istore 7, []), (82, 1, .aload_n 0, []), (83, 3, .invokevirtual 292, [159, 1441, 0]), (86, 1, .iconst 0, []), (87, 2, .istore 8, [])] 6 [vR 106, vI x1, vI x2, vI x3, vI x4, vI x5, vI x6, vU, vU, vU, vU] [] M Q
  simp only [w_iconst, w_is_6 (c2I _), w_is_7 (c2I _), w_al_0, w_ivv_0  cs0, mk_159, kin_T (ks_104), rk_159, rvk0, List.nil_append, w_is_8 (c2I _), w_fall, true_and, and_true, true_or, or_true]
  exact h
theorem b_208_6 {sx : Int → Int} {L : Nat} {x1 : Int} {x2 : Int} {x3 : Int} {x4 : Int} {x5 : Int} {x6 : Int} {x7 : Int} {x8 : Int} {u9 : AV} {u10 : AV} {M : Mem} {Q : Option AV → Mem → Prop} (hu9 : cat2 u9 = false) (hu10 : cat2 u10 = false)
    (h : (x5 ≤ x8 → Rn sx L K0 R0 208 17 [vR 106, vI x1, vI x2, vI x3, vI x4, vI x5, vI x6, vI x7, vI x8, u9, u10] [] M Q) ∧ (¬ (x5 ≤ x8) → Rn sx L K0 R0 208 7 [vR 106, vI x1, vI x2, vI x3, vI x4, vI x5, vI x6, vI x7, vI x8, vI x8, vI 0] [] M Q)) : Rn sx L K0 R0 208 6 [vR 106, vI x1, vI x2, vI x3, vI x4, vI x5, vI x6, vI x7, vI x8, u9, u10] [] M Q := by
  refine Rn_w (by decide) ?_
  show wpc sx L K0 R0 208 [(89, 2, .iload 8, []), (91, 2, .iload 5, []), (93, 3, .if_icmp .ge 121, [17]), (96, 2, .iload 8, []), (98, 2, .istore 9, []), (100, 1, .iconst 0, []), (101, 2, .istore 10, [])] 7 [vR 106, vI x1, vI x2, vI x3, vI x4, vI x5, vI x6, vI x7, vI x8, u9, u10] [] M Q
  simp only [w_il_8, w_il_5, w_ic_ge, w_is_9 (c2I _), w_iconst, w_is_10 (c2I _), w_fall, true_and, and_true, true_or, or_true]
  exact h
theorem b_208_7 {sx : Int → Int} {L : Nat} {x1 : Int} {x2 : Int} {x3 : Int} {x4 : Int} {x5 : Int} {x6 : Int} {x7 : Int} {x8 : Int} {x9 : Int} {x10 : Int} {M : Mem} {Q : Option AV → Mem → Prop} 
    (h : ((8 : Int) ≤ x10 → Rn sx L K0 R0 208 12 [vR 106, vI x1, vI x2, vI x3, vI x4, vI x5, vI x6, vI x7, vI x8, vI x9, vI x10] [] M Q) ∧ (¬ ((8 : Int) ≤ x10) → ((0 : Int) ≤ x4 ∧ (0 : Int) ≤ x10 ∧ x10 ≤ (30 : Int)) ∧ ((¬ iAnd (x4 / 2 ^ (x10).toNat) 1 = (1 : Int) → Rn sx L K0 R0 208 8 [vR 106, vI x1, vI x2, vI x3, vI x4, vI x5, vI x6, vI x7, vI x8, vI x9, vI x10] [vI x10, vR 124] M Q) ∧ (¬ (¬ iAnd (x4 / 2 ^ (x10).toNat) 1 = (1 : Int)) → inR (x2 + 1) ∧ (((0 : Int) ≤ x9 ∧ (0 : Int) < x2 + 1) ∧ (Rn sx L K0 R0 208 9 [vR 106, vI x1, vI x2, vI x3, vI x4, vI x5, vI x6, vI x7, vI x8, vI x9, vI x10] [vI (x9 % (x2 + 1)), vI x10, vR 124] M Q)))))) : Rn sx L K0 R0 208 7 [vR 106, vI x1, vI x2, vI x3, vI x4, vI x5, vI x6, vI x7, vI x8, vI x9, vI x10] [] M Q := by
  refine Rn_w (by decide) ?_
  show wpc sx L K0 R0 208 [(103, 2, .iload 10, []), (105, 2, .bipush 8, []), (107, 3, .if_icmp .ge 61, [12]), (110, 1, .aload_n 0, []), (111, 3, .getfield 68, [9, 29, 1183]), (114, 2, .iload 10, []), (116, 2, .iload 4, []), (118, 2, .iload 10, []), (120, 1, .ishr, []), (121, 1, .iconst 1, []), (122, 1, .iand, []), (123, 1, .iconst 1, []), (124, 3, .if_icmp .ne 12, [8]), (127, 2, .iload 9, []), (129, 1, .iload_n 2, []), (130, 1, .iconst 1, []), (131, 1, .iadd, []), (132, 1, .irem, []), (133, 3, .goto 4, [9])] 0 [vR 106, vI x1, vI x2, vI x3, vI x4, vI x5, vI x6, vI x7, vI x8, vI x9, vI x10] [] M Q
  simp only [w_il_10, w_bipush, w_ic_ge, w_al_0, w_gf_9_29, kin_T (ks_104), rs_104_29, w_il_4, w_ishr, w_iconst, w_iand, w_ic_ne, w_il_9, w_il_2, w_iadd, w_irem, w_goto, true_and, and_true, true_or, or_true]
  exact h
theorem b_208_8 {sx : Int → Int} {L : Nat} {x1 : Int} {x2 : Int} {x3 : Int} {x4 : Int} {x5 : Int} {x6 : Int} {x7 : Int} {x8 : Int} {x9 : Int} {x10 : Int} {y1 : Int} {M : Mem} {Q : Option AV → Mem → Prop} 
    (h : Rn sx L K0 R0 208 9 [vR 106, vI x1, vI x2, vI x3, vI x4, vI x5, vI x6, vI x7, vI x8, vI x9, vI x10] [vI 0, vI y1, vR 124] M Q) : Rn sx L K0 R0 208 8 [vR 106, vI x1, vI x2, vI x3, vI x4, vI x5, vI x6, vI x7, vI x8, vI x9, vI x10] [vI y1, vR 124] M Q := by
  refine Rn_w (by decide) ?_
  show wpc sx L K0 R0 208 [(136, 1, .iconst 0, [])] 9 [vR 106, vI x1, vI x2, vI x3, vI x4, vI x5, vI x6, vI x7, vI x8, vI x9, vI x10] [vI y1, vR 124] M Q
  simp only [w_iconst, w_fall, true_and, and_true, true_or, or_true]
  exact h
theorem b_208_9 {sx : Int → Int} {L : Nat} {x1 : Int} {x2 : Int} {x3 : Int} {x4 : Int} {x5 : Int} {x6 : Int} {x7 : Int} {x8 : Int} {x9 : Int} {x10 : Int} {y1 : Int} {y2 : Int} {M : Mem} {Q : Option AV → Mem → Prop} 
    (h : ((0 : Int) ≤ y1 ∧ y1 < (8 : Int)) ∧ (((0 : Int) ≤ x4 ∧ (0 : Int) ≤ x10 ∧ x10 ≤ (30 : Int)) ∧ ((¬ iAnd (x4 / 2 ^ (x10).toNat) 1 = (1 : Int) → Rn sx L K0 R0 208 10 [vR 106, vI x1, vI x2, vI x3, vI x4, vI x5, vI x6, vI x7, vI x8, vI x9, vI x10] [] (mset M 122 y1 y2) Q) ∧ (¬ (¬ iAnd (x4 / 2 ^ (x10).toNat) 1 = (1 : Int)) → inR (x2 + 1) ∧ (((0 : Int) ≤ x9 ∧ (0 : Int) < x2 + 1) ∧ (Rn sx L K0 R0 208 11 [vR 106, vI x1, vI x2, vI x3, vI x4, vI x5, vI x6, vI x7, vI x8, vI x9, vI x10] [vI (x9 / (x2 + 1))] (mset M 122 y1 y2) Q)))))) : Rn sx L K0 R0 208 9 [vR 106, vI x1, vI x2, vI x3, vI x4, vI x5, vI x6, vI x7, vI x8, vI x9, vI x10] [vI y2, vI y1, vR 124] M Q := by
  refine Rn_w (by decide) ?_
  show wpc sx L K0 R0 208 [(137, 1, .iastore, []), (138, 2, .iload 4, []), (140, 2, .iload 10, []), (142, 1, .ishr, []), (143, 1, .iconst 1, []), (144, 1, .iand, []), (145, 1, .iconst 1, []), (146, 3, .if_icmp .ne 12, [10]), (149, 2, .iload 9, []), (151, 1, .iload_n 2, []), (152, 1, .iconst 1, []), (153, 1, .iadd, []), (154, 1, .idiv, []), (155, 3, .goto 5, [11])] 0 [vR 106, vI x1, vI x2, vI x3, vI x4, vI x5, vI x6, vI x7, vI x8, vI x9, vI x10] [vI y2, vI y1, vR 124] M Q
  simp only [w_iast, arr_T (ks_122), w_il_4, w_il_10, w_ishr, w_iconst, w_iand, w_ic_ne, w_il_9, w_il_2, w_iadd, w_idiv, w_goto, true_and, and_true, true_or, or_true]
  exact h
theorem b_208_10 {sx : Int → Int} {L : Nat} {x1 : Int} {x2 : Int} {x3 : Int} {x4 : Int} {x5 : Int} {x6 : Int} {x7 : Int} {x8 : Int} {x9 : Int} {x10 : Int} {M : Mem} {Q : Option AV → Mem → Prop} 
    (h : Rn sx L K0 R0 208 11 [vR 106, vI x1, vI x2, vI x3, vI x4, vI x5, vI x6, vI x7, vI x8, vI x9, vI x10] [vI x9] M Q) : Rn sx L K0 R0 208 10 [vR 106, vI x1, vI x2, vI x3, vI x4, vI x5, vI x6, vI x7, vI x8, vI x9, vI x10] [] M Q := by
  refine Rn_w (by decide) ?_
  show wpc sx L K0 R0 208 [(158, 2, .iload 9, [])] 11 [vR 106, vI x1, vI x2, vI x3, vI x4, vI x5, vI x6, vI x7, vI x8, vI x9, vI x10] [] M Q
  simp only [w_il_9, w_fall, true_and, and_true, true_or, or_true]
  exact h
theorem b_208_11 {sx : Int → Int} {L : Nat} {x1 : Int} {x2 : Int} {x3 : Int} {x4 : Int} {x5 : Int} {x6 : Int} {x7 : Int} {x8 : Int} {x9 : Int} {x10 : Int} {y0 : Int} {M : Mem} {Q : Option AV → Mem → Prop} 
    (h : inR (x10 + 1) ∧ (Rn sx L K0 R0 208 7 [vR 106, vI x1, vI x2, vI x3, vI x4, vI x5, vI x6, vI x7, vI x8, vI y0, vI (x10 + 1)] [] M Q)) : Rn sx L K0 R0 208 11 [vR 106, vI x1, vI x2, vI x3, vI x4, vI x5, vI x6, vI x7, vI x8, vI x9, vI x10] [vI y0] M Q := by
  refine Rn_w (by decide) ?_
  show wpc sx L K0 R0 208 [(160, 2, .istore 9, []), (162, 3, .iinc 10 1, []), (165, 3, .goto (-62), [7])] 0 [vR 106, vI x1, vI x2, vI x3, vI x4, vI x5, vI x6, vI x7, vI x8, vI x9, vI x10] [vI y0] M Q
  simp only [w_is_9 (c2I _), w_inc_10 (c2I _), w_goto, true_and, and_true, true_or, or_true]
  exact h
theorem b_208_12 {sx : Int → Int} {L : Nat} {x1 : Int} {x2 : Int} {x3 : Int} {x4 : Int} {x5 : Int} {x6 : Int} {x7 : Int} {x8 : Int} {x9 : Int} {x10 : Int} {M : Mem} {Q : Option AV → Mem → Prop} 
    (h : Mq sx L K0 R0 201 [vR 106] M (fun rv M1 => ∃ r1, rv = some (vI r1) ∧ ((r1 ≤ (0 : Int) → Rn sx L K0 R0 208 13 [vR 106, vI x1, vI x2, vI x3, vI x4, vI x5, vI x6, vI x7, vI x8, vI x9, vI x10] [vI x7] M1 Q) ∧ (¬ (r1 ≤ (0 : Int)) → Rn sx L K0 R0 208 14 [vR 106, vI x1, vI x2, vI x3, vI x4, vI x5, vI x6, vI x7, vI x8, vI x9, vI x10] [vI 1, vI x7] M1 Q)))) : Rn sx L K0 R0 208 12 [vR 106, vI x1, vI x2, vI x3, vI x4, vI x5, vI x6, vI x7, vI x8, vI x9, vI x10] [] M Q := by
  refine Rn_w (by decide) ?_
  show wpc sx L K0 R0 208 [(168, 2, .iload 7, []), (170, 1, .aload_n 0, []), (171, 3, .invokevirtual 337, [201, 1612, 0]), (174, 3, .ifCond .le 7, [13]), (177, 1, .iconst 1, []), (178, 3, .goto 4, [14])] 0 [vR 106, vI x1, vI x2, vI x3, vI x4, vI x5, vI x6, vI x7, vI x8, vI x9, vI x10] [] M Q
  simp only [w_il_7, w_al_0, w_ivv_0  (cs1 _), mk_201, kin_T (ks_104), rk_201, rvk1, List.cons_append, List.nil_append, w_if_le, w_iconst, w_goto, true_and, and_true, true_or, or_true]
  exact h
theorem b_208_13 {sx : Int → Int} {L : Nat} {x1 : Int} {x2 : Int} {x3 : Int} {x4 : Int} {x5 : Int} {x6 : Int} {x7 : Int} {x8 : Int} {x9 : Int} {x10 : Int} {y0 : Int} {M : Mem} {Q : Option AV → Mem → Prop} 
    (h : Rn sx L K0 R0 208 14 [vR 106, vI x1, vI x2, vI x3, vI x4, vI x5, vI x6, vI x7, vI x8, vI x9, vI x10] [vI 0, vI y0] M Q) : Rn sx L K0 R0 208 13 [vR 106, vI x1, vI x2, vI x3, vI x4, vI x5, vI x6, vI x7, vI x8, vI x9, vI x10] [vI y0] M Q := by
  refine Rn_w (by decide) ?_
  show wpc sx L K0 R0 208 [(181, 1, .iconst 0, [])] 14 [vR 106, vI x1, vI x2, vI x3, vI x4, vI x5, vI x6, vI x7, vI x8, vI x9, vI x10] [vI y0] M Q
  simp only [w_iconst, w_fall, true_and, and_true, true_or, or_true]
  exact h
theorem b_208_14 {sx : Int → Int} {L : Nat} {x1 : Int} {x2 : Int} {x3 : Int} {x4 : Int} {x5 : Int} {x6 : Int} {x7 : Int} {x8 : Int} {x9 : Int} {x10 : Int} {y0 : Int} {y1 : Int} {M : Mem} {Q : Option AV → Mem → Prop} 
    (h : inR (y0 + y1) ∧ (Mq sx L K0 R0 186 [vR 106, vI x1] M (fun rv M1 => ∃ r1, rv = some (vI r1) ∧ ((r1 ≤ x6 → Rn sx L K0 R0 208 15 [vR 106, vI x1, vI x2, vI x3, vI x4, vI x5, vI x6, vI (y0 + y1), vI x8, vI x9, vI r1] [] M1 Q) ∧ (¬ (r1 ≤ x6) → Rn sx L K0 R0 208 16 [vR 106, vI x1, vI x2, vI x3, vI x4, vI x5, vI x6, vI (y0 + y1), vI x8, vI x9, vI r1] [vI r1] M1 Q))))) : Rn sx L K0 R0 208 14 [vR 106, vI x1, vI x2, vI x3, vI x4, vI x5, vI x6, vI x7, vI x8, vI x9, vI x10] [vI y1, vI y0] M Q := by
  refine Rn_w (by decide) ?_
  show wpc sx L K0 R0 208 [(182, 1, .iadd, []), (183, 2, .istore 7, []), (185, 1, .aload_n 0, []), (186, 1, .iload_n 1, []), (187, 3, .invokevirtual 304, [186, 1545, 1]), (190, 2, .istore 10, []), (192, 2, .iload 10, []), (194, 2, .iload 6, []), (196, 3, .if_icmp .le 8, [15]), (199, 2, .iload 10, []), (201, 3, .goto 5, [16])] 0 [vR 106, vI x1, vI x2, vI x3, vI x4, vI x5, vI x6, vI x7, vI x8, vI x9, vI x10] [vI y1, vI y0] M Q
  simp only [w_iadd, w_is_7 (c2I _), w_al_0, w_il_1, w_ivv_1 (c2I _) cs0, mk_186, kin_T (ks_104), rk_186, rvk1, List.cons_append, List.nil_append, w_is_10 (c2I _), w_il_10, w_il_6, w_ic_le, w_goto, true_and, and_true, true_or, or_true]
  exact h
theorem b_208_15 {sx : Int → Int} {L : Nat} {x1 : Int} {x2 : Int} {x3 : Int} {x4 : Int} {x5 : Int} {x6 : Int} {x7 : Int} {x8 : Int} {x9 : Int} {x10 : Int} {M : Mem} {Q : Option AV → Mem → Prop} 
    (h : Rn sx L K0 R0 208 16 [vR 106, vI x1, vI x2, vI x3, vI x4, vI x5, vI x6, vI x7, vI x8, vI x9, vI x10] [vI x6] M Q) : Rn sx L K0 R0 208 15 [vR 106, vI x1, vI x2, vI x3, vI x4, vI x5, vI x6, vI x7, vI x8, vI x9, vI x10] [] M Q := by
  refine Rn_w (by decide) ?_
  show wpc sx L K0 R0 208 [(204, 2, .iload 6, [])] 16 [vR 106, vI x1, vI x2, vI x3, vI x4, vI x5, vI x6, vI x7, vI x8, vI x9, vI x10] [] M Q
  simp only [w_il_6, w_fall, true_and, and_true, true_or, or_true]
  exact h
theorem b_208_16 {sx : Int → Int} {L : Nat} {x1 : Int} {x2 : Int} {x3 : Int} {x4 : Int} {x5 : Int} {x6 : Int} {x7 : Int} {x8 : Int} {x9 : Int} {x10 : Int} {y0 : Int} {M : Mem} {Q : Option AV → Mem → Prop} 
    (h : inR (x8 + 1) ∧ (Rn sx L K0 R0 208 6 [vR 106, vI x1, vI x2, vI x3, vI x4, vI x5, vI y0, vI x7, vI (x8 + 1), vI x9, vI x10] [] M Q)) : Rn sx L K0 R0 208 16 [vR 106, vI x1, vI x2, vI x3, vI x4, vI x5, vI x6, vI x7, vI x8, vI x9, vI x10] [vI y0] M Q := by
  refine Rn_w (by decide) ?_
  show wpc sx L K0 R0 208 [(206, 2, .istore 6, []), (208, 3, .iinc 8 1, []), (211, 3, .goto (-122), [6])] 0 [vR 106, vI x1, vI x2, vI x3, vI x4, vI x5, vI x6, vI x7, vI x8, vI x9, vI x10] [vI y0] M Q
  simp only [w_is_6 (c2I _), w_inc_8 (c2I _), w_goto, true_and, and_true, true_or, or_true]
  exact h
theorem b_208_17 {sx : Int → Int} {L : Nat} {x1 : Int} {x2 : Int} {x3 : Int} {x4 : Int} {x5 : Int} {x6 : Int} {x7 : Int} {x8 : Int} {u9 : AV} {u10 : AV} {M : Mem} {Q : Option AV → Mem → Prop} (hu9 : cat2 u9 = false) (hu10 : cat2 u10 = false)
    (h : (¬ x3 = (0 : Int) → Rn sx L K0 R0 208 18 [vR 106, vI x1, vI x2, vI x3, vI x4, vI x5, vI x6, vI x7, vI x8, u9, u10] [] M Q) ∧ (¬ (¬ x3 = (0 : Int)) → Rn sx L K0 R0 208 19 [vR 106, vI x1, vI x2, vI x3, vI x4, vI x5, vI x6, vI x7, vI x8, u9, u10] [vI x6] M Q)) : Rn sx L K0 R0 208 17 [vR 106, vI x1, vI x2, vI x3, vI x4, vI x5, vI x6, vI x7, vI x8, u9, u10] [] M Q := by
  refine Rn_w (by decide) ?_
  show wpc sx L K0 R0 208 [(214, 1, .iload_n 3, []), (215, 3, .ifCond .ne 8, [18]), (218, 2, .iload 6, []), (220, 3, .goto 5, [19])] 0 [vR 106, vI x1, vI x2, vI x3, vI x4, vI x5, vI x6, vI x7, vI x8, u9, u10] [] M Q
  simp only [w_il_3, w_if_ne, w_il_6, w_goto, true_and, and_true, true_or, or_true]
  exact h
theorem b_208_18 {sx : Int → Int} {L : Nat} {x1 : Int} {x2 : Int} {x3 : Int} {x4 : Int} {x5 : Int} {x6 : Int} {x7 : Int} {x8 : Int} {u9 : AV} {u10 : AV} {M : Mem} {Q : Option AV → Mem → Prop} (hu9 : cat2 u9 = false) (hu10 : cat2 u10 = false)
    (h : Rn sx L K0 R0 208 19 [vR 106, vI x1, vI x2, vI x3, vI x4, vI x5, vI x6, vI x7, vI x8, u9, u10] [vI x7] M Q) : Rn sx L K0 R0 208 18 [vR 106, vI x1, vI x2, vI x3, vI x4, vI x5, vI x6, vI x7, vI x8, u9, u10] [] M Q := by
  refine Rn_w (by decide) ?_
  show wpc sx L K0 R0 208 [(223, 2, .iload 7, [])] 19 [vR 106, vI x1, vI x2, vI x3, vI x4, vI x5, vI x6, vI x7, vI x8, u9, u10] [] M Q
  simp only [w_il_7, w_fall, true_and, and_true, true_or, or_true]
  exact h
theorem b_208_19 {sx : Int → Int} {L : Nat} {x1 : Int} {x2 : Int} {x3 : Int} {x4 : Int} {x5 : Int} {x6 : Int} {x7 : Int} {x8 : Int} {u9 : AV} {u10 : AV} {y0 : Int} {M : Mem} {Q : Option AV → Mem → Prop} (hu9 : cat2 u9 = false) (hu10 : cat2 u10 = false)
    (h : Q (some (vI y0)) M) : Rn sx L K0 R0 208 19 [vR 106, vI x1, vI x2, vI x3, vI x4, vI x5, vI x6, vI x7, vI x8, u9, u10] [vI y0] M Q := by
  refine Rn_w (by decide) ?_
  show wpc sx L K0 R0 208 [(225, 1, .ireturn, [])] 0 [vR 106, vI x1, vI x2, vI x3, vI x4, vI x5, vI x6, vI x7, vI x8, u9, u10] [vI y0] M Q
  simp only [w_ret1 rk_208, true_and, and_true, true_or, or_true]
  exact h
theorem b_209_0 {sx : Int → Int} {L : Nat} {x1 : Int} {M : Mem} {Q : Option AV → Mem → Prop} 
    (h : Mq sx L K0 R0 215 [vI x1] M (fun rv M1 => ∃ r1, rv = some (vI r1) ∧ ((¬ r1 = (0 : Int) → Rn sx L K0 R0 209 1 [vR 106, vI x1, vU, vU, vU, vU, vU, vU] [] M1 Q) ∧ (¬ (¬ r1 = (0 : Int)) → Q (some (vI (-2))) M1)))) : Rn sx L K0 R0 209 0 [vR 106, vI x1, vU, vU, vU, vU, vU, vU] [] M Q := by
  refine Rn_w (by decide) ?_
  show wpc sx L K0 R0 209 [(0, 1, .iload_n 1, []), (1, 3, .invokestatic 352, [215, 1640, 1]), (4, 3, .ifCond .ne 6, [1]), (7, 2, .bipush (-2), []), (9, 1, .ireturn, [])] 0 [vR 106, vI x1, vU, vU, vU, vU, vU, vU] [] M Q
  simp only [w_il_1, w_ivs_1 (c2I _) cs0, rk_215, rvk2, List.cons_append, List.nil_append, w_if_ne, w_bipush, w_ret1 rk_209, true_and, and_true, true_or, or_true]
  exact h
theorem b_209_1 {sx : Int → Int} {L : Nat} {x1 : Int} {M : Mem} {Q : Option AV → Mem → Prop} 
    (h : ((0 : Int) ≤ x1 ∧ x1 < (4 : Int)) ∧ ((¬ M 139 x1 = (0 : Int) → Rn sx L K0 R0 209 2 [vR 106, vI x1, vU, vU, vU, vU, vU, vU] [] M Q) ∧ (¬ (¬ M 139 x1 = (0 : Int)) → Mq sx L K0 R0 214 [vR 106, vI 1] M (fun rv M1 => ∃ r1, rv = some (vI r1) ∧ (Q (some (vI r1)) M1))))) : Rn sx L K0 R0 209 1 [vR 106, vI x1, vU, vU, vU, vU, vU, vU] [] M Q := by
  refine Rn_w (by decide) ?_
  show wpc sx L K0 R0 209 [(10, 1, .aload_n 0, []), (11, 3, .getfield 120, [9, 59, 1213]), (14, 1, .iload_n 1, []), (15, 1, .baload, []), (16, 3, .ifCond .ne 9, [2]), (19, 1, .aload_n 0, []), (20, 1, .iconst 1, []), (21, 3, .invokevirtual 355, [214, 1643, 1]), (24, 1, .ireturn, [])] 0 [vR 106, vI x1, vU, vU, vU, vU, vU, vU] [] M Q
  simp only [w_al_0, w_gf_9_59, kin_T (ks_104), rs_104_59, w_il_1, w_bald, arr_T (ks_139), w_if_ne, w_iconst, w_ivv_1 (c2I _) cs0, mk_214, rk_214, rvk1, List.cons_append, List.nil_append, w_ret1 rk_209, true_and, and_true, true_or, or_true]
  exact h
theorem b_209_2 {sx : Int → Int} {L : Nat} {x1 : Int} {M : Mem} {Q : Option AV → Mem → Prop} 
    (h : Rn sx L K0 R0 209 3 [vR 106, vI x1, vI 0, vI 0, vU, vU, vU, vU] [] M Q) : Rn sx L K0 R0 209 2 [vR 106, vI x1, vU, vU, vU, vU, vU, vU] [] M Q := by
  refine Rn_w (by decide) ?_
  show wpc sx L K0 R0 209 [(25, 1, .iconst 0, []), (26, 1, .istore_n 2, []), (27, 1, .iconst 0, []), (28, 1, .istore_n 3, [])] 3 [vR 106, vI x1, vU, vU, vU, vU, vU, vU] [] M Q
  simp only [w_iconst, w_is_2 (c2I _), w_is_3 (c2I _), w_fall, true_and, and_true, true_or, or_true]
  exact h
theorem b_209_3 {sx : Int → Int} {L : Nat} {x1 : Int} {x2 : Int} {x3 : Int} {u4 : AV} {u5 : AV} {u6 : AV} {u7 : AV} {M : Mem} {Q : Option AV → Mem → Prop} (hu4 : cat2 u4 = false) (hu5 : cat2 u5 = false) (hu6 : cat2 u6 = false) (hu7 : cat2 u7 = false)
    (h : ((9 : Int) ≤ x3 → Rn sx L K0 R0 209 11 [vR 106, vI x1, vI x2, vI x3, u4, u5, u6, u7] [] M Q) ∧ (¬ ((9 : Int) ≤ x3) → Mq sx L K0 R0 159 [vR 106] M (fun rv M1 => rv = none ∧ (((0 : Int) ≤ x3 ∧ (0 : Int) < (3 : Int)) ∧ (((0 : Int) ≤ x3 ∧ (0 : Int) < (3 : Int)) ∧ (Mq sx L K0 R0 201 [vR 106] (mset (mset M1 104 33 (x3 / 3)) 104 34 (x3 % 3)) (fun rv M2 => ∃ r1, rv = some (vI r1) ∧ (Rn sx L K0 R0 209 4 [vR 106, vI x1, vI x2, vI x3, vI r1, vI 1, vI 0, u7] [] M2 Q)))))))) : Rn sx L K0 R0 209 3 [vR 106, vI x1, vI x2, vI x3, u4, u5, u6, u7] [] M Q := by
  refine Rn_w (by decide) ?_
  show wpc sx L K0 R0 209 [(29, 1, .iload_n 3, []), (30, 2, .bipush 9, []), (32, 3, .if_icmp .ge 131, [11]), (35, 1, .aload_n 0, []), (36, 3, .invokevirtual 292, [159, 1441, 0]), (39, 1, .aload_n 0, []), (40, 1, .iload_n 3, []), (41, 1, .iconst 3, []), (42, 1, .idiv, []), (43, 3, .putfield 211, [9, 33, 1187]), (46, 1, .aload_n 0, []), (47, 1, .iload_n 3, []), (48, 1, .iconst 3, []), (49, 1, .irem, []), (50, 3, .putfield 214, [9, 34, 1188]), (53, 1, .aload_n 0, []), (54, 3, .invokevirtual 337, [201, 1612, 0]), (57, 2, .istore 4, []), (59, 1, .iconst 1, []), (60, 2, .istore 5, []), (62, 1, .iconst 0, []), (63, 2, .istore 6, [])] 4 [vR 106, vI x1, vI x2, vI x3, u4, u5, u6, u7] [] M Q
  simp only [w_il_3, w_bipush, w_ic_ge, w_al_0, w_ivv_0  cs0, mk_159, kin_T (ks_104), rk_159, rvk0, List.nil_append, w_iconst, w_idiv, w_pf_9_33, w_irem, w_pf_9_34, mk_201, rk_201, rvk1, List.cons_append, w_is_4 (c2I _), w_is_5 (c2I _), w_is_6 (c2I _), w_fall, true_and, and_true, true_or, or_true]
  exact h
set_option maxRecDepth 8192 in
theorem b_209_4 {sx : Int → Int} {L : Nat} {x1 : Int} {x2 : Int} {x3 : Int} {x4 : Int} {x5 : Int} {x6 : Int} {u7 : AV} {M : Mem} {Q : Option AV → Mem → Prop} (hu7 : cat2 u7 = false)
    (h : (M 104 25 ≤ x6 → Rn sx L K0 R0 209 8 [vR 106, vI x1, vI x2, vI x3, vI x4, vI x5, vI x6, u7] [] M Q) ∧ (¬ (M 104 25 ≤ x6) → ((0 : Int) ≤ x1 ∧ x1 < (4 : Int)) ∧ ((M 141 x1 ≤ x6 → Rn sx L K0 R0 209 8 [vR 106, vI x1, vI x2, vI x3, vI x4, vI x5, vI x6, u7] [] M Q) ∧ (¬ (M 141 x1 ≤ x6) → inR ((60 : Int) * x1) ∧ (inR (((60 : Int) * x1) + x6) ∧ (((0 : Int) ≤ ((60 : Int) * x1) + x6 ∧ ((60 : Int) * x1) + x6 < (240 : Int)) ∧ ((x5 = (0 : Int) → Rn sx L K0 R0 209 6 [vR 106, vI x1, vI x2, vI x3, vI x4, vI x5, vI x6, vI (M 142 (((60 : Int) * x1) + x6))] [] M Q) ∧ (¬ (x5 = (0 : Int)) → Mq sx L K0 R0 137 [vI (M 142 (((60 : Int) * x1) + x6)), vI (-1), vI 7] M (fun rv M1 => ∃ r1, rv = some (vI r1) ∧ ((r1 = (0 : Int) → Rn sx L K0 R0 209 5 [vR 106, vI x1, vI x2, vI x3, vI x4, vI x5, vI x6, vI (M 142 (((60 : Int) * x1) + x6))] [] M1 Q) ∧ (¬ (r1 = (0 : Int)) → inR ((3 : Int) * x6) ∧ (((0 : Int) ≤ (3 : Int) * x6 ∧ (3 : Int) * x6 < (600 : Int)) ∧ ((¬ M 142 (((60 : Int) * x1) + x6) = M1 135 ((3 : Int) * x6) → Rn sx L K0 R0 209 6 [vR 106, vI x1, vI x2, vI x3, vI x4, vI x5, vI x6, vI (M 142 (((60 : Int) * x1) + x6))] [] M1 Q) ∧ (¬ (¬ M 142 (((60 : Int) * x1) + x6) = M1 135 ((3 : Int) * x6)) → Rn sx L K0 R0 209 5 [vR 106, vI x1, vI x2, vI x3, vI x4, vI x5, vI x6, vI (M 142 (((60 : Int) * x1) + x6))] [] M1 Q)))))))))))))) : Rn sx L K0 R0 209 4 [vR 106, vI x1, vI x2, vI x3, vI x4, vI x5, vI x6, u7] [] M Q := by
  refine Rn_w (by decide) ?_
  show wpc sx L K0 R0 209 [(65, 2, .iload 6, []), (67, 1, .aload_n 0, []), (68, 3, .getfield 62, [9, 25, 1179]), (71, 3, .if_icmp .ge 71, [8]), (74, 2, .iload 6, []), (76, 1, .aload_n 0, []), (77, 3, .getfield 126, [9, 61, 1215]), (80, 1, .iload_n 1, []), (81, 1, .iaload, []), (82, 3, .if_icmp .ge 60, [8]), (85, 1, .aload_n 0, []), (86, 3, .getfield 129, [9, 62, 1216]), (89, 2, .bipush 60, []), (91, 1, .iload_n 1, []), (92, 1, .imul, []), (93, 2, .iload 6, []), (95, 1, .iadd, []), (96, 1, .iaload, []), (97, 2, .istore 7, []), (99, 2, .iload 5, []), (101, 3, .ifCond .eq 32, [6]), (104, 2, .iload 7, []), (106, 1, .iconst (-1), []), (107, 2, .bipush 7, []), (109, 3, .invokestatic 135, [137, 1355, 3]), (112, 3, .ifCond .eq 17, [5]), (115, 2, .iload 7, []), (117, 1, .aload_n 0, []), (118, 3, .getfield 108, [9, 47, 1201]), (121, 1, .iconst 3, []), (122, 2, .iload 6, []), (124, 1, .imul, []), (125, 1, .iaload, []), (126, 3, .if_icmp .ne 7, [6])] 5 [vR 106, vI x1, vI x2, vI x3, vI x4, vI x5, vI x6, u7] [] M Q
  simp only [w_il_6, w_al_0, w_gf_9_25, kin_T (ks_104), w_ic_ge, w_gf_9_61, rs_104_61, w_il_1, w_iald, arr_T (ks_141), w_gf_9_62, rs_104_62, w_bipush, w_imul, w_iadd, arr_T (ks_142), w_is_7 (c2I _), w_il_5, w_if_eq, w_il_7, w_iconst, w_ivs_3 (c2I _) (c2I _) (c2I _) cs0, rk_137, rvk2, List.cons_append, List.nil_append, w_gf_9_47, rs_104_47, arr_T (ks_135), w_ic_ne, w_fall, true_and, and_true, true_or, or_true]
  exact h
theorem b_209_5 {sx : Int → Int} {L : Nat} {x1 : Int} {x2 : Int} {x3 : Int} {x4 : Int} {x5 : Int} {x6 : Int} {x7 : Int} {M : Mem} {Q : Option AV → Mem → Prop} 
    (h : Rn sx L K0 R0 209 7 [vR 106, vI x1, vI x2, vI x3, vI x4, vI x5, vI x6, vI x7] [vI 1] M Q) : Rn sx L K0 R0 209 5 [vR 106, vI x1, vI x2, vI x3, vI x4, vI x5, vI x6, vI x7] [] M Q := by
  refine Rn_w (by decide) ?_
  show wpc sx L K0 R0 209 [(129, 1, .iconst 1, []), (130, 3, .goto 4, [7])] 0 [vR 106, vI x1, vI x2, vI x3, vI x4, vI x5, vI x6, vI x7] [] M Q
  simp only [w_iconst, w_goto, true_and, and_true, true_or, or_true]
  exact h
theorem b_209_6 {sx : Int → Int} {L : Nat} {x1 : Int} {x2 : Int} {x3 : Int} {x4 : Int} {x5 : Int} {x6 : Int} {x7 : Int} {M : Mem} {Q : Option AV → Mem → Prop} 
    (h : Rn sx L K0 R0 209 7 [vR 106, vI x1, vI x2, vI x3, vI x4, vI x5, vI x6, vI x7] [vI 0] M Q) : Rn sx L K0 R0 209 6 [vR 106, vI x1, vI x2, vI x3, vI x4, vI x5, vI x6, vI x7] [] M Q := by
  refine Rn_w (by decide) ?_
  show wpc sx L K0 R0 209 [(133, 1, .iconst 0, [])] 7 [vR 106, vI x1, vI x2, vI x3, vI x4, vI x5, vI x6, vI x7] [] M Q
  simp only [w_iconst, w_fall, true_and, and_true, true_or, or_true]
  exact h
theorem b_209_7 {sx : Int → Int} {L : Nat} {x1 : Int} {x2 : Int} {x3 : Int} {x4 : Int} {x5 : Int} {x6 : Int} {x7 : Int} {y0 : Int} {M : Mem} {Q : Option AV → Mem → Prop} 
    (h : inR (x6 + 1) ∧ (Rn sx L K0 R0 209 4 [vR 106, vI x1, vI x2, vI x3, vI x4, vI y0, vI (x6 + 1), vI x7] [] M Q)) : Rn sx L K0 R0 209 7 [vR 106, vI x1, vI x2, vI x3, vI x4, vI x5, vI x6, vI x7] [vI y0] M Q := by
  refine Rn_w (by decide) ?_
  show wpc sx L K0 R0 209 [(134, 2, .istore 5, []), (136, 3, .iinc 6 1, []), (139, 3, .goto (-74), [4])] 0 [vR 106, vI x1, vI x2, vI x3, vI x4, vI x5, vI x6, vI x7] [vI y0] M Q
  simp only [w_is_5 (c2I _), w_inc_6 (c2I _), w_goto, true_and, and_true, true_or, or_true]
  exact h
theorem b_209_8 {sx : Int → Int} {L : Nat} {x1 : Int} {x2 : Int} {x3 : Int} {x4 : Int} {x5 : Int} {x6 : Int} {u7 : AV} {M : Mem} {Q : Option AV → Mem → Prop} (hu7 : cat2 u7 = false)
    (h : (x5 = (0 : Int) → Rn sx L K0 R0 209 9 [vR 106, vI x1, vI x2, vI x3, vI x4, vI x5, vI x6, u7] [vI x2] M Q) ∧ (¬ (x5 = (0 : Int)) → ((0 : Int) ≤ (1 : Int) ∧ (0 : Int) ≤ x3 ∧ x3 ≤ (30 : Int) ∧ (1 : Int) * 2 ^ (x3).toNat ≤ (2147483647 : Int)) ∧ (Rn sx L K0 R0 209 10 [vR 106, vI x1, vI x2, vI x3, vI x4, vI x5, vI x6, u7] [vI ((1 : Int) * 2 ^ (x3).toNat), vI x2] M Q))) : Rn sx L K0 R0 209 8 [vR 106, vI x1, vI x2, vI x3, vI x4, vI x5, vI x6, u7] [] M Q := by
  refine Rn_w (by decide) ?_
  show wpc sx L K0 R0 209 [(142, 1, .iload_n 2, []), (143, 2, .iload 5, []), (145, 3, .ifCond .eq 9, [9]), (148, 1, .iconst 1, []), (149, 1, .iload_n 3, []), (150, 1, .ishl, []), (151, 3, .goto 4, [10])] 0 [vR 106, vI x1, vI x2, vI x3, vI x4, vI x5, vI x6, u7] [] M Q
  simp only [w_il_2, w_il_5, w_if_eq, w_iconst, w_il_3, w_ishl, w_goto, true_and, and_true, true_or, or_true]
  exact h
theorem b_209_9 {sx : Int → Int} {L : Nat} {x1 : Int} {x2 : Int} {x3 : Int} {x4 : Int} {x5 : Int} {x6 : Int} {u7 : AV} {y0 : Int} {M : Mem} {Q : Option AV → Mem → Prop} (hu7 : cat2 u7 = false)
    (h : Rn sx L K0 R0 209 10 [vR 106, vI x1, vI x2, vI x3, vI x4, vI x5, vI x6, u7] [vI 0, vI y0] M Q) : Rn sx L K0 R0 209 9 [vR 106, vI x1, vI x2, vI x3, vI x4, vI x5, vI x6, u7] [vI y0] M Q := by
  refine Rn_w (by decide) ?_
  show wpc sx L K0 R0 209 [(154, 1, .iconst 0, [])] 10 [vR 106, vI x1, vI x2, vI x3, vI x4, vI x5, vI x6, u7] [vI y0] M Q
  simp only [w_iconst, w_fall, true_and, and_true, true_or, or_true]
  exact h
theorem b_209_10 {sx : Int → Int} {L : Nat} {x1 : Int} {x2 : Int} {x3 : Int} {x4 : Int} {x5 : Int} {x6 : Int} {u7 : AV} {y0 : Int} {y1 : Int} {M : Mem} {Q : Option AV → Mem → Prop} (hu7 : cat2 u7 = false)
    (h : inR (x3 + 1) ∧ (Rn sx L K0 R0 209 3 [vR 106, vI x1, vI (iOr y0 y1), vI (x3 + 1), vI x4, vI x5, vI x6, u7] [] M Q)) : Rn sx L K0 R0 209 10 [vR 106, vI x1, vI x2, vI x3, vI x4, vI x5, vI x6, u7] [vI y1, vI y0] M Q := by
  refine Rn_w (by decide) ?_
  show wpc sx L K0 R0 209 [(155, 1, .ior, []), (156, 1, .istore_n 2, []), (157, 3, .iinc 3 1, []), (160, 3, .goto (-131), [3])] 0 [vR 106, vI x1, vI x2, vI x3, vI x4, vI x5, vI x6, u7] [vI y1, vI y0] M Q
  simp only [w_ior, w_is_2 (c2I _), w_inc_3 (c2I _), w_goto, true_and, and_true, true_or, or_true]
  exact h
theorem b_209_11 {sx : Int → Int} {L : Nat} {x1 : Int} {x2 : Int} {x3 : Int} {u4 : AV} {u5 : AV} {u6 : AV} {u7 : AV} {M : Mem} {Q : Option AV → Mem → Prop} (hu4 : cat2 u4 = false) (hu5 : cat2 u5 = false) (hu6 : cat2 u6 = false) (hu7 : cat2 u7 = false)
    (h : Q (some (vI x2)) M) : Rn sx L K0 R0 209 11 [vR 106, vI x1, vI x2, vI x3, u4, u5, u6, u7] [] M Q := by
  refine Rn_w (by decide) ?_
  show wpc sx L K0 R0 209 [(163, 1, .iload_n 2, []), (164, 1, .ireturn, [])] 0 [vR 106, vI x1, vI x2, vI x3, u4, u5, u6, u7] [] M Q
  simp only [w_il_2, w_ret1 rk_209, true_and, and_true, true_or, or_true]
  exact h
set_option maxRecDepth 8192 in
theorem b_210_0 {sx : Int → Int} {L : Nat} {x1 : Int} {x2 : Int} {x3 : Int} {x4 : Int} {M : Mem} {Q : Option AV → Mem → Prop} 
    (h : Mq sx L K0 R0 159 [vR 106] M (fun rv M1 => rv = none ∧ ((x3 = (-1 : Int) → Rn sx L K0 R0 210 1 [vR 106, vI x1, vI x2, vI x3, vI x4, vU] [] (mset (mset M1 104 33 x1) 104 34 x2) Q) ∧ (¬ (x3 = (-1 : Int)) → ((0 : Int) ≤ x3 ∧ x3 < (8 : Int)) ∧ (((0 : Int) ≤ x4 ∧ x4 < (8 : Int)) ∧ (((0 : Int) ≤ x3 ∧ x3 < (8 : Int)) ∧ (((0 : Int) ≤ x4 ∧ x4 < (8 : Int)) ∧ (Rn sx L K0 R0 210 1 [vR 106, vI x1, vI x2, vI x3, vI x4, vI ((mset (mset M1 104 33 x1) 104 34 x2) 121 x3)] [] (mset (mset (mset (mset M1 104 33 x1) 104 34 x2) 121 x3 ((mset (mset M1 104 33 x1) 104 34 x2) 121 x4)) 121 x4 ((mset (mset M1 104 33 x1) 104 34 x2) 121 x3)) Q)))))))) : Rn sx L K0 R0 210 0 [vR 106, vI x1, vI x2, vI x3, vI x4, vU] [] M Q := by
  refine Rn_w (by decide) ?_
  show wpc sx L K0 R0 210 [(0, 1, .aload_n 0, []), (1, 3, .invokevirtual 292, [159, 1441, 0]), (4, 1, .aload_n 0, []), (5, 1, .iload_n 1, []), (6, 3, .putfield 211, [9, 33, 1187]), (9, 1, .aload_n 0, []), (10, 1, .iload_n 2, []), (11, 3, .putfield 214, [9, 34, 1188]), (14, 1, .iload_n 3, []), (15, 1, .iconst (-1), []), (16, 3, .if_icmp .eq 33, [1]), (19, 1, .aload_n 0, []), (20, 3, .getfield 65, [9, 28, 1182]), (23, 1, .iload_n 3, []), (24, 1, .iaload, []), (25, 2, .istore 5, []), (27, 1, .aload_n 0, []), (28, 3, .getfield 65, [9, 28, 1182]), (31, 1, .iload_n 3, []), (32, 1, .aload_n 0, []), (33, 3, .getfield 65, [9, 28, 1182]), (36, 2, .iload 4, []), (38, 1, .iaload, []), (39, 1, .iastore, []), (40, 1, .aload_n 0, []), (41, 3, .getfield 65, [9, 28, 1182]), (44, 2, .iload 4, []), (46, 2, .iload 5, []), (48, 1, .iastore, [])] 1 [vR 106, vI x1, vI x2, vI x3, vI x4, vU] [] M Q
  simp only [w_al_0, w_ivv_0  cs0, mk_159, kin_T (ks_104), rk_159, rvk0, List.nil_append, w_il_1, w_pf_9_33, w_il_2, w_pf_9_34, w_il_3, w_iconst, w_ic_eq, w_gf_9_28, rs_104_28, w_iald, arr_T (ks_121), w_is_5 (c2I _), w_il_4, w_iast, w_il_5, w_fall, true_and, and_true, true_or, or_true]
  exact h
theorem b_210_1 {sx : Int → Int} {L : Nat} {x1 : Int} {x2 : Int} {x3 : Int} {x4 : Int} {u5 : AV} {M : Mem} {Q : Option AV → Mem → Prop} (hu5 : cat2 u5 = false)
    (h : Mq sx L K0 R0 201 [vR 106] M (fun rv M1 => ∃ r1, rv = some (vI r1) ∧ ((¬ r1 = (0 : Int) → Rn sx L K0 R0 210 2 [vR 106, vI x1, vI x2, vI x3, vI x4, u5] [] M1 Q) ∧ (¬ (¬ r1 = (0 : Int)) → (¬ M1 104 49 = (-1 : Int) → Rn sx L K0 R0 210 2 [vR 106, vI x1, vI x2, vI x3, vI x4, u5] [] M1 Q) ∧ (¬ (¬ M1 104 49 = (-1 : Int)) → Rn sx L K0 R0 210 3 [vR 106, vI x1, vI x2, vI x3, vI x4, u5] [vI 1] M1 Q))))) : Rn sx L K0 R0 210 1 [vR 106, vI x1, vI x2, vI x3, vI x4, u5] [] M Q := by
  refine Rn_w (by decide) ?_
  show wpc sx L K0 R0 210 [(49, 1, .aload_n 0, []), (50, 3, .invokevirtual 337, [201, 1612, 0]), (53, 3, .ifCond .ne 15, [2]), (56, 1, .aload_n 0, []), (57, 3, .getfield 217, [9, 49, 1203]), (60, 1, .iconst (-1), []), (61, 3, .if_icmp .ne 7, [2]), (64, 1, .iconst 1, []), (65, 3, .goto 4, [3])] 0 [vR 106, vI x1, vI x2, vI x3, vI x4, u5] [] M Q
  simp only [w_al_0, w_ivv_0  cs0, mk_201, kin_T (ks_104), rk_201, rvk1, List.cons_append, List.nil_append, w_if_ne, w_gf_9_49, w_iconst, w_ic_ne, w_goto, true_and, and_true, true_or, or_true]
  exact h
theorem b_210_2 {sx : Int → Int} {L : Nat} {x1 : Int} {x2 : Int} {x3 : Int} {x4 : Int} {u5 : AV} {M : Mem} {Q : Option AV → Mem → Prop} (hu5 : cat2 u5 = false)
    (h : Rn sx L K0 R0 210 3 [vR 106, vI x1, vI x2, vI x3, vI x4, u5] [vI 0] M Q) : Rn sx L K0 R0 210 2 [vR 106, vI x1, vI x2, vI x3, vI x4, u5] [] M Q := by
  refine Rn_w (by decide) ?_
  show wpc sx L K0 R0 210 [(68, 1, .iconst 0, [])] 3 [vR 106, vI x1, vI x2, vI x3, vI x4, u5] [] M Q
  simp only [w_iconst, w_fall, true_and, and_true, true_or, or_true]
  exact h
theorem b_210_3 {sx : Int → Int} {L : Nat} {x1 : Int} {x2 : Int} {x3 : Int} {x4 : Int} {u5 : AV} {y0 : Int} {M : Mem} {Q : Option AV → Mem → Prop} (hu5 : cat2 u5 = false)
    (h : (y0 = 0 ∨ y0 = 1) ∧ (Q (some (vI y0)) M)) : Rn sx L K0 R0 210 3 [vR 106, vI x1, vI x2, vI x3, vI x4, u5] [vI y0] M Q := by
  refine Rn_w (by decide) ?_
  show wpc sx L K0 R0 210 [(69, 1, .ireturn, [])] 0 [vR 106, vI x1, vI x2, vI x3, vI x4, u5] [vI y0] M Q
  simp only [w_ret2 rk_210, true_and, and_true, true_or, or_true]
  exact h
theorem b_211_0 {sx : Int → Int} {L : Nat} {x1 : Int} {x2 : Int} {x3 : Int} {x4 : Int} {x5 : Int} {M : Mem} {Q : Option AV → Mem → Prop} 
    (h : (M 104 54 = (-1 : Int) → Rn sx L K0 R0 211 1 [vR 106, vI x1, vI x2, vI x3, vI x4, vI x5] [] M Q) ∧ (¬ (M 104 54 = (-1 : Int)) → (M 104 54 ≤ x1 → Rn sx L K0 R0 211 2 [vR 106, vI x1, vI x2, vI x3, vI x4, vI x5] [] M Q) ∧ (¬ (M 104 54 ≤ x1) → Rn sx L K0 R0 211 1 [vR 106, vI x1, vI x2, vI x3, vI x4, vI x5] [] M Q))) : Rn sx L K0 R0 211 0 [vR 106, vI x1, vI x2, vI x3, vI x4, vI x5] [] M Q := by
  refine Rn_w (by decide) ?_
  show wpc sx L K0 R0 211 [(0, 1, .aload_n 0, []), (1, 3, .getfield 358, [9, 54, 1208]), (4, 1, .iconst (-1), []), (5, 3, .if_icmp .eq 11, [1]), (8, 1, .iload_n 1, []), (9, 1, .aload_n 0, []), (10, 3, .getfield 358, [9, 54, 1208]), (13, 3, .if_icmp .ge 43, [2])] 1 [vR 106, vI x1, vI x2, vI x3, vI x4, vI x5] [] M Q
  simp only [w_al_0, w_gf_9_54, kin_T (ks_104), w_iconst, w_ic_eq, w_il_1, w_ic_ge, w_fall, true_and, and_true, true_or, or_true]
  exact h
theorem b_211_1 {sx : Int → Int} {L : Nat} {x1 : Int} {x2 : Int} {x3 : Int} {x4 : Int} {x5 : Int} {M : Mem} {Q : Option AV → Mem → Prop} 
    (h : Mq sx L K0 R0 210 [vR 106, vI x2, vI x3, vI x4, vI x5] M (fun rv M1 => ∃ r1, rv = some (vI r1) ∧ ((r1 = (0 : Int) → Rn sx L K0 R0 211 2 [vR 106, vI x1, vI x2, vI x3, vI x4, vI x5] [] M1 Q) ∧ (¬ (r1 = (0 : Int)) → Rn sx L K0 R0 211 2 [vR 106, vI x1, vI x2, vI x3, vI x4, vI x5] [] (mset (mset (mset (mset (mset M1 104 54 x1) 104 55 x2) 104 56 x3) 104 57 x4) 104 58 x5) Q)))) : Rn sx L K0 R0 211 1 [vR 106, vI x1, vI x2, vI x3, vI x4, vI x5] [] M Q := by
  refine Rn_w (by decide) ?_
  show wpc sx L K0 R0 211 [(16, 1, .aload_n 0, []), (17, 1, .iload_n 2, []), (18, 1, .iload_n 3, []), (19, 2, .iload 4, []), (21, 2, .iload 5, []), (23, 3, .invokevirtual 361, [210, 1659, 4]), (26, 3, .ifCond .eq 30, [2]), (29, 1, .aload_n 0, []), (30, 1, .iload_n 1, []), (31, 3, .putfield 358, [9, 54, 1208]), (34, 1, .aload_n 0, []), (35, 1, .iload_n 2, []), (36, 3, .putfield 365, [9, 55, 1209]), (39, 1, .aload_n 0, []), (40, 1, .iload_n 3, []), (41, 3, .putfield 368, [9, 56, 1210]), (44, 1, .aload_n 0, []), (45, 2, .iload 4, []), (47, 3, .putfield 371, [9, 57, 1211]), (50, 1, .aload_n 0, []), (51, 2, .iload 5, []), (53, 3, .putfield 374, [9, 58, 1212])] 2 [vR 106, vI x1, vI x2, vI x3, vI x4, vI x5] [] M Q
  simp only [w_al_0, w_il_2, w_il_3, w_il_4, w_il_5, w_ivv_4 (c2I _) (c2I _) (c2I _) (c2I _) cs0, mk_210, kin_T (ks_104), rk_210, rvk2, List.cons_append, List.nil_append, w_if_eq, w_il_1, w_pf_9_54, w_pf_9_55, w_pf_9_56, w_pf_9_57, w_pf_9_58, w_fall, true_and, and_true, true_or, or_true]
  exact h
theorem b_211_2 {sx : Int → Int} {L : Nat} {x1 : Int} {x2 : Int} {x3 : Int} {x4 : Int} {x5 : Int} {M : Mem} {Q : Option AV → Mem → Prop} 
    (h : Q none M) : Rn sx L K0 R0 211 2 [vR 106, vI x1, vI x2, vI x3, vI x4, vI x5] [] M Q := by
  refine Rn_w (by decide) ?_
  show wpc sx L K0 R0 211 [(56, 1, .return_, [])] 0 [vR 106, vI x1, vI x2, vI x3, vI x4, vI x5] [] M Q
  simp only [w_ret0 rk_211, true_and, and_true, true_or, or_true]
  exact h
theorem b_212_0 {sx : Int → Int} {L : Nat}  {M : Mem} {Q : Option AV → Mem → Prop} 
    (h : Mq sx L K0 R0 154 [vR 106] M (fun rv M1 => ∃ r1, rv = some (vI r1) ∧ (Rn sx L K0 R0 212 1 [vR 106, vI r1, vI 0, vU, vU, vU] [] (mset M1 104 54 (-1)) Q))) : Rn sx L K0 R0 212 0 [vR 106, vU, vU, vU, vU, vU] [] M Q := by
  refine Rn_w (by decide) ?_
  show wpc sx L K0 R0 212 [(0, 1, .aload_n 0, []), (1, 3, .invokevirtual 196, [154, 1417, 0]), (4, 1, .istore_n 1, []), (5, 1, .aload_n 0, []), (6, 1, .iconst (-1), []), (7, 3, .putfield 358, [9, 54, 1208]), (10, 1, .iconst 0, []), (11, 1, .istore_n 2, [])] 1 [vR 106, vU, vU, vU, vU, vU] [] M Q
  simp only [w_al_0, w_ivv_0  cs0, mk_154, kin_T (ks_104), rk_154, rvk1, List.cons_append, List.nil_append, w_is_1 (c2R _), w_iconst, w_pf_9_54, w_is_2 (c2I _), w_fall, true_and, and_true, true_or, or_true]
  exact h
theorem b_212_1 {sx : Int → Int} {L : Nat} {x1 : Int} {x2 : Int} {u3 : AV} {u4 : AV} {u5 : AV} {M : Mem} {Q : Option AV → Mem → Prop} (hu3 : cat2 u3 = false) (hu4 : cat2 u4 = false) (hu5 : cat2 u5 = false)
    (h : ((9 : Int) ≤ x2 → Rn sx L K0 R0 212 11 [vR 106, vI x1, vI x2, u3, u4, u5] [] M Q) ∧ (¬ ((9 : Int) ≤ x2) → ((0 : Int) ≤ x2 ∧ (0 : Int) < (3 : Int)) ∧ ((¬ x2 / 3 = M 104 22 → Rn sx L K0 R0 212 2 [vR 106, vI x1, vI x2, u3, u4, u5] [] M Q) ∧ (¬ (¬ x2 / 3 = M 104 22) → Rn sx L K0 R0 212 3 [vR 106, vI x1, vI x2, u3, u4, u5] [vI 0] M Q)))) : Rn sx L K0 R0 212 1 [vR 106, vI x1, vI x2, u3, u4, u5] [] M Q := by
  refine Rn_w (by decide) ?_
  show wpc sx L K0 R0 212 [(12, 1, .iload_n 2, []), (13, 2, .bipush 9, []), (15, 3, .if_icmp .ge 126, [11]), (18, 1, .iload_n 2, []), (19, 1, .iconst 3, []), (20, 1, .idiv, []), (21, 1, .aload_n 0, []), (22, 3, .getfield 199, [9, 22, 1176]), (25, 3, .if_icmp .ne 7, [2]), (28, 1, .iconst 0, []), (29, 3, .goto 4, [3])] 0 [vR 106, vI x1, vI x2, u3, u4, u5] [] M Q
  simp only [w_il_2, w_bipush, w_ic_ge, w_iconst, w_idiv, w_al_0, w_gf_9_22, kin_T (ks_104), w_ic_ne, w_goto, true_and, and_true, true_or, or_true]
  exact h
theorem b_212_2 {sx : Int → Int} {L : Nat} {x1 : Int} {x2 : Int} {u3 : AV} {u4 : AV} {u5 : AV} {M : Mem} {Q : Option AV → Mem → Prop} (hu3 : cat2 u3 = false) (hu4 : cat2 u4 = false) (hu5 : cat2 u5 = false)
    (h : Rn sx L K0 R0 212 3 [vR 106, vI x1, vI x2, u3, u4, u5] [vI 1] M Q) : Rn sx L K0 R0 212 2 [vR 106, vI x1, vI x2, u3, u4, u5] [] M Q := by
  refine Rn_w (by decide) ?_
  show wpc sx L K0 R0 212 [(32, 1, .iconst 1, [])] 3 [vR 106, vI x1, vI x2, u3, u4, u5] [] M Q
  simp only [w_iconst, w_fall, true_and, and_true, true_or, or_true]
  exact h
theorem b_212_3 {sx : Int → Int} {L : Nat} {x1 : Int} {x2 : Int} {u3 : AV} {u4 : AV} {u5 : AV} {y0 : Int} {M : Mem} {Q : Option AV → Mem → Prop} (hu3 : cat2 u3 = false) (hu4 : cat2 u4 = false) (hu5 : cat2 u5 = false)
    (h : ((0 : Int) ≤ x2 ∧ (0 : Int) < (3 : Int)) ∧ ((¬ x2 % 3 = M 104 23 → Rn sx L K0 R0 212 4 [vR 106, vI x1, vI x2, u3, u4, u5] [vI y0] M Q) ∧ (¬ (¬ x2 % 3 = M 104 23) → Rn sx L K0 R0 212 5 [vR 106, vI x1, vI x2, u3, u4, u5] [vI 0, vI y0] M Q))) : Rn sx L K0 R0 212 3 [vR 106, vI x1, vI x2, u3, u4, u5] [vI y0] M Q := by
  refine Rn_w (by decide) ?_
  show wpc sx L K0 R0 212 [(33, 1, .iload_n 2, []), (34, 1, .iconst 3, []), (35, 1, .irem, []), (36, 1, .aload_n 0, []), (37, 3, .getfield 202, [9, 23, 1177]), (40, 3, .if_icmp .ne 7, [4]), (43, 1, .iconst 0, []), (44, 3, .goto 4, [5])] 0 [vR 106, vI x1, vI x2, u3, u4, u5] [vI y0] M Q
  simp only [w_il_2, w_iconst, w_irem, w_al_0, w_gf_9_23, kin_T (ks_104), w_ic_ne, w_goto, true_and, and_true, true_or, or_true]
  exact h
theorem b_212_4 {sx : Int → Int} {L : Nat} {x1 : Int} {x2 : Int} {u3 : AV} {u4 : AV} {u5 : AV} {y0 : Int} {M : Mem} {Q : Option AV → Mem → Prop} (hu3 : cat2 u3 = false) (hu4 : cat2 u4 = false) (hu5 : cat2 u5 = false)
    (h : Rn sx L K0 R0 212 5 [vR 106, vI x1, vI x2, u3, u4, u5] [vI 1, vI y0] M Q) : Rn sx L K0 R0 212 4 [vR 106, vI x1, vI x2, u3, u4, u5] [vI y0] M Q := by
  refine Rn_w (by decide) ?_
  show wpc sx L K0 R0 212 [(47, 1, .iconst 1, [])] 5 [vR 106, vI x1, vI x2, u3, u4, u5] [vI y0] M Q
  simp only [w_iconst, w_fall, true_and, and_true, true_or, or_true]
  exact h
theorem b_212_5 {sx : Int → Int} {L : Nat} {x1 : Int} {x2 : Int} {u3 : AV} {u4 : AV} {u5 : AV} {y0 : Int} {y1 : Int} {M : Mem} {Q : Option AV → Mem → Prop} (hu3 : cat2 u3 = false) (hu4 : cat2 u4 = false) (hu5 : cat2 u5 = false)
    (h : inR (y0 + y1) ∧ (((0 : Int) ≤ x2 ∧ (0 : Int) < (3 : Int)) ∧ (((0 : Int) ≤ x2 ∧ (0 : Int) < (3 : Int)) ∧ (Mq sx L K0 R0 211 [vR 106, vI (y0 + y1), vI (x2 / 3), vI (x2 % 3), vI (-1), vI (-1)] M (fun rv M1 => rv = none ∧ (Rn sx L K0 R0 212 6 [vR 106, vI x1, vI x2, vI (y0 + y1), vI 0, u5] [] M1 Q)))))) : Rn sx L K0 R0 212 5 [vR 106, vI x1, vI x2, u3, u4, u5] [vI y1, vI y0] M Q := by
  refine Rn_w (by decide) ?_
  show wpc sx L K0 R0 212 [(48, 1, .iadd, []), (49, 1, .istore_n 3, []), (50, 1, .aload_n 0, []), (51, 1, .iload_n 3, []), (52, 1, .iload_n 2, []), (53, 1, .iconst 3, []), (54, 1, .idiv, []), (55, 1, .iload_n 2, []), (56, 1, .iconst 3, []), (57, 1, .irem, []), (58, 1, .iconst (-1), []), (59, 1, .iconst (-1), []), (60, 3, .invokevirtual 377, [211, 1655, 5]), (63, 1, .iconst 0, []), (64, 2, .istore 4, [])] 6 [vR 106, vI x1, vI x2, u3, u4, u5] [vI y1, vI y0] M Q
  simp only [w_iadd, w_is_3 (c2I _), w_al_0, w_il_3, w_il_2, w_iconst, w_idiv, w_irem, w_ivv_5 (c2I _) (c2I _) (c2I _) (c2I _) (c2I _) cs0, mk_211, kin_T (ks_104), rk_211, rvk0, List.nil_append, w_is_4 (c2I _), w_fall, true_and, and_true, true_or, or_true]
  exact h
theorem b_212_6 {sx : Int → Int} {L : Nat} {x1 : Int} {x2 : Int} {x3 : Int} {x4 : Int} {u5 : AV} {M : Mem} {Q : Option AV → Mem → Prop} (hu5 : cat2 u5 = false)
    (h : ((8 : Int) ≤ x4 → Rn sx L K0 R0 212 10 [vR 106, vI x1, vI x2, vI x3, vI x4, u5] [] M Q) ∧ (¬ ((8 : Int) ≤ x4) → ((2 : Int) ≤ x3 → Rn sx L K0 R0 212 10 [vR 106, vI x1, vI x2, vI x3, vI x4, u5] [] M Q) ∧ (¬ ((2 : Int) ≤ x3) → inR (x4 + 1) ∧ (Rn sx L K0 R0 212 7 [vR 106, vI x1, vI x2, vI x3, vI x4, vI (x4 + 1)] [] M Q)))) : Rn sx L K0 R0 212 6 [vR 106, vI x1, vI x2, vI x3, vI x4, u5] [] M Q := by
  refine Rn_w (by decide) ?_
  show wpc sx L K0 R0 212 [(66, 2, .iload 4, []), (68, 2, .bipush 8, []), (70, 3, .if_icmp .ge 65, [10]), (73, 1, .iload_n 3, []), (74, 1, .iconst 2, []), (75, 3, .if_icmp .ge 60, [10]), (78, 2, .iload 4, []), (80, 1, .iconst 1, []), (81, 1, .iadd, []), (82, 2, .istore 5, [])] 7 [vR 106, vI x1, vI x2, vI x3, vI x4, u5] [] M Q
  simp only [w_il_4, w_bipush, w_ic_ge, w_il_3, w_iconst, w_iadd, w_is_5 (c2I _), w_fall, true_and, and_true, true_or, or_true]
  exact h
set_option maxRecDepth 8192 in
theorem b_212_7 {sx : Int → Int} {L : Nat} {x1 : Int} {x2 : Int} {x3 : Int} {x4 : Int} {x5 : Int} {M : Mem} {Q : Option AV → Mem → Prop} 
    (h : ((8 : Int) ≤ x5 → Rn sx L K0 R0 212 9 [vR 106, vI x1, vI x2, vI x3, vI x4, vI x5] [] M Q) ∧ (¬ ((8 : Int) ≤ x5) → ((0 : Int) ≤ x1 ∧ (0 : Int) ≤ x4 ∧ x4 ≤ (30 : Int)) ∧ (((0 : Int) ≤ x1 ∧ (0 : Int) ≤ x5 ∧ x5 ≤ (30 : Int)) ∧ ((¬ iAnd (iAnd (x1 / 2 ^ (x4).toNat) (x1 / 2 ^ (x5).toNat)) 1 = (1 : Int) → Rn sx L K0 R0 212 8 [vR 106, vI x1, vI x2, vI x3, vI x4, vI x5] [] M Q) ∧ (¬ (¬ iAnd (iAnd (x1 / 2 ^ (x4).toNat) (x1 / 2 ^ (x5).toNat)) 1 = (1 : Int)) → inR (x3 + 1) ∧ (((0 : Int) ≤ x2 ∧ (0 : Int) < (3 : Int)) ∧ (((0 : Int) ≤ x2 ∧ (0 : Int) < (3 : Int)) ∧ (Mq sx L K0 R0 211 [vR 106, vI (x3 + 1), vI (x2 / 3), vI (x2 % 3), vI x4, vI x5] M (fun rv M1 => rv = none ∧ (Rn sx L K0 R0 212 8 [vR 106, vI x1, vI x2, vI x3, vI x4, vI x5] [] M1 Q)))))))))) : Rn sx L K0 R0 212 7 [vR 106, vI x1, vI x2, vI x3, vI x4, vI x5] [] M Q := by
  refine Rn_w (by decide) ?_
  show wpc sx L K0 R0 212 [(84, 2, .iload 5, []), (86, 2, .bipush 8, []), (88, 3, .if_icmp .ge 41, [9]), (91, 1, .iload_n 1, []), (92, 2, .iload 4, []), (94, 1, .ishr, []), (95, 1, .iload_n 1, []), (96, 2, .iload 5, []), (98, 1, .ishr, []), (99, 1, .iand, []), (100, 1, .iconst 1, []), (101, 1, .iand, []), (102, 1, .iconst 1, []), (103, 3, .if_icmp .ne 20, [8]), (106, 1, .aload_n 0, []), (107, 1, .iload_n 3, []), (108, 1, .iconst 1, []), (109, 1, .iadd, []), (110, 1, .iload_n 2, []), (111, 1, .iconst 3, []), (112, 1, .idiv, []), (113, 1, .iload_n 2, []), (114, 1, .iconst 3, []), (115, 1, .irem, []), (116, 2, .iload 4, []), (118, 2, .iload 5, []), (120, 3, .invokevirtual 377, [211, 1655, 5])] 8 [vR 106, vI x1, vI x2, vI x3, vI x4, vI x5] [] M Q
  simp only [w_il_5, w_bipush, w_ic_ge, w_il_1, w_il_4, w_ishr, w_iand, w_iconst, w_ic_ne, w_al_0, w_il_3, w_iadd, w_il_2, w_idiv, w_irem, w_ivv_5 (c2I _) (c2I _) (c2I _) (c2I _) (c2I _) cs0, mk_211, kin_T (ks_104), rk_211, rvk0, List.nil_append, w_fall, true_and, and_true, true_or, or_true]
  exact h
theorem b_212_8 {sx : Int → Int} {L : Nat} {x1 : Int} {x2 : Int} {x3 : Int} {x4 : Int} {x5 : Int} {M : Mem} {Q : Option AV → Mem → Prop} 
    (h : inR (x5 + 1) ∧ (Rn sx L K0 R0 212 7 [vR 106, vI x1, vI x2, vI x3, vI x4, vI (x5 + 1)] [] M Q)) : Rn sx L K0 R0 212 8 [vR 106, vI x1, vI x2, vI x3, vI x4, vI x5] [] M Q := by
  refine Rn_w (by decide) ?_
  show wpc sx L K0 R0 212 [(123, 3, .iinc 5 1, []), (126, 3, .goto (-42), [7])] 0 [vR 106, vI x1, vI x2, vI x3, vI x4, vI x5] [] M Q
  simp only [w_inc_5 (c2I _), w_goto, true_and, and_true, true_or, or_true]
  exact h
theorem b_212_9 {sx : Int → Int} {L : Nat} {x1 : Int} {x2 : Int} {x3 : Int} {x4 : Int} {x5 : Int} {M : Mem} {Q : Option AV → Mem → Prop} 
    (h : inR (x4 + 1) ∧ (Rn sx L K0 R0 212 6 [vR 106, vI x1, vI x2, vI x3, vI (x4 + 1), vI x5] [] M Q)) : Rn sx L K0 R0 212 9 [vR 106, vI x1, vI x2, vI x3, vI x4, vI x5] [] M Q := by
  refine Rn_w (by decide) ?_
  show wpc sx L K0 R0 212 [(129, 3, .iinc 4 1, []), (132, 3, .goto (-66), [6])] 0 [vR 106, vI x1, vI x2, vI x3, vI x4, vI x5] [] M Q
  simp only [w_inc_4 (c2I _), w_goto, true_and, and_true, true_or, or_true]
  exact h
theorem b_212_10 {sx : Int → Int} {L : Nat} {x1 : Int} {x2 : Int} {x3 : Int} {x4 : Int} {u5 : AV} {M : Mem} {Q : Option AV → Mem → Prop} (hu5 : cat2 u5 = false)
    (h : inR (x2 + 1) ∧ (Rn sx L K0 R0 212 1 [vR 106, vI x1, vI (x2 + 1), vI x3, vI x4, u5] [] M Q)) : Rn sx L K0 R0 212 10 [vR 106, vI x1, vI x2, vI x3, vI x4, u5] [] M Q := by
  refine Rn_w (by decide) ?_
  show wpc sx L K0 R0 212 [(135, 3, .iinc 2 1, []), (138, 3, .goto (-126), [1])] 0 [vR 106, vI x1, vI x2, vI x3, vI x4, u5] [] M Q
  simp only [w_inc_2 (c2I _), w_goto, true_and, and_true, true_or, or_true]
  exact h
theorem b_212_11 {sx : Int → Int} {L : Nat} {x1 : Int} {x2 : Int} {u3 : AV} {u4 : AV} {u5 : AV} {M : Mem} {Q : Option AV → Mem → Prop} (hu3 : cat2 u3 = false) (hu4 : cat2 u4 = false) (hu5 : cat2 u5 = false)
    (h : Q none M) : Rn sx L K0 R0 212 11 [vR 106, vI x1, vI x2, u3, u4, u5] [] M Q := by
  refine Rn_w (by decide) ?_
  show wpc sx L K0 R0 212 [(141, 1, .return_, [])] 0 [vR 106, vI x1, vI x2, u3, u4, u5] [] M Q
  simp only [w_ret0 rk_212, true_and, and_true, true_or, or_true]
  exact h
theorem b_213_0 {sx : Int → Int} {L : Nat} {x1 : Int} {M : Mem} {Q : Option AV → Mem → Prop} 
    (h : Mq sx L K0 R0 137 [vI x1, vI 0, vI 4] M (fun rv M1 => ∃ r1, rv = some (vI r1) ∧ ((¬ r1 = (0 : Int) → Rn sx L K0 R0 213 1 [vR 106, vI x1] [] M1 Q) ∧ (¬ (¬ r1 = (0 : Int)) → Q (some (vI (-2))) M1)))) : Rn sx L K0 R0 213 0 [vR 106, vI x1] [] M Q := by
  refine Rn_w (by decide) ?_
  show wpc sx L K0 R0 213 [(0, 1, .iload_n 1, []), (1, 1, .iconst 0, []), (2, 1, .iconst 4, []), (3, 3, .invokestatic 135, [137, 1355, 3]), (6, 3, .ifCond .ne 6, [1]), (9, 2, .bipush (-2), []), (11, 1, .ireturn, [])] 0 [vR 106, vI x1] [] M Q
  simp only [w_il_1, w_iconst, w_ivs_3 (c2I _) (c2I _) (c2I _) cs0, rk_137, rvk2, List.cons_append, List.nil_append, w_if_ne, w_bipush, w_ret1 rk_213, true_and, and_true, true_or, or_true]
  exact h
theorem b_213_1 {sx : Int → Int} {L : Nat} {x1 : Int} {M : Mem} {Q : Option AV → Mem → Prop} 
    (h : Mq sx L K0 R0 212 [vR 106] M (fun rv M1 => rv = none ∧ ((¬ x1 = (0 : Int) → Rn sx L K0 R0 213 2 [vR 106, vI x1] [] M1 Q) ∧ (¬ (¬ x1 = (0 : Int)) → Q (some (vI (M1 104 54))) M1)))) : Rn sx L K0 R0 213 1 [vR 106, vI x1] [] M Q := by
  refine Rn_w (by decide) ?_
  show wpc sx L K0 R0 213 [(12, 1, .aload_n 0, []), (13, 3, .invokevirtual 381, [212, 1651, 0]), (16, 1, .iload_n 1, []), (17, 3, .ifCond .ne 8, [2]), (20, 1, .aload_n 0, []), (21, 3, .getfield 358, [9, 54, 1208]), (24, 1, .ireturn, [])] 0 [vR 106, vI x1] [] M Q
  simp only [w_al_0, w_ivv_0  cs0, mk_212, kin_T (ks_104), rk_212, rvk0, List.nil_append, w_il_1, w_if_ne, w_gf_9_54, w_ret1 rk_213, true_and, and_true, true_or, or_true]
  exact h
theorem b_213_2 {sx : Int → Int} {L : Nat} {x1 : Int} {M : Mem} {Q : Option AV → Mem → Prop} 
    (h : (¬ M 104 54 = (-1 : Int) → Rn sx L K0 R0 213 3 [vR 106, vI x1] [] M Q) ∧ (¬ (¬ M 104 54 = (-1 : Int)) → Rn sx L K0 R0 213 7 [vR 106, vI x1] [vI (-3)] M Q)) : Rn sx L K0 R0 213 2 [vR 106, vI x1] [] M Q := by
  refine Rn_w (by decide) ?_
  show wpc sx L K0 R0 213 [(25, 1, .aload_n 0, []), (26, 3, .getfield 358, [9, 54, 1208]), (29, 1, .iconst (-1), []), (30, 3, .if_icmp .ne 8, [3]), (33, 2, .bipush (-3), []), (35, 3, .goto 43, [7])] 0 [vR 106, vI x1] [] M Q
  simp only [w_al_0, w_gf_9_54, kin_T (ks_104), w_iconst, w_ic_ne, w_bipush, w_goto, true_and, and_true, true_or, or_true]
  exact h
theorem b_213_3 {sx : Int → Int} {L : Nat} {x1 : Int} {M : Mem} {Q : Option AV → Mem → Prop} 
    (h : (¬ x1 = (1 : Int) → Rn sx L K0 R0 213 4 [vR 106, vI x1] [] M Q) ∧ (¬ (¬ x1 = (1 : Int)) → Rn sx L K0 R0 213 7 [vR 106, vI x1] [vI (M 104 55)] M Q)) : Rn sx L K0 R0 213 3 [vR 106, vI x1] [] M Q := by
  refine Rn_w (by decide) ?_
  show wpc sx L K0 R0 213 [(38, 1, .iload_n 1, []), (39, 1, .iconst 1, []), (40, 3, .if_icmp .ne 10, [4]), (43, 1, .aload_n 0, []), (44, 3, .getfield 365, [9, 55, 1209]), (47, 3, .goto 31, [7])] 0 [vR 106, vI x1] [] M Q
  simp only [w_il_1, w_iconst, w_ic_ne, w_al_0, w_gf_9_55, kin_T (ks_104), w_goto, true_and, and_true, true_or, or_true]
  exact h
theorem b_213_4 {sx : Int → Int} {L : Nat} {x1 : Int} {M : Mem} {Q : Option AV → Mem → Prop} 
    (h : (¬ x1 = (2 : Int) → Rn sx L K0 R0 213 5 [vR 106, vI x1] [] M Q) ∧ (¬ (¬ x1 = (2 : Int)) → Rn sx L K0 R0 213 7 [vR 106, vI x1] [vI (M 104 56)] M Q)) : Rn sx L K0 R0 213 4 [vR 106, vI x1] [] M Q := by
  refine Rn_w (by decide) ?_
  show wpc sx L K0 R0 213 [(50, 1, .iload_n 1, []), (51, 1, .iconst 2, []), (52, 3, .if_icmp .ne 10, [5]), (55, 1, .aload_n 0, []), (56, 3, .getfield 368, [9, 56, 1210]), (59, 3, .goto 19, [7])] 0 [vR 106, vI x1] [] M Q
  simp only [w_il_1, w_iconst, w_ic_ne, w_al_0, w_gf_9_56, kin_T (ks_104), w_goto, true_and, and_true, true_or, or_true]
  exact h
theorem b_213_5 {sx : Int → Int} {L : Nat} {x1 : Int} {M : Mem} {Q : Option AV → Mem → Prop} 
    (h : (¬ x1 = (3 : Int) → Rn sx L K0 R0 213 6 [vR 106, vI x1] [] M Q) ∧ (¬ (¬ x1 = (3 : Int)) → Rn sx L K0 R0 213 7 [vR 106, vI x1] [vI (M 104 57)] M Q)) : Rn sx L K0 R0 213 5 [vR 106, vI x1] [] M Q := by
  refine Rn_w (by decide) ?_
  show wpc sx L K0 R0 213 [(62, 1, .iload_n 1, []), (63, 1, .iconst 3, []), (64, 3, .if_icmp .ne 10, [6]), (67, 1, .aload_n 0, []), (68, 3, .getfield 371, [9, 57, 1211]), (71, 3, .goto 7, [7])] 0 [vR 106, vI x1] [] M Q
  simp only [w_il_1, w_iconst, w_ic_ne, w_al_0, w_gf_9_57, kin_T (ks_104), w_goto, true_and, and_true, true_or, or_true]
  exact h
theorem b_213_6 {sx : Int → Int} {L : Nat} {x1 : Int} {M : Mem} {Q : Option AV → Mem → Prop} 
    (h : Rn sx L K0 R0 213 7 [vR 106, vI x1] [vI (M 104 58)] M Q) : Rn sx L K0 R0 213 6 [vR 106, vI x1] [] M Q := by
  refine Rn_w (by decide) ?_
  show wpc sx L K0 R0 213 [(74, 1, .aload_n 0, []), (75, 3, .getfield 374, [9, 58, 1212])] 7 [vR 106, vI x1] [] M Q
  simp only [w_al_0, w_gf_9_58, kin_T (ks_104), w_fall, true_and, and_true, true_or, or_true]
  exact h
theorem b_213_7 {sx : Int → Int} {L : Nat} {x1 : Int} {y0 : Int} {M : Mem} {Q : Option AV → Mem → Prop} 
    (h : Q (some (vI y0)) M) : Rn sx L K0 R0 213 7 [vR 106, vI x1] [vI y0] M Q := by
  refine Rn_w (by decide) ?_
  show wpc sx L K0 R0 213 [(78, 1, .ireturn, [])] 0 [vR 106, vI x1] [vI y0] M Q
  simp only [w_ret1 rk_213, true_and, and_true, true_or, or_true]
  exact h
theorem b_214_0 {sx : Int → Int} {L : Nat} {x1 : Int} {M : Mem} {Q : Option AV → Mem → Prop} 
    (h : inR ((-10 : Int) - x1) ∧ (Q (some (vI ((-10 : Int) - x1))) (mset M 104 64 x1))) : Rn sx L K0 R0 214 0 [vR 106, vI x1] [] M Q := by
  refine Rn_w (by decide) ?_
  show wpc sx L K0 R0 214 [(0, 1, .aload_n 0, []), (1, 1, .iload_n 1, []), (2, 3, .putfield 384, [9, 64, 1218]), (5, 2, .bipush (-10), []), (7, 1, .iload_n 1, []), (8, 1, .isub, []), (9, 1, .ireturn, [])] 0 [vR 106, vI x1] [] M Q
  simp only [w_al_0, w_il_1, w_pf_9_64, kin_T (ks_104), w_bipush, w_isub, w_ret1 rk_214, true_and, and_true, true_or, or_true]
  exact h
theorem b_215_0 {sx : Int → Int} {L : Nat} {x0 : Int} {M : Mem} {Q : Option AV → Mem → Prop} 
    (h : Mq sx L K0 R0 137 [vI x0, vI 0, vI 3] M (fun rv M1 => ∃ r1, rv = some (vI r1) ∧ ((r1 = 0 ∨ r1 = 1) ∧ (Q (some (vI r1)) M1)))) : Rn sx L K0 R0 215 0 [vI x0] [] M Q := by
  refine Rn_w (by decide) ?_
  show wpc sx L K0 R0 215 [(0, 1, .iload_n 0, []), (1, 1, .iconst 0, []), (2, 1, .iconst 3, []), (3, 3, .invokestatic 135, [137, 1355, 3]), (6, 1, .ireturn, [])] 0 [vI x0] [] M Q
  simp only [w_il_0, w_iconst, w_ivs_3 (c2I _) (c2I _) (c2I _) cs0, rk_137, rvk2, List.cons_append, List.nil_append, w_ret2 rk_215, true_and, and_true, true_or, or_true]
  exact h
theorem b_216_0 {sx : Int → Int} {L : Nat} {x1 : Int} {x2 : Int} {x3 : Int} {M : Mem} {Q : Option AV → Mem → Prop} 
    (h : Mq sx L K0 R0 215 [vI x1] M (fun rv M1 => ∃ r1, rv = some (vI r1) ∧ ((r1 = (0 : Int) → Rn sx L K0 R0 216 1 [vR 106, vI x1, vI x2, vI x3, vU] [] M1 Q) ∧ (¬ (r1 = (0 : Int)) → Mq sx L K0 R0 137 [vI x2, vI 0, vI 2] M1 (fun rv M2 => ∃ r2, rv = some (vI r2) ∧ ((r2 = (0 : Int) → Rn sx L K0 R0 216 1 [vR 106, vI x1, vI x2, vI x3, vU] [] M2 Q) ∧ (¬ (r2 = (0 : Int)) → (x3 ≤ (60 : Int) → Rn sx L K0 R0 216 2 [vR 106, vI x1, vI x2, vI x3, vU] [] M2 Q) ∧ (¬ (x3 ≤ (60 : Int)) → Rn sx L K0 R0 216 1 [vR 106, vI x1, vI x2, vI x3, vU] [] M2 Q)))))))) : Rn sx L K0 R0 216 0 [vR 106, vI x1, vI x2, vI x3, vU] [] M Q := by
  refine Rn_w (by decide) ?_
  show wpc sx L K0 R0 216 [(0, 1, .iload_n 1, []), (1, 3, .invokestatic 352, [215, 1640, 1]), (4, 3, .ifCond .eq 18, [1]), (7, 1, .iload_n 2, []), (8, 1, .iconst 0, []), (9, 1, .iconst 2, []), (10, 3, .invokestatic 135, [137, 1355, 3]), (13, 3, .ifCond .eq 9, [1]), (16, 1, .iload_n 3, []), (17, 2, .bipush 60, []), (19, 3, .if_icmp .le 6, [2])] 1 [vR 106, vI x1, vI x2, vI x3, vU] [] M Q
  simp only [w_il_1, w_ivs_1 (c2I _) cs0, rk_215, rvk2, List.cons_append, List.nil_append, w_if_eq, w_il_2, w_iconst, w_ivs_3 (c2I _) (c2I _) (c2I _) cs0, rk_137, w_il_3, w_bipush, w_ic_le, w_fall, true_and, and_true, true_or, or_true]
  exact h
theorem b_216_1 {sx : Int → Int} {L : Nat} {x1 : Int} {x2 : Int} {x3 : Int} {M : Mem} {Q : Option AV → Mem → Prop} 
    (h : Q (some (vI (-2))) M) : Rn sx L K0 R0 216 1 [vR 106, vI x1, vI x2, vI x3, vU] [] M Q := by
  refine Rn_w (by decide) ?_
  show wpc sx L K0 R0 216 [(22, 2, .bipush (-2), []), (24, 1, .ireturn, [])] 0 [vR 106, vI x1, vI x2, vI x3, vU] [] M Q
  simp only [w_bipush, w_ret1 rk_216, true_and, and_true, true_or, or_true]
  exact h
theorem b_216_2 {sx : Int → Int} {L : Nat} {x1 : Int} {x2 : Int} {x3 : Int} {M : Mem} {Q : Option AV → Mem → Prop} 
    (h : ((0 : Int) ≤ x3 → Rn sx L K0 R0 216 3 [vR 106, vI x1, vI x2, vI x3, vU] [] M Q) ∧ (¬ ((0 : Int) ≤ x3) → Mq sx L K0 R0 214 [vR 106, vI 5] M (fun rv M1 => ∃ r1, rv = some (vI r1) ∧ (Q (some (vI r1)) M1)))) : Rn sx L K0 R0 216 2 [vR 106, vI x1, vI x2, vI x3, vU] [] M Q := by
  refine Rn_w (by decide) ?_
  show wpc sx L K0 R0 216 [(25, 1, .iload_n 3, []), (26, 3, .ifCond .ge 9, [3]), (29, 1, .aload_n 0, []), (30, 1, .iconst 5, []), (31, 3, .invokevirtual 355, [214, 1643, 1]), (34, 1, .ireturn, [])] 0 [vR 106, vI x1, vI x2, vI x3, vU] [] M Q
  simp only [w_il_3, w_if_ge, w_al_0, w_iconst, w_ivv_1 (c2I _) cs0, mk_214, kin_T (ks_104), rk_214, rvk1, List.cons_append, List.nil_append, w_ret1 rk_216, true_and, and_true, true_or, or_true]
  exact h
theorem b_216_3 {sx : Int → Int} {L : Nat} {x1 : Int} {x2 : Int} {x3 : Int} {M : Mem} {Q : Option AV → Mem → Prop} 
    (h : ((0 : Int) ≤ x1 ∧ x1 < (4 : Int)) ∧ (((0 : Int) ≤ x1 ∧ x1 < (4 : Int)) ∧ (((0 : Int) ≤ x1 ∧ x1 < (4 : Int)) ∧ (Rn sx L K0 R0 216 4 [vR 106, vI x1, vI x2, vI x3, vI 0] [] (mset (mset (mset M 139 x1 1) 140 x1 x2) 141 x1 x3) Q)))) : Rn sx L K0 R0 216 3 [vR 106, vI x1, vI x2, vI x3, vU] [] M Q := by
  refine Rn_w (by decide) ?_
  show wpc sx L K0 R0 216 [(35, 1, .aload_n 0, []), (36, 3, .getfield 120, [9, 59, 1213]), (39, 1, .iload_n 1, []), (40, 1, .iconst 1, []), (41, 1, .bastore, []), (42, 1, .aload_n 0, []), (43, 3, .getfield 123, [9, 60, 1214]), (46, 1, .iload_n 1, []), (47, 1, .iload_n 2, []), (48, 1, .iastore, []), (49, 1, .aload_n 0, []), (50, 3, .getfield 126, [9, 61, 1215]), (53, 1, .iload_n 1, []), (54, 1, .iload_n 3, []), (55, 1, .iastore, []), (56, 1, .iconst 0, []), (57, 2, .istore 4, [])] 4 [vR 106, vI x1, vI x2, vI x3, vU] [] M Q
  simp only [w_al_0, w_gf_9_59, kin_T (ks_104), rs_104_59, w_il_1, w_iconst, w_bast, arr_T (ks_139), b01_1, w_gf_9_60, rs_104_60, w_il_2, w_iast, arr_T (ks_140), w_gf_9_61, rs_104_61, w_il_3, arr_T (ks_141), w_is_4 (c2I _), w_fall, true_and, and_true, true_or, or_true]
  exact h
theorem b_216_4 {sx : Int → Int} {L : Nat} {x1 : Int} {x2 : Int} {x3 : Int} {x4 : Int} {M : Mem} {Q : Option AV → Mem → Prop} 
    (h : ((60 : Int) ≤ x4 → Rn sx L K0 R0 216 5 [vR 106, vI x1, vI x2, vI x3, vI x4] [] M Q) ∧ (¬ ((60 : Int) ≤ x4) → inR ((60 : Int) * x1) ∧ (inR (((60 : Int) * x1) + x4) ∧ (((0 : Int) ≤ ((60 : Int) * x1) + x4 ∧ ((60 : Int) * x1) + x4 < (240 : Int)) ∧ (inR (x4 + 1) ∧ (Rn sx L K0 R0 216 4 [vR 106, vI x1, vI x2, vI x3, vI (x4 + 1)] [] (mset M 142 (((60 : Int) * x1) + x4) 0) Q)))))) : Rn sx L K0 R0 216 4 [vR 106, vI x1, vI x2, vI x3, vI x4] [] M Q := by
  refine Rn_w (by decide) ?_
  show wpc sx L K0 R0 216 [(59, 2, .iload 4, []), (61, 2, .bipush 60, []), (63, 3, .if_icmp .ge 22, [5]), (66, 1, .aload_n 0, []), (67, 3, .getfield 129, [9, 62, 1216]), (70, 2, .bipush 60, []), (72, 1, .iload_n 1, []), (73, 1, .imul, []), (74, 2, .iload 4, []), (76, 1, .iadd, []), (77, 1, .iconst 0, []), (78, 1, .iastore, []), (79, 3, .iinc 4 1, []), (82, 3, .goto (-23), [4])] 0 [vR 106, vI x1, vI x2, vI x3, vI x4] [] M Q
  simp only [w_il_4, w_bipush, w_ic_ge, w_al_0, w_gf_9_62, kin_T (ks_104), rs_104_62, w_il_1, w_imul, w_iadd, w_iconst, w_iast, arr_T (ks_142), w_inc_4 (c2I _), w_goto, true_and, and_true, true_or, or_true]
  exact h
theorem b_216_5 {sx : Int → Int} {L : Nat} {x1 : Int} {x2 : Int} {x3 : Int} {x4 : Int} {M : Mem} {Q : Option AV → Mem → Prop} 
    (h : Q (some (vI x3)) M) : Rn sx L K0 R0 216 5 [vR 106, vI x1, vI x2, vI x3, vI x4] [] M Q := by
  refine Rn_w (by decide) ?_
  show wpc sx L K0 R0 216 [(85, 1, .iload_n 3, []), (86, 1, .ireturn, [])] 0 [vR 106, vI x1, vI x2, vI x3, vI x4] [] M Q
  simp only [w_il_3, w_ret1 rk_216, true_and, and_true, true_or, or_true]
  exact h
theorem b_217_0 {sx : Int → Int} {L : Nat} {x1 : Int} {M : Mem} {Q : Option AV → Mem → Prop} 
    (h : Mq sx L K0 R0 215 [vI x1] M (fun rv M1 => ∃ r1, rv = some (vI r1) ∧ ((¬ r1 = (0 : Int) → Rn sx L K0 R0 217 1 [vR 106, vI x1] [] M1 Q) ∧ (¬ (¬ r1 = (0 : Int)) → Q (some (vI (-2))) M1)))) : Rn sx L K0 R0 217 0 [vR 106, vI x1] [] M Q := by
  refine Rn_w (by decide) ?_
  show wpc sx L K0 R0 217 [(0, 1, .iload_n 1, []), (1, 3, .invokestatic 352, [215, 1640, 1]), (4, 3, .ifCond .ne 6, [1]), (7, 2, .bipush (-2), []), (9, 1, .ireturn, [])] 0 [vR 106, vI x1] [] M Q
  simp only [w_il_1, w_ivs_1 (c2I _) cs0, rk_215, rvk2, List.cons_append, List.nil_append, w_if_ne, w_bipush, w_ret1 rk_217, true_and, and_true, true_or, or_true]
  exact h
theorem b_217_1 {sx : Int → Int} {L : Nat} {x1 : Int} {M : Mem} {Q : Option AV → Mem → Prop} 
    (h : ((0 : Int) ≤ x1 ∧ x1 < (4 : Int)) ∧ ((¬ M 139 x1 = (0 : Int) → Rn sx L K0 R0 217 2 [vR 106, vI x1] [] M Q) ∧ (¬ (¬ M 139 x1 = (0 : Int)) → Mq sx L K0 R0 214 [vR 106, vI 1] M (fun rv M1 => ∃ r1, rv = some (vI r1) ∧ (Q (some (vI r1)) M1))))) : Rn sx L K0 R0 217 1 [vR 106, vI x1] [] M Q := by
  refine Rn_w (by decide) ?_
  show wpc sx L K0 R0 217 [(10, 1, .aload_n 0, []), (11, 3, .getfield 120, [9, 59, 1213]), (14, 1, .iload_n 1, []), (15, 1, .baload, []), (16, 3, .ifCond .ne 9, [2]), (19, 1, .aload_n 0, []), (20, 1, .iconst 1, []), (21, 3, .invokevirtual 355, [214, 1643, 1]), (24, 1, .ireturn, [])] 0 [vR 106, vI x1] [] M Q
  simp only [w_al_0, w_gf_9_59, kin_T (ks_104), rs_104_59, w_il_1, w_bald, arr_T (ks_139), w_if_ne, w_iconst, w_ivv_1 (c2I _) cs0, mk_214, rk_214, rvk1, List.cons_append, List.nil_append, w_ret1 rk_217, true_and, and_true, true_or, or_true]
  exact h
theorem b_217_2 {sx : Int → Int} {L : Nat} {x1 : Int} {M : Mem} {Q : Option AV → Mem → Prop} 
    (h : ((0 : Int) ≤ x1 ∧ x1 < (4 : Int)) ∧ (((0 : Int) ≤ x1 ∧ x1 < (4 : Int)) ∧ (Q (some (vI ((mset M 139 x1 0) 141 x1))) (mset M 139 x1 0)))) : Rn sx L K0 R0 217 2 [vR 106, vI x1] [] M Q := by
  refine Rn_w (by decide) ?_
  show wpc sx L K0 R0 217 [(25, 1, .aload_n 0, []), (26, 3, .getfield 120, [9, 59, 1213]), (29, 1, .iload_n 1, []), (30, 1, .iconst 0, []), (31, 1, .bastore, []), (32, 1, .aload_n 0, []), (33, 3, .getfield 126, [9, 61, 1215]), (36, 1, .iload_n 1, []), (37, 1, .iaload, []), (38, 1, .ireturn, [])] 0 [vR 106, vI x1] [] M Q
  simp only [w_al_0, w_gf_9_59, kin_T (ks_104), rs_104_59, w_il_1, w_iconst, w_bast, arr_T (ks_139), b01_0, w_gf_9_61, rs_104_61, w_iald, arr_T (ks_141), w_ret1 rk_217, true_and, and_true, true_or, or_true]
  exact h
theorem b_218_0 {sx : Int → Int} {L : Nat} {x1 : Int} {x2 : Int} {x3 : Int} {M : Mem} {Q : Option AV → Mem → Prop} 
    (h : ((0 : Int) ≤ x1 ∧ x1 < (4 : Int)) ∧ ((¬ M 139 x1 = (0 : Int) → Rn sx L K0 R0 218 1 [vR 106, vI x1, vI x2, vI x3] [] M Q) ∧ (¬ (¬ M 139 x1 = (0 : Int)) → Rn sx L K0 R0 218 4 [vR 106, vI x1, vI x2, vI x3] [vI 1] M Q))) : Rn sx L K0 R0 218 0 [vR 106, vI x1, vI x2, vI x3] [] M Q := by
  refine Rn_w (by decide) ?_
  show wpc sx L K0 R0 218 [(0, 1, .aload_n 0, []), (1, 3, .getfield 120, [9, 59, 1213]), (4, 1, .iload_n 1, []), (5, 1, .baload, []), (6, 3, .ifCond .ne 7, [1]), (9, 1, .iconst 1, []), (10, 3, .goto 38, [4])] 0 [vR 106, vI x1, vI x2, vI x3] [] M Q
  simp only [w_al_0, w_gf_9_59, kin_T (ks_104), rs_104_59, w_il_1, w_bald, arr_T (ks_139), w_if_ne, w_iconst, w_goto, true_and, and_true, true_or, or_true]
  exact h
theorem b_218_1 {sx : Int → Int} {L : Nat} {x1 : Int} {x2 : Int} {x3 : Int} {M : Mem} {Q : Option AV → Mem → Prop} 
    (h : ((0 : Int) ≤ x1 ∧ x1 < (4 : Int)) ∧ ((M 140 x1 = x2 → Rn sx L K0 R0 218 2 [vR 106, vI x1, vI x2, vI x3] [] M Q) ∧ (¬ (M 140 x1 = x2) → Rn sx L K0 R0 218 4 [vR 106, vI x1, vI x2, vI x3] [vI 3] M Q))) : Rn sx L K0 R0 218 1 [vR 106, vI x1, vI x2, vI x3] [] M Q := by
  refine Rn_w (by decide) ?_
  show wpc sx L K0 R0 218 [(13, 1, .aload_n 0, []), (14, 3, .getfield 123, [9, 60, 1214]), (17, 1, .iload_n 1, []), (18, 1, .iaload, []), (19, 1, .iload_n 2, []), (20, 3, .if_icmp .eq 7, [2]), (23, 1, .iconst 3, []), (24, 3, .goto 24, [4])] 0 [vR 106, vI x1, vI x2, vI x3] [] M Q
  simp only [w_al_0, w_gf_9_60, kin_T (ks_104), rs_104_60, w_il_1, w_iald, arr_T (ks_140), w_il_2, w_ic_eq, w_iconst, w_goto, true_and, and_true, true_or, or_true]
  exact h
theorem b_218_2 {sx : Int → Int} {L : Nat} {x1 : Int} {x2 : Int} {x3 : Int} {M : Mem} {Q : Option AV → Mem → Prop} 
    (h : ((0 : Int) ≤ x1 ∧ x1 < (4 : Int)) ∧ (inR ((M 141 x1) - 1) ∧ (Mq sx L K0 R0 137 [vI x3, vI 0, vI ((M 141 x1) - 1)] M (fun rv M1 => ∃ r1, rv = some (vI r1) ∧ ((r1 = (0 : Int) → Rn sx L K0 R0 218 3 [vR 106, vI x1, vI x2, vI x3] [] M1 Q) ∧ (¬ (r1 = (0 : Int)) → Rn sx L K0 R0 218 4 [vR 106, vI x1, vI x2, vI x3] [vI 0] M1 Q)))))) : Rn sx L K0 R0 218 2 [vR 106, vI x1, vI x2, vI x3] [] M Q := by
  refine Rn_w (by decide) ?_
  show wpc sx L K0 R0 218 [(27, 1, .iload_n 3, []), (28, 1, .iconst 0, []), (29, 1, .aload_n 0, []), (30, 3, .getfield 126, [9, 61, 1215]), (33, 1, .iload_n 1, []), (34, 1, .iaload, []), (35, 1, .iconst 1, []), (36, 1, .isub, []), (37, 3, .invokestatic 135, [137, 1355, 3]), (40, 3, .ifCond .eq 7, [3]), (43, 1, .iconst 0, []), (44, 3, .goto 4, [4])] 0 [vR 106, vI x1, vI x2, vI x3] [] M Q
  simp only [w_il_3, w_iconst, w_al_0, w_gf_9_61, kin_T (ks_104), rs_104_61, w_il_1, w_iald, arr_T (ks_141), w_isub, w_ivs_3 (c2I _) (c2I _) (c2I _) cs0, rk_137, rvk2, List.cons_append, List.nil_append, w_if_eq, w_goto, true_and, and_true, true_or, or_true]
  exact h
theorem b_218_3 {sx : Int → Int} {L : Nat} {x1 : Int} {x2 : Int} {x3 : Int} {M : Mem} {Q : Option AV → Mem → Prop} 
    (h : Rn sx L K0 R0 218 4 [vR 106, vI x1, vI x2, vI x3] [vI 2] M Q) : Rn sx L K0 R0 218 3 [vR 106, vI x1, vI x2, vI x3] [] M Q := by
  refine Rn_w (by decide) ?_
  show wpc sx L K0 R0 218 [(47, 1, .iconst 2, [])] 4 [vR 106, vI x1, vI x2, vI x3] [] M Q
  simp only [w_iconst, w_fall, true_and, and_true, true_or, or_true]
  exact h
theorem b_218_4 {sx : Int → Int} {L : Nat} {x1 : Int} {x2 : Int} {x3 : Int} {y0 : Int} {M : Mem} {Q : Option AV → Mem → Prop} 
    (h : Q (some (vI y0)) M) : Rn sx L K0 R0 218 4 [vR 106, vI x1, vI x2, vI x3] [vI y0] M Q := by
  refine Rn_w (by decide) ?_
  show wpc sx L K0 R0 218 [(48, 1, .ireturn, [])] 0 [vR 106, vI x1, vI x2, vI x3] [vI y0] M Q
  simp only [w_ret1 rk_218, true_and, and_true, true_or, or_true]
  exact h
theorem b_219_0 {sx : Int → Int} {L : Nat} {x1 : Int} {x2 : Int} {x3 : Int} {M : Mem} {Q : Option AV → Mem → Prop} 
    (h : inR ((60 : Int) * x1) ∧ (inR (((60 : Int) * x1) + x2) ∧ (((0 : Int) ≤ x1 ∧ x1 < (4 : Int)) ∧ ((¬ M 140 x1 = (0 : Int) → Rn sx L K0 R0 219 1 [vR 106, vI x1, vI x2, vI x3] [vI (((60 : Int) * x1) + x2), vR 144] M Q) ∧ (¬ (¬ M 140 x1 = (0 : Int)) → Rn sx L K0 R0 219 3 [vR 106, vI x1, vI x2, vI x3] [vI (i2B x3), vI (((60 : Int) * x1) + x2), vR 144] M Q))))) : Rn sx L K0 R0 219 0 [vR 106, vI x1, vI x2, vI x3] [] M Q := by
  refine Rn_w (by decide) ?_
  show wpc sx L K0 R0 219 [(0, 1, .aload_n 0, []), (1, 3, .getfield 129, [9, 62, 1216]), (4, 2, .bipush 60, []), (6, 1, .iload_n 1, []), (7, 1, .imul, []), (8, 1, .iload_n 2, []), (9, 1, .iadd, []), (10, 1, .aload_n 0, []), (11, 3, .getfield 123, [9, 60, 1214]), (14, 1, .iload_n 1, []), (15, 1, .iaload, []), (16, 3, .ifCond .ne 8, [1]), (19, 1, .iload_n 3, []), (20, 1, .i2b, []), (21, 3, .goto 19, [3])] 0 [vR 106, vI x1, vI x2, vI x3] [] M Q
  simp only [w_al_0, w_gf_9_62, kin_T (ks_104), rs_104_62, w_bipush, w_il_1, w_imul, w_il_2, w_iadd, w_gf_9_60, rs_104_60, w_iald, arr_T (ks_140), w_if_ne, w_il_3, w_i2b, w_goto, true_and, and_true, true_or, or_true]
  exact h
theorem b_219_1 {sx : Int → Int} {L : Nat} {x1 : Int} {x2 : Int} {x3 : Int} {y1 : Int} {M : Mem} {Q : Option AV → Mem → Prop} 
    (h : ((0 : Int) ≤ x1 ∧ x1 < (4 : Int)) ∧ ((¬ M 140 x1 = (1 : Int) → Rn sx L K0 R0 219 2 [vR 106, vI x1, vI x2, vI x3] [vI y1, vR 144] M Q) ∧ (¬ (¬ M 140 x1 = (1 : Int)) → Rn sx L K0 R0 219 3 [vR 106, vI x1, vI x2, vI x3] [vI (i2S x3), vI y1, vR 144] M Q))) : Rn sx L K0 R0 219 1 [vR 106, vI x1, vI x2, vI x3] [vI y1, vR 144] M Q := by
  refine Rn_w (by decide) ?_
  show wpc sx L K0 R0 219 [(24, 1, .aload_n 0, []), (25, 3, .getfield 123, [9, 60, 1214]), (28, 1, .iload_n 1, []), (29, 1, .iaload, []), (30, 1, .iconst 1, []), (31, 3, .if_icmp .ne 8, [2]), (34, 1, .iload_n 3, []), (35, 1, .i2s, []), (36, 3, .goto 4, [3])] 0 [vR 106, vI x1, vI x2, vI x3] [vI y1, vR 144] M Q
  simp only [w_al_0, w_gf_9_60, kin_T (ks_104), rs_104_60, w_il_1, w_iald, arr_T (ks_140), w_iconst, w_ic_ne, w_il_3, w_i2s, w_goto, true_and, and_true, true_or, or_true]
  exact h
theorem b_219_2 {sx : Int → Int} {L : Nat} {x1 : Int} {x2 : Int} {x3 : Int} {y1 : Int} {M : Mem} {Q : Option AV → Mem → Prop} 
    (h : Rn sx L K0 R0 219 3 [vR 106, vI x1, vI x2, vI x3] [vI x3, vI y1, vR 144] M Q) : Rn sx L K0 R0 219 2 [vR 106, vI x1, vI x2, vI x3] [vI y1, vR 144] M Q := by
  refine Rn_w (by decide) ?_
  show wpc sx L K0 R0 219 [(39, 1, .iload_n 3, [])] 3 [vR 106, vI x1, vI x2, vI x3] [vI y1, vR 144] M Q
  simp only [w_il_3, w_fall, true_and, and_true, true_or, or_true]
  exact h
theorem b_219_3 {sx : Int → Int} {L : Nat} {x1 : Int} {x2 : Int} {x3 : Int} {y1 : Int} {y2 : Int} {M : Mem} {Q : Option AV → Mem → Prop} 
    (h : ((0 : Int) ≤ y1 ∧ y1 < (240 : Int)) ∧ (Q none (mset M 142 y1 y2))) : Rn sx L K0 R0 219 3 [vR 106, vI x1, vI x2, vI x3] [vI y2, vI y1, vR 144] M Q := by
  refine Rn_w (by decide) ?_
  show wpc sx L K0 R0 219 [(40, 1, .iastore, []), (41, 1, .return_, [])] 0 [vR 106, vI x1, vI x2, vI x3] [vI y2, vI y1, vR 144] M Q
  simp only [w_iast, arr_T (ks_142), w_ret0 rk_219, true_and, and_true, true_or, or_true]
  exact h

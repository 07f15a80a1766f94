theorem b_163_0 {sx : Int → Int} {L : Nat} {x1 : Int} {M : Mem} {Q : Option AV → Mem → Prop} 
    (h : Rn sx L K0 R0 163 1 [vR 106, vI x1, vI (-1), vI 0, vU, vU] [] M Q) : Rn sx L K0 R0 163 0 [vR 106, vI x1, vU, vU, vU, vU] [] M Q := by
  refine Rn_w (by decide) ?_
  show wpc sx L K0 R0 163 [(0, 1, .iconst (-1), []), (1, 1, .istore_n 2, []), (2, 1, .iconst 0, []), (3, 1, .istore_n 3, [])] 1 [vR 106, vI x1, vU, vU, vU, vU] [] M Q
  simp only [w_iconst, w_is_2 (c2I _), w_is_3 (c2I _), w_fall, true_and, and_true, true_or, or_true]
  exact h
theorem b_163_1 {sx : Int → Int} {L : Nat} {x1 : Int} {x2 : Int} {x3 : Int} {u4 : AV} {u5 : AV} {M : Mem} {Q : Option AV → Mem → Prop} (hu4 : cat2 u4 = false) (hu5 : cat2 u5 = false)
    (h : ((8 : Int) ≤ x3 → Rn sx L K0 R0 163 8 [vR 106, vI x1, vI x2, vI x3, u4, u5] [] M Q) ∧ (¬ ((8 : Int) ≤ x3) → Rn sx L K0 R0 163 2 [vR 106, vI x1, vI x2, vI x3, vI 0, u5] [] M Q)) : Rn sx L K0 R0 163 1 [vR 106, vI x1, vI x2, vI x3, u4, u5] [] M Q := by
  refine Rn_w (by decide) ?_
  show wpc sx L K0 R0 163 [(4, 1, .iload_n 3, []), (5, 2, .bipush 8, []), (7, 3, .if_icmp .ge 106, [8]), (10, 1, .iconst 0, []), (11, 2, .istore 4, [])] 2 [vR 106, vI x1, vI x2, vI x3, u4, u5] [] M Q
  simp only [w_il_3, w_bipush, w_ic_ge, w_iconst, w_is_4 (c2I _), w_fall, true_and, and_true, true_or, or_true]
  exact h
set_option maxRecDepth 8192 in
theorem b_163_2 {sx : Int → Int} {L : Nat} {x1 : Int} {x2 : Int} {x3 : Int} {x4 : Int} {u5 : AV} {M : Mem} {Q : Option AV → Mem → Prop} (hu5 : cat2 u5 = false)
    (h : ((0 : Int) ≤ x3 ∧ x3 < (8 : Int)) ∧ ((M 117 x3 ≤ x4 → Rn sx L K0 R0 163 7 [vR 106, vI x1, vI x2, vI x3, vI x4, u5] [] M Q) ∧ (¬ (M 117 x3 ≤ x4) → ((0 : Int) ≤ M 104 27 ∧ (0 : Int) ≤ x3 ∧ x3 ≤ (30 : Int)) ∧ ((¬ iAnd ((M 104 27) / 2 ^ (x3).toNat) 1 = (1 : Int) → Rn sx L K0 R0 163 7 [vR 106, vI x1, vI x2, vI x3, vI x4, u5] [] M Q) ∧ (¬ (¬ iAnd ((M 104 27) / 2 ^ (x3).toNat) 1 = (1 : Int)) → inR ((20 : Int) * x3) ∧ (inR (((20 : Int) * x3) + x4) ∧ (((0 : Int) ≤ ((20 : Int) * x3) + x4 ∧ ((20 : Int) * x3) + x4 < (160 : Int)) ∧ ((¬ M 118 (((20 : Int) * x3) + x4) = (1 : Int) → Rn sx L K0 R0 163 3 [vR 106, vI x1, vI x2, vI x3, vI x4, u5] [] M Q) ∧ (¬ (¬ M 118 (((20 : Int) * x3) + x4) = (1 : Int)) → inR ((20 : Int) * x3) ∧ (inR (((20 : Int) * x3) + x4) ∧ (((0 : Int) ≤ ((20 : Int) * x3) + x4 ∧ ((20 : Int) * x3) + x4 < (160 : Int)) ∧ ((¬ M 119 (((20 : Int) * x3) + x4) = x1 → Rn sx L K0 R0 163 3 [vR 106, vI x1, vI x2, vI x3, vI x4, u5] [] M Q) ∧ (¬ (¬ M 119 (((20 : Int) * x3) + x4) = x1) → Rn sx L K0 R0 163 4 [vR 106, vI x1, vI x2, vI x3, vI x4, u5] [vI 1] M Q))))))))))))) : Rn sx L K0 R0 163 2 [vR 106, vI x1, vI x2, vI x3, vI x4, u5] [] M Q := by
  refine Rn_w (by decide) ?_
  show wpc sx L K0 R0 163 [(13, 2, .iload 4, []), (15, 1, .aload_n 0, []), (16, 3, .getfield 46, [9, 15, 1169]), (19, 1, .iload_n 3, []), (20, 1, .iaload, []), (21, 3, .if_icmp .ge 86, [7]), (24, 1, .aload_n 0, []), (25, 3, .getfield 205, [9, 27, 1181]), (28, 1, .iload_n 3, []), (29, 1, .ishr, []), (30, 1, .iconst 1, []), (31, 1, .iand, []), (32, 1, .iconst 1, []), (33, 3, .if_icmp .ne 74, [7]), (36, 1, .aload_n 0, []), (37, 3, .getfield 49, [9, 16, 1170]), (40, 2, .bipush 20, []), (42, 1, .iload_n 3, []), (43, 1, .imul, []), (44, 2, .iload 4, []), (46, 1, .iadd, []), (47, 1, .iaload, []), (48, 1, .iconst 1, []), (49, 3, .if_icmp .ne 23, [3]), (52, 1, .aload_n 0, []), (53, 3, .getfield 52, [9, 17, 1171]), (56, 2, .bipush 20, []), (58, 1, .iload_n 3, []), (59, 1, .imul, []), (60, 2, .iload 4, []), (62, 1, .iadd, []), (63, 1, .iaload, []), (64, 1, .iload_n 1, []), (65, 3, .if_icmp .ne 7, [3]), (68, 1, .iconst 1, []), (69, 3, .goto 4, [4])] 0 [vR 106, vI x1, vI x2, vI x3, vI x4, u5] [] M Q
  simp only [w_il_4, w_al_0, w_gf_9_15, kin_T (ks_104), rs_104_15, w_il_3, w_iald, arr_T (ks_117), w_ic_ge, w_gf_9_27, w_ishr, w_iconst, w_iand, w_ic_ne, w_gf_9_16, rs_104_16, w_bipush, w_imul, w_iadd, arr_T (ks_118), w_gf_9_17, rs_104_17, arr_T (ks_119), w_il_1, w_goto, true_and, and_true, true_or, or_true]
  exact h
theorem b_163_3 {sx : Int → Int} {L : Nat} {x1 : Int} {x2 : Int} {x3 : Int} {x4 : Int} {u5 : AV} {M : Mem} {Q : Option AV → Mem → Prop} (hu5 : cat2 u5 = false)
    (h : Rn sx L K0 R0 163 4 [vR 106, vI x1, vI x2, vI x3, vI x4, u5] [vI 0] M Q) : Rn sx L K0 R0 163 3 [vR 106, vI x1, vI x2, vI x3, vI x4, u5] [] M Q := by
  refine Rn_w (by decide) ?_
  show wpc sx L K0 R0 163 [(72, 1, .iconst 0, [])] 4 [vR 106, vI x1, vI x2, vI x3, vI x4, u5] [] M Q
  simp only [w_iconst, w_fall, true_and, and_true, true_or, or_true]
  exact h
theorem b_163_4 {sx : Int → Int} {L : Nat} {x1 : Int} {x2 : Int} {x3 : Int} {x4 : Int} {u5 : AV} {y0 : Int} {M : Mem} {Q : Option AV → Mem → Prop} (hu5 : cat2 u5 = false)
    (h : (y0 = (0 : Int) → Rn sx L K0 R0 163 5 [vR 106, vI x1, vI x2, vI x3, vI x4, vI y0] [] M Q) ∧ (¬ (y0 = (0 : Int)) → ((0 : Int) ≤ x3 ∧ x3 < (8 : Int)) ∧ ((M 121 x3 ≤ x2 → Rn sx L K0 R0 163 5 [vR 106, vI x1, vI x2, vI x3, vI x4, vI y0] [] M Q) ∧ (¬ (M 121 x3 ≤ x2) → ((0 : Int) ≤ x3 ∧ x3 < (8 : Int)) ∧ (Rn sx L K0 R0 163 6 [vR 106, vI x1, vI x2, vI x3, vI x4, vI y0] [vI (M 121 x3)] M Q))))) : Rn sx L K0 R0 163 4 [vR 106, vI x1, vI x2, vI x3, vI x4, u5] [vI y0] M Q := by
  refine Rn_w (by decide) ?_
  show wpc sx L K0 R0 163 [(73, 2, .istore 5, []), (75, 2, .iload 5, []), (77, 3, .ifCond .eq 22, [5]), (80, 1, .aload_n 0, []), (81, 3, .getfield 65, [9, 28, 1182]), (84, 1, .iload_n 3, []), (85, 1, .iaload, []), (86, 1, .iload_n 2, []), (87, 3, .if_icmp .le 12, [5]), (90, 1, .aload_n 0, []), (91, 3, .getfield 65, [9, 28, 1182]), (94, 1, .iload_n 3, []), (95, 1, .iaload, []), (96, 3, .goto 4, [6])] 0 [vR 106, vI x1, vI x2, vI x3, vI x4, u5] [vI y0] M Q
  simp only [w_is_5 (c2I _), w_il_5, w_if_eq, w_al_0, w_gf_9_28, kin_T (ks_104), rs_104_28, w_il_3, w_iald, arr_T (ks_121), w_il_2, w_ic_le, w_goto, true_and, and_true, true_or, or_true]
  exact h
theorem b_163_5 {sx : Int → Int} {L : Nat} {x1 : Int} {x2 : Int} {x3 : Int} {x4 : Int} {x5 : Int} {M : Mem} {Q : Option AV → Mem → Prop} 
    (h : Rn sx L K0 R0 163 6 [vR 106, vI x1, vI x2, vI x3, vI x4, vI x5] [vI x2] M Q) : Rn sx L K0 R0 163 5 [vR 106, vI x1, vI x2, vI x3, vI x4, vI x5] [] M Q := by
  refine Rn_w (by decide) ?_
  show wpc sx L K0 R0 163 [(99, 1, .iload_n 2, [])] 6 [vR 106, vI x1, vI x2, vI x3, vI x4, vI x5] [] M Q
  simp only [w_il_2, w_fall, true_and, and_true, true_or, or_true]
  exact h
theorem b_163_6 {sx : Int → Int} {L : Nat} {x1 : Int} {x2 : Int} {x3 : Int} {x4 : Int} {x5 : Int} {y0 : Int} {M : Mem} {Q : Option AV → Mem → Prop} 
    (h : inR (x4 + 1) ∧ (Rn sx L K0 R0 163 2 [vR 106, vI x1, vI y0, vI x3, vI (x4 + 1), vI x5] [] M Q)) : Rn sx L K0 R0 163 6 [vR 106, vI x1, vI x2, vI x3, vI x4, vI x5] [vI y0] M Q := by
  refine Rn_w (by decide) ?_
  show wpc sx L K0 R0 163 [(100, 1, .istore_n 2, []), (101, 3, .iinc 4 1, []), (104, 3, .goto (-91), [2])] 0 [vR 106, vI x1, vI x2, vI x3, vI x4, vI x5] [vI y0] M Q
  simp only [w_is_2 (c2I _), w_inc_4 (c2I _), w_goto, true_and, and_true, true_or, or_true]
  exact h
theorem b_163_7 {sx : Int → Int} {L : Nat} {x1 : Int} {x2 : Int} {x3 : Int} {x4 : Int} {u5 : AV} {M : Mem} {Q : Option AV → Mem → Prop} (hu5 : cat2 u5 = false)
    (h : inR (x3 + 1) ∧ (Rn sx L K0 R0 163 1 [vR 106, vI x1, vI x2, vI (x3 + 1), vI x4, u5] [] M Q)) : Rn sx L K0 R0 163 7 [vR 106, vI x1, vI x2, vI x3, vI x4, u5] [] M Q := by
  refine Rn_w (by decide) ?_
  show wpc sx L K0 R0 163 [(107, 3, .iinc 3 1, []), (110, 3, .goto (-106), [1])] 0 [vR 106, vI x1, vI x2, vI x3, vI x4, u5] [] M Q
  simp only [w_inc_3 (c2I _), w_goto, true_and, and_true, true_or, or_true]
  exact h
theorem b_163_8 {sx : Int → Int} {L : Nat} {x1 : Int} {x2 : Int} {x3 : Int} {u4 : AV} {u5 : AV} {M : Mem} {Q : Option AV → Mem → Prop} (hu4 : cat2 u4 = false) (hu5 : cat2 u5 = false)
    (h : Q (some (vI x2)) M) : Rn sx L K0 R0 163 8 [vR 106, vI x1, vI x2, vI x3, u4, u5] [] M Q := by
  refine Rn_w (by decide) ?_
  show wpc sx L K0 R0 163 [(113, 1, .iload_n 2, []), (114, 1, .ireturn, [])] 0 [vR 106, vI x1, vI x2, vI x3, u4, u5] [] M Q
  simp only [w_il_2, w_ret1 rk_163, true_and, and_true, true_or, or_true]
  exact h
theorem b_164_0 {sx : Int → Int} {L : Nat} {x1 : Int} {M : Mem} {Q : Option AV → Mem → Prop} 
    (h : Rn sx L K0 R0 164 1 [vR 106, vI x1, vI 0, vI 0, vU] [] M Q) : Rn sx L K0 R0 164 0 [vR 106, vI x1, vU, vU, vU] [] M Q := by
  refine Rn_w (by decide) ?_
  show wpc sx L K0 R0 164 [(0, 1, .iconst 0, []), (1, 1, .istore_n 2, []), (2, 1, .iconst 0, []), (3, 1, .istore_n 3, [])] 1 [vR 106, vI x1, vU, vU, vU] [] M Q
  simp only [w_iconst, w_is_2 (c2I _), w_is_3 (c2I _), w_fall, true_and, and_true, true_or, or_true]
  exact h
set_option maxRecDepth 8192 in
theorem b_164_1 {sx : Int → Int} {L : Nat} {x1 : Int} {x2 : Int} {x3 : Int} {u4 : AV} {M : Mem} {Q : Option AV → Mem → Prop} (hu4 : cat2 u4 = false)
    (h : (M 104 0 ≤ x3 → Rn sx L K0 R0 164 4 [vR 106, vI x1, vI x2, vI x3, u4] [] M Q) ∧ (¬ (M 104 0 ≤ x3) → (¬ M 104 34 = (2 : Int) → Rn sx L K0 R0 164 4 [vR 106, vI x1, vI x2, vI x3, u4] [] M Q) ∧ (¬ (¬ M 104 34 = (2 : Int)) → Mq sx L K0 R0 162 [vR 106, vI x3] M (fun rv M1 => ∃ r1, rv = some (vI r1) ∧ (((0 : Int) ≤ x1 ∧ x1 < (8 : Int)) ∧ (((0 : Int) ≤ M1 129 x1 ∧ (0 : Int) ≤ x3 ∧ x3 ≤ (30 : Int)) ∧ (inR (r1 - (iAnd ((M1 129 x1) / 2 ^ (x3).toNat) 1)) ∧ ((r1 - (iAnd ((M1 129 x1) / 2 ^ (x3).toNat) 1) ≤ (0 : Int) → Rn sx L K0 R0 164 2 [vR 106, vI x1, vI x2, vI x3, vI (r1 - (iAnd ((M1 129 x1) / 2 ^ (x3).toNat) 1))] [vI x2] M1 Q) ∧ (¬ (r1 - (iAnd ((M1 129 x1) / 2 ^ (x3).toNat) 1) ≤ (0 : Int)) → ((0 : Int) ≤ x3 ∧ x3 < (6 : Int)) ∧ (((0 : Int) ≤ x1 ∧ x1 < (8 : Int)) ∧ ((M1 137 x3 < M1 121 x1 → Rn sx L K0 R0 164 2 [vR 106, vI x1, vI x2, vI x3, vI (r1 - (iAnd ((M1 129 x1) / 2 ^ (x3).toNat) 1))] [vI x2] M1 Q) ∧ (¬ (M1 137 x3 < M1 121 x1) → ((0 : Int) ≤ (1 : Int) ∧ (0 : Int) ≤ x3 ∧ x3 ≤ (30 : Int) ∧ (1 : Int) * 2 ^ (x3).toNat ≤ (2147483647 : Int)) ∧ (Rn sx L K0 R0 164 3 [vR 106, vI x1, vI x2, vI x3, vI (r1 - (iAnd ((M1 129 x1) / 2 ^ (x3).toNat) 1))] [vI ((1 : Int) * 2 ^ (x3).toNat), vI x2] M1 Q))))))))))))) : Rn sx L K0 R0 164 1 [vR 106, vI x1, vI x2, vI x3, u4] [] M Q := by
  refine Rn_w (by decide) ?_
  show wpc sx L K0 R0 164 [(4, 1, .iload_n 3, []), (5, 1, .aload_n 0, []), (6, 3, .getfield 139, [9, 0, 1154]), (9, 3, .if_icmp .ge 65, [4]), (12, 1, .aload_n 0, []), (13, 3, .getfield 214, [9, 34, 1188]), (16, 1, .iconst 2, []), (17, 3, .if_icmp .ne 57, [4]), (20, 1, .aload_n 0, []), (21, 1, .iload_n 3, []), (22, 3, .invokevirtual 226, [162, 1489, 1]), (25, 1, .aload_n 0, []), (26, 3, .getfield 89, [9, 41, 1195]), (29, 1, .iload_n 1, []), (30, 1, .iaload, []), (31, 1, .iload_n 3, []), (32, 1, .ishr, []), (33, 1, .iconst 1, []), (34, 1, .iand, []), (35, 1, .isub, []), (36, 2, .istore 4, []), (38, 1, .iload_n 2, []), (39, 2, .iload 4, []), (41, 3, .ifCond .le 24, [2]), (44, 1, .aload_n 0, []), (45, 3, .getfield 114, [9, 52, 1206]), (48, 1, .iload_n 3, []), (49, 1, .iaload, []), (50, 1, .aload_n 0, []), (51, 3, .getfield 65, [9, 28, 1182]), (54, 1, .iload_n 1, []), (55, 1, .iaload, []), (56, 3, .if_icmp .lt 9, [2]), (59, 1, .iconst 1, []), (60, 1, .iload_n 3, []), (61, 1, .ishl, []), (62, 3, .goto 4, [3])] 0 [vR 106, vI x1, vI x2, vI x3, u4] [] M Q
  simp only [w_il_3, w_al_0, w_gf_9_0, kin_T (ks_104), w_ic_ge, w_gf_9_34, w_iconst, w_ic_ne, w_ivv_1 (c2I _) cs0, mk_162, rk_162, rvk1, List.cons_append, List.nil_append, w_gf_9_41, rs_104_41, w_il_1, w_iald, arr_T (ks_129), w_ishr, w_iand, w_isub, w_is_4 (c2I _), w_il_2, w_il_4, w_if_le, w_gf_9_52, rs_104_52, arr_T (ks_137), w_gf_9_28, rs_104_28, arr_T (ks_121), w_ic_lt, w_ishl, w_goto, true_and, and_true, true_or, or_true]
  exact h
theorem b_164_2 {sx : Int → Int} {L : Nat} {x1 : Int} {x2 : Int} {x3 : Int} {x4 : Int} {y0 : Int} {M : Mem} {Q : Option AV → Mem → Prop} 
    (h : Rn sx L K0 R0 164 3 [vR 106, vI x1, vI x2, vI x3, vI x4] [vI 0, vI y0] M Q) : Rn sx L K0 R0 164 2 [vR 106, vI x1, vI x2, vI x3, vI x4] [vI y0] M Q := by
  refine Rn_w (by decide) ?_
  show wpc sx L K0 R0 164 [(65, 1, .iconst 0, [])] 3 [vR 106, vI x1, vI x2, vI x3, vI x4] [vI y0] M Q
  simp only [w_iconst, w_fall, true_and, and_true, true_or, or_true]
  exact h
theorem b_164_3 {sx : Int → Int} {L : Nat} {x1 : Int} {x2 : Int} {x3 : Int} {x4 : Int} {y0 : Int} {y1 : Int} {M : Mem} {Q : Option AV → Mem → Prop} 
    (h : inR (x3 + 1) ∧ (Rn sx L K0 R0 164 1 [vR 106, vI x1, vI (iOr y0 y1), vI (x3 + 1), vI x4] [] M Q)) : Rn sx L K0 R0 164 3 [vR 106, vI x1, vI x2, vI x3, vI x4] [vI y1, vI y0] M Q := by
  refine Rn_w (by decide) ?_
  show wpc sx L K0 R0 164 [(66, 1, .ior, []), (67, 1, .istore_n 2, []), (68, 3, .iinc 3 1, []), (71, 3, .goto (-67), [1])] 0 [vR 106, vI x1, vI x2, vI x3, vI x4] [vI y1, vI y0] M Q
  simp only [w_ior, w_is_2 (c2I _), w_inc_3 (c2I _), w_goto, true_and, and_true, true_or, or_true]
  exact h
theorem b_164_4 {sx : Int → Int} {L : Nat} {x1 : Int} {x2 : Int} {x3 : Int} {u4 : AV} {M : Mem} {Q : Option AV → Mem → Prop} (hu4 : cat2 u4 = false)
    (h : Q (some (vI x2)) M) : Rn sx L K0 R0 164 4 [vR 106, vI x1, vI x2, vI x3, u4] [] M Q := by
  refine Rn_w (by decide) ?_
  show wpc sx L K0 R0 164 [(74, 1, .iload_n 2, []), (75, 1, .ireturn, [])] 0 [vR 106, vI x1, vI x2, vI x3, u4] [] M Q
  simp only [w_il_2, w_ret1 rk_164, true_and, and_true, true_or, or_true]
  exact h
theorem b_165_0 {sx : Int → Int} {L : Nat} {x1 : Int} {M : Mem} {Q : Option AV → Mem → Prop} 
    (h : ((0 : Int) ≤ x1 ∧ x1 < (6 : Int)) ∧ (((0 : Int) ≤ x1 ∧ x1 < (6 : Int)) ∧ (Mq sx L K0 R0 137 [vI (M 104 51), vI (M 107 x1), vI (M 108 x1)] M (fun rv M1 => ∃ r1, rv = some (vI r1) ∧ ((r1 = 0 ∨ r1 = 1) ∧ (Q (some (vI r1)) M1)))))) : Rn sx L K0 R0 165 0 [vR 106, vI x1] [] M Q := by
  refine Rn_w (by decide) ?_
  show wpc sx L K0 R0 165 [(0, 1, .aload_n 0, []), (1, 3, .getfield 223, [9, 51, 1205]), (4, 1, .aload_n 0, []), (5, 3, .getfield 16, [9, 3, 1157]), (8, 1, .iload_n 1, []), (9, 1, .iaload, []), (10, 1, .aload_n 0, []), (11, 3, .getfield 19, [9, 4, 1158]), (14, 1, .iload_n 1, []), (15, 1, .iaload, []), (16, 3, .invokestatic 135, [137, 1355, 3]), (19, 1, .ireturn, [])] 0 [vR 106, vI x1] [] M Q
  simp only [w_al_0, w_gf_9_51, kin_T (ks_104), w_gf_9_3, rs_104_3, w_il_1, w_iald, arr_T (ks_107), w_gf_9_4, rs_104_4, arr_T (ks_108), w_ivs_3 (c2I _) (c2I _) (c2I _) cs0, rk_137, rvk2, List.cons_append, List.nil_append, w_ret2 rk_165, true_and, and_true, true_or, or_true]
  exact h
theorem b_166_0 {sx : Int → Int} {L : Nat} {x1 : Int} {x2 : Int} {M : Mem} {Q : Option AV → Mem → Prop} 
    (h : Rn sx L K0 R0 166 1 [vR 106, vI x1, vI x2, vI 0, vI 0] [] M Q) : Rn sx L K0 R0 166 0 [vR 106, vI x1, vI x2, vU, vU] [] M Q := by
  refine Rn_w (by decide) ?_
  show wpc sx L K0 R0 166 [(0, 1, .iconst 0, []), (1, 1, .istore_n 3, []), (2, 1, .iconst 0, []), (3, 2, .istore 4, [])] 1 [vR 106, vI x1, vI x2, vU, vU] [] M Q
  simp only [w_iconst, w_is_3 (c2I _), w_is_4 (c2I _), w_fall, true_and, and_true, true_or, or_true]
  exact h
theorem b_166_1 {sx : Int → Int} {L : Nat} {x1 : Int} {x2 : Int} {x3 : Int} {x4 : Int} {M : Mem} {Q : Option AV → Mem → Prop} 
    (h : ((8 : Int) ≤ x4 → Rn sx L K0 R0 166 4 [vR 106, vI x1, vI x2, vI x3, vI x4] [] M Q) ∧ (¬ ((8 : Int) ≤ x4) → (x4 = x2 → Rn sx L K0 R0 166 2 [vR 106, vI x1, vI x2, vI x3, vI x4] [vI x3] M Q) ∧ (¬ (x4 = x2) → ((0 : Int) ≤ x4 ∧ x4 < (8 : Int)) ∧ ((iAnd (M 129 x4) x1 = (0 : Int) → Rn sx L K0 R0 166 2 [vR 106, vI x1, vI x2, vI x3, vI x4] [vI x3] M Q) ∧ (¬ (iAnd (M 129 x4) x1 = (0 : Int)) → ((0 : Int) ≤ (1 : Int) ∧ (0 : Int) ≤ x4 ∧ x4 ≤ (30 : Int) ∧ (1 : Int) * 2 ^ (x4).toNat ≤ (2147483647 : Int)) ∧ (Rn sx L K0 R0 166 3 [vR 106, vI x1, vI x2, vI x3, vI x4] [vI ((1 : Int) * 2 ^ (x4).toNat), vI x3] M Q)))))) : Rn sx L K0 R0 166 1 [vR 106, vI x1, vI x2, vI x3, vI x4] [] M Q := by
  refine Rn_w (by decide) ?_
  show wpc sx L K0 R0 166 [(5, 2, .iload 4, []), (7, 2, .bipush 8, []), (9, 3, .if_icmp .ge 38, [4]), (12, 1, .iload_n 3, []), (13, 2, .iload 4, []), (15, 1, .iload_n 2, []), (16, 3, .if_icmp .eq 22, [2]), (19, 1, .aload_n 0, []), (20, 3, .getfield 89, [9, 41, 1195]), (23, 2, .iload 4, []), (25, 1, .iaload, []), (26, 1, .iload_n 1, []), (27, 1, .iand, []), (28, 3, .ifCond .eq 10, [2]), (31, 1, .iconst 1, []), (32, 2, .iload 4, []), (34, 1, .ishl, []), (35, 3, .goto 4, [3])] 0 [vR 106, vI x1, vI x2, vI x3, vI x4] [] M Q
  simp only [w_il_4, w_bipush, w_ic_ge, w_il_3, w_il_2, w_ic_eq, w_al_0, w_gf_9_41, kin_T (ks_104), rs_104_41, w_iald, arr_T (ks_129), w_il_1, w_iand, w_if_eq, w_iconst, w_ishl, w_goto, true_and, and_true, true_or, or_true]
  exact h
theorem b_166_2 {sx : Int → Int} {L : Nat} {x1 : Int} {x2 : Int} {x3 : Int} {x4 : Int} {y0 : Int} {M : Mem} {Q : Option AV → Mem → Prop} 
    (h : Rn sx L K0 R0 166 3 [vR 106, vI x1, vI x2, vI x3, vI x4] [vI 0, vI y0] M Q) : Rn sx L K0 R0 166 2 [vR 106, vI x1, vI x2, vI x3, vI x4] [vI y0] M Q := by
  refine Rn_w (by decide) ?_
  show wpc sx L K0 R0 166 [(38, 1, .iconst 0, [])] 3 [vR 106, vI x1, vI x2, vI x3, vI x4] [vI y0] M Q
  simp only [w_iconst, w_fall, true_and, and_true, true_or, or_true]
  exact h
theorem b_166_3 {sx : Int → Int} {L : Nat} {x1 : Int} {x2 : Int} {x3 : Int} {x4 : Int} {y0 : Int} {y1 : Int} {M : Mem} {Q : Option AV → Mem → Prop} 
    (h : inR (x4 + 1) ∧ (Rn sx L K0 R0 166 1 [vR 106, vI x1, vI x2, vI (iOr y0 y1), vI (x4 + 1)] [] M Q)) : Rn sx L K0 R0 166 3 [vR 106, vI x1, vI x2, vI x3, vI x4] [vI y1, vI y0] M Q := by
  refine Rn_w (by decide) ?_
  show wpc sx L K0 R0 166 [(39, 1, .ior, []), (40, 1, .istore_n 3, []), (41, 3, .iinc 4 1, []), (44, 3, .goto (-39), [1])] 0 [vR 106, vI x1, vI x2, vI x3, vI x4] [vI y1, vI y0] M Q
  simp only [w_ior, w_is_3 (c2I _), w_inc_4 (c2I _), w_goto, true_and, and_true, true_or, or_true]
  exact h
theorem b_166_4 {sx : Int → Int} {L : Nat} {x1 : Int} {x2 : Int} {x3 : Int} {x4 : Int} {M : Mem} {Q : Option AV → Mem → Prop} 
    (h : Q (some (vI x3)) M) : Rn sx L K0 R0 166 4 [vR 106, vI x1, vI x2, vI x3, vI x4] [] M Q := by
  refine Rn_w (by decide) ?_
  show wpc sx L K0 R0 166 [(47, 1, .iload_n 3, []), (48, 1, .ireturn, [])] 0 [vR 106, vI x1, vI x2, vI x3, vI x4] [] M Q
  simp only [w_il_3, w_ret1 rk_166, true_and, and_true, true_or, or_true]
  exact h
theorem b_167_0 {sx : Int → Int} {L : Nat} {x1 : Int} {x2 : Int} {M : Mem} {Q : Option AV → Mem → Prop} 
    (h : Mq sx L K0 R0 162 [vR 106, vI x2] M (fun rv M1 => ∃ r1, rv = some (vI r1) ∧ (((0 : Int) ≤ x2 ∧ x2 < (6 : Int)) ∧ ((r1 < M1 106 x2 → Rn sx L K0 R0 167 1 [vR 106, vI x1, vI x2, vU, vU] [] M1 Q) ∧ (¬ (r1 < M1 106 x2) → Rn sx L K0 R0 167 2 [vR 106, vI x1, vI x2, vU, vU] [vI 1] M1 Q))))) : Rn sx L K0 R0 167 0 [vR 106, vI x1, vI x2, vU, vU] [] M Q := by
  refine Rn_w (by decide) ?_
  show wpc sx L K0 R0 167 [(0, 1, .aload_n 0, []), (1, 1, .iload_n 2, []), (2, 3, .invokevirtual 226, [162, 1489, 1]), (5, 1, .aload_n 0, []), (6, 3, .getfield 13, [9, 2, 1156]), (9, 1, .iload_n 2, []), (10, 1, .iaload, []), (11, 3, .if_icmp .lt 7, [1]), (14, 1, .iconst 1, []), (15, 3, .goto 4, [2])] 0 [vR 106, vI x1, vI x2, vU, vU] [] M Q
  simp only [w_al_0, w_il_2, w_ivv_1 (c2I _) cs0, mk_162, kin_T (ks_104), rk_162, rvk1, List.cons_append, List.nil_append, w_gf_9_2, rs_104_2, w_iald, arr_T (ks_106), w_ic_lt, w_iconst, w_goto, true_and, and_true, true_or, or_true]
  exact h
theorem b_167_1 {sx : Int → Int} {L : Nat} {x1 : Int} {x2 : Int} {M : Mem} {Q : Option AV → Mem → Prop} 
    (h : Rn sx L K0 R0 167 2 [vR 106, vI x1, vI x2, vU, vU] [vI 0] M Q) : Rn sx L K0 R0 167 1 [vR 106, vI x1, vI x2, vU, vU] [] M Q := by
  refine Rn_w (by decide) ?_
  show wpc sx L K0 R0 167 [(18, 1, .iconst 0, [])] 2 [vR 106, vI x1, vI x2, vU, vU] [] M Q
  simp only [w_iconst, w_fall, true_and, and_true, true_or, or_true]
  exact h
theorem b_167_2 {sx : Int → Int} {L : Nat} {x1 : Int} {x2 : Int} {y0 : Int} {M : Mem} {Q : Option AV → Mem → Prop} 
    (h : Mq sx L K0 R0 164 [vR 106, vI x1] M (fun rv M1 => ∃ r1, rv = some (vI r1) ∧ ((¬ y0 = (0 : Int) → Rn sx L K0 R0 167 3 [vR 106, vI x1, vI x2, vI y0, vI r1] [] M1 Q) ∧ (¬ (¬ y0 = (0 : Int)) → (¬ r1 = (0 : Int) → Rn sx L K0 R0 167 3 [vR 106, vI x1, vI x2, vI y0, vI r1] [] M1 Q) ∧ (¬ (¬ r1 = (0 : Int)) → Mq sx L K0 R0 165 [vR 106, vI x2] M1 (fun rv M2 => ∃ r2, rv = some (vI r2) ∧ ((r2 = (0 : Int) → Rn sx L K0 R0 167 6 [vR 106, vI x1, vI x2, vI y0, vI r1] [] M2 Q) ∧ (¬ (r2 = (0 : Int)) → Rn sx L K0 R0 167 3 [vR 106, vI x1, vI x2, vI y0, vI r1] [] M2 Q)))))))) : Rn sx L K0 R0 167 2 [vR 106, vI x1, vI x2, vU, vU] [vI y0] M Q := by
  refine Rn_w (by decide) ?_
  show wpc sx L K0 R0 167 [(19, 1, .istore_n 3, []), (20, 1, .aload_n 0, []), (21, 1, .iload_n 1, []), (22, 3, .invokevirtual 229, [164, 1493, 1]), (25, 2, .istore 4, []), (27, 1, .iload_n 3, []), (28, 3, .ifCond .ne 16, [3]), (31, 2, .iload 4, []), (33, 3, .ifCond .ne 11, [3]), (36, 1, .aload_n 0, []), (37, 1, .iload_n 2, []), (38, 3, .invokevirtual 232, [165, 1497, 1]), (41, 3, .ifCond .eq 37, [6])] 3 [vR 106, vI x1, vI x2, vU, vU] [vI y0] M Q
  simp only [w_is_3 (c2I _), w_al_0, w_il_1, w_ivv_1 (c2I _) cs0, mk_164, kin_T (ks_104), rk_164, rvk1, List.cons_append, List.nil_append, w_is_4 (c2I _), w_il_3, w_if_ne, w_il_4, w_il_2, mk_165, rk_165, rvk2, w_if_eq, w_fall, true_and, and_true, true_or, or_true]
  exact h
theorem b_167_3 {sx : Int → Int} {L : Nat} {x1 : Int} {x2 : Int} {x3 : Int} {x4 : Int} {M : Mem} {Q : Option AV → Mem → Prop} 
    (h : ((0 : Int) ≤ x1 ∧ x1 < (8 : Int)) ∧ ((x3 = (0 : Int) → Rn sx L K0 R0 167 4 [vR 106, vI x1, vI x2, vI x3, vI x4] [vI x4, vR 106, vI x1, vR 135] (mset M 132 x1 2) Q) ∧ (¬ (x3 = (0 : Int)) → ((0 : Int) ≤ (1 : Int) ∧ (0 : Int) ≤ x2 ∧ x2 ≤ (30 : Int) ∧ (1 : Int) * 2 ^ (x2).toNat ≤ (2147483647 : Int)) ∧ (Rn sx L K0 R0 167 5 [vR 106, vI x1, vI x2, vI x3, vI x4] [vI ((1 : Int) * 2 ^ (x2).toNat), vI x4, vR 106, vI x1, vR 135] (mset M 132 x1 2) Q)))) : Rn sx L K0 R0 167 3 [vR 106, vI x1, vI x2, vI x3, vI x4] [] M Q := by
  refine Rn_w (by decide) ?_
  show wpc sx L K0 R0 167 [(44, 1, .aload_n 0, []), (45, 3, .getfield 99, [9, 44, 1198]), (48, 1, .iload_n 1, []), (49, 1, .iconst 2, []), (50, 1, .iastore, []), (51, 1, .aload_n 0, []), (52, 3, .getfield 102, [9, 45, 1199]), (55, 1, .iload_n 1, []), (56, 1, .aload_n 0, []), (57, 2, .iload 4, []), (59, 1, .iload_n 3, []), (60, 3, .ifCond .eq 9, [4]), (63, 1, .iconst 1, []), (64, 1, .iload_n 2, []), (65, 1, .ishl, []), (66, 3, .goto 4, [5])] 0 [vR 106, vI x1, vI x2, vI x3, vI x4] [] M Q
  simp only [w_al_0, w_gf_9_44, kin_T (ks_104), rs_104_44, w_il_1, w_iconst, w_iast, arr_T (ks_132), w_gf_9_45, rs_104_45, w_il_4, w_il_3, w_if_eq, w_il_2, w_ishl, w_goto, true_and, and_true, true_or, or_true]
  exact h
theorem b_167_4 {sx : Int → Int} {L : Nat} {x1 : Int} {x2 : Int} {x3 : Int} {x4 : Int} {y1 : Int} {y3 : Int} {M : Mem} {Q : Option AV → Mem → Prop} 
    (h : Rn sx L K0 R0 167 5 [vR 106, vI x1, vI x2, vI x3, vI x4] [vI 0, vI y3, vR 106, vI y1, vR 135] M Q) : Rn sx L K0 R0 167 4 [vR 106, vI x1, vI x2, vI x3, vI x4] [vI y3, vR 106, vI y1, vR 135] M Q := by
  refine Rn_w (by decide) ?_
  show wpc sx L K0 R0 167 [(69, 1, .iconst 0, [])] 5 [vR 106, vI x1, vI x2, vI x3, vI x4] [vI y3, vR 106, vI y1, vR 135] M Q
  simp only [w_iconst, w_fall, true_and, and_true, true_or, or_true]
  exact h
theorem b_167_5 {sx : Int → Int} {L : Nat} {x1 : Int} {x2 : Int} {x3 : Int} {x4 : Int} {y1 : Int} {y3 : Int} {y4 : Int} {M : Mem} {Q : Option AV → Mem → Prop} 
    (h : Mq sx L K0 R0 166 [vR 106, vI (iOr y3 y4), vI x1] M (fun rv M1 => ∃ r1, rv = some (vI r1) ∧ (((0 : Int) ≤ y1 ∧ y1 < (8 : Int)) ∧ (Q (some (vI 0)) (mset M1 133 y1 r1))))) : Rn sx L K0 R0 167 5 [vR 106, vI x1, vI x2, vI x3, vI x4] [vI y4, vI y3, vR 106, vI y1, vR 135] M Q := by
  refine Rn_w (by decide) ?_
  show wpc sx L K0 R0 167 [(70, 1, .ior, []), (71, 1, .iload_n 1, []), (72, 3, .invokevirtual 235, [166, 1501, 2]), (75, 1, .iastore, []), (76, 1, .iconst 0, []), (77, 1, .ireturn, [])] 0 [vR 106, vI x1, vI x2, vI x3, vI x4] [vI y4, vI y3, vR 106, vI y1, vR 135] M Q
  simp only [w_ior, w_il_1, w_ivv_2 (c2I _) (c2I _) (cs2 _ _), mk_166, kin_T (ks_104), rk_166, rvk1, List.cons_append, List.nil_append, w_iast, arr_T (ks_133), w_iconst, w_ret2 rk_167, b01_0, true_and, and_true, true_or, or_true]
  exact h
theorem b_167_6 {sx : Int → Int} {L : Nat} {x1 : Int} {x2 : Int} {x3 : Int} {x4 : Int} {M : Mem} {Q : Option AV → Mem → Prop} 
    (h : ((0 : Int) ≤ x1 ∧ x1 < (8 : Int)) ∧ (((0 : Int) ≤ (1 : Int) ∧ (0 : Int) ≤ x2 ∧ x2 ≤ (30 : Int) ∧ (1 : Int) * 2 ^ (x2).toNat ≤ (2147483647 : Int)) ∧ (((0 : Int) ≤ x1 ∧ x1 < (8 : Int)) ∧ (Q (some (vI 1)) (mset M 129 x1 (iOr (M 129 x1) ((1 : Int) * 2 ^ (x2).toNat))))))) : Rn sx L K0 R0 167 6 [vR 106, vI x1, vI x2, vI x3, vI x4] [] M Q := by
  refine Rn_w (by decide) ?_
  show wpc sx L K0 R0 167 [(78, 1, .aload_n 0, []), (79, 3, .getfield 89, [9, 41, 1195]), (82, 1, .iload_n 1, []), (83, 1, .dup2, []), (84, 1, .iaload, []), (85, 1, .iconst 1, []), (86, 1, .iload_n 2, []), (87, 1, .ishl, []), (88, 1, .ior, []), (89, 1, .iastore, []), (90, 1, .iconst 1, []), (91, 1, .ireturn, [])] 0 [vR 106, vI x1, vI x2, vI x3, vI x4] [] M Q
  simp only [w_al_0, w_gf_9_41, kin_T (ks_104), rs_104_41, w_il_1, w_dup2 (c2I _) (c2R _), w_iald, arr_T (ks_129), w_iconst, w_il_2, w_ishl, w_ior, w_iast, w_ret2 rk_167, b01_1, true_and, and_true, true_or, or_true]
  exact h
set_option maxRecDepth 8192 in
theorem b_168_0 {sx : Int → Int} {L : Nat} {x1 : Int} {x2 : Int} {M : Mem} {Q : Option AV → Mem → Prop} 
    (h : inR ((200 : Int) * x1) ∧ (((0 : Int) ≤ x1 ∧ x1 < (8 : Int)) ∧ (inR (((200 : Int) * x1) + (M 124 x1)) ∧ (inR ((((200 : Int) * x1) + (M 124 x1)) - 1) ∧ (((0 : Int) ≤ (((200 : Int) * x1) + (M 124 x1)) - 1 ∧ (((200 : Int) * x1) + (M 124 x1)) - 1 < (1600 : Int)) ∧ (((0 : Int) ≤ x1 ∧ x1 < (8 : Int)) ∧ (((0 : Int) ≤ x1 ∧ x1 < (8 : Int)) ∧ (Q none (mset (mset (mset M 126 ((((200 : Int) * x1) + (M 124 x1)) - 1) x2) 130 x1 0) 129 x1 0))))))))) : Rn sx L K0 R0 168 0 [vR 106, vI x1, vI x2] [] M Q := by
  refine Rn_w (by decide) ?_
  show wpc sx L K0 R0 168 [(0, 1, .aload_n 0, []), (1, 3, .getfield 80, [9, 38, 1192]), (4, 3, .sipush 200, []), (7, 1, .iload_n 1, []), (8, 1, .imul, []), (9, 1, .aload_n 0, []), (10, 3, .getfield 74, [9, 36, 1190]), (13, 1, .iload_n 1, []), (14, 1, .iaload, []), (15, 1, .iadd, []), (16, 1, .iconst 1, []), (17, 1, .isub, []), (18, 1, .iload_n 2, []), (19, 1, .iastore, []), (20, 1, .aload_n 0, []), (21, 3, .getfield 92, [9, 42, 1196]), (24, 1, .iload_n 1, []), (25, 1, .iconst 0, []), (26, 1, .bastore, []), (27, 1, .aload_n 0, []), (28, 3, .getfield 89, [9, 41, 1195]), (31, 1, .iload_n 1, []), (32, 1, .iconst 0, []), (33, 1, .iastore, []), (34, 1, .return_, [])] 0 [vR 106, vI x1, vI x2] [] M Q
  simp only [w_al_0, w_gf_9_38, kin_T (ks_104), rs_104_38, w_sipush, w_il_1, w_imul, w_gf_9_36, rs_104_36, w_iald, arr_T (ks_124), w_iadd, w_iconst, w_isub, w_il_2, w_iast, arr_T (ks_126), w_gf_9_42, rs_104_42, w_bast, arr_T (ks_130), b01_0, w_gf_9_41, rs_104_41, arr_T (ks_129), w_ret0 rk_168, true_and, and_true, true_or, or_true]
  exact h
theorem b_169_0 {sx : Int → Int} {L : Nat} {x1 : Int} {M : Mem} {Q : Option AV → Mem → Prop} 
    (h : Rn sx L K0 R0 169 1 [vR 106, vI x1, vI 1, vU] [] M Q) : Rn sx L K0 R0 169 0 [vR 106, vI x1, vU, vU] [] M Q := by
  refine Rn_w (by decide) ?_
  show wpc sx L K0 R0 169 [(0, 1, .iconst 1, []), (1, 1, .istore_n 2, [])] 1 [vR 106, vI x1, vU, vU] [] M Q
  simp only [w_iconst, w_is_2 (c2I _), w_fall, true_and, and_true, true_or, or_true]
  exact h
set_option maxRecDepth 8192 in
theorem b_169_1 {sx : Int → Int} {L : Nat} {x1 : Int} {x2 : Int} {u3 : AV} {M : Mem} {Q : Option AV → Mem → Prop} (hu3 : cat2 u3 = false)
    (h : (x2 = (0 : Int) → Rn sx L K0 R0 169 9 [vR 106, vI x1, vI x2, u3] [] M Q) ∧ (¬ (x2 = (0 : Int)) → ((0 : Int) ≤ x1 ∧ x1 < (8 : Int)) ∧ (((0 : Int) ≤ x1 ∧ x1 < (8 : Int)) ∧ ((M 117 x1 ≤ M 127 x1 → Rn sx L K0 R0 169 9 [vR 106, vI x1, vI x2, u3] [] M Q) ∧ (¬ (M 117 x1 ≤ M 127 x1) → inR ((20 : Int) * x1) ∧ (((0 : Int) ≤ x1 ∧ x1 < (8 : Int)) ∧ (inR (((20 : Int) * x1) + (M 127 x1)) ∧ (((0 : Int) ≤ ((20 : Int) * x1) + (M 127 x1) ∧ ((20 : Int) * x1) + (M 127 x1) < (160 : Int)) ∧ ((¬ M 118 (((20 : Int) * x1) + (M 127 x1)) = (0 : Int) → Rn sx L K0 R0 169 2 [vR 106, vI x1, vI x2, vI (((20 : Int) * x1) + (M 127 x1))] [] M Q) ∧ (¬ (¬ M 118 (((20 : Int) * x1) + (M 127 x1)) = (0 : Int)) → ((0 : Int) ≤ x1 ∧ x1 < (8 : Int)) ∧ (Q (some (vI 1)) (mset M 132 x1 1)))))))))))) : Rn sx L K0 R0 169 1 [vR 106, vI x1, vI x2, u3] [] M Q := by
  refine Rn_w (by decide) ?_
  show wpc sx L K0 R0 169 [(2, 1, .iload_n 2, []), (3, 3, .ifCond .eq 128, [9]), (6, 1, .aload_n 0, []), (7, 3, .getfield 83, [9, 39, 1193]), (10, 1, .iload_n 1, []), (11, 1, .iaload, []), (12, 1, .aload_n 0, []), (13, 3, .getfield 46, [9, 15, 1169]), (16, 1, .iload_n 1, []), (17, 1, .iaload, []), (18, 3, .if_icmp .ge 113, [9]), (21, 2, .bipush 20, []), (23, 1, .iload_n 1, []), (24, 1, .imul, []), (25, 1, .aload_n 0, []), (26, 3, .getfield 83, [9, 39, 1193]), (29, 1, .iload_n 1, []), (30, 1, .iaload, []), (31, 1, .iadd, []), (32, 1, .istore_n 3, []), (33, 1, .aload_n 0, []), (34, 3, .getfield 49, [9, 16, 1170]), (37, 1, .iload_n 3, []), (38, 1, .iaload, []), (39, 3, .ifCond .ne 12, [2]), (42, 1, .aload_n 0, []), (43, 3, .getfield 99, [9, 44, 1198]), (46, 1, .iload_n 1, []), (47, 1, .iconst 1, []), (48, 1, .iastore, []), (49, 1, .iconst 1, []), (50, 1, .ireturn, [])] 0 [vR 106, vI x1, vI x2, u3] [] M Q
  simp only [w_il_2, w_if_eq, w_al_0, w_gf_9_39, kin_T (ks_104), rs_104_39, w_il_1, w_iald, arr_T (ks_127), w_gf_9_15, rs_104_15, arr_T (ks_117), w_ic_ge, w_bipush, w_imul, w_iadd, w_is_3 (c2I _), w_gf_9_16, rs_104_16, w_il_3, arr_T (ks_118), w_if_ne, w_gf_9_44, rs_104_44, w_iconst, w_iast, arr_T (ks_132), w_ret2 rk_169, b01_1, true_and, and_true, true_or, or_true]
  exact h
theorem b_169_2 {sx : Int → Int} {L : Nat} {x1 : Int} {x2 : Int} {x3 : Int} {M : Mem} {Q : Option AV → Mem → Prop} 
    (h : ((0 : Int) ≤ x3 ∧ x3 < (160 : Int)) ∧ ((¬ M 118 x3 = (2 : Int) → Rn sx L K0 R0 169 3 [vR 106, vI x1, vI x2, vI x3] [] M Q) ∧ (¬ (¬ M 118 x3 = (2 : Int)) → ((0 : Int) ≤ x1 ∧ x1 < (8 : Int)) ∧ (((0 : Int) ≤ x3 ∧ x3 < (160 : Int)) ∧ (((0 : Int) ≤ (1 : Int) ∧ (0 : Int) ≤ M 119 x3 ∧ M 119 x3 ≤ (30 : Int) ∧ (1 : Int) * 2 ^ (M 119 x3).toNat ≤ (2147483647 : Int)) ∧ (((0 : Int) ≤ x1 ∧ x1 < (8 : Int)) ∧ (Rn sx L K0 R0 169 3 [vR 106, vI x1, vI x2, vI x3] [] (mset M 129 x1 (iAnd (M 129 x1) (iXor ((1 : Int) * 2 ^ (M 119 x3).toNat) (-1)))) Q))))))) : Rn sx L K0 R0 169 2 [vR 106, vI x1, vI x2, vI x3] [] M Q := by
  refine Rn_w (by decide) ?_
  show wpc sx L K0 R0 169 [(51, 1, .aload_n 0, []), (52, 3, .getfield 49, [9, 16, 1170]), (55, 1, .iload_n 3, []), (56, 1, .iaload, []), (57, 1, .iconst 2, []), (58, 3, .if_icmp .ne 22, [3]), (61, 1, .aload_n 0, []), (62, 3, .getfield 89, [9, 41, 1195]), (65, 1, .iload_n 1, []), (66, 1, .dup2, []), (67, 1, .iaload, []), (68, 1, .iconst 1, []), (69, 1, .aload_n 0, []), (70, 3, .getfield 52, [9, 17, 1171]), (73, 1, .iload_n 3, []), (74, 1, .iaload, []), (75, 1, .ishl, []), (76, 1, .iconst (-1), []), (77, 1, .ixor, []), (78, 1, .iand, []), (79, 1, .iastore, [])] 3 [vR 106, vI x1, vI x2, vI x3] [] M Q
  simp only [w_al_0, w_gf_9_16, kin_T (ks_104), rs_104_16, w_il_3, w_iald, arr_T (ks_118), w_iconst, w_ic_ne, w_gf_9_41, rs_104_41, w_il_1, w_dup2 (c2I _) (c2R _), arr_T (ks_129), w_gf_9_17, rs_104_17, arr_T (ks_119), w_ishl, w_ixor, w_iand, w_iast, w_fall, true_and, and_true, true_or, or_true]
  exact h
theorem b_169_3 {sx : Int → Int} {L : Nat} {x1 : Int} {x2 : Int} {x3 : Int} {M : Mem} {Q : Option AV → Mem → Prop} 
    (h : ((0 : Int) ≤ x3 ∧ x3 < (160 : Int)) ∧ ((M 118 x3 = (2 : Int) → Rn sx L K0 R0 169 4 [vR 106, vI x1, vI x2, vI x3] [] M Q) ∧ (¬ (M 118 x3 = (2 : Int)) → ((0 : Int) ≤ x3 ∧ x3 < (160 : Int)) ∧ (Mq sx L K0 R0 167 [vR 106, vI x1, vI (M 119 x3)] M (fun rv M1 => ∃ r1, rv = some (vI r1) ∧ ((r1 = (0 : Int) → Rn sx L K0 R0 169 5 [vR 106, vI x1, vI x2, vI x3] [] M1 Q) ∧ (¬ (r1 = (0 : Int)) → Rn sx L K0 R0 169 4 [vR 106, vI x1, vI x2, vI x3] [] M1 Q))))))) : Rn sx L K0 R0 169 3 [vR 106, vI x1, vI x2, vI x3] [] M Q := by
  refine Rn_w (by decide) ?_
  show wpc sx L K0 R0 169 [(80, 1, .aload_n 0, []), (81, 3, .getfield 49, [9, 16, 1170]), (84, 1, .iload_n 3, []), (85, 1, .iaload, []), (86, 1, .iconst 2, []), (87, 3, .if_icmp .eq 17, [4]), (90, 1, .aload_n 0, []), (91, 1, .iload_n 1, []), (92, 1, .aload_n 0, []), (93, 3, .getfield 52, [9, 17, 1171]), (96, 1, .iload_n 3, []), (97, 1, .iaload, []), (98, 3, .invokevirtual 239, [167, 1485, 2]), (101, 3, .ifCond .eq 7, [5])] 4 [vR 106, vI x1, vI x2, vI x3] [] M Q
  simp only [w_al_0, w_gf_9_16, kin_T (ks_104), rs_104_16, w_il_3, w_iald, arr_T (ks_118), w_iconst, w_ic_eq, w_il_1, w_gf_9_17, rs_104_17, arr_T (ks_119), w_ivv_2 (c2I _) (c2I _) cs0, mk_167, rk_167, rvk2, List.cons_append, List.nil_append, w_if_eq, w_fall, true_and, and_true, true_or, or_true]
  exact h
theorem b_169_4 {sx : Int → Int} {L : Nat} {x1 : Int} {x2 : Int} {x3 : Int} {M : Mem} {Q : Option AV → Mem → Prop} 
    (h : Rn sx L K0 R0 169 6 [vR 106, vI x1, vI x2, vI x3] [vI 1] M Q) : Rn sx L K0 R0 169 4 [vR 106, vI x1, vI x2, vI x3] [] M Q := by
  refine Rn_w (by decide) ?_
  show wpc sx L K0 R0 169 [(104, 1, .iconst 1, []), (105, 3, .goto 4, [6])] 0 [vR 106, vI x1, vI x2, vI x3] [] M Q
  simp only [w_iconst, w_goto, true_and, and_true, true_or, or_true]
  exact h
theorem b_169_5 {sx : Int → Int} {L : Nat} {x1 : Int} {x2 : Int} {x3 : Int} {M : Mem} {Q : Option AV → Mem → Prop} 
    (h : Rn sx L K0 R0 169 6 [vR 106, vI x1, vI x2, vI x3] [vI 0] M Q) : Rn sx L K0 R0 169 5 [vR 106, vI x1, vI x2, vI x3] [] M Q := by
  refine Rn_w (by decide) ?_
  show wpc sx L K0 R0 169 [(108, 1, .iconst 0, [])] 6 [vR 106, vI x1, vI x2, vI x3] [] M Q
  simp only [w_iconst, w_fall, true_and, and_true, true_or, or_true]
  exact h
theorem b_169_6 {sx : Int → Int} {L : Nat} {x1 : Int} {x2 : Int} {x3 : Int} {y0 : Int} {M : Mem} {Q : Option AV → Mem → Prop} 
    (h : ((0 : Int) ≤ x1 ∧ x1 < (8 : Int)) ∧ ((y0 = (0 : Int) → Rn sx L K0 R0 169 7 [vR 106, vI x1, vI y0, vI x3] [vI (M 127 x1), vI x1, vR 129] M Q) ∧ (¬ (y0 = (0 : Int)) → Rn sx L K0 R0 169 8 [vR 106, vI x1, vI y0, vI x3] [vI 1, vI (M 127 x1), vI x1, vR 129] M Q))) : Rn sx L K0 R0 169 6 [vR 106, vI x1, vI x2, vI x3] [vI y0] M Q := by
  refine Rn_w (by decide) ?_
  show wpc sx L K0 R0 169 [(109, 1, .istore_n 2, []), (110, 1, .aload_n 0, []), (111, 3, .getfield 83, [9, 39, 1193]), (114, 1, .iload_n 1, []), (115, 1, .dup2, []), (116, 1, .iaload, []), (117, 1, .iload_n 2, []), (118, 3, .ifCond .eq 7, [7]), (121, 1, .iconst 1, []), (122, 3, .goto 4, [8])] 0 [vR 106, vI x1, vI x2, vI x3] [vI y0] M Q
  simp only [w_is_2 (c2I _), w_al_0, w_gf_9_39, kin_T (ks_104), rs_104_39, w_il_1, w_dup2 (c2I _) (c2R _), w_iald, arr_T (ks_127), w_il_2, w_if_eq, w_iconst, w_goto, true_and, and_true, true_or, or_true]
  exact h
theorem b_169_7 {sx : Int → Int} {L : Nat} {x1 : Int} {x2 : Int} {x3 : Int} {y1 : Int} {y2 : Int} {M : Mem} {Q : Option AV → Mem → Prop} 
    (h : Rn sx L K0 R0 169 8 [vR 106, vI x1, vI x2, vI x3] [vI 0, vI y2, vI y1, vR 129] M Q) : Rn sx L K0 R0 169 7 [vR 106, vI x1, vI x2, vI x3] [vI y2, vI y1, vR 129] M Q := by
  refine Rn_w (by decide) ?_
  show wpc sx L K0 R0 169 [(125, 1, .iconst 0, [])] 8 [vR 106, vI x1, vI x2, vI x3] [vI y2, vI y1, vR 129] M Q
  simp only [w_iconst, w_fall, true_and, and_true, true_or, or_true]
  exact h
theorem b_169_8 {sx : Int → Int} {L : Nat} {x1 : Int} {x2 : Int} {x3 : Int} {y1 : Int} {y2 : Int} {y3 : Int} {M : Mem} {Q : Option AV → Mem → Prop} 
    (h : inR (y2 + y3) ∧ (((0 : Int) ≤ y1 ∧ y1 < (8 : Int)) ∧ (Rn sx L K0 R0 169 1 [vR 106, vI x1, vI x2, vI x3] [] (mset M 127 y1 (y2 + y3)) Q))) : Rn sx L K0 R0 169 8 [vR 106, vI x1, vI x2, vI x3] [vI y3, vI y2, vI y1, vR 129] M Q := by
  refine Rn_w (by decide) ?_
  show wpc sx L K0 R0 169 [(126, 1, .iadd, []), (127, 1, .iastore, []), (128, 3, .goto (-126), [1])] 0 [vR 106, vI x1, vI x2, vI x3] [vI y3, vI y2, vI y1, vR 129] M Q
  simp only [w_iadd, w_iast, arr_T (ks_127), w_goto, true_and, and_true, true_or, or_true]
  exact h
theorem b_169_9 {sx : Int → Int} {L : Nat} {x1 : Int} {x2 : Int} {u3 : AV} {M : Mem} {Q : Option AV → Mem → Prop} (hu3 : cat2 u3 = false)
    (h : (x2 = (0 : Int) → Rn sx L K0 R0 169 10 [vR 106, vI x1, vI x2, u3] [] M Q) ∧ (¬ (x2 = (0 : Int)) → Mq sx L K0 R0 168 [vR 106, vI x1, vI (M 104 51)] M (fun rv M1 => rv = none ∧ (((0 : Int) ≤ x1 ∧ x1 < (8 : Int)) ∧ (Rn sx L K0 R0 169 10 [vR 106, vI x1, vI x2, u3] [] (mset M1 132 x1 0) Q))))) : Rn sx L K0 R0 169 9 [vR 106, vI x1, vI x2, u3] [] M Q := by
  refine Rn_w (by decide) ?_
  show wpc sx L K0 R0 169 [(131, 1, .iload_n 2, []), (132, 3, .ifCond .eq 19, [10]), (135, 1, .aload_n 0, []), (136, 1, .iload_n 1, []), (137, 1, .aload_n 0, []), (138, 3, .getfield 223, [9, 51, 1205]), (141, 3, .invokevirtual 243, [168, 1505, 2]), (144, 1, .aload_n 0, []), (145, 3, .getfield 99, [9, 44, 1198]), (148, 1, .iload_n 1, []), (149, 1, .iconst 0, []), (150, 1, .iastore, [])] 10 [vR 106, vI x1, vI x2, u3] [] M Q
  simp only [w_il_2, w_if_eq, w_al_0, w_il_1, w_gf_9_51, kin_T (ks_104), w_ivv_2 (c2I _) (c2I _) cs0, mk_168, rk_168, rvk0, List.nil_append, w_gf_9_44, rs_104_44, w_iconst, w_iast, arr_T (ks_132), w_fall, true_and, and_true, true_or, or_true]
  exact h
theorem b_169_10 {sx : Int → Int} {L : Nat} {x1 : Int} {x2 : Int} {u3 : AV} {M : Mem} {Q : Option AV → Mem → Prop} (hu3 : cat2 u3 = false)
    (h : Q (some (vI 0)) M) : Rn sx L K0 R0 169 10 [vR 106, vI x1, vI x2, u3] [] M Q := by
  refine Rn_w (by decide) ?_
  show wpc sx L K0 R0 169 [(151, 1, .iconst 0, []), (152, 1, .ireturn, [])] 0 [vR 106, vI x1, vI x2, u3] [] M Q
  simp only [w_iconst, w_ret2 rk_169, b01_0, true_and, and_true, true_or, or_true]
  exact h
theorem b_170_0 {sx : Int → Int} {L : Nat} {x1 : Int} {M : Mem} {Q : Option AV → Mem → Prop} 
    (h : (¬ M 104 33 = (0 : Int) → Rn sx L K0 R0 170 1 [vR 106, vI x1] [] M Q) ∧ (¬ (¬ M 104 33 = (0 : Int)) → ((0 : Int) ≤ x1 ∧ x1 < (8 : Int)) ∧ (inR ((99 : Int) - (M 121 x1)) ∧ (Rn sx L K0 R0 170 3 [vR 106, vI x1] [vI ((99 : Int) - (M 121 x1))] M Q)))) : Rn sx L K0 R0 170 0 [vR 106, vI x1] [] M Q := by
  refine Rn_w (by decide) ?_
  show wpc sx L K0 R0 170 [(0, 1, .aload_n 0, []), (1, 3, .getfield 211, [9, 33, 1187]), (4, 3, .ifCond .ne 15, [1]), (7, 2, .bipush 99, []), (9, 1, .aload_n 0, []), (10, 3, .getfield 65, [9, 28, 1182]), (13, 1, .iload_n 1, []), (14, 1, .iaload, []), (15, 1, .isub, []), (16, 3, .goto 46, [3])] 0 [vR 106, vI x1] [] M Q
  simp only [w_al_0, w_gf_9_33, kin_T (ks_104), w_if_ne, w_bipush, w_gf_9_28, rs_104_28, w_il_1, w_iald, arr_T (ks_121), w_isub, w_goto, true_and, and_true, true_or, or_true]
  exact h
theorem b_170_1 {sx : Int → Int} {L : Nat} {x1 : Int} {M : Mem} {Q : Option AV → Mem → Prop} 
    (h : (¬ M 104 33 = (1 : Int) → Rn sx L K0 R0 170 2 [vR 106, vI x1] [] M Q) ∧ (¬ (¬ M 104 33 = (1 : Int)) → inR ((200 : Int) * x1) ∧ (((0 : Int) ≤ x1 ∧ x1 < (8 : Int)) ∧ (inR (((200 : Int) * x1) + (M 124 x1)) ∧ (inR ((((200 : Int) * x1) + (M 124 x1)) - 1) ∧ (((0 : Int) ≤ (((200 : Int) * x1) + (M 124 x1)) - 1 ∧ (((200 : Int) * x1) + (M 124 x1)) - 1 < (1600 : Int)) ∧ (((0 : Int) ≤ x1 ∧ x1 < (8 : Int)) ∧ (inR ((M 125 ((((200 : Int) * x1) + (M 124 x1)) - 1)) + (M 115 x1)) ∧ (Rn sx L K0 R0 170 3 [vR 106, vI x1] [vI ((M 125 ((((200 : Int) * x1) + (M 124 x1)) - 1)) + (M 115 x1))] M Q))))))))) : Rn sx L K0 R0 170 1 [vR 106, vI x1] [] M Q := by
  refine Rn_w (by decide) ?_
  show wpc sx L K0 R0 170 [(19, 1, .aload_n 0, []), (20, 3, .getfield 211, [9, 33, 1187]), (23, 1, .iconst 1, []), (24, 3, .if_icmp .ne 32, [2]), (27, 1, .aload_n 0, []), (28, 3, .getfield 77, [9, 37, 1191]), (31, 3, .sipush 200, []), (34, 1, .iload_n 1, []), (35, 1, .imul, []), (36, 1, .aload_n 0, []), (37, 3, .getfield 74, [9, 36, 1190]), (40, 1, .iload_n 1, []), (41, 1, .iaload, []), (42, 1, .iadd, []), (43, 1, .iconst 1, []), (44, 1, .isub, []), (45, 1, .iaload, []), (46, 1, .aload_n 0, []), (47, 3, .getfield 40, [9, 13, 1167]), (50, 1, .iload_n 1, []), (51, 1, .iaload, []), (52, 1, .iadd, []), (53, 3, .goto 9, [3])] 0 [vR 106, vI x1] [] M Q
  simp only [w_al_0, w_gf_9_33, kin_T (ks_104), w_iconst, w_ic_ne, w_gf_9_37, rs_104_37, w_sipush, w_il_1, w_imul, w_gf_9_36, rs_104_36, w_iald, arr_T (ks_124), w_iadd, w_isub, arr_T (ks_125), w_gf_9_13, rs_104_13, arr_T (ks_115), w_goto, true_and, and_true, true_or, or_true]
  exact h
theorem b_170_2 {sx : Int → Int} {L : Nat} {x1 : Int} {M : Mem} {Q : Option AV → Mem → Prop} 
    (h : ((0 : Int) ≤ x1 ∧ x1 < (8 : Int)) ∧ (Rn sx L K0 R0 170 3 [vR 106, vI x1] [vI (M 131 x1)] M Q)) : Rn sx L K0 R0 170 2 [vR 106, vI x1] [] M Q := by
  refine Rn_w (by decide) ?_
  show wpc sx L K0 R0 170 [(56, 1, .aload_n 0, []), (57, 3, .getfield 96, [9, 43, 1197]), (60, 1, .iload_n 1, []), (61, 1, .iaload, [])] 3 [vR 106, vI x1] [] M Q
  simp only [w_al_0, w_gf_9_43, kin_T (ks_104), rs_104_43, w_il_1, w_iald, arr_T (ks_131), w_fall, true_and, and_true, true_or, or_true]
  exact h
theorem b_170_3 {sx : Int → Int} {L : Nat} {x1 : Int} {y0 : Int} {M : Mem} {Q : Option AV → Mem → Prop} 
    (h : Q (some (vI y0)) M) : Rn sx L K0 R0 170 3 [vR 106, vI x1] [vI y0] M Q := by
  refine Rn_w (by decide) ?_
  show wpc sx L K0 R0 170 [(62, 1, .ireturn, [])] 0 [vR 106, vI x1] [vI y0] M Q
  simp only [w_ret1 rk_170, true_and, and_true, true_or, or_true]
  exact h
theorem b_171_0 {sx : Int → Int} {L : Nat}  {M : Mem} {Q : Option AV → Mem → Prop} 
    (h : Rn sx L K0 R0 171 1 [vR 106, vI 0, vU, vU] [] M Q) : Rn sx L K0 R0 171 0 [vR 106, vU, vU, vU] [] M Q := by
  refine Rn_w (by decide) ?_
  show wpc sx L K0 R0 171 [(0, 1, .iconst 0, []), (1, 1, .istore_n 1, [])] 1 [vR 106, vU, vU, vU] [] M Q
  simp only [w_iconst, w_is_1 (c2R _), w_fall, true_and, and_true, true_or, or_true]
  exact h
theorem b_171_1 {sx : Int → Int} {L : Nat} {x1 : Int} {M : Mem} {Q : Option AV → Mem → Prop} 
    (h : ((8 : Int) ≤ x1 → Rn sx L K0 R0 171 4 [vR 106, vI x1, vU, vU] [] M Q) ∧ (¬ ((8 : Int) ≤ x1) → ((0 : Int) ≤ x1 ∧ x1 < (8 : Int)) ∧ ((M 130 x1 = (0 : Int) → Rn sx L K0 R0 171 2 [vR 106, vI x1, vU, vU] [vI x1, vR 136] M Q) ∧ (¬ (M 130 x1 = (0 : Int)) → Mq sx L K0 R0 170 [vR 106, vI x1] M (fun rv M1 => ∃ r1, rv = some (vI r1) ∧ (Rn sx L K0 R0 171 3 [vR 106, vI x1, vU, vU] [vI r1, vI x1, vR 136] M1 Q)))))) : Rn sx L K0 R0 171 1 [vR 106, vI x1, vU, vU] [] M Q := by
  refine Rn_w (by decide) ?_
  show wpc sx L K0 R0 171 [(2, 1, .iload_n 1, []), (3, 2, .bipush 8, []), (5, 3, .if_icmp .ge 33, [4]), (8, 1, .aload_n 0, []), (9, 3, .getfield 105, [9, 46, 1200]), (12, 1, .iload_n 1, []), (13, 1, .aload_n 0, []), (14, 3, .getfield 92, [9, 42, 1196]), (17, 1, .iload_n 1, []), (18, 1, .baload, []), (19, 3, .ifCond .eq 11, [2]), (22, 1, .aload_n 0, []), (23, 1, .iload_n 1, []), (24, 3, .invokevirtual 247, [170, 1473, 1]), (27, 3, .goto 4, [3])] 0 [vR 106, vI x1, vU, vU] [] M Q
  simp only [w_il_1, w_bipush, w_ic_ge, w_al_0, w_gf_9_46, kin_T (ks_104), rs_104_46, w_gf_9_42, rs_104_42, w_bald, arr_T (ks_130), w_if_eq, w_ivv_1 (c2I _) (cs2 _ _), mk_170, rk_170, rvk1, List.cons_append, List.nil_append, w_goto, true_and, and_true, true_or, or_true]
  exact h
theorem b_171_2 {sx : Int → Int} {L : Nat} {x1 : Int} {y1 : Int} {M : Mem} {Q : Option AV → Mem → Prop} 
    (h : Rn sx L K0 R0 171 3 [vR 106, vI x1, vU, vU] [vI 0, vI y1, vR 136] M Q) : Rn sx L K0 R0 171 2 [vR 106, vI x1, vU, vU] [vI y1, vR 136] M Q := by
  refine Rn_w (by decide) ?_
  show wpc sx L K0 R0 171 [(30, 1, .iconst 0, [])] 3 [vR 106, vI x1, vU, vU] [vI y1, vR 136] M Q
  simp only [w_iconst, w_fall, true_and, and_true, true_or, or_true]
  exact h
theorem b_171_3 {sx : Int → Int} {L : Nat} {x1 : Int} {y1 : Int} {y2 : Int} {M : Mem} {Q : Option AV → Mem → Prop} 
    (h : ((0 : Int) ≤ y1 ∧ y1 < (8 : Int)) ∧ (inR (x1 + 1) ∧ (Rn sx L K0 R0 171 1 [vR 106, vI (x1 + 1), vU, vU] [] (mset M 134 y1 y2) Q))) : Rn sx L K0 R0 171 3 [vR 106, vI x1, vU, vU] [vI y2, vI y1, vR 136] M Q := by
  refine Rn_w (by decide) ?_
  show wpc sx L K0 R0 171 [(31, 1, .iastore, []), (32, 3, .iinc 1 1, []), (35, 3, .goto (-33), [1])] 0 [vR 106, vI x1, vU, vU] [vI y2, vI y1, vR 136] M Q
  simp only [w_iast, arr_T (ks_134), w_inc_1 (c2R _), w_goto, true_and, and_true, true_or, or_true]
  exact h
theorem b_171_4 {sx : Int → Int} {L : Nat} {x1 : Int} {M : Mem} {Q : Option AV → Mem → Prop} 
    (h : (M 104 34 ≤ (0 : Int) → Rn sx L K0 R0 171 5 [vR 106, vI x1, vU, vU] [] M Q) ∧ (¬ (M 104 34 ≤ (0 : Int)) → ((2 : Int) ≤ M 104 33 → Rn sx L K0 R0 171 5 [vR 106, vI x1, vU, vU] [] M Q) ∧ (¬ ((2 : Int) ≤ M 104 33) → Rn sx L K0 R0 171 6 [vR 106, vI x1, vU, vU] [vI 1] M Q))) : Rn sx L K0 R0 171 4 [vR 106, vI x1, vU, vU] [] M Q := by
  refine Rn_w (by decide) ?_
  show wpc sx L K0 R0 171 [(38, 1, .aload_n 0, []), (39, 3, .getfield 214, [9, 34, 1188]), (42, 3, .ifCond .le 15, [5]), (45, 1, .aload_n 0, []), (46, 3, .getfield 211, [9, 33, 1187]), (49, 1, .iconst 2, []), (50, 3, .if_icmp .ge 7, [5]), (53, 1, .iconst 1, []), (54, 3, .goto 4, [6])] 0 [vR 106, vI x1, vU, vU] [] M Q
  simp only [w_al_0, w_gf_9_34, kin_T (ks_104), w_if_le, w_gf_9_33, w_iconst, w_ic_ge, w_goto, true_and, and_true, true_or, or_true]
  exact h
theorem b_171_5 {sx : Int → Int} {L : Nat} {x1 : Int} {M : Mem} {Q : Option AV → Mem → Prop} 
    (h : Rn sx L K0 R0 171 6 [vR 106, vI x1, vU, vU] [vI 0] M Q) : Rn sx L K0 R0 171 5 [vR 106, vI x1, vU, vU] [] M Q := by
  refine Rn_w (by decide) ?_
  show wpc sx L K0 R0 171 [(57, 1, .iconst 0, [])] 6 [vR 106, vI x1, vU, vU] [] M Q
  simp only [w_iconst, w_fall, true_and, and_true, true_or, or_true]
  exact h
theorem b_171_6 {sx : Int → Int} {L : Nat} {x1 : Int} {y0 : Int} {M : Mem} {Q : Option AV → Mem → Prop} 
    (h : Rn sx L K0 R0 171 7 [vR 106, vI y0, vU, vU] [] M Q) : Rn sx L K0 R0 171 6 [vR 106, vI x1, vU, vU] [vI y0] M Q := by
  refine Rn_w (by decide) ?_
  show wpc sx L K0 R0 171 [(58, 1, .istore_n 1, [])] 7 [vR 106, vI x1, vU, vU] [vI y0] M Q
  simp only [w_is_1 (c2R _), w_fall, true_and, and_true, true_or, or_true]
  exact h
theorem b_171_7 {sx : Int → Int} {L : Nat} {x1 : Int} {u2 : AV} {u3 : AV} {M : Mem} {Q : Option AV → Mem → Prop} (hu2 : cat2 u2 = false) (hu3 : cat2 u3 = false)
    (h : (x1 = (0 : Int) → Rn sx L K0 R0 171 13 [vR 106, vI x1, u2, u3] [] M Q) ∧ (¬ (x1 = (0 : Int)) → Rn sx L K0 R0 171 8 [vR 106, vI 0, vI 0, u3] [] M Q)) : Rn sx L K0 R0 171 7 [vR 106, vI x1, u2, u3] [] M Q := by
  refine Rn_w (by decide) ?_
  show wpc sx L K0 R0 171 [(59, 1, .iload_n 1, []), (60, 3, .ifCond .eq 79, [13]), (63, 1, .iconst 0, []), (64, 1, .istore_n 1, []), (65, 1, .iconst 0, []), (66, 1, .istore_n 2, [])] 8 [vR 106, vI x1, u2, u3] [] M Q
  simp only [w_il_1, w_if_eq, w_iconst, w_is_1 (c2R _), w_is_2 (c2I _), w_fall, true_and, and_true, true_or, or_true]
  exact h
theorem b_171_8 {sx : Int → Int} {L : Nat} {x1 : Int} {x2 : Int} {u3 : AV} {M : Mem} {Q : Option AV → Mem → Prop} (hu3 : cat2 u3 = false)
    (h : ((8 : Int) ≤ x2 → Rn sx L K0 R0 171 12 [vR 106, vI x1, vI x2, u3] [] M Q) ∧ (¬ ((8 : Int) ≤ x2) → Rn sx L K0 R0 171 9 [vR 106, vI x1, vI x2, vI 0] [] M Q)) : Rn sx L K0 R0 171 8 [vR 106, vI x1, vI x2, u3] [] M Q := by
  refine Rn_w (by decide) ?_
  show wpc sx L K0 R0 171 [(67, 1, .iload_n 2, []), (68, 2, .bipush 8, []), (70, 3, .if_icmp .ge 66, [12]), (73, 1, .iconst 0, []), (74, 1, .istore_n 3, [])] 9 [vR 106, vI x1, vI x2, u3] [] M Q
  simp only [w_il_2, w_bipush, w_ic_ge, w_iconst, w_is_3 (c2I _), w_fall, true_and, and_true, true_or, or_true]
  exact h
set_option maxRecDepth 8192 in
theorem b_171_9 {sx : Int → Int} {L : Nat} {x1 : Int} {x2 : Int} {x3 : Int} {M : Mem} {Q : Option AV → Mem → Prop} 
    (h : ((8 : Int) ≤ x3 → Rn sx L K0 R0 171 11 [vR 106, vI x1, vI x2, vI x3] [] M Q) ∧ (¬ ((8 : Int) ≤ x3) → ((0 : Int) ≤ x2 ∧ x2 < (8 : Int)) ∧ (((0 : Int) ≤ M 133 x2 ∧ (0 : Int) ≤ x3 ∧ x3 ≤ (30 : Int)) ∧ ((¬ iAnd ((M 133 x2) / 2 ^ (x3).toNat) 1 = (1 : Int) → Rn sx L K0 R0 171 10 [vR 106, vI x1, vI x2, vI x3] [] M Q) ∧ (¬ (¬ iAnd ((M 133 x2) / 2 ^ (x3).toNat) 1 = (1 : Int)) → ((0 : Int) ≤ x2 ∧ x2 < (8 : Int)) ∧ (((0 : Int) ≤ x3 ∧ x3 < (8 : Int)) ∧ ((M 134 x3 ≤ M 134 x2 → Rn sx L K0 R0 171 10 [vR 106, vI x1, vI x2, vI x3] [] M Q) ∧ (¬ (M 134 x3 ≤ M 134 x2) → ((0 : Int) ≤ x2 ∧ x2 < (8 : Int)) ∧ (((0 : Int) ≤ x3 ∧ x3 < (8 : Int)) ∧ (Rn sx L K0 R0 171 10 [vR 106, vI 1, vI x2, vI x3] [] (mset M 134 x3 (M 134 x2)) Q)))))))))) : Rn sx L K0 R0 171 9 [vR 106, vI x1, vI x2, vI x3] [] M Q := by
  refine Rn_w (by decide) ?_
  show wpc sx L K0 R0 171 [(75, 1, .iload_n 3, []), (76, 2, .bipush 8, []), (78, 3, .if_icmp .ge 52, [11]), (81, 1, .aload_n 0, []), (82, 3, .getfield 102, [9, 45, 1199]), (85, 1, .iload_n 2, []), (86, 1, .iaload, []), (87, 1, .iload_n 3, []), (88, 1, .ishr, []), (89, 1, .iconst 1, []), (90, 1, .iand, []), (91, 1, .iconst 1, []), (92, 3, .if_icmp .ne 32, [10]), (95, 1, .aload_n 0, []), (96, 3, .getfield 105, [9, 46, 1200]), (99, 1, .iload_n 2, []), (100, 1, .iaload, []), (101, 1, .aload_n 0, []), (102, 3, .getfield 105, [9, 46, 1200]), (105, 1, .iload_n 3, []), (106, 1, .iaload, []), (107, 3, .if_icmp .ge 17, [10]), (110, 1, .aload_n 0, []), (111, 3, .getfield 105, [9, 46, 1200]), (114, 1, .iload_n 3, []), (115, 1, .aload_n 0, []), (116, 3, .getfield 105, [9, 46, 1200]), (119, 1, .iload_n 2, []), (120, 1, .iaload, []), (121, 1, .iastore, []), (122, 1, .iconst 1, []), (123, 1, .istore_n 1, [])] 10 [vR 106, vI x1, vI x2, vI x3] [] M Q
  simp only [w_il_3, w_bipush, w_ic_ge, w_al_0, w_gf_9_45, kin_T (ks_104), rs_104_45, w_il_2, w_iald, arr_T (ks_133), w_ishr, w_iconst, w_iand, w_ic_ne, w_gf_9_46, rs_104_46, arr_T (ks_134), w_iast, w_is_1 (c2R _), w_fall, true_and, and_true, true_or, or_true]
  exact h
theorem b_171_10 {sx : Int → Int} {L : Nat} {x1 : Int} {x2 : Int} {x3 : Int} {M : Mem} {Q : Option AV → Mem → Prop} 
    (h : inR (x3 + 1) ∧ (Rn sx L K0 R0 171 9 [vR 106, vI x1, vI x2, vI (x3 + 1)] [] M Q)) : Rn sx L K0 R0 171 10 [vR 106, vI x1, vI x2, vI x3] [] M Q := by
  refine Rn_w (by decide) ?_
  show wpc sx L K0 R0 171 [(124, 3, .iinc 3 1, []), (127, 3, .goto (-52), [9])] 0 [vR 106, vI x1, vI x2, vI x3] [] M Q
  simp only [w_inc_3 (c2I _), w_goto, true_and, and_true, true_or, or_true]
  exact h
theorem b_171_11 {sx : Int → Int} {L : Nat} {x1 : Int} {x2 : Int} {x3 : Int} {M : Mem} {Q : Option AV → Mem → Prop} 
    (h : inR (x2 + 1) ∧ (Rn sx L K0 R0 171 8 [vR 106, vI x1, vI (x2 + 1), vI x3] [] M Q)) : Rn sx L K0 R0 171 11 [vR 106, vI x1, vI x2, vI x3] [] M Q := by
  refine Rn_w (by decide) ?_
  show wpc sx L K0 R0 171 [(130, 3, .iinc 2 1, []), (133, 3, .goto (-66), [8])] 0 [vR 106, vI x1, vI x2, vI x3] [] M Q
  simp only [w_inc_2 (c2I _), w_goto, true_and, and_true, true_or, or_true]
  exact h
theorem b_171_12 {sx : Int → Int} {L : Nat} {x1 : Int} {x2 : Int} {u3 : AV} {M : Mem} {Q : Option AV → Mem → Prop} (hu3 : cat2 u3 = false)
    (h : Rn sx L K0 R0 171 7 [vR 106, vI x1, vI x2, u3] [] M Q) : Rn sx L K0 R0 171 12 [vR 106, vI x1, vI x2, u3] [] M Q := by
  refine Rn_w (by decide) ?_
  show wpc sx L K0 R0 171 [(136, 3, .goto (-77), [7])] 0 [vR 106, vI x1, vI x2, u3] [] M Q
  simp only [w_goto, true_and, and_true, true_or, or_true]
  exact h
theorem b_171_13 {sx : Int → Int} {L : Nat} {x1 : Int} {u2 : AV} {u3 : AV} {M : Mem} {Q : Option AV → Mem → Prop} (hu2 : cat2 u2 = false) (hu3 : cat2 u3 = false)
    (h : Q none M) : Rn sx L K0 R0 171 13 [vR 106, vI x1, u2, u3] [] M Q := by
  refine Rn_w (by decide) ?_
  show wpc sx L K0 R0 171 [(139, 1, .return_, [])] 0 [vR 106, vI x1, u2, u3] [] M Q
  simp only [w_ret0 rk_171, true_and, and_true, true_or, or_true]
  exact h
theorem b_172_0 {sx : Int → Int} {L : Nat} {x1 : Int} {M : Mem} {Q : Option AV → Mem → Prop} 
    (h : Rn sx L K0 R0 172 1 [vR 106, vI x1, vI 0] [] M Q) : Rn sx L K0 R0 172 0 [vR 106, vI x1, vU] [] M Q := by
  refine Rn_w (by decide) ?_
  show wpc sx L K0 R0 172 [(0, 1, .iconst 0, []), (1, 1, .istore_n 2, [])] 1 [vR 106, vI x1, vU] [] M Q
  simp only [w_iconst, w_is_2 (c2I _), w_fall, true_and, and_true, true_or, or_true]
  exact h
theorem b_172_1 {sx : Int → Int} {L : Nat} {x1 : Int} {x2 : Int} {M : Mem} {Q : Option AV → Mem → Prop} 
    (h : (M 104 0 ≤ x2 → Rn sx L K0 R0 172 3 [vR 106, vI x1, vI x2] [] M Q) ∧ (¬ (M 104 0 ≤ x2) → ((0 : Int) ≤ x1 ∧ x1 < (8 : Int)) ∧ (((0 : Int) ≤ M 129 x1 ∧ (0 : Int) ≤ x2 ∧ x2 ≤ (30 : Int)) ∧ ((¬ iAnd ((M 129 x1) / 2 ^ (x2).toNat) 1 = (1 : Int) → Rn sx L K0 R0 172 2 [vR 106, vI x1, vI x2] [] M Q) ∧ (¬ (¬ iAnd ((M 129 x1) / 2 ^ (x2).toNat) 1 = (1 : Int)) → ((0 : Int) ≤ x2 ∧ x2 < (6 : Int)) ∧ ((¬ M 105 x2 = (2 : Int) → Rn sx L K0 R0 172 2 [vR 106, vI x1, vI x2] [] M Q) ∧ (¬ (¬ M 105 x2 = (2 : Int)) → Q (some (vI 1)) M))))))) : Rn sx L K0 R0 172 1 [vR 106, vI x1, vI x2] [] M Q := by
  refine Rn_w (by decide) ?_
  show wpc sx L K0 R0 172 [(2, 1, .iload_n 2, []), (3, 1, .aload_n 0, []), (4, 3, .getfield 139, [9, 0, 1154]), (7, 3, .if_icmp .ge 35, [3]), (10, 1, .aload_n 0, []), (11, 3, .getfield 89, [9, 41, 1195]), (14, 1, .iload_n 1, []), (15, 1, .iaload, []), (16, 1, .iload_n 2, []), (17, 1, .ishr, []), (18, 1, .iconst 1, []), (19, 1, .iand, []), (20, 1, .iconst 1, []), (21, 3, .if_icmp .ne 15, [2]), (24, 1, .aload_n 0, []), (25, 3, .getfield 7, [9, 1, 1155]), (28, 1, .iload_n 2, []), (29, 1, .iaload, []), (30, 1, .iconst 2, []), (31, 3, .if_icmp .ne 5, [2]), (34, 1, .iconst 1, []), (35, 1, .ireturn, [])] 0 [vR 106, vI x1, vI x2] [] M Q
  simp only [w_il_2, w_al_0, w_gf_9_0, kin_T (ks_104), w_ic_ge, w_gf_9_41, rs_104_41, w_il_1, w_iald, arr_T (ks_129), w_ishr, w_iconst, w_iand, w_ic_ne, w_gf_9_1, rs_104_1, arr_T (ks_105), w_ret2 rk_172, b01_1, true_and, and_true, true_or, or_true]
  exact h
theorem b_172_2 {sx : Int → Int} {L : Nat} {x1 : Int} {x2 : Int} {M : Mem} {Q : Option AV → Mem → Prop} 
    (h : inR (x2 + 1) ∧ (Rn sx L K0 R0 172 1 [vR 106, vI x1, vI (x2 + 1)] [] M Q)) : Rn sx L K0 R0 172 2 [vR 106, vI x1, vI x2] [] M Q := by
  refine Rn_w (by decide) ?_
  show wpc sx L K0 R0 172 [(36, 3, .iinc 2 1, []), (39, 3, .goto (-37), [1])] 0 [vR 106, vI x1, vI x2] [] M Q
  simp only [w_inc_2 (c2I _), w_goto, true_and, and_true, true_or, or_true]
  exact h
theorem b_172_3 {sx : Int → Int} {L : Nat} {x1 : Int} {x2 : Int} {M : Mem} {Q : Option AV → Mem → Prop} 
    (h : Q (some (vI 0)) M) : Rn sx L K0 R0 172 3 [vR 106, vI x1, vI x2] [] M Q := by
  refine Rn_w (by decide) ?_
  show wpc sx L K0 R0 172 [(42, 1, .iconst 0, []), (43, 1, .ireturn, [])] 0 [vR 106, vI x1, vI x2] [] M Q
  simp only [w_iconst, w_ret2 rk_172, b01_0, true_and, and_true, true_or, or_true]
  exact h
theorem b_173_0 {sx : Int → Int} {L : Nat}  {M : Mem} {Q : Option AV → Mem → Prop} 
    (h : Mq sx L K0 R0 171 [vR 106] M (fun rv M1 => rv = none ∧ (Rn sx L K0 R0 173 1 [vR 106, vI (-1), vI 0, vI 0, vU, vU] [] M1 Q))) : Rn sx L K0 R0 173 0 [vR 106, vU, vU, vU, vU, vU] [] M Q := by
  refine Rn_w (by decide) ?_
  show wpc sx L K0 R0 173 [(0, 1, .aload_n 0, []), (1, 3, .invokevirtual 250, [171, 1469, 0]), (4, 1, .iconst (-1), []), (5, 1, .istore_n 1, []), (6, 1, .iconst 0, []), (7, 1, .istore_n 2, []), (8, 1, .iconst 0, []), (9, 1, .istore_n 3, [])] 1 [vR 106, vU, vU, vU, vU, vU] [] M Q
  simp only [w_al_0, w_ivv_0  cs0, mk_171, kin_T (ks_104), rk_171, rvk0, List.nil_append, w_iconst, w_is_1 (c2R _), w_is_2 (c2I _), w_is_3 (c2I _), w_fall, true_and, and_true, true_or, or_true]
  exact h
set_option maxRecDepth 8192 in
theorem b_173_1 {sx : Int → Int} {L : Nat} {x1 : Int} {x2 : Int} {x3 : Int} {u4 : AV} {u5 : AV} {M : Mem} {Q : Option AV → Mem → Prop} (hu4 : cat2 u4 = false) (hu5 : cat2 u5 = false)
    (h : ((8 : Int) ≤ x3 → Rn sx L K0 R0 173 11 [vR 106, vI x1, vI x2, vI x3, u4, u5] [] M Q) ∧ (¬ ((8 : Int) ≤ x3) → ((0 : Int) ≤ x3 ∧ x3 < (8 : Int)) ∧ ((M 130 x3 = (0 : Int) → Rn sx L K0 R0 173 10 [vR 106, vI x1, vI x2, vI x3, u4, u5] [] M Q) ∧ (¬ (M 130 x3 = (0 : Int)) → ((0 : Int) ≤ x3 ∧ x3 < (8 : Int)) ∧ ((¬ M 132 x3 = (3 : Int) → Rn sx L K0 R0 173 10 [vR 106, vI x1, vI x2, vI x3, u4, u5] [] M Q) ∧ (¬ (¬ M 132 x3 = (3 : Int)) → Mq sx L K0 R0 172 [vR 106, vI x3] M (fun rv M1 => ∃ r1, rv = some (vI r1) ∧ ((x1 = (-1 : Int) → Rn sx L K0 R0 173 3 [vR 106, vI x1, vI x2, vI x3, vI r1, u5] [] M1 Q) ∧ (¬ (x1 = (-1 : Int)) → (r1 = (0 : Int) → Rn sx L K0 R0 173 2 [vR 106, vI x1, vI x2, vI x3, vI r1, u5] [] M1 Q) ∧ (¬ (r1 = (0 : Int)) → (x2 = (0 : Int) → Rn sx L K0 R0 173 3 [vR 106, vI x1, vI x2, vI x3, vI r1, u5] [] M1 Q) ∧ (¬ (x2 = (0 : Int)) → Rn sx L K0 R0 173 2 [vR 106, vI x1, vI x2, vI x3, vI r1, u5] [] M1 Q))))))))))) : Rn sx L K0 R0 173 1 [vR 106, vI x1, vI x2, vI x3, u4, u5] [] M Q := by
  refine Rn_w (by decide) ?_
  show wpc sx L K0 R0 173 [(10, 1, .iload_n 3, []), (11, 2, .bipush 8, []), (13, 3, .if_icmp .ge 100, [11]), (16, 1, .aload_n 0, []), (17, 3, .getfield 92, [9, 42, 1196]), (20, 1, .iload_n 3, []), (21, 1, .baload, []), (22, 3, .ifCond .eq 85, [10]), (25, 1, .aload_n 0, []), (26, 3, .getfield 99, [9, 44, 1198]), (29, 1, .iload_n 3, []), (30, 1, .iaload, []), (31, 1, .iconst 3, []), (32, 3, .if_icmp .ne 75, [10]), (35, 1, .aload_n 0, []), (36, 1, .iload_n 3, []), (37, 3, .invokevirtual 253, [172, 1477, 1]), (40, 2, .istore 4, []), (42, 1, .iload_n 1, []), (43, 1, .iconst (-1), []), (44, 3, .if_icmp .eq 33, [3]), (47, 2, .iload 4, []), (49, 3, .ifCond .eq 7, [2]), (52, 1, .iload_n 2, []), (53, 3, .ifCond .eq 24, [3])] 2 [vR 106, vI x1, vI x2, vI x3, u4, u5] [] M Q
  simp only [w_il_3, w_bipush, w_ic_ge, w_al_0, w_gf_9_42, kin_T (ks_104), rs_104_42, w_bald, arr_T (ks_130), w_if_eq, w_gf_9_44, rs_104_44, w_iald, arr_T (ks_132), w_iconst, w_ic_ne, w_ivv_1 (c2I _) cs0, mk_172, rk_172, rvk2, List.cons_append, List.nil_append, w_is_4 (c2I _), w_il_1, w_ic_eq, w_il_4, w_il_2, w_fall, true_and, and_true, true_or, or_true]
  exact h
theorem b_173_2 {sx : Int → Int} {L : Nat} {x1 : Int} {x2 : Int} {x3 : Int} {x4 : Int} {u5 : AV} {M : Mem} {Q : Option AV → Mem → Prop} (hu5 : cat2 u5 = false)
    (h : (¬ x4 = x2 → Rn sx L K0 R0 173 4 [vR 106, vI x1, vI x2, vI x3, vI x4, u5] [] M Q) ∧ (¬ (¬ x4 = x2) → ((0 : Int) ≤ x3 ∧ x3 < (8 : Int)) ∧ (((0 : Int) ≤ x1 ∧ x1 < (8 : Int)) ∧ ((M 134 x1 ≤ M 134 x3 → Rn sx L K0 R0 173 4 [vR 106, vI x1, vI x2, vI x3, vI x4, u5] [] M Q) ∧ (¬ (M 134 x1 ≤ M 134 x3) → Rn sx L K0 R0 173 3 [vR 106, vI x1, vI x2, vI x3, vI x4, u5] [] M Q))))) : Rn sx L K0 R0 173 2 [vR 106, vI x1, vI x2, vI x3, vI x4, u5] [] M Q := by
  refine Rn_w (by decide) ?_
  show wpc sx L K0 R0 173 [(56, 2, .iload 4, []), (58, 1, .iload_n 2, []), (59, 3, .if_icmp .ne 22, [4]), (62, 1, .aload_n 0, []), (63, 3, .getfield 105, [9, 46, 1200]), (66, 1, .iload_n 3, []), (67, 1, .iaload, []), (68, 1, .aload_n 0, []), (69, 3, .getfield 105, [9, 46, 1200]), (72, 1, .iload_n 1, []), (73, 1, .iaload, []), (74, 3, .if_icmp .ge 7, [4])] 3 [vR 106, vI x1, vI x2, vI x3, vI x4, u5] [] M Q
  simp only [w_il_4, w_il_2, w_ic_ne, w_al_0, w_gf_9_46, kin_T (ks_104), rs_104_46, w_il_3, w_iald, arr_T (ks_134), w_il_1, w_ic_ge, w_fall, true_and, and_true, true_or, or_true]
  exact h
theorem b_173_3 {sx : Int → Int} {L : Nat} {x1 : Int} {x2 : Int} {x3 : Int} {x4 : Int} {u5 : AV} {M : Mem} {Q : Option AV → Mem → Prop} (hu5 : cat2 u5 = false)
    (h : Rn sx L K0 R0 173 5 [vR 106, vI x1, vI x2, vI x3, vI x4, u5] [vI 1] M Q) : Rn sx L K0 R0 173 3 [vR 106, vI x1, vI x2, vI x3, vI x4, u5] [] M Q := by
  refine Rn_w (by decide) ?_
  show wpc sx L K0 R0 173 [(77, 1, .iconst 1, []), (78, 3, .goto 4, [5])] 0 [vR 106, vI x1, vI x2, vI x3, vI x4, u5] [] M Q
  simp only [w_iconst, w_goto, true_and, and_true, true_or, or_true]
  exact h
theorem b_173_4 {sx : Int → Int} {L : Nat} {x1 : Int} {x2 : Int} {x3 : Int} {x4 : Int} {u5 : AV} {M : Mem} {Q : Option AV → Mem → Prop} (hu5 : cat2 u5 = false)
    (h : Rn sx L K0 R0 173 5 [vR 106, vI x1, vI x2, vI x3, vI x4, u5] [vI 0] M Q) : Rn sx L K0 R0 173 4 [vR 106, vI x1, vI x2, vI x3, vI x4, u5] [] M Q := by
  refine Rn_w (by decide) ?_
  show wpc sx L K0 R0 173 [(81, 1, .iconst 0, [])] 5 [vR 106, vI x1, vI x2, vI x3, vI x4, u5] [] M Q
  simp only [w_iconst, w_fall, true_and, and_true, true_or, or_true]
  exact h
theorem b_173_5 {sx : Int → Int} {L : Nat} {x1 : Int} {x2 : Int} {x3 : Int} {x4 : Int} {u5 : AV} {y0 : Int} {M : Mem} {Q : Option AV → Mem → Prop} (hu5 : cat2 u5 = false)
    (h : (y0 = (0 : Int) → Rn sx L K0 R0 173 6 [vR 106, vI x1, vI x2, vI x3, vI x4, vI y0] [] M Q) ∧ (¬ (y0 = (0 : Int)) → Rn sx L K0 R0 173 7 [vR 106, vI x1, vI x2, vI x3, vI x4, vI y0] [vI x3] M Q)) : Rn sx L K0 R0 173 5 [vR 106, vI x1, vI x2, vI x3, vI x4, u5] [vI y0] M Q := by
  refine Rn_w (by decide) ?_
  show wpc sx L K0 R0 173 [(82, 2, .istore 5, []), (84, 2, .iload 5, []), (86, 3, .ifCond .eq 7, [6]), (89, 1, .iload_n 3, []), (90, 3, .goto 4, [7])] 0 [vR 106, vI x1, vI x2, vI x3, vI x4, u5] [vI y0] M Q
  simp only [w_is_5 (c2I _), w_il_5, w_if_eq, w_il_3, w_goto, true_and, and_true, true_or, or_true]
  exact h
theorem b_173_6 {sx : Int → Int} {L : Nat} {x1 : Int} {x2 : Int} {x3 : Int} {x4 : Int} {x5 : Int} {M : Mem} {Q : Option AV → Mem → Prop} 
    (h : Rn sx L K0 R0 173 7 [vR 106, vI x1, vI x2, vI x3, vI x4, vI x5] [vI x1] M Q) : Rn sx L K0 R0 173 6 [vR 106, vI x1, vI x2, vI x3, vI x4, vI x5] [] M Q := by
  refine Rn_w (by decide) ?_
  show wpc sx L K0 R0 173 [(93, 1, .iload_n 1, [])] 7 [vR 106, vI x1, vI x2, vI x3, vI x4, vI x5] [] M Q
  simp only [w_il_1, w_fall, true_and, and_true, true_or, or_true]
  exact h
theorem b_173_7 {sx : Int → Int} {L : Nat} {x1 : Int} {x2 : Int} {x3 : Int} {x4 : Int} {x5 : Int} {y0 : Int} {M : Mem} {Q : Option AV → Mem → Prop} 
    (h : (x5 = (0 : Int) → Rn sx L K0 R0 173 8 [vR 106, vI y0, vI x2, vI x3, vI x4, vI x5] [] M Q) ∧ (¬ (x5 = (0 : Int)) → Rn sx L K0 R0 173 9 [vR 106, vI y0, vI x2, vI x3, vI x4, vI x5] [vI x4] M Q)) : Rn sx L K0 R0 173 7 [vR 106, vI x1, vI x2, vI x3, vI x4, vI x5] [vI y0] M Q := by
  refine Rn_w (by decide) ?_
  show wpc sx L K0 R0 173 [(94, 1, .istore_n 1, []), (95, 2, .iload 5, []), (97, 3, .ifCond .eq 8, [8]), (100, 2, .iload 4, []), (102, 3, .goto 4, [9])] 0 [vR 106, vI x1, vI x2, vI x3, vI x4, vI x5] [vI y0] M Q
  simp only [w_is_1 (c2R _), w_il_5, w_if_eq, w_il_4, w_goto, true_and, and_true, true_or, or_true]
  exact h
theorem b_173_8 {sx : Int → Int} {L : Nat} {x1 : Int} {x2 : Int} {x3 : Int} {x4 : Int} {x5 : Int} {M : Mem} {Q : Option AV → Mem → Prop} 
    (h : Rn sx L K0 R0 173 9 [vR 106, vI x1, vI x2, vI x3, vI x4, vI x5] [vI x2] M Q) : Rn sx L K0 R0 173 8 [vR 106, vI x1, vI x2, vI x3, vI x4, vI x5] [] M Q := by
  refine Rn_w (by decide) ?_
  show wpc sx L K0 R0 173 [(105, 1, .iload_n 2, [])] 9 [vR 106, vI x1, vI x2, vI x3, vI x4, vI x5] [] M Q
  simp only [w_il_2, w_fall, true_and, and_true, true_or, or_true]
  exact h
theorem b_173_9 {sx : Int → Int} {L : Nat} {x1 : Int} {x2 : Int} {x3 : Int} {x4 : Int} {x5 : Int} {y0 : Int} {M : Mem} {Q : Option AV → Mem → Prop} 
    (h : Rn sx L K0 R0 173 10 [vR 106, vI x1, vI y0, vI x3, vI x4, vI x5] [] M Q) : Rn sx L K0 R0 173 9 [vR 106, vI x1, vI x2, vI x3, vI x4, vI x5] [vI y0] M Q := by
  refine Rn_w (by decide) ?_
  show wpc sx L K0 R0 173 [(106, 1, .istore_n 2, [])] 10 [vR 106, vI x1, vI x2, vI x3, vI x4, vI x5] [vI y0] M Q
  simp only [w_is_2 (c2I _), w_fall, true_and, and_true, true_or, or_true]
  exact h
theorem b_173_10 {sx : Int → Int} {L : Nat} {x1 : Int} {x2 : Int} {x3 : Int} {u4 : AV} {u5 : AV} {M : Mem} {Q : Option AV → Mem → Prop} (hu4 : cat2 u4 = false) (hu5 : cat2 u5 = false)
    (h : inR (x3 + 1) ∧ (Rn sx L K0 R0 173 1 [vR 106, vI x1, vI x2, vI (x3 + 1), u4, u5] [] M Q)) : Rn sx L K0 R0 173 10 [vR 106, vI x1, vI x2, vI x3, u4, u5] [] M Q := by
  refine Rn_w (by decide) ?_
  show wpc sx L K0 R0 173 [(107, 3, .iinc 3 1, []), (110, 3, .goto (-100), [1])] 0 [vR 106, vI x1, vI x2, vI x3, u4, u5] [] M Q
  simp only [w_inc_3 (c2I _), w_goto, true_and, and_true, true_or, or_true]
  exact h
theorem b_173_11 {sx : Int → Int} {L : Nat} {x1 : Int} {x2 : Int} {x3 : Int} {u4 : AV} {u5 : AV} {M : Mem} {Q : Option AV → Mem → Prop} (hu4 : cat2 u4 = false) (hu5 : cat2 u5 = false)
    (h : Q (some (vI x1)) M) : Rn sx L K0 R0 173 11 [vR 106, vI x1, vI x2, vI x3, u4, u5] [] M Q := by
  refine Rn_w (by decide) ?_
  show wpc sx L K0 R0 173 [(113, 1, .iload_n 1, []), (114, 1, .ireturn, [])] 0 [vR 106, vI x1, vI x2, vI x3, u4, u5] [] M Q
  simp only [w_il_1, w_ret1 rk_173, true_and, and_true, true_or, or_true]
  exact h
theorem b_174_0 {sx : Int → Int} {L : Nat}  {M : Mem} {Q : Option AV → Mem → Prop} 
    (h : Rn sx L K0 R0 174 1 [vR 106, vI 0, vU, vU] [] M Q) : Rn sx L K0 R0 174 0 [vR 106, vU, vU, vU] [] M Q := by
  refine Rn_w (by decide) ?_
  show wpc sx L K0 R0 174 [(0, 1, .iconst 0, []), (1, 1, .istore_n 1, [])] 1 [vR 106, vU, vU, vU] [] M Q
  simp only [w_iconst, w_is_1 (c2R _), w_fall, true_and, and_true, true_or, or_true]
  exact h
theorem b_174_1 {sx : Int → Int} {L : Nat} {x1 : Int} {u2 : AV} {u3 : AV} {M : Mem} {Q : Option AV → Mem → Prop} (hu2 : cat2 u2 = false) (hu3 : cat2 u3 = false)
    (h : (M 104 24 ≤ x1 → Rn sx L K0 R0 174 8 [vR 106, vI x1, u2, u3] [] M Q) ∧ (¬ (M 104 24 ≤ x1) → Mq sx L K0 R0 173 [vR 106] M (fun rv M1 => ∃ r1, rv = some (vI r1) ∧ (Rn sx L K0 R0 174 2 [vR 106, vI x1, vI (-1), vI r1] [] M1 Q)))) : Rn sx L K0 R0 174 1 [vR 106, vI x1, u2, u3] [] M Q := by
  refine Rn_w (by decide) ?_
  show wpc sx L K0 R0 174 [(2, 1, .iload_n 1, []), (3, 1, .aload_n 0, []), (4, 3, .getfield 58, [9, 24, 1178]), (7, 3, .if_icmp .ge 71, [8]), (10, 1, .iconst (-1), []), (11, 1, .istore_n 2, []), (12, 1, .aload_n 0, []), (13, 3, .invokevirtual 256, [173, 1465, 0]), (16, 1, .istore_n 3, [])] 2 [vR 106, vI x1, u2, u3] [] M Q
  simp only [w_il_1, w_al_0, w_gf_9_24, kin_T (ks_104), w_ic_ge, w_iconst, w_is_2 (c2I _), w_ivv_0  cs0, mk_173, rk_173, rvk1, List.cons_append, List.nil_append, w_is_3 (c2I _), w_fall, true_and, and_true, true_or, or_true]
  exact h
theorem b_174_2 {sx : Int → Int} {L : Nat} {x1 : Int} {x2 : Int} {x3 : Int} {M : Mem} {Q : Option AV → Mem → Prop} 
    (h : (¬ x2 = (-1 : Int) → Rn sx L K0 R0 174 7 [vR 106, vI x1, vI x2, vI x3] [] M Q) ∧ (¬ (¬ x2 = (-1 : Int)) → (x3 = (-1 : Int) → Rn sx L K0 R0 174 7 [vR 106, vI x1, vI x2, vI x3] [] M Q) ∧ (¬ (x3 = (-1 : Int)) → Mq sx L K0 R0 169 [vR 106, vI x3] M (fun rv M1 => ∃ r1, rv = some (vI r1) ∧ ((r1 = (0 : Int) → Rn sx L K0 R0 174 3 [vR 106, vI x1, vI x2, vI x3] [] M1 Q) ∧ (¬ (r1 = (0 : Int)) → Rn sx L K0 R0 174 4 [vR 106, vI x1, vI x2, vI x3] [vI x3] M1 Q)))))) : Rn sx L K0 R0 174 2 [vR 106, vI x1, vI x2, vI x3] [] M Q := by
  refine Rn_w (by decide) ?_
  show wpc sx L K0 R0 174 [(17, 1, .iload_n 2, []), (18, 1, .iconst (-1), []), (19, 3, .if_icmp .ne 39, [7]), (22, 1, .iload_n 3, []), (23, 1, .iconst (-1), []), (24, 3, .if_icmp .eq 34, [7]), (27, 1, .aload_n 0, []), (28, 1, .iload_n 3, []), (29, 3, .invokevirtual 259, [169, 1481, 1]), (32, 3, .ifCond .eq 7, [3]), (35, 1, .iload_n 3, []), (36, 3, .goto 4, [4])] 0 [vR 106, vI x1, vI x2, vI x3] [] M Q
  simp only [w_il_2, w_iconst, w_ic_ne, w_il_3, w_ic_eq, w_al_0, w_ivv_1 (c2I _) cs0, mk_169, kin_T (ks_104), rk_169, rvk2, List.cons_append, List.nil_append, w_if_eq, w_goto, true_and, and_true, true_or, or_true]
  exact h
theorem b_174_3 {sx : Int → Int} {L : Nat} {x1 : Int} {x2 : Int} {x3 : Int} {M : Mem} {Q : Option AV → Mem → Prop} 
    (h : Rn sx L K0 R0 174 4 [vR 106, vI x1, vI x2, vI x3] [vI (-1)] M Q) : Rn sx L K0 R0 174 3 [vR 106, vI x1, vI x2, vI x3] [] M Q := by
  refine Rn_w (by decide) ?_
  show wpc sx L K0 R0 174 [(39, 1, .iconst (-1), [])] 4 [vR 106, vI x1, vI x2, vI x3] [] M Q
  simp only [w_iconst, w_fall, true_and, and_true, true_or, or_true]
  exact h
theorem b_174_4 {sx : Int → Int} {L : Nat} {x1 : Int} {x2 : Int} {x3 : Int} {y0 : Int} {M : Mem} {Q : Option AV → Mem → Prop} 
    (h : (¬ y0 = (-1 : Int) → Rn sx L K0 R0 174 5 [vR 106, vI x1, vI y0, vI x3] [] M Q) ∧ (¬ (¬ y0 = (-1 : Int)) → Mq sx L K0 R0 173 [vR 106] M (fun rv M1 => ∃ r1, rv = some (vI r1) ∧ (Rn sx L K0 R0 174 6 [vR 106, vI x1, vI y0, vI x3] [vI r1] M1 Q)))) : Rn sx L K0 R0 174 4 [vR 106, vI x1, vI x2, vI x3] [vI y0] M Q := by
  refine Rn_w (by decide) ?_
  show wpc sx L K0 R0 174 [(40, 1, .istore_n 2, []), (41, 1, .iload_n 2, []), (42, 1, .iconst (-1), []), (43, 3, .if_icmp .ne 10, [5]), (46, 1, .aload_n 0, []), (47, 3, .invokevirtual 256, [173, 1465, 0]), (50, 3, .goto 4, [6])] 0 [vR 106, vI x1, vI x2, vI x3] [vI y0] M Q
  simp only [w_is_2 (c2I _), w_il_2, w_iconst, w_ic_ne, w_al_0, w_ivv_0  cs0, mk_173, kin_T (ks_104), rk_173, rvk1, List.cons_append, List.nil_append, w_goto, true_and, and_true, true_or, or_true]
  exact h
theorem b_174_5 {sx : Int → Int} {L : Nat} {x1 : Int} {x2 : Int} {x3 : Int} {M : Mem} {Q : Option AV → Mem → Prop} 
    (h : Rn sx L K0 R0 174 6 [vR 106, vI x1, vI x2, vI x3] [vI (-1)] M Q) : Rn sx L K0 R0 174 5 [vR 106, vI x1, vI x2, vI x3] [] M Q := by
  refine Rn_w (by decide) ?_
  show wpc sx L K0 R0 174 [(53, 1, .iconst (-1), [])] 6 [vR 106, vI x1, vI x2, vI x3] [] M Q
  simp only [w_iconst, w_fall, true_and, and_true, true_or, or_true]
  exact h
theorem b_174_6 {sx : Int → Int} {L : Nat} {x1 : Int} {x2 : Int} {x3 : Int} {y0 : Int} {M : Mem} {Q : Option AV → Mem → Prop} 
    (h : Rn sx L K0 R0 174 2 [vR 106, vI x1, vI x2, vI y0] [] M Q) : Rn sx L K0 R0 174 6 [vR 106, vI x1, vI x2, vI x3] [vI y0] M Q := by
  refine Rn_w (by decide) ?_
  show wpc sx L K0 R0 174 [(54, 1, .istore_n 3, []), (55, 3, .goto (-38), [2])] 0 [vR 106, vI x1, vI x2, vI x3] [vI y0] M Q
  simp only [w_is_3 (c2I _), w_goto, true_and, and_true, true_or, or_true]
  exact h
theorem b_174_7 {sx : Int → Int} {L : Nat} {x1 : Int} {x2 : Int} {x3 : Int} {M : Mem} {Q : Option AV → Mem → Prop} 
    (h : inR ((3 : Int) * (M 104 51)) ∧ (inR (((3 : Int) * (M 104 51)) + x1) ∧ (((0 : Int) ≤ ((3 : Int) * (M 104 51)) + x1 ∧ ((3 : Int) * (M 104 51)) + x1 < (600 : Int)) ∧ (inR (x1 + 1) ∧ (Rn sx L K0 R0 174 1 [vR 106, vI (x1 + 1), vI x2, vI x3] [] (mset M 135 (((3 : Int) * (M 104 51)) + x1) x2) Q))))) : Rn sx L K0 R0 174 7 [vR 106, vI x1, vI x2, vI x3] [] M Q := by
  refine Rn_w (by decide) ?_
  show wpc sx L K0 R0 174 [(58, 1, .aload_n 0, []), (59, 3, .getfield 108, [9, 47, 1201]), (62, 1, .iconst 3, []), (63, 1, .aload_n 0, []), (64, 3, .getfield 223, [9, 51, 1205]), (67, 1, .imul, []), (68, 1, .iload_n 1, []), (69, 1, .iadd, []), (70, 1, .iload_n 2, []), (71, 1, .iastore, []), (72, 3, .iinc 1 1, []), (75, 3, .goto (-73), [1])] 0 [vR 106, vI x1, vI x2, vI x3] [] M Q
  simp only [w_al_0, w_gf_9_47, kin_T (ks_104), rs_104_47, w_iconst, w_gf_9_51, w_imul, w_il_1, w_iadd, w_il_2, w_iast, arr_T (ks_135), w_inc_1 (c2R _), w_goto, true_and, and_true, true_or, or_true]
  exact h
theorem b_174_8 {sx : Int → Int} {L : Nat} {x1 : Int} {u2 : AV} {u3 : AV} {M : Mem} {Q : Option AV → Mem → Prop} (hu2 : cat2 u2 = false) (hu3 : cat2 u3 = false)
    (h : Q none M) : Rn sx L K0 R0 174 8 [vR 106, vI x1, u2, u3] [] M Q := by
  refine Rn_w (by decide) ?_
  show wpc sx L K0 R0 174 [(78, 1, .return_, [])] 0 [vR 106, vI x1, u2, u3] [] M Q
  simp only [w_ret0 rk_174, true_and, and_true, true_or, or_true]
  exact h
theorem b_175_0 {sx : Int → Int} {L : Nat}  {M : Mem} {Q : Option AV → Mem → Prop} 
    (h : Rn sx L K0 R0 175 1 [vR 106, vI 0, vI 0, vU, vU, vU] [] M Q) : Rn sx L K0 R0 175 0 [vR 106, vU, vU, vU, vU, vU] [] M Q := by
  refine Rn_w (by decide) ?_
  show wpc sx L K0 R0 175 [(0, 1, .iconst 0, []), (1, 1, .istore_n 1, []), (2, 1, .iconst 0, []), (3, 1, .istore_n 2, [])] 1 [vR 106, vU, vU, vU, vU, vU] [] M Q
  simp only [w_iconst, w_is_1 (c2R _), w_is_2 (c2I _), w_fall, true_and, and_true, true_or, or_true]
  exact h
theorem b_175_1 {sx : Int → Int} {L : Nat} {x1 : Int} {x2 : Int} {u3 : AV} {u4 : AV} {u5 : AV} {M : Mem} {Q : Option AV → Mem → Prop} (hu3 : cat2 u3 = false) (hu4 : cat2 u4 = false) (hu5 : cat2 u5 = false)
    (h : ((8 : Int) ≤ x2 → Rn sx L K0 R0 175 8 [vR 106, vI x1, vI x2, u3, u4, u5] [] M Q) ∧ (¬ ((8 : Int) ≤ x2) → ((0 : Int) ≤ x2 ∧ x2 < (8 : Int)) ∧ (Rn sx L K0 R0 175 2 [vR 106, vI x1, vI x2, vI (M 133 x2), vI 0, u5] [] M Q))) : Rn sx L K0 R0 175 1 [vR 106, vI x1, vI x2, u3, u4, u5] [] M Q := by
  refine Rn_w (by decide) ?_
  show wpc sx L K0 R0 175 [(4, 1, .iload_n 2, []), (5, 2, .bipush 8, []), (7, 3, .if_icmp .ge 80, [8]), (10, 1, .aload_n 0, []), (11, 3, .getfield 102, [9, 45, 1199]), (14, 1, .iload_n 2, []), (15, 1, .iaload, []), (16, 1, .istore_n 3, []), (17, 1, .iconst 0, []), (18, 2, .istore 4, [])] 2 [vR 106, vI x1, vI x2, u3, u4, u5] [] M Q
  simp only [w_il_2, w_bipush, w_ic_ge, w_al_0, w_gf_9_45, kin_T (ks_104), rs_104_45, w_iald, arr_T (ks_133), w_is_3 (c2I _), w_iconst, w_is_4 (c2I _), w_fall, true_and, and_true, true_or, or_true]
  exact h
theorem b_175_2 {sx : Int → Int} {L : Nat} {x1 : Int} {x2 : Int} {x3 : Int} {x4 : Int} {u5 : AV} {M : Mem} {Q : Option AV → Mem → Prop} (hu5 : cat2 u5 = false)
    (h : ((8 : Int) ≤ x4 → Rn sx L K0 R0 175 7 [vR 106, vI x1, vI x2, vI x3, vI x4, u5] [] M Q) ∧ (¬ ((8 : Int) ≤ x4) → Rn sx L K0 R0 175 3 [vR 106, vI x1, vI x2, vI x3, vI x4, vI 0] [] M Q)) : Rn sx L K0 R0 175 2 [vR 106, vI x1, vI x2, vI x3, vI x4, u5] [] M Q := by
  refine Rn_w (by decide) ?_
  show wpc sx L K0 R0 175 [(20, 2, .iload 4, []), (22, 2, .bipush 8, []), (24, 3, .if_icmp .ge 49, [7]), (27, 1, .iconst 0, []), (28, 2, .istore 5, [])] 3 [vR 106, vI x1, vI x2, vI x3, vI x4, u5] [] M Q
  simp only [w_il_4, w_bipush, w_ic_ge, w_iconst, w_is_5 (c2I _), w_fall, true_and, and_true, true_or, or_true]
  exact h
theorem b_175_3 {sx : Int → Int} {L : Nat} {x1 : Int} {x2 : Int} {x3 : Int} {x4 : Int} {x5 : Int} {M : Mem} {Q : Option AV → Mem → Prop} 
    (h : ((8 : Int) ≤ x5 → Rn sx L K0 R0 175 6 [vR 106, vI x1, vI x2, vI x3, vI x4, vI x5] [] M Q) ∧ (¬ ((8 : Int) ≤ x5) → ((0 : Int) ≤ x3 ∧ (0 : Int) ≤ x5 ∧ x5 ≤ (30 : Int)) ∧ ((¬ iAnd (x3 / 2 ^ (x5).toNat) 1 = (1 : Int) → Rn sx L K0 R0 175 4 [vR 106, vI x1, vI x2, vI x3, vI x4, vI x5] [vI x3] M Q) ∧ (¬ (¬ iAnd (x3 / 2 ^ (x5).toNat) 1 = (1 : Int)) → ((0 : Int) ≤ x5 ∧ x5 < (8 : Int)) ∧ (Rn sx L K0 R0 175 5 [vR 106, vI x1, vI x2, vI x3, vI x4, vI x5] [vI (M 133 x5), vI x3] M Q))))) : Rn sx L K0 R0 175 3 [vR 106, vI x1, vI x2, vI x3, vI x4, vI x5] [] M Q := by
  refine Rn_w (by decide) ?_
  show wpc sx L K0 R0 175 [(30, 2, .iload 5, []), (32, 2, .bipush 8, []), (34, 3, .if_icmp .ge 33, [6]), (37, 1, .iload_n 3, []), (38, 1, .iload_n 3, []), (39, 2, .iload 5, []), (41, 1, .ishr, []), (42, 1, .iconst 1, []), (43, 1, .iand, []), (44, 1, .iconst 1, []), (45, 3, .if_icmp .ne 13, [4]), (48, 1, .aload_n 0, []), (49, 3, .getfield 102, [9, 45, 1199]), (52, 2, .iload 5, []), (54, 1, .iaload, []), (55, 3, .goto 4, [5])] 0 [vR 106, vI x1, vI x2, vI x3, vI x4, vI x5] [] M Q
  simp only [w_il_5, w_bipush, w_ic_ge, w_il_3, w_ishr, w_iconst, w_iand, w_ic_ne, w_al_0, w_gf_9_45, kin_T (ks_104), rs_104_45, w_iald, arr_T (ks_133), w_goto, true_and, and_true, true_or, or_true]
  exact h
theorem b_175_4 {sx : Int → Int} {L : Nat} {x1 : Int} {x2 : Int} {x3 : Int} {x4 : Int} {x5 : Int} {y0 : Int} {M : Mem} {Q : Option AV → Mem → Prop} 
    (h : Rn sx L K0 R0 175 5 [vR 106, vI x1, vI x2, vI x3, vI x4, vI x5] [vI 0, vI y0] M Q) : Rn sx L K0 R0 175 4 [vR 106, vI x1, vI x2, vI x3, vI x4, vI x5] [vI y0] M Q := by
  refine Rn_w (by decide) ?_
  show wpc sx L K0 R0 175 [(58, 1, .iconst 0, [])] 5 [vR 106, vI x1, vI x2, vI x3, vI x4, vI x5] [vI y0] M Q
  simp only [w_iconst, w_fall, true_and, and_true, true_or, or_true]
  exact h
theorem b_175_5 {sx : Int → Int} {L : Nat} {x1 : Int} {x2 : Int} {x3 : Int} {x4 : Int} {x5 : Int} {y0 : Int} {y1 : Int} {M : Mem} {Q : Option AV → Mem → Prop} 
    (h : inR (x5 + 1) ∧ (Rn sx L K0 R0 175 3 [vR 106, vI x1, vI x2, vI (iOr y0 y1), vI x4, vI (x5 + 1)] [] M Q)) : Rn sx L K0 R0 175 5 [vR 106, vI x1, vI x2, vI x3, vI x4, vI x5] [vI y1, vI y0] M Q := by
  refine Rn_w (by decide) ?_
  show wpc sx L K0 R0 175 [(59, 1, .ior, []), (60, 1, .istore_n 3, []), (61, 3, .iinc 5 1, []), (64, 3, .goto (-34), [3])] 0 [vR 106, vI x1, vI x2, vI x3, vI x4, vI x5] [vI y1, vI y0] M Q
  simp only [w_ior, w_is_3 (c2I _), w_inc_5 (c2I _), w_goto, true_and, and_true, true_or, or_true]
  exact h
theorem b_175_6 {sx : Int → Int} {L : Nat} {x1 : Int} {x2 : Int} {x3 : Int} {x4 : Int} {x5 : Int} {M : Mem} {Q : Option AV → Mem → Prop} 
    (h : inR (x4 + 1) ∧ (Rn sx L K0 R0 175 2 [vR 106, vI x1, vI x2, vI x3, vI (x4 + 1), vI x5] [] M Q)) : Rn sx L K0 R0 175 6 [vR 106, vI x1, vI x2, vI x3, vI x4, vI x5] [] M Q := by
  refine Rn_w (by decide) ?_
  show wpc sx L K0 R0 175 [(67, 3, .iinc 4 1, []), (70, 3, .goto (-50), [2])] 0 [vR 106, vI x1, vI x2, vI x3, vI x4, vI x5] [] M Q
  simp only [w_inc_4 (c2I _), w_goto, true_and, and_true, true_or, or_true]
  exact h
theorem b_175_7 {sx : Int → Int} {L : Nat} {x1 : Int} {x2 : Int} {x3 : Int} {x4 : Int} {u5 : AV} {M : Mem} {Q : Option AV → Mem → Prop} (hu5 : cat2 u5 = false)
    (h : ((0 : Int) ≤ (1 : Int) ∧ (0 : Int) ≤ x2 ∧ x2 ≤ (30 : Int) ∧ (1 : Int) * 2 ^ (x2).toNat ≤ (2147483647 : Int)) ∧ (inR (x2 + 1) ∧ (Rn sx L K0 R0 175 1 [vR 106, vI (iOr x1 (iAnd x3 ((1 : Int) * 2 ^ (x2).toNat))), vI (x2 + 1), vI x3, vI x4, u5] [] M Q))) : Rn sx L K0 R0 175 7 [vR 106, vI x1, vI x2, vI x3, vI x4, u5] [] M Q := by
  refine Rn_w (by decide) ?_
  show wpc sx L K0 R0 175 [(73, 1, .iload_n 1, []), (74, 1, .iload_n 3, []), (75, 1, .iconst 1, []), (76, 1, .iload_n 2, []), (77, 1, .ishl, []), (78, 1, .iand, []), (79, 1, .ior, []), (80, 1, .istore_n 1, []), (81, 3, .iinc 2 1, []), (84, 3, .goto (-80), [1])] 0 [vR 106, vI x1, vI x2, vI x3, vI x4, u5] [] M Q
  simp only [w_il_1, w_il_3, w_iconst, w_il_2, w_ishl, w_iand, w_ior, w_is_1 (c2R _), w_inc_2 (c2I _), w_goto, true_and, and_true, true_or, or_true]
  exact h
theorem b_175_8 {sx : Int → Int} {L : Nat} {x1 : Int} {x2 : Int} {u3 : AV} {u4 : AV} {u5 : AV} {M : Mem} {Q : Option AV → Mem → Prop} (hu3 : cat2 u3 = false) (hu4 : cat2 u4 = false) (hu5 : cat2 u5 = false)
    (h : Q (some (vI x1)) M) : Rn sx L K0 R0 175 8 [vR 106, vI x1, vI x2, u3, u4, u5] [] M Q := by
  refine Rn_w (by decide) ?_
  show wpc sx L K0 R0 175 [(87, 1, .iload_n 1, []), (88, 1, .ireturn, [])] 0 [vR 106, vI x1, vI x2, u3, u4, u5] [] M Q
  simp only [w_il_1, w_ret1 rk_175, true_and, and_true, true_or, or_true]
  exact h
theorem b_176_0 {sx : Int → Int} {L : Nat} {x1 : Int} {x2 : Int} {M : Mem} {Q : Option AV → Mem → Prop} 
    (h : inR ((20 : Int) * x1) ∧ (inR (((20 : Int) * x1) + x2) ∧ (((0 : Int) ≤ ((20 : Int) * x1) + x2 ∧ ((20 : Int) * x1) + x2 < (160 : Int)) ∧ ((¬ x1 = M 104 30 → Rn sx L K0 R0 176 1 [vR 106, vI x1, vI x2] [vI (M 119 (((20 : Int) * x1) + x2))] M Q) ∧ (¬ (¬ x1 = M 104 30) → (¬ x2 = M 104 31 → Rn sx L K0 R0 176 1 [vR 106, vI x1, vI x2] [vI (M 119 (((20 : Int) * x1) + x2))] M Q) ∧ (¬ (¬ x2 = M 104 31) → Rn sx L K0 R0 176 2 [vR 106, vI x1, vI x2] [vI (M 104 32), vI (M 119 (((20 : Int) * x1) + x2))] M Q)))))) : Rn sx L K0 R0 176 0 [vR 106, vI x1, vI x2] [] M Q := by
  refine Rn_w (by decide) ?_
  show wpc sx L K0 R0 176 [(0, 1, .aload_n 0, []), (1, 3, .getfield 52, [9, 17, 1171]), (4, 2, .bipush 20, []), (6, 1, .iload_n 1, []), (7, 1, .imul, []), (8, 1, .iload_n 2, []), (9, 1, .iadd, []), (10, 1, .iaload, []), (11, 1, .iload_n 1, []), (12, 1, .aload_n 0, []), (13, 3, .getfield 208, [9, 30, 1184]), (16, 3, .if_icmp .ne 18, [1]), (19, 1, .iload_n 2, []), (20, 1, .aload_n 0, []), (21, 3, .getfield 262, [9, 31, 1185]), (24, 3, .if_icmp .ne 10, [1]), (27, 1, .aload_n 0, []), (28, 3, .getfield 265, [9, 32, 1186]), (31, 3, .goto 4, [2])] 0 [vR 106, vI x1, vI x2] [] M Q
  simp only [w_al_0, w_gf_9_17, kin_T (ks_104), rs_104_17, w_bipush, w_il_1, w_imul, w_il_2, w_iadd, w_iald, arr_T (ks_119), w_gf_9_30, w_ic_ne, w_gf_9_31, w_gf_9_32, w_goto, true_and, and_true, true_or, or_true]
  exact h
theorem b_176_1 {sx : Int → Int} {L : Nat} {x1 : Int} {x2 : Int} {y0 : Int} {M : Mem} {Q : Option AV → Mem → Prop} 
    (h : Rn sx L K0 R0 176 2 [vR 106, vI x1, vI x2] [vI 0, vI y0] M Q) : Rn sx L K0 R0 176 1 [vR 106, vI x1, vI x2] [vI y0] M Q := by
  refine Rn_w (by decide) ?_
  show wpc sx L K0 R0 176 [(34, 1, .iconst 0, [])] 2 [vR 106, vI x1, vI x2] [vI y0] M Q
  simp only [w_iconst, w_fall, true_and, and_true, true_or, or_true]
  exact h
theorem b_176_2 {sx : Int → Int} {L : Nat} {x1 : Int} {x2 : Int} {y0 : Int} {y1 : Int} {M : Mem} {Q : Option AV → Mem → Prop} 
    (h : inR (y0 + y1) ∧ (Q (some (vI (y0 + y1))) M)) : Rn sx L K0 R0 176 2 [vR 106, vI x1, vI x2] [vI y1, vI y0] M Q := by
  refine Rn_w (by decide) ?_
  show wpc sx L K0 R0 176 [(35, 1, .iadd, []), (36, 1, .ireturn, [])] 0 [vR 106, vI x1, vI x2] [vI y1, vI y0] M Q
  simp only [w_iadd, w_ret1 rk_176, true_and, and_true, true_or, or_true]
  exact h
theorem b_177_0 {sx : Int → Int} {L : Nat}  {M : Mem} {Q : Option AV → Mem → Prop} 
    (h : Rn sx L K0 R0 177 1 [vR 106, vI 0] [] M Q) : Rn sx L K0 R0 177 0 [vR 106, vU] [] M Q := by
  refine Rn_w (by decide) ?_
  show wpc sx L K0 R0 177 [(0, 1, .iconst 0, []), (1, 1, .istore_n 1, [])] 1 [vR 106, vU] [] M Q
  simp only [w_iconst, w_is_1 (c2R _), w_fall, true_and, and_true, true_or, or_true]
  exact h
set_option maxRecDepth 8192 in
theorem b_177_1 {sx : Int → Int} {L : Nat} {x1 : Int} {M : Mem} {Q : Option AV → Mem → Prop} 
    (h : ((8 : Int) ≤ x1 → Rn sx L K0 R0 177 5 [vR 106, vI x1] [] M Q) ∧ (¬ ((8 : Int) ≤ x1) → ((0 : Int) ≤ x1 ∧ x1 < (8 : Int)) ∧ ((¬ M 132 x1 = (1 : Int) → Rn sx L K0 R0 177 4 [vR 106, vI x1] [] M Q) ∧ (¬ (¬ M 132 x1 = (1 : Int)) → ((0 : Int) ≤ x1 ∧ x1 < (8 : Int)) ∧ (((0 : Int) ≤ x1 ∧ x1 < (8 : Int)) ∧ (inR (((mset M 131 x1 (M 104 51)) 128 x1) + 1) ∧ (((0 : Int) ≤ x1 ∧ x1 < (8 : Int)) ∧ (((0 : Int) ≤ x1 ∧ x1 < (8 : Int)) ∧ (((0 : Int) ≤ x1 ∧ x1 < (8 : Int)) ∧ (Mq sx L K0 R0 176 [vR 106, vI x1, vI ((mset (mset M 131 x1 (M 104 51)) 128 x1 (((mset M 131 x1 (M 104 51)) 128 x1) + 1)) 127 x1)] (mset (mset M 131 x1 (M 104 51)) 128 x1 (((mset M 131 x1 (M 104 51)) 128 x1) + 1)) (fun rv M1 => ∃ r1, rv = some (vI r1) ∧ ((¬ (mset (mset M 131 x1 (M 104 51)) 128 x1 (((mset M 131 x1 (M 104 51)) 128 x1) + 1)) 128 x1 = r1 → Rn sx L K0 R0 177 4 [vR 106, vI x1] [] M1 Q) ∧ (¬ (¬ (mset (mset M 131 x1 (M 104 51)) 128 x1 (((mset M 131 x1 (M 104 51)) 128 x1) + 1)) 128 x1 = r1) → ((0 : Int) ≤ x1 ∧ x1 < (8 : Int)) ∧ (((0 : Int) ≤ x1 ∧ x1 < (8 : Int)) ∧ (inR (((mset M1 128 x1 0) 127 x1) + 1) ∧ (((0 : Int) ≤ x1 ∧ x1 < (8 : Int)) ∧ (Rn sx L K0 R0 177 2 [vR 106, vI x1] [] (mset (mset M1 128 x1 0) 127 x1 (((mset M1 128 x1 0) 127 x1) + 1)) Q))))))))))))))))) : Rn sx L K0 R0 177 1 [vR 106, vI x1] [] M Q := by
  refine Rn_w (by decide) ?_
  show wpc sx L K0 R0 177 [(2, 1, .iload_n 1, []), (3, 2, .bipush 8, []), (5, 3, .if_icmp .ge 179, [5]), (8, 1, .aload_n 0, []), (9, 3, .getfield 99, [9, 44, 1198]), (12, 1, .iload_n 1, []), (13, 1, .iaload, []), (14, 1, .iconst 1, []), (15, 3, .if_icmp .ne 163, [4]), (18, 1, .aload_n 0, []), (19, 3, .getfield 96, [9, 43, 1197]), (22, 1, .iload_n 1, []), (23, 1, .aload_n 0, []), (24, 3, .getfield 223, [9, 51, 1205]), (27, 1, .iastore, []), (28, 1, .aload_n 0, []), (29, 3, .getfield 86, [9, 40, 1194]), (32, 1, .iload_n 1, []), (33, 1, .dup2, []), (34, 1, .iaload, []), (35, 1, .iconst 1, []), (36, 1, .iadd, []), (37, 1, .iastore, []), (38, 1, .aload_n 0, []), (39, 3, .getfield 86, [9, 40, 1194]), (42, 1, .iload_n 1, []), (43, 1, .iaload, []), (44, 1, .aload_n 0, []), (45, 1, .iload_n 1, []), (46, 1, .aload_n 0, []), (47, 3, .getfield 83, [9, 39, 1193]), (50, 1, .iload_n 1, []), (51, 1, .iaload, []), (52, 3, .invokevirtual 268, [176, 1517, 2]), (55, 3, .if_icmp .ne 123, [4]), (58, 1, .aload_n 0, []), (59, 3, .getfield 86, [9, 40, 1194]), (62, 1, .iload_n 1, []), (63, 1, .iconst 0, []), (64, 1, .iastore, []), (65, 1, .aload_n 0, []), (66, 3, .getfield 83, [9, 39, 1193]), (69, 1, .iload_n 1, []), (70, 1, .dup2, []), (71, 1, .iaload, []), (72, 1, .iconst 1, []), (73, 1, .iadd, []), (74, 1, .iastore, [])] 2 [vR 106, vI x1] [] M Q
  simp only [w_il_1, w_bipush, w_ic_ge, w_al_0, w_gf_9_44, kin_T (ks_104), rs_104_44, w_iald, arr_T (ks_132), w_iconst, w_ic_ne, w_gf_9_43, rs_104_43, w_gf_9_51, w_iast, arr_T (ks_131), w_gf_9_40, rs_104_40, w_dup2 (c2I _) (c2R _), arr_T (ks_128), w_iadd, w_gf_9_39, rs_104_39, arr_T (ks_127), w_ivv_2 (c2I _) (c2I _) (cs1 _), mk_176, rk_176, rvk1, List.cons_append, List.nil_append, w_fall, true_and, and_true, true_or, or_true]
  exact h
set_option maxRecDepth 8192 in
theorem b_177_2 {sx : Int → Int} {L : Nat} {x1 : Int} {M : Mem} {Q : Option AV → Mem → Prop} 
    (h : ((0 : Int) ≤ x1 ∧ x1 < (8 : Int)) ∧ (((0 : Int) ≤ x1 ∧ x1 < (8 : Int)) ∧ ((M 117 x1 ≤ M 127 x1 → Rn sx L K0 R0 177 3 [vR 106, vI x1] [] M Q) ∧ (¬ (M 117 x1 ≤ M 127 x1) → inR ((20 : Int) * x1) ∧ (((0 : Int) ≤ x1 ∧ x1 < (8 : Int)) ∧ (inR (((20 : Int) * x1) + (M 127 x1)) ∧ (((0 : Int) ≤ ((20 : Int) * x1) + (M 127 x1) ∧ ((20 : Int) * x1) + (M 127 x1) < (160 : Int)) ∧ ((¬ M 118 (((20 : Int) * x1) + (M 127 x1)) = (2 : Int) → Rn sx L K0 R0 177 3 [vR 106, vI x1] [] M Q) ∧ (¬ (¬ M 118 (((20 : Int) * x1) + (M 127 x1)) = (2 : Int)) → ((0 : Int) ≤ x1 ∧ x1 < (8 : Int)) ∧ (inR ((20 : Int) * x1) ∧ (((0 : Int) ≤ x1 ∧ x1 < (8 : Int)) ∧ (inR (((20 : Int) * x1) + (M 127 x1)) ∧ (((0 : Int) ≤ ((20 : Int) * x1) + (M 127 x1) ∧ ((20 : Int) * x1) + (M 127 x1) < (160 : Int)) ∧ (((0 : Int) ≤ (1 : Int) ∧ (0 : Int) ≤ M 119 (((20 : Int) * x1) + (M 127 x1)) ∧ M 119 (((20 : Int) * x1) + (M 127 x1)) ≤ (30 : Int) ∧ (1 : Int) * 2 ^ (M 119 (((20 : Int) * x1) + (M 127 x1))).toNat ≤ (2147483647 : Int)) ∧ (((0 : Int) ≤ x1 ∧ x1 < (8 : Int)) ∧ (((0 : Int) ≤ x1 ∧ x1 < (8 : Int)) ∧ (inR (((mset M 129 x1 (iAnd (M 129 x1) (iXor ((1 : Int) * 2 ^ (M 119 (((20 : Int) * x1) + (M 127 x1))).toNat) (-1)))) 127 x1) + 1) ∧ (((0 : Int) ≤ x1 ∧ x1 < (8 : Int)) ∧ (Rn sx L K0 R0 177 2 [vR 106, vI x1] [] (mset (mset M 129 x1 (iAnd (M 129 x1) (iXor ((1 : Int) * 2 ^ (M 119 (((20 : Int) * x1) + (M 127 x1))).toNat) (-1)))) 127 x1 (((mset M 129 x1 (iAnd (M 129 x1) (iXor ((1 : Int) * 2 ^ (M 119 (((20 : Int) * x1) + (M 127 x1))).toNat) (-1)))) 127 x1) + 1)) Q))))))))))))))))))) : Rn sx L K0 R0 177 2 [vR 106, vI x1] [] M Q := by
  refine Rn_w (by decide) ?_
  show wpc sx L K0 R0 177 [(75, 1, .aload_n 0, []), (76, 3, .getfield 83, [9, 39, 1193]), (79, 1, .iload_n 1, []), (80, 1, .iaload, []), (81, 1, .aload_n 0, []), (82, 3, .getfield 46, [9, 15, 1169]), (85, 1, .iload_n 1, []), (86, 1, .iaload, []), (87, 3, .if_icmp .ge 65, [3]), (90, 1, .aload_n 0, []), (91, 3, .getfield 49, [9, 16, 1170]), (94, 2, .bipush 20, []), (96, 1, .iload_n 1, []), (97, 1, .imul, []), (98, 1, .aload_n 0, []), (99, 3, .getfield 83, [9, 39, 1193]), (102, 1, .iload_n 1, []), (103, 1, .iaload, []), (104, 1, .iadd, []), (105, 1, .iaload, []), (106, 1, .iconst 2, []), (107, 3, .if_icmp .ne 45, [3]), (110, 1, .aload_n 0, []), (111, 3, .getfield 89, [9, 41, 1195]), (114, 1, .iload_n 1, []), (115, 1, .dup2, []), (116, 1, .iaload, []), (117, 1, .iconst 1, []), (118, 1, .aload_n 0, []), (119, 3, .getfield 52, [9, 17, 1171]), (122, 2, .bipush 20, []), (124, 1, .iload_n 1, []), (125, 1, .imul, []), (126, 1, .aload_n 0, []), (127, 3, .getfield 83, [9, 39, 1193]), (130, 1, .iload_n 1, []), (131, 1, .iaload, []), (132, 1, .iadd, []), (133, 1, .iaload, []), (134, 1, .ishl, []), (135, 1, .iconst (-1), []), (136, 1, .ixor, []), (137, 1, .iand, []), (138, 1, .iastore, []), (139, 1, .aload_n 0, []), (140, 3, .getfield 83, [9, 39, 1193]), (143, 1, .iload_n 1, []), (144, 1, .dup2, []), (145, 1, .iaload, []), (146, 1, .iconst 1, []), (147, 1, .iadd, []), (148, 1, .iastore, []), (149, 3, .goto (-74), [2])] 0 [vR 106, vI x1] [] M Q
  simp only [w_al_0, w_gf_9_39, kin_T (ks_104), rs_104_39, w_il_1, w_iald, arr_T (ks_127), w_gf_9_15, rs_104_15, arr_T (ks_117), w_ic_ge, w_gf_9_16, rs_104_16, w_bipush, w_imul, w_iadd, arr_T (ks_118), w_iconst, w_ic_ne, w_gf_9_41, rs_104_41, w_dup2 (c2I _) (c2R _), arr_T (ks_129), w_gf_9_17, rs_104_17, arr_T (ks_119), w_ishl, w_ixor, w_iand, w_iast, w_goto, true_and, and_true, true_or, or_true]
  exact h
theorem b_177_3 {sx : Int → Int} {L : Nat} {x1 : Int} {M : Mem} {Q : Option AV → Mem → Prop} 
    (h : ((0 : Int) ≤ x1 ∧ x1 < (8 : Int)) ∧ (((0 : Int) ≤ x1 ∧ x1 < (8 : Int)) ∧ ((¬ M 127 x1 = M 117 x1 → Rn sx L K0 R0 177 4 [vR 106, vI x1] [] M Q) ∧ (¬ (¬ M 127 x1 = M 117 x1) → inR ((M 104 51) + 1) ∧ (Mq sx L K0 R0 168 [vR 106, vI x1, vI ((M 104 51) + 1)] M (fun rv M1 => rv = none ∧ (Rn sx L K0 R0 177 4 [vR 106, vI x1] [] M1 Q))))))) : Rn sx L K0 R0 177 3 [vR 106, vI x1] [] M Q := by
  refine Rn_w (by decide) ?_
  show wpc sx L K0 R0 177 [(152, 1, .aload_n 0, []), (153, 3, .getfield 83, [9, 39, 1193]), (156, 1, .iload_n 1, []), (157, 1, .iaload, []), (158, 1, .aload_n 0, []), (159, 3, .getfield 46, [9, 15, 1169]), (162, 1, .iload_n 1, []), (163, 1, .iaload, []), (164, 3, .if_icmp .ne 14, [4]), (167, 1, .aload_n 0, []), (168, 1, .iload_n 1, []), (169, 1, .aload_n 0, []), (170, 3, .getfield 223, [9, 51, 1205]), (173, 1, .iconst 1, []), (174, 1, .iadd, []), (175, 3, .invokevirtual 243, [168, 1505, 2])] 4 [vR 106, vI x1] [] M Q
  simp only [w_al_0, w_gf_9_39, kin_T (ks_104), rs_104_39, w_il_1, w_iald, arr_T (ks_127), w_gf_9_15, rs_104_15, arr_T (ks_117), w_ic_ne, w_gf_9_51, w_iconst, w_iadd, w_ivv_2 (c2I _) (c2I _) cs0, mk_168, rk_168, rvk0, List.nil_append, w_fall, true_and, and_true, true_or, or_true]
  exact h
theorem b_177_4 {sx : Int → Int} {L : Nat} {x1 : Int} {M : Mem} {Q : Option AV → Mem → Prop} 
    (h : inR (x1 + 1) ∧ (Rn sx L K0 R0 177 1 [vR 106, vI (x1 + 1)] [] M Q)) : Rn sx L K0 R0 177 4 [vR 106, vI x1] [] M Q := by
  refine Rn_w (by decide) ?_
  show wpc sx L K0 R0 177 [(178, 3, .iinc 1 1, []), (181, 3, .goto (-179), [1])] 0 [vR 106, vI x1] [] M Q
  simp only [w_inc_1 (c2R _), w_goto, true_and, and_true, true_or, or_true]
  exact h
theorem b_177_5 {sx : Int → Int} {L : Nat} {x1 : Int} {M : Mem} {Q : Option AV → Mem → Prop} 
    (h : Q none M) : Rn sx L K0 R0 177 5 [vR 106, vI x1] [] M Q := by
  refine Rn_w (by decide) ?_
  show wpc sx L K0 R0 177 [(184, 1, .return_, [])] 0 [vR 106, vI x1] [] M Q
  simp only [w_ret0 rk_177, true_and, and_true, true_or, or_true]
  exact h
theorem b_178_0 {sx : Int → Int} {L : Nat}  {M : Mem} {Q : Option AV → Mem → Prop} 
    (h : Mq sx L K0 R0 160 [vR 106] M (fun rv M1 => rv = none ∧ (Rn sx L K0 R0 178 1 [vR 106, vI 0, vU] [] M1 Q))) : Rn sx L K0 R0 178 0 [vR 106, vU, vU] [] M Q := by
  refine Rn_w (by decide) ?_
  show wpc sx L K0 R0 178 [(0, 1, .aload_n 0, []), (1, 3, .invokevirtual 271, [160, 1449, 0]), (4, 1, .iconst 0, []), (5, 1, .istore_n 1, [])] 1 [vR 106, vU, vU] [] M Q
  simp only [w_al_0, w_ivv_0  cs0, mk_160, kin_T (ks_104), rk_160, rvk0, List.nil_append, w_iconst, w_is_1 (c2R _), w_fall, true_and, and_true, true_or, or_true]
  exact h
theorem b_178_1 {sx : Int → Int} {L : Nat} {x1 : Int} {M : Mem} {Q : Option AV → Mem → Prop} 
    (h : (M 104 0 ≤ x1 → Rn sx L K0 R0 178 2 [vR 106, vI x1, vU] [] M Q) ∧ (¬ (M 104 0 ≤ x1) → Mq sx L K0 R0 163 [vR 106, vI x1] M (fun rv M1 => ∃ r1, rv = some (vI r1) ∧ (((0 : Int) ≤ x1 ∧ x1 < (6 : Int)) ∧ (inR (x1 + 1) ∧ (Rn sx L K0 R0 178 1 [vR 106, vI (x1 + 1), vU] [] (mset M1 137 x1 r1) Q)))))) : Rn sx L K0 R0 178 1 [vR 106, vI x1, vU] [] M Q := by
  refine Rn_w (by decide) ?_
  show wpc sx L K0 R0 178 [(6, 1, .iload_n 1, []), (7, 1, .aload_n 0, []), (8, 3, .getfield 139, [9, 0, 1154]), (11, 3, .if_icmp .ge 20, [2]), (14, 1, .aload_n 0, []), (15, 3, .getfield 114, [9, 52, 1206]), (18, 1, .iload_n 1, []), (19, 1, .aload_n 0, []), (20, 1, .iload_n 1, []), (21, 3, .invokevirtual 274, [163, 1453, 1]), (24, 1, .iastore, []), (25, 3, .iinc 1 1, []), (28, 3, .goto (-22), [1])] 0 [vR 106, vI x1, vU] [] M Q
  simp only [w_il_1, w_al_0, w_gf_9_0, kin_T (ks_104), w_ic_ge, w_gf_9_52, rs_104_52, w_ivv_1 (c2I _) (cs2 _ _), mk_163, rk_163, rvk1, List.cons_append, List.nil_append, w_iast, arr_T (ks_137), w_inc_1 (c2R _), w_goto, true_and, and_true, true_or, or_true]
  exact h
theorem b_178_2 {sx : Int → Int} {L : Nat} {x1 : Int} {M : Mem} {Q : Option AV → Mem → Prop} 
    (h : Rn sx L K0 R0 178 3 [vR 106, vI x1, vU] [] (mset M 104 51 0) Q) : Rn sx L K0 R0 178 2 [vR 106, vI x1, vU] [] M Q := by
  refine Rn_w (by decide) ?_
  show wpc sx L K0 R0 178 [(31, 1, .aload_n 0, []), (32, 1, .iconst 0, []), (33, 3, .putfield 223, [9, 51, 1205])] 3 [vR 106, vI x1, vU] [] M Q
  simp only [w_al_0, w_iconst, w_pf_9_51, kin_T (ks_104), w_fall, true_and, and_true, true_or, or_true]
  exact h
theorem b_178_3 {sx : Int → Int} {L : Nat} {x1 : Int} {u2 : AV} {M : Mem} {Q : Option AV → Mem → Prop} (hu2 : cat2 u2 = false)
    (h : (M 104 25 ≤ M 104 51 → Rn sx L K0 R0 178 9 [vR 106, vI x1, u2] [] M Q) ∧ (¬ (M 104 25 ≤ M 104 51) → Mq sx L K0 R0 161 [vR 106] M (fun rv M1 => rv = none ∧ (Mq sx L K0 R0 174 [vR 106] M1 (fun rv M2 => rv = none ∧ ((¬ M2 104 49 = (-1 : Int) → Rn sx L K0 R0 178 4 [vR 106, vI x1, u2] [] M2 Q) ∧ (¬ (¬ M2 104 49 = (-1 : Int)) → Mq sx L K0 R0 175 [vR 106] M2 (fun rv M3 => ∃ r1, rv = some (vI r1) ∧ (Rn sx L K0 R0 178 5 [vR 106, vI x1, u2] [vI r1] M3 Q))))))))) : Rn sx L K0 R0 178 3 [vR 106, vI x1, u2] [] M Q := by
  refine Rn_w (by decide) ?_
  show wpc sx L K0 R0 178 [(36, 1, .aload_n 0, []), (37, 3, .getfield 223, [9, 51, 1205]), (40, 1, .aload_n 0, []), (41, 3, .getfield 62, [9, 25, 1179]), (44, 3, .if_icmp .ge 97, [9]), (47, 1, .aload_n 0, []), (48, 3, .invokevirtual 277, [161, 1457, 0]), (51, 1, .aload_n 0, []), (52, 3, .invokevirtual 280, [174, 1461, 0]), (55, 1, .aload_n 0, []), (56, 3, .getfield 217, [9, 49, 1203]), (59, 1, .iconst (-1), []), (60, 3, .if_icmp .ne 10, [4]), (63, 1, .aload_n 0, []), (64, 3, .invokevirtual 283, [175, 1509, 0]), (67, 3, .goto 4, [5])] 0 [vR 106, vI x1, u2] [] M Q
  simp only [w_al_0, w_gf_9_51, kin_T (ks_104), w_gf_9_25, w_ic_ge, w_ivv_0  cs0, mk_161, rk_161, rvk0, List.nil_append, mk_174, rk_174, w_gf_9_49, w_iconst, w_ic_ne, mk_175, rk_175, rvk1, List.cons_append, w_goto, true_and, and_true, true_or, or_true]
  exact h
theorem b_178_4 {sx : Int → Int} {L : Nat} {x1 : Int} {u2 : AV} {M : Mem} {Q : Option AV → Mem → Prop} (hu2 : cat2 u2 = false)
    (h : Rn sx L K0 R0 178 5 [vR 106, vI x1, u2] [vI 0] M Q) : Rn sx L K0 R0 178 4 [vR 106, vI x1, u2] [] M Q := by
  refine Rn_w (by decide) ?_
  show wpc sx L K0 R0 178 [(70, 1, .iconst 0, [])] 5 [vR 106, vI x1, u2] [] M Q
  simp only [w_iconst, w_fall, true_and, and_true, true_or, or_true]
  exact h
theorem b_178_5 {sx : Int → Int} {L : Nat} {x1 : Int} {u2 : AV} {y0 : Int} {M : Mem} {Q : Option AV → Mem → Prop} (hu2 : cat2 u2 = false)
    (h : (y0 = (0 : Int) → Rn sx L K0 R0 178 6 [vR 106, vI y0, u2] [] M Q) ∧ (¬ (y0 = (0 : Int)) → Rn sx L K0 R0 178 6 [vR 106, vI y0, u2] [] (mset (mset M 104 49 (M 104 51)) 104 50 y0) Q)) : Rn sx L K0 R0 178 5 [vR 106, vI x1, u2] [vI y0] M Q := by
  refine Rn_w (by decide) ?_
  show wpc sx L K0 R0 178 [(71, 1, .istore_n 1, []), (72, 1, .iload_n 1, []), (73, 3, .ifCond .eq 16, [6]), (76, 1, .aload_n 0, []), (77, 1, .aload_n 0, []), (78, 3, .getfield 223, [9, 51, 1205]), (81, 3, .putfield 217, [9, 49, 1203]), (84, 1, .aload_n 0, []), (85, 1, .iload_n 1, []), (86, 3, .putfield 220, [9, 50, 1204])] 6 [vR 106, vI x1, u2] [vI y0] M Q
  simp only [w_is_1 (c2R _), w_il_1, w_if_eq, w_al_0, w_gf_9_51, kin_T (ks_104), w_pf_9_49, w_pf_9_50, w_fall, true_and, and_true, true_or, or_true]
  exact h
theorem b_178_6 {sx : Int → Int} {L : Nat} {x1 : Int} {u2 : AV} {M : Mem} {Q : Option AV → Mem → Prop} (hu2 : cat2 u2 = false)
    (h : Rn sx L K0 R0 178 7 [vR 106, vI x1, vI 0] [] M Q) : Rn sx L K0 R0 178 6 [vR 106, vI x1, u2] [] M Q := by
  refine Rn_w (by decide) ?_
  show wpc sx L K0 R0 178 [(89, 1, .iconst 0, []), (90, 1, .istore_n 2, [])] 7 [vR 106, vI x1, u2] [] M Q
  simp only [w_iconst, w_is_2 (c2I _), w_fall, true_and, and_true, true_or, or_true]
  exact h
theorem b_178_7 {sx : Int → Int} {L : Nat} {x1 : Int} {x2 : Int} {M : Mem} {Q : Option AV → Mem → Prop} 
    (h : ((8 : Int) ≤ x2 → Rn sx L K0 R0 178 8 [vR 106, vI x1, vI x2] [] M Q) ∧ (¬ ((8 : Int) ≤ x2) → inR ((200 : Int) * x2) ∧ (inR (((200 : Int) * x2) + (M 104 51)) ∧ (((0 : Int) ≤ x2 ∧ x2 < (8 : Int)) ∧ (((0 : Int) ≤ ((200 : Int) * x2) + (M 104 51) ∧ ((200 : Int) * x2) + (M 104 51) < (1600 : Int)) ∧ (inR (x2 + 1) ∧ (Rn sx L K0 R0 178 7 [vR 106, vI x1, vI (x2 + 1)] [] (mset M 136 (((200 : Int) * x2) + (M 104 51)) (M 132 x2)) Q))))))) : Rn sx L K0 R0 178 7 [vR 106, vI x1, vI x2] [] M Q := by
  refine Rn_w (by decide) ?_
  show wpc sx L K0 R0 178 [(91, 1, .iload_n 2, []), (92, 2, .bipush 8, []), (94, 3, .if_icmp .ge 30, [8]), (97, 1, .aload_n 0, []), (98, 3, .getfield 111, [9, 48, 1202]), (101, 3, .sipush 200, []), (104, 1, .iload_n 2, []), (105, 1, .imul, []), (106, 1, .aload_n 0, []), (107, 3, .getfield 223, [9, 51, 1205]), (110, 1, .iadd, []), (111, 1, .aload_n 0, []), (112, 3, .getfield 99, [9, 44, 1198]), (115, 1, .iload_n 2, []), (116, 1, .iaload, []), (117, 1, .iastore, []), (118, 3, .iinc 2 1, []), (121, 3, .goto (-30), [7])] 0 [vR 106, vI x1, vI x2] [] M Q
  simp only [w_il_2, w_bipush, w_ic_ge, w_al_0, w_gf_9_48, kin_T (ks_104), rs_104_48, w_sipush, w_imul, w_gf_9_51, w_iadd, w_gf_9_44, rs_104_44, w_iald, arr_T (ks_132), w_iast, arr_T (ks_136), w_inc_2 (c2I _), w_goto, true_and, and_true, true_or, or_true]
  exact h
theorem b_178_8 {sx : Int → Int} {L : Nat} {x1 : Int} {x2 : Int} {M : Mem} {Q : Option AV → Mem → Prop} 
    (h : Mq sx L K0 R0 177 [vR 106] M (fun rv M1 => rv = none ∧ (inR ((M1 104 51) + 1) ∧ (Rn sx L K0 R0 178 3 [vR 106, vI x1, vI x2] [] (mset M1 104 51 ((M1 104 51) + 1)) Q)))) : Rn sx L K0 R0 178 8 [vR 106, vI x1, vI x2] [] M Q := by
  refine Rn_w (by decide) ?_
  show wpc sx L K0 R0 178 [(124, 1, .aload_n 0, []), (125, 3, .invokevirtual 286, [177, 1513, 0]), (128, 1, .aload_n 0, []), (129, 1, .dup, []), (130, 3, .getfield 223, [9, 51, 1205]), (133, 1, .iconst 1, []), (134, 1, .iadd, []), (135, 3, .putfield 223, [9, 51, 1205]), (138, 3, .goto (-102), [3])] 0 [vR 106, vI x1, vI x2] [] M Q
  simp only [w_al_0, w_ivv_0  cs0, mk_177, kin_T (ks_104), rk_177, rvk0, List.nil_append, w_dup (c2R _), w_gf_9_51, w_iconst, w_iadd, w_pf_9_51, w_goto, true_and, and_true, true_or, or_true]
  exact h
theorem b_178_9 {sx : Int → Int} {L : Nat} {x1 : Int} {u2 : AV} {M : Mem} {Q : Option AV → Mem → Prop} (hu2 : cat2 u2 = false)
    (h : Q none M) : Rn sx L K0 R0 178 9 [vR 106, vI x1, u2] [] M Q := by
  refine Rn_w (by decide) ?_
  show wpc sx L K0 R0 178 [(141, 1, .return_, [])] 0 [vR 106, vI x1, u2] [] M Q
  simp only [w_ret0 rk_178, true_and, and_true, true_or, or_true]
  exact h
theorem b_179_0 {sx : Int → Int} {L : Nat} {x1 : Int} {M : Mem} {Q : Option AV → Mem → Prop} 
    (h : Rn sx L K0 R0 179 1 [vR 106, vI x1, vI 0, vI 0, vU, vU] [] M Q) : Rn sx L K0 R0 179 0 [vR 106, vI x1, vU, vU, vU, vU] [] M Q := by
  refine Rn_w (by decide) ?_
  show wpc sx L K0 R0 179 [(0, 1, .iconst 0, []), (1, 1, .istore_n 2, []), (2, 1, .iconst 0, []), (3, 1, .istore_n 3, [])] 1 [vR 106, vI x1, vU, vU, vU, vU] [] M Q
  simp only [w_iconst, w_is_2 (c2I _), w_is_3 (c2I _), w_fall, true_and, and_true, true_or, or_true]
  exact h
set_option maxRecDepth 8192 in
theorem b_179_1 {sx : Int → Int} {L : Nat} {x1 : Int} {x2 : Int} {x3 : Int} {u4 : AV} {u5 : AV} {M : Mem} {Q : Option AV → Mem → Prop} (hu4 : cat2 u4 = false) (hu5 : cat2 u5 = false)
    (h : ((0 : Int) ≤ x1 ∧ x1 < (8 : Int)) ∧ ((M 123 x1 ≤ x3 → Rn sx L K0 R0 179 6 [vR 106, vI x1, vI x2, vI x3, u4, u5] [] M Q) ∧ (¬ (M 123 x1 ≤ x3) → inR ((200 : Int) * x1) ∧ (inR (((200 : Int) * x1) + x3) ∧ (((0 : Int) ≤ ((200 : Int) * x1) + x3 ∧ ((200 : Int) * x1) + x3 < (1600 : Int)) ∧ (((0 : Int) ≤ x1 ∧ x1 < (8 : Int)) ∧ (inR ((M 125 (((200 : Int) * x1) + x3)) + (M 115 x1)) ∧ (inR ((200 : Int) * x1) ∧ (inR (((200 : Int) * x1) + x3) ∧ (((0 : Int) ≤ ((200 : Int) * x1) + x3 ∧ ((200 : Int) * x1) + x3 < (1600 : Int)) ∧ ((¬ M 126 (((200 : Int) * x1) + x3) = (-1 : Int) → Rn sx L K0 R0 179 3 [vR 106, vI x1, vI x2, vI x3, vI ((M 125 (((200 : Int) * x1) + x3)) + (M 115 x1)), vI (M 126 (((200 : Int) * x1) + x3))] [vI x2] M Q) ∧ (¬ (¬ M 126 (((200 : Int) * x1) + x3) = (-1 : Int)) → (M 104 25 < (M 125 (((200 : Int) * x1) + x3)) + (M 115 x1) → Rn sx L K0 R0 179 2 [vR 106, vI x1, vI x2, vI x3, vI ((M 125 (((200 : Int) * x1) + x3)) + (M 115 x1)), vI (M 126 (((200 : Int) * x1) + x3))] [vI x2] M Q) ∧ (¬ (M 104 25 < (M 125 (((200 : Int) * x1) + x3)) + (M 115 x1)) → Rn sx L K0 R0 179 5 [vR 106, vI x1, vI x2, vI x3, vI ((M 125 (((200 : Int) * x1) + x3)) + (M 115 x1)), vI (M 126 (((200 : Int) * x1) + x3))] [vI 1, vI x2] M Q))))))))))))) : Rn sx L K0 R0 179 1 [vR 106, vI x1, vI x2, vI x3, u4, u5] [] M Q := by
  refine Rn_w (by decide) ?_
  show wpc sx L K0 R0 179 [(4, 1, .iload_n 3, []), (5, 1, .aload_n 0, []), (6, 3, .getfield 71, [9, 35, 1189]), (9, 1, .iload_n 1, []), (10, 1, .iaload, []), (11, 3, .if_icmp .ge 82, [6]), (14, 1, .aload_n 0, []), (15, 3, .getfield 77, [9, 37, 1191]), (18, 3, .sipush 200, []), (21, 1, .iload_n 1, []), (22, 1, .imul, []), (23, 1, .iload_n 3, []), (24, 1, .iadd, []), (25, 1, .iaload, []), (26, 1, .aload_n 0, []), (27, 3, .getfield 40, [9, 13, 1167]), (30, 1, .iload_n 1, []), (31, 1, .iaload, []), (32, 1, .iadd, []), (33, 2, .istore 4, []), (35, 1, .aload_n 0, []), (36, 3, .getfield 80, [9, 38, 1192]), (39, 3, .sipush 200, []), (42, 1, .iload_n 1, []), (43, 1, .imul, []), (44, 1, .iload_n 3, []), (45, 1, .iadd, []), (46, 1, .iaload, []), (47, 2, .istore 5, []), (49, 1, .iload_n 2, []), (50, 2, .iload 5, []), (52, 1, .iconst (-1), []), (53, 3, .if_icmp .ne 20, [3]), (56, 2, .iload 4, []), (58, 1, .aload_n 0, []), (59, 3, .getfield 62, [9, 25, 1179]), (62, 3, .if_icmp .gt 7, [2]), (65, 1, .iconst 1, []), (66, 3, .goto 19, [5])] 0 [vR 106, vI x1, vI x2, vI x3, u4, u5] [] M Q
  simp only [w_il_3, w_al_0, w_gf_9_35, kin_T (ks_104), rs_104_35, w_il_1, w_iald, arr_T (ks_123), w_ic_ge, w_gf_9_37, rs_104_37, w_sipush, w_imul, w_iadd, arr_T (ks_125), w_gf_9_13, rs_104_13, arr_T (ks_115), w_is_4 (c2I _), w_gf_9_38, rs_104_38, arr_T (ks_126), w_is_5 (c2I _), w_il_2, w_il_5, w_iconst, w_ic_ne, w_il_4, w_gf_9_25, w_ic_gt, w_goto, true_and, and_true, true_or, or_true]
  exact h
theorem b_179_2 {sx : Int → Int} {L : Nat} {x1 : Int} {x2 : Int} {x3 : Int} {x4 : Int} {x5 : Int} {y0 : Int} {M : Mem} {Q : Option AV → Mem → Prop} 
    (h : Rn sx L K0 R0 179 5 [vR 106, vI x1, vI x2, vI x3, vI x4, vI x5] [vI 0, vI y0] M Q) : Rn sx L K0 R0 179 2 [vR 106, vI x1, vI x2, vI x3, vI x4, vI x5] [vI y0] M Q := by
  refine Rn_w (by decide) ?_
  show wpc sx L K0 R0 179 [(69, 1, .iconst 0, []), (70, 3, .goto 15, [5])] 0 [vR 106, vI x1, vI x2, vI x3, vI x4, vI x5] [vI y0] M Q
  simp only [w_iconst, w_goto, true_and, and_true, true_or, or_true]
  exact h
theorem b_179_3 {sx : Int → Int} {L : Nat} {x1 : Int} {x2 : Int} {x3 : Int} {x4 : Int} {x5 : Int} {y0 : Int} {M : Mem} {Q : Option AV → Mem → Prop} 
    (h : (x5 ≤ x4 → Rn sx L K0 R0 179 4 [vR 106, vI x1, vI x2, vI x3, vI x4, vI x5] [vI y0] M Q) ∧ (¬ (x5 ≤ x4) → Rn sx L K0 R0 179 5 [vR 106, vI x1, vI x2, vI x3, vI x4, vI x5] [vI 1, vI y0] M Q)) : Rn sx L K0 R0 179 3 [vR 106, vI x1, vI x2, vI x3, vI x4, vI x5] [vI y0] M Q := by
  refine Rn_w (by decide) ?_
  show wpc sx L K0 R0 179 [(73, 2, .iload 5, []), (75, 2, .iload 4, []), (77, 3, .if_icmp .le 7, [4]), (80, 1, .iconst 1, []), (81, 3, .goto 4, [5])] 0 [vR 106, vI x1, vI x2, vI x3, vI x4, vI x5] [vI y0] M Q
  simp only [w_il_5, w_il_4, w_ic_le, w_iconst, w_goto, true_and, and_true, true_or, or_true]
  exact h
theorem b_179_4 {sx : Int → Int} {L : Nat} {x1 : Int} {x2 : Int} {x3 : Int} {x4 : Int} {x5 : Int} {y0 : Int} {M : Mem} {Q : Option AV → Mem → Prop} 
    (h : Rn sx L K0 R0 179 5 [vR 106, vI x1, vI x2, vI x3, vI x4, vI x5] [vI 0, vI y0] M Q) : Rn sx L K0 R0 179 4 [vR 106, vI x1, vI x2, vI x3, vI x4, vI x5] [vI y0] M Q := by
  refine Rn_w (by decide) ?_
  show wpc sx L K0 R0 179 [(84, 1, .iconst 0, [])] 5 [vR 106, vI x1, vI x2, vI x3, vI x4, vI x5] [vI y0] M Q
  simp only [w_iconst, w_fall, true_and, and_true, true_or, or_true]
  exact h
theorem b_179_5 {sx : Int → Int} {L : Nat} {x1 : Int} {x2 : Int} {x3 : Int} {x4 : Int} {x5 : Int} {y0 : Int} {y1 : Int} {M : Mem} {Q : Option AV → Mem → Prop} 
    (h : inR (y0 + y1) ∧ (inR (x3 + 1) ∧ (Rn sx L K0 R0 179 1 [vR 106, vI x1, vI (y0 + y1), vI (x3 + 1), vI x4, vI x5] [] M Q))) : Rn sx L K0 R0 179 5 [vR 106, vI x1, vI x2, vI x3, vI x4, vI x5] [vI y1, vI y0] M Q := by
  refine Rn_w (by decide) ?_
  show wpc sx L K0 R0 179 [(85, 1, .iadd, []), (86, 1, .istore_n 2, []), (87, 3, .iinc 3 1, []), (90, 3, .goto (-86), [1])] 0 [vR 106, vI x1, vI x2, vI x3, vI x4, vI x5] [vI y1, vI y0] M Q
  simp only [w_iadd, w_is_2 (c2I _), w_inc_3 (c2I _), w_goto, true_and, and_true, true_or, or_true]
  exact h
theorem b_179_6 {sx : Int → Int} {L : Nat} {x1 : Int} {x2 : Int} {x3 : Int} {u4 : AV} {u5 : AV} {M : Mem} {Q : Option AV → Mem → Prop} (hu4 : cat2 u4 = false) (hu5 : cat2 u5 = false)
    (h : Q (some (vI x2)) M) : Rn sx L K0 R0 179 6 [vR 106, vI x1, vI x2, vI x3, u4, u5] [] M Q := by
  refine Rn_w (by decide) ?_
  show wpc sx L K0 R0 179 [(93, 1, .iload_n 2, []), (94, 1, .ireturn, [])] 0 [vR 106, vI x1, vI x2, vI x3, u4, u5] [] M Q
  simp only [w_il_2, w_ret1 rk_179, true_and, and_true, true_or, or_true]
  exact h
theorem b_180_0 {sx : Int → Int} {L : Nat}  {M : Mem} {Q : Option AV → Mem → Prop} 
    (h : Rn sx L K0 R0 180 1 [vR 106, vI 0, vI 0] [] M Q) : Rn sx L K0 R0 180 0 [vR 106, vU, vU] [] M Q := by
  refine Rn_w (by decide) ?_
  show wpc sx L K0 R0 180 [(0, 1, .iconst 0, []), (1, 1, .istore_n 1, []), (2, 1, .iconst 0, []), (3, 1, .istore_n 2, [])] 1 [vR 106, vU, vU] [] M Q
  simp only [w_iconst, w_is_1 (c2R _), w_is_2 (c2I _), w_fall, true_and, and_true, true_or, or_true]
  exact h
theorem b_180_1 {sx : Int → Int} {L : Nat} {x1 : Int} {x2 : Int} {M : Mem} {Q : Option AV → Mem → Prop} 
    (h : ((8 : Int) ≤ x2 → Rn sx L K0 R0 180 2 [vR 106, vI x1, vI x2] [] M Q) ∧ (¬ ((8 : Int) ≤ x2) → Mq sx L K0 R0 179 [vR 106, vI x2] M (fun rv M1 => ∃ r1, rv = some (vI r1) ∧ (inR (x1 + r1) ∧ (inR (x2 + 1) ∧ (Rn sx L K0 R0 180 1 [vR 106, vI (x1 + r1), vI (x2 + 1)] [] M1 Q)))))) : Rn sx L K0 R0 180 1 [vR 106, vI x1, vI x2] [] M Q := by
  refine Rn_w (by decide) ?_
  show wpc sx L K0 R0 180 [(4, 1, .iload_n 2, []), (5, 2, .bipush 8, []), (7, 3, .if_icmp .ge 17, [2]), (10, 1, .iload_n 1, []), (11, 1, .aload_n 0, []), (12, 1, .iload_n 2, []), (13, 3, .invokevirtual 289, [179, 1541, 1]), (16, 1, .iadd, []), (17, 1, .istore_n 1, []), (18, 3, .iinc 2 1, []), (21, 3, .goto (-17), [1])] 0 [vR 106, vI x1, vI x2] [] M Q
  simp only [w_il_2, w_bipush, w_ic_ge, w_il_1, w_al_0, w_ivv_1 (c2I _) (cs1 _), mk_179, kin_T (ks_104), rk_179, rvk1, List.cons_append, List.nil_append, w_iadd, w_is_1 (c2R _), w_inc_2 (c2I _), w_goto, true_and, and_true, true_or, or_true]
  exact h
theorem b_180_2 {sx : Int → Int} {L : Nat} {x1 : Int} {x2 : Int} {M : Mem} {Q : Option AV → Mem → Prop} 
    (h : Q (some (vI x1)) M) : Rn sx L K0 R0 180 2 [vR 106, vI x1, vI x2] [] M Q := by
  refine Rn_w (by decide) ?_
  show wpc sx L K0 R0 180 [(24, 1, .iload_n 1, []), (25, 1, .ireturn, [])] 0 [vR 106, vI x1, vI x2] [] M Q
  simp only [w_il_1, w_ret1 rk_180, true_and, and_true, true_or, or_true]
  exact h
theorem b_181_0 {sx : Int → Int} {L : Nat}  {M : Mem} {Q : Option AV → Mem → Prop} 
    (h : Mq sx L K0 R0 150 [vR 106] M (fun rv M1 => rv = none ∧ ((¬ M1 104 26 = (0 : Int) → Rn sx L K0 R0 181 1 [vR 106] [] M1 Q) ∧ (¬ (¬ M1 104 26 = (0 : Int)) → Mq sx L K0 R0 159 [vR 106] M1 (fun rv M2 => rv = none ∧ (Mq sx L K0 R0 178 [vR 106] M2 (fun rv M3 => rv = none ∧ (Rn sx L K0 R0 181 1 [vR 106] [] (mset M3 104 26 1) Q)))))))) : Rn sx L K0 R0 181 0 [vR 106] [] M Q := by
  refine Rn_w (by decide) ?_
  show wpc sx L K0 R0 181 [(0, 1, .aload_n 0, []), (1, 3, .invokevirtual 187, [150, 1385, 0]), (4, 1, .aload_n 0, []), (5, 3, .getfield 145, [9, 26, 1180]), (8, 3, .ifCond .ne 16, [1]), (11, 1, .aload_n 0, []), (12, 3, .invokevirtual 292, [159, 1441, 0]), (15, 1, .aload_n 0, []), (16, 3, .invokevirtual 295, [178, 1445, 0]), (19, 1, .aload_n 0, []), (20, 1, .iconst 1, []), (21, 3, .putfield 145, [9, 26, 1180])] 1 [vR 106] [] M Q
  simp only [w_al_0, w_ivv_0  cs0, mk_150, kin_T (ks_104), rk_150, rvk0, List.nil_append, w_gf_9_26, w_if_ne, mk_159, rk_159, mk_178, rk_178, w_iconst, w_pf_9_26, b01_1, w_fall, true_and, and_true, true_or, or_true]
  exact h
theorem b_181_1 {sx : Int → Int} {L : Nat}  {M : Mem} {Q : Option AV → Mem → Prop} 
    (h : Q none M) : Rn sx L K0 R0 181 1 [vR 106] [] M Q := by
  refine Rn_w (by decide) ?_
  show wpc sx L K0 R0 181 [(24, 1, .return_, [])] 0 [vR 106] [] M Q
  simp only [w_ret0 rk_181, true_and, and_true, true_or, or_true]
  exact h
theorem b_182_0 {sx : Int → Int} {L : Nat} {x1 : Int} {x2 : Int} {M : Mem} {Q : Option AV → Mem → Prop} 
    (h : inR ((M 104 25) - 1) ∧ (Mq sx L K0 R0 137 [vI x1, vI 0, vI ((M 104 25) - 1)] M (fun rv M1 => ∃ r1, rv = some (vI r1) ∧ ((r1 = (0 : Int) → Rn sx L K0 R0 182 1 [vR 106, vI x1, vI x2] [] M1 Q) ∧ (¬ (r1 = (0 : Int)) → inR ((M1 104 24) - 1) ∧ (Mq sx L K0 R0 137 [vI x2, vI 0, vI ((M1 104 24) - 1)] M1 (fun rv M2 => ∃ r2, rv = some (vI r2) ∧ ((¬ r2 = (0 : Int) → Rn sx L K0 R0 182 2 [vR 106, vI x1, vI x2] [] M2 Q) ∧ (¬ (¬ r2 = (0 : Int)) → Rn sx L K0 R0 182 1 [vR 106, vI x1, vI x2] [] M2 Q))))))))) : Rn sx L K0 R0 182 0 [vR 106, vI x1, vI x2] [] M Q := by
  refine Rn_w (by decide) ?_
  show wpc sx L K0 R0 182 [(0, 1, .iload_n 1, []), (1, 1, .iconst 0, []), (2, 1, .aload_n 0, []), (3, 3, .getfield 62, [9, 25, 1179]), (6, 1, .iconst 1, []), (7, 1, .isub, []), (8, 3, .invokestatic 135, [137, 1355, 3]), (11, 3, .ifCond .eq 17, [1]), (14, 1, .iload_n 2, []), (15, 1, .iconst 0, []), (16, 1, .aload_n 0, []), (17, 3, .getfield 58, [9, 24, 1178]), (20, 1, .iconst 1, []), (21, 1, .isub, []), (22, 3, .invokestatic 135, [137, 1355, 3]), (25, 3, .ifCond .ne 6, [2])] 1 [vR 106, vI x1, vI x2] [] M Q
  simp only [w_il_1, w_iconst, w_al_0, w_gf_9_25, kin_T (ks_104), w_isub, w_ivs_3 (c2I _) (c2I _) (c2I _) cs0, rk_137, rvk2, List.cons_append, List.nil_append, w_if_eq, w_il_2, w_gf_9_24, w_if_ne, w_fall, true_and, and_true, true_or, or_true]
  exact h
theorem b_182_1 {sx : Int → Int} {L : Nat} {x1 : Int} {x2 : Int} {M : Mem} {Q : Option AV → Mem → Prop} 
    (h : Q (some (vI (-2))) M) : Rn sx L K0 R0 182 1 [vR 106, vI x1, vI x2] [] M Q := by
  refine Rn_w (by decide) ?_
  show wpc sx L K0 R0 182 [(28, 2, .bipush (-2), []), (30, 1, .ireturn, [])] 0 [vR 106, vI x1, vI x2] [] M Q
  simp only [w_bipush, w_ret1 rk_182, true_and, and_true, true_or, or_true]
  exact h
theorem b_182_2 {sx : Int → Int} {L : Nat} {x1 : Int} {x2 : Int} {M : Mem} {Q : Option AV → Mem → Prop} 
    (h : Mq sx L K0 R0 181 [vR 106] M (fun rv M1 => rv = none ∧ (inR ((3 : Int) * x1) ∧ (inR (((3 : Int) * x1) + x2) ∧ (((0 : Int) ≤ ((3 : Int) * x1) + x2 ∧ ((3 : Int) * x1) + x2 < (600 : Int)) ∧ (Q (some (vI (M1 135 (((3 : Int) * x1) + x2)))) M1)))))) : Rn sx L K0 R0 182 2 [vR 106, vI x1, vI x2] [] M Q := by
  refine Rn_w (by decide) ?_
  show wpc sx L K0 R0 182 [(31, 1, .aload_n 0, []), (32, 3, .invokevirtual 298, [181, 1437, 0]), (35, 1, .aload_n 0, []), (36, 3, .getfield 108, [9, 47, 1201]), (39, 1, .iconst 3, []), (40, 1, .iload_n 1, []), (41, 1, .imul, []), (42, 1, .iload_n 2, []), (43, 1, .iadd, []), (44, 1, .iaload, []), (45, 1, .ireturn, [])] 0 [vR 106, vI x1, vI x2] [] M Q
  simp only [w_al_0, w_ivv_0  cs0, mk_181, kin_T (ks_104), rk_181, rvk0, List.nil_append, w_gf_9_47, rs_104_47, w_iconst, w_il_1, w_imul, w_il_2, w_iadd, w_iald, arr_T (ks_135), w_ret1 rk_182, true_and, and_true, true_or, or_true]
  exact h
theorem b_183_0 {sx : Int → Int} {L : Nat} {x1 : Int} {x2 : Int} {M : Mem} {Q : Option AV → Mem → Prop} 
    (h : Mq sx L K0 R0 142 [vI x1] M (fun rv M1 => ∃ r1, rv = some (vI r1) ∧ ((r1 = (0 : Int) → Rn sx L K0 R0 183 1 [vR 106, vI x1, vI x2] [] M1 Q) ∧ (¬ (r1 = (0 : Int)) → inR ((M1 104 25) - 1) ∧ (Mq sx L K0 R0 137 [vI x2, vI 0, vI ((M1 104 25) - 1)] M1 (fun rv M2 => ∃ r2, rv = some (vI r2) ∧ ((¬ r2 = (0 : Int) → Rn sx L K0 R0 183 2 [vR 106, vI x1, vI x2] [] M2 Q) ∧ (¬ (¬ r2 = (0 : Int)) → Rn sx L K0 R0 183 1 [vR 106, vI x1, vI x2] [] M2 Q)))))))) : Rn sx L K0 R0 183 0 [vR 106, vI x1, vI x2] [] M Q := by
  refine Rn_w (by decide) ?_
  show wpc sx L K0 R0 183 [(0, 1, .iload_n 1, []), (1, 3, .invokestatic 152, [142, 1370, 1]), (4, 3, .ifCond .eq 17, [1]), (7, 1, .iload_n 2, []), (8, 1, .iconst 0, []), (9, 1, .aload_n 0, []), (10, 3, .getfield 62, [9, 25, 1179]), (13, 1, .iconst 1, []), (14, 1, .isub, []), (15, 3, .invokestatic 135, [137, 1355, 3]), (18, 3, .ifCond .ne 6, [2])] 1 [vR 106, vI x1, vI x2] [] M Q
  simp only [w_il_1, w_ivs_1 (c2I _) cs0, rk_142, rvk2, List.cons_append, List.nil_append, w_if_eq, w_il_2, w_iconst, w_al_0, w_gf_9_25, kin_T (ks_104), w_isub, w_ivs_3 (c2I _) (c2I _) (c2I _) cs0, rk_137, w_if_ne, w_fall, true_and, and_true, true_or, or_true]
  exact h
theorem b_183_1 {sx : Int → Int} {L : Nat} {x1 : Int} {x2 : Int} {M : Mem} {Q : Option AV → Mem → Prop} 
    (h : Q (some (vI (-2))) M) : Rn sx L K0 R0 183 1 [vR 106, vI x1, vI x2] [] M Q := by
  refine Rn_w (by decide) ?_
  show wpc sx L K0 R0 183 [(21, 2, .bipush (-2), []), (23, 1, .ireturn, [])] 0 [vR 106, vI x1, vI x2] [] M Q
  simp only [w_bipush, w_ret1 rk_183, true_and, and_true, true_or, or_true]
  exact h
theorem b_183_2 {sx : Int → Int} {L : Nat} {x1 : Int} {x2 : Int} {M : Mem} {Q : Option AV → Mem → Prop} 
    (h : Mq sx L K0 R0 181 [vR 106] M (fun rv M1 => rv = none ∧ (inR ((200 : Int) * x1) ∧ (inR (((200 : Int) * x1) + x2) ∧ (((0 : Int) ≤ ((200 : Int) * x1) + x2 ∧ ((200 : Int) * x1) + x2 < (1600 : Int)) ∧ (Q (some (vI (M1 136 (((200 : Int) * x1) + x2)))) M1)))))) : Rn sx L K0 R0 183 2 [vR 106, vI x1, vI x2] [] M Q := by
  refine Rn_w (by decide) ?_
  show wpc sx L K0 R0 183 [(24, 1, .aload_n 0, []), (25, 3, .invokevirtual 298, [181, 1437, 0]), (28, 1, .aload_n 0, []), (29, 3, .getfield 111, [9, 48, 1202]), (32, 3, .sipush 200, []), (35, 1, .iload_n 1, []), (36, 1, .imul, []), (37, 1, .iload_n 2, []), (38, 1, .iadd, []), (39, 1, .iaload, []), (40, 1, .ireturn, [])] 0 [vR 106, vI x1, vI x2] [] M Q
  simp only [w_al_0, w_ivv_0  cs0, mk_181, kin_T (ks_104), rk_181, rvk0, List.nil_append, w_gf_9_48, rs_104_48, w_sipush, w_il_1, w_imul, w_il_2, w_iadd, w_iald, arr_T (ks_136), w_ret1 rk_183, true_and, and_true, true_or, or_true]
  exact h
theorem b_184_0 {sx : Int → Int} {L : Nat} {x1 : Int} {x2 : Int} {M : Mem} {Q : Option AV → Mem → Prop} 
    (h : Mq sx L K0 R0 142 [vI x1] M (fun rv M1 => ∃ r1, rv = some (vI r1) ∧ ((r1 = (0 : Int) → Rn sx L K0 R0 184 1 [vR 106, vI x1, vI x2] [] M1 Q) ∧ (¬ (r1 = (0 : Int)) → ((0 : Int) ≤ x2 → Rn sx L K0 R0 184 2 [vR 106, vI x1, vI x2] [] M1 Q) ∧ (¬ ((0 : Int) ≤ x2) → Rn sx L K0 R0 184 1 [vR 106, vI x1, vI x2] [] M1 Q))))) : Rn sx L K0 R0 184 0 [vR 106, vI x1, vI x2] [] M Q := by
  refine Rn_w (by decide) ?_
  show wpc sx L K0 R0 184 [(0, 1, .iload_n 1, []), (1, 3, .invokestatic 152, [142, 1370, 1]), (4, 3, .ifCond .eq 7, [1]), (7, 1, .iload_n 2, []), (8, 3, .ifCond .ge 6, [2])] 1 [vR 106, vI x1, vI x2] [] M Q
  simp only [w_il_1, w_ivs_1 (c2I _) cs0, rk_142, rvk2, List.cons_append, List.nil_append, w_if_eq, w_il_2, w_if_ge, w_fall, true_and, and_true, true_or, or_true]
  exact h
theorem b_184_1 {sx : Int → Int} {L : Nat} {x1 : Int} {x2 : Int} {M : Mem} {Q : Option AV → Mem → Prop} 
    (h : Q (some (vI (-2))) M) : Rn sx L K0 R0 184 1 [vR 106, vI x1, vI x2] [] M Q := by
  refine Rn_w (by decide) ?_
  show wpc sx L K0 R0 184 [(11, 2, .bipush (-2), []), (13, 1, .ireturn, [])] 0 [vR 106, vI x1, vI x2] [] M Q
  simp only [w_bipush, w_ret1 rk_184, true_and, and_true, true_or, or_true]
  exact h
theorem b_184_2 {sx : Int → Int} {L : Nat} {x1 : Int} {x2 : Int} {M : Mem} {Q : Option AV → Mem → Prop} 
    (h : Mq sx L K0 R0 181 [vR 106] M (fun rv M1 => rv = none ∧ (((0 : Int) ≤ x1 ∧ x1 < (8 : Int)) ∧ ((M1 123 x1 ≤ x2 → Rn sx L K0 R0 184 3 [vR 106, vI x1, vI x2] [] M1 Q) ∧ (¬ (M1 123 x1 ≤ x2) → inR ((200 : Int) * x1) ∧ (inR (((200 : Int) * x1) + x2) ∧ (((0 : Int) ≤ ((200 : Int) * x1) + x2 ∧ ((200 : Int) * x1) + x2 < (1600 : Int)) ∧ (Rn sx L K0 R0 184 4 [vR 106, vI x1, vI x2] [vI (M1 126 (((200 : Int) * x1) + x2))] M1 Q)))))))) : Rn sx L K0 R0 184 2 [vR 106, vI x1, vI x2] [] M Q := by
  refine Rn_w (by decide) ?_
  show wpc sx L K0 R0 184 [(14, 1, .aload_n 0, []), (15, 3, .invokevirtual 298, [181, 1437, 0]), (18, 1, .iload_n 2, []), (19, 1, .aload_n 0, []), (20, 3, .getfield 71, [9, 35, 1189]), (23, 1, .iload_n 1, []), (24, 1, .iaload, []), (25, 3, .if_icmp .ge 18, [3]), (28, 1, .aload_n 0, []), (29, 3, .getfield 80, [9, 38, 1192]), (32, 3, .sipush 200, []), (35, 1, .iload_n 1, []), (36, 1, .imul, []), (37, 1, .iload_n 2, []), (38, 1, .iadd, []), (39, 1, .iaload, []), (40, 3, .goto 4, [4])] 0 [vR 106, vI x1, vI x2] [] M Q
  simp only [w_al_0, w_ivv_0  cs0, mk_181, kin_T (ks_104), rk_181, rvk0, List.nil_append, w_il_2, w_gf_9_35, rs_104_35, w_il_1, w_iald, arr_T (ks_123), w_ic_ge, w_gf_9_38, rs_104_38, w_sipush, w_imul, w_iadd, arr_T (ks_126), w_goto, true_and, and_true, true_or, or_true]
  exact h
theorem b_184_3 {sx : Int → Int} {L : Nat} {x1 : Int} {x2 : Int} {M : Mem} {Q : Option AV → Mem → Prop} 
    (h : Rn sx L K0 R0 184 4 [vR 106, vI x1, vI x2] [vI (-1)] M Q) : Rn sx L K0 R0 184 3 [vR 106, vI x1, vI x2] [] M Q := by
  refine Rn_w (by decide) ?_
  show wpc sx L K0 R0 184 [(43, 1, .iconst (-1), [])] 4 [vR 106, vI x1, vI x2] [] M Q
  simp only [w_iconst, w_fall, true_and, and_true, true_or, or_true]
  exact h
theorem b_184_4 {sx : Int → Int} {L : Nat} {x1 : Int} {x2 : Int} {y0 : Int} {M : Mem} {Q : Option AV → Mem → Prop} 
    (h : Q (some (vI y0)) M) : Rn sx L K0 R0 184 4 [vR 106, vI x1, vI x2] [vI y0] M Q := by
  refine Rn_w (by decide) ?_
  show wpc sx L K0 R0 184 [(44, 1, .ireturn, [])] 0 [vR 106, vI x1, vI x2] [vI y0] M Q
  simp only [w_ret1 rk_184, true_and, and_true, true_or, or_true]
  exact h
theorem b_185_0 {sx : Int → Int} {L : Nat} {x1 : Int} {M : Mem} {Q : Option AV → Mem → Prop} 
    (h : Rn sx L K0 R0 185 1 [vR 106, vI x1, vI 0, vI 0] [] M Q) : Rn sx L K0 R0 185 0 [vR 106, vI x1, vU, vU] [] M Q := by
  refine Rn_w (by decide) ?_
  show wpc sx L K0 R0 185 [(0, 1, .iconst 0, []), (1, 1, .istore_n 2, []), (2, 1, .iconst 0, []), (3, 1, .istore_n 3, [])] 1 [vR 106, vI x1, vU, vU] [] M Q
  simp only [w_iconst, w_is_2 (c2I _), w_is_3 (c2I _), w_fall, true_and, and_true, true_or, or_true]
  exact h
theorem b_185_1 {sx : Int → Int} {L : Nat} {x1 : Int} {x2 : Int} {x3 : Int} {M : Mem} {Q : Option AV → Mem → Prop} 
    (h : ((0 : Int) ≤ x1 ∧ x1 < (8 : Int)) ∧ ((M 123 x1 ≤ x3 → Rn sx L K0 R0 185 4 [vR 106, vI x1, vI x2, vI x3] [] M Q) ∧ (¬ (M 123 x1 ≤ x3) → inR ((200 : Int) * x1) ∧ (inR (((200 : Int) * x1) + x3) ∧ (((0 : Int) ≤ ((200 : Int) * x1) + x3 ∧ ((200 : Int) * x1) + x3 < (1600 : Int)) ∧ ((¬ M 126 (((200 : Int) * x1) + x3) = (-1 : Int) → Rn sx L K0 R0 185 2 [vR 106, vI x1, vI x2, vI x3] [vI x2] M Q) ∧ (¬ (¬ M 126 (((200 : Int) * x1) + x3) = (-1 : Int)) → Rn sx L K0 R0 185 3 [vR 106, vI x1, vI x2, vI x3] [vI 0, vI x2] M Q))))))) : Rn sx L K0 R0 185 1 [vR 106, vI x1, vI x2, vI x3] [] M Q := by
  refine Rn_w (by decide) ?_
  show wpc sx L K0 R0 185 [(4, 1, .iload_n 3, []), (5, 1, .aload_n 0, []), (6, 3, .getfield 71, [9, 35, 1189]), (9, 1, .iload_n 1, []), (10, 1, .iaload, []), (11, 3, .if_icmp .ge 33, [4]), (14, 1, .iload_n 2, []), (15, 1, .aload_n 0, []), (16, 3, .getfield 80, [9, 38, 1192]), (19, 3, .sipush 200, []), (22, 1, .iload_n 1, []), (23, 1, .imul, []), (24, 1, .iload_n 3, []), (25, 1, .iadd, []), (26, 1, .iaload, []), (27, 1, .iconst (-1), []), (28, 3, .if_icmp .ne 7, [2]), (31, 1, .iconst 0, []), (32, 3, .goto 4, [3])] 0 [vR 106, vI x1, vI x2, vI x3] [] M Q
  simp only [w_il_3, w_al_0, w_gf_9_35, kin_T (ks_104), rs_104_35, w_il_1, w_iald, arr_T (ks_123), w_ic_ge, w_il_2, w_gf_9_38, rs_104_38, w_sipush, w_imul, w_iadd, arr_T (ks_126), w_iconst, w_ic_ne, w_goto, true_and, and_true, true_or, or_true]
  exact h
theorem b_185_2 {sx : Int → Int} {L : Nat} {x1 : Int} {x2 : Int} {x3 : Int} {y0 : Int} {M : Mem} {Q : Option AV → Mem → Prop} 
    (h : Rn sx L K0 R0 185 3 [vR 106, vI x1, vI x2, vI x3] [vI 1, vI y0] M Q) : Rn sx L K0 R0 185 2 [vR 106, vI x1, vI x2, vI x3] [vI y0] M Q := by
  refine Rn_w (by decide) ?_
  show wpc sx L K0 R0 185 [(35, 1, .iconst 1, [])] 3 [vR 106, vI x1, vI x2, vI x3] [vI y0] M Q
  simp only [w_iconst, w_fall, true_and, and_true, true_or, or_true]
  exact h
theorem b_185_3 {sx : Int → Int} {L : Nat} {x1 : Int} {x2 : Int} {x3 : Int} {y0 : Int} {y1 : Int} {M : Mem} {Q : Option AV → Mem → Prop} 
    (h : inR (y0 + y1) ∧ (inR (x3 + 1) ∧ (Rn sx L K0 R0 185 1 [vR 106, vI x1, vI (y0 + y1), vI (x3 + 1)] [] M Q))) : Rn sx L K0 R0 185 3 [vR 106, vI x1, vI x2, vI x3] [vI y1, vI y0] M Q := by
  refine Rn_w (by decide) ?_
  show wpc sx L K0 R0 185 [(36, 1, .iadd, []), (37, 1, .istore_n 2, []), (38, 3, .iinc 3 1, []), (41, 3, .goto (-37), [1])] 0 [vR 106, vI x1, vI x2, vI x3] [vI y1, vI y0] M Q
  simp only [w_iadd, w_is_2 (c2I _), w_inc_3 (c2I _), w_goto, true_and, and_true, true_or, or_true]
  exact h
theorem b_185_4 {sx : Int → Int} {L : Nat} {x1 : Int} {x2 : Int} {x3 : Int} {M : Mem} {Q : Option AV → Mem → Prop} 
    (h : Q (some (vI x2)) M) : Rn sx L K0 R0 185 4 [vR 106, vI x1, vI x2, vI x3] [] M Q := by
  refine Rn_w (by decide) ?_
  show wpc sx L K0 R0 185 [(44, 1, .iload_n 2, []), (45, 1, .ireturn, [])] 0 [vR 106, vI x1, vI x2, vI x3] [] M Q
  simp only [w_il_2, w_ret1 rk_185, true_and, and_true, true_or, or_true]
  exact h
theorem b_186_0 {sx : Int → Int} {L : Nat} {x1 : Int} {M : Mem} {Q : Option AV → Mem → Prop} 
    (h : Rn sx L K0 R0 186 1 [vR 106, vI x1, vI (-1), vI 0, vU] [] M Q) : Rn sx L K0 R0 186 0 [vR 106, vI x1, vU, vU, vU] [] M Q := by
  refine Rn_w (by decide) ?_
  show wpc sx L K0 R0 186 [(0, 1, .iconst (-1), []), (1, 1, .istore_n 2, []), (2, 1, .iconst 0, []), (3, 1, .istore_n 3, [])] 1 [vR 106, vI x1, vU, vU, vU] [] M Q
  simp only [w_iconst, w_is_2 (c2I _), w_is_3 (c2I _), w_fall, true_and, and_true, true_or, or_true]
  exact h
theorem b_186_1 {sx : Int → Int} {L : Nat} {x1 : Int} {x2 : Int} {x3 : Int} {u4 : AV} {M : Mem} {Q : Option AV → Mem → Prop} (hu4 : cat2 u4 = false)
    (h : ((0 : Int) ≤ x1 ∧ x1 < (8 : Int)) ∧ ((M 123 x1 ≤ x3 → Rn sx L K0 R0 186 6 [vR 106, vI x1, vI x2, vI x3, u4] [] M Q) ∧ (¬ (M 123 x1 ≤ x3) → inR ((200 : Int) * x1) ∧ (inR (((200 : Int) * x1) + x3) ∧ (((0 : Int) ≤ ((200 : Int) * x1) + x3 ∧ ((200 : Int) * x1) + x3 < (1600 : Int)) ∧ ((¬ M 126 (((200 : Int) * x1) + x3) = (-1 : Int) → Rn sx L K0 R0 186 2 [vR 106, vI x1, vI x2, vI x3, u4] [] M Q) ∧ (¬ (¬ M 126 (((200 : Int) * x1) + x3) = (-1 : Int)) → Rn sx L K0 R0 186 3 [vR 106, vI x1, vI x2, vI x3, u4] [vI (-1)] M Q))))))) : Rn sx L K0 R0 186 1 [vR 106, vI x1, vI x2, vI x3, u4] [] M Q := by
  refine Rn_w (by decide) ?_
  show wpc sx L K0 R0 186 [(4, 1, .iload_n 3, []), (5, 1, .aload_n 0, []), (6, 3, .getfield 71, [9, 35, 1189]), (9, 1, .iload_n 1, []), (10, 1, .iaload, []), (11, 3, .if_icmp .ge 69, [6]), (14, 1, .aload_n 0, []), (15, 3, .getfield 80, [9, 38, 1192]), (18, 3, .sipush 200, []), (21, 1, .iload_n 1, []), (22, 1, .imul, []), (23, 1, .iload_n 3, []), (24, 1, .iadd, []), (25, 1, .iaload, []), (26, 1, .iconst (-1), []), (27, 3, .if_icmp .ne 7, [2]), (30, 1, .iconst (-1), []), (31, 3, .goto 28, [3])] 0 [vR 106, vI x1, vI x2, vI x3, u4] [] M Q
  simp only [w_il_3, w_al_0, w_gf_9_35, kin_T (ks_104), rs_104_35, w_il_1, w_iald, arr_T (ks_123), w_ic_ge, w_gf_9_38, rs_104_38, w_sipush, w_imul, w_iadd, arr_T (ks_126), w_iconst, w_ic_ne, w_goto, true_and, and_true, true_or, or_true]
  exact h
theorem b_186_2 {sx : Int → Int} {L : Nat} {x1 : Int} {x2 : Int} {x3 : Int} {u4 : AV} {M : Mem} {Q : Option AV → Mem → Prop} (hu4 : cat2 u4 = false)
    (h : inR ((200 : Int) * x1) ∧ (inR (((200 : Int) * x1) + x3) ∧ (((0 : Int) ≤ ((200 : Int) * x1) + x3 ∧ ((200 : Int) * x1) + x3 < (1600 : Int)) ∧ (inR ((200 : Int) * x1) ∧ (inR (((200 : Int) * x1) + x3) ∧ (((0 : Int) ≤ ((200 : Int) * x1) + x3 ∧ ((200 : Int) * x1) + x3 < (1600 : Int)) ∧ (inR ((M 126 (((200 : Int) * x1) + x3)) - (M 125 (((200 : Int) * x1) + x3))) ∧ (Rn sx L K0 R0 186 3 [vR 106, vI x1, vI x2, vI x3, u4] [vI ((M 126 (((200 : Int) * x1) + x3)) - (M 125 (((200 : Int) * x1) + x3)))] M Q)))))))) : Rn sx L K0 R0 186 2 [vR 106, vI x1, vI x2, vI x3, u4] [] M Q := by
  refine Rn_w (by decide) ?_
  show wpc sx L K0 R0 186 [(34, 1, .aload_n 0, []), (35, 3, .getfield 80, [9, 38, 1192]), (38, 3, .sipush 200, []), (41, 1, .iload_n 1, []), (42, 1, .imul, []), (43, 1, .iload_n 3, []), (44, 1, .iadd, []), (45, 1, .iaload, []), (46, 1, .aload_n 0, []), (47, 3, .getfield 77, [9, 37, 1191]), (50, 3, .sipush 200, []), (53, 1, .iload_n 1, []), (54, 1, .imul, []), (55, 1, .iload_n 3, []), (56, 1, .iadd, []), (57, 1, .iaload, []), (58, 1, .isub, [])] 3 [vR 106, vI x1, vI x2, vI x3, u4] [] M Q
  simp only [w_al_0, w_gf_9_38, kin_T (ks_104), rs_104_38, w_sipush, w_il_1, w_imul, w_il_3, w_iadd, w_iald, arr_T (ks_126), w_gf_9_37, rs_104_37, arr_T (ks_125), w_isub, w_fall, true_and, and_true, true_or, or_true]
  exact h
theorem b_186_3 {sx : Int → Int} {L : Nat} {x1 : Int} {x2 : Int} {x3 : Int} {u4 : AV} {y0 : Int} {M : Mem} {Q : Option AV → Mem → Prop} (hu4 : cat2 u4 = false)
    (h : (y0 ≤ x2 → Rn sx L K0 R0 186 4 [vR 106, vI x1, vI x2, vI x3, vI y0] [] M Q) ∧ (¬ (y0 ≤ x2) → Rn sx L K0 R0 186 5 [vR 106, vI x1, vI x2, vI x3, vI y0] [vI y0] M Q)) : Rn sx L K0 R0 186 3 [vR 106, vI x1, vI x2, vI x3, u4] [vI y0] M Q := by
  refine Rn_w (by decide) ?_
  show wpc sx L K0 R0 186 [(59, 2, .istore 4, []), (61, 2, .iload 4, []), (63, 1, .iload_n 2, []), (64, 3, .if_icmp .le 8, [4]), (67, 2, .iload 4, []), (69, 3, .goto 4, [5])] 0 [vR 106, vI x1, vI x2, vI x3, u4] [vI y0] M Q
  simp only [w_is_4 (c2I _), w_il_4, w_il_2, w_ic_le, w_goto, true_and, and_true, true_or, or_true]
  exact h
theorem b_186_4 {sx : Int → Int} {L : Nat} {x1 : Int} {x2 : Int} {x3 : Int} {x4 : Int} {M : Mem} {Q : Option AV → Mem → Prop} 
    (h : Rn sx L K0 R0 186 5 [vR 106, vI x1, vI x2, vI x3, vI x4] [vI x2] M Q) : Rn sx L K0 R0 186 4 [vR 106, vI x1, vI x2, vI x3, vI x4] [] M Q := by
  refine Rn_w (by decide) ?_
  show wpc sx L K0 R0 186 [(72, 1, .iload_n 2, [])] 5 [vR 106, vI x1, vI x2, vI x3, vI x4] [] M Q
  simp only [w_il_2, w_fall, true_and, and_true, true_or, or_true]
  exact h
theorem b_186_5 {sx : Int → Int} {L : Nat} {x1 : Int} {x2 : Int} {x3 : Int} {x4 : Int} {y0 : Int} {M : Mem} {Q : Option AV → Mem → Prop} 
    (h : inR (x3 + 1) ∧ (Rn sx L K0 R0 186 1 [vR 106, vI x1, vI y0, vI (x3 + 1), vI x4] [] M Q)) : Rn sx L K0 R0 186 5 [vR 106, vI x1, vI x2, vI x3, vI x4] [vI y0] M Q := by
  refine Rn_w (by decide) ?_
  show wpc sx L K0 R0 186 [(73, 1, .istore_n 2, []), (74, 3, .iinc 3 1, []), (77, 3, .goto (-73), [1])] 0 [vR 106, vI x1, vI x2, vI x3, vI x4] [vI y0] M Q
  simp only [w_is_2 (c2I _), w_inc_3 (c2I _), w_goto, true_and, and_true, true_or, or_true]
  exact h
theorem b_186_6 {sx : Int → Int} {L : Nat} {x1 : Int} {x2 : Int} {x3 : Int} {u4 : AV} {M : Mem} {Q : Option AV → Mem → Prop} (hu4 : cat2 u4 = false)
    (h : Q (some (vI x2)) M) : Rn sx L K0 R0 186 6 [vR 106, vI x1, vI x2, vI x3, u4] [] M Q := by
  refine Rn_w (by decide) ?_
  show wpc sx L K0 R0 186 [(80, 1, .iload_n 2, []), (81, 1, .ireturn, [])] 0 [vR 106, vI x1, vI x2, vI x3, u4] [] M Q
  simp only [w_il_2, w_ret1 rk_186, true_and, and_true, true_or, or_true]
  exact h
theorem b_187_0 {sx : Int → Int} {L : Nat} {x1 : Int} {x2 : Int} {M : Mem} {Q : Option AV → Mem → Prop} 
    (h : Rn sx L K0 R0 187 1 [vR 106, vI x1, vI x2, vI 0, vI 0] [] M Q) : Rn sx L K0 R0 187 0 [vR 106, vI x1, vI x2, vU, vU] [] M Q := by
  refine Rn_w (by decide) ?_
  show wpc sx L K0 R0 187 [(0, 1, .iconst 0, []), (1, 1, .istore_n 3, []), (2, 1, .iconst 0, []), (3, 2, .istore 4, [])] 1 [vR 106, vI x1, vI x2, vU, vU] [] M Q
  simp only [w_iconst, w_is_3 (c2I _), w_is_4 (c2I _), w_fall, true_and, and_true, true_or, or_true]
  exact h
theorem b_187_1 {sx : Int → Int} {L : Nat} {x1 : Int} {x2 : Int} {x3 : Int} {x4 : Int} {M : Mem} {Q : Option AV → Mem → Prop} 
    (h : (M 104 25 ≤ x4 → Rn sx L K0 R0 187 4 [vR 106, vI x1, vI x2, vI x3, vI x4] [] M Q) ∧ (¬ (M 104 25 ≤ x4) → inR ((200 : Int) * x1) ∧ (inR (((200 : Int) * x1) + x4) ∧ (((0 : Int) ≤ ((200 : Int) * x1) + x4 ∧ ((200 : Int) * x1) + x4 < (1600 : Int)) ∧ ((¬ M 136 (((200 : Int) * x1) + x4) = x2 → Rn sx L K0 R0 187 2 [vR 106, vI x1, vI x2, vI x3, vI x4] [vI x3] M Q) ∧ (¬ (¬ M 136 (((200 : Int) * x1) + x4) = x2) → Rn sx L K0 R0 187 3 [vR 106, vI x1, vI x2, vI x3, vI x4] [vI 1, vI x3] M Q)))))) : Rn sx L K0 R0 187 1 [vR 106, vI x1, vI x2, vI x3, vI x4] [] M Q := by
  refine Rn_w (by decide) ?_
  show wpc sx L K0 R0 187 [(5, 2, .iload 4, []), (7, 1, .aload_n 0, []), (8, 3, .getfield 62, [9, 25, 1179]), (11, 3, .if_icmp .ge 34, [4]), (14, 1, .iload_n 3, []), (15, 1, .aload_n 0, []), (16, 3, .getfield 111, [9, 48, 1202]), (19, 3, .sipush 200, []), (22, 1, .iload_n 1, []), (23, 1, .imul, []), (24, 2, .iload 4, []), (26, 1, .iadd, []), (27, 1, .iaload, []), (28, 1, .iload_n 2, []), (29, 3, .if_icmp .ne 7, [2]), (32, 1, .iconst 1, []), (33, 3, .goto 4, [3])] 0 [vR 106, vI x1, vI x2, vI x3, vI x4] [] M Q
  simp only [w_il_4, w_al_0, w_gf_9_25, kin_T (ks_104), w_ic_ge, w_il_3, w_gf_9_48, rs_104_48, w_sipush, w_il_1, w_imul, w_iadd, w_iald, arr_T (ks_136), w_il_2, w_ic_ne, w_iconst, w_goto, true_and, and_true, true_or, or_true]
  exact h
theorem b_187_2 {sx : Int → Int} {L : Nat} {x1 : Int} {x2 : Int} {x3 : Int} {x4 : Int} {y0 : Int} {M : Mem} {Q : Option AV → Mem → Prop} 
    (h : Rn sx L K0 R0 187 3 [vR 106, vI x1, vI x2, vI x3, vI x4] [vI 0, vI y0] M Q) : Rn sx L K0 R0 187 2 [vR 106, vI x1, vI x2, vI x3, vI x4] [vI y0] M Q := by
  refine Rn_w (by decide) ?_
  show wpc sx L K0 R0 187 [(36, 1, .iconst 0, [])] 3 [vR 106, vI x1, vI x2, vI x3, vI x4] [vI y0] M Q
  simp only [w_iconst, w_fall, true_and, and_true, true_or, or_true]
  exact h
theorem b_187_3 {sx : Int → Int} {L : Nat} {x1 : Int} {x2 : Int} {x3 : Int} {x4 : Int} {y0 : Int} {y1 : Int} {M : Mem} {Q : Option AV → Mem → Prop} 
    (h : inR (y0 + y1) ∧ (inR (x4 + 1) ∧ (Rn sx L K0 R0 187 1 [vR 106, vI x1, vI x2, vI (y0 + y1), vI (x4 + 1)] [] M Q))) : Rn sx L K0 R0 187 3 [vR 106, vI x1, vI x2, vI x3, vI x4] [vI y1, vI y0] M Q := by
  refine Rn_w (by decide) ?_
  show wpc sx L K0 R0 187 [(37, 1, .iadd, []), (38, 1, .istore_n 3, []), (39, 3, .iinc 4 1, []), (42, 3, .goto (-37), [1])] 0 [vR 106, vI x1, vI x2, vI x3, vI x4] [vI y1, vI y0] M Q
  simp only [w_iadd, w_is_3 (c2I _), w_inc_4 (c2I _), w_goto, true_and, and_true, true_or, or_true]
  exact h
theorem b_187_4 {sx : Int → Int} {L : Nat} {x1 : Int} {x2 : Int} {x3 : Int} {x4 : Int} {M : Mem} {Q : Option AV → Mem → Prop} 
    (h : Q (some (vI x3)) M) : Rn sx L K0 R0 187 4 [vR 106, vI x1, vI x2, vI x3, vI x4] [] M Q := by
  refine Rn_w (by decide) ?_
  show wpc sx L K0 R0 187 [(45, 1, .iload_n 3, []), (46, 1, .ireturn, [])] 0 [vR 106, vI x1, vI x2, vI x3, vI x4] [] M Q
  simp only [w_il_3, w_ret1 rk_187, true_and, and_true, true_or, or_true]
  exact h
theorem b_188_0 {sx : Int → Int} {L : Nat} {x1 : Int} {M : Mem} {Q : Option AV → Mem → Prop} 
    (h : Rn sx L K0 R0 188 1 [vR 106, vI x1, vI 0, vI 0, vU, vU] [] M Q) : Rn sx L K0 R0 188 0 [vR 106, vI x1, vU, vU, vU, vU] [] M Q := by
  refine Rn_w (by decide) ?_
  show wpc sx L K0 R0 188 [(0, 1, .iconst 0, []), (1, 1, .istore_n 2, []), (2, 1, .iconst 0, []), (3, 1, .istore_n 3, [])] 1 [vR 106, vI x1, vU, vU, vU, vU] [] M Q
  simp only [w_iconst, w_is_2 (c2I _), w_is_3 (c2I _), w_fall, true_and, and_true, true_or, or_true]
  exact h
theorem b_188_1 {sx : Int → Int} {L : Nat} {x1 : Int} {x2 : Int} {x3 : Int} {u4 : AV} {u5 : AV} {M : Mem} {Q : Option AV → Mem → Prop} (hu4 : cat2 u4 = false) (hu5 : cat2 u5 = false)
    (h : (M 104 25 ≤ x3 → Rn sx L K0 R0 188 9 [vR 106, vI x1, vI x2, vI x3, u4, u5] [] M Q) ∧ (¬ (M 104 25 ≤ x3) → Rn sx L K0 R0 188 2 [vR 106, vI x1, vI x2, vI x3, vI 0, vI 0] [] M Q)) : Rn sx L K0 R0 188 1 [vR 106, vI x1, vI x2, vI x3, u4, u5] [] M Q := by
  refine Rn_w (by decide) ?_
  show wpc sx L K0 R0 188 [(4, 1, .iload_n 3, []), (5, 1, .aload_n 0, []), (6, 3, .getfield 62, [9, 25, 1179]), (9, 3, .if_icmp .ge 102, [9]), (12, 1, .iconst 0, []), (13, 2, .istore 4, []), (15, 1, .iconst 0, []), (16, 2, .istore 5, [])] 2 [vR 106, vI x1, vI x2, vI x3, u4, u5] [] M Q
  simp only [w_il_3, w_al_0, w_gf_9_25, kin_T (ks_104), w_ic_ge, w_iconst, w_is_4 (c2I _), w_is_5 (c2I _), w_fall, true_and, and_true, true_or, or_true]
  exact h
theorem b_188_2 {sx : Int → Int} {L : Nat} {x1 : Int} {x2 : Int} {x3 : Int} {x4 : Int} {x5 : Int} {M : Mem} {Q : Option AV → Mem → Prop} 
    (h : ((8 : Int) ≤ x5 → Rn sx L K0 R0 188 6 [vR 106, vI x1, vI x2, vI x3, vI x4, vI x5] [] M Q) ∧ (¬ ((8 : Int) ≤ x5) → (¬ x4 = (0 : Int) → Rn sx L K0 R0 188 3 [vR 106, vI x1, vI x2, vI x3, vI x4, vI x5] [] M Q) ∧ (¬ (¬ x4 = (0 : Int)) → inR ((200 : Int) * x5) ∧ (inR (((200 : Int) * x5) + x3) ∧ (((0 : Int) ≤ ((200 : Int) * x5) + x3 ∧ ((200 : Int) * x5) + x3 < (1600 : Int)) ∧ ((¬ M 136 (((200 : Int) * x5) + x3) = (1 : Int) → Rn sx L K0 R0 188 4 [vR 106, vI x1, vI x2, vI x3, vI x4, vI x5] [] M Q) ∧ (¬ (¬ M 136 (((200 : Int) * x5) + x3) = (1 : Int)) → ((0 : Int) ≤ x5 ∧ x5 < (8 : Int)) ∧ (((0 : Int) ≤ x1 ∧ x1 < (8 : Int)) ∧ ((M 111 x1 ≤ M 111 x5 → Rn sx L K0 R0 188 4 [vR 106, vI x1, vI x2, vI x3, vI x4, vI x5] [] M Q) ∧ (¬ (M 111 x1 ≤ M 111 x5) → Rn sx L K0 R0 188 3 [vR 106, vI x1, vI x2, vI x3, vI x4, vI x5] [] M Q)))))))))) : Rn sx L K0 R0 188 2 [vR 106, vI x1, vI x2, vI x3, vI x4, vI x5] [] M Q := by
  refine Rn_w (by decide) ?_
  show wpc sx L K0 R0 188 [(18, 2, .iload 5, []), (20, 2, .bipush 8, []), (22, 3, .if_icmp .ge 54, [6]), (25, 2, .iload 4, []), (27, 3, .ifCond .ne 36, [3]), (30, 1, .aload_n 0, []), (31, 3, .getfield 111, [9, 48, 1202]), (34, 3, .sipush 200, []), (37, 2, .iload 5, []), (39, 1, .imul, []), (40, 1, .iload_n 3, []), (41, 1, .iadd, []), (42, 1, .iaload, []), (43, 1, .iconst 1, []), (44, 3, .if_icmp .ne 23, [4]), (47, 1, .aload_n 0, []), (48, 3, .getfield 28, [9, 7, 1161]), (51, 2, .iload 5, []), (53, 1, .iaload, []), (54, 1, .aload_n 0, []), (55, 3, .getfield 28, [9, 7, 1161]), (58, 1, .iload_n 1, []), (59, 1, .iaload, []), (60, 3, .if_icmp .ge 7, [4])] 3 [vR 106, vI x1, vI x2, vI x3, vI x4, vI x5] [] M Q
  simp only [w_il_5, w_bipush, w_ic_ge, w_il_4, w_if_ne, w_al_0, w_gf_9_48, kin_T (ks_104), rs_104_48, w_sipush, w_imul, w_il_3, w_iadd, w_iald, arr_T (ks_136), w_iconst, w_ic_ne, w_gf_9_7, rs_104_7, arr_T (ks_111), w_il_1, w_fall, true_and, and_true, true_or, or_true]
  exact h
theorem b_188_3 {sx : Int → Int} {L : Nat} {x1 : Int} {x2 : Int} {x3 : Int} {x4 : Int} {x5 : Int} {M : Mem} {Q : Option AV → Mem → Prop} 
    (h : Rn sx L K0 R0 188 5 [vR 106, vI x1, vI x2, vI x3, vI x4, vI x5] [vI 1] M Q) : Rn sx L K0 R0 188 3 [vR 106, vI x1, vI x2, vI x3, vI x4, vI x5] [] M Q := by
  refine Rn_w (by decide) ?_
  show wpc sx L K0 R0 188 [(63, 1, .iconst 1, []), (64, 3, .goto 4, [5])] 0 [vR 106, vI x1, vI x2, vI x3, vI x4, vI x5] [] M Q
  simp only [w_iconst, w_goto, true_and, and_true, true_or, or_true]
  exact h
theorem b_188_4 {sx : Int → Int} {L : Nat} {x1 : Int} {x2 : Int} {x3 : Int} {x4 : Int} {x5 : Int} {M : Mem} {Q : Option AV → Mem → Prop} 
    (h : Rn sx L K0 R0 188 5 [vR 106, vI x1, vI x2, vI x3, vI x4, vI x5] [vI 0] M Q) : Rn sx L K0 R0 188 4 [vR 106, vI x1, vI x2, vI x3, vI x4, vI x5] [] M Q := by
  refine Rn_w (by decide) ?_
  show wpc sx L K0 R0 188 [(67, 1, .iconst 0, [])] 5 [vR 106, vI x1, vI x2, vI x3, vI x4, vI x5] [] M Q
  simp only [w_iconst, w_fall, true_and, and_true, true_or, or_true]
  exact h
theorem b_188_5 {sx : Int → Int} {L : Nat} {x1 : Int} {x2 : Int} {x3 : Int} {x4 : Int} {x5 : Int} {y0 : Int} {M : Mem} {Q : Option AV → Mem → Prop} 
    (h : inR (x5 + 1) ∧ (Rn sx L K0 R0 188 2 [vR 106, vI x1, vI x2, vI x3, vI y0, vI (x5 + 1)] [] M Q)) : Rn sx L K0 R0 188 5 [vR 106, vI x1, vI x2, vI x3, vI x4, vI x5] [vI y0] M Q := by
  refine Rn_w (by decide) ?_
  show wpc sx L K0 R0 188 [(68, 2, .istore 4, []), (70, 3, .iinc 5 1, []), (73, 3, .goto (-55), [2])] 0 [vR 106, vI x1, vI x2, vI x3, vI x4, vI x5] [vI y0] M Q
  simp only [w_is_4 (c2I _), w_inc_5 (c2I _), w_goto, true_and, and_true, true_or, or_true]
  exact h
theorem b_188_6 {sx : Int → Int} {L : Nat} {x1 : Int} {x2 : Int} {x3 : Int} {x4 : Int} {x5 : Int} {M : Mem} {Q : Option AV → Mem → Prop} 
    (h : (x4 = (0 : Int) → Rn sx L K0 R0 188 7 [vR 106, vI x1, vI x2, vI x3, vI x4, vI x5] [vI x2] M Q) ∧ (¬ (x4 = (0 : Int)) → inR ((200 : Int) * x1) ∧ (inR (((200 : Int) * x1) + x3) ∧ (((0 : Int) ≤ ((200 : Int) * x1) + x3 ∧ ((200 : Int) * x1) + x3 < (1600 : Int)) ∧ ((M 136 (((200 : Int) * x1) + x3) ≤ (1 : Int) → Rn sx L K0 R0 188 7 [vR 106, vI x1, vI x2, vI x3, vI x4, vI x5] [vI x2] M Q) ∧ (¬ (M 136 (((200 : Int) * x1) + x3) ≤ (1 : Int)) → Rn sx L K0 R0 188 8 [vR 106, vI x1, vI x2, vI x3, vI x4, vI x5] [vI 1, vI x2] M Q)))))) : Rn sx L K0 R0 188 6 [vR 106, vI x1, vI x2, vI x3, vI x4, vI x5] [] M Q := by
  refine Rn_w (by decide) ?_
  show wpc sx L K0 R0 188 [(76, 1, .iload_n 2, []), (77, 2, .iload 4, []), (79, 3, .ifCond .eq 23, [7]), (82, 1, .aload_n 0, []), (83, 3, .getfield 111, [9, 48, 1202]), (86, 3, .sipush 200, []), (89, 1, .iload_n 1, []), (90, 1, .imul, []), (91, 1, .iload_n 3, []), (92, 1, .iadd, []), (93, 1, .iaload, []), (94, 1, .iconst 1, []), (95, 3, .if_icmp .le 7, [7]), (98, 1, .iconst 1, []), (99, 3, .goto 4, [8])] 0 [vR 106, vI x1, vI x2, vI x3, vI x4, vI x5] [] M Q
  simp only [w_il_2, w_il_4, w_if_eq, w_al_0, w_gf_9_48, kin_T (ks_104), rs_104_48, w_sipush, w_il_1, w_imul, w_il_3, w_iadd, w_iald, arr_T (ks_136), w_iconst, w_ic_le, w_goto, true_and, and_true, true_or, or_true]
  exact h
theorem b_188_7 {sx : Int → Int} {L : Nat} {x1 : Int} {x2 : Int} {x3 : Int} {x4 : Int} {x5 : Int} {y0 : Int} {M : Mem} {Q : Option AV → Mem → Prop} 
    (h : Rn sx L K0 R0 188 8 [vR 106, vI x1, vI x2, vI x3, vI x4, vI x5] [vI 0, vI y0] M Q) : Rn sx L K0 R0 188 7 [vR 106, vI x1, vI x2, vI x3, vI x4, vI x5] [vI y0] M Q := by
  refine Rn_w (by decide) ?_
  show wpc sx L K0 R0 188 [(102, 1, .iconst 0, [])] 8 [vR 106, vI x1, vI x2, vI x3, vI x4, vI x5] [vI y0] M Q
  simp only [w_iconst, w_fall, true_and, and_true, true_or, or_true]
  exact h
theorem b_188_8 {sx : Int → Int} {L : Nat} {x1 : Int} {x2 : Int} {x3 : Int} {x4 : Int} {x5 : Int} {y0 : Int} {y1 : Int} {M : Mem} {Q : Option AV → Mem → Prop} 
    (h : inR (y0 + y1) ∧ (inR (x3 + 1) ∧ (Rn sx L K0 R0 188 1 [vR 106, vI x1, vI (y0 + y1), vI (x3 + 1), vI x4, vI x5] [] M Q))) : Rn sx L K0 R0 188 8 [vR 106, vI x1, vI x2, vI x3, vI x4, vI x5] [vI y1, vI y0] M Q := by
  refine Rn_w (by decide) ?_
  show wpc sx L K0 R0 188 [(103, 1, .iadd, []), (104, 1, .istore_n 2, []), (105, 3, .iinc 3 1, []), (108, 3, .goto (-104), [1])] 0 [vR 106, vI x1, vI x2, vI x3, vI x4, vI x5] [vI y1, vI y0] M Q
  simp only [w_iadd, w_is_2 (c2I _), w_inc_3 (c2I _), w_goto, true_and, and_true, true_or, or_true]
  exact h
theorem b_188_9 {sx : Int → Int} {L : Nat} {x1 : Int} {x2 : Int} {x3 : Int} {u4 : AV} {u5 : AV} {M : Mem} {Q : Option AV → Mem → Prop} (hu4 : cat2 u4 = false) (hu5 : cat2 u5 = false)
    (h : Q (some (vI x2)) M) : Rn sx L K0 R0 188 9 [vR 106, vI x1, vI x2, vI x3, u4, u5] [] M Q := by
  refine Rn_w (by decide) ?_
  show wpc sx L K0 R0 188 [(111, 1, .iload_n 2, []), (112, 1, .ireturn, [])] 0 [vR 106, vI x1, vI x2, vI x3, u4, u5] [] M Q
  simp only [w_il_2, w_ret1 rk_188, true_and, and_true, true_or, or_true]
  exact h
theorem b_189_0 {sx : Int → Int} {L : Nat} {x1 : Int} {x2 : Int} {M : Mem} {Q : Option AV → Mem → Prop} 
    (h : (x2 < 0 ∨ 5 < x2 → Rn sx L K0 R0 189 7 [vR 106, vI x1, vI x2] [] M Q) ∧ (x2 = 0 → Rn sx L K0 R0 189 1 [vR 106, vI x1, vI x2] [] M Q) ∧ (x2 = 1 → Rn sx L K0 R0 189 2 [vR 106, vI x1, vI x2] [] M Q) ∧ (x2 = 2 → Rn sx L K0 R0 189 3 [vR 106, vI x1, vI x2] [] M Q) ∧ (x2 = 3 → Rn sx L K0 R0 189 4 [vR 106, vI x1, vI x2] [] M Q) ∧ (x2 = 4 → Rn sx L K0 R0 189 5 [vR 106, vI x1, vI x2] [] M Q) ∧ (x2 = 5 → Rn sx L K0 R0 189 6 [vR 106, vI x1, vI x2] [] M Q)) : Rn sx L K0 R0 189 0 [vR 106, vI x1, vI x2] [] M Q := by
  refine Rn_w (by decide) ?_
  show wpc sx L K0 R0 189 [(0, 1, .iload_n 2, []), (1, 39, .tableswitch 78 0 5 #[39, 46, 52, 58, 64, 71], [7, 1, 2, 3, 4, 5, 6])] 0 [vR 106, vI x1, vI x2] [] M Q
  simp only [w_il_2, w_tsw, swt, true_and, and_true, true_or, or_true]
  exact h
theorem b_189_1 {sx : Int → Int} {L : Nat} {x1 : Int} {x2 : Int} {M : Mem} {Q : Option AV → Mem → Prop} 
    (h : ((0 : Int) ≤ x1 ∧ x1 < (8 : Int)) ∧ (Q (some (vI (M 123 x1))) M)) : Rn sx L K0 R0 189 1 [vR 106, vI x1, vI x2] [] M Q := by
  refine Rn_w (by decide) ?_
  show wpc sx L K0 R0 189 [(40, 1, .aload_n 0, []), (41, 3, .getfield 71, [9, 35, 1189]), (44, 1, .iload_n 1, []), (45, 1, .iaload, []), (46, 1, .ireturn, [])] 0 [vR 106, vI x1, vI x2] [] M Q
  simp only [w_al_0, w_gf_9_35, kin_T (ks_104), rs_104_35, w_il_1, w_iald, arr_T (ks_123), w_ret1 rk_189, true_and, and_true, true_or, or_true]
  exact h
theorem b_189_2 {sx : Int → Int} {L : Nat} {x1 : Int} {x2 : Int} {M : Mem} {Q : Option AV → Mem → Prop} 
    (h : Mq sx L K0 R0 185 [vR 106, vI x1] M (fun rv M1 => ∃ r1, rv = some (vI r1) ∧ (Q (some (vI r1)) M1))) : Rn sx L K0 R0 189 2 [vR 106, vI x1, vI x2] [] M Q := by
  refine Rn_w (by decide) ?_
  show wpc sx L K0 R0 189 [(47, 1, .aload_n 0, []), (48, 1, .iload_n 1, []), (49, 3, .invokevirtual 301, [185, 1537, 1]), (52, 1, .ireturn, [])] 0 [vR 106, vI x1, vI x2] [] M Q
  simp only [w_al_0, w_il_1, w_ivv_1 (c2I _) cs0, mk_185, kin_T (ks_104), rk_185, rvk1, List.cons_append, List.nil_append, w_ret1 rk_189, true_and, and_true, true_or, or_true]
  exact h
theorem b_189_3 {sx : Int → Int} {L : Nat} {x1 : Int} {x2 : Int} {M : Mem} {Q : Option AV → Mem → Prop} 
    (h : Mq sx L K0 R0 179 [vR 106, vI x1] M (fun rv M1 => ∃ r1, rv = some (vI r1) ∧ (Q (some (vI r1)) M1))) : Rn sx L K0 R0 189 3 [vR 106, vI x1, vI x2] [] M Q := by
  refine Rn_w (by decide) ?_
  show wpc sx L K0 R0 189 [(53, 1, .aload_n 0, []), (54, 1, .iload_n 1, []), (55, 3, .invokevirtual 289, [179, 1541, 1]), (58, 1, .ireturn, [])] 0 [vR 106, vI x1, vI x2] [] M Q
  simp only [w_al_0, w_il_1, w_ivv_1 (c2I _) cs0, mk_179, kin_T (ks_104), rk_179, rvk1, List.cons_append, List.nil_append, w_ret1 rk_189, true_and, and_true, true_or, or_true]
  exact h
theorem b_189_4 {sx : Int → Int} {L : Nat} {x1 : Int} {x2 : Int} {M : Mem} {Q : Option AV → Mem → Prop} 
    (h : Mq sx L K0 R0 186 [vR 106, vI x1] M (fun rv M1 => ∃ r1, rv = some (vI r1) ∧ (Q (some (vI r1)) M1))) : Rn sx L K0 R0 189 4 [vR 106, vI x1, vI x2] [] M Q := by
  refine Rn_w (by decide) ?_
  show wpc sx L K0 R0 189 [(59, 1, .aload_n 0, []), (60, 1, .iload_n 1, []), (61, 3, .invokevirtual 304, [186, 1545, 1]), (64, 1, .ireturn, [])] 0 [vR 106, vI x1, vI x2] [] M Q
  simp only [w_al_0, w_il_1, w_ivv_1 (c2I _) cs0, mk_186, kin_T (ks_104), rk_186, rvk1, List.cons_append, List.nil_append, w_ret1 rk_189, true_and, and_true, true_or, or_true]
  exact h
theorem b_189_5 {sx : Int → Int} {L : Nat} {x1 : Int} {x2 : Int} {M : Mem} {Q : Option AV → Mem → Prop} 
    (h : Mq sx L K0 R0 187 [vR 106, vI x1, vI 1] M (fun rv M1 => ∃ r1, rv = some (vI r1) ∧ (Q (some (vI r1)) M1))) : Rn sx L K0 R0 189 5 [vR 106, vI x1, vI x2] [] M Q := by
  refine Rn_w (by decide) ?_
  show wpc sx L K0 R0 189 [(65, 1, .aload_n 0, []), (66, 1, .iload_n 1, []), (67, 1, .iconst 1, []), (68, 3, .invokevirtual 307, [187, 1549, 2]), (71, 1, .ireturn, [])] 0 [vR 106, vI x1, vI x2] [] M Q
  simp only [w_al_0, w_il_1, w_iconst, w_ivv_2 (c2I _) (c2I _) cs0, mk_187, kin_T (ks_104), rk_187, rvk1, List.cons_append, List.nil_append, w_ret1 rk_189, true_and, and_true, true_or, or_true]
  exact h
theorem b_189_6 {sx : Int → Int} {L : Nat} {x1 : Int} {x2 : Int} {M : Mem} {Q : Option AV → Mem → Prop} 
    (h : Mq sx L K0 R0 187 [vR 106, vI x1, vI 2] M (fun rv M1 => ∃ r1, rv = some (vI r1) ∧ (Q (some (vI r1)) M1))) : Rn sx L K0 R0 189 6 [vR 106, vI x1, vI x2] [] M Q := by
  refine Rn_w (by decide) ?_
  show wpc sx L K0 R0 189 [(72, 1, .aload_n 0, []), (73, 1, .iload_n 1, []), (74, 1, .iconst 2, []), (75, 3, .invokevirtual 307, [187, 1549, 2]), (78, 1, .ireturn, [])] 0 [vR 106, vI x1, vI x2] [] M Q
  simp only [w_al_0, w_il_1, w_iconst, w_ivv_2 (c2I _) (c2I _) cs0, mk_187, kin_T (ks_104), rk_187, rvk1, List.cons_append, List.nil_append, w_ret1 rk_189, true_and, and_true, true_or, or_true]
  exact h
theorem b_189_7 {sx : Int → Int} {L : Nat} {x1 : Int} {x2 : Int} {M : Mem} {Q : Option AV → Mem → Prop} 
    (h : Mq sx L K0 R0 188 [vR 106, vI x1] M (fun rv M1 => ∃ r1, rv = some (vI r1) ∧ (Q (some (vI r1)) M1))) : Rn sx L K0 R0 189 7 [vR 106, vI x1, vI x2] [] M Q := by
  refine Rn_w (by decide) ?_
  show wpc sx L K0 R0 189 [(79, 1, .aload_n 0, []), (80, 1, .iload_n 1, []), (81, 3, .invokevirtual 310, [188, 1553, 1]), (84, 1, .ireturn, [])] 0 [vR 106, vI x1, vI x2] [] M Q
  simp only [w_al_0, w_il_1, w_ivv_1 (c2I _) cs0, mk_188, kin_T (ks_104), rk_188, rvk1, List.cons_append, List.nil_append, w_ret1 rk_189, true_and, and_true, true_or, or_true]
  exact h
theorem b_190_0 {sx : Int → Int} {L : Nat} {x1 : Int} {x2 : Int} {M : Mem} {Q : Option AV → Mem → Prop} 
    (h : Mq sx L K0 R0 142 [vI x1] M (fun rv M1 => ∃ r1, rv = some (vI r1) ∧ ((r1 = (0 : Int) → Rn sx L K0 R0 190 1 [vR 106, vI x1, vI x2] [] M1 Q) ∧ (¬ (r1 = (0 : Int)) → Mq sx L K0 R0 137 [vI x2, vI 0, vI 6] M1 (fun rv M2 => ∃ r2, rv = some (vI r2) ∧ ((¬ r2 = (0 : Int) → Rn sx L K0 R0 190 2 [vR 106, vI x1, vI x2] [] M2 Q) ∧ (¬ (¬ r2 = (0 : Int)) → Rn sx L K0 R0 190 1 [vR 106, vI x1, vI x2] [] M2 Q))))))) : Rn sx L K0 R0 190 0 [vR 106, vI x1, vI x2] [] M Q := by
  refine Rn_w (by decide) ?_
  show wpc sx L K0 R0 190 [(0, 1, .iload_n 1, []), (1, 3, .invokestatic 152, [142, 1370, 1]), (4, 3, .ifCond .eq 13, [1]), (7, 1, .iload_n 2, []), (8, 1, .iconst 0, []), (9, 2, .bipush 6, []), (11, 3, .invokestatic 135, [137, 1355, 3]), (14, 3, .ifCond .ne 6, [2])] 1 [vR 106, vI x1, vI x2] [] M Q
  simp only [w_il_1, w_ivs_1 (c2I _) cs0, rk_142, rvk2, List.cons_append, List.nil_append, w_if_eq, w_il_2, w_iconst, w_bipush, w_ivs_3 (c2I _) (c2I _) (c2I _) cs0, rk_137, w_if_ne, w_fall, true_and, and_true, true_or, or_true]
  exact h
theorem b_190_1 {sx : Int → Int} {L : Nat} {x1 : Int} {x2 : Int} {M : Mem} {Q : Option AV → Mem → Prop} 
    (h : Q (some (vI (-2))) M) : Rn sx L K0 R0 190 1 [vR 106, vI x1, vI x2] [] M Q := by
  refine Rn_w (by decide) ?_
  show wpc sx L K0 R0 190 [(17, 2, .bipush (-2), []), (19, 1, .ireturn, [])] 0 [vR 106, vI x1, vI x2] [] M Q
  simp only [w_bipush, w_ret1 rk_190, true_and, and_true, true_or, or_true]
  exact h
theorem b_190_2 {sx : Int → Int} {L : Nat} {x1 : Int} {x2 : Int} {M : Mem} {Q : Option AV → Mem → Prop} 
    (h : Mq sx L K0 R0 181 [vR 106] M (fun rv M1 => rv = none ∧ (Mq sx L K0 R0 189 [vR 106, vI x1, vI x2] M1 (fun rv M2 => ∃ r1, rv = some (vI r1) ∧ (Q (some (vI r1)) M2))))) : Rn sx L K0 R0 190 2 [vR 106, vI x1, vI x2] [] M Q := by
  refine Rn_w (by decide) ?_
  show wpc sx L K0 R0 190 [(20, 1, .aload_n 0, []), (21, 3, .invokevirtual 298, [181, 1437, 0]), (24, 1, .aload_n 0, []), (25, 1, .iload_n 1, []), (26, 1, .iload_n 2, []), (27, 3, .invokevirtual 313, [189, 1533, 2]), (30, 1, .ireturn, [])] 0 [vR 106, vI x1, vI x2] [] M Q
  simp only [w_al_0, w_ivv_0  cs0, mk_181, kin_T (ks_104), rk_181, rvk0, List.nil_append, w_il_1, w_il_2, w_ivv_2 (c2I _) (c2I _) cs0, mk_189, rk_189, rvk1, List.cons_append, w_ret1 rk_190, true_and, and_true, true_or, or_true]
  exact h
theorem b_191_0 {sx : Int → Int} {L : Nat}  {M : Mem} {Q : Option AV → Mem → Prop} 
    (h : Mq sx L K0 R0 181 [vR 106] M (fun rv M1 => rv = none ∧ (Mq sx L K0 R0 180 [vR 106] M1 (fun rv M2 => ∃ r1, rv = some (vI r1) ∧ (Q (some (vI r1)) M2))))) : Rn sx L K0 R0 191 0 [vR 106] [] M Q := by
  refine Rn_w (by decide) ?_
  show wpc sx L K0 R0 191 [(0, 1, .aload_n 0, []), (1, 3, .invokevirtual 298, [181, 1437, 0]), (4, 1, .aload_n 0, []), (5, 3, .invokevirtual 316, [180, 1561, 0]), (8, 1, .ireturn, [])] 0 [vR 106] [] M Q
  simp only [w_al_0, w_ivv_0  cs0, mk_181, kin_T (ks_104), rk_181, rvk0, List.nil_append, mk_180, rk_180, rvk1, List.cons_append, w_ret1 rk_191, true_and, and_true, true_or, or_true]
  exact h
theorem b_192_0 {sx : Int → Int} {L : Nat} {x1 : Int} {M : Mem} {Q : Option AV → Mem → Prop} 
    (h : Mq sx L K0 R0 137 [vI x1, vI 0, vI 1] M (fun rv M1 => ∃ r1, rv = some (vI r1) ∧ ((¬ r1 = (0 : Int) → Rn sx L K0 R0 192 1 [vR 106, vI x1] [] M1 Q) ∧ (¬ (¬ r1 = (0 : Int)) → Q (some (vI (-2))) M1)))) : Rn sx L K0 R0 192 0 [vR 106, vI x1] [] M Q := by
  refine Rn_w (by decide) ?_
  show wpc sx L K0 R0 192 [(0, 1, .iload_n 1, []), (1, 1, .iconst 0, []), (2, 1, .iconst 1, []), (3, 3, .invokestatic 135, [137, 1355, 3]), (6, 3, .ifCond .ne 6, [1]), (9, 2, .bipush (-2), []), (11, 1, .ireturn, [])] 0 [vR 106, vI x1] [] M Q
  simp only [w_il_1, w_iconst, w_ivs_3 (c2I _) (c2I _) (c2I _) cs0, rk_137, rvk2, List.cons_append, List.nil_append, w_if_ne, w_bipush, w_ret1 rk_192, true_and, and_true, true_or, or_true]
  exact h
theorem b_192_1 {sx : Int → Int} {L : Nat} {x1 : Int} {M : Mem} {Q : Option AV → Mem → Prop} 
    (h : Mq sx L K0 R0 181 [vR 106] M (fun rv M1 => rv = none ∧ ((¬ x1 = (0 : Int) → Rn sx L K0 R0 192 2 [vR 106, vI x1] [] M1 Q) ∧ (¬ (¬ x1 = (0 : Int)) → Rn sx L K0 R0 192 3 [vR 106, vI x1] [vI (M1 104 49)] M1 Q)))) : Rn sx L K0 R0 192 1 [vR 106, vI x1] [] M Q := by
  refine Rn_w (by decide) ?_
  show wpc sx L K0 R0 192 [(12, 1, .aload_n 0, []), (13, 3, .invokevirtual 298, [181, 1437, 0]), (16, 1, .iload_n 1, []), (17, 3, .ifCond .ne 10, [2]), (20, 1, .aload_n 0, []), (21, 3, .getfield 217, [9, 49, 1203]), (24, 3, .goto 7, [3])] 0 [vR 106, vI x1] [] M Q
  simp only [w_al_0, w_ivv_0  cs0, mk_181, kin_T (ks_104), rk_181, rvk0, List.nil_append, w_il_1, w_if_ne, w_gf_9_49, w_goto, true_and, and_true, true_or, or_true]
  exact h
theorem b_192_2 {sx : Int → Int} {L : Nat} {x1 : Int} {M : Mem} {Q : Option AV → Mem → Prop} 
    (h : Rn sx L K0 R0 192 3 [vR 106, vI x1] [vI (M 104 50)] M Q) : Rn sx L K0 R0 192 2 [vR 106, vI x1] [] M Q := by
  refine Rn_w (by decide) ?_
  show wpc sx L K0 R0 192 [(27, 1, .aload_n 0, []), (28, 3, .getfield 220, [9, 50, 1204])] 3 [vR 106, vI x1] [] M Q
  simp only [w_al_0, w_gf_9_50, kin_T (ks_104), w_fall, true_and, and_true, true_or, or_true]
  exact h
theorem b_192_3 {sx : Int → Int} {L : Nat} {x1 : Int} {y0 : Int} {M : Mem} {Q : Option AV → Mem → Prop} 
    (h : Q (some (vI y0)) M) : Rn sx L K0 R0 192 3 [vR 106, vI x1] [vI y0] M Q := by
  refine Rn_w (by decide) ?_
  show wpc sx L K0 R0 192 [(31, 1, .ireturn, [])] 0 [vR 106, vI x1] [vI y0] M Q
  simp only [w_ret1 rk_192, true_and, and_true, true_or, or_true]
  exact h
theorem b_193_0 {sx : Int → Int} {L : Nat} {x1 : Int} {x2 : Int} {M : Mem} {Q : Option AV → Mem → Prop} 
    (h : ((0 : Int) ≤ x1 ∧ x1 < (8 : Int)) ∧ (((0 : Int) ≤ x2 ∧ x2 < (8 : Int)) ∧ ((M 111 x2 < M 111 x1 → Rn sx L K0 R0 193 1 [vR 106, vI x1, vI x2] [] M Q) ∧ (¬ (M 111 x2 < M 111 x1) → ((0 : Int) ≤ x1 ∧ x1 < (8 : Int)) ∧ (((0 : Int) ≤ x2 ∧ x2 < (8 : Int)) ∧ ((¬ M 111 x1 = M 111 x2 → Rn sx L K0 R0 193 2 [vR 106, vI x1, vI x2] [] M Q) ∧ (¬ (¬ M 111 x1 = M 111 x2) → (x2 ≤ x1 → Rn sx L K0 R0 193 2 [vR 106, vI x1, vI x2] [] M Q) ∧ (¬ (x2 ≤ x1) → Rn sx L K0 R0 193 1 [vR 106, vI x1, vI x2] [] M Q)))))))) : Rn sx L K0 R0 193 0 [vR 106, vI x1, vI x2] [] M Q := by
  refine Rn_w (by decide) ?_
  show wpc sx L K0 R0 193 [(0, 1, .aload_n 0, []), (1, 3, .getfield 28, [9, 7, 1161]), (4, 1, .iload_n 1, []), (5, 1, .iaload, []), (6, 1, .aload_n 0, []), (7, 3, .getfield 28, [9, 7, 1161]), (10, 1, .iload_n 2, []), (11, 1, .iaload, []), (12, 3, .if_icmp .gt 23, [1]), (15, 1, .aload_n 0, []), (16, 3, .getfield 28, [9, 7, 1161]), (19, 1, .iload_n 1, []), (20, 1, .iaload, []), (21, 1, .aload_n 0, []), (22, 3, .getfield 28, [9, 7, 1161]), (25, 1, .iload_n 2, []), (26, 1, .iaload, []), (27, 3, .if_icmp .ne 12, [2]), (30, 1, .iload_n 1, []), (31, 1, .iload_n 2, []), (32, 3, .if_icmp .ge 7, [2])] 1 [vR 106, vI x1, vI x2] [] M Q
  simp only [w_al_0, w_gf_9_7, kin_T (ks_104), rs_104_7, w_il_1, w_iald, arr_T (ks_111), w_il_2, w_ic_gt, w_ic_ne, w_ic_ge, w_fall, true_and, and_true, true_or, or_true]
  exact h
theorem b_193_1 {sx : Int → Int} {L : Nat} {x1 : Int} {x2 : Int} {M : Mem} {Q : Option AV → Mem → Prop} 
    (h : Rn sx L K0 R0 193 3 [vR 106, vI x1, vI x2] [vI 1] M Q) : Rn sx L K0 R0 193 1 [vR 106, vI x1, vI x2] [] M Q := by
  refine Rn_w (by decide) ?_
  show wpc sx L K0 R0 193 [(35, 1, .iconst 1, []), (36, 3, .goto 4, [3])] 0 [vR 106, vI x1, vI x2] [] M Q
  simp only [w_iconst, w_goto, true_and, and_true, true_or, or_true]
  exact h
theorem b_193_2 {sx : Int → Int} {L : Nat} {x1 : Int} {x2 : Int} {M : Mem} {Q : Option AV → Mem → Prop} 
    (h : Rn sx L K0 R0 193 3 [vR 106, vI x1, vI x2] [vI 0] M Q) : Rn sx L K0 R0 193 2 [vR 106, vI x1, vI x2] [] M Q := by
  refine Rn_w (by decide) ?_
  show wpc sx L K0 R0 193 [(39, 1, .iconst 0, [])] 3 [vR 106, vI x1, vI x2] [] M Q
  simp only [w_iconst, w_fall, true_and, and_true, true_or, or_true]
  exact h
theorem b_193_3 {sx : Int → Int} {L : Nat} {x1 : Int} {x2 : Int} {y0 : Int} {M : Mem} {Q : Option AV → Mem → Prop} 
    (h : (y0 = 0 ∨ y0 = 1) ∧ (Q (some (vI y0)) M)) : Rn sx L K0 R0 193 3 [vR 106, vI x1, vI x2] [vI y0] M Q := by
  refine Rn_w (by decide) ?_
  show wpc sx L K0 R0 193 [(40, 1, .ireturn, [])] 0 [vR 106, vI x1, vI x2] [vI y0] M Q
  simp only [w_ret2 rk_193, true_and, and_true, true_or, or_true]
  exact h
theorem b_194_0 {sx : Int → Int} {L : Nat} {x1 : Int} {x2 : Int} {M : Mem} {Q : Option AV → Mem → Prop} 
    (h : Rn sx L K0 R0 194 1 [vR 106, vI x1, vI x2, vI 0] [] M Q) : Rn sx L K0 R0 194 0 [vR 106, vI x1, vI x2, vU] [] M Q := by
  refine Rn_w (by decide) ?_
  show wpc sx L K0 R0 194 [(0, 1, .iconst 0, []), (1, 1, .istore_n 3, [])] 1 [vR 106, vI x1, vI x2, vU] [] M Q
  simp only [w_iconst, w_is_3 (c2I _), w_fall, true_and, and_true, true_or, or_true]
  exact h
set_option maxRecDepth 8192 in
theorem b_194_1 {sx : Int → Int} {L : Nat} {x1 : Int} {x2 : Int} {x3 : Int} {M : Mem} {Q : Option AV → Mem → Prop} 
    (h : ((0 : Int) ≤ x1 ∧ x1 < (8 : Int)) ∧ ((M 117 x1 ≤ x3 → Rn sx L K0 R0 194 3 [vR 106, vI x1, vI x2, vI x3] [] M Q) ∧ (¬ (M 117 x1 ≤ x3) → inR ((20 : Int) * x1) ∧ (inR (((20 : Int) * x1) + x3) ∧ (((0 : Int) ≤ ((20 : Int) * x1) + x3 ∧ ((20 : Int) * x1) + x3 < (160 : Int)) ∧ ((¬ M 118 (((20 : Int) * x1) + x3) = (1 : Int) → Rn sx L K0 R0 194 2 [vR 106, vI x1, vI x2, vI x3] [] M Q) ∧ (¬ (¬ M 118 (((20 : Int) * x1) + x3) = (1 : Int)) → inR ((20 : Int) * x1) ∧ (inR (((20 : Int) * x1) + x3) ∧ (((0 : Int) ≤ ((20 : Int) * x1) + x3 ∧ ((20 : Int) * x1) + x3 < (160 : Int)) ∧ ((¬ M 119 (((20 : Int) * x1) + x3) = x2 → Rn sx L K0 R0 194 2 [vR 106, vI x1, vI x2, vI x3] [] M Q) ∧ (¬ (¬ M 119 (((20 : Int) * x1) + x3) = x2) → Q (some (vI 1)) M))))))))))) : Rn sx L K0 R0 194 1 [vR 106, vI x1, vI x2, vI x3] [] M Q := by
  refine Rn_w (by decide) ?_
  show wpc sx L K0 R0 194 [(2, 1, .iload_n 3, []), (3, 1, .aload_n 0, []), (4, 3, .getfield 46, [9, 15, 1169]), (7, 1, .iload_n 1, []), (8, 1, .iaload, []), (9, 3, .if_icmp .ge 41, [3]), (12, 1, .aload_n 0, []), (13, 3, .getfield 49, [9, 16, 1170]), (16, 2, .bipush 20, []), (18, 1, .iload_n 1, []), (19, 1, .imul, []), (20, 1, .iload_n 3, []), (21, 1, .iadd, []), (22, 1, .iaload, []), (23, 1, .iconst 1, []), (24, 3, .if_icmp .ne 20, [2]), (27, 1, .aload_n 0, []), (28, 3, .getfield 52, [9, 17, 1171]), (31, 2, .bipush 20, []), (33, 1, .iload_n 1, []), (34, 1, .imul, []), (35, 1, .iload_n 3, []), (36, 1, .iadd, []), (37, 1, .iaload, []), (38, 1, .iload_n 2, []), (39, 3, .if_icmp .ne 5, [2]), (42, 1, .iconst 1, []), (43, 1, .ireturn, [])] 0 [vR 106, vI x1, vI x2, vI x3] [] M Q
  simp only [w_il_3, w_al_0, w_gf_9_15, kin_T (ks_104), rs_104_15, w_il_1, w_iald, arr_T (ks_117), w_ic_ge, w_gf_9_16, rs_104_16, w_bipush, w_imul, w_iadd, arr_T (ks_118), w_iconst, w_ic_ne, w_gf_9_17, rs_104_17, arr_T (ks_119), w_il_2, w_ret2 rk_194, b01_1, true_and, and_true, true_or, or_true]
  exact h
theorem b_194_2 {sx : Int → Int} {L : Nat} {x1 : Int} {x2 : Int} {x3 : Int} {M : Mem} {Q : Option AV → Mem → Prop} 
    (h : inR (x3 + 1) ∧ (Rn sx L K0 R0 194 1 [vR 106, vI x1, vI x2, vI (x3 + 1)] [] M Q)) : Rn sx L K0 R0 194 2 [vR 106, vI x1, vI x2, vI x3] [] M Q := by
  refine Rn_w (by decide) ?_
  show wpc sx L K0 R0 194 [(44, 3, .iinc 3 1, []), (47, 3, .goto (-45), [1])] 0 [vR 106, vI x1, vI x2, vI x3] [] M Q
  simp only [w_inc_3 (c2I _), w_goto, true_and, and_true, true_or, or_true]
  exact h
theorem b_194_3 {sx : Int → Int} {L : Nat} {x1 : Int} {x2 : Int} {x3 : Int} {M : Mem} {Q : Option AV → Mem → Prop} 
    (h : Q (some (vI 0)) M) : Rn sx L K0 R0 194 3 [vR 106, vI x1, vI x2, vI x3] [] M Q := by
  refine Rn_w (by decide) ?_
  show wpc sx L K0 R0 194 [(50, 1, .iconst 0, []), (51, 1, .ireturn, [])] 0 [vR 106, vI x1, vI x2, vI x3] [] M Q
  simp only [w_iconst, w_ret2 rk_194, b01_0, true_and, and_true, true_or, or_true]
  exact h

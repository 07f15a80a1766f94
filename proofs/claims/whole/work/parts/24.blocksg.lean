theorem b_220_0 {sx : Int → Int} {L : Nat} {x1 : Int} {x2 : Int} {x3 : Int} {x4 : Int} {M : Mem} {Q : Option AV → Mem → Prop} 
    (h : Mq sx L K0 R0 215 [vI x1] M (fun rv M1 => ∃ r1, rv = some (vI r1) ∧ ((r1 = (0 : Int) → Rn sx L K0 R0 220 1 [vR 106, vI x1, vI x2, vI x3, vI x4, vU] [] M1 Q) ∧ (¬ (r1 = (0 : Int)) → Mq sx L K0 R0 137 [vI x2, vI 0, vI 2] M1 (fun rv M2 => ∃ r2, rv = some (vI r2) ∧ ((¬ r2 = (0 : Int) → Rn sx L K0 R0 220 2 [vR 106, vI x1, vI x2, vI x3, vI x4, vU] [] M2 Q) ∧ (¬ (¬ r2 = (0 : Int)) → Rn sx L K0 R0 220 1 [vR 106, vI x1, vI x2, vI x3, vI x4, vU] [] M2 Q))))))) : Rn sx L K0 R0 220 0 [vR 106, vI x1, vI x2, vI x3, vI x4, vU] [] M Q := by
  refine Rn_w (by decide) ?_
  show wpc sx L K0 R0 220 [(0, 1, .iload_n 1, []), (1, 3, .invokestatic 352, [215, 1640, 1]), (4, 3, .ifCond .eq 12, [1]), (7, 1, .iload_n 2, []), (8, 1, .iconst 0, []), (9, 1, .iconst 2, []), (10, 3, .invokestatic 135, [137, 1355, 3]), (13, 3, .ifCond .ne 6, [2])] 1 [vR 106, vI x1, vI x2, vI x3, vI x4, vU] [] M Q
  simp only [w_il_1, w_ivs_1 (c2I _) cs0, rk_215, rvk2, List.cons_append, List.nil_append, w_if_eq, w_il_2, w_iconst, w_ivs_3 (c2I _) (c2I _) (c2I _) cs0, rk_137, w_if_ne, w_fall, true_and, and_true, true_or, or_true]
  exact h
theorem b_220_1 {sx : Int → Int} {L : Nat} {x1 : Int} {x2 : Int} {x3 : Int} {x4 : Int} {M : Mem} {Q : Option AV → Mem → Prop} 
    (h : Q (some (vI (-2))) M) : Rn sx L K0 R0 220 1 [vR 106, vI x1, vI x2, vI x3, vI x4, vU] [] M Q := by
  refine Rn_w (by decide) ?_
  show wpc sx L K0 R0 220 [(16, 2, .bipush (-2), []), (18, 1, .ireturn, [])] 0 [vR 106, vI x1, vI x2, vI x3, vI x4, vU] [] M Q
  simp only [w_bipush, w_ret1 rk_220, true_and, and_true, true_or, or_true]
  exact h
theorem b_220_2 {sx : Int → Int} {L : Nat} {x1 : Int} {x2 : Int} {x3 : Int} {x4 : Int} {M : Mem} {Q : Option AV → Mem → Prop} 
    (h : Mq sx L K0 R0 218 [vR 106, vI x1, vI x2, vI x3] M (fun rv M1 => ∃ r1, rv = some (vI r1) ∧ ((r1 ≤ (0 : Int) → Rn sx L K0 R0 220 3 [vR 106, vI x1, vI x2, vI x3, vI x4, vI r1] [] M1 Q) ∧ (¬ (r1 ≤ (0 : Int)) → Mq sx L K0 R0 214 [vR 106, vI r1] M1 (fun rv M2 => ∃ r2, rv = some (vI r2) ∧ (Q (some (vI r2)) M2)))))) : Rn sx L K0 R0 220 2 [vR 106, vI x1, vI x2, vI x3, vI x4, vU] [] M Q := by
  refine Rn_w (by decide) ?_
  show wpc sx L K0 R0 220 [(19, 1, .aload_n 0, []), (20, 1, .iload_n 1, []), (21, 1, .iload_n 2, []), (22, 1, .iload_n 3, []), (23, 3, .invokevirtual 387, [218, 1675, 3]), (26, 2, .istore 5, []), (28, 2, .iload 5, []), (30, 3, .ifCond .le 10, [3]), (33, 1, .aload_n 0, []), (34, 2, .iload 5, []), (36, 3, .invokevirtual 355, [214, 1643, 1]), (39, 1, .ireturn, [])] 0 [vR 106, vI x1, vI x2, vI x3, vI x4, vU] [] M Q
  simp only [w_al_0, w_il_1, w_il_2, w_il_3, w_ivv_3 (c2I _) (c2I _) (c2I _) cs0, mk_218, kin_T (ks_104), rk_218, rvk1, List.cons_append, List.nil_append, w_is_5 (c2I _), w_il_5, w_if_le, w_ivv_1 (c2I _) cs0, mk_214, rk_214, w_ret1 rk_220, true_and, and_true, true_or, or_true]
  exact h
theorem b_220_3 {sx : Int → Int} {L : Nat} {x1 : Int} {x2 : Int} {x3 : Int} {x4 : Int} {x5 : Int} {M : Mem} {Q : Option AV → Mem → Prop} 
    (h : Mq sx L K0 R0 219 [vR 106, vI x1, vI x3, vI x4] M (fun rv M1 => rv = none ∧ (Q (some (vI 1)) M1))) : Rn sx L K0 R0 220 3 [vR 106, vI x1, vI x2, vI x3, vI x4, vI x5] [] M Q := by
  refine Rn_w (by decide) ?_
  show wpc sx L K0 R0 220 [(40, 1, .aload_n 0, []), (41, 1, .iload_n 1, []), (42, 1, .iload_n 3, []), (43, 2, .iload 4, []), (45, 3, .invokevirtual 390, [219, 1679, 3]), (48, 1, .iconst 1, []), (49, 1, .ireturn, [])] 0 [vR 106, vI x1, vI x2, vI x3, vI x4, vI x5] [] M Q
  simp only [w_al_0, w_il_1, w_il_3, w_il_4, w_ivv_3 (c2I _) (c2I _) (c2I _) cs0, mk_219, kin_T (ks_104), rk_219, rvk0, List.nil_append, w_iconst, w_ret1 rk_220, true_and, and_true, true_or, or_true]
  exact h
theorem b_221_0 {sx : Int → Int} {L : Nat} {x1 : Int} {x2 : Int} {x3 : Int} {M : Mem} {Q : Option AV → Mem → Prop} 
    (h : Mq sx L K0 R0 215 [vI x1] M (fun rv M1 => ∃ r1, rv = some (vI r1) ∧ ((r1 = (0 : Int) → Rn sx L K0 R0 221 1 [vR 106, vI x1, vI x2, vI x3, vU] [] M1 Q) ∧ (¬ (r1 = (0 : Int)) → Mq sx L K0 R0 137 [vI x2, vI 0, vI 2] M1 (fun rv M2 => ∃ r2, rv = some (vI r2) ∧ ((¬ r2 = (0 : Int) → Rn sx L K0 R0 221 2 [vR 106, vI x1, vI x2, vI x3, vU] [] M2 Q) ∧ (¬ (¬ r2 = (0 : Int)) → Rn sx L K0 R0 221 1 [vR 106, vI x1, vI x2, vI x3, vU] [] M2 Q))))))) : Rn sx L K0 R0 221 0 [vR 106, vI x1, vI x2, vI x3, vU] [] M Q := by
  refine Rn_w (by decide) ?_
  show wpc sx L K0 R0 221 [(0, 1, .iload_n 1, []), (1, 3, .invokestatic 352, [215, 1640, 1]), (4, 3, .ifCond .eq 12, [1]), (7, 1, .iload_n 2, []), (8, 1, .iconst 0, []), (9, 1, .iconst 2, []), (10, 3, .invokestatic 135, [137, 1355, 3]), (13, 3, .ifCond .ne 7, [2])] 1 [vR 106, vI x1, vI x2, vI x3, vU] [] M Q
  simp only [w_il_1, w_ivs_1 (c2I _) cs0, rk_215, rvk2, List.cons_append, List.nil_append, w_if_eq, w_il_2, w_iconst, w_ivs_3 (c2I _) (c2I _) (c2I _) cs0, rk_137, w_if_ne, w_fall, true_and, and_true, true_or, or_true]
  exact h
theorem b_221_1 {sx : Int → Int} {L : Nat} {x1 : Int} {x2 : Int} {x3 : Int} {M : Mem} {Q : Option AV → Mem → Prop} 
    (h : Q (some (vI (-2147483648))) M) : Rn sx L K0 R0 221 1 [vR 106, vI x1, vI x2, vI x3, vU] [] M Q := by
  refine Rn_w (by decide) ?_
  show wpc sx L K0 R0 221 [(16, 3, .ldc_w 394, [0, 2147483648, 1687]), (19, 1, .ireturn, [])] 0 [vR 106, vI x1, vI x2, vI x3, vU] [] M Q
  simp only [w_ldcmin, w_ret1 rk_221, true_and, and_true, true_or, or_true]
  exact h
theorem b_221_2 {sx : Int → Int} {L : Nat} {x1 : Int} {x2 : Int} {x3 : Int} {M : Mem} {Q : Option AV → Mem → Prop} 
    (h : Mq sx L K0 R0 218 [vR 106, vI x1, vI x2, vI x3] M (fun rv M1 => ∃ r1, rv = some (vI r1) ∧ ((r1 ≤ (0 : Int) → Rn sx L K0 R0 221 3 [vR 106, vI x1, vI x2, vI x3, vI r1] [] M1 Q) ∧ (¬ (r1 ≤ (0 : Int)) → Q (some (vI (-2147483648))) (mset M1 104 64 r1))))) : Rn sx L K0 R0 221 2 [vR 106, vI x1, vI x2, vI x3, vU] [] M Q := by
  refine Rn_w (by decide) ?_
  show wpc sx L K0 R0 221 [(20, 1, .aload_n 0, []), (21, 1, .iload_n 1, []), (22, 1, .iload_n 2, []), (23, 1, .iload_n 3, []), (24, 3, .invokevirtual 387, [218, 1675, 3]), (27, 2, .istore 4, []), (29, 2, .iload 4, []), (31, 3, .ifCond .le 13, [3]), (34, 1, .aload_n 0, []), (35, 2, .iload 4, []), (37, 3, .putfield 384, [9, 64, 1218]), (40, 3, .ldc_w 394, [0, 2147483648, 1687]), (43, 1, .ireturn, [])] 0 [vR 106, vI x1, vI x2, vI x3, vU] [] M Q
  simp only [w_al_0, w_il_1, w_il_2, w_il_3, w_ivv_3 (c2I _) (c2I _) (c2I _) cs0, mk_218, kin_T (ks_104), rk_218, rvk1, List.cons_append, List.nil_append, w_is_4 (c2I _), w_il_4, w_if_le, w_pf_9_64, w_ldcmin, w_ret1 rk_221, true_and, and_true, true_or, or_true]
  exact h
theorem b_221_3 {sx : Int → Int} {L : Nat} {x1 : Int} {x2 : Int} {x3 : Int} {x4 : Int} {M : Mem} {Q : Option AV → Mem → Prop} 
    (h : inR ((60 : Int) * x1) ∧ (inR (((60 : Int) * x1) + x3) ∧ (((0 : Int) ≤ ((60 : Int) * x1) + x3 ∧ ((60 : Int) * x1) + x3 < (240 : Int)) ∧ (Q (some (vI (M 142 (((60 : Int) * x1) + x3)))) M)))) : Rn sx L K0 R0 221 3 [vR 106, vI x1, vI x2, vI x3, vI x4] [] M Q := by
  refine Rn_w (by decide) ?_
  show wpc sx L K0 R0 221 [(44, 1, .aload_n 0, []), (45, 3, .getfield 129, [9, 62, 1216]), (48, 2, .bipush 60, []), (50, 1, .iload_n 1, []), (51, 1, .imul, []), (52, 1, .iload_n 3, []), (53, 1, .iadd, []), (54, 1, .iaload, []), (55, 1, .ireturn, [])] 0 [vR 106, vI x1, vI x2, vI x3, vI x4] [] M Q
  simp only [w_al_0, w_gf_9_62, kin_T (ks_104), rs_104_62, w_bipush, w_il_1, w_imul, w_il_3, w_iadd, w_iald, arr_T (ks_142), w_ret1 rk_221, true_and, and_true, true_or, or_true]
  exact h
theorem b_222_0 {sx : Int → Int} {L : Nat} {x1 : Int} {x2 : Int} {x3 : Int} {x4 : Int} {x5 : Int} {M : Mem} {Q : Option AV → Mem → Prop} 
    (h : Mq sx L K0 R0 215 [vI x1] M (fun rv M1 => ∃ r1, rv = some (vI r1) ∧ ((r1 = (0 : Int) → Rn sx L K0 R0 222 1 [vR 106, vI x1, vI x2, vI x3, vI x4, vI x5, vU] [] M1 Q) ∧ (¬ (r1 = (0 : Int)) → Mq sx L K0 R0 215 [vI x3] M1 (fun rv M2 => ∃ r2, rv = some (vI r2) ∧ ((¬ r2 = (0 : Int) → Rn sx L K0 R0 222 2 [vR 106, vI x1, vI x2, vI x3, vI x4, vI x5, vU] [] M2 Q) ∧ (¬ (¬ r2 = (0 : Int)) → Rn sx L K0 R0 222 1 [vR 106, vI x1, vI x2, vI x3, vI x4, vI x5, vU] [] M2 Q))))))) : Rn sx L K0 R0 222 0 [vR 106, vI x1, vI x2, vI x3, vI x4, vI x5, vU] [] M Q := by
  refine Rn_w (by decide) ?_
  show wpc sx L K0 R0 222 [(0, 1, .iload_n 1, []), (1, 3, .invokestatic 352, [215, 1640, 1]), (4, 3, .ifCond .eq 10, [1]), (7, 1, .iload_n 3, []), (8, 3, .invokestatic 352, [215, 1640, 1]), (11, 3, .ifCond .ne 6, [2])] 1 [vR 106, vI x1, vI x2, vI x3, vI x4, vI x5, vU] [] M Q
  simp only [w_il_1, w_ivs_1 (c2I _) cs0, rk_215, rvk2, List.cons_append, List.nil_append, w_if_eq, w_il_3, w_if_ne, w_fall, true_and, and_true, true_or, or_true]
  exact h
theorem b_222_1 {sx : Int → Int} {L : Nat} {x1 : Int} {x2 : Int} {x3 : Int} {x4 : Int} {x5 : Int} {M : Mem} {Q : Option AV → Mem → Prop} 
    (h : Q (some (vI (-2))) M) : Rn sx L K0 R0 222 1 [vR 106, vI x1, vI x2, vI x3, vI x4, vI x5, vU] [] M Q := by
  refine Rn_w (by decide) ?_
  show wpc sx L K0 R0 222 [(14, 2, .bipush (-2), []), (16, 1, .ireturn, [])] 0 [vR 106, vI x1, vI x2, vI x3, vI x4, vI x5, vU] [] M Q
  simp only [w_bipush, w_ret1 rk_222, true_and, and_true, true_or, or_true]
  exact h
theorem b_222_2 {sx : Int → Int} {L : Nat} {x1 : Int} {x2 : Int} {x3 : Int} {x4 : Int} {x5 : Int} {M : Mem} {Q : Option AV → Mem → Prop} 
    (h : ((0 : Int) ≤ x1 ∧ x1 < (4 : Int)) ∧ ((M 139 x1 = (0 : Int) → Rn sx L K0 R0 222 3 [vR 106, vI x1, vI x2, vI x3, vI x4, vI x5, vU] [] M Q) ∧ (¬ (M 139 x1 = (0 : Int)) → ((0 : Int) ≤ x3 ∧ x3 < (4 : Int)) ∧ ((¬ M 139 x3 = (0 : Int) → Rn sx L K0 R0 222 4 [vR 106, vI x1, vI x2, vI x3, vI x4, vI x5, vU] [] M Q) ∧ (¬ (¬ M 139 x3 = (0 : Int)) → Rn sx L K0 R0 222 3 [vR 106, vI x1, vI x2, vI x3, vI x4, vI x5, vU] [] M Q))))) : Rn sx L K0 R0 222 2 [vR 106, vI x1, vI x2, vI x3, vI x4, vI x5, vU] [] M Q := by
  refine Rn_w (by decide) ?_
  show wpc sx L K0 R0 222 [(17, 1, .aload_n 0, []), (18, 3, .getfield 120, [9, 59, 1213]), (21, 1, .iload_n 1, []), (22, 1, .baload, []), (23, 3, .ifCond .eq 12, [3]), (26, 1, .aload_n 0, []), (27, 3, .getfield 120, [9, 59, 1213]), (30, 1, .iload_n 3, []), (31, 1, .baload, []), (32, 3, .ifCond .ne 9, [4])] 3 [vR 106, vI x1, vI x2, vI x3, vI x4, vI x5, vU] [] M Q
  simp only [w_al_0, w_gf_9_59, kin_T (ks_104), rs_104_59, w_il_1, w_bald, arr_T (ks_139), w_if_eq, w_il_3, w_if_ne, w_fall, true_and, and_true, true_or, or_true]
  exact h
theorem b_222_3 {sx : Int → Int} {L : Nat} {x1 : Int} {x2 : Int} {x3 : Int} {x4 : Int} {x5 : Int} {M : Mem} {Q : Option AV → Mem → Prop} 
    (h : Mq sx L K0 R0 214 [vR 106, vI 1] M (fun rv M1 => ∃ r1, rv = some (vI r1) ∧ (Q (some (vI r1)) M1))) : Rn sx L K0 R0 222 3 [vR 106, vI x1, vI x2, vI x3, vI x4, vI x5, vU] [] M Q := by
  refine Rn_w (by decide) ?_
  show wpc sx L K0 R0 222 [(35, 1, .aload_n 0, []), (36, 1, .iconst 1, []), (37, 3, .invokevirtual 355, [214, 1643, 1]), (40, 1, .ireturn, [])] 0 [vR 106, vI x1, vI x2, vI x3, vI x4, vI x5, vU] [] M Q
  simp only [w_al_0, w_iconst, w_ivv_1 (c2I _) cs0, mk_214, kin_T (ks_104), rk_214, rvk1, List.cons_append, List.nil_append, w_ret1 rk_222, true_and, and_true, true_or, or_true]
  exact h
theorem b_222_4 {sx : Int → Int} {L : Nat} {x1 : Int} {x2 : Int} {x3 : Int} {x4 : Int} {x5 : Int} {M : Mem} {Q : Option AV → Mem → Prop} 
    (h : ((0 : Int) ≤ x1 ∧ x1 < (4 : Int)) ∧ (((0 : Int) ≤ x3 ∧ x3 < (4 : Int)) ∧ ((M 140 x1 = M 140 x3 → Rn sx L K0 R0 222 5 [vR 106, vI x1, vI x2, vI x3, vI x4, vI x5, vU] [] M Q) ∧ (¬ (M 140 x1 = M 140 x3) → Mq sx L K0 R0 214 [vR 106, vI 4] M (fun rv M1 => ∃ r1, rv = some (vI r1) ∧ (Q (some (vI r1)) M1)))))) : Rn sx L K0 R0 222 4 [vR 106, vI x1, vI x2, vI x3, vI x4, vI x5, vU] [] M Q := by
  refine Rn_w (by decide) ?_
  show wpc sx L K0 R0 222 [(41, 1, .aload_n 0, []), (42, 3, .getfield 123, [9, 60, 1214]), (45, 1, .iload_n 1, []), (46, 1, .iaload, []), (47, 1, .aload_n 0, []), (48, 3, .getfield 123, [9, 60, 1214]), (51, 1, .iload_n 3, []), (52, 1, .iaload, []), (53, 3, .if_icmp .eq 9, [5]), (56, 1, .aload_n 0, []), (57, 1, .iconst 4, []), (58, 3, .invokevirtual 355, [214, 1643, 1]), (61, 1, .ireturn, [])] 0 [vR 106, vI x1, vI x2, vI x3, vI x4, vI x5, vU] [] M Q
  simp only [w_al_0, w_gf_9_60, kin_T (ks_104), rs_104_60, w_il_1, w_iald, arr_T (ks_140), w_il_3, w_ic_eq, w_iconst, w_ivv_1 (c2I _) cs0, mk_214, rk_214, rvk1, List.cons_append, List.nil_append, w_ret1 rk_222, true_and, and_true, true_or, or_true]
  exact h
theorem b_222_5 {sx : Int → Int} {L : Nat} {x1 : Int} {x2 : Int} {x3 : Int} {x4 : Int} {x5 : Int} {M : Mem} {Q : Option AV → Mem → Prop} 
    (h : (x2 < (0 : Int) → Rn sx L K0 R0 222 6 [vR 106, vI x1, vI x2, vI x3, vI x4, vI x5, vU] [] M Q) ∧ (¬ (x2 < (0 : Int)) → (x4 < (0 : Int) → Rn sx L K0 R0 222 6 [vR 106, vI x1, vI x2, vI x3, vI x4, vI x5, vU] [] M Q) ∧ (¬ (x4 < (0 : Int)) → (x5 < (0 : Int) → Rn sx L K0 R0 222 6 [vR 106, vI x1, vI x2, vI x3, vI x4, vI x5, vU] [] M Q) ∧ (¬ (x5 < (0 : Int)) → ((0 : Int) ≤ x1 ∧ x1 < (4 : Int)) ∧ (((0 : Int) < (if lAdd x2 x5 < M 141 x1 then (-1 : Int) else if lAdd x2 x5 = M 141 x1 then 0 else 1) → Rn sx L K0 R0 222 6 [vR 106, vI x1, vI x2, vI x3, vI x4, vI x5, vU] [] M Q) ∧ (¬ ((0 : Int) < (if lAdd x2 x5 < M 141 x1 then (-1 : Int) else if lAdd x2 x5 = M 141 x1 then 0 else 1)) → ((0 : Int) ≤ x3 ∧ x3 < (4 : Int)) ∧ (((if lAdd x4 x5 < M 141 x3 then (-1 : Int) else if lAdd x4 x5 = M 141 x3 then 0 else 1) ≤ (0 : Int) → Rn sx L K0 R0 222 7 [vR 106, vI x1, vI x2, vI x3, vI x4, vI x5, vU] [] M Q) ∧ (¬ ((if lAdd x4 x5 < M 141 x3 then (-1 : Int) else if lAdd x4 x5 = M 141 x3 then 0 else 1) ≤ (0 : Int)) → Rn sx L K0 R0 222 6 [vR 106, vI x1, vI x2, vI x3, vI x4, vI x5, vU] [] M Q)))))))) : Rn sx L K0 R0 222 5 [vR 106, vI x1, vI x2, vI x3, vI x4, vI x5, vU] [] M Q := by
  refine Rn_w (by decide) ?_
  show wpc sx L K0 R0 222 [(62, 1, .iload_n 2, []), (63, 3, .ifCond .lt 48, [6]), (66, 2, .iload 4, []), (68, 3, .ifCond .lt 43, [6]), (71, 2, .iload 5, []), (73, 3, .ifCond .lt 38, [6]), (76, 1, .iload_n 2, []), (77, 1, .i2l, []), (78, 2, .iload 5, []), (80, 1, .i2l, []), (81, 1, .ladd, []), (82, 1, .aload_n 0, []), (83, 3, .getfield 126, [9, 61, 1215]), (86, 1, .iload_n 1, []), (87, 1, .iaload, []), (88, 1, .i2l, []), (89, 1, .lcmp, []), (90, 3, .ifCond .gt 21, [6]), (93, 2, .iload 4, []), (95, 1, .i2l, []), (96, 2, .iload 5, []), (98, 1, .i2l, []), (99, 1, .ladd, []), (100, 1, .aload_n 0, []), (101, 3, .getfield 126, [9, 61, 1215]), (104, 1, .iload_n 3, []), (105, 1, .iaload, []), (106, 1, .i2l, []), (107, 1, .lcmp, []), (108, 3, .ifCond .le 9, [7])] 6 [vR 106, vI x1, vI x2, vI x3, vI x4, vI x5, vU] [] M Q
  simp only [w_il_2, w_if_lt, w_il_4, w_il_5, w_i2l, w_ladd, w_al_0, w_gf_9_61, kin_T (ks_104), rs_104_61, w_il_1, w_iald, arr_T (ks_141), w_lcmp, w_if_gt, w_il_3, w_if_le, w_fall, true_and, and_true, true_or, or_true]
  exact h
theorem b_222_6 {sx : Int → Int} {L : Nat} {x1 : Int} {x2 : Int} {x3 : Int} {x4 : Int} {x5 : Int} {M : Mem} {Q : Option AV → Mem → Prop} 
    (h : Mq sx L K0 R0 214 [vR 106, vI 2] M (fun rv M1 => ∃ r1, rv = some (vI r1) ∧ (Q (some (vI r1)) M1))) : Rn sx L K0 R0 222 6 [vR 106, vI x1, vI x2, vI x3, vI x4, vI x5, vU] [] M Q := by
  refine Rn_w (by decide) ?_
  show wpc sx L K0 R0 222 [(111, 1, .aload_n 0, []), (112, 1, .iconst 2, []), (113, 3, .invokevirtual 355, [214, 1643, 1]), (116, 1, .ireturn, [])] 0 [vR 106, vI x1, vI x2, vI x3, vI x4, vI x5, vU] [] M Q
  simp only [w_al_0, w_iconst, w_ivv_1 (c2I _) cs0, mk_214, kin_T (ks_104), rk_214, rvk1, List.cons_append, List.nil_append, w_ret1 rk_222, true_and, and_true, true_or, or_true]
  exact h
theorem b_222_7 {sx : Int → Int} {L : Nat} {x1 : Int} {x2 : Int} {x3 : Int} {x4 : Int} {x5 : Int} {M : Mem} {Q : Option AV → Mem → Prop} 
    (h : Rn sx L K0 R0 222 8 [vR 106, vI x1, vI x2, vI x3, vI x4, vI x5, vI 0] [] M Q) : Rn sx L K0 R0 222 7 [vR 106, vI x1, vI x2, vI x3, vI x4, vI x5, vU] [] M Q := by
  refine Rn_w (by decide) ?_
  show wpc sx L K0 R0 222 [(117, 1, .iconst 0, []), (118, 2, .istore 6, [])] 8 [vR 106, vI x1, vI x2, vI x3, vI x4, vI x5, vU] [] M Q
  simp only [w_iconst, w_is_6 (c2I _), w_fall, true_and, and_true, true_or, or_true]
  exact h
theorem b_222_8 {sx : Int → Int} {L : Nat} {x1 : Int} {x2 : Int} {x3 : Int} {x4 : Int} {x5 : Int} {x6 : Int} {M : Mem} {Q : Option AV → Mem → Prop} 
    (h : (x5 ≤ x6 → Rn sx L K0 R0 222 9 [vR 106, vI x1, vI x2, vI x3, vI x4, vI x5, vI x6] [] M Q) ∧ (¬ (x5 ≤ x6) → inR ((60 : Int) * x1) ∧ (inR (((60 : Int) * x1) + x2) ∧ (inR ((((60 : Int) * x1) + x2) + x6) ∧ (((0 : Int) ≤ (((60 : Int) * x1) + x2) + x6 ∧ (((60 : Int) * x1) + x2) + x6 < (240 : Int)) ∧ (((0 : Int) ≤ x6 ∧ x6 < (60 : Int)) ∧ (inR (x6 + 1) ∧ (Rn sx L K0 R0 222 8 [vR 106, vI x1, vI x2, vI x3, vI x4, vI x5, vI (x6 + 1)] [] (mset M 143 x6 (M 142 ((((60 : Int) * x1) + x2) + x6))) Q)))))))) : Rn sx L K0 R0 222 8 [vR 106, vI x1, vI x2, vI x3, vI x4, vI x5, vI x6] [] M Q := by
  refine Rn_w (by decide) ?_
  show wpc sx L K0 R0 222 [(120, 2, .iload 6, []), (122, 2, .iload 5, []), (124, 3, .if_icmp .ge 30, [9]), (127, 1, .aload_n 0, []), (128, 3, .getfield 132, [9, 63, 1217]), (131, 2, .iload 6, []), (133, 1, .aload_n 0, []), (134, 3, .getfield 129, [9, 62, 1216]), (137, 2, .bipush 60, []), (139, 1, .iload_n 1, []), (140, 1, .imul, []), (141, 1, .iload_n 2, []), (142, 1, .iadd, []), (143, 2, .iload 6, []), (145, 1, .iadd, []), (146, 1, .iaload, []), (147, 1, .iastore, []), (148, 3, .iinc 6 1, []), (151, 3, .goto (-31), [8])] 0 [vR 106, vI x1, vI x2, vI x3, vI x4, vI x5, vI x6] [] M Q
  simp only [w_il_6, w_il_5, w_ic_ge, w_al_0, w_gf_9_63, kin_T (ks_104), rs_104_63, w_gf_9_62, rs_104_62, w_bipush, w_il_1, w_imul, w_il_2, w_iadd, w_iald, arr_T (ks_142), w_iast, arr_T (ks_143), w_inc_6 (c2I _), w_goto, true_and, and_true, true_or, or_true]
  exact h
theorem b_222_9 {sx : Int → Int} {L : Nat} {x1 : Int} {x2 : Int} {x3 : Int} {x4 : Int} {x5 : Int} {x6 : Int} {M : Mem} {Q : Option AV → Mem → Prop} 
    (h : Rn sx L K0 R0 222 10 [vR 106, vI x1, vI x2, vI x3, vI x4, vI x5, vI 0] [] M Q) : Rn sx L K0 R0 222 9 [vR 106, vI x1, vI x2, vI x3, vI x4, vI x5, vI x6] [] M Q := by
  refine Rn_w (by decide) ?_
  show wpc sx L K0 R0 222 [(154, 1, .iconst 0, []), (155, 2, .istore 6, [])] 10 [vR 106, vI x1, vI x2, vI x3, vI x4, vI x5, vI x6] [] M Q
  simp only [w_iconst, w_is_6 (c2I _), w_fall, true_and, and_true, true_or, or_true]
  exact h
theorem b_222_10 {sx : Int → Int} {L : Nat} {x1 : Int} {x2 : Int} {x3 : Int} {x4 : Int} {x5 : Int} {x6 : Int} {M : Mem} {Q : Option AV → Mem → Prop} 
    (h : (x5 ≤ x6 → Rn sx L K0 R0 222 11 [vR 106, vI x1, vI x2, vI x3, vI x4, vI x5, vI x6] [] M Q) ∧ (¬ (x5 ≤ x6) → inR ((60 : Int) * x3) ∧ (inR (((60 : Int) * x3) + x4) ∧ (inR ((((60 : Int) * x3) + x4) + x6) ∧ (((0 : Int) ≤ x6 ∧ x6 < (60 : Int)) ∧ (((0 : Int) ≤ (((60 : Int) * x3) + x4) + x6 ∧ (((60 : Int) * x3) + x4) + x6 < (240 : Int)) ∧ (inR (x6 + 1) ∧ (Rn sx L K0 R0 222 10 [vR 106, vI x1, vI x2, vI x3, vI x4, vI x5, vI (x6 + 1)] [] (mset M 142 ((((60 : Int) * x3) + x4) + x6) (M 143 x6)) Q)))))))) : Rn sx L K0 R0 222 10 [vR 106, vI x1, vI x2, vI x3, vI x4, vI x5, vI x6] [] M Q := by
  refine Rn_w (by decide) ?_
  show wpc sx L K0 R0 222 [(157, 2, .iload 6, []), (159, 2, .iload 5, []), (161, 3, .if_icmp .ge 31, [11]), (164, 1, .aload_n 0, []), (165, 3, .getfield 129, [9, 62, 1216]), (168, 2, .bipush 60, []), (170, 1, .iload_n 3, []), (171, 1, .imul, []), (172, 2, .iload 4, []), (174, 1, .iadd, []), (175, 2, .iload 6, []), (177, 1, .iadd, []), (178, 1, .aload_n 0, []), (179, 3, .getfield 132, [9, 63, 1217]), (182, 2, .iload 6, []), (184, 1, .iaload, []), (185, 1, .iastore, []), (186, 3, .iinc 6 1, []), (189, 3, .goto (-32), [10])] 0 [vR 106, vI x1, vI x2, vI x3, vI x4, vI x5, vI x6] [] M Q
  simp only [w_il_6, w_il_5, w_ic_ge, w_al_0, w_gf_9_62, kin_T (ks_104), rs_104_62, w_bipush, w_il_3, w_imul, w_il_4, w_iadd, w_gf_9_63, rs_104_63, w_iald, arr_T (ks_143), w_iast, arr_T (ks_142), w_inc_6 (c2I _), w_goto, true_and, and_true, true_or, or_true]
  exact h
theorem b_222_11 {sx : Int → Int} {L : Nat} {x1 : Int} {x2 : Int} {x3 : Int} {x4 : Int} {x5 : Int} {x6 : Int} {M : Mem} {Q : Option AV → Mem → Prop} 
    (h : Q (some (vI 1)) M) : Rn sx L K0 R0 222 11 [vR 106, vI x1, vI x2, vI x3, vI x4, vI x5, vI x6] [] M Q := by
  refine Rn_w (by decide) ?_
  show wpc sx L K0 R0 222 [(192, 1, .iconst 1, []), (193, 1, .ireturn, [])] 0 [vR 106, vI x1, vI x2, vI x3, vI x4, vI x5, vI x6] [] M Q
  simp only [w_iconst, w_ret1 rk_222, true_and, and_true, true_or, or_true]
  exact h
theorem b_223_0 {sx : Int → Int} {L : Nat} {x1 : Int} {M : Mem} {Q : Option AV → Mem → Prop} 
    (h : Mq sx L K0 R0 215 [vI x1] M (fun rv M1 => ∃ r1, rv = some (vI r1) ∧ ((¬ r1 = (0 : Int) → Rn sx L K0 R0 223 1 [vR 106, vI x1, vU] [] M1 Q) ∧ (¬ (¬ r1 = (0 : Int)) → Q (some (vI (-2))) M1)))) : Rn sx L K0 R0 223 0 [vR 106, vI x1, vU] [] M Q := by
  refine Rn_w (by decide) ?_
  show wpc sx L K0 R0 223 [(0, 1, .iload_n 1, []), (1, 3, .invokestatic 352, [215, 1640, 1]), (4, 3, .ifCond .ne 6, [1]), (7, 2, .bipush (-2), []), (9, 1, .ireturn, [])] 0 [vR 106, vI x1, vU] [] M Q
  simp only [w_il_1, w_ivs_1 (c2I _) cs0, rk_215, rvk2, List.cons_append, List.nil_append, w_if_ne, w_bipush, w_ret1 rk_223, true_and, and_true, true_or, or_true]
  exact h
theorem b_223_1 {sx : Int → Int} {L : Nat} {x1 : Int} {M : Mem} {Q : Option AV → Mem → Prop} 
    (h : ((0 : Int) ≤ x1 ∧ x1 < (4 : Int)) ∧ ((¬ M 139 x1 = (0 : Int) → Rn sx L K0 R0 223 2 [vR 106, vI x1, vU] [] M Q) ∧ (¬ (¬ M 139 x1 = (0 : Int)) → Mq sx L K0 R0 214 [vR 106, vI 1] M (fun rv M1 => ∃ r1, rv = some (vI r1) ∧ (Q (some (vI r1)) M1))))) : Rn sx L K0 R0 223 1 [vR 106, vI x1, vU] [] M Q := by
  refine Rn_w (by decide) ?_
  show wpc sx L K0 R0 223 [(10, 1, .aload_n 0, []), (11, 3, .getfield 120, [9, 59, 1213]), (14, 1, .iload_n 1, []), (15, 1, .baload, []), (16, 3, .ifCond .ne 9, [2]), (19, 1, .aload_n 0, []), (20, 1, .iconst 1, []), (21, 3, .invokevirtual 355, [214, 1643, 1]), (24, 1, .ireturn, [])] 0 [vR 106, vI x1, vU] [] M Q
  simp only [w_al_0, w_gf_9_59, kin_T (ks_104), rs_104_59, w_il_1, w_bald, arr_T (ks_139), w_if_ne, w_iconst, w_ivv_1 (c2I _) cs0, mk_214, rk_214, rvk1, List.cons_append, List.nil_append, w_ret1 rk_223, true_and, and_true, true_or, or_true]
  exact h
theorem b_223_2 {sx : Int → Int} {L : Nat} {x1 : Int} {M : Mem} {Q : Option AV → Mem → Prop} 
    (h : Mq sx L K0 R0 181 [vR 106] M (fun rv M1 => rv = none ∧ (Rn sx L K0 R0 223 3 [vR 106, vI x1, vI 0] [] M1 Q))) : Rn sx L K0 R0 223 2 [vR 106, vI x1, vU] [] M Q := by
  refine Rn_w (by decide) ?_
  show wpc sx L K0 R0 223 [(25, 1, .aload_n 0, []), (26, 3, .invokevirtual 298, [181, 1437, 0]), (29, 1, .iconst 0, []), (30, 1, .istore_n 2, [])] 3 [vR 106, vI x1, vU] [] M Q
  simp only [w_al_0, w_ivv_0  cs0, mk_181, kin_T (ks_104), rk_181, rvk0, List.nil_append, w_iconst, w_is_2 (c2I _), w_fall, true_and, and_true, true_or, or_true]
  exact h
theorem b_223_3 {sx : Int → Int} {L : Nat} {x1 : Int} {x2 : Int} {M : Mem} {Q : Option AV → Mem → Prop} 
    (h : (M 104 25 ≤ x2 → Rn sx L K0 R0 223 4 [vR 106, vI x1, vI x2] [] M Q) ∧ (¬ (M 104 25 ≤ x2) → ((0 : Int) ≤ x1 ∧ x1 < (4 : Int)) ∧ ((M 141 x1 ≤ x2 → Rn sx L K0 R0 223 4 [vR 106, vI x1, vI x2] [] M Q) ∧ (¬ (M 141 x1 ≤ x2) → inR ((3 : Int) * x2) ∧ (((0 : Int) ≤ (3 : Int) * x2 ∧ (3 : Int) * x2 < (600 : Int)) ∧ (Mq sx L K0 R0 219 [vR 106, vI x1, vI x2, vI (M 135 ((3 : Int) * x2))] M (fun rv M1 => rv = none ∧ (inR (x2 + 1) ∧ (Rn sx L K0 R0 223 3 [vR 106, vI x1, vI (x2 + 1)] [] M1 Q))))))))) : Rn sx L K0 R0 223 3 [vR 106, vI x1, vI x2] [] M Q := by
  refine Rn_w (by decide) ?_
  show wpc sx L K0 R0 223 [(31, 1, .iload_n 2, []), (32, 1, .aload_n 0, []), (33, 3, .getfield 62, [9, 25, 1179]), (36, 3, .if_icmp .ge 33, [4]), (39, 1, .iload_n 2, []), (40, 1, .aload_n 0, []), (41, 3, .getfield 126, [9, 61, 1215]), (44, 1, .iload_n 1, []), (45, 1, .iaload, []), (46, 3, .if_icmp .ge 23, [4]), (49, 1, .aload_n 0, []), (50, 1, .iload_n 1, []), (51, 1, .iload_n 2, []), (52, 1, .aload_n 0, []), (53, 3, .getfield 108, [9, 47, 1201]), (56, 1, .iconst 3, []), (57, 1, .iload_n 2, []), (58, 1, .imul, []), (59, 1, .iaload, []), (60, 3, .invokevirtual 390, [219, 1679, 3]), (63, 3, .iinc 2 1, []), (66, 3, .goto (-35), [3])] 0 [vR 106, vI x1, vI x2] [] M Q
  simp only [w_il_2, w_al_0, w_gf_9_25, kin_T (ks_104), w_ic_ge, w_gf_9_61, rs_104_61, w_il_1, w_iald, arr_T (ks_141), w_gf_9_47, rs_104_47, w_iconst, w_imul, arr_T (ks_135), w_ivv_3 (c2I _) (c2I _) (c2I _) cs0, mk_219, rk_219, rvk0, List.nil_append, w_inc_2 (c2I _), w_goto, true_and, and_true, true_or, or_true]
  exact h
theorem b_223_4 {sx : Int → Int} {L : Nat} {x1 : Int} {x2 : Int} {M : Mem} {Q : Option AV → Mem → Prop} 
    (h : Q (some (vI x2)) M) : Rn sx L K0 R0 223 4 [vR 106, vI x1, vI x2] [] M Q := by
  refine Rn_w (by decide) ?_
  show wpc sx L K0 R0 223 [(69, 1, .iload_n 2, []), (70, 1, .ireturn, [])] 0 [vR 106, vI x1, vI x2] [] M Q
  simp only [w_il_2, w_ret1 rk_223, true_and, and_true, true_or, or_true]
  exact h
theorem b_224_0 {sx : Int → Int} {L : Nat} {x1 : Int} {M : Mem} {Q : Option AV → Mem → Prop} 
    (h : (x1 < 0 ∨ 8 < x1 → Rn sx L K0 R0 224 10 [vR 106, vI x1] [] M Q) ∧ (x1 = 0 → Rn sx L K0 R0 224 1 [vR 106, vI x1] [] M Q) ∧ (x1 = 1 → Rn sx L K0 R0 224 2 [vR 106, vI x1] [] M Q) ∧ (x1 = 2 → Rn sx L K0 R0 224 3 [vR 106, vI x1] [] M Q) ∧ (x1 = 3 → Rn sx L K0 R0 224 4 [vR 106, vI x1] [] M Q) ∧ (x1 = 4 → Rn sx L K0 R0 224 5 [vR 106, vI x1] [] M Q) ∧ (x1 = 5 → Rn sx L K0 R0 224 6 [vR 106, vI x1] [] M Q) ∧ (x1 = 6 → Rn sx L K0 R0 224 7 [vR 106, vI x1] [] M Q) ∧ (x1 = 7 → Rn sx L K0 R0 224 8 [vR 106, vI x1] [] M Q) ∧ (x1 = 8 → Rn sx L K0 R0 224 9 [vR 106, vI x1] [] M Q)) : Rn sx L K0 R0 224 0 [vR 106, vI x1] [] M Q := by
  refine Rn_w (by decide) ?_
  show wpc sx L K0 R0 224 [(0, 1, .iload_n 1, []), (1, 51, .tableswitch 149 0 8 #[51, 56, 61, 119, 124, 129, 134, 139, 144], [10, 1, 2, 3, 4, 5, 6, 7, 8, 9])] 0 [vR 106, vI x1] [] M Q
  simp only [w_il_1, w_tsw, swt, true_and, and_true, true_or, or_true]
  exact h
theorem b_224_1 {sx : Int → Int} {L : Nat} {x1 : Int} {M : Mem} {Q : Option AV → Mem → Prop} 
    (h : Q (some (vI (M 104 0))) M) : Rn sx L K0 R0 224 1 [vR 106, vI x1] [] M Q := by
  refine Rn_w (by decide) ?_
  show wpc sx L K0 R0 224 [(52, 1, .aload_n 0, []), (53, 3, .getfield 139, [9, 0, 1154]), (56, 1, .ireturn, [])] 0 [vR 106, vI x1] [] M Q
  simp only [w_al_0, w_gf_9_0, kin_T (ks_104), w_ret1 rk_224, true_and, and_true, true_or, or_true]
  exact h
theorem b_224_2 {sx : Int → Int} {L : Nat} {x1 : Int} {M : Mem} {Q : Option AV → Mem → Prop} 
    (h : Mq sx L K0 R0 154 [vR 106] M (fun rv M1 => ∃ r1, rv = some (vI r1) ∧ (Q (some (vI r1)) M1))) : Rn sx L K0 R0 224 2 [vR 106, vI x1] [] M Q := by
  refine Rn_w (by decide) ?_
  show wpc sx L K0 R0 224 [(57, 1, .aload_n 0, []), (58, 3, .invokevirtual 196, [154, 1417, 0]), (61, 1, .ireturn, [])] 0 [vR 106, vI x1] [] M Q
  simp only [w_al_0, w_ivv_0  cs0, mk_154, kin_T (ks_104), rk_154, rvk1, List.cons_append, List.nil_append, w_ret1 rk_224, true_and, and_true, true_or, or_true]
  exact h
theorem b_224_3 {sx : Int → Int} {L : Nat} {x1 : Int} {M : Mem} {Q : Option AV → Mem → Prop} 
    (h : ((0 : Int) ≤ (0 : Int) ∧ (0 : Int) < (8 : Int)) ∧ (((0 : Int) ≤ (1 : Int) ∧ (1 : Int) < (8 : Int)) ∧ (inR ((M 109 0) + (M 109 1)) ∧ (((0 : Int) ≤ (2 : Int) ∧ (2 : Int) < (8 : Int)) ∧ (inR (((M 109 0) + (M 109 1)) + (M 109 2)) ∧ (((0 : Int) ≤ (3 : Int) ∧ (3 : Int) < (8 : Int)) ∧ (inR ((((M 109 0) + (M 109 1)) + (M 109 2)) + (M 109 3)) ∧ (((0 : Int) ≤ (4 : Int) ∧ (4 : Int) < (8 : Int)) ∧ (inR (((((M 109 0) + (M 109 1)) + (M 109 2)) + (M 109 3)) + (M 109 4)) ∧ (((0 : Int) ≤ (5 : Int) ∧ (5 : Int) < (8 : Int)) ∧ (inR ((((((M 109 0) + (M 109 1)) + (M 109 2)) + (M 109 3)) + (M 109 4)) + (M 109 5)) ∧ (((0 : Int) ≤ (6 : Int) ∧ (6 : Int) < (8 : Int)) ∧ (inR (((((((M 109 0) + (M 109 1)) + (M 109 2)) + (M 109 3)) + (M 109 4)) + (M 109 5)) + (M 109 6)) ∧ (((0 : Int) ≤ (7 : Int) ∧ (7 : Int) < (8 : Int)) ∧ (inR ((((((((M 109 0) + (M 109 1)) + (M 109 2)) + (M 109 3)) + (M 109 4)) + (M 109 5)) + (M 109 6)) + (M 109 7)) ∧ (Q (some (vI ((((((((M 109 0) + (M 109 1)) + (M 109 2)) + (M 109 3)) + (M 109 4)) + (M 109 5)) + (M 109 6)) + (M 109 7)))) M)))))))))))))))) : Rn sx L K0 R0 224 3 [vR 106, vI x1] [] M Q := by
  refine Rn_w (by decide) ?_
  show wpc sx L K0 R0 224 [(62, 1, .aload_n 0, []), (63, 3, .getfield 22, [9, 5, 1159]), (66, 1, .iconst 0, []), (67, 1, .iaload, []), (68, 1, .aload_n 0, []), (69, 3, .getfield 22, [9, 5, 1159]), (72, 1, .iconst 1, []), (73, 1, .iaload, []), (74, 1, .iadd, []), (75, 1, .aload_n 0, []), (76, 3, .getfield 22, [9, 5, 1159]), (79, 1, .iconst 2, []), (80, 1, .iaload, []), (81, 1, .iadd, []), (82, 1, .aload_n 0, []), (83, 3, .getfield 22, [9, 5, 1159]), (86, 1, .iconst 3, []), (87, 1, .iaload, []), (88, 1, .iadd, []), (89, 1, .aload_n 0, []), (90, 3, .getfield 22, [9, 5, 1159]), (93, 1, .iconst 4, []), (94, 1, .iaload, []), (95, 1, .iadd, []), (96, 1, .aload_n 0, []), (97, 3, .getfield 22, [9, 5, 1159]), (100, 1, .iconst 5, []), (101, 1, .iaload, []), (102, 1, .iadd, []), (103, 1, .aload_n 0, []), (104, 3, .getfield 22, [9, 5, 1159]), (107, 2, .bipush 6, []), (109, 1, .iaload, []), (110, 1, .iadd, []), (111, 1, .aload_n 0, []), (112, 3, .getfield 22, [9, 5, 1159]), (115, 2, .bipush 7, []), (117, 1, .iaload, []), (118, 1, .iadd, []), (119, 1, .ireturn, [])] 0 [vR 106, vI x1] [] M Q
  simp only [w_al_0, w_gf_9_5, kin_T (ks_104), rs_104_5, w_iconst, w_iald, arr_T (ks_109), w_iadd, w_bipush, w_ret1 rk_224, true_and, and_true, true_or, or_true]
  exact h
theorem b_224_4 {sx : Int → Int} {L : Nat} {x1 : Int} {M : Mem} {Q : Option AV → Mem → Prop} 
    (h : Q (some (vI (M 104 9))) M) : Rn sx L K0 R0 224 4 [vR 106, vI x1] [] M Q := by
  refine Rn_w (by decide) ?_
  show wpc sx L K0 R0 224 [(120, 1, .aload_n 0, []), (121, 3, .getfield 193, [9, 9, 1163]), (124, 1, .ireturn, [])] 0 [vR 106, vI x1] [] M Q
  simp only [w_al_0, w_gf_9_9, kin_T (ks_104), w_ret1 rk_224, true_and, and_true, true_or, or_true]
  exact h
theorem b_224_5 {sx : Int → Int} {L : Nat} {x1 : Int} {M : Mem} {Q : Option AV → Mem → Prop} 
    (h : Q (some (vI (M 104 22))) M) : Rn sx L K0 R0 224 5 [vR 106, vI x1] [] M Q := by
  refine Rn_w (by decide) ?_
  show wpc sx L K0 R0 224 [(125, 1, .aload_n 0, []), (126, 3, .getfield 199, [9, 22, 1176]), (129, 1, .ireturn, [])] 0 [vR 106, vI x1] [] M Q
  simp only [w_al_0, w_gf_9_22, kin_T (ks_104), w_ret1 rk_224, true_and, and_true, true_or, or_true]
  exact h
theorem b_224_6 {sx : Int → Int} {L : Nat} {x1 : Int} {M : Mem} {Q : Option AV → Mem → Prop} 
    (h : Q (some (vI (M 104 23))) M) : Rn sx L K0 R0 224 6 [vR 106, vI x1] [] M Q := by
  refine Rn_w (by decide) ?_
  show wpc sx L K0 R0 224 [(130, 1, .aload_n 0, []), (131, 3, .getfield 202, [9, 23, 1177]), (134, 1, .ireturn, [])] 0 [vR 106, vI x1] [] M Q
  simp only [w_al_0, w_gf_9_23, kin_T (ks_104), w_ret1 rk_224, true_and, and_true, true_or, or_true]
  exact h
theorem b_224_7 {sx : Int → Int} {L : Nat} {x1 : Int} {M : Mem} {Q : Option AV → Mem → Prop} 
    (h : Q (some (vI (M 104 24))) M) : Rn sx L K0 R0 224 7 [vR 106, vI x1] [] M Q := by
  refine Rn_w (by decide) ?_
  show wpc sx L K0 R0 224 [(135, 1, .aload_n 0, []), (136, 3, .getfield 58, [9, 24, 1178]), (139, 1, .ireturn, [])] 0 [vR 106, vI x1] [] M Q
  simp only [w_al_0, w_gf_9_24, kin_T (ks_104), w_ret1 rk_224, true_and, and_true, true_or, or_true]
  exact h
theorem b_224_8 {sx : Int → Int} {L : Nat} {x1 : Int} {M : Mem} {Q : Option AV → Mem → Prop} 
    (h : Q (some (vI (M 104 25))) M) : Rn sx L K0 R0 224 8 [vR 106, vI x1] [] M Q := by
  refine Rn_w (by decide) ?_
  show wpc sx L K0 R0 224 [(140, 1, .aload_n 0, []), (141, 3, .getfield 62, [9, 25, 1179]), (144, 1, .ireturn, [])] 0 [vR 106, vI x1] [] M Q
  simp only [w_al_0, w_gf_9_25, kin_T (ks_104), w_ret1 rk_224, true_and, and_true, true_or, or_true]
  exact h
theorem b_224_9 {sx : Int → Int} {L : Nat} {x1 : Int} {M : Mem} {Q : Option AV → Mem → Prop} 
    (h : Q (some (vI (M 104 64))) M) : Rn sx L K0 R0 224 9 [vR 106, vI x1] [] M Q := by
  refine Rn_w (by decide) ?_
  show wpc sx L K0 R0 224 [(145, 1, .aload_n 0, []), (146, 3, .getfield 384, [9, 64, 1218]), (149, 1, .ireturn, [])] 0 [vR 106, vI x1] [] M Q
  simp only [w_al_0, w_gf_9_64, kin_T (ks_104), w_ret1 rk_224, true_and, and_true, true_or, or_true]
  exact h
theorem b_224_10 {sx : Int → Int} {L : Nat} {x1 : Int} {M : Mem} {Q : Option AV → Mem → Prop} 
    (h : Q (some (vI (-2))) M) : Rn sx L K0 R0 224 10 [vR 106, vI x1] [] M Q := by
  refine Rn_w (by decide) ?_
  show wpc sx L K0 R0 224 [(150, 2, .bipush (-2), []), (152, 1, .ireturn, [])] 0 [vR 106, vI x1] [] M Q
  simp only [w_bipush, w_ret1 rk_224, true_and, and_true, true_or, or_true]
  exact h
theorem b_225_0 {sx : Int → Int} {L : Nat}  {M : Mem} {Q : Option AV → Mem → Prop} 
    (h : Rn sx L K0 R0 225 1 [vR 106, vL 17, vU, vI 0, vU] [] M Q) : Rn sx L K0 R0 225 0 [vR 106, vU, vU, vU, vU] [] M Q := by
  refine Rn_w (by decide) ?_
  show wpc sx L K0 R0 225 [(0, 3, .ldc2_w 395, [17, 1704]), (3, 1, .lstore_n 1, []), (4, 1, .iconst 0, []), (5, 1, .istore_n 3, [])] 1 [vR 106, vU, vU, vU, vU] [] M Q
  simp only [w_ldc2_17, w_ls_1 (c2R _) c2U, w_iconst, w_is_3 c2U, w_fall, true_and, and_true, true_or, or_true]
  exact h
theorem b_225_1 {sx : Int → Int} {L : Nat} {l1 : Int} {x3 : Int} {M : Mem} {Q : Option AV → Mem → Prop} 
    (h : ((8 : Int) ≤ x3 → Rn sx L K0 R0 225 2 [vR 106, vL l1, vU, vI x3, vU] [] M Q) ∧ (¬ ((8 : Int) ≤ x3) → Mq sx L K0 R0 224 [vR 106, vI x3] M (fun rv M1 => ∃ r1, rv = some (vI r1) ∧ (inR (x3 + 1) ∧ (Rn sx L K0 R0 225 1 [vR 106, vL (lAdd (lMul 31 l1) r1), vU, vI (x3 + 1), vU] [] M1 Q))))) : Rn sx L K0 R0 225 1 [vR 106, vL l1, vU, vI x3, vU] [] M Q := by
  refine Rn_w (by decide) ?_
  show wpc sx L K0 R0 225 [(6, 1, .iload_n 3, []), (7, 2, .bipush 8, []), (9, 3, .if_icmp .ge 22, [2]), (12, 3, .ldc2_w 397, [31, 1705]), (15, 1, .lload_n 1, []), (16, 1, .lmul, []), (17, 1, .aload_n 0, []), (18, 1, .iload_n 3, []), (19, 3, .invokevirtual 399, [224, 1706, 1]), (22, 1, .i2l, []), (23, 1, .ladd, []), (24, 1, .lstore_n 1, []), (25, 3, .iinc 3 1, []), (28, 3, .goto (-22), [1])] 0 [vR 106, vL l1, vU, vI x3, vU] [] M Q
  simp only [w_il_3, w_bipush, w_ic_ge, w_ldc2_31, w_ll_1, w_lmul, w_al_0, w_ivv_1 (c2I _) (cs1 _), mk_224, kin_T (ks_104), rk_224, rvk1, List.cons_append, List.nil_append, w_i2l, w_ladd, w_ls_1 (c2R _) c2U, w_inc_3 c2U, w_goto, true_and, and_true, true_or, or_true]
  exact h
theorem b_225_2 {sx : Int → Int} {L : Nat} {l1 : Int} {x3 : Int} {M : Mem} {Q : Option AV → Mem → Prop} 
    (h : Mq sx L K0 R0 181 [vR 106] M (fun rv M1 => rv = none ∧ (Rn sx L K0 R0 225 3 [vR 106, vL l1, vU, vI 0, vU] [] M1 Q))) : Rn sx L K0 R0 225 2 [vR 106, vL l1, vU, vI x3, vU] [] M Q := by
  refine Rn_w (by decide) ?_
  show wpc sx L K0 R0 225 [(31, 1, .aload_n 0, []), (32, 3, .invokevirtual 298, [181, 1437, 0]), (35, 1, .iconst 0, []), (36, 1, .istore_n 3, [])] 3 [vR 106, vL l1, vU, vI x3, vU] [] M Q
  simp only [w_al_0, w_ivv_0  cs0, mk_181, kin_T (ks_104), rk_181, rvk0, List.nil_append, w_iconst, w_is_3 c2U, w_fall, true_and, and_true, true_or, or_true]
  exact h
theorem b_225_3 {sx : Int → Int} {L : Nat} {l1 : Int} {x3 : Int} {u4 : AV} {M : Mem} {Q : Option AV → Mem → Prop} (hu4 : cat2 u4 = false)
    (h : ((8 : Int) ≤ x3 → Rn sx L K0 R0 225 6 [vR 106, vL l1, vU, vI x3, u4] [] M Q) ∧ (¬ ((8 : Int) ≤ x3) → ((0 : Int) ≤ x3 ∧ x3 < (8 : Int)) ∧ (Rn sx L K0 R0 225 4 [vR 106, vL (lAdd (lMul 31 l1) (M 113 x3)), vU, vI x3, vI 0] [] M Q))) : Rn sx L K0 R0 225 3 [vR 106, vL l1, vU, vI x3, u4] [] M Q := by
  refine Rn_w (by decide) ?_
  show wpc sx L K0 R0 225 [(37, 1, .iload_n 3, []), (38, 2, .bipush 8, []), (40, 3, .if_icmp .ge 54, [6]), (43, 3, .ldc2_w 397, [31, 1705]), (46, 1, .lload_n 1, []), (47, 1, .lmul, []), (48, 1, .aload_n 0, []), (49, 3, .getfield 34, [9, 11, 1165]), (52, 1, .iload_n 3, []), (53, 1, .iaload, []), (54, 1, .i2l, []), (55, 1, .ladd, []), (56, 1, .lstore_n 1, []), (57, 1, .iconst 0, []), (58, 2, .istore 4, [])] 4 [vR 106, vL l1, vU, vI x3, u4] [] M Q
  simp only [w_il_3, w_bipush, w_ic_ge, w_ldc2_31, w_ll_1, w_lmul, w_al_0, w_gf_9_11, kin_T (ks_104), rs_104_11, w_iald, arr_T (ks_113), w_i2l, w_ladd, w_ls_1 (c2R _) c2U, w_iconst, w_is_4 (c2I _), w_fall, true_and, and_true, true_or, or_true]
  exact h
theorem b_225_4 {sx : Int → Int} {L : Nat} {l1 : Int} {x3 : Int} {x4 : Int} {M : Mem} {Q : Option AV → Mem → Prop} 
    (h : ((7 : Int) ≤ x4 → Rn sx L K0 R0 225 5 [vR 106, vL l1, vU, vI x3, vI x4] [] M Q) ∧ (¬ ((7 : Int) ≤ x4) → Mq sx L K0 R0 189 [vR 106, vI x3, vI x4] M (fun rv M1 => ∃ r1, rv = some (vI r1) ∧ (inR (x4 + 1) ∧ (Rn sx L K0 R0 225 4 [vR 106, vL (lAdd (lMul 31 l1) r1), vU, vI x3, vI (x4 + 1)] [] M1 Q))))) : Rn sx L K0 R0 225 4 [vR 106, vL l1, vU, vI x3, vI x4] [] M Q := by
  refine Rn_w (by decide) ?_
  show wpc sx L K0 R0 225 [(60, 2, .iload 4, []), (62, 2, .bipush 7, []), (64, 3, .if_icmp .ge 24, [5]), (67, 3, .ldc2_w 397, [31, 1705]), (70, 1, .lload_n 1, []), (71, 1, .lmul, []), (72, 1, .aload_n 0, []), (73, 1, .iload_n 3, []), (74, 2, .iload 4, []), (76, 3, .invokevirtual 313, [189, 1533, 2]), (79, 1, .i2l, []), (80, 1, .ladd, []), (81, 1, .lstore_n 1, []), (82, 3, .iinc 4 1, []), (85, 3, .goto (-25), [4])] 0 [vR 106, vL l1, vU, vI x3, vI x4] [] M Q
  simp only [w_il_4, w_bipush, w_ic_ge, w_ldc2_31, w_ll_1, w_lmul, w_al_0, w_il_3, w_ivv_2 (c2I _) (c2I _) (cs1 _), mk_189, kin_T (ks_104), rk_189, rvk1, List.cons_append, List.nil_append, w_i2l, w_ladd, w_ls_1 (c2R _) c2U, w_inc_4 (c2I _), w_goto, true_and, and_true, true_or, or_true]
  exact h
theorem b_225_5 {sx : Int → Int} {L : Nat} {l1 : Int} {x3 : Int} {x4 : Int} {M : Mem} {Q : Option AV → Mem → Prop} 
    (h : inR (x3 + 1) ∧ (Rn sx L K0 R0 225 3 [vR 106, vL l1, vU, vI (x3 + 1), vI x4] [] M Q)) : Rn sx L K0 R0 225 5 [vR 106, vL l1, vU, vI x3, vI x4] [] M Q := by
  refine Rn_w (by decide) ?_
  show wpc sx L K0 R0 225 [(88, 3, .iinc 3 1, []), (91, 3, .goto (-54), [3])] 0 [vR 106, vL l1, vU, vI x3, vI x4] [] M Q
  simp only [w_inc_3 c2U, w_goto, true_and, and_true, true_or, or_true]
  exact h
theorem b_225_6 {sx : Int → Int} {L : Nat} {l1 : Int} {x3 : Int} {u4 : AV} {M : Mem} {Q : Option AV → Mem → Prop} (hu4 : cat2 u4 = false)
    (h : Rn sx L K0 R0 225 7 [vR 106, vL l1, vU, vI 0, u4] [] M Q) : Rn sx L K0 R0 225 6 [vR 106, vL l1, vU, vI x3, u4] [] M Q := by
  refine Rn_w (by decide) ?_
  show wpc sx L K0 R0 225 [(94, 1, .iconst 0, []), (95, 1, .istore_n 3, [])] 7 [vR 106, vL l1, vU, vI x3, u4] [] M Q
  simp only [w_iconst, w_is_3 c2U, w_fall, true_and, and_true, true_or, or_true]
  exact h
theorem b_225_7 {sx : Int → Int} {L : Nat} {l1 : Int} {x3 : Int} {u4 : AV} {M : Mem} {Q : Option AV → Mem → Prop} (hu4 : cat2 u4 = false)
    (h : (M 104 25 ≤ x3 → Rn sx L K0 R0 225 8 [vR 106, vL l1, vU, vI x3, u4] [] M Q) ∧ (¬ (M 104 25 ≤ x3) → inR ((3 : Int) * x3) ∧ (((0 : Int) ≤ (3 : Int) * x3 ∧ (3 : Int) * x3 < (600 : Int)) ∧ (inR (x3 + 1) ∧ (Rn sx L K0 R0 225 7 [vR 106, vL (lAdd (lMul 31 l1) (M 135 ((3 : Int) * x3))), vU, vI (x3 + 1), u4] [] M Q))))) : Rn sx L K0 R0 225 7 [vR 106, vL l1, vU, vI x3, u4] [] M Q := by
  refine Rn_w (by decide) ?_
  show wpc sx L K0 R0 225 [(96, 1, .iload_n 3, []), (97, 1, .aload_n 0, []), (98, 3, .getfield 62, [9, 25, 1179]), (101, 3, .if_icmp .ge 25, [8]), (104, 3, .ldc2_w 397, [31, 1705]), (107, 1, .lload_n 1, []), (108, 1, .lmul, []), (109, 1, .aload_n 0, []), (110, 3, .getfield 108, [9, 47, 1201]), (113, 1, .iconst 3, []), (114, 1, .iload_n 3, []), (115, 1, .imul, []), (116, 1, .iaload, []), (117, 1, .i2l, []), (118, 1, .ladd, []), (119, 1, .lstore_n 1, []), (120, 3, .iinc 3 1, []), (123, 3, .goto (-27), [7])] 0 [vR 106, vL l1, vU, vI x3, u4] [] M Q
  simp only [w_il_3, w_al_0, w_gf_9_25, kin_T (ks_104), w_ic_ge, w_ldc2_31, w_ll_1, w_lmul, w_gf_9_47, rs_104_47, w_iconst, w_imul, w_iald, arr_T (ks_135), w_i2l, w_ladd, w_ls_1 (c2R _) c2U, w_inc_3 c2U, w_goto, true_and, and_true, true_or, or_true]
  exact h
theorem b_225_8 {sx : Int → Int} {L : Nat} {l1 : Int} {x3 : Int} {u4 : AV} {M : Mem} {Q : Option AV → Mem → Prop} (hu4 : cat2 u4 = false)
    (h : Mq sx L K0 R0 180 [vR 106] M (fun rv M1 => ∃ r1, rv = some (vI r1) ∧ (Q (some (vL (lAdd (lMul 31 (lAdd (lMul 31 (lAdd (lMul 31 l1) r1)) (M1 104 49))) (M1 104 50)))) M1))) : Rn sx L K0 R0 225 8 [vR 106, vL l1, vU, vI x3, u4] [] M Q := by
  refine Rn_w (by decide) ?_
  show wpc sx L K0 R0 225 [(126, 3, .ldc2_w 397, [31, 1705]), (129, 1, .lload_n 1, []), (130, 1, .lmul, []), (131, 1, .aload_n 0, []), (132, 3, .invokevirtual 316, [180, 1561, 0]), (135, 1, .i2l, []), (136, 1, .ladd, []), (137, 1, .lstore_n 1, []), (138, 3, .ldc2_w 397, [31, 1705]), (141, 1, .lload_n 1, []), (142, 1, .lmul, []), (143, 1, .aload_n 0, []), (144, 3, .getfield 217, [9, 49, 1203]), (147, 1, .i2l, []), (148, 1, .ladd, []), (149, 1, .lstore_n 1, []), (150, 3, .ldc2_w 397, [31, 1705]), (153, 1, .lload_n 1, []), (154, 1, .lmul, []), (155, 1, .aload_n 0, []), (156, 3, .getfield 220, [9, 50, 1204]), (159, 1, .i2l, []), (160, 1, .ladd, []), (161, 1, .lreturn, [])] 0 [vR 106, vL l1, vU, vI x3, u4] [] M Q
  simp only [w_ldc2_31, w_ll_1, w_lmul, w_al_0, w_ivv_0  (cs1 _), mk_180, kin_T (ks_104), rk_180, rvk1, List.cons_append, List.nil_append, w_i2l, w_ladd, w_ls_1 (c2R _) c2U, w_gf_9_49, w_gf_9_50, w_ret3 rk_225, true_and, and_true, true_or, or_true]
  exact h
theorem b_226_0 {sx : Int → Int} {L : Nat} {x0 : Int} {M : Mem} {Q : Option AV → Mem → Prop} 
    (h : ((0 : Int) ≤ x0 ∧ (0 : Int) ≤ (1 : Int) ∧ (1 : Int) ≤ (30 : Int)) ∧ (inR (x0 - (iAnd (x0 / 2 ^ ((1 : Int)).toNat) 1431655765)) ∧ (((0 : Int) ≤ x0 - (iAnd (x0 / 2 ^ ((1 : Int)).toNat) 1431655765) ∧ (0 : Int) ≤ (2 : Int) ∧ (2 : Int) ≤ (30 : Int)) ∧ (inR ((iAnd (x0 - (iAnd (x0 / 2 ^ ((1 : Int)).toNat) 1431655765)) 858993459) + (iAnd ((x0 - (iAnd (x0 / 2 ^ ((1 : Int)).toNat) 1431655765)) / 2 ^ ((2 : Int)).toNat) 858993459)) ∧ (((0 : Int) ≤ (iAnd (x0 - (iAnd (x0 / 2 ^ ((1 : Int)).toNat) 1431655765)) 858993459) + (iAnd ((x0 - (iAnd (x0 / 2 ^ ((1 : Int)).toNat) 1431655765)) / 2 ^ ((2 : Int)).toNat) 858993459) ∧ (0 : Int) ≤ (4 : Int) ∧ (4 : Int) ≤ (30 : Int)) ∧ (inR (((iAnd (x0 - (iAnd (x0 / 2 ^ ((1 : Int)).toNat) 1431655765)) 858993459) + (iAnd ((x0 - (iAnd (x0 / 2 ^ ((1 : Int)).toNat) 1431655765)) / 2 ^ ((2 : Int)).toNat) 858993459)) + (((iAnd (x0 - (iAnd (x0 / 2 ^ ((1 : Int)).toNat) 1431655765)) 858993459) + (iAnd ((x0 - (iAnd (x0 / 2 ^ ((1 : Int)).toNat) 1431655765)) / 2 ^ ((2 : Int)).toNat) 858993459)) / 2 ^ ((4 : Int)).toNat)) ∧ (((0 : Int) ≤ iAnd (((iAnd (x0 - (iAnd (x0 / 2 ^ ((1 : Int)).toNat) 1431655765)) 858993459) + (iAnd ((x0 - (iAnd (x0 / 2 ^ ((1 : Int)).toNat) 1431655765)) / 2 ^ ((2 : Int)).toNat) 858993459)) + (((iAnd (x0 - (iAnd (x0 / 2 ^ ((1 : Int)).toNat) 1431655765)) 858993459) + (iAnd ((x0 - (iAnd (x0 / 2 ^ ((1 : Int)).toNat) 1431655765)) / 2 ^ ((2 : Int)).toNat) 858993459)) / 2 ^ ((4 : Int)).toNat)) 252645135 ∧ (0 : Int) ≤ (8 : Int) ∧ (8 : Int) ≤ (30 : Int)) ∧ (inR ((iAnd (((iAnd (x0 - (iAnd (x0 / 2 ^ ((1 : Int)).toNat) 1431655765)) 858993459) + (iAnd ((x0 - (iAnd (x0 / 2 ^ ((1 : Int)).toNat) 1431655765)) / 2 ^ ((2 : Int)).toNat) 858993459)) + (((iAnd (x0 - (iAnd (x0 / 2 ^ ((1 : Int)).toNat) 1431655765)) 858993459) + (iAnd ((x0 - (iAnd (x0 / 2 ^ ((1 : Int)).toNat) 1431655765)) / 2 ^ ((2 : Int)).toNat) 858993459)) / 2 ^ ((4 : Int)).toNat)) 252645135) + ((iAnd (((iAnd (x0 - (iAnd (x0 / 2 ^ ((1 : Int)).toNat) 1431655765)) 858993459) + (iAnd ((x0 - (iAnd (x0 / 2 ^ ((1 : Int)).toNat) 1431655765)) / 2 ^ ((2 : Int)).toNat) 858993459)) + (((iAnd (x0 - (iAnd (x0 / 2 ^ ((1 : Int)).toNat) 1431655765)) 858993459) + (iAnd ((x0 - (iAnd (x0 / 2 ^ ((1 : Int)).toNat) 1431655765)) / 2 ^ ((2 : Int)).toNat) 858993459)) / 2 ^ ((4 : Int)).toNat)) 252645135) / 2 ^ ((8 : Int)).toNat)) ∧ (((0 : Int) ≤ (iAnd (((iAnd (x0 - (iAnd (x0 / 2 ^ ((1 : Int)).toNat) 1431655765)) 858993459) + (iAnd ((x0 - (iAnd (x0 / 2 ^ ((1 : Int)).toNat) 1431655765)) / 2 ^ ((2 : Int)).toNat) 858993459)) + (((iAnd (x0 - (iAnd (x0 / 2 ^ ((1 : Int)).toNat) 1431655765)) 858993459) + (iAnd ((x0 - (iAnd (x0 / 2 ^ ((1 : Int)).toNat) 1431655765)) / 2 ^ ((2 : Int)).toNat) 858993459)) / 2 ^ ((4 : Int)).toNat)) 252645135) + ((iAnd (((iAnd (x0 - (iAnd (x0 / 2 ^ ((1 : Int)).toNat) 1431655765)) 858993459) + (iAnd ((x0 - (iAnd (x0 / 2 ^ ((1 : Int)).toNat) 1431655765)) / 2 ^ ((2 : Int)).toNat) 858993459)) + (((iAnd (x0 - (iAnd (x0 / 2 ^ ((1 : Int)).toNat) 1431655765)) 858993459) + (iAnd ((x0 - (iAnd (x0 / 2 ^ ((1 : Int)).toNat) 1431655765)) / 2 ^ ((2 : Int)).toNat) 858993459)) / 2 ^ ((4 : Int)).toNat)) 252645135) / 2 ^ ((8 : Int)).toNat) ∧ (0 : Int) ≤ (16 : Int) ∧ (16 : Int) ≤ (30 : Int)) ∧ (inR (((iAnd (((iAnd (x0 - (iAnd (x0 / 2 ^ ((1 : Int)).toNat) 1431655765)) 858993459) + (iAnd ((x0 - (iAnd (x0 / 2 ^ ((1 : Int)).toNat) 1431655765)) / 2 ^ ((2 : Int)).toNat) 858993459)) + (((iAnd (x0 - (iAnd (x0 / 2 ^ ((1 : Int)).toNat) 1431655765)) 858993459) + (iAnd ((x0 - (iAnd (x0 / 2 ^ ((1 : Int)).toNat) 1431655765)) / 2 ^ ((2 : Int)).toNat) 858993459)) / 2 ^ ((4 : Int)).toNat)) 252645135) + ((iAnd (((iAnd (x0 - (iAnd (x0 / 2 ^ ((1 : Int)).toNat) 1431655765)) 858993459) + (iAnd ((x0 - (iAnd (x0 / 2 ^ ((1 : Int)).toNat) 1431655765)) / 2 ^ ((2 : Int)).toNat) 858993459)) + (((iAnd (x0 - (iAnd (x0 / 2 ^ ((1 : Int)).toNat) 1431655765)) 858993459) + (iAnd ((x0 - (iAnd (x0 / 2 ^ ((1 : Int)).toNat) 1431655765)) / 2 ^ ((2 : Int)).toNat) 858993459)) / 2 ^ ((4 : Int)).toNat)) 252645135) / 2 ^ ((8 : Int)).toNat)) + (((iAnd (((iAnd (x0 - (iAnd (x0 / 2 ^ ((1 : Int)).toNat) 1431655765)) 858993459) + (iAnd ((x0 - (iAnd (x0 / 2 ^ ((1 : Int)).toNat) 1431655765)) / 2 ^ ((2 : Int)).toNat) 858993459)) + (((iAnd (x0 - (iAnd (x0 / 2 ^ ((1 : Int)).toNat) 1431655765)) 858993459) + (iAnd ((x0 - (iAnd (x0 / 2 ^ ((1 : Int)).toNat) 1431655765)) / 2 ^ ((2 : Int)).toNat) 858993459)) / 2 ^ ((4 : Int)).toNat)) 252645135) + ((iAnd (((iAnd (x0 - (iAnd (x0 / 2 ^ ((1 : Int)).toNat) 1431655765)) 858993459) + (iAnd ((x0 - (iAnd (x0 / 2 ^ ((1 : Int)).toNat) 1431655765)) / 2 ^ ((2 : Int)).toNat) 858993459)) + (((iAnd (x0 - (iAnd (x0 / 2 ^ ((1 : Int)).toNat) 1431655765)) 858993459) + (iAnd ((x0 - (iAnd (x0 / 2 ^ ((1 : Int)).toNat) 1431655765)) / 2 ^ ((2 : Int)).toNat) 858993459)) / 2 ^ ((4 : Int)).toNat)) 252645135) / 2 ^ ((8 : Int)).toNat)) / 2 ^ ((16 : Int)).toNat)) ∧ (Q (some (vI (iAnd (((iAnd (((iAnd (x0 - (iAnd (x0 / 2 ^ ((1 : Int)).toNat) 1431655765)) 858993459) + (iAnd ((x0 - (iAnd (x0 / 2 ^ ((1 : Int)).toNat) 1431655765)) / 2 ^ ((2 : Int)).toNat) 858993459)) + (((iAnd (x0 - (iAnd (x0 / 2 ^ ((1 : Int)).toNat) 1431655765)) 858993459) + (iAnd ((x0 - (iAnd (x0 / 2 ^ ((1 : Int)).toNat) 1431655765)) / 2 ^ ((2 : Int)).toNat) 858993459)) / 2 ^ ((4 : Int)).toNat)) 252645135) + ((iAnd (((iAnd (x0 - (iAnd (x0 / 2 ^ ((1 : Int)).toNat) 1431655765)) 858993459) + (iAnd ((x0 - (iAnd (x0 / 2 ^ ((1 : Int)).toNat) 1431655765)) / 2 ^ ((2 : Int)).toNat) 858993459)) + (((iAnd (x0 - (iAnd (x0 / 2 ^ ((1 : Int)).toNat) 1431655765)) 858993459) + (iAnd ((x0 - (iAnd (x0 / 2 ^ ((1 : Int)).toNat) 1431655765)) / 2 ^ ((2 : Int)).toNat) 858993459)) / 2 ^ ((4 : Int)).toNat)) 252645135) / 2 ^ ((8 : Int)).toNat)) + (((iAnd (((iAnd (x0 - (iAnd (x0 / 2 ^ ((1 : Int)).toNat) 1431655765)) 858993459) + (iAnd ((x0 - (iAnd (x0 / 2 ^ ((1 : Int)).toNat) 1431655765)) / 2 ^ ((2 : Int)).toNat) 858993459)) + (((iAnd (x0 - (iAnd (x0 / 2 ^ ((1 : Int)).toNat) 1431655765)) 858993459) + (iAnd ((x0 - (iAnd (x0 / 2 ^ ((1 : Int)).toNat) 1431655765)) / 2 ^ ((2 : Int)).toNat) 858993459)) / 2 ^ ((4 : Int)).toNat)) 252645135) + ((iAnd (((iAnd (x0 - (iAnd (x0 / 2 ^ ((1 : Int)).toNat) 1431655765)) 858993459) + (iAnd ((x0 - (iAnd (x0 / 2 ^ ((1 : Int)).toNat) 1431655765)) / 2 ^ ((2 : Int)).toNat) 858993459)) + (((iAnd (x0 - (iAnd (x0 / 2 ^ ((1 : Int)).toNat) 1431655765)) 858993459) + (iAnd ((x0 - (iAnd (x0 / 2 ^ ((1 : Int)).toNat) 1431655765)) / 2 ^ ((2 : Int)).toNat) 858993459)) / 2 ^ ((4 : Int)).toNat)) 252645135) / 2 ^ ((8 : Int)).toNat)) / 2 ^ ((16 : Int)).toNat)) 63))) M))))))))))) : Rn sx L K0 R0 226 0 [vI x0] [] M Q := by
  refine Rn_w (by decide) ?_
  show wpc sx L K0 R0 226 [(0, 1, .iload_n 0, []), (1, 1, .iload_n 0, []), (2, 1, .iconst 1, []), (3, 1, .iushr, []), (4, 3, .ldc_w 265, [1431655765, 0, 956]), (7, 1, .iand, []), (8, 1, .isub, []), (9, 1, .istore_n 0, []), (10, 1, .iload_n 0, []), (11, 3, .ldc_w 266, [858993459, 0, 957]), (14, 1, .iand, []), (15, 1, .iload_n 0, []), (16, 1, .iconst 2, []), (17, 1, .iushr, []), (18, 3, .ldc_w 266, [858993459, 0, 957]), (21, 1, .iand, []), (22, 1, .iadd, []), (23, 1, .istore_n 0, []), (24, 1, .iload_n 0, []), (25, 1, .iload_n 0, []), (26, 1, .iconst 4, []), (27, 1, .iushr, []), (28, 1, .iadd, []), (29, 3, .ldc_w 267, [252645135, 0, 958]), (32, 1, .iand, []), (33, 1, .istore_n 0, []), (34, 1, .iload_n 0, []), (35, 1, .iload_n 0, []), (36, 2, .bipush 8, []), (38, 1, .iushr, []), (39, 1, .iadd, []), (40, 1, .istore_n 0, []), (41, 1, .iload_n 0, []), (42, 1, .iload_n 0, []), (43, 2, .bipush 16, []), (45, 1, .iushr, []), (46, 1, .iadd, []), (47, 1, .istore_n 0, []), (48, 1, .iload_n 0, []), (49, 2, .bipush 63, []), (51, 1, .iand, []), (52, 1, .ireturn, [])] 0 [vI x0] [] M Q
  simp only [w_il_0, w_iconst, w_iushr, w_ldc_1431655765, w_iand, w_isub, w_is_0 (c2I _), w_ldc_858993459, w_iadd, w_ldc_252645135, w_bipush, w_ret1 rk_226, true_and, and_true, true_or, or_true]
  exact h

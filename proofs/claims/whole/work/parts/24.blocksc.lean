theorem b_86_0 {sx : Int → Int} {L : Nat} {c0 : Nat} {x1 : Int} {x2 : Int} {M : Mem} {Q : Option AV → Mem → Prop} (h0 : isSh c0)
    (h : (x1 < (0 : Int) → Rn sx L K0 R0 86 1 [vR (c0 + 2), vI x1, vI x2] [] M Q) ∧ (¬ (x1 < (0 : Int)) → (x2 < (0 : Int) → Rn sx L K0 R0 86 1 [vR (c0 + 2), vI x1, vI x2] [] M Q) ∧ (¬ (x2 < (0 : Int)) → inR ((M c0 2) - x1) ∧ (((M c0 2) - x1 < x2 → Rn sx L K0 R0 86 1 [vR (c0 + 2), vI x1, vI x2] [] M Q) ∧ (¬ ((M c0 2) - x1 < x2) → Rn sx L K0 R0 86 2 [vR (c0 + 2), vI x1, vI x2] [vI 1] M Q))))) : Rn sx L K0 R0 86 0 [vR (c0 + 2), vI x1, vI x2] [] M Q := by
  refine Rn_w (by decide) ?_
  show wpc sx L K0 R0 86 [(0, 1, .iload_n 1, []), (1, 3, .ifCond .lt 21, [1]), (4, 1, .iload_n 2, []), (5, 3, .ifCond .lt 17, [1]), (8, 1, .iload_n 2, []), (9, 1, .aload_n 0, []), (10, 3, .getfield 23, [6, 2, 334]), (13, 1, .iload_n 1, []), (14, 1, .isub, []), (15, 3, .if_icmp .gt 7, [1]), (18, 1, .iconst 1, []), (19, 3, .goto 4, [2])] 0 [vR (c0 + 2), vI x1, vI x2] [] M Q
  simp only [w_il_1, w_if_lt, w_il_2, w_al_0, w_gf_6_2, kin_T (ksh h0), w_isub, w_ic_gt, w_iconst, w_goto, true_and, and_true, true_or, or_true]
  exact h
theorem b_86_1 {sx : Int → Int} {L : Nat} {c0 : Nat} {x1 : Int} {x2 : Int} {M : Mem} {Q : Option AV → Mem → Prop} (h0 : isSh c0)
    (h : Rn sx L K0 R0 86 2 [vR (c0 + 2), vI x1, vI x2] [vI 0] M Q) : Rn sx L K0 R0 86 1 [vR (c0 + 2), vI x1, vI x2] [] M Q := by
  refine Rn_w (by decide) ?_
  show wpc sx L K0 R0 86 [(22, 1, .iconst 0, [])] 2 [vR (c0 + 2), vI x1, vI x2] [] M Q
  simp only [w_iconst, w_fall, true_and, and_true, true_or, or_true]
  exact h
theorem b_86_2 {sx : Int → Int} {L : Nat} {c0 : Nat} {x1 : Int} {x2 : Int} {y0 : Int} {M : Mem} {Q : Option AV → Mem → Prop} (h0 : isSh c0)
    (h : (y0 = 0 ∨ y0 = 1) ∧ (Q (some (vI y0)) M)) : Rn sx L K0 R0 86 2 [vR (c0 + 2), vI x1, vI x2] [vI y0] M Q := by
  refine Rn_w (by decide) ?_
  show wpc sx L K0 R0 86 [(23, 1, .ireturn, [])] 0 [vR (c0 + 2), vI x1, vI x2] [vI y0] M Q
  simp only [w_ret2 rk_86, true_and, and_true, true_or, or_true]
  exact h
theorem b_87_0 {sx : Int → Int} {L : Nat} {c0 : Nat} {x1 : Int} {M : Mem} {Q : Option AV → Mem → Prop} (h0 : isSh c0)
    (h : (x1 < (0 : Int) → Rn sx L K0 R0 87 1 [vR (c0 + 2), vI x1] [] M Q) ∧ (¬ (x1 < (0 : Int)) → (M c0 2 ≤ x1 → Rn sx L K0 R0 87 1 [vR (c0 + 2), vI x1] [] M Q) ∧ (¬ (M c0 2 ≤ x1) → ((60 : Int) ≤ x1 → Rn sx L K0 R0 87 1 [vR (c0 + 2), vI x1] [] M Q) ∧ (¬ ((60 : Int) ≤ x1) → ((0 : Int) ≤ x1 ∧ x1 < (60 : Int)) ∧ (Rn sx L K0 R0 87 2 [vR (c0 + 2), vI x1] [vI (M (c0 + 1) x1)] M Q))))) : Rn sx L K0 R0 87 0 [vR (c0 + 2), vI x1] [] M Q := by
  refine Rn_w (by decide) ?_
  show wpc sx L K0 R0 87 [(0, 1, .iload_n 1, []), (1, 3, .ifCond .lt 26, [1]), (4, 1, .iload_n 1, []), (5, 1, .aload_n 0, []), (6, 3, .getfield 23, [6, 2, 334]), (9, 3, .if_icmp .ge 18, [1]), (12, 1, .iload_n 1, []), (13, 2, .bipush 60, []), (15, 3, .if_icmp .ge 12, [1]), (18, 1, .aload_n 0, []), (19, 3, .getfield 15, [6, 3, 337]), (22, 1, .iload_n 1, []), (23, 1, .iaload, []), (24, 3, .goto 4, [2])] 0 [vR (c0 + 2), vI x1] [] M Q
  simp only [w_il_1, w_if_lt, w_al_0, w_gf_6_2, kin_T (ksh h0), w_ic_ge, w_bipush, w_gf_6_3, rsh3 h0, w_iald, arr_T ((ksh1 h0)), w_goto, true_and, and_true, true_or, or_true]
  exact h
theorem b_87_1 {sx : Int → Int} {L : Nat} {c0 : Nat} {x1 : Int} {M : Mem} {Q : Option AV → Mem → Prop} (h0 : isSh c0)
    (h : Rn sx L K0 R0 87 2 [vR (c0 + 2), vI x1] [vI 0] M Q) : Rn sx L K0 R0 87 1 [vR (c0 + 2), vI x1] [] M Q := by
  refine Rn_w (by decide) ?_
  show wpc sx L K0 R0 87 [(27, 1, .iconst 0, [])] 2 [vR (c0 + 2), vI x1] [] M Q
  simp only [w_iconst, w_fall, true_and, and_true, true_or, or_true]
  exact h
theorem b_87_2 {sx : Int → Int} {L : Nat} {c0 : Nat} {x1 : Int} {y0 : Int} {M : Mem} {Q : Option AV → Mem → Prop} (h0 : isSh c0)
    (h : Q (some (vI y0)) M) : Rn sx L K0 R0 87 2 [vR (c0 + 2), vI x1] [vI y0] M Q := by
  refine Rn_w (by decide) ?_
  show wpc sx L K0 R0 87 [(28, 1, .ireturn, [])] 0 [vR (c0 + 2), vI x1] [vI y0] M Q
  simp only [w_ret1 rk_87, true_and, and_true, true_or, or_true]
  exact h
theorem b_88_0 {sx : Int → Int} {L : Nat} {c0 : Nat} {x1 : Int} {x2 : Int} {M : Mem} {Q : Option AV → Mem → Prop} (h0 : isSh c0)
    (h : (x1 < (0 : Int) → Rn sx L K0 R0 88 1 [vR (c0 + 2), vI x1, vI x2] [] M Q) ∧ (¬ (x1 < (0 : Int)) → (M c0 2 ≤ x1 → Rn sx L K0 R0 88 1 [vR (c0 + 2), vI x1, vI x2] [] M Q) ∧ (¬ (M c0 2 ≤ x1) → (x1 < (60 : Int) → Rn sx L K0 R0 88 2 [vR (c0 + 2), vI x1, vI x2] [] M Q) ∧ (¬ (x1 < (60 : Int)) → Rn sx L K0 R0 88 1 [vR (c0 + 2), vI x1, vI x2] [] M Q)))) : Rn sx L K0 R0 88 0 [vR (c0 + 2), vI x1, vI x2] [] M Q := by
  refine Rn_w (by decide) ?_
  show wpc sx L K0 R0 88 [(0, 1, .iload_n 1, []), (1, 3, .ifCond .lt 17, [1]), (4, 1, .iload_n 1, []), (5, 1, .aload_n 0, []), (6, 3, .getfield 23, [6, 2, 334]), (9, 3, .if_icmp .ge 9, [1]), (12, 1, .iload_n 1, []), (13, 2, .bipush 60, []), (15, 3, .if_icmp .lt 4, [2])] 1 [vR (c0 + 2), vI x1, vI x2] [] M Q
  simp only [w_il_1, w_if_lt, w_al_0, w_gf_6_2, kin_T (ksh h0), w_ic_ge, w_bipush, w_ic_lt, w_fall, true_and, and_true, true_or, or_true]
  exact h
theorem b_88_1 {sx : Int → Int} {L : Nat} {c0 : Nat} {x1 : Int} {x2 : Int} {M : Mem} {Q : Option AV → Mem → Prop} (h0 : isSh c0)
    (h : Q none M) : Rn sx L K0 R0 88 1 [vR (c0 + 2), vI x1, vI x2] [] M Q := by
  refine Rn_w (by decide) ?_
  show wpc sx L K0 R0 88 [(18, 1, .return_, [])] 0 [vR (c0 + 2), vI x1, vI x2] [] M Q
  simp only [w_ret0 rk_88, true_and, and_true, true_or, or_true]
  exact h
theorem b_88_2 {sx : Int → Int} {L : Nat} {c0 : Nat} {x1 : Int} {x2 : Int} {M : Mem} {Q : Option AV → Mem → Prop} (h0 : isSh c0)
    (h : (¬ M c0 1 = (0 : Int) → Rn sx L K0 R0 88 3 [vR (c0 + 2), vI x1, vI x2] [] M Q) ∧ (¬ (¬ M c0 1 = (0 : Int)) → ((0 : Int) ≤ x1 ∧ x1 < (60 : Int)) ∧ (Rn sx L K0 R0 88 6 [vR (c0 + 2), vI x1, vI x2] [] (mset M (c0 + 1) x1 (i2B x2)) Q))) : Rn sx L K0 R0 88 2 [vR (c0 + 2), vI x1, vI x2] [] M Q := by
  refine Rn_w (by decide) ?_
  show wpc sx L K0 R0 88 [(19, 1, .aload_n 0, []), (20, 3, .getfield 19, [6, 1, 332]), (23, 3, .ifCond .ne 14, [3]), (26, 1, .aload_n 0, []), (27, 3, .getfield 15, [6, 3, 337]), (30, 1, .iload_n 1, []), (31, 1, .iload_n 2, []), (32, 1, .i2b, []), (33, 1, .iastore, []), (34, 3, .goto 23, [6])] 0 [vR (c0 + 2), vI x1, vI x2] [] M Q
  simp only [w_al_0, w_gf_6_1, kin_T (ksh h0), w_if_ne, w_gf_6_3, rsh3 h0, w_il_1, w_il_2, w_i2b, w_iast, arr_T ((ksh1 h0)), w_goto, true_and, and_true, true_or, or_true]
  exact h
theorem b_88_3 {sx : Int → Int} {L : Nat} {c0 : Nat} {x1 : Int} {x2 : Int} {M : Mem} {Q : Option AV → Mem → Prop} (h0 : isSh c0)
    (h : (¬ M c0 1 = (1 : Int) → Rn sx L K0 R0 88 4 [vR (c0 + 2), vI x1, vI x2] [vI x1, vR (c0 + 3)] M Q) ∧ (¬ (¬ M c0 1 = (1 : Int)) → Rn sx L K0 R0 88 5 [vR (c0 + 2), vI x1, vI x2] [vI (i2S x2), vI x1, vR (c0 + 3)] M Q)) : Rn sx L K0 R0 88 3 [vR (c0 + 2), vI x1, vI x2] [] M Q := by
  refine Rn_w (by decide) ?_
  show wpc sx L K0 R0 88 [(37, 1, .aload_n 0, []), (38, 3, .getfield 15, [6, 3, 337]), (41, 1, .iload_n 1, []), (42, 1, .aload_n 0, []), (43, 3, .getfield 19, [6, 1, 332]), (46, 1, .iconst 1, []), (47, 3, .if_icmp .ne 8, [4]), (50, 1, .iload_n 2, []), (51, 1, .i2s, []), (52, 3, .goto 4, [5])] 0 [vR (c0 + 2), vI x1, vI x2] [] M Q
  simp only [w_al_0, w_gf_6_3, kin_T (ksh h0), rsh3 h0, w_il_1, w_gf_6_1, w_iconst, w_ic_ne, w_il_2, w_i2s, w_goto, true_and, and_true, true_or, or_true]
  exact h
theorem b_88_4 {sx : Int → Int} {L : Nat} {c0 : Nat} {x1 : Int} {x2 : Int} {y1 : Int} {M : Mem} {Q : Option AV → Mem → Prop} (h0 : isSh c0)
    (h : Rn sx L K0 R0 88 5 [vR (c0 + 2), vI x1, vI x2] [vI x2, vI y1, vR (c0 + 3)] M Q) : Rn sx L K0 R0 88 4 [vR (c0 + 2), vI x1, vI x2] [vI y1, vR (c0 + 3)] M Q := by
  refine Rn_w (by decide) ?_
  show wpc sx L K0 R0 88 [(55, 1, .iload_n 2, [])] 5 [vR (c0 + 2), vI x1, vI x2] [vI y1, vR (c0 + 3)] M Q
  simp only [w_il_2, w_fall, true_and, and_true, true_or, or_true]
  exact h
theorem b_88_5 {sx : Int → Int} {L : Nat} {c0 : Nat} {x1 : Int} {x2 : Int} {y1 : Int} {y2 : Int} {M : Mem} {Q : Option AV → Mem → Prop} (h0 : isSh c0)
    (h : ((0 : Int) ≤ y1 ∧ y1 < (60 : Int)) ∧ (Rn sx L K0 R0 88 6 [vR (c0 + 2), vI x1, vI x2] [] (mset M (c0 + 1) y1 y2) Q)) : Rn sx L K0 R0 88 5 [vR (c0 + 2), vI x1, vI x2] [vI y2, vI y1, vR (c0 + 3)] M Q := by
  refine Rn_w (by decide) ?_
  show wpc sx L K0 R0 88 [(56, 1, .iastore, [])] 6 [vR (c0 + 2), vI x1, vI x2] [vI y2, vI y1, vR (c0 + 3)] M Q
  simp only [w_iast, arr_T ((ksh1 h0)), w_fall, true_and, and_true, true_or, or_true]
  exact h
theorem b_88_6 {sx : Int → Int} {L : Nat} {c0 : Nat} {x1 : Int} {x2 : Int} {M : Mem} {Q : Option AV → Mem → Prop} (h0 : isSh c0)
    (h : Q none M) : Rn sx L K0 R0 88 6 [vR (c0 + 2), vI x1, vI x2] [] M Q := by
  refine Rn_w (by decide) ?_
  show wpc sx L K0 R0 88 [(57, 1, .return_, [])] 0 [vR (c0 + 2), vI x1, vI x2] [] M Q
  simp only [w_ret0 rk_88, true_and, and_true, true_or, or_true]
  exact h
theorem b_90_0 {sx : Int → Int} {L : Nat} {x1 : Int} {x2 : Int} {M : Mem} {Q : Option AV → Mem → Prop} 
    (h : (M 1 0 < (0 : Int) → Rn sx L K0 R0 90 1 [vR 3, vI x1, vI x2] [] M Q) ∧ (¬ (M 1 0 < (0 : Int)) → (M 1 0 < (6 : Int) → Rn sx L K0 R0 90 2 [vR 3, vI x1, vI x2] [] M Q) ∧ (¬ (M 1 0 < (6 : Int)) → Rn sx L K0 R0 90 1 [vR 3, vI x1, vI x2] [] M Q))) : Rn sx L K0 R0 90 0 [vR 3, vI x1, vI x2] [] M Q := by
  refine Rn_w (by decide) ?_
  show wpc sx L K0 R0 90 [(0, 1, .aload_n 0, []), (1, 3, .getfield 21, [7, 0, 171]), (4, 3, .ifCond .lt 12, [1]), (7, 1, .aload_n 0, []), (8, 3, .getfield 21, [7, 0, 171]), (11, 2, .bipush 6, []), (13, 3, .if_icmp .lt 5, [2])] 1 [vR 3, vI x1, vI x2] [] M Q
  simp only [w_al_0, w_gf_7_0, kin_T (ks_1), w_if_lt, w_bipush, w_ic_lt, w_fall, true_and, and_true, true_or, or_true]
  exact h
theorem b_90_1 {sx : Int → Int} {L : Nat} {x1 : Int} {x2 : Int} {M : Mem} {Q : Option AV → Mem → Prop} 
    (h : Q (some (vI (-1))) M) : Rn sx L K0 R0 90 1 [vR 3, vI x1, vI x2] [] M Q := by
  refine Rn_w (by decide) ?_
  show wpc sx L K0 R0 90 [(16, 1, .iconst (-1), []), (17, 1, .ireturn, [])] 0 [vR 3, vI x1, vI x2] [] M Q
  simp only [w_iconst, w_ret1 rk_90, true_and, and_true, true_or, or_true]
  exact h
theorem b_90_2 {sx : Int → Int} {L : Nat} {x1 : Int} {x2 : Int} {M : Mem} {Q : Option AV → Mem → Prop} 
    (h : ((0 : Int) ≤ M 1 0 ∧ M 1 0 < (6 : Int)) ∧ (Mq sx L K0 R0 91 [vR 3, vI ((mset M 2 (M 1 0) x2) 1 0), vI 1, vI 0] (mset M 2 (M 1 0) x2) (fun rv M1 => rv = none ∧ ((¬ x1 = (2 : Int) → Rn sx L K0 R0 90 3 [vR 3, vI x1, vI x2] [] M1 Q) ∧ (¬ (¬ x1 = (2 : Int)) → ((0 : Int) ≤ (1 : Int) ∧ (0 : Int) ≤ M1 1 0 ∧ M1 1 0 ≤ (30 : Int) ∧ (1 : Int) * 2 ^ (M1 1 0).toNat ≤ (2147483647 : Int)) ∧ (Rn sx L K0 R0 90 3 [vR 3, vI x1, vI x2] [] (mset M1 1 1 (iOr (M1 1 1) ((1 : Int) * 2 ^ (M1 1 0).toNat))) Q)))))) : Rn sx L K0 R0 90 2 [vR 3, vI x1, vI x2] [] M Q := by
  refine Rn_w (by decide) ?_
  show wpc sx L K0 R0 90 [(18, 1, .aload_n 0, []), (19, 3, .getfield 9, [7, 2, 176]), (22, 1, .aload_n 0, []), (23, 3, .getfield 21, [7, 0, 171]), (26, 1, .iload_n 2, []), (27, 1, .iastore, []), (28, 1, .aload_n 0, []), (29, 1, .aload_n 0, []), (30, 3, .getfield 21, [7, 0, 171]), (33, 1, .iconst 1, []), (34, 1, .iconst 0, []), (35, 3, .invokevirtual 25, [91, 605, 3]), (38, 1, .iload_n 1, []), (39, 1, .iconst 2, []), (40, 3, .if_icmp .ne 18, [3]), (43, 1, .aload_n 0, []), (44, 1, .dup, []), (45, 3, .getfield 29, [7, 1, 173]), (48, 1, .iconst 1, []), (49, 1, .aload_n 0, []), (50, 3, .getfield 21, [7, 0, 171]), (53, 1, .ishl, []), (54, 1, .ior, []), (55, 3, .putfield 29, [7, 1, 173])] 3 [vR 3, vI x1, vI x2] [] M Q
  simp only [w_al_0, w_gf_7_2, kin_T (ks_1), rs_1_2, w_gf_7_0, w_il_2, w_iast, arr_T (ks_2), w_iconst, w_ivv_3 (c2I _) (c2I _) (c2I _) cs0, mk_91, rk_91, rvk0, List.nil_append, w_il_1, w_ic_ne, w_dup (c2R _), w_gf_7_1, w_ishl, w_ior, w_pf_7_1, w_fall, true_and, and_true, true_or, or_true]
  exact h
theorem b_90_3 {sx : Int → Int} {L : Nat} {x1 : Int} {x2 : Int} {M : Mem} {Q : Option AV → Mem → Prop} 
    (h : inR ((M 1 0) + 1) ∧ (inR (((mset M 1 0 ((M 1 0) + 1)) 1 0) - 1) ∧ (Q (some (vI (((mset M 1 0 ((M 1 0) + 1)) 1 0) - 1))) (mset M 1 0 ((M 1 0) + 1))))) : Rn sx L K0 R0 90 3 [vR 3, vI x1, vI x2] [] M Q := by
  refine Rn_w (by decide) ?_
  show wpc sx L K0 R0 90 [(58, 1, .aload_n 0, []), (59, 1, .dup, []), (60, 3, .getfield 21, [7, 0, 171]), (63, 1, .iconst 1, []), (64, 1, .iadd, []), (65, 3, .putfield 21, [7, 0, 171]), (68, 1, .aload_n 0, []), (69, 3, .getfield 21, [7, 0, 171]), (72, 1, .iconst 1, []), (73, 1, .isub, []), (74, 1, .ireturn, [])] 0 [vR 3, vI x1, vI x2] [] M Q
  simp only [w_al_0, w_dup (c2R _), w_gf_7_0, kin_T (ks_1), w_iconst, w_iadd, w_pf_7_0, w_isub, w_ret1 rk_90, true_and, and_true, true_or, or_true]
  exact h
theorem b_91_0 {sx : Int → Int} {L : Nat} {x1 : Int} {x2 : Int} {x3 : Int} {M : Mem} {Q : Option AV → Mem → Prop} 
    (h : (x1 < (0 : Int) → Rn sx L K0 R0 91 1 [vR 3, vI x1, vI x2, vI x3] [] M Q) ∧ (¬ (x1 < (0 : Int)) → ((6 : Int) ≤ x1 → Rn sx L K0 R0 91 1 [vR 3, vI x1, vI x2, vI x3] [] M Q) ∧ (¬ ((6 : Int) ≤ x1) → ((0 : Int) ≤ x1 ∧ x1 < (6 : Int)) ∧ (((0 : Int) ≤ x1 ∧ x1 < (6 : Int)) ∧ (Rn sx L K0 R0 91 1 [vR 3, vI x1, vI x2, vI x3] [] (mset (mset M 3 x1 x2) 4 x1 x3) Q))))) : Rn sx L K0 R0 91 0 [vR 3, vI x1, vI x2, vI x3] [] M Q := by
  refine Rn_w (by decide) ?_
  show wpc sx L K0 R0 91 [(0, 1, .iload_n 1, []), (1, 3, .ifCond .lt 23, [1]), (4, 1, .iload_n 1, []), (5, 2, .bipush 6, []), (7, 3, .if_icmp .ge 17, [1]), (10, 1, .aload_n 0, []), (11, 3, .getfield 15, [7, 3, 178]), (14, 1, .iload_n 1, []), (15, 1, .iload_n 2, []), (16, 1, .iastore, []), (17, 1, .aload_n 0, []), (18, 3, .getfield 18, [7, 4, 179]), (21, 1, .iload_n 1, []), (22, 1, .iload_n 3, []), (23, 1, .iastore, [])] 1 [vR 3, vI x1, vI x2, vI x3] [] M Q
  simp only [w_il_1, w_if_lt, w_bipush, w_ic_ge, w_al_0, w_gf_7_3, kin_T (ks_1), rs_1_3, w_il_2, w_iast, arr_T (ks_3), w_gf_7_4, rs_1_4, w_il_3, arr_T (ks_4), w_fall, true_and, and_true, true_or, or_true]
  exact h
theorem b_91_1 {sx : Int → Int} {L : Nat} {x1 : Int} {x2 : Int} {x3 : Int} {M : Mem} {Q : Option AV → Mem → Prop} 
    (h : Q none M) : Rn sx L K0 R0 91 1 [vR 3, vI x1, vI x2, vI x3] [] M Q := by
  refine Rn_w (by decide) ?_
  show wpc sx L K0 R0 91 [(24, 1, .return_, [])] 0 [vR 3, vI x1, vI x2, vI x3] [] M Q
  simp only [w_ret0 rk_91, true_and, and_true, true_or, or_true]
  exact h
theorem b_92_0 {sx : Int → Int} {L : Nat} {x1 : Int} {M : Mem} {Q : Option AV → Mem → Prop} 
    (h : Rn sx L K0 R0 92 1 [vR 3, vI x1, vI 0, vI 0] [] M Q) : Rn sx L K0 R0 92 0 [vR 3, vI x1, vU, vU] [] M Q := by
  refine Rn_w (by decide) ?_
  show wpc sx L K0 R0 92 [(0, 1, .iconst 0, []), (1, 1, .istore_n 2, []), (2, 1, .iconst 0, []), (3, 1, .istore_n 3, [])] 1 [vR 3, vI x1, vU, vU] [] M Q
  simp only [w_iconst, w_is_2 (c2I _), w_is_3 (c2I _), w_fall, true_and, and_true, true_or, or_true]
  exact h
set_option maxRecDepth 8192 in
theorem b_92_1 {sx : Int → Int} {L : Nat} {x1 : Int} {x2 : Int} {x3 : Int} {M : Mem} {Q : Option AV → Mem → Prop} 
    (h : (M 1 0 ≤ x3 → Rn sx L K0 R0 92 3 [vR 3, vI x1, vI x2, vI x3] [] M Q) ∧ (¬ (M 1 0 ≤ x3) → ((6 : Int) ≤ x3 → Rn sx L K0 R0 92 3 [vR 3, vI x1, vI x2, vI x3] [] M Q) ∧ (¬ ((6 : Int) ≤ x3) → ((0 : Int) ≤ x3 ∧ x3 < (6 : Int)) ∧ ((x1 < M 3 x3 → Rn sx L K0 R0 92 2 [vR 3, vI x1, vI x2, vI x3] [] M Q) ∧ (¬ (x1 < M 3 x3) → ((0 : Int) ≤ x3 ∧ x3 < (6 : Int)) ∧ ((M 4 x3 < x1 → Rn sx L K0 R0 92 2 [vR 3, vI x1, vI x2, vI x3] [] M Q) ∧ (¬ (M 4 x3 < x1) → ((0 : Int) ≤ (1 : Int) ∧ (0 : Int) ≤ x3 ∧ x3 ≤ (30 : Int) ∧ (1 : Int) * 2 ^ (x3).toNat ≤ (2147483647 : Int)) ∧ (Rn sx L K0 R0 92 2 [vR 3, vI x1, vI (iOr x2 ((1 : Int) * 2 ^ (x3).toNat)), vI x3] [] M Q)))))))) : Rn sx L K0 R0 92 1 [vR 3, vI x1, vI x2, vI x3] [] M Q := by
  refine Rn_w (by decide) ?_
  show wpc sx L K0 R0 92 [(4, 1, .iload_n 3, []), (5, 1, .aload_n 0, []), (6, 3, .getfield 21, [7, 0, 171]), (9, 3, .if_icmp .ge 41, [3]), (12, 1, .iload_n 3, []), (13, 2, .bipush 6, []), (15, 3, .if_icmp .ge 35, [3]), (18, 1, .aload_n 0, []), (19, 3, .getfield 15, [7, 3, 178]), (22, 1, .iload_n 3, []), (23, 1, .iaload, []), (24, 1, .iload_n 1, []), (25, 3, .if_icmp .gt 19, [2]), (28, 1, .iload_n 1, []), (29, 1, .aload_n 0, []), (30, 3, .getfield 18, [7, 4, 179]), (33, 1, .iload_n 3, []), (34, 1, .iaload, []), (35, 3, .if_icmp .gt 9, [2]), (38, 1, .iload_n 2, []), (39, 1, .iconst 1, []), (40, 1, .iload_n 3, []), (41, 1, .ishl, []), (42, 1, .ior, []), (43, 1, .istore_n 2, [])] 2 [vR 3, vI x1, vI x2, vI x3] [] M Q
  simp only [w_il_3, w_al_0, w_gf_7_0, kin_T (ks_1), w_ic_ge, w_bipush, w_gf_7_3, rs_1_3, w_iald, arr_T (ks_3), w_il_1, w_ic_gt, w_gf_7_4, rs_1_4, arr_T (ks_4), w_il_2, w_iconst, w_ishl, w_ior, w_is_2 (c2I _), w_fall, true_and, and_true, true_or, or_true]
  exact h
theorem b_92_2 {sx : Int → Int} {L : Nat} {x1 : Int} {x2 : Int} {x3 : Int} {M : Mem} {Q : Option AV → Mem → Prop} 
    (h : inR (x3 + 1) ∧ (Rn sx L K0 R0 92 1 [vR 3, vI x1, vI x2, vI (x3 + 1)] [] M Q)) : Rn sx L K0 R0 92 2 [vR 3, vI x1, vI x2, vI x3] [] M Q := by
  refine Rn_w (by decide) ?_
  show wpc sx L K0 R0 92 [(44, 3, .iinc 3 1, []), (47, 3, .goto (-43), [1])] 0 [vR 3, vI x1, vI x2, vI x3] [] M Q
  simp only [w_inc_3 (c2I _), w_goto, true_and, and_true, true_or, or_true]
  exact h
theorem b_92_3 {sx : Int → Int} {L : Nat} {x1 : Int} {x2 : Int} {x3 : Int} {M : Mem} {Q : Option AV → Mem → Prop} 
    (h : Q (some (vI x2)) M) : Rn sx L K0 R0 92 3 [vR 3, vI x1, vI x2, vI x3] [] M Q := by
  refine Rn_w (by decide) ?_
  show wpc sx L K0 R0 92 [(50, 1, .iload_n 2, []), (51, 1, .ireturn, [])] 0 [vR 3, vI x1, vI x2, vI x3] [] M Q
  simp only [w_il_2, w_ret1 rk_92, true_and, and_true, true_or, or_true]
  exact h
theorem b_94_0 {sx : Int → Int} {L : Nat} {x1 : Int} {x2 : Int} {M : Mem} {Q : Option AV → Mem → Prop} 
    (h : (x1 < (0 : Int) → Rn sx L K0 R0 94 1 [vR 2, vI x1, vI x2, vU, vU, vU] [] M Q) ∧ (¬ (x1 < (0 : Int)) → (x1 ≤ (2 : Int) → Rn sx L K0 R0 94 2 [vR 2, vI x1, vI x2, vU, vU, vU] [] M Q) ∧ (¬ (x1 ≤ (2 : Int)) → Rn sx L K0 R0 94 1 [vR 2, vI x1, vI x2, vU, vU, vU] [] M Q))) : Rn sx L K0 R0 94 0 [vR 2, vI x1, vI x2, vU, vU, vU] [] M Q := by
  refine Rn_w (by decide) ?_
  show wpc sx L K0 R0 94 [(0, 1, .iload_n 1, []), (1, 3, .ifCond .lt 8, [1]), (4, 1, .iload_n 1, []), (5, 1, .iconst 2, []), (6, 3, .if_icmp .le 6, [2])] 1 [vR 2, vI x1, vI x2, vU, vU, vU] [] M Q
  simp only [w_il_1, w_if_lt, w_iconst, w_ic_le, w_fall, true_and, and_true, true_or, or_true]
  exact h
theorem b_94_1 {sx : Int → Int} {L : Nat} {x1 : Int} {x2 : Int} {M : Mem} {Q : Option AV → Mem → Prop} 
    (h : Q (some (vI (-2))) M) : Rn sx L K0 R0 94 1 [vR 2, vI x1, vI x2, vU, vU, vU] [] M Q := by
  refine Rn_w (by decide) ?_
  show wpc sx L K0 R0 94 [(9, 2, .bipush (-2), []), (11, 1, .ireturn, [])] 0 [vR 2, vI x1, vI x2, vU, vU, vU] [] M Q
  simp only [w_bipush, w_ret1 rk_94, true_and, and_true, true_or, or_true]
  exact h
theorem b_94_2 {sx : Int → Int} {L : Nat} {x1 : Int} {x2 : Int} {M : Mem} {Q : Option AV → Mem → Prop} 
    (h : (¬ x1 = (1 : Int) → Rn sx L K0 R0 94 5 [vR 2, vI x1, vI x2, vU, vU, vU] [] M Q) ∧ (¬ (¬ x1 = (1 : Int)) → (x2 = (2 : Int) → Rn sx L K0 R0 94 3 [vR 2, vI x1, vI x2, vU, vU, vU] [] M Q) ∧ (¬ (x2 = (2 : Int)) → (¬ x2 = (3 : Int) → Rn sx L K0 R0 94 4 [vR 2, vI x1, vI x2, vU, vU, vU] [] M Q) ∧ (¬ (¬ x2 = (3 : Int)) → Rn sx L K0 R0 94 3 [vR 2, vI x1, vI x2, vU, vU, vU] [] M Q)))) : Rn sx L K0 R0 94 2 [vR 2, vI x1, vI x2, vU, vU, vU] [] M Q := by
  refine Rn_w (by decide) ?_
  show wpc sx L K0 R0 94 [(12, 1, .iload_n 1, []), (13, 1, .iconst 1, []), (14, 3, .if_icmp .ne 21, [5]), (17, 1, .iload_n 2, []), (18, 1, .iconst 2, []), (19, 3, .if_icmp .eq 8, [3]), (22, 1, .iload_n 2, []), (23, 1, .iconst 3, []), (24, 3, .if_icmp .ne 7, [4])] 3 [vR 2, vI x1, vI x2, vU, vU, vU] [] M Q
  simp only [w_il_1, w_iconst, w_ic_ne, w_il_2, w_ic_eq, w_fall, true_and, and_true, true_or, or_true]
  exact h
theorem b_94_3 {sx : Int → Int} {L : Nat} {x1 : Int} {x2 : Int} {M : Mem} {Q : Option AV → Mem → Prop} 
    (h : Rn sx L K0 R0 94 7 [vR 2, vI x1, vI x2, vU, vU, vU] [vI 1] M Q) : Rn sx L K0 R0 94 3 [vR 2, vI x1, vI x2, vU, vU, vU] [] M Q := by
  refine Rn_w (by decide) ?_
  show wpc sx L K0 R0 94 [(27, 1, .iconst 1, []), (28, 3, .goto 17, [7])] 0 [vR 2, vI x1, vI x2, vU, vU, vU] [] M Q
  simp only [w_iconst, w_goto, true_and, and_true, true_or, or_true]
  exact h
theorem b_94_4 {sx : Int → Int} {L : Nat} {x1 : Int} {x2 : Int} {M : Mem} {Q : Option AV → Mem → Prop} 
    (h : Rn sx L K0 R0 94 7 [vR 2, vI x1, vI x2, vU, vU, vU] [vI 0] M Q) : Rn sx L K0 R0 94 4 [vR 2, vI x1, vI x2, vU, vU, vU] [] M Q := by
  refine Rn_w (by decide) ?_
  show wpc sx L K0 R0 94 [(31, 1, .iconst 0, []), (32, 3, .goto 13, [7])] 0 [vR 2, vI x1, vI x2, vU, vU, vU] [] M Q
  simp only [w_iconst, w_goto, true_and, and_true, true_or, or_true]
  exact h
theorem b_94_5 {sx : Int → Int} {L : Nat} {x1 : Int} {x2 : Int} {M : Mem} {Q : Option AV → Mem → Prop} 
    (h : (¬ x2 = (1 : Int) → Rn sx L K0 R0 94 6 [vR 2, vI x1, vI x2, vU, vU, vU] [] M Q) ∧ (¬ (¬ x2 = (1 : Int)) → Rn sx L K0 R0 94 7 [vR 2, vI x1, vI x2, vU, vU, vU] [vI 1] M Q)) : Rn sx L K0 R0 94 5 [vR 2, vI x1, vI x2, vU, vU, vU] [] M Q := by
  refine Rn_w (by decide) ?_
  show wpc sx L K0 R0 94 [(35, 1, .iload_n 2, []), (36, 1, .iconst 1, []), (37, 3, .if_icmp .ne 7, [6]), (40, 1, .iconst 1, []), (41, 3, .goto 4, [7])] 0 [vR 2, vI x1, vI x2, vU, vU, vU] [] M Q
  simp only [w_il_2, w_iconst, w_ic_ne, w_goto, true_and, and_true, true_or, or_true]
  exact h
theorem b_94_6 {sx : Int → Int} {L : Nat} {x1 : Int} {x2 : Int} {M : Mem} {Q : Option AV → Mem → Prop} 
    (h : Rn sx L K0 R0 94 7 [vR 2, vI x1, vI x2, vU, vU, vU] [vI 0] M Q) : Rn sx L K0 R0 94 6 [vR 2, vI x1, vI x2, vU, vU, vU] [] M Q := by
  refine Rn_w (by decide) ?_
  show wpc sx L K0 R0 94 [(44, 1, .iconst 0, [])] 7 [vR 2, vI x1, vI x2, vU, vU, vU] [] M Q
  simp only [w_iconst, w_fall, true_and, and_true, true_or, or_true]
  exact h
theorem b_94_7 {sx : Int → Int} {L : Nat} {x1 : Int} {x2 : Int} {y0 : Int} {M : Mem} {Q : Option AV → Mem → Prop} 
    (h : (¬ y0 = (0 : Int) → Rn sx L K0 R0 94 8 [vR 2, vI x1, vI x2, vI y0, vU, vU] [] M Q) ∧ (¬ (¬ y0 = (0 : Int)) → Q (some (vI (-2))) M)) : Rn sx L K0 R0 94 7 [vR 2, vI x1, vI x2, vU, vU, vU] [vI y0] M Q := by
  refine Rn_w (by decide) ?_
  show wpc sx L K0 R0 94 [(45, 1, .istore_n 3, []), (46, 1, .iload_n 3, []), (47, 3, .ifCond .ne 6, [8]), (50, 2, .bipush (-2), []), (52, 1, .ireturn, [])] 0 [vR 2, vI x1, vI x2, vU, vU, vU] [vI y0] M Q
  simp only [w_is_3 (c2I _), w_il_3, w_if_ne, w_bipush, w_ret1 rk_94, true_and, and_true, true_or, or_true]
  exact h
theorem b_94_8 {sx : Int → Int} {L : Nat} {x1 : Int} {x2 : Int} {x3 : Int} {M : Mem} {Q : Option AV → Mem → Prop} 
    (h : (M 1 0 < (6 : Int) → Rn sx L K0 R0 94 9 [vR 2, vI x1, vI x2, vI x3, vU, vU] [] M Q) ∧ (¬ (M 1 0 < (6 : Int)) → Q (some (vI (-4))) M)) : Rn sx L K0 R0 94 8 [vR 2, vI x1, vI x2, vI x3, vU, vU] [] M Q := by
  refine Rn_w (by decide) ?_
  show wpc sx L K0 R0 94 [(53, 1, .aload_n 0, []), (54, 3, .getfield 10, [8, 0, 566]), (57, 3, .getfield 64, [7, 0, 172]), (60, 2, .bipush 6, []), (62, 3, .if_icmp .lt 6, [9]), (65, 2, .bipush (-4), []), (67, 1, .ireturn, [])] 0 [vR 2, vI x1, vI x2, vI x3, vU, vU] [] M Q
  simp only [w_al_0, w_gf_8_0, kin_T (ks_0), rs_0_0, w_gf_7_0, kin_T (ks_1), w_bipush, w_ic_lt, w_ret1 rk_94, true_and, and_true, true_or, or_true]
  exact h
theorem b_94_9 {sx : Int → Int} {L : Nat} {x1 : Int} {x2 : Int} {x3 : Int} {M : Mem} {Q : Option AV → Mem → Prop} 
    (h : Mq sx L K0 R0 90 [vR 3, vI x1, vI x2] M (fun rv M1 => ∃ r1, rv = some (vI r1) ∧ (Rn sx L K0 R0 94 10 [vR 2, vI x1, vI x2, vI x3, vI r1, vI 0] [] M1 Q))) : Rn sx L K0 R0 94 9 [vR 2, vI x1, vI x2, vI x3, vU, vU] [] M Q := by
  refine Rn_w (by decide) ?_
  show wpc sx L K0 R0 94 [(68, 1, .aload_n 0, []), (69, 3, .getfield 10, [8, 0, 566]), (72, 1, .iload_n 1, []), (73, 1, .iload_n 2, []), (74, 3, .invokevirtual 68, [90, 601, 2]), (77, 2, .istore 4, []), (79, 1, .iconst 0, []), (80, 2, .istore 5, [])] 10 [vR 2, vI x1, vI x2, vI x3, vU, vU] [] M Q
  simp only [w_al_0, w_gf_8_0, kin_T (ks_0), rs_0_0, w_il_1, w_il_2, w_ivv_2 (c2I _) (c2I _) cs0, mk_90, kin_T (ks_1), rk_90, rvk1, List.cons_append, List.nil_append, w_is_4 (c2I _), w_iconst, w_is_5 (c2I _), w_fall, true_and, and_true, true_or, or_true]
  exact h
theorem b_94_10 {sx : Int → Int} {L : Nat} {x1 : Int} {x2 : Int} {x3 : Int} {x4 : Int} {x5 : Int} {M : Mem} {Q : Option AV → Mem → Prop} (hj0 : 0 ≤ x5 ∧ x5 < 8)
    (h : ((8 : Int) ≤ x5 → Rn sx L K0 R0 94 11 [vR 2, vI x1, vI x2, vI x3, vI x4, vI x5] [] M Q) ∧ (¬ ((8 : Int) ≤ x5) → Mq sx L K0 R0 15 [vR (plA x5 + 2), vI (M 1 0)] M (fun rv M1 => rv = none ∧ (inR (x5 + 1) ∧ (Rn sx L K0 R0 94 10 [vR 2, vI x1, vI x2, vI x3, vI x4, vI (x5 + 1)] [] M1 Q))))) : Rn sx L K0 R0 94 10 [vR 2, vI x1, vI x2, vI x3, vI x4, vI x5] [] M Q := by
  refine Rn_w (by decide) ?_
  show wpc sx L K0 R0 94 [(82, 2, .iload 5, []), (84, 2, .bipush 8, []), (86, 3, .if_icmp .ge 26, [11]), (89, 1, .aload_n 0, []), (90, 3, .getfield 18, [8, 1, 567]), (93, 2, .iload 5, []), (95, 1, .aaload, []), (96, 1, .aload_n 0, []), (97, 3, .getfield 10, [8, 0, 566]), (100, 3, .getfield 64, [7, 0, 172]), (103, 3, .invokevirtual 72, [15, 609, 1]), (106, 3, .iinc 5 1, []), (109, 3, .goto (-27), [10])] 0 [vR 2, vI x1, vI x2, vI x3, vI x4, vI x5] [] M Q
  simp only [w_il_5, w_bipush, w_ic_ge, w_al_0, w_gf_8_1, kin_T (ks_0), rs_0_1, w_aald, rpls hj0.1 hj0.2, arq_T (ks_5) ⟨by decide, by decide⟩, hj0.1, (show x5 < ((8 : Nat) : Int) from hj0.2), w_gf_8_0, rs_0_0, w_gf_7_0, kin_T (ks_1), w_ivv_1 (c2I _) cs0, mk_15, kin_T (kpl (isPl_A hj0.1 hj0.2)), rk_15, rvk0, List.nil_append, w_inc_5 (c2I _), w_goto, true_and, and_true, true_or, or_true]
  exact h
theorem b_94_11 {sx : Int → Int} {L : Nat} {x1 : Int} {x2 : Int} {x3 : Int} {x4 : Int} {x5 : Int} {M : Mem} {Q : Option AV → Mem → Prop} 
    (h : Mq sx L K0 R0 134 [vR 2] M (fun rv M1 => rv = none ∧ (Q (some (vI x4)) M1))) : Rn sx L K0 R0 94 11 [vR 2, vI x1, vI x2, vI x3, vI x4, vI x5] [] M Q := by
  refine Rn_w (by decide) ?_
  show wpc sx L K0 R0 94 [(112, 1, .aload_n 0, []), (113, 3, .invokevirtual 76, [134, 648, 0]), (116, 2, .iload 4, []), (118, 1, .ireturn, [])] 0 [vR 2, vI x1, vI x2, vI x3, vI x4, vI x5] [] M Q
  simp only [w_al_0, w_ivv_0  cs0, mk_134, kin_T (ks_0), rk_134, rvk0, List.nil_append, w_il_4, w_ret1 rk_94, true_and, and_true, true_or, or_true]
  exact h
theorem b_95_0 {sx : Int → Int} {L : Nat} {x1 : Int} {x2 : Int} {x3 : Int} {M : Mem} {Q : Option AV → Mem → Prop} 
    (h : (x1 < (0 : Int) → Rn sx L K0 R0 95 1 [vR 2, vI x1, vI x2, vI x3] [] M Q) ∧ (¬ (x1 < (0 : Int)) → (M 1 0 ≤ x1 → Rn sx L K0 R0 95 1 [vR 2, vI x1, vI x2, vI x3] [] M Q) ∧ (¬ (M 1 0 ≤ x1) → Mq sx L K0 R0 128 [vI x2] M (fun rv M1 => ∃ r1, rv = some (vI r1) ∧ ((r1 = (0 : Int) → Rn sx L K0 R0 95 1 [vR 2, vI x1, vI x2, vI x3] [] M1 Q) ∧ (¬ (r1 = (0 : Int)) → Mq sx L K0 R0 128 [vI x3] M1 (fun rv M2 => ∃ r2, rv = some (vI r2) ∧ ((¬ r2 = (0 : Int) → Rn sx L K0 R0 95 2 [vR 2, vI x1, vI x2, vI x3] [] M2 Q) ∧ (¬ (¬ r2 = (0 : Int)) → Rn sx L K0 R0 95 1 [vR 2, vI x1, vI x2, vI x3] [] M2 Q))))))))) : Rn sx L K0 R0 95 0 [vR 2, vI x1, vI x2, vI x3] [] M Q := by
  refine Rn_w (by decide) ?_
  show wpc sx L K0 R0 95 [(0, 1, .iload_n 1, []), (1, 3, .ifCond .lt 28, [1]), (4, 1, .iload_n 1, []), (5, 1, .aload_n 0, []), (6, 3, .getfield 10, [8, 0, 566]), (9, 3, .getfield 64, [7, 0, 172]), (12, 3, .if_icmp .ge 17, [1]), (15, 1, .iload_n 2, []), (16, 3, .invokestatic 79, [128, 660, 1]), (19, 3, .ifCond .eq 10, [1]), (22, 1, .iload_n 3, []), (23, 3, .invokestatic 79, [128, 660, 1]), (26, 3, .ifCond .ne 6, [2])] 1 [vR 2, vI x1, vI x2, vI x3] [] M Q
  simp only [w_il_1, w_if_lt, w_al_0, w_gf_8_0, kin_T (ks_0), rs_0_0, w_gf_7_0, kin_T (ks_1), w_ic_ge, w_il_2, w_ivs_1 (c2I _) cs0, rk_128, rvk2, List.cons_append, List.nil_append, w_if_eq, w_il_3, w_if_ne, w_fall, true_and, and_true, true_or, or_true]
  exact h
theorem b_95_1 {sx : Int → Int} {L : Nat} {x1 : Int} {x2 : Int} {x3 : Int} {M : Mem} {Q : Option AV → Mem → Prop} 
    (h : Q (some (vI (-2))) M) : Rn sx L K0 R0 95 1 [vR 2, vI x1, vI x2, vI x3] [] M Q := by
  refine Rn_w (by decide) ?_
  show wpc sx L K0 R0 95 [(29, 2, .bipush (-2), []), (31, 1, .ireturn, [])] 0 [vR 2, vI x1, vI x2, vI x3] [] M Q
  simp only [w_bipush, w_ret1 rk_95, true_and, and_true, true_or, or_true]
  exact h
theorem b_95_2 {sx : Int → Int} {L : Nat} {x1 : Int} {x2 : Int} {x3 : Int} {M : Mem} {Q : Option AV → Mem → Prop} 
    (h : Mq sx L K0 R0 91 [vR 3, vI x1, vI x2, vI x3] M (fun rv M1 => rv = none ∧ (Mq sx L K0 R0 134 [vR 2] M1 (fun rv M2 => rv = none ∧ (Q (some (vI 1)) M2))))) : Rn sx L K0 R0 95 2 [vR 2, vI x1, vI x2, vI x3] [] M Q := by
  refine Rn_w (by decide) ?_
  show wpc sx L K0 R0 95 [(32, 1, .aload_n 0, []), (33, 3, .getfield 10, [8, 0, 566]), (36, 1, .iload_n 1, []), (37, 1, .iload_n 2, []), (38, 1, .iload_n 3, []), (39, 3, .invokevirtual 83, [91, 663, 3]), (42, 1, .aload_n 0, []), (43, 3, .invokevirtual 76, [134, 648, 0]), (46, 1, .iconst 1, []), (47, 1, .ireturn, [])] 0 [vR 2, vI x1, vI x2, vI x3] [] M Q
  simp only [w_al_0, w_gf_8_0, kin_T (ks_0), rs_0_0, w_il_1, w_il_2, w_il_3, w_ivv_3 (c2I _) (c2I _) (c2I _) cs0, mk_91, kin_T (ks_1), rk_91, rvk0, List.nil_append, w_ivv_0  cs0, mk_134, rk_134, w_iconst, w_ret1 rk_95, true_and, and_true, true_or, or_true]
  exact h
theorem b_96_0 {sx : Int → Int} {L : Nat} {x1 : Int} {x2 : Int} {M : Mem} {Q : Option AV → Mem → Prop} 
    (h : Mq sx L K0 R0 125 [vI x1] M (fun rv M1 => ∃ r1, rv = some (vI r1) ∧ ((r1 = (0 : Int) → Rn sx L K0 R0 96 1 [vR 2, vI x1, vI x2, vU] [] M1 Q) ∧ (¬ (r1 = (0 : Int)) → (x2 < (0 : Int) → Rn sx L K0 R0 96 1 [vR 2, vI x1, vI x2, vU] [] M1 Q) ∧ (¬ (x2 < (0 : Int)) → (x2 ≤ (255 : Int) → Rn sx L K0 R0 96 2 [vR 2, vI x1, vI x2, vU] [] M1 Q) ∧ (¬ (x2 ≤ (255 : Int)) → Rn sx L K0 R0 96 1 [vR 2, vI x1, vI x2, vU] [] M1 Q)))))) : Rn sx L K0 R0 96 0 [vR 2, vI x1, vI x2, vU] [] M Q := by
  refine Rn_w (by decide) ?_
  show wpc sx L K0 R0 96 [(0, 1, .iload_n 1, []), (1, 3, .invokestatic 87, [125, 668, 1]), (4, 3, .ifCond .eq 14, [1]), (7, 1, .iload_n 2, []), (8, 3, .ifCond .lt 10, [1]), (11, 1, .iload_n 2, []), (12, 3, .sipush 255, []), (15, 3, .if_icmp .le 6, [2])] 1 [vR 2, vI x1, vI x2, vU] [] M Q
  simp only [w_il_1, w_ivs_1 (c2I _) cs0, rk_125, rvk2, List.cons_append, List.nil_append, w_if_eq, w_il_2, w_if_lt, w_sipush, w_ic_le, w_fall, true_and, and_true, true_or, or_true]
  exact h
theorem b_96_1 {sx : Int → Int} {L : Nat} {x1 : Int} {x2 : Int} {M : Mem} {Q : Option AV → Mem → Prop} 
    (h : Q (some (vI (-2))) M) : Rn sx L K0 R0 96 1 [vR 2, vI x1, vI x2, vU] [] M Q := by
  refine Rn_w (by decide) ?_
  show wpc sx L K0 R0 96 [(18, 2, .bipush (-2), []), (20, 1, .ireturn, [])] 0 [vR 2, vI x1, vI x2, vU] [] M Q
  simp only [w_bipush, w_ret1 rk_96, true_and, and_true, true_or, or_true]
  exact h
theorem b_96_2 {sx : Int → Int} {L : Nat} {x1 : Int} {x2 : Int} {M : Mem} {Q : Option AV → Mem → Prop} (hj0 : 0 ≤ x1 ∧ x1 < 8)
    (h : (M (plA x1) 1 < (60 : Int) → Rn sx L K0 R0 96 3 [vR 2, vI x1, vI x2, vR (plA x1 + 2)] [] M Q) ∧ (¬ (M (plA x1) 1 < (60 : Int)) → Q (some (vI (-4))) M)) : Rn sx L K0 R0 96 2 [vR 2, vI x1, vI x2, vU] [] M Q := by
  refine Rn_w (by decide) ?_
  show wpc sx L K0 R0 96 [(21, 1, .aload_n 0, []), (22, 3, .getfield 18, [8, 1, 567]), (25, 1, .iload_n 1, []), (26, 1, .aaload, []), (27, 1, .astore_n 3, []), (28, 1, .aload_n 3, []), (29, 3, .getfield 90, [1, 1, 270]), (32, 2, .bipush 60, []), (34, 3, .if_icmp .lt 6, [3]), (37, 2, .bipush (-4), []), (39, 1, .ireturn, [])] 0 [vR 2, vI x1, vI x2, vU] [] M Q
  simp only [w_al_0, w_gf_8_1, kin_T (ks_0), rs_0_1, w_il_1, w_aald, rpls hj0.1 hj0.2, arq_T (ks_5) ⟨by decide, by decide⟩, hj0.1, (show x1 < ((8 : Nat) : Int) from hj0.2), w_as_3 (c2I _), w_al_3, w_gf_1_1, kin_T (kpl (isPl_A hj0.1 hj0.2)), w_bipush, w_ic_lt, w_ret1 rk_96, true_and, and_true, true_or, or_true]
  exact h
theorem b_96_3 {sx : Int → Int} {L : Nat} {x1 : Int} {x2 : Int} {c3 : Nat} {M : Mem} {Q : Option AV → Mem → Prop} (h3 : isPl c3)
    (h : Mq sx L K0 R0 14 [vR (c3 + 2), vI x2] M (fun rv M1 => rv = none ∧ (Mq sx L K0 R0 15 [vR (c3 + 2), vI (M1 1 0)] M1 (fun rv M2 => rv = none ∧ (Mq sx L K0 R0 134 [vR 2] M2 (fun rv M3 => rv = none ∧ (Q (some (vI (M3 c3 1))) M3))))))) : Rn sx L K0 R0 96 3 [vR 2, vI x1, vI x2, vR (c3 + 2)] [] M Q := by
  refine Rn_w (by decide) ?_
  show wpc sx L K0 R0 96 [(40, 1, .aload_n 3, []), (41, 1, .iload_n 2, []), (42, 3, .invokevirtual 93, [14, 671, 1]), (45, 1, .aload_n 3, []), (46, 1, .aload_n 0, []), (47, 3, .getfield 10, [8, 0, 566]), (50, 3, .getfield 64, [7, 0, 172]), (53, 3, .invokevirtual 72, [15, 609, 1]), (56, 1, .aload_n 0, []), (57, 3, .invokevirtual 76, [134, 648, 0]), (60, 1, .aload_n 3, []), (61, 3, .getfield 90, [1, 1, 270]), (64, 1, .ireturn, [])] 0 [vR 2, vI x1, vI x2, vR (c3 + 2)] [] M Q
  simp only [w_al_3, w_il_2, w_ivv_1 (c2I _) cs0, mk_14, kin_T (kpl h3), rk_14, rvk0, List.nil_append, w_al_0, w_gf_8_0, kin_T (ks_0), rs_0_0, w_gf_7_0, kin_T (ks_1), mk_15, rk_15, w_ivv_0  cs0, mk_134, rk_134, w_gf_1_1, w_ret1 rk_96, true_and, and_true, true_or, or_true]
  exact h
theorem b_97_0 {sx : Int → Int} {L : Nat} {x1 : Int} {M : Mem} {Q : Option AV → Mem → Prop} 
    (h : Mq sx L K0 R0 125 [vI x1] M (fun rv M1 => ∃ r1, rv = some (vI r1) ∧ ((¬ r1 = (0 : Int) → Rn sx L K0 R0 97 1 [vR 2, vI x1, vU, vU] [] M1 Q) ∧ (¬ (¬ r1 = (0 : Int)) → Q (some (vI (-2))) M1)))) : Rn sx L K0 R0 97 0 [vR 2, vI x1, vU, vU] [] M Q := by
  refine Rn_w (by decide) ?_
  show wpc sx L K0 R0 97 [(0, 1, .iload_n 1, []), (1, 3, .invokestatic 87, [125, 668, 1]), (4, 3, .ifCond .ne 6, [1]), (7, 2, .bipush (-2), []), (9, 1, .ireturn, [])] 0 [vR 2, vI x1, vU, vU] [] M Q
  simp only [w_il_1, w_ivs_1 (c2I _) cs0, rk_125, rvk2, List.cons_append, List.nil_append, w_if_ne, w_bipush, w_ret1 rk_97, true_and, and_true, true_or, or_true]
  exact h
theorem b_97_1 {sx : Int → Int} {L : Nat} {x1 : Int} {M : Mem} {Q : Option AV → Mem → Prop} (hj0 : 0 ≤ x1 ∧ x1 < 8)
    (h : Mq sx L K0 R0 15 [vR (plA x1 + 2), vI ((mset M (plA x1) 1 0) 1 0)] (mset M (plA x1) 1 0) (fun rv M1 => rv = none ∧ (Mq sx L K0 R0 134 [vR 2] M1 (fun rv M2 => rv = none ∧ (Q (some (vI (M (plA x1) 1))) M2))))) : Rn sx L K0 R0 97 1 [vR 2, vI x1, vU, vU] [] M Q := by
  refine Rn_w (by decide) ?_
  show wpc sx L K0 R0 97 [(10, 1, .aload_n 0, []), (11, 3, .getfield 18, [8, 1, 567]), (14, 1, .iload_n 1, []), (15, 1, .aaload, []), (16, 1, .astore_n 2, []), (17, 1, .aload_n 2, []), (18, 3, .getfield 90, [1, 1, 270]), (21, 1, .istore_n 3, []), (22, 1, .aload_n 2, []), (23, 1, .iconst 0, []), (24, 3, .putfield 90, [1, 1, 270]), (27, 1, .aload_n 2, []), (28, 1, .aload_n 0, []), (29, 3, .getfield 10, [8, 0, 566]), (32, 3, .getfield 64, [7, 0, 172]), (35, 3, .invokevirtual 72, [15, 609, 1]), (38, 1, .aload_n 0, []), (39, 3, .invokevirtual 76, [134, 648, 0]), (42, 1, .iload_n 3, []), (43, 1, .ireturn, [])] 0 [vR 2, vI x1, vU, vU] [] M Q
  simp only [w_al_0, w_gf_8_1, kin_T (ks_0), rs_0_1, w_il_1, w_aald, rpls hj0.1 hj0.2, arq_T (ks_5) ⟨by decide, by decide⟩, hj0.1, (show x1 < ((8 : Nat) : Int) from hj0.2), w_as_2 (c2I _), w_al_2, w_gf_1_1, kin_T (kpl (isPl_A hj0.1 hj0.2)), w_is_3 (c2R _), w_iconst, w_pf_1_1, w_gf_8_0, rs_0_0, w_gf_7_0, kin_T (ks_1), w_ivv_1 (c2I _) cs0, mk_15, rk_15, rvk0, List.nil_append, w_ivv_0  cs0, mk_134, rk_134, w_il_3, w_ret1 rk_97, true_and, and_true, true_or, or_true]
  exact h
theorem b_98_0 {sx : Int → Int} {L : Nat} {x1 : Int} {M : Mem} {Q : Option AV → Mem → Prop} (hj0 : 0 ≤ x1 ∧ x1 < 8)
    (h : Mq sx L K0 R0 125 [vI x1] M (fun rv M1 => ∃ r1, rv = some (vI r1) ∧ ((r1 = (0 : Int) → Rn sx L K0 R0 98 1 [vR 2, vI x1] [] M1 Q) ∧ (¬ (r1 = (0 : Int)) → Rn sx L K0 R0 98 2 [vR 2, vI x1] [vI (M1 (plA x1) 3)] M1 Q)))) : Rn sx L K0 R0 98 0 [vR 2, vI x1] [] M Q := by
  refine Rn_w (by decide) ?_
  show wpc sx L K0 R0 98 [(0, 1, .iload_n 1, []), (1, 3, .invokestatic 87, [125, 668, 1]), (4, 3, .ifCond .eq 15, [1]), (7, 1, .aload_n 0, []), (8, 3, .getfield 18, [8, 1, 567]), (11, 1, .iload_n 1, []), (12, 1, .aaload, []), (13, 3, .getfield 96, [1, 3, 273]), (16, 3, .goto 5, [2])] 0 [vR 2, vI x1] [] M Q
  simp only [w_il_1, w_ivs_1 (c2I _) cs0, rk_125, rvk2, List.cons_append, List.nil_append, w_if_eq, w_al_0, w_gf_8_1, kin_T (ks_0), rs_0_1, w_aald, rpls hj0.1 hj0.2, arq_T (ks_5) ⟨by decide, by decide⟩, hj0.1, (show x1 < ((8 : Nat) : Int) from hj0.2), w_gf_1_3, kin_T (kpl (isPl_A hj0.1 hj0.2)), w_goto, true_and, and_true, true_or, or_true]
  exact h
theorem b_98_1 {sx : Int → Int} {L : Nat} {x1 : Int} {M : Mem} {Q : Option AV → Mem → Prop} 
    (h : Rn sx L K0 R0 98 2 [vR 2, vI x1] [vI (-2)] M Q) : Rn sx L K0 R0 98 1 [vR 2, vI x1] [] M Q := by
  refine Rn_w (by decide) ?_
  show wpc sx L K0 R0 98 [(19, 2, .bipush (-2), [])] 2 [vR 2, vI x1] [] M Q
  simp only [w_bipush, w_fall, true_and, and_true, true_or, or_true]
  exact h
theorem b_98_2 {sx : Int → Int} {L : Nat} {x1 : Int} {y0 : Int} {M : Mem} {Q : Option AV → Mem → Prop} 
    (h : Q (some (vI y0)) M) : Rn sx L K0 R0 98 2 [vR 2, vI x1] [vI y0] M Q := by
  refine Rn_w (by decide) ?_
  show wpc sx L K0 R0 98 [(21, 1, .ireturn, [])] 0 [vR 2, vI x1] [vI y0] M Q
  simp only [w_ret1 rk_98, true_and, and_true, true_or, or_true]
  exact h
theorem b_99_0 {sx : Int → Int} {L : Nat} {x1 : Int} {x2 : Int} {M : Mem} {Q : Option AV → Mem → Prop} 
    (h : Mq sx L K0 R0 125 [vI x1] M (fun rv M1 => ∃ r1, rv = some (vI r1) ∧ ((r1 = (0 : Int) → Rn sx L K0 R0 99 1 [vR 2, vI x1, vI x2, vU] [] M1 Q) ∧ (¬ (r1 = (0 : Int)) → (x2 < (0 : Int) → Rn sx L K0 R0 99 1 [vR 2, vI x1, vI x2, vU] [] M1 Q) ∧ (¬ (x2 < (0 : Int)) → (x2 ≤ (8 : Int) → Rn sx L K0 R0 99 2 [vR 2, vI x1, vI x2, vU] [] M1 Q) ∧ (¬ (x2 ≤ (8 : Int)) → Rn sx L K0 R0 99 1 [vR 2, vI x1, vI x2, vU] [] M1 Q)))))) : Rn sx L K0 R0 99 0 [vR 2, vI x1, vI x2, vU] [] M Q := by
  refine Rn_w (by decide) ?_
  show wpc sx L K0 R0 99 [(0, 1, .iload_n 1, []), (1, 3, .invokestatic 87, [125, 668, 1]), (4, 3, .ifCond .eq 13, [1]), (7, 1, .iload_n 2, []), (8, 3, .ifCond .lt 9, [1]), (11, 1, .iload_n 2, []), (12, 2, .bipush 8, []), (14, 3, .if_icmp .le 6, [2])] 1 [vR 2, vI x1, vI x2, vU] [] M Q
  simp only [w_il_1, w_ivs_1 (c2I _) cs0, rk_125, rvk2, List.cons_append, List.nil_append, w_if_eq, w_il_2, w_if_lt, w_bipush, w_ic_le, w_fall, true_and, and_true, true_or, or_true]
  exact h
theorem b_99_1 {sx : Int → Int} {L : Nat} {x1 : Int} {x2 : Int} {M : Mem} {Q : Option AV → Mem → Prop} 
    (h : Q (some (vI (-2))) M) : Rn sx L K0 R0 99 1 [vR 2, vI x1, vI x2, vU] [] M Q := by
  refine Rn_w (by decide) ?_
  show wpc sx L K0 R0 99 [(17, 2, .bipush (-2), []), (19, 1, .ireturn, [])] 0 [vR 2, vI x1, vI x2, vU] [] M Q
  simp only [w_bipush, w_ret1 rk_99, true_and, and_true, true_or, or_true]
  exact h
theorem b_99_2 {sx : Int → Int} {L : Nat} {x1 : Int} {x2 : Int} {M : Mem} {Q : Option AV → Mem → Prop} (hj0 : 0 ≤ x1 ∧ x1 < 8)
    (h : ((5 : Int) < x2 → Rn sx L K0 R0 99 3 [vR 2, vI x1, vI x2, vR (plA x1 + 2)] [] M Q) ∧ (¬ ((5 : Int) < x2) → (M (plA x1) 3 = (-1 : Int) → Rn sx L K0 R0 99 3 [vR 2, vI x1, vI x2, vR (plA x1 + 2)] [] M Q) ∧ (¬ (M (plA x1) 3 = (-1 : Int)) → Q (some (vI (-3))) M))) : Rn sx L K0 R0 99 2 [vR 2, vI x1, vI x2, vU] [] M Q := by
  refine Rn_w (by decide) ?_
  show wpc sx L K0 R0 99 [(20, 1, .aload_n 0, []), (21, 3, .getfield 18, [8, 1, 567]), (24, 1, .iload_n 1, []), (25, 1, .aaload, []), (26, 1, .astore_n 3, []), (27, 1, .iload_n 2, []), (28, 1, .iconst 5, []), (29, 3, .if_icmp .gt 14, [3]), (32, 1, .aload_n 3, []), (33, 3, .getfield 96, [1, 3, 273]), (36, 1, .iconst (-1), []), (37, 3, .if_icmp .eq 6, [3]), (40, 2, .bipush (-3), []), (42, 1, .ireturn, [])] 0 [vR 2, vI x1, vI x2, vU] [] M Q
  simp only [w_al_0, w_gf_8_1, kin_T (ks_0), rs_0_1, w_il_1, w_aald, rpls hj0.1 hj0.2, arq_T (ks_5) ⟨by decide, by decide⟩, hj0.1, (show x1 < ((8 : Nat) : Int) from hj0.2), w_as_3 (c2I _), w_il_2, w_iconst, w_ic_gt, w_al_3, w_gf_1_3, kin_T (kpl (isPl_A hj0.1 hj0.2)), w_ic_eq, w_bipush, w_ret1 rk_99, true_and, and_true, true_or, or_true]
  exact h
theorem b_99_3 {sx : Int → Int} {L : Nat} {x1 : Int} {x2 : Int} {c3 : Nat} {M : Mem} {Q : Option AV → Mem → Prop} (h3 : isPl c3)
    (h : (x2 < 0 ∨ 7 < x2 → Rn sx L K0 R0 99 12 [vR 2, vI x1, vI x2, vR (c3 + 2)] [] M Q) ∧ (x2 = 0 → Rn sx L K0 R0 99 4 [vR 2, vI x1, vI x2, vR (c3 + 2)] [] M Q) ∧ (x2 = 1 → Rn sx L K0 R0 99 5 [vR 2, vI x1, vI x2, vR (c3 + 2)] [] M Q) ∧ (x2 = 2 → Rn sx L K0 R0 99 6 [vR 2, vI x1, vI x2, vR (c3 + 2)] [] M Q) ∧ (x2 = 3 → Rn sx L K0 R0 99 7 [vR 2, vI x1, vI x2, vR (c3 + 2)] [] M Q) ∧ (x2 = 4 → Rn sx L K0 R0 99 8 [vR 2, vI x1, vI x2, vR (c3 + 2)] [] M Q) ∧ (x2 = 5 → Rn sx L K0 R0 99 9 [vR 2, vI x1, vI x2, vR (c3 + 2)] [] M Q) ∧ (x2 = 6 → Rn sx L K0 R0 99 10 [vR 2, vI x1, vI x2, vR (c3 + 2)] [] M Q) ∧ (x2 = 7 → Rn sx L K0 R0 99 11 [vR 2, vI x1, vI x2, vR (c3 + 2)] [] M Q)) : Rn sx L K0 R0 99 3 [vR 2, vI x1, vI x2, vR (c3 + 2)] [] M Q := by
  refine Rn_w (by decide) ?_
  show wpc sx L K0 R0 99 [(43, 1, .iload_n 2, []), (44, 48, .tableswitch 98 0 7 #[48, 53, 58, 63, 68, 73, 78, 88], [12, 4, 5, 6, 7, 8, 9, 10, 11])] 0 [vR 2, vI x1, vI x2, vR (c3 + 2)] [] M Q
  simp only [w_il_2, w_tsw, swt, true_and, and_true, true_or, or_true]
  exact h
theorem b_99_4 {sx : Int → Int} {L : Nat} {x1 : Int} {x2 : Int} {c3 : Nat} {M : Mem} {Q : Option AV → Mem → Prop} (h3 : isPl c3)
    (h : Q (some (vI (M c3 4))) M) : Rn sx L K0 R0 99 4 [vR 2, vI x1, vI x2, vR (c3 + 2)] [] M Q := by
  refine Rn_w (by decide) ?_
  show wpc sx L K0 R0 99 [(92, 1, .aload_n 3, []), (93, 3, .getfield 99, [1, 4, 277]), (96, 1, .ireturn, [])] 0 [vR 2, vI x1, vI x2, vR (c3 + 2)] [] M Q
  simp only [w_al_3, w_gf_1_4, kin_T (kpl h3), w_ret1 rk_99, true_and, and_true, true_or, or_true]
  exact h
theorem b_99_5 {sx : Int → Int} {L : Nat} {x1 : Int} {x2 : Int} {c3 : Nat} {M : Mem} {Q : Option AV → Mem → Prop} (h3 : isPl c3)
    (h : Q (some (vI (M c3 5))) M) : Rn sx L K0 R0 99 5 [vR 2, vI x1, vI x2, vR (c3 + 2)] [] M Q := by
  refine Rn_w (by decide) ?_
  show wpc sx L K0 R0 99 [(97, 1, .aload_n 3, []), (98, 3, .getfield 102, [1, 5, 280]), (101, 1, .ireturn, [])] 0 [vR 2, vI x1, vI x2, vR (c3 + 2)] [] M Q
  simp only [w_al_3, w_gf_1_5, kin_T (kpl h3), w_ret1 rk_99, true_and, and_true, true_or, or_true]
  exact h
theorem b_99_6 {sx : Int → Int} {L : Nat} {x1 : Int} {x2 : Int} {c3 : Nat} {M : Mem} {Q : Option AV → Mem → Prop} (h3 : isPl c3)
    (h : Q (some (vI (M c3 6))) M) : Rn sx L K0 R0 99 6 [vR 2, vI x1, vI x2, vR (c3 + 2)] [] M Q := by
  refine Rn_w (by decide) ?_
  show wpc sx L K0 R0 99 [(102, 1, .aload_n 3, []), (103, 3, .getfield 105, [1, 6, 283]), (106, 1, .ireturn, [])] 0 [vR 2, vI x1, vI x2, vR (c3 + 2)] [] M Q
  simp only [w_al_3, w_gf_1_6, kin_T (kpl h3), w_ret1 rk_99, true_and, and_true, true_or, or_true]
  exact h
theorem b_99_7 {sx : Int → Int} {L : Nat} {x1 : Int} {x2 : Int} {c3 : Nat} {M : Mem} {Q : Option AV → Mem → Prop} (h3 : isPl c3)
    (h : Q (some (vI (M c3 10))) M) : Rn sx L K0 R0 99 7 [vR 2, vI x1, vI x2, vR (c3 + 2)] [] M Q := by
  refine Rn_w (by decide) ?_
  show wpc sx L K0 R0 99 [(107, 1, .aload_n 3, []), (108, 3, .getfield 108, [1, 10, 292]), (111, 1, .ireturn, [])] 0 [vR 2, vI x1, vI x2, vR (c3 + 2)] [] M Q
  simp only [w_al_3, w_gf_1_10, kin_T (kpl h3), w_ret1 rk_99, true_and, and_true, true_or, or_true]
  exact h
theorem b_99_8 {sx : Int → Int} {L : Nat} {x1 : Int} {x2 : Int} {c3 : Nat} {M : Mem} {Q : Option AV → Mem → Prop} (h3 : isPl c3)
    (h : Q (some (vI (M c3 9))) M) : Rn sx L K0 R0 99 8 [vR 2, vI x1, vI x2, vR (c3 + 2)] [] M Q := by
  refine Rn_w (by decide) ?_
  show wpc sx L K0 R0 99 [(112, 1, .aload_n 3, []), (113, 3, .getfield 111, [1, 9, 287]), (116, 1, .ireturn, [])] 0 [vR 2, vI x1, vI x2, vR (c3 + 2)] [] M Q
  simp only [w_al_3, w_gf_1_9, kin_T (kpl h3), w_ret1 rk_99, true_and, and_true, true_or, or_true]
  exact h
theorem b_99_9 {sx : Int → Int} {L : Nat} {x1 : Int} {x2 : Int} {c3 : Nat} {M : Mem} {Q : Option AV → Mem → Prop} (h3 : isPl c3)
    (h : Q (some (vI (M c3 12))) M) : Rn sx L K0 R0 99 9 [vR 2, vI x1, vI x2, vR (c3 + 2)] [] M Q := by
  refine Rn_w (by decide) ?_
  show wpc sx L K0 R0 99 [(117, 1, .aload_n 3, []), (118, 3, .getfield 114, [1, 12, 297]), (121, 1, .ireturn, [])] 0 [vR 2, vI x1, vI x2, vR (c3 + 2)] [] M Q
  simp only [w_al_3, w_gf_1_12, kin_T (kpl h3), w_ret1 rk_99, true_and, and_true, true_or, or_true]
  exact h
theorem b_99_10 {sx : Int → Int} {L : Nat} {x1 : Int} {x2 : Int} {c3 : Nat} {M : Mem} {Q : Option AV → Mem → Prop} (h3 : isPl c3)
    (h : ((0 : Int) ≤ x1 ∧ x1 < (8 : Int)) ∧ (Q (some (vI (M 7 x1))) M)) : Rn sx L K0 R0 99 10 [vR 2, vI x1, vI x2, vR (c3 + 2)] [] M Q := by
  refine Rn_w (by decide) ?_
  show wpc sx L K0 R0 99 [(122, 1, .aload_n 0, []), (123, 3, .getfield 25, [8, 2, 568]), (126, 3, .getfield 117, [5, 1, 207]), (129, 1, .iload_n 1, []), (130, 1, .iaload, []), (131, 1, .ireturn, [])] 0 [vR 2, vI x1, vI x2, vR (c3 + 2)] [] M Q
  simp only [w_al_0, w_gf_8_2, kin_T (ks_0), rs_0_2, w_gf_5_1, kin_T (ks_6), (rst1 (c := 6) (by unfold isSt; omega)), w_il_1, w_iald, arr_T (ks_7), w_ret1 rk_99, true_and, and_true, true_or, or_true]
  exact h
theorem b_99_11 {sx : Int → Int} {L : Nat} {x1 : Int} {x2 : Int} {c3 : Nat} {M : Mem} {Q : Option AV → Mem → Prop} (h3 : isPl c3)
    (h : ((0 : Int) ≤ x1 ∧ x1 < (8 : Int)) ∧ (Q (some (vI (M 8 x1))) M)) : Rn sx L K0 R0 99 11 [vR 2, vI x1, vI x2, vR (c3 + 2)] [] M Q := by
  refine Rn_w (by decide) ?_
  show wpc sx L K0 R0 99 [(132, 1, .aload_n 0, []), (133, 3, .getfield 25, [8, 2, 568]), (136, 3, .getfield 121, [5, 2, 209]), (139, 1, .iload_n 1, []), (140, 1, .iaload, []), (141, 1, .ireturn, [])] 0 [vR 2, vI x1, vI x2, vR (c3 + 2)] [] M Q
  simp only [w_al_0, w_gf_8_2, kin_T (ks_0), rs_0_2, w_gf_5_2, kin_T (ks_6), (rst2 (c := 6) (by unfold isSt; omega)), w_il_1, w_iald, arr_T (ks_8), w_ret1 rk_99, true_and, and_true, true_or, or_true]
  exact h
theorem b_99_12 {sx : Int → Int} {L : Nat} {x1 : Int} {x2 : Int} {c3 : Nat} {M : Mem} {Q : Option AV → Mem → Prop} (h3 : isPl c3)
    (h : Mq sx L K0 R0 78 [vR 8, vI x1] M (fun rv M1 => ∃ r1, rv = some (vI r1) ∧ ((r1 = (0 : Int) → Rn sx L K0 R0 99 13 [vR 2, vI x1, vI x2, vR (c3 + 2)] [] M1 Q) ∧ (¬ (r1 = (0 : Int)) → Rn sx L K0 R0 99 14 [vR 2, vI x1, vI x2, vR (c3 + 2)] [vI 1] M1 Q)))) : Rn sx L K0 R0 99 12 [vR 2, vI x1, vI x2, vR (c3 + 2)] [] M Q := by
  refine Rn_w (by decide) ?_
  show wpc sx L K0 R0 99 [(142, 1, .aload_n 0, []), (143, 3, .getfield 25, [8, 2, 568]), (146, 1, .iload_n 1, []), (147, 3, .invokevirtual 124, [78, 687, 1]), (150, 3, .ifCond .eq 7, [13]), (153, 1, .iconst 1, []), (154, 3, .goto 4, [14])] 0 [vR 2, vI x1, vI x2, vR (c3 + 2)] [] M Q
  simp only [w_al_0, w_gf_8_2, kin_T (ks_0), rs_0_2, w_il_1, w_ivv_1 (c2I _) cs0, mk_78, kin_T (ks_6), rk_78, rvk2, List.cons_append, List.nil_append, w_if_eq, w_iconst, w_goto, true_and, and_true, true_or, or_true]
  exact h
theorem b_99_13 {sx : Int → Int} {L : Nat} {x1 : Int} {x2 : Int} {c3 : Nat} {M : Mem} {Q : Option AV → Mem → Prop} (h3 : isPl c3)
    (h : Rn sx L K0 R0 99 14 [vR 2, vI x1, vI x2, vR (c3 + 2)] [vI 0] M Q) : Rn sx L K0 R0 99 13 [vR 2, vI x1, vI x2, vR (c3 + 2)] [] M Q := by
  refine Rn_w (by decide) ?_
  show wpc sx L K0 R0 99 [(157, 1, .iconst 0, [])] 14 [vR 2, vI x1, vI x2, vR (c3 + 2)] [] M Q
  simp only [w_iconst, w_fall, true_and, and_true, true_or, or_true]
  exact h
theorem b_99_14 {sx : Int → Int} {L : Nat} {x1 : Int} {x2 : Int} {c3 : Nat} {y0 : Int} {M : Mem} {Q : Option AV → Mem → Prop} (h3 : isPl c3)
    (h : Q (some (vI y0)) M) : Rn sx L K0 R0 99 14 [vR 2, vI x1, vI x2, vR (c3 + 2)] [vI y0] M Q := by
  refine Rn_w (by decide) ?_
  show wpc sx L K0 R0 99 [(158, 1, .ireturn, [])] 0 [vR 2, vI x1, vI x2, vR (c3 + 2)] [vI y0] M Q
  simp only [w_ret1 rk_99, true_and, and_true, true_or, or_true]
  exact h
theorem b_100_0 {sx : Int → Int} {L : Nat} {x1 : Int} {x2 : Int} {x3 : Int} {M : Mem} {Q : Option AV → Mem → Prop} 
    (h : Mq sx L K0 R0 125 [vI x1] M (fun rv M1 => ∃ r1, rv = some (vI r1) ∧ ((r1 = (0 : Int) → Rn sx L K0 R0 100 1 [vR 2, vI x1, vI x2, vI x3, vU, vU] [] M1 Q) ∧ (¬ (r1 = (0 : Int)) → (x2 < (0 : Int) → Rn sx L K0 R0 100 1 [vR 2, vI x1, vI x2, vI x3, vU, vU] [] M1 Q) ∧ (¬ (x2 < (0 : Int)) → ((1 : Int) < x2 → Rn sx L K0 R0 100 1 [vR 2, vI x1, vI x2, vI x3, vU, vU] [] M1 Q) ∧ (¬ ((1 : Int) < x2) → (x3 < (0 : Int) → Rn sx L K0 R0 100 1 [vR 2, vI x1, vI x2, vI x3, vU, vU] [] M1 Q) ∧ (¬ (x3 < (0 : Int)) → (x3 ≤ (99 : Int) → Rn sx L K0 R0 100 2 [vR 2, vI x1, vI x2, vI x3, vU, vU] [] M1 Q) ∧ (¬ (x3 ≤ (99 : Int)) → Rn sx L K0 R0 100 1 [vR 2, vI x1, vI x2, vI x3, vU, vU] [] M1 Q)))))))) : Rn sx L K0 R0 100 0 [vR 2, vI x1, vI x2, vI x3, vU, vU] [] M Q := by
  refine Rn_w (by decide) ?_
  show wpc sx L K0 R0 100 [(0, 1, .iload_n 1, []), (1, 3, .invokestatic 87, [125, 668, 1]), (4, 3, .ifCond .eq 22, [1]), (7, 1, .iload_n 2, []), (8, 3, .ifCond .lt 18, [1]), (11, 1, .iload_n 2, []), (12, 1, .iconst 1, []), (13, 3, .if_icmp .gt 13, [1]), (16, 1, .iload_n 3, []), (17, 3, .ifCond .lt 9, [1]), (20, 1, .iload_n 3, []), (21, 2, .bipush 99, []), (23, 3, .if_icmp .le 6, [2])] 1 [vR 2, vI x1, vI x2, vI x3, vU, vU] [] M Q
  simp only [w_il_1, w_ivs_1 (c2I _) cs0, rk_125, rvk2, List.cons_append, List.nil_append, w_if_eq, w_il_2, w_if_lt, w_iconst, w_ic_gt, w_il_3, w_bipush, w_ic_le, w_fall, true_and, and_true, true_or, or_true]
  exact h
theorem b_100_1 {sx : Int → Int} {L : Nat} {x1 : Int} {x2 : Int} {x3 : Int} {M : Mem} {Q : Option AV → Mem → Prop} 
    (h : Q (some (vI (-2))) M) : Rn sx L K0 R0 100 1 [vR 2, vI x1, vI x2, vI x3, vU, vU] [] M Q := by
  refine Rn_w (by decide) ?_
  show wpc sx L K0 R0 100 [(26, 2, .bipush (-2), []), (28, 1, .ireturn, [])] 0 [vR 2, vI x1, vI x2, vI x3, vU, vU] [] M Q
  simp only [w_bipush, w_ret1 rk_100, true_and, and_true, true_or, or_true]
  exact h
theorem b_100_2 {sx : Int → Int} {L : Nat} {x1 : Int} {x2 : Int} {x3 : Int} {M : Mem} {Q : Option AV → Mem → Prop} 
    (h : (¬ x2 = (0 : Int) → Rn sx L K0 R0 100 3 [vR 2, vI x1, vI x2, vI x3, vU, vU] [] M Q) ∧ (¬ (¬ x2 = (0 : Int)) → Rn sx L K0 R0 100 4 [vR 2, vI x1, vI x2, vI x3, vU, vU] [vR 9] M Q)) : Rn sx L K0 R0 100 2 [vR 2, vI x1, vI x2, vI x3, vU, vU] [] M Q := by
  refine Rn_w (by decide) ?_
  show wpc sx L K0 R0 100 [(29, 1, .iload_n 2, []), (30, 3, .ifCond .ne 13, [3]), (33, 1, .aload_n 0, []), (34, 3, .getfield 25, [8, 2, 568]), (37, 3, .getfield 117, [5, 1, 207]), (40, 3, .goto 10, [4])] 0 [vR 2, vI x1, vI x2, vI x3, vU, vU] [] M Q
  simp only [w_il_2, w_if_ne, w_al_0, w_gf_8_2, kin_T (ks_0), rs_0_2, w_gf_5_1, kin_T (ks_6), (rst1 (c := 6) (by unfold isSt; omega)), w_goto, true_and, and_true, true_or, or_true]
  exact h
theorem b_100_3 {sx : Int → Int} {L : Nat} {x1 : Int} {x2 : Int} {x3 : Int} {M : Mem} {Q : Option AV → Mem → Prop} 
    (h : Rn sx L K0 R0 100 4 [vR 2, vI x1, vI x2, vI x3, vU, vU] [vR 10] M Q) : Rn sx L K0 R0 100 3 [vR 2, vI x1, vI x2, vI x3, vU, vU] [] M Q := by
  refine Rn_w (by decide) ?_
  show wpc sx L K0 R0 100 [(43, 1, .aload_n 0, []), (44, 3, .getfield 25, [8, 2, 568]), (47, 3, .getfield 121, [5, 2, 209])] 4 [vR 2, vI x1, vI x2, vI x3, vU, vU] [] M Q
  simp only [w_al_0, w_gf_8_2, kin_T (ks_0), rs_0_2, w_gf_5_2, kin_T (ks_6), (rst2 (c := 6) (by unfold isSt; omega)), w_fall, true_and, and_true, true_or, or_true]
  exact h
theorem b_100_4 {sx : Int → Int} {L : Nat} {x1 : Int} {x2 : Int} {x3 : Int} {d0 : Nat} {M : Mem} {Q : Option AV → Mem → Prop} (k0 : K0[d0]? = some (10, 8))
    (h : ((0 : Int) ≤ x1 ∧ x1 < (8 : Int)) ∧ (((0 : Int) ≤ x1 ∧ x1 < (8 : Int)) ∧ (Mq sx L K0 R0 134 [vR 2] (mset M d0 x1 x3) (fun rv M1 => rv = none ∧ (Q (some (vI (M d0 x1))) M1))))) : Rn sx L K0 R0 100 4 [vR 2, vI x1, vI x2, vI x3, vU, vU] [vR (d0 + 2)] M Q := by
  refine Rn_w (by decide) ?_
  show wpc sx L K0 R0 100 [(50, 2, .astore 4, []), (52, 2, .aload 4, []), (54, 1, .iload_n 1, []), (55, 1, .iaload, []), (56, 2, .istore 5, []), (58, 2, .aload 4, []), (60, 1, .iload_n 1, []), (61, 1, .iload_n 3, []), (62, 1, .iastore, []), (63, 1, .aload_n 0, []), (64, 3, .invokevirtual 76, [134, 648, 0]), (67, 2, .iload 5, []), (69, 1, .ireturn, [])] 0 [vR 2, vI x1, vI x2, vI x3, vU, vU] [vR (d0 + 2)] M Q
  simp only [w_as_4 (c2I _), w_al_4, w_il_1, w_iald, arr_T (k0), w_is_5 (c2R _), w_il_3, w_iast, w_al_0, w_ivv_0  cs0, mk_134, kin_T (ks_0), rk_134, rvk0, List.nil_append, w_il_5, w_ret1 rk_100, true_and, and_true, true_or, or_true]
  exact h
theorem b_101_0 {sx : Int → Int} {L : Nat} {x1 : Int} {x2 : Int} {M : Mem} {Q : Option AV → Mem → Prop} 
    (h : Mq sx L K0 R0 125 [vI x1] M (fun rv M1 => ∃ r1, rv = some (vI r1) ∧ ((¬ r1 = (0 : Int) → Rn sx L K0 R0 101 1 [vR 2, vI x1, vI x2] [] M1 Q) ∧ (¬ (¬ r1 = (0 : Int)) → Q (some (vI (-2))) M1)))) : Rn sx L K0 R0 101 0 [vR 2, vI x1, vI x2] [] M Q := by
  refine Rn_w (by decide) ?_
  show wpc sx L K0 R0 101 [(0, 1, .iload_n 1, []), (1, 3, .invokestatic 87, [125, 668, 1]), (4, 3, .ifCond .ne 6, [1]), (7, 2, .bipush (-2), []), (9, 1, .ireturn, [])] 0 [vR 2, vI x1, vI x2] [] M Q
  simp only [w_il_1, w_ivs_1 (c2I _) cs0, rk_125, rvk2, List.cons_append, List.nil_append, w_if_ne, w_bipush, w_ret1 rk_101, true_and, and_true, true_or, or_true]
  exact h
theorem b_101_1 {sx : Int → Int} {L : Nat} {x1 : Int} {x2 : Int} {M : Mem} {Q : Option AV → Mem → Prop} 
    (h : ((0 : Int) ≤ M 0 8 ∧ (0 : Int) ≤ x1 ∧ x1 ≤ (30 : Int)) ∧ ((iAnd ((M 0 8) / 2 ^ (x1).toNat) 1 = (0 : Int) → Rn sx L K0 R0 101 2 [vR 2, vI x1, vI x2] [] M Q) ∧ (¬ (iAnd ((M 0 8) / 2 ^ (x1).toNat) 1 = (0 : Int)) → Rn sx L K0 R0 101 3 [vR 2, vI x1, vI x2] [vI 1] M Q))) : Rn sx L K0 R0 101 1 [vR 2, vI x1, vI x2] [] M Q := by
  refine Rn_w (by decide) ?_
  show wpc sx L K0 R0 101 [(10, 1, .aload_n 0, []), (11, 3, .getfield 127, [8, 8, 574]), (14, 1, .iload_n 1, []), (15, 1, .ishr, []), (16, 1, .iconst 1, []), (17, 1, .iand, []), (18, 3, .ifCond .eq 7, [2]), (21, 1, .iconst 1, []), (22, 3, .goto 4, [3])] 0 [vR 2, vI x1, vI x2] [] M Q
  simp only [w_al_0, w_gf_8_8, kin_T (ks_0), w_il_1, w_ishr, w_iconst, w_iand, w_if_eq, w_goto, true_and, and_true, true_or, or_true]
  exact h
theorem b_101_2 {sx : Int → Int} {L : Nat} {x1 : Int} {x2 : Int} {M : Mem} {Q : Option AV → Mem → Prop} 
    (h : Rn sx L K0 R0 101 3 [vR 2, vI x1, vI x2] [vI 0] M Q) : Rn sx L K0 R0 101 2 [vR 2, vI x1, vI x2] [] M Q := by
  refine Rn_w (by decide) ?_
  show wpc sx L K0 R0 101 [(25, 1, .iconst 0, [])] 3 [vR 2, vI x1, vI x2] [] M Q
  simp only [w_iconst, w_fall, true_and, and_true, true_or, or_true]
  exact h
theorem b_101_3 {sx : Int → Int} {L : Nat} {x1 : Int} {x2 : Int} {y0 : Int} {M : Mem} {Q : Option AV → Mem → Prop} 
    (h : (¬ y0 = x2 → Rn sx L K0 R0 101 4 [vR 2, vI x1, vI x2] [] M Q) ∧ (¬ (¬ y0 = x2) → Q (some (vI 0)) M)) : Rn sx L K0 R0 101 3 [vR 2, vI x1, vI x2] [vI y0] M Q := by
  refine Rn_w (by decide) ?_
  show wpc sx L K0 R0 101 [(26, 1, .iload_n 2, []), (27, 3, .if_icmp .ne 5, [4]), (30, 1, .iconst 0, []), (31, 1, .ireturn, [])] 0 [vR 2, vI x1, vI x2] [vI y0] M Q
  simp only [w_il_2, w_ic_ne, w_iconst, w_ret1 rk_101, true_and, and_true, true_or, or_true]
  exact h
theorem b_101_4 {sx : Int → Int} {L : Nat} {x1 : Int} {x2 : Int} {M : Mem} {Q : Option AV → Mem → Prop} 
    (h : ((0 : Int) ≤ (1 : Int) ∧ (0 : Int) ≤ x1 ∧ x1 ≤ (30 : Int) ∧ (1 : Int) * 2 ^ (x1).toNat ≤ (2147483647 : Int)) ∧ (Mq sx L K0 R0 134 [vR 2] (mset M 0 8 (iXor (M 0 8) ((1 : Int) * 2 ^ (x1).toNat))) (fun rv M1 => rv = none ∧ (Q (some (vI 1)) M1)))) : Rn sx L K0 R0 101 4 [vR 2, vI x1, vI x2] [] M Q := by
  refine Rn_w (by decide) ?_
  show wpc sx L K0 R0 101 [(32, 1, .aload_n 0, []), (33, 1, .dup, []), (34, 3, .getfield 127, [8, 8, 574]), (37, 1, .iconst 1, []), (38, 1, .iload_n 1, []), (39, 1, .ishl, []), (40, 1, .ixor, []), (41, 3, .putfield 127, [8, 8, 574]), (44, 1, .aload_n 0, []), (45, 3, .invokevirtual 76, [134, 648, 0]), (48, 1, .iconst 1, []), (49, 1, .ireturn, [])] 0 [vR 2, vI x1, vI x2] [] M Q
  simp only [w_al_0, w_dup (c2R _), w_gf_8_8, kin_T (ks_0), w_iconst, w_il_1, w_ishl, w_ixor, w_pf_8_8, w_ivv_0  cs0, mk_134, rk_134, rvk0, List.nil_append, w_ret1 rk_101, true_and, and_true, true_or, or_true]
  exact h
theorem b_102_0 {sx : Int → Int} {L : Nat} {x1 : Int} {x2 : Int} {M : Mem} {Q : Option AV → Mem → Prop} 
    (h : (x1 < (0 : Int) → Rn sx L K0 R0 102 1 [vR 2, vI x1, vI x2, vU] [] M Q) ∧ (¬ (x1 < (0 : Int)) → ((3 : Int) < x1 → Rn sx L K0 R0 102 1 [vR 2, vI x1, vI x2, vU] [] M Q) ∧ (¬ ((3 : Int) < x1) → Mq sx L K0 R0 129 [vI x1] M (fun rv M1 => ∃ r1, rv = some (vI r1) ∧ ((x2 < r1 → Rn sx L K0 R0 102 1 [vR 2, vI x1, vI x2, vU] [] M1 Q) ∧ (¬ (x2 < r1) → Mq sx L K0 R0 130 [vI x1] M1 (fun rv M2 => ∃ r2, rv = some (vI r2) ∧ ((x2 ≤ r2 → Rn sx L K0 R0 102 2 [vR 2, vI x1, vI x2, vU] [] M2 Q) ∧ (¬ (x2 ≤ r2) → Rn sx L K0 R0 102 1 [vR 2, vI x1, vI x2, vU] [] M2 Q))))))))) : Rn sx L K0 R0 102 0 [vR 2, vI x1, vI x2, vU] [] M Q := by
  refine Rn_w (by decide) ?_
  show wpc sx L K0 R0 102 [(0, 1, .iload_n 1, []), (1, 3, .ifCond .lt 24, [1]), (4, 1, .iload_n 1, []), (5, 1, .iconst 3, []), (6, 3, .if_icmp .gt 19, [1]), (9, 1, .iload_n 2, []), (10, 1, .iload_n 1, []), (11, 3, .invokestatic 130, [129, 703, 1]), (14, 3, .if_icmp .lt 11, [1]), (17, 1, .iload_n 2, []), (18, 1, .iload_n 1, []), (19, 3, .invokestatic 134, [130, 706, 1]), (22, 3, .if_icmp .le 6, [2])] 1 [vR 2, vI x1, vI x2, vU] [] M Q
  simp only [w_il_1, w_if_lt, w_iconst, w_ic_gt, w_il_2, w_ivs_1 (c2I _) (cs1 _), rk_129, rvk1, List.cons_append, List.nil_append, w_ic_lt, rk_130, w_ic_le, w_fall, true_and, and_true, true_or, or_true]
  exact h
theorem b_102_1 {sx : Int → Int} {L : Nat} {x1 : Int} {x2 : Int} {M : Mem} {Q : Option AV → Mem → Prop} 
    (h : Q (some (vI (-2))) M) : Rn sx L K0 R0 102 1 [vR 2, vI x1, vI x2, vU] [] M Q := by
  refine Rn_w (by decide) ?_
  show wpc sx L K0 R0 102 [(25, 2, .bipush (-2), []), (27, 1, .ireturn, [])] 0 [vR 2, vI x1, vI x2, vU] [] M Q
  simp only [w_bipush, w_ret1 rk_102, true_and, and_true, true_or, or_true]
  exact h
theorem b_102_2 {sx : Int → Int} {L : Nat} {x1 : Int} {x2 : Int} {M : Mem} {Q : Option AV → Mem → Prop} 
    (h : Mq sx L K0 R0 76 [vR 8, vI x1] M (fun rv M1 => ∃ r1, rv = some (vI r1) ∧ (Mq sx L K0 R0 77 [vR 8, vI x1, vI x2] M1 (fun rv M2 => rv = none ∧ (Mq sx L K0 R0 134 [vR 2] M2 (fun rv M3 => rv = none ∧ (Q (some (vI r1)) M3))))))) : Rn sx L K0 R0 102 2 [vR 2, vI x1, vI x2, vU] [] M Q := by
  refine Rn_w (by decide) ?_
  show wpc sx L K0 R0 102 [(28, 1, .aload_n 0, []), (29, 3, .getfield 25, [8, 2, 568]), (32, 1, .iload_n 1, []), (33, 3, .invokevirtual 137, [76, 709, 1]), (36, 1, .istore_n 3, []), (37, 1, .aload_n 0, []), (38, 3, .getfield 25, [8, 2, 568]), (41, 1, .iload_n 1, []), (42, 1, .iload_n 2, []), (43, 3, .invokevirtual 140, [77, 713, 2]), (46, 1, .aload_n 0, []), (47, 3, .invokevirtual 76, [134, 648, 0]), (50, 1, .iload_n 3, []), (51, 1, .ireturn, [])] 0 [vR 2, vI x1, vI x2, vU] [] M Q
  simp only [w_al_0, w_gf_8_2, kin_T (ks_0), rs_0_2, w_il_1, w_ivv_1 (c2I _) cs0, mk_76, kin_T (ks_6), rk_76, rvk1, List.cons_append, List.nil_append, w_is_3 (c2I _), w_il_2, w_ivv_2 (c2I _) (c2I _) cs0, mk_77, rk_77, rvk0, w_ivv_0  cs0, mk_134, rk_134, w_il_3, w_ret1 rk_102, true_and, and_true, true_or, or_true]
  exact h
theorem b_103_0 {sx : Int → Int} {L : Nat} {x1 : Int} {x2 : Int} {M : Mem} {Q : Option AV → Mem → Prop} 
    (h : Mq sx L K0 R0 131 [vR 2, vI x1] M (fun rv M1 => ∃ r1, rv = some (vI r1) ∧ ((r1 = (0 : Int) → Rn sx L K0 R0 103 1 [vR 2, vI x1, vI x2] [] M1 Q) ∧ (¬ (r1 = (0 : Int)) → (x2 < (0 : Int) → Rn sx L K0 R0 103 1 [vR 2, vI x1, vI x2] [] M1 Q) ∧ (¬ (x2 < (0 : Int)) → (x2 < M1 6 6 → Rn sx L K0 R0 103 2 [vR 2, vI x1, vI x2] [] M1 Q) ∧ (¬ (x2 < M1 6 6) → Rn sx L K0 R0 103 1 [vR 2, vI x1, vI x2] [] M1 Q)))))) : Rn sx L K0 R0 103 0 [vR 2, vI x1, vI x2] [] M Q := by
  refine Rn_w (by decide) ?_
  show wpc sx L K0 R0 103 [(0, 1, .aload_n 0, []), (1, 1, .iload_n 1, []), (2, 3, .invokevirtual 144, [131, 721, 1]), (5, 3, .ifCond .eq 18, [1]), (8, 1, .iload_n 2, []), (9, 3, .ifCond .lt 14, [1]), (12, 1, .iload_n 2, []), (13, 1, .aload_n 0, []), (14, 3, .getfield 25, [8, 2, 568]), (17, 3, .getfield 147, [5, 6, 225]), (20, 3, .if_icmp .lt 6, [2])] 1 [vR 2, vI x1, vI x2] [] M Q
  simp only [w_al_0, w_il_1, w_ivv_1 (c2I _) cs0, mk_131, kin_T (ks_0), rk_131, rvk2, List.cons_append, List.nil_append, w_if_eq, w_il_2, w_if_lt, w_gf_8_2, rs_0_2, w_gf_5_6, kin_T (ks_6), w_ic_lt, w_fall, true_and, and_true, true_or, or_true]
  exact h
theorem b_103_1 {sx : Int → Int} {L : Nat} {x1 : Int} {x2 : Int} {M : Mem} {Q : Option AV → Mem → Prop} 
    (h : Q (some (vI (-2))) M) : Rn sx L K0 R0 103 1 [vR 2, vI x1, vI x2] [] M Q := by
  refine Rn_w (by decide) ?_
  show wpc sx L K0 R0 103 [(23, 2, .bipush (-2), []), (25, 1, .ireturn, [])] 0 [vR 2, vI x1, vI x2] [] M Q
  simp only [w_bipush, w_ret1 rk_103, true_and, and_true, true_or, or_true]
  exact h
theorem b_103_2 {sx : Int → Int} {L : Nat} {x1 : Int} {x2 : Int} {M : Mem} {Q : Option AV → Mem → Prop} 
    (h : Mq sx L K0 R0 135 [vR 2] M (fun rv M1 => rv = none ∧ (Mq sx L K0 R0 50 [vR 54, vI x1, vI x2] M1 (fun rv M2 => ∃ r1, rv = some (vI r1) ∧ (Q (some (vI r1)) M2))))) : Rn sx L K0 R0 103 2 [vR 2, vI x1, vI x2] [] M Q := by
  refine Rn_w (by decide) ?_
  show wpc sx L K0 R0 103 [(26, 1, .aload_n 0, []), (27, 3, .invokevirtual 150, [135, 725, 0]), (30, 1, .aload_n 0, []), (31, 3, .getfield 51, [8, 4, 570]), (34, 1, .iload_n 1, []), (35, 1, .iload_n 2, []), (36, 3, .invokevirtual 153, [50, 836, 2]), (39, 1, .ireturn, [])] 0 [vR 2, vI x1, vI x2] [] M Q
  simp only [w_al_0, w_ivv_0  cs0, mk_135, kin_T (ks_0), rk_135, rvk0, List.nil_append, w_gf_8_4, rs_0_4, w_il_1, w_il_2, w_ivv_2 (c2I _) (c2I _) cs0, mk_50, kin_T (ks_52), rk_50, rvk1, List.cons_append, w_ret1 rk_103, true_and, and_true, true_or, or_true]
  exact h
theorem b_104_0 {sx : Int → Int} {L : Nat} {x1 : Int} {x2 : Int} {M : Mem} {Q : Option AV → Mem → Prop} 
    (h : Mq sx L K0 R0 125 [vI x1] M (fun rv M1 => ∃ r1, rv = some (vI r1) ∧ ((r1 = (0 : Int) → Rn sx L K0 R0 104 1 [vR 2, vI x1, vI x2] [] M1 Q) ∧ (¬ (r1 = (0 : Int)) → Mq sx L K0 R0 131 [vR 2, vI x2] M1 (fun rv M2 => ∃ r2, rv = some (vI r2) ∧ ((¬ r2 = (0 : Int) → Rn sx L K0 R0 104 2 [vR 2, vI x1, vI x2] [] M2 Q) ∧ (¬ (¬ r2 = (0 : Int)) → Rn sx L K0 R0 104 1 [vR 2, vI x1, vI x2] [] M2 Q))))))) : Rn sx L K0 R0 104 0 [vR 2, vI x1, vI x2] [] M Q := by
  refine Rn_w (by decide) ?_
  show wpc sx L K0 R0 104 [(0, 1, .iload_n 1, []), (1, 3, .invokestatic 87, [125, 668, 1]), (4, 3, .ifCond .eq 11, [1]), (7, 1, .aload_n 0, []), (8, 1, .iload_n 2, []), (9, 3, .invokevirtual 144, [131, 721, 1]), (12, 3, .ifCond .ne 6, [2])] 1 [vR 2, vI x1, vI x2] [] M Q
  simp only [w_il_1, w_ivs_1 (c2I _) cs0, rk_125, rvk2, List.cons_append, List.nil_append, w_if_eq, w_al_0, w_il_2, w_ivv_1 (c2I _) cs0, mk_131, kin_T (ks_0), rk_131, w_if_ne, w_fall, true_and, and_true, true_or, or_true]
  exact h
theorem b_104_1 {sx : Int → Int} {L : Nat} {x1 : Int} {x2 : Int} {M : Mem} {Q : Option AV → Mem → Prop} 
    (h : Q (some (vI (-2))) M) : Rn sx L K0 R0 104 1 [vR 2, vI x1, vI x2] [] M Q := by
  refine Rn_w (by decide) ?_
  show wpc sx L K0 R0 104 [(15, 2, .bipush (-2), []), (17, 1, .ireturn, [])] 0 [vR 2, vI x1, vI x2] [] M Q
  simp only [w_bipush, w_ret1 rk_104, true_and, and_true, true_or, or_true]
  exact h
theorem b_104_2 {sx : Int → Int} {L : Nat} {x1 : Int} {x2 : Int} {M : Mem} {Q : Option AV → Mem → Prop} 
    (h : Mq sx L K0 R0 135 [vR 2] M (fun rv M1 => rv = none ∧ (Mq sx L K0 R0 51 [vR 54, vI x1, vI x2] M1 (fun rv M2 => ∃ r1, rv = some (vI r1) ∧ (Q (some (vI r1)) M2))))) : Rn sx L K0 R0 104 2 [vR 2, vI x1, vI x2] [] M Q := by
  refine Rn_w (by decide) ?_
  show wpc sx L K0 R0 104 [(18, 1, .aload_n 0, []), (19, 3, .invokevirtual 150, [135, 725, 0]), (22, 1, .aload_n 0, []), (23, 3, .getfield 51, [8, 4, 570]), (26, 1, .iload_n 1, []), (27, 1, .iload_n 2, []), (28, 3, .invokevirtual 156, [51, 844, 2]), (31, 1, .ireturn, [])] 0 [vR 2, vI x1, vI x2] [] M Q
  simp only [w_al_0, w_ivv_0  cs0, mk_135, kin_T (ks_0), rk_135, rvk0, List.nil_append, w_gf_8_4, rs_0_4, w_il_1, w_il_2, w_ivv_2 (c2I _) (c2I _) cs0, mk_51, kin_T (ks_52), rk_51, rvk1, List.cons_append, w_ret1 rk_104, true_and, and_true, true_or, or_true]
  exact h
theorem b_105_0 {sx : Int → Int} {L : Nat} {x1 : Int} {x2 : Int} {M : Mem} {Q : Option AV → Mem → Prop} 
    (h : Mq sx L K0 R0 125 [vI x1] M (fun rv M1 => ∃ r1, rv = some (vI r1) ∧ ((r1 = (0 : Int) → Rn sx L K0 R0 105 1 [vR 2, vI x1, vI x2] [] M1 Q) ∧ (¬ (r1 = (0 : Int)) → ((0 : Int) ≤ x2 → Rn sx L K0 R0 105 2 [vR 2, vI x1, vI x2] [] M1 Q) ∧ (¬ ((0 : Int) ≤ x2) → Rn sx L K0 R0 105 1 [vR 2, vI x1, vI x2] [] M1 Q))))) : Rn sx L K0 R0 105 0 [vR 2, vI x1, vI x2] [] M Q := by
  refine Rn_w (by decide) ?_
  show wpc sx L K0 R0 105 [(0, 1, .iload_n 1, []), (1, 3, .invokestatic 87, [125, 668, 1]), (4, 3, .ifCond .eq 7, [1]), (7, 1, .iload_n 2, []), (8, 3, .ifCond .ge 6, [2])] 1 [vR 2, vI x1, vI x2] [] M Q
  simp only [w_il_1, w_ivs_1 (c2I _) cs0, rk_125, rvk2, List.cons_append, List.nil_append, w_if_eq, w_il_2, w_if_ge, w_fall, true_and, and_true, true_or, or_true]
  exact h
theorem b_105_1 {sx : Int → Int} {L : Nat} {x1 : Int} {x2 : Int} {M : Mem} {Q : Option AV → Mem → Prop} 
    (h : Q (some (vI (-2))) M) : Rn sx L K0 R0 105 1 [vR 2, vI x1, vI x2] [] M Q := by
  refine Rn_w (by decide) ?_
  show wpc sx L K0 R0 105 [(11, 2, .bipush (-2), []), (13, 1, .ireturn, [])] 0 [vR 2, vI x1, vI x2] [] M Q
  simp only [w_bipush, w_ret1 rk_105, true_and, and_true, true_or, or_true]
  exact h
theorem b_105_2 {sx : Int → Int} {L : Nat} {x1 : Int} {x2 : Int} {M : Mem} {Q : Option AV → Mem → Prop} (hj0 : 0 ≤ x1 ∧ x1 < 8)
    (h : Mq sx L K0 R0 135 [vR 2] M (fun rv M1 => rv = none ∧ (Mq sx L K0 R0 8 [vR (ckA 52 x1 + 2), vI x2] M1 (fun rv M2 => ∃ r1, rv = some (vI r1) ∧ (Q (some (vI r1)) M2))))) : Rn sx L K0 R0 105 2 [vR 2, vI x1, vI x2] [] M Q := by
  refine Rn_w (by decide) ?_
  show wpc sx L K0 R0 105 [(14, 1, .aload_n 0, []), (15, 3, .invokevirtual 150, [135, 725, 0]), (18, 1, .aload_n 0, []), (19, 3, .getfield 51, [8, 4, 570]), (22, 3, .getfield 159, [3, 1, 447]), (25, 1, .iload_n 1, []), (26, 1, .aaload, []), (27, 1, .iload_n 2, []), (28, 3, .invokevirtual 163, [8, 852, 1]), (31, 1, .ireturn, [])] 0 [vR 2, vI x1, vI x2] [] M Q
  simp only [w_al_0, w_ivv_0  cs0, mk_135, kin_T (ks_0), rk_135, rvk0, List.nil_append, w_gf_8_4, rs_0_4, w_gf_3_1, kin_T (ks_52), (rrb1 (c := 52) (by unfold isRb; omega)), w_il_1, w_aald, rcks (c := 52) (by unfold isRb; omega) hj0.1 hj0.2, arq_T (ks_53) ⟨by decide, by decide⟩, hj0.1, (show x1 < ((8 : Nat) : Int) from hj0.2), w_il_2, w_ivv_1 (c2I _) cs0, mk_8, kin_T (kck (isCk_A (B := 52) (by unfold isRb; omega) hj0.1 hj0.2)), rk_8, rvk1, List.cons_append, w_ret1 rk_105, true_and, and_true, true_or, or_true]
  exact h
theorem b_106_0 {sx : Int → Int} {L : Nat} {x1 : Int} {x2 : Int} {M : Mem} {Q : Option AV → Mem → Prop} 
    (h : Mq sx L K0 R0 125 [vI x1] M (fun rv M1 => ∃ r1, rv = some (vI r1) ∧ ((r1 = (0 : Int) → Rn sx L K0 R0 106 1 [vR 2, vI x1, vI x2, vU] [] M1 Q) ∧ (¬ (r1 = (0 : Int)) → (x2 < (0 : Int) → Rn sx L K0 R0 106 1 [vR 2, vI x1, vI x2, vU] [] M1 Q) ∧ (¬ (x2 < (0 : Int)) → (x2 ≤ (6 : Int) → Rn sx L K0 R0 106 2 [vR 2, vI x1, vI x2, vU] [] M1 Q) ∧ (¬ (x2 ≤ (6 : Int)) → Rn sx L K0 R0 106 1 [vR 2, vI x1, vI x2, vU] [] M1 Q)))))) : Rn sx L K0 R0 106 0 [vR 2, vI x1, vI x2, vU] [] M Q := by
  refine Rn_w (by decide) ?_
  show wpc sx L K0 R0 106 [(0, 1, .iload_n 1, []), (1, 3, .invokestatic 87, [125, 668, 1]), (4, 3, .ifCond .eq 13, [1]), (7, 1, .iload_n 2, []), (8, 3, .ifCond .lt 9, [1]), (11, 1, .iload_n 2, []), (12, 2, .bipush 6, []), (14, 3, .if_icmp .le 6, [2])] 1 [vR 2, vI x1, vI x2, vU] [] M Q
  simp only [w_il_1, w_ivs_1 (c2I _) cs0, rk_125, rvk2, List.cons_append, List.nil_append, w_if_eq, w_il_2, w_if_lt, w_bipush, w_ic_le, w_fall, true_and, and_true, true_or, or_true]
  exact h
theorem b_106_1 {sx : Int → Int} {L : Nat} {x1 : Int} {x2 : Int} {M : Mem} {Q : Option AV → Mem → Prop} 
    (h : Q (some (vI (-2))) M) : Rn sx L K0 R0 106 1 [vR 2, vI x1, vI x2, vU] [] M Q := by
  refine Rn_w (by decide) ?_
  show wpc sx L K0 R0 106 [(17, 2, .bipush (-2), []), (19, 1, .ireturn, [])] 0 [vR 2, vI x1, vI x2, vU] [] M Q
  simp only [w_bipush, w_ret1 rk_106, true_and, and_true, true_or, or_true]
  exact h
theorem b_106_2 {sx : Int → Int} {L : Nat} {x1 : Int} {x2 : Int} {M : Mem} {Q : Option AV → Mem → Prop} (hj0 : 0 ≤ x1 ∧ x1 < 8)
    (h : Mq sx L K0 R0 135 [vR 2] M (fun rv M1 => rv = none ∧ ((x2 < 0 ∨ 5 < x2 → Rn sx L K0 R0 106 9 [vR 2, vI x1, vI x2, vR (ckA 52 x1 + 2)] [] M1 Q) ∧ (x2 = 0 → Rn sx L K0 R0 106 3 [vR 2, vI x1, vI x2, vR (ckA 52 x1 + 2)] [] M1 Q) ∧ (x2 = 1 → Rn sx L K0 R0 106 4 [vR 2, vI x1, vI x2, vR (ckA 52 x1 + 2)] [] M1 Q) ∧ (x2 = 2 → Rn sx L K0 R0 106 5 [vR 2, vI x1, vI x2, vR (ckA 52 x1 + 2)] [] M1 Q) ∧ (x2 = 3 → Rn sx L K0 R0 106 6 [vR 2, vI x1, vI x2, vR (ckA 52 x1 + 2)] [] M1 Q) ∧ (x2 = 4 → Rn sx L K0 R0 106 7 [vR 2, vI x1, vI x2, vR (ckA 52 x1 + 2)] [] M1 Q) ∧ (x2 = 5 → Rn sx L K0 R0 106 8 [vR 2, vI x1, vI x2, vR (ckA 52 x1 + 2)] [] M1 Q)))) : Rn sx L K0 R0 106 2 [vR 2, vI x1, vI x2, vU] [] M Q := by
  refine Rn_w (by decide) ?_
  show wpc sx L K0 R0 106 [(20, 1, .aload_n 0, []), (21, 3, .invokevirtual 150, [135, 725, 0]), (24, 1, .aload_n 0, []), (25, 3, .getfield 51, [8, 4, 570]), (28, 3, .getfield 159, [3, 1, 447]), (31, 1, .iload_n 1, []), (32, 1, .aaload, []), (33, 1, .astore_n 3, []), (34, 1, .iload_n 2, []), (35, 37, .tableswitch 96 0 5 #[37, 42, 47, 59, 64, 80], [9, 3, 4, 5, 6, 7, 8])] 0 [vR 2, vI x1, vI x2, vU] [] M Q
  simp only [w_al_0, w_ivv_0  cs0, mk_135, kin_T (ks_0), rk_135, rvk0, List.nil_append, w_gf_8_4, rs_0_4, w_gf_3_1, kin_T (ks_52), (rrb1 (c := 52) (by unfold isRb; omega)), w_il_1, w_aald, rcks (c := 52) (by unfold isRb; omega) hj0.1 hj0.2, arq_T (ks_53) ⟨by decide, by decide⟩, hj0.1, (show x1 < ((8 : Nat) : Int) from hj0.2), w_as_3 (c2I _), w_il_2, w_tsw, swt, true_and, and_true, true_or, or_true]
  exact h
theorem b_106_3 {sx : Int → Int} {L : Nat} {x1 : Int} {x2 : Int} {c3 : Nat} {M : Mem} {Q : Option AV → Mem → Prop} (h3 : isCk c3)
    (h : Q (some (vI (M c3 6))) M) : Rn sx L K0 R0 106 3 [vR 2, vI x1, vI x2, vR (c3 + 2)] [] M Q := by
  refine Rn_w (by decide) ?_
  show wpc sx L K0 R0 106 [(72, 1, .aload_n 3, []), (73, 3, .getfield 168, [0, 6, 388]), (76, 1, .ireturn, [])] 0 [vR 2, vI x1, vI x2, vR (c3 + 2)] [] M Q
  simp only [w_al_3, w_gf_0_6, kin_T (kck h3), w_ret1 rk_106, true_and, and_true, true_or, or_true]
  exact h
theorem b_106_4 {sx : Int → Int} {L : Nat} {x1 : Int} {x2 : Int} {c3 : Nat} {M : Mem} {Q : Option AV → Mem → Prop} (h3 : isCk c3)
    (h : Mq sx L K0 R0 9 [vR (c3 + 2)] M (fun rv M1 => ∃ r1, rv = some (vI r1) ∧ (Q (some (vI r1)) M1))) : Rn sx L K0 R0 106 4 [vR 2, vI x1, vI x2, vR (c3 + 2)] [] M Q := by
  refine Rn_w (by decide) ?_
  show wpc sx L K0 R0 106 [(77, 1, .aload_n 3, []), (78, 3, .invokevirtual 171, [9, 860, 0]), (81, 1, .ireturn, [])] 0 [vR 2, vI x1, vI x2, vR (c3 + 2)] [] M Q
  simp only [w_al_3, w_ivv_0  cs0, mk_9, kin_T (kck h3), rk_9, rvk1, List.cons_append, List.nil_append, w_ret1 rk_106, true_and, and_true, true_or, or_true]
  exact h
theorem b_106_5 {sx : Int → Int} {L : Nat} {x1 : Int} {x2 : Int} {c3 : Nat} {M : Mem} {Q : Option AV → Mem → Prop} (h3 : isCk c3)
    (h : Mq sx L K0 R0 10 [vR (c3 + 2), vI (M 6 7)] M (fun rv M1 => ∃ r1, rv = some (vI r1) ∧ (Q (some (vI r1)) M1))) : Rn sx L K0 R0 106 5 [vR 2, vI x1, vI x2, vR (c3 + 2)] [] M Q := by
  refine Rn_w (by decide) ?_
  show wpc sx L K0 R0 106 [(82, 1, .aload_n 3, []), (83, 1, .aload_n 0, []), (84, 3, .getfield 25, [8, 2, 568]), (87, 3, .getfield 175, [5, 7, 228]), (90, 3, .invokevirtual 178, [10, 865, 1]), (93, 1, .ireturn, [])] 0 [vR 2, vI x1, vI x2, vR (c3 + 2)] [] M Q
  simp only [w_al_3, w_al_0, w_gf_8_2, kin_T (ks_0), rs_0_2, w_gf_5_7, kin_T (ks_6), w_ivv_1 (c2I _) cs0, mk_10, kin_T (kck h3), rk_10, rvk1, List.cons_append, List.nil_append, w_ret1 rk_106, true_and, and_true, true_or, or_true]
  exact h
theorem b_106_6 {sx : Int → Int} {L : Nat} {x1 : Int} {x2 : Int} {c3 : Nat} {M : Mem} {Q : Option AV → Mem → Prop} (h3 : isCk c3)
    (h : Mq sx L K0 R0 11 [vR (c3 + 2)] M (fun rv M1 => ∃ r1, rv = some (vI r1) ∧ (Q (some (vI r1)) M1))) : Rn sx L K0 R0 106 6 [vR 2, vI x1, vI x2, vR (c3 + 2)] [] M Q := by
  refine Rn_w (by decide) ?_
  show wpc sx L K0 R0 106 [(94, 1, .aload_n 3, []), (95, 3, .invokevirtual 181, [11, 869, 0]), (98, 1, .ireturn, [])] 0 [vR 2, vI x1, vI x2, vR (c3 + 2)] [] M Q
  simp only [w_al_3, w_ivv_0  cs0, mk_11, kin_T (kck h3), rk_11, rvk1, List.cons_append, List.nil_append, w_ret1 rk_106, true_and, and_true, true_or, or_true]
  exact h
theorem b_106_7 {sx : Int → Int} {L : Nat} {x1 : Int} {x2 : Int} {c3 : Nat} {M : Mem} {Q : Option AV → Mem → Prop} (h3 : isCk c3)
    (h : Mq sx L K0 R0 52 [vR 54, vR 56, vI x1] M (fun rv M1 => ∃ r1, rv = some (vI r1) ∧ (Q (some (vI r1)) M1))) : Rn sx L K0 R0 106 7 [vR 2, vI x1, vI x2, vR (c3 + 2)] [] M Q := by
  refine Rn_w (by decide) ?_
  show wpc sx L K0 R0 106 [(99, 1, .aload_n 0, []), (100, 3, .getfield 51, [8, 4, 570]), (103, 1, .aload_n 0, []), (104, 3, .getfield 51, [8, 4, 570]), (107, 3, .getfield 184, [3, 2, 449]), (110, 1, .iload_n 1, []), (111, 3, .invokevirtual 187, [52, 876, 2]), (114, 1, .ireturn, [])] 0 [vR 2, vI x1, vI x2, vR (c3 + 2)] [] M Q
  simp only [w_al_0, w_gf_8_4, kin_T (ks_0), rs_0_4, w_gf_3_2, kin_T (ks_52), (rrb2 (c := 52) (by unfold isRb; omega)), w_il_1, w_ivv_2 (c2I _) (c2R _) cs0, mk_52, rk_52, rvk1, List.cons_append, List.nil_append, w_ret1 rk_106, true_and, and_true, true_or, or_true]
  exact h
theorem b_106_8 {sx : Int → Int} {L : Nat} {x1 : Int} {x2 : Int} {c3 : Nat} {M : Mem} {Q : Option AV → Mem → Prop} (h3 : isCk c3)
    (h : Mq sx L K0 R0 52 [vR 54, vR 57, vI x1] M (fun rv M1 => ∃ r1, rv = some (vI r1) ∧ (Q (some (vI r1)) M1))) : Rn sx L K0 R0 106 8 [vR 2, vI x1, vI x2, vR (c3 + 2)] [] M Q := by
  refine Rn_w (by decide) ?_
  show wpc sx L K0 R0 106 [(115, 1, .aload_n 0, []), (116, 3, .getfield 51, [8, 4, 570]), (119, 1, .aload_n 0, []), (120, 3, .getfield 51, [8, 4, 570]), (123, 3, .getfield 191, [3, 3, 451]), (126, 1, .iload_n 1, []), (127, 3, .invokevirtual 187, [52, 876, 2]), (130, 1, .ireturn, [])] 0 [vR 2, vI x1, vI x2, vR (c3 + 2)] [] M Q
  simp only [w_al_0, w_gf_8_4, kin_T (ks_0), rs_0_4, w_gf_3_3, kin_T (ks_52), (rrb3 (c := 52) (by unfold isRb; omega)), w_il_1, w_ivv_2 (c2I _) (c2R _) cs0, mk_52, rk_52, rvk1, List.cons_append, List.nil_append, w_ret1 rk_106, true_and, and_true, true_or, or_true]
  exact h
theorem b_106_9 {sx : Int → Int} {L : Nat} {x1 : Int} {x2 : Int} {c3 : Nat} {M : Mem} {Q : Option AV → Mem → Prop} (h3 : isCk c3)
    (h : Mq sx L K0 R0 81 [vR 8, vI x1] M (fun rv M1 => ∃ r1, rv = some (vI r1) ∧ (Mq sx L K0 R0 53 [vR 54, vI x1, vI r1] M1 (fun rv M2 => ∃ r2, rv = some (vI r2) ∧ (Q (some (vI r2)) M2))))) : Rn sx L K0 R0 106 9 [vR 2, vI x1, vI x2, vR (c3 + 2)] [] M Q := by
  refine Rn_w (by decide) ?_
  show wpc sx L K0 R0 106 [(131, 1, .aload_n 0, []), (132, 3, .getfield 51, [8, 4, 570]), (135, 1, .iload_n 1, []), (136, 1, .aload_n 0, []), (137, 3, .getfield 25, [8, 2, 568]), (140, 1, .iload_n 1, []), (141, 3, .invokevirtual 194, [81, 880, 1]), (144, 3, .invokevirtual 197, [53, 889, 2]), (147, 1, .ireturn, [])] 0 [vR 2, vI x1, vI x2, vR (c3 + 2)] [] M Q
  simp only [w_al_0, w_gf_8_4, kin_T (ks_0), rs_0_4, w_il_1, w_gf_8_2, rs_0_2, w_ivv_1 (c2I _) (cs2 _ _), mk_81, kin_T (ks_6), rk_81, rvk1, List.cons_append, List.nil_append, w_ivv_2 (c2I _) (c2I _) cs0, mk_53, kin_T (ks_52), rk_53, w_ret1 rk_106, true_and, and_true, true_or, or_true]
  exact h
theorem b_107_0 {sx : Int → Int} {L : Nat}  {M : Mem} {Q : Option AV → Mem → Prop} 
    (h : Mq sx L K0 R0 135 [vR 2] M (fun rv M1 => rv = none ∧ (Rn sx L K0 R0 107 1 [vR 2, vI 0, vI 0] [] M1 Q))) : Rn sx L K0 R0 107 0 [vR 2, vU, vU] [] M Q := by
  refine Rn_w (by decide) ?_
  show wpc sx L K0 R0 107 [(0, 1, .aload_n 0, []), (1, 3, .invokevirtual 150, [135, 725, 0]), (4, 1, .iconst 0, []), (5, 1, .istore_n 1, []), (6, 1, .iconst 0, []), (7, 1, .istore_n 2, [])] 1 [vR 2, vU, vU] [] M Q
  simp only [w_al_0, w_ivv_0  cs0, mk_135, kin_T (ks_0), rk_135, rvk0, List.nil_append, w_iconst, w_is_1 (c2R _), w_is_2 (c2I _), w_fall, true_and, and_true, true_or, or_true]
  exact h
theorem b_107_1 {sx : Int → Int} {L : Nat} {x1 : Int} {x2 : Int} {M : Mem} {Q : Option AV → Mem → Prop} (hj0 : 0 ≤ x2 ∧ x2 < 8)
    (h : ((8 : Int) ≤ x2 → Rn sx L K0 R0 107 2 [vR 2, vI x1, vI x2] [] M Q) ∧ (¬ ((8 : Int) ≤ x2) → Mq sx L K0 R0 10 [vR (ckA 52 x2 + 2), vI (M 6 7)] M (fun rv M1 => ∃ r1, rv = some (vI r1) ∧ (inR (x1 + r1) ∧ (inR (x2 + 1) ∧ (Rn sx L K0 R0 107 1 [vR 2, vI (x1 + r1), vI (x2 + 1)] [] M1 Q)))))) : Rn sx L K0 R0 107 1 [vR 2, vI x1, vI x2] [] M Q := by
  refine Rn_w (by decide) ?_
  show wpc sx L K0 R0 107 [(8, 1, .iload_n 2, []), (9, 2, .bipush 8, []), (11, 3, .if_icmp .ge 31, [2]), (14, 1, .iload_n 1, []), (15, 1, .aload_n 0, []), (16, 3, .getfield 51, [8, 4, 570]), (19, 3, .getfield 159, [3, 1, 447]), (22, 1, .iload_n 2, []), (23, 1, .aaload, []), (24, 1, .aload_n 0, []), (25, 3, .getfield 25, [8, 2, 568]), (28, 3, .getfield 175, [5, 7, 228]), (31, 3, .invokevirtual 178, [10, 865, 1]), (34, 1, .iadd, []), (35, 1, .istore_n 1, []), (36, 3, .iinc 2 1, []), (39, 3, .goto (-31), [1])] 0 [vR 2, vI x1, vI x2] [] M Q
  simp only [w_il_2, w_bipush, w_ic_ge, w_il_1, w_al_0, w_gf_8_4, kin_T (ks_0), rs_0_4, w_gf_3_1, kin_T (ks_52), (rrb1 (c := 52) (by unfold isRb; omega)), w_aald, rcks (c := 52) (by unfold isRb; omega) hj0.1 hj0.2, arq_T (ks_53) ⟨by decide, by decide⟩, hj0.1, (show x2 < ((8 : Nat) : Int) from hj0.2), w_gf_8_2, rs_0_2, w_gf_5_7, kin_T (ks_6), w_ivv_1 (c2I _) (cs1 _), mk_10, kin_T (kck (isCk_A (B := 52) (by unfold isRb; omega) hj0.1 hj0.2)), rk_10, rvk1, List.cons_append, List.nil_append, w_iadd, w_is_1 (c2R _), w_inc_2 (c2I _), w_goto, true_and, and_true, true_or, or_true]
  exact h
theorem b_107_2 {sx : Int → Int} {L : Nat} {x1 : Int} {x2 : Int} {M : Mem} {Q : Option AV → Mem → Prop} 
    (h : Q (some (vI x1)) M) : Rn sx L K0 R0 107 2 [vR 2, vI x1, vI x2] [] M Q := by
  refine Rn_w (by decide) ?_
  show wpc sx L K0 R0 107 [(42, 1, .iload_n 1, []), (43, 1, .ireturn, [])] 0 [vR 2, vI x1, vI x2] [] M Q
  simp only [w_il_1, w_ret1 rk_107, true_and, and_true, true_or, or_true]
  exact h
theorem b_108_0 {sx : Int → Int} {L : Nat} {x1 : Int} {M : Mem} {Q : Option AV → Mem → Prop} 
    (h : (x1 < (0 : Int) → Rn sx L K0 R0 108 1 [vR 2, vI x1] [] M Q) ∧ (¬ (x1 < (0 : Int)) → (x1 ≤ (1 : Int) → Rn sx L K0 R0 108 2 [vR 2, vI x1] [] M Q) ∧ (¬ (x1 ≤ (1 : Int)) → Rn sx L K0 R0 108 1 [vR 2, vI x1] [] M Q))) : Rn sx L K0 R0 108 0 [vR 2, vI x1] [] M Q := by
  refine Rn_w (by decide) ?_
  show wpc sx L K0 R0 108 [(0, 1, .iload_n 1, []), (1, 3, .ifCond .lt 8, [1]), (4, 1, .iload_n 1, []), (5, 1, .iconst 1, []), (6, 3, .if_icmp .le 6, [2])] 1 [vR 2, vI x1] [] M Q
  simp only [w_il_1, w_if_lt, w_iconst, w_ic_le, w_fall, true_and, and_true, true_or, or_true]
  exact h
theorem b_108_1 {sx : Int → Int} {L : Nat} {x1 : Int} {M : Mem} {Q : Option AV → Mem → Prop} 
    (h : Q (some (vI (-2))) M) : Rn sx L K0 R0 108 1 [vR 2, vI x1] [] M Q := by
  refine Rn_w (by decide) ?_
  show wpc sx L K0 R0 108 [(9, 2, .bipush (-2), []), (11, 1, .ireturn, [])] 0 [vR 2, vI x1] [] M Q
  simp only [w_bipush, w_ret1 rk_108, true_and, and_true, true_or, or_true]
  exact h
theorem b_108_2 {sx : Int → Int} {L : Nat} {x1 : Int} {M : Mem} {Q : Option AV → Mem → Prop} 
    (h : Mq sx L K0 R0 135 [vR 2] M (fun rv M1 => rv = none ∧ ((¬ x1 = (0 : Int) → Rn sx L K0 R0 108 3 [vR 2, vI x1] [] M1 Q) ∧ (¬ (¬ x1 = (0 : Int)) → Rn sx L K0 R0 108 4 [vR 2, vI x1] [vI (M1 52 15)] M1 Q)))) : Rn sx L K0 R0 108 2 [vR 2, vI x1] [] M Q := by
  refine Rn_w (by decide) ?_
  show wpc sx L K0 R0 108 [(12, 1, .aload_n 0, []), (13, 3, .invokevirtual 150, [135, 725, 0]), (16, 1, .iload_n 1, []), (17, 3, .ifCond .ne 13, [3]), (20, 1, .aload_n 0, []), (21, 3, .getfield 51, [8, 4, 570]), (24, 3, .getfield 200, [3, 15, 464]), (27, 3, .goto 10, [4])] 0 [vR 2, vI x1] [] M Q
  simp only [w_al_0, w_ivv_0  cs0, mk_135, kin_T (ks_0), rk_135, rvk0, List.nil_append, w_il_1, w_if_ne, w_gf_8_4, rs_0_4, w_gf_3_15, kin_T (ks_52), w_goto, true_and, and_true, true_or, or_true]
  exact h
theorem b_108_3 {sx : Int → Int} {L : Nat} {x1 : Int} {M : Mem} {Q : Option AV → Mem → Prop} 
    (h : Rn sx L K0 R0 108 4 [vR 2, vI x1] [vI (M 52 16)] M Q) : Rn sx L K0 R0 108 3 [vR 2, vI x1] [] M Q := by
  refine Rn_w (by decide) ?_
  show wpc sx L K0 R0 108 [(30, 1, .aload_n 0, []), (31, 3, .getfield 51, [8, 4, 570]), (34, 3, .getfield 203, [3, 16, 467])] 4 [vR 2, vI x1] [] M Q
  simp only [w_al_0, w_gf_8_4, kin_T (ks_0), rs_0_4, w_gf_3_16, kin_T (ks_52), w_fall, true_and, and_true, true_or, or_true]
  exact h
theorem b_108_4 {sx : Int → Int} {L : Nat} {x1 : Int} {y0 : Int} {M : Mem} {Q : Option AV → Mem → Prop} 
    (h : Q (some (vI y0)) M) : Rn sx L K0 R0 108 4 [vR 2, vI x1] [vI y0] M Q := by
  refine Rn_w (by decide) ?_
  show wpc sx L K0 R0 108 [(37, 1, .ireturn, [])] 0 [vR 2, vI x1] [vI y0] M Q
  simp only [w_ret1 rk_108, true_and, and_true, true_or, or_true]
  exact h
theorem b_109_0 {sx : Int → Int} {L : Nat} {x1 : Int} {M : Mem} {Q : Option AV → Mem → Prop} 
    (h : Mq sx L K0 R0 125 [vI x1] M (fun rv M1 => ∃ r1, rv = some (vI r1) ∧ ((¬ r1 = (0 : Int) → Rn sx L K0 R0 109 1 [vR 2, vI x1] [] M1 Q) ∧ (¬ (¬ r1 = (0 : Int)) → Q (some (vI (-2))) M1)))) : Rn sx L K0 R0 109 0 [vR 2, vI x1] [] M Q := by
  refine Rn_w (by decide) ?_
  show wpc sx L K0 R0 109 [(0, 1, .iload_n 1, []), (1, 3, .invokestatic 87, [125, 668, 1]), (4, 3, .ifCond .ne 6, [1]), (7, 2, .bipush (-2), []), (9, 1, .ireturn, [])] 0 [vR 2, vI x1] [] M Q
  simp only [w_il_1, w_ivs_1 (c2I _) cs0, rk_125, rvk2, List.cons_append, List.nil_append, w_if_ne, w_bipush, w_ret1 rk_109, true_and, and_true, true_or, or_true]
  exact h
theorem b_109_1 {sx : Int → Int} {L : Nat} {x1 : Int} {M : Mem} {Q : Option AV → Mem → Prop} 
    (h : Mq sx L K0 R0 30 [vR 53, vI x1] M (fun rv M1 => ∃ r1, rv = some (vI r1) ∧ ((r1 = (0 : Int) → Rn sx L K0 R0 109 2 [vR 2, vI x1] [] M1 Q) ∧ (¬ (r1 = (0 : Int)) → Mq sx L K0 R0 33 [vR 53, vI x1] M1 (fun rv M2 => ∃ r2, rv = some (vI r2) ∧ (Rn sx L K0 R0 109 3 [vR 2, vI x1] [vI r2] M2 Q)))))) : Rn sx L K0 R0 109 1 [vR 2, vI x1] [] M Q := by
  refine Rn_w (by decide) ?_
  show wpc sx L K0 R0 109 [(10, 1, .aload_n 0, []), (11, 3, .getfield 42, [8, 3, 569]), (14, 1, .iload_n 1, []), (15, 3, .invokevirtual 206, [30, 905, 1]), (18, 3, .ifCond .eq 14, [2]), (21, 1, .aload_n 0, []), (22, 3, .getfield 42, [8, 3, 569]), (25, 1, .iload_n 1, []), (26, 3, .invokevirtual 209, [33, 910, 1]), (29, 3, .goto 5, [3])] 0 [vR 2, vI x1] [] M Q
  simp only [w_al_0, w_gf_8_3, kin_T (ks_0), rs_0_3, w_il_1, w_ivv_1 (c2I _) cs0, mk_30, kin_T (ks_51), rk_30, rvk2, List.cons_append, List.nil_append, w_if_eq, mk_33, rk_33, rvk1, w_goto, true_and, and_true, true_or, or_true]
  exact h
theorem b_109_2 {sx : Int → Int} {L : Nat} {x1 : Int} {M : Mem} {Q : Option AV → Mem → Prop} 
    (h : Rn sx L K0 R0 109 3 [vR 2, vI x1] [vI (-3)] M Q) : Rn sx L K0 R0 109 2 [vR 2, vI x1] [] M Q := by
  refine Rn_w (by decide) ?_
  show wpc sx L K0 R0 109 [(32, 2, .bipush (-3), [])] 3 [vR 2, vI x1] [] M Q
  simp only [w_bipush, w_fall, true_and, and_true, true_or, or_true]
  exact h
theorem b_109_3 {sx : Int → Int} {L : Nat} {x1 : Int} {y0 : Int} {M : Mem} {Q : Option AV → Mem → Prop} 
    (h : Q (some (vI y0)) M) : Rn sx L K0 R0 109 3 [vR 2, vI x1] [vI y0] M Q := by
  refine Rn_w (by decide) ?_
  show wpc sx L K0 R0 109 [(34, 1, .ireturn, [])] 0 [vR 2, vI x1] [vI y0] M Q
  simp only [w_ret1 rk_109, true_and, and_true, true_or, or_true]
  exact h
theorem b_110_0 {sx : Int → Int} {L : Nat} {x1 : Int} {M : Mem} {Q : Option AV → Mem → Prop} 
    (h : Mq sx L K0 R0 125 [vI x1] M (fun rv M1 => ∃ r1, rv = some (vI r1) ∧ ((¬ r1 = (0 : Int) → Rn sx L K0 R0 110 1 [vR 2, vI x1] [] M1 Q) ∧ (¬ (¬ r1 = (0 : Int)) → Q (some (vI (-2))) M1)))) : Rn sx L K0 R0 110 0 [vR 2, vI x1] [] M Q := by
  refine Rn_w (by decide) ?_
  show wpc sx L K0 R0 110 [(0, 1, .iload_n 1, []), (1, 3, .invokestatic 87, [125, 668, 1]), (4, 3, .ifCond .ne 6, [1]), (7, 2, .bipush (-2), []), (9, 1, .ireturn, [])] 0 [vR 2, vI x1] [] M Q
  simp only [w_il_1, w_ivs_1 (c2I _) cs0, rk_125, rvk2, List.cons_append, List.nil_append, w_if_ne, w_bipush, w_ret1 rk_110, true_and, and_true, true_or, or_true]
  exact h
theorem b_110_1 {sx : Int → Int} {L : Nat} {x1 : Int} {M : Mem} {Q : Option AV → Mem → Prop} 
    (h : Mq sx L K0 R0 30 [vR 53, vI x1] M (fun rv M1 => ∃ r1, rv = some (vI r1) ∧ ((r1 = (0 : Int) → Rn sx L K0 R0 110 2 [vR 2, vI x1] [] M1 Q) ∧ (¬ (r1 = (0 : Int)) → Mq sx L K0 R0 32 [vR 53, vI x1] M1 (fun rv M2 => ∃ r2, rv = some (vI r2) ∧ (Rn sx L K0 R0 110 3 [vR 2, vI x1] [vI r2] M2 Q)))))) : Rn sx L K0 R0 110 1 [vR 2, vI x1] [] M Q := by
  refine Rn_w (by decide) ?_
  show wpc sx L K0 R0 110 [(10, 1, .aload_n 0, []), (11, 3, .getfield 42, [8, 3, 569]), (14, 1, .iload_n 1, []), (15, 3, .invokevirtual 206, [30, 905, 1]), (18, 3, .ifCond .eq 14, [2]), (21, 1, .aload_n 0, []), (22, 3, .getfield 42, [8, 3, 569]), (25, 1, .iload_n 1, []), (26, 3, .invokevirtual 212, [32, 948, 1]), (29, 3, .goto 5, [3])] 0 [vR 2, vI x1] [] M Q
  simp only [w_al_0, w_gf_8_3, kin_T (ks_0), rs_0_3, w_il_1, w_ivv_1 (c2I _) cs0, mk_30, kin_T (ks_51), rk_30, rvk2, List.cons_append, List.nil_append, w_if_eq, mk_32, rk_32, rvk1, w_goto, true_and, and_true, true_or, or_true]
  exact h
theorem b_110_2 {sx : Int → Int} {L : Nat} {x1 : Int} {M : Mem} {Q : Option AV → Mem → Prop} 
    (h : Rn sx L K0 R0 110 3 [vR 2, vI x1] [vI (-3)] M Q) : Rn sx L K0 R0 110 2 [vR 2, vI x1] [] M Q := by
  refine Rn_w (by decide) ?_
  show wpc sx L K0 R0 110 [(32, 2, .bipush (-3), [])] 3 [vR 2, vI x1] [] M Q
  simp only [w_bipush, w_fall, true_and, and_true, true_or, or_true]
  exact h
theorem b_110_3 {sx : Int → Int} {L : Nat} {x1 : Int} {y0 : Int} {M : Mem} {Q : Option AV → Mem → Prop} 
    (h : Q (some (vI y0)) M) : Rn sx L K0 R0 110 3 [vR 2, vI x1] [vI y0] M Q := by
  refine Rn_w (by decide) ?_
  show wpc sx L K0 R0 110 [(34, 1, .ireturn, [])] 0 [vR 2, vI x1] [vI y0] M Q
  simp only [w_ret1 rk_110, true_and, and_true, true_or, or_true]
  exact h
theorem b_111_0 {sx : Int → Int} {L : Nat} {x1 : Int} {M : Mem} {Q : Option AV → Mem → Prop} 
    (h : Mq sx L K0 R0 226 [vI (M 6 0)] M (fun rv M1 => ∃ r1, rv = some (vI r1) ∧ ((x1 < (0 : Int) → Rn sx L K0 R0 111 1 [vR 2, vI x1, vI r1] [] M1 Q) ∧ (¬ (x1 < (0 : Int)) → (x1 < r1 → Rn sx L K0 R0 111 2 [vR 2, vI x1, vI r1] [] M1 Q) ∧ (¬ (x1 < r1) → Rn sx L K0 R0 111 1 [vR 2, vI x1, vI r1] [] M1 Q))))) : Rn sx L K0 R0 111 0 [vR 2, vI x1, vU] [] M Q := by
  refine Rn_w (by decide) ?_
  show wpc sx L K0 R0 111 [(0, 1, .aload_n 0, []), (1, 3, .getfield 25, [8, 2, 568]), (4, 3, .getfield 215, [5, 0, 203]), (7, 3, .invokestatic 218, [226, 953, 1]), (10, 1, .istore_n 2, []), (11, 1, .iload_n 1, []), (12, 3, .ifCond .lt 8, [1]), (15, 1, .iload_n 1, []), (16, 1, .iload_n 2, []), (17, 3, .if_icmp .lt 6, [2])] 1 [vR 2, vI x1, vU] [] M Q
  simp only [w_al_0, w_gf_8_2, kin_T (ks_0), rs_0_2, w_gf_5_0, kin_T (ks_6), w_ivs_1 (c2I _) cs0, rk_226, rvk1, List.cons_append, List.nil_append, w_is_2 (c2I _), w_il_1, w_if_lt, w_il_2, w_ic_lt, w_fall, true_and, and_true, true_or, or_true]
  exact h
theorem b_111_1 {sx : Int → Int} {L : Nat} {x1 : Int} {x2 : Int} {M : Mem} {Q : Option AV → Mem → Prop} 
    (h : Q (some (vI (-2))) M) : Rn sx L K0 R0 111 1 [vR 2, vI x1, vI x2] [] M Q := by
  refine Rn_w (by decide) ?_
  show wpc sx L K0 R0 111 [(20, 2, .bipush (-2), []), (22, 1, .ireturn, [])] 0 [vR 2, vI x1, vI x2] [] M Q
  simp only [w_bipush, w_ret1 rk_111, true_and, and_true, true_or, or_true]
  exact h
theorem b_111_2 {sx : Int → Int} {L : Nat} {x1 : Int} {x2 : Int} {M : Mem} {Q : Option AV → Mem → Prop} 
    (h : (x2 ≤ (5 : Int) → Rn sx L K0 R0 111 3 [vR 2, vI x1, vI x2] [] M Q) ∧ (¬ (x2 ≤ (5 : Int)) → Q (some (vI (-4))) M)) : Rn sx L K0 R0 111 2 [vR 2, vI x1, vI x2] [] M Q := by
  refine Rn_w (by decide) ?_
  show wpc sx L K0 R0 111 [(23, 1, .iload_n 2, []), (24, 1, .iconst 5, []), (25, 3, .if_icmp .le 6, [3]), (28, 2, .bipush (-4), []), (30, 1, .ireturn, [])] 0 [vR 2, vI x1, vI x2] [] M Q
  simp only [w_il_2, w_iconst, w_ic_le, w_bipush, w_ret1 rk_111, true_and, and_true, true_or, or_true]
  exact h
theorem b_111_3 {sx : Int → Int} {L : Nat} {x1 : Int} {x2 : Int} {M : Mem} {Q : Option AV → Mem → Prop} 
    (h : Mq sx L K0 R0 56 [vR 76] M (fun rv M1 => rv = none ∧ (Mq sx L K0 R0 57 [vR 76, vI x1] M1 (fun rv M2 => ∃ r1, rv = some (vI r1) ∧ (Q (some (vI r1)) M2))))) : Rn sx L K0 R0 111 3 [vR 2, vI x1, vI x2] [] M Q := by
  refine Rn_w (by decide) ?_
  show wpc sx L K0 R0 111 [(31, 1, .aload_n 0, []), (32, 3, .getfield 60, [8, 5, 571]), (35, 3, .invokevirtual 223, [56, 959, 0]), (38, 1, .aload_n 0, []), (39, 3, .getfield 60, [8, 5, 571]), (42, 1, .iload_n 1, []), (43, 3, .invokevirtual 226, [57, 990, 1]), (46, 1, .ireturn, [])] 0 [vR 2, vI x1, vI x2] [] M Q
  simp only [w_al_0, w_gf_8_5, kin_T (ks_0), rs_0_5, w_ivv_0  cs0, mk_56, kin_T (ks_74), rk_56, rvk0, List.nil_append, w_il_1, w_ivv_1 (c2I _) cs0, mk_57, rk_57, rvk1, List.cons_append, w_ret1 rk_111, true_and, and_true, true_or, or_true]
  exact h
theorem b_112_0 {sx : Int → Int} {L : Nat} {x1 : Int} {x2 : Int} {M : Mem} {Q : Option AV → Mem → Prop} (hj0 : 0 ≤ x1 ∧ x1 < 8)
    (h : Mq sx L K0 R0 125 [vI x1] M (fun rv M1 => ∃ r1, rv = some (vI r1) ∧ ((r1 = (0 : Int) → Rn sx L K0 R0 112 1 [vR 2, vI x1, vI x2] [] M1 Q) ∧ (¬ (r1 = (0 : Int)) → Mq sx L K0 R0 25 [vR (plA x1 + 2), vI x2] M1 (fun rv M2 => ∃ r2, rv = some (vI r2) ∧ ((r2 = (1 : Int) → Rn sx L K0 R0 112 2 [vR 2, vI x1, vI x2] [] M2 Q) ∧ (¬ (r2 = (1 : Int)) → Rn sx L K0 R0 112 1 [vR 2, vI x1, vI x2] [] M2 Q))))))) : Rn sx L K0 R0 112 0 [vR 2, vI x1, vI x2] [] M Q := by
  refine Rn_w (by decide) ?_
  show wpc sx L K0 R0 112 [(0, 1, .iload_n 1, []), (1, 3, .invokestatic 87, [125, 668, 1]), (4, 3, .ifCond .eq 17, [1]), (7, 1, .aload_n 0, []), (8, 3, .getfield 18, [8, 1, 567]), (11, 1, .iload_n 1, []), (12, 1, .aaload, []), (13, 1, .iload_n 2, []), (14, 3, .invokevirtual 229, [25, 998, 1]), (17, 1, .iconst 1, []), (18, 3, .if_icmp .eq 6, [2])] 1 [vR 2, vI x1, vI x2] [] M Q
  simp only [w_il_1, w_ivs_1 (c2I _) cs0, rk_125, rvk2, List.cons_append, List.nil_append, w_if_eq, w_al_0, w_gf_8_1, kin_T (ks_0), rs_0_1, w_aald, rpls hj0.1 hj0.2, arq_T (ks_5) ⟨by decide, by decide⟩, hj0.1, (show x1 < ((8 : Nat) : Int) from hj0.2), w_il_2, w_ivv_1 (c2I _) cs0, mk_25, kin_T (kpl (isPl_A hj0.1 hj0.2)), rk_25, rvk1, w_iconst, w_ic_eq, w_fall, true_and, and_true, true_or, or_true]
  exact h
theorem b_112_1 {sx : Int → Int} {L : Nat} {x1 : Int} {x2 : Int} {M : Mem} {Q : Option AV → Mem → Prop} 
    (h : Q (some (vI (-2))) M) : Rn sx L K0 R0 112 1 [vR 2, vI x1, vI x2] [] M Q := by
  refine Rn_w (by decide) ?_
  show wpc sx L K0 R0 112 [(21, 2, .bipush (-2), []), (23, 1, .ireturn, [])] 0 [vR 2, vI x1, vI x2] [] M Q
  simp only [w_bipush, w_ret1 rk_112, true_and, and_true, true_or, or_true]
  exact h
theorem b_112_2 {sx : Int → Int} {L : Nat} {x1 : Int} {x2 : Int} {M : Mem} {Q : Option AV → Mem → Prop} 
    (h : Mq sx L K0 R0 78 [vR 8, vI x1] M (fun rv M1 => ∃ r1, rv = some (vI r1) ∧ ((r1 = (0 : Int) → Rn sx L K0 R0 112 3 [vR 2, vI x1, vI x2] [] M1 Q) ∧ (¬ (r1 = (0 : Int)) → Mq sx L K0 R0 62 [vR 76, vI x1, vI x2] M1 (fun rv M2 => ∃ r2, rv = some (vI r2) ∧ (Rn sx L K0 R0 112 4 [vR 2, vI x1, vI x2] [vI r2] M2 Q)))))) : Rn sx L K0 R0 112 2 [vR 2, vI x1, vI x2] [] M Q := by
  refine Rn_w (by decide) ?_
  show wpc sx L K0 R0 112 [(24, 1, .aload_n 0, []), (25, 3, .getfield 25, [8, 2, 568]), (28, 1, .iload_n 1, []), (29, 3, .invokevirtual 124, [78, 687, 1]), (32, 3, .ifCond .eq 15, [3]), (35, 1, .aload_n 0, []), (36, 3, .getfield 60, [8, 5, 571]), (39, 1, .iload_n 1, []), (40, 1, .iload_n 2, []), (41, 3, .invokevirtual 232, [62, 999, 2]), (44, 3, .goto 5, [4])] 0 [vR 2, vI x1, vI x2] [] M Q
  simp only [w_al_0, w_gf_8_2, kin_T (ks_0), rs_0_2, w_il_1, w_ivv_1 (c2I _) cs0, mk_78, kin_T (ks_6), rk_78, rvk2, List.cons_append, List.nil_append, w_if_eq, w_gf_8_5, rs_0_5, w_il_2, w_ivv_2 (c2I _) (c2I _) cs0, mk_62, kin_T (ks_74), rk_62, rvk1, w_goto, true_and, and_true, true_or, or_true]
  exact h
theorem b_112_3 {sx : Int → Int} {L : Nat} {x1 : Int} {x2 : Int} {M : Mem} {Q : Option AV → Mem → Prop} 
    (h : Rn sx L K0 R0 112 4 [vR 2, vI x1, vI x2] [vI (-3)] M Q) : Rn sx L K0 R0 112 3 [vR 2, vI x1, vI x2] [] M Q := by
  refine Rn_w (by decide) ?_
  show wpc sx L K0 R0 112 [(47, 2, .bipush (-3), [])] 4 [vR 2, vI x1, vI x2] [] M Q
  simp only [w_bipush, w_fall, true_and, and_true, true_or, or_true]
  exact h
theorem b_112_4 {sx : Int → Int} {L : Nat} {x1 : Int} {x2 : Int} {y0 : Int} {M : Mem} {Q : Option AV → Mem → Prop} 
    (h : Q (some (vI y0)) M) : Rn sx L K0 R0 112 4 [vR 2, vI x1, vI x2] [vI y0] M Q := by
  refine Rn_w (by decide) ?_
  show wpc sx L K0 R0 112 [(49, 1, .ireturn, [])] 0 [vR 2, vI x1, vI x2] [vI y0] M Q
  simp only [w_ret1 rk_112, true_and, and_true, true_or, or_true]
  exact h
theorem b_113_0 {sx : Int → Int} {L : Nat} {x1 : Int} {M : Mem} {Q : Option AV → Mem → Prop} 
    (h : (x1 < (0 : Int) → Rn sx L K0 R0 113 1 [vR 2, vI x1] [] M Q) ∧ (¬ (x1 < (0 : Int)) → (x1 ≤ (1 : Int) → Rn sx L K0 R0 113 2 [vR 2, vI x1] [] M Q) ∧ (¬ (x1 ≤ (1 : Int)) → Rn sx L K0 R0 113 1 [vR 2, vI x1] [] M Q))) : Rn sx L K0 R0 113 0 [vR 2, vI x1] [] M Q := by
  refine Rn_w (by decide) ?_
  show wpc sx L K0 R0 113 [(0, 1, .iload_n 1, []), (1, 3, .ifCond .lt 8, [1]), (4, 1, .iload_n 1, []), (5, 1, .iconst 1, []), (6, 3, .if_icmp .le 6, [2])] 1 [vR 2, vI x1] [] M Q
  simp only [w_il_1, w_if_lt, w_iconst, w_ic_le, w_fall, true_and, and_true, true_or, or_true]
  exact h
theorem b_113_1 {sx : Int → Int} {L : Nat} {x1 : Int} {M : Mem} {Q : Option AV → Mem → Prop} 
    (h : Q (some (vI (-2))) M) : Rn sx L K0 R0 113 1 [vR 2, vI x1] [] M Q := by
  refine Rn_w (by decide) ?_
  show wpc sx L K0 R0 113 [(9, 2, .bipush (-2), []), (11, 1, .ireturn, [])] 0 [vR 2, vI x1] [] M Q
  simp only [w_bipush, w_ret1 rk_113, true_and, and_true, true_or, or_true]
  exact h
theorem b_113_2 {sx : Int → Int} {L : Nat} {x1 : Int} {M : Mem} {Q : Option AV → Mem → Prop} 
    (h : Mq sx L K0 R0 63 [vR 76] M (fun rv M1 => rv = none ∧ ((¬ x1 = (0 : Int) → Rn sx L K0 R0 113 3 [vR 2, vI x1] [] M1 Q) ∧ (¬ (¬ x1 = (0 : Int)) → Rn sx L K0 R0 113 4 [vR 2, vI x1] [vI (M1 74 7)] M1 Q)))) : Rn sx L K0 R0 113 2 [vR 2, vI x1] [] M Q := by
  refine Rn_w (by decide) ?_
  show wpc sx L K0 R0 113 [(12, 1, .aload_n 0, []), (13, 3, .getfield 60, [8, 5, 571]), (16, 3, .invokevirtual 235, [63, 1007, 0]), (19, 1, .iload_n 1, []), (20, 3, .ifCond .ne 13, [3]), (23, 1, .aload_n 0, []), (24, 3, .getfield 60, [8, 5, 571]), (27, 3, .getfield 238, [4, 7, 523]), (30, 3, .goto 10, [4])] 0 [vR 2, vI x1] [] M Q
  simp only [w_al_0, w_gf_8_5, kin_T (ks_0), rs_0_5, w_ivv_0  cs0, mk_63, kin_T (ks_74), rk_63, rvk0, List.nil_append, w_il_1, w_if_ne, w_gf_4_7, w_goto, true_and, and_true, true_or, or_true]
  exact h
theorem b_113_3 {sx : Int → Int} {L : Nat} {x1 : Int} {M : Mem} {Q : Option AV → Mem → Prop} 
    (h : Rn sx L K0 R0 113 4 [vR 2, vI x1] [vI (M 74 8)] M Q) : Rn sx L K0 R0 113 3 [vR 2, vI x1] [] M Q := by
  refine Rn_w (by decide) ?_
  show wpc sx L K0 R0 113 [(33, 1, .aload_n 0, []), (34, 3, .getfield 60, [8, 5, 571]), (37, 3, .getfield 241, [4, 8, 525])] 4 [vR 2, vI x1] [] M Q
  simp only [w_al_0, w_gf_8_5, kin_T (ks_0), rs_0_5, w_gf_4_8, kin_T (ks_74), w_fall, true_and, and_true, true_or, or_true]
  exact h
theorem b_113_4 {sx : Int → Int} {L : Nat} {x1 : Int} {y0 : Int} {M : Mem} {Q : Option AV → Mem → Prop} 
    (h : Q (some (vI y0)) M) : Rn sx L K0 R0 113 4 [vR 2, vI x1] [vI y0] M Q := by
  refine Rn_w (by decide) ?_
  show wpc sx L K0 R0 113 [(40, 1, .ireturn, [])] 0 [vR 2, vI x1] [vI y0] M Q
  simp only [w_ret1 rk_113, true_and, and_true, true_or, or_true]
  exact h
theorem b_114_0 {sx : Int → Int} {L : Nat} {x1 : Int} {x2 : Int} {x3 : Int} {M : Mem} {Q : Option AV → Mem → Prop} 
    (h : Mq sx L K0 R0 125 [vI x1] M (fun rv M1 => ∃ r1, rv = some (vI r1) ∧ ((r1 = (0 : Int) → Rn sx L K0 R0 114 1 [vR 2, vI x1, vI x2, vI x3] [] M1 Q) ∧ (¬ (r1 = (0 : Int)) → (x2 < (1 : Int) → Rn sx L K0 R0 114 1 [vR 2, vI x1, vI x2, vI x3] [] M1 Q) ∧ (¬ (x2 < (1 : Int)) → ((3 : Int) < x2 → Rn sx L K0 R0 114 1 [vR 2, vI x1, vI x2, vI x3] [] M1 Q) ∧ (¬ ((3 : Int) < x2) → (x3 < (0 : Int) → Rn sx L K0 R0 114 1 [vR 2, vI x1, vI x2, vI x3] [] M1 Q) ∧ (¬ (x3 < (0 : Int)) → (x3 ≤ (1 : Int) → Rn sx L K0 R0 114 2 [vR 2, vI x1, vI x2, vI x3] [] M1 Q) ∧ (¬ (x3 ≤ (1 : Int)) → Rn sx L K0 R0 114 1 [vR 2, vI x1, vI x2, vI x3] [] M1 Q)))))))) : Rn sx L K0 R0 114 0 [vR 2, vI x1, vI x2, vI x3] [] M Q := by
  refine Rn_w (by decide) ?_
  show wpc sx L K0 R0 114 [(0, 1, .iload_n 1, []), (1, 3, .invokestatic 87, [125, 668, 1]), (4, 3, .ifCond .eq 22, [1]), (7, 1, .iload_n 2, []), (8, 1, .iconst 1, []), (9, 3, .if_icmp .lt 17, [1]), (12, 1, .iload_n 2, []), (13, 1, .iconst 3, []), (14, 3, .if_icmp .gt 12, [1]), (17, 1, .iload_n 3, []), (18, 3, .ifCond .lt 8, [1]), (21, 1, .iload_n 3, []), (22, 1, .iconst 1, []), (23, 3, .if_icmp .le 6, [2])] 1 [vR 2, vI x1, vI x2, vI x3] [] M Q
  simp only [w_il_1, w_ivs_1 (c2I _) cs0, rk_125, rvk2, List.cons_append, List.nil_append, w_if_eq, w_il_2, w_iconst, w_ic_lt, w_ic_gt, w_il_3, w_if_lt, w_ic_le, w_fall, true_and, and_true, true_or, or_true]
  exact h
theorem b_114_1 {sx : Int → Int} {L : Nat} {x1 : Int} {x2 : Int} {x3 : Int} {M : Mem} {Q : Option AV → Mem → Prop} 
    (h : Q (some (vI (-2))) M) : Rn sx L K0 R0 114 1 [vR 2, vI x1, vI x2, vI x3] [] M Q := by
  refine Rn_w (by decide) ?_
  show wpc sx L K0 R0 114 [(26, 2, .bipush (-2), []), (28, 1, .ireturn, [])] 0 [vR 2, vI x1, vI x2, vI x3] [] M Q
  simp only [w_bipush, w_ret1 rk_114, true_and, and_true, true_or, or_true]
  exact h
theorem b_114_2 {sx : Int → Int} {L : Nat} {x1 : Int} {x2 : Int} {x3 : Int} {M : Mem} {Q : Option AV → Mem → Prop} 
    (h : Mq sx L K0 R0 226 [vI (M 6 0)] M (fun rv M1 => ∃ r1, rv = some (vI r1) ∧ ((r1 ≤ (4 : Int) → Rn sx L K0 R0 114 3 [vR 2, vI x1, vI x2, vI x3] [] M1 Q) ∧ (¬ (r1 ≤ (4 : Int)) → Q (some (vI (-4))) M1)))) : Rn sx L K0 R0 114 2 [vR 2, vI x1, vI x2, vI x3] [] M Q := by
  refine Rn_w (by decide) ?_
  show wpc sx L K0 R0 114 [(29, 1, .aload_n 0, []), (30, 3, .getfield 25, [8, 2, 568]), (33, 3, .getfield 215, [5, 0, 203]), (36, 3, .invokestatic 218, [226, 953, 1]), (39, 1, .iconst 4, []), (40, 3, .if_icmp .le 6, [3]), (43, 2, .bipush (-4), []), (45, 1, .ireturn, [])] 0 [vR 2, vI x1, vI x2, vI x3] [] M Q
  simp only [w_al_0, w_gf_8_2, kin_T (ks_0), rs_0_2, w_gf_5_0, kin_T (ks_6), w_ivs_1 (c2I _) cs0, rk_226, rvk1, List.cons_append, List.nil_append, w_iconst, w_ic_le, w_bipush, w_ret1 rk_114, true_and, and_true, true_or, or_true]
  exact h
theorem b_114_3 {sx : Int → Int} {L : Nat} {x1 : Int} {x2 : Int} {x3 : Int} {M : Mem} {Q : Option AV → Mem → Prop} 
    (h : Mq sx L K0 R0 65 [vR 76, vI x2] M (fun rv M1 => rv = none ∧ ((¬ x3 = (0 : Int) → Rn sx L K0 R0 114 4 [vR 2, vI x1, vI x2, vI x3] [] M1 Q) ∧ (¬ (¬ x3 = (0 : Int)) → ((0 : Int) ≤ x1 ∧ x1 < (8 : Int)) ∧ (Rn sx L K0 R0 114 5 [vR 2, vI x1, vI x2, vI x3] [vI (M1 102 x1)] M1 Q))))) : Rn sx L K0 R0 114 3 [vR 2, vI x1, vI x2, vI x3] [] M Q := by
  refine Rn_w (by decide) ?_
  show wpc sx L K0 R0 114 [(46, 1, .aload_n 0, []), (47, 3, .getfield 60, [8, 5, 571]), (50, 1, .iload_n 2, []), (51, 3, .invokevirtual 244, [65, 1020, 1]), (54, 1, .iload_n 3, []), (55, 3, .ifCond .ne 15, [4]), (58, 1, .aload_n 0, []), (59, 3, .getfield 60, [8, 5, 571]), (62, 3, .getfield 247, [4, 11, 529]), (65, 1, .iload_n 1, []), (66, 1, .iaload, []), (67, 3, .goto 10, [5])] 0 [vR 2, vI x1, vI x2, vI x3] [] M Q
  simp only [w_al_0, w_gf_8_5, kin_T (ks_0), rs_0_5, w_il_2, w_ivv_1 (c2I _) cs0, mk_65, kin_T (ks_74), rk_65, rvk0, List.nil_append, w_il_3, w_if_ne, w_gf_4_11, rs_74_11, w_il_1, w_iald, arr_T (ks_102), w_goto, true_and, and_true, true_or, or_true]
  exact h
theorem b_114_4 {sx : Int → Int} {L : Nat} {x1 : Int} {x2 : Int} {x3 : Int} {M : Mem} {Q : Option AV → Mem → Prop} 
    (h : Rn sx L K0 R0 114 5 [vR 2, vI x1, vI x2, vI x3] [vI (M 74 12)] M Q) : Rn sx L K0 R0 114 4 [vR 2, vI x1, vI x2, vI x3] [] M Q := by
  refine Rn_w (by decide) ?_
  show wpc sx L K0 R0 114 [(70, 1, .aload_n 0, []), (71, 3, .getfield 60, [8, 5, 571]), (74, 3, .getfield 250, [4, 12, 531])] 5 [vR 2, vI x1, vI x2, vI x3] [] M Q
  simp only [w_al_0, w_gf_8_5, kin_T (ks_0), rs_0_5, w_gf_4_12, kin_T (ks_74), w_fall, true_and, and_true, true_or, or_true]
  exact h
theorem b_114_5 {sx : Int → Int} {L : Nat} {x1 : Int} {x2 : Int} {x3 : Int} {y0 : Int} {M : Mem} {Q : Option AV → Mem → Prop} 
    (h : Q (some (vI y0)) M) : Rn sx L K0 R0 114 5 [vR 2, vI x1, vI x2, vI x3] [vI y0] M Q := by
  refine Rn_w (by decide) ?_
  show wpc sx L K0 R0 114 [(77, 1, .ireturn, [])] 0 [vR 2, vI x1, vI x2, vI x3] [vI y0] M Q
  simp only [w_ret1 rk_114, true_and, and_true, true_or, or_true]
  exact h
theorem b_115_0 {sx : Int → Int} {L : Nat} {x1 : Int} {M : Mem} {Q : Option AV → Mem → Prop} 
    (h : Mq sx L K0 R0 126 [vI x1] M (fun rv M1 => ∃ r1, rv = some (vI r1) ∧ ((¬ r1 = (0 : Int) → Rn sx L K0 R0 115 1 [vR 2, vI x1] [] M1 Q) ∧ (¬ (¬ r1 = (0 : Int)) → Q (some (vI (-2))) M1)))) : Rn sx L K0 R0 115 0 [vR 2, vI x1] [] M Q := by
  refine Rn_w (by decide) ?_
  show wpc sx L K0 R0 115 [(0, 1, .iload_n 1, []), (1, 3, .invokestatic 253, [126, 1034, 1]), (4, 3, .ifCond .ne 6, [1]), (7, 2, .bipush (-2), []), (9, 1, .ireturn, [])] 0 [vR 2, vI x1] [] M Q
  simp only [w_il_1, w_ivs_1 (c2I _) cs0, rk_126, rvk2, List.cons_append, List.nil_append, w_if_ne, w_bipush, w_ret1 rk_115, true_and, and_true, true_or, or_true]
  exact h
theorem b_115_1 {sx : Int → Int} {L : Nat} {x1 : Int} {M : Mem} {Q : Option AV → Mem → Prop} (hj0 : 0 ≤ x1 ∧ x1 < 4)
    (h : (M (shA x1) 0 = (0 : Int) → Rn sx L K0 R0 115 2 [vR 2, vI x1] [] M Q) ∧ (¬ (M (shA x1) 0 = (0 : Int)) → Mq sx L K0 R0 132 [vR 2, vI 1] M (fun rv M1 => ∃ r1, rv = some (vI r1) ∧ (Rn sx L K0 R0 115 3 [vR 2, vI x1] [vI r1] M1 Q)))) : Rn sx L K0 R0 115 1 [vR 2, vI x1] [] M Q := by
  refine Rn_w (by decide) ?_
  show wpc sx L K0 R0 115 [(10, 1, .aload_n 0, []), (11, 3, .getfield 31, [8, 6, 572]), (14, 1, .iload_n 1, []), (15, 1, .aaload, []), (16, 3, .getfield 256, [6, 0, 331]), (19, 3, .ifCond .eq 11, [2]), (22, 1, .aload_n 0, []), (23, 1, .iconst 1, []), (24, 3, .invokevirtual 260, [132, 1037, 1]), (27, 3, .goto 16, [3])] 0 [vR 2, vI x1] [] M Q
  simp only [w_al_0, w_gf_8_6, kin_T (ks_0), rs_0_6, w_il_1, w_aald, rshs hj0.1 hj0.2, arq_T (ks_10) ⟨by decide, by decide⟩, hj0.1, (show x1 < ((4 : Nat) : Int) from hj0.2), w_gf_6_0, kin_T (ksh (isSh_A hj0.1 hj0.2)), w_if_eq, w_iconst, w_ivv_1 (c2I _) cs0, mk_132, rk_132, rvk1, List.cons_append, List.nil_append, w_goto, true_and, and_true, true_or, or_true]
  exact h
theorem b_115_2 {sx : Int → Int} {L : Nat} {x1 : Int} {M : Mem} {Q : Option AV → Mem → Prop} (hj0 : 0 ≤ x1 ∧ x1 < 4)
    (h : Mq sx L K0 R0 67 [vR 76, vR (shA x1 + 2)] M (fun rv M1 => ∃ r1, rv = some (vI r1) ∧ (Rn sx L K0 R0 115 3 [vR 2, vI x1] [vI r1] M1 Q))) : Rn sx L K0 R0 115 2 [vR 2, vI x1] [] M Q := by
  refine Rn_w (by decide) ?_
  show wpc sx L K0 R0 115 [(30, 1, .aload_n 0, []), (31, 3, .getfield 60, [8, 5, 571]), (34, 1, .aload_n 0, []), (35, 3, .getfield 31, [8, 6, 572]), (38, 1, .iload_n 1, []), (39, 1, .aaload, []), (40, 3, .invokevirtual 263, [67, 1041, 1])] 3 [vR 2, vI x1] [] M Q
  simp only [w_al_0, w_gf_8_5, kin_T (ks_0), rs_0_5, w_gf_8_6, rs_0_6, w_il_1, w_aald, rshs hj0.1 hj0.2, arq_T (ks_10) ⟨by decide, by decide⟩, hj0.1, (show x1 < ((4 : Nat) : Int) from hj0.2), w_ivv_1 (c2R _) cs0, mk_67, kin_T (ks_74), rk_67, rvk1, List.cons_append, List.nil_append, w_fall, true_and, and_true, true_or, or_true]
  exact h
theorem b_115_3 {sx : Int → Int} {L : Nat} {x1 : Int} {y0 : Int} {M : Mem} {Q : Option AV → Mem → Prop} 
    (h : Q (some (vI y0)) M) : Rn sx L K0 R0 115 3 [vR 2, vI x1] [vI y0] M Q := by
  refine Rn_w (by decide) ?_
  show wpc sx L K0 R0 115 [(43, 1, .ireturn, [])] 0 [vR 2, vI x1] [vI y0] M Q
  simp only [w_ret1 rk_115, true_and, and_true, true_or, or_true]
  exact h
theorem b_116_0 {sx : Int → Int} {L : Nat} {x1 : Int} {M : Mem} {Q : Option AV → Mem → Prop} 
    (h : (x1 < (0 : Int) → Rn sx L K0 R0 116 1 [vR 2, vI x1] [] M Q) ∧ (¬ (x1 < (0 : Int)) → (x1 ≤ (4 : Int) → Rn sx L K0 R0 116 2 [vR 2, vI x1] [] M Q) ∧ (¬ (x1 ≤ (4 : Int)) → Rn sx L K0 R0 116 1 [vR 2, vI x1] [] M Q))) : Rn sx L K0 R0 116 0 [vR 2, vI x1] [] M Q := by
  refine Rn_w (by decide) ?_
  show wpc sx L K0 R0 116 [(0, 1, .iload_n 1, []), (1, 3, .ifCond .lt 8, [1]), (4, 1, .iload_n 1, []), (5, 1, .iconst 4, []), (6, 3, .if_icmp .le 6, [2])] 1 [vR 2, vI x1] [] M Q
  simp only [w_il_1, w_if_lt, w_iconst, w_ic_le, w_fall, true_and, and_true, true_or, or_true]
  exact h
theorem b_116_1 {sx : Int → Int} {L : Nat} {x1 : Int} {M : Mem} {Q : Option AV → Mem → Prop} 
    (h : Q (some (vI (-2))) M) : Rn sx L K0 R0 116 1 [vR 2, vI x1] [] M Q := by
  refine Rn_w (by decide) ?_
  show wpc sx L K0 R0 116 [(9, 2, .bipush (-2), []), (11, 1, .ireturn, [])] 0 [vR 2, vI x1] [] M Q
  simp only [w_bipush, w_ret1 rk_116, true_and, and_true, true_or, or_true]
  exact h
theorem b_116_2 {sx : Int → Int} {L : Nat} {x1 : Int} {M : Mem} {Q : Option AV → Mem → Prop} 
    (h : Mq sx L K0 R0 69 [vR 76] M (fun rv M1 => rv = none ∧ ((x1 ≤ (0 : Int) → Rn sx L K0 R0 116 3 [vR 2, vI x1] [] M1 Q) ∧ (¬ (x1 ≤ (0 : Int)) → ((0 : Int) ≤ (0 : Int) ∧ (0 : Int) < (5 : Int)) ∧ ((¬ M1 103 0 = (-1 : Int) → Rn sx L K0 R0 116 3 [vR 2, vI x1] [] M1 Q) ∧ (¬ (¬ M1 103 0 = (-1 : Int)) → Q (some (vI (-3))) M1)))))) : Rn sx L K0 R0 116 2 [vR 2, vI x1] [] M Q := by
  refine Rn_w (by decide) ?_
  show wpc sx L K0 R0 116 [(12, 1, .aload_n 0, []), (13, 3, .getfield 60, [8, 5, 571]), (16, 3, .invokevirtual 267, [69, 1059, 0]), (19, 1, .iload_n 1, []), (20, 3, .ifCond .le 19, [3]), (23, 1, .aload_n 0, []), (24, 3, .getfield 60, [8, 5, 571]), (27, 3, .getfield 270, [4, 14, 534]), (30, 1, .iconst 0, []), (31, 1, .iaload, []), (32, 1, .iconst (-1), []), (33, 3, .if_icmp .ne 6, [3]), (36, 2, .bipush (-3), []), (38, 1, .ireturn, [])] 0 [vR 2, vI x1] [] M Q
  simp only [w_al_0, w_gf_8_5, kin_T (ks_0), rs_0_5, w_ivv_0  cs0, mk_69, kin_T (ks_74), rk_69, rvk0, List.nil_append, w_il_1, w_if_le, w_gf_4_14, rs_74_14, w_iconst, w_iald, arr_T (ks_103), w_ic_ne, w_bipush, w_ret1 rk_116, true_and, and_true, true_or, or_true]
  exact h
theorem b_116_3 {sx : Int → Int} {L : Nat} {x1 : Int} {M : Mem} {Q : Option AV → Mem → Prop} 
    (h : ((0 : Int) ≤ x1 ∧ x1 < (5 : Int)) ∧ (Q (some (vI (M 103 x1))) M)) : Rn sx L K0 R0 116 3 [vR 2, vI x1] [] M Q := by
  refine Rn_w (by decide) ?_
  show wpc sx L K0 R0 116 [(39, 1, .aload_n 0, []), (40, 3, .getfield 60, [8, 5, 571]), (43, 3, .getfield 270, [4, 14, 534]), (46, 1, .iload_n 1, []), (47, 1, .iaload, []), (48, 1, .ireturn, [])] 0 [vR 2, vI x1] [] M Q
  simp only [w_al_0, w_gf_8_5, kin_T (ks_0), rs_0_5, w_gf_4_14, kin_T (ks_74), rs_74_14, w_il_1, w_iald, arr_T (ks_103), w_ret1 rk_116, true_and, and_true, true_or, or_true]
  exact h
theorem b_117_0 {sx : Int → Int} {L : Nat} {x1 : Int} {x2 : Int} {x3 : Int} {M : Mem} {Q : Option AV → Mem → Prop} 
    (h : Mq sx L K0 R0 126 [vI x1] M (fun rv M1 => ∃ r1, rv = some (vI r1) ∧ ((r1 = (0 : Int) → Rn sx L K0 R0 117 1 [vR 2, vI x1, vI x2, vI x3] [] M1 Q) ∧ (¬ (r1 = (0 : Int)) → Mq sx L K0 R0 127 [vI x2] M1 (fun rv M2 => ∃ r2, rv = some (vI r2) ∧ ((r2 = (0 : Int) → Rn sx L K0 R0 117 1 [vR 2, vI x1, vI x2, vI x3] [] M2 Q) ∧ (¬ (r2 = (0 : Int)) → (x3 ≤ (60 : Int) → Rn sx L K0 R0 117 2 [vR 2, vI x1, vI x2, vI x3] [] M2 Q) ∧ (¬ (x3 ≤ (60 : Int)) → Rn sx L K0 R0 117 1 [vR 2, vI x1, vI x2, vI x3] [] M2 Q)))))))) : Rn sx L K0 R0 117 0 [vR 2, vI x1, vI x2, vI x3] [] M Q := by
  refine Rn_w (by decide) ?_
  show wpc sx L K0 R0 117 [(0, 1, .iload_n 1, []), (1, 3, .invokestatic 253, [126, 1034, 1]), (4, 3, .ifCond .eq 16, [1]), (7, 1, .iload_n 2, []), (8, 3, .invokestatic 273, [127, 1083, 1]), (11, 3, .ifCond .eq 9, [1]), (14, 1, .iload_n 3, []), (15, 2, .bipush 60, []), (17, 3, .if_icmp .le 6, [2])] 1 [vR 2, vI x1, vI x2, vI x3] [] M Q
  simp only [w_il_1, w_ivs_1 (c2I _) cs0, rk_126, rvk2, List.cons_append, List.nil_append, w_if_eq, w_il_2, rk_127, w_il_3, w_bipush, w_ic_le, w_fall, true_and, and_true, true_or, or_true]
  exact h
theorem b_117_1 {sx : Int → Int} {L : Nat} {x1 : Int} {x2 : Int} {x3 : Int} {M : Mem} {Q : Option AV → Mem → Prop} 
    (h : Q (some (vI (-2))) M) : Rn sx L K0 R0 117 1 [vR 2, vI x1, vI x2, vI x3] [] M Q := by
  refine Rn_w (by decide) ?_
  show wpc sx L K0 R0 117 [(20, 2, .bipush (-2), []), (22, 1, .ireturn, [])] 0 [vR 2, vI x1, vI x2, vI x3] [] M Q
  simp only [w_bipush, w_ret1 rk_117, true_and, and_true, true_or, or_true]
  exact h
theorem b_117_2 {sx : Int → Int} {L : Nat} {x1 : Int} {x2 : Int} {x3 : Int} {M : Mem} {Q : Option AV → Mem → Prop} 
    (h : ((0 : Int) ≤ x3 → Rn sx L K0 R0 117 3 [vR 2, vI x1, vI x2, vI x3] [] M Q) ∧ (¬ ((0 : Int) ≤ x3) → Mq sx L K0 R0 132 [vR 2, vI 5] M (fun rv M1 => ∃ r1, rv = some (vI r1) ∧ (Q (some (vI r1)) M1)))) : Rn sx L K0 R0 117 2 [vR 2, vI x1, vI x2, vI x3] [] M Q := by
  refine Rn_w (by decide) ?_
  show wpc sx L K0 R0 117 [(23, 1, .iload_n 3, []), (24, 3, .ifCond .ge 9, [3]), (27, 1, .aload_n 0, []), (28, 1, .iconst 5, []), (29, 3, .invokevirtual 260, [132, 1037, 1]), (32, 1, .ireturn, [])] 0 [vR 2, vI x1, vI x2, vI x3] [] M Q
  simp only [w_il_3, w_if_ge, w_al_0, w_iconst, w_ivv_1 (c2I _) cs0, mk_132, kin_T (ks_0), rk_132, rvk1, List.cons_append, List.nil_append, w_ret1 rk_117, true_and, and_true, true_or, or_true]
  exact h
theorem b_117_3 {sx : Int → Int} {L : Nat} {x1 : Int} {x2 : Int} {x3 : Int} {M : Mem} {Q : Option AV → Mem → Prop} (hj0 : 0 ≤ x1 ∧ x1 < 4)
    (h : Mq sx L K0 R0 84 [vR (shA x1 + 2), vI x2, vI x3] M (fun rv M1 => rv = none ∧ (Q (some (vI x3)) M1))) : Rn sx L K0 R0 117 3 [vR 2, vI x1, vI x2, vI x3] [] M Q := by
  refine Rn_w (by decide) ?_
  show wpc sx L K0 R0 117 [(33, 1, .aload_n 0, []), (34, 3, .getfield 31, [8, 6, 572]), (37, 1, .iload_n 1, []), (38, 1, .aaload, []), (39, 1, .iload_n 2, []), (40, 1, .iload_n 3, []), (41, 3, .invokevirtual 276, [84, 1086, 2]), (44, 1, .iload_n 3, []), (45, 1, .ireturn, [])] 0 [vR 2, vI x1, vI x2, vI x3] [] M Q
  simp only [w_al_0, w_gf_8_6, kin_T (ks_0), rs_0_6, w_il_1, w_aald, rshs hj0.1 hj0.2, arq_T (ks_10) ⟨by decide, by decide⟩, hj0.1, (show x1 < ((4 : Nat) : Int) from hj0.2), w_il_2, w_il_3, w_ivv_2 (c2I _) (c2I _) cs0, mk_84, kin_T (ksh (isSh_A hj0.1 hj0.2)), rk_84, rvk0, List.nil_append, w_ret1 rk_117, true_and, and_true, true_or, or_true]
  exact h
theorem b_118_0 {sx : Int → Int} {L : Nat} {x1 : Int} {M : Mem} {Q : Option AV → Mem → Prop} 
    (h : Mq sx L K0 R0 126 [vI x1] M (fun rv M1 => ∃ r1, rv = some (vI r1) ∧ ((¬ r1 = (0 : Int) → Rn sx L K0 R0 118 1 [vR 2, vI x1, vU] [] M1 Q) ∧ (¬ (¬ r1 = (0 : Int)) → Q (some (vI (-2))) M1)))) : Rn sx L K0 R0 118 0 [vR 2, vI x1, vU] [] M Q := by
  refine Rn_w (by decide) ?_
  show wpc sx L K0 R0 118 [(0, 1, .iload_n 1, []), (1, 3, .invokestatic 253, [126, 1034, 1]), (4, 3, .ifCond .ne 6, [1]), (7, 2, .bipush (-2), []), (9, 1, .ireturn, [])] 0 [vR 2, vI x1, vU] [] M Q
  simp only [w_il_1, w_ivs_1 (c2I _) cs0, rk_126, rvk2, List.cons_append, List.nil_append, w_if_ne, w_bipush, w_ret1 rk_118, true_and, and_true, true_or, or_true]
  exact h
theorem b_118_1 {sx : Int → Int} {L : Nat} {x1 : Int} {M : Mem} {Q : Option AV → Mem → Prop} (hj0 : 0 ≤ x1 ∧ x1 < 4)
    (h : (M (shA x1) 0 = (0 : Int) → Rn sx L K0 R0 118 2 [vR 2, vI x1, vR (shA x1 + 2)] [] M Q) ∧ (¬ (M (shA x1) 0 = (0 : Int)) → Mq sx L K0 R0 132 [vR 2, vI 1] M (fun rv M1 => ∃ r1, rv = some (vI r1) ∧ (Q (some (vI r1)) M1)))) : Rn sx L K0 R0 118 1 [vR 2, vI x1, vU] [] M Q := by
  refine Rn_w (by decide) ?_
  show wpc sx L K0 R0 118 [(10, 1, .aload_n 0, []), (11, 3, .getfield 31, [8, 6, 572]), (14, 1, .iload_n 1, []), (15, 1, .aaload, []), (16, 1, .astore_n 2, []), (17, 1, .aload_n 2, []), (18, 3, .getfield 256, [6, 0, 331]), (21, 3, .ifCond .eq 9, [2]), (24, 1, .aload_n 0, []), (25, 1, .iconst 1, []), (26, 3, .invokevirtual 260, [132, 1037, 1]), (29, 1, .ireturn, [])] 0 [vR 2, vI x1, vU] [] M Q
  simp only [w_al_0, w_gf_8_6, kin_T (ks_0), rs_0_6, w_il_1, w_aald, rshs hj0.1 hj0.2, arq_T (ks_10) ⟨by decide, by decide⟩, hj0.1, (show x1 < ((4 : Nat) : Int) from hj0.2), w_as_2 (c2I _), w_al_2, w_gf_6_0, kin_T (ksh (isSh_A hj0.1 hj0.2)), w_if_eq, w_iconst, w_ivv_1 (c2I _) cs0, mk_132, rk_132, rvk1, List.cons_append, List.nil_append, w_ret1 rk_118, true_and, and_true, true_or, or_true]
  exact h
theorem b_118_2 {sx : Int → Int} {L : Nat} {x1 : Int} {c2 : Nat} {M : Mem} {Q : Option AV → Mem → Prop} (h2 : isSh c2)
    (h : Q (some (vI ((mset M c2 0 1) c2 2))) (mset M c2 0 1)) : Rn sx L K0 R0 118 2 [vR 2, vI x1, vR (c2 + 2)] [] M Q := by
  refine Rn_w (by decide) ?_
  show wpc sx L K0 R0 118 [(30, 1, .aload_n 2, []), (31, 1, .iconst 1, []), (32, 3, .putfield 256, [6, 0, 331]), (35, 1, .aload_n 2, []), (36, 3, .getfield 279, [6, 2, 336]), (39, 1, .ireturn, [])] 0 [vR 2, vI x1, vR (c2 + 2)] [] M Q
  simp only [w_al_2, w_iconst, w_pf_6_0, kin_T (ksh h2), b01_1, w_gf_6_2, w_ret1 rk_118, true_and, and_true, true_or, or_true]
  exact h
theorem b_119_0 {sx : Int → Int} {L : Nat} {x1 : Int} {x2 : Int} {x3 : Int} {x4 : Int} {M : Mem} {Q : Option AV → Mem → Prop} 
    (h : Mq sx L K0 R0 126 [vI x1] M (fun rv M1 => ∃ r1, rv = some (vI r1) ∧ ((r1 = (0 : Int) → Rn sx L K0 R0 119 1 [vR 2, vI x1, vI x2, vI x3, vI x4, vU] [] M1 Q) ∧ (¬ (r1 = (0 : Int)) → Mq sx L K0 R0 127 [vI x2] M1 (fun rv M2 => ∃ r2, rv = some (vI r2) ∧ ((¬ r2 = (0 : Int) → Rn sx L K0 R0 119 2 [vR 2, vI x1, vI x2, vI x3, vI x4, vU] [] M2 Q) ∧ (¬ (¬ r2 = (0 : Int)) → Rn sx L K0 R0 119 1 [vR 2, vI x1, vI x2, vI x3, vI x4, vU] [] M2 Q))))))) : Rn sx L K0 R0 119 0 [vR 2, vI x1, vI x2, vI x3, vI x4, vU] [] M Q := by
  refine Rn_w (by decide) ?_
  show wpc sx L K0 R0 119 [(0, 1, .iload_n 1, []), (1, 3, .invokestatic 253, [126, 1034, 1]), (4, 3, .ifCond .eq 10, [1]), (7, 1, .iload_n 2, []), (8, 3, .invokestatic 273, [127, 1083, 1]), (11, 3, .ifCond .ne 6, [2])] 1 [vR 2, vI x1, vI x2, vI x3, vI x4, vU] [] M Q
  simp only [w_il_1, w_ivs_1 (c2I _) cs0, rk_126, rvk2, List.cons_append, List.nil_append, w_if_eq, w_il_2, rk_127, w_if_ne, w_fall, true_and, and_true, true_or, or_true]
  exact h
theorem b_119_1 {sx : Int → Int} {L : Nat} {x1 : Int} {x2 : Int} {x3 : Int} {x4 : Int} {M : Mem} {Q : Option AV → Mem → Prop} 
    (h : Q (some (vI (-2))) M) : Rn sx L K0 R0 119 1 [vR 2, vI x1, vI x2, vI x3, vI x4, vU] [] M Q := by
  refine Rn_w (by decide) ?_
  show wpc sx L K0 R0 119 [(14, 2, .bipush (-2), []), (16, 1, .ireturn, [])] 0 [vR 2, vI x1, vI x2, vI x3, vI x4, vU] [] M Q
  simp only [w_bipush, w_ret1 rk_119, true_and, and_true, true_or, or_true]
  exact h
theorem b_119_2 {sx : Int → Int} {L : Nat} {x1 : Int} {x2 : Int} {x3 : Int} {x4 : Int} {M : Mem} {Q : Option AV → Mem → Prop} (hj0 : 0 ≤ x1 ∧ x1 < 4)
    (h : Mq sx L K0 R0 85 [vR (shA x1 + 2), vI x2, vI x3] M (fun rv M1 => ∃ r1, rv = some (vI r1) ∧ ((r1 = (-1 : Int) → Rn sx L K0 R0 119 3 [vR 2, vI x1, vI x2, vI x3, vI x4, vI r1] [] M1 Q) ∧ (¬ (r1 = (-1 : Int)) → Mq sx L K0 R0 132 [vR 2, vI r1] M1 (fun rv M2 => ∃ r2, rv = some (vI r2) ∧ (Q (some (vI r2)) M2)))))) : Rn sx L K0 R0 119 2 [vR 2, vI x1, vI x2, vI x3, vI x4, vU] [] M Q := by
  refine Rn_w (by decide) ?_
  show wpc sx L K0 R0 119 [(17, 1, .aload_n 0, []), (18, 3, .getfield 31, [8, 6, 572]), (21, 1, .iload_n 1, []), (22, 1, .aaload, []), (23, 1, .iload_n 2, []), (24, 1, .iload_n 3, []), (25, 3, .invokevirtual 282, [85, 1098, 2]), (28, 2, .istore 5, []), (30, 2, .iload 5, []), (32, 1, .iconst (-1), []), (33, 3, .if_icmp .eq 10, [3]), (36, 1, .aload_n 0, []), (37, 2, .iload 5, []), (39, 3, .invokevirtual 260, [132, 1037, 1]), (42, 1, .ireturn, [])] 0 [vR 2, vI x1, vI x2, vI x3, vI x4, vU] [] M Q
  simp only [w_al_0, w_gf_8_6, kin_T (ks_0), rs_0_6, w_il_1, w_aald, rshs hj0.1 hj0.2, arq_T (ks_10) ⟨by decide, by decide⟩, hj0.1, (show x1 < ((4 : Nat) : Int) from hj0.2), w_il_2, w_il_3, w_ivv_2 (c2I _) (c2I _) cs0, mk_85, kin_T (ksh (isSh_A hj0.1 hj0.2)), rk_85, rvk1, List.cons_append, List.nil_append, w_is_5 (c2I _), w_il_5, w_iconst, w_ic_eq, w_ivv_1 (c2I _) cs0, mk_132, rk_132, w_ret1 rk_119, true_and, and_true, true_or, or_true]
  exact h
theorem b_119_3 {sx : Int → Int} {L : Nat} {x1 : Int} {x2 : Int} {x3 : Int} {x4 : Int} {x5 : Int} {M : Mem} {Q : Option AV → Mem → Prop} (hj0 : 0 ≤ x1 ∧ x1 < 4)
    (h : Mq sx L K0 R0 88 [vR (shA x1 + 2), vI x3, vI x4] M (fun rv M1 => rv = none ∧ (Q (some (vI 1)) M1))) : Rn sx L K0 R0 119 3 [vR 2, vI x1, vI x2, vI x3, vI x4, vI x5] [] M Q := by
  refine Rn_w (by decide) ?_
  show wpc sx L K0 R0 119 [(43, 1, .aload_n 0, []), (44, 3, .getfield 31, [8, 6, 572]), (47, 1, .iload_n 1, []), (48, 1, .aaload, []), (49, 1, .iload_n 3, []), (50, 2, .iload 4, []), (52, 3, .invokevirtual 285, [88, 1102, 2]), (55, 1, .iconst 1, []), (56, 1, .ireturn, [])] 0 [vR 2, vI x1, vI x2, vI x3, vI x4, vI x5] [] M Q
  simp only [w_al_0, w_gf_8_6, kin_T (ks_0), rs_0_6, w_il_1, w_aald, rshs hj0.1 hj0.2, arq_T (ks_10) ⟨by decide, by decide⟩, hj0.1, (show x1 < ((4 : Nat) : Int) from hj0.2), w_il_3, w_il_4, w_ivv_2 (c2I _) (c2I _) cs0, mk_88, kin_T (ksh (isSh_A hj0.1 hj0.2)), rk_88, rvk0, List.nil_append, w_iconst, w_ret1 rk_119, true_and, and_true, true_or, or_true]
  exact h
theorem b_120_0 {sx : Int → Int} {L : Nat} {x1 : Int} {x2 : Int} {x3 : Int} {M : Mem} {Q : Option AV → Mem → Prop} 
    (h : Mq sx L K0 R0 126 [vI x1] M (fun rv M1 => ∃ r1, rv = some (vI r1) ∧ ((r1 = (0 : Int) → Rn sx L K0 R0 120 1 [vR 2, vI x1, vI x2, vI x3, vU] [] M1 Q) ∧ (¬ (r1 = (0 : Int)) → Mq sx L K0 R0 127 [vI x2] M1 (fun rv M2 => ∃ r2, rv = some (vI r2) ∧ ((¬ r2 = (0 : Int) → Rn sx L K0 R0 120 2 [vR 2, vI x1, vI x2, vI x3, vU] [] M2 Q) ∧ (¬ (¬ r2 = (0 : Int)) → Rn sx L K0 R0 120 1 [vR 2, vI x1, vI x2, vI x3, vU] [] M2 Q))))))) : Rn sx L K0 R0 120 0 [vR 2, vI x1, vI x2, vI x3, vU] [] M Q := by
  refine Rn_w (by decide) ?_
  show wpc sx L K0 R0 120 [(0, 1, .iload_n 1, []), (1, 3, .invokestatic 253, [126, 1034, 1]), (4, 3, .ifCond .eq 10, [1]), (7, 1, .iload_n 2, []), (8, 3, .invokestatic 273, [127, 1083, 1]), (11, 3, .ifCond .ne 7, [2])] 1 [vR 2, vI x1, vI x2, vI x3, vU] [] M Q
  simp only [w_il_1, w_ivs_1 (c2I _) cs0, rk_126, rvk2, List.cons_append, List.nil_append, w_if_eq, w_il_2, rk_127, w_if_ne, w_fall, true_and, and_true, true_or, or_true]
  exact h
theorem b_120_1 {sx : Int → Int} {L : Nat} {x1 : Int} {x2 : Int} {x3 : Int} {M : Mem} {Q : Option AV → Mem → Prop} 
    (h : Q (some (vI (-2147483648))) M) : Rn sx L K0 R0 120 1 [vR 2, vI x1, vI x2, vI x3, vU] [] M Q := by
  refine Rn_w (by decide) ?_
  show wpc sx L K0 R0 120 [(14, 3, .ldc_w 288, [0, 2147483648, 1110]), (17, 1, .ireturn, [])] 0 [vR 2, vI x1, vI x2, vI x3, vU] [] M Q
  simp only [w_ldcmin, w_ret1 rk_120, true_and, and_true, true_or, or_true]
  exact h
theorem b_120_2 {sx : Int → Int} {L : Nat} {x1 : Int} {x2 : Int} {x3 : Int} {M : Mem} {Q : Option AV → Mem → Prop} (hj0 : 0 ≤ x1 ∧ x1 < 4)
    (h : Mq sx L K0 R0 85 [vR (shA x1 + 2), vI x2, vI x3] M (fun rv M1 => ∃ r1, rv = some (vI r1) ∧ ((r1 = (-1 : Int) → Rn sx L K0 R0 120 3 [vR 2, vI x1, vI x2, vI x3, vI r1] [] M1 Q) ∧ (¬ (r1 = (-1 : Int)) → Q (some (vI (-2147483648))) (mset M1 0 9 r1))))) : Rn sx L K0 R0 120 2 [vR 2, vI x1, vI x2, vI x3, vU] [] M Q := by
  refine Rn_w (by decide) ?_
  show wpc sx L K0 R0 120 [(18, 1, .aload_n 0, []), (19, 3, .getfield 31, [8, 6, 572]), (22, 1, .iload_n 1, []), (23, 1, .aaload, []), (24, 1, .iload_n 2, []), (25, 1, .iload_n 3, []), (26, 3, .invokevirtual 282, [85, 1098, 2]), (29, 2, .istore 4, []), (31, 2, .iload 4, []), (33, 1, .iconst (-1), []), (34, 3, .if_icmp .eq 13, [3]), (37, 1, .aload_n 0, []), (38, 2, .iload 4, []), (40, 3, .putfield 289, [8, 9, 575]), (43, 3, .ldc_w 288, [0, 2147483648, 1110]), (46, 1, .ireturn, [])] 0 [vR 2, vI x1, vI x2, vI x3, vU] [] M Q
  simp only [w_al_0, w_gf_8_6, kin_T (ks_0), rs_0_6, w_il_1, w_aald, rshs hj0.1 hj0.2, arq_T (ks_10) ⟨by decide, by decide⟩, hj0.1, (show x1 < ((4 : Nat) : Int) from hj0.2), w_il_2, w_il_3, w_ivv_2 (c2I _) (c2I _) cs0, mk_85, kin_T (ksh (isSh_A hj0.1 hj0.2)), rk_85, rvk1, List.cons_append, List.nil_append, w_is_4 (c2I _), w_il_4, w_iconst, w_ic_eq, w_pf_8_9, w_ldcmin, w_ret1 rk_120, true_and, and_true, true_or, or_true]
  exact h
theorem b_120_3 {sx : Int → Int} {L : Nat} {x1 : Int} {x2 : Int} {x3 : Int} {x4 : Int} {M : Mem} {Q : Option AV → Mem → Prop} (hj0 : 0 ≤ x1 ∧ x1 < 4)
    (h : Mq sx L K0 R0 87 [vR (shA x1 + 2), vI x3] M (fun rv M1 => ∃ r1, rv = some (vI r1) ∧ (Q (some (vI r1)) M1))) : Rn sx L K0 R0 120 3 [vR 2, vI x1, vI x2, vI x3, vI x4] [] M Q := by
  refine Rn_w (by decide) ?_
  show wpc sx L K0 R0 120 [(47, 1, .aload_n 0, []), (48, 3, .getfield 31, [8, 6, 572]), (51, 1, .iload_n 1, []), (52, 1, .aaload, []), (53, 1, .iload_n 3, []), (54, 3, .invokevirtual 292, [87, 1111, 1]), (57, 1, .ireturn, [])] 0 [vR 2, vI x1, vI x2, vI x3, vI x4] [] M Q
  simp only [w_al_0, w_gf_8_6, kin_T (ks_0), rs_0_6, w_il_1, w_aald, rshs hj0.1 hj0.2, arq_T (ks_10) ⟨by decide, by decide⟩, hj0.1, (show x1 < ((4 : Nat) : Int) from hj0.2), w_il_3, w_ivv_1 (c2I _) cs0, mk_87, kin_T (ksh (isSh_A hj0.1 hj0.2)), rk_87, rvk1, List.cons_append, List.nil_append, w_ret1 rk_120, true_and, and_true, true_or, or_true]
  exact h
theorem b_121_0 {sx : Int → Int} {L : Nat} {x1 : Int} {x2 : Int} {x3 : Int} {x4 : Int} {x5 : Int} {M : Mem} {Q : Option AV → Mem → Prop} 
    (h : Mq sx L K0 R0 126 [vI x1] M (fun rv M1 => ∃ r1, rv = some (vI r1) ∧ ((r1 = (0 : Int) → Rn sx L K0 R0 121 1 [vR 2, vI x1, vI x2, vI x3, vI x4, vI x5, vU, vU] [] M1 Q) ∧ (¬ (r1 = (0 : Int)) → Mq sx L K0 R0 126 [vI x3] M1 (fun rv M2 => ∃ r2, rv = some (vI r2) ∧ ((¬ r2 = (0 : Int) → Rn sx L K0 R0 121 2 [vR 2, vI x1, vI x2, vI x3, vI x4, vI x5, vU, vU] [] M2 Q) ∧ (¬ (¬ r2 = (0 : Int)) → Rn sx L K0 R0 121 1 [vR 2, vI x1, vI x2, vI x3, vI x4, vI x5, vU, vU] [] M2 Q))))))) : Rn sx L K0 R0 121 0 [vR 2, vI x1, vI x2, vI x3, vI x4, vI x5, vU, vU] [] M Q := by
  refine Rn_w (by decide) ?_
  show wpc sx L K0 R0 121 [(0, 1, .iload_n 1, []), (1, 3, .invokestatic 253, [126, 1034, 1]), (4, 3, .ifCond .eq 10, [1]), (7, 1, .iload_n 3, []), (8, 3, .invokestatic 253, [126, 1034, 1]), (11, 3, .ifCond .ne 6, [2])] 1 [vR 2, vI x1, vI x2, vI x3, vI x4, vI x5, vU, vU] [] M Q
  simp only [w_il_1, w_ivs_1 (c2I _) cs0, rk_126, rvk2, List.cons_append, List.nil_append, w_if_eq, w_il_3, w_if_ne, w_fall, true_and, and_true, true_or, or_true]
  exact h
theorem b_121_1 {sx : Int → Int} {L : Nat} {x1 : Int} {x2 : Int} {x3 : Int} {x4 : Int} {x5 : Int} {M : Mem} {Q : Option AV → Mem → Prop} 
    (h : Q (some (vI (-2))) M) : Rn sx L K0 R0 121 1 [vR 2, vI x1, vI x2, vI x3, vI x4, vI x5, vU, vU] [] M Q := by
  refine Rn_w (by decide) ?_
  show wpc sx L K0 R0 121 [(14, 2, .bipush (-2), []), (16, 1, .ireturn, [])] 0 [vR 2, vI x1, vI x2, vI x3, vI x4, vI x5, vU, vU] [] M Q
  simp only [w_bipush, w_ret1 rk_121, true_and, and_true, true_or, or_true]
  exact h
theorem b_121_2 {sx : Int → Int} {L : Nat} {x1 : Int} {x2 : Int} {x3 : Int} {x4 : Int} {x5 : Int} {M : Mem} {Q : Option AV → Mem → Prop} (hj0 : 0 ≤ x1 ∧ x1 < 4) (hj1 : 0 ≤ x3 ∧ x3 < 4)
    (h : (¬ M (shA x1) 0 = (0 : Int) → Rn sx L K0 R0 121 3 [vR 2, vI x1, vI x2, vI x3, vI x4, vI x5, vR (shA x1 + 2), vR (shA x3 + 2)] [] M Q) ∧ (¬ (¬ M (shA x1) 0 = (0 : Int)) → (M (shA x3) 0 = (0 : Int) → Rn sx L K0 R0 121 4 [vR 2, vI x1, vI x2, vI x3, vI x4, vI x5, vR (shA x1 + 2), vR (shA x3 + 2)] [] M Q) ∧ (¬ (M (shA x3) 0 = (0 : Int)) → Rn sx L K0 R0 121 3 [vR 2, vI x1, vI x2, vI x3, vI x4, vI x5, vR (shA x1 + 2), vR (shA x3 + 2)] [] M Q))) : Rn sx L K0 R0 121 2 [vR 2, vI x1, vI x2, vI x3, vI x4, vI x5, vU, vU] [] M Q := by
  refine Rn_w (by decide) ?_
  show wpc sx L K0 R0 121 [(17, 1, .aload_n 0, []), (18, 3, .getfield 31, [8, 6, 572]), (21, 1, .iload_n 1, []), (22, 1, .aaload, []), (23, 2, .astore 6, []), (25, 1, .aload_n 0, []), (26, 3, .getfield 31, [8, 6, 572]), (29, 1, .iload_n 3, []), (30, 1, .aaload, []), (31, 2, .astore 7, []), (33, 2, .aload 6, []), (35, 3, .getfield 256, [6, 0, 331]), (38, 3, .ifCond .ne 11, [3]), (41, 2, .aload 7, []), (43, 3, .getfield 256, [6, 0, 331]), (46, 3, .ifCond .eq 9, [4])] 3 [vR 2, vI x1, vI x2, vI x3, vI x4, vI x5, vU, vU] [] M Q
  simp only [w_al_0, w_gf_8_6, kin_T (ks_0), rs_0_6, w_il_1, w_aald, rshs hj0.1 hj0.2, arq_T (ks_10) ⟨by decide, by decide⟩, hj0.1, (show x1 < ((4 : Nat) : Int) from hj0.2), w_as_6 (c2I _), w_il_3, rshs hj1.1 hj1.2, hj1.1, (show x3 < ((4 : Nat) : Int) from hj1.2), w_as_7 (c2R _), w_al_6, w_gf_6_0, kin_T (ksh (isSh_A hj0.1 hj0.2)), w_if_ne, w_al_7, kin_T (ksh (isSh_A hj1.1 hj1.2)), w_if_eq, w_fall, true_and, and_true, true_or, or_true]
  exact h
theorem b_121_3 {sx : Int → Int} {L : Nat} {x1 : Int} {x2 : Int} {x3 : Int} {x4 : Int} {x5 : Int} {c6 : Nat} {c7 : Nat} {M : Mem} {Q : Option AV → Mem → Prop} (h6 : isSh c6) (h7 : isSh c7)
    (h : Mq sx L K0 R0 132 [vR 2, vI 1] M (fun rv M1 => ∃ r1, rv = some (vI r1) ∧ (Q (some (vI r1)) M1))) : Rn sx L K0 R0 121 3 [vR 2, vI x1, vI x2, vI x3, vI x4, vI x5, vR (c6 + 2), vR (c7 + 2)] [] M Q := by
  refine Rn_w (by decide) ?_
  show wpc sx L K0 R0 121 [(49, 1, .aload_n 0, []), (50, 1, .iconst 1, []), (51, 3, .invokevirtual 260, [132, 1037, 1]), (54, 1, .ireturn, [])] 0 [vR 2, vI x1, vI x2, vI x3, vI x4, vI x5, vR (c6 + 2), vR (c7 + 2)] [] M Q
  simp only [w_al_0, w_iconst, w_ivv_1 (c2I _) cs0, mk_132, kin_T (ks_0), rk_132, rvk1, List.cons_append, List.nil_append, w_ret1 rk_121, true_and, and_true, true_or, or_true]
  exact h
theorem b_121_4 {sx : Int → Int} {L : Nat} {x1 : Int} {x2 : Int} {x3 : Int} {x4 : Int} {x5 : Int} {c6 : Nat} {c7 : Nat} {M : Mem} {Q : Option AV → Mem → Prop} (h6 : isSh c6) (h7 : isSh c7)
    (h : (M c6 1 = M c7 1 → Rn sx L K0 R0 121 5 [vR 2, vI x1, vI x2, vI x3, vI x4, vI x5, vR (c6 + 2), vR (c7 + 2)] [] M Q) ∧ (¬ (M c6 1 = M c7 1) → Mq sx L K0 R0 132 [vR 2, vI 4] M (fun rv M1 => ∃ r1, rv = some (vI r1) ∧ (Q (some (vI r1)) M1)))) : Rn sx L K0 R0 121 4 [vR 2, vI x1, vI x2, vI x3, vI x4, vI x5, vR (c6 + 2), vR (c7 + 2)] [] M Q := by
  refine Rn_w (by decide) ?_
  show wpc sx L K0 R0 121 [(55, 2, .aload 6, []), (57, 3, .getfield 295, [6, 1, 333]), (60, 2, .aload 7, []), (62, 3, .getfield 295, [6, 1, 333]), (65, 3, .if_icmp .eq 9, [5]), (68, 1, .aload_n 0, []), (69, 1, .iconst 4, []), (70, 3, .invokevirtual 260, [132, 1037, 1]), (73, 1, .ireturn, [])] 0 [vR 2, vI x1, vI x2, vI x3, vI x4, vI x5, vR (c6 + 2), vR (c7 + 2)] [] M Q
  simp only [w_al_6, w_gf_6_1, kin_T (ksh h6), w_al_7, kin_T (ksh h7), w_ic_eq, w_al_0, w_iconst, w_ivv_1 (c2I _) cs0, mk_132, kin_T (ks_0), rk_132, rvk1, List.cons_append, List.nil_append, w_ret1 rk_121, true_and, and_true, true_or, or_true]
  exact h
theorem b_121_5 {sx : Int → Int} {L : Nat} {x1 : Int} {x2 : Int} {x3 : Int} {x4 : Int} {x5 : Int} {c6 : Nat} {c7 : Nat} {M : Mem} {Q : Option AV → Mem → Prop} (h6 : isSh c6) (h7 : isSh c7)
    (h : Mq sx L K0 R0 86 [vR (c6 + 2), vI x2, vI x5] M (fun rv M1 => ∃ r1, rv = some (vI r1) ∧ ((r1 = (0 : Int) → Rn sx L K0 R0 121 6 [vR 2, vI x1, vI x2, vI x3, vI x4, vI x5, vR (c6 + 2), vR (c7 + 2)] [] M1 Q) ∧ (¬ (r1 = (0 : Int)) → Mq sx L K0 R0 86 [vR (c7 + 2), vI x4, vI x5] M1 (fun rv M2 => ∃ r2, rv = some (vI r2) ∧ ((¬ r2 = (0 : Int) → Rn sx L K0 R0 121 7 [vR 2, vI x1, vI x2, vI x3, vI x4, vI x5, vR (c6 + 2), vR (c7 + 2)] [] M2 Q) ∧ (¬ (¬ r2 = (0 : Int)) → Rn sx L K0 R0 121 6 [vR 2, vI x1, vI x2, vI x3, vI x4, vI x5, vR (c6 + 2), vR (c7 + 2)] [] M2 Q))))))) : Rn sx L K0 R0 121 5 [vR 2, vI x1, vI x2, vI x3, vI x4, vI x5, vR (c6 + 2), vR (c7 + 2)] [] M Q := by
  refine Rn_w (by decide) ?_
  show wpc sx L K0 R0 121 [(74, 2, .aload 6, []), (76, 1, .iload_n 2, []), (77, 2, .iload 5, []), (79, 3, .invokevirtual 298, [86, 1116, 2]), (82, 3, .ifCond .eq 15, [6]), (85, 2, .aload 7, []), (87, 2, .iload 4, []), (89, 2, .iload 5, []), (91, 3, .invokevirtual 298, [86, 1116, 2]), (94, 3, .ifCond .ne 9, [7])] 6 [vR 2, vI x1, vI x2, vI x3, vI x4, vI x5, vR (c6 + 2), vR (c7 + 2)] [] M Q
  simp only [w_al_6, w_il_2, w_il_5, w_ivv_2 (c2I _) (c2I _) cs0, mk_86, kin_T (ksh h6), rk_86, rvk2, List.cons_append, List.nil_append, w_if_eq, w_al_7, w_il_4, kin_T (ksh h7), w_if_ne, w_fall, true_and, and_true, true_or, or_true]
  exact h
theorem b_121_6 {sx : Int → Int} {L : Nat} {x1 : Int} {x2 : Int} {x3 : Int} {x4 : Int} {x5 : Int} {c6 : Nat} {c7 : Nat} {M : Mem} {Q : Option AV → Mem → Prop} (h6 : isSh c6) (h7 : isSh c7)
    (h : Mq sx L K0 R0 132 [vR 2, vI 2] M (fun rv M1 => ∃ r1, rv = some (vI r1) ∧ (Q (some (vI r1)) M1))) : Rn sx L K0 R0 121 6 [vR 2, vI x1, vI x2, vI x3, vI x4, vI x5, vR (c6 + 2), vR (c7 + 2)] [] M Q := by
  refine Rn_w (by decide) ?_
  show wpc sx L K0 R0 121 [(97, 1, .aload_n 0, []), (98, 1, .iconst 2, []), (99, 3, .invokevirtual 260, [132, 1037, 1]), (102, 1, .ireturn, [])] 0 [vR 2, vI x1, vI x2, vI x3, vI x4, vI x5, vR (c6 + 2), vR (c7 + 2)] [] M Q
  simp only [w_al_0, w_iconst, w_ivv_1 (c2I _) cs0, mk_132, kin_T (ks_0), rk_132, rvk1, List.cons_append, List.nil_append, w_ret1 rk_121, true_and, and_true, true_or, or_true]
  exact h
theorem b_121_7 {sx : Int → Int} {L : Nat} {x1 : Int} {x2 : Int} {x3 : Int} {x4 : Int} {x5 : Int} {c6 : Nat} {c7 : Nat} {M : Mem} {Q : Option AV → Mem → Prop} (h6 : isSh c6) (h7 : isSh c7)
    (h : cpk K0 (c6 + 1) (c7 + 1) x2 x4 x5 ∧ (Q (some (vI 1)) (mcpy M (c6 + 1) x2 (c7 + 1) x4 x5))) : Rn sx L K0 R0 121 7 [vR 2, vI x1, vI x2, vI x3, vI x4, vI x5, vR (c6 + 2), vR (c7 + 2)] [] M Q := by
  refine Rn_w (by decide) ?_
  show wpc sx L K0 R0 121 [(103, 2, .aload 6, []), (105, 3, .getfield 302, [6, 3, 338]), (108, 1, .iload_n 2, []), (109, 2, .aload 7, []), (111, 3, .getfield 302, [6, 3, 338]), (114, 2, .iload 4, []), (116, 2, .iload 5, []), (118, 3, .invokestatic 305, [1000, 1120]), (121, 1, .iconst 1, []), (122, 1, .ireturn, [])] 0 [vR 2, vI x1, vI x2, vI x3, vI x4, vI x5, vR (c6 + 2), vR (c7 + 2)] [] M Q
  simp only [w_al_6, w_gf_6_3, kin_T (ksh h6), rsh3 h6, w_il_2, w_al_7, kin_T (ksh h7), rsh3 h7, w_il_4, w_il_5, w_cpy, w_iconst, w_ret1 rk_121, true_and, and_true, true_or, or_true]
  exact h
theorem b_122_0 {sx : Int → Int} {L : Nat} {x1 : Int} {M : Mem} {Q : Option AV → Mem → Prop} 
    (h : Mq sx L K0 R0 126 [vI x1] M (fun rv M1 => ∃ r1, rv = some (vI r1) ∧ ((¬ r1 = (0 : Int) → Rn sx L K0 R0 122 1 [vR 2, vI x1, vU, vU, vU] [] M1 Q) ∧ (¬ (¬ r1 = (0 : Int)) → Q (some (vI (-2))) M1)))) : Rn sx L K0 R0 122 0 [vR 2, vI x1, vU, vU, vU] [] M Q := by
  refine Rn_w (by decide) ?_
  show wpc sx L K0 R0 122 [(0, 1, .iload_n 1, []), (1, 3, .invokestatic 253, [126, 1034, 1]), (4, 3, .ifCond .ne 6, [1]), (7, 2, .bipush (-2), []), (9, 1, .ireturn, [])] 0 [vR 2, vI x1, vU, vU, vU] [] M Q
  simp only [w_il_1, w_ivs_1 (c2I _) cs0, rk_126, rvk2, List.cons_append, List.nil_append, w_if_ne, w_bipush, w_ret1 rk_122, true_and, and_true, true_or, or_true]
  exact h
theorem b_122_1 {sx : Int → Int} {L : Nat} {x1 : Int} {M : Mem} {Q : Option AV → Mem → Prop} (hj0 : 0 ≤ x1 ∧ x1 < 4)
    (h : (M (shA x1) 0 = (0 : Int) → Rn sx L K0 R0 122 2 [vR 2, vI x1, vR (shA x1 + 2), vU, vU] [] M Q) ∧ (¬ (M (shA x1) 0 = (0 : Int)) → Mq sx L K0 R0 132 [vR 2, vI 1] M (fun rv M1 => ∃ r1, rv = some (vI r1) ∧ (Q (some (vI r1)) M1)))) : Rn sx L K0 R0 122 1 [vR 2, vI x1, vU, vU, vU] [] M Q := by
  refine Rn_w (by decide) ?_
  show wpc sx L K0 R0 122 [(10, 1, .aload_n 0, []), (11, 3, .getfield 31, [8, 6, 572]), (14, 1, .iload_n 1, []), (15, 1, .aaload, []), (16, 1, .astore_n 2, []), (17, 1, .aload_n 2, []), (18, 3, .getfield 256, [6, 0, 331]), (21, 3, .ifCond .eq 9, [2]), (24, 1, .aload_n 0, []), (25, 1, .iconst 1, []), (26, 3, .invokevirtual 260, [132, 1037, 1]), (29, 1, .ireturn, [])] 0 [vR 2, vI x1, vU, vU, vU] [] M Q
  simp only [w_al_0, w_gf_8_6, kin_T (ks_0), rs_0_6, w_il_1, w_aald, rshs hj0.1 hj0.2, arq_T (ks_10) ⟨by decide, by decide⟩, hj0.1, (show x1 < ((4 : Nat) : Int) from hj0.2), w_as_2 (c2I _), w_al_2, w_gf_6_0, kin_T (ksh (isSh_A hj0.1 hj0.2)), w_if_eq, w_iconst, w_ivv_1 (c2I _) cs0, mk_132, rk_132, rvk1, List.cons_append, List.nil_append, w_ret1 rk_122, true_and, and_true, true_or, or_true]
  exact h
theorem b_122_2 {sx : Int → Int} {L : Nat} {x1 : Int} {c2 : Nat} {M : Mem} {Q : Option AV → Mem → Prop} (h2 : isSh c2)
    (h : Mq sx L K0 R0 135 [vR 2] M (fun rv M1 => rv = none ∧ (Rn sx L K0 R0 122 3 [vR 2, vI x1, vR (c2 + 2), vI (min (M1 c2 2) (M1 6 7)), vI 0] [] M1 Q))) : Rn sx L K0 R0 122 2 [vR 2, vI x1, vR (c2 + 2), vU, vU] [] M Q := by
  refine Rn_w (by decide) ?_
  show wpc sx L K0 R0 122 [(30, 1, .aload_n 0, []), (31, 3, .invokevirtual 150, [135, 725, 0]), (34, 1, .aload_n 2, []), (35, 3, .getfield 279, [6, 2, 336]), (38, 1, .aload_n 0, []), (39, 3, .getfield 25, [8, 2, 568]), (42, 3, .getfield 175, [5, 7, 228]), (45, 3, .invokestatic 311, [1003, 1127]), (48, 1, .istore_n 3, []), (49, 1, .iconst 0, []), (50, 2, .istore 4, [])] 3 [vR 2, vI x1, vR (c2 + 2), vU, vU] [] M Q
  simp only [w_al_0, w_ivv_0  cs0, mk_135, kin_T (ks_0), rk_135, rvk0, List.nil_append, w_al_2, w_gf_6_2, kin_T (ksh h2), w_gf_8_2, rs_0_2, w_gf_5_7, kin_T (ks_6), w_min cs0, w_is_3 (c2R _), w_iconst, w_is_4 (c2I _), w_fall, true_and, and_true, true_or, or_true]
  exact h
theorem b_122_3 {sx : Int → Int} {L : Nat} {x1 : Int} {c2 : Nat} {x3 : Int} {x4 : Int} {M : Mem} {Q : Option AV → Mem → Prop} (h2 : isSh c2)
    (h : (x3 ≤ x4 → Rn sx L K0 R0 122 4 [vR 2, vI x1, vR (c2 + 2), vI x3, vI x4] [] M Q) ∧ (¬ (x3 ≤ x4) → Mq sx L K0 R0 50 [vR 54, vI x4, vI 0] M (fun rv M1 => ∃ r1, rv = some (vI r1) ∧ (Mq sx L K0 R0 88 [vR (c2 + 2), vI x4, vI r1] M1 (fun rv M2 => rv = none ∧ (inR (x4 + 1) ∧ (Rn sx L K0 R0 122 3 [vR 2, vI x1, vR (c2 + 2), vI x3, vI (x4 + 1)] [] M2 Q))))))) : Rn sx L K0 R0 122 3 [vR 2, vI x1, vR (c2 + 2), vI x3, vI x4] [] M Q := by
  refine Rn_w (by decide) ?_
  show wpc sx L K0 R0 122 [(52, 2, .iload 4, []), (54, 1, .iload_n 3, []), (55, 3, .if_icmp .ge 25, [4]), (58, 1, .aload_n 2, []), (59, 2, .iload 4, []), (61, 1, .aload_n 0, []), (62, 3, .getfield 51, [8, 4, 570]), (65, 2, .iload 4, []), (67, 1, .iconst 0, []), (68, 3, .invokevirtual 153, [50, 836, 2]), (71, 3, .invokevirtual 285, [88, 1102, 2]), (74, 3, .iinc 4 1, []), (77, 3, .goto (-25), [3])] 0 [vR 2, vI x1, vR (c2 + 2), vI x3, vI x4] [] M Q
  simp only [w_il_4, w_il_3, w_ic_ge, w_al_2, w_al_0, w_gf_8_4, kin_T (ks_0), rs_0_4, w_iconst, w_ivv_2 (c2I _) (c2I _) (cs2 _ _), mk_50, kin_T (ks_52), rk_50, rvk1, List.cons_append, List.nil_append, w_ivv_2 (c2I _) (c2I _) cs0, mk_88, kin_T (ksh h2), rk_88, rvk0, w_inc_4 (c2I _), w_goto, true_and, and_true, true_or, or_true]
  exact h
theorem b_122_4 {sx : Int → Int} {L : Nat} {x1 : Int} {c2 : Nat} {x3 : Int} {x4 : Int} {M : Mem} {Q : Option AV → Mem → Prop} (h2 : isSh c2)
    (h : Q (some (vI x3)) M) : Rn sx L K0 R0 122 4 [vR 2, vI x1, vR (c2 + 2), vI x3, vI x4] [] M Q := by
  refine Rn_w (by decide) ?_
  show wpc sx L K0 R0 122 [(80, 1, .iload_n 3, []), (81, 1, .ireturn, [])] 0 [vR 2, vI x1, vR (c2 + 2), vI x3, vI x4] [] M Q
  simp only [w_il_3, w_ret1 rk_122, true_and, and_true, true_or, or_true]
  exact h
theorem b_123_0 {sx : Int → Int} {L : Nat} {x1 : Int} {M : Mem} {Q : Option AV → Mem → Prop} 
    (h : (x1 < 0 ∨ 8 < x1 → Rn sx L K0 R0 123 7 [vR 2, vI x1] [] M Q) ∧ (x1 = 0 → Rn sx L K0 R0 123 1 [vR 2, vI x1] [] M Q) ∧ (x1 = 1 → Rn sx L K0 R0 123 2 [vR 2, vI x1] [] M Q) ∧ (x1 = 2 → Rn sx L K0 R0 123 3 [vR 2, vI x1] [] M Q) ∧ (x1 = 3 → Rn sx L K0 R0 123 4 [vR 2, vI x1] [] M Q) ∧ (x1 = 4 → Rn sx L K0 R0 123 5 [vR 2, vI x1] [] M Q) ∧ (x1 = 5 → Rn sx L K0 R0 123 5 [vR 2, vI x1] [] M Q) ∧ (x1 = 6 → Rn sx L K0 R0 123 5 [vR 2, vI x1] [] M Q) ∧ (x1 = 7 → Rn sx L K0 R0 123 5 [vR 2, vI x1] [] M Q) ∧ (x1 = 8 → Rn sx L K0 R0 123 6 [vR 2, vI x1] [] M Q)) : Rn sx L K0 R0 123 0 [vR 2, vI x1] [] M Q := by
  refine Rn_w (by decide) ?_
  show wpc sx L K0 R0 123 [(0, 1, .iload_n 1, []), (1, 51, .tableswitch 93 0 8 #[51, 59, 67, 72, 77, 77, 77, 77, 88], [7, 1, 2, 3, 4, 5, 5, 5, 5, 6])] 0 [vR 2, vI x1] [] M Q
  simp only [w_il_1, w_tsw, swt, true_and, and_true, true_or, or_true]
  exact h
theorem b_123_1 {sx : Int → Int} {L : Nat} {x1 : Int} {M : Mem} {Q : Option AV → Mem → Prop} 
    (h : Q (some (vI (M 1 0))) M) : Rn sx L K0 R0 123 1 [vR 2, vI x1] [] M Q := by
  refine Rn_w (by decide) ?_
  show wpc sx L K0 R0 123 [(52, 1, .aload_n 0, []), (53, 3, .getfield 10, [8, 0, 566]), (56, 3, .getfield 64, [7, 0, 172]), (59, 1, .ireturn, [])] 0 [vR 2, vI x1] [] M Q
  simp only [w_al_0, w_gf_8_0, kin_T (ks_0), rs_0_0, w_gf_7_0, kin_T (ks_1), w_ret1 rk_123, true_and, and_true, true_or, or_true]
  exact h
theorem b_123_2 {sx : Int → Int} {L : Nat} {x1 : Int} {M : Mem} {Q : Option AV → Mem → Prop} 
    (h : Q (some (vI (M 6 0))) M) : Rn sx L K0 R0 123 2 [vR 2, vI x1] [] M Q := by
  refine Rn_w (by decide) ?_
  show wpc sx L K0 R0 123 [(60, 1, .aload_n 0, []), (61, 3, .getfield 25, [8, 2, 568]), (64, 3, .getfield 215, [5, 0, 203]), (67, 1, .ireturn, [])] 0 [vR 2, vI x1] [] M Q
  simp only [w_al_0, w_gf_8_2, kin_T (ks_0), rs_0_2, w_gf_5_0, kin_T (ks_6), w_ret1 rk_123, true_and, and_true, true_or, or_true]
  exact h
theorem b_123_3 {sx : Int → Int} {L : Nat} {x1 : Int} {M : Mem} {Q : Option AV → Mem → Prop} 
    (h : Mq sx L K0 R0 133 [vR 2] M (fun rv M1 => ∃ r1, rv = some (vI r1) ∧ (Q (some (vI r1)) M1))) : Rn sx L K0 R0 123 3 [vR 2, vI x1] [] M Q := by
  refine Rn_w (by decide) ?_
  show wpc sx L K0 R0 123 [(68, 1, .aload_n 0, []), (69, 3, .invokevirtual 316, [133, 1132, 0]), (72, 1, .ireturn, [])] 0 [vR 2, vI x1] [] M Q
  simp only [w_al_0, w_ivv_0  cs0, mk_133, kin_T (ks_0), rk_133, rvk1, List.cons_append, List.nil_append, w_ret1 rk_123, true_and, and_true, true_or, or_true]
  exact h
theorem b_123_4 {sx : Int → Int} {L : Nat} {x1 : Int} {M : Mem} {Q : Option AV → Mem → Prop} 
    (h : Q (some (vI (M 0 8))) M) : Rn sx L K0 R0 123 4 [vR 2, vI x1] [] M Q := by
  refine Rn_w (by decide) ?_
  show wpc sx L K0 R0 123 [(73, 1, .aload_n 0, []), (74, 3, .getfield 127, [8, 8, 574]), (77, 1, .ireturn, [])] 0 [vR 2, vI x1] [] M Q
  simp only [w_al_0, w_gf_8_8, kin_T (ks_0), w_ret1 rk_123, true_and, and_true, true_or, or_true]
  exact h
theorem b_123_5 {sx : Int → Int} {L : Nat} {x1 : Int} {M : Mem} {Q : Option AV → Mem → Prop} 
    (h : inR (x1 - 4) ∧ (Mq sx L K0 R0 76 [vR 8, vI (x1 - 4)] M (fun rv M1 => ∃ r1, rv = some (vI r1) ∧ (Q (some (vI r1)) M1)))) : Rn sx L K0 R0 123 5 [vR 2, vI x1] [] M Q := by
  refine Rn_w (by decide) ?_
  show wpc sx L K0 R0 123 [(78, 1, .aload_n 0, []), (79, 3, .getfield 25, [8, 2, 568]), (82, 1, .iload_n 1, []), (83, 1, .iconst 4, []), (84, 1, .isub, []), (85, 3, .invokevirtual 137, [76, 709, 1]), (88, 1, .ireturn, [])] 0 [vR 2, vI x1] [] M Q
  simp only [w_al_0, w_gf_8_2, kin_T (ks_0), rs_0_2, w_il_1, w_iconst, w_isub, w_ivv_1 (c2I _) cs0, mk_76, kin_T (ks_6), rk_76, rvk1, List.cons_append, List.nil_append, w_ret1 rk_123, true_and, and_true, true_or, or_true]
  exact h
theorem b_123_6 {sx : Int → Int} {L : Nat} {x1 : Int} {M : Mem} {Q : Option AV → Mem → Prop} 
    (h : Q (some (vI (M 0 9))) M) : Rn sx L K0 R0 123 6 [vR 2, vI x1] [] M Q := by
  refine Rn_w (by decide) ?_
  show wpc sx L K0 R0 123 [(89, 1, .aload_n 0, []), (90, 3, .getfield 289, [8, 9, 575]), (93, 1, .ireturn, [])] 0 [vR 2, vI x1] [] M Q
  simp only [w_al_0, w_gf_8_9, kin_T (ks_0), w_ret1 rk_123, true_and, and_true, true_or, or_true]
  exact h
theorem b_123_7 {sx : Int → Int} {L : Nat} {x1 : Int} {M : Mem} {Q : Option AV → Mem → Prop} 
    (h : Q (some (vI (-2))) M) : Rn sx L K0 R0 123 7 [vR 2, vI x1] [] M Q := by
  refine Rn_w (by decide) ?_
  show wpc sx L K0 R0 123 [(94, 2, .bipush (-2), []), (96, 1, .ireturn, [])] 0 [vR 2, vI x1] [] M Q
  simp only [w_bipush, w_ret1 rk_123, true_and, and_true, true_or, or_true]
  exact h
theorem b_124_0 {sx : Int → Int} {L : Nat}  {M : Mem} {Q : Option AV → Mem → Prop} 
    (h : Rn sx L K0 R0 124 1 [vR 2, vL 17, vU, vI 0, vU] [] M Q) : Rn sx L K0 R0 124 0 [vR 2, vU, vU, vU, vU] [] M Q := by
  refine Rn_w (by decide) ?_
  show wpc sx L K0 R0 124 [(0, 3, .ldc2_w 319, [17, 1140]), (3, 1, .lstore_n 1, []), (4, 1, .iconst 0, []), (5, 1, .istore_n 3, [])] 1 [vR 2, vU, vU, vU, vU] [] M Q
  simp only [w_ldc2_17, w_ls_1 (c2R _) c2U, w_iconst, w_is_3 c2U, w_fall, true_and, and_true, true_or, or_true]
  exact h
theorem b_124_1 {sx : Int → Int} {L : Nat} {l1 : Int} {x3 : Int} {M : Mem} {Q : Option AV → Mem → Prop} 
    (h : ((7 : Int) < x3 → Rn sx L K0 R0 124 2 [vR 2, vL l1, vU, vI x3, vU] [] M Q) ∧ (¬ ((7 : Int) < x3) → Mq sx L K0 R0 123 [vR 2, vI x3] M (fun rv M1 => ∃ r1, rv = some (vI r1) ∧ (inR (x3 + 1) ∧ (Rn sx L K0 R0 124 1 [vR 2, vL (lAdd (lMul 31 l1) r1), vU, vI (x3 + 1), vU] [] M1 Q))))) : Rn sx L K0 R0 124 1 [vR 2, vL l1, vU, vI x3, vU] [] M Q := by
  refine Rn_w (by decide) ?_
  show wpc sx L K0 R0 124 [(6, 1, .iload_n 3, []), (7, 2, .bipush 7, []), (9, 3, .if_icmp .gt 22, [2]), (12, 3, .ldc2_w 321, [31, 1141]), (15, 1, .lload_n 1, []), (16, 1, .lmul, []), (17, 1, .aload_n 0, []), (18, 1, .iload_n 3, []), (19, 3, .invokevirtual 323, [123, 1142, 1]), (22, 1, .i2l, []), (23, 1, .ladd, []), (24, 1, .lstore_n 1, []), (25, 3, .iinc 3 1, []), (28, 3, .goto (-22), [1])] 0 [vR 2, vL l1, vU, vI x3, vU] [] M Q
  simp only [w_il_3, w_bipush, w_ic_gt, w_ldc2_31, w_ll_1, w_lmul, w_al_0, w_ivv_1 (c2I _) (cs1 _), mk_123, kin_T (ks_0), rk_123, rvk1, List.cons_append, List.nil_append, w_i2l, w_ladd, w_ls_1 (c2R _) c2U, w_inc_3 c2U, w_goto, true_and, and_true, true_or, or_true]
  exact h
theorem b_124_2 {sx : Int → Int} {L : Nat} {l1 : Int} {x3 : Int} {M : Mem} {Q : Option AV → Mem → Prop} 
    (h : Rn sx L K0 R0 124 3 [vR 2, vL l1, vU, vI 0, vU] [] M Q) : Rn sx L K0 R0 124 2 [vR 2, vL l1, vU, vI x3, vU] [] M Q := by
  refine Rn_w (by decide) ?_
  show wpc sx L K0 R0 124 [(31, 1, .iconst 0, []), (32, 1, .istore_n 3, [])] 3 [vR 2, vL l1, vU, vI x3, vU] [] M Q
  simp only [w_iconst, w_is_3 c2U, w_fall, true_and, and_true, true_or, or_true]
  exact h
theorem b_124_3 {sx : Int → Int} {L : Nat} {l1 : Int} {x3 : Int} {u4 : AV} {M : Mem} {Q : Option AV → Mem → Prop} (hu4 : cat2 u4 = false)
    (h : ((8 : Int) ≤ x3 → Rn sx L K0 R0 124 6 [vR 2, vL l1, vU, vI x3, u4] [] M Q) ∧ (¬ ((8 : Int) ≤ x3) → Mq sx L K0 R0 98 [vR 2, vI x3] M (fun rv M1 => ∃ r1, rv = some (vI r1) ∧ (Rn sx L K0 R0 124 4 [vR 2, vL (lAdd (lMul 31 l1) r1), vU, vI x3, vI 0] [] M1 Q)))) : Rn sx L K0 R0 124 3 [vR 2, vL l1, vU, vI x3, u4] [] M Q := by
  refine Rn_w (by decide) ?_
  show wpc sx L K0 R0 124 [(33, 1, .iload_n 3, []), (34, 2, .bipush 8, []), (36, 3, .if_icmp .ge 53, [6]), (39, 3, .ldc2_w 321, [31, 1141]), (42, 1, .lload_n 1, []), (43, 1, .lmul, []), (44, 1, .aload_n 0, []), (45, 1, .iload_n 3, []), (46, 3, .invokevirtual 326, [98, 1143, 1]), (49, 1, .i2l, []), (50, 1, .ladd, []), (51, 1, .lstore_n 1, []), (52, 1, .iconst 0, []), (53, 2, .istore 4, [])] 4 [vR 2, vL l1, vU, vI x3, u4] [] M Q
  simp only [w_il_3, w_bipush, w_ic_ge, w_ldc2_31, w_ll_1, w_lmul, w_al_0, w_ivv_1 (c2I _) (cs1 _), mk_98, kin_T (ks_0), rk_98, rvk1, List.cons_append, List.nil_append, w_i2l, w_ladd, w_ls_1 (c2R _) c2U, w_iconst, w_is_4 (c2I _), w_fall, true_and, and_true, true_or, or_true]
  exact h
theorem b_124_4 {sx : Int → Int} {L : Nat} {l1 : Int} {x3 : Int} {x4 : Int} {M : Mem} {Q : Option AV → Mem → Prop} 
    (h : ((6 : Int) < x4 → Rn sx L K0 R0 124 5 [vR 2, vL l1, vU, vI x3, vI x4] [] M Q) ∧ (¬ ((6 : Int) < x4) → Mq sx L K0 R0 106 [vR 2, vI x3, vI x4] M (fun rv M1 => ∃ r1, rv = some (vI r1) ∧ (inR (x4 + 1) ∧ (Rn sx L K0 R0 124 4 [vR 2, vL (lAdd (lMul 31 l1) r1), vU, vI x3, vI (x4 + 1)] [] M1 Q))))) : Rn sx L K0 R0 124 4 [vR 2, vL l1, vU, vI x3, vI x4] [] M Q := by
  refine Rn_w (by decide) ?_
  show wpc sx L K0 R0 124 [(55, 2, .iload 4, []), (57, 2, .bipush 6, []), (59, 3, .if_icmp .gt 24, [5]), (62, 3, .ldc2_w 321, [31, 1141]), (65, 1, .lload_n 1, []), (66, 1, .lmul, []), (67, 1, .aload_n 0, []), (68, 1, .iload_n 3, []), (69, 2, .iload 4, []), (71, 3, .invokevirtual 328, [106, 1144, 2]), (74, 1, .i2l, []), (75, 1, .ladd, []), (76, 1, .lstore_n 1, []), (77, 3, .iinc 4 1, []), (80, 3, .goto (-25), [4])] 0 [vR 2, vL l1, vU, vI x3, vI x4] [] M Q
  simp only [w_il_4, w_bipush, w_ic_gt, w_ldc2_31, w_ll_1, w_lmul, w_al_0, w_il_3, w_ivv_2 (c2I _) (c2I _) (cs1 _), mk_106, kin_T (ks_0), rk_106, rvk1, List.cons_append, List.nil_append, w_i2l, w_ladd, w_ls_1 (c2R _) c2U, w_inc_4 (c2I _), w_goto, true_and, and_true, true_or, or_true]
  exact h
theorem b_124_5 {sx : Int → Int} {L : Nat} {l1 : Int} {x3 : Int} {x4 : Int} {M : Mem} {Q : Option AV → Mem → Prop} 
    (h : inR (x3 + 1) ∧ (Rn sx L K0 R0 124 3 [vR 2, vL l1, vU, vI (x3 + 1), vI x4] [] M Q)) : Rn sx L K0 R0 124 5 [vR 2, vL l1, vU, vI x3, vI x4] [] M Q := by
  refine Rn_w (by decide) ?_
  show wpc sx L K0 R0 124 [(83, 3, .iinc 3 1, []), (86, 3, .goto (-53), [3])] 0 [vR 2, vL l1, vU, vI x3, vI x4] [] M Q
  simp only [w_inc_3 c2U, w_goto, true_and, and_true, true_or, or_true]
  exact h
theorem b_124_6 {sx : Int → Int} {L : Nat} {l1 : Int} {x3 : Int} {u4 : AV} {M : Mem} {Q : Option AV → Mem → Prop} (hu4 : cat2 u4 = false)
    (h : Rn sx L K0 R0 124 7 [vR 2, vL l1, vU, vI 0, u4] [] M Q) : Rn sx L K0 R0 124 6 [vR 2, vL l1, vU, vI x3, u4] [] M Q := by
  refine Rn_w (by decide) ?_
  show wpc sx L K0 R0 124 [(89, 1, .iconst 0, []), (90, 1, .istore_n 3, [])] 7 [vR 2, vL l1, vU, vI x3, u4] [] M Q
  simp only [w_iconst, w_is_3 c2U, w_fall, true_and, and_true, true_or, or_true]
  exact h
theorem b_124_7 {sx : Int → Int} {L : Nat} {l1 : Int} {x3 : Int} {u4 : AV} {M : Mem} {Q : Option AV → Mem → Prop} (hu4 : cat2 u4 = false)
    (h : (M 6 7 ≤ x3 → Rn sx L K0 R0 124 8 [vR 2, vL l1, vU, vI x3, u4] [] M Q) ∧ (¬ (M 6 7 ≤ x3) → Mq sx L K0 R0 103 [vR 2, vI x3, vI 0] M (fun rv M1 => ∃ r1, rv = some (vI r1) ∧ (inR (x3 + 1) ∧ (Rn sx L K0 R0 124 7 [vR 2, vL (lAdd (lMul 31 l1) r1), vU, vI (x3 + 1), u4] [] M1 Q))))) : Rn sx L K0 R0 124 7 [vR 2, vL l1, vU, vI x3, u4] [] M Q := by
  refine Rn_w (by decide) ?_
  show wpc sx L K0 R0 124 [(91, 1, .iload_n 3, []), (92, 1, .aload_n 0, []), (93, 3, .getfield 25, [8, 2, 568]), (96, 3, .getfield 175, [5, 7, 228]), (99, 3, .if_icmp .ge 23, [8]), (102, 3, .ldc2_w 321, [31, 1141]), (105, 1, .lload_n 1, []), (106, 1, .lmul, []), (107, 1, .aload_n 0, []), (108, 1, .iload_n 3, []), (109, 1, .iconst 0, []), (110, 3, .invokevirtual 331, [103, 1145, 2]), (113, 1, .i2l, []), (114, 1, .ladd, []), (115, 1, .lstore_n 1, []), (116, 3, .iinc 3 1, []), (119, 3, .goto (-28), [7])] 0 [vR 2, vL l1, vU, vI x3, u4] [] M Q
  simp only [w_il_3, w_al_0, w_gf_8_2, kin_T (ks_0), rs_0_2, w_gf_5_7, kin_T (ks_6), w_ic_ge, w_ldc2_31, w_ll_1, w_lmul, w_iconst, w_ivv_2 (c2I _) (c2I _) (cs1 _), mk_103, rk_103, rvk1, List.cons_append, List.nil_append, w_i2l, w_ladd, w_ls_1 (c2R _) c2U, w_inc_3 c2U, w_goto, true_and, and_true, true_or, or_true]
  exact h
set_option maxRecDepth 8192 in
theorem b_124_8 {sx : Int → Int} {L : Nat} {l1 : Int} {x3 : Int} {u4 : AV} {M : Mem} {Q : Option AV → Mem → Prop} (hu4 : cat2 u4 = false)
    (h : Mq sx L K0 R0 107 [vR 2] M (fun rv M1 => ∃ r1, rv = some (vI r1) ∧ (Mq sx L K0 R0 108 [vR 2, vI 0] M1 (fun rv M2 => ∃ r2, rv = some (vI r2) ∧ (Mq sx L K0 R0 108 [vR 2, vI 1] M2 (fun rv M3 => ∃ r3, rv = some (vI r3) ∧ (Q (some (vL (lAdd (lMul 31 (lAdd (lMul 31 (lAdd (lMul 31 l1) r1)) r2)) r3))) M3))))))) : Rn sx L K0 R0 124 8 [vR 2, vL l1, vU, vI x3, u4] [] M Q := by
  refine Rn_w (by decide) ?_
  show wpc sx L K0 R0 124 [(122, 3, .ldc2_w 321, [31, 1141]), (125, 1, .lload_n 1, []), (126, 1, .lmul, []), (127, 1, .aload_n 0, []), (128, 3, .invokevirtual 334, [107, 1146, 0]), (131, 1, .i2l, []), (132, 1, .ladd, []), (133, 1, .lstore_n 1, []), (134, 3, .ldc2_w 321, [31, 1141]), (137, 1, .lload_n 1, []), (138, 1, .lmul, []), (139, 1, .aload_n 0, []), (140, 1, .iconst 0, []), (141, 3, .invokevirtual 337, [108, 1147, 1]), (144, 1, .i2l, []), (145, 1, .ladd, []), (146, 1, .lstore_n 1, []), (147, 3, .ldc2_w 321, [31, 1141]), (150, 1, .lload_n 1, []), (151, 1, .lmul, []), (152, 1, .aload_n 0, []), (153, 1, .iconst 1, []), (154, 3, .invokevirtual 337, [108, 1147, 1]), (157, 1, .i2l, []), (158, 1, .ladd, []), (159, 1, .lreturn, [])] 0 [vR 2, vL l1, vU, vI x3, u4] [] M Q
  simp only [w_ldc2_31, w_ll_1, w_lmul, w_al_0, w_ivv_0  (cs1 _), mk_107, kin_T (ks_0), rk_107, rvk1, List.cons_append, List.nil_append, w_i2l, w_ladd, w_ls_1 (c2R _) c2U, w_iconst, w_ivv_1 (c2I _) (cs1 _), mk_108, rk_108, w_ret3 rk_124, true_and, and_true, true_or, or_true]
  exact h

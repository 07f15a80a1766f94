theorem b_125_0 {sx : Int → Int} {L : Nat} {x0 : Int} {M : Mem} {Q : Option AV → Mem → Prop} 
    (h : (x0 < (0 : Int) → Rn sx L K0 R0 125 1 [vI x0] [] M Q) ∧ (¬ (x0 < (0 : Int)) → ((8 : Int) ≤ x0 → Rn sx L K0 R0 125 1 [vI x0] [] M Q) ∧ (¬ ((8 : Int) ≤ x0) → Rn sx L K0 R0 125 2 [vI x0] [vI 1] M Q))) : Rn sx L K0 R0 125 0 [vI x0] [] M Q := by
  refine Rn_w (by decide) ?_
  show wpc sx L K0 R0 125 [(0, 1, .iload_n 0, []), (1, 3, .ifCond .lt 13, [1]), (4, 1, .iload_n 0, []), (5, 2, .bipush 8, []), (7, 3, .if_icmp .ge 7, [1]), (10, 1, .iconst 1, []), (11, 3, .goto 4, [2])] 0 [vI x0] [] M Q
  simp only [w_il_0, w_if_lt, w_bipush, w_ic_ge, w_iconst, w_goto, true_and, and_true, true_or, or_true]
  exact h
theorem b_125_1 {sx : Int → Int} {L : Nat} {x0 : Int} {M : Mem} {Q : Option AV → Mem → Prop} 
    (h : Rn sx L K0 R0 125 2 [vI x0] [vI 0] M Q) : Rn sx L K0 R0 125 1 [vI x0] [] M Q := by
  refine Rn_w (by decide) ?_
  show wpc sx L K0 R0 125 [(14, 1, .iconst 0, [])] 2 [vI x0] [] M Q
  simp only [w_iconst, w_fall, true_and, and_true, true_or, or_true]
  exact h
theorem b_125_2 {sx : Int → Int} {L : Nat} {x0 : Int} {y0 : Int} {M : Mem} {Q : Option AV → Mem → Prop} 
    (h : (y0 = 0 ∨ y0 = 1) ∧ (Q (some (vI y0)) M)) : Rn sx L K0 R0 125 2 [vI x0] [vI y0] M Q := by
  refine Rn_w (by decide) ?_
  show wpc sx L K0 R0 125 [(15, 1, .ireturn, [])] 0 [vI x0] [vI y0] M Q
  simp only [w_ret2 rk_125, true_and, and_true, true_or, or_true]
  exact h
theorem b_126_0 {sx : Int → Int} {L : Nat} {x0 : Int} {M : Mem} {Q : Option AV → Mem → Prop} 
    (h : (x0 < (0 : Int) → Rn sx L K0 R0 126 1 [vI x0] [] M Q) ∧ (¬ (x0 < (0 : Int)) → ((4 : Int) ≤ x0 → Rn sx L K0 R0 126 1 [vI x0] [] M Q) ∧ (¬ ((4 : Int) ≤ x0) → Rn sx L K0 R0 126 2 [vI x0] [vI 1] M Q))) : Rn sx L K0 R0 126 0 [vI x0] [] M Q := by
  refine Rn_w (by decide) ?_
  show wpc sx L K0 R0 126 [(0, 1, .iload_n 0, []), (1, 3, .ifCond .lt 12, [1]), (4, 1, .iload_n 0, []), (5, 1, .iconst 4, []), (6, 3, .if_icmp .ge 7, [1]), (9, 1, .iconst 1, []), (10, 3, .goto 4, [2])] 0 [vI x0] [] M Q
  simp only [w_il_0, w_if_lt, w_iconst, w_ic_ge, w_goto, true_and, and_true, true_or, or_true]
  exact h
theorem b_126_1 {sx : Int → Int} {L : Nat} {x0 : Int} {M : Mem} {Q : Option AV → Mem → Prop} 
    (h : Rn sx L K0 R0 126 2 [vI x0] [vI 0] M Q) : Rn sx L K0 R0 126 1 [vI x0] [] M Q := by
  refine Rn_w (by decide) ?_
  show wpc sx L K0 R0 126 [(13, 1, .iconst 0, [])] 2 [vI x0] [] M Q
  simp only [w_iconst, w_fall, true_and, and_true, true_or, or_true]
  exact h
theorem b_126_2 {sx : Int → Int} {L : Nat} {x0 : Int} {y0 : Int} {M : Mem} {Q : Option AV → Mem → Prop} 
    (h : (y0 = 0 ∨ y0 = 1) ∧ (Q (some (vI y0)) M)) : Rn sx L K0 R0 126 2 [vI x0] [vI y0] M Q := by
  refine Rn_w (by decide) ?_
  show wpc sx L K0 R0 126 [(14, 1, .ireturn, [])] 0 [vI x0] [vI y0] M Q
  simp only [w_ret2 rk_126, true_and, and_true, true_or, or_true]
  exact h
theorem b_127_0 {sx : Int → Int} {L : Nat} {x0 : Int} {M : Mem} {Q : Option AV → Mem → Prop} 
    (h : (x0 < (0 : Int) → Rn sx L K0 R0 127 1 [vI x0] [] M Q) ∧ (¬ (x0 < (0 : Int)) → ((2 : Int) < x0 → Rn sx L K0 R0 127 1 [vI x0] [] M Q) ∧ (¬ ((2 : Int) < x0) → Rn sx L K0 R0 127 2 [vI x0] [vI 1] M Q))) : Rn sx L K0 R0 127 0 [vI x0] [] M Q := by
  refine Rn_w (by decide) ?_
  show wpc sx L K0 R0 127 [(0, 1, .iload_n 0, []), (1, 3, .ifCond .lt 12, [1]), (4, 1, .iload_n 0, []), (5, 1, .iconst 2, []), (6, 3, .if_icmp .gt 7, [1]), (9, 1, .iconst 1, []), (10, 3, .goto 4, [2])] 0 [vI x0] [] M Q
  simp only [w_il_0, w_if_lt, w_iconst, w_ic_gt, w_goto, true_and, and_true, true_or, or_true]
  exact h
theorem b_127_1 {sx : Int → Int} {L : Nat} {x0 : Int} {M : Mem} {Q : Option AV → Mem → Prop} 
    (h : Rn sx L K0 R0 127 2 [vI x0] [vI 0] M Q) : Rn sx L K0 R0 127 1 [vI x0] [] M Q := by
  refine Rn_w (by decide) ?_
  show wpc sx L K0 R0 127 [(13, 1, .iconst 0, [])] 2 [vI x0] [] M Q
  simp only [w_iconst, w_fall, true_and, and_true, true_or, or_true]
  exact h
theorem b_127_2 {sx : Int → Int} {L : Nat} {x0 : Int} {y0 : Int} {M : Mem} {Q : Option AV → Mem → Prop} 
    (h : (y0 = 0 ∨ y0 = 1) ∧ (Q (some (vI y0)) M)) : Rn sx L K0 R0 127 2 [vI x0] [vI y0] M Q := by
  refine Rn_w (by decide) ?_
  show wpc sx L K0 R0 127 [(14, 1, .ireturn, [])] 0 [vI x0] [vI y0] M Q
  simp only [w_ret2 rk_127, true_and, and_true, true_or, or_true]
  exact h
theorem b_128_0 {sx : Int → Int} {L : Nat} {x0 : Int} {M : Mem} {Q : Option AV → Mem → Prop} 
    (h : (x0 < (0 : Int) → Rn sx L K0 R0 128 1 [vI x0] [] M Q) ∧ (¬ (x0 < (0 : Int)) → ((120 : Int) ≤ x0 → Rn sx L K0 R0 128 1 [vI x0] [] M Q) ∧ (¬ ((120 : Int) ≤ x0) → Rn sx L K0 R0 128 2 [vI x0] [vI 1] M Q))) : Rn sx L K0 R0 128 0 [vI x0] [] M Q := by
  refine Rn_w (by decide) ?_
  show wpc sx L K0 R0 128 [(0, 1, .iload_n 0, []), (1, 3, .ifCond .lt 13, [1]), (4, 1, .iload_n 0, []), (5, 2, .bipush 120, []), (7, 3, .if_icmp .ge 7, [1]), (10, 1, .iconst 1, []), (11, 3, .goto 4, [2])] 0 [vI x0] [] M Q
  simp only [w_il_0, w_if_lt, w_bipush, w_ic_ge, w_iconst, w_goto, true_and, and_true, true_or, or_true]
  exact h
theorem b_128_1 {sx : Int → Int} {L : Nat} {x0 : Int} {M : Mem} {Q : Option AV → Mem → Prop} 
    (h : Rn sx L K0 R0 128 2 [vI x0] [vI 0] M Q) : Rn sx L K0 R0 128 1 [vI x0] [] M Q := by
  refine Rn_w (by decide) ?_
  show wpc sx L K0 R0 128 [(14, 1, .iconst 0, [])] 2 [vI x0] [] M Q
  simp only [w_iconst, w_fall, true_and, and_true, true_or, or_true]
  exact h
theorem b_128_2 {sx : Int → Int} {L : Nat} {x0 : Int} {y0 : Int} {M : Mem} {Q : Option AV → Mem → Prop} 
    (h : (y0 = 0 ∨ y0 = 1) ∧ (Q (some (vI y0)) M)) : Rn sx L K0 R0 128 2 [vI x0] [vI y0] M Q := by
  refine Rn_w (by decide) ?_
  show wpc sx L K0 R0 128 [(15, 1, .ireturn, [])] 0 [vI x0] [vI y0] M Q
  simp only [w_ret2 rk_128, true_and, and_true, true_or, or_true]
  exact h
theorem b_129_0 {sx : Int → Int} {L : Nat} {x0 : Int} {M : Mem} {Q : Option AV → Mem → Prop} 
    (h : ((1 : Int) < x0 → Rn sx L K0 R0 129 1 [vI x0] [] M Q) ∧ (¬ ((1 : Int) < x0) → Rn sx L K0 R0 129 2 [vI x0] [vI 0] M Q)) : Rn sx L K0 R0 129 0 [vI x0] [] M Q := by
  refine Rn_w (by decide) ?_
  show wpc sx L K0 R0 129 [(0, 1, .iload_n 0, []), (1, 1, .iconst 1, []), (2, 3, .if_icmp .gt 7, [1]), (5, 1, .iconst 0, []), (6, 3, .goto 4, [2])] 0 [vI x0] [] M Q
  simp only [w_il_0, w_iconst, w_ic_gt, w_goto, true_and, and_true, true_or, or_true]
  exact h
theorem b_129_1 {sx : Int → Int} {L : Nat} {x0 : Int} {M : Mem} {Q : Option AV → Mem → Prop} 
    (h : Rn sx L K0 R0 129 2 [vI x0] [vI 1] M Q) : Rn sx L K0 R0 129 1 [vI x0] [] M Q := by
  refine Rn_w (by decide) ?_
  show wpc sx L K0 R0 129 [(9, 1, .iconst 1, [])] 2 [vI x0] [] M Q
  simp only [w_iconst, w_fall, true_and, and_true, true_or, or_true]
  exact h
theorem b_129_2 {sx : Int → Int} {L : Nat} {x0 : Int} {y0 : Int} {M : Mem} {Q : Option AV → Mem → Prop} 
    (h : Q (some (vI y0)) M) : Rn sx L K0 R0 129 2 [vI x0] [vI y0] M Q := by
  refine Rn_w (by decide) ?_
  show wpc sx L K0 R0 129 [(10, 1, .ireturn, [])] 0 [vI x0] [vI y0] M Q
  simp only [w_ret1 rk_129, true_and, and_true, true_or, or_true]
  exact h
theorem b_130_0 {sx : Int → Int} {L : Nat} {x0 : Int} {M : Mem} {Q : Option AV → Mem → Prop} 
    (h : ((1 : Int) < x0 → Rn sx L K0 R0 130 1 [vI x0] [] M Q) ∧ (¬ ((1 : Int) < x0) → Q (some (vI 2)) M)) : Rn sx L K0 R0 130 0 [vI x0] [] M Q := by
  refine Rn_w (by decide) ?_
  show wpc sx L K0 R0 130 [(0, 1, .iload_n 0, []), (1, 1, .iconst 1, []), (2, 3, .if_icmp .gt 5, [1]), (5, 1, .iconst 2, []), (6, 1, .ireturn, [])] 0 [vI x0] [] M Q
  simp only [w_il_0, w_iconst, w_ic_gt, w_ret1 rk_130, true_and, and_true, true_or, or_true]
  exact h
theorem b_130_1 {sx : Int → Int} {L : Nat} {x0 : Int} {M : Mem} {Q : Option AV → Mem → Prop} 
    (h : (¬ x0 = (2 : Int) → Rn sx L K0 R0 130 2 [vI x0] [] M Q) ∧ (¬ (¬ x0 = (2 : Int)) → Rn sx L K0 R0 130 3 [vI x0] [vI 3] M Q)) : Rn sx L K0 R0 130 1 [vI x0] [] M Q := by
  refine Rn_w (by decide) ?_
  show wpc sx L K0 R0 130 [(7, 1, .iload_n 0, []), (8, 1, .iconst 2, []), (9, 3, .if_icmp .ne 7, [2]), (12, 1, .iconst 3, []), (13, 3, .goto 5, [3])] 0 [vI x0] [] M Q
  simp only [w_il_0, w_iconst, w_ic_ne, w_goto, true_and, and_true, true_or, or_true]
  exact h
theorem b_130_2 {sx : Int → Int} {L : Nat} {x0 : Int} {M : Mem} {Q : Option AV → Mem → Prop} 
    (h : Rn sx L K0 R0 130 3 [vI x0] [vI 120] M Q) : Rn sx L K0 R0 130 2 [vI x0] [] M Q := by
  refine Rn_w (by decide) ?_
  show wpc sx L K0 R0 130 [(16, 2, .bipush 120, [])] 3 [vI x0] [] M Q
  simp only [w_bipush, w_fall, true_and, and_true, true_or, or_true]
  exact h
theorem b_130_3 {sx : Int → Int} {L : Nat} {x0 : Int} {y0 : Int} {M : Mem} {Q : Option AV → Mem → Prop} 
    (h : Q (some (vI y0)) M) : Rn sx L K0 R0 130 3 [vI x0] [vI y0] M Q := by
  refine Rn_w (by decide) ?_
  show wpc sx L K0 R0 130 [(18, 1, .ireturn, [])] 0 [vI x0] [vI y0] M Q
  simp only [w_ret1 rk_130, true_and, and_true, true_or, or_true]
  exact h
theorem b_131_0 {sx : Int → Int} {L : Nat} {x1 : Int} {M : Mem} {Q : Option AV → Mem → Prop} 
    (h : (x1 < (0 : Int) → Rn sx L K0 R0 131 1 [vR 2, vI x1] [] M Q) ∧ (¬ (x1 < (0 : Int)) → (M 6 7 ≤ x1 → Rn sx L K0 R0 131 1 [vR 2, vI x1] [] M Q) ∧ (¬ (M 6 7 ≤ x1) → Rn sx L K0 R0 131 2 [vR 2, vI x1] [vI 1] M Q))) : Rn sx L K0 R0 131 0 [vR 2, vI x1] [] M Q := by
  refine Rn_w (by decide) ?_
  show wpc sx L K0 R0 131 [(0, 1, .iload_n 1, []), (1, 3, .ifCond .lt 18, [1]), (4, 1, .iload_n 1, []), (5, 1, .aload_n 0, []), (6, 3, .getfield 25, [8, 2, 568]), (9, 3, .getfield 175, [5, 7, 228]), (12, 3, .if_icmp .ge 7, [1]), (15, 1, .iconst 1, []), (16, 3, .goto 4, [2])] 0 [vR 2, vI x1] [] M Q
  simp only [w_il_1, w_if_lt, w_al_0, w_gf_8_2, kin_T (ks_0), rs_0_2, w_gf_5_7, kin_T (ks_6), w_ic_ge, w_iconst, w_goto, true_and, and_true, true_or, or_true]
  exact h
theorem b_131_1 {sx : Int → Int} {L : Nat} {x1 : Int} {M : Mem} {Q : Option AV → Mem → Prop} 
    (h : Rn sx L K0 R0 131 2 [vR 2, vI x1] [vI 0] M Q) : Rn sx L K0 R0 131 1 [vR 2, vI x1] [] M Q := by
  refine Rn_w (by decide) ?_
  show wpc sx L K0 R0 131 [(19, 1, .iconst 0, [])] 2 [vR 2, vI x1] [] M Q
  simp only [w_iconst, w_fall, true_and, and_true, true_or, or_true]
  exact h
theorem b_131_2 {sx : Int → Int} {L : Nat} {x1 : Int} {y0 : Int} {M : Mem} {Q : Option AV → Mem → Prop} 
    (h : (y0 = 0 ∨ y0 = 1) ∧ (Q (some (vI y0)) M)) : Rn sx L K0 R0 131 2 [vR 2, vI x1] [vI y0] M Q := by
  refine Rn_w (by decide) ?_
  show wpc sx L K0 R0 131 [(20, 1, .ireturn, [])] 0 [vR 2, vI x1] [vI y0] M Q
  simp only [w_ret2 rk_131, true_and, and_true, true_or, or_true]
  exact h
theorem b_132_0 {sx : Int → Int} {L : Nat} {x1 : Int} {M : Mem} {Q : Option AV → Mem → Prop} 
    (h : inR ((-10 : Int) - x1) ∧ (Q (some (vI ((-10 : Int) - x1))) (mset M 0 9 x1))) : Rn sx L K0 R0 132 0 [vR 2, vI x1] [] M Q := by
  refine Rn_w (by decide) ?_
  show wpc sx L K0 R0 132 [(0, 1, .aload_n 0, []), (1, 1, .iload_n 1, []), (2, 3, .putfield 289, [8, 9, 575]), (5, 2, .bipush (-10), []), (7, 1, .iload_n 1, []), (8, 1, .isub, []), (9, 1, .ireturn, [])] 0 [vR 2, vI x1] [] M Q
  simp only [w_al_0, w_il_1, w_pf_8_9, kin_T (ks_0), w_bipush, w_isub, w_ret1 rk_132, true_and, and_true, true_or, or_true]
  exact h
theorem b_133_0 {sx : Int → Int} {L : Nat}  {M : Mem} {Q : Option AV → Mem → Prop} 
    (h : Rn sx L K0 R0 133 1 [vR 2, vI 0, vI 0] [] M Q) : Rn sx L K0 R0 133 0 [vR 2, vU, vU] [] M Q := by
  refine Rn_w (by decide) ?_
  show wpc sx L K0 R0 133 [(0, 1, .iconst 0, []), (1, 1, .istore_n 1, []), (2, 1, .iconst 0, []), (3, 1, .istore_n 2, [])] 1 [vR 2, vU, vU] [] M Q
  simp only [w_iconst, w_is_1 (c2R _), w_is_2 (c2I _), w_fall, true_and, and_true, true_or, or_true]
  exact h
theorem b_133_1 {sx : Int → Int} {L : Nat} {x1 : Int} {x2 : Int} {M : Mem} {Q : Option AV → Mem → Prop} (hj0 : 0 ≤ x2 ∧ x2 < 8)
    (h : ((8 : Int) ≤ x2 → Rn sx L K0 R0 133 2 [vR 2, vI x1, vI x2] [] M Q) ∧ (¬ ((8 : Int) ≤ x2) → inR (x1 + (M (plA x2) 1)) ∧ (inR (x2 + 1) ∧ (Rn sx L K0 R0 133 1 [vR 2, vI (x1 + (M (plA x2) 1)), vI (x2 + 1)] [] M Q)))) : Rn sx L K0 R0 133 1 [vR 2, vI x1, vI x2] [] M Q := by
  refine Rn_w (by decide) ?_
  show wpc sx L K0 R0 133 [(4, 1, .iload_n 2, []), (5, 2, .bipush 8, []), (7, 3, .if_icmp .ge 21, [2]), (10, 1, .iload_n 1, []), (11, 1, .aload_n 0, []), (12, 3, .getfield 18, [8, 1, 567]), (15, 1, .iload_n 2, []), (16, 1, .aaload, []), (17, 3, .getfield 90, [1, 1, 270]), (20, 1, .iadd, []), (21, 1, .istore_n 1, []), (22, 3, .iinc 2 1, []), (25, 3, .goto (-21), [1])] 0 [vR 2, vI x1, vI x2] [] M Q
  simp only [w_il_2, w_bipush, w_ic_ge, w_il_1, w_al_0, w_gf_8_1, kin_T (ks_0), rs_0_1, w_aald, rpls hj0.1 hj0.2, arq_T (ks_5) ⟨by decide, by decide⟩, hj0.1, (show x2 < ((8 : Nat) : Int) from hj0.2), w_gf_1_1, kin_T (kpl (isPl_A hj0.1 hj0.2)), w_iadd, w_is_1 (c2R _), w_inc_2 (c2I _), w_goto, true_and, and_true, true_or, or_true]
  exact h
theorem b_133_2 {sx : Int → Int} {L : Nat} {x1 : Int} {x2 : Int} {M : Mem} {Q : Option AV → Mem → Prop} 
    (h : Q (some (vI x1)) M) : Rn sx L K0 R0 133 2 [vR 2, vI x1, vI x2] [] M Q := by
  refine Rn_w (by decide) ?_
  show wpc sx L K0 R0 133 [(28, 1, .iload_n 1, []), (29, 1, .ireturn, [])] 0 [vR 2, vI x1, vI x2] [] M Q
  simp only [w_il_1, w_ret1 rk_133, true_and, and_true, true_or, or_true]
  exact h
theorem b_134_0 {sx : Int → Int} {L : Nat}  {M : Mem} {Q : Option AV → Mem → Prop} 
    (h : Rn sx L K0 R0 134 1 [vR 2, vI 0, vI 0] [] M Q) : Rn sx L K0 R0 134 0 [vR 2, vU, vU] [] M Q := by
  refine Rn_w (by decide) ?_
  show wpc sx L K0 R0 134 [(0, 1, .iconst 0, []), (1, 1, .istore_n 1, []), (2, 1, .iconst 0, []), (3, 1, .istore_n 2, [])] 1 [vR 2, vU, vU] [] M Q
  simp only [w_iconst, w_is_1 (c2R _), w_is_2 (c2I _), w_fall, true_and, and_true, true_or, or_true]
  exact h
theorem b_134_1 {sx : Int → Int} {L : Nat} {x1 : Int} {x2 : Int} {M : Mem} {Q : Option AV → Mem → Prop} (hj0 : 0 ≤ x2 ∧ x2 < 8)
    (h : ((8 : Int) ≤ x2 → Rn sx L K0 R0 134 3 [vR 2, vI x1, vI x2] [] M Q) ∧ (¬ ((8 : Int) ≤ x2) → (¬ M (plA x2) 3 = (-1 : Int) → Rn sx L K0 R0 134 2 [vR 2, vI x1, vI x2] [] M Q) ∧ (¬ (¬ M (plA x2) 3 = (-1 : Int)) → ((0 : Int) ≤ M 0 8 ∧ x2 ≤ (30 : Int)) ∧ ((¬ iAnd ((M 0 8) / 2 ^ (x2).toNat) 1 = (0 : Int) → Rn sx L K0 R0 134 2 [vR 2, vI x1, vI x2] [] M Q) ∧ (¬ (¬ iAnd ((M 0 8) / 2 ^ (x2).toNat) 1 = (0 : Int)) → ((0 : Int) ≤ (1 : Int) ∧ x2 ≤ (30 : Int) ∧ (1 : Int) * 2 ^ (x2).toNat ≤ (2147483647 : Int)) ∧ (Rn sx L K0 R0 134 2 [vR 2, vI (iOr x1 ((1 : Int) * 2 ^ (x2).toNat)), vI x2] [] M Q)))))) : Rn sx L K0 R0 134 1 [vR 2, vI x1, vI x2] [] M Q := by
  refine Rn_w (by decide) ?_
  show wpc sx L K0 R0 134 [(4, 1, .iload_n 2, []), (5, 2, .bipush 8, []), (7, 3, .if_icmp .ge 39, [3]), (10, 1, .aload_n 0, []), (11, 3, .getfield 18, [8, 1, 567]), (14, 1, .iload_n 2, []), (15, 1, .aaload, []), (16, 3, .getfield 96, [1, 3, 273]), (19, 1, .iconst (-1), []), (20, 3, .if_icmp .ne 20, [2]), (23, 1, .aload_n 0, []), (24, 3, .getfield 127, [8, 8, 574]), (27, 1, .iload_n 2, []), (28, 1, .ishr, []), (29, 1, .iconst 1, []), (30, 1, .iand, []), (31, 3, .ifCond .ne 9, [2]), (34, 1, .iload_n 1, []), (35, 1, .iconst 1, []), (36, 1, .iload_n 2, []), (37, 1, .ishl, []), (38, 1, .ior, []), (39, 1, .istore_n 1, [])] 2 [vR 2, vI x1, vI x2] [] M Q
  simp only [w_il_2, w_bipush, w_ic_ge, w_al_0, w_gf_8_1, kin_T (ks_0), rs_0_1, w_aald, rpls hj0.1 hj0.2, arq_T (ks_5) ⟨by decide, by decide⟩, hj0.1, (show x2 < ((8 : Nat) : Int) from hj0.2), w_gf_1_3, kin_T (kpl (isPl_A hj0.1 hj0.2)), w_iconst, w_ic_ne, w_gf_8_8, w_ishr, w_iand, w_if_ne, w_il_1, w_ishl, w_ior, w_is_1 (c2R _), w_fall, true_and, and_true, true_or, or_true]
  exact h
theorem b_134_2 {sx : Int → Int} {L : Nat} {x1 : Int} {x2 : Int} {M : Mem} {Q : Option AV → Mem → Prop} 
    (h : inR (x2 + 1) ∧ (Rn sx L K0 R0 134 1 [vR 2, vI x1, vI (x2 + 1)] [] M Q)) : Rn sx L K0 R0 134 2 [vR 2, vI x1, vI x2] [] M Q := by
  refine Rn_w (by decide) ?_
  show wpc sx L K0 R0 134 [(40, 3, .iinc 2 1, []), (43, 3, .goto (-39), [1])] 0 [vR 2, vI x1, vI x2] [] M Q
  simp only [w_inc_2 (c2I _), w_goto, true_and, and_true, true_or, or_true]
  exact h
theorem b_134_3 {sx : Int → Int} {L : Nat} {x1 : Int} {x2 : Int} {M : Mem} {Q : Option AV → Mem → Prop} 
    (h : Mq sx L K0 R0 55 [vR 76] (mset (mset M 6 0 x1) 0 7 0) (fun rv M1 => rv = none ∧ (Q none M1))) : Rn sx L K0 R0 134 3 [vR 2, vI x1, vI x2] [] M Q := by
  refine Rn_w (by decide) ?_
  show wpc sx L K0 R0 134 [(46, 1, .aload_n 0, []), (47, 3, .getfield 25, [8, 2, 568]), (50, 1, .iload_n 1, []), (51, 3, .putfield 215, [5, 0, 203]), (54, 1, .aload_n 0, []), (55, 1, .iconst 0, []), (56, 3, .putfield 340, [8, 7, 573]), (59, 1, .aload_n 0, []), (60, 3, .getfield 60, [8, 5, 571]), (63, 3, .invokevirtual 343, [55, 652, 0]), (66, 1, .return_, [])] 0 [vR 2, vI x1, vI x2] [] M Q
  simp only [w_al_0, w_gf_8_2, kin_T (ks_0), rs_0_2, w_il_1, w_pf_5_0, kin_T (ks_6), w_iconst, w_pf_8_7, b01_0, w_gf_8_5, rs_0_5, w_ivv_0  cs0, mk_55, kin_T (ks_74), rk_55, rvk0, List.nil_append, w_ret0 rk_134, true_and, and_true, true_or, or_true]
  exact h
theorem b_135_0 {sx : Int → Int} {L : Nat}  {M : Mem} {Q : Option AV → Mem → Prop} 
    (h : (¬ M 0 7 = (0 : Int) → Rn sx L K0 R0 135 1 [vR 2] [] M Q) ∧ (¬ (¬ M 0 7 = (0 : Int)) → Mq sx L K0 R0 36 [vR 54, vR 8, vI (M 6 7), vI 0] M (fun rv M1 => rv = none ∧ (Rn sx L K0 R0 135 1 [vR 2] [] (mset M1 0 7 1) Q)))) : Rn sx L K0 R0 135 0 [vR 2] [] M Q := by
  refine Rn_w (by decide) ?_
  show wpc sx L K0 R0 135 [(0, 1, .aload_n 0, []), (1, 3, .getfield 340, [8, 7, 573]), (4, 3, .ifCond .ne 27, [1]), (7, 1, .aload_n 0, []), (8, 3, .getfield 51, [8, 4, 570]), (11, 1, .aload_n 0, []), (12, 3, .getfield 25, [8, 2, 568]), (15, 1, .aload_n 0, []), (16, 3, .getfield 25, [8, 2, 568]), (19, 3, .getfield 175, [5, 7, 228]), (22, 1, .iconst 0, []), (23, 3, .invokevirtual 346, [36, 729, 3]), (26, 1, .aload_n 0, []), (27, 1, .iconst 1, []), (28, 3, .putfield 340, [8, 7, 573])] 1 [vR 2] [] M Q
  simp only [w_al_0, w_gf_8_7, kin_T (ks_0), w_if_ne, w_gf_8_4, rs_0_4, w_gf_8_2, rs_0_2, w_gf_5_7, kin_T (ks_6), w_iconst, w_ivv_3 (c2I _) (c2I _) (c2R _) cs0, mk_36, kin_T (ks_52), rk_36, rvk0, List.nil_append, w_pf_8_7, b01_1, w_fall, true_and, and_true, true_or, or_true]
  exact h
theorem b_135_1 {sx : Int → Int} {L : Nat}  {M : Mem} {Q : Option AV → Mem → Prop} 
    (h : Q none M) : Rn sx L K0 R0 135 1 [vR 2] [] M Q := by
  refine Rn_w (by decide) ?_
  show wpc sx L K0 R0 135 [(31, 1, .return_, [])] 0 [vR 2] [] M Q
  simp only [w_ret0 rk_135, true_and, and_true, true_or, or_true]
  exact h
theorem b_137_0 {sx : Int → Int} {L : Nat} {x0 : Int} {x1 : Int} {x2 : Int} {M : Mem} {Q : Option AV → Mem → Prop} 
    (h : (x0 < x1 → Rn sx L K0 R0 137 1 [vI x0, vI x1, vI x2] [] M Q) ∧ (¬ (x0 < x1) → (x2 < x0 → Rn sx L K0 R0 137 1 [vI x0, vI x1, vI x2] [] M Q) ∧ (¬ (x2 < x0) → Rn sx L K0 R0 137 2 [vI x0, vI x1, vI x2] [vI 1] M Q))) : Rn sx L K0 R0 137 0 [vI x0, vI x1, vI x2] [] M Q := by
  refine Rn_w (by decide) ?_
  show wpc sx L K0 R0 137 [(0, 1, .iload_n 0, []), (1, 1, .iload_n 1, []), (2, 3, .if_icmp .lt 12, [1]), (5, 1, .iload_n 0, []), (6, 1, .iload_n 2, []), (7, 3, .if_icmp .gt 7, [1]), (10, 1, .iconst 1, []), (11, 3, .goto 4, [2])] 0 [vI x0, vI x1, vI x2] [] M Q
  simp only [w_il_0, w_il_1, w_ic_lt, w_il_2, w_ic_gt, w_iconst, w_goto, true_and, and_true, true_or, or_true]
  exact h
theorem b_137_1 {sx : Int → Int} {L : Nat} {x0 : Int} {x1 : Int} {x2 : Int} {M : Mem} {Q : Option AV → Mem → Prop} 
    (h : Rn sx L K0 R0 137 2 [vI x0, vI x1, vI x2] [vI 0] M Q) : Rn sx L K0 R0 137 1 [vI x0, vI x1, vI x2] [] M Q := by
  refine Rn_w (by decide) ?_
  show wpc sx L K0 R0 137 [(14, 1, .iconst 0, [])] 2 [vI x0, vI x1, vI x2] [] M Q
  simp only [w_iconst, w_fall, true_and, and_true, true_or, or_true]
  exact h
theorem b_137_2 {sx : Int → Int} {L : Nat} {x0 : Int} {x1 : Int} {x2 : Int} {y0 : Int} {M : Mem} {Q : Option AV → Mem → Prop} 
    (h : (y0 = 0 ∨ y0 = 1) ∧ (Q (some (vI y0)) M)) : Rn sx L K0 R0 137 2 [vI x0, vI x1, vI x2] [vI y0] M Q := by
  refine Rn_w (by decide) ?_
  show wpc sx L K0 R0 137 [(15, 1, .ireturn, [])] 0 [vI x0, vI x1, vI x2] [vI y0] M Q
  simp only [w_ret2 rk_137, true_and, and_true, true_or, or_true]
  exact h
theorem b_138_0 {sx : Int → Int} {L : Nat} {x0 : Int} {M : Mem} {Q : Option AV → Mem → Prop} 
    (h : Rn sx L K0 R0 138 1 [vI x0, vI 0, vI 0] [] M Q) : Rn sx L K0 R0 138 0 [vI x0, vU, vU] [] M Q := by
  refine Rn_w (by decide) ?_
  show wpc sx L K0 R0 138 [(0, 1, .iconst 0, []), (1, 1, .istore_n 1, []), (2, 1, .iconst 0, []), (3, 1, .istore_n 2, [])] 1 [vI x0, vU, vU] [] M Q
  simp only [w_iconst, w_is_1 (c2I _), w_is_2 (c2I _), w_fall, true_and, and_true, true_or, or_true]
  exact h
theorem b_138_1 {sx : Int → Int} {L : Nat} {x0 : Int} {x1 : Int} {x2 : Int} {M : Mem} {Q : Option AV → Mem → Prop} 
    (h : ((8 : Int) ≤ x2 → Rn sx L K0 R0 138 2 [vI x0, vI x1, vI x2] [] M Q) ∧ (¬ ((8 : Int) ≤ x2) → ((0 : Int) ≤ x0 ∧ (0 : Int) ≤ x2 ∧ x2 ≤ (30 : Int)) ∧ (inR (x1 + (iAnd (x0 / 2 ^ (x2).toNat) 1)) ∧ (inR (x2 + 1) ∧ (Rn sx L K0 R0 138 1 [vI x0, vI (x1 + (iAnd (x0 / 2 ^ (x2).toNat) 1)), vI (x2 + 1)] [] M Q))))) : Rn sx L K0 R0 138 1 [vI x0, vI x1, vI x2] [] M Q := by
  refine Rn_w (by decide) ?_
  show wpc sx L K0 R0 138 [(4, 1, .iload_n 2, []), (5, 2, .bipush 8, []), (7, 3, .if_icmp .ge 17, [2]), (10, 1, .iload_n 1, []), (11, 1, .iload_n 0, []), (12, 1, .iload_n 2, []), (13, 1, .ishr, []), (14, 1, .iconst 1, []), (15, 1, .iand, []), (16, 1, .iadd, []), (17, 1, .istore_n 1, []), (18, 3, .iinc 2 1, []), (21, 3, .goto (-17), [1])] 0 [vI x0, vI x1, vI x2] [] M Q
  simp only [w_il_2, w_bipush, w_ic_ge, w_il_1, w_il_0, w_ishr, w_iconst, w_iand, w_iadd, w_is_1 (c2I _), w_inc_2 (c2I _), w_goto, true_and, and_true, true_or, or_true]
  exact h
theorem b_138_2 {sx : Int → Int} {L : Nat} {x0 : Int} {x1 : Int} {x2 : Int} {M : Mem} {Q : Option AV → Mem → Prop} 
    (h : Q (some (vI x1)) M) : Rn sx L K0 R0 138 2 [vI x0, vI x1, vI x2] [] M Q := by
  refine Rn_w (by decide) ?_
  show wpc sx L K0 R0 138 [(24, 1, .iload_n 1, []), (25, 1, .ireturn, [])] 0 [vI x0, vI x1, vI x2] [] M Q
  simp only [w_il_1, w_ret1 rk_138, true_and, and_true, true_or, or_true]
  exact h
theorem b_139_0 {sx : Int → Int} {L : Nat} {x1 : Int} {x2 : Int} {M : Mem} {Q : Option AV → Mem → Prop} 
    (h : Mq sx L K0 R0 137 [vI x1, vI 0, vI 2] M (fun rv M1 => ∃ r1, rv = some (vI r1) ∧ ((r1 = (0 : Int) → Rn sx L K0 R0 139 2 [vR 106, vI x1, vI x2] [] M1 Q) ∧ (¬ (r1 = (0 : Int)) → (¬ x1 = (1 : Int) → Rn sx L K0 R0 139 1 [vR 106, vI x1, vI x2] [] M1 Q) ∧ (¬ (¬ x1 = (1 : Int)) → Mq sx L K0 R0 137 [vI x2, vI 2, vI 3] M1 (fun rv M2 => ∃ r2, rv = some (vI r2) ∧ ((r2 = (0 : Int) → Rn sx L K0 R0 139 2 [vR 106, vI x1, vI x2] [] M2 Q) ∧ (¬ (r2 = (0 : Int)) → Rn sx L K0 R0 139 3 [vR 106, vI x1, vI x2] [] M2 Q)))))))) : Rn sx L K0 R0 139 0 [vR 106, vI x1, vI x2] [] M Q := by
  refine Rn_w (by decide) ?_
  show wpc sx L K0 R0 139 [(0, 1, .iload_n 1, []), (1, 1, .iconst 0, []), (2, 1, .iconst 2, []), (3, 3, .invokestatic 135, [137, 1355, 3]), (6, 3, .ifCond .eq 25, [2]), (9, 1, .iload_n 1, []), (10, 1, .iconst 1, []), (11, 3, .if_icmp .ne 15, [1]), (14, 1, .iload_n 2, []), (15, 1, .iconst 2, []), (16, 1, .iconst 3, []), (17, 3, .invokestatic 135, [137, 1355, 3]), (20, 3, .ifCond .eq 11, [2]), (23, 3, .goto 11, [3])] 0 [vR 106, vI x1, vI x2] [] M Q
  simp only [w_il_1, w_iconst, w_ivs_3 (c2I _) (c2I _) (c2I _) cs0, rk_137, rvk2, List.cons_append, List.nil_append, w_if_eq, w_ic_ne, w_il_2, w_goto, true_and, and_true, true_or, or_true]
  exact h
theorem b_139_1 {sx : Int → Int} {L : Nat} {x1 : Int} {x2 : Int} {M : Mem} {Q : Option AV → Mem → Prop} 
    (h : (x2 = (1 : Int) → Rn sx L K0 R0 139 3 [vR 106, vI x1, vI x2] [] M Q) ∧ (¬ (x2 = (1 : Int)) → Rn sx L K0 R0 139 2 [vR 106, vI x1, vI x2] [] M Q)) : Rn sx L K0 R0 139 1 [vR 106, vI x1, vI x2] [] M Q := by
  refine Rn_w (by decide) ?_
  show wpc sx L K0 R0 139 [(26, 1, .iload_n 2, []), (27, 1, .iconst 1, []), (28, 3, .if_icmp .eq 6, [3])] 2 [vR 106, vI x1, vI x2] [] M Q
  simp only [w_il_2, w_iconst, w_ic_eq, w_fall, true_and, and_true, true_or, or_true]
  exact h
theorem b_139_2 {sx : Int → Int} {L : Nat} {x1 : Int} {x2 : Int} {M : Mem} {Q : Option AV → Mem → Prop} 
    (h : Q (some (vI (-2))) M) : Rn sx L K0 R0 139 2 [vR 106, vI x1, vI x2] [] M Q := by
  refine Rn_w (by decide) ?_
  show wpc sx L K0 R0 139 [(31, 2, .bipush (-2), []), (33, 1, .ireturn, [])] 0 [vR 106, vI x1, vI x2] [] M Q
  simp only [w_bipush, w_ret1 rk_139, true_and, and_true, true_or, or_true]
  exact h
theorem b_139_3 {sx : Int → Int} {L : Nat} {x1 : Int} {x2 : Int} {M : Mem} {Q : Option AV → Mem → Prop} 
    (h : (¬ M 104 0 = (6 : Int) → Rn sx L K0 R0 139 4 [vR 106, vI x1, vI x2] [] M Q) ∧ (¬ (¬ M 104 0 = (6 : Int)) → Q (some (vI (-4))) M)) : Rn sx L K0 R0 139 3 [vR 106, vI x1, vI x2] [] M Q := by
  refine Rn_w (by decide) ?_
  show wpc sx L K0 R0 139 [(34, 1, .aload_n 0, []), (35, 3, .getfield 139, [9, 0, 1154]), (38, 2, .bipush 6, []), (40, 3, .if_icmp .ne 6, [4]), (43, 2, .bipush (-4), []), (45, 1, .ireturn, [])] 0 [vR 106, vI x1, vI x2] [] M Q
  simp only [w_al_0, w_gf_9_0, kin_T (ks_104), w_bipush, w_ic_ne, w_ret1 rk_139, true_and, and_true, true_or, or_true]
  exact h
set_option maxRecDepth 8192 in
theorem b_139_4 {sx : Int → Int} {L : Nat} {x1 : Int} {x2 : Int} {M : Mem} {Q : Option AV → Mem → Prop} 
    (h : ((0 : Int) ≤ M 104 0 ∧ M 104 0 < (6 : Int)) ∧ (((0 : Int) ≤ (mset M 105 (M 104 0) x1) 104 0 ∧ (mset M 105 (M 104 0) x1) 104 0 < (6 : Int)) ∧ (((0 : Int) ≤ (mset (mset M 105 (M 104 0) x1) 106 ((mset M 105 (M 104 0) x1) 104 0) x2) 104 0 ∧ (mset (mset M 105 (M 104 0) x1) 106 ((mset M 105 (M 104 0) x1) 104 0) x2) 104 0 < (6 : Int)) ∧ (((0 : Int) ≤ (mset (mset (mset M 105 (M 104 0) x1) 106 ((mset M 105 (M 104 0) x1) 104 0) x2) 107 ((mset (mset M 105 (M 104 0) x1) 106 ((mset M 105 (M 104 0) x1) 104 0) x2) 104 0) 1) 104 0 ∧ (mset (mset (mset M 105 (M 104 0) x1) 106 ((mset M 105 (M 104 0) x1) 104 0) x2) 107 ((mset (mset M 105 (M 104 0) x1) 106 ((mset M 105 (M 104 0) x1) 104 0) x2) 104 0) 1) 104 0 < (6 : Int)) ∧ (inR (((mset (mset (mset (mset M 105 (M 104 0) x1) 106 ((mset M 105 (M 104 0) x1) 104 0) x2) 107 ((mset (mset M 105 (M 104 0) x1) 106 ((mset M 105 (M 104 0) x1) 104 0) x2) 104 0) 1) 108 ((mset (mset (mset M 105 (M 104 0) x1) 106 ((mset M 105 (M 104 0) x1) 104 0) x2) 107 ((mset (mset M 105 (M 104 0) x1) 106 ((mset M 105 (M 104 0) x1) 104 0) x2) 104 0) 1) 104 0) 0) 104 0) + 1) ∧ (Mq sx L K0 R0 141 [vR 106] (mset (mset (mset (mset (mset M 105 (M 104 0) x1) 106 ((mset M 105 (M 104 0) x1) 104 0) x2) 107 ((mset (mset M 105 (M 104 0) x1) 106 ((mset M 105 (M 104 0) x1) 104 0) x2) 104 0) 1) 108 ((mset (mset (mset M 105 (M 104 0) x1) 106 ((mset M 105 (M 104 0) x1) 104 0) x2) 107 ((mset (mset M 105 (M 104 0) x1) 106 ((mset M 105 (M 104 0) x1) 104 0) x2) 104 0) 1) 104 0) 0) 104 0 (((mset (mset (mset (mset M 105 (M 104 0) x1) 106 ((mset M 105 (M 104 0) x1) 104 0) x2) 107 ((mset (mset M 105 (M 104 0) x1) 106 ((mset M 105 (M 104 0) x1) 104 0) x2) 104 0) 1) 108 ((mset (mset (mset M 105 (M 104 0) x1) 106 ((mset M 105 (M 104 0) x1) 104 0) x2) 107 ((mset (mset M 105 (M 104 0) x1) 106 ((mset M 105 (M 104 0) x1) 104 0) x2) 104 0) 1) 104 0) 0) 104 0) + 1)) (fun rv M1 => rv = none ∧ (inR ((M1 104 0) - 1) ∧ (Q (some (vI ((M1 104 0) - 1))) M1))))))))) : Rn sx L K0 R0 139 4 [vR 106, vI x1, vI x2] [] M Q := by
  refine Rn_w (by decide) ?_
  show wpc sx L K0 R0 139 [(46, 1, .aload_n 0, []), (47, 3, .getfield 7, [9, 1, 1155]), (50, 1, .aload_n 0, []), (51, 3, .getfield 139, [9, 0, 1154]), (54, 1, .iload_n 1, []), (55, 1, .iastore, []), (56, 1, .aload_n 0, []), (57, 3, .getfield 13, [9, 2, 1156]), (60, 1, .aload_n 0, []), (61, 3, .getfield 139, [9, 0, 1154]), (64, 1, .iload_n 2, []), (65, 1, .iastore, []), (66, 1, .aload_n 0, []), (67, 3, .getfield 16, [9, 3, 1157]), (70, 1, .aload_n 0, []), (71, 3, .getfield 139, [9, 0, 1154]), (74, 1, .iconst 1, []), (75, 1, .iastore, []), (76, 1, .aload_n 0, []), (77, 3, .getfield 19, [9, 4, 1158]), (80, 1, .aload_n 0, []), (81, 3, .getfield 139, [9, 0, 1154]), (84, 1, .iconst 0, []), (85, 1, .iastore, []), (86, 1, .aload_n 0, []), (87, 1, .dup, []), (88, 3, .getfield 139, [9, 0, 1154]), (91, 1, .iconst 1, []), (92, 1, .iadd, []), (93, 3, .putfield 139, [9, 0, 1154]), (96, 1, .aload_n 0, []), (97, 3, .invokevirtual 142, [141, 1358, 0]), (100, 1, .aload_n 0, []), (101, 3, .getfield 139, [9, 0, 1154]), (104, 1, .iconst 1, []), (105, 1, .isub, []), (106, 1, .ireturn, [])] 0 [vR 106, vI x1, vI x2] [] M Q
  simp only [w_al_0, w_gf_9_1, kin_T (ks_104), rs_104_1, w_gf_9_0, w_il_1, w_iast, arr_T (ks_105), w_gf_9_2, rs_104_2, w_il_2, arr_T (ks_106), w_gf_9_3, rs_104_3, w_iconst, arr_T (ks_107), w_gf_9_4, rs_104_4, arr_T (ks_108), w_dup (c2R _), w_iadd, w_pf_9_0, w_ivv_0  cs0, mk_141, rk_141, rvk0, List.nil_append, w_isub, w_ret1 rk_139, true_and, and_true, true_or, or_true]
  exact h
theorem b_140_0 {sx : Int → Int} {L : Nat} {x1 : Int} {x2 : Int} {x3 : Int} {M : Mem} {Q : Option AV → Mem → Prop} 
    (h : inR ((M 104 0) - 1) ∧ (Mq sx L K0 R0 137 [vI x1, vI 0, vI ((M 104 0) - 1)] M (fun rv M1 => ∃ r1, rv = some (vI r1) ∧ ((r1 = (0 : Int) → Rn sx L K0 R0 140 1 [vR 106, vI x1, vI x2, vI x3] [] M1 Q) ∧ (¬ (r1 = (0 : Int)) → Mq sx L K0 R0 137 [vI x2, vI 0, vI 119] M1 (fun rv M2 => ∃ r2, rv = some (vI r2) ∧ ((r2 = (0 : Int) → Rn sx L K0 R0 140 1 [vR 106, vI x1, vI x2, vI x3] [] M2 Q) ∧ (¬ (r2 = (0 : Int)) → Mq sx L K0 R0 137 [vI x3, vI 0, vI 119] M2 (fun rv M3 => ∃ r3, rv = some (vI r3) ∧ ((¬ r3 = (0 : Int) → Rn sx L K0 R0 140 2 [vR 106, vI x1, vI x2, vI x3] [] M3 Q) ∧ (¬ (¬ r3 = (0 : Int)) → Rn sx L K0 R0 140 1 [vR 106, vI x1, vI x2, vI x3] [] M3 Q))))))))))) : Rn sx L K0 R0 140 0 [vR 106, vI x1, vI x2, vI x3] [] M Q := by
  refine Rn_w (by decide) ?_
  show wpc sx L K0 R0 140 [(0, 1, .iload_n 1, []), (1, 1, .iconst 0, []), (2, 1, .aload_n 0, []), (3, 3, .getfield 139, [9, 0, 1154]), (6, 1, .iconst 1, []), (7, 1, .isub, []), (8, 3, .invokestatic 135, [137, 1355, 3]), (11, 3, .ifCond .eq 23, [1]), (14, 1, .iload_n 2, []), (15, 1, .iconst 0, []), (16, 2, .bipush 119, []), (18, 3, .invokestatic 135, [137, 1355, 3]), (21, 3, .ifCond .eq 13, [1]), (24, 1, .iload_n 3, []), (25, 1, .iconst 0, []), (26, 2, .bipush 119, []), (28, 3, .invokestatic 135, [137, 1355, 3]), (31, 3, .ifCond .ne 6, [2])] 1 [vR 106, vI x1, vI x2, vI x3] [] M Q
  simp only [w_il_1, w_iconst, w_al_0, w_gf_9_0, kin_T (ks_104), w_isub, w_ivs_3 (c2I _) (c2I _) (c2I _) cs0, rk_137, rvk2, List.cons_append, List.nil_append, w_if_eq, w_il_2, w_bipush, w_il_3, w_if_ne, w_fall, true_and, and_true, true_or, or_true]
  exact h
theorem b_140_1 {sx : Int → Int} {L : Nat} {x1 : Int} {x2 : Int} {x3 : Int} {M : Mem} {Q : Option AV → Mem → Prop} 
    (h : Q (some (vI (-2))) M) : Rn sx L K0 R0 140 1 [vR 106, vI x1, vI x2, vI x3] [] M Q := by
  refine Rn_w (by decide) ?_
  show wpc sx L K0 R0 140 [(34, 2, .bipush (-2), []), (36, 1, .ireturn, [])] 0 [vR 106, vI x1, vI x2, vI x3] [] M Q
  simp only [w_bipush, w_ret1 rk_140, true_and, and_true, true_or, or_true]
  exact h
theorem b_140_2 {sx : Int → Int} {L : Nat} {x1 : Int} {x2 : Int} {x3 : Int} {M : Mem} {Q : Option AV → Mem → Prop} 
    (h : ((0 : Int) ≤ x1 ∧ x1 < (6 : Int)) ∧ (((0 : Int) ≤ x1 ∧ x1 < (6 : Int)) ∧ (Q (some (vI 1)) (mset (mset (mset M 107 x1 x2) 108 x1 x3) 104 26 0)))) : Rn sx L K0 R0 140 2 [vR 106, vI x1, vI x2, vI x3] [] M Q := by
  refine Rn_w (by decide) ?_
  show wpc sx L K0 R0 140 [(37, 1, .aload_n 0, []), (38, 3, .getfield 16, [9, 3, 1157]), (41, 1, .iload_n 1, []), (42, 1, .iload_n 2, []), (43, 1, .iastore, []), (44, 1, .aload_n 0, []), (45, 3, .getfield 19, [9, 4, 1158]), (48, 1, .iload_n 1, []), (49, 1, .iload_n 3, []), (50, 1, .iastore, []), (51, 1, .aload_n 0, []), (52, 1, .iconst 0, []), (53, 3, .putfield 145, [9, 26, 1180]), (56, 1, .iconst 1, []), (57, 1, .ireturn, [])] 0 [vR 106, vI x1, vI x2, vI x3] [] M Q
  simp only [w_al_0, w_gf_9_3, kin_T (ks_104), rs_104_3, w_il_1, w_il_2, w_iast, arr_T (ks_107), w_gf_9_4, rs_104_4, w_il_3, arr_T (ks_108), w_iconst, w_pf_9_26, b01_0, w_ret1 rk_140, true_and, and_true, true_or, or_true]
  exact h
theorem b_141_0 {sx : Int → Int} {L : Nat}  {M : Mem} {Q : Option AV → Mem → Prop} 
    (h : Q none (mset (mset M 104 10 0) 104 26 0)) : Rn sx L K0 R0 141 0 [vR 106] [] M Q := by
  refine Rn_w (by decide) ?_
  show wpc sx L K0 R0 141 [(0, 1, .aload_n 0, []), (1, 1, .iconst 0, []), (2, 3, .putfield 149, [9, 10, 1164]), (5, 1, .aload_n 0, []), (6, 1, .iconst 0, []), (7, 3, .putfield 145, [9, 26, 1180]), (10, 1, .return_, [])] 0 [vR 106] [] M Q
  simp only [w_al_0, w_iconst, w_pf_9_10, kin_T (ks_104), b01_0, w_pf_9_26, w_ret0 rk_141, true_and, and_true, true_or, or_true]
  exact h
theorem b_142_0 {sx : Int → Int} {L : Nat} {x0 : Int} {M : Mem} {Q : Option AV → Mem → Prop} 
    (h : Mq sx L K0 R0 137 [vI x0, vI 0, vI 7] M (fun rv M1 => ∃ r1, rv = some (vI r1) ∧ ((r1 = 0 ∨ r1 = 1) ∧ (Q (some (vI r1)) M1)))) : Rn sx L K0 R0 142 0 [vI x0] [] M Q := by
  refine Rn_w (by decide) ?_
  show wpc sx L K0 R0 142 [(0, 1, .iload_n 0, []), (1, 1, .iconst 0, []), (2, 2, .bipush 7, []), (4, 3, .invokestatic 135, [137, 1355, 3]), (7, 1, .ireturn, [])] 0 [vI x0] [] M Q
  simp only [w_il_0, w_iconst, w_bipush, w_ivs_3 (c2I _) (c2I _) (c2I _) cs0, rk_137, rvk2, List.cons_append, List.nil_append, w_ret2 rk_142, true_and, and_true, true_or, or_true]
  exact h
theorem b_143_0 {sx : Int → Int} {L : Nat} {x1 : Int} {x2 : Int} {M : Mem} {Q : Option AV → Mem → Prop} 
    (h : Mq sx L K0 R0 142 [vI x1] M (fun rv M1 => ∃ r1, rv = some (vI r1) ∧ ((r1 = (0 : Int) → Rn sx L K0 R0 143 1 [vR 106, vI x1, vI x2] [] M1 Q) ∧ (¬ (r1 = (0 : Int)) → Mq sx L K0 R0 137 [vI x2, vI 0, vI 255] M1 (fun rv M2 => ∃ r2, rv = some (vI r2) ∧ ((¬ r2 = (0 : Int) → Rn sx L K0 R0 143 2 [vR 106, vI x1, vI x2] [] M2 Q) ∧ (¬ (¬ r2 = (0 : Int)) → Rn sx L K0 R0 143 1 [vR 106, vI x1, vI x2] [] M2 Q))))))) : Rn sx L K0 R0 143 0 [vR 106, vI x1, vI x2] [] M Q := by
  refine Rn_w (by decide) ?_
  show wpc sx L K0 R0 143 [(0, 1, .iload_n 1, []), (1, 3, .invokestatic 152, [142, 1370, 1]), (4, 3, .ifCond .eq 14, [1]), (7, 1, .iload_n 2, []), (8, 1, .iconst 0, []), (9, 3, .sipush 255, []), (12, 3, .invokestatic 135, [137, 1355, 3]), (15, 3, .ifCond .ne 6, [2])] 1 [vR 106, vI x1, vI x2] [] M Q
  simp only [w_il_1, w_ivs_1 (c2I _) cs0, rk_142, rvk2, List.cons_append, List.nil_append, w_if_eq, w_il_2, w_iconst, w_sipush, w_ivs_3 (c2I _) (c2I _) (c2I _) cs0, rk_137, w_if_ne, w_fall, true_and, and_true, true_or, or_true]
  exact h
theorem b_143_1 {sx : Int → Int} {L : Nat} {x1 : Int} {x2 : Int} {M : Mem} {Q : Option AV → Mem → Prop} 
    (h : Q (some (vI (-2))) M) : Rn sx L K0 R0 143 1 [vR 106, vI x1, vI x2] [] M Q := by
  refine Rn_w (by decide) ?_
  show wpc sx L K0 R0 143 [(18, 2, .bipush (-2), []), (20, 1, .ireturn, [])] 0 [vR 106, vI x1, vI x2] [] M Q
  simp only [w_bipush, w_ret1 rk_143, true_and, and_true, true_or, or_true]
  exact h
theorem b_143_2 {sx : Int → Int} {L : Nat} {x1 : Int} {x2 : Int} {M : Mem} {Q : Option AV → Mem → Prop} 
    (h : ((0 : Int) ≤ x1 ∧ x1 < (8 : Int)) ∧ ((¬ M 109 x1 = (60 : Int) → Rn sx L K0 R0 143 3 [vR 106, vI x1, vI x2] [] M Q) ∧ (¬ (¬ M 109 x1 = (60 : Int)) → Q (some (vI (-4))) M))) : Rn sx L K0 R0 143 2 [vR 106, vI x1, vI x2] [] M Q := by
  refine Rn_w (by decide) ?_
  show wpc sx L K0 R0 143 [(21, 1, .aload_n 0, []), (22, 3, .getfield 22, [9, 5, 1159]), (25, 1, .iload_n 1, []), (26, 1, .iaload, []), (27, 2, .bipush 60, []), (29, 3, .if_icmp .ne 6, [3]), (32, 2, .bipush (-4), []), (34, 1, .ireturn, [])] 0 [vR 106, vI x1, vI x2] [] M Q
  simp only [w_al_0, w_gf_9_5, kin_T (ks_104), rs_104_5, w_il_1, w_iald, arr_T (ks_109), w_bipush, w_ic_ne, w_ret1 rk_143, true_and, and_true, true_or, or_true]
  exact h
set_option maxRecDepth 8192 in
theorem b_143_3 {sx : Int → Int} {L : Nat} {x1 : Int} {x2 : Int} {M : Mem} {Q : Option AV → Mem → Prop} 
    (h : inR ((60 : Int) * x1) ∧ (((0 : Int) ≤ x1 ∧ x1 < (8 : Int)) ∧ (inR (((60 : Int) * x1) + (M 109 x1)) ∧ (((0 : Int) ≤ ((60 : Int) * x1) + (M 109 x1) ∧ ((60 : Int) * x1) + (M 109 x1) < (480 : Int)) ∧ (((0 : Int) ≤ x1 ∧ x1 < (8 : Int)) ∧ (inR (((mset M 110 (((60 : Int) * x1) + (M 109 x1)) x2) 109 x1) + 1) ∧ (((0 : Int) ≤ x1 ∧ x1 < (8 : Int)) ∧ (Mq sx L K0 R0 141 [vR 106] (mset (mset M 110 (((60 : Int) * x1) + (M 109 x1)) x2) 109 x1 (((mset M 110 (((60 : Int) * x1) + (M 109 x1)) x2) 109 x1) + 1)) (fun rv M1 => rv = none ∧ (((0 : Int) ≤ x1 ∧ x1 < (8 : Int)) ∧ (Q (some (vI (M1 109 x1))) M1))))))))))) : Rn sx L K0 R0 143 3 [vR 106, vI x1, vI x2] [] M Q := by
  refine Rn_w (by decide) ?_
  show wpc sx L K0 R0 143 [(35, 1, .aload_n 0, []), (36, 3, .getfield 25, [9, 6, 1160]), (39, 2, .bipush 60, []), (41, 1, .iload_n 1, []), (42, 1, .imul, []), (43, 1, .aload_n 0, []), (44, 3, .getfield 22, [9, 5, 1159]), (47, 1, .iload_n 1, []), (48, 1, .iaload, []), (49, 1, .iadd, []), (50, 1, .iload_n 2, []), (51, 1, .iastore, []), (52, 1, .aload_n 0, []), (53, 3, .getfield 22, [9, 5, 1159]), (56, 1, .iload_n 1, []), (57, 1, .dup2, []), (58, 1, .iaload, []), (59, 1, .iconst 1, []), (60, 1, .iadd, []), (61, 1, .iastore, []), (62, 1, .aload_n 0, []), (63, 3, .invokevirtual 142, [141, 1358, 0]), (66, 1, .aload_n 0, []), (67, 3, .getfield 22, [9, 5, 1159]), (70, 1, .iload_n 1, []), (71, 1, .iaload, []), (72, 1, .ireturn, [])] 0 [vR 106, vI x1, vI x2] [] M Q
  simp only [w_al_0, w_gf_9_6, kin_T (ks_104), rs_104_6, w_bipush, w_il_1, w_imul, w_gf_9_5, rs_104_5, w_iald, arr_T (ks_109), w_iadd, w_il_2, w_iast, arr_T (ks_110), w_dup2 (c2I _) (c2R _), w_iconst, w_ivv_0  cs0, mk_141, rk_141, rvk0, List.nil_append, w_ret1 rk_143, true_and, and_true, true_or, or_true]
  exact h
theorem b_144_0 {sx : Int → Int} {L : Nat} {x1 : Int} {M : Mem} {Q : Option AV → Mem → Prop} 
    (h : Mq sx L K0 R0 142 [vI x1] M (fun rv M1 => ∃ r1, rv = some (vI r1) ∧ ((¬ r1 = (0 : Int) → Rn sx L K0 R0 144 1 [vR 106, vI x1, vU] [] M1 Q) ∧ (¬ (¬ r1 = (0 : Int)) → Q (some (vI (-2))) M1)))) : Rn sx L K0 R0 144 0 [vR 106, vI x1, vU] [] M Q := by
  refine Rn_w (by decide) ?_
  show wpc sx L K0 R0 144 [(0, 1, .iload_n 1, []), (1, 3, .invokestatic 152, [142, 1370, 1]), (4, 3, .ifCond .ne 6, [1]), (7, 2, .bipush (-2), []), (9, 1, .ireturn, [])] 0 [vR 106, vI x1, vU] [] M Q
  simp only [w_il_1, w_ivs_1 (c2I _) cs0, rk_142, rvk2, List.cons_append, List.nil_append, w_if_ne, w_bipush, w_ret1 rk_144, true_and, and_true, true_or, or_true]
  exact h
theorem b_144_1 {sx : Int → Int} {L : Nat} {x1 : Int} {M : Mem} {Q : Option AV → Mem → Prop} 
    (h : ((0 : Int) ≤ x1 ∧ x1 < (8 : Int)) ∧ (((0 : Int) ≤ x1 ∧ x1 < (8 : Int)) ∧ (Mq sx L K0 R0 141 [vR 106] (mset M 109 x1 0) (fun rv M1 => rv = none ∧ (Q (some (vI (M 109 x1))) M1))))) : Rn sx L K0 R0 144 1 [vR 106, vI x1, vU] [] M Q := by
  refine Rn_w (by decide) ?_
  show wpc sx L K0 R0 144 [(10, 1, .aload_n 0, []), (11, 3, .getfield 22, [9, 5, 1159]), (14, 1, .iload_n 1, []), (15, 1, .iaload, []), (16, 1, .istore_n 2, []), (17, 1, .aload_n 0, []), (18, 3, .getfield 22, [9, 5, 1159]), (21, 1, .iload_n 1, []), (22, 1, .iconst 0, []), (23, 1, .iastore, []), (24, 1, .aload_n 0, []), (25, 3, .invokevirtual 142, [141, 1358, 0]), (28, 1, .iload_n 2, []), (29, 1, .ireturn, [])] 0 [vR 106, vI x1, vU] [] M Q
  simp only [w_al_0, w_gf_9_5, kin_T (ks_104), rs_104_5, w_il_1, w_iald, arr_T (ks_109), w_is_2 (c2I _), w_iconst, w_iast, w_ivv_0  cs0, mk_141, rk_141, rvk0, List.nil_append, w_il_2, w_ret1 rk_144, true_and, and_true, true_or, or_true]
  exact h
theorem b_145_0 {sx : Int → Int} {L : Nat}  {M : Mem} {Q : Option AV → Mem → Prop} 
    (h : ((0 : Int) ≤ M 104 19 ∧ M 104 19 < (8 : Int)) ∧ ((M 109 (M 104 19) ≤ M 104 20 → Rn sx L K0 R0 145 1 [vR 106] [] M Q) ∧ (¬ (M 109 (M 104 19) ≤ M 104 20) → inR ((60 : Int) * (M 104 19)) ∧ (inR (((60 : Int) * (M 104 19)) + (M 104 20)) ∧ (((0 : Int) ≤ ((60 : Int) * (M 104 19)) + (M 104 20) ∧ ((60 : Int) * (M 104 19)) + (M 104 20) < (480 : Int)) ∧ (Rn sx L K0 R0 145 2 [vR 106] [vI (M 110 (((60 : Int) * (M 104 19)) + (M 104 20)))] M Q)))))) : Rn sx L K0 R0 145 0 [vR 106] [] M Q := by
  refine Rn_w (by decide) ?_
  show wpc sx L K0 R0 145 [(0, 1, .aload_n 0, []), (1, 3, .getfield 156, [9, 20, 1174]), (4, 1, .aload_n 0, []), (5, 3, .getfield 22, [9, 5, 1159]), (8, 1, .aload_n 0, []), (9, 3, .getfield 159, [9, 19, 1173]), (12, 1, .iaload, []), (13, 3, .if_icmp .ge 23, [1]), (16, 1, .aload_n 0, []), (17, 3, .getfield 25, [9, 6, 1160]), (20, 2, .bipush 60, []), (22, 1, .aload_n 0, []), (23, 3, .getfield 159, [9, 19, 1173]), (26, 1, .imul, []), (27, 1, .aload_n 0, []), (28, 3, .getfield 156, [9, 20, 1174]), (31, 1, .iadd, []), (32, 1, .iaload, []), (33, 3, .goto 4, [2])] 0 [vR 106] [] M Q
  simp only [w_al_0, w_gf_9_20, kin_T (ks_104), w_gf_9_5, rs_104_5, w_gf_9_19, w_iald, arr_T (ks_109), w_ic_ge, w_gf_9_6, rs_104_6, w_bipush, w_imul, w_iadd, arr_T (ks_110), w_goto, true_and, and_true, true_or, or_true]
  exact h
theorem b_145_1 {sx : Int → Int} {L : Nat}  {M : Mem} {Q : Option AV → Mem → Prop} 
    (h : Rn sx L K0 R0 145 2 [vR 106] [vI (-1)] M Q) : Rn sx L K0 R0 145 1 [vR 106] [] M Q := by
  refine Rn_w (by decide) ?_
  show wpc sx L K0 R0 145 [(36, 1, .iconst (-1), [])] 2 [vR 106] [] M Q
  simp only [w_iconst, w_fall, true_and, and_true, true_or, or_true]
  exact h
theorem b_145_2 {sx : Int → Int} {L : Nat} {y0 : Int} {M : Mem} {Q : Option AV → Mem → Prop} 
    (h : Q (some (vI y0)) M) : Rn sx L K0 R0 145 2 [vR 106] [vI y0] M Q := by
  refine Rn_w (by decide) ?_
  show wpc sx L K0 R0 145 [(37, 1, .ireturn, [])] 0 [vR 106] [vI y0] M Q
  simp only [w_ret1 rk_145, true_and, and_true, true_or, or_true]
  exact h
theorem b_146_0 {sx : Int → Int} {L : Nat} {x1 : Int} {M : Mem} {Q : Option AV → Mem → Prop} 
    (h : (¬ M 104 21 = (-1 : Int) → Rn sx L K0 R0 146 1 [vR 106, vI x1] [] M Q) ∧ (¬ (¬ M 104 21 = (-1 : Int)) → Mq sx L K0 R0 145 [vR 106] M (fun rv M1 => ∃ r1, rv = some (vI r1) ∧ ((r1 = x1 → Rn sx L K0 R0 146 1 [vR 106, vI x1] [] M1 Q) ∧ (¬ (r1 = x1) → Rn sx L K0 R0 146 1 [vR 106, vI x1] [] (mset M1 104 21 (M1 104 20)) Q))))) : Rn sx L K0 R0 146 0 [vR 106, vI x1] [] M Q := by
  refine Rn_w (by decide) ?_
  show wpc sx L K0 R0 146 [(0, 1, .aload_n 0, []), (1, 3, .getfield 162, [9, 21, 1175]), (4, 1, .iconst (-1), []), (5, 3, .if_icmp .ne 19, [1]), (8, 1, .aload_n 0, []), (9, 3, .invokevirtual 165, [145, 1397, 0]), (12, 1, .iload_n 1, []), (13, 3, .if_icmp .eq 11, [1]), (16, 1, .aload_n 0, []), (17, 1, .aload_n 0, []), (18, 3, .getfield 156, [9, 20, 1174]), (21, 3, .putfield 162, [9, 21, 1175])] 1 [vR 106, vI x1] [] M Q
  simp only [w_al_0, w_gf_9_21, kin_T (ks_104), w_iconst, w_ic_ne, w_ivv_0  cs0, mk_145, rk_145, rvk1, List.cons_append, List.nil_append, w_il_1, w_ic_eq, w_gf_9_20, w_pf_9_21, w_fall, true_and, and_true, true_or, or_true]
  exact h
theorem b_146_1 {sx : Int → Int} {L : Nat} {x1 : Int} {M : Mem} {Q : Option AV → Mem → Prop} 
    (h : inR ((M 104 20) + 1) ∧ (Q none (mset M 104 20 ((M 104 20) + 1)))) : Rn sx L K0 R0 146 1 [vR 106, vI x1] [] M Q := by
  refine Rn_w (by decide) ?_
  show wpc sx L K0 R0 146 [(24, 1, .aload_n 0, []), (25, 1, .dup, []), (26, 3, .getfield 156, [9, 20, 1174]), (29, 1, .iconst 1, []), (30, 1, .iadd, []), (31, 3, .putfield 156, [9, 20, 1174]), (34, 1, .return_, [])] 0 [vR 106, vI x1] [] M Q
  simp only [w_al_0, w_dup (c2R _), w_gf_9_20, kin_T (ks_104), w_iconst, w_iadd, w_pf_9_20, w_ret0 rk_146, true_and, and_true, true_or, or_true]
  exact h
theorem b_147_0 {sx : Int → Int} {L : Nat} {x1 : Int} {x2 : Int} {x3 : Int} {M : Mem} {Q : Option AV → Mem → Prop} 
    (h : Rn sx L K0 R0 147 1 [vR 106, vI x1, vI x2, vI x3, vI (M 104 20), vI 0] [] M Q) : Rn sx L K0 R0 147 0 [vR 106, vI x1, vI x2, vI x3, vU, vU] [] M Q := by
  refine Rn_w (by decide) ?_
  show wpc sx L K0 R0 147 [(0, 1, .aload_n 0, []), (1, 3, .getfield 156, [9, 20, 1174]), (4, 2, .istore 4, []), (6, 1, .iconst 0, []), (7, 2, .istore 5, [])] 1 [vR 106, vI x1, vI x2, vI x3, vU, vU] [] M Q
  simp only [w_al_0, w_gf_9_20, kin_T (ks_104), w_is_4 (c2I _), w_iconst, w_is_5 (c2I _), w_fall, true_and, and_true, true_or, or_true]
  exact h
set_option maxRecDepth 8192 in
theorem b_147_1 {sx : Int → Int} {L : Nat} {x1 : Int} {x2 : Int} {x3 : Int} {x4 : Int} {x5 : Int} {M : Mem} {Q : Option AV → Mem → Prop} 
    (h : (¬ M 104 21 = (-1 : Int) → Rn sx L K0 R0 147 2 [vR 106, vI x1, vI x2, vI x3, vI x4, vI x5] [] M Q) ∧ (¬ (¬ M 104 21 = (-1 : Int)) → inR (x4 + x1) ∧ ((x4 + x1 ≤ M 104 20 → Rn sx L K0 R0 147 2 [vR 106, vI x1, vI x2, vI x3, vI x4, vI x5] [] M Q) ∧ (¬ (x4 + x1 ≤ M 104 20) → Mq sx L K0 R0 145 [vR 106] M (fun rv M1 => ∃ r1, rv = some (vI r1) ∧ ((r1 < (48 : Int) → Rn sx L K0 R0 147 2 [vR 106, vI x1, vI x2, vI x3, vI x4, vI x5] [] M1 Q) ∧ (¬ (r1 < (48 : Int)) → Mq sx L K0 R0 145 [vR 106] M1 (fun rv M2 => ∃ r2, rv = some (vI r2) ∧ (((57 : Int) < r2 → Rn sx L K0 R0 147 2 [vR 106, vI x1, vI x2, vI x3, vI x4, vI x5] [] M2 Q) ∧ (¬ ((57 : Int) < r2) → inR ((10 : Int) * x5) ∧ (Mq sx L K0 R0 145 [vR 106] M2 (fun rv M3 => ∃ r3, rv = some (vI r3) ∧ (inR (((10 : Int) * x5) + r3) ∧ (inR ((((10 : Int) * x5) + r3) - 48) ∧ (inR ((M3 104 20) + 1) ∧ (Rn sx L K0 R0 147 1 [vR 106, vI x1, vI x2, vI x3, vI x4, vI ((((10 : Int) * x5) + r3) - 48)] [] (mset M3 104 20 ((M3 104 20) + 1)) Q)))))))))))))))) : Rn sx L K0 R0 147 1 [vR 106, vI x1, vI x2, vI x3, vI x4, vI x5] [] M Q := by
  refine Rn_w (by decide) ?_
  show wpc sx L K0 R0 147 [(9, 1, .aload_n 0, []), (10, 3, .getfield 162, [9, 21, 1175]), (13, 1, .iconst (-1), []), (14, 3, .if_icmp .ne 60, [2]), (17, 1, .aload_n 0, []), (18, 3, .getfield 156, [9, 20, 1174]), (21, 2, .iload 4, []), (23, 1, .iload_n 1, []), (24, 1, .iadd, []), (25, 3, .if_icmp .ge 49, [2]), (28, 1, .aload_n 0, []), (29, 3, .invokevirtual 165, [145, 1397, 0]), (32, 2, .bipush 48, []), (34, 3, .if_icmp .lt 40, [2]), (37, 1, .aload_n 0, []), (38, 3, .invokevirtual 165, [145, 1397, 0]), (41, 2, .bipush 57, []), (43, 3, .if_icmp .gt 31, [2]), (46, 2, .bipush 10, []), (48, 2, .iload 5, []), (50, 1, .imul, []), (51, 1, .aload_n 0, []), (52, 3, .invokevirtual 165, [145, 1397, 0]), (55, 1, .iadd, []), (56, 2, .bipush 48, []), (58, 1, .isub, []), (59, 2, .istore 5, []), (61, 1, .aload_n 0, []), (62, 1, .dup, []), (63, 3, .getfield 156, [9, 20, 1174]), (66, 1, .iconst 1, []), (67, 1, .iadd, []), (68, 3, .putfield 156, [9, 20, 1174]), (71, 3, .goto (-62), [1])] 0 [vR 106, vI x1, vI x2, vI x3, vI x4, vI x5] [] M Q
  simp only [w_al_0, w_gf_9_21, kin_T (ks_104), w_iconst, w_ic_ne, w_gf_9_20, w_il_4, w_il_1, w_iadd, w_ic_ge, w_ivv_0  cs0, mk_145, rk_145, rvk1, List.cons_append, List.nil_append, w_bipush, w_ic_lt, w_ic_gt, w_il_5, w_imul, w_ivv_0  (cs1 _), w_isub, w_is_5 (c2I _), w_dup (c2R _), w_pf_9_20, w_goto, true_and, and_true, true_or, or_true]
  exact h
theorem b_147_2 {sx : Int → Int} {L : Nat} {x1 : Int} {x2 : Int} {x3 : Int} {x4 : Int} {x5 : Int} {M : Mem} {Q : Option AV → Mem → Prop} 
    (h : (¬ M 104 21 = (-1 : Int) → Rn sx L K0 R0 147 4 [vR 106, vI x1, vI x2, vI x3, vI x4, vI x5] [] M Q) ∧ (¬ (¬ M 104 21 = (-1 : Int)) → (M 104 20 = x4 → Rn sx L K0 R0 147 3 [vR 106, vI x1, vI x2, vI x3, vI x4, vI x5] [] M Q) ∧ (¬ (M 104 20 = x4) → Mq sx L K0 R0 137 [vI x5, vI x2, vI x3] M (fun rv M1 => ∃ r1, rv = some (vI r1) ∧ ((¬ r1 = (0 : Int) → Rn sx L K0 R0 147 4 [vR 106, vI x1, vI x2, vI x3, vI x4, vI x5] [] M1 Q) ∧ (¬ (¬ r1 = (0 : Int)) → Rn sx L K0 R0 147 3 [vR 106, vI x1, vI x2, vI x3, vI x4, vI x5] [] M1 Q)))))) : Rn sx L K0 R0 147 2 [vR 106, vI x1, vI x2, vI x3, vI x4, vI x5] [] M Q := by
  refine Rn_w (by decide) ?_
  show wpc sx L K0 R0 147 [(74, 1, .aload_n 0, []), (75, 3, .getfield 162, [9, 21, 1175]), (78, 1, .iconst (-1), []), (79, 3, .if_icmp .ne 28, [4]), (82, 1, .aload_n 0, []), (83, 3, .getfield 156, [9, 20, 1174]), (86, 2, .iload 4, []), (88, 3, .if_icmp .eq 13, [3]), (91, 2, .iload 5, []), (93, 1, .iload_n 2, []), (94, 1, .iload_n 3, []), (95, 3, .invokestatic 135, [137, 1355, 3]), (98, 3, .ifCond .ne 9, [4])] 3 [vR 106, vI x1, vI x2, vI x3, vI x4, vI x5] [] M Q
  simp only [w_al_0, w_gf_9_21, kin_T (ks_104), w_iconst, w_ic_ne, w_gf_9_20, w_il_4, w_ic_eq, w_il_5, w_il_2, w_il_3, w_ivs_3 (c2I _) (c2I _) (c2I _) cs0, rk_137, rvk2, List.cons_append, List.nil_append, w_if_ne, w_fall, true_and, and_true, true_or, or_true]
  exact h
theorem b_147_3 {sx : Int → Int} {L : Nat} {x1 : Int} {x2 : Int} {x3 : Int} {x4 : Int} {x5 : Int} {M : Mem} {Q : Option AV → Mem → Prop} 
    (h : Rn sx L K0 R0 147 4 [vR 106, vI x1, vI x2, vI x3, vI x4, vI x5] [] (mset M 104 21 x4) Q) : Rn sx L K0 R0 147 3 [vR 106, vI x1, vI x2, vI x3, vI x4, vI x5] [] M Q := by
  refine Rn_w (by decide) ?_
  show wpc sx L K0 R0 147 [(101, 1, .aload_n 0, []), (102, 2, .iload 4, []), (104, 3, .putfield 162, [9, 21, 1175])] 4 [vR 106, vI x1, vI x2, vI x3, vI x4, vI x5] [] M Q
  simp only [w_al_0, w_il_4, w_pf_9_21, kin_T (ks_104), w_fall, true_and, and_true, true_or, or_true]
  exact h
theorem b_147_4 {sx : Int → Int} {L : Nat} {x1 : Int} {x2 : Int} {x3 : Int} {x4 : Int} {x5 : Int} {M : Mem} {Q : Option AV → Mem → Prop} 
    (h : Q (some (vI x5)) M) : Rn sx L K0 R0 147 4 [vR 106, vI x1, vI x2, vI x3, vI x4, vI x5] [] M Q := by
  refine Rn_w (by decide) ?_
  show wpc sx L K0 R0 147 [(107, 2, .iload 5, []), (109, 1, .ireturn, [])] 0 [vR 106, vI x1, vI x2, vI x3, vI x4, vI x5] [] M Q
  simp only [w_il_5, w_ret1 rk_147, true_and, and_true, true_or, or_true]
  exact h
theorem b_148_0 {sx : Int → Int} {L : Nat} {x1 : Int} {M : Mem} {Q : Option AV → Mem → Prop} 
    (h : Mq sx L K0 R0 145 [vR 106] M (fun rv M1 => ∃ r1, rv = some (vI r1) ∧ ((¬ r1 = (119 : Int) → Rn sx L K0 R0 148 1 [vR 106, vI x1, vI r1, vU, vU, vU, vU] [] M1 Q) ∧ (¬ (¬ r1 = (119 : Int)) → Rn sx L K0 R0 148 4 [vR 106, vI x1, vI r1, vU, vU, vU, vU] [vI 0] M1 Q)))) : Rn sx L K0 R0 148 0 [vR 106, vI x1, vU, vU, vU, vU, vU] [] M Q := by
  refine Rn_w (by decide) ?_
  show wpc sx L K0 R0 148 [(0, 1, .aload_n 0, []), (1, 3, .invokevirtual 165, [145, 1397, 0]), (4, 1, .istore_n 2, []), (5, 1, .iload_n 2, []), (6, 2, .bipush 119, []), (8, 3, .if_icmp .ne 7, [1]), (11, 1, .iconst 0, []), (12, 3, .goto 24, [4])] 0 [vR 106, vI x1, vU, vU, vU, vU, vU] [] M Q
  simp only [w_al_0, w_ivv_0  cs0, mk_145, kin_T (ks_104), rk_145, rvk1, List.cons_append, List.nil_append, w_is_2 (c2I _), w_il_2, w_bipush, w_ic_ne, w_iconst, w_goto, true_and, and_true, true_or, or_true]
  exact h
theorem b_148_1 {sx : Int → Int} {L : Nat} {x1 : Int} {x2 : Int} {M : Mem} {Q : Option AV → Mem → Prop} 
    (h : (¬ x2 = (116 : Int) → Rn sx L K0 R0 148 2 [vR 106, vI x1, vI x2, vU, vU, vU, vU] [] M Q) ∧ (¬ (¬ x2 = (116 : Int)) → Rn sx L K0 R0 148 4 [vR 106, vI x1, vI x2, vU, vU, vU, vU] [vI 1] M Q)) : Rn sx L K0 R0 148 1 [vR 106, vI x1, vI x2, vU, vU, vU, vU] [] M Q := by
  refine Rn_w (by decide) ?_
  show wpc sx L K0 R0 148 [(15, 1, .iload_n 2, []), (16, 2, .bipush 116, []), (18, 3, .if_icmp .ne 7, [2]), (21, 1, .iconst 1, []), (22, 3, .goto 14, [4])] 0 [vR 106, vI x1, vI x2, vU, vU, vU, vU] [] M Q
  simp only [w_il_2, w_bipush, w_ic_ne, w_iconst, w_goto, true_and, and_true, true_or, or_true]
  exact h
theorem b_148_2 {sx : Int → Int} {L : Nat} {x1 : Int} {x2 : Int} {M : Mem} {Q : Option AV → Mem → Prop} 
    (h : (¬ x2 = (103 : Int) → Rn sx L K0 R0 148 3 [vR 106, vI x1, vI x2, vU, vU, vU, vU] [] M Q) ∧ (¬ (¬ x2 = (103 : Int)) → Rn sx L K0 R0 148 4 [vR 106, vI x1, vI x2, vU, vU, vU, vU] [vI 2] M Q)) : Rn sx L K0 R0 148 2 [vR 106, vI x1, vI x2, vU, vU, vU, vU] [] M Q := by
  refine Rn_w (by decide) ?_
  show wpc sx L K0 R0 148 [(25, 1, .iload_n 2, []), (26, 2, .bipush 103, []), (28, 3, .if_icmp .ne 7, [3]), (31, 1, .iconst 2, []), (32, 3, .goto 4, [4])] 0 [vR 106, vI x1, vI x2, vU, vU, vU, vU] [] M Q
  simp only [w_il_2, w_bipush, w_ic_ne, w_iconst, w_goto, true_and, and_true, true_or, or_true]
  exact h
theorem b_148_3 {sx : Int → Int} {L : Nat} {x1 : Int} {x2 : Int} {M : Mem} {Q : Option AV → Mem → Prop} 
    (h : Rn sx L K0 R0 148 4 [vR 106, vI x1, vI x2, vU, vU, vU, vU] [vI (-1)] M Q) : Rn sx L K0 R0 148 3 [vR 106, vI x1, vI x2, vU, vU, vU, vU] [] M Q := by
  refine Rn_w (by decide) ?_
  show wpc sx L K0 R0 148 [(35, 1, .iconst (-1), [])] 4 [vR 106, vI x1, vI x2, vU, vU, vU, vU] [] M Q
  simp only [w_iconst, w_fall, true_and, and_true, true_or, or_true]
  exact h
theorem b_148_4 {sx : Int → Int} {L : Nat} {x1 : Int} {x2 : Int} {y0 : Int} {M : Mem} {Q : Option AV → Mem → Prop} 
    (h : (¬ y0 = (-1 : Int) → Rn sx L K0 R0 148 5 [vR 106, vI x1, vI x2, vI y0, vU, vU, vU] [] M Q) ∧ (¬ (¬ y0 = (-1 : Int)) → Q (some (vI x1)) (mset M 104 21 (M 104 20)))) : Rn sx L K0 R0 148 4 [vR 106, vI x1, vI x2, vU, vU, vU, vU] [vI y0] M Q := by
  refine Rn_w (by decide) ?_
  show wpc sx L K0 R0 148 [(36, 1, .istore_n 3, []), (37, 1, .iload_n 3, []), (38, 1, .iconst (-1), []), (39, 3, .if_icmp .ne 13, [5]), (42, 1, .aload_n 0, []), (43, 1, .aload_n 0, []), (44, 3, .getfield 156, [9, 20, 1174]), (47, 3, .putfield 162, [9, 21, 1175]), (50, 1, .iload_n 1, []), (51, 1, .ireturn, [])] 0 [vR 106, vI x1, vI x2, vU, vU, vU, vU] [vI y0] M Q
  simp only [w_is_3 (c2I _), w_il_3, w_iconst, w_ic_ne, w_al_0, w_gf_9_20, kin_T (ks_104), w_pf_9_21, w_il_1, w_ret1 rk_148, true_and, and_true, true_or, or_true]
  exact h
theorem b_148_5 {sx : Int → Int} {L : Nat} {x1 : Int} {x2 : Int} {x3 : Int} {M : Mem} {Q : Option AV → Mem → Prop} 
    (h : inR ((M 104 20) + 1) ∧ ((¬ x3 = (0 : Int) → Rn sx L K0 R0 148 6 [vR 106, vI x1, vI x2, vI x3, vI ((mset M 104 20 ((M 104 20) + 1)) 104 20), vU, vU] [vI 1, vR 106] (mset M 104 20 ((M 104 20) + 1)) Q) ∧ (¬ (¬ x3 = (0 : Int)) → Rn sx L K0 R0 148 7 [vR 106, vI x1, vI x2, vI x3, vI ((mset M 104 20 ((M 104 20) + 1)) 104 20), vU, vU] [vI 1, vI 1, vR 106] (mset M 104 20 ((M 104 20) + 1)) Q))) : Rn sx L K0 R0 148 5 [vR 106, vI x1, vI x2, vI x3, vU, vU, vU] [] M Q := by
  refine Rn_w (by decide) ?_
  show wpc sx L K0 R0 148 [(52, 1, .aload_n 0, []), (53, 1, .dup, []), (54, 3, .getfield 156, [9, 20, 1174]), (57, 1, .iconst 1, []), (58, 1, .iadd, []), (59, 3, .putfield 156, [9, 20, 1174]), (62, 1, .aload_n 0, []), (63, 3, .getfield 156, [9, 20, 1174]), (66, 2, .istore 4, []), (68, 1, .aload_n 0, []), (69, 1, .iconst 1, []), (70, 1, .iload_n 3, []), (71, 3, .ifCond .ne 7, [6]), (74, 1, .iconst 1, []), (75, 3, .goto 4, [7])] 0 [vR 106, vI x1, vI x2, vI x3, vU, vU, vU] [] M Q
  simp only [w_al_0, w_dup (c2R _), w_gf_9_20, kin_T (ks_104), w_iconst, w_iadd, w_pf_9_20, w_is_4 (c2I _), w_il_3, w_if_ne, w_goto, true_and, and_true, true_or, or_true]
  exact h
theorem b_148_6 {sx : Int → Int} {L : Nat} {x1 : Int} {x2 : Int} {x3 : Int} {x4 : Int} {y1 : Int} {M : Mem} {Q : Option AV → Mem → Prop} 
    (h : Rn sx L K0 R0 148 7 [vR 106, vI x1, vI x2, vI x3, vI x4, vU, vU] [vI 0, vI y1, vR 106] M Q) : Rn sx L K0 R0 148 6 [vR 106, vI x1, vI x2, vI x3, vI x4, vU, vU] [vI y1, vR 106] M Q := by
  refine Rn_w (by decide) ?_
  show wpc sx L K0 R0 148 [(78, 1, .iconst 0, [])] 7 [vR 106, vI x1, vI x2, vI x3, vI x4, vU, vU] [vI y1, vR 106] M Q
  simp only [w_iconst, w_fall, true_and, and_true, true_or, or_true]
  exact h
theorem b_148_7 {sx : Int → Int} {L : Nat} {x1 : Int} {x2 : Int} {x3 : Int} {x4 : Int} {y1 : Int} {y2 : Int} {M : Mem} {Q : Option AV → Mem → Prop} 
    (h : (¬ x3 = (0 : Int) → Rn sx L K0 R0 148 8 [vR 106, vI x1, vI x2, vI x3, vI x4, vU, vU] [vI y2, vI y1, vR 106] M Q) ∧ (¬ (¬ x3 = (0 : Int)) → Rn sx L K0 R0 148 9 [vR 106, vI x1, vI x2, vI x3, vI x4, vU, vU] [vI 9, vI y2, vI y1, vR 106] M Q)) : Rn sx L K0 R0 148 7 [vR 106, vI x1, vI x2, vI x3, vI x4, vU, vU] [vI y2, vI y1, vR 106] M Q := by
  refine Rn_w (by decide) ?_
  show wpc sx L K0 R0 148 [(79, 1, .iload_n 3, []), (80, 3, .ifCond .ne 8, [8]), (83, 2, .bipush 9, []), (85, 3, .goto 9, [9])] 0 [vR 106, vI x1, vI x2, vI x3, vI x4, vU, vU] [vI y2, vI y1, vR 106] M Q
  simp only [w_il_3, w_if_ne, w_bipush, w_goto, true_and, and_true, true_or, or_true]
  exact h
theorem b_148_8 {sx : Int → Int} {L : Nat} {x1 : Int} {x2 : Int} {x3 : Int} {x4 : Int} {y1 : Int} {y2 : Int} {M : Mem} {Q : Option AV → Mem → Prop} 
    (h : inR ((M 104 0) - 1) ∧ (Rn sx L K0 R0 148 9 [vR 106, vI x1, vI x2, vI x3, vI x4, vU, vU] [vI ((M 104 0) - 1), vI y2, vI y1, vR 106] M Q)) : Rn sx L K0 R0 148 8 [vR 106, vI x1, vI x2, vI x3, vI x4, vU, vU] [vI y2, vI y1, vR 106] M Q := by
  refine Rn_w (by decide) ?_
  show wpc sx L K0 R0 148 [(88, 1, .aload_n 0, []), (89, 3, .getfield 139, [9, 0, 1154]), (92, 1, .iconst 1, []), (93, 1, .isub, [])] 9 [vR 106, vI x1, vI x2, vI x3, vI x4, vU, vU] [vI y2, vI y1, vR 106] M Q
  simp only [w_al_0, w_gf_9_0, kin_T (ks_104), w_iconst, w_isub, w_fall, true_and, and_true, true_or, or_true]
  exact h
theorem b_148_9 {sx : Int → Int} {L : Nat} {x1 : Int} {x2 : Int} {x3 : Int} {x4 : Int} {y1 : Int} {y2 : Int} {y3 : Int} {M : Mem} {Q : Option AV → Mem → Prop} 
    (h : Mq sx L K0 R0 147 [vR 106, vI y1, vI y2, vI y3] M (fun rv M1 => ∃ r1, rv = some (vI r1) ∧ ((¬ M1 104 21 = (-1 : Int) → Rn sx L K0 R0 148 14 [vR 106, vI x1, vI x2, vI x3, vI x4, vI r1, vU] [] M1 Q) ∧ (¬ (¬ M1 104 21 = (-1 : Int)) → (x3 = (0 : Int) → Rn sx L K0 R0 148 14 [vR 106, vI x1, vI x2, vI x3, vI x4, vI r1, vU] [] M1 Q) ∧ (¬ (x3 = (0 : Int)) → ((0 : Int) ≤ x1 ∧ (0 : Int) ≤ r1 ∧ r1 ≤ (30 : Int)) ∧ ((¬ iAnd (x1 / 2 ^ (r1).toNat) 1 = (1 : Int) → Rn sx L K0 R0 148 10 [vR 106, vI x1, vI x2, vI x3, vI x4, vI r1, vU] [] M1 Q) ∧ (¬ (¬ iAnd (x1 / 2 ^ (r1).toNat) 1 = (1 : Int)) → Rn sx L K0 R0 148 11 [vR 106, vI x1, vI x2, vI x3, vI x4, vI r1, vU] [vI 1] M1 Q))))))) : Rn sx L K0 R0 148 9 [vR 106, vI x1, vI x2, vI x3, vI x4, vU, vU] [vI y3, vI y2, vI y1, vR 106] M Q := by
  refine Rn_w (by decide) ?_
  show wpc sx L K0 R0 148 [(94, 3, .invokevirtual 169, [147, 1401, 3]), (97, 2, .istore 5, []), (99, 1, .aload_n 0, []), (100, 3, .getfield 162, [9, 21, 1175]), (103, 1, .iconst (-1), []), (104, 3, .if_icmp .ne 41, [14]), (107, 1, .iload_n 3, []), (108, 3, .ifCond .eq 37, [14]), (111, 1, .iload_n 1, []), (112, 2, .iload 5, []), (114, 1, .ishr, []), (115, 1, .iconst 1, []), (116, 1, .iand, []), (117, 1, .iconst 1, []), (118, 3, .if_icmp .ne 7, [10]), (121, 1, .iconst 1, []), (122, 3, .goto 4, [11])] 0 [vR 106, vI x1, vI x2, vI x3, vI x4, vU, vU] [vI y3, vI y2, vI y1, vR 106] M Q
  simp only [w_ivv_3 (c2I _) (c2I _) (c2I _) cs0, mk_147, kin_T (ks_104), rk_147, rvk1, List.cons_append, List.nil_append, w_is_5 (c2I _), w_al_0, w_gf_9_21, w_iconst, w_ic_ne, w_il_3, w_if_eq, w_il_1, w_il_5, w_ishr, w_iand, w_goto, true_and, and_true, true_or, or_true]
  exact h
theorem b_148_10 {sx : Int → Int} {L : Nat} {x1 : Int} {x2 : Int} {x3 : Int} {x4 : Int} {x5 : Int} {M : Mem} {Q : Option AV → Mem → Prop} 
    (h : Rn sx L K0 R0 148 11 [vR 106, vI x1, vI x2, vI x3, vI x4, vI x5, vU] [vI 0] M Q) : Rn sx L K0 R0 148 10 [vR 106, vI x1, vI x2, vI x3, vI x4, vI x5, vU] [] M Q := by
  refine Rn_w (by decide) ?_
  show wpc sx L K0 R0 148 [(125, 1, .iconst 0, [])] 11 [vR 106, vI x1, vI x2, vI x3, vI x4, vI x5, vU] [] M Q
  simp only [w_iconst, w_fall, true_and, and_true, true_or, or_true]
  exact h
theorem b_148_11 {sx : Int → Int} {L : Nat} {x1 : Int} {x2 : Int} {x3 : Int} {x4 : Int} {x5 : Int} {y0 : Int} {M : Mem} {Q : Option AV → Mem → Prop} 
    (h : (¬ x3 = (2 : Int) → Rn sx L K0 R0 148 12 [vR 106, vI x1, vI x2, vI x3, vI x4, vI x5, vU] [vI y0] M Q) ∧ (¬ (¬ x3 = (2 : Int)) → Rn sx L K0 R0 148 13 [vR 106, vI x1, vI x2, vI x3, vI x4, vI x5, vU] [vI 1, vI y0] M Q)) : Rn sx L K0 R0 148 11 [vR 106, vI x1, vI x2, vI x3, vI x4, vI x5, vU] [vI y0] M Q := by
  refine Rn_w (by decide) ?_
  show wpc sx L K0 R0 148 [(126, 1, .iload_n 3, []), (127, 1, .iconst 2, []), (128, 3, .if_icmp .ne 7, [12]), (131, 1, .iconst 1, []), (132, 3, .goto 4, [13])] 0 [vR 106, vI x1, vI x2, vI x3, vI x4, vI x5, vU] [vI y0] M Q
  simp only [w_il_3, w_iconst, w_ic_ne, w_goto, true_and, and_true, true_or, or_true]
  exact h
theorem b_148_12 {sx : Int → Int} {L : Nat} {x1 : Int} {x2 : Int} {x3 : Int} {x4 : Int} {x5 : Int} {y0 : Int} {M : Mem} {Q : Option AV → Mem → Prop} 
    (h : Rn sx L K0 R0 148 13 [vR 106, vI x1, vI x2, vI x3, vI x4, vI x5, vU] [vI 0, vI y0] M Q) : Rn sx L K0 R0 148 12 [vR 106, vI x1, vI x2, vI x3, vI x4, vI x5, vU] [vI y0] M Q := by
  refine Rn_w (by decide) ?_
  show wpc sx L K0 R0 148 [(135, 1, .iconst 0, [])] 13 [vR 106, vI x1, vI x2, vI x3, vI x4, vI x5, vU] [vI y0] M Q
  simp only [w_iconst, w_fall, true_and, and_true, true_or, or_true]
  exact h
theorem b_148_13 {sx : Int → Int} {L : Nat} {x1 : Int} {x2 : Int} {x3 : Int} {x4 : Int} {x5 : Int} {y0 : Int} {y1 : Int} {M : Mem} {Q : Option AV → Mem → Prop} 
    (h : (y0 = y1 → Rn sx L K0 R0 148 14 [vR 106, vI x1, vI x2, vI x3, vI x4, vI x5, vU] [] M Q) ∧ (¬ (y0 = y1) → Rn sx L K0 R0 148 14 [vR 106, vI x1, vI x2, vI x3, vI x4, vI x5, vU] [] (mset M 104 21 x4) Q)) : Rn sx L K0 R0 148 13 [vR 106, vI x1, vI x2, vI x3, vI x4, vI x5, vU] [vI y1, vI y0] M Q := by
  refine Rn_w (by decide) ?_
  show wpc sx L K0 R0 148 [(136, 3, .if_icmp .eq 9, [14]), (139, 1, .aload_n 0, []), (140, 2, .iload 4, []), (142, 3, .putfield 162, [9, 21, 1175])] 14 [vR 106, vI x1, vI x2, vI x3, vI x4, vI x5, vU] [vI y1, vI y0] M Q
  simp only [w_ic_eq, w_al_0, w_il_4, w_pf_9_21, kin_T (ks_104), w_fall, true_and, and_true, true_or, or_true]
  exact h
theorem b_148_14 {sx : Int → Int} {L : Nat} {x1 : Int} {x2 : Int} {x3 : Int} {x4 : Int} {x5 : Int} {M : Mem} {Q : Option AV → Mem → Prop} 
    (h : (M 104 21 = (-1 : Int) → Rn sx L K0 R0 148 15 [vR 106, vI x1, vI x2, vI x3, vI x4, vI x5, vU] [] M Q) ∧ (¬ (M 104 21 = (-1 : Int)) → Q (some (vI x1)) M)) : Rn sx L K0 R0 148 14 [vR 106, vI x1, vI x2, vI x3, vI x4, vI x5, vU] [] M Q := by
  refine Rn_w (by decide) ?_
  show wpc sx L K0 R0 148 [(145, 1, .aload_n 0, []), (146, 3, .getfield 162, [9, 21, 1175]), (149, 1, .iconst (-1), []), (150, 3, .if_icmp .eq 5, [15]), (153, 1, .iload_n 1, []), (154, 1, .ireturn, [])] 0 [vR 106, vI x1, vI x2, vI x3, vI x4, vI x5, vU] [] M Q
  simp only [w_al_0, w_gf_9_21, kin_T (ks_104), w_iconst, w_ic_eq, w_il_1, w_ret1 rk_148, true_and, and_true, true_or, or_true]
  exact h
set_option maxRecDepth 8192 in
theorem b_148_15 {sx : Int → Int} {L : Nat} {x1 : Int} {x2 : Int} {x3 : Int} {x4 : Int} {x5 : Int} {M : Mem} {Q : Option AV → Mem → Prop} 
    (h : inR ((20 : Int) * (M 104 19)) ∧ (((0 : Int) ≤ M 104 19 ∧ M 104 19 < (8 : Int)) ∧ (inR (((20 : Int) * (M 104 19)) + (M 117 (M 104 19))) ∧ (((0 : Int) ≤ ((20 : Int) * (M 104 19)) + (M 117 (M 104 19)) ∧ ((20 : Int) * (M 104 19)) + (M 117 (M 104 19)) < (160 : Int)) ∧ (((0 : Int) ≤ ((20 : Int) * (M 104 19)) + (M 117 (M 104 19)) ∧ ((20 : Int) * (M 104 19)) + (M 117 (M 104 19)) < (160 : Int)) ∧ (((0 : Int) ≤ (mset (mset M 118 (((20 : Int) * (M 104 19)) + (M 117 (M 104 19))) x3) 119 (((20 : Int) * (M 104 19)) + (M 117 (M 104 19))) x5) 104 19 ∧ (mset (mset M 118 (((20 : Int) * (M 104 19)) + (M 117 (M 104 19))) x3) 119 (((20 : Int) * (M 104 19)) + (M 117 (M 104 19))) x5) 104 19 < (8 : Int)) ∧ (inR (((mset (mset M 118 (((20 : Int) * (M 104 19)) + (M 117 (M 104 19))) x3) 119 (((20 : Int) * (M 104 19)) + (M 117 (M 104 19))) x5) 117 ((mset (mset M 118 (((20 : Int) * (M 104 19)) + (M 117 (M 104 19))) x3) 119 (((20 : Int) * (M 104 19)) + (M 117 (M 104 19))) x5) 104 19)) + 1) ∧ (((0 : Int) ≤ (mset (mset M 118 (((20 : Int) * (M 104 19)) + (M 117 (M 104 19))) x3) 119 (((20 : Int) * (M 104 19)) + (M 117 (M 104 19))) x5) 104 19 ∧ (mset (mset M 118 (((20 : Int) * (M 104 19)) + (M 117 (M 104 19))) x3) 119 (((20 : Int) * (M 104 19)) + (M 117 (M 104 19))) x5) 104 19 < (8 : Int)) ∧ ((¬ x3 = (0 : Int) → Rn sx L K0 R0 148 16 [vR 106, vI x1, vI x2, vI x3, vI x4, vI x5, vI (((20 : Int) * (M 104 19)) + (M 117 (M 104 19)))] [] (mset (mset (mset M 118 (((20 : Int) * (M 104 19)) + (M 117 (M 104 19))) x3) 119 (((20 : Int) * (M 104 19)) + (M 117 (M 104 19))) x5) 117 ((mset (mset M 118 (((20 : Int) * (M 104 19)) + (M 117 (M 104 19))) x3) 119 (((20 : Int) * (M 104 19)) + (M 117 (M 104 19))) x5) 104 19) (((mset (mset M 118 (((20 : Int) * (M 104 19)) + (M 117 (M 104 19))) x3) 119 (((20 : Int) * (M 104 19)) + (M 117 (M 104 19))) x5) 117 ((mset (mset M 118 (((20 : Int) * (M 104 19)) + (M 117 (M 104 19))) x3) 119 (((20 : Int) * (M 104 19)) + (M 117 (M 104 19))) x5) 104 19)) + 1)) Q) ∧ (¬ (¬ x3 = (0 : Int)) → Rn sx L K0 R0 148 18 [vR 106, vI x1, vI x2, vI x3, vI x4, vI x5, vI (((20 : Int) * (M 104 19)) + (M 117 (M 104 19)))] [vI x1] (mset (mset (mset M 118 (((20 : Int) * (M 104 19)) + (M 117 (M 104 19))) x3) 119 (((20 : Int) * (M 104 19)) + (M 117 (M 104 19))) x5) 117 ((mset (mset M 118 (((20 : Int) * (M 104 19)) + (M 117 (M 104 19))) x3) 119 (((20 : Int) * (M 104 19)) + (M 117 (M 104 19))) x5) 104 19) (((mset (mset M 118 (((20 : Int) * (M 104 19)) + (M 117 (M 104 19))) x3) 119 (((20 : Int) * (M 104 19)) + (M 117 (M 104 19))) x5) 117 ((mset (mset M 118 (((20 : Int) * (M 104 19)) + (M 117 (M 104 19))) x3) 119 (((20 : Int) * (M 104 19)) + (M 117 (M 104 19))) x5) 104 19)) + 1)) Q)))))))))) : Rn sx L K0 R0 148 15 [vR 106, vI x1, vI x2, vI x3, vI x4, vI x5, vU] [] M Q := by
  refine Rn_w (by decide) ?_
  show wpc sx L K0 R0 148 [(155, 2, .bipush 20, []), (157, 1, .aload_n 0, []), (158, 3, .getfield 159, [9, 19, 1173]), (161, 1, .imul, []), (162, 1, .aload_n 0, []), (163, 3, .getfield 46, [9, 15, 1169]), (166, 1, .aload_n 0, []), (167, 3, .getfield 159, [9, 19, 1173]), (170, 1, .iaload, []), (171, 1, .iadd, []), (172, 2, .istore 6, []), (174, 1, .aload_n 0, []), (175, 3, .getfield 49, [9, 16, 1170]), (178, 2, .iload 6, []), (180, 1, .iload_n 3, []), (181, 1, .iastore, []), (182, 1, .aload_n 0, []), (183, 3, .getfield 52, [9, 17, 1171]), (186, 2, .iload 6, []), (188, 2, .iload 5, []), (190, 1, .iastore, []), (191, 1, .aload_n 0, []), (192, 3, .getfield 46, [9, 15, 1169]), (195, 1, .aload_n 0, []), (196, 3, .getfield 159, [9, 19, 1173]), (199, 1, .dup2, []), (200, 1, .iaload, []), (201, 1, .iconst 1, []), (202, 1, .iadd, []), (203, 1, .iastore, []), (204, 1, .iload_n 3, []), (205, 3, .ifCond .ne 7, [16]), (208, 1, .iload_n 1, []), (209, 3, .goto 25, [18])] 0 [vR 106, vI x1, vI x2, vI x3, vI x4, vI x5, vU] [] M Q
  simp only [w_bipush, w_al_0, w_gf_9_19, kin_T (ks_104), w_imul, w_gf_9_15, rs_104_15, w_iald, arr_T (ks_117), w_iadd, w_is_6 (c2I _), w_gf_9_16, rs_104_16, w_il_6, w_il_3, w_iast, arr_T (ks_118), w_gf_9_17, rs_104_17, w_il_5, arr_T (ks_119), w_dup2 (c2I _) (c2R _), w_iconst, w_if_ne, w_il_1, w_goto, true_and, and_true, true_or, or_true]
  exact h
theorem b_148_16 {sx : Int → Int} {L : Nat} {x1 : Int} {x2 : Int} {x3 : Int} {x4 : Int} {x5 : Int} {x6 : Int} {M : Mem} {Q : Option AV → Mem → Prop} 
    (h : (¬ x3 = (1 : Int) → Rn sx L K0 R0 148 17 [vR 106, vI x1, vI x2, vI x3, vI x4, vI x5, vI x6] [] M Q) ∧ (¬ (¬ x3 = (1 : Int)) → ((0 : Int) ≤ (1 : Int) ∧ (0 : Int) ≤ x5 ∧ x5 ≤ (30 : Int) ∧ (1 : Int) * 2 ^ (x5).toNat ≤ (2147483647 : Int)) ∧ (Rn sx L K0 R0 148 18 [vR 106, vI x1, vI x2, vI x3, vI x4, vI x5, vI x6] [vI (iOr x1 ((1 : Int) * 2 ^ (x5).toNat))] M Q))) : Rn sx L K0 R0 148 16 [vR 106, vI x1, vI x2, vI x3, vI x4, vI x5, vI x6] [] M Q := by
  refine Rn_w (by decide) ?_
  show wpc sx L K0 R0 148 [(212, 1, .iload_n 3, []), (213, 1, .iconst 1, []), (214, 3, .if_icmp .ne 12, [17]), (217, 1, .iload_n 1, []), (218, 1, .iconst 1, []), (219, 2, .iload 5, []), (221, 1, .ishl, []), (222, 1, .ior, []), (223, 3, .goto 11, [18])] 0 [vR 106, vI x1, vI x2, vI x3, vI x4, vI x5, vI x6] [] M Q
  simp only [w_il_3, w_iconst, w_ic_ne, w_il_1, w_il_5, w_ishl, w_ior, w_goto, true_and, and_true, true_or, or_true]
  exact h
theorem b_148_17 {sx : Int → Int} {L : Nat} {x1 : Int} {x2 : Int} {x3 : Int} {x4 : Int} {x5 : Int} {x6 : Int} {M : Mem} {Q : Option AV → Mem → Prop} 
    (h : ((0 : Int) ≤ (1 : Int) ∧ (0 : Int) ≤ x5 ∧ x5 ≤ (30 : Int) ∧ (1 : Int) * 2 ^ (x5).toNat ≤ (2147483647 : Int)) ∧ (Rn sx L K0 R0 148 18 [vR 106, vI x1, vI x2, vI x3, vI x4, vI x5, vI x6] [vI (iAnd x1 (iXor ((1 : Int) * 2 ^ (x5).toNat) (-1)))] M Q)) : Rn sx L K0 R0 148 17 [vR 106, vI x1, vI x2, vI x3, vI x4, vI x5, vI x6] [] M Q := by
  refine Rn_w (by decide) ?_
  show wpc sx L K0 R0 148 [(226, 1, .iload_n 1, []), (227, 1, .iconst 1, []), (228, 2, .iload 5, []), (230, 1, .ishl, []), (231, 1, .iconst (-1), []), (232, 1, .ixor, []), (233, 1, .iand, [])] 18 [vR 106, vI x1, vI x2, vI x3, vI x4, vI x5, vI x6] [] M Q
  simp only [w_il_1, w_iconst, w_il_5, w_ishl, w_ixor, w_iand, w_fall, true_and, and_true, true_or, or_true]
  exact h
theorem b_148_18 {sx : Int → Int} {L : Nat} {x1 : Int} {x2 : Int} {x3 : Int} {x4 : Int} {x5 : Int} {x6 : Int} {y0 : Int} {M : Mem} {Q : Option AV → Mem → Prop} 
    (h : Q (some (vI y0)) M) : Rn sx L K0 R0 148 18 [vR 106, vI x1, vI x2, vI x3, vI x4, vI x5, vI x6] [vI y0] M Q := by
  refine Rn_w (by decide) ?_
  show wpc sx L K0 R0 148 [(234, 1, .ireturn, [])] 0 [vR 106, vI x1, vI x2, vI x3, vI x4, vI x5, vI x6] [vI y0] M Q
  simp only [w_ret1 rk_148, true_and, and_true, true_or, or_true]
  exact h
set_option maxRecDepth 8192 in
theorem b_149_0 {sx : Int → Int} {L : Nat} {x1 : Int} {M : Mem} {Q : Option AV → Mem → Prop} 
    (h : ((0 : Int) ≤ x1 ∧ x1 < (8 : Int)) ∧ (Mq sx L K0 R0 146 [vR 106, vI 112] (mset (mset (mset (mset M 104 19 x1) 104 20 0) 104 21 (-1)) 117 x1 0) (fun rv M1 => rv = none ∧ (Mq sx L K0 R0 147 [vR 106, vI 2, vI 1, vI 60] M1 (fun rv M2 => ∃ r1, rv = some (vI r1) ∧ (((0 : Int) ≤ x1 ∧ x1 < (8 : Int)) ∧ (Mq sx L K0 R0 146 [vR 106, vI 44] (mset M2 114 x1 r1) (fun rv M3 => rv = none ∧ (Mq sx L K0 R0 146 [vR 106, vI 100] M3 (fun rv M4 => rv = none ∧ (Mq sx L K0 R0 147 [vR 106, vI 2, vI 1, vI 99] M4 (fun rv M5 => ∃ r2, rv = some (vI r2) ∧ (((0 : Int) ≤ x1 ∧ x1 < (8 : Int)) ∧ (Mq sx L K0 R0 146 [vR 106, vI 44] (mset M5 115 x1 r2) (fun rv M6 => rv = none ∧ (Mq sx L K0 R0 146 [vR 106, vI 111] M6 (fun rv M7 => rv = none ∧ (Mq sx L K0 R0 147 [vR 106, vI 2, vI 0, vI 99] M7 (fun rv M8 => ∃ r3, rv = some (vI r3) ∧ (((0 : Int) ≤ x1 ∧ x1 < (8 : Int)) ∧ (Mq sx L K0 R0 146 [vR 106, vI 58] (mset M8 116 x1 r3) (fun rv M9 => rv = none ∧ ((¬ M9 104 21 = (-1 : Int) → Rn sx L K0 R0 149 1 [vR 106, vI x1, vI 0, vU] [] M9 Q) ∧ (¬ (¬ M9 104 21 = (-1 : Int)) → Rn sx L K0 R0 149 2 [vR 106, vI x1, vI 0, vU] [vI 1] M9 Q)))))))))))))))))))))))) : Rn sx L K0 R0 149 0 [vR 106, vI x1, vU, vU] [] M Q := by
  refine Rn_w (by decide) ?_
  show wpc sx L K0 R0 149 [(0, 1, .aload_n 0, []), (1, 1, .iload_n 1, []), (2, 3, .putfield 159, [9, 19, 1173]), (5, 1, .aload_n 0, []), (6, 1, .iconst 0, []), (7, 3, .putfield 156, [9, 20, 1174]), (10, 1, .aload_n 0, []), (11, 1, .iconst (-1), []), (12, 3, .putfield 162, [9, 21, 1175]), (15, 1, .aload_n 0, []), (16, 3, .getfield 46, [9, 15, 1169]), (19, 1, .iload_n 1, []), (20, 1, .iconst 0, []), (21, 1, .iastore, []), (22, 1, .aload_n 0, []), (23, 2, .bipush 112, []), (25, 3, .invokevirtual 173, [146, 1393, 1]), (28, 1, .aload_n 0, []), (29, 3, .getfield 37, [9, 12, 1166]), (32, 1, .iload_n 1, []), (33, 1, .aload_n 0, []), (34, 1, .iconst 2, []), (35, 1, .iconst 1, []), (36, 2, .bipush 60, []), (38, 3, .invokevirtual 169, [147, 1401, 3]), (41, 1, .iastore, []), (42, 1, .aload_n 0, []), (43, 2, .bipush 44, []), (45, 3, .invokevirtual 173, [146, 1393, 1]), (48, 1, .aload_n 0, []), (49, 2, .bipush 100, []), (51, 3, .invokevirtual 173, [146, 1393, 1]), (54, 1, .aload_n 0, []), (55, 3, .getfield 40, [9, 13, 1167]), (58, 1, .iload_n 1, []), (59, 1, .aload_n 0, []), (60, 1, .iconst 2, []), (61, 1, .iconst 1, []), (62, 2, .bipush 99, []), (64, 3, .invokevirtual 169, [147, 1401, 3]), (67, 1, .iastore, []), (68, 1, .aload_n 0, []), (69, 2, .bipush 44, []), (71, 3, .invokevirtual 173, [146, 1393, 1]), (74, 1, .aload_n 0, []), (75, 2, .bipush 111, []), (77, 3, .invokevirtual 173, [146, 1393, 1]), (80, 1, .aload_n 0, []), (81, 3, .getfield 43, [9, 14, 1168]), (84, 1, .iload_n 1, []), (85, 1, .aload_n 0, []), (86, 1, .iconst 2, []), (87, 1, .iconst 0, []), (88, 2, .bipush 99, []), (90, 3, .invokevirtual 169, [147, 1401, 3]), (93, 1, .iastore, []), (94, 1, .aload_n 0, []), (95, 2, .bipush 58, []), (97, 3, .invokevirtual 173, [146, 1393, 1]), (100, 1, .iconst 0, []), (101, 1, .istore_n 2, []), (102, 1, .aload_n 0, []), (103, 3, .getfield 162, [9, 21, 1175]), (106, 1, .iconst (-1), []), (107, 3, .if_icmp .ne 7, [1]), (110, 1, .iconst 1, []), (111, 3, .goto 4, [2])] 0 [vR 106, vI x1, vU, vU] [] M Q
  simp only [w_al_0, w_il_1, w_pf_9_19, kin_T (ks_104), w_iconst, w_pf_9_20, w_pf_9_21, w_gf_9_15, rs_104_15, w_iast, arr_T (ks_117), w_bipush, w_ivv_1 (c2I _) cs0, mk_146, rk_146, rvk0, List.nil_append, w_gf_9_12, rs_104_12, w_ivv_3 (c2I _) (c2I _) (c2I _) (cs2 _ _), mk_147, rk_147, rvk1, List.cons_append, arr_T (ks_114), w_gf_9_13, rs_104_13, arr_T (ks_115), w_gf_9_14, rs_104_14, arr_T (ks_116), w_is_2 (c2I _), w_gf_9_21, w_ic_ne, w_goto, true_and, and_true, true_or, or_true]
  exact h
theorem b_149_1 {sx : Int → Int} {L : Nat} {x1 : Int} {x2 : Int} {M : Mem} {Q : Option AV → Mem → Prop} 
    (h : Rn sx L K0 R0 149 2 [vR 106, vI x1, vI x2, vU] [vI 0] M Q) : Rn sx L K0 R0 149 1 [vR 106, vI x1, vI x2, vU] [] M Q := by
  refine Rn_w (by decide) ?_
  show wpc sx L K0 R0 149 [(114, 1, .iconst 0, [])] 2 [vR 106, vI x1, vI x2, vU] [] M Q
  simp only [w_iconst, w_fall, true_and, and_true, true_or, or_true]
  exact h
theorem b_149_2 {sx : Int → Int} {L : Nat} {x1 : Int} {x2 : Int} {y0 : Int} {M : Mem} {Q : Option AV → Mem → Prop} 
    (h : Rn sx L K0 R0 149 3 [vR 106, vI x1, vI x2, vI y0] [] M Q) : Rn sx L K0 R0 149 2 [vR 106, vI x1, vI x2, vU] [vI y0] M Q := by
  refine Rn_w (by decide) ?_
  show wpc sx L K0 R0 149 [(115, 1, .istore_n 3, [])] 3 [vR 106, vI x1, vI x2, vU] [vI y0] M Q
  simp only [w_is_3 (c2I _), w_fall, true_and, and_true, true_or, or_true]
  exact h
theorem b_149_3 {sx : Int → Int} {L : Nat} {x1 : Int} {x2 : Int} {x3 : Int} {M : Mem} {Q : Option AV → Mem → Prop} 
    (h : (x3 = (0 : Int) → Rn sx L K0 R0 149 8 [vR 106, vI x1, vI x2, vI x3] [] M Q) ∧ (¬ (x3 = (0 : Int)) → Mq sx L K0 R0 148 [vR 106, vI x2] M (fun rv M1 => ∃ r1, rv = some (vI r1) ∧ ((¬ M1 104 21 = (-1 : Int) → Rn sx L K0 R0 149 4 [vR 106, vI x1, vI r1, vI x3] [] M1 Q) ∧ (¬ (¬ M1 104 21 = (-1 : Int)) → Mq sx L K0 R0 145 [vR 106] M1 (fun rv M2 => ∃ r2, rv = some (vI r2) ∧ ((¬ r2 = (44 : Int) → Rn sx L K0 R0 149 4 [vR 106, vI x1, vI r1, vI x3] [] M2 Q) ∧ (¬ (¬ r2 = (44 : Int)) → Rn sx L K0 R0 149 5 [vR 106, vI x1, vI r1, vI x3] [vI 1] M2 Q)))))))) : Rn sx L K0 R0 149 3 [vR 106, vI x1, vI x2, vI x3] [] M Q := by
  refine Rn_w (by decide) ?_
  show wpc sx L K0 R0 149 [(116, 1, .iload_n 3, []), (117, 3, .ifCond .eq 53, [8]), (120, 1, .aload_n 0, []), (121, 1, .iload_n 2, []), (122, 3, .invokevirtual 177, [148, 1405, 1]), (125, 1, .istore_n 2, []), (126, 1, .aload_n 0, []), (127, 3, .getfield 162, [9, 21, 1175]), (130, 1, .iconst (-1), []), (131, 3, .if_icmp .ne 16, [4]), (134, 1, .aload_n 0, []), (135, 3, .invokevirtual 165, [145, 1397, 0]), (138, 2, .bipush 44, []), (140, 3, .if_icmp .ne 7, [4]), (143, 1, .iconst 1, []), (144, 3, .goto 4, [5])] 0 [vR 106, vI x1, vI x2, vI x3] [] M Q
  simp only [w_il_3, w_if_eq, w_al_0, w_il_2, w_ivv_1 (c2I _) cs0, mk_148, kin_T (ks_104), rk_148, rvk1, List.cons_append, List.nil_append, w_is_2 (c2I _), w_gf_9_21, w_iconst, w_ic_ne, w_ivv_0  cs0, mk_145, rk_145, w_bipush, w_goto, true_and, and_true, true_or, or_true]
  exact h
theorem b_149_4 {sx : Int → Int} {L : Nat} {x1 : Int} {x2 : Int} {x3 : Int} {M : Mem} {Q : Option AV → Mem → Prop} 
    (h : Rn sx L K0 R0 149 5 [vR 106, vI x1, vI x2, vI x3] [vI 0] M Q) : Rn sx L K0 R0 149 4 [vR 106, vI x1, vI x2, vI x3] [] M Q := by
  refine Rn_w (by decide) ?_
  show wpc sx L K0 R0 149 [(147, 1, .iconst 0, [])] 5 [vR 106, vI x1, vI x2, vI x3] [] M Q
  simp only [w_iconst, w_fall, true_and, and_true, true_or, or_true]
  exact h
theorem b_149_5 {sx : Int → Int} {L : Nat} {x1 : Int} {x2 : Int} {x3 : Int} {y0 : Int} {M : Mem} {Q : Option AV → Mem → Prop} 
    (h : (y0 = (0 : Int) → Rn sx L K0 R0 149 6 [vR 106, vI x1, vI x2, vI y0] [vI (M 104 20), vR 106] M Q) ∧ (¬ (y0 = (0 : Int)) → Rn sx L K0 R0 149 7 [vR 106, vI x1, vI x2, vI y0] [vI 1, vI (M 104 20), vR 106] M Q)) : Rn sx L K0 R0 149 5 [vR 106, vI x1, vI x2, vI x3] [vI y0] M Q := by
  refine Rn_w (by decide) ?_
  show wpc sx L K0 R0 149 [(148, 1, .istore_n 3, []), (149, 1, .aload_n 0, []), (150, 1, .dup, []), (151, 3, .getfield 156, [9, 20, 1174]), (154, 1, .iload_n 3, []), (155, 3, .ifCond .eq 7, [6]), (158, 1, .iconst 1, []), (159, 3, .goto 4, [7])] 0 [vR 106, vI x1, vI x2, vI x3] [vI y0] M Q
  simp only [w_is_3 (c2I _), w_al_0, w_dup (c2R _), w_gf_9_20, kin_T (ks_104), w_il_3, w_if_eq, w_iconst, w_goto, true_and, and_true, true_or, or_true]
  exact h
theorem b_149_6 {sx : Int → Int} {L : Nat} {x1 : Int} {x2 : Int} {x3 : Int} {y1 : Int} {M : Mem} {Q : Option AV → Mem → Prop} 
    (h : Rn sx L K0 R0 149 7 [vR 106, vI x1, vI x2, vI x3] [vI 0, vI y1, vR 106] M Q) : Rn sx L K0 R0 149 6 [vR 106, vI x1, vI x2, vI x3] [vI y1, vR 106] M Q := by
  refine Rn_w (by decide) ?_
  show wpc sx L K0 R0 149 [(162, 1, .iconst 0, [])] 7 [vR 106, vI x1, vI x2, vI x3] [vI y1, vR 106] M Q
  simp only [w_iconst, w_fall, true_and, and_true, true_or, or_true]
  exact h
theorem b_149_7 {sx : Int → Int} {L : Nat} {x1 : Int} {x2 : Int} {x3 : Int} {y1 : Int} {y2 : Int} {M : Mem} {Q : Option AV → Mem → Prop} 
    (h : inR (y1 + y2) ∧ (Rn sx L K0 R0 149 3 [vR 106, vI x1, vI x2, vI x3] [] (mset M 104 20 (y1 + y2)) Q)) : Rn sx L K0 R0 149 7 [vR 106, vI x1, vI x2, vI x3] [vI y2, vI y1, vR 106] M Q := by
  refine Rn_w (by decide) ?_
  show wpc sx L K0 R0 149 [(163, 1, .iadd, []), (164, 3, .putfield 156, [9, 20, 1174]), (167, 3, .goto (-51), [3])] 0 [vR 106, vI x1, vI x2, vI x3] [vI y2, vI y1, vR 106] M Q
  simp only [w_iadd, w_pf_9_20, kin_T (ks_104), w_goto, true_and, and_true, true_or, or_true]
  exact h
theorem b_149_8 {sx : Int → Int} {L : Nat} {x1 : Int} {x2 : Int} {x3 : Int} {M : Mem} {Q : Option AV → Mem → Prop} 
    (h : (¬ M 104 21 = (-1 : Int) → Rn sx L K0 R0 149 9 [vR 106, vI x1, vI x2, vI x3] [] M Q) ∧ (¬ (¬ M 104 21 = (-1 : Int)) → ((0 : Int) ≤ x1 ∧ x1 < (8 : Int)) ∧ ((M 104 20 < M 109 x1 → Rn sx L K0 R0 149 10 [vR 106, vI x1, vI x2, vI x3] [] M Q) ∧ (¬ (M 104 20 < M 109 x1) → Rn sx L K0 R0 149 9 [vR 106, vI x1, vI x2, vI x3] [] M Q)))) : Rn sx L K0 R0 149 8 [vR 106, vI x1, vI x2, vI x3] [] M Q := by
  refine Rn_w (by decide) ?_
  show wpc sx L K0 R0 149 [(170, 1, .aload_n 0, []), (171, 3, .getfield 162, [9, 21, 1175]), (174, 1, .iconst (-1), []), (175, 3, .if_icmp .ne 16, [9]), (178, 1, .aload_n 0, []), (179, 3, .getfield 156, [9, 20, 1174]), (182, 1, .aload_n 0, []), (183, 3, .getfield 22, [9, 5, 1159]), (186, 1, .iload_n 1, []), (187, 1, .iaload, []), (188, 3, .if_icmp .lt 19, [10])] 9 [vR 106, vI x1, vI x2, vI x3] [] M Q
  simp only [w_al_0, w_gf_9_21, kin_T (ks_104), w_iconst, w_ic_ne, w_gf_9_20, w_gf_9_5, rs_104_5, w_il_1, w_iald, arr_T (ks_109), w_ic_lt, w_fall, true_and, and_true, true_or, or_true]
  exact h
theorem b_149_9 {sx : Int → Int} {L : Nat} {x1 : Int} {x2 : Int} {x3 : Int} {M : Mem} {Q : Option AV → Mem → Prop} 
    (h : (¬ M 104 21 = (-1 : Int) → Rn sx L K0 R0 149 11 [vR 106, vI x1, vI x2, vI x3] [] M Q) ∧ (¬ (¬ M 104 21 = (-1 : Int)) → Mq sx L K0 R0 151 [vR 106, vI x1] M (fun rv M1 => ∃ r1, rv = some (vI r1) ∧ ((¬ r1 = (0 : Int) → Rn sx L K0 R0 149 11 [vR 106, vI x1, vI x2, vI x3] [] M1 Q) ∧ (¬ (¬ r1 = (0 : Int)) → Rn sx L K0 R0 149 10 [vR 106, vI x1, vI x2, vI x3] [] M1 Q))))) : Rn sx L K0 R0 149 9 [vR 106, vI x1, vI x2, vI x3] [] M Q := by
  refine Rn_w (by decide) ?_
  show wpc sx L K0 R0 149 [(191, 1, .aload_n 0, []), (192, 3, .getfield 162, [9, 21, 1175]), (195, 1, .iconst (-1), []), (196, 3, .if_icmp .ne 19, [11]), (199, 1, .aload_n 0, []), (200, 1, .iload_n 1, []), (201, 3, .invokevirtual 181, [151, 1409, 1]), (204, 3, .ifCond .ne 11, [11])] 10 [vR 106, vI x1, vI x2, vI x3] [] M Q
  simp only [w_al_0, w_gf_9_21, kin_T (ks_104), w_iconst, w_ic_ne, w_il_1, w_ivv_1 (c2I _) cs0, mk_151, rk_151, rvk1, List.cons_append, List.nil_append, w_if_ne, w_fall, true_and, and_true, true_or, or_true]
  exact h
theorem b_149_10 {sx : Int → Int} {L : Nat} {x1 : Int} {x2 : Int} {x3 : Int} {M : Mem} {Q : Option AV → Mem → Prop} 
    (h : Rn sx L K0 R0 149 11 [vR 106, vI x1, vI x2, vI x3] [] (mset M 104 21 (M 104 20)) Q) : Rn sx L K0 R0 149 10 [vR 106, vI x1, vI x2, vI x3] [] M Q := by
  refine Rn_w (by decide) ?_
  show wpc sx L K0 R0 149 [(207, 1, .aload_n 0, []), (208, 1, .aload_n 0, []), (209, 3, .getfield 156, [9, 20, 1174]), (212, 3, .putfield 162, [9, 21, 1175])] 11 [vR 106, vI x1, vI x2, vI x3] [] M Q
  simp only [w_al_0, w_gf_9_20, kin_T (ks_104), w_pf_9_21, w_fall, true_and, and_true, true_or, or_true]
  exact h
theorem b_149_11 {sx : Int → Int} {L : Nat} {x1 : Int} {x2 : Int} {x3 : Int} {M : Mem} {Q : Option AV → Mem → Prop} 
    (h : ((0 : Int) ≤ x1 ∧ x1 < (8 : Int)) ∧ (((0 : Int) ≤ x1 ∧ x1 < (8 : Int)) ∧ ((¬ (mset (mset M 113 x1 (M 104 21)) 120 x1 x2) 104 21 = (-1 : Int) → Rn sx L K0 R0 149 12 [vR 106, vI x1, vI x2, vI x3] [vI x1, vR 119] (mset (mset M 113 x1 (M 104 21)) 120 x1 x2) Q) ∧ (¬ (¬ (mset (mset M 113 x1 (M 104 21)) 120 x1 x2) 104 21 = (-1 : Int)) → ((0 : Int) ≤ x1 ∧ x1 < (8 : Int)) ∧ (Rn sx L K0 R0 149 13 [vR 106, vI x1, vI x2, vI x3] [vI ((mset (mset M 113 x1 (M 104 21)) 120 x1 x2) 117 x1), vI x1, vR 119] (mset (mset M 113 x1 (M 104 21)) 120 x1 x2) Q))))) : Rn sx L K0 R0 149 11 [vR 106, vI x1, vI x2, vI x3] [] M Q := by
  refine Rn_w (by decide) ?_
  show wpc sx L K0 R0 149 [(215, 1, .aload_n 0, []), (216, 3, .getfield 34, [9, 11, 1165]), (219, 1, .iload_n 1, []), (220, 1, .aload_n 0, []), (221, 3, .getfield 162, [9, 21, 1175]), (224, 1, .iastore, []), (225, 1, .aload_n 0, []), (226, 3, .getfield 55, [9, 18, 1172]), (229, 1, .iload_n 1, []), (230, 1, .iload_n 2, []), (231, 1, .iastore, []), (232, 1, .aload_n 0, []), (233, 3, .getfield 46, [9, 15, 1169]), (236, 1, .iload_n 1, []), (237, 1, .aload_n 0, []), (238, 3, .getfield 162, [9, 21, 1175]), (241, 1, .iconst (-1), []), (242, 3, .if_icmp .ne 12, [12]), (245, 1, .aload_n 0, []), (246, 3, .getfield 46, [9, 15, 1169]), (249, 1, .iload_n 1, []), (250, 1, .iaload, []), (251, 3, .goto 4, [13])] 0 [vR 106, vI x1, vI x2, vI x3] [] M Q
  simp only [w_al_0, w_gf_9_11, kin_T (ks_104), rs_104_11, w_il_1, w_gf_9_21, w_iast, arr_T (ks_113), w_gf_9_18, rs_104_18, w_il_2, arr_T (ks_120), w_gf_9_15, rs_104_15, w_iconst, w_ic_ne, w_iald, arr_T (ks_117), w_goto, true_and, and_true, true_or, or_true]
  exact h
theorem b_149_12 {sx : Int → Int} {L : Nat} {x1 : Int} {x2 : Int} {x3 : Int} {y1 : Int} {M : Mem} {Q : Option AV → Mem → Prop} 
    (h : Rn sx L K0 R0 149 13 [vR 106, vI x1, vI x2, vI x3] [vI 0, vI y1, vR 119] M Q) : Rn sx L K0 R0 149 12 [vR 106, vI x1, vI x2, vI x3] [vI y1, vR 119] M Q := by
  refine Rn_w (by decide) ?_
  show wpc sx L K0 R0 149 [(254, 1, .iconst 0, [])] 13 [vR 106, vI x1, vI x2, vI x3] [vI y1, vR 119] M Q
  simp only [w_iconst, w_fall, true_and, and_true, true_or, or_true]
  exact h
theorem b_149_13 {sx : Int → Int} {L : Nat} {x1 : Int} {x2 : Int} {x3 : Int} {y1 : Int} {y2 : Int} {M : Mem} {Q : Option AV → Mem → Prop} 
    (h : ((0 : Int) ≤ y1 ∧ y1 < (8 : Int)) ∧ (Q none (mset M 117 y1 y2))) : Rn sx L K0 R0 149 13 [vR 106, vI x1, vI x2, vI x3] [vI y2, vI y1, vR 119] M Q := by
  refine Rn_w (by decide) ?_
  show wpc sx L K0 R0 149 [(255, 1, .iastore, []), (256, 1, .return_, [])] 0 [vR 106, vI x1, vI x2, vI x3] [vI y2, vI y1, vR 119] M Q
  simp only [w_iast, arr_T (ks_117), w_ret0 rk_149, true_and, and_true, true_or, or_true]
  exact h
theorem b_150_0 {sx : Int → Int} {L : Nat}  {M : Mem} {Q : Option AV → Mem → Prop} 
    (h : (M 104 10 = (0 : Int) → Rn sx L K0 R0 150 1 [vR 106, vU] [] M Q) ∧ (¬ (M 104 10 = (0 : Int)) → Q none M)) : Rn sx L K0 R0 150 0 [vR 106, vU] [] M Q := by
  refine Rn_w (by decide) ?_
  show wpc sx L K0 R0 150 [(0, 1, .aload_n 0, []), (1, 3, .getfield 149, [9, 10, 1164]), (4, 3, .ifCond .eq 4, [1]), (7, 1, .return_, [])] 0 [vR 106, vU] [] M Q
  simp only [w_al_0, w_gf_9_10, kin_T (ks_104), w_if_eq, w_ret0 rk_150, true_and, and_true, true_or, or_true]
  exact h
theorem b_150_1 {sx : Int → Int} {L : Nat}  {M : Mem} {Q : Option AV → Mem → Prop} 
    (h : Rn sx L K0 R0 150 2 [vR 106, vI 0] [] (mset M 104 10 1) Q) : Rn sx L K0 R0 150 1 [vR 106, vU] [] M Q := by
  refine Rn_w (by decide) ?_
  show wpc sx L K0 R0 150 [(8, 1, .aload_n 0, []), (9, 1, .iconst 1, []), (10, 3, .putfield 149, [9, 10, 1164]), (13, 1, .iconst 0, []), (14, 1, .istore_n 1, [])] 2 [vR 106, vU] [] M Q
  simp only [w_al_0, w_iconst, w_pf_9_10, kin_T (ks_104), b01_1, w_is_1 (c2R _), w_fall, true_and, and_true, true_or, or_true]
  exact h
theorem b_150_2 {sx : Int → Int} {L : Nat} {x1 : Int} {M : Mem} {Q : Option AV → Mem → Prop} 
    (h : ((8 : Int) ≤ x1 → Rn sx L K0 R0 150 3 [vR 106, vI x1] [] M Q) ∧ (¬ ((8 : Int) ≤ x1) → Mq sx L K0 R0 149 [vR 106, vI x1] M (fun rv M1 => rv = none ∧ (inR (x1 + 1) ∧ (Rn sx L K0 R0 150 2 [vR 106, vI (x1 + 1)] [] M1 Q))))) : Rn sx L K0 R0 150 2 [vR 106, vI x1] [] M Q := by
  refine Rn_w (by decide) ?_
  show wpc sx L K0 R0 150 [(15, 1, .iload_n 1, []), (16, 2, .bipush 8, []), (18, 3, .if_icmp .ge 14, [3]), (21, 1, .aload_n 0, []), (22, 1, .iload_n 1, []), (23, 3, .invokevirtual 184, [149, 1389, 1]), (26, 3, .iinc 1 1, []), (29, 3, .goto (-14), [2])] 0 [vR 106, vI x1] [] M Q
  simp only [w_il_1, w_bipush, w_ic_ge, w_al_0, w_ivv_1 (c2I _) cs0, mk_149, kin_T (ks_104), rk_149, rvk0, List.nil_append, w_inc_1 (c2R _), w_goto, true_and, and_true, true_or, or_true]
  exact h
theorem b_150_3 {sx : Int → Int} {L : Nat} {x1 : Int} {M : Mem} {Q : Option AV → Mem → Prop} 
    (h : Q none M) : Rn sx L K0 R0 150 3 [vR 106, vI x1] [] M Q := by
  refine Rn_w (by decide) ?_
  show wpc sx L K0 R0 150 [(32, 1, .return_, [])] 0 [vR 106, vI x1] [] M Q
  simp only [w_ret0 rk_150, true_and, and_true, true_or, or_true]
  exact h
theorem b_151_0 {sx : Int → Int} {L : Nat} {x1 : Int} {M : Mem} {Q : Option AV → Mem → Prop} 
    (h : Rn sx L K0 R0 151 1 [vR 106, vI x1, vI 0, vI 0] [] M Q) : Rn sx L K0 R0 151 0 [vR 106, vI x1, vU, vU] [] M Q := by
  refine Rn_w (by decide) ?_
  show wpc sx L K0 R0 151 [(0, 1, .iconst 0, []), (1, 1, .istore_n 2, []), (2, 1, .iconst 0, []), (3, 1, .istore_n 3, [])] 1 [vR 106, vI x1, vU, vU] [] M Q
  simp only [w_iconst, w_is_2 (c2I _), w_is_3 (c2I _), w_fall, true_and, and_true, true_or, or_true]
  exact h
set_option maxRecDepth 8192 in
theorem b_151_1 {sx : Int → Int} {L : Nat} {x1 : Int} {x2 : Int} {x3 : Int} {M : Mem} {Q : Option AV → Mem → Prop} 
    (h : ((0 : Int) ≤ x1 ∧ x1 < (8 : Int)) ∧ ((M 117 x1 ≤ x3 → Rn sx L K0 R0 151 4 [vR 106, vI x1, vI x2, vI x3] [] M Q) ∧ (¬ (M 117 x1 ≤ x3) → inR ((20 : Int) * x1) ∧ (inR (((20 : Int) * x1) + x3) ∧ (((0 : Int) ≤ ((20 : Int) * x1) + x3 ∧ ((20 : Int) * x1) + x3 < (160 : Int)) ∧ ((¬ M 118 (((20 : Int) * x1) + x3) = (0 : Int) → Rn sx L K0 R0 151 2 [vR 106, vI x1, vI x2, vI x3] [vI x2] M Q) ∧ (¬ (¬ M 118 (((20 : Int) * x1) + x3) = (0 : Int)) → inR ((20 : Int) * x1) ∧ (inR (((20 : Int) * x1) + x3) ∧ (((0 : Int) ≤ ((20 : Int) * x1) + x3 ∧ ((20 : Int) * x1) + x3 < (160 : Int)) ∧ (Rn sx L K0 R0 151 3 [vR 106, vI x1, vI x2, vI x3] [vI (M 119 (((20 : Int) * x1) + x3)), vI x2] M Q)))))))))) : Rn sx L K0 R0 151 1 [vR 106, vI x1, vI x2, vI x3] [] M Q := by
  refine Rn_w (by decide) ?_
  show wpc sx L K0 R0 151 [(4, 1, .iload_n 3, []), (5, 1, .aload_n 0, []), (6, 3, .getfield 46, [9, 15, 1169]), (9, 1, .iload_n 1, []), (10, 1, .iaload, []), (11, 3, .if_icmp .ge 41, [4]), (14, 1, .iload_n 2, []), (15, 1, .aload_n 0, []), (16, 3, .getfield 49, [9, 16, 1170]), (19, 2, .bipush 20, []), (21, 1, .iload_n 1, []), (22, 1, .imul, []), (23, 1, .iload_n 3, []), (24, 1, .iadd, []), (25, 1, .iaload, []), (26, 3, .ifCond .ne 17, [2]), (29, 1, .aload_n 0, []), (30, 3, .getfield 52, [9, 17, 1171]), (33, 2, .bipush 20, []), (35, 1, .iload_n 1, []), (36, 1, .imul, []), (37, 1, .iload_n 3, []), (38, 1, .iadd, []), (39, 1, .iaload, []), (40, 3, .goto 4, [3])] 0 [vR 106, vI x1, vI x2, vI x3] [] M Q
  simp only [w_il_3, w_al_0, w_gf_9_15, kin_T (ks_104), rs_104_15, w_il_1, w_iald, arr_T (ks_117), w_ic_ge, w_il_2, w_gf_9_16, rs_104_16, w_bipush, w_imul, w_iadd, arr_T (ks_118), w_if_ne, w_gf_9_17, rs_104_17, arr_T (ks_119), w_goto, true_and, and_true, true_or, or_true]
  exact h
theorem b_151_2 {sx : Int → Int} {L : Nat} {x1 : Int} {x2 : Int} {x3 : Int} {y0 : Int} {M : Mem} {Q : Option AV → Mem → Prop} 
    (h : Rn sx L K0 R0 151 3 [vR 106, vI x1, vI x2, vI x3] [vI 0, vI y0] M Q) : Rn sx L K0 R0 151 2 [vR 106, vI x1, vI x2, vI x3] [vI y0] M Q := by
  refine Rn_w (by decide) ?_
  show wpc sx L K0 R0 151 [(43, 1, .iconst 0, [])] 3 [vR 106, vI x1, vI x2, vI x3] [vI y0] M Q
  simp only [w_iconst, w_fall, true_and, and_true, true_or, or_true]
  exact h
theorem b_151_3 {sx : Int → Int} {L : Nat} {x1 : Int} {x2 : Int} {x3 : Int} {y0 : Int} {y1 : Int} {M : Mem} {Q : Option AV → Mem → Prop} 
    (h : inR (y0 + y1) ∧ (inR (x3 + 1) ∧ (Rn sx L K0 R0 151 1 [vR 106, vI x1, vI (y0 + y1), vI (x3 + 1)] [] M Q))) : Rn sx L K0 R0 151 3 [vR 106, vI x1, vI x2, vI x3] [vI y1, vI y0] M Q := by
  refine Rn_w (by decide) ?_
  show wpc sx L K0 R0 151 [(44, 1, .iadd, []), (45, 1, .istore_n 2, []), (46, 3, .iinc 3 1, []), (49, 3, .goto (-45), [1])] 0 [vR 106, vI x1, vI x2, vI x3] [vI y1, vI y0] M Q
  simp only [w_iadd, w_is_2 (c2I _), w_inc_3 (c2I _), w_goto, true_and, and_true, true_or, or_true]
  exact h
theorem b_151_4 {sx : Int → Int} {L : Nat} {x1 : Int} {x2 : Int} {x3 : Int} {M : Mem} {Q : Option AV → Mem → Prop} 
    (h : Q (some (vI x2)) M) : Rn sx L K0 R0 151 4 [vR 106, vI x1, vI x2, vI x3] [] M Q := by
  refine Rn_w (by decide) ?_
  show wpc sx L K0 R0 151 [(52, 1, .iload_n 2, []), (53, 1, .ireturn, [])] 0 [vR 106, vI x1, vI x2, vI x3] [] M Q
  simp only [w_il_2, w_ret1 rk_151, true_and, and_true, true_or, or_true]
  exact h
theorem b_152_0 {sx : Int → Int} {L : Nat} {x1 : Int} {M : Mem} {Q : Option AV → Mem → Prop} 
    (h : Mq sx L K0 R0 150 [vR 106] M (fun rv M1 => rv = none ∧ (((0 : Int) ≤ x1 ∧ x1 < (8 : Int)) ∧ (Q (some (vI (M1 113 x1))) M1)))) : Rn sx L K0 R0 152 0 [vR 106, vI x1] [] M Q := by
  refine Rn_w (by decide) ?_
  show wpc sx L K0 R0 152 [(0, 1, .aload_n 0, []), (1, 3, .invokevirtual 187, [150, 1385, 0]), (4, 1, .aload_n 0, []), (5, 3, .getfield 34, [9, 11, 1165]), (8, 1, .iload_n 1, []), (9, 1, .iaload, []), (10, 1, .ireturn, [])] 0 [vR 106, vI x1] [] M Q
  simp only [w_al_0, w_ivv_0  cs0, mk_150, kin_T (ks_104), rk_150, rvk0, List.nil_append, w_gf_9_11, rs_104_11, w_il_1, w_iald, arr_T (ks_113), w_ret1 rk_152, true_and, and_true, true_or, or_true]
  exact h
theorem b_153_0 {sx : Int → Int} {L : Nat} {x1 : Int} {M : Mem} {Q : Option AV → Mem → Prop} 
    (h : Mq sx L K0 R0 142 [vI x1] M (fun rv M1 => ∃ r1, rv = some (vI r1) ∧ ((r1 = (0 : Int) → Rn sx L K0 R0 153 1 [vR 106, vI x1] [] M1 Q) ∧ (¬ (r1 = (0 : Int)) → Mq sx L K0 R0 152 [vR 106, vI x1] M1 (fun rv M2 => ∃ r2, rv = some (vI r2) ∧ (Rn sx L K0 R0 153 2 [vR 106, vI x1] [vI r2] M2 Q)))))) : Rn sx L K0 R0 153 0 [vR 106, vI x1] [] M Q := by
  refine Rn_w (by decide) ?_
  show wpc sx L K0 R0 153 [(0, 1, .iload_n 1, []), (1, 3, .invokestatic 152, [142, 1370, 1]), (4, 3, .ifCond .eq 11, [1]), (7, 1, .aload_n 0, []), (8, 1, .iload_n 1, []), (9, 3, .invokevirtual 190, [152, 1381, 1]), (12, 3, .goto 5, [2])] 0 [vR 106, vI x1] [] M Q
  simp only [w_il_1, w_ivs_1 (c2I _) cs0, rk_142, rvk2, List.cons_append, List.nil_append, w_if_eq, w_al_0, w_ivv_1 (c2I _) cs0, mk_152, kin_T (ks_104), rk_152, rvk1, w_goto, true_and, and_true, true_or, or_true]
  exact h
theorem b_153_1 {sx : Int → Int} {L : Nat} {x1 : Int} {M : Mem} {Q : Option AV → Mem → Prop} 
    (h : Rn sx L K0 R0 153 2 [vR 106, vI x1] [vI (-2)] M Q) : Rn sx L K0 R0 153 1 [vR 106, vI x1] [] M Q := by
  refine Rn_w (by decide) ?_
  show wpc sx L K0 R0 153 [(15, 2, .bipush (-2), [])] 2 [vR 106, vI x1] [] M Q
  simp only [w_bipush, w_fall, true_and, and_true, true_or, or_true]
  exact h
theorem b_153_2 {sx : Int → Int} {L : Nat} {x1 : Int} {y0 : Int} {M : Mem} {Q : Option AV → Mem → Prop} 
    (h : Q (some (vI y0)) M) : Rn sx L K0 R0 153 2 [vR 106, vI x1] [vI y0] M Q := by
  refine Rn_w (by decide) ?_
  show wpc sx L K0 R0 153 [(17, 1, .ireturn, [])] 0 [vR 106, vI x1] [vI y0] M Q
  simp only [w_ret1 rk_153, true_and, and_true, true_or, or_true]
  exact h
theorem b_154_0 {sx : Int → Int} {L : Nat}  {M : Mem} {Q : Option AV → Mem → Prop} 
    (h : Mq sx L K0 R0 150 [vR 106] M (fun rv M1 => rv = none ∧ (Rn sx L K0 R0 154 1 [vR 106, vI 0, vI 0] [] M1 Q))) : Rn sx L K0 R0 154 0 [vR 106, vU, vU] [] M Q := by
  refine Rn_w (by decide) ?_
  show wpc sx L K0 R0 154 [(0, 1, .aload_n 0, []), (1, 3, .invokevirtual 187, [150, 1385, 0]), (4, 1, .iconst 0, []), (5, 1, .istore_n 1, []), (6, 1, .iconst 0, []), (7, 1, .istore_n 2, [])] 1 [vR 106, vU, vU] [] M Q
  simp only [w_al_0, w_ivv_0  cs0, mk_150, kin_T (ks_104), rk_150, rvk0, List.nil_append, w_iconst, w_is_1 (c2R _), w_is_2 (c2I _), w_fall, true_and, and_true, true_or, or_true]
  exact h
theorem b_154_1 {sx : Int → Int} {L : Nat} {x1 : Int} {x2 : Int} {M : Mem} {Q : Option AV → Mem → Prop} 
    (h : ((8 : Int) ≤ x2 → Rn sx L K0 R0 154 4 [vR 106, vI x1, vI x2] [] M Q) ∧ (¬ ((8 : Int) ≤ x2) → ((0 : Int) ≤ x2 ∧ x2 < (8 : Int)) ∧ ((¬ M 113 x2 = (-1 : Int) → Rn sx L K0 R0 154 2 [vR 106, vI x1, vI x2] [vI x1] M Q) ∧ (¬ (¬ M 113 x2 = (-1 : Int)) → ((0 : Int) ≤ M 104 9 ∧ (0 : Int) ≤ x2 ∧ x2 ≤ (30 : Int)) ∧ ((¬ iAnd ((M 104 9) / 2 ^ (x2).toNat) 1 = (0 : Int) → Rn sx L K0 R0 154 2 [vR 106, vI x1, vI x2] [vI x1] M Q) ∧ (¬ (¬ iAnd ((M 104 9) / 2 ^ (x2).toNat) 1 = (0 : Int)) → ((0 : Int) ≤ (1 : Int) ∧ (0 : Int) ≤ x2 ∧ x2 ≤ (30 : Int) ∧ (1 : Int) * 2 ^ (x2).toNat ≤ (2147483647 : Int)) ∧ (Rn sx L K0 R0 154 3 [vR 106, vI x1, vI x2] [vI ((1 : Int) * 2 ^ (x2).toNat), vI x1] M Q))))))) : Rn sx L K0 R0 154 1 [vR 106, vI x1, vI x2] [] M Q := by
  refine Rn_w (by decide) ?_
  show wpc sx L K0 R0 154 [(8, 1, .iload_n 2, []), (9, 2, .bipush 8, []), (11, 3, .if_icmp .ge 40, [4]), (14, 1, .iload_n 1, []), (15, 1, .aload_n 0, []), (16, 3, .getfield 34, [9, 11, 1165]), (19, 1, .iload_n 2, []), (20, 1, .iaload, []), (21, 1, .iconst (-1), []), (22, 3, .if_icmp .ne 20, [2]), (25, 1, .aload_n 0, []), (26, 3, .getfield 193, [9, 9, 1163]), (29, 1, .iload_n 2, []), (30, 1, .ishr, []), (31, 1, .iconst 1, []), (32, 1, .iand, []), (33, 3, .ifCond .ne 9, [2]), (36, 1, .iconst 1, []), (37, 1, .iload_n 2, []), (38, 1, .ishl, []), (39, 3, .goto 4, [3])] 0 [vR 106, vI x1, vI x2] [] M Q
  simp only [w_il_2, w_bipush, w_ic_ge, w_il_1, w_al_0, w_gf_9_11, kin_T (ks_104), rs_104_11, w_iald, arr_T (ks_113), w_iconst, w_ic_ne, w_gf_9_9, w_ishr, w_iand, w_if_ne, w_ishl, w_goto, true_and, and_true, true_or, or_true]
  exact h
theorem b_154_2 {sx : Int → Int} {L : Nat} {x1 : Int} {x2 : Int} {y0 : Int} {M : Mem} {Q : Option AV → Mem → Prop} 
    (h : Rn sx L K0 R0 154 3 [vR 106, vI x1, vI x2] [vI 0, vI y0] M Q) : Rn sx L K0 R0 154 2 [vR 106, vI x1, vI x2] [vI y0] M Q := by
  refine Rn_w (by decide) ?_
  show wpc sx L K0 R0 154 [(42, 1, .iconst 0, [])] 3 [vR 106, vI x1, vI x2] [vI y0] M Q
  simp only [w_iconst, w_fall, true_and, and_true, true_or, or_true]
  exact h
theorem b_154_3 {sx : Int → Int} {L : Nat} {x1 : Int} {x2 : Int} {y0 : Int} {y1 : Int} {M : Mem} {Q : Option AV → Mem → Prop} 
    (h : inR (x2 + 1) ∧ (Rn sx L K0 R0 154 1 [vR 106, vI (iOr y0 y1), vI (x2 + 1)] [] M Q)) : Rn sx L K0 R0 154 3 [vR 106, vI x1, vI x2] [vI y1, vI y0] M Q := by
  refine Rn_w (by decide) ?_
  show wpc sx L K0 R0 154 [(43, 1, .ior, []), (44, 1, .istore_n 1, []), (45, 3, .iinc 2 1, []), (48, 3, .goto (-40), [1])] 0 [vR 106, vI x1, vI x2] [vI y1, vI y0] M Q
  simp only [w_ior, w_is_1 (c2R _), w_inc_2 (c2I _), w_goto, true_and, and_true, true_or, or_true]
  exact h
theorem b_154_4 {sx : Int → Int} {L : Nat} {x1 : Int} {x2 : Int} {M : Mem} {Q : Option AV → Mem → Prop} 
    (h : Q (some (vI x1)) M) : Rn sx L K0 R0 154 4 [vR 106, vI x1, vI x2] [] M Q := by
  refine Rn_w (by decide) ?_
  show wpc sx L K0 R0 154 [(51, 1, .iload_n 1, []), (52, 1, .ireturn, [])] 0 [vR 106, vI x1, vI x2] [] M Q
  simp only [w_il_1, w_ret1 rk_154, true_and, and_true, true_or, or_true]
  exact h
theorem b_155_0 {sx : Int → Int} {L : Nat} {x1 : Int} {x2 : Int} {M : Mem} {Q : Option AV → Mem → Prop} 
    (h : Mq sx L K0 R0 142 [vI x1] M (fun rv M1 => ∃ r1, rv = some (vI r1) ∧ ((r1 = (0 : Int) → Rn sx L K0 R0 155 1 [vR 106, vI x1, vI x2] [] M1 Q) ∧ (¬ (r1 = (0 : Int)) → Mq sx L K0 R0 137 [vI x2, vI 0, vI 8] M1 (fun rv M2 => ∃ r2, rv = some (vI r2) ∧ ((¬ r2 = (0 : Int) → Rn sx L K0 R0 155 2 [vR 106, vI x1, vI x2] [] M2 Q) ∧ (¬ (¬ r2 = (0 : Int)) → Rn sx L K0 R0 155 1 [vR 106, vI x1, vI x2] [] M2 Q))))))) : Rn sx L K0 R0 155 0 [vR 106, vI x1, vI x2] [] M Q := by
  refine Rn_w (by decide) ?_
  show wpc sx L K0 R0 155 [(0, 1, .iload_n 1, []), (1, 3, .invokestatic 152, [142, 1370, 1]), (4, 3, .ifCond .eq 13, [1]), (7, 1, .iload_n 2, []), (8, 1, .iconst 0, []), (9, 2, .bipush 8, []), (11, 3, .invokestatic 135, [137, 1355, 3]), (14, 3, .ifCond .ne 6, [2])] 1 [vR 106, vI x1, vI x2] [] M Q
  simp only [w_il_1, w_ivs_1 (c2I _) cs0, rk_142, rvk2, List.cons_append, List.nil_append, w_if_eq, w_il_2, w_iconst, w_bipush, w_ivs_3 (c2I _) (c2I _) (c2I _) cs0, rk_137, w_if_ne, w_fall, true_and, and_true, true_or, or_true]
  exact h
theorem b_155_1 {sx : Int → Int} {L : Nat} {x1 : Int} {x2 : Int} {M : Mem} {Q : Option AV → Mem → Prop} 
    (h : Q (some (vI (-2))) M) : Rn sx L K0 R0 155 1 [vR 106, vI x1, vI x2] [] M Q := by
  refine Rn_w (by decide) ?_
  show wpc sx L K0 R0 155 [(17, 2, .bipush (-2), []), (19, 1, .ireturn, [])] 0 [vR 106, vI x1, vI x2] [] M Q
  simp only [w_bipush, w_ret1 rk_155, true_and, and_true, true_or, or_true]
  exact h
theorem b_155_2 {sx : Int → Int} {L : Nat} {x1 : Int} {x2 : Int} {M : Mem} {Q : Option AV → Mem → Prop} 
    (h : (x2 ≤ (5 : Int) → Rn sx L K0 R0 155 6 [vR 106, vI x1, vI x2] [] M Q) ∧ (¬ (x2 ≤ (5 : Int)) → (¬ x2 = (6 : Int) → Rn sx L K0 R0 155 3 [vR 106, vI x1, vI x2] [] M Q) ∧ (¬ (¬ x2 = (6 : Int)) → ((0 : Int) ≤ x1 ∧ x1 < (8 : Int)) ∧ (Rn sx L K0 R0 155 5 [vR 106, vI x1, vI x2] [vI (M 111 x1)] M Q)))) : Rn sx L K0 R0 155 2 [vR 106, vI x1, vI x2] [] M Q := by
  refine Rn_w (by decide) ?_
  show wpc sx L K0 R0 155 [(20, 1, .iload_n 2, []), (21, 1, .iconst 5, []), (22, 3, .if_icmp .le 42, [6]), (25, 1, .iload_n 2, []), (26, 2, .bipush 6, []), (28, 3, .if_icmp .ne 12, [3]), (31, 1, .aload_n 0, []), (32, 3, .getfield 28, [9, 7, 1161]), (35, 1, .iload_n 1, []), (36, 1, .iaload, []), (37, 3, .goto 26, [5])] 0 [vR 106, vI x1, vI x2] [] M Q
  simp only [w_il_2, w_iconst, w_ic_le, w_bipush, w_ic_ne, w_al_0, w_gf_9_7, kin_T (ks_104), rs_104_7, w_il_1, w_iald, arr_T (ks_111), w_goto, true_and, and_true, true_or, or_true]
  exact h
theorem b_155_3 {sx : Int → Int} {L : Nat} {x1 : Int} {x2 : Int} {M : Mem} {Q : Option AV → Mem → Prop} 
    (h : (¬ x2 = (7 : Int) → Rn sx L K0 R0 155 4 [vR 106, vI x1, vI x2] [] M Q) ∧ (¬ (¬ x2 = (7 : Int)) → ((0 : Int) ≤ x1 ∧ x1 < (8 : Int)) ∧ (Rn sx L K0 R0 155 5 [vR 106, vI x1, vI x2] [vI (M 112 x1)] M Q))) : Rn sx L K0 R0 155 3 [vR 106, vI x1, vI x2] [] M Q := by
  refine Rn_w (by decide) ?_
  show wpc sx L K0 R0 155 [(40, 1, .iload_n 2, []), (41, 2, .bipush 7, []), (43, 3, .if_icmp .ne 12, [4]), (46, 1, .aload_n 0, []), (47, 3, .getfield 31, [9, 8, 1162]), (50, 1, .iload_n 1, []), (51, 1, .iaload, []), (52, 3, .goto 11, [5])] 0 [vR 106, vI x1, vI x2] [] M Q
  simp only [w_il_2, w_bipush, w_ic_ne, w_al_0, w_gf_9_8, kin_T (ks_104), rs_104_8, w_il_1, w_iald, arr_T (ks_112), w_goto, true_and, and_true, true_or, or_true]
  exact h
theorem b_155_4 {sx : Int → Int} {L : Nat} {x1 : Int} {x2 : Int} {M : Mem} {Q : Option AV → Mem → Prop} 
    (h : Mq sx L K0 R0 154 [vR 106] M (fun rv M1 => ∃ r1, rv = some (vI r1) ∧ (((0 : Int) ≤ r1 ∧ (0 : Int) ≤ x1 ∧ x1 ≤ (30 : Int)) ∧ (Rn sx L K0 R0 155 5 [vR 106, vI x1, vI x2] [vI (iAnd (r1 / 2 ^ (x1).toNat) 1)] M1 Q)))) : Rn sx L K0 R0 155 4 [vR 106, vI x1, vI x2] [] M Q := by
  refine Rn_w (by decide) ?_
  show wpc sx L K0 R0 155 [(55, 1, .aload_n 0, []), (56, 3, .invokevirtual 196, [154, 1417, 0]), (59, 1, .iload_n 1, []), (60, 1, .ishr, []), (61, 1, .iconst 1, []), (62, 1, .iand, [])] 5 [vR 106, vI x1, vI x2] [] M Q
  simp only [w_al_0, w_ivv_0  cs0, mk_154, kin_T (ks_104), rk_154, rvk1, List.cons_append, List.nil_append, w_il_1, w_ishr, w_iconst, w_iand, w_fall, true_and, and_true, true_or, or_true]
  exact h
theorem b_155_5 {sx : Int → Int} {L : Nat} {x1 : Int} {x2 : Int} {y0 : Int} {M : Mem} {Q : Option AV → Mem → Prop} 
    (h : Q (some (vI y0)) M) : Rn sx L K0 R0 155 5 [vR 106, vI x1, vI x2] [vI y0] M Q := by
  refine Rn_w (by decide) ?_
  show wpc sx L K0 R0 155 [(63, 1, .ireturn, [])] 0 [vR 106, vI x1, vI x2] [vI y0] M Q
  simp only [w_ret1 rk_155, true_and, and_true, true_or, or_true]
  exact h
theorem b_155_6 {sx : Int → Int} {L : Nat} {x1 : Int} {x2 : Int} {M : Mem} {Q : Option AV → Mem → Prop} 
    (h : Mq sx L K0 R0 152 [vR 106, vI x1] M (fun rv M1 => ∃ r1, rv = some (vI r1) ∧ ((r1 = (-1 : Int) → Rn sx L K0 R0 155 7 [vR 106, vI x1, vI x2] [] M1 Q) ∧ (¬ (r1 = (-1 : Int)) → Q (some (vI (-3))) M1)))) : Rn sx L K0 R0 155 6 [vR 106, vI x1, vI x2] [] M Q := by
  refine Rn_w (by decide) ?_
  show wpc sx L K0 R0 155 [(64, 1, .aload_n 0, []), (65, 1, .iload_n 1, []), (66, 3, .invokevirtual 190, [152, 1381, 1]), (69, 1, .iconst (-1), []), (70, 3, .if_icmp .eq 6, [7]), (73, 2, .bipush (-3), []), (75, 1, .ireturn, [])] 0 [vR 106, vI x1, vI x2] [] M Q
  simp only [w_al_0, w_il_1, w_ivv_1 (c2I _) cs0, mk_152, kin_T (ks_104), rk_152, rvk1, List.cons_append, List.nil_append, w_iconst, w_ic_eq, w_bipush, w_ret1 rk_155, true_and, and_true, true_or, or_true]
  exact h
theorem b_155_7 {sx : Int → Int} {L : Nat} {x1 : Int} {x2 : Int} {M : Mem} {Q : Option AV → Mem → Prop} 
    (h : (x2 < 0 ∨ 4 < x2 → Rn sx L K0 R0 155 13 [vR 106, vI x1, vI x2] [] M Q) ∧ (x2 = 0 → Rn sx L K0 R0 155 8 [vR 106, vI x1, vI x2] [] M Q) ∧ (x2 = 1 → Rn sx L K0 R0 155 9 [vR 106, vI x1, vI x2] [] M Q) ∧ (x2 = 2 → Rn sx L K0 R0 155 10 [vR 106, vI x1, vI x2] [] M Q) ∧ (x2 = 3 → Rn sx L K0 R0 155 11 [vR 106, vI x1, vI x2] [] M Q) ∧ (x2 = 4 → Rn sx L K0 R0 155 12 [vR 106, vI x1, vI x2] [] M Q)) : Rn sx L K0 R0 155 7 [vR 106, vI x1, vI x2] [] M Q := by
  refine Rn_w (by decide) ?_
  show wpc sx L K0 R0 155 [(76, 1, .iload_n 2, []), (77, 35, .tableswitch 69 0 4 #[35, 42, 49, 56, 62], [13, 8, 9, 10, 11, 12])] 0 [vR 106, vI x1, vI x2] [] M Q
  simp only [w_il_2, w_tsw, swt, true_and, and_true, true_or, or_true]
  exact h
theorem b_155_8 {sx : Int → Int} {L : Nat} {x1 : Int} {x2 : Int} {M : Mem} {Q : Option AV → Mem → Prop} 
    (h : ((0 : Int) ≤ x1 ∧ x1 < (8 : Int)) ∧ (Q (some (vI (M 114 x1))) M)) : Rn sx L K0 R0 155 8 [vR 106, vI x1, vI x2] [] M Q := by
  refine Rn_w (by decide) ?_
  show wpc sx L K0 R0 155 [(112, 1, .aload_n 0, []), (113, 3, .getfield 37, [9, 12, 1166]), (116, 1, .iload_n 1, []), (117, 1, .iaload, []), (118, 1, .ireturn, [])] 0 [vR 106, vI x1, vI x2] [] M Q
  simp only [w_al_0, w_gf_9_12, kin_T (ks_104), rs_104_12, w_il_1, w_iald, arr_T (ks_114), w_ret1 rk_155, true_and, and_true, true_or, or_true]
  exact h
theorem b_155_9 {sx : Int → Int} {L : Nat} {x1 : Int} {x2 : Int} {M : Mem} {Q : Option AV → Mem → Prop} 
    (h : ((0 : Int) ≤ x1 ∧ x1 < (8 : Int)) ∧ (Q (some (vI (M 115 x1))) M)) : Rn sx L K0 R0 155 9 [vR 106, vI x1, vI x2] [] M Q := by
  refine Rn_w (by decide) ?_
  show wpc sx L K0 R0 155 [(119, 1, .aload_n 0, []), (120, 3, .getfield 40, [9, 13, 1167]), (123, 1, .iload_n 1, []), (124, 1, .iaload, []), (125, 1, .ireturn, [])] 0 [vR 106, vI x1, vI x2] [] M Q
  simp only [w_al_0, w_gf_9_13, kin_T (ks_104), rs_104_13, w_il_1, w_iald, arr_T (ks_115), w_ret1 rk_155, true_and, and_true, true_or, or_true]
  exact h
theorem b_155_10 {sx : Int → Int} {L : Nat} {x1 : Int} {x2 : Int} {M : Mem} {Q : Option AV → Mem → Prop} 
    (h : ((0 : Int) ≤ x1 ∧ x1 < (8 : Int)) ∧ (Q (some (vI (M 116 x1))) M)) : Rn sx L K0 R0 155 10 [vR 106, vI x1, vI x2] [] M Q := by
  refine Rn_w (by decide) ?_
  show wpc sx L K0 R0 155 [(126, 1, .aload_n 0, []), (127, 3, .getfield 43, [9, 14, 1168]), (130, 1, .iload_n 1, []), (131, 1, .iaload, []), (132, 1, .ireturn, [])] 0 [vR 106, vI x1, vI x2] [] M Q
  simp only [w_al_0, w_gf_9_14, kin_T (ks_104), rs_104_14, w_il_1, w_iald, arr_T (ks_116), w_ret1 rk_155, true_and, and_true, true_or, or_true]
  exact h
theorem b_155_11 {sx : Int → Int} {L : Nat} {x1 : Int} {x2 : Int} {M : Mem} {Q : Option AV → Mem → Prop} 
    (h : Mq sx L K0 R0 151 [vR 106, vI x1] M (fun rv M1 => ∃ r1, rv = some (vI r1) ∧ (Q (some (vI r1)) M1))) : Rn sx L K0 R0 155 11 [vR 106, vI x1, vI x2] [] M Q := by
  refine Rn_w (by decide) ?_
  show wpc sx L K0 R0 155 [(133, 1, .aload_n 0, []), (134, 1, .iload_n 1, []), (135, 3, .invokevirtual 181, [151, 1409, 1]), (138, 1, .ireturn, [])] 0 [vR 106, vI x1, vI x2] [] M Q
  simp only [w_al_0, w_il_1, w_ivv_1 (c2I _) cs0, mk_151, kin_T (ks_104), rk_151, rvk1, List.cons_append, List.nil_append, w_ret1 rk_155, true_and, and_true, true_or, or_true]
  exact h
theorem b_155_12 {sx : Int → Int} {L : Nat} {x1 : Int} {x2 : Int} {M : Mem} {Q : Option AV → Mem → Prop} 
    (h : ((0 : Int) ≤ x1 ∧ x1 < (8 : Int)) ∧ (Q (some (vI (M 117 x1))) M)) : Rn sx L K0 R0 155 12 [vR 106, vI x1, vI x2] [] M Q := by
  refine Rn_w (by decide) ?_
  show wpc sx L K0 R0 155 [(139, 1, .aload_n 0, []), (140, 3, .getfield 46, [9, 15, 1169]), (143, 1, .iload_n 1, []), (144, 1, .iaload, []), (145, 1, .ireturn, [])] 0 [vR 106, vI x1, vI x2] [] M Q
  simp only [w_al_0, w_gf_9_15, kin_T (ks_104), rs_104_15, w_il_1, w_iald, arr_T (ks_117), w_ret1 rk_155, true_and, and_true, true_or, or_true]
  exact h
theorem b_155_13 {sx : Int → Int} {L : Nat} {x1 : Int} {x2 : Int} {M : Mem} {Q : Option AV → Mem → Prop} 
    (h : ((0 : Int) ≤ x1 ∧ x1 < (8 : Int)) ∧ (Q (some (vI (M 120 x1))) M)) : Rn sx L K0 R0 155 13 [vR 106, vI x1, vI x2] [] M Q := by
  refine Rn_w (by decide) ?_
  show wpc sx L K0 R0 155 [(146, 1, .aload_n 0, []), (147, 3, .getfield 55, [9, 18, 1172]), (150, 1, .iload_n 1, []), (151, 1, .iaload, []), (152, 1, .ireturn, [])] 0 [vR 106, vI x1, vI x2] [] M Q
  simp only [w_al_0, w_gf_9_18, kin_T (ks_104), rs_104_18, w_il_1, w_iald, arr_T (ks_120), w_ret1 rk_155, true_and, and_true, true_or, or_true]
  exact h
theorem b_156_0 {sx : Int → Int} {L : Nat} {x1 : Int} {x2 : Int} {x3 : Int} {M : Mem} {Q : Option AV → Mem → Prop} 
    (h : Mq sx L K0 R0 142 [vI x1] M (fun rv M1 => ∃ r1, rv = some (vI r1) ∧ ((r1 = (0 : Int) → Rn sx L K0 R0 156 1 [vR 106, vI x1, vI x2, vI x3, vU] [] M1 Q) ∧ (¬ (r1 = (0 : Int)) → Mq sx L K0 R0 137 [vI x2, vI 0, vI 1] M1 (fun rv M2 => ∃ r2, rv = some (vI r2) ∧ ((r2 = (0 : Int) → Rn sx L K0 R0 156 1 [vR 106, vI x1, vI x2, vI x3, vU] [] M2 Q) ∧ (¬ (r2 = (0 : Int)) → Mq sx L K0 R0 137 [vI x3, vI 0, vI 99] M2 (fun rv M3 => ∃ r3, rv = some (vI r3) ∧ ((¬ r3 = (0 : Int) → Rn sx L K0 R0 156 2 [vR 106, vI x1, vI x2, vI x3, vU] [] M3 Q) ∧ (¬ (¬ r3 = (0 : Int)) → Rn sx L K0 R0 156 1 [vR 106, vI x1, vI x2, vI x3, vU] [] M3 Q)))))))))) : Rn sx L K0 R0 156 0 [vR 106, vI x1, vI x2, vI x3, vU] [] M Q := by
  refine Rn_w (by decide) ?_
  show wpc sx L K0 R0 156 [(0, 1, .iload_n 1, []), (1, 3, .invokestatic 152, [142, 1370, 1]), (4, 3, .ifCond .eq 22, [1]), (7, 1, .iload_n 2, []), (8, 1, .iconst 0, []), (9, 1, .iconst 1, []), (10, 3, .invokestatic 135, [137, 1355, 3]), (13, 3, .ifCond .eq 13, [1]), (16, 1, .iload_n 3, []), (17, 1, .iconst 0, []), (18, 2, .bipush 99, []), (20, 3, .invokestatic 135, [137, 1355, 3]), (23, 3, .ifCond .ne 6, [2])] 1 [vR 106, vI x1, vI x2, vI x3, vU] [] M Q
  simp only [w_il_1, w_ivs_1 (c2I _) cs0, rk_142, rvk2, List.cons_append, List.nil_append, w_if_eq, w_il_2, w_iconst, w_ivs_3 (c2I _) (c2I _) (c2I _) cs0, rk_137, w_il_3, w_bipush, w_if_ne, w_fall, true_and, and_true, true_or, or_true]
  exact h
theorem b_156_1 {sx : Int → Int} {L : Nat} {x1 : Int} {x2 : Int} {x3 : Int} {M : Mem} {Q : Option AV → Mem → Prop} 
    (h : Q (some (vI (-2))) M) : Rn sx L K0 R0 156 1 [vR 106, vI x1, vI x2, vI x3, vU] [] M Q := by
  refine Rn_w (by decide) ?_
  show wpc sx L K0 R0 156 [(26, 2, .bipush (-2), []), (28, 1, .ireturn, [])] 0 [vR 106, vI x1, vI x2, vI x3, vU] [] M Q
  simp only [w_bipush, w_ret1 rk_156, true_and, and_true, true_or, or_true]
  exact h
theorem b_156_2 {sx : Int → Int} {L : Nat} {x1 : Int} {x2 : Int} {x3 : Int} {M : Mem} {Q : Option AV → Mem → Prop} 
    (h : (¬ x2 = (0 : Int) → Rn sx L K0 R0 156 3 [vR 106, vI x1, vI x2, vI x3, vU] [] M Q) ∧ (¬ (¬ x2 = (0 : Int)) → ((0 : Int) ≤ x1 ∧ x1 < (8 : Int)) ∧ (Rn sx L K0 R0 156 4 [vR 106, vI x1, vI x2, vI x3, vU] [vI (M 111 x1)] M Q))) : Rn sx L K0 R0 156 2 [vR 106, vI x1, vI x2, vI x3, vU] [] M Q := by
  refine Rn_w (by decide) ?_
  show wpc sx L K0 R0 156 [(29, 1, .iload_n 2, []), (30, 3, .ifCond .ne 12, [3]), (33, 1, .aload_n 0, []), (34, 3, .getfield 28, [9, 7, 1161]), (37, 1, .iload_n 1, []), (38, 1, .iaload, []), (39, 3, .goto 9, [4])] 0 [vR 106, vI x1, vI x2, vI x3, vU] [] M Q
  simp only [w_il_2, w_if_ne, w_al_0, w_gf_9_7, kin_T (ks_104), rs_104_7, w_il_1, w_iald, arr_T (ks_111), w_goto, true_and, and_true, true_or, or_true]
  exact h
theorem b_156_3 {sx : Int → Int} {L : Nat} {x1 : Int} {x2 : Int} {x3 : Int} {M : Mem} {Q : Option AV → Mem → Prop} 
    (h : ((0 : Int) ≤ x1 ∧ x1 < (8 : Int)) ∧ (Rn sx L K0 R0 156 4 [vR 106, vI x1, vI x2, vI x3, vU] [vI (M 112 x1)] M Q)) : Rn sx L K0 R0 156 3 [vR 106, vI x1, vI x2, vI x3, vU] [] M Q := by
  refine Rn_w (by decide) ?_
  show wpc sx L K0 R0 156 [(42, 1, .aload_n 0, []), (43, 3, .getfield 31, [9, 8, 1162]), (46, 1, .iload_n 1, []), (47, 1, .iaload, [])] 4 [vR 106, vI x1, vI x2, vI x3, vU] [] M Q
  simp only [w_al_0, w_gf_9_8, kin_T (ks_104), rs_104_8, w_il_1, w_iald, arr_T (ks_112), w_fall, true_and, and_true, true_or, or_true]
  exact h
theorem b_156_4 {sx : Int → Int} {L : Nat} {x1 : Int} {x2 : Int} {x3 : Int} {y0 : Int} {M : Mem} {Q : Option AV → Mem → Prop} 
    (h : (¬ x2 = (0 : Int) → Rn sx L K0 R0 156 5 [vR 106, vI x1, vI x2, vI x3, vI y0] [vI x1, vR 113] M Q) ∧ (¬ (¬ x2 = (0 : Int)) → Rn sx L K0 R0 156 6 [vR 106, vI x1, vI x2, vI x3, vI y0] [vI x3, vI x1, vR 113] M Q)) : Rn sx L K0 R0 156 4 [vR 106, vI x1, vI x2, vI x3, vU] [vI y0] M Q := by
  refine Rn_w (by decide) ?_
  show wpc sx L K0 R0 156 [(48, 2, .istore 4, []), (50, 1, .aload_n 0, []), (51, 3, .getfield 28, [9, 7, 1161]), (54, 1, .iload_n 1, []), (55, 1, .iload_n 2, []), (56, 3, .ifCond .ne 7, [5]), (59, 1, .iload_n 3, []), (60, 3, .goto 9, [6])] 0 [vR 106, vI x1, vI x2, vI x3, vU] [vI y0] M Q
  simp only [w_is_4 (c2I _), w_al_0, w_gf_9_7, kin_T (ks_104), rs_104_7, w_il_1, w_il_2, w_if_ne, w_il_3, w_goto, true_and, and_true, true_or, or_true]
  exact h
theorem b_156_5 {sx : Int → Int} {L : Nat} {x1 : Int} {x2 : Int} {x3 : Int} {x4 : Int} {y1 : Int} {M : Mem} {Q : Option AV → Mem → Prop} 
    (h : ((0 : Int) ≤ x1 ∧ x1 < (8 : Int)) ∧ (Rn sx L K0 R0 156 6 [vR 106, vI x1, vI x2, vI x3, vI x4] [vI (M 111 x1), vI y1, vR 113] M Q)) : Rn sx L K0 R0 156 5 [vR 106, vI x1, vI x2, vI x3, vI x4] [vI y1, vR 113] M Q := by
  refine Rn_w (by decide) ?_
  show wpc sx L K0 R0 156 [(63, 1, .aload_n 0, []), (64, 3, .getfield 28, [9, 7, 1161]), (67, 1, .iload_n 1, []), (68, 1, .iaload, [])] 6 [vR 106, vI x1, vI x2, vI x3, vI x4] [vI y1, vR 113] M Q
  simp only [w_al_0, w_gf_9_7, kin_T (ks_104), rs_104_7, w_il_1, w_iald, arr_T (ks_111), w_fall, true_and, and_true, true_or, or_true]
  exact h
theorem b_156_6 {sx : Int → Int} {L : Nat} {x1 : Int} {x2 : Int} {x3 : Int} {x4 : Int} {y1 : Int} {y2 : Int} {M : Mem} {Q : Option AV → Mem → Prop} 
    (h : ((0 : Int) ≤ y1 ∧ y1 < (8 : Int)) ∧ ((¬ x2 = (1 : Int) → Rn sx L K0 R0 156 7 [vR 106, vI x1, vI x2, vI x3, vI x4] [vI x1, vR 114] (mset M 111 y1 y2) Q) ∧ (¬ (¬ x2 = (1 : Int)) → Rn sx L K0 R0 156 8 [vR 106, vI x1, vI x2, vI x3, vI x4] [vI x3, vI x1, vR 114] (mset M 111 y1 y2) Q))) : Rn sx L K0 R0 156 6 [vR 106, vI x1, vI x2, vI x3, vI x4] [vI y2, vI y1, vR 113] M Q := by
  refine Rn_w (by decide) ?_
  show wpc sx L K0 R0 156 [(69, 1, .iastore, []), (70, 1, .aload_n 0, []), (71, 3, .getfield 31, [9, 8, 1162]), (74, 1, .iload_n 1, []), (75, 1, .iload_n 2, []), (76, 1, .iconst 1, []), (77, 3, .if_icmp .ne 7, [7]), (80, 1, .iload_n 3, []), (81, 3, .goto 9, [8])] 0 [vR 106, vI x1, vI x2, vI x3, vI x4] [vI y2, vI y1, vR 113] M Q
  simp only [w_iast, arr_T (ks_111), w_al_0, w_gf_9_8, kin_T (ks_104), rs_104_8, w_il_1, w_il_2, w_iconst, w_ic_ne, w_il_3, w_goto, true_and, and_true, true_or, or_true]
  exact h
theorem b_156_7 {sx : Int → Int} {L : Nat} {x1 : Int} {x2 : Int} {x3 : Int} {x4 : Int} {y1 : Int} {M : Mem} {Q : Option AV → Mem → Prop} 
    (h : ((0 : Int) ≤ x1 ∧ x1 < (8 : Int)) ∧ (Rn sx L K0 R0 156 8 [vR 106, vI x1, vI x2, vI x3, vI x4] [vI (M 112 x1), vI y1, vR 114] M Q)) : Rn sx L K0 R0 156 7 [vR 106, vI x1, vI x2, vI x3, vI x4] [vI y1, vR 114] M Q := by
  refine Rn_w (by decide) ?_
  show wpc sx L K0 R0 156 [(84, 1, .aload_n 0, []), (85, 3, .getfield 31, [9, 8, 1162]), (88, 1, .iload_n 1, []), (89, 1, .iaload, [])] 8 [vR 106, vI x1, vI x2, vI x3, vI x4] [vI y1, vR 114] M Q
  simp only [w_al_0, w_gf_9_8, kin_T (ks_104), rs_104_8, w_il_1, w_iald, arr_T (ks_112), w_fall, true_and, and_true, true_or, or_true]
  exact h
theorem b_156_8 {sx : Int → Int} {L : Nat} {x1 : Int} {x2 : Int} {x3 : Int} {x4 : Int} {y1 : Int} {y2 : Int} {M : Mem} {Q : Option AV → Mem → Prop} 
    (h : ((0 : Int) ≤ y1 ∧ y1 < (8 : Int)) ∧ (Q (some (vI x4)) (mset (mset M 112 y1 y2) 104 26 0))) : Rn sx L K0 R0 156 8 [vR 106, vI x1, vI x2, vI x3, vI x4] [vI y2, vI y1, vR 114] M Q := by
  refine Rn_w (by decide) ?_
  show wpc sx L K0 R0 156 [(90, 1, .iastore, []), (91, 1, .aload_n 0, []), (92, 1, .iconst 0, []), (93, 3, .putfield 145, [9, 26, 1180]), (96, 2, .iload 4, []), (98, 1, .ireturn, [])] 0 [vR 106, vI x1, vI x2, vI x3, vI x4] [vI y2, vI y1, vR 114] M Q
  simp only [w_iast, arr_T (ks_112), w_al_0, w_iconst, w_pf_9_26, kin_T (ks_104), b01_0, w_il_4, w_ret1 rk_156, true_and, and_true, true_or, or_true]
  exact h
theorem b_157_0 {sx : Int → Int} {L : Nat} {x1 : Int} {x2 : Int} {M : Mem} {Q : Option AV → Mem → Prop} 
    (h : Mq sx L K0 R0 142 [vI x1] M (fun rv M1 => ∃ r1, rv = some (vI r1) ∧ ((¬ r1 = (0 : Int) → Rn sx L K0 R0 157 1 [vR 106, vI x1, vI x2, vU] [] M1 Q) ∧ (¬ (¬ r1 = (0 : Int)) → Q (some (vI (-2))) M1)))) : Rn sx L K0 R0 157 0 [vR 106, vI x1, vI x2, vU] [] M Q := by
  refine Rn_w (by decide) ?_
  show wpc sx L K0 R0 157 [(0, 1, .iload_n 1, []), (1, 3, .invokestatic 152, [142, 1370, 1]), (4, 3, .ifCond .ne 6, [1]), (7, 2, .bipush (-2), []), (9, 1, .ireturn, [])] 0 [vR 106, vI x1, vI x2, vU] [] M Q
  simp only [w_il_1, w_ivs_1 (c2I _) cs0, rk_142, rvk2, List.cons_append, List.nil_append, w_if_ne, w_bipush, w_ret1 rk_157, true_and, and_true, true_or, or_true]
  exact h
theorem b_157_1 {sx : Int → Int} {L : Nat} {x1 : Int} {x2 : Int} {M : Mem} {Q : Option AV → Mem → Prop} 
    (h : ((0 : Int) ≤ M 104 9 ∧ (0 : Int) ≤ x1 ∧ x1 ≤ (30 : Int)) ∧ ((¬ iAnd ((M 104 9) / 2 ^ (x1).toNat) 1 = (1 : Int) → Rn sx L K0 R0 157 2 [vR 106, vI x1, vI x2, vU] [] M Q) ∧ (¬ (¬ iAnd ((M 104 9) / 2 ^ (x1).toNat) 1 = (1 : Int)) → Rn sx L K0 R0 157 3 [vR 106, vI x1, vI x2, vU] [vI 1] M Q))) : Rn sx L K0 R0 157 1 [vR 106, vI x1, vI x2, vU] [] M Q := by
  refine Rn_w (by decide) ?_
  show wpc sx L K0 R0 157 [(10, 1, .aload_n 0, []), (11, 3, .getfield 193, [9, 9, 1163]), (14, 1, .iload_n 1, []), (15, 1, .ishr, []), (16, 1, .iconst 1, []), (17, 1, .iand, []), (18, 1, .iconst 1, []), (19, 3, .if_icmp .ne 7, [2]), (22, 1, .iconst 1, []), (23, 3, .goto 4, [3])] 0 [vR 106, vI x1, vI x2, vU] [] M Q
  simp only [w_al_0, w_gf_9_9, kin_T (ks_104), w_il_1, w_ishr, w_iconst, w_iand, w_ic_ne, w_goto, true_and, and_true, true_or, or_true]
  exact h
theorem b_157_2 {sx : Int → Int} {L : Nat} {x1 : Int} {x2 : Int} {M : Mem} {Q : Option AV → Mem → Prop} 
    (h : Rn sx L K0 R0 157 3 [vR 106, vI x1, vI x2, vU] [vI 0] M Q) : Rn sx L K0 R0 157 2 [vR 106, vI x1, vI x2, vU] [] M Q := by
  refine Rn_w (by decide) ?_
  show wpc sx L K0 R0 157 [(26, 1, .iconst 0, [])] 3 [vR 106, vI x1, vI x2, vU] [] M Q
  simp only [w_iconst, w_fall, true_and, and_true, true_or, or_true]
  exact h
theorem b_157_3 {sx : Int → Int} {L : Nat} {x1 : Int} {x2 : Int} {y0 : Int} {M : Mem} {Q : Option AV → Mem → Prop} 
    (h : (¬ y0 = x2 → Rn sx L K0 R0 157 4 [vR 106, vI x1, vI x2, vU] [] M Q) ∧ (¬ (¬ y0 = x2) → Rn sx L K0 R0 157 5 [vR 106, vI x1, vI x2, vU] [vI 1] M Q)) : Rn sx L K0 R0 157 3 [vR 106, vI x1, vI x2, vU] [vI y0] M Q := by
  refine Rn_w (by decide) ?_
  show wpc sx L K0 R0 157 [(27, 1, .iload_n 2, []), (28, 3, .if_icmp .ne 7, [4]), (31, 1, .iconst 1, []), (32, 3, .goto 4, [5])] 0 [vR 106, vI x1, vI x2, vU] [vI y0] M Q
  simp only [w_il_2, w_ic_ne, w_iconst, w_goto, true_and, and_true, true_or, or_true]
  exact h
theorem b_157_4 {sx : Int → Int} {L : Nat} {x1 : Int} {x2 : Int} {M : Mem} {Q : Option AV → Mem → Prop} 
    (h : Rn sx L K0 R0 157 5 [vR 106, vI x1, vI x2, vU] [vI 0] M Q) : Rn sx L K0 R0 157 4 [vR 106, vI x1, vI x2, vU] [] M Q := by
  refine Rn_w (by decide) ?_
  show wpc sx L K0 R0 157 [(35, 1, .iconst 0, [])] 5 [vR 106, vI x1, vI x2, vU] [] M Q
  simp only [w_iconst, w_fall, true_and, and_true, true_or, or_true]
  exact h
theorem b_157_5 {sx : Int → Int} {L : Nat} {x1 : Int} {x2 : Int} {y0 : Int} {M : Mem} {Q : Option AV → Mem → Prop} 
    (h : (x2 = (0 : Int) → Rn sx L K0 R0 157 6 [vR 106, vI x1, vI x2, vI y0] [vR 106] M Q) ∧ (¬ (x2 = (0 : Int)) → ((0 : Int) ≤ (1 : Int) ∧ (0 : Int) ≤ x1 ∧ x1 ≤ (30 : Int) ∧ (1 : Int) * 2 ^ (x1).toNat ≤ (2147483647 : Int)) ∧ (Rn sx L K0 R0 157 7 [vR 106, vI x1, vI x2, vI y0] [vI (iOr (M 104 9) ((1 : Int) * 2 ^ (x1).toNat)), vR 106] M Q))) : Rn sx L K0 R0 157 5 [vR 106, vI x1, vI x2, vU] [vI y0] M Q := by
  refine Rn_w (by decide) ?_
  show wpc sx L K0 R0 157 [(36, 1, .istore_n 3, []), (37, 1, .aload_n 0, []), (38, 1, .iload_n 2, []), (39, 3, .ifCond .eq 14, [6]), (42, 1, .aload_n 0, []), (43, 3, .getfield 193, [9, 9, 1163]), (46, 1, .iconst 1, []), (47, 1, .iload_n 1, []), (48, 1, .ishl, []), (49, 1, .ior, []), (50, 3, .goto 13, [7])] 0 [vR 106, vI x1, vI x2, vU] [vI y0] M Q
  simp only [w_is_3 (c2I _), w_al_0, w_il_2, w_if_eq, w_gf_9_9, kin_T (ks_104), w_iconst, w_il_1, w_ishl, w_ior, w_goto, true_and, and_true, true_or, or_true]
  exact h
theorem b_157_6 {sx : Int → Int} {L : Nat} {x1 : Int} {x2 : Int} {x3 : Int} {M : Mem} {Q : Option AV → Mem → Prop} 
    (h : ((0 : Int) ≤ (1 : Int) ∧ (0 : Int) ≤ x1 ∧ x1 ≤ (30 : Int) ∧ (1 : Int) * 2 ^ (x1).toNat ≤ (2147483647 : Int)) ∧ (Rn sx L K0 R0 157 7 [vR 106, vI x1, vI x2, vI x3] [vI (iAnd (M 104 9) (iXor ((1 : Int) * 2 ^ (x1).toNat) (-1))), vR 106] M Q)) : Rn sx L K0 R0 157 6 [vR 106, vI x1, vI x2, vI x3] [vR 106] M Q := by
  refine Rn_w (by decide) ?_
  show wpc sx L K0 R0 157 [(53, 1, .aload_n 0, []), (54, 3, .getfield 193, [9, 9, 1163]), (57, 1, .iconst 1, []), (58, 1, .iload_n 1, []), (59, 1, .ishl, []), (60, 1, .iconst (-1), []), (61, 1, .ixor, []), (62, 1, .iand, [])] 7 [vR 106, vI x1, vI x2, vI x3] [vR 106] M Q
  simp only [w_al_0, w_gf_9_9, kin_T (ks_104), w_iconst, w_il_1, w_ishl, w_ixor, w_iand, w_fall, true_and, and_true, true_or, or_true]
  exact h
theorem b_157_7 {sx : Int → Int} {L : Nat} {x1 : Int} {x2 : Int} {x3 : Int} {y1 : Int} {M : Mem} {Q : Option AV → Mem → Prop} 
    (h : (x3 = (0 : Int) → Rn sx L K0 R0 157 8 [vR 106, vI x1, vI x2, vI x3] [] (mset (mset M 104 9 y1) 104 26 0) Q) ∧ (¬ (x3 = (0 : Int)) → Rn sx L K0 R0 157 9 [vR 106, vI x1, vI x2, vI x3] [vI 0] (mset (mset M 104 9 y1) 104 26 0) Q)) : Rn sx L K0 R0 157 7 [vR 106, vI x1, vI x2, vI x3] [vI y1, vR 106] M Q := by
  refine Rn_w (by decide) ?_
  show wpc sx L K0 R0 157 [(63, 3, .putfield 193, [9, 9, 1163]), (66, 1, .aload_n 0, []), (67, 1, .iconst 0, []), (68, 3, .putfield 145, [9, 26, 1180]), (71, 1, .iload_n 3, []), (72, 3, .ifCond .eq 7, [8]), (75, 1, .iconst 0, []), (76, 3, .goto 4, [9])] 0 [vR 106, vI x1, vI x2, vI x3] [vI y1, vR 106] M Q
  simp only [w_pf_9_9, kin_T (ks_104), w_al_0, w_iconst, w_pf_9_26, b01_0, w_il_3, w_if_eq, w_goto, true_and, and_true, true_or, or_true]
  exact h
theorem b_157_8 {sx : Int → Int} {L : Nat} {x1 : Int} {x2 : Int} {x3 : Int} {M : Mem} {Q : Option AV → Mem → Prop} 
    (h : Rn sx L K0 R0 157 9 [vR 106, vI x1, vI x2, vI x3] [vI 1] M Q) : Rn sx L K0 R0 157 8 [vR 106, vI x1, vI x2, vI x3] [] M Q := by
  refine Rn_w (by decide) ?_
  show wpc sx L K0 R0 157 [(79, 1, .iconst 1, [])] 9 [vR 106, vI x1, vI x2, vI x3] [] M Q
  simp only [w_iconst, w_fall, true_and, and_true, true_or, or_true]
  exact h
theorem b_157_9 {sx : Int → Int} {L : Nat} {x1 : Int} {x2 : Int} {x3 : Int} {y0 : Int} {M : Mem} {Q : Option AV → Mem → Prop} 
    (h : Q (some (vI y0)) M) : Rn sx L K0 R0 157 9 [vR 106, vI x1, vI x2, vI x3] [vI y0] M Q := by
  refine Rn_w (by decide) ?_
  show wpc sx L K0 R0 157 [(80, 1, .ireturn, [])] 0 [vR 106, vI x1, vI x2, vI x3] [vI y0] M Q
  simp only [w_ret1 rk_157, true_and, and_true, true_or, or_true]
  exact h
theorem b_158_0 {sx : Int → Int} {L : Nat} {x1 : Int} {x2 : Int} {M : Mem} {Q : Option AV → Mem → Prop} 
    (h : (x1 = (0 : Int) → Rn sx L K0 R0 158 1 [vR 106, vI x1, vI x2, vU, vU] [] M Q) ∧ (¬ (x1 = (0 : Int)) → (¬ x1 = (1 : Int) → Rn sx L K0 R0 158 2 [vR 106, vI x1, vI x2, vU, vU] [] M Q) ∧ (¬ (¬ x1 = (1 : Int)) → Rn sx L K0 R0 158 1 [vR 106, vI x1, vI x2, vU, vU] [] M Q))) : Rn sx L K0 R0 158 0 [vR 106, vI x1, vI x2, vU, vU] [] M Q := by
  refine Rn_w (by decide) ?_
  show wpc sx L K0 R0 158 [(0, 1, .iload_n 1, []), (1, 3, .ifCond .eq 8, [1]), (4, 1, .iload_n 1, []), (5, 1, .iconst 1, []), (6, 3, .if_icmp .ne 12, [2])] 1 [vR 106, vI x1, vI x2, vU, vU] [] M Q
  simp only [w_il_1, w_if_eq, w_iconst, w_ic_ne, w_fall, true_and, and_true, true_or, or_true]
  exact h
theorem b_158_1 {sx : Int → Int} {L : Nat} {x1 : Int} {x2 : Int} {M : Mem} {Q : Option AV → Mem → Prop} 
    (h : Mq sx L K0 R0 137 [vI x2, vI 0, vI 2] M (fun rv M1 => ∃ r1, rv = some (vI r1) ∧ (Rn sx L K0 R0 158 5 [vR 106, vI x1, vI x2, vU, vU] [vI r1] M1 Q))) : Rn sx L K0 R0 158 1 [vR 106, vI x1, vI x2, vU, vU] [] M Q := by
  refine Rn_w (by decide) ?_
  show wpc sx L K0 R0 158 [(9, 1, .iload_n 2, []), (10, 1, .iconst 0, []), (11, 1, .iconst 2, []), (12, 3, .invokestatic 135, [137, 1355, 3]), (15, 3, .goto 37, [5])] 0 [vR 106, vI x1, vI x2, vU, vU] [] M Q
  simp only [w_il_2, w_iconst, w_ivs_3 (c2I _) (c2I _) (c2I _) cs0, rk_137, rvk2, List.cons_append, List.nil_append, w_goto, true_and, and_true, true_or, or_true]
  exact h
theorem b_158_2 {sx : Int → Int} {L : Nat} {x1 : Int} {x2 : Int} {M : Mem} {Q : Option AV → Mem → Prop} 
    (h : (¬ x1 = (2 : Int) → Rn sx L K0 R0 158 3 [vR 106, vI x1, vI x2, vU, vU] [] M Q) ∧ (¬ (¬ x1 = (2 : Int)) → Mq sx L K0 R0 137 [vI x2, vI 1, vI 3] M (fun rv M1 => ∃ r1, rv = some (vI r1) ∧ (Rn sx L K0 R0 158 5 [vR 106, vI x1, vI x2, vU, vU] [vI r1] M1 Q)))) : Rn sx L K0 R0 158 2 [vR 106, vI x1, vI x2, vU, vU] [] M Q := by
  refine Rn_w (by decide) ?_
  show wpc sx L K0 R0 158 [(18, 1, .iload_n 1, []), (19, 1, .iconst 2, []), (20, 3, .if_icmp .ne 12, [3]), (23, 1, .iload_n 2, []), (24, 1, .iconst 1, []), (25, 1, .iconst 3, []), (26, 3, .invokestatic 135, [137, 1355, 3]), (29, 3, .goto 23, [5])] 0 [vR 106, vI x1, vI x2, vU, vU] [] M Q
  simp only [w_il_1, w_iconst, w_ic_ne, w_il_2, w_ivs_3 (c2I _) (c2I _) (c2I _) cs0, rk_137, rvk2, List.cons_append, List.nil_append, w_goto, true_and, and_true, true_or, or_true]
  exact h
theorem b_158_3 {sx : Int → Int} {L : Nat} {x1 : Int} {x2 : Int} {M : Mem} {Q : Option AV → Mem → Prop} 
    (h : (¬ x1 = (3 : Int) → Rn sx L K0 R0 158 4 [vR 106, vI x1, vI x2, vU, vU] [] M Q) ∧ (¬ (¬ x1 = (3 : Int)) → Mq sx L K0 R0 137 [vI x2, vI 1, vI 120] M (fun rv M1 => ∃ r1, rv = some (vI r1) ∧ ((r1 = (0 : Int) → Rn sx L K0 R0 158 4 [vR 106, vI x1, vI x2, vU, vU] [] M1 Q) ∧ (¬ (r1 = (0 : Int)) → Rn sx L K0 R0 158 5 [vR 106, vI x1, vI x2, vU, vU] [vI 1] M1 Q))))) : Rn sx L K0 R0 158 3 [vR 106, vI x1, vI x2, vU, vU] [] M Q := by
  refine Rn_w (by decide) ?_
  show wpc sx L K0 R0 158 [(32, 1, .iload_n 1, []), (33, 1, .iconst 3, []), (34, 3, .if_icmp .ne 17, [4]), (37, 1, .iload_n 2, []), (38, 1, .iconst 1, []), (39, 2, .bipush 120, []), (41, 3, .invokestatic 135, [137, 1355, 3]), (44, 3, .ifCond .eq 7, [4]), (47, 1, .iconst 1, []), (48, 3, .goto 4, [5])] 0 [vR 106, vI x1, vI x2, vU, vU] [] M Q
  simp only [w_il_1, w_iconst, w_ic_ne, w_il_2, w_bipush, w_ivs_3 (c2I _) (c2I _) (c2I _) cs0, rk_137, rvk2, List.cons_append, List.nil_append, w_if_eq, w_goto, true_and, and_true, true_or, or_true]
  exact h
theorem b_158_4 {sx : Int → Int} {L : Nat} {x1 : Int} {x2 : Int} {M : Mem} {Q : Option AV → Mem → Prop} 
    (h : Rn sx L K0 R0 158 5 [vR 106, vI x1, vI x2, vU, vU] [vI 0] M Q) : Rn sx L K0 R0 158 4 [vR 106, vI x1, vI x2, vU, vU] [] M Q := by
  refine Rn_w (by decide) ?_
  show wpc sx L K0 R0 158 [(51, 1, .iconst 0, [])] 5 [vR 106, vI x1, vI x2, vU, vU] [] M Q
  simp only [w_iconst, w_fall, true_and, and_true, true_or, or_true]
  exact h
theorem b_158_5 {sx : Int → Int} {L : Nat} {x1 : Int} {x2 : Int} {y0 : Int} {M : Mem} {Q : Option AV → Mem → Prop} 
    (h : (¬ y0 = (0 : Int) → Rn sx L K0 R0 158 6 [vR 106, vI x1, vI x2, vI y0, vU] [] M Q) ∧ (¬ (¬ y0 = (0 : Int)) → Q (some (vI (-2))) M)) : Rn sx L K0 R0 158 5 [vR 106, vI x1, vI x2, vU, vU] [vI y0] M Q := by
  refine Rn_w (by decide) ?_
  show wpc sx L K0 R0 158 [(52, 1, .istore_n 3, []), (53, 1, .iload_n 3, []), (54, 3, .ifCond .ne 6, [6]), (57, 2, .bipush (-2), []), (59, 1, .ireturn, [])] 0 [vR 106, vI x1, vI x2, vU, vU] [vI y0] M Q
  simp only [w_is_3 (c2I _), w_il_3, w_if_ne, w_bipush, w_ret1 rk_158, true_and, and_true, true_or, or_true]
  exact h
theorem b_158_6 {sx : Int → Int} {L : Nat} {x1 : Int} {x2 : Int} {x3 : Int} {M : Mem} {Q : Option AV → Mem → Prop} 
    (h : (¬ x1 = (0 : Int) → Rn sx L K0 R0 158 7 [vR 106, vI x1, vI x2, vI x3, vU] [] M Q) ∧ (¬ (¬ x1 = (0 : Int)) → Rn sx L K0 R0 158 10 [vR 106, vI x1, vI x2, vI x3, vU] [vI (M 104 22)] M Q)) : Rn sx L K0 R0 158 6 [vR 106, vI x1, vI x2, vI x3, vU] [] M Q := by
  refine Rn_w (by decide) ?_
  show wpc sx L K0 R0 158 [(60, 1, .iload_n 1, []), (61, 3, .ifCond .ne 10, [7]), (64, 1, .aload_n 0, []), (65, 3, .getfield 199, [9, 22, 1176]), (68, 3, .goto 31, [10])] 0 [vR 106, vI x1, vI x2, vI x3, vU] [] M Q
  simp only [w_il_1, w_if_ne, w_al_0, w_gf_9_22, kin_T (ks_104), w_goto, true_and, and_true, true_or, or_true]
  exact h
theorem b_158_7 {sx : Int → Int} {L : Nat} {x1 : Int} {x2 : Int} {x3 : Int} {M : Mem} {Q : Option AV → Mem → Prop} 
    (h : (¬ x1 = (1 : Int) → Rn sx L K0 R0 158 8 [vR 106, vI x1, vI x2, vI x3, vU] [] M Q) ∧ (¬ (¬ x1 = (1 : Int)) → Rn sx L K0 R0 158 10 [vR 106, vI x1, vI x2, vI x3, vU] [vI (M 104 23)] M Q)) : Rn sx L K0 R0 158 7 [vR 106, vI x1, vI x2, vI x3, vU] [] M Q := by
  refine Rn_w (by decide) ?_
  show wpc sx L K0 R0 158 [(71, 1, .iload_n 1, []), (72, 1, .iconst 1, []), (73, 3, .if_icmp .ne 10, [8]), (76, 1, .aload_n 0, []), (77, 3, .getfield 202, [9, 23, 1177]), (80, 3, .goto 19, [10])] 0 [vR 106, vI x1, vI x2, vI x3, vU] [] M Q
  simp only [w_il_1, w_iconst, w_ic_ne, w_al_0, w_gf_9_23, kin_T (ks_104), w_goto, true_and, and_true, true_or, or_true]
  exact h
theorem b_158_8 {sx : Int → Int} {L : Nat} {x1 : Int} {x2 : Int} {x3 : Int} {M : Mem} {Q : Option AV → Mem → Prop} 
    (h : (¬ x1 = (2 : Int) → Rn sx L K0 R0 158 9 [vR 106, vI x1, vI x2, vI x3, vU] [] M Q) ∧ (¬ (¬ x1 = (2 : Int)) → Rn sx L K0 R0 158 10 [vR 106, vI x1, vI x2, vI x3, vU] [vI (M 104 24)] M Q)) : Rn sx L K0 R0 158 8 [vR 106, vI x1, vI x2, vI x3, vU] [] M Q := by
  refine Rn_w (by decide) ?_
  show wpc sx L K0 R0 158 [(83, 1, .iload_n 1, []), (84, 1, .iconst 2, []), (85, 3, .if_icmp .ne 10, [9]), (88, 1, .aload_n 0, []), (89, 3, .getfield 58, [9, 24, 1178]), (92, 3, .goto 7, [10])] 0 [vR 106, vI x1, vI x2, vI x3, vU] [] M Q
  simp only [w_il_1, w_iconst, w_ic_ne, w_al_0, w_gf_9_24, kin_T (ks_104), w_goto, true_and, and_true, true_or, or_true]
  exact h
theorem b_158_9 {sx : Int → Int} {L : Nat} {x1 : Int} {x2 : Int} {x3 : Int} {M : Mem} {Q : Option AV → Mem → Prop} 
    (h : Rn sx L K0 R0 158 10 [vR 106, vI x1, vI x2, vI x3, vU] [vI (M 104 25)] M Q) : Rn sx L K0 R0 158 9 [vR 106, vI x1, vI x2, vI x3, vU] [] M Q := by
  refine Rn_w (by decide) ?_
  show wpc sx L K0 R0 158 [(95, 1, .aload_n 0, []), (96, 3, .getfield 62, [9, 25, 1179])] 10 [vR 106, vI x1, vI x2, vI x3, vU] [] M Q
  simp only [w_al_0, w_gf_9_25, kin_T (ks_104), w_fall, true_and, and_true, true_or, or_true]
  exact h
theorem b_158_10 {sx : Int → Int} {L : Nat} {x1 : Int} {x2 : Int} {x3 : Int} {y0 : Int} {M : Mem} {Q : Option AV → Mem → Prop} 
    (h : (¬ x1 = (0 : Int) → Rn sx L K0 R0 158 11 [vR 106, vI x1, vI x2, vI x3, vI y0] [vR 106] M Q) ∧ (¬ (¬ x1 = (0 : Int)) → Rn sx L K0 R0 158 12 [vR 106, vI x1, vI x2, vI x3, vI y0] [vI x2, vR 106] M Q)) : Rn sx L K0 R0 158 10 [vR 106, vI x1, vI x2, vI x3, vU] [vI y0] M Q := by
  refine Rn_w (by decide) ?_
  show wpc sx L K0 R0 158 [(99, 2, .istore 4, []), (101, 1, .aload_n 0, []), (102, 1, .iload_n 1, []), (103, 3, .ifCond .ne 7, [11]), (106, 1, .iload_n 2, []), (107, 3, .goto 7, [12])] 0 [vR 106, vI x1, vI x2, vI x3, vU] [vI y0] M Q
  simp only [w_is_4 (c2I _), w_al_0, w_il_1, w_if_ne, w_il_2, w_goto, true_and, and_true, true_or, or_true]
  exact h
theorem b_158_11 {sx : Int → Int} {L : Nat} {x1 : Int} {x2 : Int} {x3 : Int} {x4 : Int} {M : Mem} {Q : Option AV → Mem → Prop} 
    (h : Rn sx L K0 R0 158 12 [vR 106, vI x1, vI x2, vI x3, vI x4] [vI (M 104 22), vR 106] M Q) : Rn sx L K0 R0 158 11 [vR 106, vI x1, vI x2, vI x3, vI x4] [vR 106] M Q := by
  refine Rn_w (by decide) ?_
  show wpc sx L K0 R0 158 [(110, 1, .aload_n 0, []), (111, 3, .getfield 199, [9, 22, 1176])] 12 [vR 106, vI x1, vI x2, vI x3, vI x4] [vR 106] M Q
  simp only [w_al_0, w_gf_9_22, kin_T (ks_104), w_fall, true_and, and_true, true_or, or_true]
  exact h
theorem b_158_12 {sx : Int → Int} {L : Nat} {x1 : Int} {x2 : Int} {x3 : Int} {x4 : Int} {y1 : Int} {M : Mem} {Q : Option AV → Mem → Prop} 
    (h : (¬ x1 = (1 : Int) → Rn sx L K0 R0 158 13 [vR 106, vI x1, vI x2, vI x3, vI x4] [vR 106] (mset M 104 22 y1) Q) ∧ (¬ (¬ x1 = (1 : Int)) → Rn sx L K0 R0 158 14 [vR 106, vI x1, vI x2, vI x3, vI x4] [vI x2, vR 106] (mset M 104 22 y1) Q)) : Rn sx L K0 R0 158 12 [vR 106, vI x1, vI x2, vI x3, vI x4] [vI y1, vR 106] M Q := by
  refine Rn_w (by decide) ?_
  show wpc sx L K0 R0 158 [(114, 3, .putfield 199, [9, 22, 1176]), (117, 1, .aload_n 0, []), (118, 1, .iload_n 1, []), (119, 1, .iconst 1, []), (120, 3, .if_icmp .ne 7, [13]), (123, 1, .iload_n 2, []), (124, 3, .goto 7, [14])] 0 [vR 106, vI x1, vI x2, vI x3, vI x4] [vI y1, vR 106] M Q
  simp only [w_pf_9_22, kin_T (ks_104), w_al_0, w_il_1, w_iconst, w_ic_ne, w_il_2, w_goto, true_and, and_true, true_or, or_true]
  exact h
theorem b_158_13 {sx : Int → Int} {L : Nat} {x1 : Int} {x2 : Int} {x3 : Int} {x4 : Int} {M : Mem} {Q : Option AV → Mem → Prop} 
    (h : Rn sx L K0 R0 158 14 [vR 106, vI x1, vI x2, vI x3, vI x4] [vI (M 104 23), vR 106] M Q) : Rn sx L K0 R0 158 13 [vR 106, vI x1, vI x2, vI x3, vI x4] [vR 106] M Q := by
  refine Rn_w (by decide) ?_
  show wpc sx L K0 R0 158 [(127, 1, .aload_n 0, []), (128, 3, .getfield 202, [9, 23, 1177])] 14 [vR 106, vI x1, vI x2, vI x3, vI x4] [vR 106] M Q
  simp only [w_al_0, w_gf_9_23, kin_T (ks_104), w_fall, true_and, and_true, true_or, or_true]
  exact h
theorem b_158_14 {sx : Int → Int} {L : Nat} {x1 : Int} {x2 : Int} {x3 : Int} {x4 : Int} {y1 : Int} {M : Mem} {Q : Option AV → Mem → Prop} 
    (h : (¬ x1 = (2 : Int) → Rn sx L K0 R0 158 15 [vR 106, vI x1, vI x2, vI x3, vI x4] [vR 106] (mset M 104 23 y1) Q) ∧ (¬ (¬ x1 = (2 : Int)) → Rn sx L K0 R0 158 16 [vR 106, vI x1, vI x2, vI x3, vI x4] [vI x2, vR 106] (mset M 104 23 y1) Q)) : Rn sx L K0 R0 158 14 [vR 106, vI x1, vI x2, vI x3, vI x4] [vI y1, vR 106] M Q := by
  refine Rn_w (by decide) ?_
  show wpc sx L K0 R0 158 [(131, 3, .putfield 202, [9, 23, 1177]), (134, 1, .aload_n 0, []), (135, 1, .iload_n 1, []), (136, 1, .iconst 2, []), (137, 3, .if_icmp .ne 7, [15]), (140, 1, .iload_n 2, []), (141, 3, .goto 7, [16])] 0 [vR 106, vI x1, vI x2, vI x3, vI x4] [vI y1, vR 106] M Q
  simp only [w_pf_9_23, kin_T (ks_104), w_al_0, w_il_1, w_iconst, w_ic_ne, w_il_2, w_goto, true_and, and_true, true_or, or_true]
  exact h
theorem b_158_15 {sx : Int → Int} {L : Nat} {x1 : Int} {x2 : Int} {x3 : Int} {x4 : Int} {M : Mem} {Q : Option AV → Mem → Prop} 
    (h : Rn sx L K0 R0 158 16 [vR 106, vI x1, vI x2, vI x3, vI x4] [vI (M 104 24), vR 106] M Q) : Rn sx L K0 R0 158 15 [vR 106, vI x1, vI x2, vI x3, vI x4] [vR 106] M Q := by
  refine Rn_w (by decide) ?_
  show wpc sx L K0 R0 158 [(144, 1, .aload_n 0, []), (145, 3, .getfield 58, [9, 24, 1178])] 16 [vR 106, vI x1, vI x2, vI x3, vI x4] [vR 106] M Q
  simp only [w_al_0, w_gf_9_24, kin_T (ks_104), w_fall, true_and, and_true, true_or, or_true]
  exact h
theorem b_158_16 {sx : Int → Int} {L : Nat} {x1 : Int} {x2 : Int} {x3 : Int} {x4 : Int} {y1 : Int} {M : Mem} {Q : Option AV → Mem → Prop} 
    (h : (¬ x1 = (3 : Int) → Rn sx L K0 R0 158 17 [vR 106, vI x1, vI x2, vI x3, vI x4] [vR 106] (mset M 104 24 y1) Q) ∧ (¬ (¬ x1 = (3 : Int)) → Rn sx L K0 R0 158 18 [vR 106, vI x1, vI x2, vI x3, vI x4] [vI x2, vR 106] (mset M 104 24 y1) Q)) : Rn sx L K0 R0 158 16 [vR 106, vI x1, vI x2, vI x3, vI x4] [vI y1, vR 106] M Q := by
  refine Rn_w (by decide) ?_
  show wpc sx L K0 R0 158 [(148, 3, .putfield 58, [9, 24, 1178]), (151, 1, .aload_n 0, []), (152, 1, .iload_n 1, []), (153, 1, .iconst 3, []), (154, 3, .if_icmp .ne 7, [17]), (157, 1, .iload_n 2, []), (158, 3, .goto 7, [18])] 0 [vR 106, vI x1, vI x2, vI x3, vI x4] [vI y1, vR 106] M Q
  simp only [w_pf_9_24, kin_T (ks_104), w_al_0, w_il_1, w_iconst, w_ic_ne, w_il_2, w_goto, true_and, and_true, true_or, or_true]
  exact h
theorem b_158_17 {sx : Int → Int} {L : Nat} {x1 : Int} {x2 : Int} {x3 : Int} {x4 : Int} {M : Mem} {Q : Option AV → Mem → Prop} 
    (h : Rn sx L K0 R0 158 18 [vR 106, vI x1, vI x2, vI x3, vI x4] [vI (M 104 25), vR 106] M Q) : Rn sx L K0 R0 158 17 [vR 106, vI x1, vI x2, vI x3, vI x4] [vR 106] M Q := by
  refine Rn_w (by decide) ?_
  show wpc sx L K0 R0 158 [(161, 1, .aload_n 0, []), (162, 3, .getfield 62, [9, 25, 1179])] 18 [vR 106, vI x1, vI x2, vI x3, vI x4] [vR 106] M Q
  simp only [w_al_0, w_gf_9_25, kin_T (ks_104), w_fall, true_and, and_true, true_or, or_true]
  exact h
theorem b_158_18 {sx : Int → Int} {L : Nat} {x1 : Int} {x2 : Int} {x3 : Int} {x4 : Int} {y1 : Int} {M : Mem} {Q : Option AV → Mem → Prop} 
    (h : Q (some (vI x4)) (mset (mset M 104 25 y1) 104 26 0)) : Rn sx L K0 R0 158 18 [vR 106, vI x1, vI x2, vI x3, vI x4] [vI y1, vR 106] M Q := by
  refine Rn_w (by decide) ?_
  show wpc sx L K0 R0 158 [(165, 3, .putfield 62, [9, 25, 1179]), (168, 1, .aload_n 0, []), (169, 1, .iconst 0, []), (170, 3, .putfield 145, [9, 26, 1180]), (173, 2, .iload 4, []), (175, 1, .ireturn, [])] 0 [vR 106, vI x1, vI x2, vI x3, vI x4] [vI y1, vR 106] M Q
  simp only [w_pf_9_25, kin_T (ks_104), w_al_0, w_iconst, w_pf_9_26, b01_0, w_il_4, w_ret1 rk_158, true_and, and_true, true_or, or_true]
  exact h
theorem b_159_0 {sx : Int → Int} {L : Nat}  {M : Mem} {Q : Option AV → Mem → Prop} 
    (h : Mq sx L K0 R0 154 [vR 106] M (fun rv M1 => ∃ r1, rv = some (vI r1) ∧ (Rn sx L K0 R0 159 1 [vR 106, vI 0] [] (mset M1 104 27 r1) Q))) : Rn sx L K0 R0 159 0 [vR 106, vU] [] M Q := by
  refine Rn_w (by decide) ?_
  show wpc sx L K0 R0 159 [(0, 1, .aload_n 0, []), (1, 1, .aload_n 0, []), (2, 3, .invokevirtual 196, [154, 1417, 0]), (5, 3, .putfield 205, [9, 27, 1181]), (8, 1, .iconst 0, []), (9, 1, .istore_n 1, [])] 1 [vR 106, vU] [] M Q
  simp only [w_al_0, w_ivv_0  (cs1 _), mk_154, kin_T (ks_104), rk_154, rvk1, List.cons_append, List.nil_append, w_pf_9_27, w_iconst, w_is_1 (c2R _), w_fall, true_and, and_true, true_or, or_true]
  exact h
theorem b_159_1 {sx : Int → Int} {L : Nat} {x1 : Int} {M : Mem} {Q : Option AV → Mem → Prop} 
    (h : ((8 : Int) ≤ x1 → Rn sx L K0 R0 159 2 [vR 106, vI x1] [] M Q) ∧ (¬ ((8 : Int) ≤ x1) → ((0 : Int) ≤ x1 ∧ x1 < (8 : Int)) ∧ (((0 : Int) ≤ x1 ∧ x1 < (8 : Int)) ∧ (((0 : Int) ≤ x1 ∧ x1 < (8 : Int)) ∧ (inR (x1 + 1) ∧ (Rn sx L K0 R0 159 1 [vR 106, vI (x1 + 1)] [] (mset (mset M 121 x1 (M 111 x1)) 122 x1 0) Q)))))) : Rn sx L K0 R0 159 1 [vR 106, vI x1] [] M Q := by
  refine Rn_w (by decide) ?_
  show wpc sx L K0 R0 159 [(10, 1, .iload_n 1, []), (11, 2, .bipush 8, []), (13, 3, .if_icmp .ge 28, [2]), (16, 1, .aload_n 0, []), (17, 3, .getfield 65, [9, 28, 1182]), (20, 1, .iload_n 1, []), (21, 1, .aload_n 0, []), (22, 3, .getfield 28, [9, 7, 1161]), (25, 1, .iload_n 1, []), (26, 1, .iaload, []), (27, 1, .iastore, []), (28, 1, .aload_n 0, []), (29, 3, .getfield 68, [9, 29, 1183]), (32, 1, .iload_n 1, []), (33, 1, .iconst 0, []), (34, 1, .iastore, []), (35, 3, .iinc 1 1, []), (38, 3, .goto (-28), [1])] 0 [vR 106, vI x1] [] M Q
  simp only [w_il_1, w_bipush, w_ic_ge, w_al_0, w_gf_9_28, kin_T (ks_104), rs_104_28, w_gf_9_7, rs_104_7, w_iald, arr_T (ks_111), w_iast, arr_T (ks_121), w_gf_9_29, rs_104_29, w_iconst, arr_T (ks_122), w_inc_1 (c2R _), w_goto, true_and, and_true, true_or, or_true]
  exact h
theorem b_159_2 {sx : Int → Int} {L : Nat} {x1 : Int} {M : Mem} {Q : Option AV → Mem → Prop} 
    (h : Q none (mset (mset (mset M 104 30 (-1)) 104 33 ((mset M 104 30 (-1)) 104 22)) 104 34 ((mset (mset M 104 30 (-1)) 104 33 ((mset M 104 30 (-1)) 104 22)) 104 23))) : Rn sx L K0 R0 159 2 [vR 106, vI x1] [] M Q := by
  refine Rn_w (by decide) ?_
  show wpc sx L K0 R0 159 [(41, 1, .aload_n 0, []), (42, 1, .iconst (-1), []), (43, 3, .putfield 208, [9, 30, 1184]), (46, 1, .aload_n 0, []), (47, 1, .aload_n 0, []), (48, 3, .getfield 199, [9, 22, 1176]), (51, 3, .putfield 211, [9, 33, 1187]), (54, 1, .aload_n 0, []), (55, 1, .aload_n 0, []), (56, 3, .getfield 202, [9, 23, 1177]), (59, 3, .putfield 214, [9, 34, 1188]), (62, 1, .return_, [])] 0 [vR 106, vI x1] [] M Q
  simp only [w_al_0, w_iconst, w_pf_9_30, kin_T (ks_104), w_gf_9_22, w_pf_9_33, w_gf_9_23, w_pf_9_34, w_ret0 rk_159, true_and, and_true, true_or, or_true]
  exact h
theorem b_160_0 {sx : Int → Int} {L : Nat}  {M : Mem} {Q : Option AV → Mem → Prop} 
    (h : Rn sx L K0 R0 160 1 [vR 106, vI 0] [] M Q) : Rn sx L K0 R0 160 0 [vR 106, vU] [] M Q := by
  refine Rn_w (by decide) ?_
  show wpc sx L K0 R0 160 [(0, 1, .iconst 0, []), (1, 1, .istore_n 1, [])] 1 [vR 106, vU] [] M Q
  simp only [w_iconst, w_is_1 (c2R _), w_fall, true_and, and_true, true_or, or_true]
  exact h
set_option maxRecDepth 8192 in
theorem b_160_1 {sx : Int → Int} {L : Nat} {x1 : Int} {M : Mem} {Q : Option AV → Mem → Prop} 
    (h : ((8 : Int) ≤ x1 → Rn sx L K0 R0 160 2 [vR 106, vI x1] [] M Q) ∧ (¬ ((8 : Int) ≤ x1) → ((0 : Int) ≤ x1 ∧ x1 < (8 : Int)) ∧ (((0 : Int) ≤ x1 ∧ x1 < (8 : Int)) ∧ (((0 : Int) ≤ x1 ∧ x1 < (8 : Int)) ∧ (((0 : Int) ≤ x1 ∧ x1 < (8 : Int)) ∧ (((0 : Int) ≤ x1 ∧ x1 < (8 : Int)) ∧ (inR (x1 + 1) ∧ (Rn sx L K0 R0 160 1 [vR 106, vI (x1 + 1)] [] (mset (mset (mset (mset (mset M 123 x1 0) 124 x1 0) 129 x1 0) 130 x1 0) 131 x1 (-1)) Q)))))))) : Rn sx L K0 R0 160 1 [vR 106, vI x1] [] M Q := by
  refine Rn_w (by decide) ?_
  show wpc sx L K0 R0 160 [(2, 1, .iload_n 1, []), (3, 2, .bipush 8, []), (5, 3, .if_icmp .ge 44, [2]), (8, 1, .aload_n 0, []), (9, 3, .getfield 71, [9, 35, 1189]), (12, 1, .iload_n 1, []), (13, 1, .iconst 0, []), (14, 1, .iastore, []), (15, 1, .aload_n 0, []), (16, 3, .getfield 74, [9, 36, 1190]), (19, 1, .iload_n 1, []), (20, 1, .iconst 0, []), (21, 1, .iastore, []), (22, 1, .aload_n 0, []), (23, 3, .getfield 89, [9, 41, 1195]), (26, 1, .iload_n 1, []), (27, 1, .iconst 0, []), (28, 1, .iastore, []), (29, 1, .aload_n 0, []), (30, 3, .getfield 92, [9, 42, 1196]), (33, 1, .iload_n 1, []), (34, 1, .iconst 0, []), (35, 1, .bastore, []), (36, 1, .aload_n 0, []), (37, 3, .getfield 96, [9, 43, 1197]), (40, 1, .iload_n 1, []), (41, 1, .iconst (-1), []), (42, 1, .iastore, []), (43, 3, .iinc 1 1, []), (46, 3, .goto (-44), [1])] 0 [vR 106, vI x1] [] M Q
  simp only [w_il_1, w_bipush, w_ic_ge, w_al_0, w_gf_9_35, kin_T (ks_104), rs_104_35, w_iconst, w_iast, arr_T (ks_123), w_gf_9_36, rs_104_36, arr_T (ks_124), w_gf_9_41, rs_104_41, arr_T (ks_129), w_gf_9_42, rs_104_42, w_bast, arr_T (ks_130), b01_0, w_gf_9_43, rs_104_43, arr_T (ks_131), w_inc_1 (c2R _), w_goto, true_and, and_true, true_or, or_true]
  exact h
theorem b_160_2 {sx : Int → Int} {L : Nat} {x1 : Int} {M : Mem} {Q : Option AV → Mem → Prop} 
    (h : Q none (mset (mset M 104 49 (-1)) 104 50 0)) : Rn sx L K0 R0 160 2 [vR 106, vI x1] [] M Q := by
  refine Rn_w (by decide) ?_
  show wpc sx L K0 R0 160 [(49, 1, .aload_n 0, []), (50, 1, .iconst (-1), []), (51, 3, .putfield 217, [9, 49, 1203]), (54, 1, .aload_n 0, []), (55, 1, .iconst 0, []), (56, 3, .putfield 220, [9, 50, 1204]), (59, 1, .return_, [])] 0 [vR 106, vI x1] [] M Q
  simp only [w_al_0, w_iconst, w_pf_9_49, kin_T (ks_104), w_pf_9_50, w_ret0 rk_160, true_and, and_true, true_or, or_true]
  exact h
theorem b_161_0 {sx : Int → Int} {L : Nat}  {M : Mem} {Q : Option AV → Mem → Prop} 
    (h : Rn sx L K0 R0 161 1 [vR 106, vI 0, vU] [] M Q) : Rn sx L K0 R0 161 0 [vR 106, vU, vU] [] M Q := by
  refine Rn_w (by decide) ?_
  show wpc sx L K0 R0 161 [(0, 1, .iconst 0, []), (1, 1, .istore_n 1, [])] 1 [vR 106, vU, vU] [] M Q
  simp only [w_iconst, w_is_1 (c2R _), w_fall, true_and, and_true, true_or, or_true]
  exact h
set_option maxRecDepth 8192 in
theorem b_161_1 {sx : Int → Int} {L : Nat} {x1 : Int} {u2 : AV} {M : Mem} {Q : Option AV → Mem → Prop} (hu2 : cat2 u2 = false)
    (h : ((8 : Int) ≤ x1 → Rn sx L K0 R0 161 6 [vR 106, vI x1, u2] [] M Q) ∧ (¬ ((8 : Int) ≤ x1) → ((0 : Int) ≤ x1 ∧ x1 < (8 : Int)) ∧ (inR ((M 104 51) - (M 116 x1)) ∧ (((0 : Int) ≤ x1 ∧ x1 < (8 : Int)) ∧ (inR (((M 104 51) - (M 116 x1)) - (M 122 x1)) ∧ (((0 : Int) ≤ M 104 27 ∧ (0 : Int) ≤ x1 ∧ x1 ≤ (30 : Int)) ∧ ((¬ iAnd ((M 104 27) / 2 ^ (x1).toNat) 1 = (1 : Int) → Rn sx L K0 R0 161 2 [vR 106, vI x1, vI (((M 104 51) - (M 116 x1)) - (M 122 x1))] [] M Q) ∧ (¬ (¬ iAnd ((M 104 27) / 2 ^ (x1).toNat) 1 = (1 : Int)) → (((M 104 51) - (M 116 x1)) - (M 122 x1) < (0 : Int) → Rn sx L K0 R0 161 2 [vR 106, vI x1, vI (((M 104 51) - (M 116 x1)) - (M 122 x1))] [] M Q) ∧ (¬ (((M 104 51) - (M 116 x1)) - (M 122 x1) < (0 : Int)) → ((0 : Int) ≤ x1 ∧ x1 < (8 : Int)) ∧ (((0 : Int) ≤ ((M 104 51) - (M 116 x1)) - (M 122 x1) ∧ (0 : Int) < M 114 x1) ∧ ((¬ (((M 104 51) - (M 116 x1)) - (M 122 x1)) % (M 114 x1) = (0 : Int) → Rn sx L K0 R0 161 2 [vR 106, vI x1, vI (((M 104 51) - (M 116 x1)) - (M 122 x1))] [] M Q) ∧ (¬ (¬ (((M 104 51) - (M 116 x1)) - (M 122 x1)) % (M 114 x1) = (0 : Int)) → inR ((200 : Int) * x1) ∧ (((0 : Int) ≤ x1 ∧ x1 < (8 : Int)) ∧ (inR (((200 : Int) * x1) + (M 123 x1)) ∧ (((0 : Int) ≤ ((200 : Int) * x1) + (M 123 x1) ∧ ((200 : Int) * x1) + (M 123 x1) < (1600 : Int)) ∧ (inR ((200 : Int) * x1) ∧ (((0 : Int) ≤ x1 ∧ x1 < (8 : Int)) ∧ (inR (((200 : Int) * x1) + ((mset M 125 (((200 : Int) * x1) + (M 123 x1)) (M 104 51)) 123 x1)) ∧ (((0 : Int) ≤ ((200 : Int) * x1) + ((mset M 125 (((200 : Int) * x1) + (M 123 x1)) (M 104 51)) 123 x1) ∧ ((200 : Int) * x1) + ((mset M 125 (((200 : Int) * x1) + (M 123 x1)) (M 104 51)) 123 x1) < (1600 : Int)) ∧ (((0 : Int) ≤ x1 ∧ x1 < (8 : Int)) ∧ (inR (((mset (mset M 125 (((200 : Int) * x1) + (M 123 x1)) (M 104 51)) 126 (((200 : Int) * x1) + ((mset M 125 (((200 : Int) * x1) + (M 123 x1)) (M 104 51)) 123 x1)) (-1)) 123 x1) + 1) ∧ (((0 : Int) ≤ x1 ∧ x1 < (8 : Int)) ∧ (Rn sx L K0 R0 161 2 [vR 106, vI x1, vI (((M 104 51) - (M 116 x1)) - (M 122 x1))] [] (mset (mset (mset M 125 (((200 : Int) * x1) + (M 123 x1)) (M 104 51)) 126 (((200 : Int) * x1) + ((mset M 125 (((200 : Int) * x1) + (M 123 x1)) (M 104 51)) 123 x1)) (-1)) 123 x1 (((mset (mset M 125 (((200 : Int) * x1) + (M 123 x1)) (M 104 51)) 126 (((200 : Int) * x1) + ((mset M 125 (((200 : Int) * x1) + (M 123 x1)) (M 104 51)) 123 x1)) (-1)) 123 x1) + 1)) Q))))))))))))))))))))))) : Rn sx L K0 R0 161 1 [vR 106, vI x1, u2] [] M Q := by
  refine Rn_w (by decide) ?_
  show wpc sx L K0 R0 161 [(2, 1, .iload_n 1, []), (3, 2, .bipush 8, []), (5, 3, .if_icmp .ge 186, [6]), (8, 1, .aload_n 0, []), (9, 3, .getfield 223, [9, 51, 1205]), (12, 1, .aload_n 0, []), (13, 3, .getfield 43, [9, 14, 1168]), (16, 1, .iload_n 1, []), (17, 1, .iaload, []), (18, 1, .isub, []), (19, 1, .aload_n 0, []), (20, 3, .getfield 68, [9, 29, 1183]), (23, 1, .iload_n 1, []), (24, 1, .iaload, []), (25, 1, .isub, []), (26, 1, .istore_n 2, []), (27, 1, .aload_n 0, []), (28, 3, .getfield 205, [9, 27, 1181]), (31, 1, .iload_n 1, []), (32, 1, .ishr, []), (33, 1, .iconst 1, []), (34, 1, .iand, []), (35, 1, .iconst 1, []), (36, 3, .if_icmp .ne 67, [2]), (39, 1, .iload_n 2, []), (40, 3, .ifCond .lt 63, [2]), (43, 1, .iload_n 2, []), (44, 1, .aload_n 0, []), (45, 3, .getfield 37, [9, 12, 1166]), (48, 1, .iload_n 1, []), (49, 1, .iaload, []), (50, 1, .irem, []), (51, 3, .ifCond .ne 52, [2]), (54, 1, .aload_n 0, []), (55, 3, .getfield 77, [9, 37, 1191]), (58, 3, .sipush 200, []), (61, 1, .iload_n 1, []), (62, 1, .imul, []), (63, 1, .aload_n 0, []), (64, 3, .getfield 71, [9, 35, 1189]), (67, 1, .iload_n 1, []), (68, 1, .iaload, []), (69, 1, .iadd, []), (70, 1, .aload_n 0, []), (71, 3, .getfield 223, [9, 51, 1205]), (74, 1, .iastore, []), (75, 1, .aload_n 0, []), (76, 3, .getfield 80, [9, 38, 1192]), (79, 3, .sipush 200, []), (82, 1, .iload_n 1, []), (83, 1, .imul, []), (84, 1, .aload_n 0, []), (85, 3, .getfield 71, [9, 35, 1189]), (88, 1, .iload_n 1, []), (89, 1, .iaload, []), (90, 1, .iadd, []), (91, 1, .iconst (-1), []), (92, 1, .iastore, []), (93, 1, .aload_n 0, []), (94, 3, .getfield 71, [9, 35, 1189]), (97, 1, .iload_n 1, []), (98, 1, .dup2, []), (99, 1, .iaload, []), (100, 1, .iconst 1, []), (101, 1, .iadd, []), (102, 1, .iastore, [])] 2 [vR 106, vI x1, u2] [] M Q
  simp only [w_il_1, w_bipush, w_ic_ge, w_al_0, w_gf_9_51, kin_T (ks_104), w_gf_9_14, rs_104_14, w_iald, arr_T (ks_116), w_isub, w_gf_9_29, rs_104_29, arr_T (ks_122), w_is_2 (c2I _), w_gf_9_27, w_ishr, w_iconst, w_iand, w_ic_ne, w_il_2, w_if_lt, w_gf_9_12, rs_104_12, arr_T (ks_114), w_irem, w_if_ne, w_gf_9_37, rs_104_37, w_sipush, w_imul, w_gf_9_35, rs_104_35, arr_T (ks_123), w_iadd, w_iast, arr_T (ks_125), w_gf_9_38, rs_104_38, arr_T (ks_126), w_dup2 (c2I _) (c2R _), w_fall, true_and, and_true, true_or, or_true]
  exact h
set_option maxRecDepth 8192 in
theorem b_161_2 {sx : Int → Int} {L : Nat} {x1 : Int} {x2 : Int} {M : Mem} {Q : Option AV → Mem → Prop} 
    (h : ((0 : Int) ≤ x1 ∧ x1 < (8 : Int)) ∧ ((¬ M 130 x1 = (0 : Int) → Rn sx L K0 R0 161 3 [vR 106, vI x1, vI x2] [] M Q) ∧ (¬ (¬ M 130 x1 = (0 : Int)) → ((0 : Int) ≤ x1 ∧ x1 < (8 : Int)) ∧ (((0 : Int) ≤ x1 ∧ x1 < (8 : Int)) ∧ ((M 123 x1 ≤ M 124 x1 → Rn sx L K0 R0 161 3 [vR 106, vI x1, vI x2] [] M Q) ∧ (¬ (M 123 x1 ≤ M 124 x1) → ((0 : Int) ≤ x1 ∧ x1 < (8 : Int)) ∧ (((0 : Int) ≤ x1 ∧ x1 < (8 : Int)) ∧ (((0 : Int) ≤ x1 ∧ x1 < (8 : Int)) ∧ (((0 : Int) ≤ x1 ∧ x1 < (8 : Int)) ∧ (inR (((mset (mset (mset M 130 x1 1) 127 x1 0) 128 x1 0) 124 x1) + 1) ∧ (((0 : Int) ≤ x1 ∧ x1 < (8 : Int)) ∧ (Rn sx L K0 R0 161 3 [vR 106, vI x1, vI x2] [] (mset (mset (mset (mset M 130 x1 1) 127 x1 0) 128 x1 0) 124 x1 (((mset (mset (mset M 130 x1 1) 127 x1 0) 128 x1 0) 124 x1) + 1)) Q)))))))))))) : Rn sx L K0 R0 161 2 [vR 106, vI x1, vI x2] [] M Q := by
  refine Rn_w (by decide) ?_
  show wpc sx L K0 R0 161 [(103, 1, .aload_n 0, []), (104, 3, .getfield 92, [9, 42, 1196]), (107, 1, .iload_n 1, []), (108, 1, .baload, []), (109, 3, .ifCond .ne 49, [3]), (112, 1, .aload_n 0, []), (113, 3, .getfield 74, [9, 36, 1190]), (116, 1, .iload_n 1, []), (117, 1, .iaload, []), (118, 1, .aload_n 0, []), (119, 3, .getfield 71, [9, 35, 1189]), (122, 1, .iload_n 1, []), (123, 1, .iaload, []), (124, 3, .if_icmp .ge 34, [3]), (127, 1, .aload_n 0, []), (128, 3, .getfield 92, [9, 42, 1196]), (131, 1, .iload_n 1, []), (132, 1, .iconst 1, []), (133, 1, .bastore, []), (134, 1, .aload_n 0, []), (135, 3, .getfield 83, [9, 39, 1193]), (138, 1, .iload_n 1, []), (139, 1, .iconst 0, []), (140, 1, .iastore, []), (141, 1, .aload_n 0, []), (142, 3, .getfield 86, [9, 40, 1194]), (145, 1, .iload_n 1, []), (146, 1, .iconst 0, []), (147, 1, .iastore, []), (148, 1, .aload_n 0, []), (149, 3, .getfield 74, [9, 36, 1190]), (152, 1, .iload_n 1, []), (153, 1, .dup2, []), (154, 1, .iaload, []), (155, 1, .iconst 1, []), (156, 1, .iadd, []), (157, 1, .iastore, [])] 3 [vR 106, vI x1, vI x2] [] M Q
  simp only [w_al_0, w_gf_9_42, kin_T (ks_104), rs_104_42, w_il_1, w_bald, arr_T (ks_130), w_if_ne, w_gf_9_36, rs_104_36, w_iald, arr_T (ks_124), w_gf_9_35, rs_104_35, arr_T (ks_123), w_ic_ge, w_iconst, w_bast, b01_1, w_gf_9_39, rs_104_39, w_iast, arr_T (ks_127), w_gf_9_40, rs_104_40, arr_T (ks_128), w_dup2 (c2I _) (c2R _), w_iadd, w_fall, true_and, and_true, true_or, or_true]
  exact h
theorem b_161_3 {sx : Int → Int} {L : Nat} {x1 : Int} {x2 : Int} {M : Mem} {Q : Option AV → Mem → Prop} 
    (h : ((0 : Int) ≤ x1 ∧ x1 < (8 : Int)) ∧ ((M 130 x1 = (0 : Int) → Rn sx L K0 R0 161 4 [vR 106, vI x1, vI x2] [vI x1, vR 134] M Q) ∧ (¬ (M 130 x1 = (0 : Int)) → Rn sx L K0 R0 161 5 [vR 106, vI x1, vI x2] [vI 3, vI x1, vR 134] M Q))) : Rn sx L K0 R0 161 3 [vR 106, vI x1, vI x2] [] M Q := by
  refine Rn_w (by decide) ?_
  show wpc sx L K0 R0 161 [(158, 1, .aload_n 0, []), (159, 3, .getfield 99, [9, 44, 1198]), (162, 1, .iload_n 1, []), (163, 1, .aload_n 0, []), (164, 3, .getfield 92, [9, 42, 1196]), (167, 1, .iload_n 1, []), (168, 1, .baload, []), (169, 3, .ifCond .eq 7, [4]), (172, 1, .iconst 3, []), (173, 3, .goto 4, [5])] 0 [vR 106, vI x1, vI x2] [] M Q
  simp only [w_al_0, w_gf_9_44, kin_T (ks_104), rs_104_44, w_il_1, w_gf_9_42, rs_104_42, w_bald, arr_T (ks_130), w_if_eq, w_iconst, w_goto, true_and, and_true, true_or, or_true]
  exact h
theorem b_161_4 {sx : Int → Int} {L : Nat} {x1 : Int} {x2 : Int} {y1 : Int} {M : Mem} {Q : Option AV → Mem → Prop} 
    (h : Rn sx L K0 R0 161 5 [vR 106, vI x1, vI x2] [vI 0, vI y1, vR 134] M Q) : Rn sx L K0 R0 161 4 [vR 106, vI x1, vI x2] [vI y1, vR 134] M Q := by
  refine Rn_w (by decide) ?_
  show wpc sx L K0 R0 161 [(176, 1, .iconst 0, [])] 5 [vR 106, vI x1, vI x2] [vI y1, vR 134] M Q
  simp only [w_iconst, w_fall, true_and, and_true, true_or, or_true]
  exact h
theorem b_161_5 {sx : Int → Int} {L : Nat} {x1 : Int} {x2 : Int} {y1 : Int} {y2 : Int} {M : Mem} {Q : Option AV → Mem → Prop} 
    (h : ((0 : Int) ≤ y1 ∧ y1 < (8 : Int)) ∧ (((0 : Int) ≤ x1 ∧ x1 < (8 : Int)) ∧ (inR (x1 + 1) ∧ (Rn sx L K0 R0 161 1 [vR 106, vI (x1 + 1), vI x2] [] (mset (mset M 132 y1 y2) 133 x1 0) Q)))) : Rn sx L K0 R0 161 5 [vR 106, vI x1, vI x2] [vI y2, vI y1, vR 134] M Q := by
  refine Rn_w (by decide) ?_
  show wpc sx L K0 R0 161 [(177, 1, .iastore, []), (178, 1, .aload_n 0, []), (179, 3, .getfield 102, [9, 45, 1199]), (182, 1, .iload_n 1, []), (183, 1, .iconst 0, []), (184, 1, .iastore, []), (185, 3, .iinc 1 1, []), (188, 3, .goto (-186), [1])] 0 [vR 106, vI x1, vI x2] [vI y2, vI y1, vR 134] M Q
  simp only [w_iast, arr_T (ks_132), w_al_0, w_gf_9_45, kin_T (ks_104), rs_104_45, w_il_1, w_iconst, arr_T (ks_133), w_inc_1 (c2R _), w_goto, true_and, and_true, true_or, or_true]
  exact h
theorem b_161_6 {sx : Int → Int} {L : Nat} {x1 : Int} {u2 : AV} {M : Mem} {Q : Option AV → Mem → Prop} (hu2 : cat2 u2 = false)
    (h : Q none M) : Rn sx L K0 R0 161 6 [vR 106, vI x1, u2] [] M Q := by
  refine Rn_w (by decide) ?_
  show wpc sx L K0 R0 161 [(191, 1, .return_, [])] 0 [vR 106, vI x1, u2] [] M Q
  simp only [w_ret0 rk_161, true_and, and_true, true_or, or_true]
  exact h
theorem b_162_0 {sx : Int → Int} {L : Nat} {x1 : Int} {M : Mem} {Q : Option AV → Mem → Prop} 
    (h : Rn sx L K0 R0 162 1 [vR 106, vI x1, vI 0, vI 0] [] M Q) : Rn sx L K0 R0 162 0 [vR 106, vI x1, vU, vU] [] M Q := by
  refine Rn_w (by decide) ?_
  show wpc sx L K0 R0 162 [(0, 1, .iconst 0, []), (1, 1, .istore_n 2, []), (2, 1, .iconst 0, []), (3, 1, .istore_n 3, [])] 1 [vR 106, vI x1, vU, vU] [] M Q
  simp only [w_iconst, w_is_2 (c2I _), w_is_3 (c2I _), w_fall, true_and, and_true, true_or, or_true]
  exact h
theorem b_162_1 {sx : Int → Int} {L : Nat} {x1 : Int} {x2 : Int} {x3 : Int} {M : Mem} {Q : Option AV → Mem → Prop} 
    (h : ((8 : Int) ≤ x3 → Rn sx L K0 R0 162 2 [vR 106, vI x1, vI x2, vI x3] [] M Q) ∧ (¬ ((8 : Int) ≤ x3) → ((0 : Int) ≤ x3 ∧ x3 < (8 : Int)) ∧ (((0 : Int) ≤ M 129 x3 ∧ (0 : Int) ≤ x1 ∧ x1 ≤ (30 : Int)) ∧ (inR (x2 + (iAnd ((M 129 x3) / 2 ^ (x1).toNat) 1)) ∧ (inR (x3 + 1) ∧ (Rn sx L K0 R0 162 1 [vR 106, vI x1, vI (x2 + (iAnd ((M 129 x3) / 2 ^ (x1).toNat) 1)), vI (x3 + 1)] [] M Q)))))) : Rn sx L K0 R0 162 1 [vR 106, vI x1, vI x2, vI x3] [] M Q := by
  refine Rn_w (by decide) ?_
  show wpc sx L K0 R0 162 [(4, 1, .iload_n 3, []), (5, 2, .bipush 8, []), (7, 3, .if_icmp .ge 22, [2]), (10, 1, .iload_n 2, []), (11, 1, .aload_n 0, []), (12, 3, .getfield 89, [9, 41, 1195]), (15, 1, .iload_n 3, []), (16, 1, .iaload, []), (17, 1, .iload_n 1, []), (18, 1, .ishr, []), (19, 1, .iconst 1, []), (20, 1, .iand, []), (21, 1, .iadd, []), (22, 1, .istore_n 2, []), (23, 3, .iinc 3 1, []), (26, 3, .goto (-22), [1])] 0 [vR 106, vI x1, vI x2, vI x3] [] M Q
  simp only [w_il_3, w_bipush, w_ic_ge, w_il_2, w_al_0, w_gf_9_41, kin_T (ks_104), rs_104_41, w_iald, arr_T (ks_129), w_il_1, w_ishr, w_iconst, w_iand, w_iadd, w_is_2 (c2I _), w_inc_3 (c2I _), w_goto, true_and, and_true, true_or, or_true]
  exact h
theorem b_162_2 {sx : Int → Int} {L : Nat} {x1 : Int} {x2 : Int} {x3 : Int} {M : Mem} {Q : Option AV → Mem → Prop} 
    (h : Q (some (vI x2)) M) : Rn sx L K0 R0 162 2 [vR 106, vI x1, vI x2, vI x3] [] M Q := by
  refine Rn_w (by decide) ?_
  show wpc sx L K0 R0 162 [(29, 1, .iload_n 2, []), (30, 1, .ireturn, [])] 0 [vR 106, vI x1, vI x2, vI x3] [] M Q
  simp only [w_il_2, w_ret1 rk_162, true_and, and_true, true_or, or_true]
  exact h

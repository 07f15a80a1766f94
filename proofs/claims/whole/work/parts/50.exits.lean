set_option maxRecDepth 8192 in
theorem bx_34_1 {sx : Int → Int} {L : Nat} {x1 : Int} {x2 : Int} {x3 : Int} {x4 : Int} {u5 : AV} {M : Mem} {Q : Option AV → Mem → Prop} (hu5 : cat2 u5 = false) (hx : (8 : Int) ≤ x4)
    (h : Rn sx L K0 R0 34 3 [vR 53, vI x1, vI x2, vI x3, vI x4, u5] [] M Q) : Rn sx L K0 R0 34 1 [vR 53, vI x1, vI x2, vI x3, vI x4, u5] [] M Q := by
  refine Rn_w (by decide) ?_
  show wpc sx L K0 R0 34 [(5, 2, .iload 4, []), (7, 2, .bipush 8, []), (9, 3, .if_icmp .ge 61, [3]), (12, 1, .aload_n 0, []), (13, 3, .getfield 19, [2, 2, 356]), (16, 2, .iload 4, []), (18, 1, .iload_n 1, []), (19, 3, .invokevirtual 56, [82, 923, 2]), (22, 3, .ifCond .eq 42, [2]), (25, 1, .iconst 1, []), (26, 1, .aload_n 0, []), (27, 3, .getfield 15, [2, 1, 355]), (30, 2, .iload 4, []), (32, 1, .aaload, []), (33, 3, .getfield 79, [1, 4, 276]), (36, 3, .invokestatic 64, [1002, 939]), (39, 2, .istore 5, []), (41, 1, .iload_n 3, []), (42, 1, .aload_n 0, []), (43, 3, .getfield 15, [2, 1, 355]), (46, 2, .iload 4, []), (48, 1, .aaload, []), (49, 3, .getfield 70, [1, 10, 291]), (52, 1, .iload_n 2, []), (53, 2, .iload 5, []), (55, 1, .iadd, []), (56, 1, .iconst 1, []), (57, 1, .isub, []), (58, 2, .iload 5, []), (60, 1, .idiv, []), (61, 1, .imul, []), (62, 1, .iadd, []), (63, 1, .istore_n 3, [])] 2 [vR 53, vI x1, vI x2, vI x3, vI x4, u5] [] M Q
  simp only [w_il_4, w_bipush, w_ic_ge]
  exact ⟨fun _ => h, fun q => absurd hx q⟩
theorem bx_36_4 {sx : Int → Int} {L : Nat} {c0 : Nat} {c1 : Nat} {x2 : Int} {x3 : Int} {x4 : Int} {M : Mem} {Q : Option AV → Mem → Prop} (h0 : isRb c0) (h1 : isSt c1) (hx : (8 : Int) ≤ x4)
    (h : Rn sx L K0 R0 36 6 [vR (c0 + 2), vR (c1 + 2), vI x2, vI x3, vI x4] [] M Q) : Rn sx L K0 R0 36 4 [vR (c0 + 2), vR (c1 + 2), vI x2, vI x3, vI x4] [] M Q := by
  refine Rn_w (by decide) ?_
  show wpc sx L K0 R0 36 [(63, 2, .iload 4, []), (65, 2, .bipush 8, []), (67, 3, .if_icmp .ge 31, [6]), (70, 1, .aload_n 0, []), (71, 3, .getfield 11, [3, 1, 445]), (74, 2, .iload 4, []), (76, 1, .aaload, []), (77, 1, .aload_n 0, []), (78, 3, .getfield 45, [3, 10, 458]), (81, 3, .invokevirtual 65, [12, 832, 1]), (84, 3, .ifCond .eq 8, [5]), (87, 1, .aload_n 0, []), (88, 1, .iconst 1, []), (89, 3, .putfield 61, [3, 17, 468])] 5 [vR (c0 + 2), vR (c1 + 2), vI x2, vI x3, vI x4] [] M Q
  simp only [w_il_4, w_bipush, w_ic_ge]
  exact ⟨fun _ => h, fun q => absurd hx q⟩
set_option maxRecDepth 8192 in
theorem bx_37_1 {sx : Int → Int} {L : Nat} {c0 : Nat} {c1 : Nat} {x2 : Int} {x3 : Int} {u4 : AV} {M : Mem} {Q : Option AV → Mem → Prop} (h0 : isRb c0) (h1 : isSt c1) (hu4 : cat2 u4 = false) (hx : (8 : Int) ≤ x3)
    (h : Rn sx L K0 R0 37 3 [vR (c0 + 2), vR (c1 + 2), vI x2, vI x3, u4] [] M Q) : Rn sx L K0 R0 37 1 [vR (c0 + 2), vR (c1 + 2), vI x2, vI x3, u4] [] M Q := by
  refine Rn_w (by decide) ?_
  show wpc sx L K0 R0 37 [(63, 1, .iload_n 3, []), (64, 2, .bipush 8, []), (66, 3, .if_icmp .ge 69, [3]), (69, 1, .aload_n 0, []), (70, 3, .getfield 11, [3, 1, 445]), (73, 1, .iload_n 3, []), (74, 1, .aaload, []), (75, 2, .astore 4, []), (77, 2, .aload 4, []), (79, 2, .aload 4, []), (81, 3, .getfield 96, [0, 0, 378]), (84, 3, .getfield 100, [1, 6, 282]), (87, 1, .aload_n 1, []), (88, 3, .getfield 105, [5, 3, 212]), (91, 1, .iload_n 3, []), (92, 1, .iaload, []), (93, 1, .iadd, []), (94, 1, .aload_n 1, []), (95, 3, .getfield 108, [5, 1, 206]), (98, 1, .iload_n 3, []), (99, 1, .iaload, []), (100, 3, .invokevirtual 111, [1, 740, 2]), (103, 1, .iload_n 3, []), (104, 1, .aload_n 1, []), (105, 3, .getfield 114, [5, 8, 230]), (108, 3, .if_icmp .ne 21, [2]), (111, 2, .aload 4, []), (113, 1, .aload_n 1, []), (114, 3, .getfield 117, [5, 9, 233]), (117, 3, .putfield 120, [0, 4, 384]), (120, 2, .aload 4, []), (122, 1, .aload_n 1, []), (123, 3, .getfield 121, [5, 10, 236]), (126, 3, .putfield 124, [0, 5, 386])] 2 [vR (c0 + 2), vR (c1 + 2), vI x2, vI x3, u4] [] M Q
  simp only [w_il_3, w_bipush, w_ic_ge]
  exact ⟨fun _ => h, fun q => absurd hx q⟩
set_option maxRecDepth 8192 in
theorem bx_38_2 {sx : Int → Int} {L : Nat} {c0 : Nat} {x1 : Int} {x2 : Int} {M : Mem} {Q : Option AV → Mem → Prop} (h0 : isRb c0) (hx : (8 : Int) ≤ x2)
    (h : Rn sx L K0 R0 38 4 [vR (c0 + 2), vI x1, vI x2] [] M Q) : Rn sx L K0 R0 38 2 [vR (c0 + 2), vI x1, vI x2] [] M Q := by
  refine Rn_w (by decide) ?_
  show wpc sx L K0 R0 38 [(10, 1, .iload_n 2, []), (11, 2, .bipush 8, []), (13, 3, .if_icmp .ge 67, [4]), (16, 1, .aload_n 0, []), (17, 3, .getfield 74, [3, 6, 454]), (20, 1, .iload_n 2, []), (21, 1, .ishr, []), (22, 1, .iconst 1, []), (23, 1, .iand, []), (24, 3, .ifCond .eq 50, [3]), (27, 1, .aload_n 0, []), (28, 3, .getfield 11, [3, 1, 445]), (31, 1, .iload_n 2, []), (32, 1, .aaload, []), (33, 3, .getfield 128, [0, 3, 382]), (36, 1, .aload_n 0, []), (37, 3, .getfield 11, [3, 1, 445]), (40, 1, .iload_n 1, []), (41, 1, .aaload, []), (42, 3, .getfield 128, [0, 3, 382]), (45, 3, .if_icmp .lt 29, [3]), (48, 1, .aload_n 0, []), (49, 3, .getfield 11, [3, 1, 445]), (52, 1, .iload_n 1, []), (53, 1, .aaload, []), (54, 1, .dup, []), (55, 3, .getfield 130, [0, 17, 406]), (58, 1, .aload_n 0, []), (59, 3, .getfield 11, [3, 1, 445]), (62, 1, .iload_n 2, []), (63, 1, .aaload, []), (64, 3, .getfield 96, [0, 0, 378]), (67, 3, .getfield 133, [1, 11, 295]), (70, 1, .ior, []), (71, 3, .putfield 130, [0, 17, 406])] 3 [vR (c0 + 2), vI x1, vI x2] [] M Q
  simp only [w_il_2, w_bipush, w_ic_ge]
  exact ⟨fun _ => h, fun q => absurd hx q⟩
set_option maxRecDepth 8192 in
theorem bx_39_1 {sx : Int → Int} {L : Nat} {c0 : Nat} {x1 : Int} {x2 : Int} {u3 : AV} {M : Mem} {Q : Option AV → Mem → Prop} (h0 : isRb c0) (hu3 : cat2 u3 = false) (hx : (8 : Int) ≤ x2)
    (h : Rn sx L K0 R0 39 3 [vR (c0 + 2), vI x1, vI x2, u3] [] M Q) : Rn sx L K0 R0 39 1 [vR (c0 + 2), vI x1, vI x2, u3] [] M Q := by
  refine Rn_w (by decide) ?_
  show wpc sx L K0 R0 39 [(7, 1, .iload_n 2, []), (8, 2, .bipush 8, []), (10, 3, .if_icmp .ge 60, [3]), (13, 1, .aload_n 0, []), (14, 3, .getfield 74, [3, 6, 454]), (17, 1, .iload_n 2, []), (18, 1, .ishr, []), (19, 1, .iconst 1, []), (20, 1, .iand, []), (21, 3, .ifCond .eq 43, [2]), (24, 1, .aload_n 0, []), (25, 3, .getfield 11, [3, 1, 445]), (28, 1, .iload_n 2, []), (29, 1, .aaload, []), (30, 1, .astore_n 3, []), (31, 1, .aload_n 3, []), (32, 1, .iload_n 1, []), (33, 3, .invokevirtual 139, [4, 752, 1]), (36, 1, .aload_n 3, []), (37, 1, .aload_n 0, []), (38, 3, .getfield 78, [3, 7, 455]), (41, 3, .invokevirtual 140, [5, 764, 1]), (44, 1, .aload_n 3, []), (45, 3, .getfield 143, [0, 8, 391]), (48, 1, .iconst (-1), []), (49, 3, .if_icmp .eq 15, [2]), (52, 1, .aload_n 0, []), (53, 1, .dup, []), (54, 3, .getfield 136, [3, 11, 459]), (57, 1, .iconst 1, []), (58, 1, .iload_n 2, []), (59, 1, .ishl, []), (60, 1, .ior, []), (61, 3, .putfield 136, [3, 11, 459])] 2 [vR (c0 + 2), vI x1, vI x2, u3] [] M Q
  simp only [w_il_2, w_bipush, w_ic_ge]
  exact ⟨fun _ => h, fun q => absurd hx q⟩
theorem bx_44_4 {sx : Int → Int} {L : Nat} {c0 : Nat} {x1 : Int} {x2 : Int} {x3 : Int} {M : Mem} {Q : Option AV → Mem → Prop} (h0 : isRb c0) (hx : (8 : Int) ≤ x3)
    (h : Rn sx L K0 R0 44 6 [vR (c0 + 2), vI x1, vI x2, vI x3] [] M Q) : Rn sx L K0 R0 44 4 [vR (c0 + 2), vI x1, vI x2, vI x3] [] M Q := by
  refine Rn_w (by decide) ?_
  show wpc sx L K0 R0 44 [(34, 1, .iload_n 3, []), (35, 2, .bipush 8, []), (37, 3, .if_icmp .ge 35, [6]), (40, 1, .aload_n 0, []), (41, 3, .getfield 149, [3, 13, 461]), (44, 1, .iload_n 3, []), (45, 1, .ishr, []), (46, 1, .iconst 1, []), (47, 1, .iand, []), (48, 3, .ifCond .eq 18, [5]), (51, 1, .aload_n 0, []), (52, 1, .aload_n 0, []), (53, 3, .getfield 11, [3, 1, 445]), (56, 1, .iload_n 3, []), (57, 1, .aaload, []), (58, 3, .invokevirtual 211, [45, 801, 1]), (61, 3, .ifCond .eq 5, [5]), (64, 1, .iconst 1, []), (65, 1, .istore_n 1, [])] 5 [vR (c0 + 2), vI x1, vI x2, vI x3] [] M Q
  simp only [w_il_3, w_bipush, w_ic_ge]
  exact ⟨fun _ => h, fun q => absurd hx q⟩
set_option maxRecDepth 8192 in
theorem bx_45_1 {sx : Int → Int} {L : Nat} {c0 : Nat} {c1 : Nat} {x2 : Int} {x3 : Int} {M : Mem} {Q : Option AV → Mem → Prop} (h0 : isRb c0) (h1 : isCk c1) (hx : (8 : Int) ≤ x3)
    (h : Rn sx L K0 R0 45 3 [vR (c0 + 2), vR (c1 + 2), vI x2, vI x3] [] M Q) : Rn sx L K0 R0 45 1 [vR (c0 + 2), vR (c1 + 2), vI x2, vI x3] [] M Q := by
  refine Rn_w (by decide) ?_
  show wpc sx L K0 R0 45 [(4, 1, .iload_n 3, []), (5, 2, .bipush 8, []), (7, 3, .if_icmp .ge 51, [3]), (10, 1, .aload_n 1, []), (11, 3, .getfield 208, [0, 13, 399]), (14, 1, .iload_n 3, []), (15, 1, .ishr, []), (16, 1, .iconst 1, []), (17, 1, .iand, []), (18, 3, .ifCond .eq 34, [2]), (21, 1, .aload_n 0, []), (22, 3, .getfield 11, [3, 1, 445]), (25, 1, .iload_n 3, []), (26, 1, .aaload, []), (27, 3, .getfield 186, [0, 15, 402]), (30, 1, .aload_n 1, []), (31, 3, .getfield 186, [0, 15, 402]), (34, 3, .if_icmp .le 18, [2]), (37, 1, .aload_n 0, []), (38, 3, .getfield 11, [3, 1, 445]), (41, 1, .iload_n 3, []), (42, 1, .aaload, []), (43, 1, .aload_n 1, []), (44, 3, .getfield 186, [0, 15, 402]), (47, 3, .putfield 186, [0, 15, 402]), (50, 1, .iconst 1, []), (51, 1, .istore_n 2, [])] 2 [vR (c0 + 2), vR (c1 + 2), vI x2, vI x3] [] M Q
  simp only [w_il_3, w_bipush, w_ic_ge]
  exact ⟨fun _ => h, fun q => absurd hx q⟩
theorem bx_48_1 {sx : Int → Int} {L : Nat} {c0 : Nat} {x1 : Int} {x2 : Int} {M : Mem} {Q : Option AV → Mem → Prop} (h0 : isRb c0) (hx : (8 : Int) ≤ x2)
    (h : Rn sx L K0 R0 48 4 [vR (c0 + 2), vI x1, vI x2, vU] [] M Q) : Rn sx L K0 R0 48 1 [vR (c0 + 2), vI x1, vI x2, vU] [] M Q := by
  refine Rn_w (by decide) ?_
  show wpc sx L K0 R0 48 [(2, 1, .iload_n 2, []), (3, 2, .bipush 8, []), (5, 3, .if_icmp .ge 42, [4]), (8, 1, .aload_n 0, []), (9, 3, .getfield 11, [3, 1, 445]), (12, 1, .iload_n 2, []), (13, 1, .aaload, []), (14, 1, .aload_n 0, []), (15, 3, .getfield 149, [3, 13, 461]), (18, 1, .iload_n 2, []), (19, 1, .ishr, []), (20, 1, .iconst 1, []), (21, 1, .iand, []), (22, 3, .ifCond .eq 15, [2]), (25, 1, .aload_n 0, []), (26, 3, .getfield 11, [3, 1, 445]), (29, 1, .iload_n 2, []), (30, 1, .aaload, []), (31, 3, .getfield 208, [0, 13, 399]), (34, 3, .goto 4, [3])] 0 [vR (c0 + 2), vI x1, vI x2, vU] [] M Q
  simp only [w_il_2, w_bipush, w_ic_ge]
  exact ⟨fun _ => h, fun q => absurd hx q⟩
set_option maxRecDepth 8192 in
theorem bx_48_6 {sx : Int → Int} {L : Nat} {c0 : Nat} {x1 : Int} {x2 : Int} {x3 : Int} {M : Mem} {Q : Option AV → Mem → Prop} (h0 : isRb c0) (hx : (8 : Int) ≤ x3)
    (h : Rn sx L K0 R0 48 8 [vR (c0 + 2), vI x1, vI x2, vI x3] [] M Q) : Rn sx L K0 R0 48 6 [vR (c0 + 2), vI x1, vI x2, vI x3] [] M Q := by
  refine Rn_w (by decide) ?_
  show wpc sx L K0 R0 48 [(57, 1, .iload_n 3, []), (58, 2, .bipush 8, []), (60, 3, .if_icmp .ge 48, [8]), (63, 1, .aload_n 0, []), (64, 3, .getfield 11, [3, 1, 445]), (67, 1, .iload_n 3, []), (68, 1, .aaload, []), (69, 3, .getfield 227, [0, 14, 400]), (72, 1, .iload_n 2, []), (73, 1, .ishr, []), (74, 1, .iconst 1, []), (75, 1, .iand, []), (76, 3, .ifCond .eq 26, [7]), (79, 1, .aload_n 0, []), (80, 3, .getfield 11, [3, 1, 445]), (83, 1, .iload_n 3, []), (84, 1, .aaload, []), (85, 1, .dup, []), (86, 3, .getfield 227, [0, 14, 400]), (89, 1, .aload_n 0, []), (90, 3, .getfield 11, [3, 1, 445]), (93, 1, .iload_n 2, []), (94, 1, .aaload, []), (95, 3, .getfield 227, [0, 14, 400]), (98, 1, .ior, []), (99, 3, .putfield 227, [0, 14, 400])] 7 [vR (c0 + 2), vI x1, vI x2, vI x3] [] M Q
  simp only [w_il_3, w_bipush, w_ic_ge]
  exact ⟨fun _ => h, fun q => absurd hx q⟩
set_option maxRecDepth 8192 in
theorem bx_48_10 {sx : Int → Int} {L : Nat} {c0 : Nat} {x1 : Int} {x2 : Int} {u3 : AV} {M : Mem} {Q : Option AV → Mem → Prop} (h0 : isRb c0) (hu3 : cat2 u3 = false) (hx : (8 : Int) ≤ x2)
    (h : Rn sx L K0 R0 48 12 [vR (c0 + 2), vI x1, vI x2, u3] [] M Q) : Rn sx L K0 R0 48 10 [vR (c0 + 2), vI x1, vI x2, u3] [] M Q := by
  refine Rn_w (by decide) ?_
  show wpc sx L K0 R0 48 [(116, 1, .iload_n 2, []), (117, 2, .bipush 8, []), (119, 3, .if_icmp .ge 42, [12]), (122, 1, .aload_n 0, []), (123, 3, .getfield 11, [3, 1, 445]), (126, 1, .iload_n 2, []), (127, 1, .aaload, []), (128, 3, .getfield 227, [0, 14, 400]), (131, 1, .iload_n 2, []), (132, 1, .ishr, []), (133, 1, .iconst 1, []), (134, 1, .iand, []), (135, 3, .ifCond .eq 20, [11]), (138, 1, .aload_n 0, []), (139, 1, .dup, []), (140, 3, .getfield 93, [3, 16, 466]), (143, 1, .iconst 1, []), (144, 1, .iload_n 2, []), (145, 1, .ishl, []), (146, 1, .ior, []), (147, 3, .putfield 93, [3, 16, 466]), (150, 1, .aload_n 0, []), (151, 1, .iload_n 1, []), (152, 3, .putfield 30, [3, 15, 463])] 11 [vR (c0 + 2), vI x1, vI x2, u3] [] M Q
  simp only [w_il_2, w_bipush, w_ic_ge]
  exact ⟨fun _ => h, fun q => absurd hx q⟩
theorem bx_49_1 {sx : Int → Int} {L : Nat} {c0 : Nat} {x1 : Int} {x2 : Int} {M : Mem} {Q : Option AV → Mem → Prop} (h0 : isRb c0) (hx : (8 : Int) ≤ x2)
    (h : Rn sx L K0 R0 49 4 [vR (c0 + 2), vI x1, vI x2] [] M Q) : Rn sx L K0 R0 49 1 [vR (c0 + 2), vI x1, vI x2] [] M Q := by
  refine Rn_w (by decide) ?_
  show wpc sx L K0 R0 49 [(2, 1, .iload_n 2, []), (3, 2, .bipush 8, []), (5, 3, .if_icmp .ge 69, [4]), (8, 1, .aload_n 0, []), (9, 3, .getfield 146, [3, 12, 460]), (12, 1, .iload_n 2, []), (13, 1, .ishr, []), (14, 1, .iconst 1, []), (15, 1, .iand, []), (16, 3, .ifCond .eq 23, [2]), (19, 1, .aload_n 0, []), (20, 3, .getfield 11, [3, 1, 445]), (23, 1, .iload_n 2, []), (24, 1, .aaload, []), (25, 3, .invokevirtual 230, [6, 826, 0]), (28, 3, .ifCond .eq 11, [2]), (31, 1, .aload_n 0, []), (32, 1, .iload_n 2, []), (33, 1, .iload_n 1, []), (34, 1, .iconst 1, []), (35, 1, .iadd, []), (36, 3, .invokevirtual 177, [46, 805, 2])] 2 [vR (c0 + 2), vI x1, vI x2] [] M Q
  simp only [w_il_2, w_bipush, w_ic_ge]
  exact ⟨fun _ => h, fun q => absurd hx q⟩
theorem bx_65_8 {sx : Int → Int} {L : Nat} {x1 : Int} {x2 : Int} {x3 : Int} {x4 : Int} {M : Mem} {Q : Option AV → Mem → Prop} (hx : (8 : Int) ≤ x4)
    (h : Rn sx L K0 R0 65 9 [vR 76, vI x1, vI x2, vI x3, vI x4] [] M Q) : Rn sx L K0 R0 65 8 [vR 76, vI x1, vI x2, vI x3, vI x4] [] M Q := by
  refine Rn_w (by decide) ?_
  show wpc sx L K0 R0 65 [(137, 2, .iload 4, []), (139, 2, .bipush 8, []), (141, 3, .if_icmp .ge 39, [9]), (144, 1, .aload_n 0, []), (145, 3, .getfield 22, [4, 11, 528]), (148, 2, .iload 4, []), (150, 1, .aload_n 0, []), (151, 3, .getfield 22, [4, 11, 528]), (154, 2, .iload 4, []), (156, 1, .iaload, []), (157, 1, .aload_n 0, []), (158, 3, .getfield 31, [4, 2, 517]), (161, 3, .getfield 136, [3, 1, 446]), (164, 2, .iload 4, []), (166, 1, .aaload, []), (167, 3, .invokevirtual 140, [11, 1028, 0]), (170, 3, .invokestatic 145, [1002, 1029]), (173, 1, .iastore, []), (174, 3, .iinc 4 1, []), (177, 3, .goto (-40), [8])] 0 [vR 76, vI x1, vI x2, vI x3, vI x4] [] M Q
  simp only [w_il_4, w_bipush, w_ic_ge]
  exact ⟨fun _ => h, fun q => absurd hx q⟩
theorem bx_94_10 {sx : Int → Int} {L : Nat} {x1 : Int} {x2 : Int} {x3 : Int} {x4 : Int} {x5 : Int} {M : Mem} {Q : Option AV → Mem → Prop} (hx : (8 : Int) ≤ x5)
    (h : Rn sx L K0 R0 94 11 [vR 2, vI x1, vI x2, vI x3, vI x4, vI x5] [] M Q) : Rn sx L K0 R0 94 10 [vR 2, vI x1, vI x2, vI x3, vI x4, vI x5] [] M Q := by
  refine Rn_w (by decide) ?_
  show wpc sx L K0 R0 94 [(82, 2, .iload 5, []), (84, 2, .bipush 8, []), (86, 3, .if_icmp .ge 26, [11]), (89, 1, .aload_n 0, []), (90, 3, .getfield 18, [8, 1, 567]), (93, 2, .iload 5, []), (95, 1, .aaload, []), (96, 1, .aload_n 0, []), (97, 3, .getfield 10, [8, 0, 566]), (100, 3, .getfield 64, [7, 0, 172]), (103, 3, .invokevirtual 72, [15, 609, 1]), (106, 3, .iinc 5 1, []), (109, 3, .goto (-27), [10])] 0 [vR 2, vI x1, vI x2, vI x3, vI x4, vI x5] [] M Q
  simp only [w_il_5, w_bipush, w_ic_ge]
  exact ⟨fun _ => h, fun q => absurd hx q⟩
theorem bx_107_1 {sx : Int → Int} {L : Nat} {x1 : Int} {x2 : Int} {M : Mem} {Q : Option AV → Mem → Prop} (hx : (8 : Int) ≤ x2)
    (h : Rn sx L K0 R0 107 2 [vR 2, vI x1, vI x2] [] M Q) : Rn sx L K0 R0 107 1 [vR 2, vI x1, vI x2] [] M Q := by
  refine Rn_w (by decide) ?_
  show wpc sx L K0 R0 107 [(8, 1, .iload_n 2, []), (9, 2, .bipush 8, []), (11, 3, .if_icmp .ge 31, [2]), (14, 1, .iload_n 1, []), (15, 1, .aload_n 0, []), (16, 3, .getfield 51, [8, 4, 570]), (19, 3, .getfield 159, [3, 1, 447]), (22, 1, .iload_n 2, []), (23, 1, .aaload, []), (24, 1, .aload_n 0, []), (25, 3, .getfield 25, [8, 2, 568]), (28, 3, .getfield 175, [5, 7, 228]), (31, 3, .invokevirtual 178, [10, 865, 1]), (34, 1, .iadd, []), (35, 1, .istore_n 1, []), (36, 3, .iinc 2 1, []), (39, 3, .goto (-31), [1])] 0 [vR 2, vI x1, vI x2] [] M Q
  simp only [w_il_2, w_bipush, w_ic_ge]
  exact ⟨fun _ => h, fun q => absurd hx q⟩
theorem bx_133_1 {sx : Int → Int} {L : Nat} {x1 : Int} {x2 : Int} {M : Mem} {Q : Option AV → Mem → Prop} (hx : (8 : Int) ≤ x2)
    (h : Rn sx L K0 R0 133 2 [vR 2, vI x1, vI x2] [] M Q) : Rn sx L K0 R0 133 1 [vR 2, vI x1, vI x2] [] M Q := by
  refine Rn_w (by decide) ?_
  show wpc sx L K0 R0 133 [(4, 1, .iload_n 2, []), (5, 2, .bipush 8, []), (7, 3, .if_icmp .ge 21, [2]), (10, 1, .iload_n 1, []), (11, 1, .aload_n 0, []), (12, 3, .getfield 18, [8, 1, 567]), (15, 1, .iload_n 2, []), (16, 1, .aaload, []), (17, 3, .getfield 90, [1, 1, 270]), (20, 1, .iadd, []), (21, 1, .istore_n 1, []), (22, 3, .iinc 2 1, []), (25, 3, .goto (-21), [1])] 0 [vR 2, vI x1, vI x2] [] M Q
  simp only [w_il_2, w_bipush, w_ic_ge]
  exact ⟨fun _ => h, fun q => absurd hx q⟩
theorem bx_134_1 {sx : Int → Int} {L : Nat} {x1 : Int} {x2 : Int} {M : Mem} {Q : Option AV → Mem → Prop} (hx : (8 : Int) ≤ x2)
    (h : Rn sx L K0 R0 134 3 [vR 2, vI x1, vI x2] [] M Q) : Rn sx L K0 R0 134 1 [vR 2, vI x1, vI x2] [] M Q := by
  refine Rn_w (by decide) ?_
  show wpc sx L K0 R0 134 [(4, 1, .iload_n 2, []), (5, 2, .bipush 8, []), (7, 3, .if_icmp .ge 39, [3]), (10, 1, .aload_n 0, []), (11, 3, .getfield 18, [8, 1, 567]), (14, 1, .iload_n 2, []), (15, 1, .aaload, []), (16, 3, .getfield 96, [1, 3, 273]), (19, 1, .iconst (-1), []), (20, 3, .if_icmp .ne 20, [2]), (23, 1, .aload_n 0, []), (24, 3, .getfield 127, [8, 8, 574]), (27, 1, .iload_n 2, []), (28, 1, .ishr, []), (29, 1, .iconst 1, []), (30, 1, .iand, []), (31, 3, .ifCond .ne 9, [2]), (34, 1, .iload_n 1, []), (35, 1, .iconst 1, []), (36, 1, .iload_n 2, []), (37, 1, .ishl, []), (38, 1, .ior, []), (39, 1, .istore_n 1, [])] 2 [vR 2, vI x1, vI x2] [] M Q
  simp only [w_il_2, w_bipush, w_ic_ge]
  exact ⟨fun _ => h, fun q => absurd hx q⟩

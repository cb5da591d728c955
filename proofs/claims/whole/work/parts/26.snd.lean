/-! every instruction, written by program -/
theorem ow_X9_goBack : (mtJ 185).1.cls = "SatchelSinsModel" := rfl
def D_X9_goBack : List (Nat × Instr × Nat) := [(0, .iload_n 1, 1), (1, .i2l, 1), (2, .lconst 0, 1), (3, .lconst 1, 1), (4, .invokestatic 94, 3), (7, .ifCond .ne 6, 3), (10, .ldc 205, 2), (12, .ireturn, 1), (13, .aload_n 0, 1), (14, .getfield 84, 3), (17, .iload_n 1, 1), (18, .baload, 1), (19, .ifCond .ne 6, 3), (22, .ldc 212, 2), (24, .ireturn, 1), (25, .iconst 0, 1), (26, .istore_n 2, 1), (27, .iload_n 2, 1), (28, .bipush 22, 2), (30, .if_icmp .ge 26, 3), (33, .aload_n 0, 1), (34, .getfield 25, 3), (37, .iload_n 2, 1), (38, .aload_n 0, 1), (39, .getfield 81, 3), (42, .bipush 23, 2), (44, .iload_n 1, 1), (45, .imul, 1), (46, .iload_n 2, 1), (47, .iadd, 1), (48, .iaload, 1), (49, .iastore, 1), (50, .iinc 2 1, 3), (53, .goto (-26), 3), (56, .aload_n 0, 1), (57, .aload_n 0, 1), (58, .getfield 81, 3), (61, .bipush 23, 2), (63, .iload_n 1, 1), (64, .imul, 1), (65, .bipush 22, 2), (67, .iadd, 1), (68, .iaload, 1), (69, .putfield 235, 3), (72, .aload_n 0, 1), (73, .iconst 0, 1), (74, .putfield 175, 3), (77, .iconst 1, 1), (78, .ireturn, 1)]
theorem dd_X9_goBack : ∀ e ∈ D_X9_goBack, decode (mtJ 185).2.1 e.1 = .ok e.2 := by decide +kernel
set_option maxRecDepth 10000 in
theorem so_X9_goBack : ∀ e ∈ o_X9_goBack, SndO 185 e.1 e.2 := by
  refine List.forall_mem_cons.mpr ⟨s_iload_n (dd_X9_goBack (0, .iload_n 1, 1) (List.mem_of_getElem? (i := 0) rfl)) rfl, ?_⟩
  refine List.forall_mem_cons.mpr ⟨s_i2l (dd_X9_goBack (1, .i2l, 1) (List.mem_of_getElem? (i := 1) rfl)), ?_⟩
  refine List.forall_mem_cons.mpr ⟨s_lconst (dd_X9_goBack (2, .lconst 0, 1) (List.mem_of_getElem? (i := 2) rfl)) rfl, ?_⟩
  refine List.forall_mem_cons.mpr ⟨s_lconst (dd_X9_goBack (3, .lconst 1, 1) (List.mem_of_getElem? (i := 3) rfl)) rfl, ?_⟩
  refine List.forall_mem_cons.mpr ⟨⟨s_callS mo118 rfl (dd_X9_goBack (4, .invokestatic 94, 3) (List.mem_of_getElem? (i := 4) rfl)) ow_X9_goBack ml9_94 ms118 mn118, mo118⟩, ?_⟩
  refine List.forall_mem_cons.mpr ⟨s_if_ne (dd_X9_goBack (7, .ifCond .ne 6, 3) (List.mem_of_getElem? (i := 5) rfl)) (by decide), ?_⟩
  refine List.forall_mem_cons.mpr ⟨s_ldc (dd_X9_goBack (10, .ldc 205, 2) (List.mem_of_getElem? (i := 6) rfl)) ow_X9_goBack ki9_205, ?_⟩
  refine List.forall_mem_cons.mpr ⟨Or.inr (Or.inl ⟨rfl, (dd_X9_goBack (12, .ireturn, 1) (List.mem_of_getElem? (i := 7) rfl)), rfl⟩), ?_⟩
  refine List.forall_mem_cons.mpr ⟨s_aload_n (dd_X9_goBack (13, .aload_n 0, 1) (List.mem_of_getElem? (i := 8) rfl)) rfl, ?_⟩
  refine List.forall_mem_cons.mpr ⟨s_getR (k := 40) K9 (by decide) (dd_X9_goBack (14, .getfield 84, 3) (List.mem_of_getElem? (i := 9) rfl)) ow_X9_goBack fl9_84 rfl, ?_⟩
  refine List.forall_mem_cons.mpr ⟨s_iload_n (dd_X9_goBack (17, .iload_n 1, 1) (List.mem_of_getElem? (i := 10) rfl)) rfl, ?_⟩
  refine List.forall_mem_cons.mpr ⟨s_bald (dd_X9_goBack (18, .baload, 1) (List.mem_of_getElem? (i := 11) rfl)), ?_⟩
  refine List.forall_mem_cons.mpr ⟨s_if_ne (dd_X9_goBack (19, .ifCond .ne 6, 3) (List.mem_of_getElem? (i := 12) rfl)) (by decide), ?_⟩
  refine List.forall_mem_cons.mpr ⟨s_ldc (dd_X9_goBack (22, .ldc 212, 2) (List.mem_of_getElem? (i := 13) rfl)) ow_X9_goBack ki9_212, ?_⟩
  refine List.forall_mem_cons.mpr ⟨Or.inr (Or.inl ⟨rfl, (dd_X9_goBack (24, .ireturn, 1) (List.mem_of_getElem? (i := 14) rfl)), rfl⟩), ?_⟩
  refine List.forall_mem_cons.mpr ⟨s_iconst (dd_X9_goBack (25, .iconst 0, 1) (List.mem_of_getElem? (i := 15) rfl)) rfl, ?_⟩
  refine List.forall_mem_cons.mpr ⟨s_istore_n (dd_X9_goBack (26, .istore_n 2, 1) (List.mem_of_getElem? (i := 16) rfl)) rfl, ?_⟩
  refine List.forall_mem_cons.mpr ⟨s_iload_n (dd_X9_goBack (27, .iload_n 2, 1) (List.mem_of_getElem? (i := 17) rfl)) rfl, ?_⟩
  refine List.forall_mem_cons.mpr ⟨s_bipush (dd_X9_goBack (28, .bipush 22, 2) (List.mem_of_getElem? (i := 18) rfl)) rfl, ?_⟩
  refine List.forall_mem_cons.mpr ⟨s_icmp_ge (dd_X9_goBack (30, .if_icmp .ge 26, 3) (List.mem_of_getElem? (i := 19) rfl)) (by decide), ?_⟩
  refine List.forall_mem_cons.mpr ⟨s_aload_n (dd_X9_goBack (33, .aload_n 0, 1) (List.mem_of_getElem? (i := 20) rfl)) rfl, ?_⟩
  refine List.forall_mem_cons.mpr ⟨s_getR (k := 9) K9 (by decide) (dd_X9_goBack (34, .getfield 25, 3) (List.mem_of_getElem? (i := 21) rfl)) ow_X9_goBack fl9_25 rfl, ?_⟩
  refine List.forall_mem_cons.mpr ⟨s_iload_n (dd_X9_goBack (37, .iload_n 2, 1) (List.mem_of_getElem? (i := 22) rfl)) rfl, ?_⟩
  refine List.forall_mem_cons.mpr ⟨s_aload_n (dd_X9_goBack (38, .aload_n 0, 1) (List.mem_of_getElem? (i := 23) rfl)) rfl, ?_⟩
  refine List.forall_mem_cons.mpr ⟨s_getR (k := 39) K9 (by decide) (dd_X9_goBack (39, .getfield 81, 3) (List.mem_of_getElem? (i := 24) rfl)) ow_X9_goBack fl9_81 rfl, ?_⟩
  refine List.forall_mem_cons.mpr ⟨s_bipush (dd_X9_goBack (42, .bipush 23, 2) (List.mem_of_getElem? (i := 25) rfl)) rfl, ?_⟩
  refine List.forall_mem_cons.mpr ⟨s_iload_n (dd_X9_goBack (44, .iload_n 1, 1) (List.mem_of_getElem? (i := 26) rfl)) rfl, ?_⟩
  refine List.forall_mem_cons.mpr ⟨s_imul (dd_X9_goBack (45, .imul, 1) (List.mem_of_getElem? (i := 27) rfl)), ?_⟩
  refine List.forall_mem_cons.mpr ⟨s_iload_n (dd_X9_goBack (46, .iload_n 2, 1) (List.mem_of_getElem? (i := 28) rfl)) rfl, ?_⟩
  refine List.forall_mem_cons.mpr ⟨s_iadd (dd_X9_goBack (47, .iadd, 1) (List.mem_of_getElem? (i := 29) rfl)), ?_⟩
  refine List.forall_mem_cons.mpr ⟨s_iald (dd_X9_goBack (48, .iaload, 1) (List.mem_of_getElem? (i := 30) rfl)), ?_⟩
  refine List.forall_mem_cons.mpr ⟨s_iast (dd_X9_goBack (49, .iastore, 1) (List.mem_of_getElem? (i := 31) rfl)), ?_⟩
  refine List.forall_mem_cons.mpr ⟨s_iinc (dd_X9_goBack (50, .iinc 2 1, 3) (List.mem_of_getElem? (i := 32) rfl)) rfl, ?_⟩
  refine List.forall_mem_cons.mpr ⟨s_goto (dd_X9_goBack (53, .goto (-26), 3) (List.mem_of_getElem? (i := 33) rfl)) (by decide), ?_⟩
  refine List.forall_mem_cons.mpr ⟨s_aload_n (dd_X9_goBack (56, .aload_n 0, 1) (List.mem_of_getElem? (i := 34) rfl)) rfl, ?_⟩
  refine List.forall_mem_cons.mpr ⟨s_aload_n (dd_X9_goBack (57, .aload_n 0, 1) (List.mem_of_getElem? (i := 35) rfl)) rfl, ?_⟩
  refine List.forall_mem_cons.mpr ⟨s_getR (k := 39) K9 (by decide) (dd_X9_goBack (58, .getfield 81, 3) (List.mem_of_getElem? (i := 36) rfl)) ow_X9_goBack fl9_81 rfl, ?_⟩
  refine List.forall_mem_cons.mpr ⟨s_bipush (dd_X9_goBack (61, .bipush 23, 2) (List.mem_of_getElem? (i := 37) rfl)) rfl, ?_⟩
  refine List.forall_mem_cons.mpr ⟨s_iload_n (dd_X9_goBack (63, .iload_n 1, 1) (List.mem_of_getElem? (i := 38) rfl)) rfl, ?_⟩
  refine List.forall_mem_cons.mpr ⟨s_imul (dd_X9_goBack (64, .imul, 1) (List.mem_of_getElem? (i := 39) rfl)), ?_⟩
  refine List.forall_mem_cons.mpr ⟨s_bipush (dd_X9_goBack (65, .bipush 22, 2) (List.mem_of_getElem? (i := 40) rfl)) rfl, ?_⟩
  refine List.forall_mem_cons.mpr ⟨s_iadd (dd_X9_goBack (67, .iadd, 1) (List.mem_of_getElem? (i := 41) rfl)), ?_⟩
  refine List.forall_mem_cons.mpr ⟨s_iald (dd_X9_goBack (68, .iaload, 1) (List.mem_of_getElem? (i := 42) rfl)), ?_⟩
  refine List.forall_mem_cons.mpr ⟨s_putI (k := 10) K9 (by decide) (dd_X9_goBack (69, .putfield 235, 3) (List.mem_of_getElem? (i := 43) rfl)) ow_X9_goBack fl9_235 (Or.inl rfl) rfl, ?_⟩
  refine List.forall_mem_cons.mpr ⟨s_aload_n (dd_X9_goBack (72, .aload_n 0, 1) (List.mem_of_getElem? (i := 44) rfl)) rfl, ?_⟩
  refine List.forall_mem_cons.mpr ⟨s_iconst (dd_X9_goBack (73, .iconst 0, 1) (List.mem_of_getElem? (i := 45) rfl)) rfl, ?_⟩
  refine List.forall_mem_cons.mpr ⟨s_putI (k := 26) K9 (by decide) (dd_X9_goBack (74, .putfield 175, 3) (List.mem_of_getElem? (i := 46) rfl)) ow_X9_goBack fl9_175 (Or.inl rfl) rfl, ?_⟩
  refine List.forall_mem_cons.mpr ⟨s_iconst (dd_X9_goBack (77, .iconst 1, 1) (List.mem_of_getElem? (i := 47) rfl)) rfl, ?_⟩
  refine List.forall_mem_cons.mpr ⟨Or.inr (Or.inl ⟨rfl, (dd_X9_goBack (78, .ireturn, 1) (List.mem_of_getElem? (i := 48) rfl)), rfl⟩), ?_⟩
  exact fun _ h => absurd h List.not_mem_nil
theorem ow_JA_fill : (mtJ 186).1.cls = "java/util/Arrays" := rfl
def D_JA_fill : List (Nat × Instr × Nat) := [(0, .iconst 0, 1), (1, .istore_n 2, 1), (2, .aload_n 0, 1), (3, .arraylength, 1), (4, .istore_n 3, 1), (5, .iload_n 2, 1), (6, .iload_n 3, 1), (7, .if_icmp .ge 13, 3), (10, .aload_n 0, 1), (11, .iload_n 2, 1), (12, .iload_n 1, 1), (13, .iastore, 1), (14, .iinc 2 1, 3), (17, .goto (-12), 3), (20, .return_, 1)]
theorem dd_JA_fill : ∀ e ∈ D_JA_fill, decode (mtJ 186).2.1 e.1 = .ok e.2 := by decide +kernel
set_option maxRecDepth 10000 in
theorem so_JA_fill : ∀ e ∈ o_JA_fill, SndO 186 e.1 e.2 := by
  refine List.forall_mem_cons.mpr ⟨s_iconst (dd_JA_fill (0, .iconst 0, 1) (List.mem_of_getElem? (i := 0) rfl)) rfl, ?_⟩
  refine List.forall_mem_cons.mpr ⟨s_istore_n (dd_JA_fill (1, .istore_n 2, 1) (List.mem_of_getElem? (i := 1) rfl)) rfl, ?_⟩
  refine List.forall_mem_cons.mpr ⟨s_aload_n (dd_JA_fill (2, .aload_n 0, 1) (List.mem_of_getElem? (i := 2) rfl)) rfl, ?_⟩
  refine List.forall_mem_cons.mpr ⟨s_alen (dd_JA_fill (3, .arraylength, 1) (List.mem_of_getElem? (i := 3) rfl)), ?_⟩
  refine List.forall_mem_cons.mpr ⟨s_istore_n (dd_JA_fill (4, .istore_n 3, 1) (List.mem_of_getElem? (i := 4) rfl)) rfl, ?_⟩
  refine List.forall_mem_cons.mpr ⟨s_iload_n (dd_JA_fill (5, .iload_n 2, 1) (List.mem_of_getElem? (i := 5) rfl)) rfl, ?_⟩
  refine List.forall_mem_cons.mpr ⟨s_iload_n (dd_JA_fill (6, .iload_n 3, 1) (List.mem_of_getElem? (i := 6) rfl)) rfl, ?_⟩
  refine List.forall_mem_cons.mpr ⟨s_icmp_ge (dd_JA_fill (7, .if_icmp .ge 13, 3) (List.mem_of_getElem? (i := 7) rfl)) (by decide), ?_⟩
  refine List.forall_mem_cons.mpr ⟨s_aload_n (dd_JA_fill (10, .aload_n 0, 1) (List.mem_of_getElem? (i := 8) rfl)) rfl, ?_⟩
  refine List.forall_mem_cons.mpr ⟨s_iload_n (dd_JA_fill (11, .iload_n 2, 1) (List.mem_of_getElem? (i := 9) rfl)) rfl, ?_⟩
  refine List.forall_mem_cons.mpr ⟨s_iload_n (dd_JA_fill (12, .iload_n 1, 1) (List.mem_of_getElem? (i := 10) rfl)) rfl, ?_⟩
  refine List.forall_mem_cons.mpr ⟨s_iast (dd_JA_fill (13, .iastore, 1) (List.mem_of_getElem? (i := 11) rfl)), ?_⟩
  refine List.forall_mem_cons.mpr ⟨s_iinc (dd_JA_fill (14, .iinc 2 1, 3) (List.mem_of_getElem? (i := 12) rfl)) rfl, ?_⟩
  refine List.forall_mem_cons.mpr ⟨s_goto (dd_JA_fill (17, .goto (-12), 3) (List.mem_of_getElem? (i := 13) rfl)) (by decide), ?_⟩
  refine List.forall_mem_cons.mpr ⟨Or.inl ⟨rfl, (dd_JA_fill (20, .return_, 1) (List.mem_of_getElem? (i := 14) rfl)), rfl⟩, ?_⟩
  exact fun _ h => absurd h List.not_mem_nil
theorem ow_L_law : (mtJ 187).1.cls = "SatchelSinsLaw" := rfl
def D_L_law_1 : List (Nat × Instr × Nat) := [(0, .new 7, 3), (3, .dup, 1), (4, .invokespecial 9, 3), (7, .astore_n 1, 1), (8, .new 10, 3), (11, .dup, 1), (12, .invokespecial 12, 3), (15, .astore_n 2, 1), (16, .iconst 0, 1), (17, .istore_n 3, 1), (18, .iload_n 3, 1), (19, .aload_n 0, 1), (20, .arraylength, 1), (21, .iconst 4, 1), (22, .isub, 1), (23, .if_icmp .gt 833, 3), (26, .aload_n 0, 1), (27, .iload_n 3, 1), (28, .iaload, 1), (29, .bipush 31, 2), (31, .iand, 1), (32, .tableswitch 818 0 27 #[128, 151, 164, 177, 200, 233, 266, 289, 322, 355, 378, 391, 414, 437, 450, 473, 496, 519, 552, 585, 618, 677, 690, 723, 736, 749, 772, 795], 128), (160, .aload_n 1, 1), (161, .aload_n 0, 1), (162, .iload_n 3, 1), (163, .iconst 1, 1), (164, .iadd, 1), (165, .iaload, 1), (166, .invokevirtual 13, 3), (169, .aload_n 2, 1), (170, .aload_n 0, 1), (171, .iload_n 3, 1), (172, .iconst 1, 1), (173, .iadd, 1), (174, .iaload, 1), (175, .invokevirtual 17, 3), (178, .if_icmp .eq 672, 3), (181, .iconst 0, 1), (182, .ireturn, 1), (183, .aload_n 1, 1), (184, .invokevirtual 18, 3), (187, .aload_n 2, 1), (188, .invokevirtual 22, 3), (191, .if_icmp .eq 659, 3), (194, .iconst 0, 1), (195, .ireturn, 1), (196, .aload_n 1, 1), (197, .invokevirtual 23, 3), (200, .aload_n 2, 1), (201, .invokevirtual 26, 3), (204, .if_icmp .eq 646, 3), (207, .iconst 0, 1), (208, .ireturn, 1), (209, .aload_n 1, 1), (210, .aload_n 0, 1), (211, .iload_n 3, 1), (212, .iconst 1, 1), (213, .iadd, 1), (214, .iaload, 1), (215, .invokevirtual 27, 3)]
theorem dd_L_law_1 : ∀ e ∈ D_L_law_1, decode (mtJ 187).2.1 e.1 = .ok e.2 := by decide +kernel
set_option maxRecDepth 10000 in
theorem so_L_law_1 : ∀ e ∈ o_L_law_1, SndO 187 e.1 e.2 := by
  refine List.forall_mem_cons.mpr ⟨s_new K8 (dd_L_law_1 (0, .new 7, 3) (List.mem_of_getElem? (i := 0) rfl)) ow_L_law ckL_7 ci8 in_8 ok8, ?_⟩
  refine List.forall_mem_cons.mpr ⟨s_dup (dd_L_law_1 (3, .dup, 1) (List.mem_of_getElem? (i := 1) rfl)), ?_⟩
  refine List.forall_mem_cons.mpr ⟨⟨s_callI mo84 rfl rfl rfl (dd_L_law_1 (4, .invokespecial 9, 3) (List.mem_of_getElem? (i := 2) rfl)) ow_L_law mlL_9 mi84 mn84, mo84⟩, ?_⟩
  refine List.forall_mem_cons.mpr ⟨s_astore_n (dd_L_law_1 (7, .astore_n 1, 1) (List.mem_of_getElem? (i := 3) rfl)) rfl, ?_⟩
  refine List.forall_mem_cons.mpr ⟨s_new K9 (dd_L_law_1 (8, .new 10, 3) (List.mem_of_getElem? (i := 4) rfl)) ow_L_law ckL_10 ci9 in_9 ok9, ?_⟩
  refine List.forall_mem_cons.mpr ⟨s_dup (dd_L_law_1 (11, .dup, 1) (List.mem_of_getElem? (i := 5) rfl)), ?_⟩
  refine List.forall_mem_cons.mpr ⟨⟨s_callI mo117 rfl rfl rfl (dd_L_law_1 (12, .invokespecial 12, 3) (List.mem_of_getElem? (i := 6) rfl)) ow_L_law mlL_12 mi117 mn117, mo117⟩, ?_⟩
  refine List.forall_mem_cons.mpr ⟨s_astore_n (dd_L_law_1 (15, .astore_n 2, 1) (List.mem_of_getElem? (i := 7) rfl)) rfl, ?_⟩
  refine List.forall_mem_cons.mpr ⟨s_iconst (dd_L_law_1 (16, .iconst 0, 1) (List.mem_of_getElem? (i := 8) rfl)) rfl, ?_⟩
  refine List.forall_mem_cons.mpr ⟨s_istore_n (dd_L_law_1 (17, .istore_n 3, 1) (List.mem_of_getElem? (i := 9) rfl)) rfl, ?_⟩
  refine List.forall_mem_cons.mpr ⟨s_iload_n (dd_L_law_1 (18, .iload_n 3, 1) (List.mem_of_getElem? (i := 10) rfl)) rfl, ?_⟩
  refine List.forall_mem_cons.mpr ⟨s_aload_n (dd_L_law_1 (19, .aload_n 0, 1) (List.mem_of_getElem? (i := 11) rfl)) rfl, ?_⟩
  refine List.forall_mem_cons.mpr ⟨s_alen (dd_L_law_1 (20, .arraylength, 1) (List.mem_of_getElem? (i := 12) rfl)), ?_⟩
  refine List.forall_mem_cons.mpr ⟨s_iconst (dd_L_law_1 (21, .iconst 4, 1) (List.mem_of_getElem? (i := 13) rfl)) rfl, ?_⟩
  refine List.forall_mem_cons.mpr ⟨s_isub (dd_L_law_1 (22, .isub, 1) (List.mem_of_getElem? (i := 14) rfl)), ?_⟩
  refine List.forall_mem_cons.mpr ⟨s_icmp_gt (dd_L_law_1 (23, .if_icmp .gt 833, 3) (List.mem_of_getElem? (i := 15) rfl)) (by decide), ?_⟩
  refine List.forall_mem_cons.mpr ⟨s_aload_n (dd_L_law_1 (26, .aload_n 0, 1) (List.mem_of_getElem? (i := 16) rfl)) rfl, ?_⟩
  refine List.forall_mem_cons.mpr ⟨s_iload_n (dd_L_law_1 (27, .iload_n 3, 1) (List.mem_of_getElem? (i := 17) rfl)) rfl, ?_⟩
  refine List.forall_mem_cons.mpr ⟨s_iald (dd_L_law_1 (28, .iaload, 1) (List.mem_of_getElem? (i := 18) rfl)), ?_⟩
  refine List.forall_mem_cons.mpr ⟨s_bipush (dd_L_law_1 (29, .bipush 31, 2) (List.mem_of_getElem? (i := 19) rfl)) rfl, ?_⟩
  refine List.forall_mem_cons.mpr ⟨s_iand (dd_L_law_1 (31, .iand, 1) (List.mem_of_getElem? (i := 20) rfl)), ?_⟩
  refine List.forall_mem_cons.mpr ⟨s_tsw (dd_L_law_1 (32, .tableswitch 818 0 27 #[128, 151, 164, 177, 200, 233, 266, 289, 322, 355, 378, 391, 414, 437, 450, 473, 496, 519, 552, 585, 618, 677, 690, 723, 736, 749, 772, 795], 128) (List.mem_of_getElem? (i := 21) rfl)) (by decide) (by decide) (by decide), ?_⟩
  refine List.forall_mem_cons.mpr ⟨s_aload_n (dd_L_law_1 (160, .aload_n 1, 1) (List.mem_of_getElem? (i := 22) rfl)) rfl, ?_⟩
  refine List.forall_mem_cons.mpr ⟨s_aload_n (dd_L_law_1 (161, .aload_n 0, 1) (List.mem_of_getElem? (i := 23) rfl)) rfl, ?_⟩
  refine List.forall_mem_cons.mpr ⟨s_iload_n (dd_L_law_1 (162, .iload_n 3, 1) (List.mem_of_getElem? (i := 24) rfl)) rfl, ?_⟩
  refine List.forall_mem_cons.mpr ⟨s_iconst (dd_L_law_1 (163, .iconst 1, 1) (List.mem_of_getElem? (i := 25) rfl)) rfl, ?_⟩
  refine List.forall_mem_cons.mpr ⟨s_iadd (dd_L_law_1 (164, .iadd, 1) (List.mem_of_getElem? (i := 26) rfl)), ?_⟩
  refine List.forall_mem_cons.mpr ⟨s_iald (dd_L_law_1 (165, .iaload, 1) (List.mem_of_getElem? (i := 27) rfl)), ?_⟩
  refine List.forall_mem_cons.mpr ⟨⟨s_callV (ci := 8) rfl mo85 rfl rfl (dd_L_law_1 (166, .invokevirtual 13, 3) (List.mem_of_getElem? (i := 28) rfl)) ow_L_law mlL_13 mi85 msl85 in_8 mn85, mo85⟩, ?_⟩
  refine List.forall_mem_cons.mpr ⟨s_aload_n (dd_L_law_1 (169, .aload_n 2, 1) (List.mem_of_getElem? (i := 29) rfl)) rfl, ?_⟩
  refine List.forall_mem_cons.mpr ⟨s_aload_n (dd_L_law_1 (170, .aload_n 0, 1) (List.mem_of_getElem? (i := 30) rfl)) rfl, ?_⟩
  refine List.forall_mem_cons.mpr ⟨s_iload_n (dd_L_law_1 (171, .iload_n 3, 1) (List.mem_of_getElem? (i := 31) rfl)) rfl, ?_⟩
  refine List.forall_mem_cons.mpr ⟨s_iconst (dd_L_law_1 (172, .iconst 1, 1) (List.mem_of_getElem? (i := 32) rfl)) rfl, ?_⟩
  refine List.forall_mem_cons.mpr ⟨s_iadd (dd_L_law_1 (173, .iadd, 1) (List.mem_of_getElem? (i := 33) rfl)), ?_⟩
  refine List.forall_mem_cons.mpr ⟨s_iald (dd_L_law_1 (174, .iaload, 1) (List.mem_of_getElem? (i := 34) rfl)), ?_⟩
  refine List.forall_mem_cons.mpr ⟨⟨s_callV (ci := 9) rfl mo122 rfl rfl (dd_L_law_1 (175, .invokevirtual 17, 3) (List.mem_of_getElem? (i := 35) rfl)) ow_L_law mlL_17 mi122 msl122 in_9 mn122, mo122⟩, ?_⟩
  refine List.forall_mem_cons.mpr ⟨s_icmp_eq (dd_L_law_1 (178, .if_icmp .eq 672, 3) (List.mem_of_getElem? (i := 36) rfl)) (by decide), ?_⟩
  refine List.forall_mem_cons.mpr ⟨s_iconst (dd_L_law_1 (181, .iconst 0, 1) (List.mem_of_getElem? (i := 37) rfl)) rfl, ?_⟩
  refine List.forall_mem_cons.mpr ⟨Or.inr (Or.inr ⟨rfl, (dd_L_law_1 (182, .ireturn, 1) (List.mem_of_getElem? (i := 38) rfl)), rfl⟩), ?_⟩
  refine List.forall_mem_cons.mpr ⟨s_aload_n (dd_L_law_1 (183, .aload_n 1, 1) (List.mem_of_getElem? (i := 39) rfl)) rfl, ?_⟩
  refine List.forall_mem_cons.mpr ⟨⟨s_callV (ci := 8) rfl mo86 rfl rfl (dd_L_law_1 (184, .invokevirtual 18, 3) (List.mem_of_getElem? (i := 40) rfl)) ow_L_law mlL_18 mi86 msl86 in_8 mn86, mo86⟩, ?_⟩
  refine List.forall_mem_cons.mpr ⟨s_aload_n (dd_L_law_1 (187, .aload_n 2, 1) (List.mem_of_getElem? (i := 41) rfl)) rfl, ?_⟩
  refine List.forall_mem_cons.mpr ⟨⟨s_callV (ci := 9) rfl mo133 rfl rfl (dd_L_law_1 (188, .invokevirtual 22, 3) (List.mem_of_getElem? (i := 42) rfl)) ow_L_law mlL_22 mi133 msl133 in_9 mn133, mo133⟩, ?_⟩
  refine List.forall_mem_cons.mpr ⟨s_icmp_eq (dd_L_law_1 (191, .if_icmp .eq 659, 3) (List.mem_of_getElem? (i := 43) rfl)) (by decide), ?_⟩
  refine List.forall_mem_cons.mpr ⟨s_iconst (dd_L_law_1 (194, .iconst 0, 1) (List.mem_of_getElem? (i := 44) rfl)) rfl, ?_⟩
  refine List.forall_mem_cons.mpr ⟨Or.inr (Or.inr ⟨rfl, (dd_L_law_1 (195, .ireturn, 1) (List.mem_of_getElem? (i := 45) rfl)), rfl⟩), ?_⟩
  refine List.forall_mem_cons.mpr ⟨s_aload_n (dd_L_law_1 (196, .aload_n 1, 1) (List.mem_of_getElem? (i := 46) rfl)) rfl, ?_⟩
  refine List.forall_mem_cons.mpr ⟨⟨s_callV (ci := 8) rfl mo87 rfl rfl (dd_L_law_1 (197, .invokevirtual 23, 3) (List.mem_of_getElem? (i := 47) rfl)) ow_L_law mlL_23 mi87 msl87 in_8 mn87, mo87⟩, ?_⟩
  refine List.forall_mem_cons.mpr ⟨s_aload_n (dd_L_law_1 (200, .aload_n 2, 1) (List.mem_of_getElem? (i := 48) rfl)) rfl, ?_⟩
  refine List.forall_mem_cons.mpr ⟨⟨s_callV (ci := 9) rfl mo134 rfl rfl (dd_L_law_1 (201, .invokevirtual 26, 3) (List.mem_of_getElem? (i := 49) rfl)) ow_L_law mlL_26 mi134 msl134 in_9 mn134, mo134⟩, ?_⟩
  refine List.forall_mem_cons.mpr ⟨s_icmp_eq (dd_L_law_1 (204, .if_icmp .eq 646, 3) (List.mem_of_getElem? (i := 50) rfl)) (by decide), ?_⟩
  refine List.forall_mem_cons.mpr ⟨s_iconst (dd_L_law_1 (207, .iconst 0, 1) (List.mem_of_getElem? (i := 51) rfl)) rfl, ?_⟩
  refine List.forall_mem_cons.mpr ⟨Or.inr (Or.inr ⟨rfl, (dd_L_law_1 (208, .ireturn, 1) (List.mem_of_getElem? (i := 52) rfl)), rfl⟩), ?_⟩
  refine List.forall_mem_cons.mpr ⟨s_aload_n (dd_L_law_1 (209, .aload_n 1, 1) (List.mem_of_getElem? (i := 53) rfl)) rfl, ?_⟩
  refine List.forall_mem_cons.mpr ⟨s_aload_n (dd_L_law_1 (210, .aload_n 0, 1) (List.mem_of_getElem? (i := 54) rfl)) rfl, ?_⟩
  refine List.forall_mem_cons.mpr ⟨s_iload_n (dd_L_law_1 (211, .iload_n 3, 1) (List.mem_of_getElem? (i := 55) rfl)) rfl, ?_⟩
  refine List.forall_mem_cons.mpr ⟨s_iconst (dd_L_law_1 (212, .iconst 1, 1) (List.mem_of_getElem? (i := 56) rfl)) rfl, ?_⟩
  refine List.forall_mem_cons.mpr ⟨s_iadd (dd_L_law_1 (213, .iadd, 1) (List.mem_of_getElem? (i := 57) rfl)), ?_⟩
  refine List.forall_mem_cons.mpr ⟨s_iald (dd_L_law_1 (214, .iaload, 1) (List.mem_of_getElem? (i := 58) rfl)), ?_⟩
  refine List.forall_mem_cons.mpr ⟨⟨s_callV (ci := 8) rfl mo88 rfl rfl (dd_L_law_1 (215, .invokevirtual 27, 3) (List.mem_of_getElem? (i := 59) rfl)) ow_L_law mlL_27 mi88 msl88 in_8 mn88, mo88⟩, ?_⟩
  exact fun _ h => absurd h List.not_mem_nil
def D_L_law_2 : List (Nat × Instr × Nat) := [(218, .aload_n 2, 1), (219, .aload_n 0, 1), (220, .iload_n 3, 1), (221, .iconst 1, 1), (222, .iadd, 1), (223, .iaload, 1), (224, .invokevirtual 30, 3), (227, .if_icmp .eq 623, 3), (230, .iconst 0, 1), (231, .ireturn, 1), (232, .aload_n 1, 1), (233, .aload_n 0, 1), (234, .iload_n 3, 1), (235, .iconst 1, 1), (236, .iadd, 1), (237, .iaload, 1), (238, .aload_n 0, 1), (239, .iload_n 3, 1), (240, .iconst 2, 1), (241, .iadd, 1), (242, .iaload, 1), (243, .invokevirtual 31, 3), (246, .aload_n 2, 1), (247, .aload_n 0, 1), (248, .iload_n 3, 1), (249, .iconst 1, 1), (250, .iadd, 1), (251, .iaload, 1), (252, .aload_n 0, 1), (253, .iload_n 3, 1), (254, .iconst 2, 1), (255, .iadd, 1), (256, .iaload, 1), (257, .invokevirtual 35, 3), (260, .if_icmp .eq 590, 3), (263, .iconst 0, 1), (264, .ireturn, 1), (265, .aload_n 1, 1), (266, .aload_n 0, 1), (267, .iload_n 3, 1), (268, .iconst 1, 1), (269, .iadd, 1), (270, .iaload, 1), (271, .aload_n 0, 1), (272, .iload_n 3, 1), (273, .iconst 2, 1), (274, .iadd, 1), (275, .iaload, 1), (276, .invokevirtual 36, 3), (279, .aload_n 2, 1), (280, .aload_n 0, 1), (281, .iload_n 3, 1), (282, .iconst 1, 1), (283, .iadd, 1), (284, .iaload, 1), (285, .aload_n 0, 1), (286, .iload_n 3, 1), (287, .iconst 2, 1), (288, .iadd, 1), (289, .iaload, 1)]
theorem dd_L_law_2 : ∀ e ∈ D_L_law_2, decode (mtJ 187).2.1 e.1 = .ok e.2 := by decide +kernel
set_option maxRecDepth 10000 in
theorem so_L_law_2 : ∀ e ∈ o_L_law_2, SndO 187 e.1 e.2 := by
  refine List.forall_mem_cons.mpr ⟨s_aload_n (dd_L_law_2 (218, .aload_n 2, 1) (List.mem_of_getElem? (i := 0) rfl)) rfl, ?_⟩
  refine List.forall_mem_cons.mpr ⟨s_aload_n (dd_L_law_2 (219, .aload_n 0, 1) (List.mem_of_getElem? (i := 1) rfl)) rfl, ?_⟩
  refine List.forall_mem_cons.mpr ⟨s_iload_n (dd_L_law_2 (220, .iload_n 3, 1) (List.mem_of_getElem? (i := 2) rfl)) rfl, ?_⟩
  refine List.forall_mem_cons.mpr ⟨s_iconst (dd_L_law_2 (221, .iconst 1, 1) (List.mem_of_getElem? (i := 3) rfl)) rfl, ?_⟩
  refine List.forall_mem_cons.mpr ⟨s_iadd (dd_L_law_2 (222, .iadd, 1) (List.mem_of_getElem? (i := 4) rfl)), ?_⟩
  refine List.forall_mem_cons.mpr ⟨s_iald (dd_L_law_2 (223, .iaload, 1) (List.mem_of_getElem? (i := 5) rfl)), ?_⟩
  refine List.forall_mem_cons.mpr ⟨⟨s_callV (ci := 9) rfl mo143 rfl rfl (dd_L_law_2 (224, .invokevirtual 30, 3) (List.mem_of_getElem? (i := 6) rfl)) ow_L_law mlL_30 mi143 msl143 in_9 mn143, mo143⟩, ?_⟩
  refine List.forall_mem_cons.mpr ⟨s_icmp_eq (dd_L_law_2 (227, .if_icmp .eq 623, 3) (List.mem_of_getElem? (i := 7) rfl)) (by decide), ?_⟩
  refine List.forall_mem_cons.mpr ⟨s_iconst (dd_L_law_2 (230, .iconst 0, 1) (List.mem_of_getElem? (i := 8) rfl)) rfl, ?_⟩
  refine List.forall_mem_cons.mpr ⟨Or.inr (Or.inr ⟨rfl, (dd_L_law_2 (231, .ireturn, 1) (List.mem_of_getElem? (i := 9) rfl)), rfl⟩), ?_⟩
  refine List.forall_mem_cons.mpr ⟨s_aload_n (dd_L_law_2 (232, .aload_n 1, 1) (List.mem_of_getElem? (i := 10) rfl)) rfl, ?_⟩
  refine List.forall_mem_cons.mpr ⟨s_aload_n (dd_L_law_2 (233, .aload_n 0, 1) (List.mem_of_getElem? (i := 11) rfl)) rfl, ?_⟩
  refine List.forall_mem_cons.mpr ⟨s_iload_n (dd_L_law_2 (234, .iload_n 3, 1) (List.mem_of_getElem? (i := 12) rfl)) rfl, ?_⟩
  refine List.forall_mem_cons.mpr ⟨s_iconst (dd_L_law_2 (235, .iconst 1, 1) (List.mem_of_getElem? (i := 13) rfl)) rfl, ?_⟩
  refine List.forall_mem_cons.mpr ⟨s_iadd (dd_L_law_2 (236, .iadd, 1) (List.mem_of_getElem? (i := 14) rfl)), ?_⟩
  refine List.forall_mem_cons.mpr ⟨s_iald (dd_L_law_2 (237, .iaload, 1) (List.mem_of_getElem? (i := 15) rfl)), ?_⟩
  refine List.forall_mem_cons.mpr ⟨s_aload_n (dd_L_law_2 (238, .aload_n 0, 1) (List.mem_of_getElem? (i := 16) rfl)) rfl, ?_⟩
  refine List.forall_mem_cons.mpr ⟨s_iload_n (dd_L_law_2 (239, .iload_n 3, 1) (List.mem_of_getElem? (i := 17) rfl)) rfl, ?_⟩
  refine List.forall_mem_cons.mpr ⟨s_iconst (dd_L_law_2 (240, .iconst 2, 1) (List.mem_of_getElem? (i := 18) rfl)) rfl, ?_⟩
  refine List.forall_mem_cons.mpr ⟨s_iadd (dd_L_law_2 (241, .iadd, 1) (List.mem_of_getElem? (i := 19) rfl)), ?_⟩
  refine List.forall_mem_cons.mpr ⟨s_iald (dd_L_law_2 (242, .iaload, 1) (List.mem_of_getElem? (i := 20) rfl)), ?_⟩
  refine List.forall_mem_cons.mpr ⟨⟨s_callV (ci := 8) rfl mo89 rfl rfl (dd_L_law_2 (243, .invokevirtual 31, 3) (List.mem_of_getElem? (i := 21) rfl)) ow_L_law mlL_31 mi89 msl89 in_8 mn89, mo89⟩, ?_⟩
  refine List.forall_mem_cons.mpr ⟨s_aload_n (dd_L_law_2 (246, .aload_n 2, 1) (List.mem_of_getElem? (i := 22) rfl)) rfl, ?_⟩
  refine List.forall_mem_cons.mpr ⟨s_aload_n (dd_L_law_2 (247, .aload_n 0, 1) (List.mem_of_getElem? (i := 23) rfl)) rfl, ?_⟩
  refine List.forall_mem_cons.mpr ⟨s_iload_n (dd_L_law_2 (248, .iload_n 3, 1) (List.mem_of_getElem? (i := 24) rfl)) rfl, ?_⟩
  refine List.forall_mem_cons.mpr ⟨s_iconst (dd_L_law_2 (249, .iconst 1, 1) (List.mem_of_getElem? (i := 25) rfl)) rfl, ?_⟩
  refine List.forall_mem_cons.mpr ⟨s_iadd (dd_L_law_2 (250, .iadd, 1) (List.mem_of_getElem? (i := 26) rfl)), ?_⟩
  refine List.forall_mem_cons.mpr ⟨s_iald (dd_L_law_2 (251, .iaload, 1) (List.mem_of_getElem? (i := 27) rfl)), ?_⟩
  refine List.forall_mem_cons.mpr ⟨s_aload_n (dd_L_law_2 (252, .aload_n 0, 1) (List.mem_of_getElem? (i := 28) rfl)) rfl, ?_⟩
  refine List.forall_mem_cons.mpr ⟨s_iload_n (dd_L_law_2 (253, .iload_n 3, 1) (List.mem_of_getElem? (i := 29) rfl)) rfl, ?_⟩
  refine List.forall_mem_cons.mpr ⟨s_iconst (dd_L_law_2 (254, .iconst 2, 1) (List.mem_of_getElem? (i := 30) rfl)) rfl, ?_⟩
  refine List.forall_mem_cons.mpr ⟨s_iadd (dd_L_law_2 (255, .iadd, 1) (List.mem_of_getElem? (i := 31) rfl)), ?_⟩
  refine List.forall_mem_cons.mpr ⟨s_iald (dd_L_law_2 (256, .iaload, 1) (List.mem_of_getElem? (i := 32) rfl)), ?_⟩
  refine List.forall_mem_cons.mpr ⟨⟨s_callV (ci := 9) rfl mo144 rfl rfl (dd_L_law_2 (257, .invokevirtual 35, 3) (List.mem_of_getElem? (i := 33) rfl)) ow_L_law mlL_35 mi144 msl144 in_9 mn144, mo144⟩, ?_⟩
  refine List.forall_mem_cons.mpr ⟨s_icmp_eq (dd_L_law_2 (260, .if_icmp .eq 590, 3) (List.mem_of_getElem? (i := 34) rfl)) (by decide), ?_⟩
  refine List.forall_mem_cons.mpr ⟨s_iconst (dd_L_law_2 (263, .iconst 0, 1) (List.mem_of_getElem? (i := 35) rfl)) rfl, ?_⟩
  refine List.forall_mem_cons.mpr ⟨Or.inr (Or.inr ⟨rfl, (dd_L_law_2 (264, .ireturn, 1) (List.mem_of_getElem? (i := 36) rfl)), rfl⟩), ?_⟩
  refine List.forall_mem_cons.mpr ⟨s_aload_n (dd_L_law_2 (265, .aload_n 1, 1) (List.mem_of_getElem? (i := 37) rfl)) rfl, ?_⟩
  refine List.forall_mem_cons.mpr ⟨s_aload_n (dd_L_law_2 (266, .aload_n 0, 1) (List.mem_of_getElem? (i := 38) rfl)) rfl, ?_⟩
  refine List.forall_mem_cons.mpr ⟨s_iload_n (dd_L_law_2 (267, .iload_n 3, 1) (List.mem_of_getElem? (i := 39) rfl)) rfl, ?_⟩
  refine List.forall_mem_cons.mpr ⟨s_iconst (dd_L_law_2 (268, .iconst 1, 1) (List.mem_of_getElem? (i := 40) rfl)) rfl, ?_⟩
  refine List.forall_mem_cons.mpr ⟨s_iadd (dd_L_law_2 (269, .iadd, 1) (List.mem_of_getElem? (i := 41) rfl)), ?_⟩
  refine List.forall_mem_cons.mpr ⟨s_iald (dd_L_law_2 (270, .iaload, 1) (List.mem_of_getElem? (i := 42) rfl)), ?_⟩
  refine List.forall_mem_cons.mpr ⟨s_aload_n (dd_L_law_2 (271, .aload_n 0, 1) (List.mem_of_getElem? (i := 43) rfl)) rfl, ?_⟩
  refine List.forall_mem_cons.mpr ⟨s_iload_n (dd_L_law_2 (272, .iload_n 3, 1) (List.mem_of_getElem? (i := 44) rfl)) rfl, ?_⟩
  refine List.forall_mem_cons.mpr ⟨s_iconst (dd_L_law_2 (273, .iconst 2, 1) (List.mem_of_getElem? (i := 45) rfl)) rfl, ?_⟩
  refine List.forall_mem_cons.mpr ⟨s_iadd (dd_L_law_2 (274, .iadd, 1) (List.mem_of_getElem? (i := 46) rfl)), ?_⟩
  refine List.forall_mem_cons.mpr ⟨s_iald (dd_L_law_2 (275, .iaload, 1) (List.mem_of_getElem? (i := 47) rfl)), ?_⟩
  refine List.forall_mem_cons.mpr ⟨⟨s_callV (ci := 8) rfl mo90 rfl rfl (dd_L_law_2 (276, .invokevirtual 36, 3) (List.mem_of_getElem? (i := 48) rfl)) ow_L_law mlL_36 mi90 msl90 in_8 mn90, mo90⟩, ?_⟩
  refine List.forall_mem_cons.mpr ⟨s_aload_n (dd_L_law_2 (279, .aload_n 2, 1) (List.mem_of_getElem? (i := 49) rfl)) rfl, ?_⟩
  refine List.forall_mem_cons.mpr ⟨s_aload_n (dd_L_law_2 (280, .aload_n 0, 1) (List.mem_of_getElem? (i := 50) rfl)) rfl, ?_⟩
  refine List.forall_mem_cons.mpr ⟨s_iload_n (dd_L_law_2 (281, .iload_n 3, 1) (List.mem_of_getElem? (i := 51) rfl)) rfl, ?_⟩
  refine List.forall_mem_cons.mpr ⟨s_iconst (dd_L_law_2 (282, .iconst 1, 1) (List.mem_of_getElem? (i := 52) rfl)) rfl, ?_⟩
  refine List.forall_mem_cons.mpr ⟨s_iadd (dd_L_law_2 (283, .iadd, 1) (List.mem_of_getElem? (i := 53) rfl)), ?_⟩
  refine List.forall_mem_cons.mpr ⟨s_iald (dd_L_law_2 (284, .iaload, 1) (List.mem_of_getElem? (i := 54) rfl)), ?_⟩
  refine List.forall_mem_cons.mpr ⟨s_aload_n (dd_L_law_2 (285, .aload_n 0, 1) (List.mem_of_getElem? (i := 55) rfl)) rfl, ?_⟩
  refine List.forall_mem_cons.mpr ⟨s_iload_n (dd_L_law_2 (286, .iload_n 3, 1) (List.mem_of_getElem? (i := 56) rfl)) rfl, ?_⟩
  refine List.forall_mem_cons.mpr ⟨s_iconst (dd_L_law_2 (287, .iconst 2, 1) (List.mem_of_getElem? (i := 57) rfl)) rfl, ?_⟩
  refine List.forall_mem_cons.mpr ⟨s_iadd (dd_L_law_2 (288, .iadd, 1) (List.mem_of_getElem? (i := 58) rfl)), ?_⟩
  refine List.forall_mem_cons.mpr ⟨s_iald (dd_L_law_2 (289, .iaload, 1) (List.mem_of_getElem? (i := 59) rfl)), ?_⟩
  exact fun _ h => absurd h List.not_mem_nil
def D_L_law_3 : List (Nat × Instr × Nat) := [(290, .invokevirtual 39, 3), (293, .if_icmp .eq 557, 3), (296, .iconst 0, 1), (297, .ireturn, 1), (298, .aload_n 1, 1), (299, .aload_n 0, 1), (300, .iload_n 3, 1), (301, .iconst 1, 1), (302, .iadd, 1), (303, .iaload, 1), (304, .invokevirtual 40, 3), (307, .aload_n 2, 1), (308, .aload_n 0, 1), (309, .iload_n 3, 1), (310, .iconst 1, 1), (311, .iadd, 1), (312, .iaload, 1), (313, .invokevirtual 43, 3), (316, .if_icmp .eq 534, 3), (319, .iconst 0, 1), (320, .ireturn, 1), (321, .aload_n 1, 1), (322, .aload_n 0, 1), (323, .iload_n 3, 1), (324, .iconst 1, 1), (325, .iadd, 1), (326, .iaload, 1), (327, .aload_n 0, 1), (328, .iload_n 3, 1), (329, .iconst 2, 1), (330, .iadd, 1), (331, .iaload, 1), (332, .invokevirtual 44, 3), (335, .aload_n 2, 1), (336, .aload_n 0, 1), (337, .iload_n 3, 1), (338, .iconst 1, 1), (339, .iadd, 1), (340, .iaload, 1), (341, .aload_n 0, 1), (342, .iload_n 3, 1), (343, .iconst 2, 1), (344, .iadd, 1), (345, .iaload, 1), (346, .invokevirtual 47, 3), (349, .if_icmp .eq 501, 3), (352, .iconst 0, 1), (353, .ireturn, 1), (354, .aload_n 1, 1), (355, .aload_n 0, 1), (356, .iload_n 3, 1), (357, .iconst 1, 1), (358, .iadd, 1), (359, .iaload, 1), (360, .aload_n 0, 1), (361, .iload_n 3, 1), (362, .iconst 2, 1), (363, .iadd, 1), (364, .iaload, 1), (365, .invokevirtual 48, 3)]
theorem dd_L_law_3 : ∀ e ∈ D_L_law_3, decode (mtJ 187).2.1 e.1 = .ok e.2 := by decide +kernel
set_option maxRecDepth 10000 in
theorem so_L_law_3 : ∀ e ∈ o_L_law_3, SndO 187 e.1 e.2 := by
  refine List.forall_mem_cons.mpr ⟨⟨s_callV (ci := 9) rfl mo145 rfl rfl (dd_L_law_3 (290, .invokevirtual 39, 3) (List.mem_of_getElem? (i := 0) rfl)) ow_L_law mlL_39 mi145 msl145 in_9 mn145, mo145⟩, ?_⟩
  refine List.forall_mem_cons.mpr ⟨s_icmp_eq (dd_L_law_3 (293, .if_icmp .eq 557, 3) (List.mem_of_getElem? (i := 1) rfl)) (by decide), ?_⟩
  refine List.forall_mem_cons.mpr ⟨s_iconst (dd_L_law_3 (296, .iconst 0, 1) (List.mem_of_getElem? (i := 2) rfl)) rfl, ?_⟩
  refine List.forall_mem_cons.mpr ⟨Or.inr (Or.inr ⟨rfl, (dd_L_law_3 (297, .ireturn, 1) (List.mem_of_getElem? (i := 3) rfl)), rfl⟩), ?_⟩
  refine List.forall_mem_cons.mpr ⟨s_aload_n (dd_L_law_3 (298, .aload_n 1, 1) (List.mem_of_getElem? (i := 4) rfl)) rfl, ?_⟩
  refine List.forall_mem_cons.mpr ⟨s_aload_n (dd_L_law_3 (299, .aload_n 0, 1) (List.mem_of_getElem? (i := 5) rfl)) rfl, ?_⟩
  refine List.forall_mem_cons.mpr ⟨s_iload_n (dd_L_law_3 (300, .iload_n 3, 1) (List.mem_of_getElem? (i := 6) rfl)) rfl, ?_⟩
  refine List.forall_mem_cons.mpr ⟨s_iconst (dd_L_law_3 (301, .iconst 1, 1) (List.mem_of_getElem? (i := 7) rfl)) rfl, ?_⟩
  refine List.forall_mem_cons.mpr ⟨s_iadd (dd_L_law_3 (302, .iadd, 1) (List.mem_of_getElem? (i := 8) rfl)), ?_⟩
  refine List.forall_mem_cons.mpr ⟨s_iald (dd_L_law_3 (303, .iaload, 1) (List.mem_of_getElem? (i := 9) rfl)), ?_⟩
  refine List.forall_mem_cons.mpr ⟨⟨s_callV (ci := 8) rfl mo91 rfl rfl (dd_L_law_3 (304, .invokevirtual 40, 3) (List.mem_of_getElem? (i := 10) rfl)) ow_L_law mlL_40 mi91 msl91 in_8 mn91, mo91⟩, ?_⟩
  refine List.forall_mem_cons.mpr ⟨s_aload_n (dd_L_law_3 (307, .aload_n 2, 1) (List.mem_of_getElem? (i := 11) rfl)) rfl, ?_⟩
  refine List.forall_mem_cons.mpr ⟨s_aload_n (dd_L_law_3 (308, .aload_n 0, 1) (List.mem_of_getElem? (i := 12) rfl)) rfl, ?_⟩
  refine List.forall_mem_cons.mpr ⟨s_iload_n (dd_L_law_3 (309, .iload_n 3, 1) (List.mem_of_getElem? (i := 13) rfl)) rfl, ?_⟩
  refine List.forall_mem_cons.mpr ⟨s_iconst (dd_L_law_3 (310, .iconst 1, 1) (List.mem_of_getElem? (i := 14) rfl)) rfl, ?_⟩
  refine List.forall_mem_cons.mpr ⟨s_iadd (dd_L_law_3 (311, .iadd, 1) (List.mem_of_getElem? (i := 15) rfl)), ?_⟩
  refine List.forall_mem_cons.mpr ⟨s_iald (dd_L_law_3 (312, .iaload, 1) (List.mem_of_getElem? (i := 16) rfl)), ?_⟩
  refine List.forall_mem_cons.mpr ⟨⟨s_callV (ci := 9) rfl mo148 rfl rfl (dd_L_law_3 (313, .invokevirtual 43, 3) (List.mem_of_getElem? (i := 17) rfl)) ow_L_law mlL_43 mi148 msl148 in_9 mn148, mo148⟩, ?_⟩
  refine List.forall_mem_cons.mpr ⟨s_icmp_eq (dd_L_law_3 (316, .if_icmp .eq 534, 3) (List.mem_of_getElem? (i := 18) rfl)) (by decide), ?_⟩
  refine List.forall_mem_cons.mpr ⟨s_iconst (dd_L_law_3 (319, .iconst 0, 1) (List.mem_of_getElem? (i := 19) rfl)) rfl, ?_⟩
  refine List.forall_mem_cons.mpr ⟨Or.inr (Or.inr ⟨rfl, (dd_L_law_3 (320, .ireturn, 1) (List.mem_of_getElem? (i := 20) rfl)), rfl⟩), ?_⟩
  refine List.forall_mem_cons.mpr ⟨s_aload_n (dd_L_law_3 (321, .aload_n 1, 1) (List.mem_of_getElem? (i := 21) rfl)) rfl, ?_⟩
  refine List.forall_mem_cons.mpr ⟨s_aload_n (dd_L_law_3 (322, .aload_n 0, 1) (List.mem_of_getElem? (i := 22) rfl)) rfl, ?_⟩
  refine List.forall_mem_cons.mpr ⟨s_iload_n (dd_L_law_3 (323, .iload_n 3, 1) (List.mem_of_getElem? (i := 23) rfl)) rfl, ?_⟩
  refine List.forall_mem_cons.mpr ⟨s_iconst (dd_L_law_3 (324, .iconst 1, 1) (List.mem_of_getElem? (i := 24) rfl)) rfl, ?_⟩
  refine List.forall_mem_cons.mpr ⟨s_iadd (dd_L_law_3 (325, .iadd, 1) (List.mem_of_getElem? (i := 25) rfl)), ?_⟩
  refine List.forall_mem_cons.mpr ⟨s_iald (dd_L_law_3 (326, .iaload, 1) (List.mem_of_getElem? (i := 26) rfl)), ?_⟩
  refine List.forall_mem_cons.mpr ⟨s_aload_n (dd_L_law_3 (327, .aload_n 0, 1) (List.mem_of_getElem? (i := 27) rfl)) rfl, ?_⟩
  refine List.forall_mem_cons.mpr ⟨s_iload_n (dd_L_law_3 (328, .iload_n 3, 1) (List.mem_of_getElem? (i := 28) rfl)) rfl, ?_⟩
  refine List.forall_mem_cons.mpr ⟨s_iconst (dd_L_law_3 (329, .iconst 2, 1) (List.mem_of_getElem? (i := 29) rfl)) rfl, ?_⟩
  refine List.forall_mem_cons.mpr ⟨s_iadd (dd_L_law_3 (330, .iadd, 1) (List.mem_of_getElem? (i := 30) rfl)), ?_⟩
  refine List.forall_mem_cons.mpr ⟨s_iald (dd_L_law_3 (331, .iaload, 1) (List.mem_of_getElem? (i := 31) rfl)), ?_⟩
  refine List.forall_mem_cons.mpr ⟨⟨s_callV (ci := 8) rfl mo92 rfl rfl (dd_L_law_3 (332, .invokevirtual 44, 3) (List.mem_of_getElem? (i := 32) rfl)) ow_L_law mlL_44 mi92 msl92 in_8 mn92, mo92⟩, ?_⟩
  refine List.forall_mem_cons.mpr ⟨s_aload_n (dd_L_law_3 (335, .aload_n 2, 1) (List.mem_of_getElem? (i := 33) rfl)) rfl, ?_⟩
  refine List.forall_mem_cons.mpr ⟨s_aload_n (dd_L_law_3 (336, .aload_n 0, 1) (List.mem_of_getElem? (i := 34) rfl)) rfl, ?_⟩
  refine List.forall_mem_cons.mpr ⟨s_iload_n (dd_L_law_3 (337, .iload_n 3, 1) (List.mem_of_getElem? (i := 35) rfl)) rfl, ?_⟩
  refine List.forall_mem_cons.mpr ⟨s_iconst (dd_L_law_3 (338, .iconst 1, 1) (List.mem_of_getElem? (i := 36) rfl)) rfl, ?_⟩
  refine List.forall_mem_cons.mpr ⟨s_iadd (dd_L_law_3 (339, .iadd, 1) (List.mem_of_getElem? (i := 37) rfl)), ?_⟩
  refine List.forall_mem_cons.mpr ⟨s_iald (dd_L_law_3 (340, .iaload, 1) (List.mem_of_getElem? (i := 38) rfl)), ?_⟩
  refine List.forall_mem_cons.mpr ⟨s_aload_n (dd_L_law_3 (341, .aload_n 0, 1) (List.mem_of_getElem? (i := 39) rfl)) rfl, ?_⟩
  refine List.forall_mem_cons.mpr ⟨s_iload_n (dd_L_law_3 (342, .iload_n 3, 1) (List.mem_of_getElem? (i := 40) rfl)) rfl, ?_⟩
  refine List.forall_mem_cons.mpr ⟨s_iconst (dd_L_law_3 (343, .iconst 2, 1) (List.mem_of_getElem? (i := 41) rfl)) rfl, ?_⟩
  refine List.forall_mem_cons.mpr ⟨s_iadd (dd_L_law_3 (344, .iadd, 1) (List.mem_of_getElem? (i := 42) rfl)), ?_⟩
  refine List.forall_mem_cons.mpr ⟨s_iald (dd_L_law_3 (345, .iaload, 1) (List.mem_of_getElem? (i := 43) rfl)), ?_⟩
  refine List.forall_mem_cons.mpr ⟨⟨s_callV (ci := 9) rfl mo149 rfl rfl (dd_L_law_3 (346, .invokevirtual 47, 3) (List.mem_of_getElem? (i := 44) rfl)) ow_L_law mlL_47 mi149 msl149 in_9 mn149, mo149⟩, ?_⟩
  refine List.forall_mem_cons.mpr ⟨s_icmp_eq (dd_L_law_3 (349, .if_icmp .eq 501, 3) (List.mem_of_getElem? (i := 45) rfl)) (by decide), ?_⟩
  refine List.forall_mem_cons.mpr ⟨s_iconst (dd_L_law_3 (352, .iconst 0, 1) (List.mem_of_getElem? (i := 46) rfl)) rfl, ?_⟩
  refine List.forall_mem_cons.mpr ⟨Or.inr (Or.inr ⟨rfl, (dd_L_law_3 (353, .ireturn, 1) (List.mem_of_getElem? (i := 47) rfl)), rfl⟩), ?_⟩
  refine List.forall_mem_cons.mpr ⟨s_aload_n (dd_L_law_3 (354, .aload_n 1, 1) (List.mem_of_getElem? (i := 48) rfl)) rfl, ?_⟩
  refine List.forall_mem_cons.mpr ⟨s_aload_n (dd_L_law_3 (355, .aload_n 0, 1) (List.mem_of_getElem? (i := 49) rfl)) rfl, ?_⟩
  refine List.forall_mem_cons.mpr ⟨s_iload_n (dd_L_law_3 (356, .iload_n 3, 1) (List.mem_of_getElem? (i := 50) rfl)) rfl, ?_⟩
  refine List.forall_mem_cons.mpr ⟨s_iconst (dd_L_law_3 (357, .iconst 1, 1) (List.mem_of_getElem? (i := 51) rfl)) rfl, ?_⟩
  refine List.forall_mem_cons.mpr ⟨s_iadd (dd_L_law_3 (358, .iadd, 1) (List.mem_of_getElem? (i := 52) rfl)), ?_⟩
  refine List.forall_mem_cons.mpr ⟨s_iald (dd_L_law_3 (359, .iaload, 1) (List.mem_of_getElem? (i := 53) rfl)), ?_⟩
  refine List.forall_mem_cons.mpr ⟨s_aload_n (dd_L_law_3 (360, .aload_n 0, 1) (List.mem_of_getElem? (i := 54) rfl)) rfl, ?_⟩
  refine List.forall_mem_cons.mpr ⟨s_iload_n (dd_L_law_3 (361, .iload_n 3, 1) (List.mem_of_getElem? (i := 55) rfl)) rfl, ?_⟩
  refine List.forall_mem_cons.mpr ⟨s_iconst (dd_L_law_3 (362, .iconst 2, 1) (List.mem_of_getElem? (i := 56) rfl)) rfl, ?_⟩
  refine List.forall_mem_cons.mpr ⟨s_iadd (dd_L_law_3 (363, .iadd, 1) (List.mem_of_getElem? (i := 57) rfl)), ?_⟩
  refine List.forall_mem_cons.mpr ⟨s_iald (dd_L_law_3 (364, .iaload, 1) (List.mem_of_getElem? (i := 58) rfl)), ?_⟩
  refine List.forall_mem_cons.mpr ⟨⟨s_callV (ci := 8) rfl mo93 rfl rfl (dd_L_law_3 (365, .invokevirtual 48, 3) (List.mem_of_getElem? (i := 59) rfl)) ow_L_law mlL_48 mi93 msl93 in_8 mn93, mo93⟩, ?_⟩
  exact fun _ h => absurd h List.not_mem_nil
def D_L_law_4 : List (Nat × Instr × Nat) := [(368, .aload_n 2, 1), (369, .aload_n 0, 1), (370, .iload_n 3, 1), (371, .iconst 1, 1), (372, .iadd, 1), (373, .iaload, 1), (374, .aload_n 0, 1), (375, .iload_n 3, 1), (376, .iconst 2, 1), (377, .iadd, 1), (378, .iaload, 1), (379, .invokevirtual 51, 3), (382, .if_icmp .eq 468, 3), (385, .iconst 0, 1), (386, .ireturn, 1), (387, .aload_n 1, 1), (388, .aload_n 0, 1), (389, .iload_n 3, 1), (390, .iconst 1, 1), (391, .iadd, 1), (392, .iaload, 1), (393, .invokevirtual 52, 3), (396, .aload_n 2, 1), (397, .aload_n 0, 1), (398, .iload_n 3, 1), (399, .iconst 1, 1), (400, .iadd, 1), (401, .iaload, 1), (402, .invokevirtual 55, 3), (405, .if_icmp .eq 445, 3), (408, .iconst 0, 1), (409, .ireturn, 1), (410, .aload_n 1, 1), (411, .invokevirtual 56, 3), (414, .aload_n 2, 1), (415, .invokevirtual 59, 3), (418, .if_icmp .eq 432, 3), (421, .iconst 0, 1), (422, .ireturn, 1), (423, .aload_n 1, 1), (424, .aload_n 0, 1), (425, .iload_n 3, 1), (426, .iconst 1, 1), (427, .iadd, 1), (428, .iaload, 1), (429, .invokevirtual 60, 3), (432, .aload_n 2, 1), (433, .aload_n 0, 1), (434, .iload_n 3, 1), (435, .iconst 1, 1), (436, .iadd, 1), (437, .iaload, 1), (438, .invokevirtual 63, 3), (441, .if_icmp .eq 409, 3), (444, .iconst 0, 1), (445, .ireturn, 1), (446, .aload_n 1, 1), (447, .aload_n 0, 1), (448, .iload_n 3, 1), (449, .iconst 1, 1)]
theorem dd_L_law_4 : ∀ e ∈ D_L_law_4, decode (mtJ 187).2.1 e.1 = .ok e.2 := by decide +kernel
set_option maxRecDepth 10000 in
theorem so_L_law_4 : ∀ e ∈ o_L_law_4, SndO 187 e.1 e.2 := by
  refine List.forall_mem_cons.mpr ⟨s_aload_n (dd_L_law_4 (368, .aload_n 2, 1) (List.mem_of_getElem? (i := 0) rfl)) rfl, ?_⟩
  refine List.forall_mem_cons.mpr ⟨s_aload_n (dd_L_law_4 (369, .aload_n 0, 1) (List.mem_of_getElem? (i := 1) rfl)) rfl, ?_⟩
  refine List.forall_mem_cons.mpr ⟨s_iload_n (dd_L_law_4 (370, .iload_n 3, 1) (List.mem_of_getElem? (i := 2) rfl)) rfl, ?_⟩
  refine List.forall_mem_cons.mpr ⟨s_iconst (dd_L_law_4 (371, .iconst 1, 1) (List.mem_of_getElem? (i := 3) rfl)) rfl, ?_⟩
  refine List.forall_mem_cons.mpr ⟨s_iadd (dd_L_law_4 (372, .iadd, 1) (List.mem_of_getElem? (i := 4) rfl)), ?_⟩
  refine List.forall_mem_cons.mpr ⟨s_iald (dd_L_law_4 (373, .iaload, 1) (List.mem_of_getElem? (i := 5) rfl)), ?_⟩
  refine List.forall_mem_cons.mpr ⟨s_aload_n (dd_L_law_4 (374, .aload_n 0, 1) (List.mem_of_getElem? (i := 6) rfl)) rfl, ?_⟩
  refine List.forall_mem_cons.mpr ⟨s_iload_n (dd_L_law_4 (375, .iload_n 3, 1) (List.mem_of_getElem? (i := 7) rfl)) rfl, ?_⟩
  refine List.forall_mem_cons.mpr ⟨s_iconst (dd_L_law_4 (376, .iconst 2, 1) (List.mem_of_getElem? (i := 8) rfl)) rfl, ?_⟩
  refine List.forall_mem_cons.mpr ⟨s_iadd (dd_L_law_4 (377, .iadd, 1) (List.mem_of_getElem? (i := 9) rfl)), ?_⟩
  refine List.forall_mem_cons.mpr ⟨s_iald (dd_L_law_4 (378, .iaload, 1) (List.mem_of_getElem? (i := 10) rfl)), ?_⟩
  refine List.forall_mem_cons.mpr ⟨⟨s_callV (ci := 9) rfl mo151 rfl rfl (dd_L_law_4 (379, .invokevirtual 51, 3) (List.mem_of_getElem? (i := 11) rfl)) ow_L_law mlL_51 mi151 msl151 in_9 mn151, mo151⟩, ?_⟩
  refine List.forall_mem_cons.mpr ⟨s_icmp_eq (dd_L_law_4 (382, .if_icmp .eq 468, 3) (List.mem_of_getElem? (i := 12) rfl)) (by decide), ?_⟩
  refine List.forall_mem_cons.mpr ⟨s_iconst (dd_L_law_4 (385, .iconst 0, 1) (List.mem_of_getElem? (i := 13) rfl)) rfl, ?_⟩
  refine List.forall_mem_cons.mpr ⟨Or.inr (Or.inr ⟨rfl, (dd_L_law_4 (386, .ireturn, 1) (List.mem_of_getElem? (i := 14) rfl)), rfl⟩), ?_⟩
  refine List.forall_mem_cons.mpr ⟨s_aload_n (dd_L_law_4 (387, .aload_n 1, 1) (List.mem_of_getElem? (i := 15) rfl)) rfl, ?_⟩
  refine List.forall_mem_cons.mpr ⟨s_aload_n (dd_L_law_4 (388, .aload_n 0, 1) (List.mem_of_getElem? (i := 16) rfl)) rfl, ?_⟩
  refine List.forall_mem_cons.mpr ⟨s_iload_n (dd_L_law_4 (389, .iload_n 3, 1) (List.mem_of_getElem? (i := 17) rfl)) rfl, ?_⟩
  refine List.forall_mem_cons.mpr ⟨s_iconst (dd_L_law_4 (390, .iconst 1, 1) (List.mem_of_getElem? (i := 18) rfl)) rfl, ?_⟩
  refine List.forall_mem_cons.mpr ⟨s_iadd (dd_L_law_4 (391, .iadd, 1) (List.mem_of_getElem? (i := 19) rfl)), ?_⟩
  refine List.forall_mem_cons.mpr ⟨s_iald (dd_L_law_4 (392, .iaload, 1) (List.mem_of_getElem? (i := 20) rfl)), ?_⟩
  refine List.forall_mem_cons.mpr ⟨⟨s_callV (ci := 8) rfl mo94 rfl rfl (dd_L_law_4 (393, .invokevirtual 52, 3) (List.mem_of_getElem? (i := 21) rfl)) ow_L_law mlL_52 mi94 msl94 in_8 mn94, mo94⟩, ?_⟩
  refine List.forall_mem_cons.mpr ⟨s_aload_n (dd_L_law_4 (396, .aload_n 2, 1) (List.mem_of_getElem? (i := 22) rfl)) rfl, ?_⟩
  refine List.forall_mem_cons.mpr ⟨s_aload_n (dd_L_law_4 (397, .aload_n 0, 1) (List.mem_of_getElem? (i := 23) rfl)) rfl, ?_⟩
  refine List.forall_mem_cons.mpr ⟨s_iload_n (dd_L_law_4 (398, .iload_n 3, 1) (List.mem_of_getElem? (i := 24) rfl)) rfl, ?_⟩
  refine List.forall_mem_cons.mpr ⟨s_iconst (dd_L_law_4 (399, .iconst 1, 1) (List.mem_of_getElem? (i := 25) rfl)) rfl, ?_⟩
  refine List.forall_mem_cons.mpr ⟨s_iadd (dd_L_law_4 (400, .iadd, 1) (List.mem_of_getElem? (i := 26) rfl)), ?_⟩
  refine List.forall_mem_cons.mpr ⟨s_iald (dd_L_law_4 (401, .iaload, 1) (List.mem_of_getElem? (i := 27) rfl)), ?_⟩
  refine List.forall_mem_cons.mpr ⟨⟨s_callV (ci := 9) rfl mo154 rfl rfl (dd_L_law_4 (402, .invokevirtual 55, 3) (List.mem_of_getElem? (i := 28) rfl)) ow_L_law mlL_55 mi154 msl154 in_9 mn154, mo154⟩, ?_⟩
  refine List.forall_mem_cons.mpr ⟨s_icmp_eq (dd_L_law_4 (405, .if_icmp .eq 445, 3) (List.mem_of_getElem? (i := 29) rfl)) (by decide), ?_⟩
  refine List.forall_mem_cons.mpr ⟨s_iconst (dd_L_law_4 (408, .iconst 0, 1) (List.mem_of_getElem? (i := 30) rfl)) rfl, ?_⟩
  refine List.forall_mem_cons.mpr ⟨Or.inr (Or.inr ⟨rfl, (dd_L_law_4 (409, .ireturn, 1) (List.mem_of_getElem? (i := 31) rfl)), rfl⟩), ?_⟩
  refine List.forall_mem_cons.mpr ⟨s_aload_n (dd_L_law_4 (410, .aload_n 1, 1) (List.mem_of_getElem? (i := 32) rfl)) rfl, ?_⟩
  refine List.forall_mem_cons.mpr ⟨⟨s_callV (ci := 8) rfl mo95 rfl rfl (dd_L_law_4 (411, .invokevirtual 56, 3) (List.mem_of_getElem? (i := 33) rfl)) ow_L_law mlL_56 mi95 msl95 in_8 mn95, mo95⟩, ?_⟩
  refine List.forall_mem_cons.mpr ⟨s_aload_n (dd_L_law_4 (414, .aload_n 2, 1) (List.mem_of_getElem? (i := 34) rfl)) rfl, ?_⟩
  refine List.forall_mem_cons.mpr ⟨⟨s_callV (ci := 9) rfl mo156 rfl rfl (dd_L_law_4 (415, .invokevirtual 59, 3) (List.mem_of_getElem? (i := 35) rfl)) ow_L_law mlL_59 mi156 msl156 in_9 mn156, mo156⟩, ?_⟩
  refine List.forall_mem_cons.mpr ⟨s_icmp_eq (dd_L_law_4 (418, .if_icmp .eq 432, 3) (List.mem_of_getElem? (i := 36) rfl)) (by decide), ?_⟩
  refine List.forall_mem_cons.mpr ⟨s_iconst (dd_L_law_4 (421, .iconst 0, 1) (List.mem_of_getElem? (i := 37) rfl)) rfl, ?_⟩
  refine List.forall_mem_cons.mpr ⟨Or.inr (Or.inr ⟨rfl, (dd_L_law_4 (422, .ireturn, 1) (List.mem_of_getElem? (i := 38) rfl)), rfl⟩), ?_⟩
  refine List.forall_mem_cons.mpr ⟨s_aload_n (dd_L_law_4 (423, .aload_n 1, 1) (List.mem_of_getElem? (i := 39) rfl)) rfl, ?_⟩
  refine List.forall_mem_cons.mpr ⟨s_aload_n (dd_L_law_4 (424, .aload_n 0, 1) (List.mem_of_getElem? (i := 40) rfl)) rfl, ?_⟩
  refine List.forall_mem_cons.mpr ⟨s_iload_n (dd_L_law_4 (425, .iload_n 3, 1) (List.mem_of_getElem? (i := 41) rfl)) rfl, ?_⟩
  refine List.forall_mem_cons.mpr ⟨s_iconst (dd_L_law_4 (426, .iconst 1, 1) (List.mem_of_getElem? (i := 42) rfl)) rfl, ?_⟩
  refine List.forall_mem_cons.mpr ⟨s_iadd (dd_L_law_4 (427, .iadd, 1) (List.mem_of_getElem? (i := 43) rfl)), ?_⟩
  refine List.forall_mem_cons.mpr ⟨s_iald (dd_L_law_4 (428, .iaload, 1) (List.mem_of_getElem? (i := 44) rfl)), ?_⟩
  refine List.forall_mem_cons.mpr ⟨⟨s_callV (ci := 8) rfl mo96 rfl rfl (dd_L_law_4 (429, .invokevirtual 60, 3) (List.mem_of_getElem? (i := 45) rfl)) ow_L_law mlL_60 mi96 msl96 in_8 mn96, mo96⟩, ?_⟩
  refine List.forall_mem_cons.mpr ⟨s_aload_n (dd_L_law_4 (432, .aload_n 2, 1) (List.mem_of_getElem? (i := 46) rfl)) rfl, ?_⟩
  refine List.forall_mem_cons.mpr ⟨s_aload_n (dd_L_law_4 (433, .aload_n 0, 1) (List.mem_of_getElem? (i := 47) rfl)) rfl, ?_⟩
  refine List.forall_mem_cons.mpr ⟨s_iload_n (dd_L_law_4 (434, .iload_n 3, 1) (List.mem_of_getElem? (i := 48) rfl)) rfl, ?_⟩
  refine List.forall_mem_cons.mpr ⟨s_iconst (dd_L_law_4 (435, .iconst 1, 1) (List.mem_of_getElem? (i := 49) rfl)) rfl, ?_⟩
  refine List.forall_mem_cons.mpr ⟨s_iadd (dd_L_law_4 (436, .iadd, 1) (List.mem_of_getElem? (i := 50) rfl)), ?_⟩
  refine List.forall_mem_cons.mpr ⟨s_iald (dd_L_law_4 (437, .iaload, 1) (List.mem_of_getElem? (i := 51) rfl)), ?_⟩
  refine List.forall_mem_cons.mpr ⟨⟨s_callV (ci := 9) rfl mo157 rfl rfl (dd_L_law_4 (438, .invokevirtual 63, 3) (List.mem_of_getElem? (i := 52) rfl)) ow_L_law mlL_63 mi157 msl157 in_9 mn157, mo157⟩, ?_⟩
  refine List.forall_mem_cons.mpr ⟨s_icmp_eq (dd_L_law_4 (441, .if_icmp .eq 409, 3) (List.mem_of_getElem? (i := 53) rfl)) (by decide), ?_⟩
  refine List.forall_mem_cons.mpr ⟨s_iconst (dd_L_law_4 (444, .iconst 0, 1) (List.mem_of_getElem? (i := 54) rfl)) rfl, ?_⟩
  refine List.forall_mem_cons.mpr ⟨Or.inr (Or.inr ⟨rfl, (dd_L_law_4 (445, .ireturn, 1) (List.mem_of_getElem? (i := 55) rfl)), rfl⟩), ?_⟩
  refine List.forall_mem_cons.mpr ⟨s_aload_n (dd_L_law_4 (446, .aload_n 1, 1) (List.mem_of_getElem? (i := 56) rfl)) rfl, ?_⟩
  refine List.forall_mem_cons.mpr ⟨s_aload_n (dd_L_law_4 (447, .aload_n 0, 1) (List.mem_of_getElem? (i := 57) rfl)) rfl, ?_⟩
  refine List.forall_mem_cons.mpr ⟨s_iload_n (dd_L_law_4 (448, .iload_n 3, 1) (List.mem_of_getElem? (i := 58) rfl)) rfl, ?_⟩
  refine List.forall_mem_cons.mpr ⟨s_iconst (dd_L_law_4 (449, .iconst 1, 1) (List.mem_of_getElem? (i := 59) rfl)) rfl, ?_⟩
  exact fun _ h => absurd h List.not_mem_nil
def D_L_law_5 : List (Nat × Instr × Nat) := [(450, .iadd, 1), (451, .iaload, 1), (452, .invokevirtual 64, 3), (455, .aload_n 2, 1), (456, .aload_n 0, 1), (457, .iload_n 3, 1), (458, .iconst 1, 1), (459, .iadd, 1), (460, .iaload, 1), (461, .invokevirtual 67, 3), (464, .if_icmp .eq 386, 3), (467, .iconst 0, 1), (468, .ireturn, 1), (469, .aload_n 1, 1), (470, .invokevirtual 68, 3), (473, .aload_n 2, 1), (474, .invokevirtual 71, 3), (477, .if_icmp .eq 373, 3), (480, .iconst 0, 1), (481, .ireturn, 1), (482, .aload_n 1, 1), (483, .aload_n 0, 1), (484, .iload_n 3, 1), (485, .iconst 1, 1), (486, .iadd, 1), (487, .iaload, 1), (488, .invokevirtual 72, 3), (491, .aload_n 2, 1), (492, .aload_n 0, 1), (493, .iload_n 3, 1), (494, .iconst 1, 1), (495, .iadd, 1), (496, .iaload, 1), (497, .invokevirtual 75, 3), (500, .if_icmp .eq 350, 3), (503, .iconst 0, 1), (504, .ireturn, 1), (505, .aload_n 1, 1), (506, .aload_n 0, 1), (507, .iload_n 3, 1), (508, .iconst 1, 1), (509, .iadd, 1), (510, .iaload, 1), (511, .invokevirtual 76, 3), (514, .aload_n 2, 1), (515, .aload_n 0, 1), (516, .iload_n 3, 1), (517, .iconst 1, 1), (518, .iadd, 1), (519, .iaload, 1), (520, .invokevirtual 79, 3), (523, .if_icmp .eq 327, 3), (526, .iconst 0, 1), (527, .ireturn, 1), (528, .aload_n 1, 1), (529, .aload_n 0, 1), (530, .iload_n 3, 1), (531, .iconst 1, 1), (532, .iadd, 1), (533, .iaload, 1)]
theorem dd_L_law_5 : ∀ e ∈ D_L_law_5, decode (mtJ 187).2.1 e.1 = .ok e.2 := by decide +kernel
set_option maxRecDepth 10000 in
theorem so_L_law_5 : ∀ e ∈ o_L_law_5, SndO 187 e.1 e.2 := by
  refine List.forall_mem_cons.mpr ⟨s_iadd (dd_L_law_5 (450, .iadd, 1) (List.mem_of_getElem? (i := 0) rfl)), ?_⟩
  refine List.forall_mem_cons.mpr ⟨s_iald (dd_L_law_5 (451, .iaload, 1) (List.mem_of_getElem? (i := 1) rfl)), ?_⟩
  refine List.forall_mem_cons.mpr ⟨⟨s_callV (ci := 8) rfl mo97 rfl rfl (dd_L_law_5 (452, .invokevirtual 64, 3) (List.mem_of_getElem? (i := 2) rfl)) ow_L_law mlL_64 mi97 msl97 in_8 mn97, mo97⟩, ?_⟩
  refine List.forall_mem_cons.mpr ⟨s_aload_n (dd_L_law_5 (455, .aload_n 2, 1) (List.mem_of_getElem? (i := 3) rfl)) rfl, ?_⟩
  refine List.forall_mem_cons.mpr ⟨s_aload_n (dd_L_law_5 (456, .aload_n 0, 1) (List.mem_of_getElem? (i := 4) rfl)) rfl, ?_⟩
  refine List.forall_mem_cons.mpr ⟨s_iload_n (dd_L_law_5 (457, .iload_n 3, 1) (List.mem_of_getElem? (i := 5) rfl)) rfl, ?_⟩
  refine List.forall_mem_cons.mpr ⟨s_iconst (dd_L_law_5 (458, .iconst 1, 1) (List.mem_of_getElem? (i := 6) rfl)) rfl, ?_⟩
  refine List.forall_mem_cons.mpr ⟨s_iadd (dd_L_law_5 (459, .iadd, 1) (List.mem_of_getElem? (i := 7) rfl)), ?_⟩
  refine List.forall_mem_cons.mpr ⟨s_iald (dd_L_law_5 (460, .iaload, 1) (List.mem_of_getElem? (i := 8) rfl)), ?_⟩
  refine List.forall_mem_cons.mpr ⟨⟨s_callV (ci := 9) rfl mo160 rfl rfl (dd_L_law_5 (461, .invokevirtual 67, 3) (List.mem_of_getElem? (i := 9) rfl)) ow_L_law mlL_67 mi160 msl160 in_9 mn160, mo160⟩, ?_⟩
  refine List.forall_mem_cons.mpr ⟨s_icmp_eq (dd_L_law_5 (464, .if_icmp .eq 386, 3) (List.mem_of_getElem? (i := 10) rfl)) (by decide), ?_⟩
  refine List.forall_mem_cons.mpr ⟨s_iconst (dd_L_law_5 (467, .iconst 0, 1) (List.mem_of_getElem? (i := 11) rfl)) rfl, ?_⟩
  refine List.forall_mem_cons.mpr ⟨Or.inr (Or.inr ⟨rfl, (dd_L_law_5 (468, .ireturn, 1) (List.mem_of_getElem? (i := 12) rfl)), rfl⟩), ?_⟩
  refine List.forall_mem_cons.mpr ⟨s_aload_n (dd_L_law_5 (469, .aload_n 1, 1) (List.mem_of_getElem? (i := 13) rfl)) rfl, ?_⟩
  refine List.forall_mem_cons.mpr ⟨⟨s_callV (ci := 8) rfl mo98 rfl rfl (dd_L_law_5 (470, .invokevirtual 68, 3) (List.mem_of_getElem? (i := 14) rfl)) ow_L_law mlL_68 mi98 msl98 in_8 mn98, mo98⟩, ?_⟩
  refine List.forall_mem_cons.mpr ⟨s_aload_n (dd_L_law_5 (473, .aload_n 2, 1) (List.mem_of_getElem? (i := 15) rfl)) rfl, ?_⟩
  refine List.forall_mem_cons.mpr ⟨⟨s_callV (ci := 9) rfl mo161 rfl rfl (dd_L_law_5 (474, .invokevirtual 71, 3) (List.mem_of_getElem? (i := 16) rfl)) ow_L_law mlL_71 mi161 msl161 in_9 mn161, mo161⟩, ?_⟩
  refine List.forall_mem_cons.mpr ⟨s_icmp_eq (dd_L_law_5 (477, .if_icmp .eq 373, 3) (List.mem_of_getElem? (i := 17) rfl)) (by decide), ?_⟩
  refine List.forall_mem_cons.mpr ⟨s_iconst (dd_L_law_5 (480, .iconst 0, 1) (List.mem_of_getElem? (i := 18) rfl)) rfl, ?_⟩
  refine List.forall_mem_cons.mpr ⟨Or.inr (Or.inr ⟨rfl, (dd_L_law_5 (481, .ireturn, 1) (List.mem_of_getElem? (i := 19) rfl)), rfl⟩), ?_⟩
  refine List.forall_mem_cons.mpr ⟨s_aload_n (dd_L_law_5 (482, .aload_n 1, 1) (List.mem_of_getElem? (i := 20) rfl)) rfl, ?_⟩
  refine List.forall_mem_cons.mpr ⟨s_aload_n (dd_L_law_5 (483, .aload_n 0, 1) (List.mem_of_getElem? (i := 21) rfl)) rfl, ?_⟩
  refine List.forall_mem_cons.mpr ⟨s_iload_n (dd_L_law_5 (484, .iload_n 3, 1) (List.mem_of_getElem? (i := 22) rfl)) rfl, ?_⟩
  refine List.forall_mem_cons.mpr ⟨s_iconst (dd_L_law_5 (485, .iconst 1, 1) (List.mem_of_getElem? (i := 23) rfl)) rfl, ?_⟩
  refine List.forall_mem_cons.mpr ⟨s_iadd (dd_L_law_5 (486, .iadd, 1) (List.mem_of_getElem? (i := 24) rfl)), ?_⟩
  refine List.forall_mem_cons.mpr ⟨s_iald (dd_L_law_5 (487, .iaload, 1) (List.mem_of_getElem? (i := 25) rfl)), ?_⟩
  refine List.forall_mem_cons.mpr ⟨⟨s_callV (ci := 8) rfl mo99 rfl rfl (dd_L_law_5 (488, .invokevirtual 72, 3) (List.mem_of_getElem? (i := 26) rfl)) ow_L_law mlL_72 mi99 msl99 in_8 mn99, mo99⟩, ?_⟩
  refine List.forall_mem_cons.mpr ⟨s_aload_n (dd_L_law_5 (491, .aload_n 2, 1) (List.mem_of_getElem? (i := 27) rfl)) rfl, ?_⟩
  refine List.forall_mem_cons.mpr ⟨s_aload_n (dd_L_law_5 (492, .aload_n 0, 1) (List.mem_of_getElem? (i := 28) rfl)) rfl, ?_⟩
  refine List.forall_mem_cons.mpr ⟨s_iload_n (dd_L_law_5 (493, .iload_n 3, 1) (List.mem_of_getElem? (i := 29) rfl)) rfl, ?_⟩
  refine List.forall_mem_cons.mpr ⟨s_iconst (dd_L_law_5 (494, .iconst 1, 1) (List.mem_of_getElem? (i := 30) rfl)) rfl, ?_⟩
  refine List.forall_mem_cons.mpr ⟨s_iadd (dd_L_law_5 (495, .iadd, 1) (List.mem_of_getElem? (i := 31) rfl)), ?_⟩
  refine List.forall_mem_cons.mpr ⟨s_iald (dd_L_law_5 (496, .iaload, 1) (List.mem_of_getElem? (i := 32) rfl)), ?_⟩
  refine List.forall_mem_cons.mpr ⟨⟨s_callV (ci := 9) rfl mo167 rfl rfl (dd_L_law_5 (497, .invokevirtual 75, 3) (List.mem_of_getElem? (i := 33) rfl)) ow_L_law mlL_75 mi167 msl167 in_9 mn167, mo167⟩, ?_⟩
  refine List.forall_mem_cons.mpr ⟨s_icmp_eq (dd_L_law_5 (500, .if_icmp .eq 350, 3) (List.mem_of_getElem? (i := 34) rfl)) (by decide), ?_⟩
  refine List.forall_mem_cons.mpr ⟨s_iconst (dd_L_law_5 (503, .iconst 0, 1) (List.mem_of_getElem? (i := 35) rfl)) rfl, ?_⟩
  refine List.forall_mem_cons.mpr ⟨Or.inr (Or.inr ⟨rfl, (dd_L_law_5 (504, .ireturn, 1) (List.mem_of_getElem? (i := 36) rfl)), rfl⟩), ?_⟩
  refine List.forall_mem_cons.mpr ⟨s_aload_n (dd_L_law_5 (505, .aload_n 1, 1) (List.mem_of_getElem? (i := 37) rfl)) rfl, ?_⟩
  refine List.forall_mem_cons.mpr ⟨s_aload_n (dd_L_law_5 (506, .aload_n 0, 1) (List.mem_of_getElem? (i := 38) rfl)) rfl, ?_⟩
  refine List.forall_mem_cons.mpr ⟨s_iload_n (dd_L_law_5 (507, .iload_n 3, 1) (List.mem_of_getElem? (i := 39) rfl)) rfl, ?_⟩
  refine List.forall_mem_cons.mpr ⟨s_iconst (dd_L_law_5 (508, .iconst 1, 1) (List.mem_of_getElem? (i := 40) rfl)) rfl, ?_⟩
  refine List.forall_mem_cons.mpr ⟨s_iadd (dd_L_law_5 (509, .iadd, 1) (List.mem_of_getElem? (i := 41) rfl)), ?_⟩
  refine List.forall_mem_cons.mpr ⟨s_iald (dd_L_law_5 (510, .iaload, 1) (List.mem_of_getElem? (i := 42) rfl)), ?_⟩
  refine List.forall_mem_cons.mpr ⟨⟨s_callV (ci := 8) rfl mo100 rfl rfl (dd_L_law_5 (511, .invokevirtual 76, 3) (List.mem_of_getElem? (i := 43) rfl)) ow_L_law mlL_76 mi100 msl100 in_8 mn100, mo100⟩, ?_⟩
  refine List.forall_mem_cons.mpr ⟨s_aload_n (dd_L_law_5 (514, .aload_n 2, 1) (List.mem_of_getElem? (i := 44) rfl)) rfl, ?_⟩
  refine List.forall_mem_cons.mpr ⟨s_aload_n (dd_L_law_5 (515, .aload_n 0, 1) (List.mem_of_getElem? (i := 45) rfl)) rfl, ?_⟩
  refine List.forall_mem_cons.mpr ⟨s_iload_n (dd_L_law_5 (516, .iload_n 3, 1) (List.mem_of_getElem? (i := 46) rfl)) rfl, ?_⟩
  refine List.forall_mem_cons.mpr ⟨s_iconst (dd_L_law_5 (517, .iconst 1, 1) (List.mem_of_getElem? (i := 47) rfl)) rfl, ?_⟩
  refine List.forall_mem_cons.mpr ⟨s_iadd (dd_L_law_5 (518, .iadd, 1) (List.mem_of_getElem? (i := 48) rfl)), ?_⟩
  refine List.forall_mem_cons.mpr ⟨s_iald (dd_L_law_5 (519, .iaload, 1) (List.mem_of_getElem? (i := 49) rfl)), ?_⟩
  refine List.forall_mem_cons.mpr ⟨⟨s_callV (ci := 9) rfl mo168 rfl rfl (dd_L_law_5 (520, .invokevirtual 79, 3) (List.mem_of_getElem? (i := 50) rfl)) ow_L_law mlL_79 mi168 msl168 in_9 mn168, mo168⟩, ?_⟩
  refine List.forall_mem_cons.mpr ⟨s_icmp_eq (dd_L_law_5 (523, .if_icmp .eq 327, 3) (List.mem_of_getElem? (i := 51) rfl)) (by decide), ?_⟩
  refine List.forall_mem_cons.mpr ⟨s_iconst (dd_L_law_5 (526, .iconst 0, 1) (List.mem_of_getElem? (i := 52) rfl)) rfl, ?_⟩
  refine List.forall_mem_cons.mpr ⟨Or.inr (Or.inr ⟨rfl, (dd_L_law_5 (527, .ireturn, 1) (List.mem_of_getElem? (i := 53) rfl)), rfl⟩), ?_⟩
  refine List.forall_mem_cons.mpr ⟨s_aload_n (dd_L_law_5 (528, .aload_n 1, 1) (List.mem_of_getElem? (i := 54) rfl)) rfl, ?_⟩
  refine List.forall_mem_cons.mpr ⟨s_aload_n (dd_L_law_5 (529, .aload_n 0, 1) (List.mem_of_getElem? (i := 55) rfl)) rfl, ?_⟩
  refine List.forall_mem_cons.mpr ⟨s_iload_n (dd_L_law_5 (530, .iload_n 3, 1) (List.mem_of_getElem? (i := 56) rfl)) rfl, ?_⟩
  refine List.forall_mem_cons.mpr ⟨s_iconst (dd_L_law_5 (531, .iconst 1, 1) (List.mem_of_getElem? (i := 57) rfl)) rfl, ?_⟩
  refine List.forall_mem_cons.mpr ⟨s_iadd (dd_L_law_5 (532, .iadd, 1) (List.mem_of_getElem? (i := 58) rfl)), ?_⟩
  refine List.forall_mem_cons.mpr ⟨s_iald (dd_L_law_5 (533, .iaload, 1) (List.mem_of_getElem? (i := 59) rfl)), ?_⟩
  exact fun _ h => absurd h List.not_mem_nil
def D_L_law_6 : List (Nat × Instr × Nat) := [(534, .invokevirtual 80, 3), (537, .aload_n 2, 1), (538, .aload_n 0, 1), (539, .iload_n 3, 1), (540, .iconst 1, 1), (541, .iadd, 1), (542, .iaload, 1), (543, .invokevirtual 83, 3), (546, .if_icmp .eq 304, 3), (549, .iconst 0, 1), (550, .ireturn, 1), (551, .aload_n 1, 1), (552, .aload_n 0, 1), (553, .iload_n 3, 1), (554, .iconst 1, 1), (555, .iadd, 1), (556, .iaload, 1), (557, .aload_n 0, 1), (558, .iload_n 3, 1), (559, .iconst 2, 1), (560, .iadd, 1), (561, .iaload, 1), (562, .invokevirtual 84, 3), (565, .aload_n 2, 1), (566, .aload_n 0, 1), (567, .iload_n 3, 1), (568, .iconst 1, 1), (569, .iadd, 1), (570, .iaload, 1), (571, .aload_n 0, 1), (572, .iload_n 3, 1), (573, .iconst 2, 1), (574, .iadd, 1), (575, .iaload, 1), (576, .invokevirtual 87, 3), (579, .if_icmp .eq 271, 3), (582, .iconst 0, 1), (583, .ireturn, 1), (584, .aload_n 1, 1), (585, .aload_n 0, 1), (586, .iload_n 3, 1), (587, .iconst 1, 1), (588, .iadd, 1), (589, .iaload, 1), (590, .aload_n 0, 1), (591, .iload_n 3, 1), (592, .iconst 2, 1), (593, .iadd, 1), (594, .iaload, 1), (595, .invokevirtual 88, 3), (598, .aload_n 2, 1), (599, .aload_n 0, 1), (600, .iload_n 3, 1), (601, .iconst 1, 1), (602, .iadd, 1), (603, .iaload, 1), (604, .aload_n 0, 1), (605, .iload_n 3, 1), (606, .iconst 2, 1), (607, .iadd, 1)]
theorem dd_L_law_6 : ∀ e ∈ D_L_law_6, decode (mtJ 187).2.1 e.1 = .ok e.2 := by decide +kernel
set_option maxRecDepth 10000 in
theorem so_L_law_6 : ∀ e ∈ o_L_law_6, SndO 187 e.1 e.2 := by
  refine List.forall_mem_cons.mpr ⟨⟨s_callV (ci := 8) rfl mo101 rfl rfl (dd_L_law_6 (534, .invokevirtual 80, 3) (List.mem_of_getElem? (i := 0) rfl)) ow_L_law mlL_80 mi101 msl101 in_8 mn101, mo101⟩, ?_⟩
  refine List.forall_mem_cons.mpr ⟨s_aload_n (dd_L_law_6 (537, .aload_n 2, 1) (List.mem_of_getElem? (i := 1) rfl)) rfl, ?_⟩
  refine List.forall_mem_cons.mpr ⟨s_aload_n (dd_L_law_6 (538, .aload_n 0, 1) (List.mem_of_getElem? (i := 2) rfl)) rfl, ?_⟩
  refine List.forall_mem_cons.mpr ⟨s_iload_n (dd_L_law_6 (539, .iload_n 3, 1) (List.mem_of_getElem? (i := 3) rfl)) rfl, ?_⟩
  refine List.forall_mem_cons.mpr ⟨s_iconst (dd_L_law_6 (540, .iconst 1, 1) (List.mem_of_getElem? (i := 4) rfl)) rfl, ?_⟩
  refine List.forall_mem_cons.mpr ⟨s_iadd (dd_L_law_6 (541, .iadd, 1) (List.mem_of_getElem? (i := 5) rfl)), ?_⟩
  refine List.forall_mem_cons.mpr ⟨s_iald (dd_L_law_6 (542, .iaload, 1) (List.mem_of_getElem? (i := 6) rfl)), ?_⟩
  refine List.forall_mem_cons.mpr ⟨⟨s_callV (ci := 9) rfl mo170 rfl rfl (dd_L_law_6 (543, .invokevirtual 83, 3) (List.mem_of_getElem? (i := 7) rfl)) ow_L_law mlL_83 mi170 msl170 in_9 mn170, mo170⟩, ?_⟩
  refine List.forall_mem_cons.mpr ⟨s_icmp_eq (dd_L_law_6 (546, .if_icmp .eq 304, 3) (List.mem_of_getElem? (i := 8) rfl)) (by decide), ?_⟩
  refine List.forall_mem_cons.mpr ⟨s_iconst (dd_L_law_6 (549, .iconst 0, 1) (List.mem_of_getElem? (i := 9) rfl)) rfl, ?_⟩
  refine List.forall_mem_cons.mpr ⟨Or.inr (Or.inr ⟨rfl, (dd_L_law_6 (550, .ireturn, 1) (List.mem_of_getElem? (i := 10) rfl)), rfl⟩), ?_⟩
  refine List.forall_mem_cons.mpr ⟨s_aload_n (dd_L_law_6 (551, .aload_n 1, 1) (List.mem_of_getElem? (i := 11) rfl)) rfl, ?_⟩
  refine List.forall_mem_cons.mpr ⟨s_aload_n (dd_L_law_6 (552, .aload_n 0, 1) (List.mem_of_getElem? (i := 12) rfl)) rfl, ?_⟩
  refine List.forall_mem_cons.mpr ⟨s_iload_n (dd_L_law_6 (553, .iload_n 3, 1) (List.mem_of_getElem? (i := 13) rfl)) rfl, ?_⟩
  refine List.forall_mem_cons.mpr ⟨s_iconst (dd_L_law_6 (554, .iconst 1, 1) (List.mem_of_getElem? (i := 14) rfl)) rfl, ?_⟩
  refine List.forall_mem_cons.mpr ⟨s_iadd (dd_L_law_6 (555, .iadd, 1) (List.mem_of_getElem? (i := 15) rfl)), ?_⟩
  refine List.forall_mem_cons.mpr ⟨s_iald (dd_L_law_6 (556, .iaload, 1) (List.mem_of_getElem? (i := 16) rfl)), ?_⟩
  refine List.forall_mem_cons.mpr ⟨s_aload_n (dd_L_law_6 (557, .aload_n 0, 1) (List.mem_of_getElem? (i := 17) rfl)) rfl, ?_⟩
  refine List.forall_mem_cons.mpr ⟨s_iload_n (dd_L_law_6 (558, .iload_n 3, 1) (List.mem_of_getElem? (i := 18) rfl)) rfl, ?_⟩
  refine List.forall_mem_cons.mpr ⟨s_iconst (dd_L_law_6 (559, .iconst 2, 1) (List.mem_of_getElem? (i := 19) rfl)) rfl, ?_⟩
  refine List.forall_mem_cons.mpr ⟨s_iadd (dd_L_law_6 (560, .iadd, 1) (List.mem_of_getElem? (i := 20) rfl)), ?_⟩
  refine List.forall_mem_cons.mpr ⟨s_iald (dd_L_law_6 (561, .iaload, 1) (List.mem_of_getElem? (i := 21) rfl)), ?_⟩
  refine List.forall_mem_cons.mpr ⟨⟨s_callV (ci := 8) rfl mo102 rfl rfl (dd_L_law_6 (562, .invokevirtual 84, 3) (List.mem_of_getElem? (i := 22) rfl)) ow_L_law mlL_84 mi102 msl102 in_8 mn102, mo102⟩, ?_⟩
  refine List.forall_mem_cons.mpr ⟨s_aload_n (dd_L_law_6 (565, .aload_n 2, 1) (List.mem_of_getElem? (i := 23) rfl)) rfl, ?_⟩
  refine List.forall_mem_cons.mpr ⟨s_aload_n (dd_L_law_6 (566, .aload_n 0, 1) (List.mem_of_getElem? (i := 24) rfl)) rfl, ?_⟩
  refine List.forall_mem_cons.mpr ⟨s_iload_n (dd_L_law_6 (567, .iload_n 3, 1) (List.mem_of_getElem? (i := 25) rfl)) rfl, ?_⟩
  refine List.forall_mem_cons.mpr ⟨s_iconst (dd_L_law_6 (568, .iconst 1, 1) (List.mem_of_getElem? (i := 26) rfl)) rfl, ?_⟩
  refine List.forall_mem_cons.mpr ⟨s_iadd (dd_L_law_6 (569, .iadd, 1) (List.mem_of_getElem? (i := 27) rfl)), ?_⟩
  refine List.forall_mem_cons.mpr ⟨s_iald (dd_L_law_6 (570, .iaload, 1) (List.mem_of_getElem? (i := 28) rfl)), ?_⟩
  refine List.forall_mem_cons.mpr ⟨s_aload_n (dd_L_law_6 (571, .aload_n 0, 1) (List.mem_of_getElem? (i := 29) rfl)) rfl, ?_⟩
  refine List.forall_mem_cons.mpr ⟨s_iload_n (dd_L_law_6 (572, .iload_n 3, 1) (List.mem_of_getElem? (i := 30) rfl)) rfl, ?_⟩
  refine List.forall_mem_cons.mpr ⟨s_iconst (dd_L_law_6 (573, .iconst 2, 1) (List.mem_of_getElem? (i := 31) rfl)) rfl, ?_⟩
  refine List.forall_mem_cons.mpr ⟨s_iadd (dd_L_law_6 (574, .iadd, 1) (List.mem_of_getElem? (i := 32) rfl)), ?_⟩
  refine List.forall_mem_cons.mpr ⟨s_iald (dd_L_law_6 (575, .iaload, 1) (List.mem_of_getElem? (i := 33) rfl)), ?_⟩
  refine List.forall_mem_cons.mpr ⟨⟨s_callV (ci := 9) rfl mo173 rfl rfl (dd_L_law_6 (576, .invokevirtual 87, 3) (List.mem_of_getElem? (i := 34) rfl)) ow_L_law mlL_87 mi173 msl173 in_9 mn173, mo173⟩, ?_⟩
  refine List.forall_mem_cons.mpr ⟨s_icmp_eq (dd_L_law_6 (579, .if_icmp .eq 271, 3) (List.mem_of_getElem? (i := 35) rfl)) (by decide), ?_⟩
  refine List.forall_mem_cons.mpr ⟨s_iconst (dd_L_law_6 (582, .iconst 0, 1) (List.mem_of_getElem? (i := 36) rfl)) rfl, ?_⟩
  refine List.forall_mem_cons.mpr ⟨Or.inr (Or.inr ⟨rfl, (dd_L_law_6 (583, .ireturn, 1) (List.mem_of_getElem? (i := 37) rfl)), rfl⟩), ?_⟩
  refine List.forall_mem_cons.mpr ⟨s_aload_n (dd_L_law_6 (584, .aload_n 1, 1) (List.mem_of_getElem? (i := 38) rfl)) rfl, ?_⟩
  refine List.forall_mem_cons.mpr ⟨s_aload_n (dd_L_law_6 (585, .aload_n 0, 1) (List.mem_of_getElem? (i := 39) rfl)) rfl, ?_⟩
  refine List.forall_mem_cons.mpr ⟨s_iload_n (dd_L_law_6 (586, .iload_n 3, 1) (List.mem_of_getElem? (i := 40) rfl)) rfl, ?_⟩
  refine List.forall_mem_cons.mpr ⟨s_iconst (dd_L_law_6 (587, .iconst 1, 1) (List.mem_of_getElem? (i := 41) rfl)) rfl, ?_⟩
  refine List.forall_mem_cons.mpr ⟨s_iadd (dd_L_law_6 (588, .iadd, 1) (List.mem_of_getElem? (i := 42) rfl)), ?_⟩
  refine List.forall_mem_cons.mpr ⟨s_iald (dd_L_law_6 (589, .iaload, 1) (List.mem_of_getElem? (i := 43) rfl)), ?_⟩
  refine List.forall_mem_cons.mpr ⟨s_aload_n (dd_L_law_6 (590, .aload_n 0, 1) (List.mem_of_getElem? (i := 44) rfl)) rfl, ?_⟩
  refine List.forall_mem_cons.mpr ⟨s_iload_n (dd_L_law_6 (591, .iload_n 3, 1) (List.mem_of_getElem? (i := 45) rfl)) rfl, ?_⟩
  refine List.forall_mem_cons.mpr ⟨s_iconst (dd_L_law_6 (592, .iconst 2, 1) (List.mem_of_getElem? (i := 46) rfl)) rfl, ?_⟩
  refine List.forall_mem_cons.mpr ⟨s_iadd (dd_L_law_6 (593, .iadd, 1) (List.mem_of_getElem? (i := 47) rfl)), ?_⟩
  refine List.forall_mem_cons.mpr ⟨s_iald (dd_L_law_6 (594, .iaload, 1) (List.mem_of_getElem? (i := 48) rfl)), ?_⟩
  refine List.forall_mem_cons.mpr ⟨⟨s_callV (ci := 8) rfl mo103 rfl rfl (dd_L_law_6 (595, .invokevirtual 88, 3) (List.mem_of_getElem? (i := 49) rfl)) ow_L_law mlL_88 mi103 msl103 in_8 mn103, mo103⟩, ?_⟩
  refine List.forall_mem_cons.mpr ⟨s_aload_n (dd_L_law_6 (598, .aload_n 2, 1) (List.mem_of_getElem? (i := 50) rfl)) rfl, ?_⟩
  refine List.forall_mem_cons.mpr ⟨s_aload_n (dd_L_law_6 (599, .aload_n 0, 1) (List.mem_of_getElem? (i := 51) rfl)) rfl, ?_⟩
  refine List.forall_mem_cons.mpr ⟨s_iload_n (dd_L_law_6 (600, .iload_n 3, 1) (List.mem_of_getElem? (i := 52) rfl)) rfl, ?_⟩
  refine List.forall_mem_cons.mpr ⟨s_iconst (dd_L_law_6 (601, .iconst 1, 1) (List.mem_of_getElem? (i := 53) rfl)) rfl, ?_⟩
  refine List.forall_mem_cons.mpr ⟨s_iadd (dd_L_law_6 (602, .iadd, 1) (List.mem_of_getElem? (i := 54) rfl)), ?_⟩
  refine List.forall_mem_cons.mpr ⟨s_iald (dd_L_law_6 (603, .iaload, 1) (List.mem_of_getElem? (i := 55) rfl)), ?_⟩
  refine List.forall_mem_cons.mpr ⟨s_aload_n (dd_L_law_6 (604, .aload_n 0, 1) (List.mem_of_getElem? (i := 56) rfl)) rfl, ?_⟩
  refine List.forall_mem_cons.mpr ⟨s_iload_n (dd_L_law_6 (605, .iload_n 3, 1) (List.mem_of_getElem? (i := 57) rfl)) rfl, ?_⟩
  refine List.forall_mem_cons.mpr ⟨s_iconst (dd_L_law_6 (606, .iconst 2, 1) (List.mem_of_getElem? (i := 58) rfl)) rfl, ?_⟩
  refine List.forall_mem_cons.mpr ⟨s_iadd (dd_L_law_6 (607, .iadd, 1) (List.mem_of_getElem? (i := 59) rfl)), ?_⟩
  exact fun _ h => absurd h List.not_mem_nil
def D_L_law_7 : List (Nat × Instr × Nat) := [(608, .iaload, 1), (609, .invokevirtual 91, 3), (612, .if_icmp .eq 238, 3), (615, .iconst 0, 1), (616, .ireturn, 1), (617, .aload_n 1, 1), (618, .aload_n 0, 1), (619, .iload_n 3, 1), (620, .iconst 1, 1), (621, .iadd, 1), (622, .iaload, 1), (623, .aload_n 0, 1), (624, .iload_n 3, 1), (625, .iconst 2, 1), (626, .iadd, 1), (627, .iaload, 1), (628, .invokevirtual 92, 3), (631, .aload_n 2, 1), (632, .aload_n 0, 1), (633, .iload_n 3, 1), (634, .iconst 1, 1), (635, .iadd, 1), (636, .iaload, 1), (637, .aload_n 0, 1), (638, .iload_n 3, 1), (639, .iconst 2, 1), (640, .iadd, 1), (641, .iaload, 1), (642, .invokevirtual 95, 3), (645, .if_icmp .eq 205, 3), (648, .iconst 0, 1), (649, .ireturn, 1), (650, .aload_n 1, 1), (651, .aload_n 0, 1), (652, .iload_n 3, 1), (653, .iconst 1, 1), (654, .iadd, 1), (655, .iaload, 1), (656, .aload_n 0, 1), (657, .iload_n 3, 1), (658, .iconst 2, 1), (659, .iadd, 1), (660, .iaload, 1), (661, .aload_n 0, 1), (662, .iload_n 3, 1), (663, .iconst 3, 1), (664, .iadd, 1), (665, .iaload, 1), (666, .ifCond .eq 7, 3), (669, .iconst 1, 1), (670, .goto 4, 3), (673, .iconst 0, 1), (674, .invokevirtual 96, 3), (677, .aload_n 2, 1), (678, .aload_n 0, 1), (679, .iload_n 3, 1), (680, .iconst 1, 1), (681, .iadd, 1), (682, .iaload, 1), (683, .aload_n 0, 1)]
theorem dd_L_law_7 : ∀ e ∈ D_L_law_7, decode (mtJ 187).2.1 e.1 = .ok e.2 := by decide +kernel
set_option maxRecDepth 10000 in
theorem so_L_law_7 : ∀ e ∈ o_L_law_7, SndO 187 e.1 e.2 := by
  refine List.forall_mem_cons.mpr ⟨s_iald (dd_L_law_7 (608, .iaload, 1) (List.mem_of_getElem? (i := 0) rfl)), ?_⟩
  refine List.forall_mem_cons.mpr ⟨⟨s_callV (ci := 9) rfl mo175 rfl rfl (dd_L_law_7 (609, .invokevirtual 91, 3) (List.mem_of_getElem? (i := 1) rfl)) ow_L_law mlL_91 mi175 msl175 in_9 mn175, mo175⟩, ?_⟩
  refine List.forall_mem_cons.mpr ⟨s_icmp_eq (dd_L_law_7 (612, .if_icmp .eq 238, 3) (List.mem_of_getElem? (i := 2) rfl)) (by decide), ?_⟩
  refine List.forall_mem_cons.mpr ⟨s_iconst (dd_L_law_7 (615, .iconst 0, 1) (List.mem_of_getElem? (i := 3) rfl)) rfl, ?_⟩
  refine List.forall_mem_cons.mpr ⟨Or.inr (Or.inr ⟨rfl, (dd_L_law_7 (616, .ireturn, 1) (List.mem_of_getElem? (i := 4) rfl)), rfl⟩), ?_⟩
  refine List.forall_mem_cons.mpr ⟨s_aload_n (dd_L_law_7 (617, .aload_n 1, 1) (List.mem_of_getElem? (i := 5) rfl)) rfl, ?_⟩
  refine List.forall_mem_cons.mpr ⟨s_aload_n (dd_L_law_7 (618, .aload_n 0, 1) (List.mem_of_getElem? (i := 6) rfl)) rfl, ?_⟩
  refine List.forall_mem_cons.mpr ⟨s_iload_n (dd_L_law_7 (619, .iload_n 3, 1) (List.mem_of_getElem? (i := 7) rfl)) rfl, ?_⟩
  refine List.forall_mem_cons.mpr ⟨s_iconst (dd_L_law_7 (620, .iconst 1, 1) (List.mem_of_getElem? (i := 8) rfl)) rfl, ?_⟩
  refine List.forall_mem_cons.mpr ⟨s_iadd (dd_L_law_7 (621, .iadd, 1) (List.mem_of_getElem? (i := 9) rfl)), ?_⟩
  refine List.forall_mem_cons.mpr ⟨s_iald (dd_L_law_7 (622, .iaload, 1) (List.mem_of_getElem? (i := 10) rfl)), ?_⟩
  refine List.forall_mem_cons.mpr ⟨s_aload_n (dd_L_law_7 (623, .aload_n 0, 1) (List.mem_of_getElem? (i := 11) rfl)) rfl, ?_⟩
  refine List.forall_mem_cons.mpr ⟨s_iload_n (dd_L_law_7 (624, .iload_n 3, 1) (List.mem_of_getElem? (i := 12) rfl)) rfl, ?_⟩
  refine List.forall_mem_cons.mpr ⟨s_iconst (dd_L_law_7 (625, .iconst 2, 1) (List.mem_of_getElem? (i := 13) rfl)) rfl, ?_⟩
  refine List.forall_mem_cons.mpr ⟨s_iadd (dd_L_law_7 (626, .iadd, 1) (List.mem_of_getElem? (i := 14) rfl)), ?_⟩
  refine List.forall_mem_cons.mpr ⟨s_iald (dd_L_law_7 (627, .iaload, 1) (List.mem_of_getElem? (i := 15) rfl)), ?_⟩
  refine List.forall_mem_cons.mpr ⟨⟨s_callV (ci := 8) rfl mo104 rfl rfl (dd_L_law_7 (628, .invokevirtual 92, 3) (List.mem_of_getElem? (i := 16) rfl)) ow_L_law mlL_92 mi104 msl104 in_8 mn104, mo104⟩, ?_⟩
  refine List.forall_mem_cons.mpr ⟨s_aload_n (dd_L_law_7 (631, .aload_n 2, 1) (List.mem_of_getElem? (i := 17) rfl)) rfl, ?_⟩
  refine List.forall_mem_cons.mpr ⟨s_aload_n (dd_L_law_7 (632, .aload_n 0, 1) (List.mem_of_getElem? (i := 18) rfl)) rfl, ?_⟩
  refine List.forall_mem_cons.mpr ⟨s_iload_n (dd_L_law_7 (633, .iload_n 3, 1) (List.mem_of_getElem? (i := 19) rfl)) rfl, ?_⟩
  refine List.forall_mem_cons.mpr ⟨s_iconst (dd_L_law_7 (634, .iconst 1, 1) (List.mem_of_getElem? (i := 20) rfl)) rfl, ?_⟩
  refine List.forall_mem_cons.mpr ⟨s_iadd (dd_L_law_7 (635, .iadd, 1) (List.mem_of_getElem? (i := 21) rfl)), ?_⟩
  refine List.forall_mem_cons.mpr ⟨s_iald (dd_L_law_7 (636, .iaload, 1) (List.mem_of_getElem? (i := 22) rfl)), ?_⟩
  refine List.forall_mem_cons.mpr ⟨s_aload_n (dd_L_law_7 (637, .aload_n 0, 1) (List.mem_of_getElem? (i := 23) rfl)) rfl, ?_⟩
  refine List.forall_mem_cons.mpr ⟨s_iload_n (dd_L_law_7 (638, .iload_n 3, 1) (List.mem_of_getElem? (i := 24) rfl)) rfl, ?_⟩
  refine List.forall_mem_cons.mpr ⟨s_iconst (dd_L_law_7 (639, .iconst 2, 1) (List.mem_of_getElem? (i := 25) rfl)) rfl, ?_⟩
  refine List.forall_mem_cons.mpr ⟨s_iadd (dd_L_law_7 (640, .iadd, 1) (List.mem_of_getElem? (i := 26) rfl)), ?_⟩
  refine List.forall_mem_cons.mpr ⟨s_iald (dd_L_law_7 (641, .iaload, 1) (List.mem_of_getElem? (i := 27) rfl)), ?_⟩
  refine List.forall_mem_cons.mpr ⟨⟨s_callV (ci := 9) rfl mo176 rfl rfl (dd_L_law_7 (642, .invokevirtual 95, 3) (List.mem_of_getElem? (i := 28) rfl)) ow_L_law mlL_95 mi176 msl176 in_9 mn176, mo176⟩, ?_⟩
  refine List.forall_mem_cons.mpr ⟨s_icmp_eq (dd_L_law_7 (645, .if_icmp .eq 205, 3) (List.mem_of_getElem? (i := 29) rfl)) (by decide), ?_⟩
  refine List.forall_mem_cons.mpr ⟨s_iconst (dd_L_law_7 (648, .iconst 0, 1) (List.mem_of_getElem? (i := 30) rfl)) rfl, ?_⟩
  refine List.forall_mem_cons.mpr ⟨Or.inr (Or.inr ⟨rfl, (dd_L_law_7 (649, .ireturn, 1) (List.mem_of_getElem? (i := 31) rfl)), rfl⟩), ?_⟩
  refine List.forall_mem_cons.mpr ⟨s_aload_n (dd_L_law_7 (650, .aload_n 1, 1) (List.mem_of_getElem? (i := 32) rfl)) rfl, ?_⟩
  refine List.forall_mem_cons.mpr ⟨s_aload_n (dd_L_law_7 (651, .aload_n 0, 1) (List.mem_of_getElem? (i := 33) rfl)) rfl, ?_⟩
  refine List.forall_mem_cons.mpr ⟨s_iload_n (dd_L_law_7 (652, .iload_n 3, 1) (List.mem_of_getElem? (i := 34) rfl)) rfl, ?_⟩
  refine List.forall_mem_cons.mpr ⟨s_iconst (dd_L_law_7 (653, .iconst 1, 1) (List.mem_of_getElem? (i := 35) rfl)) rfl, ?_⟩
  refine List.forall_mem_cons.mpr ⟨s_iadd (dd_L_law_7 (654, .iadd, 1) (List.mem_of_getElem? (i := 36) rfl)), ?_⟩
  refine List.forall_mem_cons.mpr ⟨s_iald (dd_L_law_7 (655, .iaload, 1) (List.mem_of_getElem? (i := 37) rfl)), ?_⟩
  refine List.forall_mem_cons.mpr ⟨s_aload_n (dd_L_law_7 (656, .aload_n 0, 1) (List.mem_of_getElem? (i := 38) rfl)) rfl, ?_⟩
  refine List.forall_mem_cons.mpr ⟨s_iload_n (dd_L_law_7 (657, .iload_n 3, 1) (List.mem_of_getElem? (i := 39) rfl)) rfl, ?_⟩
  refine List.forall_mem_cons.mpr ⟨s_iconst (dd_L_law_7 (658, .iconst 2, 1) (List.mem_of_getElem? (i := 40) rfl)) rfl, ?_⟩
  refine List.forall_mem_cons.mpr ⟨s_iadd (dd_L_law_7 (659, .iadd, 1) (List.mem_of_getElem? (i := 41) rfl)), ?_⟩
  refine List.forall_mem_cons.mpr ⟨s_iald (dd_L_law_7 (660, .iaload, 1) (List.mem_of_getElem? (i := 42) rfl)), ?_⟩
  refine List.forall_mem_cons.mpr ⟨s_aload_n (dd_L_law_7 (661, .aload_n 0, 1) (List.mem_of_getElem? (i := 43) rfl)) rfl, ?_⟩
  refine List.forall_mem_cons.mpr ⟨s_iload_n (dd_L_law_7 (662, .iload_n 3, 1) (List.mem_of_getElem? (i := 44) rfl)) rfl, ?_⟩
  refine List.forall_mem_cons.mpr ⟨s_iconst (dd_L_law_7 (663, .iconst 3, 1) (List.mem_of_getElem? (i := 45) rfl)) rfl, ?_⟩
  refine List.forall_mem_cons.mpr ⟨s_iadd (dd_L_law_7 (664, .iadd, 1) (List.mem_of_getElem? (i := 46) rfl)), ?_⟩
  refine List.forall_mem_cons.mpr ⟨s_iald (dd_L_law_7 (665, .iaload, 1) (List.mem_of_getElem? (i := 47) rfl)), ?_⟩
  refine List.forall_mem_cons.mpr ⟨s_if_eq (dd_L_law_7 (666, .ifCond .eq 7, 3) (List.mem_of_getElem? (i := 48) rfl)) (by decide), ?_⟩
  refine List.forall_mem_cons.mpr ⟨s_iconst (dd_L_law_7 (669, .iconst 1, 1) (List.mem_of_getElem? (i := 49) rfl)) rfl, ?_⟩
  refine List.forall_mem_cons.mpr ⟨s_goto (dd_L_law_7 (670, .goto 4, 3) (List.mem_of_getElem? (i := 50) rfl)) (by decide), ?_⟩
  refine List.forall_mem_cons.mpr ⟨s_iconst (dd_L_law_7 (673, .iconst 0, 1) (List.mem_of_getElem? (i := 51) rfl)) rfl, ?_⟩
  refine List.forall_mem_cons.mpr ⟨⟨s_callV (ci := 8) rfl mo105 rfl rfl (dd_L_law_7 (674, .invokevirtual 96, 3) (List.mem_of_getElem? (i := 52) rfl)) ow_L_law mlL_96 mi105 msl105 in_8 mn105, mo105⟩, ?_⟩
  refine List.forall_mem_cons.mpr ⟨s_aload_n (dd_L_law_7 (677, .aload_n 2, 1) (List.mem_of_getElem? (i := 53) rfl)) rfl, ?_⟩
  refine List.forall_mem_cons.mpr ⟨s_aload_n (dd_L_law_7 (678, .aload_n 0, 1) (List.mem_of_getElem? (i := 54) rfl)) rfl, ?_⟩
  refine List.forall_mem_cons.mpr ⟨s_iload_n (dd_L_law_7 (679, .iload_n 3, 1) (List.mem_of_getElem? (i := 55) rfl)) rfl, ?_⟩
  refine List.forall_mem_cons.mpr ⟨s_iconst (dd_L_law_7 (680, .iconst 1, 1) (List.mem_of_getElem? (i := 56) rfl)) rfl, ?_⟩
  refine List.forall_mem_cons.mpr ⟨s_iadd (dd_L_law_7 (681, .iadd, 1) (List.mem_of_getElem? (i := 57) rfl)), ?_⟩
  refine List.forall_mem_cons.mpr ⟨s_iald (dd_L_law_7 (682, .iaload, 1) (List.mem_of_getElem? (i := 58) rfl)), ?_⟩
  refine List.forall_mem_cons.mpr ⟨s_aload_n (dd_L_law_7 (683, .aload_n 0, 1) (List.mem_of_getElem? (i := 59) rfl)) rfl, ?_⟩
  exact fun _ h => absurd h List.not_mem_nil
def D_L_law_8 : List (Nat × Instr × Nat) := [(684, .iload_n 3, 1), (685, .iconst 2, 1), (686, .iadd, 1), (687, .iaload, 1), (688, .aload_n 0, 1), (689, .iload_n 3, 1), (690, .iconst 3, 1), (691, .iadd, 1), (692, .iaload, 1), (693, .ifCond .eq 7, 3), (696, .iconst 1, 1), (697, .goto 4, 3), (700, .iconst 0, 1), (701, .invokevirtual 100, 3), (704, .if_icmp .eq 146, 3), (707, .iconst 0, 1), (708, .ireturn, 1), (709, .aload_n 1, 1), (710, .invokevirtual 101, 3), (713, .aload_n 2, 1), (714, .invokevirtual 104, 3), (717, .if_icmp .eq 133, 3), (720, .iconst 0, 1), (721, .ireturn, 1), (722, .aload_n 1, 1), (723, .aload_n 0, 1), (724, .iload_n 3, 1), (725, .iconst 1, 1), (726, .iadd, 1), (727, .iaload, 1), (728, .aload_n 0, 1), (729, .iload_n 3, 1), (730, .iconst 2, 1), (731, .iadd, 1), (732, .iaload, 1), (733, .invokevirtual 105, 3), (736, .aload_n 2, 1), (737, .aload_n 0, 1), (738, .iload_n 3, 1), (739, .iconst 1, 1), (740, .iadd, 1), (741, .iaload, 1), (742, .aload_n 0, 1), (743, .iload_n 3, 1), (744, .iconst 2, 1), (745, .iadd, 1), (746, .iaload, 1), (747, .invokevirtual 108, 3), (750, .if_icmp .eq 100, 3), (753, .iconst 0, 1), (754, .ireturn, 1), (755, .aload_n 1, 1), (756, .invokevirtual 109, 3), (759, .aload_n 2, 1), (760, .invokevirtual 112, 3), (763, .if_icmp .eq 87, 3), (766, .iconst 0, 1), (767, .ireturn, 1), (768, .aload_n 1, 1), (769, .invokevirtual 113, 3)]
theorem dd_L_law_8 : ∀ e ∈ D_L_law_8, decode (mtJ 187).2.1 e.1 = .ok e.2 := by decide +kernel
set_option maxRecDepth 10000 in
theorem so_L_law_8 : ∀ e ∈ o_L_law_8, SndO 187 e.1 e.2 := by
  refine List.forall_mem_cons.mpr ⟨s_iload_n (dd_L_law_8 (684, .iload_n 3, 1) (List.mem_of_getElem? (i := 0) rfl)) rfl, ?_⟩
  refine List.forall_mem_cons.mpr ⟨s_iconst (dd_L_law_8 (685, .iconst 2, 1) (List.mem_of_getElem? (i := 1) rfl)) rfl, ?_⟩
  refine List.forall_mem_cons.mpr ⟨s_iadd (dd_L_law_8 (686, .iadd, 1) (List.mem_of_getElem? (i := 2) rfl)), ?_⟩
  refine List.forall_mem_cons.mpr ⟨s_iald (dd_L_law_8 (687, .iaload, 1) (List.mem_of_getElem? (i := 3) rfl)), ?_⟩
  refine List.forall_mem_cons.mpr ⟨s_aload_n (dd_L_law_8 (688, .aload_n 0, 1) (List.mem_of_getElem? (i := 4) rfl)) rfl, ?_⟩
  refine List.forall_mem_cons.mpr ⟨s_iload_n (dd_L_law_8 (689, .iload_n 3, 1) (List.mem_of_getElem? (i := 5) rfl)) rfl, ?_⟩
  refine List.forall_mem_cons.mpr ⟨s_iconst (dd_L_law_8 (690, .iconst 3, 1) (List.mem_of_getElem? (i := 6) rfl)) rfl, ?_⟩
  refine List.forall_mem_cons.mpr ⟨s_iadd (dd_L_law_8 (691, .iadd, 1) (List.mem_of_getElem? (i := 7) rfl)), ?_⟩
  refine List.forall_mem_cons.mpr ⟨s_iald (dd_L_law_8 (692, .iaload, 1) (List.mem_of_getElem? (i := 8) rfl)), ?_⟩
  refine List.forall_mem_cons.mpr ⟨s_if_eq (dd_L_law_8 (693, .ifCond .eq 7, 3) (List.mem_of_getElem? (i := 9) rfl)) (by decide), ?_⟩
  refine List.forall_mem_cons.mpr ⟨s_iconst (dd_L_law_8 (696, .iconst 1, 1) (List.mem_of_getElem? (i := 10) rfl)) rfl, ?_⟩
  refine List.forall_mem_cons.mpr ⟨s_goto (dd_L_law_8 (697, .goto 4, 3) (List.mem_of_getElem? (i := 11) rfl)) (by decide), ?_⟩
  refine List.forall_mem_cons.mpr ⟨s_iconst (dd_L_law_8 (700, .iconst 0, 1) (List.mem_of_getElem? (i := 12) rfl)) rfl, ?_⟩
  refine List.forall_mem_cons.mpr ⟨⟨s_callV (ci := 9) rfl mo177 rfl rfl (dd_L_law_8 (701, .invokevirtual 100, 3) (List.mem_of_getElem? (i := 13) rfl)) ow_L_law mlL_100 mi177 msl177 in_9 mn177, mo177⟩, ?_⟩
  refine List.forall_mem_cons.mpr ⟨s_icmp_eq (dd_L_law_8 (704, .if_icmp .eq 146, 3) (List.mem_of_getElem? (i := 14) rfl)) (by decide), ?_⟩
  refine List.forall_mem_cons.mpr ⟨s_iconst (dd_L_law_8 (707, .iconst 0, 1) (List.mem_of_getElem? (i := 15) rfl)) rfl, ?_⟩
  refine List.forall_mem_cons.mpr ⟨Or.inr (Or.inr ⟨rfl, (dd_L_law_8 (708, .ireturn, 1) (List.mem_of_getElem? (i := 16) rfl)), rfl⟩), ?_⟩
  refine List.forall_mem_cons.mpr ⟨s_aload_n (dd_L_law_8 (709, .aload_n 1, 1) (List.mem_of_getElem? (i := 17) rfl)) rfl, ?_⟩
  refine List.forall_mem_cons.mpr ⟨⟨s_callV (ci := 8) rfl mo106 rfl rfl (dd_L_law_8 (710, .invokevirtual 101, 3) (List.mem_of_getElem? (i := 18) rfl)) ow_L_law mlL_101 mi106 msl106 in_8 mn106, mo106⟩, ?_⟩
  refine List.forall_mem_cons.mpr ⟨s_aload_n (dd_L_law_8 (713, .aload_n 2, 1) (List.mem_of_getElem? (i := 19) rfl)) rfl, ?_⟩
  refine List.forall_mem_cons.mpr ⟨⟨s_callV (ci := 9) rfl mo179 rfl rfl (dd_L_law_8 (714, .invokevirtual 104, 3) (List.mem_of_getElem? (i := 20) rfl)) ow_L_law mlL_104 mi179 msl179 in_9 mn179, mo179⟩, ?_⟩
  refine List.forall_mem_cons.mpr ⟨s_icmp_eq (dd_L_law_8 (717, .if_icmp .eq 133, 3) (List.mem_of_getElem? (i := 21) rfl)) (by decide), ?_⟩
  refine List.forall_mem_cons.mpr ⟨s_iconst (dd_L_law_8 (720, .iconst 0, 1) (List.mem_of_getElem? (i := 22) rfl)) rfl, ?_⟩
  refine List.forall_mem_cons.mpr ⟨Or.inr (Or.inr ⟨rfl, (dd_L_law_8 (721, .ireturn, 1) (List.mem_of_getElem? (i := 23) rfl)), rfl⟩), ?_⟩
  refine List.forall_mem_cons.mpr ⟨s_aload_n (dd_L_law_8 (722, .aload_n 1, 1) (List.mem_of_getElem? (i := 24) rfl)) rfl, ?_⟩
  refine List.forall_mem_cons.mpr ⟨s_aload_n (dd_L_law_8 (723, .aload_n 0, 1) (List.mem_of_getElem? (i := 25) rfl)) rfl, ?_⟩
  refine List.forall_mem_cons.mpr ⟨s_iload_n (dd_L_law_8 (724, .iload_n 3, 1) (List.mem_of_getElem? (i := 26) rfl)) rfl, ?_⟩
  refine List.forall_mem_cons.mpr ⟨s_iconst (dd_L_law_8 (725, .iconst 1, 1) (List.mem_of_getElem? (i := 27) rfl)) rfl, ?_⟩
  refine List.forall_mem_cons.mpr ⟨s_iadd (dd_L_law_8 (726, .iadd, 1) (List.mem_of_getElem? (i := 28) rfl)), ?_⟩
  refine List.forall_mem_cons.mpr ⟨s_iald (dd_L_law_8 (727, .iaload, 1) (List.mem_of_getElem? (i := 29) rfl)), ?_⟩
  refine List.forall_mem_cons.mpr ⟨s_aload_n (dd_L_law_8 (728, .aload_n 0, 1) (List.mem_of_getElem? (i := 30) rfl)) rfl, ?_⟩
  refine List.forall_mem_cons.mpr ⟨s_iload_n (dd_L_law_8 (729, .iload_n 3, 1) (List.mem_of_getElem? (i := 31) rfl)) rfl, ?_⟩
  refine List.forall_mem_cons.mpr ⟨s_iconst (dd_L_law_8 (730, .iconst 2, 1) (List.mem_of_getElem? (i := 32) rfl)) rfl, ?_⟩
  refine List.forall_mem_cons.mpr ⟨s_iadd (dd_L_law_8 (731, .iadd, 1) (List.mem_of_getElem? (i := 33) rfl)), ?_⟩
  refine List.forall_mem_cons.mpr ⟨s_iald (dd_L_law_8 (732, .iaload, 1) (List.mem_of_getElem? (i := 34) rfl)), ?_⟩
  refine List.forall_mem_cons.mpr ⟨⟨s_callV (ci := 8) rfl mo107 rfl rfl (dd_L_law_8 (733, .invokevirtual 105, 3) (List.mem_of_getElem? (i := 35) rfl)) ow_L_law mlL_105 mi107 msl107 in_8 mn107, mo107⟩, ?_⟩
  refine List.forall_mem_cons.mpr ⟨s_aload_n (dd_L_law_8 (736, .aload_n 2, 1) (List.mem_of_getElem? (i := 36) rfl)) rfl, ?_⟩
  refine List.forall_mem_cons.mpr ⟨s_aload_n (dd_L_law_8 (737, .aload_n 0, 1) (List.mem_of_getElem? (i := 37) rfl)) rfl, ?_⟩
  refine List.forall_mem_cons.mpr ⟨s_iload_n (dd_L_law_8 (738, .iload_n 3, 1) (List.mem_of_getElem? (i := 38) rfl)) rfl, ?_⟩
  refine List.forall_mem_cons.mpr ⟨s_iconst (dd_L_law_8 (739, .iconst 1, 1) (List.mem_of_getElem? (i := 39) rfl)) rfl, ?_⟩
  refine List.forall_mem_cons.mpr ⟨s_iadd (dd_L_law_8 (740, .iadd, 1) (List.mem_of_getElem? (i := 40) rfl)), ?_⟩
  refine List.forall_mem_cons.mpr ⟨s_iald (dd_L_law_8 (741, .iaload, 1) (List.mem_of_getElem? (i := 41) rfl)), ?_⟩
  refine List.forall_mem_cons.mpr ⟨s_aload_n (dd_L_law_8 (742, .aload_n 0, 1) (List.mem_of_getElem? (i := 42) rfl)) rfl, ?_⟩
  refine List.forall_mem_cons.mpr ⟨s_iload_n (dd_L_law_8 (743, .iload_n 3, 1) (List.mem_of_getElem? (i := 43) rfl)) rfl, ?_⟩
  refine List.forall_mem_cons.mpr ⟨s_iconst (dd_L_law_8 (744, .iconst 2, 1) (List.mem_of_getElem? (i := 44) rfl)) rfl, ?_⟩
  refine List.forall_mem_cons.mpr ⟨s_iadd (dd_L_law_8 (745, .iadd, 1) (List.mem_of_getElem? (i := 45) rfl)), ?_⟩
  refine List.forall_mem_cons.mpr ⟨s_iald (dd_L_law_8 (746, .iaload, 1) (List.mem_of_getElem? (i := 46) rfl)), ?_⟩
  refine List.forall_mem_cons.mpr ⟨⟨s_callV (ci := 9) rfl mo180 rfl rfl (dd_L_law_8 (747, .invokevirtual 108, 3) (List.mem_of_getElem? (i := 47) rfl)) ow_L_law mlL_108 mi180 msl180 in_9 mn180, mo180⟩, ?_⟩
  refine List.forall_mem_cons.mpr ⟨s_icmp_eq (dd_L_law_8 (750, .if_icmp .eq 100, 3) (List.mem_of_getElem? (i := 48) rfl)) (by decide), ?_⟩
  refine List.forall_mem_cons.mpr ⟨s_iconst (dd_L_law_8 (753, .iconst 0, 1) (List.mem_of_getElem? (i := 49) rfl)) rfl, ?_⟩
  refine List.forall_mem_cons.mpr ⟨Or.inr (Or.inr ⟨rfl, (dd_L_law_8 (754, .ireturn, 1) (List.mem_of_getElem? (i := 50) rfl)), rfl⟩), ?_⟩
  refine List.forall_mem_cons.mpr ⟨s_aload_n (dd_L_law_8 (755, .aload_n 1, 1) (List.mem_of_getElem? (i := 51) rfl)) rfl, ?_⟩
  refine List.forall_mem_cons.mpr ⟨⟨s_callV (ci := 8) rfl mo108 rfl rfl (dd_L_law_8 (756, .invokevirtual 109, 3) (List.mem_of_getElem? (i := 52) rfl)) ow_L_law mlL_109 mi108 msl108 in_8 mn108, mo108⟩, ?_⟩
  refine List.forall_mem_cons.mpr ⟨s_aload_n (dd_L_law_8 (759, .aload_n 2, 1) (List.mem_of_getElem? (i := 53) rfl)) rfl, ?_⟩
  refine List.forall_mem_cons.mpr ⟨⟨s_callV (ci := 9) rfl mo181 rfl rfl (dd_L_law_8 (760, .invokevirtual 112, 3) (List.mem_of_getElem? (i := 54) rfl)) ow_L_law mlL_112 mi181 msl181 in_9 mn181, mo181⟩, ?_⟩
  refine List.forall_mem_cons.mpr ⟨s_icmp_eq (dd_L_law_8 (763, .if_icmp .eq 87, 3) (List.mem_of_getElem? (i := 55) rfl)) (by decide), ?_⟩
  refine List.forall_mem_cons.mpr ⟨s_iconst (dd_L_law_8 (766, .iconst 0, 1) (List.mem_of_getElem? (i := 56) rfl)) rfl, ?_⟩
  refine List.forall_mem_cons.mpr ⟨Or.inr (Or.inr ⟨rfl, (dd_L_law_8 (767, .ireturn, 1) (List.mem_of_getElem? (i := 57) rfl)), rfl⟩), ?_⟩
  refine List.forall_mem_cons.mpr ⟨s_aload_n (dd_L_law_8 (768, .aload_n 1, 1) (List.mem_of_getElem? (i := 58) rfl)) rfl, ?_⟩
  refine List.forall_mem_cons.mpr ⟨⟨s_callV (ci := 8) rfl mo109 rfl rfl (dd_L_law_8 (769, .invokevirtual 113, 3) (List.mem_of_getElem? (i := 59) rfl)) ow_L_law mlL_113 mi109 msl109 in_8 mn109, mo109⟩, ?_⟩
  exact fun _ h => absurd h List.not_mem_nil
def D_L_law_9 : List (Nat × Instr × Nat) := [(772, .aload_n 2, 1), (773, .invokevirtual 116, 3), (776, .if_icmp .eq 74, 3), (779, .iconst 0, 1), (780, .ireturn, 1), (781, .aload_n 1, 1), (782, .aload_n 0, 1), (783, .iload_n 3, 1), (784, .iconst 1, 1), (785, .iadd, 1), (786, .iaload, 1), (787, .invokevirtual 117, 3), (790, .aload_n 2, 1), (791, .aload_n 0, 1), (792, .iload_n 3, 1), (793, .iconst 1, 1), (794, .iadd, 1), (795, .iaload, 1), (796, .invokevirtual 120, 3), (799, .if_icmp .eq 51, 3), (802, .iconst 0, 1), (803, .ireturn, 1), (804, .aload_n 1, 1), (805, .aload_n 0, 1), (806, .iload_n 3, 1), (807, .iconst 1, 1), (808, .iadd, 1), (809, .iaload, 1), (810, .invokevirtual 121, 3), (813, .aload_n 2, 1), (814, .aload_n 0, 1), (815, .iload_n 3, 1), (816, .iconst 1, 1), (817, .iadd, 1), (818, .iaload, 1), (819, .invokevirtual 124, 3), (822, .if_icmp .eq 28, 3), (825, .iconst 0, 1), (826, .ireturn, 1), (827, .aload_n 1, 1), (828, .aload_n 0, 1), (829, .iload_n 3, 1), (830, .iconst 1, 1), (831, .iadd, 1), (832, .iaload, 1), (833, .invokevirtual 125, 3), (836, .aload_n 2, 1), (837, .aload_n 0, 1), (838, .iload_n 3, 1), (839, .iconst 1, 1), (840, .iadd, 1), (841, .iaload, 1), (842, .invokevirtual 128, 3), (845, .if_icmp .eq 5, 3), (848, .iconst 0, 1), (849, .ireturn, 1), (850, .iinc 3 4, 3), (853, .goto (-835), 3), (856, .iconst 1, 1), (857, .ireturn, 1)]
theorem dd_L_law_9 : ∀ e ∈ D_L_law_9, decode (mtJ 187).2.1 e.1 = .ok e.2 := by decide +kernel
set_option maxRecDepth 10000 in
theorem so_L_law_9 : ∀ e ∈ o_L_law_9, SndO 187 e.1 e.2 := by
  refine List.forall_mem_cons.mpr ⟨s_aload_n (dd_L_law_9 (772, .aload_n 2, 1) (List.mem_of_getElem? (i := 0) rfl)) rfl, ?_⟩
  refine List.forall_mem_cons.mpr ⟨⟨s_callV (ci := 9) rfl mo182 rfl rfl (dd_L_law_9 (773, .invokevirtual 116, 3) (List.mem_of_getElem? (i := 1) rfl)) ow_L_law mlL_116 mi182 msl182 in_9 mn182, mo182⟩, ?_⟩
  refine List.forall_mem_cons.mpr ⟨s_icmp_eq (dd_L_law_9 (776, .if_icmp .eq 74, 3) (List.mem_of_getElem? (i := 2) rfl)) (by decide), ?_⟩
  refine List.forall_mem_cons.mpr ⟨s_iconst (dd_L_law_9 (779, .iconst 0, 1) (List.mem_of_getElem? (i := 3) rfl)) rfl, ?_⟩
  refine List.forall_mem_cons.mpr ⟨Or.inr (Or.inr ⟨rfl, (dd_L_law_9 (780, .ireturn, 1) (List.mem_of_getElem? (i := 4) rfl)), rfl⟩), ?_⟩
  refine List.forall_mem_cons.mpr ⟨s_aload_n (dd_L_law_9 (781, .aload_n 1, 1) (List.mem_of_getElem? (i := 5) rfl)) rfl, ?_⟩
  refine List.forall_mem_cons.mpr ⟨s_aload_n (dd_L_law_9 (782, .aload_n 0, 1) (List.mem_of_getElem? (i := 6) rfl)) rfl, ?_⟩
  refine List.forall_mem_cons.mpr ⟨s_iload_n (dd_L_law_9 (783, .iload_n 3, 1) (List.mem_of_getElem? (i := 7) rfl)) rfl, ?_⟩
  refine List.forall_mem_cons.mpr ⟨s_iconst (dd_L_law_9 (784, .iconst 1, 1) (List.mem_of_getElem? (i := 8) rfl)) rfl, ?_⟩
  refine List.forall_mem_cons.mpr ⟨s_iadd (dd_L_law_9 (785, .iadd, 1) (List.mem_of_getElem? (i := 9) rfl)), ?_⟩
  refine List.forall_mem_cons.mpr ⟨s_iald (dd_L_law_9 (786, .iaload, 1) (List.mem_of_getElem? (i := 10) rfl)), ?_⟩
  refine List.forall_mem_cons.mpr ⟨⟨s_callV (ci := 8) rfl mo110 rfl rfl (dd_L_law_9 (787, .invokevirtual 117, 3) (List.mem_of_getElem? (i := 11) rfl)) ow_L_law mlL_117 mi110 msl110 in_8 mn110, mo110⟩, ?_⟩
  refine List.forall_mem_cons.mpr ⟨s_aload_n (dd_L_law_9 (790, .aload_n 2, 1) (List.mem_of_getElem? (i := 12) rfl)) rfl, ?_⟩
  refine List.forall_mem_cons.mpr ⟨s_aload_n (dd_L_law_9 (791, .aload_n 0, 1) (List.mem_of_getElem? (i := 13) rfl)) rfl, ?_⟩
  refine List.forall_mem_cons.mpr ⟨s_iload_n (dd_L_law_9 (792, .iload_n 3, 1) (List.mem_of_getElem? (i := 14) rfl)) rfl, ?_⟩
  refine List.forall_mem_cons.mpr ⟨s_iconst (dd_L_law_9 (793, .iconst 1, 1) (List.mem_of_getElem? (i := 15) rfl)) rfl, ?_⟩
  refine List.forall_mem_cons.mpr ⟨s_iadd (dd_L_law_9 (794, .iadd, 1) (List.mem_of_getElem? (i := 16) rfl)), ?_⟩
  refine List.forall_mem_cons.mpr ⟨s_iald (dd_L_law_9 (795, .iaload, 1) (List.mem_of_getElem? (i := 17) rfl)), ?_⟩
  refine List.forall_mem_cons.mpr ⟨⟨s_callV (ci := 9) rfl mo183 rfl rfl (dd_L_law_9 (796, .invokevirtual 120, 3) (List.mem_of_getElem? (i := 18) rfl)) ow_L_law mlL_120 mi183 msl183 in_9 mn183, mo183⟩, ?_⟩
  refine List.forall_mem_cons.mpr ⟨s_icmp_eq (dd_L_law_9 (799, .if_icmp .eq 51, 3) (List.mem_of_getElem? (i := 19) rfl)) (by decide), ?_⟩
  refine List.forall_mem_cons.mpr ⟨s_iconst (dd_L_law_9 (802, .iconst 0, 1) (List.mem_of_getElem? (i := 20) rfl)) rfl, ?_⟩
  refine List.forall_mem_cons.mpr ⟨Or.inr (Or.inr ⟨rfl, (dd_L_law_9 (803, .ireturn, 1) (List.mem_of_getElem? (i := 21) rfl)), rfl⟩), ?_⟩
  refine List.forall_mem_cons.mpr ⟨s_aload_n (dd_L_law_9 (804, .aload_n 1, 1) (List.mem_of_getElem? (i := 22) rfl)) rfl, ?_⟩
  refine List.forall_mem_cons.mpr ⟨s_aload_n (dd_L_law_9 (805, .aload_n 0, 1) (List.mem_of_getElem? (i := 23) rfl)) rfl, ?_⟩
  refine List.forall_mem_cons.mpr ⟨s_iload_n (dd_L_law_9 (806, .iload_n 3, 1) (List.mem_of_getElem? (i := 24) rfl)) rfl, ?_⟩
  refine List.forall_mem_cons.mpr ⟨s_iconst (dd_L_law_9 (807, .iconst 1, 1) (List.mem_of_getElem? (i := 25) rfl)) rfl, ?_⟩
  refine List.forall_mem_cons.mpr ⟨s_iadd (dd_L_law_9 (808, .iadd, 1) (List.mem_of_getElem? (i := 26) rfl)), ?_⟩
  refine List.forall_mem_cons.mpr ⟨s_iald (dd_L_law_9 (809, .iaload, 1) (List.mem_of_getElem? (i := 27) rfl)), ?_⟩
  refine List.forall_mem_cons.mpr ⟨⟨s_callV (ci := 8) rfl mo111 rfl rfl (dd_L_law_9 (810, .invokevirtual 121, 3) (List.mem_of_getElem? (i := 28) rfl)) ow_L_law mlL_121 mi111 msl111 in_8 mn111, mo111⟩, ?_⟩
  refine List.forall_mem_cons.mpr ⟨s_aload_n (dd_L_law_9 (813, .aload_n 2, 1) (List.mem_of_getElem? (i := 29) rfl)) rfl, ?_⟩
  refine List.forall_mem_cons.mpr ⟨s_aload_n (dd_L_law_9 (814, .aload_n 0, 1) (List.mem_of_getElem? (i := 30) rfl)) rfl, ?_⟩
  refine List.forall_mem_cons.mpr ⟨s_iload_n (dd_L_law_9 (815, .iload_n 3, 1) (List.mem_of_getElem? (i := 31) rfl)) rfl, ?_⟩
  refine List.forall_mem_cons.mpr ⟨s_iconst (dd_L_law_9 (816, .iconst 1, 1) (List.mem_of_getElem? (i := 32) rfl)) rfl, ?_⟩
  refine List.forall_mem_cons.mpr ⟨s_iadd (dd_L_law_9 (817, .iadd, 1) (List.mem_of_getElem? (i := 33) rfl)), ?_⟩
  refine List.forall_mem_cons.mpr ⟨s_iald (dd_L_law_9 (818, .iaload, 1) (List.mem_of_getElem? (i := 34) rfl)), ?_⟩
  refine List.forall_mem_cons.mpr ⟨⟨s_callV (ci := 9) rfl mo184 rfl rfl (dd_L_law_9 (819, .invokevirtual 124, 3) (List.mem_of_getElem? (i := 35) rfl)) ow_L_law mlL_124 mi184 msl184 in_9 mn184, mo184⟩, ?_⟩
  refine List.forall_mem_cons.mpr ⟨s_icmp_eq (dd_L_law_9 (822, .if_icmp .eq 28, 3) (List.mem_of_getElem? (i := 36) rfl)) (by decide), ?_⟩
  refine List.forall_mem_cons.mpr ⟨s_iconst (dd_L_law_9 (825, .iconst 0, 1) (List.mem_of_getElem? (i := 37) rfl)) rfl, ?_⟩
  refine List.forall_mem_cons.mpr ⟨Or.inr (Or.inr ⟨rfl, (dd_L_law_9 (826, .ireturn, 1) (List.mem_of_getElem? (i := 38) rfl)), rfl⟩), ?_⟩
  refine List.forall_mem_cons.mpr ⟨s_aload_n (dd_L_law_9 (827, .aload_n 1, 1) (List.mem_of_getElem? (i := 39) rfl)) rfl, ?_⟩
  refine List.forall_mem_cons.mpr ⟨s_aload_n (dd_L_law_9 (828, .aload_n 0, 1) (List.mem_of_getElem? (i := 40) rfl)) rfl, ?_⟩
  refine List.forall_mem_cons.mpr ⟨s_iload_n (dd_L_law_9 (829, .iload_n 3, 1) (List.mem_of_getElem? (i := 41) rfl)) rfl, ?_⟩
  refine List.forall_mem_cons.mpr ⟨s_iconst (dd_L_law_9 (830, .iconst 1, 1) (List.mem_of_getElem? (i := 42) rfl)) rfl, ?_⟩
  refine List.forall_mem_cons.mpr ⟨s_iadd (dd_L_law_9 (831, .iadd, 1) (List.mem_of_getElem? (i := 43) rfl)), ?_⟩
  refine List.forall_mem_cons.mpr ⟨s_iald (dd_L_law_9 (832, .iaload, 1) (List.mem_of_getElem? (i := 44) rfl)), ?_⟩
  refine List.forall_mem_cons.mpr ⟨⟨s_callV (ci := 8) rfl mo112 rfl rfl (dd_L_law_9 (833, .invokevirtual 125, 3) (List.mem_of_getElem? (i := 45) rfl)) ow_L_law mlL_125 mi112 msl112 in_8 mn112, mo112⟩, ?_⟩
  refine List.forall_mem_cons.mpr ⟨s_aload_n (dd_L_law_9 (836, .aload_n 2, 1) (List.mem_of_getElem? (i := 46) rfl)) rfl, ?_⟩
  refine List.forall_mem_cons.mpr ⟨s_aload_n (dd_L_law_9 (837, .aload_n 0, 1) (List.mem_of_getElem? (i := 47) rfl)) rfl, ?_⟩
  refine List.forall_mem_cons.mpr ⟨s_iload_n (dd_L_law_9 (838, .iload_n 3, 1) (List.mem_of_getElem? (i := 48) rfl)) rfl, ?_⟩
  refine List.forall_mem_cons.mpr ⟨s_iconst (dd_L_law_9 (839, .iconst 1, 1) (List.mem_of_getElem? (i := 49) rfl)) rfl, ?_⟩
  refine List.forall_mem_cons.mpr ⟨s_iadd (dd_L_law_9 (840, .iadd, 1) (List.mem_of_getElem? (i := 50) rfl)), ?_⟩
  refine List.forall_mem_cons.mpr ⟨s_iald (dd_L_law_9 (841, .iaload, 1) (List.mem_of_getElem? (i := 51) rfl)), ?_⟩
  refine List.forall_mem_cons.mpr ⟨⟨s_callV (ci := 9) rfl mo185 rfl rfl (dd_L_law_9 (842, .invokevirtual 128, 3) (List.mem_of_getElem? (i := 52) rfl)) ow_L_law mlL_128 mi185 msl185 in_9 mn185, mo185⟩, ?_⟩
  refine List.forall_mem_cons.mpr ⟨s_icmp_eq (dd_L_law_9 (845, .if_icmp .eq 5, 3) (List.mem_of_getElem? (i := 53) rfl)) (by decide), ?_⟩
  refine List.forall_mem_cons.mpr ⟨s_iconst (dd_L_law_9 (848, .iconst 0, 1) (List.mem_of_getElem? (i := 54) rfl)) rfl, ?_⟩
  refine List.forall_mem_cons.mpr ⟨Or.inr (Or.inr ⟨rfl, (dd_L_law_9 (849, .ireturn, 1) (List.mem_of_getElem? (i := 55) rfl)), rfl⟩), ?_⟩
  refine List.forall_mem_cons.mpr ⟨s_iinc (dd_L_law_9 (850, .iinc 3 4, 3) (List.mem_of_getElem? (i := 56) rfl)) rfl, ?_⟩
  refine List.forall_mem_cons.mpr ⟨s_goto (dd_L_law_9 (853, .goto (-835), 3) (List.mem_of_getElem? (i := 57) rfl)) (by decide), ?_⟩
  refine List.forall_mem_cons.mpr ⟨s_iconst (dd_L_law_9 (856, .iconst 1, 1) (List.mem_of_getElem? (i := 58) rfl)) rfl, ?_⟩
  refine List.forall_mem_cons.mpr ⟨Or.inr (Or.inr ⟨rfl, (dd_L_law_9 (857, .ireturn, 1) (List.mem_of_getElem? (i := 59) rfl)), rfl⟩), ?_⟩
  exact fun _ h => absurd h List.not_mem_nil
theorem so_L_law : ∀ e ∈ o_L_law, SndO 187 e.1 e.2 := List.forall_mem_append.mpr ⟨so_L_law_1, List.forall_mem_append.mpr ⟨so_L_law_2, List.forall_mem_append.mpr ⟨so_L_law_3, List.forall_mem_append.mpr ⟨so_L_law_4, List.forall_mem_append.mpr ⟨so_L_law_5, List.forall_mem_append.mpr ⟨so_L_law_6, List.forall_mem_append.mpr ⟨so_L_law_7, List.forall_mem_append.mpr ⟨so_L_law_8, so_L_law_9⟩⟩⟩⟩⟩⟩⟩⟩

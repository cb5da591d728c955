/-! every instruction, written by program -/
theorem ow_X9_drift : (mtJ 159).1.cls = "SatchelSinsModel" := rfl
def D_X9_drift : List (Nat × Instr × Nat) := [(0, .iload_n 1, 1), (1, .i2l, 1), (2, .lconst 1, 1), (3, .ldc2_w 248, 3), (6, .invokestatic 94, 3), (9, .ifCond .ne 6, 3), (12, .ldc 103, 2), (14, .ireturn, 1), (15, .aload_n 0, 1), (16, .getfield 87, 3), (19, .ifCond .ne 6, 3), (22, .ldc 212, 2), (24, .ireturn, 1), (25, .aload_n 0, 1), (26, .getfield 25, 3), (29, .bipush 14, 2), (31, .iaload, 1), (32, .sipush 9000, 3), (35, .if_icmp .le 6, 3), (38, .ldc 107, 2), (40, .ireturn, 1), (41, .aload_n 0, 1), (42, .invokevirtual 213, 3), (45, .iconst 0, 1), (46, .istore_n 2, 1), (47, .iconst 0, 1), (48, .istore_n 3, 1), (49, .iload_n 3, 1), (50, .iload_n 1, 1), (51, .if_icmp .ge 23, 3), (54, .aload_n 0, 1), (55, .getfield 98, 3), (58, .ifCond .le 16, 3), (61, .iload_n 2, 1), (62, .aload_n 0, 1), (63, .invokevirtual 250, 3), (66, .ior, 1), (67, .istore_n 2, 1), (68, .iinc 3 1, 3), (71, .goto (-22), 3), (74, .aload_n 0, 1), (75, .getfield 25, 3), (78, .bipush 14, 2), (80, .iaload, 1), (81, .ireturn, 1)]
theorem dd_X9_drift : ∀ e ∈ D_X9_drift, decode (mtJ 159).2.1 e.1 = .ok e.2 := by decide +kernel
set_option maxRecDepth 10000 in
theorem so_X9_drift : ∀ e ∈ o_X9_drift, SndO 159 e.1 e.2 := by
  refine List.forall_mem_cons.mpr ⟨s_iload_n (dd_X9_drift (0, .iload_n 1, 1) (List.mem_of_getElem? (i := 0) rfl)) rfl, ?_⟩
  refine List.forall_mem_cons.mpr ⟨s_i2l (dd_X9_drift (1, .i2l, 1) (List.mem_of_getElem? (i := 1) rfl)), ?_⟩
  refine List.forall_mem_cons.mpr ⟨s_lconst (dd_X9_drift (2, .lconst 1, 1) (List.mem_of_getElem? (i := 2) rfl)) rfl, ?_⟩
  refine List.forall_mem_cons.mpr ⟨s_ldc2 (dd_X9_drift (3, .ldc2_w 248, 3) (List.mem_of_getElem? (i := 3) rfl)) ow_X9_drift kl9_248, ?_⟩
  refine List.forall_mem_cons.mpr ⟨⟨s_callS mo117 rfl (dd_X9_drift (6, .invokestatic 94, 3) (List.mem_of_getElem? (i := 4) rfl)) ow_X9_drift ml9_94 ms117 mn117, mo117⟩, ?_⟩
  refine List.forall_mem_cons.mpr ⟨s_if_ne (dd_X9_drift (9, .ifCond .ne 6, 3) (List.mem_of_getElem? (i := 5) rfl)) (by decide), ?_⟩
  refine List.forall_mem_cons.mpr ⟨s_ldc (dd_X9_drift (12, .ldc 103, 2) (List.mem_of_getElem? (i := 6) rfl)) ow_X9_drift ki9_103, ?_⟩
  refine List.forall_mem_cons.mpr ⟨Or.inr (Or.inl ⟨rfl, (dd_X9_drift (14, .ireturn, 1) (List.mem_of_getElem? (i := 7) rfl)), rfl⟩), ?_⟩
  refine List.forall_mem_cons.mpr ⟨s_aload_n (dd_X9_drift (15, .aload_n 0, 1) (List.mem_of_getElem? (i := 8) rfl)) rfl, ?_⟩
  refine List.forall_mem_cons.mpr ⟨s_getI (k := 0) K9 (by decide) (dd_X9_drift (16, .getfield 87, 3) (List.mem_of_getElem? (i := 9) rfl)) ow_X9_drift fl9_87 rfl, ?_⟩
  refine List.forall_mem_cons.mpr ⟨s_if_ne (dd_X9_drift (19, .ifCond .ne 6, 3) (List.mem_of_getElem? (i := 10) rfl)) (by decide), ?_⟩
  refine List.forall_mem_cons.mpr ⟨s_ldc (dd_X9_drift (22, .ldc 212, 2) (List.mem_of_getElem? (i := 11) rfl)) ow_X9_drift ki9_212, ?_⟩
  refine List.forall_mem_cons.mpr ⟨Or.inr (Or.inl ⟨rfl, (dd_X9_drift (24, .ireturn, 1) (List.mem_of_getElem? (i := 12) rfl)), rfl⟩), ?_⟩
  refine List.forall_mem_cons.mpr ⟨s_aload_n (dd_X9_drift (25, .aload_n 0, 1) (List.mem_of_getElem? (i := 13) rfl)) rfl, ?_⟩
  refine List.forall_mem_cons.mpr ⟨s_getR (k := 9) K9 (by decide) (dd_X9_drift (26, .getfield 25, 3) (List.mem_of_getElem? (i := 14) rfl)) ow_X9_drift fl9_25 rfl, ?_⟩
  refine List.forall_mem_cons.mpr ⟨s_bipush (dd_X9_drift (29, .bipush 14, 2) (List.mem_of_getElem? (i := 15) rfl)) rfl, ?_⟩
  refine List.forall_mem_cons.mpr ⟨s_iald (dd_X9_drift (31, .iaload, 1) (List.mem_of_getElem? (i := 16) rfl)), ?_⟩
  refine List.forall_mem_cons.mpr ⟨s_sipush (dd_X9_drift (32, .sipush 9000, 3) (List.mem_of_getElem? (i := 17) rfl)) rfl, ?_⟩
  refine List.forall_mem_cons.mpr ⟨s_icmp_le (dd_X9_drift (35, .if_icmp .le 6, 3) (List.mem_of_getElem? (i := 18) rfl)) (by decide), ?_⟩
  refine List.forall_mem_cons.mpr ⟨s_ldc (dd_X9_drift (38, .ldc 107, 2) (List.mem_of_getElem? (i := 19) rfl)) ow_X9_drift ki9_107, ?_⟩
  refine List.forall_mem_cons.mpr ⟨Or.inr (Or.inl ⟨rfl, (dd_X9_drift (40, .ireturn, 1) (List.mem_of_getElem? (i := 20) rfl)), rfl⟩), ?_⟩
  refine List.forall_mem_cons.mpr ⟨s_aload_n (dd_X9_drift (41, .aload_n 0, 1) (List.mem_of_getElem? (i := 21) rfl)) rfl, ?_⟩
  refine List.forall_mem_cons.mpr ⟨⟨s_callV (ci := 9) rfl mo145 rfl rfl (dd_X9_drift (42, .invokevirtual 213, 3) (List.mem_of_getElem? (i := 22) rfl)) ow_X9_drift ml9_213 mi145 msl145 in_9 mn145, mo145⟩, ?_⟩
  refine List.forall_mem_cons.mpr ⟨s_iconst (dd_X9_drift (45, .iconst 0, 1) (List.mem_of_getElem? (i := 23) rfl)) rfl, ?_⟩
  refine List.forall_mem_cons.mpr ⟨s_istore_n (dd_X9_drift (46, .istore_n 2, 1) (List.mem_of_getElem? (i := 24) rfl)) rfl, ?_⟩
  refine List.forall_mem_cons.mpr ⟨s_iconst (dd_X9_drift (47, .iconst 0, 1) (List.mem_of_getElem? (i := 25) rfl)) rfl, ?_⟩
  refine List.forall_mem_cons.mpr ⟨s_istore_n (dd_X9_drift (48, .istore_n 3, 1) (List.mem_of_getElem? (i := 26) rfl)) rfl, ?_⟩
  refine List.forall_mem_cons.mpr ⟨s_iload_n (dd_X9_drift (49, .iload_n 3, 1) (List.mem_of_getElem? (i := 27) rfl)) rfl, ?_⟩
  refine List.forall_mem_cons.mpr ⟨s_iload_n (dd_X9_drift (50, .iload_n 1, 1) (List.mem_of_getElem? (i := 28) rfl)) rfl, ?_⟩
  refine List.forall_mem_cons.mpr ⟨s_icmp_ge (dd_X9_drift (51, .if_icmp .ge 23, 3) (List.mem_of_getElem? (i := 29) rfl)) (by decide), ?_⟩
  refine List.forall_mem_cons.mpr ⟨s_aload_n (dd_X9_drift (54, .aload_n 0, 1) (List.mem_of_getElem? (i := 30) rfl)) rfl, ?_⟩
  refine List.forall_mem_cons.mpr ⟨s_getI (k := 6) K9 (by decide) (dd_X9_drift (55, .getfield 98, 3) (List.mem_of_getElem? (i := 31) rfl)) ow_X9_drift fl9_98 rfl, ?_⟩
  refine List.forall_mem_cons.mpr ⟨s_if_le (dd_X9_drift (58, .ifCond .le 16, 3) (List.mem_of_getElem? (i := 32) rfl)) (by decide), ?_⟩
  refine List.forall_mem_cons.mpr ⟨s_iload_n (dd_X9_drift (61, .iload_n 2, 1) (List.mem_of_getElem? (i := 33) rfl)) rfl, ?_⟩
  refine List.forall_mem_cons.mpr ⟨s_aload_n (dd_X9_drift (62, .aload_n 0, 1) (List.mem_of_getElem? (i := 34) rfl)) rfl, ?_⟩
  refine List.forall_mem_cons.mpr ⟨⟨s_callV (ci := 9) rfl mo158 rfl rfl (dd_X9_drift (63, .invokevirtual 250, 3) (List.mem_of_getElem? (i := 35) rfl)) ow_X9_drift ml9_250 mi158 msl158 in_9 mn158, mo158⟩, ?_⟩
  refine List.forall_mem_cons.mpr ⟨s_ior (dd_X9_drift (66, .ior, 1) (List.mem_of_getElem? (i := 36) rfl)), ?_⟩
  refine List.forall_mem_cons.mpr ⟨s_istore_n (dd_X9_drift (67, .istore_n 2, 1) (List.mem_of_getElem? (i := 37) rfl)) rfl, ?_⟩
  refine List.forall_mem_cons.mpr ⟨s_iinc (dd_X9_drift (68, .iinc 3 1, 3) (List.mem_of_getElem? (i := 38) rfl)) rfl, ?_⟩
  refine List.forall_mem_cons.mpr ⟨s_goto (dd_X9_drift (71, .goto (-22), 3) (List.mem_of_getElem? (i := 39) rfl)) (by decide), ?_⟩
  refine List.forall_mem_cons.mpr ⟨s_aload_n (dd_X9_drift (74, .aload_n 0, 1) (List.mem_of_getElem? (i := 40) rfl)) rfl, ?_⟩
  refine List.forall_mem_cons.mpr ⟨s_getR (k := 9) K9 (by decide) (dd_X9_drift (75, .getfield 25, 3) (List.mem_of_getElem? (i := 41) rfl)) ow_X9_drift fl9_25 rfl, ?_⟩
  refine List.forall_mem_cons.mpr ⟨s_bipush (dd_X9_drift (78, .bipush 14, 2) (List.mem_of_getElem? (i := 42) rfl)) rfl, ?_⟩
  refine List.forall_mem_cons.mpr ⟨s_iald (dd_X9_drift (80, .iaload, 1) (List.mem_of_getElem? (i := 43) rfl)), ?_⟩
  refine List.forall_mem_cons.mpr ⟨Or.inr (Or.inl ⟨rfl, (dd_X9_drift (81, .ireturn, 1) (List.mem_of_getElem? (i := 44) rfl)), rfl⟩), ?_⟩
  exact fun _ h => absurd h List.not_mem_nil
theorem ow_X9_undo : (mtJ 160).1.cls = "SatchelSinsModel" := rfl
def D_X9_undo : List (Nat × Instr × Nat) := [(0, .aload_n 0, 1), (1, .getfield 175, 3), (4, .ifCond .ne 6, 3), (7, .ldc 212, 2), (9, .ireturn, 1), (10, .aload_n 0, 1), (11, .dup, 1), (12, .getfield 175, 3), (15, .iconst 1, 1), (16, .isub, 1), (17, .putfield 175, 3), (20, .iconst 0, 1), (21, .istore_n 1, 1), (22, .iload_n 1, 1), (23, .bipush 22, 2), (25, .if_icmp .ge 29, 3), (28, .aload_n 0, 1), (29, .getfield 25, 3), (32, .iload_n 1, 1), (33, .aload_n 0, 1), (34, .getfield 50, 3), (37, .bipush 22, 2), (39, .aload_n 0, 1), (40, .getfield 175, 3), (43, .imul, 1), (44, .iload_n 1, 1), (45, .iadd, 1), (46, .iaload, 1), (47, .iastore, 1), (48, .iinc 1 1, 3), (51, .goto (-29), 3), (54, .aload_n 0, 1), (55, .getfield 175, 3), (58, .ireturn, 1)]
theorem dd_X9_undo : ∀ e ∈ D_X9_undo, decode (mtJ 160).2.1 e.1 = .ok e.2 := by decide +kernel
set_option maxRecDepth 10000 in
theorem so_X9_undo : ∀ e ∈ o_X9_undo, SndO 160 e.1 e.2 := by
  refine List.forall_mem_cons.mpr ⟨s_aload_n (dd_X9_undo (0, .aload_n 0, 1) (List.mem_of_getElem? (i := 0) rfl)) rfl, ?_⟩
  refine List.forall_mem_cons.mpr ⟨s_getI (k := 26) K9 (by decide) (dd_X9_undo (1, .getfield 175, 3) (List.mem_of_getElem? (i := 1) rfl)) ow_X9_undo fl9_175 rfl, ?_⟩
  refine List.forall_mem_cons.mpr ⟨s_if_ne (dd_X9_undo (4, .ifCond .ne 6, 3) (List.mem_of_getElem? (i := 2) rfl)) (by decide), ?_⟩
  refine List.forall_mem_cons.mpr ⟨s_ldc (dd_X9_undo (7, .ldc 212, 2) (List.mem_of_getElem? (i := 3) rfl)) ow_X9_undo ki9_212, ?_⟩
  refine List.forall_mem_cons.mpr ⟨Or.inr (Or.inl ⟨rfl, (dd_X9_undo (9, .ireturn, 1) (List.mem_of_getElem? (i := 4) rfl)), rfl⟩), ?_⟩
  refine List.forall_mem_cons.mpr ⟨s_aload_n (dd_X9_undo (10, .aload_n 0, 1) (List.mem_of_getElem? (i := 5) rfl)) rfl, ?_⟩
  refine List.forall_mem_cons.mpr ⟨s_dup (dd_X9_undo (11, .dup, 1) (List.mem_of_getElem? (i := 6) rfl)), ?_⟩
  refine List.forall_mem_cons.mpr ⟨s_getI (k := 26) K9 (by decide) (dd_X9_undo (12, .getfield 175, 3) (List.mem_of_getElem? (i := 7) rfl)) ow_X9_undo fl9_175 rfl, ?_⟩
  refine List.forall_mem_cons.mpr ⟨s_iconst (dd_X9_undo (15, .iconst 1, 1) (List.mem_of_getElem? (i := 8) rfl)) rfl, ?_⟩
  refine List.forall_mem_cons.mpr ⟨s_isub (dd_X9_undo (16, .isub, 1) (List.mem_of_getElem? (i := 9) rfl)), ?_⟩
  refine List.forall_mem_cons.mpr ⟨s_putI (k := 26) K9 (by decide) (dd_X9_undo (17, .putfield 175, 3) (List.mem_of_getElem? (i := 10) rfl)) ow_X9_undo fl9_175 (Or.inl rfl) rfl, ?_⟩
  refine List.forall_mem_cons.mpr ⟨s_iconst (dd_X9_undo (20, .iconst 0, 1) (List.mem_of_getElem? (i := 11) rfl)) rfl, ?_⟩
  refine List.forall_mem_cons.mpr ⟨s_istore_n (dd_X9_undo (21, .istore_n 1, 1) (List.mem_of_getElem? (i := 12) rfl)) rfl, ?_⟩
  refine List.forall_mem_cons.mpr ⟨s_iload_n (dd_X9_undo (22, .iload_n 1, 1) (List.mem_of_getElem? (i := 13) rfl)) rfl, ?_⟩
  refine List.forall_mem_cons.mpr ⟨s_bipush (dd_X9_undo (23, .bipush 22, 2) (List.mem_of_getElem? (i := 14) rfl)) rfl, ?_⟩
  refine List.forall_mem_cons.mpr ⟨s_icmp_ge (dd_X9_undo (25, .if_icmp .ge 29, 3) (List.mem_of_getElem? (i := 15) rfl)) (by decide), ?_⟩
  refine List.forall_mem_cons.mpr ⟨s_aload_n (dd_X9_undo (28, .aload_n 0, 1) (List.mem_of_getElem? (i := 16) rfl)) rfl, ?_⟩
  refine List.forall_mem_cons.mpr ⟨s_getR (k := 9) K9 (by decide) (dd_X9_undo (29, .getfield 25, 3) (List.mem_of_getElem? (i := 17) rfl)) ow_X9_undo fl9_25 rfl, ?_⟩
  refine List.forall_mem_cons.mpr ⟨s_iload_n (dd_X9_undo (32, .iload_n 1, 1) (List.mem_of_getElem? (i := 18) rfl)) rfl, ?_⟩
  refine List.forall_mem_cons.mpr ⟨s_aload_n (dd_X9_undo (33, .aload_n 0, 1) (List.mem_of_getElem? (i := 19) rfl)) rfl, ?_⟩
  refine List.forall_mem_cons.mpr ⟨s_getR (k := 27) K9 (by decide) (dd_X9_undo (34, .getfield 50, 3) (List.mem_of_getElem? (i := 20) rfl)) ow_X9_undo fl9_50 rfl, ?_⟩
  refine List.forall_mem_cons.mpr ⟨s_bipush (dd_X9_undo (37, .bipush 22, 2) (List.mem_of_getElem? (i := 21) rfl)) rfl, ?_⟩
  refine List.forall_mem_cons.mpr ⟨s_aload_n (dd_X9_undo (39, .aload_n 0, 1) (List.mem_of_getElem? (i := 22) rfl)) rfl, ?_⟩
  refine List.forall_mem_cons.mpr ⟨s_getI (k := 26) K9 (by decide) (dd_X9_undo (40, .getfield 175, 3) (List.mem_of_getElem? (i := 23) rfl)) ow_X9_undo fl9_175 rfl, ?_⟩
  refine List.forall_mem_cons.mpr ⟨s_imul (dd_X9_undo (43, .imul, 1) (List.mem_of_getElem? (i := 24) rfl)), ?_⟩
  refine List.forall_mem_cons.mpr ⟨s_iload_n (dd_X9_undo (44, .iload_n 1, 1) (List.mem_of_getElem? (i := 25) rfl)) rfl, ?_⟩
  refine List.forall_mem_cons.mpr ⟨s_iadd (dd_X9_undo (45, .iadd, 1) (List.mem_of_getElem? (i := 26) rfl)), ?_⟩
  refine List.forall_mem_cons.mpr ⟨s_iald (dd_X9_undo (46, .iaload, 1) (List.mem_of_getElem? (i := 27) rfl)), ?_⟩
  refine List.forall_mem_cons.mpr ⟨s_iast (dd_X9_undo (47, .iastore, 1) (List.mem_of_getElem? (i := 28) rfl)), ?_⟩
  refine List.forall_mem_cons.mpr ⟨s_iinc (dd_X9_undo (48, .iinc 1 1, 3) (List.mem_of_getElem? (i := 29) rfl)) rfl, ?_⟩
  refine List.forall_mem_cons.mpr ⟨s_goto (dd_X9_undo (51, .goto (-29), 3) (List.mem_of_getElem? (i := 30) rfl)) (by decide), ?_⟩
  refine List.forall_mem_cons.mpr ⟨s_aload_n (dd_X9_undo (54, .aload_n 0, 1) (List.mem_of_getElem? (i := 31) rfl)) rfl, ?_⟩
  refine List.forall_mem_cons.mpr ⟨s_getI (k := 26) K9 (by decide) (dd_X9_undo (55, .getfield 175, 3) (List.mem_of_getElem? (i := 32) rfl)) ow_X9_undo fl9_175 rfl, ?_⟩
  refine List.forall_mem_cons.mpr ⟨Or.inr (Or.inl ⟨rfl, (dd_X9_undo (58, .ireturn, 1) (List.mem_of_getElem? (i := 33) rfl)), rfl⟩), ?_⟩
  exact fun _ h => absurd h List.not_mem_nil
theorem ow_X9_waysToGive : (mtJ 161).1.cls = "SatchelSinsModel" := rfl
def D_X9_waysToGive : List (Nat × Instr × Nat) := [(0, .iconst 1, 1), (1, .istore_n 1, 1), (2, .iconst 0, 1), (3, .istore_n 2, 1), (4, .iload_n 2, 1), (5, .aload_n 0, 1), (6, .getfield 98, 3), (9, .if_icmp .ge 30, 3), (12, .iload_n 1, 1), (13, .aload_n 0, 1), (14, .getfield 25, 3), (17, .iload_n 2, 1), (18, .iaload, 1), (19, .iconst 1, 1), (20, .if_icmp .ne 10, 3), (23, .aload_n 0, 1), (24, .getfield 91, 3), (27, .goto 4, 3), (30, .iconst 1, 1), (31, .imul, 1), (32, .istore_n 1, 1), (33, .iinc 2 1, 3), (36, .goto (-32), 3), (39, .iload_n 1, 1), (40, .ireturn, 1)]
theorem dd_X9_waysToGive : ∀ e ∈ D_X9_waysToGive, decode (mtJ 161).2.1 e.1 = .ok e.2 := by decide +kernel
set_option maxRecDepth 10000 in
theorem so_X9_waysToGive : ∀ e ∈ o_X9_waysToGive, SndO 161 e.1 e.2 := by
  refine List.forall_mem_cons.mpr ⟨s_iconst (dd_X9_waysToGive (0, .iconst 1, 1) (List.mem_of_getElem? (i := 0) rfl)) rfl, ?_⟩
  refine List.forall_mem_cons.mpr ⟨s_istore_n (dd_X9_waysToGive (1, .istore_n 1, 1) (List.mem_of_getElem? (i := 1) rfl)) rfl, ?_⟩
  refine List.forall_mem_cons.mpr ⟨s_iconst (dd_X9_waysToGive (2, .iconst 0, 1) (List.mem_of_getElem? (i := 2) rfl)) rfl, ?_⟩
  refine List.forall_mem_cons.mpr ⟨s_istore_n (dd_X9_waysToGive (3, .istore_n 2, 1) (List.mem_of_getElem? (i := 3) rfl)) rfl, ?_⟩
  refine List.forall_mem_cons.mpr ⟨s_iload_n (dd_X9_waysToGive (4, .iload_n 2, 1) (List.mem_of_getElem? (i := 4) rfl)) rfl, ?_⟩
  refine List.forall_mem_cons.mpr ⟨s_aload_n (dd_X9_waysToGive (5, .aload_n 0, 1) (List.mem_of_getElem? (i := 5) rfl)) rfl, ?_⟩
  refine List.forall_mem_cons.mpr ⟨s_getI (k := 6) K9 (by decide) (dd_X9_waysToGive (6, .getfield 98, 3) (List.mem_of_getElem? (i := 6) rfl)) ow_X9_waysToGive fl9_98 rfl, ?_⟩
  refine List.forall_mem_cons.mpr ⟨s_icmp_ge (dd_X9_waysToGive (9, .if_icmp .ge 30, 3) (List.mem_of_getElem? (i := 7) rfl)) (by decide), ?_⟩
  refine List.forall_mem_cons.mpr ⟨s_iload_n (dd_X9_waysToGive (12, .iload_n 1, 1) (List.mem_of_getElem? (i := 8) rfl)) rfl, ?_⟩
  refine List.forall_mem_cons.mpr ⟨s_aload_n (dd_X9_waysToGive (13, .aload_n 0, 1) (List.mem_of_getElem? (i := 9) rfl)) rfl, ?_⟩
  refine List.forall_mem_cons.mpr ⟨s_getR (k := 9) K9 (by decide) (dd_X9_waysToGive (14, .getfield 25, 3) (List.mem_of_getElem? (i := 10) rfl)) ow_X9_waysToGive fl9_25 rfl, ?_⟩
  refine List.forall_mem_cons.mpr ⟨s_iload_n (dd_X9_waysToGive (17, .iload_n 2, 1) (List.mem_of_getElem? (i := 11) rfl)) rfl, ?_⟩
  refine List.forall_mem_cons.mpr ⟨s_iald (dd_X9_waysToGive (18, .iaload, 1) (List.mem_of_getElem? (i := 12) rfl)), ?_⟩
  refine List.forall_mem_cons.mpr ⟨s_iconst (dd_X9_waysToGive (19, .iconst 1, 1) (List.mem_of_getElem? (i := 13) rfl)) rfl, ?_⟩
  refine List.forall_mem_cons.mpr ⟨s_icmp_ne (dd_X9_waysToGive (20, .if_icmp .ne 10, 3) (List.mem_of_getElem? (i := 14) rfl)) (by decide), ?_⟩
  refine List.forall_mem_cons.mpr ⟨s_aload_n (dd_X9_waysToGive (23, .aload_n 0, 1) (List.mem_of_getElem? (i := 15) rfl)) rfl, ?_⟩
  refine List.forall_mem_cons.mpr ⟨s_getI (k := 2) K9 (by decide) (dd_X9_waysToGive (24, .getfield 91, 3) (List.mem_of_getElem? (i := 16) rfl)) ow_X9_waysToGive fl9_91 rfl, ?_⟩
  refine List.forall_mem_cons.mpr ⟨s_goto (dd_X9_waysToGive (27, .goto 4, 3) (List.mem_of_getElem? (i := 17) rfl)) (by decide), ?_⟩
  refine List.forall_mem_cons.mpr ⟨s_iconst (dd_X9_waysToGive (30, .iconst 1, 1) (List.mem_of_getElem? (i := 18) rfl)) rfl, ?_⟩
  refine List.forall_mem_cons.mpr ⟨s_imul (dd_X9_waysToGive (31, .imul, 1) (List.mem_of_getElem? (i := 19) rfl)), ?_⟩
  refine List.forall_mem_cons.mpr ⟨s_istore_n (dd_X9_waysToGive (32, .istore_n 1, 1) (List.mem_of_getElem? (i := 20) rfl)) rfl, ?_⟩
  refine List.forall_mem_cons.mpr ⟨s_iinc (dd_X9_waysToGive (33, .iinc 2 1, 3) (List.mem_of_getElem? (i := 21) rfl)) rfl, ?_⟩
  refine List.forall_mem_cons.mpr ⟨s_goto (dd_X9_waysToGive (36, .goto (-32), 3) (List.mem_of_getElem? (i := 22) rfl)) (by decide), ?_⟩
  refine List.forall_mem_cons.mpr ⟨s_iload_n (dd_X9_waysToGive (39, .iload_n 1, 1) (List.mem_of_getElem? (i := 23) rfl)) rfl, ?_⟩
  refine List.forall_mem_cons.mpr ⟨Or.inr (Or.inl ⟨rfl, (dd_X9_waysToGive (40, .ireturn, 1) (List.mem_of_getElem? (i := 24) rfl)), rfl⟩), ?_⟩
  exact fun _ h => absurd h List.not_mem_nil
theorem ow_X9_giveBy : (mtJ 162).1.cls = "SatchelSinsModel" := rfl
def D_X9_giveBy_1 : List (Nat × Instr × Nat) := [(0, .iload_n 1, 1), (1, .istore_n 2, 1), (2, .iconst 0, 1), (3, .istore_n 3, 1), (4, .iconst 0, 1), (5, .istore 4, 2), (7, .iload 4, 2), (9, .iconst 5, 1), (10, .if_icmp .ge 17, 3), (13, .aload_n 0, 1), (14, .getfield 59, 3), (17, .iload 4, 2), (19, .iconst 0, 1), (20, .iastore, 1), (21, .iinc 4 1, 3), (24, .goto (-17), 3), (27, .aload_n 0, 1), (28, .getfield 98, 3), (31, .iconst 1, 1), (32, .isub, 1), (33, .istore 4, 2), (35, .iload 4, 2), (37, .ifCond .lt 98, 3), (40, .aload_n 0, 1), (41, .getfield 53, 3), (44, .iload 4, 2), (46, .iconst (-1), 1), (47, .iastore, 1), (48, .aload_n 0, 1), (49, .getfield 25, 3), (52, .iload 4, 2), (54, .iaload, 1), (55, .iconst 1, 1), (56, .if_icmp .ne 73, 3), (59, .aload_n 0, 1), (60, .getfield 53, 3), (63, .iload 4, 2), (65, .iload_n 2, 1), (66, .aload_n 0, 1), (67, .getfield 91, 3), (70, .irem, 1), (71, .iastore, 1), (72, .iload_n 2, 1), (73, .aload_n 0, 1), (74, .getfield 91, 3), (77, .idiv, 1), (78, .istore_n 2, 1), (79, .aload_n 0, 1), (80, .getfield 59, 3), (83, .aload_n 0, 1), (84, .getfield 53, 3), (87, .iload 4, 2), (89, .iaload, 1), (90, .dup2, 1), (91, .iaload, 1), (92, .aload_n 0, 1), (93, .getfield 22, 3), (96, .iload 4, 2), (98, .iaload, 1), (99, .iadd, 1)]
theorem dd_X9_giveBy_1 : ∀ e ∈ D_X9_giveBy_1, decode (mtJ 162).2.1 e.1 = .ok e.2 := by decide +kernel
set_option maxRecDepth 10000 in
theorem so_X9_giveBy_1 : ∀ e ∈ o_X9_giveBy_1, SndO 162 e.1 e.2 := by
  refine List.forall_mem_cons.mpr ⟨s_iload_n (dd_X9_giveBy_1 (0, .iload_n 1, 1) (List.mem_of_getElem? (i := 0) rfl)) rfl, ?_⟩
  refine List.forall_mem_cons.mpr ⟨s_istore_n (dd_X9_giveBy_1 (1, .istore_n 2, 1) (List.mem_of_getElem? (i := 1) rfl)) rfl, ?_⟩
  refine List.forall_mem_cons.mpr ⟨s_iconst (dd_X9_giveBy_1 (2, .iconst 0, 1) (List.mem_of_getElem? (i := 2) rfl)) rfl, ?_⟩
  refine List.forall_mem_cons.mpr ⟨s_istore_n (dd_X9_giveBy_1 (3, .istore_n 3, 1) (List.mem_of_getElem? (i := 3) rfl)) rfl, ?_⟩
  refine List.forall_mem_cons.mpr ⟨s_iconst (dd_X9_giveBy_1 (4, .iconst 0, 1) (List.mem_of_getElem? (i := 4) rfl)) rfl, ?_⟩
  refine List.forall_mem_cons.mpr ⟨s_istore (dd_X9_giveBy_1 (5, .istore 4, 2) (List.mem_of_getElem? (i := 5) rfl)), ?_⟩
  refine List.forall_mem_cons.mpr ⟨s_iload (dd_X9_giveBy_1 (7, .iload 4, 2) (List.mem_of_getElem? (i := 6) rfl)), ?_⟩
  refine List.forall_mem_cons.mpr ⟨s_iconst (dd_X9_giveBy_1 (9, .iconst 5, 1) (List.mem_of_getElem? (i := 7) rfl)) rfl, ?_⟩
  refine List.forall_mem_cons.mpr ⟨s_icmp_ge (dd_X9_giveBy_1 (10, .if_icmp .ge 17, 3) (List.mem_of_getElem? (i := 8) rfl)) (by decide), ?_⟩
  refine List.forall_mem_cons.mpr ⟨s_aload_n (dd_X9_giveBy_1 (13, .aload_n 0, 1) (List.mem_of_getElem? (i := 9) rfl)) rfl, ?_⟩
  refine List.forall_mem_cons.mpr ⟨s_getR (k := 30) K9 (by decide) (dd_X9_giveBy_1 (14, .getfield 59, 3) (List.mem_of_getElem? (i := 10) rfl)) ow_X9_giveBy fl9_59 rfl, ?_⟩
  refine List.forall_mem_cons.mpr ⟨s_iload (dd_X9_giveBy_1 (17, .iload 4, 2) (List.mem_of_getElem? (i := 11) rfl)), ?_⟩
  refine List.forall_mem_cons.mpr ⟨s_iconst (dd_X9_giveBy_1 (19, .iconst 0, 1) (List.mem_of_getElem? (i := 12) rfl)) rfl, ?_⟩
  refine List.forall_mem_cons.mpr ⟨s_iast (dd_X9_giveBy_1 (20, .iastore, 1) (List.mem_of_getElem? (i := 13) rfl)), ?_⟩
  refine List.forall_mem_cons.mpr ⟨s_iinc (dd_X9_giveBy_1 (21, .iinc 4 1, 3) (List.mem_of_getElem? (i := 14) rfl)) rfl, ?_⟩
  refine List.forall_mem_cons.mpr ⟨s_goto (dd_X9_giveBy_1 (24, .goto (-17), 3) (List.mem_of_getElem? (i := 15) rfl)) (by decide), ?_⟩
  refine List.forall_mem_cons.mpr ⟨s_aload_n (dd_X9_giveBy_1 (27, .aload_n 0, 1) (List.mem_of_getElem? (i := 16) rfl)) rfl, ?_⟩
  refine List.forall_mem_cons.mpr ⟨s_getI (k := 6) K9 (by decide) (dd_X9_giveBy_1 (28, .getfield 98, 3) (List.mem_of_getElem? (i := 17) rfl)) ow_X9_giveBy fl9_98 rfl, ?_⟩
  refine List.forall_mem_cons.mpr ⟨s_iconst (dd_X9_giveBy_1 (31, .iconst 1, 1) (List.mem_of_getElem? (i := 18) rfl)) rfl, ?_⟩
  refine List.forall_mem_cons.mpr ⟨s_isub (dd_X9_giveBy_1 (32, .isub, 1) (List.mem_of_getElem? (i := 19) rfl)), ?_⟩
  refine List.forall_mem_cons.mpr ⟨s_istore (dd_X9_giveBy_1 (33, .istore 4, 2) (List.mem_of_getElem? (i := 20) rfl)), ?_⟩
  refine List.forall_mem_cons.mpr ⟨s_iload (dd_X9_giveBy_1 (35, .iload 4, 2) (List.mem_of_getElem? (i := 21) rfl)), ?_⟩
  refine List.forall_mem_cons.mpr ⟨s_if_lt (dd_X9_giveBy_1 (37, .ifCond .lt 98, 3) (List.mem_of_getElem? (i := 22) rfl)) (by decide), ?_⟩
  refine List.forall_mem_cons.mpr ⟨s_aload_n (dd_X9_giveBy_1 (40, .aload_n 0, 1) (List.mem_of_getElem? (i := 23) rfl)) rfl, ?_⟩
  refine List.forall_mem_cons.mpr ⟨s_getR (k := 28) K9 (by decide) (dd_X9_giveBy_1 (41, .getfield 53, 3) (List.mem_of_getElem? (i := 24) rfl)) ow_X9_giveBy fl9_53 rfl, ?_⟩
  refine List.forall_mem_cons.mpr ⟨s_iload (dd_X9_giveBy_1 (44, .iload 4, 2) (List.mem_of_getElem? (i := 25) rfl)), ?_⟩
  refine List.forall_mem_cons.mpr ⟨s_iconst (dd_X9_giveBy_1 (46, .iconst (-1), 1) (List.mem_of_getElem? (i := 26) rfl)) rfl, ?_⟩
  refine List.forall_mem_cons.mpr ⟨s_iast (dd_X9_giveBy_1 (47, .iastore, 1) (List.mem_of_getElem? (i := 27) rfl)), ?_⟩
  refine List.forall_mem_cons.mpr ⟨s_aload_n (dd_X9_giveBy_1 (48, .aload_n 0, 1) (List.mem_of_getElem? (i := 28) rfl)) rfl, ?_⟩
  refine List.forall_mem_cons.mpr ⟨s_getR (k := 9) K9 (by decide) (dd_X9_giveBy_1 (49, .getfield 25, 3) (List.mem_of_getElem? (i := 29) rfl)) ow_X9_giveBy fl9_25 rfl, ?_⟩
  refine List.forall_mem_cons.mpr ⟨s_iload (dd_X9_giveBy_1 (52, .iload 4, 2) (List.mem_of_getElem? (i := 30) rfl)), ?_⟩
  refine List.forall_mem_cons.mpr ⟨s_iald (dd_X9_giveBy_1 (54, .iaload, 1) (List.mem_of_getElem? (i := 31) rfl)), ?_⟩
  refine List.forall_mem_cons.mpr ⟨s_iconst (dd_X9_giveBy_1 (55, .iconst 1, 1) (List.mem_of_getElem? (i := 32) rfl)) rfl, ?_⟩
  refine List.forall_mem_cons.mpr ⟨s_icmp_ne (dd_X9_giveBy_1 (56, .if_icmp .ne 73, 3) (List.mem_of_getElem? (i := 33) rfl)) (by decide), ?_⟩
  refine List.forall_mem_cons.mpr ⟨s_aload_n (dd_X9_giveBy_1 (59, .aload_n 0, 1) (List.mem_of_getElem? (i := 34) rfl)) rfl, ?_⟩
  refine List.forall_mem_cons.mpr ⟨s_getR (k := 28) K9 (by decide) (dd_X9_giveBy_1 (60, .getfield 53, 3) (List.mem_of_getElem? (i := 35) rfl)) ow_X9_giveBy fl9_53 rfl, ?_⟩
  refine List.forall_mem_cons.mpr ⟨s_iload (dd_X9_giveBy_1 (63, .iload 4, 2) (List.mem_of_getElem? (i := 36) rfl)), ?_⟩
  refine List.forall_mem_cons.mpr ⟨s_iload_n (dd_X9_giveBy_1 (65, .iload_n 2, 1) (List.mem_of_getElem? (i := 37) rfl)) rfl, ?_⟩
  refine List.forall_mem_cons.mpr ⟨s_aload_n (dd_X9_giveBy_1 (66, .aload_n 0, 1) (List.mem_of_getElem? (i := 38) rfl)) rfl, ?_⟩
  refine List.forall_mem_cons.mpr ⟨s_getI (k := 2) K9 (by decide) (dd_X9_giveBy_1 (67, .getfield 91, 3) (List.mem_of_getElem? (i := 39) rfl)) ow_X9_giveBy fl9_91 rfl, ?_⟩
  refine List.forall_mem_cons.mpr ⟨s_irem (dd_X9_giveBy_1 (70, .irem, 1) (List.mem_of_getElem? (i := 40) rfl)), ?_⟩
  refine List.forall_mem_cons.mpr ⟨s_iast (dd_X9_giveBy_1 (71, .iastore, 1) (List.mem_of_getElem? (i := 41) rfl)), ?_⟩
  refine List.forall_mem_cons.mpr ⟨s_iload_n (dd_X9_giveBy_1 (72, .iload_n 2, 1) (List.mem_of_getElem? (i := 42) rfl)) rfl, ?_⟩
  refine List.forall_mem_cons.mpr ⟨s_aload_n (dd_X9_giveBy_1 (73, .aload_n 0, 1) (List.mem_of_getElem? (i := 43) rfl)) rfl, ?_⟩
  refine List.forall_mem_cons.mpr ⟨s_getI (k := 2) K9 (by decide) (dd_X9_giveBy_1 (74, .getfield 91, 3) (List.mem_of_getElem? (i := 44) rfl)) ow_X9_giveBy fl9_91 rfl, ?_⟩
  refine List.forall_mem_cons.mpr ⟨s_idiv (dd_X9_giveBy_1 (77, .idiv, 1) (List.mem_of_getElem? (i := 45) rfl)), ?_⟩
  refine List.forall_mem_cons.mpr ⟨s_istore_n (dd_X9_giveBy_1 (78, .istore_n 2, 1) (List.mem_of_getElem? (i := 46) rfl)) rfl, ?_⟩
  refine List.forall_mem_cons.mpr ⟨s_aload_n (dd_X9_giveBy_1 (79, .aload_n 0, 1) (List.mem_of_getElem? (i := 47) rfl)) rfl, ?_⟩
  refine List.forall_mem_cons.mpr ⟨s_getR (k := 30) K9 (by decide) (dd_X9_giveBy_1 (80, .getfield 59, 3) (List.mem_of_getElem? (i := 48) rfl)) ow_X9_giveBy fl9_59 rfl, ?_⟩
  refine List.forall_mem_cons.mpr ⟨s_aload_n (dd_X9_giveBy_1 (83, .aload_n 0, 1) (List.mem_of_getElem? (i := 49) rfl)) rfl, ?_⟩
  refine List.forall_mem_cons.mpr ⟨s_getR (k := 28) K9 (by decide) (dd_X9_giveBy_1 (84, .getfield 53, 3) (List.mem_of_getElem? (i := 50) rfl)) ow_X9_giveBy fl9_53 rfl, ?_⟩
  refine List.forall_mem_cons.mpr ⟨s_iload (dd_X9_giveBy_1 (87, .iload 4, 2) (List.mem_of_getElem? (i := 51) rfl)), ?_⟩
  refine List.forall_mem_cons.mpr ⟨s_iald (dd_X9_giveBy_1 (89, .iaload, 1) (List.mem_of_getElem? (i := 52) rfl)), ?_⟩
  refine List.forall_mem_cons.mpr ⟨s_dup2 (dd_X9_giveBy_1 (90, .dup2, 1) (List.mem_of_getElem? (i := 53) rfl)), ?_⟩
  refine List.forall_mem_cons.mpr ⟨s_iald (dd_X9_giveBy_1 (91, .iaload, 1) (List.mem_of_getElem? (i := 54) rfl)), ?_⟩
  refine List.forall_mem_cons.mpr ⟨s_aload_n (dd_X9_giveBy_1 (92, .aload_n 0, 1) (List.mem_of_getElem? (i := 55) rfl)) rfl, ?_⟩
  refine List.forall_mem_cons.mpr ⟨s_getR (k := 8) K9 (by decide) (dd_X9_giveBy_1 (93, .getfield 22, 3) (List.mem_of_getElem? (i := 56) rfl)) ow_X9_giveBy fl9_22 rfl, ?_⟩
  refine List.forall_mem_cons.mpr ⟨s_iload (dd_X9_giveBy_1 (96, .iload 4, 2) (List.mem_of_getElem? (i := 57) rfl)), ?_⟩
  refine List.forall_mem_cons.mpr ⟨s_iald (dd_X9_giveBy_1 (98, .iaload, 1) (List.mem_of_getElem? (i := 58) rfl)), ?_⟩
  refine List.forall_mem_cons.mpr ⟨s_iadd (dd_X9_giveBy_1 (99, .iadd, 1) (List.mem_of_getElem? (i := 59) rfl)), ?_⟩
  exact fun _ h => absurd h List.not_mem_nil
def D_X9_giveBy_2 : List (Nat × Instr × Nat) := [(100, .iastore, 1), (101, .iload_n 3, 1), (102, .aload_n 0, 1), (103, .getfield 53, 3), (106, .iload 4, 2), (108, .iaload, 1), (109, .aload_n 0, 1), (110, .getfield 25, 3), (113, .bipush 7, 2), (115, .iload 4, 2), (117, .iadd, 1), (118, .iaload, 1), (119, .if_icmp .ne 7, 3), (122, .iconst 0, 1), (123, .goto 4, 3), (126, .iconst 1, 1), (127, .iadd, 1), (128, .istore_n 3, 1), (129, .iinc 4 (-1), 3), (132, .goto (-97), 3), (135, .iload_n 3, 1), (136, .ireturn, 1)]
theorem dd_X9_giveBy_2 : ∀ e ∈ D_X9_giveBy_2, decode (mtJ 162).2.1 e.1 = .ok e.2 := by decide +kernel
set_option maxRecDepth 10000 in
theorem so_X9_giveBy_2 : ∀ e ∈ o_X9_giveBy_2, SndO 162 e.1 e.2 := by
  refine List.forall_mem_cons.mpr ⟨s_iast (dd_X9_giveBy_2 (100, .iastore, 1) (List.mem_of_getElem? (i := 0) rfl)), ?_⟩
  refine List.forall_mem_cons.mpr ⟨s_iload_n (dd_X9_giveBy_2 (101, .iload_n 3, 1) (List.mem_of_getElem? (i := 1) rfl)) rfl, ?_⟩
  refine List.forall_mem_cons.mpr ⟨s_aload_n (dd_X9_giveBy_2 (102, .aload_n 0, 1) (List.mem_of_getElem? (i := 2) rfl)) rfl, ?_⟩
  refine List.forall_mem_cons.mpr ⟨s_getR (k := 28) K9 (by decide) (dd_X9_giveBy_2 (103, .getfield 53, 3) (List.mem_of_getElem? (i := 3) rfl)) ow_X9_giveBy fl9_53 rfl, ?_⟩
  refine List.forall_mem_cons.mpr ⟨s_iload (dd_X9_giveBy_2 (106, .iload 4, 2) (List.mem_of_getElem? (i := 4) rfl)), ?_⟩
  refine List.forall_mem_cons.mpr ⟨s_iald (dd_X9_giveBy_2 (108, .iaload, 1) (List.mem_of_getElem? (i := 5) rfl)), ?_⟩
  refine List.forall_mem_cons.mpr ⟨s_aload_n (dd_X9_giveBy_2 (109, .aload_n 0, 1) (List.mem_of_getElem? (i := 6) rfl)) rfl, ?_⟩
  refine List.forall_mem_cons.mpr ⟨s_getR (k := 9) K9 (by decide) (dd_X9_giveBy_2 (110, .getfield 25, 3) (List.mem_of_getElem? (i := 7) rfl)) ow_X9_giveBy fl9_25 rfl, ?_⟩
  refine List.forall_mem_cons.mpr ⟨s_bipush (dd_X9_giveBy_2 (113, .bipush 7, 2) (List.mem_of_getElem? (i := 8) rfl)) rfl, ?_⟩
  refine List.forall_mem_cons.mpr ⟨s_iload (dd_X9_giveBy_2 (115, .iload 4, 2) (List.mem_of_getElem? (i := 9) rfl)), ?_⟩
  refine List.forall_mem_cons.mpr ⟨s_iadd (dd_X9_giveBy_2 (117, .iadd, 1) (List.mem_of_getElem? (i := 10) rfl)), ?_⟩
  refine List.forall_mem_cons.mpr ⟨s_iald (dd_X9_giveBy_2 (118, .iaload, 1) (List.mem_of_getElem? (i := 11) rfl)), ?_⟩
  refine List.forall_mem_cons.mpr ⟨s_icmp_ne (dd_X9_giveBy_2 (119, .if_icmp .ne 7, 3) (List.mem_of_getElem? (i := 12) rfl)) (by decide), ?_⟩
  refine List.forall_mem_cons.mpr ⟨s_iconst (dd_X9_giveBy_2 (122, .iconst 0, 1) (List.mem_of_getElem? (i := 13) rfl)) rfl, ?_⟩
  refine List.forall_mem_cons.mpr ⟨s_goto (dd_X9_giveBy_2 (123, .goto 4, 3) (List.mem_of_getElem? (i := 14) rfl)) (by decide), ?_⟩
  refine List.forall_mem_cons.mpr ⟨s_iconst (dd_X9_giveBy_2 (126, .iconst 1, 1) (List.mem_of_getElem? (i := 15) rfl)) rfl, ?_⟩
  refine List.forall_mem_cons.mpr ⟨s_iadd (dd_X9_giveBy_2 (127, .iadd, 1) (List.mem_of_getElem? (i := 16) rfl)), ?_⟩
  refine List.forall_mem_cons.mpr ⟨s_istore_n (dd_X9_giveBy_2 (128, .istore_n 3, 1) (List.mem_of_getElem? (i := 17) rfl)) rfl, ?_⟩
  refine List.forall_mem_cons.mpr ⟨s_iinc (dd_X9_giveBy_2 (129, .iinc 4 (-1), 3) (List.mem_of_getElem? (i := 18) rfl)) rfl, ?_⟩
  refine List.forall_mem_cons.mpr ⟨s_goto (dd_X9_giveBy_2 (132, .goto (-97), 3) (List.mem_of_getElem? (i := 19) rfl)) (by decide), ?_⟩
  refine List.forall_mem_cons.mpr ⟨s_iload_n (dd_X9_giveBy_2 (135, .iload_n 3, 1) (List.mem_of_getElem? (i := 20) rfl)) rfl, ?_⟩
  refine List.forall_mem_cons.mpr ⟨Or.inr (Or.inl ⟨rfl, (dd_X9_giveBy_2 (136, .ireturn, 1) (List.mem_of_getElem? (i := 21) rfl)), rfl⟩), ?_⟩
  exact fun _ h => absurd h List.not_mem_nil
theorem so_X9_giveBy : ∀ e ∈ o_X9_giveBy, SndO 162 e.1 e.2 := List.forall_mem_append.mpr ⟨so_X9_giveBy_1, so_X9_giveBy_2⟩
theorem ow_X9_isBorne : (mtJ 163).1.cls = "SatchelSinsModel" := rfl
def D_X9_isBorne : List (Nat × Instr × Nat) := [(0, .iconst 1, 1), (1, .istore_n 1, 1), (2, .iconst 0, 1), (3, .istore_n 2, 1), (4, .iload_n 2, 1), (5, .aload_n 0, 1), (6, .getfield 91, 3), (9, .if_icmp .ge 34, 3), (12, .iload_n 1, 1), (13, .ifCond .eq 22, 3), (16, .aload_n 0, 1), (17, .getfield 59, 3), (20, .iload_n 2, 1), (21, .iaload, 1), (22, .aload_n 0, 1), (23, .getfield 7, 3), (26, .iload_n 2, 1), (27, .iaload, 1), (28, .if_icmp .gt 7, 3), (31, .iconst 1, 1), (32, .goto 4, 3), (35, .iconst 0, 1), (36, .istore_n 1, 1), (37, .iinc 2 1, 3), (40, .goto (-36), 3), (43, .iload_n 1, 1), (44, .ireturn, 1)]
theorem dd_X9_isBorne : ∀ e ∈ D_X9_isBorne, decode (mtJ 163).2.1 e.1 = .ok e.2 := by decide +kernel
set_option maxRecDepth 10000 in
theorem so_X9_isBorne : ∀ e ∈ o_X9_isBorne, SndO 163 e.1 e.2 := by
  refine List.forall_mem_cons.mpr ⟨s_iconst (dd_X9_isBorne (0, .iconst 1, 1) (List.mem_of_getElem? (i := 0) rfl)) rfl, ?_⟩
  refine List.forall_mem_cons.mpr ⟨s_istore_n (dd_X9_isBorne (1, .istore_n 1, 1) (List.mem_of_getElem? (i := 1) rfl)) rfl, ?_⟩
  refine List.forall_mem_cons.mpr ⟨s_iconst (dd_X9_isBorne (2, .iconst 0, 1) (List.mem_of_getElem? (i := 2) rfl)) rfl, ?_⟩
  refine List.forall_mem_cons.mpr ⟨s_istore_n (dd_X9_isBorne (3, .istore_n 2, 1) (List.mem_of_getElem? (i := 3) rfl)) rfl, ?_⟩
  refine List.forall_mem_cons.mpr ⟨s_iload_n (dd_X9_isBorne (4, .iload_n 2, 1) (List.mem_of_getElem? (i := 4) rfl)) rfl, ?_⟩
  refine List.forall_mem_cons.mpr ⟨s_aload_n (dd_X9_isBorne (5, .aload_n 0, 1) (List.mem_of_getElem? (i := 5) rfl)) rfl, ?_⟩
  refine List.forall_mem_cons.mpr ⟨s_getI (k := 2) K9 (by decide) (dd_X9_isBorne (6, .getfield 91, 3) (List.mem_of_getElem? (i := 6) rfl)) ow_X9_isBorne fl9_91 rfl, ?_⟩
  refine List.forall_mem_cons.mpr ⟨s_icmp_ge (dd_X9_isBorne (9, .if_icmp .ge 34, 3) (List.mem_of_getElem? (i := 7) rfl)) (by decide), ?_⟩
  refine List.forall_mem_cons.mpr ⟨s_iload_n (dd_X9_isBorne (12, .iload_n 1, 1) (List.mem_of_getElem? (i := 8) rfl)) rfl, ?_⟩
  refine List.forall_mem_cons.mpr ⟨s_if_eq (dd_X9_isBorne (13, .ifCond .eq 22, 3) (List.mem_of_getElem? (i := 9) rfl)) (by decide), ?_⟩
  refine List.forall_mem_cons.mpr ⟨s_aload_n (dd_X9_isBorne (16, .aload_n 0, 1) (List.mem_of_getElem? (i := 10) rfl)) rfl, ?_⟩
  refine List.forall_mem_cons.mpr ⟨s_getR (k := 30) K9 (by decide) (dd_X9_isBorne (17, .getfield 59, 3) (List.mem_of_getElem? (i := 11) rfl)) ow_X9_isBorne fl9_59 rfl, ?_⟩
  refine List.forall_mem_cons.mpr ⟨s_iload_n (dd_X9_isBorne (20, .iload_n 2, 1) (List.mem_of_getElem? (i := 12) rfl)) rfl, ?_⟩
  refine List.forall_mem_cons.mpr ⟨s_iald (dd_X9_isBorne (21, .iaload, 1) (List.mem_of_getElem? (i := 13) rfl)), ?_⟩
  refine List.forall_mem_cons.mpr ⟨s_aload_n (dd_X9_isBorne (22, .aload_n 0, 1) (List.mem_of_getElem? (i := 14) rfl)) rfl, ?_⟩
  refine List.forall_mem_cons.mpr ⟨s_getR (k := 3) K9 (by decide) (dd_X9_isBorne (23, .getfield 7, 3) (List.mem_of_getElem? (i := 15) rfl)) ow_X9_isBorne fl9_7 rfl, ?_⟩
  refine List.forall_mem_cons.mpr ⟨s_iload_n (dd_X9_isBorne (26, .iload_n 2, 1) (List.mem_of_getElem? (i := 16) rfl)) rfl, ?_⟩
  refine List.forall_mem_cons.mpr ⟨s_iald (dd_X9_isBorne (27, .iaload, 1) (List.mem_of_getElem? (i := 17) rfl)), ?_⟩
  refine List.forall_mem_cons.mpr ⟨s_icmp_gt (dd_X9_isBorne (28, .if_icmp .gt 7, 3) (List.mem_of_getElem? (i := 18) rfl)) (by decide), ?_⟩
  refine List.forall_mem_cons.mpr ⟨s_iconst (dd_X9_isBorne (31, .iconst 1, 1) (List.mem_of_getElem? (i := 19) rfl)) rfl, ?_⟩
  refine List.forall_mem_cons.mpr ⟨s_goto (dd_X9_isBorne (32, .goto 4, 3) (List.mem_of_getElem? (i := 20) rfl)) (by decide), ?_⟩
  refine List.forall_mem_cons.mpr ⟨s_iconst (dd_X9_isBorne (35, .iconst 0, 1) (List.mem_of_getElem? (i := 21) rfl)) rfl, ?_⟩
  refine List.forall_mem_cons.mpr ⟨s_istore_n (dd_X9_isBorne (36, .istore_n 1, 1) (List.mem_of_getElem? (i := 22) rfl)) rfl, ?_⟩
  refine List.forall_mem_cons.mpr ⟨s_iinc (dd_X9_isBorne (37, .iinc 2 1, 3) (List.mem_of_getElem? (i := 23) rfl)) rfl, ?_⟩
  refine List.forall_mem_cons.mpr ⟨s_goto (dd_X9_isBorne (40, .goto (-36), 3) (List.mem_of_getElem? (i := 24) rfl)) (by decide), ?_⟩
  refine List.forall_mem_cons.mpr ⟨s_iload_n (dd_X9_isBorne (43, .iload_n 1, 1) (List.mem_of_getElem? (i := 25) rfl)) rfl, ?_⟩
  refine List.forall_mem_cons.mpr ⟨Or.inr (Or.inr ⟨rfl, (dd_X9_isBorne (44, .ireturn, 1) (List.mem_of_getElem? (i := 26) rfl)), rfl⟩), ?_⟩
  exact fun _ h => absurd h List.not_mem_nil
theorem ow_X9_greatest : (mtJ 164).1.cls = "SatchelSinsModel" := rfl
def D_X9_greatest : List (Nat × Instr × Nat) := [(0, .iconst 0, 1), (1, .istore_n 1, 1), (2, .iconst 0, 1), (3, .istore_n 2, 1), (4, .iload_n 2, 1), (5, .aload_n 0, 1), (6, .getfield 91, 3), (9, .if_icmp .ge 30, 3), (12, .aload_n 0, 1), (13, .getfield 59, 3), (16, .iload_n 2, 1), (17, .iaload, 1), (18, .iload_n 1, 1), (19, .if_icmp .le 12, 3), (22, .aload_n 0, 1), (23, .getfield 59, 3), (26, .iload_n 2, 1), (27, .iaload, 1), (28, .goto 4, 3), (31, .iload_n 1, 1), (32, .istore_n 1, 1), (33, .iinc 2 1, 3), (36, .goto (-32), 3), (39, .iload_n 1, 1), (40, .ireturn, 1)]
theorem dd_X9_greatest : ∀ e ∈ D_X9_greatest, decode (mtJ 164).2.1 e.1 = .ok e.2 := by decide +kernel
set_option maxRecDepth 10000 in
theorem so_X9_greatest : ∀ e ∈ o_X9_greatest, SndO 164 e.1 e.2 := by
  refine List.forall_mem_cons.mpr ⟨s_iconst (dd_X9_greatest (0, .iconst 0, 1) (List.mem_of_getElem? (i := 0) rfl)) rfl, ?_⟩
  refine List.forall_mem_cons.mpr ⟨s_istore_n (dd_X9_greatest (1, .istore_n 1, 1) (List.mem_of_getElem? (i := 1) rfl)) rfl, ?_⟩
  refine List.forall_mem_cons.mpr ⟨s_iconst (dd_X9_greatest (2, .iconst 0, 1) (List.mem_of_getElem? (i := 2) rfl)) rfl, ?_⟩
  refine List.forall_mem_cons.mpr ⟨s_istore_n (dd_X9_greatest (3, .istore_n 2, 1) (List.mem_of_getElem? (i := 3) rfl)) rfl, ?_⟩
  refine List.forall_mem_cons.mpr ⟨s_iload_n (dd_X9_greatest (4, .iload_n 2, 1) (List.mem_of_getElem? (i := 4) rfl)) rfl, ?_⟩
  refine List.forall_mem_cons.mpr ⟨s_aload_n (dd_X9_greatest (5, .aload_n 0, 1) (List.mem_of_getElem? (i := 5) rfl)) rfl, ?_⟩
  refine List.forall_mem_cons.mpr ⟨s_getI (k := 2) K9 (by decide) (dd_X9_greatest (6, .getfield 91, 3) (List.mem_of_getElem? (i := 6) rfl)) ow_X9_greatest fl9_91 rfl, ?_⟩
  refine List.forall_mem_cons.mpr ⟨s_icmp_ge (dd_X9_greatest (9, .if_icmp .ge 30, 3) (List.mem_of_getElem? (i := 7) rfl)) (by decide), ?_⟩
  refine List.forall_mem_cons.mpr ⟨s_aload_n (dd_X9_greatest (12, .aload_n 0, 1) (List.mem_of_getElem? (i := 8) rfl)) rfl, ?_⟩
  refine List.forall_mem_cons.mpr ⟨s_getR (k := 30) K9 (by decide) (dd_X9_greatest (13, .getfield 59, 3) (List.mem_of_getElem? (i := 9) rfl)) ow_X9_greatest fl9_59 rfl, ?_⟩
  refine List.forall_mem_cons.mpr ⟨s_iload_n (dd_X9_greatest (16, .iload_n 2, 1) (List.mem_of_getElem? (i := 10) rfl)) rfl, ?_⟩
  refine List.forall_mem_cons.mpr ⟨s_iald (dd_X9_greatest (17, .iaload, 1) (List.mem_of_getElem? (i := 11) rfl)), ?_⟩
  refine List.forall_mem_cons.mpr ⟨s_iload_n (dd_X9_greatest (18, .iload_n 1, 1) (List.mem_of_getElem? (i := 12) rfl)) rfl, ?_⟩
  refine List.forall_mem_cons.mpr ⟨s_icmp_le (dd_X9_greatest (19, .if_icmp .le 12, 3) (List.mem_of_getElem? (i := 13) rfl)) (by decide), ?_⟩
  refine List.forall_mem_cons.mpr ⟨s_aload_n (dd_X9_greatest (22, .aload_n 0, 1) (List.mem_of_getElem? (i := 14) rfl)) rfl, ?_⟩
  refine List.forall_mem_cons.mpr ⟨s_getR (k := 30) K9 (by decide) (dd_X9_greatest (23, .getfield 59, 3) (List.mem_of_getElem? (i := 15) rfl)) ow_X9_greatest fl9_59 rfl, ?_⟩
  refine List.forall_mem_cons.mpr ⟨s_iload_n (dd_X9_greatest (26, .iload_n 2, 1) (List.mem_of_getElem? (i := 16) rfl)) rfl, ?_⟩
  refine List.forall_mem_cons.mpr ⟨s_iald (dd_X9_greatest (27, .iaload, 1) (List.mem_of_getElem? (i := 17) rfl)), ?_⟩
  refine List.forall_mem_cons.mpr ⟨s_goto (dd_X9_greatest (28, .goto 4, 3) (List.mem_of_getElem? (i := 18) rfl)) (by decide), ?_⟩
  refine List.forall_mem_cons.mpr ⟨s_iload_n (dd_X9_greatest (31, .iload_n 1, 1) (List.mem_of_getElem? (i := 19) rfl)) rfl, ?_⟩
  refine List.forall_mem_cons.mpr ⟨s_istore_n (dd_X9_greatest (32, .istore_n 1, 1) (List.mem_of_getElem? (i := 20) rfl)) rfl, ?_⟩
  refine List.forall_mem_cons.mpr ⟨s_iinc (dd_X9_greatest (33, .iinc 2 1, 3) (List.mem_of_getElem? (i := 21) rfl)) rfl, ?_⟩
  refine List.forall_mem_cons.mpr ⟨s_goto (dd_X9_greatest (36, .goto (-32), 3) (List.mem_of_getElem? (i := 22) rfl)) (by decide), ?_⟩
  refine List.forall_mem_cons.mpr ⟨s_iload_n (dd_X9_greatest (39, .iload_n 1, 1) (List.mem_of_getElem? (i := 23) rfl)) rfl, ?_⟩
  refine List.forall_mem_cons.mpr ⟨Or.inr (Or.inl ⟨rfl, (dd_X9_greatest (40, .ireturn, 1) (List.mem_of_getElem? (i := 24) rfl)), rfl⟩), ?_⟩
  exact fun _ h => absurd h List.not_mem_nil
theorem ow_X9_keepGiven : (mtJ 165).1.cls = "SatchelSinsModel" := rfl
def D_X9_keepGiven : List (Nat × Instr × Nat) := [(0, .iconst 0, 1), (1, .istore_n 1, 1), (2, .iload_n 1, 1), (3, .aload_n 0, 1), (4, .getfield 98, 3), (7, .if_icmp .ge 21, 3), (10, .aload_n 0, 1), (11, .getfield 56, 3), (14, .iload_n 1, 1), (15, .aload_n 0, 1), (16, .getfield 53, 3), (19, .iload_n 1, 1), (20, .iaload, 1), (21, .iastore, 1), (22, .iinc 1 1, 3), (25, .goto (-23), 3), (28, .return_, 1)]
theorem dd_X9_keepGiven : ∀ e ∈ D_X9_keepGiven, decode (mtJ 165).2.1 e.1 = .ok e.2 := by decide +kernel
set_option maxRecDepth 10000 in
theorem so_X9_keepGiven : ∀ e ∈ o_X9_keepGiven, SndO 165 e.1 e.2 := by
  refine List.forall_mem_cons.mpr ⟨s_iconst (dd_X9_keepGiven (0, .iconst 0, 1) (List.mem_of_getElem? (i := 0) rfl)) rfl, ?_⟩
  refine List.forall_mem_cons.mpr ⟨s_istore_n (dd_X9_keepGiven (1, .istore_n 1, 1) (List.mem_of_getElem? (i := 1) rfl)) rfl, ?_⟩
  refine List.forall_mem_cons.mpr ⟨s_iload_n (dd_X9_keepGiven (2, .iload_n 1, 1) (List.mem_of_getElem? (i := 2) rfl)) rfl, ?_⟩
  refine List.forall_mem_cons.mpr ⟨s_aload_n (dd_X9_keepGiven (3, .aload_n 0, 1) (List.mem_of_getElem? (i := 3) rfl)) rfl, ?_⟩
  refine List.forall_mem_cons.mpr ⟨s_getI (k := 6) K9 (by decide) (dd_X9_keepGiven (4, .getfield 98, 3) (List.mem_of_getElem? (i := 4) rfl)) ow_X9_keepGiven fl9_98 rfl, ?_⟩
  refine List.forall_mem_cons.mpr ⟨s_icmp_ge (dd_X9_keepGiven (7, .if_icmp .ge 21, 3) (List.mem_of_getElem? (i := 5) rfl)) (by decide), ?_⟩
  refine List.forall_mem_cons.mpr ⟨s_aload_n (dd_X9_keepGiven (10, .aload_n 0, 1) (List.mem_of_getElem? (i := 6) rfl)) rfl, ?_⟩
  refine List.forall_mem_cons.mpr ⟨s_getR (k := 29) K9 (by decide) (dd_X9_keepGiven (11, .getfield 56, 3) (List.mem_of_getElem? (i := 7) rfl)) ow_X9_keepGiven fl9_56 rfl, ?_⟩
  refine List.forall_mem_cons.mpr ⟨s_iload_n (dd_X9_keepGiven (14, .iload_n 1, 1) (List.mem_of_getElem? (i := 8) rfl)) rfl, ?_⟩
  refine List.forall_mem_cons.mpr ⟨s_aload_n (dd_X9_keepGiven (15, .aload_n 0, 1) (List.mem_of_getElem? (i := 9) rfl)) rfl, ?_⟩
  refine List.forall_mem_cons.mpr ⟨s_getR (k := 28) K9 (by decide) (dd_X9_keepGiven (16, .getfield 53, 3) (List.mem_of_getElem? (i := 10) rfl)) ow_X9_keepGiven fl9_53 rfl, ?_⟩
  refine List.forall_mem_cons.mpr ⟨s_iload_n (dd_X9_keepGiven (19, .iload_n 1, 1) (List.mem_of_getElem? (i := 11) rfl)) rfl, ?_⟩
  refine List.forall_mem_cons.mpr ⟨s_iald (dd_X9_keepGiven (20, .iaload, 1) (List.mem_of_getElem? (i := 12) rfl)), ?_⟩
  refine List.forall_mem_cons.mpr ⟨s_iast (dd_X9_keepGiven (21, .iastore, 1) (List.mem_of_getElem? (i := 13) rfl)), ?_⟩
  refine List.forall_mem_cons.mpr ⟨s_iinc (dd_X9_keepGiven (22, .iinc 1 1, 3) (List.mem_of_getElem? (i := 14) rfl)) rfl, ?_⟩
  refine List.forall_mem_cons.mpr ⟨s_goto (dd_X9_keepGiven (25, .goto (-23), 3) (List.mem_of_getElem? (i := 15) rfl)) (by decide), ?_⟩
  refine List.forall_mem_cons.mpr ⟨Or.inl ⟨rfl, (dd_X9_keepGiven (28, .return_, 1) (List.mem_of_getElem? (i := 16) rfl)), rfl⟩, ?_⟩
  exact fun _ h => absurd h List.not_mem_nil
theorem ow_X9_loads : (mtJ 166).1.cls = "SatchelSinsModel" := rfl
def D_X9_loads : List (Nat × Instr × Nat) := [(0, .iload_n 1, 1), (1, .iconst (-1), 1), (2, .if_icmp .eq 14, 3), (5, .aload_n 0, 1), (6, .iload_n 1, 1), (7, .invokevirtual 209, 3), (10, .ifCond .ne 6, 3), (13, .ldc 205, 2), (15, .ireturn, 1), (16, .ldc 253, 2), (18, .istore_n 2, 1), (19, .iconst 0, 1), (20, .istore_n 3, 1), (21, .iload_n 3, 1), (22, .aload_n 0, 1), (23, .invokevirtual 254, 3), (26, .if_icmp .ge 36, 3), (29, .aload_n 0, 1), (30, .iload_n 3, 1), (31, .invokevirtual 257, 3), (34, .istore 4, 2), (36, .iload 4, 2), (38, .iload_n 2, 1), (39, .if_icmp .ge 17, 3), (42, .aload_n 0, 1), (43, .invokevirtual 260, 3), (46, .ifCond .eq 10, 3), (49, .iload 4, 2), (51, .istore_n 2, 1), (52, .aload_n 0, 1), (53, .invokevirtual 264, 3), (56, .iinc 3 1, 3), (59, .goto (-38), 3), (62, .iload_n 2, 1), (63, .ldc 253, 2), (65, .if_icmp .ne 7, 3), (68, .iconst (-1), 1), (69, .goto 18, 3), (72, .iload_n 1, 1), (73, .iconst (-1), 1), (74, .if_icmp .ne 7, 3), (77, .iload_n 2, 1), (78, .goto 9, 3), (81, .aload_n 0, 1), (82, .getfield 56, 3), (85, .iload_n 1, 1), (86, .iaload, 1), (87, .ireturn, 1)]
theorem dd_X9_loads : ∀ e ∈ D_X9_loads, decode (mtJ 166).2.1 e.1 = .ok e.2 := by decide +kernel
set_option maxRecDepth 10000 in
theorem so_X9_loads : ∀ e ∈ o_X9_loads, SndO 166 e.1 e.2 := by
  refine List.forall_mem_cons.mpr ⟨s_iload_n (dd_X9_loads (0, .iload_n 1, 1) (List.mem_of_getElem? (i := 0) rfl)) rfl, ?_⟩
  refine List.forall_mem_cons.mpr ⟨s_iconst (dd_X9_loads (1, .iconst (-1), 1) (List.mem_of_getElem? (i := 1) rfl)) rfl, ?_⟩
  refine List.forall_mem_cons.mpr ⟨s_icmp_eq (dd_X9_loads (2, .if_icmp .eq 14, 3) (List.mem_of_getElem? (i := 2) rfl)) (by decide), ?_⟩
  refine List.forall_mem_cons.mpr ⟨s_aload_n (dd_X9_loads (5, .aload_n 0, 1) (List.mem_of_getElem? (i := 3) rfl)) rfl, ?_⟩
  refine List.forall_mem_cons.mpr ⟨s_iload_n (dd_X9_loads (6, .iload_n 1, 1) (List.mem_of_getElem? (i := 4) rfl)) rfl, ?_⟩
  refine List.forall_mem_cons.mpr ⟨⟨s_callV (ci := 9) rfl mo120 rfl rfl (dd_X9_loads (7, .invokevirtual 209, 3) (List.mem_of_getElem? (i := 5) rfl)) ow_X9_loads ml9_209 mi120 msl120 in_9 mn120, mo120⟩, ?_⟩
  refine List.forall_mem_cons.mpr ⟨s_if_ne (dd_X9_loads (10, .ifCond .ne 6, 3) (List.mem_of_getElem? (i := 6) rfl)) (by decide), ?_⟩
  refine List.forall_mem_cons.mpr ⟨s_ldc (dd_X9_loads (13, .ldc 205, 2) (List.mem_of_getElem? (i := 7) rfl)) ow_X9_loads ki9_205, ?_⟩
  refine List.forall_mem_cons.mpr ⟨Or.inr (Or.inl ⟨rfl, (dd_X9_loads (15, .ireturn, 1) (List.mem_of_getElem? (i := 8) rfl)), rfl⟩), ?_⟩
  refine List.forall_mem_cons.mpr ⟨s_ldc (dd_X9_loads (16, .ldc 253, 2) (List.mem_of_getElem? (i := 9) rfl)) ow_X9_loads ki9_253, ?_⟩
  refine List.forall_mem_cons.mpr ⟨s_istore_n (dd_X9_loads (18, .istore_n 2, 1) (List.mem_of_getElem? (i := 10) rfl)) rfl, ?_⟩
  refine List.forall_mem_cons.mpr ⟨s_iconst (dd_X9_loads (19, .iconst 0, 1) (List.mem_of_getElem? (i := 11) rfl)) rfl, ?_⟩
  refine List.forall_mem_cons.mpr ⟨s_istore_n (dd_X9_loads (20, .istore_n 3, 1) (List.mem_of_getElem? (i := 12) rfl)) rfl, ?_⟩
  refine List.forall_mem_cons.mpr ⟨s_iload_n (dd_X9_loads (21, .iload_n 3, 1) (List.mem_of_getElem? (i := 13) rfl)) rfl, ?_⟩
  refine List.forall_mem_cons.mpr ⟨s_aload_n (dd_X9_loads (22, .aload_n 0, 1) (List.mem_of_getElem? (i := 14) rfl)) rfl, ?_⟩
  refine List.forall_mem_cons.mpr ⟨⟨s_callV (ci := 9) rfl mo161 rfl rfl (dd_X9_loads (23, .invokevirtual 254, 3) (List.mem_of_getElem? (i := 15) rfl)) ow_X9_loads ml9_254 mi161 msl161 in_9 mn161, mo161⟩, ?_⟩
  refine List.forall_mem_cons.mpr ⟨s_icmp_ge (dd_X9_loads (26, .if_icmp .ge 36, 3) (List.mem_of_getElem? (i := 16) rfl)) (by decide), ?_⟩
  refine List.forall_mem_cons.mpr ⟨s_aload_n (dd_X9_loads (29, .aload_n 0, 1) (List.mem_of_getElem? (i := 17) rfl)) rfl, ?_⟩
  refine List.forall_mem_cons.mpr ⟨s_iload_n (dd_X9_loads (30, .iload_n 3, 1) (List.mem_of_getElem? (i := 18) rfl)) rfl, ?_⟩
  refine List.forall_mem_cons.mpr ⟨⟨s_callV (ci := 9) rfl mo162 rfl rfl (dd_X9_loads (31, .invokevirtual 257, 3) (List.mem_of_getElem? (i := 19) rfl)) ow_X9_loads ml9_257 mi162 msl162 in_9 mn162, mo162⟩, ?_⟩
  refine List.forall_mem_cons.mpr ⟨s_istore (dd_X9_loads (34, .istore 4, 2) (List.mem_of_getElem? (i := 20) rfl)), ?_⟩
  refine List.forall_mem_cons.mpr ⟨s_iload (dd_X9_loads (36, .iload 4, 2) (List.mem_of_getElem? (i := 21) rfl)), ?_⟩
  refine List.forall_mem_cons.mpr ⟨s_iload_n (dd_X9_loads (38, .iload_n 2, 1) (List.mem_of_getElem? (i := 22) rfl)) rfl, ?_⟩
  refine List.forall_mem_cons.mpr ⟨s_icmp_ge (dd_X9_loads (39, .if_icmp .ge 17, 3) (List.mem_of_getElem? (i := 23) rfl)) (by decide), ?_⟩
  refine List.forall_mem_cons.mpr ⟨s_aload_n (dd_X9_loads (42, .aload_n 0, 1) (List.mem_of_getElem? (i := 24) rfl)) rfl, ?_⟩
  refine List.forall_mem_cons.mpr ⟨⟨s_callV (ci := 9) rfl mo163 rfl rfl (dd_X9_loads (43, .invokevirtual 260, 3) (List.mem_of_getElem? (i := 25) rfl)) ow_X9_loads ml9_260 mi163 msl163 in_9 mn163, mo163⟩, ?_⟩
  refine List.forall_mem_cons.mpr ⟨s_if_eq (dd_X9_loads (46, .ifCond .eq 10, 3) (List.mem_of_getElem? (i := 26) rfl)) (by decide), ?_⟩
  refine List.forall_mem_cons.mpr ⟨s_iload (dd_X9_loads (49, .iload 4, 2) (List.mem_of_getElem? (i := 27) rfl)), ?_⟩
  refine List.forall_mem_cons.mpr ⟨s_istore_n (dd_X9_loads (51, .istore_n 2, 1) (List.mem_of_getElem? (i := 28) rfl)) rfl, ?_⟩
  refine List.forall_mem_cons.mpr ⟨s_aload_n (dd_X9_loads (52, .aload_n 0, 1) (List.mem_of_getElem? (i := 29) rfl)) rfl, ?_⟩
  refine List.forall_mem_cons.mpr ⟨⟨s_callV (ci := 9) rfl mo165 rfl rfl (dd_X9_loads (53, .invokevirtual 264, 3) (List.mem_of_getElem? (i := 30) rfl)) ow_X9_loads ml9_264 mi165 msl165 in_9 mn165, mo165⟩, ?_⟩
  refine List.forall_mem_cons.mpr ⟨s_iinc (dd_X9_loads (56, .iinc 3 1, 3) (List.mem_of_getElem? (i := 31) rfl)) rfl, ?_⟩
  refine List.forall_mem_cons.mpr ⟨s_goto (dd_X9_loads (59, .goto (-38), 3) (List.mem_of_getElem? (i := 32) rfl)) (by decide), ?_⟩
  refine List.forall_mem_cons.mpr ⟨s_iload_n (dd_X9_loads (62, .iload_n 2, 1) (List.mem_of_getElem? (i := 33) rfl)) rfl, ?_⟩
  refine List.forall_mem_cons.mpr ⟨s_ldc (dd_X9_loads (63, .ldc 253, 2) (List.mem_of_getElem? (i := 34) rfl)) ow_X9_loads ki9_253, ?_⟩
  refine List.forall_mem_cons.mpr ⟨s_icmp_ne (dd_X9_loads (65, .if_icmp .ne 7, 3) (List.mem_of_getElem? (i := 35) rfl)) (by decide), ?_⟩
  refine List.forall_mem_cons.mpr ⟨s_iconst (dd_X9_loads (68, .iconst (-1), 1) (List.mem_of_getElem? (i := 36) rfl)) rfl, ?_⟩
  refine List.forall_mem_cons.mpr ⟨s_goto (dd_X9_loads (69, .goto 18, 3) (List.mem_of_getElem? (i := 37) rfl)) (by decide), ?_⟩
  refine List.forall_mem_cons.mpr ⟨s_iload_n (dd_X9_loads (72, .iload_n 1, 1) (List.mem_of_getElem? (i := 38) rfl)) rfl, ?_⟩
  refine List.forall_mem_cons.mpr ⟨s_iconst (dd_X9_loads (73, .iconst (-1), 1) (List.mem_of_getElem? (i := 39) rfl)) rfl, ?_⟩
  refine List.forall_mem_cons.mpr ⟨s_icmp_ne (dd_X9_loads (74, .if_icmp .ne 7, 3) (List.mem_of_getElem? (i := 40) rfl)) (by decide), ?_⟩
  refine List.forall_mem_cons.mpr ⟨s_iload_n (dd_X9_loads (77, .iload_n 2, 1) (List.mem_of_getElem? (i := 41) rfl)) rfl, ?_⟩
  refine List.forall_mem_cons.mpr ⟨s_goto (dd_X9_loads (78, .goto 9, 3) (List.mem_of_getElem? (i := 42) rfl)) (by decide), ?_⟩
  refine List.forall_mem_cons.mpr ⟨s_aload_n (dd_X9_loads (81, .aload_n 0, 1) (List.mem_of_getElem? (i := 43) rfl)) rfl, ?_⟩
  refine List.forall_mem_cons.mpr ⟨s_getR (k := 29) K9 (by decide) (dd_X9_loads (82, .getfield 56, 3) (List.mem_of_getElem? (i := 44) rfl)) ow_X9_loads fl9_56 rfl, ?_⟩
  refine List.forall_mem_cons.mpr ⟨s_iload_n (dd_X9_loads (85, .iload_n 1, 1) (List.mem_of_getElem? (i := 45) rfl)) rfl, ?_⟩
  refine List.forall_mem_cons.mpr ⟨s_iald (dd_X9_loads (86, .iaload, 1) (List.mem_of_getElem? (i := 46) rfl)), ?_⟩
  refine List.forall_mem_cons.mpr ⟨Or.inr (Or.inl ⟨rfl, (dd_X9_loads (87, .ireturn, 1) (List.mem_of_getElem? (i := 47) rfl)), rfl⟩), ?_⟩
  exact fun _ h => absurd h List.not_mem_nil
theorem ow_X9_fair : (mtJ 167).1.cls = "SatchelSinsModel" := rfl
def D_X9_fair : List (Nat × Instr × Nat) := [(0, .iload_n 1, 1), (1, .iconst (-1), 1), (2, .if_icmp .eq 14, 3), (5, .aload_n 0, 1), (6, .iload_n 1, 1), (7, .invokevirtual 209, 3), (10, .ifCond .ne 6, 3), (13, .ldc 205, 2), (15, .ireturn, 1), (16, .aload_n 0, 1), (17, .getfield 91, 3), (20, .ifCond .ne 5, 3), (23, .iconst (-1), 1), (24, .ireturn, 1), (25, .ldc 253, 2), (27, .istore_n 2, 1), (28, .iconst 0, 1), (29, .istore_n 3, 1), (30, .iload_n 3, 1), (31, .aload_n 0, 1), (32, .invokevirtual 254, 3), (35, .if_icmp .ge 38, 3), (38, .aload_n 0, 1), (39, .iload_n 3, 1), (40, .invokevirtual 257, 3), (43, .istore 4, 2), (45, .iload 4, 2), (47, .ifCond .lt 20, 3), (50, .aload_n 0, 1), (51, .invokevirtual 267, 3), (54, .iload_n 2, 1), (55, .if_icmp .ge 12, 3), (58, .aload_n 0, 1), (59, .invokevirtual 267, 3), (62, .istore_n 2, 1), (63, .aload_n 0, 1), (64, .invokevirtual 264, 3), (67, .iinc 3 1, 3), (70, .goto (-40), 3), (73, .iload_n 1, 1), (74, .iconst (-1), 1), (75, .if_icmp .ne 7, 3), (78, .iload_n 2, 1), (79, .goto 9, 3), (82, .aload_n 0, 1), (83, .getfield 56, 3), (86, .iload_n 1, 1), (87, .iaload, 1), (88, .ireturn, 1)]
theorem dd_X9_fair : ∀ e ∈ D_X9_fair, decode (mtJ 167).2.1 e.1 = .ok e.2 := by decide +kernel
set_option maxRecDepth 10000 in
theorem so_X9_fair : ∀ e ∈ o_X9_fair, SndO 167 e.1 e.2 := by
  refine List.forall_mem_cons.mpr ⟨s_iload_n (dd_X9_fair (0, .iload_n 1, 1) (List.mem_of_getElem? (i := 0) rfl)) rfl, ?_⟩
  refine List.forall_mem_cons.mpr ⟨s_iconst (dd_X9_fair (1, .iconst (-1), 1) (List.mem_of_getElem? (i := 1) rfl)) rfl, ?_⟩
  refine List.forall_mem_cons.mpr ⟨s_icmp_eq (dd_X9_fair (2, .if_icmp .eq 14, 3) (List.mem_of_getElem? (i := 2) rfl)) (by decide), ?_⟩
  refine List.forall_mem_cons.mpr ⟨s_aload_n (dd_X9_fair (5, .aload_n 0, 1) (List.mem_of_getElem? (i := 3) rfl)) rfl, ?_⟩
  refine List.forall_mem_cons.mpr ⟨s_iload_n (dd_X9_fair (6, .iload_n 1, 1) (List.mem_of_getElem? (i := 4) rfl)) rfl, ?_⟩
  refine List.forall_mem_cons.mpr ⟨⟨s_callV (ci := 9) rfl mo120 rfl rfl (dd_X9_fair (7, .invokevirtual 209, 3) (List.mem_of_getElem? (i := 5) rfl)) ow_X9_fair ml9_209 mi120 msl120 in_9 mn120, mo120⟩, ?_⟩
  refine List.forall_mem_cons.mpr ⟨s_if_ne (dd_X9_fair (10, .ifCond .ne 6, 3) (List.mem_of_getElem? (i := 6) rfl)) (by decide), ?_⟩
  refine List.forall_mem_cons.mpr ⟨s_ldc (dd_X9_fair (13, .ldc 205, 2) (List.mem_of_getElem? (i := 7) rfl)) ow_X9_fair ki9_205, ?_⟩
  refine List.forall_mem_cons.mpr ⟨Or.inr (Or.inl ⟨rfl, (dd_X9_fair (15, .ireturn, 1) (List.mem_of_getElem? (i := 8) rfl)), rfl⟩), ?_⟩
  refine List.forall_mem_cons.mpr ⟨s_aload_n (dd_X9_fair (16, .aload_n 0, 1) (List.mem_of_getElem? (i := 9) rfl)) rfl, ?_⟩
  refine List.forall_mem_cons.mpr ⟨s_getI (k := 2) K9 (by decide) (dd_X9_fair (17, .getfield 91, 3) (List.mem_of_getElem? (i := 10) rfl)) ow_X9_fair fl9_91 rfl, ?_⟩
  refine List.forall_mem_cons.mpr ⟨s_if_ne (dd_X9_fair (20, .ifCond .ne 5, 3) (List.mem_of_getElem? (i := 11) rfl)) (by decide), ?_⟩
  refine List.forall_mem_cons.mpr ⟨s_iconst (dd_X9_fair (23, .iconst (-1), 1) (List.mem_of_getElem? (i := 12) rfl)) rfl, ?_⟩
  refine List.forall_mem_cons.mpr ⟨Or.inr (Or.inl ⟨rfl, (dd_X9_fair (24, .ireturn, 1) (List.mem_of_getElem? (i := 13) rfl)), rfl⟩), ?_⟩
  refine List.forall_mem_cons.mpr ⟨s_ldc (dd_X9_fair (25, .ldc 253, 2) (List.mem_of_getElem? (i := 14) rfl)) ow_X9_fair ki9_253, ?_⟩
  refine List.forall_mem_cons.mpr ⟨s_istore_n (dd_X9_fair (27, .istore_n 2, 1) (List.mem_of_getElem? (i := 15) rfl)) rfl, ?_⟩
  refine List.forall_mem_cons.mpr ⟨s_iconst (dd_X9_fair (28, .iconst 0, 1) (List.mem_of_getElem? (i := 16) rfl)) rfl, ?_⟩
  refine List.forall_mem_cons.mpr ⟨s_istore_n (dd_X9_fair (29, .istore_n 3, 1) (List.mem_of_getElem? (i := 17) rfl)) rfl, ?_⟩
  refine List.forall_mem_cons.mpr ⟨s_iload_n (dd_X9_fair (30, .iload_n 3, 1) (List.mem_of_getElem? (i := 18) rfl)) rfl, ?_⟩
  refine List.forall_mem_cons.mpr ⟨s_aload_n (dd_X9_fair (31, .aload_n 0, 1) (List.mem_of_getElem? (i := 19) rfl)) rfl, ?_⟩
  refine List.forall_mem_cons.mpr ⟨⟨s_callV (ci := 9) rfl mo161 rfl rfl (dd_X9_fair (32, .invokevirtual 254, 3) (List.mem_of_getElem? (i := 20) rfl)) ow_X9_fair ml9_254 mi161 msl161 in_9 mn161, mo161⟩, ?_⟩
  refine List.forall_mem_cons.mpr ⟨s_icmp_ge (dd_X9_fair (35, .if_icmp .ge 38, 3) (List.mem_of_getElem? (i := 21) rfl)) (by decide), ?_⟩
  refine List.forall_mem_cons.mpr ⟨s_aload_n (dd_X9_fair (38, .aload_n 0, 1) (List.mem_of_getElem? (i := 22) rfl)) rfl, ?_⟩
  refine List.forall_mem_cons.mpr ⟨s_iload_n (dd_X9_fair (39, .iload_n 3, 1) (List.mem_of_getElem? (i := 23) rfl)) rfl, ?_⟩
  refine List.forall_mem_cons.mpr ⟨⟨s_callV (ci := 9) rfl mo162 rfl rfl (dd_X9_fair (40, .invokevirtual 257, 3) (List.mem_of_getElem? (i := 24) rfl)) ow_X9_fair ml9_257 mi162 msl162 in_9 mn162, mo162⟩, ?_⟩
  refine List.forall_mem_cons.mpr ⟨s_istore (dd_X9_fair (43, .istore 4, 2) (List.mem_of_getElem? (i := 25) rfl)), ?_⟩
  refine List.forall_mem_cons.mpr ⟨s_iload (dd_X9_fair (45, .iload 4, 2) (List.mem_of_getElem? (i := 26) rfl)), ?_⟩
  refine List.forall_mem_cons.mpr ⟨s_if_lt (dd_X9_fair (47, .ifCond .lt 20, 3) (List.mem_of_getElem? (i := 27) rfl)) (by decide), ?_⟩
  refine List.forall_mem_cons.mpr ⟨s_aload_n (dd_X9_fair (50, .aload_n 0, 1) (List.mem_of_getElem? (i := 28) rfl)) rfl, ?_⟩
  refine List.forall_mem_cons.mpr ⟨⟨s_callV (ci := 9) rfl mo164 rfl rfl (dd_X9_fair (51, .invokevirtual 267, 3) (List.mem_of_getElem? (i := 29) rfl)) ow_X9_fair ml9_267 mi164 msl164 in_9 mn164, mo164⟩, ?_⟩
  refine List.forall_mem_cons.mpr ⟨s_iload_n (dd_X9_fair (54, .iload_n 2, 1) (List.mem_of_getElem? (i := 30) rfl)) rfl, ?_⟩
  refine List.forall_mem_cons.mpr ⟨s_icmp_ge (dd_X9_fair (55, .if_icmp .ge 12, 3) (List.mem_of_getElem? (i := 31) rfl)) (by decide), ?_⟩
  refine List.forall_mem_cons.mpr ⟨s_aload_n (dd_X9_fair (58, .aload_n 0, 1) (List.mem_of_getElem? (i := 32) rfl)) rfl, ?_⟩
  refine List.forall_mem_cons.mpr ⟨⟨s_callV (ci := 9) rfl mo164 rfl rfl (dd_X9_fair (59, .invokevirtual 267, 3) (List.mem_of_getElem? (i := 33) rfl)) ow_X9_fair ml9_267 mi164 msl164 in_9 mn164, mo164⟩, ?_⟩
  refine List.forall_mem_cons.mpr ⟨s_istore_n (dd_X9_fair (62, .istore_n 2, 1) (List.mem_of_getElem? (i := 34) rfl)) rfl, ?_⟩
  refine List.forall_mem_cons.mpr ⟨s_aload_n (dd_X9_fair (63, .aload_n 0, 1) (List.mem_of_getElem? (i := 35) rfl)) rfl, ?_⟩
  refine List.forall_mem_cons.mpr ⟨⟨s_callV (ci := 9) rfl mo165 rfl rfl (dd_X9_fair (64, .invokevirtual 264, 3) (List.mem_of_getElem? (i := 36) rfl)) ow_X9_fair ml9_264 mi165 msl165 in_9 mn165, mo165⟩, ?_⟩
  refine List.forall_mem_cons.mpr ⟨s_iinc (dd_X9_fair (67, .iinc 3 1, 3) (List.mem_of_getElem? (i := 37) rfl)) rfl, ?_⟩
  refine List.forall_mem_cons.mpr ⟨s_goto (dd_X9_fair (70, .goto (-40), 3) (List.mem_of_getElem? (i := 38) rfl)) (by decide), ?_⟩
  refine List.forall_mem_cons.mpr ⟨s_iload_n (dd_X9_fair (73, .iload_n 1, 1) (List.mem_of_getElem? (i := 39) rfl)) rfl, ?_⟩
  refine List.forall_mem_cons.mpr ⟨s_iconst (dd_X9_fair (74, .iconst (-1), 1) (List.mem_of_getElem? (i := 40) rfl)) rfl, ?_⟩
  refine List.forall_mem_cons.mpr ⟨s_icmp_ne (dd_X9_fair (75, .if_icmp .ne 7, 3) (List.mem_of_getElem? (i := 41) rfl)) (by decide), ?_⟩
  refine List.forall_mem_cons.mpr ⟨s_iload_n (dd_X9_fair (78, .iload_n 2, 1) (List.mem_of_getElem? (i := 42) rfl)) rfl, ?_⟩
  refine List.forall_mem_cons.mpr ⟨s_goto (dd_X9_fair (79, .goto 9, 3) (List.mem_of_getElem? (i := 43) rfl)) (by decide), ?_⟩
  refine List.forall_mem_cons.mpr ⟨s_aload_n (dd_X9_fair (82, .aload_n 0, 1) (List.mem_of_getElem? (i := 44) rfl)) rfl, ?_⟩
  refine List.forall_mem_cons.mpr ⟨s_getR (k := 29) K9 (by decide) (dd_X9_fair (83, .getfield 56, 3) (List.mem_of_getElem? (i := 45) rfl)) ow_X9_fair fl9_56 rfl, ?_⟩
  refine List.forall_mem_cons.mpr ⟨s_iload_n (dd_X9_fair (86, .iload_n 1, 1) (List.mem_of_getElem? (i := 46) rfl)) rfl, ?_⟩
  refine List.forall_mem_cons.mpr ⟨s_iald (dd_X9_fair (87, .iaload, 1) (List.mem_of_getElem? (i := 47) rfl)), ?_⟩
  refine List.forall_mem_cons.mpr ⟨Or.inr (Or.inl ⟨rfl, (dd_X9_fair (88, .ireturn, 1) (List.mem_of_getElem? (i := 48) rfl)), rfl⟩), ?_⟩
  exact fun _ h => absurd h List.not_mem_nil
theorem ow_X9_isLighter : (mtJ 168).1.cls = "SatchelSinsModel" := rfl
def D_X9_isLighter_1 : List (Nat × Instr × Nat) := [(0, .aload_n 0, 1), (1, .iload_n 1, 1), (2, .iload_n 2, 1), (3, .invokevirtual 220, 3), (6, .ifCond .ne 5, 3), (9, .iconst 0, 1), (10, .ireturn, 1), (11, .aload_n 0, 1), (12, .getfield 25, 3), (15, .bipush 7, 2), (17, .iload_n 1, 1), (18, .iadd, 1), (19, .iaload, 1), (20, .istore_n 3, 1), (21, .aload_n 0, 1), (22, .getfield 25, 3), (25, .bipush 7, 2), (27, .iload_n 2, 1), (28, .iadd, 1), (29, .iaload, 1), (30, .istore 4, 2), (32, .aload_n 0, 1), (33, .iload_n 3, 1), (34, .invokevirtual 182, 3), (37, .aload_n 0, 1), (38, .getfield 7, 3), (41, .iload_n 3, 1), (42, .iaload, 1), (43, .if_icmp .gt 19, 3), (46, .aload_n 0, 1), (47, .iload 4, 2), (49, .invokevirtual 182, 3), (52, .aload_n 0, 1), (53, .getfield 7, 3), (56, .iload 4, 2), (58, .iaload, 1), (59, .if_icmp .le 7, 3), (62, .iconst 1, 1), (63, .goto 4, 3), (66, .iconst 0, 1), (67, .istore 5, 2), (69, .aload_n 0, 1), (70, .iload_n 3, 1), (71, .invokevirtual 182, 3), (74, .aload_n 0, 1), (75, .getfield 22, 3), (78, .iload_n 1, 1), (79, .iaload, 1), (80, .isub, 1), (81, .aload_n 0, 1), (82, .getfield 22, 3), (85, .iload_n 2, 1), (86, .iaload, 1), (87, .iadd, 1), (88, .aload_n 0, 1), (89, .getfield 7, 3), (92, .iload_n 3, 1), (93, .iaload, 1), (94, .if_icmp .gt 33, 3), (97, .aload_n 0, 1)]
theorem dd_X9_isLighter_1 : ∀ e ∈ D_X9_isLighter_1, decode (mtJ 168).2.1 e.1 = .ok e.2 := by decide +kernel
set_option maxRecDepth 10000 in
theorem so_X9_isLighter_1 : ∀ e ∈ o_X9_isLighter_1, SndO 168 e.1 e.2 := by
  refine List.forall_mem_cons.mpr ⟨s_aload_n (dd_X9_isLighter_1 (0, .aload_n 0, 1) (List.mem_of_getElem? (i := 0) rfl)) rfl, ?_⟩
  refine List.forall_mem_cons.mpr ⟨s_iload_n (dd_X9_isLighter_1 (1, .iload_n 1, 1) (List.mem_of_getElem? (i := 1) rfl)) rfl, ?_⟩
  refine List.forall_mem_cons.mpr ⟨s_iload_n (dd_X9_isLighter_1 (2, .iload_n 2, 1) (List.mem_of_getElem? (i := 2) rfl)) rfl, ?_⟩
  refine List.forall_mem_cons.mpr ⟨⟨s_callV (ci := 9) rfl mo149 rfl rfl (dd_X9_isLighter_1 (3, .invokevirtual 220, 3) (List.mem_of_getElem? (i := 3) rfl)) ow_X9_isLighter ml9_220 mi149 msl149 in_9 mn149, mo149⟩, ?_⟩
  refine List.forall_mem_cons.mpr ⟨s_if_ne (dd_X9_isLighter_1 (6, .ifCond .ne 5, 3) (List.mem_of_getElem? (i := 4) rfl)) (by decide), ?_⟩
  refine List.forall_mem_cons.mpr ⟨s_iconst (dd_X9_isLighter_1 (9, .iconst 0, 1) (List.mem_of_getElem? (i := 5) rfl)) rfl, ?_⟩
  refine List.forall_mem_cons.mpr ⟨Or.inr (Or.inr ⟨rfl, (dd_X9_isLighter_1 (10, .ireturn, 1) (List.mem_of_getElem? (i := 6) rfl)), rfl⟩), ?_⟩
  refine List.forall_mem_cons.mpr ⟨s_aload_n (dd_X9_isLighter_1 (11, .aload_n 0, 1) (List.mem_of_getElem? (i := 7) rfl)) rfl, ?_⟩
  refine List.forall_mem_cons.mpr ⟨s_getR (k := 9) K9 (by decide) (dd_X9_isLighter_1 (12, .getfield 25, 3) (List.mem_of_getElem? (i := 8) rfl)) ow_X9_isLighter fl9_25 rfl, ?_⟩
  refine List.forall_mem_cons.mpr ⟨s_bipush (dd_X9_isLighter_1 (15, .bipush 7, 2) (List.mem_of_getElem? (i := 9) rfl)) rfl, ?_⟩
  refine List.forall_mem_cons.mpr ⟨s_iload_n (dd_X9_isLighter_1 (17, .iload_n 1, 1) (List.mem_of_getElem? (i := 10) rfl)) rfl, ?_⟩
  refine List.forall_mem_cons.mpr ⟨s_iadd (dd_X9_isLighter_1 (18, .iadd, 1) (List.mem_of_getElem? (i := 11) rfl)), ?_⟩
  refine List.forall_mem_cons.mpr ⟨s_iald (dd_X9_isLighter_1 (19, .iaload, 1) (List.mem_of_getElem? (i := 12) rfl)), ?_⟩
  refine List.forall_mem_cons.mpr ⟨s_istore_n (dd_X9_isLighter_1 (20, .istore_n 3, 1) (List.mem_of_getElem? (i := 13) rfl)) rfl, ?_⟩
  refine List.forall_mem_cons.mpr ⟨s_aload_n (dd_X9_isLighter_1 (21, .aload_n 0, 1) (List.mem_of_getElem? (i := 14) rfl)) rfl, ?_⟩
  refine List.forall_mem_cons.mpr ⟨s_getR (k := 9) K9 (by decide) (dd_X9_isLighter_1 (22, .getfield 25, 3) (List.mem_of_getElem? (i := 15) rfl)) ow_X9_isLighter fl9_25 rfl, ?_⟩
  refine List.forall_mem_cons.mpr ⟨s_bipush (dd_X9_isLighter_1 (25, .bipush 7, 2) (List.mem_of_getElem? (i := 16) rfl)) rfl, ?_⟩
  refine List.forall_mem_cons.mpr ⟨s_iload_n (dd_X9_isLighter_1 (27, .iload_n 2, 1) (List.mem_of_getElem? (i := 17) rfl)) rfl, ?_⟩
  refine List.forall_mem_cons.mpr ⟨s_iadd (dd_X9_isLighter_1 (28, .iadd, 1) (List.mem_of_getElem? (i := 18) rfl)), ?_⟩
  refine List.forall_mem_cons.mpr ⟨s_iald (dd_X9_isLighter_1 (29, .iaload, 1) (List.mem_of_getElem? (i := 19) rfl)), ?_⟩
  refine List.forall_mem_cons.mpr ⟨s_istore (dd_X9_isLighter_1 (30, .istore 4, 2) (List.mem_of_getElem? (i := 20) rfl)), ?_⟩
  refine List.forall_mem_cons.mpr ⟨s_aload_n (dd_X9_isLighter_1 (32, .aload_n 0, 1) (List.mem_of_getElem? (i := 21) rfl)) rfl, ?_⟩
  refine List.forall_mem_cons.mpr ⟨s_iload_n (dd_X9_isLighter_1 (33, .iload_n 3, 1) (List.mem_of_getElem? (i := 22) rfl)) rfl, ?_⟩
  refine List.forall_mem_cons.mpr ⟨⟨s_callV (ci := 9) rfl mo136 rfl rfl (dd_X9_isLighter_1 (34, .invokevirtual 182, 3) (List.mem_of_getElem? (i := 23) rfl)) ow_X9_isLighter ml9_182 mi136 msl136 in_9 mn136, mo136⟩, ?_⟩
  refine List.forall_mem_cons.mpr ⟨s_aload_n (dd_X9_isLighter_1 (37, .aload_n 0, 1) (List.mem_of_getElem? (i := 24) rfl)) rfl, ?_⟩
  refine List.forall_mem_cons.mpr ⟨s_getR (k := 3) K9 (by decide) (dd_X9_isLighter_1 (38, .getfield 7, 3) (List.mem_of_getElem? (i := 25) rfl)) ow_X9_isLighter fl9_7 rfl, ?_⟩
  refine List.forall_mem_cons.mpr ⟨s_iload_n (dd_X9_isLighter_1 (41, .iload_n 3, 1) (List.mem_of_getElem? (i := 26) rfl)) rfl, ?_⟩
  refine List.forall_mem_cons.mpr ⟨s_iald (dd_X9_isLighter_1 (42, .iaload, 1) (List.mem_of_getElem? (i := 27) rfl)), ?_⟩
  refine List.forall_mem_cons.mpr ⟨s_icmp_gt (dd_X9_isLighter_1 (43, .if_icmp .gt 19, 3) (List.mem_of_getElem? (i := 28) rfl)) (by decide), ?_⟩
  refine List.forall_mem_cons.mpr ⟨s_aload_n (dd_X9_isLighter_1 (46, .aload_n 0, 1) (List.mem_of_getElem? (i := 29) rfl)) rfl, ?_⟩
  refine List.forall_mem_cons.mpr ⟨s_iload (dd_X9_isLighter_1 (47, .iload 4, 2) (List.mem_of_getElem? (i := 30) rfl)), ?_⟩
  refine List.forall_mem_cons.mpr ⟨⟨s_callV (ci := 9) rfl mo136 rfl rfl (dd_X9_isLighter_1 (49, .invokevirtual 182, 3) (List.mem_of_getElem? (i := 31) rfl)) ow_X9_isLighter ml9_182 mi136 msl136 in_9 mn136, mo136⟩, ?_⟩
  refine List.forall_mem_cons.mpr ⟨s_aload_n (dd_X9_isLighter_1 (52, .aload_n 0, 1) (List.mem_of_getElem? (i := 32) rfl)) rfl, ?_⟩
  refine List.forall_mem_cons.mpr ⟨s_getR (k := 3) K9 (by decide) (dd_X9_isLighter_1 (53, .getfield 7, 3) (List.mem_of_getElem? (i := 33) rfl)) ow_X9_isLighter fl9_7 rfl, ?_⟩
  refine List.forall_mem_cons.mpr ⟨s_iload (dd_X9_isLighter_1 (56, .iload 4, 2) (List.mem_of_getElem? (i := 34) rfl)), ?_⟩
  refine List.forall_mem_cons.mpr ⟨s_iald (dd_X9_isLighter_1 (58, .iaload, 1) (List.mem_of_getElem? (i := 35) rfl)), ?_⟩
  refine List.forall_mem_cons.mpr ⟨s_icmp_le (dd_X9_isLighter_1 (59, .if_icmp .le 7, 3) (List.mem_of_getElem? (i := 36) rfl)) (by decide), ?_⟩
  refine List.forall_mem_cons.mpr ⟨s_iconst (dd_X9_isLighter_1 (62, .iconst 1, 1) (List.mem_of_getElem? (i := 37) rfl)) rfl, ?_⟩
  refine List.forall_mem_cons.mpr ⟨s_goto (dd_X9_isLighter_1 (63, .goto 4, 3) (List.mem_of_getElem? (i := 38) rfl)) (by decide), ?_⟩
  refine List.forall_mem_cons.mpr ⟨s_iconst (dd_X9_isLighter_1 (66, .iconst 0, 1) (List.mem_of_getElem? (i := 39) rfl)) rfl, ?_⟩
  refine List.forall_mem_cons.mpr ⟨s_istore (dd_X9_isLighter_1 (67, .istore 5, 2) (List.mem_of_getElem? (i := 40) rfl)), ?_⟩
  refine List.forall_mem_cons.mpr ⟨s_aload_n (dd_X9_isLighter_1 (69, .aload_n 0, 1) (List.mem_of_getElem? (i := 41) rfl)) rfl, ?_⟩
  refine List.forall_mem_cons.mpr ⟨s_iload_n (dd_X9_isLighter_1 (70, .iload_n 3, 1) (List.mem_of_getElem? (i := 42) rfl)) rfl, ?_⟩
  refine List.forall_mem_cons.mpr ⟨⟨s_callV (ci := 9) rfl mo136 rfl rfl (dd_X9_isLighter_1 (71, .invokevirtual 182, 3) (List.mem_of_getElem? (i := 43) rfl)) ow_X9_isLighter ml9_182 mi136 msl136 in_9 mn136, mo136⟩, ?_⟩
  refine List.forall_mem_cons.mpr ⟨s_aload_n (dd_X9_isLighter_1 (74, .aload_n 0, 1) (List.mem_of_getElem? (i := 44) rfl)) rfl, ?_⟩
  refine List.forall_mem_cons.mpr ⟨s_getR (k := 8) K9 (by decide) (dd_X9_isLighter_1 (75, .getfield 22, 3) (List.mem_of_getElem? (i := 45) rfl)) ow_X9_isLighter fl9_22 rfl, ?_⟩
  refine List.forall_mem_cons.mpr ⟨s_iload_n (dd_X9_isLighter_1 (78, .iload_n 1, 1) (List.mem_of_getElem? (i := 46) rfl)) rfl, ?_⟩
  refine List.forall_mem_cons.mpr ⟨s_iald (dd_X9_isLighter_1 (79, .iaload, 1) (List.mem_of_getElem? (i := 47) rfl)), ?_⟩
  refine List.forall_mem_cons.mpr ⟨s_isub (dd_X9_isLighter_1 (80, .isub, 1) (List.mem_of_getElem? (i := 48) rfl)), ?_⟩
  refine List.forall_mem_cons.mpr ⟨s_aload_n (dd_X9_isLighter_1 (81, .aload_n 0, 1) (List.mem_of_getElem? (i := 49) rfl)) rfl, ?_⟩
  refine List.forall_mem_cons.mpr ⟨s_getR (k := 8) K9 (by decide) (dd_X9_isLighter_1 (82, .getfield 22, 3) (List.mem_of_getElem? (i := 50) rfl)) ow_X9_isLighter fl9_22 rfl, ?_⟩
  refine List.forall_mem_cons.mpr ⟨s_iload_n (dd_X9_isLighter_1 (85, .iload_n 2, 1) (List.mem_of_getElem? (i := 51) rfl)) rfl, ?_⟩
  refine List.forall_mem_cons.mpr ⟨s_iald (dd_X9_isLighter_1 (86, .iaload, 1) (List.mem_of_getElem? (i := 52) rfl)), ?_⟩
  refine List.forall_mem_cons.mpr ⟨s_iadd (dd_X9_isLighter_1 (87, .iadd, 1) (List.mem_of_getElem? (i := 53) rfl)), ?_⟩
  refine List.forall_mem_cons.mpr ⟨s_aload_n (dd_X9_isLighter_1 (88, .aload_n 0, 1) (List.mem_of_getElem? (i := 54) rfl)) rfl, ?_⟩
  refine List.forall_mem_cons.mpr ⟨s_getR (k := 3) K9 (by decide) (dd_X9_isLighter_1 (89, .getfield 7, 3) (List.mem_of_getElem? (i := 55) rfl)) ow_X9_isLighter fl9_7 rfl, ?_⟩
  refine List.forall_mem_cons.mpr ⟨s_iload_n (dd_X9_isLighter_1 (92, .iload_n 3, 1) (List.mem_of_getElem? (i := 56) rfl)) rfl, ?_⟩
  refine List.forall_mem_cons.mpr ⟨s_iald (dd_X9_isLighter_1 (93, .iaload, 1) (List.mem_of_getElem? (i := 57) rfl)), ?_⟩
  refine List.forall_mem_cons.mpr ⟨s_icmp_gt (dd_X9_isLighter_1 (94, .if_icmp .gt 33, 3) (List.mem_of_getElem? (i := 58) rfl)) (by decide), ?_⟩
  refine List.forall_mem_cons.mpr ⟨s_aload_n (dd_X9_isLighter_1 (97, .aload_n 0, 1) (List.mem_of_getElem? (i := 59) rfl)) rfl, ?_⟩
  exact fun _ h => absurd h List.not_mem_nil
def D_X9_isLighter_2 : List (Nat × Instr × Nat) := [(98, .iload 4, 2), (100, .invokevirtual 182, 3), (103, .aload_n 0, 1), (104, .getfield 22, 3), (107, .iload_n 2, 1), (108, .iaload, 1), (109, .isub, 1), (110, .aload_n 0, 1), (111, .getfield 22, 3), (114, .iload_n 1, 1), (115, .iaload, 1), (116, .iadd, 1), (117, .aload_n 0, 1), (118, .getfield 7, 3), (121, .iload 4, 2), (123, .iaload, 1), (124, .if_icmp .le 7, 3), (127, .iconst 1, 1), (128, .goto 4, 3), (131, .iconst 0, 1), (132, .istore 6, 2), (134, .iload 5, 2), (136, .ifCond .eq 12, 3), (139, .iload 6, 2), (141, .ifCond .ne 7, 3), (144, .iconst 1, 1), (145, .goto 4, 3), (148, .iconst 0, 1), (149, .ireturn, 1)]
theorem dd_X9_isLighter_2 : ∀ e ∈ D_X9_isLighter_2, decode (mtJ 168).2.1 e.1 = .ok e.2 := by decide +kernel
set_option maxRecDepth 10000 in
theorem so_X9_isLighter_2 : ∀ e ∈ o_X9_isLighter_2, SndO 168 e.1 e.2 := by
  refine List.forall_mem_cons.mpr ⟨s_iload (dd_X9_isLighter_2 (98, .iload 4, 2) (List.mem_of_getElem? (i := 0) rfl)), ?_⟩
  refine List.forall_mem_cons.mpr ⟨⟨s_callV (ci := 9) rfl mo136 rfl rfl (dd_X9_isLighter_2 (100, .invokevirtual 182, 3) (List.mem_of_getElem? (i := 1) rfl)) ow_X9_isLighter ml9_182 mi136 msl136 in_9 mn136, mo136⟩, ?_⟩
  refine List.forall_mem_cons.mpr ⟨s_aload_n (dd_X9_isLighter_2 (103, .aload_n 0, 1) (List.mem_of_getElem? (i := 2) rfl)) rfl, ?_⟩
  refine List.forall_mem_cons.mpr ⟨s_getR (k := 8) K9 (by decide) (dd_X9_isLighter_2 (104, .getfield 22, 3) (List.mem_of_getElem? (i := 3) rfl)) ow_X9_isLighter fl9_22 rfl, ?_⟩
  refine List.forall_mem_cons.mpr ⟨s_iload_n (dd_X9_isLighter_2 (107, .iload_n 2, 1) (List.mem_of_getElem? (i := 4) rfl)) rfl, ?_⟩
  refine List.forall_mem_cons.mpr ⟨s_iald (dd_X9_isLighter_2 (108, .iaload, 1) (List.mem_of_getElem? (i := 5) rfl)), ?_⟩
  refine List.forall_mem_cons.mpr ⟨s_isub (dd_X9_isLighter_2 (109, .isub, 1) (List.mem_of_getElem? (i := 6) rfl)), ?_⟩
  refine List.forall_mem_cons.mpr ⟨s_aload_n (dd_X9_isLighter_2 (110, .aload_n 0, 1) (List.mem_of_getElem? (i := 7) rfl)) rfl, ?_⟩
  refine List.forall_mem_cons.mpr ⟨s_getR (k := 8) K9 (by decide) (dd_X9_isLighter_2 (111, .getfield 22, 3) (List.mem_of_getElem? (i := 8) rfl)) ow_X9_isLighter fl9_22 rfl, ?_⟩
  refine List.forall_mem_cons.mpr ⟨s_iload_n (dd_X9_isLighter_2 (114, .iload_n 1, 1) (List.mem_of_getElem? (i := 9) rfl)) rfl, ?_⟩
  refine List.forall_mem_cons.mpr ⟨s_iald (dd_X9_isLighter_2 (115, .iaload, 1) (List.mem_of_getElem? (i := 10) rfl)), ?_⟩
  refine List.forall_mem_cons.mpr ⟨s_iadd (dd_X9_isLighter_2 (116, .iadd, 1) (List.mem_of_getElem? (i := 11) rfl)), ?_⟩
  refine List.forall_mem_cons.mpr ⟨s_aload_n (dd_X9_isLighter_2 (117, .aload_n 0, 1) (List.mem_of_getElem? (i := 12) rfl)) rfl, ?_⟩
  refine List.forall_mem_cons.mpr ⟨s_getR (k := 3) K9 (by decide) (dd_X9_isLighter_2 (118, .getfield 7, 3) (List.mem_of_getElem? (i := 13) rfl)) ow_X9_isLighter fl9_7 rfl, ?_⟩
  refine List.forall_mem_cons.mpr ⟨s_iload (dd_X9_isLighter_2 (121, .iload 4, 2) (List.mem_of_getElem? (i := 14) rfl)), ?_⟩
  refine List.forall_mem_cons.mpr ⟨s_iald (dd_X9_isLighter_2 (123, .iaload, 1) (List.mem_of_getElem? (i := 15) rfl)), ?_⟩
  refine List.forall_mem_cons.mpr ⟨s_icmp_le (dd_X9_isLighter_2 (124, .if_icmp .le 7, 3) (List.mem_of_getElem? (i := 16) rfl)) (by decide), ?_⟩
  refine List.forall_mem_cons.mpr ⟨s_iconst (dd_X9_isLighter_2 (127, .iconst 1, 1) (List.mem_of_getElem? (i := 17) rfl)) rfl, ?_⟩
  refine List.forall_mem_cons.mpr ⟨s_goto (dd_X9_isLighter_2 (128, .goto 4, 3) (List.mem_of_getElem? (i := 18) rfl)) (by decide), ?_⟩
  refine List.forall_mem_cons.mpr ⟨s_iconst (dd_X9_isLighter_2 (131, .iconst 0, 1) (List.mem_of_getElem? (i := 19) rfl)) rfl, ?_⟩
  refine List.forall_mem_cons.mpr ⟨s_istore (dd_X9_isLighter_2 (132, .istore 6, 2) (List.mem_of_getElem? (i := 20) rfl)), ?_⟩
  refine List.forall_mem_cons.mpr ⟨s_iload (dd_X9_isLighter_2 (134, .iload 5, 2) (List.mem_of_getElem? (i := 21) rfl)), ?_⟩
  refine List.forall_mem_cons.mpr ⟨s_if_eq (dd_X9_isLighter_2 (136, .ifCond .eq 12, 3) (List.mem_of_getElem? (i := 22) rfl)) (by decide), ?_⟩
  refine List.forall_mem_cons.mpr ⟨s_iload (dd_X9_isLighter_2 (139, .iload 6, 2) (List.mem_of_getElem? (i := 23) rfl)), ?_⟩
  refine List.forall_mem_cons.mpr ⟨s_if_ne (dd_X9_isLighter_2 (141, .ifCond .ne 7, 3) (List.mem_of_getElem? (i := 24) rfl)) (by decide), ?_⟩
  refine List.forall_mem_cons.mpr ⟨s_iconst (dd_X9_isLighter_2 (144, .iconst 1, 1) (List.mem_of_getElem? (i := 25) rfl)) rfl, ?_⟩
  refine List.forall_mem_cons.mpr ⟨s_goto (dd_X9_isLighter_2 (145, .goto 4, 3) (List.mem_of_getElem? (i := 26) rfl)) (by decide), ?_⟩
  refine List.forall_mem_cons.mpr ⟨s_iconst (dd_X9_isLighter_2 (148, .iconst 0, 1) (List.mem_of_getElem? (i := 27) rfl)) rfl, ?_⟩
  refine List.forall_mem_cons.mpr ⟨Or.inr (Or.inr ⟨rfl, (dd_X9_isLighter_2 (149, .ireturn, 1) (List.mem_of_getElem? (i := 28) rfl)), rfl⟩), ?_⟩
  exact fun _ h => absurd h List.not_mem_nil
theorem so_X9_isLighter : ∀ e ∈ o_X9_isLighter, SndO 168 e.1 e.2 := List.forall_mem_append.mpr ⟨so_X9_isLighter_1, so_X9_isLighter_2⟩
theorem ow_X9_lighter : (mtJ 169).1.cls = "SatchelSinsModel" := rfl
def D_X9_lighter : List (Nat × Instr × Nat) := [(0, .iconst 0, 1), (1, .istore_n 2, 1), (2, .iconst 0, 1), (3, .istore_n 3, 1), (4, .iload_n 3, 1), (5, .bipush 49, 2), (7, .if_icmp .ge 65, 3), (10, .iload_n 3, 1), (11, .bipush 7, 2), (13, .idiv, 1), (14, .istore 4, 2), (16, .iload_n 3, 1), (17, .bipush 7, 2), (19, .irem, 1), (20, .istore 5, 2), (22, .iload 4, 2), (24, .iload 5, 2), (26, .if_icmp .ge 40, 3), (29, .iload 5, 2), (31, .aload_n 0, 1), (32, .getfield 98, 3), (35, .if_icmp .ge 31, 3), (38, .aload_n 0, 1), (39, .iload 4, 2), (41, .iload 5, 2), (43, .invokevirtual 270, 3), (46, .ifCond .eq 20, 3), (49, .iload_n 2, 1), (50, .iload_n 1, 1), (51, .if_icmp .ne 12, 3), (54, .bipush 10, 2), (56, .iload 4, 2), (58, .imul, 1), (59, .iload 5, 2), (61, .iadd, 1), (62, .ireturn, 1), (63, .iinc 2 1, 3), (66, .iinc 3 1, 3), (69, .goto (-65), 3), (72, .iload_n 1, 1), (73, .iconst (-1), 1), (74, .if_icmp .ne 7, 3), (77, .iload_n 2, 1), (78, .goto 4, 3), (81, .iconst (-1), 1), (82, .ireturn, 1)]
theorem dd_X9_lighter : ∀ e ∈ D_X9_lighter, decode (mtJ 169).2.1 e.1 = .ok e.2 := by decide +kernel
set_option maxRecDepth 10000 in
theorem so_X9_lighter : ∀ e ∈ o_X9_lighter, SndO 169 e.1 e.2 := by
  refine List.forall_mem_cons.mpr ⟨s_iconst (dd_X9_lighter (0, .iconst 0, 1) (List.mem_of_getElem? (i := 0) rfl)) rfl, ?_⟩
  refine List.forall_mem_cons.mpr ⟨s_istore_n (dd_X9_lighter (1, .istore_n 2, 1) (List.mem_of_getElem? (i := 1) rfl)) rfl, ?_⟩
  refine List.forall_mem_cons.mpr ⟨s_iconst (dd_X9_lighter (2, .iconst 0, 1) (List.mem_of_getElem? (i := 2) rfl)) rfl, ?_⟩
  refine List.forall_mem_cons.mpr ⟨s_istore_n (dd_X9_lighter (3, .istore_n 3, 1) (List.mem_of_getElem? (i := 3) rfl)) rfl, ?_⟩
  refine List.forall_mem_cons.mpr ⟨s_iload_n (dd_X9_lighter (4, .iload_n 3, 1) (List.mem_of_getElem? (i := 4) rfl)) rfl, ?_⟩
  refine List.forall_mem_cons.mpr ⟨s_bipush (dd_X9_lighter (5, .bipush 49, 2) (List.mem_of_getElem? (i := 5) rfl)) rfl, ?_⟩
  refine List.forall_mem_cons.mpr ⟨s_icmp_ge (dd_X9_lighter (7, .if_icmp .ge 65, 3) (List.mem_of_getElem? (i := 6) rfl)) (by decide), ?_⟩
  refine List.forall_mem_cons.mpr ⟨s_iload_n (dd_X9_lighter (10, .iload_n 3, 1) (List.mem_of_getElem? (i := 7) rfl)) rfl, ?_⟩
  refine List.forall_mem_cons.mpr ⟨s_bipush (dd_X9_lighter (11, .bipush 7, 2) (List.mem_of_getElem? (i := 8) rfl)) rfl, ?_⟩
  refine List.forall_mem_cons.mpr ⟨s_idiv (dd_X9_lighter (13, .idiv, 1) (List.mem_of_getElem? (i := 9) rfl)), ?_⟩
  refine List.forall_mem_cons.mpr ⟨s_istore (dd_X9_lighter (14, .istore 4, 2) (List.mem_of_getElem? (i := 10) rfl)), ?_⟩
  refine List.forall_mem_cons.mpr ⟨s_iload_n (dd_X9_lighter (16, .iload_n 3, 1) (List.mem_of_getElem? (i := 11) rfl)) rfl, ?_⟩
  refine List.forall_mem_cons.mpr ⟨s_bipush (dd_X9_lighter (17, .bipush 7, 2) (List.mem_of_getElem? (i := 12) rfl)) rfl, ?_⟩
  refine List.forall_mem_cons.mpr ⟨s_irem (dd_X9_lighter (19, .irem, 1) (List.mem_of_getElem? (i := 13) rfl)), ?_⟩
  refine List.forall_mem_cons.mpr ⟨s_istore (dd_X9_lighter (20, .istore 5, 2) (List.mem_of_getElem? (i := 14) rfl)), ?_⟩
  refine List.forall_mem_cons.mpr ⟨s_iload (dd_X9_lighter (22, .iload 4, 2) (List.mem_of_getElem? (i := 15) rfl)), ?_⟩
  refine List.forall_mem_cons.mpr ⟨s_iload (dd_X9_lighter (24, .iload 5, 2) (List.mem_of_getElem? (i := 16) rfl)), ?_⟩
  refine List.forall_mem_cons.mpr ⟨s_icmp_ge (dd_X9_lighter (26, .if_icmp .ge 40, 3) (List.mem_of_getElem? (i := 17) rfl)) (by decide), ?_⟩
  refine List.forall_mem_cons.mpr ⟨s_iload (dd_X9_lighter (29, .iload 5, 2) (List.mem_of_getElem? (i := 18) rfl)), ?_⟩
  refine List.forall_mem_cons.mpr ⟨s_aload_n (dd_X9_lighter (31, .aload_n 0, 1) (List.mem_of_getElem? (i := 19) rfl)) rfl, ?_⟩
  refine List.forall_mem_cons.mpr ⟨s_getI (k := 6) K9 (by decide) (dd_X9_lighter (32, .getfield 98, 3) (List.mem_of_getElem? (i := 20) rfl)) ow_X9_lighter fl9_98 rfl, ?_⟩
  refine List.forall_mem_cons.mpr ⟨s_icmp_ge (dd_X9_lighter (35, .if_icmp .ge 31, 3) (List.mem_of_getElem? (i := 21) rfl)) (by decide), ?_⟩
  refine List.forall_mem_cons.mpr ⟨s_aload_n (dd_X9_lighter (38, .aload_n 0, 1) (List.mem_of_getElem? (i := 22) rfl)) rfl, ?_⟩
  refine List.forall_mem_cons.mpr ⟨s_iload (dd_X9_lighter (39, .iload 4, 2) (List.mem_of_getElem? (i := 23) rfl)), ?_⟩
  refine List.forall_mem_cons.mpr ⟨s_iload (dd_X9_lighter (41, .iload 5, 2) (List.mem_of_getElem? (i := 24) rfl)), ?_⟩
  refine List.forall_mem_cons.mpr ⟨⟨s_callV (ci := 9) rfl mo168 rfl rfl (dd_X9_lighter (43, .invokevirtual 270, 3) (List.mem_of_getElem? (i := 25) rfl)) ow_X9_lighter ml9_270 mi168 msl168 in_9 mn168, mo168⟩, ?_⟩
  refine List.forall_mem_cons.mpr ⟨s_if_eq (dd_X9_lighter (46, .ifCond .eq 20, 3) (List.mem_of_getElem? (i := 26) rfl)) (by decide), ?_⟩
  refine List.forall_mem_cons.mpr ⟨s_iload_n (dd_X9_lighter (49, .iload_n 2, 1) (List.mem_of_getElem? (i := 27) rfl)) rfl, ?_⟩
  refine List.forall_mem_cons.mpr ⟨s_iload_n (dd_X9_lighter (50, .iload_n 1, 1) (List.mem_of_getElem? (i := 28) rfl)) rfl, ?_⟩
  refine List.forall_mem_cons.mpr ⟨s_icmp_ne (dd_X9_lighter (51, .if_icmp .ne 12, 3) (List.mem_of_getElem? (i := 29) rfl)) (by decide), ?_⟩
  refine List.forall_mem_cons.mpr ⟨s_bipush (dd_X9_lighter (54, .bipush 10, 2) (List.mem_of_getElem? (i := 30) rfl)) rfl, ?_⟩
  refine List.forall_mem_cons.mpr ⟨s_iload (dd_X9_lighter (56, .iload 4, 2) (List.mem_of_getElem? (i := 31) rfl)), ?_⟩
  refine List.forall_mem_cons.mpr ⟨s_imul (dd_X9_lighter (58, .imul, 1) (List.mem_of_getElem? (i := 32) rfl)), ?_⟩
  refine List.forall_mem_cons.mpr ⟨s_iload (dd_X9_lighter (59, .iload 5, 2) (List.mem_of_getElem? (i := 33) rfl)), ?_⟩
  refine List.forall_mem_cons.mpr ⟨s_iadd (dd_X9_lighter (61, .iadd, 1) (List.mem_of_getElem? (i := 34) rfl)), ?_⟩
  refine List.forall_mem_cons.mpr ⟨Or.inr (Or.inl ⟨rfl, (dd_X9_lighter (62, .ireturn, 1) (List.mem_of_getElem? (i := 35) rfl)), rfl⟩), ?_⟩
  refine List.forall_mem_cons.mpr ⟨s_iinc (dd_X9_lighter (63, .iinc 2 1, 3) (List.mem_of_getElem? (i := 36) rfl)) rfl, ?_⟩
  refine List.forall_mem_cons.mpr ⟨s_iinc (dd_X9_lighter (66, .iinc 3 1, 3) (List.mem_of_getElem? (i := 37) rfl)) rfl, ?_⟩
  refine List.forall_mem_cons.mpr ⟨s_goto (dd_X9_lighter (69, .goto (-65), 3) (List.mem_of_getElem? (i := 38) rfl)) (by decide), ?_⟩
  refine List.forall_mem_cons.mpr ⟨s_iload_n (dd_X9_lighter (72, .iload_n 1, 1) (List.mem_of_getElem? (i := 39) rfl)) rfl, ?_⟩
  refine List.forall_mem_cons.mpr ⟨s_iconst (dd_X9_lighter (73, .iconst (-1), 1) (List.mem_of_getElem? (i := 40) rfl)) rfl, ?_⟩
  refine List.forall_mem_cons.mpr ⟨s_icmp_ne (dd_X9_lighter (74, .if_icmp .ne 7, 3) (List.mem_of_getElem? (i := 41) rfl)) (by decide), ?_⟩
  refine List.forall_mem_cons.mpr ⟨s_iload_n (dd_X9_lighter (77, .iload_n 2, 1) (List.mem_of_getElem? (i := 42) rfl)) rfl, ?_⟩
  refine List.forall_mem_cons.mpr ⟨s_goto (dd_X9_lighter (78, .goto 4, 3) (List.mem_of_getElem? (i := 43) rfl)) (by decide), ?_⟩
  refine List.forall_mem_cons.mpr ⟨s_iconst (dd_X9_lighter (81, .iconst (-1), 1) (List.mem_of_getElem? (i := 44) rfl)) rfl, ?_⟩
  refine List.forall_mem_cons.mpr ⟨Or.inr (Or.inl ⟨rfl, (dd_X9_lighter (82, .ireturn, 1) (List.mem_of_getElem? (i := 45) rfl)), rfl⟩), ?_⟩
  exact fun _ h => absurd h List.not_mem_nil
theorem ow_X9_weightOf : (mtJ 170).1.cls = "SatchelSinsModel" := rfl
def D_X9_weightOf : List (Nat × Instr × Nat) := [(0, .iconst 0, 1), (1, .istore_n 2, 1), (2, .iconst 0, 1), (3, .istore_n 3, 1), (4, .iload_n 3, 1), (5, .aload_n 0, 1), (6, .getfield 98, 3), (9, .if_icmp .ge 30, 3), (12, .iload_n 2, 1), (13, .iload_n 1, 1), (14, .iload_n 3, 1), (15, .invokestatic 273, 3), (18, .ifCond .eq 12, 3), (21, .aload_n 0, 1), (22, .getfield 22, 3), (25, .iload_n 3, 1), (26, .iaload, 1), (27, .goto 4, 3), (30, .iconst 0, 1), (31, .iadd, 1), (32, .istore_n 2, 1), (33, .iinc 3 1, 3), (36, .goto (-32), 3), (39, .iload_n 2, 1), (40, .ireturn, 1)]
theorem dd_X9_weightOf : ∀ e ∈ D_X9_weightOf, decode (mtJ 170).2.1 e.1 = .ok e.2 := by decide +kernel
set_option maxRecDepth 10000 in
theorem so_X9_weightOf : ∀ e ∈ o_X9_weightOf, SndO 170 e.1 e.2 := by
  refine List.forall_mem_cons.mpr ⟨s_iconst (dd_X9_weightOf (0, .iconst 0, 1) (List.mem_of_getElem? (i := 0) rfl)) rfl, ?_⟩
  refine List.forall_mem_cons.mpr ⟨s_istore_n (dd_X9_weightOf (1, .istore_n 2, 1) (List.mem_of_getElem? (i := 1) rfl)) rfl, ?_⟩
  refine List.forall_mem_cons.mpr ⟨s_iconst (dd_X9_weightOf (2, .iconst 0, 1) (List.mem_of_getElem? (i := 2) rfl)) rfl, ?_⟩
  refine List.forall_mem_cons.mpr ⟨s_istore_n (dd_X9_weightOf (3, .istore_n 3, 1) (List.mem_of_getElem? (i := 3) rfl)) rfl, ?_⟩
  refine List.forall_mem_cons.mpr ⟨s_iload_n (dd_X9_weightOf (4, .iload_n 3, 1) (List.mem_of_getElem? (i := 4) rfl)) rfl, ?_⟩
  refine List.forall_mem_cons.mpr ⟨s_aload_n (dd_X9_weightOf (5, .aload_n 0, 1) (List.mem_of_getElem? (i := 5) rfl)) rfl, ?_⟩
  refine List.forall_mem_cons.mpr ⟨s_getI (k := 6) K9 (by decide) (dd_X9_weightOf (6, .getfield 98, 3) (List.mem_of_getElem? (i := 6) rfl)) ow_X9_weightOf fl9_98 rfl, ?_⟩
  refine List.forall_mem_cons.mpr ⟨s_icmp_ge (dd_X9_weightOf (9, .if_icmp .ge 30, 3) (List.mem_of_getElem? (i := 7) rfl)) (by decide), ?_⟩
  refine List.forall_mem_cons.mpr ⟨s_iload_n (dd_X9_weightOf (12, .iload_n 2, 1) (List.mem_of_getElem? (i := 8) rfl)) rfl, ?_⟩
  refine List.forall_mem_cons.mpr ⟨s_iload_n (dd_X9_weightOf (13, .iload_n 1, 1) (List.mem_of_getElem? (i := 9) rfl)) rfl, ?_⟩
  refine List.forall_mem_cons.mpr ⟨s_iload_n (dd_X9_weightOf (14, .iload_n 3, 1) (List.mem_of_getElem? (i := 10) rfl)) rfl, ?_⟩
  refine List.forall_mem_cons.mpr ⟨⟨s_callS mo118 rfl (dd_X9_weightOf (15, .invokestatic 273, 3) (List.mem_of_getElem? (i := 11) rfl)) ow_X9_weightOf ml9_273 ms118 mn118, mo118⟩, ?_⟩
  refine List.forall_mem_cons.mpr ⟨s_if_eq (dd_X9_weightOf (18, .ifCond .eq 12, 3) (List.mem_of_getElem? (i := 12) rfl)) (by decide), ?_⟩
  refine List.forall_mem_cons.mpr ⟨s_aload_n (dd_X9_weightOf (21, .aload_n 0, 1) (List.mem_of_getElem? (i := 13) rfl)) rfl, ?_⟩
  refine List.forall_mem_cons.mpr ⟨s_getR (k := 8) K9 (by decide) (dd_X9_weightOf (22, .getfield 22, 3) (List.mem_of_getElem? (i := 14) rfl)) ow_X9_weightOf fl9_22 rfl, ?_⟩
  refine List.forall_mem_cons.mpr ⟨s_iload_n (dd_X9_weightOf (25, .iload_n 3, 1) (List.mem_of_getElem? (i := 15) rfl)) rfl, ?_⟩
  refine List.forall_mem_cons.mpr ⟨s_iald (dd_X9_weightOf (26, .iaload, 1) (List.mem_of_getElem? (i := 16) rfl)), ?_⟩
  refine List.forall_mem_cons.mpr ⟨s_goto (dd_X9_weightOf (27, .goto 4, 3) (List.mem_of_getElem? (i := 17) rfl)) (by decide), ?_⟩
  refine List.forall_mem_cons.mpr ⟨s_iconst (dd_X9_weightOf (30, .iconst 0, 1) (List.mem_of_getElem? (i := 18) rfl)) rfl, ?_⟩
  refine List.forall_mem_cons.mpr ⟨s_iadd (dd_X9_weightOf (31, .iadd, 1) (List.mem_of_getElem? (i := 19) rfl)), ?_⟩
  refine List.forall_mem_cons.mpr ⟨s_istore_n (dd_X9_weightOf (32, .istore_n 2, 1) (List.mem_of_getElem? (i := 20) rfl)) rfl, ?_⟩
  refine List.forall_mem_cons.mpr ⟨s_iinc (dd_X9_weightOf (33, .iinc 3 1, 3) (List.mem_of_getElem? (i := 21) rfl)) rfl, ?_⟩
  refine List.forall_mem_cons.mpr ⟨s_goto (dd_X9_weightOf (36, .goto (-32), 3) (List.mem_of_getElem? (i := 22) rfl)) (by decide), ?_⟩
  refine List.forall_mem_cons.mpr ⟨s_iload_n (dd_X9_weightOf (39, .iload_n 2, 1) (List.mem_of_getElem? (i := 23) rfl)) rfl, ?_⟩
  refine List.forall_mem_cons.mpr ⟨Or.inr (Or.inl ⟨rfl, (dd_X9_weightOf (40, .ireturn, 1) (List.mem_of_getElem? (i := 24) rfl)), rfl⟩), ?_⟩
  exact fun _ h => absurd h List.not_mem_nil
theorem ow_X9_lookFor : (mtJ 171).1.cls = "SatchelSinsModel" := rfl
def D_X9_lookFor : List (Nat × Instr × Nat) := [(0, .iconst (-1), 1), (1, .istore_n 2, 1), (2, .iload_n 1, 1), (3, .istore_n 3, 1), (4, .iconst 0, 1), (5, .istore 4, 2), (7, .iload 4, 2), (9, .aload_n 0, 1), (10, .getfield 98, 3), (13, .if_icmp .ge 75, 3), (16, .aload_n 0, 1), (17, .getfield 62, 3), (20, .iload 4, 2), (22, .iaload, 1), (23, .iload_n 1, 1), (24, .aload_n 0, 1), (25, .getfield 62, 3), (28, .iload 4, 2), (30, .iaload, 1), (31, .isub, 1), (32, .if_icmp .le 13, 3), (35, .aload_n 0, 1), (36, .getfield 62, 3), (39, .iload 4, 2), (41, .iaload, 1), (42, .goto 12, 3), (45, .iload_n 1, 1), (46, .aload_n 0, 1), (47, .getfield 62, 3), (50, .iload 4, 2), (52, .iaload, 1), (53, .isub, 1), (54, .istore 5, 2), (56, .iload 5, 2), (58, .iload_n 3, 1), (59, .if_icmp .ge 8, 3), (62, .iload 4, 2), (64, .goto 4, 3), (67, .iload_n 2, 1), (68, .istore_n 2, 1), (69, .iload 5, 2), (71, .iload_n 3, 1), (72, .if_icmp .ge 8, 3), (75, .iload 5, 2), (77, .goto 4, 3), (80, .iload_n 3, 1), (81, .istore_n 3, 1), (82, .iinc 4 1, 3), (85, .goto (-78), 3), (88, .iload_n 2, 1), (89, .ireturn, 1)]
theorem dd_X9_lookFor : ∀ e ∈ D_X9_lookFor, decode (mtJ 171).2.1 e.1 = .ok e.2 := by decide +kernel
set_option maxRecDepth 10000 in
theorem so_X9_lookFor : ∀ e ∈ o_X9_lookFor, SndO 171 e.1 e.2 := by
  refine List.forall_mem_cons.mpr ⟨s_iconst (dd_X9_lookFor (0, .iconst (-1), 1) (List.mem_of_getElem? (i := 0) rfl)) rfl, ?_⟩
  refine List.forall_mem_cons.mpr ⟨s_istore_n (dd_X9_lookFor (1, .istore_n 2, 1) (List.mem_of_getElem? (i := 1) rfl)) rfl, ?_⟩
  refine List.forall_mem_cons.mpr ⟨s_iload_n (dd_X9_lookFor (2, .iload_n 1, 1) (List.mem_of_getElem? (i := 2) rfl)) rfl, ?_⟩
  refine List.forall_mem_cons.mpr ⟨s_istore_n (dd_X9_lookFor (3, .istore_n 3, 1) (List.mem_of_getElem? (i := 3) rfl)) rfl, ?_⟩
  refine List.forall_mem_cons.mpr ⟨s_iconst (dd_X9_lookFor (4, .iconst 0, 1) (List.mem_of_getElem? (i := 4) rfl)) rfl, ?_⟩
  refine List.forall_mem_cons.mpr ⟨s_istore (dd_X9_lookFor (5, .istore 4, 2) (List.mem_of_getElem? (i := 5) rfl)), ?_⟩
  refine List.forall_mem_cons.mpr ⟨s_iload (dd_X9_lookFor (7, .iload 4, 2) (List.mem_of_getElem? (i := 6) rfl)), ?_⟩
  refine List.forall_mem_cons.mpr ⟨s_aload_n (dd_X9_lookFor (9, .aload_n 0, 1) (List.mem_of_getElem? (i := 7) rfl)) rfl, ?_⟩
  refine List.forall_mem_cons.mpr ⟨s_getI (k := 6) K9 (by decide) (dd_X9_lookFor (10, .getfield 98, 3) (List.mem_of_getElem? (i := 8) rfl)) ow_X9_lookFor fl9_98 rfl, ?_⟩
  refine List.forall_mem_cons.mpr ⟨s_icmp_ge (dd_X9_lookFor (13, .if_icmp .ge 75, 3) (List.mem_of_getElem? (i := 9) rfl)) (by decide), ?_⟩
  refine List.forall_mem_cons.mpr ⟨s_aload_n (dd_X9_lookFor (16, .aload_n 0, 1) (List.mem_of_getElem? (i := 10) rfl)) rfl, ?_⟩
  refine List.forall_mem_cons.mpr ⟨s_getR (k := 31) K9 (by decide) (dd_X9_lookFor (17, .getfield 62, 3) (List.mem_of_getElem? (i := 11) rfl)) ow_X9_lookFor fl9_62 rfl, ?_⟩
  refine List.forall_mem_cons.mpr ⟨s_iload (dd_X9_lookFor (20, .iload 4, 2) (List.mem_of_getElem? (i := 12) rfl)), ?_⟩
  refine List.forall_mem_cons.mpr ⟨s_iald (dd_X9_lookFor (22, .iaload, 1) (List.mem_of_getElem? (i := 13) rfl)), ?_⟩
  refine List.forall_mem_cons.mpr ⟨s_iload_n (dd_X9_lookFor (23, .iload_n 1, 1) (List.mem_of_getElem? (i := 14) rfl)) rfl, ?_⟩
  refine List.forall_mem_cons.mpr ⟨s_aload_n (dd_X9_lookFor (24, .aload_n 0, 1) (List.mem_of_getElem? (i := 15) rfl)) rfl, ?_⟩
  refine List.forall_mem_cons.mpr ⟨s_getR (k := 31) K9 (by decide) (dd_X9_lookFor (25, .getfield 62, 3) (List.mem_of_getElem? (i := 16) rfl)) ow_X9_lookFor fl9_62 rfl, ?_⟩
  refine List.forall_mem_cons.mpr ⟨s_iload (dd_X9_lookFor (28, .iload 4, 2) (List.mem_of_getElem? (i := 17) rfl)), ?_⟩
  refine List.forall_mem_cons.mpr ⟨s_iald (dd_X9_lookFor (30, .iaload, 1) (List.mem_of_getElem? (i := 18) rfl)), ?_⟩
  refine List.forall_mem_cons.mpr ⟨s_isub (dd_X9_lookFor (31, .isub, 1) (List.mem_of_getElem? (i := 19) rfl)), ?_⟩
  refine List.forall_mem_cons.mpr ⟨s_icmp_le (dd_X9_lookFor (32, .if_icmp .le 13, 3) (List.mem_of_getElem? (i := 20) rfl)) (by decide), ?_⟩
  refine List.forall_mem_cons.mpr ⟨s_aload_n (dd_X9_lookFor (35, .aload_n 0, 1) (List.mem_of_getElem? (i := 21) rfl)) rfl, ?_⟩
  refine List.forall_mem_cons.mpr ⟨s_getR (k := 31) K9 (by decide) (dd_X9_lookFor (36, .getfield 62, 3) (List.mem_of_getElem? (i := 22) rfl)) ow_X9_lookFor fl9_62 rfl, ?_⟩
  refine List.forall_mem_cons.mpr ⟨s_iload (dd_X9_lookFor (39, .iload 4, 2) (List.mem_of_getElem? (i := 23) rfl)), ?_⟩
  refine List.forall_mem_cons.mpr ⟨s_iald (dd_X9_lookFor (41, .iaload, 1) (List.mem_of_getElem? (i := 24) rfl)), ?_⟩
  refine List.forall_mem_cons.mpr ⟨s_goto (dd_X9_lookFor (42, .goto 12, 3) (List.mem_of_getElem? (i := 25) rfl)) (by decide), ?_⟩
  refine List.forall_mem_cons.mpr ⟨s_iload_n (dd_X9_lookFor (45, .iload_n 1, 1) (List.mem_of_getElem? (i := 26) rfl)) rfl, ?_⟩
  refine List.forall_mem_cons.mpr ⟨s_aload_n (dd_X9_lookFor (46, .aload_n 0, 1) (List.mem_of_getElem? (i := 27) rfl)) rfl, ?_⟩
  refine List.forall_mem_cons.mpr ⟨s_getR (k := 31) K9 (by decide) (dd_X9_lookFor (47, .getfield 62, 3) (List.mem_of_getElem? (i := 28) rfl)) ow_X9_lookFor fl9_62 rfl, ?_⟩
  refine List.forall_mem_cons.mpr ⟨s_iload (dd_X9_lookFor (50, .iload 4, 2) (List.mem_of_getElem? (i := 29) rfl)), ?_⟩
  refine List.forall_mem_cons.mpr ⟨s_iald (dd_X9_lookFor (52, .iaload, 1) (List.mem_of_getElem? (i := 30) rfl)), ?_⟩
  refine List.forall_mem_cons.mpr ⟨s_isub (dd_X9_lookFor (53, .isub, 1) (List.mem_of_getElem? (i := 31) rfl)), ?_⟩
  refine List.forall_mem_cons.mpr ⟨s_istore (dd_X9_lookFor (54, .istore 5, 2) (List.mem_of_getElem? (i := 32) rfl)), ?_⟩
  refine List.forall_mem_cons.mpr ⟨s_iload (dd_X9_lookFor (56, .iload 5, 2) (List.mem_of_getElem? (i := 33) rfl)), ?_⟩
  refine List.forall_mem_cons.mpr ⟨s_iload_n (dd_X9_lookFor (58, .iload_n 3, 1) (List.mem_of_getElem? (i := 34) rfl)) rfl, ?_⟩
  refine List.forall_mem_cons.mpr ⟨s_icmp_ge (dd_X9_lookFor (59, .if_icmp .ge 8, 3) (List.mem_of_getElem? (i := 35) rfl)) (by decide), ?_⟩
  refine List.forall_mem_cons.mpr ⟨s_iload (dd_X9_lookFor (62, .iload 4, 2) (List.mem_of_getElem? (i := 36) rfl)), ?_⟩
  refine List.forall_mem_cons.mpr ⟨s_goto (dd_X9_lookFor (64, .goto 4, 3) (List.mem_of_getElem? (i := 37) rfl)) (by decide), ?_⟩
  refine List.forall_mem_cons.mpr ⟨s_iload_n (dd_X9_lookFor (67, .iload_n 2, 1) (List.mem_of_getElem? (i := 38) rfl)) rfl, ?_⟩
  refine List.forall_mem_cons.mpr ⟨s_istore_n (dd_X9_lookFor (68, .istore_n 2, 1) (List.mem_of_getElem? (i := 39) rfl)) rfl, ?_⟩
  refine List.forall_mem_cons.mpr ⟨s_iload (dd_X9_lookFor (69, .iload 5, 2) (List.mem_of_getElem? (i := 40) rfl)), ?_⟩
  refine List.forall_mem_cons.mpr ⟨s_iload_n (dd_X9_lookFor (71, .iload_n 3, 1) (List.mem_of_getElem? (i := 41) rfl)) rfl, ?_⟩
  refine List.forall_mem_cons.mpr ⟨s_icmp_ge (dd_X9_lookFor (72, .if_icmp .ge 8, 3) (List.mem_of_getElem? (i := 42) rfl)) (by decide), ?_⟩
  refine List.forall_mem_cons.mpr ⟨s_iload (dd_X9_lookFor (75, .iload 5, 2) (List.mem_of_getElem? (i := 43) rfl)), ?_⟩
  refine List.forall_mem_cons.mpr ⟨s_goto (dd_X9_lookFor (77, .goto 4, 3) (List.mem_of_getElem? (i := 44) rfl)) (by decide), ?_⟩
  refine List.forall_mem_cons.mpr ⟨s_iload_n (dd_X9_lookFor (80, .iload_n 3, 1) (List.mem_of_getElem? (i := 45) rfl)) rfl, ?_⟩
  refine List.forall_mem_cons.mpr ⟨s_istore_n (dd_X9_lookFor (81, .istore_n 3, 1) (List.mem_of_getElem? (i := 46) rfl)) rfl, ?_⟩
  refine List.forall_mem_cons.mpr ⟨s_iinc (dd_X9_lookFor (82, .iinc 4 1, 3) (List.mem_of_getElem? (i := 47) rfl)) rfl, ?_⟩
  refine List.forall_mem_cons.mpr ⟨s_goto (dd_X9_lookFor (85, .goto (-78), 3) (List.mem_of_getElem? (i := 48) rfl)) (by decide), ?_⟩
  refine List.forall_mem_cons.mpr ⟨s_iload_n (dd_X9_lookFor (88, .iload_n 2, 1) (List.mem_of_getElem? (i := 49) rfl)) rfl, ?_⟩
  refine List.forall_mem_cons.mpr ⟨Or.inr (Or.inl ⟨rfl, (dd_X9_lookFor (89, .ireturn, 1) (List.mem_of_getElem? (i := 50) rfl)), rfl⟩), ?_⟩
  exact fun _ h => absurd h List.not_mem_nil
theorem ow_X9_weighs : (mtJ 172).1.cls = "SatchelSinsModel" := rfl
def D_X9_weighs_1 : List (Nat × Instr × Nat) := [(0, .iload_n 1, 1), (1, .i2l, 1), (2, .lconst 0, 1), (3, .ldc2_w 276, 3), (6, .invokestatic 94, 3), (9, .ifCond .eq 15, 3), (12, .iload_n 2, 1), (13, .i2l, 1), (14, .lconst 0, 1), (15, .ldc2_w 278, 3), (18, .invokestatic 94, 3), (21, .ifCond .ne 6, 3), (24, .ldc 103, 2), (26, .ireturn, 1), (27, .iconst 0, 1), (28, .istore_n 3, 1), (29, .iconst (-1), 1), (30, .istore 4, 2), (32, .iconst 1, 1), (33, .aload_n 0, 1), (34, .getfield 98, 3), (37, .ishl, 1), (38, .iconst 1, 1), (39, .isub, 1), (40, .istore 5, 2), (42, .iconst 0, 1), (43, .istore 6, 2), (45, .iload 6, 2), (47, .bipush 7, 2), (49, .if_icmp .ge 17, 3), (52, .aload_n 0, 1), (53, .getfield 62, 3), (56, .iload 6, 2), (58, .iconst 0, 1), (59, .iastore, 1), (60, .iinc 6 1, 3), (63, .goto (-18), 3), (66, .iconst 0, 1), (67, .istore 6, 2), (69, .iload 6, 2), (71, .iconst 1, 1), (72, .aload_n 0, 1), (73, .getfield 98, 3), (76, .ishl, 1), (77, .if_icmp .ge 77, 3), (80, .aload_n 0, 1), (81, .iload 6, 2), (83, .invokevirtual 280, 3), (86, .iload_n 1, 1), (87, .if_icmp .ne 61, 3), (90, .iload_n 3, 1), (91, .ifCond .ne 8, 3), (94, .iload 6, 2), (96, .goto 5, 3), (99, .iload 4, 2), (101, .istore 4, 2), (103, .iload 5, 2), (105, .iload 6, 2), (107, .iand, 1), (108, .istore 5, 2)]
theorem dd_X9_weighs_1 : ∀ e ∈ D_X9_weighs_1, decode (mtJ 172).2.1 e.1 = .ok e.2 := by decide +kernel
set_option maxRecDepth 10000 in
theorem so_X9_weighs_1 : ∀ e ∈ o_X9_weighs_1, SndO 172 e.1 e.2 := by
  refine List.forall_mem_cons.mpr ⟨s_iload_n (dd_X9_weighs_1 (0, .iload_n 1, 1) (List.mem_of_getElem? (i := 0) rfl)) rfl, ?_⟩
  refine List.forall_mem_cons.mpr ⟨s_i2l (dd_X9_weighs_1 (1, .i2l, 1) (List.mem_of_getElem? (i := 1) rfl)), ?_⟩
  refine List.forall_mem_cons.mpr ⟨s_lconst (dd_X9_weighs_1 (2, .lconst 0, 1) (List.mem_of_getElem? (i := 2) rfl)) rfl, ?_⟩
  refine List.forall_mem_cons.mpr ⟨s_ldc2 (dd_X9_weighs_1 (3, .ldc2_w 276, 3) (List.mem_of_getElem? (i := 3) rfl)) ow_X9_weighs kl9_276, ?_⟩
  refine List.forall_mem_cons.mpr ⟨⟨s_callS mo117 rfl (dd_X9_weighs_1 (6, .invokestatic 94, 3) (List.mem_of_getElem? (i := 4) rfl)) ow_X9_weighs ml9_94 ms117 mn117, mo117⟩, ?_⟩
  refine List.forall_mem_cons.mpr ⟨s_if_eq (dd_X9_weighs_1 (9, .ifCond .eq 15, 3) (List.mem_of_getElem? (i := 5) rfl)) (by decide), ?_⟩
  refine List.forall_mem_cons.mpr ⟨s_iload_n (dd_X9_weighs_1 (12, .iload_n 2, 1) (List.mem_of_getElem? (i := 6) rfl)) rfl, ?_⟩
  refine List.forall_mem_cons.mpr ⟨s_i2l (dd_X9_weighs_1 (13, .i2l, 1) (List.mem_of_getElem? (i := 7) rfl)), ?_⟩
  refine List.forall_mem_cons.mpr ⟨s_lconst (dd_X9_weighs_1 (14, .lconst 0, 1) (List.mem_of_getElem? (i := 8) rfl)) rfl, ?_⟩
  refine List.forall_mem_cons.mpr ⟨s_ldc2 (dd_X9_weighs_1 (15, .ldc2_w 278, 3) (List.mem_of_getElem? (i := 9) rfl)) ow_X9_weighs kl9_278, ?_⟩
  refine List.forall_mem_cons.mpr ⟨⟨s_callS mo117 rfl (dd_X9_weighs_1 (18, .invokestatic 94, 3) (List.mem_of_getElem? (i := 10) rfl)) ow_X9_weighs ml9_94 ms117 mn117, mo117⟩, ?_⟩
  refine List.forall_mem_cons.mpr ⟨s_if_ne (dd_X9_weighs_1 (21, .ifCond .ne 6, 3) (List.mem_of_getElem? (i := 11) rfl)) (by decide), ?_⟩
  refine List.forall_mem_cons.mpr ⟨s_ldc (dd_X9_weighs_1 (24, .ldc 103, 2) (List.mem_of_getElem? (i := 12) rfl)) ow_X9_weighs ki9_103, ?_⟩
  refine List.forall_mem_cons.mpr ⟨Or.inr (Or.inl ⟨rfl, (dd_X9_weighs_1 (26, .ireturn, 1) (List.mem_of_getElem? (i := 13) rfl)), rfl⟩), ?_⟩
  refine List.forall_mem_cons.mpr ⟨s_iconst (dd_X9_weighs_1 (27, .iconst 0, 1) (List.mem_of_getElem? (i := 14) rfl)) rfl, ?_⟩
  refine List.forall_mem_cons.mpr ⟨s_istore_n (dd_X9_weighs_1 (28, .istore_n 3, 1) (List.mem_of_getElem? (i := 15) rfl)) rfl, ?_⟩
  refine List.forall_mem_cons.mpr ⟨s_iconst (dd_X9_weighs_1 (29, .iconst (-1), 1) (List.mem_of_getElem? (i := 16) rfl)) rfl, ?_⟩
  refine List.forall_mem_cons.mpr ⟨s_istore (dd_X9_weighs_1 (30, .istore 4, 2) (List.mem_of_getElem? (i := 17) rfl)), ?_⟩
  refine List.forall_mem_cons.mpr ⟨s_iconst (dd_X9_weighs_1 (32, .iconst 1, 1) (List.mem_of_getElem? (i := 18) rfl)) rfl, ?_⟩
  refine List.forall_mem_cons.mpr ⟨s_aload_n (dd_X9_weighs_1 (33, .aload_n 0, 1) (List.mem_of_getElem? (i := 19) rfl)) rfl, ?_⟩
  refine List.forall_mem_cons.mpr ⟨s_getI (k := 6) K9 (by decide) (dd_X9_weighs_1 (34, .getfield 98, 3) (List.mem_of_getElem? (i := 20) rfl)) ow_X9_weighs fl9_98 rfl, ?_⟩
  refine List.forall_mem_cons.mpr ⟨s_ishl (dd_X9_weighs_1 (37, .ishl, 1) (List.mem_of_getElem? (i := 21) rfl)), ?_⟩
  refine List.forall_mem_cons.mpr ⟨s_iconst (dd_X9_weighs_1 (38, .iconst 1, 1) (List.mem_of_getElem? (i := 22) rfl)) rfl, ?_⟩
  refine List.forall_mem_cons.mpr ⟨s_isub (dd_X9_weighs_1 (39, .isub, 1) (List.mem_of_getElem? (i := 23) rfl)), ?_⟩
  refine List.forall_mem_cons.mpr ⟨s_istore (dd_X9_weighs_1 (40, .istore 5, 2) (List.mem_of_getElem? (i := 24) rfl)), ?_⟩
  refine List.forall_mem_cons.mpr ⟨s_iconst (dd_X9_weighs_1 (42, .iconst 0, 1) (List.mem_of_getElem? (i := 25) rfl)) rfl, ?_⟩
  refine List.forall_mem_cons.mpr ⟨s_istore (dd_X9_weighs_1 (43, .istore 6, 2) (List.mem_of_getElem? (i := 26) rfl)), ?_⟩
  refine List.forall_mem_cons.mpr ⟨s_iload (dd_X9_weighs_1 (45, .iload 6, 2) (List.mem_of_getElem? (i := 27) rfl)), ?_⟩
  refine List.forall_mem_cons.mpr ⟨s_bipush (dd_X9_weighs_1 (47, .bipush 7, 2) (List.mem_of_getElem? (i := 28) rfl)) rfl, ?_⟩
  refine List.forall_mem_cons.mpr ⟨s_icmp_ge (dd_X9_weighs_1 (49, .if_icmp .ge 17, 3) (List.mem_of_getElem? (i := 29) rfl)) (by decide), ?_⟩
  refine List.forall_mem_cons.mpr ⟨s_aload_n (dd_X9_weighs_1 (52, .aload_n 0, 1) (List.mem_of_getElem? (i := 30) rfl)) rfl, ?_⟩
  refine List.forall_mem_cons.mpr ⟨s_getR (k := 31) K9 (by decide) (dd_X9_weighs_1 (53, .getfield 62, 3) (List.mem_of_getElem? (i := 31) rfl)) ow_X9_weighs fl9_62 rfl, ?_⟩
  refine List.forall_mem_cons.mpr ⟨s_iload (dd_X9_weighs_1 (56, .iload 6, 2) (List.mem_of_getElem? (i := 32) rfl)), ?_⟩
  refine List.forall_mem_cons.mpr ⟨s_iconst (dd_X9_weighs_1 (58, .iconst 0, 1) (List.mem_of_getElem? (i := 33) rfl)) rfl, ?_⟩
  refine List.forall_mem_cons.mpr ⟨s_iast (dd_X9_weighs_1 (59, .iastore, 1) (List.mem_of_getElem? (i := 34) rfl)), ?_⟩
  refine List.forall_mem_cons.mpr ⟨s_iinc (dd_X9_weighs_1 (60, .iinc 6 1, 3) (List.mem_of_getElem? (i := 35) rfl)) rfl, ?_⟩
  refine List.forall_mem_cons.mpr ⟨s_goto (dd_X9_weighs_1 (63, .goto (-18), 3) (List.mem_of_getElem? (i := 36) rfl)) (by decide), ?_⟩
  refine List.forall_mem_cons.mpr ⟨s_iconst (dd_X9_weighs_1 (66, .iconst 0, 1) (List.mem_of_getElem? (i := 37) rfl)) rfl, ?_⟩
  refine List.forall_mem_cons.mpr ⟨s_istore (dd_X9_weighs_1 (67, .istore 6, 2) (List.mem_of_getElem? (i := 38) rfl)), ?_⟩
  refine List.forall_mem_cons.mpr ⟨s_iload (dd_X9_weighs_1 (69, .iload 6, 2) (List.mem_of_getElem? (i := 39) rfl)), ?_⟩
  refine List.forall_mem_cons.mpr ⟨s_iconst (dd_X9_weighs_1 (71, .iconst 1, 1) (List.mem_of_getElem? (i := 40) rfl)) rfl, ?_⟩
  refine List.forall_mem_cons.mpr ⟨s_aload_n (dd_X9_weighs_1 (72, .aload_n 0, 1) (List.mem_of_getElem? (i := 41) rfl)) rfl, ?_⟩
  refine List.forall_mem_cons.mpr ⟨s_getI (k := 6) K9 (by decide) (dd_X9_weighs_1 (73, .getfield 98, 3) (List.mem_of_getElem? (i := 42) rfl)) ow_X9_weighs fl9_98 rfl, ?_⟩
  refine List.forall_mem_cons.mpr ⟨s_ishl (dd_X9_weighs_1 (76, .ishl, 1) (List.mem_of_getElem? (i := 43) rfl)), ?_⟩
  refine List.forall_mem_cons.mpr ⟨s_icmp_ge (dd_X9_weighs_1 (77, .if_icmp .ge 77, 3) (List.mem_of_getElem? (i := 44) rfl)) (by decide), ?_⟩
  refine List.forall_mem_cons.mpr ⟨s_aload_n (dd_X9_weighs_1 (80, .aload_n 0, 1) (List.mem_of_getElem? (i := 45) rfl)) rfl, ?_⟩
  refine List.forall_mem_cons.mpr ⟨s_iload (dd_X9_weighs_1 (81, .iload 6, 2) (List.mem_of_getElem? (i := 46) rfl)), ?_⟩
  refine List.forall_mem_cons.mpr ⟨⟨s_callV (ci := 9) rfl mo170 rfl rfl (dd_X9_weighs_1 (83, .invokevirtual 280, 3) (List.mem_of_getElem? (i := 47) rfl)) ow_X9_weighs ml9_280 mi170 msl170 in_9 mn170, mo170⟩, ?_⟩
  refine List.forall_mem_cons.mpr ⟨s_iload_n (dd_X9_weighs_1 (86, .iload_n 1, 1) (List.mem_of_getElem? (i := 48) rfl)) rfl, ?_⟩
  refine List.forall_mem_cons.mpr ⟨s_icmp_ne (dd_X9_weighs_1 (87, .if_icmp .ne 61, 3) (List.mem_of_getElem? (i := 49) rfl)) (by decide), ?_⟩
  refine List.forall_mem_cons.mpr ⟨s_iload_n (dd_X9_weighs_1 (90, .iload_n 3, 1) (List.mem_of_getElem? (i := 50) rfl)) rfl, ?_⟩
  refine List.forall_mem_cons.mpr ⟨s_if_ne (dd_X9_weighs_1 (91, .ifCond .ne 8, 3) (List.mem_of_getElem? (i := 51) rfl)) (by decide), ?_⟩
  refine List.forall_mem_cons.mpr ⟨s_iload (dd_X9_weighs_1 (94, .iload 6, 2) (List.mem_of_getElem? (i := 52) rfl)), ?_⟩
  refine List.forall_mem_cons.mpr ⟨s_goto (dd_X9_weighs_1 (96, .goto 5, 3) (List.mem_of_getElem? (i := 53) rfl)) (by decide), ?_⟩
  refine List.forall_mem_cons.mpr ⟨s_iload (dd_X9_weighs_1 (99, .iload 4, 2) (List.mem_of_getElem? (i := 54) rfl)), ?_⟩
  refine List.forall_mem_cons.mpr ⟨s_istore (dd_X9_weighs_1 (101, .istore 4, 2) (List.mem_of_getElem? (i := 55) rfl)), ?_⟩
  refine List.forall_mem_cons.mpr ⟨s_iload (dd_X9_weighs_1 (103, .iload 5, 2) (List.mem_of_getElem? (i := 56) rfl)), ?_⟩
  refine List.forall_mem_cons.mpr ⟨s_iload (dd_X9_weighs_1 (105, .iload 6, 2) (List.mem_of_getElem? (i := 57) rfl)), ?_⟩
  refine List.forall_mem_cons.mpr ⟨s_iand (dd_X9_weighs_1 (107, .iand, 1) (List.mem_of_getElem? (i := 58) rfl)), ?_⟩
  refine List.forall_mem_cons.mpr ⟨s_istore (dd_X9_weighs_1 (108, .istore 5, 2) (List.mem_of_getElem? (i := 59) rfl)), ?_⟩
  exact fun _ h => absurd h List.not_mem_nil
def D_X9_weighs_2 : List (Nat × Instr × Nat) := [(110, .iinc 3 1, 3), (113, .iconst 0, 1), (114, .istore 7, 2), (116, .iload 7, 2), (118, .aload_n 0, 1), (119, .getfield 98, 3), (122, .if_icmp .ge 26, 3), (125, .aload_n 0, 1), (126, .getfield 62, 3), (129, .iload 7, 2), (131, .dup2, 1), (132, .iaload, 1), (133, .iload 6, 2), (135, .iload 7, 2), (137, .ishr, 1), (138, .iconst 1, 1), (139, .iand, 1), (140, .iadd, 1), (141, .iastore, 1), (142, .iinc 7 1, 3), (145, .goto (-29), 3), (148, .iinc 6 1, 3), (151, .goto (-82), 3), (154, .iload_n 2, 1), (155, .iconst 3, 1), (156, .if_icmp .ne 9, 3), (159, .aload_n 0, 1), (160, .iload_n 3, 1), (161, .invokevirtual 283, 3), (164, .ireturn, 1), (165, .iload_n 2, 1), (166, .ifCond .ne 7, 3), (169, .iload_n 3, 1), (170, .goto 23, 3), (173, .iload_n 2, 1), (174, .iconst 1, 1), (175, .if_icmp .ne 8, 3), (178, .iload 4, 2), (180, .goto 13, 3), (183, .iload_n 3, 1), (184, .ifCond .ne 7, 3), (187, .iconst 0, 1), (188, .goto 5, 3), (191, .iload 5, 2), (193, .ireturn, 1)]
theorem dd_X9_weighs_2 : ∀ e ∈ D_X9_weighs_2, decode (mtJ 172).2.1 e.1 = .ok e.2 := by decide +kernel
set_option maxRecDepth 10000 in
theorem so_X9_weighs_2 : ∀ e ∈ o_X9_weighs_2, SndO 172 e.1 e.2 := by
  refine List.forall_mem_cons.mpr ⟨s_iinc (dd_X9_weighs_2 (110, .iinc 3 1, 3) (List.mem_of_getElem? (i := 0) rfl)) rfl, ?_⟩
  refine List.forall_mem_cons.mpr ⟨s_iconst (dd_X9_weighs_2 (113, .iconst 0, 1) (List.mem_of_getElem? (i := 1) rfl)) rfl, ?_⟩
  refine List.forall_mem_cons.mpr ⟨s_istore (dd_X9_weighs_2 (114, .istore 7, 2) (List.mem_of_getElem? (i := 2) rfl)), ?_⟩
  refine List.forall_mem_cons.mpr ⟨s_iload (dd_X9_weighs_2 (116, .iload 7, 2) (List.mem_of_getElem? (i := 3) rfl)), ?_⟩
  refine List.forall_mem_cons.mpr ⟨s_aload_n (dd_X9_weighs_2 (118, .aload_n 0, 1) (List.mem_of_getElem? (i := 4) rfl)) rfl, ?_⟩
  refine List.forall_mem_cons.mpr ⟨s_getI (k := 6) K9 (by decide) (dd_X9_weighs_2 (119, .getfield 98, 3) (List.mem_of_getElem? (i := 5) rfl)) ow_X9_weighs fl9_98 rfl, ?_⟩
  refine List.forall_mem_cons.mpr ⟨s_icmp_ge (dd_X9_weighs_2 (122, .if_icmp .ge 26, 3) (List.mem_of_getElem? (i := 6) rfl)) (by decide), ?_⟩
  refine List.forall_mem_cons.mpr ⟨s_aload_n (dd_X9_weighs_2 (125, .aload_n 0, 1) (List.mem_of_getElem? (i := 7) rfl)) rfl, ?_⟩
  refine List.forall_mem_cons.mpr ⟨s_getR (k := 31) K9 (by decide) (dd_X9_weighs_2 (126, .getfield 62, 3) (List.mem_of_getElem? (i := 8) rfl)) ow_X9_weighs fl9_62 rfl, ?_⟩
  refine List.forall_mem_cons.mpr ⟨s_iload (dd_X9_weighs_2 (129, .iload 7, 2) (List.mem_of_getElem? (i := 9) rfl)), ?_⟩
  refine List.forall_mem_cons.mpr ⟨s_dup2 (dd_X9_weighs_2 (131, .dup2, 1) (List.mem_of_getElem? (i := 10) rfl)), ?_⟩
  refine List.forall_mem_cons.mpr ⟨s_iald (dd_X9_weighs_2 (132, .iaload, 1) (List.mem_of_getElem? (i := 11) rfl)), ?_⟩
  refine List.forall_mem_cons.mpr ⟨s_iload (dd_X9_weighs_2 (133, .iload 6, 2) (List.mem_of_getElem? (i := 12) rfl)), ?_⟩
  refine List.forall_mem_cons.mpr ⟨s_iload (dd_X9_weighs_2 (135, .iload 7, 2) (List.mem_of_getElem? (i := 13) rfl)), ?_⟩
  refine List.forall_mem_cons.mpr ⟨s_ishr (dd_X9_weighs_2 (137, .ishr, 1) (List.mem_of_getElem? (i := 14) rfl)), ?_⟩
  refine List.forall_mem_cons.mpr ⟨s_iconst (dd_X9_weighs_2 (138, .iconst 1, 1) (List.mem_of_getElem? (i := 15) rfl)) rfl, ?_⟩
  refine List.forall_mem_cons.mpr ⟨s_iand (dd_X9_weighs_2 (139, .iand, 1) (List.mem_of_getElem? (i := 16) rfl)), ?_⟩
  refine List.forall_mem_cons.mpr ⟨s_iadd (dd_X9_weighs_2 (140, .iadd, 1) (List.mem_of_getElem? (i := 17) rfl)), ?_⟩
  refine List.forall_mem_cons.mpr ⟨s_iast (dd_X9_weighs_2 (141, .iastore, 1) (List.mem_of_getElem? (i := 18) rfl)), ?_⟩
  refine List.forall_mem_cons.mpr ⟨s_iinc (dd_X9_weighs_2 (142, .iinc 7 1, 3) (List.mem_of_getElem? (i := 19) rfl)) rfl, ?_⟩
  refine List.forall_mem_cons.mpr ⟨s_goto (dd_X9_weighs_2 (145, .goto (-29), 3) (List.mem_of_getElem? (i := 20) rfl)) (by decide), ?_⟩
  refine List.forall_mem_cons.mpr ⟨s_iinc (dd_X9_weighs_2 (148, .iinc 6 1, 3) (List.mem_of_getElem? (i := 21) rfl)) rfl, ?_⟩
  refine List.forall_mem_cons.mpr ⟨s_goto (dd_X9_weighs_2 (151, .goto (-82), 3) (List.mem_of_getElem? (i := 22) rfl)) (by decide), ?_⟩
  refine List.forall_mem_cons.mpr ⟨s_iload_n (dd_X9_weighs_2 (154, .iload_n 2, 1) (List.mem_of_getElem? (i := 23) rfl)) rfl, ?_⟩
  refine List.forall_mem_cons.mpr ⟨s_iconst (dd_X9_weighs_2 (155, .iconst 3, 1) (List.mem_of_getElem? (i := 24) rfl)) rfl, ?_⟩
  refine List.forall_mem_cons.mpr ⟨s_icmp_ne (dd_X9_weighs_2 (156, .if_icmp .ne 9, 3) (List.mem_of_getElem? (i := 25) rfl)) (by decide), ?_⟩
  refine List.forall_mem_cons.mpr ⟨s_aload_n (dd_X9_weighs_2 (159, .aload_n 0, 1) (List.mem_of_getElem? (i := 26) rfl)) rfl, ?_⟩
  refine List.forall_mem_cons.mpr ⟨s_iload_n (dd_X9_weighs_2 (160, .iload_n 3, 1) (List.mem_of_getElem? (i := 27) rfl)) rfl, ?_⟩
  refine List.forall_mem_cons.mpr ⟨⟨s_callV (ci := 9) rfl mo171 rfl rfl (dd_X9_weighs_2 (161, .invokevirtual 283, 3) (List.mem_of_getElem? (i := 28) rfl)) ow_X9_weighs ml9_283 mi171 msl171 in_9 mn171, mo171⟩, ?_⟩
  refine List.forall_mem_cons.mpr ⟨Or.inr (Or.inl ⟨rfl, (dd_X9_weighs_2 (164, .ireturn, 1) (List.mem_of_getElem? (i := 29) rfl)), rfl⟩), ?_⟩
  refine List.forall_mem_cons.mpr ⟨s_iload_n (dd_X9_weighs_2 (165, .iload_n 2, 1) (List.mem_of_getElem? (i := 30) rfl)) rfl, ?_⟩
  refine List.forall_mem_cons.mpr ⟨s_if_ne (dd_X9_weighs_2 (166, .ifCond .ne 7, 3) (List.mem_of_getElem? (i := 31) rfl)) (by decide), ?_⟩
  refine List.forall_mem_cons.mpr ⟨s_iload_n (dd_X9_weighs_2 (169, .iload_n 3, 1) (List.mem_of_getElem? (i := 32) rfl)) rfl, ?_⟩
  refine List.forall_mem_cons.mpr ⟨s_goto (dd_X9_weighs_2 (170, .goto 23, 3) (List.mem_of_getElem? (i := 33) rfl)) (by decide), ?_⟩
  refine List.forall_mem_cons.mpr ⟨s_iload_n (dd_X9_weighs_2 (173, .iload_n 2, 1) (List.mem_of_getElem? (i := 34) rfl)) rfl, ?_⟩
  refine List.forall_mem_cons.mpr ⟨s_iconst (dd_X9_weighs_2 (174, .iconst 1, 1) (List.mem_of_getElem? (i := 35) rfl)) rfl, ?_⟩
  refine List.forall_mem_cons.mpr ⟨s_icmp_ne (dd_X9_weighs_2 (175, .if_icmp .ne 8, 3) (List.mem_of_getElem? (i := 36) rfl)) (by decide), ?_⟩
  refine List.forall_mem_cons.mpr ⟨s_iload (dd_X9_weighs_2 (178, .iload 4, 2) (List.mem_of_getElem? (i := 37) rfl)), ?_⟩
  refine List.forall_mem_cons.mpr ⟨s_goto (dd_X9_weighs_2 (180, .goto 13, 3) (List.mem_of_getElem? (i := 38) rfl)) (by decide), ?_⟩
  refine List.forall_mem_cons.mpr ⟨s_iload_n (dd_X9_weighs_2 (183, .iload_n 3, 1) (List.mem_of_getElem? (i := 39) rfl)) rfl, ?_⟩
  refine List.forall_mem_cons.mpr ⟨s_if_ne (dd_X9_weighs_2 (184, .ifCond .ne 7, 3) (List.mem_of_getElem? (i := 40) rfl)) (by decide), ?_⟩
  refine List.forall_mem_cons.mpr ⟨s_iconst (dd_X9_weighs_2 (187, .iconst 0, 1) (List.mem_of_getElem? (i := 41) rfl)) rfl, ?_⟩
  refine List.forall_mem_cons.mpr ⟨s_goto (dd_X9_weighs_2 (188, .goto 5, 3) (List.mem_of_getElem? (i := 42) rfl)) (by decide), ?_⟩
  refine List.forall_mem_cons.mpr ⟨s_iload (dd_X9_weighs_2 (191, .iload 5, 2) (List.mem_of_getElem? (i := 43) rfl)), ?_⟩
  refine List.forall_mem_cons.mpr ⟨Or.inr (Or.inl ⟨rfl, (dd_X9_weighs_2 (193, .ireturn, 1) (List.mem_of_getElem? (i := 44) rfl)), rfl⟩), ?_⟩
  exact fun _ h => absurd h List.not_mem_nil
theorem so_X9_weighs : ∀ e ∈ o_X9_weighs, SndO 172 e.1 e.2 := List.forall_mem_append.mpr ⟨so_X9_weighs_1, so_X9_weighs_2⟩
theorem ow_X9_firstOf : (mtJ 173).1.cls = "SatchelSinsModel" := rfl
def D_X9_firstOf : List (Nat × Instr × Nat) := [(0, .iload_n 1, 1), (1, .istore_n 2, 1), (2, .aload_n 0, 1), (3, .getfield 16, 3), (6, .iload_n 2, 1), (7, .iaload, 1), (8, .iconst (-1), 1), (9, .if_icmp .eq 13, 3), (12, .aload_n 0, 1), (13, .getfield 16, 3), (16, .iload_n 2, 1), (17, .iaload, 1), (18, .istore_n 2, 1), (19, .goto (-17), 3), (22, .iload_n 2, 1), (23, .ireturn, 1)]
theorem dd_X9_firstOf : ∀ e ∈ D_X9_firstOf, decode (mtJ 173).2.1 e.1 = .ok e.2 := by decide +kernel
set_option maxRecDepth 10000 in
theorem so_X9_firstOf : ∀ e ∈ o_X9_firstOf, SndO 173 e.1 e.2 := by
  refine List.forall_mem_cons.mpr ⟨s_iload_n (dd_X9_firstOf (0, .iload_n 1, 1) (List.mem_of_getElem? (i := 0) rfl)) rfl, ?_⟩
  refine List.forall_mem_cons.mpr ⟨s_istore_n (dd_X9_firstOf (1, .istore_n 2, 1) (List.mem_of_getElem? (i := 1) rfl)) rfl, ?_⟩
  refine List.forall_mem_cons.mpr ⟨s_aload_n (dd_X9_firstOf (2, .aload_n 0, 1) (List.mem_of_getElem? (i := 2) rfl)) rfl, ?_⟩
  refine List.forall_mem_cons.mpr ⟨s_getR (k := 5) K9 (by decide) (dd_X9_firstOf (3, .getfield 16, 3) (List.mem_of_getElem? (i := 3) rfl)) ow_X9_firstOf fl9_16 rfl, ?_⟩
  refine List.forall_mem_cons.mpr ⟨s_iload_n (dd_X9_firstOf (6, .iload_n 2, 1) (List.mem_of_getElem? (i := 4) rfl)) rfl, ?_⟩
  refine List.forall_mem_cons.mpr ⟨s_iald (dd_X9_firstOf (7, .iaload, 1) (List.mem_of_getElem? (i := 5) rfl)), ?_⟩
  refine List.forall_mem_cons.mpr ⟨s_iconst (dd_X9_firstOf (8, .iconst (-1), 1) (List.mem_of_getElem? (i := 6) rfl)) rfl, ?_⟩
  refine List.forall_mem_cons.mpr ⟨s_icmp_eq (dd_X9_firstOf (9, .if_icmp .eq 13, 3) (List.mem_of_getElem? (i := 7) rfl)) (by decide), ?_⟩
  refine List.forall_mem_cons.mpr ⟨s_aload_n (dd_X9_firstOf (12, .aload_n 0, 1) (List.mem_of_getElem? (i := 8) rfl)) rfl, ?_⟩
  refine List.forall_mem_cons.mpr ⟨s_getR (k := 5) K9 (by decide) (dd_X9_firstOf (13, .getfield 16, 3) (List.mem_of_getElem? (i := 9) rfl)) ow_X9_firstOf fl9_16 rfl, ?_⟩
  refine List.forall_mem_cons.mpr ⟨s_iload_n (dd_X9_firstOf (16, .iload_n 2, 1) (List.mem_of_getElem? (i := 10) rfl)) rfl, ?_⟩
  refine List.forall_mem_cons.mpr ⟨s_iald (dd_X9_firstOf (17, .iaload, 1) (List.mem_of_getElem? (i := 11) rfl)), ?_⟩
  refine List.forall_mem_cons.mpr ⟨s_istore_n (dd_X9_firstOf (18, .istore_n 2, 1) (List.mem_of_getElem? (i := 12) rfl)) rfl, ?_⟩
  refine List.forall_mem_cons.mpr ⟨s_goto (dd_X9_firstOf (19, .goto (-17), 3) (List.mem_of_getElem? (i := 13) rfl)) (by decide), ?_⟩
  refine List.forall_mem_cons.mpr ⟨s_iload_n (dd_X9_firstOf (22, .iload_n 2, 1) (List.mem_of_getElem? (i := 14) rfl)) rfl, ?_⟩
  refine List.forall_mem_cons.mpr ⟨Or.inr (Or.inl ⟨rfl, (dd_X9_firstOf (23, .ireturn, 1) (List.mem_of_getElem? (i := 15) rfl)), rfl⟩), ?_⟩
  exact fun _ h => absurd h List.not_mem_nil
theorem ow_X9_handed : (mtJ 174).1.cls = "SatchelSinsModel" := rfl
def D_X9_handed : List (Nat × Instr × Nat) := [(0, .aload_n 0, 1), (1, .iload_n 1, 1), (2, .invokevirtual 201, 3), (5, .ifCond .ne 6, 3), (8, .ldc 205, 2), (10, .ireturn, 1), (11, .iload_n 2, 1), (12, .i2l, 1), (13, .lconst 0, 1), (14, .lconst 1, 1), (15, .invokestatic 94, 3), (18, .ifCond .ne 6, 3), (21, .ldc 103, 2), (23, .ireturn, 1), (24, .iconst 0, 1), (25, .istore_n 3, 1), (26, .iconst 0, 1), (27, .istore 4, 2), (29, .iload 4, 2), (31, .aload_n 0, 1), (32, .getfield 91, 3), (35, .if_icmp .ge 34, 3), (38, .iload_n 3, 1), (39, .aload_n 0, 1), (40, .iload 4, 2), (42, .invokevirtual 286, 3), (45, .aload_n 0, 1), (46, .iload_n 1, 1), (47, .invokevirtual 286, 3), (50, .if_icmp .ne 10, 3), (53, .iconst 1, 1), (54, .iload 4, 2), (56, .ishl, 1), (57, .goto 4, 3), (60, .iconst 0, 1), (61, .ior, 1), (62, .istore_n 3, 1), (63, .iinc 4 1, 3), (66, .goto (-37), 3), (69, .iload_n 2, 1), (70, .ifCond .ne 11, 3), (73, .aload_n 0, 1), (74, .iload_n 1, 1), (75, .invokevirtual 286, 3), (78, .goto 4, 3), (81, .iload_n 3, 1), (82, .ireturn, 1)]
theorem dd_X9_handed : ∀ e ∈ D_X9_handed, decode (mtJ 174).2.1 e.1 = .ok e.2 := by decide +kernel
set_option maxRecDepth 10000 in
theorem so_X9_handed : ∀ e ∈ o_X9_handed, SndO 174 e.1 e.2 := by
  refine List.forall_mem_cons.mpr ⟨s_aload_n (dd_X9_handed (0, .aload_n 0, 1) (List.mem_of_getElem? (i := 0) rfl)) rfl, ?_⟩
  refine List.forall_mem_cons.mpr ⟨s_iload_n (dd_X9_handed (1, .iload_n 1, 1) (List.mem_of_getElem? (i := 1) rfl)) rfl, ?_⟩
  refine List.forall_mem_cons.mpr ⟨⟨s_callV (ci := 9) rfl mo119 rfl rfl (dd_X9_handed (2, .invokevirtual 201, 3) (List.mem_of_getElem? (i := 2) rfl)) ow_X9_handed ml9_201 mi119 msl119 in_9 mn119, mo119⟩, ?_⟩
  refine List.forall_mem_cons.mpr ⟨s_if_ne (dd_X9_handed (5, .ifCond .ne 6, 3) (List.mem_of_getElem? (i := 3) rfl)) (by decide), ?_⟩
  refine List.forall_mem_cons.mpr ⟨s_ldc (dd_X9_handed (8, .ldc 205, 2) (List.mem_of_getElem? (i := 4) rfl)) ow_X9_handed ki9_205, ?_⟩
  refine List.forall_mem_cons.mpr ⟨Or.inr (Or.inl ⟨rfl, (dd_X9_handed (10, .ireturn, 1) (List.mem_of_getElem? (i := 5) rfl)), rfl⟩), ?_⟩
  refine List.forall_mem_cons.mpr ⟨s_iload_n (dd_X9_handed (11, .iload_n 2, 1) (List.mem_of_getElem? (i := 6) rfl)) rfl, ?_⟩
  refine List.forall_mem_cons.mpr ⟨s_i2l (dd_X9_handed (12, .i2l, 1) (List.mem_of_getElem? (i := 7) rfl)), ?_⟩
  refine List.forall_mem_cons.mpr ⟨s_lconst (dd_X9_handed (13, .lconst 0, 1) (List.mem_of_getElem? (i := 8) rfl)) rfl, ?_⟩
  refine List.forall_mem_cons.mpr ⟨s_lconst (dd_X9_handed (14, .lconst 1, 1) (List.mem_of_getElem? (i := 9) rfl)) rfl, ?_⟩
  refine List.forall_mem_cons.mpr ⟨⟨s_callS mo117 rfl (dd_X9_handed (15, .invokestatic 94, 3) (List.mem_of_getElem? (i := 10) rfl)) ow_X9_handed ml9_94 ms117 mn117, mo117⟩, ?_⟩
  refine List.forall_mem_cons.mpr ⟨s_if_ne (dd_X9_handed (18, .ifCond .ne 6, 3) (List.mem_of_getElem? (i := 11) rfl)) (by decide), ?_⟩
  refine List.forall_mem_cons.mpr ⟨s_ldc (dd_X9_handed (21, .ldc 103, 2) (List.mem_of_getElem? (i := 12) rfl)) ow_X9_handed ki9_103, ?_⟩
  refine List.forall_mem_cons.mpr ⟨Or.inr (Or.inl ⟨rfl, (dd_X9_handed (23, .ireturn, 1) (List.mem_of_getElem? (i := 13) rfl)), rfl⟩), ?_⟩
  refine List.forall_mem_cons.mpr ⟨s_iconst (dd_X9_handed (24, .iconst 0, 1) (List.mem_of_getElem? (i := 14) rfl)) rfl, ?_⟩
  refine List.forall_mem_cons.mpr ⟨s_istore_n (dd_X9_handed (25, .istore_n 3, 1) (List.mem_of_getElem? (i := 15) rfl)) rfl, ?_⟩
  refine List.forall_mem_cons.mpr ⟨s_iconst (dd_X9_handed (26, .iconst 0, 1) (List.mem_of_getElem? (i := 16) rfl)) rfl, ?_⟩
  refine List.forall_mem_cons.mpr ⟨s_istore (dd_X9_handed (27, .istore 4, 2) (List.mem_of_getElem? (i := 17) rfl)), ?_⟩
  refine List.forall_mem_cons.mpr ⟨s_iload (dd_X9_handed (29, .iload 4, 2) (List.mem_of_getElem? (i := 18) rfl)), ?_⟩
  refine List.forall_mem_cons.mpr ⟨s_aload_n (dd_X9_handed (31, .aload_n 0, 1) (List.mem_of_getElem? (i := 19) rfl)) rfl, ?_⟩
  refine List.forall_mem_cons.mpr ⟨s_getI (k := 2) K9 (by decide) (dd_X9_handed (32, .getfield 91, 3) (List.mem_of_getElem? (i := 20) rfl)) ow_X9_handed fl9_91 rfl, ?_⟩
  refine List.forall_mem_cons.mpr ⟨s_icmp_ge (dd_X9_handed (35, .if_icmp .ge 34, 3) (List.mem_of_getElem? (i := 21) rfl)) (by decide), ?_⟩
  refine List.forall_mem_cons.mpr ⟨s_iload_n (dd_X9_handed (38, .iload_n 3, 1) (List.mem_of_getElem? (i := 22) rfl)) rfl, ?_⟩
  refine List.forall_mem_cons.mpr ⟨s_aload_n (dd_X9_handed (39, .aload_n 0, 1) (List.mem_of_getElem? (i := 23) rfl)) rfl, ?_⟩
  refine List.forall_mem_cons.mpr ⟨s_iload (dd_X9_handed (40, .iload 4, 2) (List.mem_of_getElem? (i := 24) rfl)), ?_⟩
  refine List.forall_mem_cons.mpr ⟨⟨s_callV (ci := 9) rfl mo173 rfl rfl (dd_X9_handed (42, .invokevirtual 286, 3) (List.mem_of_getElem? (i := 25) rfl)) ow_X9_handed ml9_286 mi173 msl173 in_9 mn173, mo173⟩, ?_⟩
  refine List.forall_mem_cons.mpr ⟨s_aload_n (dd_X9_handed (45, .aload_n 0, 1) (List.mem_of_getElem? (i := 26) rfl)) rfl, ?_⟩
  refine List.forall_mem_cons.mpr ⟨s_iload_n (dd_X9_handed (46, .iload_n 1, 1) (List.mem_of_getElem? (i := 27) rfl)) rfl, ?_⟩
  refine List.forall_mem_cons.mpr ⟨⟨s_callV (ci := 9) rfl mo173 rfl rfl (dd_X9_handed (47, .invokevirtual 286, 3) (List.mem_of_getElem? (i := 28) rfl)) ow_X9_handed ml9_286 mi173 msl173 in_9 mn173, mo173⟩, ?_⟩
  refine List.forall_mem_cons.mpr ⟨s_icmp_ne (dd_X9_handed (50, .if_icmp .ne 10, 3) (List.mem_of_getElem? (i := 29) rfl)) (by decide), ?_⟩
  refine List.forall_mem_cons.mpr ⟨s_iconst (dd_X9_handed (53, .iconst 1, 1) (List.mem_of_getElem? (i := 30) rfl)) rfl, ?_⟩
  refine List.forall_mem_cons.mpr ⟨s_iload (dd_X9_handed (54, .iload 4, 2) (List.mem_of_getElem? (i := 31) rfl)), ?_⟩
  refine List.forall_mem_cons.mpr ⟨s_ishl (dd_X9_handed (56, .ishl, 1) (List.mem_of_getElem? (i := 32) rfl)), ?_⟩
  refine List.forall_mem_cons.mpr ⟨s_goto (dd_X9_handed (57, .goto 4, 3) (List.mem_of_getElem? (i := 33) rfl)) (by decide), ?_⟩
  refine List.forall_mem_cons.mpr ⟨s_iconst (dd_X9_handed (60, .iconst 0, 1) (List.mem_of_getElem? (i := 34) rfl)) rfl, ?_⟩
  refine List.forall_mem_cons.mpr ⟨s_ior (dd_X9_handed (61, .ior, 1) (List.mem_of_getElem? (i := 35) rfl)), ?_⟩
  refine List.forall_mem_cons.mpr ⟨s_istore_n (dd_X9_handed (62, .istore_n 3, 1) (List.mem_of_getElem? (i := 36) rfl)) rfl, ?_⟩
  refine List.forall_mem_cons.mpr ⟨s_iinc (dd_X9_handed (63, .iinc 4 1, 3) (List.mem_of_getElem? (i := 37) rfl)) rfl, ?_⟩
  refine List.forall_mem_cons.mpr ⟨s_goto (dd_X9_handed (66, .goto (-37), 3) (List.mem_of_getElem? (i := 38) rfl)) (by decide), ?_⟩
  refine List.forall_mem_cons.mpr ⟨s_iload_n (dd_X9_handed (69, .iload_n 2, 1) (List.mem_of_getElem? (i := 39) rfl)) rfl, ?_⟩
  refine List.forall_mem_cons.mpr ⟨s_if_ne (dd_X9_handed (70, .ifCond .ne 11, 3) (List.mem_of_getElem? (i := 40) rfl)) (by decide), ?_⟩
  refine List.forall_mem_cons.mpr ⟨s_aload_n (dd_X9_handed (73, .aload_n 0, 1) (List.mem_of_getElem? (i := 41) rfl)) rfl, ?_⟩
  refine List.forall_mem_cons.mpr ⟨s_iload_n (dd_X9_handed (74, .iload_n 1, 1) (List.mem_of_getElem? (i := 42) rfl)) rfl, ?_⟩
  refine List.forall_mem_cons.mpr ⟨⟨s_callV (ci := 9) rfl mo173 rfl rfl (dd_X9_handed (75, .invokevirtual 286, 3) (List.mem_of_getElem? (i := 43) rfl)) ow_X9_handed ml9_286 mi173 msl173 in_9 mn173, mo173⟩, ?_⟩
  refine List.forall_mem_cons.mpr ⟨s_goto (dd_X9_handed (78, .goto 4, 3) (List.mem_of_getElem? (i := 44) rfl)) (by decide), ?_⟩
  refine List.forall_mem_cons.mpr ⟨s_iload_n (dd_X9_handed (81, .iload_n 3, 1) (List.mem_of_getElem? (i := 45) rfl)) rfl, ?_⟩
  refine List.forall_mem_cons.mpr ⟨Or.inr (Or.inl ⟨rfl, (dd_X9_handed (82, .ireturn, 1) (List.mem_of_getElem? (i := 46) rfl)), rfl⟩), ?_⟩
  exact fun _ h => absurd h List.not_mem_nil
theorem ow_X9_light : (mtJ 175).1.cls = "SatchelSinsModel" := rfl
def D_X9_light : List (Nat × Instr × Nat) := [(0, .iload_n 1, 1), (1, .i2l, 1), (2, .lconst 0, 1), (3, .ldc2_w 248, 3), (6, .invokestatic 94, 3), (9, .ifCond .eq 15, 3), (12, .iload_n 2, 1), (13, .i2l, 1), (14, .lconst 0, 1), (15, .ldc2_w 289, 3), (18, .invokestatic 94, 3), (21, .ifCond .ne 6, 3), (24, .ldc 103, 2), (26, .ireturn, 1), (27, .ldc2_w 291, 3), (30, .lstore_n 3, 1), (31, .iconst 0, 1), (32, .istore 5, 2), (34, .iload 5, 2), (36, .iload_n 1, 1), (37, .if_icmp .ge 18, 3), (40, .lload_n 3, 1), (41, .iload_n 2, 1), (42, .i2l, 1), (43, .lmul, 1), (44, .ldc2_w 289, 3), (47, .ldiv, 1), (48, .lstore_n 3, 1), (49, .iinc 5 1, 3), (52, .goto (-18), 3), (55, .lload_n 3, 1), (56, .l2i, 1), (57, .ireturn, 1)]
theorem dd_X9_light : ∀ e ∈ D_X9_light, decode (mtJ 175).2.1 e.1 = .ok e.2 := by decide +kernel
set_option maxRecDepth 10000 in
theorem so_X9_light : ∀ e ∈ o_X9_light, SndO 175 e.1 e.2 := by
  refine List.forall_mem_cons.mpr ⟨s_iload_n (dd_X9_light (0, .iload_n 1, 1) (List.mem_of_getElem? (i := 0) rfl)) rfl, ?_⟩
  refine List.forall_mem_cons.mpr ⟨s_i2l (dd_X9_light (1, .i2l, 1) (List.mem_of_getElem? (i := 1) rfl)), ?_⟩
  refine List.forall_mem_cons.mpr ⟨s_lconst (dd_X9_light (2, .lconst 0, 1) (List.mem_of_getElem? (i := 2) rfl)) rfl, ?_⟩
  refine List.forall_mem_cons.mpr ⟨s_ldc2 (dd_X9_light (3, .ldc2_w 248, 3) (List.mem_of_getElem? (i := 3) rfl)) ow_X9_light kl9_248, ?_⟩
  refine List.forall_mem_cons.mpr ⟨⟨s_callS mo117 rfl (dd_X9_light (6, .invokestatic 94, 3) (List.mem_of_getElem? (i := 4) rfl)) ow_X9_light ml9_94 ms117 mn117, mo117⟩, ?_⟩
  refine List.forall_mem_cons.mpr ⟨s_if_eq (dd_X9_light (9, .ifCond .eq 15, 3) (List.mem_of_getElem? (i := 5) rfl)) (by decide), ?_⟩
  refine List.forall_mem_cons.mpr ⟨s_iload_n (dd_X9_light (12, .iload_n 2, 1) (List.mem_of_getElem? (i := 6) rfl)) rfl, ?_⟩
  refine List.forall_mem_cons.mpr ⟨s_i2l (dd_X9_light (13, .i2l, 1) (List.mem_of_getElem? (i := 7) rfl)), ?_⟩
  refine List.forall_mem_cons.mpr ⟨s_lconst (dd_X9_light (14, .lconst 0, 1) (List.mem_of_getElem? (i := 8) rfl)) rfl, ?_⟩
  refine List.forall_mem_cons.mpr ⟨s_ldc2 (dd_X9_light (15, .ldc2_w 289, 3) (List.mem_of_getElem? (i := 9) rfl)) ow_X9_light kl9_289, ?_⟩
  refine List.forall_mem_cons.mpr ⟨⟨s_callS mo117 rfl (dd_X9_light (18, .invokestatic 94, 3) (List.mem_of_getElem? (i := 10) rfl)) ow_X9_light ml9_94 ms117 mn117, mo117⟩, ?_⟩
  refine List.forall_mem_cons.mpr ⟨s_if_ne (dd_X9_light (21, .ifCond .ne 6, 3) (List.mem_of_getElem? (i := 11) rfl)) (by decide), ?_⟩
  refine List.forall_mem_cons.mpr ⟨s_ldc (dd_X9_light (24, .ldc 103, 2) (List.mem_of_getElem? (i := 12) rfl)) ow_X9_light ki9_103, ?_⟩
  refine List.forall_mem_cons.mpr ⟨Or.inr (Or.inl ⟨rfl, (dd_X9_light (26, .ireturn, 1) (List.mem_of_getElem? (i := 13) rfl)), rfl⟩), ?_⟩
  refine List.forall_mem_cons.mpr ⟨s_ldc2 (dd_X9_light (27, .ldc2_w 291, 3) (List.mem_of_getElem? (i := 14) rfl)) ow_X9_light kl9_291, ?_⟩
  refine List.forall_mem_cons.mpr ⟨s_lstore_n (dd_X9_light (30, .lstore_n 3, 1) (List.mem_of_getElem? (i := 15) rfl)) rfl, ?_⟩
  refine List.forall_mem_cons.mpr ⟨s_iconst (dd_X9_light (31, .iconst 0, 1) (List.mem_of_getElem? (i := 16) rfl)) rfl, ?_⟩
  refine List.forall_mem_cons.mpr ⟨s_istore (dd_X9_light (32, .istore 5, 2) (List.mem_of_getElem? (i := 17) rfl)), ?_⟩
  refine List.forall_mem_cons.mpr ⟨s_iload (dd_X9_light (34, .iload 5, 2) (List.mem_of_getElem? (i := 18) rfl)), ?_⟩
  refine List.forall_mem_cons.mpr ⟨s_iload_n (dd_X9_light (36, .iload_n 1, 1) (List.mem_of_getElem? (i := 19) rfl)) rfl, ?_⟩
  refine List.forall_mem_cons.mpr ⟨s_icmp_ge (dd_X9_light (37, .if_icmp .ge 18, 3) (List.mem_of_getElem? (i := 20) rfl)) (by decide), ?_⟩
  refine List.forall_mem_cons.mpr ⟨s_lload_n (dd_X9_light (40, .lload_n 3, 1) (List.mem_of_getElem? (i := 21) rfl)) rfl, ?_⟩
  refine List.forall_mem_cons.mpr ⟨s_iload_n (dd_X9_light (41, .iload_n 2, 1) (List.mem_of_getElem? (i := 22) rfl)) rfl, ?_⟩
  refine List.forall_mem_cons.mpr ⟨s_i2l (dd_X9_light (42, .i2l, 1) (List.mem_of_getElem? (i := 23) rfl)), ?_⟩
  refine List.forall_mem_cons.mpr ⟨s_lmul (dd_X9_light (43, .lmul, 1) (List.mem_of_getElem? (i := 24) rfl)), ?_⟩
  refine List.forall_mem_cons.mpr ⟨s_ldc2 (dd_X9_light (44, .ldc2_w 289, 3) (List.mem_of_getElem? (i := 25) rfl)) ow_X9_light kl9_289, ?_⟩
  refine List.forall_mem_cons.mpr ⟨s_ldiv (dd_X9_light (47, .ldiv, 1) (List.mem_of_getElem? (i := 26) rfl)), ?_⟩
  refine List.forall_mem_cons.mpr ⟨s_lstore_n (dd_X9_light (48, .lstore_n 3, 1) (List.mem_of_getElem? (i := 27) rfl)) rfl, ?_⟩
  refine List.forall_mem_cons.mpr ⟨s_iinc (dd_X9_light (49, .iinc 5 1, 3) (List.mem_of_getElem? (i := 28) rfl)) rfl, ?_⟩
  refine List.forall_mem_cons.mpr ⟨s_goto (dd_X9_light (52, .goto (-18), 3) (List.mem_of_getElem? (i := 29) rfl)) (by decide), ?_⟩
  refine List.forall_mem_cons.mpr ⟨s_lload_n (dd_X9_light (55, .lload_n 3, 1) (List.mem_of_getElem? (i := 30) rfl)) rfl, ?_⟩
  refine List.forall_mem_cons.mpr ⟨s_l2i (dd_X9_light (56, .l2i, 1) (List.mem_of_getElem? (i := 31) rfl)), ?_⟩
  refine List.forall_mem_cons.mpr ⟨Or.inr (Or.inl ⟨rfl, (dd_X9_light (57, .ireturn, 1) (List.mem_of_getElem? (i := 32) rfl)), rfl⟩), ?_⟩
  exact fun _ h => absurd h List.not_mem_nil
theorem ow_X9_see : (mtJ 176).1.cls = "SatchelSinsModel" := rfl
def D_X9_see : List (Nat × Instr × Nat) := [(0, .aload_n 0, 1), (1, .iload_n 1, 1), (2, .invokevirtual 201, 3), (5, .ifCond .eq 11, 3), (8, .aload_n 0, 1), (9, .iload_n 2, 1), (10, .invokevirtual 201, 3), (13, .ifCond .ne 6, 3), (16, .ldc 205, 2), (18, .ireturn, 1), (19, .aload_n 0, 1), (20, .getfield 169, 3), (23, .bipush 6, 2), (25, .if_icmp .ne 6, 3), (28, .ldc 107, 2), (30, .ireturn, 1), (31, .aload_n 0, 1), (32, .getfield 65, 3), (35, .aload_n 0, 1), (36, .getfield 169, 3), (39, .iload_n 1, 1), (40, .iastore, 1), (41, .aload_n 0, 1), (42, .getfield 68, 3), (45, .aload_n 0, 1), (46, .getfield 169, 3), (49, .iload_n 2, 1), (50, .iastore, 1), (51, .aload_n 0, 1), (52, .getfield 71, 3), (55, .aload_n 0, 1), (56, .getfield 169, 3), (59, .iload_n 3, 1), (60, .bastore, 1), (61, .aload_n 0, 1), (62, .dup, 1), (63, .getfield 169, 3), (66, .iconst 1, 1), (67, .iadd, 1), (68, .putfield 169, 3), (71, .aload_n 0, 1), (72, .getfield 169, 3), (75, .ireturn, 1)]
theorem dd_X9_see : ∀ e ∈ D_X9_see, decode (mtJ 176).2.1 e.1 = .ok e.2 := by decide +kernel
set_option maxRecDepth 10000 in
theorem so_X9_see : ∀ e ∈ o_X9_see, SndO 176 e.1 e.2 := by
  refine List.forall_mem_cons.mpr ⟨s_aload_n (dd_X9_see (0, .aload_n 0, 1) (List.mem_of_getElem? (i := 0) rfl)) rfl, ?_⟩
  refine List.forall_mem_cons.mpr ⟨s_iload_n (dd_X9_see (1, .iload_n 1, 1) (List.mem_of_getElem? (i := 1) rfl)) rfl, ?_⟩
  refine List.forall_mem_cons.mpr ⟨⟨s_callV (ci := 9) rfl mo119 rfl rfl (dd_X9_see (2, .invokevirtual 201, 3) (List.mem_of_getElem? (i := 2) rfl)) ow_X9_see ml9_201 mi119 msl119 in_9 mn119, mo119⟩, ?_⟩
  refine List.forall_mem_cons.mpr ⟨s_if_eq (dd_X9_see (5, .ifCond .eq 11, 3) (List.mem_of_getElem? (i := 3) rfl)) (by decide), ?_⟩
  refine List.forall_mem_cons.mpr ⟨s_aload_n (dd_X9_see (8, .aload_n 0, 1) (List.mem_of_getElem? (i := 4) rfl)) rfl, ?_⟩
  refine List.forall_mem_cons.mpr ⟨s_iload_n (dd_X9_see (9, .iload_n 2, 1) (List.mem_of_getElem? (i := 5) rfl)) rfl, ?_⟩
  refine List.forall_mem_cons.mpr ⟨⟨s_callV (ci := 9) rfl mo119 rfl rfl (dd_X9_see (10, .invokevirtual 201, 3) (List.mem_of_getElem? (i := 6) rfl)) ow_X9_see ml9_201 mi119 msl119 in_9 mn119, mo119⟩, ?_⟩
  refine List.forall_mem_cons.mpr ⟨s_if_ne (dd_X9_see (13, .ifCond .ne 6, 3) (List.mem_of_getElem? (i := 7) rfl)) (by decide), ?_⟩
  refine List.forall_mem_cons.mpr ⟨s_ldc (dd_X9_see (16, .ldc 205, 2) (List.mem_of_getElem? (i := 8) rfl)) ow_X9_see ki9_205, ?_⟩
  refine List.forall_mem_cons.mpr ⟨Or.inr (Or.inl ⟨rfl, (dd_X9_see (18, .ireturn, 1) (List.mem_of_getElem? (i := 9) rfl)), rfl⟩), ?_⟩
  refine List.forall_mem_cons.mpr ⟨s_aload_n (dd_X9_see (19, .aload_n 0, 1) (List.mem_of_getElem? (i := 10) rfl)) rfl, ?_⟩
  refine List.forall_mem_cons.mpr ⟨s_getI (k := 32) K9 (by decide) (dd_X9_see (20, .getfield 169, 3) (List.mem_of_getElem? (i := 11) rfl)) ow_X9_see fl9_169 rfl, ?_⟩
  refine List.forall_mem_cons.mpr ⟨s_bipush (dd_X9_see (23, .bipush 6, 2) (List.mem_of_getElem? (i := 12) rfl)) rfl, ?_⟩
  refine List.forall_mem_cons.mpr ⟨s_icmp_ne (dd_X9_see (25, .if_icmp .ne 6, 3) (List.mem_of_getElem? (i := 13) rfl)) (by decide), ?_⟩
  refine List.forall_mem_cons.mpr ⟨s_ldc (dd_X9_see (28, .ldc 107, 2) (List.mem_of_getElem? (i := 14) rfl)) ow_X9_see ki9_107, ?_⟩
  refine List.forall_mem_cons.mpr ⟨Or.inr (Or.inl ⟨rfl, (dd_X9_see (30, .ireturn, 1) (List.mem_of_getElem? (i := 15) rfl)), rfl⟩), ?_⟩
  refine List.forall_mem_cons.mpr ⟨s_aload_n (dd_X9_see (31, .aload_n 0, 1) (List.mem_of_getElem? (i := 16) rfl)) rfl, ?_⟩
  refine List.forall_mem_cons.mpr ⟨s_getR (k := 33) K9 (by decide) (dd_X9_see (32, .getfield 65, 3) (List.mem_of_getElem? (i := 17) rfl)) ow_X9_see fl9_65 rfl, ?_⟩
  refine List.forall_mem_cons.mpr ⟨s_aload_n (dd_X9_see (35, .aload_n 0, 1) (List.mem_of_getElem? (i := 18) rfl)) rfl, ?_⟩
  refine List.forall_mem_cons.mpr ⟨s_getI (k := 32) K9 (by decide) (dd_X9_see (36, .getfield 169, 3) (List.mem_of_getElem? (i := 19) rfl)) ow_X9_see fl9_169 rfl, ?_⟩
  refine List.forall_mem_cons.mpr ⟨s_iload_n (dd_X9_see (39, .iload_n 1, 1) (List.mem_of_getElem? (i := 20) rfl)) rfl, ?_⟩
  refine List.forall_mem_cons.mpr ⟨s_iast (dd_X9_see (40, .iastore, 1) (List.mem_of_getElem? (i := 21) rfl)), ?_⟩
  refine List.forall_mem_cons.mpr ⟨s_aload_n (dd_X9_see (41, .aload_n 0, 1) (List.mem_of_getElem? (i := 22) rfl)) rfl, ?_⟩
  refine List.forall_mem_cons.mpr ⟨s_getR (k := 34) K9 (by decide) (dd_X9_see (42, .getfield 68, 3) (List.mem_of_getElem? (i := 23) rfl)) ow_X9_see fl9_68 rfl, ?_⟩
  refine List.forall_mem_cons.mpr ⟨s_aload_n (dd_X9_see (45, .aload_n 0, 1) (List.mem_of_getElem? (i := 24) rfl)) rfl, ?_⟩
  refine List.forall_mem_cons.mpr ⟨s_getI (k := 32) K9 (by decide) (dd_X9_see (46, .getfield 169, 3) (List.mem_of_getElem? (i := 25) rfl)) ow_X9_see fl9_169 rfl, ?_⟩
  refine List.forall_mem_cons.mpr ⟨s_iload_n (dd_X9_see (49, .iload_n 2, 1) (List.mem_of_getElem? (i := 26) rfl)) rfl, ?_⟩
  refine List.forall_mem_cons.mpr ⟨s_iast (dd_X9_see (50, .iastore, 1) (List.mem_of_getElem? (i := 27) rfl)), ?_⟩
  refine List.forall_mem_cons.mpr ⟨s_aload_n (dd_X9_see (51, .aload_n 0, 1) (List.mem_of_getElem? (i := 28) rfl)) rfl, ?_⟩
  refine List.forall_mem_cons.mpr ⟨s_getR (k := 35) K9 (by decide) (dd_X9_see (52, .getfield 71, 3) (List.mem_of_getElem? (i := 29) rfl)) ow_X9_see fl9_71 rfl, ?_⟩
  refine List.forall_mem_cons.mpr ⟨s_aload_n (dd_X9_see (55, .aload_n 0, 1) (List.mem_of_getElem? (i := 30) rfl)) rfl, ?_⟩
  refine List.forall_mem_cons.mpr ⟨s_getI (k := 32) K9 (by decide) (dd_X9_see (56, .getfield 169, 3) (List.mem_of_getElem? (i := 31) rfl)) ow_X9_see fl9_169 rfl, ?_⟩
  refine List.forall_mem_cons.mpr ⟨s_iload_n (dd_X9_see (59, .iload_n 3, 1) (List.mem_of_getElem? (i := 32) rfl)) rfl, ?_⟩
  refine List.forall_mem_cons.mpr ⟨s_bast (dd_X9_see (60, .bastore, 1) (List.mem_of_getElem? (i := 33) rfl)), ?_⟩
  refine List.forall_mem_cons.mpr ⟨s_aload_n (dd_X9_see (61, .aload_n 0, 1) (List.mem_of_getElem? (i := 34) rfl)) rfl, ?_⟩
  refine List.forall_mem_cons.mpr ⟨s_dup (dd_X9_see (62, .dup, 1) (List.mem_of_getElem? (i := 35) rfl)), ?_⟩
  refine List.forall_mem_cons.mpr ⟨s_getI (k := 32) K9 (by decide) (dd_X9_see (63, .getfield 169, 3) (List.mem_of_getElem? (i := 36) rfl)) ow_X9_see fl9_169 rfl, ?_⟩
  refine List.forall_mem_cons.mpr ⟨s_iconst (dd_X9_see (66, .iconst 1, 1) (List.mem_of_getElem? (i := 37) rfl)) rfl, ?_⟩
  refine List.forall_mem_cons.mpr ⟨s_iadd (dd_X9_see (67, .iadd, 1) (List.mem_of_getElem? (i := 38) rfl)), ?_⟩
  refine List.forall_mem_cons.mpr ⟨s_putI (k := 32) K9 (by decide) (dd_X9_see (68, .putfield 169, 3) (List.mem_of_getElem? (i := 39) rfl)) ow_X9_see fl9_169 (Or.inl rfl) rfl, ?_⟩
  refine List.forall_mem_cons.mpr ⟨s_aload_n (dd_X9_see (71, .aload_n 0, 1) (List.mem_of_getElem? (i := 40) rfl)) rfl, ?_⟩
  refine List.forall_mem_cons.mpr ⟨s_getI (k := 32) K9 (by decide) (dd_X9_see (72, .getfield 169, 3) (List.mem_of_getElem? (i := 41) rfl)) ow_X9_see fl9_169 rfl, ?_⟩
  refine List.forall_mem_cons.mpr ⟨Or.inr (Or.inl ⟨rfl, (dd_X9_see (75, .ireturn, 1) (List.mem_of_getElem? (i := 42) rfl)), rfl⟩), ?_⟩
  exact fun _ h => absurd h List.not_mem_nil
theorem ow_X9_lies : (mtJ 177).1.cls = "SatchelSinsModel" := rfl
def D_X9_lies : List (Nat × Instr × Nat) := [(0, .iconst 0, 1), (1, .istore_n 3, 1), (2, .iconst 0, 1), (3, .istore 4, 2), (5, .iload 4, 2), (7, .aload_n 0, 1), (8, .getfield 98, 3), (11, .if_icmp .ge 41, 3), (14, .iload_n 3, 1), (15, .ifCond .ne 25, 3), (18, .aload_n 0, 1), (19, .iload 4, 2), (21, .iconst 3, 1), (22, .iload_n 1, 1), (23, .invokevirtual 178, 3), (26, .ifCond .eq 18, 3), (29, .aload_n 0, 1), (30, .getfield 19, 3), (33, .iload 4, 2), (35, .iaload, 1), (36, .iload_n 2, 1), (37, .if_icmp .ne 7, 3), (40, .iconst 1, 1), (41, .goto 4, 3), (44, .iconst 0, 1), (45, .istore_n 3, 1), (46, .iinc 4 1, 3), (49, .goto (-44), 3), (52, .iload_n 3, 1), (53, .ireturn, 1)]
theorem dd_X9_lies : ∀ e ∈ D_X9_lies, decode (mtJ 177).2.1 e.1 = .ok e.2 := by decide +kernel
set_option maxRecDepth 10000 in
theorem so_X9_lies : ∀ e ∈ o_X9_lies, SndO 177 e.1 e.2 := by
  refine List.forall_mem_cons.mpr ⟨s_iconst (dd_X9_lies (0, .iconst 0, 1) (List.mem_of_getElem? (i := 0) rfl)) rfl, ?_⟩
  refine List.forall_mem_cons.mpr ⟨s_istore_n (dd_X9_lies (1, .istore_n 3, 1) (List.mem_of_getElem? (i := 1) rfl)) rfl, ?_⟩
  refine List.forall_mem_cons.mpr ⟨s_iconst (dd_X9_lies (2, .iconst 0, 1) (List.mem_of_getElem? (i := 2) rfl)) rfl, ?_⟩
  refine List.forall_mem_cons.mpr ⟨s_istore (dd_X9_lies (3, .istore 4, 2) (List.mem_of_getElem? (i := 3) rfl)), ?_⟩
  refine List.forall_mem_cons.mpr ⟨s_iload (dd_X9_lies (5, .iload 4, 2) (List.mem_of_getElem? (i := 4) rfl)), ?_⟩
  refine List.forall_mem_cons.mpr ⟨s_aload_n (dd_X9_lies (7, .aload_n 0, 1) (List.mem_of_getElem? (i := 5) rfl)) rfl, ?_⟩
  refine List.forall_mem_cons.mpr ⟨s_getI (k := 6) K9 (by decide) (dd_X9_lies (8, .getfield 98, 3) (List.mem_of_getElem? (i := 6) rfl)) ow_X9_lies fl9_98 rfl, ?_⟩
  refine List.forall_mem_cons.mpr ⟨s_icmp_ge (dd_X9_lies (11, .if_icmp .ge 41, 3) (List.mem_of_getElem? (i := 7) rfl)) (by decide), ?_⟩
  refine List.forall_mem_cons.mpr ⟨s_iload_n (dd_X9_lies (14, .iload_n 3, 1) (List.mem_of_getElem? (i := 8) rfl)) rfl, ?_⟩
  refine List.forall_mem_cons.mpr ⟨s_if_ne (dd_X9_lies (15, .ifCond .ne 25, 3) (List.mem_of_getElem? (i := 9) rfl)) (by decide), ?_⟩
  refine List.forall_mem_cons.mpr ⟨s_aload_n (dd_X9_lies (18, .aload_n 0, 1) (List.mem_of_getElem? (i := 10) rfl)) rfl, ?_⟩
  refine List.forall_mem_cons.mpr ⟨s_iload (dd_X9_lies (19, .iload 4, 2) (List.mem_of_getElem? (i := 11) rfl)), ?_⟩
  refine List.forall_mem_cons.mpr ⟨s_iconst (dd_X9_lies (21, .iconst 3, 1) (List.mem_of_getElem? (i := 12) rfl)) rfl, ?_⟩
  refine List.forall_mem_cons.mpr ⟨s_iload_n (dd_X9_lies (22, .iload_n 1, 1) (List.mem_of_getElem? (i := 13) rfl)) rfl, ?_⟩
  refine List.forall_mem_cons.mpr ⟨⟨s_callV (ci := 9) rfl mo134 rfl rfl (dd_X9_lies (23, .invokevirtual 178, 3) (List.mem_of_getElem? (i := 14) rfl)) ow_X9_lies ml9_178 mi134 msl134 in_9 mn134, mo134⟩, ?_⟩
  refine List.forall_mem_cons.mpr ⟨s_if_eq (dd_X9_lies (26, .ifCond .eq 18, 3) (List.mem_of_getElem? (i := 15) rfl)) (by decide), ?_⟩
  refine List.forall_mem_cons.mpr ⟨s_aload_n (dd_X9_lies (29, .aload_n 0, 1) (List.mem_of_getElem? (i := 16) rfl)) rfl, ?_⟩
  refine List.forall_mem_cons.mpr ⟨s_getR (k := 7) K9 (by decide) (dd_X9_lies (30, .getfield 19, 3) (List.mem_of_getElem? (i := 17) rfl)) ow_X9_lies fl9_19 rfl, ?_⟩
  refine List.forall_mem_cons.mpr ⟨s_iload (dd_X9_lies (33, .iload 4, 2) (List.mem_of_getElem? (i := 18) rfl)), ?_⟩
  refine List.forall_mem_cons.mpr ⟨s_iald (dd_X9_lies (35, .iaload, 1) (List.mem_of_getElem? (i := 19) rfl)), ?_⟩
  refine List.forall_mem_cons.mpr ⟨s_iload_n (dd_X9_lies (36, .iload_n 2, 1) (List.mem_of_getElem? (i := 20) rfl)) rfl, ?_⟩
  refine List.forall_mem_cons.mpr ⟨s_icmp_ne (dd_X9_lies (37, .if_icmp .ne 7, 3) (List.mem_of_getElem? (i := 21) rfl)) (by decide), ?_⟩
  refine List.forall_mem_cons.mpr ⟨s_iconst (dd_X9_lies (40, .iconst 1, 1) (List.mem_of_getElem? (i := 22) rfl)) rfl, ?_⟩
  refine List.forall_mem_cons.mpr ⟨s_goto (dd_X9_lies (41, .goto 4, 3) (List.mem_of_getElem? (i := 23) rfl)) (by decide), ?_⟩
  refine List.forall_mem_cons.mpr ⟨s_iconst (dd_X9_lies (44, .iconst 0, 1) (List.mem_of_getElem? (i := 24) rfl)) rfl, ?_⟩
  refine List.forall_mem_cons.mpr ⟨s_istore_n (dd_X9_lies (45, .istore_n 3, 1) (List.mem_of_getElem? (i := 25) rfl)) rfl, ?_⟩
  refine List.forall_mem_cons.mpr ⟨s_iinc (dd_X9_lies (46, .iinc 4 1, 3) (List.mem_of_getElem? (i := 26) rfl)) rfl, ?_⟩
  refine List.forall_mem_cons.mpr ⟨s_goto (dd_X9_lies (49, .goto (-44), 3) (List.mem_of_getElem? (i := 27) rfl)) (by decide), ?_⟩
  refine List.forall_mem_cons.mpr ⟨s_iload_n (dd_X9_lies (52, .iload_n 3, 1) (List.mem_of_getElem? (i := 28) rfl)) rfl, ?_⟩
  refine List.forall_mem_cons.mpr ⟨Or.inr (Or.inr ⟨rfl, (dd_X9_lies (53, .ireturn, 1) (List.mem_of_getElem? (i := 29) rfl)), rfl⟩), ?_⟩
  exact fun _ h => absurd h List.not_mem_nil
theorem ow_X9_hold : (mtJ 178).1.cls = "SatchelSinsModel" := rfl
def D_X9_hold : List (Nat × Instr × Nat) := [(0, .iconst 1, 1), (1, .istore_n 1, 1), (2, .iconst 0, 1), (3, .istore_n 2, 1), (4, .iload_n 2, 1), (5, .aload_n 0, 1), (6, .getfield 169, 3), (9, .if_icmp .ge 44, 3), (12, .iload_n 1, 1), (13, .ifCond .eq 32, 3), (16, .aload_n 0, 1), (17, .aload_n 0, 1), (18, .getfield 65, 3), (21, .iload_n 2, 1), (22, .iaload, 1), (23, .aload_n 0, 1), (24, .getfield 68, 3), (27, .iload_n 2, 1), (28, .iaload, 1), (29, .invokevirtual 293, 3), (32, .aload_n 0, 1), (33, .getfield 71, 3), (36, .iload_n 2, 1), (37, .baload, 1), (38, .if_icmp .ne 7, 3), (41, .iconst 1, 1), (42, .goto 4, 3), (45, .iconst 0, 1), (46, .istore_n 1, 1), (47, .iinc 2 1, 3), (50, .goto (-46), 3), (53, .iload_n 1, 1), (54, .ifCond .eq 7, 3), (57, .iconst 1, 1), (58, .goto 4, 3), (61, .iconst 0, 1), (62, .ireturn, 1)]
theorem dd_X9_hold : ∀ e ∈ D_X9_hold, decode (mtJ 178).2.1 e.1 = .ok e.2 := by decide +kernel
set_option maxRecDepth 10000 in
theorem so_X9_hold : ∀ e ∈ o_X9_hold, SndO 178 e.1 e.2 := by
  refine List.forall_mem_cons.mpr ⟨s_iconst (dd_X9_hold (0, .iconst 1, 1) (List.mem_of_getElem? (i := 0) rfl)) rfl, ?_⟩
  refine List.forall_mem_cons.mpr ⟨s_istore_n (dd_X9_hold (1, .istore_n 1, 1) (List.mem_of_getElem? (i := 1) rfl)) rfl, ?_⟩
  refine List.forall_mem_cons.mpr ⟨s_iconst (dd_X9_hold (2, .iconst 0, 1) (List.mem_of_getElem? (i := 2) rfl)) rfl, ?_⟩
  refine List.forall_mem_cons.mpr ⟨s_istore_n (dd_X9_hold (3, .istore_n 2, 1) (List.mem_of_getElem? (i := 3) rfl)) rfl, ?_⟩
  refine List.forall_mem_cons.mpr ⟨s_iload_n (dd_X9_hold (4, .iload_n 2, 1) (List.mem_of_getElem? (i := 4) rfl)) rfl, ?_⟩
  refine List.forall_mem_cons.mpr ⟨s_aload_n (dd_X9_hold (5, .aload_n 0, 1) (List.mem_of_getElem? (i := 5) rfl)) rfl, ?_⟩
  refine List.forall_mem_cons.mpr ⟨s_getI (k := 32) K9 (by decide) (dd_X9_hold (6, .getfield 169, 3) (List.mem_of_getElem? (i := 6) rfl)) ow_X9_hold fl9_169 rfl, ?_⟩
  refine List.forall_mem_cons.mpr ⟨s_icmp_ge (dd_X9_hold (9, .if_icmp .ge 44, 3) (List.mem_of_getElem? (i := 7) rfl)) (by decide), ?_⟩
  refine List.forall_mem_cons.mpr ⟨s_iload_n (dd_X9_hold (12, .iload_n 1, 1) (List.mem_of_getElem? (i := 8) rfl)) rfl, ?_⟩
  refine List.forall_mem_cons.mpr ⟨s_if_eq (dd_X9_hold (13, .ifCond .eq 32, 3) (List.mem_of_getElem? (i := 9) rfl)) (by decide), ?_⟩
  refine List.forall_mem_cons.mpr ⟨s_aload_n (dd_X9_hold (16, .aload_n 0, 1) (List.mem_of_getElem? (i := 10) rfl)) rfl, ?_⟩
  refine List.forall_mem_cons.mpr ⟨s_aload_n (dd_X9_hold (17, .aload_n 0, 1) (List.mem_of_getElem? (i := 11) rfl)) rfl, ?_⟩
  refine List.forall_mem_cons.mpr ⟨s_getR (k := 33) K9 (by decide) (dd_X9_hold (18, .getfield 65, 3) (List.mem_of_getElem? (i := 12) rfl)) ow_X9_hold fl9_65 rfl, ?_⟩
  refine List.forall_mem_cons.mpr ⟨s_iload_n (dd_X9_hold (21, .iload_n 2, 1) (List.mem_of_getElem? (i := 13) rfl)) rfl, ?_⟩
  refine List.forall_mem_cons.mpr ⟨s_iald (dd_X9_hold (22, .iaload, 1) (List.mem_of_getElem? (i := 14) rfl)), ?_⟩
  refine List.forall_mem_cons.mpr ⟨s_aload_n (dd_X9_hold (23, .aload_n 0, 1) (List.mem_of_getElem? (i := 15) rfl)) rfl, ?_⟩
  refine List.forall_mem_cons.mpr ⟨s_getR (k := 34) K9 (by decide) (dd_X9_hold (24, .getfield 68, 3) (List.mem_of_getElem? (i := 16) rfl)) ow_X9_hold fl9_68 rfl, ?_⟩
  refine List.forall_mem_cons.mpr ⟨s_iload_n (dd_X9_hold (27, .iload_n 2, 1) (List.mem_of_getElem? (i := 17) rfl)) rfl, ?_⟩
  refine List.forall_mem_cons.mpr ⟨s_iald (dd_X9_hold (28, .iaload, 1) (List.mem_of_getElem? (i := 18) rfl)), ?_⟩
  refine List.forall_mem_cons.mpr ⟨⟨s_callV (ci := 9) rfl mo177 rfl rfl (dd_X9_hold (29, .invokevirtual 293, 3) (List.mem_of_getElem? (i := 19) rfl)) ow_X9_hold ml9_293 mi177 msl177 in_9 mn177, mo177⟩, ?_⟩
  refine List.forall_mem_cons.mpr ⟨s_aload_n (dd_X9_hold (32, .aload_n 0, 1) (List.mem_of_getElem? (i := 20) rfl)) rfl, ?_⟩
  refine List.forall_mem_cons.mpr ⟨s_getR (k := 35) K9 (by decide) (dd_X9_hold (33, .getfield 71, 3) (List.mem_of_getElem? (i := 21) rfl)) ow_X9_hold fl9_71 rfl, ?_⟩
  refine List.forall_mem_cons.mpr ⟨s_iload_n (dd_X9_hold (36, .iload_n 2, 1) (List.mem_of_getElem? (i := 22) rfl)) rfl, ?_⟩
  refine List.forall_mem_cons.mpr ⟨s_bald (dd_X9_hold (37, .baload, 1) (List.mem_of_getElem? (i := 23) rfl)), ?_⟩
  refine List.forall_mem_cons.mpr ⟨s_icmp_ne (dd_X9_hold (38, .if_icmp .ne 7, 3) (List.mem_of_getElem? (i := 24) rfl)) (by decide), ?_⟩
  refine List.forall_mem_cons.mpr ⟨s_iconst (dd_X9_hold (41, .iconst 1, 1) (List.mem_of_getElem? (i := 25) rfl)) rfl, ?_⟩
  refine List.forall_mem_cons.mpr ⟨s_goto (dd_X9_hold (42, .goto 4, 3) (List.mem_of_getElem? (i := 26) rfl)) (by decide), ?_⟩
  refine List.forall_mem_cons.mpr ⟨s_iconst (dd_X9_hold (45, .iconst 0, 1) (List.mem_of_getElem? (i := 27) rfl)) rfl, ?_⟩
  refine List.forall_mem_cons.mpr ⟨s_istore_n (dd_X9_hold (46, .istore_n 1, 1) (List.mem_of_getElem? (i := 28) rfl)) rfl, ?_⟩
  refine List.forall_mem_cons.mpr ⟨s_iinc (dd_X9_hold (47, .iinc 2 1, 3) (List.mem_of_getElem? (i := 29) rfl)) rfl, ?_⟩
  refine List.forall_mem_cons.mpr ⟨s_goto (dd_X9_hold (50, .goto (-46), 3) (List.mem_of_getElem? (i := 30) rfl)) (by decide), ?_⟩
  refine List.forall_mem_cons.mpr ⟨s_iload_n (dd_X9_hold (53, .iload_n 1, 1) (List.mem_of_getElem? (i := 31) rfl)) rfl, ?_⟩
  refine List.forall_mem_cons.mpr ⟨s_if_eq (dd_X9_hold (54, .ifCond .eq 7, 3) (List.mem_of_getElem? (i := 32) rfl)) (by decide), ?_⟩
  refine List.forall_mem_cons.mpr ⟨s_iconst (dd_X9_hold (57, .iconst 1, 1) (List.mem_of_getElem? (i := 33) rfl)) rfl, ?_⟩
  refine List.forall_mem_cons.mpr ⟨s_goto (dd_X9_hold (58, .goto 4, 3) (List.mem_of_getElem? (i := 34) rfl)) (by decide), ?_⟩
  refine List.forall_mem_cons.mpr ⟨s_iconst (dd_X9_hold (61, .iconst 0, 1) (List.mem_of_getElem? (i := 35) rfl)) rfl, ?_⟩
  refine List.forall_mem_cons.mpr ⟨Or.inr (Or.inl ⟨rfl, (dd_X9_hold (62, .ireturn, 1) (List.mem_of_getElem? (i := 36) rfl)), rfl⟩), ?_⟩
  exact fun _ h => absurd h List.not_mem_nil
theorem ow_X9_write : (mtJ 179).1.cls = "SatchelSinsModel" := rfl
def D_X9_write : List (Nat × Instr × Nat) := [(0, .aload_n 0, 1), (1, .iload_n 1, 1), (2, .invokevirtual 201, 3), (5, .ifCond .ne 6, 3), (8, .ldc 205, 2), (10, .ireturn, 1), (11, .iload_n 2, 1), (12, .i2l, 1), (13, .lconst 0, 1), (14, .ldc2_w 276, 3), (17, .invokestatic 94, 3), (20, .ifCond .ne 6, 3), (23, .ldc 103, 2), (25, .ireturn, 1), (26, .aload_n 0, 1), (27, .getfield 172, 3), (30, .bipush 15, 2), (32, .if_icmp .ne 6, 3), (35, .ldc 107, 2), (37, .ireturn, 1), (38, .aload_n 0, 1), (39, .getfield 75, 3), (42, .aload_n 0, 1), (43, .getfield 172, 3), (46, .iload_n 1, 1), (47, .iastore, 1), (48, .aload_n 0, 1), (49, .getfield 78, 3), (52, .aload_n 0, 1), (53, .getfield 172, 3), (56, .iload_n 2, 1), (57, .iastore, 1), (58, .aload_n 0, 1), (59, .dup, 1), (60, .getfield 172, 3), (63, .iconst 1, 1), (64, .iadd, 1), (65, .putfield 172, 3), (68, .aload_n 0, 1), (69, .getfield 172, 3), (72, .ireturn, 1)]
theorem dd_X9_write : ∀ e ∈ D_X9_write, decode (mtJ 179).2.1 e.1 = .ok e.2 := by decide +kernel
set_option maxRecDepth 10000 in
theorem so_X9_write : ∀ e ∈ o_X9_write, SndO 179 e.1 e.2 := by
  refine List.forall_mem_cons.mpr ⟨s_aload_n (dd_X9_write (0, .aload_n 0, 1) (List.mem_of_getElem? (i := 0) rfl)) rfl, ?_⟩
  refine List.forall_mem_cons.mpr ⟨s_iload_n (dd_X9_write (1, .iload_n 1, 1) (List.mem_of_getElem? (i := 1) rfl)) rfl, ?_⟩
  refine List.forall_mem_cons.mpr ⟨⟨s_callV (ci := 9) rfl mo119 rfl rfl (dd_X9_write (2, .invokevirtual 201, 3) (List.mem_of_getElem? (i := 2) rfl)) ow_X9_write ml9_201 mi119 msl119 in_9 mn119, mo119⟩, ?_⟩
  refine List.forall_mem_cons.mpr ⟨s_if_ne (dd_X9_write (5, .ifCond .ne 6, 3) (List.mem_of_getElem? (i := 3) rfl)) (by decide), ?_⟩
  refine List.forall_mem_cons.mpr ⟨s_ldc (dd_X9_write (8, .ldc 205, 2) (List.mem_of_getElem? (i := 4) rfl)) ow_X9_write ki9_205, ?_⟩
  refine List.forall_mem_cons.mpr ⟨Or.inr (Or.inl ⟨rfl, (dd_X9_write (10, .ireturn, 1) (List.mem_of_getElem? (i := 5) rfl)), rfl⟩), ?_⟩
  refine List.forall_mem_cons.mpr ⟨s_iload_n (dd_X9_write (11, .iload_n 2, 1) (List.mem_of_getElem? (i := 6) rfl)) rfl, ?_⟩
  refine List.forall_mem_cons.mpr ⟨s_i2l (dd_X9_write (12, .i2l, 1) (List.mem_of_getElem? (i := 7) rfl)), ?_⟩
  refine List.forall_mem_cons.mpr ⟨s_lconst (dd_X9_write (13, .lconst 0, 1) (List.mem_of_getElem? (i := 8) rfl)) rfl, ?_⟩
  refine List.forall_mem_cons.mpr ⟨s_ldc2 (dd_X9_write (14, .ldc2_w 276, 3) (List.mem_of_getElem? (i := 9) rfl)) ow_X9_write kl9_276, ?_⟩
  refine List.forall_mem_cons.mpr ⟨⟨s_callS mo117 rfl (dd_X9_write (17, .invokestatic 94, 3) (List.mem_of_getElem? (i := 10) rfl)) ow_X9_write ml9_94 ms117 mn117, mo117⟩, ?_⟩
  refine List.forall_mem_cons.mpr ⟨s_if_ne (dd_X9_write (20, .ifCond .ne 6, 3) (List.mem_of_getElem? (i := 11) rfl)) (by decide), ?_⟩
  refine List.forall_mem_cons.mpr ⟨s_ldc (dd_X9_write (23, .ldc 103, 2) (List.mem_of_getElem? (i := 12) rfl)) ow_X9_write ki9_103, ?_⟩
  refine List.forall_mem_cons.mpr ⟨Or.inr (Or.inl ⟨rfl, (dd_X9_write (25, .ireturn, 1) (List.mem_of_getElem? (i := 13) rfl)), rfl⟩), ?_⟩
  refine List.forall_mem_cons.mpr ⟨s_aload_n (dd_X9_write (26, .aload_n 0, 1) (List.mem_of_getElem? (i := 14) rfl)) rfl, ?_⟩
  refine List.forall_mem_cons.mpr ⟨s_getI (k := 36) K9 (by decide) (dd_X9_write (27, .getfield 172, 3) (List.mem_of_getElem? (i := 15) rfl)) ow_X9_write fl9_172 rfl, ?_⟩
  refine List.forall_mem_cons.mpr ⟨s_bipush (dd_X9_write (30, .bipush 15, 2) (List.mem_of_getElem? (i := 16) rfl)) rfl, ?_⟩
  refine List.forall_mem_cons.mpr ⟨s_icmp_ne (dd_X9_write (32, .if_icmp .ne 6, 3) (List.mem_of_getElem? (i := 17) rfl)) (by decide), ?_⟩
  refine List.forall_mem_cons.mpr ⟨s_ldc (dd_X9_write (35, .ldc 107, 2) (List.mem_of_getElem? (i := 18) rfl)) ow_X9_write ki9_107, ?_⟩
  refine List.forall_mem_cons.mpr ⟨Or.inr (Or.inl ⟨rfl, (dd_X9_write (37, .ireturn, 1) (List.mem_of_getElem? (i := 19) rfl)), rfl⟩), ?_⟩
  refine List.forall_mem_cons.mpr ⟨s_aload_n (dd_X9_write (38, .aload_n 0, 1) (List.mem_of_getElem? (i := 20) rfl)) rfl, ?_⟩
  refine List.forall_mem_cons.mpr ⟨s_getR (k := 37) K9 (by decide) (dd_X9_write (39, .getfield 75, 3) (List.mem_of_getElem? (i := 21) rfl)) ow_X9_write fl9_75 rfl, ?_⟩
  refine List.forall_mem_cons.mpr ⟨s_aload_n (dd_X9_write (42, .aload_n 0, 1) (List.mem_of_getElem? (i := 22) rfl)) rfl, ?_⟩
  refine List.forall_mem_cons.mpr ⟨s_getI (k := 36) K9 (by decide) (dd_X9_write (43, .getfield 172, 3) (List.mem_of_getElem? (i := 23) rfl)) ow_X9_write fl9_172 rfl, ?_⟩
  refine List.forall_mem_cons.mpr ⟨s_iload_n (dd_X9_write (46, .iload_n 1, 1) (List.mem_of_getElem? (i := 24) rfl)) rfl, ?_⟩
  refine List.forall_mem_cons.mpr ⟨s_iast (dd_X9_write (47, .iastore, 1) (List.mem_of_getElem? (i := 25) rfl)), ?_⟩
  refine List.forall_mem_cons.mpr ⟨s_aload_n (dd_X9_write (48, .aload_n 0, 1) (List.mem_of_getElem? (i := 26) rfl)) rfl, ?_⟩
  refine List.forall_mem_cons.mpr ⟨s_getR (k := 38) K9 (by decide) (dd_X9_write (49, .getfield 78, 3) (List.mem_of_getElem? (i := 27) rfl)) ow_X9_write fl9_78 rfl, ?_⟩
  refine List.forall_mem_cons.mpr ⟨s_aload_n (dd_X9_write (52, .aload_n 0, 1) (List.mem_of_getElem? (i := 28) rfl)) rfl, ?_⟩
  refine List.forall_mem_cons.mpr ⟨s_getI (k := 36) K9 (by decide) (dd_X9_write (53, .getfield 172, 3) (List.mem_of_getElem? (i := 29) rfl)) ow_X9_write fl9_172 rfl, ?_⟩
  refine List.forall_mem_cons.mpr ⟨s_iload_n (dd_X9_write (56, .iload_n 2, 1) (List.mem_of_getElem? (i := 30) rfl)) rfl, ?_⟩
  refine List.forall_mem_cons.mpr ⟨s_iast (dd_X9_write (57, .iastore, 1) (List.mem_of_getElem? (i := 31) rfl)), ?_⟩
  refine List.forall_mem_cons.mpr ⟨s_aload_n (dd_X9_write (58, .aload_n 0, 1) (List.mem_of_getElem? (i := 32) rfl)) rfl, ?_⟩
  refine List.forall_mem_cons.mpr ⟨s_dup (dd_X9_write (59, .dup, 1) (List.mem_of_getElem? (i := 33) rfl)), ?_⟩
  refine List.forall_mem_cons.mpr ⟨s_getI (k := 36) K9 (by decide) (dd_X9_write (60, .getfield 172, 3) (List.mem_of_getElem? (i := 34) rfl)) ow_X9_write fl9_172 rfl, ?_⟩
  refine List.forall_mem_cons.mpr ⟨s_iconst (dd_X9_write (63, .iconst 1, 1) (List.mem_of_getElem? (i := 35) rfl)) rfl, ?_⟩
  refine List.forall_mem_cons.mpr ⟨s_iadd (dd_X9_write (64, .iadd, 1) (List.mem_of_getElem? (i := 36) rfl)), ?_⟩
  refine List.forall_mem_cons.mpr ⟨s_putI (k := 36) K9 (by decide) (dd_X9_write (65, .putfield 172, 3) (List.mem_of_getElem? (i := 37) rfl)) ow_X9_write fl9_172 (Or.inl rfl) rfl, ?_⟩
  refine List.forall_mem_cons.mpr ⟨s_aload_n (dd_X9_write (68, .aload_n 0, 1) (List.mem_of_getElem? (i := 38) rfl)) rfl, ?_⟩
  refine List.forall_mem_cons.mpr ⟨s_getI (k := 36) K9 (by decide) (dd_X9_write (69, .getfield 172, 3) (List.mem_of_getElem? (i := 39) rfl)) ow_X9_write fl9_172 rfl, ?_⟩
  refine List.forall_mem_cons.mpr ⟨Or.inr (Or.inl ⟨rfl, (dd_X9_write (72, .ireturn, 1) (List.mem_of_getElem? (i := 40) rfl)), rfl⟩), ?_⟩
  exact fun _ h => absurd h List.not_mem_nil
theorem ow_X9_tear : (mtJ 180).1.cls = "SatchelSinsModel" := rfl
def D_X9_tear : List (Nat × Instr × Nat) := [(0, .aload_n 0, 1), (1, .getfield 169, 3), (4, .aload_n 0, 1), (5, .getfield 172, 3), (8, .iadd, 1), (9, .istore_n 1, 1), (10, .aload_n 0, 1), (11, .iconst 0, 1), (12, .putfield 169, 3), (15, .aload_n 0, 1), (16, .iconst 0, 1), (17, .putfield 172, 3), (20, .iload_n 1, 1), (21, .ireturn, 1)]
theorem dd_X9_tear : ∀ e ∈ D_X9_tear, decode (mtJ 180).2.1 e.1 = .ok e.2 := by decide +kernel
set_option maxRecDepth 10000 in
theorem so_X9_tear : ∀ e ∈ o_X9_tear, SndO 180 e.1 e.2 := by
  refine List.forall_mem_cons.mpr ⟨s_aload_n (dd_X9_tear (0, .aload_n 0, 1) (List.mem_of_getElem? (i := 0) rfl)) rfl, ?_⟩
  refine List.forall_mem_cons.mpr ⟨s_getI (k := 32) K9 (by decide) (dd_X9_tear (1, .getfield 169, 3) (List.mem_of_getElem? (i := 1) rfl)) ow_X9_tear fl9_169 rfl, ?_⟩
  refine List.forall_mem_cons.mpr ⟨s_aload_n (dd_X9_tear (4, .aload_n 0, 1) (List.mem_of_getElem? (i := 2) rfl)) rfl, ?_⟩
  refine List.forall_mem_cons.mpr ⟨s_getI (k := 36) K9 (by decide) (dd_X9_tear (5, .getfield 172, 3) (List.mem_of_getElem? (i := 3) rfl)) ow_X9_tear fl9_172 rfl, ?_⟩
  refine List.forall_mem_cons.mpr ⟨s_iadd (dd_X9_tear (8, .iadd, 1) (List.mem_of_getElem? (i := 4) rfl)), ?_⟩
  refine List.forall_mem_cons.mpr ⟨s_istore_n (dd_X9_tear (9, .istore_n 1, 1) (List.mem_of_getElem? (i := 5) rfl)) rfl, ?_⟩
  refine List.forall_mem_cons.mpr ⟨s_aload_n (dd_X9_tear (10, .aload_n 0, 1) (List.mem_of_getElem? (i := 6) rfl)) rfl, ?_⟩
  refine List.forall_mem_cons.mpr ⟨s_iconst (dd_X9_tear (11, .iconst 0, 1) (List.mem_of_getElem? (i := 7) rfl)) rfl, ?_⟩
  refine List.forall_mem_cons.mpr ⟨s_putI (k := 32) K9 (by decide) (dd_X9_tear (12, .putfield 169, 3) (List.mem_of_getElem? (i := 8) rfl)) ow_X9_tear fl9_169 (Or.inl rfl) rfl, ?_⟩
  refine List.forall_mem_cons.mpr ⟨s_aload_n (dd_X9_tear (15, .aload_n 0, 1) (List.mem_of_getElem? (i := 9) rfl)) rfl, ?_⟩
  refine List.forall_mem_cons.mpr ⟨s_iconst (dd_X9_tear (16, .iconst 0, 1) (List.mem_of_getElem? (i := 10) rfl)) rfl, ?_⟩
  refine List.forall_mem_cons.mpr ⟨s_putI (k := 36) K9 (by decide) (dd_X9_tear (17, .putfield 172, 3) (List.mem_of_getElem? (i := 11) rfl)) ow_X9_tear fl9_172 (Or.inl rfl) rfl, ?_⟩
  refine List.forall_mem_cons.mpr ⟨s_iload_n (dd_X9_tear (20, .iload_n 1, 1) (List.mem_of_getElem? (i := 12) rfl)) rfl, ?_⟩
  refine List.forall_mem_cons.mpr ⟨Or.inr (Or.inl ⟨rfl, (dd_X9_tear (21, .ireturn, 1) (List.mem_of_getElem? (i := 13) rfl)), rfl⟩), ?_⟩
  exact fun _ h => absurd h List.not_mem_nil
theorem ow_X9_judge : (mtJ 181).1.cls = "SatchelSinsModel" := rfl
def D_X9_judge : List (Nat × Instr × Nat) := [(0, .iconst 0, 1), (1, .istore_n 1, 1), (2, .iload_n 1, 1), (3, .aload_n 0, 1), (4, .getfield 172, 3), (7, .if_icmp .ge 30, 3), (10, .aload_n 0, 1), (11, .aload_n 0, 1), (12, .getfield 75, 3), (15, .iload_n 1, 1), (16, .iaload, 1), (17, .invokevirtual 182, 3), (20, .aload_n 0, 1), (21, .getfield 78, 3), (24, .iload_n 1, 1), (25, .iaload, 1), (26, .if_icmp .eq 5, 3), (29, .iload_n 1, 1), (30, .ireturn, 1), (31, .iinc 1 1, 3), (34, .goto (-32), 3), (37, .iconst (-1), 1), (38, .ireturn, 1)]
theorem dd_X9_judge : ∀ e ∈ D_X9_judge, decode (mtJ 181).2.1 e.1 = .ok e.2 := by decide +kernel
set_option maxRecDepth 10000 in
theorem so_X9_judge : ∀ e ∈ o_X9_judge, SndO 181 e.1 e.2 := by
  refine List.forall_mem_cons.mpr ⟨s_iconst (dd_X9_judge (0, .iconst 0, 1) (List.mem_of_getElem? (i := 0) rfl)) rfl, ?_⟩
  refine List.forall_mem_cons.mpr ⟨s_istore_n (dd_X9_judge (1, .istore_n 1, 1) (List.mem_of_getElem? (i := 1) rfl)) rfl, ?_⟩
  refine List.forall_mem_cons.mpr ⟨s_iload_n (dd_X9_judge (2, .iload_n 1, 1) (List.mem_of_getElem? (i := 2) rfl)) rfl, ?_⟩
  refine List.forall_mem_cons.mpr ⟨s_aload_n (dd_X9_judge (3, .aload_n 0, 1) (List.mem_of_getElem? (i := 3) rfl)) rfl, ?_⟩
  refine List.forall_mem_cons.mpr ⟨s_getI (k := 36) K9 (by decide) (dd_X9_judge (4, .getfield 172, 3) (List.mem_of_getElem? (i := 4) rfl)) ow_X9_judge fl9_172 rfl, ?_⟩
  refine List.forall_mem_cons.mpr ⟨s_icmp_ge (dd_X9_judge (7, .if_icmp .ge 30, 3) (List.mem_of_getElem? (i := 5) rfl)) (by decide), ?_⟩
  refine List.forall_mem_cons.mpr ⟨s_aload_n (dd_X9_judge (10, .aload_n 0, 1) (List.mem_of_getElem? (i := 6) rfl)) rfl, ?_⟩
  refine List.forall_mem_cons.mpr ⟨s_aload_n (dd_X9_judge (11, .aload_n 0, 1) (List.mem_of_getElem? (i := 7) rfl)) rfl, ?_⟩
  refine List.forall_mem_cons.mpr ⟨s_getR (k := 37) K9 (by decide) (dd_X9_judge (12, .getfield 75, 3) (List.mem_of_getElem? (i := 8) rfl)) ow_X9_judge fl9_75 rfl, ?_⟩
  refine List.forall_mem_cons.mpr ⟨s_iload_n (dd_X9_judge (15, .iload_n 1, 1) (List.mem_of_getElem? (i := 9) rfl)) rfl, ?_⟩
  refine List.forall_mem_cons.mpr ⟨s_iald (dd_X9_judge (16, .iaload, 1) (List.mem_of_getElem? (i := 10) rfl)), ?_⟩
  refine List.forall_mem_cons.mpr ⟨⟨s_callV (ci := 9) rfl mo136 rfl rfl (dd_X9_judge (17, .invokevirtual 182, 3) (List.mem_of_getElem? (i := 11) rfl)) ow_X9_judge ml9_182 mi136 msl136 in_9 mn136, mo136⟩, ?_⟩
  refine List.forall_mem_cons.mpr ⟨s_aload_n (dd_X9_judge (20, .aload_n 0, 1) (List.mem_of_getElem? (i := 12) rfl)) rfl, ?_⟩
  refine List.forall_mem_cons.mpr ⟨s_getR (k := 38) K9 (by decide) (dd_X9_judge (21, .getfield 78, 3) (List.mem_of_getElem? (i := 13) rfl)) ow_X9_judge fl9_78 rfl, ?_⟩
  refine List.forall_mem_cons.mpr ⟨s_iload_n (dd_X9_judge (24, .iload_n 1, 1) (List.mem_of_getElem? (i := 14) rfl)) rfl, ?_⟩
  refine List.forall_mem_cons.mpr ⟨s_iald (dd_X9_judge (25, .iaload, 1) (List.mem_of_getElem? (i := 15) rfl)), ?_⟩
  refine List.forall_mem_cons.mpr ⟨s_icmp_eq (dd_X9_judge (26, .if_icmp .eq 5, 3) (List.mem_of_getElem? (i := 16) rfl)) (by decide), ?_⟩
  refine List.forall_mem_cons.mpr ⟨s_iload_n (dd_X9_judge (29, .iload_n 1, 1) (List.mem_of_getElem? (i := 17) rfl)) rfl, ?_⟩
  refine List.forall_mem_cons.mpr ⟨Or.inr (Or.inl ⟨rfl, (dd_X9_judge (30, .ireturn, 1) (List.mem_of_getElem? (i := 18) rfl)), rfl⟩), ?_⟩
  refine List.forall_mem_cons.mpr ⟨s_iinc (dd_X9_judge (31, .iinc 1 1, 3) (List.mem_of_getElem? (i := 19) rfl)) rfl, ?_⟩
  refine List.forall_mem_cons.mpr ⟨s_goto (dd_X9_judge (34, .goto (-32), 3) (List.mem_of_getElem? (i := 20) rfl)) (by decide), ?_⟩
  refine List.forall_mem_cons.mpr ⟨s_iconst (dd_X9_judge (37, .iconst (-1), 1) (List.mem_of_getElem? (i := 21) rfl)) rfl, ?_⟩
  refine List.forall_mem_cons.mpr ⟨Or.inr (Or.inl ⟨rfl, (dd_X9_judge (38, .ireturn, 1) (List.mem_of_getElem? (i := 22) rfl)), rfl⟩), ?_⟩
  exact fun _ h => absurd h List.not_mem_nil
theorem ow_X9_seed : (mtJ 182).1.cls = "SatchelSinsModel" := rfl
def D_X9_seed : List (Nat × Instr × Nat) := [(0, .iload_n 1, 1), (1, .ifCond .ge 6, 3), (4, .ldc 103, 2), (6, .ireturn, 1), (7, .aload_n 0, 1), (8, .getfield 235, 3), (11, .istore_n 2, 1), (12, .aload_n 0, 1), (13, .iload_n 1, 1), (14, .putfield 235, 3), (17, .iload_n 2, 1), (18, .ireturn, 1)]
theorem dd_X9_seed : ∀ e ∈ D_X9_seed, decode (mtJ 182).2.1 e.1 = .ok e.2 := by decide +kernel
set_option maxRecDepth 10000 in
theorem so_X9_seed : ∀ e ∈ o_X9_seed, SndO 182 e.1 e.2 := by
  refine List.forall_mem_cons.mpr ⟨s_iload_n (dd_X9_seed (0, .iload_n 1, 1) (List.mem_of_getElem? (i := 0) rfl)) rfl, ?_⟩
  refine List.forall_mem_cons.mpr ⟨s_if_ge (dd_X9_seed (1, .ifCond .ge 6, 3) (List.mem_of_getElem? (i := 1) rfl)) (by decide), ?_⟩
  refine List.forall_mem_cons.mpr ⟨s_ldc (dd_X9_seed (4, .ldc 103, 2) (List.mem_of_getElem? (i := 2) rfl)) ow_X9_seed ki9_103, ?_⟩
  refine List.forall_mem_cons.mpr ⟨Or.inr (Or.inl ⟨rfl, (dd_X9_seed (6, .ireturn, 1) (List.mem_of_getElem? (i := 3) rfl)), rfl⟩), ?_⟩
  refine List.forall_mem_cons.mpr ⟨s_aload_n (dd_X9_seed (7, .aload_n 0, 1) (List.mem_of_getElem? (i := 4) rfl)) rfl, ?_⟩
  refine List.forall_mem_cons.mpr ⟨s_getI (k := 10) K9 (by decide) (dd_X9_seed (8, .getfield 235, 3) (List.mem_of_getElem? (i := 5) rfl)) ow_X9_seed fl9_235 rfl, ?_⟩
  refine List.forall_mem_cons.mpr ⟨s_istore_n (dd_X9_seed (11, .istore_n 2, 1) (List.mem_of_getElem? (i := 6) rfl)) rfl, ?_⟩
  refine List.forall_mem_cons.mpr ⟨s_aload_n (dd_X9_seed (12, .aload_n 0, 1) (List.mem_of_getElem? (i := 7) rfl)) rfl, ?_⟩
  refine List.forall_mem_cons.mpr ⟨s_iload_n (dd_X9_seed (13, .iload_n 1, 1) (List.mem_of_getElem? (i := 8) rfl)) rfl, ?_⟩
  refine List.forall_mem_cons.mpr ⟨s_putI (k := 10) K9 (by decide) (dd_X9_seed (14, .putfield 235, 3) (List.mem_of_getElem? (i := 9) rfl)) ow_X9_seed fl9_235 (Or.inl rfl) rfl, ?_⟩
  refine List.forall_mem_cons.mpr ⟨s_iload_n (dd_X9_seed (17, .iload_n 2, 1) (List.mem_of_getElem? (i := 10) rfl)) rfl, ?_⟩
  refine List.forall_mem_cons.mpr ⟨Or.inr (Or.inl ⟨rfl, (dd_X9_seed (18, .ireturn, 1) (List.mem_of_getElem? (i := 11) rfl)), rfl⟩), ?_⟩
  exact fun _ h => absurd h List.not_mem_nil
theorem ow_X9_keep : (mtJ 183).1.cls = "SatchelSinsModel" := rfl
def D_X9_keep : List (Nat × Instr × Nat) := [(0, .iload_n 1, 1), (1, .i2l, 1), (2, .lconst 0, 1), (3, .lconst 1, 1), (4, .invokestatic 94, 3), (7, .ifCond .ne 6, 3), (10, .ldc 205, 2), (12, .ireturn, 1), (13, .iconst 0, 1), (14, .istore_n 2, 1), (15, .iload_n 2, 1), (16, .bipush 22, 2), (18, .if_icmp .ge 26, 3), (21, .aload_n 0, 1), (22, .getfield 81, 3), (25, .bipush 23, 2), (27, .iload_n 1, 1), (28, .imul, 1), (29, .iload_n 2, 1), (30, .iadd, 1), (31, .aload_n 0, 1), (32, .getfield 25, 3), (35, .iload_n 2, 1), (36, .iaload, 1), (37, .iastore, 1), (38, .iinc 2 1, 3), (41, .goto (-26), 3), (44, .aload_n 0, 1), (45, .getfield 81, 3), (48, .bipush 23, 2), (50, .iload_n 1, 1), (51, .imul, 1), (52, .bipush 22, 2), (54, .iadd, 1), (55, .aload_n 0, 1), (56, .getfield 235, 3), (59, .iastore, 1), (60, .aload_n 0, 1), (61, .getfield 84, 3), (64, .iload_n 1, 1), (65, .iconst 1, 1), (66, .bastore, 1), (67, .aload_n 0, 1), (68, .iconst 0, 1), (69, .putfield 175, 3), (72, .iconst 1, 1), (73, .ireturn, 1)]
theorem dd_X9_keep : ∀ e ∈ D_X9_keep, decode (mtJ 183).2.1 e.1 = .ok e.2 := by decide +kernel
set_option maxRecDepth 10000 in
theorem so_X9_keep : ∀ e ∈ o_X9_keep, SndO 183 e.1 e.2 := by
  refine List.forall_mem_cons.mpr ⟨s_iload_n (dd_X9_keep (0, .iload_n 1, 1) (List.mem_of_getElem? (i := 0) rfl)) rfl, ?_⟩
  refine List.forall_mem_cons.mpr ⟨s_i2l (dd_X9_keep (1, .i2l, 1) (List.mem_of_getElem? (i := 1) rfl)), ?_⟩
  refine List.forall_mem_cons.mpr ⟨s_lconst (dd_X9_keep (2, .lconst 0, 1) (List.mem_of_getElem? (i := 2) rfl)) rfl, ?_⟩
  refine List.forall_mem_cons.mpr ⟨s_lconst (dd_X9_keep (3, .lconst 1, 1) (List.mem_of_getElem? (i := 3) rfl)) rfl, ?_⟩
  refine List.forall_mem_cons.mpr ⟨⟨s_callS mo117 rfl (dd_X9_keep (4, .invokestatic 94, 3) (List.mem_of_getElem? (i := 4) rfl)) ow_X9_keep ml9_94 ms117 mn117, mo117⟩, ?_⟩
  refine List.forall_mem_cons.mpr ⟨s_if_ne (dd_X9_keep (7, .ifCond .ne 6, 3) (List.mem_of_getElem? (i := 5) rfl)) (by decide), ?_⟩
  refine List.forall_mem_cons.mpr ⟨s_ldc (dd_X9_keep (10, .ldc 205, 2) (List.mem_of_getElem? (i := 6) rfl)) ow_X9_keep ki9_205, ?_⟩
  refine List.forall_mem_cons.mpr ⟨Or.inr (Or.inl ⟨rfl, (dd_X9_keep (12, .ireturn, 1) (List.mem_of_getElem? (i := 7) rfl)), rfl⟩), ?_⟩
  refine List.forall_mem_cons.mpr ⟨s_iconst (dd_X9_keep (13, .iconst 0, 1) (List.mem_of_getElem? (i := 8) rfl)) rfl, ?_⟩
  refine List.forall_mem_cons.mpr ⟨s_istore_n (dd_X9_keep (14, .istore_n 2, 1) (List.mem_of_getElem? (i := 9) rfl)) rfl, ?_⟩
  refine List.forall_mem_cons.mpr ⟨s_iload_n (dd_X9_keep (15, .iload_n 2, 1) (List.mem_of_getElem? (i := 10) rfl)) rfl, ?_⟩
  refine List.forall_mem_cons.mpr ⟨s_bipush (dd_X9_keep (16, .bipush 22, 2) (List.mem_of_getElem? (i := 11) rfl)) rfl, ?_⟩
  refine List.forall_mem_cons.mpr ⟨s_icmp_ge (dd_X9_keep (18, .if_icmp .ge 26, 3) (List.mem_of_getElem? (i := 12) rfl)) (by decide), ?_⟩
  refine List.forall_mem_cons.mpr ⟨s_aload_n (dd_X9_keep (21, .aload_n 0, 1) (List.mem_of_getElem? (i := 13) rfl)) rfl, ?_⟩
  refine List.forall_mem_cons.mpr ⟨s_getR (k := 39) K9 (by decide) (dd_X9_keep (22, .getfield 81, 3) (List.mem_of_getElem? (i := 14) rfl)) ow_X9_keep fl9_81 rfl, ?_⟩
  refine List.forall_mem_cons.mpr ⟨s_bipush (dd_X9_keep (25, .bipush 23, 2) (List.mem_of_getElem? (i := 15) rfl)) rfl, ?_⟩
  refine List.forall_mem_cons.mpr ⟨s_iload_n (dd_X9_keep (27, .iload_n 1, 1) (List.mem_of_getElem? (i := 16) rfl)) rfl, ?_⟩
  refine List.forall_mem_cons.mpr ⟨s_imul (dd_X9_keep (28, .imul, 1) (List.mem_of_getElem? (i := 17) rfl)), ?_⟩
  refine List.forall_mem_cons.mpr ⟨s_iload_n (dd_X9_keep (29, .iload_n 2, 1) (List.mem_of_getElem? (i := 18) rfl)) rfl, ?_⟩
  refine List.forall_mem_cons.mpr ⟨s_iadd (dd_X9_keep (30, .iadd, 1) (List.mem_of_getElem? (i := 19) rfl)), ?_⟩
  refine List.forall_mem_cons.mpr ⟨s_aload_n (dd_X9_keep (31, .aload_n 0, 1) (List.mem_of_getElem? (i := 20) rfl)) rfl, ?_⟩
  refine List.forall_mem_cons.mpr ⟨s_getR (k := 9) K9 (by decide) (dd_X9_keep (32, .getfield 25, 3) (List.mem_of_getElem? (i := 21) rfl)) ow_X9_keep fl9_25 rfl, ?_⟩
  refine List.forall_mem_cons.mpr ⟨s_iload_n (dd_X9_keep (35, .iload_n 2, 1) (List.mem_of_getElem? (i := 22) rfl)) rfl, ?_⟩
  refine List.forall_mem_cons.mpr ⟨s_iald (dd_X9_keep (36, .iaload, 1) (List.mem_of_getElem? (i := 23) rfl)), ?_⟩
  refine List.forall_mem_cons.mpr ⟨s_iast (dd_X9_keep (37, .iastore, 1) (List.mem_of_getElem? (i := 24) rfl)), ?_⟩
  refine List.forall_mem_cons.mpr ⟨s_iinc (dd_X9_keep (38, .iinc 2 1, 3) (List.mem_of_getElem? (i := 25) rfl)) rfl, ?_⟩
  refine List.forall_mem_cons.mpr ⟨s_goto (dd_X9_keep (41, .goto (-26), 3) (List.mem_of_getElem? (i := 26) rfl)) (by decide), ?_⟩
  refine List.forall_mem_cons.mpr ⟨s_aload_n (dd_X9_keep (44, .aload_n 0, 1) (List.mem_of_getElem? (i := 27) rfl)) rfl, ?_⟩
  refine List.forall_mem_cons.mpr ⟨s_getR (k := 39) K9 (by decide) (dd_X9_keep (45, .getfield 81, 3) (List.mem_of_getElem? (i := 28) rfl)) ow_X9_keep fl9_81 rfl, ?_⟩
  refine List.forall_mem_cons.mpr ⟨s_bipush (dd_X9_keep (48, .bipush 23, 2) (List.mem_of_getElem? (i := 29) rfl)) rfl, ?_⟩
  refine List.forall_mem_cons.mpr ⟨s_iload_n (dd_X9_keep (50, .iload_n 1, 1) (List.mem_of_getElem? (i := 30) rfl)) rfl, ?_⟩
  refine List.forall_mem_cons.mpr ⟨s_imul (dd_X9_keep (51, .imul, 1) (List.mem_of_getElem? (i := 31) rfl)), ?_⟩
  refine List.forall_mem_cons.mpr ⟨s_bipush (dd_X9_keep (52, .bipush 22, 2) (List.mem_of_getElem? (i := 32) rfl)) rfl, ?_⟩
  refine List.forall_mem_cons.mpr ⟨s_iadd (dd_X9_keep (54, .iadd, 1) (List.mem_of_getElem? (i := 33) rfl)), ?_⟩
  refine List.forall_mem_cons.mpr ⟨s_aload_n (dd_X9_keep (55, .aload_n 0, 1) (List.mem_of_getElem? (i := 34) rfl)) rfl, ?_⟩
  refine List.forall_mem_cons.mpr ⟨s_getI (k := 10) K9 (by decide) (dd_X9_keep (56, .getfield 235, 3) (List.mem_of_getElem? (i := 35) rfl)) ow_X9_keep fl9_235 rfl, ?_⟩
  refine List.forall_mem_cons.mpr ⟨s_iast (dd_X9_keep (59, .iastore, 1) (List.mem_of_getElem? (i := 36) rfl)), ?_⟩
  refine List.forall_mem_cons.mpr ⟨s_aload_n (dd_X9_keep (60, .aload_n 0, 1) (List.mem_of_getElem? (i := 37) rfl)) rfl, ?_⟩
  refine List.forall_mem_cons.mpr ⟨s_getR (k := 40) K9 (by decide) (dd_X9_keep (61, .getfield 84, 3) (List.mem_of_getElem? (i := 38) rfl)) ow_X9_keep fl9_84 rfl, ?_⟩
  refine List.forall_mem_cons.mpr ⟨s_iload_n (dd_X9_keep (64, .iload_n 1, 1) (List.mem_of_getElem? (i := 39) rfl)) rfl, ?_⟩
  refine List.forall_mem_cons.mpr ⟨s_iconst (dd_X9_keep (65, .iconst 1, 1) (List.mem_of_getElem? (i := 40) rfl)) rfl, ?_⟩
  refine List.forall_mem_cons.mpr ⟨s_bast (dd_X9_keep (66, .bastore, 1) (List.mem_of_getElem? (i := 41) rfl)), ?_⟩
  refine List.forall_mem_cons.mpr ⟨s_aload_n (dd_X9_keep (67, .aload_n 0, 1) (List.mem_of_getElem? (i := 42) rfl)) rfl, ?_⟩
  refine List.forall_mem_cons.mpr ⟨s_iconst (dd_X9_keep (68, .iconst 0, 1) (List.mem_of_getElem? (i := 43) rfl)) rfl, ?_⟩
  refine List.forall_mem_cons.mpr ⟨s_putI (k := 26) K9 (by decide) (dd_X9_keep (69, .putfield 175, 3) (List.mem_of_getElem? (i := 44) rfl)) ow_X9_keep fl9_175 (Or.inl rfl) rfl, ?_⟩
  refine List.forall_mem_cons.mpr ⟨s_iconst (dd_X9_keep (72, .iconst 1, 1) (List.mem_of_getElem? (i := 45) rfl)) rfl, ?_⟩
  refine List.forall_mem_cons.mpr ⟨Or.inr (Or.inl ⟨rfl, (dd_X9_keep (73, .ireturn, 1) (List.mem_of_getElem? (i := 46) rfl)), rfl⟩), ?_⟩
  exact fun _ h => absurd h List.not_mem_nil
theorem ow_X9_goBack : (mtJ 184).1.cls = "SatchelSinsModel" := rfl
def D_X9_goBack : List (Nat × Instr × Nat) := [(0, .iload_n 1, 1), (1, .i2l, 1), (2, .lconst 0, 1), (3, .lconst 1, 1), (4, .invokestatic 94, 3), (7, .ifCond .ne 6, 3), (10, .ldc 205, 2), (12, .ireturn, 1), (13, .aload_n 0, 1), (14, .getfield 84, 3), (17, .iload_n 1, 1), (18, .baload, 1), (19, .ifCond .ne 6, 3), (22, .ldc 212, 2), (24, .ireturn, 1), (25, .iconst 0, 1), (26, .istore_n 2, 1), (27, .iload_n 2, 1), (28, .bipush 22, 2), (30, .if_icmp .ge 26, 3), (33, .aload_n 0, 1), (34, .getfield 25, 3), (37, .iload_n 2, 1), (38, .aload_n 0, 1), (39, .getfield 81, 3), (42, .bipush 23, 2), (44, .iload_n 1, 1), (45, .imul, 1), (46, .iload_n 2, 1), (47, .iadd, 1), (48, .iaload, 1), (49, .iastore, 1), (50, .iinc 2 1, 3), (53, .goto (-26), 3), (56, .aload_n 0, 1), (57, .aload_n 0, 1), (58, .getfield 81, 3), (61, .bipush 23, 2), (63, .iload_n 1, 1), (64, .imul, 1), (65, .bipush 22, 2), (67, .iadd, 1), (68, .iaload, 1), (69, .putfield 235, 3), (72, .aload_n 0, 1), (73, .iconst 0, 1), (74, .putfield 175, 3), (77, .iconst 1, 1), (78, .ireturn, 1)]
theorem dd_X9_goBack : ∀ e ∈ D_X9_goBack, decode (mtJ 184).2.1 e.1 = .ok e.2 := by decide +kernel
set_option maxRecDepth 10000 in
theorem so_X9_goBack : ∀ e ∈ o_X9_goBack, SndO 184 e.1 e.2 := by
  refine List.forall_mem_cons.mpr ⟨s_iload_n (dd_X9_goBack (0, .iload_n 1, 1) (List.mem_of_getElem? (i := 0) rfl)) rfl, ?_⟩
  refine List.forall_mem_cons.mpr ⟨s_i2l (dd_X9_goBack (1, .i2l, 1) (List.mem_of_getElem? (i := 1) rfl)), ?_⟩
  refine List.forall_mem_cons.mpr ⟨s_lconst (dd_X9_goBack (2, .lconst 0, 1) (List.mem_of_getElem? (i := 2) rfl)) rfl, ?_⟩
  refine List.forall_mem_cons.mpr ⟨s_lconst (dd_X9_goBack (3, .lconst 1, 1) (List.mem_of_getElem? (i := 3) rfl)) rfl, ?_⟩
  refine List.forall_mem_cons.mpr ⟨⟨s_callS mo117 rfl (dd_X9_goBack (4, .invokestatic 94, 3) (List.mem_of_getElem? (i := 4) rfl)) ow_X9_goBack ml9_94 ms117 mn117, mo117⟩, ?_⟩
  refine List.forall_mem_cons.mpr ⟨s_if_ne (dd_X9_goBack (7, .ifCond .ne 6, 3) (List.mem_of_getElem? (i := 5) rfl)) (by decide), ?_⟩
  refine List.forall_mem_cons.mpr ⟨s_ldc (dd_X9_goBack (10, .ldc 205, 2) (List.mem_of_getElem? (i := 6) rfl)) ow_X9_goBack ki9_205, ?_⟩
  refine List.forall_mem_cons.mpr ⟨Or.inr (Or.inl ⟨rfl, (dd_X9_goBack (12, .ireturn, 1) (List.mem_of_getElem? (i := 7) rfl)), rfl⟩), ?_⟩
  refine List.forall_mem_cons.mpr ⟨s_aload_n (dd_X9_goBack (13, .aload_n 0, 1) (List.mem_of_getElem? (i := 8) rfl)) rfl, ?_⟩
  refine List.forall_mem_cons.mpr ⟨s_getR (k := 40) K9 (by decide) (dd_X9_goBack (14, .getfield 84, 3) (List.mem_of_getElem? (i := 9) rfl)) ow_X9_goBack fl9_84 rfl, ?_⟩
  refine List.forall_mem_cons.mpr ⟨s_iload_n (dd_X9_goBack (17, .iload_n 1, 1) (List.mem_of_getElem? (i := 10) rfl)) rfl, ?_⟩
  refine List.forall_mem_cons.mpr ⟨s_bald (dd_X9_goBack (18, .baload, 1) (List.mem_of_getElem? (i := 11) rfl)), ?_⟩
  refine List.forall_mem_cons.mpr ⟨s_if_ne (dd_X9_goBack (19, .ifCond .ne 6, 3) (List.mem_of_getElem? (i := 12) rfl)) (by decide), ?_⟩
  refine List.forall_mem_cons.mpr ⟨s_ldc (dd_X9_goBack (22, .ldc 212, 2) (List.mem_of_getElem? (i := 13) rfl)) ow_X9_goBack ki9_212, ?_⟩
  refine List.forall_mem_cons.mpr ⟨Or.inr (Or.inl ⟨rfl, (dd_X9_goBack (24, .ireturn, 1) (List.mem_of_getElem? (i := 14) rfl)), rfl⟩), ?_⟩
  refine List.forall_mem_cons.mpr ⟨s_iconst (dd_X9_goBack (25, .iconst 0, 1) (List.mem_of_getElem? (i := 15) rfl)) rfl, ?_⟩
  refine List.forall_mem_cons.mpr ⟨s_istore_n (dd_X9_goBack (26, .istore_n 2, 1) (List.mem_of_getElem? (i := 16) rfl)) rfl, ?_⟩
  refine List.forall_mem_cons.mpr ⟨s_iload_n (dd_X9_goBack (27, .iload_n 2, 1) (List.mem_of_getElem? (i := 17) rfl)) rfl, ?_⟩
  refine List.forall_mem_cons.mpr ⟨s_bipush (dd_X9_goBack (28, .bipush 22, 2) (List.mem_of_getElem? (i := 18) rfl)) rfl, ?_⟩
  refine List.forall_mem_cons.mpr ⟨s_icmp_ge (dd_X9_goBack (30, .if_icmp .ge 26, 3) (List.mem_of_getElem? (i := 19) rfl)) (by decide), ?_⟩
  refine List.forall_mem_cons.mpr ⟨s_aload_n (dd_X9_goBack (33, .aload_n 0, 1) (List.mem_of_getElem? (i := 20) rfl)) rfl, ?_⟩
  refine List.forall_mem_cons.mpr ⟨s_getR (k := 9) K9 (by decide) (dd_X9_goBack (34, .getfield 25, 3) (List.mem_of_getElem? (i := 21) rfl)) ow_X9_goBack fl9_25 rfl, ?_⟩
  refine List.forall_mem_cons.mpr ⟨s_iload_n (dd_X9_goBack (37, .iload_n 2, 1) (List.mem_of_getElem? (i := 22) rfl)) rfl, ?_⟩
  refine List.forall_mem_cons.mpr ⟨s_aload_n (dd_X9_goBack (38, .aload_n 0, 1) (List.mem_of_getElem? (i := 23) rfl)) rfl, ?_⟩
  refine List.forall_mem_cons.mpr ⟨s_getR (k := 39) K9 (by decide) (dd_X9_goBack (39, .getfield 81, 3) (List.mem_of_getElem? (i := 24) rfl)) ow_X9_goBack fl9_81 rfl, ?_⟩
  refine List.forall_mem_cons.mpr ⟨s_bipush (dd_X9_goBack (42, .bipush 23, 2) (List.mem_of_getElem? (i := 25) rfl)) rfl, ?_⟩
  refine List.forall_mem_cons.mpr ⟨s_iload_n (dd_X9_goBack (44, .iload_n 1, 1) (List.mem_of_getElem? (i := 26) rfl)) rfl, ?_⟩
  refine List.forall_mem_cons.mpr ⟨s_imul (dd_X9_goBack (45, .imul, 1) (List.mem_of_getElem? (i := 27) rfl)), ?_⟩
  refine List.forall_mem_cons.mpr ⟨s_iload_n (dd_X9_goBack (46, .iload_n 2, 1) (List.mem_of_getElem? (i := 28) rfl)) rfl, ?_⟩
  refine List.forall_mem_cons.mpr ⟨s_iadd (dd_X9_goBack (47, .iadd, 1) (List.mem_of_getElem? (i := 29) rfl)), ?_⟩
  refine List.forall_mem_cons.mpr ⟨s_iald (dd_X9_goBack (48, .iaload, 1) (List.mem_of_getElem? (i := 30) rfl)), ?_⟩
  refine List.forall_mem_cons.mpr ⟨s_iast (dd_X9_goBack (49, .iastore, 1) (List.mem_of_getElem? (i := 31) rfl)), ?_⟩
  refine List.forall_mem_cons.mpr ⟨s_iinc (dd_X9_goBack (50, .iinc 2 1, 3) (List.mem_of_getElem? (i := 32) rfl)) rfl, ?_⟩
  refine List.forall_mem_cons.mpr ⟨s_goto (dd_X9_goBack (53, .goto (-26), 3) (List.mem_of_getElem? (i := 33) rfl)) (by decide), ?_⟩
  refine List.forall_mem_cons.mpr ⟨s_aload_n (dd_X9_goBack (56, .aload_n 0, 1) (List.mem_of_getElem? (i := 34) rfl)) rfl, ?_⟩
  refine List.forall_mem_cons.mpr ⟨s_aload_n (dd_X9_goBack (57, .aload_n 0, 1) (List.mem_of_getElem? (i := 35) rfl)) rfl, ?_⟩
  refine List.forall_mem_cons.mpr ⟨s_getR (k := 39) K9 (by decide) (dd_X9_goBack (58, .getfield 81, 3) (List.mem_of_getElem? (i := 36) rfl)) ow_X9_goBack fl9_81 rfl, ?_⟩
  refine List.forall_mem_cons.mpr ⟨s_bipush (dd_X9_goBack (61, .bipush 23, 2) (List.mem_of_getElem? (i := 37) rfl)) rfl, ?_⟩
  refine List.forall_mem_cons.mpr ⟨s_iload_n (dd_X9_goBack (63, .iload_n 1, 1) (List.mem_of_getElem? (i := 38) rfl)) rfl, ?_⟩
  refine List.forall_mem_cons.mpr ⟨s_imul (dd_X9_goBack (64, .imul, 1) (List.mem_of_getElem? (i := 39) rfl)), ?_⟩
  refine List.forall_mem_cons.mpr ⟨s_bipush (dd_X9_goBack (65, .bipush 22, 2) (List.mem_of_getElem? (i := 40) rfl)) rfl, ?_⟩
  refine List.forall_mem_cons.mpr ⟨s_iadd (dd_X9_goBack (67, .iadd, 1) (List.mem_of_getElem? (i := 41) rfl)), ?_⟩
  refine List.forall_mem_cons.mpr ⟨s_iald (dd_X9_goBack (68, .iaload, 1) (List.mem_of_getElem? (i := 42) rfl)), ?_⟩
  refine List.forall_mem_cons.mpr ⟨s_putI (k := 10) K9 (by decide) (dd_X9_goBack (69, .putfield 235, 3) (List.mem_of_getElem? (i := 43) rfl)) ow_X9_goBack fl9_235 (Or.inl rfl) rfl, ?_⟩
  refine List.forall_mem_cons.mpr ⟨s_aload_n (dd_X9_goBack (72, .aload_n 0, 1) (List.mem_of_getElem? (i := 44) rfl)) rfl, ?_⟩
  refine List.forall_mem_cons.mpr ⟨s_iconst (dd_X9_goBack (73, .iconst 0, 1) (List.mem_of_getElem? (i := 45) rfl)) rfl, ?_⟩
  refine List.forall_mem_cons.mpr ⟨s_putI (k := 26) K9 (by decide) (dd_X9_goBack (74, .putfield 175, 3) (List.mem_of_getElem? (i := 46) rfl)) ow_X9_goBack fl9_175 (Or.inl rfl) rfl, ?_⟩
  refine List.forall_mem_cons.mpr ⟨s_iconst (dd_X9_goBack (77, .iconst 1, 1) (List.mem_of_getElem? (i := 47) rfl)) rfl, ?_⟩
  refine List.forall_mem_cons.mpr ⟨Or.inr (Or.inl ⟨rfl, (dd_X9_goBack (78, .ireturn, 1) (List.mem_of_getElem? (i := 48) rfl)), rfl⟩), ?_⟩
  exact fun _ h => absurd h List.not_mem_nil
theorem ow_JA_fill : (mtJ 185).1.cls = "java/util/Arrays" := rfl
def D_JA_fill : List (Nat × Instr × Nat) := [(0, .iconst 0, 1), (1, .istore_n 2, 1), (2, .aload_n 0, 1), (3, .arraylength, 1), (4, .istore_n 3, 1), (5, .iload_n 2, 1), (6, .iload_n 3, 1), (7, .if_icmp .ge 13, 3), (10, .aload_n 0, 1), (11, .iload_n 2, 1), (12, .iload_n 1, 1), (13, .iastore, 1), (14, .iinc 2 1, 3), (17, .goto (-12), 3), (20, .return_, 1)]
theorem dd_JA_fill : ∀ e ∈ D_JA_fill, decode (mtJ 185).2.1 e.1 = .ok e.2 := by decide +kernel
set_option maxRecDepth 10000 in
theorem so_JA_fill : ∀ e ∈ o_JA_fill, SndO 185 e.1 e.2 := by
  refine List.forall_mem_cons.mpr ⟨s_iconst (dd_JA_fill (0, .iconst 0, 1) (List.mem_of_getElem? (i := 0) rfl)) rfl, ?_⟩
  refine List.forall_mem_cons.mpr ⟨s_istore_n (dd_JA_fill (1, .istore_n 2, 1) (List.mem_of_getElem? (i := 1) rfl)) rfl, ?_⟩
  refine List.forall_mem_cons.mpr ⟨s_aload_n (dd_JA_fill (2, .aload_n 0, 1) (List.mem_of_getElem? (i := 2) rfl)) rfl, ?_⟩
  refine List.forall_mem_cons.mpr ⟨s_alen (dd_JA_fill (3, .arraylength, 1) (List.mem_of_getElem? (i := 3) rfl)), ?_⟩
  refine List.forall_mem_cons.mpr ⟨s_istore_n (dd_JA_fill (4, .istore_n 3, 1) (List.mem_of_getElem? (i := 4) rfl)) rfl, ?_⟩
  refine List.forall_mem_cons.mpr ⟨s_iload_n (dd_JA_fill (5, .iload_n 2, 1) (List.mem_of_getElem? (i := 5) rfl)) rfl, ?_⟩
  refine List.forall_mem_cons.mpr ⟨s_iload_n (dd_JA_fill (6, .iload_n 3, 1) (List.mem_of_getElem? (i := 6) rfl)) rfl, ?_⟩
  refine List.forall_mem_cons.mpr ⟨s_icmp_ge (dd_JA_fill (7, .if_icmp .ge 13, 3) (List.mem_of_getElem? (i := 7) rfl)) (by decide), ?_⟩
  refine List.forall_mem_cons.mpr ⟨s_aload_n (dd_JA_fill (10, .aload_n 0, 1) (List.mem_of_getElem? (i := 8) rfl)) rfl, ?_⟩
  refine List.forall_mem_cons.mpr ⟨s_iload_n (dd_JA_fill (11, .iload_n 2, 1) (List.mem_of_getElem? (i := 9) rfl)) rfl, ?_⟩
  refine List.forall_mem_cons.mpr ⟨s_iload_n (dd_JA_fill (12, .iload_n 1, 1) (List.mem_of_getElem? (i := 10) rfl)) rfl, ?_⟩
  refine List.forall_mem_cons.mpr ⟨s_iast (dd_JA_fill (13, .iastore, 1) (List.mem_of_getElem? (i := 11) rfl)), ?_⟩
  refine List.forall_mem_cons.mpr ⟨s_iinc (dd_JA_fill (14, .iinc 2 1, 3) (List.mem_of_getElem? (i := 12) rfl)) rfl, ?_⟩
  refine List.forall_mem_cons.mpr ⟨s_goto (dd_JA_fill (17, .goto (-12), 3) (List.mem_of_getElem? (i := 13) rfl)) (by decide), ?_⟩
  refine List.forall_mem_cons.mpr ⟨Or.inl ⟨rfl, (dd_JA_fill (20, .return_, 1) (List.mem_of_getElem? (i := 14) rfl)), rfl⟩, ?_⟩
  exact fun _ h => absurd h List.not_mem_nil
theorem ow_L_law : (mtJ 186).1.cls = "SatchelSinsLaw" := rfl
def D_L_law_1 : List (Nat × Instr × Nat) := [(0, .new 7, 3), (3, .dup, 1), (4, .invokespecial 9, 3), (7, .astore_n 1, 1), (8, .new 10, 3), (11, .dup, 1), (12, .invokespecial 12, 3), (15, .astore_n 2, 1), (16, .iconst 0, 1), (17, .istore_n 3, 1), (18, .iload_n 3, 1), (19, .aload_n 0, 1), (20, .arraylength, 1), (21, .iconst 4, 1), (22, .isub, 1), (23, .if_icmp .gt 833, 3), (26, .aload_n 0, 1), (27, .iload_n 3, 1), (28, .iaload, 1), (29, .bipush 31, 2), (31, .iand, 1), (32, .tableswitch 818 0 27 #[128, 151, 164, 177, 200, 233, 266, 289, 322, 355, 378, 391, 414, 437, 450, 473, 496, 519, 552, 585, 618, 677, 690, 723, 736, 749, 772, 795], 128), (160, .aload_n 1, 1), (161, .aload_n 0, 1), (162, .iload_n 3, 1), (163, .iconst 1, 1), (164, .iadd, 1), (165, .iaload, 1), (166, .invokevirtual 13, 3), (169, .aload_n 2, 1), (170, .aload_n 0, 1), (171, .iload_n 3, 1), (172, .iconst 1, 1), (173, .iadd, 1), (174, .iaload, 1), (175, .invokevirtual 17, 3), (178, .if_icmp .eq 672, 3), (181, .iconst 0, 1), (182, .ireturn, 1), (183, .aload_n 1, 1), (184, .invokevirtual 18, 3), (187, .aload_n 2, 1), (188, .invokevirtual 22, 3), (191, .if_icmp .eq 659, 3), (194, .iconst 0, 1), (195, .ireturn, 1), (196, .aload_n 1, 1), (197, .invokevirtual 23, 3), (200, .aload_n 2, 1), (201, .invokevirtual 26, 3), (204, .if_icmp .eq 646, 3), (207, .iconst 0, 1), (208, .ireturn, 1), (209, .aload_n 1, 1), (210, .aload_n 0, 1), (211, .iload_n 3, 1), (212, .iconst 1, 1), (213, .iadd, 1), (214, .iaload, 1), (215, .invokevirtual 27, 3)]
theorem dd_L_law_1 : ∀ e ∈ D_L_law_1, decode (mtJ 186).2.1 e.1 = .ok e.2 := by decide +kernel
set_option maxRecDepth 10000 in
theorem so_L_law_1 : ∀ e ∈ o_L_law_1, SndO 186 e.1 e.2 := by
  refine List.forall_mem_cons.mpr ⟨s_new K8 (dd_L_law_1 (0, .new 7, 3) (List.mem_of_getElem? (i := 0) rfl)) ow_L_law ckL_7 ci8 in_8 ok8, ?_⟩
  refine List.forall_mem_cons.mpr ⟨s_dup (dd_L_law_1 (3, .dup, 1) (List.mem_of_getElem? (i := 1) rfl)), ?_⟩
  refine List.forall_mem_cons.mpr ⟨⟨s_callI mo83 rfl rfl rfl (dd_L_law_1 (4, .invokespecial 9, 3) (List.mem_of_getElem? (i := 2) rfl)) ow_L_law mlL_9 mi83 mn83, mo83⟩, ?_⟩
  refine List.forall_mem_cons.mpr ⟨s_astore_n (dd_L_law_1 (7, .astore_n 1, 1) (List.mem_of_getElem? (i := 3) rfl)) rfl, ?_⟩
  refine List.forall_mem_cons.mpr ⟨s_new K9 (dd_L_law_1 (8, .new 10, 3) (List.mem_of_getElem? (i := 4) rfl)) ow_L_law ckL_10 ci9 in_9 ok9, ?_⟩
  refine List.forall_mem_cons.mpr ⟨s_dup (dd_L_law_1 (11, .dup, 1) (List.mem_of_getElem? (i := 5) rfl)), ?_⟩
  refine List.forall_mem_cons.mpr ⟨⟨s_callI mo116 rfl rfl rfl (dd_L_law_1 (12, .invokespecial 12, 3) (List.mem_of_getElem? (i := 6) rfl)) ow_L_law mlL_12 mi116 mn116, mo116⟩, ?_⟩
  refine List.forall_mem_cons.mpr ⟨s_astore_n (dd_L_law_1 (15, .astore_n 2, 1) (List.mem_of_getElem? (i := 7) rfl)) rfl, ?_⟩
  refine List.forall_mem_cons.mpr ⟨s_iconst (dd_L_law_1 (16, .iconst 0, 1) (List.mem_of_getElem? (i := 8) rfl)) rfl, ?_⟩
  refine List.forall_mem_cons.mpr ⟨s_istore_n (dd_L_law_1 (17, .istore_n 3, 1) (List.mem_of_getElem? (i := 9) rfl)) rfl, ?_⟩
  refine List.forall_mem_cons.mpr ⟨s_iload_n (dd_L_law_1 (18, .iload_n 3, 1) (List.mem_of_getElem? (i := 10) rfl)) rfl, ?_⟩
  refine List.forall_mem_cons.mpr ⟨s_aload_n (dd_L_law_1 (19, .aload_n 0, 1) (List.mem_of_getElem? (i := 11) rfl)) rfl, ?_⟩
  refine List.forall_mem_cons.mpr ⟨s_alen (dd_L_law_1 (20, .arraylength, 1) (List.mem_of_getElem? (i := 12) rfl)), ?_⟩
  refine List.forall_mem_cons.mpr ⟨s_iconst (dd_L_law_1 (21, .iconst 4, 1) (List.mem_of_getElem? (i := 13) rfl)) rfl, ?_⟩
  refine List.forall_mem_cons.mpr ⟨s_isub (dd_L_law_1 (22, .isub, 1) (List.mem_of_getElem? (i := 14) rfl)), ?_⟩
  refine List.forall_mem_cons.mpr ⟨s_icmp_gt (dd_L_law_1 (23, .if_icmp .gt 833, 3) (List.mem_of_getElem? (i := 15) rfl)) (by decide), ?_⟩
  refine List.forall_mem_cons.mpr ⟨s_aload_n (dd_L_law_1 (26, .aload_n 0, 1) (List.mem_of_getElem? (i := 16) rfl)) rfl, ?_⟩
  refine List.forall_mem_cons.mpr ⟨s_iload_n (dd_L_law_1 (27, .iload_n 3, 1) (List.mem_of_getElem? (i := 17) rfl)) rfl, ?_⟩
  refine List.forall_mem_cons.mpr ⟨s_iald (dd_L_law_1 (28, .iaload, 1) (List.mem_of_getElem? (i := 18) rfl)), ?_⟩
  refine List.forall_mem_cons.mpr ⟨s_bipush (dd_L_law_1 (29, .bipush 31, 2) (List.mem_of_getElem? (i := 19) rfl)) rfl, ?_⟩
  refine List.forall_mem_cons.mpr ⟨s_iand (dd_L_law_1 (31, .iand, 1) (List.mem_of_getElem? (i := 20) rfl)), ?_⟩
  refine List.forall_mem_cons.mpr ⟨s_tsw (dd_L_law_1 (32, .tableswitch 818 0 27 #[128, 151, 164, 177, 200, 233, 266, 289, 322, 355, 378, 391, 414, 437, 450, 473, 496, 519, 552, 585, 618, 677, 690, 723, 736, 749, 772, 795], 128) (List.mem_of_getElem? (i := 21) rfl)) (by decide) (by decide) (by decide), ?_⟩
  refine List.forall_mem_cons.mpr ⟨s_aload_n (dd_L_law_1 (160, .aload_n 1, 1) (List.mem_of_getElem? (i := 22) rfl)) rfl, ?_⟩
  refine List.forall_mem_cons.mpr ⟨s_aload_n (dd_L_law_1 (161, .aload_n 0, 1) (List.mem_of_getElem? (i := 23) rfl)) rfl, ?_⟩
  refine List.forall_mem_cons.mpr ⟨s_iload_n (dd_L_law_1 (162, .iload_n 3, 1) (List.mem_of_getElem? (i := 24) rfl)) rfl, ?_⟩
  refine List.forall_mem_cons.mpr ⟨s_iconst (dd_L_law_1 (163, .iconst 1, 1) (List.mem_of_getElem? (i := 25) rfl)) rfl, ?_⟩
  refine List.forall_mem_cons.mpr ⟨s_iadd (dd_L_law_1 (164, .iadd, 1) (List.mem_of_getElem? (i := 26) rfl)), ?_⟩
  refine List.forall_mem_cons.mpr ⟨s_iald (dd_L_law_1 (165, .iaload, 1) (List.mem_of_getElem? (i := 27) rfl)), ?_⟩
  refine List.forall_mem_cons.mpr ⟨⟨s_callV (ci := 8) rfl mo84 rfl rfl (dd_L_law_1 (166, .invokevirtual 13, 3) (List.mem_of_getElem? (i := 28) rfl)) ow_L_law mlL_13 mi84 msl84 in_8 mn84, mo84⟩, ?_⟩
  refine List.forall_mem_cons.mpr ⟨s_aload_n (dd_L_law_1 (169, .aload_n 2, 1) (List.mem_of_getElem? (i := 29) rfl)) rfl, ?_⟩
  refine List.forall_mem_cons.mpr ⟨s_aload_n (dd_L_law_1 (170, .aload_n 0, 1) (List.mem_of_getElem? (i := 30) rfl)) rfl, ?_⟩
  refine List.forall_mem_cons.mpr ⟨s_iload_n (dd_L_law_1 (171, .iload_n 3, 1) (List.mem_of_getElem? (i := 31) rfl)) rfl, ?_⟩
  refine List.forall_mem_cons.mpr ⟨s_iconst (dd_L_law_1 (172, .iconst 1, 1) (List.mem_of_getElem? (i := 32) rfl)) rfl, ?_⟩
  refine List.forall_mem_cons.mpr ⟨s_iadd (dd_L_law_1 (173, .iadd, 1) (List.mem_of_getElem? (i := 33) rfl)), ?_⟩
  refine List.forall_mem_cons.mpr ⟨s_iald (dd_L_law_1 (174, .iaload, 1) (List.mem_of_getElem? (i := 34) rfl)), ?_⟩
  refine List.forall_mem_cons.mpr ⟨⟨s_callV (ci := 9) rfl mo121 rfl rfl (dd_L_law_1 (175, .invokevirtual 17, 3) (List.mem_of_getElem? (i := 35) rfl)) ow_L_law mlL_17 mi121 msl121 in_9 mn121, mo121⟩, ?_⟩
  refine List.forall_mem_cons.mpr ⟨s_icmp_eq (dd_L_law_1 (178, .if_icmp .eq 672, 3) (List.mem_of_getElem? (i := 36) rfl)) (by decide), ?_⟩
  refine List.forall_mem_cons.mpr ⟨s_iconst (dd_L_law_1 (181, .iconst 0, 1) (List.mem_of_getElem? (i := 37) rfl)) rfl, ?_⟩
  refine List.forall_mem_cons.mpr ⟨Or.inr (Or.inr ⟨rfl, (dd_L_law_1 (182, .ireturn, 1) (List.mem_of_getElem? (i := 38) rfl)), rfl⟩), ?_⟩
  refine List.forall_mem_cons.mpr ⟨s_aload_n (dd_L_law_1 (183, .aload_n 1, 1) (List.mem_of_getElem? (i := 39) rfl)) rfl, ?_⟩
  refine List.forall_mem_cons.mpr ⟨⟨s_callV (ci := 8) rfl mo85 rfl rfl (dd_L_law_1 (184, .invokevirtual 18, 3) (List.mem_of_getElem? (i := 40) rfl)) ow_L_law mlL_18 mi85 msl85 in_8 mn85, mo85⟩, ?_⟩
  refine List.forall_mem_cons.mpr ⟨s_aload_n (dd_L_law_1 (187, .aload_n 2, 1) (List.mem_of_getElem? (i := 41) rfl)) rfl, ?_⟩
  refine List.forall_mem_cons.mpr ⟨⟨s_callV (ci := 9) rfl mo132 rfl rfl (dd_L_law_1 (188, .invokevirtual 22, 3) (List.mem_of_getElem? (i := 42) rfl)) ow_L_law mlL_22 mi132 msl132 in_9 mn132, mo132⟩, ?_⟩
  refine List.forall_mem_cons.mpr ⟨s_icmp_eq (dd_L_law_1 (191, .if_icmp .eq 659, 3) (List.mem_of_getElem? (i := 43) rfl)) (by decide), ?_⟩
  refine List.forall_mem_cons.mpr ⟨s_iconst (dd_L_law_1 (194, .iconst 0, 1) (List.mem_of_getElem? (i := 44) rfl)) rfl, ?_⟩
  refine List.forall_mem_cons.mpr ⟨Or.inr (Or.inr ⟨rfl, (dd_L_law_1 (195, .ireturn, 1) (List.mem_of_getElem? (i := 45) rfl)), rfl⟩), ?_⟩
  refine List.forall_mem_cons.mpr ⟨s_aload_n (dd_L_law_1 (196, .aload_n 1, 1) (List.mem_of_getElem? (i := 46) rfl)) rfl, ?_⟩
  refine List.forall_mem_cons.mpr ⟨⟨s_callV (ci := 8) rfl mo86 rfl rfl (dd_L_law_1 (197, .invokevirtual 23, 3) (List.mem_of_getElem? (i := 47) rfl)) ow_L_law mlL_23 mi86 msl86 in_8 mn86, mo86⟩, ?_⟩
  refine List.forall_mem_cons.mpr ⟨s_aload_n (dd_L_law_1 (200, .aload_n 2, 1) (List.mem_of_getElem? (i := 48) rfl)) rfl, ?_⟩
  refine List.forall_mem_cons.mpr ⟨⟨s_callV (ci := 9) rfl mo133 rfl rfl (dd_L_law_1 (201, .invokevirtual 26, 3) (List.mem_of_getElem? (i := 49) rfl)) ow_L_law mlL_26 mi133 msl133 in_9 mn133, mo133⟩, ?_⟩
  refine List.forall_mem_cons.mpr ⟨s_icmp_eq (dd_L_law_1 (204, .if_icmp .eq 646, 3) (List.mem_of_getElem? (i := 50) rfl)) (by decide), ?_⟩
  refine List.forall_mem_cons.mpr ⟨s_iconst (dd_L_law_1 (207, .iconst 0, 1) (List.mem_of_getElem? (i := 51) rfl)) rfl, ?_⟩
  refine List.forall_mem_cons.mpr ⟨Or.inr (Or.inr ⟨rfl, (dd_L_law_1 (208, .ireturn, 1) (List.mem_of_getElem? (i := 52) rfl)), rfl⟩), ?_⟩
  refine List.forall_mem_cons.mpr ⟨s_aload_n (dd_L_law_1 (209, .aload_n 1, 1) (List.mem_of_getElem? (i := 53) rfl)) rfl, ?_⟩
  refine List.forall_mem_cons.mpr ⟨s_aload_n (dd_L_law_1 (210, .aload_n 0, 1) (List.mem_of_getElem? (i := 54) rfl)) rfl, ?_⟩
  refine List.forall_mem_cons.mpr ⟨s_iload_n (dd_L_law_1 (211, .iload_n 3, 1) (List.mem_of_getElem? (i := 55) rfl)) rfl, ?_⟩
  refine List.forall_mem_cons.mpr ⟨s_iconst (dd_L_law_1 (212, .iconst 1, 1) (List.mem_of_getElem? (i := 56) rfl)) rfl, ?_⟩
  refine List.forall_mem_cons.mpr ⟨s_iadd (dd_L_law_1 (213, .iadd, 1) (List.mem_of_getElem? (i := 57) rfl)), ?_⟩
  refine List.forall_mem_cons.mpr ⟨s_iald (dd_L_law_1 (214, .iaload, 1) (List.mem_of_getElem? (i := 58) rfl)), ?_⟩
  refine List.forall_mem_cons.mpr ⟨⟨s_callV (ci := 8) rfl mo87 rfl rfl (dd_L_law_1 (215, .invokevirtual 27, 3) (List.mem_of_getElem? (i := 59) rfl)) ow_L_law mlL_27 mi87 msl87 in_8 mn87, mo87⟩, ?_⟩
  exact fun _ h => absurd h List.not_mem_nil
def D_L_law_2 : List (Nat × Instr × Nat) := [(218, .aload_n 2, 1), (219, .aload_n 0, 1), (220, .iload_n 3, 1), (221, .iconst 1, 1), (222, .iadd, 1), (223, .iaload, 1), (224, .invokevirtual 30, 3), (227, .if_icmp .eq 623, 3), (230, .iconst 0, 1), (231, .ireturn, 1), (232, .aload_n 1, 1), (233, .aload_n 0, 1), (234, .iload_n 3, 1), (235, .iconst 1, 1), (236, .iadd, 1), (237, .iaload, 1), (238, .aload_n 0, 1), (239, .iload_n 3, 1), (240, .iconst 2, 1), (241, .iadd, 1), (242, .iaload, 1), (243, .invokevirtual 31, 3), (246, .aload_n 2, 1), (247, .aload_n 0, 1), (248, .iload_n 3, 1), (249, .iconst 1, 1), (250, .iadd, 1), (251, .iaload, 1), (252, .aload_n 0, 1), (253, .iload_n 3, 1), (254, .iconst 2, 1), (255, .iadd, 1), (256, .iaload, 1), (257, .invokevirtual 35, 3), (260, .if_icmp .eq 590, 3), (263, .iconst 0, 1), (264, .ireturn, 1), (265, .aload_n 1, 1), (266, .aload_n 0, 1), (267, .iload_n 3, 1), (268, .iconst 1, 1), (269, .iadd, 1), (270, .iaload, 1), (271, .aload_n 0, 1), (272, .iload_n 3, 1), (273, .iconst 2, 1), (274, .iadd, 1), (275, .iaload, 1), (276, .invokevirtual 36, 3), (279, .aload_n 2, 1), (280, .aload_n 0, 1), (281, .iload_n 3, 1), (282, .iconst 1, 1), (283, .iadd, 1), (284, .iaload, 1), (285, .aload_n 0, 1), (286, .iload_n 3, 1), (287, .iconst 2, 1), (288, .iadd, 1), (289, .iaload, 1)]
theorem dd_L_law_2 : ∀ e ∈ D_L_law_2, decode (mtJ 186).2.1 e.1 = .ok e.2 := by decide +kernel
set_option maxRecDepth 10000 in
theorem so_L_law_2 : ∀ e ∈ o_L_law_2, SndO 186 e.1 e.2 := by
  refine List.forall_mem_cons.mpr ⟨s_aload_n (dd_L_law_2 (218, .aload_n 2, 1) (List.mem_of_getElem? (i := 0) rfl)) rfl, ?_⟩
  refine List.forall_mem_cons.mpr ⟨s_aload_n (dd_L_law_2 (219, .aload_n 0, 1) (List.mem_of_getElem? (i := 1) rfl)) rfl, ?_⟩
  refine List.forall_mem_cons.mpr ⟨s_iload_n (dd_L_law_2 (220, .iload_n 3, 1) (List.mem_of_getElem? (i := 2) rfl)) rfl, ?_⟩
  refine List.forall_mem_cons.mpr ⟨s_iconst (dd_L_law_2 (221, .iconst 1, 1) (List.mem_of_getElem? (i := 3) rfl)) rfl, ?_⟩
  refine List.forall_mem_cons.mpr ⟨s_iadd (dd_L_law_2 (222, .iadd, 1) (List.mem_of_getElem? (i := 4) rfl)), ?_⟩
  refine List.forall_mem_cons.mpr ⟨s_iald (dd_L_law_2 (223, .iaload, 1) (List.mem_of_getElem? (i := 5) rfl)), ?_⟩
  refine List.forall_mem_cons.mpr ⟨⟨s_callV (ci := 9) rfl mo142 rfl rfl (dd_L_law_2 (224, .invokevirtual 30, 3) (List.mem_of_getElem? (i := 6) rfl)) ow_L_law mlL_30 mi142 msl142 in_9 mn142, mo142⟩, ?_⟩
  refine List.forall_mem_cons.mpr ⟨s_icmp_eq (dd_L_law_2 (227, .if_icmp .eq 623, 3) (List.mem_of_getElem? (i := 7) rfl)) (by decide), ?_⟩
  refine List.forall_mem_cons.mpr ⟨s_iconst (dd_L_law_2 (230, .iconst 0, 1) (List.mem_of_getElem? (i := 8) rfl)) rfl, ?_⟩
  refine List.forall_mem_cons.mpr ⟨Or.inr (Or.inr ⟨rfl, (dd_L_law_2 (231, .ireturn, 1) (List.mem_of_getElem? (i := 9) rfl)), rfl⟩), ?_⟩
  refine List.forall_mem_cons.mpr ⟨s_aload_n (dd_L_law_2 (232, .aload_n 1, 1) (List.mem_of_getElem? (i := 10) rfl)) rfl, ?_⟩
  refine List.forall_mem_cons.mpr ⟨s_aload_n (dd_L_law_2 (233, .aload_n 0, 1) (List.mem_of_getElem? (i := 11) rfl)) rfl, ?_⟩
  refine List.forall_mem_cons.mpr ⟨s_iload_n (dd_L_law_2 (234, .iload_n 3, 1) (List.mem_of_getElem? (i := 12) rfl)) rfl, ?_⟩
  refine List.forall_mem_cons.mpr ⟨s_iconst (dd_L_law_2 (235, .iconst 1, 1) (List.mem_of_getElem? (i := 13) rfl)) rfl, ?_⟩
  refine List.forall_mem_cons.mpr ⟨s_iadd (dd_L_law_2 (236, .iadd, 1) (List.mem_of_getElem? (i := 14) rfl)), ?_⟩
  refine List.forall_mem_cons.mpr ⟨s_iald (dd_L_law_2 (237, .iaload, 1) (List.mem_of_getElem? (i := 15) rfl)), ?_⟩
  refine List.forall_mem_cons.mpr ⟨s_aload_n (dd_L_law_2 (238, .aload_n 0, 1) (List.mem_of_getElem? (i := 16) rfl)) rfl, ?_⟩
  refine List.forall_mem_cons.mpr ⟨s_iload_n (dd_L_law_2 (239, .iload_n 3, 1) (List.mem_of_getElem? (i := 17) rfl)) rfl, ?_⟩
  refine List.forall_mem_cons.mpr ⟨s_iconst (dd_L_law_2 (240, .iconst 2, 1) (List.mem_of_getElem? (i := 18) rfl)) rfl, ?_⟩
  refine List.forall_mem_cons.mpr ⟨s_iadd (dd_L_law_2 (241, .iadd, 1) (List.mem_of_getElem? (i := 19) rfl)), ?_⟩
  refine List.forall_mem_cons.mpr ⟨s_iald (dd_L_law_2 (242, .iaload, 1) (List.mem_of_getElem? (i := 20) rfl)), ?_⟩
  refine List.forall_mem_cons.mpr ⟨⟨s_callV (ci := 8) rfl mo88 rfl rfl (dd_L_law_2 (243, .invokevirtual 31, 3) (List.mem_of_getElem? (i := 21) rfl)) ow_L_law mlL_31 mi88 msl88 in_8 mn88, mo88⟩, ?_⟩
  refine List.forall_mem_cons.mpr ⟨s_aload_n (dd_L_law_2 (246, .aload_n 2, 1) (List.mem_of_getElem? (i := 22) rfl)) rfl, ?_⟩
  refine List.forall_mem_cons.mpr ⟨s_aload_n (dd_L_law_2 (247, .aload_n 0, 1) (List.mem_of_getElem? (i := 23) rfl)) rfl, ?_⟩
  refine List.forall_mem_cons.mpr ⟨s_iload_n (dd_L_law_2 (248, .iload_n 3, 1) (List.mem_of_getElem? (i := 24) rfl)) rfl, ?_⟩
  refine List.forall_mem_cons.mpr ⟨s_iconst (dd_L_law_2 (249, .iconst 1, 1) (List.mem_of_getElem? (i := 25) rfl)) rfl, ?_⟩
  refine List.forall_mem_cons.mpr ⟨s_iadd (dd_L_law_2 (250, .iadd, 1) (List.mem_of_getElem? (i := 26) rfl)), ?_⟩
  refine List.forall_mem_cons.mpr ⟨s_iald (dd_L_law_2 (251, .iaload, 1) (List.mem_of_getElem? (i := 27) rfl)), ?_⟩
  refine List.forall_mem_cons.mpr ⟨s_aload_n (dd_L_law_2 (252, .aload_n 0, 1) (List.mem_of_getElem? (i := 28) rfl)) rfl, ?_⟩
  refine List.forall_mem_cons.mpr ⟨s_iload_n (dd_L_law_2 (253, .iload_n 3, 1) (List.mem_of_getElem? (i := 29) rfl)) rfl, ?_⟩
  refine List.forall_mem_cons.mpr ⟨s_iconst (dd_L_law_2 (254, .iconst 2, 1) (List.mem_of_getElem? (i := 30) rfl)) rfl, ?_⟩
  refine List.forall_mem_cons.mpr ⟨s_iadd (dd_L_law_2 (255, .iadd, 1) (List.mem_of_getElem? (i := 31) rfl)), ?_⟩
  refine List.forall_mem_cons.mpr ⟨s_iald (dd_L_law_2 (256, .iaload, 1) (List.mem_of_getElem? (i := 32) rfl)), ?_⟩
  refine List.forall_mem_cons.mpr ⟨⟨s_callV (ci := 9) rfl mo143 rfl rfl (dd_L_law_2 (257, .invokevirtual 35, 3) (List.mem_of_getElem? (i := 33) rfl)) ow_L_law mlL_35 mi143 msl143 in_9 mn143, mo143⟩, ?_⟩
  refine List.forall_mem_cons.mpr ⟨s_icmp_eq (dd_L_law_2 (260, .if_icmp .eq 590, 3) (List.mem_of_getElem? (i := 34) rfl)) (by decide), ?_⟩
  refine List.forall_mem_cons.mpr ⟨s_iconst (dd_L_law_2 (263, .iconst 0, 1) (List.mem_of_getElem? (i := 35) rfl)) rfl, ?_⟩
  refine List.forall_mem_cons.mpr ⟨Or.inr (Or.inr ⟨rfl, (dd_L_law_2 (264, .ireturn, 1) (List.mem_of_getElem? (i := 36) rfl)), rfl⟩), ?_⟩
  refine List.forall_mem_cons.mpr ⟨s_aload_n (dd_L_law_2 (265, .aload_n 1, 1) (List.mem_of_getElem? (i := 37) rfl)) rfl, ?_⟩
  refine List.forall_mem_cons.mpr ⟨s_aload_n (dd_L_law_2 (266, .aload_n 0, 1) (List.mem_of_getElem? (i := 38) rfl)) rfl, ?_⟩
  refine List.forall_mem_cons.mpr ⟨s_iload_n (dd_L_law_2 (267, .iload_n 3, 1) (List.mem_of_getElem? (i := 39) rfl)) rfl, ?_⟩
  refine List.forall_mem_cons.mpr ⟨s_iconst (dd_L_law_2 (268, .iconst 1, 1) (List.mem_of_getElem? (i := 40) rfl)) rfl, ?_⟩
  refine List.forall_mem_cons.mpr ⟨s_iadd (dd_L_law_2 (269, .iadd, 1) (List.mem_of_getElem? (i := 41) rfl)), ?_⟩
  refine List.forall_mem_cons.mpr ⟨s_iald (dd_L_law_2 (270, .iaload, 1) (List.mem_of_getElem? (i := 42) rfl)), ?_⟩
  refine List.forall_mem_cons.mpr ⟨s_aload_n (dd_L_law_2 (271, .aload_n 0, 1) (List.mem_of_getElem? (i := 43) rfl)) rfl, ?_⟩
  refine List.forall_mem_cons.mpr ⟨s_iload_n (dd_L_law_2 (272, .iload_n 3, 1) (List.mem_of_getElem? (i := 44) rfl)) rfl, ?_⟩
  refine List.forall_mem_cons.mpr ⟨s_iconst (dd_L_law_2 (273, .iconst 2, 1) (List.mem_of_getElem? (i := 45) rfl)) rfl, ?_⟩
  refine List.forall_mem_cons.mpr ⟨s_iadd (dd_L_law_2 (274, .iadd, 1) (List.mem_of_getElem? (i := 46) rfl)), ?_⟩
  refine List.forall_mem_cons.mpr ⟨s_iald (dd_L_law_2 (275, .iaload, 1) (List.mem_of_getElem? (i := 47) rfl)), ?_⟩
  refine List.forall_mem_cons.mpr ⟨⟨s_callV (ci := 8) rfl mo89 rfl rfl (dd_L_law_2 (276, .invokevirtual 36, 3) (List.mem_of_getElem? (i := 48) rfl)) ow_L_law mlL_36 mi89 msl89 in_8 mn89, mo89⟩, ?_⟩
  refine List.forall_mem_cons.mpr ⟨s_aload_n (dd_L_law_2 (279, .aload_n 2, 1) (List.mem_of_getElem? (i := 49) rfl)) rfl, ?_⟩
  refine List.forall_mem_cons.mpr ⟨s_aload_n (dd_L_law_2 (280, .aload_n 0, 1) (List.mem_of_getElem? (i := 50) rfl)) rfl, ?_⟩
  refine List.forall_mem_cons.mpr ⟨s_iload_n (dd_L_law_2 (281, .iload_n 3, 1) (List.mem_of_getElem? (i := 51) rfl)) rfl, ?_⟩
  refine List.forall_mem_cons.mpr ⟨s_iconst (dd_L_law_2 (282, .iconst 1, 1) (List.mem_of_getElem? (i := 52) rfl)) rfl, ?_⟩
  refine List.forall_mem_cons.mpr ⟨s_iadd (dd_L_law_2 (283, .iadd, 1) (List.mem_of_getElem? (i := 53) rfl)), ?_⟩
  refine List.forall_mem_cons.mpr ⟨s_iald (dd_L_law_2 (284, .iaload, 1) (List.mem_of_getElem? (i := 54) rfl)), ?_⟩
  refine List.forall_mem_cons.mpr ⟨s_aload_n (dd_L_law_2 (285, .aload_n 0, 1) (List.mem_of_getElem? (i := 55) rfl)) rfl, ?_⟩
  refine List.forall_mem_cons.mpr ⟨s_iload_n (dd_L_law_2 (286, .iload_n 3, 1) (List.mem_of_getElem? (i := 56) rfl)) rfl, ?_⟩
  refine List.forall_mem_cons.mpr ⟨s_iconst (dd_L_law_2 (287, .iconst 2, 1) (List.mem_of_getElem? (i := 57) rfl)) rfl, ?_⟩
  refine List.forall_mem_cons.mpr ⟨s_iadd (dd_L_law_2 (288, .iadd, 1) (List.mem_of_getElem? (i := 58) rfl)), ?_⟩
  refine List.forall_mem_cons.mpr ⟨s_iald (dd_L_law_2 (289, .iaload, 1) (List.mem_of_getElem? (i := 59) rfl)), ?_⟩
  exact fun _ h => absurd h List.not_mem_nil
def D_L_law_3 : List (Nat × Instr × Nat) := [(290, .invokevirtual 39, 3), (293, .if_icmp .eq 557, 3), (296, .iconst 0, 1), (297, .ireturn, 1), (298, .aload_n 1, 1), (299, .aload_n 0, 1), (300, .iload_n 3, 1), (301, .iconst 1, 1), (302, .iadd, 1), (303, .iaload, 1), (304, .invokevirtual 40, 3), (307, .aload_n 2, 1), (308, .aload_n 0, 1), (309, .iload_n 3, 1), (310, .iconst 1, 1), (311, .iadd, 1), (312, .iaload, 1), (313, .invokevirtual 43, 3), (316, .if_icmp .eq 534, 3), (319, .iconst 0, 1), (320, .ireturn, 1), (321, .aload_n 1, 1), (322, .aload_n 0, 1), (323, .iload_n 3, 1), (324, .iconst 1, 1), (325, .iadd, 1), (326, .iaload, 1), (327, .aload_n 0, 1), (328, .iload_n 3, 1), (329, .iconst 2, 1), (330, .iadd, 1), (331, .iaload, 1), (332, .invokevirtual 44, 3), (335, .aload_n 2, 1), (336, .aload_n 0, 1), (337, .iload_n 3, 1), (338, .iconst 1, 1), (339, .iadd, 1), (340, .iaload, 1), (341, .aload_n 0, 1), (342, .iload_n 3, 1), (343, .iconst 2, 1), (344, .iadd, 1), (345, .iaload, 1), (346, .invokevirtual 47, 3), (349, .if_icmp .eq 501, 3), (352, .iconst 0, 1), (353, .ireturn, 1), (354, .aload_n 1, 1), (355, .aload_n 0, 1), (356, .iload_n 3, 1), (357, .iconst 1, 1), (358, .iadd, 1), (359, .iaload, 1), (360, .aload_n 0, 1), (361, .iload_n 3, 1), (362, .iconst 2, 1), (363, .iadd, 1), (364, .iaload, 1), (365, .invokevirtual 48, 3)]
theorem dd_L_law_3 : ∀ e ∈ D_L_law_3, decode (mtJ 186).2.1 e.1 = .ok e.2 := by decide +kernel
set_option maxRecDepth 10000 in
theorem so_L_law_3 : ∀ e ∈ o_L_law_3, SndO 186 e.1 e.2 := by
  refine List.forall_mem_cons.mpr ⟨⟨s_callV (ci := 9) rfl mo144 rfl rfl (dd_L_law_3 (290, .invokevirtual 39, 3) (List.mem_of_getElem? (i := 0) rfl)) ow_L_law mlL_39 mi144 msl144 in_9 mn144, mo144⟩, ?_⟩
  refine List.forall_mem_cons.mpr ⟨s_icmp_eq (dd_L_law_3 (293, .if_icmp .eq 557, 3) (List.mem_of_getElem? (i := 1) rfl)) (by decide), ?_⟩
  refine List.forall_mem_cons.mpr ⟨s_iconst (dd_L_law_3 (296, .iconst 0, 1) (List.mem_of_getElem? (i := 2) rfl)) rfl, ?_⟩
  refine List.forall_mem_cons.mpr ⟨Or.inr (Or.inr ⟨rfl, (dd_L_law_3 (297, .ireturn, 1) (List.mem_of_getElem? (i := 3) rfl)), rfl⟩), ?_⟩
  refine List.forall_mem_cons.mpr ⟨s_aload_n (dd_L_law_3 (298, .aload_n 1, 1) (List.mem_of_getElem? (i := 4) rfl)) rfl, ?_⟩
  refine List.forall_mem_cons.mpr ⟨s_aload_n (dd_L_law_3 (299, .aload_n 0, 1) (List.mem_of_getElem? (i := 5) rfl)) rfl, ?_⟩
  refine List.forall_mem_cons.mpr ⟨s_iload_n (dd_L_law_3 (300, .iload_n 3, 1) (List.mem_of_getElem? (i := 6) rfl)) rfl, ?_⟩
  refine List.forall_mem_cons.mpr ⟨s_iconst (dd_L_law_3 (301, .iconst 1, 1) (List.mem_of_getElem? (i := 7) rfl)) rfl, ?_⟩
  refine List.forall_mem_cons.mpr ⟨s_iadd (dd_L_law_3 (302, .iadd, 1) (List.mem_of_getElem? (i := 8) rfl)), ?_⟩
  refine List.forall_mem_cons.mpr ⟨s_iald (dd_L_law_3 (303, .iaload, 1) (List.mem_of_getElem? (i := 9) rfl)), ?_⟩
  refine List.forall_mem_cons.mpr ⟨⟨s_callV (ci := 8) rfl mo90 rfl rfl (dd_L_law_3 (304, .invokevirtual 40, 3) (List.mem_of_getElem? (i := 10) rfl)) ow_L_law mlL_40 mi90 msl90 in_8 mn90, mo90⟩, ?_⟩
  refine List.forall_mem_cons.mpr ⟨s_aload_n (dd_L_law_3 (307, .aload_n 2, 1) (List.mem_of_getElem? (i := 11) rfl)) rfl, ?_⟩
  refine List.forall_mem_cons.mpr ⟨s_aload_n (dd_L_law_3 (308, .aload_n 0, 1) (List.mem_of_getElem? (i := 12) rfl)) rfl, ?_⟩
  refine List.forall_mem_cons.mpr ⟨s_iload_n (dd_L_law_3 (309, .iload_n 3, 1) (List.mem_of_getElem? (i := 13) rfl)) rfl, ?_⟩
  refine List.forall_mem_cons.mpr ⟨s_iconst (dd_L_law_3 (310, .iconst 1, 1) (List.mem_of_getElem? (i := 14) rfl)) rfl, ?_⟩
  refine List.forall_mem_cons.mpr ⟨s_iadd (dd_L_law_3 (311, .iadd, 1) (List.mem_of_getElem? (i := 15) rfl)), ?_⟩
  refine List.forall_mem_cons.mpr ⟨s_iald (dd_L_law_3 (312, .iaload, 1) (List.mem_of_getElem? (i := 16) rfl)), ?_⟩
  refine List.forall_mem_cons.mpr ⟨⟨s_callV (ci := 9) rfl mo147 rfl rfl (dd_L_law_3 (313, .invokevirtual 43, 3) (List.mem_of_getElem? (i := 17) rfl)) ow_L_law mlL_43 mi147 msl147 in_9 mn147, mo147⟩, ?_⟩
  refine List.forall_mem_cons.mpr ⟨s_icmp_eq (dd_L_law_3 (316, .if_icmp .eq 534, 3) (List.mem_of_getElem? (i := 18) rfl)) (by decide), ?_⟩
  refine List.forall_mem_cons.mpr ⟨s_iconst (dd_L_law_3 (319, .iconst 0, 1) (List.mem_of_getElem? (i := 19) rfl)) rfl, ?_⟩
  refine List.forall_mem_cons.mpr ⟨Or.inr (Or.inr ⟨rfl, (dd_L_law_3 (320, .ireturn, 1) (List.mem_of_getElem? (i := 20) rfl)), rfl⟩), ?_⟩
  refine List.forall_mem_cons.mpr ⟨s_aload_n (dd_L_law_3 (321, .aload_n 1, 1) (List.mem_of_getElem? (i := 21) rfl)) rfl, ?_⟩
  refine List.forall_mem_cons.mpr ⟨s_aload_n (dd_L_law_3 (322, .aload_n 0, 1) (List.mem_of_getElem? (i := 22) rfl)) rfl, ?_⟩
  refine List.forall_mem_cons.mpr ⟨s_iload_n (dd_L_law_3 (323, .iload_n 3, 1) (List.mem_of_getElem? (i := 23) rfl)) rfl, ?_⟩
  refine List.forall_mem_cons.mpr ⟨s_iconst (dd_L_law_3 (324, .iconst 1, 1) (List.mem_of_getElem? (i := 24) rfl)) rfl, ?_⟩
  refine List.forall_mem_cons.mpr ⟨s_iadd (dd_L_law_3 (325, .iadd, 1) (List.mem_of_getElem? (i := 25) rfl)), ?_⟩
  refine List.forall_mem_cons.mpr ⟨s_iald (dd_L_law_3 (326, .iaload, 1) (List.mem_of_getElem? (i := 26) rfl)), ?_⟩
  refine List.forall_mem_cons.mpr ⟨s_aload_n (dd_L_law_3 (327, .aload_n 0, 1) (List.mem_of_getElem? (i := 27) rfl)) rfl, ?_⟩
  refine List.forall_mem_cons.mpr ⟨s_iload_n (dd_L_law_3 (328, .iload_n 3, 1) (List.mem_of_getElem? (i := 28) rfl)) rfl, ?_⟩
  refine List.forall_mem_cons.mpr ⟨s_iconst (dd_L_law_3 (329, .iconst 2, 1) (List.mem_of_getElem? (i := 29) rfl)) rfl, ?_⟩
  refine List.forall_mem_cons.mpr ⟨s_iadd (dd_L_law_3 (330, .iadd, 1) (List.mem_of_getElem? (i := 30) rfl)), ?_⟩
  refine List.forall_mem_cons.mpr ⟨s_iald (dd_L_law_3 (331, .iaload, 1) (List.mem_of_getElem? (i := 31) rfl)), ?_⟩
  refine List.forall_mem_cons.mpr ⟨⟨s_callV (ci := 8) rfl mo91 rfl rfl (dd_L_law_3 (332, .invokevirtual 44, 3) (List.mem_of_getElem? (i := 32) rfl)) ow_L_law mlL_44 mi91 msl91 in_8 mn91, mo91⟩, ?_⟩
  refine List.forall_mem_cons.mpr ⟨s_aload_n (dd_L_law_3 (335, .aload_n 2, 1) (List.mem_of_getElem? (i := 33) rfl)) rfl, ?_⟩
  refine List.forall_mem_cons.mpr ⟨s_aload_n (dd_L_law_3 (336, .aload_n 0, 1) (List.mem_of_getElem? (i := 34) rfl)) rfl, ?_⟩
  refine List.forall_mem_cons.mpr ⟨s_iload_n (dd_L_law_3 (337, .iload_n 3, 1) (List.mem_of_getElem? (i := 35) rfl)) rfl, ?_⟩
  refine List.forall_mem_cons.mpr ⟨s_iconst (dd_L_law_3 (338, .iconst 1, 1) (List.mem_of_getElem? (i := 36) rfl)) rfl, ?_⟩
  refine List.forall_mem_cons.mpr ⟨s_iadd (dd_L_law_3 (339, .iadd, 1) (List.mem_of_getElem? (i := 37) rfl)), ?_⟩
  refine List.forall_mem_cons.mpr ⟨s_iald (dd_L_law_3 (340, .iaload, 1) (List.mem_of_getElem? (i := 38) rfl)), ?_⟩
  refine List.forall_mem_cons.mpr ⟨s_aload_n (dd_L_law_3 (341, .aload_n 0, 1) (List.mem_of_getElem? (i := 39) rfl)) rfl, ?_⟩
  refine List.forall_mem_cons.mpr ⟨s_iload_n (dd_L_law_3 (342, .iload_n 3, 1) (List.mem_of_getElem? (i := 40) rfl)) rfl, ?_⟩
  refine List.forall_mem_cons.mpr ⟨s_iconst (dd_L_law_3 (343, .iconst 2, 1) (List.mem_of_getElem? (i := 41) rfl)) rfl, ?_⟩
  refine List.forall_mem_cons.mpr ⟨s_iadd (dd_L_law_3 (344, .iadd, 1) (List.mem_of_getElem? (i := 42) rfl)), ?_⟩
  refine List.forall_mem_cons.mpr ⟨s_iald (dd_L_law_3 (345, .iaload, 1) (List.mem_of_getElem? (i := 43) rfl)), ?_⟩
  refine List.forall_mem_cons.mpr ⟨⟨s_callV (ci := 9) rfl mo148 rfl rfl (dd_L_law_3 (346, .invokevirtual 47, 3) (List.mem_of_getElem? (i := 44) rfl)) ow_L_law mlL_47 mi148 msl148 in_9 mn148, mo148⟩, ?_⟩
  refine List.forall_mem_cons.mpr ⟨s_icmp_eq (dd_L_law_3 (349, .if_icmp .eq 501, 3) (List.mem_of_getElem? (i := 45) rfl)) (by decide), ?_⟩
  refine List.forall_mem_cons.mpr ⟨s_iconst (dd_L_law_3 (352, .iconst 0, 1) (List.mem_of_getElem? (i := 46) rfl)) rfl, ?_⟩
  refine List.forall_mem_cons.mpr ⟨Or.inr (Or.inr ⟨rfl, (dd_L_law_3 (353, .ireturn, 1) (List.mem_of_getElem? (i := 47) rfl)), rfl⟩), ?_⟩
  refine List.forall_mem_cons.mpr ⟨s_aload_n (dd_L_law_3 (354, .aload_n 1, 1) (List.mem_of_getElem? (i := 48) rfl)) rfl, ?_⟩
  refine List.forall_mem_cons.mpr ⟨s_aload_n (dd_L_law_3 (355, .aload_n 0, 1) (List.mem_of_getElem? (i := 49) rfl)) rfl, ?_⟩
  refine List.forall_mem_cons.mpr ⟨s_iload_n (dd_L_law_3 (356, .iload_n 3, 1) (List.mem_of_getElem? (i := 50) rfl)) rfl, ?_⟩
  refine List.forall_mem_cons.mpr ⟨s_iconst (dd_L_law_3 (357, .iconst 1, 1) (List.mem_of_getElem? (i := 51) rfl)) rfl, ?_⟩
  refine List.forall_mem_cons.mpr ⟨s_iadd (dd_L_law_3 (358, .iadd, 1) (List.mem_of_getElem? (i := 52) rfl)), ?_⟩
  refine List.forall_mem_cons.mpr ⟨s_iald (dd_L_law_3 (359, .iaload, 1) (List.mem_of_getElem? (i := 53) rfl)), ?_⟩
  refine List.forall_mem_cons.mpr ⟨s_aload_n (dd_L_law_3 (360, .aload_n 0, 1) (List.mem_of_getElem? (i := 54) rfl)) rfl, ?_⟩
  refine List.forall_mem_cons.mpr ⟨s_iload_n (dd_L_law_3 (361, .iload_n 3, 1) (List.mem_of_getElem? (i := 55) rfl)) rfl, ?_⟩
  refine List.forall_mem_cons.mpr ⟨s_iconst (dd_L_law_3 (362, .iconst 2, 1) (List.mem_of_getElem? (i := 56) rfl)) rfl, ?_⟩
  refine List.forall_mem_cons.mpr ⟨s_iadd (dd_L_law_3 (363, .iadd, 1) (List.mem_of_getElem? (i := 57) rfl)), ?_⟩
  refine List.forall_mem_cons.mpr ⟨s_iald (dd_L_law_3 (364, .iaload, 1) (List.mem_of_getElem? (i := 58) rfl)), ?_⟩
  refine List.forall_mem_cons.mpr ⟨⟨s_callV (ci := 8) rfl mo92 rfl rfl (dd_L_law_3 (365, .invokevirtual 48, 3) (List.mem_of_getElem? (i := 59) rfl)) ow_L_law mlL_48 mi92 msl92 in_8 mn92, mo92⟩, ?_⟩
  exact fun _ h => absurd h List.not_mem_nil
def D_L_law_4 : List (Nat × Instr × Nat) := [(368, .aload_n 2, 1), (369, .aload_n 0, 1), (370, .iload_n 3, 1), (371, .iconst 1, 1), (372, .iadd, 1), (373, .iaload, 1), (374, .aload_n 0, 1), (375, .iload_n 3, 1), (376, .iconst 2, 1), (377, .iadd, 1), (378, .iaload, 1), (379, .invokevirtual 51, 3), (382, .if_icmp .eq 468, 3), (385, .iconst 0, 1), (386, .ireturn, 1), (387, .aload_n 1, 1), (388, .aload_n 0, 1), (389, .iload_n 3, 1), (390, .iconst 1, 1), (391, .iadd, 1), (392, .iaload, 1), (393, .invokevirtual 52, 3), (396, .aload_n 2, 1), (397, .aload_n 0, 1), (398, .iload_n 3, 1), (399, .iconst 1, 1), (400, .iadd, 1), (401, .iaload, 1), (402, .invokevirtual 55, 3), (405, .if_icmp .eq 445, 3), (408, .iconst 0, 1), (409, .ireturn, 1), (410, .aload_n 1, 1), (411, .invokevirtual 56, 3), (414, .aload_n 2, 1), (415, .invokevirtual 59, 3), (418, .if_icmp .eq 432, 3), (421, .iconst 0, 1), (422, .ireturn, 1), (423, .aload_n 1, 1), (424, .aload_n 0, 1), (425, .iload_n 3, 1), (426, .iconst 1, 1), (427, .iadd, 1), (428, .iaload, 1), (429, .invokevirtual 60, 3), (432, .aload_n 2, 1), (433, .aload_n 0, 1), (434, .iload_n 3, 1), (435, .iconst 1, 1), (436, .iadd, 1), (437, .iaload, 1), (438, .invokevirtual 63, 3), (441, .if_icmp .eq 409, 3), (444, .iconst 0, 1), (445, .ireturn, 1), (446, .aload_n 1, 1), (447, .aload_n 0, 1), (448, .iload_n 3, 1), (449, .iconst 1, 1)]
theorem dd_L_law_4 : ∀ e ∈ D_L_law_4, decode (mtJ 186).2.1 e.1 = .ok e.2 := by decide +kernel
set_option maxRecDepth 10000 in
theorem so_L_law_4 : ∀ e ∈ o_L_law_4, SndO 186 e.1 e.2 := by
  refine List.forall_mem_cons.mpr ⟨s_aload_n (dd_L_law_4 (368, .aload_n 2, 1) (List.mem_of_getElem? (i := 0) rfl)) rfl, ?_⟩
  refine List.forall_mem_cons.mpr ⟨s_aload_n (dd_L_law_4 (369, .aload_n 0, 1) (List.mem_of_getElem? (i := 1) rfl)) rfl, ?_⟩
  refine List.forall_mem_cons.mpr ⟨s_iload_n (dd_L_law_4 (370, .iload_n 3, 1) (List.mem_of_getElem? (i := 2) rfl)) rfl, ?_⟩
  refine List.forall_mem_cons.mpr ⟨s_iconst (dd_L_law_4 (371, .iconst 1, 1) (List.mem_of_getElem? (i := 3) rfl)) rfl, ?_⟩
  refine List.forall_mem_cons.mpr ⟨s_iadd (dd_L_law_4 (372, .iadd, 1) (List.mem_of_getElem? (i := 4) rfl)), ?_⟩
  refine List.forall_mem_cons.mpr ⟨s_iald (dd_L_law_4 (373, .iaload, 1) (List.mem_of_getElem? (i := 5) rfl)), ?_⟩
  refine List.forall_mem_cons.mpr ⟨s_aload_n (dd_L_law_4 (374, .aload_n 0, 1) (List.mem_of_getElem? (i := 6) rfl)) rfl, ?_⟩
  refine List.forall_mem_cons.mpr ⟨s_iload_n (dd_L_law_4 (375, .iload_n 3, 1) (List.mem_of_getElem? (i := 7) rfl)) rfl, ?_⟩
  refine List.forall_mem_cons.mpr ⟨s_iconst (dd_L_law_4 (376, .iconst 2, 1) (List.mem_of_getElem? (i := 8) rfl)) rfl, ?_⟩
  refine List.forall_mem_cons.mpr ⟨s_iadd (dd_L_law_4 (377, .iadd, 1) (List.mem_of_getElem? (i := 9) rfl)), ?_⟩
  refine List.forall_mem_cons.mpr ⟨s_iald (dd_L_law_4 (378, .iaload, 1) (List.mem_of_getElem? (i := 10) rfl)), ?_⟩
  refine List.forall_mem_cons.mpr ⟨⟨s_callV (ci := 9) rfl mo150 rfl rfl (dd_L_law_4 (379, .invokevirtual 51, 3) (List.mem_of_getElem? (i := 11) rfl)) ow_L_law mlL_51 mi150 msl150 in_9 mn150, mo150⟩, ?_⟩
  refine List.forall_mem_cons.mpr ⟨s_icmp_eq (dd_L_law_4 (382, .if_icmp .eq 468, 3) (List.mem_of_getElem? (i := 12) rfl)) (by decide), ?_⟩
  refine List.forall_mem_cons.mpr ⟨s_iconst (dd_L_law_4 (385, .iconst 0, 1) (List.mem_of_getElem? (i := 13) rfl)) rfl, ?_⟩
  refine List.forall_mem_cons.mpr ⟨Or.inr (Or.inr ⟨rfl, (dd_L_law_4 (386, .ireturn, 1) (List.mem_of_getElem? (i := 14) rfl)), rfl⟩), ?_⟩
  refine List.forall_mem_cons.mpr ⟨s_aload_n (dd_L_law_4 (387, .aload_n 1, 1) (List.mem_of_getElem? (i := 15) rfl)) rfl, ?_⟩
  refine List.forall_mem_cons.mpr ⟨s_aload_n (dd_L_law_4 (388, .aload_n 0, 1) (List.mem_of_getElem? (i := 16) rfl)) rfl, ?_⟩
  refine List.forall_mem_cons.mpr ⟨s_iload_n (dd_L_law_4 (389, .iload_n 3, 1) (List.mem_of_getElem? (i := 17) rfl)) rfl, ?_⟩
  refine List.forall_mem_cons.mpr ⟨s_iconst (dd_L_law_4 (390, .iconst 1, 1) (List.mem_of_getElem? (i := 18) rfl)) rfl, ?_⟩
  refine List.forall_mem_cons.mpr ⟨s_iadd (dd_L_law_4 (391, .iadd, 1) (List.mem_of_getElem? (i := 19) rfl)), ?_⟩
  refine List.forall_mem_cons.mpr ⟨s_iald (dd_L_law_4 (392, .iaload, 1) (List.mem_of_getElem? (i := 20) rfl)), ?_⟩
  refine List.forall_mem_cons.mpr ⟨⟨s_callV (ci := 8) rfl mo93 rfl rfl (dd_L_law_4 (393, .invokevirtual 52, 3) (List.mem_of_getElem? (i := 21) rfl)) ow_L_law mlL_52 mi93 msl93 in_8 mn93, mo93⟩, ?_⟩
  refine List.forall_mem_cons.mpr ⟨s_aload_n (dd_L_law_4 (396, .aload_n 2, 1) (List.mem_of_getElem? (i := 22) rfl)) rfl, ?_⟩
  refine List.forall_mem_cons.mpr ⟨s_aload_n (dd_L_law_4 (397, .aload_n 0, 1) (List.mem_of_getElem? (i := 23) rfl)) rfl, ?_⟩
  refine List.forall_mem_cons.mpr ⟨s_iload_n (dd_L_law_4 (398, .iload_n 3, 1) (List.mem_of_getElem? (i := 24) rfl)) rfl, ?_⟩
  refine List.forall_mem_cons.mpr ⟨s_iconst (dd_L_law_4 (399, .iconst 1, 1) (List.mem_of_getElem? (i := 25) rfl)) rfl, ?_⟩
  refine List.forall_mem_cons.mpr ⟨s_iadd (dd_L_law_4 (400, .iadd, 1) (List.mem_of_getElem? (i := 26) rfl)), ?_⟩
  refine List.forall_mem_cons.mpr ⟨s_iald (dd_L_law_4 (401, .iaload, 1) (List.mem_of_getElem? (i := 27) rfl)), ?_⟩
  refine List.forall_mem_cons.mpr ⟨⟨s_callV (ci := 9) rfl mo153 rfl rfl (dd_L_law_4 (402, .invokevirtual 55, 3) (List.mem_of_getElem? (i := 28) rfl)) ow_L_law mlL_55 mi153 msl153 in_9 mn153, mo153⟩, ?_⟩
  refine List.forall_mem_cons.mpr ⟨s_icmp_eq (dd_L_law_4 (405, .if_icmp .eq 445, 3) (List.mem_of_getElem? (i := 29) rfl)) (by decide), ?_⟩
  refine List.forall_mem_cons.mpr ⟨s_iconst (dd_L_law_4 (408, .iconst 0, 1) (List.mem_of_getElem? (i := 30) rfl)) rfl, ?_⟩
  refine List.forall_mem_cons.mpr ⟨Or.inr (Or.inr ⟨rfl, (dd_L_law_4 (409, .ireturn, 1) (List.mem_of_getElem? (i := 31) rfl)), rfl⟩), ?_⟩
  refine List.forall_mem_cons.mpr ⟨s_aload_n (dd_L_law_4 (410, .aload_n 1, 1) (List.mem_of_getElem? (i := 32) rfl)) rfl, ?_⟩
  refine List.forall_mem_cons.mpr ⟨⟨s_callV (ci := 8) rfl mo94 rfl rfl (dd_L_law_4 (411, .invokevirtual 56, 3) (List.mem_of_getElem? (i := 33) rfl)) ow_L_law mlL_56 mi94 msl94 in_8 mn94, mo94⟩, ?_⟩
  refine List.forall_mem_cons.mpr ⟨s_aload_n (dd_L_law_4 (414, .aload_n 2, 1) (List.mem_of_getElem? (i := 34) rfl)) rfl, ?_⟩
  refine List.forall_mem_cons.mpr ⟨⟨s_callV (ci := 9) rfl mo155 rfl rfl (dd_L_law_4 (415, .invokevirtual 59, 3) (List.mem_of_getElem? (i := 35) rfl)) ow_L_law mlL_59 mi155 msl155 in_9 mn155, mo155⟩, ?_⟩
  refine List.forall_mem_cons.mpr ⟨s_icmp_eq (dd_L_law_4 (418, .if_icmp .eq 432, 3) (List.mem_of_getElem? (i := 36) rfl)) (by decide), ?_⟩
  refine List.forall_mem_cons.mpr ⟨s_iconst (dd_L_law_4 (421, .iconst 0, 1) (List.mem_of_getElem? (i := 37) rfl)) rfl, ?_⟩
  refine List.forall_mem_cons.mpr ⟨Or.inr (Or.inr ⟨rfl, (dd_L_law_4 (422, .ireturn, 1) (List.mem_of_getElem? (i := 38) rfl)), rfl⟩), ?_⟩
  refine List.forall_mem_cons.mpr ⟨s_aload_n (dd_L_law_4 (423, .aload_n 1, 1) (List.mem_of_getElem? (i := 39) rfl)) rfl, ?_⟩
  refine List.forall_mem_cons.mpr ⟨s_aload_n (dd_L_law_4 (424, .aload_n 0, 1) (List.mem_of_getElem? (i := 40) rfl)) rfl, ?_⟩
  refine List.forall_mem_cons.mpr ⟨s_iload_n (dd_L_law_4 (425, .iload_n 3, 1) (List.mem_of_getElem? (i := 41) rfl)) rfl, ?_⟩
  refine List.forall_mem_cons.mpr ⟨s_iconst (dd_L_law_4 (426, .iconst 1, 1) (List.mem_of_getElem? (i := 42) rfl)) rfl, ?_⟩
  refine List.forall_mem_cons.mpr ⟨s_iadd (dd_L_law_4 (427, .iadd, 1) (List.mem_of_getElem? (i := 43) rfl)), ?_⟩
  refine List.forall_mem_cons.mpr ⟨s_iald (dd_L_law_4 (428, .iaload, 1) (List.mem_of_getElem? (i := 44) rfl)), ?_⟩
  refine List.forall_mem_cons.mpr ⟨⟨s_callV (ci := 8) rfl mo95 rfl rfl (dd_L_law_4 (429, .invokevirtual 60, 3) (List.mem_of_getElem? (i := 45) rfl)) ow_L_law mlL_60 mi95 msl95 in_8 mn95, mo95⟩, ?_⟩
  refine List.forall_mem_cons.mpr ⟨s_aload_n (dd_L_law_4 (432, .aload_n 2, 1) (List.mem_of_getElem? (i := 46) rfl)) rfl, ?_⟩
  refine List.forall_mem_cons.mpr ⟨s_aload_n (dd_L_law_4 (433, .aload_n 0, 1) (List.mem_of_getElem? (i := 47) rfl)) rfl, ?_⟩
  refine List.forall_mem_cons.mpr ⟨s_iload_n (dd_L_law_4 (434, .iload_n 3, 1) (List.mem_of_getElem? (i := 48) rfl)) rfl, ?_⟩
  refine List.forall_mem_cons.mpr ⟨s_iconst (dd_L_law_4 (435, .iconst 1, 1) (List.mem_of_getElem? (i := 49) rfl)) rfl, ?_⟩
  refine List.forall_mem_cons.mpr ⟨s_iadd (dd_L_law_4 (436, .iadd, 1) (List.mem_of_getElem? (i := 50) rfl)), ?_⟩
  refine List.forall_mem_cons.mpr ⟨s_iald (dd_L_law_4 (437, .iaload, 1) (List.mem_of_getElem? (i := 51) rfl)), ?_⟩
  refine List.forall_mem_cons.mpr ⟨⟨s_callV (ci := 9) rfl mo156 rfl rfl (dd_L_law_4 (438, .invokevirtual 63, 3) (List.mem_of_getElem? (i := 52) rfl)) ow_L_law mlL_63 mi156 msl156 in_9 mn156, mo156⟩, ?_⟩
  refine List.forall_mem_cons.mpr ⟨s_icmp_eq (dd_L_law_4 (441, .if_icmp .eq 409, 3) (List.mem_of_getElem? (i := 53) rfl)) (by decide), ?_⟩
  refine List.forall_mem_cons.mpr ⟨s_iconst (dd_L_law_4 (444, .iconst 0, 1) (List.mem_of_getElem? (i := 54) rfl)) rfl, ?_⟩
  refine List.forall_mem_cons.mpr ⟨Or.inr (Or.inr ⟨rfl, (dd_L_law_4 (445, .ireturn, 1) (List.mem_of_getElem? (i := 55) rfl)), rfl⟩), ?_⟩
  refine List.forall_mem_cons.mpr ⟨s_aload_n (dd_L_law_4 (446, .aload_n 1, 1) (List.mem_of_getElem? (i := 56) rfl)) rfl, ?_⟩
  refine List.forall_mem_cons.mpr ⟨s_aload_n (dd_L_law_4 (447, .aload_n 0, 1) (List.mem_of_getElem? (i := 57) rfl)) rfl, ?_⟩
  refine List.forall_mem_cons.mpr ⟨s_iload_n (dd_L_law_4 (448, .iload_n 3, 1) (List.mem_of_getElem? (i := 58) rfl)) rfl, ?_⟩
  refine List.forall_mem_cons.mpr ⟨s_iconst (dd_L_law_4 (449, .iconst 1, 1) (List.mem_of_getElem? (i := 59) rfl)) rfl, ?_⟩
  exact fun _ h => absurd h List.not_mem_nil
def D_L_law_5 : List (Nat × Instr × Nat) := [(450, .iadd, 1), (451, .iaload, 1), (452, .invokevirtual 64, 3), (455, .aload_n 2, 1), (456, .aload_n 0, 1), (457, .iload_n 3, 1), (458, .iconst 1, 1), (459, .iadd, 1), (460, .iaload, 1), (461, .invokevirtual 67, 3), (464, .if_icmp .eq 386, 3), (467, .iconst 0, 1), (468, .ireturn, 1), (469, .aload_n 1, 1), (470, .invokevirtual 68, 3), (473, .aload_n 2, 1), (474, .invokevirtual 71, 3), (477, .if_icmp .eq 373, 3), (480, .iconst 0, 1), (481, .ireturn, 1), (482, .aload_n 1, 1), (483, .aload_n 0, 1), (484, .iload_n 3, 1), (485, .iconst 1, 1), (486, .iadd, 1), (487, .iaload, 1), (488, .invokevirtual 72, 3), (491, .aload_n 2, 1), (492, .aload_n 0, 1), (493, .iload_n 3, 1), (494, .iconst 1, 1), (495, .iadd, 1), (496, .iaload, 1), (497, .invokevirtual 75, 3), (500, .if_icmp .eq 350, 3), (503, .iconst 0, 1), (504, .ireturn, 1), (505, .aload_n 1, 1), (506, .aload_n 0, 1), (507, .iload_n 3, 1), (508, .iconst 1, 1), (509, .iadd, 1), (510, .iaload, 1), (511, .invokevirtual 76, 3), (514, .aload_n 2, 1), (515, .aload_n 0, 1), (516, .iload_n 3, 1), (517, .iconst 1, 1), (518, .iadd, 1), (519, .iaload, 1), (520, .invokevirtual 79, 3), (523, .if_icmp .eq 327, 3), (526, .iconst 0, 1), (527, .ireturn, 1), (528, .aload_n 1, 1), (529, .aload_n 0, 1), (530, .iload_n 3, 1), (531, .iconst 1, 1), (532, .iadd, 1), (533, .iaload, 1)]
theorem dd_L_law_5 : ∀ e ∈ D_L_law_5, decode (mtJ 186).2.1 e.1 = .ok e.2 := by decide +kernel
set_option maxRecDepth 10000 in
theorem so_L_law_5 : ∀ e ∈ o_L_law_5, SndO 186 e.1 e.2 := by
  refine List.forall_mem_cons.mpr ⟨s_iadd (dd_L_law_5 (450, .iadd, 1) (List.mem_of_getElem? (i := 0) rfl)), ?_⟩
  refine List.forall_mem_cons.mpr ⟨s_iald (dd_L_law_5 (451, .iaload, 1) (List.mem_of_getElem? (i := 1) rfl)), ?_⟩
  refine List.forall_mem_cons.mpr ⟨⟨s_callV (ci := 8) rfl mo96 rfl rfl (dd_L_law_5 (452, .invokevirtual 64, 3) (List.mem_of_getElem? (i := 2) rfl)) ow_L_law mlL_64 mi96 msl96 in_8 mn96, mo96⟩, ?_⟩
  refine List.forall_mem_cons.mpr ⟨s_aload_n (dd_L_law_5 (455, .aload_n 2, 1) (List.mem_of_getElem? (i := 3) rfl)) rfl, ?_⟩
  refine List.forall_mem_cons.mpr ⟨s_aload_n (dd_L_law_5 (456, .aload_n 0, 1) (List.mem_of_getElem? (i := 4) rfl)) rfl, ?_⟩
  refine List.forall_mem_cons.mpr ⟨s_iload_n (dd_L_law_5 (457, .iload_n 3, 1) (List.mem_of_getElem? (i := 5) rfl)) rfl, ?_⟩
  refine List.forall_mem_cons.mpr ⟨s_iconst (dd_L_law_5 (458, .iconst 1, 1) (List.mem_of_getElem? (i := 6) rfl)) rfl, ?_⟩
  refine List.forall_mem_cons.mpr ⟨s_iadd (dd_L_law_5 (459, .iadd, 1) (List.mem_of_getElem? (i := 7) rfl)), ?_⟩
  refine List.forall_mem_cons.mpr ⟨s_iald (dd_L_law_5 (460, .iaload, 1) (List.mem_of_getElem? (i := 8) rfl)), ?_⟩
  refine List.forall_mem_cons.mpr ⟨⟨s_callV (ci := 9) rfl mo159 rfl rfl (dd_L_law_5 (461, .invokevirtual 67, 3) (List.mem_of_getElem? (i := 9) rfl)) ow_L_law mlL_67 mi159 msl159 in_9 mn159, mo159⟩, ?_⟩
  refine List.forall_mem_cons.mpr ⟨s_icmp_eq (dd_L_law_5 (464, .if_icmp .eq 386, 3) (List.mem_of_getElem? (i := 10) rfl)) (by decide), ?_⟩
  refine List.forall_mem_cons.mpr ⟨s_iconst (dd_L_law_5 (467, .iconst 0, 1) (List.mem_of_getElem? (i := 11) rfl)) rfl, ?_⟩
  refine List.forall_mem_cons.mpr ⟨Or.inr (Or.inr ⟨rfl, (dd_L_law_5 (468, .ireturn, 1) (List.mem_of_getElem? (i := 12) rfl)), rfl⟩), ?_⟩
  refine List.forall_mem_cons.mpr ⟨s_aload_n (dd_L_law_5 (469, .aload_n 1, 1) (List.mem_of_getElem? (i := 13) rfl)) rfl, ?_⟩
  refine List.forall_mem_cons.mpr ⟨⟨s_callV (ci := 8) rfl mo97 rfl rfl (dd_L_law_5 (470, .invokevirtual 68, 3) (List.mem_of_getElem? (i := 14) rfl)) ow_L_law mlL_68 mi97 msl97 in_8 mn97, mo97⟩, ?_⟩
  refine List.forall_mem_cons.mpr ⟨s_aload_n (dd_L_law_5 (473, .aload_n 2, 1) (List.mem_of_getElem? (i := 15) rfl)) rfl, ?_⟩
  refine List.forall_mem_cons.mpr ⟨⟨s_callV (ci := 9) rfl mo160 rfl rfl (dd_L_law_5 (474, .invokevirtual 71, 3) (List.mem_of_getElem? (i := 16) rfl)) ow_L_law mlL_71 mi160 msl160 in_9 mn160, mo160⟩, ?_⟩
  refine List.forall_mem_cons.mpr ⟨s_icmp_eq (dd_L_law_5 (477, .if_icmp .eq 373, 3) (List.mem_of_getElem? (i := 17) rfl)) (by decide), ?_⟩
  refine List.forall_mem_cons.mpr ⟨s_iconst (dd_L_law_5 (480, .iconst 0, 1) (List.mem_of_getElem? (i := 18) rfl)) rfl, ?_⟩
  refine List.forall_mem_cons.mpr ⟨Or.inr (Or.inr ⟨rfl, (dd_L_law_5 (481, .ireturn, 1) (List.mem_of_getElem? (i := 19) rfl)), rfl⟩), ?_⟩
  refine List.forall_mem_cons.mpr ⟨s_aload_n (dd_L_law_5 (482, .aload_n 1, 1) (List.mem_of_getElem? (i := 20) rfl)) rfl, ?_⟩
  refine List.forall_mem_cons.mpr ⟨s_aload_n (dd_L_law_5 (483, .aload_n 0, 1) (List.mem_of_getElem? (i := 21) rfl)) rfl, ?_⟩
  refine List.forall_mem_cons.mpr ⟨s_iload_n (dd_L_law_5 (484, .iload_n 3, 1) (List.mem_of_getElem? (i := 22) rfl)) rfl, ?_⟩
  refine List.forall_mem_cons.mpr ⟨s_iconst (dd_L_law_5 (485, .iconst 1, 1) (List.mem_of_getElem? (i := 23) rfl)) rfl, ?_⟩
  refine List.forall_mem_cons.mpr ⟨s_iadd (dd_L_law_5 (486, .iadd, 1) (List.mem_of_getElem? (i := 24) rfl)), ?_⟩
  refine List.forall_mem_cons.mpr ⟨s_iald (dd_L_law_5 (487, .iaload, 1) (List.mem_of_getElem? (i := 25) rfl)), ?_⟩
  refine List.forall_mem_cons.mpr ⟨⟨s_callV (ci := 8) rfl mo98 rfl rfl (dd_L_law_5 (488, .invokevirtual 72, 3) (List.mem_of_getElem? (i := 26) rfl)) ow_L_law mlL_72 mi98 msl98 in_8 mn98, mo98⟩, ?_⟩
  refine List.forall_mem_cons.mpr ⟨s_aload_n (dd_L_law_5 (491, .aload_n 2, 1) (List.mem_of_getElem? (i := 27) rfl)) rfl, ?_⟩
  refine List.forall_mem_cons.mpr ⟨s_aload_n (dd_L_law_5 (492, .aload_n 0, 1) (List.mem_of_getElem? (i := 28) rfl)) rfl, ?_⟩
  refine List.forall_mem_cons.mpr ⟨s_iload_n (dd_L_law_5 (493, .iload_n 3, 1) (List.mem_of_getElem? (i := 29) rfl)) rfl, ?_⟩
  refine List.forall_mem_cons.mpr ⟨s_iconst (dd_L_law_5 (494, .iconst 1, 1) (List.mem_of_getElem? (i := 30) rfl)) rfl, ?_⟩
  refine List.forall_mem_cons.mpr ⟨s_iadd (dd_L_law_5 (495, .iadd, 1) (List.mem_of_getElem? (i := 31) rfl)), ?_⟩
  refine List.forall_mem_cons.mpr ⟨s_iald (dd_L_law_5 (496, .iaload, 1) (List.mem_of_getElem? (i := 32) rfl)), ?_⟩
  refine List.forall_mem_cons.mpr ⟨⟨s_callV (ci := 9) rfl mo166 rfl rfl (dd_L_law_5 (497, .invokevirtual 75, 3) (List.mem_of_getElem? (i := 33) rfl)) ow_L_law mlL_75 mi166 msl166 in_9 mn166, mo166⟩, ?_⟩
  refine List.forall_mem_cons.mpr ⟨s_icmp_eq (dd_L_law_5 (500, .if_icmp .eq 350, 3) (List.mem_of_getElem? (i := 34) rfl)) (by decide), ?_⟩
  refine List.forall_mem_cons.mpr ⟨s_iconst (dd_L_law_5 (503, .iconst 0, 1) (List.mem_of_getElem? (i := 35) rfl)) rfl, ?_⟩
  refine List.forall_mem_cons.mpr ⟨Or.inr (Or.inr ⟨rfl, (dd_L_law_5 (504, .ireturn, 1) (List.mem_of_getElem? (i := 36) rfl)), rfl⟩), ?_⟩
  refine List.forall_mem_cons.mpr ⟨s_aload_n (dd_L_law_5 (505, .aload_n 1, 1) (List.mem_of_getElem? (i := 37) rfl)) rfl, ?_⟩
  refine List.forall_mem_cons.mpr ⟨s_aload_n (dd_L_law_5 (506, .aload_n 0, 1) (List.mem_of_getElem? (i := 38) rfl)) rfl, ?_⟩
  refine List.forall_mem_cons.mpr ⟨s_iload_n (dd_L_law_5 (507, .iload_n 3, 1) (List.mem_of_getElem? (i := 39) rfl)) rfl, ?_⟩
  refine List.forall_mem_cons.mpr ⟨s_iconst (dd_L_law_5 (508, .iconst 1, 1) (List.mem_of_getElem? (i := 40) rfl)) rfl, ?_⟩
  refine List.forall_mem_cons.mpr ⟨s_iadd (dd_L_law_5 (509, .iadd, 1) (List.mem_of_getElem? (i := 41) rfl)), ?_⟩
  refine List.forall_mem_cons.mpr ⟨s_iald (dd_L_law_5 (510, .iaload, 1) (List.mem_of_getElem? (i := 42) rfl)), ?_⟩
  refine List.forall_mem_cons.mpr ⟨⟨s_callV (ci := 8) rfl mo99 rfl rfl (dd_L_law_5 (511, .invokevirtual 76, 3) (List.mem_of_getElem? (i := 43) rfl)) ow_L_law mlL_76 mi99 msl99 in_8 mn99, mo99⟩, ?_⟩
  refine List.forall_mem_cons.mpr ⟨s_aload_n (dd_L_law_5 (514, .aload_n 2, 1) (List.mem_of_getElem? (i := 44) rfl)) rfl, ?_⟩
  refine List.forall_mem_cons.mpr ⟨s_aload_n (dd_L_law_5 (515, .aload_n 0, 1) (List.mem_of_getElem? (i := 45) rfl)) rfl, ?_⟩
  refine List.forall_mem_cons.mpr ⟨s_iload_n (dd_L_law_5 (516, .iload_n 3, 1) (List.mem_of_getElem? (i := 46) rfl)) rfl, ?_⟩
  refine List.forall_mem_cons.mpr ⟨s_iconst (dd_L_law_5 (517, .iconst 1, 1) (List.mem_of_getElem? (i := 47) rfl)) rfl, ?_⟩
  refine List.forall_mem_cons.mpr ⟨s_iadd (dd_L_law_5 (518, .iadd, 1) (List.mem_of_getElem? (i := 48) rfl)), ?_⟩
  refine List.forall_mem_cons.mpr ⟨s_iald (dd_L_law_5 (519, .iaload, 1) (List.mem_of_getElem? (i := 49) rfl)), ?_⟩
  refine List.forall_mem_cons.mpr ⟨⟨s_callV (ci := 9) rfl mo167 rfl rfl (dd_L_law_5 (520, .invokevirtual 79, 3) (List.mem_of_getElem? (i := 50) rfl)) ow_L_law mlL_79 mi167 msl167 in_9 mn167, mo167⟩, ?_⟩
  refine List.forall_mem_cons.mpr ⟨s_icmp_eq (dd_L_law_5 (523, .if_icmp .eq 327, 3) (List.mem_of_getElem? (i := 51) rfl)) (by decide), ?_⟩
  refine List.forall_mem_cons.mpr ⟨s_iconst (dd_L_law_5 (526, .iconst 0, 1) (List.mem_of_getElem? (i := 52) rfl)) rfl, ?_⟩
  refine List.forall_mem_cons.mpr ⟨Or.inr (Or.inr ⟨rfl, (dd_L_law_5 (527, .ireturn, 1) (List.mem_of_getElem? (i := 53) rfl)), rfl⟩), ?_⟩
  refine List.forall_mem_cons.mpr ⟨s_aload_n (dd_L_law_5 (528, .aload_n 1, 1) (List.mem_of_getElem? (i := 54) rfl)) rfl, ?_⟩
  refine List.forall_mem_cons.mpr ⟨s_aload_n (dd_L_law_5 (529, .aload_n 0, 1) (List.mem_of_getElem? (i := 55) rfl)) rfl, ?_⟩
  refine List.forall_mem_cons.mpr ⟨s_iload_n (dd_L_law_5 (530, .iload_n 3, 1) (List.mem_of_getElem? (i := 56) rfl)) rfl, ?_⟩
  refine List.forall_mem_cons.mpr ⟨s_iconst (dd_L_law_5 (531, .iconst 1, 1) (List.mem_of_getElem? (i := 57) rfl)) rfl, ?_⟩
  refine List.forall_mem_cons.mpr ⟨s_iadd (dd_L_law_5 (532, .iadd, 1) (List.mem_of_getElem? (i := 58) rfl)), ?_⟩
  refine List.forall_mem_cons.mpr ⟨s_iald (dd_L_law_5 (533, .iaload, 1) (List.mem_of_getElem? (i := 59) rfl)), ?_⟩
  exact fun _ h => absurd h List.not_mem_nil
def D_L_law_6 : List (Nat × Instr × Nat) := [(534, .invokevirtual 80, 3), (537, .aload_n 2, 1), (538, .aload_n 0, 1), (539, .iload_n 3, 1), (540, .iconst 1, 1), (541, .iadd, 1), (542, .iaload, 1), (543, .invokevirtual 83, 3), (546, .if_icmp .eq 304, 3), (549, .iconst 0, 1), (550, .ireturn, 1), (551, .aload_n 1, 1), (552, .aload_n 0, 1), (553, .iload_n 3, 1), (554, .iconst 1, 1), (555, .iadd, 1), (556, .iaload, 1), (557, .aload_n 0, 1), (558, .iload_n 3, 1), (559, .iconst 2, 1), (560, .iadd, 1), (561, .iaload, 1), (562, .invokevirtual 84, 3), (565, .aload_n 2, 1), (566, .aload_n 0, 1), (567, .iload_n 3, 1), (568, .iconst 1, 1), (569, .iadd, 1), (570, .iaload, 1), (571, .aload_n 0, 1), (572, .iload_n 3, 1), (573, .iconst 2, 1), (574, .iadd, 1), (575, .iaload, 1), (576, .invokevirtual 87, 3), (579, .if_icmp .eq 271, 3), (582, .iconst 0, 1), (583, .ireturn, 1), (584, .aload_n 1, 1), (585, .aload_n 0, 1), (586, .iload_n 3, 1), (587, .iconst 1, 1), (588, .iadd, 1), (589, .iaload, 1), (590, .aload_n 0, 1), (591, .iload_n 3, 1), (592, .iconst 2, 1), (593, .iadd, 1), (594, .iaload, 1), (595, .invokevirtual 88, 3), (598, .aload_n 2, 1), (599, .aload_n 0, 1), (600, .iload_n 3, 1), (601, .iconst 1, 1), (602, .iadd, 1), (603, .iaload, 1), (604, .aload_n 0, 1), (605, .iload_n 3, 1), (606, .iconst 2, 1), (607, .iadd, 1)]
theorem dd_L_law_6 : ∀ e ∈ D_L_law_6, decode (mtJ 186).2.1 e.1 = .ok e.2 := by decide +kernel
set_option maxRecDepth 10000 in
theorem so_L_law_6 : ∀ e ∈ o_L_law_6, SndO 186 e.1 e.2 := by
  refine List.forall_mem_cons.mpr ⟨⟨s_callV (ci := 8) rfl mo100 rfl rfl (dd_L_law_6 (534, .invokevirtual 80, 3) (List.mem_of_getElem? (i := 0) rfl)) ow_L_law mlL_80 mi100 msl100 in_8 mn100, mo100⟩, ?_⟩
  refine List.forall_mem_cons.mpr ⟨s_aload_n (dd_L_law_6 (537, .aload_n 2, 1) (List.mem_of_getElem? (i := 1) rfl)) rfl, ?_⟩
  refine List.forall_mem_cons.mpr ⟨s_aload_n (dd_L_law_6 (538, .aload_n 0, 1) (List.mem_of_getElem? (i := 2) rfl)) rfl, ?_⟩
  refine List.forall_mem_cons.mpr ⟨s_iload_n (dd_L_law_6 (539, .iload_n 3, 1) (List.mem_of_getElem? (i := 3) rfl)) rfl, ?_⟩
  refine List.forall_mem_cons.mpr ⟨s_iconst (dd_L_law_6 (540, .iconst 1, 1) (List.mem_of_getElem? (i := 4) rfl)) rfl, ?_⟩
  refine List.forall_mem_cons.mpr ⟨s_iadd (dd_L_law_6 (541, .iadd, 1) (List.mem_of_getElem? (i := 5) rfl)), ?_⟩
  refine List.forall_mem_cons.mpr ⟨s_iald (dd_L_law_6 (542, .iaload, 1) (List.mem_of_getElem? (i := 6) rfl)), ?_⟩
  refine List.forall_mem_cons.mpr ⟨⟨s_callV (ci := 9) rfl mo169 rfl rfl (dd_L_law_6 (543, .invokevirtual 83, 3) (List.mem_of_getElem? (i := 7) rfl)) ow_L_law mlL_83 mi169 msl169 in_9 mn169, mo169⟩, ?_⟩
  refine List.forall_mem_cons.mpr ⟨s_icmp_eq (dd_L_law_6 (546, .if_icmp .eq 304, 3) (List.mem_of_getElem? (i := 8) rfl)) (by decide), ?_⟩
  refine List.forall_mem_cons.mpr ⟨s_iconst (dd_L_law_6 (549, .iconst 0, 1) (List.mem_of_getElem? (i := 9) rfl)) rfl, ?_⟩
  refine List.forall_mem_cons.mpr ⟨Or.inr (Or.inr ⟨rfl, (dd_L_law_6 (550, .ireturn, 1) (List.mem_of_getElem? (i := 10) rfl)), rfl⟩), ?_⟩
  refine List.forall_mem_cons.mpr ⟨s_aload_n (dd_L_law_6 (551, .aload_n 1, 1) (List.mem_of_getElem? (i := 11) rfl)) rfl, ?_⟩
  refine List.forall_mem_cons.mpr ⟨s_aload_n (dd_L_law_6 (552, .aload_n 0, 1) (List.mem_of_getElem? (i := 12) rfl)) rfl, ?_⟩
  refine List.forall_mem_cons.mpr ⟨s_iload_n (dd_L_law_6 (553, .iload_n 3, 1) (List.mem_of_getElem? (i := 13) rfl)) rfl, ?_⟩
  refine List.forall_mem_cons.mpr ⟨s_iconst (dd_L_law_6 (554, .iconst 1, 1) (List.mem_of_getElem? (i := 14) rfl)) rfl, ?_⟩
  refine List.forall_mem_cons.mpr ⟨s_iadd (dd_L_law_6 (555, .iadd, 1) (List.mem_of_getElem? (i := 15) rfl)), ?_⟩
  refine List.forall_mem_cons.mpr ⟨s_iald (dd_L_law_6 (556, .iaload, 1) (List.mem_of_getElem? (i := 16) rfl)), ?_⟩
  refine List.forall_mem_cons.mpr ⟨s_aload_n (dd_L_law_6 (557, .aload_n 0, 1) (List.mem_of_getElem? (i := 17) rfl)) rfl, ?_⟩
  refine List.forall_mem_cons.mpr ⟨s_iload_n (dd_L_law_6 (558, .iload_n 3, 1) (List.mem_of_getElem? (i := 18) rfl)) rfl, ?_⟩
  refine List.forall_mem_cons.mpr ⟨s_iconst (dd_L_law_6 (559, .iconst 2, 1) (List.mem_of_getElem? (i := 19) rfl)) rfl, ?_⟩
  refine List.forall_mem_cons.mpr ⟨s_iadd (dd_L_law_6 (560, .iadd, 1) (List.mem_of_getElem? (i := 20) rfl)), ?_⟩
  refine List.forall_mem_cons.mpr ⟨s_iald (dd_L_law_6 (561, .iaload, 1) (List.mem_of_getElem? (i := 21) rfl)), ?_⟩
  refine List.forall_mem_cons.mpr ⟨⟨s_callV (ci := 8) rfl mo101 rfl rfl (dd_L_law_6 (562, .invokevirtual 84, 3) (List.mem_of_getElem? (i := 22) rfl)) ow_L_law mlL_84 mi101 msl101 in_8 mn101, mo101⟩, ?_⟩
  refine List.forall_mem_cons.mpr ⟨s_aload_n (dd_L_law_6 (565, .aload_n 2, 1) (List.mem_of_getElem? (i := 23) rfl)) rfl, ?_⟩
  refine List.forall_mem_cons.mpr ⟨s_aload_n (dd_L_law_6 (566, .aload_n 0, 1) (List.mem_of_getElem? (i := 24) rfl)) rfl, ?_⟩
  refine List.forall_mem_cons.mpr ⟨s_iload_n (dd_L_law_6 (567, .iload_n 3, 1) (List.mem_of_getElem? (i := 25) rfl)) rfl, ?_⟩
  refine List.forall_mem_cons.mpr ⟨s_iconst (dd_L_law_6 (568, .iconst 1, 1) (List.mem_of_getElem? (i := 26) rfl)) rfl, ?_⟩
  refine List.forall_mem_cons.mpr ⟨s_iadd (dd_L_law_6 (569, .iadd, 1) (List.mem_of_getElem? (i := 27) rfl)), ?_⟩
  refine List.forall_mem_cons.mpr ⟨s_iald (dd_L_law_6 (570, .iaload, 1) (List.mem_of_getElem? (i := 28) rfl)), ?_⟩
  refine List.forall_mem_cons.mpr ⟨s_aload_n (dd_L_law_6 (571, .aload_n 0, 1) (List.mem_of_getElem? (i := 29) rfl)) rfl, ?_⟩
  refine List.forall_mem_cons.mpr ⟨s_iload_n (dd_L_law_6 (572, .iload_n 3, 1) (List.mem_of_getElem? (i := 30) rfl)) rfl, ?_⟩
  refine List.forall_mem_cons.mpr ⟨s_iconst (dd_L_law_6 (573, .iconst 2, 1) (List.mem_of_getElem? (i := 31) rfl)) rfl, ?_⟩
  refine List.forall_mem_cons.mpr ⟨s_iadd (dd_L_law_6 (574, .iadd, 1) (List.mem_of_getElem? (i := 32) rfl)), ?_⟩
  refine List.forall_mem_cons.mpr ⟨s_iald (dd_L_law_6 (575, .iaload, 1) (List.mem_of_getElem? (i := 33) rfl)), ?_⟩
  refine List.forall_mem_cons.mpr ⟨⟨s_callV (ci := 9) rfl mo172 rfl rfl (dd_L_law_6 (576, .invokevirtual 87, 3) (List.mem_of_getElem? (i := 34) rfl)) ow_L_law mlL_87 mi172 msl172 in_9 mn172, mo172⟩, ?_⟩
  refine List.forall_mem_cons.mpr ⟨s_icmp_eq (dd_L_law_6 (579, .if_icmp .eq 271, 3) (List.mem_of_getElem? (i := 35) rfl)) (by decide), ?_⟩
  refine List.forall_mem_cons.mpr ⟨s_iconst (dd_L_law_6 (582, .iconst 0, 1) (List.mem_of_getElem? (i := 36) rfl)) rfl, ?_⟩
  refine List.forall_mem_cons.mpr ⟨Or.inr (Or.inr ⟨rfl, (dd_L_law_6 (583, .ireturn, 1) (List.mem_of_getElem? (i := 37) rfl)), rfl⟩), ?_⟩
  refine List.forall_mem_cons.mpr ⟨s_aload_n (dd_L_law_6 (584, .aload_n 1, 1) (List.mem_of_getElem? (i := 38) rfl)) rfl, ?_⟩
  refine List.forall_mem_cons.mpr ⟨s_aload_n (dd_L_law_6 (585, .aload_n 0, 1) (List.mem_of_getElem? (i := 39) rfl)) rfl, ?_⟩
  refine List.forall_mem_cons.mpr ⟨s_iload_n (dd_L_law_6 (586, .iload_n 3, 1) (List.mem_of_getElem? (i := 40) rfl)) rfl, ?_⟩
  refine List.forall_mem_cons.mpr ⟨s_iconst (dd_L_law_6 (587, .iconst 1, 1) (List.mem_of_getElem? (i := 41) rfl)) rfl, ?_⟩
  refine List.forall_mem_cons.mpr ⟨s_iadd (dd_L_law_6 (588, .iadd, 1) (List.mem_of_getElem? (i := 42) rfl)), ?_⟩
  refine List.forall_mem_cons.mpr ⟨s_iald (dd_L_law_6 (589, .iaload, 1) (List.mem_of_getElem? (i := 43) rfl)), ?_⟩
  refine List.forall_mem_cons.mpr ⟨s_aload_n (dd_L_law_6 (590, .aload_n 0, 1) (List.mem_of_getElem? (i := 44) rfl)) rfl, ?_⟩
  refine List.forall_mem_cons.mpr ⟨s_iload_n (dd_L_law_6 (591, .iload_n 3, 1) (List.mem_of_getElem? (i := 45) rfl)) rfl, ?_⟩
  refine List.forall_mem_cons.mpr ⟨s_iconst (dd_L_law_6 (592, .iconst 2, 1) (List.mem_of_getElem? (i := 46) rfl)) rfl, ?_⟩
  refine List.forall_mem_cons.mpr ⟨s_iadd (dd_L_law_6 (593, .iadd, 1) (List.mem_of_getElem? (i := 47) rfl)), ?_⟩
  refine List.forall_mem_cons.mpr ⟨s_iald (dd_L_law_6 (594, .iaload, 1) (List.mem_of_getElem? (i := 48) rfl)), ?_⟩
  refine List.forall_mem_cons.mpr ⟨⟨s_callV (ci := 8) rfl mo102 rfl rfl (dd_L_law_6 (595, .invokevirtual 88, 3) (List.mem_of_getElem? (i := 49) rfl)) ow_L_law mlL_88 mi102 msl102 in_8 mn102, mo102⟩, ?_⟩
  refine List.forall_mem_cons.mpr ⟨s_aload_n (dd_L_law_6 (598, .aload_n 2, 1) (List.mem_of_getElem? (i := 50) rfl)) rfl, ?_⟩
  refine List.forall_mem_cons.mpr ⟨s_aload_n (dd_L_law_6 (599, .aload_n 0, 1) (List.mem_of_getElem? (i := 51) rfl)) rfl, ?_⟩
  refine List.forall_mem_cons.mpr ⟨s_iload_n (dd_L_law_6 (600, .iload_n 3, 1) (List.mem_of_getElem? (i := 52) rfl)) rfl, ?_⟩
  refine List.forall_mem_cons.mpr ⟨s_iconst (dd_L_law_6 (601, .iconst 1, 1) (List.mem_of_getElem? (i := 53) rfl)) rfl, ?_⟩
  refine List.forall_mem_cons.mpr ⟨s_iadd (dd_L_law_6 (602, .iadd, 1) (List.mem_of_getElem? (i := 54) rfl)), ?_⟩
  refine List.forall_mem_cons.mpr ⟨s_iald (dd_L_law_6 (603, .iaload, 1) (List.mem_of_getElem? (i := 55) rfl)), ?_⟩
  refine List.forall_mem_cons.mpr ⟨s_aload_n (dd_L_law_6 (604, .aload_n 0, 1) (List.mem_of_getElem? (i := 56) rfl)) rfl, ?_⟩
  refine List.forall_mem_cons.mpr ⟨s_iload_n (dd_L_law_6 (605, .iload_n 3, 1) (List.mem_of_getElem? (i := 57) rfl)) rfl, ?_⟩
  refine List.forall_mem_cons.mpr ⟨s_iconst (dd_L_law_6 (606, .iconst 2, 1) (List.mem_of_getElem? (i := 58) rfl)) rfl, ?_⟩
  refine List.forall_mem_cons.mpr ⟨s_iadd (dd_L_law_6 (607, .iadd, 1) (List.mem_of_getElem? (i := 59) rfl)), ?_⟩
  exact fun _ h => absurd h List.not_mem_nil
def D_L_law_7 : List (Nat × Instr × Nat) := [(608, .iaload, 1), (609, .invokevirtual 91, 3), (612, .if_icmp .eq 238, 3), (615, .iconst 0, 1), (616, .ireturn, 1), (617, .aload_n 1, 1), (618, .aload_n 0, 1), (619, .iload_n 3, 1), (620, .iconst 1, 1), (621, .iadd, 1), (622, .iaload, 1), (623, .aload_n 0, 1), (624, .iload_n 3, 1), (625, .iconst 2, 1), (626, .iadd, 1), (627, .iaload, 1), (628, .invokevirtual 92, 3), (631, .aload_n 2, 1), (632, .aload_n 0, 1), (633, .iload_n 3, 1), (634, .iconst 1, 1), (635, .iadd, 1), (636, .iaload, 1), (637, .aload_n 0, 1), (638, .iload_n 3, 1), (639, .iconst 2, 1), (640, .iadd, 1), (641, .iaload, 1), (642, .invokevirtual 95, 3), (645, .if_icmp .eq 205, 3), (648, .iconst 0, 1), (649, .ireturn, 1), (650, .aload_n 1, 1), (651, .aload_n 0, 1), (652, .iload_n 3, 1), (653, .iconst 1, 1), (654, .iadd, 1), (655, .iaload, 1), (656, .aload_n 0, 1), (657, .iload_n 3, 1), (658, .iconst 2, 1), (659, .iadd, 1), (660, .iaload, 1), (661, .aload_n 0, 1), (662, .iload_n 3, 1), (663, .iconst 3, 1), (664, .iadd, 1), (665, .iaload, 1), (666, .ifCond .eq 7, 3), (669, .iconst 1, 1), (670, .goto 4, 3), (673, .iconst 0, 1), (674, .invokevirtual 96, 3), (677, .aload_n 2, 1), (678, .aload_n 0, 1), (679, .iload_n 3, 1), (680, .iconst 1, 1), (681, .iadd, 1), (682, .iaload, 1), (683, .aload_n 0, 1)]
theorem dd_L_law_7 : ∀ e ∈ D_L_law_7, decode (mtJ 186).2.1 e.1 = .ok e.2 := by decide +kernel
set_option maxRecDepth 10000 in
theorem so_L_law_7 : ∀ e ∈ o_L_law_7, SndO 186 e.1 e.2 := by
  refine List.forall_mem_cons.mpr ⟨s_iald (dd_L_law_7 (608, .iaload, 1) (List.mem_of_getElem? (i := 0) rfl)), ?_⟩
  refine List.forall_mem_cons.mpr ⟨⟨s_callV (ci := 9) rfl mo174 rfl rfl (dd_L_law_7 (609, .invokevirtual 91, 3) (List.mem_of_getElem? (i := 1) rfl)) ow_L_law mlL_91 mi174 msl174 in_9 mn174, mo174⟩, ?_⟩
  refine List.forall_mem_cons.mpr ⟨s_icmp_eq (dd_L_law_7 (612, .if_icmp .eq 238, 3) (List.mem_of_getElem? (i := 2) rfl)) (by decide), ?_⟩
  refine List.forall_mem_cons.mpr ⟨s_iconst (dd_L_law_7 (615, .iconst 0, 1) (List.mem_of_getElem? (i := 3) rfl)) rfl, ?_⟩
  refine List.forall_mem_cons.mpr ⟨Or.inr (Or.inr ⟨rfl, (dd_L_law_7 (616, .ireturn, 1) (List.mem_of_getElem? (i := 4) rfl)), rfl⟩), ?_⟩
  refine List.forall_mem_cons.mpr ⟨s_aload_n (dd_L_law_7 (617, .aload_n 1, 1) (List.mem_of_getElem? (i := 5) rfl)) rfl, ?_⟩
  refine List.forall_mem_cons.mpr ⟨s_aload_n (dd_L_law_7 (618, .aload_n 0, 1) (List.mem_of_getElem? (i := 6) rfl)) rfl, ?_⟩
  refine List.forall_mem_cons.mpr ⟨s_iload_n (dd_L_law_7 (619, .iload_n 3, 1) (List.mem_of_getElem? (i := 7) rfl)) rfl, ?_⟩
  refine List.forall_mem_cons.mpr ⟨s_iconst (dd_L_law_7 (620, .iconst 1, 1) (List.mem_of_getElem? (i := 8) rfl)) rfl, ?_⟩
  refine List.forall_mem_cons.mpr ⟨s_iadd (dd_L_law_7 (621, .iadd, 1) (List.mem_of_getElem? (i := 9) rfl)), ?_⟩
  refine List.forall_mem_cons.mpr ⟨s_iald (dd_L_law_7 (622, .iaload, 1) (List.mem_of_getElem? (i := 10) rfl)), ?_⟩
  refine List.forall_mem_cons.mpr ⟨s_aload_n (dd_L_law_7 (623, .aload_n 0, 1) (List.mem_of_getElem? (i := 11) rfl)) rfl, ?_⟩
  refine List.forall_mem_cons.mpr ⟨s_iload_n (dd_L_law_7 (624, .iload_n 3, 1) (List.mem_of_getElem? (i := 12) rfl)) rfl, ?_⟩
  refine List.forall_mem_cons.mpr ⟨s_iconst (dd_L_law_7 (625, .iconst 2, 1) (List.mem_of_getElem? (i := 13) rfl)) rfl, ?_⟩
  refine List.forall_mem_cons.mpr ⟨s_iadd (dd_L_law_7 (626, .iadd, 1) (List.mem_of_getElem? (i := 14) rfl)), ?_⟩
  refine List.forall_mem_cons.mpr ⟨s_iald (dd_L_law_7 (627, .iaload, 1) (List.mem_of_getElem? (i := 15) rfl)), ?_⟩
  refine List.forall_mem_cons.mpr ⟨⟨s_callV (ci := 8) rfl mo103 rfl rfl (dd_L_law_7 (628, .invokevirtual 92, 3) (List.mem_of_getElem? (i := 16) rfl)) ow_L_law mlL_92 mi103 msl103 in_8 mn103, mo103⟩, ?_⟩
  refine List.forall_mem_cons.mpr ⟨s_aload_n (dd_L_law_7 (631, .aload_n 2, 1) (List.mem_of_getElem? (i := 17) rfl)) rfl, ?_⟩
  refine List.forall_mem_cons.mpr ⟨s_aload_n (dd_L_law_7 (632, .aload_n 0, 1) (List.mem_of_getElem? (i := 18) rfl)) rfl, ?_⟩
  refine List.forall_mem_cons.mpr ⟨s_iload_n (dd_L_law_7 (633, .iload_n 3, 1) (List.mem_of_getElem? (i := 19) rfl)) rfl, ?_⟩
  refine List.forall_mem_cons.mpr ⟨s_iconst (dd_L_law_7 (634, .iconst 1, 1) (List.mem_of_getElem? (i := 20) rfl)) rfl, ?_⟩
  refine List.forall_mem_cons.mpr ⟨s_iadd (dd_L_law_7 (635, .iadd, 1) (List.mem_of_getElem? (i := 21) rfl)), ?_⟩
  refine List.forall_mem_cons.mpr ⟨s_iald (dd_L_law_7 (636, .iaload, 1) (List.mem_of_getElem? (i := 22) rfl)), ?_⟩
  refine List.forall_mem_cons.mpr ⟨s_aload_n (dd_L_law_7 (637, .aload_n 0, 1) (List.mem_of_getElem? (i := 23) rfl)) rfl, ?_⟩
  refine List.forall_mem_cons.mpr ⟨s_iload_n (dd_L_law_7 (638, .iload_n 3, 1) (List.mem_of_getElem? (i := 24) rfl)) rfl, ?_⟩
  refine List.forall_mem_cons.mpr ⟨s_iconst (dd_L_law_7 (639, .iconst 2, 1) (List.mem_of_getElem? (i := 25) rfl)) rfl, ?_⟩
  refine List.forall_mem_cons.mpr ⟨s_iadd (dd_L_law_7 (640, .iadd, 1) (List.mem_of_getElem? (i := 26) rfl)), ?_⟩
  refine List.forall_mem_cons.mpr ⟨s_iald (dd_L_law_7 (641, .iaload, 1) (List.mem_of_getElem? (i := 27) rfl)), ?_⟩
  refine List.forall_mem_cons.mpr ⟨⟨s_callV (ci := 9) rfl mo175 rfl rfl (dd_L_law_7 (642, .invokevirtual 95, 3) (List.mem_of_getElem? (i := 28) rfl)) ow_L_law mlL_95 mi175 msl175 in_9 mn175, mo175⟩, ?_⟩
  refine List.forall_mem_cons.mpr ⟨s_icmp_eq (dd_L_law_7 (645, .if_icmp .eq 205, 3) (List.mem_of_getElem? (i := 29) rfl)) (by decide), ?_⟩
  refine List.forall_mem_cons.mpr ⟨s_iconst (dd_L_law_7 (648, .iconst 0, 1) (List.mem_of_getElem? (i := 30) rfl)) rfl, ?_⟩
  refine List.forall_mem_cons.mpr ⟨Or.inr (Or.inr ⟨rfl, (dd_L_law_7 (649, .ireturn, 1) (List.mem_of_getElem? (i := 31) rfl)), rfl⟩), ?_⟩
  refine List.forall_mem_cons.mpr ⟨s_aload_n (dd_L_law_7 (650, .aload_n 1, 1) (List.mem_of_getElem? (i := 32) rfl)) rfl, ?_⟩
  refine List.forall_mem_cons.mpr ⟨s_aload_n (dd_L_law_7 (651, .aload_n 0, 1) (List.mem_of_getElem? (i := 33) rfl)) rfl, ?_⟩
  refine List.forall_mem_cons.mpr ⟨s_iload_n (dd_L_law_7 (652, .iload_n 3, 1) (List.mem_of_getElem? (i := 34) rfl)) rfl, ?_⟩
  refine List.forall_mem_cons.mpr ⟨s_iconst (dd_L_law_7 (653, .iconst 1, 1) (List.mem_of_getElem? (i := 35) rfl)) rfl, ?_⟩
  refine List.forall_mem_cons.mpr ⟨s_iadd (dd_L_law_7 (654, .iadd, 1) (List.mem_of_getElem? (i := 36) rfl)), ?_⟩
  refine List.forall_mem_cons.mpr ⟨s_iald (dd_L_law_7 (655, .iaload, 1) (List.mem_of_getElem? (i := 37) rfl)), ?_⟩
  refine List.forall_mem_cons.mpr ⟨s_aload_n (dd_L_law_7 (656, .aload_n 0, 1) (List.mem_of_getElem? (i := 38) rfl)) rfl, ?_⟩
  refine List.forall_mem_cons.mpr ⟨s_iload_n (dd_L_law_7 (657, .iload_n 3, 1) (List.mem_of_getElem? (i := 39) rfl)) rfl, ?_⟩
  refine List.forall_mem_cons.mpr ⟨s_iconst (dd_L_law_7 (658, .iconst 2, 1) (List.mem_of_getElem? (i := 40) rfl)) rfl, ?_⟩
  refine List.forall_mem_cons.mpr ⟨s_iadd (dd_L_law_7 (659, .iadd, 1) (List.mem_of_getElem? (i := 41) rfl)), ?_⟩
  refine List.forall_mem_cons.mpr ⟨s_iald (dd_L_law_7 (660, .iaload, 1) (List.mem_of_getElem? (i := 42) rfl)), ?_⟩
  refine List.forall_mem_cons.mpr ⟨s_aload_n (dd_L_law_7 (661, .aload_n 0, 1) (List.mem_of_getElem? (i := 43) rfl)) rfl, ?_⟩
  refine List.forall_mem_cons.mpr ⟨s_iload_n (dd_L_law_7 (662, .iload_n 3, 1) (List.mem_of_getElem? (i := 44) rfl)) rfl, ?_⟩
  refine List.forall_mem_cons.mpr ⟨s_iconst (dd_L_law_7 (663, .iconst 3, 1) (List.mem_of_getElem? (i := 45) rfl)) rfl, ?_⟩
  refine List.forall_mem_cons.mpr ⟨s_iadd (dd_L_law_7 (664, .iadd, 1) (List.mem_of_getElem? (i := 46) rfl)), ?_⟩
  refine List.forall_mem_cons.mpr ⟨s_iald (dd_L_law_7 (665, .iaload, 1) (List.mem_of_getElem? (i := 47) rfl)), ?_⟩
  refine List.forall_mem_cons.mpr ⟨s_if_eq (dd_L_law_7 (666, .ifCond .eq 7, 3) (List.mem_of_getElem? (i := 48) rfl)) (by decide), ?_⟩
  refine List.forall_mem_cons.mpr ⟨s_iconst (dd_L_law_7 (669, .iconst 1, 1) (List.mem_of_getElem? (i := 49) rfl)) rfl, ?_⟩
  refine List.forall_mem_cons.mpr ⟨s_goto (dd_L_law_7 (670, .goto 4, 3) (List.mem_of_getElem? (i := 50) rfl)) (by decide), ?_⟩
  refine List.forall_mem_cons.mpr ⟨s_iconst (dd_L_law_7 (673, .iconst 0, 1) (List.mem_of_getElem? (i := 51) rfl)) rfl, ?_⟩
  refine List.forall_mem_cons.mpr ⟨⟨s_callV (ci := 8) rfl mo104 rfl rfl (dd_L_law_7 (674, .invokevirtual 96, 3) (List.mem_of_getElem? (i := 52) rfl)) ow_L_law mlL_96 mi104 msl104 in_8 mn104, mo104⟩, ?_⟩
  refine List.forall_mem_cons.mpr ⟨s_aload_n (dd_L_law_7 (677, .aload_n 2, 1) (List.mem_of_getElem? (i := 53) rfl)) rfl, ?_⟩
  refine List.forall_mem_cons.mpr ⟨s_aload_n (dd_L_law_7 (678, .aload_n 0, 1) (List.mem_of_getElem? (i := 54) rfl)) rfl, ?_⟩
  refine List.forall_mem_cons.mpr ⟨s_iload_n (dd_L_law_7 (679, .iload_n 3, 1) (List.mem_of_getElem? (i := 55) rfl)) rfl, ?_⟩
  refine List.forall_mem_cons.mpr ⟨s_iconst (dd_L_law_7 (680, .iconst 1, 1) (List.mem_of_getElem? (i := 56) rfl)) rfl, ?_⟩
  refine List.forall_mem_cons.mpr ⟨s_iadd (dd_L_law_7 (681, .iadd, 1) (List.mem_of_getElem? (i := 57) rfl)), ?_⟩
  refine List.forall_mem_cons.mpr ⟨s_iald (dd_L_law_7 (682, .iaload, 1) (List.mem_of_getElem? (i := 58) rfl)), ?_⟩
  refine List.forall_mem_cons.mpr ⟨s_aload_n (dd_L_law_7 (683, .aload_n 0, 1) (List.mem_of_getElem? (i := 59) rfl)) rfl, ?_⟩
  exact fun _ h => absurd h List.not_mem_nil
def D_L_law_8 : List (Nat × Instr × Nat) := [(684, .iload_n 3, 1), (685, .iconst 2, 1), (686, .iadd, 1), (687, .iaload, 1), (688, .aload_n 0, 1), (689, .iload_n 3, 1), (690, .iconst 3, 1), (691, .iadd, 1), (692, .iaload, 1), (693, .ifCond .eq 7, 3), (696, .iconst 1, 1), (697, .goto 4, 3), (700, .iconst 0, 1), (701, .invokevirtual 100, 3), (704, .if_icmp .eq 146, 3), (707, .iconst 0, 1), (708, .ireturn, 1), (709, .aload_n 1, 1), (710, .invokevirtual 101, 3), (713, .aload_n 2, 1), (714, .invokevirtual 104, 3), (717, .if_icmp .eq 133, 3), (720, .iconst 0, 1), (721, .ireturn, 1), (722, .aload_n 1, 1), (723, .aload_n 0, 1), (724, .iload_n 3, 1), (725, .iconst 1, 1), (726, .iadd, 1), (727, .iaload, 1), (728, .aload_n 0, 1), (729, .iload_n 3, 1), (730, .iconst 2, 1), (731, .iadd, 1), (732, .iaload, 1), (733, .invokevirtual 105, 3), (736, .aload_n 2, 1), (737, .aload_n 0, 1), (738, .iload_n 3, 1), (739, .iconst 1, 1), (740, .iadd, 1), (741, .iaload, 1), (742, .aload_n 0, 1), (743, .iload_n 3, 1), (744, .iconst 2, 1), (745, .iadd, 1), (746, .iaload, 1), (747, .invokevirtual 108, 3), (750, .if_icmp .eq 100, 3), (753, .iconst 0, 1), (754, .ireturn, 1), (755, .aload_n 1, 1), (756, .invokevirtual 109, 3), (759, .aload_n 2, 1), (760, .invokevirtual 112, 3), (763, .if_icmp .eq 87, 3), (766, .iconst 0, 1), (767, .ireturn, 1), (768, .aload_n 1, 1), (769, .invokevirtual 113, 3)]
theorem dd_L_law_8 : ∀ e ∈ D_L_law_8, decode (mtJ 186).2.1 e.1 = .ok e.2 := by decide +kernel
set_option maxRecDepth 10000 in
theorem so_L_law_8 : ∀ e ∈ o_L_law_8, SndO 186 e.1 e.2 := by
  refine List.forall_mem_cons.mpr ⟨s_iload_n (dd_L_law_8 (684, .iload_n 3, 1) (List.mem_of_getElem? (i := 0) rfl)) rfl, ?_⟩
  refine List.forall_mem_cons.mpr ⟨s_iconst (dd_L_law_8 (685, .iconst 2, 1) (List.mem_of_getElem? (i := 1) rfl)) rfl, ?_⟩
  refine List.forall_mem_cons.mpr ⟨s_iadd (dd_L_law_8 (686, .iadd, 1) (List.mem_of_getElem? (i := 2) rfl)), ?_⟩
  refine List.forall_mem_cons.mpr ⟨s_iald (dd_L_law_8 (687, .iaload, 1) (List.mem_of_getElem? (i := 3) rfl)), ?_⟩
  refine List.forall_mem_cons.mpr ⟨s_aload_n (dd_L_law_8 (688, .aload_n 0, 1) (List.mem_of_getElem? (i := 4) rfl)) rfl, ?_⟩
  refine List.forall_mem_cons.mpr ⟨s_iload_n (dd_L_law_8 (689, .iload_n 3, 1) (List.mem_of_getElem? (i := 5) rfl)) rfl, ?_⟩
  refine List.forall_mem_cons.mpr ⟨s_iconst (dd_L_law_8 (690, .iconst 3, 1) (List.mem_of_getElem? (i := 6) rfl)) rfl, ?_⟩
  refine List.forall_mem_cons.mpr ⟨s_iadd (dd_L_law_8 (691, .iadd, 1) (List.mem_of_getElem? (i := 7) rfl)), ?_⟩
  refine List.forall_mem_cons.mpr ⟨s_iald (dd_L_law_8 (692, .iaload, 1) (List.mem_of_getElem? (i := 8) rfl)), ?_⟩
  refine List.forall_mem_cons.mpr ⟨s_if_eq (dd_L_law_8 (693, .ifCond .eq 7, 3) (List.mem_of_getElem? (i := 9) rfl)) (by decide), ?_⟩
  refine List.forall_mem_cons.mpr ⟨s_iconst (dd_L_law_8 (696, .iconst 1, 1) (List.mem_of_getElem? (i := 10) rfl)) rfl, ?_⟩
  refine List.forall_mem_cons.mpr ⟨s_goto (dd_L_law_8 (697, .goto 4, 3) (List.mem_of_getElem? (i := 11) rfl)) (by decide), ?_⟩
  refine List.forall_mem_cons.mpr ⟨s_iconst (dd_L_law_8 (700, .iconst 0, 1) (List.mem_of_getElem? (i := 12) rfl)) rfl, ?_⟩
  refine List.forall_mem_cons.mpr ⟨⟨s_callV (ci := 9) rfl mo176 rfl rfl (dd_L_law_8 (701, .invokevirtual 100, 3) (List.mem_of_getElem? (i := 13) rfl)) ow_L_law mlL_100 mi176 msl176 in_9 mn176, mo176⟩, ?_⟩
  refine List.forall_mem_cons.mpr ⟨s_icmp_eq (dd_L_law_8 (704, .if_icmp .eq 146, 3) (List.mem_of_getElem? (i := 14) rfl)) (by decide), ?_⟩
  refine List.forall_mem_cons.mpr ⟨s_iconst (dd_L_law_8 (707, .iconst 0, 1) (List.mem_of_getElem? (i := 15) rfl)) rfl, ?_⟩
  refine List.forall_mem_cons.mpr ⟨Or.inr (Or.inr ⟨rfl, (dd_L_law_8 (708, .ireturn, 1) (List.mem_of_getElem? (i := 16) rfl)), rfl⟩), ?_⟩
  refine List.forall_mem_cons.mpr ⟨s_aload_n (dd_L_law_8 (709, .aload_n 1, 1) (List.mem_of_getElem? (i := 17) rfl)) rfl, ?_⟩
  refine List.forall_mem_cons.mpr ⟨⟨s_callV (ci := 8) rfl mo105 rfl rfl (dd_L_law_8 (710, .invokevirtual 101, 3) (List.mem_of_getElem? (i := 18) rfl)) ow_L_law mlL_101 mi105 msl105 in_8 mn105, mo105⟩, ?_⟩
  refine List.forall_mem_cons.mpr ⟨s_aload_n (dd_L_law_8 (713, .aload_n 2, 1) (List.mem_of_getElem? (i := 19) rfl)) rfl, ?_⟩
  refine List.forall_mem_cons.mpr ⟨⟨s_callV (ci := 9) rfl mo178 rfl rfl (dd_L_law_8 (714, .invokevirtual 104, 3) (List.mem_of_getElem? (i := 20) rfl)) ow_L_law mlL_104 mi178 msl178 in_9 mn178, mo178⟩, ?_⟩
  refine List.forall_mem_cons.mpr ⟨s_icmp_eq (dd_L_law_8 (717, .if_icmp .eq 133, 3) (List.mem_of_getElem? (i := 21) rfl)) (by decide), ?_⟩
  refine List.forall_mem_cons.mpr ⟨s_iconst (dd_L_law_8 (720, .iconst 0, 1) (List.mem_of_getElem? (i := 22) rfl)) rfl, ?_⟩
  refine List.forall_mem_cons.mpr ⟨Or.inr (Or.inr ⟨rfl, (dd_L_law_8 (721, .ireturn, 1) (List.mem_of_getElem? (i := 23) rfl)), rfl⟩), ?_⟩
  refine List.forall_mem_cons.mpr ⟨s_aload_n (dd_L_law_8 (722, .aload_n 1, 1) (List.mem_of_getElem? (i := 24) rfl)) rfl, ?_⟩
  refine List.forall_mem_cons.mpr ⟨s_aload_n (dd_L_law_8 (723, .aload_n 0, 1) (List.mem_of_getElem? (i := 25) rfl)) rfl, ?_⟩
  refine List.forall_mem_cons.mpr ⟨s_iload_n (dd_L_law_8 (724, .iload_n 3, 1) (List.mem_of_getElem? (i := 26) rfl)) rfl, ?_⟩
  refine List.forall_mem_cons.mpr ⟨s_iconst (dd_L_law_8 (725, .iconst 1, 1) (List.mem_of_getElem? (i := 27) rfl)) rfl, ?_⟩
  refine List.forall_mem_cons.mpr ⟨s_iadd (dd_L_law_8 (726, .iadd, 1) (List.mem_of_getElem? (i := 28) rfl)), ?_⟩
  refine List.forall_mem_cons.mpr ⟨s_iald (dd_L_law_8 (727, .iaload, 1) (List.mem_of_getElem? (i := 29) rfl)), ?_⟩
  refine List.forall_mem_cons.mpr ⟨s_aload_n (dd_L_law_8 (728, .aload_n 0, 1) (List.mem_of_getElem? (i := 30) rfl)) rfl, ?_⟩
  refine List.forall_mem_cons.mpr ⟨s_iload_n (dd_L_law_8 (729, .iload_n 3, 1) (List.mem_of_getElem? (i := 31) rfl)) rfl, ?_⟩
  refine List.forall_mem_cons.mpr ⟨s_iconst (dd_L_law_8 (730, .iconst 2, 1) (List.mem_of_getElem? (i := 32) rfl)) rfl, ?_⟩
  refine List.forall_mem_cons.mpr ⟨s_iadd (dd_L_law_8 (731, .iadd, 1) (List.mem_of_getElem? (i := 33) rfl)), ?_⟩
  refine List.forall_mem_cons.mpr ⟨s_iald (dd_L_law_8 (732, .iaload, 1) (List.mem_of_getElem? (i := 34) rfl)), ?_⟩
  refine List.forall_mem_cons.mpr ⟨⟨s_callV (ci := 8) rfl mo106 rfl rfl (dd_L_law_8 (733, .invokevirtual 105, 3) (List.mem_of_getElem? (i := 35) rfl)) ow_L_law mlL_105 mi106 msl106 in_8 mn106, mo106⟩, ?_⟩
  refine List.forall_mem_cons.mpr ⟨s_aload_n (dd_L_law_8 (736, .aload_n 2, 1) (List.mem_of_getElem? (i := 36) rfl)) rfl, ?_⟩
  refine List.forall_mem_cons.mpr ⟨s_aload_n (dd_L_law_8 (737, .aload_n 0, 1) (List.mem_of_getElem? (i := 37) rfl)) rfl, ?_⟩
  refine List.forall_mem_cons.mpr ⟨s_iload_n (dd_L_law_8 (738, .iload_n 3, 1) (List.mem_of_getElem? (i := 38) rfl)) rfl, ?_⟩
  refine List.forall_mem_cons.mpr ⟨s_iconst (dd_L_law_8 (739, .iconst 1, 1) (List.mem_of_getElem? (i := 39) rfl)) rfl, ?_⟩
  refine List.forall_mem_cons.mpr ⟨s_iadd (dd_L_law_8 (740, .iadd, 1) (List.mem_of_getElem? (i := 40) rfl)), ?_⟩
  refine List.forall_mem_cons.mpr ⟨s_iald (dd_L_law_8 (741, .iaload, 1) (List.mem_of_getElem? (i := 41) rfl)), ?_⟩
  refine List.forall_mem_cons.mpr ⟨s_aload_n (dd_L_law_8 (742, .aload_n 0, 1) (List.mem_of_getElem? (i := 42) rfl)) rfl, ?_⟩
  refine List.forall_mem_cons.mpr ⟨s_iload_n (dd_L_law_8 (743, .iload_n 3, 1) (List.mem_of_getElem? (i := 43) rfl)) rfl, ?_⟩
  refine List.forall_mem_cons.mpr ⟨s_iconst (dd_L_law_8 (744, .iconst 2, 1) (List.mem_of_getElem? (i := 44) rfl)) rfl, ?_⟩
  refine List.forall_mem_cons.mpr ⟨s_iadd (dd_L_law_8 (745, .iadd, 1) (List.mem_of_getElem? (i := 45) rfl)), ?_⟩
  refine List.forall_mem_cons.mpr ⟨s_iald (dd_L_law_8 (746, .iaload, 1) (List.mem_of_getElem? (i := 46) rfl)), ?_⟩
  refine List.forall_mem_cons.mpr ⟨⟨s_callV (ci := 9) rfl mo179 rfl rfl (dd_L_law_8 (747, .invokevirtual 108, 3) (List.mem_of_getElem? (i := 47) rfl)) ow_L_law mlL_108 mi179 msl179 in_9 mn179, mo179⟩, ?_⟩
  refine List.forall_mem_cons.mpr ⟨s_icmp_eq (dd_L_law_8 (750, .if_icmp .eq 100, 3) (List.mem_of_getElem? (i := 48) rfl)) (by decide), ?_⟩
  refine List.forall_mem_cons.mpr ⟨s_iconst (dd_L_law_8 (753, .iconst 0, 1) (List.mem_of_getElem? (i := 49) rfl)) rfl, ?_⟩
  refine List.forall_mem_cons.mpr ⟨Or.inr (Or.inr ⟨rfl, (dd_L_law_8 (754, .ireturn, 1) (List.mem_of_getElem? (i := 50) rfl)), rfl⟩), ?_⟩
  refine List.forall_mem_cons.mpr ⟨s_aload_n (dd_L_law_8 (755, .aload_n 1, 1) (List.mem_of_getElem? (i := 51) rfl)) rfl, ?_⟩
  refine List.forall_mem_cons.mpr ⟨⟨s_callV (ci := 8) rfl mo107 rfl rfl (dd_L_law_8 (756, .invokevirtual 109, 3) (List.mem_of_getElem? (i := 52) rfl)) ow_L_law mlL_109 mi107 msl107 in_8 mn107, mo107⟩, ?_⟩
  refine List.forall_mem_cons.mpr ⟨s_aload_n (dd_L_law_8 (759, .aload_n 2, 1) (List.mem_of_getElem? (i := 53) rfl)) rfl, ?_⟩
  refine List.forall_mem_cons.mpr ⟨⟨s_callV (ci := 9) rfl mo180 rfl rfl (dd_L_law_8 (760, .invokevirtual 112, 3) (List.mem_of_getElem? (i := 54) rfl)) ow_L_law mlL_112 mi180 msl180 in_9 mn180, mo180⟩, ?_⟩
  refine List.forall_mem_cons.mpr ⟨s_icmp_eq (dd_L_law_8 (763, .if_icmp .eq 87, 3) (List.mem_of_getElem? (i := 55) rfl)) (by decide), ?_⟩
  refine List.forall_mem_cons.mpr ⟨s_iconst (dd_L_law_8 (766, .iconst 0, 1) (List.mem_of_getElem? (i := 56) rfl)) rfl, ?_⟩
  refine List.forall_mem_cons.mpr ⟨Or.inr (Or.inr ⟨rfl, (dd_L_law_8 (767, .ireturn, 1) (List.mem_of_getElem? (i := 57) rfl)), rfl⟩), ?_⟩
  refine List.forall_mem_cons.mpr ⟨s_aload_n (dd_L_law_8 (768, .aload_n 1, 1) (List.mem_of_getElem? (i := 58) rfl)) rfl, ?_⟩
  refine List.forall_mem_cons.mpr ⟨⟨s_callV (ci := 8) rfl mo108 rfl rfl (dd_L_law_8 (769, .invokevirtual 113, 3) (List.mem_of_getElem? (i := 59) rfl)) ow_L_law mlL_113 mi108 msl108 in_8 mn108, mo108⟩, ?_⟩
  exact fun _ h => absurd h List.not_mem_nil
def D_L_law_9 : List (Nat × Instr × Nat) := [(772, .aload_n 2, 1), (773, .invokevirtual 116, 3), (776, .if_icmp .eq 74, 3), (779, .iconst 0, 1), (780, .ireturn, 1), (781, .aload_n 1, 1), (782, .aload_n 0, 1), (783, .iload_n 3, 1), (784, .iconst 1, 1), (785, .iadd, 1), (786, .iaload, 1), (787, .invokevirtual 117, 3), (790, .aload_n 2, 1), (791, .aload_n 0, 1), (792, .iload_n 3, 1), (793, .iconst 1, 1), (794, .iadd, 1), (795, .iaload, 1), (796, .invokevirtual 120, 3), (799, .if_icmp .eq 51, 3), (802, .iconst 0, 1), (803, .ireturn, 1), (804, .aload_n 1, 1), (805, .aload_n 0, 1), (806, .iload_n 3, 1), (807, .iconst 1, 1), (808, .iadd, 1), (809, .iaload, 1), (810, .invokevirtual 121, 3), (813, .aload_n 2, 1), (814, .aload_n 0, 1), (815, .iload_n 3, 1), (816, .iconst 1, 1), (817, .iadd, 1), (818, .iaload, 1), (819, .invokevirtual 124, 3), (822, .if_icmp .eq 28, 3), (825, .iconst 0, 1), (826, .ireturn, 1), (827, .aload_n 1, 1), (828, .aload_n 0, 1), (829, .iload_n 3, 1), (830, .iconst 1, 1), (831, .iadd, 1), (832, .iaload, 1), (833, .invokevirtual 125, 3), (836, .aload_n 2, 1), (837, .aload_n 0, 1), (838, .iload_n 3, 1), (839, .iconst 1, 1), (840, .iadd, 1), (841, .iaload, 1), (842, .invokevirtual 128, 3), (845, .if_icmp .eq 5, 3), (848, .iconst 0, 1), (849, .ireturn, 1), (850, .iinc 3 4, 3), (853, .goto (-835), 3), (856, .iconst 1, 1), (857, .ireturn, 1)]
theorem dd_L_law_9 : ∀ e ∈ D_L_law_9, decode (mtJ 186).2.1 e.1 = .ok e.2 := by decide +kernel
set_option maxRecDepth 10000 in
theorem so_L_law_9 : ∀ e ∈ o_L_law_9, SndO 186 e.1 e.2 := by
  refine List.forall_mem_cons.mpr ⟨s_aload_n (dd_L_law_9 (772, .aload_n 2, 1) (List.mem_of_getElem? (i := 0) rfl)) rfl, ?_⟩
  refine List.forall_mem_cons.mpr ⟨⟨s_callV (ci := 9) rfl mo181 rfl rfl (dd_L_law_9 (773, .invokevirtual 116, 3) (List.mem_of_getElem? (i := 1) rfl)) ow_L_law mlL_116 mi181 msl181 in_9 mn181, mo181⟩, ?_⟩
  refine List.forall_mem_cons.mpr ⟨s_icmp_eq (dd_L_law_9 (776, .if_icmp .eq 74, 3) (List.mem_of_getElem? (i := 2) rfl)) (by decide), ?_⟩
  refine List.forall_mem_cons.mpr ⟨s_iconst (dd_L_law_9 (779, .iconst 0, 1) (List.mem_of_getElem? (i := 3) rfl)) rfl, ?_⟩
  refine List.forall_mem_cons.mpr ⟨Or.inr (Or.inr ⟨rfl, (dd_L_law_9 (780, .ireturn, 1) (List.mem_of_getElem? (i := 4) rfl)), rfl⟩), ?_⟩
  refine List.forall_mem_cons.mpr ⟨s_aload_n (dd_L_law_9 (781, .aload_n 1, 1) (List.mem_of_getElem? (i := 5) rfl)) rfl, ?_⟩
  refine List.forall_mem_cons.mpr ⟨s_aload_n (dd_L_law_9 (782, .aload_n 0, 1) (List.mem_of_getElem? (i := 6) rfl)) rfl, ?_⟩
  refine List.forall_mem_cons.mpr ⟨s_iload_n (dd_L_law_9 (783, .iload_n 3, 1) (List.mem_of_getElem? (i := 7) rfl)) rfl, ?_⟩
  refine List.forall_mem_cons.mpr ⟨s_iconst (dd_L_law_9 (784, .iconst 1, 1) (List.mem_of_getElem? (i := 8) rfl)) rfl, ?_⟩
  refine List.forall_mem_cons.mpr ⟨s_iadd (dd_L_law_9 (785, .iadd, 1) (List.mem_of_getElem? (i := 9) rfl)), ?_⟩
  refine List.forall_mem_cons.mpr ⟨s_iald (dd_L_law_9 (786, .iaload, 1) (List.mem_of_getElem? (i := 10) rfl)), ?_⟩
  refine List.forall_mem_cons.mpr ⟨⟨s_callV (ci := 8) rfl mo109 rfl rfl (dd_L_law_9 (787, .invokevirtual 117, 3) (List.mem_of_getElem? (i := 11) rfl)) ow_L_law mlL_117 mi109 msl109 in_8 mn109, mo109⟩, ?_⟩
  refine List.forall_mem_cons.mpr ⟨s_aload_n (dd_L_law_9 (790, .aload_n 2, 1) (List.mem_of_getElem? (i := 12) rfl)) rfl, ?_⟩
  refine List.forall_mem_cons.mpr ⟨s_aload_n (dd_L_law_9 (791, .aload_n 0, 1) (List.mem_of_getElem? (i := 13) rfl)) rfl, ?_⟩
  refine List.forall_mem_cons.mpr ⟨s_iload_n (dd_L_law_9 (792, .iload_n 3, 1) (List.mem_of_getElem? (i := 14) rfl)) rfl, ?_⟩
  refine List.forall_mem_cons.mpr ⟨s_iconst (dd_L_law_9 (793, .iconst 1, 1) (List.mem_of_getElem? (i := 15) rfl)) rfl, ?_⟩
  refine List.forall_mem_cons.mpr ⟨s_iadd (dd_L_law_9 (794, .iadd, 1) (List.mem_of_getElem? (i := 16) rfl)), ?_⟩
  refine List.forall_mem_cons.mpr ⟨s_iald (dd_L_law_9 (795, .iaload, 1) (List.mem_of_getElem? (i := 17) rfl)), ?_⟩
  refine List.forall_mem_cons.mpr ⟨⟨s_callV (ci := 9) rfl mo182 rfl rfl (dd_L_law_9 (796, .invokevirtual 120, 3) (List.mem_of_getElem? (i := 18) rfl)) ow_L_law mlL_120 mi182 msl182 in_9 mn182, mo182⟩, ?_⟩
  refine List.forall_mem_cons.mpr ⟨s_icmp_eq (dd_L_law_9 (799, .if_icmp .eq 51, 3) (List.mem_of_getElem? (i := 19) rfl)) (by decide), ?_⟩
  refine List.forall_mem_cons.mpr ⟨s_iconst (dd_L_law_9 (802, .iconst 0, 1) (List.mem_of_getElem? (i := 20) rfl)) rfl, ?_⟩
  refine List.forall_mem_cons.mpr ⟨Or.inr (Or.inr ⟨rfl, (dd_L_law_9 (803, .ireturn, 1) (List.mem_of_getElem? (i := 21) rfl)), rfl⟩), ?_⟩
  refine List.forall_mem_cons.mpr ⟨s_aload_n (dd_L_law_9 (804, .aload_n 1, 1) (List.mem_of_getElem? (i := 22) rfl)) rfl, ?_⟩
  refine List.forall_mem_cons.mpr ⟨s_aload_n (dd_L_law_9 (805, .aload_n 0, 1) (List.mem_of_getElem? (i := 23) rfl)) rfl, ?_⟩
  refine List.forall_mem_cons.mpr ⟨s_iload_n (dd_L_law_9 (806, .iload_n 3, 1) (List.mem_of_getElem? (i := 24) rfl)) rfl, ?_⟩
  refine List.forall_mem_cons.mpr ⟨s_iconst (dd_L_law_9 (807, .iconst 1, 1) (List.mem_of_getElem? (i := 25) rfl)) rfl, ?_⟩
  refine List.forall_mem_cons.mpr ⟨s_iadd (dd_L_law_9 (808, .iadd, 1) (List.mem_of_getElem? (i := 26) rfl)), ?_⟩
  refine List.forall_mem_cons.mpr ⟨s_iald (dd_L_law_9 (809, .iaload, 1) (List.mem_of_getElem? (i := 27) rfl)), ?_⟩
  refine List.forall_mem_cons.mpr ⟨⟨s_callV (ci := 8) rfl mo110 rfl rfl (dd_L_law_9 (810, .invokevirtual 121, 3) (List.mem_of_getElem? (i := 28) rfl)) ow_L_law mlL_121 mi110 msl110 in_8 mn110, mo110⟩, ?_⟩
  refine List.forall_mem_cons.mpr ⟨s_aload_n (dd_L_law_9 (813, .aload_n 2, 1) (List.mem_of_getElem? (i := 29) rfl)) rfl, ?_⟩
  refine List.forall_mem_cons.mpr ⟨s_aload_n (dd_L_law_9 (814, .aload_n 0, 1) (List.mem_of_getElem? (i := 30) rfl)) rfl, ?_⟩
  refine List.forall_mem_cons.mpr ⟨s_iload_n (dd_L_law_9 (815, .iload_n 3, 1) (List.mem_of_getElem? (i := 31) rfl)) rfl, ?_⟩
  refine List.forall_mem_cons.mpr ⟨s_iconst (dd_L_law_9 (816, .iconst 1, 1) (List.mem_of_getElem? (i := 32) rfl)) rfl, ?_⟩
  refine List.forall_mem_cons.mpr ⟨s_iadd (dd_L_law_9 (817, .iadd, 1) (List.mem_of_getElem? (i := 33) rfl)), ?_⟩
  refine List.forall_mem_cons.mpr ⟨s_iald (dd_L_law_9 (818, .iaload, 1) (List.mem_of_getElem? (i := 34) rfl)), ?_⟩
  refine List.forall_mem_cons.mpr ⟨⟨s_callV (ci := 9) rfl mo183 rfl rfl (dd_L_law_9 (819, .invokevirtual 124, 3) (List.mem_of_getElem? (i := 35) rfl)) ow_L_law mlL_124 mi183 msl183 in_9 mn183, mo183⟩, ?_⟩
  refine List.forall_mem_cons.mpr ⟨s_icmp_eq (dd_L_law_9 (822, .if_icmp .eq 28, 3) (List.mem_of_getElem? (i := 36) rfl)) (by decide), ?_⟩
  refine List.forall_mem_cons.mpr ⟨s_iconst (dd_L_law_9 (825, .iconst 0, 1) (List.mem_of_getElem? (i := 37) rfl)) rfl, ?_⟩
  refine List.forall_mem_cons.mpr ⟨Or.inr (Or.inr ⟨rfl, (dd_L_law_9 (826, .ireturn, 1) (List.mem_of_getElem? (i := 38) rfl)), rfl⟩), ?_⟩
  refine List.forall_mem_cons.mpr ⟨s_aload_n (dd_L_law_9 (827, .aload_n 1, 1) (List.mem_of_getElem? (i := 39) rfl)) rfl, ?_⟩
  refine List.forall_mem_cons.mpr ⟨s_aload_n (dd_L_law_9 (828, .aload_n 0, 1) (List.mem_of_getElem? (i := 40) rfl)) rfl, ?_⟩
  refine List.forall_mem_cons.mpr ⟨s_iload_n (dd_L_law_9 (829, .iload_n 3, 1) (List.mem_of_getElem? (i := 41) rfl)) rfl, ?_⟩
  refine List.forall_mem_cons.mpr ⟨s_iconst (dd_L_law_9 (830, .iconst 1, 1) (List.mem_of_getElem? (i := 42) rfl)) rfl, ?_⟩
  refine List.forall_mem_cons.mpr ⟨s_iadd (dd_L_law_9 (831, .iadd, 1) (List.mem_of_getElem? (i := 43) rfl)), ?_⟩
  refine List.forall_mem_cons.mpr ⟨s_iald (dd_L_law_9 (832, .iaload, 1) (List.mem_of_getElem? (i := 44) rfl)), ?_⟩
  refine List.forall_mem_cons.mpr ⟨⟨s_callV (ci := 8) rfl mo111 rfl rfl (dd_L_law_9 (833, .invokevirtual 125, 3) (List.mem_of_getElem? (i := 45) rfl)) ow_L_law mlL_125 mi111 msl111 in_8 mn111, mo111⟩, ?_⟩
  refine List.forall_mem_cons.mpr ⟨s_aload_n (dd_L_law_9 (836, .aload_n 2, 1) (List.mem_of_getElem? (i := 46) rfl)) rfl, ?_⟩
  refine List.forall_mem_cons.mpr ⟨s_aload_n (dd_L_law_9 (837, .aload_n 0, 1) (List.mem_of_getElem? (i := 47) rfl)) rfl, ?_⟩
  refine List.forall_mem_cons.mpr ⟨s_iload_n (dd_L_law_9 (838, .iload_n 3, 1) (List.mem_of_getElem? (i := 48) rfl)) rfl, ?_⟩
  refine List.forall_mem_cons.mpr ⟨s_iconst (dd_L_law_9 (839, .iconst 1, 1) (List.mem_of_getElem? (i := 49) rfl)) rfl, ?_⟩
  refine List.forall_mem_cons.mpr ⟨s_iadd (dd_L_law_9 (840, .iadd, 1) (List.mem_of_getElem? (i := 50) rfl)), ?_⟩
  refine List.forall_mem_cons.mpr ⟨s_iald (dd_L_law_9 (841, .iaload, 1) (List.mem_of_getElem? (i := 51) rfl)), ?_⟩
  refine List.forall_mem_cons.mpr ⟨⟨s_callV (ci := 9) rfl mo184 rfl rfl (dd_L_law_9 (842, .invokevirtual 128, 3) (List.mem_of_getElem? (i := 52) rfl)) ow_L_law mlL_128 mi184 msl184 in_9 mn184, mo184⟩, ?_⟩
  refine List.forall_mem_cons.mpr ⟨s_icmp_eq (dd_L_law_9 (845, .if_icmp .eq 5, 3) (List.mem_of_getElem? (i := 53) rfl)) (by decide), ?_⟩
  refine List.forall_mem_cons.mpr ⟨s_iconst (dd_L_law_9 (848, .iconst 0, 1) (List.mem_of_getElem? (i := 54) rfl)) rfl, ?_⟩
  refine List.forall_mem_cons.mpr ⟨Or.inr (Or.inr ⟨rfl, (dd_L_law_9 (849, .ireturn, 1) (List.mem_of_getElem? (i := 55) rfl)), rfl⟩), ?_⟩
  refine List.forall_mem_cons.mpr ⟨s_iinc (dd_L_law_9 (850, .iinc 3 4, 3) (List.mem_of_getElem? (i := 56) rfl)) rfl, ?_⟩
  refine List.forall_mem_cons.mpr ⟨s_goto (dd_L_law_9 (853, .goto (-835), 3) (List.mem_of_getElem? (i := 57) rfl)) (by decide), ?_⟩
  refine List.forall_mem_cons.mpr ⟨s_iconst (dd_L_law_9 (856, .iconst 1, 1) (List.mem_of_getElem? (i := 58) rfl)) rfl, ?_⟩
  refine List.forall_mem_cons.mpr ⟨Or.inr (Or.inr ⟨rfl, (dd_L_law_9 (857, .ireturn, 1) (List.mem_of_getElem? (i := 59) rfl)), rfl⟩), ?_⟩
  exact fun _ h => absurd h List.not_mem_nil
theorem so_L_law : ∀ e ∈ o_L_law, SndO 186 e.1 e.2 := List.forall_mem_append.mpr ⟨so_L_law_1, List.forall_mem_append.mpr ⟨so_L_law_2, List.forall_mem_append.mpr ⟨so_L_law_3, List.forall_mem_append.mpr ⟨so_L_law_4, List.forall_mem_append.mpr ⟨so_L_law_5, List.forall_mem_append.mpr ⟨so_L_law_6, List.forall_mem_append.mpr ⟨so_L_law_7, List.forall_mem_append.mpr ⟨so_L_law_8, so_L_law_9⟩⟩⟩⟩⟩⟩⟩⟩

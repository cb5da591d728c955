/-! every instruction, written by program -/
theorem ow_X9_home : (mtJ 156).1.cls = "SatchelSinsModel" := rfl
def D_X9_home : List (Nat × Instr × Nat) := [(0, .aload_n 0, 1), (1, .getfield 87, 3), (4, .ifCond .ne 6, 3), (7, .ldc 212, 2), (9, .ireturn, 1), (10, .aload_n 0, 1), (11, .getfield 25, 3), (14, .bipush 14, 2), (16, .iaload, 1), (17, .sipush 9000, 3), (20, .if_icmp .le 6, 3), (23, .ldc 107, 2), (25, .ireturn, 1), (26, .aload_n 0, 1), (27, .invokevirtual 213, 3), (30, .aload_n 0, 1), (31, .invokevirtual 232, 3), (34, .ireturn, 1)]
theorem dd_X9_home : ∀ e ∈ D_X9_home, decode (mtJ 156).2.1 e.1 = .ok e.2 := by decide +kernel
set_option maxRecDepth 10000 in
theorem so_X9_home : ∀ e ∈ o_X9_home, SndO 156 e.1 e.2 := by
  refine List.forall_mem_cons.mpr ⟨s_aload_n (dd_X9_home (0, .aload_n 0, 1) (List.mem_of_getElem? (i := 0) rfl)) rfl, ?_⟩
  refine List.forall_mem_cons.mpr ⟨s_getI (k := 0) K9 (by decide) (dd_X9_home (1, .getfield 87, 3) (List.mem_of_getElem? (i := 1) rfl)) ow_X9_home fl9_87 rfl, ?_⟩
  refine List.forall_mem_cons.mpr ⟨s_if_ne (dd_X9_home (4, .ifCond .ne 6, 3) (List.mem_of_getElem? (i := 2) rfl)) (by decide), ?_⟩
  refine List.forall_mem_cons.mpr ⟨s_ldc (dd_X9_home (7, .ldc 212, 2) (List.mem_of_getElem? (i := 3) rfl)) ow_X9_home ki9_212, ?_⟩
  refine List.forall_mem_cons.mpr ⟨Or.inr (Or.inl ⟨rfl, (dd_X9_home (9, .ireturn, 1) (List.mem_of_getElem? (i := 4) rfl)), rfl⟩), ?_⟩
  refine List.forall_mem_cons.mpr ⟨s_aload_n (dd_X9_home (10, .aload_n 0, 1) (List.mem_of_getElem? (i := 5) rfl)) rfl, ?_⟩
  refine List.forall_mem_cons.mpr ⟨s_getR (k := 9) K9 (by decide) (dd_X9_home (11, .getfield 25, 3) (List.mem_of_getElem? (i := 6) rfl)) ow_X9_home fl9_25 rfl, ?_⟩
  refine List.forall_mem_cons.mpr ⟨s_bipush (dd_X9_home (14, .bipush 14, 2) (List.mem_of_getElem? (i := 7) rfl)) rfl, ?_⟩
  refine List.forall_mem_cons.mpr ⟨s_iald (dd_X9_home (16, .iaload, 1) (List.mem_of_getElem? (i := 8) rfl)), ?_⟩
  refine List.forall_mem_cons.mpr ⟨s_sipush (dd_X9_home (17, .sipush 9000, 3) (List.mem_of_getElem? (i := 9) rfl)) rfl, ?_⟩
  refine List.forall_mem_cons.mpr ⟨s_icmp_le (dd_X9_home (20, .if_icmp .le 6, 3) (List.mem_of_getElem? (i := 10) rfl)) (by decide), ?_⟩
  refine List.forall_mem_cons.mpr ⟨s_ldc (dd_X9_home (23, .ldc 107, 2) (List.mem_of_getElem? (i := 11) rfl)) ow_X9_home ki9_107, ?_⟩
  refine List.forall_mem_cons.mpr ⟨Or.inr (Or.inl ⟨rfl, (dd_X9_home (25, .ireturn, 1) (List.mem_of_getElem? (i := 12) rfl)), rfl⟩), ?_⟩
  refine List.forall_mem_cons.mpr ⟨s_aload_n (dd_X9_home (26, .aload_n 0, 1) (List.mem_of_getElem? (i := 13) rfl)) rfl, ?_⟩
  refine List.forall_mem_cons.mpr ⟨⟨s_callV (ci := 9) rfl mo146 rfl rfl (dd_X9_home (27, .invokevirtual 213, 3) (List.mem_of_getElem? (i := 14) rfl)) ow_X9_home ml9_213 mi146 msl146 in_9 mn146, mo146⟩, ?_⟩
  refine List.forall_mem_cons.mpr ⟨s_aload_n (dd_X9_home (30, .aload_n 0, 1) (List.mem_of_getElem? (i := 15) rfl)) rfl, ?_⟩
  refine List.forall_mem_cons.mpr ⟨⟨s_callV (ci := 9) rfl mo155 rfl rfl (dd_X9_home (31, .invokevirtual 232, 3) (List.mem_of_getElem? (i := 16) rfl)) ow_X9_home ml9_232 mi155 msl155 in_9 mn155, mo155⟩, ?_⟩
  refine List.forall_mem_cons.mpr ⟨Or.inr (Or.inl ⟨rfl, (dd_X9_home (34, .ireturn, 1) (List.mem_of_getElem? (i := 17) rfl)), rfl⟩), ?_⟩
  exact fun _ h => absurd h List.not_mem_nil
theorem ow_X9_takeBack : (mtJ 157).1.cls = "SatchelSinsModel" := rfl
def D_X9_takeBack : List (Nat × Instr × Nat) := [(0, .aload_n 0, 1), (1, .iload_n 1, 1), (2, .invokevirtual 209, 3), (5, .ifCond .ne 6, 3), (8, .ldc 205, 2), (10, .ireturn, 1), (11, .aload_n 0, 1), (12, .getfield 25, 3), (15, .iload_n 1, 1), (16, .iaload, 1), (17, .iconst 3, 1), (18, .if_icmp .eq 6, 3), (21, .ldc 212, 2), (23, .ireturn, 1), (24, .aload_n 0, 1), (25, .invokevirtual 213, 3), (28, .aload_n 0, 1), (29, .getfield 25, 3), (32, .bipush 7, 2), (34, .iload_n 1, 1), (35, .iadd, 1), (36, .iaload, 1), (37, .istore_n 2, 1), (38, .aload_n 0, 1), (39, .iload_n 1, 1), (40, .iconst 0, 1), (41, .iconst (-1), 1), (42, .invokevirtual 216, 3), (45, .iload_n 2, 1), (46, .ireturn, 1)]
theorem dd_X9_takeBack : ∀ e ∈ D_X9_takeBack, decode (mtJ 157).2.1 e.1 = .ok e.2 := by decide +kernel
set_option maxRecDepth 10000 in
theorem so_X9_takeBack : ∀ e ∈ o_X9_takeBack, SndO 157 e.1 e.2 := by
  refine List.forall_mem_cons.mpr ⟨s_aload_n (dd_X9_takeBack (0, .aload_n 0, 1) (List.mem_of_getElem? (i := 0) rfl)) rfl, ?_⟩
  refine List.forall_mem_cons.mpr ⟨s_iload_n (dd_X9_takeBack (1, .iload_n 1, 1) (List.mem_of_getElem? (i := 1) rfl)) rfl, ?_⟩
  refine List.forall_mem_cons.mpr ⟨⟨s_callV (ci := 9) rfl mo121 rfl rfl (dd_X9_takeBack (2, .invokevirtual 209, 3) (List.mem_of_getElem? (i := 2) rfl)) ow_X9_takeBack ml9_209 mi121 msl121 in_9 mn121, mo121⟩, ?_⟩
  refine List.forall_mem_cons.mpr ⟨s_if_ne (dd_X9_takeBack (5, .ifCond .ne 6, 3) (List.mem_of_getElem? (i := 3) rfl)) (by decide), ?_⟩
  refine List.forall_mem_cons.mpr ⟨s_ldc (dd_X9_takeBack (8, .ldc 205, 2) (List.mem_of_getElem? (i := 4) rfl)) ow_X9_takeBack ki9_205, ?_⟩
  refine List.forall_mem_cons.mpr ⟨Or.inr (Or.inl ⟨rfl, (dd_X9_takeBack (10, .ireturn, 1) (List.mem_of_getElem? (i := 5) rfl)), rfl⟩), ?_⟩
  refine List.forall_mem_cons.mpr ⟨s_aload_n (dd_X9_takeBack (11, .aload_n 0, 1) (List.mem_of_getElem? (i := 6) rfl)) rfl, ?_⟩
  refine List.forall_mem_cons.mpr ⟨s_getR (k := 9) K9 (by decide) (dd_X9_takeBack (12, .getfield 25, 3) (List.mem_of_getElem? (i := 7) rfl)) ow_X9_takeBack fl9_25 rfl, ?_⟩
  refine List.forall_mem_cons.mpr ⟨s_iload_n (dd_X9_takeBack (15, .iload_n 1, 1) (List.mem_of_getElem? (i := 8) rfl)) rfl, ?_⟩
  refine List.forall_mem_cons.mpr ⟨s_iald (dd_X9_takeBack (16, .iaload, 1) (List.mem_of_getElem? (i := 9) rfl)), ?_⟩
  refine List.forall_mem_cons.mpr ⟨s_iconst (dd_X9_takeBack (17, .iconst 3, 1) (List.mem_of_getElem? (i := 10) rfl)) rfl, ?_⟩
  refine List.forall_mem_cons.mpr ⟨s_icmp_eq (dd_X9_takeBack (18, .if_icmp .eq 6, 3) (List.mem_of_getElem? (i := 11) rfl)) (by decide), ?_⟩
  refine List.forall_mem_cons.mpr ⟨s_ldc (dd_X9_takeBack (21, .ldc 212, 2) (List.mem_of_getElem? (i := 12) rfl)) ow_X9_takeBack ki9_212, ?_⟩
  refine List.forall_mem_cons.mpr ⟨Or.inr (Or.inl ⟨rfl, (dd_X9_takeBack (23, .ireturn, 1) (List.mem_of_getElem? (i := 13) rfl)), rfl⟩), ?_⟩
  refine List.forall_mem_cons.mpr ⟨s_aload_n (dd_X9_takeBack (24, .aload_n 0, 1) (List.mem_of_getElem? (i := 14) rfl)) rfl, ?_⟩
  refine List.forall_mem_cons.mpr ⟨⟨s_callV (ci := 9) rfl mo146 rfl rfl (dd_X9_takeBack (25, .invokevirtual 213, 3) (List.mem_of_getElem? (i := 15) rfl)) ow_X9_takeBack ml9_213 mi146 msl146 in_9 mn146, mo146⟩, ?_⟩
  refine List.forall_mem_cons.mpr ⟨s_aload_n (dd_X9_takeBack (28, .aload_n 0, 1) (List.mem_of_getElem? (i := 16) rfl)) rfl, ?_⟩
  refine List.forall_mem_cons.mpr ⟨s_getR (k := 9) K9 (by decide) (dd_X9_takeBack (29, .getfield 25, 3) (List.mem_of_getElem? (i := 17) rfl)) ow_X9_takeBack fl9_25 rfl, ?_⟩
  refine List.forall_mem_cons.mpr ⟨s_bipush (dd_X9_takeBack (32, .bipush 7, 2) (List.mem_of_getElem? (i := 18) rfl)) rfl, ?_⟩
  refine List.forall_mem_cons.mpr ⟨s_iload_n (dd_X9_takeBack (34, .iload_n 1, 1) (List.mem_of_getElem? (i := 19) rfl)) rfl, ?_⟩
  refine List.forall_mem_cons.mpr ⟨s_iadd (dd_X9_takeBack (35, .iadd, 1) (List.mem_of_getElem? (i := 20) rfl)), ?_⟩
  refine List.forall_mem_cons.mpr ⟨s_iald (dd_X9_takeBack (36, .iaload, 1) (List.mem_of_getElem? (i := 21) rfl)), ?_⟩
  refine List.forall_mem_cons.mpr ⟨s_istore_n (dd_X9_takeBack (37, .istore_n 2, 1) (List.mem_of_getElem? (i := 22) rfl)) rfl, ?_⟩
  refine List.forall_mem_cons.mpr ⟨s_aload_n (dd_X9_takeBack (38, .aload_n 0, 1) (List.mem_of_getElem? (i := 23) rfl)) rfl, ?_⟩
  refine List.forall_mem_cons.mpr ⟨s_iload_n (dd_X9_takeBack (39, .iload_n 1, 1) (List.mem_of_getElem? (i := 24) rfl)) rfl, ?_⟩
  refine List.forall_mem_cons.mpr ⟨s_iconst (dd_X9_takeBack (40, .iconst 0, 1) (List.mem_of_getElem? (i := 25) rfl)) rfl, ?_⟩
  refine List.forall_mem_cons.mpr ⟨s_iconst (dd_X9_takeBack (41, .iconst (-1), 1) (List.mem_of_getElem? (i := 26) rfl)) rfl, ?_⟩
  refine List.forall_mem_cons.mpr ⟨⟨s_callV (ci := 9) rfl mo147 rfl rfl (dd_X9_takeBack (42, .invokevirtual 216, 3) (List.mem_of_getElem? (i := 27) rfl)) ow_X9_takeBack ml9_216 mi147 msl147 in_9 mn147, mo147⟩, ?_⟩
  refine List.forall_mem_cons.mpr ⟨s_iload_n (dd_X9_takeBack (45, .iload_n 2, 1) (List.mem_of_getElem? (i := 28) rfl)) rfl, ?_⟩
  refine List.forall_mem_cons.mpr ⟨Or.inr (Or.inl ⟨rfl, (dd_X9_takeBack (46, .ireturn, 1) (List.mem_of_getElem? (i := 29) rfl)), rfl⟩), ?_⟩
  exact fun _ h => absurd h List.not_mem_nil
theorem ow_X9_draw : (mtJ 158).1.cls = "SatchelSinsModel" := rfl
def D_X9_draw : List (Nat × Instr × Nat) := [(0, .aload_n 0, 1), (1, .aload_n 0, 1), (2, .getfield 235, 3), (5, .i2l, 1), (6, .ldc2_w 238, 3), (9, .lmul, 1), (10, .ldc2_w 240, 3), (13, .ladd, 1), (14, .ldc2_w 242, 3), (17, .lrem, 1), (18, .l2i, 1), (19, .putfield 235, 3), (22, .aload_n 0, 1), (23, .getfield 235, 3), (26, .ldc 244, 2), (28, .idiv, 1), (29, .iload_n 1, 1), (30, .irem, 1), (31, .ireturn, 1)]
theorem dd_X9_draw : ∀ e ∈ D_X9_draw, decode (mtJ 158).2.1 e.1 = .ok e.2 := by decide +kernel
set_option maxRecDepth 10000 in
theorem so_X9_draw : ∀ e ∈ o_X9_draw, SndO 158 e.1 e.2 := by
  refine List.forall_mem_cons.mpr ⟨s_aload_n (dd_X9_draw (0, .aload_n 0, 1) (List.mem_of_getElem? (i := 0) rfl)) rfl, ?_⟩
  refine List.forall_mem_cons.mpr ⟨s_aload_n (dd_X9_draw (1, .aload_n 0, 1) (List.mem_of_getElem? (i := 1) rfl)) rfl, ?_⟩
  refine List.forall_mem_cons.mpr ⟨s_getI (k := 10) K9 (by decide) (dd_X9_draw (2, .getfield 235, 3) (List.mem_of_getElem? (i := 2) rfl)) ow_X9_draw fl9_235 rfl, ?_⟩
  refine List.forall_mem_cons.mpr ⟨s_i2l (dd_X9_draw (5, .i2l, 1) (List.mem_of_getElem? (i := 3) rfl)), ?_⟩
  refine List.forall_mem_cons.mpr ⟨s_ldc2 (dd_X9_draw (6, .ldc2_w 238, 3) (List.mem_of_getElem? (i := 4) rfl)) ow_X9_draw kl9_238, ?_⟩
  refine List.forall_mem_cons.mpr ⟨s_lmul (dd_X9_draw (9, .lmul, 1) (List.mem_of_getElem? (i := 5) rfl)), ?_⟩
  refine List.forall_mem_cons.mpr ⟨s_ldc2 (dd_X9_draw (10, .ldc2_w 240, 3) (List.mem_of_getElem? (i := 6) rfl)) ow_X9_draw kl9_240, ?_⟩
  refine List.forall_mem_cons.mpr ⟨s_ladd (dd_X9_draw (13, .ladd, 1) (List.mem_of_getElem? (i := 7) rfl)), ?_⟩
  refine List.forall_mem_cons.mpr ⟨s_ldc2 (dd_X9_draw (14, .ldc2_w 242, 3) (List.mem_of_getElem? (i := 8) rfl)) ow_X9_draw kl9_242, ?_⟩
  refine List.forall_mem_cons.mpr ⟨s_lrem (dd_X9_draw (17, .lrem, 1) (List.mem_of_getElem? (i := 9) rfl)), ?_⟩
  refine List.forall_mem_cons.mpr ⟨s_l2i (dd_X9_draw (18, .l2i, 1) (List.mem_of_getElem? (i := 10) rfl)), ?_⟩
  refine List.forall_mem_cons.mpr ⟨s_putI (k := 10) K9 (by decide) (dd_X9_draw (19, .putfield 235, 3) (List.mem_of_getElem? (i := 11) rfl)) ow_X9_draw fl9_235 (Or.inl rfl) rfl, ?_⟩
  refine List.forall_mem_cons.mpr ⟨s_aload_n (dd_X9_draw (22, .aload_n 0, 1) (List.mem_of_getElem? (i := 12) rfl)) rfl, ?_⟩
  refine List.forall_mem_cons.mpr ⟨s_getI (k := 10) K9 (by decide) (dd_X9_draw (23, .getfield 235, 3) (List.mem_of_getElem? (i := 13) rfl)) ow_X9_draw fl9_235 rfl, ?_⟩
  refine List.forall_mem_cons.mpr ⟨s_ldc (dd_X9_draw (26, .ldc 244, 2) (List.mem_of_getElem? (i := 14) rfl)) ow_X9_draw ki9_244, ?_⟩
  refine List.forall_mem_cons.mpr ⟨s_idiv (dd_X9_draw (28, .idiv, 1) (List.mem_of_getElem? (i := 15) rfl)), ?_⟩
  refine List.forall_mem_cons.mpr ⟨s_iload_n (dd_X9_draw (29, .iload_n 1, 1) (List.mem_of_getElem? (i := 16) rfl)) rfl, ?_⟩
  refine List.forall_mem_cons.mpr ⟨s_irem (dd_X9_draw (30, .irem, 1) (List.mem_of_getElem? (i := 17) rfl)), ?_⟩
  refine List.forall_mem_cons.mpr ⟨Or.inr (Or.inl ⟨rfl, (dd_X9_draw (31, .ireturn, 1) (List.mem_of_getElem? (i := 18) rfl)), rfl⟩), ?_⟩
  exact fun _ h => absurd h List.not_mem_nil
theorem ow_X9_chance : (mtJ 159).1.cls = "SatchelSinsModel" := rfl
def D_X9_chance_1 : List (Nat × Instr × Nat) := [(0, .aload_n 0, 1), (1, .aload_n 0, 1), (2, .getfield 98, 3), (5, .invokevirtual 245, 3), (8, .istore_n 1, 1), (9, .aload_n 0, 1), (10, .iconst 4, 1), (11, .invokevirtual 245, 3), (14, .istore_n 2, 1), (15, .iload_n 2, 1), (16, .ifCond .ne 27, 3), (19, .aload_n 0, 1), (20, .getfield 25, 3), (23, .iload_n 1, 1), (24, .iaload, 1), (25, .ifCond .ne 18, 3), (28, .aload_n 0, 1), (29, .iload_n 1, 1), (30, .iconst 1, 1), (31, .aload_n 0, 1), (32, .getfield 19, 3), (35, .iload_n 1, 1), (36, .iaload, 1), (37, .invokevirtual 216, 3), (40, .goto 61, 3), (43, .iload_n 2, 1), (44, .iconst 1, 1), (45, .if_icmp .ne 19, 3), (48, .aload_n 0, 1), (49, .iload_n 1, 1), (50, .invokevirtual 225, 3), (53, .ifCond .eq 11, 3), (56, .aload_n 0, 1), (57, .iload_n 1, 1), (58, .invokevirtual 228, 3), (61, .goto 40, 3), (64, .iload_n 2, 1), (65, .iconst 2, 1), (66, .if_icmp .ne 35, 3), (69, .aload_n 0, 1), (70, .getfield 25, 3), (73, .iload_n 1, 1), (74, .iaload, 1), (75, .iconst 1, 1), (76, .if_icmp .ne 25, 3), (79, .aload_n 0, 1), (80, .iload_n 1, 1), (81, .iconst 1, 1), (82, .aload_n 0, 1), (83, .getfield 25, 3), (86, .bipush 7, 2), (88, .iload_n 1, 1), (89, .iadd, 1), (90, .iaload, 1), (91, .iconst 1, 1), (92, .iadd, 1), (93, .aload_n 0, 1), (94, .getfield 91, 3), (97, .irem, 1), (98, .invokevirtual 216, 3)]
theorem dd_X9_chance_1 : ∀ e ∈ D_X9_chance_1, decode (mtJ 159).2.1 e.1 = .ok e.2 := by decide +kernel
set_option maxRecDepth 10000 in
theorem so_X9_chance_1 : ∀ e ∈ o_X9_chance_1, SndO 159 e.1 e.2 := by
  refine List.forall_mem_cons.mpr ⟨s_aload_n (dd_X9_chance_1 (0, .aload_n 0, 1) (List.mem_of_getElem? (i := 0) rfl)) rfl, ?_⟩
  refine List.forall_mem_cons.mpr ⟨s_aload_n (dd_X9_chance_1 (1, .aload_n 0, 1) (List.mem_of_getElem? (i := 1) rfl)) rfl, ?_⟩
  refine List.forall_mem_cons.mpr ⟨s_getI (k := 6) K9 (by decide) (dd_X9_chance_1 (2, .getfield 98, 3) (List.mem_of_getElem? (i := 2) rfl)) ow_X9_chance fl9_98 rfl, ?_⟩
  refine List.forall_mem_cons.mpr ⟨⟨s_callV (ci := 9) rfl mo158 rfl rfl (dd_X9_chance_1 (5, .invokevirtual 245, 3) (List.mem_of_getElem? (i := 3) rfl)) ow_X9_chance ml9_245 mi158 msl158 in_9 mn158, mo158⟩, ?_⟩
  refine List.forall_mem_cons.mpr ⟨s_istore_n (dd_X9_chance_1 (8, .istore_n 1, 1) (List.mem_of_getElem? (i := 4) rfl)) rfl, ?_⟩
  refine List.forall_mem_cons.mpr ⟨s_aload_n (dd_X9_chance_1 (9, .aload_n 0, 1) (List.mem_of_getElem? (i := 5) rfl)) rfl, ?_⟩
  refine List.forall_mem_cons.mpr ⟨s_iconst (dd_X9_chance_1 (10, .iconst 4, 1) (List.mem_of_getElem? (i := 6) rfl)) rfl, ?_⟩
  refine List.forall_mem_cons.mpr ⟨⟨s_callV (ci := 9) rfl mo158 rfl rfl (dd_X9_chance_1 (11, .invokevirtual 245, 3) (List.mem_of_getElem? (i := 7) rfl)) ow_X9_chance ml9_245 mi158 msl158 in_9 mn158, mo158⟩, ?_⟩
  refine List.forall_mem_cons.mpr ⟨s_istore_n (dd_X9_chance_1 (14, .istore_n 2, 1) (List.mem_of_getElem? (i := 8) rfl)) rfl, ?_⟩
  refine List.forall_mem_cons.mpr ⟨s_iload_n (dd_X9_chance_1 (15, .iload_n 2, 1) (List.mem_of_getElem? (i := 9) rfl)) rfl, ?_⟩
  refine List.forall_mem_cons.mpr ⟨s_if_ne (dd_X9_chance_1 (16, .ifCond .ne 27, 3) (List.mem_of_getElem? (i := 10) rfl)) (by decide), ?_⟩
  refine List.forall_mem_cons.mpr ⟨s_aload_n (dd_X9_chance_1 (19, .aload_n 0, 1) (List.mem_of_getElem? (i := 11) rfl)) rfl, ?_⟩
  refine List.forall_mem_cons.mpr ⟨s_getR (k := 9) K9 (by decide) (dd_X9_chance_1 (20, .getfield 25, 3) (List.mem_of_getElem? (i := 12) rfl)) ow_X9_chance fl9_25 rfl, ?_⟩
  refine List.forall_mem_cons.mpr ⟨s_iload_n (dd_X9_chance_1 (23, .iload_n 1, 1) (List.mem_of_getElem? (i := 13) rfl)) rfl, ?_⟩
  refine List.forall_mem_cons.mpr ⟨s_iald (dd_X9_chance_1 (24, .iaload, 1) (List.mem_of_getElem? (i := 14) rfl)), ?_⟩
  refine List.forall_mem_cons.mpr ⟨s_if_ne (dd_X9_chance_1 (25, .ifCond .ne 18, 3) (List.mem_of_getElem? (i := 15) rfl)) (by decide), ?_⟩
  refine List.forall_mem_cons.mpr ⟨s_aload_n (dd_X9_chance_1 (28, .aload_n 0, 1) (List.mem_of_getElem? (i := 16) rfl)) rfl, ?_⟩
  refine List.forall_mem_cons.mpr ⟨s_iload_n (dd_X9_chance_1 (29, .iload_n 1, 1) (List.mem_of_getElem? (i := 17) rfl)) rfl, ?_⟩
  refine List.forall_mem_cons.mpr ⟨s_iconst (dd_X9_chance_1 (30, .iconst 1, 1) (List.mem_of_getElem? (i := 18) rfl)) rfl, ?_⟩
  refine List.forall_mem_cons.mpr ⟨s_aload_n (dd_X9_chance_1 (31, .aload_n 0, 1) (List.mem_of_getElem? (i := 19) rfl)) rfl, ?_⟩
  refine List.forall_mem_cons.mpr ⟨s_getR (k := 7) K9 (by decide) (dd_X9_chance_1 (32, .getfield 19, 3) (List.mem_of_getElem? (i := 20) rfl)) ow_X9_chance fl9_19 rfl, ?_⟩
  refine List.forall_mem_cons.mpr ⟨s_iload_n (dd_X9_chance_1 (35, .iload_n 1, 1) (List.mem_of_getElem? (i := 21) rfl)) rfl, ?_⟩
  refine List.forall_mem_cons.mpr ⟨s_iald (dd_X9_chance_1 (36, .iaload, 1) (List.mem_of_getElem? (i := 22) rfl)), ?_⟩
  refine List.forall_mem_cons.mpr ⟨⟨s_callV (ci := 9) rfl mo147 rfl rfl (dd_X9_chance_1 (37, .invokevirtual 216, 3) (List.mem_of_getElem? (i := 23) rfl)) ow_X9_chance ml9_216 mi147 msl147 in_9 mn147, mo147⟩, ?_⟩
  refine List.forall_mem_cons.mpr ⟨s_goto (dd_X9_chance_1 (40, .goto 61, 3) (List.mem_of_getElem? (i := 24) rfl)) (by decide), ?_⟩
  refine List.forall_mem_cons.mpr ⟨s_iload_n (dd_X9_chance_1 (43, .iload_n 2, 1) (List.mem_of_getElem? (i := 25) rfl)) rfl, ?_⟩
  refine List.forall_mem_cons.mpr ⟨s_iconst (dd_X9_chance_1 (44, .iconst 1, 1) (List.mem_of_getElem? (i := 26) rfl)) rfl, ?_⟩
  refine List.forall_mem_cons.mpr ⟨s_icmp_ne (dd_X9_chance_1 (45, .if_icmp .ne 19, 3) (List.mem_of_getElem? (i := 27) rfl)) (by decide), ?_⟩
  refine List.forall_mem_cons.mpr ⟨s_aload_n (dd_X9_chance_1 (48, .aload_n 0, 1) (List.mem_of_getElem? (i := 28) rfl)) rfl, ?_⟩
  refine List.forall_mem_cons.mpr ⟨s_iload_n (dd_X9_chance_1 (49, .iload_n 1, 1) (List.mem_of_getElem? (i := 29) rfl)) rfl, ?_⟩
  refine List.forall_mem_cons.mpr ⟨⟨s_callV (ci := 9) rfl mo152 rfl rfl (dd_X9_chance_1 (50, .invokevirtual 225, 3) (List.mem_of_getElem? (i := 30) rfl)) ow_X9_chance ml9_225 mi152 msl152 in_9 mn152, mo152⟩, ?_⟩
  refine List.forall_mem_cons.mpr ⟨s_if_eq (dd_X9_chance_1 (53, .ifCond .eq 11, 3) (List.mem_of_getElem? (i := 31) rfl)) (by decide), ?_⟩
  refine List.forall_mem_cons.mpr ⟨s_aload_n (dd_X9_chance_1 (56, .aload_n 0, 1) (List.mem_of_getElem? (i := 32) rfl)) rfl, ?_⟩
  refine List.forall_mem_cons.mpr ⟨s_iload_n (dd_X9_chance_1 (57, .iload_n 1, 1) (List.mem_of_getElem? (i := 33) rfl)) rfl, ?_⟩
  refine List.forall_mem_cons.mpr ⟨⟨s_callV (ci := 9) rfl mo153 rfl rfl (dd_X9_chance_1 (58, .invokevirtual 228, 3) (List.mem_of_getElem? (i := 34) rfl)) ow_X9_chance ml9_228 mi153 msl153 in_9 mn153, mo153⟩, ?_⟩
  refine List.forall_mem_cons.mpr ⟨s_goto (dd_X9_chance_1 (61, .goto 40, 3) (List.mem_of_getElem? (i := 35) rfl)) (by decide), ?_⟩
  refine List.forall_mem_cons.mpr ⟨s_iload_n (dd_X9_chance_1 (64, .iload_n 2, 1) (List.mem_of_getElem? (i := 36) rfl)) rfl, ?_⟩
  refine List.forall_mem_cons.mpr ⟨s_iconst (dd_X9_chance_1 (65, .iconst 2, 1) (List.mem_of_getElem? (i := 37) rfl)) rfl, ?_⟩
  refine List.forall_mem_cons.mpr ⟨s_icmp_ne (dd_X9_chance_1 (66, .if_icmp .ne 35, 3) (List.mem_of_getElem? (i := 38) rfl)) (by decide), ?_⟩
  refine List.forall_mem_cons.mpr ⟨s_aload_n (dd_X9_chance_1 (69, .aload_n 0, 1) (List.mem_of_getElem? (i := 39) rfl)) rfl, ?_⟩
  refine List.forall_mem_cons.mpr ⟨s_getR (k := 9) K9 (by decide) (dd_X9_chance_1 (70, .getfield 25, 3) (List.mem_of_getElem? (i := 40) rfl)) ow_X9_chance fl9_25 rfl, ?_⟩
  refine List.forall_mem_cons.mpr ⟨s_iload_n (dd_X9_chance_1 (73, .iload_n 1, 1) (List.mem_of_getElem? (i := 41) rfl)) rfl, ?_⟩
  refine List.forall_mem_cons.mpr ⟨s_iald (dd_X9_chance_1 (74, .iaload, 1) (List.mem_of_getElem? (i := 42) rfl)), ?_⟩
  refine List.forall_mem_cons.mpr ⟨s_iconst (dd_X9_chance_1 (75, .iconst 1, 1) (List.mem_of_getElem? (i := 43) rfl)) rfl, ?_⟩
  refine List.forall_mem_cons.mpr ⟨s_icmp_ne (dd_X9_chance_1 (76, .if_icmp .ne 25, 3) (List.mem_of_getElem? (i := 44) rfl)) (by decide), ?_⟩
  refine List.forall_mem_cons.mpr ⟨s_aload_n (dd_X9_chance_1 (79, .aload_n 0, 1) (List.mem_of_getElem? (i := 45) rfl)) rfl, ?_⟩
  refine List.forall_mem_cons.mpr ⟨s_iload_n (dd_X9_chance_1 (80, .iload_n 1, 1) (List.mem_of_getElem? (i := 46) rfl)) rfl, ?_⟩
  refine List.forall_mem_cons.mpr ⟨s_iconst (dd_X9_chance_1 (81, .iconst 1, 1) (List.mem_of_getElem? (i := 47) rfl)) rfl, ?_⟩
  refine List.forall_mem_cons.mpr ⟨s_aload_n (dd_X9_chance_1 (82, .aload_n 0, 1) (List.mem_of_getElem? (i := 48) rfl)) rfl, ?_⟩
  refine List.forall_mem_cons.mpr ⟨s_getR (k := 9) K9 (by decide) (dd_X9_chance_1 (83, .getfield 25, 3) (List.mem_of_getElem? (i := 49) rfl)) ow_X9_chance fl9_25 rfl, ?_⟩
  refine List.forall_mem_cons.mpr ⟨s_bipush (dd_X9_chance_1 (86, .bipush 7, 2) (List.mem_of_getElem? (i := 50) rfl)) rfl, ?_⟩
  refine List.forall_mem_cons.mpr ⟨s_iload_n (dd_X9_chance_1 (88, .iload_n 1, 1) (List.mem_of_getElem? (i := 51) rfl)) rfl, ?_⟩
  refine List.forall_mem_cons.mpr ⟨s_iadd (dd_X9_chance_1 (89, .iadd, 1) (List.mem_of_getElem? (i := 52) rfl)), ?_⟩
  refine List.forall_mem_cons.mpr ⟨s_iald (dd_X9_chance_1 (90, .iaload, 1) (List.mem_of_getElem? (i := 53) rfl)), ?_⟩
  refine List.forall_mem_cons.mpr ⟨s_iconst (dd_X9_chance_1 (91, .iconst 1, 1) (List.mem_of_getElem? (i := 54) rfl)) rfl, ?_⟩
  refine List.forall_mem_cons.mpr ⟨s_iadd (dd_X9_chance_1 (92, .iadd, 1) (List.mem_of_getElem? (i := 55) rfl)), ?_⟩
  refine List.forall_mem_cons.mpr ⟨s_aload_n (dd_X9_chance_1 (93, .aload_n 0, 1) (List.mem_of_getElem? (i := 56) rfl)) rfl, ?_⟩
  refine List.forall_mem_cons.mpr ⟨s_getI (k := 2) K9 (by decide) (dd_X9_chance_1 (94, .getfield 91, 3) (List.mem_of_getElem? (i := 57) rfl)) ow_X9_chance fl9_91 rfl, ?_⟩
  refine List.forall_mem_cons.mpr ⟨s_irem (dd_X9_chance_1 (97, .irem, 1) (List.mem_of_getElem? (i := 58) rfl)), ?_⟩
  refine List.forall_mem_cons.mpr ⟨⟨s_callV (ci := 9) rfl mo147 rfl rfl (dd_X9_chance_1 (98, .invokevirtual 216, 3) (List.mem_of_getElem? (i := 59) rfl)) ow_X9_chance ml9_216 mi147 msl147 in_9 mn147, mo147⟩, ?_⟩
  exact fun _ h => absurd h List.not_mem_nil
def D_X9_chance_2 : List (Nat × Instr × Nat) := [(101, .iload_n 2, 1), (102, .iconst 3, 1), (103, .if_icmp .ne 10, 3), (106, .aload_n 0, 1), (107, .invokevirtual 232, 3), (110, .goto 4, 3), (113, .iconst 0, 1), (114, .ireturn, 1)]
theorem dd_X9_chance_2 : ∀ e ∈ D_X9_chance_2, decode (mtJ 159).2.1 e.1 = .ok e.2 := by decide +kernel
set_option maxRecDepth 10000 in
theorem so_X9_chance_2 : ∀ e ∈ o_X9_chance_2, SndO 159 e.1 e.2 := by
  refine List.forall_mem_cons.mpr ⟨s_iload_n (dd_X9_chance_2 (101, .iload_n 2, 1) (List.mem_of_getElem? (i := 0) rfl)) rfl, ?_⟩
  refine List.forall_mem_cons.mpr ⟨s_iconst (dd_X9_chance_2 (102, .iconst 3, 1) (List.mem_of_getElem? (i := 1) rfl)) rfl, ?_⟩
  refine List.forall_mem_cons.mpr ⟨s_icmp_ne (dd_X9_chance_2 (103, .if_icmp .ne 10, 3) (List.mem_of_getElem? (i := 2) rfl)) (by decide), ?_⟩
  refine List.forall_mem_cons.mpr ⟨s_aload_n (dd_X9_chance_2 (106, .aload_n 0, 1) (List.mem_of_getElem? (i := 3) rfl)) rfl, ?_⟩
  refine List.forall_mem_cons.mpr ⟨⟨s_callV (ci := 9) rfl mo155 rfl rfl (dd_X9_chance_2 (107, .invokevirtual 232, 3) (List.mem_of_getElem? (i := 4) rfl)) ow_X9_chance ml9_232 mi155 msl155 in_9 mn155, mo155⟩, ?_⟩
  refine List.forall_mem_cons.mpr ⟨s_goto (dd_X9_chance_2 (110, .goto 4, 3) (List.mem_of_getElem? (i := 5) rfl)) (by decide), ?_⟩
  refine List.forall_mem_cons.mpr ⟨s_iconst (dd_X9_chance_2 (113, .iconst 0, 1) (List.mem_of_getElem? (i := 6) rfl)) rfl, ?_⟩
  refine List.forall_mem_cons.mpr ⟨Or.inr (Or.inl ⟨rfl, (dd_X9_chance_2 (114, .ireturn, 1) (List.mem_of_getElem? (i := 7) rfl)), rfl⟩), ?_⟩
  exact fun _ h => absurd h List.not_mem_nil
theorem so_X9_chance : ∀ e ∈ o_X9_chance, SndO 159 e.1 e.2 := List.forall_mem_append.mpr ⟨so_X9_chance_1, so_X9_chance_2⟩
theorem ow_X9_drift : (mtJ 160).1.cls = "SatchelSinsModel" := rfl
def D_X9_drift : List (Nat × Instr × Nat) := [(0, .iload_n 1, 1), (1, .i2l, 1), (2, .lconst 1, 1), (3, .ldc2_w 248, 3), (6, .invokestatic 94, 3), (9, .ifCond .ne 6, 3), (12, .ldc 103, 2), (14, .ireturn, 1), (15, .aload_n 0, 1), (16, .getfield 87, 3), (19, .ifCond .ne 6, 3), (22, .ldc 212, 2), (24, .ireturn, 1), (25, .aload_n 0, 1), (26, .getfield 25, 3), (29, .bipush 14, 2), (31, .iaload, 1), (32, .sipush 9000, 3), (35, .if_icmp .le 6, 3), (38, .ldc 107, 2), (40, .ireturn, 1), (41, .aload_n 0, 1), (42, .invokevirtual 213, 3), (45, .iconst 0, 1), (46, .istore_n 2, 1), (47, .iconst 0, 1), (48, .istore_n 3, 1), (49, .iload_n 3, 1), (50, .iload_n 1, 1), (51, .if_icmp .ge 23, 3), (54, .aload_n 0, 1), (55, .getfield 98, 3), (58, .ifCond .le 16, 3), (61, .iload_n 2, 1), (62, .aload_n 0, 1), (63, .invokevirtual 250, 3), (66, .ior, 1), (67, .istore_n 2, 1), (68, .iinc 3 1, 3), (71, .goto (-22), 3), (74, .aload_n 0, 1), (75, .getfield 25, 3), (78, .bipush 14, 2), (80, .iaload, 1), (81, .ireturn, 1)]
theorem dd_X9_drift : ∀ e ∈ D_X9_drift, decode (mtJ 160).2.1 e.1 = .ok e.2 := by decide +kernel
set_option maxRecDepth 10000 in
theorem so_X9_drift : ∀ e ∈ o_X9_drift, SndO 160 e.1 e.2 := by
  refine List.forall_mem_cons.mpr ⟨s_iload_n (dd_X9_drift (0, .iload_n 1, 1) (List.mem_of_getElem? (i := 0) rfl)) rfl, ?_⟩
  refine List.forall_mem_cons.mpr ⟨s_i2l (dd_X9_drift (1, .i2l, 1) (List.mem_of_getElem? (i := 1) rfl)), ?_⟩
  refine List.forall_mem_cons.mpr ⟨s_lconst (dd_X9_drift (2, .lconst 1, 1) (List.mem_of_getElem? (i := 2) rfl)) rfl, ?_⟩
  refine List.forall_mem_cons.mpr ⟨s_ldc2 (dd_X9_drift (3, .ldc2_w 248, 3) (List.mem_of_getElem? (i := 3) rfl)) ow_X9_drift kl9_248, ?_⟩
  refine List.forall_mem_cons.mpr ⟨⟨s_callS mo118 rfl (dd_X9_drift (6, .invokestatic 94, 3) (List.mem_of_getElem? (i := 4) rfl)) ow_X9_drift ml9_94 ms118 mn118, mo118⟩, ?_⟩
  refine List.forall_mem_cons.mpr ⟨s_if_ne (dd_X9_drift (9, .ifCond .ne 6, 3) (List.mem_of_getElem? (i := 5) rfl)) (by decide), ?_⟩
  refine List.forall_mem_cons.mpr ⟨s_ldc (dd_X9_drift (12, .ldc 103, 2) (List.mem_of_getElem? (i := 6) rfl)) ow_X9_drift ki9_103, ?_⟩
  refine List.forall_mem_cons.mpr ⟨Or.inr (Or.inl ⟨rfl, (dd_X9_drift (14, .ireturn, 1) (List.mem_of_getElem? (i := 7) rfl)), rfl⟩), ?_⟩
  refine List.forall_mem_cons.mpr ⟨s_aload_n (dd_X9_drift (15, .aload_n 0, 1) (List.mem_of_getElem? (i := 8) rfl)) rfl, ?_⟩
  refine List.forall_mem_cons.mpr ⟨s_getI (k := 0) K9 (by decide) (dd_X9_drift (16, .getfield 87, 3) (List.mem_of_getElem? (i := 9) rfl)) ow_X9_drift fl9_87 rfl, ?_⟩
  refine List.forall_mem_cons.mpr ⟨s_if_ne (dd_X9_drift (19, .ifCond .ne 6, 3) (List.mem_of_getElem? (i := 10) rfl)) (by decide), ?_⟩
  refine List.forall_mem_cons.mpr ⟨s_ldc (dd_X9_drift (22, .ldc 212, 2) (List.mem_of_getElem? (i := 11) rfl)) ow_X9_drift ki9_212, ?_⟩
  refine List.forall_mem_cons.mpr ⟨Or.inr (Or.inl ⟨rfl, (dd_X9_drift (24, .ireturn, 1) (List.mem_of_getElem? (i := 12) rfl)), rfl⟩), ?_⟩
  refine List.forall_mem_cons.mpr ⟨s_aload_n (dd_X9_drift (25, .aload_n 0, 1) (List.mem_of_getElem? (i := 13) rfl)) rfl, ?_⟩
  refine List.forall_mem_cons.mpr ⟨s_getR (k := 9) K9 (by decide) (dd_X9_drift (26, .getfield 25, 3) (List.mem_of_getElem? (i := 14) rfl)) ow_X9_drift fl9_25 rfl, ?_⟩
  refine List.forall_mem_cons.mpr ⟨s_bipush (dd_X9_drift (29, .bipush 14, 2) (List.mem_of_getElem? (i := 15) rfl)) rfl, ?_⟩
  refine List.forall_mem_cons.mpr ⟨s_iald (dd_X9_drift (31, .iaload, 1) (List.mem_of_getElem? (i := 16) rfl)), ?_⟩
  refine List.forall_mem_cons.mpr ⟨s_sipush (dd_X9_drift (32, .sipush 9000, 3) (List.mem_of_getElem? (i := 17) rfl)) rfl, ?_⟩
  refine List.forall_mem_cons.mpr ⟨s_icmp_le (dd_X9_drift (35, .if_icmp .le 6, 3) (List.mem_of_getElem? (i := 18) rfl)) (by decide), ?_⟩
  refine List.forall_mem_cons.mpr ⟨s_ldc (dd_X9_drift (38, .ldc 107, 2) (List.mem_of_getElem? (i := 19) rfl)) ow_X9_drift ki9_107, ?_⟩
  refine List.forall_mem_cons.mpr ⟨Or.inr (Or.inl ⟨rfl, (dd_X9_drift (40, .ireturn, 1) (List.mem_of_getElem? (i := 20) rfl)), rfl⟩), ?_⟩
  refine List.forall_mem_cons.mpr ⟨s_aload_n (dd_X9_drift (41, .aload_n 0, 1) (List.mem_of_getElem? (i := 21) rfl)) rfl, ?_⟩
  refine List.forall_mem_cons.mpr ⟨⟨s_callV (ci := 9) rfl mo146 rfl rfl (dd_X9_drift (42, .invokevirtual 213, 3) (List.mem_of_getElem? (i := 22) rfl)) ow_X9_drift ml9_213 mi146 msl146 in_9 mn146, mo146⟩, ?_⟩
  refine List.forall_mem_cons.mpr ⟨s_iconst (dd_X9_drift (45, .iconst 0, 1) (List.mem_of_getElem? (i := 23) rfl)) rfl, ?_⟩
  refine List.forall_mem_cons.mpr ⟨s_istore_n (dd_X9_drift (46, .istore_n 2, 1) (List.mem_of_getElem? (i := 24) rfl)) rfl, ?_⟩
  refine List.forall_mem_cons.mpr ⟨s_iconst (dd_X9_drift (47, .iconst 0, 1) (List.mem_of_getElem? (i := 25) rfl)) rfl, ?_⟩
  refine List.forall_mem_cons.mpr ⟨s_istore_n (dd_X9_drift (48, .istore_n 3, 1) (List.mem_of_getElem? (i := 26) rfl)) rfl, ?_⟩
  refine List.forall_mem_cons.mpr ⟨s_iload_n (dd_X9_drift (49, .iload_n 3, 1) (List.mem_of_getElem? (i := 27) rfl)) rfl, ?_⟩
  refine List.forall_mem_cons.mpr ⟨s_iload_n (dd_X9_drift (50, .iload_n 1, 1) (List.mem_of_getElem? (i := 28) rfl)) rfl, ?_⟩
  refine List.forall_mem_cons.mpr ⟨s_icmp_ge (dd_X9_drift (51, .if_icmp .ge 23, 3) (List.mem_of_getElem? (i := 29) rfl)) (by decide), ?_⟩
  refine List.forall_mem_cons.mpr ⟨s_aload_n (dd_X9_drift (54, .aload_n 0, 1) (List.mem_of_getElem? (i := 30) rfl)) rfl, ?_⟩
  refine List.forall_mem_cons.mpr ⟨s_getI (k := 6) K9 (by decide) (dd_X9_drift (55, .getfield 98, 3) (List.mem_of_getElem? (i := 31) rfl)) ow_X9_drift fl9_98 rfl, ?_⟩
  refine List.forall_mem_cons.mpr ⟨s_if_le (dd_X9_drift (58, .ifCond .le 16, 3) (List.mem_of_getElem? (i := 32) rfl)) (by decide), ?_⟩
  refine List.forall_mem_cons.mpr ⟨s_iload_n (dd_X9_drift (61, .iload_n 2, 1) (List.mem_of_getElem? (i := 33) rfl)) rfl, ?_⟩
  refine List.forall_mem_cons.mpr ⟨s_aload_n (dd_X9_drift (62, .aload_n 0, 1) (List.mem_of_getElem? (i := 34) rfl)) rfl, ?_⟩
  refine List.forall_mem_cons.mpr ⟨⟨s_callV (ci := 9) rfl mo159 rfl rfl (dd_X9_drift (63, .invokevirtual 250, 3) (List.mem_of_getElem? (i := 35) rfl)) ow_X9_drift ml9_250 mi159 msl159 in_9 mn159, mo159⟩, ?_⟩
  refine List.forall_mem_cons.mpr ⟨s_ior (dd_X9_drift (66, .ior, 1) (List.mem_of_getElem? (i := 36) rfl)), ?_⟩
  refine List.forall_mem_cons.mpr ⟨s_istore_n (dd_X9_drift (67, .istore_n 2, 1) (List.mem_of_getElem? (i := 37) rfl)) rfl, ?_⟩
  refine List.forall_mem_cons.mpr ⟨s_iinc (dd_X9_drift (68, .iinc 3 1, 3) (List.mem_of_getElem? (i := 38) rfl)) rfl, ?_⟩
  refine List.forall_mem_cons.mpr ⟨s_goto (dd_X9_drift (71, .goto (-22), 3) (List.mem_of_getElem? (i := 39) rfl)) (by decide), ?_⟩
  refine List.forall_mem_cons.mpr ⟨s_aload_n (dd_X9_drift (74, .aload_n 0, 1) (List.mem_of_getElem? (i := 40) rfl)) rfl, ?_⟩
  refine List.forall_mem_cons.mpr ⟨s_getR (k := 9) K9 (by decide) (dd_X9_drift (75, .getfield 25, 3) (List.mem_of_getElem? (i := 41) rfl)) ow_X9_drift fl9_25 rfl, ?_⟩
  refine List.forall_mem_cons.mpr ⟨s_bipush (dd_X9_drift (78, .bipush 14, 2) (List.mem_of_getElem? (i := 42) rfl)) rfl, ?_⟩
  refine List.forall_mem_cons.mpr ⟨s_iald (dd_X9_drift (80, .iaload, 1) (List.mem_of_getElem? (i := 43) rfl)), ?_⟩
  refine List.forall_mem_cons.mpr ⟨Or.inr (Or.inl ⟨rfl, (dd_X9_drift (81, .ireturn, 1) (List.mem_of_getElem? (i := 44) rfl)), rfl⟩), ?_⟩
  exact fun _ h => absurd h List.not_mem_nil
theorem ow_X9_undo : (mtJ 161).1.cls = "SatchelSinsModel" := rfl
def D_X9_undo : List (Nat × Instr × Nat) := [(0, .aload_n 0, 1), (1, .getfield 175, 3), (4, .ifCond .ne 6, 3), (7, .ldc 212, 2), (9, .ireturn, 1), (10, .aload_n 0, 1), (11, .dup, 1), (12, .getfield 175, 3), (15, .iconst 1, 1), (16, .isub, 1), (17, .putfield 175, 3), (20, .iconst 0, 1), (21, .istore_n 1, 1), (22, .iload_n 1, 1), (23, .bipush 22, 2), (25, .if_icmp .ge 29, 3), (28, .aload_n 0, 1), (29, .getfield 25, 3), (32, .iload_n 1, 1), (33, .aload_n 0, 1), (34, .getfield 50, 3), (37, .bipush 22, 2), (39, .aload_n 0, 1), (40, .getfield 175, 3), (43, .imul, 1), (44, .iload_n 1, 1), (45, .iadd, 1), (46, .iaload, 1), (47, .iastore, 1), (48, .iinc 1 1, 3), (51, .goto (-29), 3), (54, .aload_n 0, 1), (55, .getfield 175, 3), (58, .ireturn, 1)]
theorem dd_X9_undo : ∀ e ∈ D_X9_undo, decode (mtJ 161).2.1 e.1 = .ok e.2 := by decide +kernel
set_option maxRecDepth 10000 in
theorem so_X9_undo : ∀ e ∈ o_X9_undo, SndO 161 e.1 e.2 := by
  refine List.forall_mem_cons.mpr ⟨s_aload_n (dd_X9_undo (0, .aload_n 0, 1) (List.mem_of_getElem? (i := 0) rfl)) rfl, ?_⟩
  refine List.forall_mem_cons.mpr ⟨s_getI (k := 26) K9 (by decide) (dd_X9_undo (1, .getfield 175, 3) (List.mem_of_getElem? (i := 1) rfl)) ow_X9_undo fl9_175 rfl, ?_⟩
  refine List.forall_mem_cons.mpr ⟨s_if_ne (dd_X9_undo (4, .ifCond .ne 6, 3) (List.mem_of_getElem? (i := 2) rfl)) (by decide), ?_⟩
  refine List.forall_mem_cons.mpr ⟨s_ldc (dd_X9_undo (7, .ldc 212, 2) (List.mem_of_getElem? (i := 3) rfl)) ow_X9_undo ki9_212, ?_⟩
  refine List.forall_mem_cons.mpr ⟨Or.inr (Or.inl ⟨rfl, (dd_X9_undo (9, .ireturn, 1) (List.mem_of_getElem? (i := 4) rfl)), rfl⟩), ?_⟩
  refine List.forall_mem_cons.mpr ⟨s_aload_n (dd_X9_undo (10, .aload_n 0, 1) (List.mem_of_getElem? (i := 5) rfl)) rfl, ?_⟩
  refine List.forall_mem_cons.mpr ⟨s_dup (dd_X9_undo (11, .dup, 1) (List.mem_of_getElem? (i := 6) rfl)), ?_⟩
  refine List.forall_mem_cons.mpr ⟨s_getI (k := 26) K9 (by decide) (dd_X9_undo (12, .getfield 175, 3) (List.mem_of_getElem? (i := 7) rfl)) ow_X9_undo fl9_175 rfl, ?_⟩
  refine List.forall_mem_cons.mpr ⟨s_iconst (dd_X9_undo (15, .iconst 1, 1) (List.mem_of_getElem? (i := 8) rfl)) rfl, ?_⟩
  refine List.forall_mem_cons.mpr ⟨s_isub (dd_X9_undo (16, .isub, 1) (List.mem_of_getElem? (i := 9) rfl)), ?_⟩
  refine List.forall_mem_cons.mpr ⟨s_putI (k := 26) K9 (by decide) (dd_X9_undo (17, .putfield 175, 3) (List.mem_of_getElem? (i := 10) rfl)) ow_X9_undo fl9_175 (Or.inl rfl) rfl, ?_⟩
  refine List.forall_mem_cons.mpr ⟨s_iconst (dd_X9_undo (20, .iconst 0, 1) (List.mem_of_getElem? (i := 11) rfl)) rfl, ?_⟩
  refine List.forall_mem_cons.mpr ⟨s_istore_n (dd_X9_undo (21, .istore_n 1, 1) (List.mem_of_getElem? (i := 12) rfl)) rfl, ?_⟩
  refine List.forall_mem_cons.mpr ⟨s_iload_n (dd_X9_undo (22, .iload_n 1, 1) (List.mem_of_getElem? (i := 13) rfl)) rfl, ?_⟩
  refine List.forall_mem_cons.mpr ⟨s_bipush (dd_X9_undo (23, .bipush 22, 2) (List.mem_of_getElem? (i := 14) rfl)) rfl, ?_⟩
  refine List.forall_mem_cons.mpr ⟨s_icmp_ge (dd_X9_undo (25, .if_icmp .ge 29, 3) (List.mem_of_getElem? (i := 15) rfl)) (by decide), ?_⟩
  refine List.forall_mem_cons.mpr ⟨s_aload_n (dd_X9_undo (28, .aload_n 0, 1) (List.mem_of_getElem? (i := 16) rfl)) rfl, ?_⟩
  refine List.forall_mem_cons.mpr ⟨s_getR (k := 9) K9 (by decide) (dd_X9_undo (29, .getfield 25, 3) (List.mem_of_getElem? (i := 17) rfl)) ow_X9_undo fl9_25 rfl, ?_⟩
  refine List.forall_mem_cons.mpr ⟨s_iload_n (dd_X9_undo (32, .iload_n 1, 1) (List.mem_of_getElem? (i := 18) rfl)) rfl, ?_⟩
  refine List.forall_mem_cons.mpr ⟨s_aload_n (dd_X9_undo (33, .aload_n 0, 1) (List.mem_of_getElem? (i := 19) rfl)) rfl, ?_⟩
  refine List.forall_mem_cons.mpr ⟨s_getR (k := 27) K9 (by decide) (dd_X9_undo (34, .getfield 50, 3) (List.mem_of_getElem? (i := 20) rfl)) ow_X9_undo fl9_50 rfl, ?_⟩
  refine List.forall_mem_cons.mpr ⟨s_bipush (dd_X9_undo (37, .bipush 22, 2) (List.mem_of_getElem? (i := 21) rfl)) rfl, ?_⟩
  refine List.forall_mem_cons.mpr ⟨s_aload_n (dd_X9_undo (39, .aload_n 0, 1) (List.mem_of_getElem? (i := 22) rfl)) rfl, ?_⟩
  refine List.forall_mem_cons.mpr ⟨s_getI (k := 26) K9 (by decide) (dd_X9_undo (40, .getfield 175, 3) (List.mem_of_getElem? (i := 23) rfl)) ow_X9_undo fl9_175 rfl, ?_⟩
  refine List.forall_mem_cons.mpr ⟨s_imul (dd_X9_undo (43, .imul, 1) (List.mem_of_getElem? (i := 24) rfl)), ?_⟩
  refine List.forall_mem_cons.mpr ⟨s_iload_n (dd_X9_undo (44, .iload_n 1, 1) (List.mem_of_getElem? (i := 25) rfl)) rfl, ?_⟩
  refine List.forall_mem_cons.mpr ⟨s_iadd (dd_X9_undo (45, .iadd, 1) (List.mem_of_getElem? (i := 26) rfl)), ?_⟩
  refine List.forall_mem_cons.mpr ⟨s_iald (dd_X9_undo (46, .iaload, 1) (List.mem_of_getElem? (i := 27) rfl)), ?_⟩
  refine List.forall_mem_cons.mpr ⟨s_iast (dd_X9_undo (47, .iastore, 1) (List.mem_of_getElem? (i := 28) rfl)), ?_⟩
  refine List.forall_mem_cons.mpr ⟨s_iinc (dd_X9_undo (48, .iinc 1 1, 3) (List.mem_of_getElem? (i := 29) rfl)) rfl, ?_⟩
  refine List.forall_mem_cons.mpr ⟨s_goto (dd_X9_undo (51, .goto (-29), 3) (List.mem_of_getElem? (i := 30) rfl)) (by decide), ?_⟩
  refine List.forall_mem_cons.mpr ⟨s_aload_n (dd_X9_undo (54, .aload_n 0, 1) (List.mem_of_getElem? (i := 31) rfl)) rfl, ?_⟩
  refine List.forall_mem_cons.mpr ⟨s_getI (k := 26) K9 (by decide) (dd_X9_undo (55, .getfield 175, 3) (List.mem_of_getElem? (i := 32) rfl)) ow_X9_undo fl9_175 rfl, ?_⟩
  refine List.forall_mem_cons.mpr ⟨Or.inr (Or.inl ⟨rfl, (dd_X9_undo (58, .ireturn, 1) (List.mem_of_getElem? (i := 33) rfl)), rfl⟩), ?_⟩
  exact fun _ h => absurd h List.not_mem_nil
theorem ow_X9_waysToGive : (mtJ 162).1.cls = "SatchelSinsModel" := rfl
def D_X9_waysToGive : List (Nat × Instr × Nat) := [(0, .iconst 1, 1), (1, .istore_n 1, 1), (2, .iconst 0, 1), (3, .istore_n 2, 1), (4, .iload_n 2, 1), (5, .aload_n 0, 1), (6, .getfield 98, 3), (9, .if_icmp .ge 30, 3), (12, .iload_n 1, 1), (13, .aload_n 0, 1), (14, .getfield 25, 3), (17, .iload_n 2, 1), (18, .iaload, 1), (19, .iconst 1, 1), (20, .if_icmp .ne 10, 3), (23, .aload_n 0, 1), (24, .getfield 91, 3), (27, .goto 4, 3), (30, .iconst 1, 1), (31, .imul, 1), (32, .istore_n 1, 1), (33, .iinc 2 1, 3), (36, .goto (-32), 3), (39, .iload_n 1, 1), (40, .ireturn, 1)]
theorem dd_X9_waysToGive : ∀ e ∈ D_X9_waysToGive, decode (mtJ 162).2.1 e.1 = .ok e.2 := by decide +kernel
set_option maxRecDepth 10000 in
theorem so_X9_waysToGive : ∀ e ∈ o_X9_waysToGive, SndO 162 e.1 e.2 := by
  refine List.forall_mem_cons.mpr ⟨s_iconst (dd_X9_waysToGive (0, .iconst 1, 1) (List.mem_of_getElem? (i := 0) rfl)) rfl, ?_⟩
  refine List.forall_mem_cons.mpr ⟨s_istore_n (dd_X9_waysToGive (1, .istore_n 1, 1) (List.mem_of_getElem? (i := 1) rfl)) rfl, ?_⟩
  refine List.forall_mem_cons.mpr ⟨s_iconst (dd_X9_waysToGive (2, .iconst 0, 1) (List.mem_of_getElem? (i := 2) rfl)) rfl, ?_⟩
  refine List.forall_mem_cons.mpr ⟨s_istore_n (dd_X9_waysToGive (3, .istore_n 2, 1) (List.mem_of_getElem? (i := 3) rfl)) rfl, ?_⟩
  refine List.forall_mem_cons.mpr ⟨s_iload_n (dd_X9_waysToGive (4, .iload_n 2, 1) (List.mem_of_getElem? (i := 4) rfl)) rfl, ?_⟩
  refine List.forall_mem_cons.mpr ⟨s_aload_n (dd_X9_waysToGive (5, .aload_n 0, 1) (List.mem_of_getElem? (i := 5) rfl)) rfl, ?_⟩
  refine List.forall_mem_cons.mpr ⟨s_getI (k := 6) K9 (by decide) (dd_X9_waysToGive (6, .getfield 98, 3) (List.mem_of_getElem? (i := 6) rfl)) ow_X9_waysToGive fl9_98 rfl, ?_⟩
  refine List.forall_mem_cons.mpr ⟨s_icmp_ge (dd_X9_waysToGive (9, .if_icmp .ge 30, 3) (List.mem_of_getElem? (i := 7) rfl)) (by decide), ?_⟩
  refine List.forall_mem_cons.mpr ⟨s_iload_n (dd_X9_waysToGive (12, .iload_n 1, 1) (List.mem_of_getElem? (i := 8) rfl)) rfl, ?_⟩
  refine List.forall_mem_cons.mpr ⟨s_aload_n (dd_X9_waysToGive (13, .aload_n 0, 1) (List.mem_of_getElem? (i := 9) rfl)) rfl, ?_⟩
  refine List.forall_mem_cons.mpr ⟨s_getR (k := 9) K9 (by decide) (dd_X9_waysToGive (14, .getfield 25, 3) (List.mem_of_getElem? (i := 10) rfl)) ow_X9_waysToGive fl9_25 rfl, ?_⟩
  refine List.forall_mem_cons.mpr ⟨s_iload_n (dd_X9_waysToGive (17, .iload_n 2, 1) (List.mem_of_getElem? (i := 11) rfl)) rfl, ?_⟩
  refine List.forall_mem_cons.mpr ⟨s_iald (dd_X9_waysToGive (18, .iaload, 1) (List.mem_of_getElem? (i := 12) rfl)), ?_⟩
  refine List.forall_mem_cons.mpr ⟨s_iconst (dd_X9_waysToGive (19, .iconst 1, 1) (List.mem_of_getElem? (i := 13) rfl)) rfl, ?_⟩
  refine List.forall_mem_cons.mpr ⟨s_icmp_ne (dd_X9_waysToGive (20, .if_icmp .ne 10, 3) (List.mem_of_getElem? (i := 14) rfl)) (by decide), ?_⟩
  refine List.forall_mem_cons.mpr ⟨s_aload_n (dd_X9_waysToGive (23, .aload_n 0, 1) (List.mem_of_getElem? (i := 15) rfl)) rfl, ?_⟩
  refine List.forall_mem_cons.mpr ⟨s_getI (k := 2) K9 (by decide) (dd_X9_waysToGive (24, .getfield 91, 3) (List.mem_of_getElem? (i := 16) rfl)) ow_X9_waysToGive fl9_91 rfl, ?_⟩
  refine List.forall_mem_cons.mpr ⟨s_goto (dd_X9_waysToGive (27, .goto 4, 3) (List.mem_of_getElem? (i := 17) rfl)) (by decide), ?_⟩
  refine List.forall_mem_cons.mpr ⟨s_iconst (dd_X9_waysToGive (30, .iconst 1, 1) (List.mem_of_getElem? (i := 18) rfl)) rfl, ?_⟩
  refine List.forall_mem_cons.mpr ⟨s_imul (dd_X9_waysToGive (31, .imul, 1) (List.mem_of_getElem? (i := 19) rfl)), ?_⟩
  refine List.forall_mem_cons.mpr ⟨s_istore_n (dd_X9_waysToGive (32, .istore_n 1, 1) (List.mem_of_getElem? (i := 20) rfl)) rfl, ?_⟩
  refine List.forall_mem_cons.mpr ⟨s_iinc (dd_X9_waysToGive (33, .iinc 2 1, 3) (List.mem_of_getElem? (i := 21) rfl)) rfl, ?_⟩
  refine List.forall_mem_cons.mpr ⟨s_goto (dd_X9_waysToGive (36, .goto (-32), 3) (List.mem_of_getElem? (i := 22) rfl)) (by decide), ?_⟩
  refine List.forall_mem_cons.mpr ⟨s_iload_n (dd_X9_waysToGive (39, .iload_n 1, 1) (List.mem_of_getElem? (i := 23) rfl)) rfl, ?_⟩
  refine List.forall_mem_cons.mpr ⟨Or.inr (Or.inl ⟨rfl, (dd_X9_waysToGive (40, .ireturn, 1) (List.mem_of_getElem? (i := 24) rfl)), rfl⟩), ?_⟩
  exact fun _ h => absurd h List.not_mem_nil
theorem ow_X9_giveBy : (mtJ 163).1.cls = "SatchelSinsModel" := rfl
def D_X9_giveBy_1 : List (Nat × Instr × Nat) := [(0, .iload_n 1, 1), (1, .istore_n 2, 1), (2, .iconst 0, 1), (3, .istore_n 3, 1), (4, .iconst 0, 1), (5, .istore 4, 2), (7, .iload 4, 2), (9, .iconst 5, 1), (10, .if_icmp .ge 17, 3), (13, .aload_n 0, 1), (14, .getfield 59, 3), (17, .iload 4, 2), (19, .iconst 0, 1), (20, .iastore, 1), (21, .iinc 4 1, 3), (24, .goto (-17), 3), (27, .aload_n 0, 1), (28, .getfield 98, 3), (31, .iconst 1, 1), (32, .isub, 1), (33, .istore 4, 2), (35, .iload 4, 2), (37, .ifCond .lt 98, 3), (40, .aload_n 0, 1), (41, .getfield 53, 3), (44, .iload 4, 2), (46, .iconst (-1), 1), (47, .iastore, 1), (48, .aload_n 0, 1), (49, .getfield 25, 3), (52, .iload 4, 2), (54, .iaload, 1), (55, .iconst 1, 1), (56, .if_icmp .ne 73, 3), (59, .aload_n 0, 1), (60, .getfield 53, 3), (63, .iload 4, 2), (65, .iload_n 2, 1), (66, .aload_n 0, 1), (67, .getfield 91, 3), (70, .irem, 1), (71, .iastore, 1), (72, .iload_n 2, 1), (73, .aload_n 0, 1), (74, .getfield 91, 3), (77, .idiv, 1), (78, .istore_n 2, 1), (79, .aload_n 0, 1), (80, .getfield 59, 3), (83, .aload_n 0, 1), (84, .getfield 53, 3), (87, .iload 4, 2), (89, .iaload, 1), (90, .dup2, 1), (91, .iaload, 1), (92, .aload_n 0, 1), (93, .getfield 22, 3), (96, .iload 4, 2), (98, .iaload, 1), (99, .iadd, 1)]
theorem dd_X9_giveBy_1 : ∀ e ∈ D_X9_giveBy_1, decode (mtJ 163).2.1 e.1 = .ok e.2 := by decide +kernel
set_option maxRecDepth 10000 in
theorem so_X9_giveBy_1 : ∀ e ∈ o_X9_giveBy_1, SndO 163 e.1 e.2 := by
  refine List.forall_mem_cons.mpr ⟨s_iload_n (dd_X9_giveBy_1 (0, .iload_n 1, 1) (List.mem_of_getElem? (i := 0) rfl)) rfl, ?_⟩
  refine List.forall_mem_cons.mpr ⟨s_istore_n (dd_X9_giveBy_1 (1, .istore_n 2, 1) (List.mem_of_getElem? (i := 1) rfl)) rfl, ?_⟩
  refine List.forall_mem_cons.mpr ⟨s_iconst (dd_X9_giveBy_1 (2, .iconst 0, 1) (List.mem_of_getElem? (i := 2) rfl)) rfl, ?_⟩
  refine List.forall_mem_cons.mpr ⟨s_istore_n (dd_X9_giveBy_1 (3, .istore_n 3, 1) (List.mem_of_getElem? (i := 3) rfl)) rfl, ?_⟩
  refine List.forall_mem_cons.mpr ⟨s_iconst (dd_X9_giveBy_1 (4, .iconst 0, 1) (List.mem_of_getElem? (i := 4) rfl)) rfl, ?_⟩
  refine List.forall_mem_cons.mpr ⟨s_istore (dd_X9_giveBy_1 (5, .istore 4, 2) (List.mem_of_getElem? (i := 5) rfl)), ?_⟩
  refine List.forall_mem_cons.mpr ⟨s_iload (dd_X9_giveBy_1 (7, .iload 4, 2) (List.mem_of_getElem? (i := 6) rfl)), ?_⟩
  refine List.forall_mem_cons.mpr ⟨s_iconst (dd_X9_giveBy_1 (9, .iconst 5, 1) (List.mem_of_getElem? (i := 7) rfl)) rfl, ?_⟩
  refine List.forall_mem_cons.mpr ⟨s_icmp_ge (dd_X9_giveBy_1 (10, .if_icmp .ge 17, 3) (List.mem_of_getElem? (i := 8) rfl)) (by decide), ?_⟩
  refine List.forall_mem_cons.mpr ⟨s_aload_n (dd_X9_giveBy_1 (13, .aload_n 0, 1) (List.mem_of_getElem? (i := 9) rfl)) rfl, ?_⟩
  refine List.forall_mem_cons.mpr ⟨s_getR (k := 30) K9 (by decide) (dd_X9_giveBy_1 (14, .getfield 59, 3) (List.mem_of_getElem? (i := 10) rfl)) ow_X9_giveBy fl9_59 rfl, ?_⟩
  refine List.forall_mem_cons.mpr ⟨s_iload (dd_X9_giveBy_1 (17, .iload 4, 2) (List.mem_of_getElem? (i := 11) rfl)), ?_⟩
  refine List.forall_mem_cons.mpr ⟨s_iconst (dd_X9_giveBy_1 (19, .iconst 0, 1) (List.mem_of_getElem? (i := 12) rfl)) rfl, ?_⟩
  refine List.forall_mem_cons.mpr ⟨s_iast (dd_X9_giveBy_1 (20, .iastore, 1) (List.mem_of_getElem? (i := 13) rfl)), ?_⟩
  refine List.forall_mem_cons.mpr ⟨s_iinc (dd_X9_giveBy_1 (21, .iinc 4 1, 3) (List.mem_of_getElem? (i := 14) rfl)) rfl, ?_⟩
  refine List.forall_mem_cons.mpr ⟨s_goto (dd_X9_giveBy_1 (24, .goto (-17), 3) (List.mem_of_getElem? (i := 15) rfl)) (by decide), ?_⟩
  refine List.forall_mem_cons.mpr ⟨s_aload_n (dd_X9_giveBy_1 (27, .aload_n 0, 1) (List.mem_of_getElem? (i := 16) rfl)) rfl, ?_⟩
  refine List.forall_mem_cons.mpr ⟨s_getI (k := 6) K9 (by decide) (dd_X9_giveBy_1 (28, .getfield 98, 3) (List.mem_of_getElem? (i := 17) rfl)) ow_X9_giveBy fl9_98 rfl, ?_⟩
  refine List.forall_mem_cons.mpr ⟨s_iconst (dd_X9_giveBy_1 (31, .iconst 1, 1) (List.mem_of_getElem? (i := 18) rfl)) rfl, ?_⟩
  refine List.forall_mem_cons.mpr ⟨s_isub (dd_X9_giveBy_1 (32, .isub, 1) (List.mem_of_getElem? (i := 19) rfl)), ?_⟩
  refine List.forall_mem_cons.mpr ⟨s_istore (dd_X9_giveBy_1 (33, .istore 4, 2) (List.mem_of_getElem? (i := 20) rfl)), ?_⟩
  refine List.forall_mem_cons.mpr ⟨s_iload (dd_X9_giveBy_1 (35, .iload 4, 2) (List.mem_of_getElem? (i := 21) rfl)), ?_⟩
  refine List.forall_mem_cons.mpr ⟨s_if_lt (dd_X9_giveBy_1 (37, .ifCond .lt 98, 3) (List.mem_of_getElem? (i := 22) rfl)) (by decide), ?_⟩
  refine List.forall_mem_cons.mpr ⟨s_aload_n (dd_X9_giveBy_1 (40, .aload_n 0, 1) (List.mem_of_getElem? (i := 23) rfl)) rfl, ?_⟩
  refine List.forall_mem_cons.mpr ⟨s_getR (k := 28) K9 (by decide) (dd_X9_giveBy_1 (41, .getfield 53, 3) (List.mem_of_getElem? (i := 24) rfl)) ow_X9_giveBy fl9_53 rfl, ?_⟩
  refine List.forall_mem_cons.mpr ⟨s_iload (dd_X9_giveBy_1 (44, .iload 4, 2) (List.mem_of_getElem? (i := 25) rfl)), ?_⟩
  refine List.forall_mem_cons.mpr ⟨s_iconst (dd_X9_giveBy_1 (46, .iconst (-1), 1) (List.mem_of_getElem? (i := 26) rfl)) rfl, ?_⟩
  refine List.forall_mem_cons.mpr ⟨s_iast (dd_X9_giveBy_1 (47, .iastore, 1) (List.mem_of_getElem? (i := 27) rfl)), ?_⟩
  refine List.forall_mem_cons.mpr ⟨s_aload_n (dd_X9_giveBy_1 (48, .aload_n 0, 1) (List.mem_of_getElem? (i := 28) rfl)) rfl, ?_⟩
  refine List.forall_mem_cons.mpr ⟨s_getR (k := 9) K9 (by decide) (dd_X9_giveBy_1 (49, .getfield 25, 3) (List.mem_of_getElem? (i := 29) rfl)) ow_X9_giveBy fl9_25 rfl, ?_⟩
  refine List.forall_mem_cons.mpr ⟨s_iload (dd_X9_giveBy_1 (52, .iload 4, 2) (List.mem_of_getElem? (i := 30) rfl)), ?_⟩
  refine List.forall_mem_cons.mpr ⟨s_iald (dd_X9_giveBy_1 (54, .iaload, 1) (List.mem_of_getElem? (i := 31) rfl)), ?_⟩
  refine List.forall_mem_cons.mpr ⟨s_iconst (dd_X9_giveBy_1 (55, .iconst 1, 1) (List.mem_of_getElem? (i := 32) rfl)) rfl, ?_⟩
  refine List.forall_mem_cons.mpr ⟨s_icmp_ne (dd_X9_giveBy_1 (56, .if_icmp .ne 73, 3) (List.mem_of_getElem? (i := 33) rfl)) (by decide), ?_⟩
  refine List.forall_mem_cons.mpr ⟨s_aload_n (dd_X9_giveBy_1 (59, .aload_n 0, 1) (List.mem_of_getElem? (i := 34) rfl)) rfl, ?_⟩
  refine List.forall_mem_cons.mpr ⟨s_getR (k := 28) K9 (by decide) (dd_X9_giveBy_1 (60, .getfield 53, 3) (List.mem_of_getElem? (i := 35) rfl)) ow_X9_giveBy fl9_53 rfl, ?_⟩
  refine List.forall_mem_cons.mpr ⟨s_iload (dd_X9_giveBy_1 (63, .iload 4, 2) (List.mem_of_getElem? (i := 36) rfl)), ?_⟩
  refine List.forall_mem_cons.mpr ⟨s_iload_n (dd_X9_giveBy_1 (65, .iload_n 2, 1) (List.mem_of_getElem? (i := 37) rfl)) rfl, ?_⟩
  refine List.forall_mem_cons.mpr ⟨s_aload_n (dd_X9_giveBy_1 (66, .aload_n 0, 1) (List.mem_of_getElem? (i := 38) rfl)) rfl, ?_⟩
  refine List.forall_mem_cons.mpr ⟨s_getI (k := 2) K9 (by decide) (dd_X9_giveBy_1 (67, .getfield 91, 3) (List.mem_of_getElem? (i := 39) rfl)) ow_X9_giveBy fl9_91 rfl, ?_⟩
  refine List.forall_mem_cons.mpr ⟨s_irem (dd_X9_giveBy_1 (70, .irem, 1) (List.mem_of_getElem? (i := 40) rfl)), ?_⟩
  refine List.forall_mem_cons.mpr ⟨s_iast (dd_X9_giveBy_1 (71, .iastore, 1) (List.mem_of_getElem? (i := 41) rfl)), ?_⟩
  refine List.forall_mem_cons.mpr ⟨s_iload_n (dd_X9_giveBy_1 (72, .iload_n 2, 1) (List.mem_of_getElem? (i := 42) rfl)) rfl, ?_⟩
  refine List.forall_mem_cons.mpr ⟨s_aload_n (dd_X9_giveBy_1 (73, .aload_n 0, 1) (List.mem_of_getElem? (i := 43) rfl)) rfl, ?_⟩
  refine List.forall_mem_cons.mpr ⟨s_getI (k := 2) K9 (by decide) (dd_X9_giveBy_1 (74, .getfield 91, 3) (List.mem_of_getElem? (i := 44) rfl)) ow_X9_giveBy fl9_91 rfl, ?_⟩
  refine List.forall_mem_cons.mpr ⟨s_idiv (dd_X9_giveBy_1 (77, .idiv, 1) (List.mem_of_getElem? (i := 45) rfl)), ?_⟩
  refine List.forall_mem_cons.mpr ⟨s_istore_n (dd_X9_giveBy_1 (78, .istore_n 2, 1) (List.mem_of_getElem? (i := 46) rfl)) rfl, ?_⟩
  refine List.forall_mem_cons.mpr ⟨s_aload_n (dd_X9_giveBy_1 (79, .aload_n 0, 1) (List.mem_of_getElem? (i := 47) rfl)) rfl, ?_⟩
  refine List.forall_mem_cons.mpr ⟨s_getR (k := 30) K9 (by decide) (dd_X9_giveBy_1 (80, .getfield 59, 3) (List.mem_of_getElem? (i := 48) rfl)) ow_X9_giveBy fl9_59 rfl, ?_⟩
  refine List.forall_mem_cons.mpr ⟨s_aload_n (dd_X9_giveBy_1 (83, .aload_n 0, 1) (List.mem_of_getElem? (i := 49) rfl)) rfl, ?_⟩
  refine List.forall_mem_cons.mpr ⟨s_getR (k := 28) K9 (by decide) (dd_X9_giveBy_1 (84, .getfield 53, 3) (List.mem_of_getElem? (i := 50) rfl)) ow_X9_giveBy fl9_53 rfl, ?_⟩
  refine List.forall_mem_cons.mpr ⟨s_iload (dd_X9_giveBy_1 (87, .iload 4, 2) (List.mem_of_getElem? (i := 51) rfl)), ?_⟩
  refine List.forall_mem_cons.mpr ⟨s_iald (dd_X9_giveBy_1 (89, .iaload, 1) (List.mem_of_getElem? (i := 52) rfl)), ?_⟩
  refine List.forall_mem_cons.mpr ⟨s_dup2 (dd_X9_giveBy_1 (90, .dup2, 1) (List.mem_of_getElem? (i := 53) rfl)), ?_⟩
  refine List.forall_mem_cons.mpr ⟨s_iald (dd_X9_giveBy_1 (91, .iaload, 1) (List.mem_of_getElem? (i := 54) rfl)), ?_⟩
  refine List.forall_mem_cons.mpr ⟨s_aload_n (dd_X9_giveBy_1 (92, .aload_n 0, 1) (List.mem_of_getElem? (i := 55) rfl)) rfl, ?_⟩
  refine List.forall_mem_cons.mpr ⟨s_getR (k := 8) K9 (by decide) (dd_X9_giveBy_1 (93, .getfield 22, 3) (List.mem_of_getElem? (i := 56) rfl)) ow_X9_giveBy fl9_22 rfl, ?_⟩
  refine List.forall_mem_cons.mpr ⟨s_iload (dd_X9_giveBy_1 (96, .iload 4, 2) (List.mem_of_getElem? (i := 57) rfl)), ?_⟩
  refine List.forall_mem_cons.mpr ⟨s_iald (dd_X9_giveBy_1 (98, .iaload, 1) (List.mem_of_getElem? (i := 58) rfl)), ?_⟩
  refine List.forall_mem_cons.mpr ⟨s_iadd (dd_X9_giveBy_1 (99, .iadd, 1) (List.mem_of_getElem? (i := 59) rfl)), ?_⟩
  exact fun _ h => absurd h List.not_mem_nil
def D_X9_giveBy_2 : List (Nat × Instr × Nat) := [(100, .iastore, 1), (101, .iload_n 3, 1), (102, .aload_n 0, 1), (103, .getfield 53, 3), (106, .iload 4, 2), (108, .iaload, 1), (109, .aload_n 0, 1), (110, .getfield 25, 3), (113, .bipush 7, 2), (115, .iload 4, 2), (117, .iadd, 1), (118, .iaload, 1), (119, .if_icmp .ne 7, 3), (122, .iconst 0, 1), (123, .goto 4, 3), (126, .iconst 1, 1), (127, .iadd, 1), (128, .istore_n 3, 1), (129, .iinc 4 (-1), 3), (132, .goto (-97), 3), (135, .iload_n 3, 1), (136, .ireturn, 1)]
theorem dd_X9_giveBy_2 : ∀ e ∈ D_X9_giveBy_2, decode (mtJ 163).2.1 e.1 = .ok e.2 := by decide +kernel
set_option maxRecDepth 10000 in
theorem so_X9_giveBy_2 : ∀ e ∈ o_X9_giveBy_2, SndO 163 e.1 e.2 := by
  refine List.forall_mem_cons.mpr ⟨s_iast (dd_X9_giveBy_2 (100, .iastore, 1) (List.mem_of_getElem? (i := 0) rfl)), ?_⟩
  refine List.forall_mem_cons.mpr ⟨s_iload_n (dd_X9_giveBy_2 (101, .iload_n 3, 1) (List.mem_of_getElem? (i := 1) rfl)) rfl, ?_⟩
  refine List.forall_mem_cons.mpr ⟨s_aload_n (dd_X9_giveBy_2 (102, .aload_n 0, 1) (List.mem_of_getElem? (i := 2) rfl)) rfl, ?_⟩
  refine List.forall_mem_cons.mpr ⟨s_getR (k := 28) K9 (by decide) (dd_X9_giveBy_2 (103, .getfield 53, 3) (List.mem_of_getElem? (i := 3) rfl)) ow_X9_giveBy fl9_53 rfl, ?_⟩
  refine List.forall_mem_cons.mpr ⟨s_iload (dd_X9_giveBy_2 (106, .iload 4, 2) (List.mem_of_getElem? (i := 4) rfl)), ?_⟩
  refine List.forall_mem_cons.mpr ⟨s_iald (dd_X9_giveBy_2 (108, .iaload, 1) (List.mem_of_getElem? (i := 5) rfl)), ?_⟩
  refine List.forall_mem_cons.mpr ⟨s_aload_n (dd_X9_giveBy_2 (109, .aload_n 0, 1) (List.mem_of_getElem? (i := 6) rfl)) rfl, ?_⟩
  refine List.forall_mem_cons.mpr ⟨s_getR (k := 9) K9 (by decide) (dd_X9_giveBy_2 (110, .getfield 25, 3) (List.mem_of_getElem? (i := 7) rfl)) ow_X9_giveBy fl9_25 rfl, ?_⟩
  refine List.forall_mem_cons.mpr ⟨s_bipush (dd_X9_giveBy_2 (113, .bipush 7, 2) (List.mem_of_getElem? (i := 8) rfl)) rfl, ?_⟩
  refine List.forall_mem_cons.mpr ⟨s_iload (dd_X9_giveBy_2 (115, .iload 4, 2) (List.mem_of_getElem? (i := 9) rfl)), ?_⟩
  refine List.forall_mem_cons.mpr ⟨s_iadd (dd_X9_giveBy_2 (117, .iadd, 1) (List.mem_of_getElem? (i := 10) rfl)), ?_⟩
  refine List.forall_mem_cons.mpr ⟨s_iald (dd_X9_giveBy_2 (118, .iaload, 1) (List.mem_of_getElem? (i := 11) rfl)), ?_⟩
  refine List.forall_mem_cons.mpr ⟨s_icmp_ne (dd_X9_giveBy_2 (119, .if_icmp .ne 7, 3) (List.mem_of_getElem? (i := 12) rfl)) (by decide), ?_⟩
  refine List.forall_mem_cons.mpr ⟨s_iconst (dd_X9_giveBy_2 (122, .iconst 0, 1) (List.mem_of_getElem? (i := 13) rfl)) rfl, ?_⟩
  refine List.forall_mem_cons.mpr ⟨s_goto (dd_X9_giveBy_2 (123, .goto 4, 3) (List.mem_of_getElem? (i := 14) rfl)) (by decide), ?_⟩
  refine List.forall_mem_cons.mpr ⟨s_iconst (dd_X9_giveBy_2 (126, .iconst 1, 1) (List.mem_of_getElem? (i := 15) rfl)) rfl, ?_⟩
  refine List.forall_mem_cons.mpr ⟨s_iadd (dd_X9_giveBy_2 (127, .iadd, 1) (List.mem_of_getElem? (i := 16) rfl)), ?_⟩
  refine List.forall_mem_cons.mpr ⟨s_istore_n (dd_X9_giveBy_2 (128, .istore_n 3, 1) (List.mem_of_getElem? (i := 17) rfl)) rfl, ?_⟩
  refine List.forall_mem_cons.mpr ⟨s_iinc (dd_X9_giveBy_2 (129, .iinc 4 (-1), 3) (List.mem_of_getElem? (i := 18) rfl)) rfl, ?_⟩
  refine List.forall_mem_cons.mpr ⟨s_goto (dd_X9_giveBy_2 (132, .goto (-97), 3) (List.mem_of_getElem? (i := 19) rfl)) (by decide), ?_⟩
  refine List.forall_mem_cons.mpr ⟨s_iload_n (dd_X9_giveBy_2 (135, .iload_n 3, 1) (List.mem_of_getElem? (i := 20) rfl)) rfl, ?_⟩
  refine List.forall_mem_cons.mpr ⟨Or.inr (Or.inl ⟨rfl, (dd_X9_giveBy_2 (136, .ireturn, 1) (List.mem_of_getElem? (i := 21) rfl)), rfl⟩), ?_⟩
  exact fun _ h => absurd h List.not_mem_nil
theorem so_X9_giveBy : ∀ e ∈ o_X9_giveBy, SndO 163 e.1 e.2 := List.forall_mem_append.mpr ⟨so_X9_giveBy_1, so_X9_giveBy_2⟩
theorem ow_X9_isBorne : (mtJ 164).1.cls = "SatchelSinsModel" := rfl
def D_X9_isBorne : List (Nat × Instr × Nat) := [(0, .iconst 1, 1), (1, .istore_n 1, 1), (2, .iconst 0, 1), (3, .istore_n 2, 1), (4, .iload_n 2, 1), (5, .aload_n 0, 1), (6, .getfield 91, 3), (9, .if_icmp .ge 34, 3), (12, .iload_n 1, 1), (13, .ifCond .eq 22, 3), (16, .aload_n 0, 1), (17, .getfield 59, 3), (20, .iload_n 2, 1), (21, .iaload, 1), (22, .aload_n 0, 1), (23, .getfield 7, 3), (26, .iload_n 2, 1), (27, .iaload, 1), (28, .if_icmp .gt 7, 3), (31, .iconst 1, 1), (32, .goto 4, 3), (35, .iconst 0, 1), (36, .istore_n 1, 1), (37, .iinc 2 1, 3), (40, .goto (-36), 3), (43, .iload_n 1, 1), (44, .ireturn, 1)]
theorem dd_X9_isBorne : ∀ e ∈ D_X9_isBorne, decode (mtJ 164).2.1 e.1 = .ok e.2 := by decide +kernel
set_option maxRecDepth 10000 in
theorem so_X9_isBorne : ∀ e ∈ o_X9_isBorne, SndO 164 e.1 e.2 := by
  refine List.forall_mem_cons.mpr ⟨s_iconst (dd_X9_isBorne (0, .iconst 1, 1) (List.mem_of_getElem? (i := 0) rfl)) rfl, ?_⟩
  refine List.forall_mem_cons.mpr ⟨s_istore_n (dd_X9_isBorne (1, .istore_n 1, 1) (List.mem_of_getElem? (i := 1) rfl)) rfl, ?_⟩
  refine List.forall_mem_cons.mpr ⟨s_iconst (dd_X9_isBorne (2, .iconst 0, 1) (List.mem_of_getElem? (i := 2) rfl)) rfl, ?_⟩
  refine List.forall_mem_cons.mpr ⟨s_istore_n (dd_X9_isBorne (3, .istore_n 2, 1) (List.mem_of_getElem? (i := 3) rfl)) rfl, ?_⟩
  refine List.forall_mem_cons.mpr ⟨s_iload_n (dd_X9_isBorne (4, .iload_n 2, 1) (List.mem_of_getElem? (i := 4) rfl)) rfl, ?_⟩
  refine List.forall_mem_cons.mpr ⟨s_aload_n (dd_X9_isBorne (5, .aload_n 0, 1) (List.mem_of_getElem? (i := 5) rfl)) rfl, ?_⟩
  refine List.forall_mem_cons.mpr ⟨s_getI (k := 2) K9 (by decide) (dd_X9_isBorne (6, .getfield 91, 3) (List.mem_of_getElem? (i := 6) rfl)) ow_X9_isBorne fl9_91 rfl, ?_⟩
  refine List.forall_mem_cons.mpr ⟨s_icmp_ge (dd_X9_isBorne (9, .if_icmp .ge 34, 3) (List.mem_of_getElem? (i := 7) rfl)) (by decide), ?_⟩
  refine List.forall_mem_cons.mpr ⟨s_iload_n (dd_X9_isBorne (12, .iload_n 1, 1) (List.mem_of_getElem? (i := 8) rfl)) rfl, ?_⟩
  refine List.forall_mem_cons.mpr ⟨s_if_eq (dd_X9_isBorne (13, .ifCond .eq 22, 3) (List.mem_of_getElem? (i := 9) rfl)) (by decide), ?_⟩
  refine List.forall_mem_cons.mpr ⟨s_aload_n (dd_X9_isBorne (16, .aload_n 0, 1) (List.mem_of_getElem? (i := 10) rfl)) rfl, ?_⟩
  refine List.forall_mem_cons.mpr ⟨s_getR (k := 30) K9 (by decide) (dd_X9_isBorne (17, .getfield 59, 3) (List.mem_of_getElem? (i := 11) rfl)) ow_X9_isBorne fl9_59 rfl, ?_⟩
  refine List.forall_mem_cons.mpr ⟨s_iload_n (dd_X9_isBorne (20, .iload_n 2, 1) (List.mem_of_getElem? (i := 12) rfl)) rfl, ?_⟩
  refine List.forall_mem_cons.mpr ⟨s_iald (dd_X9_isBorne (21, .iaload, 1) (List.mem_of_getElem? (i := 13) rfl)), ?_⟩
  refine List.forall_mem_cons.mpr ⟨s_aload_n (dd_X9_isBorne (22, .aload_n 0, 1) (List.mem_of_getElem? (i := 14) rfl)) rfl, ?_⟩
  refine List.forall_mem_cons.mpr ⟨s_getR (k := 3) K9 (by decide) (dd_X9_isBorne (23, .getfield 7, 3) (List.mem_of_getElem? (i := 15) rfl)) ow_X9_isBorne fl9_7 rfl, ?_⟩
  refine List.forall_mem_cons.mpr ⟨s_iload_n (dd_X9_isBorne (26, .iload_n 2, 1) (List.mem_of_getElem? (i := 16) rfl)) rfl, ?_⟩
  refine List.forall_mem_cons.mpr ⟨s_iald (dd_X9_isBorne (27, .iaload, 1) (List.mem_of_getElem? (i := 17) rfl)), ?_⟩
  refine List.forall_mem_cons.mpr ⟨s_icmp_gt (dd_X9_isBorne (28, .if_icmp .gt 7, 3) (List.mem_of_getElem? (i := 18) rfl)) (by decide), ?_⟩
  refine List.forall_mem_cons.mpr ⟨s_iconst (dd_X9_isBorne (31, .iconst 1, 1) (List.mem_of_getElem? (i := 19) rfl)) rfl, ?_⟩
  refine List.forall_mem_cons.mpr ⟨s_goto (dd_X9_isBorne (32, .goto 4, 3) (List.mem_of_getElem? (i := 20) rfl)) (by decide), ?_⟩
  refine List.forall_mem_cons.mpr ⟨s_iconst (dd_X9_isBorne (35, .iconst 0, 1) (List.mem_of_getElem? (i := 21) rfl)) rfl, ?_⟩
  refine List.forall_mem_cons.mpr ⟨s_istore_n (dd_X9_isBorne (36, .istore_n 1, 1) (List.mem_of_getElem? (i := 22) rfl)) rfl, ?_⟩
  refine List.forall_mem_cons.mpr ⟨s_iinc (dd_X9_isBorne (37, .iinc 2 1, 3) (List.mem_of_getElem? (i := 23) rfl)) rfl, ?_⟩
  refine List.forall_mem_cons.mpr ⟨s_goto (dd_X9_isBorne (40, .goto (-36), 3) (List.mem_of_getElem? (i := 24) rfl)) (by decide), ?_⟩
  refine List.forall_mem_cons.mpr ⟨s_iload_n (dd_X9_isBorne (43, .iload_n 1, 1) (List.mem_of_getElem? (i := 25) rfl)) rfl, ?_⟩
  refine List.forall_mem_cons.mpr ⟨Or.inr (Or.inr ⟨rfl, (dd_X9_isBorne (44, .ireturn, 1) (List.mem_of_getElem? (i := 26) rfl)), rfl⟩), ?_⟩
  exact fun _ h => absurd h List.not_mem_nil
theorem ow_X9_greatest : (mtJ 165).1.cls = "SatchelSinsModel" := rfl
def D_X9_greatest : List (Nat × Instr × Nat) := [(0, .iconst 0, 1), (1, .istore_n 1, 1), (2, .iconst 0, 1), (3, .istore_n 2, 1), (4, .iload_n 2, 1), (5, .aload_n 0, 1), (6, .getfield 91, 3), (9, .if_icmp .ge 30, 3), (12, .aload_n 0, 1), (13, .getfield 59, 3), (16, .iload_n 2, 1), (17, .iaload, 1), (18, .iload_n 1, 1), (19, .if_icmp .le 12, 3), (22, .aload_n 0, 1), (23, .getfield 59, 3), (26, .iload_n 2, 1), (27, .iaload, 1), (28, .goto 4, 3), (31, .iload_n 1, 1), (32, .istore_n 1, 1), (33, .iinc 2 1, 3), (36, .goto (-32), 3), (39, .iload_n 1, 1), (40, .ireturn, 1)]
theorem dd_X9_greatest : ∀ e ∈ D_X9_greatest, decode (mtJ 165).2.1 e.1 = .ok e.2 := by decide +kernel
set_option maxRecDepth 10000 in
theorem so_X9_greatest : ∀ e ∈ o_X9_greatest, SndO 165 e.1 e.2 := by
  refine List.forall_mem_cons.mpr ⟨s_iconst (dd_X9_greatest (0, .iconst 0, 1) (List.mem_of_getElem? (i := 0) rfl)) rfl, ?_⟩
  refine List.forall_mem_cons.mpr ⟨s_istore_n (dd_X9_greatest (1, .istore_n 1, 1) (List.mem_of_getElem? (i := 1) rfl)) rfl, ?_⟩
  refine List.forall_mem_cons.mpr ⟨s_iconst (dd_X9_greatest (2, .iconst 0, 1) (List.mem_of_getElem? (i := 2) rfl)) rfl, ?_⟩
  refine List.forall_mem_cons.mpr ⟨s_istore_n (dd_X9_greatest (3, .istore_n 2, 1) (List.mem_of_getElem? (i := 3) rfl)) rfl, ?_⟩
  refine List.forall_mem_cons.mpr ⟨s_iload_n (dd_X9_greatest (4, .iload_n 2, 1) (List.mem_of_getElem? (i := 4) rfl)) rfl, ?_⟩
  refine List.forall_mem_cons.mpr ⟨s_aload_n (dd_X9_greatest (5, .aload_n 0, 1) (List.mem_of_getElem? (i := 5) rfl)) rfl, ?_⟩
  refine List.forall_mem_cons.mpr ⟨s_getI (k := 2) K9 (by decide) (dd_X9_greatest (6, .getfield 91, 3) (List.mem_of_getElem? (i := 6) rfl)) ow_X9_greatest fl9_91 rfl, ?_⟩
  refine List.forall_mem_cons.mpr ⟨s_icmp_ge (dd_X9_greatest (9, .if_icmp .ge 30, 3) (List.mem_of_getElem? (i := 7) rfl)) (by decide), ?_⟩
  refine List.forall_mem_cons.mpr ⟨s_aload_n (dd_X9_greatest (12, .aload_n 0, 1) (List.mem_of_getElem? (i := 8) rfl)) rfl, ?_⟩
  refine List.forall_mem_cons.mpr ⟨s_getR (k := 30) K9 (by decide) (dd_X9_greatest (13, .getfield 59, 3) (List.mem_of_getElem? (i := 9) rfl)) ow_X9_greatest fl9_59 rfl, ?_⟩
  refine List.forall_mem_cons.mpr ⟨s_iload_n (dd_X9_greatest (16, .iload_n 2, 1) (List.mem_of_getElem? (i := 10) rfl)) rfl, ?_⟩
  refine List.forall_mem_cons.mpr ⟨s_iald (dd_X9_greatest (17, .iaload, 1) (List.mem_of_getElem? (i := 11) rfl)), ?_⟩
  refine List.forall_mem_cons.mpr ⟨s_iload_n (dd_X9_greatest (18, .iload_n 1, 1) (List.mem_of_getElem? (i := 12) rfl)) rfl, ?_⟩
  refine List.forall_mem_cons.mpr ⟨s_icmp_le (dd_X9_greatest (19, .if_icmp .le 12, 3) (List.mem_of_getElem? (i := 13) rfl)) (by decide), ?_⟩
  refine List.forall_mem_cons.mpr ⟨s_aload_n (dd_X9_greatest (22, .aload_n 0, 1) (List.mem_of_getElem? (i := 14) rfl)) rfl, ?_⟩
  refine List.forall_mem_cons.mpr ⟨s_getR (k := 30) K9 (by decide) (dd_X9_greatest (23, .getfield 59, 3) (List.mem_of_getElem? (i := 15) rfl)) ow_X9_greatest fl9_59 rfl, ?_⟩
  refine List.forall_mem_cons.mpr ⟨s_iload_n (dd_X9_greatest (26, .iload_n 2, 1) (List.mem_of_getElem? (i := 16) rfl)) rfl, ?_⟩
  refine List.forall_mem_cons.mpr ⟨s_iald (dd_X9_greatest (27, .iaload, 1) (List.mem_of_getElem? (i := 17) rfl)), ?_⟩
  refine List.forall_mem_cons.mpr ⟨s_goto (dd_X9_greatest (28, .goto 4, 3) (List.mem_of_getElem? (i := 18) rfl)) (by decide), ?_⟩
  refine List.forall_mem_cons.mpr ⟨s_iload_n (dd_X9_greatest (31, .iload_n 1, 1) (List.mem_of_getElem? (i := 19) rfl)) rfl, ?_⟩
  refine List.forall_mem_cons.mpr ⟨s_istore_n (dd_X9_greatest (32, .istore_n 1, 1) (List.mem_of_getElem? (i := 20) rfl)) rfl, ?_⟩
  refine List.forall_mem_cons.mpr ⟨s_iinc (dd_X9_greatest (33, .iinc 2 1, 3) (List.mem_of_getElem? (i := 21) rfl)) rfl, ?_⟩
  refine List.forall_mem_cons.mpr ⟨s_goto (dd_X9_greatest (36, .goto (-32), 3) (List.mem_of_getElem? (i := 22) rfl)) (by decide), ?_⟩
  refine List.forall_mem_cons.mpr ⟨s_iload_n (dd_X9_greatest (39, .iload_n 1, 1) (List.mem_of_getElem? (i := 23) rfl)) rfl, ?_⟩
  refine List.forall_mem_cons.mpr ⟨Or.inr (Or.inl ⟨rfl, (dd_X9_greatest (40, .ireturn, 1) (List.mem_of_getElem? (i := 24) rfl)), rfl⟩), ?_⟩
  exact fun _ h => absurd h List.not_mem_nil
theorem ow_X9_keepGiven : (mtJ 166).1.cls = "SatchelSinsModel" := rfl
def D_X9_keepGiven : List (Nat × Instr × Nat) := [(0, .iconst 0, 1), (1, .istore_n 1, 1), (2, .iload_n 1, 1), (3, .aload_n 0, 1), (4, .getfield 98, 3), (7, .if_icmp .ge 21, 3), (10, .aload_n 0, 1), (11, .getfield 56, 3), (14, .iload_n 1, 1), (15, .aload_n 0, 1), (16, .getfield 53, 3), (19, .iload_n 1, 1), (20, .iaload, 1), (21, .iastore, 1), (22, .iinc 1 1, 3), (25, .goto (-23), 3), (28, .return_, 1)]
theorem dd_X9_keepGiven : ∀ e ∈ D_X9_keepGiven, decode (mtJ 166).2.1 e.1 = .ok e.2 := by decide +kernel
set_option maxRecDepth 10000 in
theorem so_X9_keepGiven : ∀ e ∈ o_X9_keepGiven, SndO 166 e.1 e.2 := by
  refine List.forall_mem_cons.mpr ⟨s_iconst (dd_X9_keepGiven (0, .iconst 0, 1) (List.mem_of_getElem? (i := 0) rfl)) rfl, ?_⟩
  refine List.forall_mem_cons.mpr ⟨s_istore_n (dd_X9_keepGiven (1, .istore_n 1, 1) (List.mem_of_getElem? (i := 1) rfl)) rfl, ?_⟩
  refine List.forall_mem_cons.mpr ⟨s_iload_n (dd_X9_keepGiven (2, .iload_n 1, 1) (List.mem_of_getElem? (i := 2) rfl)) rfl, ?_⟩
  refine List.forall_mem_cons.mpr ⟨s_aload_n (dd_X9_keepGiven (3, .aload_n 0, 1) (List.mem_of_getElem? (i := 3) rfl)) rfl, ?_⟩
  refine List.forall_mem_cons.mpr ⟨s_getI (k := 6) K9 (by decide) (dd_X9_keepGiven (4, .getfield 98, 3) (List.mem_of_getElem? (i := 4) rfl)) ow_X9_keepGiven fl9_98 rfl, ?_⟩
  refine List.forall_mem_cons.mpr ⟨s_icmp_ge (dd_X9_keepGiven (7, .if_icmp .ge 21, 3) (List.mem_of_getElem? (i := 5) rfl)) (by decide), ?_⟩
  refine List.forall_mem_cons.mpr ⟨s_aload_n (dd_X9_keepGiven (10, .aload_n 0, 1) (List.mem_of_getElem? (i := 6) rfl)) rfl, ?_⟩
  refine List.forall_mem_cons.mpr ⟨s_getR (k := 29) K9 (by decide) (dd_X9_keepGiven (11, .getfield 56, 3) (List.mem_of_getElem? (i := 7) rfl)) ow_X9_keepGiven fl9_56 rfl, ?_⟩
  refine List.forall_mem_cons.mpr ⟨s_iload_n (dd_X9_keepGiven (14, .iload_n 1, 1) (List.mem_of_getElem? (i := 8) rfl)) rfl, ?_⟩
  refine List.forall_mem_cons.mpr ⟨s_aload_n (dd_X9_keepGiven (15, .aload_n 0, 1) (List.mem_of_getElem? (i := 9) rfl)) rfl, ?_⟩
  refine List.forall_mem_cons.mpr ⟨s_getR (k := 28) K9 (by decide) (dd_X9_keepGiven (16, .getfield 53, 3) (List.mem_of_getElem? (i := 10) rfl)) ow_X9_keepGiven fl9_53 rfl, ?_⟩
  refine List.forall_mem_cons.mpr ⟨s_iload_n (dd_X9_keepGiven (19, .iload_n 1, 1) (List.mem_of_getElem? (i := 11) rfl)) rfl, ?_⟩
  refine List.forall_mem_cons.mpr ⟨s_iald (dd_X9_keepGiven (20, .iaload, 1) (List.mem_of_getElem? (i := 12) rfl)), ?_⟩
  refine List.forall_mem_cons.mpr ⟨s_iast (dd_X9_keepGiven (21, .iastore, 1) (List.mem_of_getElem? (i := 13) rfl)), ?_⟩
  refine List.forall_mem_cons.mpr ⟨s_iinc (dd_X9_keepGiven (22, .iinc 1 1, 3) (List.mem_of_getElem? (i := 14) rfl)) rfl, ?_⟩
  refine List.forall_mem_cons.mpr ⟨s_goto (dd_X9_keepGiven (25, .goto (-23), 3) (List.mem_of_getElem? (i := 15) rfl)) (by decide), ?_⟩
  refine List.forall_mem_cons.mpr ⟨Or.inl ⟨rfl, (dd_X9_keepGiven (28, .return_, 1) (List.mem_of_getElem? (i := 16) rfl)), rfl⟩, ?_⟩
  exact fun _ h => absurd h List.not_mem_nil
theorem ow_X9_loads : (mtJ 167).1.cls = "SatchelSinsModel" := rfl
def D_X9_loads : List (Nat × Instr × Nat) := [(0, .iload_n 1, 1), (1, .iconst (-1), 1), (2, .if_icmp .eq 14, 3), (5, .aload_n 0, 1), (6, .iload_n 1, 1), (7, .invokevirtual 209, 3), (10, .ifCond .ne 6, 3), (13, .ldc 205, 2), (15, .ireturn, 1), (16, .ldc 253, 2), (18, .istore_n 2, 1), (19, .iconst 0, 1), (20, .istore_n 3, 1), (21, .iload_n 3, 1), (22, .aload_n 0, 1), (23, .invokevirtual 254, 3), (26, .if_icmp .ge 36, 3), (29, .aload_n 0, 1), (30, .iload_n 3, 1), (31, .invokevirtual 257, 3), (34, .istore 4, 2), (36, .iload 4, 2), (38, .iload_n 2, 1), (39, .if_icmp .ge 17, 3), (42, .aload_n 0, 1), (43, .invokevirtual 260, 3), (46, .ifCond .eq 10, 3), (49, .iload 4, 2), (51, .istore_n 2, 1), (52, .aload_n 0, 1), (53, .invokevirtual 264, 3), (56, .iinc 3 1, 3), (59, .goto (-38), 3), (62, .iload_n 2, 1), (63, .ldc 253, 2), (65, .if_icmp .ne 7, 3), (68, .iconst (-1), 1), (69, .goto 18, 3), (72, .iload_n 1, 1), (73, .iconst (-1), 1), (74, .if_icmp .ne 7, 3), (77, .iload_n 2, 1), (78, .goto 9, 3), (81, .aload_n 0, 1), (82, .getfield 56, 3), (85, .iload_n 1, 1), (86, .iaload, 1), (87, .ireturn, 1)]
theorem dd_X9_loads : ∀ e ∈ D_X9_loads, decode (mtJ 167).2.1 e.1 = .ok e.2 := by decide +kernel
set_option maxRecDepth 10000 in
theorem so_X9_loads : ∀ e ∈ o_X9_loads, SndO 167 e.1 e.2 := by
  refine List.forall_mem_cons.mpr ⟨s_iload_n (dd_X9_loads (0, .iload_n 1, 1) (List.mem_of_getElem? (i := 0) rfl)) rfl, ?_⟩
  refine List.forall_mem_cons.mpr ⟨s_iconst (dd_X9_loads (1, .iconst (-1), 1) (List.mem_of_getElem? (i := 1) rfl)) rfl, ?_⟩
  refine List.forall_mem_cons.mpr ⟨s_icmp_eq (dd_X9_loads (2, .if_icmp .eq 14, 3) (List.mem_of_getElem? (i := 2) rfl)) (by decide), ?_⟩
  refine List.forall_mem_cons.mpr ⟨s_aload_n (dd_X9_loads (5, .aload_n 0, 1) (List.mem_of_getElem? (i := 3) rfl)) rfl, ?_⟩
  refine List.forall_mem_cons.mpr ⟨s_iload_n (dd_X9_loads (6, .iload_n 1, 1) (List.mem_of_getElem? (i := 4) rfl)) rfl, ?_⟩
  refine List.forall_mem_cons.mpr ⟨⟨s_callV (ci := 9) rfl mo121 rfl rfl (dd_X9_loads (7, .invokevirtual 209, 3) (List.mem_of_getElem? (i := 5) rfl)) ow_X9_loads ml9_209 mi121 msl121 in_9 mn121, mo121⟩, ?_⟩
  refine List.forall_mem_cons.mpr ⟨s_if_ne (dd_X9_loads (10, .ifCond .ne 6, 3) (List.mem_of_getElem? (i := 6) rfl)) (by decide), ?_⟩
  refine List.forall_mem_cons.mpr ⟨s_ldc (dd_X9_loads (13, .ldc 205, 2) (List.mem_of_getElem? (i := 7) rfl)) ow_X9_loads ki9_205, ?_⟩
  refine List.forall_mem_cons.mpr ⟨Or.inr (Or.inl ⟨rfl, (dd_X9_loads (15, .ireturn, 1) (List.mem_of_getElem? (i := 8) rfl)), rfl⟩), ?_⟩
  refine List.forall_mem_cons.mpr ⟨s_ldc (dd_X9_loads (16, .ldc 253, 2) (List.mem_of_getElem? (i := 9) rfl)) ow_X9_loads ki9_253, ?_⟩
  refine List.forall_mem_cons.mpr ⟨s_istore_n (dd_X9_loads (18, .istore_n 2, 1) (List.mem_of_getElem? (i := 10) rfl)) rfl, ?_⟩
  refine List.forall_mem_cons.mpr ⟨s_iconst (dd_X9_loads (19, .iconst 0, 1) (List.mem_of_getElem? (i := 11) rfl)) rfl, ?_⟩
  refine List.forall_mem_cons.mpr ⟨s_istore_n (dd_X9_loads (20, .istore_n 3, 1) (List.mem_of_getElem? (i := 12) rfl)) rfl, ?_⟩
  refine List.forall_mem_cons.mpr ⟨s_iload_n (dd_X9_loads (21, .iload_n 3, 1) (List.mem_of_getElem? (i := 13) rfl)) rfl, ?_⟩
  refine List.forall_mem_cons.mpr ⟨s_aload_n (dd_X9_loads (22, .aload_n 0, 1) (List.mem_of_getElem? (i := 14) rfl)) rfl, ?_⟩
  refine List.forall_mem_cons.mpr ⟨⟨s_callV (ci := 9) rfl mo162 rfl rfl (dd_X9_loads (23, .invokevirtual 254, 3) (List.mem_of_getElem? (i := 15) rfl)) ow_X9_loads ml9_254 mi162 msl162 in_9 mn162, mo162⟩, ?_⟩
  refine List.forall_mem_cons.mpr ⟨s_icmp_ge (dd_X9_loads (26, .if_icmp .ge 36, 3) (List.mem_of_getElem? (i := 16) rfl)) (by decide), ?_⟩
  refine List.forall_mem_cons.mpr ⟨s_aload_n (dd_X9_loads (29, .aload_n 0, 1) (List.mem_of_getElem? (i := 17) rfl)) rfl, ?_⟩
  refine List.forall_mem_cons.mpr ⟨s_iload_n (dd_X9_loads (30, .iload_n 3, 1) (List.mem_of_getElem? (i := 18) rfl)) rfl, ?_⟩
  refine List.forall_mem_cons.mpr ⟨⟨s_callV (ci := 9) rfl mo163 rfl rfl (dd_X9_loads (31, .invokevirtual 257, 3) (List.mem_of_getElem? (i := 19) rfl)) ow_X9_loads ml9_257 mi163 msl163 in_9 mn163, mo163⟩, ?_⟩
  refine List.forall_mem_cons.mpr ⟨s_istore (dd_X9_loads (34, .istore 4, 2) (List.mem_of_getElem? (i := 20) rfl)), ?_⟩
  refine List.forall_mem_cons.mpr ⟨s_iload (dd_X9_loads (36, .iload 4, 2) (List.mem_of_getElem? (i := 21) rfl)), ?_⟩
  refine List.forall_mem_cons.mpr ⟨s_iload_n (dd_X9_loads (38, .iload_n 2, 1) (List.mem_of_getElem? (i := 22) rfl)) rfl, ?_⟩
  refine List.forall_mem_cons.mpr ⟨s_icmp_ge (dd_X9_loads (39, .if_icmp .ge 17, 3) (List.mem_of_getElem? (i := 23) rfl)) (by decide), ?_⟩
  refine List.forall_mem_cons.mpr ⟨s_aload_n (dd_X9_loads (42, .aload_n 0, 1) (List.mem_of_getElem? (i := 24) rfl)) rfl, ?_⟩
  refine List.forall_mem_cons.mpr ⟨⟨s_callV (ci := 9) rfl mo164 rfl rfl (dd_X9_loads (43, .invokevirtual 260, 3) (List.mem_of_getElem? (i := 25) rfl)) ow_X9_loads ml9_260 mi164 msl164 in_9 mn164, mo164⟩, ?_⟩
  refine List.forall_mem_cons.mpr ⟨s_if_eq (dd_X9_loads (46, .ifCond .eq 10, 3) (List.mem_of_getElem? (i := 26) rfl)) (by decide), ?_⟩
  refine List.forall_mem_cons.mpr ⟨s_iload (dd_X9_loads (49, .iload 4, 2) (List.mem_of_getElem? (i := 27) rfl)), ?_⟩
  refine List.forall_mem_cons.mpr ⟨s_istore_n (dd_X9_loads (51, .istore_n 2, 1) (List.mem_of_getElem? (i := 28) rfl)) rfl, ?_⟩
  refine List.forall_mem_cons.mpr ⟨s_aload_n (dd_X9_loads (52, .aload_n 0, 1) (List.mem_of_getElem? (i := 29) rfl)) rfl, ?_⟩
  refine List.forall_mem_cons.mpr ⟨⟨s_callV (ci := 9) rfl mo166 rfl rfl (dd_X9_loads (53, .invokevirtual 264, 3) (List.mem_of_getElem? (i := 30) rfl)) ow_X9_loads ml9_264 mi166 msl166 in_9 mn166, mo166⟩, ?_⟩
  refine List.forall_mem_cons.mpr ⟨s_iinc (dd_X9_loads (56, .iinc 3 1, 3) (List.mem_of_getElem? (i := 31) rfl)) rfl, ?_⟩
  refine List.forall_mem_cons.mpr ⟨s_goto (dd_X9_loads (59, .goto (-38), 3) (List.mem_of_getElem? (i := 32) rfl)) (by decide), ?_⟩
  refine List.forall_mem_cons.mpr ⟨s_iload_n (dd_X9_loads (62, .iload_n 2, 1) (List.mem_of_getElem? (i := 33) rfl)) rfl, ?_⟩
  refine List.forall_mem_cons.mpr ⟨s_ldc (dd_X9_loads (63, .ldc 253, 2) (List.mem_of_getElem? (i := 34) rfl)) ow_X9_loads ki9_253, ?_⟩
  refine List.forall_mem_cons.mpr ⟨s_icmp_ne (dd_X9_loads (65, .if_icmp .ne 7, 3) (List.mem_of_getElem? (i := 35) rfl)) (by decide), ?_⟩
  refine List.forall_mem_cons.mpr ⟨s_iconst (dd_X9_loads (68, .iconst (-1), 1) (List.mem_of_getElem? (i := 36) rfl)) rfl, ?_⟩
  refine List.forall_mem_cons.mpr ⟨s_goto (dd_X9_loads (69, .goto 18, 3) (List.mem_of_getElem? (i := 37) rfl)) (by decide), ?_⟩
  refine List.forall_mem_cons.mpr ⟨s_iload_n (dd_X9_loads (72, .iload_n 1, 1) (List.mem_of_getElem? (i := 38) rfl)) rfl, ?_⟩
  refine List.forall_mem_cons.mpr ⟨s_iconst (dd_X9_loads (73, .iconst (-1), 1) (List.mem_of_getElem? (i := 39) rfl)) rfl, ?_⟩
  refine List.forall_mem_cons.mpr ⟨s_icmp_ne (dd_X9_loads (74, .if_icmp .ne 7, 3) (List.mem_of_getElem? (i := 40) rfl)) (by decide), ?_⟩
  refine List.forall_mem_cons.mpr ⟨s_iload_n (dd_X9_loads (77, .iload_n 2, 1) (List.mem_of_getElem? (i := 41) rfl)) rfl, ?_⟩
  refine List.forall_mem_cons.mpr ⟨s_goto (dd_X9_loads (78, .goto 9, 3) (List.mem_of_getElem? (i := 42) rfl)) (by decide), ?_⟩
  refine List.forall_mem_cons.mpr ⟨s_aload_n (dd_X9_loads (81, .aload_n 0, 1) (List.mem_of_getElem? (i := 43) rfl)) rfl, ?_⟩
  refine List.forall_mem_cons.mpr ⟨s_getR (k := 29) K9 (by decide) (dd_X9_loads (82, .getfield 56, 3) (List.mem_of_getElem? (i := 44) rfl)) ow_X9_loads fl9_56 rfl, ?_⟩
  refine List.forall_mem_cons.mpr ⟨s_iload_n (dd_X9_loads (85, .iload_n 1, 1) (List.mem_of_getElem? (i := 45) rfl)) rfl, ?_⟩
  refine List.forall_mem_cons.mpr ⟨s_iald (dd_X9_loads (86, .iaload, 1) (List.mem_of_getElem? (i := 46) rfl)), ?_⟩
  refine List.forall_mem_cons.mpr ⟨Or.inr (Or.inl ⟨rfl, (dd_X9_loads (87, .ireturn, 1) (List.mem_of_getElem? (i := 47) rfl)), rfl⟩), ?_⟩
  exact fun _ h => absurd h List.not_mem_nil
theorem ow_X9_fair : (mtJ 168).1.cls = "SatchelSinsModel" := rfl
def D_X9_fair : List (Nat × Instr × Nat) := [(0, .iload_n 1, 1), (1, .iconst (-1), 1), (2, .if_icmp .eq 14, 3), (5, .aload_n 0, 1), (6, .iload_n 1, 1), (7, .invokevirtual 209, 3), (10, .ifCond .ne 6, 3), (13, .ldc 205, 2), (15, .ireturn, 1), (16, .aload_n 0, 1), (17, .getfield 91, 3), (20, .ifCond .ne 5, 3), (23, .iconst (-1), 1), (24, .ireturn, 1), (25, .ldc 253, 2), (27, .istore_n 2, 1), (28, .iconst 0, 1), (29, .istore_n 3, 1), (30, .iload_n 3, 1), (31, .aload_n 0, 1), (32, .invokevirtual 254, 3), (35, .if_icmp .ge 38, 3), (38, .aload_n 0, 1), (39, .iload_n 3, 1), (40, .invokevirtual 257, 3), (43, .istore 4, 2), (45, .iload 4, 2), (47, .ifCond .lt 20, 3), (50, .aload_n 0, 1), (51, .invokevirtual 267, 3), (54, .iload_n 2, 1), (55, .if_icmp .ge 12, 3), (58, .aload_n 0, 1), (59, .invokevirtual 267, 3), (62, .istore_n 2, 1), (63, .aload_n 0, 1), (64, .invokevirtual 264, 3), (67, .iinc 3 1, 3), (70, .goto (-40), 3), (73, .iload_n 1, 1), (74, .iconst (-1), 1), (75, .if_icmp .ne 7, 3), (78, .iload_n 2, 1), (79, .goto 9, 3), (82, .aload_n 0, 1), (83, .getfield 56, 3), (86, .iload_n 1, 1), (87, .iaload, 1), (88, .ireturn, 1)]
theorem dd_X9_fair : ∀ e ∈ D_X9_fair, decode (mtJ 168).2.1 e.1 = .ok e.2 := by decide +kernel
set_option maxRecDepth 10000 in
theorem so_X9_fair : ∀ e ∈ o_X9_fair, SndO 168 e.1 e.2 := by
  refine List.forall_mem_cons.mpr ⟨s_iload_n (dd_X9_fair (0, .iload_n 1, 1) (List.mem_of_getElem? (i := 0) rfl)) rfl, ?_⟩
  refine List.forall_mem_cons.mpr ⟨s_iconst (dd_X9_fair (1, .iconst (-1), 1) (List.mem_of_getElem? (i := 1) rfl)) rfl, ?_⟩
  refine List.forall_mem_cons.mpr ⟨s_icmp_eq (dd_X9_fair (2, .if_icmp .eq 14, 3) (List.mem_of_getElem? (i := 2) rfl)) (by decide), ?_⟩
  refine List.forall_mem_cons.mpr ⟨s_aload_n (dd_X9_fair (5, .aload_n 0, 1) (List.mem_of_getElem? (i := 3) rfl)) rfl, ?_⟩
  refine List.forall_mem_cons.mpr ⟨s_iload_n (dd_X9_fair (6, .iload_n 1, 1) (List.mem_of_getElem? (i := 4) rfl)) rfl, ?_⟩
  refine List.forall_mem_cons.mpr ⟨⟨s_callV (ci := 9) rfl mo121 rfl rfl (dd_X9_fair (7, .invokevirtual 209, 3) (List.mem_of_getElem? (i := 5) rfl)) ow_X9_fair ml9_209 mi121 msl121 in_9 mn121, mo121⟩, ?_⟩
  refine List.forall_mem_cons.mpr ⟨s_if_ne (dd_X9_fair (10, .ifCond .ne 6, 3) (List.mem_of_getElem? (i := 6) rfl)) (by decide), ?_⟩
  refine List.forall_mem_cons.mpr ⟨s_ldc (dd_X9_fair (13, .ldc 205, 2) (List.mem_of_getElem? (i := 7) rfl)) ow_X9_fair ki9_205, ?_⟩
  refine List.forall_mem_cons.mpr ⟨Or.inr (Or.inl ⟨rfl, (dd_X9_fair (15, .ireturn, 1) (List.mem_of_getElem? (i := 8) rfl)), rfl⟩), ?_⟩
  refine List.forall_mem_cons.mpr ⟨s_aload_n (dd_X9_fair (16, .aload_n 0, 1) (List.mem_of_getElem? (i := 9) rfl)) rfl, ?_⟩
  refine List.forall_mem_cons.mpr ⟨s_getI (k := 2) K9 (by decide) (dd_X9_fair (17, .getfield 91, 3) (List.mem_of_getElem? (i := 10) rfl)) ow_X9_fair fl9_91 rfl, ?_⟩
  refine List.forall_mem_cons.mpr ⟨s_if_ne (dd_X9_fair (20, .ifCond .ne 5, 3) (List.mem_of_getElem? (i := 11) rfl)) (by decide), ?_⟩
  refine List.forall_mem_cons.mpr ⟨s_iconst (dd_X9_fair (23, .iconst (-1), 1) (List.mem_of_getElem? (i := 12) rfl)) rfl, ?_⟩
  refine List.forall_mem_cons.mpr ⟨Or.inr (Or.inl ⟨rfl, (dd_X9_fair (24, .ireturn, 1) (List.mem_of_getElem? (i := 13) rfl)), rfl⟩), ?_⟩
  refine List.forall_mem_cons.mpr ⟨s_ldc (dd_X9_fair (25, .ldc 253, 2) (List.mem_of_getElem? (i := 14) rfl)) ow_X9_fair ki9_253, ?_⟩
  refine List.forall_mem_cons.mpr ⟨s_istore_n (dd_X9_fair (27, .istore_n 2, 1) (List.mem_of_getElem? (i := 15) rfl)) rfl, ?_⟩
  refine List.forall_mem_cons.mpr ⟨s_iconst (dd_X9_fair (28, .iconst 0, 1) (List.mem_of_getElem? (i := 16) rfl)) rfl, ?_⟩
  refine List.forall_mem_cons.mpr ⟨s_istore_n (dd_X9_fair (29, .istore_n 3, 1) (List.mem_of_getElem? (i := 17) rfl)) rfl, ?_⟩
  refine List.forall_mem_cons.mpr ⟨s_iload_n (dd_X9_fair (30, .iload_n 3, 1) (List.mem_of_getElem? (i := 18) rfl)) rfl, ?_⟩
  refine List.forall_mem_cons.mpr ⟨s_aload_n (dd_X9_fair (31, .aload_n 0, 1) (List.mem_of_getElem? (i := 19) rfl)) rfl, ?_⟩
  refine List.forall_mem_cons.mpr ⟨⟨s_callV (ci := 9) rfl mo162 rfl rfl (dd_X9_fair (32, .invokevirtual 254, 3) (List.mem_of_getElem? (i := 20) rfl)) ow_X9_fair ml9_254 mi162 msl162 in_9 mn162, mo162⟩, ?_⟩
  refine List.forall_mem_cons.mpr ⟨s_icmp_ge (dd_X9_fair (35, .if_icmp .ge 38, 3) (List.mem_of_getElem? (i := 21) rfl)) (by decide), ?_⟩
  refine List.forall_mem_cons.mpr ⟨s_aload_n (dd_X9_fair (38, .aload_n 0, 1) (List.mem_of_getElem? (i := 22) rfl)) rfl, ?_⟩
  refine List.forall_mem_cons.mpr ⟨s_iload_n (dd_X9_fair (39, .iload_n 3, 1) (List.mem_of_getElem? (i := 23) rfl)) rfl, ?_⟩
  refine List.forall_mem_cons.mpr ⟨⟨s_callV (ci := 9) rfl mo163 rfl rfl (dd_X9_fair (40, .invokevirtual 257, 3) (List.mem_of_getElem? (i := 24) rfl)) ow_X9_fair ml9_257 mi163 msl163 in_9 mn163, mo163⟩, ?_⟩
  refine List.forall_mem_cons.mpr ⟨s_istore (dd_X9_fair (43, .istore 4, 2) (List.mem_of_getElem? (i := 25) rfl)), ?_⟩
  refine List.forall_mem_cons.mpr ⟨s_iload (dd_X9_fair (45, .iload 4, 2) (List.mem_of_getElem? (i := 26) rfl)), ?_⟩
  refine List.forall_mem_cons.mpr ⟨s_if_lt (dd_X9_fair (47, .ifCond .lt 20, 3) (List.mem_of_getElem? (i := 27) rfl)) (by decide), ?_⟩
  refine List.forall_mem_cons.mpr ⟨s_aload_n (dd_X9_fair (50, .aload_n 0, 1) (List.mem_of_getElem? (i := 28) rfl)) rfl, ?_⟩
  refine List.forall_mem_cons.mpr ⟨⟨s_callV (ci := 9) rfl mo165 rfl rfl (dd_X9_fair (51, .invokevirtual 267, 3) (List.mem_of_getElem? (i := 29) rfl)) ow_X9_fair ml9_267 mi165 msl165 in_9 mn165, mo165⟩, ?_⟩
  refine List.forall_mem_cons.mpr ⟨s_iload_n (dd_X9_fair (54, .iload_n 2, 1) (List.mem_of_getElem? (i := 30) rfl)) rfl, ?_⟩
  refine List.forall_mem_cons.mpr ⟨s_icmp_ge (dd_X9_fair (55, .if_icmp .ge 12, 3) (List.mem_of_getElem? (i := 31) rfl)) (by decide), ?_⟩
  refine List.forall_mem_cons.mpr ⟨s_aload_n (dd_X9_fair (58, .aload_n 0, 1) (List.mem_of_getElem? (i := 32) rfl)) rfl, ?_⟩
  refine List.forall_mem_cons.mpr ⟨⟨s_callV (ci := 9) rfl mo165 rfl rfl (dd_X9_fair (59, .invokevirtual 267, 3) (List.mem_of_getElem? (i := 33) rfl)) ow_X9_fair ml9_267 mi165 msl165 in_9 mn165, mo165⟩, ?_⟩
  refine List.forall_mem_cons.mpr ⟨s_istore_n (dd_X9_fair (62, .istore_n 2, 1) (List.mem_of_getElem? (i := 34) rfl)) rfl, ?_⟩
  refine List.forall_mem_cons.mpr ⟨s_aload_n (dd_X9_fair (63, .aload_n 0, 1) (List.mem_of_getElem? (i := 35) rfl)) rfl, ?_⟩
  refine List.forall_mem_cons.mpr ⟨⟨s_callV (ci := 9) rfl mo166 rfl rfl (dd_X9_fair (64, .invokevirtual 264, 3) (List.mem_of_getElem? (i := 36) rfl)) ow_X9_fair ml9_264 mi166 msl166 in_9 mn166, mo166⟩, ?_⟩
  refine List.forall_mem_cons.mpr ⟨s_iinc (dd_X9_fair (67, .iinc 3 1, 3) (List.mem_of_getElem? (i := 37) rfl)) rfl, ?_⟩
  refine List.forall_mem_cons.mpr ⟨s_goto (dd_X9_fair (70, .goto (-40), 3) (List.mem_of_getElem? (i := 38) rfl)) (by decide), ?_⟩
  refine List.forall_mem_cons.mpr ⟨s_iload_n (dd_X9_fair (73, .iload_n 1, 1) (List.mem_of_getElem? (i := 39) rfl)) rfl, ?_⟩
  refine List.forall_mem_cons.mpr ⟨s_iconst (dd_X9_fair (74, .iconst (-1), 1) (List.mem_of_getElem? (i := 40) rfl)) rfl, ?_⟩
  refine List.forall_mem_cons.mpr ⟨s_icmp_ne (dd_X9_fair (75, .if_icmp .ne 7, 3) (List.mem_of_getElem? (i := 41) rfl)) (by decide), ?_⟩
  refine List.forall_mem_cons.mpr ⟨s_iload_n (dd_X9_fair (78, .iload_n 2, 1) (List.mem_of_getElem? (i := 42) rfl)) rfl, ?_⟩
  refine List.forall_mem_cons.mpr ⟨s_goto (dd_X9_fair (79, .goto 9, 3) (List.mem_of_getElem? (i := 43) rfl)) (by decide), ?_⟩
  refine List.forall_mem_cons.mpr ⟨s_aload_n (dd_X9_fair (82, .aload_n 0, 1) (List.mem_of_getElem? (i := 44) rfl)) rfl, ?_⟩
  refine List.forall_mem_cons.mpr ⟨s_getR (k := 29) K9 (by decide) (dd_X9_fair (83, .getfield 56, 3) (List.mem_of_getElem? (i := 45) rfl)) ow_X9_fair fl9_56 rfl, ?_⟩
  refine List.forall_mem_cons.mpr ⟨s_iload_n (dd_X9_fair (86, .iload_n 1, 1) (List.mem_of_getElem? (i := 46) rfl)) rfl, ?_⟩
  refine List.forall_mem_cons.mpr ⟨s_iald (dd_X9_fair (87, .iaload, 1) (List.mem_of_getElem? (i := 47) rfl)), ?_⟩
  refine List.forall_mem_cons.mpr ⟨Or.inr (Or.inl ⟨rfl, (dd_X9_fair (88, .ireturn, 1) (List.mem_of_getElem? (i := 48) rfl)), rfl⟩), ?_⟩
  exact fun _ h => absurd h List.not_mem_nil
theorem ow_X9_isLighter : (mtJ 169).1.cls = "SatchelSinsModel" := rfl
def D_X9_isLighter_1 : List (Nat × Instr × Nat) := [(0, .aload_n 0, 1), (1, .iload_n 1, 1), (2, .iload_n 2, 1), (3, .invokevirtual 220, 3), (6, .ifCond .ne 5, 3), (9, .iconst 0, 1), (10, .ireturn, 1), (11, .aload_n 0, 1), (12, .getfield 25, 3), (15, .bipush 7, 2), (17, .iload_n 1, 1), (18, .iadd, 1), (19, .iaload, 1), (20, .istore_n 3, 1), (21, .aload_n 0, 1), (22, .getfield 25, 3), (25, .bipush 7, 2), (27, .iload_n 2, 1), (28, .iadd, 1), (29, .iaload, 1), (30, .istore 4, 2), (32, .aload_n 0, 1), (33, .iload_n 3, 1), (34, .invokevirtual 182, 3), (37, .aload_n 0, 1), (38, .getfield 7, 3), (41, .iload_n 3, 1), (42, .iaload, 1), (43, .if_icmp .gt 19, 3), (46, .aload_n 0, 1), (47, .iload 4, 2), (49, .invokevirtual 182, 3), (52, .aload_n 0, 1), (53, .getfield 7, 3), (56, .iload 4, 2), (58, .iaload, 1), (59, .if_icmp .le 7, 3), (62, .iconst 1, 1), (63, .goto 4, 3), (66, .iconst 0, 1), (67, .istore 5, 2), (69, .aload_n 0, 1), (70, .iload_n 3, 1), (71, .invokevirtual 182, 3), (74, .aload_n 0, 1), (75, .getfield 22, 3), (78, .iload_n 1, 1), (79, .iaload, 1), (80, .isub, 1), (81, .aload_n 0, 1), (82, .getfield 22, 3), (85, .iload_n 2, 1), (86, .iaload, 1), (87, .iadd, 1), (88, .aload_n 0, 1), (89, .getfield 7, 3), (92, .iload_n 3, 1), (93, .iaload, 1), (94, .if_icmp .gt 33, 3), (97, .aload_n 0, 1)]
theorem dd_X9_isLighter_1 : ∀ e ∈ D_X9_isLighter_1, decode (mtJ 169).2.1 e.1 = .ok e.2 := by decide +kernel
set_option maxRecDepth 10000 in
theorem so_X9_isLighter_1 : ∀ e ∈ o_X9_isLighter_1, SndO 169 e.1 e.2 := by
  refine List.forall_mem_cons.mpr ⟨s_aload_n (dd_X9_isLighter_1 (0, .aload_n 0, 1) (List.mem_of_getElem? (i := 0) rfl)) rfl, ?_⟩
  refine List.forall_mem_cons.mpr ⟨s_iload_n (dd_X9_isLighter_1 (1, .iload_n 1, 1) (List.mem_of_getElem? (i := 1) rfl)) rfl, ?_⟩
  refine List.forall_mem_cons.mpr ⟨s_iload_n (dd_X9_isLighter_1 (2, .iload_n 2, 1) (List.mem_of_getElem? (i := 2) rfl)) rfl, ?_⟩
  refine List.forall_mem_cons.mpr ⟨⟨s_callV (ci := 9) rfl mo150 rfl rfl (dd_X9_isLighter_1 (3, .invokevirtual 220, 3) (List.mem_of_getElem? (i := 3) rfl)) ow_X9_isLighter ml9_220 mi150 msl150 in_9 mn150, mo150⟩, ?_⟩
  refine List.forall_mem_cons.mpr ⟨s_if_ne (dd_X9_isLighter_1 (6, .ifCond .ne 5, 3) (List.mem_of_getElem? (i := 4) rfl)) (by decide), ?_⟩
  refine List.forall_mem_cons.mpr ⟨s_iconst (dd_X9_isLighter_1 (9, .iconst 0, 1) (List.mem_of_getElem? (i := 5) rfl)) rfl, ?_⟩
  refine List.forall_mem_cons.mpr ⟨Or.inr (Or.inr ⟨rfl, (dd_X9_isLighter_1 (10, .ireturn, 1) (List.mem_of_getElem? (i := 6) rfl)), rfl⟩), ?_⟩
  refine List.forall_mem_cons.mpr ⟨s_aload_n (dd_X9_isLighter_1 (11, .aload_n 0, 1) (List.mem_of_getElem? (i := 7) rfl)) rfl, ?_⟩
  refine List.forall_mem_cons.mpr ⟨s_getR (k := 9) K9 (by decide) (dd_X9_isLighter_1 (12, .getfield 25, 3) (List.mem_of_getElem? (i := 8) rfl)) ow_X9_isLighter fl9_25 rfl, ?_⟩
  refine List.forall_mem_cons.mpr ⟨s_bipush (dd_X9_isLighter_1 (15, .bipush 7, 2) (List.mem_of_getElem? (i := 9) rfl)) rfl, ?_⟩
  refine List.forall_mem_cons.mpr ⟨s_iload_n (dd_X9_isLighter_1 (17, .iload_n 1, 1) (List.mem_of_getElem? (i := 10) rfl)) rfl, ?_⟩
  refine List.forall_mem_cons.mpr ⟨s_iadd (dd_X9_isLighter_1 (18, .iadd, 1) (List.mem_of_getElem? (i := 11) rfl)), ?_⟩
  refine List.forall_mem_cons.mpr ⟨s_iald (dd_X9_isLighter_1 (19, .iaload, 1) (List.mem_of_getElem? (i := 12) rfl)), ?_⟩
  refine List.forall_mem_cons.mpr ⟨s_istore_n (dd_X9_isLighter_1 (20, .istore_n 3, 1) (List.mem_of_getElem? (i := 13) rfl)) rfl, ?_⟩
  refine List.forall_mem_cons.mpr ⟨s_aload_n (dd_X9_isLighter_1 (21, .aload_n 0, 1) (List.mem_of_getElem? (i := 14) rfl)) rfl, ?_⟩
  refine List.forall_mem_cons.mpr ⟨s_getR (k := 9) K9 (by decide) (dd_X9_isLighter_1 (22, .getfield 25, 3) (List.mem_of_getElem? (i := 15) rfl)) ow_X9_isLighter fl9_25 rfl, ?_⟩
  refine List.forall_mem_cons.mpr ⟨s_bipush (dd_X9_isLighter_1 (25, .bipush 7, 2) (List.mem_of_getElem? (i := 16) rfl)) rfl, ?_⟩
  refine List.forall_mem_cons.mpr ⟨s_iload_n (dd_X9_isLighter_1 (27, .iload_n 2, 1) (List.mem_of_getElem? (i := 17) rfl)) rfl, ?_⟩
  refine List.forall_mem_cons.mpr ⟨s_iadd (dd_X9_isLighter_1 (28, .iadd, 1) (List.mem_of_getElem? (i := 18) rfl)), ?_⟩
  refine List.forall_mem_cons.mpr ⟨s_iald (dd_X9_isLighter_1 (29, .iaload, 1) (List.mem_of_getElem? (i := 19) rfl)), ?_⟩
  refine List.forall_mem_cons.mpr ⟨s_istore (dd_X9_isLighter_1 (30, .istore 4, 2) (List.mem_of_getElem? (i := 20) rfl)), ?_⟩
  refine List.forall_mem_cons.mpr ⟨s_aload_n (dd_X9_isLighter_1 (32, .aload_n 0, 1) (List.mem_of_getElem? (i := 21) rfl)) rfl, ?_⟩
  refine List.forall_mem_cons.mpr ⟨s_iload_n (dd_X9_isLighter_1 (33, .iload_n 3, 1) (List.mem_of_getElem? (i := 22) rfl)) rfl, ?_⟩
  refine List.forall_mem_cons.mpr ⟨⟨s_callV (ci := 9) rfl mo137 rfl rfl (dd_X9_isLighter_1 (34, .invokevirtual 182, 3) (List.mem_of_getElem? (i := 23) rfl)) ow_X9_isLighter ml9_182 mi137 msl137 in_9 mn137, mo137⟩, ?_⟩
  refine List.forall_mem_cons.mpr ⟨s_aload_n (dd_X9_isLighter_1 (37, .aload_n 0, 1) (List.mem_of_getElem? (i := 24) rfl)) rfl, ?_⟩
  refine List.forall_mem_cons.mpr ⟨s_getR (k := 3) K9 (by decide) (dd_X9_isLighter_1 (38, .getfield 7, 3) (List.mem_of_getElem? (i := 25) rfl)) ow_X9_isLighter fl9_7 rfl, ?_⟩
  refine List.forall_mem_cons.mpr ⟨s_iload_n (dd_X9_isLighter_1 (41, .iload_n 3, 1) (List.mem_of_getElem? (i := 26) rfl)) rfl, ?_⟩
  refine List.forall_mem_cons.mpr ⟨s_iald (dd_X9_isLighter_1 (42, .iaload, 1) (List.mem_of_getElem? (i := 27) rfl)), ?_⟩
  refine List.forall_mem_cons.mpr ⟨s_icmp_gt (dd_X9_isLighter_1 (43, .if_icmp .gt 19, 3) (List.mem_of_getElem? (i := 28) rfl)) (by decide), ?_⟩
  refine List.forall_mem_cons.mpr ⟨s_aload_n (dd_X9_isLighter_1 (46, .aload_n 0, 1) (List.mem_of_getElem? (i := 29) rfl)) rfl, ?_⟩
  refine List.forall_mem_cons.mpr ⟨s_iload (dd_X9_isLighter_1 (47, .iload 4, 2) (List.mem_of_getElem? (i := 30) rfl)), ?_⟩
  refine List.forall_mem_cons.mpr ⟨⟨s_callV (ci := 9) rfl mo137 rfl rfl (dd_X9_isLighter_1 (49, .invokevirtual 182, 3) (List.mem_of_getElem? (i := 31) rfl)) ow_X9_isLighter ml9_182 mi137 msl137 in_9 mn137, mo137⟩, ?_⟩
  refine List.forall_mem_cons.mpr ⟨s_aload_n (dd_X9_isLighter_1 (52, .aload_n 0, 1) (List.mem_of_getElem? (i := 32) rfl)) rfl, ?_⟩
  refine List.forall_mem_cons.mpr ⟨s_getR (k := 3) K9 (by decide) (dd_X9_isLighter_1 (53, .getfield 7, 3) (List.mem_of_getElem? (i := 33) rfl)) ow_X9_isLighter fl9_7 rfl, ?_⟩
  refine List.forall_mem_cons.mpr ⟨s_iload (dd_X9_isLighter_1 (56, .iload 4, 2) (List.mem_of_getElem? (i := 34) rfl)), ?_⟩
  refine List.forall_mem_cons.mpr ⟨s_iald (dd_X9_isLighter_1 (58, .iaload, 1) (List.mem_of_getElem? (i := 35) rfl)), ?_⟩
  refine List.forall_mem_cons.mpr ⟨s_icmp_le (dd_X9_isLighter_1 (59, .if_icmp .le 7, 3) (List.mem_of_getElem? (i := 36) rfl)) (by decide), ?_⟩
  refine List.forall_mem_cons.mpr ⟨s_iconst (dd_X9_isLighter_1 (62, .iconst 1, 1) (List.mem_of_getElem? (i := 37) rfl)) rfl, ?_⟩
  refine List.forall_mem_cons.mpr ⟨s_goto (dd_X9_isLighter_1 (63, .goto 4, 3) (List.mem_of_getElem? (i := 38) rfl)) (by decide), ?_⟩
  refine List.forall_mem_cons.mpr ⟨s_iconst (dd_X9_isLighter_1 (66, .iconst 0, 1) (List.mem_of_getElem? (i := 39) rfl)) rfl, ?_⟩
  refine List.forall_mem_cons.mpr ⟨s_istore (dd_X9_isLighter_1 (67, .istore 5, 2) (List.mem_of_getElem? (i := 40) rfl)), ?_⟩
  refine List.forall_mem_cons.mpr ⟨s_aload_n (dd_X9_isLighter_1 (69, .aload_n 0, 1) (List.mem_of_getElem? (i := 41) rfl)) rfl, ?_⟩
  refine List.forall_mem_cons.mpr ⟨s_iload_n (dd_X9_isLighter_1 (70, .iload_n 3, 1) (List.mem_of_getElem? (i := 42) rfl)) rfl, ?_⟩
  refine List.forall_mem_cons.mpr ⟨⟨s_callV (ci := 9) rfl mo137 rfl rfl (dd_X9_isLighter_1 (71, .invokevirtual 182, 3) (List.mem_of_getElem? (i := 43) rfl)) ow_X9_isLighter ml9_182 mi137 msl137 in_9 mn137, mo137⟩, ?_⟩
  refine List.forall_mem_cons.mpr ⟨s_aload_n (dd_X9_isLighter_1 (74, .aload_n 0, 1) (List.mem_of_getElem? (i := 44) rfl)) rfl, ?_⟩
  refine List.forall_mem_cons.mpr ⟨s_getR (k := 8) K9 (by decide) (dd_X9_isLighter_1 (75, .getfield 22, 3) (List.mem_of_getElem? (i := 45) rfl)) ow_X9_isLighter fl9_22 rfl, ?_⟩
  refine List.forall_mem_cons.mpr ⟨s_iload_n (dd_X9_isLighter_1 (78, .iload_n 1, 1) (List.mem_of_getElem? (i := 46) rfl)) rfl, ?_⟩
  refine List.forall_mem_cons.mpr ⟨s_iald (dd_X9_isLighter_1 (79, .iaload, 1) (List.mem_of_getElem? (i := 47) rfl)), ?_⟩
  refine List.forall_mem_cons.mpr ⟨s_isub (dd_X9_isLighter_1 (80, .isub, 1) (List.mem_of_getElem? (i := 48) rfl)), ?_⟩
  refine List.forall_mem_cons.mpr ⟨s_aload_n (dd_X9_isLighter_1 (81, .aload_n 0, 1) (List.mem_of_getElem? (i := 49) rfl)) rfl, ?_⟩
  refine List.forall_mem_cons.mpr ⟨s_getR (k := 8) K9 (by decide) (dd_X9_isLighter_1 (82, .getfield 22, 3) (List.mem_of_getElem? (i := 50) rfl)) ow_X9_isLighter fl9_22 rfl, ?_⟩
  refine List.forall_mem_cons.mpr ⟨s_iload_n (dd_X9_isLighter_1 (85, .iload_n 2, 1) (List.mem_of_getElem? (i := 51) rfl)) rfl, ?_⟩
  refine List.forall_mem_cons.mpr ⟨s_iald (dd_X9_isLighter_1 (86, .iaload, 1) (List.mem_of_getElem? (i := 52) rfl)), ?_⟩
  refine List.forall_mem_cons.mpr ⟨s_iadd (dd_X9_isLighter_1 (87, .iadd, 1) (List.mem_of_getElem? (i := 53) rfl)), ?_⟩
  refine List.forall_mem_cons.mpr ⟨s_aload_n (dd_X9_isLighter_1 (88, .aload_n 0, 1) (List.mem_of_getElem? (i := 54) rfl)) rfl, ?_⟩
  refine List.forall_mem_cons.mpr ⟨s_getR (k := 3) K9 (by decide) (dd_X9_isLighter_1 (89, .getfield 7, 3) (List.mem_of_getElem? (i := 55) rfl)) ow_X9_isLighter fl9_7 rfl, ?_⟩
  refine List.forall_mem_cons.mpr ⟨s_iload_n (dd_X9_isLighter_1 (92, .iload_n 3, 1) (List.mem_of_getElem? (i := 56) rfl)) rfl, ?_⟩
  refine List.forall_mem_cons.mpr ⟨s_iald (dd_X9_isLighter_1 (93, .iaload, 1) (List.mem_of_getElem? (i := 57) rfl)), ?_⟩
  refine List.forall_mem_cons.mpr ⟨s_icmp_gt (dd_X9_isLighter_1 (94, .if_icmp .gt 33, 3) (List.mem_of_getElem? (i := 58) rfl)) (by decide), ?_⟩
  refine List.forall_mem_cons.mpr ⟨s_aload_n (dd_X9_isLighter_1 (97, .aload_n 0, 1) (List.mem_of_getElem? (i := 59) rfl)) rfl, ?_⟩
  exact fun _ h => absurd h List.not_mem_nil
def D_X9_isLighter_2 : List (Nat × Instr × Nat) := [(98, .iload 4, 2), (100, .invokevirtual 182, 3), (103, .aload_n 0, 1), (104, .getfield 22, 3), (107, .iload_n 2, 1), (108, .iaload, 1), (109, .isub, 1), (110, .aload_n 0, 1), (111, .getfield 22, 3), (114, .iload_n 1, 1), (115, .iaload, 1), (116, .iadd, 1), (117, .aload_n 0, 1), (118, .getfield 7, 3), (121, .iload 4, 2), (123, .iaload, 1), (124, .if_icmp .le 7, 3), (127, .iconst 1, 1), (128, .goto 4, 3), (131, .iconst 0, 1), (132, .istore 6, 2), (134, .iload 5, 2), (136, .ifCond .eq 12, 3), (139, .iload 6, 2), (141, .ifCond .ne 7, 3), (144, .iconst 1, 1), (145, .goto 4, 3), (148, .iconst 0, 1), (149, .ireturn, 1)]
theorem dd_X9_isLighter_2 : ∀ e ∈ D_X9_isLighter_2, decode (mtJ 169).2.1 e.1 = .ok e.2 := by decide +kernel
set_option maxRecDepth 10000 in
theorem so_X9_isLighter_2 : ∀ e ∈ o_X9_isLighter_2, SndO 169 e.1 e.2 := by
  refine List.forall_mem_cons.mpr ⟨s_iload (dd_X9_isLighter_2 (98, .iload 4, 2) (List.mem_of_getElem? (i := 0) rfl)), ?_⟩
  refine List.forall_mem_cons.mpr ⟨⟨s_callV (ci := 9) rfl mo137 rfl rfl (dd_X9_isLighter_2 (100, .invokevirtual 182, 3) (List.mem_of_getElem? (i := 1) rfl)) ow_X9_isLighter ml9_182 mi137 msl137 in_9 mn137, mo137⟩, ?_⟩
  refine List.forall_mem_cons.mpr ⟨s_aload_n (dd_X9_isLighter_2 (103, .aload_n 0, 1) (List.mem_of_getElem? (i := 2) rfl)) rfl, ?_⟩
  refine List.forall_mem_cons.mpr ⟨s_getR (k := 8) K9 (by decide) (dd_X9_isLighter_2 (104, .getfield 22, 3) (List.mem_of_getElem? (i := 3) rfl)) ow_X9_isLighter fl9_22 rfl, ?_⟩
  refine List.forall_mem_cons.mpr ⟨s_iload_n (dd_X9_isLighter_2 (107, .iload_n 2, 1) (List.mem_of_getElem? (i := 4) rfl)) rfl, ?_⟩
  refine List.forall_mem_cons.mpr ⟨s_iald (dd_X9_isLighter_2 (108, .iaload, 1) (List.mem_of_getElem? (i := 5) rfl)), ?_⟩
  refine List.forall_mem_cons.mpr ⟨s_isub (dd_X9_isLighter_2 (109, .isub, 1) (List.mem_of_getElem? (i := 6) rfl)), ?_⟩
  refine List.forall_mem_cons.mpr ⟨s_aload_n (dd_X9_isLighter_2 (110, .aload_n 0, 1) (List.mem_of_getElem? (i := 7) rfl)) rfl, ?_⟩
  refine List.forall_mem_cons.mpr ⟨s_getR (k := 8) K9 (by decide) (dd_X9_isLighter_2 (111, .getfield 22, 3) (List.mem_of_getElem? (i := 8) rfl)) ow_X9_isLighter fl9_22 rfl, ?_⟩
  refine List.forall_mem_cons.mpr ⟨s_iload_n (dd_X9_isLighter_2 (114, .iload_n 1, 1) (List.mem_of_getElem? (i := 9) rfl)) rfl, ?_⟩
  refine List.forall_mem_cons.mpr ⟨s_iald (dd_X9_isLighter_2 (115, .iaload, 1) (List.mem_of_getElem? (i := 10) rfl)), ?_⟩
  refine List.forall_mem_cons.mpr ⟨s_iadd (dd_X9_isLighter_2 (116, .iadd, 1) (List.mem_of_getElem? (i := 11) rfl)), ?_⟩
  refine List.forall_mem_cons.mpr ⟨s_aload_n (dd_X9_isLighter_2 (117, .aload_n 0, 1) (List.mem_of_getElem? (i := 12) rfl)) rfl, ?_⟩
  refine List.forall_mem_cons.mpr ⟨s_getR (k := 3) K9 (by decide) (dd_X9_isLighter_2 (118, .getfield 7, 3) (List.mem_of_getElem? (i := 13) rfl)) ow_X9_isLighter fl9_7 rfl, ?_⟩
  refine List.forall_mem_cons.mpr ⟨s_iload (dd_X9_isLighter_2 (121, .iload 4, 2) (List.mem_of_getElem? (i := 14) rfl)), ?_⟩
  refine List.forall_mem_cons.mpr ⟨s_iald (dd_X9_isLighter_2 (123, .iaload, 1) (List.mem_of_getElem? (i := 15) rfl)), ?_⟩
  refine List.forall_mem_cons.mpr ⟨s_icmp_le (dd_X9_isLighter_2 (124, .if_icmp .le 7, 3) (List.mem_of_getElem? (i := 16) rfl)) (by decide), ?_⟩
  refine List.forall_mem_cons.mpr ⟨s_iconst (dd_X9_isLighter_2 (127, .iconst 1, 1) (List.mem_of_getElem? (i := 17) rfl)) rfl, ?_⟩
  refine List.forall_mem_cons.mpr ⟨s_goto (dd_X9_isLighter_2 (128, .goto 4, 3) (List.mem_of_getElem? (i := 18) rfl)) (by decide), ?_⟩
  refine List.forall_mem_cons.mpr ⟨s_iconst (dd_X9_isLighter_2 (131, .iconst 0, 1) (List.mem_of_getElem? (i := 19) rfl)) rfl, ?_⟩
  refine List.forall_mem_cons.mpr ⟨s_istore (dd_X9_isLighter_2 (132, .istore 6, 2) (List.mem_of_getElem? (i := 20) rfl)), ?_⟩
  refine List.forall_mem_cons.mpr ⟨s_iload (dd_X9_isLighter_2 (134, .iload 5, 2) (List.mem_of_getElem? (i := 21) rfl)), ?_⟩
  refine List.forall_mem_cons.mpr ⟨s_if_eq (dd_X9_isLighter_2 (136, .ifCond .eq 12, 3) (List.mem_of_getElem? (i := 22) rfl)) (by decide), ?_⟩
  refine List.forall_mem_cons.mpr ⟨s_iload (dd_X9_isLighter_2 (139, .iload 6, 2) (List.mem_of_getElem? (i := 23) rfl)), ?_⟩
  refine List.forall_mem_cons.mpr ⟨s_if_ne (dd_X9_isLighter_2 (141, .ifCond .ne 7, 3) (List.mem_of_getElem? (i := 24) rfl)) (by decide), ?_⟩
  refine List.forall_mem_cons.mpr ⟨s_iconst (dd_X9_isLighter_2 (144, .iconst 1, 1) (List.mem_of_getElem? (i := 25) rfl)) rfl, ?_⟩
  refine List.forall_mem_cons.mpr ⟨s_goto (dd_X9_isLighter_2 (145, .goto 4, 3) (List.mem_of_getElem? (i := 26) rfl)) (by decide), ?_⟩
  refine List.forall_mem_cons.mpr ⟨s_iconst (dd_X9_isLighter_2 (148, .iconst 0, 1) (List.mem_of_getElem? (i := 27) rfl)) rfl, ?_⟩
  refine List.forall_mem_cons.mpr ⟨Or.inr (Or.inr ⟨rfl, (dd_X9_isLighter_2 (149, .ireturn, 1) (List.mem_of_getElem? (i := 28) rfl)), rfl⟩), ?_⟩
  exact fun _ h => absurd h List.not_mem_nil
theorem so_X9_isLighter : ∀ e ∈ o_X9_isLighter, SndO 169 e.1 e.2 := List.forall_mem_append.mpr ⟨so_X9_isLighter_1, so_X9_isLighter_2⟩
theorem ow_X9_lighter : (mtJ 170).1.cls = "SatchelSinsModel" := rfl
def D_X9_lighter : List (Nat × Instr × Nat) := [(0, .iconst 0, 1), (1, .istore_n 2, 1), (2, .iconst 0, 1), (3, .istore_n 3, 1), (4, .iload_n 3, 1), (5, .bipush 49, 2), (7, .if_icmp .ge 65, 3), (10, .iload_n 3, 1), (11, .bipush 7, 2), (13, .idiv, 1), (14, .istore 4, 2), (16, .iload_n 3, 1), (17, .bipush 7, 2), (19, .irem, 1), (20, .istore 5, 2), (22, .iload 4, 2), (24, .iload 5, 2), (26, .if_icmp .ge 40, 3), (29, .iload 5, 2), (31, .aload_n 0, 1), (32, .getfield 98, 3), (35, .if_icmp .ge 31, 3), (38, .aload_n 0, 1), (39, .iload 4, 2), (41, .iload 5, 2), (43, .invokevirtual 270, 3), (46, .ifCond .eq 20, 3), (49, .iload_n 2, 1), (50, .iload_n 1, 1), (51, .if_icmp .ne 12, 3), (54, .bipush 10, 2), (56, .iload 4, 2), (58, .imul, 1), (59, .iload 5, 2), (61, .iadd, 1), (62, .ireturn, 1), (63, .iinc 2 1, 3), (66, .iinc 3 1, 3), (69, .goto (-65), 3), (72, .iload_n 1, 1), (73, .iconst (-1), 1), (74, .if_icmp .ne 7, 3), (77, .iload_n 2, 1), (78, .goto 4, 3), (81, .iconst (-1), 1), (82, .ireturn, 1)]
theorem dd_X9_lighter : ∀ e ∈ D_X9_lighter, decode (mtJ 170).2.1 e.1 = .ok e.2 := by decide +kernel
set_option maxRecDepth 10000 in
theorem so_X9_lighter : ∀ e ∈ o_X9_lighter, SndO 170 e.1 e.2 := by
  refine List.forall_mem_cons.mpr ⟨s_iconst (dd_X9_lighter (0, .iconst 0, 1) (List.mem_of_getElem? (i := 0) rfl)) rfl, ?_⟩
  refine List.forall_mem_cons.mpr ⟨s_istore_n (dd_X9_lighter (1, .istore_n 2, 1) (List.mem_of_getElem? (i := 1) rfl)) rfl, ?_⟩
  refine List.forall_mem_cons.mpr ⟨s_iconst (dd_X9_lighter (2, .iconst 0, 1) (List.mem_of_getElem? (i := 2) rfl)) rfl, ?_⟩
  refine List.forall_mem_cons.mpr ⟨s_istore_n (dd_X9_lighter (3, .istore_n 3, 1) (List.mem_of_getElem? (i := 3) rfl)) rfl, ?_⟩
  refine List.forall_mem_cons.mpr ⟨s_iload_n (dd_X9_lighter (4, .iload_n 3, 1) (List.mem_of_getElem? (i := 4) rfl)) rfl, ?_⟩
  refine List.forall_mem_cons.mpr ⟨s_bipush (dd_X9_lighter (5, .bipush 49, 2) (List.mem_of_getElem? (i := 5) rfl)) rfl, ?_⟩
  refine List.forall_mem_cons.mpr ⟨s_icmp_ge (dd_X9_lighter (7, .if_icmp .ge 65, 3) (List.mem_of_getElem? (i := 6) rfl)) (by decide), ?_⟩
  refine List.forall_mem_cons.mpr ⟨s_iload_n (dd_X9_lighter (10, .iload_n 3, 1) (List.mem_of_getElem? (i := 7) rfl)) rfl, ?_⟩
  refine List.forall_mem_cons.mpr ⟨s_bipush (dd_X9_lighter (11, .bipush 7, 2) (List.mem_of_getElem? (i := 8) rfl)) rfl, ?_⟩
  refine List.forall_mem_cons.mpr ⟨s_idiv (dd_X9_lighter (13, .idiv, 1) (List.mem_of_getElem? (i := 9) rfl)), ?_⟩
  refine List.forall_mem_cons.mpr ⟨s_istore (dd_X9_lighter (14, .istore 4, 2) (List.mem_of_getElem? (i := 10) rfl)), ?_⟩
  refine List.forall_mem_cons.mpr ⟨s_iload_n (dd_X9_lighter (16, .iload_n 3, 1) (List.mem_of_getElem? (i := 11) rfl)) rfl, ?_⟩
  refine List.forall_mem_cons.mpr ⟨s_bipush (dd_X9_lighter (17, .bipush 7, 2) (List.mem_of_getElem? (i := 12) rfl)) rfl, ?_⟩
  refine List.forall_mem_cons.mpr ⟨s_irem (dd_X9_lighter (19, .irem, 1) (List.mem_of_getElem? (i := 13) rfl)), ?_⟩
  refine List.forall_mem_cons.mpr ⟨s_istore (dd_X9_lighter (20, .istore 5, 2) (List.mem_of_getElem? (i := 14) rfl)), ?_⟩
  refine List.forall_mem_cons.mpr ⟨s_iload (dd_X9_lighter (22, .iload 4, 2) (List.mem_of_getElem? (i := 15) rfl)), ?_⟩
  refine List.forall_mem_cons.mpr ⟨s_iload (dd_X9_lighter (24, .iload 5, 2) (List.mem_of_getElem? (i := 16) rfl)), ?_⟩
  refine List.forall_mem_cons.mpr ⟨s_icmp_ge (dd_X9_lighter (26, .if_icmp .ge 40, 3) (List.mem_of_getElem? (i := 17) rfl)) (by decide), ?_⟩
  refine List.forall_mem_cons.mpr ⟨s_iload (dd_X9_lighter (29, .iload 5, 2) (List.mem_of_getElem? (i := 18) rfl)), ?_⟩
  refine List.forall_mem_cons.mpr ⟨s_aload_n (dd_X9_lighter (31, .aload_n 0, 1) (List.mem_of_getElem? (i := 19) rfl)) rfl, ?_⟩
  refine List.forall_mem_cons.mpr ⟨s_getI (k := 6) K9 (by decide) (dd_X9_lighter (32, .getfield 98, 3) (List.mem_of_getElem? (i := 20) rfl)) ow_X9_lighter fl9_98 rfl, ?_⟩
  refine List.forall_mem_cons.mpr ⟨s_icmp_ge (dd_X9_lighter (35, .if_icmp .ge 31, 3) (List.mem_of_getElem? (i := 21) rfl)) (by decide), ?_⟩
  refine List.forall_mem_cons.mpr ⟨s_aload_n (dd_X9_lighter (38, .aload_n 0, 1) (List.mem_of_getElem? (i := 22) rfl)) rfl, ?_⟩
  refine List.forall_mem_cons.mpr ⟨s_iload (dd_X9_lighter (39, .iload 4, 2) (List.mem_of_getElem? (i := 23) rfl)), ?_⟩
  refine List.forall_mem_cons.mpr ⟨s_iload (dd_X9_lighter (41, .iload 5, 2) (List.mem_of_getElem? (i := 24) rfl)), ?_⟩
  refine List.forall_mem_cons.mpr ⟨⟨s_callV (ci := 9) rfl mo169 rfl rfl (dd_X9_lighter (43, .invokevirtual 270, 3) (List.mem_of_getElem? (i := 25) rfl)) ow_X9_lighter ml9_270 mi169 msl169 in_9 mn169, mo169⟩, ?_⟩
  refine List.forall_mem_cons.mpr ⟨s_if_eq (dd_X9_lighter (46, .ifCond .eq 20, 3) (List.mem_of_getElem? (i := 26) rfl)) (by decide), ?_⟩
  refine List.forall_mem_cons.mpr ⟨s_iload_n (dd_X9_lighter (49, .iload_n 2, 1) (List.mem_of_getElem? (i := 27) rfl)) rfl, ?_⟩
  refine List.forall_mem_cons.mpr ⟨s_iload_n (dd_X9_lighter (50, .iload_n 1, 1) (List.mem_of_getElem? (i := 28) rfl)) rfl, ?_⟩
  refine List.forall_mem_cons.mpr ⟨s_icmp_ne (dd_X9_lighter (51, .if_icmp .ne 12, 3) (List.mem_of_getElem? (i := 29) rfl)) (by decide), ?_⟩
  refine List.forall_mem_cons.mpr ⟨s_bipush (dd_X9_lighter (54, .bipush 10, 2) (List.mem_of_getElem? (i := 30) rfl)) rfl, ?_⟩
  refine List.forall_mem_cons.mpr ⟨s_iload (dd_X9_lighter (56, .iload 4, 2) (List.mem_of_getElem? (i := 31) rfl)), ?_⟩
  refine List.forall_mem_cons.mpr ⟨s_imul (dd_X9_lighter (58, .imul, 1) (List.mem_of_getElem? (i := 32) rfl)), ?_⟩
  refine List.forall_mem_cons.mpr ⟨s_iload (dd_X9_lighter (59, .iload 5, 2) (List.mem_of_getElem? (i := 33) rfl)), ?_⟩
  refine List.forall_mem_cons.mpr ⟨s_iadd (dd_X9_lighter (61, .iadd, 1) (List.mem_of_getElem? (i := 34) rfl)), ?_⟩
  refine List.forall_mem_cons.mpr ⟨Or.inr (Or.inl ⟨rfl, (dd_X9_lighter (62, .ireturn, 1) (List.mem_of_getElem? (i := 35) rfl)), rfl⟩), ?_⟩
  refine List.forall_mem_cons.mpr ⟨s_iinc (dd_X9_lighter (63, .iinc 2 1, 3) (List.mem_of_getElem? (i := 36) rfl)) rfl, ?_⟩
  refine List.forall_mem_cons.mpr ⟨s_iinc (dd_X9_lighter (66, .iinc 3 1, 3) (List.mem_of_getElem? (i := 37) rfl)) rfl, ?_⟩
  refine List.forall_mem_cons.mpr ⟨s_goto (dd_X9_lighter (69, .goto (-65), 3) (List.mem_of_getElem? (i := 38) rfl)) (by decide), ?_⟩
  refine List.forall_mem_cons.mpr ⟨s_iload_n (dd_X9_lighter (72, .iload_n 1, 1) (List.mem_of_getElem? (i := 39) rfl)) rfl, ?_⟩
  refine List.forall_mem_cons.mpr ⟨s_iconst (dd_X9_lighter (73, .iconst (-1), 1) (List.mem_of_getElem? (i := 40) rfl)) rfl, ?_⟩
  refine List.forall_mem_cons.mpr ⟨s_icmp_ne (dd_X9_lighter (74, .if_icmp .ne 7, 3) (List.mem_of_getElem? (i := 41) rfl)) (by decide), ?_⟩
  refine List.forall_mem_cons.mpr ⟨s_iload_n (dd_X9_lighter (77, .iload_n 2, 1) (List.mem_of_getElem? (i := 42) rfl)) rfl, ?_⟩
  refine List.forall_mem_cons.mpr ⟨s_goto (dd_X9_lighter (78, .goto 4, 3) (List.mem_of_getElem? (i := 43) rfl)) (by decide), ?_⟩
  refine List.forall_mem_cons.mpr ⟨s_iconst (dd_X9_lighter (81, .iconst (-1), 1) (List.mem_of_getElem? (i := 44) rfl)) rfl, ?_⟩
  refine List.forall_mem_cons.mpr ⟨Or.inr (Or.inl ⟨rfl, (dd_X9_lighter (82, .ireturn, 1) (List.mem_of_getElem? (i := 45) rfl)), rfl⟩), ?_⟩
  exact fun _ h => absurd h List.not_mem_nil
theorem ow_X9_weightOf : (mtJ 171).1.cls = "SatchelSinsModel" := rfl
def D_X9_weightOf : List (Nat × Instr × Nat) := [(0, .iconst 0, 1), (1, .istore_n 2, 1), (2, .iconst 0, 1), (3, .istore_n 3, 1), (4, .iload_n 3, 1), (5, .aload_n 0, 1), (6, .getfield 98, 3), (9, .if_icmp .ge 30, 3), (12, .iload_n 2, 1), (13, .iload_n 1, 1), (14, .iload_n 3, 1), (15, .invokestatic 273, 3), (18, .ifCond .eq 12, 3), (21, .aload_n 0, 1), (22, .getfield 22, 3), (25, .iload_n 3, 1), (26, .iaload, 1), (27, .goto 4, 3), (30, .iconst 0, 1), (31, .iadd, 1), (32, .istore_n 2, 1), (33, .iinc 3 1, 3), (36, .goto (-32), 3), (39, .iload_n 2, 1), (40, .ireturn, 1)]
theorem dd_X9_weightOf : ∀ e ∈ D_X9_weightOf, decode (mtJ 171).2.1 e.1 = .ok e.2 := by decide +kernel
set_option maxRecDepth 10000 in
theorem so_X9_weightOf : ∀ e ∈ o_X9_weightOf, SndO 171 e.1 e.2 := by
  refine List.forall_mem_cons.mpr ⟨s_iconst (dd_X9_weightOf (0, .iconst 0, 1) (List.mem_of_getElem? (i := 0) rfl)) rfl, ?_⟩
  refine List.forall_mem_cons.mpr ⟨s_istore_n (dd_X9_weightOf (1, .istore_n 2, 1) (List.mem_of_getElem? (i := 1) rfl)) rfl, ?_⟩
  refine List.forall_mem_cons.mpr ⟨s_iconst (dd_X9_weightOf (2, .iconst 0, 1) (List.mem_of_getElem? (i := 2) rfl)) rfl, ?_⟩
  refine List.forall_mem_cons.mpr ⟨s_istore_n (dd_X9_weightOf (3, .istore_n 3, 1) (List.mem_of_getElem? (i := 3) rfl)) rfl, ?_⟩
  refine List.forall_mem_cons.mpr ⟨s_iload_n (dd_X9_weightOf (4, .iload_n 3, 1) (List.mem_of_getElem? (i := 4) rfl)) rfl, ?_⟩
  refine List.forall_mem_cons.mpr ⟨s_aload_n (dd_X9_weightOf (5, .aload_n 0, 1) (List.mem_of_getElem? (i := 5) rfl)) rfl, ?_⟩
  refine List.forall_mem_cons.mpr ⟨s_getI (k := 6) K9 (by decide) (dd_X9_weightOf (6, .getfield 98, 3) (List.mem_of_getElem? (i := 6) rfl)) ow_X9_weightOf fl9_98 rfl, ?_⟩
  refine List.forall_mem_cons.mpr ⟨s_icmp_ge (dd_X9_weightOf (9, .if_icmp .ge 30, 3) (List.mem_of_getElem? (i := 7) rfl)) (by decide), ?_⟩
  refine List.forall_mem_cons.mpr ⟨s_iload_n (dd_X9_weightOf (12, .iload_n 2, 1) (List.mem_of_getElem? (i := 8) rfl)) rfl, ?_⟩
  refine List.forall_mem_cons.mpr ⟨s_iload_n (dd_X9_weightOf (13, .iload_n 1, 1) (List.mem_of_getElem? (i := 9) rfl)) rfl, ?_⟩
  refine List.forall_mem_cons.mpr ⟨s_iload_n (dd_X9_weightOf (14, .iload_n 3, 1) (List.mem_of_getElem? (i := 10) rfl)) rfl, ?_⟩
  refine List.forall_mem_cons.mpr ⟨⟨s_callS mo119 rfl (dd_X9_weightOf (15, .invokestatic 273, 3) (List.mem_of_getElem? (i := 11) rfl)) ow_X9_weightOf ml9_273 ms119 mn119, mo119⟩, ?_⟩
  refine List.forall_mem_cons.mpr ⟨s_if_eq (dd_X9_weightOf (18, .ifCond .eq 12, 3) (List.mem_of_getElem? (i := 12) rfl)) (by decide), ?_⟩
  refine List.forall_mem_cons.mpr ⟨s_aload_n (dd_X9_weightOf (21, .aload_n 0, 1) (List.mem_of_getElem? (i := 13) rfl)) rfl, ?_⟩
  refine List.forall_mem_cons.mpr ⟨s_getR (k := 8) K9 (by decide) (dd_X9_weightOf (22, .getfield 22, 3) (List.mem_of_getElem? (i := 14) rfl)) ow_X9_weightOf fl9_22 rfl, ?_⟩
  refine List.forall_mem_cons.mpr ⟨s_iload_n (dd_X9_weightOf (25, .iload_n 3, 1) (List.mem_of_getElem? (i := 15) rfl)) rfl, ?_⟩
  refine List.forall_mem_cons.mpr ⟨s_iald (dd_X9_weightOf (26, .iaload, 1) (List.mem_of_getElem? (i := 16) rfl)), ?_⟩
  refine List.forall_mem_cons.mpr ⟨s_goto (dd_X9_weightOf (27, .goto 4, 3) (List.mem_of_getElem? (i := 17) rfl)) (by decide), ?_⟩
  refine List.forall_mem_cons.mpr ⟨s_iconst (dd_X9_weightOf (30, .iconst 0, 1) (List.mem_of_getElem? (i := 18) rfl)) rfl, ?_⟩
  refine List.forall_mem_cons.mpr ⟨s_iadd (dd_X9_weightOf (31, .iadd, 1) (List.mem_of_getElem? (i := 19) rfl)), ?_⟩
  refine List.forall_mem_cons.mpr ⟨s_istore_n (dd_X9_weightOf (32, .istore_n 2, 1) (List.mem_of_getElem? (i := 20) rfl)) rfl, ?_⟩
  refine List.forall_mem_cons.mpr ⟨s_iinc (dd_X9_weightOf (33, .iinc 3 1, 3) (List.mem_of_getElem? (i := 21) rfl)) rfl, ?_⟩
  refine List.forall_mem_cons.mpr ⟨s_goto (dd_X9_weightOf (36, .goto (-32), 3) (List.mem_of_getElem? (i := 22) rfl)) (by decide), ?_⟩
  refine List.forall_mem_cons.mpr ⟨s_iload_n (dd_X9_weightOf (39, .iload_n 2, 1) (List.mem_of_getElem? (i := 23) rfl)) rfl, ?_⟩
  refine List.forall_mem_cons.mpr ⟨Or.inr (Or.inl ⟨rfl, (dd_X9_weightOf (40, .ireturn, 1) (List.mem_of_getElem? (i := 24) rfl)), rfl⟩), ?_⟩
  exact fun _ h => absurd h List.not_mem_nil
theorem ow_X9_lookFor : (mtJ 172).1.cls = "SatchelSinsModel" := rfl
def D_X9_lookFor : List (Nat × Instr × Nat) := [(0, .iconst (-1), 1), (1, .istore_n 2, 1), (2, .iload_n 1, 1), (3, .istore_n 3, 1), (4, .iconst 0, 1), (5, .istore 4, 2), (7, .iload 4, 2), (9, .aload_n 0, 1), (10, .getfield 98, 3), (13, .if_icmp .ge 75, 3), (16, .aload_n 0, 1), (17, .getfield 62, 3), (20, .iload 4, 2), (22, .iaload, 1), (23, .iload_n 1, 1), (24, .aload_n 0, 1), (25, .getfield 62, 3), (28, .iload 4, 2), (30, .iaload, 1), (31, .isub, 1), (32, .if_icmp .le 13, 3), (35, .aload_n 0, 1), (36, .getfield 62, 3), (39, .iload 4, 2), (41, .iaload, 1), (42, .goto 12, 3), (45, .iload_n 1, 1), (46, .aload_n 0, 1), (47, .getfield 62, 3), (50, .iload 4, 2), (52, .iaload, 1), (53, .isub, 1), (54, .istore 5, 2), (56, .iload 5, 2), (58, .iload_n 3, 1), (59, .if_icmp .ge 8, 3), (62, .iload 4, 2), (64, .goto 4, 3), (67, .iload_n 2, 1), (68, .istore_n 2, 1), (69, .iload 5, 2), (71, .iload_n 3, 1), (72, .if_icmp .ge 8, 3), (75, .iload 5, 2), (77, .goto 4, 3), (80, .iload_n 3, 1), (81, .istore_n 3, 1), (82, .iinc 4 1, 3), (85, .goto (-78), 3), (88, .iload_n 2, 1), (89, .ireturn, 1)]
theorem dd_X9_lookFor : ∀ e ∈ D_X9_lookFor, decode (mtJ 172).2.1 e.1 = .ok e.2 := by decide +kernel
set_option maxRecDepth 10000 in
theorem so_X9_lookFor : ∀ e ∈ o_X9_lookFor, SndO 172 e.1 e.2 := by
  refine List.forall_mem_cons.mpr ⟨s_iconst (dd_X9_lookFor (0, .iconst (-1), 1) (List.mem_of_getElem? (i := 0) rfl)) rfl, ?_⟩
  refine List.forall_mem_cons.mpr ⟨s_istore_n (dd_X9_lookFor (1, .istore_n 2, 1) (List.mem_of_getElem? (i := 1) rfl)) rfl, ?_⟩
  refine List.forall_mem_cons.mpr ⟨s_iload_n (dd_X9_lookFor (2, .iload_n 1, 1) (List.mem_of_getElem? (i := 2) rfl)) rfl, ?_⟩
  refine List.forall_mem_cons.mpr ⟨s_istore_n (dd_X9_lookFor (3, .istore_n 3, 1) (List.mem_of_getElem? (i := 3) rfl)) rfl, ?_⟩
  refine List.forall_mem_cons.mpr ⟨s_iconst (dd_X9_lookFor (4, .iconst 0, 1) (List.mem_of_getElem? (i := 4) rfl)) rfl, ?_⟩
  refine List.forall_mem_cons.mpr ⟨s_istore (dd_X9_lookFor (5, .istore 4, 2) (List.mem_of_getElem? (i := 5) rfl)), ?_⟩
  refine List.forall_mem_cons.mpr ⟨s_iload (dd_X9_lookFor (7, .iload 4, 2) (List.mem_of_getElem? (i := 6) rfl)), ?_⟩
  refine List.forall_mem_cons.mpr ⟨s_aload_n (dd_X9_lookFor (9, .aload_n 0, 1) (List.mem_of_getElem? (i := 7) rfl)) rfl, ?_⟩
  refine List.forall_mem_cons.mpr ⟨s_getI (k := 6) K9 (by decide) (dd_X9_lookFor (10, .getfield 98, 3) (List.mem_of_getElem? (i := 8) rfl)) ow_X9_lookFor fl9_98 rfl, ?_⟩
  refine List.forall_mem_cons.mpr ⟨s_icmp_ge (dd_X9_lookFor (13, .if_icmp .ge 75, 3) (List.mem_of_getElem? (i := 9) rfl)) (by decide), ?_⟩
  refine List.forall_mem_cons.mpr ⟨s_aload_n (dd_X9_lookFor (16, .aload_n 0, 1) (List.mem_of_getElem? (i := 10) rfl)) rfl, ?_⟩
  refine List.forall_mem_cons.mpr ⟨s_getR (k := 31) K9 (by decide) (dd_X9_lookFor (17, .getfield 62, 3) (List.mem_of_getElem? (i := 11) rfl)) ow_X9_lookFor fl9_62 rfl, ?_⟩
  refine List.forall_mem_cons.mpr ⟨s_iload (dd_X9_lookFor (20, .iload 4, 2) (List.mem_of_getElem? (i := 12) rfl)), ?_⟩
  refine List.forall_mem_cons.mpr ⟨s_iald (dd_X9_lookFor (22, .iaload, 1) (List.mem_of_getElem? (i := 13) rfl)), ?_⟩
  refine List.forall_mem_cons.mpr ⟨s_iload_n (dd_X9_lookFor (23, .iload_n 1, 1) (List.mem_of_getElem? (i := 14) rfl)) rfl, ?_⟩
  refine List.forall_mem_cons.mpr ⟨s_aload_n (dd_X9_lookFor (24, .aload_n 0, 1) (List.mem_of_getElem? (i := 15) rfl)) rfl, ?_⟩
  refine List.forall_mem_cons.mpr ⟨s_getR (k := 31) K9 (by decide) (dd_X9_lookFor (25, .getfield 62, 3) (List.mem_of_getElem? (i := 16) rfl)) ow_X9_lookFor fl9_62 rfl, ?_⟩
  refine List.forall_mem_cons.mpr ⟨s_iload (dd_X9_lookFor (28, .iload 4, 2) (List.mem_of_getElem? (i := 17) rfl)), ?_⟩
  refine List.forall_mem_cons.mpr ⟨s_iald (dd_X9_lookFor (30, .iaload, 1) (List.mem_of_getElem? (i := 18) rfl)), ?_⟩
  refine List.forall_mem_cons.mpr ⟨s_isub (dd_X9_lookFor (31, .isub, 1) (List.mem_of_getElem? (i := 19) rfl)), ?_⟩
  refine List.forall_mem_cons.mpr ⟨s_icmp_le (dd_X9_lookFor (32, .if_icmp .le 13, 3) (List.mem_of_getElem? (i := 20) rfl)) (by decide), ?_⟩
  refine List.forall_mem_cons.mpr ⟨s_aload_n (dd_X9_lookFor (35, .aload_n 0, 1) (List.mem_of_getElem? (i := 21) rfl)) rfl, ?_⟩
  refine List.forall_mem_cons.mpr ⟨s_getR (k := 31) K9 (by decide) (dd_X9_lookFor (36, .getfield 62, 3) (List.mem_of_getElem? (i := 22) rfl)) ow_X9_lookFor fl9_62 rfl, ?_⟩
  refine List.forall_mem_cons.mpr ⟨s_iload (dd_X9_lookFor (39, .iload 4, 2) (List.mem_of_getElem? (i := 23) rfl)), ?_⟩
  refine List.forall_mem_cons.mpr ⟨s_iald (dd_X9_lookFor (41, .iaload, 1) (List.mem_of_getElem? (i := 24) rfl)), ?_⟩
  refine List.forall_mem_cons.mpr ⟨s_goto (dd_X9_lookFor (42, .goto 12, 3) (List.mem_of_getElem? (i := 25) rfl)) (by decide), ?_⟩
  refine List.forall_mem_cons.mpr ⟨s_iload_n (dd_X9_lookFor (45, .iload_n 1, 1) (List.mem_of_getElem? (i := 26) rfl)) rfl, ?_⟩
  refine List.forall_mem_cons.mpr ⟨s_aload_n (dd_X9_lookFor (46, .aload_n 0, 1) (List.mem_of_getElem? (i := 27) rfl)) rfl, ?_⟩
  refine List.forall_mem_cons.mpr ⟨s_getR (k := 31) K9 (by decide) (dd_X9_lookFor (47, .getfield 62, 3) (List.mem_of_getElem? (i := 28) rfl)) ow_X9_lookFor fl9_62 rfl, ?_⟩
  refine List.forall_mem_cons.mpr ⟨s_iload (dd_X9_lookFor (50, .iload 4, 2) (List.mem_of_getElem? (i := 29) rfl)), ?_⟩
  refine List.forall_mem_cons.mpr ⟨s_iald (dd_X9_lookFor (52, .iaload, 1) (List.mem_of_getElem? (i := 30) rfl)), ?_⟩
  refine List.forall_mem_cons.mpr ⟨s_isub (dd_X9_lookFor (53, .isub, 1) (List.mem_of_getElem? (i := 31) rfl)), ?_⟩
  refine List.forall_mem_cons.mpr ⟨s_istore (dd_X9_lookFor (54, .istore 5, 2) (List.mem_of_getElem? (i := 32) rfl)), ?_⟩
  refine List.forall_mem_cons.mpr ⟨s_iload (dd_X9_lookFor (56, .iload 5, 2) (List.mem_of_getElem? (i := 33) rfl)), ?_⟩
  refine List.forall_mem_cons.mpr ⟨s_iload_n (dd_X9_lookFor (58, .iload_n 3, 1) (List.mem_of_getElem? (i := 34) rfl)) rfl, ?_⟩
  refine List.forall_mem_cons.mpr ⟨s_icmp_ge (dd_X9_lookFor (59, .if_icmp .ge 8, 3) (List.mem_of_getElem? (i := 35) rfl)) (by decide), ?_⟩
  refine List.forall_mem_cons.mpr ⟨s_iload (dd_X9_lookFor (62, .iload 4, 2) (List.mem_of_getElem? (i := 36) rfl)), ?_⟩
  refine List.forall_mem_cons.mpr ⟨s_goto (dd_X9_lookFor (64, .goto 4, 3) (List.mem_of_getElem? (i := 37) rfl)) (by decide), ?_⟩
  refine List.forall_mem_cons.mpr ⟨s_iload_n (dd_X9_lookFor (67, .iload_n 2, 1) (List.mem_of_getElem? (i := 38) rfl)) rfl, ?_⟩
  refine List.forall_mem_cons.mpr ⟨s_istore_n (dd_X9_lookFor (68, .istore_n 2, 1) (List.mem_of_getElem? (i := 39) rfl)) rfl, ?_⟩
  refine List.forall_mem_cons.mpr ⟨s_iload (dd_X9_lookFor (69, .iload 5, 2) (List.mem_of_getElem? (i := 40) rfl)), ?_⟩
  refine List.forall_mem_cons.mpr ⟨s_iload_n (dd_X9_lookFor (71, .iload_n 3, 1) (List.mem_of_getElem? (i := 41) rfl)) rfl, ?_⟩
  refine List.forall_mem_cons.mpr ⟨s_icmp_ge (dd_X9_lookFor (72, .if_icmp .ge 8, 3) (List.mem_of_getElem? (i := 42) rfl)) (by decide), ?_⟩
  refine List.forall_mem_cons.mpr ⟨s_iload (dd_X9_lookFor (75, .iload 5, 2) (List.mem_of_getElem? (i := 43) rfl)), ?_⟩
  refine List.forall_mem_cons.mpr ⟨s_goto (dd_X9_lookFor (77, .goto 4, 3) (List.mem_of_getElem? (i := 44) rfl)) (by decide), ?_⟩
  refine List.forall_mem_cons.mpr ⟨s_iload_n (dd_X9_lookFor (80, .iload_n 3, 1) (List.mem_of_getElem? (i := 45) rfl)) rfl, ?_⟩
  refine List.forall_mem_cons.mpr ⟨s_istore_n (dd_X9_lookFor (81, .istore_n 3, 1) (List.mem_of_getElem? (i := 46) rfl)) rfl, ?_⟩
  refine List.forall_mem_cons.mpr ⟨s_iinc (dd_X9_lookFor (82, .iinc 4 1, 3) (List.mem_of_getElem? (i := 47) rfl)) rfl, ?_⟩
  refine List.forall_mem_cons.mpr ⟨s_goto (dd_X9_lookFor (85, .goto (-78), 3) (List.mem_of_getElem? (i := 48) rfl)) (by decide), ?_⟩
  refine List.forall_mem_cons.mpr ⟨s_iload_n (dd_X9_lookFor (88, .iload_n 2, 1) (List.mem_of_getElem? (i := 49) rfl)) rfl, ?_⟩
  refine List.forall_mem_cons.mpr ⟨Or.inr (Or.inl ⟨rfl, (dd_X9_lookFor (89, .ireturn, 1) (List.mem_of_getElem? (i := 50) rfl)), rfl⟩), ?_⟩
  exact fun _ h => absurd h List.not_mem_nil
theorem ow_X9_weighs : (mtJ 173).1.cls = "SatchelSinsModel" := rfl
def D_X9_weighs_1 : List (Nat × Instr × Nat) := [(0, .iload_n 1, 1), (1, .i2l, 1), (2, .lconst 0, 1), (3, .ldc2_w 276, 3), (6, .invokestatic 94, 3), (9, .ifCond .eq 15, 3), (12, .iload_n 2, 1), (13, .i2l, 1), (14, .lconst 0, 1), (15, .ldc2_w 278, 3), (18, .invokestatic 94, 3), (21, .ifCond .ne 6, 3), (24, .ldc 103, 2), (26, .ireturn, 1), (27, .iconst 0, 1), (28, .istore_n 3, 1), (29, .iconst (-1), 1), (30, .istore 4, 2), (32, .iconst 1, 1), (33, .aload_n 0, 1), (34, .getfield 98, 3), (37, .ishl, 1), (38, .iconst 1, 1), (39, .isub, 1), (40, .istore 5, 2), (42, .iconst 0, 1), (43, .istore 6, 2), (45, .iload 6, 2), (47, .bipush 7, 2), (49, .if_icmp .ge 17, 3), (52, .aload_n 0, 1), (53, .getfield 62, 3), (56, .iload 6, 2), (58, .iconst 0, 1), (59, .iastore, 1), (60, .iinc 6 1, 3), (63, .goto (-18), 3), (66, .iconst 0, 1), (67, .istore 6, 2), (69, .iload 6, 2), (71, .iconst 1, 1), (72, .aload_n 0, 1), (73, .getfield 98, 3), (76, .ishl, 1), (77, .if_icmp .ge 77, 3), (80, .aload_n 0, 1), (81, .iload 6, 2), (83, .invokevirtual 280, 3), (86, .iload_n 1, 1), (87, .if_icmp .ne 61, 3), (90, .iload_n 3, 1), (91, .ifCond .ne 8, 3), (94, .iload 6, 2), (96, .goto 5, 3), (99, .iload 4, 2), (101, .istore 4, 2), (103, .iload 5, 2), (105, .iload 6, 2), (107, .iand, 1), (108, .istore 5, 2)]
theorem dd_X9_weighs_1 : ∀ e ∈ D_X9_weighs_1, decode (mtJ 173).2.1 e.1 = .ok e.2 := by decide +kernel
set_option maxRecDepth 10000 in
theorem so_X9_weighs_1 : ∀ e ∈ o_X9_weighs_1, SndO 173 e.1 e.2 := by
  refine List.forall_mem_cons.mpr ⟨s_iload_n (dd_X9_weighs_1 (0, .iload_n 1, 1) (List.mem_of_getElem? (i := 0) rfl)) rfl, ?_⟩
  refine List.forall_mem_cons.mpr ⟨s_i2l (dd_X9_weighs_1 (1, .i2l, 1) (List.mem_of_getElem? (i := 1) rfl)), ?_⟩
  refine List.forall_mem_cons.mpr ⟨s_lconst (dd_X9_weighs_1 (2, .lconst 0, 1) (List.mem_of_getElem? (i := 2) rfl)) rfl, ?_⟩
  refine List.forall_mem_cons.mpr ⟨s_ldc2 (dd_X9_weighs_1 (3, .ldc2_w 276, 3) (List.mem_of_getElem? (i := 3) rfl)) ow_X9_weighs kl9_276, ?_⟩
  refine List.forall_mem_cons.mpr ⟨⟨s_callS mo118 rfl (dd_X9_weighs_1 (6, .invokestatic 94, 3) (List.mem_of_getElem? (i := 4) rfl)) ow_X9_weighs ml9_94 ms118 mn118, mo118⟩, ?_⟩
  refine List.forall_mem_cons.mpr ⟨s_if_eq (dd_X9_weighs_1 (9, .ifCond .eq 15, 3) (List.mem_of_getElem? (i := 5) rfl)) (by decide), ?_⟩
  refine List.forall_mem_cons.mpr ⟨s_iload_n (dd_X9_weighs_1 (12, .iload_n 2, 1) (List.mem_of_getElem? (i := 6) rfl)) rfl, ?_⟩
  refine List.forall_mem_cons.mpr ⟨s_i2l (dd_X9_weighs_1 (13, .i2l, 1) (List.mem_of_getElem? (i := 7) rfl)), ?_⟩
  refine List.forall_mem_cons.mpr ⟨s_lconst (dd_X9_weighs_1 (14, .lconst 0, 1) (List.mem_of_getElem? (i := 8) rfl)) rfl, ?_⟩
  refine List.forall_mem_cons.mpr ⟨s_ldc2 (dd_X9_weighs_1 (15, .ldc2_w 278, 3) (List.mem_of_getElem? (i := 9) rfl)) ow_X9_weighs kl9_278, ?_⟩
  refine List.forall_mem_cons.mpr ⟨⟨s_callS mo118 rfl (dd_X9_weighs_1 (18, .invokestatic 94, 3) (List.mem_of_getElem? (i := 10) rfl)) ow_X9_weighs ml9_94 ms118 mn118, mo118⟩, ?_⟩
  refine List.forall_mem_cons.mpr ⟨s_if_ne (dd_X9_weighs_1 (21, .ifCond .ne 6, 3) (List.mem_of_getElem? (i := 11) rfl)) (by decide), ?_⟩
  refine List.forall_mem_cons.mpr ⟨s_ldc (dd_X9_weighs_1 (24, .ldc 103, 2) (List.mem_of_getElem? (i := 12) rfl)) ow_X9_weighs ki9_103, ?_⟩
  refine List.forall_mem_cons.mpr ⟨Or.inr (Or.inl ⟨rfl, (dd_X9_weighs_1 (26, .ireturn, 1) (List.mem_of_getElem? (i := 13) rfl)), rfl⟩), ?_⟩
  refine List.forall_mem_cons.mpr ⟨s_iconst (dd_X9_weighs_1 (27, .iconst 0, 1) (List.mem_of_getElem? (i := 14) rfl)) rfl, ?_⟩
  refine List.forall_mem_cons.mpr ⟨s_istore_n (dd_X9_weighs_1 (28, .istore_n 3, 1) (List.mem_of_getElem? (i := 15) rfl)) rfl, ?_⟩
  refine List.forall_mem_cons.mpr ⟨s_iconst (dd_X9_weighs_1 (29, .iconst (-1), 1) (List.mem_of_getElem? (i := 16) rfl)) rfl, ?_⟩
  refine List.forall_mem_cons.mpr ⟨s_istore (dd_X9_weighs_1 (30, .istore 4, 2) (List.mem_of_getElem? (i := 17) rfl)), ?_⟩
  refine List.forall_mem_cons.mpr ⟨s_iconst (dd_X9_weighs_1 (32, .iconst 1, 1) (List.mem_of_getElem? (i := 18) rfl)) rfl, ?_⟩
  refine List.forall_mem_cons.mpr ⟨s_aload_n (dd_X9_weighs_1 (33, .aload_n 0, 1) (List.mem_of_getElem? (i := 19) rfl)) rfl, ?_⟩
  refine List.forall_mem_cons.mpr ⟨s_getI (k := 6) K9 (by decide) (dd_X9_weighs_1 (34, .getfield 98, 3) (List.mem_of_getElem? (i := 20) rfl)) ow_X9_weighs fl9_98 rfl, ?_⟩
  refine List.forall_mem_cons.mpr ⟨s_ishl (dd_X9_weighs_1 (37, .ishl, 1) (List.mem_of_getElem? (i := 21) rfl)), ?_⟩
  refine List.forall_mem_cons.mpr ⟨s_iconst (dd_X9_weighs_1 (38, .iconst 1, 1) (List.mem_of_getElem? (i := 22) rfl)) rfl, ?_⟩
  refine List.forall_mem_cons.mpr ⟨s_isub (dd_X9_weighs_1 (39, .isub, 1) (List.mem_of_getElem? (i := 23) rfl)), ?_⟩
  refine List.forall_mem_cons.mpr ⟨s_istore (dd_X9_weighs_1 (40, .istore 5, 2) (List.mem_of_getElem? (i := 24) rfl)), ?_⟩
  refine List.forall_mem_cons.mpr ⟨s_iconst (dd_X9_weighs_1 (42, .iconst 0, 1) (List.mem_of_getElem? (i := 25) rfl)) rfl, ?_⟩
  refine List.forall_mem_cons.mpr ⟨s_istore (dd_X9_weighs_1 (43, .istore 6, 2) (List.mem_of_getElem? (i := 26) rfl)), ?_⟩
  refine List.forall_mem_cons.mpr ⟨s_iload (dd_X9_weighs_1 (45, .iload 6, 2) (List.mem_of_getElem? (i := 27) rfl)), ?_⟩
  refine List.forall_mem_cons.mpr ⟨s_bipush (dd_X9_weighs_1 (47, .bipush 7, 2) (List.mem_of_getElem? (i := 28) rfl)) rfl, ?_⟩
  refine List.forall_mem_cons.mpr ⟨s_icmp_ge (dd_X9_weighs_1 (49, .if_icmp .ge 17, 3) (List.mem_of_getElem? (i := 29) rfl)) (by decide), ?_⟩
  refine List.forall_mem_cons.mpr ⟨s_aload_n (dd_X9_weighs_1 (52, .aload_n 0, 1) (List.mem_of_getElem? (i := 30) rfl)) rfl, ?_⟩
  refine List.forall_mem_cons.mpr ⟨s_getR (k := 31) K9 (by decide) (dd_X9_weighs_1 (53, .getfield 62, 3) (List.mem_of_getElem? (i := 31) rfl)) ow_X9_weighs fl9_62 rfl, ?_⟩
  refine List.forall_mem_cons.mpr ⟨s_iload (dd_X9_weighs_1 (56, .iload 6, 2) (List.mem_of_getElem? (i := 32) rfl)), ?_⟩
  refine List.forall_mem_cons.mpr ⟨s_iconst (dd_X9_weighs_1 (58, .iconst 0, 1) (List.mem_of_getElem? (i := 33) rfl)) rfl, ?_⟩
  refine List.forall_mem_cons.mpr ⟨s_iast (dd_X9_weighs_1 (59, .iastore, 1) (List.mem_of_getElem? (i := 34) rfl)), ?_⟩
  refine List.forall_mem_cons.mpr ⟨s_iinc (dd_X9_weighs_1 (60, .iinc 6 1, 3) (List.mem_of_getElem? (i := 35) rfl)) rfl, ?_⟩
  refine List.forall_mem_cons.mpr ⟨s_goto (dd_X9_weighs_1 (63, .goto (-18), 3) (List.mem_of_getElem? (i := 36) rfl)) (by decide), ?_⟩
  refine List.forall_mem_cons.mpr ⟨s_iconst (dd_X9_weighs_1 (66, .iconst 0, 1) (List.mem_of_getElem? (i := 37) rfl)) rfl, ?_⟩
  refine List.forall_mem_cons.mpr ⟨s_istore (dd_X9_weighs_1 (67, .istore 6, 2) (List.mem_of_getElem? (i := 38) rfl)), ?_⟩
  refine List.forall_mem_cons.mpr ⟨s_iload (dd_X9_weighs_1 (69, .iload 6, 2) (List.mem_of_getElem? (i := 39) rfl)), ?_⟩
  refine List.forall_mem_cons.mpr ⟨s_iconst (dd_X9_weighs_1 (71, .iconst 1, 1) (List.mem_of_getElem? (i := 40) rfl)) rfl, ?_⟩
  refine List.forall_mem_cons.mpr ⟨s_aload_n (dd_X9_weighs_1 (72, .aload_n 0, 1) (List.mem_of_getElem? (i := 41) rfl)) rfl, ?_⟩
  refine List.forall_mem_cons.mpr ⟨s_getI (k := 6) K9 (by decide) (dd_X9_weighs_1 (73, .getfield 98, 3) (List.mem_of_getElem? (i := 42) rfl)) ow_X9_weighs fl9_98 rfl, ?_⟩
  refine List.forall_mem_cons.mpr ⟨s_ishl (dd_X9_weighs_1 (76, .ishl, 1) (List.mem_of_getElem? (i := 43) rfl)), ?_⟩
  refine List.forall_mem_cons.mpr ⟨s_icmp_ge (dd_X9_weighs_1 (77, .if_icmp .ge 77, 3) (List.mem_of_getElem? (i := 44) rfl)) (by decide), ?_⟩
  refine List.forall_mem_cons.mpr ⟨s_aload_n (dd_X9_weighs_1 (80, .aload_n 0, 1) (List.mem_of_getElem? (i := 45) rfl)) rfl, ?_⟩
  refine List.forall_mem_cons.mpr ⟨s_iload (dd_X9_weighs_1 (81, .iload 6, 2) (List.mem_of_getElem? (i := 46) rfl)), ?_⟩
  refine List.forall_mem_cons.mpr ⟨⟨s_callV (ci := 9) rfl mo171 rfl rfl (dd_X9_weighs_1 (83, .invokevirtual 280, 3) (List.mem_of_getElem? (i := 47) rfl)) ow_X9_weighs ml9_280 mi171 msl171 in_9 mn171, mo171⟩, ?_⟩
  refine List.forall_mem_cons.mpr ⟨s_iload_n (dd_X9_weighs_1 (86, .iload_n 1, 1) (List.mem_of_getElem? (i := 48) rfl)) rfl, ?_⟩
  refine List.forall_mem_cons.mpr ⟨s_icmp_ne (dd_X9_weighs_1 (87, .if_icmp .ne 61, 3) (List.mem_of_getElem? (i := 49) rfl)) (by decide), ?_⟩
  refine List.forall_mem_cons.mpr ⟨s_iload_n (dd_X9_weighs_1 (90, .iload_n 3, 1) (List.mem_of_getElem? (i := 50) rfl)) rfl, ?_⟩
  refine List.forall_mem_cons.mpr ⟨s_if_ne (dd_X9_weighs_1 (91, .ifCond .ne 8, 3) (List.mem_of_getElem? (i := 51) rfl)) (by decide), ?_⟩
  refine List.forall_mem_cons.mpr ⟨s_iload (dd_X9_weighs_1 (94, .iload 6, 2) (List.mem_of_getElem? (i := 52) rfl)), ?_⟩
  refine List.forall_mem_cons.mpr ⟨s_goto (dd_X9_weighs_1 (96, .goto 5, 3) (List.mem_of_getElem? (i := 53) rfl)) (by decide), ?_⟩
  refine List.forall_mem_cons.mpr ⟨s_iload (dd_X9_weighs_1 (99, .iload 4, 2) (List.mem_of_getElem? (i := 54) rfl)), ?_⟩
  refine List.forall_mem_cons.mpr ⟨s_istore (dd_X9_weighs_1 (101, .istore 4, 2) (List.mem_of_getElem? (i := 55) rfl)), ?_⟩
  refine List.forall_mem_cons.mpr ⟨s_iload (dd_X9_weighs_1 (103, .iload 5, 2) (List.mem_of_getElem? (i := 56) rfl)), ?_⟩
  refine List.forall_mem_cons.mpr ⟨s_iload (dd_X9_weighs_1 (105, .iload 6, 2) (List.mem_of_getElem? (i := 57) rfl)), ?_⟩
  refine List.forall_mem_cons.mpr ⟨s_iand (dd_X9_weighs_1 (107, .iand, 1) (List.mem_of_getElem? (i := 58) rfl)), ?_⟩
  refine List.forall_mem_cons.mpr ⟨s_istore (dd_X9_weighs_1 (108, .istore 5, 2) (List.mem_of_getElem? (i := 59) rfl)), ?_⟩
  exact fun _ h => absurd h List.not_mem_nil
def D_X9_weighs_2 : List (Nat × Instr × Nat) := [(110, .iinc 3 1, 3), (113, .iconst 0, 1), (114, .istore 7, 2), (116, .iload 7, 2), (118, .aload_n 0, 1), (119, .getfield 98, 3), (122, .if_icmp .ge 26, 3), (125, .aload_n 0, 1), (126, .getfield 62, 3), (129, .iload 7, 2), (131, .dup2, 1), (132, .iaload, 1), (133, .iload 6, 2), (135, .iload 7, 2), (137, .ishr, 1), (138, .iconst 1, 1), (139, .iand, 1), (140, .iadd, 1), (141, .iastore, 1), (142, .iinc 7 1, 3), (145, .goto (-29), 3), (148, .iinc 6 1, 3), (151, .goto (-82), 3), (154, .iload_n 2, 1), (155, .iconst 3, 1), (156, .if_icmp .ne 9, 3), (159, .aload_n 0, 1), (160, .iload_n 3, 1), (161, .invokevirtual 283, 3), (164, .ireturn, 1), (165, .iload_n 2, 1), (166, .ifCond .ne 7, 3), (169, .iload_n 3, 1), (170, .goto 23, 3), (173, .iload_n 2, 1), (174, .iconst 1, 1), (175, .if_icmp .ne 8, 3), (178, .iload 4, 2), (180, .goto 13, 3), (183, .iload_n 3, 1), (184, .ifCond .ne 7, 3), (187, .iconst 0, 1), (188, .goto 5, 3), (191, .iload 5, 2), (193, .ireturn, 1)]
theorem dd_X9_weighs_2 : ∀ e ∈ D_X9_weighs_2, decode (mtJ 173).2.1 e.1 = .ok e.2 := by decide +kernel
set_option maxRecDepth 10000 in
theorem so_X9_weighs_2 : ∀ e ∈ o_X9_weighs_2, SndO 173 e.1 e.2 := by
  refine List.forall_mem_cons.mpr ⟨s_iinc (dd_X9_weighs_2 (110, .iinc 3 1, 3) (List.mem_of_getElem? (i := 0) rfl)) rfl, ?_⟩
  refine List.forall_mem_cons.mpr ⟨s_iconst (dd_X9_weighs_2 (113, .iconst 0, 1) (List.mem_of_getElem? (i := 1) rfl)) rfl, ?_⟩
  refine List.forall_mem_cons.mpr ⟨s_istore (dd_X9_weighs_2 (114, .istore 7, 2) (List.mem_of_getElem? (i := 2) rfl)), ?_⟩
  refine List.forall_mem_cons.mpr ⟨s_iload (dd_X9_weighs_2 (116, .iload 7, 2) (List.mem_of_getElem? (i := 3) rfl)), ?_⟩
  refine List.forall_mem_cons.mpr ⟨s_aload_n (dd_X9_weighs_2 (118, .aload_n 0, 1) (List.mem_of_getElem? (i := 4) rfl)) rfl, ?_⟩
  refine List.forall_mem_cons.mpr ⟨s_getI (k := 6) K9 (by decide) (dd_X9_weighs_2 (119, .getfield 98, 3) (List.mem_of_getElem? (i := 5) rfl)) ow_X9_weighs fl9_98 rfl, ?_⟩
  refine List.forall_mem_cons.mpr ⟨s_icmp_ge (dd_X9_weighs_2 (122, .if_icmp .ge 26, 3) (List.mem_of_getElem? (i := 6) rfl)) (by decide), ?_⟩
  refine List.forall_mem_cons.mpr ⟨s_aload_n (dd_X9_weighs_2 (125, .aload_n 0, 1) (List.mem_of_getElem? (i := 7) rfl)) rfl, ?_⟩
  refine List.forall_mem_cons.mpr ⟨s_getR (k := 31) K9 (by decide) (dd_X9_weighs_2 (126, .getfield 62, 3) (List.mem_of_getElem? (i := 8) rfl)) ow_X9_weighs fl9_62 rfl, ?_⟩
  refine List.forall_mem_cons.mpr ⟨s_iload (dd_X9_weighs_2 (129, .iload 7, 2) (List.mem_of_getElem? (i := 9) rfl)), ?_⟩
  refine List.forall_mem_cons.mpr ⟨s_dup2 (dd_X9_weighs_2 (131, .dup2, 1) (List.mem_of_getElem? (i := 10) rfl)), ?_⟩
  refine List.forall_mem_cons.mpr ⟨s_iald (dd_X9_weighs_2 (132, .iaload, 1) (List.mem_of_getElem? (i := 11) rfl)), ?_⟩
  refine List.forall_mem_cons.mpr ⟨s_iload (dd_X9_weighs_2 (133, .iload 6, 2) (List.mem_of_getElem? (i := 12) rfl)), ?_⟩
  refine List.forall_mem_cons.mpr ⟨s_iload (dd_X9_weighs_2 (135, .iload 7, 2) (List.mem_of_getElem? (i := 13) rfl)), ?_⟩
  refine List.forall_mem_cons.mpr ⟨s_ishr (dd_X9_weighs_2 (137, .ishr, 1) (List.mem_of_getElem? (i := 14) rfl)), ?_⟩
  refine List.forall_mem_cons.mpr ⟨s_iconst (dd_X9_weighs_2 (138, .iconst 1, 1) (List.mem_of_getElem? (i := 15) rfl)) rfl, ?_⟩
  refine List.forall_mem_cons.mpr ⟨s_iand (dd_X9_weighs_2 (139, .iand, 1) (List.mem_of_getElem? (i := 16) rfl)), ?_⟩
  refine List.forall_mem_cons.mpr ⟨s_iadd (dd_X9_weighs_2 (140, .iadd, 1) (List.mem_of_getElem? (i := 17) rfl)), ?_⟩
  refine List.forall_mem_cons.mpr ⟨s_iast (dd_X9_weighs_2 (141, .iastore, 1) (List.mem_of_getElem? (i := 18) rfl)), ?_⟩
  refine List.forall_mem_cons.mpr ⟨s_iinc (dd_X9_weighs_2 (142, .iinc 7 1, 3) (List.mem_of_getElem? (i := 19) rfl)) rfl, ?_⟩
  refine List.forall_mem_cons.mpr ⟨s_goto (dd_X9_weighs_2 (145, .goto (-29), 3) (List.mem_of_getElem? (i := 20) rfl)) (by decide), ?_⟩
  refine List.forall_mem_cons.mpr ⟨s_iinc (dd_X9_weighs_2 (148, .iinc 6 1, 3) (List.mem_of_getElem? (i := 21) rfl)) rfl, ?_⟩
  refine List.forall_mem_cons.mpr ⟨s_goto (dd_X9_weighs_2 (151, .goto (-82), 3) (List.mem_of_getElem? (i := 22) rfl)) (by decide), ?_⟩
  refine List.forall_mem_cons.mpr ⟨s_iload_n (dd_X9_weighs_2 (154, .iload_n 2, 1) (List.mem_of_getElem? (i := 23) rfl)) rfl, ?_⟩
  refine List.forall_mem_cons.mpr ⟨s_iconst (dd_X9_weighs_2 (155, .iconst 3, 1) (List.mem_of_getElem? (i := 24) rfl)) rfl, ?_⟩
  refine List.forall_mem_cons.mpr ⟨s_icmp_ne (dd_X9_weighs_2 (156, .if_icmp .ne 9, 3) (List.mem_of_getElem? (i := 25) rfl)) (by decide), ?_⟩
  refine List.forall_mem_cons.mpr ⟨s_aload_n (dd_X9_weighs_2 (159, .aload_n 0, 1) (List.mem_of_getElem? (i := 26) rfl)) rfl, ?_⟩
  refine List.forall_mem_cons.mpr ⟨s_iload_n (dd_X9_weighs_2 (160, .iload_n 3, 1) (List.mem_of_getElem? (i := 27) rfl)) rfl, ?_⟩
  refine List.forall_mem_cons.mpr ⟨⟨s_callV (ci := 9) rfl mo172 rfl rfl (dd_X9_weighs_2 (161, .invokevirtual 283, 3) (List.mem_of_getElem? (i := 28) rfl)) ow_X9_weighs ml9_283 mi172 msl172 in_9 mn172, mo172⟩, ?_⟩
  refine List.forall_mem_cons.mpr ⟨Or.inr (Or.inl ⟨rfl, (dd_X9_weighs_2 (164, .ireturn, 1) (List.mem_of_getElem? (i := 29) rfl)), rfl⟩), ?_⟩
  refine List.forall_mem_cons.mpr ⟨s_iload_n (dd_X9_weighs_2 (165, .iload_n 2, 1) (List.mem_of_getElem? (i := 30) rfl)) rfl, ?_⟩
  refine List.forall_mem_cons.mpr ⟨s_if_ne (dd_X9_weighs_2 (166, .ifCond .ne 7, 3) (List.mem_of_getElem? (i := 31) rfl)) (by decide), ?_⟩
  refine List.forall_mem_cons.mpr ⟨s_iload_n (dd_X9_weighs_2 (169, .iload_n 3, 1) (List.mem_of_getElem? (i := 32) rfl)) rfl, ?_⟩
  refine List.forall_mem_cons.mpr ⟨s_goto (dd_X9_weighs_2 (170, .goto 23, 3) (List.mem_of_getElem? (i := 33) rfl)) (by decide), ?_⟩
  refine List.forall_mem_cons.mpr ⟨s_iload_n (dd_X9_weighs_2 (173, .iload_n 2, 1) (List.mem_of_getElem? (i := 34) rfl)) rfl, ?_⟩
  refine List.forall_mem_cons.mpr ⟨s_iconst (dd_X9_weighs_2 (174, .iconst 1, 1) (List.mem_of_getElem? (i := 35) rfl)) rfl, ?_⟩
  refine List.forall_mem_cons.mpr ⟨s_icmp_ne (dd_X9_weighs_2 (175, .if_icmp .ne 8, 3) (List.mem_of_getElem? (i := 36) rfl)) (by decide), ?_⟩
  refine List.forall_mem_cons.mpr ⟨s_iload (dd_X9_weighs_2 (178, .iload 4, 2) (List.mem_of_getElem? (i := 37) rfl)), ?_⟩
  refine List.forall_mem_cons.mpr ⟨s_goto (dd_X9_weighs_2 (180, .goto 13, 3) (List.mem_of_getElem? (i := 38) rfl)) (by decide), ?_⟩
  refine List.forall_mem_cons.mpr ⟨s_iload_n (dd_X9_weighs_2 (183, .iload_n 3, 1) (List.mem_of_getElem? (i := 39) rfl)) rfl, ?_⟩
  refine List.forall_mem_cons.mpr ⟨s_if_ne (dd_X9_weighs_2 (184, .ifCond .ne 7, 3) (List.mem_of_getElem? (i := 40) rfl)) (by decide), ?_⟩
  refine List.forall_mem_cons.mpr ⟨s_iconst (dd_X9_weighs_2 (187, .iconst 0, 1) (List.mem_of_getElem? (i := 41) rfl)) rfl, ?_⟩
  refine List.forall_mem_cons.mpr ⟨s_goto (dd_X9_weighs_2 (188, .goto 5, 3) (List.mem_of_getElem? (i := 42) rfl)) (by decide), ?_⟩
  refine List.forall_mem_cons.mpr ⟨s_iload (dd_X9_weighs_2 (191, .iload 5, 2) (List.mem_of_getElem? (i := 43) rfl)), ?_⟩
  refine List.forall_mem_cons.mpr ⟨Or.inr (Or.inl ⟨rfl, (dd_X9_weighs_2 (193, .ireturn, 1) (List.mem_of_getElem? (i := 44) rfl)), rfl⟩), ?_⟩
  exact fun _ h => absurd h List.not_mem_nil
theorem so_X9_weighs : ∀ e ∈ o_X9_weighs, SndO 173 e.1 e.2 := List.forall_mem_append.mpr ⟨so_X9_weighs_1, so_X9_weighs_2⟩
theorem ow_X9_firstOf : (mtJ 174).1.cls = "SatchelSinsModel" := rfl
def D_X9_firstOf : List (Nat × Instr × Nat) := [(0, .iload_n 1, 1), (1, .istore_n 2, 1), (2, .aload_n 0, 1), (3, .getfield 16, 3), (6, .iload_n 2, 1), (7, .iaload, 1), (8, .iconst (-1), 1), (9, .if_icmp .eq 13, 3), (12, .aload_n 0, 1), (13, .getfield 16, 3), (16, .iload_n 2, 1), (17, .iaload, 1), (18, .istore_n 2, 1), (19, .goto (-17), 3), (22, .iload_n 2, 1), (23, .ireturn, 1)]
theorem dd_X9_firstOf : ∀ e ∈ D_X9_firstOf, decode (mtJ 174).2.1 e.1 = .ok e.2 := by decide +kernel
set_option maxRecDepth 10000 in
theorem so_X9_firstOf : ∀ e ∈ o_X9_firstOf, SndO 174 e.1 e.2 := by
  refine List.forall_mem_cons.mpr ⟨s_iload_n (dd_X9_firstOf (0, .iload_n 1, 1) (List.mem_of_getElem? (i := 0) rfl)) rfl, ?_⟩
  refine List.forall_mem_cons.mpr ⟨s_istore_n (dd_X9_firstOf (1, .istore_n 2, 1) (List.mem_of_getElem? (i := 1) rfl)) rfl, ?_⟩
  refine List.forall_mem_cons.mpr ⟨s_aload_n (dd_X9_firstOf (2, .aload_n 0, 1) (List.mem_of_getElem? (i := 2) rfl)) rfl, ?_⟩
  refine List.forall_mem_cons.mpr ⟨s_getR (k := 5) K9 (by decide) (dd_X9_firstOf (3, .getfield 16, 3) (List.mem_of_getElem? (i := 3) rfl)) ow_X9_firstOf fl9_16 rfl, ?_⟩
  refine List.forall_mem_cons.mpr ⟨s_iload_n (dd_X9_firstOf (6, .iload_n 2, 1) (List.mem_of_getElem? (i := 4) rfl)) rfl, ?_⟩
  refine List.forall_mem_cons.mpr ⟨s_iald (dd_X9_firstOf (7, .iaload, 1) (List.mem_of_getElem? (i := 5) rfl)), ?_⟩
  refine List.forall_mem_cons.mpr ⟨s_iconst (dd_X9_firstOf (8, .iconst (-1), 1) (List.mem_of_getElem? (i := 6) rfl)) rfl, ?_⟩
  refine List.forall_mem_cons.mpr ⟨s_icmp_eq (dd_X9_firstOf (9, .if_icmp .eq 13, 3) (List.mem_of_getElem? (i := 7) rfl)) (by decide), ?_⟩
  refine List.forall_mem_cons.mpr ⟨s_aload_n (dd_X9_firstOf (12, .aload_n 0, 1) (List.mem_of_getElem? (i := 8) rfl)) rfl, ?_⟩
  refine List.forall_mem_cons.mpr ⟨s_getR (k := 5) K9 (by decide) (dd_X9_firstOf (13, .getfield 16, 3) (List.mem_of_getElem? (i := 9) rfl)) ow_X9_firstOf fl9_16 rfl, ?_⟩
  refine List.forall_mem_cons.mpr ⟨s_iload_n (dd_X9_firstOf (16, .iload_n 2, 1) (List.mem_of_getElem? (i := 10) rfl)) rfl, ?_⟩
  refine List.forall_mem_cons.mpr ⟨s_iald (dd_X9_firstOf (17, .iaload, 1) (List.mem_of_getElem? (i := 11) rfl)), ?_⟩
  refine List.forall_mem_cons.mpr ⟨s_istore_n (dd_X9_firstOf (18, .istore_n 2, 1) (List.mem_of_getElem? (i := 12) rfl)) rfl, ?_⟩
  refine List.forall_mem_cons.mpr ⟨s_goto (dd_X9_firstOf (19, .goto (-17), 3) (List.mem_of_getElem? (i := 13) rfl)) (by decide), ?_⟩
  refine List.forall_mem_cons.mpr ⟨s_iload_n (dd_X9_firstOf (22, .iload_n 2, 1) (List.mem_of_getElem? (i := 14) rfl)) rfl, ?_⟩
  refine List.forall_mem_cons.mpr ⟨Or.inr (Or.inl ⟨rfl, (dd_X9_firstOf (23, .ireturn, 1) (List.mem_of_getElem? (i := 15) rfl)), rfl⟩), ?_⟩
  exact fun _ h => absurd h List.not_mem_nil
theorem ow_X9_handed : (mtJ 175).1.cls = "SatchelSinsModel" := rfl
def D_X9_handed : List (Nat × Instr × Nat) := [(0, .aload_n 0, 1), (1, .iload_n 1, 1), (2, .invokevirtual 201, 3), (5, .ifCond .ne 6, 3), (8, .ldc 205, 2), (10, .ireturn, 1), (11, .iload_n 2, 1), (12, .i2l, 1), (13, .lconst 0, 1), (14, .lconst 1, 1), (15, .invokestatic 94, 3), (18, .ifCond .ne 6, 3), (21, .ldc 103, 2), (23, .ireturn, 1), (24, .iconst 0, 1), (25, .istore_n 3, 1), (26, .iconst 0, 1), (27, .istore 4, 2), (29, .iload 4, 2), (31, .aload_n 0, 1), (32, .getfield 91, 3), (35, .if_icmp .ge 34, 3), (38, .iload_n 3, 1), (39, .aload_n 0, 1), (40, .iload 4, 2), (42, .invokevirtual 286, 3), (45, .aload_n 0, 1), (46, .iload_n 1, 1), (47, .invokevirtual 286, 3), (50, .if_icmp .ne 10, 3), (53, .iconst 1, 1), (54, .iload 4, 2), (56, .ishl, 1), (57, .goto 4, 3), (60, .iconst 0, 1), (61, .ior, 1), (62, .istore_n 3, 1), (63, .iinc 4 1, 3), (66, .goto (-37), 3), (69, .iload_n 2, 1), (70, .ifCond .ne 11, 3), (73, .aload_n 0, 1), (74, .iload_n 1, 1), (75, .invokevirtual 286, 3), (78, .goto 4, 3), (81, .iload_n 3, 1), (82, .ireturn, 1)]
theorem dd_X9_handed : ∀ e ∈ D_X9_handed, decode (mtJ 175).2.1 e.1 = .ok e.2 := by decide +kernel
set_option maxRecDepth 10000 in
theorem so_X9_handed : ∀ e ∈ o_X9_handed, SndO 175 e.1 e.2 := by
  refine List.forall_mem_cons.mpr ⟨s_aload_n (dd_X9_handed (0, .aload_n 0, 1) (List.mem_of_getElem? (i := 0) rfl)) rfl, ?_⟩
  refine List.forall_mem_cons.mpr ⟨s_iload_n (dd_X9_handed (1, .iload_n 1, 1) (List.mem_of_getElem? (i := 1) rfl)) rfl, ?_⟩
  refine List.forall_mem_cons.mpr ⟨⟨s_callV (ci := 9) rfl mo120 rfl rfl (dd_X9_handed (2, .invokevirtual 201, 3) (List.mem_of_getElem? (i := 2) rfl)) ow_X9_handed ml9_201 mi120 msl120 in_9 mn120, mo120⟩, ?_⟩
  refine List.forall_mem_cons.mpr ⟨s_if_ne (dd_X9_handed (5, .ifCond .ne 6, 3) (List.mem_of_getElem? (i := 3) rfl)) (by decide), ?_⟩
  refine List.forall_mem_cons.mpr ⟨s_ldc (dd_X9_handed (8, .ldc 205, 2) (List.mem_of_getElem? (i := 4) rfl)) ow_X9_handed ki9_205, ?_⟩
  refine List.forall_mem_cons.mpr ⟨Or.inr (Or.inl ⟨rfl, (dd_X9_handed (10, .ireturn, 1) (List.mem_of_getElem? (i := 5) rfl)), rfl⟩), ?_⟩
  refine List.forall_mem_cons.mpr ⟨s_iload_n (dd_X9_handed (11, .iload_n 2, 1) (List.mem_of_getElem? (i := 6) rfl)) rfl, ?_⟩
  refine List.forall_mem_cons.mpr ⟨s_i2l (dd_X9_handed (12, .i2l, 1) (List.mem_of_getElem? (i := 7) rfl)), ?_⟩
  refine List.forall_mem_cons.mpr ⟨s_lconst (dd_X9_handed (13, .lconst 0, 1) (List.mem_of_getElem? (i := 8) rfl)) rfl, ?_⟩
  refine List.forall_mem_cons.mpr ⟨s_lconst (dd_X9_handed (14, .lconst 1, 1) (List.mem_of_getElem? (i := 9) rfl)) rfl, ?_⟩
  refine List.forall_mem_cons.mpr ⟨⟨s_callS mo118 rfl (dd_X9_handed (15, .invokestatic 94, 3) (List.mem_of_getElem? (i := 10) rfl)) ow_X9_handed ml9_94 ms118 mn118, mo118⟩, ?_⟩
  refine List.forall_mem_cons.mpr ⟨s_if_ne (dd_X9_handed (18, .ifCond .ne 6, 3) (List.mem_of_getElem? (i := 11) rfl)) (by decide), ?_⟩
  refine List.forall_mem_cons.mpr ⟨s_ldc (dd_X9_handed (21, .ldc 103, 2) (List.mem_of_getElem? (i := 12) rfl)) ow_X9_handed ki9_103, ?_⟩
  refine List.forall_mem_cons.mpr ⟨Or.inr (Or.inl ⟨rfl, (dd_X9_handed (23, .ireturn, 1) (List.mem_of_getElem? (i := 13) rfl)), rfl⟩), ?_⟩
  refine List.forall_mem_cons.mpr ⟨s_iconst (dd_X9_handed (24, .iconst 0, 1) (List.mem_of_getElem? (i := 14) rfl)) rfl, ?_⟩
  refine List.forall_mem_cons.mpr ⟨s_istore_n (dd_X9_handed (25, .istore_n 3, 1) (List.mem_of_getElem? (i := 15) rfl)) rfl, ?_⟩
  refine List.forall_mem_cons.mpr ⟨s_iconst (dd_X9_handed (26, .iconst 0, 1) (List.mem_of_getElem? (i := 16) rfl)) rfl, ?_⟩
  refine List.forall_mem_cons.mpr ⟨s_istore (dd_X9_handed (27, .istore 4, 2) (List.mem_of_getElem? (i := 17) rfl)), ?_⟩
  refine List.forall_mem_cons.mpr ⟨s_iload (dd_X9_handed (29, .iload 4, 2) (List.mem_of_getElem? (i := 18) rfl)), ?_⟩
  refine List.forall_mem_cons.mpr ⟨s_aload_n (dd_X9_handed (31, .aload_n 0, 1) (List.mem_of_getElem? (i := 19) rfl)) rfl, ?_⟩
  refine List.forall_mem_cons.mpr ⟨s_getI (k := 2) K9 (by decide) (dd_X9_handed (32, .getfield 91, 3) (List.mem_of_getElem? (i := 20) rfl)) ow_X9_handed fl9_91 rfl, ?_⟩
  refine List.forall_mem_cons.mpr ⟨s_icmp_ge (dd_X9_handed (35, .if_icmp .ge 34, 3) (List.mem_of_getElem? (i := 21) rfl)) (by decide), ?_⟩
  refine List.forall_mem_cons.mpr ⟨s_iload_n (dd_X9_handed (38, .iload_n 3, 1) (List.mem_of_getElem? (i := 22) rfl)) rfl, ?_⟩
  refine List.forall_mem_cons.mpr ⟨s_aload_n (dd_X9_handed (39, .aload_n 0, 1) (List.mem_of_getElem? (i := 23) rfl)) rfl, ?_⟩
  refine List.forall_mem_cons.mpr ⟨s_iload (dd_X9_handed (40, .iload 4, 2) (List.mem_of_getElem? (i := 24) rfl)), ?_⟩
  refine List.forall_mem_cons.mpr ⟨⟨s_callV (ci := 9) rfl mo174 rfl rfl (dd_X9_handed (42, .invokevirtual 286, 3) (List.mem_of_getElem? (i := 25) rfl)) ow_X9_handed ml9_286 mi174 msl174 in_9 mn174, mo174⟩, ?_⟩
  refine List.forall_mem_cons.mpr ⟨s_aload_n (dd_X9_handed (45, .aload_n 0, 1) (List.mem_of_getElem? (i := 26) rfl)) rfl, ?_⟩
  refine List.forall_mem_cons.mpr ⟨s_iload_n (dd_X9_handed (46, .iload_n 1, 1) (List.mem_of_getElem? (i := 27) rfl)) rfl, ?_⟩
  refine List.forall_mem_cons.mpr ⟨⟨s_callV (ci := 9) rfl mo174 rfl rfl (dd_X9_handed (47, .invokevirtual 286, 3) (List.mem_of_getElem? (i := 28) rfl)) ow_X9_handed ml9_286 mi174 msl174 in_9 mn174, mo174⟩, ?_⟩
  refine List.forall_mem_cons.mpr ⟨s_icmp_ne (dd_X9_handed (50, .if_icmp .ne 10, 3) (List.mem_of_getElem? (i := 29) rfl)) (by decide), ?_⟩
  refine List.forall_mem_cons.mpr ⟨s_iconst (dd_X9_handed (53, .iconst 1, 1) (List.mem_of_getElem? (i := 30) rfl)) rfl, ?_⟩
  refine List.forall_mem_cons.mpr ⟨s_iload (dd_X9_handed (54, .iload 4, 2) (List.mem_of_getElem? (i := 31) rfl)), ?_⟩
  refine List.forall_mem_cons.mpr ⟨s_ishl (dd_X9_handed (56, .ishl, 1) (List.mem_of_getElem? (i := 32) rfl)), ?_⟩
  refine List.forall_mem_cons.mpr ⟨s_goto (dd_X9_handed (57, .goto 4, 3) (List.mem_of_getElem? (i := 33) rfl)) (by decide), ?_⟩
  refine List.forall_mem_cons.mpr ⟨s_iconst (dd_X9_handed (60, .iconst 0, 1) (List.mem_of_getElem? (i := 34) rfl)) rfl, ?_⟩
  refine List.forall_mem_cons.mpr ⟨s_ior (dd_X9_handed (61, .ior, 1) (List.mem_of_getElem? (i := 35) rfl)), ?_⟩
  refine List.forall_mem_cons.mpr ⟨s_istore_n (dd_X9_handed (62, .istore_n 3, 1) (List.mem_of_getElem? (i := 36) rfl)) rfl, ?_⟩
  refine List.forall_mem_cons.mpr ⟨s_iinc (dd_X9_handed (63, .iinc 4 1, 3) (List.mem_of_getElem? (i := 37) rfl)) rfl, ?_⟩
  refine List.forall_mem_cons.mpr ⟨s_goto (dd_X9_handed (66, .goto (-37), 3) (List.mem_of_getElem? (i := 38) rfl)) (by decide), ?_⟩
  refine List.forall_mem_cons.mpr ⟨s_iload_n (dd_X9_handed (69, .iload_n 2, 1) (List.mem_of_getElem? (i := 39) rfl)) rfl, ?_⟩
  refine List.forall_mem_cons.mpr ⟨s_if_ne (dd_X9_handed (70, .ifCond .ne 11, 3) (List.mem_of_getElem? (i := 40) rfl)) (by decide), ?_⟩
  refine List.forall_mem_cons.mpr ⟨s_aload_n (dd_X9_handed (73, .aload_n 0, 1) (List.mem_of_getElem? (i := 41) rfl)) rfl, ?_⟩
  refine List.forall_mem_cons.mpr ⟨s_iload_n (dd_X9_handed (74, .iload_n 1, 1) (List.mem_of_getElem? (i := 42) rfl)) rfl, ?_⟩
  refine List.forall_mem_cons.mpr ⟨⟨s_callV (ci := 9) rfl mo174 rfl rfl (dd_X9_handed (75, .invokevirtual 286, 3) (List.mem_of_getElem? (i := 43) rfl)) ow_X9_handed ml9_286 mi174 msl174 in_9 mn174, mo174⟩, ?_⟩
  refine List.forall_mem_cons.mpr ⟨s_goto (dd_X9_handed (78, .goto 4, 3) (List.mem_of_getElem? (i := 44) rfl)) (by decide), ?_⟩
  refine List.forall_mem_cons.mpr ⟨s_iload_n (dd_X9_handed (81, .iload_n 3, 1) (List.mem_of_getElem? (i := 45) rfl)) rfl, ?_⟩
  refine List.forall_mem_cons.mpr ⟨Or.inr (Or.inl ⟨rfl, (dd_X9_handed (82, .ireturn, 1) (List.mem_of_getElem? (i := 46) rfl)), rfl⟩), ?_⟩
  exact fun _ h => absurd h List.not_mem_nil
theorem ow_X9_light : (mtJ 176).1.cls = "SatchelSinsModel" := rfl
def D_X9_light : List (Nat × Instr × Nat) := [(0, .iload_n 1, 1), (1, .i2l, 1), (2, .lconst 0, 1), (3, .ldc2_w 248, 3), (6, .invokestatic 94, 3), (9, .ifCond .eq 15, 3), (12, .iload_n 2, 1), (13, .i2l, 1), (14, .lconst 0, 1), (15, .ldc2_w 289, 3), (18, .invokestatic 94, 3), (21, .ifCond .ne 6, 3), (24, .ldc 103, 2), (26, .ireturn, 1), (27, .ldc2_w 291, 3), (30, .lstore_n 3, 1), (31, .iconst 0, 1), (32, .istore 5, 2), (34, .iload 5, 2), (36, .iload_n 1, 1), (37, .if_icmp .ge 18, 3), (40, .lload_n 3, 1), (41, .iload_n 2, 1), (42, .i2l, 1), (43, .lmul, 1), (44, .ldc2_w 289, 3), (47, .ldiv, 1), (48, .lstore_n 3, 1), (49, .iinc 5 1, 3), (52, .goto (-18), 3), (55, .lload_n 3, 1), (56, .l2i, 1), (57, .ireturn, 1)]
theorem dd_X9_light : ∀ e ∈ D_X9_light, decode (mtJ 176).2.1 e.1 = .ok e.2 := by decide +kernel
set_option maxRecDepth 10000 in
theorem so_X9_light : ∀ e ∈ o_X9_light, SndO 176 e.1 e.2 := by
  refine List.forall_mem_cons.mpr ⟨s_iload_n (dd_X9_light (0, .iload_n 1, 1) (List.mem_of_getElem? (i := 0) rfl)) rfl, ?_⟩
  refine List.forall_mem_cons.mpr ⟨s_i2l (dd_X9_light (1, .i2l, 1) (List.mem_of_getElem? (i := 1) rfl)), ?_⟩
  refine List.forall_mem_cons.mpr ⟨s_lconst (dd_X9_light (2, .lconst 0, 1) (List.mem_of_getElem? (i := 2) rfl)) rfl, ?_⟩
  refine List.forall_mem_cons.mpr ⟨s_ldc2 (dd_X9_light (3, .ldc2_w 248, 3) (List.mem_of_getElem? (i := 3) rfl)) ow_X9_light kl9_248, ?_⟩
  refine List.forall_mem_cons.mpr ⟨⟨s_callS mo118 rfl (dd_X9_light (6, .invokestatic 94, 3) (List.mem_of_getElem? (i := 4) rfl)) ow_X9_light ml9_94 ms118 mn118, mo118⟩, ?_⟩
  refine List.forall_mem_cons.mpr ⟨s_if_eq (dd_X9_light (9, .ifCond .eq 15, 3) (List.mem_of_getElem? (i := 5) rfl)) (by decide), ?_⟩
  refine List.forall_mem_cons.mpr ⟨s_iload_n (dd_X9_light (12, .iload_n 2, 1) (List.mem_of_getElem? (i := 6) rfl)) rfl, ?_⟩
  refine List.forall_mem_cons.mpr ⟨s_i2l (dd_X9_light (13, .i2l, 1) (List.mem_of_getElem? (i := 7) rfl)), ?_⟩
  refine List.forall_mem_cons.mpr ⟨s_lconst (dd_X9_light (14, .lconst 0, 1) (List.mem_of_getElem? (i := 8) rfl)) rfl, ?_⟩
  refine List.forall_mem_cons.mpr ⟨s_ldc2 (dd_X9_light (15, .ldc2_w 289, 3) (List.mem_of_getElem? (i := 9) rfl)) ow_X9_light kl9_289, ?_⟩
  refine List.forall_mem_cons.mpr ⟨⟨s_callS mo118 rfl (dd_X9_light (18, .invokestatic 94, 3) (List.mem_of_getElem? (i := 10) rfl)) ow_X9_light ml9_94 ms118 mn118, mo118⟩, ?_⟩
  refine List.forall_mem_cons.mpr ⟨s_if_ne (dd_X9_light (21, .ifCond .ne 6, 3) (List.mem_of_getElem? (i := 11) rfl)) (by decide), ?_⟩
  refine List.forall_mem_cons.mpr ⟨s_ldc (dd_X9_light (24, .ldc 103, 2) (List.mem_of_getElem? (i := 12) rfl)) ow_X9_light ki9_103, ?_⟩
  refine List.forall_mem_cons.mpr ⟨Or.inr (Or.inl ⟨rfl, (dd_X9_light (26, .ireturn, 1) (List.mem_of_getElem? (i := 13) rfl)), rfl⟩), ?_⟩
  refine List.forall_mem_cons.mpr ⟨s_ldc2 (dd_X9_light (27, .ldc2_w 291, 3) (List.mem_of_getElem? (i := 14) rfl)) ow_X9_light kl9_291, ?_⟩
  refine List.forall_mem_cons.mpr ⟨s_lstore_n (dd_X9_light (30, .lstore_n 3, 1) (List.mem_of_getElem? (i := 15) rfl)) rfl, ?_⟩
  refine List.forall_mem_cons.mpr ⟨s_iconst (dd_X9_light (31, .iconst 0, 1) (List.mem_of_getElem? (i := 16) rfl)) rfl, ?_⟩
  refine List.forall_mem_cons.mpr ⟨s_istore (dd_X9_light (32, .istore 5, 2) (List.mem_of_getElem? (i := 17) rfl)), ?_⟩
  refine List.forall_mem_cons.mpr ⟨s_iload (dd_X9_light (34, .iload 5, 2) (List.mem_of_getElem? (i := 18) rfl)), ?_⟩
  refine List.forall_mem_cons.mpr ⟨s_iload_n (dd_X9_light (36, .iload_n 1, 1) (List.mem_of_getElem? (i := 19) rfl)) rfl, ?_⟩
  refine List.forall_mem_cons.mpr ⟨s_icmp_ge (dd_X9_light (37, .if_icmp .ge 18, 3) (List.mem_of_getElem? (i := 20) rfl)) (by decide), ?_⟩
  refine List.forall_mem_cons.mpr ⟨s_lload_n (dd_X9_light (40, .lload_n 3, 1) (List.mem_of_getElem? (i := 21) rfl)) rfl, ?_⟩
  refine List.forall_mem_cons.mpr ⟨s_iload_n (dd_X9_light (41, .iload_n 2, 1) (List.mem_of_getElem? (i := 22) rfl)) rfl, ?_⟩
  refine List.forall_mem_cons.mpr ⟨s_i2l (dd_X9_light (42, .i2l, 1) (List.mem_of_getElem? (i := 23) rfl)), ?_⟩
  refine List.forall_mem_cons.mpr ⟨s_lmul (dd_X9_light (43, .lmul, 1) (List.mem_of_getElem? (i := 24) rfl)), ?_⟩
  refine List.forall_mem_cons.mpr ⟨s_ldc2 (dd_X9_light (44, .ldc2_w 289, 3) (List.mem_of_getElem? (i := 25) rfl)) ow_X9_light kl9_289, ?_⟩
  refine List.forall_mem_cons.mpr ⟨s_ldiv (dd_X9_light (47, .ldiv, 1) (List.mem_of_getElem? (i := 26) rfl)), ?_⟩
  refine List.forall_mem_cons.mpr ⟨s_lstore_n (dd_X9_light (48, .lstore_n 3, 1) (List.mem_of_getElem? (i := 27) rfl)) rfl, ?_⟩
  refine List.forall_mem_cons.mpr ⟨s_iinc (dd_X9_light (49, .iinc 5 1, 3) (List.mem_of_getElem? (i := 28) rfl)) rfl, ?_⟩
  refine List.forall_mem_cons.mpr ⟨s_goto (dd_X9_light (52, .goto (-18), 3) (List.mem_of_getElem? (i := 29) rfl)) (by decide), ?_⟩
  refine List.forall_mem_cons.mpr ⟨s_lload_n (dd_X9_light (55, .lload_n 3, 1) (List.mem_of_getElem? (i := 30) rfl)) rfl, ?_⟩
  refine List.forall_mem_cons.mpr ⟨s_l2i (dd_X9_light (56, .l2i, 1) (List.mem_of_getElem? (i := 31) rfl)), ?_⟩
  refine List.forall_mem_cons.mpr ⟨Or.inr (Or.inl ⟨rfl, (dd_X9_light (57, .ireturn, 1) (List.mem_of_getElem? (i := 32) rfl)), rfl⟩), ?_⟩
  exact fun _ h => absurd h List.not_mem_nil
theorem ow_X9_see : (mtJ 177).1.cls = "SatchelSinsModel" := rfl
def D_X9_see : List (Nat × Instr × Nat) := [(0, .aload_n 0, 1), (1, .iload_n 1, 1), (2, .invokevirtual 201, 3), (5, .ifCond .eq 11, 3), (8, .aload_n 0, 1), (9, .iload_n 2, 1), (10, .invokevirtual 201, 3), (13, .ifCond .ne 6, 3), (16, .ldc 205, 2), (18, .ireturn, 1), (19, .aload_n 0, 1), (20, .getfield 169, 3), (23, .bipush 6, 2), (25, .if_icmp .ne 6, 3), (28, .ldc 107, 2), (30, .ireturn, 1), (31, .aload_n 0, 1), (32, .getfield 65, 3), (35, .aload_n 0, 1), (36, .getfield 169, 3), (39, .iload_n 1, 1), (40, .iastore, 1), (41, .aload_n 0, 1), (42, .getfield 68, 3), (45, .aload_n 0, 1), (46, .getfield 169, 3), (49, .iload_n 2, 1), (50, .iastore, 1), (51, .aload_n 0, 1), (52, .getfield 71, 3), (55, .aload_n 0, 1), (56, .getfield 169, 3), (59, .iload_n 3, 1), (60, .bastore, 1), (61, .aload_n 0, 1), (62, .dup, 1), (63, .getfield 169, 3), (66, .iconst 1, 1), (67, .iadd, 1), (68, .putfield 169, 3), (71, .aload_n 0, 1), (72, .getfield 169, 3), (75, .ireturn, 1)]
theorem dd_X9_see : ∀ e ∈ D_X9_see, decode (mtJ 177).2.1 e.1 = .ok e.2 := by decide +kernel
set_option maxRecDepth 10000 in
theorem so_X9_see : ∀ e ∈ o_X9_see, SndO 177 e.1 e.2 := by
  refine List.forall_mem_cons.mpr ⟨s_aload_n (dd_X9_see (0, .aload_n 0, 1) (List.mem_of_getElem? (i := 0) rfl)) rfl, ?_⟩
  refine List.forall_mem_cons.mpr ⟨s_iload_n (dd_X9_see (1, .iload_n 1, 1) (List.mem_of_getElem? (i := 1) rfl)) rfl, ?_⟩
  refine List.forall_mem_cons.mpr ⟨⟨s_callV (ci := 9) rfl mo120 rfl rfl (dd_X9_see (2, .invokevirtual 201, 3) (List.mem_of_getElem? (i := 2) rfl)) ow_X9_see ml9_201 mi120 msl120 in_9 mn120, mo120⟩, ?_⟩
  refine List.forall_mem_cons.mpr ⟨s_if_eq (dd_X9_see (5, .ifCond .eq 11, 3) (List.mem_of_getElem? (i := 3) rfl)) (by decide), ?_⟩
  refine List.forall_mem_cons.mpr ⟨s_aload_n (dd_X9_see (8, .aload_n 0, 1) (List.mem_of_getElem? (i := 4) rfl)) rfl, ?_⟩
  refine List.forall_mem_cons.mpr ⟨s_iload_n (dd_X9_see (9, .iload_n 2, 1) (List.mem_of_getElem? (i := 5) rfl)) rfl, ?_⟩
  refine List.forall_mem_cons.mpr ⟨⟨s_callV (ci := 9) rfl mo120 rfl rfl (dd_X9_see (10, .invokevirtual 201, 3) (List.mem_of_getElem? (i := 6) rfl)) ow_X9_see ml9_201 mi120 msl120 in_9 mn120, mo120⟩, ?_⟩
  refine List.forall_mem_cons.mpr ⟨s_if_ne (dd_X9_see (13, .ifCond .ne 6, 3) (List.mem_of_getElem? (i := 7) rfl)) (by decide), ?_⟩
  refine List.forall_mem_cons.mpr ⟨s_ldc (dd_X9_see (16, .ldc 205, 2) (List.mem_of_getElem? (i := 8) rfl)) ow_X9_see ki9_205, ?_⟩
  refine List.forall_mem_cons.mpr ⟨Or.inr (Or.inl ⟨rfl, (dd_X9_see (18, .ireturn, 1) (List.mem_of_getElem? (i := 9) rfl)), rfl⟩), ?_⟩
  refine List.forall_mem_cons.mpr ⟨s_aload_n (dd_X9_see (19, .aload_n 0, 1) (List.mem_of_getElem? (i := 10) rfl)) rfl, ?_⟩
  refine List.forall_mem_cons.mpr ⟨s_getI (k := 32) K9 (by decide) (dd_X9_see (20, .getfield 169, 3) (List.mem_of_getElem? (i := 11) rfl)) ow_X9_see fl9_169 rfl, ?_⟩
  refine List.forall_mem_cons.mpr ⟨s_bipush (dd_X9_see (23, .bipush 6, 2) (List.mem_of_getElem? (i := 12) rfl)) rfl, ?_⟩
  refine List.forall_mem_cons.mpr ⟨s_icmp_ne (dd_X9_see (25, .if_icmp .ne 6, 3) (List.mem_of_getElem? (i := 13) rfl)) (by decide), ?_⟩
  refine List.forall_mem_cons.mpr ⟨s_ldc (dd_X9_see (28, .ldc 107, 2) (List.mem_of_getElem? (i := 14) rfl)) ow_X9_see ki9_107, ?_⟩
  refine List.forall_mem_cons.mpr ⟨Or.inr (Or.inl ⟨rfl, (dd_X9_see (30, .ireturn, 1) (List.mem_of_getElem? (i := 15) rfl)), rfl⟩), ?_⟩
  refine List.forall_mem_cons.mpr ⟨s_aload_n (dd_X9_see (31, .aload_n 0, 1) (List.mem_of_getElem? (i := 16) rfl)) rfl, ?_⟩
  refine List.forall_mem_cons.mpr ⟨s_getR (k := 33) K9 (by decide) (dd_X9_see (32, .getfield 65, 3) (List.mem_of_getElem? (i := 17) rfl)) ow_X9_see fl9_65 rfl, ?_⟩
  refine List.forall_mem_cons.mpr ⟨s_aload_n (dd_X9_see (35, .aload_n 0, 1) (List.mem_of_getElem? (i := 18) rfl)) rfl, ?_⟩
  refine List.forall_mem_cons.mpr ⟨s_getI (k := 32) K9 (by decide) (dd_X9_see (36, .getfield 169, 3) (List.mem_of_getElem? (i := 19) rfl)) ow_X9_see fl9_169 rfl, ?_⟩
  refine List.forall_mem_cons.mpr ⟨s_iload_n (dd_X9_see (39, .iload_n 1, 1) (List.mem_of_getElem? (i := 20) rfl)) rfl, ?_⟩
  refine List.forall_mem_cons.mpr ⟨s_iast (dd_X9_see (40, .iastore, 1) (List.mem_of_getElem? (i := 21) rfl)), ?_⟩
  refine List.forall_mem_cons.mpr ⟨s_aload_n (dd_X9_see (41, .aload_n 0, 1) (List.mem_of_getElem? (i := 22) rfl)) rfl, ?_⟩
  refine List.forall_mem_cons.mpr ⟨s_getR (k := 34) K9 (by decide) (dd_X9_see (42, .getfield 68, 3) (List.mem_of_getElem? (i := 23) rfl)) ow_X9_see fl9_68 rfl, ?_⟩
  refine List.forall_mem_cons.mpr ⟨s_aload_n (dd_X9_see (45, .aload_n 0, 1) (List.mem_of_getElem? (i := 24) rfl)) rfl, ?_⟩
  refine List.forall_mem_cons.mpr ⟨s_getI (k := 32) K9 (by decide) (dd_X9_see (46, .getfield 169, 3) (List.mem_of_getElem? (i := 25) rfl)) ow_X9_see fl9_169 rfl, ?_⟩
  refine List.forall_mem_cons.mpr ⟨s_iload_n (dd_X9_see (49, .iload_n 2, 1) (List.mem_of_getElem? (i := 26) rfl)) rfl, ?_⟩
  refine List.forall_mem_cons.mpr ⟨s_iast (dd_X9_see (50, .iastore, 1) (List.mem_of_getElem? (i := 27) rfl)), ?_⟩
  refine List.forall_mem_cons.mpr ⟨s_aload_n (dd_X9_see (51, .aload_n 0, 1) (List.mem_of_getElem? (i := 28) rfl)) rfl, ?_⟩
  refine List.forall_mem_cons.mpr ⟨s_getR (k := 35) K9 (by decide) (dd_X9_see (52, .getfield 71, 3) (List.mem_of_getElem? (i := 29) rfl)) ow_X9_see fl9_71 rfl, ?_⟩
  refine List.forall_mem_cons.mpr ⟨s_aload_n (dd_X9_see (55, .aload_n 0, 1) (List.mem_of_getElem? (i := 30) rfl)) rfl, ?_⟩
  refine List.forall_mem_cons.mpr ⟨s_getI (k := 32) K9 (by decide) (dd_X9_see (56, .getfield 169, 3) (List.mem_of_getElem? (i := 31) rfl)) ow_X9_see fl9_169 rfl, ?_⟩
  refine List.forall_mem_cons.mpr ⟨s_iload_n (dd_X9_see (59, .iload_n 3, 1) (List.mem_of_getElem? (i := 32) rfl)) rfl, ?_⟩
  refine List.forall_mem_cons.mpr ⟨s_bast (dd_X9_see (60, .bastore, 1) (List.mem_of_getElem? (i := 33) rfl)), ?_⟩
  refine List.forall_mem_cons.mpr ⟨s_aload_n (dd_X9_see (61, .aload_n 0, 1) (List.mem_of_getElem? (i := 34) rfl)) rfl, ?_⟩
  refine List.forall_mem_cons.mpr ⟨s_dup (dd_X9_see (62, .dup, 1) (List.mem_of_getElem? (i := 35) rfl)), ?_⟩
  refine List.forall_mem_cons.mpr ⟨s_getI (k := 32) K9 (by decide) (dd_X9_see (63, .getfield 169, 3) (List.mem_of_getElem? (i := 36) rfl)) ow_X9_see fl9_169 rfl, ?_⟩
  refine List.forall_mem_cons.mpr ⟨s_iconst (dd_X9_see (66, .iconst 1, 1) (List.mem_of_getElem? (i := 37) rfl)) rfl, ?_⟩
  refine List.forall_mem_cons.mpr ⟨s_iadd (dd_X9_see (67, .iadd, 1) (List.mem_of_getElem? (i := 38) rfl)), ?_⟩
  refine List.forall_mem_cons.mpr ⟨s_putI (k := 32) K9 (by decide) (dd_X9_see (68, .putfield 169, 3) (List.mem_of_getElem? (i := 39) rfl)) ow_X9_see fl9_169 (Or.inl rfl) rfl, ?_⟩
  refine List.forall_mem_cons.mpr ⟨s_aload_n (dd_X9_see (71, .aload_n 0, 1) (List.mem_of_getElem? (i := 40) rfl)) rfl, ?_⟩
  refine List.forall_mem_cons.mpr ⟨s_getI (k := 32) K9 (by decide) (dd_X9_see (72, .getfield 169, 3) (List.mem_of_getElem? (i := 41) rfl)) ow_X9_see fl9_169 rfl, ?_⟩
  refine List.forall_mem_cons.mpr ⟨Or.inr (Or.inl ⟨rfl, (dd_X9_see (75, .ireturn, 1) (List.mem_of_getElem? (i := 42) rfl)), rfl⟩), ?_⟩
  exact fun _ h => absurd h List.not_mem_nil
theorem ow_X9_lies : (mtJ 178).1.cls = "SatchelSinsModel" := rfl
def D_X9_lies : List (Nat × Instr × Nat) := [(0, .iconst 0, 1), (1, .istore_n 3, 1), (2, .iconst 0, 1), (3, .istore 4, 2), (5, .iload 4, 2), (7, .aload_n 0, 1), (8, .getfield 98, 3), (11, .if_icmp .ge 41, 3), (14, .iload_n 3, 1), (15, .ifCond .ne 25, 3), (18, .aload_n 0, 1), (19, .iload 4, 2), (21, .iconst 3, 1), (22, .iload_n 1, 1), (23, .invokevirtual 178, 3), (26, .ifCond .eq 18, 3), (29, .aload_n 0, 1), (30, .getfield 19, 3), (33, .iload 4, 2), (35, .iaload, 1), (36, .iload_n 2, 1), (37, .if_icmp .ne 7, 3), (40, .iconst 1, 1), (41, .goto 4, 3), (44, .iconst 0, 1), (45, .istore_n 3, 1), (46, .iinc 4 1, 3), (49, .goto (-44), 3), (52, .iload_n 3, 1), (53, .ireturn, 1)]
theorem dd_X9_lies : ∀ e ∈ D_X9_lies, decode (mtJ 178).2.1 e.1 = .ok e.2 := by decide +kernel
set_option maxRecDepth 10000 in
theorem so_X9_lies : ∀ e ∈ o_X9_lies, SndO 178 e.1 e.2 := by
  refine List.forall_mem_cons.mpr ⟨s_iconst (dd_X9_lies (0, .iconst 0, 1) (List.mem_of_getElem? (i := 0) rfl)) rfl, ?_⟩
  refine List.forall_mem_cons.mpr ⟨s_istore_n (dd_X9_lies (1, .istore_n 3, 1) (List.mem_of_getElem? (i := 1) rfl)) rfl, ?_⟩
  refine List.forall_mem_cons.mpr ⟨s_iconst (dd_X9_lies (2, .iconst 0, 1) (List.mem_of_getElem? (i := 2) rfl)) rfl, ?_⟩
  refine List.forall_mem_cons.mpr ⟨s_istore (dd_X9_lies (3, .istore 4, 2) (List.mem_of_getElem? (i := 3) rfl)), ?_⟩
  refine List.forall_mem_cons.mpr ⟨s_iload (dd_X9_lies (5, .iload 4, 2) (List.mem_of_getElem? (i := 4) rfl)), ?_⟩
  refine List.forall_mem_cons.mpr ⟨s_aload_n (dd_X9_lies (7, .aload_n 0, 1) (List.mem_of_getElem? (i := 5) rfl)) rfl, ?_⟩
  refine List.forall_mem_cons.mpr ⟨s_getI (k := 6) K9 (by decide) (dd_X9_lies (8, .getfield 98, 3) (List.mem_of_getElem? (i := 6) rfl)) ow_X9_lies fl9_98 rfl, ?_⟩
  refine List.forall_mem_cons.mpr ⟨s_icmp_ge (dd_X9_lies (11, .if_icmp .ge 41, 3) (List.mem_of_getElem? (i := 7) rfl)) (by decide), ?_⟩
  refine List.forall_mem_cons.mpr ⟨s_iload_n (dd_X9_lies (14, .iload_n 3, 1) (List.mem_of_getElem? (i := 8) rfl)) rfl, ?_⟩
  refine List.forall_mem_cons.mpr ⟨s_if_ne (dd_X9_lies (15, .ifCond .ne 25, 3) (List.mem_of_getElem? (i := 9) rfl)) (by decide), ?_⟩
  refine List.forall_mem_cons.mpr ⟨s_aload_n (dd_X9_lies (18, .aload_n 0, 1) (List.mem_of_getElem? (i := 10) rfl)) rfl, ?_⟩
  refine List.forall_mem_cons.mpr ⟨s_iload (dd_X9_lies (19, .iload 4, 2) (List.mem_of_getElem? (i := 11) rfl)), ?_⟩
  refine List.forall_mem_cons.mpr ⟨s_iconst (dd_X9_lies (21, .iconst 3, 1) (List.mem_of_getElem? (i := 12) rfl)) rfl, ?_⟩
  refine List.forall_mem_cons.mpr ⟨s_iload_n (dd_X9_lies (22, .iload_n 1, 1) (List.mem_of_getElem? (i := 13) rfl)) rfl, ?_⟩
  refine List.forall_mem_cons.mpr ⟨⟨s_callV (ci := 9) rfl mo135 rfl rfl (dd_X9_lies (23, .invokevirtual 178, 3) (List.mem_of_getElem? (i := 14) rfl)) ow_X9_lies ml9_178 mi135 msl135 in_9 mn135, mo135⟩, ?_⟩
  refine List.forall_mem_cons.mpr ⟨s_if_eq (dd_X9_lies (26, .ifCond .eq 18, 3) (List.mem_of_getElem? (i := 15) rfl)) (by decide), ?_⟩
  refine List.forall_mem_cons.mpr ⟨s_aload_n (dd_X9_lies (29, .aload_n 0, 1) (List.mem_of_getElem? (i := 16) rfl)) rfl, ?_⟩
  refine List.forall_mem_cons.mpr ⟨s_getR (k := 7) K9 (by decide) (dd_X9_lies (30, .getfield 19, 3) (List.mem_of_getElem? (i := 17) rfl)) ow_X9_lies fl9_19 rfl, ?_⟩
  refine List.forall_mem_cons.mpr ⟨s_iload (dd_X9_lies (33, .iload 4, 2) (List.mem_of_getElem? (i := 18) rfl)), ?_⟩
  refine List.forall_mem_cons.mpr ⟨s_iald (dd_X9_lies (35, .iaload, 1) (List.mem_of_getElem? (i := 19) rfl)), ?_⟩
  refine List.forall_mem_cons.mpr ⟨s_iload_n (dd_X9_lies (36, .iload_n 2, 1) (List.mem_of_getElem? (i := 20) rfl)) rfl, ?_⟩
  refine List.forall_mem_cons.mpr ⟨s_icmp_ne (dd_X9_lies (37, .if_icmp .ne 7, 3) (List.mem_of_getElem? (i := 21) rfl)) (by decide), ?_⟩
  refine List.forall_mem_cons.mpr ⟨s_iconst (dd_X9_lies (40, .iconst 1, 1) (List.mem_of_getElem? (i := 22) rfl)) rfl, ?_⟩
  refine List.forall_mem_cons.mpr ⟨s_goto (dd_X9_lies (41, .goto 4, 3) (List.mem_of_getElem? (i := 23) rfl)) (by decide), ?_⟩
  refine List.forall_mem_cons.mpr ⟨s_iconst (dd_X9_lies (44, .iconst 0, 1) (List.mem_of_getElem? (i := 24) rfl)) rfl, ?_⟩
  refine List.forall_mem_cons.mpr ⟨s_istore_n (dd_X9_lies (45, .istore_n 3, 1) (List.mem_of_getElem? (i := 25) rfl)) rfl, ?_⟩
  refine List.forall_mem_cons.mpr ⟨s_iinc (dd_X9_lies (46, .iinc 4 1, 3) (List.mem_of_getElem? (i := 26) rfl)) rfl, ?_⟩
  refine List.forall_mem_cons.mpr ⟨s_goto (dd_X9_lies (49, .goto (-44), 3) (List.mem_of_getElem? (i := 27) rfl)) (by decide), ?_⟩
  refine List.forall_mem_cons.mpr ⟨s_iload_n (dd_X9_lies (52, .iload_n 3, 1) (List.mem_of_getElem? (i := 28) rfl)) rfl, ?_⟩
  refine List.forall_mem_cons.mpr ⟨Or.inr (Or.inr ⟨rfl, (dd_X9_lies (53, .ireturn, 1) (List.mem_of_getElem? (i := 29) rfl)), rfl⟩), ?_⟩
  exact fun _ h => absurd h List.not_mem_nil
theorem ow_X9_hold : (mtJ 179).1.cls = "SatchelSinsModel" := rfl
def D_X9_hold : List (Nat × Instr × Nat) := [(0, .iconst 1, 1), (1, .istore_n 1, 1), (2, .iconst 0, 1), (3, .istore_n 2, 1), (4, .iload_n 2, 1), (5, .aload_n 0, 1), (6, .getfield 169, 3), (9, .if_icmp .ge 44, 3), (12, .iload_n 1, 1), (13, .ifCond .eq 32, 3), (16, .aload_n 0, 1), (17, .aload_n 0, 1), (18, .getfield 65, 3), (21, .iload_n 2, 1), (22, .iaload, 1), (23, .aload_n 0, 1), (24, .getfield 68, 3), (27, .iload_n 2, 1), (28, .iaload, 1), (29, .invokevirtual 293, 3), (32, .aload_n 0, 1), (33, .getfield 71, 3), (36, .iload_n 2, 1), (37, .baload, 1), (38, .if_icmp .ne 7, 3), (41, .iconst 1, 1), (42, .goto 4, 3), (45, .iconst 0, 1), (46, .istore_n 1, 1), (47, .iinc 2 1, 3), (50, .goto (-46), 3), (53, .iload_n 1, 1), (54, .ifCond .eq 7, 3), (57, .iconst 1, 1), (58, .goto 4, 3), (61, .iconst 0, 1), (62, .ireturn, 1)]
theorem dd_X9_hold : ∀ e ∈ D_X9_hold, decode (mtJ 179).2.1 e.1 = .ok e.2 := by decide +kernel
set_option maxRecDepth 10000 in
theorem so_X9_hold : ∀ e ∈ o_X9_hold, SndO 179 e.1 e.2 := by
  refine List.forall_mem_cons.mpr ⟨s_iconst (dd_X9_hold (0, .iconst 1, 1) (List.mem_of_getElem? (i := 0) rfl)) rfl, ?_⟩
  refine List.forall_mem_cons.mpr ⟨s_istore_n (dd_X9_hold (1, .istore_n 1, 1) (List.mem_of_getElem? (i := 1) rfl)) rfl, ?_⟩
  refine List.forall_mem_cons.mpr ⟨s_iconst (dd_X9_hold (2, .iconst 0, 1) (List.mem_of_getElem? (i := 2) rfl)) rfl, ?_⟩
  refine List.forall_mem_cons.mpr ⟨s_istore_n (dd_X9_hold (3, .istore_n 2, 1) (List.mem_of_getElem? (i := 3) rfl)) rfl, ?_⟩
  refine List.forall_mem_cons.mpr ⟨s_iload_n (dd_X9_hold (4, .iload_n 2, 1) (List.mem_of_getElem? (i := 4) rfl)) rfl, ?_⟩
  refine List.forall_mem_cons.mpr ⟨s_aload_n (dd_X9_hold (5, .aload_n 0, 1) (List.mem_of_getElem? (i := 5) rfl)) rfl, ?_⟩
  refine List.forall_mem_cons.mpr ⟨s_getI (k := 32) K9 (by decide) (dd_X9_hold (6, .getfield 169, 3) (List.mem_of_getElem? (i := 6) rfl)) ow_X9_hold fl9_169 rfl, ?_⟩
  refine List.forall_mem_cons.mpr ⟨s_icmp_ge (dd_X9_hold (9, .if_icmp .ge 44, 3) (List.mem_of_getElem? (i := 7) rfl)) (by decide), ?_⟩
  refine List.forall_mem_cons.mpr ⟨s_iload_n (dd_X9_hold (12, .iload_n 1, 1) (List.mem_of_getElem? (i := 8) rfl)) rfl, ?_⟩
  refine List.forall_mem_cons.mpr ⟨s_if_eq (dd_X9_hold (13, .ifCond .eq 32, 3) (List.mem_of_getElem? (i := 9) rfl)) (by decide), ?_⟩
  refine List.forall_mem_cons.mpr ⟨s_aload_n (dd_X9_hold (16, .aload_n 0, 1) (List.mem_of_getElem? (i := 10) rfl)) rfl, ?_⟩
  refine List.forall_mem_cons.mpr ⟨s_aload_n (dd_X9_hold (17, .aload_n 0, 1) (List.mem_of_getElem? (i := 11) rfl)) rfl, ?_⟩
  refine List.forall_mem_cons.mpr ⟨s_getR (k := 33) K9 (by decide) (dd_X9_hold (18, .getfield 65, 3) (List.mem_of_getElem? (i := 12) rfl)) ow_X9_hold fl9_65 rfl, ?_⟩
  refine List.forall_mem_cons.mpr ⟨s_iload_n (dd_X9_hold (21, .iload_n 2, 1) (List.mem_of_getElem? (i := 13) rfl)) rfl, ?_⟩
  refine List.forall_mem_cons.mpr ⟨s_iald (dd_X9_hold (22, .iaload, 1) (List.mem_of_getElem? (i := 14) rfl)), ?_⟩
  refine List.forall_mem_cons.mpr ⟨s_aload_n (dd_X9_hold (23, .aload_n 0, 1) (List.mem_of_getElem? (i := 15) rfl)) rfl, ?_⟩
  refine List.forall_mem_cons.mpr ⟨s_getR (k := 34) K9 (by decide) (dd_X9_hold (24, .getfield 68, 3) (List.mem_of_getElem? (i := 16) rfl)) ow_X9_hold fl9_68 rfl, ?_⟩
  refine List.forall_mem_cons.mpr ⟨s_iload_n (dd_X9_hold (27, .iload_n 2, 1) (List.mem_of_getElem? (i := 17) rfl)) rfl, ?_⟩
  refine List.forall_mem_cons.mpr ⟨s_iald (dd_X9_hold (28, .iaload, 1) (List.mem_of_getElem? (i := 18) rfl)), ?_⟩
  refine List.forall_mem_cons.mpr ⟨⟨s_callV (ci := 9) rfl mo178 rfl rfl (dd_X9_hold (29, .invokevirtual 293, 3) (List.mem_of_getElem? (i := 19) rfl)) ow_X9_hold ml9_293 mi178 msl178 in_9 mn178, mo178⟩, ?_⟩
  refine List.forall_mem_cons.mpr ⟨s_aload_n (dd_X9_hold (32, .aload_n 0, 1) (List.mem_of_getElem? (i := 20) rfl)) rfl, ?_⟩
  refine List.forall_mem_cons.mpr ⟨s_getR (k := 35) K9 (by decide) (dd_X9_hold (33, .getfield 71, 3) (List.mem_of_getElem? (i := 21) rfl)) ow_X9_hold fl9_71 rfl, ?_⟩
  refine List.forall_mem_cons.mpr ⟨s_iload_n (dd_X9_hold (36, .iload_n 2, 1) (List.mem_of_getElem? (i := 22) rfl)) rfl, ?_⟩
  refine List.forall_mem_cons.mpr ⟨s_bald (dd_X9_hold (37, .baload, 1) (List.mem_of_getElem? (i := 23) rfl)), ?_⟩
  refine List.forall_mem_cons.mpr ⟨s_icmp_ne (dd_X9_hold (38, .if_icmp .ne 7, 3) (List.mem_of_getElem? (i := 24) rfl)) (by decide), ?_⟩
  refine List.forall_mem_cons.mpr ⟨s_iconst (dd_X9_hold (41, .iconst 1, 1) (List.mem_of_getElem? (i := 25) rfl)) rfl, ?_⟩
  refine List.forall_mem_cons.mpr ⟨s_goto (dd_X9_hold (42, .goto 4, 3) (List.mem_of_getElem? (i := 26) rfl)) (by decide), ?_⟩
  refine List.forall_mem_cons.mpr ⟨s_iconst (dd_X9_hold (45, .iconst 0, 1) (List.mem_of_getElem? (i := 27) rfl)) rfl, ?_⟩
  refine List.forall_mem_cons.mpr ⟨s_istore_n (dd_X9_hold (46, .istore_n 1, 1) (List.mem_of_getElem? (i := 28) rfl)) rfl, ?_⟩
  refine List.forall_mem_cons.mpr ⟨s_iinc (dd_X9_hold (47, .iinc 2 1, 3) (List.mem_of_getElem? (i := 29) rfl)) rfl, ?_⟩
  refine List.forall_mem_cons.mpr ⟨s_goto (dd_X9_hold (50, .goto (-46), 3) (List.mem_of_getElem? (i := 30) rfl)) (by decide), ?_⟩
  refine List.forall_mem_cons.mpr ⟨s_iload_n (dd_X9_hold (53, .iload_n 1, 1) (List.mem_of_getElem? (i := 31) rfl)) rfl, ?_⟩
  refine List.forall_mem_cons.mpr ⟨s_if_eq (dd_X9_hold (54, .ifCond .eq 7, 3) (List.mem_of_getElem? (i := 32) rfl)) (by decide), ?_⟩
  refine List.forall_mem_cons.mpr ⟨s_iconst (dd_X9_hold (57, .iconst 1, 1) (List.mem_of_getElem? (i := 33) rfl)) rfl, ?_⟩
  refine List.forall_mem_cons.mpr ⟨s_goto (dd_X9_hold (58, .goto 4, 3) (List.mem_of_getElem? (i := 34) rfl)) (by decide), ?_⟩
  refine List.forall_mem_cons.mpr ⟨s_iconst (dd_X9_hold (61, .iconst 0, 1) (List.mem_of_getElem? (i := 35) rfl)) rfl, ?_⟩
  refine List.forall_mem_cons.mpr ⟨Or.inr (Or.inl ⟨rfl, (dd_X9_hold (62, .ireturn, 1) (List.mem_of_getElem? (i := 36) rfl)), rfl⟩), ?_⟩
  exact fun _ h => absurd h List.not_mem_nil
theorem ow_X9_write : (mtJ 180).1.cls = "SatchelSinsModel" := rfl
def D_X9_write : List (Nat × Instr × Nat) := [(0, .aload_n 0, 1), (1, .iload_n 1, 1), (2, .invokevirtual 201, 3), (5, .ifCond .ne 6, 3), (8, .ldc 205, 2), (10, .ireturn, 1), (11, .iload_n 2, 1), (12, .i2l, 1), (13, .lconst 0, 1), (14, .ldc2_w 276, 3), (17, .invokestatic 94, 3), (20, .ifCond .ne 6, 3), (23, .ldc 103, 2), (25, .ireturn, 1), (26, .aload_n 0, 1), (27, .getfield 172, 3), (30, .bipush 15, 2), (32, .if_icmp .ne 6, 3), (35, .ldc 107, 2), (37, .ireturn, 1), (38, .aload_n 0, 1), (39, .getfield 75, 3), (42, .aload_n 0, 1), (43, .getfield 172, 3), (46, .iload_n 1, 1), (47, .iastore, 1), (48, .aload_n 0, 1), (49, .getfield 78, 3), (52, .aload_n 0, 1), (53, .getfield 172, 3), (56, .iload_n 2, 1), (57, .iastore, 1), (58, .aload_n 0, 1), (59, .dup, 1), (60, .getfield 172, 3), (63, .iconst 1, 1), (64, .iadd, 1), (65, .putfield 172, 3), (68, .aload_n 0, 1), (69, .getfield 172, 3), (72, .ireturn, 1)]
theorem dd_X9_write : ∀ e ∈ D_X9_write, decode (mtJ 180).2.1 e.1 = .ok e.2 := by decide +kernel
set_option maxRecDepth 10000 in
theorem so_X9_write : ∀ e ∈ o_X9_write, SndO 180 e.1 e.2 := by
  refine List.forall_mem_cons.mpr ⟨s_aload_n (dd_X9_write (0, .aload_n 0, 1) (List.mem_of_getElem? (i := 0) rfl)) rfl, ?_⟩
  refine List.forall_mem_cons.mpr ⟨s_iload_n (dd_X9_write (1, .iload_n 1, 1) (List.mem_of_getElem? (i := 1) rfl)) rfl, ?_⟩
  refine List.forall_mem_cons.mpr ⟨⟨s_callV (ci := 9) rfl mo120 rfl rfl (dd_X9_write (2, .invokevirtual 201, 3) (List.mem_of_getElem? (i := 2) rfl)) ow_X9_write ml9_201 mi120 msl120 in_9 mn120, mo120⟩, ?_⟩
  refine List.forall_mem_cons.mpr ⟨s_if_ne (dd_X9_write (5, .ifCond .ne 6, 3) (List.mem_of_getElem? (i := 3) rfl)) (by decide), ?_⟩
  refine List.forall_mem_cons.mpr ⟨s_ldc (dd_X9_write (8, .ldc 205, 2) (List.mem_of_getElem? (i := 4) rfl)) ow_X9_write ki9_205, ?_⟩
  refine List.forall_mem_cons.mpr ⟨Or.inr (Or.inl ⟨rfl, (dd_X9_write (10, .ireturn, 1) (List.mem_of_getElem? (i := 5) rfl)), rfl⟩), ?_⟩
  refine List.forall_mem_cons.mpr ⟨s_iload_n (dd_X9_write (11, .iload_n 2, 1) (List.mem_of_getElem? (i := 6) rfl)) rfl, ?_⟩
  refine List.forall_mem_cons.mpr ⟨s_i2l (dd_X9_write (12, .i2l, 1) (List.mem_of_getElem? (i := 7) rfl)), ?_⟩
  refine List.forall_mem_cons.mpr ⟨s_lconst (dd_X9_write (13, .lconst 0, 1) (List.mem_of_getElem? (i := 8) rfl)) rfl, ?_⟩
  refine List.forall_mem_cons.mpr ⟨s_ldc2 (dd_X9_write (14, .ldc2_w 276, 3) (List.mem_of_getElem? (i := 9) rfl)) ow_X9_write kl9_276, ?_⟩
  refine List.forall_mem_cons.mpr ⟨⟨s_callS mo118 rfl (dd_X9_write (17, .invokestatic 94, 3) (List.mem_of_getElem? (i := 10) rfl)) ow_X9_write ml9_94 ms118 mn118, mo118⟩, ?_⟩
  refine List.forall_mem_cons.mpr ⟨s_if_ne (dd_X9_write (20, .ifCond .ne 6, 3) (List.mem_of_getElem? (i := 11) rfl)) (by decide), ?_⟩
  refine List.forall_mem_cons.mpr ⟨s_ldc (dd_X9_write (23, .ldc 103, 2) (List.mem_of_getElem? (i := 12) rfl)) ow_X9_write ki9_103, ?_⟩
  refine List.forall_mem_cons.mpr ⟨Or.inr (Or.inl ⟨rfl, (dd_X9_write (25, .ireturn, 1) (List.mem_of_getElem? (i := 13) rfl)), rfl⟩), ?_⟩
  refine List.forall_mem_cons.mpr ⟨s_aload_n (dd_X9_write (26, .aload_n 0, 1) (List.mem_of_getElem? (i := 14) rfl)) rfl, ?_⟩
  refine List.forall_mem_cons.mpr ⟨s_getI (k := 36) K9 (by decide) (dd_X9_write (27, .getfield 172, 3) (List.mem_of_getElem? (i := 15) rfl)) ow_X9_write fl9_172 rfl, ?_⟩
  refine List.forall_mem_cons.mpr ⟨s_bipush (dd_X9_write (30, .bipush 15, 2) (List.mem_of_getElem? (i := 16) rfl)) rfl, ?_⟩
  refine List.forall_mem_cons.mpr ⟨s_icmp_ne (dd_X9_write (32, .if_icmp .ne 6, 3) (List.mem_of_getElem? (i := 17) rfl)) (by decide), ?_⟩
  refine List.forall_mem_cons.mpr ⟨s_ldc (dd_X9_write (35, .ldc 107, 2) (List.mem_of_getElem? (i := 18) rfl)) ow_X9_write ki9_107, ?_⟩
  refine List.forall_mem_cons.mpr ⟨Or.inr (Or.inl ⟨rfl, (dd_X9_write (37, .ireturn, 1) (List.mem_of_getElem? (i := 19) rfl)), rfl⟩), ?_⟩
  refine List.forall_mem_cons.mpr ⟨s_aload_n (dd_X9_write (38, .aload_n 0, 1) (List.mem_of_getElem? (i := 20) rfl)) rfl, ?_⟩
  refine List.forall_mem_cons.mpr ⟨s_getR (k := 37) K9 (by decide) (dd_X9_write (39, .getfield 75, 3) (List.mem_of_getElem? (i := 21) rfl)) ow_X9_write fl9_75 rfl, ?_⟩
  refine List.forall_mem_cons.mpr ⟨s_aload_n (dd_X9_write (42, .aload_n 0, 1) (List.mem_of_getElem? (i := 22) rfl)) rfl, ?_⟩
  refine List.forall_mem_cons.mpr ⟨s_getI (k := 36) K9 (by decide) (dd_X9_write (43, .getfield 172, 3) (List.mem_of_getElem? (i := 23) rfl)) ow_X9_write fl9_172 rfl, ?_⟩
  refine List.forall_mem_cons.mpr ⟨s_iload_n (dd_X9_write (46, .iload_n 1, 1) (List.mem_of_getElem? (i := 24) rfl)) rfl, ?_⟩
  refine List.forall_mem_cons.mpr ⟨s_iast (dd_X9_write (47, .iastore, 1) (List.mem_of_getElem? (i := 25) rfl)), ?_⟩
  refine List.forall_mem_cons.mpr ⟨s_aload_n (dd_X9_write (48, .aload_n 0, 1) (List.mem_of_getElem? (i := 26) rfl)) rfl, ?_⟩
  refine List.forall_mem_cons.mpr ⟨s_getR (k := 38) K9 (by decide) (dd_X9_write (49, .getfield 78, 3) (List.mem_of_getElem? (i := 27) rfl)) ow_X9_write fl9_78 rfl, ?_⟩
  refine List.forall_mem_cons.mpr ⟨s_aload_n (dd_X9_write (52, .aload_n 0, 1) (List.mem_of_getElem? (i := 28) rfl)) rfl, ?_⟩
  refine List.forall_mem_cons.mpr ⟨s_getI (k := 36) K9 (by decide) (dd_X9_write (53, .getfield 172, 3) (List.mem_of_getElem? (i := 29) rfl)) ow_X9_write fl9_172 rfl, ?_⟩
  refine List.forall_mem_cons.mpr ⟨s_iload_n (dd_X9_write (56, .iload_n 2, 1) (List.mem_of_getElem? (i := 30) rfl)) rfl, ?_⟩
  refine List.forall_mem_cons.mpr ⟨s_iast (dd_X9_write (57, .iastore, 1) (List.mem_of_getElem? (i := 31) rfl)), ?_⟩
  refine List.forall_mem_cons.mpr ⟨s_aload_n (dd_X9_write (58, .aload_n 0, 1) (List.mem_of_getElem? (i := 32) rfl)) rfl, ?_⟩
  refine List.forall_mem_cons.mpr ⟨s_dup (dd_X9_write (59, .dup, 1) (List.mem_of_getElem? (i := 33) rfl)), ?_⟩
  refine List.forall_mem_cons.mpr ⟨s_getI (k := 36) K9 (by decide) (dd_X9_write (60, .getfield 172, 3) (List.mem_of_getElem? (i := 34) rfl)) ow_X9_write fl9_172 rfl, ?_⟩
  refine List.forall_mem_cons.mpr ⟨s_iconst (dd_X9_write (63, .iconst 1, 1) (List.mem_of_getElem? (i := 35) rfl)) rfl, ?_⟩
  refine List.forall_mem_cons.mpr ⟨s_iadd (dd_X9_write (64, .iadd, 1) (List.mem_of_getElem? (i := 36) rfl)), ?_⟩
  refine List.forall_mem_cons.mpr ⟨s_putI (k := 36) K9 (by decide) (dd_X9_write (65, .putfield 172, 3) (List.mem_of_getElem? (i := 37) rfl)) ow_X9_write fl9_172 (Or.inl rfl) rfl, ?_⟩
  refine List.forall_mem_cons.mpr ⟨s_aload_n (dd_X9_write (68, .aload_n 0, 1) (List.mem_of_getElem? (i := 38) rfl)) rfl, ?_⟩
  refine List.forall_mem_cons.mpr ⟨s_getI (k := 36) K9 (by decide) (dd_X9_write (69, .getfield 172, 3) (List.mem_of_getElem? (i := 39) rfl)) ow_X9_write fl9_172 rfl, ?_⟩
  refine List.forall_mem_cons.mpr ⟨Or.inr (Or.inl ⟨rfl, (dd_X9_write (72, .ireturn, 1) (List.mem_of_getElem? (i := 40) rfl)), rfl⟩), ?_⟩
  exact fun _ h => absurd h List.not_mem_nil
theorem ow_X9_tear : (mtJ 181).1.cls = "SatchelSinsModel" := rfl
def D_X9_tear : List (Nat × Instr × Nat) := [(0, .aload_n 0, 1), (1, .getfield 169, 3), (4, .aload_n 0, 1), (5, .getfield 172, 3), (8, .iadd, 1), (9, .istore_n 1, 1), (10, .aload_n 0, 1), (11, .iconst 0, 1), (12, .putfield 169, 3), (15, .aload_n 0, 1), (16, .iconst 0, 1), (17, .putfield 172, 3), (20, .iload_n 1, 1), (21, .ireturn, 1)]
theorem dd_X9_tear : ∀ e ∈ D_X9_tear, decode (mtJ 181).2.1 e.1 = .ok e.2 := by decide +kernel
set_option maxRecDepth 10000 in
theorem so_X9_tear : ∀ e ∈ o_X9_tear, SndO 181 e.1 e.2 := by
  refine List.forall_mem_cons.mpr ⟨s_aload_n (dd_X9_tear (0, .aload_n 0, 1) (List.mem_of_getElem? (i := 0) rfl)) rfl, ?_⟩
  refine List.forall_mem_cons.mpr ⟨s_getI (k := 32) K9 (by decide) (dd_X9_tear (1, .getfield 169, 3) (List.mem_of_getElem? (i := 1) rfl)) ow_X9_tear fl9_169 rfl, ?_⟩
  refine List.forall_mem_cons.mpr ⟨s_aload_n (dd_X9_tear (4, .aload_n 0, 1) (List.mem_of_getElem? (i := 2) rfl)) rfl, ?_⟩
  refine List.forall_mem_cons.mpr ⟨s_getI (k := 36) K9 (by decide) (dd_X9_tear (5, .getfield 172, 3) (List.mem_of_getElem? (i := 3) rfl)) ow_X9_tear fl9_172 rfl, ?_⟩
  refine List.forall_mem_cons.mpr ⟨s_iadd (dd_X9_tear (8, .iadd, 1) (List.mem_of_getElem? (i := 4) rfl)), ?_⟩
  refine List.forall_mem_cons.mpr ⟨s_istore_n (dd_X9_tear (9, .istore_n 1, 1) (List.mem_of_getElem? (i := 5) rfl)) rfl, ?_⟩
  refine List.forall_mem_cons.mpr ⟨s_aload_n (dd_X9_tear (10, .aload_n 0, 1) (List.mem_of_getElem? (i := 6) rfl)) rfl, ?_⟩
  refine List.forall_mem_cons.mpr ⟨s_iconst (dd_X9_tear (11, .iconst 0, 1) (List.mem_of_getElem? (i := 7) rfl)) rfl, ?_⟩
  refine List.forall_mem_cons.mpr ⟨s_putI (k := 32) K9 (by decide) (dd_X9_tear (12, .putfield 169, 3) (List.mem_of_getElem? (i := 8) rfl)) ow_X9_tear fl9_169 (Or.inl rfl) rfl, ?_⟩
  refine List.forall_mem_cons.mpr ⟨s_aload_n (dd_X9_tear (15, .aload_n 0, 1) (List.mem_of_getElem? (i := 9) rfl)) rfl, ?_⟩
  refine List.forall_mem_cons.mpr ⟨s_iconst (dd_X9_tear (16, .iconst 0, 1) (List.mem_of_getElem? (i := 10) rfl)) rfl, ?_⟩
  refine List.forall_mem_cons.mpr ⟨s_putI (k := 36) K9 (by decide) (dd_X9_tear (17, .putfield 172, 3) (List.mem_of_getElem? (i := 11) rfl)) ow_X9_tear fl9_172 (Or.inl rfl) rfl, ?_⟩
  refine List.forall_mem_cons.mpr ⟨s_iload_n (dd_X9_tear (20, .iload_n 1, 1) (List.mem_of_getElem? (i := 12) rfl)) rfl, ?_⟩
  refine List.forall_mem_cons.mpr ⟨Or.inr (Or.inl ⟨rfl, (dd_X9_tear (21, .ireturn, 1) (List.mem_of_getElem? (i := 13) rfl)), rfl⟩), ?_⟩
  exact fun _ h => absurd h List.not_mem_nil
theorem ow_X9_judge : (mtJ 182).1.cls = "SatchelSinsModel" := rfl
def D_X9_judge : List (Nat × Instr × Nat) := [(0, .iconst 0, 1), (1, .istore_n 1, 1), (2, .iload_n 1, 1), (3, .aload_n 0, 1), (4, .getfield 172, 3), (7, .if_icmp .ge 30, 3), (10, .aload_n 0, 1), (11, .aload_n 0, 1), (12, .getfield 75, 3), (15, .iload_n 1, 1), (16, .iaload, 1), (17, .invokevirtual 182, 3), (20, .aload_n 0, 1), (21, .getfield 78, 3), (24, .iload_n 1, 1), (25, .iaload, 1), (26, .if_icmp .eq 5, 3), (29, .iload_n 1, 1), (30, .ireturn, 1), (31, .iinc 1 1, 3), (34, .goto (-32), 3), (37, .iconst (-1), 1), (38, .ireturn, 1)]
theorem dd_X9_judge : ∀ e ∈ D_X9_judge, decode (mtJ 182).2.1 e.1 = .ok e.2 := by decide +kernel
set_option maxRecDepth 10000 in
theorem so_X9_judge : ∀ e ∈ o_X9_judge, SndO 182 e.1 e.2 := by
  refine List.forall_mem_cons.mpr ⟨s_iconst (dd_X9_judge (0, .iconst 0, 1) (List.mem_of_getElem? (i := 0) rfl)) rfl, ?_⟩
  refine List.forall_mem_cons.mpr ⟨s_istore_n (dd_X9_judge (1, .istore_n 1, 1) (List.mem_of_getElem? (i := 1) rfl)) rfl, ?_⟩
  refine List.forall_mem_cons.mpr ⟨s_iload_n (dd_X9_judge (2, .iload_n 1, 1) (List.mem_of_getElem? (i := 2) rfl)) rfl, ?_⟩
  refine List.forall_mem_cons.mpr ⟨s_aload_n (dd_X9_judge (3, .aload_n 0, 1) (List.mem_of_getElem? (i := 3) rfl)) rfl, ?_⟩
  refine List.forall_mem_cons.mpr ⟨s_getI (k := 36) K9 (by decide) (dd_X9_judge (4, .getfield 172, 3) (List.mem_of_getElem? (i := 4) rfl)) ow_X9_judge fl9_172 rfl, ?_⟩
  refine List.forall_mem_cons.mpr ⟨s_icmp_ge (dd_X9_judge (7, .if_icmp .ge 30, 3) (List.mem_of_getElem? (i := 5) rfl)) (by decide), ?_⟩
  refine List.forall_mem_cons.mpr ⟨s_aload_n (dd_X9_judge (10, .aload_n 0, 1) (List.mem_of_getElem? (i := 6) rfl)) rfl, ?_⟩
  refine List.forall_mem_cons.mpr ⟨s_aload_n (dd_X9_judge (11, .aload_n 0, 1) (List.mem_of_getElem? (i := 7) rfl)) rfl, ?_⟩
  refine List.forall_mem_cons.mpr ⟨s_getR (k := 37) K9 (by decide) (dd_X9_judge (12, .getfield 75, 3) (List.mem_of_getElem? (i := 8) rfl)) ow_X9_judge fl9_75 rfl, ?_⟩
  refine List.forall_mem_cons.mpr ⟨s_iload_n (dd_X9_judge (15, .iload_n 1, 1) (List.mem_of_getElem? (i := 9) rfl)) rfl, ?_⟩
  refine List.forall_mem_cons.mpr ⟨s_iald (dd_X9_judge (16, .iaload, 1) (List.mem_of_getElem? (i := 10) rfl)), ?_⟩
  refine List.forall_mem_cons.mpr ⟨⟨s_callV (ci := 9) rfl mo137 rfl rfl (dd_X9_judge (17, .invokevirtual 182, 3) (List.mem_of_getElem? (i := 11) rfl)) ow_X9_judge ml9_182 mi137 msl137 in_9 mn137, mo137⟩, ?_⟩
  refine List.forall_mem_cons.mpr ⟨s_aload_n (dd_X9_judge (20, .aload_n 0, 1) (List.mem_of_getElem? (i := 12) rfl)) rfl, ?_⟩
  refine List.forall_mem_cons.mpr ⟨s_getR (k := 38) K9 (by decide) (dd_X9_judge (21, .getfield 78, 3) (List.mem_of_getElem? (i := 13) rfl)) ow_X9_judge fl9_78 rfl, ?_⟩
  refine List.forall_mem_cons.mpr ⟨s_iload_n (dd_X9_judge (24, .iload_n 1, 1) (List.mem_of_getElem? (i := 14) rfl)) rfl, ?_⟩
  refine List.forall_mem_cons.mpr ⟨s_iald (dd_X9_judge (25, .iaload, 1) (List.mem_of_getElem? (i := 15) rfl)), ?_⟩
  refine List.forall_mem_cons.mpr ⟨s_icmp_eq (dd_X9_judge (26, .if_icmp .eq 5, 3) (List.mem_of_getElem? (i := 16) rfl)) (by decide), ?_⟩
  refine List.forall_mem_cons.mpr ⟨s_iload_n (dd_X9_judge (29, .iload_n 1, 1) (List.mem_of_getElem? (i := 17) rfl)) rfl, ?_⟩
  refine List.forall_mem_cons.mpr ⟨Or.inr (Or.inl ⟨rfl, (dd_X9_judge (30, .ireturn, 1) (List.mem_of_getElem? (i := 18) rfl)), rfl⟩), ?_⟩
  refine List.forall_mem_cons.mpr ⟨s_iinc (dd_X9_judge (31, .iinc 1 1, 3) (List.mem_of_getElem? (i := 19) rfl)) rfl, ?_⟩
  refine List.forall_mem_cons.mpr ⟨s_goto (dd_X9_judge (34, .goto (-32), 3) (List.mem_of_getElem? (i := 20) rfl)) (by decide), ?_⟩
  refine List.forall_mem_cons.mpr ⟨s_iconst (dd_X9_judge (37, .iconst (-1), 1) (List.mem_of_getElem? (i := 21) rfl)) rfl, ?_⟩
  refine List.forall_mem_cons.mpr ⟨Or.inr (Or.inl ⟨rfl, (dd_X9_judge (38, .ireturn, 1) (List.mem_of_getElem? (i := 22) rfl)), rfl⟩), ?_⟩
  exact fun _ h => absurd h List.not_mem_nil
theorem ow_X9_seed : (mtJ 183).1.cls = "SatchelSinsModel" := rfl
def D_X9_seed : List (Nat × Instr × Nat) := [(0, .iload_n 1, 1), (1, .ifCond .ge 6, 3), (4, .ldc 103, 2), (6, .ireturn, 1), (7, .aload_n 0, 1), (8, .getfield 235, 3), (11, .istore_n 2, 1), (12, .aload_n 0, 1), (13, .iload_n 1, 1), (14, .putfield 235, 3), (17, .iload_n 2, 1), (18, .ireturn, 1)]
theorem dd_X9_seed : ∀ e ∈ D_X9_seed, decode (mtJ 183).2.1 e.1 = .ok e.2 := by decide +kernel
set_option maxRecDepth 10000 in
theorem so_X9_seed : ∀ e ∈ o_X9_seed, SndO 183 e.1 e.2 := by
  refine List.forall_mem_cons.mpr ⟨s_iload_n (dd_X9_seed (0, .iload_n 1, 1) (List.mem_of_getElem? (i := 0) rfl)) rfl, ?_⟩
  refine List.forall_mem_cons.mpr ⟨s_if_ge (dd_X9_seed (1, .ifCond .ge 6, 3) (List.mem_of_getElem? (i := 1) rfl)) (by decide), ?_⟩
  refine List.forall_mem_cons.mpr ⟨s_ldc (dd_X9_seed (4, .ldc 103, 2) (List.mem_of_getElem? (i := 2) rfl)) ow_X9_seed ki9_103, ?_⟩
  refine List.forall_mem_cons.mpr ⟨Or.inr (Or.inl ⟨rfl, (dd_X9_seed (6, .ireturn, 1) (List.mem_of_getElem? (i := 3) rfl)), rfl⟩), ?_⟩
  refine List.forall_mem_cons.mpr ⟨s_aload_n (dd_X9_seed (7, .aload_n 0, 1) (List.mem_of_getElem? (i := 4) rfl)) rfl, ?_⟩
  refine List.forall_mem_cons.mpr ⟨s_getI (k := 10) K9 (by decide) (dd_X9_seed (8, .getfield 235, 3) (List.mem_of_getElem? (i := 5) rfl)) ow_X9_seed fl9_235 rfl, ?_⟩
  refine List.forall_mem_cons.mpr ⟨s_istore_n (dd_X9_seed (11, .istore_n 2, 1) (List.mem_of_getElem? (i := 6) rfl)) rfl, ?_⟩
  refine List.forall_mem_cons.mpr ⟨s_aload_n (dd_X9_seed (12, .aload_n 0, 1) (List.mem_of_getElem? (i := 7) rfl)) rfl, ?_⟩
  refine List.forall_mem_cons.mpr ⟨s_iload_n (dd_X9_seed (13, .iload_n 1, 1) (List.mem_of_getElem? (i := 8) rfl)) rfl, ?_⟩
  refine List.forall_mem_cons.mpr ⟨s_putI (k := 10) K9 (by decide) (dd_X9_seed (14, .putfield 235, 3) (List.mem_of_getElem? (i := 9) rfl)) ow_X9_seed fl9_235 (Or.inl rfl) rfl, ?_⟩
  refine List.forall_mem_cons.mpr ⟨s_iload_n (dd_X9_seed (17, .iload_n 2, 1) (List.mem_of_getElem? (i := 10) rfl)) rfl, ?_⟩
  refine List.forall_mem_cons.mpr ⟨Or.inr (Or.inl ⟨rfl, (dd_X9_seed (18, .ireturn, 1) (List.mem_of_getElem? (i := 11) rfl)), rfl⟩), ?_⟩
  exact fun _ h => absurd h List.not_mem_nil
theorem ow_X9_keep : (mtJ 184).1.cls = "SatchelSinsModel" := rfl
def D_X9_keep : List (Nat × Instr × Nat) := [(0, .iload_n 1, 1), (1, .i2l, 1), (2, .lconst 0, 1), (3, .lconst 1, 1), (4, .invokestatic 94, 3), (7, .ifCond .ne 6, 3), (10, .ldc 205, 2), (12, .ireturn, 1), (13, .iconst 0, 1), (14, .istore_n 2, 1), (15, .iload_n 2, 1), (16, .bipush 22, 2), (18, .if_icmp .ge 26, 3), (21, .aload_n 0, 1), (22, .getfield 81, 3), (25, .bipush 23, 2), (27, .iload_n 1, 1), (28, .imul, 1), (29, .iload_n 2, 1), (30, .iadd, 1), (31, .aload_n 0, 1), (32, .getfield 25, 3), (35, .iload_n 2, 1), (36, .iaload, 1), (37, .iastore, 1), (38, .iinc 2 1, 3), (41, .goto (-26), 3), (44, .aload_n 0, 1), (45, .getfield 81, 3), (48, .bipush 23, 2), (50, .iload_n 1, 1), (51, .imul, 1), (52, .bipush 22, 2), (54, .iadd, 1), (55, .aload_n 0, 1), (56, .getfield 235, 3), (59, .iastore, 1), (60, .aload_n 0, 1), (61, .getfield 84, 3), (64, .iload_n 1, 1), (65, .iconst 1, 1), (66, .bastore, 1), (67, .aload_n 0, 1), (68, .iconst 0, 1), (69, .putfield 175, 3), (72, .iconst 1, 1), (73, .ireturn, 1)]
theorem dd_X9_keep : ∀ e ∈ D_X9_keep, decode (mtJ 184).2.1 e.1 = .ok e.2 := by decide +kernel
set_option maxRecDepth 10000 in
theorem so_X9_keep : ∀ e ∈ o_X9_keep, SndO 184 e.1 e.2 := by
  refine List.forall_mem_cons.mpr ⟨s_iload_n (dd_X9_keep (0, .iload_n 1, 1) (List.mem_of_getElem? (i := 0) rfl)) rfl, ?_⟩
  refine List.forall_mem_cons.mpr ⟨s_i2l (dd_X9_keep (1, .i2l, 1) (List.mem_of_getElem? (i := 1) rfl)), ?_⟩
  refine List.forall_mem_cons.mpr ⟨s_lconst (dd_X9_keep (2, .lconst 0, 1) (List.mem_of_getElem? (i := 2) rfl)) rfl, ?_⟩
  refine List.forall_mem_cons.mpr ⟨s_lconst (dd_X9_keep (3, .lconst 1, 1) (List.mem_of_getElem? (i := 3) rfl)) rfl, ?_⟩
  refine List.forall_mem_cons.mpr ⟨⟨s_callS mo118 rfl (dd_X9_keep (4, .invokestatic 94, 3) (List.mem_of_getElem? (i := 4) rfl)) ow_X9_keep ml9_94 ms118 mn118, mo118⟩, ?_⟩
  refine List.forall_mem_cons.mpr ⟨s_if_ne (dd_X9_keep (7, .ifCond .ne 6, 3) (List.mem_of_getElem? (i := 5) rfl)) (by decide), ?_⟩
  refine List.forall_mem_cons.mpr ⟨s_ldc (dd_X9_keep (10, .ldc 205, 2) (List.mem_of_getElem? (i := 6) rfl)) ow_X9_keep ki9_205, ?_⟩
  refine List.forall_mem_cons.mpr ⟨Or.inr (Or.inl ⟨rfl, (dd_X9_keep (12, .ireturn, 1) (List.mem_of_getElem? (i := 7) rfl)), rfl⟩), ?_⟩
  refine List.forall_mem_cons.mpr ⟨s_iconst (dd_X9_keep (13, .iconst 0, 1) (List.mem_of_getElem? (i := 8) rfl)) rfl, ?_⟩
  refine List.forall_mem_cons.mpr ⟨s_istore_n (dd_X9_keep (14, .istore_n 2, 1) (List.mem_of_getElem? (i := 9) rfl)) rfl, ?_⟩
  refine List.forall_mem_cons.mpr ⟨s_iload_n (dd_X9_keep (15, .iload_n 2, 1) (List.mem_of_getElem? (i := 10) rfl)) rfl, ?_⟩
  refine List.forall_mem_cons.mpr ⟨s_bipush (dd_X9_keep (16, .bipush 22, 2) (List.mem_of_getElem? (i := 11) rfl)) rfl, ?_⟩
  refine List.forall_mem_cons.mpr ⟨s_icmp_ge (dd_X9_keep (18, .if_icmp .ge 26, 3) (List.mem_of_getElem? (i := 12) rfl)) (by decide), ?_⟩
  refine List.forall_mem_cons.mpr ⟨s_aload_n (dd_X9_keep (21, .aload_n 0, 1) (List.mem_of_getElem? (i := 13) rfl)) rfl, ?_⟩
  refine List.forall_mem_cons.mpr ⟨s_getR (k := 39) K9 (by decide) (dd_X9_keep (22, .getfield 81, 3) (List.mem_of_getElem? (i := 14) rfl)) ow_X9_keep fl9_81 rfl, ?_⟩
  refine List.forall_mem_cons.mpr ⟨s_bipush (dd_X9_keep (25, .bipush 23, 2) (List.mem_of_getElem? (i := 15) rfl)) rfl, ?_⟩
  refine List.forall_mem_cons.mpr ⟨s_iload_n (dd_X9_keep (27, .iload_n 1, 1) (List.mem_of_getElem? (i := 16) rfl)) rfl, ?_⟩
  refine List.forall_mem_cons.mpr ⟨s_imul (dd_X9_keep (28, .imul, 1) (List.mem_of_getElem? (i := 17) rfl)), ?_⟩
  refine List.forall_mem_cons.mpr ⟨s_iload_n (dd_X9_keep (29, .iload_n 2, 1) (List.mem_of_getElem? (i := 18) rfl)) rfl, ?_⟩
  refine List.forall_mem_cons.mpr ⟨s_iadd (dd_X9_keep (30, .iadd, 1) (List.mem_of_getElem? (i := 19) rfl)), ?_⟩
  refine List.forall_mem_cons.mpr ⟨s_aload_n (dd_X9_keep (31, .aload_n 0, 1) (List.mem_of_getElem? (i := 20) rfl)) rfl, ?_⟩
  refine List.forall_mem_cons.mpr ⟨s_getR (k := 9) K9 (by decide) (dd_X9_keep (32, .getfield 25, 3) (List.mem_of_getElem? (i := 21) rfl)) ow_X9_keep fl9_25 rfl, ?_⟩
  refine List.forall_mem_cons.mpr ⟨s_iload_n (dd_X9_keep (35, .iload_n 2, 1) (List.mem_of_getElem? (i := 22) rfl)) rfl, ?_⟩
  refine List.forall_mem_cons.mpr ⟨s_iald (dd_X9_keep (36, .iaload, 1) (List.mem_of_getElem? (i := 23) rfl)), ?_⟩
  refine List.forall_mem_cons.mpr ⟨s_iast (dd_X9_keep (37, .iastore, 1) (List.mem_of_getElem? (i := 24) rfl)), ?_⟩
  refine List.forall_mem_cons.mpr ⟨s_iinc (dd_X9_keep (38, .iinc 2 1, 3) (List.mem_of_getElem? (i := 25) rfl)) rfl, ?_⟩
  refine List.forall_mem_cons.mpr ⟨s_goto (dd_X9_keep (41, .goto (-26), 3) (List.mem_of_getElem? (i := 26) rfl)) (by decide), ?_⟩
  refine List.forall_mem_cons.mpr ⟨s_aload_n (dd_X9_keep (44, .aload_n 0, 1) (List.mem_of_getElem? (i := 27) rfl)) rfl, ?_⟩
  refine List.forall_mem_cons.mpr ⟨s_getR (k := 39) K9 (by decide) (dd_X9_keep (45, .getfield 81, 3) (List.mem_of_getElem? (i := 28) rfl)) ow_X9_keep fl9_81 rfl, ?_⟩
  refine List.forall_mem_cons.mpr ⟨s_bipush (dd_X9_keep (48, .bipush 23, 2) (List.mem_of_getElem? (i := 29) rfl)) rfl, ?_⟩
  refine List.forall_mem_cons.mpr ⟨s_iload_n (dd_X9_keep (50, .iload_n 1, 1) (List.mem_of_getElem? (i := 30) rfl)) rfl, ?_⟩
  refine List.forall_mem_cons.mpr ⟨s_imul (dd_X9_keep (51, .imul, 1) (List.mem_of_getElem? (i := 31) rfl)), ?_⟩
  refine List.forall_mem_cons.mpr ⟨s_bipush (dd_X9_keep (52, .bipush 22, 2) (List.mem_of_getElem? (i := 32) rfl)) rfl, ?_⟩
  refine List.forall_mem_cons.mpr ⟨s_iadd (dd_X9_keep (54, .iadd, 1) (List.mem_of_getElem? (i := 33) rfl)), ?_⟩
  refine List.forall_mem_cons.mpr ⟨s_aload_n (dd_X9_keep (55, .aload_n 0, 1) (List.mem_of_getElem? (i := 34) rfl)) rfl, ?_⟩
  refine List.forall_mem_cons.mpr ⟨s_getI (k := 10) K9 (by decide) (dd_X9_keep (56, .getfield 235, 3) (List.mem_of_getElem? (i := 35) rfl)) ow_X9_keep fl9_235 rfl, ?_⟩
  refine List.forall_mem_cons.mpr ⟨s_iast (dd_X9_keep (59, .iastore, 1) (List.mem_of_getElem? (i := 36) rfl)), ?_⟩
  refine List.forall_mem_cons.mpr ⟨s_aload_n (dd_X9_keep (60, .aload_n 0, 1) (List.mem_of_getElem? (i := 37) rfl)) rfl, ?_⟩
  refine List.forall_mem_cons.mpr ⟨s_getR (k := 40) K9 (by decide) (dd_X9_keep (61, .getfield 84, 3) (List.mem_of_getElem? (i := 38) rfl)) ow_X9_keep fl9_84 rfl, ?_⟩
  refine List.forall_mem_cons.mpr ⟨s_iload_n (dd_X9_keep (64, .iload_n 1, 1) (List.mem_of_getElem? (i := 39) rfl)) rfl, ?_⟩
  refine List.forall_mem_cons.mpr ⟨s_iconst (dd_X9_keep (65, .iconst 1, 1) (List.mem_of_getElem? (i := 40) rfl)) rfl, ?_⟩
  refine List.forall_mem_cons.mpr ⟨s_bast (dd_X9_keep (66, .bastore, 1) (List.mem_of_getElem? (i := 41) rfl)), ?_⟩
  refine List.forall_mem_cons.mpr ⟨s_aload_n (dd_X9_keep (67, .aload_n 0, 1) (List.mem_of_getElem? (i := 42) rfl)) rfl, ?_⟩
  refine List.forall_mem_cons.mpr ⟨s_iconst (dd_X9_keep (68, .iconst 0, 1) (List.mem_of_getElem? (i := 43) rfl)) rfl, ?_⟩
  refine List.forall_mem_cons.mpr ⟨s_putI (k := 26) K9 (by decide) (dd_X9_keep (69, .putfield 175, 3) (List.mem_of_getElem? (i := 44) rfl)) ow_X9_keep fl9_175 (Or.inl rfl) rfl, ?_⟩
  refine List.forall_mem_cons.mpr ⟨s_iconst (dd_X9_keep (72, .iconst 1, 1) (List.mem_of_getElem? (i := 45) rfl)) rfl, ?_⟩
  refine List.forall_mem_cons.mpr ⟨Or.inr (Or.inl ⟨rfl, (dd_X9_keep (73, .ireturn, 1) (List.mem_of_getElem? (i := 46) rfl)), rfl⟩), ?_⟩
  exact fun _ h => absurd h List.not_mem_nil

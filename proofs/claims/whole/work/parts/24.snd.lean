/-! every instruction, written by program -/
theorem ow_X9_takeChild : (mtJ 128).1.cls = "SatchelSinsModel" := rfl
def D_X9_takeChild : List (Nat × Instr × Nat) := [(0, .aload_n 0, 1), (1, .getfield 138, 3), (4, .istore_n 1, 1), (5, .aload_n 0, 1), (6, .dup, 1), (7, .getfield 138, 3), (10, .iconst 1, 1), (11, .iadd, 1), (12, .putfield 138, 3), (15, .aload_n 0, 1), (16, .getfield 41, 3), (19, .iload_n 1, 1), (20, .iconst (-1), 1), (21, .iastore, 1), (22, .aload_n 0, 1), (23, .aload_n 0, 1), (24, .getfield 35, 3), (27, .iload_n 1, 1), (28, .iconst 1, 1), (29, .bipush 99, 2), (31, .invokevirtual 141, 3), (34, .istore_n 2, 1), (35, .iload_n 2, 1), (36, .ifCond .le 7, 3), (39, .iload_n 2, 1), (40, .goto 15, 3), (43, .aload_n 0, 1), (44, .aload_n 0, 1), (45, .getfield 38, 3), (48, .iload_n 1, 1), (49, .iconst 1, 1), (50, .bipush 99, 2), (52, .invokevirtual 141, 3), (55, .ireturn, 1)]
theorem dd_X9_takeChild : ∀ e ∈ D_X9_takeChild, decode (mtJ 128).2.1 e.1 = .ok e.2 := by decide +kernel
set_option maxRecDepth 10000 in
theorem so_X9_takeChild : ∀ e ∈ o_X9_takeChild, SndO 128 e.1 e.2 := by
  refine List.forall_mem_cons.mpr ⟨s_aload_n (dd_X9_takeChild (0, .aload_n 0, 1) (List.mem_of_getElem? (i := 0) rfl)) rfl, ?_⟩
  refine List.forall_mem_cons.mpr ⟨s_getI (k := 19) K9 (by decide) (dd_X9_takeChild (1, .getfield 138, 3) (List.mem_of_getElem? (i := 1) rfl)) ow_X9_takeChild fl9_138 rfl, ?_⟩
  refine List.forall_mem_cons.mpr ⟨s_istore_n (dd_X9_takeChild (4, .istore_n 1, 1) (List.mem_of_getElem? (i := 2) rfl)) rfl, ?_⟩
  refine List.forall_mem_cons.mpr ⟨s_aload_n (dd_X9_takeChild (5, .aload_n 0, 1) (List.mem_of_getElem? (i := 3) rfl)) rfl, ?_⟩
  refine List.forall_mem_cons.mpr ⟨s_dup (dd_X9_takeChild (6, .dup, 1) (List.mem_of_getElem? (i := 4) rfl)), ?_⟩
  refine List.forall_mem_cons.mpr ⟨s_getI (k := 19) K9 (by decide) (dd_X9_takeChild (7, .getfield 138, 3) (List.mem_of_getElem? (i := 5) rfl)) ow_X9_takeChild fl9_138 rfl, ?_⟩
  refine List.forall_mem_cons.mpr ⟨s_iconst (dd_X9_takeChild (10, .iconst 1, 1) (List.mem_of_getElem? (i := 6) rfl)) rfl, ?_⟩
  refine List.forall_mem_cons.mpr ⟨s_iadd (dd_X9_takeChild (11, .iadd, 1) (List.mem_of_getElem? (i := 7) rfl)), ?_⟩
  refine List.forall_mem_cons.mpr ⟨s_putI (k := 19) K9 (by decide) (dd_X9_takeChild (12, .putfield 138, 3) (List.mem_of_getElem? (i := 8) rfl)) ow_X9_takeChild fl9_138 (Or.inl rfl) rfl, ?_⟩
  refine List.forall_mem_cons.mpr ⟨s_aload_n (dd_X9_takeChild (15, .aload_n 0, 1) (List.mem_of_getElem? (i := 9) rfl)) rfl, ?_⟩
  refine List.forall_mem_cons.mpr ⟨s_getR (k := 22) K9 (by decide) (dd_X9_takeChild (16, .getfield 41, 3) (List.mem_of_getElem? (i := 10) rfl)) ow_X9_takeChild fl9_41 rfl, ?_⟩
  refine List.forall_mem_cons.mpr ⟨s_iload_n (dd_X9_takeChild (19, .iload_n 1, 1) (List.mem_of_getElem? (i := 11) rfl)) rfl, ?_⟩
  refine List.forall_mem_cons.mpr ⟨s_iconst (dd_X9_takeChild (20, .iconst (-1), 1) (List.mem_of_getElem? (i := 12) rfl)) rfl, ?_⟩
  refine List.forall_mem_cons.mpr ⟨s_iast (dd_X9_takeChild (21, .iastore, 1) (List.mem_of_getElem? (i := 13) rfl)), ?_⟩
  refine List.forall_mem_cons.mpr ⟨s_aload_n (dd_X9_takeChild (22, .aload_n 0, 1) (List.mem_of_getElem? (i := 14) rfl)) rfl, ?_⟩
  refine List.forall_mem_cons.mpr ⟨s_aload_n (dd_X9_takeChild (23, .aload_n 0, 1) (List.mem_of_getElem? (i := 15) rfl)) rfl, ?_⟩
  refine List.forall_mem_cons.mpr ⟨s_getR (k := 20) K9 (by decide) (dd_X9_takeChild (24, .getfield 35, 3) (List.mem_of_getElem? (i := 16) rfl)) ow_X9_takeChild fl9_35 rfl, ?_⟩
  refine List.forall_mem_cons.mpr ⟨s_iload_n (dd_X9_takeChild (27, .iload_n 1, 1) (List.mem_of_getElem? (i := 17) rfl)) rfl, ?_⟩
  refine List.forall_mem_cons.mpr ⟨s_iconst (dd_X9_takeChild (28, .iconst 1, 1) (List.mem_of_getElem? (i := 18) rfl)) rfl, ?_⟩
  refine List.forall_mem_cons.mpr ⟨s_bipush (dd_X9_takeChild (29, .bipush 99, 2) (List.mem_of_getElem? (i := 19) rfl)) rfl, ?_⟩
  refine List.forall_mem_cons.mpr ⟨⟨s_callV (ci := 9) rfl mo126 rfl rfl (dd_X9_takeChild (31, .invokevirtual 141, 3) (List.mem_of_getElem? (i := 20) rfl)) ow_X9_takeChild ml9_141 mi126 msl126 in_9 mn126, mo126⟩, ?_⟩
  refine List.forall_mem_cons.mpr ⟨s_istore_n (dd_X9_takeChild (34, .istore_n 2, 1) (List.mem_of_getElem? (i := 21) rfl)) rfl, ?_⟩
  refine List.forall_mem_cons.mpr ⟨s_iload_n (dd_X9_takeChild (35, .iload_n 2, 1) (List.mem_of_getElem? (i := 22) rfl)) rfl, ?_⟩
  refine List.forall_mem_cons.mpr ⟨s_if_le (dd_X9_takeChild (36, .ifCond .le 7, 3) (List.mem_of_getElem? (i := 23) rfl)) (by decide), ?_⟩
  refine List.forall_mem_cons.mpr ⟨s_iload_n (dd_X9_takeChild (39, .iload_n 2, 1) (List.mem_of_getElem? (i := 24) rfl)) rfl, ?_⟩
  refine List.forall_mem_cons.mpr ⟨s_goto (dd_X9_takeChild (40, .goto 15, 3) (List.mem_of_getElem? (i := 25) rfl)) (by decide), ?_⟩
  refine List.forall_mem_cons.mpr ⟨s_aload_n (dd_X9_takeChild (43, .aload_n 0, 1) (List.mem_of_getElem? (i := 26) rfl)) rfl, ?_⟩
  refine List.forall_mem_cons.mpr ⟨s_aload_n (dd_X9_takeChild (44, .aload_n 0, 1) (List.mem_of_getElem? (i := 27) rfl)) rfl, ?_⟩
  refine List.forall_mem_cons.mpr ⟨s_getR (k := 21) K9 (by decide) (dd_X9_takeChild (45, .getfield 38, 3) (List.mem_of_getElem? (i := 28) rfl)) ow_X9_takeChild fl9_38 rfl, ?_⟩
  refine List.forall_mem_cons.mpr ⟨s_iload_n (dd_X9_takeChild (48, .iload_n 1, 1) (List.mem_of_getElem? (i := 29) rfl)) rfl, ?_⟩
  refine List.forall_mem_cons.mpr ⟨s_iconst (dd_X9_takeChild (49, .iconst 1, 1) (List.mem_of_getElem? (i := 30) rfl)) rfl, ?_⟩
  refine List.forall_mem_cons.mpr ⟨s_bipush (dd_X9_takeChild (50, .bipush 99, 2) (List.mem_of_getElem? (i := 31) rfl)) rfl, ?_⟩
  refine List.forall_mem_cons.mpr ⟨⟨s_callV (ci := 9) rfl mo126 rfl rfl (dd_X9_takeChild (52, .invokevirtual 141, 3) (List.mem_of_getElem? (i := 32) rfl)) ow_X9_takeChild ml9_141 mi126 msl126 in_9 mn126, mo126⟩, ?_⟩
  refine List.forall_mem_cons.mpr ⟨Or.inr (Or.inl ⟨rfl, (dd_X9_takeChild (55, .ireturn, 1) (List.mem_of_getElem? (i := 33) rfl)), rfl⟩), ?_⟩
  exact fun _ h => absurd h List.not_mem_nil
theorem ow_X9_takeDeed : (mtJ 129).1.cls = "SatchelSinsModel" := rfl
def D_X9_takeDeed : List (Nat × Instr × Nat) := [(0, .aload_n 0, 1), (1, .getfield 145, 3), (4, .istore_n 1, 1), (5, .aload_n 0, 1), (6, .dup, 1), (7, .getfield 145, 3), (10, .iconst 1, 1), (11, .iadd, 1), (12, .putfield 145, 3), (15, .aload_n 0, 1), (16, .aload_n 0, 1), (17, .getfield 44, 3), (20, .iload_n 1, 1), (21, .iconst 0, 1), (22, .aload_n 0, 1), (23, .getfield 138, 3), (26, .iconst 1, 1), (27, .isub, 1), (28, .invokevirtual 141, 3), (31, .istore_n 2, 1), (32, .iload_n 2, 1), (33, .ifCond .le 7, 3), (36, .iload_n 2, 1), (37, .goto 15, 3), (40, .aload_n 0, 1), (41, .aload_n 0, 1), (42, .getfield 47, 3), (45, .iload_n 1, 1), (46, .iconst 1, 1), (47, .bipush 99, 2), (49, .invokevirtual 141, 3), (52, .ireturn, 1)]
theorem dd_X9_takeDeed : ∀ e ∈ D_X9_takeDeed, decode (mtJ 129).2.1 e.1 = .ok e.2 := by decide +kernel
set_option maxRecDepth 10000 in
theorem so_X9_takeDeed : ∀ e ∈ o_X9_takeDeed, SndO 129 e.1 e.2 := by
  refine List.forall_mem_cons.mpr ⟨s_aload_n (dd_X9_takeDeed (0, .aload_n 0, 1) (List.mem_of_getElem? (i := 0) rfl)) rfl, ?_⟩
  refine List.forall_mem_cons.mpr ⟨s_getI (k := 23) K9 (by decide) (dd_X9_takeDeed (1, .getfield 145, 3) (List.mem_of_getElem? (i := 1) rfl)) ow_X9_takeDeed fl9_145 rfl, ?_⟩
  refine List.forall_mem_cons.mpr ⟨s_istore_n (dd_X9_takeDeed (4, .istore_n 1, 1) (List.mem_of_getElem? (i := 2) rfl)) rfl, ?_⟩
  refine List.forall_mem_cons.mpr ⟨s_aload_n (dd_X9_takeDeed (5, .aload_n 0, 1) (List.mem_of_getElem? (i := 3) rfl)) rfl, ?_⟩
  refine List.forall_mem_cons.mpr ⟨s_dup (dd_X9_takeDeed (6, .dup, 1) (List.mem_of_getElem? (i := 4) rfl)), ?_⟩
  refine List.forall_mem_cons.mpr ⟨s_getI (k := 23) K9 (by decide) (dd_X9_takeDeed (7, .getfield 145, 3) (List.mem_of_getElem? (i := 5) rfl)) ow_X9_takeDeed fl9_145 rfl, ?_⟩
  refine List.forall_mem_cons.mpr ⟨s_iconst (dd_X9_takeDeed (10, .iconst 1, 1) (List.mem_of_getElem? (i := 6) rfl)) rfl, ?_⟩
  refine List.forall_mem_cons.mpr ⟨s_iadd (dd_X9_takeDeed (11, .iadd, 1) (List.mem_of_getElem? (i := 7) rfl)), ?_⟩
  refine List.forall_mem_cons.mpr ⟨s_putI (k := 23) K9 (by decide) (dd_X9_takeDeed (12, .putfield 145, 3) (List.mem_of_getElem? (i := 8) rfl)) ow_X9_takeDeed fl9_145 (Or.inl rfl) rfl, ?_⟩
  refine List.forall_mem_cons.mpr ⟨s_aload_n (dd_X9_takeDeed (15, .aload_n 0, 1) (List.mem_of_getElem? (i := 9) rfl)) rfl, ?_⟩
  refine List.forall_mem_cons.mpr ⟨s_aload_n (dd_X9_takeDeed (16, .aload_n 0, 1) (List.mem_of_getElem? (i := 10) rfl)) rfl, ?_⟩
  refine List.forall_mem_cons.mpr ⟨s_getR (k := 24) K9 (by decide) (dd_X9_takeDeed (17, .getfield 44, 3) (List.mem_of_getElem? (i := 11) rfl)) ow_X9_takeDeed fl9_44 rfl, ?_⟩
  refine List.forall_mem_cons.mpr ⟨s_iload_n (dd_X9_takeDeed (20, .iload_n 1, 1) (List.mem_of_getElem? (i := 12) rfl)) rfl, ?_⟩
  refine List.forall_mem_cons.mpr ⟨s_iconst (dd_X9_takeDeed (21, .iconst 0, 1) (List.mem_of_getElem? (i := 13) rfl)) rfl, ?_⟩
  refine List.forall_mem_cons.mpr ⟨s_aload_n (dd_X9_takeDeed (22, .aload_n 0, 1) (List.mem_of_getElem? (i := 14) rfl)) rfl, ?_⟩
  refine List.forall_mem_cons.mpr ⟨s_getI (k := 19) K9 (by decide) (dd_X9_takeDeed (23, .getfield 138, 3) (List.mem_of_getElem? (i := 15) rfl)) ow_X9_takeDeed fl9_138 rfl, ?_⟩
  refine List.forall_mem_cons.mpr ⟨s_iconst (dd_X9_takeDeed (26, .iconst 1, 1) (List.mem_of_getElem? (i := 16) rfl)) rfl, ?_⟩
  refine List.forall_mem_cons.mpr ⟨s_isub (dd_X9_takeDeed (27, .isub, 1) (List.mem_of_getElem? (i := 17) rfl)), ?_⟩
  refine List.forall_mem_cons.mpr ⟨⟨s_callV (ci := 9) rfl mo126 rfl rfl (dd_X9_takeDeed (28, .invokevirtual 141, 3) (List.mem_of_getElem? (i := 18) rfl)) ow_X9_takeDeed ml9_141 mi126 msl126 in_9 mn126, mo126⟩, ?_⟩
  refine List.forall_mem_cons.mpr ⟨s_istore_n (dd_X9_takeDeed (31, .istore_n 2, 1) (List.mem_of_getElem? (i := 19) rfl)) rfl, ?_⟩
  refine List.forall_mem_cons.mpr ⟨s_iload_n (dd_X9_takeDeed (32, .iload_n 2, 1) (List.mem_of_getElem? (i := 20) rfl)) rfl, ?_⟩
  refine List.forall_mem_cons.mpr ⟨s_if_le (dd_X9_takeDeed (33, .ifCond .le 7, 3) (List.mem_of_getElem? (i := 21) rfl)) (by decide), ?_⟩
  refine List.forall_mem_cons.mpr ⟨s_iload_n (dd_X9_takeDeed (36, .iload_n 2, 1) (List.mem_of_getElem? (i := 22) rfl)) rfl, ?_⟩
  refine List.forall_mem_cons.mpr ⟨s_goto (dd_X9_takeDeed (37, .goto 15, 3) (List.mem_of_getElem? (i := 23) rfl)) (by decide), ?_⟩
  refine List.forall_mem_cons.mpr ⟨s_aload_n (dd_X9_takeDeed (40, .aload_n 0, 1) (List.mem_of_getElem? (i := 24) rfl)) rfl, ?_⟩
  refine List.forall_mem_cons.mpr ⟨s_aload_n (dd_X9_takeDeed (41, .aload_n 0, 1) (List.mem_of_getElem? (i := 25) rfl)) rfl, ?_⟩
  refine List.forall_mem_cons.mpr ⟨s_getR (k := 25) K9 (by decide) (dd_X9_takeDeed (42, .getfield 47, 3) (List.mem_of_getElem? (i := 26) rfl)) ow_X9_takeDeed fl9_47 rfl, ?_⟩
  refine List.forall_mem_cons.mpr ⟨s_iload_n (dd_X9_takeDeed (45, .iload_n 1, 1) (List.mem_of_getElem? (i := 27) rfl)) rfl, ?_⟩
  refine List.forall_mem_cons.mpr ⟨s_iconst (dd_X9_takeDeed (46, .iconst 1, 1) (List.mem_of_getElem? (i := 28) rfl)) rfl, ?_⟩
  refine List.forall_mem_cons.mpr ⟨s_bipush (dd_X9_takeDeed (47, .bipush 99, 2) (List.mem_of_getElem? (i := 29) rfl)) rfl, ?_⟩
  refine List.forall_mem_cons.mpr ⟨⟨s_callV (ci := 9) rfl mo126 rfl rfl (dd_X9_takeDeed (49, .invokevirtual 141, 3) (List.mem_of_getElem? (i := 30) rfl)) ow_X9_takeDeed ml9_141 mi126 msl126 in_9 mn126, mo126⟩, ?_⟩
  refine List.forall_mem_cons.mpr ⟨Or.inr (Or.inl ⟨rfl, (dd_X9_takeDeed (52, .ireturn, 1) (List.mem_of_getElem? (i := 31) rfl)), rfl⟩), ?_⟩
  exact fun _ h => absurd h List.not_mem_nil
theorem ow_X9_takeHanded : (mtJ 130).1.cls = "SatchelSinsModel" := rfl
def D_X9_takeHanded_1 : List (Nat × Instr × Nat) := [(0, .aload_n 0, 1), (1, .iconst 0, 1), (2, .aload_n 0, 1), (3, .getfield 138, 3), (6, .iconst 1, 1), (7, .isub, 1), (8, .invokevirtual 129, 3), (11, .istore_n 1, 1), (12, .aload_n 0, 1), (13, .getfield 126, 3), (16, .istore_n 2, 1), (17, .iload_n 1, 1), (18, .ifCond .le 7, 3), (21, .iload_n 1, 1), (22, .goto 14, 3), (25, .aload_n 0, 1), (26, .iconst 0, 1), (27, .aload_n 0, 1), (28, .getfield 138, 3), (31, .iconst 1, 1), (32, .isub, 1), (33, .invokevirtual 129, 3), (36, .istore_n 1, 1), (37, .iload_n 1, 1), (38, .ifCond .le 5, 3), (41, .iload_n 1, 1), (42, .ireturn, 1), (43, .aload_n 0, 1), (44, .getfield 41, 3), (47, .aload_n 0, 1), (48, .getfield 126, 3), (51, .iaload, 1), (52, .iconst (-1), 1), (53, .if_icmp .eq 7, 3), (56, .iconst 1, 1), (57, .goto 4, 3), (60, .iconst 0, 1), (61, .istore_n 3, 1), (62, .iload_n 2, 1), (63, .istore 4, 2), (65, .iload 4, 2), (67, .iconst (-1), 1), (68, .if_icmp .eq 34, 3), (71, .iload_n 3, 1), (72, .ifCond .ne 12, 3), (75, .iload 4, 2), (77, .aload_n 0, 1), (78, .getfield 126, 3), (81, .if_icmp .ne 7, 3), (84, .iconst 1, 1), (85, .goto 4, 3), (88, .iconst 0, 1), (89, .istore_n 3, 1), (90, .aload_n 0, 1), (91, .getfield 41, 3), (94, .iload 4, 2), (96, .iaload, 1), (97, .istore 4, 2), (99, .goto (-34), 3), (102, .iload_n 3, 1)]
theorem dd_X9_takeHanded_1 : ∀ e ∈ D_X9_takeHanded_1, decode (mtJ 130).2.1 e.1 = .ok e.2 := by decide +kernel
set_option maxRecDepth 10000 in
theorem so_X9_takeHanded_1 : ∀ e ∈ o_X9_takeHanded_1, SndO 130 e.1 e.2 := by
  refine List.forall_mem_cons.mpr ⟨s_aload_n (dd_X9_takeHanded_1 (0, .aload_n 0, 1) (List.mem_of_getElem? (i := 0) rfl)) rfl, ?_⟩
  refine List.forall_mem_cons.mpr ⟨s_iconst (dd_X9_takeHanded_1 (1, .iconst 0, 1) (List.mem_of_getElem? (i := 1) rfl)) rfl, ?_⟩
  refine List.forall_mem_cons.mpr ⟨s_aload_n (dd_X9_takeHanded_1 (2, .aload_n 0, 1) (List.mem_of_getElem? (i := 2) rfl)) rfl, ?_⟩
  refine List.forall_mem_cons.mpr ⟨s_getI (k := 19) K9 (by decide) (dd_X9_takeHanded_1 (3, .getfield 138, 3) (List.mem_of_getElem? (i := 3) rfl)) ow_X9_takeHanded fl9_138 rfl, ?_⟩
  refine List.forall_mem_cons.mpr ⟨s_iconst (dd_X9_takeHanded_1 (6, .iconst 1, 1) (List.mem_of_getElem? (i := 4) rfl)) rfl, ?_⟩
  refine List.forall_mem_cons.mpr ⟨s_isub (dd_X9_takeHanded_1 (7, .isub, 1) (List.mem_of_getElem? (i := 5) rfl)), ?_⟩
  refine List.forall_mem_cons.mpr ⟨⟨s_callV (ci := 9) rfl mo125 rfl rfl (dd_X9_takeHanded_1 (8, .invokevirtual 129, 3) (List.mem_of_getElem? (i := 6) rfl)) ow_X9_takeHanded ml9_129 mi125 msl125 in_9 mn125, mo125⟩, ?_⟩
  refine List.forall_mem_cons.mpr ⟨s_istore_n (dd_X9_takeHanded_1 (11, .istore_n 1, 1) (List.mem_of_getElem? (i := 7) rfl)) rfl, ?_⟩
  refine List.forall_mem_cons.mpr ⟨s_aload_n (dd_X9_takeHanded_1 (12, .aload_n 0, 1) (List.mem_of_getElem? (i := 8) rfl)) rfl, ?_⟩
  refine List.forall_mem_cons.mpr ⟨s_getI (k := 15) K9 (by decide) (dd_X9_takeHanded_1 (13, .getfield 126, 3) (List.mem_of_getElem? (i := 9) rfl)) ow_X9_takeHanded fl9_126 rfl, ?_⟩
  refine List.forall_mem_cons.mpr ⟨s_istore_n (dd_X9_takeHanded_1 (16, .istore_n 2, 1) (List.mem_of_getElem? (i := 10) rfl)) rfl, ?_⟩
  refine List.forall_mem_cons.mpr ⟨s_iload_n (dd_X9_takeHanded_1 (17, .iload_n 1, 1) (List.mem_of_getElem? (i := 11) rfl)) rfl, ?_⟩
  refine List.forall_mem_cons.mpr ⟨s_if_le (dd_X9_takeHanded_1 (18, .ifCond .le 7, 3) (List.mem_of_getElem? (i := 12) rfl)) (by decide), ?_⟩
  refine List.forall_mem_cons.mpr ⟨s_iload_n (dd_X9_takeHanded_1 (21, .iload_n 1, 1) (List.mem_of_getElem? (i := 13) rfl)) rfl, ?_⟩
  refine List.forall_mem_cons.mpr ⟨s_goto (dd_X9_takeHanded_1 (22, .goto 14, 3) (List.mem_of_getElem? (i := 14) rfl)) (by decide), ?_⟩
  refine List.forall_mem_cons.mpr ⟨s_aload_n (dd_X9_takeHanded_1 (25, .aload_n 0, 1) (List.mem_of_getElem? (i := 15) rfl)) rfl, ?_⟩
  refine List.forall_mem_cons.mpr ⟨s_iconst (dd_X9_takeHanded_1 (26, .iconst 0, 1) (List.mem_of_getElem? (i := 16) rfl)) rfl, ?_⟩
  refine List.forall_mem_cons.mpr ⟨s_aload_n (dd_X9_takeHanded_1 (27, .aload_n 0, 1) (List.mem_of_getElem? (i := 17) rfl)) rfl, ?_⟩
  refine List.forall_mem_cons.mpr ⟨s_getI (k := 19) K9 (by decide) (dd_X9_takeHanded_1 (28, .getfield 138, 3) (List.mem_of_getElem? (i := 18) rfl)) ow_X9_takeHanded fl9_138 rfl, ?_⟩
  refine List.forall_mem_cons.mpr ⟨s_iconst (dd_X9_takeHanded_1 (31, .iconst 1, 1) (List.mem_of_getElem? (i := 19) rfl)) rfl, ?_⟩
  refine List.forall_mem_cons.mpr ⟨s_isub (dd_X9_takeHanded_1 (32, .isub, 1) (List.mem_of_getElem? (i := 20) rfl)), ?_⟩
  refine List.forall_mem_cons.mpr ⟨⟨s_callV (ci := 9) rfl mo125 rfl rfl (dd_X9_takeHanded_1 (33, .invokevirtual 129, 3) (List.mem_of_getElem? (i := 21) rfl)) ow_X9_takeHanded ml9_129 mi125 msl125 in_9 mn125, mo125⟩, ?_⟩
  refine List.forall_mem_cons.mpr ⟨s_istore_n (dd_X9_takeHanded_1 (36, .istore_n 1, 1) (List.mem_of_getElem? (i := 22) rfl)) rfl, ?_⟩
  refine List.forall_mem_cons.mpr ⟨s_iload_n (dd_X9_takeHanded_1 (37, .iload_n 1, 1) (List.mem_of_getElem? (i := 23) rfl)) rfl, ?_⟩
  refine List.forall_mem_cons.mpr ⟨s_if_le (dd_X9_takeHanded_1 (38, .ifCond .le 5, 3) (List.mem_of_getElem? (i := 24) rfl)) (by decide), ?_⟩
  refine List.forall_mem_cons.mpr ⟨s_iload_n (dd_X9_takeHanded_1 (41, .iload_n 1, 1) (List.mem_of_getElem? (i := 25) rfl)) rfl, ?_⟩
  refine List.forall_mem_cons.mpr ⟨Or.inr (Or.inl ⟨rfl, (dd_X9_takeHanded_1 (42, .ireturn, 1) (List.mem_of_getElem? (i := 26) rfl)), rfl⟩), ?_⟩
  refine List.forall_mem_cons.mpr ⟨s_aload_n (dd_X9_takeHanded_1 (43, .aload_n 0, 1) (List.mem_of_getElem? (i := 27) rfl)) rfl, ?_⟩
  refine List.forall_mem_cons.mpr ⟨s_getR (k := 22) K9 (by decide) (dd_X9_takeHanded_1 (44, .getfield 41, 3) (List.mem_of_getElem? (i := 28) rfl)) ow_X9_takeHanded fl9_41 rfl, ?_⟩
  refine List.forall_mem_cons.mpr ⟨s_aload_n (dd_X9_takeHanded_1 (47, .aload_n 0, 1) (List.mem_of_getElem? (i := 29) rfl)) rfl, ?_⟩
  refine List.forall_mem_cons.mpr ⟨s_getI (k := 15) K9 (by decide) (dd_X9_takeHanded_1 (48, .getfield 126, 3) (List.mem_of_getElem? (i := 30) rfl)) ow_X9_takeHanded fl9_126 rfl, ?_⟩
  refine List.forall_mem_cons.mpr ⟨s_iald (dd_X9_takeHanded_1 (51, .iaload, 1) (List.mem_of_getElem? (i := 31) rfl)), ?_⟩
  refine List.forall_mem_cons.mpr ⟨s_iconst (dd_X9_takeHanded_1 (52, .iconst (-1), 1) (List.mem_of_getElem? (i := 32) rfl)) rfl, ?_⟩
  refine List.forall_mem_cons.mpr ⟨s_icmp_eq (dd_X9_takeHanded_1 (53, .if_icmp .eq 7, 3) (List.mem_of_getElem? (i := 33) rfl)) (by decide), ?_⟩
  refine List.forall_mem_cons.mpr ⟨s_iconst (dd_X9_takeHanded_1 (56, .iconst 1, 1) (List.mem_of_getElem? (i := 34) rfl)) rfl, ?_⟩
  refine List.forall_mem_cons.mpr ⟨s_goto (dd_X9_takeHanded_1 (57, .goto 4, 3) (List.mem_of_getElem? (i := 35) rfl)) (by decide), ?_⟩
  refine List.forall_mem_cons.mpr ⟨s_iconst (dd_X9_takeHanded_1 (60, .iconst 0, 1) (List.mem_of_getElem? (i := 36) rfl)) rfl, ?_⟩
  refine List.forall_mem_cons.mpr ⟨s_istore_n (dd_X9_takeHanded_1 (61, .istore_n 3, 1) (List.mem_of_getElem? (i := 37) rfl)) rfl, ?_⟩
  refine List.forall_mem_cons.mpr ⟨s_iload_n (dd_X9_takeHanded_1 (62, .iload_n 2, 1) (List.mem_of_getElem? (i := 38) rfl)) rfl, ?_⟩
  refine List.forall_mem_cons.mpr ⟨s_istore (dd_X9_takeHanded_1 (63, .istore 4, 2) (List.mem_of_getElem? (i := 39) rfl)), ?_⟩
  refine List.forall_mem_cons.mpr ⟨s_iload (dd_X9_takeHanded_1 (65, .iload 4, 2) (List.mem_of_getElem? (i := 40) rfl)), ?_⟩
  refine List.forall_mem_cons.mpr ⟨s_iconst (dd_X9_takeHanded_1 (67, .iconst (-1), 1) (List.mem_of_getElem? (i := 41) rfl)) rfl, ?_⟩
  refine List.forall_mem_cons.mpr ⟨s_icmp_eq (dd_X9_takeHanded_1 (68, .if_icmp .eq 34, 3) (List.mem_of_getElem? (i := 42) rfl)) (by decide), ?_⟩
  refine List.forall_mem_cons.mpr ⟨s_iload_n (dd_X9_takeHanded_1 (71, .iload_n 3, 1) (List.mem_of_getElem? (i := 43) rfl)) rfl, ?_⟩
  refine List.forall_mem_cons.mpr ⟨s_if_ne (dd_X9_takeHanded_1 (72, .ifCond .ne 12, 3) (List.mem_of_getElem? (i := 44) rfl)) (by decide), ?_⟩
  refine List.forall_mem_cons.mpr ⟨s_iload (dd_X9_takeHanded_1 (75, .iload 4, 2) (List.mem_of_getElem? (i := 45) rfl)), ?_⟩
  refine List.forall_mem_cons.mpr ⟨s_aload_n (dd_X9_takeHanded_1 (77, .aload_n 0, 1) (List.mem_of_getElem? (i := 46) rfl)) rfl, ?_⟩
  refine List.forall_mem_cons.mpr ⟨s_getI (k := 15) K9 (by decide) (dd_X9_takeHanded_1 (78, .getfield 126, 3) (List.mem_of_getElem? (i := 47) rfl)) ow_X9_takeHanded fl9_126 rfl, ?_⟩
  refine List.forall_mem_cons.mpr ⟨s_icmp_ne (dd_X9_takeHanded_1 (81, .if_icmp .ne 7, 3) (List.mem_of_getElem? (i := 48) rfl)) (by decide), ?_⟩
  refine List.forall_mem_cons.mpr ⟨s_iconst (dd_X9_takeHanded_1 (84, .iconst 1, 1) (List.mem_of_getElem? (i := 49) rfl)) rfl, ?_⟩
  refine List.forall_mem_cons.mpr ⟨s_goto (dd_X9_takeHanded_1 (85, .goto 4, 3) (List.mem_of_getElem? (i := 50) rfl)) (by decide), ?_⟩
  refine List.forall_mem_cons.mpr ⟨s_iconst (dd_X9_takeHanded_1 (88, .iconst 0, 1) (List.mem_of_getElem? (i := 51) rfl)) rfl, ?_⟩
  refine List.forall_mem_cons.mpr ⟨s_istore_n (dd_X9_takeHanded_1 (89, .istore_n 3, 1) (List.mem_of_getElem? (i := 52) rfl)) rfl, ?_⟩
  refine List.forall_mem_cons.mpr ⟨s_aload_n (dd_X9_takeHanded_1 (90, .aload_n 0, 1) (List.mem_of_getElem? (i := 53) rfl)) rfl, ?_⟩
  refine List.forall_mem_cons.mpr ⟨s_getR (k := 22) K9 (by decide) (dd_X9_takeHanded_1 (91, .getfield 41, 3) (List.mem_of_getElem? (i := 54) rfl)) ow_X9_takeHanded fl9_41 rfl, ?_⟩
  refine List.forall_mem_cons.mpr ⟨s_iload (dd_X9_takeHanded_1 (94, .iload 4, 2) (List.mem_of_getElem? (i := 55) rfl)), ?_⟩
  refine List.forall_mem_cons.mpr ⟨s_iald (dd_X9_takeHanded_1 (96, .iaload, 1) (List.mem_of_getElem? (i := 56) rfl)), ?_⟩
  refine List.forall_mem_cons.mpr ⟨s_istore (dd_X9_takeHanded_1 (97, .istore 4, 2) (List.mem_of_getElem? (i := 57) rfl)), ?_⟩
  refine List.forall_mem_cons.mpr ⟨s_goto (dd_X9_takeHanded_1 (99, .goto (-34), 3) (List.mem_of_getElem? (i := 58) rfl)) (by decide), ?_⟩
  refine List.forall_mem_cons.mpr ⟨s_iload_n (dd_X9_takeHanded_1 (102, .iload_n 3, 1) (List.mem_of_getElem? (i := 59) rfl)) rfl, ?_⟩
  exact fun _ h => absurd h List.not_mem_nil
def D_X9_takeHanded_2 : List (Nat × Instr × Nat) := [(103, .ifCond .eq 13, 3), (106, .aload_n 0, 1), (107, .iconst 4, 1), (108, .aload_n 0, 1), (109, .getfield 123, 3), (112, .invokevirtual 119, 3), (115, .ireturn, 1), (116, .aload_n 0, 1), (117, .getfield 41, 3), (120, .aload_n 0, 1), (121, .getfield 126, 3), (124, .iload_n 2, 1), (125, .iastore, 1), (126, .iconst 0, 1), (127, .ireturn, 1)]
theorem dd_X9_takeHanded_2 : ∀ e ∈ D_X9_takeHanded_2, decode (mtJ 130).2.1 e.1 = .ok e.2 := by decide +kernel
set_option maxRecDepth 10000 in
theorem so_X9_takeHanded_2 : ∀ e ∈ o_X9_takeHanded_2, SndO 130 e.1 e.2 := by
  refine List.forall_mem_cons.mpr ⟨s_if_eq (dd_X9_takeHanded_2 (103, .ifCond .eq 13, 3) (List.mem_of_getElem? (i := 0) rfl)) (by decide), ?_⟩
  refine List.forall_mem_cons.mpr ⟨s_aload_n (dd_X9_takeHanded_2 (106, .aload_n 0, 1) (List.mem_of_getElem? (i := 1) rfl)) rfl, ?_⟩
  refine List.forall_mem_cons.mpr ⟨s_iconst (dd_X9_takeHanded_2 (107, .iconst 4, 1) (List.mem_of_getElem? (i := 2) rfl)) rfl, ?_⟩
  refine List.forall_mem_cons.mpr ⟨s_aload_n (dd_X9_takeHanded_2 (108, .aload_n 0, 1) (List.mem_of_getElem? (i := 3) rfl)) rfl, ?_⟩
  refine List.forall_mem_cons.mpr ⟨s_getI (k := 16) K9 (by decide) (dd_X9_takeHanded_2 (109, .getfield 123, 3) (List.mem_of_getElem? (i := 4) rfl)) ow_X9_takeHanded fl9_123 rfl, ?_⟩
  refine List.forall_mem_cons.mpr ⟨⟨s_callV (ci := 9) rfl mo124 rfl rfl (dd_X9_takeHanded_2 (112, .invokevirtual 119, 3) (List.mem_of_getElem? (i := 5) rfl)) ow_X9_takeHanded ml9_119 mi124 msl124 in_9 mn124, mo124⟩, ?_⟩
  refine List.forall_mem_cons.mpr ⟨Or.inr (Or.inl ⟨rfl, (dd_X9_takeHanded_2 (115, .ireturn, 1) (List.mem_of_getElem? (i := 6) rfl)), rfl⟩), ?_⟩
  refine List.forall_mem_cons.mpr ⟨s_aload_n (dd_X9_takeHanded_2 (116, .aload_n 0, 1) (List.mem_of_getElem? (i := 7) rfl)) rfl, ?_⟩
  refine List.forall_mem_cons.mpr ⟨s_getR (k := 22) K9 (by decide) (dd_X9_takeHanded_2 (117, .getfield 41, 3) (List.mem_of_getElem? (i := 8) rfl)) ow_X9_takeHanded fl9_41 rfl, ?_⟩
  refine List.forall_mem_cons.mpr ⟨s_aload_n (dd_X9_takeHanded_2 (120, .aload_n 0, 1) (List.mem_of_getElem? (i := 9) rfl)) rfl, ?_⟩
  refine List.forall_mem_cons.mpr ⟨s_getI (k := 15) K9 (by decide) (dd_X9_takeHanded_2 (121, .getfield 126, 3) (List.mem_of_getElem? (i := 10) rfl)) ow_X9_takeHanded fl9_126 rfl, ?_⟩
  refine List.forall_mem_cons.mpr ⟨s_iload_n (dd_X9_takeHanded_2 (124, .iload_n 2, 1) (List.mem_of_getElem? (i := 11) rfl)) rfl, ?_⟩
  refine List.forall_mem_cons.mpr ⟨s_iast (dd_X9_takeHanded_2 (125, .iastore, 1) (List.mem_of_getElem? (i := 12) rfl)), ?_⟩
  refine List.forall_mem_cons.mpr ⟨s_iconst (dd_X9_takeHanded_2 (126, .iconst 0, 1) (List.mem_of_getElem? (i := 13) rfl)) rfl, ?_⟩
  refine List.forall_mem_cons.mpr ⟨Or.inr (Or.inl ⟨rfl, (dd_X9_takeHanded_2 (127, .ireturn, 1) (List.mem_of_getElem? (i := 14) rfl)), rfl⟩), ?_⟩
  exact fun _ h => absurd h List.not_mem_nil
theorem so_X9_takeHanded : ∀ e ∈ o_X9_takeHanded, SndO 130 e.1 e.2 := List.forall_mem_append.mpr ⟨so_X9_takeHanded_1, so_X9_takeHanded_2⟩
theorem ow_X9_takeClause : (mtJ 131).1.cls = "SatchelSinsModel" := rfl
def D_X9_takeClause_1 : List (Nat × Instr × Nat) := [(0, .aload_n 0, 1), (1, .invokevirtual 111, 3), (4, .istore_n 1, 1), (5, .iload_n 1, 1), (6, .bipush 98, 2), (8, .if_icmp .ne 7, 3), (11, .iconst 0, 1), (12, .goto 34, 3), (15, .iload_n 1, 1), (16, .bipush 99, 2), (18, .if_icmp .ne 7, 3), (21, .iconst 1, 1), (22, .goto 24, 3), (25, .iload_n 1, 1), (26, .bipush 100, 2), (28, .if_icmp .ne 7, 3), (31, .iconst 2, 1), (32, .goto 14, 3), (35, .iload_n 1, 1), (36, .bipush 104, 2), (38, .if_icmp .ne 7, 3), (41, .iconst 3, 1), (42, .goto 4, 3), (45, .iconst (-1), 1), (46, .istore_n 2, 1), (47, .iload_n 2, 1), (48, .ifCond .lt 14, 3), (51, .iload_n 2, 1), (52, .ifCond .le 20, 3), (55, .aload_n 0, 1), (56, .getfield 132, 3), (59, .ifCond .ne 13, 3), (62, .aload_n 0, 1), (63, .iconst 1, 1), (64, .aload_n 0, 1), (65, .getfield 108, 3), (68, .invokevirtual 119, 3), (71, .ireturn, 1), (72, .iload_n 2, 1), (73, .ifCond .ne 10, 3), (76, .aload_n 0, 1), (77, .getfield 132, 3), (80, .goto 43, 3), (83, .iload_n 2, 1), (84, .iconst 1, 1), (85, .if_icmp .ne 19, 3), (88, .aload_n 0, 1), (89, .getfield 138, 3), (92, .iconst 5, 1), (93, .if_icmp .ne 7, 3), (96, .iconst 1, 1), (97, .goto 26, 3), (100, .iconst 0, 1), (101, .goto 22, 3), (104, .iload_n 2, 1), (105, .iconst 2, 1), (106, .if_icmp .ne 16, 3), (109, .aload_n 0, 1), (110, .getfield 145, 3), (113, .bipush 7, 2)]
theorem dd_X9_takeClause_1 : ∀ e ∈ D_X9_takeClause_1, decode (mtJ 131).2.1 e.1 = .ok e.2 := by decide +kernel
set_option maxRecDepth 10000 in
theorem so_X9_takeClause_1 : ∀ e ∈ o_X9_takeClause_1, SndO 131 e.1 e.2 := by
  refine List.forall_mem_cons.mpr ⟨s_aload_n (dd_X9_takeClause_1 (0, .aload_n 0, 1) (List.mem_of_getElem? (i := 0) rfl)) rfl, ?_⟩
  refine List.forall_mem_cons.mpr ⟨⟨s_callV (ci := 9) rfl mo123 rfl rfl (dd_X9_takeClause_1 (1, .invokevirtual 111, 3) (List.mem_of_getElem? (i := 1) rfl)) ow_X9_takeClause ml9_111 mi123 msl123 in_9 mn123, mo123⟩, ?_⟩
  refine List.forall_mem_cons.mpr ⟨s_istore_n (dd_X9_takeClause_1 (4, .istore_n 1, 1) (List.mem_of_getElem? (i := 2) rfl)) rfl, ?_⟩
  refine List.forall_mem_cons.mpr ⟨s_iload_n (dd_X9_takeClause_1 (5, .iload_n 1, 1) (List.mem_of_getElem? (i := 3) rfl)) rfl, ?_⟩
  refine List.forall_mem_cons.mpr ⟨s_bipush (dd_X9_takeClause_1 (6, .bipush 98, 2) (List.mem_of_getElem? (i := 4) rfl)) rfl, ?_⟩
  refine List.forall_mem_cons.mpr ⟨s_icmp_ne (dd_X9_takeClause_1 (8, .if_icmp .ne 7, 3) (List.mem_of_getElem? (i := 5) rfl)) (by decide), ?_⟩
  refine List.forall_mem_cons.mpr ⟨s_iconst (dd_X9_takeClause_1 (11, .iconst 0, 1) (List.mem_of_getElem? (i := 6) rfl)) rfl, ?_⟩
  refine List.forall_mem_cons.mpr ⟨s_goto (dd_X9_takeClause_1 (12, .goto 34, 3) (List.mem_of_getElem? (i := 7) rfl)) (by decide), ?_⟩
  refine List.forall_mem_cons.mpr ⟨s_iload_n (dd_X9_takeClause_1 (15, .iload_n 1, 1) (List.mem_of_getElem? (i := 8) rfl)) rfl, ?_⟩
  refine List.forall_mem_cons.mpr ⟨s_bipush (dd_X9_takeClause_1 (16, .bipush 99, 2) (List.mem_of_getElem? (i := 9) rfl)) rfl, ?_⟩
  refine List.forall_mem_cons.mpr ⟨s_icmp_ne (dd_X9_takeClause_1 (18, .if_icmp .ne 7, 3) (List.mem_of_getElem? (i := 10) rfl)) (by decide), ?_⟩
  refine List.forall_mem_cons.mpr ⟨s_iconst (dd_X9_takeClause_1 (21, .iconst 1, 1) (List.mem_of_getElem? (i := 11) rfl)) rfl, ?_⟩
  refine List.forall_mem_cons.mpr ⟨s_goto (dd_X9_takeClause_1 (22, .goto 24, 3) (List.mem_of_getElem? (i := 12) rfl)) (by decide), ?_⟩
  refine List.forall_mem_cons.mpr ⟨s_iload_n (dd_X9_takeClause_1 (25, .iload_n 1, 1) (List.mem_of_getElem? (i := 13) rfl)) rfl, ?_⟩
  refine List.forall_mem_cons.mpr ⟨s_bipush (dd_X9_takeClause_1 (26, .bipush 100, 2) (List.mem_of_getElem? (i := 14) rfl)) rfl, ?_⟩
  refine List.forall_mem_cons.mpr ⟨s_icmp_ne (dd_X9_takeClause_1 (28, .if_icmp .ne 7, 3) (List.mem_of_getElem? (i := 15) rfl)) (by decide), ?_⟩
  refine List.forall_mem_cons.mpr ⟨s_iconst (dd_X9_takeClause_1 (31, .iconst 2, 1) (List.mem_of_getElem? (i := 16) rfl)) rfl, ?_⟩
  refine List.forall_mem_cons.mpr ⟨s_goto (dd_X9_takeClause_1 (32, .goto 14, 3) (List.mem_of_getElem? (i := 17) rfl)) (by decide), ?_⟩
  refine List.forall_mem_cons.mpr ⟨s_iload_n (dd_X9_takeClause_1 (35, .iload_n 1, 1) (List.mem_of_getElem? (i := 18) rfl)) rfl, ?_⟩
  refine List.forall_mem_cons.mpr ⟨s_bipush (dd_X9_takeClause_1 (36, .bipush 104, 2) (List.mem_of_getElem? (i := 19) rfl)) rfl, ?_⟩
  refine List.forall_mem_cons.mpr ⟨s_icmp_ne (dd_X9_takeClause_1 (38, .if_icmp .ne 7, 3) (List.mem_of_getElem? (i := 20) rfl)) (by decide), ?_⟩
  refine List.forall_mem_cons.mpr ⟨s_iconst (dd_X9_takeClause_1 (41, .iconst 3, 1) (List.mem_of_getElem? (i := 21) rfl)) rfl, ?_⟩
  refine List.forall_mem_cons.mpr ⟨s_goto (dd_X9_takeClause_1 (42, .goto 4, 3) (List.mem_of_getElem? (i := 22) rfl)) (by decide), ?_⟩
  refine List.forall_mem_cons.mpr ⟨s_iconst (dd_X9_takeClause_1 (45, .iconst (-1), 1) (List.mem_of_getElem? (i := 23) rfl)) rfl, ?_⟩
  refine List.forall_mem_cons.mpr ⟨s_istore_n (dd_X9_takeClause_1 (46, .istore_n 2, 1) (List.mem_of_getElem? (i := 24) rfl)) rfl, ?_⟩
  refine List.forall_mem_cons.mpr ⟨s_iload_n (dd_X9_takeClause_1 (47, .iload_n 2, 1) (List.mem_of_getElem? (i := 25) rfl)) rfl, ?_⟩
  refine List.forall_mem_cons.mpr ⟨s_if_lt (dd_X9_takeClause_1 (48, .ifCond .lt 14, 3) (List.mem_of_getElem? (i := 26) rfl)) (by decide), ?_⟩
  refine List.forall_mem_cons.mpr ⟨s_iload_n (dd_X9_takeClause_1 (51, .iload_n 2, 1) (List.mem_of_getElem? (i := 27) rfl)) rfl, ?_⟩
  refine List.forall_mem_cons.mpr ⟨s_if_le (dd_X9_takeClause_1 (52, .ifCond .le 20, 3) (List.mem_of_getElem? (i := 28) rfl)) (by decide), ?_⟩
  refine List.forall_mem_cons.mpr ⟨s_aload_n (dd_X9_takeClause_1 (55, .aload_n 0, 1) (List.mem_of_getElem? (i := 29) rfl)) rfl, ?_⟩
  refine List.forall_mem_cons.mpr ⟨s_getI (k := 17) K9 (by decide) (dd_X9_takeClause_1 (56, .getfield 132, 3) (List.mem_of_getElem? (i := 30) rfl)) ow_X9_takeClause fl9_132 rfl, ?_⟩
  refine List.forall_mem_cons.mpr ⟨s_if_ne (dd_X9_takeClause_1 (59, .ifCond .ne 13, 3) (List.mem_of_getElem? (i := 31) rfl)) (by decide), ?_⟩
  refine List.forall_mem_cons.mpr ⟨s_aload_n (dd_X9_takeClause_1 (62, .aload_n 0, 1) (List.mem_of_getElem? (i := 32) rfl)) rfl, ?_⟩
  refine List.forall_mem_cons.mpr ⟨s_iconst (dd_X9_takeClause_1 (63, .iconst 1, 1) (List.mem_of_getElem? (i := 33) rfl)) rfl, ?_⟩
  refine List.forall_mem_cons.mpr ⟨s_aload_n (dd_X9_takeClause_1 (64, .aload_n 0, 1) (List.mem_of_getElem? (i := 34) rfl)) rfl, ?_⟩
  refine List.forall_mem_cons.mpr ⟨s_getI (k := 14) K9 (by decide) (dd_X9_takeClause_1 (65, .getfield 108, 3) (List.mem_of_getElem? (i := 35) rfl)) ow_X9_takeClause fl9_108 rfl, ?_⟩
  refine List.forall_mem_cons.mpr ⟨⟨s_callV (ci := 9) rfl mo124 rfl rfl (dd_X9_takeClause_1 (68, .invokevirtual 119, 3) (List.mem_of_getElem? (i := 36) rfl)) ow_X9_takeClause ml9_119 mi124 msl124 in_9 mn124, mo124⟩, ?_⟩
  refine List.forall_mem_cons.mpr ⟨Or.inr (Or.inl ⟨rfl, (dd_X9_takeClause_1 (71, .ireturn, 1) (List.mem_of_getElem? (i := 37) rfl)), rfl⟩), ?_⟩
  refine List.forall_mem_cons.mpr ⟨s_iload_n (dd_X9_takeClause_1 (72, .iload_n 2, 1) (List.mem_of_getElem? (i := 38) rfl)) rfl, ?_⟩
  refine List.forall_mem_cons.mpr ⟨s_if_ne (dd_X9_takeClause_1 (73, .ifCond .ne 10, 3) (List.mem_of_getElem? (i := 39) rfl)) (by decide), ?_⟩
  refine List.forall_mem_cons.mpr ⟨s_aload_n (dd_X9_takeClause_1 (76, .aload_n 0, 1) (List.mem_of_getElem? (i := 40) rfl)) rfl, ?_⟩
  refine List.forall_mem_cons.mpr ⟨s_getI (k := 17) K9 (by decide) (dd_X9_takeClause_1 (77, .getfield 132, 3) (List.mem_of_getElem? (i := 41) rfl)) ow_X9_takeClause fl9_132 rfl, ?_⟩
  refine List.forall_mem_cons.mpr ⟨s_goto (dd_X9_takeClause_1 (80, .goto 43, 3) (List.mem_of_getElem? (i := 42) rfl)) (by decide), ?_⟩
  refine List.forall_mem_cons.mpr ⟨s_iload_n (dd_X9_takeClause_1 (83, .iload_n 2, 1) (List.mem_of_getElem? (i := 43) rfl)) rfl, ?_⟩
  refine List.forall_mem_cons.mpr ⟨s_iconst (dd_X9_takeClause_1 (84, .iconst 1, 1) (List.mem_of_getElem? (i := 44) rfl)) rfl, ?_⟩
  refine List.forall_mem_cons.mpr ⟨s_icmp_ne (dd_X9_takeClause_1 (85, .if_icmp .ne 19, 3) (List.mem_of_getElem? (i := 45) rfl)) (by decide), ?_⟩
  refine List.forall_mem_cons.mpr ⟨s_aload_n (dd_X9_takeClause_1 (88, .aload_n 0, 1) (List.mem_of_getElem? (i := 46) rfl)) rfl, ?_⟩
  refine List.forall_mem_cons.mpr ⟨s_getI (k := 19) K9 (by decide) (dd_X9_takeClause_1 (89, .getfield 138, 3) (List.mem_of_getElem? (i := 47) rfl)) ow_X9_takeClause fl9_138 rfl, ?_⟩
  refine List.forall_mem_cons.mpr ⟨s_iconst (dd_X9_takeClause_1 (92, .iconst 5, 1) (List.mem_of_getElem? (i := 48) rfl)) rfl, ?_⟩
  refine List.forall_mem_cons.mpr ⟨s_icmp_ne (dd_X9_takeClause_1 (93, .if_icmp .ne 7, 3) (List.mem_of_getElem? (i := 49) rfl)) (by decide), ?_⟩
  refine List.forall_mem_cons.mpr ⟨s_iconst (dd_X9_takeClause_1 (96, .iconst 1, 1) (List.mem_of_getElem? (i := 50) rfl)) rfl, ?_⟩
  refine List.forall_mem_cons.mpr ⟨s_goto (dd_X9_takeClause_1 (97, .goto 26, 3) (List.mem_of_getElem? (i := 51) rfl)) (by decide), ?_⟩
  refine List.forall_mem_cons.mpr ⟨s_iconst (dd_X9_takeClause_1 (100, .iconst 0, 1) (List.mem_of_getElem? (i := 52) rfl)) rfl, ?_⟩
  refine List.forall_mem_cons.mpr ⟨s_goto (dd_X9_takeClause_1 (101, .goto 22, 3) (List.mem_of_getElem? (i := 53) rfl)) (by decide), ?_⟩
  refine List.forall_mem_cons.mpr ⟨s_iload_n (dd_X9_takeClause_1 (104, .iload_n 2, 1) (List.mem_of_getElem? (i := 54) rfl)) rfl, ?_⟩
  refine List.forall_mem_cons.mpr ⟨s_iconst (dd_X9_takeClause_1 (105, .iconst 2, 1) (List.mem_of_getElem? (i := 55) rfl)) rfl, ?_⟩
  refine List.forall_mem_cons.mpr ⟨s_icmp_ne (dd_X9_takeClause_1 (106, .if_icmp .ne 16, 3) (List.mem_of_getElem? (i := 56) rfl)) (by decide), ?_⟩
  refine List.forall_mem_cons.mpr ⟨s_aload_n (dd_X9_takeClause_1 (109, .aload_n 0, 1) (List.mem_of_getElem? (i := 57) rfl)) rfl, ?_⟩
  refine List.forall_mem_cons.mpr ⟨s_getI (k := 23) K9 (by decide) (dd_X9_takeClause_1 (110, .getfield 145, 3) (List.mem_of_getElem? (i := 58) rfl)) ow_X9_takeClause fl9_145 rfl, ?_⟩
  refine List.forall_mem_cons.mpr ⟨s_bipush (dd_X9_takeClause_1 (113, .bipush 7, 2) (List.mem_of_getElem? (i := 59) rfl)) rfl, ?_⟩
  exact fun _ h => absurd h List.not_mem_nil
def D_X9_takeClause_2 : List (Nat × Instr × Nat) := [(115, .if_icmp .ne 7, 3), (118, .iconst 1, 1), (119, .goto 4, 3), (122, .iconst 0, 1), (123, .istore_n 3, 1), (124, .iload_n 3, 1), (125, .ifCond .eq 13, 3), (128, .aload_n 0, 1), (129, .iconst 3, 1), (130, .aload_n 0, 1), (131, .getfield 108, 3), (134, .invokevirtual 119, 3), (137, .ireturn, 1), (138, .aload_n 0, 1), (139, .dup, 1), (140, .getfield 108, 3), (143, .iconst 1, 1), (144, .iadd, 1), (145, .putfield 108, 3), (148, .iload_n 2, 1), (149, .ifCond .ne 10, 3), (152, .aload_n 0, 1), (153, .invokevirtual 148, 3), (156, .goto 31, 3), (159, .iload_n 2, 1), (160, .iconst 1, 1), (161, .if_icmp .ne 10, 3), (164, .aload_n 0, 1), (165, .invokevirtual 151, 3), (168, .goto 19, 3), (171, .iload_n 2, 1), (172, .iconst 2, 1), (173, .if_icmp .ne 10, 3), (176, .aload_n 0, 1), (177, .invokevirtual 154, 3), (180, .goto 7, 3), (183, .aload_n 0, 1), (184, .invokevirtual 157, 3), (187, .istore 4, 2), (189, .iload 4, 2), (191, .ifCond .ne 22, 3), (194, .aload_n 0, 1), (195, .invokevirtual 111, 3), (198, .bipush 59, 2), (200, .if_icmp .eq 13, 3), (203, .aload_n 0, 1), (204, .iconst 1, 1), (205, .aload_n 0, 1), (206, .getfield 108, 3), (209, .invokevirtual 119, 3), (212, .ireturn, 1), (213, .aload_n 0, 1), (214, .dup, 1), (215, .getfield 108, 3), (218, .iconst 1, 1), (219, .iadd, 1), (220, .putfield 108, 3), (223, .iload 4, 2), (225, .ireturn, 1)]
theorem dd_X9_takeClause_2 : ∀ e ∈ D_X9_takeClause_2, decode (mtJ 131).2.1 e.1 = .ok e.2 := by decide +kernel
set_option maxRecDepth 10000 in
theorem so_X9_takeClause_2 : ∀ e ∈ o_X9_takeClause_2, SndO 131 e.1 e.2 := by
  refine List.forall_mem_cons.mpr ⟨s_icmp_ne (dd_X9_takeClause_2 (115, .if_icmp .ne 7, 3) (List.mem_of_getElem? (i := 0) rfl)) (by decide), ?_⟩
  refine List.forall_mem_cons.mpr ⟨s_iconst (dd_X9_takeClause_2 (118, .iconst 1, 1) (List.mem_of_getElem? (i := 1) rfl)) rfl, ?_⟩
  refine List.forall_mem_cons.mpr ⟨s_goto (dd_X9_takeClause_2 (119, .goto 4, 3) (List.mem_of_getElem? (i := 2) rfl)) (by decide), ?_⟩
  refine List.forall_mem_cons.mpr ⟨s_iconst (dd_X9_takeClause_2 (122, .iconst 0, 1) (List.mem_of_getElem? (i := 3) rfl)) rfl, ?_⟩
  refine List.forall_mem_cons.mpr ⟨s_istore_n (dd_X9_takeClause_2 (123, .istore_n 3, 1) (List.mem_of_getElem? (i := 4) rfl)) rfl, ?_⟩
  refine List.forall_mem_cons.mpr ⟨s_iload_n (dd_X9_takeClause_2 (124, .iload_n 3, 1) (List.mem_of_getElem? (i := 5) rfl)) rfl, ?_⟩
  refine List.forall_mem_cons.mpr ⟨s_if_eq (dd_X9_takeClause_2 (125, .ifCond .eq 13, 3) (List.mem_of_getElem? (i := 6) rfl)) (by decide), ?_⟩
  refine List.forall_mem_cons.mpr ⟨s_aload_n (dd_X9_takeClause_2 (128, .aload_n 0, 1) (List.mem_of_getElem? (i := 7) rfl)) rfl, ?_⟩
  refine List.forall_mem_cons.mpr ⟨s_iconst (dd_X9_takeClause_2 (129, .iconst 3, 1) (List.mem_of_getElem? (i := 8) rfl)) rfl, ?_⟩
  refine List.forall_mem_cons.mpr ⟨s_aload_n (dd_X9_takeClause_2 (130, .aload_n 0, 1) (List.mem_of_getElem? (i := 9) rfl)) rfl, ?_⟩
  refine List.forall_mem_cons.mpr ⟨s_getI (k := 14) K9 (by decide) (dd_X9_takeClause_2 (131, .getfield 108, 3) (List.mem_of_getElem? (i := 10) rfl)) ow_X9_takeClause fl9_108 rfl, ?_⟩
  refine List.forall_mem_cons.mpr ⟨⟨s_callV (ci := 9) rfl mo124 rfl rfl (dd_X9_takeClause_2 (134, .invokevirtual 119, 3) (List.mem_of_getElem? (i := 11) rfl)) ow_X9_takeClause ml9_119 mi124 msl124 in_9 mn124, mo124⟩, ?_⟩
  refine List.forall_mem_cons.mpr ⟨Or.inr (Or.inl ⟨rfl, (dd_X9_takeClause_2 (137, .ireturn, 1) (List.mem_of_getElem? (i := 12) rfl)), rfl⟩), ?_⟩
  refine List.forall_mem_cons.mpr ⟨s_aload_n (dd_X9_takeClause_2 (138, .aload_n 0, 1) (List.mem_of_getElem? (i := 13) rfl)) rfl, ?_⟩
  refine List.forall_mem_cons.mpr ⟨s_dup (dd_X9_takeClause_2 (139, .dup, 1) (List.mem_of_getElem? (i := 14) rfl)), ?_⟩
  refine List.forall_mem_cons.mpr ⟨s_getI (k := 14) K9 (by decide) (dd_X9_takeClause_2 (140, .getfield 108, 3) (List.mem_of_getElem? (i := 15) rfl)) ow_X9_takeClause fl9_108 rfl, ?_⟩
  refine List.forall_mem_cons.mpr ⟨s_iconst (dd_X9_takeClause_2 (143, .iconst 1, 1) (List.mem_of_getElem? (i := 16) rfl)) rfl, ?_⟩
  refine List.forall_mem_cons.mpr ⟨s_iadd (dd_X9_takeClause_2 (144, .iadd, 1) (List.mem_of_getElem? (i := 17) rfl)), ?_⟩
  refine List.forall_mem_cons.mpr ⟨s_putI (k := 14) K9 (by decide) (dd_X9_takeClause_2 (145, .putfield 108, 3) (List.mem_of_getElem? (i := 18) rfl)) ow_X9_takeClause fl9_108 (Or.inl rfl) rfl, ?_⟩
  refine List.forall_mem_cons.mpr ⟨s_iload_n (dd_X9_takeClause_2 (148, .iload_n 2, 1) (List.mem_of_getElem? (i := 19) rfl)) rfl, ?_⟩
  refine List.forall_mem_cons.mpr ⟨s_if_ne (dd_X9_takeClause_2 (149, .ifCond .ne 10, 3) (List.mem_of_getElem? (i := 20) rfl)) (by decide), ?_⟩
  refine List.forall_mem_cons.mpr ⟨s_aload_n (dd_X9_takeClause_2 (152, .aload_n 0, 1) (List.mem_of_getElem? (i := 21) rfl)) rfl, ?_⟩
  refine List.forall_mem_cons.mpr ⟨⟨s_callV (ci := 9) rfl mo127 rfl rfl (dd_X9_takeClause_2 (153, .invokevirtual 148, 3) (List.mem_of_getElem? (i := 22) rfl)) ow_X9_takeClause ml9_148 mi127 msl127 in_9 mn127, mo127⟩, ?_⟩
  refine List.forall_mem_cons.mpr ⟨s_goto (dd_X9_takeClause_2 (156, .goto 31, 3) (List.mem_of_getElem? (i := 23) rfl)) (by decide), ?_⟩
  refine List.forall_mem_cons.mpr ⟨s_iload_n (dd_X9_takeClause_2 (159, .iload_n 2, 1) (List.mem_of_getElem? (i := 24) rfl)) rfl, ?_⟩
  refine List.forall_mem_cons.mpr ⟨s_iconst (dd_X9_takeClause_2 (160, .iconst 1, 1) (List.mem_of_getElem? (i := 25) rfl)) rfl, ?_⟩
  refine List.forall_mem_cons.mpr ⟨s_icmp_ne (dd_X9_takeClause_2 (161, .if_icmp .ne 10, 3) (List.mem_of_getElem? (i := 26) rfl)) (by decide), ?_⟩
  refine List.forall_mem_cons.mpr ⟨s_aload_n (dd_X9_takeClause_2 (164, .aload_n 0, 1) (List.mem_of_getElem? (i := 27) rfl)) rfl, ?_⟩
  refine List.forall_mem_cons.mpr ⟨⟨s_callV (ci := 9) rfl mo128 rfl rfl (dd_X9_takeClause_2 (165, .invokevirtual 151, 3) (List.mem_of_getElem? (i := 28) rfl)) ow_X9_takeClause ml9_151 mi128 msl128 in_9 mn128, mo128⟩, ?_⟩
  refine List.forall_mem_cons.mpr ⟨s_goto (dd_X9_takeClause_2 (168, .goto 19, 3) (List.mem_of_getElem? (i := 29) rfl)) (by decide), ?_⟩
  refine List.forall_mem_cons.mpr ⟨s_iload_n (dd_X9_takeClause_2 (171, .iload_n 2, 1) (List.mem_of_getElem? (i := 30) rfl)) rfl, ?_⟩
  refine List.forall_mem_cons.mpr ⟨s_iconst (dd_X9_takeClause_2 (172, .iconst 2, 1) (List.mem_of_getElem? (i := 31) rfl)) rfl, ?_⟩
  refine List.forall_mem_cons.mpr ⟨s_icmp_ne (dd_X9_takeClause_2 (173, .if_icmp .ne 10, 3) (List.mem_of_getElem? (i := 32) rfl)) (by decide), ?_⟩
  refine List.forall_mem_cons.mpr ⟨s_aload_n (dd_X9_takeClause_2 (176, .aload_n 0, 1) (List.mem_of_getElem? (i := 33) rfl)) rfl, ?_⟩
  refine List.forall_mem_cons.mpr ⟨⟨s_callV (ci := 9) rfl mo129 rfl rfl (dd_X9_takeClause_2 (177, .invokevirtual 154, 3) (List.mem_of_getElem? (i := 34) rfl)) ow_X9_takeClause ml9_154 mi129 msl129 in_9 mn129, mo129⟩, ?_⟩
  refine List.forall_mem_cons.mpr ⟨s_goto (dd_X9_takeClause_2 (180, .goto 7, 3) (List.mem_of_getElem? (i := 35) rfl)) (by decide), ?_⟩
  refine List.forall_mem_cons.mpr ⟨s_aload_n (dd_X9_takeClause_2 (183, .aload_n 0, 1) (List.mem_of_getElem? (i := 36) rfl)) rfl, ?_⟩
  refine List.forall_mem_cons.mpr ⟨⟨s_callV (ci := 9) rfl mo130 rfl rfl (dd_X9_takeClause_2 (184, .invokevirtual 157, 3) (List.mem_of_getElem? (i := 37) rfl)) ow_X9_takeClause ml9_157 mi130 msl130 in_9 mn130, mo130⟩, ?_⟩
  refine List.forall_mem_cons.mpr ⟨s_istore (dd_X9_takeClause_2 (187, .istore 4, 2) (List.mem_of_getElem? (i := 38) rfl)), ?_⟩
  refine List.forall_mem_cons.mpr ⟨s_iload (dd_X9_takeClause_2 (189, .iload 4, 2) (List.mem_of_getElem? (i := 39) rfl)), ?_⟩
  refine List.forall_mem_cons.mpr ⟨s_if_ne (dd_X9_takeClause_2 (191, .ifCond .ne 22, 3) (List.mem_of_getElem? (i := 40) rfl)) (by decide), ?_⟩
  refine List.forall_mem_cons.mpr ⟨s_aload_n (dd_X9_takeClause_2 (194, .aload_n 0, 1) (List.mem_of_getElem? (i := 41) rfl)) rfl, ?_⟩
  refine List.forall_mem_cons.mpr ⟨⟨s_callV (ci := 9) rfl mo123 rfl rfl (dd_X9_takeClause_2 (195, .invokevirtual 111, 3) (List.mem_of_getElem? (i := 42) rfl)) ow_X9_takeClause ml9_111 mi123 msl123 in_9 mn123, mo123⟩, ?_⟩
  refine List.forall_mem_cons.mpr ⟨s_bipush (dd_X9_takeClause_2 (198, .bipush 59, 2) (List.mem_of_getElem? (i := 43) rfl)) rfl, ?_⟩
  refine List.forall_mem_cons.mpr ⟨s_icmp_eq (dd_X9_takeClause_2 (200, .if_icmp .eq 13, 3) (List.mem_of_getElem? (i := 44) rfl)) (by decide), ?_⟩
  refine List.forall_mem_cons.mpr ⟨s_aload_n (dd_X9_takeClause_2 (203, .aload_n 0, 1) (List.mem_of_getElem? (i := 45) rfl)) rfl, ?_⟩
  refine List.forall_mem_cons.mpr ⟨s_iconst (dd_X9_takeClause_2 (204, .iconst 1, 1) (List.mem_of_getElem? (i := 46) rfl)) rfl, ?_⟩
  refine List.forall_mem_cons.mpr ⟨s_aload_n (dd_X9_takeClause_2 (205, .aload_n 0, 1) (List.mem_of_getElem? (i := 47) rfl)) rfl, ?_⟩
  refine List.forall_mem_cons.mpr ⟨s_getI (k := 14) K9 (by decide) (dd_X9_takeClause_2 (206, .getfield 108, 3) (List.mem_of_getElem? (i := 48) rfl)) ow_X9_takeClause fl9_108 rfl, ?_⟩
  refine List.forall_mem_cons.mpr ⟨⟨s_callV (ci := 9) rfl mo124 rfl rfl (dd_X9_takeClause_2 (209, .invokevirtual 119, 3) (List.mem_of_getElem? (i := 49) rfl)) ow_X9_takeClause ml9_119 mi124 msl124 in_9 mn124, mo124⟩, ?_⟩
  refine List.forall_mem_cons.mpr ⟨Or.inr (Or.inl ⟨rfl, (dd_X9_takeClause_2 (212, .ireturn, 1) (List.mem_of_getElem? (i := 50) rfl)), rfl⟩), ?_⟩
  refine List.forall_mem_cons.mpr ⟨s_aload_n (dd_X9_takeClause_2 (213, .aload_n 0, 1) (List.mem_of_getElem? (i := 51) rfl)) rfl, ?_⟩
  refine List.forall_mem_cons.mpr ⟨s_dup (dd_X9_takeClause_2 (214, .dup, 1) (List.mem_of_getElem? (i := 52) rfl)), ?_⟩
  refine List.forall_mem_cons.mpr ⟨s_getI (k := 14) K9 (by decide) (dd_X9_takeClause_2 (215, .getfield 108, 3) (List.mem_of_getElem? (i := 53) rfl)) ow_X9_takeClause fl9_108 rfl, ?_⟩
  refine List.forall_mem_cons.mpr ⟨s_iconst (dd_X9_takeClause_2 (218, .iconst 1, 1) (List.mem_of_getElem? (i := 54) rfl)) rfl, ?_⟩
  refine List.forall_mem_cons.mpr ⟨s_iadd (dd_X9_takeClause_2 (219, .iadd, 1) (List.mem_of_getElem? (i := 55) rfl)), ?_⟩
  refine List.forall_mem_cons.mpr ⟨s_putI (k := 14) K9 (by decide) (dd_X9_takeClause_2 (220, .putfield 108, 3) (List.mem_of_getElem? (i := 56) rfl)) ow_X9_takeClause fl9_108 (Or.inl rfl) rfl, ?_⟩
  refine List.forall_mem_cons.mpr ⟨s_iload (dd_X9_takeClause_2 (223, .iload 4, 2) (List.mem_of_getElem? (i := 57) rfl)), ?_⟩
  refine List.forall_mem_cons.mpr ⟨Or.inr (Or.inl ⟨rfl, (dd_X9_takeClause_2 (225, .ireturn, 1) (List.mem_of_getElem? (i := 58) rfl)), rfl⟩), ?_⟩
  exact fun _ h => absurd h List.not_mem_nil
theorem so_X9_takeClause : ∀ e ∈ o_X9_takeClause, SndO 131 e.1 e.2 := List.forall_mem_append.mpr ⟨so_X9_takeClause_1, so_X9_takeClause_2⟩
theorem ow_X9_takeRead : (mtJ 132).1.cls = "SatchelSinsModel" := rfl
def D_X9_takeRead_1 : List (Nat × Instr × Nat) := [(0, .aload_n 0, 1), (1, .aload_n 0, 1), (2, .getfield 132, 3), (5, .putfield 87, 3), (8, .aload_n 0, 1), (9, .aload_n 0, 1), (10, .getfield 135, 3), (13, .putfield 160, 3), (16, .aload_n 0, 1), (17, .aload_n 0, 1), (18, .getfield 138, 3), (21, .putfield 91, 3), (24, .aload_n 0, 1), (25, .aload_n 0, 1), (26, .getfield 145, 3), (29, .putfield 98, 3), (32, .iconst 0, 1), (33, .istore_n 1, 1), (34, .iload_n 1, 1), (35, .aload_n 0, 1), (36, .getfield 91, 3), (39, .if_icmp .ge 45, 3), (42, .aload_n 0, 1), (43, .getfield 7, 3), (46, .iload_n 1, 1), (47, .aload_n 0, 1), (48, .getfield 35, 3), (51, .iload_n 1, 1), (52, .iaload, 1), (53, .iastore, 1), (54, .aload_n 0, 1), (55, .getfield 13, 3), (58, .iload_n 1, 1), (59, .aload_n 0, 1), (60, .getfield 38, 3), (63, .iload_n 1, 1), (64, .iaload, 1), (65, .iastore, 1), (66, .aload_n 0, 1), (67, .getfield 16, 3), (70, .iload_n 1, 1), (71, .aload_n 0, 1), (72, .getfield 41, 3), (75, .iload_n 1, 1), (76, .iaload, 1), (77, .iastore, 1), (78, .iinc 1 1, 3), (81, .goto (-47), 3), (84, .iconst 0, 1), (85, .istore_n 1, 1), (86, .iload_n 1, 1), (87, .aload_n 0, 1), (88, .getfield 98, 3), (91, .if_icmp .ge 33, 3), (94, .aload_n 0, 1), (95, .getfield 19, 3), (98, .iload_n 1, 1), (99, .aload_n 0, 1), (100, .getfield 44, 3), (103, .iload_n 1, 1)]
theorem dd_X9_takeRead_1 : ∀ e ∈ D_X9_takeRead_1, decode (mtJ 132).2.1 e.1 = .ok e.2 := by decide +kernel
set_option maxRecDepth 10000 in
theorem so_X9_takeRead_1 : ∀ e ∈ o_X9_takeRead_1, SndO 132 e.1 e.2 := by
  refine List.forall_mem_cons.mpr ⟨s_aload_n (dd_X9_takeRead_1 (0, .aload_n 0, 1) (List.mem_of_getElem? (i := 0) rfl)) rfl, ?_⟩
  refine List.forall_mem_cons.mpr ⟨s_aload_n (dd_X9_takeRead_1 (1, .aload_n 0, 1) (List.mem_of_getElem? (i := 1) rfl)) rfl, ?_⟩
  refine List.forall_mem_cons.mpr ⟨s_getI (k := 17) K9 (by decide) (dd_X9_takeRead_1 (2, .getfield 132, 3) (List.mem_of_getElem? (i := 2) rfl)) ow_X9_takeRead fl9_132 rfl, ?_⟩
  refine List.forall_mem_cons.mpr ⟨s_putZ (k := 0) K9 (by decide) (dd_X9_takeRead_1 (5, .putfield 87, 3) (List.mem_of_getElem? (i := 3) rfl)) ow_X9_takeRead fl9_87 (Or.inl rfl) rfl, ?_⟩
  refine List.forall_mem_cons.mpr ⟨s_aload_n (dd_X9_takeRead_1 (8, .aload_n 0, 1) (List.mem_of_getElem? (i := 4) rfl)) rfl, ?_⟩
  refine List.forall_mem_cons.mpr ⟨s_aload_n (dd_X9_takeRead_1 (9, .aload_n 0, 1) (List.mem_of_getElem? (i := 5) rfl)) rfl, ?_⟩
  refine List.forall_mem_cons.mpr ⟨s_getI (k := 18) K9 (by decide) (dd_X9_takeRead_1 (10, .getfield 135, 3) (List.mem_of_getElem? (i := 6) rfl)) ow_X9_takeRead fl9_135 rfl, ?_⟩
  refine List.forall_mem_cons.mpr ⟨s_putI (k := 1) K9 (by decide) (dd_X9_takeRead_1 (13, .putfield 160, 3) (List.mem_of_getElem? (i := 7) rfl)) ow_X9_takeRead fl9_160 (Or.inl rfl) rfl, ?_⟩
  refine List.forall_mem_cons.mpr ⟨s_aload_n (dd_X9_takeRead_1 (16, .aload_n 0, 1) (List.mem_of_getElem? (i := 8) rfl)) rfl, ?_⟩
  refine List.forall_mem_cons.mpr ⟨s_aload_n (dd_X9_takeRead_1 (17, .aload_n 0, 1) (List.mem_of_getElem? (i := 9) rfl)) rfl, ?_⟩
  refine List.forall_mem_cons.mpr ⟨s_getI (k := 19) K9 (by decide) (dd_X9_takeRead_1 (18, .getfield 138, 3) (List.mem_of_getElem? (i := 10) rfl)) ow_X9_takeRead fl9_138 rfl, ?_⟩
  refine List.forall_mem_cons.mpr ⟨s_putI (k := 2) K9 (by decide) (dd_X9_takeRead_1 (21, .putfield 91, 3) (List.mem_of_getElem? (i := 11) rfl)) ow_X9_takeRead fl9_91 (Or.inl rfl) rfl, ?_⟩
  refine List.forall_mem_cons.mpr ⟨s_aload_n (dd_X9_takeRead_1 (24, .aload_n 0, 1) (List.mem_of_getElem? (i := 12) rfl)) rfl, ?_⟩
  refine List.forall_mem_cons.mpr ⟨s_aload_n (dd_X9_takeRead_1 (25, .aload_n 0, 1) (List.mem_of_getElem? (i := 13) rfl)) rfl, ?_⟩
  refine List.forall_mem_cons.mpr ⟨s_getI (k := 23) K9 (by decide) (dd_X9_takeRead_1 (26, .getfield 145, 3) (List.mem_of_getElem? (i := 14) rfl)) ow_X9_takeRead fl9_145 rfl, ?_⟩
  refine List.forall_mem_cons.mpr ⟨s_putI (k := 6) K9 (by decide) (dd_X9_takeRead_1 (29, .putfield 98, 3) (List.mem_of_getElem? (i := 15) rfl)) ow_X9_takeRead fl9_98 (Or.inl rfl) rfl, ?_⟩
  refine List.forall_mem_cons.mpr ⟨s_iconst (dd_X9_takeRead_1 (32, .iconst 0, 1) (List.mem_of_getElem? (i := 16) rfl)) rfl, ?_⟩
  refine List.forall_mem_cons.mpr ⟨s_istore_n (dd_X9_takeRead_1 (33, .istore_n 1, 1) (List.mem_of_getElem? (i := 17) rfl)) rfl, ?_⟩
  refine List.forall_mem_cons.mpr ⟨s_iload_n (dd_X9_takeRead_1 (34, .iload_n 1, 1) (List.mem_of_getElem? (i := 18) rfl)) rfl, ?_⟩
  refine List.forall_mem_cons.mpr ⟨s_aload_n (dd_X9_takeRead_1 (35, .aload_n 0, 1) (List.mem_of_getElem? (i := 19) rfl)) rfl, ?_⟩
  refine List.forall_mem_cons.mpr ⟨s_getI (k := 2) K9 (by decide) (dd_X9_takeRead_1 (36, .getfield 91, 3) (List.mem_of_getElem? (i := 20) rfl)) ow_X9_takeRead fl9_91 rfl, ?_⟩
  refine List.forall_mem_cons.mpr ⟨s_icmp_ge (dd_X9_takeRead_1 (39, .if_icmp .ge 45, 3) (List.mem_of_getElem? (i := 21) rfl)) (by decide), ?_⟩
  refine List.forall_mem_cons.mpr ⟨s_aload_n (dd_X9_takeRead_1 (42, .aload_n 0, 1) (List.mem_of_getElem? (i := 22) rfl)) rfl, ?_⟩
  refine List.forall_mem_cons.mpr ⟨s_getR (k := 3) K9 (by decide) (dd_X9_takeRead_1 (43, .getfield 7, 3) (List.mem_of_getElem? (i := 23) rfl)) ow_X9_takeRead fl9_7 rfl, ?_⟩
  refine List.forall_mem_cons.mpr ⟨s_iload_n (dd_X9_takeRead_1 (46, .iload_n 1, 1) (List.mem_of_getElem? (i := 24) rfl)) rfl, ?_⟩
  refine List.forall_mem_cons.mpr ⟨s_aload_n (dd_X9_takeRead_1 (47, .aload_n 0, 1) (List.mem_of_getElem? (i := 25) rfl)) rfl, ?_⟩
  refine List.forall_mem_cons.mpr ⟨s_getR (k := 20) K9 (by decide) (dd_X9_takeRead_1 (48, .getfield 35, 3) (List.mem_of_getElem? (i := 26) rfl)) ow_X9_takeRead fl9_35 rfl, ?_⟩
  refine List.forall_mem_cons.mpr ⟨s_iload_n (dd_X9_takeRead_1 (51, .iload_n 1, 1) (List.mem_of_getElem? (i := 27) rfl)) rfl, ?_⟩
  refine List.forall_mem_cons.mpr ⟨s_iald (dd_X9_takeRead_1 (52, .iaload, 1) (List.mem_of_getElem? (i := 28) rfl)), ?_⟩
  refine List.forall_mem_cons.mpr ⟨s_iast (dd_X9_takeRead_1 (53, .iastore, 1) (List.mem_of_getElem? (i := 29) rfl)), ?_⟩
  refine List.forall_mem_cons.mpr ⟨s_aload_n (dd_X9_takeRead_1 (54, .aload_n 0, 1) (List.mem_of_getElem? (i := 30) rfl)) rfl, ?_⟩
  refine List.forall_mem_cons.mpr ⟨s_getR (k := 4) K9 (by decide) (dd_X9_takeRead_1 (55, .getfield 13, 3) (List.mem_of_getElem? (i := 31) rfl)) ow_X9_takeRead fl9_13 rfl, ?_⟩
  refine List.forall_mem_cons.mpr ⟨s_iload_n (dd_X9_takeRead_1 (58, .iload_n 1, 1) (List.mem_of_getElem? (i := 32) rfl)) rfl, ?_⟩
  refine List.forall_mem_cons.mpr ⟨s_aload_n (dd_X9_takeRead_1 (59, .aload_n 0, 1) (List.mem_of_getElem? (i := 33) rfl)) rfl, ?_⟩
  refine List.forall_mem_cons.mpr ⟨s_getR (k := 21) K9 (by decide) (dd_X9_takeRead_1 (60, .getfield 38, 3) (List.mem_of_getElem? (i := 34) rfl)) ow_X9_takeRead fl9_38 rfl, ?_⟩
  refine List.forall_mem_cons.mpr ⟨s_iload_n (dd_X9_takeRead_1 (63, .iload_n 1, 1) (List.mem_of_getElem? (i := 35) rfl)) rfl, ?_⟩
  refine List.forall_mem_cons.mpr ⟨s_iald (dd_X9_takeRead_1 (64, .iaload, 1) (List.mem_of_getElem? (i := 36) rfl)), ?_⟩
  refine List.forall_mem_cons.mpr ⟨s_iast (dd_X9_takeRead_1 (65, .iastore, 1) (List.mem_of_getElem? (i := 37) rfl)), ?_⟩
  refine List.forall_mem_cons.mpr ⟨s_aload_n (dd_X9_takeRead_1 (66, .aload_n 0, 1) (List.mem_of_getElem? (i := 38) rfl)) rfl, ?_⟩
  refine List.forall_mem_cons.mpr ⟨s_getR (k := 5) K9 (by decide) (dd_X9_takeRead_1 (67, .getfield 16, 3) (List.mem_of_getElem? (i := 39) rfl)) ow_X9_takeRead fl9_16 rfl, ?_⟩
  refine List.forall_mem_cons.mpr ⟨s_iload_n (dd_X9_takeRead_1 (70, .iload_n 1, 1) (List.mem_of_getElem? (i := 40) rfl)) rfl, ?_⟩
  refine List.forall_mem_cons.mpr ⟨s_aload_n (dd_X9_takeRead_1 (71, .aload_n 0, 1) (List.mem_of_getElem? (i := 41) rfl)) rfl, ?_⟩
  refine List.forall_mem_cons.mpr ⟨s_getR (k := 22) K9 (by decide) (dd_X9_takeRead_1 (72, .getfield 41, 3) (List.mem_of_getElem? (i := 42) rfl)) ow_X9_takeRead fl9_41 rfl, ?_⟩
  refine List.forall_mem_cons.mpr ⟨s_iload_n (dd_X9_takeRead_1 (75, .iload_n 1, 1) (List.mem_of_getElem? (i := 43) rfl)) rfl, ?_⟩
  refine List.forall_mem_cons.mpr ⟨s_iald (dd_X9_takeRead_1 (76, .iaload, 1) (List.mem_of_getElem? (i := 44) rfl)), ?_⟩
  refine List.forall_mem_cons.mpr ⟨s_iast (dd_X9_takeRead_1 (77, .iastore, 1) (List.mem_of_getElem? (i := 45) rfl)), ?_⟩
  refine List.forall_mem_cons.mpr ⟨s_iinc (dd_X9_takeRead_1 (78, .iinc 1 1, 3) (List.mem_of_getElem? (i := 46) rfl)) rfl, ?_⟩
  refine List.forall_mem_cons.mpr ⟨s_goto (dd_X9_takeRead_1 (81, .goto (-47), 3) (List.mem_of_getElem? (i := 47) rfl)) (by decide), ?_⟩
  refine List.forall_mem_cons.mpr ⟨s_iconst (dd_X9_takeRead_1 (84, .iconst 0, 1) (List.mem_of_getElem? (i := 48) rfl)) rfl, ?_⟩
  refine List.forall_mem_cons.mpr ⟨s_istore_n (dd_X9_takeRead_1 (85, .istore_n 1, 1) (List.mem_of_getElem? (i := 49) rfl)) rfl, ?_⟩
  refine List.forall_mem_cons.mpr ⟨s_iload_n (dd_X9_takeRead_1 (86, .iload_n 1, 1) (List.mem_of_getElem? (i := 50) rfl)) rfl, ?_⟩
  refine List.forall_mem_cons.mpr ⟨s_aload_n (dd_X9_takeRead_1 (87, .aload_n 0, 1) (List.mem_of_getElem? (i := 51) rfl)) rfl, ?_⟩
  refine List.forall_mem_cons.mpr ⟨s_getI (k := 6) K9 (by decide) (dd_X9_takeRead_1 (88, .getfield 98, 3) (List.mem_of_getElem? (i := 52) rfl)) ow_X9_takeRead fl9_98 rfl, ?_⟩
  refine List.forall_mem_cons.mpr ⟨s_icmp_ge (dd_X9_takeRead_1 (91, .if_icmp .ge 33, 3) (List.mem_of_getElem? (i := 53) rfl)) (by decide), ?_⟩
  refine List.forall_mem_cons.mpr ⟨s_aload_n (dd_X9_takeRead_1 (94, .aload_n 0, 1) (List.mem_of_getElem? (i := 54) rfl)) rfl, ?_⟩
  refine List.forall_mem_cons.mpr ⟨s_getR (k := 7) K9 (by decide) (dd_X9_takeRead_1 (95, .getfield 19, 3) (List.mem_of_getElem? (i := 55) rfl)) ow_X9_takeRead fl9_19 rfl, ?_⟩
  refine List.forall_mem_cons.mpr ⟨s_iload_n (dd_X9_takeRead_1 (98, .iload_n 1, 1) (List.mem_of_getElem? (i := 56) rfl)) rfl, ?_⟩
  refine List.forall_mem_cons.mpr ⟨s_aload_n (dd_X9_takeRead_1 (99, .aload_n 0, 1) (List.mem_of_getElem? (i := 57) rfl)) rfl, ?_⟩
  refine List.forall_mem_cons.mpr ⟨s_getR (k := 24) K9 (by decide) (dd_X9_takeRead_1 (100, .getfield 44, 3) (List.mem_of_getElem? (i := 58) rfl)) ow_X9_takeRead fl9_44 rfl, ?_⟩
  refine List.forall_mem_cons.mpr ⟨s_iload_n (dd_X9_takeRead_1 (103, .iload_n 1, 1) (List.mem_of_getElem? (i := 59) rfl)) rfl, ?_⟩
  exact fun _ h => absurd h List.not_mem_nil
def D_X9_takeRead_2 : List (Nat × Instr × Nat) := [(104, .iaload, 1), (105, .iastore, 1), (106, .aload_n 0, 1), (107, .getfield 22, 3), (110, .iload_n 1, 1), (111, .aload_n 0, 1), (112, .getfield 47, 3), (115, .iload_n 1, 1), (116, .iaload, 1), (117, .iastore, 1), (118, .iinc 1 1, 3), (121, .goto (-35), 3), (124, .iconst 0, 1), (125, .istore_n 1, 1), (126, .iload_n 1, 1), (127, .bipush 22, 2), (129, .if_icmp .ge 16, 3), (132, .aload_n 0, 1), (133, .getfield 25, 3), (136, .iload_n 1, 1), (137, .iconst 0, 1), (138, .iastore, 1), (139, .iinc 1 1, 3), (142, .goto (-16), 3), (145, .iconst 0, 1), (146, .istore_n 1, 1), (147, .iload_n 1, 1), (148, .bipush 7, 2), (150, .if_icmp .ge 19, 3), (153, .aload_n 0, 1), (154, .getfield 25, 3), (157, .bipush 7, 2), (159, .iload_n 1, 1), (160, .iadd, 1), (161, .iconst (-1), 1), (162, .iastore, 1), (163, .iinc 1 1, 3), (166, .goto (-19), 3), (169, .return_, 1)]
theorem dd_X9_takeRead_2 : ∀ e ∈ D_X9_takeRead_2, decode (mtJ 132).2.1 e.1 = .ok e.2 := by decide +kernel
set_option maxRecDepth 10000 in
theorem so_X9_takeRead_2 : ∀ e ∈ o_X9_takeRead_2, SndO 132 e.1 e.2 := by
  refine List.forall_mem_cons.mpr ⟨s_iald (dd_X9_takeRead_2 (104, .iaload, 1) (List.mem_of_getElem? (i := 0) rfl)), ?_⟩
  refine List.forall_mem_cons.mpr ⟨s_iast (dd_X9_takeRead_2 (105, .iastore, 1) (List.mem_of_getElem? (i := 1) rfl)), ?_⟩
  refine List.forall_mem_cons.mpr ⟨s_aload_n (dd_X9_takeRead_2 (106, .aload_n 0, 1) (List.mem_of_getElem? (i := 2) rfl)) rfl, ?_⟩
  refine List.forall_mem_cons.mpr ⟨s_getR (k := 8) K9 (by decide) (dd_X9_takeRead_2 (107, .getfield 22, 3) (List.mem_of_getElem? (i := 3) rfl)) ow_X9_takeRead fl9_22 rfl, ?_⟩
  refine List.forall_mem_cons.mpr ⟨s_iload_n (dd_X9_takeRead_2 (110, .iload_n 1, 1) (List.mem_of_getElem? (i := 4) rfl)) rfl, ?_⟩
  refine List.forall_mem_cons.mpr ⟨s_aload_n (dd_X9_takeRead_2 (111, .aload_n 0, 1) (List.mem_of_getElem? (i := 5) rfl)) rfl, ?_⟩
  refine List.forall_mem_cons.mpr ⟨s_getR (k := 25) K9 (by decide) (dd_X9_takeRead_2 (112, .getfield 47, 3) (List.mem_of_getElem? (i := 6) rfl)) ow_X9_takeRead fl9_47 rfl, ?_⟩
  refine List.forall_mem_cons.mpr ⟨s_iload_n (dd_X9_takeRead_2 (115, .iload_n 1, 1) (List.mem_of_getElem? (i := 7) rfl)) rfl, ?_⟩
  refine List.forall_mem_cons.mpr ⟨s_iald (dd_X9_takeRead_2 (116, .iaload, 1) (List.mem_of_getElem? (i := 8) rfl)), ?_⟩
  refine List.forall_mem_cons.mpr ⟨s_iast (dd_X9_takeRead_2 (117, .iastore, 1) (List.mem_of_getElem? (i := 9) rfl)), ?_⟩
  refine List.forall_mem_cons.mpr ⟨s_iinc (dd_X9_takeRead_2 (118, .iinc 1 1, 3) (List.mem_of_getElem? (i := 10) rfl)) rfl, ?_⟩
  refine List.forall_mem_cons.mpr ⟨s_goto (dd_X9_takeRead_2 (121, .goto (-35), 3) (List.mem_of_getElem? (i := 11) rfl)) (by decide), ?_⟩
  refine List.forall_mem_cons.mpr ⟨s_iconst (dd_X9_takeRead_2 (124, .iconst 0, 1) (List.mem_of_getElem? (i := 12) rfl)) rfl, ?_⟩
  refine List.forall_mem_cons.mpr ⟨s_istore_n (dd_X9_takeRead_2 (125, .istore_n 1, 1) (List.mem_of_getElem? (i := 13) rfl)) rfl, ?_⟩
  refine List.forall_mem_cons.mpr ⟨s_iload_n (dd_X9_takeRead_2 (126, .iload_n 1, 1) (List.mem_of_getElem? (i := 14) rfl)) rfl, ?_⟩
  refine List.forall_mem_cons.mpr ⟨s_bipush (dd_X9_takeRead_2 (127, .bipush 22, 2) (List.mem_of_getElem? (i := 15) rfl)) rfl, ?_⟩
  refine List.forall_mem_cons.mpr ⟨s_icmp_ge (dd_X9_takeRead_2 (129, .if_icmp .ge 16, 3) (List.mem_of_getElem? (i := 16) rfl)) (by decide), ?_⟩
  refine List.forall_mem_cons.mpr ⟨s_aload_n (dd_X9_takeRead_2 (132, .aload_n 0, 1) (List.mem_of_getElem? (i := 17) rfl)) rfl, ?_⟩
  refine List.forall_mem_cons.mpr ⟨s_getR (k := 9) K9 (by decide) (dd_X9_takeRead_2 (133, .getfield 25, 3) (List.mem_of_getElem? (i := 18) rfl)) ow_X9_takeRead fl9_25 rfl, ?_⟩
  refine List.forall_mem_cons.mpr ⟨s_iload_n (dd_X9_takeRead_2 (136, .iload_n 1, 1) (List.mem_of_getElem? (i := 19) rfl)) rfl, ?_⟩
  refine List.forall_mem_cons.mpr ⟨s_iconst (dd_X9_takeRead_2 (137, .iconst 0, 1) (List.mem_of_getElem? (i := 20) rfl)) rfl, ?_⟩
  refine List.forall_mem_cons.mpr ⟨s_iast (dd_X9_takeRead_2 (138, .iastore, 1) (List.mem_of_getElem? (i := 21) rfl)), ?_⟩
  refine List.forall_mem_cons.mpr ⟨s_iinc (dd_X9_takeRead_2 (139, .iinc 1 1, 3) (List.mem_of_getElem? (i := 22) rfl)) rfl, ?_⟩
  refine List.forall_mem_cons.mpr ⟨s_goto (dd_X9_takeRead_2 (142, .goto (-16), 3) (List.mem_of_getElem? (i := 23) rfl)) (by decide), ?_⟩
  refine List.forall_mem_cons.mpr ⟨s_iconst (dd_X9_takeRead_2 (145, .iconst 0, 1) (List.mem_of_getElem? (i := 24) rfl)) rfl, ?_⟩
  refine List.forall_mem_cons.mpr ⟨s_istore_n (dd_X9_takeRead_2 (146, .istore_n 1, 1) (List.mem_of_getElem? (i := 25) rfl)) rfl, ?_⟩
  refine List.forall_mem_cons.mpr ⟨s_iload_n (dd_X9_takeRead_2 (147, .iload_n 1, 1) (List.mem_of_getElem? (i := 26) rfl)) rfl, ?_⟩
  refine List.forall_mem_cons.mpr ⟨s_bipush (dd_X9_takeRead_2 (148, .bipush 7, 2) (List.mem_of_getElem? (i := 27) rfl)) rfl, ?_⟩
  refine List.forall_mem_cons.mpr ⟨s_icmp_ge (dd_X9_takeRead_2 (150, .if_icmp .ge 19, 3) (List.mem_of_getElem? (i := 28) rfl)) (by decide), ?_⟩
  refine List.forall_mem_cons.mpr ⟨s_aload_n (dd_X9_takeRead_2 (153, .aload_n 0, 1) (List.mem_of_getElem? (i := 29) rfl)) rfl, ?_⟩
  refine List.forall_mem_cons.mpr ⟨s_getR (k := 9) K9 (by decide) (dd_X9_takeRead_2 (154, .getfield 25, 3) (List.mem_of_getElem? (i := 30) rfl)) ow_X9_takeRead fl9_25 rfl, ?_⟩
  refine List.forall_mem_cons.mpr ⟨s_bipush (dd_X9_takeRead_2 (157, .bipush 7, 2) (List.mem_of_getElem? (i := 31) rfl)) rfl, ?_⟩
  refine List.forall_mem_cons.mpr ⟨s_iload_n (dd_X9_takeRead_2 (159, .iload_n 1, 1) (List.mem_of_getElem? (i := 32) rfl)) rfl, ?_⟩
  refine List.forall_mem_cons.mpr ⟨s_iadd (dd_X9_takeRead_2 (160, .iadd, 1) (List.mem_of_getElem? (i := 33) rfl)), ?_⟩
  refine List.forall_mem_cons.mpr ⟨s_iconst (dd_X9_takeRead_2 (161, .iconst (-1), 1) (List.mem_of_getElem? (i := 34) rfl)) rfl, ?_⟩
  refine List.forall_mem_cons.mpr ⟨s_iast (dd_X9_takeRead_2 (162, .iastore, 1) (List.mem_of_getElem? (i := 35) rfl)), ?_⟩
  refine List.forall_mem_cons.mpr ⟨s_iinc (dd_X9_takeRead_2 (163, .iinc 1 1, 3) (List.mem_of_getElem? (i := 36) rfl)) rfl, ?_⟩
  refine List.forall_mem_cons.mpr ⟨s_goto (dd_X9_takeRead_2 (166, .goto (-19), 3) (List.mem_of_getElem? (i := 37) rfl)) (by decide), ?_⟩
  refine List.forall_mem_cons.mpr ⟨Or.inl ⟨rfl, (dd_X9_takeRead_2 (169, .return_, 1) (List.mem_of_getElem? (i := 38) rfl)), rfl⟩, ?_⟩
  exact fun _ h => absurd h List.not_mem_nil
theorem so_X9_takeRead : ∀ e ∈ o_X9_takeRead, SndO 132 e.1 e.2 := List.forall_mem_append.mpr ⟨so_X9_takeRead_1, so_X9_takeRead_2⟩
theorem ow_X9_school : (mtJ 133).1.cls = "SatchelSinsModel" := rfl
def D_X9_school_1 : List (Nat × Instr × Nat) := [(0, .aload_n 0, 1), (1, .iconst (-1), 1), (2, .putfield 31, 3), (5, .aload_n 0, 1), (6, .iconst 0, 1), (7, .putfield 108, 3), (10, .aload_n 0, 1), (11, .iconst 0, 1), (12, .putfield 132, 3), (15, .aload_n 0, 1), (16, .iconst 0, 1), (17, .putfield 135, 3), (20, .aload_n 0, 1), (21, .iconst 0, 1), (22, .putfield 138, 3), (25, .aload_n 0, 1), (26, .iconst 0, 1), (27, .putfield 145, 3), (30, .iconst 0, 1), (31, .istore_n 1, 1), (32, .iload_n 1, 1), (33, .ifCond .ne 18, 3), (36, .aload_n 0, 1), (37, .invokevirtual 111, 3), (40, .ifCond .lt 11, 3), (43, .aload_n 0, 1), (44, .invokevirtual 163, 3), (47, .istore_n 1, 1), (48, .goto (-16), 3), (51, .aload_n 0, 1), (52, .iconst 0, 1), (53, .putfield 104, 3), (56, .iload_n 1, 1), (57, .ifCond .le 8, 3), (60, .bipush (-10), 2), (62, .iload_n 1, 1), (63, .isub, 1), (64, .ireturn, 1), (65, .aload_n 0, 1), (66, .invokevirtual 166, 3), (69, .aload_n 0, 1), (70, .iconst 0, 1), (71, .putfield 169, 3), (74, .aload_n 0, 1), (75, .iconst 0, 1), (76, .putfield 172, 3), (79, .aload_n 0, 1), (80, .iconst 0, 1), (81, .putfield 175, 3), (84, .aload_n 0, 1), (85, .getfield 84, 3), (88, .iconst 0, 1), (89, .iconst 0, 1), (90, .bastore, 1), (91, .aload_n 0, 1), (92, .getfield 84, 3), (95, .iconst 1, 1), (96, .iconst 0, 1), (97, .bastore, 1), (98, .aload_n 0, 1)]
theorem dd_X9_school_1 : ∀ e ∈ D_X9_school_1, decode (mtJ 133).2.1 e.1 = .ok e.2 := by decide +kernel
set_option maxRecDepth 10000 in
theorem so_X9_school_1 : ∀ e ∈ o_X9_school_1, SndO 133 e.1 e.2 := by
  refine List.forall_mem_cons.mpr ⟨s_aload_n (dd_X9_school_1 (0, .aload_n 0, 1) (List.mem_of_getElem? (i := 0) rfl)) rfl, ?_⟩
  refine List.forall_mem_cons.mpr ⟨s_iconst (dd_X9_school_1 (1, .iconst (-1), 1) (List.mem_of_getElem? (i := 1) rfl)) rfl, ?_⟩
  refine List.forall_mem_cons.mpr ⟨s_putI (k := 13) K9 (by decide) (dd_X9_school_1 (2, .putfield 31, 3) (List.mem_of_getElem? (i := 2) rfl)) ow_X9_school fl9_31 (Or.inl rfl) rfl, ?_⟩
  refine List.forall_mem_cons.mpr ⟨s_aload_n (dd_X9_school_1 (5, .aload_n 0, 1) (List.mem_of_getElem? (i := 3) rfl)) rfl, ?_⟩
  refine List.forall_mem_cons.mpr ⟨s_iconst (dd_X9_school_1 (6, .iconst 0, 1) (List.mem_of_getElem? (i := 4) rfl)) rfl, ?_⟩
  refine List.forall_mem_cons.mpr ⟨s_putI (k := 14) K9 (by decide) (dd_X9_school_1 (7, .putfield 108, 3) (List.mem_of_getElem? (i := 5) rfl)) ow_X9_school fl9_108 (Or.inl rfl) rfl, ?_⟩
  refine List.forall_mem_cons.mpr ⟨s_aload_n (dd_X9_school_1 (10, .aload_n 0, 1) (List.mem_of_getElem? (i := 6) rfl)) rfl, ?_⟩
  refine List.forall_mem_cons.mpr ⟨s_iconst (dd_X9_school_1 (11, .iconst 0, 1) (List.mem_of_getElem? (i := 7) rfl)) rfl, ?_⟩
  refine List.forall_mem_cons.mpr ⟨s_putZ (k := 17) K9 (by decide) (dd_X9_school_1 (12, .putfield 132, 3) (List.mem_of_getElem? (i := 8) rfl)) ow_X9_school fl9_132 (Or.inl rfl) rfl, ?_⟩
  refine List.forall_mem_cons.mpr ⟨s_aload_n (dd_X9_school_1 (15, .aload_n 0, 1) (List.mem_of_getElem? (i := 9) rfl)) rfl, ?_⟩
  refine List.forall_mem_cons.mpr ⟨s_iconst (dd_X9_school_1 (16, .iconst 0, 1) (List.mem_of_getElem? (i := 10) rfl)) rfl, ?_⟩
  refine List.forall_mem_cons.mpr ⟨s_putI (k := 18) K9 (by decide) (dd_X9_school_1 (17, .putfield 135, 3) (List.mem_of_getElem? (i := 11) rfl)) ow_X9_school fl9_135 (Or.inl rfl) rfl, ?_⟩
  refine List.forall_mem_cons.mpr ⟨s_aload_n (dd_X9_school_1 (20, .aload_n 0, 1) (List.mem_of_getElem? (i := 12) rfl)) rfl, ?_⟩
  refine List.forall_mem_cons.mpr ⟨s_iconst (dd_X9_school_1 (21, .iconst 0, 1) (List.mem_of_getElem? (i := 13) rfl)) rfl, ?_⟩
  refine List.forall_mem_cons.mpr ⟨s_putI (k := 19) K9 (by decide) (dd_X9_school_1 (22, .putfield 138, 3) (List.mem_of_getElem? (i := 14) rfl)) ow_X9_school fl9_138 (Or.inl rfl) rfl, ?_⟩
  refine List.forall_mem_cons.mpr ⟨s_aload_n (dd_X9_school_1 (25, .aload_n 0, 1) (List.mem_of_getElem? (i := 15) rfl)) rfl, ?_⟩
  refine List.forall_mem_cons.mpr ⟨s_iconst (dd_X9_school_1 (26, .iconst 0, 1) (List.mem_of_getElem? (i := 16) rfl)) rfl, ?_⟩
  refine List.forall_mem_cons.mpr ⟨s_putI (k := 23) K9 (by decide) (dd_X9_school_1 (27, .putfield 145, 3) (List.mem_of_getElem? (i := 17) rfl)) ow_X9_school fl9_145 (Or.inl rfl) rfl, ?_⟩
  refine List.forall_mem_cons.mpr ⟨s_iconst (dd_X9_school_1 (30, .iconst 0, 1) (List.mem_of_getElem? (i := 18) rfl)) rfl, ?_⟩
  refine List.forall_mem_cons.mpr ⟨s_istore_n (dd_X9_school_1 (31, .istore_n 1, 1) (List.mem_of_getElem? (i := 19) rfl)) rfl, ?_⟩
  refine List.forall_mem_cons.mpr ⟨s_iload_n (dd_X9_school_1 (32, .iload_n 1, 1) (List.mem_of_getElem? (i := 20) rfl)) rfl, ?_⟩
  refine List.forall_mem_cons.mpr ⟨s_if_ne (dd_X9_school_1 (33, .ifCond .ne 18, 3) (List.mem_of_getElem? (i := 21) rfl)) (by decide), ?_⟩
  refine List.forall_mem_cons.mpr ⟨s_aload_n (dd_X9_school_1 (36, .aload_n 0, 1) (List.mem_of_getElem? (i := 22) rfl)) rfl, ?_⟩
  refine List.forall_mem_cons.mpr ⟨⟨s_callV (ci := 9) rfl mo123 rfl rfl (dd_X9_school_1 (37, .invokevirtual 111, 3) (List.mem_of_getElem? (i := 23) rfl)) ow_X9_school ml9_111 mi123 msl123 in_9 mn123, mo123⟩, ?_⟩
  refine List.forall_mem_cons.mpr ⟨s_if_lt (dd_X9_school_1 (40, .ifCond .lt 11, 3) (List.mem_of_getElem? (i := 24) rfl)) (by decide), ?_⟩
  refine List.forall_mem_cons.mpr ⟨s_aload_n (dd_X9_school_1 (43, .aload_n 0, 1) (List.mem_of_getElem? (i := 25) rfl)) rfl, ?_⟩
  refine List.forall_mem_cons.mpr ⟨⟨s_callV (ci := 9) rfl mo131 rfl rfl (dd_X9_school_1 (44, .invokevirtual 163, 3) (List.mem_of_getElem? (i := 26) rfl)) ow_X9_school ml9_163 mi131 msl131 in_9 mn131, mo131⟩, ?_⟩
  refine List.forall_mem_cons.mpr ⟨s_istore_n (dd_X9_school_1 (47, .istore_n 1, 1) (List.mem_of_getElem? (i := 27) rfl)) rfl, ?_⟩
  refine List.forall_mem_cons.mpr ⟨s_goto (dd_X9_school_1 (48, .goto (-16), 3) (List.mem_of_getElem? (i := 28) rfl)) (by decide), ?_⟩
  refine List.forall_mem_cons.mpr ⟨s_aload_n (dd_X9_school_1 (51, .aload_n 0, 1) (List.mem_of_getElem? (i := 29) rfl)) rfl, ?_⟩
  refine List.forall_mem_cons.mpr ⟨s_iconst (dd_X9_school_1 (52, .iconst 0, 1) (List.mem_of_getElem? (i := 30) rfl)) rfl, ?_⟩
  refine List.forall_mem_cons.mpr ⟨s_putI (k := 12) K9 (by decide) (dd_X9_school_1 (53, .putfield 104, 3) (List.mem_of_getElem? (i := 31) rfl)) ow_X9_school fl9_104 (Or.inl rfl) rfl, ?_⟩
  refine List.forall_mem_cons.mpr ⟨s_iload_n (dd_X9_school_1 (56, .iload_n 1, 1) (List.mem_of_getElem? (i := 32) rfl)) rfl, ?_⟩
  refine List.forall_mem_cons.mpr ⟨s_if_le (dd_X9_school_1 (57, .ifCond .le 8, 3) (List.mem_of_getElem? (i := 33) rfl)) (by decide), ?_⟩
  refine List.forall_mem_cons.mpr ⟨s_bipush (dd_X9_school_1 (60, .bipush (-10), 2) (List.mem_of_getElem? (i := 34) rfl)) rfl, ?_⟩
  refine List.forall_mem_cons.mpr ⟨s_iload_n (dd_X9_school_1 (62, .iload_n 1, 1) (List.mem_of_getElem? (i := 35) rfl)) rfl, ?_⟩
  refine List.forall_mem_cons.mpr ⟨s_isub (dd_X9_school_1 (63, .isub, 1) (List.mem_of_getElem? (i := 36) rfl)), ?_⟩
  refine List.forall_mem_cons.mpr ⟨Or.inr (Or.inl ⟨rfl, (dd_X9_school_1 (64, .ireturn, 1) (List.mem_of_getElem? (i := 37) rfl)), rfl⟩), ?_⟩
  refine List.forall_mem_cons.mpr ⟨s_aload_n (dd_X9_school_1 (65, .aload_n 0, 1) (List.mem_of_getElem? (i := 38) rfl)) rfl, ?_⟩
  refine List.forall_mem_cons.mpr ⟨⟨s_callV (ci := 9) rfl mo132 rfl rfl (dd_X9_school_1 (66, .invokevirtual 166, 3) (List.mem_of_getElem? (i := 39) rfl)) ow_X9_school ml9_166 mi132 msl132 in_9 mn132, mo132⟩, ?_⟩
  refine List.forall_mem_cons.mpr ⟨s_aload_n (dd_X9_school_1 (69, .aload_n 0, 1) (List.mem_of_getElem? (i := 40) rfl)) rfl, ?_⟩
  refine List.forall_mem_cons.mpr ⟨s_iconst (dd_X9_school_1 (70, .iconst 0, 1) (List.mem_of_getElem? (i := 41) rfl)) rfl, ?_⟩
  refine List.forall_mem_cons.mpr ⟨s_putI (k := 32) K9 (by decide) (dd_X9_school_1 (71, .putfield 169, 3) (List.mem_of_getElem? (i := 42) rfl)) ow_X9_school fl9_169 (Or.inl rfl) rfl, ?_⟩
  refine List.forall_mem_cons.mpr ⟨s_aload_n (dd_X9_school_1 (74, .aload_n 0, 1) (List.mem_of_getElem? (i := 43) rfl)) rfl, ?_⟩
  refine List.forall_mem_cons.mpr ⟨s_iconst (dd_X9_school_1 (75, .iconst 0, 1) (List.mem_of_getElem? (i := 44) rfl)) rfl, ?_⟩
  refine List.forall_mem_cons.mpr ⟨s_putI (k := 36) K9 (by decide) (dd_X9_school_1 (76, .putfield 172, 3) (List.mem_of_getElem? (i := 45) rfl)) ow_X9_school fl9_172 (Or.inl rfl) rfl, ?_⟩
  refine List.forall_mem_cons.mpr ⟨s_aload_n (dd_X9_school_1 (79, .aload_n 0, 1) (List.mem_of_getElem? (i := 46) rfl)) rfl, ?_⟩
  refine List.forall_mem_cons.mpr ⟨s_iconst (dd_X9_school_1 (80, .iconst 0, 1) (List.mem_of_getElem? (i := 47) rfl)) rfl, ?_⟩
  refine List.forall_mem_cons.mpr ⟨s_putI (k := 26) K9 (by decide) (dd_X9_school_1 (81, .putfield 175, 3) (List.mem_of_getElem? (i := 48) rfl)) ow_X9_school fl9_175 (Or.inl rfl) rfl, ?_⟩
  refine List.forall_mem_cons.mpr ⟨s_aload_n (dd_X9_school_1 (84, .aload_n 0, 1) (List.mem_of_getElem? (i := 49) rfl)) rfl, ?_⟩
  refine List.forall_mem_cons.mpr ⟨s_getR (k := 40) K9 (by decide) (dd_X9_school_1 (85, .getfield 84, 3) (List.mem_of_getElem? (i := 50) rfl)) ow_X9_school fl9_84 rfl, ?_⟩
  refine List.forall_mem_cons.mpr ⟨s_iconst (dd_X9_school_1 (88, .iconst 0, 1) (List.mem_of_getElem? (i := 51) rfl)) rfl, ?_⟩
  refine List.forall_mem_cons.mpr ⟨s_iconst (dd_X9_school_1 (89, .iconst 0, 1) (List.mem_of_getElem? (i := 52) rfl)) rfl, ?_⟩
  refine List.forall_mem_cons.mpr ⟨s_bast (dd_X9_school_1 (90, .bastore, 1) (List.mem_of_getElem? (i := 53) rfl)), ?_⟩
  refine List.forall_mem_cons.mpr ⟨s_aload_n (dd_X9_school_1 (91, .aload_n 0, 1) (List.mem_of_getElem? (i := 54) rfl)) rfl, ?_⟩
  refine List.forall_mem_cons.mpr ⟨s_getR (k := 40) K9 (by decide) (dd_X9_school_1 (92, .getfield 84, 3) (List.mem_of_getElem? (i := 55) rfl)) ow_X9_school fl9_84 rfl, ?_⟩
  refine List.forall_mem_cons.mpr ⟨s_iconst (dd_X9_school_1 (95, .iconst 1, 1) (List.mem_of_getElem? (i := 56) rfl)) rfl, ?_⟩
  refine List.forall_mem_cons.mpr ⟨s_iconst (dd_X9_school_1 (96, .iconst 0, 1) (List.mem_of_getElem? (i := 57) rfl)) rfl, ?_⟩
  refine List.forall_mem_cons.mpr ⟨s_bast (dd_X9_school_1 (97, .bastore, 1) (List.mem_of_getElem? (i := 58) rfl)), ?_⟩
  refine List.forall_mem_cons.mpr ⟨s_aload_n (dd_X9_school_1 (98, .aload_n 0, 1) (List.mem_of_getElem? (i := 59) rfl)) rfl, ?_⟩
  exact fun _ h => absurd h List.not_mem_nil
def D_X9_school_2 : List (Nat × Instr × Nat) := [(99, .getfield 91, 3), (102, .ireturn, 1)]
theorem dd_X9_school_2 : ∀ e ∈ D_X9_school_2, decode (mtJ 133).2.1 e.1 = .ok e.2 := by decide +kernel
set_option maxRecDepth 10000 in
theorem so_X9_school_2 : ∀ e ∈ o_X9_school_2, SndO 133 e.1 e.2 := by
  refine List.forall_mem_cons.mpr ⟨s_getI (k := 2) K9 (by decide) (dd_X9_school_2 (99, .getfield 91, 3) (List.mem_of_getElem? (i := 0) rfl)) ow_X9_school fl9_91 rfl, ?_⟩
  refine List.forall_mem_cons.mpr ⟨Or.inr (Or.inl ⟨rfl, (dd_X9_school_2 (102, .ireturn, 1) (List.mem_of_getElem? (i := 1) rfl)), rfl⟩), ?_⟩
  exact fun _ h => absurd h List.not_mem_nil
theorem so_X9_school : ∀ e ∈ o_X9_school, SndO 133 e.1 e.2 := List.forall_mem_append.mpr ⟨so_X9_school_1, so_X9_school_2⟩
theorem ow_X9_fault : (mtJ 134).1.cls = "SatchelSinsModel" := rfl
def D_X9_fault : List (Nat × Instr × Nat) := [(0, .aload_n 0, 1), (1, .getfield 31, 3), (4, .ireturn, 1)]
theorem dd_X9_fault : ∀ e ∈ D_X9_fault, decode (mtJ 134).2.1 e.1 = .ok e.2 := by decide +kernel
set_option maxRecDepth 10000 in
theorem so_X9_fault : ∀ e ∈ o_X9_fault, SndO 134 e.1 e.2 := by
  refine List.forall_mem_cons.mpr ⟨s_aload_n (dd_X9_fault (0, .aload_n 0, 1) (List.mem_of_getElem? (i := 0) rfl)) rfl, ?_⟩
  refine List.forall_mem_cons.mpr ⟨s_getI (k := 13) K9 (by decide) (dd_X9_fault (1, .getfield 31, 3) (List.mem_of_getElem? (i := 1) rfl)) ow_X9_fault fl9_31 rfl, ?_⟩
  refine List.forall_mem_cons.mpr ⟨Or.inr (Or.inl ⟨rfl, (dd_X9_fault (4, .ireturn, 1) (List.mem_of_getElem? (i := 2) rfl)), rfl⟩), ?_⟩
  exact fun _ h => absurd h List.not_mem_nil
theorem ow_X9_isWith : (mtJ 135).1.cls = "SatchelSinsModel" := rfl
def D_X9_isWith : List (Nat × Instr × Nat) := [(0, .aload_n 0, 1), (1, .getfield 25, 3), (4, .iload_n 1, 1), (5, .iaload, 1), (6, .iload_n 2, 1), (7, .if_icmp .ne 20, 3), (10, .aload_n 0, 1), (11, .getfield 25, 3), (14, .bipush 7, 2), (16, .iload_n 1, 1), (17, .iadd, 1), (18, .iaload, 1), (19, .iload_n 3, 1), (20, .if_icmp .ne 7, 3), (23, .iconst 1, 1), (24, .goto 4, 3), (27, .iconst 0, 1), (28, .ireturn, 1)]
theorem dd_X9_isWith : ∀ e ∈ D_X9_isWith, decode (mtJ 135).2.1 e.1 = .ok e.2 := by decide +kernel
set_option maxRecDepth 10000 in
theorem so_X9_isWith : ∀ e ∈ o_X9_isWith, SndO 135 e.1 e.2 := by
  refine List.forall_mem_cons.mpr ⟨s_aload_n (dd_X9_isWith (0, .aload_n 0, 1) (List.mem_of_getElem? (i := 0) rfl)) rfl, ?_⟩
  refine List.forall_mem_cons.mpr ⟨s_getR (k := 9) K9 (by decide) (dd_X9_isWith (1, .getfield 25, 3) (List.mem_of_getElem? (i := 1) rfl)) ow_X9_isWith fl9_25 rfl, ?_⟩
  refine List.forall_mem_cons.mpr ⟨s_iload_n (dd_X9_isWith (4, .iload_n 1, 1) (List.mem_of_getElem? (i := 2) rfl)) rfl, ?_⟩
  refine List.forall_mem_cons.mpr ⟨s_iald (dd_X9_isWith (5, .iaload, 1) (List.mem_of_getElem? (i := 3) rfl)), ?_⟩
  refine List.forall_mem_cons.mpr ⟨s_iload_n (dd_X9_isWith (6, .iload_n 2, 1) (List.mem_of_getElem? (i := 4) rfl)) rfl, ?_⟩
  refine List.forall_mem_cons.mpr ⟨s_icmp_ne (dd_X9_isWith (7, .if_icmp .ne 20, 3) (List.mem_of_getElem? (i := 5) rfl)) (by decide), ?_⟩
  refine List.forall_mem_cons.mpr ⟨s_aload_n (dd_X9_isWith (10, .aload_n 0, 1) (List.mem_of_getElem? (i := 6) rfl)) rfl, ?_⟩
  refine List.forall_mem_cons.mpr ⟨s_getR (k := 9) K9 (by decide) (dd_X9_isWith (11, .getfield 25, 3) (List.mem_of_getElem? (i := 7) rfl)) ow_X9_isWith fl9_25 rfl, ?_⟩
  refine List.forall_mem_cons.mpr ⟨s_bipush (dd_X9_isWith (14, .bipush 7, 2) (List.mem_of_getElem? (i := 8) rfl)) rfl, ?_⟩
  refine List.forall_mem_cons.mpr ⟨s_iload_n (dd_X9_isWith (16, .iload_n 1, 1) (List.mem_of_getElem? (i := 9) rfl)) rfl, ?_⟩
  refine List.forall_mem_cons.mpr ⟨s_iadd (dd_X9_isWith (17, .iadd, 1) (List.mem_of_getElem? (i := 10) rfl)), ?_⟩
  refine List.forall_mem_cons.mpr ⟨s_iald (dd_X9_isWith (18, .iaload, 1) (List.mem_of_getElem? (i := 11) rfl)), ?_⟩
  refine List.forall_mem_cons.mpr ⟨s_iload_n (dd_X9_isWith (19, .iload_n 3, 1) (List.mem_of_getElem? (i := 12) rfl)) rfl, ?_⟩
  refine List.forall_mem_cons.mpr ⟨s_icmp_ne (dd_X9_isWith (20, .if_icmp .ne 7, 3) (List.mem_of_getElem? (i := 13) rfl)) (by decide), ?_⟩
  refine List.forall_mem_cons.mpr ⟨s_iconst (dd_X9_isWith (23, .iconst 1, 1) (List.mem_of_getElem? (i := 14) rfl)) rfl, ?_⟩
  refine List.forall_mem_cons.mpr ⟨s_goto (dd_X9_isWith (24, .goto 4, 3) (List.mem_of_getElem? (i := 15) rfl)) (by decide), ?_⟩
  refine List.forall_mem_cons.mpr ⟨s_iconst (dd_X9_isWith (27, .iconst 0, 1) (List.mem_of_getElem? (i := 16) rfl)) rfl, ?_⟩
  refine List.forall_mem_cons.mpr ⟨Or.inr (Or.inr ⟨rfl, (dd_X9_isWith (28, .ireturn, 1) (List.mem_of_getElem? (i := 17) rfl)), rfl⟩), ?_⟩
  exact fun _ h => absurd h List.not_mem_nil
theorem ow_X9_deedsWith : (mtJ 136).1.cls = "SatchelSinsModel" := rfl
def D_X9_deedsWith : List (Nat × Instr × Nat) := [(0, .iconst 0, 1), (1, .istore_n 3, 1), (2, .iconst 0, 1), (3, .istore 4, 2), (5, .iload 4, 2), (7, .aload_n 0, 1), (8, .getfield 98, 3), (11, .if_icmp .ge 31, 3), (14, .iload_n 3, 1), (15, .aload_n 0, 1), (16, .iload 4, 2), (18, .iload_n 1, 1), (19, .iload_n 2, 1), (20, .invokevirtual 178, 3), (23, .ifCond .eq 10, 3), (26, .iconst 1, 1), (27, .iload 4, 2), (29, .ishl, 1), (30, .goto 4, 3), (33, .iconst 0, 1), (34, .ior, 1), (35, .istore_n 3, 1), (36, .iinc 4 1, 3), (39, .goto (-34), 3), (42, .iload_n 3, 1), (43, .ireturn, 1)]
theorem dd_X9_deedsWith : ∀ e ∈ D_X9_deedsWith, decode (mtJ 136).2.1 e.1 = .ok e.2 := by decide +kernel
set_option maxRecDepth 10000 in
theorem so_X9_deedsWith : ∀ e ∈ o_X9_deedsWith, SndO 136 e.1 e.2 := by
  refine List.forall_mem_cons.mpr ⟨s_iconst (dd_X9_deedsWith (0, .iconst 0, 1) (List.mem_of_getElem? (i := 0) rfl)) rfl, ?_⟩
  refine List.forall_mem_cons.mpr ⟨s_istore_n (dd_X9_deedsWith (1, .istore_n 3, 1) (List.mem_of_getElem? (i := 1) rfl)) rfl, ?_⟩
  refine List.forall_mem_cons.mpr ⟨s_iconst (dd_X9_deedsWith (2, .iconst 0, 1) (List.mem_of_getElem? (i := 2) rfl)) rfl, ?_⟩
  refine List.forall_mem_cons.mpr ⟨s_istore (dd_X9_deedsWith (3, .istore 4, 2) (List.mem_of_getElem? (i := 3) rfl)), ?_⟩
  refine List.forall_mem_cons.mpr ⟨s_iload (dd_X9_deedsWith (5, .iload 4, 2) (List.mem_of_getElem? (i := 4) rfl)), ?_⟩
  refine List.forall_mem_cons.mpr ⟨s_aload_n (dd_X9_deedsWith (7, .aload_n 0, 1) (List.mem_of_getElem? (i := 5) rfl)) rfl, ?_⟩
  refine List.forall_mem_cons.mpr ⟨s_getI (k := 6) K9 (by decide) (dd_X9_deedsWith (8, .getfield 98, 3) (List.mem_of_getElem? (i := 6) rfl)) ow_X9_deedsWith fl9_98 rfl, ?_⟩
  refine List.forall_mem_cons.mpr ⟨s_icmp_ge (dd_X9_deedsWith (11, .if_icmp .ge 31, 3) (List.mem_of_getElem? (i := 7) rfl)) (by decide), ?_⟩
  refine List.forall_mem_cons.mpr ⟨s_iload_n (dd_X9_deedsWith (14, .iload_n 3, 1) (List.mem_of_getElem? (i := 8) rfl)) rfl, ?_⟩
  refine List.forall_mem_cons.mpr ⟨s_aload_n (dd_X9_deedsWith (15, .aload_n 0, 1) (List.mem_of_getElem? (i := 9) rfl)) rfl, ?_⟩
  refine List.forall_mem_cons.mpr ⟨s_iload (dd_X9_deedsWith (16, .iload 4, 2) (List.mem_of_getElem? (i := 10) rfl)), ?_⟩
  refine List.forall_mem_cons.mpr ⟨s_iload_n (dd_X9_deedsWith (18, .iload_n 1, 1) (List.mem_of_getElem? (i := 11) rfl)) rfl, ?_⟩
  refine List.forall_mem_cons.mpr ⟨s_iload_n (dd_X9_deedsWith (19, .iload_n 2, 1) (List.mem_of_getElem? (i := 12) rfl)) rfl, ?_⟩
  refine List.forall_mem_cons.mpr ⟨⟨s_callV (ci := 9) rfl mo135 rfl rfl (dd_X9_deedsWith (20, .invokevirtual 178, 3) (List.mem_of_getElem? (i := 13) rfl)) ow_X9_deedsWith ml9_178 mi135 msl135 in_9 mn135, mo135⟩, ?_⟩
  refine List.forall_mem_cons.mpr ⟨s_if_eq (dd_X9_deedsWith (23, .ifCond .eq 10, 3) (List.mem_of_getElem? (i := 14) rfl)) (by decide), ?_⟩
  refine List.forall_mem_cons.mpr ⟨s_iconst (dd_X9_deedsWith (26, .iconst 1, 1) (List.mem_of_getElem? (i := 15) rfl)) rfl, ?_⟩
  refine List.forall_mem_cons.mpr ⟨s_iload (dd_X9_deedsWith (27, .iload 4, 2) (List.mem_of_getElem? (i := 16) rfl)), ?_⟩
  refine List.forall_mem_cons.mpr ⟨s_ishl (dd_X9_deedsWith (29, .ishl, 1) (List.mem_of_getElem? (i := 17) rfl)), ?_⟩
  refine List.forall_mem_cons.mpr ⟨s_goto (dd_X9_deedsWith (30, .goto 4, 3) (List.mem_of_getElem? (i := 18) rfl)) (by decide), ?_⟩
  refine List.forall_mem_cons.mpr ⟨s_iconst (dd_X9_deedsWith (33, .iconst 0, 1) (List.mem_of_getElem? (i := 19) rfl)) rfl, ?_⟩
  refine List.forall_mem_cons.mpr ⟨s_ior (dd_X9_deedsWith (34, .ior, 1) (List.mem_of_getElem? (i := 20) rfl)), ?_⟩
  refine List.forall_mem_cons.mpr ⟨s_istore_n (dd_X9_deedsWith (35, .istore_n 3, 1) (List.mem_of_getElem? (i := 21) rfl)) rfl, ?_⟩
  refine List.forall_mem_cons.mpr ⟨s_iinc (dd_X9_deedsWith (36, .iinc 4 1, 3) (List.mem_of_getElem? (i := 22) rfl)) rfl, ?_⟩
  refine List.forall_mem_cons.mpr ⟨s_goto (dd_X9_deedsWith (39, .goto (-34), 3) (List.mem_of_getElem? (i := 23) rfl)) (by decide), ?_⟩
  refine List.forall_mem_cons.mpr ⟨s_iload_n (dd_X9_deedsWith (42, .iload_n 3, 1) (List.mem_of_getElem? (i := 24) rfl)) rfl, ?_⟩
  refine List.forall_mem_cons.mpr ⟨Or.inr (Or.inl ⟨rfl, (dd_X9_deedsWith (43, .ireturn, 1) (List.mem_of_getElem? (i := 25) rfl)), rfl⟩), ?_⟩
  exact fun _ h => absurd h List.not_mem_nil
theorem ow_X9_load : (mtJ 137).1.cls = "SatchelSinsModel" := rfl
def D_X9_load : List (Nat × Instr × Nat) := [(0, .iconst 0, 1), (1, .istore_n 2, 1), (2, .iconst 0, 1), (3, .istore_n 3, 1), (4, .iload_n 3, 1), (5, .aload_n 0, 1), (6, .getfield 98, 3), (9, .if_icmp .ge 32, 3), (12, .iload_n 2, 1), (13, .aload_n 0, 1), (14, .iload_n 3, 1), (15, .iconst 1, 1), (16, .iload_n 1, 1), (17, .invokevirtual 178, 3), (20, .ifCond .eq 12, 3), (23, .aload_n 0, 1), (24, .getfield 22, 3), (27, .iload_n 3, 1), (28, .iaload, 1), (29, .goto 4, 3), (32, .iconst 0, 1), (33, .iadd, 1), (34, .istore_n 2, 1), (35, .iinc 3 1, 3), (38, .goto (-34), 3), (41, .iload_n 2, 1), (42, .ireturn, 1)]
theorem dd_X9_load : ∀ e ∈ D_X9_load, decode (mtJ 137).2.1 e.1 = .ok e.2 := by decide +kernel
set_option maxRecDepth 10000 in
theorem so_X9_load : ∀ e ∈ o_X9_load, SndO 137 e.1 e.2 := by
  refine List.forall_mem_cons.mpr ⟨s_iconst (dd_X9_load (0, .iconst 0, 1) (List.mem_of_getElem? (i := 0) rfl)) rfl, ?_⟩
  refine List.forall_mem_cons.mpr ⟨s_istore_n (dd_X9_load (1, .istore_n 2, 1) (List.mem_of_getElem? (i := 1) rfl)) rfl, ?_⟩
  refine List.forall_mem_cons.mpr ⟨s_iconst (dd_X9_load (2, .iconst 0, 1) (List.mem_of_getElem? (i := 2) rfl)) rfl, ?_⟩
  refine List.forall_mem_cons.mpr ⟨s_istore_n (dd_X9_load (3, .istore_n 3, 1) (List.mem_of_getElem? (i := 3) rfl)) rfl, ?_⟩
  refine List.forall_mem_cons.mpr ⟨s_iload_n (dd_X9_load (4, .iload_n 3, 1) (List.mem_of_getElem? (i := 4) rfl)) rfl, ?_⟩
  refine List.forall_mem_cons.mpr ⟨s_aload_n (dd_X9_load (5, .aload_n 0, 1) (List.mem_of_getElem? (i := 5) rfl)) rfl, ?_⟩
  refine List.forall_mem_cons.mpr ⟨s_getI (k := 6) K9 (by decide) (dd_X9_load (6, .getfield 98, 3) (List.mem_of_getElem? (i := 6) rfl)) ow_X9_load fl9_98 rfl, ?_⟩
  refine List.forall_mem_cons.mpr ⟨s_icmp_ge (dd_X9_load (9, .if_icmp .ge 32, 3) (List.mem_of_getElem? (i := 7) rfl)) (by decide), ?_⟩
  refine List.forall_mem_cons.mpr ⟨s_iload_n (dd_X9_load (12, .iload_n 2, 1) (List.mem_of_getElem? (i := 8) rfl)) rfl, ?_⟩
  refine List.forall_mem_cons.mpr ⟨s_aload_n (dd_X9_load (13, .aload_n 0, 1) (List.mem_of_getElem? (i := 9) rfl)) rfl, ?_⟩
  refine List.forall_mem_cons.mpr ⟨s_iload_n (dd_X9_load (14, .iload_n 3, 1) (List.mem_of_getElem? (i := 10) rfl)) rfl, ?_⟩
  refine List.forall_mem_cons.mpr ⟨s_iconst (dd_X9_load (15, .iconst 1, 1) (List.mem_of_getElem? (i := 11) rfl)) rfl, ?_⟩
  refine List.forall_mem_cons.mpr ⟨s_iload_n (dd_X9_load (16, .iload_n 1, 1) (List.mem_of_getElem? (i := 12) rfl)) rfl, ?_⟩
  refine List.forall_mem_cons.mpr ⟨⟨s_callV (ci := 9) rfl mo135 rfl rfl (dd_X9_load (17, .invokevirtual 178, 3) (List.mem_of_getElem? (i := 13) rfl)) ow_X9_load ml9_178 mi135 msl135 in_9 mn135, mo135⟩, ?_⟩
  refine List.forall_mem_cons.mpr ⟨s_if_eq (dd_X9_load (20, .ifCond .eq 12, 3) (List.mem_of_getElem? (i := 14) rfl)) (by decide), ?_⟩
  refine List.forall_mem_cons.mpr ⟨s_aload_n (dd_X9_load (23, .aload_n 0, 1) (List.mem_of_getElem? (i := 15) rfl)) rfl, ?_⟩
  refine List.forall_mem_cons.mpr ⟨s_getR (k := 8) K9 (by decide) (dd_X9_load (24, .getfield 22, 3) (List.mem_of_getElem? (i := 16) rfl)) ow_X9_load fl9_22 rfl, ?_⟩
  refine List.forall_mem_cons.mpr ⟨s_iload_n (dd_X9_load (27, .iload_n 3, 1) (List.mem_of_getElem? (i := 17) rfl)) rfl, ?_⟩
  refine List.forall_mem_cons.mpr ⟨s_iald (dd_X9_load (28, .iaload, 1) (List.mem_of_getElem? (i := 18) rfl)), ?_⟩
  refine List.forall_mem_cons.mpr ⟨s_goto (dd_X9_load (29, .goto 4, 3) (List.mem_of_getElem? (i := 19) rfl)) (by decide), ?_⟩
  refine List.forall_mem_cons.mpr ⟨s_iconst (dd_X9_load (32, .iconst 0, 1) (List.mem_of_getElem? (i := 20) rfl)) rfl, ?_⟩
  refine List.forall_mem_cons.mpr ⟨s_iadd (dd_X9_load (33, .iadd, 1) (List.mem_of_getElem? (i := 21) rfl)), ?_⟩
  refine List.forall_mem_cons.mpr ⟨s_istore_n (dd_X9_load (34, .istore_n 2, 1) (List.mem_of_getElem? (i := 22) rfl)) rfl, ?_⟩
  refine List.forall_mem_cons.mpr ⟨s_iinc (dd_X9_load (35, .iinc 3 1, 3) (List.mem_of_getElem? (i := 23) rfl)) rfl, ?_⟩
  refine List.forall_mem_cons.mpr ⟨s_goto (dd_X9_load (38, .goto (-34), 3) (List.mem_of_getElem? (i := 24) rfl)) (by decide), ?_⟩
  refine List.forall_mem_cons.mpr ⟨s_iload_n (dd_X9_load (41, .iload_n 2, 1) (List.mem_of_getElem? (i := 25) rfl)) rfl, ?_⟩
  refine List.forall_mem_cons.mpr ⟨Or.inr (Or.inl ⟨rfl, (dd_X9_load (42, .ireturn, 1) (List.mem_of_getElem? (i := 26) rfl)), rfl⟩), ?_⟩
  exact fun _ h => absurd h List.not_mem_nil
theorem ow_X9_minutes : (mtJ 138).1.cls = "SatchelSinsModel" := rfl
def D_X9_minutes : List (Nat × Instr × Nat) := [(0, .aload_n 0, 1), (1, .getfield 13, 3), (4, .iload_n 1, 1), (5, .iaload, 1), (6, .aload_n 0, 1), (7, .getfield 13, 3), (10, .iload_n 1, 1), (11, .iaload, 1), (12, .aload_n 0, 1), (13, .iload_n 1, 1), (14, .invokevirtual 182, 3), (17, .imul, 1), (18, .aload_n 0, 1), (19, .getfield 7, 3), (22, .iload_n 1, 1), (23, .iaload, 1), (24, .idiv, 1), (25, .iadd, 1), (26, .ireturn, 1)]
theorem dd_X9_minutes : ∀ e ∈ D_X9_minutes, decode (mtJ 138).2.1 e.1 = .ok e.2 := by decide +kernel
set_option maxRecDepth 10000 in
theorem so_X9_minutes : ∀ e ∈ o_X9_minutes, SndO 138 e.1 e.2 := by
  refine List.forall_mem_cons.mpr ⟨s_aload_n (dd_X9_minutes (0, .aload_n 0, 1) (List.mem_of_getElem? (i := 0) rfl)) rfl, ?_⟩
  refine List.forall_mem_cons.mpr ⟨s_getR (k := 4) K9 (by decide) (dd_X9_minutes (1, .getfield 13, 3) (List.mem_of_getElem? (i := 1) rfl)) ow_X9_minutes fl9_13 rfl, ?_⟩
  refine List.forall_mem_cons.mpr ⟨s_iload_n (dd_X9_minutes (4, .iload_n 1, 1) (List.mem_of_getElem? (i := 2) rfl)) rfl, ?_⟩
  refine List.forall_mem_cons.mpr ⟨s_iald (dd_X9_minutes (5, .iaload, 1) (List.mem_of_getElem? (i := 3) rfl)), ?_⟩
  refine List.forall_mem_cons.mpr ⟨s_aload_n (dd_X9_minutes (6, .aload_n 0, 1) (List.mem_of_getElem? (i := 4) rfl)) rfl, ?_⟩
  refine List.forall_mem_cons.mpr ⟨s_getR (k := 4) K9 (by decide) (dd_X9_minutes (7, .getfield 13, 3) (List.mem_of_getElem? (i := 5) rfl)) ow_X9_minutes fl9_13 rfl, ?_⟩
  refine List.forall_mem_cons.mpr ⟨s_iload_n (dd_X9_minutes (10, .iload_n 1, 1) (List.mem_of_getElem? (i := 6) rfl)) rfl, ?_⟩
  refine List.forall_mem_cons.mpr ⟨s_iald (dd_X9_minutes (11, .iaload, 1) (List.mem_of_getElem? (i := 7) rfl)), ?_⟩
  refine List.forall_mem_cons.mpr ⟨s_aload_n (dd_X9_minutes (12, .aload_n 0, 1) (List.mem_of_getElem? (i := 8) rfl)) rfl, ?_⟩
  refine List.forall_mem_cons.mpr ⟨s_iload_n (dd_X9_minutes (13, .iload_n 1, 1) (List.mem_of_getElem? (i := 9) rfl)) rfl, ?_⟩
  refine List.forall_mem_cons.mpr ⟨⟨s_callV (ci := 9) rfl mo137 rfl rfl (dd_X9_minutes (14, .invokevirtual 182, 3) (List.mem_of_getElem? (i := 10) rfl)) ow_X9_minutes ml9_182 mi137 msl137 in_9 mn137, mo137⟩, ?_⟩
  refine List.forall_mem_cons.mpr ⟨s_imul (dd_X9_minutes (17, .imul, 1) (List.mem_of_getElem? (i := 11) rfl)), ?_⟩
  refine List.forall_mem_cons.mpr ⟨s_aload_n (dd_X9_minutes (18, .aload_n 0, 1) (List.mem_of_getElem? (i := 12) rfl)) rfl, ?_⟩
  refine List.forall_mem_cons.mpr ⟨s_getR (k := 3) K9 (by decide) (dd_X9_minutes (19, .getfield 7, 3) (List.mem_of_getElem? (i := 13) rfl)) ow_X9_minutes fl9_7 rfl, ?_⟩
  refine List.forall_mem_cons.mpr ⟨s_iload_n (dd_X9_minutes (22, .iload_n 1, 1) (List.mem_of_getElem? (i := 14) rfl)) rfl, ?_⟩
  refine List.forall_mem_cons.mpr ⟨s_iald (dd_X9_minutes (23, .iaload, 1) (List.mem_of_getElem? (i := 15) rfl)), ?_⟩
  refine List.forall_mem_cons.mpr ⟨s_idiv (dd_X9_minutes (24, .idiv, 1) (List.mem_of_getElem? (i := 16) rfl)), ?_⟩
  refine List.forall_mem_cons.mpr ⟨s_iadd (dd_X9_minutes (25, .iadd, 1) (List.mem_of_getElem? (i := 17) rfl)), ?_⟩
  refine List.forall_mem_cons.mpr ⟨Or.inr (Or.inl ⟨rfl, (dd_X9_minutes (26, .ireturn, 1) (List.mem_of_getElem? (i := 18) rfl)), rfl⟩), ?_⟩
  exact fun _ h => absurd h List.not_mem_nil
theorem ow_X9_lamed : (mtJ 139).1.cls = "SatchelSinsModel" := rfl
def D_X9_lamed : List (Nat × Instr × Nat) := [(0, .iconst 0, 1), (1, .istore_n 1, 1), (2, .iconst 0, 1), (3, .istore_n 2, 1), (4, .iload_n 2, 1), (5, .aload_n 0, 1), (6, .getfield 91, 3), (9, .if_icmp .ge 33, 3), (12, .iload_n 1, 1), (13, .aload_n 0, 1), (14, .iload_n 2, 1), (15, .invokevirtual 182, 3), (18, .aload_n 0, 1), (19, .getfield 7, 3), (22, .iload_n 2, 1), (23, .iaload, 1), (24, .if_icmp .le 9, 3), (27, .iconst 1, 1), (28, .iload_n 2, 1), (29, .ishl, 1), (30, .goto 4, 3), (33, .iconst 0, 1), (34, .ior, 1), (35, .istore_n 1, 1), (36, .iinc 2 1, 3), (39, .goto (-35), 3), (42, .iload_n 1, 1), (43, .ireturn, 1)]
theorem dd_X9_lamed : ∀ e ∈ D_X9_lamed, decode (mtJ 139).2.1 e.1 = .ok e.2 := by decide +kernel
set_option maxRecDepth 10000 in
theorem so_X9_lamed : ∀ e ∈ o_X9_lamed, SndO 139 e.1 e.2 := by
  refine List.forall_mem_cons.mpr ⟨s_iconst (dd_X9_lamed (0, .iconst 0, 1) (List.mem_of_getElem? (i := 0) rfl)) rfl, ?_⟩
  refine List.forall_mem_cons.mpr ⟨s_istore_n (dd_X9_lamed (1, .istore_n 1, 1) (List.mem_of_getElem? (i := 1) rfl)) rfl, ?_⟩
  refine List.forall_mem_cons.mpr ⟨s_iconst (dd_X9_lamed (2, .iconst 0, 1) (List.mem_of_getElem? (i := 2) rfl)) rfl, ?_⟩
  refine List.forall_mem_cons.mpr ⟨s_istore_n (dd_X9_lamed (3, .istore_n 2, 1) (List.mem_of_getElem? (i := 3) rfl)) rfl, ?_⟩
  refine List.forall_mem_cons.mpr ⟨s_iload_n (dd_X9_lamed (4, .iload_n 2, 1) (List.mem_of_getElem? (i := 4) rfl)) rfl, ?_⟩
  refine List.forall_mem_cons.mpr ⟨s_aload_n (dd_X9_lamed (5, .aload_n 0, 1) (List.mem_of_getElem? (i := 5) rfl)) rfl, ?_⟩
  refine List.forall_mem_cons.mpr ⟨s_getI (k := 2) K9 (by decide) (dd_X9_lamed (6, .getfield 91, 3) (List.mem_of_getElem? (i := 6) rfl)) ow_X9_lamed fl9_91 rfl, ?_⟩
  refine List.forall_mem_cons.mpr ⟨s_icmp_ge (dd_X9_lamed (9, .if_icmp .ge 33, 3) (List.mem_of_getElem? (i := 7) rfl)) (by decide), ?_⟩
  refine List.forall_mem_cons.mpr ⟨s_iload_n (dd_X9_lamed (12, .iload_n 1, 1) (List.mem_of_getElem? (i := 8) rfl)) rfl, ?_⟩
  refine List.forall_mem_cons.mpr ⟨s_aload_n (dd_X9_lamed (13, .aload_n 0, 1) (List.mem_of_getElem? (i := 9) rfl)) rfl, ?_⟩
  refine List.forall_mem_cons.mpr ⟨s_iload_n (dd_X9_lamed (14, .iload_n 2, 1) (List.mem_of_getElem? (i := 10) rfl)) rfl, ?_⟩
  refine List.forall_mem_cons.mpr ⟨⟨s_callV (ci := 9) rfl mo137 rfl rfl (dd_X9_lamed (15, .invokevirtual 182, 3) (List.mem_of_getElem? (i := 11) rfl)) ow_X9_lamed ml9_182 mi137 msl137 in_9 mn137, mo137⟩, ?_⟩
  refine List.forall_mem_cons.mpr ⟨s_aload_n (dd_X9_lamed (18, .aload_n 0, 1) (List.mem_of_getElem? (i := 12) rfl)) rfl, ?_⟩
  refine List.forall_mem_cons.mpr ⟨s_getR (k := 3) K9 (by decide) (dd_X9_lamed (19, .getfield 7, 3) (List.mem_of_getElem? (i := 13) rfl)) ow_X9_lamed fl9_7 rfl, ?_⟩
  refine List.forall_mem_cons.mpr ⟨s_iload_n (dd_X9_lamed (22, .iload_n 2, 1) (List.mem_of_getElem? (i := 14) rfl)) rfl, ?_⟩
  refine List.forall_mem_cons.mpr ⟨s_iald (dd_X9_lamed (23, .iaload, 1) (List.mem_of_getElem? (i := 15) rfl)), ?_⟩
  refine List.forall_mem_cons.mpr ⟨s_icmp_le (dd_X9_lamed (24, .if_icmp .le 9, 3) (List.mem_of_getElem? (i := 16) rfl)) (by decide), ?_⟩
  refine List.forall_mem_cons.mpr ⟨s_iconst (dd_X9_lamed (27, .iconst 1, 1) (List.mem_of_getElem? (i := 17) rfl)) rfl, ?_⟩
  refine List.forall_mem_cons.mpr ⟨s_iload_n (dd_X9_lamed (28, .iload_n 2, 1) (List.mem_of_getElem? (i := 18) rfl)) rfl, ?_⟩
  refine List.forall_mem_cons.mpr ⟨s_ishl (dd_X9_lamed (29, .ishl, 1) (List.mem_of_getElem? (i := 19) rfl)), ?_⟩
  refine List.forall_mem_cons.mpr ⟨s_goto (dd_X9_lamed (30, .goto 4, 3) (List.mem_of_getElem? (i := 20) rfl)) (by decide), ?_⟩
  refine List.forall_mem_cons.mpr ⟨s_iconst (dd_X9_lamed (33, .iconst 0, 1) (List.mem_of_getElem? (i := 21) rfl)) rfl, ?_⟩
  refine List.forall_mem_cons.mpr ⟨s_ior (dd_X9_lamed (34, .ior, 1) (List.mem_of_getElem? (i := 22) rfl)), ?_⟩
  refine List.forall_mem_cons.mpr ⟨s_istore_n (dd_X9_lamed (35, .istore_n 1, 1) (List.mem_of_getElem? (i := 23) rfl)) rfl, ?_⟩
  refine List.forall_mem_cons.mpr ⟨s_iinc (dd_X9_lamed (36, .iinc 2 1, 3) (List.mem_of_getElem? (i := 24) rfl)) rfl, ?_⟩
  refine List.forall_mem_cons.mpr ⟨s_goto (dd_X9_lamed (39, .goto (-35), 3) (List.mem_of_getElem? (i := 25) rfl)) (by decide), ?_⟩
  refine List.forall_mem_cons.mpr ⟨s_iload_n (dd_X9_lamed (42, .iload_n 1, 1) (List.mem_of_getElem? (i := 26) rfl)) rfl, ?_⟩
  refine List.forall_mem_cons.mpr ⟨Or.inr (Or.inl ⟨rfl, (dd_X9_lamed (43, .ireturn, 1) (List.mem_of_getElem? (i := 27) rfl)), rfl⟩), ?_⟩
  exact fun _ h => absurd h List.not_mem_nil
theorem ow_X9_lamedDays : (mtJ 140).1.cls = "SatchelSinsModel" := rfl
def D_X9_lamedDays : List (Nat × Instr × Nat) := [(0, .iconst 0, 1), (1, .istore_n 1, 1), (2, .iconst 0, 1), (3, .istore_n 2, 1), (4, .iload_n 2, 1), (5, .iconst 5, 1), (6, .if_icmp .ge 21, 3), (9, .iload_n 1, 1), (10, .aload_n 0, 1), (11, .getfield 25, 3), (14, .bipush 17, 2), (16, .iload_n 2, 1), (17, .iadd, 1), (18, .iaload, 1), (19, .iadd, 1), (20, .istore_n 1, 1), (21, .iinc 2 1, 3), (24, .goto (-20), 3), (27, .iload_n 1, 1), (28, .ireturn, 1)]
theorem dd_X9_lamedDays : ∀ e ∈ D_X9_lamedDays, decode (mtJ 140).2.1 e.1 = .ok e.2 := by decide +kernel
set_option maxRecDepth 10000 in
theorem so_X9_lamedDays : ∀ e ∈ o_X9_lamedDays, SndO 140 e.1 e.2 := by
  refine List.forall_mem_cons.mpr ⟨s_iconst (dd_X9_lamedDays (0, .iconst 0, 1) (List.mem_of_getElem? (i := 0) rfl)) rfl, ?_⟩
  refine List.forall_mem_cons.mpr ⟨s_istore_n (dd_X9_lamedDays (1, .istore_n 1, 1) (List.mem_of_getElem? (i := 1) rfl)) rfl, ?_⟩
  refine List.forall_mem_cons.mpr ⟨s_iconst (dd_X9_lamedDays (2, .iconst 0, 1) (List.mem_of_getElem? (i := 2) rfl)) rfl, ?_⟩
  refine List.forall_mem_cons.mpr ⟨s_istore_n (dd_X9_lamedDays (3, .istore_n 2, 1) (List.mem_of_getElem? (i := 3) rfl)) rfl, ?_⟩
  refine List.forall_mem_cons.mpr ⟨s_iload_n (dd_X9_lamedDays (4, .iload_n 2, 1) (List.mem_of_getElem? (i := 4) rfl)) rfl, ?_⟩
  refine List.forall_mem_cons.mpr ⟨s_iconst (dd_X9_lamedDays (5, .iconst 5, 1) (List.mem_of_getElem? (i := 5) rfl)) rfl, ?_⟩
  refine List.forall_mem_cons.mpr ⟨s_icmp_ge (dd_X9_lamedDays (6, .if_icmp .ge 21, 3) (List.mem_of_getElem? (i := 6) rfl)) (by decide), ?_⟩
  refine List.forall_mem_cons.mpr ⟨s_iload_n (dd_X9_lamedDays (9, .iload_n 1, 1) (List.mem_of_getElem? (i := 7) rfl)) rfl, ?_⟩
  refine List.forall_mem_cons.mpr ⟨s_aload_n (dd_X9_lamedDays (10, .aload_n 0, 1) (List.mem_of_getElem? (i := 8) rfl)) rfl, ?_⟩
  refine List.forall_mem_cons.mpr ⟨s_getR (k := 9) K9 (by decide) (dd_X9_lamedDays (11, .getfield 25, 3) (List.mem_of_getElem? (i := 9) rfl)) ow_X9_lamedDays fl9_25 rfl, ?_⟩
  refine List.forall_mem_cons.mpr ⟨s_bipush (dd_X9_lamedDays (14, .bipush 17, 2) (List.mem_of_getElem? (i := 10) rfl)) rfl, ?_⟩
  refine List.forall_mem_cons.mpr ⟨s_iload_n (dd_X9_lamedDays (16, .iload_n 2, 1) (List.mem_of_getElem? (i := 11) rfl)) rfl, ?_⟩
  refine List.forall_mem_cons.mpr ⟨s_iadd (dd_X9_lamedDays (17, .iadd, 1) (List.mem_of_getElem? (i := 12) rfl)), ?_⟩
  refine List.forall_mem_cons.mpr ⟨s_iald (dd_X9_lamedDays (18, .iaload, 1) (List.mem_of_getElem? (i := 13) rfl)), ?_⟩
  refine List.forall_mem_cons.mpr ⟨s_iadd (dd_X9_lamedDays (19, .iadd, 1) (List.mem_of_getElem? (i := 14) rfl)), ?_⟩
  refine List.forall_mem_cons.mpr ⟨s_istore_n (dd_X9_lamedDays (20, .istore_n 1, 1) (List.mem_of_getElem? (i := 15) rfl)) rfl, ?_⟩
  refine List.forall_mem_cons.mpr ⟨s_iinc (dd_X9_lamedDays (21, .iinc 2 1, 3) (List.mem_of_getElem? (i := 16) rfl)) rfl, ?_⟩
  refine List.forall_mem_cons.mpr ⟨s_goto (dd_X9_lamedDays (24, .goto (-20), 3) (List.mem_of_getElem? (i := 17) rfl)) (by decide), ?_⟩
  refine List.forall_mem_cons.mpr ⟨s_iload_n (dd_X9_lamedDays (27, .iload_n 1, 1) (List.mem_of_getElem? (i := 18) rfl)) rfl, ?_⟩
  refine List.forall_mem_cons.mpr ⟨Or.inr (Or.inl ⟨rfl, (dd_X9_lamedDays (28, .ireturn, 1) (List.mem_of_getElem? (i := 19) rfl)), rfl⟩), ?_⟩
  exact fun _ h => absurd h List.not_mem_nil
theorem ow_X9_made : (mtJ 141).1.cls = "SatchelSinsModel" := rfl
def D_X9_made : List (Nat × Instr × Nat) := [(0, .iconst 0, 1), (1, .istore_n 1, 1), (2, .iconst 0, 1), (3, .istore_n 2, 1), (4, .iload_n 2, 1), (5, .aload_n 0, 1), (6, .getfield 91, 3), (9, .if_icmp .ge 86, 3), (12, .iconst 0, 1), (13, .istore_n 3, 1), (14, .iconst 0, 1), (15, .istore 4, 2), (17, .iload 4, 2), (19, .aload_n 0, 1), (20, .getfield 98, 3), (23, .if_icmp .ge 45, 3), (26, .iload_n 3, 1), (27, .aload_n 0, 1), (28, .iload 4, 2), (30, .iconst 1, 1), (31, .iload_n 2, 1), (32, .invokevirtual 178, 3), (35, .ifCond .eq 24, 3), (38, .aload_n 0, 1), (39, .getfield 19, 3), (42, .iload 4, 2), (44, .iaload, 1), (45, .iload_n 2, 1), (46, .if_icmp .ne 13, 3), (49, .aload_n 0, 1), (50, .getfield 22, 3), (53, .iload 4, 2), (55, .iaload, 1), (56, .goto 4, 3), (59, .iconst 0, 1), (60, .iadd, 1), (61, .istore_n 3, 1), (62, .iinc 4 1, 3), (65, .goto (-48), 3), (68, .iload_n 1, 1), (69, .aload_n 0, 1), (70, .iload_n 2, 1), (71, .invokevirtual 182, 3), (74, .iload_n 3, 1), (75, .isub, 1), (76, .iload_n 3, 1), (77, .if_icmp .le 9, 3), (80, .iconst 1, 1), (81, .iload_n 2, 1), (82, .ishl, 1), (83, .goto 4, 3), (86, .iconst 0, 1), (87, .ior, 1), (88, .istore_n 1, 1), (89, .iinc 2 1, 3), (92, .goto (-88), 3), (95, .iload_n 1, 1), (96, .ireturn, 1)]
theorem dd_X9_made : ∀ e ∈ D_X9_made, decode (mtJ 141).2.1 e.1 = .ok e.2 := by decide +kernel
set_option maxRecDepth 10000 in
theorem so_X9_made : ∀ e ∈ o_X9_made, SndO 141 e.1 e.2 := by
  refine List.forall_mem_cons.mpr ⟨s_iconst (dd_X9_made (0, .iconst 0, 1) (List.mem_of_getElem? (i := 0) rfl)) rfl, ?_⟩
  refine List.forall_mem_cons.mpr ⟨s_istore_n (dd_X9_made (1, .istore_n 1, 1) (List.mem_of_getElem? (i := 1) rfl)) rfl, ?_⟩
  refine List.forall_mem_cons.mpr ⟨s_iconst (dd_X9_made (2, .iconst 0, 1) (List.mem_of_getElem? (i := 2) rfl)) rfl, ?_⟩
  refine List.forall_mem_cons.mpr ⟨s_istore_n (dd_X9_made (3, .istore_n 2, 1) (List.mem_of_getElem? (i := 3) rfl)) rfl, ?_⟩
  refine List.forall_mem_cons.mpr ⟨s_iload_n (dd_X9_made (4, .iload_n 2, 1) (List.mem_of_getElem? (i := 4) rfl)) rfl, ?_⟩
  refine List.forall_mem_cons.mpr ⟨s_aload_n (dd_X9_made (5, .aload_n 0, 1) (List.mem_of_getElem? (i := 5) rfl)) rfl, ?_⟩
  refine List.forall_mem_cons.mpr ⟨s_getI (k := 2) K9 (by decide) (dd_X9_made (6, .getfield 91, 3) (List.mem_of_getElem? (i := 6) rfl)) ow_X9_made fl9_91 rfl, ?_⟩
  refine List.forall_mem_cons.mpr ⟨s_icmp_ge (dd_X9_made (9, .if_icmp .ge 86, 3) (List.mem_of_getElem? (i := 7) rfl)) (by decide), ?_⟩
  refine List.forall_mem_cons.mpr ⟨s_iconst (dd_X9_made (12, .iconst 0, 1) (List.mem_of_getElem? (i := 8) rfl)) rfl, ?_⟩
  refine List.forall_mem_cons.mpr ⟨s_istore_n (dd_X9_made (13, .istore_n 3, 1) (List.mem_of_getElem? (i := 9) rfl)) rfl, ?_⟩
  refine List.forall_mem_cons.mpr ⟨s_iconst (dd_X9_made (14, .iconst 0, 1) (List.mem_of_getElem? (i := 10) rfl)) rfl, ?_⟩
  refine List.forall_mem_cons.mpr ⟨s_istore (dd_X9_made (15, .istore 4, 2) (List.mem_of_getElem? (i := 11) rfl)), ?_⟩
  refine List.forall_mem_cons.mpr ⟨s_iload (dd_X9_made (17, .iload 4, 2) (List.mem_of_getElem? (i := 12) rfl)), ?_⟩
  refine List.forall_mem_cons.mpr ⟨s_aload_n (dd_X9_made (19, .aload_n 0, 1) (List.mem_of_getElem? (i := 13) rfl)) rfl, ?_⟩
  refine List.forall_mem_cons.mpr ⟨s_getI (k := 6) K9 (by decide) (dd_X9_made (20, .getfield 98, 3) (List.mem_of_getElem? (i := 14) rfl)) ow_X9_made fl9_98 rfl, ?_⟩
  refine List.forall_mem_cons.mpr ⟨s_icmp_ge (dd_X9_made (23, .if_icmp .ge 45, 3) (List.mem_of_getElem? (i := 15) rfl)) (by decide), ?_⟩
  refine List.forall_mem_cons.mpr ⟨s_iload_n (dd_X9_made (26, .iload_n 3, 1) (List.mem_of_getElem? (i := 16) rfl)) rfl, ?_⟩
  refine List.forall_mem_cons.mpr ⟨s_aload_n (dd_X9_made (27, .aload_n 0, 1) (List.mem_of_getElem? (i := 17) rfl)) rfl, ?_⟩
  refine List.forall_mem_cons.mpr ⟨s_iload (dd_X9_made (28, .iload 4, 2) (List.mem_of_getElem? (i := 18) rfl)), ?_⟩
  refine List.forall_mem_cons.mpr ⟨s_iconst (dd_X9_made (30, .iconst 1, 1) (List.mem_of_getElem? (i := 19) rfl)) rfl, ?_⟩
  refine List.forall_mem_cons.mpr ⟨s_iload_n (dd_X9_made (31, .iload_n 2, 1) (List.mem_of_getElem? (i := 20) rfl)) rfl, ?_⟩
  refine List.forall_mem_cons.mpr ⟨⟨s_callV (ci := 9) rfl mo135 rfl rfl (dd_X9_made (32, .invokevirtual 178, 3) (List.mem_of_getElem? (i := 21) rfl)) ow_X9_made ml9_178 mi135 msl135 in_9 mn135, mo135⟩, ?_⟩
  refine List.forall_mem_cons.mpr ⟨s_if_eq (dd_X9_made (35, .ifCond .eq 24, 3) (List.mem_of_getElem? (i := 22) rfl)) (by decide), ?_⟩
  refine List.forall_mem_cons.mpr ⟨s_aload_n (dd_X9_made (38, .aload_n 0, 1) (List.mem_of_getElem? (i := 23) rfl)) rfl, ?_⟩
  refine List.forall_mem_cons.mpr ⟨s_getR (k := 7) K9 (by decide) (dd_X9_made (39, .getfield 19, 3) (List.mem_of_getElem? (i := 24) rfl)) ow_X9_made fl9_19 rfl, ?_⟩
  refine List.forall_mem_cons.mpr ⟨s_iload (dd_X9_made (42, .iload 4, 2) (List.mem_of_getElem? (i := 25) rfl)), ?_⟩
  refine List.forall_mem_cons.mpr ⟨s_iald (dd_X9_made (44, .iaload, 1) (List.mem_of_getElem? (i := 26) rfl)), ?_⟩
  refine List.forall_mem_cons.mpr ⟨s_iload_n (dd_X9_made (45, .iload_n 2, 1) (List.mem_of_getElem? (i := 27) rfl)) rfl, ?_⟩
  refine List.forall_mem_cons.mpr ⟨s_icmp_ne (dd_X9_made (46, .if_icmp .ne 13, 3) (List.mem_of_getElem? (i := 28) rfl)) (by decide), ?_⟩
  refine List.forall_mem_cons.mpr ⟨s_aload_n (dd_X9_made (49, .aload_n 0, 1) (List.mem_of_getElem? (i := 29) rfl)) rfl, ?_⟩
  refine List.forall_mem_cons.mpr ⟨s_getR (k := 8) K9 (by decide) (dd_X9_made (50, .getfield 22, 3) (List.mem_of_getElem? (i := 30) rfl)) ow_X9_made fl9_22 rfl, ?_⟩
  refine List.forall_mem_cons.mpr ⟨s_iload (dd_X9_made (53, .iload 4, 2) (List.mem_of_getElem? (i := 31) rfl)), ?_⟩
  refine List.forall_mem_cons.mpr ⟨s_iald (dd_X9_made (55, .iaload, 1) (List.mem_of_getElem? (i := 32) rfl)), ?_⟩
  refine List.forall_mem_cons.mpr ⟨s_goto (dd_X9_made (56, .goto 4, 3) (List.mem_of_getElem? (i := 33) rfl)) (by decide), ?_⟩
  refine List.forall_mem_cons.mpr ⟨s_iconst (dd_X9_made (59, .iconst 0, 1) (List.mem_of_getElem? (i := 34) rfl)) rfl, ?_⟩
  refine List.forall_mem_cons.mpr ⟨s_iadd (dd_X9_made (60, .iadd, 1) (List.mem_of_getElem? (i := 35) rfl)), ?_⟩
  refine List.forall_mem_cons.mpr ⟨s_istore_n (dd_X9_made (61, .istore_n 3, 1) (List.mem_of_getElem? (i := 36) rfl)) rfl, ?_⟩
  refine List.forall_mem_cons.mpr ⟨s_iinc (dd_X9_made (62, .iinc 4 1, 3) (List.mem_of_getElem? (i := 37) rfl)) rfl, ?_⟩
  refine List.forall_mem_cons.mpr ⟨s_goto (dd_X9_made (65, .goto (-48), 3) (List.mem_of_getElem? (i := 38) rfl)) (by decide), ?_⟩
  refine List.forall_mem_cons.mpr ⟨s_iload_n (dd_X9_made (68, .iload_n 1, 1) (List.mem_of_getElem? (i := 39) rfl)) rfl, ?_⟩
  refine List.forall_mem_cons.mpr ⟨s_aload_n (dd_X9_made (69, .aload_n 0, 1) (List.mem_of_getElem? (i := 40) rfl)) rfl, ?_⟩
  refine List.forall_mem_cons.mpr ⟨s_iload_n (dd_X9_made (70, .iload_n 2, 1) (List.mem_of_getElem? (i := 41) rfl)) rfl, ?_⟩
  refine List.forall_mem_cons.mpr ⟨⟨s_callV (ci := 9) rfl mo137 rfl rfl (dd_X9_made (71, .invokevirtual 182, 3) (List.mem_of_getElem? (i := 42) rfl)) ow_X9_made ml9_182 mi137 msl137 in_9 mn137, mo137⟩, ?_⟩
  refine List.forall_mem_cons.mpr ⟨s_iload_n (dd_X9_made (74, .iload_n 3, 1) (List.mem_of_getElem? (i := 43) rfl)) rfl, ?_⟩
  refine List.forall_mem_cons.mpr ⟨s_isub (dd_X9_made (75, .isub, 1) (List.mem_of_getElem? (i := 44) rfl)), ?_⟩
  refine List.forall_mem_cons.mpr ⟨s_iload_n (dd_X9_made (76, .iload_n 3, 1) (List.mem_of_getElem? (i := 45) rfl)) rfl, ?_⟩
  refine List.forall_mem_cons.mpr ⟨s_icmp_le (dd_X9_made (77, .if_icmp .le 9, 3) (List.mem_of_getElem? (i := 46) rfl)) (by decide), ?_⟩
  refine List.forall_mem_cons.mpr ⟨s_iconst (dd_X9_made (80, .iconst 1, 1) (List.mem_of_getElem? (i := 47) rfl)) rfl, ?_⟩
  refine List.forall_mem_cons.mpr ⟨s_iload_n (dd_X9_made (81, .iload_n 2, 1) (List.mem_of_getElem? (i := 48) rfl)) rfl, ?_⟩
  refine List.forall_mem_cons.mpr ⟨s_ishl (dd_X9_made (82, .ishl, 1) (List.mem_of_getElem? (i := 49) rfl)), ?_⟩
  refine List.forall_mem_cons.mpr ⟨s_goto (dd_X9_made (83, .goto 4, 3) (List.mem_of_getElem? (i := 50) rfl)) (by decide), ?_⟩
  refine List.forall_mem_cons.mpr ⟨s_iconst (dd_X9_made (86, .iconst 0, 1) (List.mem_of_getElem? (i := 51) rfl)) rfl, ?_⟩
  refine List.forall_mem_cons.mpr ⟨s_ior (dd_X9_made (87, .ior, 1) (List.mem_of_getElem? (i := 52) rfl)), ?_⟩
  refine List.forall_mem_cons.mpr ⟨s_istore_n (dd_X9_made (88, .istore_n 1, 1) (List.mem_of_getElem? (i := 53) rfl)) rfl, ?_⟩
  refine List.forall_mem_cons.mpr ⟨s_iinc (dd_X9_made (89, .iinc 2 1, 3) (List.mem_of_getElem? (i := 54) rfl)) rfl, ?_⟩
  refine List.forall_mem_cons.mpr ⟨s_goto (dd_X9_made (92, .goto (-88), 3) (List.mem_of_getElem? (i := 55) rfl)) (by decide), ?_⟩
  refine List.forall_mem_cons.mpr ⟨s_iload_n (dd_X9_made (95, .iload_n 1, 1) (List.mem_of_getElem? (i := 56) rfl)) rfl, ?_⟩
  refine List.forall_mem_cons.mpr ⟨Or.inr (Or.inl ⟨rfl, (dd_X9_made (96, .ireturn, 1) (List.mem_of_getElem? (i := 57) rfl)), rfl⟩), ?_⟩
  exact fun _ h => absurd h List.not_mem_nil
theorem ow_X9_lastHome : (mtJ 142).1.cls = "SatchelSinsModel" := rfl
def D_X9_lastHome : List (Nat × Instr × Nat) := [(0, .iconst (-1), 1), (1, .istore_n 1, 1), (2, .iconst 0, 1), (3, .istore_n 2, 1), (4, .iload_n 2, 1), (5, .aload_n 0, 1), (6, .getfield 91, 3), (9, .if_icmp .ge 32, 3), (12, .iload_n 1, 1), (13, .ifCond .lt 16, 3), (16, .aload_n 0, 1), (17, .iload_n 2, 1), (18, .invokevirtual 186, 3), (21, .aload_n 0, 1), (22, .iload_n 1, 1), (23, .invokevirtual 186, 3), (26, .if_icmp .le 7, 3), (29, .iload_n 2, 1), (30, .goto 4, 3), (33, .iload_n 1, 1), (34, .istore_n 1, 1), (35, .iinc 2 1, 3), (38, .goto (-34), 3), (41, .iload_n 1, 1), (42, .ireturn, 1)]
theorem dd_X9_lastHome : ∀ e ∈ D_X9_lastHome, decode (mtJ 142).2.1 e.1 = .ok e.2 := by decide +kernel
set_option maxRecDepth 10000 in
theorem so_X9_lastHome : ∀ e ∈ o_X9_lastHome, SndO 142 e.1 e.2 := by
  refine List.forall_mem_cons.mpr ⟨s_iconst (dd_X9_lastHome (0, .iconst (-1), 1) (List.mem_of_getElem? (i := 0) rfl)) rfl, ?_⟩
  refine List.forall_mem_cons.mpr ⟨s_istore_n (dd_X9_lastHome (1, .istore_n 1, 1) (List.mem_of_getElem? (i := 1) rfl)) rfl, ?_⟩
  refine List.forall_mem_cons.mpr ⟨s_iconst (dd_X9_lastHome (2, .iconst 0, 1) (List.mem_of_getElem? (i := 2) rfl)) rfl, ?_⟩
  refine List.forall_mem_cons.mpr ⟨s_istore_n (dd_X9_lastHome (3, .istore_n 2, 1) (List.mem_of_getElem? (i := 3) rfl)) rfl, ?_⟩
  refine List.forall_mem_cons.mpr ⟨s_iload_n (dd_X9_lastHome (4, .iload_n 2, 1) (List.mem_of_getElem? (i := 4) rfl)) rfl, ?_⟩
  refine List.forall_mem_cons.mpr ⟨s_aload_n (dd_X9_lastHome (5, .aload_n 0, 1) (List.mem_of_getElem? (i := 5) rfl)) rfl, ?_⟩
  refine List.forall_mem_cons.mpr ⟨s_getI (k := 2) K9 (by decide) (dd_X9_lastHome (6, .getfield 91, 3) (List.mem_of_getElem? (i := 6) rfl)) ow_X9_lastHome fl9_91 rfl, ?_⟩
  refine List.forall_mem_cons.mpr ⟨s_icmp_ge (dd_X9_lastHome (9, .if_icmp .ge 32, 3) (List.mem_of_getElem? (i := 7) rfl)) (by decide), ?_⟩
  refine List.forall_mem_cons.mpr ⟨s_iload_n (dd_X9_lastHome (12, .iload_n 1, 1) (List.mem_of_getElem? (i := 8) rfl)) rfl, ?_⟩
  refine List.forall_mem_cons.mpr ⟨s_if_lt (dd_X9_lastHome (13, .ifCond .lt 16, 3) (List.mem_of_getElem? (i := 9) rfl)) (by decide), ?_⟩
  refine List.forall_mem_cons.mpr ⟨s_aload_n (dd_X9_lastHome (16, .aload_n 0, 1) (List.mem_of_getElem? (i := 10) rfl)) rfl, ?_⟩
  refine List.forall_mem_cons.mpr ⟨s_iload_n (dd_X9_lastHome (17, .iload_n 2, 1) (List.mem_of_getElem? (i := 11) rfl)) rfl, ?_⟩
  refine List.forall_mem_cons.mpr ⟨⟨s_callV (ci := 9) rfl mo138 rfl rfl (dd_X9_lastHome (18, .invokevirtual 186, 3) (List.mem_of_getElem? (i := 12) rfl)) ow_X9_lastHome ml9_186 mi138 msl138 in_9 mn138, mo138⟩, ?_⟩
  refine List.forall_mem_cons.mpr ⟨s_aload_n (dd_X9_lastHome (21, .aload_n 0, 1) (List.mem_of_getElem? (i := 13) rfl)) rfl, ?_⟩
  refine List.forall_mem_cons.mpr ⟨s_iload_n (dd_X9_lastHome (22, .iload_n 1, 1) (List.mem_of_getElem? (i := 14) rfl)) rfl, ?_⟩
  refine List.forall_mem_cons.mpr ⟨⟨s_callV (ci := 9) rfl mo138 rfl rfl (dd_X9_lastHome (23, .invokevirtual 186, 3) (List.mem_of_getElem? (i := 15) rfl)) ow_X9_lastHome ml9_186 mi138 msl138 in_9 mn138, mo138⟩, ?_⟩
  refine List.forall_mem_cons.mpr ⟨s_icmp_le (dd_X9_lastHome (26, .if_icmp .le 7, 3) (List.mem_of_getElem? (i := 16) rfl)) (by decide), ?_⟩
  refine List.forall_mem_cons.mpr ⟨s_iload_n (dd_X9_lastHome (29, .iload_n 2, 1) (List.mem_of_getElem? (i := 17) rfl)) rfl, ?_⟩
  refine List.forall_mem_cons.mpr ⟨s_goto (dd_X9_lastHome (30, .goto 4, 3) (List.mem_of_getElem? (i := 18) rfl)) (by decide), ?_⟩
  refine List.forall_mem_cons.mpr ⟨s_iload_n (dd_X9_lastHome (33, .iload_n 1, 1) (List.mem_of_getElem? (i := 19) rfl)) rfl, ?_⟩
  refine List.forall_mem_cons.mpr ⟨s_istore_n (dd_X9_lastHome (34, .istore_n 1, 1) (List.mem_of_getElem? (i := 20) rfl)) rfl, ?_⟩
  refine List.forall_mem_cons.mpr ⟨s_iinc (dd_X9_lastHome (35, .iinc 2 1, 3) (List.mem_of_getElem? (i := 21) rfl)) rfl, ?_⟩
  refine List.forall_mem_cons.mpr ⟨s_goto (dd_X9_lastHome (38, .goto (-34), 3) (List.mem_of_getElem? (i := 22) rfl)) (by decide), ?_⟩
  refine List.forall_mem_cons.mpr ⟨s_iload_n (dd_X9_lastHome (41, .iload_n 1, 1) (List.mem_of_getElem? (i := 23) rfl)) rfl, ?_⟩
  refine List.forall_mem_cons.mpr ⟨Or.inr (Or.inl ⟨rfl, (dd_X9_lastHome (42, .ireturn, 1) (List.mem_of_getElem? (i := 24) rfl)), rfl⟩), ?_⟩
  exact fun _ h => absurd h List.not_mem_nil
theorem ow_X9_told : (mtJ 143).1.cls = "SatchelSinsModel" := rfl
def D_X9_told : List (Nat × Instr × Nat) := [(0, .iload_n 1, 1), (1, .tableswitch 150 0 13 #[71, 76, 81, 86, 91, 99, 107, 115, 120, 125, 130, 135, 140, 145], 71), (72, .aload_n 0, 1), (73, .getfield 160, 3), (76, .ireturn, 1), (77, .aload_n 0, 1), (78, .getfield 91, 3), (81, .ireturn, 1), (82, .aload_n 0, 1), (83, .getfield 98, 3), (86, .ireturn, 1), (87, .aload_n 0, 1), (88, .getfield 104, 3), (91, .ireturn, 1), (92, .aload_n 0, 1), (93, .getfield 25, 3), (96, .bipush 14, 2), (98, .iaload, 1), (99, .ireturn, 1), (100, .aload_n 0, 1), (101, .getfield 25, 3), (104, .bipush 15, 2), (106, .iaload, 1), (107, .ireturn, 1), (108, .aload_n 0, 1), (109, .getfield 25, 3), (112, .bipush 16, 2), (114, .iaload, 1), (115, .ireturn, 1), (116, .aload_n 0, 1), (117, .invokevirtual 189, 3), (120, .ireturn, 1), (121, .aload_n 0, 1), (122, .invokevirtual 192, 3), (125, .ireturn, 1), (126, .aload_n 0, 1), (127, .invokevirtual 195, 3), (130, .ireturn, 1), (131, .aload_n 0, 1), (132, .invokevirtual 198, 3), (135, .ireturn, 1), (136, .aload_n 0, 1), (137, .getfield 169, 3), (140, .ireturn, 1), (141, .aload_n 0, 1), (142, .getfield 172, 3), (145, .ireturn, 1), (146, .aload_n 0, 1), (147, .getfield 175, 3), (150, .ireturn, 1), (151, .ldc 103, 2), (153, .ireturn, 1)]
theorem dd_X9_told : ∀ e ∈ D_X9_told, decode (mtJ 143).2.1 e.1 = .ok e.2 := by decide +kernel
set_option maxRecDepth 10000 in
theorem so_X9_told : ∀ e ∈ o_X9_told, SndO 143 e.1 e.2 := by
  refine List.forall_mem_cons.mpr ⟨s_iload_n (dd_X9_told (0, .iload_n 1, 1) (List.mem_of_getElem? (i := 0) rfl)) rfl, ?_⟩
  refine List.forall_mem_cons.mpr ⟨s_tsw (dd_X9_told (1, .tableswitch 150 0 13 #[71, 76, 81, 86, 91, 99, 107, 115, 120, 125, 130, 135, 140, 145], 71) (List.mem_of_getElem? (i := 1) rfl)) (by decide) (by decide) (by decide), ?_⟩
  refine List.forall_mem_cons.mpr ⟨s_aload_n (dd_X9_told (72, .aload_n 0, 1) (List.mem_of_getElem? (i := 2) rfl)) rfl, ?_⟩
  refine List.forall_mem_cons.mpr ⟨s_getI (k := 1) K9 (by decide) (dd_X9_told (73, .getfield 160, 3) (List.mem_of_getElem? (i := 3) rfl)) ow_X9_told fl9_160 rfl, ?_⟩
  refine List.forall_mem_cons.mpr ⟨Or.inr (Or.inl ⟨rfl, (dd_X9_told (76, .ireturn, 1) (List.mem_of_getElem? (i := 4) rfl)), rfl⟩), ?_⟩
  refine List.forall_mem_cons.mpr ⟨s_aload_n (dd_X9_told (77, .aload_n 0, 1) (List.mem_of_getElem? (i := 5) rfl)) rfl, ?_⟩
  refine List.forall_mem_cons.mpr ⟨s_getI (k := 2) K9 (by decide) (dd_X9_told (78, .getfield 91, 3) (List.mem_of_getElem? (i := 6) rfl)) ow_X9_told fl9_91 rfl, ?_⟩
  refine List.forall_mem_cons.mpr ⟨Or.inr (Or.inl ⟨rfl, (dd_X9_told (81, .ireturn, 1) (List.mem_of_getElem? (i := 7) rfl)), rfl⟩), ?_⟩
  refine List.forall_mem_cons.mpr ⟨s_aload_n (dd_X9_told (82, .aload_n 0, 1) (List.mem_of_getElem? (i := 8) rfl)) rfl, ?_⟩
  refine List.forall_mem_cons.mpr ⟨s_getI (k := 6) K9 (by decide) (dd_X9_told (83, .getfield 98, 3) (List.mem_of_getElem? (i := 9) rfl)) ow_X9_told fl9_98 rfl, ?_⟩
  refine List.forall_mem_cons.mpr ⟨Or.inr (Or.inl ⟨rfl, (dd_X9_told (86, .ireturn, 1) (List.mem_of_getElem? (i := 10) rfl)), rfl⟩), ?_⟩
  refine List.forall_mem_cons.mpr ⟨s_aload_n (dd_X9_told (87, .aload_n 0, 1) (List.mem_of_getElem? (i := 11) rfl)) rfl, ?_⟩
  refine List.forall_mem_cons.mpr ⟨s_getI (k := 12) K9 (by decide) (dd_X9_told (88, .getfield 104, 3) (List.mem_of_getElem? (i := 12) rfl)) ow_X9_told fl9_104 rfl, ?_⟩
  refine List.forall_mem_cons.mpr ⟨Or.inr (Or.inl ⟨rfl, (dd_X9_told (91, .ireturn, 1) (List.mem_of_getElem? (i := 13) rfl)), rfl⟩), ?_⟩
  refine List.forall_mem_cons.mpr ⟨s_aload_n (dd_X9_told (92, .aload_n 0, 1) (List.mem_of_getElem? (i := 14) rfl)) rfl, ?_⟩
  refine List.forall_mem_cons.mpr ⟨s_getR (k := 9) K9 (by decide) (dd_X9_told (93, .getfield 25, 3) (List.mem_of_getElem? (i := 15) rfl)) ow_X9_told fl9_25 rfl, ?_⟩
  refine List.forall_mem_cons.mpr ⟨s_bipush (dd_X9_told (96, .bipush 14, 2) (List.mem_of_getElem? (i := 16) rfl)) rfl, ?_⟩
  refine List.forall_mem_cons.mpr ⟨s_iald (dd_X9_told (98, .iaload, 1) (List.mem_of_getElem? (i := 17) rfl)), ?_⟩
  refine List.forall_mem_cons.mpr ⟨Or.inr (Or.inl ⟨rfl, (dd_X9_told (99, .ireturn, 1) (List.mem_of_getElem? (i := 18) rfl)), rfl⟩), ?_⟩
  refine List.forall_mem_cons.mpr ⟨s_aload_n (dd_X9_told (100, .aload_n 0, 1) (List.mem_of_getElem? (i := 19) rfl)) rfl, ?_⟩
  refine List.forall_mem_cons.mpr ⟨s_getR (k := 9) K9 (by decide) (dd_X9_told (101, .getfield 25, 3) (List.mem_of_getElem? (i := 20) rfl)) ow_X9_told fl9_25 rfl, ?_⟩
  refine List.forall_mem_cons.mpr ⟨s_bipush (dd_X9_told (104, .bipush 15, 2) (List.mem_of_getElem? (i := 21) rfl)) rfl, ?_⟩
  refine List.forall_mem_cons.mpr ⟨s_iald (dd_X9_told (106, .iaload, 1) (List.mem_of_getElem? (i := 22) rfl)), ?_⟩
  refine List.forall_mem_cons.mpr ⟨Or.inr (Or.inl ⟨rfl, (dd_X9_told (107, .ireturn, 1) (List.mem_of_getElem? (i := 23) rfl)), rfl⟩), ?_⟩
  refine List.forall_mem_cons.mpr ⟨s_aload_n (dd_X9_told (108, .aload_n 0, 1) (List.mem_of_getElem? (i := 24) rfl)) rfl, ?_⟩
  refine List.forall_mem_cons.mpr ⟨s_getR (k := 9) K9 (by decide) (dd_X9_told (109, .getfield 25, 3) (List.mem_of_getElem? (i := 25) rfl)) ow_X9_told fl9_25 rfl, ?_⟩
  refine List.forall_mem_cons.mpr ⟨s_bipush (dd_X9_told (112, .bipush 16, 2) (List.mem_of_getElem? (i := 26) rfl)) rfl, ?_⟩
  refine List.forall_mem_cons.mpr ⟨s_iald (dd_X9_told (114, .iaload, 1) (List.mem_of_getElem? (i := 27) rfl)), ?_⟩
  refine List.forall_mem_cons.mpr ⟨Or.inr (Or.inl ⟨rfl, (dd_X9_told (115, .ireturn, 1) (List.mem_of_getElem? (i := 28) rfl)), rfl⟩), ?_⟩
  refine List.forall_mem_cons.mpr ⟨s_aload_n (dd_X9_told (116, .aload_n 0, 1) (List.mem_of_getElem? (i := 29) rfl)) rfl, ?_⟩
  refine List.forall_mem_cons.mpr ⟨⟨s_callV (ci := 9) rfl mo139 rfl rfl (dd_X9_told (117, .invokevirtual 189, 3) (List.mem_of_getElem? (i := 30) rfl)) ow_X9_told ml9_189 mi139 msl139 in_9 mn139, mo139⟩, ?_⟩
  refine List.forall_mem_cons.mpr ⟨Or.inr (Or.inl ⟨rfl, (dd_X9_told (120, .ireturn, 1) (List.mem_of_getElem? (i := 31) rfl)), rfl⟩), ?_⟩
  refine List.forall_mem_cons.mpr ⟨s_aload_n (dd_X9_told (121, .aload_n 0, 1) (List.mem_of_getElem? (i := 32) rfl)) rfl, ?_⟩
  refine List.forall_mem_cons.mpr ⟨⟨s_callV (ci := 9) rfl mo140 rfl rfl (dd_X9_told (122, .invokevirtual 192, 3) (List.mem_of_getElem? (i := 33) rfl)) ow_X9_told ml9_192 mi140 msl140 in_9 mn140, mo140⟩, ?_⟩
  refine List.forall_mem_cons.mpr ⟨Or.inr (Or.inl ⟨rfl, (dd_X9_told (125, .ireturn, 1) (List.mem_of_getElem? (i := 34) rfl)), rfl⟩), ?_⟩
  refine List.forall_mem_cons.mpr ⟨s_aload_n (dd_X9_told (126, .aload_n 0, 1) (List.mem_of_getElem? (i := 35) rfl)) rfl, ?_⟩
  refine List.forall_mem_cons.mpr ⟨⟨s_callV (ci := 9) rfl mo141 rfl rfl (dd_X9_told (127, .invokevirtual 195, 3) (List.mem_of_getElem? (i := 36) rfl)) ow_X9_told ml9_195 mi141 msl141 in_9 mn141, mo141⟩, ?_⟩
  refine List.forall_mem_cons.mpr ⟨Or.inr (Or.inl ⟨rfl, (dd_X9_told (130, .ireturn, 1) (List.mem_of_getElem? (i := 37) rfl)), rfl⟩), ?_⟩
  refine List.forall_mem_cons.mpr ⟨s_aload_n (dd_X9_told (131, .aload_n 0, 1) (List.mem_of_getElem? (i := 38) rfl)) rfl, ?_⟩
  refine List.forall_mem_cons.mpr ⟨⟨s_callV (ci := 9) rfl mo142 rfl rfl (dd_X9_told (132, .invokevirtual 198, 3) (List.mem_of_getElem? (i := 39) rfl)) ow_X9_told ml9_198 mi142 msl142 in_9 mn142, mo142⟩, ?_⟩
  refine List.forall_mem_cons.mpr ⟨Or.inr (Or.inl ⟨rfl, (dd_X9_told (135, .ireturn, 1) (List.mem_of_getElem? (i := 40) rfl)), rfl⟩), ?_⟩
  refine List.forall_mem_cons.mpr ⟨s_aload_n (dd_X9_told (136, .aload_n 0, 1) (List.mem_of_getElem? (i := 41) rfl)) rfl, ?_⟩
  refine List.forall_mem_cons.mpr ⟨s_getI (k := 32) K9 (by decide) (dd_X9_told (137, .getfield 169, 3) (List.mem_of_getElem? (i := 42) rfl)) ow_X9_told fl9_169 rfl, ?_⟩
  refine List.forall_mem_cons.mpr ⟨Or.inr (Or.inl ⟨rfl, (dd_X9_told (140, .ireturn, 1) (List.mem_of_getElem? (i := 43) rfl)), rfl⟩), ?_⟩
  refine List.forall_mem_cons.mpr ⟨s_aload_n (dd_X9_told (141, .aload_n 0, 1) (List.mem_of_getElem? (i := 44) rfl)) rfl, ?_⟩
  refine List.forall_mem_cons.mpr ⟨s_getI (k := 36) K9 (by decide) (dd_X9_told (142, .getfield 172, 3) (List.mem_of_getElem? (i := 45) rfl)) ow_X9_told fl9_172 rfl, ?_⟩
  refine List.forall_mem_cons.mpr ⟨Or.inr (Or.inl ⟨rfl, (dd_X9_told (145, .ireturn, 1) (List.mem_of_getElem? (i := 46) rfl)), rfl⟩), ?_⟩
  refine List.forall_mem_cons.mpr ⟨s_aload_n (dd_X9_told (146, .aload_n 0, 1) (List.mem_of_getElem? (i := 47) rfl)) rfl, ?_⟩
  refine List.forall_mem_cons.mpr ⟨s_getI (k := 26) K9 (by decide) (dd_X9_told (147, .getfield 175, 3) (List.mem_of_getElem? (i := 48) rfl)) ow_X9_told fl9_175 rfl, ?_⟩
  refine List.forall_mem_cons.mpr ⟨Or.inr (Or.inl ⟨rfl, (dd_X9_told (150, .ireturn, 1) (List.mem_of_getElem? (i := 49) rfl)), rfl⟩), ?_⟩
  refine List.forall_mem_cons.mpr ⟨s_ldc (dd_X9_told (151, .ldc 103, 2) (List.mem_of_getElem? (i := 50) rfl)) ow_X9_told ki9_103, ?_⟩
  refine List.forall_mem_cons.mpr ⟨Or.inr (Or.inl ⟨rfl, (dd_X9_told (153, .ireturn, 1) (List.mem_of_getElem? (i := 51) rfl)), rfl⟩), ?_⟩
  exact fun _ h => absurd h List.not_mem_nil
theorem ow_X9_child : (mtJ 144).1.cls = "SatchelSinsModel" := rfl
def D_X9_child : List (Nat × Instr × Nat) := [(0, .aload_n 0, 1), (1, .iload_n 1, 1), (2, .invokevirtual 201, 3), (5, .ifCond .ne 6, 3), (8, .ldc 205, 2), (10, .ireturn, 1), (11, .iload_n 2, 1), (12, .tableswitch 105 0 7 #[48, 55, 62, 68, 74, 81, 88, 98], 48), (60, .aload_n 0, 1), (61, .getfield 7, 3), (64, .iload_n 1, 1), (65, .iaload, 1), (66, .ireturn, 1), (67, .aload_n 0, 1), (68, .getfield 13, 3), (71, .iload_n 1, 1), (72, .iaload, 1), (73, .ireturn, 1), (74, .aload_n 0, 1), (75, .iload_n 1, 1), (76, .invokevirtual 182, 3), (79, .ireturn, 1), (80, .aload_n 0, 1), (81, .iload_n 1, 1), (82, .invokevirtual 186, 3), (85, .ireturn, 1), (86, .aload_n 0, 1), (87, .iconst 1, 1), (88, .iload_n 1, 1), (89, .invokevirtual 206, 3), (92, .ireturn, 1), (93, .aload_n 0, 1), (94, .iconst 3, 1), (95, .iload_n 1, 1), (96, .invokevirtual 206, 3), (99, .ireturn, 1), (100, .aload_n 0, 1), (101, .getfield 25, 3), (104, .bipush 17, 2), (106, .iload_n 1, 1), (107, .iadd, 1), (108, .iaload, 1), (109, .ireturn, 1), (110, .aload_n 0, 1), (111, .getfield 16, 3), (114, .iload_n 1, 1), (115, .iaload, 1), (116, .ireturn, 1), (117, .ldc 103, 2), (119, .ireturn, 1)]
theorem dd_X9_child : ∀ e ∈ D_X9_child, decode (mtJ 144).2.1 e.1 = .ok e.2 := by decide +kernel
set_option maxRecDepth 10000 in
theorem so_X9_child : ∀ e ∈ o_X9_child, SndO 144 e.1 e.2 := by
  refine List.forall_mem_cons.mpr ⟨s_aload_n (dd_X9_child (0, .aload_n 0, 1) (List.mem_of_getElem? (i := 0) rfl)) rfl, ?_⟩
  refine List.forall_mem_cons.mpr ⟨s_iload_n (dd_X9_child (1, .iload_n 1, 1) (List.mem_of_getElem? (i := 1) rfl)) rfl, ?_⟩
  refine List.forall_mem_cons.mpr ⟨⟨s_callV (ci := 9) rfl mo120 rfl rfl (dd_X9_child (2, .invokevirtual 201, 3) (List.mem_of_getElem? (i := 2) rfl)) ow_X9_child ml9_201 mi120 msl120 in_9 mn120, mo120⟩, ?_⟩
  refine List.forall_mem_cons.mpr ⟨s_if_ne (dd_X9_child (5, .ifCond .ne 6, 3) (List.mem_of_getElem? (i := 3) rfl)) (by decide), ?_⟩
  refine List.forall_mem_cons.mpr ⟨s_ldc (dd_X9_child (8, .ldc 205, 2) (List.mem_of_getElem? (i := 4) rfl)) ow_X9_child ki9_205, ?_⟩
  refine List.forall_mem_cons.mpr ⟨Or.inr (Or.inl ⟨rfl, (dd_X9_child (10, .ireturn, 1) (List.mem_of_getElem? (i := 5) rfl)), rfl⟩), ?_⟩
  refine List.forall_mem_cons.mpr ⟨s_iload_n (dd_X9_child (11, .iload_n 2, 1) (List.mem_of_getElem? (i := 6) rfl)) rfl, ?_⟩
  refine List.forall_mem_cons.mpr ⟨s_tsw (dd_X9_child (12, .tableswitch 105 0 7 #[48, 55, 62, 68, 74, 81, 88, 98], 48) (List.mem_of_getElem? (i := 7) rfl)) (by decide) (by decide) (by decide), ?_⟩
  refine List.forall_mem_cons.mpr ⟨s_aload_n (dd_X9_child (60, .aload_n 0, 1) (List.mem_of_getElem? (i := 8) rfl)) rfl, ?_⟩
  refine List.forall_mem_cons.mpr ⟨s_getR (k := 3) K9 (by decide) (dd_X9_child (61, .getfield 7, 3) (List.mem_of_getElem? (i := 9) rfl)) ow_X9_child fl9_7 rfl, ?_⟩
  refine List.forall_mem_cons.mpr ⟨s_iload_n (dd_X9_child (64, .iload_n 1, 1) (List.mem_of_getElem? (i := 10) rfl)) rfl, ?_⟩
  refine List.forall_mem_cons.mpr ⟨s_iald (dd_X9_child (65, .iaload, 1) (List.mem_of_getElem? (i := 11) rfl)), ?_⟩
  refine List.forall_mem_cons.mpr ⟨Or.inr (Or.inl ⟨rfl, (dd_X9_child (66, .ireturn, 1) (List.mem_of_getElem? (i := 12) rfl)), rfl⟩), ?_⟩
  refine List.forall_mem_cons.mpr ⟨s_aload_n (dd_X9_child (67, .aload_n 0, 1) (List.mem_of_getElem? (i := 13) rfl)) rfl, ?_⟩
  refine List.forall_mem_cons.mpr ⟨s_getR (k := 4) K9 (by decide) (dd_X9_child (68, .getfield 13, 3) (List.mem_of_getElem? (i := 14) rfl)) ow_X9_child fl9_13 rfl, ?_⟩
  refine List.forall_mem_cons.mpr ⟨s_iload_n (dd_X9_child (71, .iload_n 1, 1) (List.mem_of_getElem? (i := 15) rfl)) rfl, ?_⟩
  refine List.forall_mem_cons.mpr ⟨s_iald (dd_X9_child (72, .iaload, 1) (List.mem_of_getElem? (i := 16) rfl)), ?_⟩
  refine List.forall_mem_cons.mpr ⟨Or.inr (Or.inl ⟨rfl, (dd_X9_child (73, .ireturn, 1) (List.mem_of_getElem? (i := 17) rfl)), rfl⟩), ?_⟩
  refine List.forall_mem_cons.mpr ⟨s_aload_n (dd_X9_child (74, .aload_n 0, 1) (List.mem_of_getElem? (i := 18) rfl)) rfl, ?_⟩
  refine List.forall_mem_cons.mpr ⟨s_iload_n (dd_X9_child (75, .iload_n 1, 1) (List.mem_of_getElem? (i := 19) rfl)) rfl, ?_⟩
  refine List.forall_mem_cons.mpr ⟨⟨s_callV (ci := 9) rfl mo137 rfl rfl (dd_X9_child (76, .invokevirtual 182, 3) (List.mem_of_getElem? (i := 20) rfl)) ow_X9_child ml9_182 mi137 msl137 in_9 mn137, mo137⟩, ?_⟩
  refine List.forall_mem_cons.mpr ⟨Or.inr (Or.inl ⟨rfl, (dd_X9_child (79, .ireturn, 1) (List.mem_of_getElem? (i := 21) rfl)), rfl⟩), ?_⟩
  refine List.forall_mem_cons.mpr ⟨s_aload_n (dd_X9_child (80, .aload_n 0, 1) (List.mem_of_getElem? (i := 22) rfl)) rfl, ?_⟩
  refine List.forall_mem_cons.mpr ⟨s_iload_n (dd_X9_child (81, .iload_n 1, 1) (List.mem_of_getElem? (i := 23) rfl)) rfl, ?_⟩
  refine List.forall_mem_cons.mpr ⟨⟨s_callV (ci := 9) rfl mo138 rfl rfl (dd_X9_child (82, .invokevirtual 186, 3) (List.mem_of_getElem? (i := 24) rfl)) ow_X9_child ml9_186 mi138 msl138 in_9 mn138, mo138⟩, ?_⟩
  refine List.forall_mem_cons.mpr ⟨Or.inr (Or.inl ⟨rfl, (dd_X9_child (85, .ireturn, 1) (List.mem_of_getElem? (i := 25) rfl)), rfl⟩), ?_⟩
  refine List.forall_mem_cons.mpr ⟨s_aload_n (dd_X9_child (86, .aload_n 0, 1) (List.mem_of_getElem? (i := 26) rfl)) rfl, ?_⟩
  refine List.forall_mem_cons.mpr ⟨s_iconst (dd_X9_child (87, .iconst 1, 1) (List.mem_of_getElem? (i := 27) rfl)) rfl, ?_⟩
  refine List.forall_mem_cons.mpr ⟨s_iload_n (dd_X9_child (88, .iload_n 1, 1) (List.mem_of_getElem? (i := 28) rfl)) rfl, ?_⟩
  refine List.forall_mem_cons.mpr ⟨⟨s_callV (ci := 9) rfl mo136 rfl rfl (dd_X9_child (89, .invokevirtual 206, 3) (List.mem_of_getElem? (i := 29) rfl)) ow_X9_child ml9_206 mi136 msl136 in_9 mn136, mo136⟩, ?_⟩
  refine List.forall_mem_cons.mpr ⟨Or.inr (Or.inl ⟨rfl, (dd_X9_child (92, .ireturn, 1) (List.mem_of_getElem? (i := 30) rfl)), rfl⟩), ?_⟩
  refine List.forall_mem_cons.mpr ⟨s_aload_n (dd_X9_child (93, .aload_n 0, 1) (List.mem_of_getElem? (i := 31) rfl)) rfl, ?_⟩
  refine List.forall_mem_cons.mpr ⟨s_iconst (dd_X9_child (94, .iconst 3, 1) (List.mem_of_getElem? (i := 32) rfl)) rfl, ?_⟩
  refine List.forall_mem_cons.mpr ⟨s_iload_n (dd_X9_child (95, .iload_n 1, 1) (List.mem_of_getElem? (i := 33) rfl)) rfl, ?_⟩
  refine List.forall_mem_cons.mpr ⟨⟨s_callV (ci := 9) rfl mo136 rfl rfl (dd_X9_child (96, .invokevirtual 206, 3) (List.mem_of_getElem? (i := 34) rfl)) ow_X9_child ml9_206 mi136 msl136 in_9 mn136, mo136⟩, ?_⟩
  refine List.forall_mem_cons.mpr ⟨Or.inr (Or.inl ⟨rfl, (dd_X9_child (99, .ireturn, 1) (List.mem_of_getElem? (i := 35) rfl)), rfl⟩), ?_⟩
  refine List.forall_mem_cons.mpr ⟨s_aload_n (dd_X9_child (100, .aload_n 0, 1) (List.mem_of_getElem? (i := 36) rfl)) rfl, ?_⟩
  refine List.forall_mem_cons.mpr ⟨s_getR (k := 9) K9 (by decide) (dd_X9_child (101, .getfield 25, 3) (List.mem_of_getElem? (i := 37) rfl)) ow_X9_child fl9_25 rfl, ?_⟩
  refine List.forall_mem_cons.mpr ⟨s_bipush (dd_X9_child (104, .bipush 17, 2) (List.mem_of_getElem? (i := 38) rfl)) rfl, ?_⟩
  refine List.forall_mem_cons.mpr ⟨s_iload_n (dd_X9_child (106, .iload_n 1, 1) (List.mem_of_getElem? (i := 39) rfl)) rfl, ?_⟩
  refine List.forall_mem_cons.mpr ⟨s_iadd (dd_X9_child (107, .iadd, 1) (List.mem_of_getElem? (i := 40) rfl)), ?_⟩
  refine List.forall_mem_cons.mpr ⟨s_iald (dd_X9_child (108, .iaload, 1) (List.mem_of_getElem? (i := 41) rfl)), ?_⟩
  refine List.forall_mem_cons.mpr ⟨Or.inr (Or.inl ⟨rfl, (dd_X9_child (109, .ireturn, 1) (List.mem_of_getElem? (i := 42) rfl)), rfl⟩), ?_⟩
  refine List.forall_mem_cons.mpr ⟨s_aload_n (dd_X9_child (110, .aload_n 0, 1) (List.mem_of_getElem? (i := 43) rfl)) rfl, ?_⟩
  refine List.forall_mem_cons.mpr ⟨s_getR (k := 5) K9 (by decide) (dd_X9_child (111, .getfield 16, 3) (List.mem_of_getElem? (i := 44) rfl)) ow_X9_child fl9_16 rfl, ?_⟩
  refine List.forall_mem_cons.mpr ⟨s_iload_n (dd_X9_child (114, .iload_n 1, 1) (List.mem_of_getElem? (i := 45) rfl)) rfl, ?_⟩
  refine List.forall_mem_cons.mpr ⟨s_iald (dd_X9_child (115, .iaload, 1) (List.mem_of_getElem? (i := 46) rfl)), ?_⟩
  refine List.forall_mem_cons.mpr ⟨Or.inr (Or.inl ⟨rfl, (dd_X9_child (116, .ireturn, 1) (List.mem_of_getElem? (i := 47) rfl)), rfl⟩), ?_⟩
  refine List.forall_mem_cons.mpr ⟨s_ldc (dd_X9_child (117, .ldc 103, 2) (List.mem_of_getElem? (i := 48) rfl)) ow_X9_child ki9_103, ?_⟩
  refine List.forall_mem_cons.mpr ⟨Or.inr (Or.inl ⟨rfl, (dd_X9_child (119, .ireturn, 1) (List.mem_of_getElem? (i := 49) rfl)), rfl⟩), ?_⟩
  exact fun _ h => absurd h List.not_mem_nil
theorem ow_X9_deed : (mtJ 145).1.cls = "SatchelSinsModel" := rfl
def D_X9_deed : List (Nat × Instr × Nat) := [(0, .aload_n 0, 1), (1, .iload_n 1, 1), (2, .invokevirtual 209, 3), (5, .ifCond .ne 6, 3), (8, .ldc 205, 2), (10, .ireturn, 1), (11, .iload_n 2, 1), (12, .tableswitch 63 0 3 #[32, 39, 46, 53], 32), (44, .aload_n 0, 1), (45, .getfield 19, 3), (48, .iload_n 1, 1), (49, .iaload, 1), (50, .ireturn, 1), (51, .aload_n 0, 1), (52, .getfield 22, 3), (55, .iload_n 1, 1), (56, .iaload, 1), (57, .ireturn, 1), (58, .aload_n 0, 1), (59, .getfield 25, 3), (62, .iload_n 1, 1), (63, .iaload, 1), (64, .ireturn, 1), (65, .aload_n 0, 1), (66, .getfield 25, 3), (69, .bipush 7, 2), (71, .iload_n 1, 1), (72, .iadd, 1), (73, .iaload, 1), (74, .ireturn, 1), (75, .ldc 103, 2), (77, .ireturn, 1)]
theorem dd_X9_deed : ∀ e ∈ D_X9_deed, decode (mtJ 145).2.1 e.1 = .ok e.2 := by decide +kernel
set_option maxRecDepth 10000 in
theorem so_X9_deed : ∀ e ∈ o_X9_deed, SndO 145 e.1 e.2 := by
  refine List.forall_mem_cons.mpr ⟨s_aload_n (dd_X9_deed (0, .aload_n 0, 1) (List.mem_of_getElem? (i := 0) rfl)) rfl, ?_⟩
  refine List.forall_mem_cons.mpr ⟨s_iload_n (dd_X9_deed (1, .iload_n 1, 1) (List.mem_of_getElem? (i := 1) rfl)) rfl, ?_⟩
  refine List.forall_mem_cons.mpr ⟨⟨s_callV (ci := 9) rfl mo121 rfl rfl (dd_X9_deed (2, .invokevirtual 209, 3) (List.mem_of_getElem? (i := 2) rfl)) ow_X9_deed ml9_209 mi121 msl121 in_9 mn121, mo121⟩, ?_⟩
  refine List.forall_mem_cons.mpr ⟨s_if_ne (dd_X9_deed (5, .ifCond .ne 6, 3) (List.mem_of_getElem? (i := 3) rfl)) (by decide), ?_⟩
  refine List.forall_mem_cons.mpr ⟨s_ldc (dd_X9_deed (8, .ldc 205, 2) (List.mem_of_getElem? (i := 4) rfl)) ow_X9_deed ki9_205, ?_⟩
  refine List.forall_mem_cons.mpr ⟨Or.inr (Or.inl ⟨rfl, (dd_X9_deed (10, .ireturn, 1) (List.mem_of_getElem? (i := 5) rfl)), rfl⟩), ?_⟩
  refine List.forall_mem_cons.mpr ⟨s_iload_n (dd_X9_deed (11, .iload_n 2, 1) (List.mem_of_getElem? (i := 6) rfl)) rfl, ?_⟩
  refine List.forall_mem_cons.mpr ⟨s_tsw (dd_X9_deed (12, .tableswitch 63 0 3 #[32, 39, 46, 53], 32) (List.mem_of_getElem? (i := 7) rfl)) (by decide) (by decide) (by decide), ?_⟩
  refine List.forall_mem_cons.mpr ⟨s_aload_n (dd_X9_deed (44, .aload_n 0, 1) (List.mem_of_getElem? (i := 8) rfl)) rfl, ?_⟩
  refine List.forall_mem_cons.mpr ⟨s_getR (k := 7) K9 (by decide) (dd_X9_deed (45, .getfield 19, 3) (List.mem_of_getElem? (i := 9) rfl)) ow_X9_deed fl9_19 rfl, ?_⟩
  refine List.forall_mem_cons.mpr ⟨s_iload_n (dd_X9_deed (48, .iload_n 1, 1) (List.mem_of_getElem? (i := 10) rfl)) rfl, ?_⟩
  refine List.forall_mem_cons.mpr ⟨s_iald (dd_X9_deed (49, .iaload, 1) (List.mem_of_getElem? (i := 11) rfl)), ?_⟩
  refine List.forall_mem_cons.mpr ⟨Or.inr (Or.inl ⟨rfl, (dd_X9_deed (50, .ireturn, 1) (List.mem_of_getElem? (i := 12) rfl)), rfl⟩), ?_⟩
  refine List.forall_mem_cons.mpr ⟨s_aload_n (dd_X9_deed (51, .aload_n 0, 1) (List.mem_of_getElem? (i := 13) rfl)) rfl, ?_⟩
  refine List.forall_mem_cons.mpr ⟨s_getR (k := 8) K9 (by decide) (dd_X9_deed (52, .getfield 22, 3) (List.mem_of_getElem? (i := 14) rfl)) ow_X9_deed fl9_22 rfl, ?_⟩
  refine List.forall_mem_cons.mpr ⟨s_iload_n (dd_X9_deed (55, .iload_n 1, 1) (List.mem_of_getElem? (i := 15) rfl)) rfl, ?_⟩
  refine List.forall_mem_cons.mpr ⟨s_iald (dd_X9_deed (56, .iaload, 1) (List.mem_of_getElem? (i := 16) rfl)), ?_⟩
  refine List.forall_mem_cons.mpr ⟨Or.inr (Or.inl ⟨rfl, (dd_X9_deed (57, .ireturn, 1) (List.mem_of_getElem? (i := 17) rfl)), rfl⟩), ?_⟩
  refine List.forall_mem_cons.mpr ⟨s_aload_n (dd_X9_deed (58, .aload_n 0, 1) (List.mem_of_getElem? (i := 18) rfl)) rfl, ?_⟩
  refine List.forall_mem_cons.mpr ⟨s_getR (k := 9) K9 (by decide) (dd_X9_deed (59, .getfield 25, 3) (List.mem_of_getElem? (i := 19) rfl)) ow_X9_deed fl9_25 rfl, ?_⟩
  refine List.forall_mem_cons.mpr ⟨s_iload_n (dd_X9_deed (62, .iload_n 1, 1) (List.mem_of_getElem? (i := 20) rfl)) rfl, ?_⟩
  refine List.forall_mem_cons.mpr ⟨s_iald (dd_X9_deed (63, .iaload, 1) (List.mem_of_getElem? (i := 21) rfl)), ?_⟩
  refine List.forall_mem_cons.mpr ⟨Or.inr (Or.inl ⟨rfl, (dd_X9_deed (64, .ireturn, 1) (List.mem_of_getElem? (i := 22) rfl)), rfl⟩), ?_⟩
  refine List.forall_mem_cons.mpr ⟨s_aload_n (dd_X9_deed (65, .aload_n 0, 1) (List.mem_of_getElem? (i := 23) rfl)) rfl, ?_⟩
  refine List.forall_mem_cons.mpr ⟨s_getR (k := 9) K9 (by decide) (dd_X9_deed (66, .getfield 25, 3) (List.mem_of_getElem? (i := 24) rfl)) ow_X9_deed fl9_25 rfl, ?_⟩
  refine List.forall_mem_cons.mpr ⟨s_bipush (dd_X9_deed (69, .bipush 7, 2) (List.mem_of_getElem? (i := 25) rfl)) rfl, ?_⟩
  refine List.forall_mem_cons.mpr ⟨s_iload_n (dd_X9_deed (71, .iload_n 1, 1) (List.mem_of_getElem? (i := 26) rfl)) rfl, ?_⟩
  refine List.forall_mem_cons.mpr ⟨s_iadd (dd_X9_deed (72, .iadd, 1) (List.mem_of_getElem? (i := 27) rfl)), ?_⟩
  refine List.forall_mem_cons.mpr ⟨s_iald (dd_X9_deed (73, .iaload, 1) (List.mem_of_getElem? (i := 28) rfl)), ?_⟩
  refine List.forall_mem_cons.mpr ⟨Or.inr (Or.inl ⟨rfl, (dd_X9_deed (74, .ireturn, 1) (List.mem_of_getElem? (i := 29) rfl)), rfl⟩), ?_⟩
  refine List.forall_mem_cons.mpr ⟨s_ldc (dd_X9_deed (75, .ldc 103, 2) (List.mem_of_getElem? (i := 30) rfl)) ow_X9_deed ki9_103, ?_⟩
  refine List.forall_mem_cons.mpr ⟨Or.inr (Or.inl ⟨rfl, (dd_X9_deed (77, .ireturn, 1) (List.mem_of_getElem? (i := 31) rfl)), rfl⟩), ?_⟩
  exact fun _ h => absurd h List.not_mem_nil
theorem ow_X9_remember : (mtJ 146).1.cls = "SatchelSinsModel" := rfl
def D_X9_remember : List (Nat × Instr × Nat) := [(0, .aload_n 0, 1), (1, .getfield 175, 3), (4, .bipush 20, 2), (6, .if_icmp .ne 44, 3), (9, .bipush 22, 2), (11, .istore_n 1, 1), (12, .iload_n 1, 1), (13, .sipush 440, 3), (16, .if_icmp .ge 24, 3), (19, .aload_n 0, 1), (20, .getfield 50, 3), (23, .iload_n 1, 1), (24, .bipush 22, 2), (26, .isub, 1), (27, .aload_n 0, 1), (28, .getfield 50, 3), (31, .iload_n 1, 1), (32, .iaload, 1), (33, .iastore, 1), (34, .iinc 1 1, 3), (37, .goto (-25), 3), (40, .aload_n 0, 1), (41, .dup, 1), (42, .getfield 175, 3), (45, .iconst 1, 1), (46, .isub, 1), (47, .putfield 175, 3), (50, .iconst 0, 1), (51, .istore_n 1, 1), (52, .iload_n 1, 1), (53, .bipush 22, 2), (55, .if_icmp .ge 29, 3), (58, .aload_n 0, 1), (59, .getfield 50, 3), (62, .bipush 22, 2), (64, .aload_n 0, 1), (65, .getfield 175, 3), (68, .imul, 1), (69, .iload_n 1, 1), (70, .iadd, 1), (71, .aload_n 0, 1), (72, .getfield 25, 3), (75, .iload_n 1, 1), (76, .iaload, 1), (77, .iastore, 1), (78, .iinc 1 1, 3), (81, .goto (-29), 3), (84, .aload_n 0, 1), (85, .dup, 1), (86, .getfield 175, 3), (89, .iconst 1, 1), (90, .iadd, 1), (91, .putfield 175, 3), (94, .return_, 1)]
theorem dd_X9_remember : ∀ e ∈ D_X9_remember, decode (mtJ 146).2.1 e.1 = .ok e.2 := by decide +kernel
set_option maxRecDepth 10000 in
theorem so_X9_remember : ∀ e ∈ o_X9_remember, SndO 146 e.1 e.2 := by
  refine List.forall_mem_cons.mpr ⟨s_aload_n (dd_X9_remember (0, .aload_n 0, 1) (List.mem_of_getElem? (i := 0) rfl)) rfl, ?_⟩
  refine List.forall_mem_cons.mpr ⟨s_getI (k := 26) K9 (by decide) (dd_X9_remember (1, .getfield 175, 3) (List.mem_of_getElem? (i := 1) rfl)) ow_X9_remember fl9_175 rfl, ?_⟩
  refine List.forall_mem_cons.mpr ⟨s_bipush (dd_X9_remember (4, .bipush 20, 2) (List.mem_of_getElem? (i := 2) rfl)) rfl, ?_⟩
  refine List.forall_mem_cons.mpr ⟨s_icmp_ne (dd_X9_remember (6, .if_icmp .ne 44, 3) (List.mem_of_getElem? (i := 3) rfl)) (by decide), ?_⟩
  refine List.forall_mem_cons.mpr ⟨s_bipush (dd_X9_remember (9, .bipush 22, 2) (List.mem_of_getElem? (i := 4) rfl)) rfl, ?_⟩
  refine List.forall_mem_cons.mpr ⟨s_istore_n (dd_X9_remember (11, .istore_n 1, 1) (List.mem_of_getElem? (i := 5) rfl)) rfl, ?_⟩
  refine List.forall_mem_cons.mpr ⟨s_iload_n (dd_X9_remember (12, .iload_n 1, 1) (List.mem_of_getElem? (i := 6) rfl)) rfl, ?_⟩
  refine List.forall_mem_cons.mpr ⟨s_sipush (dd_X9_remember (13, .sipush 440, 3) (List.mem_of_getElem? (i := 7) rfl)) rfl, ?_⟩
  refine List.forall_mem_cons.mpr ⟨s_icmp_ge (dd_X9_remember (16, .if_icmp .ge 24, 3) (List.mem_of_getElem? (i := 8) rfl)) (by decide), ?_⟩
  refine List.forall_mem_cons.mpr ⟨s_aload_n (dd_X9_remember (19, .aload_n 0, 1) (List.mem_of_getElem? (i := 9) rfl)) rfl, ?_⟩
  refine List.forall_mem_cons.mpr ⟨s_getR (k := 27) K9 (by decide) (dd_X9_remember (20, .getfield 50, 3) (List.mem_of_getElem? (i := 10) rfl)) ow_X9_remember fl9_50 rfl, ?_⟩
  refine List.forall_mem_cons.mpr ⟨s_iload_n (dd_X9_remember (23, .iload_n 1, 1) (List.mem_of_getElem? (i := 11) rfl)) rfl, ?_⟩
  refine List.forall_mem_cons.mpr ⟨s_bipush (dd_X9_remember (24, .bipush 22, 2) (List.mem_of_getElem? (i := 12) rfl)) rfl, ?_⟩
  refine List.forall_mem_cons.mpr ⟨s_isub (dd_X9_remember (26, .isub, 1) (List.mem_of_getElem? (i := 13) rfl)), ?_⟩
  refine List.forall_mem_cons.mpr ⟨s_aload_n (dd_X9_remember (27, .aload_n 0, 1) (List.mem_of_getElem? (i := 14) rfl)) rfl, ?_⟩
  refine List.forall_mem_cons.mpr ⟨s_getR (k := 27) K9 (by decide) (dd_X9_remember (28, .getfield 50, 3) (List.mem_of_getElem? (i := 15) rfl)) ow_X9_remember fl9_50 rfl, ?_⟩
  refine List.forall_mem_cons.mpr ⟨s_iload_n (dd_X9_remember (31, .iload_n 1, 1) (List.mem_of_getElem? (i := 16) rfl)) rfl, ?_⟩
  refine List.forall_mem_cons.mpr ⟨s_iald (dd_X9_remember (32, .iaload, 1) (List.mem_of_getElem? (i := 17) rfl)), ?_⟩
  refine List.forall_mem_cons.mpr ⟨s_iast (dd_X9_remember (33, .iastore, 1) (List.mem_of_getElem? (i := 18) rfl)), ?_⟩
  refine List.forall_mem_cons.mpr ⟨s_iinc (dd_X9_remember (34, .iinc 1 1, 3) (List.mem_of_getElem? (i := 19) rfl)) rfl, ?_⟩
  refine List.forall_mem_cons.mpr ⟨s_goto (dd_X9_remember (37, .goto (-25), 3) (List.mem_of_getElem? (i := 20) rfl)) (by decide), ?_⟩
  refine List.forall_mem_cons.mpr ⟨s_aload_n (dd_X9_remember (40, .aload_n 0, 1) (List.mem_of_getElem? (i := 21) rfl)) rfl, ?_⟩
  refine List.forall_mem_cons.mpr ⟨s_dup (dd_X9_remember (41, .dup, 1) (List.mem_of_getElem? (i := 22) rfl)), ?_⟩
  refine List.forall_mem_cons.mpr ⟨s_getI (k := 26) K9 (by decide) (dd_X9_remember (42, .getfield 175, 3) (List.mem_of_getElem? (i := 23) rfl)) ow_X9_remember fl9_175 rfl, ?_⟩
  refine List.forall_mem_cons.mpr ⟨s_iconst (dd_X9_remember (45, .iconst 1, 1) (List.mem_of_getElem? (i := 24) rfl)) rfl, ?_⟩
  refine List.forall_mem_cons.mpr ⟨s_isub (dd_X9_remember (46, .isub, 1) (List.mem_of_getElem? (i := 25) rfl)), ?_⟩
  refine List.forall_mem_cons.mpr ⟨s_putI (k := 26) K9 (by decide) (dd_X9_remember (47, .putfield 175, 3) (List.mem_of_getElem? (i := 26) rfl)) ow_X9_remember fl9_175 (Or.inl rfl) rfl, ?_⟩
  refine List.forall_mem_cons.mpr ⟨s_iconst (dd_X9_remember (50, .iconst 0, 1) (List.mem_of_getElem? (i := 27) rfl)) rfl, ?_⟩
  refine List.forall_mem_cons.mpr ⟨s_istore_n (dd_X9_remember (51, .istore_n 1, 1) (List.mem_of_getElem? (i := 28) rfl)) rfl, ?_⟩
  refine List.forall_mem_cons.mpr ⟨s_iload_n (dd_X9_remember (52, .iload_n 1, 1) (List.mem_of_getElem? (i := 29) rfl)) rfl, ?_⟩
  refine List.forall_mem_cons.mpr ⟨s_bipush (dd_X9_remember (53, .bipush 22, 2) (List.mem_of_getElem? (i := 30) rfl)) rfl, ?_⟩
  refine List.forall_mem_cons.mpr ⟨s_icmp_ge (dd_X9_remember (55, .if_icmp .ge 29, 3) (List.mem_of_getElem? (i := 31) rfl)) (by decide), ?_⟩
  refine List.forall_mem_cons.mpr ⟨s_aload_n (dd_X9_remember (58, .aload_n 0, 1) (List.mem_of_getElem? (i := 32) rfl)) rfl, ?_⟩
  refine List.forall_mem_cons.mpr ⟨s_getR (k := 27) K9 (by decide) (dd_X9_remember (59, .getfield 50, 3) (List.mem_of_getElem? (i := 33) rfl)) ow_X9_remember fl9_50 rfl, ?_⟩
  refine List.forall_mem_cons.mpr ⟨s_bipush (dd_X9_remember (62, .bipush 22, 2) (List.mem_of_getElem? (i := 34) rfl)) rfl, ?_⟩
  refine List.forall_mem_cons.mpr ⟨s_aload_n (dd_X9_remember (64, .aload_n 0, 1) (List.mem_of_getElem? (i := 35) rfl)) rfl, ?_⟩
  refine List.forall_mem_cons.mpr ⟨s_getI (k := 26) K9 (by decide) (dd_X9_remember (65, .getfield 175, 3) (List.mem_of_getElem? (i := 36) rfl)) ow_X9_remember fl9_175 rfl, ?_⟩
  refine List.forall_mem_cons.mpr ⟨s_imul (dd_X9_remember (68, .imul, 1) (List.mem_of_getElem? (i := 37) rfl)), ?_⟩
  refine List.forall_mem_cons.mpr ⟨s_iload_n (dd_X9_remember (69, .iload_n 1, 1) (List.mem_of_getElem? (i := 38) rfl)) rfl, ?_⟩
  refine List.forall_mem_cons.mpr ⟨s_iadd (dd_X9_remember (70, .iadd, 1) (List.mem_of_getElem? (i := 39) rfl)), ?_⟩
  refine List.forall_mem_cons.mpr ⟨s_aload_n (dd_X9_remember (71, .aload_n 0, 1) (List.mem_of_getElem? (i := 40) rfl)) rfl, ?_⟩
  refine List.forall_mem_cons.mpr ⟨s_getR (k := 9) K9 (by decide) (dd_X9_remember (72, .getfield 25, 3) (List.mem_of_getElem? (i := 41) rfl)) ow_X9_remember fl9_25 rfl, ?_⟩
  refine List.forall_mem_cons.mpr ⟨s_iload_n (dd_X9_remember (75, .iload_n 1, 1) (List.mem_of_getElem? (i := 42) rfl)) rfl, ?_⟩
  refine List.forall_mem_cons.mpr ⟨s_iald (dd_X9_remember (76, .iaload, 1) (List.mem_of_getElem? (i := 43) rfl)), ?_⟩
  refine List.forall_mem_cons.mpr ⟨s_iast (dd_X9_remember (77, .iastore, 1) (List.mem_of_getElem? (i := 44) rfl)), ?_⟩
  refine List.forall_mem_cons.mpr ⟨s_iinc (dd_X9_remember (78, .iinc 1 1, 3) (List.mem_of_getElem? (i := 45) rfl)) rfl, ?_⟩
  refine List.forall_mem_cons.mpr ⟨s_goto (dd_X9_remember (81, .goto (-29), 3) (List.mem_of_getElem? (i := 46) rfl)) (by decide), ?_⟩
  refine List.forall_mem_cons.mpr ⟨s_aload_n (dd_X9_remember (84, .aload_n 0, 1) (List.mem_of_getElem? (i := 47) rfl)) rfl, ?_⟩
  refine List.forall_mem_cons.mpr ⟨s_dup (dd_X9_remember (85, .dup, 1) (List.mem_of_getElem? (i := 48) rfl)), ?_⟩
  refine List.forall_mem_cons.mpr ⟨s_getI (k := 26) K9 (by decide) (dd_X9_remember (86, .getfield 175, 3) (List.mem_of_getElem? (i := 49) rfl)) ow_X9_remember fl9_175 rfl, ?_⟩
  refine List.forall_mem_cons.mpr ⟨s_iconst (dd_X9_remember (89, .iconst 1, 1) (List.mem_of_getElem? (i := 50) rfl)) rfl, ?_⟩
  refine List.forall_mem_cons.mpr ⟨s_iadd (dd_X9_remember (90, .iadd, 1) (List.mem_of_getElem? (i := 51) rfl)), ?_⟩
  refine List.forall_mem_cons.mpr ⟨s_putI (k := 26) K9 (by decide) (dd_X9_remember (91, .putfield 175, 3) (List.mem_of_getElem? (i := 52) rfl)) ow_X9_remember fl9_175 (Or.inl rfl) rfl, ?_⟩
  refine List.forall_mem_cons.mpr ⟨Or.inl ⟨rfl, (dd_X9_remember (94, .return_, 1) (List.mem_of_getElem? (i := 53) rfl)), rfl⟩, ?_⟩
  exact fun _ h => absurd h List.not_mem_nil
theorem ow_X9_lay : (mtJ 147).1.cls = "SatchelSinsModel" := rfl
def D_X9_lay : List (Nat × Instr × Nat) := [(0, .aload_n 0, 1), (1, .getfield 25, 3), (4, .iload_n 1, 1), (5, .iload_n 2, 1), (6, .iastore, 1), (7, .aload_n 0, 1), (8, .getfield 25, 3), (11, .bipush 7, 2), (13, .iload_n 1, 1), (14, .iadd, 1), (15, .iload_n 3, 1), (16, .iastore, 1), (17, .return_, 1)]
theorem dd_X9_lay : ∀ e ∈ D_X9_lay, decode (mtJ 147).2.1 e.1 = .ok e.2 := by decide +kernel
set_option maxRecDepth 10000 in
theorem so_X9_lay : ∀ e ∈ o_X9_lay, SndO 147 e.1 e.2 := by
  refine List.forall_mem_cons.mpr ⟨s_aload_n (dd_X9_lay (0, .aload_n 0, 1) (List.mem_of_getElem? (i := 0) rfl)) rfl, ?_⟩
  refine List.forall_mem_cons.mpr ⟨s_getR (k := 9) K9 (by decide) (dd_X9_lay (1, .getfield 25, 3) (List.mem_of_getElem? (i := 1) rfl)) ow_X9_lay fl9_25 rfl, ?_⟩
  refine List.forall_mem_cons.mpr ⟨s_iload_n (dd_X9_lay (4, .iload_n 1, 1) (List.mem_of_getElem? (i := 2) rfl)) rfl, ?_⟩
  refine List.forall_mem_cons.mpr ⟨s_iload_n (dd_X9_lay (5, .iload_n 2, 1) (List.mem_of_getElem? (i := 3) rfl)) rfl, ?_⟩
  refine List.forall_mem_cons.mpr ⟨s_iast (dd_X9_lay (6, .iastore, 1) (List.mem_of_getElem? (i := 4) rfl)), ?_⟩
  refine List.forall_mem_cons.mpr ⟨s_aload_n (dd_X9_lay (7, .aload_n 0, 1) (List.mem_of_getElem? (i := 5) rfl)) rfl, ?_⟩
  refine List.forall_mem_cons.mpr ⟨s_getR (k := 9) K9 (by decide) (dd_X9_lay (8, .getfield 25, 3) (List.mem_of_getElem? (i := 6) rfl)) ow_X9_lay fl9_25 rfl, ?_⟩
  refine List.forall_mem_cons.mpr ⟨s_bipush (dd_X9_lay (11, .bipush 7, 2) (List.mem_of_getElem? (i := 7) rfl)) rfl, ?_⟩
  refine List.forall_mem_cons.mpr ⟨s_iload_n (dd_X9_lay (13, .iload_n 1, 1) (List.mem_of_getElem? (i := 8) rfl)) rfl, ?_⟩
  refine List.forall_mem_cons.mpr ⟨s_iadd (dd_X9_lay (14, .iadd, 1) (List.mem_of_getElem? (i := 9) rfl)), ?_⟩
  refine List.forall_mem_cons.mpr ⟨s_iload_n (dd_X9_lay (15, .iload_n 3, 1) (List.mem_of_getElem? (i := 10) rfl)) rfl, ?_⟩
  refine List.forall_mem_cons.mpr ⟨s_iast (dd_X9_lay (16, .iastore, 1) (List.mem_of_getElem? (i := 11) rfl)), ?_⟩
  refine List.forall_mem_cons.mpr ⟨Or.inl ⟨rfl, (dd_X9_lay (17, .return_, 1) (List.mem_of_getElem? (i := 12) rfl)), rfl⟩, ?_⟩
  exact fun _ h => absurd h List.not_mem_nil
theorem ow_X9_doIt : (mtJ 148).1.cls = "SatchelSinsModel" := rfl
def D_X9_doIt : List (Nat × Instr × Nat) := [(0, .aload_n 0, 1), (1, .iload_n 1, 1), (2, .invokevirtual 209, 3), (5, .ifCond .ne 6, 3), (8, .ldc 205, 2), (10, .ireturn, 1), (11, .aload_n 0, 1), (12, .getfield 25, 3), (15, .iload_n 1, 1), (16, .iaload, 1), (17, .ifCond .eq 6, 3), (20, .ldc 212, 2), (22, .ireturn, 1), (23, .aload_n 0, 1), (24, .invokevirtual 213, 3), (27, .aload_n 0, 1), (28, .iload_n 1, 1), (29, .iconst 1, 1), (30, .aload_n 0, 1), (31, .getfield 19, 3), (34, .iload_n 1, 1), (35, .iaload, 1), (36, .invokevirtual 216, 3), (39, .aload_n 0, 1), (40, .aload_n 0, 1), (41, .getfield 19, 3), (44, .iload_n 1, 1), (45, .iaload, 1), (46, .invokevirtual 182, 3), (49, .ireturn, 1)]
theorem dd_X9_doIt : ∀ e ∈ D_X9_doIt, decode (mtJ 148).2.1 e.1 = .ok e.2 := by decide +kernel
set_option maxRecDepth 10000 in
theorem so_X9_doIt : ∀ e ∈ o_X9_doIt, SndO 148 e.1 e.2 := by
  refine List.forall_mem_cons.mpr ⟨s_aload_n (dd_X9_doIt (0, .aload_n 0, 1) (List.mem_of_getElem? (i := 0) rfl)) rfl, ?_⟩
  refine List.forall_mem_cons.mpr ⟨s_iload_n (dd_X9_doIt (1, .iload_n 1, 1) (List.mem_of_getElem? (i := 1) rfl)) rfl, ?_⟩
  refine List.forall_mem_cons.mpr ⟨⟨s_callV (ci := 9) rfl mo121 rfl rfl (dd_X9_doIt (2, .invokevirtual 209, 3) (List.mem_of_getElem? (i := 2) rfl)) ow_X9_doIt ml9_209 mi121 msl121 in_9 mn121, mo121⟩, ?_⟩
  refine List.forall_mem_cons.mpr ⟨s_if_ne (dd_X9_doIt (5, .ifCond .ne 6, 3) (List.mem_of_getElem? (i := 3) rfl)) (by decide), ?_⟩
  refine List.forall_mem_cons.mpr ⟨s_ldc (dd_X9_doIt (8, .ldc 205, 2) (List.mem_of_getElem? (i := 4) rfl)) ow_X9_doIt ki9_205, ?_⟩
  refine List.forall_mem_cons.mpr ⟨Or.inr (Or.inl ⟨rfl, (dd_X9_doIt (10, .ireturn, 1) (List.mem_of_getElem? (i := 5) rfl)), rfl⟩), ?_⟩
  refine List.forall_mem_cons.mpr ⟨s_aload_n (dd_X9_doIt (11, .aload_n 0, 1) (List.mem_of_getElem? (i := 6) rfl)) rfl, ?_⟩
  refine List.forall_mem_cons.mpr ⟨s_getR (k := 9) K9 (by decide) (dd_X9_doIt (12, .getfield 25, 3) (List.mem_of_getElem? (i := 7) rfl)) ow_X9_doIt fl9_25 rfl, ?_⟩
  refine List.forall_mem_cons.mpr ⟨s_iload_n (dd_X9_doIt (15, .iload_n 1, 1) (List.mem_of_getElem? (i := 8) rfl)) rfl, ?_⟩
  refine List.forall_mem_cons.mpr ⟨s_iald (dd_X9_doIt (16, .iaload, 1) (List.mem_of_getElem? (i := 9) rfl)), ?_⟩
  refine List.forall_mem_cons.mpr ⟨s_if_eq (dd_X9_doIt (17, .ifCond .eq 6, 3) (List.mem_of_getElem? (i := 10) rfl)) (by decide), ?_⟩
  refine List.forall_mem_cons.mpr ⟨s_ldc (dd_X9_doIt (20, .ldc 212, 2) (List.mem_of_getElem? (i := 11) rfl)) ow_X9_doIt ki9_212, ?_⟩
  refine List.forall_mem_cons.mpr ⟨Or.inr (Or.inl ⟨rfl, (dd_X9_doIt (22, .ireturn, 1) (List.mem_of_getElem? (i := 12) rfl)), rfl⟩), ?_⟩
  refine List.forall_mem_cons.mpr ⟨s_aload_n (dd_X9_doIt (23, .aload_n 0, 1) (List.mem_of_getElem? (i := 13) rfl)) rfl, ?_⟩
  refine List.forall_mem_cons.mpr ⟨⟨s_callV (ci := 9) rfl mo146 rfl rfl (dd_X9_doIt (24, .invokevirtual 213, 3) (List.mem_of_getElem? (i := 14) rfl)) ow_X9_doIt ml9_213 mi146 msl146 in_9 mn146, mo146⟩, ?_⟩
  refine List.forall_mem_cons.mpr ⟨s_aload_n (dd_X9_doIt (27, .aload_n 0, 1) (List.mem_of_getElem? (i := 15) rfl)) rfl, ?_⟩
  refine List.forall_mem_cons.mpr ⟨s_iload_n (dd_X9_doIt (28, .iload_n 1, 1) (List.mem_of_getElem? (i := 16) rfl)) rfl, ?_⟩
  refine List.forall_mem_cons.mpr ⟨s_iconst (dd_X9_doIt (29, .iconst 1, 1) (List.mem_of_getElem? (i := 17) rfl)) rfl, ?_⟩
  refine List.forall_mem_cons.mpr ⟨s_aload_n (dd_X9_doIt (30, .aload_n 0, 1) (List.mem_of_getElem? (i := 18) rfl)) rfl, ?_⟩
  refine List.forall_mem_cons.mpr ⟨s_getR (k := 7) K9 (by decide) (dd_X9_doIt (31, .getfield 19, 3) (List.mem_of_getElem? (i := 19) rfl)) ow_X9_doIt fl9_19 rfl, ?_⟩
  refine List.forall_mem_cons.mpr ⟨s_iload_n (dd_X9_doIt (34, .iload_n 1, 1) (List.mem_of_getElem? (i := 20) rfl)) rfl, ?_⟩
  refine List.forall_mem_cons.mpr ⟨s_iald (dd_X9_doIt (35, .iaload, 1) (List.mem_of_getElem? (i := 21) rfl)), ?_⟩
  refine List.forall_mem_cons.mpr ⟨⟨s_callV (ci := 9) rfl mo147 rfl rfl (dd_X9_doIt (36, .invokevirtual 216, 3) (List.mem_of_getElem? (i := 22) rfl)) ow_X9_doIt ml9_216 mi147 msl147 in_9 mn147, mo147⟩, ?_⟩
  refine List.forall_mem_cons.mpr ⟨s_aload_n (dd_X9_doIt (39, .aload_n 0, 1) (List.mem_of_getElem? (i := 23) rfl)) rfl, ?_⟩
  refine List.forall_mem_cons.mpr ⟨s_aload_n (dd_X9_doIt (40, .aload_n 0, 1) (List.mem_of_getElem? (i := 24) rfl)) rfl, ?_⟩
  refine List.forall_mem_cons.mpr ⟨s_getR (k := 7) K9 (by decide) (dd_X9_doIt (41, .getfield 19, 3) (List.mem_of_getElem? (i := 25) rfl)) ow_X9_doIt fl9_19 rfl, ?_⟩
  refine List.forall_mem_cons.mpr ⟨s_iload_n (dd_X9_doIt (44, .iload_n 1, 1) (List.mem_of_getElem? (i := 26) rfl)) rfl, ?_⟩
  refine List.forall_mem_cons.mpr ⟨s_iald (dd_X9_doIt (45, .iaload, 1) (List.mem_of_getElem? (i := 27) rfl)), ?_⟩
  refine List.forall_mem_cons.mpr ⟨⟨s_callV (ci := 9) rfl mo137 rfl rfl (dd_X9_doIt (46, .invokevirtual 182, 3) (List.mem_of_getElem? (i := 28) rfl)) ow_X9_doIt ml9_182 mi137 msl137 in_9 mn137, mo137⟩, ?_⟩
  refine List.forall_mem_cons.mpr ⟨Or.inr (Or.inl ⟨rfl, (dd_X9_doIt (49, .ireturn, 1) (List.mem_of_getElem? (i := 29) rfl)), rfl⟩), ?_⟩
  exact fun _ h => absurd h List.not_mem_nil
theorem ow_X9_carry : (mtJ 149).1.cls = "SatchelSinsModel" := rfl
def D_X9_carry : List (Nat × Instr × Nat) := [(0, .aload_n 0, 1), (1, .iload_n 1, 1), (2, .invokevirtual 209, 3), (5, .ifCond .eq 11, 3), (8, .aload_n 0, 1), (9, .iload_n 2, 1), (10, .invokevirtual 201, 3), (13, .ifCond .ne 6, 3), (16, .ldc 205, 2), (18, .ireturn, 1), (19, .aload_n 0, 1), (20, .getfield 25, 3), (23, .iload_n 1, 1), (24, .iaload, 1), (25, .iconst 1, 1), (26, .if_icmp .ne 16, 3), (29, .aload_n 0, 1), (30, .getfield 25, 3), (33, .bipush 7, 2), (35, .iload_n 1, 1), (36, .iadd, 1), (37, .iaload, 1), (38, .iload_n 2, 1), (39, .if_icmp .ne 6, 3), (42, .ldc 212, 2), (44, .ireturn, 1), (45, .aload_n 0, 1), (46, .invokevirtual 213, 3), (49, .aload_n 0, 1), (50, .iload_n 1, 1), (51, .iconst 1, 1), (52, .iload_n 2, 1), (53, .invokevirtual 216, 3), (56, .aload_n 0, 1), (57, .iload_n 2, 1), (58, .invokevirtual 182, 3), (61, .ireturn, 1)]
theorem dd_X9_carry : ∀ e ∈ D_X9_carry, decode (mtJ 149).2.1 e.1 = .ok e.2 := by decide +kernel
set_option maxRecDepth 10000 in
theorem so_X9_carry : ∀ e ∈ o_X9_carry, SndO 149 e.1 e.2 := by
  refine List.forall_mem_cons.mpr ⟨s_aload_n (dd_X9_carry (0, .aload_n 0, 1) (List.mem_of_getElem? (i := 0) rfl)) rfl, ?_⟩
  refine List.forall_mem_cons.mpr ⟨s_iload_n (dd_X9_carry (1, .iload_n 1, 1) (List.mem_of_getElem? (i := 1) rfl)) rfl, ?_⟩
  refine List.forall_mem_cons.mpr ⟨⟨s_callV (ci := 9) rfl mo121 rfl rfl (dd_X9_carry (2, .invokevirtual 209, 3) (List.mem_of_getElem? (i := 2) rfl)) ow_X9_carry ml9_209 mi121 msl121 in_9 mn121, mo121⟩, ?_⟩
  refine List.forall_mem_cons.mpr ⟨s_if_eq (dd_X9_carry (5, .ifCond .eq 11, 3) (List.mem_of_getElem? (i := 3) rfl)) (by decide), ?_⟩
  refine List.forall_mem_cons.mpr ⟨s_aload_n (dd_X9_carry (8, .aload_n 0, 1) (List.mem_of_getElem? (i := 4) rfl)) rfl, ?_⟩
  refine List.forall_mem_cons.mpr ⟨s_iload_n (dd_X9_carry (9, .iload_n 2, 1) (List.mem_of_getElem? (i := 5) rfl)) rfl, ?_⟩
  refine List.forall_mem_cons.mpr ⟨⟨s_callV (ci := 9) rfl mo120 rfl rfl (dd_X9_carry (10, .invokevirtual 201, 3) (List.mem_of_getElem? (i := 6) rfl)) ow_X9_carry ml9_201 mi120 msl120 in_9 mn120, mo120⟩, ?_⟩
  refine List.forall_mem_cons.mpr ⟨s_if_ne (dd_X9_carry (13, .ifCond .ne 6, 3) (List.mem_of_getElem? (i := 7) rfl)) (by decide), ?_⟩
  refine List.forall_mem_cons.mpr ⟨s_ldc (dd_X9_carry (16, .ldc 205, 2) (List.mem_of_getElem? (i := 8) rfl)) ow_X9_carry ki9_205, ?_⟩
  refine List.forall_mem_cons.mpr ⟨Or.inr (Or.inl ⟨rfl, (dd_X9_carry (18, .ireturn, 1) (List.mem_of_getElem? (i := 9) rfl)), rfl⟩), ?_⟩
  refine List.forall_mem_cons.mpr ⟨s_aload_n (dd_X9_carry (19, .aload_n 0, 1) (List.mem_of_getElem? (i := 10) rfl)) rfl, ?_⟩
  refine List.forall_mem_cons.mpr ⟨s_getR (k := 9) K9 (by decide) (dd_X9_carry (20, .getfield 25, 3) (List.mem_of_getElem? (i := 11) rfl)) ow_X9_carry fl9_25 rfl, ?_⟩
  refine List.forall_mem_cons.mpr ⟨s_iload_n (dd_X9_carry (23, .iload_n 1, 1) (List.mem_of_getElem? (i := 12) rfl)) rfl, ?_⟩
  refine List.forall_mem_cons.mpr ⟨s_iald (dd_X9_carry (24, .iaload, 1) (List.mem_of_getElem? (i := 13) rfl)), ?_⟩
  refine List.forall_mem_cons.mpr ⟨s_iconst (dd_X9_carry (25, .iconst 1, 1) (List.mem_of_getElem? (i := 14) rfl)) rfl, ?_⟩
  refine List.forall_mem_cons.mpr ⟨s_icmp_ne (dd_X9_carry (26, .if_icmp .ne 16, 3) (List.mem_of_getElem? (i := 15) rfl)) (by decide), ?_⟩
  refine List.forall_mem_cons.mpr ⟨s_aload_n (dd_X9_carry (29, .aload_n 0, 1) (List.mem_of_getElem? (i := 16) rfl)) rfl, ?_⟩
  refine List.forall_mem_cons.mpr ⟨s_getR (k := 9) K9 (by decide) (dd_X9_carry (30, .getfield 25, 3) (List.mem_of_getElem? (i := 17) rfl)) ow_X9_carry fl9_25 rfl, ?_⟩
  refine List.forall_mem_cons.mpr ⟨s_bipush (dd_X9_carry (33, .bipush 7, 2) (List.mem_of_getElem? (i := 18) rfl)) rfl, ?_⟩
  refine List.forall_mem_cons.mpr ⟨s_iload_n (dd_X9_carry (35, .iload_n 1, 1) (List.mem_of_getElem? (i := 19) rfl)) rfl, ?_⟩
  refine List.forall_mem_cons.mpr ⟨s_iadd (dd_X9_carry (36, .iadd, 1) (List.mem_of_getElem? (i := 20) rfl)), ?_⟩
  refine List.forall_mem_cons.mpr ⟨s_iald (dd_X9_carry (37, .iaload, 1) (List.mem_of_getElem? (i := 21) rfl)), ?_⟩
  refine List.forall_mem_cons.mpr ⟨s_iload_n (dd_X9_carry (38, .iload_n 2, 1) (List.mem_of_getElem? (i := 22) rfl)) rfl, ?_⟩
  refine List.forall_mem_cons.mpr ⟨s_icmp_ne (dd_X9_carry (39, .if_icmp .ne 6, 3) (List.mem_of_getElem? (i := 23) rfl)) (by decide), ?_⟩
  refine List.forall_mem_cons.mpr ⟨s_ldc (dd_X9_carry (42, .ldc 212, 2) (List.mem_of_getElem? (i := 24) rfl)) ow_X9_carry ki9_212, ?_⟩
  refine List.forall_mem_cons.mpr ⟨Or.inr (Or.inl ⟨rfl, (dd_X9_carry (44, .ireturn, 1) (List.mem_of_getElem? (i := 25) rfl)), rfl⟩), ?_⟩
  refine List.forall_mem_cons.mpr ⟨s_aload_n (dd_X9_carry (45, .aload_n 0, 1) (List.mem_of_getElem? (i := 26) rfl)) rfl, ?_⟩
  refine List.forall_mem_cons.mpr ⟨⟨s_callV (ci := 9) rfl mo146 rfl rfl (dd_X9_carry (46, .invokevirtual 213, 3) (List.mem_of_getElem? (i := 27) rfl)) ow_X9_carry ml9_213 mi146 msl146 in_9 mn146, mo146⟩, ?_⟩
  refine List.forall_mem_cons.mpr ⟨s_aload_n (dd_X9_carry (49, .aload_n 0, 1) (List.mem_of_getElem? (i := 28) rfl)) rfl, ?_⟩
  refine List.forall_mem_cons.mpr ⟨s_iload_n (dd_X9_carry (50, .iload_n 1, 1) (List.mem_of_getElem? (i := 29) rfl)) rfl, ?_⟩
  refine List.forall_mem_cons.mpr ⟨s_iconst (dd_X9_carry (51, .iconst 1, 1) (List.mem_of_getElem? (i := 30) rfl)) rfl, ?_⟩
  refine List.forall_mem_cons.mpr ⟨s_iload_n (dd_X9_carry (52, .iload_n 2, 1) (List.mem_of_getElem? (i := 31) rfl)) rfl, ?_⟩
  refine List.forall_mem_cons.mpr ⟨⟨s_callV (ci := 9) rfl mo147 rfl rfl (dd_X9_carry (53, .invokevirtual 216, 3) (List.mem_of_getElem? (i := 32) rfl)) ow_X9_carry ml9_216 mi147 msl147 in_9 mn147, mo147⟩, ?_⟩
  refine List.forall_mem_cons.mpr ⟨s_aload_n (dd_X9_carry (56, .aload_n 0, 1) (List.mem_of_getElem? (i := 33) rfl)) rfl, ?_⟩
  refine List.forall_mem_cons.mpr ⟨s_iload_n (dd_X9_carry (57, .iload_n 2, 1) (List.mem_of_getElem? (i := 34) rfl)) rfl, ?_⟩
  refine List.forall_mem_cons.mpr ⟨⟨s_callV (ci := 9) rfl mo137 rfl rfl (dd_X9_carry (58, .invokevirtual 182, 3) (List.mem_of_getElem? (i := 35) rfl)) ow_X9_carry ml9_182 mi137 msl137 in_9 mn137, mo137⟩, ?_⟩
  refine List.forall_mem_cons.mpr ⟨Or.inr (Or.inl ⟨rfl, (dd_X9_carry (61, .ireturn, 1) (List.mem_of_getElem? (i := 36) rfl)), rfl⟩), ?_⟩
  exact fun _ h => absurd h List.not_mem_nil
theorem ow_X9_canSwap : (mtJ 150).1.cls = "SatchelSinsModel" := rfl
def D_X9_canSwap : List (Nat × Instr × Nat) := [(0, .aload_n 0, 1), (1, .getfield 25, 3), (4, .iload_n 1, 1), (5, .iaload, 1), (6, .iconst 1, 1), (7, .if_icmp .ne 38, 3), (10, .aload_n 0, 1), (11, .getfield 25, 3), (14, .iload_n 2, 1), (15, .iaload, 1), (16, .iconst 1, 1), (17, .if_icmp .ne 28, 3), (20, .aload_n 0, 1), (21, .getfield 25, 3), (24, .bipush 7, 2), (26, .iload_n 1, 1), (27, .iadd, 1), (28, .iaload, 1), (29, .aload_n 0, 1), (30, .getfield 25, 3), (33, .bipush 7, 2), (35, .iload_n 2, 1), (36, .iadd, 1), (37, .iaload, 1), (38, .if_icmp .eq 7, 3), (41, .iconst 1, 1), (42, .goto 4, 3), (45, .iconst 0, 1), (46, .ireturn, 1)]
theorem dd_X9_canSwap : ∀ e ∈ D_X9_canSwap, decode (mtJ 150).2.1 e.1 = .ok e.2 := by decide +kernel
set_option maxRecDepth 10000 in
theorem so_X9_canSwap : ∀ e ∈ o_X9_canSwap, SndO 150 e.1 e.2 := by
  refine List.forall_mem_cons.mpr ⟨s_aload_n (dd_X9_canSwap (0, .aload_n 0, 1) (List.mem_of_getElem? (i := 0) rfl)) rfl, ?_⟩
  refine List.forall_mem_cons.mpr ⟨s_getR (k := 9) K9 (by decide) (dd_X9_canSwap (1, .getfield 25, 3) (List.mem_of_getElem? (i := 1) rfl)) ow_X9_canSwap fl9_25 rfl, ?_⟩
  refine List.forall_mem_cons.mpr ⟨s_iload_n (dd_X9_canSwap (4, .iload_n 1, 1) (List.mem_of_getElem? (i := 2) rfl)) rfl, ?_⟩
  refine List.forall_mem_cons.mpr ⟨s_iald (dd_X9_canSwap (5, .iaload, 1) (List.mem_of_getElem? (i := 3) rfl)), ?_⟩
  refine List.forall_mem_cons.mpr ⟨s_iconst (dd_X9_canSwap (6, .iconst 1, 1) (List.mem_of_getElem? (i := 4) rfl)) rfl, ?_⟩
  refine List.forall_mem_cons.mpr ⟨s_icmp_ne (dd_X9_canSwap (7, .if_icmp .ne 38, 3) (List.mem_of_getElem? (i := 5) rfl)) (by decide), ?_⟩
  refine List.forall_mem_cons.mpr ⟨s_aload_n (dd_X9_canSwap (10, .aload_n 0, 1) (List.mem_of_getElem? (i := 6) rfl)) rfl, ?_⟩
  refine List.forall_mem_cons.mpr ⟨s_getR (k := 9) K9 (by decide) (dd_X9_canSwap (11, .getfield 25, 3) (List.mem_of_getElem? (i := 7) rfl)) ow_X9_canSwap fl9_25 rfl, ?_⟩
  refine List.forall_mem_cons.mpr ⟨s_iload_n (dd_X9_canSwap (14, .iload_n 2, 1) (List.mem_of_getElem? (i := 8) rfl)) rfl, ?_⟩
  refine List.forall_mem_cons.mpr ⟨s_iald (dd_X9_canSwap (15, .iaload, 1) (List.mem_of_getElem? (i := 9) rfl)), ?_⟩
  refine List.forall_mem_cons.mpr ⟨s_iconst (dd_X9_canSwap (16, .iconst 1, 1) (List.mem_of_getElem? (i := 10) rfl)) rfl, ?_⟩
  refine List.forall_mem_cons.mpr ⟨s_icmp_ne (dd_X9_canSwap (17, .if_icmp .ne 28, 3) (List.mem_of_getElem? (i := 11) rfl)) (by decide), ?_⟩
  refine List.forall_mem_cons.mpr ⟨s_aload_n (dd_X9_canSwap (20, .aload_n 0, 1) (List.mem_of_getElem? (i := 12) rfl)) rfl, ?_⟩
  refine List.forall_mem_cons.mpr ⟨s_getR (k := 9) K9 (by decide) (dd_X9_canSwap (21, .getfield 25, 3) (List.mem_of_getElem? (i := 13) rfl)) ow_X9_canSwap fl9_25 rfl, ?_⟩
  refine List.forall_mem_cons.mpr ⟨s_bipush (dd_X9_canSwap (24, .bipush 7, 2) (List.mem_of_getElem? (i := 14) rfl)) rfl, ?_⟩
  refine List.forall_mem_cons.mpr ⟨s_iload_n (dd_X9_canSwap (26, .iload_n 1, 1) (List.mem_of_getElem? (i := 15) rfl)) rfl, ?_⟩
  refine List.forall_mem_cons.mpr ⟨s_iadd (dd_X9_canSwap (27, .iadd, 1) (List.mem_of_getElem? (i := 16) rfl)), ?_⟩
  refine List.forall_mem_cons.mpr ⟨s_iald (dd_X9_canSwap (28, .iaload, 1) (List.mem_of_getElem? (i := 17) rfl)), ?_⟩
  refine List.forall_mem_cons.mpr ⟨s_aload_n (dd_X9_canSwap (29, .aload_n 0, 1) (List.mem_of_getElem? (i := 18) rfl)) rfl, ?_⟩
  refine List.forall_mem_cons.mpr ⟨s_getR (k := 9) K9 (by decide) (dd_X9_canSwap (30, .getfield 25, 3) (List.mem_of_getElem? (i := 19) rfl)) ow_X9_canSwap fl9_25 rfl, ?_⟩
  refine List.forall_mem_cons.mpr ⟨s_bipush (dd_X9_canSwap (33, .bipush 7, 2) (List.mem_of_getElem? (i := 20) rfl)) rfl, ?_⟩
  refine List.forall_mem_cons.mpr ⟨s_iload_n (dd_X9_canSwap (35, .iload_n 2, 1) (List.mem_of_getElem? (i := 21) rfl)) rfl, ?_⟩
  refine List.forall_mem_cons.mpr ⟨s_iadd (dd_X9_canSwap (36, .iadd, 1) (List.mem_of_getElem? (i := 22) rfl)), ?_⟩
  refine List.forall_mem_cons.mpr ⟨s_iald (dd_X9_canSwap (37, .iaload, 1) (List.mem_of_getElem? (i := 23) rfl)), ?_⟩
  refine List.forall_mem_cons.mpr ⟨s_icmp_eq (dd_X9_canSwap (38, .if_icmp .eq 7, 3) (List.mem_of_getElem? (i := 24) rfl)) (by decide), ?_⟩
  refine List.forall_mem_cons.mpr ⟨s_iconst (dd_X9_canSwap (41, .iconst 1, 1) (List.mem_of_getElem? (i := 25) rfl)) rfl, ?_⟩
  refine List.forall_mem_cons.mpr ⟨s_goto (dd_X9_canSwap (42, .goto 4, 3) (List.mem_of_getElem? (i := 26) rfl)) (by decide), ?_⟩
  refine List.forall_mem_cons.mpr ⟨s_iconst (dd_X9_canSwap (45, .iconst 0, 1) (List.mem_of_getElem? (i := 27) rfl)) rfl, ?_⟩
  refine List.forall_mem_cons.mpr ⟨Or.inr (Or.inr ⟨rfl, (dd_X9_canSwap (46, .ireturn, 1) (List.mem_of_getElem? (i := 28) rfl)), rfl⟩), ?_⟩
  exact fun _ h => absurd h List.not_mem_nil
theorem ow_X9_swap : (mtJ 151).1.cls = "SatchelSinsModel" := rfl
def D_X9_swap : List (Nat × Instr × Nat) := [(0, .aload_n 0, 1), (1, .iload_n 1, 1), (2, .invokevirtual 209, 3), (5, .ifCond .eq 16, 3), (8, .aload_n 0, 1), (9, .iload_n 2, 1), (10, .invokevirtual 209, 3), (13, .ifCond .eq 8, 3), (16, .iload_n 1, 1), (17, .iload_n 2, 1), (18, .if_icmp .ne 6, 3), (21, .ldc 205, 2), (23, .ireturn, 1), (24, .aload_n 0, 1), (25, .iload_n 1, 1), (26, .iload_n 2, 1), (27, .invokevirtual 220, 3), (30, .ifCond .ne 6, 3), (33, .ldc 212, 2), (35, .ireturn, 1), (36, .aload_n 0, 1), (37, .invokevirtual 213, 3), (40, .aload_n 0, 1), (41, .getfield 25, 3), (44, .bipush 7, 2), (46, .iload_n 1, 1), (47, .iadd, 1), (48, .iaload, 1), (49, .istore_n 3, 1), (50, .aload_n 0, 1), (51, .getfield 25, 3), (54, .bipush 7, 2), (56, .iload_n 1, 1), (57, .iadd, 1), (58, .aload_n 0, 1), (59, .getfield 25, 3), (62, .bipush 7, 2), (64, .iload_n 2, 1), (65, .iadd, 1), (66, .iaload, 1), (67, .iastore, 1), (68, .aload_n 0, 1), (69, .getfield 25, 3), (72, .bipush 7, 2), (74, .iload_n 2, 1), (75, .iadd, 1), (76, .iload_n 3, 1), (77, .iastore, 1), (78, .iconst 1, 1), (79, .ireturn, 1)]
theorem dd_X9_swap : ∀ e ∈ D_X9_swap, decode (mtJ 151).2.1 e.1 = .ok e.2 := by decide +kernel
set_option maxRecDepth 10000 in
theorem so_X9_swap : ∀ e ∈ o_X9_swap, SndO 151 e.1 e.2 := by
  refine List.forall_mem_cons.mpr ⟨s_aload_n (dd_X9_swap (0, .aload_n 0, 1) (List.mem_of_getElem? (i := 0) rfl)) rfl, ?_⟩
  refine List.forall_mem_cons.mpr ⟨s_iload_n (dd_X9_swap (1, .iload_n 1, 1) (List.mem_of_getElem? (i := 1) rfl)) rfl, ?_⟩
  refine List.forall_mem_cons.mpr ⟨⟨s_callV (ci := 9) rfl mo121 rfl rfl (dd_X9_swap (2, .invokevirtual 209, 3) (List.mem_of_getElem? (i := 2) rfl)) ow_X9_swap ml9_209 mi121 msl121 in_9 mn121, mo121⟩, ?_⟩
  refine List.forall_mem_cons.mpr ⟨s_if_eq (dd_X9_swap (5, .ifCond .eq 16, 3) (List.mem_of_getElem? (i := 3) rfl)) (by decide), ?_⟩
  refine List.forall_mem_cons.mpr ⟨s_aload_n (dd_X9_swap (8, .aload_n 0, 1) (List.mem_of_getElem? (i := 4) rfl)) rfl, ?_⟩
  refine List.forall_mem_cons.mpr ⟨s_iload_n (dd_X9_swap (9, .iload_n 2, 1) (List.mem_of_getElem? (i := 5) rfl)) rfl, ?_⟩
  refine List.forall_mem_cons.mpr ⟨⟨s_callV (ci := 9) rfl mo121 rfl rfl (dd_X9_swap (10, .invokevirtual 209, 3) (List.mem_of_getElem? (i := 6) rfl)) ow_X9_swap ml9_209 mi121 msl121 in_9 mn121, mo121⟩, ?_⟩
  refine List.forall_mem_cons.mpr ⟨s_if_eq (dd_X9_swap (13, .ifCond .eq 8, 3) (List.mem_of_getElem? (i := 7) rfl)) (by decide), ?_⟩
  refine List.forall_mem_cons.mpr ⟨s_iload_n (dd_X9_swap (16, .iload_n 1, 1) (List.mem_of_getElem? (i := 8) rfl)) rfl, ?_⟩
  refine List.forall_mem_cons.mpr ⟨s_iload_n (dd_X9_swap (17, .iload_n 2, 1) (List.mem_of_getElem? (i := 9) rfl)) rfl, ?_⟩
  refine List.forall_mem_cons.mpr ⟨s_icmp_ne (dd_X9_swap (18, .if_icmp .ne 6, 3) (List.mem_of_getElem? (i := 10) rfl)) (by decide), ?_⟩
  refine List.forall_mem_cons.mpr ⟨s_ldc (dd_X9_swap (21, .ldc 205, 2) (List.mem_of_getElem? (i := 11) rfl)) ow_X9_swap ki9_205, ?_⟩
  refine List.forall_mem_cons.mpr ⟨Or.inr (Or.inl ⟨rfl, (dd_X9_swap (23, .ireturn, 1) (List.mem_of_getElem? (i := 12) rfl)), rfl⟩), ?_⟩
  refine List.forall_mem_cons.mpr ⟨s_aload_n (dd_X9_swap (24, .aload_n 0, 1) (List.mem_of_getElem? (i := 13) rfl)) rfl, ?_⟩
  refine List.forall_mem_cons.mpr ⟨s_iload_n (dd_X9_swap (25, .iload_n 1, 1) (List.mem_of_getElem? (i := 14) rfl)) rfl, ?_⟩
  refine List.forall_mem_cons.mpr ⟨s_iload_n (dd_X9_swap (26, .iload_n 2, 1) (List.mem_of_getElem? (i := 15) rfl)) rfl, ?_⟩
  refine List.forall_mem_cons.mpr ⟨⟨s_callV (ci := 9) rfl mo150 rfl rfl (dd_X9_swap (27, .invokevirtual 220, 3) (List.mem_of_getElem? (i := 16) rfl)) ow_X9_swap ml9_220 mi150 msl150 in_9 mn150, mo150⟩, ?_⟩
  refine List.forall_mem_cons.mpr ⟨s_if_ne (dd_X9_swap (30, .ifCond .ne 6, 3) (List.mem_of_getElem? (i := 17) rfl)) (by decide), ?_⟩
  refine List.forall_mem_cons.mpr ⟨s_ldc (dd_X9_swap (33, .ldc 212, 2) (List.mem_of_getElem? (i := 18) rfl)) ow_X9_swap ki9_212, ?_⟩
  refine List.forall_mem_cons.mpr ⟨Or.inr (Or.inl ⟨rfl, (dd_X9_swap (35, .ireturn, 1) (List.mem_of_getElem? (i := 19) rfl)), rfl⟩), ?_⟩
  refine List.forall_mem_cons.mpr ⟨s_aload_n (dd_X9_swap (36, .aload_n 0, 1) (List.mem_of_getElem? (i := 20) rfl)) rfl, ?_⟩
  refine List.forall_mem_cons.mpr ⟨⟨s_callV (ci := 9) rfl mo146 rfl rfl (dd_X9_swap (37, .invokevirtual 213, 3) (List.mem_of_getElem? (i := 21) rfl)) ow_X9_swap ml9_213 mi146 msl146 in_9 mn146, mo146⟩, ?_⟩
  refine List.forall_mem_cons.mpr ⟨s_aload_n (dd_X9_swap (40, .aload_n 0, 1) (List.mem_of_getElem? (i := 22) rfl)) rfl, ?_⟩
  refine List.forall_mem_cons.mpr ⟨s_getR (k := 9) K9 (by decide) (dd_X9_swap (41, .getfield 25, 3) (List.mem_of_getElem? (i := 23) rfl)) ow_X9_swap fl9_25 rfl, ?_⟩
  refine List.forall_mem_cons.mpr ⟨s_bipush (dd_X9_swap (44, .bipush 7, 2) (List.mem_of_getElem? (i := 24) rfl)) rfl, ?_⟩
  refine List.forall_mem_cons.mpr ⟨s_iload_n (dd_X9_swap (46, .iload_n 1, 1) (List.mem_of_getElem? (i := 25) rfl)) rfl, ?_⟩
  refine List.forall_mem_cons.mpr ⟨s_iadd (dd_X9_swap (47, .iadd, 1) (List.mem_of_getElem? (i := 26) rfl)), ?_⟩
  refine List.forall_mem_cons.mpr ⟨s_iald (dd_X9_swap (48, .iaload, 1) (List.mem_of_getElem? (i := 27) rfl)), ?_⟩
  refine List.forall_mem_cons.mpr ⟨s_istore_n (dd_X9_swap (49, .istore_n 3, 1) (List.mem_of_getElem? (i := 28) rfl)) rfl, ?_⟩
  refine List.forall_mem_cons.mpr ⟨s_aload_n (dd_X9_swap (50, .aload_n 0, 1) (List.mem_of_getElem? (i := 29) rfl)) rfl, ?_⟩
  refine List.forall_mem_cons.mpr ⟨s_getR (k := 9) K9 (by decide) (dd_X9_swap (51, .getfield 25, 3) (List.mem_of_getElem? (i := 30) rfl)) ow_X9_swap fl9_25 rfl, ?_⟩
  refine List.forall_mem_cons.mpr ⟨s_bipush (dd_X9_swap (54, .bipush 7, 2) (List.mem_of_getElem? (i := 31) rfl)) rfl, ?_⟩
  refine List.forall_mem_cons.mpr ⟨s_iload_n (dd_X9_swap (56, .iload_n 1, 1) (List.mem_of_getElem? (i := 32) rfl)) rfl, ?_⟩
  refine List.forall_mem_cons.mpr ⟨s_iadd (dd_X9_swap (57, .iadd, 1) (List.mem_of_getElem? (i := 33) rfl)), ?_⟩
  refine List.forall_mem_cons.mpr ⟨s_aload_n (dd_X9_swap (58, .aload_n 0, 1) (List.mem_of_getElem? (i := 34) rfl)) rfl, ?_⟩
  refine List.forall_mem_cons.mpr ⟨s_getR (k := 9) K9 (by decide) (dd_X9_swap (59, .getfield 25, 3) (List.mem_of_getElem? (i := 35) rfl)) ow_X9_swap fl9_25 rfl, ?_⟩
  refine List.forall_mem_cons.mpr ⟨s_bipush (dd_X9_swap (62, .bipush 7, 2) (List.mem_of_getElem? (i := 36) rfl)) rfl, ?_⟩
  refine List.forall_mem_cons.mpr ⟨s_iload_n (dd_X9_swap (64, .iload_n 2, 1) (List.mem_of_getElem? (i := 37) rfl)) rfl, ?_⟩
  refine List.forall_mem_cons.mpr ⟨s_iadd (dd_X9_swap (65, .iadd, 1) (List.mem_of_getElem? (i := 38) rfl)), ?_⟩
  refine List.forall_mem_cons.mpr ⟨s_iald (dd_X9_swap (66, .iaload, 1) (List.mem_of_getElem? (i := 39) rfl)), ?_⟩
  refine List.forall_mem_cons.mpr ⟨s_iast (dd_X9_swap (67, .iastore, 1) (List.mem_of_getElem? (i := 40) rfl)), ?_⟩
  refine List.forall_mem_cons.mpr ⟨s_aload_n (dd_X9_swap (68, .aload_n 0, 1) (List.mem_of_getElem? (i := 41) rfl)) rfl, ?_⟩
  refine List.forall_mem_cons.mpr ⟨s_getR (k := 9) K9 (by decide) (dd_X9_swap (69, .getfield 25, 3) (List.mem_of_getElem? (i := 42) rfl)) ow_X9_swap fl9_25 rfl, ?_⟩
  refine List.forall_mem_cons.mpr ⟨s_bipush (dd_X9_swap (72, .bipush 7, 2) (List.mem_of_getElem? (i := 43) rfl)) rfl, ?_⟩
  refine List.forall_mem_cons.mpr ⟨s_iload_n (dd_X9_swap (74, .iload_n 2, 1) (List.mem_of_getElem? (i := 44) rfl)) rfl, ?_⟩
  refine List.forall_mem_cons.mpr ⟨s_iadd (dd_X9_swap (75, .iadd, 1) (List.mem_of_getElem? (i := 45) rfl)), ?_⟩
  refine List.forall_mem_cons.mpr ⟨s_iload_n (dd_X9_swap (76, .iload_n 3, 1) (List.mem_of_getElem? (i := 46) rfl)) rfl, ?_⟩
  refine List.forall_mem_cons.mpr ⟨s_iast (dd_X9_swap (77, .iastore, 1) (List.mem_of_getElem? (i := 47) rfl)), ?_⟩
  refine List.forall_mem_cons.mpr ⟨s_iconst (dd_X9_swap (78, .iconst 1, 1) (List.mem_of_getElem? (i := 48) rfl)) rfl, ?_⟩
  refine List.forall_mem_cons.mpr ⟨Or.inr (Or.inl ⟨rfl, (dd_X9_swap (79, .ireturn, 1) (List.mem_of_getElem? (i := 49) rfl)), rfl⟩), ?_⟩
  exact fun _ h => absurd h List.not_mem_nil
theorem ow_X9_canThrow : (mtJ 152).1.cls = "SatchelSinsModel" := rfl
def D_X9_canThrow : List (Nat × Instr × Nat) := [(0, .aload_n 0, 1), (1, .getfield 25, 3), (4, .iload_n 1, 1), (5, .iaload, 1), (6, .iconst 1, 1), (7, .if_icmp .ne 28, 3), (10, .aload_n 0, 1), (11, .getfield 25, 3), (14, .bipush 15, 2), (16, .iaload, 1), (17, .aload_n 0, 1), (18, .getfield 22, 3), (21, .iload_n 1, 1), (22, .iaload, 1), (23, .iadd, 1), (24, .aload_n 0, 1), (25, .getfield 160, 3), (28, .if_icmp .gt 7, 3), (31, .iconst 1, 1), (32, .goto 4, 3), (35, .iconst 0, 1), (36, .ireturn, 1)]
theorem dd_X9_canThrow : ∀ e ∈ D_X9_canThrow, decode (mtJ 152).2.1 e.1 = .ok e.2 := by decide +kernel
set_option maxRecDepth 10000 in
theorem so_X9_canThrow : ∀ e ∈ o_X9_canThrow, SndO 152 e.1 e.2 := by
  refine List.forall_mem_cons.mpr ⟨s_aload_n (dd_X9_canThrow (0, .aload_n 0, 1) (List.mem_of_getElem? (i := 0) rfl)) rfl, ?_⟩
  refine List.forall_mem_cons.mpr ⟨s_getR (k := 9) K9 (by decide) (dd_X9_canThrow (1, .getfield 25, 3) (List.mem_of_getElem? (i := 1) rfl)) ow_X9_canThrow fl9_25 rfl, ?_⟩
  refine List.forall_mem_cons.mpr ⟨s_iload_n (dd_X9_canThrow (4, .iload_n 1, 1) (List.mem_of_getElem? (i := 2) rfl)) rfl, ?_⟩
  refine List.forall_mem_cons.mpr ⟨s_iald (dd_X9_canThrow (5, .iaload, 1) (List.mem_of_getElem? (i := 3) rfl)), ?_⟩
  refine List.forall_mem_cons.mpr ⟨s_iconst (dd_X9_canThrow (6, .iconst 1, 1) (List.mem_of_getElem? (i := 4) rfl)) rfl, ?_⟩
  refine List.forall_mem_cons.mpr ⟨s_icmp_ne (dd_X9_canThrow (7, .if_icmp .ne 28, 3) (List.mem_of_getElem? (i := 5) rfl)) (by decide), ?_⟩
  refine List.forall_mem_cons.mpr ⟨s_aload_n (dd_X9_canThrow (10, .aload_n 0, 1) (List.mem_of_getElem? (i := 6) rfl)) rfl, ?_⟩
  refine List.forall_mem_cons.mpr ⟨s_getR (k := 9) K9 (by decide) (dd_X9_canThrow (11, .getfield 25, 3) (List.mem_of_getElem? (i := 7) rfl)) ow_X9_canThrow fl9_25 rfl, ?_⟩
  refine List.forall_mem_cons.mpr ⟨s_bipush (dd_X9_canThrow (14, .bipush 15, 2) (List.mem_of_getElem? (i := 8) rfl)) rfl, ?_⟩
  refine List.forall_mem_cons.mpr ⟨s_iald (dd_X9_canThrow (16, .iaload, 1) (List.mem_of_getElem? (i := 9) rfl)), ?_⟩
  refine List.forall_mem_cons.mpr ⟨s_aload_n (dd_X9_canThrow (17, .aload_n 0, 1) (List.mem_of_getElem? (i := 10) rfl)) rfl, ?_⟩
  refine List.forall_mem_cons.mpr ⟨s_getR (k := 8) K9 (by decide) (dd_X9_canThrow (18, .getfield 22, 3) (List.mem_of_getElem? (i := 11) rfl)) ow_X9_canThrow fl9_22 rfl, ?_⟩
  refine List.forall_mem_cons.mpr ⟨s_iload_n (dd_X9_canThrow (21, .iload_n 1, 1) (List.mem_of_getElem? (i := 12) rfl)) rfl, ?_⟩
  refine List.forall_mem_cons.mpr ⟨s_iald (dd_X9_canThrow (22, .iaload, 1) (List.mem_of_getElem? (i := 13) rfl)), ?_⟩
  refine List.forall_mem_cons.mpr ⟨s_iadd (dd_X9_canThrow (23, .iadd, 1) (List.mem_of_getElem? (i := 14) rfl)), ?_⟩
  refine List.forall_mem_cons.mpr ⟨s_aload_n (dd_X9_canThrow (24, .aload_n 0, 1) (List.mem_of_getElem? (i := 15) rfl)) rfl, ?_⟩
  refine List.forall_mem_cons.mpr ⟨s_getI (k := 1) K9 (by decide) (dd_X9_canThrow (25, .getfield 160, 3) (List.mem_of_getElem? (i := 16) rfl)) ow_X9_canThrow fl9_160 rfl, ?_⟩
  refine List.forall_mem_cons.mpr ⟨s_icmp_gt (dd_X9_canThrow (28, .if_icmp .gt 7, 3) (List.mem_of_getElem? (i := 17) rfl)) (by decide), ?_⟩
  refine List.forall_mem_cons.mpr ⟨s_iconst (dd_X9_canThrow (31, .iconst 1, 1) (List.mem_of_getElem? (i := 18) rfl)) rfl, ?_⟩
  refine List.forall_mem_cons.mpr ⟨s_goto (dd_X9_canThrow (32, .goto 4, 3) (List.mem_of_getElem? (i := 19) rfl)) (by decide), ?_⟩
  refine List.forall_mem_cons.mpr ⟨s_iconst (dd_X9_canThrow (35, .iconst 0, 1) (List.mem_of_getElem? (i := 20) rfl)) rfl, ?_⟩
  refine List.forall_mem_cons.mpr ⟨Or.inr (Or.inr ⟨rfl, (dd_X9_canThrow (36, .ireturn, 1) (List.mem_of_getElem? (i := 21) rfl)), rfl⟩), ?_⟩
  exact fun _ h => absurd h List.not_mem_nil
theorem ow_X9_throwNow : (mtJ 153).1.cls = "SatchelSinsModel" := rfl
def D_X9_throwNow : List (Nat × Instr × Nat) := [(0, .aload_n 0, 1), (1, .iload_n 1, 1), (2, .iconst 2, 1), (3, .iconst (-1), 1), (4, .invokevirtual 216, 3), (7, .aload_n 0, 1), (8, .getfield 25, 3), (11, .bipush 15, 2), (13, .dup2, 1), (14, .iaload, 1), (15, .aload_n 0, 1), (16, .getfield 22, 3), (19, .iload_n 1, 1), (20, .iaload, 1), (21, .iadd, 1), (22, .iastore, 1), (23, .aload_n 0, 1), (24, .getfield 25, 3), (27, .bipush 16, 2), (29, .aload_n 0, 1), (30, .getfield 25, 3), (33, .bipush 16, 2), (35, .iaload, 1), (36, .aload_n 0, 1), (37, .getfield 22, 3), (40, .iload_n 1, 1), (41, .iaload, 1), (42, .iadd, 1), (43, .ldc 224, 2), (45, .if_icmp .ge 20, 3), (48, .aload_n 0, 1), (49, .getfield 25, 3), (52, .bipush 16, 2), (54, .iaload, 1), (55, .aload_n 0, 1), (56, .getfield 22, 3), (59, .iload_n 1, 1), (60, .iaload, 1), (61, .iadd, 1), (62, .goto 5, 3), (65, .ldc 224, 2), (67, .iastore, 1), (68, .return_, 1)]
theorem dd_X9_throwNow : ∀ e ∈ D_X9_throwNow, decode (mtJ 153).2.1 e.1 = .ok e.2 := by decide +kernel
set_option maxRecDepth 10000 in
theorem so_X9_throwNow : ∀ e ∈ o_X9_throwNow, SndO 153 e.1 e.2 := by
  refine List.forall_mem_cons.mpr ⟨s_aload_n (dd_X9_throwNow (0, .aload_n 0, 1) (List.mem_of_getElem? (i := 0) rfl)) rfl, ?_⟩
  refine List.forall_mem_cons.mpr ⟨s_iload_n (dd_X9_throwNow (1, .iload_n 1, 1) (List.mem_of_getElem? (i := 1) rfl)) rfl, ?_⟩
  refine List.forall_mem_cons.mpr ⟨s_iconst (dd_X9_throwNow (2, .iconst 2, 1) (List.mem_of_getElem? (i := 2) rfl)) rfl, ?_⟩
  refine List.forall_mem_cons.mpr ⟨s_iconst (dd_X9_throwNow (3, .iconst (-1), 1) (List.mem_of_getElem? (i := 3) rfl)) rfl, ?_⟩
  refine List.forall_mem_cons.mpr ⟨⟨s_callV (ci := 9) rfl mo147 rfl rfl (dd_X9_throwNow (4, .invokevirtual 216, 3) (List.mem_of_getElem? (i := 4) rfl)) ow_X9_throwNow ml9_216 mi147 msl147 in_9 mn147, mo147⟩, ?_⟩
  refine List.forall_mem_cons.mpr ⟨s_aload_n (dd_X9_throwNow (7, .aload_n 0, 1) (List.mem_of_getElem? (i := 5) rfl)) rfl, ?_⟩
  refine List.forall_mem_cons.mpr ⟨s_getR (k := 9) K9 (by decide) (dd_X9_throwNow (8, .getfield 25, 3) (List.mem_of_getElem? (i := 6) rfl)) ow_X9_throwNow fl9_25 rfl, ?_⟩
  refine List.forall_mem_cons.mpr ⟨s_bipush (dd_X9_throwNow (11, .bipush 15, 2) (List.mem_of_getElem? (i := 7) rfl)) rfl, ?_⟩
  refine List.forall_mem_cons.mpr ⟨s_dup2 (dd_X9_throwNow (13, .dup2, 1) (List.mem_of_getElem? (i := 8) rfl)), ?_⟩
  refine List.forall_mem_cons.mpr ⟨s_iald (dd_X9_throwNow (14, .iaload, 1) (List.mem_of_getElem? (i := 9) rfl)), ?_⟩
  refine List.forall_mem_cons.mpr ⟨s_aload_n (dd_X9_throwNow (15, .aload_n 0, 1) (List.mem_of_getElem? (i := 10) rfl)) rfl, ?_⟩
  refine List.forall_mem_cons.mpr ⟨s_getR (k := 8) K9 (by decide) (dd_X9_throwNow (16, .getfield 22, 3) (List.mem_of_getElem? (i := 11) rfl)) ow_X9_throwNow fl9_22 rfl, ?_⟩
  refine List.forall_mem_cons.mpr ⟨s_iload_n (dd_X9_throwNow (19, .iload_n 1, 1) (List.mem_of_getElem? (i := 12) rfl)) rfl, ?_⟩
  refine List.forall_mem_cons.mpr ⟨s_iald (dd_X9_throwNow (20, .iaload, 1) (List.mem_of_getElem? (i := 13) rfl)), ?_⟩
  refine List.forall_mem_cons.mpr ⟨s_iadd (dd_X9_throwNow (21, .iadd, 1) (List.mem_of_getElem? (i := 14) rfl)), ?_⟩
  refine List.forall_mem_cons.mpr ⟨s_iast (dd_X9_throwNow (22, .iastore, 1) (List.mem_of_getElem? (i := 15) rfl)), ?_⟩
  refine List.forall_mem_cons.mpr ⟨s_aload_n (dd_X9_throwNow (23, .aload_n 0, 1) (List.mem_of_getElem? (i := 16) rfl)) rfl, ?_⟩
  refine List.forall_mem_cons.mpr ⟨s_getR (k := 9) K9 (by decide) (dd_X9_throwNow (24, .getfield 25, 3) (List.mem_of_getElem? (i := 17) rfl)) ow_X9_throwNow fl9_25 rfl, ?_⟩
  refine List.forall_mem_cons.mpr ⟨s_bipush (dd_X9_throwNow (27, .bipush 16, 2) (List.mem_of_getElem? (i := 18) rfl)) rfl, ?_⟩
  refine List.forall_mem_cons.mpr ⟨s_aload_n (dd_X9_throwNow (29, .aload_n 0, 1) (List.mem_of_getElem? (i := 19) rfl)) rfl, ?_⟩
  refine List.forall_mem_cons.mpr ⟨s_getR (k := 9) K9 (by decide) (dd_X9_throwNow (30, .getfield 25, 3) (List.mem_of_getElem? (i := 20) rfl)) ow_X9_throwNow fl9_25 rfl, ?_⟩
  refine List.forall_mem_cons.mpr ⟨s_bipush (dd_X9_throwNow (33, .bipush 16, 2) (List.mem_of_getElem? (i := 21) rfl)) rfl, ?_⟩
  refine List.forall_mem_cons.mpr ⟨s_iald (dd_X9_throwNow (35, .iaload, 1) (List.mem_of_getElem? (i := 22) rfl)), ?_⟩
  refine List.forall_mem_cons.mpr ⟨s_aload_n (dd_X9_throwNow (36, .aload_n 0, 1) (List.mem_of_getElem? (i := 23) rfl)) rfl, ?_⟩
  refine List.forall_mem_cons.mpr ⟨s_getR (k := 8) K9 (by decide) (dd_X9_throwNow (37, .getfield 22, 3) (List.mem_of_getElem? (i := 24) rfl)) ow_X9_throwNow fl9_22 rfl, ?_⟩
  refine List.forall_mem_cons.mpr ⟨s_iload_n (dd_X9_throwNow (40, .iload_n 1, 1) (List.mem_of_getElem? (i := 25) rfl)) rfl, ?_⟩
  refine List.forall_mem_cons.mpr ⟨s_iald (dd_X9_throwNow (41, .iaload, 1) (List.mem_of_getElem? (i := 26) rfl)), ?_⟩
  refine List.forall_mem_cons.mpr ⟨s_iadd (dd_X9_throwNow (42, .iadd, 1) (List.mem_of_getElem? (i := 27) rfl)), ?_⟩
  refine List.forall_mem_cons.mpr ⟨s_ldc (dd_X9_throwNow (43, .ldc 224, 2) (List.mem_of_getElem? (i := 28) rfl)) ow_X9_throwNow ki9_224, ?_⟩
  refine List.forall_mem_cons.mpr ⟨s_icmp_ge (dd_X9_throwNow (45, .if_icmp .ge 20, 3) (List.mem_of_getElem? (i := 29) rfl)) (by decide), ?_⟩
  refine List.forall_mem_cons.mpr ⟨s_aload_n (dd_X9_throwNow (48, .aload_n 0, 1) (List.mem_of_getElem? (i := 30) rfl)) rfl, ?_⟩
  refine List.forall_mem_cons.mpr ⟨s_getR (k := 9) K9 (by decide) (dd_X9_throwNow (49, .getfield 25, 3) (List.mem_of_getElem? (i := 31) rfl)) ow_X9_throwNow fl9_25 rfl, ?_⟩
  refine List.forall_mem_cons.mpr ⟨s_bipush (dd_X9_throwNow (52, .bipush 16, 2) (List.mem_of_getElem? (i := 32) rfl)) rfl, ?_⟩
  refine List.forall_mem_cons.mpr ⟨s_iald (dd_X9_throwNow (54, .iaload, 1) (List.mem_of_getElem? (i := 33) rfl)), ?_⟩
  refine List.forall_mem_cons.mpr ⟨s_aload_n (dd_X9_throwNow (55, .aload_n 0, 1) (List.mem_of_getElem? (i := 34) rfl)) rfl, ?_⟩
  refine List.forall_mem_cons.mpr ⟨s_getR (k := 8) K9 (by decide) (dd_X9_throwNow (56, .getfield 22, 3) (List.mem_of_getElem? (i := 35) rfl)) ow_X9_throwNow fl9_22 rfl, ?_⟩
  refine List.forall_mem_cons.mpr ⟨s_iload_n (dd_X9_throwNow (59, .iload_n 1, 1) (List.mem_of_getElem? (i := 36) rfl)) rfl, ?_⟩
  refine List.forall_mem_cons.mpr ⟨s_iald (dd_X9_throwNow (60, .iaload, 1) (List.mem_of_getElem? (i := 37) rfl)), ?_⟩
  refine List.forall_mem_cons.mpr ⟨s_iadd (dd_X9_throwNow (61, .iadd, 1) (List.mem_of_getElem? (i := 38) rfl)), ?_⟩
  refine List.forall_mem_cons.mpr ⟨s_goto (dd_X9_throwNow (62, .goto 5, 3) (List.mem_of_getElem? (i := 39) rfl)) (by decide), ?_⟩
  refine List.forall_mem_cons.mpr ⟨s_ldc (dd_X9_throwNow (65, .ldc 224, 2) (List.mem_of_getElem? (i := 40) rfl)) ow_X9_throwNow ki9_224, ?_⟩
  refine List.forall_mem_cons.mpr ⟨s_iast (dd_X9_throwNow (67, .iastore, 1) (List.mem_of_getElem? (i := 41) rfl)), ?_⟩
  refine List.forall_mem_cons.mpr ⟨Or.inl ⟨rfl, (dd_X9_throwNow (68, .return_, 1) (List.mem_of_getElem? (i := 42) rfl)), rfl⟩, ?_⟩
  exact fun _ h => absurd h List.not_mem_nil
theorem ow_X9_throwIt : (mtJ 154).1.cls = "SatchelSinsModel" := rfl
def D_X9_throwIt : List (Nat × Instr × Nat) := [(0, .aload_n 0, 1), (1, .iload_n 1, 1), (2, .invokevirtual 209, 3), (5, .ifCond .ne 6, 3), (8, .ldc 205, 2), (10, .ireturn, 1), (11, .aload_n 0, 1), (12, .iload_n 1, 1), (13, .invokevirtual 225, 3), (16, .ifCond .ne 6, 3), (19, .ldc 212, 2), (21, .ireturn, 1), (22, .aload_n 0, 1), (23, .invokevirtual 213, 3), (26, .aload_n 0, 1), (27, .iload_n 1, 1), (28, .invokevirtual 228, 3), (31, .aload_n 0, 1), (32, .getfield 25, 3), (35, .bipush 15, 2), (37, .iaload, 1), (38, .ireturn, 1)]
theorem dd_X9_throwIt : ∀ e ∈ D_X9_throwIt, decode (mtJ 154).2.1 e.1 = .ok e.2 := by decide +kernel
set_option maxRecDepth 10000 in
theorem so_X9_throwIt : ∀ e ∈ o_X9_throwIt, SndO 154 e.1 e.2 := by
  refine List.forall_mem_cons.mpr ⟨s_aload_n (dd_X9_throwIt (0, .aload_n 0, 1) (List.mem_of_getElem? (i := 0) rfl)) rfl, ?_⟩
  refine List.forall_mem_cons.mpr ⟨s_iload_n (dd_X9_throwIt (1, .iload_n 1, 1) (List.mem_of_getElem? (i := 1) rfl)) rfl, ?_⟩
  refine List.forall_mem_cons.mpr ⟨⟨s_callV (ci := 9) rfl mo121 rfl rfl (dd_X9_throwIt (2, .invokevirtual 209, 3) (List.mem_of_getElem? (i := 2) rfl)) ow_X9_throwIt ml9_209 mi121 msl121 in_9 mn121, mo121⟩, ?_⟩
  refine List.forall_mem_cons.mpr ⟨s_if_ne (dd_X9_throwIt (5, .ifCond .ne 6, 3) (List.mem_of_getElem? (i := 3) rfl)) (by decide), ?_⟩
  refine List.forall_mem_cons.mpr ⟨s_ldc (dd_X9_throwIt (8, .ldc 205, 2) (List.mem_of_getElem? (i := 4) rfl)) ow_X9_throwIt ki9_205, ?_⟩
  refine List.forall_mem_cons.mpr ⟨Or.inr (Or.inl ⟨rfl, (dd_X9_throwIt (10, .ireturn, 1) (List.mem_of_getElem? (i := 5) rfl)), rfl⟩), ?_⟩
  refine List.forall_mem_cons.mpr ⟨s_aload_n (dd_X9_throwIt (11, .aload_n 0, 1) (List.mem_of_getElem? (i := 6) rfl)) rfl, ?_⟩
  refine List.forall_mem_cons.mpr ⟨s_iload_n (dd_X9_throwIt (12, .iload_n 1, 1) (List.mem_of_getElem? (i := 7) rfl)) rfl, ?_⟩
  refine List.forall_mem_cons.mpr ⟨⟨s_callV (ci := 9) rfl mo152 rfl rfl (dd_X9_throwIt (13, .invokevirtual 225, 3) (List.mem_of_getElem? (i := 8) rfl)) ow_X9_throwIt ml9_225 mi152 msl152 in_9 mn152, mo152⟩, ?_⟩
  refine List.forall_mem_cons.mpr ⟨s_if_ne (dd_X9_throwIt (16, .ifCond .ne 6, 3) (List.mem_of_getElem? (i := 9) rfl)) (by decide), ?_⟩
  refine List.forall_mem_cons.mpr ⟨s_ldc (dd_X9_throwIt (19, .ldc 212, 2) (List.mem_of_getElem? (i := 10) rfl)) ow_X9_throwIt ki9_212, ?_⟩
  refine List.forall_mem_cons.mpr ⟨Or.inr (Or.inl ⟨rfl, (dd_X9_throwIt (21, .ireturn, 1) (List.mem_of_getElem? (i := 11) rfl)), rfl⟩), ?_⟩
  refine List.forall_mem_cons.mpr ⟨s_aload_n (dd_X9_throwIt (22, .aload_n 0, 1) (List.mem_of_getElem? (i := 12) rfl)) rfl, ?_⟩
  refine List.forall_mem_cons.mpr ⟨⟨s_callV (ci := 9) rfl mo146 rfl rfl (dd_X9_throwIt (23, .invokevirtual 213, 3) (List.mem_of_getElem? (i := 13) rfl)) ow_X9_throwIt ml9_213 mi146 msl146 in_9 mn146, mo146⟩, ?_⟩
  refine List.forall_mem_cons.mpr ⟨s_aload_n (dd_X9_throwIt (26, .aload_n 0, 1) (List.mem_of_getElem? (i := 14) rfl)) rfl, ?_⟩
  refine List.forall_mem_cons.mpr ⟨s_iload_n (dd_X9_throwIt (27, .iload_n 1, 1) (List.mem_of_getElem? (i := 15) rfl)) rfl, ?_⟩
  refine List.forall_mem_cons.mpr ⟨⟨s_callV (ci := 9) rfl mo153 rfl rfl (dd_X9_throwIt (28, .invokevirtual 228, 3) (List.mem_of_getElem? (i := 16) rfl)) ow_X9_throwIt ml9_228 mi153 msl153 in_9 mn153, mo153⟩, ?_⟩
  refine List.forall_mem_cons.mpr ⟨s_aload_n (dd_X9_throwIt (31, .aload_n 0, 1) (List.mem_of_getElem? (i := 17) rfl)) rfl, ?_⟩
  refine List.forall_mem_cons.mpr ⟨s_getR (k := 9) K9 (by decide) (dd_X9_throwIt (32, .getfield 25, 3) (List.mem_of_getElem? (i := 18) rfl)) ow_X9_throwIt fl9_25 rfl, ?_⟩
  refine List.forall_mem_cons.mpr ⟨s_bipush (dd_X9_throwIt (35, .bipush 15, 2) (List.mem_of_getElem? (i := 19) rfl)) rfl, ?_⟩
  refine List.forall_mem_cons.mpr ⟨s_iald (dd_X9_throwIt (37, .iaload, 1) (List.mem_of_getElem? (i := 20) rfl)), ?_⟩
  refine List.forall_mem_cons.mpr ⟨Or.inr (Or.inl ⟨rfl, (dd_X9_throwIt (38, .ireturn, 1) (List.mem_of_getElem? (i := 21) rfl)), rfl⟩), ?_⟩
  exact fun _ h => absurd h List.not_mem_nil
theorem ow_X9_goHome : (mtJ 155).1.cls = "SatchelSinsModel" := rfl
def D_X9_goHome_1 : List (Nat × Instr × Nat) := [(0, .aload_n 0, 1), (1, .invokevirtual 189, 3), (4, .istore_n 1, 1), (5, .iconst 0, 1), (6, .istore_n 2, 1), (7, .iload_n 2, 1), (8, .aload_n 0, 1), (9, .getfield 91, 3), (12, .if_icmp .ge 26, 3), (15, .aload_n 0, 1), (16, .getfield 25, 3), (19, .bipush 17, 2), (21, .iload_n 2, 1), (22, .iadd, 1), (23, .dup2, 1), (24, .iaload, 1), (25, .iload_n 1, 1), (26, .iload_n 2, 1), (27, .ishr, 1), (28, .iconst 1, 1), (29, .iand, 1), (30, .iadd, 1), (31, .iastore, 1), (32, .iinc 2 1, 3), (35, .goto (-28), 3), (38, .iconst 0, 1), (39, .istore_n 2, 1), (40, .iload_n 2, 1), (41, .aload_n 0, 1), (42, .getfield 98, 3), (45, .if_icmp .ge 35, 3), (48, .aload_n 0, 1), (49, .getfield 25, 3), (52, .iload_n 2, 1), (53, .aload_n 0, 1), (54, .getfield 25, 3), (57, .iload_n 2, 1), (58, .iaload, 1), (59, .iconst 1, 1), (60, .if_icmp .ne 7, 3), (63, .iconst 3, 1), (64, .goto 9, 3), (67, .aload_n 0, 1), (68, .getfield 25, 3), (71, .iload_n 2, 1), (72, .iaload, 1), (73, .iastore, 1), (74, .iinc 2 1, 3), (77, .goto (-37), 3), (80, .aload_n 0, 1), (81, .getfield 25, 3), (84, .bipush 14, 2), (86, .dup2, 1), (87, .iaload, 1), (88, .iconst 1, 1), (89, .iadd, 1), (90, .iastore, 1), (91, .aload_n 0, 1), (92, .getfield 25, 3), (95, .bipush 15, 2)]
theorem dd_X9_goHome_1 : ∀ e ∈ D_X9_goHome_1, decode (mtJ 155).2.1 e.1 = .ok e.2 := by decide +kernel
set_option maxRecDepth 10000 in
theorem so_X9_goHome_1 : ∀ e ∈ o_X9_goHome_1, SndO 155 e.1 e.2 := by
  refine List.forall_mem_cons.mpr ⟨s_aload_n (dd_X9_goHome_1 (0, .aload_n 0, 1) (List.mem_of_getElem? (i := 0) rfl)) rfl, ?_⟩
  refine List.forall_mem_cons.mpr ⟨⟨s_callV (ci := 9) rfl mo139 rfl rfl (dd_X9_goHome_1 (1, .invokevirtual 189, 3) (List.mem_of_getElem? (i := 1) rfl)) ow_X9_goHome ml9_189 mi139 msl139 in_9 mn139, mo139⟩, ?_⟩
  refine List.forall_mem_cons.mpr ⟨s_istore_n (dd_X9_goHome_1 (4, .istore_n 1, 1) (List.mem_of_getElem? (i := 2) rfl)) rfl, ?_⟩
  refine List.forall_mem_cons.mpr ⟨s_iconst (dd_X9_goHome_1 (5, .iconst 0, 1) (List.mem_of_getElem? (i := 3) rfl)) rfl, ?_⟩
  refine List.forall_mem_cons.mpr ⟨s_istore_n (dd_X9_goHome_1 (6, .istore_n 2, 1) (List.mem_of_getElem? (i := 4) rfl)) rfl, ?_⟩
  refine List.forall_mem_cons.mpr ⟨s_iload_n (dd_X9_goHome_1 (7, .iload_n 2, 1) (List.mem_of_getElem? (i := 5) rfl)) rfl, ?_⟩
  refine List.forall_mem_cons.mpr ⟨s_aload_n (dd_X9_goHome_1 (8, .aload_n 0, 1) (List.mem_of_getElem? (i := 6) rfl)) rfl, ?_⟩
  refine List.forall_mem_cons.mpr ⟨s_getI (k := 2) K9 (by decide) (dd_X9_goHome_1 (9, .getfield 91, 3) (List.mem_of_getElem? (i := 7) rfl)) ow_X9_goHome fl9_91 rfl, ?_⟩
  refine List.forall_mem_cons.mpr ⟨s_icmp_ge (dd_X9_goHome_1 (12, .if_icmp .ge 26, 3) (List.mem_of_getElem? (i := 8) rfl)) (by decide), ?_⟩
  refine List.forall_mem_cons.mpr ⟨s_aload_n (dd_X9_goHome_1 (15, .aload_n 0, 1) (List.mem_of_getElem? (i := 9) rfl)) rfl, ?_⟩
  refine List.forall_mem_cons.mpr ⟨s_getR (k := 9) K9 (by decide) (dd_X9_goHome_1 (16, .getfield 25, 3) (List.mem_of_getElem? (i := 10) rfl)) ow_X9_goHome fl9_25 rfl, ?_⟩
  refine List.forall_mem_cons.mpr ⟨s_bipush (dd_X9_goHome_1 (19, .bipush 17, 2) (List.mem_of_getElem? (i := 11) rfl)) rfl, ?_⟩
  refine List.forall_mem_cons.mpr ⟨s_iload_n (dd_X9_goHome_1 (21, .iload_n 2, 1) (List.mem_of_getElem? (i := 12) rfl)) rfl, ?_⟩
  refine List.forall_mem_cons.mpr ⟨s_iadd (dd_X9_goHome_1 (22, .iadd, 1) (List.mem_of_getElem? (i := 13) rfl)), ?_⟩
  refine List.forall_mem_cons.mpr ⟨s_dup2 (dd_X9_goHome_1 (23, .dup2, 1) (List.mem_of_getElem? (i := 14) rfl)), ?_⟩
  refine List.forall_mem_cons.mpr ⟨s_iald (dd_X9_goHome_1 (24, .iaload, 1) (List.mem_of_getElem? (i := 15) rfl)), ?_⟩
  refine List.forall_mem_cons.mpr ⟨s_iload_n (dd_X9_goHome_1 (25, .iload_n 1, 1) (List.mem_of_getElem? (i := 16) rfl)) rfl, ?_⟩
  refine List.forall_mem_cons.mpr ⟨s_iload_n (dd_X9_goHome_1 (26, .iload_n 2, 1) (List.mem_of_getElem? (i := 17) rfl)) rfl, ?_⟩
  refine List.forall_mem_cons.mpr ⟨s_ishr (dd_X9_goHome_1 (27, .ishr, 1) (List.mem_of_getElem? (i := 18) rfl)), ?_⟩
  refine List.forall_mem_cons.mpr ⟨s_iconst (dd_X9_goHome_1 (28, .iconst 1, 1) (List.mem_of_getElem? (i := 19) rfl)) rfl, ?_⟩
  refine List.forall_mem_cons.mpr ⟨s_iand (dd_X9_goHome_1 (29, .iand, 1) (List.mem_of_getElem? (i := 20) rfl)), ?_⟩
  refine List.forall_mem_cons.mpr ⟨s_iadd (dd_X9_goHome_1 (30, .iadd, 1) (List.mem_of_getElem? (i := 21) rfl)), ?_⟩
  refine List.forall_mem_cons.mpr ⟨s_iast (dd_X9_goHome_1 (31, .iastore, 1) (List.mem_of_getElem? (i := 22) rfl)), ?_⟩
  refine List.forall_mem_cons.mpr ⟨s_iinc (dd_X9_goHome_1 (32, .iinc 2 1, 3) (List.mem_of_getElem? (i := 23) rfl)) rfl, ?_⟩
  refine List.forall_mem_cons.mpr ⟨s_goto (dd_X9_goHome_1 (35, .goto (-28), 3) (List.mem_of_getElem? (i := 24) rfl)) (by decide), ?_⟩
  refine List.forall_mem_cons.mpr ⟨s_iconst (dd_X9_goHome_1 (38, .iconst 0, 1) (List.mem_of_getElem? (i := 25) rfl)) rfl, ?_⟩
  refine List.forall_mem_cons.mpr ⟨s_istore_n (dd_X9_goHome_1 (39, .istore_n 2, 1) (List.mem_of_getElem? (i := 26) rfl)) rfl, ?_⟩
  refine List.forall_mem_cons.mpr ⟨s_iload_n (dd_X9_goHome_1 (40, .iload_n 2, 1) (List.mem_of_getElem? (i := 27) rfl)) rfl, ?_⟩
  refine List.forall_mem_cons.mpr ⟨s_aload_n (dd_X9_goHome_1 (41, .aload_n 0, 1) (List.mem_of_getElem? (i := 28) rfl)) rfl, ?_⟩
  refine List.forall_mem_cons.mpr ⟨s_getI (k := 6) K9 (by decide) (dd_X9_goHome_1 (42, .getfield 98, 3) (List.mem_of_getElem? (i := 29) rfl)) ow_X9_goHome fl9_98 rfl, ?_⟩
  refine List.forall_mem_cons.mpr ⟨s_icmp_ge (dd_X9_goHome_1 (45, .if_icmp .ge 35, 3) (List.mem_of_getElem? (i := 30) rfl)) (by decide), ?_⟩
  refine List.forall_mem_cons.mpr ⟨s_aload_n (dd_X9_goHome_1 (48, .aload_n 0, 1) (List.mem_of_getElem? (i := 31) rfl)) rfl, ?_⟩
  refine List.forall_mem_cons.mpr ⟨s_getR (k := 9) K9 (by decide) (dd_X9_goHome_1 (49, .getfield 25, 3) (List.mem_of_getElem? (i := 32) rfl)) ow_X9_goHome fl9_25 rfl, ?_⟩
  refine List.forall_mem_cons.mpr ⟨s_iload_n (dd_X9_goHome_1 (52, .iload_n 2, 1) (List.mem_of_getElem? (i := 33) rfl)) rfl, ?_⟩
  refine List.forall_mem_cons.mpr ⟨s_aload_n (dd_X9_goHome_1 (53, .aload_n 0, 1) (List.mem_of_getElem? (i := 34) rfl)) rfl, ?_⟩
  refine List.forall_mem_cons.mpr ⟨s_getR (k := 9) K9 (by decide) (dd_X9_goHome_1 (54, .getfield 25, 3) (List.mem_of_getElem? (i := 35) rfl)) ow_X9_goHome fl9_25 rfl, ?_⟩
  refine List.forall_mem_cons.mpr ⟨s_iload_n (dd_X9_goHome_1 (57, .iload_n 2, 1) (List.mem_of_getElem? (i := 36) rfl)) rfl, ?_⟩
  refine List.forall_mem_cons.mpr ⟨s_iald (dd_X9_goHome_1 (58, .iaload, 1) (List.mem_of_getElem? (i := 37) rfl)), ?_⟩
  refine List.forall_mem_cons.mpr ⟨s_iconst (dd_X9_goHome_1 (59, .iconst 1, 1) (List.mem_of_getElem? (i := 38) rfl)) rfl, ?_⟩
  refine List.forall_mem_cons.mpr ⟨s_icmp_ne (dd_X9_goHome_1 (60, .if_icmp .ne 7, 3) (List.mem_of_getElem? (i := 39) rfl)) (by decide), ?_⟩
  refine List.forall_mem_cons.mpr ⟨s_iconst (dd_X9_goHome_1 (63, .iconst 3, 1) (List.mem_of_getElem? (i := 40) rfl)) rfl, ?_⟩
  refine List.forall_mem_cons.mpr ⟨s_goto (dd_X9_goHome_1 (64, .goto 9, 3) (List.mem_of_getElem? (i := 41) rfl)) (by decide), ?_⟩
  refine List.forall_mem_cons.mpr ⟨s_aload_n (dd_X9_goHome_1 (67, .aload_n 0, 1) (List.mem_of_getElem? (i := 42) rfl)) rfl, ?_⟩
  refine List.forall_mem_cons.mpr ⟨s_getR (k := 9) K9 (by decide) (dd_X9_goHome_1 (68, .getfield 25, 3) (List.mem_of_getElem? (i := 43) rfl)) ow_X9_goHome fl9_25 rfl, ?_⟩
  refine List.forall_mem_cons.mpr ⟨s_iload_n (dd_X9_goHome_1 (71, .iload_n 2, 1) (List.mem_of_getElem? (i := 44) rfl)) rfl, ?_⟩
  refine List.forall_mem_cons.mpr ⟨s_iald (dd_X9_goHome_1 (72, .iaload, 1) (List.mem_of_getElem? (i := 45) rfl)), ?_⟩
  refine List.forall_mem_cons.mpr ⟨s_iast (dd_X9_goHome_1 (73, .iastore, 1) (List.mem_of_getElem? (i := 46) rfl)), ?_⟩
  refine List.forall_mem_cons.mpr ⟨s_iinc (dd_X9_goHome_1 (74, .iinc 2 1, 3) (List.mem_of_getElem? (i := 47) rfl)) rfl, ?_⟩
  refine List.forall_mem_cons.mpr ⟨s_goto (dd_X9_goHome_1 (77, .goto (-37), 3) (List.mem_of_getElem? (i := 48) rfl)) (by decide), ?_⟩
  refine List.forall_mem_cons.mpr ⟨s_aload_n (dd_X9_goHome_1 (80, .aload_n 0, 1) (List.mem_of_getElem? (i := 49) rfl)) rfl, ?_⟩
  refine List.forall_mem_cons.mpr ⟨s_getR (k := 9) K9 (by decide) (dd_X9_goHome_1 (81, .getfield 25, 3) (List.mem_of_getElem? (i := 50) rfl)) ow_X9_goHome fl9_25 rfl, ?_⟩
  refine List.forall_mem_cons.mpr ⟨s_bipush (dd_X9_goHome_1 (84, .bipush 14, 2) (List.mem_of_getElem? (i := 51) rfl)) rfl, ?_⟩
  refine List.forall_mem_cons.mpr ⟨s_dup2 (dd_X9_goHome_1 (86, .dup2, 1) (List.mem_of_getElem? (i := 52) rfl)), ?_⟩
  refine List.forall_mem_cons.mpr ⟨s_iald (dd_X9_goHome_1 (87, .iaload, 1) (List.mem_of_getElem? (i := 53) rfl)), ?_⟩
  refine List.forall_mem_cons.mpr ⟨s_iconst (dd_X9_goHome_1 (88, .iconst 1, 1) (List.mem_of_getElem? (i := 54) rfl)) rfl, ?_⟩
  refine List.forall_mem_cons.mpr ⟨s_iadd (dd_X9_goHome_1 (89, .iadd, 1) (List.mem_of_getElem? (i := 55) rfl)), ?_⟩
  refine List.forall_mem_cons.mpr ⟨s_iast (dd_X9_goHome_1 (90, .iastore, 1) (List.mem_of_getElem? (i := 56) rfl)), ?_⟩
  refine List.forall_mem_cons.mpr ⟨s_aload_n (dd_X9_goHome_1 (91, .aload_n 0, 1) (List.mem_of_getElem? (i := 57) rfl)) rfl, ?_⟩
  refine List.forall_mem_cons.mpr ⟨s_getR (k := 9) K9 (by decide) (dd_X9_goHome_1 (92, .getfield 25, 3) (List.mem_of_getElem? (i := 58) rfl)) ow_X9_goHome fl9_25 rfl, ?_⟩
  refine List.forall_mem_cons.mpr ⟨s_bipush (dd_X9_goHome_1 (95, .bipush 15, 2) (List.mem_of_getElem? (i := 59) rfl)) rfl, ?_⟩
  exact fun _ h => absurd h List.not_mem_nil
def D_X9_goHome_2 : List (Nat × Instr × Nat) := [(97, .iconst 0, 1), (98, .iastore, 1), (99, .iload_n 1, 1), (100, .ireturn, 1)]
theorem dd_X9_goHome_2 : ∀ e ∈ D_X9_goHome_2, decode (mtJ 155).2.1 e.1 = .ok e.2 := by decide +kernel
set_option maxRecDepth 10000 in
theorem so_X9_goHome_2 : ∀ e ∈ o_X9_goHome_2, SndO 155 e.1 e.2 := by
  refine List.forall_mem_cons.mpr ⟨s_iconst (dd_X9_goHome_2 (97, .iconst 0, 1) (List.mem_of_getElem? (i := 0) rfl)) rfl, ?_⟩
  refine List.forall_mem_cons.mpr ⟨s_iast (dd_X9_goHome_2 (98, .iastore, 1) (List.mem_of_getElem? (i := 1) rfl)), ?_⟩
  refine List.forall_mem_cons.mpr ⟨s_iload_n (dd_X9_goHome_2 (99, .iload_n 1, 1) (List.mem_of_getElem? (i := 2) rfl)) rfl, ?_⟩
  refine List.forall_mem_cons.mpr ⟨Or.inr (Or.inl ⟨rfl, (dd_X9_goHome_2 (100, .ireturn, 1) (List.mem_of_getElem? (i := 3) rfl)), rfl⟩), ?_⟩
  exact fun _ h => absurd h List.not_mem_nil
theorem so_X9_goHome : ∀ e ∈ o_X9_goHome, SndO 155 e.1 e.2 := List.forall_mem_append.mpr ⟨so_X9_goHome_1, so_X9_goHome_2⟩

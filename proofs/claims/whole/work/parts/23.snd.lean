/-! every instruction, written by program -/
theorem ow_X8_child : (mtJ 89).1.cls = "SatchelSins" := rfl
def D_X8_child : List (Nat × Instr × Nat) := [(0, .aload_n 0, 1), (1, .getfield 20, 3), (4, .iload_n 1, 1), (5, .invokevirtual 143, 3), (8, .ifCond .ne 6, 3), (11, .ldc 147, 2), (13, .ireturn, 1), (14, .iload_n 2, 1), (15, .tableswitch 122 0 7 #[45, 55, 65, 74, 83, 93, 103, 112], 45), (60, .aload_n 0, 1), (61, .getfield 20, 3), (64, .getfield 148, 3), (67, .iload_n 1, 1), (68, .iaload, 1), (69, .ireturn, 1), (70, .aload_n 0, 1), (71, .getfield 20, 3), (74, .getfield 151, 3), (77, .iload_n 1, 1), (78, .iaload, 1), (79, .ireturn, 1), (80, .aload_n 0, 1), (81, .getfield 41, 3), (84, .iload_n 1, 1), (85, .invokevirtual 154, 3), (88, .ireturn, 1), (89, .aload_n 0, 1), (90, .getfield 41, 3), (93, .iload_n 1, 1), (94, .invokevirtual 157, 3), (97, .ireturn, 1), (98, .aload_n 0, 1), (99, .getfield 41, 3), (102, .iconst 1, 1), (103, .iload_n 1, 1), (104, .invokevirtual 160, 3), (107, .ireturn, 1), (108, .aload_n 0, 1), (109, .getfield 41, 3), (112, .iconst 3, 1), (113, .iload_n 1, 1), (114, .invokevirtual 160, 3), (117, .ireturn, 1), (118, .aload_n 0, 1), (119, .getfield 41, 3), (122, .iload_n 1, 1), (123, .invokevirtual 164, 3), (126, .ireturn, 1), (127, .aload_n 0, 1), (128, .getfield 20, 3), (131, .getfield 167, 3), (134, .iload_n 1, 1), (135, .iaload, 1), (136, .ireturn, 1), (137, .ldc 85, 2), (139, .ireturn, 1)]
theorem dd_X8_child : ∀ e ∈ D_X8_child, decode (mtJ 89).2.1 e.1 = .ok e.2 := by decide +kernel
set_option maxRecDepth 10000 in
theorem so_X8_child : ∀ e ∈ o_X8_child, SndO 89 e.1 e.2 := by
  refine List.forall_mem_cons.mpr ⟨s_aload_n (dd_X8_child (0, .aload_n 0, 1) (List.mem_of_getElem? (i := 0) rfl)) rfl, ?_⟩
  refine List.forall_mem_cons.mpr ⟨s_getR (k := 3) K8 (by decide) (dd_X8_child (1, .getfield 20, 3) (List.mem_of_getElem? (i := 1) rfl)) ow_X8_child fl8_20 rfl, ?_⟩
  refine List.forall_mem_cons.mpr ⟨s_iload_n (dd_X8_child (4, .iload_n 1, 1) (List.mem_of_getElem? (i := 2) rfl)) rfl, ?_⟩
  refine List.forall_mem_cons.mpr ⟨⟨s_callV (ci := 5) rfl mo66 rfl rfl (dd_X8_child (5, .invokevirtual 143, 3) (List.mem_of_getElem? (i := 3) rfl)) ow_X8_child ml8_143 mi66 msl66 in_5 mn66, mo66⟩, ?_⟩
  refine List.forall_mem_cons.mpr ⟨s_if_ne (dd_X8_child (8, .ifCond .ne 6, 3) (List.mem_of_getElem? (i := 4) rfl)) (by decide), ?_⟩
  refine List.forall_mem_cons.mpr ⟨s_ldc (dd_X8_child (11, .ldc 147, 2) (List.mem_of_getElem? (i := 5) rfl)) ow_X8_child ki8_147, ?_⟩
  refine List.forall_mem_cons.mpr ⟨Or.inr (Or.inl ⟨rfl, (dd_X8_child (13, .ireturn, 1) (List.mem_of_getElem? (i := 6) rfl)), rfl⟩), ?_⟩
  refine List.forall_mem_cons.mpr ⟨s_iload_n (dd_X8_child (14, .iload_n 2, 1) (List.mem_of_getElem? (i := 7) rfl)) rfl, ?_⟩
  refine List.forall_mem_cons.mpr ⟨s_tsw (dd_X8_child (15, .tableswitch 122 0 7 #[45, 55, 65, 74, 83, 93, 103, 112], 45) (List.mem_of_getElem? (i := 8) rfl)) (by decide) (by decide) (by decide), ?_⟩
  refine List.forall_mem_cons.mpr ⟨s_aload_n (dd_X8_child (60, .aload_n 0, 1) (List.mem_of_getElem? (i := 9) rfl)) rfl, ?_⟩
  refine List.forall_mem_cons.mpr ⟨s_getR (k := 3) K8 (by decide) (dd_X8_child (61, .getfield 20, 3) (List.mem_of_getElem? (i := 10) rfl)) ow_X8_child fl8_20 rfl, ?_⟩
  refine List.forall_mem_cons.mpr ⟨s_getR (k := 4) K5 (by decide) (dd_X8_child (64, .getfield 148, 3) (List.mem_of_getElem? (i := 11) rfl)) ow_X8_child fl8_148 rfl, ?_⟩
  refine List.forall_mem_cons.mpr ⟨s_iload_n (dd_X8_child (67, .iload_n 1, 1) (List.mem_of_getElem? (i := 12) rfl)) rfl, ?_⟩
  refine List.forall_mem_cons.mpr ⟨s_iald (dd_X8_child (68, .iaload, 1) (List.mem_of_getElem? (i := 13) rfl)), ?_⟩
  refine List.forall_mem_cons.mpr ⟨Or.inr (Or.inl ⟨rfl, (dd_X8_child (69, .ireturn, 1) (List.mem_of_getElem? (i := 14) rfl)), rfl⟩), ?_⟩
  refine List.forall_mem_cons.mpr ⟨s_aload_n (dd_X8_child (70, .aload_n 0, 1) (List.mem_of_getElem? (i := 15) rfl)) rfl, ?_⟩
  refine List.forall_mem_cons.mpr ⟨s_getR (k := 3) K8 (by decide) (dd_X8_child (71, .getfield 20, 3) (List.mem_of_getElem? (i := 16) rfl)) ow_X8_child fl8_20 rfl, ?_⟩
  refine List.forall_mem_cons.mpr ⟨s_getR (k := 5) K5 (by decide) (dd_X8_child (74, .getfield 151, 3) (List.mem_of_getElem? (i := 17) rfl)) ow_X8_child fl8_151 rfl, ?_⟩
  refine List.forall_mem_cons.mpr ⟨s_iload_n (dd_X8_child (77, .iload_n 1, 1) (List.mem_of_getElem? (i := 18) rfl)) rfl, ?_⟩
  refine List.forall_mem_cons.mpr ⟨s_iald (dd_X8_child (78, .iaload, 1) (List.mem_of_getElem? (i := 19) rfl)), ?_⟩
  refine List.forall_mem_cons.mpr ⟨Or.inr (Or.inl ⟨rfl, (dd_X8_child (79, .ireturn, 1) (List.mem_of_getElem? (i := 20) rfl)), rfl⟩), ?_⟩
  refine List.forall_mem_cons.mpr ⟨s_aload_n (dd_X8_child (80, .aload_n 0, 1) (List.mem_of_getElem? (i := 21) rfl)) rfl, ?_⟩
  refine List.forall_mem_cons.mpr ⟨s_getR (k := 6) K8 (by decide) (dd_X8_child (81, .getfield 41, 3) (List.mem_of_getElem? (i := 22) rfl)) ow_X8_child fl8_41 rfl, ?_⟩
  refine List.forall_mem_cons.mpr ⟨s_iload_n (dd_X8_child (84, .iload_n 1, 1) (List.mem_of_getElem? (i := 23) rfl)) rfl, ?_⟩
  refine List.forall_mem_cons.mpr ⟨⟨s_callV (ci := 0) rfl mo9 rfl rfl (dd_X8_child (85, .invokevirtual 154, 3) (List.mem_of_getElem? (i := 24) rfl)) ow_X8_child ml8_154 mi9 msl9 in_0 mn9, mo9⟩, ?_⟩
  refine List.forall_mem_cons.mpr ⟨Or.inr (Or.inl ⟨rfl, (dd_X8_child (88, .ireturn, 1) (List.mem_of_getElem? (i := 25) rfl)), rfl⟩), ?_⟩
  refine List.forall_mem_cons.mpr ⟨s_aload_n (dd_X8_child (89, .aload_n 0, 1) (List.mem_of_getElem? (i := 26) rfl)) rfl, ?_⟩
  refine List.forall_mem_cons.mpr ⟨s_getR (k := 6) K8 (by decide) (dd_X8_child (90, .getfield 41, 3) (List.mem_of_getElem? (i := 27) rfl)) ow_X8_child fl8_41 rfl, ?_⟩
  refine List.forall_mem_cons.mpr ⟨s_iload_n (dd_X8_child (93, .iload_n 1, 1) (List.mem_of_getElem? (i := 28) rfl)) rfl, ?_⟩
  refine List.forall_mem_cons.mpr ⟨⟨s_callV (ci := 0) rfl mo13 rfl rfl (dd_X8_child (94, .invokevirtual 157, 3) (List.mem_of_getElem? (i := 29) rfl)) ow_X8_child ml8_157 mi13 msl13 in_0 mn13, mo13⟩, ?_⟩
  refine List.forall_mem_cons.mpr ⟨Or.inr (Or.inl ⟨rfl, (dd_X8_child (97, .ireturn, 1) (List.mem_of_getElem? (i := 30) rfl)), rfl⟩), ?_⟩
  refine List.forall_mem_cons.mpr ⟨s_aload_n (dd_X8_child (98, .aload_n 0, 1) (List.mem_of_getElem? (i := 31) rfl)) rfl, ?_⟩
  refine List.forall_mem_cons.mpr ⟨s_getR (k := 6) K8 (by decide) (dd_X8_child (99, .getfield 41, 3) (List.mem_of_getElem? (i := 32) rfl)) ow_X8_child fl8_41 rfl, ?_⟩
  refine List.forall_mem_cons.mpr ⟨s_iconst (dd_X8_child (102, .iconst 1, 1) (List.mem_of_getElem? (i := 33) rfl)) rfl, ?_⟩
  refine List.forall_mem_cons.mpr ⟨s_iload_n (dd_X8_child (103, .iload_n 1, 1) (List.mem_of_getElem? (i := 34) rfl)) rfl, ?_⟩
  refine List.forall_mem_cons.mpr ⟨⟨s_callV (ci := 0) rfl mo17 rfl rfl (dd_X8_child (104, .invokevirtual 160, 3) (List.mem_of_getElem? (i := 35) rfl)) ow_X8_child ml8_160 mi17 msl17 in_0 mn17, mo17⟩, ?_⟩
  refine List.forall_mem_cons.mpr ⟨Or.inr (Or.inl ⟨rfl, (dd_X8_child (107, .ireturn, 1) (List.mem_of_getElem? (i := 36) rfl)), rfl⟩), ?_⟩
  refine List.forall_mem_cons.mpr ⟨s_aload_n (dd_X8_child (108, .aload_n 0, 1) (List.mem_of_getElem? (i := 37) rfl)) rfl, ?_⟩
  refine List.forall_mem_cons.mpr ⟨s_getR (k := 6) K8 (by decide) (dd_X8_child (109, .getfield 41, 3) (List.mem_of_getElem? (i := 38) rfl)) ow_X8_child fl8_41 rfl, ?_⟩
  refine List.forall_mem_cons.mpr ⟨s_iconst (dd_X8_child (112, .iconst 3, 1) (List.mem_of_getElem? (i := 39) rfl)) rfl, ?_⟩
  refine List.forall_mem_cons.mpr ⟨s_iload_n (dd_X8_child (113, .iload_n 1, 1) (List.mem_of_getElem? (i := 40) rfl)) rfl, ?_⟩
  refine List.forall_mem_cons.mpr ⟨⟨s_callV (ci := 0) rfl mo17 rfl rfl (dd_X8_child (114, .invokevirtual 160, 3) (List.mem_of_getElem? (i := 41) rfl)) ow_X8_child ml8_160 mi17 msl17 in_0 mn17, mo17⟩, ?_⟩
  refine List.forall_mem_cons.mpr ⟨Or.inr (Or.inl ⟨rfl, (dd_X8_child (117, .ireturn, 1) (List.mem_of_getElem? (i := 42) rfl)), rfl⟩), ?_⟩
  refine List.forall_mem_cons.mpr ⟨s_aload_n (dd_X8_child (118, .aload_n 0, 1) (List.mem_of_getElem? (i := 43) rfl)) rfl, ?_⟩
  refine List.forall_mem_cons.mpr ⟨s_getR (k := 6) K8 (by decide) (dd_X8_child (119, .getfield 41, 3) (List.mem_of_getElem? (i := 44) rfl)) ow_X8_child fl8_41 rfl, ?_⟩
  refine List.forall_mem_cons.mpr ⟨s_iload_n (dd_X8_child (122, .iload_n 1, 1) (List.mem_of_getElem? (i := 45) rfl)) rfl, ?_⟩
  refine List.forall_mem_cons.mpr ⟨⟨s_callV (ci := 0) rfl mo5 rfl rfl (dd_X8_child (123, .invokevirtual 164, 3) (List.mem_of_getElem? (i := 46) rfl)) ow_X8_child ml8_164 mi5 msl5 in_0 mn5, mo5⟩, ?_⟩
  refine List.forall_mem_cons.mpr ⟨Or.inr (Or.inl ⟨rfl, (dd_X8_child (126, .ireturn, 1) (List.mem_of_getElem? (i := 47) rfl)), rfl⟩), ?_⟩
  refine List.forall_mem_cons.mpr ⟨s_aload_n (dd_X8_child (127, .aload_n 0, 1) (List.mem_of_getElem? (i := 48) rfl)) rfl, ?_⟩
  refine List.forall_mem_cons.mpr ⟨s_getR (k := 3) K8 (by decide) (dd_X8_child (128, .getfield 20, 3) (List.mem_of_getElem? (i := 49) rfl)) ow_X8_child fl8_20 rfl, ?_⟩
  refine List.forall_mem_cons.mpr ⟨s_getR (k := 6) K5 (by decide) (dd_X8_child (131, .getfield 167, 3) (List.mem_of_getElem? (i := 50) rfl)) ow_X8_child fl8_167 rfl, ?_⟩
  refine List.forall_mem_cons.mpr ⟨s_iload_n (dd_X8_child (134, .iload_n 1, 1) (List.mem_of_getElem? (i := 51) rfl)) rfl, ?_⟩
  refine List.forall_mem_cons.mpr ⟨s_iald (dd_X8_child (135, .iaload, 1) (List.mem_of_getElem? (i := 52) rfl)), ?_⟩
  refine List.forall_mem_cons.mpr ⟨Or.inr (Or.inl ⟨rfl, (dd_X8_child (136, .ireturn, 1) (List.mem_of_getElem? (i := 53) rfl)), rfl⟩), ?_⟩
  refine List.forall_mem_cons.mpr ⟨s_ldc (dd_X8_child (137, .ldc 85, 2) (List.mem_of_getElem? (i := 54) rfl)) ow_X8_child ki8_85, ?_⟩
  refine List.forall_mem_cons.mpr ⟨Or.inr (Or.inl ⟨rfl, (dd_X8_child (139, .ireturn, 1) (List.mem_of_getElem? (i := 55) rfl)), rfl⟩), ?_⟩
  exact fun _ h => absurd h List.not_mem_nil
theorem ow_X8_deed : (mtJ 90).1.cls = "SatchelSins" := rfl
def D_X8_deed : List (Nat × Instr × Nat) := [(0, .aload_n 0, 1), (1, .getfield 20, 3), (4, .iload_n 1, 1), (5, .invokevirtual 170, 3), (8, .ifCond .ne 6, 3), (11, .ldc 147, 2), (13, .ireturn, 1), (14, .iload_n 2, 1), (15, .tableswitch 67 0 3 #[29, 39, 49, 58], 29), (44, .aload_n 0, 1), (45, .getfield 20, 3), (48, .getfield 173, 3), (51, .iload_n 1, 1), (52, .iaload, 1), (53, .ireturn, 1), (54, .aload_n 0, 1), (55, .getfield 20, 3), (58, .getfield 176, 3), (61, .iload_n 1, 1), (62, .iaload, 1), (63, .ireturn, 1), (64, .aload_n 0, 1), (65, .getfield 41, 3), (68, .iload_n 1, 1), (69, .invokevirtual 179, 3), (72, .ireturn, 1), (73, .aload_n 0, 1), (74, .getfield 41, 3), (77, .iload_n 1, 1), (78, .invokevirtual 182, 3), (81, .ireturn, 1), (82, .ldc 85, 2), (84, .ireturn, 1)]
theorem dd_X8_deed : ∀ e ∈ D_X8_deed, decode (mtJ 90).2.1 e.1 = .ok e.2 := by decide +kernel
set_option maxRecDepth 10000 in
theorem so_X8_deed : ∀ e ∈ o_X8_deed, SndO 90 e.1 e.2 := by
  refine List.forall_mem_cons.mpr ⟨s_aload_n (dd_X8_deed (0, .aload_n 0, 1) (List.mem_of_getElem? (i := 0) rfl)) rfl, ?_⟩
  refine List.forall_mem_cons.mpr ⟨s_getR (k := 3) K8 (by decide) (dd_X8_deed (1, .getfield 20, 3) (List.mem_of_getElem? (i := 1) rfl)) ow_X8_deed fl8_20 rfl, ?_⟩
  refine List.forall_mem_cons.mpr ⟨s_iload_n (dd_X8_deed (4, .iload_n 1, 1) (List.mem_of_getElem? (i := 2) rfl)) rfl, ?_⟩
  refine List.forall_mem_cons.mpr ⟨⟨s_callV (ci := 5) rfl mo67 rfl rfl (dd_X8_deed (5, .invokevirtual 170, 3) (List.mem_of_getElem? (i := 3) rfl)) ow_X8_deed ml8_170 mi67 msl67 in_5 mn67, mo67⟩, ?_⟩
  refine List.forall_mem_cons.mpr ⟨s_if_ne (dd_X8_deed (8, .ifCond .ne 6, 3) (List.mem_of_getElem? (i := 4) rfl)) (by decide), ?_⟩
  refine List.forall_mem_cons.mpr ⟨s_ldc (dd_X8_deed (11, .ldc 147, 2) (List.mem_of_getElem? (i := 5) rfl)) ow_X8_deed ki8_147, ?_⟩
  refine List.forall_mem_cons.mpr ⟨Or.inr (Or.inl ⟨rfl, (dd_X8_deed (13, .ireturn, 1) (List.mem_of_getElem? (i := 6) rfl)), rfl⟩), ?_⟩
  refine List.forall_mem_cons.mpr ⟨s_iload_n (dd_X8_deed (14, .iload_n 2, 1) (List.mem_of_getElem? (i := 7) rfl)) rfl, ?_⟩
  refine List.forall_mem_cons.mpr ⟨s_tsw (dd_X8_deed (15, .tableswitch 67 0 3 #[29, 39, 49, 58], 29) (List.mem_of_getElem? (i := 8) rfl)) (by decide) (by decide) (by decide), ?_⟩
  refine List.forall_mem_cons.mpr ⟨s_aload_n (dd_X8_deed (44, .aload_n 0, 1) (List.mem_of_getElem? (i := 9) rfl)) rfl, ?_⟩
  refine List.forall_mem_cons.mpr ⟨s_getR (k := 3) K8 (by decide) (dd_X8_deed (45, .getfield 20, 3) (List.mem_of_getElem? (i := 10) rfl)) ow_X8_deed fl8_20 rfl, ?_⟩
  refine List.forall_mem_cons.mpr ⟨s_getR (k := 7) K5 (by decide) (dd_X8_deed (48, .getfield 173, 3) (List.mem_of_getElem? (i := 11) rfl)) ow_X8_deed fl8_173 rfl, ?_⟩
  refine List.forall_mem_cons.mpr ⟨s_iload_n (dd_X8_deed (51, .iload_n 1, 1) (List.mem_of_getElem? (i := 12) rfl)) rfl, ?_⟩
  refine List.forall_mem_cons.mpr ⟨s_iald (dd_X8_deed (52, .iaload, 1) (List.mem_of_getElem? (i := 13) rfl)), ?_⟩
  refine List.forall_mem_cons.mpr ⟨Or.inr (Or.inl ⟨rfl, (dd_X8_deed (53, .ireturn, 1) (List.mem_of_getElem? (i := 14) rfl)), rfl⟩), ?_⟩
  refine List.forall_mem_cons.mpr ⟨s_aload_n (dd_X8_deed (54, .aload_n 0, 1) (List.mem_of_getElem? (i := 15) rfl)) rfl, ?_⟩
  refine List.forall_mem_cons.mpr ⟨s_getR (k := 3) K8 (by decide) (dd_X8_deed (55, .getfield 20, 3) (List.mem_of_getElem? (i := 16) rfl)) ow_X8_deed fl8_20 rfl, ?_⟩
  refine List.forall_mem_cons.mpr ⟨s_getR (k := 8) K5 (by decide) (dd_X8_deed (58, .getfield 176, 3) (List.mem_of_getElem? (i := 17) rfl)) ow_X8_deed fl8_176 rfl, ?_⟩
  refine List.forall_mem_cons.mpr ⟨s_iload_n (dd_X8_deed (61, .iload_n 1, 1) (List.mem_of_getElem? (i := 18) rfl)) rfl, ?_⟩
  refine List.forall_mem_cons.mpr ⟨s_iald (dd_X8_deed (62, .iaload, 1) (List.mem_of_getElem? (i := 19) rfl)), ?_⟩
  refine List.forall_mem_cons.mpr ⟨Or.inr (Or.inl ⟨rfl, (dd_X8_deed (63, .ireturn, 1) (List.mem_of_getElem? (i := 20) rfl)), rfl⟩), ?_⟩
  refine List.forall_mem_cons.mpr ⟨s_aload_n (dd_X8_deed (64, .aload_n 0, 1) (List.mem_of_getElem? (i := 21) rfl)) rfl, ?_⟩
  refine List.forall_mem_cons.mpr ⟨s_getR (k := 6) K8 (by decide) (dd_X8_deed (65, .getfield 41, 3) (List.mem_of_getElem? (i := 22) rfl)) ow_X8_deed fl8_41 rfl, ?_⟩
  refine List.forall_mem_cons.mpr ⟨s_iload_n (dd_X8_deed (68, .iload_n 1, 1) (List.mem_of_getElem? (i := 23) rfl)) rfl, ?_⟩
  refine List.forall_mem_cons.mpr ⟨⟨s_callV (ci := 0) rfl mo6 rfl rfl (dd_X8_deed (69, .invokevirtual 179, 3) (List.mem_of_getElem? (i := 24) rfl)) ow_X8_deed ml8_179 mi6 msl6 in_0 mn6, mo6⟩, ?_⟩
  refine List.forall_mem_cons.mpr ⟨Or.inr (Or.inl ⟨rfl, (dd_X8_deed (72, .ireturn, 1) (List.mem_of_getElem? (i := 25) rfl)), rfl⟩), ?_⟩
  refine List.forall_mem_cons.mpr ⟨s_aload_n (dd_X8_deed (73, .aload_n 0, 1) (List.mem_of_getElem? (i := 26) rfl)) rfl, ?_⟩
  refine List.forall_mem_cons.mpr ⟨s_getR (k := 6) K8 (by decide) (dd_X8_deed (74, .getfield 41, 3) (List.mem_of_getElem? (i := 27) rfl)) ow_X8_deed fl8_41 rfl, ?_⟩
  refine List.forall_mem_cons.mpr ⟨s_iload_n (dd_X8_deed (77, .iload_n 1, 1) (List.mem_of_getElem? (i := 28) rfl)) rfl, ?_⟩
  refine List.forall_mem_cons.mpr ⟨⟨s_callV (ci := 0) rfl mo7 rfl rfl (dd_X8_deed (78, .invokevirtual 182, 3) (List.mem_of_getElem? (i := 29) rfl)) ow_X8_deed ml8_182 mi7 msl7 in_0 mn7, mo7⟩, ?_⟩
  refine List.forall_mem_cons.mpr ⟨Or.inr (Or.inl ⟨rfl, (dd_X8_deed (81, .ireturn, 1) (List.mem_of_getElem? (i := 30) rfl)), rfl⟩), ?_⟩
  refine List.forall_mem_cons.mpr ⟨s_ldc (dd_X8_deed (82, .ldc 85, 2) (List.mem_of_getElem? (i := 31) rfl)) ow_X8_deed ki8_85, ?_⟩
  refine List.forall_mem_cons.mpr ⟨Or.inr (Or.inl ⟨rfl, (dd_X8_deed (84, .ireturn, 1) (List.mem_of_getElem? (i := 32) rfl)), rfl⟩), ?_⟩
  exact fun _ h => absurd h List.not_mem_nil
theorem ow_X8_doIt : (mtJ 91).1.cls = "SatchelSins" := rfl
def D_X8_doIt : List (Nat × Instr × Nat) := [(0, .aload_n 0, 1), (1, .getfield 20, 3), (4, .iload_n 1, 1), (5, .invokevirtual 170, 3), (8, .ifCond .ne 6, 3), (11, .ldc 147, 2), (13, .ireturn, 1), (14, .aload_n 0, 1), (15, .getfield 41, 3), (18, .iload_n 1, 1), (19, .invokevirtual 185, 3), (22, .ifCond .ne 6, 3), (25, .ldc 188, 2), (27, .ireturn, 1), (28, .aload_n 0, 1), (29, .getfield 48, 3), (32, .aload_n 0, 1), (33, .getfield 41, 3), (36, .getfield 189, 3), (39, .invokevirtual 192, 3), (42, .aload_n 0, 1), (43, .getfield 41, 3), (46, .iload_n 1, 1), (47, .invokevirtual 196, 3), (50, .aload_n 0, 1), (51, .getfield 41, 3), (54, .aload_n 0, 1), (55, .getfield 20, 3), (58, .getfield 173, 3), (61, .iload_n 1, 1), (62, .iaload, 1), (63, .invokevirtual 154, 3), (66, .ireturn, 1)]
theorem dd_X8_doIt : ∀ e ∈ D_X8_doIt, decode (mtJ 91).2.1 e.1 = .ok e.2 := by decide +kernel
set_option maxRecDepth 10000 in
theorem so_X8_doIt : ∀ e ∈ o_X8_doIt, SndO 91 e.1 e.2 := by
  refine List.forall_mem_cons.mpr ⟨s_aload_n (dd_X8_doIt (0, .aload_n 0, 1) (List.mem_of_getElem? (i := 0) rfl)) rfl, ?_⟩
  refine List.forall_mem_cons.mpr ⟨s_getR (k := 3) K8 (by decide) (dd_X8_doIt (1, .getfield 20, 3) (List.mem_of_getElem? (i := 1) rfl)) ow_X8_doIt fl8_20 rfl, ?_⟩
  refine List.forall_mem_cons.mpr ⟨s_iload_n (dd_X8_doIt (4, .iload_n 1, 1) (List.mem_of_getElem? (i := 2) rfl)) rfl, ?_⟩
  refine List.forall_mem_cons.mpr ⟨⟨s_callV (ci := 5) rfl mo67 rfl rfl (dd_X8_doIt (5, .invokevirtual 170, 3) (List.mem_of_getElem? (i := 3) rfl)) ow_X8_doIt ml8_170 mi67 msl67 in_5 mn67, mo67⟩, ?_⟩
  refine List.forall_mem_cons.mpr ⟨s_if_ne (dd_X8_doIt (8, .ifCond .ne 6, 3) (List.mem_of_getElem? (i := 4) rfl)) (by decide), ?_⟩
  refine List.forall_mem_cons.mpr ⟨s_ldc (dd_X8_doIt (11, .ldc 147, 2) (List.mem_of_getElem? (i := 5) rfl)) ow_X8_doIt ki8_147, ?_⟩
  refine List.forall_mem_cons.mpr ⟨Or.inr (Or.inl ⟨rfl, (dd_X8_doIt (13, .ireturn, 1) (List.mem_of_getElem? (i := 6) rfl)), rfl⟩), ?_⟩
  refine List.forall_mem_cons.mpr ⟨s_aload_n (dd_X8_doIt (14, .aload_n 0, 1) (List.mem_of_getElem? (i := 7) rfl)) rfl, ?_⟩
  refine List.forall_mem_cons.mpr ⟨s_getR (k := 6) K8 (by decide) (dd_X8_doIt (15, .getfield 41, 3) (List.mem_of_getElem? (i := 8) rfl)) ow_X8_doIt fl8_41 rfl, ?_⟩
  refine List.forall_mem_cons.mpr ⟨s_iload_n (dd_X8_doIt (18, .iload_n 1, 1) (List.mem_of_getElem? (i := 9) rfl)) rfl, ?_⟩
  refine List.forall_mem_cons.mpr ⟨⟨s_callV (ci := 0) rfl mo19 rfl rfl (dd_X8_doIt (19, .invokevirtual 185, 3) (List.mem_of_getElem? (i := 10) rfl)) ow_X8_doIt ml8_185 mi19 msl19 in_0 mn19, mo19⟩, ?_⟩
  refine List.forall_mem_cons.mpr ⟨s_if_ne (dd_X8_doIt (22, .ifCond .ne 6, 3) (List.mem_of_getElem? (i := 11) rfl)) (by decide), ?_⟩
  refine List.forall_mem_cons.mpr ⟨s_ldc (dd_X8_doIt (25, .ldc 188, 2) (List.mem_of_getElem? (i := 12) rfl)) ow_X8_doIt ki8_188, ?_⟩
  refine List.forall_mem_cons.mpr ⟨Or.inr (Or.inl ⟨rfl, (dd_X8_doIt (27, .ireturn, 1) (List.mem_of_getElem? (i := 13) rfl)), rfl⟩), ?_⟩
  refine List.forall_mem_cons.mpr ⟨s_aload_n (dd_X8_doIt (28, .aload_n 0, 1) (List.mem_of_getElem? (i := 14) rfl)) rfl, ?_⟩
  refine List.forall_mem_cons.mpr ⟨s_getR (k := 7) K8 (by decide) (dd_X8_doIt (29, .getfield 48, 3) (List.mem_of_getElem? (i := 15) rfl)) ow_X8_doIt fl8_48 rfl, ?_⟩
  refine List.forall_mem_cons.mpr ⟨s_aload_n (dd_X8_doIt (32, .aload_n 0, 1) (List.mem_of_getElem? (i := 16) rfl)) rfl, ?_⟩
  refine List.forall_mem_cons.mpr ⟨s_getR (k := 6) K8 (by decide) (dd_X8_doIt (33, .getfield 41, 3) (List.mem_of_getElem? (i := 17) rfl)) ow_X8_doIt fl8_41 rfl, ?_⟩
  refine List.forall_mem_cons.mpr ⟨s_getR (k := 0) K0 (by decide) (dd_X8_doIt (36, .getfield 189, 3) (List.mem_of_getElem? (i := 18) rfl)) ow_X8_doIt fl8_189 rfl, ?_⟩
  refine List.forall_mem_cons.mpr ⟨⟨s_callV (ci := 3) rfl mo43 rfl rfl (dd_X8_doIt (39, .invokevirtual 192, 3) (List.mem_of_getElem? (i := 19) rfl)) ow_X8_doIt ml8_192 mi43 msl43 in_3 mn43, mo43⟩, ?_⟩
  refine List.forall_mem_cons.mpr ⟨s_aload_n (dd_X8_doIt (42, .aload_n 0, 1) (List.mem_of_getElem? (i := 20) rfl)) rfl, ?_⟩
  refine List.forall_mem_cons.mpr ⟨s_getR (k := 6) K8 (by decide) (dd_X8_doIt (43, .getfield 41, 3) (List.mem_of_getElem? (i := 21) rfl)) ow_X8_doIt fl8_41 rfl, ?_⟩
  refine List.forall_mem_cons.mpr ⟨s_iload_n (dd_X8_doIt (46, .iload_n 1, 1) (List.mem_of_getElem? (i := 22) rfl)) rfl, ?_⟩
  refine List.forall_mem_cons.mpr ⟨⟨s_callV (ci := 0) rfl mo24 rfl rfl (dd_X8_doIt (47, .invokevirtual 196, 3) (List.mem_of_getElem? (i := 23) rfl)) ow_X8_doIt ml8_196 mi24 msl24 in_0 mn24, mo24⟩, ?_⟩
  refine List.forall_mem_cons.mpr ⟨s_aload_n (dd_X8_doIt (50, .aload_n 0, 1) (List.mem_of_getElem? (i := 24) rfl)) rfl, ?_⟩
  refine List.forall_mem_cons.mpr ⟨s_getR (k := 6) K8 (by decide) (dd_X8_doIt (51, .getfield 41, 3) (List.mem_of_getElem? (i := 25) rfl)) ow_X8_doIt fl8_41 rfl, ?_⟩
  refine List.forall_mem_cons.mpr ⟨s_aload_n (dd_X8_doIt (54, .aload_n 0, 1) (List.mem_of_getElem? (i := 26) rfl)) rfl, ?_⟩
  refine List.forall_mem_cons.mpr ⟨s_getR (k := 3) K8 (by decide) (dd_X8_doIt (55, .getfield 20, 3) (List.mem_of_getElem? (i := 27) rfl)) ow_X8_doIt fl8_20 rfl, ?_⟩
  refine List.forall_mem_cons.mpr ⟨s_getR (k := 7) K5 (by decide) (dd_X8_doIt (58, .getfield 173, 3) (List.mem_of_getElem? (i := 28) rfl)) ow_X8_doIt fl8_173 rfl, ?_⟩
  refine List.forall_mem_cons.mpr ⟨s_iload_n (dd_X8_doIt (61, .iload_n 1, 1) (List.mem_of_getElem? (i := 29) rfl)) rfl, ?_⟩
  refine List.forall_mem_cons.mpr ⟨s_iald (dd_X8_doIt (62, .iaload, 1) (List.mem_of_getElem? (i := 30) rfl)), ?_⟩
  refine List.forall_mem_cons.mpr ⟨⟨s_callV (ci := 0) rfl mo9 rfl rfl (dd_X8_doIt (63, .invokevirtual 154, 3) (List.mem_of_getElem? (i := 31) rfl)) ow_X8_doIt ml8_154 mi9 msl9 in_0 mn9, mo9⟩, ?_⟩
  refine List.forall_mem_cons.mpr ⟨Or.inr (Or.inl ⟨rfl, (dd_X8_doIt (66, .ireturn, 1) (List.mem_of_getElem? (i := 32) rfl)), rfl⟩), ?_⟩
  exact fun _ h => absurd h List.not_mem_nil
theorem ow_X8_carry : (mtJ 92).1.cls = "SatchelSins" := rfl
def D_X8_carry : List (Nat × Instr × Nat) := [(0, .aload_n 0, 1), (1, .getfield 20, 3), (4, .iload_n 1, 1), (5, .invokevirtual 170, 3), (8, .ifCond .eq 14, 3), (11, .aload_n 0, 1), (12, .getfield 20, 3), (15, .iload_n 2, 1), (16, .invokevirtual 143, 3), (19, .ifCond .ne 6, 3), (22, .ldc 147, 2), (24, .ireturn, 1), (25, .aload_n 0, 1), (26, .getfield 41, 3), (29, .iload_n 1, 1), (30, .iload_n 2, 1), (31, .invokevirtual 200, 3), (34, .ifCond .ne 6, 3), (37, .ldc 188, 2), (39, .ireturn, 1), (40, .aload_n 0, 1), (41, .getfield 48, 3), (44, .aload_n 0, 1), (45, .getfield 41, 3), (48, .getfield 189, 3), (51, .invokevirtual 192, 3), (54, .aload_n 0, 1), (55, .getfield 41, 3), (58, .iload_n 1, 1), (59, .iload_n 2, 1), (60, .invokevirtual 204, 3), (63, .aload_n 0, 1), (64, .getfield 41, 3), (67, .iload_n 2, 1), (68, .invokevirtual 154, 3), (71, .ireturn, 1)]
theorem dd_X8_carry : ∀ e ∈ D_X8_carry, decode (mtJ 92).2.1 e.1 = .ok e.2 := by decide +kernel
set_option maxRecDepth 10000 in
theorem so_X8_carry : ∀ e ∈ o_X8_carry, SndO 92 e.1 e.2 := by
  refine List.forall_mem_cons.mpr ⟨s_aload_n (dd_X8_carry (0, .aload_n 0, 1) (List.mem_of_getElem? (i := 0) rfl)) rfl, ?_⟩
  refine List.forall_mem_cons.mpr ⟨s_getR (k := 3) K8 (by decide) (dd_X8_carry (1, .getfield 20, 3) (List.mem_of_getElem? (i := 1) rfl)) ow_X8_carry fl8_20 rfl, ?_⟩
  refine List.forall_mem_cons.mpr ⟨s_iload_n (dd_X8_carry (4, .iload_n 1, 1) (List.mem_of_getElem? (i := 2) rfl)) rfl, ?_⟩
  refine List.forall_mem_cons.mpr ⟨⟨s_callV (ci := 5) rfl mo67 rfl rfl (dd_X8_carry (5, .invokevirtual 170, 3) (List.mem_of_getElem? (i := 3) rfl)) ow_X8_carry ml8_170 mi67 msl67 in_5 mn67, mo67⟩, ?_⟩
  refine List.forall_mem_cons.mpr ⟨s_if_eq (dd_X8_carry (8, .ifCond .eq 14, 3) (List.mem_of_getElem? (i := 4) rfl)) (by decide), ?_⟩
  refine List.forall_mem_cons.mpr ⟨s_aload_n (dd_X8_carry (11, .aload_n 0, 1) (List.mem_of_getElem? (i := 5) rfl)) rfl, ?_⟩
  refine List.forall_mem_cons.mpr ⟨s_getR (k := 3) K8 (by decide) (dd_X8_carry (12, .getfield 20, 3) (List.mem_of_getElem? (i := 6) rfl)) ow_X8_carry fl8_20 rfl, ?_⟩
  refine List.forall_mem_cons.mpr ⟨s_iload_n (dd_X8_carry (15, .iload_n 2, 1) (List.mem_of_getElem? (i := 7) rfl)) rfl, ?_⟩
  refine List.forall_mem_cons.mpr ⟨⟨s_callV (ci := 5) rfl mo66 rfl rfl (dd_X8_carry (16, .invokevirtual 143, 3) (List.mem_of_getElem? (i := 8) rfl)) ow_X8_carry ml8_143 mi66 msl66 in_5 mn66, mo66⟩, ?_⟩
  refine List.forall_mem_cons.mpr ⟨s_if_ne (dd_X8_carry (19, .ifCond .ne 6, 3) (List.mem_of_getElem? (i := 9) rfl)) (by decide), ?_⟩
  refine List.forall_mem_cons.mpr ⟨s_ldc (dd_X8_carry (22, .ldc 147, 2) (List.mem_of_getElem? (i := 10) rfl)) ow_X8_carry ki8_147, ?_⟩
  refine List.forall_mem_cons.mpr ⟨Or.inr (Or.inl ⟨rfl, (dd_X8_carry (24, .ireturn, 1) (List.mem_of_getElem? (i := 11) rfl)), rfl⟩), ?_⟩
  refine List.forall_mem_cons.mpr ⟨s_aload_n (dd_X8_carry (25, .aload_n 0, 1) (List.mem_of_getElem? (i := 12) rfl)) rfl, ?_⟩
  refine List.forall_mem_cons.mpr ⟨s_getR (k := 6) K8 (by decide) (dd_X8_carry (26, .getfield 41, 3) (List.mem_of_getElem? (i := 13) rfl)) ow_X8_carry fl8_41 rfl, ?_⟩
  refine List.forall_mem_cons.mpr ⟨s_iload_n (dd_X8_carry (29, .iload_n 1, 1) (List.mem_of_getElem? (i := 14) rfl)) rfl, ?_⟩
  refine List.forall_mem_cons.mpr ⟨s_iload_n (dd_X8_carry (30, .iload_n 2, 1) (List.mem_of_getElem? (i := 15) rfl)) rfl, ?_⟩
  refine List.forall_mem_cons.mpr ⟨⟨s_callV (ci := 0) rfl mo20 rfl rfl (dd_X8_carry (31, .invokevirtual 200, 3) (List.mem_of_getElem? (i := 16) rfl)) ow_X8_carry ml8_200 mi20 msl20 in_0 mn20, mo20⟩, ?_⟩
  refine List.forall_mem_cons.mpr ⟨s_if_ne (dd_X8_carry (34, .ifCond .ne 6, 3) (List.mem_of_getElem? (i := 17) rfl)) (by decide), ?_⟩
  refine List.forall_mem_cons.mpr ⟨s_ldc (dd_X8_carry (37, .ldc 188, 2) (List.mem_of_getElem? (i := 18) rfl)) ow_X8_carry ki8_188, ?_⟩
  refine List.forall_mem_cons.mpr ⟨Or.inr (Or.inl ⟨rfl, (dd_X8_carry (39, .ireturn, 1) (List.mem_of_getElem? (i := 19) rfl)), rfl⟩), ?_⟩
  refine List.forall_mem_cons.mpr ⟨s_aload_n (dd_X8_carry (40, .aload_n 0, 1) (List.mem_of_getElem? (i := 20) rfl)) rfl, ?_⟩
  refine List.forall_mem_cons.mpr ⟨s_getR (k := 7) K8 (by decide) (dd_X8_carry (41, .getfield 48, 3) (List.mem_of_getElem? (i := 21) rfl)) ow_X8_carry fl8_48 rfl, ?_⟩
  refine List.forall_mem_cons.mpr ⟨s_aload_n (dd_X8_carry (44, .aload_n 0, 1) (List.mem_of_getElem? (i := 22) rfl)) rfl, ?_⟩
  refine List.forall_mem_cons.mpr ⟨s_getR (k := 6) K8 (by decide) (dd_X8_carry (45, .getfield 41, 3) (List.mem_of_getElem? (i := 23) rfl)) ow_X8_carry fl8_41 rfl, ?_⟩
  refine List.forall_mem_cons.mpr ⟨s_getR (k := 0) K0 (by decide) (dd_X8_carry (48, .getfield 189, 3) (List.mem_of_getElem? (i := 24) rfl)) ow_X8_carry fl8_189 rfl, ?_⟩
  refine List.forall_mem_cons.mpr ⟨⟨s_callV (ci := 3) rfl mo43 rfl rfl (dd_X8_carry (51, .invokevirtual 192, 3) (List.mem_of_getElem? (i := 25) rfl)) ow_X8_carry ml8_192 mi43 msl43 in_3 mn43, mo43⟩, ?_⟩
  refine List.forall_mem_cons.mpr ⟨s_aload_n (dd_X8_carry (54, .aload_n 0, 1) (List.mem_of_getElem? (i := 26) rfl)) rfl, ?_⟩
  refine List.forall_mem_cons.mpr ⟨s_getR (k := 6) K8 (by decide) (dd_X8_carry (55, .getfield 41, 3) (List.mem_of_getElem? (i := 27) rfl)) ow_X8_carry fl8_41 rfl, ?_⟩
  refine List.forall_mem_cons.mpr ⟨s_iload_n (dd_X8_carry (58, .iload_n 1, 1) (List.mem_of_getElem? (i := 28) rfl)) rfl, ?_⟩
  refine List.forall_mem_cons.mpr ⟨s_iload_n (dd_X8_carry (59, .iload_n 2, 1) (List.mem_of_getElem? (i := 29) rfl)) rfl, ?_⟩
  refine List.forall_mem_cons.mpr ⟨⟨s_callV (ci := 0) rfl mo25 rfl rfl (dd_X8_carry (60, .invokevirtual 204, 3) (List.mem_of_getElem? (i := 30) rfl)) ow_X8_carry ml8_204 mi25 msl25 in_0 mn25, mo25⟩, ?_⟩
  refine List.forall_mem_cons.mpr ⟨s_aload_n (dd_X8_carry (63, .aload_n 0, 1) (List.mem_of_getElem? (i := 31) rfl)) rfl, ?_⟩
  refine List.forall_mem_cons.mpr ⟨s_getR (k := 6) K8 (by decide) (dd_X8_carry (64, .getfield 41, 3) (List.mem_of_getElem? (i := 32) rfl)) ow_X8_carry fl8_41 rfl, ?_⟩
  refine List.forall_mem_cons.mpr ⟨s_iload_n (dd_X8_carry (67, .iload_n 2, 1) (List.mem_of_getElem? (i := 33) rfl)) rfl, ?_⟩
  refine List.forall_mem_cons.mpr ⟨⟨s_callV (ci := 0) rfl mo9 rfl rfl (dd_X8_carry (68, .invokevirtual 154, 3) (List.mem_of_getElem? (i := 34) rfl)) ow_X8_carry ml8_154 mi9 msl9 in_0 mn9, mo9⟩, ?_⟩
  refine List.forall_mem_cons.mpr ⟨Or.inr (Or.inl ⟨rfl, (dd_X8_carry (71, .ireturn, 1) (List.mem_of_getElem? (i := 35) rfl)), rfl⟩), ?_⟩
  exact fun _ h => absurd h List.not_mem_nil
theorem ow_X8_swap : (mtJ 93).1.cls = "SatchelSins" := rfl
def D_X8_swap : List (Nat × Instr × Nat) := [(0, .aload_n 0, 1), (1, .getfield 20, 3), (4, .iload_n 1, 1), (5, .invokevirtual 170, 3), (8, .ifCond .eq 19, 3), (11, .aload_n 0, 1), (12, .getfield 20, 3), (15, .iload_n 2, 1), (16, .invokevirtual 170, 3), (19, .ifCond .eq 8, 3), (22, .iload_n 1, 1), (23, .iload_n 2, 1), (24, .if_icmp .ne 6, 3), (27, .ldc 147, 2), (29, .ireturn, 1), (30, .aload_n 0, 1), (31, .getfield 41, 3), (34, .iload_n 1, 1), (35, .iload_n 2, 1), (36, .invokevirtual 208, 3), (39, .ifCond .ne 6, 3), (42, .ldc 188, 2), (44, .ireturn, 1), (45, .aload_n 0, 1), (46, .getfield 48, 3), (49, .aload_n 0, 1), (50, .getfield 41, 3), (53, .getfield 189, 3), (56, .invokevirtual 192, 3), (59, .aload_n 0, 1), (60, .getfield 41, 3), (63, .iload_n 1, 1), (64, .iload_n 2, 1), (65, .invokevirtual 211, 3), (68, .iconst 1, 1), (69, .ireturn, 1)]
theorem dd_X8_swap : ∀ e ∈ D_X8_swap, decode (mtJ 93).2.1 e.1 = .ok e.2 := by decide +kernel
set_option maxRecDepth 10000 in
theorem so_X8_swap : ∀ e ∈ o_X8_swap, SndO 93 e.1 e.2 := by
  refine List.forall_mem_cons.mpr ⟨s_aload_n (dd_X8_swap (0, .aload_n 0, 1) (List.mem_of_getElem? (i := 0) rfl)) rfl, ?_⟩
  refine List.forall_mem_cons.mpr ⟨s_getR (k := 3) K8 (by decide) (dd_X8_swap (1, .getfield 20, 3) (List.mem_of_getElem? (i := 1) rfl)) ow_X8_swap fl8_20 rfl, ?_⟩
  refine List.forall_mem_cons.mpr ⟨s_iload_n (dd_X8_swap (4, .iload_n 1, 1) (List.mem_of_getElem? (i := 2) rfl)) rfl, ?_⟩
  refine List.forall_mem_cons.mpr ⟨⟨s_callV (ci := 5) rfl mo67 rfl rfl (dd_X8_swap (5, .invokevirtual 170, 3) (List.mem_of_getElem? (i := 3) rfl)) ow_X8_swap ml8_170 mi67 msl67 in_5 mn67, mo67⟩, ?_⟩
  refine List.forall_mem_cons.mpr ⟨s_if_eq (dd_X8_swap (8, .ifCond .eq 19, 3) (List.mem_of_getElem? (i := 4) rfl)) (by decide), ?_⟩
  refine List.forall_mem_cons.mpr ⟨s_aload_n (dd_X8_swap (11, .aload_n 0, 1) (List.mem_of_getElem? (i := 5) rfl)) rfl, ?_⟩
  refine List.forall_mem_cons.mpr ⟨s_getR (k := 3) K8 (by decide) (dd_X8_swap (12, .getfield 20, 3) (List.mem_of_getElem? (i := 6) rfl)) ow_X8_swap fl8_20 rfl, ?_⟩
  refine List.forall_mem_cons.mpr ⟨s_iload_n (dd_X8_swap (15, .iload_n 2, 1) (List.mem_of_getElem? (i := 7) rfl)) rfl, ?_⟩
  refine List.forall_mem_cons.mpr ⟨⟨s_callV (ci := 5) rfl mo67 rfl rfl (dd_X8_swap (16, .invokevirtual 170, 3) (List.mem_of_getElem? (i := 8) rfl)) ow_X8_swap ml8_170 mi67 msl67 in_5 mn67, mo67⟩, ?_⟩
  refine List.forall_mem_cons.mpr ⟨s_if_eq (dd_X8_swap (19, .ifCond .eq 8, 3) (List.mem_of_getElem? (i := 9) rfl)) (by decide), ?_⟩
  refine List.forall_mem_cons.mpr ⟨s_iload_n (dd_X8_swap (22, .iload_n 1, 1) (List.mem_of_getElem? (i := 10) rfl)) rfl, ?_⟩
  refine List.forall_mem_cons.mpr ⟨s_iload_n (dd_X8_swap (23, .iload_n 2, 1) (List.mem_of_getElem? (i := 11) rfl)) rfl, ?_⟩
  refine List.forall_mem_cons.mpr ⟨s_icmp_ne (dd_X8_swap (24, .if_icmp .ne 6, 3) (List.mem_of_getElem? (i := 12) rfl)) (by decide), ?_⟩
  refine List.forall_mem_cons.mpr ⟨s_ldc (dd_X8_swap (27, .ldc 147, 2) (List.mem_of_getElem? (i := 13) rfl)) ow_X8_swap ki8_147, ?_⟩
  refine List.forall_mem_cons.mpr ⟨Or.inr (Or.inl ⟨rfl, (dd_X8_swap (29, .ireturn, 1) (List.mem_of_getElem? (i := 14) rfl)), rfl⟩), ?_⟩
  refine List.forall_mem_cons.mpr ⟨s_aload_n (dd_X8_swap (30, .aload_n 0, 1) (List.mem_of_getElem? (i := 15) rfl)) rfl, ?_⟩
  refine List.forall_mem_cons.mpr ⟨s_getR (k := 6) K8 (by decide) (dd_X8_swap (31, .getfield 41, 3) (List.mem_of_getElem? (i := 16) rfl)) ow_X8_swap fl8_41 rfl, ?_⟩
  refine List.forall_mem_cons.mpr ⟨s_iload_n (dd_X8_swap (34, .iload_n 1, 1) (List.mem_of_getElem? (i := 17) rfl)) rfl, ?_⟩
  refine List.forall_mem_cons.mpr ⟨s_iload_n (dd_X8_swap (35, .iload_n 2, 1) (List.mem_of_getElem? (i := 18) rfl)) rfl, ?_⟩
  refine List.forall_mem_cons.mpr ⟨⟨s_callV (ci := 0) rfl mo22 rfl rfl (dd_X8_swap (36, .invokevirtual 208, 3) (List.mem_of_getElem? (i := 19) rfl)) ow_X8_swap ml8_208 mi22 msl22 in_0 mn22, mo22⟩, ?_⟩
  refine List.forall_mem_cons.mpr ⟨s_if_ne (dd_X8_swap (39, .ifCond .ne 6, 3) (List.mem_of_getElem? (i := 20) rfl)) (by decide), ?_⟩
  refine List.forall_mem_cons.mpr ⟨s_ldc (dd_X8_swap (42, .ldc 188, 2) (List.mem_of_getElem? (i := 21) rfl)) ow_X8_swap ki8_188, ?_⟩
  refine List.forall_mem_cons.mpr ⟨Or.inr (Or.inl ⟨rfl, (dd_X8_swap (44, .ireturn, 1) (List.mem_of_getElem? (i := 22) rfl)), rfl⟩), ?_⟩
  refine List.forall_mem_cons.mpr ⟨s_aload_n (dd_X8_swap (45, .aload_n 0, 1) (List.mem_of_getElem? (i := 23) rfl)) rfl, ?_⟩
  refine List.forall_mem_cons.mpr ⟨s_getR (k := 7) K8 (by decide) (dd_X8_swap (46, .getfield 48, 3) (List.mem_of_getElem? (i := 24) rfl)) ow_X8_swap fl8_48 rfl, ?_⟩
  refine List.forall_mem_cons.mpr ⟨s_aload_n (dd_X8_swap (49, .aload_n 0, 1) (List.mem_of_getElem? (i := 25) rfl)) rfl, ?_⟩
  refine List.forall_mem_cons.mpr ⟨s_getR (k := 6) K8 (by decide) (dd_X8_swap (50, .getfield 41, 3) (List.mem_of_getElem? (i := 26) rfl)) ow_X8_swap fl8_41 rfl, ?_⟩
  refine List.forall_mem_cons.mpr ⟨s_getR (k := 0) K0 (by decide) (dd_X8_swap (53, .getfield 189, 3) (List.mem_of_getElem? (i := 27) rfl)) ow_X8_swap fl8_189 rfl, ?_⟩
  refine List.forall_mem_cons.mpr ⟨⟨s_callV (ci := 3) rfl mo43 rfl rfl (dd_X8_swap (56, .invokevirtual 192, 3) (List.mem_of_getElem? (i := 28) rfl)) ow_X8_swap ml8_192 mi43 msl43 in_3 mn43, mo43⟩, ?_⟩
  refine List.forall_mem_cons.mpr ⟨s_aload_n (dd_X8_swap (59, .aload_n 0, 1) (List.mem_of_getElem? (i := 29) rfl)) rfl, ?_⟩
  refine List.forall_mem_cons.mpr ⟨s_getR (k := 6) K8 (by decide) (dd_X8_swap (60, .getfield 41, 3) (List.mem_of_getElem? (i := 30) rfl)) ow_X8_swap fl8_41 rfl, ?_⟩
  refine List.forall_mem_cons.mpr ⟨s_iload_n (dd_X8_swap (63, .iload_n 1, 1) (List.mem_of_getElem? (i := 31) rfl)) rfl, ?_⟩
  refine List.forall_mem_cons.mpr ⟨s_iload_n (dd_X8_swap (64, .iload_n 2, 1) (List.mem_of_getElem? (i := 32) rfl)) rfl, ?_⟩
  refine List.forall_mem_cons.mpr ⟨⟨s_callV (ci := 0) rfl mo26 rfl rfl (dd_X8_swap (65, .invokevirtual 211, 3) (List.mem_of_getElem? (i := 33) rfl)) ow_X8_swap ml8_211 mi26 msl26 in_0 mn26, mo26⟩, ?_⟩
  refine List.forall_mem_cons.mpr ⟨s_iconst (dd_X8_swap (68, .iconst 1, 1) (List.mem_of_getElem? (i := 34) rfl)) rfl, ?_⟩
  refine List.forall_mem_cons.mpr ⟨Or.inr (Or.inl ⟨rfl, (dd_X8_swap (69, .ireturn, 1) (List.mem_of_getElem? (i := 35) rfl)), rfl⟩), ?_⟩
  exact fun _ h => absurd h List.not_mem_nil
theorem ow_X8_throwIt : (mtJ 94).1.cls = "SatchelSins" := rfl
def D_X8_throwIt : List (Nat × Instr × Nat) := [(0, .aload_n 0, 1), (1, .getfield 20, 3), (4, .iload_n 1, 1), (5, .invokevirtual 170, 3), (8, .ifCond .ne 6, 3), (11, .ldc 147, 2), (13, .ireturn, 1), (14, .aload_n 0, 1), (15, .getfield 41, 3), (18, .iload_n 1, 1), (19, .invokevirtual 214, 3), (22, .ifCond .ne 6, 3), (25, .ldc 188, 2), (27, .ireturn, 1), (28, .aload_n 0, 1), (29, .getfield 48, 3), (32, .aload_n 0, 1), (33, .getfield 41, 3), (36, .getfield 189, 3), (39, .invokevirtual 192, 3), (42, .aload_n 0, 1), (43, .getfield 41, 3), (46, .iload_n 1, 1), (47, .invokevirtual 217, 3), (50, .aload_n 0, 1), (51, .getfield 41, 3), (54, .invokevirtual 116, 3), (57, .ireturn, 1)]
theorem dd_X8_throwIt : ∀ e ∈ D_X8_throwIt, decode (mtJ 94).2.1 e.1 = .ok e.2 := by decide +kernel
set_option maxRecDepth 10000 in
theorem so_X8_throwIt : ∀ e ∈ o_X8_throwIt, SndO 94 e.1 e.2 := by
  refine List.forall_mem_cons.mpr ⟨s_aload_n (dd_X8_throwIt (0, .aload_n 0, 1) (List.mem_of_getElem? (i := 0) rfl)) rfl, ?_⟩
  refine List.forall_mem_cons.mpr ⟨s_getR (k := 3) K8 (by decide) (dd_X8_throwIt (1, .getfield 20, 3) (List.mem_of_getElem? (i := 1) rfl)) ow_X8_throwIt fl8_20 rfl, ?_⟩
  refine List.forall_mem_cons.mpr ⟨s_iload_n (dd_X8_throwIt (4, .iload_n 1, 1) (List.mem_of_getElem? (i := 2) rfl)) rfl, ?_⟩
  refine List.forall_mem_cons.mpr ⟨⟨s_callV (ci := 5) rfl mo67 rfl rfl (dd_X8_throwIt (5, .invokevirtual 170, 3) (List.mem_of_getElem? (i := 3) rfl)) ow_X8_throwIt ml8_170 mi67 msl67 in_5 mn67, mo67⟩, ?_⟩
  refine List.forall_mem_cons.mpr ⟨s_if_ne (dd_X8_throwIt (8, .ifCond .ne 6, 3) (List.mem_of_getElem? (i := 4) rfl)) (by decide), ?_⟩
  refine List.forall_mem_cons.mpr ⟨s_ldc (dd_X8_throwIt (11, .ldc 147, 2) (List.mem_of_getElem? (i := 5) rfl)) ow_X8_throwIt ki8_147, ?_⟩
  refine List.forall_mem_cons.mpr ⟨Or.inr (Or.inl ⟨rfl, (dd_X8_throwIt (13, .ireturn, 1) (List.mem_of_getElem? (i := 6) rfl)), rfl⟩), ?_⟩
  refine List.forall_mem_cons.mpr ⟨s_aload_n (dd_X8_throwIt (14, .aload_n 0, 1) (List.mem_of_getElem? (i := 7) rfl)) rfl, ?_⟩
  refine List.forall_mem_cons.mpr ⟨s_getR (k := 6) K8 (by decide) (dd_X8_throwIt (15, .getfield 41, 3) (List.mem_of_getElem? (i := 8) rfl)) ow_X8_throwIt fl8_41 rfl, ?_⟩
  refine List.forall_mem_cons.mpr ⟨s_iload_n (dd_X8_throwIt (18, .iload_n 1, 1) (List.mem_of_getElem? (i := 9) rfl)) rfl, ?_⟩
  refine List.forall_mem_cons.mpr ⟨⟨s_callV (ci := 0) rfl mo21 rfl rfl (dd_X8_throwIt (19, .invokevirtual 214, 3) (List.mem_of_getElem? (i := 10) rfl)) ow_X8_throwIt ml8_214 mi21 msl21 in_0 mn21, mo21⟩, ?_⟩
  refine List.forall_mem_cons.mpr ⟨s_if_ne (dd_X8_throwIt (22, .ifCond .ne 6, 3) (List.mem_of_getElem? (i := 11) rfl)) (by decide), ?_⟩
  refine List.forall_mem_cons.mpr ⟨s_ldc (dd_X8_throwIt (25, .ldc 188, 2) (List.mem_of_getElem? (i := 12) rfl)) ow_X8_throwIt ki8_188, ?_⟩
  refine List.forall_mem_cons.mpr ⟨Or.inr (Or.inl ⟨rfl, (dd_X8_throwIt (27, .ireturn, 1) (List.mem_of_getElem? (i := 13) rfl)), rfl⟩), ?_⟩
  refine List.forall_mem_cons.mpr ⟨s_aload_n (dd_X8_throwIt (28, .aload_n 0, 1) (List.mem_of_getElem? (i := 14) rfl)) rfl, ?_⟩
  refine List.forall_mem_cons.mpr ⟨s_getR (k := 7) K8 (by decide) (dd_X8_throwIt (29, .getfield 48, 3) (List.mem_of_getElem? (i := 15) rfl)) ow_X8_throwIt fl8_48 rfl, ?_⟩
  refine List.forall_mem_cons.mpr ⟨s_aload_n (dd_X8_throwIt (32, .aload_n 0, 1) (List.mem_of_getElem? (i := 16) rfl)) rfl, ?_⟩
  refine List.forall_mem_cons.mpr ⟨s_getR (k := 6) K8 (by decide) (dd_X8_throwIt (33, .getfield 41, 3) (List.mem_of_getElem? (i := 17) rfl)) ow_X8_throwIt fl8_41 rfl, ?_⟩
  refine List.forall_mem_cons.mpr ⟨s_getR (k := 0) K0 (by decide) (dd_X8_throwIt (36, .getfield 189, 3) (List.mem_of_getElem? (i := 18) rfl)) ow_X8_throwIt fl8_189 rfl, ?_⟩
  refine List.forall_mem_cons.mpr ⟨⟨s_callV (ci := 3) rfl mo43 rfl rfl (dd_X8_throwIt (39, .invokevirtual 192, 3) (List.mem_of_getElem? (i := 19) rfl)) ow_X8_throwIt ml8_192 mi43 msl43 in_3 mn43, mo43⟩, ?_⟩
  refine List.forall_mem_cons.mpr ⟨s_aload_n (dd_X8_throwIt (42, .aload_n 0, 1) (List.mem_of_getElem? (i := 20) rfl)) rfl, ?_⟩
  refine List.forall_mem_cons.mpr ⟨s_getR (k := 6) K8 (by decide) (dd_X8_throwIt (43, .getfield 41, 3) (List.mem_of_getElem? (i := 21) rfl)) ow_X8_throwIt fl8_41 rfl, ?_⟩
  refine List.forall_mem_cons.mpr ⟨s_iload_n (dd_X8_throwIt (46, .iload_n 1, 1) (List.mem_of_getElem? (i := 22) rfl)) rfl, ?_⟩
  refine List.forall_mem_cons.mpr ⟨⟨s_callV (ci := 0) rfl mo27 rfl rfl (dd_X8_throwIt (47, .invokevirtual 217, 3) (List.mem_of_getElem? (i := 23) rfl)) ow_X8_throwIt ml8_217 mi27 msl27 in_0 mn27, mo27⟩, ?_⟩
  refine List.forall_mem_cons.mpr ⟨s_aload_n (dd_X8_throwIt (50, .aload_n 0, 1) (List.mem_of_getElem? (i := 24) rfl)) rfl, ?_⟩
  refine List.forall_mem_cons.mpr ⟨s_getR (k := 6) K8 (by decide) (dd_X8_throwIt (51, .getfield 41, 3) (List.mem_of_getElem? (i := 25) rfl)) ow_X8_throwIt fl8_41 rfl, ?_⟩
  refine List.forall_mem_cons.mpr ⟨⟨s_callV (ci := 0) rfl mo3 rfl rfl (dd_X8_throwIt (54, .invokevirtual 116, 3) (List.mem_of_getElem? (i := 26) rfl)) ow_X8_throwIt ml8_116 mi3 msl3 in_0 mn3, mo3⟩, ?_⟩
  refine List.forall_mem_cons.mpr ⟨Or.inr (Or.inl ⟨rfl, (dd_X8_throwIt (57, .ireturn, 1) (List.mem_of_getElem? (i := 27) rfl)), rfl⟩), ?_⟩
  exact fun _ h => absurd h List.not_mem_nil
theorem ow_X8_home : (mtJ 95).1.cls = "SatchelSins" := rfl
def D_X8_home : List (Nat × Instr × Nat) := [(0, .aload_n 0, 1), (1, .getfield 20, 3), (4, .getfield 220, 3), (7, .ifCond .ne 6, 3), (10, .ldc 188, 2), (12, .ireturn, 1), (13, .aload_n 0, 1), (14, .getfield 41, 3), (17, .invokevirtual 113, 3), (20, .sipush 9000, 3), (23, .if_icmp .le 6, 3), (26, .ldc 89, 2), (28, .ireturn, 1), (29, .aload_n 0, 1), (30, .getfield 48, 3), (33, .aload_n 0, 1), (34, .getfield 41, 3), (37, .getfield 189, 3), (40, .invokevirtual 192, 3), (43, .aload_n 0, 1), (44, .getfield 41, 3), (47, .invokevirtual 224, 3), (50, .ireturn, 1)]
theorem dd_X8_home : ∀ e ∈ D_X8_home, decode (mtJ 95).2.1 e.1 = .ok e.2 := by decide +kernel
set_option maxRecDepth 10000 in
theorem so_X8_home : ∀ e ∈ o_X8_home, SndO 95 e.1 e.2 := by
  refine List.forall_mem_cons.mpr ⟨s_aload_n (dd_X8_home (0, .aload_n 0, 1) (List.mem_of_getElem? (i := 0) rfl)) rfl, ?_⟩
  refine List.forall_mem_cons.mpr ⟨s_getR (k := 3) K8 (by decide) (dd_X8_home (1, .getfield 20, 3) (List.mem_of_getElem? (i := 1) rfl)) ow_X8_home fl8_20 rfl, ?_⟩
  refine List.forall_mem_cons.mpr ⟨s_getI (k := 0) K5 (by decide) (dd_X8_home (4, .getfield 220, 3) (List.mem_of_getElem? (i := 2) rfl)) ow_X8_home fl8_220 rfl, ?_⟩
  refine List.forall_mem_cons.mpr ⟨s_if_ne (dd_X8_home (7, .ifCond .ne 6, 3) (List.mem_of_getElem? (i := 3) rfl)) (by decide), ?_⟩
  refine List.forall_mem_cons.mpr ⟨s_ldc (dd_X8_home (10, .ldc 188, 2) (List.mem_of_getElem? (i := 4) rfl)) ow_X8_home ki8_188, ?_⟩
  refine List.forall_mem_cons.mpr ⟨Or.inr (Or.inl ⟨rfl, (dd_X8_home (12, .ireturn, 1) (List.mem_of_getElem? (i := 5) rfl)), rfl⟩), ?_⟩
  refine List.forall_mem_cons.mpr ⟨s_aload_n (dd_X8_home (13, .aload_n 0, 1) (List.mem_of_getElem? (i := 6) rfl)) rfl, ?_⟩
  refine List.forall_mem_cons.mpr ⟨s_getR (k := 6) K8 (by decide) (dd_X8_home (14, .getfield 41, 3) (List.mem_of_getElem? (i := 7) rfl)) ow_X8_home fl8_41 rfl, ?_⟩
  refine List.forall_mem_cons.mpr ⟨⟨s_callV (ci := 0) rfl mo2 rfl rfl (dd_X8_home (17, .invokevirtual 113, 3) (List.mem_of_getElem? (i := 8) rfl)) ow_X8_home ml8_113 mi2 msl2 in_0 mn2, mo2⟩, ?_⟩
  refine List.forall_mem_cons.mpr ⟨s_sipush (dd_X8_home (20, .sipush 9000, 3) (List.mem_of_getElem? (i := 9) rfl)) rfl, ?_⟩
  refine List.forall_mem_cons.mpr ⟨s_icmp_le (dd_X8_home (23, .if_icmp .le 6, 3) (List.mem_of_getElem? (i := 10) rfl)) (by decide), ?_⟩
  refine List.forall_mem_cons.mpr ⟨s_ldc (dd_X8_home (26, .ldc 89, 2) (List.mem_of_getElem? (i := 11) rfl)) ow_X8_home ki8_89, ?_⟩
  refine List.forall_mem_cons.mpr ⟨Or.inr (Or.inl ⟨rfl, (dd_X8_home (28, .ireturn, 1) (List.mem_of_getElem? (i := 12) rfl)), rfl⟩), ?_⟩
  refine List.forall_mem_cons.mpr ⟨s_aload_n (dd_X8_home (29, .aload_n 0, 1) (List.mem_of_getElem? (i := 13) rfl)) rfl, ?_⟩
  refine List.forall_mem_cons.mpr ⟨s_getR (k := 7) K8 (by decide) (dd_X8_home (30, .getfield 48, 3) (List.mem_of_getElem? (i := 14) rfl)) ow_X8_home fl8_48 rfl, ?_⟩
  refine List.forall_mem_cons.mpr ⟨s_aload_n (dd_X8_home (33, .aload_n 0, 1) (List.mem_of_getElem? (i := 15) rfl)) rfl, ?_⟩
  refine List.forall_mem_cons.mpr ⟨s_getR (k := 6) K8 (by decide) (dd_X8_home (34, .getfield 41, 3) (List.mem_of_getElem? (i := 16) rfl)) ow_X8_home fl8_41 rfl, ?_⟩
  refine List.forall_mem_cons.mpr ⟨s_getR (k := 0) K0 (by decide) (dd_X8_home (37, .getfield 189, 3) (List.mem_of_getElem? (i := 17) rfl)) ow_X8_home fl8_189 rfl, ?_⟩
  refine List.forall_mem_cons.mpr ⟨⟨s_callV (ci := 3) rfl mo43 rfl rfl (dd_X8_home (40, .invokevirtual 192, 3) (List.mem_of_getElem? (i := 18) rfl)) ow_X8_home ml8_192 mi43 msl43 in_3 mn43, mo43⟩, ?_⟩
  refine List.forall_mem_cons.mpr ⟨s_aload_n (dd_X8_home (43, .aload_n 0, 1) (List.mem_of_getElem? (i := 19) rfl)) rfl, ?_⟩
  refine List.forall_mem_cons.mpr ⟨s_getR (k := 6) K8 (by decide) (dd_X8_home (44, .getfield 41, 3) (List.mem_of_getElem? (i := 20) rfl)) ow_X8_home fl8_41 rfl, ?_⟩
  refine List.forall_mem_cons.mpr ⟨⟨s_callV (ci := 0) rfl mo29 rfl rfl (dd_X8_home (47, .invokevirtual 224, 3) (List.mem_of_getElem? (i := 21) rfl)) ow_X8_home ml8_224 mi29 msl29 in_0 mn29, mo29⟩, ?_⟩
  refine List.forall_mem_cons.mpr ⟨Or.inr (Or.inl ⟨rfl, (dd_X8_home (50, .ireturn, 1) (List.mem_of_getElem? (i := 22) rfl)), rfl⟩), ?_⟩
  exact fun _ h => absurd h List.not_mem_nil
theorem ow_X8_takeBack : (mtJ 96).1.cls = "SatchelSins" := rfl
def D_X8_takeBack : List (Nat × Instr × Nat) := [(0, .aload_n 0, 1), (1, .getfield 20, 3), (4, .iload_n 1, 1), (5, .invokevirtual 170, 3), (8, .ifCond .ne 6, 3), (11, .ldc 147, 2), (13, .ireturn, 1), (14, .aload_n 0, 1), (15, .getfield 41, 3), (18, .iload_n 1, 1), (19, .invokevirtual 179, 3), (22, .iconst 3, 1), (23, .if_icmp .eq 6, 3), (26, .ldc 188, 2), (28, .ireturn, 1), (29, .aload_n 0, 1), (30, .getfield 41, 3), (33, .iload_n 1, 1), (34, .invokevirtual 182, 3), (37, .istore_n 2, 1), (38, .aload_n 0, 1), (39, .getfield 48, 3), (42, .aload_n 0, 1), (43, .getfield 41, 3), (46, .getfield 189, 3), (49, .invokevirtual 192, 3), (52, .aload_n 0, 1), (53, .getfield 41, 3), (56, .iload_n 1, 1), (57, .invokevirtual 227, 3), (60, .iload_n 2, 1), (61, .ireturn, 1)]
theorem dd_X8_takeBack : ∀ e ∈ D_X8_takeBack, decode (mtJ 96).2.1 e.1 = .ok e.2 := by decide +kernel
set_option maxRecDepth 10000 in
theorem so_X8_takeBack : ∀ e ∈ o_X8_takeBack, SndO 96 e.1 e.2 := by
  refine List.forall_mem_cons.mpr ⟨s_aload_n (dd_X8_takeBack (0, .aload_n 0, 1) (List.mem_of_getElem? (i := 0) rfl)) rfl, ?_⟩
  refine List.forall_mem_cons.mpr ⟨s_getR (k := 3) K8 (by decide) (dd_X8_takeBack (1, .getfield 20, 3) (List.mem_of_getElem? (i := 1) rfl)) ow_X8_takeBack fl8_20 rfl, ?_⟩
  refine List.forall_mem_cons.mpr ⟨s_iload_n (dd_X8_takeBack (4, .iload_n 1, 1) (List.mem_of_getElem? (i := 2) rfl)) rfl, ?_⟩
  refine List.forall_mem_cons.mpr ⟨⟨s_callV (ci := 5) rfl mo67 rfl rfl (dd_X8_takeBack (5, .invokevirtual 170, 3) (List.mem_of_getElem? (i := 3) rfl)) ow_X8_takeBack ml8_170 mi67 msl67 in_5 mn67, mo67⟩, ?_⟩
  refine List.forall_mem_cons.mpr ⟨s_if_ne (dd_X8_takeBack (8, .ifCond .ne 6, 3) (List.mem_of_getElem? (i := 4) rfl)) (by decide), ?_⟩
  refine List.forall_mem_cons.mpr ⟨s_ldc (dd_X8_takeBack (11, .ldc 147, 2) (List.mem_of_getElem? (i := 5) rfl)) ow_X8_takeBack ki8_147, ?_⟩
  refine List.forall_mem_cons.mpr ⟨Or.inr (Or.inl ⟨rfl, (dd_X8_takeBack (13, .ireturn, 1) (List.mem_of_getElem? (i := 6) rfl)), rfl⟩), ?_⟩
  refine List.forall_mem_cons.mpr ⟨s_aload_n (dd_X8_takeBack (14, .aload_n 0, 1) (List.mem_of_getElem? (i := 7) rfl)) rfl, ?_⟩
  refine List.forall_mem_cons.mpr ⟨s_getR (k := 6) K8 (by decide) (dd_X8_takeBack (15, .getfield 41, 3) (List.mem_of_getElem? (i := 8) rfl)) ow_X8_takeBack fl8_41 rfl, ?_⟩
  refine List.forall_mem_cons.mpr ⟨s_iload_n (dd_X8_takeBack (18, .iload_n 1, 1) (List.mem_of_getElem? (i := 9) rfl)) rfl, ?_⟩
  refine List.forall_mem_cons.mpr ⟨⟨s_callV (ci := 0) rfl mo6 rfl rfl (dd_X8_takeBack (19, .invokevirtual 179, 3) (List.mem_of_getElem? (i := 10) rfl)) ow_X8_takeBack ml8_179 mi6 msl6 in_0 mn6, mo6⟩, ?_⟩
  refine List.forall_mem_cons.mpr ⟨s_iconst (dd_X8_takeBack (22, .iconst 3, 1) (List.mem_of_getElem? (i := 11) rfl)) rfl, ?_⟩
  refine List.forall_mem_cons.mpr ⟨s_icmp_eq (dd_X8_takeBack (23, .if_icmp .eq 6, 3) (List.mem_of_getElem? (i := 12) rfl)) (by decide), ?_⟩
  refine List.forall_mem_cons.mpr ⟨s_ldc (dd_X8_takeBack (26, .ldc 188, 2) (List.mem_of_getElem? (i := 13) rfl)) ow_X8_takeBack ki8_188, ?_⟩
  refine List.forall_mem_cons.mpr ⟨Or.inr (Or.inl ⟨rfl, (dd_X8_takeBack (28, .ireturn, 1) (List.mem_of_getElem? (i := 14) rfl)), rfl⟩), ?_⟩
  refine List.forall_mem_cons.mpr ⟨s_aload_n (dd_X8_takeBack (29, .aload_n 0, 1) (List.mem_of_getElem? (i := 15) rfl)) rfl, ?_⟩
  refine List.forall_mem_cons.mpr ⟨s_getR (k := 6) K8 (by decide) (dd_X8_takeBack (30, .getfield 41, 3) (List.mem_of_getElem? (i := 16) rfl)) ow_X8_takeBack fl8_41 rfl, ?_⟩
  refine List.forall_mem_cons.mpr ⟨s_iload_n (dd_X8_takeBack (33, .iload_n 1, 1) (List.mem_of_getElem? (i := 17) rfl)) rfl, ?_⟩
  refine List.forall_mem_cons.mpr ⟨⟨s_callV (ci := 0) rfl mo7 rfl rfl (dd_X8_takeBack (34, .invokevirtual 182, 3) (List.mem_of_getElem? (i := 18) rfl)) ow_X8_takeBack ml8_182 mi7 msl7 in_0 mn7, mo7⟩, ?_⟩
  refine List.forall_mem_cons.mpr ⟨s_istore_n (dd_X8_takeBack (37, .istore_n 2, 1) (List.mem_of_getElem? (i := 19) rfl)) rfl, ?_⟩
  refine List.forall_mem_cons.mpr ⟨s_aload_n (dd_X8_takeBack (38, .aload_n 0, 1) (List.mem_of_getElem? (i := 20) rfl)) rfl, ?_⟩
  refine List.forall_mem_cons.mpr ⟨s_getR (k := 7) K8 (by decide) (dd_X8_takeBack (39, .getfield 48, 3) (List.mem_of_getElem? (i := 21) rfl)) ow_X8_takeBack fl8_48 rfl, ?_⟩
  refine List.forall_mem_cons.mpr ⟨s_aload_n (dd_X8_takeBack (42, .aload_n 0, 1) (List.mem_of_getElem? (i := 22) rfl)) rfl, ?_⟩
  refine List.forall_mem_cons.mpr ⟨s_getR (k := 6) K8 (by decide) (dd_X8_takeBack (43, .getfield 41, 3) (List.mem_of_getElem? (i := 23) rfl)) ow_X8_takeBack fl8_41 rfl, ?_⟩
  refine List.forall_mem_cons.mpr ⟨s_getR (k := 0) K0 (by decide) (dd_X8_takeBack (46, .getfield 189, 3) (List.mem_of_getElem? (i := 24) rfl)) ow_X8_takeBack fl8_189 rfl, ?_⟩
  refine List.forall_mem_cons.mpr ⟨⟨s_callV (ci := 3) rfl mo43 rfl rfl (dd_X8_takeBack (49, .invokevirtual 192, 3) (List.mem_of_getElem? (i := 25) rfl)) ow_X8_takeBack ml8_192 mi43 msl43 in_3 mn43, mo43⟩, ?_⟩
  refine List.forall_mem_cons.mpr ⟨s_aload_n (dd_X8_takeBack (52, .aload_n 0, 1) (List.mem_of_getElem? (i := 26) rfl)) rfl, ?_⟩
  refine List.forall_mem_cons.mpr ⟨s_getR (k := 6) K8 (by decide) (dd_X8_takeBack (53, .getfield 41, 3) (List.mem_of_getElem? (i := 27) rfl)) ow_X8_takeBack fl8_41 rfl, ?_⟩
  refine List.forall_mem_cons.mpr ⟨s_iload_n (dd_X8_takeBack (56, .iload_n 1, 1) (List.mem_of_getElem? (i := 28) rfl)) rfl, ?_⟩
  refine List.forall_mem_cons.mpr ⟨⟨s_callV (ci := 0) rfl mo28 rfl rfl (dd_X8_takeBack (57, .invokevirtual 227, 3) (List.mem_of_getElem? (i := 29) rfl)) ow_X8_takeBack ml8_227 mi28 msl28 in_0 mn28, mo28⟩, ?_⟩
  refine List.forall_mem_cons.mpr ⟨s_iload_n (dd_X8_takeBack (60, .iload_n 2, 1) (List.mem_of_getElem? (i := 30) rfl)) rfl, ?_⟩
  refine List.forall_mem_cons.mpr ⟨Or.inr (Or.inl ⟨rfl, (dd_X8_takeBack (61, .ireturn, 1) (List.mem_of_getElem? (i := 31) rfl)), rfl⟩), ?_⟩
  exact fun _ h => absurd h List.not_mem_nil
theorem ow_X8_drift : (mtJ 97).1.cls = "SatchelSins" := rfl
def D_X8_drift : List (Nat × Instr × Nat) := [(0, .iload_n 1, 1), (1, .iconst 1, 1), (2, .if_icmp .lt 9, 3), (5, .iload_n 1, 1), (6, .bipush 60, 2), (8, .if_icmp .le 6, 3), (11, .ldc 85, 2), (13, .ireturn, 1), (14, .aload_n 0, 1), (15, .getfield 20, 3), (18, .getfield 220, 3), (21, .ifCond .ne 6, 3), (24, .ldc 188, 2), (26, .ireturn, 1), (27, .aload_n 0, 1), (28, .getfield 41, 3), (31, .invokevirtual 113, 3), (34, .sipush 9000, 3), (37, .if_icmp .le 6, 3), (40, .ldc 89, 2), (42, .ireturn, 1), (43, .aload_n 0, 1), (44, .getfield 48, 3), (47, .aload_n 0, 1), (48, .getfield 41, 3), (51, .getfield 189, 3), (54, .invokevirtual 192, 3), (57, .aload_n 0, 1), (58, .getfield 20, 3), (61, .getfield 110, 3), (64, .ifCond .le 20, 3), (67, .iconst 0, 1), (68, .istore_n 2, 1), (69, .iload_n 2, 1), (70, .iload_n 1, 1), (71, .if_icmp .ge 13, 3), (74, .aload_n 0, 1), (75, .invokevirtual 230, 3), (78, .iinc 2 1, 3), (81, .goto (-12), 3), (84, .aload_n 0, 1), (85, .getfield 41, 3), (88, .invokevirtual 113, 3), (91, .ireturn, 1)]
theorem dd_X8_drift : ∀ e ∈ D_X8_drift, decode (mtJ 97).2.1 e.1 = .ok e.2 := by decide +kernel
set_option maxRecDepth 10000 in
theorem so_X8_drift : ∀ e ∈ o_X8_drift, SndO 97 e.1 e.2 := by
  refine List.forall_mem_cons.mpr ⟨s_iload_n (dd_X8_drift (0, .iload_n 1, 1) (List.mem_of_getElem? (i := 0) rfl)) rfl, ?_⟩
  refine List.forall_mem_cons.mpr ⟨s_iconst (dd_X8_drift (1, .iconst 1, 1) (List.mem_of_getElem? (i := 1) rfl)) rfl, ?_⟩
  refine List.forall_mem_cons.mpr ⟨s_icmp_lt (dd_X8_drift (2, .if_icmp .lt 9, 3) (List.mem_of_getElem? (i := 2) rfl)) (by decide), ?_⟩
  refine List.forall_mem_cons.mpr ⟨s_iload_n (dd_X8_drift (5, .iload_n 1, 1) (List.mem_of_getElem? (i := 3) rfl)) rfl, ?_⟩
  refine List.forall_mem_cons.mpr ⟨s_bipush (dd_X8_drift (6, .bipush 60, 2) (List.mem_of_getElem? (i := 4) rfl)) rfl, ?_⟩
  refine List.forall_mem_cons.mpr ⟨s_icmp_le (dd_X8_drift (8, .if_icmp .le 6, 3) (List.mem_of_getElem? (i := 5) rfl)) (by decide), ?_⟩
  refine List.forall_mem_cons.mpr ⟨s_ldc (dd_X8_drift (11, .ldc 85, 2) (List.mem_of_getElem? (i := 6) rfl)) ow_X8_drift ki8_85, ?_⟩
  refine List.forall_mem_cons.mpr ⟨Or.inr (Or.inl ⟨rfl, (dd_X8_drift (13, .ireturn, 1) (List.mem_of_getElem? (i := 7) rfl)), rfl⟩), ?_⟩
  refine List.forall_mem_cons.mpr ⟨s_aload_n (dd_X8_drift (14, .aload_n 0, 1) (List.mem_of_getElem? (i := 8) rfl)) rfl, ?_⟩
  refine List.forall_mem_cons.mpr ⟨s_getR (k := 3) K8 (by decide) (dd_X8_drift (15, .getfield 20, 3) (List.mem_of_getElem? (i := 9) rfl)) ow_X8_drift fl8_20 rfl, ?_⟩
  refine List.forall_mem_cons.mpr ⟨s_getI (k := 0) K5 (by decide) (dd_X8_drift (18, .getfield 220, 3) (List.mem_of_getElem? (i := 10) rfl)) ow_X8_drift fl8_220 rfl, ?_⟩
  refine List.forall_mem_cons.mpr ⟨s_if_ne (dd_X8_drift (21, .ifCond .ne 6, 3) (List.mem_of_getElem? (i := 11) rfl)) (by decide), ?_⟩
  refine List.forall_mem_cons.mpr ⟨s_ldc (dd_X8_drift (24, .ldc 188, 2) (List.mem_of_getElem? (i := 12) rfl)) ow_X8_drift ki8_188, ?_⟩
  refine List.forall_mem_cons.mpr ⟨Or.inr (Or.inl ⟨rfl, (dd_X8_drift (26, .ireturn, 1) (List.mem_of_getElem? (i := 13) rfl)), rfl⟩), ?_⟩
  refine List.forall_mem_cons.mpr ⟨s_aload_n (dd_X8_drift (27, .aload_n 0, 1) (List.mem_of_getElem? (i := 14) rfl)) rfl, ?_⟩
  refine List.forall_mem_cons.mpr ⟨s_getR (k := 6) K8 (by decide) (dd_X8_drift (28, .getfield 41, 3) (List.mem_of_getElem? (i := 15) rfl)) ow_X8_drift fl8_41 rfl, ?_⟩
  refine List.forall_mem_cons.mpr ⟨⟨s_callV (ci := 0) rfl mo2 rfl rfl (dd_X8_drift (31, .invokevirtual 113, 3) (List.mem_of_getElem? (i := 16) rfl)) ow_X8_drift ml8_113 mi2 msl2 in_0 mn2, mo2⟩, ?_⟩
  refine List.forall_mem_cons.mpr ⟨s_sipush (dd_X8_drift (34, .sipush 9000, 3) (List.mem_of_getElem? (i := 17) rfl)) rfl, ?_⟩
  refine List.forall_mem_cons.mpr ⟨s_icmp_le (dd_X8_drift (37, .if_icmp .le 6, 3) (List.mem_of_getElem? (i := 18) rfl)) (by decide), ?_⟩
  refine List.forall_mem_cons.mpr ⟨s_ldc (dd_X8_drift (40, .ldc 89, 2) (List.mem_of_getElem? (i := 19) rfl)) ow_X8_drift ki8_89, ?_⟩
  refine List.forall_mem_cons.mpr ⟨Or.inr (Or.inl ⟨rfl, (dd_X8_drift (42, .ireturn, 1) (List.mem_of_getElem? (i := 20) rfl)), rfl⟩), ?_⟩
  refine List.forall_mem_cons.mpr ⟨s_aload_n (dd_X8_drift (43, .aload_n 0, 1) (List.mem_of_getElem? (i := 21) rfl)) rfl, ?_⟩
  refine List.forall_mem_cons.mpr ⟨s_getR (k := 7) K8 (by decide) (dd_X8_drift (44, .getfield 48, 3) (List.mem_of_getElem? (i := 22) rfl)) ow_X8_drift fl8_48 rfl, ?_⟩
  refine List.forall_mem_cons.mpr ⟨s_aload_n (dd_X8_drift (47, .aload_n 0, 1) (List.mem_of_getElem? (i := 23) rfl)) rfl, ?_⟩
  refine List.forall_mem_cons.mpr ⟨s_getR (k := 6) K8 (by decide) (dd_X8_drift (48, .getfield 41, 3) (List.mem_of_getElem? (i := 24) rfl)) ow_X8_drift fl8_41 rfl, ?_⟩
  refine List.forall_mem_cons.mpr ⟨s_getR (k := 0) K0 (by decide) (dd_X8_drift (51, .getfield 189, 3) (List.mem_of_getElem? (i := 25) rfl)) ow_X8_drift fl8_189 rfl, ?_⟩
  refine List.forall_mem_cons.mpr ⟨⟨s_callV (ci := 3) rfl mo43 rfl rfl (dd_X8_drift (54, .invokevirtual 192, 3) (List.mem_of_getElem? (i := 26) rfl)) ow_X8_drift ml8_192 mi43 msl43 in_3 mn43, mo43⟩, ?_⟩
  refine List.forall_mem_cons.mpr ⟨s_aload_n (dd_X8_drift (57, .aload_n 0, 1) (List.mem_of_getElem? (i := 27) rfl)) rfl, ?_⟩
  refine List.forall_mem_cons.mpr ⟨s_getR (k := 3) K8 (by decide) (dd_X8_drift (58, .getfield 20, 3) (List.mem_of_getElem? (i := 28) rfl)) ow_X8_drift fl8_20 rfl, ?_⟩
  refine List.forall_mem_cons.mpr ⟨s_getI (k := 3) K5 (by decide) (dd_X8_drift (61, .getfield 110, 3) (List.mem_of_getElem? (i := 29) rfl)) ow_X8_drift fl8_110 rfl, ?_⟩
  refine List.forall_mem_cons.mpr ⟨s_if_le (dd_X8_drift (64, .ifCond .le 20, 3) (List.mem_of_getElem? (i := 30) rfl)) (by decide), ?_⟩
  refine List.forall_mem_cons.mpr ⟨s_iconst (dd_X8_drift (67, .iconst 0, 1) (List.mem_of_getElem? (i := 31) rfl)) rfl, ?_⟩
  refine List.forall_mem_cons.mpr ⟨s_istore_n (dd_X8_drift (68, .istore_n 2, 1) (List.mem_of_getElem? (i := 32) rfl)) rfl, ?_⟩
  refine List.forall_mem_cons.mpr ⟨s_iload_n (dd_X8_drift (69, .iload_n 2, 1) (List.mem_of_getElem? (i := 33) rfl)) rfl, ?_⟩
  refine List.forall_mem_cons.mpr ⟨s_iload_n (dd_X8_drift (70, .iload_n 1, 1) (List.mem_of_getElem? (i := 34) rfl)) rfl, ?_⟩
  refine List.forall_mem_cons.mpr ⟨s_icmp_ge (dd_X8_drift (71, .if_icmp .ge 13, 3) (List.mem_of_getElem? (i := 35) rfl)) (by decide), ?_⟩
  refine List.forall_mem_cons.mpr ⟨s_aload_n (dd_X8_drift (74, .aload_n 0, 1) (List.mem_of_getElem? (i := 36) rfl)) rfl, ?_⟩
  refine List.forall_mem_cons.mpr ⟨⟨s_callV (ci := 8) rfl mo115 rfl rfl (dd_X8_drift (75, .invokevirtual 230, 3) (List.mem_of_getElem? (i := 37) rfl)) ow_X8_drift ml8_230 mi115 msl115 in_8 mn115, mo115⟩, ?_⟩
  refine List.forall_mem_cons.mpr ⟨s_iinc (dd_X8_drift (78, .iinc 2 1, 3) (List.mem_of_getElem? (i := 38) rfl)) rfl, ?_⟩
  refine List.forall_mem_cons.mpr ⟨s_goto (dd_X8_drift (81, .goto (-12), 3) (List.mem_of_getElem? (i := 39) rfl)) (by decide), ?_⟩
  refine List.forall_mem_cons.mpr ⟨s_aload_n (dd_X8_drift (84, .aload_n 0, 1) (List.mem_of_getElem? (i := 40) rfl)) rfl, ?_⟩
  refine List.forall_mem_cons.mpr ⟨s_getR (k := 6) K8 (by decide) (dd_X8_drift (85, .getfield 41, 3) (List.mem_of_getElem? (i := 41) rfl)) ow_X8_drift fl8_41 rfl, ?_⟩
  refine List.forall_mem_cons.mpr ⟨⟨s_callV (ci := 0) rfl mo2 rfl rfl (dd_X8_drift (88, .invokevirtual 113, 3) (List.mem_of_getElem? (i := 42) rfl)) ow_X8_drift ml8_113 mi2 msl2 in_0 mn2, mo2⟩, ?_⟩
  refine List.forall_mem_cons.mpr ⟨Or.inr (Or.inl ⟨rfl, (dd_X8_drift (91, .ireturn, 1) (List.mem_of_getElem? (i := 43) rfl)), rfl⟩), ?_⟩
  exact fun _ h => absurd h List.not_mem_nil
theorem ow_X8_undo : (mtJ 98).1.cls = "SatchelSins" := rfl
def D_X8_undo : List (Nat × Instr × Nat) := [(0, .aload_n 0, 1), (1, .getfield 48, 3), (4, .getfield 140, 3), (7, .iconst 1, 1), (8, .if_icmp .ge 6, 3), (11, .ldc 188, 2), (13, .ireturn, 1), (14, .aload_n 0, 1), (15, .getfield 48, 3), (18, .aload_n 0, 1), (19, .getfield 41, 3), (22, .getfield 189, 3), (25, .invokevirtual 233, 3), (28, .aload_n 0, 1), (29, .getfield 48, 3), (32, .getfield 140, 3), (35, .ireturn, 1)]
theorem dd_X8_undo : ∀ e ∈ D_X8_undo, decode (mtJ 98).2.1 e.1 = .ok e.2 := by decide +kernel
set_option maxRecDepth 10000 in
theorem so_X8_undo : ∀ e ∈ o_X8_undo, SndO 98 e.1 e.2 := by
  refine List.forall_mem_cons.mpr ⟨s_aload_n (dd_X8_undo (0, .aload_n 0, 1) (List.mem_of_getElem? (i := 0) rfl)) rfl, ?_⟩
  refine List.forall_mem_cons.mpr ⟨s_getR (k := 7) K8 (by decide) (dd_X8_undo (1, .getfield 48, 3) (List.mem_of_getElem? (i := 1) rfl)) ow_X8_undo fl8_48 rfl, ?_⟩
  refine List.forall_mem_cons.mpr ⟨s_getI (k := 2) K3 (by decide) (dd_X8_undo (4, .getfield 140, 3) (List.mem_of_getElem? (i := 2) rfl)) ow_X8_undo fl8_140 rfl, ?_⟩
  refine List.forall_mem_cons.mpr ⟨s_iconst (dd_X8_undo (7, .iconst 1, 1) (List.mem_of_getElem? (i := 3) rfl)) rfl, ?_⟩
  refine List.forall_mem_cons.mpr ⟨s_icmp_ge (dd_X8_undo (8, .if_icmp .ge 6, 3) (List.mem_of_getElem? (i := 4) rfl)) (by decide), ?_⟩
  refine List.forall_mem_cons.mpr ⟨s_ldc (dd_X8_undo (11, .ldc 188, 2) (List.mem_of_getElem? (i := 5) rfl)) ow_X8_undo ki8_188, ?_⟩
  refine List.forall_mem_cons.mpr ⟨Or.inr (Or.inl ⟨rfl, (dd_X8_undo (13, .ireturn, 1) (List.mem_of_getElem? (i := 6) rfl)), rfl⟩), ?_⟩
  refine List.forall_mem_cons.mpr ⟨s_aload_n (dd_X8_undo (14, .aload_n 0, 1) (List.mem_of_getElem? (i := 7) rfl)) rfl, ?_⟩
  refine List.forall_mem_cons.mpr ⟨s_getR (k := 7) K8 (by decide) (dd_X8_undo (15, .getfield 48, 3) (List.mem_of_getElem? (i := 8) rfl)) ow_X8_undo fl8_48 rfl, ?_⟩
  refine List.forall_mem_cons.mpr ⟨s_aload_n (dd_X8_undo (18, .aload_n 0, 1) (List.mem_of_getElem? (i := 9) rfl)) rfl, ?_⟩
  refine List.forall_mem_cons.mpr ⟨s_getR (k := 6) K8 (by decide) (dd_X8_undo (19, .getfield 41, 3) (List.mem_of_getElem? (i := 10) rfl)) ow_X8_undo fl8_41 rfl, ?_⟩
  refine List.forall_mem_cons.mpr ⟨s_getR (k := 0) K0 (by decide) (dd_X8_undo (22, .getfield 189, 3) (List.mem_of_getElem? (i := 11) rfl)) ow_X8_undo fl8_189 rfl, ?_⟩
  refine List.forall_mem_cons.mpr ⟨⟨s_callV (ci := 3) rfl mo44 rfl rfl (dd_X8_undo (25, .invokevirtual 233, 3) (List.mem_of_getElem? (i := 12) rfl)) ow_X8_undo ml8_233 mi44 msl44 in_3 mn44, mo44⟩, ?_⟩
  refine List.forall_mem_cons.mpr ⟨s_aload_n (dd_X8_undo (28, .aload_n 0, 1) (List.mem_of_getElem? (i := 13) rfl)) rfl, ?_⟩
  refine List.forall_mem_cons.mpr ⟨s_getR (k := 7) K8 (by decide) (dd_X8_undo (29, .getfield 48, 3) (List.mem_of_getElem? (i := 14) rfl)) ow_X8_undo fl8_48 rfl, ?_⟩
  refine List.forall_mem_cons.mpr ⟨s_getI (k := 2) K3 (by decide) (dd_X8_undo (32, .getfield 140, 3) (List.mem_of_getElem? (i := 15) rfl)) ow_X8_undo fl8_140 rfl, ?_⟩
  refine List.forall_mem_cons.mpr ⟨Or.inr (Or.inl ⟨rfl, (dd_X8_undo (35, .ireturn, 1) (List.mem_of_getElem? (i := 16) rfl)), rfl⟩), ?_⟩
  exact fun _ h => absurd h List.not_mem_nil
theorem ow_X8_loads : (mtJ 99).1.cls = "SatchelSins" := rfl
def D_X8_loads : List (Nat × Instr × Nat) := [(0, .aload_n 0, 1), (1, .aload_n 0, 1), (2, .getfield 63, 3), (5, .iload_n 1, 1), (6, .invokevirtual 236, 3), (9, .ireturn, 1)]
theorem dd_X8_loads : ∀ e ∈ D_X8_loads, decode (mtJ 99).2.1 e.1 = .ok e.2 := by decide +kernel
set_option maxRecDepth 10000 in
theorem so_X8_loads : ∀ e ∈ o_X8_loads, SndO 99 e.1 e.2 := by
  refine List.forall_mem_cons.mpr ⟨s_aload_n (dd_X8_loads (0, .aload_n 0, 1) (List.mem_of_getElem? (i := 0) rfl)) rfl, ?_⟩
  refine List.forall_mem_cons.mpr ⟨s_aload_n (dd_X8_loads (1, .aload_n 0, 1) (List.mem_of_getElem? (i := 1) rfl)) rfl, ?_⟩
  refine List.forall_mem_cons.mpr ⟨s_getR (k := 9) K8 (by decide) (dd_X8_loads (2, .getfield 63, 3) (List.mem_of_getElem? (i := 2) rfl)) ow_X8_loads fl8_63 rfl, ?_⟩
  refine List.forall_mem_cons.mpr ⟨s_iload_n (dd_X8_loads (5, .iload_n 1, 1) (List.mem_of_getElem? (i := 3) rfl)) rfl, ?_⟩
  refine List.forall_mem_cons.mpr ⟨⟨s_callV (ci := 8) rfl mo114 rfl rfl (dd_X8_loads (6, .invokevirtual 236, 3) (List.mem_of_getElem? (i := 4) rfl)) ow_X8_loads ml8_236 mi114 msl114 in_8 mn114, mo114⟩, ?_⟩
  refine List.forall_mem_cons.mpr ⟨Or.inr (Or.inl ⟨rfl, (dd_X8_loads (9, .ireturn, 1) (List.mem_of_getElem? (i := 5) rfl)), rfl⟩), ?_⟩
  exact fun _ h => absurd h List.not_mem_nil
theorem ow_X8_fair : (mtJ 100).1.cls = "SatchelSins" := rfl
def D_X8_fair : List (Nat × Instr × Nat) := [(0, .aload_n 0, 1), (1, .aload_n 0, 1), (2, .getfield 67, 3), (5, .iload_n 1, 1), (6, .invokevirtual 236, 3), (9, .ireturn, 1)]
theorem dd_X8_fair : ∀ e ∈ D_X8_fair, decode (mtJ 100).2.1 e.1 = .ok e.2 := by decide +kernel
set_option maxRecDepth 10000 in
theorem so_X8_fair : ∀ e ∈ o_X8_fair, SndO 100 e.1 e.2 := by
  refine List.forall_mem_cons.mpr ⟨s_aload_n (dd_X8_fair (0, .aload_n 0, 1) (List.mem_of_getElem? (i := 0) rfl)) rfl, ?_⟩
  refine List.forall_mem_cons.mpr ⟨s_aload_n (dd_X8_fair (1, .aload_n 0, 1) (List.mem_of_getElem? (i := 1) rfl)) rfl, ?_⟩
  refine List.forall_mem_cons.mpr ⟨s_getR (k := 10) K8 (by decide) (dd_X8_fair (2, .getfield 67, 3) (List.mem_of_getElem? (i := 2) rfl)) ow_X8_fair fl8_67 rfl, ?_⟩
  refine List.forall_mem_cons.mpr ⟨s_iload_n (dd_X8_fair (5, .iload_n 1, 1) (List.mem_of_getElem? (i := 3) rfl)) rfl, ?_⟩
  refine List.forall_mem_cons.mpr ⟨⟨s_callV (ci := 8) rfl mo114 rfl rfl (dd_X8_fair (6, .invokevirtual 236, 3) (List.mem_of_getElem? (i := 4) rfl)) ow_X8_fair ml8_236 mi114 msl114 in_8 mn114, mo114⟩, ?_⟩
  refine List.forall_mem_cons.mpr ⟨Or.inr (Or.inl ⟨rfl, (dd_X8_fair (9, .ireturn, 1) (List.mem_of_getElem? (i := 5) rfl)), rfl⟩), ?_⟩
  exact fun _ h => absurd h List.not_mem_nil
theorem ow_X8_lighter : (mtJ 101).1.cls = "SatchelSins" := rfl
def D_X8_lighter : List (Nat × Instr × Nat) := [(0, .iconst 0, 1), (1, .istore_n 2, 1), (2, .iconst 0, 1), (3, .istore_n 3, 1), (4, .iload_n 3, 1), (5, .aload_n 0, 1), (6, .getfield 20, 3), (9, .getfield 110, 3), (12, .if_icmp .ge 61, 3), (15, .iload_n 3, 1), (16, .iconst 1, 1), (17, .iadd, 1), (18, .istore 4, 2), (20, .iload 4, 2), (22, .aload_n 0, 1), (23, .getfield 20, 3), (26, .getfield 110, 3), (29, .if_icmp .ge 38, 3), (32, .aload_n 0, 1), (33, .getfield 41, 3), (36, .iload_n 3, 1), (37, .iload 4, 2), (39, .invokevirtual 240, 3), (42, .ifCond .eq 19, 3), (45, .iload_n 2, 1), (46, .iload_n 1, 1), (47, .if_icmp .ne 11, 3), (50, .bipush 10, 2), (52, .iload_n 3, 1), (53, .imul, 1), (54, .iload 4, 2), (56, .iadd, 1), (57, .ireturn, 1), (58, .iinc 2 1, 3), (61, .iinc 4 1, 3), (64, .goto (-44), 3), (67, .iinc 3 1, 3), (70, .goto (-66), 3), (73, .iload_n 1, 1), (74, .iconst (-1), 1), (75, .if_icmp .ne 7, 3), (78, .iload_n 2, 1), (79, .goto 4, 3), (82, .iconst (-1), 1), (83, .ireturn, 1)]
theorem dd_X8_lighter : ∀ e ∈ D_X8_lighter, decode (mtJ 101).2.1 e.1 = .ok e.2 := by decide +kernel
set_option maxRecDepth 10000 in
theorem so_X8_lighter : ∀ e ∈ o_X8_lighter, SndO 101 e.1 e.2 := by
  refine List.forall_mem_cons.mpr ⟨s_iconst (dd_X8_lighter (0, .iconst 0, 1) (List.mem_of_getElem? (i := 0) rfl)) rfl, ?_⟩
  refine List.forall_mem_cons.mpr ⟨s_istore_n (dd_X8_lighter (1, .istore_n 2, 1) (List.mem_of_getElem? (i := 1) rfl)) rfl, ?_⟩
  refine List.forall_mem_cons.mpr ⟨s_iconst (dd_X8_lighter (2, .iconst 0, 1) (List.mem_of_getElem? (i := 2) rfl)) rfl, ?_⟩
  refine List.forall_mem_cons.mpr ⟨s_istore_n (dd_X8_lighter (3, .istore_n 3, 1) (List.mem_of_getElem? (i := 3) rfl)) rfl, ?_⟩
  refine List.forall_mem_cons.mpr ⟨s_iload_n (dd_X8_lighter (4, .iload_n 3, 1) (List.mem_of_getElem? (i := 4) rfl)) rfl, ?_⟩
  refine List.forall_mem_cons.mpr ⟨s_aload_n (dd_X8_lighter (5, .aload_n 0, 1) (List.mem_of_getElem? (i := 5) rfl)) rfl, ?_⟩
  refine List.forall_mem_cons.mpr ⟨s_getR (k := 3) K8 (by decide) (dd_X8_lighter (6, .getfield 20, 3) (List.mem_of_getElem? (i := 6) rfl)) ow_X8_lighter fl8_20 rfl, ?_⟩
  refine List.forall_mem_cons.mpr ⟨s_getI (k := 3) K5 (by decide) (dd_X8_lighter (9, .getfield 110, 3) (List.mem_of_getElem? (i := 7) rfl)) ow_X8_lighter fl8_110 rfl, ?_⟩
  refine List.forall_mem_cons.mpr ⟨s_icmp_ge (dd_X8_lighter (12, .if_icmp .ge 61, 3) (List.mem_of_getElem? (i := 8) rfl)) (by decide), ?_⟩
  refine List.forall_mem_cons.mpr ⟨s_iload_n (dd_X8_lighter (15, .iload_n 3, 1) (List.mem_of_getElem? (i := 9) rfl)) rfl, ?_⟩
  refine List.forall_mem_cons.mpr ⟨s_iconst (dd_X8_lighter (16, .iconst 1, 1) (List.mem_of_getElem? (i := 10) rfl)) rfl, ?_⟩
  refine List.forall_mem_cons.mpr ⟨s_iadd (dd_X8_lighter (17, .iadd, 1) (List.mem_of_getElem? (i := 11) rfl)), ?_⟩
  refine List.forall_mem_cons.mpr ⟨s_istore (dd_X8_lighter (18, .istore 4, 2) (List.mem_of_getElem? (i := 12) rfl)), ?_⟩
  refine List.forall_mem_cons.mpr ⟨s_iload (dd_X8_lighter (20, .iload 4, 2) (List.mem_of_getElem? (i := 13) rfl)), ?_⟩
  refine List.forall_mem_cons.mpr ⟨s_aload_n (dd_X8_lighter (22, .aload_n 0, 1) (List.mem_of_getElem? (i := 14) rfl)) rfl, ?_⟩
  refine List.forall_mem_cons.mpr ⟨s_getR (k := 3) K8 (by decide) (dd_X8_lighter (23, .getfield 20, 3) (List.mem_of_getElem? (i := 15) rfl)) ow_X8_lighter fl8_20 rfl, ?_⟩
  refine List.forall_mem_cons.mpr ⟨s_getI (k := 3) K5 (by decide) (dd_X8_lighter (26, .getfield 110, 3) (List.mem_of_getElem? (i := 16) rfl)) ow_X8_lighter fl8_110 rfl, ?_⟩
  refine List.forall_mem_cons.mpr ⟨s_icmp_ge (dd_X8_lighter (29, .if_icmp .ge 38, 3) (List.mem_of_getElem? (i := 17) rfl)) (by decide), ?_⟩
  refine List.forall_mem_cons.mpr ⟨s_aload_n (dd_X8_lighter (32, .aload_n 0, 1) (List.mem_of_getElem? (i := 18) rfl)) rfl, ?_⟩
  refine List.forall_mem_cons.mpr ⟨s_getR (k := 6) K8 (by decide) (dd_X8_lighter (33, .getfield 41, 3) (List.mem_of_getElem? (i := 19) rfl)) ow_X8_lighter fl8_41 rfl, ?_⟩
  refine List.forall_mem_cons.mpr ⟨s_iload_n (dd_X8_lighter (36, .iload_n 3, 1) (List.mem_of_getElem? (i := 20) rfl)) rfl, ?_⟩
  refine List.forall_mem_cons.mpr ⟨s_iload (dd_X8_lighter (37, .iload 4, 2) (List.mem_of_getElem? (i := 21) rfl)), ?_⟩
  refine List.forall_mem_cons.mpr ⟨⟨s_callV (ci := 0) rfl mo23 rfl rfl (dd_X8_lighter (39, .invokevirtual 240, 3) (List.mem_of_getElem? (i := 22) rfl)) ow_X8_lighter ml8_240 mi23 msl23 in_0 mn23, mo23⟩, ?_⟩
  refine List.forall_mem_cons.mpr ⟨s_if_eq (dd_X8_lighter (42, .ifCond .eq 19, 3) (List.mem_of_getElem? (i := 23) rfl)) (by decide), ?_⟩
  refine List.forall_mem_cons.mpr ⟨s_iload_n (dd_X8_lighter (45, .iload_n 2, 1) (List.mem_of_getElem? (i := 24) rfl)) rfl, ?_⟩
  refine List.forall_mem_cons.mpr ⟨s_iload_n (dd_X8_lighter (46, .iload_n 1, 1) (List.mem_of_getElem? (i := 25) rfl)) rfl, ?_⟩
  refine List.forall_mem_cons.mpr ⟨s_icmp_ne (dd_X8_lighter (47, .if_icmp .ne 11, 3) (List.mem_of_getElem? (i := 26) rfl)) (by decide), ?_⟩
  refine List.forall_mem_cons.mpr ⟨s_bipush (dd_X8_lighter (50, .bipush 10, 2) (List.mem_of_getElem? (i := 27) rfl)) rfl, ?_⟩
  refine List.forall_mem_cons.mpr ⟨s_iload_n (dd_X8_lighter (52, .iload_n 3, 1) (List.mem_of_getElem? (i := 28) rfl)) rfl, ?_⟩
  refine List.forall_mem_cons.mpr ⟨s_imul (dd_X8_lighter (53, .imul, 1) (List.mem_of_getElem? (i := 29) rfl)), ?_⟩
  refine List.forall_mem_cons.mpr ⟨s_iload (dd_X8_lighter (54, .iload 4, 2) (List.mem_of_getElem? (i := 30) rfl)), ?_⟩
  refine List.forall_mem_cons.mpr ⟨s_iadd (dd_X8_lighter (56, .iadd, 1) (List.mem_of_getElem? (i := 31) rfl)), ?_⟩
  refine List.forall_mem_cons.mpr ⟨Or.inr (Or.inl ⟨rfl, (dd_X8_lighter (57, .ireturn, 1) (List.mem_of_getElem? (i := 32) rfl)), rfl⟩), ?_⟩
  refine List.forall_mem_cons.mpr ⟨s_iinc (dd_X8_lighter (58, .iinc 2 1, 3) (List.mem_of_getElem? (i := 33) rfl)) rfl, ?_⟩
  refine List.forall_mem_cons.mpr ⟨s_iinc (dd_X8_lighter (61, .iinc 4 1, 3) (List.mem_of_getElem? (i := 34) rfl)) rfl, ?_⟩
  refine List.forall_mem_cons.mpr ⟨s_goto (dd_X8_lighter (64, .goto (-44), 3) (List.mem_of_getElem? (i := 35) rfl)) (by decide), ?_⟩
  refine List.forall_mem_cons.mpr ⟨s_iinc (dd_X8_lighter (67, .iinc 3 1, 3) (List.mem_of_getElem? (i := 36) rfl)) rfl, ?_⟩
  refine List.forall_mem_cons.mpr ⟨s_goto (dd_X8_lighter (70, .goto (-66), 3) (List.mem_of_getElem? (i := 37) rfl)) (by decide), ?_⟩
  refine List.forall_mem_cons.mpr ⟨s_iload_n (dd_X8_lighter (73, .iload_n 1, 1) (List.mem_of_getElem? (i := 38) rfl)) rfl, ?_⟩
  refine List.forall_mem_cons.mpr ⟨s_iconst (dd_X8_lighter (74, .iconst (-1), 1) (List.mem_of_getElem? (i := 39) rfl)) rfl, ?_⟩
  refine List.forall_mem_cons.mpr ⟨s_icmp_ne (dd_X8_lighter (75, .if_icmp .ne 7, 3) (List.mem_of_getElem? (i := 40) rfl)) (by decide), ?_⟩
  refine List.forall_mem_cons.mpr ⟨s_iload_n (dd_X8_lighter (78, .iload_n 2, 1) (List.mem_of_getElem? (i := 41) rfl)) rfl, ?_⟩
  refine List.forall_mem_cons.mpr ⟨s_goto (dd_X8_lighter (79, .goto 4, 3) (List.mem_of_getElem? (i := 42) rfl)) (by decide), ?_⟩
  refine List.forall_mem_cons.mpr ⟨s_iconst (dd_X8_lighter (82, .iconst (-1), 1) (List.mem_of_getElem? (i := 43) rfl)) rfl, ?_⟩
  refine List.forall_mem_cons.mpr ⟨Or.inr (Or.inl ⟨rfl, (dd_X8_lighter (83, .ireturn, 1) (List.mem_of_getElem? (i := 44) rfl)), rfl⟩), ?_⟩
  exact fun _ h => absurd h List.not_mem_nil
theorem ow_X8_weighs : (mtJ 102).1.cls = "SatchelSins" := rfl
def D_X8_weighs : List (Nat × Instr × Nat) := [(0, .iload_n 1, 1), (1, .ifCond .lt 19, 3), (4, .iload_n 1, 1), (5, .sipush 999, 3), (8, .if_icmp .gt 12, 3), (11, .iload_n 2, 1), (12, .ifCond .lt 8, 3), (15, .iload_n 2, 1), (16, .iconst 3, 1), (17, .if_icmp .le 6, 3), (20, .ldc 85, 2), (22, .ireturn, 1), (23, .aload_n 0, 1), (24, .getfield 73, 3), (27, .iload_n 1, 1), (28, .invokevirtual 243, 3), (31, .iload_n 2, 1), (32, .tableswitch 52 0 2 #[28, 36, 44], 28), (60, .aload_n 0, 1), (61, .getfield 73, 3), (64, .getfield 246, 3), (67, .ireturn, 1), (68, .aload_n 0, 1), (69, .getfield 73, 3), (72, .getfield 249, 3), (75, .ireturn, 1), (76, .aload_n 0, 1), (77, .getfield 73, 3), (80, .getfield 252, 3), (83, .ireturn, 1), (84, .aload_n 0, 1), (85, .getfield 73, 3), (88, .invokevirtual 255, 3), (91, .ireturn, 1)]
theorem dd_X8_weighs : ∀ e ∈ D_X8_weighs, decode (mtJ 102).2.1 e.1 = .ok e.2 := by decide +kernel
set_option maxRecDepth 10000 in
theorem so_X8_weighs : ∀ e ∈ o_X8_weighs, SndO 102 e.1 e.2 := by
  refine List.forall_mem_cons.mpr ⟨s_iload_n (dd_X8_weighs (0, .iload_n 1, 1) (List.mem_of_getElem? (i := 0) rfl)) rfl, ?_⟩
  refine List.forall_mem_cons.mpr ⟨s_if_lt (dd_X8_weighs (1, .ifCond .lt 19, 3) (List.mem_of_getElem? (i := 1) rfl)) (by decide), ?_⟩
  refine List.forall_mem_cons.mpr ⟨s_iload_n (dd_X8_weighs (4, .iload_n 1, 1) (List.mem_of_getElem? (i := 2) rfl)) rfl, ?_⟩
  refine List.forall_mem_cons.mpr ⟨s_sipush (dd_X8_weighs (5, .sipush 999, 3) (List.mem_of_getElem? (i := 3) rfl)) rfl, ?_⟩
  refine List.forall_mem_cons.mpr ⟨s_icmp_gt (dd_X8_weighs (8, .if_icmp .gt 12, 3) (List.mem_of_getElem? (i := 4) rfl)) (by decide), ?_⟩
  refine List.forall_mem_cons.mpr ⟨s_iload_n (dd_X8_weighs (11, .iload_n 2, 1) (List.mem_of_getElem? (i := 5) rfl)) rfl, ?_⟩
  refine List.forall_mem_cons.mpr ⟨s_if_lt (dd_X8_weighs (12, .ifCond .lt 8, 3) (List.mem_of_getElem? (i := 6) rfl)) (by decide), ?_⟩
  refine List.forall_mem_cons.mpr ⟨s_iload_n (dd_X8_weighs (15, .iload_n 2, 1) (List.mem_of_getElem? (i := 7) rfl)) rfl, ?_⟩
  refine List.forall_mem_cons.mpr ⟨s_iconst (dd_X8_weighs (16, .iconst 3, 1) (List.mem_of_getElem? (i := 8) rfl)) rfl, ?_⟩
  refine List.forall_mem_cons.mpr ⟨s_icmp_le (dd_X8_weighs (17, .if_icmp .le 6, 3) (List.mem_of_getElem? (i := 9) rfl)) (by decide), ?_⟩
  refine List.forall_mem_cons.mpr ⟨s_ldc (dd_X8_weighs (20, .ldc 85, 2) (List.mem_of_getElem? (i := 10) rfl)) ow_X8_weighs ki8_85, ?_⟩
  refine List.forall_mem_cons.mpr ⟨Or.inr (Or.inl ⟨rfl, (dd_X8_weighs (22, .ireturn, 1) (List.mem_of_getElem? (i := 11) rfl)), rfl⟩), ?_⟩
  refine List.forall_mem_cons.mpr ⟨s_aload_n (dd_X8_weighs (23, .aload_n 0, 1) (List.mem_of_getElem? (i := 12) rfl)) rfl, ?_⟩
  refine List.forall_mem_cons.mpr ⟨s_getR (k := 11) K8 (by decide) (dd_X8_weighs (24, .getfield 73, 3) (List.mem_of_getElem? (i := 13) rfl)) ow_X8_weighs fl8_73 rfl, ?_⟩
  refine List.forall_mem_cons.mpr ⟨s_iload_n (dd_X8_weighs (27, .iload_n 1, 1) (List.mem_of_getElem? (i := 14) rfl)) rfl, ?_⟩
  refine List.forall_mem_cons.mpr ⟨⟨s_callV (ci := 6) rfl mo74 rfl rfl (dd_X8_weighs (28, .invokevirtual 243, 3) (List.mem_of_getElem? (i := 15) rfl)) ow_X8_weighs ml8_243 mi74 msl74 in_6 mn74, mo74⟩, ?_⟩
  refine List.forall_mem_cons.mpr ⟨s_iload_n (dd_X8_weighs (31, .iload_n 2, 1) (List.mem_of_getElem? (i := 16) rfl)) rfl, ?_⟩
  refine List.forall_mem_cons.mpr ⟨s_tsw (dd_X8_weighs (32, .tableswitch 52 0 2 #[28, 36, 44], 28) (List.mem_of_getElem? (i := 17) rfl)) (by decide) (by decide) (by decide), ?_⟩
  refine List.forall_mem_cons.mpr ⟨s_aload_n (dd_X8_weighs (60, .aload_n 0, 1) (List.mem_of_getElem? (i := 18) rfl)) rfl, ?_⟩
  refine List.forall_mem_cons.mpr ⟨s_getR (k := 11) K8 (by decide) (dd_X8_weighs (61, .getfield 73, 3) (List.mem_of_getElem? (i := 19) rfl)) ow_X8_weighs fl8_73 rfl, ?_⟩
  refine List.forall_mem_cons.mpr ⟨s_getI (k := 2) K6 (by decide) (dd_X8_weighs (64, .getfield 246, 3) (List.mem_of_getElem? (i := 20) rfl)) ow_X8_weighs fl8_246 rfl, ?_⟩
  refine List.forall_mem_cons.mpr ⟨Or.inr (Or.inl ⟨rfl, (dd_X8_weighs (67, .ireturn, 1) (List.mem_of_getElem? (i := 21) rfl)), rfl⟩), ?_⟩
  refine List.forall_mem_cons.mpr ⟨s_aload_n (dd_X8_weighs (68, .aload_n 0, 1) (List.mem_of_getElem? (i := 22) rfl)) rfl, ?_⟩
  refine List.forall_mem_cons.mpr ⟨s_getR (k := 11) K8 (by decide) (dd_X8_weighs (69, .getfield 73, 3) (List.mem_of_getElem? (i := 23) rfl)) ow_X8_weighs fl8_73 rfl, ?_⟩
  refine List.forall_mem_cons.mpr ⟨s_getI (k := 3) K6 (by decide) (dd_X8_weighs (72, .getfield 249, 3) (List.mem_of_getElem? (i := 24) rfl)) ow_X8_weighs fl8_249 rfl, ?_⟩
  refine List.forall_mem_cons.mpr ⟨Or.inr (Or.inl ⟨rfl, (dd_X8_weighs (75, .ireturn, 1) (List.mem_of_getElem? (i := 25) rfl)), rfl⟩), ?_⟩
  refine List.forall_mem_cons.mpr ⟨s_aload_n (dd_X8_weighs (76, .aload_n 0, 1) (List.mem_of_getElem? (i := 26) rfl)) rfl, ?_⟩
  refine List.forall_mem_cons.mpr ⟨s_getR (k := 11) K8 (by decide) (dd_X8_weighs (77, .getfield 73, 3) (List.mem_of_getElem? (i := 27) rfl)) ow_X8_weighs fl8_73 rfl, ?_⟩
  refine List.forall_mem_cons.mpr ⟨s_getI (k := 4) K6 (by decide) (dd_X8_weighs (80, .getfield 252, 3) (List.mem_of_getElem? (i := 28) rfl)) ow_X8_weighs fl8_252 rfl, ?_⟩
  refine List.forall_mem_cons.mpr ⟨Or.inr (Or.inl ⟨rfl, (dd_X8_weighs (83, .ireturn, 1) (List.mem_of_getElem? (i := 29) rfl)), rfl⟩), ?_⟩
  refine List.forall_mem_cons.mpr ⟨s_aload_n (dd_X8_weighs (84, .aload_n 0, 1) (List.mem_of_getElem? (i := 30) rfl)) rfl, ?_⟩
  refine List.forall_mem_cons.mpr ⟨s_getR (k := 11) K8 (by decide) (dd_X8_weighs (85, .getfield 73, 3) (List.mem_of_getElem? (i := 31) rfl)) ow_X8_weighs fl8_73 rfl, ?_⟩
  refine List.forall_mem_cons.mpr ⟨⟨s_callV (ci := 6) rfl mo75 rfl rfl (dd_X8_weighs (88, .invokevirtual 255, 3) (List.mem_of_getElem? (i := 32) rfl)) ow_X8_weighs ml8_255 mi75 msl75 in_6 mn75, mo75⟩, ?_⟩
  refine List.forall_mem_cons.mpr ⟨Or.inr (Or.inl ⟨rfl, (dd_X8_weighs (91, .ireturn, 1) (List.mem_of_getElem? (i := 33) rfl)), rfl⟩), ?_⟩
  exact fun _ h => absurd h List.not_mem_nil
theorem ow_X8_handed : (mtJ 103).1.cls = "SatchelSins" := rfl
def D_X8_handed : List (Nat × Instr × Nat) := [(0, .aload_n 0, 1), (1, .getfield 20, 3), (4, .iload_n 1, 1), (5, .invokevirtual 143, 3), (8, .ifCond .ne 6, 3), (11, .ldc 147, 2), (13, .ireturn, 1), (14, .iload_n 2, 1), (15, .lookupswitch 50 #[(0, 25), (1, 34)], 25), (40, .aload_n 0, 1), (41, .getfield 20, 3), (44, .iload_n 1, 1), (45, .invokevirtual 258, 3), (48, .ireturn, 1), (49, .aload_n 0, 1), (50, .getfield 20, 3), (53, .aload_n 0, 1), (54, .getfield 20, 3), (57, .iload_n 1, 1), (58, .invokevirtual 258, 3), (61, .invokevirtual 261, 3), (64, .ireturn, 1), (65, .ldc 85, 2), (67, .ireturn, 1)]
theorem dd_X8_handed : ∀ e ∈ D_X8_handed, decode (mtJ 103).2.1 e.1 = .ok e.2 := by decide +kernel
set_option maxRecDepth 10000 in
theorem so_X8_handed : ∀ e ∈ o_X8_handed, SndO 103 e.1 e.2 := by
  refine List.forall_mem_cons.mpr ⟨s_aload_n (dd_X8_handed (0, .aload_n 0, 1) (List.mem_of_getElem? (i := 0) rfl)) rfl, ?_⟩
  refine List.forall_mem_cons.mpr ⟨s_getR (k := 3) K8 (by decide) (dd_X8_handed (1, .getfield 20, 3) (List.mem_of_getElem? (i := 1) rfl)) ow_X8_handed fl8_20 rfl, ?_⟩
  refine List.forall_mem_cons.mpr ⟨s_iload_n (dd_X8_handed (4, .iload_n 1, 1) (List.mem_of_getElem? (i := 2) rfl)) rfl, ?_⟩
  refine List.forall_mem_cons.mpr ⟨⟨s_callV (ci := 5) rfl mo66 rfl rfl (dd_X8_handed (5, .invokevirtual 143, 3) (List.mem_of_getElem? (i := 3) rfl)) ow_X8_handed ml8_143 mi66 msl66 in_5 mn66, mo66⟩, ?_⟩
  refine List.forall_mem_cons.mpr ⟨s_if_ne (dd_X8_handed (8, .ifCond .ne 6, 3) (List.mem_of_getElem? (i := 4) rfl)) (by decide), ?_⟩
  refine List.forall_mem_cons.mpr ⟨s_ldc (dd_X8_handed (11, .ldc 147, 2) (List.mem_of_getElem? (i := 5) rfl)) ow_X8_handed ki8_147, ?_⟩
  refine List.forall_mem_cons.mpr ⟨Or.inr (Or.inl ⟨rfl, (dd_X8_handed (13, .ireturn, 1) (List.mem_of_getElem? (i := 6) rfl)), rfl⟩), ?_⟩
  refine List.forall_mem_cons.mpr ⟨s_iload_n (dd_X8_handed (14, .iload_n 2, 1) (List.mem_of_getElem? (i := 7) rfl)) rfl, ?_⟩
  refine List.forall_mem_cons.mpr ⟨s_lsw (dd_X8_handed (15, .lookupswitch 50 #[(0, 25), (1, 34)], 25) (List.mem_of_getElem? (i := 8) rfl)) (by decide) (by decide) (by decide), ?_⟩
  refine List.forall_mem_cons.mpr ⟨s_aload_n (dd_X8_handed (40, .aload_n 0, 1) (List.mem_of_getElem? (i := 9) rfl)) rfl, ?_⟩
  refine List.forall_mem_cons.mpr ⟨s_getR (k := 3) K8 (by decide) (dd_X8_handed (41, .getfield 20, 3) (List.mem_of_getElem? (i := 10) rfl)) ow_X8_handed fl8_20 rfl, ?_⟩
  refine List.forall_mem_cons.mpr ⟨s_iload_n (dd_X8_handed (44, .iload_n 1, 1) (List.mem_of_getElem? (i := 11) rfl)) rfl, ?_⟩
  refine List.forall_mem_cons.mpr ⟨⟨s_callV (ci := 5) rfl mo71 rfl rfl (dd_X8_handed (45, .invokevirtual 258, 3) (List.mem_of_getElem? (i := 12) rfl)) ow_X8_handed ml8_258 mi71 msl71 in_5 mn71, mo71⟩, ?_⟩
  refine List.forall_mem_cons.mpr ⟨Or.inr (Or.inl ⟨rfl, (dd_X8_handed (48, .ireturn, 1) (List.mem_of_getElem? (i := 13) rfl)), rfl⟩), ?_⟩
  refine List.forall_mem_cons.mpr ⟨s_aload_n (dd_X8_handed (49, .aload_n 0, 1) (List.mem_of_getElem? (i := 14) rfl)) rfl, ?_⟩
  refine List.forall_mem_cons.mpr ⟨s_getR (k := 3) K8 (by decide) (dd_X8_handed (50, .getfield 20, 3) (List.mem_of_getElem? (i := 15) rfl)) ow_X8_handed fl8_20 rfl, ?_⟩
  refine List.forall_mem_cons.mpr ⟨s_aload_n (dd_X8_handed (53, .aload_n 0, 1) (List.mem_of_getElem? (i := 16) rfl)) rfl, ?_⟩
  refine List.forall_mem_cons.mpr ⟨s_getR (k := 3) K8 (by decide) (dd_X8_handed (54, .getfield 20, 3) (List.mem_of_getElem? (i := 17) rfl)) ow_X8_handed fl8_20 rfl, ?_⟩
  refine List.forall_mem_cons.mpr ⟨s_iload_n (dd_X8_handed (57, .iload_n 1, 1) (List.mem_of_getElem? (i := 18) rfl)) rfl, ?_⟩
  refine List.forall_mem_cons.mpr ⟨⟨s_callV (ci := 5) rfl mo71 rfl rfl (dd_X8_handed (58, .invokevirtual 258, 3) (List.mem_of_getElem? (i := 19) rfl)) ow_X8_handed ml8_258 mi71 msl71 in_5 mn71, mo71⟩, ?_⟩
  refine List.forall_mem_cons.mpr ⟨⟨s_callV (ci := 5) rfl mo72 rfl rfl (dd_X8_handed (61, .invokevirtual 261, 3) (List.mem_of_getElem? (i := 20) rfl)) ow_X8_handed ml8_261 mi72 msl72 in_5 mn72, mo72⟩, ?_⟩
  refine List.forall_mem_cons.mpr ⟨Or.inr (Or.inl ⟨rfl, (dd_X8_handed (64, .ireturn, 1) (List.mem_of_getElem? (i := 21) rfl)), rfl⟩), ?_⟩
  refine List.forall_mem_cons.mpr ⟨s_ldc (dd_X8_handed (65, .ldc 85, 2) (List.mem_of_getElem? (i := 22) rfl)) ow_X8_handed ki8_85, ?_⟩
  refine List.forall_mem_cons.mpr ⟨Or.inr (Or.inl ⟨rfl, (dd_X8_handed (67, .ireturn, 1) (List.mem_of_getElem? (i := 23) rfl)), rfl⟩), ?_⟩
  exact fun _ h => absurd h List.not_mem_nil
theorem ow_X8_light : (mtJ 104).1.cls = "SatchelSins" := rfl
def D_X8_light : List (Nat × Instr × Nat) := [(0, .iload_n 1, 1), (1, .ifCond .lt 19, 3), (4, .iload_n 1, 1), (5, .bipush 60, 2), (7, .if_icmp .gt 13, 3), (10, .iload_n 2, 1), (11, .ifCond .lt 9, 3), (14, .iload_n 2, 1), (15, .bipush 100, 2), (17, .if_icmp .le 6, 3), (20, .ldc 85, 2), (22, .ireturn, 1), (23, .ldc2_w 264, 3), (26, .lstore_n 3, 1), (27, .iconst 0, 1), (28, .istore 5, 2), (30, .iload 5, 2), (32, .iload_n 1, 1), (33, .if_icmp .ge 18, 3), (36, .lload_n 3, 1), (37, .iload_n 2, 1), (38, .i2l, 1), (39, .lmul, 1), (40, .ldc2_w 266, 3), (43, .ldiv, 1), (44, .lstore_n 3, 1), (45, .iinc 5 1, 3), (48, .goto (-18), 3), (51, .lload_n 3, 1), (52, .l2i, 1), (53, .ireturn, 1)]
theorem dd_X8_light : ∀ e ∈ D_X8_light, decode (mtJ 104).2.1 e.1 = .ok e.2 := by decide +kernel
set_option maxRecDepth 10000 in
theorem so_X8_light : ∀ e ∈ o_X8_light, SndO 104 e.1 e.2 := by
  refine List.forall_mem_cons.mpr ⟨s_iload_n (dd_X8_light (0, .iload_n 1, 1) (List.mem_of_getElem? (i := 0) rfl)) rfl, ?_⟩
  refine List.forall_mem_cons.mpr ⟨s_if_lt (dd_X8_light (1, .ifCond .lt 19, 3) (List.mem_of_getElem? (i := 1) rfl)) (by decide), ?_⟩
  refine List.forall_mem_cons.mpr ⟨s_iload_n (dd_X8_light (4, .iload_n 1, 1) (List.mem_of_getElem? (i := 2) rfl)) rfl, ?_⟩
  refine List.forall_mem_cons.mpr ⟨s_bipush (dd_X8_light (5, .bipush 60, 2) (List.mem_of_getElem? (i := 3) rfl)) rfl, ?_⟩
  refine List.forall_mem_cons.mpr ⟨s_icmp_gt (dd_X8_light (7, .if_icmp .gt 13, 3) (List.mem_of_getElem? (i := 4) rfl)) (by decide), ?_⟩
  refine List.forall_mem_cons.mpr ⟨s_iload_n (dd_X8_light (10, .iload_n 2, 1) (List.mem_of_getElem? (i := 5) rfl)) rfl, ?_⟩
  refine List.forall_mem_cons.mpr ⟨s_if_lt (dd_X8_light (11, .ifCond .lt 9, 3) (List.mem_of_getElem? (i := 6) rfl)) (by decide), ?_⟩
  refine List.forall_mem_cons.mpr ⟨s_iload_n (dd_X8_light (14, .iload_n 2, 1) (List.mem_of_getElem? (i := 7) rfl)) rfl, ?_⟩
  refine List.forall_mem_cons.mpr ⟨s_bipush (dd_X8_light (15, .bipush 100, 2) (List.mem_of_getElem? (i := 8) rfl)) rfl, ?_⟩
  refine List.forall_mem_cons.mpr ⟨s_icmp_le (dd_X8_light (17, .if_icmp .le 6, 3) (List.mem_of_getElem? (i := 9) rfl)) (by decide), ?_⟩
  refine List.forall_mem_cons.mpr ⟨s_ldc (dd_X8_light (20, .ldc 85, 2) (List.mem_of_getElem? (i := 10) rfl)) ow_X8_light ki8_85, ?_⟩
  refine List.forall_mem_cons.mpr ⟨Or.inr (Or.inl ⟨rfl, (dd_X8_light (22, .ireturn, 1) (List.mem_of_getElem? (i := 11) rfl)), rfl⟩), ?_⟩
  refine List.forall_mem_cons.mpr ⟨s_ldc2 (dd_X8_light (23, .ldc2_w 264, 3) (List.mem_of_getElem? (i := 12) rfl)) ow_X8_light kl8_264, ?_⟩
  refine List.forall_mem_cons.mpr ⟨s_lstore_n (dd_X8_light (26, .lstore_n 3, 1) (List.mem_of_getElem? (i := 13) rfl)) rfl, ?_⟩
  refine List.forall_mem_cons.mpr ⟨s_iconst (dd_X8_light (27, .iconst 0, 1) (List.mem_of_getElem? (i := 14) rfl)) rfl, ?_⟩
  refine List.forall_mem_cons.mpr ⟨s_istore (dd_X8_light (28, .istore 5, 2) (List.mem_of_getElem? (i := 15) rfl)), ?_⟩
  refine List.forall_mem_cons.mpr ⟨s_iload (dd_X8_light (30, .iload 5, 2) (List.mem_of_getElem? (i := 16) rfl)), ?_⟩
  refine List.forall_mem_cons.mpr ⟨s_iload_n (dd_X8_light (32, .iload_n 1, 1) (List.mem_of_getElem? (i := 17) rfl)) rfl, ?_⟩
  refine List.forall_mem_cons.mpr ⟨s_icmp_ge (dd_X8_light (33, .if_icmp .ge 18, 3) (List.mem_of_getElem? (i := 18) rfl)) (by decide), ?_⟩
  refine List.forall_mem_cons.mpr ⟨s_lload_n (dd_X8_light (36, .lload_n 3, 1) (List.mem_of_getElem? (i := 19) rfl)) rfl, ?_⟩
  refine List.forall_mem_cons.mpr ⟨s_iload_n (dd_X8_light (37, .iload_n 2, 1) (List.mem_of_getElem? (i := 20) rfl)) rfl, ?_⟩
  refine List.forall_mem_cons.mpr ⟨s_i2l (dd_X8_light (38, .i2l, 1) (List.mem_of_getElem? (i := 21) rfl)), ?_⟩
  refine List.forall_mem_cons.mpr ⟨s_lmul (dd_X8_light (39, .lmul, 1) (List.mem_of_getElem? (i := 22) rfl)), ?_⟩
  refine List.forall_mem_cons.mpr ⟨s_ldc2 (dd_X8_light (40, .ldc2_w 266, 3) (List.mem_of_getElem? (i := 23) rfl)) ow_X8_light kl8_266, ?_⟩
  refine List.forall_mem_cons.mpr ⟨s_ldiv (dd_X8_light (43, .ldiv, 1) (List.mem_of_getElem? (i := 24) rfl)), ?_⟩
  refine List.forall_mem_cons.mpr ⟨s_lstore_n (dd_X8_light (44, .lstore_n 3, 1) (List.mem_of_getElem? (i := 25) rfl)) rfl, ?_⟩
  refine List.forall_mem_cons.mpr ⟨s_iinc (dd_X8_light (45, .iinc 5 1, 3) (List.mem_of_getElem? (i := 26) rfl)) rfl, ?_⟩
  refine List.forall_mem_cons.mpr ⟨s_goto (dd_X8_light (48, .goto (-18), 3) (List.mem_of_getElem? (i := 27) rfl)) (by decide), ?_⟩
  refine List.forall_mem_cons.mpr ⟨s_lload_n (dd_X8_light (51, .lload_n 3, 1) (List.mem_of_getElem? (i := 28) rfl)) rfl, ?_⟩
  refine List.forall_mem_cons.mpr ⟨s_l2i (dd_X8_light (52, .l2i, 1) (List.mem_of_getElem? (i := 29) rfl)), ?_⟩
  refine List.forall_mem_cons.mpr ⟨Or.inr (Or.inl ⟨rfl, (dd_X8_light (53, .ireturn, 1) (List.mem_of_getElem? (i := 30) rfl)), rfl⟩), ?_⟩
  exact fun _ h => absurd h List.not_mem_nil
theorem ow_X8_see : (mtJ 105).1.cls = "SatchelSins" := rfl
def D_X8_see : List (Nat × Instr × Nat) := [(0, .aload_n 0, 1), (1, .getfield 20, 3), (4, .iload_n 1, 1), (5, .invokevirtual 143, 3), (8, .ifCond .eq 14, 3), (11, .aload_n 0, 1), (12, .getfield 20, 3), (15, .iload_n 2, 1), (16, .invokevirtual 143, 3), (19, .ifCond .ne 6, 3), (22, .ldc 147, 2), (24, .ireturn, 1), (25, .aload_n 0, 1), (26, .getfield 80, 3), (29, .getfield 134, 3), (32, .bipush 6, 2), (34, .if_icmp .lt 6, 3), (37, .ldc 89, 2), (39, .ireturn, 1), (40, .aload_n 0, 1), (41, .getfield 80, 3), (44, .iload_n 1, 1), (45, .iload_n 2, 1), (46, .iload_n 3, 1), (47, .invokevirtual 268, 3), (50, .aload_n 0, 1), (51, .getfield 80, 3), (54, .getfield 134, 3), (57, .ireturn, 1)]
theorem dd_X8_see : ∀ e ∈ D_X8_see, decode (mtJ 105).2.1 e.1 = .ok e.2 := by decide +kernel
set_option maxRecDepth 10000 in
theorem so_X8_see : ∀ e ∈ o_X8_see, SndO 105 e.1 e.2 := by
  refine List.forall_mem_cons.mpr ⟨s_aload_n (dd_X8_see (0, .aload_n 0, 1) (List.mem_of_getElem? (i := 0) rfl)) rfl, ?_⟩
  refine List.forall_mem_cons.mpr ⟨s_getR (k := 3) K8 (by decide) (dd_X8_see (1, .getfield 20, 3) (List.mem_of_getElem? (i := 1) rfl)) ow_X8_see fl8_20 rfl, ?_⟩
  refine List.forall_mem_cons.mpr ⟨s_iload_n (dd_X8_see (4, .iload_n 1, 1) (List.mem_of_getElem? (i := 2) rfl)) rfl, ?_⟩
  refine List.forall_mem_cons.mpr ⟨⟨s_callV (ci := 5) rfl mo66 rfl rfl (dd_X8_see (5, .invokevirtual 143, 3) (List.mem_of_getElem? (i := 3) rfl)) ow_X8_see ml8_143 mi66 msl66 in_5 mn66, mo66⟩, ?_⟩
  refine List.forall_mem_cons.mpr ⟨s_if_eq (dd_X8_see (8, .ifCond .eq 14, 3) (List.mem_of_getElem? (i := 4) rfl)) (by decide), ?_⟩
  refine List.forall_mem_cons.mpr ⟨s_aload_n (dd_X8_see (11, .aload_n 0, 1) (List.mem_of_getElem? (i := 5) rfl)) rfl, ?_⟩
  refine List.forall_mem_cons.mpr ⟨s_getR (k := 3) K8 (by decide) (dd_X8_see (12, .getfield 20, 3) (List.mem_of_getElem? (i := 6) rfl)) ow_X8_see fl8_20 rfl, ?_⟩
  refine List.forall_mem_cons.mpr ⟨s_iload_n (dd_X8_see (15, .iload_n 2, 1) (List.mem_of_getElem? (i := 7) rfl)) rfl, ?_⟩
  refine List.forall_mem_cons.mpr ⟨⟨s_callV (ci := 5) rfl mo66 rfl rfl (dd_X8_see (16, .invokevirtual 143, 3) (List.mem_of_getElem? (i := 8) rfl)) ow_X8_see ml8_143 mi66 msl66 in_5 mn66, mo66⟩, ?_⟩
  refine List.forall_mem_cons.mpr ⟨s_if_ne (dd_X8_see (19, .ifCond .ne 6, 3) (List.mem_of_getElem? (i := 9) rfl)) (by decide), ?_⟩
  refine List.forall_mem_cons.mpr ⟨s_ldc (dd_X8_see (22, .ldc 147, 2) (List.mem_of_getElem? (i := 10) rfl)) ow_X8_see ki8_147, ?_⟩
  refine List.forall_mem_cons.mpr ⟨Or.inr (Or.inl ⟨rfl, (dd_X8_see (24, .ireturn, 1) (List.mem_of_getElem? (i := 11) rfl)), rfl⟩), ?_⟩
  refine List.forall_mem_cons.mpr ⟨s_aload_n (dd_X8_see (25, .aload_n 0, 1) (List.mem_of_getElem? (i := 12) rfl)) rfl, ?_⟩
  refine List.forall_mem_cons.mpr ⟨s_getR (k := 12) K8 (by decide) (dd_X8_see (26, .getfield 80, 3) (List.mem_of_getElem? (i := 13) rfl)) ow_X8_see fl8_80 rfl, ?_⟩
  refine List.forall_mem_cons.mpr ⟨s_getI (k := 5) K7 (by decide) (dd_X8_see (29, .getfield 134, 3) (List.mem_of_getElem? (i := 14) rfl)) ow_X8_see fl8_134 rfl, ?_⟩
  refine List.forall_mem_cons.mpr ⟨s_bipush (dd_X8_see (32, .bipush 6, 2) (List.mem_of_getElem? (i := 15) rfl)) rfl, ?_⟩
  refine List.forall_mem_cons.mpr ⟨s_icmp_lt (dd_X8_see (34, .if_icmp .lt 6, 3) (List.mem_of_getElem? (i := 16) rfl)) (by decide), ?_⟩
  refine List.forall_mem_cons.mpr ⟨s_ldc (dd_X8_see (37, .ldc 89, 2) (List.mem_of_getElem? (i := 17) rfl)) ow_X8_see ki8_89, ?_⟩
  refine List.forall_mem_cons.mpr ⟨Or.inr (Or.inl ⟨rfl, (dd_X8_see (39, .ireturn, 1) (List.mem_of_getElem? (i := 18) rfl)), rfl⟩), ?_⟩
  refine List.forall_mem_cons.mpr ⟨s_aload_n (dd_X8_see (40, .aload_n 0, 1) (List.mem_of_getElem? (i := 19) rfl)) rfl, ?_⟩
  refine List.forall_mem_cons.mpr ⟨s_getR (k := 12) K8 (by decide) (dd_X8_see (41, .getfield 80, 3) (List.mem_of_getElem? (i := 20) rfl)) ow_X8_see fl8_80 rfl, ?_⟩
  refine List.forall_mem_cons.mpr ⟨s_iload_n (dd_X8_see (44, .iload_n 1, 1) (List.mem_of_getElem? (i := 21) rfl)) rfl, ?_⟩
  refine List.forall_mem_cons.mpr ⟨s_iload_n (dd_X8_see (45, .iload_n 2, 1) (List.mem_of_getElem? (i := 22) rfl)) rfl, ?_⟩
  refine List.forall_mem_cons.mpr ⟨s_iload_n (dd_X8_see (46, .iload_n 3, 1) (List.mem_of_getElem? (i := 23) rfl)) rfl, ?_⟩
  refine List.forall_mem_cons.mpr ⟨⟨s_callV (ci := 7) rfl mo80 rfl rfl (dd_X8_see (47, .invokevirtual 268, 3) (List.mem_of_getElem? (i := 24) rfl)) ow_X8_see ml8_268 mi80 msl80 in_7 mn80, mo80⟩, ?_⟩
  refine List.forall_mem_cons.mpr ⟨s_aload_n (dd_X8_see (50, .aload_n 0, 1) (List.mem_of_getElem? (i := 25) rfl)) rfl, ?_⟩
  refine List.forall_mem_cons.mpr ⟨s_getR (k := 12) K8 (by decide) (dd_X8_see (51, .getfield 80, 3) (List.mem_of_getElem? (i := 26) rfl)) ow_X8_see fl8_80 rfl, ?_⟩
  refine List.forall_mem_cons.mpr ⟨s_getI (k := 5) K7 (by decide) (dd_X8_see (54, .getfield 134, 3) (List.mem_of_getElem? (i := 27) rfl)) ow_X8_see fl8_134 rfl, ?_⟩
  refine List.forall_mem_cons.mpr ⟨Or.inr (Or.inl ⟨rfl, (dd_X8_see (57, .ireturn, 1) (List.mem_of_getElem? (i := 28) rfl)), rfl⟩), ?_⟩
  exact fun _ h => absurd h List.not_mem_nil
theorem ow_X8_hold : (mtJ 106).1.cls = "SatchelSins" := rfl
def D_X8_hold : List (Nat × Instr × Nat) := [(0, .aload_n 0, 1), (1, .getfield 80, 3), (4, .aload_n 0, 1), (5, .getfield 41, 3), (8, .invokevirtual 272, 3), (11, .iconst (-1), 1), (12, .if_icmp .ne 7, 3), (15, .iconst 1, 1), (16, .goto 4, 3), (19, .iconst 0, 1), (20, .ireturn, 1)]
theorem dd_X8_hold : ∀ e ∈ D_X8_hold, decode (mtJ 106).2.1 e.1 = .ok e.2 := by decide +kernel
set_option maxRecDepth 10000 in
theorem so_X8_hold : ∀ e ∈ o_X8_hold, SndO 106 e.1 e.2 := by
  refine List.forall_mem_cons.mpr ⟨s_aload_n (dd_X8_hold (0, .aload_n 0, 1) (List.mem_of_getElem? (i := 0) rfl)) rfl, ?_⟩
  refine List.forall_mem_cons.mpr ⟨s_getR (k := 12) K8 (by decide) (dd_X8_hold (1, .getfield 80, 3) (List.mem_of_getElem? (i := 1) rfl)) ow_X8_hold fl8_80 rfl, ?_⟩
  refine List.forall_mem_cons.mpr ⟨s_aload_n (dd_X8_hold (4, .aload_n 0, 1) (List.mem_of_getElem? (i := 2) rfl)) rfl, ?_⟩
  refine List.forall_mem_cons.mpr ⟨s_getR (k := 6) K8 (by decide) (dd_X8_hold (5, .getfield 41, 3) (List.mem_of_getElem? (i := 3) rfl)) ow_X8_hold fl8_41 rfl, ?_⟩
  refine List.forall_mem_cons.mpr ⟨⟨s_callV (ci := 7) rfl mo82 rfl rfl (dd_X8_hold (8, .invokevirtual 272, 3) (List.mem_of_getElem? (i := 4) rfl)) ow_X8_hold ml8_272 mi82 msl82 in_7 mn82, mo82⟩, ?_⟩
  refine List.forall_mem_cons.mpr ⟨s_iconst (dd_X8_hold (11, .iconst (-1), 1) (List.mem_of_getElem? (i := 5) rfl)) rfl, ?_⟩
  refine List.forall_mem_cons.mpr ⟨s_icmp_ne (dd_X8_hold (12, .if_icmp .ne 7, 3) (List.mem_of_getElem? (i := 6) rfl)) (by decide), ?_⟩
  refine List.forall_mem_cons.mpr ⟨s_iconst (dd_X8_hold (15, .iconst 1, 1) (List.mem_of_getElem? (i := 7) rfl)) rfl, ?_⟩
  refine List.forall_mem_cons.mpr ⟨s_goto (dd_X8_hold (16, .goto 4, 3) (List.mem_of_getElem? (i := 8) rfl)) (by decide), ?_⟩
  refine List.forall_mem_cons.mpr ⟨s_iconst (dd_X8_hold (19, .iconst 0, 1) (List.mem_of_getElem? (i := 9) rfl)) rfl, ?_⟩
  refine List.forall_mem_cons.mpr ⟨Or.inr (Or.inl ⟨rfl, (dd_X8_hold (20, .ireturn, 1) (List.mem_of_getElem? (i := 10) rfl)), rfl⟩), ?_⟩
  exact fun _ h => absurd h List.not_mem_nil
theorem ow_X8_write : (mtJ 107).1.cls = "SatchelSins" := rfl
def D_X8_write : List (Nat × Instr × Nat) := [(0, .aload_n 0, 1), (1, .getfield 20, 3), (4, .iload_n 1, 1), (5, .invokevirtual 143, 3), (8, .ifCond .ne 6, 3), (11, .ldc 147, 2), (13, .ireturn, 1), (14, .iload_n 2, 1), (15, .ifCond .lt 10, 3), (18, .iload_n 2, 1), (19, .sipush 999, 3), (22, .if_icmp .le 6, 3), (25, .ldc 85, 2), (27, .ireturn, 1), (28, .aload_n 0, 1), (29, .getfield 80, 3), (32, .getfield 137, 3), (35, .bipush 15, 2), (37, .if_icmp .lt 6, 3), (40, .ldc 89, 2), (42, .ireturn, 1), (43, .aload_n 0, 1), (44, .getfield 80, 3), (47, .iload_n 1, 1), (48, .iload_n 2, 1), (49, .invokevirtual 276, 3), (52, .aload_n 0, 1), (53, .getfield 80, 3), (56, .getfield 137, 3), (59, .ireturn, 1)]
theorem dd_X8_write : ∀ e ∈ D_X8_write, decode (mtJ 107).2.1 e.1 = .ok e.2 := by decide +kernel
set_option maxRecDepth 10000 in
theorem so_X8_write : ∀ e ∈ o_X8_write, SndO 107 e.1 e.2 := by
  refine List.forall_mem_cons.mpr ⟨s_aload_n (dd_X8_write (0, .aload_n 0, 1) (List.mem_of_getElem? (i := 0) rfl)) rfl, ?_⟩
  refine List.forall_mem_cons.mpr ⟨s_getR (k := 3) K8 (by decide) (dd_X8_write (1, .getfield 20, 3) (List.mem_of_getElem? (i := 1) rfl)) ow_X8_write fl8_20 rfl, ?_⟩
  refine List.forall_mem_cons.mpr ⟨s_iload_n (dd_X8_write (4, .iload_n 1, 1) (List.mem_of_getElem? (i := 2) rfl)) rfl, ?_⟩
  refine List.forall_mem_cons.mpr ⟨⟨s_callV (ci := 5) rfl mo66 rfl rfl (dd_X8_write (5, .invokevirtual 143, 3) (List.mem_of_getElem? (i := 3) rfl)) ow_X8_write ml8_143 mi66 msl66 in_5 mn66, mo66⟩, ?_⟩
  refine List.forall_mem_cons.mpr ⟨s_if_ne (dd_X8_write (8, .ifCond .ne 6, 3) (List.mem_of_getElem? (i := 4) rfl)) (by decide), ?_⟩
  refine List.forall_mem_cons.mpr ⟨s_ldc (dd_X8_write (11, .ldc 147, 2) (List.mem_of_getElem? (i := 5) rfl)) ow_X8_write ki8_147, ?_⟩
  refine List.forall_mem_cons.mpr ⟨Or.inr (Or.inl ⟨rfl, (dd_X8_write (13, .ireturn, 1) (List.mem_of_getElem? (i := 6) rfl)), rfl⟩), ?_⟩
  refine List.forall_mem_cons.mpr ⟨s_iload_n (dd_X8_write (14, .iload_n 2, 1) (List.mem_of_getElem? (i := 7) rfl)) rfl, ?_⟩
  refine List.forall_mem_cons.mpr ⟨s_if_lt (dd_X8_write (15, .ifCond .lt 10, 3) (List.mem_of_getElem? (i := 8) rfl)) (by decide), ?_⟩
  refine List.forall_mem_cons.mpr ⟨s_iload_n (dd_X8_write (18, .iload_n 2, 1) (List.mem_of_getElem? (i := 9) rfl)) rfl, ?_⟩
  refine List.forall_mem_cons.mpr ⟨s_sipush (dd_X8_write (19, .sipush 999, 3) (List.mem_of_getElem? (i := 10) rfl)) rfl, ?_⟩
  refine List.forall_mem_cons.mpr ⟨s_icmp_le (dd_X8_write (22, .if_icmp .le 6, 3) (List.mem_of_getElem? (i := 11) rfl)) (by decide), ?_⟩
  refine List.forall_mem_cons.mpr ⟨s_ldc (dd_X8_write (25, .ldc 85, 2) (List.mem_of_getElem? (i := 12) rfl)) ow_X8_write ki8_85, ?_⟩
  refine List.forall_mem_cons.mpr ⟨Or.inr (Or.inl ⟨rfl, (dd_X8_write (27, .ireturn, 1) (List.mem_of_getElem? (i := 13) rfl)), rfl⟩), ?_⟩
  refine List.forall_mem_cons.mpr ⟨s_aload_n (dd_X8_write (28, .aload_n 0, 1) (List.mem_of_getElem? (i := 14) rfl)) rfl, ?_⟩
  refine List.forall_mem_cons.mpr ⟨s_getR (k := 12) K8 (by decide) (dd_X8_write (29, .getfield 80, 3) (List.mem_of_getElem? (i := 15) rfl)) ow_X8_write fl8_80 rfl, ?_⟩
  refine List.forall_mem_cons.mpr ⟨s_getI (k := 6) K7 (by decide) (dd_X8_write (32, .getfield 137, 3) (List.mem_of_getElem? (i := 16) rfl)) ow_X8_write fl8_137 rfl, ?_⟩
  refine List.forall_mem_cons.mpr ⟨s_bipush (dd_X8_write (35, .bipush 15, 2) (List.mem_of_getElem? (i := 17) rfl)) rfl, ?_⟩
  refine List.forall_mem_cons.mpr ⟨s_icmp_lt (dd_X8_write (37, .if_icmp .lt 6, 3) (List.mem_of_getElem? (i := 18) rfl)) (by decide), ?_⟩
  refine List.forall_mem_cons.mpr ⟨s_ldc (dd_X8_write (40, .ldc 89, 2) (List.mem_of_getElem? (i := 19) rfl)) ow_X8_write ki8_89, ?_⟩
  refine List.forall_mem_cons.mpr ⟨Or.inr (Or.inl ⟨rfl, (dd_X8_write (42, .ireturn, 1) (List.mem_of_getElem? (i := 20) rfl)), rfl⟩), ?_⟩
  refine List.forall_mem_cons.mpr ⟨s_aload_n (dd_X8_write (43, .aload_n 0, 1) (List.mem_of_getElem? (i := 21) rfl)) rfl, ?_⟩
  refine List.forall_mem_cons.mpr ⟨s_getR (k := 12) K8 (by decide) (dd_X8_write (44, .getfield 80, 3) (List.mem_of_getElem? (i := 22) rfl)) ow_X8_write fl8_80 rfl, ?_⟩
  refine List.forall_mem_cons.mpr ⟨s_iload_n (dd_X8_write (47, .iload_n 1, 1) (List.mem_of_getElem? (i := 23) rfl)) rfl, ?_⟩
  refine List.forall_mem_cons.mpr ⟨s_iload_n (dd_X8_write (48, .iload_n 2, 1) (List.mem_of_getElem? (i := 24) rfl)) rfl, ?_⟩
  refine List.forall_mem_cons.mpr ⟨⟨s_callV (ci := 7) rfl mo81 rfl rfl (dd_X8_write (49, .invokevirtual 276, 3) (List.mem_of_getElem? (i := 25) rfl)) ow_X8_write ml8_276 mi81 msl81 in_7 mn81, mo81⟩, ?_⟩
  refine List.forall_mem_cons.mpr ⟨s_aload_n (dd_X8_write (52, .aload_n 0, 1) (List.mem_of_getElem? (i := 26) rfl)) rfl, ?_⟩
  refine List.forall_mem_cons.mpr ⟨s_getR (k := 12) K8 (by decide) (dd_X8_write (53, .getfield 80, 3) (List.mem_of_getElem? (i := 27) rfl)) ow_X8_write fl8_80 rfl, ?_⟩
  refine List.forall_mem_cons.mpr ⟨s_getI (k := 6) K7 (by decide) (dd_X8_write (56, .getfield 137, 3) (List.mem_of_getElem? (i := 28) rfl)) ow_X8_write fl8_137 rfl, ?_⟩
  refine List.forall_mem_cons.mpr ⟨Or.inr (Or.inl ⟨rfl, (dd_X8_write (59, .ireturn, 1) (List.mem_of_getElem? (i := 29) rfl)), rfl⟩), ?_⟩
  exact fun _ h => absurd h List.not_mem_nil
theorem ow_X8_tear : (mtJ 108).1.cls = "SatchelSins" := rfl
def D_X8_tear : List (Nat × Instr × Nat) := [(0, .aload_n 0, 1), (1, .getfield 80, 3), (4, .getfield 134, 3), (7, .aload_n 0, 1), (8, .getfield 80, 3), (11, .getfield 137, 3), (14, .iadd, 1), (15, .istore_n 1, 1), (16, .aload_n 0, 1), (17, .getfield 80, 3), (20, .invokevirtual 279, 3), (23, .iload_n 1, 1), (24, .ireturn, 1)]
theorem dd_X8_tear : ∀ e ∈ D_X8_tear, decode (mtJ 108).2.1 e.1 = .ok e.2 := by decide +kernel
set_option maxRecDepth 10000 in
theorem so_X8_tear : ∀ e ∈ o_X8_tear, SndO 108 e.1 e.2 := by
  refine List.forall_mem_cons.mpr ⟨s_aload_n (dd_X8_tear (0, .aload_n 0, 1) (List.mem_of_getElem? (i := 0) rfl)) rfl, ?_⟩
  refine List.forall_mem_cons.mpr ⟨s_getR (k := 12) K8 (by decide) (dd_X8_tear (1, .getfield 80, 3) (List.mem_of_getElem? (i := 1) rfl)) ow_X8_tear fl8_80 rfl, ?_⟩
  refine List.forall_mem_cons.mpr ⟨s_getI (k := 5) K7 (by decide) (dd_X8_tear (4, .getfield 134, 3) (List.mem_of_getElem? (i := 2) rfl)) ow_X8_tear fl8_134 rfl, ?_⟩
  refine List.forall_mem_cons.mpr ⟨s_aload_n (dd_X8_tear (7, .aload_n 0, 1) (List.mem_of_getElem? (i := 3) rfl)) rfl, ?_⟩
  refine List.forall_mem_cons.mpr ⟨s_getR (k := 12) K8 (by decide) (dd_X8_tear (8, .getfield 80, 3) (List.mem_of_getElem? (i := 4) rfl)) ow_X8_tear fl8_80 rfl, ?_⟩
  refine List.forall_mem_cons.mpr ⟨s_getI (k := 6) K7 (by decide) (dd_X8_tear (11, .getfield 137, 3) (List.mem_of_getElem? (i := 5) rfl)) ow_X8_tear fl8_137 rfl, ?_⟩
  refine List.forall_mem_cons.mpr ⟨s_iadd (dd_X8_tear (14, .iadd, 1) (List.mem_of_getElem? (i := 6) rfl)), ?_⟩
  refine List.forall_mem_cons.mpr ⟨s_istore_n (dd_X8_tear (15, .istore_n 1, 1) (List.mem_of_getElem? (i := 7) rfl)) rfl, ?_⟩
  refine List.forall_mem_cons.mpr ⟨s_aload_n (dd_X8_tear (16, .aload_n 0, 1) (List.mem_of_getElem? (i := 8) rfl)) rfl, ?_⟩
  refine List.forall_mem_cons.mpr ⟨s_getR (k := 12) K8 (by decide) (dd_X8_tear (17, .getfield 80, 3) (List.mem_of_getElem? (i := 9) rfl)) ow_X8_tear fl8_80 rfl, ?_⟩
  refine List.forall_mem_cons.mpr ⟨⟨s_callV (ci := 7) rfl mo79 rfl rfl (dd_X8_tear (20, .invokevirtual 279, 3) (List.mem_of_getElem? (i := 10) rfl)) ow_X8_tear ml8_279 mi79 msl79 in_7 mn79, mo79⟩, ?_⟩
  refine List.forall_mem_cons.mpr ⟨s_iload_n (dd_X8_tear (23, .iload_n 1, 1) (List.mem_of_getElem? (i := 11) rfl)) rfl, ?_⟩
  refine List.forall_mem_cons.mpr ⟨Or.inr (Or.inl ⟨rfl, (dd_X8_tear (24, .ireturn, 1) (List.mem_of_getElem? (i := 12) rfl)), rfl⟩), ?_⟩
  exact fun _ h => absurd h List.not_mem_nil
theorem ow_X8_judge : (mtJ 109).1.cls = "SatchelSins" := rfl
def D_X8_judge : List (Nat × Instr × Nat) := [(0, .aload_n 0, 1), (1, .getfield 80, 3), (4, .aload_n 0, 1), (5, .getfield 41, 3), (8, .invokevirtual 282, 3), (11, .ireturn, 1)]
theorem dd_X8_judge : ∀ e ∈ D_X8_judge, decode (mtJ 109).2.1 e.1 = .ok e.2 := by decide +kernel
set_option maxRecDepth 10000 in
theorem so_X8_judge : ∀ e ∈ o_X8_judge, SndO 109 e.1 e.2 := by
  refine List.forall_mem_cons.mpr ⟨s_aload_n (dd_X8_judge (0, .aload_n 0, 1) (List.mem_of_getElem? (i := 0) rfl)) rfl, ?_⟩
  refine List.forall_mem_cons.mpr ⟨s_getR (k := 12) K8 (by decide) (dd_X8_judge (1, .getfield 80, 3) (List.mem_of_getElem? (i := 1) rfl)) ow_X8_judge fl8_80 rfl, ?_⟩
  refine List.forall_mem_cons.mpr ⟨s_aload_n (dd_X8_judge (4, .aload_n 0, 1) (List.mem_of_getElem? (i := 2) rfl)) rfl, ?_⟩
  refine List.forall_mem_cons.mpr ⟨s_getR (k := 6) K8 (by decide) (dd_X8_judge (5, .getfield 41, 3) (List.mem_of_getElem? (i := 3) rfl)) ow_X8_judge fl8_41 rfl, ?_⟩
  refine List.forall_mem_cons.mpr ⟨⟨s_callV (ci := 7) rfl mo83 rfl rfl (dd_X8_judge (8, .invokevirtual 282, 3) (List.mem_of_getElem? (i := 4) rfl)) ow_X8_judge ml8_282 mi83 msl83 in_7 mn83, mo83⟩, ?_⟩
  refine List.forall_mem_cons.mpr ⟨Or.inr (Or.inl ⟨rfl, (dd_X8_judge (11, .ireturn, 1) (List.mem_of_getElem? (i := 5) rfl)), rfl⟩), ?_⟩
  exact fun _ h => absurd h List.not_mem_nil
theorem ow_X8_seed : (mtJ 110).1.cls = "SatchelSins" := rfl
def D_X8_seed : List (Nat × Instr × Nat) := [(0, .iload_n 1, 1), (1, .ifCond .ge 6, 3), (4, .ldc 85, 2), (6, .ireturn, 1), (7, .aload_n 0, 1), (8, .getfield 285, 3), (11, .istore_n 2, 1), (12, .aload_n 0, 1), (13, .iload_n 1, 1), (14, .putfield 285, 3), (17, .iload_n 2, 1), (18, .ireturn, 1)]
theorem dd_X8_seed : ∀ e ∈ D_X8_seed, decode (mtJ 110).2.1 e.1 = .ok e.2 := by decide +kernel
set_option maxRecDepth 10000 in
theorem so_X8_seed : ∀ e ∈ o_X8_seed, SndO 110 e.1 e.2 := by
  refine List.forall_mem_cons.mpr ⟨s_iload_n (dd_X8_seed (0, .iload_n 1, 1) (List.mem_of_getElem? (i := 0) rfl)) rfl, ?_⟩
  refine List.forall_mem_cons.mpr ⟨s_if_ge (dd_X8_seed (1, .ifCond .ge 6, 3) (List.mem_of_getElem? (i := 1) rfl)) (by decide), ?_⟩
  refine List.forall_mem_cons.mpr ⟨s_ldc (dd_X8_seed (4, .ldc 85, 2) (List.mem_of_getElem? (i := 2) rfl)) ow_X8_seed ki8_85, ?_⟩
  refine List.forall_mem_cons.mpr ⟨Or.inr (Or.inl ⟨rfl, (dd_X8_seed (6, .ireturn, 1) (List.mem_of_getElem? (i := 3) rfl)), rfl⟩), ?_⟩
  refine List.forall_mem_cons.mpr ⟨s_aload_n (dd_X8_seed (7, .aload_n 0, 1) (List.mem_of_getElem? (i := 4) rfl)) rfl, ?_⟩
  refine List.forall_mem_cons.mpr ⟨s_getI (k := 13) K8 (by decide) (dd_X8_seed (8, .getfield 285, 3) (List.mem_of_getElem? (i := 5) rfl)) ow_X8_seed fl8_285 rfl, ?_⟩
  refine List.forall_mem_cons.mpr ⟨s_istore_n (dd_X8_seed (11, .istore_n 2, 1) (List.mem_of_getElem? (i := 6) rfl)) rfl, ?_⟩
  refine List.forall_mem_cons.mpr ⟨s_aload_n (dd_X8_seed (12, .aload_n 0, 1) (List.mem_of_getElem? (i := 7) rfl)) rfl, ?_⟩
  refine List.forall_mem_cons.mpr ⟨s_iload_n (dd_X8_seed (13, .iload_n 1, 1) (List.mem_of_getElem? (i := 8) rfl)) rfl, ?_⟩
  refine List.forall_mem_cons.mpr ⟨s_putI (k := 13) K8 (by decide) (dd_X8_seed (14, .putfield 285, 3) (List.mem_of_getElem? (i := 9) rfl)) ow_X8_seed fl8_285 (Or.inl rfl) rfl, ?_⟩
  refine List.forall_mem_cons.mpr ⟨s_iload_n (dd_X8_seed (17, .iload_n 2, 1) (List.mem_of_getElem? (i := 10) rfl)) rfl, ?_⟩
  refine List.forall_mem_cons.mpr ⟨Or.inr (Or.inl ⟨rfl, (dd_X8_seed (18, .ireturn, 1) (List.mem_of_getElem? (i := 11) rfl)), rfl⟩), ?_⟩
  exact fun _ h => absurd h List.not_mem_nil
theorem ow_X8_keep : (mtJ 111).1.cls = "SatchelSins" := rfl
def D_X8_keep : List (Nat × Instr × Nat) := [(0, .iload_n 1, 1), (1, .ifCond .lt 12, 3), (4, .iload_n 1, 1), (5, .aload_n 0, 1), (6, .getfield 54, 3), (9, .arraylength, 1), (10, .if_icmp .lt 6, 3), (13, .ldc 147, 2), (15, .ireturn, 1), (16, .aload_n 0, 1), (17, .getfield 54, 3), (20, .iload_n 1, 1), (21, .aaload, 1), (22, .aload_n 0, 1), (23, .getfield 41, 3), (26, .getfield 189, 3), (29, .aload_n 0, 1), (30, .getfield 285, 3), (33, .invokevirtual 288, 3), (36, .aload_n 0, 1), (37, .getfield 48, 3), (40, .invokevirtual 292, 3), (43, .iconst 1, 1), (44, .ireturn, 1)]
theorem dd_X8_keep : ∀ e ∈ D_X8_keep, decode (mtJ 111).2.1 e.1 = .ok e.2 := by decide +kernel
set_option maxRecDepth 10000 in
theorem so_X8_keep : ∀ e ∈ o_X8_keep, SndO 111 e.1 e.2 := by
  refine List.forall_mem_cons.mpr ⟨s_iload_n (dd_X8_keep (0, .iload_n 1, 1) (List.mem_of_getElem? (i := 0) rfl)) rfl, ?_⟩
  refine List.forall_mem_cons.mpr ⟨s_if_lt (dd_X8_keep (1, .ifCond .lt 12, 3) (List.mem_of_getElem? (i := 1) rfl)) (by decide), ?_⟩
  refine List.forall_mem_cons.mpr ⟨s_iload_n (dd_X8_keep (4, .iload_n 1, 1) (List.mem_of_getElem? (i := 2) rfl)) rfl, ?_⟩
  refine List.forall_mem_cons.mpr ⟨s_aload_n (dd_X8_keep (5, .aload_n 0, 1) (List.mem_of_getElem? (i := 3) rfl)) rfl, ?_⟩
  refine List.forall_mem_cons.mpr ⟨s_getR (k := 8) K8 (by decide) (dd_X8_keep (6, .getfield 54, 3) (List.mem_of_getElem? (i := 4) rfl)) ow_X8_keep fl8_54 rfl, ?_⟩
  refine List.forall_mem_cons.mpr ⟨s_alen (dd_X8_keep (9, .arraylength, 1) (List.mem_of_getElem? (i := 5) rfl)), ?_⟩
  refine List.forall_mem_cons.mpr ⟨s_icmp_lt (dd_X8_keep (10, .if_icmp .lt 6, 3) (List.mem_of_getElem? (i := 6) rfl)) (by decide), ?_⟩
  refine List.forall_mem_cons.mpr ⟨s_ldc (dd_X8_keep (13, .ldc 147, 2) (List.mem_of_getElem? (i := 7) rfl)) ow_X8_keep ki8_147, ?_⟩
  refine List.forall_mem_cons.mpr ⟨Or.inr (Or.inl ⟨rfl, (dd_X8_keep (15, .ireturn, 1) (List.mem_of_getElem? (i := 8) rfl)), rfl⟩), ?_⟩
  refine List.forall_mem_cons.mpr ⟨s_aload_n (dd_X8_keep (16, .aload_n 0, 1) (List.mem_of_getElem? (i := 9) rfl)) rfl, ?_⟩
  refine List.forall_mem_cons.mpr ⟨s_getR (k := 8) K8 (by decide) (dd_X8_keep (17, .getfield 54, 3) (List.mem_of_getElem? (i := 10) rfl)) ow_X8_keep fl8_54 rfl, ?_⟩
  refine List.forall_mem_cons.mpr ⟨s_iload_n (dd_X8_keep (20, .iload_n 1, 1) (List.mem_of_getElem? (i := 11) rfl)) rfl, ?_⟩
  refine List.forall_mem_cons.mpr ⟨s_aald (dd_X8_keep (21, .aaload, 1) (List.mem_of_getElem? (i := 12) rfl)), ?_⟩
  refine List.forall_mem_cons.mpr ⟨s_aload_n (dd_X8_keep (22, .aload_n 0, 1) (List.mem_of_getElem? (i := 13) rfl)) rfl, ?_⟩
  refine List.forall_mem_cons.mpr ⟨s_getR (k := 6) K8 (by decide) (dd_X8_keep (23, .getfield 41, 3) (List.mem_of_getElem? (i := 14) rfl)) ow_X8_keep fl8_41 rfl, ?_⟩
  refine List.forall_mem_cons.mpr ⟨s_getR (k := 0) K0 (by decide) (dd_X8_keep (26, .getfield 189, 3) (List.mem_of_getElem? (i := 15) rfl)) ow_X8_keep fl8_189 rfl, ?_⟩
  refine List.forall_mem_cons.mpr ⟨s_aload_n (dd_X8_keep (29, .aload_n 0, 1) (List.mem_of_getElem? (i := 16) rfl)) rfl, ?_⟩
  refine List.forall_mem_cons.mpr ⟨s_getI (k := 13) K8 (by decide) (dd_X8_keep (30, .getfield 285, 3) (List.mem_of_getElem? (i := 17) rfl)) ow_X8_keep fl8_285 rfl, ?_⟩
  refine List.forall_mem_cons.mpr ⟨⟨s_callV (ci := 1) rfl mo31 rfl rfl (dd_X8_keep (33, .invokevirtual 288, 3) (List.mem_of_getElem? (i := 18) rfl)) ow_X8_keep ml8_288 mi31 msl31 in_1 mn31, mo31⟩, ?_⟩
  refine List.forall_mem_cons.mpr ⟨s_aload_n (dd_X8_keep (36, .aload_n 0, 1) (List.mem_of_getElem? (i := 19) rfl)) rfl, ?_⟩
  refine List.forall_mem_cons.mpr ⟨s_getR (k := 7) K8 (by decide) (dd_X8_keep (37, .getfield 48, 3) (List.mem_of_getElem? (i := 20) rfl)) ow_X8_keep fl8_48 rfl, ?_⟩
  refine List.forall_mem_cons.mpr ⟨⟨s_callV (ci := 3) rfl mo45 rfl rfl (dd_X8_keep (40, .invokevirtual 292, 3) (List.mem_of_getElem? (i := 21) rfl)) ow_X8_keep ml8_292 mi45 msl45 in_3 mn45, mo45⟩, ?_⟩
  refine List.forall_mem_cons.mpr ⟨s_iconst (dd_X8_keep (43, .iconst 1, 1) (List.mem_of_getElem? (i := 22) rfl)) rfl, ?_⟩
  refine List.forall_mem_cons.mpr ⟨Or.inr (Or.inl ⟨rfl, (dd_X8_keep (44, .ireturn, 1) (List.mem_of_getElem? (i := 23) rfl)), rfl⟩), ?_⟩
  exact fun _ h => absurd h List.not_mem_nil
theorem ow_X8_goBack : (mtJ 112).1.cls = "SatchelSins" := rfl
def D_X8_goBack : List (Nat × Instr × Nat) := [(0, .iload_n 1, 1), (1, .ifCond .lt 12, 3), (4, .iload_n 1, 1), (5, .aload_n 0, 1), (6, .getfield 54, 3), (9, .arraylength, 1), (10, .if_icmp .lt 6, 3), (13, .ldc 147, 2), (15, .ireturn, 1), (16, .aload_n 0, 1), (17, .getfield 54, 3), (20, .iload_n 1, 1), (21, .aaload, 1), (22, .getfield 293, 3), (25, .ifCond .ne 6, 3), (28, .ldc 188, 2), (30, .ireturn, 1), (31, .aload_n 0, 1), (32, .getfield 54, 3), (35, .iload_n 1, 1), (36, .aaload, 1), (37, .aload_n 0, 1), (38, .getfield 41, 3), (41, .getfield 189, 3), (44, .invokevirtual 296, 3), (47, .aload_n 0, 1), (48, .aload_n 0, 1), (49, .getfield 54, 3), (52, .iload_n 1, 1), (53, .aaload, 1), (54, .getfield 299, 3), (57, .putfield 285, 3), (60, .aload_n 0, 1), (61, .getfield 48, 3), (64, .invokevirtual 292, 3), (67, .iconst 1, 1), (68, .ireturn, 1)]
theorem dd_X8_goBack : ∀ e ∈ D_X8_goBack, decode (mtJ 112).2.1 e.1 = .ok e.2 := by decide +kernel
set_option maxRecDepth 10000 in
theorem so_X8_goBack : ∀ e ∈ o_X8_goBack, SndO 112 e.1 e.2 := by
  refine List.forall_mem_cons.mpr ⟨s_iload_n (dd_X8_goBack (0, .iload_n 1, 1) (List.mem_of_getElem? (i := 0) rfl)) rfl, ?_⟩
  refine List.forall_mem_cons.mpr ⟨s_if_lt (dd_X8_goBack (1, .ifCond .lt 12, 3) (List.mem_of_getElem? (i := 1) rfl)) (by decide), ?_⟩
  refine List.forall_mem_cons.mpr ⟨s_iload_n (dd_X8_goBack (4, .iload_n 1, 1) (List.mem_of_getElem? (i := 2) rfl)) rfl, ?_⟩
  refine List.forall_mem_cons.mpr ⟨s_aload_n (dd_X8_goBack (5, .aload_n 0, 1) (List.mem_of_getElem? (i := 3) rfl)) rfl, ?_⟩
  refine List.forall_mem_cons.mpr ⟨s_getR (k := 8) K8 (by decide) (dd_X8_goBack (6, .getfield 54, 3) (List.mem_of_getElem? (i := 4) rfl)) ow_X8_goBack fl8_54 rfl, ?_⟩
  refine List.forall_mem_cons.mpr ⟨s_alen (dd_X8_goBack (9, .arraylength, 1) (List.mem_of_getElem? (i := 5) rfl)), ?_⟩
  refine List.forall_mem_cons.mpr ⟨s_icmp_lt (dd_X8_goBack (10, .if_icmp .lt 6, 3) (List.mem_of_getElem? (i := 6) rfl)) (by decide), ?_⟩
  refine List.forall_mem_cons.mpr ⟨s_ldc (dd_X8_goBack (13, .ldc 147, 2) (List.mem_of_getElem? (i := 7) rfl)) ow_X8_goBack ki8_147, ?_⟩
  refine List.forall_mem_cons.mpr ⟨Or.inr (Or.inl ⟨rfl, (dd_X8_goBack (15, .ireturn, 1) (List.mem_of_getElem? (i := 8) rfl)), rfl⟩), ?_⟩
  refine List.forall_mem_cons.mpr ⟨s_aload_n (dd_X8_goBack (16, .aload_n 0, 1) (List.mem_of_getElem? (i := 9) rfl)) rfl, ?_⟩
  refine List.forall_mem_cons.mpr ⟨s_getR (k := 8) K8 (by decide) (dd_X8_goBack (17, .getfield 54, 3) (List.mem_of_getElem? (i := 10) rfl)) ow_X8_goBack fl8_54 rfl, ?_⟩
  refine List.forall_mem_cons.mpr ⟨s_iload_n (dd_X8_goBack (20, .iload_n 1, 1) (List.mem_of_getElem? (i := 11) rfl)) rfl, ?_⟩
  refine List.forall_mem_cons.mpr ⟨s_aald (dd_X8_goBack (21, .aaload, 1) (List.mem_of_getElem? (i := 12) rfl)), ?_⟩
  refine List.forall_mem_cons.mpr ⟨s_getI (k := 2) K1 (by decide) (dd_X8_goBack (22, .getfield 293, 3) (List.mem_of_getElem? (i := 13) rfl)) ow_X8_goBack fl8_293 rfl, ?_⟩
  refine List.forall_mem_cons.mpr ⟨s_if_ne (dd_X8_goBack (25, .ifCond .ne 6, 3) (List.mem_of_getElem? (i := 14) rfl)) (by decide), ?_⟩
  refine List.forall_mem_cons.mpr ⟨s_ldc (dd_X8_goBack (28, .ldc 188, 2) (List.mem_of_getElem? (i := 15) rfl)) ow_X8_goBack ki8_188, ?_⟩
  refine List.forall_mem_cons.mpr ⟨Or.inr (Or.inl ⟨rfl, (dd_X8_goBack (30, .ireturn, 1) (List.mem_of_getElem? (i := 16) rfl)), rfl⟩), ?_⟩
  refine List.forall_mem_cons.mpr ⟨s_aload_n (dd_X8_goBack (31, .aload_n 0, 1) (List.mem_of_getElem? (i := 17) rfl)) rfl, ?_⟩
  refine List.forall_mem_cons.mpr ⟨s_getR (k := 8) K8 (by decide) (dd_X8_goBack (32, .getfield 54, 3) (List.mem_of_getElem? (i := 18) rfl)) ow_X8_goBack fl8_54 rfl, ?_⟩
  refine List.forall_mem_cons.mpr ⟨s_iload_n (dd_X8_goBack (35, .iload_n 1, 1) (List.mem_of_getElem? (i := 19) rfl)) rfl, ?_⟩
  refine List.forall_mem_cons.mpr ⟨s_aald (dd_X8_goBack (36, .aaload, 1) (List.mem_of_getElem? (i := 20) rfl)), ?_⟩
  refine List.forall_mem_cons.mpr ⟨s_aload_n (dd_X8_goBack (37, .aload_n 0, 1) (List.mem_of_getElem? (i := 21) rfl)) rfl, ?_⟩
  refine List.forall_mem_cons.mpr ⟨s_getR (k := 6) K8 (by decide) (dd_X8_goBack (38, .getfield 41, 3) (List.mem_of_getElem? (i := 22) rfl)) ow_X8_goBack fl8_41 rfl, ?_⟩
  refine List.forall_mem_cons.mpr ⟨s_getR (k := 0) K0 (by decide) (dd_X8_goBack (41, .getfield 189, 3) (List.mem_of_getElem? (i := 23) rfl)) ow_X8_goBack fl8_189 rfl, ?_⟩
  refine List.forall_mem_cons.mpr ⟨⟨s_callV (ci := 1) rfl mo32 rfl rfl (dd_X8_goBack (44, .invokevirtual 296, 3) (List.mem_of_getElem? (i := 24) rfl)) ow_X8_goBack ml8_296 mi32 msl32 in_1 mn32, mo32⟩, ?_⟩
  refine List.forall_mem_cons.mpr ⟨s_aload_n (dd_X8_goBack (47, .aload_n 0, 1) (List.mem_of_getElem? (i := 25) rfl)) rfl, ?_⟩
  refine List.forall_mem_cons.mpr ⟨s_aload_n (dd_X8_goBack (48, .aload_n 0, 1) (List.mem_of_getElem? (i := 26) rfl)) rfl, ?_⟩
  refine List.forall_mem_cons.mpr ⟨s_getR (k := 8) K8 (by decide) (dd_X8_goBack (49, .getfield 54, 3) (List.mem_of_getElem? (i := 27) rfl)) ow_X8_goBack fl8_54 rfl, ?_⟩
  refine List.forall_mem_cons.mpr ⟨s_iload_n (dd_X8_goBack (52, .iload_n 1, 1) (List.mem_of_getElem? (i := 28) rfl)) rfl, ?_⟩
  refine List.forall_mem_cons.mpr ⟨s_aald (dd_X8_goBack (53, .aaload, 1) (List.mem_of_getElem? (i := 29) rfl)), ?_⟩
  refine List.forall_mem_cons.mpr ⟨s_getI (k := 1) K1 (by decide) (dd_X8_goBack (54, .getfield 299, 3) (List.mem_of_getElem? (i := 30) rfl)) ow_X8_goBack fl8_299 rfl, ?_⟩
  refine List.forall_mem_cons.mpr ⟨s_putI (k := 13) K8 (by decide) (dd_X8_goBack (57, .putfield 285, 3) (List.mem_of_getElem? (i := 31) rfl)) ow_X8_goBack fl8_285 (Or.inl rfl) rfl, ?_⟩
  refine List.forall_mem_cons.mpr ⟨s_aload_n (dd_X8_goBack (60, .aload_n 0, 1) (List.mem_of_getElem? (i := 32) rfl)) rfl, ?_⟩
  refine List.forall_mem_cons.mpr ⟨s_getR (k := 7) K8 (by decide) (dd_X8_goBack (61, .getfield 48, 3) (List.mem_of_getElem? (i := 33) rfl)) ow_X8_goBack fl8_48 rfl, ?_⟩
  refine List.forall_mem_cons.mpr ⟨⟨s_callV (ci := 3) rfl mo45 rfl rfl (dd_X8_goBack (64, .invokevirtual 292, 3) (List.mem_of_getElem? (i := 34) rfl)) ow_X8_goBack ml8_292 mi45 msl45 in_3 mn45, mo45⟩, ?_⟩
  refine List.forall_mem_cons.mpr ⟨s_iconst (dd_X8_goBack (67, .iconst 1, 1) (List.mem_of_getElem? (i := 35) rfl)) rfl, ?_⟩
  refine List.forall_mem_cons.mpr ⟨Or.inr (Or.inl ⟨rfl, (dd_X8_goBack (68, .ireturn, 1) (List.mem_of_getElem? (i := 36) rfl)), rfl⟩), ?_⟩
  exact fun _ h => absurd h List.not_mem_nil
theorem ow_X8_beginAnew : (mtJ 113).1.cls = "SatchelSins" := rfl
def D_X8_beginAnew : List (Nat × Instr × Nat) := [(0, .aload_n 0, 1), (1, .getfield 41, 3), (4, .invokevirtual 300, 3), (7, .aload_n 0, 1), (8, .getfield 48, 3), (11, .invokevirtual 292, 3), (14, .aload_n 0, 1), (15, .getfield 80, 3), (18, .invokevirtual 279, 3), (21, .aload_n 0, 1), (22, .getfield 63, 3), (25, .invokevirtual 301, 3), (28, .aload_n 0, 1), (29, .getfield 67, 3), (32, .invokevirtual 301, 3), (35, .iconst 0, 1), (36, .istore_n 1, 1), (37, .iload_n 1, 1), (38, .aload_n 0, 1), (39, .getfield 54, 3), (42, .arraylength, 1), (43, .if_icmp .ge 19, 3), (46, .aload_n 0, 1), (47, .getfield 54, 3), (50, .iload_n 1, 1), (51, .aaload, 1), (52, .iconst 0, 1), (53, .putfield 293, 3), (56, .iinc 1 1, 3), (59, .goto (-22), 3), (62, .return_, 1)]
theorem dd_X8_beginAnew : ∀ e ∈ D_X8_beginAnew, decode (mtJ 113).2.1 e.1 = .ok e.2 := by decide +kernel
set_option maxRecDepth 10000 in
theorem so_X8_beginAnew : ∀ e ∈ o_X8_beginAnew, SndO 113 e.1 e.2 := by
  refine List.forall_mem_cons.mpr ⟨s_aload_n (dd_X8_beginAnew (0, .aload_n 0, 1) (List.mem_of_getElem? (i := 0) rfl)) rfl, ?_⟩
  refine List.forall_mem_cons.mpr ⟨s_getR (k := 6) K8 (by decide) (dd_X8_beginAnew (1, .getfield 41, 3) (List.mem_of_getElem? (i := 1) rfl)) ow_X8_beginAnew fl8_41 rfl, ?_⟩
  refine List.forall_mem_cons.mpr ⟨⟨s_callV (ci := 0) rfl mo1 rfl rfl (dd_X8_beginAnew (4, .invokevirtual 300, 3) (List.mem_of_getElem? (i := 2) rfl)) ow_X8_beginAnew ml8_300 mi1 msl1 in_0 mn1, mo1⟩, ?_⟩
  refine List.forall_mem_cons.mpr ⟨s_aload_n (dd_X8_beginAnew (7, .aload_n 0, 1) (List.mem_of_getElem? (i := 3) rfl)) rfl, ?_⟩
  refine List.forall_mem_cons.mpr ⟨s_getR (k := 7) K8 (by decide) (dd_X8_beginAnew (8, .getfield 48, 3) (List.mem_of_getElem? (i := 4) rfl)) ow_X8_beginAnew fl8_48 rfl, ?_⟩
  refine List.forall_mem_cons.mpr ⟨⟨s_callV (ci := 3) rfl mo45 rfl rfl (dd_X8_beginAnew (11, .invokevirtual 292, 3) (List.mem_of_getElem? (i := 5) rfl)) ow_X8_beginAnew ml8_292 mi45 msl45 in_3 mn45, mo45⟩, ?_⟩
  refine List.forall_mem_cons.mpr ⟨s_aload_n (dd_X8_beginAnew (14, .aload_n 0, 1) (List.mem_of_getElem? (i := 6) rfl)) rfl, ?_⟩
  refine List.forall_mem_cons.mpr ⟨s_getR (k := 12) K8 (by decide) (dd_X8_beginAnew (15, .getfield 80, 3) (List.mem_of_getElem? (i := 7) rfl)) ow_X8_beginAnew fl8_80 rfl, ?_⟩
  refine List.forall_mem_cons.mpr ⟨⟨s_callV (ci := 7) rfl mo79 rfl rfl (dd_X8_beginAnew (18, .invokevirtual 279, 3) (List.mem_of_getElem? (i := 8) rfl)) ow_X8_beginAnew ml8_279 mi79 msl79 in_7 mn79, mo79⟩, ?_⟩
  refine List.forall_mem_cons.mpr ⟨s_aload_n (dd_X8_beginAnew (21, .aload_n 0, 1) (List.mem_of_getElem? (i := 9) rfl)) rfl, ?_⟩
  refine List.forall_mem_cons.mpr ⟨s_getR (k := 9) K8 (by decide) (dd_X8_beginAnew (22, .getfield 63, 3) (List.mem_of_getElem? (i := 10) rfl)) ow_X8_beginAnew fl8_63 rfl, ?_⟩
  refine List.forall_mem_cons.mpr ⟨⟨s_callV (ci := 2) rfl mo34 rfl rfl (dd_X8_beginAnew (25, .invokevirtual 301, 3) (List.mem_of_getElem? (i := 11) rfl)) ow_X8_beginAnew ml8_301 mi34 msl34 in_2 mn34, mo34⟩, ?_⟩
  refine List.forall_mem_cons.mpr ⟨s_aload_n (dd_X8_beginAnew (28, .aload_n 0, 1) (List.mem_of_getElem? (i := 12) rfl)) rfl, ?_⟩
  refine List.forall_mem_cons.mpr ⟨s_getR (k := 10) K8 (by decide) (dd_X8_beginAnew (29, .getfield 67, 3) (List.mem_of_getElem? (i := 13) rfl)) ow_X8_beginAnew fl8_67 rfl, ?_⟩
  refine List.forall_mem_cons.mpr ⟨⟨s_callV (ci := 2) rfl mo34 rfl rfl (dd_X8_beginAnew (32, .invokevirtual 301, 3) (List.mem_of_getElem? (i := 14) rfl)) ow_X8_beginAnew ml8_301 mi34 msl34 in_2 mn34, mo34⟩, ?_⟩
  refine List.forall_mem_cons.mpr ⟨s_iconst (dd_X8_beginAnew (35, .iconst 0, 1) (List.mem_of_getElem? (i := 15) rfl)) rfl, ?_⟩
  refine List.forall_mem_cons.mpr ⟨s_istore_n (dd_X8_beginAnew (36, .istore_n 1, 1) (List.mem_of_getElem? (i := 16) rfl)) rfl, ?_⟩
  refine List.forall_mem_cons.mpr ⟨s_iload_n (dd_X8_beginAnew (37, .iload_n 1, 1) (List.mem_of_getElem? (i := 17) rfl)) rfl, ?_⟩
  refine List.forall_mem_cons.mpr ⟨s_aload_n (dd_X8_beginAnew (38, .aload_n 0, 1) (List.mem_of_getElem? (i := 18) rfl)) rfl, ?_⟩
  refine List.forall_mem_cons.mpr ⟨s_getR (k := 8) K8 (by decide) (dd_X8_beginAnew (39, .getfield 54, 3) (List.mem_of_getElem? (i := 19) rfl)) ow_X8_beginAnew fl8_54 rfl, ?_⟩
  refine List.forall_mem_cons.mpr ⟨s_alen (dd_X8_beginAnew (42, .arraylength, 1) (List.mem_of_getElem? (i := 20) rfl)), ?_⟩
  refine List.forall_mem_cons.mpr ⟨s_icmp_ge (dd_X8_beginAnew (43, .if_icmp .ge 19, 3) (List.mem_of_getElem? (i := 21) rfl)) (by decide), ?_⟩
  refine List.forall_mem_cons.mpr ⟨s_aload_n (dd_X8_beginAnew (46, .aload_n 0, 1) (List.mem_of_getElem? (i := 22) rfl)) rfl, ?_⟩
  refine List.forall_mem_cons.mpr ⟨s_getR (k := 8) K8 (by decide) (dd_X8_beginAnew (47, .getfield 54, 3) (List.mem_of_getElem? (i := 23) rfl)) ow_X8_beginAnew fl8_54 rfl, ?_⟩
  refine List.forall_mem_cons.mpr ⟨s_iload_n (dd_X8_beginAnew (50, .iload_n 1, 1) (List.mem_of_getElem? (i := 24) rfl)) rfl, ?_⟩
  refine List.forall_mem_cons.mpr ⟨s_aald (dd_X8_beginAnew (51, .aaload, 1) (List.mem_of_getElem? (i := 25) rfl)), ?_⟩
  refine List.forall_mem_cons.mpr ⟨s_iconst (dd_X8_beginAnew (52, .iconst 0, 1) (List.mem_of_getElem? (i := 26) rfl)) rfl, ?_⟩
  refine List.forall_mem_cons.mpr ⟨s_putZ (k := 2) K1 (by decide) (dd_X8_beginAnew (53, .putfield 293, 3) (List.mem_of_getElem? (i := 27) rfl)) ow_X8_beginAnew fl8_293 (Or.inl rfl) rfl, ?_⟩
  refine List.forall_mem_cons.mpr ⟨s_iinc (dd_X8_beginAnew (56, .iinc 1 1, 3) (List.mem_of_getElem? (i := 28) rfl)) rfl, ?_⟩
  refine List.forall_mem_cons.mpr ⟨s_goto (dd_X8_beginAnew (59, .goto (-22), 3) (List.mem_of_getElem? (i := 29) rfl)) (by decide), ?_⟩
  refine List.forall_mem_cons.mpr ⟨Or.inl ⟨rfl, (dd_X8_beginAnew (62, .return_, 1) (List.mem_of_getElem? (i := 30) rfl)), rfl⟩, ?_⟩
  exact fun _ h => absurd h List.not_mem_nil
theorem ow_X8_packed : (mtJ 114).1.cls = "SatchelSins" := rfl
def D_X8_packed : List (Nat × Instr × Nat) := [(0, .iload_n 2, 1), (1, .iconst (-1), 1), (2, .if_icmp .ne 8, 3), (5, .aload_n 1, 1), (6, .invokevirtual 304, 3), (9, .ireturn, 1), (10, .aload_n 0, 1), (11, .getfield 20, 3), (14, .iload_n 2, 1), (15, .invokevirtual 170, 3), (18, .ifCond .eq 11, 3), (21, .aload_n 1, 1), (22, .iload_n 2, 1), (23, .invokevirtual 307, 3), (26, .goto 5, 3), (29, .ldc 147, 2), (31, .ireturn, 1)]
theorem dd_X8_packed : ∀ e ∈ D_X8_packed, decode (mtJ 114).2.1 e.1 = .ok e.2 := by decide +kernel
set_option maxRecDepth 10000 in
theorem so_X8_packed : ∀ e ∈ o_X8_packed, SndO 114 e.1 e.2 := by
  refine List.forall_mem_cons.mpr ⟨s_iload_n (dd_X8_packed (0, .iload_n 2, 1) (List.mem_of_getElem? (i := 0) rfl)) rfl, ?_⟩
  refine List.forall_mem_cons.mpr ⟨s_iconst (dd_X8_packed (1, .iconst (-1), 1) (List.mem_of_getElem? (i := 1) rfl)) rfl, ?_⟩
  refine List.forall_mem_cons.mpr ⟨s_icmp_ne (dd_X8_packed (2, .if_icmp .ne 8, 3) (List.mem_of_getElem? (i := 2) rfl)) (by decide), ?_⟩
  refine List.forall_mem_cons.mpr ⟨s_aload_n (dd_X8_packed (5, .aload_n 1, 1) (List.mem_of_getElem? (i := 3) rfl)) rfl, ?_⟩
  refine List.forall_mem_cons.mpr ⟨⟨s_callV (ci := 2) rfl mo35 rfl rfl (dd_X8_packed (6, .invokevirtual 304, 3) (List.mem_of_getElem? (i := 4) rfl)) ow_X8_packed ml8_304 mi35 msl35 in_2 mn35, mo35⟩, ?_⟩
  refine List.forall_mem_cons.mpr ⟨Or.inr (Or.inl ⟨rfl, (dd_X8_packed (9, .ireturn, 1) (List.mem_of_getElem? (i := 5) rfl)), rfl⟩), ?_⟩
  refine List.forall_mem_cons.mpr ⟨s_aload_n (dd_X8_packed (10, .aload_n 0, 1) (List.mem_of_getElem? (i := 6) rfl)) rfl, ?_⟩
  refine List.forall_mem_cons.mpr ⟨s_getR (k := 3) K8 (by decide) (dd_X8_packed (11, .getfield 20, 3) (List.mem_of_getElem? (i := 7) rfl)) ow_X8_packed fl8_20 rfl, ?_⟩
  refine List.forall_mem_cons.mpr ⟨s_iload_n (dd_X8_packed (14, .iload_n 2, 1) (List.mem_of_getElem? (i := 8) rfl)) rfl, ?_⟩
  refine List.forall_mem_cons.mpr ⟨⟨s_callV (ci := 5) rfl mo67 rfl rfl (dd_X8_packed (15, .invokevirtual 170, 3) (List.mem_of_getElem? (i := 9) rfl)) ow_X8_packed ml8_170 mi67 msl67 in_5 mn67, mo67⟩, ?_⟩
  refine List.forall_mem_cons.mpr ⟨s_if_eq (dd_X8_packed (18, .ifCond .eq 11, 3) (List.mem_of_getElem? (i := 10) rfl)) (by decide), ?_⟩
  refine List.forall_mem_cons.mpr ⟨s_aload_n (dd_X8_packed (21, .aload_n 1, 1) (List.mem_of_getElem? (i := 11) rfl)) rfl, ?_⟩
  refine List.forall_mem_cons.mpr ⟨s_iload_n (dd_X8_packed (22, .iload_n 2, 1) (List.mem_of_getElem? (i := 12) rfl)) rfl, ?_⟩
  refine List.forall_mem_cons.mpr ⟨⟨s_callV (ci := 2) rfl mo36 rfl rfl (dd_X8_packed (23, .invokevirtual 307, 3) (List.mem_of_getElem? (i := 13) rfl)) ow_X8_packed ml8_307 mi36 msl36 in_2 mn36, mo36⟩, ?_⟩
  refine List.forall_mem_cons.mpr ⟨s_goto (dd_X8_packed (26, .goto 5, 3) (List.mem_of_getElem? (i := 14) rfl)) (by decide), ?_⟩
  refine List.forall_mem_cons.mpr ⟨s_ldc (dd_X8_packed (29, .ldc 147, 2) (List.mem_of_getElem? (i := 15) rfl)) ow_X8_packed ki8_147, ?_⟩
  refine List.forall_mem_cons.mpr ⟨Or.inr (Or.inl ⟨rfl, (dd_X8_packed (31, .ireturn, 1) (List.mem_of_getElem? (i := 16) rfl)), rfl⟩), ?_⟩
  exact fun _ h => absurd h List.not_mem_nil
theorem ow_X8_driftOnce : (mtJ 115).1.cls = "SatchelSins" := rfl
def D_X8_driftOnce : List (Nat × Instr × Nat) := [(0, .aload_n 0, 1), (1, .aload_n 0, 1), (2, .getfield 20, 3), (5, .getfield 110, 3), (8, .invokevirtual 310, 3), (11, .istore_n 1, 1), (12, .aload_n 0, 1), (13, .iconst 4, 1), (14, .invokevirtual 310, 3), (17, .tableswitch 111 0 2 #[27, 49, 71], 27), (44, .aload_n 0, 1), (45, .getfield 41, 3), (48, .iload_n 1, 1), (49, .invokevirtual 185, 3), (52, .ifCond .eq 84, 3), (55, .aload_n 0, 1), (56, .getfield 41, 3), (59, .iload_n 1, 1), (60, .invokevirtual 196, 3), (63, .goto 73, 3), (66, .aload_n 0, 1), (67, .getfield 41, 3), (70, .iload_n 1, 1), (71, .invokevirtual 214, 3), (74, .ifCond .eq 62, 3), (77, .aload_n 0, 1), (78, .getfield 41, 3), (81, .iload_n 1, 1), (82, .invokevirtual 217, 3), (85, .goto 51, 3), (88, .aload_n 0, 1), (89, .getfield 20, 3), (92, .aload_n 0, 1), (93, .getfield 41, 3), (96, .iload_n 1, 1), (97, .invokevirtual 182, 3), (100, .invokevirtual 313, 3), (103, .istore_n 2, 1), (104, .aload_n 0, 1), (105, .getfield 41, 3), (108, .iload_n 1, 1), (109, .iload_n 2, 1), (110, .invokevirtual 200, 3), (113, .ifCond .eq 23, 3), (116, .aload_n 0, 1), (117, .getfield 41, 3), (120, .iload_n 1, 1), (121, .iload_n 2, 1), (122, .invokevirtual 204, 3), (125, .goto 11, 3), (128, .aload_n 0, 1), (129, .getfield 41, 3), (132, .invokevirtual 224, 3), (135, .pop, 1), (136, .return_, 1)]
theorem dd_X8_driftOnce : ∀ e ∈ D_X8_driftOnce, decode (mtJ 115).2.1 e.1 = .ok e.2 := by decide +kernel
set_option maxRecDepth 10000 in
theorem so_X8_driftOnce : ∀ e ∈ o_X8_driftOnce, SndO 115 e.1 e.2 := by
  refine List.forall_mem_cons.mpr ⟨s_aload_n (dd_X8_driftOnce (0, .aload_n 0, 1) (List.mem_of_getElem? (i := 0) rfl)) rfl, ?_⟩
  refine List.forall_mem_cons.mpr ⟨s_aload_n (dd_X8_driftOnce (1, .aload_n 0, 1) (List.mem_of_getElem? (i := 1) rfl)) rfl, ?_⟩
  refine List.forall_mem_cons.mpr ⟨s_getR (k := 3) K8 (by decide) (dd_X8_driftOnce (2, .getfield 20, 3) (List.mem_of_getElem? (i := 2) rfl)) ow_X8_driftOnce fl8_20 rfl, ?_⟩
  refine List.forall_mem_cons.mpr ⟨s_getI (k := 3) K5 (by decide) (dd_X8_driftOnce (5, .getfield 110, 3) (List.mem_of_getElem? (i := 3) rfl)) ow_X8_driftOnce fl8_110 rfl, ?_⟩
  refine List.forall_mem_cons.mpr ⟨⟨s_callV (ci := 8) rfl mo116 rfl rfl (dd_X8_driftOnce (8, .invokevirtual 310, 3) (List.mem_of_getElem? (i := 4) rfl)) ow_X8_driftOnce ml8_310 mi116 msl116 in_8 mn116, mo116⟩, ?_⟩
  refine List.forall_mem_cons.mpr ⟨s_istore_n (dd_X8_driftOnce (11, .istore_n 1, 1) (List.mem_of_getElem? (i := 5) rfl)) rfl, ?_⟩
  refine List.forall_mem_cons.mpr ⟨s_aload_n (dd_X8_driftOnce (12, .aload_n 0, 1) (List.mem_of_getElem? (i := 6) rfl)) rfl, ?_⟩
  refine List.forall_mem_cons.mpr ⟨s_iconst (dd_X8_driftOnce (13, .iconst 4, 1) (List.mem_of_getElem? (i := 7) rfl)) rfl, ?_⟩
  refine List.forall_mem_cons.mpr ⟨⟨s_callV (ci := 8) rfl mo116 rfl rfl (dd_X8_driftOnce (14, .invokevirtual 310, 3) (List.mem_of_getElem? (i := 8) rfl)) ow_X8_driftOnce ml8_310 mi116 msl116 in_8 mn116, mo116⟩, ?_⟩
  refine List.forall_mem_cons.mpr ⟨s_tsw (dd_X8_driftOnce (17, .tableswitch 111 0 2 #[27, 49, 71], 27) (List.mem_of_getElem? (i := 9) rfl)) (by decide) (by decide) (by decide), ?_⟩
  refine List.forall_mem_cons.mpr ⟨s_aload_n (dd_X8_driftOnce (44, .aload_n 0, 1) (List.mem_of_getElem? (i := 10) rfl)) rfl, ?_⟩
  refine List.forall_mem_cons.mpr ⟨s_getR (k := 6) K8 (by decide) (dd_X8_driftOnce (45, .getfield 41, 3) (List.mem_of_getElem? (i := 11) rfl)) ow_X8_driftOnce fl8_41 rfl, ?_⟩
  refine List.forall_mem_cons.mpr ⟨s_iload_n (dd_X8_driftOnce (48, .iload_n 1, 1) (List.mem_of_getElem? (i := 12) rfl)) rfl, ?_⟩
  refine List.forall_mem_cons.mpr ⟨⟨s_callV (ci := 0) rfl mo19 rfl rfl (dd_X8_driftOnce (49, .invokevirtual 185, 3) (List.mem_of_getElem? (i := 13) rfl)) ow_X8_driftOnce ml8_185 mi19 msl19 in_0 mn19, mo19⟩, ?_⟩
  refine List.forall_mem_cons.mpr ⟨s_if_eq (dd_X8_driftOnce (52, .ifCond .eq 84, 3) (List.mem_of_getElem? (i := 14) rfl)) (by decide), ?_⟩
  refine List.forall_mem_cons.mpr ⟨s_aload_n (dd_X8_driftOnce (55, .aload_n 0, 1) (List.mem_of_getElem? (i := 15) rfl)) rfl, ?_⟩
  refine List.forall_mem_cons.mpr ⟨s_getR (k := 6) K8 (by decide) (dd_X8_driftOnce (56, .getfield 41, 3) (List.mem_of_getElem? (i := 16) rfl)) ow_X8_driftOnce fl8_41 rfl, ?_⟩
  refine List.forall_mem_cons.mpr ⟨s_iload_n (dd_X8_driftOnce (59, .iload_n 1, 1) (List.mem_of_getElem? (i := 17) rfl)) rfl, ?_⟩
  refine List.forall_mem_cons.mpr ⟨⟨s_callV (ci := 0) rfl mo24 rfl rfl (dd_X8_driftOnce (60, .invokevirtual 196, 3) (List.mem_of_getElem? (i := 18) rfl)) ow_X8_driftOnce ml8_196 mi24 msl24 in_0 mn24, mo24⟩, ?_⟩
  refine List.forall_mem_cons.mpr ⟨s_goto (dd_X8_driftOnce (63, .goto 73, 3) (List.mem_of_getElem? (i := 19) rfl)) (by decide), ?_⟩
  refine List.forall_mem_cons.mpr ⟨s_aload_n (dd_X8_driftOnce (66, .aload_n 0, 1) (List.mem_of_getElem? (i := 20) rfl)) rfl, ?_⟩
  refine List.forall_mem_cons.mpr ⟨s_getR (k := 6) K8 (by decide) (dd_X8_driftOnce (67, .getfield 41, 3) (List.mem_of_getElem? (i := 21) rfl)) ow_X8_driftOnce fl8_41 rfl, ?_⟩
  refine List.forall_mem_cons.mpr ⟨s_iload_n (dd_X8_driftOnce (70, .iload_n 1, 1) (List.mem_of_getElem? (i := 22) rfl)) rfl, ?_⟩
  refine List.forall_mem_cons.mpr ⟨⟨s_callV (ci := 0) rfl mo21 rfl rfl (dd_X8_driftOnce (71, .invokevirtual 214, 3) (List.mem_of_getElem? (i := 23) rfl)) ow_X8_driftOnce ml8_214 mi21 msl21 in_0 mn21, mo21⟩, ?_⟩
  refine List.forall_mem_cons.mpr ⟨s_if_eq (dd_X8_driftOnce (74, .ifCond .eq 62, 3) (List.mem_of_getElem? (i := 24) rfl)) (by decide), ?_⟩
  refine List.forall_mem_cons.mpr ⟨s_aload_n (dd_X8_driftOnce (77, .aload_n 0, 1) (List.mem_of_getElem? (i := 25) rfl)) rfl, ?_⟩
  refine List.forall_mem_cons.mpr ⟨s_getR (k := 6) K8 (by decide) (dd_X8_driftOnce (78, .getfield 41, 3) (List.mem_of_getElem? (i := 26) rfl)) ow_X8_driftOnce fl8_41 rfl, ?_⟩
  refine List.forall_mem_cons.mpr ⟨s_iload_n (dd_X8_driftOnce (81, .iload_n 1, 1) (List.mem_of_getElem? (i := 27) rfl)) rfl, ?_⟩
  refine List.forall_mem_cons.mpr ⟨⟨s_callV (ci := 0) rfl mo27 rfl rfl (dd_X8_driftOnce (82, .invokevirtual 217, 3) (List.mem_of_getElem? (i := 28) rfl)) ow_X8_driftOnce ml8_217 mi27 msl27 in_0 mn27, mo27⟩, ?_⟩
  refine List.forall_mem_cons.mpr ⟨s_goto (dd_X8_driftOnce (85, .goto 51, 3) (List.mem_of_getElem? (i := 29) rfl)) (by decide), ?_⟩
  refine List.forall_mem_cons.mpr ⟨s_aload_n (dd_X8_driftOnce (88, .aload_n 0, 1) (List.mem_of_getElem? (i := 30) rfl)) rfl, ?_⟩
  refine List.forall_mem_cons.mpr ⟨s_getR (k := 3) K8 (by decide) (dd_X8_driftOnce (89, .getfield 20, 3) (List.mem_of_getElem? (i := 31) rfl)) ow_X8_driftOnce fl8_20 rfl, ?_⟩
  refine List.forall_mem_cons.mpr ⟨s_aload_n (dd_X8_driftOnce (92, .aload_n 0, 1) (List.mem_of_getElem? (i := 32) rfl)) rfl, ?_⟩
  refine List.forall_mem_cons.mpr ⟨s_getR (k := 6) K8 (by decide) (dd_X8_driftOnce (93, .getfield 41, 3) (List.mem_of_getElem? (i := 33) rfl)) ow_X8_driftOnce fl8_41 rfl, ?_⟩
  refine List.forall_mem_cons.mpr ⟨s_iload_n (dd_X8_driftOnce (96, .iload_n 1, 1) (List.mem_of_getElem? (i := 34) rfl)) rfl, ?_⟩
  refine List.forall_mem_cons.mpr ⟨⟨s_callV (ci := 0) rfl mo7 rfl rfl (dd_X8_driftOnce (97, .invokevirtual 182, 3) (List.mem_of_getElem? (i := 35) rfl)) ow_X8_driftOnce ml8_182 mi7 msl7 in_0 mn7, mo7⟩, ?_⟩
  refine List.forall_mem_cons.mpr ⟨⟨s_callV (ci := 5) rfl mo68 rfl rfl (dd_X8_driftOnce (100, .invokevirtual 313, 3) (List.mem_of_getElem? (i := 36) rfl)) ow_X8_driftOnce ml8_313 mi68 msl68 in_5 mn68, mo68⟩, ?_⟩
  refine List.forall_mem_cons.mpr ⟨s_istore_n (dd_X8_driftOnce (103, .istore_n 2, 1) (List.mem_of_getElem? (i := 37) rfl)) rfl, ?_⟩
  refine List.forall_mem_cons.mpr ⟨s_aload_n (dd_X8_driftOnce (104, .aload_n 0, 1) (List.mem_of_getElem? (i := 38) rfl)) rfl, ?_⟩
  refine List.forall_mem_cons.mpr ⟨s_getR (k := 6) K8 (by decide) (dd_X8_driftOnce (105, .getfield 41, 3) (List.mem_of_getElem? (i := 39) rfl)) ow_X8_driftOnce fl8_41 rfl, ?_⟩
  refine List.forall_mem_cons.mpr ⟨s_iload_n (dd_X8_driftOnce (108, .iload_n 1, 1) (List.mem_of_getElem? (i := 40) rfl)) rfl, ?_⟩
  refine List.forall_mem_cons.mpr ⟨s_iload_n (dd_X8_driftOnce (109, .iload_n 2, 1) (List.mem_of_getElem? (i := 41) rfl)) rfl, ?_⟩
  refine List.forall_mem_cons.mpr ⟨⟨s_callV (ci := 0) rfl mo20 rfl rfl (dd_X8_driftOnce (110, .invokevirtual 200, 3) (List.mem_of_getElem? (i := 42) rfl)) ow_X8_driftOnce ml8_200 mi20 msl20 in_0 mn20, mo20⟩, ?_⟩
  refine List.forall_mem_cons.mpr ⟨s_if_eq (dd_X8_driftOnce (113, .ifCond .eq 23, 3) (List.mem_of_getElem? (i := 43) rfl)) (by decide), ?_⟩
  refine List.forall_mem_cons.mpr ⟨s_aload_n (dd_X8_driftOnce (116, .aload_n 0, 1) (List.mem_of_getElem? (i := 44) rfl)) rfl, ?_⟩
  refine List.forall_mem_cons.mpr ⟨s_getR (k := 6) K8 (by decide) (dd_X8_driftOnce (117, .getfield 41, 3) (List.mem_of_getElem? (i := 45) rfl)) ow_X8_driftOnce fl8_41 rfl, ?_⟩
  refine List.forall_mem_cons.mpr ⟨s_iload_n (dd_X8_driftOnce (120, .iload_n 1, 1) (List.mem_of_getElem? (i := 46) rfl)) rfl, ?_⟩
  refine List.forall_mem_cons.mpr ⟨s_iload_n (dd_X8_driftOnce (121, .iload_n 2, 1) (List.mem_of_getElem? (i := 47) rfl)) rfl, ?_⟩
  refine List.forall_mem_cons.mpr ⟨⟨s_callV (ci := 0) rfl mo25 rfl rfl (dd_X8_driftOnce (122, .invokevirtual 204, 3) (List.mem_of_getElem? (i := 48) rfl)) ow_X8_driftOnce ml8_204 mi25 msl25 in_0 mn25, mo25⟩, ?_⟩
  refine List.forall_mem_cons.mpr ⟨s_goto (dd_X8_driftOnce (125, .goto 11, 3) (List.mem_of_getElem? (i := 49) rfl)) (by decide), ?_⟩
  refine List.forall_mem_cons.mpr ⟨s_aload_n (dd_X8_driftOnce (128, .aload_n 0, 1) (List.mem_of_getElem? (i := 50) rfl)) rfl, ?_⟩
  refine List.forall_mem_cons.mpr ⟨s_getR (k := 6) K8 (by decide) (dd_X8_driftOnce (129, .getfield 41, 3) (List.mem_of_getElem? (i := 51) rfl)) ow_X8_driftOnce fl8_41 rfl, ?_⟩
  refine List.forall_mem_cons.mpr ⟨⟨s_callV (ci := 0) rfl mo29 rfl rfl (dd_X8_driftOnce (132, .invokevirtual 224, 3) (List.mem_of_getElem? (i := 52) rfl)) ow_X8_driftOnce ml8_224 mi29 msl29 in_0 mn29, mo29⟩, ?_⟩
  refine List.forall_mem_cons.mpr ⟨s_pop (dd_X8_driftOnce (135, .pop, 1) (List.mem_of_getElem? (i := 53) rfl)), ?_⟩
  refine List.forall_mem_cons.mpr ⟨Or.inl ⟨rfl, (dd_X8_driftOnce (136, .return_, 1) (List.mem_of_getElem? (i := 54) rfl)), rfl⟩, ?_⟩
  exact fun _ h => absurd h List.not_mem_nil
theorem ow_X8_draw : (mtJ 116).1.cls = "SatchelSins" := rfl
def D_X8_draw : List (Nat × Instr × Nat) := [(0, .aload_n 0, 1), (1, .aload_n 0, 1), (2, .getfield 285, 3), (5, .i2l, 1), (6, .ldc2_w 316, 3), (9, .lmul, 1), (10, .ldc2_w 318, 3), (13, .ladd, 1), (14, .ldc2_w 320, 3), (17, .land, 1), (18, .l2i, 1), (19, .putfield 285, 3), (22, .iload_n 1, 1), (23, .ifCond .le 16, 3), (26, .aload_n 0, 1), (27, .getfield 285, 3), (30, .ldc_w 322, 3), (33, .idiv, 1), (34, .iload_n 1, 1), (35, .irem, 1), (36, .goto 4, 3), (39, .iconst 0, 1), (40, .ireturn, 1)]
theorem dd_X8_draw : ∀ e ∈ D_X8_draw, decode (mtJ 116).2.1 e.1 = .ok e.2 := by decide +kernel
set_option maxRecDepth 10000 in
theorem so_X8_draw : ∀ e ∈ o_X8_draw, SndO 116 e.1 e.2 := by
  refine List.forall_mem_cons.mpr ⟨s_aload_n (dd_X8_draw (0, .aload_n 0, 1) (List.mem_of_getElem? (i := 0) rfl)) rfl, ?_⟩
  refine List.forall_mem_cons.mpr ⟨s_aload_n (dd_X8_draw (1, .aload_n 0, 1) (List.mem_of_getElem? (i := 1) rfl)) rfl, ?_⟩
  refine List.forall_mem_cons.mpr ⟨s_getI (k := 13) K8 (by decide) (dd_X8_draw (2, .getfield 285, 3) (List.mem_of_getElem? (i := 2) rfl)) ow_X8_draw fl8_285 rfl, ?_⟩
  refine List.forall_mem_cons.mpr ⟨s_i2l (dd_X8_draw (5, .i2l, 1) (List.mem_of_getElem? (i := 3) rfl)), ?_⟩
  refine List.forall_mem_cons.mpr ⟨s_ldc2 (dd_X8_draw (6, .ldc2_w 316, 3) (List.mem_of_getElem? (i := 4) rfl)) ow_X8_draw kl8_316, ?_⟩
  refine List.forall_mem_cons.mpr ⟨s_lmul (dd_X8_draw (9, .lmul, 1) (List.mem_of_getElem? (i := 5) rfl)), ?_⟩
  refine List.forall_mem_cons.mpr ⟨s_ldc2 (dd_X8_draw (10, .ldc2_w 318, 3) (List.mem_of_getElem? (i := 6) rfl)) ow_X8_draw kl8_318, ?_⟩
  refine List.forall_mem_cons.mpr ⟨s_ladd (dd_X8_draw (13, .ladd, 1) (List.mem_of_getElem? (i := 7) rfl)), ?_⟩
  refine List.forall_mem_cons.mpr ⟨s_ldc2 (dd_X8_draw (14, .ldc2_w 320, 3) (List.mem_of_getElem? (i := 8) rfl)) ow_X8_draw kl8_320, ?_⟩
  refine List.forall_mem_cons.mpr ⟨s_land (dd_X8_draw (17, .land, 1) (List.mem_of_getElem? (i := 9) rfl)), ?_⟩
  refine List.forall_mem_cons.mpr ⟨s_l2i (dd_X8_draw (18, .l2i, 1) (List.mem_of_getElem? (i := 10) rfl)), ?_⟩
  refine List.forall_mem_cons.mpr ⟨s_putI (k := 13) K8 (by decide) (dd_X8_draw (19, .putfield 285, 3) (List.mem_of_getElem? (i := 11) rfl)) ow_X8_draw fl8_285 (Or.inl rfl) rfl, ?_⟩
  refine List.forall_mem_cons.mpr ⟨s_iload_n (dd_X8_draw (22, .iload_n 1, 1) (List.mem_of_getElem? (i := 12) rfl)) rfl, ?_⟩
  refine List.forall_mem_cons.mpr ⟨s_if_le (dd_X8_draw (23, .ifCond .le 16, 3) (List.mem_of_getElem? (i := 13) rfl)) (by decide), ?_⟩
  refine List.forall_mem_cons.mpr ⟨s_aload_n (dd_X8_draw (26, .aload_n 0, 1) (List.mem_of_getElem? (i := 14) rfl)) rfl, ?_⟩
  refine List.forall_mem_cons.mpr ⟨s_getI (k := 13) K8 (by decide) (dd_X8_draw (27, .getfield 285, 3) (List.mem_of_getElem? (i := 15) rfl)) ow_X8_draw fl8_285 rfl, ?_⟩
  refine List.forall_mem_cons.mpr ⟨s_ldcw (dd_X8_draw (30, .ldc_w 322, 3) (List.mem_of_getElem? (i := 16) rfl)) ow_X8_draw ki8_322, ?_⟩
  refine List.forall_mem_cons.mpr ⟨s_idiv (dd_X8_draw (33, .idiv, 1) (List.mem_of_getElem? (i := 17) rfl)), ?_⟩
  refine List.forall_mem_cons.mpr ⟨s_iload_n (dd_X8_draw (34, .iload_n 1, 1) (List.mem_of_getElem? (i := 18) rfl)) rfl, ?_⟩
  refine List.forall_mem_cons.mpr ⟨s_irem (dd_X8_draw (35, .irem, 1) (List.mem_of_getElem? (i := 19) rfl)), ?_⟩
  refine List.forall_mem_cons.mpr ⟨s_goto (dd_X8_draw (36, .goto 4, 3) (List.mem_of_getElem? (i := 20) rfl)) (by decide), ?_⟩
  refine List.forall_mem_cons.mpr ⟨s_iconst (dd_X8_draw (39, .iconst 0, 1) (List.mem_of_getElem? (i := 21) rfl)) rfl, ?_⟩
  refine List.forall_mem_cons.mpr ⟨Or.inr (Or.inl ⟨rfl, (dd_X8_draw (40, .ireturn, 1) (List.mem_of_getElem? (i := 22) rfl)), rfl⟩), ?_⟩
  exact fun _ h => absurd h List.not_mem_nil
theorem ow_X9_init : (mtJ 117).1.cls = "SatchelSinsModel" := rfl
def D_X9_init_1 : List (Nat × Instr × Nat) := [(0, .aload_n 0, 1), (1, .invokespecial 1, 3), (4, .aload_n 0, 1), (5, .iconst 5, 1), (6, .newarray .int, 2), (8, .putfield 7, 3), (11, .aload_n 0, 1), (12, .iconst 5, 1), (13, .newarray .int, 2), (15, .putfield 13, 3), (18, .aload_n 0, 1), (19, .iconst 5, 1), (20, .newarray .int, 2), (22, .putfield 16, 3), (25, .aload_n 0, 1), (26, .bipush 7, 2), (28, .newarray .int, 2), (30, .putfield 19, 3), (33, .aload_n 0, 1), (34, .bipush 7, 2), (36, .newarray .int, 2), (38, .putfield 22, 3), (41, .aload_n 0, 1), (42, .bipush 22, 2), (44, .newarray .int, 2), (46, .putfield 25, 3), (49, .aload_n 0, 1), (50, .sipush 240, 3), (53, .newarray .int, 2), (55, .putfield 28, 3), (58, .aload_n 0, 1), (59, .iconst (-1), 1), (60, .putfield 31, 3), (63, .aload_n 0, 1), (64, .iconst 5, 1), (65, .newarray .int, 2), (67, .putfield 35, 3), (70, .aload_n 0, 1), (71, .iconst 5, 1), (72, .newarray .int, 2), (74, .putfield 38, 3), (77, .aload_n 0, 1), (78, .iconst 5, 1), (79, .newarray .int, 2), (81, .putfield 41, 3), (84, .aload_n 0, 1), (85, .bipush 7, 2), (87, .newarray .int, 2), (89, .putfield 44, 3), (92, .aload_n 0, 1), (93, .bipush 7, 2), (95, .newarray .int, 2), (97, .putfield 47, 3), (100, .aload_n 0, 1), (101, .sipush 440, 3), (104, .newarray .int, 2), (106, .putfield 50, 3), (109, .aload_n 0, 1), (110, .bipush 7, 2), (112, .newarray .int, 2)]
theorem dd_X9_init_1 : ∀ e ∈ D_X9_init_1, decode (mtJ 117).2.1 e.1 = .ok e.2 := by decide +kernel
set_option maxRecDepth 10000 in
theorem so_X9_init_1 : ∀ e ∈ o_X9_init_1, SndO 117 e.1 e.2 := by
  refine List.forall_mem_cons.mpr ⟨s_aload_n (dd_X9_init_1 (0, .aload_n 0, 1) (List.mem_of_getElem? (i := 0) rfl)) rfl, ?_⟩
  refine List.forall_mem_cons.mpr ⟨s_obj (dd_X9_init_1 (1, .invokespecial 1, 3) (List.mem_of_getElem? (i := 1) rfl)) ow_X9_init ml9_1 oi1 oi2, ?_⟩
  refine List.forall_mem_cons.mpr ⟨s_aload_n (dd_X9_init_1 (4, .aload_n 0, 1) (List.mem_of_getElem? (i := 2) rfl)) rfl, ?_⟩
  refine List.forall_mem_cons.mpr ⟨s_iconst (dd_X9_init_1 (5, .iconst 5, 1) (List.mem_of_getElem? (i := 3) rfl)) rfl, ?_⟩
  refine List.forall_mem_cons.mpr ⟨s_newI (dd_X9_init_1 (6, .newarray .int, 2) (List.mem_of_getElem? (i := 4) rfl)) ac1, ?_⟩
  refine List.forall_mem_cons.mpr ⟨s_putR (k := 3) K9 (by decide) (dd_X9_init_1 (8, .putfield 7, 3) (List.mem_of_getElem? (i := 5) rfl)) ow_X9_init fl9_7 (Or.inr ⟨rfl, rfl, rfl⟩) rfl (fun _ => rfl) (fun _ => rfl), ?_⟩
  refine List.forall_mem_cons.mpr ⟨s_aload_n (dd_X9_init_1 (11, .aload_n 0, 1) (List.mem_of_getElem? (i := 6) rfl)) rfl, ?_⟩
  refine List.forall_mem_cons.mpr ⟨s_iconst (dd_X9_init_1 (12, .iconst 5, 1) (List.mem_of_getElem? (i := 7) rfl)) rfl, ?_⟩
  refine List.forall_mem_cons.mpr ⟨s_newI (dd_X9_init_1 (13, .newarray .int, 2) (List.mem_of_getElem? (i := 8) rfl)) ac1, ?_⟩
  refine List.forall_mem_cons.mpr ⟨s_putR (k := 4) K9 (by decide) (dd_X9_init_1 (15, .putfield 13, 3) (List.mem_of_getElem? (i := 9) rfl)) ow_X9_init fl9_13 (Or.inr ⟨rfl, rfl, rfl⟩) rfl (fun _ => rfl) (fun _ => rfl), ?_⟩
  refine List.forall_mem_cons.mpr ⟨s_aload_n (dd_X9_init_1 (18, .aload_n 0, 1) (List.mem_of_getElem? (i := 10) rfl)) rfl, ?_⟩
  refine List.forall_mem_cons.mpr ⟨s_iconst (dd_X9_init_1 (19, .iconst 5, 1) (List.mem_of_getElem? (i := 11) rfl)) rfl, ?_⟩
  refine List.forall_mem_cons.mpr ⟨s_newI (dd_X9_init_1 (20, .newarray .int, 2) (List.mem_of_getElem? (i := 12) rfl)) ac1, ?_⟩
  refine List.forall_mem_cons.mpr ⟨s_putR (k := 5) K9 (by decide) (dd_X9_init_1 (22, .putfield 16, 3) (List.mem_of_getElem? (i := 13) rfl)) ow_X9_init fl9_16 (Or.inr ⟨rfl, rfl, rfl⟩) rfl (fun _ => rfl) (fun _ => rfl), ?_⟩
  refine List.forall_mem_cons.mpr ⟨s_aload_n (dd_X9_init_1 (25, .aload_n 0, 1) (List.mem_of_getElem? (i := 14) rfl)) rfl, ?_⟩
  refine List.forall_mem_cons.mpr ⟨s_bipush (dd_X9_init_1 (26, .bipush 7, 2) (List.mem_of_getElem? (i := 15) rfl)) rfl, ?_⟩
  refine List.forall_mem_cons.mpr ⟨s_newI (dd_X9_init_1 (28, .newarray .int, 2) (List.mem_of_getElem? (i := 16) rfl)) ac1, ?_⟩
  refine List.forall_mem_cons.mpr ⟨s_putR (k := 7) K9 (by decide) (dd_X9_init_1 (30, .putfield 19, 3) (List.mem_of_getElem? (i := 17) rfl)) ow_X9_init fl9_19 (Or.inr ⟨rfl, rfl, rfl⟩) rfl (fun _ => rfl) (fun _ => rfl), ?_⟩
  refine List.forall_mem_cons.mpr ⟨s_aload_n (dd_X9_init_1 (33, .aload_n 0, 1) (List.mem_of_getElem? (i := 18) rfl)) rfl, ?_⟩
  refine List.forall_mem_cons.mpr ⟨s_bipush (dd_X9_init_1 (34, .bipush 7, 2) (List.mem_of_getElem? (i := 19) rfl)) rfl, ?_⟩
  refine List.forall_mem_cons.mpr ⟨s_newI (dd_X9_init_1 (36, .newarray .int, 2) (List.mem_of_getElem? (i := 20) rfl)) ac1, ?_⟩
  refine List.forall_mem_cons.mpr ⟨s_putR (k := 8) K9 (by decide) (dd_X9_init_1 (38, .putfield 22, 3) (List.mem_of_getElem? (i := 21) rfl)) ow_X9_init fl9_22 (Or.inr ⟨rfl, rfl, rfl⟩) rfl (fun _ => rfl) (fun _ => rfl), ?_⟩
  refine List.forall_mem_cons.mpr ⟨s_aload_n (dd_X9_init_1 (41, .aload_n 0, 1) (List.mem_of_getElem? (i := 22) rfl)) rfl, ?_⟩
  refine List.forall_mem_cons.mpr ⟨s_bipush (dd_X9_init_1 (42, .bipush 22, 2) (List.mem_of_getElem? (i := 23) rfl)) rfl, ?_⟩
  refine List.forall_mem_cons.mpr ⟨s_newI (dd_X9_init_1 (44, .newarray .int, 2) (List.mem_of_getElem? (i := 24) rfl)) ac1, ?_⟩
  refine List.forall_mem_cons.mpr ⟨s_putR (k := 9) K9 (by decide) (dd_X9_init_1 (46, .putfield 25, 3) (List.mem_of_getElem? (i := 25) rfl)) ow_X9_init fl9_25 (Or.inr ⟨rfl, rfl, rfl⟩) rfl (fun _ => rfl) (fun _ => rfl), ?_⟩
  refine List.forall_mem_cons.mpr ⟨s_aload_n (dd_X9_init_1 (49, .aload_n 0, 1) (List.mem_of_getElem? (i := 26) rfl)) rfl, ?_⟩
  refine List.forall_mem_cons.mpr ⟨s_sipush (dd_X9_init_1 (50, .sipush 240, 3) (List.mem_of_getElem? (i := 27) rfl)) rfl, ?_⟩
  refine List.forall_mem_cons.mpr ⟨s_newI (dd_X9_init_1 (53, .newarray .int, 2) (List.mem_of_getElem? (i := 28) rfl)) ac1, ?_⟩
  refine List.forall_mem_cons.mpr ⟨s_putR (k := 11) K9 (by decide) (dd_X9_init_1 (55, .putfield 28, 3) (List.mem_of_getElem? (i := 29) rfl)) ow_X9_init fl9_28 (Or.inr ⟨rfl, rfl, rfl⟩) rfl (fun _ => rfl) (fun _ => rfl), ?_⟩
  refine List.forall_mem_cons.mpr ⟨s_aload_n (dd_X9_init_1 (58, .aload_n 0, 1) (List.mem_of_getElem? (i := 30) rfl)) rfl, ?_⟩
  refine List.forall_mem_cons.mpr ⟨s_iconst (dd_X9_init_1 (59, .iconst (-1), 1) (List.mem_of_getElem? (i := 31) rfl)) rfl, ?_⟩
  refine List.forall_mem_cons.mpr ⟨s_putI (k := 13) K9 (by decide) (dd_X9_init_1 (60, .putfield 31, 3) (List.mem_of_getElem? (i := 32) rfl)) ow_X9_init fl9_31 (Or.inl rfl) rfl, ?_⟩
  refine List.forall_mem_cons.mpr ⟨s_aload_n (dd_X9_init_1 (63, .aload_n 0, 1) (List.mem_of_getElem? (i := 33) rfl)) rfl, ?_⟩
  refine List.forall_mem_cons.mpr ⟨s_iconst (dd_X9_init_1 (64, .iconst 5, 1) (List.mem_of_getElem? (i := 34) rfl)) rfl, ?_⟩
  refine List.forall_mem_cons.mpr ⟨s_newI (dd_X9_init_1 (65, .newarray .int, 2) (List.mem_of_getElem? (i := 35) rfl)) ac1, ?_⟩
  refine List.forall_mem_cons.mpr ⟨s_putR (k := 20) K9 (by decide) (dd_X9_init_1 (67, .putfield 35, 3) (List.mem_of_getElem? (i := 36) rfl)) ow_X9_init fl9_35 (Or.inr ⟨rfl, rfl, rfl⟩) rfl (fun _ => rfl) (fun _ => rfl), ?_⟩
  refine List.forall_mem_cons.mpr ⟨s_aload_n (dd_X9_init_1 (70, .aload_n 0, 1) (List.mem_of_getElem? (i := 37) rfl)) rfl, ?_⟩
  refine List.forall_mem_cons.mpr ⟨s_iconst (dd_X9_init_1 (71, .iconst 5, 1) (List.mem_of_getElem? (i := 38) rfl)) rfl, ?_⟩
  refine List.forall_mem_cons.mpr ⟨s_newI (dd_X9_init_1 (72, .newarray .int, 2) (List.mem_of_getElem? (i := 39) rfl)) ac1, ?_⟩
  refine List.forall_mem_cons.mpr ⟨s_putR (k := 21) K9 (by decide) (dd_X9_init_1 (74, .putfield 38, 3) (List.mem_of_getElem? (i := 40) rfl)) ow_X9_init fl9_38 (Or.inr ⟨rfl, rfl, rfl⟩) rfl (fun _ => rfl) (fun _ => rfl), ?_⟩
  refine List.forall_mem_cons.mpr ⟨s_aload_n (dd_X9_init_1 (77, .aload_n 0, 1) (List.mem_of_getElem? (i := 41) rfl)) rfl, ?_⟩
  refine List.forall_mem_cons.mpr ⟨s_iconst (dd_X9_init_1 (78, .iconst 5, 1) (List.mem_of_getElem? (i := 42) rfl)) rfl, ?_⟩
  refine List.forall_mem_cons.mpr ⟨s_newI (dd_X9_init_1 (79, .newarray .int, 2) (List.mem_of_getElem? (i := 43) rfl)) ac1, ?_⟩
  refine List.forall_mem_cons.mpr ⟨s_putR (k := 22) K9 (by decide) (dd_X9_init_1 (81, .putfield 41, 3) (List.mem_of_getElem? (i := 44) rfl)) ow_X9_init fl9_41 (Or.inr ⟨rfl, rfl, rfl⟩) rfl (fun _ => rfl) (fun _ => rfl), ?_⟩
  refine List.forall_mem_cons.mpr ⟨s_aload_n (dd_X9_init_1 (84, .aload_n 0, 1) (List.mem_of_getElem? (i := 45) rfl)) rfl, ?_⟩
  refine List.forall_mem_cons.mpr ⟨s_bipush (dd_X9_init_1 (85, .bipush 7, 2) (List.mem_of_getElem? (i := 46) rfl)) rfl, ?_⟩
  refine List.forall_mem_cons.mpr ⟨s_newI (dd_X9_init_1 (87, .newarray .int, 2) (List.mem_of_getElem? (i := 47) rfl)) ac1, ?_⟩
  refine List.forall_mem_cons.mpr ⟨s_putR (k := 24) K9 (by decide) (dd_X9_init_1 (89, .putfield 44, 3) (List.mem_of_getElem? (i := 48) rfl)) ow_X9_init fl9_44 (Or.inr ⟨rfl, rfl, rfl⟩) rfl (fun _ => rfl) (fun _ => rfl), ?_⟩
  refine List.forall_mem_cons.mpr ⟨s_aload_n (dd_X9_init_1 (92, .aload_n 0, 1) (List.mem_of_getElem? (i := 49) rfl)) rfl, ?_⟩
  refine List.forall_mem_cons.mpr ⟨s_bipush (dd_X9_init_1 (93, .bipush 7, 2) (List.mem_of_getElem? (i := 50) rfl)) rfl, ?_⟩
  refine List.forall_mem_cons.mpr ⟨s_newI (dd_X9_init_1 (95, .newarray .int, 2) (List.mem_of_getElem? (i := 51) rfl)) ac1, ?_⟩
  refine List.forall_mem_cons.mpr ⟨s_putR (k := 25) K9 (by decide) (dd_X9_init_1 (97, .putfield 47, 3) (List.mem_of_getElem? (i := 52) rfl)) ow_X9_init fl9_47 (Or.inr ⟨rfl, rfl, rfl⟩) rfl (fun _ => rfl) (fun _ => rfl), ?_⟩
  refine List.forall_mem_cons.mpr ⟨s_aload_n (dd_X9_init_1 (100, .aload_n 0, 1) (List.mem_of_getElem? (i := 53) rfl)) rfl, ?_⟩
  refine List.forall_mem_cons.mpr ⟨s_sipush (dd_X9_init_1 (101, .sipush 440, 3) (List.mem_of_getElem? (i := 54) rfl)) rfl, ?_⟩
  refine List.forall_mem_cons.mpr ⟨s_newI (dd_X9_init_1 (104, .newarray .int, 2) (List.mem_of_getElem? (i := 55) rfl)) ac1, ?_⟩
  refine List.forall_mem_cons.mpr ⟨s_putR (k := 27) K9 (by decide) (dd_X9_init_1 (106, .putfield 50, 3) (List.mem_of_getElem? (i := 56) rfl)) ow_X9_init fl9_50 (Or.inr ⟨rfl, rfl, rfl⟩) rfl (fun _ => rfl) (fun _ => rfl), ?_⟩
  refine List.forall_mem_cons.mpr ⟨s_aload_n (dd_X9_init_1 (109, .aload_n 0, 1) (List.mem_of_getElem? (i := 57) rfl)) rfl, ?_⟩
  refine List.forall_mem_cons.mpr ⟨s_bipush (dd_X9_init_1 (110, .bipush 7, 2) (List.mem_of_getElem? (i := 58) rfl)) rfl, ?_⟩
  refine List.forall_mem_cons.mpr ⟨s_newI (dd_X9_init_1 (112, .newarray .int, 2) (List.mem_of_getElem? (i := 59) rfl)) ac1, ?_⟩
  exact fun _ h => absurd h List.not_mem_nil
def D_X9_init_2 : List (Nat × Instr × Nat) := [(114, .putfield 53, 3), (117, .aload_n 0, 1), (118, .bipush 7, 2), (120, .newarray .int, 2), (122, .putfield 56, 3), (125, .aload_n 0, 1), (126, .iconst 5, 1), (127, .newarray .int, 2), (129, .putfield 59, 3), (132, .aload_n 0, 1), (133, .bipush 7, 2), (135, .newarray .int, 2), (137, .putfield 62, 3), (140, .aload_n 0, 1), (141, .bipush 6, 2), (143, .newarray .int, 2), (145, .putfield 65, 3), (148, .aload_n 0, 1), (149, .bipush 6, 2), (151, .newarray .int, 2), (153, .putfield 68, 3), (156, .aload_n 0, 1), (157, .bipush 6, 2), (159, .newarray .boolean, 2), (161, .putfield 71, 3), (164, .aload_n 0, 1), (165, .bipush 15, 2), (167, .newarray .int, 2), (169, .putfield 75, 3), (172, .aload_n 0, 1), (173, .bipush 15, 2), (175, .newarray .int, 2), (177, .putfield 78, 3), (180, .aload_n 0, 1), (181, .bipush 46, 2), (183, .newarray .int, 2), (185, .putfield 81, 3), (188, .aload_n 0, 1), (189, .iconst 2, 1), (190, .newarray .boolean, 2), (192, .putfield 84, 3), (195, .aload_n 0, 1), (196, .iconst 0, 1), (197, .putfield 87, 3), (200, .return_, 1)]
theorem dd_X9_init_2 : ∀ e ∈ D_X9_init_2, decode (mtJ 117).2.1 e.1 = .ok e.2 := by decide +kernel
set_option maxRecDepth 10000 in
theorem so_X9_init_2 : ∀ e ∈ o_X9_init_2, SndO 117 e.1 e.2 := by
  refine List.forall_mem_cons.mpr ⟨s_putR (k := 28) K9 (by decide) (dd_X9_init_2 (114, .putfield 53, 3) (List.mem_of_getElem? (i := 0) rfl)) ow_X9_init fl9_53 (Or.inr ⟨rfl, rfl, rfl⟩) rfl (fun _ => rfl) (fun _ => rfl), ?_⟩
  refine List.forall_mem_cons.mpr ⟨s_aload_n (dd_X9_init_2 (117, .aload_n 0, 1) (List.mem_of_getElem? (i := 1) rfl)) rfl, ?_⟩
  refine List.forall_mem_cons.mpr ⟨s_bipush (dd_X9_init_2 (118, .bipush 7, 2) (List.mem_of_getElem? (i := 2) rfl)) rfl, ?_⟩
  refine List.forall_mem_cons.mpr ⟨s_newI (dd_X9_init_2 (120, .newarray .int, 2) (List.mem_of_getElem? (i := 3) rfl)) ac1, ?_⟩
  refine List.forall_mem_cons.mpr ⟨s_putR (k := 29) K9 (by decide) (dd_X9_init_2 (122, .putfield 56, 3) (List.mem_of_getElem? (i := 4) rfl)) ow_X9_init fl9_56 (Or.inr ⟨rfl, rfl, rfl⟩) rfl (fun _ => rfl) (fun _ => rfl), ?_⟩
  refine List.forall_mem_cons.mpr ⟨s_aload_n (dd_X9_init_2 (125, .aload_n 0, 1) (List.mem_of_getElem? (i := 5) rfl)) rfl, ?_⟩
  refine List.forall_mem_cons.mpr ⟨s_iconst (dd_X9_init_2 (126, .iconst 5, 1) (List.mem_of_getElem? (i := 6) rfl)) rfl, ?_⟩
  refine List.forall_mem_cons.mpr ⟨s_newI (dd_X9_init_2 (127, .newarray .int, 2) (List.mem_of_getElem? (i := 7) rfl)) ac1, ?_⟩
  refine List.forall_mem_cons.mpr ⟨s_putR (k := 30) K9 (by decide) (dd_X9_init_2 (129, .putfield 59, 3) (List.mem_of_getElem? (i := 8) rfl)) ow_X9_init fl9_59 (Or.inr ⟨rfl, rfl, rfl⟩) rfl (fun _ => rfl) (fun _ => rfl), ?_⟩
  refine List.forall_mem_cons.mpr ⟨s_aload_n (dd_X9_init_2 (132, .aload_n 0, 1) (List.mem_of_getElem? (i := 9) rfl)) rfl, ?_⟩
  refine List.forall_mem_cons.mpr ⟨s_bipush (dd_X9_init_2 (133, .bipush 7, 2) (List.mem_of_getElem? (i := 10) rfl)) rfl, ?_⟩
  refine List.forall_mem_cons.mpr ⟨s_newI (dd_X9_init_2 (135, .newarray .int, 2) (List.mem_of_getElem? (i := 11) rfl)) ac1, ?_⟩
  refine List.forall_mem_cons.mpr ⟨s_putR (k := 31) K9 (by decide) (dd_X9_init_2 (137, .putfield 62, 3) (List.mem_of_getElem? (i := 12) rfl)) ow_X9_init fl9_62 (Or.inr ⟨rfl, rfl, rfl⟩) rfl (fun _ => rfl) (fun _ => rfl), ?_⟩
  refine List.forall_mem_cons.mpr ⟨s_aload_n (dd_X9_init_2 (140, .aload_n 0, 1) (List.mem_of_getElem? (i := 13) rfl)) rfl, ?_⟩
  refine List.forall_mem_cons.mpr ⟨s_bipush (dd_X9_init_2 (141, .bipush 6, 2) (List.mem_of_getElem? (i := 14) rfl)) rfl, ?_⟩
  refine List.forall_mem_cons.mpr ⟨s_newI (dd_X9_init_2 (143, .newarray .int, 2) (List.mem_of_getElem? (i := 15) rfl)) ac1, ?_⟩
  refine List.forall_mem_cons.mpr ⟨s_putR (k := 33) K9 (by decide) (dd_X9_init_2 (145, .putfield 65, 3) (List.mem_of_getElem? (i := 16) rfl)) ow_X9_init fl9_65 (Or.inr ⟨rfl, rfl, rfl⟩) rfl (fun _ => rfl) (fun _ => rfl), ?_⟩
  refine List.forall_mem_cons.mpr ⟨s_aload_n (dd_X9_init_2 (148, .aload_n 0, 1) (List.mem_of_getElem? (i := 17) rfl)) rfl, ?_⟩
  refine List.forall_mem_cons.mpr ⟨s_bipush (dd_X9_init_2 (149, .bipush 6, 2) (List.mem_of_getElem? (i := 18) rfl)) rfl, ?_⟩
  refine List.forall_mem_cons.mpr ⟨s_newI (dd_X9_init_2 (151, .newarray .int, 2) (List.mem_of_getElem? (i := 19) rfl)) ac1, ?_⟩
  refine List.forall_mem_cons.mpr ⟨s_putR (k := 34) K9 (by decide) (dd_X9_init_2 (153, .putfield 68, 3) (List.mem_of_getElem? (i := 20) rfl)) ow_X9_init fl9_68 (Or.inr ⟨rfl, rfl, rfl⟩) rfl (fun _ => rfl) (fun _ => rfl), ?_⟩
  refine List.forall_mem_cons.mpr ⟨s_aload_n (dd_X9_init_2 (156, .aload_n 0, 1) (List.mem_of_getElem? (i := 21) rfl)) rfl, ?_⟩
  refine List.forall_mem_cons.mpr ⟨s_bipush (dd_X9_init_2 (157, .bipush 6, 2) (List.mem_of_getElem? (i := 22) rfl)) rfl, ?_⟩
  refine List.forall_mem_cons.mpr ⟨s_newZ (dd_X9_init_2 (159, .newarray .boolean, 2) (List.mem_of_getElem? (i := 23) rfl)) ac2, ?_⟩
  refine List.forall_mem_cons.mpr ⟨s_putR (k := 35) K9 (by decide) (dd_X9_init_2 (161, .putfield 71, 3) (List.mem_of_getElem? (i := 24) rfl)) ow_X9_init fl9_71 (Or.inr ⟨rfl, rfl, rfl⟩) rfl (fun _ => rfl) (fun _ => rfl), ?_⟩
  refine List.forall_mem_cons.mpr ⟨s_aload_n (dd_X9_init_2 (164, .aload_n 0, 1) (List.mem_of_getElem? (i := 25) rfl)) rfl, ?_⟩
  refine List.forall_mem_cons.mpr ⟨s_bipush (dd_X9_init_2 (165, .bipush 15, 2) (List.mem_of_getElem? (i := 26) rfl)) rfl, ?_⟩
  refine List.forall_mem_cons.mpr ⟨s_newI (dd_X9_init_2 (167, .newarray .int, 2) (List.mem_of_getElem? (i := 27) rfl)) ac1, ?_⟩
  refine List.forall_mem_cons.mpr ⟨s_putR (k := 37) K9 (by decide) (dd_X9_init_2 (169, .putfield 75, 3) (List.mem_of_getElem? (i := 28) rfl)) ow_X9_init fl9_75 (Or.inr ⟨rfl, rfl, rfl⟩) rfl (fun _ => rfl) (fun _ => rfl), ?_⟩
  refine List.forall_mem_cons.mpr ⟨s_aload_n (dd_X9_init_2 (172, .aload_n 0, 1) (List.mem_of_getElem? (i := 29) rfl)) rfl, ?_⟩
  refine List.forall_mem_cons.mpr ⟨s_bipush (dd_X9_init_2 (173, .bipush 15, 2) (List.mem_of_getElem? (i := 30) rfl)) rfl, ?_⟩
  refine List.forall_mem_cons.mpr ⟨s_newI (dd_X9_init_2 (175, .newarray .int, 2) (List.mem_of_getElem? (i := 31) rfl)) ac1, ?_⟩
  refine List.forall_mem_cons.mpr ⟨s_putR (k := 38) K9 (by decide) (dd_X9_init_2 (177, .putfield 78, 3) (List.mem_of_getElem? (i := 32) rfl)) ow_X9_init fl9_78 (Or.inr ⟨rfl, rfl, rfl⟩) rfl (fun _ => rfl) (fun _ => rfl), ?_⟩
  refine List.forall_mem_cons.mpr ⟨s_aload_n (dd_X9_init_2 (180, .aload_n 0, 1) (List.mem_of_getElem? (i := 33) rfl)) rfl, ?_⟩
  refine List.forall_mem_cons.mpr ⟨s_bipush (dd_X9_init_2 (181, .bipush 46, 2) (List.mem_of_getElem? (i := 34) rfl)) rfl, ?_⟩
  refine List.forall_mem_cons.mpr ⟨s_newI (dd_X9_init_2 (183, .newarray .int, 2) (List.mem_of_getElem? (i := 35) rfl)) ac1, ?_⟩
  refine List.forall_mem_cons.mpr ⟨s_putR (k := 39) K9 (by decide) (dd_X9_init_2 (185, .putfield 81, 3) (List.mem_of_getElem? (i := 36) rfl)) ow_X9_init fl9_81 (Or.inr ⟨rfl, rfl, rfl⟩) rfl (fun _ => rfl) (fun _ => rfl), ?_⟩
  refine List.forall_mem_cons.mpr ⟨s_aload_n (dd_X9_init_2 (188, .aload_n 0, 1) (List.mem_of_getElem? (i := 37) rfl)) rfl, ?_⟩
  refine List.forall_mem_cons.mpr ⟨s_iconst (dd_X9_init_2 (189, .iconst 2, 1) (List.mem_of_getElem? (i := 38) rfl)) rfl, ?_⟩
  refine List.forall_mem_cons.mpr ⟨s_newZ (dd_X9_init_2 (190, .newarray .boolean, 2) (List.mem_of_getElem? (i := 39) rfl)) ac2, ?_⟩
  refine List.forall_mem_cons.mpr ⟨s_putR (k := 40) K9 (by decide) (dd_X9_init_2 (192, .putfield 84, 3) (List.mem_of_getElem? (i := 40) rfl)) ow_X9_init fl9_84 (Or.inr ⟨rfl, rfl, rfl⟩) rfl (fun _ => rfl) (fun _ => rfl), ?_⟩
  refine List.forall_mem_cons.mpr ⟨s_aload_n (dd_X9_init_2 (195, .aload_n 0, 1) (List.mem_of_getElem? (i := 41) rfl)) rfl, ?_⟩
  refine List.forall_mem_cons.mpr ⟨s_iconst (dd_X9_init_2 (196, .iconst 0, 1) (List.mem_of_getElem? (i := 42) rfl)) rfl, ?_⟩
  refine List.forall_mem_cons.mpr ⟨s_putZ (k := 0) K9 (by decide) (dd_X9_init_2 (197, .putfield 87, 3) (List.mem_of_getElem? (i := 43) rfl)) ow_X9_init fl9_87 (Or.inl rfl) rfl, ?_⟩
  refine List.forall_mem_cons.mpr ⟨Or.inl ⟨rfl, (dd_X9_init_2 (200, .return_, 1) (List.mem_of_getElem? (i := 44) rfl)), rfl⟩, ?_⟩
  exact fun _ h => absurd h List.not_mem_nil
theorem so_X9_init : ∀ e ∈ o_X9_init, SndO 117 e.1 e.2 := List.forall_mem_append.mpr ⟨so_X9_init_1, so_X9_init_2⟩
theorem ow_X9_in : (mtJ 118).1.cls = "SatchelSinsModel" := rfl
def D_X9_in : List (Nat × Instr × Nat) := [(0, .lload_n 0, 1), (1, .lload_n 2, 1), (2, .lcmp, 1), (3, .ifCond .lt 14, 3), (6, .lload_n 0, 1), (7, .lload 4, 2), (9, .lcmp, 1), (10, .ifCond .gt 7, 3), (13, .iconst 1, 1), (14, .goto 4, 3), (17, .iconst 0, 1), (18, .ireturn, 1)]
theorem dd_X9_in : ∀ e ∈ D_X9_in, decode (mtJ 118).2.1 e.1 = .ok e.2 := by decide +kernel
set_option maxRecDepth 10000 in
theorem so_X9_in : ∀ e ∈ o_X9_in, SndO 118 e.1 e.2 := by
  refine List.forall_mem_cons.mpr ⟨s_lload_n (dd_X9_in (0, .lload_n 0, 1) (List.mem_of_getElem? (i := 0) rfl)) rfl, ?_⟩
  refine List.forall_mem_cons.mpr ⟨s_lload_n (dd_X9_in (1, .lload_n 2, 1) (List.mem_of_getElem? (i := 1) rfl)) rfl, ?_⟩
  refine List.forall_mem_cons.mpr ⟨s_lcmp (dd_X9_in (2, .lcmp, 1) (List.mem_of_getElem? (i := 2) rfl)), ?_⟩
  refine List.forall_mem_cons.mpr ⟨s_if_lt (dd_X9_in (3, .ifCond .lt 14, 3) (List.mem_of_getElem? (i := 3) rfl)) (by decide), ?_⟩
  refine List.forall_mem_cons.mpr ⟨s_lload_n (dd_X9_in (6, .lload_n 0, 1) (List.mem_of_getElem? (i := 4) rfl)) rfl, ?_⟩
  refine List.forall_mem_cons.mpr ⟨s_lload (dd_X9_in (7, .lload 4, 2) (List.mem_of_getElem? (i := 5) rfl)), ?_⟩
  refine List.forall_mem_cons.mpr ⟨s_lcmp (dd_X9_in (9, .lcmp, 1) (List.mem_of_getElem? (i := 6) rfl)), ?_⟩
  refine List.forall_mem_cons.mpr ⟨s_if_gt (dd_X9_in (10, .ifCond .gt 7, 3) (List.mem_of_getElem? (i := 7) rfl)) (by decide), ?_⟩
  refine List.forall_mem_cons.mpr ⟨s_iconst (dd_X9_in (13, .iconst 1, 1) (List.mem_of_getElem? (i := 8) rfl)) rfl, ?_⟩
  refine List.forall_mem_cons.mpr ⟨s_goto (dd_X9_in (14, .goto 4, 3) (List.mem_of_getElem? (i := 9) rfl)) (by decide), ?_⟩
  refine List.forall_mem_cons.mpr ⟨s_iconst (dd_X9_in (17, .iconst 0, 1) (List.mem_of_getElem? (i := 10) rfl)) rfl, ?_⟩
  refine List.forall_mem_cons.mpr ⟨Or.inr (Or.inr ⟨rfl, (dd_X9_in (18, .ireturn, 1) (List.mem_of_getElem? (i := 11) rfl)), rfl⟩), ?_⟩
  exact fun _ h => absurd h List.not_mem_nil
theorem ow_X9_has : (mtJ 119).1.cls = "SatchelSinsModel" := rfl
def D_X9_has : List (Nat × Instr × Nat) := [(0, .iload_n 0, 1), (1, .iload_n 1, 1), (2, .ishr, 1), (3, .iconst 1, 1), (4, .iand, 1), (5, .iconst 1, 1), (6, .if_icmp .ne 7, 3), (9, .iconst 1, 1), (10, .goto 4, 3), (13, .iconst 0, 1), (14, .ireturn, 1)]
theorem dd_X9_has : ∀ e ∈ D_X9_has, decode (mtJ 119).2.1 e.1 = .ok e.2 := by decide +kernel
set_option maxRecDepth 10000 in
theorem so_X9_has : ∀ e ∈ o_X9_has, SndO 119 e.1 e.2 := by
  refine List.forall_mem_cons.mpr ⟨s_iload_n (dd_X9_has (0, .iload_n 0, 1) (List.mem_of_getElem? (i := 0) rfl)) rfl, ?_⟩
  refine List.forall_mem_cons.mpr ⟨s_iload_n (dd_X9_has (1, .iload_n 1, 1) (List.mem_of_getElem? (i := 1) rfl)) rfl, ?_⟩
  refine List.forall_mem_cons.mpr ⟨s_ishr (dd_X9_has (2, .ishr, 1) (List.mem_of_getElem? (i := 2) rfl)), ?_⟩
  refine List.forall_mem_cons.mpr ⟨s_iconst (dd_X9_has (3, .iconst 1, 1) (List.mem_of_getElem? (i := 3) rfl)) rfl, ?_⟩
  refine List.forall_mem_cons.mpr ⟨s_iand (dd_X9_has (4, .iand, 1) (List.mem_of_getElem? (i := 4) rfl)), ?_⟩
  refine List.forall_mem_cons.mpr ⟨s_iconst (dd_X9_has (5, .iconst 1, 1) (List.mem_of_getElem? (i := 5) rfl)) rfl, ?_⟩
  refine List.forall_mem_cons.mpr ⟨s_icmp_ne (dd_X9_has (6, .if_icmp .ne 7, 3) (List.mem_of_getElem? (i := 6) rfl)) (by decide), ?_⟩
  refine List.forall_mem_cons.mpr ⟨s_iconst (dd_X9_has (9, .iconst 1, 1) (List.mem_of_getElem? (i := 7) rfl)) rfl, ?_⟩
  refine List.forall_mem_cons.mpr ⟨s_goto (dd_X9_has (10, .goto 4, 3) (List.mem_of_getElem? (i := 8) rfl)) (by decide), ?_⟩
  refine List.forall_mem_cons.mpr ⟨s_iconst (dd_X9_has (13, .iconst 0, 1) (List.mem_of_getElem? (i := 9) rfl)) rfl, ?_⟩
  refine List.forall_mem_cons.mpr ⟨Or.inr (Or.inr ⟨rfl, (dd_X9_has (14, .ireturn, 1) (List.mem_of_getElem? (i := 10) rfl)), rfl⟩), ?_⟩
  exact fun _ h => absurd h List.not_mem_nil
theorem ow_X9_isChild : (mtJ 120).1.cls = "SatchelSinsModel" := rfl
def D_X9_isChild : List (Nat × Instr × Nat) := [(0, .iload_n 1, 1), (1, .i2l, 1), (2, .lconst 0, 1), (3, .aload_n 0, 1), (4, .getfield 91, 3), (7, .iconst 1, 1), (8, .isub, 1), (9, .i2l, 1), (10, .invokestatic 94, 3), (13, .ireturn, 1)]
theorem dd_X9_isChild : ∀ e ∈ D_X9_isChild, decode (mtJ 120).2.1 e.1 = .ok e.2 := by decide +kernel
set_option maxRecDepth 10000 in
theorem so_X9_isChild : ∀ e ∈ o_X9_isChild, SndO 120 e.1 e.2 := by
  refine List.forall_mem_cons.mpr ⟨s_iload_n (dd_X9_isChild (0, .iload_n 1, 1) (List.mem_of_getElem? (i := 0) rfl)) rfl, ?_⟩
  refine List.forall_mem_cons.mpr ⟨s_i2l (dd_X9_isChild (1, .i2l, 1) (List.mem_of_getElem? (i := 1) rfl)), ?_⟩
  refine List.forall_mem_cons.mpr ⟨s_lconst (dd_X9_isChild (2, .lconst 0, 1) (List.mem_of_getElem? (i := 2) rfl)) rfl, ?_⟩
  refine List.forall_mem_cons.mpr ⟨s_aload_n (dd_X9_isChild (3, .aload_n 0, 1) (List.mem_of_getElem? (i := 3) rfl)) rfl, ?_⟩
  refine List.forall_mem_cons.mpr ⟨s_getI (k := 2) K9 (by decide) (dd_X9_isChild (4, .getfield 91, 3) (List.mem_of_getElem? (i := 4) rfl)) ow_X9_isChild fl9_91 rfl, ?_⟩
  refine List.forall_mem_cons.mpr ⟨s_iconst (dd_X9_isChild (7, .iconst 1, 1) (List.mem_of_getElem? (i := 5) rfl)) rfl, ?_⟩
  refine List.forall_mem_cons.mpr ⟨s_isub (dd_X9_isChild (8, .isub, 1) (List.mem_of_getElem? (i := 6) rfl)), ?_⟩
  refine List.forall_mem_cons.mpr ⟨s_i2l (dd_X9_isChild (9, .i2l, 1) (List.mem_of_getElem? (i := 7) rfl)), ?_⟩
  refine List.forall_mem_cons.mpr ⟨⟨s_callS mo118 rfl (dd_X9_isChild (10, .invokestatic 94, 3) (List.mem_of_getElem? (i := 8) rfl)) ow_X9_isChild ml9_94 ms118 mn118, mo118⟩, ?_⟩
  refine List.forall_mem_cons.mpr ⟨Or.inr (Or.inr ⟨rfl, (dd_X9_isChild (13, .ireturn, 1) (List.mem_of_getElem? (i := 9) rfl)), rfl⟩), ?_⟩
  exact fun _ h => absurd h List.not_mem_nil
theorem ow_X9_isDeed : (mtJ 121).1.cls = "SatchelSinsModel" := rfl
def D_X9_isDeed : List (Nat × Instr × Nat) := [(0, .iload_n 1, 1), (1, .i2l, 1), (2, .lconst 0, 1), (3, .aload_n 0, 1), (4, .getfield 98, 3), (7, .iconst 1, 1), (8, .isub, 1), (9, .i2l, 1), (10, .invokestatic 94, 3), (13, .ireturn, 1)]
theorem dd_X9_isDeed : ∀ e ∈ D_X9_isDeed, decode (mtJ 121).2.1 e.1 = .ok e.2 := by decide +kernel
set_option maxRecDepth 10000 in
theorem so_X9_isDeed : ∀ e ∈ o_X9_isDeed, SndO 121 e.1 e.2 := by
  refine List.forall_mem_cons.mpr ⟨s_iload_n (dd_X9_isDeed (0, .iload_n 1, 1) (List.mem_of_getElem? (i := 0) rfl)) rfl, ?_⟩
  refine List.forall_mem_cons.mpr ⟨s_i2l (dd_X9_isDeed (1, .i2l, 1) (List.mem_of_getElem? (i := 1) rfl)), ?_⟩
  refine List.forall_mem_cons.mpr ⟨s_lconst (dd_X9_isDeed (2, .lconst 0, 1) (List.mem_of_getElem? (i := 2) rfl)) rfl, ?_⟩
  refine List.forall_mem_cons.mpr ⟨s_aload_n (dd_X9_isDeed (3, .aload_n 0, 1) (List.mem_of_getElem? (i := 3) rfl)) rfl, ?_⟩
  refine List.forall_mem_cons.mpr ⟨s_getI (k := 6) K9 (by decide) (dd_X9_isDeed (4, .getfield 98, 3) (List.mem_of_getElem? (i := 4) rfl)) ow_X9_isDeed fl9_98 rfl, ?_⟩
  refine List.forall_mem_cons.mpr ⟨s_iconst (dd_X9_isDeed (7, .iconst 1, 1) (List.mem_of_getElem? (i := 5) rfl)) rfl, ?_⟩
  refine List.forall_mem_cons.mpr ⟨s_isub (dd_X9_isDeed (8, .isub, 1) (List.mem_of_getElem? (i := 6) rfl)), ?_⟩
  refine List.forall_mem_cons.mpr ⟨s_i2l (dd_X9_isDeed (9, .i2l, 1) (List.mem_of_getElem? (i := 7) rfl)), ?_⟩
  refine List.forall_mem_cons.mpr ⟨⟨s_callS mo118 rfl (dd_X9_isDeed (10, .invokestatic 94, 3) (List.mem_of_getElem? (i := 8) rfl)) ow_X9_isDeed ml9_94 ms118 mn118, mo118⟩, ?_⟩
  refine List.forall_mem_cons.mpr ⟨Or.inr (Or.inr ⟨rfl, (dd_X9_isDeed (13, .ireturn, 1) (List.mem_of_getElem? (i := 9) rfl)), rfl⟩), ?_⟩
  exact fun _ h => absurd h List.not_mem_nil
theorem ow_X9_feed : (mtJ 122).1.cls = "SatchelSinsModel" := rfl
def D_X9_feed : List (Nat × Instr × Nat) := [(0, .iload_n 1, 1), (1, .i2l, 1), (2, .lconst 0, 1), (3, .ldc2_w 101, 3), (6, .invokestatic 94, 3), (9, .ifCond .ne 6, 3), (12, .ldc 103, 2), (14, .ireturn, 1), (15, .aload_n 0, 1), (16, .getfield 104, 3), (19, .sipush 240, 3), (22, .if_icmp .ne 6, 3), (25, .ldc 107, 2), (27, .ireturn, 1), (28, .aload_n 0, 1), (29, .getfield 28, 3), (32, .aload_n 0, 1), (33, .getfield 104, 3), (36, .iload_n 1, 1), (37, .iastore, 1), (38, .aload_n 0, 1), (39, .dup, 1), (40, .getfield 104, 3), (43, .iconst 1, 1), (44, .iadd, 1), (45, .putfield 104, 3), (48, .aload_n 0, 1), (49, .getfield 104, 3), (52, .ireturn, 1)]
theorem dd_X9_feed : ∀ e ∈ D_X9_feed, decode (mtJ 122).2.1 e.1 = .ok e.2 := by decide +kernel
set_option maxRecDepth 10000 in
theorem so_X9_feed : ∀ e ∈ o_X9_feed, SndO 122 e.1 e.2 := by
  refine List.forall_mem_cons.mpr ⟨s_iload_n (dd_X9_feed (0, .iload_n 1, 1) (List.mem_of_getElem? (i := 0) rfl)) rfl, ?_⟩
  refine List.forall_mem_cons.mpr ⟨s_i2l (dd_X9_feed (1, .i2l, 1) (List.mem_of_getElem? (i := 1) rfl)), ?_⟩
  refine List.forall_mem_cons.mpr ⟨s_lconst (dd_X9_feed (2, .lconst 0, 1) (List.mem_of_getElem? (i := 2) rfl)) rfl, ?_⟩
  refine List.forall_mem_cons.mpr ⟨s_ldc2 (dd_X9_feed (3, .ldc2_w 101, 3) (List.mem_of_getElem? (i := 3) rfl)) ow_X9_feed kl9_101, ?_⟩
  refine List.forall_mem_cons.mpr ⟨⟨s_callS mo118 rfl (dd_X9_feed (6, .invokestatic 94, 3) (List.mem_of_getElem? (i := 4) rfl)) ow_X9_feed ml9_94 ms118 mn118, mo118⟩, ?_⟩
  refine List.forall_mem_cons.mpr ⟨s_if_ne (dd_X9_feed (9, .ifCond .ne 6, 3) (List.mem_of_getElem? (i := 5) rfl)) (by decide), ?_⟩
  refine List.forall_mem_cons.mpr ⟨s_ldc (dd_X9_feed (12, .ldc 103, 2) (List.mem_of_getElem? (i := 6) rfl)) ow_X9_feed ki9_103, ?_⟩
  refine List.forall_mem_cons.mpr ⟨Or.inr (Or.inl ⟨rfl, (dd_X9_feed (14, .ireturn, 1) (List.mem_of_getElem? (i := 7) rfl)), rfl⟩), ?_⟩
  refine List.forall_mem_cons.mpr ⟨s_aload_n (dd_X9_feed (15, .aload_n 0, 1) (List.mem_of_getElem? (i := 8) rfl)) rfl, ?_⟩
  refine List.forall_mem_cons.mpr ⟨s_getI (k := 12) K9 (by decide) (dd_X9_feed (16, .getfield 104, 3) (List.mem_of_getElem? (i := 9) rfl)) ow_X9_feed fl9_104 rfl, ?_⟩
  refine List.forall_mem_cons.mpr ⟨s_sipush (dd_X9_feed (19, .sipush 240, 3) (List.mem_of_getElem? (i := 10) rfl)) rfl, ?_⟩
  refine List.forall_mem_cons.mpr ⟨s_icmp_ne (dd_X9_feed (22, .if_icmp .ne 6, 3) (List.mem_of_getElem? (i := 11) rfl)) (by decide), ?_⟩
  refine List.forall_mem_cons.mpr ⟨s_ldc (dd_X9_feed (25, .ldc 107, 2) (List.mem_of_getElem? (i := 12) rfl)) ow_X9_feed ki9_107, ?_⟩
  refine List.forall_mem_cons.mpr ⟨Or.inr (Or.inl ⟨rfl, (dd_X9_feed (27, .ireturn, 1) (List.mem_of_getElem? (i := 13) rfl)), rfl⟩), ?_⟩
  refine List.forall_mem_cons.mpr ⟨s_aload_n (dd_X9_feed (28, .aload_n 0, 1) (List.mem_of_getElem? (i := 14) rfl)) rfl, ?_⟩
  refine List.forall_mem_cons.mpr ⟨s_getR (k := 11) K9 (by decide) (dd_X9_feed (29, .getfield 28, 3) (List.mem_of_getElem? (i := 15) rfl)) ow_X9_feed fl9_28 rfl, ?_⟩
  refine List.forall_mem_cons.mpr ⟨s_aload_n (dd_X9_feed (32, .aload_n 0, 1) (List.mem_of_getElem? (i := 16) rfl)) rfl, ?_⟩
  refine List.forall_mem_cons.mpr ⟨s_getI (k := 12) K9 (by decide) (dd_X9_feed (33, .getfield 104, 3) (List.mem_of_getElem? (i := 17) rfl)) ow_X9_feed fl9_104 rfl, ?_⟩
  refine List.forall_mem_cons.mpr ⟨s_iload_n (dd_X9_feed (36, .iload_n 1, 1) (List.mem_of_getElem? (i := 18) rfl)) rfl, ?_⟩
  refine List.forall_mem_cons.mpr ⟨s_iast (dd_X9_feed (37, .iastore, 1) (List.mem_of_getElem? (i := 19) rfl)), ?_⟩
  refine List.forall_mem_cons.mpr ⟨s_aload_n (dd_X9_feed (38, .aload_n 0, 1) (List.mem_of_getElem? (i := 20) rfl)) rfl, ?_⟩
  refine List.forall_mem_cons.mpr ⟨s_dup (dd_X9_feed (39, .dup, 1) (List.mem_of_getElem? (i := 21) rfl)), ?_⟩
  refine List.forall_mem_cons.mpr ⟨s_getI (k := 12) K9 (by decide) (dd_X9_feed (40, .getfield 104, 3) (List.mem_of_getElem? (i := 22) rfl)) ow_X9_feed fl9_104 rfl, ?_⟩
  refine List.forall_mem_cons.mpr ⟨s_iconst (dd_X9_feed (43, .iconst 1, 1) (List.mem_of_getElem? (i := 23) rfl)) rfl, ?_⟩
  refine List.forall_mem_cons.mpr ⟨s_iadd (dd_X9_feed (44, .iadd, 1) (List.mem_of_getElem? (i := 24) rfl)), ?_⟩
  refine List.forall_mem_cons.mpr ⟨s_putI (k := 12) K9 (by decide) (dd_X9_feed (45, .putfield 104, 3) (List.mem_of_getElem? (i := 25) rfl)) ow_X9_feed fl9_104 (Or.inl rfl) rfl, ?_⟩
  refine List.forall_mem_cons.mpr ⟨s_aload_n (dd_X9_feed (48, .aload_n 0, 1) (List.mem_of_getElem? (i := 26) rfl)) rfl, ?_⟩
  refine List.forall_mem_cons.mpr ⟨s_getI (k := 12) K9 (by decide) (dd_X9_feed (49, .getfield 104, 3) (List.mem_of_getElem? (i := 27) rfl)) ow_X9_feed fl9_104 rfl, ?_⟩
  refine List.forall_mem_cons.mpr ⟨Or.inr (Or.inl ⟨rfl, (dd_X9_feed (52, .ireturn, 1) (List.mem_of_getElem? (i := 28) rfl)), rfl⟩), ?_⟩
  exact fun _ h => absurd h List.not_mem_nil
theorem ow_X9_here : (mtJ 123).1.cls = "SatchelSinsModel" := rfl
def D_X9_here : List (Nat × Instr × Nat) := [(0, .aload_n 0, 1), (1, .getfield 108, 3), (4, .aload_n 0, 1), (5, .getfield 104, 3), (8, .if_icmp .ge 30, 3), (11, .aload_n 0, 1), (12, .getfield 28, 3), (15, .aload_n 0, 1), (16, .getfield 108, 3), (19, .iaload, 1), (20, .bipush 32, 2), (22, .if_icmp .ne 16, 3), (25, .aload_n 0, 1), (26, .dup, 1), (27, .getfield 108, 3), (30, .iconst 1, 1), (31, .iadd, 1), (32, .putfield 108, 3), (35, .goto (-35), 3), (38, .aload_n 0, 1), (39, .getfield 108, 3), (42, .aload_n 0, 1), (43, .getfield 104, 3), (46, .if_icmp .ge 15, 3), (49, .aload_n 0, 1), (50, .getfield 28, 3), (53, .aload_n 0, 1), (54, .getfield 108, 3), (57, .iaload, 1), (58, .goto 4, 3), (61, .iconst (-1), 1), (62, .ireturn, 1)]
theorem dd_X9_here : ∀ e ∈ D_X9_here, decode (mtJ 123).2.1 e.1 = .ok e.2 := by decide +kernel
set_option maxRecDepth 10000 in
theorem so_X9_here : ∀ e ∈ o_X9_here, SndO 123 e.1 e.2 := by
  refine List.forall_mem_cons.mpr ⟨s_aload_n (dd_X9_here (0, .aload_n 0, 1) (List.mem_of_getElem? (i := 0) rfl)) rfl, ?_⟩
  refine List.forall_mem_cons.mpr ⟨s_getI (k := 14) K9 (by decide) (dd_X9_here (1, .getfield 108, 3) (List.mem_of_getElem? (i := 1) rfl)) ow_X9_here fl9_108 rfl, ?_⟩
  refine List.forall_mem_cons.mpr ⟨s_aload_n (dd_X9_here (4, .aload_n 0, 1) (List.mem_of_getElem? (i := 2) rfl)) rfl, ?_⟩
  refine List.forall_mem_cons.mpr ⟨s_getI (k := 12) K9 (by decide) (dd_X9_here (5, .getfield 104, 3) (List.mem_of_getElem? (i := 3) rfl)) ow_X9_here fl9_104 rfl, ?_⟩
  refine List.forall_mem_cons.mpr ⟨s_icmp_ge (dd_X9_here (8, .if_icmp .ge 30, 3) (List.mem_of_getElem? (i := 4) rfl)) (by decide), ?_⟩
  refine List.forall_mem_cons.mpr ⟨s_aload_n (dd_X9_here (11, .aload_n 0, 1) (List.mem_of_getElem? (i := 5) rfl)) rfl, ?_⟩
  refine List.forall_mem_cons.mpr ⟨s_getR (k := 11) K9 (by decide) (dd_X9_here (12, .getfield 28, 3) (List.mem_of_getElem? (i := 6) rfl)) ow_X9_here fl9_28 rfl, ?_⟩
  refine List.forall_mem_cons.mpr ⟨s_aload_n (dd_X9_here (15, .aload_n 0, 1) (List.mem_of_getElem? (i := 7) rfl)) rfl, ?_⟩
  refine List.forall_mem_cons.mpr ⟨s_getI (k := 14) K9 (by decide) (dd_X9_here (16, .getfield 108, 3) (List.mem_of_getElem? (i := 8) rfl)) ow_X9_here fl9_108 rfl, ?_⟩
  refine List.forall_mem_cons.mpr ⟨s_iald (dd_X9_here (19, .iaload, 1) (List.mem_of_getElem? (i := 9) rfl)), ?_⟩
  refine List.forall_mem_cons.mpr ⟨s_bipush (dd_X9_here (20, .bipush 32, 2) (List.mem_of_getElem? (i := 10) rfl)) rfl, ?_⟩
  refine List.forall_mem_cons.mpr ⟨s_icmp_ne (dd_X9_here (22, .if_icmp .ne 16, 3) (List.mem_of_getElem? (i := 11) rfl)) (by decide), ?_⟩
  refine List.forall_mem_cons.mpr ⟨s_aload_n (dd_X9_here (25, .aload_n 0, 1) (List.mem_of_getElem? (i := 12) rfl)) rfl, ?_⟩
  refine List.forall_mem_cons.mpr ⟨s_dup (dd_X9_here (26, .dup, 1) (List.mem_of_getElem? (i := 13) rfl)), ?_⟩
  refine List.forall_mem_cons.mpr ⟨s_getI (k := 14) K9 (by decide) (dd_X9_here (27, .getfield 108, 3) (List.mem_of_getElem? (i := 14) rfl)) ow_X9_here fl9_108 rfl, ?_⟩
  refine List.forall_mem_cons.mpr ⟨s_iconst (dd_X9_here (30, .iconst 1, 1) (List.mem_of_getElem? (i := 15) rfl)) rfl, ?_⟩
  refine List.forall_mem_cons.mpr ⟨s_iadd (dd_X9_here (31, .iadd, 1) (List.mem_of_getElem? (i := 16) rfl)), ?_⟩
  refine List.forall_mem_cons.mpr ⟨s_putI (k := 14) K9 (by decide) (dd_X9_here (32, .putfield 108, 3) (List.mem_of_getElem? (i := 17) rfl)) ow_X9_here fl9_108 (Or.inl rfl) rfl, ?_⟩
  refine List.forall_mem_cons.mpr ⟨s_goto (dd_X9_here (35, .goto (-35), 3) (List.mem_of_getElem? (i := 18) rfl)) (by decide), ?_⟩
  refine List.forall_mem_cons.mpr ⟨s_aload_n (dd_X9_here (38, .aload_n 0, 1) (List.mem_of_getElem? (i := 19) rfl)) rfl, ?_⟩
  refine List.forall_mem_cons.mpr ⟨s_getI (k := 14) K9 (by decide) (dd_X9_here (39, .getfield 108, 3) (List.mem_of_getElem? (i := 20) rfl)) ow_X9_here fl9_108 rfl, ?_⟩
  refine List.forall_mem_cons.mpr ⟨s_aload_n (dd_X9_here (42, .aload_n 0, 1) (List.mem_of_getElem? (i := 21) rfl)) rfl, ?_⟩
  refine List.forall_mem_cons.mpr ⟨s_getI (k := 12) K9 (by decide) (dd_X9_here (43, .getfield 104, 3) (List.mem_of_getElem? (i := 22) rfl)) ow_X9_here fl9_104 rfl, ?_⟩
  refine List.forall_mem_cons.mpr ⟨s_icmp_ge (dd_X9_here (46, .if_icmp .ge 15, 3) (List.mem_of_getElem? (i := 23) rfl)) (by decide), ?_⟩
  refine List.forall_mem_cons.mpr ⟨s_aload_n (dd_X9_here (49, .aload_n 0, 1) (List.mem_of_getElem? (i := 24) rfl)) rfl, ?_⟩
  refine List.forall_mem_cons.mpr ⟨s_getR (k := 11) K9 (by decide) (dd_X9_here (50, .getfield 28, 3) (List.mem_of_getElem? (i := 25) rfl)) ow_X9_here fl9_28 rfl, ?_⟩
  refine List.forall_mem_cons.mpr ⟨s_aload_n (dd_X9_here (53, .aload_n 0, 1) (List.mem_of_getElem? (i := 26) rfl)) rfl, ?_⟩
  refine List.forall_mem_cons.mpr ⟨s_getI (k := 14) K9 (by decide) (dd_X9_here (54, .getfield 108, 3) (List.mem_of_getElem? (i := 27) rfl)) ow_X9_here fl9_108 rfl, ?_⟩
  refine List.forall_mem_cons.mpr ⟨s_iald (dd_X9_here (57, .iaload, 1) (List.mem_of_getElem? (i := 28) rfl)), ?_⟩
  refine List.forall_mem_cons.mpr ⟨s_goto (dd_X9_here (58, .goto 4, 3) (List.mem_of_getElem? (i := 29) rfl)) (by decide), ?_⟩
  refine List.forall_mem_cons.mpr ⟨s_iconst (dd_X9_here (61, .iconst (-1), 1) (List.mem_of_getElem? (i := 30) rfl)) rfl, ?_⟩
  refine List.forall_mem_cons.mpr ⟨Or.inr (Or.inl ⟨rfl, (dd_X9_here (62, .ireturn, 1) (List.mem_of_getElem? (i := 31) rfl)), rfl⟩), ?_⟩
  exact fun _ h => absurd h List.not_mem_nil
theorem ow_X9_fails : (mtJ 124).1.cls = "SatchelSinsModel" := rfl
def D_X9_fails : List (Nat × Instr × Nat) := [(0, .aload_n 0, 1), (1, .iload_n 2, 1), (2, .putfield 31, 3), (5, .iload_n 1, 1), (6, .ireturn, 1)]
theorem dd_X9_fails : ∀ e ∈ D_X9_fails, decode (mtJ 124).2.1 e.1 = .ok e.2 := by decide +kernel
set_option maxRecDepth 10000 in
theorem so_X9_fails : ∀ e ∈ o_X9_fails, SndO 124 e.1 e.2 := by
  refine List.forall_mem_cons.mpr ⟨s_aload_n (dd_X9_fails (0, .aload_n 0, 1) (List.mem_of_getElem? (i := 0) rfl)) rfl, ?_⟩
  refine List.forall_mem_cons.mpr ⟨s_iload_n (dd_X9_fails (1, .iload_n 2, 1) (List.mem_of_getElem? (i := 1) rfl)) rfl, ?_⟩
  refine List.forall_mem_cons.mpr ⟨s_putI (k := 13) K9 (by decide) (dd_X9_fails (2, .putfield 31, 3) (List.mem_of_getElem? (i := 2) rfl)) ow_X9_fails fl9_31 (Or.inl rfl) rfl, ?_⟩
  refine List.forall_mem_cons.mpr ⟨s_iload_n (dd_X9_fails (5, .iload_n 1, 1) (List.mem_of_getElem? (i := 3) rfl)) rfl, ?_⟩
  refine List.forall_mem_cons.mpr ⟨Or.inr (Or.inl ⟨rfl, (dd_X9_fails (6, .ireturn, 1) (List.mem_of_getElem? (i := 4) rfl)), rfl⟩), ?_⟩
  exact fun _ h => absurd h List.not_mem_nil
theorem ow_X9_takeNumber : (mtJ 125).1.cls = "SatchelSinsModel" := rfl
def D_X9_takeNumber_1 : List (Nat × Instr × Nat) := [(0, .aload_n 0, 1), (1, .invokevirtual 111, 3), (4, .istore_n 3, 1), (5, .iload_n 3, 1), (6, .i2l, 1), (7, .ldc2_w 115, 3), (10, .ldc2_w 117, 3), (13, .invokestatic 94, 3), (16, .ifCond .ne 13, 3), (19, .aload_n 0, 1), (20, .iconst 1, 1), (21, .aload_n 0, 1), (22, .getfield 108, 3), (25, .invokevirtual 119, 3), (28, .ireturn, 1), (29, .aload_n 0, 1), (30, .aload_n 0, 1), (31, .getfield 108, 3), (34, .putfield 123, 3), (37, .aload_n 0, 1), (38, .iconst 0, 1), (39, .putfield 126, 3), (42, .aload_n 0, 1), (43, .getfield 108, 3), (46, .aload_n 0, 1), (47, .getfield 104, 3), (50, .if_icmp .ge 79, 3), (53, .aload_n 0, 1), (54, .getfield 28, 3), (57, .aload_n 0, 1), (58, .getfield 108, 3), (61, .iaload, 1), (62, .i2l, 1), (63, .ldc2_w 115, 3), (66, .ldc2_w 117, 3), (69, .invokestatic 94, 3), (72, .ifCond .eq 57, 3), (75, .aload_n 0, 1), (76, .aload_n 0, 1), (77, .getfield 126, 3), (80, .sipush 10000, 3), (83, .if_icmp .le 10, 3), (86, .aload_n 0, 1), (87, .getfield 126, 3), (90, .goto 23, 3), (93, .bipush 10, 2), (95, .aload_n 0, 1), (96, .getfield 126, 3), (99, .imul, 1), (100, .aload_n 0, 1), (101, .getfield 28, 3), (104, .aload_n 0, 1), (105, .getfield 108, 3), (108, .iaload, 1), (109, .iadd, 1), (110, .bipush 48, 2), (112, .isub, 1), (113, .putfield 126, 3), (116, .aload_n 0, 1), (117, .dup, 1)]
theorem dd_X9_takeNumber_1 : ∀ e ∈ D_X9_takeNumber_1, decode (mtJ 125).2.1 e.1 = .ok e.2 := by decide +kernel
set_option maxRecDepth 10000 in
theorem so_X9_takeNumber_1 : ∀ e ∈ o_X9_takeNumber_1, SndO 125 e.1 e.2 := by
  refine List.forall_mem_cons.mpr ⟨s_aload_n (dd_X9_takeNumber_1 (0, .aload_n 0, 1) (List.mem_of_getElem? (i := 0) rfl)) rfl, ?_⟩
  refine List.forall_mem_cons.mpr ⟨⟨s_callV (ci := 9) rfl mo123 rfl rfl (dd_X9_takeNumber_1 (1, .invokevirtual 111, 3) (List.mem_of_getElem? (i := 1) rfl)) ow_X9_takeNumber ml9_111 mi123 msl123 in_9 mn123, mo123⟩, ?_⟩
  refine List.forall_mem_cons.mpr ⟨s_istore_n (dd_X9_takeNumber_1 (4, .istore_n 3, 1) (List.mem_of_getElem? (i := 2) rfl)) rfl, ?_⟩
  refine List.forall_mem_cons.mpr ⟨s_iload_n (dd_X9_takeNumber_1 (5, .iload_n 3, 1) (List.mem_of_getElem? (i := 3) rfl)) rfl, ?_⟩
  refine List.forall_mem_cons.mpr ⟨s_i2l (dd_X9_takeNumber_1 (6, .i2l, 1) (List.mem_of_getElem? (i := 4) rfl)), ?_⟩
  refine List.forall_mem_cons.mpr ⟨s_ldc2 (dd_X9_takeNumber_1 (7, .ldc2_w 115, 3) (List.mem_of_getElem? (i := 5) rfl)) ow_X9_takeNumber kl9_115, ?_⟩
  refine List.forall_mem_cons.mpr ⟨s_ldc2 (dd_X9_takeNumber_1 (10, .ldc2_w 117, 3) (List.mem_of_getElem? (i := 6) rfl)) ow_X9_takeNumber kl9_117, ?_⟩
  refine List.forall_mem_cons.mpr ⟨⟨s_callS mo118 rfl (dd_X9_takeNumber_1 (13, .invokestatic 94, 3) (List.mem_of_getElem? (i := 7) rfl)) ow_X9_takeNumber ml9_94 ms118 mn118, mo118⟩, ?_⟩
  refine List.forall_mem_cons.mpr ⟨s_if_ne (dd_X9_takeNumber_1 (16, .ifCond .ne 13, 3) (List.mem_of_getElem? (i := 8) rfl)) (by decide), ?_⟩
  refine List.forall_mem_cons.mpr ⟨s_aload_n (dd_X9_takeNumber_1 (19, .aload_n 0, 1) (List.mem_of_getElem? (i := 9) rfl)) rfl, ?_⟩
  refine List.forall_mem_cons.mpr ⟨s_iconst (dd_X9_takeNumber_1 (20, .iconst 1, 1) (List.mem_of_getElem? (i := 10) rfl)) rfl, ?_⟩
  refine List.forall_mem_cons.mpr ⟨s_aload_n (dd_X9_takeNumber_1 (21, .aload_n 0, 1) (List.mem_of_getElem? (i := 11) rfl)) rfl, ?_⟩
  refine List.forall_mem_cons.mpr ⟨s_getI (k := 14) K9 (by decide) (dd_X9_takeNumber_1 (22, .getfield 108, 3) (List.mem_of_getElem? (i := 12) rfl)) ow_X9_takeNumber fl9_108 rfl, ?_⟩
  refine List.forall_mem_cons.mpr ⟨⟨s_callV (ci := 9) rfl mo124 rfl rfl (dd_X9_takeNumber_1 (25, .invokevirtual 119, 3) (List.mem_of_getElem? (i := 13) rfl)) ow_X9_takeNumber ml9_119 mi124 msl124 in_9 mn124, mo124⟩, ?_⟩
  refine List.forall_mem_cons.mpr ⟨Or.inr (Or.inl ⟨rfl, (dd_X9_takeNumber_1 (28, .ireturn, 1) (List.mem_of_getElem? (i := 14) rfl)), rfl⟩), ?_⟩
  refine List.forall_mem_cons.mpr ⟨s_aload_n (dd_X9_takeNumber_1 (29, .aload_n 0, 1) (List.mem_of_getElem? (i := 15) rfl)) rfl, ?_⟩
  refine List.forall_mem_cons.mpr ⟨s_aload_n (dd_X9_takeNumber_1 (30, .aload_n 0, 1) (List.mem_of_getElem? (i := 16) rfl)) rfl, ?_⟩
  refine List.forall_mem_cons.mpr ⟨s_getI (k := 14) K9 (by decide) (dd_X9_takeNumber_1 (31, .getfield 108, 3) (List.mem_of_getElem? (i := 17) rfl)) ow_X9_takeNumber fl9_108 rfl, ?_⟩
  refine List.forall_mem_cons.mpr ⟨s_putI (k := 16) K9 (by decide) (dd_X9_takeNumber_1 (34, .putfield 123, 3) (List.mem_of_getElem? (i := 18) rfl)) ow_X9_takeNumber fl9_123 (Or.inl rfl) rfl, ?_⟩
  refine List.forall_mem_cons.mpr ⟨s_aload_n (dd_X9_takeNumber_1 (37, .aload_n 0, 1) (List.mem_of_getElem? (i := 19) rfl)) rfl, ?_⟩
  refine List.forall_mem_cons.mpr ⟨s_iconst (dd_X9_takeNumber_1 (38, .iconst 0, 1) (List.mem_of_getElem? (i := 20) rfl)) rfl, ?_⟩
  refine List.forall_mem_cons.mpr ⟨s_putI (k := 15) K9 (by decide) (dd_X9_takeNumber_1 (39, .putfield 126, 3) (List.mem_of_getElem? (i := 21) rfl)) ow_X9_takeNumber fl9_126 (Or.inl rfl) rfl, ?_⟩
  refine List.forall_mem_cons.mpr ⟨s_aload_n (dd_X9_takeNumber_1 (42, .aload_n 0, 1) (List.mem_of_getElem? (i := 22) rfl)) rfl, ?_⟩
  refine List.forall_mem_cons.mpr ⟨s_getI (k := 14) K9 (by decide) (dd_X9_takeNumber_1 (43, .getfield 108, 3) (List.mem_of_getElem? (i := 23) rfl)) ow_X9_takeNumber fl9_108 rfl, ?_⟩
  refine List.forall_mem_cons.mpr ⟨s_aload_n (dd_X9_takeNumber_1 (46, .aload_n 0, 1) (List.mem_of_getElem? (i := 24) rfl)) rfl, ?_⟩
  refine List.forall_mem_cons.mpr ⟨s_getI (k := 12) K9 (by decide) (dd_X9_takeNumber_1 (47, .getfield 104, 3) (List.mem_of_getElem? (i := 25) rfl)) ow_X9_takeNumber fl9_104 rfl, ?_⟩
  refine List.forall_mem_cons.mpr ⟨s_icmp_ge (dd_X9_takeNumber_1 (50, .if_icmp .ge 79, 3) (List.mem_of_getElem? (i := 26) rfl)) (by decide), ?_⟩
  refine List.forall_mem_cons.mpr ⟨s_aload_n (dd_X9_takeNumber_1 (53, .aload_n 0, 1) (List.mem_of_getElem? (i := 27) rfl)) rfl, ?_⟩
  refine List.forall_mem_cons.mpr ⟨s_getR (k := 11) K9 (by decide) (dd_X9_takeNumber_1 (54, .getfield 28, 3) (List.mem_of_getElem? (i := 28) rfl)) ow_X9_takeNumber fl9_28 rfl, ?_⟩
  refine List.forall_mem_cons.mpr ⟨s_aload_n (dd_X9_takeNumber_1 (57, .aload_n 0, 1) (List.mem_of_getElem? (i := 29) rfl)) rfl, ?_⟩
  refine List.forall_mem_cons.mpr ⟨s_getI (k := 14) K9 (by decide) (dd_X9_takeNumber_1 (58, .getfield 108, 3) (List.mem_of_getElem? (i := 30) rfl)) ow_X9_takeNumber fl9_108 rfl, ?_⟩
  refine List.forall_mem_cons.mpr ⟨s_iald (dd_X9_takeNumber_1 (61, .iaload, 1) (List.mem_of_getElem? (i := 31) rfl)), ?_⟩
  refine List.forall_mem_cons.mpr ⟨s_i2l (dd_X9_takeNumber_1 (62, .i2l, 1) (List.mem_of_getElem? (i := 32) rfl)), ?_⟩
  refine List.forall_mem_cons.mpr ⟨s_ldc2 (dd_X9_takeNumber_1 (63, .ldc2_w 115, 3) (List.mem_of_getElem? (i := 33) rfl)) ow_X9_takeNumber kl9_115, ?_⟩
  refine List.forall_mem_cons.mpr ⟨s_ldc2 (dd_X9_takeNumber_1 (66, .ldc2_w 117, 3) (List.mem_of_getElem? (i := 34) rfl)) ow_X9_takeNumber kl9_117, ?_⟩
  refine List.forall_mem_cons.mpr ⟨⟨s_callS mo118 rfl (dd_X9_takeNumber_1 (69, .invokestatic 94, 3) (List.mem_of_getElem? (i := 35) rfl)) ow_X9_takeNumber ml9_94 ms118 mn118, mo118⟩, ?_⟩
  refine List.forall_mem_cons.mpr ⟨s_if_eq (dd_X9_takeNumber_1 (72, .ifCond .eq 57, 3) (List.mem_of_getElem? (i := 36) rfl)) (by decide), ?_⟩
  refine List.forall_mem_cons.mpr ⟨s_aload_n (dd_X9_takeNumber_1 (75, .aload_n 0, 1) (List.mem_of_getElem? (i := 37) rfl)) rfl, ?_⟩
  refine List.forall_mem_cons.mpr ⟨s_aload_n (dd_X9_takeNumber_1 (76, .aload_n 0, 1) (List.mem_of_getElem? (i := 38) rfl)) rfl, ?_⟩
  refine List.forall_mem_cons.mpr ⟨s_getI (k := 15) K9 (by decide) (dd_X9_takeNumber_1 (77, .getfield 126, 3) (List.mem_of_getElem? (i := 39) rfl)) ow_X9_takeNumber fl9_126 rfl, ?_⟩
  refine List.forall_mem_cons.mpr ⟨s_sipush (dd_X9_takeNumber_1 (80, .sipush 10000, 3) (List.mem_of_getElem? (i := 40) rfl)) rfl, ?_⟩
  refine List.forall_mem_cons.mpr ⟨s_icmp_le (dd_X9_takeNumber_1 (83, .if_icmp .le 10, 3) (List.mem_of_getElem? (i := 41) rfl)) (by decide), ?_⟩
  refine List.forall_mem_cons.mpr ⟨s_aload_n (dd_X9_takeNumber_1 (86, .aload_n 0, 1) (List.mem_of_getElem? (i := 42) rfl)) rfl, ?_⟩
  refine List.forall_mem_cons.mpr ⟨s_getI (k := 15) K9 (by decide) (dd_X9_takeNumber_1 (87, .getfield 126, 3) (List.mem_of_getElem? (i := 43) rfl)) ow_X9_takeNumber fl9_126 rfl, ?_⟩
  refine List.forall_mem_cons.mpr ⟨s_goto (dd_X9_takeNumber_1 (90, .goto 23, 3) (List.mem_of_getElem? (i := 44) rfl)) (by decide), ?_⟩
  refine List.forall_mem_cons.mpr ⟨s_bipush (dd_X9_takeNumber_1 (93, .bipush 10, 2) (List.mem_of_getElem? (i := 45) rfl)) rfl, ?_⟩
  refine List.forall_mem_cons.mpr ⟨s_aload_n (dd_X9_takeNumber_1 (95, .aload_n 0, 1) (List.mem_of_getElem? (i := 46) rfl)) rfl, ?_⟩
  refine List.forall_mem_cons.mpr ⟨s_getI (k := 15) K9 (by decide) (dd_X9_takeNumber_1 (96, .getfield 126, 3) (List.mem_of_getElem? (i := 47) rfl)) ow_X9_takeNumber fl9_126 rfl, ?_⟩
  refine List.forall_mem_cons.mpr ⟨s_imul (dd_X9_takeNumber_1 (99, .imul, 1) (List.mem_of_getElem? (i := 48) rfl)), ?_⟩
  refine List.forall_mem_cons.mpr ⟨s_aload_n (dd_X9_takeNumber_1 (100, .aload_n 0, 1) (List.mem_of_getElem? (i := 49) rfl)) rfl, ?_⟩
  refine List.forall_mem_cons.mpr ⟨s_getR (k := 11) K9 (by decide) (dd_X9_takeNumber_1 (101, .getfield 28, 3) (List.mem_of_getElem? (i := 50) rfl)) ow_X9_takeNumber fl9_28 rfl, ?_⟩
  refine List.forall_mem_cons.mpr ⟨s_aload_n (dd_X9_takeNumber_1 (104, .aload_n 0, 1) (List.mem_of_getElem? (i := 51) rfl)) rfl, ?_⟩
  refine List.forall_mem_cons.mpr ⟨s_getI (k := 14) K9 (by decide) (dd_X9_takeNumber_1 (105, .getfield 108, 3) (List.mem_of_getElem? (i := 52) rfl)) ow_X9_takeNumber fl9_108 rfl, ?_⟩
  refine List.forall_mem_cons.mpr ⟨s_iald (dd_X9_takeNumber_1 (108, .iaload, 1) (List.mem_of_getElem? (i := 53) rfl)), ?_⟩
  refine List.forall_mem_cons.mpr ⟨s_iadd (dd_X9_takeNumber_1 (109, .iadd, 1) (List.mem_of_getElem? (i := 54) rfl)), ?_⟩
  refine List.forall_mem_cons.mpr ⟨s_bipush (dd_X9_takeNumber_1 (110, .bipush 48, 2) (List.mem_of_getElem? (i := 55) rfl)) rfl, ?_⟩
  refine List.forall_mem_cons.mpr ⟨s_isub (dd_X9_takeNumber_1 (112, .isub, 1) (List.mem_of_getElem? (i := 56) rfl)), ?_⟩
  refine List.forall_mem_cons.mpr ⟨s_putI (k := 15) K9 (by decide) (dd_X9_takeNumber_1 (113, .putfield 126, 3) (List.mem_of_getElem? (i := 57) rfl)) ow_X9_takeNumber fl9_126 (Or.inl rfl) rfl, ?_⟩
  refine List.forall_mem_cons.mpr ⟨s_aload_n (dd_X9_takeNumber_1 (116, .aload_n 0, 1) (List.mem_of_getElem? (i := 58) rfl)) rfl, ?_⟩
  refine List.forall_mem_cons.mpr ⟨s_dup (dd_X9_takeNumber_1 (117, .dup, 1) (List.mem_of_getElem? (i := 59) rfl)), ?_⟩
  exact fun _ h => absurd h List.not_mem_nil
def D_X9_takeNumber_2 : List (Nat × Instr × Nat) := [(118, .getfield 108, 3), (121, .iconst 1, 1), (122, .iadd, 1), (123, .putfield 108, 3), (126, .goto (-84), 3), (129, .aload_n 0, 1), (130, .getfield 108, 3), (133, .aload_n 0, 1), (134, .getfield 123, 3), (137, .isub, 1), (138, .iconst 3, 1), (139, .if_icmp .gt 18, 3), (142, .aload_n 0, 1), (143, .getfield 126, 3), (146, .i2l, 1), (147, .iload_n 1, 1), (148, .i2l, 1), (149, .iload_n 2, 1), (150, .i2l, 1), (151, .invokestatic 94, 3), (154, .ifCond .ne 15, 3), (157, .aload_n 0, 1), (158, .iconst 2, 1), (159, .aload_n 0, 1), (160, .getfield 123, 3), (163, .invokevirtual 119, 3), (166, .goto 4, 3), (169, .iconst 0, 1), (170, .ireturn, 1)]
theorem dd_X9_takeNumber_2 : ∀ e ∈ D_X9_takeNumber_2, decode (mtJ 125).2.1 e.1 = .ok e.2 := by decide +kernel
set_option maxRecDepth 10000 in
theorem so_X9_takeNumber_2 : ∀ e ∈ o_X9_takeNumber_2, SndO 125 e.1 e.2 := by
  refine List.forall_mem_cons.mpr ⟨s_getI (k := 14) K9 (by decide) (dd_X9_takeNumber_2 (118, .getfield 108, 3) (List.mem_of_getElem? (i := 0) rfl)) ow_X9_takeNumber fl9_108 rfl, ?_⟩
  refine List.forall_mem_cons.mpr ⟨s_iconst (dd_X9_takeNumber_2 (121, .iconst 1, 1) (List.mem_of_getElem? (i := 1) rfl)) rfl, ?_⟩
  refine List.forall_mem_cons.mpr ⟨s_iadd (dd_X9_takeNumber_2 (122, .iadd, 1) (List.mem_of_getElem? (i := 2) rfl)), ?_⟩
  refine List.forall_mem_cons.mpr ⟨s_putI (k := 14) K9 (by decide) (dd_X9_takeNumber_2 (123, .putfield 108, 3) (List.mem_of_getElem? (i := 3) rfl)) ow_X9_takeNumber fl9_108 (Or.inl rfl) rfl, ?_⟩
  refine List.forall_mem_cons.mpr ⟨s_goto (dd_X9_takeNumber_2 (126, .goto (-84), 3) (List.mem_of_getElem? (i := 4) rfl)) (by decide), ?_⟩
  refine List.forall_mem_cons.mpr ⟨s_aload_n (dd_X9_takeNumber_2 (129, .aload_n 0, 1) (List.mem_of_getElem? (i := 5) rfl)) rfl, ?_⟩
  refine List.forall_mem_cons.mpr ⟨s_getI (k := 14) K9 (by decide) (dd_X9_takeNumber_2 (130, .getfield 108, 3) (List.mem_of_getElem? (i := 6) rfl)) ow_X9_takeNumber fl9_108 rfl, ?_⟩
  refine List.forall_mem_cons.mpr ⟨s_aload_n (dd_X9_takeNumber_2 (133, .aload_n 0, 1) (List.mem_of_getElem? (i := 7) rfl)) rfl, ?_⟩
  refine List.forall_mem_cons.mpr ⟨s_getI (k := 16) K9 (by decide) (dd_X9_takeNumber_2 (134, .getfield 123, 3) (List.mem_of_getElem? (i := 8) rfl)) ow_X9_takeNumber fl9_123 rfl, ?_⟩
  refine List.forall_mem_cons.mpr ⟨s_isub (dd_X9_takeNumber_2 (137, .isub, 1) (List.mem_of_getElem? (i := 9) rfl)), ?_⟩
  refine List.forall_mem_cons.mpr ⟨s_iconst (dd_X9_takeNumber_2 (138, .iconst 3, 1) (List.mem_of_getElem? (i := 10) rfl)) rfl, ?_⟩
  refine List.forall_mem_cons.mpr ⟨s_icmp_gt (dd_X9_takeNumber_2 (139, .if_icmp .gt 18, 3) (List.mem_of_getElem? (i := 11) rfl)) (by decide), ?_⟩
  refine List.forall_mem_cons.mpr ⟨s_aload_n (dd_X9_takeNumber_2 (142, .aload_n 0, 1) (List.mem_of_getElem? (i := 12) rfl)) rfl, ?_⟩
  refine List.forall_mem_cons.mpr ⟨s_getI (k := 15) K9 (by decide) (dd_X9_takeNumber_2 (143, .getfield 126, 3) (List.mem_of_getElem? (i := 13) rfl)) ow_X9_takeNumber fl9_126 rfl, ?_⟩
  refine List.forall_mem_cons.mpr ⟨s_i2l (dd_X9_takeNumber_2 (146, .i2l, 1) (List.mem_of_getElem? (i := 14) rfl)), ?_⟩
  refine List.forall_mem_cons.mpr ⟨s_iload_n (dd_X9_takeNumber_2 (147, .iload_n 1, 1) (List.mem_of_getElem? (i := 15) rfl)) rfl, ?_⟩
  refine List.forall_mem_cons.mpr ⟨s_i2l (dd_X9_takeNumber_2 (148, .i2l, 1) (List.mem_of_getElem? (i := 16) rfl)), ?_⟩
  refine List.forall_mem_cons.mpr ⟨s_iload_n (dd_X9_takeNumber_2 (149, .iload_n 2, 1) (List.mem_of_getElem? (i := 17) rfl)) rfl, ?_⟩
  refine List.forall_mem_cons.mpr ⟨s_i2l (dd_X9_takeNumber_2 (150, .i2l, 1) (List.mem_of_getElem? (i := 18) rfl)), ?_⟩
  refine List.forall_mem_cons.mpr ⟨⟨s_callS mo118 rfl (dd_X9_takeNumber_2 (151, .invokestatic 94, 3) (List.mem_of_getElem? (i := 19) rfl)) ow_X9_takeNumber ml9_94 ms118 mn118, mo118⟩, ?_⟩
  refine List.forall_mem_cons.mpr ⟨s_if_ne (dd_X9_takeNumber_2 (154, .ifCond .ne 15, 3) (List.mem_of_getElem? (i := 20) rfl)) (by decide), ?_⟩
  refine List.forall_mem_cons.mpr ⟨s_aload_n (dd_X9_takeNumber_2 (157, .aload_n 0, 1) (List.mem_of_getElem? (i := 21) rfl)) rfl, ?_⟩
  refine List.forall_mem_cons.mpr ⟨s_iconst (dd_X9_takeNumber_2 (158, .iconst 2, 1) (List.mem_of_getElem? (i := 22) rfl)) rfl, ?_⟩
  refine List.forall_mem_cons.mpr ⟨s_aload_n (dd_X9_takeNumber_2 (159, .aload_n 0, 1) (List.mem_of_getElem? (i := 23) rfl)) rfl, ?_⟩
  refine List.forall_mem_cons.mpr ⟨s_getI (k := 16) K9 (by decide) (dd_X9_takeNumber_2 (160, .getfield 123, 3) (List.mem_of_getElem? (i := 24) rfl)) ow_X9_takeNumber fl9_123 rfl, ?_⟩
  refine List.forall_mem_cons.mpr ⟨⟨s_callV (ci := 9) rfl mo124 rfl rfl (dd_X9_takeNumber_2 (163, .invokevirtual 119, 3) (List.mem_of_getElem? (i := 25) rfl)) ow_X9_takeNumber ml9_119 mi124 msl124 in_9 mn124, mo124⟩, ?_⟩
  refine List.forall_mem_cons.mpr ⟨s_goto (dd_X9_takeNumber_2 (166, .goto 4, 3) (List.mem_of_getElem? (i := 26) rfl)) (by decide), ?_⟩
  refine List.forall_mem_cons.mpr ⟨s_iconst (dd_X9_takeNumber_2 (169, .iconst 0, 1) (List.mem_of_getElem? (i := 27) rfl)) rfl, ?_⟩
  refine List.forall_mem_cons.mpr ⟨Or.inr (Or.inl ⟨rfl, (dd_X9_takeNumber_2 (170, .ireturn, 1) (List.mem_of_getElem? (i := 28) rfl)), rfl⟩), ?_⟩
  exact fun _ h => absurd h List.not_mem_nil
theorem so_X9_takeNumber : ∀ e ∈ o_X9_takeNumber, SndO 125 e.1 e.2 := List.forall_mem_append.mpr ⟨so_X9_takeNumber_1, so_X9_takeNumber_2⟩
theorem ow_X9_into : (mtJ 126).1.cls = "SatchelSinsModel" := rfl
def D_X9_into : List (Nat × Instr × Nat) := [(0, .aload_n 0, 1), (1, .iload_n 3, 1), (2, .iload 4, 2), (4, .invokevirtual 129, 3), (7, .istore 5, 2), (9, .aload_n 1, 1), (10, .iload_n 2, 1), (11, .aload_n 0, 1), (12, .getfield 126, 3), (15, .iastore, 1), (16, .iload 5, 2), (18, .ireturn, 1)]
theorem dd_X9_into : ∀ e ∈ D_X9_into, decode (mtJ 126).2.1 e.1 = .ok e.2 := by decide +kernel
set_option maxRecDepth 10000 in
theorem so_X9_into : ∀ e ∈ o_X9_into, SndO 126 e.1 e.2 := by
  refine List.forall_mem_cons.mpr ⟨s_aload_n (dd_X9_into (0, .aload_n 0, 1) (List.mem_of_getElem? (i := 0) rfl)) rfl, ?_⟩
  refine List.forall_mem_cons.mpr ⟨s_iload_n (dd_X9_into (1, .iload_n 3, 1) (List.mem_of_getElem? (i := 1) rfl)) rfl, ?_⟩
  refine List.forall_mem_cons.mpr ⟨s_iload (dd_X9_into (2, .iload 4, 2) (List.mem_of_getElem? (i := 2) rfl)), ?_⟩
  refine List.forall_mem_cons.mpr ⟨⟨s_callV (ci := 9) rfl mo125 rfl rfl (dd_X9_into (4, .invokevirtual 129, 3) (List.mem_of_getElem? (i := 3) rfl)) ow_X9_into ml9_129 mi125 msl125 in_9 mn125, mo125⟩, ?_⟩
  refine List.forall_mem_cons.mpr ⟨s_istore (dd_X9_into (7, .istore 5, 2) (List.mem_of_getElem? (i := 4) rfl)), ?_⟩
  refine List.forall_mem_cons.mpr ⟨s_aload_n (dd_X9_into (9, .aload_n 1, 1) (List.mem_of_getElem? (i := 5) rfl)) rfl, ?_⟩
  refine List.forall_mem_cons.mpr ⟨s_iload_n (dd_X9_into (10, .iload_n 2, 1) (List.mem_of_getElem? (i := 6) rfl)) rfl, ?_⟩
  refine List.forall_mem_cons.mpr ⟨s_aload_n (dd_X9_into (11, .aload_n 0, 1) (List.mem_of_getElem? (i := 7) rfl)) rfl, ?_⟩
  refine List.forall_mem_cons.mpr ⟨s_getI (k := 15) K9 (by decide) (dd_X9_into (12, .getfield 126, 3) (List.mem_of_getElem? (i := 8) rfl)) ow_X9_into fl9_126 rfl, ?_⟩
  refine List.forall_mem_cons.mpr ⟨s_iast (dd_X9_into (15, .iastore, 1) (List.mem_of_getElem? (i := 9) rfl)), ?_⟩
  refine List.forall_mem_cons.mpr ⟨s_iload (dd_X9_into (16, .iload 5, 2) (List.mem_of_getElem? (i := 10) rfl)), ?_⟩
  refine List.forall_mem_cons.mpr ⟨Or.inr (Or.inl ⟨rfl, (dd_X9_into (18, .ireturn, 1) (List.mem_of_getElem? (i := 11) rfl)), rfl⟩), ?_⟩
  exact fun _ h => absurd h List.not_mem_nil
theorem ow_X9_takeBrook : (mtJ 127).1.cls = "SatchelSinsModel" := rfl
def D_X9_takeBrook : List (Nat × Instr × Nat) := [(0, .aload_n 0, 1), (1, .iconst 1, 1), (2, .putfield 132, 3), (5, .aload_n 0, 1), (6, .iconst 0, 1), (7, .sipush 999, 3), (10, .invokevirtual 129, 3), (13, .istore_n 1, 1), (14, .aload_n 0, 1), (15, .aload_n 0, 1), (16, .getfield 126, 3), (19, .putfield 135, 3), (22, .iload_n 1, 1), (23, .ireturn, 1)]
theorem dd_X9_takeBrook : ∀ e ∈ D_X9_takeBrook, decode (mtJ 127).2.1 e.1 = .ok e.2 := by decide +kernel
set_option maxRecDepth 10000 in
theorem so_X9_takeBrook : ∀ e ∈ o_X9_takeBrook, SndO 127 e.1 e.2 := by
  refine List.forall_mem_cons.mpr ⟨s_aload_n (dd_X9_takeBrook (0, .aload_n 0, 1) (List.mem_of_getElem? (i := 0) rfl)) rfl, ?_⟩
  refine List.forall_mem_cons.mpr ⟨s_iconst (dd_X9_takeBrook (1, .iconst 1, 1) (List.mem_of_getElem? (i := 1) rfl)) rfl, ?_⟩
  refine List.forall_mem_cons.mpr ⟨s_putZ (k := 17) K9 (by decide) (dd_X9_takeBrook (2, .putfield 132, 3) (List.mem_of_getElem? (i := 2) rfl)) ow_X9_takeBrook fl9_132 (Or.inl rfl) rfl, ?_⟩
  refine List.forall_mem_cons.mpr ⟨s_aload_n (dd_X9_takeBrook (5, .aload_n 0, 1) (List.mem_of_getElem? (i := 3) rfl)) rfl, ?_⟩
  refine List.forall_mem_cons.mpr ⟨s_iconst (dd_X9_takeBrook (6, .iconst 0, 1) (List.mem_of_getElem? (i := 4) rfl)) rfl, ?_⟩
  refine List.forall_mem_cons.mpr ⟨s_sipush (dd_X9_takeBrook (7, .sipush 999, 3) (List.mem_of_getElem? (i := 5) rfl)) rfl, ?_⟩
  refine List.forall_mem_cons.mpr ⟨⟨s_callV (ci := 9) rfl mo125 rfl rfl (dd_X9_takeBrook (10, .invokevirtual 129, 3) (List.mem_of_getElem? (i := 6) rfl)) ow_X9_takeBrook ml9_129 mi125 msl125 in_9 mn125, mo125⟩, ?_⟩
  refine List.forall_mem_cons.mpr ⟨s_istore_n (dd_X9_takeBrook (13, .istore_n 1, 1) (List.mem_of_getElem? (i := 7) rfl)) rfl, ?_⟩
  refine List.forall_mem_cons.mpr ⟨s_aload_n (dd_X9_takeBrook (14, .aload_n 0, 1) (List.mem_of_getElem? (i := 8) rfl)) rfl, ?_⟩
  refine List.forall_mem_cons.mpr ⟨s_aload_n (dd_X9_takeBrook (15, .aload_n 0, 1) (List.mem_of_getElem? (i := 9) rfl)) rfl, ?_⟩
  refine List.forall_mem_cons.mpr ⟨s_getI (k := 15) K9 (by decide) (dd_X9_takeBrook (16, .getfield 126, 3) (List.mem_of_getElem? (i := 10) rfl)) ow_X9_takeBrook fl9_126 rfl, ?_⟩
  refine List.forall_mem_cons.mpr ⟨s_putI (k := 18) K9 (by decide) (dd_X9_takeBrook (19, .putfield 135, 3) (List.mem_of_getElem? (i := 11) rfl)) ow_X9_takeBrook fl9_135 (Or.inl rfl) rfl, ?_⟩
  refine List.forall_mem_cons.mpr ⟨s_iload_n (dd_X9_takeBrook (22, .iload_n 1, 1) (List.mem_of_getElem? (i := 12) rfl)) rfl, ?_⟩
  refine List.forall_mem_cons.mpr ⟨Or.inr (Or.inl ⟨rfl, (dd_X9_takeBrook (23, .ireturn, 1) (List.mem_of_getElem? (i := 13) rfl)), rfl⟩), ?_⟩
  exact fun _ h => absurd h List.not_mem_nil

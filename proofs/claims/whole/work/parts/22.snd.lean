/-! every instruction, written by program -/
theorem ow_X4_readClause : (mtJ 49).1.cls = "SatchelSins$Reader" := rfl
def D_X4_readClause : List (Nat × Instr × Nat) := [(0, .aload_n 0, 1), (1, .invokevirtual 49, 3), (4, .istore_n 1, 1), (5, .aload_n 0, 1), (6, .getfield 15, 3), (9, .getfield 53, 3), (12, .ifCond .ne 19, 3), (15, .iload_n 1, 1), (16, .bipush 98, 2), (18, .if_icmp .eq 13, 3), (21, .aload_n 0, 1), (22, .iconst 1, 1), (23, .aload_n 0, 1), (24, .getfield 29, 3), (27, .invokevirtual 57, 3), (30, .return_, 1), (31, .iload_n 1, 1), (32, .tableswitch 72 98 104 #[44, 51, 58, 72, 72, 72, 65], 44), (76, .aload_n 0, 1), (77, .invokevirtual 61, 3), (80, .goto 33, 3), (83, .aload_n 0, 1), (84, .invokevirtual 64, 3), (87, .goto 26, 3), (90, .aload_n 0, 1), (91, .invokevirtual 67, 3), (94, .goto 19, 3), (97, .aload_n 0, 1), (98, .invokevirtual 70, 3), (101, .goto 12, 3), (104, .aload_n 0, 1), (105, .iconst 1, 1), (106, .aload_n 0, 1), (107, .getfield 29, 3), (110, .invokevirtual 57, 3), (113, .return_, 1)]
theorem dd_X4_readClause : ∀ e ∈ D_X4_readClause, decode (mtJ 49).2.1 e.1 = .ok e.2 := by decide +kernel
set_option maxRecDepth 10000 in
theorem so_X4_readClause : ∀ e ∈ o_X4_readClause, SndO 49 e.1 e.2 := by
  refine List.forall_mem_cons.mpr ⟨s_aload_n (dd_X4_readClause (0, .aload_n 0, 1) (List.mem_of_getElem? (i := 0) rfl)) rfl, ?_⟩
  refine List.forall_mem_cons.mpr ⟨⟨s_callV (ci := 4) rfl mo59 rfl rfl (dd_X4_readClause (1, .invokevirtual 49, 3) (List.mem_of_getElem? (i := 1) rfl)) ow_X4_readClause ml4_49 mi59 msl59 in_4 mn59, mo59⟩, ?_⟩
  refine List.forall_mem_cons.mpr ⟨s_istore_n (dd_X4_readClause (4, .istore_n 1, 1) (List.mem_of_getElem? (i := 2) rfl)) rfl, ?_⟩
  refine List.forall_mem_cons.mpr ⟨s_aload_n (dd_X4_readClause (5, .aload_n 0, 1) (List.mem_of_getElem? (i := 3) rfl)) rfl, ?_⟩
  refine List.forall_mem_cons.mpr ⟨s_getR (k := 1) K4 (by decide) (dd_X4_readClause (6, .getfield 15, 3) (List.mem_of_getElem? (i := 4) rfl)) ow_X4_readClause fl4_15 rfl, ?_⟩
  refine List.forall_mem_cons.mpr ⟨s_getI (k := 0) K5 (by decide) (dd_X4_readClause (9, .getfield 53, 3) (List.mem_of_getElem? (i := 5) rfl)) ow_X4_readClause fl4_53 rfl, ?_⟩
  refine List.forall_mem_cons.mpr ⟨s_if_ne (dd_X4_readClause (12, .ifCond .ne 19, 3) (List.mem_of_getElem? (i := 6) rfl)) (by decide), ?_⟩
  refine List.forall_mem_cons.mpr ⟨s_iload_n (dd_X4_readClause (15, .iload_n 1, 1) (List.mem_of_getElem? (i := 7) rfl)) rfl, ?_⟩
  refine List.forall_mem_cons.mpr ⟨s_bipush (dd_X4_readClause (16, .bipush 98, 2) (List.mem_of_getElem? (i := 8) rfl)) rfl, ?_⟩
  refine List.forall_mem_cons.mpr ⟨s_icmp_eq (dd_X4_readClause (18, .if_icmp .eq 13, 3) (List.mem_of_getElem? (i := 9) rfl)) (by decide), ?_⟩
  refine List.forall_mem_cons.mpr ⟨s_aload_n (dd_X4_readClause (21, .aload_n 0, 1) (List.mem_of_getElem? (i := 10) rfl)) rfl, ?_⟩
  refine List.forall_mem_cons.mpr ⟨s_iconst (dd_X4_readClause (22, .iconst 1, 1) (List.mem_of_getElem? (i := 11) rfl)) rfl, ?_⟩
  refine List.forall_mem_cons.mpr ⟨s_aload_n (dd_X4_readClause (23, .aload_n 0, 1) (List.mem_of_getElem? (i := 12) rfl)) rfl, ?_⟩
  refine List.forall_mem_cons.mpr ⟨s_getI (k := 3) K4 (by decide) (dd_X4_readClause (24, .getfield 29, 3) (List.mem_of_getElem? (i := 13) rfl)) ow_X4_readClause fl4_29 rfl, ?_⟩
  refine List.forall_mem_cons.mpr ⟨⟨s_callV (ci := 4) rfl mo60 rfl rfl (dd_X4_readClause (27, .invokevirtual 57, 3) (List.mem_of_getElem? (i := 14) rfl)) ow_X4_readClause ml4_57 mi60 msl60 in_4 mn60, mo60⟩, ?_⟩
  refine List.forall_mem_cons.mpr ⟨Or.inl ⟨rfl, (dd_X4_readClause (30, .return_, 1) (List.mem_of_getElem? (i := 15) rfl)), rfl⟩, ?_⟩
  refine List.forall_mem_cons.mpr ⟨s_iload_n (dd_X4_readClause (31, .iload_n 1, 1) (List.mem_of_getElem? (i := 16) rfl)) rfl, ?_⟩
  refine List.forall_mem_cons.mpr ⟨s_tsw (dd_X4_readClause (32, .tableswitch 72 98 104 #[44, 51, 58, 72, 72, 72, 65], 44) (List.mem_of_getElem? (i := 17) rfl)) (by decide) (by decide) (by decide), ?_⟩
  refine List.forall_mem_cons.mpr ⟨s_aload_n (dd_X4_readClause (76, .aload_n 0, 1) (List.mem_of_getElem? (i := 18) rfl)) rfl, ?_⟩
  refine List.forall_mem_cons.mpr ⟨⟨s_callV (ci := 4) rfl mo50 rfl rfl (dd_X4_readClause (77, .invokevirtual 61, 3) (List.mem_of_getElem? (i := 19) rfl)) ow_X4_readClause ml4_61 mi50 msl50 in_4 mn50, mo50⟩, ?_⟩
  refine List.forall_mem_cons.mpr ⟨s_goto (dd_X4_readClause (80, .goto 33, 3) (List.mem_of_getElem? (i := 20) rfl)) (by decide), ?_⟩
  refine List.forall_mem_cons.mpr ⟨s_aload_n (dd_X4_readClause (83, .aload_n 0, 1) (List.mem_of_getElem? (i := 21) rfl)) rfl, ?_⟩
  refine List.forall_mem_cons.mpr ⟨⟨s_callV (ci := 4) rfl mo51 rfl rfl (dd_X4_readClause (84, .invokevirtual 64, 3) (List.mem_of_getElem? (i := 22) rfl)) ow_X4_readClause ml4_64 mi51 msl51 in_4 mn51, mo51⟩, ?_⟩
  refine List.forall_mem_cons.mpr ⟨s_goto (dd_X4_readClause (87, .goto 26, 3) (List.mem_of_getElem? (i := 23) rfl)) (by decide), ?_⟩
  refine List.forall_mem_cons.mpr ⟨s_aload_n (dd_X4_readClause (90, .aload_n 0, 1) (List.mem_of_getElem? (i := 24) rfl)) rfl, ?_⟩
  refine List.forall_mem_cons.mpr ⟨⟨s_callV (ci := 4) rfl mo52 rfl rfl (dd_X4_readClause (91, .invokevirtual 67, 3) (List.mem_of_getElem? (i := 25) rfl)) ow_X4_readClause ml4_67 mi52 msl52 in_4 mn52, mo52⟩, ?_⟩
  refine List.forall_mem_cons.mpr ⟨s_goto (dd_X4_readClause (94, .goto 19, 3) (List.mem_of_getElem? (i := 26) rfl)) (by decide), ?_⟩
  refine List.forall_mem_cons.mpr ⟨s_aload_n (dd_X4_readClause (97, .aload_n 0, 1) (List.mem_of_getElem? (i := 27) rfl)) rfl, ?_⟩
  refine List.forall_mem_cons.mpr ⟨⟨s_callV (ci := 4) rfl mo53 rfl rfl (dd_X4_readClause (98, .invokevirtual 70, 3) (List.mem_of_getElem? (i := 28) rfl)) ow_X4_readClause ml4_70 mi53 msl53 in_4 mn53, mo53⟩, ?_⟩
  refine List.forall_mem_cons.mpr ⟨s_goto (dd_X4_readClause (101, .goto 12, 3) (List.mem_of_getElem? (i := 29) rfl)) (by decide), ?_⟩
  refine List.forall_mem_cons.mpr ⟨s_aload_n (dd_X4_readClause (104, .aload_n 0, 1) (List.mem_of_getElem? (i := 30) rfl)) rfl, ?_⟩
  refine List.forall_mem_cons.mpr ⟨s_iconst (dd_X4_readClause (105, .iconst 1, 1) (List.mem_of_getElem? (i := 31) rfl)) rfl, ?_⟩
  refine List.forall_mem_cons.mpr ⟨s_aload_n (dd_X4_readClause (106, .aload_n 0, 1) (List.mem_of_getElem? (i := 32) rfl)) rfl, ?_⟩
  refine List.forall_mem_cons.mpr ⟨s_getI (k := 3) K4 (by decide) (dd_X4_readClause (107, .getfield 29, 3) (List.mem_of_getElem? (i := 33) rfl)) ow_X4_readClause fl4_29 rfl, ?_⟩
  refine List.forall_mem_cons.mpr ⟨⟨s_callV (ci := 4) rfl mo60 rfl rfl (dd_X4_readClause (110, .invokevirtual 57, 3) (List.mem_of_getElem? (i := 34) rfl)) ow_X4_readClause ml4_57 mi60 msl60 in_4 mn60, mo60⟩, ?_⟩
  refine List.forall_mem_cons.mpr ⟨Or.inl ⟨rfl, (dd_X4_readClause (113, .return_, 1) (List.mem_of_getElem? (i := 35) rfl)), rfl⟩, ?_⟩
  exact fun _ h => absurd h List.not_mem_nil
theorem ow_X4_readBrook : (mtJ 50).1.cls = "SatchelSins$Reader" := rfl
def D_X4_readBrook : List (Nat × Instr × Nat) := [(0, .aload_n 0, 1), (1, .aload_n 0, 1), (2, .getfield 15, 3), (5, .getfield 53, 3), (8, .ifCond .ne 7, 3), (11, .iconst 1, 1), (12, .goto 4, 3), (15, .iconst 0, 1), (16, .invokevirtual 73, 3), (19, .aload_n 0, 1), (20, .getfield 15, 3), (23, .iconst 1, 1), (24, .putfield 53, 3), (27, .aload_n 0, 1), (28, .iconst 0, 1), (29, .sipush 999, 3), (32, .invokevirtual 77, 3), (35, .istore_n 1, 1), (36, .aload_n 0, 1), (37, .invokevirtual 80, 3), (40, .aload_n 0, 1), (41, .getfield 15, 3), (44, .iload_n 1, 1), (45, .putfield 83, 3), (48, .return_, 1)]
theorem dd_X4_readBrook : ∀ e ∈ D_X4_readBrook, decode (mtJ 50).2.1 e.1 = .ok e.2 := by decide +kernel
set_option maxRecDepth 10000 in
theorem so_X4_readBrook : ∀ e ∈ o_X4_readBrook, SndO 50 e.1 e.2 := by
  refine List.forall_mem_cons.mpr ⟨s_aload_n (dd_X4_readBrook (0, .aload_n 0, 1) (List.mem_of_getElem? (i := 0) rfl)) rfl, ?_⟩
  refine List.forall_mem_cons.mpr ⟨s_aload_n (dd_X4_readBrook (1, .aload_n 0, 1) (List.mem_of_getElem? (i := 1) rfl)) rfl, ?_⟩
  refine List.forall_mem_cons.mpr ⟨s_getR (k := 1) K4 (by decide) (dd_X4_readBrook (2, .getfield 15, 3) (List.mem_of_getElem? (i := 2) rfl)) ow_X4_readBrook fl4_15 rfl, ?_⟩
  refine List.forall_mem_cons.mpr ⟨s_getI (k := 0) K5 (by decide) (dd_X4_readBrook (5, .getfield 53, 3) (List.mem_of_getElem? (i := 3) rfl)) ow_X4_readBrook fl4_53 rfl, ?_⟩
  refine List.forall_mem_cons.mpr ⟨s_if_ne (dd_X4_readBrook (8, .ifCond .ne 7, 3) (List.mem_of_getElem? (i := 4) rfl)) (by decide), ?_⟩
  refine List.forall_mem_cons.mpr ⟨s_iconst (dd_X4_readBrook (11, .iconst 1, 1) (List.mem_of_getElem? (i := 5) rfl)) rfl, ?_⟩
  refine List.forall_mem_cons.mpr ⟨s_goto (dd_X4_readBrook (12, .goto 4, 3) (List.mem_of_getElem? (i := 6) rfl)) (by decide), ?_⟩
  refine List.forall_mem_cons.mpr ⟨s_iconst (dd_X4_readBrook (15, .iconst 0, 1) (List.mem_of_getElem? (i := 7) rfl)) rfl, ?_⟩
  refine List.forall_mem_cons.mpr ⟨⟨s_callV (ci := 4) rfl mo54 rfl rfl (dd_X4_readBrook (16, .invokevirtual 73, 3) (List.mem_of_getElem? (i := 8) rfl)) ow_X4_readBrook ml4_73 mi54 msl54 in_4 mn54, mo54⟩, ?_⟩
  refine List.forall_mem_cons.mpr ⟨s_aload_n (dd_X4_readBrook (19, .aload_n 0, 1) (List.mem_of_getElem? (i := 9) rfl)) rfl, ?_⟩
  refine List.forall_mem_cons.mpr ⟨s_getR (k := 1) K4 (by decide) (dd_X4_readBrook (20, .getfield 15, 3) (List.mem_of_getElem? (i := 10) rfl)) ow_X4_readBrook fl4_15 rfl, ?_⟩
  refine List.forall_mem_cons.mpr ⟨s_iconst (dd_X4_readBrook (23, .iconst 1, 1) (List.mem_of_getElem? (i := 11) rfl)) rfl, ?_⟩
  refine List.forall_mem_cons.mpr ⟨s_putZ (k := 0) K5 (by decide) (dd_X4_readBrook (24, .putfield 53, 3) (List.mem_of_getElem? (i := 12) rfl)) ow_X4_readBrook fl4_53 (Or.inl rfl) rfl, ?_⟩
  refine List.forall_mem_cons.mpr ⟨s_aload_n (dd_X4_readBrook (27, .aload_n 0, 1) (List.mem_of_getElem? (i := 13) rfl)) rfl, ?_⟩
  refine List.forall_mem_cons.mpr ⟨s_iconst (dd_X4_readBrook (28, .iconst 0, 1) (List.mem_of_getElem? (i := 14) rfl)) rfl, ?_⟩
  refine List.forall_mem_cons.mpr ⟨s_sipush (dd_X4_readBrook (29, .sipush 999, 3) (List.mem_of_getElem? (i := 15) rfl)) rfl, ?_⟩
  refine List.forall_mem_cons.mpr ⟨⟨s_callV (ci := 4) rfl mo56 rfl rfl (dd_X4_readBrook (32, .invokevirtual 77, 3) (List.mem_of_getElem? (i := 16) rfl)) ow_X4_readBrook ml4_77 mi56 msl56 in_4 mn56, mo56⟩, ?_⟩
  refine List.forall_mem_cons.mpr ⟨s_istore_n (dd_X4_readBrook (35, .istore_n 1, 1) (List.mem_of_getElem? (i := 17) rfl)) rfl, ?_⟩
  refine List.forall_mem_cons.mpr ⟨s_aload_n (dd_X4_readBrook (36, .aload_n 0, 1) (List.mem_of_getElem? (i := 18) rfl)) rfl, ?_⟩
  refine List.forall_mem_cons.mpr ⟨⟨s_callV (ci := 4) rfl mo55 rfl rfl (dd_X4_readBrook (37, .invokevirtual 80, 3) (List.mem_of_getElem? (i := 19) rfl)) ow_X4_readBrook ml4_80 mi55 msl55 in_4 mn55, mo55⟩, ?_⟩
  refine List.forall_mem_cons.mpr ⟨s_aload_n (dd_X4_readBrook (40, .aload_n 0, 1) (List.mem_of_getElem? (i := 20) rfl)) rfl, ?_⟩
  refine List.forall_mem_cons.mpr ⟨s_getR (k := 1) K4 (by decide) (dd_X4_readBrook (41, .getfield 15, 3) (List.mem_of_getElem? (i := 21) rfl)) ow_X4_readBrook fl4_15 rfl, ?_⟩
  refine List.forall_mem_cons.mpr ⟨s_iload_n (dd_X4_readBrook (44, .iload_n 1, 1) (List.mem_of_getElem? (i := 22) rfl)) rfl, ?_⟩
  refine List.forall_mem_cons.mpr ⟨s_putI (k := 1) K5 (by decide) (dd_X4_readBrook (45, .putfield 83, 3) (List.mem_of_getElem? (i := 23) rfl)) ow_X4_readBrook fl4_83 (Or.inl rfl) rfl, ?_⟩
  refine List.forall_mem_cons.mpr ⟨Or.inl ⟨rfl, (dd_X4_readBrook (48, .return_, 1) (List.mem_of_getElem? (i := 24) rfl)), rfl⟩, ?_⟩
  exact fun _ h => absurd h List.not_mem_nil
theorem ow_X4_readChild : (mtJ 51).1.cls = "SatchelSins$Reader" := rfl
def D_X4_readChild : List (Nat × Instr × Nat) := [(0, .aload_n 0, 1), (1, .aload_n 0, 1), (2, .getfield 15, 3), (5, .getfield 86, 3), (8, .iconst 5, 1), (9, .if_icmp .ge 7, 3), (12, .iconst 1, 1), (13, .goto 4, 3), (16, .iconst 0, 1), (17, .invokevirtual 73, 3), (20, .aload_n 0, 1), (21, .iconst 1, 1), (22, .bipush 99, 2), (24, .invokevirtual 77, 3), (27, .istore_n 1, 1), (28, .aload_n 0, 1), (29, .iconst 1, 1), (30, .bipush 99, 2), (32, .invokevirtual 77, 3), (35, .istore_n 2, 1), (36, .aload_n 0, 1), (37, .invokevirtual 80, 3), (40, .aload_n 0, 1), (41, .getfield 32, 3), (44, .ifCond .ne 12, 3), (47, .aload_n 0, 1), (48, .getfield 15, 3), (51, .iload_n 1, 1), (52, .iload_n 2, 1), (53, .invokevirtual 89, 3), (56, .return_, 1)]
theorem dd_X4_readChild : ∀ e ∈ D_X4_readChild, decode (mtJ 51).2.1 e.1 = .ok e.2 := by decide +kernel
set_option maxRecDepth 10000 in
theorem so_X4_readChild : ∀ e ∈ o_X4_readChild, SndO 51 e.1 e.2 := by
  refine List.forall_mem_cons.mpr ⟨s_aload_n (dd_X4_readChild (0, .aload_n 0, 1) (List.mem_of_getElem? (i := 0) rfl)) rfl, ?_⟩
  refine List.forall_mem_cons.mpr ⟨s_aload_n (dd_X4_readChild (1, .aload_n 0, 1) (List.mem_of_getElem? (i := 1) rfl)) rfl, ?_⟩
  refine List.forall_mem_cons.mpr ⟨s_getR (k := 1) K4 (by decide) (dd_X4_readChild (2, .getfield 15, 3) (List.mem_of_getElem? (i := 2) rfl)) ow_X4_readChild fl4_15 rfl, ?_⟩
  refine List.forall_mem_cons.mpr ⟨s_getI (k := 2) K5 (by decide) (dd_X4_readChild (5, .getfield 86, 3) (List.mem_of_getElem? (i := 3) rfl)) ow_X4_readChild fl4_86 rfl, ?_⟩
  refine List.forall_mem_cons.mpr ⟨s_iconst (dd_X4_readChild (8, .iconst 5, 1) (List.mem_of_getElem? (i := 4) rfl)) rfl, ?_⟩
  refine List.forall_mem_cons.mpr ⟨s_icmp_ge (dd_X4_readChild (9, .if_icmp .ge 7, 3) (List.mem_of_getElem? (i := 5) rfl)) (by decide), ?_⟩
  refine List.forall_mem_cons.mpr ⟨s_iconst (dd_X4_readChild (12, .iconst 1, 1) (List.mem_of_getElem? (i := 6) rfl)) rfl, ?_⟩
  refine List.forall_mem_cons.mpr ⟨s_goto (dd_X4_readChild (13, .goto 4, 3) (List.mem_of_getElem? (i := 7) rfl)) (by decide), ?_⟩
  refine List.forall_mem_cons.mpr ⟨s_iconst (dd_X4_readChild (16, .iconst 0, 1) (List.mem_of_getElem? (i := 8) rfl)) rfl, ?_⟩
  refine List.forall_mem_cons.mpr ⟨⟨s_callV (ci := 4) rfl mo54 rfl rfl (dd_X4_readChild (17, .invokevirtual 73, 3) (List.mem_of_getElem? (i := 9) rfl)) ow_X4_readChild ml4_73 mi54 msl54 in_4 mn54, mo54⟩, ?_⟩
  refine List.forall_mem_cons.mpr ⟨s_aload_n (dd_X4_readChild (20, .aload_n 0, 1) (List.mem_of_getElem? (i := 10) rfl)) rfl, ?_⟩
  refine List.forall_mem_cons.mpr ⟨s_iconst (dd_X4_readChild (21, .iconst 1, 1) (List.mem_of_getElem? (i := 11) rfl)) rfl, ?_⟩
  refine List.forall_mem_cons.mpr ⟨s_bipush (dd_X4_readChild (22, .bipush 99, 2) (List.mem_of_getElem? (i := 12) rfl)) rfl, ?_⟩
  refine List.forall_mem_cons.mpr ⟨⟨s_callV (ci := 4) rfl mo56 rfl rfl (dd_X4_readChild (24, .invokevirtual 77, 3) (List.mem_of_getElem? (i := 13) rfl)) ow_X4_readChild ml4_77 mi56 msl56 in_4 mn56, mo56⟩, ?_⟩
  refine List.forall_mem_cons.mpr ⟨s_istore_n (dd_X4_readChild (27, .istore_n 1, 1) (List.mem_of_getElem? (i := 14) rfl)) rfl, ?_⟩
  refine List.forall_mem_cons.mpr ⟨s_aload_n (dd_X4_readChild (28, .aload_n 0, 1) (List.mem_of_getElem? (i := 15) rfl)) rfl, ?_⟩
  refine List.forall_mem_cons.mpr ⟨s_iconst (dd_X4_readChild (29, .iconst 1, 1) (List.mem_of_getElem? (i := 16) rfl)) rfl, ?_⟩
  refine List.forall_mem_cons.mpr ⟨s_bipush (dd_X4_readChild (30, .bipush 99, 2) (List.mem_of_getElem? (i := 17) rfl)) rfl, ?_⟩
  refine List.forall_mem_cons.mpr ⟨⟨s_callV (ci := 4) rfl mo56 rfl rfl (dd_X4_readChild (32, .invokevirtual 77, 3) (List.mem_of_getElem? (i := 18) rfl)) ow_X4_readChild ml4_77 mi56 msl56 in_4 mn56, mo56⟩, ?_⟩
  refine List.forall_mem_cons.mpr ⟨s_istore_n (dd_X4_readChild (35, .istore_n 2, 1) (List.mem_of_getElem? (i := 19) rfl)) rfl, ?_⟩
  refine List.forall_mem_cons.mpr ⟨s_aload_n (dd_X4_readChild (36, .aload_n 0, 1) (List.mem_of_getElem? (i := 20) rfl)) rfl, ?_⟩
  refine List.forall_mem_cons.mpr ⟨⟨s_callV (ci := 4) rfl mo55 rfl rfl (dd_X4_readChild (37, .invokevirtual 80, 3) (List.mem_of_getElem? (i := 21) rfl)) ow_X4_readChild ml4_80 mi55 msl55 in_4 mn55, mo55⟩, ?_⟩
  refine List.forall_mem_cons.mpr ⟨s_aload_n (dd_X4_readChild (40, .aload_n 0, 1) (List.mem_of_getElem? (i := 22) rfl)) rfl, ?_⟩
  refine List.forall_mem_cons.mpr ⟨s_getI (k := 5) K4 (by decide) (dd_X4_readChild (41, .getfield 32, 3) (List.mem_of_getElem? (i := 23) rfl)) ow_X4_readChild fl4_32 rfl, ?_⟩
  refine List.forall_mem_cons.mpr ⟨s_if_ne (dd_X4_readChild (44, .ifCond .ne 12, 3) (List.mem_of_getElem? (i := 24) rfl)) (by decide), ?_⟩
  refine List.forall_mem_cons.mpr ⟨s_aload_n (dd_X4_readChild (47, .aload_n 0, 1) (List.mem_of_getElem? (i := 25) rfl)) rfl, ?_⟩
  refine List.forall_mem_cons.mpr ⟨s_getR (k := 1) K4 (by decide) (dd_X4_readChild (48, .getfield 15, 3) (List.mem_of_getElem? (i := 26) rfl)) ow_X4_readChild fl4_15 rfl, ?_⟩
  refine List.forall_mem_cons.mpr ⟨s_iload_n (dd_X4_readChild (51, .iload_n 1, 1) (List.mem_of_getElem? (i := 27) rfl)) rfl, ?_⟩
  refine List.forall_mem_cons.mpr ⟨s_iload_n (dd_X4_readChild (52, .iload_n 2, 1) (List.mem_of_getElem? (i := 28) rfl)) rfl, ?_⟩
  refine List.forall_mem_cons.mpr ⟨⟨s_callV (ci := 5) rfl mo64 rfl rfl (dd_X4_readChild (53, .invokevirtual 89, 3) (List.mem_of_getElem? (i := 29) rfl)) ow_X4_readChild ml4_89 mi64 msl64 in_5 mn64, mo64⟩, ?_⟩
  refine List.forall_mem_cons.mpr ⟨Or.inl ⟨rfl, (dd_X4_readChild (56, .return_, 1) (List.mem_of_getElem? (i := 30) rfl)), rfl⟩, ?_⟩
  exact fun _ h => absurd h List.not_mem_nil
theorem ow_X4_readDeed : (mtJ 52).1.cls = "SatchelSins$Reader" := rfl
def D_X4_readDeed : List (Nat × Instr × Nat) := [(0, .aload_n 0, 1), (1, .aload_n 0, 1), (2, .getfield 15, 3), (5, .getfield 92, 3), (8, .bipush 7, 2), (10, .if_icmp .ge 7, 3), (13, .iconst 1, 1), (14, .goto 4, 3), (17, .iconst 0, 1), (18, .invokevirtual 73, 3), (21, .aload_n 0, 1), (22, .iconst 0, 1), (23, .aload_n 0, 1), (24, .getfield 15, 3), (27, .getfield 86, 3), (30, .iconst 1, 1), (31, .isub, 1), (32, .invokevirtual 77, 3), (35, .istore_n 1, 1), (36, .aload_n 0, 1), (37, .iconst 1, 1), (38, .bipush 99, 2), (40, .invokevirtual 77, 3), (43, .istore_n 2, 1), (44, .aload_n 0, 1), (45, .invokevirtual 80, 3), (48, .aload_n 0, 1), (49, .getfield 32, 3), (52, .ifCond .ne 12, 3), (55, .aload_n 0, 1), (56, .getfield 15, 3), (59, .iload_n 1, 1), (60, .iload_n 2, 1), (61, .invokevirtual 95, 3), (64, .return_, 1)]
theorem dd_X4_readDeed : ∀ e ∈ D_X4_readDeed, decode (mtJ 52).2.1 e.1 = .ok e.2 := by decide +kernel
set_option maxRecDepth 10000 in
theorem so_X4_readDeed : ∀ e ∈ o_X4_readDeed, SndO 52 e.1 e.2 := by
  refine List.forall_mem_cons.mpr ⟨s_aload_n (dd_X4_readDeed (0, .aload_n 0, 1) (List.mem_of_getElem? (i := 0) rfl)) rfl, ?_⟩
  refine List.forall_mem_cons.mpr ⟨s_aload_n (dd_X4_readDeed (1, .aload_n 0, 1) (List.mem_of_getElem? (i := 1) rfl)) rfl, ?_⟩
  refine List.forall_mem_cons.mpr ⟨s_getR (k := 1) K4 (by decide) (dd_X4_readDeed (2, .getfield 15, 3) (List.mem_of_getElem? (i := 2) rfl)) ow_X4_readDeed fl4_15 rfl, ?_⟩
  refine List.forall_mem_cons.mpr ⟨s_getI (k := 3) K5 (by decide) (dd_X4_readDeed (5, .getfield 92, 3) (List.mem_of_getElem? (i := 3) rfl)) ow_X4_readDeed fl4_92 rfl, ?_⟩
  refine List.forall_mem_cons.mpr ⟨s_bipush (dd_X4_readDeed (8, .bipush 7, 2) (List.mem_of_getElem? (i := 4) rfl)) rfl, ?_⟩
  refine List.forall_mem_cons.mpr ⟨s_icmp_ge (dd_X4_readDeed (10, .if_icmp .ge 7, 3) (List.mem_of_getElem? (i := 5) rfl)) (by decide), ?_⟩
  refine List.forall_mem_cons.mpr ⟨s_iconst (dd_X4_readDeed (13, .iconst 1, 1) (List.mem_of_getElem? (i := 6) rfl)) rfl, ?_⟩
  refine List.forall_mem_cons.mpr ⟨s_goto (dd_X4_readDeed (14, .goto 4, 3) (List.mem_of_getElem? (i := 7) rfl)) (by decide), ?_⟩
  refine List.forall_mem_cons.mpr ⟨s_iconst (dd_X4_readDeed (17, .iconst 0, 1) (List.mem_of_getElem? (i := 8) rfl)) rfl, ?_⟩
  refine List.forall_mem_cons.mpr ⟨⟨s_callV (ci := 4) rfl mo54 rfl rfl (dd_X4_readDeed (18, .invokevirtual 73, 3) (List.mem_of_getElem? (i := 9) rfl)) ow_X4_readDeed ml4_73 mi54 msl54 in_4 mn54, mo54⟩, ?_⟩
  refine List.forall_mem_cons.mpr ⟨s_aload_n (dd_X4_readDeed (21, .aload_n 0, 1) (List.mem_of_getElem? (i := 10) rfl)) rfl, ?_⟩
  refine List.forall_mem_cons.mpr ⟨s_iconst (dd_X4_readDeed (22, .iconst 0, 1) (List.mem_of_getElem? (i := 11) rfl)) rfl, ?_⟩
  refine List.forall_mem_cons.mpr ⟨s_aload_n (dd_X4_readDeed (23, .aload_n 0, 1) (List.mem_of_getElem? (i := 12) rfl)) rfl, ?_⟩
  refine List.forall_mem_cons.mpr ⟨s_getR (k := 1) K4 (by decide) (dd_X4_readDeed (24, .getfield 15, 3) (List.mem_of_getElem? (i := 13) rfl)) ow_X4_readDeed fl4_15 rfl, ?_⟩
  refine List.forall_mem_cons.mpr ⟨s_getI (k := 2) K5 (by decide) (dd_X4_readDeed (27, .getfield 86, 3) (List.mem_of_getElem? (i := 14) rfl)) ow_X4_readDeed fl4_86 rfl, ?_⟩
  refine List.forall_mem_cons.mpr ⟨s_iconst (dd_X4_readDeed (30, .iconst 1, 1) (List.mem_of_getElem? (i := 15) rfl)) rfl, ?_⟩
  refine List.forall_mem_cons.mpr ⟨s_isub (dd_X4_readDeed (31, .isub, 1) (List.mem_of_getElem? (i := 16) rfl)), ?_⟩
  refine List.forall_mem_cons.mpr ⟨⟨s_callV (ci := 4) rfl mo56 rfl rfl (dd_X4_readDeed (32, .invokevirtual 77, 3) (List.mem_of_getElem? (i := 17) rfl)) ow_X4_readDeed ml4_77 mi56 msl56 in_4 mn56, mo56⟩, ?_⟩
  refine List.forall_mem_cons.mpr ⟨s_istore_n (dd_X4_readDeed (35, .istore_n 1, 1) (List.mem_of_getElem? (i := 18) rfl)) rfl, ?_⟩
  refine List.forall_mem_cons.mpr ⟨s_aload_n (dd_X4_readDeed (36, .aload_n 0, 1) (List.mem_of_getElem? (i := 19) rfl)) rfl, ?_⟩
  refine List.forall_mem_cons.mpr ⟨s_iconst (dd_X4_readDeed (37, .iconst 1, 1) (List.mem_of_getElem? (i := 20) rfl)) rfl, ?_⟩
  refine List.forall_mem_cons.mpr ⟨s_bipush (dd_X4_readDeed (38, .bipush 99, 2) (List.mem_of_getElem? (i := 21) rfl)) rfl, ?_⟩
  refine List.forall_mem_cons.mpr ⟨⟨s_callV (ci := 4) rfl mo56 rfl rfl (dd_X4_readDeed (40, .invokevirtual 77, 3) (List.mem_of_getElem? (i := 22) rfl)) ow_X4_readDeed ml4_77 mi56 msl56 in_4 mn56, mo56⟩, ?_⟩
  refine List.forall_mem_cons.mpr ⟨s_istore_n (dd_X4_readDeed (43, .istore_n 2, 1) (List.mem_of_getElem? (i := 23) rfl)) rfl, ?_⟩
  refine List.forall_mem_cons.mpr ⟨s_aload_n (dd_X4_readDeed (44, .aload_n 0, 1) (List.mem_of_getElem? (i := 24) rfl)) rfl, ?_⟩
  refine List.forall_mem_cons.mpr ⟨⟨s_callV (ci := 4) rfl mo55 rfl rfl (dd_X4_readDeed (45, .invokevirtual 80, 3) (List.mem_of_getElem? (i := 25) rfl)) ow_X4_readDeed ml4_80 mi55 msl55 in_4 mn55, mo55⟩, ?_⟩
  refine List.forall_mem_cons.mpr ⟨s_aload_n (dd_X4_readDeed (48, .aload_n 0, 1) (List.mem_of_getElem? (i := 26) rfl)) rfl, ?_⟩
  refine List.forall_mem_cons.mpr ⟨s_getI (k := 5) K4 (by decide) (dd_X4_readDeed (49, .getfield 32, 3) (List.mem_of_getElem? (i := 27) rfl)) ow_X4_readDeed fl4_32 rfl, ?_⟩
  refine List.forall_mem_cons.mpr ⟨s_if_ne (dd_X4_readDeed (52, .ifCond .ne 12, 3) (List.mem_of_getElem? (i := 28) rfl)) (by decide), ?_⟩
  refine List.forall_mem_cons.mpr ⟨s_aload_n (dd_X4_readDeed (55, .aload_n 0, 1) (List.mem_of_getElem? (i := 29) rfl)) rfl, ?_⟩
  refine List.forall_mem_cons.mpr ⟨s_getR (k := 1) K4 (by decide) (dd_X4_readDeed (56, .getfield 15, 3) (List.mem_of_getElem? (i := 30) rfl)) ow_X4_readDeed fl4_15 rfl, ?_⟩
  refine List.forall_mem_cons.mpr ⟨s_iload_n (dd_X4_readDeed (59, .iload_n 1, 1) (List.mem_of_getElem? (i := 31) rfl)) rfl, ?_⟩
  refine List.forall_mem_cons.mpr ⟨s_iload_n (dd_X4_readDeed (60, .iload_n 2, 1) (List.mem_of_getElem? (i := 32) rfl)) rfl, ?_⟩
  refine List.forall_mem_cons.mpr ⟨⟨s_callV (ci := 5) rfl mo65 rfl rfl (dd_X4_readDeed (61, .invokevirtual 95, 3) (List.mem_of_getElem? (i := 33) rfl)) ow_X4_readDeed ml4_95 mi65 msl65 in_5 mn65, mo65⟩, ?_⟩
  refine List.forall_mem_cons.mpr ⟨Or.inl ⟨rfl, (dd_X4_readDeed (64, .return_, 1) (List.mem_of_getElem? (i := 34) rfl)), rfl⟩, ?_⟩
  exact fun _ h => absurd h List.not_mem_nil
theorem ow_X4_readHanding : (mtJ 53).1.cls = "SatchelSins$Reader" := rfl
def D_X4_readHanding : List (Nat × Instr × Nat) := [(0, .aload_n 0, 1), (1, .iconst 1, 1), (2, .invokevirtual 73, 3), (5, .aload_n 0, 1), (6, .iconst 0, 1), (7, .aload_n 0, 1), (8, .getfield 15, 3), (11, .getfield 86, 3), (14, .iconst 1, 1), (15, .isub, 1), (16, .invokevirtual 77, 3), (19, .istore_n 1, 1), (20, .aload_n 0, 1), (21, .iconst 0, 1), (22, .aload_n 0, 1), (23, .getfield 15, 3), (26, .getfield 86, 3), (29, .iconst 1, 1), (30, .isub, 1), (31, .invokevirtual 77, 3), (34, .istore_n 2, 1), (35, .aload_n 0, 1), (36, .getfield 32, 3), (39, .ifCond .ne 24, 3), (42, .aload_n 0, 1), (43, .getfield 15, 3), (46, .iload_n 1, 1), (47, .iload_n 2, 1), (48, .invokevirtual 98, 3), (51, .ifCond .ne 12, 3), (54, .aload_n 0, 1), (55, .iconst 4, 1), (56, .aload_n 0, 1), (57, .getfield 102, 3), (60, .invokevirtual 57, 3), (63, .aload_n 0, 1), (64, .invokevirtual 80, 3), (67, .aload_n 0, 1), (68, .getfield 32, 3), (71, .ifCond .ne 13, 3), (74, .aload_n 0, 1), (75, .getfield 15, 3), (78, .getfield 105, 3), (81, .iload_n 2, 1), (82, .iload_n 1, 1), (83, .iastore, 1), (84, .return_, 1)]
theorem dd_X4_readHanding : ∀ e ∈ D_X4_readHanding, decode (mtJ 53).2.1 e.1 = .ok e.2 := by decide +kernel
set_option maxRecDepth 10000 in
theorem so_X4_readHanding : ∀ e ∈ o_X4_readHanding, SndO 53 e.1 e.2 := by
  refine List.forall_mem_cons.mpr ⟨s_aload_n (dd_X4_readHanding (0, .aload_n 0, 1) (List.mem_of_getElem? (i := 0) rfl)) rfl, ?_⟩
  refine List.forall_mem_cons.mpr ⟨s_iconst (dd_X4_readHanding (1, .iconst 1, 1) (List.mem_of_getElem? (i := 1) rfl)) rfl, ?_⟩
  refine List.forall_mem_cons.mpr ⟨⟨s_callV (ci := 4) rfl mo54 rfl rfl (dd_X4_readHanding (2, .invokevirtual 73, 3) (List.mem_of_getElem? (i := 2) rfl)) ow_X4_readHanding ml4_73 mi54 msl54 in_4 mn54, mo54⟩, ?_⟩
  refine List.forall_mem_cons.mpr ⟨s_aload_n (dd_X4_readHanding (5, .aload_n 0, 1) (List.mem_of_getElem? (i := 3) rfl)) rfl, ?_⟩
  refine List.forall_mem_cons.mpr ⟨s_iconst (dd_X4_readHanding (6, .iconst 0, 1) (List.mem_of_getElem? (i := 4) rfl)) rfl, ?_⟩
  refine List.forall_mem_cons.mpr ⟨s_aload_n (dd_X4_readHanding (7, .aload_n 0, 1) (List.mem_of_getElem? (i := 5) rfl)) rfl, ?_⟩
  refine List.forall_mem_cons.mpr ⟨s_getR (k := 1) K4 (by decide) (dd_X4_readHanding (8, .getfield 15, 3) (List.mem_of_getElem? (i := 6) rfl)) ow_X4_readHanding fl4_15 rfl, ?_⟩
  refine List.forall_mem_cons.mpr ⟨s_getI (k := 2) K5 (by decide) (dd_X4_readHanding (11, .getfield 86, 3) (List.mem_of_getElem? (i := 7) rfl)) ow_X4_readHanding fl4_86 rfl, ?_⟩
  refine List.forall_mem_cons.mpr ⟨s_iconst (dd_X4_readHanding (14, .iconst 1, 1) (List.mem_of_getElem? (i := 8) rfl)) rfl, ?_⟩
  refine List.forall_mem_cons.mpr ⟨s_isub (dd_X4_readHanding (15, .isub, 1) (List.mem_of_getElem? (i := 9) rfl)), ?_⟩
  refine List.forall_mem_cons.mpr ⟨⟨s_callV (ci := 4) rfl mo56 rfl rfl (dd_X4_readHanding (16, .invokevirtual 77, 3) (List.mem_of_getElem? (i := 10) rfl)) ow_X4_readHanding ml4_77 mi56 msl56 in_4 mn56, mo56⟩, ?_⟩
  refine List.forall_mem_cons.mpr ⟨s_istore_n (dd_X4_readHanding (19, .istore_n 1, 1) (List.mem_of_getElem? (i := 11) rfl)) rfl, ?_⟩
  refine List.forall_mem_cons.mpr ⟨s_aload_n (dd_X4_readHanding (20, .aload_n 0, 1) (List.mem_of_getElem? (i := 12) rfl)) rfl, ?_⟩
  refine List.forall_mem_cons.mpr ⟨s_iconst (dd_X4_readHanding (21, .iconst 0, 1) (List.mem_of_getElem? (i := 13) rfl)) rfl, ?_⟩
  refine List.forall_mem_cons.mpr ⟨s_aload_n (dd_X4_readHanding (22, .aload_n 0, 1) (List.mem_of_getElem? (i := 14) rfl)) rfl, ?_⟩
  refine List.forall_mem_cons.mpr ⟨s_getR (k := 1) K4 (by decide) (dd_X4_readHanding (23, .getfield 15, 3) (List.mem_of_getElem? (i := 15) rfl)) ow_X4_readHanding fl4_15 rfl, ?_⟩
  refine List.forall_mem_cons.mpr ⟨s_getI (k := 2) K5 (by decide) (dd_X4_readHanding (26, .getfield 86, 3) (List.mem_of_getElem? (i := 16) rfl)) ow_X4_readHanding fl4_86 rfl, ?_⟩
  refine List.forall_mem_cons.mpr ⟨s_iconst (dd_X4_readHanding (29, .iconst 1, 1) (List.mem_of_getElem? (i := 17) rfl)) rfl, ?_⟩
  refine List.forall_mem_cons.mpr ⟨s_isub (dd_X4_readHanding (30, .isub, 1) (List.mem_of_getElem? (i := 18) rfl)), ?_⟩
  refine List.forall_mem_cons.mpr ⟨⟨s_callV (ci := 4) rfl mo56 rfl rfl (dd_X4_readHanding (31, .invokevirtual 77, 3) (List.mem_of_getElem? (i := 19) rfl)) ow_X4_readHanding ml4_77 mi56 msl56 in_4 mn56, mo56⟩, ?_⟩
  refine List.forall_mem_cons.mpr ⟨s_istore_n (dd_X4_readHanding (34, .istore_n 2, 1) (List.mem_of_getElem? (i := 20) rfl)) rfl, ?_⟩
  refine List.forall_mem_cons.mpr ⟨s_aload_n (dd_X4_readHanding (35, .aload_n 0, 1) (List.mem_of_getElem? (i := 21) rfl)) rfl, ?_⟩
  refine List.forall_mem_cons.mpr ⟨s_getI (k := 5) K4 (by decide) (dd_X4_readHanding (36, .getfield 32, 3) (List.mem_of_getElem? (i := 22) rfl)) ow_X4_readHanding fl4_32 rfl, ?_⟩
  refine List.forall_mem_cons.mpr ⟨s_if_ne (dd_X4_readHanding (39, .ifCond .ne 24, 3) (List.mem_of_getElem? (i := 23) rfl)) (by decide), ?_⟩
  refine List.forall_mem_cons.mpr ⟨s_aload_n (dd_X4_readHanding (42, .aload_n 0, 1) (List.mem_of_getElem? (i := 24) rfl)) rfl, ?_⟩
  refine List.forall_mem_cons.mpr ⟨s_getR (k := 1) K4 (by decide) (dd_X4_readHanding (43, .getfield 15, 3) (List.mem_of_getElem? (i := 25) rfl)) ow_X4_readHanding fl4_15 rfl, ?_⟩
  refine List.forall_mem_cons.mpr ⟨s_iload_n (dd_X4_readHanding (46, .iload_n 1, 1) (List.mem_of_getElem? (i := 26) rfl)) rfl, ?_⟩
  refine List.forall_mem_cons.mpr ⟨s_iload_n (dd_X4_readHanding (47, .iload_n 2, 1) (List.mem_of_getElem? (i := 27) rfl)) rfl, ?_⟩
  refine List.forall_mem_cons.mpr ⟨⟨s_callV (ci := 5) rfl mo69 rfl rfl (dd_X4_readHanding (48, .invokevirtual 98, 3) (List.mem_of_getElem? (i := 28) rfl)) ow_X4_readHanding ml4_98 mi69 msl69 in_5 mn69, mo69⟩, ?_⟩
  refine List.forall_mem_cons.mpr ⟨s_if_ne (dd_X4_readHanding (51, .ifCond .ne 12, 3) (List.mem_of_getElem? (i := 29) rfl)) (by decide), ?_⟩
  refine List.forall_mem_cons.mpr ⟨s_aload_n (dd_X4_readHanding (54, .aload_n 0, 1) (List.mem_of_getElem? (i := 30) rfl)) rfl, ?_⟩
  refine List.forall_mem_cons.mpr ⟨s_iconst (dd_X4_readHanding (55, .iconst 4, 1) (List.mem_of_getElem? (i := 31) rfl)) rfl, ?_⟩
  refine List.forall_mem_cons.mpr ⟨s_aload_n (dd_X4_readHanding (56, .aload_n 0, 1) (List.mem_of_getElem? (i := 32) rfl)) rfl, ?_⟩
  refine List.forall_mem_cons.mpr ⟨s_getI (k := 4) K4 (by decide) (dd_X4_readHanding (57, .getfield 102, 3) (List.mem_of_getElem? (i := 33) rfl)) ow_X4_readHanding fl4_102 rfl, ?_⟩
  refine List.forall_mem_cons.mpr ⟨⟨s_callV (ci := 4) rfl mo60 rfl rfl (dd_X4_readHanding (60, .invokevirtual 57, 3) (List.mem_of_getElem? (i := 34) rfl)) ow_X4_readHanding ml4_57 mi60 msl60 in_4 mn60, mo60⟩, ?_⟩
  refine List.forall_mem_cons.mpr ⟨s_aload_n (dd_X4_readHanding (63, .aload_n 0, 1) (List.mem_of_getElem? (i := 35) rfl)) rfl, ?_⟩
  refine List.forall_mem_cons.mpr ⟨⟨s_callV (ci := 4) rfl mo55 rfl rfl (dd_X4_readHanding (64, .invokevirtual 80, 3) (List.mem_of_getElem? (i := 36) rfl)) ow_X4_readHanding ml4_80 mi55 msl55 in_4 mn55, mo55⟩, ?_⟩
  refine List.forall_mem_cons.mpr ⟨s_aload_n (dd_X4_readHanding (67, .aload_n 0, 1) (List.mem_of_getElem? (i := 37) rfl)) rfl, ?_⟩
  refine List.forall_mem_cons.mpr ⟨s_getI (k := 5) K4 (by decide) (dd_X4_readHanding (68, .getfield 32, 3) (List.mem_of_getElem? (i := 38) rfl)) ow_X4_readHanding fl4_32 rfl, ?_⟩
  refine List.forall_mem_cons.mpr ⟨s_if_ne (dd_X4_readHanding (71, .ifCond .ne 13, 3) (List.mem_of_getElem? (i := 39) rfl)) (by decide), ?_⟩
  refine List.forall_mem_cons.mpr ⟨s_aload_n (dd_X4_readHanding (74, .aload_n 0, 1) (List.mem_of_getElem? (i := 40) rfl)) rfl, ?_⟩
  refine List.forall_mem_cons.mpr ⟨s_getR (k := 1) K4 (by decide) (dd_X4_readHanding (75, .getfield 15, 3) (List.mem_of_getElem? (i := 41) rfl)) ow_X4_readHanding fl4_15 rfl, ?_⟩
  refine List.forall_mem_cons.mpr ⟨s_getR (k := 6) K5 (by decide) (dd_X4_readHanding (78, .getfield 105, 3) (List.mem_of_getElem? (i := 42) rfl)) ow_X4_readHanding fl4_105 rfl, ?_⟩
  refine List.forall_mem_cons.mpr ⟨s_iload_n (dd_X4_readHanding (81, .iload_n 2, 1) (List.mem_of_getElem? (i := 43) rfl)) rfl, ?_⟩
  refine List.forall_mem_cons.mpr ⟨s_iload_n (dd_X4_readHanding (82, .iload_n 1, 1) (List.mem_of_getElem? (i := 44) rfl)) rfl, ?_⟩
  refine List.forall_mem_cons.mpr ⟨s_iast (dd_X4_readHanding (83, .iastore, 1) (List.mem_of_getElem? (i := 45) rfl)), ?_⟩
  refine List.forall_mem_cons.mpr ⟨Or.inl ⟨rfl, (dd_X4_readHanding (84, .return_, 1) (List.mem_of_getElem? (i := 46) rfl)), rfl⟩, ?_⟩
  exact fun _ h => absurd h List.not_mem_nil
theorem ow_X4_takeWord : (mtJ 54).1.cls = "SatchelSins$Reader" := rfl
def D_X4_takeWord : List (Nat × Instr × Nat) := [(0, .iload_n 1, 1), (1, .ifCond .ne 12, 3), (4, .aload_n 0, 1), (5, .iconst 3, 1), (6, .aload_n 0, 1), (7, .getfield 29, 3), (10, .invokevirtual 57, 3), (13, .aload_n 0, 1), (14, .dup, 1), (15, .getfield 29, 3), (18, .iconst 1, 1), (19, .iadd, 1), (20, .putfield 29, 3), (23, .return_, 1)]
theorem dd_X4_takeWord : ∀ e ∈ D_X4_takeWord, decode (mtJ 54).2.1 e.1 = .ok e.2 := by decide +kernel
set_option maxRecDepth 10000 in
theorem so_X4_takeWord : ∀ e ∈ o_X4_takeWord, SndO 54 e.1 e.2 := by
  refine List.forall_mem_cons.mpr ⟨s_iload_n (dd_X4_takeWord (0, .iload_n 1, 1) (List.mem_of_getElem? (i := 0) rfl)) rfl, ?_⟩
  refine List.forall_mem_cons.mpr ⟨s_if_ne (dd_X4_takeWord (1, .ifCond .ne 12, 3) (List.mem_of_getElem? (i := 1) rfl)) (by decide), ?_⟩
  refine List.forall_mem_cons.mpr ⟨s_aload_n (dd_X4_takeWord (4, .aload_n 0, 1) (List.mem_of_getElem? (i := 2) rfl)) rfl, ?_⟩
  refine List.forall_mem_cons.mpr ⟨s_iconst (dd_X4_takeWord (5, .iconst 3, 1) (List.mem_of_getElem? (i := 3) rfl)) rfl, ?_⟩
  refine List.forall_mem_cons.mpr ⟨s_aload_n (dd_X4_takeWord (6, .aload_n 0, 1) (List.mem_of_getElem? (i := 4) rfl)) rfl, ?_⟩
  refine List.forall_mem_cons.mpr ⟨s_getI (k := 3) K4 (by decide) (dd_X4_takeWord (7, .getfield 29, 3) (List.mem_of_getElem? (i := 5) rfl)) ow_X4_takeWord fl4_29 rfl, ?_⟩
  refine List.forall_mem_cons.mpr ⟨⟨s_callV (ci := 4) rfl mo60 rfl rfl (dd_X4_takeWord (10, .invokevirtual 57, 3) (List.mem_of_getElem? (i := 6) rfl)) ow_X4_takeWord ml4_57 mi60 msl60 in_4 mn60, mo60⟩, ?_⟩
  refine List.forall_mem_cons.mpr ⟨s_aload_n (dd_X4_takeWord (13, .aload_n 0, 1) (List.mem_of_getElem? (i := 7) rfl)) rfl, ?_⟩
  refine List.forall_mem_cons.mpr ⟨s_dup (dd_X4_takeWord (14, .dup, 1) (List.mem_of_getElem? (i := 8) rfl)), ?_⟩
  refine List.forall_mem_cons.mpr ⟨s_getI (k := 3) K4 (by decide) (dd_X4_takeWord (15, .getfield 29, 3) (List.mem_of_getElem? (i := 9) rfl)) ow_X4_takeWord fl4_29 rfl, ?_⟩
  refine List.forall_mem_cons.mpr ⟨s_iconst (dd_X4_takeWord (18, .iconst 1, 1) (List.mem_of_getElem? (i := 10) rfl)) rfl, ?_⟩
  refine List.forall_mem_cons.mpr ⟨s_iadd (dd_X4_takeWord (19, .iadd, 1) (List.mem_of_getElem? (i := 11) rfl)), ?_⟩
  refine List.forall_mem_cons.mpr ⟨s_putI (k := 3) K4 (by decide) (dd_X4_takeWord (20, .putfield 29, 3) (List.mem_of_getElem? (i := 12) rfl)) ow_X4_takeWord fl4_29 (Or.inl rfl) rfl, ?_⟩
  refine List.forall_mem_cons.mpr ⟨Or.inl ⟨rfl, (dd_X4_takeWord (23, .return_, 1) (List.mem_of_getElem? (i := 13) rfl)), rfl⟩, ?_⟩
  exact fun _ h => absurd h List.not_mem_nil
theorem ow_X4_readEnd : (mtJ 55).1.cls = "SatchelSins$Reader" := rfl
def D_X4_readEnd : List (Nat × Instr × Nat) := [(0, .aload_n 0, 1), (1, .invokevirtual 43, 3), (4, .aload_n 0, 1), (5, .invokevirtual 49, 3), (8, .bipush 59, 2), (10, .if_icmp .eq 12, 3), (13, .aload_n 0, 1), (14, .iconst 1, 1), (15, .aload_n 0, 1), (16, .getfield 29, 3), (19, .invokevirtual 57, 3), (22, .aload_n 0, 1), (23, .dup, 1), (24, .getfield 29, 3), (27, .iconst 1, 1), (28, .iadd, 1), (29, .putfield 29, 3), (32, .return_, 1)]
theorem dd_X4_readEnd : ∀ e ∈ D_X4_readEnd, decode (mtJ 55).2.1 e.1 = .ok e.2 := by decide +kernel
set_option maxRecDepth 10000 in
theorem so_X4_readEnd : ∀ e ∈ o_X4_readEnd, SndO 55 e.1 e.2 := by
  refine List.forall_mem_cons.mpr ⟨s_aload_n (dd_X4_readEnd (0, .aload_n 0, 1) (List.mem_of_getElem? (i := 0) rfl)) rfl, ?_⟩
  refine List.forall_mem_cons.mpr ⟨⟨s_callV (ci := 4) rfl mo58 rfl rfl (dd_X4_readEnd (1, .invokevirtual 43, 3) (List.mem_of_getElem? (i := 1) rfl)) ow_X4_readEnd ml4_43 mi58 msl58 in_4 mn58, mo58⟩, ?_⟩
  refine List.forall_mem_cons.mpr ⟨s_aload_n (dd_X4_readEnd (4, .aload_n 0, 1) (List.mem_of_getElem? (i := 2) rfl)) rfl, ?_⟩
  refine List.forall_mem_cons.mpr ⟨⟨s_callV (ci := 4) rfl mo59 rfl rfl (dd_X4_readEnd (5, .invokevirtual 49, 3) (List.mem_of_getElem? (i := 3) rfl)) ow_X4_readEnd ml4_49 mi59 msl59 in_4 mn59, mo59⟩, ?_⟩
  refine List.forall_mem_cons.mpr ⟨s_bipush (dd_X4_readEnd (8, .bipush 59, 2) (List.mem_of_getElem? (i := 4) rfl)) rfl, ?_⟩
  refine List.forall_mem_cons.mpr ⟨s_icmp_eq (dd_X4_readEnd (10, .if_icmp .eq 12, 3) (List.mem_of_getElem? (i := 5) rfl)) (by decide), ?_⟩
  refine List.forall_mem_cons.mpr ⟨s_aload_n (dd_X4_readEnd (13, .aload_n 0, 1) (List.mem_of_getElem? (i := 6) rfl)) rfl, ?_⟩
  refine List.forall_mem_cons.mpr ⟨s_iconst (dd_X4_readEnd (14, .iconst 1, 1) (List.mem_of_getElem? (i := 7) rfl)) rfl, ?_⟩
  refine List.forall_mem_cons.mpr ⟨s_aload_n (dd_X4_readEnd (15, .aload_n 0, 1) (List.mem_of_getElem? (i := 8) rfl)) rfl, ?_⟩
  refine List.forall_mem_cons.mpr ⟨s_getI (k := 3) K4 (by decide) (dd_X4_readEnd (16, .getfield 29, 3) (List.mem_of_getElem? (i := 9) rfl)) ow_X4_readEnd fl4_29 rfl, ?_⟩
  refine List.forall_mem_cons.mpr ⟨⟨s_callV (ci := 4) rfl mo60 rfl rfl (dd_X4_readEnd (19, .invokevirtual 57, 3) (List.mem_of_getElem? (i := 10) rfl)) ow_X4_readEnd ml4_57 mi60 msl60 in_4 mn60, mo60⟩, ?_⟩
  refine List.forall_mem_cons.mpr ⟨s_aload_n (dd_X4_readEnd (22, .aload_n 0, 1) (List.mem_of_getElem? (i := 11) rfl)) rfl, ?_⟩
  refine List.forall_mem_cons.mpr ⟨s_dup (dd_X4_readEnd (23, .dup, 1) (List.mem_of_getElem? (i := 12) rfl)), ?_⟩
  refine List.forall_mem_cons.mpr ⟨s_getI (k := 3) K4 (by decide) (dd_X4_readEnd (24, .getfield 29, 3) (List.mem_of_getElem? (i := 13) rfl)) ow_X4_readEnd fl4_29 rfl, ?_⟩
  refine List.forall_mem_cons.mpr ⟨s_iconst (dd_X4_readEnd (27, .iconst 1, 1) (List.mem_of_getElem? (i := 14) rfl)) rfl, ?_⟩
  refine List.forall_mem_cons.mpr ⟨s_iadd (dd_X4_readEnd (28, .iadd, 1) (List.mem_of_getElem? (i := 15) rfl)), ?_⟩
  refine List.forall_mem_cons.mpr ⟨s_putI (k := 3) K4 (by decide) (dd_X4_readEnd (29, .putfield 29, 3) (List.mem_of_getElem? (i := 16) rfl)) ow_X4_readEnd fl4_29 (Or.inl rfl) rfl, ?_⟩
  refine List.forall_mem_cons.mpr ⟨Or.inl ⟨rfl, (dd_X4_readEnd (32, .return_, 1) (List.mem_of_getElem? (i := 17) rfl)), rfl⟩, ?_⟩
  exact fun _ h => absurd h List.not_mem_nil
theorem ow_X4_readNumber : (mtJ 56).1.cls = "SatchelSins$Reader" := rfl
def D_X4_readNumber_1 : List (Nat × Instr × Nat) := [(0, .aload_n 0, 1), (1, .invokevirtual 43, 3), (4, .aload_n 0, 1), (5, .aload_n 0, 1), (6, .getfield 29, 3), (9, .putfield 102, 3), (12, .iconst 0, 1), (13, .istore_n 3, 1), (14, .aload_n 0, 1), (15, .getfield 29, 3), (18, .aload_n 0, 1), (19, .getfield 25, 3), (22, .if_icmp .ge 53, 3), (25, .aload_n 0, 1), (26, .aload_n 0, 1), (27, .invokevirtual 49, 3), (30, .invokevirtual 108, 3), (33, .ifCond .eq 42, 3), (36, .aload_n 0, 1), (37, .getfield 29, 3), (40, .aload_n 0, 1), (41, .getfield 102, 3), (44, .isub, 1), (45, .iconst 3, 1), (46, .if_icmp .ge 16, 3), (49, .iload_n 3, 1), (50, .bipush 10, 2), (52, .imul, 1), (53, .aload_n 0, 1), (54, .invokevirtual 49, 3), (57, .iadd, 1), (58, .bipush 48, 2), (60, .isub, 1), (61, .istore_n 3, 1), (62, .aload_n 0, 1), (63, .dup, 1), (64, .getfield 29, 3), (67, .iconst 1, 1), (68, .iadd, 1), (69, .putfield 29, 3), (72, .goto (-58), 3), (75, .aload_n 0, 1), (76, .getfield 29, 3), (79, .aload_n 0, 1), (80, .getfield 102, 3), (83, .if_icmp .ne 15, 3), (86, .aload_n 0, 1), (87, .iconst 1, 1), (88, .aload_n 0, 1), (89, .getfield 29, 3), (92, .invokevirtual 57, 3), (95, .goto 35, 3), (98, .aload_n 0, 1), (99, .getfield 29, 3), (102, .aload_n 0, 1), (103, .getfield 102, 3), (106, .isub, 1), (107, .iconst 3, 1), (108, .if_icmp .gt 13, 3), (111, .iload_n 3, 1)]
theorem dd_X4_readNumber_1 : ∀ e ∈ D_X4_readNumber_1, decode (mtJ 56).2.1 e.1 = .ok e.2 := by decide +kernel
set_option maxRecDepth 10000 in
theorem so_X4_readNumber_1 : ∀ e ∈ o_X4_readNumber_1, SndO 56 e.1 e.2 := by
  refine List.forall_mem_cons.mpr ⟨s_aload_n (dd_X4_readNumber_1 (0, .aload_n 0, 1) (List.mem_of_getElem? (i := 0) rfl)) rfl, ?_⟩
  refine List.forall_mem_cons.mpr ⟨⟨s_callV (ci := 4) rfl mo58 rfl rfl (dd_X4_readNumber_1 (1, .invokevirtual 43, 3) (List.mem_of_getElem? (i := 1) rfl)) ow_X4_readNumber ml4_43 mi58 msl58 in_4 mn58, mo58⟩, ?_⟩
  refine List.forall_mem_cons.mpr ⟨s_aload_n (dd_X4_readNumber_1 (4, .aload_n 0, 1) (List.mem_of_getElem? (i := 2) rfl)) rfl, ?_⟩
  refine List.forall_mem_cons.mpr ⟨s_aload_n (dd_X4_readNumber_1 (5, .aload_n 0, 1) (List.mem_of_getElem? (i := 3) rfl)) rfl, ?_⟩
  refine List.forall_mem_cons.mpr ⟨s_getI (k := 3) K4 (by decide) (dd_X4_readNumber_1 (6, .getfield 29, 3) (List.mem_of_getElem? (i := 4) rfl)) ow_X4_readNumber fl4_29 rfl, ?_⟩
  refine List.forall_mem_cons.mpr ⟨s_putI (k := 4) K4 (by decide) (dd_X4_readNumber_1 (9, .putfield 102, 3) (List.mem_of_getElem? (i := 5) rfl)) ow_X4_readNumber fl4_102 (Or.inl rfl) rfl, ?_⟩
  refine List.forall_mem_cons.mpr ⟨s_iconst (dd_X4_readNumber_1 (12, .iconst 0, 1) (List.mem_of_getElem? (i := 6) rfl)) rfl, ?_⟩
  refine List.forall_mem_cons.mpr ⟨s_istore_n (dd_X4_readNumber_1 (13, .istore_n 3, 1) (List.mem_of_getElem? (i := 7) rfl)) rfl, ?_⟩
  refine List.forall_mem_cons.mpr ⟨s_aload_n (dd_X4_readNumber_1 (14, .aload_n 0, 1) (List.mem_of_getElem? (i := 8) rfl)) rfl, ?_⟩
  refine List.forall_mem_cons.mpr ⟨s_getI (k := 3) K4 (by decide) (dd_X4_readNumber_1 (15, .getfield 29, 3) (List.mem_of_getElem? (i := 9) rfl)) ow_X4_readNumber fl4_29 rfl, ?_⟩
  refine List.forall_mem_cons.mpr ⟨s_aload_n (dd_X4_readNumber_1 (18, .aload_n 0, 1) (List.mem_of_getElem? (i := 10) rfl)) rfl, ?_⟩
  refine List.forall_mem_cons.mpr ⟨s_getI (k := 2) K4 (by decide) (dd_X4_readNumber_1 (19, .getfield 25, 3) (List.mem_of_getElem? (i := 11) rfl)) ow_X4_readNumber fl4_25 rfl, ?_⟩
  refine List.forall_mem_cons.mpr ⟨s_icmp_ge (dd_X4_readNumber_1 (22, .if_icmp .ge 53, 3) (List.mem_of_getElem? (i := 12) rfl)) (by decide), ?_⟩
  refine List.forall_mem_cons.mpr ⟨s_aload_n (dd_X4_readNumber_1 (25, .aload_n 0, 1) (List.mem_of_getElem? (i := 13) rfl)) rfl, ?_⟩
  refine List.forall_mem_cons.mpr ⟨s_aload_n (dd_X4_readNumber_1 (26, .aload_n 0, 1) (List.mem_of_getElem? (i := 14) rfl)) rfl, ?_⟩
  refine List.forall_mem_cons.mpr ⟨⟨s_callV (ci := 4) rfl mo59 rfl rfl (dd_X4_readNumber_1 (27, .invokevirtual 49, 3) (List.mem_of_getElem? (i := 15) rfl)) ow_X4_readNumber ml4_49 mi59 msl59 in_4 mn59, mo59⟩, ?_⟩
  refine List.forall_mem_cons.mpr ⟨⟨s_callV (ci := 4) rfl mo57 rfl rfl (dd_X4_readNumber_1 (30, .invokevirtual 108, 3) (List.mem_of_getElem? (i := 16) rfl)) ow_X4_readNumber ml4_108 mi57 msl57 in_4 mn57, mo57⟩, ?_⟩
  refine List.forall_mem_cons.mpr ⟨s_if_eq (dd_X4_readNumber_1 (33, .ifCond .eq 42, 3) (List.mem_of_getElem? (i := 17) rfl)) (by decide), ?_⟩
  refine List.forall_mem_cons.mpr ⟨s_aload_n (dd_X4_readNumber_1 (36, .aload_n 0, 1) (List.mem_of_getElem? (i := 18) rfl)) rfl, ?_⟩
  refine List.forall_mem_cons.mpr ⟨s_getI (k := 3) K4 (by decide) (dd_X4_readNumber_1 (37, .getfield 29, 3) (List.mem_of_getElem? (i := 19) rfl)) ow_X4_readNumber fl4_29 rfl, ?_⟩
  refine List.forall_mem_cons.mpr ⟨s_aload_n (dd_X4_readNumber_1 (40, .aload_n 0, 1) (List.mem_of_getElem? (i := 20) rfl)) rfl, ?_⟩
  refine List.forall_mem_cons.mpr ⟨s_getI (k := 4) K4 (by decide) (dd_X4_readNumber_1 (41, .getfield 102, 3) (List.mem_of_getElem? (i := 21) rfl)) ow_X4_readNumber fl4_102 rfl, ?_⟩
  refine List.forall_mem_cons.mpr ⟨s_isub (dd_X4_readNumber_1 (44, .isub, 1) (List.mem_of_getElem? (i := 22) rfl)), ?_⟩
  refine List.forall_mem_cons.mpr ⟨s_iconst (dd_X4_readNumber_1 (45, .iconst 3, 1) (List.mem_of_getElem? (i := 23) rfl)) rfl, ?_⟩
  refine List.forall_mem_cons.mpr ⟨s_icmp_ge (dd_X4_readNumber_1 (46, .if_icmp .ge 16, 3) (List.mem_of_getElem? (i := 24) rfl)) (by decide), ?_⟩
  refine List.forall_mem_cons.mpr ⟨s_iload_n (dd_X4_readNumber_1 (49, .iload_n 3, 1) (List.mem_of_getElem? (i := 25) rfl)) rfl, ?_⟩
  refine List.forall_mem_cons.mpr ⟨s_bipush (dd_X4_readNumber_1 (50, .bipush 10, 2) (List.mem_of_getElem? (i := 26) rfl)) rfl, ?_⟩
  refine List.forall_mem_cons.mpr ⟨s_imul (dd_X4_readNumber_1 (52, .imul, 1) (List.mem_of_getElem? (i := 27) rfl)), ?_⟩
  refine List.forall_mem_cons.mpr ⟨s_aload_n (dd_X4_readNumber_1 (53, .aload_n 0, 1) (List.mem_of_getElem? (i := 28) rfl)) rfl, ?_⟩
  refine List.forall_mem_cons.mpr ⟨⟨s_callV (ci := 4) rfl mo59 rfl rfl (dd_X4_readNumber_1 (54, .invokevirtual 49, 3) (List.mem_of_getElem? (i := 29) rfl)) ow_X4_readNumber ml4_49 mi59 msl59 in_4 mn59, mo59⟩, ?_⟩
  refine List.forall_mem_cons.mpr ⟨s_iadd (dd_X4_readNumber_1 (57, .iadd, 1) (List.mem_of_getElem? (i := 30) rfl)), ?_⟩
  refine List.forall_mem_cons.mpr ⟨s_bipush (dd_X4_readNumber_1 (58, .bipush 48, 2) (List.mem_of_getElem? (i := 31) rfl)) rfl, ?_⟩
  refine List.forall_mem_cons.mpr ⟨s_isub (dd_X4_readNumber_1 (60, .isub, 1) (List.mem_of_getElem? (i := 32) rfl)), ?_⟩
  refine List.forall_mem_cons.mpr ⟨s_istore_n (dd_X4_readNumber_1 (61, .istore_n 3, 1) (List.mem_of_getElem? (i := 33) rfl)) rfl, ?_⟩
  refine List.forall_mem_cons.mpr ⟨s_aload_n (dd_X4_readNumber_1 (62, .aload_n 0, 1) (List.mem_of_getElem? (i := 34) rfl)) rfl, ?_⟩
  refine List.forall_mem_cons.mpr ⟨s_dup (dd_X4_readNumber_1 (63, .dup, 1) (List.mem_of_getElem? (i := 35) rfl)), ?_⟩
  refine List.forall_mem_cons.mpr ⟨s_getI (k := 3) K4 (by decide) (dd_X4_readNumber_1 (64, .getfield 29, 3) (List.mem_of_getElem? (i := 36) rfl)) ow_X4_readNumber fl4_29 rfl, ?_⟩
  refine List.forall_mem_cons.mpr ⟨s_iconst (dd_X4_readNumber_1 (67, .iconst 1, 1) (List.mem_of_getElem? (i := 37) rfl)) rfl, ?_⟩
  refine List.forall_mem_cons.mpr ⟨s_iadd (dd_X4_readNumber_1 (68, .iadd, 1) (List.mem_of_getElem? (i := 38) rfl)), ?_⟩
  refine List.forall_mem_cons.mpr ⟨s_putI (k := 3) K4 (by decide) (dd_X4_readNumber_1 (69, .putfield 29, 3) (List.mem_of_getElem? (i := 39) rfl)) ow_X4_readNumber fl4_29 (Or.inl rfl) rfl, ?_⟩
  refine List.forall_mem_cons.mpr ⟨s_goto (dd_X4_readNumber_1 (72, .goto (-58), 3) (List.mem_of_getElem? (i := 40) rfl)) (by decide), ?_⟩
  refine List.forall_mem_cons.mpr ⟨s_aload_n (dd_X4_readNumber_1 (75, .aload_n 0, 1) (List.mem_of_getElem? (i := 41) rfl)) rfl, ?_⟩
  refine List.forall_mem_cons.mpr ⟨s_getI (k := 3) K4 (by decide) (dd_X4_readNumber_1 (76, .getfield 29, 3) (List.mem_of_getElem? (i := 42) rfl)) ow_X4_readNumber fl4_29 rfl, ?_⟩
  refine List.forall_mem_cons.mpr ⟨s_aload_n (dd_X4_readNumber_1 (79, .aload_n 0, 1) (List.mem_of_getElem? (i := 43) rfl)) rfl, ?_⟩
  refine List.forall_mem_cons.mpr ⟨s_getI (k := 4) K4 (by decide) (dd_X4_readNumber_1 (80, .getfield 102, 3) (List.mem_of_getElem? (i := 44) rfl)) ow_X4_readNumber fl4_102 rfl, ?_⟩
  refine List.forall_mem_cons.mpr ⟨s_icmp_ne (dd_X4_readNumber_1 (83, .if_icmp .ne 15, 3) (List.mem_of_getElem? (i := 45) rfl)) (by decide), ?_⟩
  refine List.forall_mem_cons.mpr ⟨s_aload_n (dd_X4_readNumber_1 (86, .aload_n 0, 1) (List.mem_of_getElem? (i := 46) rfl)) rfl, ?_⟩
  refine List.forall_mem_cons.mpr ⟨s_iconst (dd_X4_readNumber_1 (87, .iconst 1, 1) (List.mem_of_getElem? (i := 47) rfl)) rfl, ?_⟩
  refine List.forall_mem_cons.mpr ⟨s_aload_n (dd_X4_readNumber_1 (88, .aload_n 0, 1) (List.mem_of_getElem? (i := 48) rfl)) rfl, ?_⟩
  refine List.forall_mem_cons.mpr ⟨s_getI (k := 3) K4 (by decide) (dd_X4_readNumber_1 (89, .getfield 29, 3) (List.mem_of_getElem? (i := 49) rfl)) ow_X4_readNumber fl4_29 rfl, ?_⟩
  refine List.forall_mem_cons.mpr ⟨⟨s_callV (ci := 4) rfl mo60 rfl rfl (dd_X4_readNumber_1 (92, .invokevirtual 57, 3) (List.mem_of_getElem? (i := 50) rfl)) ow_X4_readNumber ml4_57 mi60 msl60 in_4 mn60, mo60⟩, ?_⟩
  refine List.forall_mem_cons.mpr ⟨s_goto (dd_X4_readNumber_1 (95, .goto 35, 3) (List.mem_of_getElem? (i := 51) rfl)) (by decide), ?_⟩
  refine List.forall_mem_cons.mpr ⟨s_aload_n (dd_X4_readNumber_1 (98, .aload_n 0, 1) (List.mem_of_getElem? (i := 52) rfl)) rfl, ?_⟩
  refine List.forall_mem_cons.mpr ⟨s_getI (k := 3) K4 (by decide) (dd_X4_readNumber_1 (99, .getfield 29, 3) (List.mem_of_getElem? (i := 53) rfl)) ow_X4_readNumber fl4_29 rfl, ?_⟩
  refine List.forall_mem_cons.mpr ⟨s_aload_n (dd_X4_readNumber_1 (102, .aload_n 0, 1) (List.mem_of_getElem? (i := 54) rfl)) rfl, ?_⟩
  refine List.forall_mem_cons.mpr ⟨s_getI (k := 4) K4 (by decide) (dd_X4_readNumber_1 (103, .getfield 102, 3) (List.mem_of_getElem? (i := 55) rfl)) ow_X4_readNumber fl4_102 rfl, ?_⟩
  refine List.forall_mem_cons.mpr ⟨s_isub (dd_X4_readNumber_1 (106, .isub, 1) (List.mem_of_getElem? (i := 56) rfl)), ?_⟩
  refine List.forall_mem_cons.mpr ⟨s_iconst (dd_X4_readNumber_1 (107, .iconst 3, 1) (List.mem_of_getElem? (i := 57) rfl)) rfl, ?_⟩
  refine List.forall_mem_cons.mpr ⟨s_icmp_gt (dd_X4_readNumber_1 (108, .if_icmp .gt 13, 3) (List.mem_of_getElem? (i := 58) rfl)) (by decide), ?_⟩
  refine List.forall_mem_cons.mpr ⟨s_iload_n (dd_X4_readNumber_1 (111, .iload_n 3, 1) (List.mem_of_getElem? (i := 59) rfl)) rfl, ?_⟩
  exact fun _ h => absurd h List.not_mem_nil
def D_X4_readNumber_2 : List (Nat × Instr × Nat) := [(112, .iload_n 1, 1), (113, .if_icmp .lt 8, 3), (116, .iload_n 3, 1), (117, .iload_n 2, 1), (118, .if_icmp .le 12, 3), (121, .aload_n 0, 1), (122, .iconst 2, 1), (123, .aload_n 0, 1), (124, .getfield 102, 3), (127, .invokevirtual 57, 3), (130, .iload_n 3, 1), (131, .ireturn, 1)]
theorem dd_X4_readNumber_2 : ∀ e ∈ D_X4_readNumber_2, decode (mtJ 56).2.1 e.1 = .ok e.2 := by decide +kernel
set_option maxRecDepth 10000 in
theorem so_X4_readNumber_2 : ∀ e ∈ o_X4_readNumber_2, SndO 56 e.1 e.2 := by
  refine List.forall_mem_cons.mpr ⟨s_iload_n (dd_X4_readNumber_2 (112, .iload_n 1, 1) (List.mem_of_getElem? (i := 0) rfl)) rfl, ?_⟩
  refine List.forall_mem_cons.mpr ⟨s_icmp_lt (dd_X4_readNumber_2 (113, .if_icmp .lt 8, 3) (List.mem_of_getElem? (i := 1) rfl)) (by decide), ?_⟩
  refine List.forall_mem_cons.mpr ⟨s_iload_n (dd_X4_readNumber_2 (116, .iload_n 3, 1) (List.mem_of_getElem? (i := 2) rfl)) rfl, ?_⟩
  refine List.forall_mem_cons.mpr ⟨s_iload_n (dd_X4_readNumber_2 (117, .iload_n 2, 1) (List.mem_of_getElem? (i := 3) rfl)) rfl, ?_⟩
  refine List.forall_mem_cons.mpr ⟨s_icmp_le (dd_X4_readNumber_2 (118, .if_icmp .le 12, 3) (List.mem_of_getElem? (i := 4) rfl)) (by decide), ?_⟩
  refine List.forall_mem_cons.mpr ⟨s_aload_n (dd_X4_readNumber_2 (121, .aload_n 0, 1) (List.mem_of_getElem? (i := 5) rfl)) rfl, ?_⟩
  refine List.forall_mem_cons.mpr ⟨s_iconst (dd_X4_readNumber_2 (122, .iconst 2, 1) (List.mem_of_getElem? (i := 6) rfl)) rfl, ?_⟩
  refine List.forall_mem_cons.mpr ⟨s_aload_n (dd_X4_readNumber_2 (123, .aload_n 0, 1) (List.mem_of_getElem? (i := 7) rfl)) rfl, ?_⟩
  refine List.forall_mem_cons.mpr ⟨s_getI (k := 4) K4 (by decide) (dd_X4_readNumber_2 (124, .getfield 102, 3) (List.mem_of_getElem? (i := 8) rfl)) ow_X4_readNumber fl4_102 rfl, ?_⟩
  refine List.forall_mem_cons.mpr ⟨⟨s_callV (ci := 4) rfl mo60 rfl rfl (dd_X4_readNumber_2 (127, .invokevirtual 57, 3) (List.mem_of_getElem? (i := 9) rfl)) ow_X4_readNumber ml4_57 mi60 msl60 in_4 mn60, mo60⟩, ?_⟩
  refine List.forall_mem_cons.mpr ⟨s_iload_n (dd_X4_readNumber_2 (130, .iload_n 3, 1) (List.mem_of_getElem? (i := 10) rfl)) rfl, ?_⟩
  refine List.forall_mem_cons.mpr ⟨Or.inr (Or.inl ⟨rfl, (dd_X4_readNumber_2 (131, .ireturn, 1) (List.mem_of_getElem? (i := 11) rfl)), rfl⟩), ?_⟩
  exact fun _ h => absurd h List.not_mem_nil
theorem so_X4_readNumber : ∀ e ∈ o_X4_readNumber, SndO 56 e.1 e.2 := List.forall_mem_append.mpr ⟨so_X4_readNumber_1, so_X4_readNumber_2⟩
theorem ow_X4_isFigure : (mtJ 57).1.cls = "SatchelSins$Reader" := rfl
def D_X4_isFigure : List (Nat × Instr × Nat) := [(0, .iload_n 1, 1), (1, .bipush 48, 2), (3, .if_icmp .lt 13, 3), (6, .iload_n 1, 1), (7, .bipush 57, 2), (9, .if_icmp .gt 7, 3), (12, .iconst 1, 1), (13, .goto 4, 3), (16, .iconst 0, 1), (17, .ireturn, 1)]
theorem dd_X4_isFigure : ∀ e ∈ D_X4_isFigure, decode (mtJ 57).2.1 e.1 = .ok e.2 := by decide +kernel
set_option maxRecDepth 10000 in
theorem so_X4_isFigure : ∀ e ∈ o_X4_isFigure, SndO 57 e.1 e.2 := by
  refine List.forall_mem_cons.mpr ⟨s_iload_n (dd_X4_isFigure (0, .iload_n 1, 1) (List.mem_of_getElem? (i := 0) rfl)) rfl, ?_⟩
  refine List.forall_mem_cons.mpr ⟨s_bipush (dd_X4_isFigure (1, .bipush 48, 2) (List.mem_of_getElem? (i := 1) rfl)) rfl, ?_⟩
  refine List.forall_mem_cons.mpr ⟨s_icmp_lt (dd_X4_isFigure (3, .if_icmp .lt 13, 3) (List.mem_of_getElem? (i := 2) rfl)) (by decide), ?_⟩
  refine List.forall_mem_cons.mpr ⟨s_iload_n (dd_X4_isFigure (6, .iload_n 1, 1) (List.mem_of_getElem? (i := 3) rfl)) rfl, ?_⟩
  refine List.forall_mem_cons.mpr ⟨s_bipush (dd_X4_isFigure (7, .bipush 57, 2) (List.mem_of_getElem? (i := 4) rfl)) rfl, ?_⟩
  refine List.forall_mem_cons.mpr ⟨s_icmp_gt (dd_X4_isFigure (9, .if_icmp .gt 7, 3) (List.mem_of_getElem? (i := 5) rfl)) (by decide), ?_⟩
  refine List.forall_mem_cons.mpr ⟨s_iconst (dd_X4_isFigure (12, .iconst 1, 1) (List.mem_of_getElem? (i := 6) rfl)) rfl, ?_⟩
  refine List.forall_mem_cons.mpr ⟨s_goto (dd_X4_isFigure (13, .goto 4, 3) (List.mem_of_getElem? (i := 7) rfl)) (by decide), ?_⟩
  refine List.forall_mem_cons.mpr ⟨s_iconst (dd_X4_isFigure (16, .iconst 0, 1) (List.mem_of_getElem? (i := 8) rfl)) rfl, ?_⟩
  refine List.forall_mem_cons.mpr ⟨Or.inr (Or.inr ⟨rfl, (dd_X4_isFigure (17, .ireturn, 1) (List.mem_of_getElem? (i := 9) rfl)), rfl⟩), ?_⟩
  exact fun _ h => absurd h List.not_mem_nil
theorem ow_X4_skipBlanks : (mtJ 58).1.cls = "SatchelSins$Reader" := rfl
def D_X4_skipBlanks : List (Nat × Instr × Nat) := [(0, .aload_n 0, 1), (1, .getfield 29, 3), (4, .aload_n 0, 1), (5, .getfield 25, 3), (8, .if_icmp .ge 25, 3), (11, .aload_n 0, 1), (12, .invokevirtual 49, 3), (15, .bipush 32, 2), (17, .if_icmp .ne 16, 3), (20, .aload_n 0, 1), (21, .dup, 1), (22, .getfield 29, 3), (25, .iconst 1, 1), (26, .iadd, 1), (27, .putfield 29, 3), (30, .goto (-30), 3), (33, .return_, 1)]
theorem dd_X4_skipBlanks : ∀ e ∈ D_X4_skipBlanks, decode (mtJ 58).2.1 e.1 = .ok e.2 := by decide +kernel
set_option maxRecDepth 10000 in
theorem so_X4_skipBlanks : ∀ e ∈ o_X4_skipBlanks, SndO 58 e.1 e.2 := by
  refine List.forall_mem_cons.mpr ⟨s_aload_n (dd_X4_skipBlanks (0, .aload_n 0, 1) (List.mem_of_getElem? (i := 0) rfl)) rfl, ?_⟩
  refine List.forall_mem_cons.mpr ⟨s_getI (k := 3) K4 (by decide) (dd_X4_skipBlanks (1, .getfield 29, 3) (List.mem_of_getElem? (i := 1) rfl)) ow_X4_skipBlanks fl4_29 rfl, ?_⟩
  refine List.forall_mem_cons.mpr ⟨s_aload_n (dd_X4_skipBlanks (4, .aload_n 0, 1) (List.mem_of_getElem? (i := 2) rfl)) rfl, ?_⟩
  refine List.forall_mem_cons.mpr ⟨s_getI (k := 2) K4 (by decide) (dd_X4_skipBlanks (5, .getfield 25, 3) (List.mem_of_getElem? (i := 3) rfl)) ow_X4_skipBlanks fl4_25 rfl, ?_⟩
  refine List.forall_mem_cons.mpr ⟨s_icmp_ge (dd_X4_skipBlanks (8, .if_icmp .ge 25, 3) (List.mem_of_getElem? (i := 4) rfl)) (by decide), ?_⟩
  refine List.forall_mem_cons.mpr ⟨s_aload_n (dd_X4_skipBlanks (11, .aload_n 0, 1) (List.mem_of_getElem? (i := 5) rfl)) rfl, ?_⟩
  refine List.forall_mem_cons.mpr ⟨⟨s_callV (ci := 4) rfl mo59 rfl rfl (dd_X4_skipBlanks (12, .invokevirtual 49, 3) (List.mem_of_getElem? (i := 6) rfl)) ow_X4_skipBlanks ml4_49 mi59 msl59 in_4 mn59, mo59⟩, ?_⟩
  refine List.forall_mem_cons.mpr ⟨s_bipush (dd_X4_skipBlanks (15, .bipush 32, 2) (List.mem_of_getElem? (i := 7) rfl)) rfl, ?_⟩
  refine List.forall_mem_cons.mpr ⟨s_icmp_ne (dd_X4_skipBlanks (17, .if_icmp .ne 16, 3) (List.mem_of_getElem? (i := 8) rfl)) (by decide), ?_⟩
  refine List.forall_mem_cons.mpr ⟨s_aload_n (dd_X4_skipBlanks (20, .aload_n 0, 1) (List.mem_of_getElem? (i := 9) rfl)) rfl, ?_⟩
  refine List.forall_mem_cons.mpr ⟨s_dup (dd_X4_skipBlanks (21, .dup, 1) (List.mem_of_getElem? (i := 10) rfl)), ?_⟩
  refine List.forall_mem_cons.mpr ⟨s_getI (k := 3) K4 (by decide) (dd_X4_skipBlanks (22, .getfield 29, 3) (List.mem_of_getElem? (i := 11) rfl)) ow_X4_skipBlanks fl4_29 rfl, ?_⟩
  refine List.forall_mem_cons.mpr ⟨s_iconst (dd_X4_skipBlanks (25, .iconst 1, 1) (List.mem_of_getElem? (i := 12) rfl)) rfl, ?_⟩
  refine List.forall_mem_cons.mpr ⟨s_iadd (dd_X4_skipBlanks (26, .iadd, 1) (List.mem_of_getElem? (i := 13) rfl)), ?_⟩
  refine List.forall_mem_cons.mpr ⟨s_putI (k := 3) K4 (by decide) (dd_X4_skipBlanks (27, .putfield 29, 3) (List.mem_of_getElem? (i := 14) rfl)) ow_X4_skipBlanks fl4_29 (Or.inl rfl) rfl, ?_⟩
  refine List.forall_mem_cons.mpr ⟨s_goto (dd_X4_skipBlanks (30, .goto (-30), 3) (List.mem_of_getElem? (i := 15) rfl)) (by decide), ?_⟩
  refine List.forall_mem_cons.mpr ⟨Or.inl ⟨rfl, (dd_X4_skipBlanks (33, .return_, 1) (List.mem_of_getElem? (i := 16) rfl)), rfl⟩, ?_⟩
  exact fun _ h => absurd h List.not_mem_nil
theorem ow_X4_letter : (mtJ 59).1.cls = "SatchelSins$Reader" := rfl
def D_X4_letter : List (Nat × Instr × Nat) := [(0, .aload_n 0, 1), (1, .getfield 29, 3), (4, .ifCond .lt 26, 3), (7, .aload_n 0, 1), (8, .getfield 29, 3), (11, .aload_n 0, 1), (12, .getfield 25, 3), (15, .if_icmp .ge 15, 3), (18, .aload_n 0, 1), (19, .getfield 9, 3), (22, .aload_n 0, 1), (23, .getfield 29, 3), (26, .iaload, 1), (27, .goto 4, 3), (30, .iconst (-1), 1), (31, .ireturn, 1)]
theorem dd_X4_letter : ∀ e ∈ D_X4_letter, decode (mtJ 59).2.1 e.1 = .ok e.2 := by decide +kernel
set_option maxRecDepth 10000 in
theorem so_X4_letter : ∀ e ∈ o_X4_letter, SndO 59 e.1 e.2 := by
  refine List.forall_mem_cons.mpr ⟨s_aload_n (dd_X4_letter (0, .aload_n 0, 1) (List.mem_of_getElem? (i := 0) rfl)) rfl, ?_⟩
  refine List.forall_mem_cons.mpr ⟨s_getI (k := 3) K4 (by decide) (dd_X4_letter (1, .getfield 29, 3) (List.mem_of_getElem? (i := 1) rfl)) ow_X4_letter fl4_29 rfl, ?_⟩
  refine List.forall_mem_cons.mpr ⟨s_if_lt (dd_X4_letter (4, .ifCond .lt 26, 3) (List.mem_of_getElem? (i := 2) rfl)) (by decide), ?_⟩
  refine List.forall_mem_cons.mpr ⟨s_aload_n (dd_X4_letter (7, .aload_n 0, 1) (List.mem_of_getElem? (i := 3) rfl)) rfl, ?_⟩
  refine List.forall_mem_cons.mpr ⟨s_getI (k := 3) K4 (by decide) (dd_X4_letter (8, .getfield 29, 3) (List.mem_of_getElem? (i := 4) rfl)) ow_X4_letter fl4_29 rfl, ?_⟩
  refine List.forall_mem_cons.mpr ⟨s_aload_n (dd_X4_letter (11, .aload_n 0, 1) (List.mem_of_getElem? (i := 5) rfl)) rfl, ?_⟩
  refine List.forall_mem_cons.mpr ⟨s_getI (k := 2) K4 (by decide) (dd_X4_letter (12, .getfield 25, 3) (List.mem_of_getElem? (i := 6) rfl)) ow_X4_letter fl4_25 rfl, ?_⟩
  refine List.forall_mem_cons.mpr ⟨s_icmp_ge (dd_X4_letter (15, .if_icmp .ge 15, 3) (List.mem_of_getElem? (i := 7) rfl)) (by decide), ?_⟩
  refine List.forall_mem_cons.mpr ⟨s_aload_n (dd_X4_letter (18, .aload_n 0, 1) (List.mem_of_getElem? (i := 8) rfl)) rfl, ?_⟩
  refine List.forall_mem_cons.mpr ⟨s_getR (k := 0) K4 (by decide) (dd_X4_letter (19, .getfield 9, 3) (List.mem_of_getElem? (i := 9) rfl)) ow_X4_letter fl4_9 rfl, ?_⟩
  refine List.forall_mem_cons.mpr ⟨s_aload_n (dd_X4_letter (22, .aload_n 0, 1) (List.mem_of_getElem? (i := 10) rfl)) rfl, ?_⟩
  refine List.forall_mem_cons.mpr ⟨s_getI (k := 3) K4 (by decide) (dd_X4_letter (23, .getfield 29, 3) (List.mem_of_getElem? (i := 11) rfl)) ow_X4_letter fl4_29 rfl, ?_⟩
  refine List.forall_mem_cons.mpr ⟨s_iald (dd_X4_letter (26, .iaload, 1) (List.mem_of_getElem? (i := 12) rfl)), ?_⟩
  refine List.forall_mem_cons.mpr ⟨s_goto (dd_X4_letter (27, .goto 4, 3) (List.mem_of_getElem? (i := 13) rfl)) (by decide), ?_⟩
  refine List.forall_mem_cons.mpr ⟨s_iconst (dd_X4_letter (30, .iconst (-1), 1) (List.mem_of_getElem? (i := 14) rfl)) rfl, ?_⟩
  refine List.forall_mem_cons.mpr ⟨Or.inr (Or.inl ⟨rfl, (dd_X4_letter (31, .ireturn, 1) (List.mem_of_getElem? (i := 15) rfl)), rfl⟩), ?_⟩
  exact fun _ h => absurd h List.not_mem_nil
theorem ow_X4_fail : (mtJ 60).1.cls = "SatchelSins$Reader" := rfl
def D_X4_fail : List (Nat × Instr × Nat) := [(0, .aload_n 0, 1), (1, .getfield 32, 3), (4, .ifCond .ne 13, 3), (7, .aload_n 0, 1), (8, .iload_n 1, 1), (9, .putfield 32, 3), (12, .aload_n 0, 1), (13, .iload_n 2, 1), (14, .putfield 35, 3), (17, .return_, 1)]
theorem dd_X4_fail : ∀ e ∈ D_X4_fail, decode (mtJ 60).2.1 e.1 = .ok e.2 := by decide +kernel
set_option maxRecDepth 10000 in
theorem so_X4_fail : ∀ e ∈ o_X4_fail, SndO 60 e.1 e.2 := by
  refine List.forall_mem_cons.mpr ⟨s_aload_n (dd_X4_fail (0, .aload_n 0, 1) (List.mem_of_getElem? (i := 0) rfl)) rfl, ?_⟩
  refine List.forall_mem_cons.mpr ⟨s_getI (k := 5) K4 (by decide) (dd_X4_fail (1, .getfield 32, 3) (List.mem_of_getElem? (i := 1) rfl)) ow_X4_fail fl4_32 rfl, ?_⟩
  refine List.forall_mem_cons.mpr ⟨s_if_ne (dd_X4_fail (4, .ifCond .ne 13, 3) (List.mem_of_getElem? (i := 2) rfl)) (by decide), ?_⟩
  refine List.forall_mem_cons.mpr ⟨s_aload_n (dd_X4_fail (7, .aload_n 0, 1) (List.mem_of_getElem? (i := 3) rfl)) rfl, ?_⟩
  refine List.forall_mem_cons.mpr ⟨s_iload_n (dd_X4_fail (8, .iload_n 1, 1) (List.mem_of_getElem? (i := 4) rfl)) rfl, ?_⟩
  refine List.forall_mem_cons.mpr ⟨s_putI (k := 5) K4 (by decide) (dd_X4_fail (9, .putfield 32, 3) (List.mem_of_getElem? (i := 5) rfl)) ow_X4_fail fl4_32 (Or.inl rfl) rfl, ?_⟩
  refine List.forall_mem_cons.mpr ⟨s_aload_n (dd_X4_fail (12, .aload_n 0, 1) (List.mem_of_getElem? (i := 6) rfl)) rfl, ?_⟩
  refine List.forall_mem_cons.mpr ⟨s_iload_n (dd_X4_fail (13, .iload_n 2, 1) (List.mem_of_getElem? (i := 7) rfl)) rfl, ?_⟩
  refine List.forall_mem_cons.mpr ⟨s_putI (k := 6) K4 (by decide) (dd_X4_fail (14, .putfield 35, 3) (List.mem_of_getElem? (i := 8) rfl)) ow_X4_fail fl4_35 (Or.inl rfl) rfl, ?_⟩
  refine List.forall_mem_cons.mpr ⟨Or.inl ⟨rfl, (dd_X4_fail (17, .return_, 1) (List.mem_of_getElem? (i := 9) rfl)), rfl⟩, ?_⟩
  exact fun _ h => absurd h List.not_mem_nil
theorem ow_X5_init : (mtJ 61).1.cls = "SatchelSins$Roll" := rfl
def D_X5_init : List (Nat × Instr × Nat) := [(0, .aload_n 0, 1), (1, .invokespecial 3, 3), (4, .aload_n 0, 1), (5, .iconst 5, 1), (6, .newarray .int, 2), (8, .putfield 9, 3), (11, .aload_n 0, 1), (12, .iconst 5, 1), (13, .newarray .int, 2), (15, .putfield 15, 3), (18, .aload_n 0, 1), (19, .iconst 5, 1), (20, .newarray .int, 2), (22, .putfield 18, 3), (25, .aload_n 0, 1), (26, .bipush 7, 2), (28, .newarray .int, 2), (30, .putfield 21, 3), (33, .aload_n 0, 1), (34, .bipush 7, 2), (36, .newarray .int, 2), (38, .putfield 24, 3), (41, .return_, 1)]
theorem dd_X5_init : ∀ e ∈ D_X5_init, decode (mtJ 61).2.1 e.1 = .ok e.2 := by decide +kernel
set_option maxRecDepth 10000 in
theorem so_X5_init : ∀ e ∈ o_X5_init, SndO 61 e.1 e.2 := by
  refine List.forall_mem_cons.mpr ⟨s_aload_n (dd_X5_init (0, .aload_n 0, 1) (List.mem_of_getElem? (i := 0) rfl)) rfl, ?_⟩
  refine List.forall_mem_cons.mpr ⟨s_obj (dd_X5_init (1, .invokespecial 3, 3) (List.mem_of_getElem? (i := 1) rfl)) ow_X5_init ml5_3 oi1 oi2, ?_⟩
  refine List.forall_mem_cons.mpr ⟨s_aload_n (dd_X5_init (4, .aload_n 0, 1) (List.mem_of_getElem? (i := 2) rfl)) rfl, ?_⟩
  refine List.forall_mem_cons.mpr ⟨s_iconst (dd_X5_init (5, .iconst 5, 1) (List.mem_of_getElem? (i := 3) rfl)) rfl, ?_⟩
  refine List.forall_mem_cons.mpr ⟨s_newI (dd_X5_init (6, .newarray .int, 2) (List.mem_of_getElem? (i := 4) rfl)) ac1, ?_⟩
  refine List.forall_mem_cons.mpr ⟨s_putR (k := 4) K5 (by decide) (dd_X5_init (8, .putfield 9, 3) (List.mem_of_getElem? (i := 5) rfl)) ow_X5_init fl5_9 (Or.inr ⟨rfl, rfl, rfl⟩) rfl (fun _ => rfl) (fun _ => rfl), ?_⟩
  refine List.forall_mem_cons.mpr ⟨s_aload_n (dd_X5_init (11, .aload_n 0, 1) (List.mem_of_getElem? (i := 6) rfl)) rfl, ?_⟩
  refine List.forall_mem_cons.mpr ⟨s_iconst (dd_X5_init (12, .iconst 5, 1) (List.mem_of_getElem? (i := 7) rfl)) rfl, ?_⟩
  refine List.forall_mem_cons.mpr ⟨s_newI (dd_X5_init (13, .newarray .int, 2) (List.mem_of_getElem? (i := 8) rfl)) ac1, ?_⟩
  refine List.forall_mem_cons.mpr ⟨s_putR (k := 5) K5 (by decide) (dd_X5_init (15, .putfield 15, 3) (List.mem_of_getElem? (i := 9) rfl)) ow_X5_init fl5_15 (Or.inr ⟨rfl, rfl, rfl⟩) rfl (fun _ => rfl) (fun _ => rfl), ?_⟩
  refine List.forall_mem_cons.mpr ⟨s_aload_n (dd_X5_init (18, .aload_n 0, 1) (List.mem_of_getElem? (i := 10) rfl)) rfl, ?_⟩
  refine List.forall_mem_cons.mpr ⟨s_iconst (dd_X5_init (19, .iconst 5, 1) (List.mem_of_getElem? (i := 11) rfl)) rfl, ?_⟩
  refine List.forall_mem_cons.mpr ⟨s_newI (dd_X5_init (20, .newarray .int, 2) (List.mem_of_getElem? (i := 12) rfl)) ac1, ?_⟩
  refine List.forall_mem_cons.mpr ⟨s_putR (k := 6) K5 (by decide) (dd_X5_init (22, .putfield 18, 3) (List.mem_of_getElem? (i := 13) rfl)) ow_X5_init fl5_18 (Or.inr ⟨rfl, rfl, rfl⟩) rfl (fun _ => rfl) (fun _ => rfl), ?_⟩
  refine List.forall_mem_cons.mpr ⟨s_aload_n (dd_X5_init (25, .aload_n 0, 1) (List.mem_of_getElem? (i := 14) rfl)) rfl, ?_⟩
  refine List.forall_mem_cons.mpr ⟨s_bipush (dd_X5_init (26, .bipush 7, 2) (List.mem_of_getElem? (i := 15) rfl)) rfl, ?_⟩
  refine List.forall_mem_cons.mpr ⟨s_newI (dd_X5_init (28, .newarray .int, 2) (List.mem_of_getElem? (i := 16) rfl)) ac1, ?_⟩
  refine List.forall_mem_cons.mpr ⟨s_putR (k := 7) K5 (by decide) (dd_X5_init (30, .putfield 21, 3) (List.mem_of_getElem? (i := 17) rfl)) ow_X5_init fl5_21 (Or.inr ⟨rfl, rfl, rfl⟩) rfl (fun _ => rfl) (fun _ => rfl), ?_⟩
  refine List.forall_mem_cons.mpr ⟨s_aload_n (dd_X5_init (33, .aload_n 0, 1) (List.mem_of_getElem? (i := 18) rfl)) rfl, ?_⟩
  refine List.forall_mem_cons.mpr ⟨s_bipush (dd_X5_init (34, .bipush 7, 2) (List.mem_of_getElem? (i := 19) rfl)) rfl, ?_⟩
  refine List.forall_mem_cons.mpr ⟨s_newI (dd_X5_init (36, .newarray .int, 2) (List.mem_of_getElem? (i := 20) rfl)) ac1, ?_⟩
  refine List.forall_mem_cons.mpr ⟨s_putR (k := 8) K5 (by decide) (dd_X5_init (38, .putfield 24, 3) (List.mem_of_getElem? (i := 21) rfl)) ow_X5_init fl5_24 (Or.inr ⟨rfl, rfl, rfl⟩) rfl (fun _ => rfl) (fun _ => rfl), ?_⟩
  refine List.forall_mem_cons.mpr ⟨Or.inl ⟨rfl, (dd_X5_init (41, .return_, 1) (List.mem_of_getElem? (i := 22) rfl)), rfl⟩, ?_⟩
  exact fun _ h => absurd h List.not_mem_nil
theorem ow_X5_wipe : (mtJ 62).1.cls = "SatchelSins$Roll" := rfl
def D_X5_wipe : List (Nat × Instr × Nat) := [(0, .aload_n 0, 1), (1, .iconst 0, 1), (2, .putfield 27, 3), (5, .aload_n 0, 1), (6, .iconst 0, 1), (7, .putfield 31, 3), (10, .aload_n 0, 1), (11, .iconst 0, 1), (12, .putfield 35, 3), (15, .aload_n 0, 1), (16, .iconst 0, 1), (17, .putfield 38, 3), (20, .return_, 1)]
theorem dd_X5_wipe : ∀ e ∈ D_X5_wipe, decode (mtJ 62).2.1 e.1 = .ok e.2 := by decide +kernel
set_option maxRecDepth 10000 in
theorem so_X5_wipe : ∀ e ∈ o_X5_wipe, SndO 62 e.1 e.2 := by
  refine List.forall_mem_cons.mpr ⟨s_aload_n (dd_X5_wipe (0, .aload_n 0, 1) (List.mem_of_getElem? (i := 0) rfl)) rfl, ?_⟩
  refine List.forall_mem_cons.mpr ⟨s_iconst (dd_X5_wipe (1, .iconst 0, 1) (List.mem_of_getElem? (i := 1) rfl)) rfl, ?_⟩
  refine List.forall_mem_cons.mpr ⟨s_putZ (k := 0) K5 (by decide) (dd_X5_wipe (2, .putfield 27, 3) (List.mem_of_getElem? (i := 2) rfl)) ow_X5_wipe fl5_27 (Or.inl rfl) rfl, ?_⟩
  refine List.forall_mem_cons.mpr ⟨s_aload_n (dd_X5_wipe (5, .aload_n 0, 1) (List.mem_of_getElem? (i := 3) rfl)) rfl, ?_⟩
  refine List.forall_mem_cons.mpr ⟨s_iconst (dd_X5_wipe (6, .iconst 0, 1) (List.mem_of_getElem? (i := 4) rfl)) rfl, ?_⟩
  refine List.forall_mem_cons.mpr ⟨s_putI (k := 1) K5 (by decide) (dd_X5_wipe (7, .putfield 31, 3) (List.mem_of_getElem? (i := 5) rfl)) ow_X5_wipe fl5_31 (Or.inl rfl) rfl, ?_⟩
  refine List.forall_mem_cons.mpr ⟨s_aload_n (dd_X5_wipe (10, .aload_n 0, 1) (List.mem_of_getElem? (i := 6) rfl)) rfl, ?_⟩
  refine List.forall_mem_cons.mpr ⟨s_iconst (dd_X5_wipe (11, .iconst 0, 1) (List.mem_of_getElem? (i := 7) rfl)) rfl, ?_⟩
  refine List.forall_mem_cons.mpr ⟨s_putI (k := 2) K5 (by decide) (dd_X5_wipe (12, .putfield 35, 3) (List.mem_of_getElem? (i := 8) rfl)) ow_X5_wipe fl5_35 (Or.inl rfl) rfl, ?_⟩
  refine List.forall_mem_cons.mpr ⟨s_aload_n (dd_X5_wipe (15, .aload_n 0, 1) (List.mem_of_getElem? (i := 9) rfl)) rfl, ?_⟩
  refine List.forall_mem_cons.mpr ⟨s_iconst (dd_X5_wipe (16, .iconst 0, 1) (List.mem_of_getElem? (i := 10) rfl)) rfl, ?_⟩
  refine List.forall_mem_cons.mpr ⟨s_putI (k := 3) K5 (by decide) (dd_X5_wipe (17, .putfield 38, 3) (List.mem_of_getElem? (i := 11) rfl)) ow_X5_wipe fl5_38 (Or.inl rfl) rfl, ?_⟩
  refine List.forall_mem_cons.mpr ⟨Or.inl ⟨rfl, (dd_X5_wipe (20, .return_, 1) (List.mem_of_getElem? (i := 12) rfl)), rfl⟩, ?_⟩
  exact fun _ h => absurd h List.not_mem_nil
theorem ow_X5_copyFrom : (mtJ 63).1.cls = "SatchelSins$Roll" := rfl
def D_X5_copyFrom : List (Nat × Instr × Nat) := [(0, .aload_n 0, 1), (1, .aload_n 1, 1), (2, .getfield 27, 3), (5, .putfield 27, 3), (8, .aload_n 0, 1), (9, .aload_n 1, 1), (10, .getfield 31, 3), (13, .putfield 31, 3), (16, .aload_n 0, 1), (17, .aload_n 1, 1), (18, .getfield 35, 3), (21, .putfield 35, 3), (24, .aload_n 0, 1), (25, .aload_n 1, 1), (26, .getfield 38, 3), (29, .putfield 38, 3), (32, .aload_n 1, 1), (33, .getfield 9, 3), (36, .iconst 0, 1), (37, .aload_n 0, 1), (38, .getfield 9, 3), (41, .iconst 0, 1), (42, .iconst 5, 1), (43, .invokestatic 41, 3), (46, .aload_n 1, 1), (47, .getfield 15, 3), (50, .iconst 0, 1), (51, .aload_n 0, 1), (52, .getfield 15, 3), (55, .iconst 0, 1), (56, .iconst 5, 1), (57, .invokestatic 41, 3), (60, .aload_n 1, 1), (61, .getfield 18, 3), (64, .iconst 0, 1), (65, .aload_n 0, 1), (66, .getfield 18, 3), (69, .iconst 0, 1), (70, .iconst 5, 1), (71, .invokestatic 41, 3), (74, .aload_n 1, 1), (75, .getfield 21, 3), (78, .iconst 0, 1), (79, .aload_n 0, 1), (80, .getfield 21, 3), (83, .iconst 0, 1), (84, .bipush 7, 2), (86, .invokestatic 41, 3), (89, .aload_n 1, 1), (90, .getfield 24, 3), (93, .iconst 0, 1), (94, .aload_n 0, 1), (95, .getfield 24, 3), (98, .iconst 0, 1), (99, .bipush 7, 2), (101, .invokestatic 41, 3), (104, .return_, 1)]
theorem dd_X5_copyFrom : ∀ e ∈ D_X5_copyFrom, decode (mtJ 63).2.1 e.1 = .ok e.2 := by decide +kernel
set_option maxRecDepth 10000 in
theorem so_X5_copyFrom : ∀ e ∈ o_X5_copyFrom, SndO 63 e.1 e.2 := by
  refine List.forall_mem_cons.mpr ⟨s_aload_n (dd_X5_copyFrom (0, .aload_n 0, 1) (List.mem_of_getElem? (i := 0) rfl)) rfl, ?_⟩
  refine List.forall_mem_cons.mpr ⟨s_aload_n (dd_X5_copyFrom (1, .aload_n 1, 1) (List.mem_of_getElem? (i := 1) rfl)) rfl, ?_⟩
  refine List.forall_mem_cons.mpr ⟨s_getI (k := 0) K5 (by decide) (dd_X5_copyFrom (2, .getfield 27, 3) (List.mem_of_getElem? (i := 2) rfl)) ow_X5_copyFrom fl5_27 rfl, ?_⟩
  refine List.forall_mem_cons.mpr ⟨s_putZ (k := 0) K5 (by decide) (dd_X5_copyFrom (5, .putfield 27, 3) (List.mem_of_getElem? (i := 3) rfl)) ow_X5_copyFrom fl5_27 (Or.inl rfl) rfl, ?_⟩
  refine List.forall_mem_cons.mpr ⟨s_aload_n (dd_X5_copyFrom (8, .aload_n 0, 1) (List.mem_of_getElem? (i := 4) rfl)) rfl, ?_⟩
  refine List.forall_mem_cons.mpr ⟨s_aload_n (dd_X5_copyFrom (9, .aload_n 1, 1) (List.mem_of_getElem? (i := 5) rfl)) rfl, ?_⟩
  refine List.forall_mem_cons.mpr ⟨s_getI (k := 1) K5 (by decide) (dd_X5_copyFrom (10, .getfield 31, 3) (List.mem_of_getElem? (i := 6) rfl)) ow_X5_copyFrom fl5_31 rfl, ?_⟩
  refine List.forall_mem_cons.mpr ⟨s_putI (k := 1) K5 (by decide) (dd_X5_copyFrom (13, .putfield 31, 3) (List.mem_of_getElem? (i := 7) rfl)) ow_X5_copyFrom fl5_31 (Or.inl rfl) rfl, ?_⟩
  refine List.forall_mem_cons.mpr ⟨s_aload_n (dd_X5_copyFrom (16, .aload_n 0, 1) (List.mem_of_getElem? (i := 8) rfl)) rfl, ?_⟩
  refine List.forall_mem_cons.mpr ⟨s_aload_n (dd_X5_copyFrom (17, .aload_n 1, 1) (List.mem_of_getElem? (i := 9) rfl)) rfl, ?_⟩
  refine List.forall_mem_cons.mpr ⟨s_getI (k := 2) K5 (by decide) (dd_X5_copyFrom (18, .getfield 35, 3) (List.mem_of_getElem? (i := 10) rfl)) ow_X5_copyFrom fl5_35 rfl, ?_⟩
  refine List.forall_mem_cons.mpr ⟨s_putI (k := 2) K5 (by decide) (dd_X5_copyFrom (21, .putfield 35, 3) (List.mem_of_getElem? (i := 11) rfl)) ow_X5_copyFrom fl5_35 (Or.inl rfl) rfl, ?_⟩
  refine List.forall_mem_cons.mpr ⟨s_aload_n (dd_X5_copyFrom (24, .aload_n 0, 1) (List.mem_of_getElem? (i := 12) rfl)) rfl, ?_⟩
  refine List.forall_mem_cons.mpr ⟨s_aload_n (dd_X5_copyFrom (25, .aload_n 1, 1) (List.mem_of_getElem? (i := 13) rfl)) rfl, ?_⟩
  refine List.forall_mem_cons.mpr ⟨s_getI (k := 3) K5 (by decide) (dd_X5_copyFrom (26, .getfield 38, 3) (List.mem_of_getElem? (i := 14) rfl)) ow_X5_copyFrom fl5_38 rfl, ?_⟩
  refine List.forall_mem_cons.mpr ⟨s_putI (k := 3) K5 (by decide) (dd_X5_copyFrom (29, .putfield 38, 3) (List.mem_of_getElem? (i := 15) rfl)) ow_X5_copyFrom fl5_38 (Or.inl rfl) rfl, ?_⟩
  refine List.forall_mem_cons.mpr ⟨s_aload_n (dd_X5_copyFrom (32, .aload_n 1, 1) (List.mem_of_getElem? (i := 16) rfl)) rfl, ?_⟩
  refine List.forall_mem_cons.mpr ⟨s_getR (k := 4) K5 (by decide) (dd_X5_copyFrom (33, .getfield 9, 3) (List.mem_of_getElem? (i := 17) rfl)) ow_X5_copyFrom fl5_9 rfl, ?_⟩
  refine List.forall_mem_cons.mpr ⟨s_iconst (dd_X5_copyFrom (36, .iconst 0, 1) (List.mem_of_getElem? (i := 18) rfl)) rfl, ?_⟩
  refine List.forall_mem_cons.mpr ⟨s_aload_n (dd_X5_copyFrom (37, .aload_n 0, 1) (List.mem_of_getElem? (i := 19) rfl)) rfl, ?_⟩
  refine List.forall_mem_cons.mpr ⟨s_getR (k := 4) K5 (by decide) (dd_X5_copyFrom (38, .getfield 9, 3) (List.mem_of_getElem? (i := 20) rfl)) ow_X5_copyFrom fl5_9 rfl, ?_⟩
  refine List.forall_mem_cons.mpr ⟨s_iconst (dd_X5_copyFrom (41, .iconst 0, 1) (List.mem_of_getElem? (i := 21) rfl)) rfl, ?_⟩
  refine List.forall_mem_cons.mpr ⟨s_iconst (dd_X5_copyFrom (42, .iconst 5, 1) (List.mem_of_getElem? (i := 22) rfl)) rfl, ?_⟩
  refine List.forall_mem_cons.mpr ⟨s_copy (dd_X5_copyFrom (43, .invokestatic 41, 3) (List.mem_of_getElem? (i := 23) rfl)) ow_X5_copyFrom ml5_41 cp1 cp2 cp3, ?_⟩
  refine List.forall_mem_cons.mpr ⟨s_aload_n (dd_X5_copyFrom (46, .aload_n 1, 1) (List.mem_of_getElem? (i := 24) rfl)) rfl, ?_⟩
  refine List.forall_mem_cons.mpr ⟨s_getR (k := 5) K5 (by decide) (dd_X5_copyFrom (47, .getfield 15, 3) (List.mem_of_getElem? (i := 25) rfl)) ow_X5_copyFrom fl5_15 rfl, ?_⟩
  refine List.forall_mem_cons.mpr ⟨s_iconst (dd_X5_copyFrom (50, .iconst 0, 1) (List.mem_of_getElem? (i := 26) rfl)) rfl, ?_⟩
  refine List.forall_mem_cons.mpr ⟨s_aload_n (dd_X5_copyFrom (51, .aload_n 0, 1) (List.mem_of_getElem? (i := 27) rfl)) rfl, ?_⟩
  refine List.forall_mem_cons.mpr ⟨s_getR (k := 5) K5 (by decide) (dd_X5_copyFrom (52, .getfield 15, 3) (List.mem_of_getElem? (i := 28) rfl)) ow_X5_copyFrom fl5_15 rfl, ?_⟩
  refine List.forall_mem_cons.mpr ⟨s_iconst (dd_X5_copyFrom (55, .iconst 0, 1) (List.mem_of_getElem? (i := 29) rfl)) rfl, ?_⟩
  refine List.forall_mem_cons.mpr ⟨s_iconst (dd_X5_copyFrom (56, .iconst 5, 1) (List.mem_of_getElem? (i := 30) rfl)) rfl, ?_⟩
  refine List.forall_mem_cons.mpr ⟨s_copy (dd_X5_copyFrom (57, .invokestatic 41, 3) (List.mem_of_getElem? (i := 31) rfl)) ow_X5_copyFrom ml5_41 cp1 cp2 cp3, ?_⟩
  refine List.forall_mem_cons.mpr ⟨s_aload_n (dd_X5_copyFrom (60, .aload_n 1, 1) (List.mem_of_getElem? (i := 32) rfl)) rfl, ?_⟩
  refine List.forall_mem_cons.mpr ⟨s_getR (k := 6) K5 (by decide) (dd_X5_copyFrom (61, .getfield 18, 3) (List.mem_of_getElem? (i := 33) rfl)) ow_X5_copyFrom fl5_18 rfl, ?_⟩
  refine List.forall_mem_cons.mpr ⟨s_iconst (dd_X5_copyFrom (64, .iconst 0, 1) (List.mem_of_getElem? (i := 34) rfl)) rfl, ?_⟩
  refine List.forall_mem_cons.mpr ⟨s_aload_n (dd_X5_copyFrom (65, .aload_n 0, 1) (List.mem_of_getElem? (i := 35) rfl)) rfl, ?_⟩
  refine List.forall_mem_cons.mpr ⟨s_getR (k := 6) K5 (by decide) (dd_X5_copyFrom (66, .getfield 18, 3) (List.mem_of_getElem? (i := 36) rfl)) ow_X5_copyFrom fl5_18 rfl, ?_⟩
  refine List.forall_mem_cons.mpr ⟨s_iconst (dd_X5_copyFrom (69, .iconst 0, 1) (List.mem_of_getElem? (i := 37) rfl)) rfl, ?_⟩
  refine List.forall_mem_cons.mpr ⟨s_iconst (dd_X5_copyFrom (70, .iconst 5, 1) (List.mem_of_getElem? (i := 38) rfl)) rfl, ?_⟩
  refine List.forall_mem_cons.mpr ⟨s_copy (dd_X5_copyFrom (71, .invokestatic 41, 3) (List.mem_of_getElem? (i := 39) rfl)) ow_X5_copyFrom ml5_41 cp1 cp2 cp3, ?_⟩
  refine List.forall_mem_cons.mpr ⟨s_aload_n (dd_X5_copyFrom (74, .aload_n 1, 1) (List.mem_of_getElem? (i := 40) rfl)) rfl, ?_⟩
  refine List.forall_mem_cons.mpr ⟨s_getR (k := 7) K5 (by decide) (dd_X5_copyFrom (75, .getfield 21, 3) (List.mem_of_getElem? (i := 41) rfl)) ow_X5_copyFrom fl5_21 rfl, ?_⟩
  refine List.forall_mem_cons.mpr ⟨s_iconst (dd_X5_copyFrom (78, .iconst 0, 1) (List.mem_of_getElem? (i := 42) rfl)) rfl, ?_⟩
  refine List.forall_mem_cons.mpr ⟨s_aload_n (dd_X5_copyFrom (79, .aload_n 0, 1) (List.mem_of_getElem? (i := 43) rfl)) rfl, ?_⟩
  refine List.forall_mem_cons.mpr ⟨s_getR (k := 7) K5 (by decide) (dd_X5_copyFrom (80, .getfield 21, 3) (List.mem_of_getElem? (i := 44) rfl)) ow_X5_copyFrom fl5_21 rfl, ?_⟩
  refine List.forall_mem_cons.mpr ⟨s_iconst (dd_X5_copyFrom (83, .iconst 0, 1) (List.mem_of_getElem? (i := 45) rfl)) rfl, ?_⟩
  refine List.forall_mem_cons.mpr ⟨s_bipush (dd_X5_copyFrom (84, .bipush 7, 2) (List.mem_of_getElem? (i := 46) rfl)) rfl, ?_⟩
  refine List.forall_mem_cons.mpr ⟨s_copy (dd_X5_copyFrom (86, .invokestatic 41, 3) (List.mem_of_getElem? (i := 47) rfl)) ow_X5_copyFrom ml5_41 cp1 cp2 cp3, ?_⟩
  refine List.forall_mem_cons.mpr ⟨s_aload_n (dd_X5_copyFrom (89, .aload_n 1, 1) (List.mem_of_getElem? (i := 48) rfl)) rfl, ?_⟩
  refine List.forall_mem_cons.mpr ⟨s_getR (k := 8) K5 (by decide) (dd_X5_copyFrom (90, .getfield 24, 3) (List.mem_of_getElem? (i := 49) rfl)) ow_X5_copyFrom fl5_24 rfl, ?_⟩
  refine List.forall_mem_cons.mpr ⟨s_iconst (dd_X5_copyFrom (93, .iconst 0, 1) (List.mem_of_getElem? (i := 50) rfl)) rfl, ?_⟩
  refine List.forall_mem_cons.mpr ⟨s_aload_n (dd_X5_copyFrom (94, .aload_n 0, 1) (List.mem_of_getElem? (i := 51) rfl)) rfl, ?_⟩
  refine List.forall_mem_cons.mpr ⟨s_getR (k := 8) K5 (by decide) (dd_X5_copyFrom (95, .getfield 24, 3) (List.mem_of_getElem? (i := 52) rfl)) ow_X5_copyFrom fl5_24 rfl, ?_⟩
  refine List.forall_mem_cons.mpr ⟨s_iconst (dd_X5_copyFrom (98, .iconst 0, 1) (List.mem_of_getElem? (i := 53) rfl)) rfl, ?_⟩
  refine List.forall_mem_cons.mpr ⟨s_bipush (dd_X5_copyFrom (99, .bipush 7, 2) (List.mem_of_getElem? (i := 54) rfl)) rfl, ?_⟩
  refine List.forall_mem_cons.mpr ⟨s_copy (dd_X5_copyFrom (101, .invokestatic 41, 3) (List.mem_of_getElem? (i := 55) rfl)) ow_X5_copyFrom ml5_41 cp1 cp2 cp3, ?_⟩
  refine List.forall_mem_cons.mpr ⟨Or.inl ⟨rfl, (dd_X5_copyFrom (104, .return_, 1) (List.mem_of_getElem? (i := 56) rfl)), rfl⟩, ?_⟩
  exact fun _ h => absurd h List.not_mem_nil
theorem ow_X5_addChild : (mtJ 64).1.cls = "SatchelSins$Roll" := rfl
def D_X5_addChild : List (Nat × Instr × Nat) := [(0, .aload_n 0, 1), (1, .getfield 35, 3), (4, .iconst 5, 1), (5, .if_icmp .ge 43, 3), (8, .aload_n 0, 1), (9, .getfield 9, 3), (12, .aload_n 0, 1), (13, .getfield 35, 3), (16, .iload_n 1, 1), (17, .iastore, 1), (18, .aload_n 0, 1), (19, .getfield 15, 3), (22, .aload_n 0, 1), (23, .getfield 35, 3), (26, .iload_n 2, 1), (27, .iastore, 1), (28, .aload_n 0, 1), (29, .getfield 18, 3), (32, .aload_n 0, 1), (33, .getfield 35, 3), (36, .iconst (-1), 1), (37, .iastore, 1), (38, .aload_n 0, 1), (39, .dup, 1), (40, .getfield 35, 3), (43, .iconst 1, 1), (44, .iadd, 1), (45, .putfield 35, 3), (48, .return_, 1)]
theorem dd_X5_addChild : ∀ e ∈ D_X5_addChild, decode (mtJ 64).2.1 e.1 = .ok e.2 := by decide +kernel
set_option maxRecDepth 10000 in
theorem so_X5_addChild : ∀ e ∈ o_X5_addChild, SndO 64 e.1 e.2 := by
  refine List.forall_mem_cons.mpr ⟨s_aload_n (dd_X5_addChild (0, .aload_n 0, 1) (List.mem_of_getElem? (i := 0) rfl)) rfl, ?_⟩
  refine List.forall_mem_cons.mpr ⟨s_getI (k := 2) K5 (by decide) (dd_X5_addChild (1, .getfield 35, 3) (List.mem_of_getElem? (i := 1) rfl)) ow_X5_addChild fl5_35 rfl, ?_⟩
  refine List.forall_mem_cons.mpr ⟨s_iconst (dd_X5_addChild (4, .iconst 5, 1) (List.mem_of_getElem? (i := 2) rfl)) rfl, ?_⟩
  refine List.forall_mem_cons.mpr ⟨s_icmp_ge (dd_X5_addChild (5, .if_icmp .ge 43, 3) (List.mem_of_getElem? (i := 3) rfl)) (by decide), ?_⟩
  refine List.forall_mem_cons.mpr ⟨s_aload_n (dd_X5_addChild (8, .aload_n 0, 1) (List.mem_of_getElem? (i := 4) rfl)) rfl, ?_⟩
  refine List.forall_mem_cons.mpr ⟨s_getR (k := 4) K5 (by decide) (dd_X5_addChild (9, .getfield 9, 3) (List.mem_of_getElem? (i := 5) rfl)) ow_X5_addChild fl5_9 rfl, ?_⟩
  refine List.forall_mem_cons.mpr ⟨s_aload_n (dd_X5_addChild (12, .aload_n 0, 1) (List.mem_of_getElem? (i := 6) rfl)) rfl, ?_⟩
  refine List.forall_mem_cons.mpr ⟨s_getI (k := 2) K5 (by decide) (dd_X5_addChild (13, .getfield 35, 3) (List.mem_of_getElem? (i := 7) rfl)) ow_X5_addChild fl5_35 rfl, ?_⟩
  refine List.forall_mem_cons.mpr ⟨s_iload_n (dd_X5_addChild (16, .iload_n 1, 1) (List.mem_of_getElem? (i := 8) rfl)) rfl, ?_⟩
  refine List.forall_mem_cons.mpr ⟨s_iast (dd_X5_addChild (17, .iastore, 1) (List.mem_of_getElem? (i := 9) rfl)), ?_⟩
  refine List.forall_mem_cons.mpr ⟨s_aload_n (dd_X5_addChild (18, .aload_n 0, 1) (List.mem_of_getElem? (i := 10) rfl)) rfl, ?_⟩
  refine List.forall_mem_cons.mpr ⟨s_getR (k := 5) K5 (by decide) (dd_X5_addChild (19, .getfield 15, 3) (List.mem_of_getElem? (i := 11) rfl)) ow_X5_addChild fl5_15 rfl, ?_⟩
  refine List.forall_mem_cons.mpr ⟨s_aload_n (dd_X5_addChild (22, .aload_n 0, 1) (List.mem_of_getElem? (i := 12) rfl)) rfl, ?_⟩
  refine List.forall_mem_cons.mpr ⟨s_getI (k := 2) K5 (by decide) (dd_X5_addChild (23, .getfield 35, 3) (List.mem_of_getElem? (i := 13) rfl)) ow_X5_addChild fl5_35 rfl, ?_⟩
  refine List.forall_mem_cons.mpr ⟨s_iload_n (dd_X5_addChild (26, .iload_n 2, 1) (List.mem_of_getElem? (i := 14) rfl)) rfl, ?_⟩
  refine List.forall_mem_cons.mpr ⟨s_iast (dd_X5_addChild (27, .iastore, 1) (List.mem_of_getElem? (i := 15) rfl)), ?_⟩
  refine List.forall_mem_cons.mpr ⟨s_aload_n (dd_X5_addChild (28, .aload_n 0, 1) (List.mem_of_getElem? (i := 16) rfl)) rfl, ?_⟩
  refine List.forall_mem_cons.mpr ⟨s_getR (k := 6) K5 (by decide) (dd_X5_addChild (29, .getfield 18, 3) (List.mem_of_getElem? (i := 17) rfl)) ow_X5_addChild fl5_18 rfl, ?_⟩
  refine List.forall_mem_cons.mpr ⟨s_aload_n (dd_X5_addChild (32, .aload_n 0, 1) (List.mem_of_getElem? (i := 18) rfl)) rfl, ?_⟩
  refine List.forall_mem_cons.mpr ⟨s_getI (k := 2) K5 (by decide) (dd_X5_addChild (33, .getfield 35, 3) (List.mem_of_getElem? (i := 19) rfl)) ow_X5_addChild fl5_35 rfl, ?_⟩
  refine List.forall_mem_cons.mpr ⟨s_iconst (dd_X5_addChild (36, .iconst (-1), 1) (List.mem_of_getElem? (i := 20) rfl)) rfl, ?_⟩
  refine List.forall_mem_cons.mpr ⟨s_iast (dd_X5_addChild (37, .iastore, 1) (List.mem_of_getElem? (i := 21) rfl)), ?_⟩
  refine List.forall_mem_cons.mpr ⟨s_aload_n (dd_X5_addChild (38, .aload_n 0, 1) (List.mem_of_getElem? (i := 22) rfl)) rfl, ?_⟩
  refine List.forall_mem_cons.mpr ⟨s_dup (dd_X5_addChild (39, .dup, 1) (List.mem_of_getElem? (i := 23) rfl)), ?_⟩
  refine List.forall_mem_cons.mpr ⟨s_getI (k := 2) K5 (by decide) (dd_X5_addChild (40, .getfield 35, 3) (List.mem_of_getElem? (i := 24) rfl)) ow_X5_addChild fl5_35 rfl, ?_⟩
  refine List.forall_mem_cons.mpr ⟨s_iconst (dd_X5_addChild (43, .iconst 1, 1) (List.mem_of_getElem? (i := 25) rfl)) rfl, ?_⟩
  refine List.forall_mem_cons.mpr ⟨s_iadd (dd_X5_addChild (44, .iadd, 1) (List.mem_of_getElem? (i := 26) rfl)), ?_⟩
  refine List.forall_mem_cons.mpr ⟨s_putI (k := 2) K5 (by decide) (dd_X5_addChild (45, .putfield 35, 3) (List.mem_of_getElem? (i := 27) rfl)) ow_X5_addChild fl5_35 (Or.inl rfl) rfl, ?_⟩
  refine List.forall_mem_cons.mpr ⟨Or.inl ⟨rfl, (dd_X5_addChild (48, .return_, 1) (List.mem_of_getElem? (i := 28) rfl)), rfl⟩, ?_⟩
  exact fun _ h => absurd h List.not_mem_nil
theorem ow_X5_addDeed : (mtJ 65).1.cls = "SatchelSins$Roll" := rfl
def D_X5_addDeed : List (Nat × Instr × Nat) := [(0, .aload_n 0, 1), (1, .getfield 38, 3), (4, .bipush 7, 2), (6, .if_icmp .ge 33, 3), (9, .aload_n 0, 1), (10, .getfield 21, 3), (13, .aload_n 0, 1), (14, .getfield 38, 3), (17, .iload_n 1, 1), (18, .iastore, 1), (19, .aload_n 0, 1), (20, .getfield 24, 3), (23, .aload_n 0, 1), (24, .getfield 38, 3), (27, .iload_n 2, 1), (28, .iastore, 1), (29, .aload_n 0, 1), (30, .dup, 1), (31, .getfield 38, 3), (34, .iconst 1, 1), (35, .iadd, 1), (36, .putfield 38, 3), (39, .return_, 1)]
theorem dd_X5_addDeed : ∀ e ∈ D_X5_addDeed, decode (mtJ 65).2.1 e.1 = .ok e.2 := by decide +kernel
set_option maxRecDepth 10000 in
theorem so_X5_addDeed : ∀ e ∈ o_X5_addDeed, SndO 65 e.1 e.2 := by
  refine List.forall_mem_cons.mpr ⟨s_aload_n (dd_X5_addDeed (0, .aload_n 0, 1) (List.mem_of_getElem? (i := 0) rfl)) rfl, ?_⟩
  refine List.forall_mem_cons.mpr ⟨s_getI (k := 3) K5 (by decide) (dd_X5_addDeed (1, .getfield 38, 3) (List.mem_of_getElem? (i := 1) rfl)) ow_X5_addDeed fl5_38 rfl, ?_⟩
  refine List.forall_mem_cons.mpr ⟨s_bipush (dd_X5_addDeed (4, .bipush 7, 2) (List.mem_of_getElem? (i := 2) rfl)) rfl, ?_⟩
  refine List.forall_mem_cons.mpr ⟨s_icmp_ge (dd_X5_addDeed (6, .if_icmp .ge 33, 3) (List.mem_of_getElem? (i := 3) rfl)) (by decide), ?_⟩
  refine List.forall_mem_cons.mpr ⟨s_aload_n (dd_X5_addDeed (9, .aload_n 0, 1) (List.mem_of_getElem? (i := 4) rfl)) rfl, ?_⟩
  refine List.forall_mem_cons.mpr ⟨s_getR (k := 7) K5 (by decide) (dd_X5_addDeed (10, .getfield 21, 3) (List.mem_of_getElem? (i := 5) rfl)) ow_X5_addDeed fl5_21 rfl, ?_⟩
  refine List.forall_mem_cons.mpr ⟨s_aload_n (dd_X5_addDeed (13, .aload_n 0, 1) (List.mem_of_getElem? (i := 6) rfl)) rfl, ?_⟩
  refine List.forall_mem_cons.mpr ⟨s_getI (k := 3) K5 (by decide) (dd_X5_addDeed (14, .getfield 38, 3) (List.mem_of_getElem? (i := 7) rfl)) ow_X5_addDeed fl5_38 rfl, ?_⟩
  refine List.forall_mem_cons.mpr ⟨s_iload_n (dd_X5_addDeed (17, .iload_n 1, 1) (List.mem_of_getElem? (i := 8) rfl)) rfl, ?_⟩
  refine List.forall_mem_cons.mpr ⟨s_iast (dd_X5_addDeed (18, .iastore, 1) (List.mem_of_getElem? (i := 9) rfl)), ?_⟩
  refine List.forall_mem_cons.mpr ⟨s_aload_n (dd_X5_addDeed (19, .aload_n 0, 1) (List.mem_of_getElem? (i := 10) rfl)) rfl, ?_⟩
  refine List.forall_mem_cons.mpr ⟨s_getR (k := 8) K5 (by decide) (dd_X5_addDeed (20, .getfield 24, 3) (List.mem_of_getElem? (i := 11) rfl)) ow_X5_addDeed fl5_24 rfl, ?_⟩
  refine List.forall_mem_cons.mpr ⟨s_aload_n (dd_X5_addDeed (23, .aload_n 0, 1) (List.mem_of_getElem? (i := 12) rfl)) rfl, ?_⟩
  refine List.forall_mem_cons.mpr ⟨s_getI (k := 3) K5 (by decide) (dd_X5_addDeed (24, .getfield 38, 3) (List.mem_of_getElem? (i := 13) rfl)) ow_X5_addDeed fl5_38 rfl, ?_⟩
  refine List.forall_mem_cons.mpr ⟨s_iload_n (dd_X5_addDeed (27, .iload_n 2, 1) (List.mem_of_getElem? (i := 14) rfl)) rfl, ?_⟩
  refine List.forall_mem_cons.mpr ⟨s_iast (dd_X5_addDeed (28, .iastore, 1) (List.mem_of_getElem? (i := 15) rfl)), ?_⟩
  refine List.forall_mem_cons.mpr ⟨s_aload_n (dd_X5_addDeed (29, .aload_n 0, 1) (List.mem_of_getElem? (i := 16) rfl)) rfl, ?_⟩
  refine List.forall_mem_cons.mpr ⟨s_dup (dd_X5_addDeed (30, .dup, 1) (List.mem_of_getElem? (i := 17) rfl)), ?_⟩
  refine List.forall_mem_cons.mpr ⟨s_getI (k := 3) K5 (by decide) (dd_X5_addDeed (31, .getfield 38, 3) (List.mem_of_getElem? (i := 18) rfl)) ow_X5_addDeed fl5_38 rfl, ?_⟩
  refine List.forall_mem_cons.mpr ⟨s_iconst (dd_X5_addDeed (34, .iconst 1, 1) (List.mem_of_getElem? (i := 19) rfl)) rfl, ?_⟩
  refine List.forall_mem_cons.mpr ⟨s_iadd (dd_X5_addDeed (35, .iadd, 1) (List.mem_of_getElem? (i := 20) rfl)), ?_⟩
  refine List.forall_mem_cons.mpr ⟨s_putI (k := 3) K5 (by decide) (dd_X5_addDeed (36, .putfield 38, 3) (List.mem_of_getElem? (i := 21) rfl)) ow_X5_addDeed fl5_38 (Or.inl rfl) rfl, ?_⟩
  refine List.forall_mem_cons.mpr ⟨Or.inl ⟨rfl, (dd_X5_addDeed (39, .return_, 1) (List.mem_of_getElem? (i := 22) rfl)), rfl⟩, ?_⟩
  exact fun _ h => absurd h List.not_mem_nil
theorem ow_X5_hasChild : (mtJ 66).1.cls = "SatchelSins$Roll" := rfl
def D_X5_hasChild : List (Nat × Instr × Nat) := [(0, .iload_n 1, 1), (1, .ifCond .lt 15, 3), (4, .iload_n 1, 1), (5, .aload_n 0, 1), (6, .getfield 35, 3), (9, .if_icmp .ge 7, 3), (12, .iconst 1, 1), (13, .goto 4, 3), (16, .iconst 0, 1), (17, .ireturn, 1)]
theorem dd_X5_hasChild : ∀ e ∈ D_X5_hasChild, decode (mtJ 66).2.1 e.1 = .ok e.2 := by decide +kernel
set_option maxRecDepth 10000 in
theorem so_X5_hasChild : ∀ e ∈ o_X5_hasChild, SndO 66 e.1 e.2 := by
  refine List.forall_mem_cons.mpr ⟨s_iload_n (dd_X5_hasChild (0, .iload_n 1, 1) (List.mem_of_getElem? (i := 0) rfl)) rfl, ?_⟩
  refine List.forall_mem_cons.mpr ⟨s_if_lt (dd_X5_hasChild (1, .ifCond .lt 15, 3) (List.mem_of_getElem? (i := 1) rfl)) (by decide), ?_⟩
  refine List.forall_mem_cons.mpr ⟨s_iload_n (dd_X5_hasChild (4, .iload_n 1, 1) (List.mem_of_getElem? (i := 2) rfl)) rfl, ?_⟩
  refine List.forall_mem_cons.mpr ⟨s_aload_n (dd_X5_hasChild (5, .aload_n 0, 1) (List.mem_of_getElem? (i := 3) rfl)) rfl, ?_⟩
  refine List.forall_mem_cons.mpr ⟨s_getI (k := 2) K5 (by decide) (dd_X5_hasChild (6, .getfield 35, 3) (List.mem_of_getElem? (i := 4) rfl)) ow_X5_hasChild fl5_35 rfl, ?_⟩
  refine List.forall_mem_cons.mpr ⟨s_icmp_ge (dd_X5_hasChild (9, .if_icmp .ge 7, 3) (List.mem_of_getElem? (i := 5) rfl)) (by decide), ?_⟩
  refine List.forall_mem_cons.mpr ⟨s_iconst (dd_X5_hasChild (12, .iconst 1, 1) (List.mem_of_getElem? (i := 6) rfl)) rfl, ?_⟩
  refine List.forall_mem_cons.mpr ⟨s_goto (dd_X5_hasChild (13, .goto 4, 3) (List.mem_of_getElem? (i := 7) rfl)) (by decide), ?_⟩
  refine List.forall_mem_cons.mpr ⟨s_iconst (dd_X5_hasChild (16, .iconst 0, 1) (List.mem_of_getElem? (i := 8) rfl)) rfl, ?_⟩
  refine List.forall_mem_cons.mpr ⟨Or.inr (Or.inr ⟨rfl, (dd_X5_hasChild (17, .ireturn, 1) (List.mem_of_getElem? (i := 9) rfl)), rfl⟩), ?_⟩
  exact fun _ h => absurd h List.not_mem_nil
theorem ow_X5_hasDeed : (mtJ 67).1.cls = "SatchelSins$Roll" := rfl
def D_X5_hasDeed : List (Nat × Instr × Nat) := [(0, .iload_n 1, 1), (1, .ifCond .lt 15, 3), (4, .iload_n 1, 1), (5, .aload_n 0, 1), (6, .getfield 38, 3), (9, .if_icmp .ge 7, 3), (12, .iconst 1, 1), (13, .goto 4, 3), (16, .iconst 0, 1), (17, .ireturn, 1)]
theorem dd_X5_hasDeed : ∀ e ∈ D_X5_hasDeed, decode (mtJ 67).2.1 e.1 = .ok e.2 := by decide +kernel
set_option maxRecDepth 10000 in
theorem so_X5_hasDeed : ∀ e ∈ o_X5_hasDeed, SndO 67 e.1 e.2 := by
  refine List.forall_mem_cons.mpr ⟨s_iload_n (dd_X5_hasDeed (0, .iload_n 1, 1) (List.mem_of_getElem? (i := 0) rfl)) rfl, ?_⟩
  refine List.forall_mem_cons.mpr ⟨s_if_lt (dd_X5_hasDeed (1, .ifCond .lt 15, 3) (List.mem_of_getElem? (i := 1) rfl)) (by decide), ?_⟩
  refine List.forall_mem_cons.mpr ⟨s_iload_n (dd_X5_hasDeed (4, .iload_n 1, 1) (List.mem_of_getElem? (i := 2) rfl)) rfl, ?_⟩
  refine List.forall_mem_cons.mpr ⟨s_aload_n (dd_X5_hasDeed (5, .aload_n 0, 1) (List.mem_of_getElem? (i := 3) rfl)) rfl, ?_⟩
  refine List.forall_mem_cons.mpr ⟨s_getI (k := 3) K5 (by decide) (dd_X5_hasDeed (6, .getfield 38, 3) (List.mem_of_getElem? (i := 4) rfl)) ow_X5_hasDeed fl5_38 rfl, ?_⟩
  refine List.forall_mem_cons.mpr ⟨s_icmp_ge (dd_X5_hasDeed (9, .if_icmp .ge 7, 3) (List.mem_of_getElem? (i := 5) rfl)) (by decide), ?_⟩
  refine List.forall_mem_cons.mpr ⟨s_iconst (dd_X5_hasDeed (12, .iconst 1, 1) (List.mem_of_getElem? (i := 6) rfl)) rfl, ?_⟩
  refine List.forall_mem_cons.mpr ⟨s_goto (dd_X5_hasDeed (13, .goto 4, 3) (List.mem_of_getElem? (i := 7) rfl)) (by decide), ?_⟩
  refine List.forall_mem_cons.mpr ⟨s_iconst (dd_X5_hasDeed (16, .iconst 0, 1) (List.mem_of_getElem? (i := 8) rfl)) rfl, ?_⟩
  refine List.forall_mem_cons.mpr ⟨Or.inr (Or.inr ⟨rfl, (dd_X5_hasDeed (17, .ireturn, 1) (List.mem_of_getElem? (i := 9) rfl)), rfl⟩), ?_⟩
  exact fun _ h => absurd h List.not_mem_nil
theorem ow_X5_childAfter : (mtJ 68).1.cls = "SatchelSins$Roll" := rfl
def D_X5_childAfter : List (Nat × Instr × Nat) := [(0, .aload_n 0, 1), (1, .iload_n 1, 1), (2, .iconst 1, 1), (3, .iadd, 1), (4, .invokevirtual 47, 3), (7, .ifCond .eq 9, 3), (10, .iload_n 1, 1), (11, .iconst 1, 1), (12, .iadd, 1), (13, .goto 4, 3), (16, .iconst 0, 1), (17, .ireturn, 1)]
theorem dd_X5_childAfter : ∀ e ∈ D_X5_childAfter, decode (mtJ 68).2.1 e.1 = .ok e.2 := by decide +kernel
set_option maxRecDepth 10000 in
theorem so_X5_childAfter : ∀ e ∈ o_X5_childAfter, SndO 68 e.1 e.2 := by
  refine List.forall_mem_cons.mpr ⟨s_aload_n (dd_X5_childAfter (0, .aload_n 0, 1) (List.mem_of_getElem? (i := 0) rfl)) rfl, ?_⟩
  refine List.forall_mem_cons.mpr ⟨s_iload_n (dd_X5_childAfter (1, .iload_n 1, 1) (List.mem_of_getElem? (i := 1) rfl)) rfl, ?_⟩
  refine List.forall_mem_cons.mpr ⟨s_iconst (dd_X5_childAfter (2, .iconst 1, 1) (List.mem_of_getElem? (i := 2) rfl)) rfl, ?_⟩
  refine List.forall_mem_cons.mpr ⟨s_iadd (dd_X5_childAfter (3, .iadd, 1) (List.mem_of_getElem? (i := 3) rfl)), ?_⟩
  refine List.forall_mem_cons.mpr ⟨⟨s_callV (ci := 5) rfl mo66 rfl rfl (dd_X5_childAfter (4, .invokevirtual 47, 3) (List.mem_of_getElem? (i := 4) rfl)) ow_X5_childAfter ml5_47 mi66 msl66 in_5 mn66, mo66⟩, ?_⟩
  refine List.forall_mem_cons.mpr ⟨s_if_eq (dd_X5_childAfter (7, .ifCond .eq 9, 3) (List.mem_of_getElem? (i := 5) rfl)) (by decide), ?_⟩
  refine List.forall_mem_cons.mpr ⟨s_iload_n (dd_X5_childAfter (10, .iload_n 1, 1) (List.mem_of_getElem? (i := 6) rfl)) rfl, ?_⟩
  refine List.forall_mem_cons.mpr ⟨s_iconst (dd_X5_childAfter (11, .iconst 1, 1) (List.mem_of_getElem? (i := 7) rfl)) rfl, ?_⟩
  refine List.forall_mem_cons.mpr ⟨s_iadd (dd_X5_childAfter (12, .iadd, 1) (List.mem_of_getElem? (i := 8) rfl)), ?_⟩
  refine List.forall_mem_cons.mpr ⟨s_goto (dd_X5_childAfter (13, .goto 4, 3) (List.mem_of_getElem? (i := 9) rfl)) (by decide), ?_⟩
  refine List.forall_mem_cons.mpr ⟨s_iconst (dd_X5_childAfter (16, .iconst 0, 1) (List.mem_of_getElem? (i := 10) rfl)) rfl, ?_⟩
  refine List.forall_mem_cons.mpr ⟨Or.inr (Or.inl ⟨rfl, (dd_X5_childAfter (17, .ireturn, 1) (List.mem_of_getElem? (i := 11) rfl)), rfl⟩), ?_⟩
  exact fun _ h => absurd h List.not_mem_nil
theorem ow_X5_canHandDown : (mtJ 69).1.cls = "SatchelSins$Roll" := rfl
def D_X5_canHandDown : List (Nat × Instr × Nat) := [(0, .iload_n 1, 1), (1, .iload_n 2, 1), (2, .if_icmp .eq 26, 3), (5, .aload_n 0, 1), (6, .getfield 18, 3), (9, .iload_n 2, 1), (10, .iaload, 1), (11, .iconst (-1), 1), (12, .if_icmp .ne 16, 3), (15, .aload_n 0, 1), (16, .iload_n 1, 1), (17, .iload_n 2, 1), (18, .invokevirtual 51, 3), (21, .ifCond .ne 7, 3), (24, .iconst 1, 1), (25, .goto 4, 3), (28, .iconst 0, 1), (29, .ireturn, 1)]
theorem dd_X5_canHandDown : ∀ e ∈ D_X5_canHandDown, decode (mtJ 69).2.1 e.1 = .ok e.2 := by decide +kernel
set_option maxRecDepth 10000 in
theorem so_X5_canHandDown : ∀ e ∈ o_X5_canHandDown, SndO 69 e.1 e.2 := by
  refine List.forall_mem_cons.mpr ⟨s_iload_n (dd_X5_canHandDown (0, .iload_n 1, 1) (List.mem_of_getElem? (i := 0) rfl)) rfl, ?_⟩
  refine List.forall_mem_cons.mpr ⟨s_iload_n (dd_X5_canHandDown (1, .iload_n 2, 1) (List.mem_of_getElem? (i := 1) rfl)) rfl, ?_⟩
  refine List.forall_mem_cons.mpr ⟨s_icmp_eq (dd_X5_canHandDown (2, .if_icmp .eq 26, 3) (List.mem_of_getElem? (i := 2) rfl)) (by decide), ?_⟩
  refine List.forall_mem_cons.mpr ⟨s_aload_n (dd_X5_canHandDown (5, .aload_n 0, 1) (List.mem_of_getElem? (i := 3) rfl)) rfl, ?_⟩
  refine List.forall_mem_cons.mpr ⟨s_getR (k := 6) K5 (by decide) (dd_X5_canHandDown (6, .getfield 18, 3) (List.mem_of_getElem? (i := 4) rfl)) ow_X5_canHandDown fl5_18 rfl, ?_⟩
  refine List.forall_mem_cons.mpr ⟨s_iload_n (dd_X5_canHandDown (9, .iload_n 2, 1) (List.mem_of_getElem? (i := 5) rfl)) rfl, ?_⟩
  refine List.forall_mem_cons.mpr ⟨s_iald (dd_X5_canHandDown (10, .iaload, 1) (List.mem_of_getElem? (i := 6) rfl)), ?_⟩
  refine List.forall_mem_cons.mpr ⟨s_iconst (dd_X5_canHandDown (11, .iconst (-1), 1) (List.mem_of_getElem? (i := 7) rfl)) rfl, ?_⟩
  refine List.forall_mem_cons.mpr ⟨s_icmp_ne (dd_X5_canHandDown (12, .if_icmp .ne 16, 3) (List.mem_of_getElem? (i := 8) rfl)) (by decide), ?_⟩
  refine List.forall_mem_cons.mpr ⟨s_aload_n (dd_X5_canHandDown (15, .aload_n 0, 1) (List.mem_of_getElem? (i := 9) rfl)) rfl, ?_⟩
  refine List.forall_mem_cons.mpr ⟨s_iload_n (dd_X5_canHandDown (16, .iload_n 1, 1) (List.mem_of_getElem? (i := 10) rfl)) rfl, ?_⟩
  refine List.forall_mem_cons.mpr ⟨s_iload_n (dd_X5_canHandDown (17, .iload_n 2, 1) (List.mem_of_getElem? (i := 11) rfl)) rfl, ?_⟩
  refine List.forall_mem_cons.mpr ⟨⟨s_callV (ci := 5) rfl mo70 rfl rfl (dd_X5_canHandDown (18, .invokevirtual 51, 3) (List.mem_of_getElem? (i := 12) rfl)) ow_X5_canHandDown ml5_51 mi70 msl70 in_5 mn70, mo70⟩, ?_⟩
  refine List.forall_mem_cons.mpr ⟨s_if_ne (dd_X5_canHandDown (21, .ifCond .ne 7, 3) (List.mem_of_getElem? (i := 13) rfl)) (by decide), ?_⟩
  refine List.forall_mem_cons.mpr ⟨s_iconst (dd_X5_canHandDown (24, .iconst 1, 1) (List.mem_of_getElem? (i := 14) rfl)) rfl, ?_⟩
  refine List.forall_mem_cons.mpr ⟨s_goto (dd_X5_canHandDown (25, .goto 4, 3) (List.mem_of_getElem? (i := 15) rfl)) (by decide), ?_⟩
  refine List.forall_mem_cons.mpr ⟨s_iconst (dd_X5_canHandDown (28, .iconst 0, 1) (List.mem_of_getElem? (i := 16) rfl)) rfl, ?_⟩
  refine List.forall_mem_cons.mpr ⟨Or.inr (Or.inr ⟨rfl, (dd_X5_canHandDown (29, .ireturn, 1) (List.mem_of_getElem? (i := 17) rfl)), rfl⟩), ?_⟩
  exact fun _ h => absurd h List.not_mem_nil
theorem ow_X5_hasItFrom : (mtJ 70).1.cls = "SatchelSins$Roll" := rfl
def D_X5_hasItFrom : List (Nat × Instr × Nat) := [(0, .iload_n 1, 1), (1, .istore_n 3, 1), (2, .iconst 0, 1), (3, .istore 4, 2), (5, .iload 4, 2), (7, .aload_n 0, 1), (8, .getfield 35, 3), (11, .if_icmp .ge 31, 3), (14, .aload_n 0, 1), (15, .iload_n 3, 1), (16, .invokevirtual 47, 3), (19, .ifCond .eq 23, 3), (22, .aload_n 0, 1), (23, .getfield 18, 3), (26, .iload_n 3, 1), (27, .iaload, 1), (28, .istore_n 3, 1), (29, .iload_n 3, 1), (30, .iload_n 2, 1), (31, .if_icmp .ne 5, 3), (34, .iconst 1, 1), (35, .ireturn, 1), (36, .iinc 4 1, 3), (39, .goto (-34), 3), (42, .iconst 0, 1), (43, .ireturn, 1)]
theorem dd_X5_hasItFrom : ∀ e ∈ D_X5_hasItFrom, decode (mtJ 70).2.1 e.1 = .ok e.2 := by decide +kernel
set_option maxRecDepth 10000 in
theorem so_X5_hasItFrom : ∀ e ∈ o_X5_hasItFrom, SndO 70 e.1 e.2 := by
  refine List.forall_mem_cons.mpr ⟨s_iload_n (dd_X5_hasItFrom (0, .iload_n 1, 1) (List.mem_of_getElem? (i := 0) rfl)) rfl, ?_⟩
  refine List.forall_mem_cons.mpr ⟨s_istore_n (dd_X5_hasItFrom (1, .istore_n 3, 1) (List.mem_of_getElem? (i := 1) rfl)) rfl, ?_⟩
  refine List.forall_mem_cons.mpr ⟨s_iconst (dd_X5_hasItFrom (2, .iconst 0, 1) (List.mem_of_getElem? (i := 2) rfl)) rfl, ?_⟩
  refine List.forall_mem_cons.mpr ⟨s_istore (dd_X5_hasItFrom (3, .istore 4, 2) (List.mem_of_getElem? (i := 3) rfl)), ?_⟩
  refine List.forall_mem_cons.mpr ⟨s_iload (dd_X5_hasItFrom (5, .iload 4, 2) (List.mem_of_getElem? (i := 4) rfl)), ?_⟩
  refine List.forall_mem_cons.mpr ⟨s_aload_n (dd_X5_hasItFrom (7, .aload_n 0, 1) (List.mem_of_getElem? (i := 5) rfl)) rfl, ?_⟩
  refine List.forall_mem_cons.mpr ⟨s_getI (k := 2) K5 (by decide) (dd_X5_hasItFrom (8, .getfield 35, 3) (List.mem_of_getElem? (i := 6) rfl)) ow_X5_hasItFrom fl5_35 rfl, ?_⟩
  refine List.forall_mem_cons.mpr ⟨s_icmp_ge (dd_X5_hasItFrom (11, .if_icmp .ge 31, 3) (List.mem_of_getElem? (i := 7) rfl)) (by decide), ?_⟩
  refine List.forall_mem_cons.mpr ⟨s_aload_n (dd_X5_hasItFrom (14, .aload_n 0, 1) (List.mem_of_getElem? (i := 8) rfl)) rfl, ?_⟩
  refine List.forall_mem_cons.mpr ⟨s_iload_n (dd_X5_hasItFrom (15, .iload_n 3, 1) (List.mem_of_getElem? (i := 9) rfl)) rfl, ?_⟩
  refine List.forall_mem_cons.mpr ⟨⟨s_callV (ci := 5) rfl mo66 rfl rfl (dd_X5_hasItFrom (16, .invokevirtual 47, 3) (List.mem_of_getElem? (i := 10) rfl)) ow_X5_hasItFrom ml5_47 mi66 msl66 in_5 mn66, mo66⟩, ?_⟩
  refine List.forall_mem_cons.mpr ⟨s_if_eq (dd_X5_hasItFrom (19, .ifCond .eq 23, 3) (List.mem_of_getElem? (i := 11) rfl)) (by decide), ?_⟩
  refine List.forall_mem_cons.mpr ⟨s_aload_n (dd_X5_hasItFrom (22, .aload_n 0, 1) (List.mem_of_getElem? (i := 12) rfl)) rfl, ?_⟩
  refine List.forall_mem_cons.mpr ⟨s_getR (k := 6) K5 (by decide) (dd_X5_hasItFrom (23, .getfield 18, 3) (List.mem_of_getElem? (i := 13) rfl)) ow_X5_hasItFrom fl5_18 rfl, ?_⟩
  refine List.forall_mem_cons.mpr ⟨s_iload_n (dd_X5_hasItFrom (26, .iload_n 3, 1) (List.mem_of_getElem? (i := 14) rfl)) rfl, ?_⟩
  refine List.forall_mem_cons.mpr ⟨s_iald (dd_X5_hasItFrom (27, .iaload, 1) (List.mem_of_getElem? (i := 15) rfl)), ?_⟩
  refine List.forall_mem_cons.mpr ⟨s_istore_n (dd_X5_hasItFrom (28, .istore_n 3, 1) (List.mem_of_getElem? (i := 16) rfl)) rfl, ?_⟩
  refine List.forall_mem_cons.mpr ⟨s_iload_n (dd_X5_hasItFrom (29, .iload_n 3, 1) (List.mem_of_getElem? (i := 17) rfl)) rfl, ?_⟩
  refine List.forall_mem_cons.mpr ⟨s_iload_n (dd_X5_hasItFrom (30, .iload_n 2, 1) (List.mem_of_getElem? (i := 18) rfl)) rfl, ?_⟩
  refine List.forall_mem_cons.mpr ⟨s_icmp_ne (dd_X5_hasItFrom (31, .if_icmp .ne 5, 3) (List.mem_of_getElem? (i := 19) rfl)) (by decide), ?_⟩
  refine List.forall_mem_cons.mpr ⟨s_iconst (dd_X5_hasItFrom (34, .iconst 1, 1) (List.mem_of_getElem? (i := 20) rfl)) rfl, ?_⟩
  refine List.forall_mem_cons.mpr ⟨Or.inr (Or.inr ⟨rfl, (dd_X5_hasItFrom (35, .ireturn, 1) (List.mem_of_getElem? (i := 21) rfl)), rfl⟩), ?_⟩
  refine List.forall_mem_cons.mpr ⟨s_iinc (dd_X5_hasItFrom (36, .iinc 4 1, 3) (List.mem_of_getElem? (i := 22) rfl)) rfl, ?_⟩
  refine List.forall_mem_cons.mpr ⟨s_goto (dd_X5_hasItFrom (39, .goto (-34), 3) (List.mem_of_getElem? (i := 23) rfl)) (by decide), ?_⟩
  refine List.forall_mem_cons.mpr ⟨s_iconst (dd_X5_hasItFrom (42, .iconst 0, 1) (List.mem_of_getElem? (i := 24) rfl)) rfl, ?_⟩
  refine List.forall_mem_cons.mpr ⟨Or.inr (Or.inr ⟨rfl, (dd_X5_hasItFrom (43, .ireturn, 1) (List.mem_of_getElem? (i := 25) rfl)), rfl⟩), ?_⟩
  exact fun _ h => absurd h List.not_mem_nil
theorem ow_X5_firstOf : (mtJ 71).1.cls = "SatchelSins$Roll" := rfl
def D_X5_firstOf : List (Nat × Instr × Nat) := [(0, .iload_n 1, 1), (1, .istore_n 2, 1), (2, .iconst 0, 1), (3, .istore_n 3, 1), (4, .iload_n 3, 1), (5, .aload_n 0, 1), (6, .getfield 35, 3), (9, .if_icmp .ge 34, 3), (12, .aload_n 0, 1), (13, .iload_n 2, 1), (14, .invokevirtual 47, 3), (17, .ifCond .eq 20, 3), (20, .aload_n 0, 1), (21, .getfield 18, 3), (24, .iload_n 2, 1), (25, .iaload, 1), (26, .iconst (-1), 1), (27, .if_icmp .eq 10, 3), (30, .aload_n 0, 1), (31, .getfield 18, 3), (34, .iload_n 2, 1), (35, .iaload, 1), (36, .istore_n 2, 1), (37, .iinc 3 1, 3), (40, .goto (-36), 3), (43, .iload_n 2, 1), (44, .ireturn, 1)]
theorem dd_X5_firstOf : ∀ e ∈ D_X5_firstOf, decode (mtJ 71).2.1 e.1 = .ok e.2 := by decide +kernel
set_option maxRecDepth 10000 in
theorem so_X5_firstOf : ∀ e ∈ o_X5_firstOf, SndO 71 e.1 e.2 := by
  refine List.forall_mem_cons.mpr ⟨s_iload_n (dd_X5_firstOf (0, .iload_n 1, 1) (List.mem_of_getElem? (i := 0) rfl)) rfl, ?_⟩
  refine List.forall_mem_cons.mpr ⟨s_istore_n (dd_X5_firstOf (1, .istore_n 2, 1) (List.mem_of_getElem? (i := 1) rfl)) rfl, ?_⟩
  refine List.forall_mem_cons.mpr ⟨s_iconst (dd_X5_firstOf (2, .iconst 0, 1) (List.mem_of_getElem? (i := 2) rfl)) rfl, ?_⟩
  refine List.forall_mem_cons.mpr ⟨s_istore_n (dd_X5_firstOf (3, .istore_n 3, 1) (List.mem_of_getElem? (i := 3) rfl)) rfl, ?_⟩
  refine List.forall_mem_cons.mpr ⟨s_iload_n (dd_X5_firstOf (4, .iload_n 3, 1) (List.mem_of_getElem? (i := 4) rfl)) rfl, ?_⟩
  refine List.forall_mem_cons.mpr ⟨s_aload_n (dd_X5_firstOf (5, .aload_n 0, 1) (List.mem_of_getElem? (i := 5) rfl)) rfl, ?_⟩
  refine List.forall_mem_cons.mpr ⟨s_getI (k := 2) K5 (by decide) (dd_X5_firstOf (6, .getfield 35, 3) (List.mem_of_getElem? (i := 6) rfl)) ow_X5_firstOf fl5_35 rfl, ?_⟩
  refine List.forall_mem_cons.mpr ⟨s_icmp_ge (dd_X5_firstOf (9, .if_icmp .ge 34, 3) (List.mem_of_getElem? (i := 7) rfl)) (by decide), ?_⟩
  refine List.forall_mem_cons.mpr ⟨s_aload_n (dd_X5_firstOf (12, .aload_n 0, 1) (List.mem_of_getElem? (i := 8) rfl)) rfl, ?_⟩
  refine List.forall_mem_cons.mpr ⟨s_iload_n (dd_X5_firstOf (13, .iload_n 2, 1) (List.mem_of_getElem? (i := 9) rfl)) rfl, ?_⟩
  refine List.forall_mem_cons.mpr ⟨⟨s_callV (ci := 5) rfl mo66 rfl rfl (dd_X5_firstOf (14, .invokevirtual 47, 3) (List.mem_of_getElem? (i := 10) rfl)) ow_X5_firstOf ml5_47 mi66 msl66 in_5 mn66, mo66⟩, ?_⟩
  refine List.forall_mem_cons.mpr ⟨s_if_eq (dd_X5_firstOf (17, .ifCond .eq 20, 3) (List.mem_of_getElem? (i := 11) rfl)) (by decide), ?_⟩
  refine List.forall_mem_cons.mpr ⟨s_aload_n (dd_X5_firstOf (20, .aload_n 0, 1) (List.mem_of_getElem? (i := 12) rfl)) rfl, ?_⟩
  refine List.forall_mem_cons.mpr ⟨s_getR (k := 6) K5 (by decide) (dd_X5_firstOf (21, .getfield 18, 3) (List.mem_of_getElem? (i := 13) rfl)) ow_X5_firstOf fl5_18 rfl, ?_⟩
  refine List.forall_mem_cons.mpr ⟨s_iload_n (dd_X5_firstOf (24, .iload_n 2, 1) (List.mem_of_getElem? (i := 14) rfl)) rfl, ?_⟩
  refine List.forall_mem_cons.mpr ⟨s_iald (dd_X5_firstOf (25, .iaload, 1) (List.mem_of_getElem? (i := 15) rfl)), ?_⟩
  refine List.forall_mem_cons.mpr ⟨s_iconst (dd_X5_firstOf (26, .iconst (-1), 1) (List.mem_of_getElem? (i := 16) rfl)) rfl, ?_⟩
  refine List.forall_mem_cons.mpr ⟨s_icmp_eq (dd_X5_firstOf (27, .if_icmp .eq 10, 3) (List.mem_of_getElem? (i := 17) rfl)) (by decide), ?_⟩
  refine List.forall_mem_cons.mpr ⟨s_aload_n (dd_X5_firstOf (30, .aload_n 0, 1) (List.mem_of_getElem? (i := 18) rfl)) rfl, ?_⟩
  refine List.forall_mem_cons.mpr ⟨s_getR (k := 6) K5 (by decide) (dd_X5_firstOf (31, .getfield 18, 3) (List.mem_of_getElem? (i := 19) rfl)) ow_X5_firstOf fl5_18 rfl, ?_⟩
  refine List.forall_mem_cons.mpr ⟨s_iload_n (dd_X5_firstOf (34, .iload_n 2, 1) (List.mem_of_getElem? (i := 20) rfl)) rfl, ?_⟩
  refine List.forall_mem_cons.mpr ⟨s_iald (dd_X5_firstOf (35, .iaload, 1) (List.mem_of_getElem? (i := 21) rfl)), ?_⟩
  refine List.forall_mem_cons.mpr ⟨s_istore_n (dd_X5_firstOf (36, .istore_n 2, 1) (List.mem_of_getElem? (i := 22) rfl)) rfl, ?_⟩
  refine List.forall_mem_cons.mpr ⟨s_iinc (dd_X5_firstOf (37, .iinc 3 1, 3) (List.mem_of_getElem? (i := 23) rfl)) rfl, ?_⟩
  refine List.forall_mem_cons.mpr ⟨s_goto (dd_X5_firstOf (40, .goto (-36), 3) (List.mem_of_getElem? (i := 24) rfl)) (by decide), ?_⟩
  refine List.forall_mem_cons.mpr ⟨s_iload_n (dd_X5_firstOf (43, .iload_n 2, 1) (List.mem_of_getElem? (i := 25) rfl)) rfl, ?_⟩
  refine List.forall_mem_cons.mpr ⟨Or.inr (Or.inl ⟨rfl, (dd_X5_firstOf (44, .ireturn, 1) (List.mem_of_getElem? (i := 26) rfl)), rfl⟩), ?_⟩
  exact fun _ h => absurd h List.not_mem_nil
theorem ow_X5_allWithFirst : (mtJ 72).1.cls = "SatchelSins$Roll" := rfl
def D_X5_allWithFirst : List (Nat × Instr × Nat) := [(0, .iconst 0, 1), (1, .istore_n 2, 1), (2, .iconst 0, 1), (3, .istore_n 3, 1), (4, .iload_n 3, 1), (5, .aload_n 0, 1), (6, .getfield 35, 3), (9, .if_icmp .ge 24, 3), (12, .aload_n 0, 1), (13, .iload_n 3, 1), (14, .invokevirtual 55, 3), (17, .iload_n 1, 1), (18, .if_icmp .ne 9, 3), (21, .iload_n 2, 1), (22, .iconst 1, 1), (23, .iload_n 3, 1), (24, .ishl, 1), (25, .ior, 1), (26, .istore_n 2, 1), (27, .iinc 3 1, 3), (30, .goto (-26), 3), (33, .iload_n 2, 1), (34, .ireturn, 1)]
theorem dd_X5_allWithFirst : ∀ e ∈ D_X5_allWithFirst, decode (mtJ 72).2.1 e.1 = .ok e.2 := by decide +kernel
set_option maxRecDepth 10000 in
theorem so_X5_allWithFirst : ∀ e ∈ o_X5_allWithFirst, SndO 72 e.1 e.2 := by
  refine List.forall_mem_cons.mpr ⟨s_iconst (dd_X5_allWithFirst (0, .iconst 0, 1) (List.mem_of_getElem? (i := 0) rfl)) rfl, ?_⟩
  refine List.forall_mem_cons.mpr ⟨s_istore_n (dd_X5_allWithFirst (1, .istore_n 2, 1) (List.mem_of_getElem? (i := 1) rfl)) rfl, ?_⟩
  refine List.forall_mem_cons.mpr ⟨s_iconst (dd_X5_allWithFirst (2, .iconst 0, 1) (List.mem_of_getElem? (i := 2) rfl)) rfl, ?_⟩
  refine List.forall_mem_cons.mpr ⟨s_istore_n (dd_X5_allWithFirst (3, .istore_n 3, 1) (List.mem_of_getElem? (i := 3) rfl)) rfl, ?_⟩
  refine List.forall_mem_cons.mpr ⟨s_iload_n (dd_X5_allWithFirst (4, .iload_n 3, 1) (List.mem_of_getElem? (i := 4) rfl)) rfl, ?_⟩
  refine List.forall_mem_cons.mpr ⟨s_aload_n (dd_X5_allWithFirst (5, .aload_n 0, 1) (List.mem_of_getElem? (i := 5) rfl)) rfl, ?_⟩
  refine List.forall_mem_cons.mpr ⟨s_getI (k := 2) K5 (by decide) (dd_X5_allWithFirst (6, .getfield 35, 3) (List.mem_of_getElem? (i := 6) rfl)) ow_X5_allWithFirst fl5_35 rfl, ?_⟩
  refine List.forall_mem_cons.mpr ⟨s_icmp_ge (dd_X5_allWithFirst (9, .if_icmp .ge 24, 3) (List.mem_of_getElem? (i := 7) rfl)) (by decide), ?_⟩
  refine List.forall_mem_cons.mpr ⟨s_aload_n (dd_X5_allWithFirst (12, .aload_n 0, 1) (List.mem_of_getElem? (i := 8) rfl)) rfl, ?_⟩
  refine List.forall_mem_cons.mpr ⟨s_iload_n (dd_X5_allWithFirst (13, .iload_n 3, 1) (List.mem_of_getElem? (i := 9) rfl)) rfl, ?_⟩
  refine List.forall_mem_cons.mpr ⟨⟨s_callV (ci := 5) rfl mo71 rfl rfl (dd_X5_allWithFirst (14, .invokevirtual 55, 3) (List.mem_of_getElem? (i := 10) rfl)) ow_X5_allWithFirst ml5_55 mi71 msl71 in_5 mn71, mo71⟩, ?_⟩
  refine List.forall_mem_cons.mpr ⟨s_iload_n (dd_X5_allWithFirst (17, .iload_n 1, 1) (List.mem_of_getElem? (i := 11) rfl)) rfl, ?_⟩
  refine List.forall_mem_cons.mpr ⟨s_icmp_ne (dd_X5_allWithFirst (18, .if_icmp .ne 9, 3) (List.mem_of_getElem? (i := 12) rfl)) (by decide), ?_⟩
  refine List.forall_mem_cons.mpr ⟨s_iload_n (dd_X5_allWithFirst (21, .iload_n 2, 1) (List.mem_of_getElem? (i := 13) rfl)) rfl, ?_⟩
  refine List.forall_mem_cons.mpr ⟨s_iconst (dd_X5_allWithFirst (22, .iconst 1, 1) (List.mem_of_getElem? (i := 14) rfl)) rfl, ?_⟩
  refine List.forall_mem_cons.mpr ⟨s_iload_n (dd_X5_allWithFirst (23, .iload_n 3, 1) (List.mem_of_getElem? (i := 15) rfl)) rfl, ?_⟩
  refine List.forall_mem_cons.mpr ⟨s_ishl (dd_X5_allWithFirst (24, .ishl, 1) (List.mem_of_getElem? (i := 16) rfl)), ?_⟩
  refine List.forall_mem_cons.mpr ⟨s_ior (dd_X5_allWithFirst (25, .ior, 1) (List.mem_of_getElem? (i := 17) rfl)), ?_⟩
  refine List.forall_mem_cons.mpr ⟨s_istore_n (dd_X5_allWithFirst (26, .istore_n 2, 1) (List.mem_of_getElem? (i := 18) rfl)) rfl, ?_⟩
  refine List.forall_mem_cons.mpr ⟨s_iinc (dd_X5_allWithFirst (27, .iinc 3 1, 3) (List.mem_of_getElem? (i := 19) rfl)) rfl, ?_⟩
  refine List.forall_mem_cons.mpr ⟨s_goto (dd_X5_allWithFirst (30, .goto (-26), 3) (List.mem_of_getElem? (i := 20) rfl)) (by decide), ?_⟩
  refine List.forall_mem_cons.mpr ⟨s_iload_n (dd_X5_allWithFirst (33, .iload_n 2, 1) (List.mem_of_getElem? (i := 21) rfl)) rfl, ?_⟩
  refine List.forall_mem_cons.mpr ⟨Or.inr (Or.inl ⟨rfl, (dd_X5_allWithFirst (34, .ireturn, 1) (List.mem_of_getElem? (i := 22) rfl)), rfl⟩), ?_⟩
  exact fun _ h => absurd h List.not_mem_nil
theorem ow_X6_init : (mtJ 73).1.cls = "SatchelSins$Scale" := rfl
def D_X6_init : List (Nat × Instr × Nat) := [(0, .aload_n 0, 1), (1, .invokespecial 3, 3), (4, .aload_n 0, 1), (5, .bipush 7, 2), (7, .newarray .int, 2), (9, .putfield 9, 3), (12, .aload_n 0, 1), (13, .aload_n 1, 1), (14, .putfield 15, 3), (17, .return_, 1)]
theorem dd_X6_init : ∀ e ∈ D_X6_init, decode (mtJ 73).2.1 e.1 = .ok e.2 := by decide +kernel
set_option maxRecDepth 10000 in
theorem so_X6_init : ∀ e ∈ o_X6_init, SndO 73 e.1 e.2 := by
  refine List.forall_mem_cons.mpr ⟨s_aload_n (dd_X6_init (0, .aload_n 0, 1) (List.mem_of_getElem? (i := 0) rfl)) rfl, ?_⟩
  refine List.forall_mem_cons.mpr ⟨s_obj (dd_X6_init (1, .invokespecial 3, 3) (List.mem_of_getElem? (i := 1) rfl)) ow_X6_init ml6_3 oi1 oi2, ?_⟩
  refine List.forall_mem_cons.mpr ⟨s_aload_n (dd_X6_init (4, .aload_n 0, 1) (List.mem_of_getElem? (i := 2) rfl)) rfl, ?_⟩
  refine List.forall_mem_cons.mpr ⟨s_bipush (dd_X6_init (5, .bipush 7, 2) (List.mem_of_getElem? (i := 3) rfl)) rfl, ?_⟩
  refine List.forall_mem_cons.mpr ⟨s_newI (dd_X6_init (7, .newarray .int, 2) (List.mem_of_getElem? (i := 4) rfl)) ac1, ?_⟩
  refine List.forall_mem_cons.mpr ⟨s_putR (k := 1) K6 (by decide) (dd_X6_init (9, .putfield 9, 3) (List.mem_of_getElem? (i := 5) rfl)) ow_X6_init fl6_9 (Or.inr ⟨rfl, rfl, rfl⟩) rfl (fun _ => rfl) (fun _ => rfl), ?_⟩
  refine List.forall_mem_cons.mpr ⟨s_aload_n (dd_X6_init (12, .aload_n 0, 1) (List.mem_of_getElem? (i := 6) rfl)) rfl, ?_⟩
  refine List.forall_mem_cons.mpr ⟨s_aload_n (dd_X6_init (13, .aload_n 1, 1) (List.mem_of_getElem? (i := 7) rfl)) rfl, ?_⟩
  refine List.forall_mem_cons.mpr ⟨s_putR (k := 0) K6 (by decide) (dd_X6_init (14, .putfield 15, 3) (List.mem_of_getElem? (i := 8) rfl)) ow_X6_init fl6_15 (Or.inr ⟨rfl, rfl, rfl⟩) rfl (fun _ => rfl) (fun _ => rfl), ?_⟩
  refine List.forall_mem_cons.mpr ⟨Or.inl ⟨rfl, (dd_X6_init (17, .return_, 1) (List.mem_of_getElem? (i := 9) rfl)), rfl⟩, ?_⟩
  exact fun _ h => absurd h List.not_mem_nil
theorem ow_X6_tryAllSets : (mtJ 74).1.cls = "SatchelSins$Scale" := rfl
def D_X6_tryAllSets : List (Nat × Instr × Nat) := [(0, .aload_n 0, 1), (1, .iconst 0, 1), (2, .putfield 19, 3), (5, .aload_n 0, 1), (6, .iconst (-1), 1), (7, .putfield 23, 3), (10, .aload_n 0, 1), (11, .iconst 0, 1), (12, .putfield 26, 3), (15, .aload_n 0, 1), (16, .getfield 9, 3), (19, .iconst 0, 1), (20, .invokestatic 29, 3), (23, .iconst 0, 1), (24, .istore_n 2, 1), (25, .iload_n 2, 1), (26, .iconst 1, 1), (27, .aload_n 0, 1), (28, .getfield 15, 3), (31, .getfield 35, 3), (34, .ishl, 1), (35, .if_icmp .ge 23, 3), (38, .aload_n 0, 1), (39, .iload_n 2, 1), (40, .invokevirtual 40, 3), (43, .iload_n 1, 1), (44, .if_icmp .ne 8, 3), (47, .aload_n 0, 1), (48, .iload_n 2, 1), (49, .invokevirtual 44, 3), (52, .iinc 2 1, 3), (55, .goto (-30), 3), (58, .return_, 1)]
theorem dd_X6_tryAllSets : ∀ e ∈ D_X6_tryAllSets, decode (mtJ 74).2.1 e.1 = .ok e.2 := by decide +kernel
set_option maxRecDepth 10000 in
theorem so_X6_tryAllSets : ∀ e ∈ o_X6_tryAllSets, SndO 74 e.1 e.2 := by
  refine List.forall_mem_cons.mpr ⟨s_aload_n (dd_X6_tryAllSets (0, .aload_n 0, 1) (List.mem_of_getElem? (i := 0) rfl)) rfl, ?_⟩
  refine List.forall_mem_cons.mpr ⟨s_iconst (dd_X6_tryAllSets (1, .iconst 0, 1) (List.mem_of_getElem? (i := 1) rfl)) rfl, ?_⟩
  refine List.forall_mem_cons.mpr ⟨s_putI (k := 2) K6 (by decide) (dd_X6_tryAllSets (2, .putfield 19, 3) (List.mem_of_getElem? (i := 2) rfl)) ow_X6_tryAllSets fl6_19 (Or.inl rfl) rfl, ?_⟩
  refine List.forall_mem_cons.mpr ⟨s_aload_n (dd_X6_tryAllSets (5, .aload_n 0, 1) (List.mem_of_getElem? (i := 3) rfl)) rfl, ?_⟩
  refine List.forall_mem_cons.mpr ⟨s_iconst (dd_X6_tryAllSets (6, .iconst (-1), 1) (List.mem_of_getElem? (i := 4) rfl)) rfl, ?_⟩
  refine List.forall_mem_cons.mpr ⟨s_putI (k := 3) K6 (by decide) (dd_X6_tryAllSets (7, .putfield 23, 3) (List.mem_of_getElem? (i := 5) rfl)) ow_X6_tryAllSets fl6_23 (Or.inl rfl) rfl, ?_⟩
  refine List.forall_mem_cons.mpr ⟨s_aload_n (dd_X6_tryAllSets (10, .aload_n 0, 1) (List.mem_of_getElem? (i := 6) rfl)) rfl, ?_⟩
  refine List.forall_mem_cons.mpr ⟨s_iconst (dd_X6_tryAllSets (11, .iconst 0, 1) (List.mem_of_getElem? (i := 7) rfl)) rfl, ?_⟩
  refine List.forall_mem_cons.mpr ⟨s_putI (k := 4) K6 (by decide) (dd_X6_tryAllSets (12, .putfield 26, 3) (List.mem_of_getElem? (i := 8) rfl)) ow_X6_tryAllSets fl6_26 (Or.inl rfl) rfl, ?_⟩
  refine List.forall_mem_cons.mpr ⟨s_aload_n (dd_X6_tryAllSets (15, .aload_n 0, 1) (List.mem_of_getElem? (i := 9) rfl)) rfl, ?_⟩
  refine List.forall_mem_cons.mpr ⟨s_getR (k := 1) K6 (by decide) (dd_X6_tryAllSets (16, .getfield 9, 3) (List.mem_of_getElem? (i := 10) rfl)) ow_X6_tryAllSets fl6_9 rfl, ?_⟩
  refine List.forall_mem_cons.mpr ⟨s_iconst (dd_X6_tryAllSets (19, .iconst 0, 1) (List.mem_of_getElem? (i := 11) rfl)) rfl, ?_⟩
  refine List.forall_mem_cons.mpr ⟨⟨s_callS mo186 rfl (dd_X6_tryAllSets (20, .invokestatic 29, 3) (List.mem_of_getElem? (i := 12) rfl)) ow_X6_tryAllSets ml6_29 ms186 mn186, mo186⟩, ?_⟩
  refine List.forall_mem_cons.mpr ⟨s_iconst (dd_X6_tryAllSets (23, .iconst 0, 1) (List.mem_of_getElem? (i := 13) rfl)) rfl, ?_⟩
  refine List.forall_mem_cons.mpr ⟨s_istore_n (dd_X6_tryAllSets (24, .istore_n 2, 1) (List.mem_of_getElem? (i := 14) rfl)) rfl, ?_⟩
  refine List.forall_mem_cons.mpr ⟨s_iload_n (dd_X6_tryAllSets (25, .iload_n 2, 1) (List.mem_of_getElem? (i := 15) rfl)) rfl, ?_⟩
  refine List.forall_mem_cons.mpr ⟨s_iconst (dd_X6_tryAllSets (26, .iconst 1, 1) (List.mem_of_getElem? (i := 16) rfl)) rfl, ?_⟩
  refine List.forall_mem_cons.mpr ⟨s_aload_n (dd_X6_tryAllSets (27, .aload_n 0, 1) (List.mem_of_getElem? (i := 17) rfl)) rfl, ?_⟩
  refine List.forall_mem_cons.mpr ⟨s_getR (k := 0) K6 (by decide) (dd_X6_tryAllSets (28, .getfield 15, 3) (List.mem_of_getElem? (i := 18) rfl)) ow_X6_tryAllSets fl6_15 rfl, ?_⟩
  refine List.forall_mem_cons.mpr ⟨s_getI (k := 3) K5 (by decide) (dd_X6_tryAllSets (31, .getfield 35, 3) (List.mem_of_getElem? (i := 19) rfl)) ow_X6_tryAllSets fl6_35 rfl, ?_⟩
  refine List.forall_mem_cons.mpr ⟨s_ishl (dd_X6_tryAllSets (34, .ishl, 1) (List.mem_of_getElem? (i := 20) rfl)), ?_⟩
  refine List.forall_mem_cons.mpr ⟨s_icmp_ge (dd_X6_tryAllSets (35, .if_icmp .ge 23, 3) (List.mem_of_getElem? (i := 21) rfl)) (by decide), ?_⟩
  refine List.forall_mem_cons.mpr ⟨s_aload_n (dd_X6_tryAllSets (38, .aload_n 0, 1) (List.mem_of_getElem? (i := 22) rfl)) rfl, ?_⟩
  refine List.forall_mem_cons.mpr ⟨s_iload_n (dd_X6_tryAllSets (39, .iload_n 2, 1) (List.mem_of_getElem? (i := 23) rfl)) rfl, ?_⟩
  refine List.forall_mem_cons.mpr ⟨⟨s_callV (ci := 6) rfl mo76 rfl rfl (dd_X6_tryAllSets (40, .invokevirtual 40, 3) (List.mem_of_getElem? (i := 24) rfl)) ow_X6_tryAllSets ml6_40 mi76 msl76 in_6 mn76, mo76⟩, ?_⟩
  refine List.forall_mem_cons.mpr ⟨s_iload_n (dd_X6_tryAllSets (43, .iload_n 1, 1) (List.mem_of_getElem? (i := 25) rfl)) rfl, ?_⟩
  refine List.forall_mem_cons.mpr ⟨s_icmp_ne (dd_X6_tryAllSets (44, .if_icmp .ne 8, 3) (List.mem_of_getElem? (i := 26) rfl)) (by decide), ?_⟩
  refine List.forall_mem_cons.mpr ⟨s_aload_n (dd_X6_tryAllSets (47, .aload_n 0, 1) (List.mem_of_getElem? (i := 27) rfl)) rfl, ?_⟩
  refine List.forall_mem_cons.mpr ⟨s_iload_n (dd_X6_tryAllSets (48, .iload_n 2, 1) (List.mem_of_getElem? (i := 28) rfl)) rfl, ?_⟩
  refine List.forall_mem_cons.mpr ⟨⟨s_callV (ci := 6) rfl mo77 rfl rfl (dd_X6_tryAllSets (49, .invokevirtual 44, 3) (List.mem_of_getElem? (i := 29) rfl)) ow_X6_tryAllSets ml6_44 mi77 msl77 in_6 mn77, mo77⟩, ?_⟩
  refine List.forall_mem_cons.mpr ⟨s_iinc (dd_X6_tryAllSets (52, .iinc 2 1, 3) (List.mem_of_getElem? (i := 30) rfl)) rfl, ?_⟩
  refine List.forall_mem_cons.mpr ⟨s_goto (dd_X6_tryAllSets (55, .goto (-30), 3) (List.mem_of_getElem? (i := 31) rfl)) (by decide), ?_⟩
  refine List.forall_mem_cons.mpr ⟨Or.inl ⟨rfl, (dd_X6_tryAllSets (58, .return_, 1) (List.mem_of_getElem? (i := 32) rfl)), rfl⟩, ?_⟩
  exact fun _ h => absurd h List.not_mem_nil
theorem ow_X6_bestToLookFor : (mtJ 75).1.cls = "SatchelSins$Scale" := rfl
def D_X6_bestToLookFor : List (Nat × Instr × Nat) := [(0, .iconst (-1), 1), (1, .istore_n 1, 1), (2, .aload_n 0, 1), (3, .getfield 19, 3), (6, .istore_n 2, 1), (7, .iconst 0, 1), (8, .istore_n 3, 1), (9, .iload_n 3, 1), (10, .aload_n 0, 1), (11, .getfield 15, 3), (14, .getfield 35, 3), (17, .if_icmp .ge 42, 3), (20, .aload_n 0, 1), (21, .getfield 9, 3), (24, .iload_n 3, 1), (25, .iaload, 1), (26, .aload_n 0, 1), (27, .getfield 19, 3), (30, .aload_n 0, 1), (31, .getfield 9, 3), (34, .iload_n 3, 1), (35, .iaload, 1), (36, .isub, 1), (37, .invokestatic 48, 3), (40, .istore 4, 2), (42, .iload 4, 2), (44, .iload_n 2, 1), (45, .if_icmp .ge 8, 3), (48, .iload 4, 2), (50, .istore_n 2, 1), (51, .iload_n 3, 1), (52, .istore_n 1, 1), (53, .iinc 3 1, 3), (56, .goto (-47), 3), (59, .iload_n 1, 1), (60, .ireturn, 1)]
theorem dd_X6_bestToLookFor : ∀ e ∈ D_X6_bestToLookFor, decode (mtJ 75).2.1 e.1 = .ok e.2 := by decide +kernel
set_option maxRecDepth 10000 in
theorem so_X6_bestToLookFor : ∀ e ∈ o_X6_bestToLookFor, SndO 75 e.1 e.2 := by
  refine List.forall_mem_cons.mpr ⟨s_iconst (dd_X6_bestToLookFor (0, .iconst (-1), 1) (List.mem_of_getElem? (i := 0) rfl)) rfl, ?_⟩
  refine List.forall_mem_cons.mpr ⟨s_istore_n (dd_X6_bestToLookFor (1, .istore_n 1, 1) (List.mem_of_getElem? (i := 1) rfl)) rfl, ?_⟩
  refine List.forall_mem_cons.mpr ⟨s_aload_n (dd_X6_bestToLookFor (2, .aload_n 0, 1) (List.mem_of_getElem? (i := 2) rfl)) rfl, ?_⟩
  refine List.forall_mem_cons.mpr ⟨s_getI (k := 2) K6 (by decide) (dd_X6_bestToLookFor (3, .getfield 19, 3) (List.mem_of_getElem? (i := 3) rfl)) ow_X6_bestToLookFor fl6_19 rfl, ?_⟩
  refine List.forall_mem_cons.mpr ⟨s_istore_n (dd_X6_bestToLookFor (6, .istore_n 2, 1) (List.mem_of_getElem? (i := 4) rfl)) rfl, ?_⟩
  refine List.forall_mem_cons.mpr ⟨s_iconst (dd_X6_bestToLookFor (7, .iconst 0, 1) (List.mem_of_getElem? (i := 5) rfl)) rfl, ?_⟩
  refine List.forall_mem_cons.mpr ⟨s_istore_n (dd_X6_bestToLookFor (8, .istore_n 3, 1) (List.mem_of_getElem? (i := 6) rfl)) rfl, ?_⟩
  refine List.forall_mem_cons.mpr ⟨s_iload_n (dd_X6_bestToLookFor (9, .iload_n 3, 1) (List.mem_of_getElem? (i := 7) rfl)) rfl, ?_⟩
  refine List.forall_mem_cons.mpr ⟨s_aload_n (dd_X6_bestToLookFor (10, .aload_n 0, 1) (List.mem_of_getElem? (i := 8) rfl)) rfl, ?_⟩
  refine List.forall_mem_cons.mpr ⟨s_getR (k := 0) K6 (by decide) (dd_X6_bestToLookFor (11, .getfield 15, 3) (List.mem_of_getElem? (i := 9) rfl)) ow_X6_bestToLookFor fl6_15 rfl, ?_⟩
  refine List.forall_mem_cons.mpr ⟨s_getI (k := 3) K5 (by decide) (dd_X6_bestToLookFor (14, .getfield 35, 3) (List.mem_of_getElem? (i := 10) rfl)) ow_X6_bestToLookFor fl6_35 rfl, ?_⟩
  refine List.forall_mem_cons.mpr ⟨s_icmp_ge (dd_X6_bestToLookFor (17, .if_icmp .ge 42, 3) (List.mem_of_getElem? (i := 11) rfl)) (by decide), ?_⟩
  refine List.forall_mem_cons.mpr ⟨s_aload_n (dd_X6_bestToLookFor (20, .aload_n 0, 1) (List.mem_of_getElem? (i := 12) rfl)) rfl, ?_⟩
  refine List.forall_mem_cons.mpr ⟨s_getR (k := 1) K6 (by decide) (dd_X6_bestToLookFor (21, .getfield 9, 3) (List.mem_of_getElem? (i := 13) rfl)) ow_X6_bestToLookFor fl6_9 rfl, ?_⟩
  refine List.forall_mem_cons.mpr ⟨s_iload_n (dd_X6_bestToLookFor (24, .iload_n 3, 1) (List.mem_of_getElem? (i := 14) rfl)) rfl, ?_⟩
  refine List.forall_mem_cons.mpr ⟨s_iald (dd_X6_bestToLookFor (25, .iaload, 1) (List.mem_of_getElem? (i := 15) rfl)), ?_⟩
  refine List.forall_mem_cons.mpr ⟨s_aload_n (dd_X6_bestToLookFor (26, .aload_n 0, 1) (List.mem_of_getElem? (i := 16) rfl)) rfl, ?_⟩
  refine List.forall_mem_cons.mpr ⟨s_getI (k := 2) K6 (by decide) (dd_X6_bestToLookFor (27, .getfield 19, 3) (List.mem_of_getElem? (i := 17) rfl)) ow_X6_bestToLookFor fl6_19 rfl, ?_⟩
  refine List.forall_mem_cons.mpr ⟨s_aload_n (dd_X6_bestToLookFor (30, .aload_n 0, 1) (List.mem_of_getElem? (i := 18) rfl)) rfl, ?_⟩
  refine List.forall_mem_cons.mpr ⟨s_getR (k := 1) K6 (by decide) (dd_X6_bestToLookFor (31, .getfield 9, 3) (List.mem_of_getElem? (i := 19) rfl)) ow_X6_bestToLookFor fl6_9 rfl, ?_⟩
  refine List.forall_mem_cons.mpr ⟨s_iload_n (dd_X6_bestToLookFor (34, .iload_n 3, 1) (List.mem_of_getElem? (i := 20) rfl)) rfl, ?_⟩
  refine List.forall_mem_cons.mpr ⟨s_iald (dd_X6_bestToLookFor (35, .iaload, 1) (List.mem_of_getElem? (i := 21) rfl)), ?_⟩
  refine List.forall_mem_cons.mpr ⟨s_isub (dd_X6_bestToLookFor (36, .isub, 1) (List.mem_of_getElem? (i := 22) rfl)), ?_⟩
  refine List.forall_mem_cons.mpr ⟨s_max (dd_X6_bestToLookFor (37, .invokestatic 48, 3) (List.mem_of_getElem? (i := 23) rfl)) ow_X6_bestToLookFor ml6_48 mmax1 mmax2 mmax3, ?_⟩
  refine List.forall_mem_cons.mpr ⟨s_istore (dd_X6_bestToLookFor (40, .istore 4, 2) (List.mem_of_getElem? (i := 24) rfl)), ?_⟩
  refine List.forall_mem_cons.mpr ⟨s_iload (dd_X6_bestToLookFor (42, .iload 4, 2) (List.mem_of_getElem? (i := 25) rfl)), ?_⟩
  refine List.forall_mem_cons.mpr ⟨s_iload_n (dd_X6_bestToLookFor (44, .iload_n 2, 1) (List.mem_of_getElem? (i := 26) rfl)) rfl, ?_⟩
  refine List.forall_mem_cons.mpr ⟨s_icmp_ge (dd_X6_bestToLookFor (45, .if_icmp .ge 8, 3) (List.mem_of_getElem? (i := 27) rfl)) (by decide), ?_⟩
  refine List.forall_mem_cons.mpr ⟨s_iload (dd_X6_bestToLookFor (48, .iload 4, 2) (List.mem_of_getElem? (i := 28) rfl)), ?_⟩
  refine List.forall_mem_cons.mpr ⟨s_istore_n (dd_X6_bestToLookFor (50, .istore_n 2, 1) (List.mem_of_getElem? (i := 29) rfl)) rfl, ?_⟩
  refine List.forall_mem_cons.mpr ⟨s_iload_n (dd_X6_bestToLookFor (51, .iload_n 3, 1) (List.mem_of_getElem? (i := 30) rfl)) rfl, ?_⟩
  refine List.forall_mem_cons.mpr ⟨s_istore_n (dd_X6_bestToLookFor (52, .istore_n 1, 1) (List.mem_of_getElem? (i := 31) rfl)) rfl, ?_⟩
  refine List.forall_mem_cons.mpr ⟨s_iinc (dd_X6_bestToLookFor (53, .iinc 3 1, 3) (List.mem_of_getElem? (i := 32) rfl)) rfl, ?_⟩
  refine List.forall_mem_cons.mpr ⟨s_goto (dd_X6_bestToLookFor (56, .goto (-47), 3) (List.mem_of_getElem? (i := 33) rfl)) (by decide), ?_⟩
  refine List.forall_mem_cons.mpr ⟨s_iload_n (dd_X6_bestToLookFor (59, .iload_n 1, 1) (List.mem_of_getElem? (i := 34) rfl)) rfl, ?_⟩
  refine List.forall_mem_cons.mpr ⟨Or.inr (Or.inl ⟨rfl, (dd_X6_bestToLookFor (60, .ireturn, 1) (List.mem_of_getElem? (i := 35) rfl)), rfl⟩), ?_⟩
  exact fun _ h => absurd h List.not_mem_nil
theorem ow_X6_weightOf : (mtJ 76).1.cls = "SatchelSins$Scale" := rfl
def D_X6_weightOf : List (Nat × Instr × Nat) := [(0, .iconst 0, 1), (1, .istore_n 2, 1), (2, .iconst 0, 1), (3, .istore_n 3, 1), (4, .iload_n 3, 1), (5, .aload_n 0, 1), (6, .getfield 15, 3), (9, .getfield 35, 3), (12, .if_icmp .ge 27, 3), (15, .iload_n 2, 1), (16, .iload_n 1, 1), (17, .iload_n 3, 1), (18, .ishr, 1), (19, .iconst 1, 1), (20, .iand, 1), (21, .aload_n 0, 1), (22, .getfield 15, 3), (25, .getfield 54, 3), (28, .iload_n 3, 1), (29, .iaload, 1), (30, .imul, 1), (31, .iadd, 1), (32, .istore_n 2, 1), (33, .iinc 3 1, 3), (36, .goto (-32), 3), (39, .iload_n 2, 1), (40, .ireturn, 1)]
theorem dd_X6_weightOf : ∀ e ∈ D_X6_weightOf, decode (mtJ 76).2.1 e.1 = .ok e.2 := by decide +kernel
set_option maxRecDepth 10000 in
theorem so_X6_weightOf : ∀ e ∈ o_X6_weightOf, SndO 76 e.1 e.2 := by
  refine List.forall_mem_cons.mpr ⟨s_iconst (dd_X6_weightOf (0, .iconst 0, 1) (List.mem_of_getElem? (i := 0) rfl)) rfl, ?_⟩
  refine List.forall_mem_cons.mpr ⟨s_istore_n (dd_X6_weightOf (1, .istore_n 2, 1) (List.mem_of_getElem? (i := 1) rfl)) rfl, ?_⟩
  refine List.forall_mem_cons.mpr ⟨s_iconst (dd_X6_weightOf (2, .iconst 0, 1) (List.mem_of_getElem? (i := 2) rfl)) rfl, ?_⟩
  refine List.forall_mem_cons.mpr ⟨s_istore_n (dd_X6_weightOf (3, .istore_n 3, 1) (List.mem_of_getElem? (i := 3) rfl)) rfl, ?_⟩
  refine List.forall_mem_cons.mpr ⟨s_iload_n (dd_X6_weightOf (4, .iload_n 3, 1) (List.mem_of_getElem? (i := 4) rfl)) rfl, ?_⟩
  refine List.forall_mem_cons.mpr ⟨s_aload_n (dd_X6_weightOf (5, .aload_n 0, 1) (List.mem_of_getElem? (i := 5) rfl)) rfl, ?_⟩
  refine List.forall_mem_cons.mpr ⟨s_getR (k := 0) K6 (by decide) (dd_X6_weightOf (6, .getfield 15, 3) (List.mem_of_getElem? (i := 6) rfl)) ow_X6_weightOf fl6_15 rfl, ?_⟩
  refine List.forall_mem_cons.mpr ⟨s_getI (k := 3) K5 (by decide) (dd_X6_weightOf (9, .getfield 35, 3) (List.mem_of_getElem? (i := 7) rfl)) ow_X6_weightOf fl6_35 rfl, ?_⟩
  refine List.forall_mem_cons.mpr ⟨s_icmp_ge (dd_X6_weightOf (12, .if_icmp .ge 27, 3) (List.mem_of_getElem? (i := 8) rfl)) (by decide), ?_⟩
  refine List.forall_mem_cons.mpr ⟨s_iload_n (dd_X6_weightOf (15, .iload_n 2, 1) (List.mem_of_getElem? (i := 9) rfl)) rfl, ?_⟩
  refine List.forall_mem_cons.mpr ⟨s_iload_n (dd_X6_weightOf (16, .iload_n 1, 1) (List.mem_of_getElem? (i := 10) rfl)) rfl, ?_⟩
  refine List.forall_mem_cons.mpr ⟨s_iload_n (dd_X6_weightOf (17, .iload_n 3, 1) (List.mem_of_getElem? (i := 11) rfl)) rfl, ?_⟩
  refine List.forall_mem_cons.mpr ⟨s_ishr (dd_X6_weightOf (18, .ishr, 1) (List.mem_of_getElem? (i := 12) rfl)), ?_⟩
  refine List.forall_mem_cons.mpr ⟨s_iconst (dd_X6_weightOf (19, .iconst 1, 1) (List.mem_of_getElem? (i := 13) rfl)) rfl, ?_⟩
  refine List.forall_mem_cons.mpr ⟨s_iand (dd_X6_weightOf (20, .iand, 1) (List.mem_of_getElem? (i := 14) rfl)), ?_⟩
  refine List.forall_mem_cons.mpr ⟨s_aload_n (dd_X6_weightOf (21, .aload_n 0, 1) (List.mem_of_getElem? (i := 15) rfl)) rfl, ?_⟩
  refine List.forall_mem_cons.mpr ⟨s_getR (k := 0) K6 (by decide) (dd_X6_weightOf (22, .getfield 15, 3) (List.mem_of_getElem? (i := 16) rfl)) ow_X6_weightOf fl6_15 rfl, ?_⟩
  refine List.forall_mem_cons.mpr ⟨s_getR (k := 8) K5 (by decide) (dd_X6_weightOf (25, .getfield 54, 3) (List.mem_of_getElem? (i := 17) rfl)) ow_X6_weightOf fl6_54 rfl, ?_⟩
  refine List.forall_mem_cons.mpr ⟨s_iload_n (dd_X6_weightOf (28, .iload_n 3, 1) (List.mem_of_getElem? (i := 18) rfl)) rfl, ?_⟩
  refine List.forall_mem_cons.mpr ⟨s_iald (dd_X6_weightOf (29, .iaload, 1) (List.mem_of_getElem? (i := 19) rfl)), ?_⟩
  refine List.forall_mem_cons.mpr ⟨s_imul (dd_X6_weightOf (30, .imul, 1) (List.mem_of_getElem? (i := 20) rfl)), ?_⟩
  refine List.forall_mem_cons.mpr ⟨s_iadd (dd_X6_weightOf (31, .iadd, 1) (List.mem_of_getElem? (i := 21) rfl)), ?_⟩
  refine List.forall_mem_cons.mpr ⟨s_istore_n (dd_X6_weightOf (32, .istore_n 2, 1) (List.mem_of_getElem? (i := 22) rfl)) rfl, ?_⟩
  refine List.forall_mem_cons.mpr ⟨s_iinc (dd_X6_weightOf (33, .iinc 3 1, 3) (List.mem_of_getElem? (i := 23) rfl)) rfl, ?_⟩
  refine List.forall_mem_cons.mpr ⟨s_goto (dd_X6_weightOf (36, .goto (-32), 3) (List.mem_of_getElem? (i := 24) rfl)) (by decide), ?_⟩
  refine List.forall_mem_cons.mpr ⟨s_iload_n (dd_X6_weightOf (39, .iload_n 2, 1) (List.mem_of_getElem? (i := 25) rfl)) rfl, ?_⟩
  refine List.forall_mem_cons.mpr ⟨Or.inr (Or.inl ⟨rfl, (dd_X6_weightOf (40, .ireturn, 1) (List.mem_of_getElem? (i := 26) rfl)), rfl⟩), ?_⟩
  exact fun _ h => absurd h List.not_mem_nil
theorem ow_X6_count : (mtJ 77).1.cls = "SatchelSins$Scale" := rfl
def D_X6_count : List (Nat × Instr × Nat) := [(0, .aload_n 0, 1), (1, .aload_n 0, 1), (2, .getfield 19, 3), (5, .ifCond .ne 7, 3), (8, .iload_n 1, 1), (9, .goto 7, 3), (12, .aload_n 0, 1), (13, .getfield 23, 3), (16, .putfield 23, 3), (19, .aload_n 0, 1), (20, .aload_n 0, 1), (21, .getfield 19, 3), (24, .ifCond .ne 7, 3), (27, .iload_n 1, 1), (28, .goto 9, 3), (31, .aload_n 0, 1), (32, .getfield 26, 3), (35, .iload_n 1, 1), (36, .iand, 1), (37, .putfield 26, 3), (40, .aload_n 0, 1), (41, .dup, 1), (42, .getfield 19, 3), (45, .iconst 1, 1), (46, .iadd, 1), (47, .putfield 19, 3), (50, .iconst 0, 1), (51, .istore_n 2, 1), (52, .iload_n 2, 1), (53, .aload_n 0, 1), (54, .getfield 15, 3), (57, .getfield 35, 3), (60, .if_icmp .ge 23, 3), (63, .aload_n 0, 1), (64, .getfield 9, 3), (67, .iload_n 2, 1), (68, .dup2, 1), (69, .iaload, 1), (70, .iload_n 1, 1), (71, .iload_n 2, 1), (72, .ishr, 1), (73, .iconst 1, 1), (74, .iand, 1), (75, .iadd, 1), (76, .iastore, 1), (77, .iinc 2 1, 3), (80, .goto (-28), 3), (83, .return_, 1)]
theorem dd_X6_count : ∀ e ∈ D_X6_count, decode (mtJ 77).2.1 e.1 = .ok e.2 := by decide +kernel
set_option maxRecDepth 10000 in
theorem so_X6_count : ∀ e ∈ o_X6_count, SndO 77 e.1 e.2 := by
  refine List.forall_mem_cons.mpr ⟨s_aload_n (dd_X6_count (0, .aload_n 0, 1) (List.mem_of_getElem? (i := 0) rfl)) rfl, ?_⟩
  refine List.forall_mem_cons.mpr ⟨s_aload_n (dd_X6_count (1, .aload_n 0, 1) (List.mem_of_getElem? (i := 1) rfl)) rfl, ?_⟩
  refine List.forall_mem_cons.mpr ⟨s_getI (k := 2) K6 (by decide) (dd_X6_count (2, .getfield 19, 3) (List.mem_of_getElem? (i := 2) rfl)) ow_X6_count fl6_19 rfl, ?_⟩
  refine List.forall_mem_cons.mpr ⟨s_if_ne (dd_X6_count (5, .ifCond .ne 7, 3) (List.mem_of_getElem? (i := 3) rfl)) (by decide), ?_⟩
  refine List.forall_mem_cons.mpr ⟨s_iload_n (dd_X6_count (8, .iload_n 1, 1) (List.mem_of_getElem? (i := 4) rfl)) rfl, ?_⟩
  refine List.forall_mem_cons.mpr ⟨s_goto (dd_X6_count (9, .goto 7, 3) (List.mem_of_getElem? (i := 5) rfl)) (by decide), ?_⟩
  refine List.forall_mem_cons.mpr ⟨s_aload_n (dd_X6_count (12, .aload_n 0, 1) (List.mem_of_getElem? (i := 6) rfl)) rfl, ?_⟩
  refine List.forall_mem_cons.mpr ⟨s_getI (k := 3) K6 (by decide) (dd_X6_count (13, .getfield 23, 3) (List.mem_of_getElem? (i := 7) rfl)) ow_X6_count fl6_23 rfl, ?_⟩
  refine List.forall_mem_cons.mpr ⟨s_putI (k := 3) K6 (by decide) (dd_X6_count (16, .putfield 23, 3) (List.mem_of_getElem? (i := 8) rfl)) ow_X6_count fl6_23 (Or.inl rfl) rfl, ?_⟩
  refine List.forall_mem_cons.mpr ⟨s_aload_n (dd_X6_count (19, .aload_n 0, 1) (List.mem_of_getElem? (i := 9) rfl)) rfl, ?_⟩
  refine List.forall_mem_cons.mpr ⟨s_aload_n (dd_X6_count (20, .aload_n 0, 1) (List.mem_of_getElem? (i := 10) rfl)) rfl, ?_⟩
  refine List.forall_mem_cons.mpr ⟨s_getI (k := 2) K6 (by decide) (dd_X6_count (21, .getfield 19, 3) (List.mem_of_getElem? (i := 11) rfl)) ow_X6_count fl6_19 rfl, ?_⟩
  refine List.forall_mem_cons.mpr ⟨s_if_ne (dd_X6_count (24, .ifCond .ne 7, 3) (List.mem_of_getElem? (i := 12) rfl)) (by decide), ?_⟩
  refine List.forall_mem_cons.mpr ⟨s_iload_n (dd_X6_count (27, .iload_n 1, 1) (List.mem_of_getElem? (i := 13) rfl)) rfl, ?_⟩
  refine List.forall_mem_cons.mpr ⟨s_goto (dd_X6_count (28, .goto 9, 3) (List.mem_of_getElem? (i := 14) rfl)) (by decide), ?_⟩
  refine List.forall_mem_cons.mpr ⟨s_aload_n (dd_X6_count (31, .aload_n 0, 1) (List.mem_of_getElem? (i := 15) rfl)) rfl, ?_⟩
  refine List.forall_mem_cons.mpr ⟨s_getI (k := 4) K6 (by decide) (dd_X6_count (32, .getfield 26, 3) (List.mem_of_getElem? (i := 16) rfl)) ow_X6_count fl6_26 rfl, ?_⟩
  refine List.forall_mem_cons.mpr ⟨s_iload_n (dd_X6_count (35, .iload_n 1, 1) (List.mem_of_getElem? (i := 17) rfl)) rfl, ?_⟩
  refine List.forall_mem_cons.mpr ⟨s_iand (dd_X6_count (36, .iand, 1) (List.mem_of_getElem? (i := 18) rfl)), ?_⟩
  refine List.forall_mem_cons.mpr ⟨s_putI (k := 4) K6 (by decide) (dd_X6_count (37, .putfield 26, 3) (List.mem_of_getElem? (i := 19) rfl)) ow_X6_count fl6_26 (Or.inl rfl) rfl, ?_⟩
  refine List.forall_mem_cons.mpr ⟨s_aload_n (dd_X6_count (40, .aload_n 0, 1) (List.mem_of_getElem? (i := 20) rfl)) rfl, ?_⟩
  refine List.forall_mem_cons.mpr ⟨s_dup (dd_X6_count (41, .dup, 1) (List.mem_of_getElem? (i := 21) rfl)), ?_⟩
  refine List.forall_mem_cons.mpr ⟨s_getI (k := 2) K6 (by decide) (dd_X6_count (42, .getfield 19, 3) (List.mem_of_getElem? (i := 22) rfl)) ow_X6_count fl6_19 rfl, ?_⟩
  refine List.forall_mem_cons.mpr ⟨s_iconst (dd_X6_count (45, .iconst 1, 1) (List.mem_of_getElem? (i := 23) rfl)) rfl, ?_⟩
  refine List.forall_mem_cons.mpr ⟨s_iadd (dd_X6_count (46, .iadd, 1) (List.mem_of_getElem? (i := 24) rfl)), ?_⟩
  refine List.forall_mem_cons.mpr ⟨s_putI (k := 2) K6 (by decide) (dd_X6_count (47, .putfield 19, 3) (List.mem_of_getElem? (i := 25) rfl)) ow_X6_count fl6_19 (Or.inl rfl) rfl, ?_⟩
  refine List.forall_mem_cons.mpr ⟨s_iconst (dd_X6_count (50, .iconst 0, 1) (List.mem_of_getElem? (i := 26) rfl)) rfl, ?_⟩
  refine List.forall_mem_cons.mpr ⟨s_istore_n (dd_X6_count (51, .istore_n 2, 1) (List.mem_of_getElem? (i := 27) rfl)) rfl, ?_⟩
  refine List.forall_mem_cons.mpr ⟨s_iload_n (dd_X6_count (52, .iload_n 2, 1) (List.mem_of_getElem? (i := 28) rfl)) rfl, ?_⟩
  refine List.forall_mem_cons.mpr ⟨s_aload_n (dd_X6_count (53, .aload_n 0, 1) (List.mem_of_getElem? (i := 29) rfl)) rfl, ?_⟩
  refine List.forall_mem_cons.mpr ⟨s_getR (k := 0) K6 (by decide) (dd_X6_count (54, .getfield 15, 3) (List.mem_of_getElem? (i := 30) rfl)) ow_X6_count fl6_15 rfl, ?_⟩
  refine List.forall_mem_cons.mpr ⟨s_getI (k := 3) K5 (by decide) (dd_X6_count (57, .getfield 35, 3) (List.mem_of_getElem? (i := 31) rfl)) ow_X6_count fl6_35 rfl, ?_⟩
  refine List.forall_mem_cons.mpr ⟨s_icmp_ge (dd_X6_count (60, .if_icmp .ge 23, 3) (List.mem_of_getElem? (i := 32) rfl)) (by decide), ?_⟩
  refine List.forall_mem_cons.mpr ⟨s_aload_n (dd_X6_count (63, .aload_n 0, 1) (List.mem_of_getElem? (i := 33) rfl)) rfl, ?_⟩
  refine List.forall_mem_cons.mpr ⟨s_getR (k := 1) K6 (by decide) (dd_X6_count (64, .getfield 9, 3) (List.mem_of_getElem? (i := 34) rfl)) ow_X6_count fl6_9 rfl, ?_⟩
  refine List.forall_mem_cons.mpr ⟨s_iload_n (dd_X6_count (67, .iload_n 2, 1) (List.mem_of_getElem? (i := 35) rfl)) rfl, ?_⟩
  refine List.forall_mem_cons.mpr ⟨s_dup2 (dd_X6_count (68, .dup2, 1) (List.mem_of_getElem? (i := 36) rfl)), ?_⟩
  refine List.forall_mem_cons.mpr ⟨s_iald (dd_X6_count (69, .iaload, 1) (List.mem_of_getElem? (i := 37) rfl)), ?_⟩
  refine List.forall_mem_cons.mpr ⟨s_iload_n (dd_X6_count (70, .iload_n 1, 1) (List.mem_of_getElem? (i := 38) rfl)) rfl, ?_⟩
  refine List.forall_mem_cons.mpr ⟨s_iload_n (dd_X6_count (71, .iload_n 2, 1) (List.mem_of_getElem? (i := 39) rfl)) rfl, ?_⟩
  refine List.forall_mem_cons.mpr ⟨s_ishr (dd_X6_count (72, .ishr, 1) (List.mem_of_getElem? (i := 40) rfl)), ?_⟩
  refine List.forall_mem_cons.mpr ⟨s_iconst (dd_X6_count (73, .iconst 1, 1) (List.mem_of_getElem? (i := 41) rfl)) rfl, ?_⟩
  refine List.forall_mem_cons.mpr ⟨s_iand (dd_X6_count (74, .iand, 1) (List.mem_of_getElem? (i := 42) rfl)), ?_⟩
  refine List.forall_mem_cons.mpr ⟨s_iadd (dd_X6_count (75, .iadd, 1) (List.mem_of_getElem? (i := 43) rfl)), ?_⟩
  refine List.forall_mem_cons.mpr ⟨s_iast (dd_X6_count (76, .iastore, 1) (List.mem_of_getElem? (i := 44) rfl)), ?_⟩
  refine List.forall_mem_cons.mpr ⟨s_iinc (dd_X6_count (77, .iinc 2 1, 3) (List.mem_of_getElem? (i := 45) rfl)) rfl, ?_⟩
  refine List.forall_mem_cons.mpr ⟨s_goto (dd_X6_count (80, .goto (-28), 3) (List.mem_of_getElem? (i := 46) rfl)) (by decide), ?_⟩
  refine List.forall_mem_cons.mpr ⟨Or.inl ⟨rfl, (dd_X6_count (83, .return_, 1) (List.mem_of_getElem? (i := 47) rfl)), rfl⟩, ?_⟩
  exact fun _ h => absurd h List.not_mem_nil
theorem ow_X7_init : (mtJ 78).1.cls = "SatchelSins$Slate" := rfl
def D_X7_init : List (Nat × Instr × Nat) := [(0, .aload_n 0, 1), (1, .invokespecial 3, 3), (4, .aload_n 0, 1), (5, .bipush 6, 2), (7, .newarray .int, 2), (9, .putfield 9, 3), (12, .aload_n 0, 1), (13, .bipush 6, 2), (15, .newarray .int, 2), (17, .putfield 15, 3), (20, .aload_n 0, 1), (21, .bipush 6, 2), (23, .newarray .boolean, 2), (25, .putfield 18, 3), (28, .aload_n 0, 1), (29, .bipush 15, 2), (31, .newarray .int, 2), (33, .putfield 22, 3), (36, .aload_n 0, 1), (37, .bipush 15, 2), (39, .newarray .int, 2), (41, .putfield 25, 3), (44, .return_, 1)]
theorem dd_X7_init : ∀ e ∈ D_X7_init, decode (mtJ 78).2.1 e.1 = .ok e.2 := by decide +kernel
set_option maxRecDepth 10000 in
theorem so_X7_init : ∀ e ∈ o_X7_init, SndO 78 e.1 e.2 := by
  refine List.forall_mem_cons.mpr ⟨s_aload_n (dd_X7_init (0, .aload_n 0, 1) (List.mem_of_getElem? (i := 0) rfl)) rfl, ?_⟩
  refine List.forall_mem_cons.mpr ⟨s_obj (dd_X7_init (1, .invokespecial 3, 3) (List.mem_of_getElem? (i := 1) rfl)) ow_X7_init ml7_3 oi1 oi2, ?_⟩
  refine List.forall_mem_cons.mpr ⟨s_aload_n (dd_X7_init (4, .aload_n 0, 1) (List.mem_of_getElem? (i := 2) rfl)) rfl, ?_⟩
  refine List.forall_mem_cons.mpr ⟨s_bipush (dd_X7_init (5, .bipush 6, 2) (List.mem_of_getElem? (i := 3) rfl)) rfl, ?_⟩
  refine List.forall_mem_cons.mpr ⟨s_newI (dd_X7_init (7, .newarray .int, 2) (List.mem_of_getElem? (i := 4) rfl)) ac1, ?_⟩
  refine List.forall_mem_cons.mpr ⟨s_putR (k := 0) K7 (by decide) (dd_X7_init (9, .putfield 9, 3) (List.mem_of_getElem? (i := 5) rfl)) ow_X7_init fl7_9 (Or.inr ⟨rfl, rfl, rfl⟩) rfl (fun _ => rfl) (fun _ => rfl), ?_⟩
  refine List.forall_mem_cons.mpr ⟨s_aload_n (dd_X7_init (12, .aload_n 0, 1) (List.mem_of_getElem? (i := 6) rfl)) rfl, ?_⟩
  refine List.forall_mem_cons.mpr ⟨s_bipush (dd_X7_init (13, .bipush 6, 2) (List.mem_of_getElem? (i := 7) rfl)) rfl, ?_⟩
  refine List.forall_mem_cons.mpr ⟨s_newI (dd_X7_init (15, .newarray .int, 2) (List.mem_of_getElem? (i := 8) rfl)) ac1, ?_⟩
  refine List.forall_mem_cons.mpr ⟨s_putR (k := 1) K7 (by decide) (dd_X7_init (17, .putfield 15, 3) (List.mem_of_getElem? (i := 9) rfl)) ow_X7_init fl7_15 (Or.inr ⟨rfl, rfl, rfl⟩) rfl (fun _ => rfl) (fun _ => rfl), ?_⟩
  refine List.forall_mem_cons.mpr ⟨s_aload_n (dd_X7_init (20, .aload_n 0, 1) (List.mem_of_getElem? (i := 10) rfl)) rfl, ?_⟩
  refine List.forall_mem_cons.mpr ⟨s_bipush (dd_X7_init (21, .bipush 6, 2) (List.mem_of_getElem? (i := 11) rfl)) rfl, ?_⟩
  refine List.forall_mem_cons.mpr ⟨s_newZ (dd_X7_init (23, .newarray .boolean, 2) (List.mem_of_getElem? (i := 12) rfl)) ac2, ?_⟩
  refine List.forall_mem_cons.mpr ⟨s_putR (k := 2) K7 (by decide) (dd_X7_init (25, .putfield 18, 3) (List.mem_of_getElem? (i := 13) rfl)) ow_X7_init fl7_18 (Or.inr ⟨rfl, rfl, rfl⟩) rfl (fun _ => rfl) (fun _ => rfl), ?_⟩
  refine List.forall_mem_cons.mpr ⟨s_aload_n (dd_X7_init (28, .aload_n 0, 1) (List.mem_of_getElem? (i := 14) rfl)) rfl, ?_⟩
  refine List.forall_mem_cons.mpr ⟨s_bipush (dd_X7_init (29, .bipush 15, 2) (List.mem_of_getElem? (i := 15) rfl)) rfl, ?_⟩
  refine List.forall_mem_cons.mpr ⟨s_newI (dd_X7_init (31, .newarray .int, 2) (List.mem_of_getElem? (i := 16) rfl)) ac1, ?_⟩
  refine List.forall_mem_cons.mpr ⟨s_putR (k := 3) K7 (by decide) (dd_X7_init (33, .putfield 22, 3) (List.mem_of_getElem? (i := 17) rfl)) ow_X7_init fl7_22 (Or.inr ⟨rfl, rfl, rfl⟩) rfl (fun _ => rfl) (fun _ => rfl), ?_⟩
  refine List.forall_mem_cons.mpr ⟨s_aload_n (dd_X7_init (36, .aload_n 0, 1) (List.mem_of_getElem? (i := 18) rfl)) rfl, ?_⟩
  refine List.forall_mem_cons.mpr ⟨s_bipush (dd_X7_init (37, .bipush 15, 2) (List.mem_of_getElem? (i := 19) rfl)) rfl, ?_⟩
  refine List.forall_mem_cons.mpr ⟨s_newI (dd_X7_init (39, .newarray .int, 2) (List.mem_of_getElem? (i := 20) rfl)) ac1, ?_⟩
  refine List.forall_mem_cons.mpr ⟨s_putR (k := 4) K7 (by decide) (dd_X7_init (41, .putfield 25, 3) (List.mem_of_getElem? (i := 21) rfl)) ow_X7_init fl7_25 (Or.inr ⟨rfl, rfl, rfl⟩) rfl (fun _ => rfl) (fun _ => rfl), ?_⟩
  refine List.forall_mem_cons.mpr ⟨Or.inl ⟨rfl, (dd_X7_init (44, .return_, 1) (List.mem_of_getElem? (i := 22) rfl)), rfl⟩, ?_⟩
  exact fun _ h => absurd h List.not_mem_nil
theorem ow_X7_wipe : (mtJ 79).1.cls = "SatchelSins$Slate" := rfl
def D_X7_wipe : List (Nat × Instr × Nat) := [(0, .aload_n 0, 1), (1, .iconst 0, 1), (2, .putfield 28, 3), (5, .aload_n 0, 1), (6, .iconst 0, 1), (7, .putfield 32, 3), (10, .return_, 1)]
theorem dd_X7_wipe : ∀ e ∈ D_X7_wipe, decode (mtJ 79).2.1 e.1 = .ok e.2 := by decide +kernel
set_option maxRecDepth 10000 in
theorem so_X7_wipe : ∀ e ∈ o_X7_wipe, SndO 79 e.1 e.2 := by
  refine List.forall_mem_cons.mpr ⟨s_aload_n (dd_X7_wipe (0, .aload_n 0, 1) (List.mem_of_getElem? (i := 0) rfl)) rfl, ?_⟩
  refine List.forall_mem_cons.mpr ⟨s_iconst (dd_X7_wipe (1, .iconst 0, 1) (List.mem_of_getElem? (i := 1) rfl)) rfl, ?_⟩
  refine List.forall_mem_cons.mpr ⟨s_putI (k := 5) K7 (by decide) (dd_X7_wipe (2, .putfield 28, 3) (List.mem_of_getElem? (i := 2) rfl)) ow_X7_wipe fl7_28 (Or.inl rfl) rfl, ?_⟩
  refine List.forall_mem_cons.mpr ⟨s_aload_n (dd_X7_wipe (5, .aload_n 0, 1) (List.mem_of_getElem? (i := 3) rfl)) rfl, ?_⟩
  refine List.forall_mem_cons.mpr ⟨s_iconst (dd_X7_wipe (6, .iconst 0, 1) (List.mem_of_getElem? (i := 4) rfl)) rfl, ?_⟩
  refine List.forall_mem_cons.mpr ⟨s_putI (k := 6) K7 (by decide) (dd_X7_wipe (7, .putfield 32, 3) (List.mem_of_getElem? (i := 5) rfl)) ow_X7_wipe fl7_32 (Or.inl rfl) rfl, ?_⟩
  refine List.forall_mem_cons.mpr ⟨Or.inl ⟨rfl, (dd_X7_wipe (10, .return_, 1) (List.mem_of_getElem? (i := 6) rfl)), rfl⟩, ?_⟩
  exact fun _ h => absurd h List.not_mem_nil
theorem ow_X7_addSeen : (mtJ 80).1.cls = "SatchelSins$Slate" := rfl
def D_X7_addSeen : List (Nat × Instr × Nat) := [(0, .aload_n 0, 1), (1, .getfield 28, 3), (4, .bipush 6, 2), (6, .if_icmp .ge 43, 3), (9, .aload_n 0, 1), (10, .getfield 9, 3), (13, .aload_n 0, 1), (14, .getfield 28, 3), (17, .iload_n 1, 1), (18, .iastore, 1), (19, .aload_n 0, 1), (20, .getfield 15, 3), (23, .aload_n 0, 1), (24, .getfield 28, 3), (27, .iload_n 2, 1), (28, .iastore, 1), (29, .aload_n 0, 1), (30, .getfield 18, 3), (33, .aload_n 0, 1), (34, .getfield 28, 3), (37, .iload_n 3, 1), (38, .bastore, 1), (39, .aload_n 0, 1), (40, .dup, 1), (41, .getfield 28, 3), (44, .iconst 1, 1), (45, .iadd, 1), (46, .putfield 28, 3), (49, .return_, 1)]
theorem dd_X7_addSeen : ∀ e ∈ D_X7_addSeen, decode (mtJ 80).2.1 e.1 = .ok e.2 := by decide +kernel
set_option maxRecDepth 10000 in
theorem so_X7_addSeen : ∀ e ∈ o_X7_addSeen, SndO 80 e.1 e.2 := by
  refine List.forall_mem_cons.mpr ⟨s_aload_n (dd_X7_addSeen (0, .aload_n 0, 1) (List.mem_of_getElem? (i := 0) rfl)) rfl, ?_⟩
  refine List.forall_mem_cons.mpr ⟨s_getI (k := 5) K7 (by decide) (dd_X7_addSeen (1, .getfield 28, 3) (List.mem_of_getElem? (i := 1) rfl)) ow_X7_addSeen fl7_28 rfl, ?_⟩
  refine List.forall_mem_cons.mpr ⟨s_bipush (dd_X7_addSeen (4, .bipush 6, 2) (List.mem_of_getElem? (i := 2) rfl)) rfl, ?_⟩
  refine List.forall_mem_cons.mpr ⟨s_icmp_ge (dd_X7_addSeen (6, .if_icmp .ge 43, 3) (List.mem_of_getElem? (i := 3) rfl)) (by decide), ?_⟩
  refine List.forall_mem_cons.mpr ⟨s_aload_n (dd_X7_addSeen (9, .aload_n 0, 1) (List.mem_of_getElem? (i := 4) rfl)) rfl, ?_⟩
  refine List.forall_mem_cons.mpr ⟨s_getR (k := 0) K7 (by decide) (dd_X7_addSeen (10, .getfield 9, 3) (List.mem_of_getElem? (i := 5) rfl)) ow_X7_addSeen fl7_9 rfl, ?_⟩
  refine List.forall_mem_cons.mpr ⟨s_aload_n (dd_X7_addSeen (13, .aload_n 0, 1) (List.mem_of_getElem? (i := 6) rfl)) rfl, ?_⟩
  refine List.forall_mem_cons.mpr ⟨s_getI (k := 5) K7 (by decide) (dd_X7_addSeen (14, .getfield 28, 3) (List.mem_of_getElem? (i := 7) rfl)) ow_X7_addSeen fl7_28 rfl, ?_⟩
  refine List.forall_mem_cons.mpr ⟨s_iload_n (dd_X7_addSeen (17, .iload_n 1, 1) (List.mem_of_getElem? (i := 8) rfl)) rfl, ?_⟩
  refine List.forall_mem_cons.mpr ⟨s_iast (dd_X7_addSeen (18, .iastore, 1) (List.mem_of_getElem? (i := 9) rfl)), ?_⟩
  refine List.forall_mem_cons.mpr ⟨s_aload_n (dd_X7_addSeen (19, .aload_n 0, 1) (List.mem_of_getElem? (i := 10) rfl)) rfl, ?_⟩
  refine List.forall_mem_cons.mpr ⟨s_getR (k := 1) K7 (by decide) (dd_X7_addSeen (20, .getfield 15, 3) (List.mem_of_getElem? (i := 11) rfl)) ow_X7_addSeen fl7_15 rfl, ?_⟩
  refine List.forall_mem_cons.mpr ⟨s_aload_n (dd_X7_addSeen (23, .aload_n 0, 1) (List.mem_of_getElem? (i := 12) rfl)) rfl, ?_⟩
  refine List.forall_mem_cons.mpr ⟨s_getI (k := 5) K7 (by decide) (dd_X7_addSeen (24, .getfield 28, 3) (List.mem_of_getElem? (i := 13) rfl)) ow_X7_addSeen fl7_28 rfl, ?_⟩
  refine List.forall_mem_cons.mpr ⟨s_iload_n (dd_X7_addSeen (27, .iload_n 2, 1) (List.mem_of_getElem? (i := 14) rfl)) rfl, ?_⟩
  refine List.forall_mem_cons.mpr ⟨s_iast (dd_X7_addSeen (28, .iastore, 1) (List.mem_of_getElem? (i := 15) rfl)), ?_⟩
  refine List.forall_mem_cons.mpr ⟨s_aload_n (dd_X7_addSeen (29, .aload_n 0, 1) (List.mem_of_getElem? (i := 16) rfl)) rfl, ?_⟩
  refine List.forall_mem_cons.mpr ⟨s_getR (k := 2) K7 (by decide) (dd_X7_addSeen (30, .getfield 18, 3) (List.mem_of_getElem? (i := 17) rfl)) ow_X7_addSeen fl7_18 rfl, ?_⟩
  refine List.forall_mem_cons.mpr ⟨s_aload_n (dd_X7_addSeen (33, .aload_n 0, 1) (List.mem_of_getElem? (i := 18) rfl)) rfl, ?_⟩
  refine List.forall_mem_cons.mpr ⟨s_getI (k := 5) K7 (by decide) (dd_X7_addSeen (34, .getfield 28, 3) (List.mem_of_getElem? (i := 19) rfl)) ow_X7_addSeen fl7_28 rfl, ?_⟩
  refine List.forall_mem_cons.mpr ⟨s_iload_n (dd_X7_addSeen (37, .iload_n 3, 1) (List.mem_of_getElem? (i := 20) rfl)) rfl, ?_⟩
  refine List.forall_mem_cons.mpr ⟨s_bast (dd_X7_addSeen (38, .bastore, 1) (List.mem_of_getElem? (i := 21) rfl)), ?_⟩
  refine List.forall_mem_cons.mpr ⟨s_aload_n (dd_X7_addSeen (39, .aload_n 0, 1) (List.mem_of_getElem? (i := 22) rfl)) rfl, ?_⟩
  refine List.forall_mem_cons.mpr ⟨s_dup (dd_X7_addSeen (40, .dup, 1) (List.mem_of_getElem? (i := 23) rfl)), ?_⟩
  refine List.forall_mem_cons.mpr ⟨s_getI (k := 5) K7 (by decide) (dd_X7_addSeen (41, .getfield 28, 3) (List.mem_of_getElem? (i := 24) rfl)) ow_X7_addSeen fl7_28 rfl, ?_⟩
  refine List.forall_mem_cons.mpr ⟨s_iconst (dd_X7_addSeen (44, .iconst 1, 1) (List.mem_of_getElem? (i := 25) rfl)) rfl, ?_⟩
  refine List.forall_mem_cons.mpr ⟨s_iadd (dd_X7_addSeen (45, .iadd, 1) (List.mem_of_getElem? (i := 26) rfl)), ?_⟩
  refine List.forall_mem_cons.mpr ⟨s_putI (k := 5) K7 (by decide) (dd_X7_addSeen (46, .putfield 28, 3) (List.mem_of_getElem? (i := 27) rfl)) ow_X7_addSeen fl7_28 (Or.inl rfl) rfl, ?_⟩
  refine List.forall_mem_cons.mpr ⟨Or.inl ⟨rfl, (dd_X7_addSeen (49, .return_, 1) (List.mem_of_getElem? (i := 28) rfl)), rfl⟩, ?_⟩
  exact fun _ h => absurd h List.not_mem_nil
theorem ow_X7_addEntry : (mtJ 81).1.cls = "SatchelSins$Slate" := rfl
def D_X7_addEntry : List (Nat × Instr × Nat) := [(0, .aload_n 0, 1), (1, .getfield 32, 3), (4, .bipush 15, 2), (6, .if_icmp .ge 33, 3), (9, .aload_n 0, 1), (10, .getfield 22, 3), (13, .aload_n 0, 1), (14, .getfield 32, 3), (17, .iload_n 1, 1), (18, .iastore, 1), (19, .aload_n 0, 1), (20, .getfield 25, 3), (23, .aload_n 0, 1), (24, .getfield 32, 3), (27, .iload_n 2, 1), (28, .iastore, 1), (29, .aload_n 0, 1), (30, .dup, 1), (31, .getfield 32, 3), (34, .iconst 1, 1), (35, .iadd, 1), (36, .putfield 32, 3), (39, .return_, 1)]
theorem dd_X7_addEntry : ∀ e ∈ D_X7_addEntry, decode (mtJ 81).2.1 e.1 = .ok e.2 := by decide +kernel
set_option maxRecDepth 10000 in
theorem so_X7_addEntry : ∀ e ∈ o_X7_addEntry, SndO 81 e.1 e.2 := by
  refine List.forall_mem_cons.mpr ⟨s_aload_n (dd_X7_addEntry (0, .aload_n 0, 1) (List.mem_of_getElem? (i := 0) rfl)) rfl, ?_⟩
  refine List.forall_mem_cons.mpr ⟨s_getI (k := 6) K7 (by decide) (dd_X7_addEntry (1, .getfield 32, 3) (List.mem_of_getElem? (i := 1) rfl)) ow_X7_addEntry fl7_32 rfl, ?_⟩
  refine List.forall_mem_cons.mpr ⟨s_bipush (dd_X7_addEntry (4, .bipush 15, 2) (List.mem_of_getElem? (i := 2) rfl)) rfl, ?_⟩
  refine List.forall_mem_cons.mpr ⟨s_icmp_ge (dd_X7_addEntry (6, .if_icmp .ge 33, 3) (List.mem_of_getElem? (i := 3) rfl)) (by decide), ?_⟩
  refine List.forall_mem_cons.mpr ⟨s_aload_n (dd_X7_addEntry (9, .aload_n 0, 1) (List.mem_of_getElem? (i := 4) rfl)) rfl, ?_⟩
  refine List.forall_mem_cons.mpr ⟨s_getR (k := 3) K7 (by decide) (dd_X7_addEntry (10, .getfield 22, 3) (List.mem_of_getElem? (i := 5) rfl)) ow_X7_addEntry fl7_22 rfl, ?_⟩
  refine List.forall_mem_cons.mpr ⟨s_aload_n (dd_X7_addEntry (13, .aload_n 0, 1) (List.mem_of_getElem? (i := 6) rfl)) rfl, ?_⟩
  refine List.forall_mem_cons.mpr ⟨s_getI (k := 6) K7 (by decide) (dd_X7_addEntry (14, .getfield 32, 3) (List.mem_of_getElem? (i := 7) rfl)) ow_X7_addEntry fl7_32 rfl, ?_⟩
  refine List.forall_mem_cons.mpr ⟨s_iload_n (dd_X7_addEntry (17, .iload_n 1, 1) (List.mem_of_getElem? (i := 8) rfl)) rfl, ?_⟩
  refine List.forall_mem_cons.mpr ⟨s_iast (dd_X7_addEntry (18, .iastore, 1) (List.mem_of_getElem? (i := 9) rfl)), ?_⟩
  refine List.forall_mem_cons.mpr ⟨s_aload_n (dd_X7_addEntry (19, .aload_n 0, 1) (List.mem_of_getElem? (i := 10) rfl)) rfl, ?_⟩
  refine List.forall_mem_cons.mpr ⟨s_getR (k := 4) K7 (by decide) (dd_X7_addEntry (20, .getfield 25, 3) (List.mem_of_getElem? (i := 11) rfl)) ow_X7_addEntry fl7_25 rfl, ?_⟩
  refine List.forall_mem_cons.mpr ⟨s_aload_n (dd_X7_addEntry (23, .aload_n 0, 1) (List.mem_of_getElem? (i := 12) rfl)) rfl, ?_⟩
  refine List.forall_mem_cons.mpr ⟨s_getI (k := 6) K7 (by decide) (dd_X7_addEntry (24, .getfield 32, 3) (List.mem_of_getElem? (i := 13) rfl)) ow_X7_addEntry fl7_32 rfl, ?_⟩
  refine List.forall_mem_cons.mpr ⟨s_iload_n (dd_X7_addEntry (27, .iload_n 2, 1) (List.mem_of_getElem? (i := 14) rfl)) rfl, ?_⟩
  refine List.forall_mem_cons.mpr ⟨s_iast (dd_X7_addEntry (28, .iastore, 1) (List.mem_of_getElem? (i := 15) rfl)), ?_⟩
  refine List.forall_mem_cons.mpr ⟨s_aload_n (dd_X7_addEntry (29, .aload_n 0, 1) (List.mem_of_getElem? (i := 16) rfl)) rfl, ?_⟩
  refine List.forall_mem_cons.mpr ⟨s_dup (dd_X7_addEntry (30, .dup, 1) (List.mem_of_getElem? (i := 17) rfl)), ?_⟩
  refine List.forall_mem_cons.mpr ⟨s_getI (k := 6) K7 (by decide) (dd_X7_addEntry (31, .getfield 32, 3) (List.mem_of_getElem? (i := 18) rfl)) ow_X7_addEntry fl7_32 rfl, ?_⟩
  refine List.forall_mem_cons.mpr ⟨s_iconst (dd_X7_addEntry (34, .iconst 1, 1) (List.mem_of_getElem? (i := 19) rfl)) rfl, ?_⟩
  refine List.forall_mem_cons.mpr ⟨s_iadd (dd_X7_addEntry (35, .iadd, 1) (List.mem_of_getElem? (i := 20) rfl)), ?_⟩
  refine List.forall_mem_cons.mpr ⟨s_putI (k := 6) K7 (by decide) (dd_X7_addEntry (36, .putfield 32, 3) (List.mem_of_getElem? (i := 21) rfl)) ow_X7_addEntry fl7_32 (Or.inl rfl) rfl, ?_⟩
  refine List.forall_mem_cons.mpr ⟨Or.inl ⟨rfl, (dd_X7_addEntry (39, .return_, 1) (List.mem_of_getElem? (i := 22) rfl)), rfl⟩, ?_⟩
  exact fun _ h => absurd h List.not_mem_nil
theorem ow_X7_firstUntrue : (mtJ 82).1.cls = "SatchelSins$Slate" := rfl
def D_X7_firstUntrue : List (Nat × Instr × Nat) := [(0, .iconst 0, 1), (1, .istore_n 2, 1), (2, .iload_n 2, 1), (3, .aload_n 0, 1), (4, .getfield 28, 3), (7, .if_icmp .ge 36, 3), (10, .aload_n 1, 1), (11, .aload_n 0, 1), (12, .getfield 9, 3), (15, .iload_n 2, 1), (16, .iaload, 1), (17, .aload_n 0, 1), (18, .getfield 15, 3), (21, .iload_n 2, 1), (22, .iaload, 1), (23, .invokevirtual 35, 3), (26, .aload_n 0, 1), (27, .getfield 18, 3), (30, .iload_n 2, 1), (31, .baload, 1), (32, .if_icmp .eq 5, 3), (35, .iload_n 2, 1), (36, .ireturn, 1), (37, .iinc 2 1, 3), (40, .goto (-38), 3), (43, .iconst (-1), 1), (44, .ireturn, 1)]
theorem dd_X7_firstUntrue : ∀ e ∈ D_X7_firstUntrue, decode (mtJ 82).2.1 e.1 = .ok e.2 := by decide +kernel
set_option maxRecDepth 10000 in
theorem so_X7_firstUntrue : ∀ e ∈ o_X7_firstUntrue, SndO 82 e.1 e.2 := by
  refine List.forall_mem_cons.mpr ⟨s_iconst (dd_X7_firstUntrue (0, .iconst 0, 1) (List.mem_of_getElem? (i := 0) rfl)) rfl, ?_⟩
  refine List.forall_mem_cons.mpr ⟨s_istore_n (dd_X7_firstUntrue (1, .istore_n 2, 1) (List.mem_of_getElem? (i := 1) rfl)) rfl, ?_⟩
  refine List.forall_mem_cons.mpr ⟨s_iload_n (dd_X7_firstUntrue (2, .iload_n 2, 1) (List.mem_of_getElem? (i := 2) rfl)) rfl, ?_⟩
  refine List.forall_mem_cons.mpr ⟨s_aload_n (dd_X7_firstUntrue (3, .aload_n 0, 1) (List.mem_of_getElem? (i := 3) rfl)) rfl, ?_⟩
  refine List.forall_mem_cons.mpr ⟨s_getI (k := 5) K7 (by decide) (dd_X7_firstUntrue (4, .getfield 28, 3) (List.mem_of_getElem? (i := 4) rfl)) ow_X7_firstUntrue fl7_28 rfl, ?_⟩
  refine List.forall_mem_cons.mpr ⟨s_icmp_ge (dd_X7_firstUntrue (7, .if_icmp .ge 36, 3) (List.mem_of_getElem? (i := 5) rfl)) (by decide), ?_⟩
  refine List.forall_mem_cons.mpr ⟨s_aload_n (dd_X7_firstUntrue (10, .aload_n 1, 1) (List.mem_of_getElem? (i := 6) rfl)) rfl, ?_⟩
  refine List.forall_mem_cons.mpr ⟨s_aload_n (dd_X7_firstUntrue (11, .aload_n 0, 1) (List.mem_of_getElem? (i := 7) rfl)) rfl, ?_⟩
  refine List.forall_mem_cons.mpr ⟨s_getR (k := 0) K7 (by decide) (dd_X7_firstUntrue (12, .getfield 9, 3) (List.mem_of_getElem? (i := 8) rfl)) ow_X7_firstUntrue fl7_9 rfl, ?_⟩
  refine List.forall_mem_cons.mpr ⟨s_iload_n (dd_X7_firstUntrue (15, .iload_n 2, 1) (List.mem_of_getElem? (i := 9) rfl)) rfl, ?_⟩
  refine List.forall_mem_cons.mpr ⟨s_iald (dd_X7_firstUntrue (16, .iaload, 1) (List.mem_of_getElem? (i := 10) rfl)), ?_⟩
  refine List.forall_mem_cons.mpr ⟨s_aload_n (dd_X7_firstUntrue (17, .aload_n 0, 1) (List.mem_of_getElem? (i := 11) rfl)) rfl, ?_⟩
  refine List.forall_mem_cons.mpr ⟨s_getR (k := 1) K7 (by decide) (dd_X7_firstUntrue (18, .getfield 15, 3) (List.mem_of_getElem? (i := 12) rfl)) ow_X7_firstUntrue fl7_15 rfl, ?_⟩
  refine List.forall_mem_cons.mpr ⟨s_iload_n (dd_X7_firstUntrue (21, .iload_n 2, 1) (List.mem_of_getElem? (i := 13) rfl)) rfl, ?_⟩
  refine List.forall_mem_cons.mpr ⟨s_iald (dd_X7_firstUntrue (22, .iaload, 1) (List.mem_of_getElem? (i := 14) rfl)), ?_⟩
  refine List.forall_mem_cons.mpr ⟨⟨s_callV (ci := 0) rfl mo18 rfl rfl (dd_X7_firstUntrue (23, .invokevirtual 35, 3) (List.mem_of_getElem? (i := 15) rfl)) ow_X7_firstUntrue ml7_35 mi18 msl18 in_0 mn18, mo18⟩, ?_⟩
  refine List.forall_mem_cons.mpr ⟨s_aload_n (dd_X7_firstUntrue (26, .aload_n 0, 1) (List.mem_of_getElem? (i := 16) rfl)) rfl, ?_⟩
  refine List.forall_mem_cons.mpr ⟨s_getR (k := 2) K7 (by decide) (dd_X7_firstUntrue (27, .getfield 18, 3) (List.mem_of_getElem? (i := 17) rfl)) ow_X7_firstUntrue fl7_18 rfl, ?_⟩
  refine List.forall_mem_cons.mpr ⟨s_iload_n (dd_X7_firstUntrue (30, .iload_n 2, 1) (List.mem_of_getElem? (i := 18) rfl)) rfl, ?_⟩
  refine List.forall_mem_cons.mpr ⟨s_bald (dd_X7_firstUntrue (31, .baload, 1) (List.mem_of_getElem? (i := 19) rfl)), ?_⟩
  refine List.forall_mem_cons.mpr ⟨s_icmp_eq (dd_X7_firstUntrue (32, .if_icmp .eq 5, 3) (List.mem_of_getElem? (i := 20) rfl)) (by decide), ?_⟩
  refine List.forall_mem_cons.mpr ⟨s_iload_n (dd_X7_firstUntrue (35, .iload_n 2, 1) (List.mem_of_getElem? (i := 21) rfl)) rfl, ?_⟩
  refine List.forall_mem_cons.mpr ⟨Or.inr (Or.inl ⟨rfl, (dd_X7_firstUntrue (36, .ireturn, 1) (List.mem_of_getElem? (i := 22) rfl)), rfl⟩), ?_⟩
  refine List.forall_mem_cons.mpr ⟨s_iinc (dd_X7_firstUntrue (37, .iinc 2 1, 3) (List.mem_of_getElem? (i := 23) rfl)) rfl, ?_⟩
  refine List.forall_mem_cons.mpr ⟨s_goto (dd_X7_firstUntrue (40, .goto (-38), 3) (List.mem_of_getElem? (i := 24) rfl)) (by decide), ?_⟩
  refine List.forall_mem_cons.mpr ⟨s_iconst (dd_X7_firstUntrue (43, .iconst (-1), 1) (List.mem_of_getElem? (i := 25) rfl)) rfl, ?_⟩
  refine List.forall_mem_cons.mpr ⟨Or.inr (Or.inl ⟨rfl, (dd_X7_firstUntrue (44, .ireturn, 1) (List.mem_of_getElem? (i := 26) rfl)), rfl⟩), ?_⟩
  exact fun _ h => absurd h List.not_mem_nil
theorem ow_X7_firstWrong : (mtJ 83).1.cls = "SatchelSins$Slate" := rfl
def D_X7_firstWrong : List (Nat × Instr × Nat) := [(0, .iconst 0, 1), (1, .istore_n 2, 1), (2, .iload_n 2, 1), (3, .aload_n 0, 1), (4, .getfield 32, 3), (7, .if_icmp .ge 30, 3), (10, .aload_n 1, 1), (11, .aload_n 0, 1), (12, .getfield 22, 3), (15, .iload_n 2, 1), (16, .iaload, 1), (17, .invokevirtual 41, 3), (20, .aload_n 0, 1), (21, .getfield 25, 3), (24, .iload_n 2, 1), (25, .iaload, 1), (26, .if_icmp .eq 5, 3), (29, .iload_n 2, 1), (30, .ireturn, 1), (31, .iinc 2 1, 3), (34, .goto (-32), 3), (37, .iconst (-1), 1), (38, .ireturn, 1)]
theorem dd_X7_firstWrong : ∀ e ∈ D_X7_firstWrong, decode (mtJ 83).2.1 e.1 = .ok e.2 := by decide +kernel
set_option maxRecDepth 10000 in
theorem so_X7_firstWrong : ∀ e ∈ o_X7_firstWrong, SndO 83 e.1 e.2 := by
  refine List.forall_mem_cons.mpr ⟨s_iconst (dd_X7_firstWrong (0, .iconst 0, 1) (List.mem_of_getElem? (i := 0) rfl)) rfl, ?_⟩
  refine List.forall_mem_cons.mpr ⟨s_istore_n (dd_X7_firstWrong (1, .istore_n 2, 1) (List.mem_of_getElem? (i := 1) rfl)) rfl, ?_⟩
  refine List.forall_mem_cons.mpr ⟨s_iload_n (dd_X7_firstWrong (2, .iload_n 2, 1) (List.mem_of_getElem? (i := 2) rfl)) rfl, ?_⟩
  refine List.forall_mem_cons.mpr ⟨s_aload_n (dd_X7_firstWrong (3, .aload_n 0, 1) (List.mem_of_getElem? (i := 3) rfl)) rfl, ?_⟩
  refine List.forall_mem_cons.mpr ⟨s_getI (k := 6) K7 (by decide) (dd_X7_firstWrong (4, .getfield 32, 3) (List.mem_of_getElem? (i := 4) rfl)) ow_X7_firstWrong fl7_32 rfl, ?_⟩
  refine List.forall_mem_cons.mpr ⟨s_icmp_ge (dd_X7_firstWrong (7, .if_icmp .ge 30, 3) (List.mem_of_getElem? (i := 5) rfl)) (by decide), ?_⟩
  refine List.forall_mem_cons.mpr ⟨s_aload_n (dd_X7_firstWrong (10, .aload_n 1, 1) (List.mem_of_getElem? (i := 6) rfl)) rfl, ?_⟩
  refine List.forall_mem_cons.mpr ⟨s_aload_n (dd_X7_firstWrong (11, .aload_n 0, 1) (List.mem_of_getElem? (i := 7) rfl)) rfl, ?_⟩
  refine List.forall_mem_cons.mpr ⟨s_getR (k := 3) K7 (by decide) (dd_X7_firstWrong (12, .getfield 22, 3) (List.mem_of_getElem? (i := 8) rfl)) ow_X7_firstWrong fl7_22 rfl, ?_⟩
  refine List.forall_mem_cons.mpr ⟨s_iload_n (dd_X7_firstWrong (15, .iload_n 2, 1) (List.mem_of_getElem? (i := 9) rfl)) rfl, ?_⟩
  refine List.forall_mem_cons.mpr ⟨s_iald (dd_X7_firstWrong (16, .iaload, 1) (List.mem_of_getElem? (i := 10) rfl)), ?_⟩
  refine List.forall_mem_cons.mpr ⟨⟨s_callV (ci := 0) rfl mo9 rfl rfl (dd_X7_firstWrong (17, .invokevirtual 41, 3) (List.mem_of_getElem? (i := 11) rfl)) ow_X7_firstWrong ml7_41 mi9 msl9 in_0 mn9, mo9⟩, ?_⟩
  refine List.forall_mem_cons.mpr ⟨s_aload_n (dd_X7_firstWrong (20, .aload_n 0, 1) (List.mem_of_getElem? (i := 12) rfl)) rfl, ?_⟩
  refine List.forall_mem_cons.mpr ⟨s_getR (k := 4) K7 (by decide) (dd_X7_firstWrong (21, .getfield 25, 3) (List.mem_of_getElem? (i := 13) rfl)) ow_X7_firstWrong fl7_25 rfl, ?_⟩
  refine List.forall_mem_cons.mpr ⟨s_iload_n (dd_X7_firstWrong (24, .iload_n 2, 1) (List.mem_of_getElem? (i := 14) rfl)) rfl, ?_⟩
  refine List.forall_mem_cons.mpr ⟨s_iald (dd_X7_firstWrong (25, .iaload, 1) (List.mem_of_getElem? (i := 15) rfl)), ?_⟩
  refine List.forall_mem_cons.mpr ⟨s_icmp_eq (dd_X7_firstWrong (26, .if_icmp .eq 5, 3) (List.mem_of_getElem? (i := 16) rfl)) (by decide), ?_⟩
  refine List.forall_mem_cons.mpr ⟨s_iload_n (dd_X7_firstWrong (29, .iload_n 2, 1) (List.mem_of_getElem? (i := 17) rfl)) rfl, ?_⟩
  refine List.forall_mem_cons.mpr ⟨Or.inr (Or.inl ⟨rfl, (dd_X7_firstWrong (30, .ireturn, 1) (List.mem_of_getElem? (i := 18) rfl)), rfl⟩), ?_⟩
  refine List.forall_mem_cons.mpr ⟨s_iinc (dd_X7_firstWrong (31, .iinc 2 1, 3) (List.mem_of_getElem? (i := 19) rfl)) rfl, ?_⟩
  refine List.forall_mem_cons.mpr ⟨s_goto (dd_X7_firstWrong (34, .goto (-32), 3) (List.mem_of_getElem? (i := 20) rfl)) (by decide), ?_⟩
  refine List.forall_mem_cons.mpr ⟨s_iconst (dd_X7_firstWrong (37, .iconst (-1), 1) (List.mem_of_getElem? (i := 21) rfl)) rfl, ?_⟩
  refine List.forall_mem_cons.mpr ⟨Or.inr (Or.inl ⟨rfl, (dd_X7_firstWrong (38, .ireturn, 1) (List.mem_of_getElem? (i := 22) rfl)), rfl⟩), ?_⟩
  exact fun _ h => absurd h List.not_mem_nil
theorem ow_X8_init : (mtJ 84).1.cls = "SatchelSins" := rfl
def D_X8_init_1 : List (Nat × Instr × Nat) := [(0, .aload_n 0, 1), (1, .invokespecial 1, 3), (4, .aload_n 0, 1), (5, .sipush 240, 3), (8, .newarray .int, 2), (10, .putfield 9, 3), (13, .aload_n 0, 1), (14, .iconst (-1), 1), (15, .putfield 13, 3), (18, .aload_n 0, 1), (19, .new 17, 3), (22, .dup, 1), (23, .invokespecial 19, 3), (26, .putfield 20, 3), (29, .aload_n 0, 1), (30, .new 17, 3), (33, .dup, 1), (34, .invokespecial 19, 3), (37, .putfield 24, 3), (40, .aload_n 0, 1), (41, .new 27, 3), (44, .dup, 1), (45, .aload_n 0, 1), (46, .getfield 9, 3), (49, .aload_n 0, 1), (50, .getfield 24, 3), (53, .invokespecial 29, 3), (56, .putfield 32, 3), (59, .aload_n 0, 1), (60, .new 36, 3), (63, .dup, 1), (64, .aload_n 0, 1), (65, .getfield 20, 3), (68, .invokespecial 38, 3), (71, .putfield 41, 3), (74, .aload_n 0, 1), (75, .new 45, 3), (78, .dup, 1), (79, .invokespecial 47, 3), (82, .putfield 48, 3), (85, .aload_n 0, 1), (86, .iconst 2, 1), (87, .anewarray 52, 3), (90, .putfield 54, 3), (93, .aload_n 0, 1), (94, .new 58, 3), (97, .dup, 1), (98, .aload_n 0, 1), (99, .getfield 20, 3), (102, .aload_n 0, 1), (103, .getfield 41, 3), (106, .iconst 0, 1), (107, .invokespecial 60, 3), (110, .putfield 63, 3), (113, .aload_n 0, 1), (114, .new 58, 3), (117, .dup, 1), (118, .aload_n 0, 1), (119, .getfield 20, 3), (122, .aload_n 0, 1)]
theorem dd_X8_init_1 : ∀ e ∈ D_X8_init_1, decode (mtJ 84).2.1 e.1 = .ok e.2 := by decide +kernel
set_option maxRecDepth 10000 in
theorem so_X8_init_1 : ∀ e ∈ o_X8_init_1, SndO 84 e.1 e.2 := by
  refine List.forall_mem_cons.mpr ⟨s_aload_n (dd_X8_init_1 (0, .aload_n 0, 1) (List.mem_of_getElem? (i := 0) rfl)) rfl, ?_⟩
  refine List.forall_mem_cons.mpr ⟨s_obj (dd_X8_init_1 (1, .invokespecial 1, 3) (List.mem_of_getElem? (i := 1) rfl)) ow_X8_init ml8_1 oi1 oi2, ?_⟩
  refine List.forall_mem_cons.mpr ⟨s_aload_n (dd_X8_init_1 (4, .aload_n 0, 1) (List.mem_of_getElem? (i := 2) rfl)) rfl, ?_⟩
  refine List.forall_mem_cons.mpr ⟨s_sipush (dd_X8_init_1 (5, .sipush 240, 3) (List.mem_of_getElem? (i := 3) rfl)) rfl, ?_⟩
  refine List.forall_mem_cons.mpr ⟨s_newI (dd_X8_init_1 (8, .newarray .int, 2) (List.mem_of_getElem? (i := 4) rfl)) ac1, ?_⟩
  refine List.forall_mem_cons.mpr ⟨s_putR (k := 0) K8 (by decide) (dd_X8_init_1 (10, .putfield 9, 3) (List.mem_of_getElem? (i := 5) rfl)) ow_X8_init fl8_9 (Or.inr ⟨rfl, rfl, rfl⟩) rfl (fun _ => rfl) (fun _ => rfl), ?_⟩
  refine List.forall_mem_cons.mpr ⟨s_aload_n (dd_X8_init_1 (13, .aload_n 0, 1) (List.mem_of_getElem? (i := 6) rfl)) rfl, ?_⟩
  refine List.forall_mem_cons.mpr ⟨s_iconst (dd_X8_init_1 (14, .iconst (-1), 1) (List.mem_of_getElem? (i := 7) rfl)) rfl, ?_⟩
  refine List.forall_mem_cons.mpr ⟨s_putI (k := 2) K8 (by decide) (dd_X8_init_1 (15, .putfield 13, 3) (List.mem_of_getElem? (i := 8) rfl)) ow_X8_init fl8_13 (Or.inl rfl) rfl, ?_⟩
  refine List.forall_mem_cons.mpr ⟨s_aload_n (dd_X8_init_1 (18, .aload_n 0, 1) (List.mem_of_getElem? (i := 9) rfl)) rfl, ?_⟩
  refine List.forall_mem_cons.mpr ⟨s_new K5 (dd_X8_init_1 (19, .new 17, 3) (List.mem_of_getElem? (i := 10) rfl)) ow_X8_init ck8_17 ci5 in_5 ok5, ?_⟩
  refine List.forall_mem_cons.mpr ⟨s_dup (dd_X8_init_1 (22, .dup, 1) (List.mem_of_getElem? (i := 11) rfl)), ?_⟩
  refine List.forall_mem_cons.mpr ⟨⟨s_callIN mo61 rfl rfl rfl (dd_X8_init_1 (23, .invokespecial 19, 3) (List.mem_of_getElem? (i := 12) rfl)) ow_X8_init (List.mem_of_getElem? (i := 0) rfl) mi61 mn61, mo61⟩, ?_⟩
  refine List.forall_mem_cons.mpr ⟨s_putR (k := 3) K8 (by decide) (dd_X8_init_1 (26, .putfield 20, 3) (List.mem_of_getElem? (i := 13) rfl)) ow_X8_init fl8_20 (Or.inr ⟨rfl, rfl, rfl⟩) rfl (fun _ => rfl) (fun _ => rfl), ?_⟩
  refine List.forall_mem_cons.mpr ⟨s_aload_n (dd_X8_init_1 (29, .aload_n 0, 1) (List.mem_of_getElem? (i := 14) rfl)) rfl, ?_⟩
  refine List.forall_mem_cons.mpr ⟨s_new K5 (dd_X8_init_1 (30, .new 17, 3) (List.mem_of_getElem? (i := 15) rfl)) ow_X8_init ck8_17 ci5 in_5 ok5, ?_⟩
  refine List.forall_mem_cons.mpr ⟨s_dup (dd_X8_init_1 (33, .dup, 1) (List.mem_of_getElem? (i := 16) rfl)), ?_⟩
  refine List.forall_mem_cons.mpr ⟨⟨s_callIN mo61 rfl rfl rfl (dd_X8_init_1 (34, .invokespecial 19, 3) (List.mem_of_getElem? (i := 17) rfl)) ow_X8_init (List.mem_of_getElem? (i := 0) rfl) mi61 mn61, mo61⟩, ?_⟩
  refine List.forall_mem_cons.mpr ⟨s_putR (k := 4) K8 (by decide) (dd_X8_init_1 (37, .putfield 24, 3) (List.mem_of_getElem? (i := 18) rfl)) ow_X8_init fl8_24 (Or.inr ⟨rfl, rfl, rfl⟩) rfl (fun _ => rfl) (fun _ => rfl), ?_⟩
  refine List.forall_mem_cons.mpr ⟨s_aload_n (dd_X8_init_1 (40, .aload_n 0, 1) (List.mem_of_getElem? (i := 19) rfl)) rfl, ?_⟩
  refine List.forall_mem_cons.mpr ⟨s_new K4 (dd_X8_init_1 (41, .new 27, 3) (List.mem_of_getElem? (i := 20) rfl)) ow_X8_init ck8_27 ci4 in_4 ok4, ?_⟩
  refine List.forall_mem_cons.mpr ⟨s_dup (dd_X8_init_1 (44, .dup, 1) (List.mem_of_getElem? (i := 21) rfl)), ?_⟩
  refine List.forall_mem_cons.mpr ⟨s_aload_n (dd_X8_init_1 (45, .aload_n 0, 1) (List.mem_of_getElem? (i := 22) rfl)) rfl, ?_⟩
  refine List.forall_mem_cons.mpr ⟨s_getR (k := 0) K8 (by decide) (dd_X8_init_1 (46, .getfield 9, 3) (List.mem_of_getElem? (i := 23) rfl)) ow_X8_init fl8_9 rfl, ?_⟩
  refine List.forall_mem_cons.mpr ⟨s_aload_n (dd_X8_init_1 (49, .aload_n 0, 1) (List.mem_of_getElem? (i := 24) rfl)) rfl, ?_⟩
  refine List.forall_mem_cons.mpr ⟨s_getR (k := 4) K8 (by decide) (dd_X8_init_1 (50, .getfield 24, 3) (List.mem_of_getElem? (i := 25) rfl)) ow_X8_init fl8_24 rfl, ?_⟩
  refine List.forall_mem_cons.mpr ⟨⟨s_callI mo46 rfl rfl rfl (dd_X8_init_1 (53, .invokespecial 29, 3) (List.mem_of_getElem? (i := 26) rfl)) ow_X8_init ml8_29 mi46 mn46, mo46⟩, ?_⟩
  refine List.forall_mem_cons.mpr ⟨s_putR (k := 5) K8 (by decide) (dd_X8_init_1 (56, .putfield 32, 3) (List.mem_of_getElem? (i := 27) rfl)) ow_X8_init fl8_32 (Or.inr ⟨rfl, rfl, rfl⟩) rfl (fun _ => rfl) (fun _ => rfl), ?_⟩
  refine List.forall_mem_cons.mpr ⟨s_aload_n (dd_X8_init_1 (59, .aload_n 0, 1) (List.mem_of_getElem? (i := 28) rfl)) rfl, ?_⟩
  refine List.forall_mem_cons.mpr ⟨s_new K0 (dd_X8_init_1 (60, .new 36, 3) (List.mem_of_getElem? (i := 29) rfl)) ow_X8_init ck8_36 ci0 in_0 ok0, ?_⟩
  refine List.forall_mem_cons.mpr ⟨s_dup (dd_X8_init_1 (63, .dup, 1) (List.mem_of_getElem? (i := 30) rfl)), ?_⟩
  refine List.forall_mem_cons.mpr ⟨s_aload_n (dd_X8_init_1 (64, .aload_n 0, 1) (List.mem_of_getElem? (i := 31) rfl)) rfl, ?_⟩
  refine List.forall_mem_cons.mpr ⟨s_getR (k := 3) K8 (by decide) (dd_X8_init_1 (65, .getfield 20, 3) (List.mem_of_getElem? (i := 32) rfl)) ow_X8_init fl8_20 rfl, ?_⟩
  refine List.forall_mem_cons.mpr ⟨⟨s_callI mo0 rfl rfl rfl (dd_X8_init_1 (68, .invokespecial 38, 3) (List.mem_of_getElem? (i := 33) rfl)) ow_X8_init ml8_38 mi0 mn0, mo0⟩, ?_⟩
  refine List.forall_mem_cons.mpr ⟨s_putR (k := 6) K8 (by decide) (dd_X8_init_1 (71, .putfield 41, 3) (List.mem_of_getElem? (i := 34) rfl)) ow_X8_init fl8_41 (Or.inr ⟨rfl, rfl, rfl⟩) rfl (fun _ => rfl) (fun _ => rfl), ?_⟩
  refine List.forall_mem_cons.mpr ⟨s_aload_n (dd_X8_init_1 (74, .aload_n 0, 1) (List.mem_of_getElem? (i := 35) rfl)) rfl, ?_⟩
  refine List.forall_mem_cons.mpr ⟨s_new K3 (dd_X8_init_1 (75, .new 45, 3) (List.mem_of_getElem? (i := 36) rfl)) ow_X8_init ck8_45 ci3 in_3 ok3, ?_⟩
  refine List.forall_mem_cons.mpr ⟨s_dup (dd_X8_init_1 (78, .dup, 1) (List.mem_of_getElem? (i := 37) rfl)), ?_⟩
  refine List.forall_mem_cons.mpr ⟨⟨s_callIN mo42 rfl rfl rfl (dd_X8_init_1 (79, .invokespecial 47, 3) (List.mem_of_getElem? (i := 38) rfl)) ow_X8_init (List.mem_of_getElem? (i := 1) rfl) mi42 mn42, mo42⟩, ?_⟩
  refine List.forall_mem_cons.mpr ⟨s_putR (k := 7) K8 (by decide) (dd_X8_init_1 (82, .putfield 48, 3) (List.mem_of_getElem? (i := 39) rfl)) ow_X8_init fl8_48 (Or.inr ⟨rfl, rfl, rfl⟩) rfl (fun _ => rfl) (fun _ => rfl), ?_⟩
  refine List.forall_mem_cons.mpr ⟨s_aload_n (dd_X8_init_1 (85, .aload_n 0, 1) (List.mem_of_getElem? (i := 40) rfl)) rfl, ?_⟩
  refine List.forall_mem_cons.mpr ⟨s_iconst (dd_X8_init_1 (86, .iconst 2, 1) (List.mem_of_getElem? (i := 41) rfl)) rfl, ?_⟩
  refine List.forall_mem_cons.mpr ⟨s_newO (dd_X8_init_1 (87, .anewarray 52, 3) (List.mem_of_getElem? (i := 42) rfl)) ow_X8_init ck8_52, ?_⟩
  refine List.forall_mem_cons.mpr ⟨s_putR (k := 8) K8 (by decide) (dd_X8_init_1 (90, .putfield 54, 3) (List.mem_of_getElem? (i := 43) rfl)) ow_X8_init fl8_54 (Or.inr ⟨rfl, rfl, rfl⟩) rfl (fun _ => rfl) (fun _ => rfl), ?_⟩
  refine List.forall_mem_cons.mpr ⟨s_aload_n (dd_X8_init_1 (93, .aload_n 0, 1) (List.mem_of_getElem? (i := 44) rfl)) rfl, ?_⟩
  refine List.forall_mem_cons.mpr ⟨s_new K2 (dd_X8_init_1 (94, .new 58, 3) (List.mem_of_getElem? (i := 45) rfl)) ow_X8_init ck8_58 ci2 in_2 ok2, ?_⟩
  refine List.forall_mem_cons.mpr ⟨s_dup (dd_X8_init_1 (97, .dup, 1) (List.mem_of_getElem? (i := 46) rfl)), ?_⟩
  refine List.forall_mem_cons.mpr ⟨s_aload_n (dd_X8_init_1 (98, .aload_n 0, 1) (List.mem_of_getElem? (i := 47) rfl)) rfl, ?_⟩
  refine List.forall_mem_cons.mpr ⟨s_getR (k := 3) K8 (by decide) (dd_X8_init_1 (99, .getfield 20, 3) (List.mem_of_getElem? (i := 48) rfl)) ow_X8_init fl8_20 rfl, ?_⟩
  refine List.forall_mem_cons.mpr ⟨s_aload_n (dd_X8_init_1 (102, .aload_n 0, 1) (List.mem_of_getElem? (i := 49) rfl)) rfl, ?_⟩
  refine List.forall_mem_cons.mpr ⟨s_getR (k := 6) K8 (by decide) (dd_X8_init_1 (103, .getfield 41, 3) (List.mem_of_getElem? (i := 50) rfl)) ow_X8_init fl8_41 rfl, ?_⟩
  refine List.forall_mem_cons.mpr ⟨s_iconst (dd_X8_init_1 (106, .iconst 0, 1) (List.mem_of_getElem? (i := 51) rfl)) rfl, ?_⟩
  refine List.forall_mem_cons.mpr ⟨⟨s_callI mo33 rfl rfl rfl (dd_X8_init_1 (107, .invokespecial 60, 3) (List.mem_of_getElem? (i := 52) rfl)) ow_X8_init ml8_60 mi33 mn33, mo33⟩, ?_⟩
  refine List.forall_mem_cons.mpr ⟨s_putR (k := 9) K8 (by decide) (dd_X8_init_1 (110, .putfield 63, 3) (List.mem_of_getElem? (i := 53) rfl)) ow_X8_init fl8_63 (Or.inr ⟨rfl, rfl, rfl⟩) rfl (fun _ => rfl) (fun _ => rfl), ?_⟩
  refine List.forall_mem_cons.mpr ⟨s_aload_n (dd_X8_init_1 (113, .aload_n 0, 1) (List.mem_of_getElem? (i := 54) rfl)) rfl, ?_⟩
  refine List.forall_mem_cons.mpr ⟨s_new K2 (dd_X8_init_1 (114, .new 58, 3) (List.mem_of_getElem? (i := 55) rfl)) ow_X8_init ck8_58 ci2 in_2 ok2, ?_⟩
  refine List.forall_mem_cons.mpr ⟨s_dup (dd_X8_init_1 (117, .dup, 1) (List.mem_of_getElem? (i := 56) rfl)), ?_⟩
  refine List.forall_mem_cons.mpr ⟨s_aload_n (dd_X8_init_1 (118, .aload_n 0, 1) (List.mem_of_getElem? (i := 57) rfl)) rfl, ?_⟩
  refine List.forall_mem_cons.mpr ⟨s_getR (k := 3) K8 (by decide) (dd_X8_init_1 (119, .getfield 20, 3) (List.mem_of_getElem? (i := 58) rfl)) ow_X8_init fl8_20 rfl, ?_⟩
  refine List.forall_mem_cons.mpr ⟨s_aload_n (dd_X8_init_1 (122, .aload_n 0, 1) (List.mem_of_getElem? (i := 59) rfl)) rfl, ?_⟩
  exact fun _ h => absurd h List.not_mem_nil
def D_X8_init_2 : List (Nat × Instr × Nat) := [(123, .getfield 41, 3), (126, .iconst 1, 1), (127, .invokespecial 60, 3), (130, .putfield 67, 3), (133, .aload_n 0, 1), (134, .new 70, 3), (137, .dup, 1), (138, .aload_n 0, 1), (139, .getfield 20, 3), (142, .invokespecial 72, 3), (145, .putfield 73, 3), (148, .aload_n 0, 1), (149, .new 77, 3), (152, .dup, 1), (153, .invokespecial 79, 3), (156, .putfield 80, 3), (159, .iconst 0, 1), (160, .istore_n 1, 1), (161, .iload_n 1, 1), (162, .aload_n 0, 1), (163, .getfield 54, 3), (166, .arraylength, 1), (167, .if_icmp .ge 22, 3), (170, .aload_n 0, 1), (171, .getfield 54, 3), (174, .iload_n 1, 1), (175, .new 52, 3), (178, .dup, 1), (179, .invokespecial 84, 3), (182, .aastore, 1), (183, .iinc 1 1, 3), (186, .goto (-25), 3), (189, .return_, 1)]
theorem dd_X8_init_2 : ∀ e ∈ D_X8_init_2, decode (mtJ 84).2.1 e.1 = .ok e.2 := by decide +kernel
set_option maxRecDepth 10000 in
theorem so_X8_init_2 : ∀ e ∈ o_X8_init_2, SndO 84 e.1 e.2 := by
  refine List.forall_mem_cons.mpr ⟨s_getR (k := 6) K8 (by decide) (dd_X8_init_2 (123, .getfield 41, 3) (List.mem_of_getElem? (i := 0) rfl)) ow_X8_init fl8_41 rfl, ?_⟩
  refine List.forall_mem_cons.mpr ⟨s_iconst (dd_X8_init_2 (126, .iconst 1, 1) (List.mem_of_getElem? (i := 1) rfl)) rfl, ?_⟩
  refine List.forall_mem_cons.mpr ⟨⟨s_callI mo33 rfl rfl rfl (dd_X8_init_2 (127, .invokespecial 60, 3) (List.mem_of_getElem? (i := 2) rfl)) ow_X8_init ml8_60 mi33 mn33, mo33⟩, ?_⟩
  refine List.forall_mem_cons.mpr ⟨s_putR (k := 10) K8 (by decide) (dd_X8_init_2 (130, .putfield 67, 3) (List.mem_of_getElem? (i := 3) rfl)) ow_X8_init fl8_67 (Or.inr ⟨rfl, rfl, rfl⟩) rfl (fun _ => rfl) (fun _ => rfl), ?_⟩
  refine List.forall_mem_cons.mpr ⟨s_aload_n (dd_X8_init_2 (133, .aload_n 0, 1) (List.mem_of_getElem? (i := 4) rfl)) rfl, ?_⟩
  refine List.forall_mem_cons.mpr ⟨s_new K6 (dd_X8_init_2 (134, .new 70, 3) (List.mem_of_getElem? (i := 5) rfl)) ow_X8_init ck8_70 ci6 in_6 ok6, ?_⟩
  refine List.forall_mem_cons.mpr ⟨s_dup (dd_X8_init_2 (137, .dup, 1) (List.mem_of_getElem? (i := 6) rfl)), ?_⟩
  refine List.forall_mem_cons.mpr ⟨s_aload_n (dd_X8_init_2 (138, .aload_n 0, 1) (List.mem_of_getElem? (i := 7) rfl)) rfl, ?_⟩
  refine List.forall_mem_cons.mpr ⟨s_getR (k := 3) K8 (by decide) (dd_X8_init_2 (139, .getfield 20, 3) (List.mem_of_getElem? (i := 8) rfl)) ow_X8_init fl8_20 rfl, ?_⟩
  refine List.forall_mem_cons.mpr ⟨⟨s_callI mo73 rfl rfl rfl (dd_X8_init_2 (142, .invokespecial 72, 3) (List.mem_of_getElem? (i := 9) rfl)) ow_X8_init ml8_72 mi73 mn73, mo73⟩, ?_⟩
  refine List.forall_mem_cons.mpr ⟨s_putR (k := 11) K8 (by decide) (dd_X8_init_2 (145, .putfield 73, 3) (List.mem_of_getElem? (i := 10) rfl)) ow_X8_init fl8_73 (Or.inr ⟨rfl, rfl, rfl⟩) rfl (fun _ => rfl) (fun _ => rfl), ?_⟩
  refine List.forall_mem_cons.mpr ⟨s_aload_n (dd_X8_init_2 (148, .aload_n 0, 1) (List.mem_of_getElem? (i := 11) rfl)) rfl, ?_⟩
  refine List.forall_mem_cons.mpr ⟨s_new K7 (dd_X8_init_2 (149, .new 77, 3) (List.mem_of_getElem? (i := 12) rfl)) ow_X8_init ck8_77 ci7 in_7 ok7, ?_⟩
  refine List.forall_mem_cons.mpr ⟨s_dup (dd_X8_init_2 (152, .dup, 1) (List.mem_of_getElem? (i := 13) rfl)), ?_⟩
  refine List.forall_mem_cons.mpr ⟨⟨s_callIN mo78 rfl rfl rfl (dd_X8_init_2 (153, .invokespecial 79, 3) (List.mem_of_getElem? (i := 14) rfl)) ow_X8_init (List.mem_of_getElem? (i := 2) rfl) mi78 mn78, mo78⟩, ?_⟩
  refine List.forall_mem_cons.mpr ⟨s_putR (k := 12) K8 (by decide) (dd_X8_init_2 (156, .putfield 80, 3) (List.mem_of_getElem? (i := 15) rfl)) ow_X8_init fl8_80 (Or.inr ⟨rfl, rfl, rfl⟩) rfl (fun _ => rfl) (fun _ => rfl), ?_⟩
  refine List.forall_mem_cons.mpr ⟨s_iconst (dd_X8_init_2 (159, .iconst 0, 1) (List.mem_of_getElem? (i := 16) rfl)) rfl, ?_⟩
  refine List.forall_mem_cons.mpr ⟨s_istore_n (dd_X8_init_2 (160, .istore_n 1, 1) (List.mem_of_getElem? (i := 17) rfl)) rfl, ?_⟩
  refine List.forall_mem_cons.mpr ⟨s_iload_n (dd_X8_init_2 (161, .iload_n 1, 1) (List.mem_of_getElem? (i := 18) rfl)) rfl, ?_⟩
  refine List.forall_mem_cons.mpr ⟨s_aload_n (dd_X8_init_2 (162, .aload_n 0, 1) (List.mem_of_getElem? (i := 19) rfl)) rfl, ?_⟩
  refine List.forall_mem_cons.mpr ⟨s_getR (k := 8) K8 (by decide) (dd_X8_init_2 (163, .getfield 54, 3) (List.mem_of_getElem? (i := 20) rfl)) ow_X8_init fl8_54 rfl, ?_⟩
  refine List.forall_mem_cons.mpr ⟨s_alen (dd_X8_init_2 (166, .arraylength, 1) (List.mem_of_getElem? (i := 21) rfl)), ?_⟩
  refine List.forall_mem_cons.mpr ⟨s_icmp_ge (dd_X8_init_2 (167, .if_icmp .ge 22, 3) (List.mem_of_getElem? (i := 22) rfl)) (by decide), ?_⟩
  refine List.forall_mem_cons.mpr ⟨s_aload_n (dd_X8_init_2 (170, .aload_n 0, 1) (List.mem_of_getElem? (i := 23) rfl)) rfl, ?_⟩
  refine List.forall_mem_cons.mpr ⟨s_getR (k := 8) K8 (by decide) (dd_X8_init_2 (171, .getfield 54, 3) (List.mem_of_getElem? (i := 24) rfl)) ow_X8_init fl8_54 rfl, ?_⟩
  refine List.forall_mem_cons.mpr ⟨s_iload_n (dd_X8_init_2 (174, .iload_n 1, 1) (List.mem_of_getElem? (i := 25) rfl)) rfl, ?_⟩
  refine List.forall_mem_cons.mpr ⟨s_new K1 (dd_X8_init_2 (175, .new 52, 3) (List.mem_of_getElem? (i := 26) rfl)) ow_X8_init ck8_52 ci1 in_1 ok1, ?_⟩
  refine List.forall_mem_cons.mpr ⟨s_dup (dd_X8_init_2 (178, .dup, 1) (List.mem_of_getElem? (i := 27) rfl)), ?_⟩
  refine List.forall_mem_cons.mpr ⟨⟨s_callIN mo30 rfl rfl rfl (dd_X8_init_2 (179, .invokespecial 84, 3) (List.mem_of_getElem? (i := 28) rfl)) ow_X8_init (List.mem_of_getElem? (i := 3) rfl) mi30 mn30, mo30⟩, ?_⟩
  refine List.forall_mem_cons.mpr ⟨s_aast (dd_X8_init_2 (182, .aastore, 1) (List.mem_of_getElem? (i := 29) rfl)) rfl, ?_⟩
  refine List.forall_mem_cons.mpr ⟨s_iinc (dd_X8_init_2 (183, .iinc 1 1, 3) (List.mem_of_getElem? (i := 30) rfl)) rfl, ?_⟩
  refine List.forall_mem_cons.mpr ⟨s_goto (dd_X8_init_2 (186, .goto (-25), 3) (List.mem_of_getElem? (i := 31) rfl)) (by decide), ?_⟩
  refine List.forall_mem_cons.mpr ⟨Or.inl ⟨rfl, (dd_X8_init_2 (189, .return_, 1) (List.mem_of_getElem? (i := 32) rfl)), rfl⟩, ?_⟩
  exact fun _ h => absurd h List.not_mem_nil
theorem so_X8_init : ∀ e ∈ o_X8_init, SndO 84 e.1 e.2 := List.forall_mem_append.mpr ⟨so_X8_init_1, so_X8_init_2⟩
theorem ow_X8_feed : (mtJ 85).1.cls = "SatchelSins" := rfl
def D_X8_feed : List (Nat × Instr × Nat) := [(0, .iload_n 1, 1), (1, .ifCond .lt 10, 3), (4, .iload_n 1, 1), (5, .sipush 255, 3), (8, .if_icmp .le 6, 3), (11, .ldc 85, 2), (13, .ireturn, 1), (14, .aload_n 0, 1), (15, .getfield 86, 3), (18, .aload_n 0, 1), (19, .getfield 9, 3), (22, .arraylength, 1), (23, .if_icmp .lt 6, 3), (26, .ldc 89, 2), (28, .ireturn, 1), (29, .aload_n 0, 1), (30, .getfield 9, 3), (33, .aload_n 0, 1), (34, .getfield 86, 3), (37, .iload_n 1, 1), (38, .iastore, 1), (39, .aload_n 0, 1), (40, .dup, 1), (41, .getfield 86, 3), (44, .iconst 1, 1), (45, .iadd, 1), (46, .putfield 86, 3), (49, .aload_n 0, 1), (50, .getfield 86, 3), (53, .ireturn, 1)]
theorem dd_X8_feed : ∀ e ∈ D_X8_feed, decode (mtJ 85).2.1 e.1 = .ok e.2 := by decide +kernel
set_option maxRecDepth 10000 in
theorem so_X8_feed : ∀ e ∈ o_X8_feed, SndO 85 e.1 e.2 := by
  refine List.forall_mem_cons.mpr ⟨s_iload_n (dd_X8_feed (0, .iload_n 1, 1) (List.mem_of_getElem? (i := 0) rfl)) rfl, ?_⟩
  refine List.forall_mem_cons.mpr ⟨s_if_lt (dd_X8_feed (1, .ifCond .lt 10, 3) (List.mem_of_getElem? (i := 1) rfl)) (by decide), ?_⟩
  refine List.forall_mem_cons.mpr ⟨s_iload_n (dd_X8_feed (4, .iload_n 1, 1) (List.mem_of_getElem? (i := 2) rfl)) rfl, ?_⟩
  refine List.forall_mem_cons.mpr ⟨s_sipush (dd_X8_feed (5, .sipush 255, 3) (List.mem_of_getElem? (i := 3) rfl)) rfl, ?_⟩
  refine List.forall_mem_cons.mpr ⟨s_icmp_le (dd_X8_feed (8, .if_icmp .le 6, 3) (List.mem_of_getElem? (i := 4) rfl)) (by decide), ?_⟩
  refine List.forall_mem_cons.mpr ⟨s_ldc (dd_X8_feed (11, .ldc 85, 2) (List.mem_of_getElem? (i := 5) rfl)) ow_X8_feed ki8_85, ?_⟩
  refine List.forall_mem_cons.mpr ⟨Or.inr (Or.inl ⟨rfl, (dd_X8_feed (13, .ireturn, 1) (List.mem_of_getElem? (i := 6) rfl)), rfl⟩), ?_⟩
  refine List.forall_mem_cons.mpr ⟨s_aload_n (dd_X8_feed (14, .aload_n 0, 1) (List.mem_of_getElem? (i := 7) rfl)) rfl, ?_⟩
  refine List.forall_mem_cons.mpr ⟨s_getI (k := 1) K8 (by decide) (dd_X8_feed (15, .getfield 86, 3) (List.mem_of_getElem? (i := 8) rfl)) ow_X8_feed fl8_86 rfl, ?_⟩
  refine List.forall_mem_cons.mpr ⟨s_aload_n (dd_X8_feed (18, .aload_n 0, 1) (List.mem_of_getElem? (i := 9) rfl)) rfl, ?_⟩
  refine List.forall_mem_cons.mpr ⟨s_getR (k := 0) K8 (by decide) (dd_X8_feed (19, .getfield 9, 3) (List.mem_of_getElem? (i := 10) rfl)) ow_X8_feed fl8_9 rfl, ?_⟩
  refine List.forall_mem_cons.mpr ⟨s_alen (dd_X8_feed (22, .arraylength, 1) (List.mem_of_getElem? (i := 11) rfl)), ?_⟩
  refine List.forall_mem_cons.mpr ⟨s_icmp_lt (dd_X8_feed (23, .if_icmp .lt 6, 3) (List.mem_of_getElem? (i := 12) rfl)) (by decide), ?_⟩
  refine List.forall_mem_cons.mpr ⟨s_ldc (dd_X8_feed (26, .ldc 89, 2) (List.mem_of_getElem? (i := 13) rfl)) ow_X8_feed ki8_89, ?_⟩
  refine List.forall_mem_cons.mpr ⟨Or.inr (Or.inl ⟨rfl, (dd_X8_feed (28, .ireturn, 1) (List.mem_of_getElem? (i := 14) rfl)), rfl⟩), ?_⟩
  refine List.forall_mem_cons.mpr ⟨s_aload_n (dd_X8_feed (29, .aload_n 0, 1) (List.mem_of_getElem? (i := 15) rfl)) rfl, ?_⟩
  refine List.forall_mem_cons.mpr ⟨s_getR (k := 0) K8 (by decide) (dd_X8_feed (30, .getfield 9, 3) (List.mem_of_getElem? (i := 16) rfl)) ow_X8_feed fl8_9 rfl, ?_⟩
  refine List.forall_mem_cons.mpr ⟨s_aload_n (dd_X8_feed (33, .aload_n 0, 1) (List.mem_of_getElem? (i := 17) rfl)) rfl, ?_⟩
  refine List.forall_mem_cons.mpr ⟨s_getI (k := 1) K8 (by decide) (dd_X8_feed (34, .getfield 86, 3) (List.mem_of_getElem? (i := 18) rfl)) ow_X8_feed fl8_86 rfl, ?_⟩
  refine List.forall_mem_cons.mpr ⟨s_iload_n (dd_X8_feed (37, .iload_n 1, 1) (List.mem_of_getElem? (i := 19) rfl)) rfl, ?_⟩
  refine List.forall_mem_cons.mpr ⟨s_iast (dd_X8_feed (38, .iastore, 1) (List.mem_of_getElem? (i := 20) rfl)), ?_⟩
  refine List.forall_mem_cons.mpr ⟨s_aload_n (dd_X8_feed (39, .aload_n 0, 1) (List.mem_of_getElem? (i := 21) rfl)) rfl, ?_⟩
  refine List.forall_mem_cons.mpr ⟨s_dup (dd_X8_feed (40, .dup, 1) (List.mem_of_getElem? (i := 22) rfl)), ?_⟩
  refine List.forall_mem_cons.mpr ⟨s_getI (k := 1) K8 (by decide) (dd_X8_feed (41, .getfield 86, 3) (List.mem_of_getElem? (i := 23) rfl)) ow_X8_feed fl8_86 rfl, ?_⟩
  refine List.forall_mem_cons.mpr ⟨s_iconst (dd_X8_feed (44, .iconst 1, 1) (List.mem_of_getElem? (i := 24) rfl)) rfl, ?_⟩
  refine List.forall_mem_cons.mpr ⟨s_iadd (dd_X8_feed (45, .iadd, 1) (List.mem_of_getElem? (i := 25) rfl)), ?_⟩
  refine List.forall_mem_cons.mpr ⟨s_putI (k := 1) K8 (by decide) (dd_X8_feed (46, .putfield 86, 3) (List.mem_of_getElem? (i := 26) rfl)) ow_X8_feed fl8_86 (Or.inl rfl) rfl, ?_⟩
  refine List.forall_mem_cons.mpr ⟨s_aload_n (dd_X8_feed (49, .aload_n 0, 1) (List.mem_of_getElem? (i := 27) rfl)) rfl, ?_⟩
  refine List.forall_mem_cons.mpr ⟨s_getI (k := 1) K8 (by decide) (dd_X8_feed (50, .getfield 86, 3) (List.mem_of_getElem? (i := 28) rfl)) ow_X8_feed fl8_86 rfl, ?_⟩
  refine List.forall_mem_cons.mpr ⟨Or.inr (Or.inl ⟨rfl, (dd_X8_feed (53, .ireturn, 1) (List.mem_of_getElem? (i := 29) rfl)), rfl⟩), ?_⟩
  exact fun _ h => absurd h List.not_mem_nil
theorem ow_X8_school : (mtJ 86).1.cls = "SatchelSins" := rfl
def D_X8_school : List (Nat × Instr × Nat) := [(0, .aload_n 0, 1), (1, .getfield 32, 3), (4, .aload_n 0, 1), (5, .getfield 86, 3), (8, .invokevirtual 90, 3), (11, .istore_n 1, 1), (12, .aload_n 0, 1), (13, .iconst 0, 1), (14, .putfield 86, 3), (17, .aload_n 0, 1), (18, .aload_n 0, 1), (19, .getfield 32, 3), (22, .invokevirtual 94, 3), (25, .putfield 13, 3), (28, .iload_n 1, 1), (29, .ifCond .eq 8, 3), (32, .bipush (-10), 2), (34, .iload_n 1, 1), (35, .isub, 1), (36, .ireturn, 1), (37, .aload_n 0, 1), (38, .getfield 20, 3), (41, .aload_n 0, 1), (42, .getfield 24, 3), (45, .invokevirtual 98, 3), (48, .aload_n 0, 1), (49, .invokevirtual 101, 3), (52, .aload_n 0, 1), (53, .getfield 20, 3), (56, .getfield 104, 3), (59, .ireturn, 1)]
theorem dd_X8_school : ∀ e ∈ D_X8_school, decode (mtJ 86).2.1 e.1 = .ok e.2 := by decide +kernel
set_option maxRecDepth 10000 in
theorem so_X8_school : ∀ e ∈ o_X8_school, SndO 86 e.1 e.2 := by
  refine List.forall_mem_cons.mpr ⟨s_aload_n (dd_X8_school (0, .aload_n 0, 1) (List.mem_of_getElem? (i := 0) rfl)) rfl, ?_⟩
  refine List.forall_mem_cons.mpr ⟨s_getR (k := 5) K8 (by decide) (dd_X8_school (1, .getfield 32, 3) (List.mem_of_getElem? (i := 1) rfl)) ow_X8_school fl8_32 rfl, ?_⟩
  refine List.forall_mem_cons.mpr ⟨s_aload_n (dd_X8_school (4, .aload_n 0, 1) (List.mem_of_getElem? (i := 2) rfl)) rfl, ?_⟩
  refine List.forall_mem_cons.mpr ⟨s_getI (k := 1) K8 (by decide) (dd_X8_school (5, .getfield 86, 3) (List.mem_of_getElem? (i := 3) rfl)) ow_X8_school fl8_86 rfl, ?_⟩
  refine List.forall_mem_cons.mpr ⟨⟨s_callV (ci := 4) rfl mo47 rfl rfl (dd_X8_school (8, .invokevirtual 90, 3) (List.mem_of_getElem? (i := 4) rfl)) ow_X8_school ml8_90 mi47 msl47 in_4 mn47, mo47⟩, ?_⟩
  refine List.forall_mem_cons.mpr ⟨s_istore_n (dd_X8_school (11, .istore_n 1, 1) (List.mem_of_getElem? (i := 5) rfl)) rfl, ?_⟩
  refine List.forall_mem_cons.mpr ⟨s_aload_n (dd_X8_school (12, .aload_n 0, 1) (List.mem_of_getElem? (i := 6) rfl)) rfl, ?_⟩
  refine List.forall_mem_cons.mpr ⟨s_iconst (dd_X8_school (13, .iconst 0, 1) (List.mem_of_getElem? (i := 7) rfl)) rfl, ?_⟩
  refine List.forall_mem_cons.mpr ⟨s_putI (k := 1) K8 (by decide) (dd_X8_school (14, .putfield 86, 3) (List.mem_of_getElem? (i := 8) rfl)) ow_X8_school fl8_86 (Or.inl rfl) rfl, ?_⟩
  refine List.forall_mem_cons.mpr ⟨s_aload_n (dd_X8_school (17, .aload_n 0, 1) (List.mem_of_getElem? (i := 9) rfl)) rfl, ?_⟩
  refine List.forall_mem_cons.mpr ⟨s_aload_n (dd_X8_school (18, .aload_n 0, 1) (List.mem_of_getElem? (i := 10) rfl)) rfl, ?_⟩
  refine List.forall_mem_cons.mpr ⟨s_getR (k := 5) K8 (by decide) (dd_X8_school (19, .getfield 32, 3) (List.mem_of_getElem? (i := 11) rfl)) ow_X8_school fl8_32 rfl, ?_⟩
  refine List.forall_mem_cons.mpr ⟨⟨s_callV (ci := 4) rfl mo48 rfl rfl (dd_X8_school (22, .invokevirtual 94, 3) (List.mem_of_getElem? (i := 12) rfl)) ow_X8_school ml8_94 mi48 msl48 in_4 mn48, mo48⟩, ?_⟩
  refine List.forall_mem_cons.mpr ⟨s_putI (k := 2) K8 (by decide) (dd_X8_school (25, .putfield 13, 3) (List.mem_of_getElem? (i := 13) rfl)) ow_X8_school fl8_13 (Or.inl rfl) rfl, ?_⟩
  refine List.forall_mem_cons.mpr ⟨s_iload_n (dd_X8_school (28, .iload_n 1, 1) (List.mem_of_getElem? (i := 14) rfl)) rfl, ?_⟩
  refine List.forall_mem_cons.mpr ⟨s_if_eq (dd_X8_school (29, .ifCond .eq 8, 3) (List.mem_of_getElem? (i := 15) rfl)) (by decide), ?_⟩
  refine List.forall_mem_cons.mpr ⟨s_bipush (dd_X8_school (32, .bipush (-10), 2) (List.mem_of_getElem? (i := 16) rfl)) rfl, ?_⟩
  refine List.forall_mem_cons.mpr ⟨s_iload_n (dd_X8_school (34, .iload_n 1, 1) (List.mem_of_getElem? (i := 17) rfl)) rfl, ?_⟩
  refine List.forall_mem_cons.mpr ⟨s_isub (dd_X8_school (35, .isub, 1) (List.mem_of_getElem? (i := 18) rfl)), ?_⟩
  refine List.forall_mem_cons.mpr ⟨Or.inr (Or.inl ⟨rfl, (dd_X8_school (36, .ireturn, 1) (List.mem_of_getElem? (i := 19) rfl)), rfl⟩), ?_⟩
  refine List.forall_mem_cons.mpr ⟨s_aload_n (dd_X8_school (37, .aload_n 0, 1) (List.mem_of_getElem? (i := 20) rfl)) rfl, ?_⟩
  refine List.forall_mem_cons.mpr ⟨s_getR (k := 3) K8 (by decide) (dd_X8_school (38, .getfield 20, 3) (List.mem_of_getElem? (i := 21) rfl)) ow_X8_school fl8_20 rfl, ?_⟩
  refine List.forall_mem_cons.mpr ⟨s_aload_n (dd_X8_school (41, .aload_n 0, 1) (List.mem_of_getElem? (i := 22) rfl)) rfl, ?_⟩
  refine List.forall_mem_cons.mpr ⟨s_getR (k := 4) K8 (by decide) (dd_X8_school (42, .getfield 24, 3) (List.mem_of_getElem? (i := 23) rfl)) ow_X8_school fl8_24 rfl, ?_⟩
  refine List.forall_mem_cons.mpr ⟨⟨s_callV (ci := 5) rfl mo63 rfl rfl (dd_X8_school (45, .invokevirtual 98, 3) (List.mem_of_getElem? (i := 24) rfl)) ow_X8_school ml8_98 mi63 msl63 in_5 mn63, mo63⟩, ?_⟩
  refine List.forall_mem_cons.mpr ⟨s_aload_n (dd_X8_school (48, .aload_n 0, 1) (List.mem_of_getElem? (i := 25) rfl)) rfl, ?_⟩
  refine List.forall_mem_cons.mpr ⟨⟨s_callV (ci := 8) rfl mo113 rfl rfl (dd_X8_school (49, .invokevirtual 101, 3) (List.mem_of_getElem? (i := 26) rfl)) ow_X8_school ml8_101 mi113 msl113 in_8 mn113, mo113⟩, ?_⟩
  refine List.forall_mem_cons.mpr ⟨s_aload_n (dd_X8_school (52, .aload_n 0, 1) (List.mem_of_getElem? (i := 27) rfl)) rfl, ?_⟩
  refine List.forall_mem_cons.mpr ⟨s_getR (k := 3) K8 (by decide) (dd_X8_school (53, .getfield 20, 3) (List.mem_of_getElem? (i := 28) rfl)) ow_X8_school fl8_20 rfl, ?_⟩
  refine List.forall_mem_cons.mpr ⟨s_getI (k := 2) K5 (by decide) (dd_X8_school (56, .getfield 104, 3) (List.mem_of_getElem? (i := 29) rfl)) ow_X8_school fl8_104 rfl, ?_⟩
  refine List.forall_mem_cons.mpr ⟨Or.inr (Or.inl ⟨rfl, (dd_X8_school (59, .ireturn, 1) (List.mem_of_getElem? (i := 30) rfl)), rfl⟩), ?_⟩
  exact fun _ h => absurd h List.not_mem_nil
theorem ow_X8_fault : (mtJ 87).1.cls = "SatchelSins" := rfl
def D_X8_fault : List (Nat × Instr × Nat) := [(0, .aload_n 0, 1), (1, .getfield 13, 3), (4, .ireturn, 1)]
theorem dd_X8_fault : ∀ e ∈ D_X8_fault, decode (mtJ 87).2.1 e.1 = .ok e.2 := by decide +kernel
set_option maxRecDepth 10000 in
theorem so_X8_fault : ∀ e ∈ o_X8_fault, SndO 87 e.1 e.2 := by
  refine List.forall_mem_cons.mpr ⟨s_aload_n (dd_X8_fault (0, .aload_n 0, 1) (List.mem_of_getElem? (i := 0) rfl)) rfl, ?_⟩
  refine List.forall_mem_cons.mpr ⟨s_getI (k := 2) K8 (by decide) (dd_X8_fault (1, .getfield 13, 3) (List.mem_of_getElem? (i := 1) rfl)) ow_X8_fault fl8_13 rfl, ?_⟩
  refine List.forall_mem_cons.mpr ⟨Or.inr (Or.inl ⟨rfl, (dd_X8_fault (4, .ireturn, 1) (List.mem_of_getElem? (i := 2) rfl)), rfl⟩), ?_⟩
  exact fun _ h => absurd h List.not_mem_nil
theorem ow_X8_told : (mtJ 88).1.cls = "SatchelSins" := rfl
def D_X8_told : List (Nat × Instr × Nat) := [(0, .iload_n 1, 1), (1, .tableswitch 180 0 13 #[71, 79, 87, 95, 100, 108, 116, 124, 132, 140, 148, 156, 164, 172], 71), (72, .aload_n 0, 1), (73, .getfield 20, 3), (76, .getfield 107, 3), (79, .ireturn, 1), (80, .aload_n 0, 1), (81, .getfield 20, 3), (84, .getfield 104, 3), (87, .ireturn, 1), (88, .aload_n 0, 1), (89, .getfield 20, 3), (92, .getfield 110, 3), (95, .ireturn, 1), (96, .aload_n 0, 1), (97, .getfield 86, 3), (100, .ireturn, 1), (101, .aload_n 0, 1), (102, .getfield 41, 3), (105, .invokevirtual 113, 3), (108, .ireturn, 1), (109, .aload_n 0, 1), (110, .getfield 41, 3), (113, .invokevirtual 116, 3), (116, .ireturn, 1), (117, .aload_n 0, 1), (118, .getfield 41, 3), (121, .invokevirtual 119, 3), (124, .ireturn, 1), (125, .aload_n 0, 1), (126, .getfield 41, 3), (129, .invokevirtual 122, 3), (132, .ireturn, 1), (133, .aload_n 0, 1), (134, .getfield 41, 3), (137, .invokevirtual 125, 3), (140, .ireturn, 1), (141, .aload_n 0, 1), (142, .getfield 41, 3), (145, .invokevirtual 128, 3), (148, .ireturn, 1), (149, .aload_n 0, 1), (150, .getfield 41, 3), (153, .invokevirtual 131, 3), (156, .ireturn, 1), (157, .aload_n 0, 1), (158, .getfield 80, 3), (161, .getfield 134, 3), (164, .ireturn, 1), (165, .aload_n 0, 1), (166, .getfield 80, 3), (169, .getfield 137, 3), (172, .ireturn, 1), (173, .aload_n 0, 1), (174, .getfield 48, 3), (177, .getfield 140, 3), (180, .ireturn, 1), (181, .ldc 85, 2), (183, .ireturn, 1)]
theorem dd_X8_told : ∀ e ∈ D_X8_told, decode (mtJ 88).2.1 e.1 = .ok e.2 := by decide +kernel
set_option maxRecDepth 10000 in
theorem so_X8_told : ∀ e ∈ o_X8_told, SndO 88 e.1 e.2 := by
  refine List.forall_mem_cons.mpr ⟨s_iload_n (dd_X8_told (0, .iload_n 1, 1) (List.mem_of_getElem? (i := 0) rfl)) rfl, ?_⟩
  refine List.forall_mem_cons.mpr ⟨s_tsw (dd_X8_told (1, .tableswitch 180 0 13 #[71, 79, 87, 95, 100, 108, 116, 124, 132, 140, 148, 156, 164, 172], 71) (List.mem_of_getElem? (i := 1) rfl)) (by decide) (by decide) (by decide), ?_⟩
  refine List.forall_mem_cons.mpr ⟨s_aload_n (dd_X8_told (72, .aload_n 0, 1) (List.mem_of_getElem? (i := 2) rfl)) rfl, ?_⟩
  refine List.forall_mem_cons.mpr ⟨s_getR (k := 3) K8 (by decide) (dd_X8_told (73, .getfield 20, 3) (List.mem_of_getElem? (i := 3) rfl)) ow_X8_told fl8_20 rfl, ?_⟩
  refine List.forall_mem_cons.mpr ⟨s_getI (k := 1) K5 (by decide) (dd_X8_told (76, .getfield 107, 3) (List.mem_of_getElem? (i := 4) rfl)) ow_X8_told fl8_107 rfl, ?_⟩
  refine List.forall_mem_cons.mpr ⟨Or.inr (Or.inl ⟨rfl, (dd_X8_told (79, .ireturn, 1) (List.mem_of_getElem? (i := 5) rfl)), rfl⟩), ?_⟩
  refine List.forall_mem_cons.mpr ⟨s_aload_n (dd_X8_told (80, .aload_n 0, 1) (List.mem_of_getElem? (i := 6) rfl)) rfl, ?_⟩
  refine List.forall_mem_cons.mpr ⟨s_getR (k := 3) K8 (by decide) (dd_X8_told (81, .getfield 20, 3) (List.mem_of_getElem? (i := 7) rfl)) ow_X8_told fl8_20 rfl, ?_⟩
  refine List.forall_mem_cons.mpr ⟨s_getI (k := 2) K5 (by decide) (dd_X8_told (84, .getfield 104, 3) (List.mem_of_getElem? (i := 8) rfl)) ow_X8_told fl8_104 rfl, ?_⟩
  refine List.forall_mem_cons.mpr ⟨Or.inr (Or.inl ⟨rfl, (dd_X8_told (87, .ireturn, 1) (List.mem_of_getElem? (i := 9) rfl)), rfl⟩), ?_⟩
  refine List.forall_mem_cons.mpr ⟨s_aload_n (dd_X8_told (88, .aload_n 0, 1) (List.mem_of_getElem? (i := 10) rfl)) rfl, ?_⟩
  refine List.forall_mem_cons.mpr ⟨s_getR (k := 3) K8 (by decide) (dd_X8_told (89, .getfield 20, 3) (List.mem_of_getElem? (i := 11) rfl)) ow_X8_told fl8_20 rfl, ?_⟩
  refine List.forall_mem_cons.mpr ⟨s_getI (k := 3) K5 (by decide) (dd_X8_told (92, .getfield 110, 3) (List.mem_of_getElem? (i := 12) rfl)) ow_X8_told fl8_110 rfl, ?_⟩
  refine List.forall_mem_cons.mpr ⟨Or.inr (Or.inl ⟨rfl, (dd_X8_told (95, .ireturn, 1) (List.mem_of_getElem? (i := 13) rfl)), rfl⟩), ?_⟩
  refine List.forall_mem_cons.mpr ⟨s_aload_n (dd_X8_told (96, .aload_n 0, 1) (List.mem_of_getElem? (i := 14) rfl)) rfl, ?_⟩
  refine List.forall_mem_cons.mpr ⟨s_getI (k := 1) K8 (by decide) (dd_X8_told (97, .getfield 86, 3) (List.mem_of_getElem? (i := 15) rfl)) ow_X8_told fl8_86 rfl, ?_⟩
  refine List.forall_mem_cons.mpr ⟨Or.inr (Or.inl ⟨rfl, (dd_X8_told (100, .ireturn, 1) (List.mem_of_getElem? (i := 16) rfl)), rfl⟩), ?_⟩
  refine List.forall_mem_cons.mpr ⟨s_aload_n (dd_X8_told (101, .aload_n 0, 1) (List.mem_of_getElem? (i := 17) rfl)) rfl, ?_⟩
  refine List.forall_mem_cons.mpr ⟨s_getR (k := 6) K8 (by decide) (dd_X8_told (102, .getfield 41, 3) (List.mem_of_getElem? (i := 18) rfl)) ow_X8_told fl8_41 rfl, ?_⟩
  refine List.forall_mem_cons.mpr ⟨⟨s_callV (ci := 0) rfl mo2 rfl rfl (dd_X8_told (105, .invokevirtual 113, 3) (List.mem_of_getElem? (i := 19) rfl)) ow_X8_told ml8_113 mi2 msl2 in_0 mn2, mo2⟩, ?_⟩
  refine List.forall_mem_cons.mpr ⟨Or.inr (Or.inl ⟨rfl, (dd_X8_told (108, .ireturn, 1) (List.mem_of_getElem? (i := 20) rfl)), rfl⟩), ?_⟩
  refine List.forall_mem_cons.mpr ⟨s_aload_n (dd_X8_told (109, .aload_n 0, 1) (List.mem_of_getElem? (i := 21) rfl)) rfl, ?_⟩
  refine List.forall_mem_cons.mpr ⟨s_getR (k := 6) K8 (by decide) (dd_X8_told (110, .getfield 41, 3) (List.mem_of_getElem? (i := 22) rfl)) ow_X8_told fl8_41 rfl, ?_⟩
  refine List.forall_mem_cons.mpr ⟨⟨s_callV (ci := 0) rfl mo3 rfl rfl (dd_X8_told (113, .invokevirtual 116, 3) (List.mem_of_getElem? (i := 23) rfl)) ow_X8_told ml8_116 mi3 msl3 in_0 mn3, mo3⟩, ?_⟩
  refine List.forall_mem_cons.mpr ⟨Or.inr (Or.inl ⟨rfl, (dd_X8_told (116, .ireturn, 1) (List.mem_of_getElem? (i := 24) rfl)), rfl⟩), ?_⟩
  refine List.forall_mem_cons.mpr ⟨s_aload_n (dd_X8_told (117, .aload_n 0, 1) (List.mem_of_getElem? (i := 25) rfl)) rfl, ?_⟩
  refine List.forall_mem_cons.mpr ⟨s_getR (k := 6) K8 (by decide) (dd_X8_told (118, .getfield 41, 3) (List.mem_of_getElem? (i := 26) rfl)) ow_X8_told fl8_41 rfl, ?_⟩
  refine List.forall_mem_cons.mpr ⟨⟨s_callV (ci := 0) rfl mo4 rfl rfl (dd_X8_told (121, .invokevirtual 119, 3) (List.mem_of_getElem? (i := 27) rfl)) ow_X8_told ml8_119 mi4 msl4 in_0 mn4, mo4⟩, ?_⟩
  refine List.forall_mem_cons.mpr ⟨Or.inr (Or.inl ⟨rfl, (dd_X8_told (124, .ireturn, 1) (List.mem_of_getElem? (i := 28) rfl)), rfl⟩), ?_⟩
  refine List.forall_mem_cons.mpr ⟨s_aload_n (dd_X8_told (125, .aload_n 0, 1) (List.mem_of_getElem? (i := 29) rfl)) rfl, ?_⟩
  refine List.forall_mem_cons.mpr ⟨s_getR (k := 6) K8 (by decide) (dd_X8_told (126, .getfield 41, 3) (List.mem_of_getElem? (i := 30) rfl)) ow_X8_told fl8_41 rfl, ?_⟩
  refine List.forall_mem_cons.mpr ⟨⟨s_callV (ci := 0) rfl mo11 rfl rfl (dd_X8_told (129, .invokevirtual 122, 3) (List.mem_of_getElem? (i := 31) rfl)) ow_X8_told ml8_122 mi11 msl11 in_0 mn11, mo11⟩, ?_⟩
  refine List.forall_mem_cons.mpr ⟨Or.inr (Or.inl ⟨rfl, (dd_X8_told (132, .ireturn, 1) (List.mem_of_getElem? (i := 32) rfl)), rfl⟩), ?_⟩
  refine List.forall_mem_cons.mpr ⟨s_aload_n (dd_X8_told (133, .aload_n 0, 1) (List.mem_of_getElem? (i := 33) rfl)) rfl, ?_⟩
  refine List.forall_mem_cons.mpr ⟨s_getR (k := 6) K8 (by decide) (dd_X8_told (134, .getfield 41, 3) (List.mem_of_getElem? (i := 34) rfl)) ow_X8_told fl8_41 rfl, ?_⟩
  refine List.forall_mem_cons.mpr ⟨⟨s_callV (ci := 0) rfl mo12 rfl rfl (dd_X8_told (137, .invokevirtual 125, 3) (List.mem_of_getElem? (i := 35) rfl)) ow_X8_told ml8_125 mi12 msl12 in_0 mn12, mo12⟩, ?_⟩
  refine List.forall_mem_cons.mpr ⟨Or.inr (Or.inl ⟨rfl, (dd_X8_told (140, .ireturn, 1) (List.mem_of_getElem? (i := 36) rfl)), rfl⟩), ?_⟩
  refine List.forall_mem_cons.mpr ⟨s_aload_n (dd_X8_told (141, .aload_n 0, 1) (List.mem_of_getElem? (i := 37) rfl)) rfl, ?_⟩
  refine List.forall_mem_cons.mpr ⟨s_getR (k := 6) K8 (by decide) (dd_X8_told (142, .getfield 41, 3) (List.mem_of_getElem? (i := 38) rfl)) ow_X8_told fl8_41 rfl, ?_⟩
  refine List.forall_mem_cons.mpr ⟨⟨s_callV (ci := 0) rfl mo15 rfl rfl (dd_X8_told (145, .invokevirtual 128, 3) (List.mem_of_getElem? (i := 39) rfl)) ow_X8_told ml8_128 mi15 msl15 in_0 mn15, mo15⟩, ?_⟩
  refine List.forall_mem_cons.mpr ⟨Or.inr (Or.inl ⟨rfl, (dd_X8_told (148, .ireturn, 1) (List.mem_of_getElem? (i := 40) rfl)), rfl⟩), ?_⟩
  refine List.forall_mem_cons.mpr ⟨s_aload_n (dd_X8_told (149, .aload_n 0, 1) (List.mem_of_getElem? (i := 41) rfl)) rfl, ?_⟩
  refine List.forall_mem_cons.mpr ⟨s_getR (k := 6) K8 (by decide) (dd_X8_told (150, .getfield 41, 3) (List.mem_of_getElem? (i := 42) rfl)) ow_X8_told fl8_41 rfl, ?_⟩
  refine List.forall_mem_cons.mpr ⟨⟨s_callV (ci := 0) rfl mo14 rfl rfl (dd_X8_told (153, .invokevirtual 131, 3) (List.mem_of_getElem? (i := 43) rfl)) ow_X8_told ml8_131 mi14 msl14 in_0 mn14, mo14⟩, ?_⟩
  refine List.forall_mem_cons.mpr ⟨Or.inr (Or.inl ⟨rfl, (dd_X8_told (156, .ireturn, 1) (List.mem_of_getElem? (i := 44) rfl)), rfl⟩), ?_⟩
  refine List.forall_mem_cons.mpr ⟨s_aload_n (dd_X8_told (157, .aload_n 0, 1) (List.mem_of_getElem? (i := 45) rfl)) rfl, ?_⟩
  refine List.forall_mem_cons.mpr ⟨s_getR (k := 12) K8 (by decide) (dd_X8_told (158, .getfield 80, 3) (List.mem_of_getElem? (i := 46) rfl)) ow_X8_told fl8_80 rfl, ?_⟩
  refine List.forall_mem_cons.mpr ⟨s_getI (k := 5) K7 (by decide) (dd_X8_told (161, .getfield 134, 3) (List.mem_of_getElem? (i := 47) rfl)) ow_X8_told fl8_134 rfl, ?_⟩
  refine List.forall_mem_cons.mpr ⟨Or.inr (Or.inl ⟨rfl, (dd_X8_told (164, .ireturn, 1) (List.mem_of_getElem? (i := 48) rfl)), rfl⟩), ?_⟩
  refine List.forall_mem_cons.mpr ⟨s_aload_n (dd_X8_told (165, .aload_n 0, 1) (List.mem_of_getElem? (i := 49) rfl)) rfl, ?_⟩
  refine List.forall_mem_cons.mpr ⟨s_getR (k := 12) K8 (by decide) (dd_X8_told (166, .getfield 80, 3) (List.mem_of_getElem? (i := 50) rfl)) ow_X8_told fl8_80 rfl, ?_⟩
  refine List.forall_mem_cons.mpr ⟨s_getI (k := 6) K7 (by decide) (dd_X8_told (169, .getfield 137, 3) (List.mem_of_getElem? (i := 51) rfl)) ow_X8_told fl8_137 rfl, ?_⟩
  refine List.forall_mem_cons.mpr ⟨Or.inr (Or.inl ⟨rfl, (dd_X8_told (172, .ireturn, 1) (List.mem_of_getElem? (i := 52) rfl)), rfl⟩), ?_⟩
  refine List.forall_mem_cons.mpr ⟨s_aload_n (dd_X8_told (173, .aload_n 0, 1) (List.mem_of_getElem? (i := 53) rfl)) rfl, ?_⟩
  refine List.forall_mem_cons.mpr ⟨s_getR (k := 7) K8 (by decide) (dd_X8_told (174, .getfield 48, 3) (List.mem_of_getElem? (i := 54) rfl)) ow_X8_told fl8_48 rfl, ?_⟩
  refine List.forall_mem_cons.mpr ⟨s_getI (k := 2) K3 (by decide) (dd_X8_told (177, .getfield 140, 3) (List.mem_of_getElem? (i := 55) rfl)) ow_X8_told fl8_140 rfl, ?_⟩
  refine List.forall_mem_cons.mpr ⟨Or.inr (Or.inl ⟨rfl, (dd_X8_told (180, .ireturn, 1) (List.mem_of_getElem? (i := 56) rfl)), rfl⟩), ?_⟩
  refine List.forall_mem_cons.mpr ⟨s_ldc (dd_X8_told (181, .ldc 85, 2) (List.mem_of_getElem? (i := 57) rfl)) ow_X8_told ki8_85, ?_⟩
  refine List.forall_mem_cons.mpr ⟨Or.inr (Or.inl ⟨rfl, (dd_X8_told (183, .ireturn, 1) (List.mem_of_getElem? (i := 58) rfl)), rfl⟩), ?_⟩
  exact fun _ h => absurd h List.not_mem_nil

/-! every instruction, written by program -/
theorem ow_X0_init : (mtJ 0).1.cls = "SatchelSins$Day" := rfl
def D_X0_init : List (Nat × Instr × Nat) := [(0, .aload_n 0, 1), (1, .invokespecial 5, 3), (4, .aload_n 0, 1), (5, .bipush 22, 2), (7, .newarray .int, 2), (9, .putfield 11, 3), (12, .aload_n 0, 1), (13, .aload_n 1, 1), (14, .putfield 15, 3), (17, .aload_n 0, 1), (18, .invokevirtual 19, 3), (21, .return_, 1)]
theorem dd_X0_init : ∀ e ∈ D_X0_init, decode (mtJ 0).2.1 e.1 = .ok e.2 := by decide +kernel
set_option maxRecDepth 10000 in
theorem so_X0_init : ∀ e ∈ o_X0_init, SndO 0 e.1 e.2 := by
  refine List.forall_mem_cons.mpr ⟨s_aload_n (dd_X0_init (0, .aload_n 0, 1) (List.mem_of_getElem? (i := 0) rfl)) rfl, ?_⟩
  refine List.forall_mem_cons.mpr ⟨s_obj (dd_X0_init (1, .invokespecial 5, 3) (List.mem_of_getElem? (i := 1) rfl)) ow_X0_init ml0_5 oi1 oi2, ?_⟩
  refine List.forall_mem_cons.mpr ⟨s_aload_n (dd_X0_init (4, .aload_n 0, 1) (List.mem_of_getElem? (i := 2) rfl)) rfl, ?_⟩
  refine List.forall_mem_cons.mpr ⟨s_bipush (dd_X0_init (5, .bipush 22, 2) (List.mem_of_getElem? (i := 3) rfl)) rfl, ?_⟩
  refine List.forall_mem_cons.mpr ⟨s_newI (dd_X0_init (7, .newarray .int, 2) (List.mem_of_getElem? (i := 4) rfl)) ac1, ?_⟩
  refine List.forall_mem_cons.mpr ⟨s_putR (k := 0) K0 (by decide) (dd_X0_init (9, .putfield 11, 3) (List.mem_of_getElem? (i := 5) rfl)) ow_X0_init fl0_11 (Or.inr ⟨rfl, rfl, rfl⟩) rfl (fun _ => rfl) (fun _ => rfl), ?_⟩
  refine List.forall_mem_cons.mpr ⟨s_aload_n (dd_X0_init (12, .aload_n 0, 1) (List.mem_of_getElem? (i := 6) rfl)) rfl, ?_⟩
  refine List.forall_mem_cons.mpr ⟨s_aload_n (dd_X0_init (13, .aload_n 1, 1) (List.mem_of_getElem? (i := 7) rfl)) rfl, ?_⟩
  refine List.forall_mem_cons.mpr ⟨s_putR (k := 1) K0 (by decide) (dd_X0_init (14, .putfield 15, 3) (List.mem_of_getElem? (i := 8) rfl)) ow_X0_init fl0_15 (Or.inr ⟨rfl, rfl, rfl⟩) rfl (fun _ => rfl) (fun _ => rfl), ?_⟩
  refine List.forall_mem_cons.mpr ⟨s_aload_n (dd_X0_init (17, .aload_n 0, 1) (List.mem_of_getElem? (i := 9) rfl)) rfl, ?_⟩
  refine List.forall_mem_cons.mpr ⟨⟨s_callV (ci := 0) rfl mo1 rfl rfl (dd_X0_init (18, .invokevirtual 19, 3) (List.mem_of_getElem? (i := 10) rfl)) ow_X0_init ml0_19 mi1 msl1 in_0 mn1, mo1⟩, ?_⟩
  refine List.forall_mem_cons.mpr ⟨Or.inl ⟨rfl, (dd_X0_init (21, .return_, 1) (List.mem_of_getElem? (i := 11) rfl)), rfl⟩, ?_⟩
  exact fun _ h => absurd h List.not_mem_nil
theorem ow_X0_wipe : (mtJ 1).1.cls = "SatchelSins$Day" := rfl
def D_X0_wipe : List (Nat × Instr × Nat) := [(0, .aload_n 0, 1), (1, .getfield 11, 3), (4, .iconst 0, 1), (5, .invokestatic 22, 3), (8, .iconst 0, 1), (9, .istore_n 1, 1), (10, .iload_n 1, 1), (11, .bipush 7, 2), (13, .if_icmp .ge 19, 3), (16, .aload_n 0, 1), (17, .getfield 11, 3), (20, .bipush 7, 2), (22, .iload_n 1, 1), (23, .iadd, 1), (24, .iconst (-1), 1), (25, .iastore, 1), (26, .iinc 1 1, 3), (29, .goto (-19), 3), (32, .return_, 1)]
theorem dd_X0_wipe : ∀ e ∈ D_X0_wipe, decode (mtJ 1).2.1 e.1 = .ok e.2 := by decide +kernel
set_option maxRecDepth 10000 in
theorem so_X0_wipe : ∀ e ∈ o_X0_wipe, SndO 1 e.1 e.2 := by
  refine List.forall_mem_cons.mpr ⟨s_aload_n (dd_X0_wipe (0, .aload_n 0, 1) (List.mem_of_getElem? (i := 0) rfl)) rfl, ?_⟩
  refine List.forall_mem_cons.mpr ⟨s_getR (k := 0) K0 (by decide) (dd_X0_wipe (1, .getfield 11, 3) (List.mem_of_getElem? (i := 1) rfl)) ow_X0_wipe fl0_11 rfl, ?_⟩
  refine List.forall_mem_cons.mpr ⟨s_iconst (dd_X0_wipe (4, .iconst 0, 1) (List.mem_of_getElem? (i := 2) rfl)) rfl, ?_⟩
  refine List.forall_mem_cons.mpr ⟨⟨s_callS mo186 rfl (dd_X0_wipe (5, .invokestatic 22, 3) (List.mem_of_getElem? (i := 3) rfl)) ow_X0_wipe ml0_22 ms186 mn186, mo186⟩, ?_⟩
  refine List.forall_mem_cons.mpr ⟨s_iconst (dd_X0_wipe (8, .iconst 0, 1) (List.mem_of_getElem? (i := 4) rfl)) rfl, ?_⟩
  refine List.forall_mem_cons.mpr ⟨s_istore_n (dd_X0_wipe (9, .istore_n 1, 1) (List.mem_of_getElem? (i := 5) rfl)) rfl, ?_⟩
  refine List.forall_mem_cons.mpr ⟨s_iload_n (dd_X0_wipe (10, .iload_n 1, 1) (List.mem_of_getElem? (i := 6) rfl)) rfl, ?_⟩
  refine List.forall_mem_cons.mpr ⟨s_bipush (dd_X0_wipe (11, .bipush 7, 2) (List.mem_of_getElem? (i := 7) rfl)) rfl, ?_⟩
  refine List.forall_mem_cons.mpr ⟨s_icmp_ge (dd_X0_wipe (13, .if_icmp .ge 19, 3) (List.mem_of_getElem? (i := 8) rfl)) (by decide), ?_⟩
  refine List.forall_mem_cons.mpr ⟨s_aload_n (dd_X0_wipe (16, .aload_n 0, 1) (List.mem_of_getElem? (i := 9) rfl)) rfl, ?_⟩
  refine List.forall_mem_cons.mpr ⟨s_getR (k := 0) K0 (by decide) (dd_X0_wipe (17, .getfield 11, 3) (List.mem_of_getElem? (i := 10) rfl)) ow_X0_wipe fl0_11 rfl, ?_⟩
  refine List.forall_mem_cons.mpr ⟨s_bipush (dd_X0_wipe (20, .bipush 7, 2) (List.mem_of_getElem? (i := 11) rfl)) rfl, ?_⟩
  refine List.forall_mem_cons.mpr ⟨s_iload_n (dd_X0_wipe (22, .iload_n 1, 1) (List.mem_of_getElem? (i := 12) rfl)) rfl, ?_⟩
  refine List.forall_mem_cons.mpr ⟨s_iadd (dd_X0_wipe (23, .iadd, 1) (List.mem_of_getElem? (i := 13) rfl)), ?_⟩
  refine List.forall_mem_cons.mpr ⟨s_iconst (dd_X0_wipe (24, .iconst (-1), 1) (List.mem_of_getElem? (i := 14) rfl)) rfl, ?_⟩
  refine List.forall_mem_cons.mpr ⟨s_iast (dd_X0_wipe (25, .iastore, 1) (List.mem_of_getElem? (i := 15) rfl)), ?_⟩
  refine List.forall_mem_cons.mpr ⟨s_iinc (dd_X0_wipe (26, .iinc 1 1, 3) (List.mem_of_getElem? (i := 16) rfl)) rfl, ?_⟩
  refine List.forall_mem_cons.mpr ⟨s_goto (dd_X0_wipe (29, .goto (-19), 3) (List.mem_of_getElem? (i := 17) rfl)) (by decide), ?_⟩
  refine List.forall_mem_cons.mpr ⟨Or.inl ⟨rfl, (dd_X0_wipe (32, .return_, 1) (List.mem_of_getElem? (i := 18) rfl)), rfl⟩, ?_⟩
  exact fun _ h => absurd h List.not_mem_nil
theorem ow_X0_days : (mtJ 2).1.cls = "SatchelSins$Day" := rfl
def D_X0_days : List (Nat × Instr × Nat) := [(0, .aload_n 0, 1), (1, .getfield 11, 3), (4, .bipush 19, 2), (6, .iaload, 1), (7, .ireturn, 1)]
theorem dd_X0_days : ∀ e ∈ D_X0_days, decode (mtJ 2).2.1 e.1 = .ok e.2 := by decide +kernel
set_option maxRecDepth 10000 in
theorem so_X0_days : ∀ e ∈ o_X0_days, SndO 2 e.1 e.2 := by
  refine List.forall_mem_cons.mpr ⟨s_aload_n (dd_X0_days (0, .aload_n 0, 1) (List.mem_of_getElem? (i := 0) rfl)) rfl, ?_⟩
  refine List.forall_mem_cons.mpr ⟨s_getR (k := 0) K0 (by decide) (dd_X0_days (1, .getfield 11, 3) (List.mem_of_getElem? (i := 1) rfl)) ow_X0_days fl0_11 rfl, ?_⟩
  refine List.forall_mem_cons.mpr ⟨s_bipush (dd_X0_days (4, .bipush 19, 2) (List.mem_of_getElem? (i := 2) rfl)) rfl, ?_⟩
  refine List.forall_mem_cons.mpr ⟨s_iald (dd_X0_days (6, .iaload, 1) (List.mem_of_getElem? (i := 3) rfl)), ?_⟩
  refine List.forall_mem_cons.mpr ⟨Or.inr (Or.inl ⟨rfl, (dd_X0_days (7, .ireturn, 1) (List.mem_of_getElem? (i := 4) rfl)), rfl⟩), ?_⟩
  exact fun _ h => absurd h List.not_mem_nil
theorem ow_X0_takenThisDay : (mtJ 3).1.cls = "SatchelSins$Day" := rfl
def D_X0_takenThisDay : List (Nat × Instr × Nat) := [(0, .aload_n 0, 1), (1, .getfield 11, 3), (4, .bipush 20, 2), (6, .iaload, 1), (7, .ireturn, 1)]
theorem dd_X0_takenThisDay : ∀ e ∈ D_X0_takenThisDay, decode (mtJ 3).2.1 e.1 = .ok e.2 := by decide +kernel
set_option maxRecDepth 10000 in
theorem so_X0_takenThisDay : ∀ e ∈ o_X0_takenThisDay, SndO 3 e.1 e.2 := by
  refine List.forall_mem_cons.mpr ⟨s_aload_n (dd_X0_takenThisDay (0, .aload_n 0, 1) (List.mem_of_getElem? (i := 0) rfl)) rfl, ?_⟩
  refine List.forall_mem_cons.mpr ⟨s_getR (k := 0) K0 (by decide) (dd_X0_takenThisDay (1, .getfield 11, 3) (List.mem_of_getElem? (i := 1) rfl)) ow_X0_takenThisDay fl0_11 rfl, ?_⟩
  refine List.forall_mem_cons.mpr ⟨s_bipush (dd_X0_takenThisDay (4, .bipush 20, 2) (List.mem_of_getElem? (i := 2) rfl)) rfl, ?_⟩
  refine List.forall_mem_cons.mpr ⟨s_iald (dd_X0_takenThisDay (6, .iaload, 1) (List.mem_of_getElem? (i := 3) rfl)), ?_⟩
  refine List.forall_mem_cons.mpr ⟨Or.inr (Or.inl ⟨rfl, (dd_X0_takenThisDay (7, .ireturn, 1) (List.mem_of_getElem? (i := 4) rfl)), rfl⟩), ?_⟩
  exact fun _ h => absurd h List.not_mem_nil
theorem ow_X0_takenInAll : (mtJ 4).1.cls = "SatchelSins$Day" := rfl
def D_X0_takenInAll : List (Nat × Instr × Nat) := [(0, .aload_n 0, 1), (1, .getfield 11, 3), (4, .bipush 21, 2), (6, .iaload, 1), (7, .ireturn, 1)]
theorem dd_X0_takenInAll : ∀ e ∈ D_X0_takenInAll, decode (mtJ 4).2.1 e.1 = .ok e.2 := by decide +kernel
set_option maxRecDepth 10000 in
theorem so_X0_takenInAll : ∀ e ∈ o_X0_takenInAll, SndO 4 e.1 e.2 := by
  refine List.forall_mem_cons.mpr ⟨s_aload_n (dd_X0_takenInAll (0, .aload_n 0, 1) (List.mem_of_getElem? (i := 0) rfl)) rfl, ?_⟩
  refine List.forall_mem_cons.mpr ⟨s_getR (k := 0) K0 (by decide) (dd_X0_takenInAll (1, .getfield 11, 3) (List.mem_of_getElem? (i := 1) rfl)) ow_X0_takenInAll fl0_11 rfl, ?_⟩
  refine List.forall_mem_cons.mpr ⟨s_bipush (dd_X0_takenInAll (4, .bipush 21, 2) (List.mem_of_getElem? (i := 2) rfl)) rfl, ?_⟩
  refine List.forall_mem_cons.mpr ⟨s_iald (dd_X0_takenInAll (6, .iaload, 1) (List.mem_of_getElem? (i := 3) rfl)), ?_⟩
  refine List.forall_mem_cons.mpr ⟨Or.inr (Or.inl ⟨rfl, (dd_X0_takenInAll (7, .ireturn, 1) (List.mem_of_getElem? (i := 4) rfl)), rfl⟩), ?_⟩
  exact fun _ h => absurd h List.not_mem_nil
theorem ow_X0_lamedDays : (mtJ 5).1.cls = "SatchelSins$Day" := rfl
def D_X0_lamedDays : List (Nat × Instr × Nat) := [(0, .aload_n 0, 1), (1, .getfield 11, 3), (4, .bipush 14, 2), (6, .iload_n 1, 1), (7, .iadd, 1), (8, .iaload, 1), (9, .ireturn, 1)]
theorem dd_X0_lamedDays : ∀ e ∈ D_X0_lamedDays, decode (mtJ 5).2.1 e.1 = .ok e.2 := by decide +kernel
set_option maxRecDepth 10000 in
theorem so_X0_lamedDays : ∀ e ∈ o_X0_lamedDays, SndO 5 e.1 e.2 := by
  refine List.forall_mem_cons.mpr ⟨s_aload_n (dd_X0_lamedDays (0, .aload_n 0, 1) (List.mem_of_getElem? (i := 0) rfl)) rfl, ?_⟩
  refine List.forall_mem_cons.mpr ⟨s_getR (k := 0) K0 (by decide) (dd_X0_lamedDays (1, .getfield 11, 3) (List.mem_of_getElem? (i := 1) rfl)) ow_X0_lamedDays fl0_11 rfl, ?_⟩
  refine List.forall_mem_cons.mpr ⟨s_bipush (dd_X0_lamedDays (4, .bipush 14, 2) (List.mem_of_getElem? (i := 2) rfl)) rfl, ?_⟩
  refine List.forall_mem_cons.mpr ⟨s_iload_n (dd_X0_lamedDays (6, .iload_n 1, 1) (List.mem_of_getElem? (i := 3) rfl)) rfl, ?_⟩
  refine List.forall_mem_cons.mpr ⟨s_iadd (dd_X0_lamedDays (7, .iadd, 1) (List.mem_of_getElem? (i := 4) rfl)), ?_⟩
  refine List.forall_mem_cons.mpr ⟨s_iald (dd_X0_lamedDays (8, .iaload, 1) (List.mem_of_getElem? (i := 5) rfl)), ?_⟩
  refine List.forall_mem_cons.mpr ⟨Or.inr (Or.inl ⟨rfl, (dd_X0_lamedDays (9, .ireturn, 1) (List.mem_of_getElem? (i := 6) rfl)), rfl⟩), ?_⟩
  exact fun _ h => absurd h List.not_mem_nil
theorem ow_X0_stageOf : (mtJ 6).1.cls = "SatchelSins$Day" := rfl
def D_X0_stageOf : List (Nat × Instr × Nat) := [(0, .aload_n 0, 1), (1, .getfield 11, 3), (4, .iconst 0, 1), (5, .iload_n 1, 1), (6, .iadd, 1), (7, .iaload, 1), (8, .ireturn, 1)]
theorem dd_X0_stageOf : ∀ e ∈ D_X0_stageOf, decode (mtJ 6).2.1 e.1 = .ok e.2 := by decide +kernel
set_option maxRecDepth 10000 in
theorem so_X0_stageOf : ∀ e ∈ o_X0_stageOf, SndO 6 e.1 e.2 := by
  refine List.forall_mem_cons.mpr ⟨s_aload_n (dd_X0_stageOf (0, .aload_n 0, 1) (List.mem_of_getElem? (i := 0) rfl)) rfl, ?_⟩
  refine List.forall_mem_cons.mpr ⟨s_getR (k := 0) K0 (by decide) (dd_X0_stageOf (1, .getfield 11, 3) (List.mem_of_getElem? (i := 1) rfl)) ow_X0_stageOf fl0_11 rfl, ?_⟩
  refine List.forall_mem_cons.mpr ⟨s_iconst (dd_X0_stageOf (4, .iconst 0, 1) (List.mem_of_getElem? (i := 2) rfl)) rfl, ?_⟩
  refine List.forall_mem_cons.mpr ⟨s_iload_n (dd_X0_stageOf (5, .iload_n 1, 1) (List.mem_of_getElem? (i := 3) rfl)) rfl, ?_⟩
  refine List.forall_mem_cons.mpr ⟨s_iadd (dd_X0_stageOf (6, .iadd, 1) (List.mem_of_getElem? (i := 4) rfl)), ?_⟩
  refine List.forall_mem_cons.mpr ⟨s_iald (dd_X0_stageOf (7, .iaload, 1) (List.mem_of_getElem? (i := 5) rfl)), ?_⟩
  refine List.forall_mem_cons.mpr ⟨Or.inr (Or.inl ⟨rfl, (dd_X0_stageOf (8, .ireturn, 1) (List.mem_of_getElem? (i := 6) rfl)), rfl⟩), ?_⟩
  exact fun _ h => absurd h List.not_mem_nil
theorem ow_X0_placeOf : (mtJ 7).1.cls = "SatchelSins$Day" := rfl
def D_X0_placeOf : List (Nat × Instr × Nat) := [(0, .aload_n 0, 1), (1, .getfield 11, 3), (4, .bipush 7, 2), (6, .iload_n 1, 1), (7, .iadd, 1), (8, .iaload, 1), (9, .ireturn, 1)]
theorem dd_X0_placeOf : ∀ e ∈ D_X0_placeOf, decode (mtJ 7).2.1 e.1 = .ok e.2 := by decide +kernel
set_option maxRecDepth 10000 in
theorem so_X0_placeOf : ∀ e ∈ o_X0_placeOf, SndO 7 e.1 e.2 := by
  refine List.forall_mem_cons.mpr ⟨s_aload_n (dd_X0_placeOf (0, .aload_n 0, 1) (List.mem_of_getElem? (i := 0) rfl)) rfl, ?_⟩
  refine List.forall_mem_cons.mpr ⟨s_getR (k := 0) K0 (by decide) (dd_X0_placeOf (1, .getfield 11, 3) (List.mem_of_getElem? (i := 1) rfl)) ow_X0_placeOf fl0_11 rfl, ?_⟩
  refine List.forall_mem_cons.mpr ⟨s_bipush (dd_X0_placeOf (4, .bipush 7, 2) (List.mem_of_getElem? (i := 2) rfl)) rfl, ?_⟩
  refine List.forall_mem_cons.mpr ⟨s_iload_n (dd_X0_placeOf (6, .iload_n 1, 1) (List.mem_of_getElem? (i := 3) rfl)) rfl, ?_⟩
  refine List.forall_mem_cons.mpr ⟨s_iadd (dd_X0_placeOf (7, .iadd, 1) (List.mem_of_getElem? (i := 4) rfl)), ?_⟩
  refine List.forall_mem_cons.mpr ⟨s_iald (dd_X0_placeOf (8, .iaload, 1) (List.mem_of_getElem? (i := 5) rfl)), ?_⟩
  refine List.forall_mem_cons.mpr ⟨Or.inr (Or.inl ⟨rfl, (dd_X0_placeOf (9, .ireturn, 1) (List.mem_of_getElem? (i := 6) rfl)), rfl⟩), ?_⟩
  exact fun _ h => absurd h List.not_mem_nil
theorem ow_X0_isInSatchel : (mtJ 8).1.cls = "SatchelSins$Day" := rfl
def D_X0_isInSatchel : List (Nat × Instr × Nat) := [(0, .aload_n 0, 1), (1, .getfield 11, 3), (4, .iconst 0, 1), (5, .iload_n 1, 1), (6, .iadd, 1), (7, .iaload, 1), (8, .iconst 1, 1), (9, .if_icmp .ne 7, 3), (12, .iconst 1, 1), (13, .goto 4, 3), (16, .iconst 0, 1), (17, .ireturn, 1)]
theorem dd_X0_isInSatchel : ∀ e ∈ D_X0_isInSatchel, decode (mtJ 8).2.1 e.1 = .ok e.2 := by decide +kernel
set_option maxRecDepth 10000 in
theorem so_X0_isInSatchel : ∀ e ∈ o_X0_isInSatchel, SndO 8 e.1 e.2 := by
  refine List.forall_mem_cons.mpr ⟨s_aload_n (dd_X0_isInSatchel (0, .aload_n 0, 1) (List.mem_of_getElem? (i := 0) rfl)) rfl, ?_⟩
  refine List.forall_mem_cons.mpr ⟨s_getR (k := 0) K0 (by decide) (dd_X0_isInSatchel (1, .getfield 11, 3) (List.mem_of_getElem? (i := 1) rfl)) ow_X0_isInSatchel fl0_11 rfl, ?_⟩
  refine List.forall_mem_cons.mpr ⟨s_iconst (dd_X0_isInSatchel (4, .iconst 0, 1) (List.mem_of_getElem? (i := 2) rfl)) rfl, ?_⟩
  refine List.forall_mem_cons.mpr ⟨s_iload_n (dd_X0_isInSatchel (5, .iload_n 1, 1) (List.mem_of_getElem? (i := 3) rfl)) rfl, ?_⟩
  refine List.forall_mem_cons.mpr ⟨s_iadd (dd_X0_isInSatchel (6, .iadd, 1) (List.mem_of_getElem? (i := 4) rfl)), ?_⟩
  refine List.forall_mem_cons.mpr ⟨s_iald (dd_X0_isInSatchel (7, .iaload, 1) (List.mem_of_getElem? (i := 5) rfl)), ?_⟩
  refine List.forall_mem_cons.mpr ⟨s_iconst (dd_X0_isInSatchel (8, .iconst 1, 1) (List.mem_of_getElem? (i := 6) rfl)) rfl, ?_⟩
  refine List.forall_mem_cons.mpr ⟨s_icmp_ne (dd_X0_isInSatchel (9, .if_icmp .ne 7, 3) (List.mem_of_getElem? (i := 7) rfl)) (by decide), ?_⟩
  refine List.forall_mem_cons.mpr ⟨s_iconst (dd_X0_isInSatchel (12, .iconst 1, 1) (List.mem_of_getElem? (i := 8) rfl)) rfl, ?_⟩
  refine List.forall_mem_cons.mpr ⟨s_goto (dd_X0_isInSatchel (13, .goto 4, 3) (List.mem_of_getElem? (i := 9) rfl)) (by decide), ?_⟩
  refine List.forall_mem_cons.mpr ⟨s_iconst (dd_X0_isInSatchel (16, .iconst 0, 1) (List.mem_of_getElem? (i := 10) rfl)) rfl, ?_⟩
  refine List.forall_mem_cons.mpr ⟨Or.inr (Or.inr ⟨rfl, (dd_X0_isInSatchel (17, .ireturn, 1) (List.mem_of_getElem? (i := 11) rfl)), rfl⟩), ?_⟩
  exact fun _ h => absurd h List.not_mem_nil
theorem ow_X0_loadOf : (mtJ 9).1.cls = "SatchelSins$Day" := rfl
def D_X0_loadOf : List (Nat × Instr × Nat) := [(0, .iconst 0, 1), (1, .istore_n 2, 1), (2, .iconst 0, 1), (3, .istore_n 3, 1), (4, .iload_n 3, 1), (5, .aload_n 0, 1), (6, .getfield 15, 3), (9, .getfield 28, 3), (12, .if_icmp .ge 38, 3), (15, .aload_n 0, 1), (16, .iload_n 3, 1), (17, .invokevirtual 34, 3), (20, .ifCond .eq 24, 3), (23, .aload_n 0, 1), (24, .iload_n 3, 1), (25, .invokevirtual 38, 3), (28, .iload_n 1, 1), (29, .if_icmp .ne 15, 3), (32, .iload_n 2, 1), (33, .aload_n 0, 1), (34, .getfield 15, 3), (37, .getfield 42, 3), (40, .iload_n 3, 1), (41, .iaload, 1), (42, .iadd, 1), (43, .istore_n 2, 1), (44, .iinc 3 1, 3), (47, .goto (-43), 3), (50, .iload_n 2, 1), (51, .ireturn, 1)]
theorem dd_X0_loadOf : ∀ e ∈ D_X0_loadOf, decode (mtJ 9).2.1 e.1 = .ok e.2 := by decide +kernel
set_option maxRecDepth 10000 in
theorem so_X0_loadOf : ∀ e ∈ o_X0_loadOf, SndO 9 e.1 e.2 := by
  refine List.forall_mem_cons.mpr ⟨s_iconst (dd_X0_loadOf (0, .iconst 0, 1) (List.mem_of_getElem? (i := 0) rfl)) rfl, ?_⟩
  refine List.forall_mem_cons.mpr ⟨s_istore_n (dd_X0_loadOf (1, .istore_n 2, 1) (List.mem_of_getElem? (i := 1) rfl)) rfl, ?_⟩
  refine List.forall_mem_cons.mpr ⟨s_iconst (dd_X0_loadOf (2, .iconst 0, 1) (List.mem_of_getElem? (i := 2) rfl)) rfl, ?_⟩
  refine List.forall_mem_cons.mpr ⟨s_istore_n (dd_X0_loadOf (3, .istore_n 3, 1) (List.mem_of_getElem? (i := 3) rfl)) rfl, ?_⟩
  refine List.forall_mem_cons.mpr ⟨s_iload_n (dd_X0_loadOf (4, .iload_n 3, 1) (List.mem_of_getElem? (i := 4) rfl)) rfl, ?_⟩
  refine List.forall_mem_cons.mpr ⟨s_aload_n (dd_X0_loadOf (5, .aload_n 0, 1) (List.mem_of_getElem? (i := 5) rfl)) rfl, ?_⟩
  refine List.forall_mem_cons.mpr ⟨s_getR (k := 1) K0 (by decide) (dd_X0_loadOf (6, .getfield 15, 3) (List.mem_of_getElem? (i := 6) rfl)) ow_X0_loadOf fl0_15 rfl, ?_⟩
  refine List.forall_mem_cons.mpr ⟨s_getI (k := 3) K5 (by decide) (dd_X0_loadOf (9, .getfield 28, 3) (List.mem_of_getElem? (i := 7) rfl)) ow_X0_loadOf fl0_28 rfl, ?_⟩
  refine List.forall_mem_cons.mpr ⟨s_icmp_ge (dd_X0_loadOf (12, .if_icmp .ge 38, 3) (List.mem_of_getElem? (i := 8) rfl)) (by decide), ?_⟩
  refine List.forall_mem_cons.mpr ⟨s_aload_n (dd_X0_loadOf (15, .aload_n 0, 1) (List.mem_of_getElem? (i := 9) rfl)) rfl, ?_⟩
  refine List.forall_mem_cons.mpr ⟨s_iload_n (dd_X0_loadOf (16, .iload_n 3, 1) (List.mem_of_getElem? (i := 10) rfl)) rfl, ?_⟩
  refine List.forall_mem_cons.mpr ⟨⟨s_callV (ci := 0) rfl mo8 rfl rfl (dd_X0_loadOf (17, .invokevirtual 34, 3) (List.mem_of_getElem? (i := 11) rfl)) ow_X0_loadOf ml0_34 mi8 msl8 in_0 mn8, mo8⟩, ?_⟩
  refine List.forall_mem_cons.mpr ⟨s_if_eq (dd_X0_loadOf (20, .ifCond .eq 24, 3) (List.mem_of_getElem? (i := 12) rfl)) (by decide), ?_⟩
  refine List.forall_mem_cons.mpr ⟨s_aload_n (dd_X0_loadOf (23, .aload_n 0, 1) (List.mem_of_getElem? (i := 13) rfl)) rfl, ?_⟩
  refine List.forall_mem_cons.mpr ⟨s_iload_n (dd_X0_loadOf (24, .iload_n 3, 1) (List.mem_of_getElem? (i := 14) rfl)) rfl, ?_⟩
  refine List.forall_mem_cons.mpr ⟨⟨s_callV (ci := 0) rfl mo7 rfl rfl (dd_X0_loadOf (25, .invokevirtual 38, 3) (List.mem_of_getElem? (i := 15) rfl)) ow_X0_loadOf ml0_38 mi7 msl7 in_0 mn7, mo7⟩, ?_⟩
  refine List.forall_mem_cons.mpr ⟨s_iload_n (dd_X0_loadOf (28, .iload_n 1, 1) (List.mem_of_getElem? (i := 16) rfl)) rfl, ?_⟩
  refine List.forall_mem_cons.mpr ⟨s_icmp_ne (dd_X0_loadOf (29, .if_icmp .ne 15, 3) (List.mem_of_getElem? (i := 17) rfl)) (by decide), ?_⟩
  refine List.forall_mem_cons.mpr ⟨s_iload_n (dd_X0_loadOf (32, .iload_n 2, 1) (List.mem_of_getElem? (i := 18) rfl)) rfl, ?_⟩
  refine List.forall_mem_cons.mpr ⟨s_aload_n (dd_X0_loadOf (33, .aload_n 0, 1) (List.mem_of_getElem? (i := 19) rfl)) rfl, ?_⟩
  refine List.forall_mem_cons.mpr ⟨s_getR (k := 1) K0 (by decide) (dd_X0_loadOf (34, .getfield 15, 3) (List.mem_of_getElem? (i := 20) rfl)) ow_X0_loadOf fl0_15 rfl, ?_⟩
  refine List.forall_mem_cons.mpr ⟨s_getR (k := 8) K5 (by decide) (dd_X0_loadOf (37, .getfield 42, 3) (List.mem_of_getElem? (i := 21) rfl)) ow_X0_loadOf fl0_42 rfl, ?_⟩
  refine List.forall_mem_cons.mpr ⟨s_iload_n (dd_X0_loadOf (40, .iload_n 3, 1) (List.mem_of_getElem? (i := 22) rfl)) rfl, ?_⟩
  refine List.forall_mem_cons.mpr ⟨s_iald (dd_X0_loadOf (41, .iaload, 1) (List.mem_of_getElem? (i := 23) rfl)), ?_⟩
  refine List.forall_mem_cons.mpr ⟨s_iadd (dd_X0_loadOf (42, .iadd, 1) (List.mem_of_getElem? (i := 24) rfl)), ?_⟩
  refine List.forall_mem_cons.mpr ⟨s_istore_n (dd_X0_loadOf (43, .istore_n 2, 1) (List.mem_of_getElem? (i := 25) rfl)) rfl, ?_⟩
  refine List.forall_mem_cons.mpr ⟨s_iinc (dd_X0_loadOf (44, .iinc 3 1, 3) (List.mem_of_getElem? (i := 26) rfl)) rfl, ?_⟩
  refine List.forall_mem_cons.mpr ⟨s_goto (dd_X0_loadOf (47, .goto (-43), 3) (List.mem_of_getElem? (i := 27) rfl)) (by decide), ?_⟩
  refine List.forall_mem_cons.mpr ⟨s_iload_n (dd_X0_loadOf (50, .iload_n 2, 1) (List.mem_of_getElem? (i := 28) rfl)) rfl, ?_⟩
  refine List.forall_mem_cons.mpr ⟨Or.inr (Or.inl ⟨rfl, (dd_X0_loadOf (51, .ireturn, 1) (List.mem_of_getElem? (i := 29) rfl)), rfl⟩), ?_⟩
  exact fun _ h => absurd h List.not_mem_nil
theorem ow_X0_isLamed : (mtJ 10).1.cls = "SatchelSins$Day" := rfl
def D_X0_isLamed : List (Nat × Instr × Nat) := [(0, .aload_n 0, 1), (1, .iload_n 1, 1), (2, .invokevirtual 45, 3), (5, .aload_n 0, 1), (6, .getfield 15, 3), (9, .getfield 48, 3), (12, .iload_n 1, 1), (13, .iaload, 1), (14, .if_icmp .le 7, 3), (17, .iconst 1, 1), (18, .goto 4, 3), (21, .iconst 0, 1), (22, .ireturn, 1)]
theorem dd_X0_isLamed : ∀ e ∈ D_X0_isLamed, decode (mtJ 10).2.1 e.1 = .ok e.2 := by decide +kernel
set_option maxRecDepth 10000 in
theorem so_X0_isLamed : ∀ e ∈ o_X0_isLamed, SndO 10 e.1 e.2 := by
  refine List.forall_mem_cons.mpr ⟨s_aload_n (dd_X0_isLamed (0, .aload_n 0, 1) (List.mem_of_getElem? (i := 0) rfl)) rfl, ?_⟩
  refine List.forall_mem_cons.mpr ⟨s_iload_n (dd_X0_isLamed (1, .iload_n 1, 1) (List.mem_of_getElem? (i := 1) rfl)) rfl, ?_⟩
  refine List.forall_mem_cons.mpr ⟨⟨s_callV (ci := 0) rfl mo9 rfl rfl (dd_X0_isLamed (2, .invokevirtual 45, 3) (List.mem_of_getElem? (i := 2) rfl)) ow_X0_isLamed ml0_45 mi9 msl9 in_0 mn9, mo9⟩, ?_⟩
  refine List.forall_mem_cons.mpr ⟨s_aload_n (dd_X0_isLamed (5, .aload_n 0, 1) (List.mem_of_getElem? (i := 3) rfl)) rfl, ?_⟩
  refine List.forall_mem_cons.mpr ⟨s_getR (k := 1) K0 (by decide) (dd_X0_isLamed (6, .getfield 15, 3) (List.mem_of_getElem? (i := 4) rfl)) ow_X0_isLamed fl0_15 rfl, ?_⟩
  refine List.forall_mem_cons.mpr ⟨s_getR (k := 4) K5 (by decide) (dd_X0_isLamed (9, .getfield 48, 3) (List.mem_of_getElem? (i := 5) rfl)) ow_X0_isLamed fl0_48 rfl, ?_⟩
  refine List.forall_mem_cons.mpr ⟨s_iload_n (dd_X0_isLamed (12, .iload_n 1, 1) (List.mem_of_getElem? (i := 6) rfl)) rfl, ?_⟩
  refine List.forall_mem_cons.mpr ⟨s_iald (dd_X0_isLamed (13, .iaload, 1) (List.mem_of_getElem? (i := 7) rfl)), ?_⟩
  refine List.forall_mem_cons.mpr ⟨s_icmp_le (dd_X0_isLamed (14, .if_icmp .le 7, 3) (List.mem_of_getElem? (i := 8) rfl)) (by decide), ?_⟩
  refine List.forall_mem_cons.mpr ⟨s_iconst (dd_X0_isLamed (17, .iconst 1, 1) (List.mem_of_getElem? (i := 9) rfl)) rfl, ?_⟩
  refine List.forall_mem_cons.mpr ⟨s_goto (dd_X0_isLamed (18, .goto 4, 3) (List.mem_of_getElem? (i := 10) rfl)) (by decide), ?_⟩
  refine List.forall_mem_cons.mpr ⟨s_iconst (dd_X0_isLamed (21, .iconst 0, 1) (List.mem_of_getElem? (i := 11) rfl)) rfl, ?_⟩
  refine List.forall_mem_cons.mpr ⟨Or.inr (Or.inr ⟨rfl, (dd_X0_isLamed (22, .ireturn, 1) (List.mem_of_getElem? (i := 12) rfl)), rfl⟩), ?_⟩
  exact fun _ h => absurd h List.not_mem_nil
theorem ow_X0_lamedSet : (mtJ 11).1.cls = "SatchelSins$Day" := rfl
def D_X0_lamedSet : List (Nat × Instr × Nat) := [(0, .iconst 0, 1), (1, .istore_n 1, 1), (2, .iconst 0, 1), (3, .istore_n 2, 1), (4, .iload_n 2, 1), (5, .aload_n 0, 1), (6, .getfield 15, 3), (9, .getfield 51, 3), (12, .if_icmp .ge 23, 3), (15, .aload_n 0, 1), (16, .iload_n 2, 1), (17, .invokevirtual 54, 3), (20, .ifCond .eq 9, 3), (23, .iload_n 1, 1), (24, .iconst 1, 1), (25, .iload_n 2, 1), (26, .ishl, 1), (27, .ior, 1), (28, .istore_n 1, 1), (29, .iinc 2 1, 3), (32, .goto (-28), 3), (35, .iload_n 1, 1), (36, .ireturn, 1)]
theorem dd_X0_lamedSet : ∀ e ∈ D_X0_lamedSet, decode (mtJ 11).2.1 e.1 = .ok e.2 := by decide +kernel
set_option maxRecDepth 10000 in
theorem so_X0_lamedSet : ∀ e ∈ o_X0_lamedSet, SndO 11 e.1 e.2 := by
  refine List.forall_mem_cons.mpr ⟨s_iconst (dd_X0_lamedSet (0, .iconst 0, 1) (List.mem_of_getElem? (i := 0) rfl)) rfl, ?_⟩
  refine List.forall_mem_cons.mpr ⟨s_istore_n (dd_X0_lamedSet (1, .istore_n 1, 1) (List.mem_of_getElem? (i := 1) rfl)) rfl, ?_⟩
  refine List.forall_mem_cons.mpr ⟨s_iconst (dd_X0_lamedSet (2, .iconst 0, 1) (List.mem_of_getElem? (i := 2) rfl)) rfl, ?_⟩
  refine List.forall_mem_cons.mpr ⟨s_istore_n (dd_X0_lamedSet (3, .istore_n 2, 1) (List.mem_of_getElem? (i := 3) rfl)) rfl, ?_⟩
  refine List.forall_mem_cons.mpr ⟨s_iload_n (dd_X0_lamedSet (4, .iload_n 2, 1) (List.mem_of_getElem? (i := 4) rfl)) rfl, ?_⟩
  refine List.forall_mem_cons.mpr ⟨s_aload_n (dd_X0_lamedSet (5, .aload_n 0, 1) (List.mem_of_getElem? (i := 5) rfl)) rfl, ?_⟩
  refine List.forall_mem_cons.mpr ⟨s_getR (k := 1) K0 (by decide) (dd_X0_lamedSet (6, .getfield 15, 3) (List.mem_of_getElem? (i := 6) rfl)) ow_X0_lamedSet fl0_15 rfl, ?_⟩
  refine List.forall_mem_cons.mpr ⟨s_getI (k := 2) K5 (by decide) (dd_X0_lamedSet (9, .getfield 51, 3) (List.mem_of_getElem? (i := 7) rfl)) ow_X0_lamedSet fl0_51 rfl, ?_⟩
  refine List.forall_mem_cons.mpr ⟨s_icmp_ge (dd_X0_lamedSet (12, .if_icmp .ge 23, 3) (List.mem_of_getElem? (i := 8) rfl)) (by decide), ?_⟩
  refine List.forall_mem_cons.mpr ⟨s_aload_n (dd_X0_lamedSet (15, .aload_n 0, 1) (List.mem_of_getElem? (i := 9) rfl)) rfl, ?_⟩
  refine List.forall_mem_cons.mpr ⟨s_iload_n (dd_X0_lamedSet (16, .iload_n 2, 1) (List.mem_of_getElem? (i := 10) rfl)) rfl, ?_⟩
  refine List.forall_mem_cons.mpr ⟨⟨s_callV (ci := 0) rfl mo10 rfl rfl (dd_X0_lamedSet (17, .invokevirtual 54, 3) (List.mem_of_getElem? (i := 11) rfl)) ow_X0_lamedSet ml0_54 mi10 msl10 in_0 mn10, mo10⟩, ?_⟩
  refine List.forall_mem_cons.mpr ⟨s_if_eq (dd_X0_lamedSet (20, .ifCond .eq 9, 3) (List.mem_of_getElem? (i := 12) rfl)) (by decide), ?_⟩
  refine List.forall_mem_cons.mpr ⟨s_iload_n (dd_X0_lamedSet (23, .iload_n 1, 1) (List.mem_of_getElem? (i := 13) rfl)) rfl, ?_⟩
  refine List.forall_mem_cons.mpr ⟨s_iconst (dd_X0_lamedSet (24, .iconst 1, 1) (List.mem_of_getElem? (i := 14) rfl)) rfl, ?_⟩
  refine List.forall_mem_cons.mpr ⟨s_iload_n (dd_X0_lamedSet (25, .iload_n 2, 1) (List.mem_of_getElem? (i := 15) rfl)) rfl, ?_⟩
  refine List.forall_mem_cons.mpr ⟨s_ishl (dd_X0_lamedSet (26, .ishl, 1) (List.mem_of_getElem? (i := 16) rfl)), ?_⟩
  refine List.forall_mem_cons.mpr ⟨s_ior (dd_X0_lamedSet (27, .ior, 1) (List.mem_of_getElem? (i := 17) rfl)), ?_⟩
  refine List.forall_mem_cons.mpr ⟨s_istore_n (dd_X0_lamedSet (28, .istore_n 1, 1) (List.mem_of_getElem? (i := 18) rfl)) rfl, ?_⟩
  refine List.forall_mem_cons.mpr ⟨s_iinc (dd_X0_lamedSet (29, .iinc 2 1, 3) (List.mem_of_getElem? (i := 19) rfl)) rfl, ?_⟩
  refine List.forall_mem_cons.mpr ⟨s_goto (dd_X0_lamedSet (32, .goto (-28), 3) (List.mem_of_getElem? (i := 20) rfl)) (by decide), ?_⟩
  refine List.forall_mem_cons.mpr ⟨s_iload_n (dd_X0_lamedSet (35, .iload_n 1, 1) (List.mem_of_getElem? (i := 21) rfl)) rfl, ?_⟩
  refine List.forall_mem_cons.mpr ⟨Or.inr (Or.inl ⟨rfl, (dd_X0_lamedSet (36, .ireturn, 1) (List.mem_of_getElem? (i := 22) rfl)), rfl⟩), ?_⟩
  exact fun _ h => absurd h List.not_mem_nil
theorem ow_X0_lamedDaysOfAll : (mtJ 12).1.cls = "SatchelSins$Day" := rfl
def D_X0_lamedDaysOfAll : List (Nat × Instr × Nat) := [(0, .iconst 0, 1), (1, .istore_n 1, 1), (2, .iconst 0, 1), (3, .istore_n 2, 1), (4, .iload_n 2, 1), (5, .aload_n 0, 1), (6, .getfield 15, 3), (9, .getfield 51, 3), (12, .if_icmp .ge 17, 3), (15, .iload_n 1, 1), (16, .aload_n 0, 1), (17, .iload_n 2, 1), (18, .invokevirtual 57, 3), (21, .iadd, 1), (22, .istore_n 1, 1), (23, .iinc 2 1, 3), (26, .goto (-22), 3), (29, .iload_n 1, 1), (30, .ireturn, 1)]
theorem dd_X0_lamedDaysOfAll : ∀ e ∈ D_X0_lamedDaysOfAll, decode (mtJ 12).2.1 e.1 = .ok e.2 := by decide +kernel
set_option maxRecDepth 10000 in
theorem so_X0_lamedDaysOfAll : ∀ e ∈ o_X0_lamedDaysOfAll, SndO 12 e.1 e.2 := by
  refine List.forall_mem_cons.mpr ⟨s_iconst (dd_X0_lamedDaysOfAll (0, .iconst 0, 1) (List.mem_of_getElem? (i := 0) rfl)) rfl, ?_⟩
  refine List.forall_mem_cons.mpr ⟨s_istore_n (dd_X0_lamedDaysOfAll (1, .istore_n 1, 1) (List.mem_of_getElem? (i := 1) rfl)) rfl, ?_⟩
  refine List.forall_mem_cons.mpr ⟨s_iconst (dd_X0_lamedDaysOfAll (2, .iconst 0, 1) (List.mem_of_getElem? (i := 2) rfl)) rfl, ?_⟩
  refine List.forall_mem_cons.mpr ⟨s_istore_n (dd_X0_lamedDaysOfAll (3, .istore_n 2, 1) (List.mem_of_getElem? (i := 3) rfl)) rfl, ?_⟩
  refine List.forall_mem_cons.mpr ⟨s_iload_n (dd_X0_lamedDaysOfAll (4, .iload_n 2, 1) (List.mem_of_getElem? (i := 4) rfl)) rfl, ?_⟩
  refine List.forall_mem_cons.mpr ⟨s_aload_n (dd_X0_lamedDaysOfAll (5, .aload_n 0, 1) (List.mem_of_getElem? (i := 5) rfl)) rfl, ?_⟩
  refine List.forall_mem_cons.mpr ⟨s_getR (k := 1) K0 (by decide) (dd_X0_lamedDaysOfAll (6, .getfield 15, 3) (List.mem_of_getElem? (i := 6) rfl)) ow_X0_lamedDaysOfAll fl0_15 rfl, ?_⟩
  refine List.forall_mem_cons.mpr ⟨s_getI (k := 2) K5 (by decide) (dd_X0_lamedDaysOfAll (9, .getfield 51, 3) (List.mem_of_getElem? (i := 7) rfl)) ow_X0_lamedDaysOfAll fl0_51 rfl, ?_⟩
  refine List.forall_mem_cons.mpr ⟨s_icmp_ge (dd_X0_lamedDaysOfAll (12, .if_icmp .ge 17, 3) (List.mem_of_getElem? (i := 8) rfl)) (by decide), ?_⟩
  refine List.forall_mem_cons.mpr ⟨s_iload_n (dd_X0_lamedDaysOfAll (15, .iload_n 1, 1) (List.mem_of_getElem? (i := 9) rfl)) rfl, ?_⟩
  refine List.forall_mem_cons.mpr ⟨s_aload_n (dd_X0_lamedDaysOfAll (16, .aload_n 0, 1) (List.mem_of_getElem? (i := 10) rfl)) rfl, ?_⟩
  refine List.forall_mem_cons.mpr ⟨s_iload_n (dd_X0_lamedDaysOfAll (17, .iload_n 2, 1) (List.mem_of_getElem? (i := 11) rfl)) rfl, ?_⟩
  refine List.forall_mem_cons.mpr ⟨⟨s_callV (ci := 0) rfl mo5 rfl rfl (dd_X0_lamedDaysOfAll (18, .invokevirtual 57, 3) (List.mem_of_getElem? (i := 12) rfl)) ow_X0_lamedDaysOfAll ml0_57 mi5 msl5 in_0 mn5, mo5⟩, ?_⟩
  refine List.forall_mem_cons.mpr ⟨s_iadd (dd_X0_lamedDaysOfAll (21, .iadd, 1) (List.mem_of_getElem? (i := 13) rfl)), ?_⟩
  refine List.forall_mem_cons.mpr ⟨s_istore_n (dd_X0_lamedDaysOfAll (22, .istore_n 1, 1) (List.mem_of_getElem? (i := 14) rfl)) rfl, ?_⟩
  refine List.forall_mem_cons.mpr ⟨s_iinc (dd_X0_lamedDaysOfAll (23, .iinc 2 1, 3) (List.mem_of_getElem? (i := 15) rfl)) rfl, ?_⟩
  refine List.forall_mem_cons.mpr ⟨s_goto (dd_X0_lamedDaysOfAll (26, .goto (-22), 3) (List.mem_of_getElem? (i := 16) rfl)) (by decide), ?_⟩
  refine List.forall_mem_cons.mpr ⟨s_iload_n (dd_X0_lamedDaysOfAll (29, .iload_n 1, 1) (List.mem_of_getElem? (i := 17) rfl)) rfl, ?_⟩
  refine List.forall_mem_cons.mpr ⟨Or.inr (Or.inl ⟨rfl, (dd_X0_lamedDaysOfAll (30, .ireturn, 1) (List.mem_of_getElem? (i := 18) rfl)), rfl⟩), ?_⟩
  exact fun _ h => absurd h List.not_mem_nil
theorem ow_X0_minutesHome : (mtJ 13).1.cls = "SatchelSins$Day" := rfl
def D_X0_minutesHome : List (Nat × Instr × Nat) := [(0, .iconst 1, 1), (1, .aload_n 0, 1), (2, .getfield 15, 3), (5, .getfield 48, 3), (8, .iload_n 1, 1), (9, .iaload, 1), (10, .invokestatic 60, 3), (13, .istore_n 2, 1), (14, .aload_n 0, 1), (15, .getfield 15, 3), (18, .getfield 66, 3), (21, .iload_n 1, 1), (22, .iaload, 1), (23, .aload_n 0, 1), (24, .getfield 15, 3), (27, .getfield 66, 3), (30, .iload_n 1, 1), (31, .iaload, 1), (32, .aload_n 0, 1), (33, .iload_n 1, 1), (34, .invokevirtual 45, 3), (37, .imul, 1), (38, .iload_n 2, 1), (39, .idiv, 1), (40, .iadd, 1), (41, .ireturn, 1)]
theorem dd_X0_minutesHome : ∀ e ∈ D_X0_minutesHome, decode (mtJ 13).2.1 e.1 = .ok e.2 := by decide +kernel
set_option maxRecDepth 10000 in
theorem so_X0_minutesHome : ∀ e ∈ o_X0_minutesHome, SndO 13 e.1 e.2 := by
  refine List.forall_mem_cons.mpr ⟨s_iconst (dd_X0_minutesHome (0, .iconst 1, 1) (List.mem_of_getElem? (i := 0) rfl)) rfl, ?_⟩
  refine List.forall_mem_cons.mpr ⟨s_aload_n (dd_X0_minutesHome (1, .aload_n 0, 1) (List.mem_of_getElem? (i := 1) rfl)) rfl, ?_⟩
  refine List.forall_mem_cons.mpr ⟨s_getR (k := 1) K0 (by decide) (dd_X0_minutesHome (2, .getfield 15, 3) (List.mem_of_getElem? (i := 2) rfl)) ow_X0_minutesHome fl0_15 rfl, ?_⟩
  refine List.forall_mem_cons.mpr ⟨s_getR (k := 4) K5 (by decide) (dd_X0_minutesHome (5, .getfield 48, 3) (List.mem_of_getElem? (i := 3) rfl)) ow_X0_minutesHome fl0_48 rfl, ?_⟩
  refine List.forall_mem_cons.mpr ⟨s_iload_n (dd_X0_minutesHome (8, .iload_n 1, 1) (List.mem_of_getElem? (i := 4) rfl)) rfl, ?_⟩
  refine List.forall_mem_cons.mpr ⟨s_iald (dd_X0_minutesHome (9, .iaload, 1) (List.mem_of_getElem? (i := 5) rfl)), ?_⟩
  refine List.forall_mem_cons.mpr ⟨s_max (dd_X0_minutesHome (10, .invokestatic 60, 3) (List.mem_of_getElem? (i := 6) rfl)) ow_X0_minutesHome ml0_60 mmax1 mmax2 mmax3, ?_⟩
  refine List.forall_mem_cons.mpr ⟨s_istore_n (dd_X0_minutesHome (13, .istore_n 2, 1) (List.mem_of_getElem? (i := 7) rfl)) rfl, ?_⟩
  refine List.forall_mem_cons.mpr ⟨s_aload_n (dd_X0_minutesHome (14, .aload_n 0, 1) (List.mem_of_getElem? (i := 8) rfl)) rfl, ?_⟩
  refine List.forall_mem_cons.mpr ⟨s_getR (k := 1) K0 (by decide) (dd_X0_minutesHome (15, .getfield 15, 3) (List.mem_of_getElem? (i := 9) rfl)) ow_X0_minutesHome fl0_15 rfl, ?_⟩
  refine List.forall_mem_cons.mpr ⟨s_getR (k := 5) K5 (by decide) (dd_X0_minutesHome (18, .getfield 66, 3) (List.mem_of_getElem? (i := 10) rfl)) ow_X0_minutesHome fl0_66 rfl, ?_⟩
  refine List.forall_mem_cons.mpr ⟨s_iload_n (dd_X0_minutesHome (21, .iload_n 1, 1) (List.mem_of_getElem? (i := 11) rfl)) rfl, ?_⟩
  refine List.forall_mem_cons.mpr ⟨s_iald (dd_X0_minutesHome (22, .iaload, 1) (List.mem_of_getElem? (i := 12) rfl)), ?_⟩
  refine List.forall_mem_cons.mpr ⟨s_aload_n (dd_X0_minutesHome (23, .aload_n 0, 1) (List.mem_of_getElem? (i := 13) rfl)) rfl, ?_⟩
  refine List.forall_mem_cons.mpr ⟨s_getR (k := 1) K0 (by decide) (dd_X0_minutesHome (24, .getfield 15, 3) (List.mem_of_getElem? (i := 14) rfl)) ow_X0_minutesHome fl0_15 rfl, ?_⟩
  refine List.forall_mem_cons.mpr ⟨s_getR (k := 5) K5 (by decide) (dd_X0_minutesHome (27, .getfield 66, 3) (List.mem_of_getElem? (i := 15) rfl)) ow_X0_minutesHome fl0_66 rfl, ?_⟩
  refine List.forall_mem_cons.mpr ⟨s_iload_n (dd_X0_minutesHome (30, .iload_n 1, 1) (List.mem_of_getElem? (i := 16) rfl)) rfl, ?_⟩
  refine List.forall_mem_cons.mpr ⟨s_iald (dd_X0_minutesHome (31, .iaload, 1) (List.mem_of_getElem? (i := 17) rfl)), ?_⟩
  refine List.forall_mem_cons.mpr ⟨s_aload_n (dd_X0_minutesHome (32, .aload_n 0, 1) (List.mem_of_getElem? (i := 18) rfl)) rfl, ?_⟩
  refine List.forall_mem_cons.mpr ⟨s_iload_n (dd_X0_minutesHome (33, .iload_n 1, 1) (List.mem_of_getElem? (i := 19) rfl)) rfl, ?_⟩
  refine List.forall_mem_cons.mpr ⟨⟨s_callV (ci := 0) rfl mo9 rfl rfl (dd_X0_minutesHome (34, .invokevirtual 45, 3) (List.mem_of_getElem? (i := 20) rfl)) ow_X0_minutesHome ml0_45 mi9 msl9 in_0 mn9, mo9⟩, ?_⟩
  refine List.forall_mem_cons.mpr ⟨s_imul (dd_X0_minutesHome (37, .imul, 1) (List.mem_of_getElem? (i := 21) rfl)), ?_⟩
  refine List.forall_mem_cons.mpr ⟨s_iload_n (dd_X0_minutesHome (38, .iload_n 2, 1) (List.mem_of_getElem? (i := 22) rfl)) rfl, ?_⟩
  refine List.forall_mem_cons.mpr ⟨s_idiv (dd_X0_minutesHome (39, .idiv, 1) (List.mem_of_getElem? (i := 23) rfl)), ?_⟩
  refine List.forall_mem_cons.mpr ⟨s_iadd (dd_X0_minutesHome (40, .iadd, 1) (List.mem_of_getElem? (i := 24) rfl)), ?_⟩
  refine List.forall_mem_cons.mpr ⟨Or.inr (Or.inl ⟨rfl, (dd_X0_minutesHome (41, .ireturn, 1) (List.mem_of_getElem? (i := 25) rfl)), rfl⟩), ?_⟩
  exact fun _ h => absurd h List.not_mem_nil
theorem ow_X0_lastHome : (mtJ 14).1.cls = "SatchelSins$Day" := rfl
def D_X0_lastHome : List (Nat × Instr × Nat) := [(0, .iconst (-1), 1), (1, .istore_n 1, 1), (2, .iconst (-1), 1), (3, .istore_n 2, 1), (4, .iconst 0, 1), (5, .istore_n 3, 1), (6, .iload_n 3, 1), (7, .aload_n 0, 1), (8, .getfield 15, 3), (11, .getfield 51, 3), (14, .if_icmp .ge 27, 3), (17, .aload_n 0, 1), (18, .iload_n 3, 1), (19, .invokevirtual 69, 3), (22, .istore 4, 2), (24, .iload 4, 2), (26, .iload_n 2, 1), (27, .if_icmp .le 8, 3), (30, .iload 4, 2), (32, .istore_n 2, 1), (33, .iload_n 3, 1), (34, .istore_n 1, 1), (35, .iinc 3 1, 3), (38, .goto (-32), 3), (41, .iload_n 1, 1), (42, .ireturn, 1)]
theorem dd_X0_lastHome : ∀ e ∈ D_X0_lastHome, decode (mtJ 14).2.1 e.1 = .ok e.2 := by decide +kernel
set_option maxRecDepth 10000 in
theorem so_X0_lastHome : ∀ e ∈ o_X0_lastHome, SndO 14 e.1 e.2 := by
  refine List.forall_mem_cons.mpr ⟨s_iconst (dd_X0_lastHome (0, .iconst (-1), 1) (List.mem_of_getElem? (i := 0) rfl)) rfl, ?_⟩
  refine List.forall_mem_cons.mpr ⟨s_istore_n (dd_X0_lastHome (1, .istore_n 1, 1) (List.mem_of_getElem? (i := 1) rfl)) rfl, ?_⟩
  refine List.forall_mem_cons.mpr ⟨s_iconst (dd_X0_lastHome (2, .iconst (-1), 1) (List.mem_of_getElem? (i := 2) rfl)) rfl, ?_⟩
  refine List.forall_mem_cons.mpr ⟨s_istore_n (dd_X0_lastHome (3, .istore_n 2, 1) (List.mem_of_getElem? (i := 3) rfl)) rfl, ?_⟩
  refine List.forall_mem_cons.mpr ⟨s_iconst (dd_X0_lastHome (4, .iconst 0, 1) (List.mem_of_getElem? (i := 4) rfl)) rfl, ?_⟩
  refine List.forall_mem_cons.mpr ⟨s_istore_n (dd_X0_lastHome (5, .istore_n 3, 1) (List.mem_of_getElem? (i := 5) rfl)) rfl, ?_⟩
  refine List.forall_mem_cons.mpr ⟨s_iload_n (dd_X0_lastHome (6, .iload_n 3, 1) (List.mem_of_getElem? (i := 6) rfl)) rfl, ?_⟩
  refine List.forall_mem_cons.mpr ⟨s_aload_n (dd_X0_lastHome (7, .aload_n 0, 1) (List.mem_of_getElem? (i := 7) rfl)) rfl, ?_⟩
  refine List.forall_mem_cons.mpr ⟨s_getR (k := 1) K0 (by decide) (dd_X0_lastHome (8, .getfield 15, 3) (List.mem_of_getElem? (i := 8) rfl)) ow_X0_lastHome fl0_15 rfl, ?_⟩
  refine List.forall_mem_cons.mpr ⟨s_getI (k := 2) K5 (by decide) (dd_X0_lastHome (11, .getfield 51, 3) (List.mem_of_getElem? (i := 9) rfl)) ow_X0_lastHome fl0_51 rfl, ?_⟩
  refine List.forall_mem_cons.mpr ⟨s_icmp_ge (dd_X0_lastHome (14, .if_icmp .ge 27, 3) (List.mem_of_getElem? (i := 10) rfl)) (by decide), ?_⟩
  refine List.forall_mem_cons.mpr ⟨s_aload_n (dd_X0_lastHome (17, .aload_n 0, 1) (List.mem_of_getElem? (i := 11) rfl)) rfl, ?_⟩
  refine List.forall_mem_cons.mpr ⟨s_iload_n (dd_X0_lastHome (18, .iload_n 3, 1) (List.mem_of_getElem? (i := 12) rfl)) rfl, ?_⟩
  refine List.forall_mem_cons.mpr ⟨⟨s_callV (ci := 0) rfl mo13 rfl rfl (dd_X0_lastHome (19, .invokevirtual 69, 3) (List.mem_of_getElem? (i := 13) rfl)) ow_X0_lastHome ml0_69 mi13 msl13 in_0 mn13, mo13⟩, ?_⟩
  refine List.forall_mem_cons.mpr ⟨s_istore (dd_X0_lastHome (22, .istore 4, 2) (List.mem_of_getElem? (i := 14) rfl)), ?_⟩
  refine List.forall_mem_cons.mpr ⟨s_iload (dd_X0_lastHome (24, .iload 4, 2) (List.mem_of_getElem? (i := 15) rfl)), ?_⟩
  refine List.forall_mem_cons.mpr ⟨s_iload_n (dd_X0_lastHome (26, .iload_n 2, 1) (List.mem_of_getElem? (i := 16) rfl)) rfl, ?_⟩
  refine List.forall_mem_cons.mpr ⟨s_icmp_le (dd_X0_lastHome (27, .if_icmp .le 8, 3) (List.mem_of_getElem? (i := 17) rfl)) (by decide), ?_⟩
  refine List.forall_mem_cons.mpr ⟨s_iload (dd_X0_lastHome (30, .iload 4, 2) (List.mem_of_getElem? (i := 18) rfl)), ?_⟩
  refine List.forall_mem_cons.mpr ⟨s_istore_n (dd_X0_lastHome (32, .istore_n 2, 1) (List.mem_of_getElem? (i := 19) rfl)) rfl, ?_⟩
  refine List.forall_mem_cons.mpr ⟨s_iload_n (dd_X0_lastHome (33, .iload_n 3, 1) (List.mem_of_getElem? (i := 20) rfl)) rfl, ?_⟩
  refine List.forall_mem_cons.mpr ⟨s_istore_n (dd_X0_lastHome (34, .istore_n 1, 1) (List.mem_of_getElem? (i := 21) rfl)) rfl, ?_⟩
  refine List.forall_mem_cons.mpr ⟨s_iinc (dd_X0_lastHome (35, .iinc 3 1, 3) (List.mem_of_getElem? (i := 22) rfl)) rfl, ?_⟩
  refine List.forall_mem_cons.mpr ⟨s_goto (dd_X0_lastHome (38, .goto (-32), 3) (List.mem_of_getElem? (i := 23) rfl)) (by decide), ?_⟩
  refine List.forall_mem_cons.mpr ⟨s_iload_n (dd_X0_lastHome (41, .iload_n 1, 1) (List.mem_of_getElem? (i := 24) rfl)) rfl, ?_⟩
  refine List.forall_mem_cons.mpr ⟨Or.inr (Or.inl ⟨rfl, (dd_X0_lastHome (42, .ireturn, 1) (List.mem_of_getElem? (i := 25) rfl)), rfl⟩), ?_⟩
  exact fun _ h => absurd h List.not_mem_nil
theorem ow_X0_madeSet : (mtJ 15).1.cls = "SatchelSins$Day" := rfl
def D_X0_madeSet : List (Nat × Instr × Nat) := [(0, .iconst 0, 1), (1, .istore_n 1, 1), (2, .iconst 0, 1), (3, .istore_n 2, 1), (4, .iload_n 2, 1), (5, .aload_n 0, 1), (6, .getfield 15, 3), (9, .getfield 51, 3), (12, .if_icmp .ge 32, 3), (15, .aload_n 0, 1), (16, .iload_n 2, 1), (17, .invokevirtual 72, 3), (20, .istore_n 3, 1), (21, .aload_n 0, 1), (22, .iload_n 2, 1), (23, .invokevirtual 45, 3), (26, .iload_n 3, 1), (27, .isub, 1), (28, .iload_n 3, 1), (29, .if_icmp .le 9, 3), (32, .iload_n 1, 1), (33, .iconst 1, 1), (34, .iload_n 2, 1), (35, .ishl, 1), (36, .ior, 1), (37, .istore_n 1, 1), (38, .iinc 2 1, 3), (41, .goto (-37), 3), (44, .iload_n 1, 1), (45, .ireturn, 1)]
theorem dd_X0_madeSet : ∀ e ∈ D_X0_madeSet, decode (mtJ 15).2.1 e.1 = .ok e.2 := by decide +kernel
set_option maxRecDepth 10000 in
theorem so_X0_madeSet : ∀ e ∈ o_X0_madeSet, SndO 15 e.1 e.2 := by
  refine List.forall_mem_cons.mpr ⟨s_iconst (dd_X0_madeSet (0, .iconst 0, 1) (List.mem_of_getElem? (i := 0) rfl)) rfl, ?_⟩
  refine List.forall_mem_cons.mpr ⟨s_istore_n (dd_X0_madeSet (1, .istore_n 1, 1) (List.mem_of_getElem? (i := 1) rfl)) rfl, ?_⟩
  refine List.forall_mem_cons.mpr ⟨s_iconst (dd_X0_madeSet (2, .iconst 0, 1) (List.mem_of_getElem? (i := 2) rfl)) rfl, ?_⟩
  refine List.forall_mem_cons.mpr ⟨s_istore_n (dd_X0_madeSet (3, .istore_n 2, 1) (List.mem_of_getElem? (i := 3) rfl)) rfl, ?_⟩
  refine List.forall_mem_cons.mpr ⟨s_iload_n (dd_X0_madeSet (4, .iload_n 2, 1) (List.mem_of_getElem? (i := 4) rfl)) rfl, ?_⟩
  refine List.forall_mem_cons.mpr ⟨s_aload_n (dd_X0_madeSet (5, .aload_n 0, 1) (List.mem_of_getElem? (i := 5) rfl)) rfl, ?_⟩
  refine List.forall_mem_cons.mpr ⟨s_getR (k := 1) K0 (by decide) (dd_X0_madeSet (6, .getfield 15, 3) (List.mem_of_getElem? (i := 6) rfl)) ow_X0_madeSet fl0_15 rfl, ?_⟩
  refine List.forall_mem_cons.mpr ⟨s_getI (k := 2) K5 (by decide) (dd_X0_madeSet (9, .getfield 51, 3) (List.mem_of_getElem? (i := 7) rfl)) ow_X0_madeSet fl0_51 rfl, ?_⟩
  refine List.forall_mem_cons.mpr ⟨s_icmp_ge (dd_X0_madeSet (12, .if_icmp .ge 32, 3) (List.mem_of_getElem? (i := 8) rfl)) (by decide), ?_⟩
  refine List.forall_mem_cons.mpr ⟨s_aload_n (dd_X0_madeSet (15, .aload_n 0, 1) (List.mem_of_getElem? (i := 9) rfl)) rfl, ?_⟩
  refine List.forall_mem_cons.mpr ⟨s_iload_n (dd_X0_madeSet (16, .iload_n 2, 1) (List.mem_of_getElem? (i := 10) rfl)) rfl, ?_⟩
  refine List.forall_mem_cons.mpr ⟨⟨s_callV (ci := 0) rfl mo16 rfl rfl (dd_X0_madeSet (17, .invokevirtual 72, 3) (List.mem_of_getElem? (i := 11) rfl)) ow_X0_madeSet ml0_72 mi16 msl16 in_0 mn16, mo16⟩, ?_⟩
  refine List.forall_mem_cons.mpr ⟨s_istore_n (dd_X0_madeSet (20, .istore_n 3, 1) (List.mem_of_getElem? (i := 12) rfl)) rfl, ?_⟩
  refine List.forall_mem_cons.mpr ⟨s_aload_n (dd_X0_madeSet (21, .aload_n 0, 1) (List.mem_of_getElem? (i := 13) rfl)) rfl, ?_⟩
  refine List.forall_mem_cons.mpr ⟨s_iload_n (dd_X0_madeSet (22, .iload_n 2, 1) (List.mem_of_getElem? (i := 14) rfl)) rfl, ?_⟩
  refine List.forall_mem_cons.mpr ⟨⟨s_callV (ci := 0) rfl mo9 rfl rfl (dd_X0_madeSet (23, .invokevirtual 45, 3) (List.mem_of_getElem? (i := 15) rfl)) ow_X0_madeSet ml0_45 mi9 msl9 in_0 mn9, mo9⟩, ?_⟩
  refine List.forall_mem_cons.mpr ⟨s_iload_n (dd_X0_madeSet (26, .iload_n 3, 1) (List.mem_of_getElem? (i := 16) rfl)) rfl, ?_⟩
  refine List.forall_mem_cons.mpr ⟨s_isub (dd_X0_madeSet (27, .isub, 1) (List.mem_of_getElem? (i := 17) rfl)), ?_⟩
  refine List.forall_mem_cons.mpr ⟨s_iload_n (dd_X0_madeSet (28, .iload_n 3, 1) (List.mem_of_getElem? (i := 18) rfl)) rfl, ?_⟩
  refine List.forall_mem_cons.mpr ⟨s_icmp_le (dd_X0_madeSet (29, .if_icmp .le 9, 3) (List.mem_of_getElem? (i := 19) rfl)) (by decide), ?_⟩
  refine List.forall_mem_cons.mpr ⟨s_iload_n (dd_X0_madeSet (32, .iload_n 1, 1) (List.mem_of_getElem? (i := 20) rfl)) rfl, ?_⟩
  refine List.forall_mem_cons.mpr ⟨s_iconst (dd_X0_madeSet (33, .iconst 1, 1) (List.mem_of_getElem? (i := 21) rfl)) rfl, ?_⟩
  refine List.forall_mem_cons.mpr ⟨s_iload_n (dd_X0_madeSet (34, .iload_n 2, 1) (List.mem_of_getElem? (i := 22) rfl)) rfl, ?_⟩
  refine List.forall_mem_cons.mpr ⟨s_ishl (dd_X0_madeSet (35, .ishl, 1) (List.mem_of_getElem? (i := 23) rfl)), ?_⟩
  refine List.forall_mem_cons.mpr ⟨s_ior (dd_X0_madeSet (36, .ior, 1) (List.mem_of_getElem? (i := 24) rfl)), ?_⟩
  refine List.forall_mem_cons.mpr ⟨s_istore_n (dd_X0_madeSet (37, .istore_n 1, 1) (List.mem_of_getElem? (i := 25) rfl)) rfl, ?_⟩
  refine List.forall_mem_cons.mpr ⟨s_iinc (dd_X0_madeSet (38, .iinc 2 1, 3) (List.mem_of_getElem? (i := 26) rfl)) rfl, ?_⟩
  refine List.forall_mem_cons.mpr ⟨s_goto (dd_X0_madeSet (41, .goto (-37), 3) (List.mem_of_getElem? (i := 27) rfl)) (by decide), ?_⟩
  refine List.forall_mem_cons.mpr ⟨s_iload_n (dd_X0_madeSet (44, .iload_n 1, 1) (List.mem_of_getElem? (i := 28) rfl)) rfl, ?_⟩
  refine List.forall_mem_cons.mpr ⟨Or.inr (Or.inl ⟨rfl, (dd_X0_madeSet (45, .ireturn, 1) (List.mem_of_getElem? (i := 29) rfl)), rfl⟩), ?_⟩
  exact fun _ h => absurd h List.not_mem_nil
theorem ow_X0_ownLoadOf : (mtJ 16).1.cls = "SatchelSins$Day" := rfl
def D_X0_ownLoadOf : List (Nat × Instr × Nat) := [(0, .iconst 0, 1), (1, .istore_n 2, 1), (2, .iconst 0, 1), (3, .istore_n 3, 1), (4, .iload_n 3, 1), (5, .aload_n 0, 1), (6, .getfield 15, 3), (9, .getfield 28, 3), (12, .if_icmp .ge 51, 3), (15, .aload_n 0, 1), (16, .iload_n 3, 1), (17, .invokevirtual 34, 3), (20, .ifCond .eq 37, 3), (23, .aload_n 0, 1), (24, .iload_n 3, 1), (25, .invokevirtual 38, 3), (28, .iload_n 1, 1), (29, .if_icmp .ne 28, 3), (32, .aload_n 0, 1), (33, .getfield 15, 3), (36, .getfield 75, 3), (39, .iload_n 3, 1), (40, .iaload, 1), (41, .iload_n 1, 1), (42, .if_icmp .ne 15, 3), (45, .iload_n 2, 1), (46, .aload_n 0, 1), (47, .getfield 15, 3), (50, .getfield 42, 3), (53, .iload_n 3, 1), (54, .iaload, 1), (55, .iadd, 1), (56, .istore_n 2, 1), (57, .iinc 3 1, 3), (60, .goto (-56), 3), (63, .iload_n 2, 1), (64, .ireturn, 1)]
theorem dd_X0_ownLoadOf : ∀ e ∈ D_X0_ownLoadOf, decode (mtJ 16).2.1 e.1 = .ok e.2 := by decide +kernel
set_option maxRecDepth 10000 in
theorem so_X0_ownLoadOf : ∀ e ∈ o_X0_ownLoadOf, SndO 16 e.1 e.2 := by
  refine List.forall_mem_cons.mpr ⟨s_iconst (dd_X0_ownLoadOf (0, .iconst 0, 1) (List.mem_of_getElem? (i := 0) rfl)) rfl, ?_⟩
  refine List.forall_mem_cons.mpr ⟨s_istore_n (dd_X0_ownLoadOf (1, .istore_n 2, 1) (List.mem_of_getElem? (i := 1) rfl)) rfl, ?_⟩
  refine List.forall_mem_cons.mpr ⟨s_iconst (dd_X0_ownLoadOf (2, .iconst 0, 1) (List.mem_of_getElem? (i := 2) rfl)) rfl, ?_⟩
  refine List.forall_mem_cons.mpr ⟨s_istore_n (dd_X0_ownLoadOf (3, .istore_n 3, 1) (List.mem_of_getElem? (i := 3) rfl)) rfl, ?_⟩
  refine List.forall_mem_cons.mpr ⟨s_iload_n (dd_X0_ownLoadOf (4, .iload_n 3, 1) (List.mem_of_getElem? (i := 4) rfl)) rfl, ?_⟩
  refine List.forall_mem_cons.mpr ⟨s_aload_n (dd_X0_ownLoadOf (5, .aload_n 0, 1) (List.mem_of_getElem? (i := 5) rfl)) rfl, ?_⟩
  refine List.forall_mem_cons.mpr ⟨s_getR (k := 1) K0 (by decide) (dd_X0_ownLoadOf (6, .getfield 15, 3) (List.mem_of_getElem? (i := 6) rfl)) ow_X0_ownLoadOf fl0_15 rfl, ?_⟩
  refine List.forall_mem_cons.mpr ⟨s_getI (k := 3) K5 (by decide) (dd_X0_ownLoadOf (9, .getfield 28, 3) (List.mem_of_getElem? (i := 7) rfl)) ow_X0_ownLoadOf fl0_28 rfl, ?_⟩
  refine List.forall_mem_cons.mpr ⟨s_icmp_ge (dd_X0_ownLoadOf (12, .if_icmp .ge 51, 3) (List.mem_of_getElem? (i := 8) rfl)) (by decide), ?_⟩
  refine List.forall_mem_cons.mpr ⟨s_aload_n (dd_X0_ownLoadOf (15, .aload_n 0, 1) (List.mem_of_getElem? (i := 9) rfl)) rfl, ?_⟩
  refine List.forall_mem_cons.mpr ⟨s_iload_n (dd_X0_ownLoadOf (16, .iload_n 3, 1) (List.mem_of_getElem? (i := 10) rfl)) rfl, ?_⟩
  refine List.forall_mem_cons.mpr ⟨⟨s_callV (ci := 0) rfl mo8 rfl rfl (dd_X0_ownLoadOf (17, .invokevirtual 34, 3) (List.mem_of_getElem? (i := 11) rfl)) ow_X0_ownLoadOf ml0_34 mi8 msl8 in_0 mn8, mo8⟩, ?_⟩
  refine List.forall_mem_cons.mpr ⟨s_if_eq (dd_X0_ownLoadOf (20, .ifCond .eq 37, 3) (List.mem_of_getElem? (i := 12) rfl)) (by decide), ?_⟩
  refine List.forall_mem_cons.mpr ⟨s_aload_n (dd_X0_ownLoadOf (23, .aload_n 0, 1) (List.mem_of_getElem? (i := 13) rfl)) rfl, ?_⟩
  refine List.forall_mem_cons.mpr ⟨s_iload_n (dd_X0_ownLoadOf (24, .iload_n 3, 1) (List.mem_of_getElem? (i := 14) rfl)) rfl, ?_⟩
  refine List.forall_mem_cons.mpr ⟨⟨s_callV (ci := 0) rfl mo7 rfl rfl (dd_X0_ownLoadOf (25, .invokevirtual 38, 3) (List.mem_of_getElem? (i := 15) rfl)) ow_X0_ownLoadOf ml0_38 mi7 msl7 in_0 mn7, mo7⟩, ?_⟩
  refine List.forall_mem_cons.mpr ⟨s_iload_n (dd_X0_ownLoadOf (28, .iload_n 1, 1) (List.mem_of_getElem? (i := 16) rfl)) rfl, ?_⟩
  refine List.forall_mem_cons.mpr ⟨s_icmp_ne (dd_X0_ownLoadOf (29, .if_icmp .ne 28, 3) (List.mem_of_getElem? (i := 17) rfl)) (by decide), ?_⟩
  refine List.forall_mem_cons.mpr ⟨s_aload_n (dd_X0_ownLoadOf (32, .aload_n 0, 1) (List.mem_of_getElem? (i := 18) rfl)) rfl, ?_⟩
  refine List.forall_mem_cons.mpr ⟨s_getR (k := 1) K0 (by decide) (dd_X0_ownLoadOf (33, .getfield 15, 3) (List.mem_of_getElem? (i := 19) rfl)) ow_X0_ownLoadOf fl0_15 rfl, ?_⟩
  refine List.forall_mem_cons.mpr ⟨s_getR (k := 7) K5 (by decide) (dd_X0_ownLoadOf (36, .getfield 75, 3) (List.mem_of_getElem? (i := 20) rfl)) ow_X0_ownLoadOf fl0_75 rfl, ?_⟩
  refine List.forall_mem_cons.mpr ⟨s_iload_n (dd_X0_ownLoadOf (39, .iload_n 3, 1) (List.mem_of_getElem? (i := 21) rfl)) rfl, ?_⟩
  refine List.forall_mem_cons.mpr ⟨s_iald (dd_X0_ownLoadOf (40, .iaload, 1) (List.mem_of_getElem? (i := 22) rfl)), ?_⟩
  refine List.forall_mem_cons.mpr ⟨s_iload_n (dd_X0_ownLoadOf (41, .iload_n 1, 1) (List.mem_of_getElem? (i := 23) rfl)) rfl, ?_⟩
  refine List.forall_mem_cons.mpr ⟨s_icmp_ne (dd_X0_ownLoadOf (42, .if_icmp .ne 15, 3) (List.mem_of_getElem? (i := 24) rfl)) (by decide), ?_⟩
  refine List.forall_mem_cons.mpr ⟨s_iload_n (dd_X0_ownLoadOf (45, .iload_n 2, 1) (List.mem_of_getElem? (i := 25) rfl)) rfl, ?_⟩
  refine List.forall_mem_cons.mpr ⟨s_aload_n (dd_X0_ownLoadOf (46, .aload_n 0, 1) (List.mem_of_getElem? (i := 26) rfl)) rfl, ?_⟩
  refine List.forall_mem_cons.mpr ⟨s_getR (k := 1) K0 (by decide) (dd_X0_ownLoadOf (47, .getfield 15, 3) (List.mem_of_getElem? (i := 27) rfl)) ow_X0_ownLoadOf fl0_15 rfl, ?_⟩
  refine List.forall_mem_cons.mpr ⟨s_getR (k := 8) K5 (by decide) (dd_X0_ownLoadOf (50, .getfield 42, 3) (List.mem_of_getElem? (i := 28) rfl)) ow_X0_ownLoadOf fl0_42 rfl, ?_⟩
  refine List.forall_mem_cons.mpr ⟨s_iload_n (dd_X0_ownLoadOf (53, .iload_n 3, 1) (List.mem_of_getElem? (i := 29) rfl)) rfl, ?_⟩
  refine List.forall_mem_cons.mpr ⟨s_iald (dd_X0_ownLoadOf (54, .iaload, 1) (List.mem_of_getElem? (i := 30) rfl)), ?_⟩
  refine List.forall_mem_cons.mpr ⟨s_iadd (dd_X0_ownLoadOf (55, .iadd, 1) (List.mem_of_getElem? (i := 31) rfl)), ?_⟩
  refine List.forall_mem_cons.mpr ⟨s_istore_n (dd_X0_ownLoadOf (56, .istore_n 2, 1) (List.mem_of_getElem? (i := 32) rfl)) rfl, ?_⟩
  refine List.forall_mem_cons.mpr ⟨s_iinc (dd_X0_ownLoadOf (57, .iinc 3 1, 3) (List.mem_of_getElem? (i := 33) rfl)) rfl, ?_⟩
  refine List.forall_mem_cons.mpr ⟨s_goto (dd_X0_ownLoadOf (60, .goto (-56), 3) (List.mem_of_getElem? (i := 34) rfl)) (by decide), ?_⟩
  refine List.forall_mem_cons.mpr ⟨s_iload_n (dd_X0_ownLoadOf (63, .iload_n 2, 1) (List.mem_of_getElem? (i := 35) rfl)) rfl, ?_⟩
  refine List.forall_mem_cons.mpr ⟨Or.inr (Or.inl ⟨rfl, (dd_X0_ownLoadOf (64, .ireturn, 1) (List.mem_of_getElem? (i := 36) rfl)), rfl⟩), ?_⟩
  exact fun _ h => absurd h List.not_mem_nil
theorem ow_X0_deedSet : (mtJ 17).1.cls = "SatchelSins$Day" := rfl
def D_X0_deedSet : List (Nat × Instr × Nat) := [(0, .iconst 0, 1), (1, .istore_n 3, 1), (2, .iconst 0, 1), (3, .istore 4, 2), (5, .iload 4, 2), (7, .aload_n 0, 1), (8, .getfield 15, 3), (11, .getfield 28, 3), (14, .if_icmp .ge 36, 3), (17, .aload_n 0, 1), (18, .iload 4, 2), (20, .invokevirtual 78, 3), (23, .iload_n 1, 1), (24, .if_icmp .ne 20, 3), (27, .aload_n 0, 1), (28, .iload 4, 2), (30, .invokevirtual 38, 3), (33, .iload_n 2, 1), (34, .if_icmp .ne 10, 3), (37, .iload_n 3, 1), (38, .iconst 1, 1), (39, .iload 4, 2), (41, .ishl, 1), (42, .ior, 1), (43, .istore_n 3, 1), (44, .iinc 4 1, 3), (47, .goto (-42), 3), (50, .iload_n 3, 1), (51, .ireturn, 1)]
theorem dd_X0_deedSet : ∀ e ∈ D_X0_deedSet, decode (mtJ 17).2.1 e.1 = .ok e.2 := by decide +kernel
set_option maxRecDepth 10000 in
theorem so_X0_deedSet : ∀ e ∈ o_X0_deedSet, SndO 17 e.1 e.2 := by
  refine List.forall_mem_cons.mpr ⟨s_iconst (dd_X0_deedSet (0, .iconst 0, 1) (List.mem_of_getElem? (i := 0) rfl)) rfl, ?_⟩
  refine List.forall_mem_cons.mpr ⟨s_istore_n (dd_X0_deedSet (1, .istore_n 3, 1) (List.mem_of_getElem? (i := 1) rfl)) rfl, ?_⟩
  refine List.forall_mem_cons.mpr ⟨s_iconst (dd_X0_deedSet (2, .iconst 0, 1) (List.mem_of_getElem? (i := 2) rfl)) rfl, ?_⟩
  refine List.forall_mem_cons.mpr ⟨s_istore (dd_X0_deedSet (3, .istore 4, 2) (List.mem_of_getElem? (i := 3) rfl)), ?_⟩
  refine List.forall_mem_cons.mpr ⟨s_iload (dd_X0_deedSet (5, .iload 4, 2) (List.mem_of_getElem? (i := 4) rfl)), ?_⟩
  refine List.forall_mem_cons.mpr ⟨s_aload_n (dd_X0_deedSet (7, .aload_n 0, 1) (List.mem_of_getElem? (i := 5) rfl)) rfl, ?_⟩
  refine List.forall_mem_cons.mpr ⟨s_getR (k := 1) K0 (by decide) (dd_X0_deedSet (8, .getfield 15, 3) (List.mem_of_getElem? (i := 6) rfl)) ow_X0_deedSet fl0_15 rfl, ?_⟩
  refine List.forall_mem_cons.mpr ⟨s_getI (k := 3) K5 (by decide) (dd_X0_deedSet (11, .getfield 28, 3) (List.mem_of_getElem? (i := 7) rfl)) ow_X0_deedSet fl0_28 rfl, ?_⟩
  refine List.forall_mem_cons.mpr ⟨s_icmp_ge (dd_X0_deedSet (14, .if_icmp .ge 36, 3) (List.mem_of_getElem? (i := 8) rfl)) (by decide), ?_⟩
  refine List.forall_mem_cons.mpr ⟨s_aload_n (dd_X0_deedSet (17, .aload_n 0, 1) (List.mem_of_getElem? (i := 9) rfl)) rfl, ?_⟩
  refine List.forall_mem_cons.mpr ⟨s_iload (dd_X0_deedSet (18, .iload 4, 2) (List.mem_of_getElem? (i := 10) rfl)), ?_⟩
  refine List.forall_mem_cons.mpr ⟨⟨s_callV (ci := 0) rfl mo6 rfl rfl (dd_X0_deedSet (20, .invokevirtual 78, 3) (List.mem_of_getElem? (i := 11) rfl)) ow_X0_deedSet ml0_78 mi6 msl6 in_0 mn6, mo6⟩, ?_⟩
  refine List.forall_mem_cons.mpr ⟨s_iload_n (dd_X0_deedSet (23, .iload_n 1, 1) (List.mem_of_getElem? (i := 12) rfl)) rfl, ?_⟩
  refine List.forall_mem_cons.mpr ⟨s_icmp_ne (dd_X0_deedSet (24, .if_icmp .ne 20, 3) (List.mem_of_getElem? (i := 13) rfl)) (by decide), ?_⟩
  refine List.forall_mem_cons.mpr ⟨s_aload_n (dd_X0_deedSet (27, .aload_n 0, 1) (List.mem_of_getElem? (i := 14) rfl)) rfl, ?_⟩
  refine List.forall_mem_cons.mpr ⟨s_iload (dd_X0_deedSet (28, .iload 4, 2) (List.mem_of_getElem? (i := 15) rfl)), ?_⟩
  refine List.forall_mem_cons.mpr ⟨⟨s_callV (ci := 0) rfl mo7 rfl rfl (dd_X0_deedSet (30, .invokevirtual 38, 3) (List.mem_of_getElem? (i := 16) rfl)) ow_X0_deedSet ml0_38 mi7 msl7 in_0 mn7, mo7⟩, ?_⟩
  refine List.forall_mem_cons.mpr ⟨s_iload_n (dd_X0_deedSet (33, .iload_n 2, 1) (List.mem_of_getElem? (i := 17) rfl)) rfl, ?_⟩
  refine List.forall_mem_cons.mpr ⟨s_icmp_ne (dd_X0_deedSet (34, .if_icmp .ne 10, 3) (List.mem_of_getElem? (i := 18) rfl)) (by decide), ?_⟩
  refine List.forall_mem_cons.mpr ⟨s_iload_n (dd_X0_deedSet (37, .iload_n 3, 1) (List.mem_of_getElem? (i := 19) rfl)) rfl, ?_⟩
  refine List.forall_mem_cons.mpr ⟨s_iconst (dd_X0_deedSet (38, .iconst 1, 1) (List.mem_of_getElem? (i := 20) rfl)) rfl, ?_⟩
  refine List.forall_mem_cons.mpr ⟨s_iload (dd_X0_deedSet (39, .iload 4, 2) (List.mem_of_getElem? (i := 21) rfl)), ?_⟩
  refine List.forall_mem_cons.mpr ⟨s_ishl (dd_X0_deedSet (41, .ishl, 1) (List.mem_of_getElem? (i := 22) rfl)), ?_⟩
  refine List.forall_mem_cons.mpr ⟨s_ior (dd_X0_deedSet (42, .ior, 1) (List.mem_of_getElem? (i := 23) rfl)), ?_⟩
  refine List.forall_mem_cons.mpr ⟨s_istore_n (dd_X0_deedSet (43, .istore_n 3, 1) (List.mem_of_getElem? (i := 24) rfl)) rfl, ?_⟩
  refine List.forall_mem_cons.mpr ⟨s_iinc (dd_X0_deedSet (44, .iinc 4 1, 3) (List.mem_of_getElem? (i := 25) rfl)) rfl, ?_⟩
  refine List.forall_mem_cons.mpr ⟨s_goto (dd_X0_deedSet (47, .goto (-42), 3) (List.mem_of_getElem? (i := 26) rfl)) (by decide), ?_⟩
  refine List.forall_mem_cons.mpr ⟨s_iload_n (dd_X0_deedSet (50, .iload_n 3, 1) (List.mem_of_getElem? (i := 27) rfl)) rfl, ?_⟩
  refine List.forall_mem_cons.mpr ⟨Or.inr (Or.inl ⟨rfl, (dd_X0_deedSet (51, .ireturn, 1) (List.mem_of_getElem? (i := 28) rfl)), rfl⟩), ?_⟩
  exact fun _ h => absurd h List.not_mem_nil
theorem ow_X0_liesOnTable : (mtJ 18).1.cls = "SatchelSins$Day" := rfl
def D_X0_liesOnTable : List (Nat × Instr × Nat) := [(0, .iconst 0, 1), (1, .istore_n 3, 1), (2, .iload_n 3, 1), (3, .aload_n 0, 1), (4, .getfield 15, 3), (7, .getfield 28, 3), (10, .if_icmp .ge 42, 3), (13, .aload_n 0, 1), (14, .iload_n 3, 1), (15, .invokevirtual 78, 3), (18, .iconst 3, 1), (19, .if_icmp .ne 27, 3), (22, .aload_n 0, 1), (23, .iload_n 3, 1), (24, .invokevirtual 38, 3), (27, .iload_n 1, 1), (28, .if_icmp .ne 18, 3), (31, .aload_n 0, 1), (32, .getfield 15, 3), (35, .getfield 75, 3), (38, .iload_n 3, 1), (39, .iaload, 1), (40, .iload_n 2, 1), (41, .if_icmp .ne 5, 3), (44, .iconst 1, 1), (45, .ireturn, 1), (46, .iinc 3 1, 3), (49, .goto (-47), 3), (52, .iconst 0, 1), (53, .ireturn, 1)]
theorem dd_X0_liesOnTable : ∀ e ∈ D_X0_liesOnTable, decode (mtJ 18).2.1 e.1 = .ok e.2 := by decide +kernel
set_option maxRecDepth 10000 in
theorem so_X0_liesOnTable : ∀ e ∈ o_X0_liesOnTable, SndO 18 e.1 e.2 := by
  refine List.forall_mem_cons.mpr ⟨s_iconst (dd_X0_liesOnTable (0, .iconst 0, 1) (List.mem_of_getElem? (i := 0) rfl)) rfl, ?_⟩
  refine List.forall_mem_cons.mpr ⟨s_istore_n (dd_X0_liesOnTable (1, .istore_n 3, 1) (List.mem_of_getElem? (i := 1) rfl)) rfl, ?_⟩
  refine List.forall_mem_cons.mpr ⟨s_iload_n (dd_X0_liesOnTable (2, .iload_n 3, 1) (List.mem_of_getElem? (i := 2) rfl)) rfl, ?_⟩
  refine List.forall_mem_cons.mpr ⟨s_aload_n (dd_X0_liesOnTable (3, .aload_n 0, 1) (List.mem_of_getElem? (i := 3) rfl)) rfl, ?_⟩
  refine List.forall_mem_cons.mpr ⟨s_getR (k := 1) K0 (by decide) (dd_X0_liesOnTable (4, .getfield 15, 3) (List.mem_of_getElem? (i := 4) rfl)) ow_X0_liesOnTable fl0_15 rfl, ?_⟩
  refine List.forall_mem_cons.mpr ⟨s_getI (k := 3) K5 (by decide) (dd_X0_liesOnTable (7, .getfield 28, 3) (List.mem_of_getElem? (i := 5) rfl)) ow_X0_liesOnTable fl0_28 rfl, ?_⟩
  refine List.forall_mem_cons.mpr ⟨s_icmp_ge (dd_X0_liesOnTable (10, .if_icmp .ge 42, 3) (List.mem_of_getElem? (i := 6) rfl)) (by decide), ?_⟩
  refine List.forall_mem_cons.mpr ⟨s_aload_n (dd_X0_liesOnTable (13, .aload_n 0, 1) (List.mem_of_getElem? (i := 7) rfl)) rfl, ?_⟩
  refine List.forall_mem_cons.mpr ⟨s_iload_n (dd_X0_liesOnTable (14, .iload_n 3, 1) (List.mem_of_getElem? (i := 8) rfl)) rfl, ?_⟩
  refine List.forall_mem_cons.mpr ⟨⟨s_callV (ci := 0) rfl mo6 rfl rfl (dd_X0_liesOnTable (15, .invokevirtual 78, 3) (List.mem_of_getElem? (i := 9) rfl)) ow_X0_liesOnTable ml0_78 mi6 msl6 in_0 mn6, mo6⟩, ?_⟩
  refine List.forall_mem_cons.mpr ⟨s_iconst (dd_X0_liesOnTable (18, .iconst 3, 1) (List.mem_of_getElem? (i := 10) rfl)) rfl, ?_⟩
  refine List.forall_mem_cons.mpr ⟨s_icmp_ne (dd_X0_liesOnTable (19, .if_icmp .ne 27, 3) (List.mem_of_getElem? (i := 11) rfl)) (by decide), ?_⟩
  refine List.forall_mem_cons.mpr ⟨s_aload_n (dd_X0_liesOnTable (22, .aload_n 0, 1) (List.mem_of_getElem? (i := 12) rfl)) rfl, ?_⟩
  refine List.forall_mem_cons.mpr ⟨s_iload_n (dd_X0_liesOnTable (23, .iload_n 3, 1) (List.mem_of_getElem? (i := 13) rfl)) rfl, ?_⟩
  refine List.forall_mem_cons.mpr ⟨⟨s_callV (ci := 0) rfl mo7 rfl rfl (dd_X0_liesOnTable (24, .invokevirtual 38, 3) (List.mem_of_getElem? (i := 14) rfl)) ow_X0_liesOnTable ml0_38 mi7 msl7 in_0 mn7, mo7⟩, ?_⟩
  refine List.forall_mem_cons.mpr ⟨s_iload_n (dd_X0_liesOnTable (27, .iload_n 1, 1) (List.mem_of_getElem? (i := 15) rfl)) rfl, ?_⟩
  refine List.forall_mem_cons.mpr ⟨s_icmp_ne (dd_X0_liesOnTable (28, .if_icmp .ne 18, 3) (List.mem_of_getElem? (i := 16) rfl)) (by decide), ?_⟩
  refine List.forall_mem_cons.mpr ⟨s_aload_n (dd_X0_liesOnTable (31, .aload_n 0, 1) (List.mem_of_getElem? (i := 17) rfl)) rfl, ?_⟩
  refine List.forall_mem_cons.mpr ⟨s_getR (k := 1) K0 (by decide) (dd_X0_liesOnTable (32, .getfield 15, 3) (List.mem_of_getElem? (i := 18) rfl)) ow_X0_liesOnTable fl0_15 rfl, ?_⟩
  refine List.forall_mem_cons.mpr ⟨s_getR (k := 7) K5 (by decide) (dd_X0_liesOnTable (35, .getfield 75, 3) (List.mem_of_getElem? (i := 19) rfl)) ow_X0_liesOnTable fl0_75 rfl, ?_⟩
  refine List.forall_mem_cons.mpr ⟨s_iload_n (dd_X0_liesOnTable (38, .iload_n 3, 1) (List.mem_of_getElem? (i := 20) rfl)) rfl, ?_⟩
  refine List.forall_mem_cons.mpr ⟨s_iald (dd_X0_liesOnTable (39, .iaload, 1) (List.mem_of_getElem? (i := 21) rfl)), ?_⟩
  refine List.forall_mem_cons.mpr ⟨s_iload_n (dd_X0_liesOnTable (40, .iload_n 2, 1) (List.mem_of_getElem? (i := 22) rfl)) rfl, ?_⟩
  refine List.forall_mem_cons.mpr ⟨s_icmp_ne (dd_X0_liesOnTable (41, .if_icmp .ne 5, 3) (List.mem_of_getElem? (i := 23) rfl)) (by decide), ?_⟩
  refine List.forall_mem_cons.mpr ⟨s_iconst (dd_X0_liesOnTable (44, .iconst 1, 1) (List.mem_of_getElem? (i := 24) rfl)) rfl, ?_⟩
  refine List.forall_mem_cons.mpr ⟨Or.inr (Or.inr ⟨rfl, (dd_X0_liesOnTable (45, .ireturn, 1) (List.mem_of_getElem? (i := 25) rfl)), rfl⟩), ?_⟩
  refine List.forall_mem_cons.mpr ⟨s_iinc (dd_X0_liesOnTable (46, .iinc 3 1, 3) (List.mem_of_getElem? (i := 26) rfl)) rfl, ?_⟩
  refine List.forall_mem_cons.mpr ⟨s_goto (dd_X0_liesOnTable (49, .goto (-47), 3) (List.mem_of_getElem? (i := 27) rfl)) (by decide), ?_⟩
  refine List.forall_mem_cons.mpr ⟨s_iconst (dd_X0_liesOnTable (52, .iconst 0, 1) (List.mem_of_getElem? (i := 28) rfl)) rfl, ?_⟩
  refine List.forall_mem_cons.mpr ⟨Or.inr (Or.inr ⟨rfl, (dd_X0_liesOnTable (53, .ireturn, 1) (List.mem_of_getElem? (i := 29) rfl)), rfl⟩), ?_⟩
  exact fun _ h => absurd h List.not_mem_nil
theorem ow_X0_canBeDone : (mtJ 19).1.cls = "SatchelSins$Day" := rfl
def D_X0_canBeDone : List (Nat × Instr × Nat) := [(0, .aload_n 0, 1), (1, .iload_n 1, 1), (2, .invokevirtual 78, 3), (5, .ifCond .ne 7, 3), (8, .iconst 1, 1), (9, .goto 4, 3), (12, .iconst 0, 1), (13, .ireturn, 1)]
theorem dd_X0_canBeDone : ∀ e ∈ D_X0_canBeDone, decode (mtJ 19).2.1 e.1 = .ok e.2 := by decide +kernel
set_option maxRecDepth 10000 in
theorem so_X0_canBeDone : ∀ e ∈ o_X0_canBeDone, SndO 19 e.1 e.2 := by
  refine List.forall_mem_cons.mpr ⟨s_aload_n (dd_X0_canBeDone (0, .aload_n 0, 1) (List.mem_of_getElem? (i := 0) rfl)) rfl, ?_⟩
  refine List.forall_mem_cons.mpr ⟨s_iload_n (dd_X0_canBeDone (1, .iload_n 1, 1) (List.mem_of_getElem? (i := 1) rfl)) rfl, ?_⟩
  refine List.forall_mem_cons.mpr ⟨⟨s_callV (ci := 0) rfl mo6 rfl rfl (dd_X0_canBeDone (2, .invokevirtual 78, 3) (List.mem_of_getElem? (i := 2) rfl)) ow_X0_canBeDone ml0_78 mi6 msl6 in_0 mn6, mo6⟩, ?_⟩
  refine List.forall_mem_cons.mpr ⟨s_if_ne (dd_X0_canBeDone (5, .ifCond .ne 7, 3) (List.mem_of_getElem? (i := 3) rfl)) (by decide), ?_⟩
  refine List.forall_mem_cons.mpr ⟨s_iconst (dd_X0_canBeDone (8, .iconst 1, 1) (List.mem_of_getElem? (i := 4) rfl)) rfl, ?_⟩
  refine List.forall_mem_cons.mpr ⟨s_goto (dd_X0_canBeDone (9, .goto 4, 3) (List.mem_of_getElem? (i := 5) rfl)) (by decide), ?_⟩
  refine List.forall_mem_cons.mpr ⟨s_iconst (dd_X0_canBeDone (12, .iconst 0, 1) (List.mem_of_getElem? (i := 6) rfl)) rfl, ?_⟩
  refine List.forall_mem_cons.mpr ⟨Or.inr (Or.inr ⟨rfl, (dd_X0_canBeDone (13, .ireturn, 1) (List.mem_of_getElem? (i := 7) rfl)), rfl⟩), ?_⟩
  exact fun _ h => absurd h List.not_mem_nil
theorem ow_X0_canBeCarried : (mtJ 20).1.cls = "SatchelSins$Day" := rfl
def D_X0_canBeCarried : List (Nat × Instr × Nat) := [(0, .aload_n 0, 1), (1, .iload_n 1, 1), (2, .invokevirtual 34, 3), (5, .ifCond .eq 16, 3), (8, .aload_n 0, 1), (9, .iload_n 1, 1), (10, .invokevirtual 38, 3), (13, .iload_n 2, 1), (14, .if_icmp .eq 7, 3), (17, .iconst 1, 1), (18, .goto 4, 3), (21, .iconst 0, 1), (22, .ireturn, 1)]
theorem dd_X0_canBeCarried : ∀ e ∈ D_X0_canBeCarried, decode (mtJ 20).2.1 e.1 = .ok e.2 := by decide +kernel
set_option maxRecDepth 10000 in
theorem so_X0_canBeCarried : ∀ e ∈ o_X0_canBeCarried, SndO 20 e.1 e.2 := by
  refine List.forall_mem_cons.mpr ⟨s_aload_n (dd_X0_canBeCarried (0, .aload_n 0, 1) (List.mem_of_getElem? (i := 0) rfl)) rfl, ?_⟩
  refine List.forall_mem_cons.mpr ⟨s_iload_n (dd_X0_canBeCarried (1, .iload_n 1, 1) (List.mem_of_getElem? (i := 1) rfl)) rfl, ?_⟩
  refine List.forall_mem_cons.mpr ⟨⟨s_callV (ci := 0) rfl mo8 rfl rfl (dd_X0_canBeCarried (2, .invokevirtual 34, 3) (List.mem_of_getElem? (i := 2) rfl)) ow_X0_canBeCarried ml0_34 mi8 msl8 in_0 mn8, mo8⟩, ?_⟩
  refine List.forall_mem_cons.mpr ⟨s_if_eq (dd_X0_canBeCarried (5, .ifCond .eq 16, 3) (List.mem_of_getElem? (i := 3) rfl)) (by decide), ?_⟩
  refine List.forall_mem_cons.mpr ⟨s_aload_n (dd_X0_canBeCarried (8, .aload_n 0, 1) (List.mem_of_getElem? (i := 4) rfl)) rfl, ?_⟩
  refine List.forall_mem_cons.mpr ⟨s_iload_n (dd_X0_canBeCarried (9, .iload_n 1, 1) (List.mem_of_getElem? (i := 5) rfl)) rfl, ?_⟩
  refine List.forall_mem_cons.mpr ⟨⟨s_callV (ci := 0) rfl mo7 rfl rfl (dd_X0_canBeCarried (10, .invokevirtual 38, 3) (List.mem_of_getElem? (i := 6) rfl)) ow_X0_canBeCarried ml0_38 mi7 msl7 in_0 mn7, mo7⟩, ?_⟩
  refine List.forall_mem_cons.mpr ⟨s_iload_n (dd_X0_canBeCarried (13, .iload_n 2, 1) (List.mem_of_getElem? (i := 7) rfl)) rfl, ?_⟩
  refine List.forall_mem_cons.mpr ⟨s_icmp_eq (dd_X0_canBeCarried (14, .if_icmp .eq 7, 3) (List.mem_of_getElem? (i := 8) rfl)) (by decide), ?_⟩
  refine List.forall_mem_cons.mpr ⟨s_iconst (dd_X0_canBeCarried (17, .iconst 1, 1) (List.mem_of_getElem? (i := 9) rfl)) rfl, ?_⟩
  refine List.forall_mem_cons.mpr ⟨s_goto (dd_X0_canBeCarried (18, .goto 4, 3) (List.mem_of_getElem? (i := 10) rfl)) (by decide), ?_⟩
  refine List.forall_mem_cons.mpr ⟨s_iconst (dd_X0_canBeCarried (21, .iconst 0, 1) (List.mem_of_getElem? (i := 11) rfl)) rfl, ?_⟩
  refine List.forall_mem_cons.mpr ⟨Or.inr (Or.inr ⟨rfl, (dd_X0_canBeCarried (22, .ireturn, 1) (List.mem_of_getElem? (i := 12) rfl)), rfl⟩), ?_⟩
  exact fun _ h => absurd h List.not_mem_nil
theorem ow_X0_canBeThrown : (mtJ 21).1.cls = "SatchelSins$Day" := rfl
def D_X0_canBeThrown : List (Nat × Instr × Nat) := [(0, .aload_n 0, 1), (1, .iload_n 1, 1), (2, .invokevirtual 34, 3), (5, .ifCond .eq 31, 3), (8, .aload_n 0, 1), (9, .invokevirtual 81, 3), (12, .aload_n 0, 1), (13, .getfield 15, 3), (16, .getfield 42, 3), (19, .iload_n 1, 1), (20, .iaload, 1), (21, .iadd, 1), (22, .aload_n 0, 1), (23, .getfield 15, 3), (26, .getfield 85, 3), (29, .if_icmp .gt 7, 3), (32, .iconst 1, 1), (33, .goto 4, 3), (36, .iconst 0, 1), (37, .ireturn, 1)]
theorem dd_X0_canBeThrown : ∀ e ∈ D_X0_canBeThrown, decode (mtJ 21).2.1 e.1 = .ok e.2 := by decide +kernel
set_option maxRecDepth 10000 in
theorem so_X0_canBeThrown : ∀ e ∈ o_X0_canBeThrown, SndO 21 e.1 e.2 := by
  refine List.forall_mem_cons.mpr ⟨s_aload_n (dd_X0_canBeThrown (0, .aload_n 0, 1) (List.mem_of_getElem? (i := 0) rfl)) rfl, ?_⟩
  refine List.forall_mem_cons.mpr ⟨s_iload_n (dd_X0_canBeThrown (1, .iload_n 1, 1) (List.mem_of_getElem? (i := 1) rfl)) rfl, ?_⟩
  refine List.forall_mem_cons.mpr ⟨⟨s_callV (ci := 0) rfl mo8 rfl rfl (dd_X0_canBeThrown (2, .invokevirtual 34, 3) (List.mem_of_getElem? (i := 2) rfl)) ow_X0_canBeThrown ml0_34 mi8 msl8 in_0 mn8, mo8⟩, ?_⟩
  refine List.forall_mem_cons.mpr ⟨s_if_eq (dd_X0_canBeThrown (5, .ifCond .eq 31, 3) (List.mem_of_getElem? (i := 3) rfl)) (by decide), ?_⟩
  refine List.forall_mem_cons.mpr ⟨s_aload_n (dd_X0_canBeThrown (8, .aload_n 0, 1) (List.mem_of_getElem? (i := 4) rfl)) rfl, ?_⟩
  refine List.forall_mem_cons.mpr ⟨⟨s_callV (ci := 0) rfl mo3 rfl rfl (dd_X0_canBeThrown (9, .invokevirtual 81, 3) (List.mem_of_getElem? (i := 5) rfl)) ow_X0_canBeThrown ml0_81 mi3 msl3 in_0 mn3, mo3⟩, ?_⟩
  refine List.forall_mem_cons.mpr ⟨s_aload_n (dd_X0_canBeThrown (12, .aload_n 0, 1) (List.mem_of_getElem? (i := 6) rfl)) rfl, ?_⟩
  refine List.forall_mem_cons.mpr ⟨s_getR (k := 1) K0 (by decide) (dd_X0_canBeThrown (13, .getfield 15, 3) (List.mem_of_getElem? (i := 7) rfl)) ow_X0_canBeThrown fl0_15 rfl, ?_⟩
  refine List.forall_mem_cons.mpr ⟨s_getR (k := 8) K5 (by decide) (dd_X0_canBeThrown (16, .getfield 42, 3) (List.mem_of_getElem? (i := 8) rfl)) ow_X0_canBeThrown fl0_42 rfl, ?_⟩
  refine List.forall_mem_cons.mpr ⟨s_iload_n (dd_X0_canBeThrown (19, .iload_n 1, 1) (List.mem_of_getElem? (i := 9) rfl)) rfl, ?_⟩
  refine List.forall_mem_cons.mpr ⟨s_iald (dd_X0_canBeThrown (20, .iaload, 1) (List.mem_of_getElem? (i := 10) rfl)), ?_⟩
  refine List.forall_mem_cons.mpr ⟨s_iadd (dd_X0_canBeThrown (21, .iadd, 1) (List.mem_of_getElem? (i := 11) rfl)), ?_⟩
  refine List.forall_mem_cons.mpr ⟨s_aload_n (dd_X0_canBeThrown (22, .aload_n 0, 1) (List.mem_of_getElem? (i := 12) rfl)) rfl, ?_⟩
  refine List.forall_mem_cons.mpr ⟨s_getR (k := 1) K0 (by decide) (dd_X0_canBeThrown (23, .getfield 15, 3) (List.mem_of_getElem? (i := 13) rfl)) ow_X0_canBeThrown fl0_15 rfl, ?_⟩
  refine List.forall_mem_cons.mpr ⟨s_getI (k := 1) K5 (by decide) (dd_X0_canBeThrown (26, .getfield 85, 3) (List.mem_of_getElem? (i := 14) rfl)) ow_X0_canBeThrown fl0_85 rfl, ?_⟩
  refine List.forall_mem_cons.mpr ⟨s_icmp_gt (dd_X0_canBeThrown (29, .if_icmp .gt 7, 3) (List.mem_of_getElem? (i := 15) rfl)) (by decide), ?_⟩
  refine List.forall_mem_cons.mpr ⟨s_iconst (dd_X0_canBeThrown (32, .iconst 1, 1) (List.mem_of_getElem? (i := 16) rfl)) rfl, ?_⟩
  refine List.forall_mem_cons.mpr ⟨s_goto (dd_X0_canBeThrown (33, .goto 4, 3) (List.mem_of_getElem? (i := 17) rfl)) (by decide), ?_⟩
  refine List.forall_mem_cons.mpr ⟨s_iconst (dd_X0_canBeThrown (36, .iconst 0, 1) (List.mem_of_getElem? (i := 18) rfl)) rfl, ?_⟩
  refine List.forall_mem_cons.mpr ⟨Or.inr (Or.inr ⟨rfl, (dd_X0_canBeThrown (37, .ireturn, 1) (List.mem_of_getElem? (i := 19) rfl)), rfl⟩), ?_⟩
  exact fun _ h => absurd h List.not_mem_nil
theorem ow_X0_areInUnlikeSatchels : (mtJ 22).1.cls = "SatchelSins$Day" := rfl
def D_X0_areInUnlikeSatchels : List (Nat × Instr × Nat) := [(0, .aload_n 0, 1), (1, .iload_n 1, 1), (2, .invokevirtual 34, 3), (5, .ifCond .eq 28, 3), (8, .aload_n 0, 1), (9, .iload_n 2, 1), (10, .invokevirtual 34, 3), (13, .ifCond .eq 20, 3), (16, .aload_n 0, 1), (17, .iload_n 1, 1), (18, .invokevirtual 38, 3), (21, .aload_n 0, 1), (22, .iload_n 2, 1), (23, .invokevirtual 38, 3), (26, .if_icmp .eq 7, 3), (29, .iconst 1, 1), (30, .goto 4, 3), (33, .iconst 0, 1), (34, .ireturn, 1)]
theorem dd_X0_areInUnlikeSatchels : ∀ e ∈ D_X0_areInUnlikeSatchels, decode (mtJ 22).2.1 e.1 = .ok e.2 := by decide +kernel
set_option maxRecDepth 10000 in
theorem so_X0_areInUnlikeSatchels : ∀ e ∈ o_X0_areInUnlikeSatchels, SndO 22 e.1 e.2 := by
  refine List.forall_mem_cons.mpr ⟨s_aload_n (dd_X0_areInUnlikeSatchels (0, .aload_n 0, 1) (List.mem_of_getElem? (i := 0) rfl)) rfl, ?_⟩
  refine List.forall_mem_cons.mpr ⟨s_iload_n (dd_X0_areInUnlikeSatchels (1, .iload_n 1, 1) (List.mem_of_getElem? (i := 1) rfl)) rfl, ?_⟩
  refine List.forall_mem_cons.mpr ⟨⟨s_callV (ci := 0) rfl mo8 rfl rfl (dd_X0_areInUnlikeSatchels (2, .invokevirtual 34, 3) (List.mem_of_getElem? (i := 2) rfl)) ow_X0_areInUnlikeSatchels ml0_34 mi8 msl8 in_0 mn8, mo8⟩, ?_⟩
  refine List.forall_mem_cons.mpr ⟨s_if_eq (dd_X0_areInUnlikeSatchels (5, .ifCond .eq 28, 3) (List.mem_of_getElem? (i := 3) rfl)) (by decide), ?_⟩
  refine List.forall_mem_cons.mpr ⟨s_aload_n (dd_X0_areInUnlikeSatchels (8, .aload_n 0, 1) (List.mem_of_getElem? (i := 4) rfl)) rfl, ?_⟩
  refine List.forall_mem_cons.mpr ⟨s_iload_n (dd_X0_areInUnlikeSatchels (9, .iload_n 2, 1) (List.mem_of_getElem? (i := 5) rfl)) rfl, ?_⟩
  refine List.forall_mem_cons.mpr ⟨⟨s_callV (ci := 0) rfl mo8 rfl rfl (dd_X0_areInUnlikeSatchels (10, .invokevirtual 34, 3) (List.mem_of_getElem? (i := 6) rfl)) ow_X0_areInUnlikeSatchels ml0_34 mi8 msl8 in_0 mn8, mo8⟩, ?_⟩
  refine List.forall_mem_cons.mpr ⟨s_if_eq (dd_X0_areInUnlikeSatchels (13, .ifCond .eq 20, 3) (List.mem_of_getElem? (i := 7) rfl)) (by decide), ?_⟩
  refine List.forall_mem_cons.mpr ⟨s_aload_n (dd_X0_areInUnlikeSatchels (16, .aload_n 0, 1) (List.mem_of_getElem? (i := 8) rfl)) rfl, ?_⟩
  refine List.forall_mem_cons.mpr ⟨s_iload_n (dd_X0_areInUnlikeSatchels (17, .iload_n 1, 1) (List.mem_of_getElem? (i := 9) rfl)) rfl, ?_⟩
  refine List.forall_mem_cons.mpr ⟨⟨s_callV (ci := 0) rfl mo7 rfl rfl (dd_X0_areInUnlikeSatchels (18, .invokevirtual 38, 3) (List.mem_of_getElem? (i := 10) rfl)) ow_X0_areInUnlikeSatchels ml0_38 mi7 msl7 in_0 mn7, mo7⟩, ?_⟩
  refine List.forall_mem_cons.mpr ⟨s_aload_n (dd_X0_areInUnlikeSatchels (21, .aload_n 0, 1) (List.mem_of_getElem? (i := 11) rfl)) rfl, ?_⟩
  refine List.forall_mem_cons.mpr ⟨s_iload_n (dd_X0_areInUnlikeSatchels (22, .iload_n 2, 1) (List.mem_of_getElem? (i := 12) rfl)) rfl, ?_⟩
  refine List.forall_mem_cons.mpr ⟨⟨s_callV (ci := 0) rfl mo7 rfl rfl (dd_X0_areInUnlikeSatchels (23, .invokevirtual 38, 3) (List.mem_of_getElem? (i := 13) rfl)) ow_X0_areInUnlikeSatchels ml0_38 mi7 msl7 in_0 mn7, mo7⟩, ?_⟩
  refine List.forall_mem_cons.mpr ⟨s_icmp_eq (dd_X0_areInUnlikeSatchels (26, .if_icmp .eq 7, 3) (List.mem_of_getElem? (i := 14) rfl)) (by decide), ?_⟩
  refine List.forall_mem_cons.mpr ⟨s_iconst (dd_X0_areInUnlikeSatchels (29, .iconst 1, 1) (List.mem_of_getElem? (i := 15) rfl)) rfl, ?_⟩
  refine List.forall_mem_cons.mpr ⟨s_goto (dd_X0_areInUnlikeSatchels (30, .goto 4, 3) (List.mem_of_getElem? (i := 16) rfl)) (by decide), ?_⟩
  refine List.forall_mem_cons.mpr ⟨s_iconst (dd_X0_areInUnlikeSatchels (33, .iconst 0, 1) (List.mem_of_getElem? (i := 17) rfl)) rfl, ?_⟩
  refine List.forall_mem_cons.mpr ⟨Or.inr (Or.inr ⟨rfl, (dd_X0_areInUnlikeSatchels (34, .ireturn, 1) (List.mem_of_getElem? (i := 18) rfl)), rfl⟩), ?_⟩
  exact fun _ h => absurd h List.not_mem_nil
theorem ow_X0_isLightenedBySwap : (mtJ 23).1.cls = "SatchelSins$Day" := rfl
def D_X0_isLightenedBySwap_1 : List (Nat × Instr × Nat) := [(0, .aload_n 0, 1), (1, .iload_n 1, 1), (2, .iload_n 2, 1), (3, .invokevirtual 88, 3), (6, .ifCond .ne 5, 3), (9, .iconst 0, 1), (10, .ireturn, 1), (11, .aload_n 0, 1), (12, .iload_n 1, 1), (13, .invokevirtual 38, 3), (16, .istore_n 3, 1), (17, .aload_n 0, 1), (18, .iload_n 2, 1), (19, .invokevirtual 38, 3), (22, .istore 4, 2), (24, .aload_n 0, 1), (25, .getfield 15, 3), (28, .getfield 42, 3), (31, .iload_n 2, 1), (32, .iaload, 1), (33, .aload_n 0, 1), (34, .getfield 15, 3), (37, .getfield 42, 3), (40, .iload_n 1, 1), (41, .iaload, 1), (42, .isub, 1), (43, .istore 5, 2), (45, .aload_n 0, 1), (46, .iload_n 3, 1), (47, .invokevirtual 54, 3), (50, .ifCond .ne 12, 3), (53, .aload_n 0, 1), (54, .iload 4, 2), (56, .invokevirtual 54, 3), (59, .ifCond .eq 49, 3), (62, .aload_n 0, 1), (63, .iload_n 3, 1), (64, .invokevirtual 45, 3), (67, .iload 5, 2), (69, .iadd, 1), (70, .aload_n 0, 1), (71, .getfield 15, 3), (74, .getfield 48, 3), (77, .iload_n 3, 1), (78, .iaload, 1), (79, .if_icmp .gt 29, 3), (82, .aload_n 0, 1), (83, .iload 4, 2), (85, .invokevirtual 45, 3), (88, .iload 5, 2), (90, .isub, 1), (91, .aload_n 0, 1), (92, .getfield 15, 3), (95, .getfield 48, 3), (98, .iload 4, 2), (100, .iaload, 1), (101, .if_icmp .gt 7, 3), (104, .iconst 1, 1), (105, .goto 4, 3), (108, .iconst 0, 1)]
theorem dd_X0_isLightenedBySwap_1 : ∀ e ∈ D_X0_isLightenedBySwap_1, decode (mtJ 23).2.1 e.1 = .ok e.2 := by decide +kernel
set_option maxRecDepth 10000 in
theorem so_X0_isLightenedBySwap_1 : ∀ e ∈ o_X0_isLightenedBySwap_1, SndO 23 e.1 e.2 := by
  refine List.forall_mem_cons.mpr ⟨s_aload_n (dd_X0_isLightenedBySwap_1 (0, .aload_n 0, 1) (List.mem_of_getElem? (i := 0) rfl)) rfl, ?_⟩
  refine List.forall_mem_cons.mpr ⟨s_iload_n (dd_X0_isLightenedBySwap_1 (1, .iload_n 1, 1) (List.mem_of_getElem? (i := 1) rfl)) rfl, ?_⟩
  refine List.forall_mem_cons.mpr ⟨s_iload_n (dd_X0_isLightenedBySwap_1 (2, .iload_n 2, 1) (List.mem_of_getElem? (i := 2) rfl)) rfl, ?_⟩
  refine List.forall_mem_cons.mpr ⟨⟨s_callV (ci := 0) rfl mo22 rfl rfl (dd_X0_isLightenedBySwap_1 (3, .invokevirtual 88, 3) (List.mem_of_getElem? (i := 3) rfl)) ow_X0_isLightenedBySwap ml0_88 mi22 msl22 in_0 mn22, mo22⟩, ?_⟩
  refine List.forall_mem_cons.mpr ⟨s_if_ne (dd_X0_isLightenedBySwap_1 (6, .ifCond .ne 5, 3) (List.mem_of_getElem? (i := 4) rfl)) (by decide), ?_⟩
  refine List.forall_mem_cons.mpr ⟨s_iconst (dd_X0_isLightenedBySwap_1 (9, .iconst 0, 1) (List.mem_of_getElem? (i := 5) rfl)) rfl, ?_⟩
  refine List.forall_mem_cons.mpr ⟨Or.inr (Or.inr ⟨rfl, (dd_X0_isLightenedBySwap_1 (10, .ireturn, 1) (List.mem_of_getElem? (i := 6) rfl)), rfl⟩), ?_⟩
  refine List.forall_mem_cons.mpr ⟨s_aload_n (dd_X0_isLightenedBySwap_1 (11, .aload_n 0, 1) (List.mem_of_getElem? (i := 7) rfl)) rfl, ?_⟩
  refine List.forall_mem_cons.mpr ⟨s_iload_n (dd_X0_isLightenedBySwap_1 (12, .iload_n 1, 1) (List.mem_of_getElem? (i := 8) rfl)) rfl, ?_⟩
  refine List.forall_mem_cons.mpr ⟨⟨s_callV (ci := 0) rfl mo7 rfl rfl (dd_X0_isLightenedBySwap_1 (13, .invokevirtual 38, 3) (List.mem_of_getElem? (i := 9) rfl)) ow_X0_isLightenedBySwap ml0_38 mi7 msl7 in_0 mn7, mo7⟩, ?_⟩
  refine List.forall_mem_cons.mpr ⟨s_istore_n (dd_X0_isLightenedBySwap_1 (16, .istore_n 3, 1) (List.mem_of_getElem? (i := 10) rfl)) rfl, ?_⟩
  refine List.forall_mem_cons.mpr ⟨s_aload_n (dd_X0_isLightenedBySwap_1 (17, .aload_n 0, 1) (List.mem_of_getElem? (i := 11) rfl)) rfl, ?_⟩
  refine List.forall_mem_cons.mpr ⟨s_iload_n (dd_X0_isLightenedBySwap_1 (18, .iload_n 2, 1) (List.mem_of_getElem? (i := 12) rfl)) rfl, ?_⟩
  refine List.forall_mem_cons.mpr ⟨⟨s_callV (ci := 0) rfl mo7 rfl rfl (dd_X0_isLightenedBySwap_1 (19, .invokevirtual 38, 3) (List.mem_of_getElem? (i := 13) rfl)) ow_X0_isLightenedBySwap ml0_38 mi7 msl7 in_0 mn7, mo7⟩, ?_⟩
  refine List.forall_mem_cons.mpr ⟨s_istore (dd_X0_isLightenedBySwap_1 (22, .istore 4, 2) (List.mem_of_getElem? (i := 14) rfl)), ?_⟩
  refine List.forall_mem_cons.mpr ⟨s_aload_n (dd_X0_isLightenedBySwap_1 (24, .aload_n 0, 1) (List.mem_of_getElem? (i := 15) rfl)) rfl, ?_⟩
  refine List.forall_mem_cons.mpr ⟨s_getR (k := 1) K0 (by decide) (dd_X0_isLightenedBySwap_1 (25, .getfield 15, 3) (List.mem_of_getElem? (i := 16) rfl)) ow_X0_isLightenedBySwap fl0_15 rfl, ?_⟩
  refine List.forall_mem_cons.mpr ⟨s_getR (k := 8) K5 (by decide) (dd_X0_isLightenedBySwap_1 (28, .getfield 42, 3) (List.mem_of_getElem? (i := 17) rfl)) ow_X0_isLightenedBySwap fl0_42 rfl, ?_⟩
  refine List.forall_mem_cons.mpr ⟨s_iload_n (dd_X0_isLightenedBySwap_1 (31, .iload_n 2, 1) (List.mem_of_getElem? (i := 18) rfl)) rfl, ?_⟩
  refine List.forall_mem_cons.mpr ⟨s_iald (dd_X0_isLightenedBySwap_1 (32, .iaload, 1) (List.mem_of_getElem? (i := 19) rfl)), ?_⟩
  refine List.forall_mem_cons.mpr ⟨s_aload_n (dd_X0_isLightenedBySwap_1 (33, .aload_n 0, 1) (List.mem_of_getElem? (i := 20) rfl)) rfl, ?_⟩
  refine List.forall_mem_cons.mpr ⟨s_getR (k := 1) K0 (by decide) (dd_X0_isLightenedBySwap_1 (34, .getfield 15, 3) (List.mem_of_getElem? (i := 21) rfl)) ow_X0_isLightenedBySwap fl0_15 rfl, ?_⟩
  refine List.forall_mem_cons.mpr ⟨s_getR (k := 8) K5 (by decide) (dd_X0_isLightenedBySwap_1 (37, .getfield 42, 3) (List.mem_of_getElem? (i := 22) rfl)) ow_X0_isLightenedBySwap fl0_42 rfl, ?_⟩
  refine List.forall_mem_cons.mpr ⟨s_iload_n (dd_X0_isLightenedBySwap_1 (40, .iload_n 1, 1) (List.mem_of_getElem? (i := 23) rfl)) rfl, ?_⟩
  refine List.forall_mem_cons.mpr ⟨s_iald (dd_X0_isLightenedBySwap_1 (41, .iaload, 1) (List.mem_of_getElem? (i := 24) rfl)), ?_⟩
  refine List.forall_mem_cons.mpr ⟨s_isub (dd_X0_isLightenedBySwap_1 (42, .isub, 1) (List.mem_of_getElem? (i := 25) rfl)), ?_⟩
  refine List.forall_mem_cons.mpr ⟨s_istore (dd_X0_isLightenedBySwap_1 (43, .istore 5, 2) (List.mem_of_getElem? (i := 26) rfl)), ?_⟩
  refine List.forall_mem_cons.mpr ⟨s_aload_n (dd_X0_isLightenedBySwap_1 (45, .aload_n 0, 1) (List.mem_of_getElem? (i := 27) rfl)) rfl, ?_⟩
  refine List.forall_mem_cons.mpr ⟨s_iload_n (dd_X0_isLightenedBySwap_1 (46, .iload_n 3, 1) (List.mem_of_getElem? (i := 28) rfl)) rfl, ?_⟩
  refine List.forall_mem_cons.mpr ⟨⟨s_callV (ci := 0) rfl mo10 rfl rfl (dd_X0_isLightenedBySwap_1 (47, .invokevirtual 54, 3) (List.mem_of_getElem? (i := 29) rfl)) ow_X0_isLightenedBySwap ml0_54 mi10 msl10 in_0 mn10, mo10⟩, ?_⟩
  refine List.forall_mem_cons.mpr ⟨s_if_ne (dd_X0_isLightenedBySwap_1 (50, .ifCond .ne 12, 3) (List.mem_of_getElem? (i := 30) rfl)) (by decide), ?_⟩
  refine List.forall_mem_cons.mpr ⟨s_aload_n (dd_X0_isLightenedBySwap_1 (53, .aload_n 0, 1) (List.mem_of_getElem? (i := 31) rfl)) rfl, ?_⟩
  refine List.forall_mem_cons.mpr ⟨s_iload (dd_X0_isLightenedBySwap_1 (54, .iload 4, 2) (List.mem_of_getElem? (i := 32) rfl)), ?_⟩
  refine List.forall_mem_cons.mpr ⟨⟨s_callV (ci := 0) rfl mo10 rfl rfl (dd_X0_isLightenedBySwap_1 (56, .invokevirtual 54, 3) (List.mem_of_getElem? (i := 33) rfl)) ow_X0_isLightenedBySwap ml0_54 mi10 msl10 in_0 mn10, mo10⟩, ?_⟩
  refine List.forall_mem_cons.mpr ⟨s_if_eq (dd_X0_isLightenedBySwap_1 (59, .ifCond .eq 49, 3) (List.mem_of_getElem? (i := 34) rfl)) (by decide), ?_⟩
  refine List.forall_mem_cons.mpr ⟨s_aload_n (dd_X0_isLightenedBySwap_1 (62, .aload_n 0, 1) (List.mem_of_getElem? (i := 35) rfl)) rfl, ?_⟩
  refine List.forall_mem_cons.mpr ⟨s_iload_n (dd_X0_isLightenedBySwap_1 (63, .iload_n 3, 1) (List.mem_of_getElem? (i := 36) rfl)) rfl, ?_⟩
  refine List.forall_mem_cons.mpr ⟨⟨s_callV (ci := 0) rfl mo9 rfl rfl (dd_X0_isLightenedBySwap_1 (64, .invokevirtual 45, 3) (List.mem_of_getElem? (i := 37) rfl)) ow_X0_isLightenedBySwap ml0_45 mi9 msl9 in_0 mn9, mo9⟩, ?_⟩
  refine List.forall_mem_cons.mpr ⟨s_iload (dd_X0_isLightenedBySwap_1 (67, .iload 5, 2) (List.mem_of_getElem? (i := 38) rfl)), ?_⟩
  refine List.forall_mem_cons.mpr ⟨s_iadd (dd_X0_isLightenedBySwap_1 (69, .iadd, 1) (List.mem_of_getElem? (i := 39) rfl)), ?_⟩
  refine List.forall_mem_cons.mpr ⟨s_aload_n (dd_X0_isLightenedBySwap_1 (70, .aload_n 0, 1) (List.mem_of_getElem? (i := 40) rfl)) rfl, ?_⟩
  refine List.forall_mem_cons.mpr ⟨s_getR (k := 1) K0 (by decide) (dd_X0_isLightenedBySwap_1 (71, .getfield 15, 3) (List.mem_of_getElem? (i := 41) rfl)) ow_X0_isLightenedBySwap fl0_15 rfl, ?_⟩
  refine List.forall_mem_cons.mpr ⟨s_getR (k := 4) K5 (by decide) (dd_X0_isLightenedBySwap_1 (74, .getfield 48, 3) (List.mem_of_getElem? (i := 42) rfl)) ow_X0_isLightenedBySwap fl0_48 rfl, ?_⟩
  refine List.forall_mem_cons.mpr ⟨s_iload_n (dd_X0_isLightenedBySwap_1 (77, .iload_n 3, 1) (List.mem_of_getElem? (i := 43) rfl)) rfl, ?_⟩
  refine List.forall_mem_cons.mpr ⟨s_iald (dd_X0_isLightenedBySwap_1 (78, .iaload, 1) (List.mem_of_getElem? (i := 44) rfl)), ?_⟩
  refine List.forall_mem_cons.mpr ⟨s_icmp_gt (dd_X0_isLightenedBySwap_1 (79, .if_icmp .gt 29, 3) (List.mem_of_getElem? (i := 45) rfl)) (by decide), ?_⟩
  refine List.forall_mem_cons.mpr ⟨s_aload_n (dd_X0_isLightenedBySwap_1 (82, .aload_n 0, 1) (List.mem_of_getElem? (i := 46) rfl)) rfl, ?_⟩
  refine List.forall_mem_cons.mpr ⟨s_iload (dd_X0_isLightenedBySwap_1 (83, .iload 4, 2) (List.mem_of_getElem? (i := 47) rfl)), ?_⟩
  refine List.forall_mem_cons.mpr ⟨⟨s_callV (ci := 0) rfl mo9 rfl rfl (dd_X0_isLightenedBySwap_1 (85, .invokevirtual 45, 3) (List.mem_of_getElem? (i := 48) rfl)) ow_X0_isLightenedBySwap ml0_45 mi9 msl9 in_0 mn9, mo9⟩, ?_⟩
  refine List.forall_mem_cons.mpr ⟨s_iload (dd_X0_isLightenedBySwap_1 (88, .iload 5, 2) (List.mem_of_getElem? (i := 49) rfl)), ?_⟩
  refine List.forall_mem_cons.mpr ⟨s_isub (dd_X0_isLightenedBySwap_1 (90, .isub, 1) (List.mem_of_getElem? (i := 50) rfl)), ?_⟩
  refine List.forall_mem_cons.mpr ⟨s_aload_n (dd_X0_isLightenedBySwap_1 (91, .aload_n 0, 1) (List.mem_of_getElem? (i := 51) rfl)) rfl, ?_⟩
  refine List.forall_mem_cons.mpr ⟨s_getR (k := 1) K0 (by decide) (dd_X0_isLightenedBySwap_1 (92, .getfield 15, 3) (List.mem_of_getElem? (i := 52) rfl)) ow_X0_isLightenedBySwap fl0_15 rfl, ?_⟩
  refine List.forall_mem_cons.mpr ⟨s_getR (k := 4) K5 (by decide) (dd_X0_isLightenedBySwap_1 (95, .getfield 48, 3) (List.mem_of_getElem? (i := 53) rfl)) ow_X0_isLightenedBySwap fl0_48 rfl, ?_⟩
  refine List.forall_mem_cons.mpr ⟨s_iload (dd_X0_isLightenedBySwap_1 (98, .iload 4, 2) (List.mem_of_getElem? (i := 54) rfl)), ?_⟩
  refine List.forall_mem_cons.mpr ⟨s_iald (dd_X0_isLightenedBySwap_1 (100, .iaload, 1) (List.mem_of_getElem? (i := 55) rfl)), ?_⟩
  refine List.forall_mem_cons.mpr ⟨s_icmp_gt (dd_X0_isLightenedBySwap_1 (101, .if_icmp .gt 7, 3) (List.mem_of_getElem? (i := 56) rfl)) (by decide), ?_⟩
  refine List.forall_mem_cons.mpr ⟨s_iconst (dd_X0_isLightenedBySwap_1 (104, .iconst 1, 1) (List.mem_of_getElem? (i := 57) rfl)) rfl, ?_⟩
  refine List.forall_mem_cons.mpr ⟨s_goto (dd_X0_isLightenedBySwap_1 (105, .goto 4, 3) (List.mem_of_getElem? (i := 58) rfl)) (by decide), ?_⟩
  refine List.forall_mem_cons.mpr ⟨s_iconst (dd_X0_isLightenedBySwap_1 (108, .iconst 0, 1) (List.mem_of_getElem? (i := 59) rfl)) rfl, ?_⟩
  exact fun _ h => absurd h List.not_mem_nil
def D_X0_isLightenedBySwap_2 : List (Nat × Instr × Nat) := [(109, .ireturn, 1)]
theorem dd_X0_isLightenedBySwap_2 : ∀ e ∈ D_X0_isLightenedBySwap_2, decode (mtJ 23).2.1 e.1 = .ok e.2 := by decide +kernel
set_option maxRecDepth 10000 in
theorem so_X0_isLightenedBySwap_2 : ∀ e ∈ o_X0_isLightenedBySwap_2, SndO 23 e.1 e.2 := by
  refine List.forall_mem_cons.mpr ⟨Or.inr (Or.inr ⟨rfl, (dd_X0_isLightenedBySwap_2 (109, .ireturn, 1) (List.mem_of_getElem? (i := 0) rfl)), rfl⟩), ?_⟩
  exact fun _ h => absurd h List.not_mem_nil
theorem so_X0_isLightenedBySwap : ∀ e ∈ o_X0_isLightenedBySwap, SndO 23 e.1 e.2 := List.forall_mem_append.mpr ⟨so_X0_isLightenedBySwap_1, so_X0_isLightenedBySwap_2⟩
theorem ow_X0_putInOwnSatchel : (mtJ 24).1.cls = "SatchelSins$Day" := rfl
def D_X0_putInOwnSatchel : List (Nat × Instr × Nat) := [(0, .aload_n 0, 1), (1, .iload_n 1, 1), (2, .aload_n 0, 1), (3, .getfield 15, 3), (6, .getfield 75, 3), (9, .iload_n 1, 1), (10, .iaload, 1), (11, .invokevirtual 92, 3), (14, .return_, 1)]
theorem dd_X0_putInOwnSatchel : ∀ e ∈ D_X0_putInOwnSatchel, decode (mtJ 24).2.1 e.1 = .ok e.2 := by decide +kernel
set_option maxRecDepth 10000 in
theorem so_X0_putInOwnSatchel : ∀ e ∈ o_X0_putInOwnSatchel, SndO 24 e.1 e.2 := by
  refine List.forall_mem_cons.mpr ⟨s_aload_n (dd_X0_putInOwnSatchel (0, .aload_n 0, 1) (List.mem_of_getElem? (i := 0) rfl)) rfl, ?_⟩
  refine List.forall_mem_cons.mpr ⟨s_iload_n (dd_X0_putInOwnSatchel (1, .iload_n 1, 1) (List.mem_of_getElem? (i := 1) rfl)) rfl, ?_⟩
  refine List.forall_mem_cons.mpr ⟨s_aload_n (dd_X0_putInOwnSatchel (2, .aload_n 0, 1) (List.mem_of_getElem? (i := 2) rfl)) rfl, ?_⟩
  refine List.forall_mem_cons.mpr ⟨s_getR (k := 1) K0 (by decide) (dd_X0_putInOwnSatchel (3, .getfield 15, 3) (List.mem_of_getElem? (i := 3) rfl)) ow_X0_putInOwnSatchel fl0_15 rfl, ?_⟩
  refine List.forall_mem_cons.mpr ⟨s_getR (k := 7) K5 (by decide) (dd_X0_putInOwnSatchel (6, .getfield 75, 3) (List.mem_of_getElem? (i := 4) rfl)) ow_X0_putInOwnSatchel fl0_75 rfl, ?_⟩
  refine List.forall_mem_cons.mpr ⟨s_iload_n (dd_X0_putInOwnSatchel (9, .iload_n 1, 1) (List.mem_of_getElem? (i := 5) rfl)) rfl, ?_⟩
  refine List.forall_mem_cons.mpr ⟨s_iald (dd_X0_putInOwnSatchel (10, .iaload, 1) (List.mem_of_getElem? (i := 6) rfl)), ?_⟩
  refine List.forall_mem_cons.mpr ⟨⟨s_callV (ci := 0) rfl mo25 rfl rfl (dd_X0_putInOwnSatchel (11, .invokevirtual 92, 3) (List.mem_of_getElem? (i := 7) rfl)) ow_X0_putInOwnSatchel ml0_92 mi25 msl25 in_0 mn25, mo25⟩, ?_⟩
  refine List.forall_mem_cons.mpr ⟨Or.inl ⟨rfl, (dd_X0_putInOwnSatchel (14, .return_, 1) (List.mem_of_getElem? (i := 8) rfl)), rfl⟩, ?_⟩
  exact fun _ h => absurd h List.not_mem_nil
theorem ow_X0_putInSatchel : (mtJ 25).1.cls = "SatchelSins$Day" := rfl
def D_X0_putInSatchel : List (Nat × Instr × Nat) := [(0, .aload_n 0, 1), (1, .getfield 11, 3), (4, .iconst 0, 1), (5, .iload_n 1, 1), (6, .iadd, 1), (7, .iconst 1, 1), (8, .iastore, 1), (9, .aload_n 0, 1), (10, .getfield 11, 3), (13, .bipush 7, 2), (15, .iload_n 1, 1), (16, .iadd, 1), (17, .iload_n 2, 1), (18, .iastore, 1), (19, .return_, 1)]
theorem dd_X0_putInSatchel : ∀ e ∈ D_X0_putInSatchel, decode (mtJ 25).2.1 e.1 = .ok e.2 := by decide +kernel
set_option maxRecDepth 10000 in
theorem so_X0_putInSatchel : ∀ e ∈ o_X0_putInSatchel, SndO 25 e.1 e.2 := by
  refine List.forall_mem_cons.mpr ⟨s_aload_n (dd_X0_putInSatchel (0, .aload_n 0, 1) (List.mem_of_getElem? (i := 0) rfl)) rfl, ?_⟩
  refine List.forall_mem_cons.mpr ⟨s_getR (k := 0) K0 (by decide) (dd_X0_putInSatchel (1, .getfield 11, 3) (List.mem_of_getElem? (i := 1) rfl)) ow_X0_putInSatchel fl0_11 rfl, ?_⟩
  refine List.forall_mem_cons.mpr ⟨s_iconst (dd_X0_putInSatchel (4, .iconst 0, 1) (List.mem_of_getElem? (i := 2) rfl)) rfl, ?_⟩
  refine List.forall_mem_cons.mpr ⟨s_iload_n (dd_X0_putInSatchel (5, .iload_n 1, 1) (List.mem_of_getElem? (i := 3) rfl)) rfl, ?_⟩
  refine List.forall_mem_cons.mpr ⟨s_iadd (dd_X0_putInSatchel (6, .iadd, 1) (List.mem_of_getElem? (i := 4) rfl)), ?_⟩
  refine List.forall_mem_cons.mpr ⟨s_iconst (dd_X0_putInSatchel (7, .iconst 1, 1) (List.mem_of_getElem? (i := 5) rfl)) rfl, ?_⟩
  refine List.forall_mem_cons.mpr ⟨s_iast (dd_X0_putInSatchel (8, .iastore, 1) (List.mem_of_getElem? (i := 6) rfl)), ?_⟩
  refine List.forall_mem_cons.mpr ⟨s_aload_n (dd_X0_putInSatchel (9, .aload_n 0, 1) (List.mem_of_getElem? (i := 7) rfl)) rfl, ?_⟩
  refine List.forall_mem_cons.mpr ⟨s_getR (k := 0) K0 (by decide) (dd_X0_putInSatchel (10, .getfield 11, 3) (List.mem_of_getElem? (i := 8) rfl)) ow_X0_putInSatchel fl0_11 rfl, ?_⟩
  refine List.forall_mem_cons.mpr ⟨s_bipush (dd_X0_putInSatchel (13, .bipush 7, 2) (List.mem_of_getElem? (i := 9) rfl)) rfl, ?_⟩
  refine List.forall_mem_cons.mpr ⟨s_iload_n (dd_X0_putInSatchel (15, .iload_n 1, 1) (List.mem_of_getElem? (i := 10) rfl)) rfl, ?_⟩
  refine List.forall_mem_cons.mpr ⟨s_iadd (dd_X0_putInSatchel (16, .iadd, 1) (List.mem_of_getElem? (i := 11) rfl)), ?_⟩
  refine List.forall_mem_cons.mpr ⟨s_iload_n (dd_X0_putInSatchel (17, .iload_n 2, 1) (List.mem_of_getElem? (i := 12) rfl)) rfl, ?_⟩
  refine List.forall_mem_cons.mpr ⟨s_iast (dd_X0_putInSatchel (18, .iastore, 1) (List.mem_of_getElem? (i := 13) rfl)), ?_⟩
  refine List.forall_mem_cons.mpr ⟨Or.inl ⟨rfl, (dd_X0_putInSatchel (19, .return_, 1) (List.mem_of_getElem? (i := 14) rfl)), rfl⟩, ?_⟩
  exact fun _ h => absurd h List.not_mem_nil
theorem ow_X0_changePlaces : (mtJ 26).1.cls = "SatchelSins$Day" := rfl
def D_X0_changePlaces : List (Nat × Instr × Nat) := [(0, .aload_n 0, 1), (1, .iload_n 1, 1), (2, .invokevirtual 38, 3), (5, .istore_n 3, 1), (6, .aload_n 0, 1), (7, .iload_n 1, 1), (8, .aload_n 0, 1), (9, .iload_n 2, 1), (10, .invokevirtual 38, 3), (13, .invokevirtual 92, 3), (16, .aload_n 0, 1), (17, .iload_n 2, 1), (18, .iload_n 3, 1), (19, .invokevirtual 92, 3), (22, .return_, 1)]
theorem dd_X0_changePlaces : ∀ e ∈ D_X0_changePlaces, decode (mtJ 26).2.1 e.1 = .ok e.2 := by decide +kernel
set_option maxRecDepth 10000 in
theorem so_X0_changePlaces : ∀ e ∈ o_X0_changePlaces, SndO 26 e.1 e.2 := by
  refine List.forall_mem_cons.mpr ⟨s_aload_n (dd_X0_changePlaces (0, .aload_n 0, 1) (List.mem_of_getElem? (i := 0) rfl)) rfl, ?_⟩
  refine List.forall_mem_cons.mpr ⟨s_iload_n (dd_X0_changePlaces (1, .iload_n 1, 1) (List.mem_of_getElem? (i := 1) rfl)) rfl, ?_⟩
  refine List.forall_mem_cons.mpr ⟨⟨s_callV (ci := 0) rfl mo7 rfl rfl (dd_X0_changePlaces (2, .invokevirtual 38, 3) (List.mem_of_getElem? (i := 2) rfl)) ow_X0_changePlaces ml0_38 mi7 msl7 in_0 mn7, mo7⟩, ?_⟩
  refine List.forall_mem_cons.mpr ⟨s_istore_n (dd_X0_changePlaces (5, .istore_n 3, 1) (List.mem_of_getElem? (i := 3) rfl)) rfl, ?_⟩
  refine List.forall_mem_cons.mpr ⟨s_aload_n (dd_X0_changePlaces (6, .aload_n 0, 1) (List.mem_of_getElem? (i := 4) rfl)) rfl, ?_⟩
  refine List.forall_mem_cons.mpr ⟨s_iload_n (dd_X0_changePlaces (7, .iload_n 1, 1) (List.mem_of_getElem? (i := 5) rfl)) rfl, ?_⟩
  refine List.forall_mem_cons.mpr ⟨s_aload_n (dd_X0_changePlaces (8, .aload_n 0, 1) (List.mem_of_getElem? (i := 6) rfl)) rfl, ?_⟩
  refine List.forall_mem_cons.mpr ⟨s_iload_n (dd_X0_changePlaces (9, .iload_n 2, 1) (List.mem_of_getElem? (i := 7) rfl)) rfl, ?_⟩
  refine List.forall_mem_cons.mpr ⟨⟨s_callV (ci := 0) rfl mo7 rfl rfl (dd_X0_changePlaces (10, .invokevirtual 38, 3) (List.mem_of_getElem? (i := 8) rfl)) ow_X0_changePlaces ml0_38 mi7 msl7 in_0 mn7, mo7⟩, ?_⟩
  refine List.forall_mem_cons.mpr ⟨⟨s_callV (ci := 0) rfl mo25 rfl rfl (dd_X0_changePlaces (13, .invokevirtual 92, 3) (List.mem_of_getElem? (i := 9) rfl)) ow_X0_changePlaces ml0_92 mi25 msl25 in_0 mn25, mo25⟩, ?_⟩
  refine List.forall_mem_cons.mpr ⟨s_aload_n (dd_X0_changePlaces (16, .aload_n 0, 1) (List.mem_of_getElem? (i := 10) rfl)) rfl, ?_⟩
  refine List.forall_mem_cons.mpr ⟨s_iload_n (dd_X0_changePlaces (17, .iload_n 2, 1) (List.mem_of_getElem? (i := 11) rfl)) rfl, ?_⟩
  refine List.forall_mem_cons.mpr ⟨s_iload_n (dd_X0_changePlaces (18, .iload_n 3, 1) (List.mem_of_getElem? (i := 12) rfl)) rfl, ?_⟩
  refine List.forall_mem_cons.mpr ⟨⟨s_callV (ci := 0) rfl mo25 rfl rfl (dd_X0_changePlaces (19, .invokevirtual 92, 3) (List.mem_of_getElem? (i := 13) rfl)) ow_X0_changePlaces ml0_92 mi25 msl25 in_0 mn25, mo25⟩, ?_⟩
  refine List.forall_mem_cons.mpr ⟨Or.inl ⟨rfl, (dd_X0_changePlaces (22, .return_, 1) (List.mem_of_getElem? (i := 14) rfl)), rfl⟩, ?_⟩
  exact fun _ h => absurd h List.not_mem_nil
theorem ow_X0_putInBrook : (mtJ 27).1.cls = "SatchelSins$Day" := rfl
def D_X0_putInBrook : List (Nat × Instr × Nat) := [(0, .aload_n 0, 1), (1, .getfield 11, 3), (4, .iconst 0, 1), (5, .iload_n 1, 1), (6, .iadd, 1), (7, .iconst 2, 1), (8, .iastore, 1), (9, .aload_n 0, 1), (10, .getfield 11, 3), (13, .bipush 7, 2), (15, .iload_n 1, 1), (16, .iadd, 1), (17, .iconst (-1), 1), (18, .iastore, 1), (19, .aload_n 0, 1), (20, .getfield 11, 3), (23, .bipush 20, 2), (25, .dup2, 1), (26, .iaload, 1), (27, .aload_n 0, 1), (28, .getfield 15, 3), (31, .getfield 42, 3), (34, .iload_n 1, 1), (35, .iaload, 1), (36, .iadd, 1), (37, .iastore, 1), (38, .aload_n 0, 1), (39, .getfield 11, 3), (42, .bipush 21, 2), (44, .ldc 96, 2), (46, .aload_n 0, 1), (47, .getfield 11, 3), (50, .bipush 21, 2), (52, .iaload, 1), (53, .aload_n 0, 1), (54, .getfield 15, 3), (57, .getfield 42, 3), (60, .iload_n 1, 1), (61, .iaload, 1), (62, .iadd, 1), (63, .invokestatic 97, 3), (66, .iastore, 1), (67, .return_, 1)]
theorem dd_X0_putInBrook : ∀ e ∈ D_X0_putInBrook, decode (mtJ 27).2.1 e.1 = .ok e.2 := by decide +kernel
set_option maxRecDepth 10000 in
theorem so_X0_putInBrook : ∀ e ∈ o_X0_putInBrook, SndO 27 e.1 e.2 := by
  refine List.forall_mem_cons.mpr ⟨s_aload_n (dd_X0_putInBrook (0, .aload_n 0, 1) (List.mem_of_getElem? (i := 0) rfl)) rfl, ?_⟩
  refine List.forall_mem_cons.mpr ⟨s_getR (k := 0) K0 (by decide) (dd_X0_putInBrook (1, .getfield 11, 3) (List.mem_of_getElem? (i := 1) rfl)) ow_X0_putInBrook fl0_11 rfl, ?_⟩
  refine List.forall_mem_cons.mpr ⟨s_iconst (dd_X0_putInBrook (4, .iconst 0, 1) (List.mem_of_getElem? (i := 2) rfl)) rfl, ?_⟩
  refine List.forall_mem_cons.mpr ⟨s_iload_n (dd_X0_putInBrook (5, .iload_n 1, 1) (List.mem_of_getElem? (i := 3) rfl)) rfl, ?_⟩
  refine List.forall_mem_cons.mpr ⟨s_iadd (dd_X0_putInBrook (6, .iadd, 1) (List.mem_of_getElem? (i := 4) rfl)), ?_⟩
  refine List.forall_mem_cons.mpr ⟨s_iconst (dd_X0_putInBrook (7, .iconst 2, 1) (List.mem_of_getElem? (i := 5) rfl)) rfl, ?_⟩
  refine List.forall_mem_cons.mpr ⟨s_iast (dd_X0_putInBrook (8, .iastore, 1) (List.mem_of_getElem? (i := 6) rfl)), ?_⟩
  refine List.forall_mem_cons.mpr ⟨s_aload_n (dd_X0_putInBrook (9, .aload_n 0, 1) (List.mem_of_getElem? (i := 7) rfl)) rfl, ?_⟩
  refine List.forall_mem_cons.mpr ⟨s_getR (k := 0) K0 (by decide) (dd_X0_putInBrook (10, .getfield 11, 3) (List.mem_of_getElem? (i := 8) rfl)) ow_X0_putInBrook fl0_11 rfl, ?_⟩
  refine List.forall_mem_cons.mpr ⟨s_bipush (dd_X0_putInBrook (13, .bipush 7, 2) (List.mem_of_getElem? (i := 9) rfl)) rfl, ?_⟩
  refine List.forall_mem_cons.mpr ⟨s_iload_n (dd_X0_putInBrook (15, .iload_n 1, 1) (List.mem_of_getElem? (i := 10) rfl)) rfl, ?_⟩
  refine List.forall_mem_cons.mpr ⟨s_iadd (dd_X0_putInBrook (16, .iadd, 1) (List.mem_of_getElem? (i := 11) rfl)), ?_⟩
  refine List.forall_mem_cons.mpr ⟨s_iconst (dd_X0_putInBrook (17, .iconst (-1), 1) (List.mem_of_getElem? (i := 12) rfl)) rfl, ?_⟩
  refine List.forall_mem_cons.mpr ⟨s_iast (dd_X0_putInBrook (18, .iastore, 1) (List.mem_of_getElem? (i := 13) rfl)), ?_⟩
  refine List.forall_mem_cons.mpr ⟨s_aload_n (dd_X0_putInBrook (19, .aload_n 0, 1) (List.mem_of_getElem? (i := 14) rfl)) rfl, ?_⟩
  refine List.forall_mem_cons.mpr ⟨s_getR (k := 0) K0 (by decide) (dd_X0_putInBrook (20, .getfield 11, 3) (List.mem_of_getElem? (i := 15) rfl)) ow_X0_putInBrook fl0_11 rfl, ?_⟩
  refine List.forall_mem_cons.mpr ⟨s_bipush (dd_X0_putInBrook (23, .bipush 20, 2) (List.mem_of_getElem? (i := 16) rfl)) rfl, ?_⟩
  refine List.forall_mem_cons.mpr ⟨s_dup2 (dd_X0_putInBrook (25, .dup2, 1) (List.mem_of_getElem? (i := 17) rfl)), ?_⟩
  refine List.forall_mem_cons.mpr ⟨s_iald (dd_X0_putInBrook (26, .iaload, 1) (List.mem_of_getElem? (i := 18) rfl)), ?_⟩
  refine List.forall_mem_cons.mpr ⟨s_aload_n (dd_X0_putInBrook (27, .aload_n 0, 1) (List.mem_of_getElem? (i := 19) rfl)) rfl, ?_⟩
  refine List.forall_mem_cons.mpr ⟨s_getR (k := 1) K0 (by decide) (dd_X0_putInBrook (28, .getfield 15, 3) (List.mem_of_getElem? (i := 20) rfl)) ow_X0_putInBrook fl0_15 rfl, ?_⟩
  refine List.forall_mem_cons.mpr ⟨s_getR (k := 8) K5 (by decide) (dd_X0_putInBrook (31, .getfield 42, 3) (List.mem_of_getElem? (i := 21) rfl)) ow_X0_putInBrook fl0_42 rfl, ?_⟩
  refine List.forall_mem_cons.mpr ⟨s_iload_n (dd_X0_putInBrook (34, .iload_n 1, 1) (List.mem_of_getElem? (i := 22) rfl)) rfl, ?_⟩
  refine List.forall_mem_cons.mpr ⟨s_iald (dd_X0_putInBrook (35, .iaload, 1) (List.mem_of_getElem? (i := 23) rfl)), ?_⟩
  refine List.forall_mem_cons.mpr ⟨s_iadd (dd_X0_putInBrook (36, .iadd, 1) (List.mem_of_getElem? (i := 24) rfl)), ?_⟩
  refine List.forall_mem_cons.mpr ⟨s_iast (dd_X0_putInBrook (37, .iastore, 1) (List.mem_of_getElem? (i := 25) rfl)), ?_⟩
  refine List.forall_mem_cons.mpr ⟨s_aload_n (dd_X0_putInBrook (38, .aload_n 0, 1) (List.mem_of_getElem? (i := 26) rfl)) rfl, ?_⟩
  refine List.forall_mem_cons.mpr ⟨s_getR (k := 0) K0 (by decide) (dd_X0_putInBrook (39, .getfield 11, 3) (List.mem_of_getElem? (i := 27) rfl)) ow_X0_putInBrook fl0_11 rfl, ?_⟩
  refine List.forall_mem_cons.mpr ⟨s_bipush (dd_X0_putInBrook (42, .bipush 21, 2) (List.mem_of_getElem? (i := 28) rfl)) rfl, ?_⟩
  refine List.forall_mem_cons.mpr ⟨s_ldc (dd_X0_putInBrook (44, .ldc 96, 2) (List.mem_of_getElem? (i := 29) rfl)) ow_X0_putInBrook ki0_96, ?_⟩
  refine List.forall_mem_cons.mpr ⟨s_aload_n (dd_X0_putInBrook (46, .aload_n 0, 1) (List.mem_of_getElem? (i := 30) rfl)) rfl, ?_⟩
  refine List.forall_mem_cons.mpr ⟨s_getR (k := 0) K0 (by decide) (dd_X0_putInBrook (47, .getfield 11, 3) (List.mem_of_getElem? (i := 31) rfl)) ow_X0_putInBrook fl0_11 rfl, ?_⟩
  refine List.forall_mem_cons.mpr ⟨s_bipush (dd_X0_putInBrook (50, .bipush 21, 2) (List.mem_of_getElem? (i := 32) rfl)) rfl, ?_⟩
  refine List.forall_mem_cons.mpr ⟨s_iald (dd_X0_putInBrook (52, .iaload, 1) (List.mem_of_getElem? (i := 33) rfl)), ?_⟩
  refine List.forall_mem_cons.mpr ⟨s_aload_n (dd_X0_putInBrook (53, .aload_n 0, 1) (List.mem_of_getElem? (i := 34) rfl)) rfl, ?_⟩
  refine List.forall_mem_cons.mpr ⟨s_getR (k := 1) K0 (by decide) (dd_X0_putInBrook (54, .getfield 15, 3) (List.mem_of_getElem? (i := 35) rfl)) ow_X0_putInBrook fl0_15 rfl, ?_⟩
  refine List.forall_mem_cons.mpr ⟨s_getR (k := 8) K5 (by decide) (dd_X0_putInBrook (57, .getfield 42, 3) (List.mem_of_getElem? (i := 36) rfl)) ow_X0_putInBrook fl0_42 rfl, ?_⟩
  refine List.forall_mem_cons.mpr ⟨s_iload_n (dd_X0_putInBrook (60, .iload_n 1, 1) (List.mem_of_getElem? (i := 37) rfl)) rfl, ?_⟩
  refine List.forall_mem_cons.mpr ⟨s_iald (dd_X0_putInBrook (61, .iaload, 1) (List.mem_of_getElem? (i := 38) rfl)), ?_⟩
  refine List.forall_mem_cons.mpr ⟨s_iadd (dd_X0_putInBrook (62, .iadd, 1) (List.mem_of_getElem? (i := 39) rfl)), ?_⟩
  refine List.forall_mem_cons.mpr ⟨s_min (dd_X0_putInBrook (63, .invokestatic 97, 3) (List.mem_of_getElem? (i := 40) rfl)) ow_X0_putInBrook ml0_97 mmin1 mmin2 mmin3, ?_⟩
  refine List.forall_mem_cons.mpr ⟨s_iast (dd_X0_putInBrook (66, .iastore, 1) (List.mem_of_getElem? (i := 41) rfl)), ?_⟩
  refine List.forall_mem_cons.mpr ⟨Or.inl ⟨rfl, (dd_X0_putInBrook (67, .return_, 1) (List.mem_of_getElem? (i := 42) rfl)), rfl⟩, ?_⟩
  exact fun _ h => absurd h List.not_mem_nil
theorem ow_X0_putNowhere : (mtJ 28).1.cls = "SatchelSins$Day" := rfl
def D_X0_putNowhere : List (Nat × Instr × Nat) := [(0, .aload_n 0, 1), (1, .getfield 11, 3), (4, .iconst 0, 1), (5, .iload_n 1, 1), (6, .iadd, 1), (7, .iconst 0, 1), (8, .iastore, 1), (9, .aload_n 0, 1), (10, .getfield 11, 3), (13, .bipush 7, 2), (15, .iload_n 1, 1), (16, .iadd, 1), (17, .iconst (-1), 1), (18, .iastore, 1), (19, .return_, 1)]
theorem dd_X0_putNowhere : ∀ e ∈ D_X0_putNowhere, decode (mtJ 28).2.1 e.1 = .ok e.2 := by decide +kernel
set_option maxRecDepth 10000 in
theorem so_X0_putNowhere : ∀ e ∈ o_X0_putNowhere, SndO 28 e.1 e.2 := by
  refine List.forall_mem_cons.mpr ⟨s_aload_n (dd_X0_putNowhere (0, .aload_n 0, 1) (List.mem_of_getElem? (i := 0) rfl)) rfl, ?_⟩
  refine List.forall_mem_cons.mpr ⟨s_getR (k := 0) K0 (by decide) (dd_X0_putNowhere (1, .getfield 11, 3) (List.mem_of_getElem? (i := 1) rfl)) ow_X0_putNowhere fl0_11 rfl, ?_⟩
  refine List.forall_mem_cons.mpr ⟨s_iconst (dd_X0_putNowhere (4, .iconst 0, 1) (List.mem_of_getElem? (i := 2) rfl)) rfl, ?_⟩
  refine List.forall_mem_cons.mpr ⟨s_iload_n (dd_X0_putNowhere (5, .iload_n 1, 1) (List.mem_of_getElem? (i := 3) rfl)) rfl, ?_⟩
  refine List.forall_mem_cons.mpr ⟨s_iadd (dd_X0_putNowhere (6, .iadd, 1) (List.mem_of_getElem? (i := 4) rfl)), ?_⟩
  refine List.forall_mem_cons.mpr ⟨s_iconst (dd_X0_putNowhere (7, .iconst 0, 1) (List.mem_of_getElem? (i := 5) rfl)) rfl, ?_⟩
  refine List.forall_mem_cons.mpr ⟨s_iast (dd_X0_putNowhere (8, .iastore, 1) (List.mem_of_getElem? (i := 6) rfl)), ?_⟩
  refine List.forall_mem_cons.mpr ⟨s_aload_n (dd_X0_putNowhere (9, .aload_n 0, 1) (List.mem_of_getElem? (i := 7) rfl)) rfl, ?_⟩
  refine List.forall_mem_cons.mpr ⟨s_getR (k := 0) K0 (by decide) (dd_X0_putNowhere (10, .getfield 11, 3) (List.mem_of_getElem? (i := 8) rfl)) ow_X0_putNowhere fl0_11 rfl, ?_⟩
  refine List.forall_mem_cons.mpr ⟨s_bipush (dd_X0_putNowhere (13, .bipush 7, 2) (List.mem_of_getElem? (i := 9) rfl)) rfl, ?_⟩
  refine List.forall_mem_cons.mpr ⟨s_iload_n (dd_X0_putNowhere (15, .iload_n 1, 1) (List.mem_of_getElem? (i := 10) rfl)) rfl, ?_⟩
  refine List.forall_mem_cons.mpr ⟨s_iadd (dd_X0_putNowhere (16, .iadd, 1) (List.mem_of_getElem? (i := 11) rfl)), ?_⟩
  refine List.forall_mem_cons.mpr ⟨s_iconst (dd_X0_putNowhere (17, .iconst (-1), 1) (List.mem_of_getElem? (i := 12) rfl)) rfl, ?_⟩
  refine List.forall_mem_cons.mpr ⟨s_iast (dd_X0_putNowhere (18, .iastore, 1) (List.mem_of_getElem? (i := 13) rfl)), ?_⟩
  refine List.forall_mem_cons.mpr ⟨Or.inl ⟨rfl, (dd_X0_putNowhere (19, .return_, 1) (List.mem_of_getElem? (i := 14) rfl)), rfl⟩, ?_⟩
  exact fun _ h => absurd h List.not_mem_nil
theorem ow_X0_allGoHome : (mtJ 29).1.cls = "SatchelSins$Day" := rfl
def D_X0_allGoHome_1 : List (Nat × Instr × Nat) := [(0, .aload_n 0, 1), (1, .invokevirtual 100, 3), (4, .istore_n 1, 1), (5, .iconst 0, 1), (6, .istore_n 2, 1), (7, .iload_n 2, 1), (8, .aload_n 0, 1), (9, .getfield 15, 3), (12, .getfield 51, 3), (15, .if_icmp .ge 26, 3), (18, .aload_n 0, 1), (19, .getfield 11, 3), (22, .bipush 14, 2), (24, .iload_n 2, 1), (25, .iadd, 1), (26, .dup2, 1), (27, .iaload, 1), (28, .iload_n 1, 1), (29, .iload_n 2, 1), (30, .ishr, 1), (31, .iconst 1, 1), (32, .iand, 1), (33, .iadd, 1), (34, .iastore, 1), (35, .iinc 2 1, 3), (38, .goto (-31), 3), (41, .iconst 0, 1), (42, .istore_n 2, 1), (43, .iload_n 2, 1), (44, .aload_n 0, 1), (45, .getfield 15, 3), (48, .getfield 28, 3), (51, .if_icmp .ge 26, 3), (54, .aload_n 0, 1), (55, .iload_n 2, 1), (56, .invokevirtual 34, 3), (59, .ifCond .eq 12, 3), (62, .aload_n 0, 1), (63, .getfield 11, 3), (66, .iconst 0, 1), (67, .iload_n 2, 1), (68, .iadd, 1), (69, .iconst 3, 1), (70, .iastore, 1), (71, .iinc 2 1, 3), (74, .goto (-31), 3), (77, .aload_n 0, 1), (78, .getfield 11, 3), (81, .bipush 19, 2), (83, .dup2, 1), (84, .iaload, 1), (85, .iconst 1, 1), (86, .iadd, 1), (87, .iastore, 1), (88, .aload_n 0, 1), (89, .getfield 11, 3), (92, .bipush 20, 2), (94, .iconst 0, 1), (95, .iastore, 1), (96, .iload_n 1, 1)]
theorem dd_X0_allGoHome_1 : ∀ e ∈ D_X0_allGoHome_1, decode (mtJ 29).2.1 e.1 = .ok e.2 := by decide +kernel
set_option maxRecDepth 10000 in
theorem so_X0_allGoHome_1 : ∀ e ∈ o_X0_allGoHome_1, SndO 29 e.1 e.2 := by
  refine List.forall_mem_cons.mpr ⟨s_aload_n (dd_X0_allGoHome_1 (0, .aload_n 0, 1) (List.mem_of_getElem? (i := 0) rfl)) rfl, ?_⟩
  refine List.forall_mem_cons.mpr ⟨⟨s_callV (ci := 0) rfl mo11 rfl rfl (dd_X0_allGoHome_1 (1, .invokevirtual 100, 3) (List.mem_of_getElem? (i := 1) rfl)) ow_X0_allGoHome ml0_100 mi11 msl11 in_0 mn11, mo11⟩, ?_⟩
  refine List.forall_mem_cons.mpr ⟨s_istore_n (dd_X0_allGoHome_1 (4, .istore_n 1, 1) (List.mem_of_getElem? (i := 2) rfl)) rfl, ?_⟩
  refine List.forall_mem_cons.mpr ⟨s_iconst (dd_X0_allGoHome_1 (5, .iconst 0, 1) (List.mem_of_getElem? (i := 3) rfl)) rfl, ?_⟩
  refine List.forall_mem_cons.mpr ⟨s_istore_n (dd_X0_allGoHome_1 (6, .istore_n 2, 1) (List.mem_of_getElem? (i := 4) rfl)) rfl, ?_⟩
  refine List.forall_mem_cons.mpr ⟨s_iload_n (dd_X0_allGoHome_1 (7, .iload_n 2, 1) (List.mem_of_getElem? (i := 5) rfl)) rfl, ?_⟩
  refine List.forall_mem_cons.mpr ⟨s_aload_n (dd_X0_allGoHome_1 (8, .aload_n 0, 1) (List.mem_of_getElem? (i := 6) rfl)) rfl, ?_⟩
  refine List.forall_mem_cons.mpr ⟨s_getR (k := 1) K0 (by decide) (dd_X0_allGoHome_1 (9, .getfield 15, 3) (List.mem_of_getElem? (i := 7) rfl)) ow_X0_allGoHome fl0_15 rfl, ?_⟩
  refine List.forall_mem_cons.mpr ⟨s_getI (k := 2) K5 (by decide) (dd_X0_allGoHome_1 (12, .getfield 51, 3) (List.mem_of_getElem? (i := 8) rfl)) ow_X0_allGoHome fl0_51 rfl, ?_⟩
  refine List.forall_mem_cons.mpr ⟨s_icmp_ge (dd_X0_allGoHome_1 (15, .if_icmp .ge 26, 3) (List.mem_of_getElem? (i := 9) rfl)) (by decide), ?_⟩
  refine List.forall_mem_cons.mpr ⟨s_aload_n (dd_X0_allGoHome_1 (18, .aload_n 0, 1) (List.mem_of_getElem? (i := 10) rfl)) rfl, ?_⟩
  refine List.forall_mem_cons.mpr ⟨s_getR (k := 0) K0 (by decide) (dd_X0_allGoHome_1 (19, .getfield 11, 3) (List.mem_of_getElem? (i := 11) rfl)) ow_X0_allGoHome fl0_11 rfl, ?_⟩
  refine List.forall_mem_cons.mpr ⟨s_bipush (dd_X0_allGoHome_1 (22, .bipush 14, 2) (List.mem_of_getElem? (i := 12) rfl)) rfl, ?_⟩
  refine List.forall_mem_cons.mpr ⟨s_iload_n (dd_X0_allGoHome_1 (24, .iload_n 2, 1) (List.mem_of_getElem? (i := 13) rfl)) rfl, ?_⟩
  refine List.forall_mem_cons.mpr ⟨s_iadd (dd_X0_allGoHome_1 (25, .iadd, 1) (List.mem_of_getElem? (i := 14) rfl)), ?_⟩
  refine List.forall_mem_cons.mpr ⟨s_dup2 (dd_X0_allGoHome_1 (26, .dup2, 1) (List.mem_of_getElem? (i := 15) rfl)), ?_⟩
  refine List.forall_mem_cons.mpr ⟨s_iald (dd_X0_allGoHome_1 (27, .iaload, 1) (List.mem_of_getElem? (i := 16) rfl)), ?_⟩
  refine List.forall_mem_cons.mpr ⟨s_iload_n (dd_X0_allGoHome_1 (28, .iload_n 1, 1) (List.mem_of_getElem? (i := 17) rfl)) rfl, ?_⟩
  refine List.forall_mem_cons.mpr ⟨s_iload_n (dd_X0_allGoHome_1 (29, .iload_n 2, 1) (List.mem_of_getElem? (i := 18) rfl)) rfl, ?_⟩
  refine List.forall_mem_cons.mpr ⟨s_ishr (dd_X0_allGoHome_1 (30, .ishr, 1) (List.mem_of_getElem? (i := 19) rfl)), ?_⟩
  refine List.forall_mem_cons.mpr ⟨s_iconst (dd_X0_allGoHome_1 (31, .iconst 1, 1) (List.mem_of_getElem? (i := 20) rfl)) rfl, ?_⟩
  refine List.forall_mem_cons.mpr ⟨s_iand (dd_X0_allGoHome_1 (32, .iand, 1) (List.mem_of_getElem? (i := 21) rfl)), ?_⟩
  refine List.forall_mem_cons.mpr ⟨s_iadd (dd_X0_allGoHome_1 (33, .iadd, 1) (List.mem_of_getElem? (i := 22) rfl)), ?_⟩
  refine List.forall_mem_cons.mpr ⟨s_iast (dd_X0_allGoHome_1 (34, .iastore, 1) (List.mem_of_getElem? (i := 23) rfl)), ?_⟩
  refine List.forall_mem_cons.mpr ⟨s_iinc (dd_X0_allGoHome_1 (35, .iinc 2 1, 3) (List.mem_of_getElem? (i := 24) rfl)) rfl, ?_⟩
  refine List.forall_mem_cons.mpr ⟨s_goto (dd_X0_allGoHome_1 (38, .goto (-31), 3) (List.mem_of_getElem? (i := 25) rfl)) (by decide), ?_⟩
  refine List.forall_mem_cons.mpr ⟨s_iconst (dd_X0_allGoHome_1 (41, .iconst 0, 1) (List.mem_of_getElem? (i := 26) rfl)) rfl, ?_⟩
  refine List.forall_mem_cons.mpr ⟨s_istore_n (dd_X0_allGoHome_1 (42, .istore_n 2, 1) (List.mem_of_getElem? (i := 27) rfl)) rfl, ?_⟩
  refine List.forall_mem_cons.mpr ⟨s_iload_n (dd_X0_allGoHome_1 (43, .iload_n 2, 1) (List.mem_of_getElem? (i := 28) rfl)) rfl, ?_⟩
  refine List.forall_mem_cons.mpr ⟨s_aload_n (dd_X0_allGoHome_1 (44, .aload_n 0, 1) (List.mem_of_getElem? (i := 29) rfl)) rfl, ?_⟩
  refine List.forall_mem_cons.mpr ⟨s_getR (k := 1) K0 (by decide) (dd_X0_allGoHome_1 (45, .getfield 15, 3) (List.mem_of_getElem? (i := 30) rfl)) ow_X0_allGoHome fl0_15 rfl, ?_⟩
  refine List.forall_mem_cons.mpr ⟨s_getI (k := 3) K5 (by decide) (dd_X0_allGoHome_1 (48, .getfield 28, 3) (List.mem_of_getElem? (i := 31) rfl)) ow_X0_allGoHome fl0_28 rfl, ?_⟩
  refine List.forall_mem_cons.mpr ⟨s_icmp_ge (dd_X0_allGoHome_1 (51, .if_icmp .ge 26, 3) (List.mem_of_getElem? (i := 32) rfl)) (by decide), ?_⟩
  refine List.forall_mem_cons.mpr ⟨s_aload_n (dd_X0_allGoHome_1 (54, .aload_n 0, 1) (List.mem_of_getElem? (i := 33) rfl)) rfl, ?_⟩
  refine List.forall_mem_cons.mpr ⟨s_iload_n (dd_X0_allGoHome_1 (55, .iload_n 2, 1) (List.mem_of_getElem? (i := 34) rfl)) rfl, ?_⟩
  refine List.forall_mem_cons.mpr ⟨⟨s_callV (ci := 0) rfl mo8 rfl rfl (dd_X0_allGoHome_1 (56, .invokevirtual 34, 3) (List.mem_of_getElem? (i := 35) rfl)) ow_X0_allGoHome ml0_34 mi8 msl8 in_0 mn8, mo8⟩, ?_⟩
  refine List.forall_mem_cons.mpr ⟨s_if_eq (dd_X0_allGoHome_1 (59, .ifCond .eq 12, 3) (List.mem_of_getElem? (i := 36) rfl)) (by decide), ?_⟩
  refine List.forall_mem_cons.mpr ⟨s_aload_n (dd_X0_allGoHome_1 (62, .aload_n 0, 1) (List.mem_of_getElem? (i := 37) rfl)) rfl, ?_⟩
  refine List.forall_mem_cons.mpr ⟨s_getR (k := 0) K0 (by decide) (dd_X0_allGoHome_1 (63, .getfield 11, 3) (List.mem_of_getElem? (i := 38) rfl)) ow_X0_allGoHome fl0_11 rfl, ?_⟩
  refine List.forall_mem_cons.mpr ⟨s_iconst (dd_X0_allGoHome_1 (66, .iconst 0, 1) (List.mem_of_getElem? (i := 39) rfl)) rfl, ?_⟩
  refine List.forall_mem_cons.mpr ⟨s_iload_n (dd_X0_allGoHome_1 (67, .iload_n 2, 1) (List.mem_of_getElem? (i := 40) rfl)) rfl, ?_⟩
  refine List.forall_mem_cons.mpr ⟨s_iadd (dd_X0_allGoHome_1 (68, .iadd, 1) (List.mem_of_getElem? (i := 41) rfl)), ?_⟩
  refine List.forall_mem_cons.mpr ⟨s_iconst (dd_X0_allGoHome_1 (69, .iconst 3, 1) (List.mem_of_getElem? (i := 42) rfl)) rfl, ?_⟩
  refine List.forall_mem_cons.mpr ⟨s_iast (dd_X0_allGoHome_1 (70, .iastore, 1) (List.mem_of_getElem? (i := 43) rfl)), ?_⟩
  refine List.forall_mem_cons.mpr ⟨s_iinc (dd_X0_allGoHome_1 (71, .iinc 2 1, 3) (List.mem_of_getElem? (i := 44) rfl)) rfl, ?_⟩
  refine List.forall_mem_cons.mpr ⟨s_goto (dd_X0_allGoHome_1 (74, .goto (-31), 3) (List.mem_of_getElem? (i := 45) rfl)) (by decide), ?_⟩
  refine List.forall_mem_cons.mpr ⟨s_aload_n (dd_X0_allGoHome_1 (77, .aload_n 0, 1) (List.mem_of_getElem? (i := 46) rfl)) rfl, ?_⟩
  refine List.forall_mem_cons.mpr ⟨s_getR (k := 0) K0 (by decide) (dd_X0_allGoHome_1 (78, .getfield 11, 3) (List.mem_of_getElem? (i := 47) rfl)) ow_X0_allGoHome fl0_11 rfl, ?_⟩
  refine List.forall_mem_cons.mpr ⟨s_bipush (dd_X0_allGoHome_1 (81, .bipush 19, 2) (List.mem_of_getElem? (i := 48) rfl)) rfl, ?_⟩
  refine List.forall_mem_cons.mpr ⟨s_dup2 (dd_X0_allGoHome_1 (83, .dup2, 1) (List.mem_of_getElem? (i := 49) rfl)), ?_⟩
  refine List.forall_mem_cons.mpr ⟨s_iald (dd_X0_allGoHome_1 (84, .iaload, 1) (List.mem_of_getElem? (i := 50) rfl)), ?_⟩
  refine List.forall_mem_cons.mpr ⟨s_iconst (dd_X0_allGoHome_1 (85, .iconst 1, 1) (List.mem_of_getElem? (i := 51) rfl)) rfl, ?_⟩
  refine List.forall_mem_cons.mpr ⟨s_iadd (dd_X0_allGoHome_1 (86, .iadd, 1) (List.mem_of_getElem? (i := 52) rfl)), ?_⟩
  refine List.forall_mem_cons.mpr ⟨s_iast (dd_X0_allGoHome_1 (87, .iastore, 1) (List.mem_of_getElem? (i := 53) rfl)), ?_⟩
  refine List.forall_mem_cons.mpr ⟨s_aload_n (dd_X0_allGoHome_1 (88, .aload_n 0, 1) (List.mem_of_getElem? (i := 54) rfl)) rfl, ?_⟩
  refine List.forall_mem_cons.mpr ⟨s_getR (k := 0) K0 (by decide) (dd_X0_allGoHome_1 (89, .getfield 11, 3) (List.mem_of_getElem? (i := 55) rfl)) ow_X0_allGoHome fl0_11 rfl, ?_⟩
  refine List.forall_mem_cons.mpr ⟨s_bipush (dd_X0_allGoHome_1 (92, .bipush 20, 2) (List.mem_of_getElem? (i := 56) rfl)) rfl, ?_⟩
  refine List.forall_mem_cons.mpr ⟨s_iconst (dd_X0_allGoHome_1 (94, .iconst 0, 1) (List.mem_of_getElem? (i := 57) rfl)) rfl, ?_⟩
  refine List.forall_mem_cons.mpr ⟨s_iast (dd_X0_allGoHome_1 (95, .iastore, 1) (List.mem_of_getElem? (i := 58) rfl)), ?_⟩
  refine List.forall_mem_cons.mpr ⟨s_iload_n (dd_X0_allGoHome_1 (96, .iload_n 1, 1) (List.mem_of_getElem? (i := 59) rfl)) rfl, ?_⟩
  exact fun _ h => absurd h List.not_mem_nil
def D_X0_allGoHome_2 : List (Nat × Instr × Nat) := [(97, .ireturn, 1)]
theorem dd_X0_allGoHome_2 : ∀ e ∈ D_X0_allGoHome_2, decode (mtJ 29).2.1 e.1 = .ok e.2 := by decide +kernel
set_option maxRecDepth 10000 in
theorem so_X0_allGoHome_2 : ∀ e ∈ o_X0_allGoHome_2, SndO 29 e.1 e.2 := by
  refine List.forall_mem_cons.mpr ⟨Or.inr (Or.inl ⟨rfl, (dd_X0_allGoHome_2 (97, .ireturn, 1) (List.mem_of_getElem? (i := 0) rfl)), rfl⟩), ?_⟩
  exact fun _ h => absurd h List.not_mem_nil
theorem so_X0_allGoHome : ∀ e ∈ o_X0_allGoHome, SndO 29 e.1 e.2 := List.forall_mem_append.mpr ⟨so_X0_allGoHome_1, so_X0_allGoHome_2⟩
theorem ow_X1_init : (mtJ 30).1.cls = "SatchelSins$Image" := rfl
def D_X1_init : List (Nat × Instr × Nat) := [(0, .aload_n 0, 1), (1, .invokespecial 1, 3), (4, .aload_n 0, 1), (5, .bipush 22, 2), (7, .newarray .int, 2), (9, .putfield 9, 3), (12, .return_, 1)]
theorem dd_X1_init : ∀ e ∈ D_X1_init, decode (mtJ 30).2.1 e.1 = .ok e.2 := by decide +kernel
set_option maxRecDepth 10000 in
theorem so_X1_init : ∀ e ∈ o_X1_init, SndO 30 e.1 e.2 := by
  refine List.forall_mem_cons.mpr ⟨s_aload_n (dd_X1_init (0, .aload_n 0, 1) (List.mem_of_getElem? (i := 0) rfl)) rfl, ?_⟩
  refine List.forall_mem_cons.mpr ⟨s_obj (dd_X1_init (1, .invokespecial 1, 3) (List.mem_of_getElem? (i := 1) rfl)) ow_X1_init ml1_1 oi1 oi2, ?_⟩
  refine List.forall_mem_cons.mpr ⟨s_aload_n (dd_X1_init (4, .aload_n 0, 1) (List.mem_of_getElem? (i := 2) rfl)) rfl, ?_⟩
  refine List.forall_mem_cons.mpr ⟨s_bipush (dd_X1_init (5, .bipush 22, 2) (List.mem_of_getElem? (i := 3) rfl)) rfl, ?_⟩
  refine List.forall_mem_cons.mpr ⟨s_newI (dd_X1_init (7, .newarray .int, 2) (List.mem_of_getElem? (i := 4) rfl)) ac1, ?_⟩
  refine List.forall_mem_cons.mpr ⟨s_putR (k := 0) K1 (by decide) (dd_X1_init (9, .putfield 9, 3) (List.mem_of_getElem? (i := 5) rfl)) ow_X1_init fl1_9 (Or.inr ⟨rfl, rfl, rfl⟩) rfl (fun _ => rfl) (fun _ => rfl), ?_⟩
  refine List.forall_mem_cons.mpr ⟨Or.inl ⟨rfl, (dd_X1_init (12, .return_, 1) (List.mem_of_getElem? (i := 6) rfl)), rfl⟩, ?_⟩
  exact fun _ h => absurd h List.not_mem_nil
theorem ow_X1_take : (mtJ 31).1.cls = "SatchelSins$Image" := rfl
def D_X1_take : List (Nat × Instr × Nat) := [(0, .aload_n 1, 1), (1, .iconst 0, 1), (2, .aload_n 0, 1), (3, .getfield 9, 3), (6, .iconst 0, 1), (7, .bipush 22, 2), (9, .invokestatic 15, 3), (12, .aload_n 0, 1), (13, .iload_n 2, 1), (14, .putfield 21, 3), (17, .aload_n 0, 1), (18, .iconst 1, 1), (19, .putfield 25, 3), (22, .return_, 1)]
theorem dd_X1_take : ∀ e ∈ D_X1_take, decode (mtJ 31).2.1 e.1 = .ok e.2 := by decide +kernel
set_option maxRecDepth 10000 in
theorem so_X1_take : ∀ e ∈ o_X1_take, SndO 31 e.1 e.2 := by
  refine List.forall_mem_cons.mpr ⟨s_aload_n (dd_X1_take (0, .aload_n 1, 1) (List.mem_of_getElem? (i := 0) rfl)) rfl, ?_⟩
  refine List.forall_mem_cons.mpr ⟨s_iconst (dd_X1_take (1, .iconst 0, 1) (List.mem_of_getElem? (i := 1) rfl)) rfl, ?_⟩
  refine List.forall_mem_cons.mpr ⟨s_aload_n (dd_X1_take (2, .aload_n 0, 1) (List.mem_of_getElem? (i := 2) rfl)) rfl, ?_⟩
  refine List.forall_mem_cons.mpr ⟨s_getR (k := 0) K1 (by decide) (dd_X1_take (3, .getfield 9, 3) (List.mem_of_getElem? (i := 3) rfl)) ow_X1_take fl1_9 rfl, ?_⟩
  refine List.forall_mem_cons.mpr ⟨s_iconst (dd_X1_take (6, .iconst 0, 1) (List.mem_of_getElem? (i := 4) rfl)) rfl, ?_⟩
  refine List.forall_mem_cons.mpr ⟨s_bipush (dd_X1_take (7, .bipush 22, 2) (List.mem_of_getElem? (i := 5) rfl)) rfl, ?_⟩
  refine List.forall_mem_cons.mpr ⟨s_copy (dd_X1_take (9, .invokestatic 15, 3) (List.mem_of_getElem? (i := 6) rfl)) ow_X1_take ml1_15 cp1 cp2 cp3, ?_⟩
  refine List.forall_mem_cons.mpr ⟨s_aload_n (dd_X1_take (12, .aload_n 0, 1) (List.mem_of_getElem? (i := 7) rfl)) rfl, ?_⟩
  refine List.forall_mem_cons.mpr ⟨s_iload_n (dd_X1_take (13, .iload_n 2, 1) (List.mem_of_getElem? (i := 8) rfl)) rfl, ?_⟩
  refine List.forall_mem_cons.mpr ⟨s_putI (k := 1) K1 (by decide) (dd_X1_take (14, .putfield 21, 3) (List.mem_of_getElem? (i := 9) rfl)) ow_X1_take fl1_21 (Or.inl rfl) rfl, ?_⟩
  refine List.forall_mem_cons.mpr ⟨s_aload_n (dd_X1_take (17, .aload_n 0, 1) (List.mem_of_getElem? (i := 10) rfl)) rfl, ?_⟩
  refine List.forall_mem_cons.mpr ⟨s_iconst (dd_X1_take (18, .iconst 1, 1) (List.mem_of_getElem? (i := 11) rfl)) rfl, ?_⟩
  refine List.forall_mem_cons.mpr ⟨s_putZ (k := 2) K1 (by decide) (dd_X1_take (19, .putfield 25, 3) (List.mem_of_getElem? (i := 12) rfl)) ow_X1_take fl1_25 (Or.inl rfl) rfl, ?_⟩
  refine List.forall_mem_cons.mpr ⟨Or.inl ⟨rfl, (dd_X1_take (22, .return_, 1) (List.mem_of_getElem? (i := 13) rfl)), rfl⟩, ?_⟩
  exact fun _ h => absurd h List.not_mem_nil
theorem ow_X1_giveTo : (mtJ 32).1.cls = "SatchelSins$Image" := rfl
def D_X1_giveTo : List (Nat × Instr × Nat) := [(0, .aload_n 0, 1), (1, .getfield 9, 3), (4, .iconst 0, 1), (5, .aload_n 1, 1), (6, .iconst 0, 1), (7, .bipush 22, 2), (9, .invokestatic 15, 3), (12, .return_, 1)]
theorem dd_X1_giveTo : ∀ e ∈ D_X1_giveTo, decode (mtJ 32).2.1 e.1 = .ok e.2 := by decide +kernel
set_option maxRecDepth 10000 in
theorem so_X1_giveTo : ∀ e ∈ o_X1_giveTo, SndO 32 e.1 e.2 := by
  refine List.forall_mem_cons.mpr ⟨s_aload_n (dd_X1_giveTo (0, .aload_n 0, 1) (List.mem_of_getElem? (i := 0) rfl)) rfl, ?_⟩
  refine List.forall_mem_cons.mpr ⟨s_getR (k := 0) K1 (by decide) (dd_X1_giveTo (1, .getfield 9, 3) (List.mem_of_getElem? (i := 1) rfl)) ow_X1_giveTo fl1_9 rfl, ?_⟩
  refine List.forall_mem_cons.mpr ⟨s_iconst (dd_X1_giveTo (4, .iconst 0, 1) (List.mem_of_getElem? (i := 2) rfl)) rfl, ?_⟩
  refine List.forall_mem_cons.mpr ⟨s_aload_n (dd_X1_giveTo (5, .aload_n 1, 1) (List.mem_of_getElem? (i := 3) rfl)) rfl, ?_⟩
  refine List.forall_mem_cons.mpr ⟨s_iconst (dd_X1_giveTo (6, .iconst 0, 1) (List.mem_of_getElem? (i := 4) rfl)) rfl, ?_⟩
  refine List.forall_mem_cons.mpr ⟨s_bipush (dd_X1_giveTo (7, .bipush 22, 2) (List.mem_of_getElem? (i := 5) rfl)) rfl, ?_⟩
  refine List.forall_mem_cons.mpr ⟨s_copy (dd_X1_giveTo (9, .invokestatic 15, 3) (List.mem_of_getElem? (i := 6) rfl)) ow_X1_giveTo ml1_15 cp1 cp2 cp3, ?_⟩
  refine List.forall_mem_cons.mpr ⟨Or.inl ⟨rfl, (dd_X1_giveTo (12, .return_, 1) (List.mem_of_getElem? (i := 7) rfl)), rfl⟩, ?_⟩
  exact fun _ h => absurd h List.not_mem_nil
theorem ow_X2_init : (mtJ 33).1.cls = "SatchelSins$Packing" := rfl
def D_X2_init : List (Nat × Instr × Nat) := [(0, .aload_n 0, 1), (1, .invokespecial 3, 3), (4, .aload_n 0, 1), (5, .bipush 7, 2), (7, .newarray .int, 2), (9, .putfield 9, 3), (12, .aload_n 0, 1), (13, .bipush 7, 2), (15, .newarray .int, 2), (17, .putfield 15, 3), (20, .aload_n 0, 1), (21, .bipush 7, 2), (23, .newarray .int, 2), (25, .putfield 18, 3), (28, .aload_n 0, 1), (29, .iconst 5, 1), (30, .newarray .int, 2), (32, .putfield 21, 3), (35, .aload_n 0, 1), (36, .aload_n 1, 1), (37, .putfield 24, 3), (40, .aload_n 0, 1), (41, .aload_n 2, 1), (42, .putfield 28, 3), (45, .aload_n 0, 1), (46, .iload_n 3, 1), (47, .putfield 32, 3), (50, .return_, 1)]
theorem dd_X2_init : ∀ e ∈ D_X2_init, decode (mtJ 33).2.1 e.1 = .ok e.2 := by decide +kernel
set_option maxRecDepth 10000 in
theorem so_X2_init : ∀ e ∈ o_X2_init, SndO 33 e.1 e.2 := by
  refine List.forall_mem_cons.mpr ⟨s_aload_n (dd_X2_init (0, .aload_n 0, 1) (List.mem_of_getElem? (i := 0) rfl)) rfl, ?_⟩
  refine List.forall_mem_cons.mpr ⟨s_obj (dd_X2_init (1, .invokespecial 3, 3) (List.mem_of_getElem? (i := 1) rfl)) ow_X2_init ml2_3 oi1 oi2, ?_⟩
  refine List.forall_mem_cons.mpr ⟨s_aload_n (dd_X2_init (4, .aload_n 0, 1) (List.mem_of_getElem? (i := 2) rfl)) rfl, ?_⟩
  refine List.forall_mem_cons.mpr ⟨s_bipush (dd_X2_init (5, .bipush 7, 2) (List.mem_of_getElem? (i := 3) rfl)) rfl, ?_⟩
  refine List.forall_mem_cons.mpr ⟨s_newI (dd_X2_init (7, .newarray .int, 2) (List.mem_of_getElem? (i := 4) rfl)) ac1, ?_⟩
  refine List.forall_mem_cons.mpr ⟨s_putR (k := 3) K2 (by decide) (dd_X2_init (9, .putfield 9, 3) (List.mem_of_getElem? (i := 5) rfl)) ow_X2_init fl2_9 (Or.inr ⟨rfl, rfl, rfl⟩) rfl (fun _ => rfl) (fun _ => rfl), ?_⟩
  refine List.forall_mem_cons.mpr ⟨s_aload_n (dd_X2_init (12, .aload_n 0, 1) (List.mem_of_getElem? (i := 6) rfl)) rfl, ?_⟩
  refine List.forall_mem_cons.mpr ⟨s_bipush (dd_X2_init (13, .bipush 7, 2) (List.mem_of_getElem? (i := 7) rfl)) rfl, ?_⟩
  refine List.forall_mem_cons.mpr ⟨s_newI (dd_X2_init (15, .newarray .int, 2) (List.mem_of_getElem? (i := 8) rfl)) ac1, ?_⟩
  refine List.forall_mem_cons.mpr ⟨s_putR (k := 4) K2 (by decide) (dd_X2_init (17, .putfield 15, 3) (List.mem_of_getElem? (i := 9) rfl)) ow_X2_init fl2_15 (Or.inr ⟨rfl, rfl, rfl⟩) rfl (fun _ => rfl) (fun _ => rfl), ?_⟩
  refine List.forall_mem_cons.mpr ⟨s_aload_n (dd_X2_init (20, .aload_n 0, 1) (List.mem_of_getElem? (i := 10) rfl)) rfl, ?_⟩
  refine List.forall_mem_cons.mpr ⟨s_bipush (dd_X2_init (21, .bipush 7, 2) (List.mem_of_getElem? (i := 11) rfl)) rfl, ?_⟩
  refine List.forall_mem_cons.mpr ⟨s_newI (dd_X2_init (23, .newarray .int, 2) (List.mem_of_getElem? (i := 12) rfl)) ac1, ?_⟩
  refine List.forall_mem_cons.mpr ⟨s_putR (k := 5) K2 (by decide) (dd_X2_init (25, .putfield 18, 3) (List.mem_of_getElem? (i := 13) rfl)) ow_X2_init fl2_18 (Or.inr ⟨rfl, rfl, rfl⟩) rfl (fun _ => rfl) (fun _ => rfl), ?_⟩
  refine List.forall_mem_cons.mpr ⟨s_aload_n (dd_X2_init (28, .aload_n 0, 1) (List.mem_of_getElem? (i := 14) rfl)) rfl, ?_⟩
  refine List.forall_mem_cons.mpr ⟨s_iconst (dd_X2_init (29, .iconst 5, 1) (List.mem_of_getElem? (i := 15) rfl)) rfl, ?_⟩
  refine List.forall_mem_cons.mpr ⟨s_newI (dd_X2_init (30, .newarray .int, 2) (List.mem_of_getElem? (i := 16) rfl)) ac1, ?_⟩
  refine List.forall_mem_cons.mpr ⟨s_putR (k := 6) K2 (by decide) (dd_X2_init (32, .putfield 21, 3) (List.mem_of_getElem? (i := 17) rfl)) ow_X2_init fl2_21 (Or.inr ⟨rfl, rfl, rfl⟩) rfl (fun _ => rfl) (fun _ => rfl), ?_⟩
  refine List.forall_mem_cons.mpr ⟨s_aload_n (dd_X2_init (35, .aload_n 0, 1) (List.mem_of_getElem? (i := 18) rfl)) rfl, ?_⟩
  refine List.forall_mem_cons.mpr ⟨s_aload_n (dd_X2_init (36, .aload_n 1, 1) (List.mem_of_getElem? (i := 19) rfl)) rfl, ?_⟩
  refine List.forall_mem_cons.mpr ⟨s_putR (k := 0) K2 (by decide) (dd_X2_init (37, .putfield 24, 3) (List.mem_of_getElem? (i := 20) rfl)) ow_X2_init fl2_24 (Or.inr ⟨rfl, rfl, rfl⟩) rfl (fun _ => rfl) (fun _ => rfl), ?_⟩
  refine List.forall_mem_cons.mpr ⟨s_aload_n (dd_X2_init (40, .aload_n 0, 1) (List.mem_of_getElem? (i := 21) rfl)) rfl, ?_⟩
  refine List.forall_mem_cons.mpr ⟨s_aload_n (dd_X2_init (41, .aload_n 2, 1) (List.mem_of_getElem? (i := 22) rfl)) rfl, ?_⟩
  refine List.forall_mem_cons.mpr ⟨s_putR (k := 1) K2 (by decide) (dd_X2_init (42, .putfield 28, 3) (List.mem_of_getElem? (i := 23) rfl)) ow_X2_init fl2_28 (Or.inr ⟨rfl, rfl, rfl⟩) rfl (fun _ => rfl) (fun _ => rfl), ?_⟩
  refine List.forall_mem_cons.mpr ⟨s_aload_n (dd_X2_init (45, .aload_n 0, 1) (List.mem_of_getElem? (i := 24) rfl)) rfl, ?_⟩
  refine List.forall_mem_cons.mpr ⟨s_iload_n (dd_X2_init (46, .iload_n 3, 1) (List.mem_of_getElem? (i := 25) rfl)) rfl, ?_⟩
  refine List.forall_mem_cons.mpr ⟨s_putZ (k := 2) K2 (by decide) (dd_X2_init (47, .putfield 32, 3) (List.mem_of_getElem? (i := 26) rfl)) ow_X2_init fl2_32 (Or.inr ⟨rfl, rfl, rfl⟩) rfl, ?_⟩
  refine List.forall_mem_cons.mpr ⟨Or.inl ⟨rfl, (dd_X2_init (50, .return_, 1) (List.mem_of_getElem? (i := 27) rfl)), rfl⟩, ?_⟩
  exact fun _ h => absurd h List.not_mem_nil
theorem ow_X2_forget : (mtJ 34).1.cls = "SatchelSins$Packing" := rfl
def D_X2_forget : List (Nat × Instr × Nat) := [(0, .aload_n 0, 1), (1, .iconst 0, 1), (2, .putfield 36, 3), (5, .return_, 1)]
theorem dd_X2_forget : ∀ e ∈ D_X2_forget, decode (mtJ 34).2.1 e.1 = .ok e.2 := by decide +kernel
set_option maxRecDepth 10000 in
theorem so_X2_forget : ∀ e ∈ o_X2_forget, SndO 34 e.1 e.2 := by
  refine List.forall_mem_cons.mpr ⟨s_aload_n (dd_X2_forget (0, .aload_n 0, 1) (List.mem_of_getElem? (i := 0) rfl)) rfl, ?_⟩
  refine List.forall_mem_cons.mpr ⟨s_iconst (dd_X2_forget (1, .iconst 0, 1) (List.mem_of_getElem? (i := 1) rfl)) rfl, ?_⟩
  refine List.forall_mem_cons.mpr ⟨s_putZ (k := 9) K2 (by decide) (dd_X2_forget (2, .putfield 36, 3) (List.mem_of_getElem? (i := 2) rfl)) ow_X2_forget fl2_36 (Or.inl rfl) rfl, ?_⟩
  refine List.forall_mem_cons.mpr ⟨Or.inl ⟨rfl, (dd_X2_forget (5, .return_, 1) (List.mem_of_getElem? (i := 3) rfl)), rfl⟩, ?_⟩
  exact fun _ h => absurd h List.not_mem_nil
theorem ow_X2_leastCost : (mtJ 35).1.cls = "SatchelSins$Packing" := rfl
def D_X2_leastCost : List (Nat × Instr × Nat) := [(0, .aload_n 0, 1), (1, .invokevirtual 39, 3), (4, .aload_n 0, 1), (5, .getfield 42, 3), (8, .sipush 1000, 3), (11, .if_icmp .ge 10, 3), (14, .aload_n 0, 1), (15, .getfield 42, 3), (18, .goto 4, 3), (21, .iconst (-1), 1), (22, .ireturn, 1)]
theorem dd_X2_leastCost : ∀ e ∈ D_X2_leastCost, decode (mtJ 35).2.1 e.1 = .ok e.2 := by decide +kernel
set_option maxRecDepth 10000 in
theorem so_X2_leastCost : ∀ e ∈ o_X2_leastCost, SndO 35 e.1 e.2 := by
  refine List.forall_mem_cons.mpr ⟨s_aload_n (dd_X2_leastCost (0, .aload_n 0, 1) (List.mem_of_getElem? (i := 0) rfl)) rfl, ?_⟩
  refine List.forall_mem_cons.mpr ⟨⟨s_callV (ci := 2) rfl mo37 rfl rfl (dd_X2_leastCost (1, .invokevirtual 39, 3) (List.mem_of_getElem? (i := 1) rfl)) ow_X2_leastCost ml2_39 mi37 msl37 in_2 mn37, mo37⟩, ?_⟩
  refine List.forall_mem_cons.mpr ⟨s_aload_n (dd_X2_leastCost (4, .aload_n 0, 1) (List.mem_of_getElem? (i := 2) rfl)) rfl, ?_⟩
  refine List.forall_mem_cons.mpr ⟨s_getI (k := 7) K2 (by decide) (dd_X2_leastCost (5, .getfield 42, 3) (List.mem_of_getElem? (i := 3) rfl)) ow_X2_leastCost fl2_42 rfl, ?_⟩
  refine List.forall_mem_cons.mpr ⟨s_sipush (dd_X2_leastCost (8, .sipush 1000, 3) (List.mem_of_getElem? (i := 4) rfl)) rfl, ?_⟩
  refine List.forall_mem_cons.mpr ⟨s_icmp_ge (dd_X2_leastCost (11, .if_icmp .ge 10, 3) (List.mem_of_getElem? (i := 5) rfl)) (by decide), ?_⟩
  refine List.forall_mem_cons.mpr ⟨s_aload_n (dd_X2_leastCost (14, .aload_n 0, 1) (List.mem_of_getElem? (i := 6) rfl)) rfl, ?_⟩
  refine List.forall_mem_cons.mpr ⟨s_getI (k := 7) K2 (by decide) (dd_X2_leastCost (15, .getfield 42, 3) (List.mem_of_getElem? (i := 7) rfl)) ow_X2_leastCost fl2_42 rfl, ?_⟩
  refine List.forall_mem_cons.mpr ⟨s_goto (dd_X2_leastCost (18, .goto 4, 3) (List.mem_of_getElem? (i := 8) rfl)) (by decide), ?_⟩
  refine List.forall_mem_cons.mpr ⟨s_iconst (dd_X2_leastCost (21, .iconst (-1), 1) (List.mem_of_getElem? (i := 9) rfl)) rfl, ?_⟩
  refine List.forall_mem_cons.mpr ⟨Or.inr (Or.inl ⟨rfl, (dd_X2_leastCost (22, .ireturn, 1) (List.mem_of_getElem? (i := 10) rfl)), rfl⟩), ?_⟩
  exact fun _ h => absurd h List.not_mem_nil
theorem ow_X2_childFor : (mtJ 36).1.cls = "SatchelSins$Packing" := rfl
def D_X2_childFor : List (Nat × Instr × Nat) := [(0, .aload_n 0, 1), (1, .invokevirtual 39, 3), (4, .aload_n 0, 1), (5, .getfield 18, 3), (8, .iload_n 1, 1), (9, .iaload, 1), (10, .ireturn, 1)]
theorem dd_X2_childFor : ∀ e ∈ D_X2_childFor, decode (mtJ 36).2.1 e.1 = .ok e.2 := by decide +kernel
set_option maxRecDepth 10000 in
theorem so_X2_childFor : ∀ e ∈ o_X2_childFor, SndO 36 e.1 e.2 := by
  refine List.forall_mem_cons.mpr ⟨s_aload_n (dd_X2_childFor (0, .aload_n 0, 1) (List.mem_of_getElem? (i := 0) rfl)) rfl, ?_⟩
  refine List.forall_mem_cons.mpr ⟨⟨s_callV (ci := 2) rfl mo37 rfl rfl (dd_X2_childFor (1, .invokevirtual 39, 3) (List.mem_of_getElem? (i := 1) rfl)) ow_X2_childFor ml2_39 mi37 msl37 in_2 mn37, mo37⟩, ?_⟩
  refine List.forall_mem_cons.mpr ⟨s_aload_n (dd_X2_childFor (4, .aload_n 0, 1) (List.mem_of_getElem? (i := 2) rfl)) rfl, ?_⟩
  refine List.forall_mem_cons.mpr ⟨s_getR (k := 5) K2 (by decide) (dd_X2_childFor (5, .getfield 18, 3) (List.mem_of_getElem? (i := 3) rfl)) ow_X2_childFor fl2_18 rfl, ?_⟩
  refine List.forall_mem_cons.mpr ⟨s_iload_n (dd_X2_childFor (8, .iload_n 1, 1) (List.mem_of_getElem? (i := 4) rfl)) rfl, ?_⟩
  refine List.forall_mem_cons.mpr ⟨s_iald (dd_X2_childFor (9, .iaload, 1) (List.mem_of_getElem? (i := 5) rfl)), ?_⟩
  refine List.forall_mem_cons.mpr ⟨Or.inr (Or.inl ⟨rfl, (dd_X2_childFor (10, .ireturn, 1) (List.mem_of_getElem? (i := 6) rfl)), rfl⟩), ?_⟩
  exact fun _ h => absurd h List.not_mem_nil
theorem ow_X2_solve : (mtJ 37).1.cls = "SatchelSins$Packing" := rfl
def D_X2_solve : List (Nat × Instr × Nat) := [(0, .aload_n 0, 1), (1, .getfield 36, 3), (4, .ifCond .eq 11, 3), (7, .aload_n 0, 1), (8, .invokevirtual 46, 3), (11, .ifCond .ne 4, 3), (14, .return_, 1), (15, .iconst 0, 1), (16, .istore_n 1, 1), (17, .iload_n 1, 1), (18, .bipush 7, 2), (20, .if_icmp .ge 20, 3), (23, .aload_n 0, 1), (24, .getfield 9, 3), (27, .iload_n 1, 1), (28, .aload_n 0, 1), (29, .iload_n 1, 1), (30, .invokevirtual 50, 3), (33, .iastore, 1), (34, .iinc 1 1, 3), (37, .goto (-20), 3), (40, .aload_n 0, 1), (41, .getfield 15, 3), (44, .iconst (-1), 1), (45, .invokestatic 54, 3), (48, .aload_n 0, 1), (49, .getfield 18, 3), (52, .iconst (-1), 1), (53, .invokestatic 54, 3), (56, .aload_n 0, 1), (57, .getfield 21, 3), (60, .iconst 0, 1), (61, .invokestatic 54, 3), (64, .aload_n 0, 1), (65, .sipush 1000, 3), (68, .putfield 42, 3), (71, .aload_n 0, 1), (72, .aload_n 0, 1), (73, .getfield 32, 3), (76, .ifCond .eq 10, 3), (79, .aload_n 0, 1), (80, .invokevirtual 60, 3), (83, .goto 4, 3), (86, .iconst 0, 1), (87, .putfield 64, 3), (90, .aload_n 0, 1), (91, .iconst 1, 1), (92, .putfield 36, 3), (95, .aload_n 0, 1), (96, .getfield 32, 3), (99, .ifCond .eq 13, 3), (102, .aload_n 0, 1), (103, .getfield 24, 3), (106, .getfield 67, 3), (109, .ifCond .le 9, 3), (112, .aload_n 0, 1), (113, .iconst 0, 1), (114, .iconst 0, 1), (115, .invokevirtual 72, 3), (118, .return_, 1)]
theorem dd_X2_solve : ∀ e ∈ D_X2_solve, decode (mtJ 37).2.1 e.1 = .ok e.2 := by decide +kernel
set_option maxRecDepth 10000 in
theorem so_X2_solve : ∀ e ∈ o_X2_solve, SndO 37 e.1 e.2 := by
  refine List.forall_mem_cons.mpr ⟨s_aload_n (dd_X2_solve (0, .aload_n 0, 1) (List.mem_of_getElem? (i := 0) rfl)) rfl, ?_⟩
  refine List.forall_mem_cons.mpr ⟨s_getI (k := 9) K2 (by decide) (dd_X2_solve (1, .getfield 36, 3) (List.mem_of_getElem? (i := 1) rfl)) ow_X2_solve fl2_36 rfl, ?_⟩
  refine List.forall_mem_cons.mpr ⟨s_if_eq (dd_X2_solve (4, .ifCond .eq 11, 3) (List.mem_of_getElem? (i := 2) rfl)) (by decide), ?_⟩
  refine List.forall_mem_cons.mpr ⟨s_aload_n (dd_X2_solve (7, .aload_n 0, 1) (List.mem_of_getElem? (i := 3) rfl)) rfl, ?_⟩
  refine List.forall_mem_cons.mpr ⟨⟨s_callV (ci := 2) rfl mo39 rfl rfl (dd_X2_solve (8, .invokevirtual 46, 3) (List.mem_of_getElem? (i := 4) rfl)) ow_X2_solve ml2_46 mi39 msl39 in_2 mn39, mo39⟩, ?_⟩
  refine List.forall_mem_cons.mpr ⟨s_if_ne (dd_X2_solve (11, .ifCond .ne 4, 3) (List.mem_of_getElem? (i := 5) rfl)) (by decide), ?_⟩
  refine List.forall_mem_cons.mpr ⟨Or.inl ⟨rfl, (dd_X2_solve (14, .return_, 1) (List.mem_of_getElem? (i := 6) rfl)), rfl⟩, ?_⟩
  refine List.forall_mem_cons.mpr ⟨s_iconst (dd_X2_solve (15, .iconst 0, 1) (List.mem_of_getElem? (i := 7) rfl)) rfl, ?_⟩
  refine List.forall_mem_cons.mpr ⟨s_istore_n (dd_X2_solve (16, .istore_n 1, 1) (List.mem_of_getElem? (i := 8) rfl)) rfl, ?_⟩
  refine List.forall_mem_cons.mpr ⟨s_iload_n (dd_X2_solve (17, .iload_n 1, 1) (List.mem_of_getElem? (i := 9) rfl)) rfl, ?_⟩
  refine List.forall_mem_cons.mpr ⟨s_bipush (dd_X2_solve (18, .bipush 7, 2) (List.mem_of_getElem? (i := 10) rfl)) rfl, ?_⟩
  refine List.forall_mem_cons.mpr ⟨s_icmp_ge (dd_X2_solve (20, .if_icmp .ge 20, 3) (List.mem_of_getElem? (i := 11) rfl)) (by decide), ?_⟩
  refine List.forall_mem_cons.mpr ⟨s_aload_n (dd_X2_solve (23, .aload_n 0, 1) (List.mem_of_getElem? (i := 12) rfl)) rfl, ?_⟩
  refine List.forall_mem_cons.mpr ⟨s_getR (k := 3) K2 (by decide) (dd_X2_solve (24, .getfield 9, 3) (List.mem_of_getElem? (i := 13) rfl)) ow_X2_solve fl2_9 rfl, ?_⟩
  refine List.forall_mem_cons.mpr ⟨s_iload_n (dd_X2_solve (27, .iload_n 1, 1) (List.mem_of_getElem? (i := 14) rfl)) rfl, ?_⟩
  refine List.forall_mem_cons.mpr ⟨s_aload_n (dd_X2_solve (28, .aload_n 0, 1) (List.mem_of_getElem? (i := 15) rfl)) rfl, ?_⟩
  refine List.forall_mem_cons.mpr ⟨s_iload_n (dd_X2_solve (29, .iload_n 1, 1) (List.mem_of_getElem? (i := 16) rfl)) rfl, ?_⟩
  refine List.forall_mem_cons.mpr ⟨⟨s_callV (ci := 2) rfl mo40 rfl rfl (dd_X2_solve (30, .invokevirtual 50, 3) (List.mem_of_getElem? (i := 17) rfl)) ow_X2_solve ml2_50 mi40 msl40 in_2 mn40, mo40⟩, ?_⟩
  refine List.forall_mem_cons.mpr ⟨s_iast (dd_X2_solve (33, .iastore, 1) (List.mem_of_getElem? (i := 18) rfl)), ?_⟩
  refine List.forall_mem_cons.mpr ⟨s_iinc (dd_X2_solve (34, .iinc 1 1, 3) (List.mem_of_getElem? (i := 19) rfl)) rfl, ?_⟩
  refine List.forall_mem_cons.mpr ⟨s_goto (dd_X2_solve (37, .goto (-20), 3) (List.mem_of_getElem? (i := 20) rfl)) (by decide), ?_⟩
  refine List.forall_mem_cons.mpr ⟨s_aload_n (dd_X2_solve (40, .aload_n 0, 1) (List.mem_of_getElem? (i := 21) rfl)) rfl, ?_⟩
  refine List.forall_mem_cons.mpr ⟨s_getR (k := 4) K2 (by decide) (dd_X2_solve (41, .getfield 15, 3) (List.mem_of_getElem? (i := 22) rfl)) ow_X2_solve fl2_15 rfl, ?_⟩
  refine List.forall_mem_cons.mpr ⟨s_iconst (dd_X2_solve (44, .iconst (-1), 1) (List.mem_of_getElem? (i := 23) rfl)) rfl, ?_⟩
  refine List.forall_mem_cons.mpr ⟨⟨s_callS mo186 rfl (dd_X2_solve (45, .invokestatic 54, 3) (List.mem_of_getElem? (i := 24) rfl)) ow_X2_solve ml2_54 ms186 mn186, mo186⟩, ?_⟩
  refine List.forall_mem_cons.mpr ⟨s_aload_n (dd_X2_solve (48, .aload_n 0, 1) (List.mem_of_getElem? (i := 25) rfl)) rfl, ?_⟩
  refine List.forall_mem_cons.mpr ⟨s_getR (k := 5) K2 (by decide) (dd_X2_solve (49, .getfield 18, 3) (List.mem_of_getElem? (i := 26) rfl)) ow_X2_solve fl2_18 rfl, ?_⟩
  refine List.forall_mem_cons.mpr ⟨s_iconst (dd_X2_solve (52, .iconst (-1), 1) (List.mem_of_getElem? (i := 27) rfl)) rfl, ?_⟩
  refine List.forall_mem_cons.mpr ⟨⟨s_callS mo186 rfl (dd_X2_solve (53, .invokestatic 54, 3) (List.mem_of_getElem? (i := 28) rfl)) ow_X2_solve ml2_54 ms186 mn186, mo186⟩, ?_⟩
  refine List.forall_mem_cons.mpr ⟨s_aload_n (dd_X2_solve (56, .aload_n 0, 1) (List.mem_of_getElem? (i := 29) rfl)) rfl, ?_⟩
  refine List.forall_mem_cons.mpr ⟨s_getR (k := 6) K2 (by decide) (dd_X2_solve (57, .getfield 21, 3) (List.mem_of_getElem? (i := 30) rfl)) ow_X2_solve fl2_21 rfl, ?_⟩
  refine List.forall_mem_cons.mpr ⟨s_iconst (dd_X2_solve (60, .iconst 0, 1) (List.mem_of_getElem? (i := 31) rfl)) rfl, ?_⟩
  refine List.forall_mem_cons.mpr ⟨⟨s_callS mo186 rfl (dd_X2_solve (61, .invokestatic 54, 3) (List.mem_of_getElem? (i := 32) rfl)) ow_X2_solve ml2_54 ms186 mn186, mo186⟩, ?_⟩
  refine List.forall_mem_cons.mpr ⟨s_aload_n (dd_X2_solve (64, .aload_n 0, 1) (List.mem_of_getElem? (i := 33) rfl)) rfl, ?_⟩
  refine List.forall_mem_cons.mpr ⟨s_sipush (dd_X2_solve (65, .sipush 1000, 3) (List.mem_of_getElem? (i := 34) rfl)) rfl, ?_⟩
  refine List.forall_mem_cons.mpr ⟨s_putI (k := 7) K2 (by decide) (dd_X2_solve (68, .putfield 42, 3) (List.mem_of_getElem? (i := 35) rfl)) ow_X2_solve fl2_42 (Or.inl rfl) rfl, ?_⟩
  refine List.forall_mem_cons.mpr ⟨s_aload_n (dd_X2_solve (71, .aload_n 0, 1) (List.mem_of_getElem? (i := 36) rfl)) rfl, ?_⟩
  refine List.forall_mem_cons.mpr ⟨s_aload_n (dd_X2_solve (72, .aload_n 0, 1) (List.mem_of_getElem? (i := 37) rfl)) rfl, ?_⟩
  refine List.forall_mem_cons.mpr ⟨s_getI (k := 2) K2 (by decide) (dd_X2_solve (73, .getfield 32, 3) (List.mem_of_getElem? (i := 38) rfl)) ow_X2_solve fl2_32 rfl, ?_⟩
  refine List.forall_mem_cons.mpr ⟨s_if_eq (dd_X2_solve (76, .ifCond .eq 10, 3) (List.mem_of_getElem? (i := 39) rfl)) (by decide), ?_⟩
  refine List.forall_mem_cons.mpr ⟨s_aload_n (dd_X2_solve (79, .aload_n 0, 1) (List.mem_of_getElem? (i := 40) rfl)) rfl, ?_⟩
  refine List.forall_mem_cons.mpr ⟨⟨s_callV (ci := 2) rfl mo38 rfl rfl (dd_X2_solve (80, .invokevirtual 60, 3) (List.mem_of_getElem? (i := 41) rfl)) ow_X2_solve ml2_60 mi38 msl38 in_2 mn38, mo38⟩, ?_⟩
  refine List.forall_mem_cons.mpr ⟨s_goto (dd_X2_solve (83, .goto 4, 3) (List.mem_of_getElem? (i := 42) rfl)) (by decide), ?_⟩
  refine List.forall_mem_cons.mpr ⟨s_iconst (dd_X2_solve (86, .iconst 0, 1) (List.mem_of_getElem? (i := 43) rfl)) rfl, ?_⟩
  refine List.forall_mem_cons.mpr ⟨s_putI (k := 8) K2 (by decide) (dd_X2_solve (87, .putfield 64, 3) (List.mem_of_getElem? (i := 44) rfl)) ow_X2_solve fl2_64 (Or.inl rfl) rfl, ?_⟩
  refine List.forall_mem_cons.mpr ⟨s_aload_n (dd_X2_solve (90, .aload_n 0, 1) (List.mem_of_getElem? (i := 45) rfl)) rfl, ?_⟩
  refine List.forall_mem_cons.mpr ⟨s_iconst (dd_X2_solve (91, .iconst 1, 1) (List.mem_of_getElem? (i := 46) rfl)) rfl, ?_⟩
  refine List.forall_mem_cons.mpr ⟨s_putZ (k := 9) K2 (by decide) (dd_X2_solve (92, .putfield 36, 3) (List.mem_of_getElem? (i := 47) rfl)) ow_X2_solve fl2_36 (Or.inl rfl) rfl, ?_⟩
  refine List.forall_mem_cons.mpr ⟨s_aload_n (dd_X2_solve (95, .aload_n 0, 1) (List.mem_of_getElem? (i := 48) rfl)) rfl, ?_⟩
  refine List.forall_mem_cons.mpr ⟨s_getI (k := 2) K2 (by decide) (dd_X2_solve (96, .getfield 32, 3) (List.mem_of_getElem? (i := 49) rfl)) ow_X2_solve fl2_32 rfl, ?_⟩
  refine List.forall_mem_cons.mpr ⟨s_if_eq (dd_X2_solve (99, .ifCond .eq 13, 3) (List.mem_of_getElem? (i := 50) rfl)) (by decide), ?_⟩
  refine List.forall_mem_cons.mpr ⟨s_aload_n (dd_X2_solve (102, .aload_n 0, 1) (List.mem_of_getElem? (i := 51) rfl)) rfl, ?_⟩
  refine List.forall_mem_cons.mpr ⟨s_getR (k := 0) K2 (by decide) (dd_X2_solve (103, .getfield 24, 3) (List.mem_of_getElem? (i := 52) rfl)) ow_X2_solve fl2_24 rfl, ?_⟩
  refine List.forall_mem_cons.mpr ⟨s_getI (k := 2) K5 (by decide) (dd_X2_solve (106, .getfield 67, 3) (List.mem_of_getElem? (i := 53) rfl)) ow_X2_solve fl2_67 rfl, ?_⟩
  refine List.forall_mem_cons.mpr ⟨s_if_le (dd_X2_solve (109, .ifCond .le 9, 3) (List.mem_of_getElem? (i := 54) rfl)) (by decide), ?_⟩
  refine List.forall_mem_cons.mpr ⟨s_aload_n (dd_X2_solve (112, .aload_n 0, 1) (List.mem_of_getElem? (i := 55) rfl)) rfl, ?_⟩
  refine List.forall_mem_cons.mpr ⟨s_iconst (dd_X2_solve (113, .iconst 0, 1) (List.mem_of_getElem? (i := 56) rfl)) rfl, ?_⟩
  refine List.forall_mem_cons.mpr ⟨s_iconst (dd_X2_solve (114, .iconst 0, 1) (List.mem_of_getElem? (i := 57) rfl)) rfl, ?_⟩
  refine List.forall_mem_cons.mpr ⟨⟨s_callV (ci := 2) rfl mo41 rfl rfl (dd_X2_solve (115, .invokevirtual 72, 3) (List.mem_of_getElem? (i := 58) rfl)) ow_X2_solve ml2_72 mi41 msl41 in_2 mn41, mo41⟩, ?_⟩
  refine List.forall_mem_cons.mpr ⟨Or.inl ⟨rfl, (dd_X2_solve (118, .return_, 1) (List.mem_of_getElem? (i := 59) rfl)), rfl⟩, ?_⟩
  exact fun _ h => absurd h List.not_mem_nil
theorem ow_X2_leastGreatestLoad : (mtJ 38).1.cls = "SatchelSins$Packing" := rfl
def D_X2_leastGreatestLoad : List (Nat × Instr × Nat) := [(0, .iconst 0, 1), (1, .istore_n 1, 1), (2, .iconst 0, 1), (3, .istore_n 2, 1), (4, .iconst 0, 1), (5, .istore_n 3, 1), (6, .iload_n 3, 1), (7, .aload_n 0, 1), (8, .getfield 24, 3), (11, .getfield 76, 3), (14, .if_icmp .ge 45, 3), (17, .aload_n 0, 1), (18, .getfield 9, 3), (21, .iload_n 3, 1), (22, .iaload, 1), (23, .iconst (-1), 1), (24, .if_icmp .eq 29, 3), (27, .iload_n 1, 1), (28, .aload_n 0, 1), (29, .getfield 24, 3), (32, .getfield 79, 3), (35, .iload_n 3, 1), (36, .iaload, 1), (37, .invokestatic 82, 3), (40, .istore_n 1, 1), (41, .iload_n 2, 1), (42, .aload_n 0, 1), (43, .getfield 24, 3), (46, .getfield 79, 3), (49, .iload_n 3, 1), (50, .iaload, 1), (51, .iadd, 1), (52, .istore_n 2, 1), (53, .iinc 3 1, 3), (56, .goto (-50), 3), (59, .iconst 1, 1), (60, .aload_n 0, 1), (61, .getfield 24, 3), (64, .getfield 67, 3), (67, .invokestatic 82, 3), (70, .istore_n 3, 1), (71, .iload_n 1, 1), (72, .iload_n 2, 1), (73, .iload_n 3, 1), (74, .iadd, 1), (75, .iconst 1, 1), (76, .isub, 1), (77, .iload_n 3, 1), (78, .idiv, 1), (79, .invokestatic 82, 3), (82, .ireturn, 1)]
theorem dd_X2_leastGreatestLoad : ∀ e ∈ D_X2_leastGreatestLoad, decode (mtJ 38).2.1 e.1 = .ok e.2 := by decide +kernel
set_option maxRecDepth 10000 in
theorem so_X2_leastGreatestLoad : ∀ e ∈ o_X2_leastGreatestLoad, SndO 38 e.1 e.2 := by
  refine List.forall_mem_cons.mpr ⟨s_iconst (dd_X2_leastGreatestLoad (0, .iconst 0, 1) (List.mem_of_getElem? (i := 0) rfl)) rfl, ?_⟩
  refine List.forall_mem_cons.mpr ⟨s_istore_n (dd_X2_leastGreatestLoad (1, .istore_n 1, 1) (List.mem_of_getElem? (i := 1) rfl)) rfl, ?_⟩
  refine List.forall_mem_cons.mpr ⟨s_iconst (dd_X2_leastGreatestLoad (2, .iconst 0, 1) (List.mem_of_getElem? (i := 2) rfl)) rfl, ?_⟩
  refine List.forall_mem_cons.mpr ⟨s_istore_n (dd_X2_leastGreatestLoad (3, .istore_n 2, 1) (List.mem_of_getElem? (i := 3) rfl)) rfl, ?_⟩
  refine List.forall_mem_cons.mpr ⟨s_iconst (dd_X2_leastGreatestLoad (4, .iconst 0, 1) (List.mem_of_getElem? (i := 4) rfl)) rfl, ?_⟩
  refine List.forall_mem_cons.mpr ⟨s_istore_n (dd_X2_leastGreatestLoad (5, .istore_n 3, 1) (List.mem_of_getElem? (i := 5) rfl)) rfl, ?_⟩
  refine List.forall_mem_cons.mpr ⟨s_iload_n (dd_X2_leastGreatestLoad (6, .iload_n 3, 1) (List.mem_of_getElem? (i := 6) rfl)) rfl, ?_⟩
  refine List.forall_mem_cons.mpr ⟨s_aload_n (dd_X2_leastGreatestLoad (7, .aload_n 0, 1) (List.mem_of_getElem? (i := 7) rfl)) rfl, ?_⟩
  refine List.forall_mem_cons.mpr ⟨s_getR (k := 0) K2 (by decide) (dd_X2_leastGreatestLoad (8, .getfield 24, 3) (List.mem_of_getElem? (i := 8) rfl)) ow_X2_leastGreatestLoad fl2_24 rfl, ?_⟩
  refine List.forall_mem_cons.mpr ⟨s_getI (k := 3) K5 (by decide) (dd_X2_leastGreatestLoad (11, .getfield 76, 3) (List.mem_of_getElem? (i := 9) rfl)) ow_X2_leastGreatestLoad fl2_76 rfl, ?_⟩
  refine List.forall_mem_cons.mpr ⟨s_icmp_ge (dd_X2_leastGreatestLoad (14, .if_icmp .ge 45, 3) (List.mem_of_getElem? (i := 10) rfl)) (by decide), ?_⟩
  refine List.forall_mem_cons.mpr ⟨s_aload_n (dd_X2_leastGreatestLoad (17, .aload_n 0, 1) (List.mem_of_getElem? (i := 11) rfl)) rfl, ?_⟩
  refine List.forall_mem_cons.mpr ⟨s_getR (k := 3) K2 (by decide) (dd_X2_leastGreatestLoad (18, .getfield 9, 3) (List.mem_of_getElem? (i := 12) rfl)) ow_X2_leastGreatestLoad fl2_9 rfl, ?_⟩
  refine List.forall_mem_cons.mpr ⟨s_iload_n (dd_X2_leastGreatestLoad (21, .iload_n 3, 1) (List.mem_of_getElem? (i := 13) rfl)) rfl, ?_⟩
  refine List.forall_mem_cons.mpr ⟨s_iald (dd_X2_leastGreatestLoad (22, .iaload, 1) (List.mem_of_getElem? (i := 14) rfl)), ?_⟩
  refine List.forall_mem_cons.mpr ⟨s_iconst (dd_X2_leastGreatestLoad (23, .iconst (-1), 1) (List.mem_of_getElem? (i := 15) rfl)) rfl, ?_⟩
  refine List.forall_mem_cons.mpr ⟨s_icmp_eq (dd_X2_leastGreatestLoad (24, .if_icmp .eq 29, 3) (List.mem_of_getElem? (i := 16) rfl)) (by decide), ?_⟩
  refine List.forall_mem_cons.mpr ⟨s_iload_n (dd_X2_leastGreatestLoad (27, .iload_n 1, 1) (List.mem_of_getElem? (i := 17) rfl)) rfl, ?_⟩
  refine List.forall_mem_cons.mpr ⟨s_aload_n (dd_X2_leastGreatestLoad (28, .aload_n 0, 1) (List.mem_of_getElem? (i := 18) rfl)) rfl, ?_⟩
  refine List.forall_mem_cons.mpr ⟨s_getR (k := 0) K2 (by decide) (dd_X2_leastGreatestLoad (29, .getfield 24, 3) (List.mem_of_getElem? (i := 19) rfl)) ow_X2_leastGreatestLoad fl2_24 rfl, ?_⟩
  refine List.forall_mem_cons.mpr ⟨s_getR (k := 8) K5 (by decide) (dd_X2_leastGreatestLoad (32, .getfield 79, 3) (List.mem_of_getElem? (i := 20) rfl)) ow_X2_leastGreatestLoad fl2_79 rfl, ?_⟩
  refine List.forall_mem_cons.mpr ⟨s_iload_n (dd_X2_leastGreatestLoad (35, .iload_n 3, 1) (List.mem_of_getElem? (i := 21) rfl)) rfl, ?_⟩
  refine List.forall_mem_cons.mpr ⟨s_iald (dd_X2_leastGreatestLoad (36, .iaload, 1) (List.mem_of_getElem? (i := 22) rfl)), ?_⟩
  refine List.forall_mem_cons.mpr ⟨s_max (dd_X2_leastGreatestLoad (37, .invokestatic 82, 3) (List.mem_of_getElem? (i := 23) rfl)) ow_X2_leastGreatestLoad ml2_82 mmax1 mmax2 mmax3, ?_⟩
  refine List.forall_mem_cons.mpr ⟨s_istore_n (dd_X2_leastGreatestLoad (40, .istore_n 1, 1) (List.mem_of_getElem? (i := 24) rfl)) rfl, ?_⟩
  refine List.forall_mem_cons.mpr ⟨s_iload_n (dd_X2_leastGreatestLoad (41, .iload_n 2, 1) (List.mem_of_getElem? (i := 25) rfl)) rfl, ?_⟩
  refine List.forall_mem_cons.mpr ⟨s_aload_n (dd_X2_leastGreatestLoad (42, .aload_n 0, 1) (List.mem_of_getElem? (i := 26) rfl)) rfl, ?_⟩
  refine List.forall_mem_cons.mpr ⟨s_getR (k := 0) K2 (by decide) (dd_X2_leastGreatestLoad (43, .getfield 24, 3) (List.mem_of_getElem? (i := 27) rfl)) ow_X2_leastGreatestLoad fl2_24 rfl, ?_⟩
  refine List.forall_mem_cons.mpr ⟨s_getR (k := 8) K5 (by decide) (dd_X2_leastGreatestLoad (46, .getfield 79, 3) (List.mem_of_getElem? (i := 28) rfl)) ow_X2_leastGreatestLoad fl2_79 rfl, ?_⟩
  refine List.forall_mem_cons.mpr ⟨s_iload_n (dd_X2_leastGreatestLoad (49, .iload_n 3, 1) (List.mem_of_getElem? (i := 29) rfl)) rfl, ?_⟩
  refine List.forall_mem_cons.mpr ⟨s_iald (dd_X2_leastGreatestLoad (50, .iaload, 1) (List.mem_of_getElem? (i := 30) rfl)), ?_⟩
  refine List.forall_mem_cons.mpr ⟨s_iadd (dd_X2_leastGreatestLoad (51, .iadd, 1) (List.mem_of_getElem? (i := 31) rfl)), ?_⟩
  refine List.forall_mem_cons.mpr ⟨s_istore_n (dd_X2_leastGreatestLoad (52, .istore_n 2, 1) (List.mem_of_getElem? (i := 32) rfl)) rfl, ?_⟩
  refine List.forall_mem_cons.mpr ⟨s_iinc (dd_X2_leastGreatestLoad (53, .iinc 3 1, 3) (List.mem_of_getElem? (i := 33) rfl)) rfl, ?_⟩
  refine List.forall_mem_cons.mpr ⟨s_goto (dd_X2_leastGreatestLoad (56, .goto (-50), 3) (List.mem_of_getElem? (i := 34) rfl)) (by decide), ?_⟩
  refine List.forall_mem_cons.mpr ⟨s_iconst (dd_X2_leastGreatestLoad (59, .iconst 1, 1) (List.mem_of_getElem? (i := 35) rfl)) rfl, ?_⟩
  refine List.forall_mem_cons.mpr ⟨s_aload_n (dd_X2_leastGreatestLoad (60, .aload_n 0, 1) (List.mem_of_getElem? (i := 36) rfl)) rfl, ?_⟩
  refine List.forall_mem_cons.mpr ⟨s_getR (k := 0) K2 (by decide) (dd_X2_leastGreatestLoad (61, .getfield 24, 3) (List.mem_of_getElem? (i := 37) rfl)) ow_X2_leastGreatestLoad fl2_24 rfl, ?_⟩
  refine List.forall_mem_cons.mpr ⟨s_getI (k := 2) K5 (by decide) (dd_X2_leastGreatestLoad (64, .getfield 67, 3) (List.mem_of_getElem? (i := 38) rfl)) ow_X2_leastGreatestLoad fl2_67 rfl, ?_⟩
  refine List.forall_mem_cons.mpr ⟨s_max (dd_X2_leastGreatestLoad (67, .invokestatic 82, 3) (List.mem_of_getElem? (i := 39) rfl)) ow_X2_leastGreatestLoad ml2_82 mmax1 mmax2 mmax3, ?_⟩
  refine List.forall_mem_cons.mpr ⟨s_istore_n (dd_X2_leastGreatestLoad (70, .istore_n 3, 1) (List.mem_of_getElem? (i := 40) rfl)) rfl, ?_⟩
  refine List.forall_mem_cons.mpr ⟨s_iload_n (dd_X2_leastGreatestLoad (71, .iload_n 1, 1) (List.mem_of_getElem? (i := 41) rfl)) rfl, ?_⟩
  refine List.forall_mem_cons.mpr ⟨s_iload_n (dd_X2_leastGreatestLoad (72, .iload_n 2, 1) (List.mem_of_getElem? (i := 42) rfl)) rfl, ?_⟩
  refine List.forall_mem_cons.mpr ⟨s_iload_n (dd_X2_leastGreatestLoad (73, .iload_n 3, 1) (List.mem_of_getElem? (i := 43) rfl)) rfl, ?_⟩
  refine List.forall_mem_cons.mpr ⟨s_iadd (dd_X2_leastGreatestLoad (74, .iadd, 1) (List.mem_of_getElem? (i := 44) rfl)), ?_⟩
  refine List.forall_mem_cons.mpr ⟨s_iconst (dd_X2_leastGreatestLoad (75, .iconst 1, 1) (List.mem_of_getElem? (i := 45) rfl)) rfl, ?_⟩
  refine List.forall_mem_cons.mpr ⟨s_isub (dd_X2_leastGreatestLoad (76, .isub, 1) (List.mem_of_getElem? (i := 46) rfl)), ?_⟩
  refine List.forall_mem_cons.mpr ⟨s_iload_n (dd_X2_leastGreatestLoad (77, .iload_n 3, 1) (List.mem_of_getElem? (i := 47) rfl)) rfl, ?_⟩
  refine List.forall_mem_cons.mpr ⟨s_idiv (dd_X2_leastGreatestLoad (78, .idiv, 1) (List.mem_of_getElem? (i := 48) rfl)), ?_⟩
  refine List.forall_mem_cons.mpr ⟨s_max (dd_X2_leastGreatestLoad (79, .invokestatic 82, 3) (List.mem_of_getElem? (i := 49) rfl)) ow_X2_leastGreatestLoad ml2_82 mmax1 mmax2 mmax3, ?_⟩
  refine List.forall_mem_cons.mpr ⟨Or.inr (Or.inl ⟨rfl, (dd_X2_leastGreatestLoad (82, .ireturn, 1) (List.mem_of_getElem? (i := 50) rfl)), rfl⟩), ?_⟩
  exact fun _ h => absurd h List.not_mem_nil
theorem ow_X2_haveHoldersChanged : (mtJ 39).1.cls = "SatchelSins$Packing" := rfl
def D_X2_haveHoldersChanged : List (Nat × Instr × Nat) := [(0, .iconst 0, 1), (1, .istore_n 1, 1), (2, .iload_n 1, 1), (3, .bipush 7, 2), (5, .if_icmp .ge 25, 3), (8, .aload_n 0, 1), (9, .getfield 9, 3), (12, .iload_n 1, 1), (13, .iaload, 1), (14, .aload_n 0, 1), (15, .iload_n 1, 1), (16, .invokevirtual 50, 3), (19, .if_icmp .eq 5, 3), (22, .iconst 1, 1), (23, .ireturn, 1), (24, .iinc 1 1, 3), (27, .goto (-25), 3), (30, .iconst 0, 1), (31, .ireturn, 1)]
theorem dd_X2_haveHoldersChanged : ∀ e ∈ D_X2_haveHoldersChanged, decode (mtJ 39).2.1 e.1 = .ok e.2 := by decide +kernel
set_option maxRecDepth 10000 in
theorem so_X2_haveHoldersChanged : ∀ e ∈ o_X2_haveHoldersChanged, SndO 39 e.1 e.2 := by
  refine List.forall_mem_cons.mpr ⟨s_iconst (dd_X2_haveHoldersChanged (0, .iconst 0, 1) (List.mem_of_getElem? (i := 0) rfl)) rfl, ?_⟩
  refine List.forall_mem_cons.mpr ⟨s_istore_n (dd_X2_haveHoldersChanged (1, .istore_n 1, 1) (List.mem_of_getElem? (i := 1) rfl)) rfl, ?_⟩
  refine List.forall_mem_cons.mpr ⟨s_iload_n (dd_X2_haveHoldersChanged (2, .iload_n 1, 1) (List.mem_of_getElem? (i := 2) rfl)) rfl, ?_⟩
  refine List.forall_mem_cons.mpr ⟨s_bipush (dd_X2_haveHoldersChanged (3, .bipush 7, 2) (List.mem_of_getElem? (i := 3) rfl)) rfl, ?_⟩
  refine List.forall_mem_cons.mpr ⟨s_icmp_ge (dd_X2_haveHoldersChanged (5, .if_icmp .ge 25, 3) (List.mem_of_getElem? (i := 4) rfl)) (by decide), ?_⟩
  refine List.forall_mem_cons.mpr ⟨s_aload_n (dd_X2_haveHoldersChanged (8, .aload_n 0, 1) (List.mem_of_getElem? (i := 5) rfl)) rfl, ?_⟩
  refine List.forall_mem_cons.mpr ⟨s_getR (k := 3) K2 (by decide) (dd_X2_haveHoldersChanged (9, .getfield 9, 3) (List.mem_of_getElem? (i := 6) rfl)) ow_X2_haveHoldersChanged fl2_9 rfl, ?_⟩
  refine List.forall_mem_cons.mpr ⟨s_iload_n (dd_X2_haveHoldersChanged (12, .iload_n 1, 1) (List.mem_of_getElem? (i := 7) rfl)) rfl, ?_⟩
  refine List.forall_mem_cons.mpr ⟨s_iald (dd_X2_haveHoldersChanged (13, .iaload, 1) (List.mem_of_getElem? (i := 8) rfl)), ?_⟩
  refine List.forall_mem_cons.mpr ⟨s_aload_n (dd_X2_haveHoldersChanged (14, .aload_n 0, 1) (List.mem_of_getElem? (i := 9) rfl)) rfl, ?_⟩
  refine List.forall_mem_cons.mpr ⟨s_iload_n (dd_X2_haveHoldersChanged (15, .iload_n 1, 1) (List.mem_of_getElem? (i := 10) rfl)) rfl, ?_⟩
  refine List.forall_mem_cons.mpr ⟨⟨s_callV (ci := 2) rfl mo40 rfl rfl (dd_X2_haveHoldersChanged (16, .invokevirtual 50, 3) (List.mem_of_getElem? (i := 11) rfl)) ow_X2_haveHoldersChanged ml2_50 mi40 msl40 in_2 mn40, mo40⟩, ?_⟩
  refine List.forall_mem_cons.mpr ⟨s_icmp_eq (dd_X2_haveHoldersChanged (19, .if_icmp .eq 5, 3) (List.mem_of_getElem? (i := 12) rfl)) (by decide), ?_⟩
  refine List.forall_mem_cons.mpr ⟨s_iconst (dd_X2_haveHoldersChanged (22, .iconst 1, 1) (List.mem_of_getElem? (i := 13) rfl)) rfl, ?_⟩
  refine List.forall_mem_cons.mpr ⟨Or.inr (Or.inr ⟨rfl, (dd_X2_haveHoldersChanged (23, .ireturn, 1) (List.mem_of_getElem? (i := 14) rfl)), rfl⟩), ?_⟩
  refine List.forall_mem_cons.mpr ⟨s_iinc (dd_X2_haveHoldersChanged (24, .iinc 1 1, 3) (List.mem_of_getElem? (i := 15) rfl)) rfl, ?_⟩
  refine List.forall_mem_cons.mpr ⟨s_goto (dd_X2_haveHoldersChanged (27, .goto (-25), 3) (List.mem_of_getElem? (i := 16) rfl)) (by decide), ?_⟩
  refine List.forall_mem_cons.mpr ⟨s_iconst (dd_X2_haveHoldersChanged (30, .iconst 0, 1) (List.mem_of_getElem? (i := 17) rfl)) rfl, ?_⟩
  refine List.forall_mem_cons.mpr ⟨Or.inr (Or.inr ⟨rfl, (dd_X2_haveHoldersChanged (31, .ireturn, 1) (List.mem_of_getElem? (i := 18) rfl)), rfl⟩), ?_⟩
  exact fun _ h => absurd h List.not_mem_nil
theorem ow_X2_holderNow : (mtJ 40).1.cls = "SatchelSins$Packing" := rfl
def D_X2_holderNow : List (Nat × Instr × Nat) := [(0, .aload_n 0, 1), (1, .getfield 24, 3), (4, .iload_n 1, 1), (5, .invokevirtual 88, 3), (8, .ifCond .eq 25, 3), (11, .aload_n 0, 1), (12, .getfield 28, 3), (15, .iload_n 1, 1), (16, .invokevirtual 92, 3), (19, .ifCond .eq 14, 3), (22, .aload_n 0, 1), (23, .getfield 28, 3), (26, .iload_n 1, 1), (27, .invokevirtual 97, 3), (30, .goto 4, 3), (33, .iconst (-1), 1), (34, .ireturn, 1)]
theorem dd_X2_holderNow : ∀ e ∈ D_X2_holderNow, decode (mtJ 40).2.1 e.1 = .ok e.2 := by decide +kernel
set_option maxRecDepth 10000 in
theorem so_X2_holderNow : ∀ e ∈ o_X2_holderNow, SndO 40 e.1 e.2 := by
  refine List.forall_mem_cons.mpr ⟨s_aload_n (dd_X2_holderNow (0, .aload_n 0, 1) (List.mem_of_getElem? (i := 0) rfl)) rfl, ?_⟩
  refine List.forall_mem_cons.mpr ⟨s_getR (k := 0) K2 (by decide) (dd_X2_holderNow (1, .getfield 24, 3) (List.mem_of_getElem? (i := 1) rfl)) ow_X2_holderNow fl2_24 rfl, ?_⟩
  refine List.forall_mem_cons.mpr ⟨s_iload_n (dd_X2_holderNow (4, .iload_n 1, 1) (List.mem_of_getElem? (i := 2) rfl)) rfl, ?_⟩
  refine List.forall_mem_cons.mpr ⟨⟨s_callV (ci := 5) rfl mo67 rfl rfl (dd_X2_holderNow (5, .invokevirtual 88, 3) (List.mem_of_getElem? (i := 3) rfl)) ow_X2_holderNow ml2_88 mi67 msl67 in_5 mn67, mo67⟩, ?_⟩
  refine List.forall_mem_cons.mpr ⟨s_if_eq (dd_X2_holderNow (8, .ifCond .eq 25, 3) (List.mem_of_getElem? (i := 4) rfl)) (by decide), ?_⟩
  refine List.forall_mem_cons.mpr ⟨s_aload_n (dd_X2_holderNow (11, .aload_n 0, 1) (List.mem_of_getElem? (i := 5) rfl)) rfl, ?_⟩
  refine List.forall_mem_cons.mpr ⟨s_getR (k := 1) K2 (by decide) (dd_X2_holderNow (12, .getfield 28, 3) (List.mem_of_getElem? (i := 6) rfl)) ow_X2_holderNow fl2_28 rfl, ?_⟩
  refine List.forall_mem_cons.mpr ⟨s_iload_n (dd_X2_holderNow (15, .iload_n 1, 1) (List.mem_of_getElem? (i := 7) rfl)) rfl, ?_⟩
  refine List.forall_mem_cons.mpr ⟨⟨s_callV (ci := 0) rfl mo8 rfl rfl (dd_X2_holderNow (16, .invokevirtual 92, 3) (List.mem_of_getElem? (i := 8) rfl)) ow_X2_holderNow ml2_92 mi8 msl8 in_0 mn8, mo8⟩, ?_⟩
  refine List.forall_mem_cons.mpr ⟨s_if_eq (dd_X2_holderNow (19, .ifCond .eq 14, 3) (List.mem_of_getElem? (i := 9) rfl)) (by decide), ?_⟩
  refine List.forall_mem_cons.mpr ⟨s_aload_n (dd_X2_holderNow (22, .aload_n 0, 1) (List.mem_of_getElem? (i := 10) rfl)) rfl, ?_⟩
  refine List.forall_mem_cons.mpr ⟨s_getR (k := 1) K2 (by decide) (dd_X2_holderNow (23, .getfield 28, 3) (List.mem_of_getElem? (i := 11) rfl)) ow_X2_holderNow fl2_28 rfl, ?_⟩
  refine List.forall_mem_cons.mpr ⟨s_iload_n (dd_X2_holderNow (26, .iload_n 1, 1) (List.mem_of_getElem? (i := 12) rfl)) rfl, ?_⟩
  refine List.forall_mem_cons.mpr ⟨⟨s_callV (ci := 0) rfl mo7 rfl rfl (dd_X2_holderNow (27, .invokevirtual 97, 3) (List.mem_of_getElem? (i := 13) rfl)) ow_X2_holderNow ml2_97 mi7 msl7 in_0 mn7, mo7⟩, ?_⟩
  refine List.forall_mem_cons.mpr ⟨s_goto (dd_X2_holderNow (30, .goto 4, 3) (List.mem_of_getElem? (i := 14) rfl)) (by decide), ?_⟩
  refine List.forall_mem_cons.mpr ⟨s_iconst (dd_X2_holderNow (33, .iconst (-1), 1) (List.mem_of_getElem? (i := 15) rfl)) rfl, ?_⟩
  refine List.forall_mem_cons.mpr ⟨Or.inr (Or.inl ⟨rfl, (dd_X2_holderNow (34, .ireturn, 1) (List.mem_of_getElem? (i := 16) rfl)), rfl⟩), ?_⟩
  exact fun _ h => absurd h List.not_mem_nil
theorem ow_X2_place : (mtJ 41).1.cls = "SatchelSins$Packing" := rfl
def D_X2_place_1 : List (Nat × Instr × Nat) := [(0, .iload_n 2, 1), (1, .aload_n 0, 1), (2, .getfield 42, 3), (5, .if_icmp .ge 14, 3), (8, .aload_n 0, 1), (9, .getfield 42, 3), (12, .aload_n 0, 1), (13, .getfield 64, 3), (16, .if_icmp .gt 4, 3), (19, .return_, 1), (20, .iload_n 1, 1), (21, .ifCond .lt 20, 3), (24, .iload_n 1, 1), (25, .aload_n 0, 1), (26, .getfield 24, 3), (29, .getfield 76, 3), (32, .if_icmp .ge 9, 3), (35, .iload_n 1, 1), (36, .bipush 7, 2), (38, .if_icmp .lt 24, 3), (41, .aload_n 0, 1), (42, .iload_n 2, 1), (43, .putfield 42, 3), (46, .aload_n 0, 1), (47, .getfield 15, 3), (50, .iconst 0, 1), (51, .aload_n 0, 1), (52, .getfield 18, 3), (55, .iconst 0, 1), (56, .bipush 7, 2), (58, .invokestatic 100, 3), (61, .return_, 1), (62, .aload_n 0, 1), (63, .getfield 9, 3), (66, .iload_n 1, 1), (67, .iaload, 1), (68, .iconst (-1), 1), (69, .if_icmp .ne 12, 3), (72, .aload_n 0, 1), (73, .iload_n 1, 1), (74, .iconst 1, 1), (75, .iadd, 1), (76, .iload_n 2, 1), (77, .invokevirtual 72, 3), (80, .return_, 1), (81, .iconst 0, 1), (82, .istore_n 3, 1), (83, .iload_n 3, 1), (84, .aload_n 0, 1), (85, .getfield 24, 3), (88, .getfield 67, 3), (91, .if_icmp .ge 121, 3), (94, .aload_n 0, 1), (95, .getfield 21, 3), (98, .iload_n 3, 1), (99, .iaload, 1), (100, .aload_n 0, 1), (101, .getfield 24, 3), (104, .getfield 79, 3), (107, .iload_n 1, 1)]
theorem dd_X2_place_1 : ∀ e ∈ D_X2_place_1, decode (mtJ 41).2.1 e.1 = .ok e.2 := by decide +kernel
set_option maxRecDepth 10000 in
theorem so_X2_place_1 : ∀ e ∈ o_X2_place_1, SndO 41 e.1 e.2 := by
  refine List.forall_mem_cons.mpr ⟨s_iload_n (dd_X2_place_1 (0, .iload_n 2, 1) (List.mem_of_getElem? (i := 0) rfl)) rfl, ?_⟩
  refine List.forall_mem_cons.mpr ⟨s_aload_n (dd_X2_place_1 (1, .aload_n 0, 1) (List.mem_of_getElem? (i := 1) rfl)) rfl, ?_⟩
  refine List.forall_mem_cons.mpr ⟨s_getI (k := 7) K2 (by decide) (dd_X2_place_1 (2, .getfield 42, 3) (List.mem_of_getElem? (i := 2) rfl)) ow_X2_place fl2_42 rfl, ?_⟩
  refine List.forall_mem_cons.mpr ⟨s_icmp_ge (dd_X2_place_1 (5, .if_icmp .ge 14, 3) (List.mem_of_getElem? (i := 3) rfl)) (by decide), ?_⟩
  refine List.forall_mem_cons.mpr ⟨s_aload_n (dd_X2_place_1 (8, .aload_n 0, 1) (List.mem_of_getElem? (i := 4) rfl)) rfl, ?_⟩
  refine List.forall_mem_cons.mpr ⟨s_getI (k := 7) K2 (by decide) (dd_X2_place_1 (9, .getfield 42, 3) (List.mem_of_getElem? (i := 5) rfl)) ow_X2_place fl2_42 rfl, ?_⟩
  refine List.forall_mem_cons.mpr ⟨s_aload_n (dd_X2_place_1 (12, .aload_n 0, 1) (List.mem_of_getElem? (i := 6) rfl)) rfl, ?_⟩
  refine List.forall_mem_cons.mpr ⟨s_getI (k := 8) K2 (by decide) (dd_X2_place_1 (13, .getfield 64, 3) (List.mem_of_getElem? (i := 7) rfl)) ow_X2_place fl2_64 rfl, ?_⟩
  refine List.forall_mem_cons.mpr ⟨s_icmp_gt (dd_X2_place_1 (16, .if_icmp .gt 4, 3) (List.mem_of_getElem? (i := 8) rfl)) (by decide), ?_⟩
  refine List.forall_mem_cons.mpr ⟨Or.inl ⟨rfl, (dd_X2_place_1 (19, .return_, 1) (List.mem_of_getElem? (i := 9) rfl)), rfl⟩, ?_⟩
  refine List.forall_mem_cons.mpr ⟨s_iload_n (dd_X2_place_1 (20, .iload_n 1, 1) (List.mem_of_getElem? (i := 10) rfl)) rfl, ?_⟩
  refine List.forall_mem_cons.mpr ⟨s_if_lt (dd_X2_place_1 (21, .ifCond .lt 20, 3) (List.mem_of_getElem? (i := 11) rfl)) (by decide), ?_⟩
  refine List.forall_mem_cons.mpr ⟨s_iload_n (dd_X2_place_1 (24, .iload_n 1, 1) (List.mem_of_getElem? (i := 12) rfl)) rfl, ?_⟩
  refine List.forall_mem_cons.mpr ⟨s_aload_n (dd_X2_place_1 (25, .aload_n 0, 1) (List.mem_of_getElem? (i := 13) rfl)) rfl, ?_⟩
  refine List.forall_mem_cons.mpr ⟨s_getR (k := 0) K2 (by decide) (dd_X2_place_1 (26, .getfield 24, 3) (List.mem_of_getElem? (i := 14) rfl)) ow_X2_place fl2_24 rfl, ?_⟩
  refine List.forall_mem_cons.mpr ⟨s_getI (k := 3) K5 (by decide) (dd_X2_place_1 (29, .getfield 76, 3) (List.mem_of_getElem? (i := 15) rfl)) ow_X2_place fl2_76 rfl, ?_⟩
  refine List.forall_mem_cons.mpr ⟨s_icmp_ge (dd_X2_place_1 (32, .if_icmp .ge 9, 3) (List.mem_of_getElem? (i := 16) rfl)) (by decide), ?_⟩
  refine List.forall_mem_cons.mpr ⟨s_iload_n (dd_X2_place_1 (35, .iload_n 1, 1) (List.mem_of_getElem? (i := 17) rfl)) rfl, ?_⟩
  refine List.forall_mem_cons.mpr ⟨s_bipush (dd_X2_place_1 (36, .bipush 7, 2) (List.mem_of_getElem? (i := 18) rfl)) rfl, ?_⟩
  refine List.forall_mem_cons.mpr ⟨s_icmp_lt (dd_X2_place_1 (38, .if_icmp .lt 24, 3) (List.mem_of_getElem? (i := 19) rfl)) (by decide), ?_⟩
  refine List.forall_mem_cons.mpr ⟨s_aload_n (dd_X2_place_1 (41, .aload_n 0, 1) (List.mem_of_getElem? (i := 20) rfl)) rfl, ?_⟩
  refine List.forall_mem_cons.mpr ⟨s_iload_n (dd_X2_place_1 (42, .iload_n 2, 1) (List.mem_of_getElem? (i := 21) rfl)) rfl, ?_⟩
  refine List.forall_mem_cons.mpr ⟨s_putI (k := 7) K2 (by decide) (dd_X2_place_1 (43, .putfield 42, 3) (List.mem_of_getElem? (i := 22) rfl)) ow_X2_place fl2_42 (Or.inl rfl) rfl, ?_⟩
  refine List.forall_mem_cons.mpr ⟨s_aload_n (dd_X2_place_1 (46, .aload_n 0, 1) (List.mem_of_getElem? (i := 23) rfl)) rfl, ?_⟩
  refine List.forall_mem_cons.mpr ⟨s_getR (k := 4) K2 (by decide) (dd_X2_place_1 (47, .getfield 15, 3) (List.mem_of_getElem? (i := 24) rfl)) ow_X2_place fl2_15 rfl, ?_⟩
  refine List.forall_mem_cons.mpr ⟨s_iconst (dd_X2_place_1 (50, .iconst 0, 1) (List.mem_of_getElem? (i := 25) rfl)) rfl, ?_⟩
  refine List.forall_mem_cons.mpr ⟨s_aload_n (dd_X2_place_1 (51, .aload_n 0, 1) (List.mem_of_getElem? (i := 26) rfl)) rfl, ?_⟩
  refine List.forall_mem_cons.mpr ⟨s_getR (k := 5) K2 (by decide) (dd_X2_place_1 (52, .getfield 18, 3) (List.mem_of_getElem? (i := 27) rfl)) ow_X2_place fl2_18 rfl, ?_⟩
  refine List.forall_mem_cons.mpr ⟨s_iconst (dd_X2_place_1 (55, .iconst 0, 1) (List.mem_of_getElem? (i := 28) rfl)) rfl, ?_⟩
  refine List.forall_mem_cons.mpr ⟨s_bipush (dd_X2_place_1 (56, .bipush 7, 2) (List.mem_of_getElem? (i := 29) rfl)) rfl, ?_⟩
  refine List.forall_mem_cons.mpr ⟨s_copy (dd_X2_place_1 (58, .invokestatic 100, 3) (List.mem_of_getElem? (i := 30) rfl)) ow_X2_place ml2_100 cp1 cp2 cp3, ?_⟩
  refine List.forall_mem_cons.mpr ⟨Or.inl ⟨rfl, (dd_X2_place_1 (61, .return_, 1) (List.mem_of_getElem? (i := 31) rfl)), rfl⟩, ?_⟩
  refine List.forall_mem_cons.mpr ⟨s_aload_n (dd_X2_place_1 (62, .aload_n 0, 1) (List.mem_of_getElem? (i := 32) rfl)) rfl, ?_⟩
  refine List.forall_mem_cons.mpr ⟨s_getR (k := 3) K2 (by decide) (dd_X2_place_1 (63, .getfield 9, 3) (List.mem_of_getElem? (i := 33) rfl)) ow_X2_place fl2_9 rfl, ?_⟩
  refine List.forall_mem_cons.mpr ⟨s_iload_n (dd_X2_place_1 (66, .iload_n 1, 1) (List.mem_of_getElem? (i := 34) rfl)) rfl, ?_⟩
  refine List.forall_mem_cons.mpr ⟨s_iald (dd_X2_place_1 (67, .iaload, 1) (List.mem_of_getElem? (i := 35) rfl)), ?_⟩
  refine List.forall_mem_cons.mpr ⟨s_iconst (dd_X2_place_1 (68, .iconst (-1), 1) (List.mem_of_getElem? (i := 36) rfl)) rfl, ?_⟩
  refine List.forall_mem_cons.mpr ⟨s_icmp_ne (dd_X2_place_1 (69, .if_icmp .ne 12, 3) (List.mem_of_getElem? (i := 37) rfl)) (by decide), ?_⟩
  refine List.forall_mem_cons.mpr ⟨s_aload_n (dd_X2_place_1 (72, .aload_n 0, 1) (List.mem_of_getElem? (i := 38) rfl)) rfl, ?_⟩
  refine List.forall_mem_cons.mpr ⟨s_iload_n (dd_X2_place_1 (73, .iload_n 1, 1) (List.mem_of_getElem? (i := 39) rfl)) rfl, ?_⟩
  refine List.forall_mem_cons.mpr ⟨s_iconst (dd_X2_place_1 (74, .iconst 1, 1) (List.mem_of_getElem? (i := 40) rfl)) rfl, ?_⟩
  refine List.forall_mem_cons.mpr ⟨s_iadd (dd_X2_place_1 (75, .iadd, 1) (List.mem_of_getElem? (i := 41) rfl)), ?_⟩
  refine List.forall_mem_cons.mpr ⟨s_iload_n (dd_X2_place_1 (76, .iload_n 2, 1) (List.mem_of_getElem? (i := 42) rfl)) rfl, ?_⟩
  refine List.forall_mem_cons.mpr ⟨⟨s_callV (ci := 2) rfl mo41 rfl rfl (dd_X2_place_1 (77, .invokevirtual 72, 3) (List.mem_of_getElem? (i := 43) rfl)) ow_X2_place ml2_72 mi41 msl41 in_2 mn41, mo41⟩, ?_⟩
  refine List.forall_mem_cons.mpr ⟨Or.inl ⟨rfl, (dd_X2_place_1 (80, .return_, 1) (List.mem_of_getElem? (i := 44) rfl)), rfl⟩, ?_⟩
  refine List.forall_mem_cons.mpr ⟨s_iconst (dd_X2_place_1 (81, .iconst 0, 1) (List.mem_of_getElem? (i := 45) rfl)) rfl, ?_⟩
  refine List.forall_mem_cons.mpr ⟨s_istore_n (dd_X2_place_1 (82, .istore_n 3, 1) (List.mem_of_getElem? (i := 46) rfl)) rfl, ?_⟩
  refine List.forall_mem_cons.mpr ⟨s_iload_n (dd_X2_place_1 (83, .iload_n 3, 1) (List.mem_of_getElem? (i := 47) rfl)) rfl, ?_⟩
  refine List.forall_mem_cons.mpr ⟨s_aload_n (dd_X2_place_1 (84, .aload_n 0, 1) (List.mem_of_getElem? (i := 48) rfl)) rfl, ?_⟩
  refine List.forall_mem_cons.mpr ⟨s_getR (k := 0) K2 (by decide) (dd_X2_place_1 (85, .getfield 24, 3) (List.mem_of_getElem? (i := 49) rfl)) ow_X2_place fl2_24 rfl, ?_⟩
  refine List.forall_mem_cons.mpr ⟨s_getI (k := 2) K5 (by decide) (dd_X2_place_1 (88, .getfield 67, 3) (List.mem_of_getElem? (i := 50) rfl)) ow_X2_place fl2_67 rfl, ?_⟩
  refine List.forall_mem_cons.mpr ⟨s_icmp_ge (dd_X2_place_1 (91, .if_icmp .ge 121, 3) (List.mem_of_getElem? (i := 51) rfl)) (by decide), ?_⟩
  refine List.forall_mem_cons.mpr ⟨s_aload_n (dd_X2_place_1 (94, .aload_n 0, 1) (List.mem_of_getElem? (i := 52) rfl)) rfl, ?_⟩
  refine List.forall_mem_cons.mpr ⟨s_getR (k := 6) K2 (by decide) (dd_X2_place_1 (95, .getfield 21, 3) (List.mem_of_getElem? (i := 53) rfl)) ow_X2_place fl2_21 rfl, ?_⟩
  refine List.forall_mem_cons.mpr ⟨s_iload_n (dd_X2_place_1 (98, .iload_n 3, 1) (List.mem_of_getElem? (i := 54) rfl)) rfl, ?_⟩
  refine List.forall_mem_cons.mpr ⟨s_iald (dd_X2_place_1 (99, .iaload, 1) (List.mem_of_getElem? (i := 55) rfl)), ?_⟩
  refine List.forall_mem_cons.mpr ⟨s_aload_n (dd_X2_place_1 (100, .aload_n 0, 1) (List.mem_of_getElem? (i := 56) rfl)) rfl, ?_⟩
  refine List.forall_mem_cons.mpr ⟨s_getR (k := 0) K2 (by decide) (dd_X2_place_1 (101, .getfield 24, 3) (List.mem_of_getElem? (i := 57) rfl)) ow_X2_place fl2_24 rfl, ?_⟩
  refine List.forall_mem_cons.mpr ⟨s_getR (k := 8) K5 (by decide) (dd_X2_place_1 (104, .getfield 79, 3) (List.mem_of_getElem? (i := 58) rfl)) ow_X2_place fl2_79 rfl, ?_⟩
  refine List.forall_mem_cons.mpr ⟨s_iload_n (dd_X2_place_1 (107, .iload_n 1, 1) (List.mem_of_getElem? (i := 59) rfl)) rfl, ?_⟩
  exact fun _ h => absurd h List.not_mem_nil
def D_X2_place_2 : List (Nat × Instr × Nat) := [(108, .iaload, 1), (109, .iadd, 1), (110, .istore 4, 2), (112, .aload_n 0, 1), (113, .getfield 32, 3), (116, .ifCond .ne 17, 3), (119, .iload 4, 2), (121, .aload_n 0, 1), (122, .getfield 24, 3), (125, .getfield 106, 3), (128, .iload_n 3, 1), (129, .iaload, 1), (130, .if_icmp .gt 76, 3), (133, .aload_n 0, 1), (134, .getfield 21, 3), (137, .iload_n 3, 1), (138, .iload 4, 2), (140, .iastore, 1), (141, .aload_n 0, 1), (142, .getfield 15, 3), (145, .iload_n 1, 1), (146, .iload_n 3, 1), (147, .iastore, 1), (148, .aload_n 0, 1), (149, .iload_n 1, 1), (150, .iconst 1, 1), (151, .iadd, 1), (152, .aload_n 0, 1), (153, .getfield 32, 3), (156, .ifCond .eq 12, 3), (159, .iload_n 2, 1), (160, .iload 4, 2), (162, .invokestatic 82, 3), (165, .goto 20, 3), (168, .iload_n 3, 1), (169, .aload_n 0, 1), (170, .getfield 9, 3), (173, .iload_n 1, 1), (174, .iaload, 1), (175, .if_icmp .ne 7, 3), (178, .iload_n 2, 1), (179, .goto 6, 3), (182, .iload_n 2, 1), (183, .iconst 1, 1), (184, .iadd, 1), (185, .invokevirtual 72, 3), (188, .aload_n 0, 1), (189, .getfield 21, 3), (192, .iload_n 3, 1), (193, .iload 4, 2), (195, .aload_n 0, 1), (196, .getfield 24, 3), (199, .getfield 79, 3), (202, .iload_n 1, 1), (203, .iaload, 1), (204, .isub, 1), (205, .iastore, 1), (206, .iinc 3 1, 3), (209, .goto (-126), 3), (212, .return_, 1)]
theorem dd_X2_place_2 : ∀ e ∈ D_X2_place_2, decode (mtJ 41).2.1 e.1 = .ok e.2 := by decide +kernel
set_option maxRecDepth 10000 in
theorem so_X2_place_2 : ∀ e ∈ o_X2_place_2, SndO 41 e.1 e.2 := by
  refine List.forall_mem_cons.mpr ⟨s_iald (dd_X2_place_2 (108, .iaload, 1) (List.mem_of_getElem? (i := 0) rfl)), ?_⟩
  refine List.forall_mem_cons.mpr ⟨s_iadd (dd_X2_place_2 (109, .iadd, 1) (List.mem_of_getElem? (i := 1) rfl)), ?_⟩
  refine List.forall_mem_cons.mpr ⟨s_istore (dd_X2_place_2 (110, .istore 4, 2) (List.mem_of_getElem? (i := 2) rfl)), ?_⟩
  refine List.forall_mem_cons.mpr ⟨s_aload_n (dd_X2_place_2 (112, .aload_n 0, 1) (List.mem_of_getElem? (i := 3) rfl)) rfl, ?_⟩
  refine List.forall_mem_cons.mpr ⟨s_getI (k := 2) K2 (by decide) (dd_X2_place_2 (113, .getfield 32, 3) (List.mem_of_getElem? (i := 4) rfl)) ow_X2_place fl2_32 rfl, ?_⟩
  refine List.forall_mem_cons.mpr ⟨s_if_ne (dd_X2_place_2 (116, .ifCond .ne 17, 3) (List.mem_of_getElem? (i := 5) rfl)) (by decide), ?_⟩
  refine List.forall_mem_cons.mpr ⟨s_iload (dd_X2_place_2 (119, .iload 4, 2) (List.mem_of_getElem? (i := 6) rfl)), ?_⟩
  refine List.forall_mem_cons.mpr ⟨s_aload_n (dd_X2_place_2 (121, .aload_n 0, 1) (List.mem_of_getElem? (i := 7) rfl)) rfl, ?_⟩
  refine List.forall_mem_cons.mpr ⟨s_getR (k := 0) K2 (by decide) (dd_X2_place_2 (122, .getfield 24, 3) (List.mem_of_getElem? (i := 8) rfl)) ow_X2_place fl2_24 rfl, ?_⟩
  refine List.forall_mem_cons.mpr ⟨s_getR (k := 4) K5 (by decide) (dd_X2_place_2 (125, .getfield 106, 3) (List.mem_of_getElem? (i := 9) rfl)) ow_X2_place fl2_106 rfl, ?_⟩
  refine List.forall_mem_cons.mpr ⟨s_iload_n (dd_X2_place_2 (128, .iload_n 3, 1) (List.mem_of_getElem? (i := 10) rfl)) rfl, ?_⟩
  refine List.forall_mem_cons.mpr ⟨s_iald (dd_X2_place_2 (129, .iaload, 1) (List.mem_of_getElem? (i := 11) rfl)), ?_⟩
  refine List.forall_mem_cons.mpr ⟨s_icmp_gt (dd_X2_place_2 (130, .if_icmp .gt 76, 3) (List.mem_of_getElem? (i := 12) rfl)) (by decide), ?_⟩
  refine List.forall_mem_cons.mpr ⟨s_aload_n (dd_X2_place_2 (133, .aload_n 0, 1) (List.mem_of_getElem? (i := 13) rfl)) rfl, ?_⟩
  refine List.forall_mem_cons.mpr ⟨s_getR (k := 6) K2 (by decide) (dd_X2_place_2 (134, .getfield 21, 3) (List.mem_of_getElem? (i := 14) rfl)) ow_X2_place fl2_21 rfl, ?_⟩
  refine List.forall_mem_cons.mpr ⟨s_iload_n (dd_X2_place_2 (137, .iload_n 3, 1) (List.mem_of_getElem? (i := 15) rfl)) rfl, ?_⟩
  refine List.forall_mem_cons.mpr ⟨s_iload (dd_X2_place_2 (138, .iload 4, 2) (List.mem_of_getElem? (i := 16) rfl)), ?_⟩
  refine List.forall_mem_cons.mpr ⟨s_iast (dd_X2_place_2 (140, .iastore, 1) (List.mem_of_getElem? (i := 17) rfl)), ?_⟩
  refine List.forall_mem_cons.mpr ⟨s_aload_n (dd_X2_place_2 (141, .aload_n 0, 1) (List.mem_of_getElem? (i := 18) rfl)) rfl, ?_⟩
  refine List.forall_mem_cons.mpr ⟨s_getR (k := 4) K2 (by decide) (dd_X2_place_2 (142, .getfield 15, 3) (List.mem_of_getElem? (i := 19) rfl)) ow_X2_place fl2_15 rfl, ?_⟩
  refine List.forall_mem_cons.mpr ⟨s_iload_n (dd_X2_place_2 (145, .iload_n 1, 1) (List.mem_of_getElem? (i := 20) rfl)) rfl, ?_⟩
  refine List.forall_mem_cons.mpr ⟨s_iload_n (dd_X2_place_2 (146, .iload_n 3, 1) (List.mem_of_getElem? (i := 21) rfl)) rfl, ?_⟩
  refine List.forall_mem_cons.mpr ⟨s_iast (dd_X2_place_2 (147, .iastore, 1) (List.mem_of_getElem? (i := 22) rfl)), ?_⟩
  refine List.forall_mem_cons.mpr ⟨s_aload_n (dd_X2_place_2 (148, .aload_n 0, 1) (List.mem_of_getElem? (i := 23) rfl)) rfl, ?_⟩
  refine List.forall_mem_cons.mpr ⟨s_iload_n (dd_X2_place_2 (149, .iload_n 1, 1) (List.mem_of_getElem? (i := 24) rfl)) rfl, ?_⟩
  refine List.forall_mem_cons.mpr ⟨s_iconst (dd_X2_place_2 (150, .iconst 1, 1) (List.mem_of_getElem? (i := 25) rfl)) rfl, ?_⟩
  refine List.forall_mem_cons.mpr ⟨s_iadd (dd_X2_place_2 (151, .iadd, 1) (List.mem_of_getElem? (i := 26) rfl)), ?_⟩
  refine List.forall_mem_cons.mpr ⟨s_aload_n (dd_X2_place_2 (152, .aload_n 0, 1) (List.mem_of_getElem? (i := 27) rfl)) rfl, ?_⟩
  refine List.forall_mem_cons.mpr ⟨s_getI (k := 2) K2 (by decide) (dd_X2_place_2 (153, .getfield 32, 3) (List.mem_of_getElem? (i := 28) rfl)) ow_X2_place fl2_32 rfl, ?_⟩
  refine List.forall_mem_cons.mpr ⟨s_if_eq (dd_X2_place_2 (156, .ifCond .eq 12, 3) (List.mem_of_getElem? (i := 29) rfl)) (by decide), ?_⟩
  refine List.forall_mem_cons.mpr ⟨s_iload_n (dd_X2_place_2 (159, .iload_n 2, 1) (List.mem_of_getElem? (i := 30) rfl)) rfl, ?_⟩
  refine List.forall_mem_cons.mpr ⟨s_iload (dd_X2_place_2 (160, .iload 4, 2) (List.mem_of_getElem? (i := 31) rfl)), ?_⟩
  refine List.forall_mem_cons.mpr ⟨s_max (dd_X2_place_2 (162, .invokestatic 82, 3) (List.mem_of_getElem? (i := 32) rfl)) ow_X2_place ml2_82 mmax1 mmax2 mmax3, ?_⟩
  refine List.forall_mem_cons.mpr ⟨s_goto (dd_X2_place_2 (165, .goto 20, 3) (List.mem_of_getElem? (i := 33) rfl)) (by decide), ?_⟩
  refine List.forall_mem_cons.mpr ⟨s_iload_n (dd_X2_place_2 (168, .iload_n 3, 1) (List.mem_of_getElem? (i := 34) rfl)) rfl, ?_⟩
  refine List.forall_mem_cons.mpr ⟨s_aload_n (dd_X2_place_2 (169, .aload_n 0, 1) (List.mem_of_getElem? (i := 35) rfl)) rfl, ?_⟩
  refine List.forall_mem_cons.mpr ⟨s_getR (k := 3) K2 (by decide) (dd_X2_place_2 (170, .getfield 9, 3) (List.mem_of_getElem? (i := 36) rfl)) ow_X2_place fl2_9 rfl, ?_⟩
  refine List.forall_mem_cons.mpr ⟨s_iload_n (dd_X2_place_2 (173, .iload_n 1, 1) (List.mem_of_getElem? (i := 37) rfl)) rfl, ?_⟩
  refine List.forall_mem_cons.mpr ⟨s_iald (dd_X2_place_2 (174, .iaload, 1) (List.mem_of_getElem? (i := 38) rfl)), ?_⟩
  refine List.forall_mem_cons.mpr ⟨s_icmp_ne (dd_X2_place_2 (175, .if_icmp .ne 7, 3) (List.mem_of_getElem? (i := 39) rfl)) (by decide), ?_⟩
  refine List.forall_mem_cons.mpr ⟨s_iload_n (dd_X2_place_2 (178, .iload_n 2, 1) (List.mem_of_getElem? (i := 40) rfl)) rfl, ?_⟩
  refine List.forall_mem_cons.mpr ⟨s_goto (dd_X2_place_2 (179, .goto 6, 3) (List.mem_of_getElem? (i := 41) rfl)) (by decide), ?_⟩
  refine List.forall_mem_cons.mpr ⟨s_iload_n (dd_X2_place_2 (182, .iload_n 2, 1) (List.mem_of_getElem? (i := 42) rfl)) rfl, ?_⟩
  refine List.forall_mem_cons.mpr ⟨s_iconst (dd_X2_place_2 (183, .iconst 1, 1) (List.mem_of_getElem? (i := 43) rfl)) rfl, ?_⟩
  refine List.forall_mem_cons.mpr ⟨s_iadd (dd_X2_place_2 (184, .iadd, 1) (List.mem_of_getElem? (i := 44) rfl)), ?_⟩
  refine List.forall_mem_cons.mpr ⟨⟨s_callV (ci := 2) rfl mo41 rfl rfl (dd_X2_place_2 (185, .invokevirtual 72, 3) (List.mem_of_getElem? (i := 45) rfl)) ow_X2_place ml2_72 mi41 msl41 in_2 mn41, mo41⟩, ?_⟩
  refine List.forall_mem_cons.mpr ⟨s_aload_n (dd_X2_place_2 (188, .aload_n 0, 1) (List.mem_of_getElem? (i := 46) rfl)) rfl, ?_⟩
  refine List.forall_mem_cons.mpr ⟨s_getR (k := 6) K2 (by decide) (dd_X2_place_2 (189, .getfield 21, 3) (List.mem_of_getElem? (i := 47) rfl)) ow_X2_place fl2_21 rfl, ?_⟩
  refine List.forall_mem_cons.mpr ⟨s_iload_n (dd_X2_place_2 (192, .iload_n 3, 1) (List.mem_of_getElem? (i := 48) rfl)) rfl, ?_⟩
  refine List.forall_mem_cons.mpr ⟨s_iload (dd_X2_place_2 (193, .iload 4, 2) (List.mem_of_getElem? (i := 49) rfl)), ?_⟩
  refine List.forall_mem_cons.mpr ⟨s_aload_n (dd_X2_place_2 (195, .aload_n 0, 1) (List.mem_of_getElem? (i := 50) rfl)) rfl, ?_⟩
  refine List.forall_mem_cons.mpr ⟨s_getR (k := 0) K2 (by decide) (dd_X2_place_2 (196, .getfield 24, 3) (List.mem_of_getElem? (i := 51) rfl)) ow_X2_place fl2_24 rfl, ?_⟩
  refine List.forall_mem_cons.mpr ⟨s_getR (k := 8) K5 (by decide) (dd_X2_place_2 (199, .getfield 79, 3) (List.mem_of_getElem? (i := 52) rfl)) ow_X2_place fl2_79 rfl, ?_⟩
  refine List.forall_mem_cons.mpr ⟨s_iload_n (dd_X2_place_2 (202, .iload_n 1, 1) (List.mem_of_getElem? (i := 53) rfl)) rfl, ?_⟩
  refine List.forall_mem_cons.mpr ⟨s_iald (dd_X2_place_2 (203, .iaload, 1) (List.mem_of_getElem? (i := 54) rfl)), ?_⟩
  refine List.forall_mem_cons.mpr ⟨s_isub (dd_X2_place_2 (204, .isub, 1) (List.mem_of_getElem? (i := 55) rfl)), ?_⟩
  refine List.forall_mem_cons.mpr ⟨s_iast (dd_X2_place_2 (205, .iastore, 1) (List.mem_of_getElem? (i := 56) rfl)), ?_⟩
  refine List.forall_mem_cons.mpr ⟨s_iinc (dd_X2_place_2 (206, .iinc 3 1, 3) (List.mem_of_getElem? (i := 57) rfl)) rfl, ?_⟩
  refine List.forall_mem_cons.mpr ⟨s_goto (dd_X2_place_2 (209, .goto (-126), 3) (List.mem_of_getElem? (i := 58) rfl)) (by decide), ?_⟩
  refine List.forall_mem_cons.mpr ⟨Or.inl ⟨rfl, (dd_X2_place_2 (212, .return_, 1) (List.mem_of_getElem? (i := 59) rfl)), rfl⟩, ?_⟩
  exact fun _ h => absurd h List.not_mem_nil
theorem so_X2_place : ∀ e ∈ o_X2_place, SndO 41 e.1 e.2 := List.forall_mem_append.mpr ⟨so_X2_place_1, so_X2_place_2⟩
theorem ow_X3_init : (mtJ 42).1.cls = "SatchelSins$Past" := rfl
def D_X3_init : List (Nat × Instr × Nat) := [(0, .aload_n 0, 1), (1, .invokespecial 3, 3), (4, .aload_n 0, 1), (5, .sipush 440, 3), (8, .newarray .int, 2), (10, .putfield 11, 3), (13, .return_, 1)]
theorem dd_X3_init : ∀ e ∈ D_X3_init, decode (mtJ 42).2.1 e.1 = .ok e.2 := by decide +kernel
set_option maxRecDepth 10000 in
theorem so_X3_init : ∀ e ∈ o_X3_init, SndO 42 e.1 e.2 := by
  refine List.forall_mem_cons.mpr ⟨s_aload_n (dd_X3_init (0, .aload_n 0, 1) (List.mem_of_getElem? (i := 0) rfl)) rfl, ?_⟩
  refine List.forall_mem_cons.mpr ⟨s_obj (dd_X3_init (1, .invokespecial 3, 3) (List.mem_of_getElem? (i := 1) rfl)) ow_X3_init ml3_3 oi1 oi2, ?_⟩
  refine List.forall_mem_cons.mpr ⟨s_aload_n (dd_X3_init (4, .aload_n 0, 1) (List.mem_of_getElem? (i := 2) rfl)) rfl, ?_⟩
  refine List.forall_mem_cons.mpr ⟨s_sipush (dd_X3_init (5, .sipush 440, 3) (List.mem_of_getElem? (i := 3) rfl)) rfl, ?_⟩
  refine List.forall_mem_cons.mpr ⟨s_newI (dd_X3_init (8, .newarray .int, 2) (List.mem_of_getElem? (i := 4) rfl)) ac1, ?_⟩
  refine List.forall_mem_cons.mpr ⟨s_putR (k := 0) K3 (by decide) (dd_X3_init (10, .putfield 11, 3) (List.mem_of_getElem? (i := 5) rfl)) ow_X3_init fl3_11 (Or.inr ⟨rfl, rfl, rfl⟩) rfl (fun _ => rfl) (fun _ => rfl), ?_⟩
  refine List.forall_mem_cons.mpr ⟨Or.inl ⟨rfl, (dd_X3_init (13, .return_, 1) (List.mem_of_getElem? (i := 6) rfl)), rfl⟩, ?_⟩
  exact fun _ h => absurd h List.not_mem_nil
theorem ow_X3_push : (mtJ 43).1.cls = "SatchelSins$Past" := rfl
def D_X3_push : List (Nat × Instr × Nat) := [(0, .aload_n 1, 1), (1, .iconst 0, 1), (2, .aload_n 0, 1), (3, .getfield 11, 3), (6, .aload_n 0, 1), (7, .getfield 17, 3), (10, .bipush 22, 2), (12, .imul, 1), (13, .bipush 22, 2), (15, .invokestatic 21, 3), (18, .aload_n 0, 1), (19, .aload_n 0, 1), (20, .getfield 17, 3), (23, .iconst 1, 1), (24, .iadd, 1), (25, .bipush 20, 2), (27, .if_icmp .ge 12, 3), (30, .aload_n 0, 1), (31, .getfield 17, 3), (34, .iconst 1, 1), (35, .iadd, 1), (36, .goto 4, 3), (39, .iconst 0, 1), (40, .putfield 17, 3), (43, .aload_n 0, 1), (44, .bipush 20, 2), (46, .aload_n 0, 1), (47, .getfield 27, 3), (50, .iconst 1, 1), (51, .iadd, 1), (52, .invokestatic 30, 3), (55, .putfield 27, 3), (58, .return_, 1)]
theorem dd_X3_push : ∀ e ∈ D_X3_push, decode (mtJ 43).2.1 e.1 = .ok e.2 := by decide +kernel
set_option maxRecDepth 10000 in
theorem so_X3_push : ∀ e ∈ o_X3_push, SndO 43 e.1 e.2 := by
  refine List.forall_mem_cons.mpr ⟨s_aload_n (dd_X3_push (0, .aload_n 1, 1) (List.mem_of_getElem? (i := 0) rfl)) rfl, ?_⟩
  refine List.forall_mem_cons.mpr ⟨s_iconst (dd_X3_push (1, .iconst 0, 1) (List.mem_of_getElem? (i := 1) rfl)) rfl, ?_⟩
  refine List.forall_mem_cons.mpr ⟨s_aload_n (dd_X3_push (2, .aload_n 0, 1) (List.mem_of_getElem? (i := 2) rfl)) rfl, ?_⟩
  refine List.forall_mem_cons.mpr ⟨s_getR (k := 0) K3 (by decide) (dd_X3_push (3, .getfield 11, 3) (List.mem_of_getElem? (i := 3) rfl)) ow_X3_push fl3_11 rfl, ?_⟩
  refine List.forall_mem_cons.mpr ⟨s_aload_n (dd_X3_push (6, .aload_n 0, 1) (List.mem_of_getElem? (i := 4) rfl)) rfl, ?_⟩
  refine List.forall_mem_cons.mpr ⟨s_getI (k := 1) K3 (by decide) (dd_X3_push (7, .getfield 17, 3) (List.mem_of_getElem? (i := 5) rfl)) ow_X3_push fl3_17 rfl, ?_⟩
  refine List.forall_mem_cons.mpr ⟨s_bipush (dd_X3_push (10, .bipush 22, 2) (List.mem_of_getElem? (i := 6) rfl)) rfl, ?_⟩
  refine List.forall_mem_cons.mpr ⟨s_imul (dd_X3_push (12, .imul, 1) (List.mem_of_getElem? (i := 7) rfl)), ?_⟩
  refine List.forall_mem_cons.mpr ⟨s_bipush (dd_X3_push (13, .bipush 22, 2) (List.mem_of_getElem? (i := 8) rfl)) rfl, ?_⟩
  refine List.forall_mem_cons.mpr ⟨s_copy (dd_X3_push (15, .invokestatic 21, 3) (List.mem_of_getElem? (i := 9) rfl)) ow_X3_push ml3_21 cp1 cp2 cp3, ?_⟩
  refine List.forall_mem_cons.mpr ⟨s_aload_n (dd_X3_push (18, .aload_n 0, 1) (List.mem_of_getElem? (i := 10) rfl)) rfl, ?_⟩
  refine List.forall_mem_cons.mpr ⟨s_aload_n (dd_X3_push (19, .aload_n 0, 1) (List.mem_of_getElem? (i := 11) rfl)) rfl, ?_⟩
  refine List.forall_mem_cons.mpr ⟨s_getI (k := 1) K3 (by decide) (dd_X3_push (20, .getfield 17, 3) (List.mem_of_getElem? (i := 12) rfl)) ow_X3_push fl3_17 rfl, ?_⟩
  refine List.forall_mem_cons.mpr ⟨s_iconst (dd_X3_push (23, .iconst 1, 1) (List.mem_of_getElem? (i := 13) rfl)) rfl, ?_⟩
  refine List.forall_mem_cons.mpr ⟨s_iadd (dd_X3_push (24, .iadd, 1) (List.mem_of_getElem? (i := 14) rfl)), ?_⟩
  refine List.forall_mem_cons.mpr ⟨s_bipush (dd_X3_push (25, .bipush 20, 2) (List.mem_of_getElem? (i := 15) rfl)) rfl, ?_⟩
  refine List.forall_mem_cons.mpr ⟨s_icmp_ge (dd_X3_push (27, .if_icmp .ge 12, 3) (List.mem_of_getElem? (i := 16) rfl)) (by decide), ?_⟩
  refine List.forall_mem_cons.mpr ⟨s_aload_n (dd_X3_push (30, .aload_n 0, 1) (List.mem_of_getElem? (i := 17) rfl)) rfl, ?_⟩
  refine List.forall_mem_cons.mpr ⟨s_getI (k := 1) K3 (by decide) (dd_X3_push (31, .getfield 17, 3) (List.mem_of_getElem? (i := 18) rfl)) ow_X3_push fl3_17 rfl, ?_⟩
  refine List.forall_mem_cons.mpr ⟨s_iconst (dd_X3_push (34, .iconst 1, 1) (List.mem_of_getElem? (i := 19) rfl)) rfl, ?_⟩
  refine List.forall_mem_cons.mpr ⟨s_iadd (dd_X3_push (35, .iadd, 1) (List.mem_of_getElem? (i := 20) rfl)), ?_⟩
  refine List.forall_mem_cons.mpr ⟨s_goto (dd_X3_push (36, .goto 4, 3) (List.mem_of_getElem? (i := 21) rfl)) (by decide), ?_⟩
  refine List.forall_mem_cons.mpr ⟨s_iconst (dd_X3_push (39, .iconst 0, 1) (List.mem_of_getElem? (i := 22) rfl)) rfl, ?_⟩
  refine List.forall_mem_cons.mpr ⟨s_putI (k := 1) K3 (by decide) (dd_X3_push (40, .putfield 17, 3) (List.mem_of_getElem? (i := 23) rfl)) ow_X3_push fl3_17 (Or.inl rfl) rfl, ?_⟩
  refine List.forall_mem_cons.mpr ⟨s_aload_n (dd_X3_push (43, .aload_n 0, 1) (List.mem_of_getElem? (i := 24) rfl)) rfl, ?_⟩
  refine List.forall_mem_cons.mpr ⟨s_bipush (dd_X3_push (44, .bipush 20, 2) (List.mem_of_getElem? (i := 25) rfl)) rfl, ?_⟩
  refine List.forall_mem_cons.mpr ⟨s_aload_n (dd_X3_push (46, .aload_n 0, 1) (List.mem_of_getElem? (i := 26) rfl)) rfl, ?_⟩
  refine List.forall_mem_cons.mpr ⟨s_getI (k := 2) K3 (by decide) (dd_X3_push (47, .getfield 27, 3) (List.mem_of_getElem? (i := 27) rfl)) ow_X3_push fl3_27 rfl, ?_⟩
  refine List.forall_mem_cons.mpr ⟨s_iconst (dd_X3_push (50, .iconst 1, 1) (List.mem_of_getElem? (i := 28) rfl)) rfl, ?_⟩
  refine List.forall_mem_cons.mpr ⟨s_iadd (dd_X3_push (51, .iadd, 1) (List.mem_of_getElem? (i := 29) rfl)), ?_⟩
  refine List.forall_mem_cons.mpr ⟨s_min (dd_X3_push (52, .invokestatic 30, 3) (List.mem_of_getElem? (i := 30) rfl)) ow_X3_push ml3_30 mmin1 mmin2 mmin3, ?_⟩
  refine List.forall_mem_cons.mpr ⟨s_putI (k := 2) K3 (by decide) (dd_X3_push (55, .putfield 27, 3) (List.mem_of_getElem? (i := 31) rfl)) ow_X3_push fl3_27 (Or.inl rfl) rfl, ?_⟩
  refine List.forall_mem_cons.mpr ⟨Or.inl ⟨rfl, (dd_X3_push (58, .return_, 1) (List.mem_of_getElem? (i := 32) rfl)), rfl⟩, ?_⟩
  exact fun _ h => absurd h List.not_mem_nil
theorem ow_X3_pop : (mtJ 44).1.cls = "SatchelSins$Past" := rfl
def D_X3_pop : List (Nat × Instr × Nat) := [(0, .aload_n 0, 1), (1, .getfield 27, 3), (4, .ifCond .le 53, 3), (7, .aload_n 0, 1), (8, .aload_n 0, 1), (9, .getfield 17, 3), (12, .ifCond .le 12, 3), (15, .aload_n 0, 1), (16, .getfield 17, 3), (19, .iconst 1, 1), (20, .isub, 1), (21, .goto 5, 3), (24, .bipush 19, 2), (26, .putfield 17, 3), (29, .aload_n 0, 1), (30, .dup, 1), (31, .getfield 27, 3), (34, .iconst 1, 1), (35, .isub, 1), (36, .putfield 27, 3), (39, .aload_n 0, 1), (40, .getfield 11, 3), (43, .aload_n 0, 1), (44, .getfield 17, 3), (47, .bipush 22, 2), (49, .imul, 1), (50, .aload_n 1, 1), (51, .iconst 0, 1), (52, .bipush 22, 2), (54, .invokestatic 21, 3), (57, .return_, 1)]
theorem dd_X3_pop : ∀ e ∈ D_X3_pop, decode (mtJ 44).2.1 e.1 = .ok e.2 := by decide +kernel
set_option maxRecDepth 10000 in
theorem so_X3_pop : ∀ e ∈ o_X3_pop, SndO 44 e.1 e.2 := by
  refine List.forall_mem_cons.mpr ⟨s_aload_n (dd_X3_pop (0, .aload_n 0, 1) (List.mem_of_getElem? (i := 0) rfl)) rfl, ?_⟩
  refine List.forall_mem_cons.mpr ⟨s_getI (k := 2) K3 (by decide) (dd_X3_pop (1, .getfield 27, 3) (List.mem_of_getElem? (i := 1) rfl)) ow_X3_pop fl3_27 rfl, ?_⟩
  refine List.forall_mem_cons.mpr ⟨s_if_le (dd_X3_pop (4, .ifCond .le 53, 3) (List.mem_of_getElem? (i := 2) rfl)) (by decide), ?_⟩
  refine List.forall_mem_cons.mpr ⟨s_aload_n (dd_X3_pop (7, .aload_n 0, 1) (List.mem_of_getElem? (i := 3) rfl)) rfl, ?_⟩
  refine List.forall_mem_cons.mpr ⟨s_aload_n (dd_X3_pop (8, .aload_n 0, 1) (List.mem_of_getElem? (i := 4) rfl)) rfl, ?_⟩
  refine List.forall_mem_cons.mpr ⟨s_getI (k := 1) K3 (by decide) (dd_X3_pop (9, .getfield 17, 3) (List.mem_of_getElem? (i := 5) rfl)) ow_X3_pop fl3_17 rfl, ?_⟩
  refine List.forall_mem_cons.mpr ⟨s_if_le (dd_X3_pop (12, .ifCond .le 12, 3) (List.mem_of_getElem? (i := 6) rfl)) (by decide), ?_⟩
  refine List.forall_mem_cons.mpr ⟨s_aload_n (dd_X3_pop (15, .aload_n 0, 1) (List.mem_of_getElem? (i := 7) rfl)) rfl, ?_⟩
  refine List.forall_mem_cons.mpr ⟨s_getI (k := 1) K3 (by decide) (dd_X3_pop (16, .getfield 17, 3) (List.mem_of_getElem? (i := 8) rfl)) ow_X3_pop fl3_17 rfl, ?_⟩
  refine List.forall_mem_cons.mpr ⟨s_iconst (dd_X3_pop (19, .iconst 1, 1) (List.mem_of_getElem? (i := 9) rfl)) rfl, ?_⟩
  refine List.forall_mem_cons.mpr ⟨s_isub (dd_X3_pop (20, .isub, 1) (List.mem_of_getElem? (i := 10) rfl)), ?_⟩
  refine List.forall_mem_cons.mpr ⟨s_goto (dd_X3_pop (21, .goto 5, 3) (List.mem_of_getElem? (i := 11) rfl)) (by decide), ?_⟩
  refine List.forall_mem_cons.mpr ⟨s_bipush (dd_X3_pop (24, .bipush 19, 2) (List.mem_of_getElem? (i := 12) rfl)) rfl, ?_⟩
  refine List.forall_mem_cons.mpr ⟨s_putI (k := 1) K3 (by decide) (dd_X3_pop (26, .putfield 17, 3) (List.mem_of_getElem? (i := 13) rfl)) ow_X3_pop fl3_17 (Or.inl rfl) rfl, ?_⟩
  refine List.forall_mem_cons.mpr ⟨s_aload_n (dd_X3_pop (29, .aload_n 0, 1) (List.mem_of_getElem? (i := 14) rfl)) rfl, ?_⟩
  refine List.forall_mem_cons.mpr ⟨s_dup (dd_X3_pop (30, .dup, 1) (List.mem_of_getElem? (i := 15) rfl)), ?_⟩
  refine List.forall_mem_cons.mpr ⟨s_getI (k := 2) K3 (by decide) (dd_X3_pop (31, .getfield 27, 3) (List.mem_of_getElem? (i := 16) rfl)) ow_X3_pop fl3_27 rfl, ?_⟩
  refine List.forall_mem_cons.mpr ⟨s_iconst (dd_X3_pop (34, .iconst 1, 1) (List.mem_of_getElem? (i := 17) rfl)) rfl, ?_⟩
  refine List.forall_mem_cons.mpr ⟨s_isub (dd_X3_pop (35, .isub, 1) (List.mem_of_getElem? (i := 18) rfl)), ?_⟩
  refine List.forall_mem_cons.mpr ⟨s_putI (k := 2) K3 (by decide) (dd_X3_pop (36, .putfield 27, 3) (List.mem_of_getElem? (i := 19) rfl)) ow_X3_pop fl3_27 (Or.inl rfl) rfl, ?_⟩
  refine List.forall_mem_cons.mpr ⟨s_aload_n (dd_X3_pop (39, .aload_n 0, 1) (List.mem_of_getElem? (i := 20) rfl)) rfl, ?_⟩
  refine List.forall_mem_cons.mpr ⟨s_getR (k := 0) K3 (by decide) (dd_X3_pop (40, .getfield 11, 3) (List.mem_of_getElem? (i := 21) rfl)) ow_X3_pop fl3_11 rfl, ?_⟩
  refine List.forall_mem_cons.mpr ⟨s_aload_n (dd_X3_pop (43, .aload_n 0, 1) (List.mem_of_getElem? (i := 22) rfl)) rfl, ?_⟩
  refine List.forall_mem_cons.mpr ⟨s_getI (k := 1) K3 (by decide) (dd_X3_pop (44, .getfield 17, 3) (List.mem_of_getElem? (i := 23) rfl)) ow_X3_pop fl3_17 rfl, ?_⟩
  refine List.forall_mem_cons.mpr ⟨s_bipush (dd_X3_pop (47, .bipush 22, 2) (List.mem_of_getElem? (i := 24) rfl)) rfl, ?_⟩
  refine List.forall_mem_cons.mpr ⟨s_imul (dd_X3_pop (49, .imul, 1) (List.mem_of_getElem? (i := 25) rfl)), ?_⟩
  refine List.forall_mem_cons.mpr ⟨s_aload_n (dd_X3_pop (50, .aload_n 1, 1) (List.mem_of_getElem? (i := 26) rfl)) rfl, ?_⟩
  refine List.forall_mem_cons.mpr ⟨s_iconst (dd_X3_pop (51, .iconst 0, 1) (List.mem_of_getElem? (i := 27) rfl)) rfl, ?_⟩
  refine List.forall_mem_cons.mpr ⟨s_bipush (dd_X3_pop (52, .bipush 22, 2) (List.mem_of_getElem? (i := 28) rfl)) rfl, ?_⟩
  refine List.forall_mem_cons.mpr ⟨s_copy (dd_X3_pop (54, .invokestatic 21, 3) (List.mem_of_getElem? (i := 29) rfl)) ow_X3_pop ml3_21 cp1 cp2 cp3, ?_⟩
  refine List.forall_mem_cons.mpr ⟨Or.inl ⟨rfl, (dd_X3_pop (57, .return_, 1) (List.mem_of_getElem? (i := 30) rfl)), rfl⟩, ?_⟩
  exact fun _ h => absurd h List.not_mem_nil
theorem ow_X3_wipe : (mtJ 45).1.cls = "SatchelSins$Past" := rfl
def D_X3_wipe : List (Nat × Instr × Nat) := [(0, .aload_n 0, 1), (1, .iconst 0, 1), (2, .putfield 17, 3), (5, .aload_n 0, 1), (6, .iconst 0, 1), (7, .putfield 27, 3), (10, .return_, 1)]
theorem dd_X3_wipe : ∀ e ∈ D_X3_wipe, decode (mtJ 45).2.1 e.1 = .ok e.2 := by decide +kernel
set_option maxRecDepth 10000 in
theorem so_X3_wipe : ∀ e ∈ o_X3_wipe, SndO 45 e.1 e.2 := by
  refine List.forall_mem_cons.mpr ⟨s_aload_n (dd_X3_wipe (0, .aload_n 0, 1) (List.mem_of_getElem? (i := 0) rfl)) rfl, ?_⟩
  refine List.forall_mem_cons.mpr ⟨s_iconst (dd_X3_wipe (1, .iconst 0, 1) (List.mem_of_getElem? (i := 1) rfl)) rfl, ?_⟩
  refine List.forall_mem_cons.mpr ⟨s_putI (k := 1) K3 (by decide) (dd_X3_wipe (2, .putfield 17, 3) (List.mem_of_getElem? (i := 2) rfl)) ow_X3_wipe fl3_17 (Or.inl rfl) rfl, ?_⟩
  refine List.forall_mem_cons.mpr ⟨s_aload_n (dd_X3_wipe (5, .aload_n 0, 1) (List.mem_of_getElem? (i := 3) rfl)) rfl, ?_⟩
  refine List.forall_mem_cons.mpr ⟨s_iconst (dd_X3_wipe (6, .iconst 0, 1) (List.mem_of_getElem? (i := 4) rfl)) rfl, ?_⟩
  refine List.forall_mem_cons.mpr ⟨s_putI (k := 2) K3 (by decide) (dd_X3_wipe (7, .putfield 27, 3) (List.mem_of_getElem? (i := 5) rfl)) ow_X3_wipe fl3_27 (Or.inl rfl) rfl, ?_⟩
  refine List.forall_mem_cons.mpr ⟨Or.inl ⟨rfl, (dd_X3_wipe (10, .return_, 1) (List.mem_of_getElem? (i := 6) rfl)), rfl⟩, ?_⟩
  exact fun _ h => absurd h List.not_mem_nil
theorem ow_X4_init : (mtJ 46).1.cls = "SatchelSins$Reader" := rfl
def D_X4_init : List (Nat × Instr × Nat) := [(0, .aload_n 0, 1), (1, .invokespecial 3, 3), (4, .aload_n 0, 1), (5, .aload_n 1, 1), (6, .putfield 9, 3), (9, .aload_n 0, 1), (10, .aload_n 2, 1), (11, .putfield 15, 3), (14, .return_, 1)]
theorem dd_X4_init : ∀ e ∈ D_X4_init, decode (mtJ 46).2.1 e.1 = .ok e.2 := by decide +kernel
set_option maxRecDepth 10000 in
theorem so_X4_init : ∀ e ∈ o_X4_init, SndO 46 e.1 e.2 := by
  refine List.forall_mem_cons.mpr ⟨s_aload_n (dd_X4_init (0, .aload_n 0, 1) (List.mem_of_getElem? (i := 0) rfl)) rfl, ?_⟩
  refine List.forall_mem_cons.mpr ⟨s_obj (dd_X4_init (1, .invokespecial 3, 3) (List.mem_of_getElem? (i := 1) rfl)) ow_X4_init ml4_3 oi1 oi2, ?_⟩
  refine List.forall_mem_cons.mpr ⟨s_aload_n (dd_X4_init (4, .aload_n 0, 1) (List.mem_of_getElem? (i := 2) rfl)) rfl, ?_⟩
  refine List.forall_mem_cons.mpr ⟨s_aload_n (dd_X4_init (5, .aload_n 1, 1) (List.mem_of_getElem? (i := 3) rfl)) rfl, ?_⟩
  refine List.forall_mem_cons.mpr ⟨s_putR (k := 0) K4 (by decide) (dd_X4_init (6, .putfield 9, 3) (List.mem_of_getElem? (i := 4) rfl)) ow_X4_init fl4_9 (Or.inr ⟨rfl, rfl, rfl⟩) rfl (fun _ => rfl) (fun _ => rfl), ?_⟩
  refine List.forall_mem_cons.mpr ⟨s_aload_n (dd_X4_init (9, .aload_n 0, 1) (List.mem_of_getElem? (i := 5) rfl)) rfl, ?_⟩
  refine List.forall_mem_cons.mpr ⟨s_aload_n (dd_X4_init (10, .aload_n 2, 1) (List.mem_of_getElem? (i := 6) rfl)) rfl, ?_⟩
  refine List.forall_mem_cons.mpr ⟨s_putR (k := 1) K4 (by decide) (dd_X4_init (11, .putfield 15, 3) (List.mem_of_getElem? (i := 7) rfl)) ow_X4_init fl4_15 (Or.inr ⟨rfl, rfl, rfl⟩) rfl (fun _ => rfl) (fun _ => rfl), ?_⟩
  refine List.forall_mem_cons.mpr ⟨Or.inl ⟨rfl, (dd_X4_init (14, .return_, 1) (List.mem_of_getElem? (i := 8) rfl)), rfl⟩, ?_⟩
  exact fun _ h => absurd h List.not_mem_nil
theorem ow_X4_readText : (mtJ 47).1.cls = "SatchelSins$Reader" := rfl
def D_X4_readText : List (Nat × Instr × Nat) := [(0, .aload_n 0, 1), (1, .iload_n 1, 1), (2, .aload_n 0, 1), (3, .getfield 9, 3), (6, .arraylength, 1), (7, .invokestatic 19, 3), (10, .putfield 25, 3), (13, .aload_n 0, 1), (14, .iconst 0, 1), (15, .putfield 29, 3), (18, .aload_n 0, 1), (19, .iconst 0, 1), (20, .putfield 32, 3), (23, .aload_n 0, 1), (24, .iconst (-1), 1), (25, .putfield 35, 3), (28, .aload_n 0, 1), (29, .getfield 15, 3), (32, .invokevirtual 38, 3), (35, .aload_n 0, 1), (36, .invokevirtual 43, 3), (39, .iconst 0, 1), (40, .istore_n 2, 1), (41, .iload_n 2, 1), (42, .aload_n 0, 1), (43, .getfield 25, 3), (46, .if_icmp .ge 35, 3), (49, .aload_n 0, 1), (50, .getfield 29, 3), (53, .aload_n 0, 1), (54, .getfield 25, 3), (57, .if_icmp .ge 24, 3), (60, .aload_n 0, 1), (61, .getfield 32, 3), (64, .ifCond .ne 17, 3), (67, .aload_n 0, 1), (68, .invokevirtual 46, 3), (71, .aload_n 0, 1), (72, .invokevirtual 43, 3), (75, .iinc 2 1, 3), (78, .goto (-37), 3), (81, .aload_n 0, 1), (82, .getfield 32, 3), (85, .ireturn, 1)]
theorem dd_X4_readText : ∀ e ∈ D_X4_readText, decode (mtJ 47).2.1 e.1 = .ok e.2 := by decide +kernel
set_option maxRecDepth 10000 in
theorem so_X4_readText : ∀ e ∈ o_X4_readText, SndO 47 e.1 e.2 := by
  refine List.forall_mem_cons.mpr ⟨s_aload_n (dd_X4_readText (0, .aload_n 0, 1) (List.mem_of_getElem? (i := 0) rfl)) rfl, ?_⟩
  refine List.forall_mem_cons.mpr ⟨s_iload_n (dd_X4_readText (1, .iload_n 1, 1) (List.mem_of_getElem? (i := 1) rfl)) rfl, ?_⟩
  refine List.forall_mem_cons.mpr ⟨s_aload_n (dd_X4_readText (2, .aload_n 0, 1) (List.mem_of_getElem? (i := 2) rfl)) rfl, ?_⟩
  refine List.forall_mem_cons.mpr ⟨s_getR (k := 0) K4 (by decide) (dd_X4_readText (3, .getfield 9, 3) (List.mem_of_getElem? (i := 3) rfl)) ow_X4_readText fl4_9 rfl, ?_⟩
  refine List.forall_mem_cons.mpr ⟨s_alen (dd_X4_readText (6, .arraylength, 1) (List.mem_of_getElem? (i := 4) rfl)), ?_⟩
  refine List.forall_mem_cons.mpr ⟨s_min (dd_X4_readText (7, .invokestatic 19, 3) (List.mem_of_getElem? (i := 5) rfl)) ow_X4_readText ml4_19 mmin1 mmin2 mmin3, ?_⟩
  refine List.forall_mem_cons.mpr ⟨s_putI (k := 2) K4 (by decide) (dd_X4_readText (10, .putfield 25, 3) (List.mem_of_getElem? (i := 6) rfl)) ow_X4_readText fl4_25 (Or.inl rfl) rfl, ?_⟩
  refine List.forall_mem_cons.mpr ⟨s_aload_n (dd_X4_readText (13, .aload_n 0, 1) (List.mem_of_getElem? (i := 7) rfl)) rfl, ?_⟩
  refine List.forall_mem_cons.mpr ⟨s_iconst (dd_X4_readText (14, .iconst 0, 1) (List.mem_of_getElem? (i := 8) rfl)) rfl, ?_⟩
  refine List.forall_mem_cons.mpr ⟨s_putI (k := 3) K4 (by decide) (dd_X4_readText (15, .putfield 29, 3) (List.mem_of_getElem? (i := 9) rfl)) ow_X4_readText fl4_29 (Or.inl rfl) rfl, ?_⟩
  refine List.forall_mem_cons.mpr ⟨s_aload_n (dd_X4_readText (18, .aload_n 0, 1) (List.mem_of_getElem? (i := 10) rfl)) rfl, ?_⟩
  refine List.forall_mem_cons.mpr ⟨s_iconst (dd_X4_readText (19, .iconst 0, 1) (List.mem_of_getElem? (i := 11) rfl)) rfl, ?_⟩
  refine List.forall_mem_cons.mpr ⟨s_putI (k := 5) K4 (by decide) (dd_X4_readText (20, .putfield 32, 3) (List.mem_of_getElem? (i := 12) rfl)) ow_X4_readText fl4_32 (Or.inl rfl) rfl, ?_⟩
  refine List.forall_mem_cons.mpr ⟨s_aload_n (dd_X4_readText (23, .aload_n 0, 1) (List.mem_of_getElem? (i := 13) rfl)) rfl, ?_⟩
  refine List.forall_mem_cons.mpr ⟨s_iconst (dd_X4_readText (24, .iconst (-1), 1) (List.mem_of_getElem? (i := 14) rfl)) rfl, ?_⟩
  refine List.forall_mem_cons.mpr ⟨s_putI (k := 6) K4 (by decide) (dd_X4_readText (25, .putfield 35, 3) (List.mem_of_getElem? (i := 15) rfl)) ow_X4_readText fl4_35 (Or.inl rfl) rfl, ?_⟩
  refine List.forall_mem_cons.mpr ⟨s_aload_n (dd_X4_readText (28, .aload_n 0, 1) (List.mem_of_getElem? (i := 16) rfl)) rfl, ?_⟩
  refine List.forall_mem_cons.mpr ⟨s_getR (k := 1) K4 (by decide) (dd_X4_readText (29, .getfield 15, 3) (List.mem_of_getElem? (i := 17) rfl)) ow_X4_readText fl4_15 rfl, ?_⟩
  refine List.forall_mem_cons.mpr ⟨⟨s_callV (ci := 5) rfl mo62 rfl rfl (dd_X4_readText (32, .invokevirtual 38, 3) (List.mem_of_getElem? (i := 18) rfl)) ow_X4_readText ml4_38 mi62 msl62 in_5 mn62, mo62⟩, ?_⟩
  refine List.forall_mem_cons.mpr ⟨s_aload_n (dd_X4_readText (35, .aload_n 0, 1) (List.mem_of_getElem? (i := 19) rfl)) rfl, ?_⟩
  refine List.forall_mem_cons.mpr ⟨⟨s_callV (ci := 4) rfl mo58 rfl rfl (dd_X4_readText (36, .invokevirtual 43, 3) (List.mem_of_getElem? (i := 20) rfl)) ow_X4_readText ml4_43 mi58 msl58 in_4 mn58, mo58⟩, ?_⟩
  refine List.forall_mem_cons.mpr ⟨s_iconst (dd_X4_readText (39, .iconst 0, 1) (List.mem_of_getElem? (i := 21) rfl)) rfl, ?_⟩
  refine List.forall_mem_cons.mpr ⟨s_istore_n (dd_X4_readText (40, .istore_n 2, 1) (List.mem_of_getElem? (i := 22) rfl)) rfl, ?_⟩
  refine List.forall_mem_cons.mpr ⟨s_iload_n (dd_X4_readText (41, .iload_n 2, 1) (List.mem_of_getElem? (i := 23) rfl)) rfl, ?_⟩
  refine List.forall_mem_cons.mpr ⟨s_aload_n (dd_X4_readText (42, .aload_n 0, 1) (List.mem_of_getElem? (i := 24) rfl)) rfl, ?_⟩
  refine List.forall_mem_cons.mpr ⟨s_getI (k := 2) K4 (by decide) (dd_X4_readText (43, .getfield 25, 3) (List.mem_of_getElem? (i := 25) rfl)) ow_X4_readText fl4_25 rfl, ?_⟩
  refine List.forall_mem_cons.mpr ⟨s_icmp_ge (dd_X4_readText (46, .if_icmp .ge 35, 3) (List.mem_of_getElem? (i := 26) rfl)) (by decide), ?_⟩
  refine List.forall_mem_cons.mpr ⟨s_aload_n (dd_X4_readText (49, .aload_n 0, 1) (List.mem_of_getElem? (i := 27) rfl)) rfl, ?_⟩
  refine List.forall_mem_cons.mpr ⟨s_getI (k := 3) K4 (by decide) (dd_X4_readText (50, .getfield 29, 3) (List.mem_of_getElem? (i := 28) rfl)) ow_X4_readText fl4_29 rfl, ?_⟩
  refine List.forall_mem_cons.mpr ⟨s_aload_n (dd_X4_readText (53, .aload_n 0, 1) (List.mem_of_getElem? (i := 29) rfl)) rfl, ?_⟩
  refine List.forall_mem_cons.mpr ⟨s_getI (k := 2) K4 (by decide) (dd_X4_readText (54, .getfield 25, 3) (List.mem_of_getElem? (i := 30) rfl)) ow_X4_readText fl4_25 rfl, ?_⟩
  refine List.forall_mem_cons.mpr ⟨s_icmp_ge (dd_X4_readText (57, .if_icmp .ge 24, 3) (List.mem_of_getElem? (i := 31) rfl)) (by decide), ?_⟩
  refine List.forall_mem_cons.mpr ⟨s_aload_n (dd_X4_readText (60, .aload_n 0, 1) (List.mem_of_getElem? (i := 32) rfl)) rfl, ?_⟩
  refine List.forall_mem_cons.mpr ⟨s_getI (k := 5) K4 (by decide) (dd_X4_readText (61, .getfield 32, 3) (List.mem_of_getElem? (i := 33) rfl)) ow_X4_readText fl4_32 rfl, ?_⟩
  refine List.forall_mem_cons.mpr ⟨s_if_ne (dd_X4_readText (64, .ifCond .ne 17, 3) (List.mem_of_getElem? (i := 34) rfl)) (by decide), ?_⟩
  refine List.forall_mem_cons.mpr ⟨s_aload_n (dd_X4_readText (67, .aload_n 0, 1) (List.mem_of_getElem? (i := 35) rfl)) rfl, ?_⟩
  refine List.forall_mem_cons.mpr ⟨⟨s_callV (ci := 4) rfl mo49 rfl rfl (dd_X4_readText (68, .invokevirtual 46, 3) (List.mem_of_getElem? (i := 36) rfl)) ow_X4_readText ml4_46 mi49 msl49 in_4 mn49, mo49⟩, ?_⟩
  refine List.forall_mem_cons.mpr ⟨s_aload_n (dd_X4_readText (71, .aload_n 0, 1) (List.mem_of_getElem? (i := 37) rfl)) rfl, ?_⟩
  refine List.forall_mem_cons.mpr ⟨⟨s_callV (ci := 4) rfl mo58 rfl rfl (dd_X4_readText (72, .invokevirtual 43, 3) (List.mem_of_getElem? (i := 38) rfl)) ow_X4_readText ml4_43 mi58 msl58 in_4 mn58, mo58⟩, ?_⟩
  refine List.forall_mem_cons.mpr ⟨s_iinc (dd_X4_readText (75, .iinc 2 1, 3) (List.mem_of_getElem? (i := 39) rfl)) rfl, ?_⟩
  refine List.forall_mem_cons.mpr ⟨s_goto (dd_X4_readText (78, .goto (-37), 3) (List.mem_of_getElem? (i := 40) rfl)) (by decide), ?_⟩
  refine List.forall_mem_cons.mpr ⟨s_aload_n (dd_X4_readText (81, .aload_n 0, 1) (List.mem_of_getElem? (i := 41) rfl)) rfl, ?_⟩
  refine List.forall_mem_cons.mpr ⟨s_getI (k := 5) K4 (by decide) (dd_X4_readText (82, .getfield 32, 3) (List.mem_of_getElem? (i := 42) rfl)) ow_X4_readText fl4_32 rfl, ?_⟩
  refine List.forall_mem_cons.mpr ⟨Or.inr (Or.inl ⟨rfl, (dd_X4_readText (85, .ireturn, 1) (List.mem_of_getElem? (i := 43) rfl)), rfl⟩), ?_⟩
  exact fun _ h => absurd h List.not_mem_nil
theorem ow_X4_faultPlace : (mtJ 48).1.cls = "SatchelSins$Reader" := rfl
def D_X4_faultPlace : List (Nat × Instr × Nat) := [(0, .aload_n 0, 1), (1, .getfield 35, 3), (4, .ireturn, 1)]
theorem dd_X4_faultPlace : ∀ e ∈ D_X4_faultPlace, decode (mtJ 48).2.1 e.1 = .ok e.2 := by decide +kernel
set_option maxRecDepth 10000 in
theorem so_X4_faultPlace : ∀ e ∈ o_X4_faultPlace, SndO 48 e.1 e.2 := by
  refine List.forall_mem_cons.mpr ⟨s_aload_n (dd_X4_faultPlace (0, .aload_n 0, 1) (List.mem_of_getElem? (i := 0) rfl)) rfl, ?_⟩
  refine List.forall_mem_cons.mpr ⟨s_getI (k := 6) K4 (by decide) (dd_X4_faultPlace (1, .getfield 35, 3) (List.mem_of_getElem? (i := 1) rfl)) ow_X4_faultPlace fl4_35 rfl, ?_⟩
  refine List.forall_mem_cons.mpr ⟨Or.inr (Or.inl ⟨rfl, (dd_X4_faultPlace (4, .ireturn, 1) (List.mem_of_getElem? (i := 2) rfl)), rfl⟩), ?_⟩
  exact fun _ h => absurd h List.not_mem_nil

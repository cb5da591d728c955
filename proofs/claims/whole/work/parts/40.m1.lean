/-! THE REFERENCE: its methods, written by program (wip/whole/gen) -/
theorem r_X9_in {L : Nat} (h : AH) (v : Int64) (a : Int64) (b : Int64)  : Rt L 0 118 [.long v, .long a, .long b] h (some (b2i (a ≤ v ∧ v ≤ b))) h := by
  refine T_run 3 (st' := (3, [.long v, un_, .long a, un_, .long b, un_], [.int (lg_cmp v a)], S0 L, h)) rfl ?_
  refine T_ifP (c := (lg_cmp v a) < 0) (P := v < a) (t := 17) (f := 6) (L := [.long v, un_, .long a, un_, .long b, un_]) (S := []) (G := S0 L) (h := h) rfl (lg_cmp_lt _ _) (fun q3 => ?_) (fun q3 => ?_)
  · refine T_run 1 (st' := (18, [.long v, un_, .long a, un_, .long b, un_], [.int 0], S0 L, h)) rfl ?_
    exact T_retR rfl rfl (by simp only [b2i]; first | rw [if_pos (by exact ⟨Int64.not_lt.mp q3, Int64.not_lt.mp q10⟩)] | rw [if_neg (fun z => absurd z.1 (Int64.not_le.mpr q3))] | rw [if_neg (fun z => absurd z.2 (Int64.not_le.mpr q10))]) rfl
  · refine T_run 3 (st' := (10, [.long v, un_, .long a, un_, .long b, un_], [.int (lg_cmp v b)], S0 L, h)) rfl ?_
    refine T_ifP (c := 0 < (lg_cmp v b)) (P := b < v) (t := 17) (f := 13) (L := [.long v, un_, .long a, un_, .long b, un_]) (S := []) (G := S0 L) (h := h) rfl (lg_cmp_gt _ _) (fun q10 => ?_) (fun q10 => ?_)
    · refine T_run 1 (st' := (18, [.long v, un_, .long a, un_, .long b, un_], [.int 0], S0 L, h)) rfl ?_
      exact T_retR rfl rfl (by simp only [b2i]; first | rw [if_pos (by exact ⟨Int64.not_lt.mp q3, Int64.not_lt.mp q10⟩)] | rw [if_neg (fun z => absurd z.1 (Int64.not_le.mpr q3))] | rw [if_neg (fun z => absurd z.2 (Int64.not_le.mpr q10))]) rfl
    · refine T_run 2 (st' := (18, [.long v, un_, .long a, un_, .long b, un_], [.int 1], S0 L, h)) rfl ?_
      exact T_retR rfl rfl (by simp only [b2i]; first | rw [if_pos (by exact ⟨Int64.not_lt.mp q3, Int64.not_lt.mp q10⟩)] | rw [if_neg (fun z => absurd z.1 (Int64.not_le.mpr q3))] | rw [if_neg (fun z => absurd z.2 (Int64.not_le.mpr q10))]) rfl
theorem r_X9_isChild {L : Nat} (h : AH) (x : Int32) (c0 : Nat) (hc : h 43 2 = nI c0) (h5 : c0 ≤ 5) : Rt L 1 120 [.ref 43, .int x] h (some (b2i (inS x c0))) h := by
  refine T_run 8 (st' := (10, [.ref 43, .int x], [.long (Int32.toInt64 ((h 43 2) - 1)), .long 0, .long (Int32.toInt64 x)], S0 L, h)) rfl ?_
  refine T_callR (S' := [.int (b2i (0 ≤ (Int32.toInt64 x) ∧ (Int32.toInt64 x) ≤ (Int32.toInt64 ((h 43 2) - 1))))]) (h' := h) (r_X9_in (L := L) h (Int32.toInt64 x) 0 (Int32.toInt64 ((h 43 2) - 1)) ) (by decide) rfl rfl rfl rfl rfl rfl rfl ?_
  exact T_retB rfl (by unfold b2i; split <;> simp) (by rw [hc]; exact congrArg some (b2i_congr (inL_iff (by omega)))) rfl
theorem r_X9_isDeed {L : Nat} (h : AH) (x : Int32) (n : Nat) (hn : h 43 6 = nI n) (h7 : n ≤ 7) : Rt L 1 121 [.ref 43, .int x] h (some (b2i (inS x n))) h := by
  refine T_run 8 (st' := (10, [.ref 43, .int x], [.long (Int32.toInt64 ((h 43 6) - 1)), .long 0, .long (Int32.toInt64 x)], S0 L, h)) rfl ?_
  refine T_callR (S' := [.int (b2i (0 ≤ (Int32.toInt64 x) ∧ (Int32.toInt64 x) ≤ (Int32.toInt64 ((h 43 6) - 1))))]) (h' := h) (r_X9_in (L := L) h (Int32.toInt64 x) 0 (Int32.toInt64 ((h 43 6) - 1)) ) (by decide) rfl rfl rfl rfl rfl rfl rfl ?_
  exact T_retB rfl (by unfold b2i; split <;> simp) (by rw [hn]; exact congrArg some (b2i_congr (inL_iff (by omega)))) rfl
theorem r_X9_fails {L : Nat} (h : AH) (x : Int32) (wh : Int32)  : Rt L 0 124 [.ref 43, .int x, .int wh] h (some x) (st_ h 43 13 wh) := by
  refine T_run 4 (st' := (6, [.ref 43, .int x, .int wh], [.int x], S0 L, (st_ h 43 13 wh))) rfl ?_
  exact T_retR rfl rfl rfl rfl
theorem r_X9_fault {L : Nat} (h : AH)   : Rt L 0 134 [.ref 43] h (some (h 43 13)) h := by
  refine T_run 2 (st' := (4, [.ref 43], [.int (h 43 13)], S0 L, h)) rfl ?_
  exact T_retR rfl rfl rfl rfl
theorem r_X9_isWith {L : Nat} (h : AH) (d : Nat) (is : Int32) (c : Int32) (hd : d < 7) : Rt L 0 135 [.ref 43, .int (nI d), .int is, .int c] h (some (b2i (h 49 d = is ∧ h 49 (7 + d) = c))) h := by
  refine T_run 3 (st' := (5, [.ref 43, .int (nI d), .int is, .int c], [.int (nI d), .ref 49], S0 L, h)) rfl ?_
  refine T_ald (n := d) rfl rfl rfl (by omega) (by decide) rfl ?_
  refine T_run 1 (st' := (7, [.ref 43, .int (nI d), .int is, .int c], [.int is, .int (h 49 d)], S0 L, h)) rfl ?_
  refine T_ifne (c := (h 49 d) = is) (t := 27) (f := 10) (L := [.ref 43, .int (nI d), .int is, .int c]) (S := []) (G := S0 L) (h := h) rfl (fun q7 => ?_) (fun q7 => ?_)
  · refine T_run 1 (st' := (28, [.ref 43, .int (nI d), .int is, .int c], [.int 0], S0 L, h)) rfl ?_
    exact T_retR rfl rfl (by first | rfl | simp [b2i, *]) rfl
  · refine T_run 5 (st' := (18, [.ref 43, .int (nI d), .int is, .int c], [.int (7 + (nI d)), .ref 49], S0 L, h)) rfl ?_
    refine T_ald (n := 7 + d) rfl rfl (nI_addE rfl rfl) (by omega) (by decide) rfl ?_
    refine T_run 1 (st' := (20, [.ref 43, .int (nI d), .int is, .int c], [.int c, .int (h 49 (7 + d))], S0 L, h)) rfl ?_
    refine T_ifne (c := (h 49 (7 + d)) = c) (t := 27) (f := 23) (L := [.ref 43, .int (nI d), .int is, .int c]) (S := []) (G := S0 L) (h := h) rfl (fun q20 => ?_) (fun q20 => ?_)
    · refine T_run 1 (st' := (28, [.ref 43, .int (nI d), .int is, .int c], [.int 0], S0 L, h)) rfl ?_
      exact T_retR rfl rfl (by first | rfl | simp [b2i, *]) rfl
    · refine T_run 2 (st' := (28, [.ref 43, .int (nI d), .int is, .int c], [.int 1], S0 L, h)) rfl ?_
      exact T_retR rfl rfl (by first | rfl | simp [b2i, *]) rfl
theorem r_X9_load {L : Nat} (h : AH) (c : Int32) (n : Nat) (hn : h 43 6 = nI n) (h7 : n ≤ 7) : Rt L 1 137 [.ref 43, .int c] h (some (loadS (h 49) (fun z_ => (h 49) (7 + z_)) (h 48) c n)) h := by
  refine T_run 4 (st' := (4, [.ref 43, .int c, .int 0, .int 0], [], S0 L, h)) rfl ?_
  refine T_loop (fun k => (4, [.ref 43, .int c, .int (loadS (h 49) (fun z_ => (h 49) (7 + z_)) (h 48) c k), .int (nI k)], [], S0 L, h)) n ?_ ?_
  · intro k hk ih
    refine T_run 3 (st' := (9, [.ref 43, .int c, .int (loadS (h 49) (fun z_ => (h 49) (7 + z_)) (h 48) c k), .int (nI k)], [.int (h 43 6), .int (nI k)], S0 L, h)) rfl ?_
    refine T_iffP (c := (h 43 6) ≤ (nI k)) (P := n ≤ k) (t := 41) (f := 12) (L := [.ref 43, .int c, .int (loadS (h 49) (fun z_ => (h 49) (7 + z_)) (h 48) c k), .int (nI k)]) (S := []) (G := S0 L) (h := h) rfl (nI_leE hn rfl (by omega) (by omega)) (by omega) ?_
    refine T_run 5 (st' := (17, [.ref 43, .int c, .int (loadS (h 49) (fun z_ => (h 49) (7 + z_)) (h 48) c k), .int (nI k)], [.int c, .int 1, .int (nI k), .ref 43, .int (loadS (h 49) (fun z_ => (h 49) (7 + z_)) (h 48) c k)], S0 L, h)) rfl ?_
    refine T_callR (S' := [.int (b2i (h 49 k = 1 ∧ h 49 (7 + k) = c)), .int (loadS (h 49) (fun z_ => (h 49) (7 + z_)) (h 48) c k)]) (h' := h) (r_X9_isWith (L := L) h k 1 c (by omega)) (by decide) rfl rfl rfl rfl rfl rfl rfl ?_
    refine T_ifz (P := (h 49 k = 1 ∧ h 49 (7 + k) = c)) (t := 32) (f := 23) (L := [.ref 43, .int c, .int (loadS (h 49) (fun z_ => (h 49) (7 + z_)) (h 48) c k), .int (nI k)]) (S := [.int (loadS (h 49) (fun z_ => (h 49) (7 + z_)) (h 48) c k)]) (G := S0 L) (h := h) rfl (fun q20 => ?_) (fun q20 => ?_)
    · refine T_run 5 (st' := (4, [.ref 43, .int c, .int ((loadS (h 49) (fun z_ => (h 49) (7 + z_)) (h 48) c k) + 0), .int (nI k + 1)], [], S0 L, h)) rfl ?_
      exact T_st (by simp [loadS, nI_1, *]) ih
    · refine T_run 3 (st' := (28, [.ref 43, .int c, .int (loadS (h 49) (fun z_ => (h 49) (7 + z_)) (h 48) c k), .int (nI k)], [.int (nI k), .ref 48, .int (loadS (h 49) (fun z_ => (h 49) (7 + z_)) (h 48) c k)], S0 L, h)) rfl ?_
      refine T_ald (n := k) rfl rfl rfl (by omega) (by decide) rfl ?_
      refine T_run 5 (st' := (4, [.ref 43, .int c, .int ((loadS (h 49) (fun z_ => (h 49) (7 + z_)) (h 48) c k) + (h 48 k)), .int (nI k + 1)], [], S0 L, h)) rfl ?_
      exact T_st (by simp [loadS, nI_1, *]) ih
  · skip
    refine T_run 3 (st' := (9, [.ref 43, .int c, .int (loadS (h 49) (fun z_ => (h 49) (7 + z_)) (h 48) c n), .int (nI n)], [.int (h 43 6), .int (nI n)], S0 L, h)) rfl ?_
    refine T_iftP (c := (h 43 6) ≤ (nI n)) (P := n ≤ n) (t := 41) (f := 12) (L := [.ref 43, .int c, .int (loadS (h 49) (fun z_ => (h 49) (7 + z_)) (h 48) c n), .int (nI n)]) (S := []) (G := S0 L) (h := h) rfl (nI_leE hn rfl (by omega) (by omega)) (by omega) ?_
    refine T_run 1 (st' := (42, [.ref 43, .int c, .int (loadS (h 49) (fun z_ => (h 49) (7 + z_)) (h 48) c n), .int (nI n)], [.int (loadS (h 49) (fun z_ => (h 49) (7 + z_)) (h 48) c n)], S0 L, h)) rfl ?_
    exact T_retR rfl rfl rfl rfl
theorem r_X9_deedsWith {L : Nat} (h : AH) (is : Int32) (c : Int32) (n : Nat) (hn : h 43 6 = nI n) (h7 : n ≤ 7) : Rt L 1 136 [.ref 43, .int is, .int c] h (some (setS (fun z_ => decide ((h 49) z_ = is ∧ (h 49) (7 + z_) = c)) n)) h := by
  refine T_run 4 (st' := (5, [.ref 43, .int is, .int c, .int 0, .int 0], [], S0 L, h)) rfl ?_
  refine T_loop (fun k => (5, [.ref 43, .int is, .int c, .int (setS (fun z_ => decide (h 49 z_ = is ∧ h 49 (7 + z_) = c)) k), .int (nI k)], [], S0 L, h)) n ?_ ?_
  · intro k hk ih
    refine T_run 3 (st' := (11, [.ref 43, .int is, .int c, .int (setS (fun z_ => decide (h 49 z_ = is ∧ h 49 (7 + z_) = c)) k), .int (nI k)], [.int (h 43 6), .int (nI k)], S0 L, h)) rfl ?_
    refine T_iffP (c := (h 43 6) ≤ (nI k)) (P := n ≤ k) (t := 42) (f := 14) (L := [.ref 43, .int is, .int c, .int (setS (fun z_ => decide (h 49 z_ = is ∧ h 49 (7 + z_) = c)) k), .int (nI k)]) (S := []) (G := S0 L) (h := h) rfl (nI_leE hn rfl (by omega) (by omega)) (by omega) ?_
    refine T_run 5 (st' := (20, [.ref 43, .int is, .int c, .int (setS (fun z_ => decide (h 49 z_ = is ∧ h 49 (7 + z_) = c)) k), .int (nI k)], [.int c, .int is, .int (nI k), .ref 43, .int (setS (fun z_ => decide (h 49 z_ = is ∧ h 49 (7 + z_) = c)) k)], S0 L, h)) rfl ?_
    refine T_callR (S' := [.int (b2i (h 49 k = is ∧ h 49 (7 + k) = c)), .int (setS (fun z_ => decide (h 49 z_ = is ∧ h 49 (7 + z_) = c)) k)]) (h' := h) (r_X9_isWith (L := L) h k is c (by omega)) (by decide) rfl rfl rfl rfl rfl rfl rfl ?_
    refine T_ifz (P := (h 49 k = is ∧ h 49 (7 + k) = c)) (t := 33) (f := 26) (L := [.ref 43, .int is, .int c, .int (setS (fun z_ => decide (h 49 z_ = is ∧ h 49 (7 + z_) = c)) k), .int (nI k)]) (S := [.int (setS (fun z_ => decide (h 49 z_ = is ∧ h 49 (7 + z_) = c)) k)]) (G := S0 L) (h := h) rfl (fun q23 => ?_) (fun q23 => ?_)
    · refine T_run 5 (st' := (5, [.ref 43, .int is, .int c, .int ((setS (fun z_ => decide (h 49 z_ = is ∧ h 49 (7 + z_) = c)) k) ||| 0), .int (nI k + 1)], [], S0 L, h)) rfl ?_
      exact T_st (by simp [setS, nI_1, *]) ih
    · refine T_run 8 (st' := (5, [.ref 43, .int is, .int c, .int ((setS (fun z_ => decide (h 49 z_ = is ∧ h 49 (7 + z_) = c)) k) ||| (1 <<< ((nI k) &&& 31))), .int (nI k + 1)], [], S0 L, h)) rfl ?_
      exact T_st (by simp [setS, nI_1, *]) ih
  · skip
    refine T_run 3 (st' := (11, [.ref 43, .int is, .int c, .int (setS (fun z_ => decide (h 49 z_ = is ∧ h 49 (7 + z_) = c)) n), .int (nI n)], [.int (h 43 6), .int (nI n)], S0 L, h)) rfl ?_
    refine T_iftP (c := (h 43 6) ≤ (nI n)) (P := n ≤ n) (t := 42) (f := 14) (L := [.ref 43, .int is, .int c, .int (setS (fun z_ => decide (h 49 z_ = is ∧ h 49 (7 + z_) = c)) n), .int (nI n)]) (S := []) (G := S0 L) (h := h) rfl (nI_leE hn rfl (by omega) (by omega)) (by omega) ?_
    refine T_run 1 (st' := (43, [.ref 43, .int is, .int c, .int (setS (fun z_ => decide (h 49 z_ = is ∧ h 49 (7 + z_) = c)) n), .int (nI n)], [.int (setS (fun z_ => decide (h 49 z_ = is ∧ h 49 (7 + z_) = c)) n)], S0 L, h)) rfl ?_
    exact T_retR rfl rfl (by first | rfl | simp [b2i, *]) rfl
theorem r_X9_lay {L : Nat} (h : AH) (d : Nat) (is : Int32) (c : Int32) (hd : d < 7) : Rt L 0 147 [.ref 43, .int (nI d), .int is, .int c] h none (sc_ h 49 (layR d is c (h 49))) := by
  refine T_run 4 (st' := (6, [.ref 43, .int (nI d), .int is, .int c], [.int is, .int (nI d), .ref 49], S0 L, h)) rfl ?_
  refine T_ast (n := d) rfl rfl rfl (by omega) (by decide) rfl ?_
  refine T_run 6 (st' := (16, [.ref 43, .int (nI d), .int is, .int c], [.int c, .int (7 + (nI d)), .ref 49], S0 L, (st_ h 49 d is))) rfl ?_
  refine T_ast (n := 7 + d) rfl rfl (nI_addE rfl rfl) (by omega) (by decide) rfl ?_
  exact T_retR rfl rfl rfl (by rw [st_is (i := d), st_sc]; rfl)

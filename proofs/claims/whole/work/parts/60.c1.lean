/-! THE PROGRAM: day, past, images -/
theorem r_X0_days {L : Nat} (h : AH)   : Rt L 0 2 [.ref 16] h (some (h 17 19)) h := by
  refine T_run 3 (st' := (6, [.ref 16], [.int 19, .ref 17], S0 L, h)) rfl ?_
  refine T_ald (n := 19) rfl rfl rfl (by decide) (by decide) rfl ?_
  exact T_retR rfl rfl rfl rfl
theorem r_X0_takenThisDay {L : Nat} (h : AH)   : Rt L 0 3 [.ref 16] h (some (h 17 20)) h := by
  refine T_run 3 (st' := (6, [.ref 16], [.int 20, .ref 17], S0 L, h)) rfl ?_
  refine T_ald (n := 20) rfl rfl rfl (by decide) (by decide) rfl ?_
  exact T_retR rfl rfl rfl rfl
theorem r_X0_takenInAll {L : Nat} (h : AH)   : Rt L 0 4 [.ref 16] h (some (h 17 21)) h := by
  refine T_run 3 (st' := (6, [.ref 16], [.int 21, .ref 17], S0 L, h)) rfl ?_
  refine T_ald (n := 21) rfl rfl rfl (by decide) (by decide) rfl ?_
  exact T_retR rfl rfl rfl rfl
theorem r_X0_lamedDays {L : Nat} (h : AH) (c : Nat) (hc5 : c < 5) : Rt L 0 5 [.ref 16, .int (nI c)] h (some (h 17 (14 + c))) h := by
  refine T_run 5 (st' := (8, [.ref 16, .int (nI c)], [.int (14 + (nI c)), .ref 17], S0 L, h)) rfl ?_
  refine T_ald (n := 14 + c) rfl rfl (nI_addE rfl rfl) (by omega) (by decide) rfl ?_
  exact T_retR rfl rfl rfl rfl
theorem r_X0_stageOf {L : Nat} (h : AH) (d : Nat) (hd : d < 7) : Rt L 0 6 [.ref 16, .int (nI d)] h (some (h 17 d)) h := by
  refine T_run 5 (st' := (7, [.ref 16, .int (nI d)], [.int (0 + (nI d)), .ref 17], S0 L, h)) rfl ?_
  refine T_ald (n := d) rfl rfl (z_add rfl) (by omega) (by decide) rfl ?_
  exact T_retR rfl rfl rfl rfl
theorem r_X0_placeOf {L : Nat} (h : AH) (d : Nat) (hd : d < 7) : Rt L 0 7 [.ref 16, .int (nI d)] h (some (h 17 (7 + d))) h := by
  refine T_run 5 (st' := (8, [.ref 16, .int (nI d)], [.int (7 + (nI d)), .ref 17], S0 L, h)) rfl ?_
  refine T_ald (n := 7 + d) rfl rfl (nI_addE rfl rfl) (by omega) (by decide) rfl ?_
  exact T_retR rfl rfl rfl rfl
theorem r_X0_isInSatchel {L : Nat} (h : AH) (d : Nat) (hd : d < 7) : Rt L 0 8 [.ref 16, .int (nI d)] h (some (b2i (h 17 d = 1))) h := by
  refine T_run 5 (st' := (7, [.ref 16, .int (nI d)], [.int (0 + (nI d)), .ref 17], S0 L, h)) rfl ?_
  refine T_ald (n := d) rfl rfl (z_add rfl) (by omega) (by decide) rfl ?_
  refine T_run 1 (st' := (9, [.ref 16, .int (nI d)], [.int 1, .int (h 17 d)], S0 L, h)) rfl ?_
  refine T_ifne (c := (h 17 d) = 1) (t := 16) (f := 12) (L := [.ref 16, .int (nI d)]) (S := []) (G := S0 L) (h := h) rfl (fun q9 => ?_) (fun q9 => ?_)
  · refine T_run 1 (st' := (17, [.ref 16, .int (nI d)], [.int 0], S0 L, h)) rfl ?_
    exact T_retR rfl rfl (by first | rfl | simp [b2i, *]) rfl
  · refine T_run 2 (st' := (17, [.ref 16, .int (nI d)], [.int 1], S0 L, h)) rfl ?_
    exact T_retR rfl rfl (by first | rfl | simp [b2i, *]) rfl
theorem r_X0_loadOf {L : Nat} (h : AH) (c : Int32) (n : Nat) (hn : h 3 3 = nI n) (h7 : n ≤ 7) : Rt L 1 9 [.ref 16, .int c] h (some (loadS (h 17) (fun z_ => (h 17) (7 + z_)) (h 8) c n)) h := by
  refine T_run 4 (st' := (4, [.ref 16, .int c, .int 0, .int 0], [], S0 L, h)) rfl ?_
  refine T_loop (fun k => (4, [.ref 16, .int c, .int (loadS (h 17) (fun z_ => (h 17) (7 + z_)) (h 8) c k), .int (nI k)], [], S0 L, h)) n ?_ ?_
  · intro k hk ih
    refine T_run 4 (st' := (12, [.ref 16, .int c, .int (loadS (h 17) (fun z_ => (h 17) (7 + z_)) (h 8) c k), .int (nI k)], [.int (h 3 3), .int (nI k)], S0 L, h)) rfl ?_
    refine T_iffP (c := (h 3 3) ≤ (nI k)) (P := n ≤ k) (t := 50) (f := 15) (L := [.ref 16, .int c, .int (loadS (h 17) (fun z_ => (h 17) (7 + z_)) (h 8) c k), .int (nI k)]) (S := []) (G := S0 L) (h := h) rfl (nI_leE hn rfl (by omega) (by omega)) (by omega) ?_
    refine T_run 2 (st' := (17, [.ref 16, .int c, .int (loadS (h 17) (fun z_ => (h 17) (7 + z_)) (h 8) c k), .int (nI k)], [.int (nI k), .ref 16], S0 L, h)) rfl ?_
    refine T_callR (S' := [.int (b2i (h 17 k = 1))]) (h' := h) (r_X0_isInSatchel (L := L) h k (by omega)) (by decide) rfl rfl rfl rfl rfl rfl rfl ?_
    refine T_ifz (P := (h 17 k = 1)) (t := 44) (f := 23) (L := [.ref 16, .int c, .int (loadS (h 17) (fun z_ => (h 17) (7 + z_)) (h 8) c k), .int (nI k)]) (S := []) (G := S0 L) (h := h) rfl (fun q20 => ?_) (fun q20 => ?_)
    · refine T_run 2 (st' := (4, [.ref 16, .int c, .int (loadS (h 17) (fun z_ => (h 17) (7 + z_)) (h 8) c k), .int (nI k + 1)], [], S0 L, h)) rfl ?_
      exact T_st (by simp [loadS, nI_1, *]) ih
    · refine T_run 2 (st' := (25, [.ref 16, .int c, .int (loadS (h 17) (fun z_ => (h 17) (7 + z_)) (h 8) c k), .int (nI k)], [.int (nI k), .ref 16], S0 L, h)) rfl ?_
      refine T_callR (S' := [.int (h 17 (7 + k))]) (h' := h) (r_X0_placeOf (L := L) h k (by omega)) (by decide) rfl rfl rfl rfl rfl rfl rfl ?_
      refine T_run 1 (st' := (29, [.ref 16, .int c, .int (loadS (h 17) (fun z_ => (h 17) (7 + z_)) (h 8) c k), .int (nI k)], [.int c, .int (h 17 (7 + k))], S0 L, h)) rfl ?_
      refine T_ifne (c := (h 17 (7 + k)) = c) (t := 44) (f := 32) (L := [.ref 16, .int c, .int (loadS (h 17) (fun z_ => (h 17) (7 + z_)) (h 8) c k), .int (nI k)]) (S := []) (G := S0 L) (h := h) rfl (fun q29 => ?_) (fun q29 => ?_)
      · refine T_run 2 (st' := (4, [.ref 16, .int c, .int (loadS (h 17) (fun z_ => (h 17) (7 + z_)) (h 8) c k), .int (nI k + 1)], [], S0 L, h)) rfl ?_
        exact T_st (by simp [loadS, nI_1, *]) ih
      · refine T_run 5 (st' := (41, [.ref 16, .int c, .int (loadS (h 17) (fun z_ => (h 17) (7 + z_)) (h 8) c k), .int (nI k)], [.int (nI k), .ref 8, .int (loadS (h 17) (fun z_ => (h 17) (7 + z_)) (h 8) c k)], S0 L, h)) rfl ?_
        refine T_ald (n := k) rfl rfl rfl (by omega) (by decide) rfl ?_
        refine T_run 4 (st' := (4, [.ref 16, .int c, .int ((loadS (h 17) (fun z_ => (h 17) (7 + z_)) (h 8) c k) + (h 8 k)), .int (nI k + 1)], [], S0 L, h)) rfl ?_
        exact T_st (by simp [loadS, nI_1, *]) ih
  · skip
    refine T_run 4 (st' := (12, [.ref 16, .int c, .int (loadS (h 17) (fun z_ => (h 17) (7 + z_)) (h 8) c n), .int (nI n)], [.int (h 3 3), .int (nI n)], S0 L, h)) rfl ?_
    refine T_iftP (c := (h 3 3) ≤ (nI n)) (P := n ≤ n) (t := 50) (f := 15) (L := [.ref 16, .int c, .int (loadS (h 17) (fun z_ => (h 17) (7 + z_)) (h 8) c n), .int (nI n)]) (S := []) (G := S0 L) (h := h) rfl (nI_leE hn rfl (by omega) (by omega)) (by omega) ?_
    refine T_run 1 (st' := (51, [.ref 16, .int c, .int (loadS (h 17) (fun z_ => (h 17) (7 + z_)) (h 8) c n), .int (nI n)], [.int (loadS (h 17) (fun z_ => (h 17) (7 + z_)) (h 8) c n)], S0 L, h)) rfl ?_
    exact T_retR rfl rfl rfl rfl
theorem r_X0_isLamed {L : Nat} (h : AH) (c : Nat) (n : Nat) (hn : h 3 3 = nI n) (h7 : n ≤ 7) (hc5 : c < 5) : Rt L 2 10 [.ref 16, .int (nI c)] h (some (b2i (¬ loadS (h 17) (fun z_ => (h 17) (7 + z_)) (h 8) (nI c) n ≤ (h 4 c)))) h := by
  refine T_run 2 (st' := (2, [.ref 16, .int (nI c)], [.int (nI c), .ref 16], S0 L, h)) rfl ?_
  refine T_callR (S' := [.int (loadS (h 17) (fun z_ => (h 17) (7 + z_)) (h 8) (nI c) n)]) (h' := h) (r_X0_loadOf (L := L) h (nI c) n hn h7) (by decide) rfl rfl rfl rfl rfl rfl rfl ?_
  refine T_run 4 (st' := (13, [.ref 16, .int (nI c)], [.int (nI c), .ref 4, .int (loadS (h 17) (fun z_ => (h 17) (7 + z_)) (h 8) (nI c) n)], S0 L, h)) rfl ?_
  refine T_ald (n := c) rfl rfl rfl (by omega) (by decide) rfl ?_
  refine T_if (c := (loadS (h 17) (fun z_ => (h 17) (7 + z_)) (h 8) (nI c) n) ≤ (h 4 c)) (t := 21) (f := 17) (L := [.ref 16, .int (nI c)]) (S := []) (G := S0 L) (h := h) rfl (fun q14 => ?_) (fun q14 => ?_)
  · refine T_run 1 (st' := (22, [.ref 16, .int (nI c)], [.int 0], S0 L, h)) rfl ?_
    exact T_retR rfl rfl (by first | rfl | simp [b2i, *]) rfl
  · refine T_run 2 (st' := (22, [.ref 16, .int (nI c)], [.int 1], S0 L, h)) rfl ?_
    exact T_retR rfl rfl (by first | rfl | simp [b2i, *]) rfl
theorem r_X0_lamedSet {L : Nat} (h : AH)  (n : Nat) (hn : h 3 3 = nI n) (h7 : n ≤ 7) (c0 : Nat) (hc : h 3 2 = nI c0) (h5 : c0 ≤ 5) : Rt L 3 11 [.ref 16] h (some (setS (fun y_ => decide (¬ loadS (h 17) (fun z_ => (h 17) (7 + z_)) (h 8) (nI y_) n ≤ (h 4) y_)) c0)) h := by
  refine T_run 4 (st' := (4, [.ref 16, .int 0, .int 0], [], S0 L, h)) rfl ?_
  refine T_loop (fun k => (4, [.ref 16, .int (setS (fun y_ => decide (¬ loadS (h 17) (fun z_ => (h 17) (7 + z_)) (h 8) (nI y_) n ≤ (h 4) y_)) k), .int (nI k)], [], S0 L, h)) c0 ?_ ?_
  · intro k hk ih
    refine T_run 4 (st' := (12, [.ref 16, .int (setS (fun y_ => decide (¬ loadS (h 17) (fun z_ => (h 17) (7 + z_)) (h 8) (nI y_) n ≤ (h 4) y_)) k), .int (nI k)], [.int (h 3 2), .int (nI k)], S0 L, h)) rfl ?_
    refine T_iffP (c := (h 3 2) ≤ (nI k)) (P := c0 ≤ k) (t := 35) (f := 15) (L := [.ref 16, .int (setS (fun y_ => decide (¬ loadS (h 17) (fun z_ => (h 17) (7 + z_)) (h 8) (nI y_) n ≤ (h 4) y_)) k), .int (nI k)]) (S := []) (G := S0 L) (h := h) rfl (nI_leE hc rfl (by omega) (by omega)) (by omega) ?_
    refine T_run 2 (st' := (17, [.ref 16, .int (setS (fun y_ => decide (¬ loadS (h 17) (fun z_ => (h 17) (7 + z_)) (h 8) (nI y_) n ≤ (h 4) y_)) k), .int (nI k)], [.int (nI k), .ref 16], S0 L, h)) rfl ?_
    refine T_callR (S' := [.int (b2i (¬ loadS (h 17) (fun z_ => (h 17) (7 + z_)) (h 8) (nI k) n ≤ (h 4 k)))]) (h' := h) (r_X0_isLamed (L := L) h k n hn h7 (by omega)) (by decide) rfl rfl rfl rfl rfl rfl rfl ?_
    refine T_ifz (P := (¬ loadS (h 17) (fun z_ => (h 17) (7 + z_)) (h 8) (nI k) n ≤ (h 4 k))) (t := 29) (f := 23) (L := [.ref 16, .int (setS (fun y_ => decide (¬ loadS (h 17) (fun z_ => (h 17) (7 + z_)) (h 8) (nI y_) n ≤ (h 4) y_)) k), .int (nI k)]) (S := []) (G := S0 L) (h := h) rfl (fun q20 => ?_) (fun q20 => ?_)
    · refine T_run 2 (st' := (4, [.ref 16, .int (setS (fun y_ => decide (¬ loadS (h 17) (fun z_ => (h 17) (7 + z_)) (h 8) (nI y_) n ≤ (h 4) y_)) k), .int (nI k + 1)], [], S0 L, h)) rfl ?_
      exact T_st (by rw [nI_1]; simp only [setS]; first | (rw [if_pos (decide_eq_true q20)]; done) | (rw [if_neg (by rw [decide_eq_false q20]; decide)]; done)) ih
    · refine T_run 8 (st' := (4, [.ref 16, .int ((setS (fun y_ => decide (¬ loadS (h 17) (fun z_ => (h 17) (7 + z_)) (h 8) (nI y_) n ≤ (h 4) y_)) k) ||| (1 <<< ((nI k) &&& 31))), .int (nI k + 1)], [], S0 L, h)) rfl ?_
      exact T_st (by rw [nI_1]; simp only [setS]; first | (rw [if_pos (decide_eq_true q20)]; done) | (rw [if_neg (by rw [decide_eq_false q20]; decide)]; done)) ih
  · skip
    refine T_run 4 (st' := (12, [.ref 16, .int (setS (fun y_ => decide (¬ loadS (h 17) (fun z_ => (h 17) (7 + z_)) (h 8) (nI y_) n ≤ (h 4) y_)) c0), .int (nI c0)], [.int (h 3 2), .int (nI c0)], S0 L, h)) rfl ?_
    refine T_iftP (c := (h 3 2) ≤ (nI c0)) (P := c0 ≤ c0) (t := 35) (f := 15) (L := [.ref 16, .int (setS (fun y_ => decide (¬ loadS (h 17) (fun z_ => (h 17) (7 + z_)) (h 8) (nI y_) n ≤ (h 4) y_)) c0), .int (nI c0)]) (S := []) (G := S0 L) (h := h) rfl (nI_leE hc rfl (by omega) (by omega)) (by omega) ?_
    refine T_run 1 (st' := (36, [.ref 16, .int (setS (fun y_ => decide (¬ loadS (h 17) (fun z_ => (h 17) (7 + z_)) (h 8) (nI y_) n ≤ (h 4) y_)) c0), .int (nI c0)], [.int (setS (fun y_ => decide (¬ loadS (h 17) (fun z_ => (h 17) (7 + z_)) (h 8) (nI y_) n ≤ (h 4) y_)) c0)], S0 L, h)) rfl ?_
    exact T_retR rfl rfl rfl rfl
theorem r_X0_lamedDaysOfAll {L : Nat} (h : AH)  (c0 : Nat) (hc : h 3 2 = nI c0) (h5 : c0 ≤ 5) : Rt L 1 12 [.ref 16] h (some (sumS (fun x_ => (h 17) (14 + x_)) c0)) h := by
  refine T_run 4 (st' := (4, [.ref 16, .int 0, .int 0], [], S0 L, h)) rfl ?_
  refine T_loop (fun k => (4, [.ref 16, .int (sumS (fun x_ => (h 17) (14 + x_)) k), .int (nI k)], [], S0 L, h)) c0 ?_ ?_
  · intro k hk ih
    refine T_run 4 (st' := (12, [.ref 16, .int (sumS (fun x_ => (h 17) (14 + x_)) k), .int (nI k)], [.int (h 3 2), .int (nI k)], S0 L, h)) rfl ?_
    refine T_iffP (c := (h 3 2) ≤ (nI k)) (P := c0 ≤ k) (t := 29) (f := 15) (L := [.ref 16, .int (sumS (fun x_ => (h 17) (14 + x_)) k), .int (nI k)]) (S := []) (G := S0 L) (h := h) rfl (nI_leE hc rfl (by omega) (by omega)) (by omega) ?_
    refine T_run 3 (st' := (18, [.ref 16, .int (sumS (fun x_ => (h 17) (14 + x_)) k), .int (nI k)], [.int (nI k), .ref 16, .int (sumS (fun x_ => (h 17) (14 + x_)) k)], S0 L, h)) rfl ?_
    refine T_callR (S' := [.int (h 17 (14 + k)), .int (sumS (fun x_ => (h 17) (14 + x_)) k)]) (h' := h) (r_X0_lamedDays (L := L) h k (by omega)) (by decide) rfl rfl rfl rfl rfl rfl rfl ?_
    refine T_run 4 (st' := (4, [.ref 16, .int ((sumS (fun x_ => (h 17) (14 + x_)) k) + (h 17 (14 + k))), .int (nI k + 1)], [], S0 L, h)) rfl ?_
    exact T_st (by simp [sumS, nI_1, *]) ih
  · skip
    refine T_run 4 (st' := (12, [.ref 16, .int (sumS (fun x_ => (h 17) (14 + x_)) c0), .int (nI c0)], [.int (h 3 2), .int (nI c0)], S0 L, h)) rfl ?_
    refine T_iftP (c := (h 3 2) ≤ (nI c0)) (P := c0 ≤ c0) (t := 29) (f := 15) (L := [.ref 16, .int (sumS (fun x_ => (h 17) (14 + x_)) c0), .int (nI c0)]) (S := []) (G := S0 L) (h := h) rfl (nI_leE hc rfl (by omega) (by omega)) (by omega) ?_
    refine T_run 1 (st' := (30, [.ref 16, .int (sumS (fun x_ => (h 17) (14 + x_)) c0), .int (nI c0)], [.int (sumS (fun x_ => (h 17) (14 + x_)) c0)], S0 L, h)) rfl ?_
    exact T_retR rfl rfl rfl rfl
theorem r_X0_minutesHome {L : Nat} (h : AH) (c : Nat) (n : Nat) (hn : h 3 3 = nI n) (h7 : n ≤ 7) (hc5 : c < 5) (hs1 : ¬ h 4 c < 1) : Rt L 2 13 [.ref 16, .int (nI c)] h (some (h 5 c + (h 5 c) * (loadS (h 17) (fun z_ => (h 17) (7 + z_)) (h 8) (nI c) n) / (h 4 c))) h := by
  refine T_run 5 (st' := (9, [.ref 16, .int (nI c), un_], [.int (nI c), .ref 4, .int 1], S0 L, h)) rfl ?_
  refine T_ald (n := c) rfl rfl rfl (by omega) (by decide) rfl ?_
  refine T_run 6 (st' := (22, [.ref 16, .int (nI c), .int (if 1 < h 4 c then h 4 c else 1)], [.int (nI c), .ref 5], S0 L, h)) rfl ?_
  refine T_ald (n := c) rfl rfl rfl (by omega) (by decide) rfl ?_
  refine T_run 4 (st' := (31, [.ref 16, .int (nI c), .int (if 1 < h 4 c then h 4 c else 1)], [.int (nI c), .ref 5, .int (h 5 c)], S0 L, h)) rfl ?_
  refine T_ald (n := c) rfl rfl rfl (by omega) (by decide) rfl ?_
  refine T_run 2 (st' := (34, [.ref 16, .int (nI c), .int (if 1 < h 4 c then h 4 c else 1)], [.int (nI c), .ref 16, .int (h 5 c), .int (h 5 c)], S0 L, h)) rfl ?_
  refine T_callR (S' := [.int (loadS (h 17) (fun z_ => (h 17) (7 + z_)) (h 8) (nI c) n), .int (h 5 c), .int (h 5 c)]) (h' := h) (r_X0_loadOf (L := L) h (nI c) n hn h7) (by decide) rfl rfl rfl rfl rfl rfl rfl ?_
  refine T_run 2 (st' := (39, [.ref 16, .int (nI c), .int (if 1 < h 4 c then h 4 c else 1)], [.int (if 1 < h 4 c then h 4 c else 1), .int ((h 5 c) * (loadS (h 17) (fun z_ => (h 17) (7 + z_)) (h 8) (nI c) n)), .int (h 5 c)], S0 L, h)) rfl ?_
  refine T_div rfl (max1_ne) rfl ?_
  refine T_run 1 (st' := (41, [.ref 16, .int (nI c), .int (if 1 < h 4 c then h 4 c else 1)], [.int ((h 5 c) + (((h 5 c) * (loadS (h 17) (fun z_ => (h 17) (7 + z_)) (h 8) (nI c) n)) / (if 1 < h 4 c then h 4 c else 1)))], S0 L, h)) rfl ?_
  exact T_retR rfl rfl (by rw [max1 hs1]) rfl
theorem r_X0_lastHome {L : Nat} (h : AH)  (n : Nat) (hn : h 3 3 = nI n) (h7 : n ≤ 7) (c0 : Nat) (hc : h 3 2 = nI c0) (h5 : c0 ≤ 5) (hs : ∀ i, i < c0 → ¬ h 4 i < 1) (hmn : ∀ i, i < c0 → ¬ h 5 i + (h 5 i) * (loadS (h 17) (fun z_ => (h 17) (7 + z_)) (h 8) (nI i) n) / (h 4 i) ≤ -1) : Rt L 3 14 [.ref 16] h (some (lastS (fun x_ => h 5 x_ + (h 5 x_) * (loadS (h 17) (fun z_ => (h 17) (7 + z_)) (h 8) (nI x_) n) / (h 4 x_)) c0)) h := by
  refine T_run 6 (st' := (6, [.ref 16, .int (-1), .int (-1), .int 0, un_], [], S0 L, h)) rfl ?_
  refine T_loop (fun k => (6, [.ref 16, .int (lastS (fun x_ => h 5 x_ + (h 5 x_) * (loadS (h 17) (fun z_ => (h 17) (7 + z_)) (h 8) (nI x_) n) / (h 4 x_)) k), .int (lnS (fun x_ => h 5 x_ + (h 5 x_) * (loadS (h 17) (fun z_ => (h 17) (7 + z_)) (h 8) (nI x_) n) / (h 4 x_)) k), .int (nI k), un_], [], S0 L, h)) c0 ?_ ?_
  · intro k hk ih
    refine T_run 4 (st' := (14, [.ref 16, .int (lastS (fun x_ => h 5 x_ + (h 5 x_) * (loadS (h 17) (fun z_ => (h 17) (7 + z_)) (h 8) (nI x_) n) / (h 4 x_)) k), .int (lnS (fun x_ => h 5 x_ + (h 5 x_) * (loadS (h 17) (fun z_ => (h 17) (7 + z_)) (h 8) (nI x_) n) / (h 4 x_)) k), .int (nI k), un_], [.int (h 3 2), .int (nI k)], S0 L, h)) rfl ?_
    refine T_iffP (c := (h 3 2) ≤ (nI k)) (P := c0 ≤ k) (t := 41) (f := 17) (L := [.ref 16, .int (lastS (fun x_ => h 5 x_ + (h 5 x_) * (loadS (h 17) (fun z_ => (h 17) (7 + z_)) (h 8) (nI x_) n) / (h 4 x_)) k), .int (lnS (fun x_ => h 5 x_ + (h 5 x_) * (loadS (h 17) (fun z_ => (h 17) (7 + z_)) (h 8) (nI x_) n) / (h 4 x_)) k), .int (nI k), un_]) (S := []) (G := S0 L) (h := h) rfl (nI_leE hc rfl (by omega) (by omega)) (by omega) ?_
    refine T_run 2 (st' := (19, [.ref 16, .int (lastS (fun x_ => h 5 x_ + (h 5 x_) * (loadS (h 17) (fun z_ => (h 17) (7 + z_)) (h 8) (nI x_) n) / (h 4 x_)) k), .int (lnS (fun x_ => h 5 x_ + (h 5 x_) * (loadS (h 17) (fun z_ => (h 17) (7 + z_)) (h 8) (nI x_) n) / (h 4 x_)) k), .int (nI k), un_], [.int (nI k), .ref 16], S0 L, h)) rfl ?_
    refine T_callR (S' := [.int (h 5 k + (h 5 k) * (loadS (h 17) (fun z_ => (h 17) (7 + z_)) (h 8) (nI k) n) / (h 4 k))]) (h' := h) (r_X0_minutesHome (L := L) h k n hn h7 (by omega) (hs _ (by omega))) (by decide) rfl rfl rfl rfl rfl rfl rfl ?_
    refine T_run 3 (st' := (27, [.ref 16, .int (lastS (fun x_ => h 5 x_ + (h 5 x_) * (loadS (h 17) (fun z_ => (h 17) (7 + z_)) (h 8) (nI x_) n) / (h 4 x_)) k), .int (lnS (fun x_ => h 5 x_ + (h 5 x_) * (loadS (h 17) (fun z_ => (h 17) (7 + z_)) (h 8) (nI x_) n) / (h 4 x_)) k), .int (nI k), .int (h 5 k + (h 5 k) * (loadS (h 17) (fun z_ => (h 17) (7 + z_)) (h 8) (nI k) n) / (h 4 k))], [.int (lnS (fun x_ => h 5 x_ + (h 5 x_) * (loadS (h 17) (fun z_ => (h 17) (7 + z_)) (h 8) (nI x_) n) / (h 4 x_)) k), .int (h 5 k + (h 5 k) * (loadS (h 17) (fun z_ => (h 17) (7 + z_)) (h 8) (nI k) n) / (h 4 k))], S0 L, h)) rfl ?_
    refine T_if (c := (h 5 k + (h 5 k) * (loadS (h 17) (fun z_ => (h 17) (7 + z_)) (h 8) (nI k) n) / (h 4 k)) ≤ (lnS (fun x_ => h 5 x_ + (h 5 x_) * (loadS (h 17) (fun z_ => (h 17) (7 + z_)) (h 8) (nI x_) n) / (h 4 x_)) k)) (t := 35) (f := 30) (L := [.ref 16, .int (lastS (fun x_ => h 5 x_ + (h 5 x_) * (loadS (h 17) (fun z_ => (h 17) (7 + z_)) (h 8) (nI x_) n) / (h 4 x_)) k), .int (lnS (fun x_ => h 5 x_ + (h 5 x_) * (loadS (h 17) (fun z_ => (h 17) (7 + z_)) (h 8) (nI x_) n) / (h 4 x_)) k), .int (nI k), .int (h 5 k + (h 5 k) * (loadS (h 17) (fun z_ => (h 17) (7 + z_)) (h 8) (nI k) n) / (h 4 k))]) (S := []) (G := S0 L) (h := h) rfl (fun q27 => ?_) (fun q27 => ?_)
    · refine T_run 2 (st' := (6, [.ref 16, .int (lastS (fun x_ => h 5 x_ + (h 5 x_) * (loadS (h 17) (fun z_ => (h 17) (7 + z_)) (h 8) (nI x_) n) / (h 4 x_)) k), .int (lnS (fun x_ => h 5 x_ + (h 5 x_) * (loadS (h 17) (fun z_ => (h 17) (7 + z_)) (h 8) (nI x_) n) / (h 4 x_)) k), .int (nI k + 1), .int (h 5 k + (h 5 k) * (loadS (h 17) (fun z_ => (h 17) (7 + z_)) (h 8) (nI k) n) / (h 4 k))], [], S0 L, h)) rfl ?_
      refine T_forget 4 (L' := [.ref 16, .int (lastS (fun x_ => h 5 x_ + (h 5 x_) * (loadS (h 17) (fun z_ => (h 17) (7 + z_)) (h 8) (nI x_) n) / (h 4 x_)) k), .int (lnS (fun x_ => h 5 x_ + (h 5 x_) * (loadS (h 17) (fun z_ => (h 17) (7 + z_)) (h 8) (nI x_) n) / (h 4 x_)) k), .int (nI k + 1), un_]) rfl ?_
      exact T_st (by rw [nI_1]; first | (rw [ln_le (f := (fun x_ => h 5 x_ + (h 5 x_) * (loadS (h 17) (fun z_ => (h 17) (7 + z_)) (h 8) (nI x_) n) / (h 4 x_))) (hmn k hk) q27, last_le (f := (fun x_ => h 5 x_ + (h 5 x_) * (loadS (h 17) (fun z_ => (h 17) (7 + z_)) (h 8) (nI x_) n) / (h 4 x_))) (hmn k hk) q27]; done) | (rw [ln_gt (f := (fun x_ => h 5 x_ + (h 5 x_) * (loadS (h 17) (fun z_ => (h 17) (7 + z_)) (h 8) (nI x_) n) / (h 4 x_))) (by omega) q27, last_gt (f := (fun x_ => h 5 x_ + (h 5 x_) * (loadS (h 17) (fun z_ => (h 17) (7 + z_)) (h 8) (nI x_) n) / (h 4 x_))) q27])) ih
    · refine T_run 6 (st' := (6, [.ref 16, .int (nI k), .int (h 5 k + (h 5 k) * (loadS (h 17) (fun z_ => (h 17) (7 + z_)) (h 8) (nI k) n) / (h 4 k)), .int (nI k + 1), .int (h 5 k + (h 5 k) * (loadS (h 17) (fun z_ => (h 17) (7 + z_)) (h 8) (nI k) n) / (h 4 k))], [], S0 L, h)) rfl ?_
      refine T_forget 4 (L' := [.ref 16, .int (nI k), .int (h 5 k + (h 5 k) * (loadS (h 17) (fun z_ => (h 17) (7 + z_)) (h 8) (nI k) n) / (h 4 k)), .int (nI k + 1), un_]) rfl ?_
      exact T_st (by rw [nI_1]; first | (rw [ln_le (f := (fun x_ => h 5 x_ + (h 5 x_) * (loadS (h 17) (fun z_ => (h 17) (7 + z_)) (h 8) (nI x_) n) / (h 4 x_))) (hmn k hk) q27, last_le (f := (fun x_ => h 5 x_ + (h 5 x_) * (loadS (h 17) (fun z_ => (h 17) (7 + z_)) (h 8) (nI x_) n) / (h 4 x_))) (hmn k hk) q27]; done) | (rw [ln_gt (f := (fun x_ => h 5 x_ + (h 5 x_) * (loadS (h 17) (fun z_ => (h 17) (7 + z_)) (h 8) (nI x_) n) / (h 4 x_))) (by omega) q27, last_gt (f := (fun x_ => h 5 x_ + (h 5 x_) * (loadS (h 17) (fun z_ => (h 17) (7 + z_)) (h 8) (nI x_) n) / (h 4 x_))) q27])) ih
  · skip
    refine T_run 4 (st' := (14, [.ref 16, .int (lastS (fun x_ => h 5 x_ + (h 5 x_) * (loadS (h 17) (fun z_ => (h 17) (7 + z_)) (h 8) (nI x_) n) / (h 4 x_)) c0), .int (lnS (fun x_ => h 5 x_ + (h 5 x_) * (loadS (h 17) (fun z_ => (h 17) (7 + z_)) (h 8) (nI x_) n) / (h 4 x_)) c0), .int (nI c0), un_], [.int (h 3 2), .int (nI c0)], S0 L, h)) rfl ?_
    refine T_iftP (c := (h 3 2) ≤ (nI c0)) (P := c0 ≤ c0) (t := 41) (f := 17) (L := [.ref 16, .int (lastS (fun x_ => h 5 x_ + (h 5 x_) * (loadS (h 17) (fun z_ => (h 17) (7 + z_)) (h 8) (nI x_) n) / (h 4 x_)) c0), .int (lnS (fun x_ => h 5 x_ + (h 5 x_) * (loadS (h 17) (fun z_ => (h 17) (7 + z_)) (h 8) (nI x_) n) / (h 4 x_)) c0), .int (nI c0), un_]) (S := []) (G := S0 L) (h := h) rfl (nI_leE hc rfl (by omega) (by omega)) (by omega) ?_
    refine T_run 1 (st' := (42, [.ref 16, .int (lastS (fun x_ => h 5 x_ + (h 5 x_) * (loadS (h 17) (fun z_ => (h 17) (7 + z_)) (h 8) (nI x_) n) / (h 4 x_)) c0), .int (lnS (fun x_ => h 5 x_ + (h 5 x_) * (loadS (h 17) (fun z_ => (h 17) (7 + z_)) (h 8) (nI x_) n) / (h 4 x_)) c0), .int (nI c0), un_], [.int (lastS (fun x_ => h 5 x_ + (h 5 x_) * (loadS (h 17) (fun z_ => (h 17) (7 + z_)) (h 8) (nI x_) n) / (h 4 x_)) c0)], S0 L, h)) rfl ?_
    exact T_retR rfl rfl rfl rfl
theorem r_X0_ownLoadOf {L : Nat} (h : AH) (c : Int32) (n : Nat) (hn : h 3 3 = nI n) (h7 : n ≤ 7) : Rt L 1 16 [.ref 16, .int c] h (some (ownS (h 17) (fun z_ => (h 17) (7 + z_)) (h 7) (h 8) c n)) h := by
  refine T_run 4 (st' := (4, [.ref 16, .int c, .int 0, .int 0], [], S0 L, h)) rfl ?_
  refine T_loop (fun k => (4, [.ref 16, .int c, .int (ownS (h 17) (fun z_ => (h 17) (7 + z_)) (h 7) (h 8) c k), .int (nI k)], [], S0 L, h)) n ?_ ?_
  · intro k hk ih
    refine T_run 4 (st' := (12, [.ref 16, .int c, .int (ownS (h 17) (fun z_ => (h 17) (7 + z_)) (h 7) (h 8) c k), .int (nI k)], [.int (h 3 3), .int (nI k)], S0 L, h)) rfl ?_
    refine T_iffP (c := (h 3 3) ≤ (nI k)) (P := n ≤ k) (t := 63) (f := 15) (L := [.ref 16, .int c, .int (ownS (h 17) (fun z_ => (h 17) (7 + z_)) (h 7) (h 8) c k), .int (nI k)]) (S := []) (G := S0 L) (h := h) rfl (nI_leE hn rfl (by omega) (by omega)) (by omega) ?_
    refine T_run 2 (st' := (17, [.ref 16, .int c, .int (ownS (h 17) (fun z_ => (h 17) (7 + z_)) (h 7) (h 8) c k), .int (nI k)], [.int (nI k), .ref 16], S0 L, h)) rfl ?_
    refine T_callR (S' := [.int (b2i (h 17 k = 1))]) (h' := h) (r_X0_isInSatchel (L := L) h k (by omega)) (by decide) rfl rfl rfl rfl rfl rfl rfl ?_
    refine T_ifz (P := (h 17 k = 1)) (t := 57) (f := 23) (L := [.ref 16, .int c, .int (ownS (h 17) (fun z_ => (h 17) (7 + z_)) (h 7) (h 8) c k), .int (nI k)]) (S := []) (G := S0 L) (h := h) rfl (fun q20 => ?_) (fun q20 => ?_)
    · refine T_run 2 (st' := (4, [.ref 16, .int c, .int (ownS (h 17) (fun z_ => (h 17) (7 + z_)) (h 7) (h 8) c k), .int (nI k + 1)], [], S0 L, h)) rfl ?_
      exact T_st (by simp [ownS, nI_1, *]) ih
    · refine T_run 2 (st' := (25, [.ref 16, .int c, .int (ownS (h 17) (fun z_ => (h 17) (7 + z_)) (h 7) (h 8) c k), .int (nI k)], [.int (nI k), .ref 16], S0 L, h)) rfl ?_
      refine T_callR (S' := [.int (h 17 (7 + k))]) (h' := h) (r_X0_placeOf (L := L) h k (by omega)) (by decide) rfl rfl rfl rfl rfl rfl rfl ?_
      refine T_run 1 (st' := (29, [.ref 16, .int c, .int (ownS (h 17) (fun z_ => (h 17) (7 + z_)) (h 7) (h 8) c k), .int (nI k)], [.int c, .int (h 17 (7 + k))], S0 L, h)) rfl ?_
      refine T_ifne (c := (h 17 (7 + k)) = c) (t := 57) (f := 32) (L := [.ref 16, .int c, .int (ownS (h 17) (fun z_ => (h 17) (7 + z_)) (h 7) (h 8) c k), .int (nI k)]) (S := []) (G := S0 L) (h := h) rfl (fun q29 => ?_) (fun q29 => ?_)
      · refine T_run 2 (st' := (4, [.ref 16, .int c, .int (ownS (h 17) (fun z_ => (h 17) (7 + z_)) (h 7) (h 8) c k), .int (nI k + 1)], [], S0 L, h)) rfl ?_
        exact T_st (by simp [ownS, nI_1, *]) ih
      · refine T_run 4 (st' := (40, [.ref 16, .int c, .int (ownS (h 17) (fun z_ => (h 17) (7 + z_)) (h 7) (h 8) c k), .int (nI k)], [.int (nI k), .ref 7], S0 L, h)) rfl ?_
        refine T_ald (n := k) rfl rfl rfl (by omega) (by decide) rfl ?_
        refine T_run 1 (st' := (42, [.ref 16, .int c, .int (ownS (h 17) (fun z_ => (h 17) (7 + z_)) (h 7) (h 8) c k), .int (nI k)], [.int c, .int (h 7 k)], S0 L, h)) rfl ?_
        refine T_ifne (c := (h 7 k) = c) (t := 57) (f := 45) (L := [.ref 16, .int c, .int (ownS (h 17) (fun z_ => (h 17) (7 + z_)) (h 7) (h 8) c k), .int (nI k)]) (S := []) (G := S0 L) (h := h) rfl (fun q42 => ?_) (fun q42 => ?_)
        · refine T_run 2 (st' := (4, [.ref 16, .int c, .int (ownS (h 17) (fun z_ => (h 17) (7 + z_)) (h 7) (h 8) c k), .int (nI k + 1)], [], S0 L, h)) rfl ?_
          exact T_st (by simp [ownS, nI_1, *]) ih
        · refine T_run 5 (st' := (54, [.ref 16, .int c, .int (ownS (h 17) (fun z_ => (h 17) (7 + z_)) (h 7) (h 8) c k), .int (nI k)], [.int (nI k), .ref 8, .int (ownS (h 17) (fun z_ => (h 17) (7 + z_)) (h 7) (h 8) c k)], S0 L, h)) rfl ?_
          refine T_ald (n := k) rfl rfl rfl (by omega) (by decide) rfl ?_
          refine T_run 4 (st' := (4, [.ref 16, .int c, .int ((ownS (h 17) (fun z_ => (h 17) (7 + z_)) (h 7) (h 8) c k) + (h 8 k)), .int (nI k + 1)], [], S0 L, h)) rfl ?_
          exact T_st (by simp [ownS, nI_1, *]) ih
  · skip
    refine T_run 4 (st' := (12, [.ref 16, .int c, .int (ownS (h 17) (fun z_ => (h 17) (7 + z_)) (h 7) (h 8) c n), .int (nI n)], [.int (h 3 3), .int (nI n)], S0 L, h)) rfl ?_
    refine T_iftP (c := (h 3 3) ≤ (nI n)) (P := n ≤ n) (t := 63) (f := 15) (L := [.ref 16, .int c, .int (ownS (h 17) (fun z_ => (h 17) (7 + z_)) (h 7) (h 8) c n), .int (nI n)]) (S := []) (G := S0 L) (h := h) rfl (nI_leE hn rfl (by omega) (by omega)) (by omega) ?_
    refine T_run 1 (st' := (64, [.ref 16, .int c, .int (ownS (h 17) (fun z_ => (h 17) (7 + z_)) (h 7) (h 8) c n), .int (nI n)], [.int (ownS (h 17) (fun z_ => (h 17) (7 + z_)) (h 7) (h 8) c n)], S0 L, h)) rfl ?_
    exact T_retR rfl rfl rfl rfl
theorem r_X0_madeSet {L : Nat} (h : AH)  (n : Nat) (hn : h 3 3 = nI n) (h7 : n ≤ 7) (c0 : Nat) (hc : h 3 2 = nI c0) (h5 : c0 ≤ 5) : Rt L 2 15 [.ref 16] h (some (setS (fun y_ => decide (¬ loadS (h 17) (fun z_ => (h 17) (7 + z_)) (h 8) (nI y_) n - (ownS (h 17) (fun z_ => (h 17) (7 + z_)) (h 7) (h 8) (nI y_) n) ≤ ownS (h 17) (fun z_ => (h 17) (7 + z_)) (h 7) (h 8) (nI y_) n)) c0)) h := by
  refine T_run 4 (st' := (4, [.ref 16, .int 0, .int 0, un_], [], S0 L, h)) rfl ?_
  refine T_loop (fun k => (4, [.ref 16, .int (setS (fun y_ => decide (¬ loadS (h 17) (fun z_ => (h 17) (7 + z_)) (h 8) (nI y_) n - (ownS (h 17) (fun z_ => (h 17) (7 + z_)) (h 7) (h 8) (nI y_) n) ≤ ownS (h 17) (fun z_ => (h 17) (7 + z_)) (h 7) (h 8) (nI y_) n)) k), .int (nI k), un_], [], S0 L, h)) c0 ?_ ?_
  · intro k hk ih
    refine T_run 4 (st' := (12, [.ref 16, .int (setS (fun y_ => decide (¬ loadS (h 17) (fun z_ => (h 17) (7 + z_)) (h 8) (nI y_) n - (ownS (h 17) (fun z_ => (h 17) (7 + z_)) (h 7) (h 8) (nI y_) n) ≤ ownS (h 17) (fun z_ => (h 17) (7 + z_)) (h 7) (h 8) (nI y_) n)) k), .int (nI k), un_], [.int (h 3 2), .int (nI k)], S0 L, h)) rfl ?_
    refine T_iffP (c := (h 3 2) ≤ (nI k)) (P := c0 ≤ k) (t := 44) (f := 15) (L := [.ref 16, .int (setS (fun y_ => decide (¬ loadS (h 17) (fun z_ => (h 17) (7 + z_)) (h 8) (nI y_) n - (ownS (h 17) (fun z_ => (h 17) (7 + z_)) (h 7) (h 8) (nI y_) n) ≤ ownS (h 17) (fun z_ => (h 17) (7 + z_)) (h 7) (h 8) (nI y_) n)) k), .int (nI k), un_]) (S := []) (G := S0 L) (h := h) rfl (nI_leE hc rfl (by omega) (by omega)) (by omega) ?_
    refine T_run 2 (st' := (17, [.ref 16, .int (setS (fun y_ => decide (¬ loadS (h 17) (fun z_ => (h 17) (7 + z_)) (h 8) (nI y_) n - (ownS (h 17) (fun z_ => (h 17) (7 + z_)) (h 7) (h 8) (nI y_) n) ≤ ownS (h 17) (fun z_ => (h 17) (7 + z_)) (h 7) (h 8) (nI y_) n)) k), .int (nI k), un_], [.int (nI k), .ref 16], S0 L, h)) rfl ?_
    refine T_callR (S' := [.int (ownS (h 17) (fun z_ => (h 17) (7 + z_)) (h 7) (h 8) (nI k) n)]) (h' := h) (r_X0_ownLoadOf (L := L) h (nI k) n hn h7) (by decide) rfl rfl rfl rfl rfl rfl rfl ?_
    refine T_run 3 (st' := (23, [.ref 16, .int (setS (fun y_ => decide (¬ loadS (h 17) (fun z_ => (h 17) (7 + z_)) (h 8) (nI y_) n - (ownS (h 17) (fun z_ => (h 17) (7 + z_)) (h 7) (h 8) (nI y_) n) ≤ ownS (h 17) (fun z_ => (h 17) (7 + z_)) (h 7) (h 8) (nI y_) n)) k), .int (nI k), .int (ownS (h 17) (fun z_ => (h 17) (7 + z_)) (h 7) (h 8) (nI k) n)], [.int (nI k), .ref 16], S0 L, h)) rfl ?_
    refine T_callR (S' := [.int (loadS (h 17) (fun z_ => (h 17) (7 + z_)) (h 8) (nI k) n)]) (h' := h) (r_X0_loadOf (L := L) h (nI k) n hn h7) (by decide) rfl rfl rfl rfl rfl rfl rfl ?_
    refine T_run 3 (st' := (29, [.ref 16, .int (setS (fun y_ => decide (¬ loadS (h 17) (fun z_ => (h 17) (7 + z_)) (h 8) (nI y_) n - (ownS (h 17) (fun z_ => (h 17) (7 + z_)) (h 7) (h 8) (nI y_) n) ≤ ownS (h 17) (fun z_ => (h 17) (7 + z_)) (h 7) (h 8) (nI y_) n)) k), .int (nI k), .int (ownS (h 17) (fun z_ => (h 17) (7 + z_)) (h 7) (h 8) (nI k) n)], [.int (ownS (h 17) (fun z_ => (h 17) (7 + z_)) (h 7) (h 8) (nI k) n), .int ((loadS (h 17) (fun z_ => (h 17) (7 + z_)) (h 8) (nI k) n) - (ownS (h 17) (fun z_ => (h 17) (7 + z_)) (h 7) (h 8) (nI k) n))], S0 L, h)) rfl ?_
    refine T_if (c := ((loadS (h 17) (fun z_ => (h 17) (7 + z_)) (h 8) (nI k) n) - (ownS (h 17) (fun z_ => (h 17) (7 + z_)) (h 7) (h 8) (nI k) n)) ≤ (ownS (h 17) (fun z_ => (h 17) (7 + z_)) (h 7) (h 8) (nI k) n)) (t := 38) (f := 32) (L := [.ref 16, .int (setS (fun y_ => decide (¬ loadS (h 17) (fun z_ => (h 17) (7 + z_)) (h 8) (nI y_) n - (ownS (h 17) (fun z_ => (h 17) (7 + z_)) (h 7) (h 8) (nI y_) n) ≤ ownS (h 17) (fun z_ => (h 17) (7 + z_)) (h 7) (h 8) (nI y_) n)) k), .int (nI k), .int (ownS (h 17) (fun z_ => (h 17) (7 + z_)) (h 7) (h 8) (nI k) n)]) (S := []) (G := S0 L) (h := h) rfl (fun q29 => ?_) (fun q29 => ?_)
    · refine T_run 2 (st' := (4, [.ref 16, .int (setS (fun y_ => decide (¬ loadS (h 17) (fun z_ => (h 17) (7 + z_)) (h 8) (nI y_) n - (ownS (h 17) (fun z_ => (h 17) (7 + z_)) (h 7) (h 8) (nI y_) n) ≤ ownS (h 17) (fun z_ => (h 17) (7 + z_)) (h 7) (h 8) (nI y_) n)) k), .int (nI k + 1), .int (ownS (h 17) (fun z_ => (h 17) (7 + z_)) (h 7) (h 8) (nI k) n)], [], S0 L, h)) rfl ?_
      refine T_forget 3 (L' := [.ref 16, .int (setS (fun y_ => decide (¬ loadS (h 17) (fun z_ => (h 17) (7 + z_)) (h 8) (nI y_) n - (ownS (h 17) (fun z_ => (h 17) (7 + z_)) (h 7) (h 8) (nI y_) n) ≤ ownS (h 17) (fun z_ => (h 17) (7 + z_)) (h 7) (h 8) (nI y_) n)) k), .int (nI k + 1), un_]) rfl ?_
      exact T_st (by rw [nI_1]; simp only [setS]; first | (rw [if_pos (decide_eq_true q29)]; done) | (rw [if_neg (by rw [decide_eq_false (fun z => z q29)]; decide)]; done)) ih
    · refine T_run 8 (st' := (4, [.ref 16, .int ((setS (fun y_ => decide (¬ loadS (h 17) (fun z_ => (h 17) (7 + z_)) (h 8) (nI y_) n - (ownS (h 17) (fun z_ => (h 17) (7 + z_)) (h 7) (h 8) (nI y_) n) ≤ ownS (h 17) (fun z_ => (h 17) (7 + z_)) (h 7) (h 8) (nI y_) n)) k) ||| (1 <<< ((nI k) &&& 31))), .int (nI k + 1), .int (ownS (h 17) (fun z_ => (h 17) (7 + z_)) (h 7) (h 8) (nI k) n)], [], S0 L, h)) rfl ?_
      refine T_forget 3 (L' := [.ref 16, .int ((setS (fun y_ => decide (¬ loadS (h 17) (fun z_ => (h 17) (7 + z_)) (h 8) (nI y_) n - (ownS (h 17) (fun z_ => (h 17) (7 + z_)) (h 7) (h 8) (nI y_) n) ≤ ownS (h 17) (fun z_ => (h 17) (7 + z_)) (h 7) (h 8) (nI y_) n)) k) ||| (1 <<< ((nI k) &&& 31))), .int (nI k + 1), un_]) rfl ?_
      exact T_st (by rw [nI_1]; simp only [setS]; first | (rw [if_pos (decide_eq_true q29)]; done) | (rw [if_neg (by rw [decide_eq_false (fun z => z q29)]; decide)]; done)) ih
  · skip
    refine T_run 4 (st' := (12, [.ref 16, .int (setS (fun y_ => decide (¬ loadS (h 17) (fun z_ => (h 17) (7 + z_)) (h 8) (nI y_) n - (ownS (h 17) (fun z_ => (h 17) (7 + z_)) (h 7) (h 8) (nI y_) n) ≤ ownS (h 17) (fun z_ => (h 17) (7 + z_)) (h 7) (h 8) (nI y_) n)) c0), .int (nI c0), un_], [.int (h 3 2), .int (nI c0)], S0 L, h)) rfl ?_
    refine T_iftP (c := (h 3 2) ≤ (nI c0)) (P := c0 ≤ c0) (t := 44) (f := 15) (L := [.ref 16, .int (setS (fun y_ => decide (¬ loadS (h 17) (fun z_ => (h 17) (7 + z_)) (h 8) (nI y_) n - (ownS (h 17) (fun z_ => (h 17) (7 + z_)) (h 7) (h 8) (nI y_) n) ≤ ownS (h 17) (fun z_ => (h 17) (7 + z_)) (h 7) (h 8) (nI y_) n)) c0), .int (nI c0), un_]) (S := []) (G := S0 L) (h := h) rfl (nI_leE hc rfl (by omega) (by omega)) (by omega) ?_
    refine T_run 1 (st' := (45, [.ref 16, .int (setS (fun y_ => decide (¬ loadS (h 17) (fun z_ => (h 17) (7 + z_)) (h 8) (nI y_) n - (ownS (h 17) (fun z_ => (h 17) (7 + z_)) (h 7) (h 8) (nI y_) n) ≤ ownS (h 17) (fun z_ => (h 17) (7 + z_)) (h 7) (h 8) (nI y_) n)) c0), .int (nI c0), un_], [.int (setS (fun y_ => decide (¬ loadS (h 17) (fun z_ => (h 17) (7 + z_)) (h 8) (nI y_) n - (ownS (h 17) (fun z_ => (h 17) (7 + z_)) (h 7) (h 8) (nI y_) n) ≤ ownS (h 17) (fun z_ => (h 17) (7 + z_)) (h 7) (h 8) (nI y_) n)) c0)], S0 L, h)) rfl ?_
    exact T_retR rfl rfl rfl rfl
theorem r_X0_deedSet {L : Nat} (h : AH) (is : Int32) (c : Int32) (n : Nat) (hn : h 3 3 = nI n) (h7 : n ≤ 7) : Rt L 1 17 [.ref 16, .int is, .int c] h (some (setS (fun z_ => decide ((h 17) z_ = is ∧ (h 17) (7 + z_) = c)) n)) h := by
  refine T_run 4 (st' := (5, [.ref 16, .int is, .int c, .int 0, .int 0], [], S0 L, h)) rfl ?_
  refine T_loop (fun k => (5, [.ref 16, .int is, .int c, .int (setS (fun z_ => decide ((h 17) z_ = is ∧ (h 17) (7 + z_) = c)) k), .int (nI k)], [], S0 L, h)) n ?_ ?_
  · intro k hk ih
    refine T_run 4 (st' := (14, [.ref 16, .int is, .int c, .int (setS (fun z_ => decide ((h 17) z_ = is ∧ (h 17) (7 + z_) = c)) k), .int (nI k)], [.int (h 3 3), .int (nI k)], S0 L, h)) rfl ?_
    refine T_iffP (c := (h 3 3) ≤ (nI k)) (P := n ≤ k) (t := 50) (f := 17) (L := [.ref 16, .int is, .int c, .int (setS (fun z_ => decide ((h 17) z_ = is ∧ (h 17) (7 + z_) = c)) k), .int (nI k)]) (S := []) (G := S0 L) (h := h) rfl (nI_leE hn rfl (by omega) (by omega)) (by omega) ?_
    refine T_run 2 (st' := (20, [.ref 16, .int is, .int c, .int (setS (fun z_ => decide ((h 17) z_ = is ∧ (h 17) (7 + z_) = c)) k), .int (nI k)], [.int (nI k), .ref 16], S0 L, h)) rfl ?_
    refine T_callR (S' := [.int (h 17 k)]) (h' := h) (r_X0_stageOf (L := L) h k (by omega)) (by decide) rfl rfl rfl rfl rfl rfl rfl ?_
    refine T_run 1 (st' := (24, [.ref 16, .int is, .int c, .int (setS (fun z_ => decide ((h 17) z_ = is ∧ (h 17) (7 + z_) = c)) k), .int (nI k)], [.int is, .int (h 17 k)], S0 L, h)) rfl ?_
    refine T_ifne (c := (h 17 k) = is) (t := 44) (f := 27) (L := [.ref 16, .int is, .int c, .int (setS (fun z_ => decide ((h 17) z_ = is ∧ (h 17) (7 + z_) = c)) k), .int (nI k)]) (S := []) (G := S0 L) (h := h) rfl (fun q24 => ?_) (fun q24 => ?_)
    · refine T_run 2 (st' := (5, [.ref 16, .int is, .int c, .int (setS (fun z_ => decide ((h 17) z_ = is ∧ (h 17) (7 + z_) = c)) k), .int (nI k + 1)], [], S0 L, h)) rfl ?_
      exact T_st (by simp [setS, nI_1, *]) ih
    · refine T_run 2 (st' := (30, [.ref 16, .int is, .int c, .int (setS (fun z_ => decide ((h 17) z_ = is ∧ (h 17) (7 + z_) = c)) k), .int (nI k)], [.int (nI k), .ref 16], S0 L, h)) rfl ?_
      refine T_callR (S' := [.int (h 17 (7 + k))]) (h' := h) (r_X0_placeOf (L := L) h k (by omega)) (by decide) rfl rfl rfl rfl rfl rfl rfl ?_
      refine T_run 1 (st' := (34, [.ref 16, .int is, .int c, .int (setS (fun z_ => decide ((h 17) z_ = is ∧ (h 17) (7 + z_) = c)) k), .int (nI k)], [.int c, .int (h 17 (7 + k))], S0 L, h)) rfl ?_
      refine T_ifne (c := (h 17 (7 + k)) = c) (t := 44) (f := 37) (L := [.ref 16, .int is, .int c, .int (setS (fun z_ => decide ((h 17) z_ = is ∧ (h 17) (7 + z_) = c)) k), .int (nI k)]) (S := []) (G := S0 L) (h := h) rfl (fun q34 => ?_) (fun q34 => ?_)
      · refine T_run 2 (st' := (5, [.ref 16, .int is, .int c, .int (setS (fun z_ => decide ((h 17) z_ = is ∧ (h 17) (7 + z_) = c)) k), .int (nI k + 1)], [], S0 L, h)) rfl ?_
        exact T_st (by simp [setS, nI_1, *]) ih
      · refine T_run 8 (st' := (5, [.ref 16, .int is, .int c, .int ((setS (fun z_ => decide ((h 17) z_ = is ∧ (h 17) (7 + z_) = c)) k) ||| (1 <<< ((nI k) &&& 31))), .int (nI k + 1)], [], S0 L, h)) rfl ?_
        exact T_st (by simp [setS, nI_1, *]) ih
  · skip
    refine T_run 4 (st' := (14, [.ref 16, .int is, .int c, .int (setS (fun z_ => decide ((h 17) z_ = is ∧ (h 17) (7 + z_) = c)) n), .int (nI n)], [.int (h 3 3), .int (nI n)], S0 L, h)) rfl ?_
    refine T_iftP (c := (h 3 3) ≤ (nI n)) (P := n ≤ n) (t := 50) (f := 17) (L := [.ref 16, .int is, .int c, .int (setS (fun z_ => decide ((h 17) z_ = is ∧ (h 17) (7 + z_) = c)) n), .int (nI n)]) (S := []) (G := S0 L) (h := h) rfl (nI_leE hn rfl (by omega) (by omega)) (by omega) ?_
    refine T_run 1 (st' := (51, [.ref 16, .int is, .int c, .int (setS (fun z_ => decide ((h 17) z_ = is ∧ (h 17) (7 + z_) = c)) n), .int (nI n)], [.int (setS (fun z_ => decide ((h 17) z_ = is ∧ (h 17) (7 + z_) = c)) n)], S0 L, h)) rfl ?_
    exact T_retR rfl rfl rfl rfl
theorem r_X0_liesOnTable {L : Nat} (h : AH) (c : Int32) (e : Int32) (n : Nat) (hn : h 3 3 = nI n) (h7 : n ≤ 7) : Rt L 1 18 [.ref 16, .int c, .int e] h (some (b2i (anyS (fun z_ => decide (((h 17) z_ = 3 ∧ (h 17) (7 + z_) = c) ∧ (h 7) z_ = e)) n = true))) h := by
  refine T_run 2 (st' := (2, [.ref 16, .int c, .int e, .int 0], [], S0 L, h)) rfl ?_
  refine T_loopI (fun k => (2, [.ref 16, .int c, .int e, .int (nI k)], [], S0 L, h)) (fun k => anyS (fun z_ => decide (((h 17) z_ = 3 ∧ (h 17) (7 + z_) = c) ∧ (h 7) z_ = e)) k = false) n rfl ?_ ?_
  · intro k hk hI ih
    refine T_run 4 (st' := (10, [.ref 16, .int c, .int e, .int (nI k)], [.int (h 3 3), .int (nI k)], S0 L, h)) rfl ?_
    refine T_iffP (c := (h 3 3) ≤ (nI k)) (P := n ≤ k) (t := 52) (f := 13) (L := [.ref 16, .int c, .int e, .int (nI k)]) (S := []) (G := S0 L) (h := h) rfl (nI_leE hn rfl (by omega) (by omega)) (by omega) ?_
    refine T_run 2 (st' := (15, [.ref 16, .int c, .int e, .int (nI k)], [.int (nI k), .ref 16], S0 L, h)) rfl ?_
    refine T_callR (S' := [.int (h 17 k)]) (h' := h) (r_X0_stageOf (L := L) h k (by omega)) (by decide) rfl rfl rfl rfl rfl rfl rfl ?_
    refine T_run 1 (st' := (19, [.ref 16, .int c, .int e, .int (nI k)], [.int 3, .int (h 17 k)], S0 L, h)) rfl ?_
    refine T_ifne (c := (h 17 k) = 3) (t := 46) (f := 22) (L := [.ref 16, .int c, .int e, .int (nI k)]) (S := []) (G := S0 L) (h := h) rfl (fun q19 => ?_) (fun q19 => ?_)
    · refine T_run 2 (st' := (2, [.ref 16, .int c, .int e, .int (nI k + 1)], [], S0 L, h)) rfl ?_
      exact T_st (by rw [nI_1]) (ih (by first | exact any_no hI (decide_eq_false (fun z => q19 z.1.1)) | exact any_no hI (decide_eq_false (fun z => q28 z.1.2)) | exact any_no hI (decide_eq_false (fun z => q41 z.2))))
    · refine T_run 2 (st' := (24, [.ref 16, .int c, .int e, .int (nI k)], [.int (nI k), .ref 16], S0 L, h)) rfl ?_
      refine T_callR (S' := [.int (h 17 (7 + k))]) (h' := h) (r_X0_placeOf (L := L) h k (by omega)) (by decide) rfl rfl rfl rfl rfl rfl rfl ?_
      refine T_run 1 (st' := (28, [.ref 16, .int c, .int e, .int (nI k)], [.int c, .int (h 17 (7 + k))], S0 L, h)) rfl ?_
      refine T_ifne (c := (h 17 (7 + k)) = c) (t := 46) (f := 31) (L := [.ref 16, .int c, .int e, .int (nI k)]) (S := []) (G := S0 L) (h := h) rfl (fun q28 => ?_) (fun q28 => ?_)
      · refine T_run 2 (st' := (2, [.ref 16, .int c, .int e, .int (nI k + 1)], [], S0 L, h)) rfl ?_
        exact T_st (by rw [nI_1]) (ih (by first | exact any_no hI (decide_eq_false (fun z => q19 z.1.1)) | exact any_no hI (decide_eq_false (fun z => q28 z.1.2)) | exact any_no hI (decide_eq_false (fun z => q41 z.2))))
      · refine T_run 4 (st' := (39, [.ref 16, .int c, .int e, .int (nI k)], [.int (nI k), .ref 7], S0 L, h)) rfl ?_
        refine T_ald (n := k) rfl rfl rfl (by omega) (by decide) rfl ?_
        refine T_run 1 (st' := (41, [.ref 16, .int c, .int e, .int (nI k)], [.int e, .int (h 7 k)], S0 L, h)) rfl ?_
        refine T_ifne (c := (h 7 k) = e) (t := 46) (f := 44) (L := [.ref 16, .int c, .int e, .int (nI k)]) (S := []) (G := S0 L) (h := h) rfl (fun q41 => ?_) (fun q41 => ?_)
        · refine T_run 2 (st' := (2, [.ref 16, .int c, .int e, .int (nI k + 1)], [], S0 L, h)) rfl ?_
          exact T_st (by rw [nI_1]) (ih (by first | exact any_no hI (decide_eq_false (fun z => q19 z.1.1)) | exact any_no hI (decide_eq_false (fun z => q28 z.1.2)) | exact any_no hI (decide_eq_false (fun z => q41 z.2))))
        · refine T_run 1 (st' := (45, [.ref 16, .int c, .int e, .int (nI k)], [.int 1], S0 L, h)) rfl ?_
          exact T_retR rfl rfl (by first | exact congrArg some (b2i_t (any_of (decide_eq_true ⟨⟨q19, q28⟩, q41⟩) hk)).symm | exact congrArg some (b2i_f (by rw [hI]; decide)).symm) rfl
  · intro hI
    refine T_run 4 (st' := (10, [.ref 16, .int c, .int e, .int (nI n)], [.int (h 3 3), .int (nI n)], S0 L, h)) rfl ?_
    refine T_iftP (c := (h 3 3) ≤ (nI n)) (P := n ≤ n) (t := 52) (f := 13) (L := [.ref 16, .int c, .int e, .int (nI n)]) (S := []) (G := S0 L) (h := h) rfl (nI_leE hn rfl (by omega) (by omega)) (by omega) ?_
    refine T_run 1 (st' := (53, [.ref 16, .int c, .int e, .int (nI n)], [.int 0], S0 L, h)) rfl ?_
    exact T_retR rfl rfl (by first | exact congrArg some (b2i_t (any_of (decide_eq_true ⟨⟨q19, q28⟩, q41⟩) hk)).symm | exact congrArg some (b2i_f (by rw [hI]; decide)).symm) rfl
theorem r_X0_canBeDone {L : Nat} (h : AH) (d : Nat) (hd : d < 7) : Rt L 1 19 [.ref 16, .int (nI d)] h (some (b2i (h 17 d = 0))) h := by
  refine T_run 2 (st' := (2, [.ref 16, .int (nI d)], [.int (nI d), .ref 16], S0 L, h)) rfl ?_
  refine T_callR (S' := [.int (h 17 d)]) (h' := h) (r_X0_stageOf (L := L) h d (by omega)) (by decide) rfl rfl rfl rfl rfl rfl rfl ?_
  refine T_ifne (c := (h 17 d) = 0) (t := 12) (f := 8) (L := [.ref 16, .int (nI d)]) (S := []) (G := S0 L) (h := h) rfl (fun q5 => ?_) (fun q5 => ?_)
  · refine T_run 1 (st' := (13, [.ref 16, .int (nI d)], [.int 0], S0 L, h)) rfl ?_
    exact T_retR rfl rfl (by first | rfl | simp [b2i, *]) rfl
  · refine T_run 2 (st' := (13, [.ref 16, .int (nI d)], [.int 1], S0 L, h)) rfl ?_
    exact T_retR rfl rfl (by first | rfl | simp [b2i, *]) rfl
theorem r_X0_canBeCarried {L : Nat} (h : AH) (d : Nat) (c : Int32) (hd : d < 7) : Rt L 1 20 [.ref 16, .int (nI d), .int c] h (some (b2i (h 17 d = 1 ∧ ¬ h 17 (7 + d) = c))) h := by
  refine T_run 2 (st' := (2, [.ref 16, .int (nI d), .int c], [.int (nI d), .ref 16], S0 L, h)) rfl ?_
  refine T_callR (S' := [.int (b2i (h 17 d = 1))]) (h' := h) (r_X0_isInSatchel (L := L) h d (by omega)) (by decide) rfl rfl rfl rfl rfl rfl rfl ?_
  refine T_ifz (P := (h 17 d = 1)) (t := 21) (f := 8) (L := [.ref 16, .int (nI d), .int c]) (S := []) (G := S0 L) (h := h) rfl (fun q5 => ?_) (fun q5 => ?_)
  · refine T_run 1 (st' := (22, [.ref 16, .int (nI d), .int c], [.int 0], S0 L, h)) rfl ?_
    exact T_retR rfl rfl (by first | rfl | simp [b2i, *]) rfl
  · refine T_run 2 (st' := (10, [.ref 16, .int (nI d), .int c], [.int (nI d), .ref 16], S0 L, h)) rfl ?_
    refine T_callR (S' := [.int (h 17 (7 + d))]) (h' := h) (r_X0_placeOf (L := L) h d (by omega)) (by decide) rfl rfl rfl rfl rfl rfl rfl ?_
    refine T_run 1 (st' := (14, [.ref 16, .int (nI d), .int c], [.int c, .int (h 17 (7 + d))], S0 L, h)) rfl ?_
    refine T_if (c := (h 17 (7 + d)) = c) (t := 21) (f := 17) (L := [.ref 16, .int (nI d), .int c]) (S := []) (G := S0 L) (h := h) rfl (fun q14 => ?_) (fun q14 => ?_)
    · refine T_run 1 (st' := (22, [.ref 16, .int (nI d), .int c], [.int 0], S0 L, h)) rfl ?_
      exact T_retR rfl rfl (by first | rfl | simp [b2i, *]) rfl
    · refine T_run 2 (st' := (22, [.ref 16, .int (nI d), .int c], [.int 1], S0 L, h)) rfl ?_
      exact T_retR rfl rfl (by first | rfl | simp [b2i, *]) rfl
theorem r_X0_canBeThrown {L : Nat} (h : AH) (d : Nat) (hd : d < 7) : Rt L 1 21 [.ref 16, .int (nI d)] h (some (b2i (h 17 d = 1 ∧ ¬ (h 3 1) < (h 17 20) + (h 8 d)))) h := by
  refine T_run 2 (st' := (2, [.ref 16, .int (nI d)], [.int (nI d), .ref 16], S0 L, h)) rfl ?_
  refine T_callR (S' := [.int (b2i (h 17 d = 1))]) (h' := h) (r_X0_isInSatchel (L := L) h d (by omega)) (by decide) rfl rfl rfl rfl rfl rfl rfl ?_
  refine T_ifz (P := (h 17 d = 1)) (t := 36) (f := 8) (L := [.ref 16, .int (nI d)]) (S := []) (G := S0 L) (h := h) rfl (fun q5 => ?_) (fun q5 => ?_)
  · refine T_run 1 (st' := (37, [.ref 16, .int (nI d)], [.int 0], S0 L, h)) rfl ?_
    exact T_retR rfl rfl (by first | rfl | simp [b2i, *]) rfl
  · refine T_run 1 (st' := (9, [.ref 16, .int (nI d)], [.ref 16], S0 L, h)) rfl ?_
    refine T_callR (S' := [.int (h 17 20)]) (h' := h) (r_X0_takenThisDay (L := L) h  ) (by decide) rfl rfl rfl rfl rfl rfl rfl ?_
    refine T_run 4 (st' := (20, [.ref 16, .int (nI d)], [.int (nI d), .ref 8, .int (h 17 20)], S0 L, h)) rfl ?_
    refine T_ald (n := d) rfl rfl rfl (by omega) (by decide) rfl ?_
    refine T_run 4 (st' := (29, [.ref 16, .int (nI d)], [.int (h 3 1), .int ((h 17 20) + (h 8 d))], S0 L, h)) rfl ?_
    refine T_if (c := (h 3 1) < ((h 17 20) + (h 8 d))) (t := 36) (f := 32) (L := [.ref 16, .int (nI d)]) (S := []) (G := S0 L) (h := h) rfl (fun q29 => ?_) (fun q29 => ?_)
    · refine T_run 1 (st' := (37, [.ref 16, .int (nI d)], [.int 0], S0 L, h)) rfl ?_
      exact T_retR rfl rfl (by first | rfl | simp [b2i, *]) rfl
    · refine T_run 2 (st' := (37, [.ref 16, .int (nI d)], [.int 1], S0 L, h)) rfl ?_
      exact T_retR rfl rfl (by first | rfl | simp [b2i, *]) rfl
theorem r_X0_areInUnlikeSatchels {L : Nat} (h : AH) (d : Nat) (e : Nat) (hd : d < 7) (he : e < 7) : Rt L 1 22 [.ref 16, .int (nI d), .int (nI e)] h (some (b2i (h 17 d = 1 ∧ h 17 e = 1 ∧ ¬ h 17 (7 + d) = h 17 (7 + e)))) h := by
  refine T_run 2 (st' := (2, [.ref 16, .int (nI d), .int (nI e)], [.int (nI d), .ref 16], S0 L, h)) rfl ?_
  refine T_callR (S' := [.int (b2i (h 17 d = 1))]) (h' := h) (r_X0_isInSatchel (L := L) h d (by omega)) (by decide) rfl rfl rfl rfl rfl rfl rfl ?_
  refine T_ifz (P := (h 17 d = 1)) (t := 33) (f := 8) (L := [.ref 16, .int (nI d), .int (nI e)]) (S := []) (G := S0 L) (h := h) rfl (fun q5 => ?_) (fun q5 => ?_)
  · refine T_run 1 (st' := (34, [.ref 16, .int (nI d), .int (nI e)], [.int 0], S0 L, h)) rfl ?_
    exact T_retR rfl rfl (by first | rfl | simp [b2i, *]) rfl
  · refine T_run 2 (st' := (10, [.ref 16, .int (nI d), .int (nI e)], [.int (nI e), .ref 16], S0 L, h)) rfl ?_
    refine T_callR (S' := [.int (b2i (h 17 e = 1))]) (h' := h) (r_X0_isInSatchel (L := L) h e (by omega)) (by decide) rfl rfl rfl rfl rfl rfl rfl ?_
    refine T_ifz (P := (h 17 e = 1)) (t := 33) (f := 16) (L := [.ref 16, .int (nI d), .int (nI e)]) (S := []) (G := S0 L) (h := h) rfl (fun q13 => ?_) (fun q13 => ?_)
    · refine T_run 1 (st' := (34, [.ref 16, .int (nI d), .int (nI e)], [.int 0], S0 L, h)) rfl ?_
      exact T_retR rfl rfl (by first | rfl | simp [b2i, *]) rfl
    · refine T_run 2 (st' := (18, [.ref 16, .int (nI d), .int (nI e)], [.int (nI d), .ref 16], S0 L, h)) rfl ?_
      refine T_callR (S' := [.int (h 17 (7 + d))]) (h' := h) (r_X0_placeOf (L := L) h d (by omega)) (by decide) rfl rfl rfl rfl rfl rfl rfl ?_
      refine T_run 2 (st' := (23, [.ref 16, .int (nI d), .int (nI e)], [.int (nI e), .ref 16, .int (h 17 (7 + d))], S0 L, h)) rfl ?_
      refine T_callR (S' := [.int (h 17 (7 + e)), .int (h 17 (7 + d))]) (h' := h) (r_X0_placeOf (L := L) h e (by omega)) (by decide) rfl rfl rfl rfl rfl rfl rfl ?_
      refine T_if (c := (h 17 (7 + d)) = (h 17 (7 + e))) (t := 33) (f := 29) (L := [.ref 16, .int (nI d), .int (nI e)]) (S := []) (G := S0 L) (h := h) rfl (fun q26 => ?_) (fun q26 => ?_)
      · refine T_run 1 (st' := (34, [.ref 16, .int (nI d), .int (nI e)], [.int 0], S0 L, h)) rfl ?_
        exact T_retR rfl rfl (by first | rfl | simp [b2i, *]) rfl
      · refine T_run 2 (st' := (34, [.ref 16, .int (nI d), .int (nI e)], [.int 1], S0 L, h)) rfl ?_
        exact T_retR rfl rfl (by first | rfl | simp [b2i, *]) rfl
theorem r_X0_isLightenedBySwap {L : Nat} (h : AH) (d : Nat) (e : Nat) (n : Nat) (hn : h 3 3 = nI n) (h7 : n ≤ 7) (c0 : Nat) (hc : h 3 2 = nI c0) (h5 : c0 ≤ 5) (hpl : ∀ d, d < n → h 17 d = 1 → ∃ p, p < c0 ∧ h 17 (7 + d) = nI p) (hd : d < n) (he : e < n) : Rt L 3 23 [.ref 16, .int (nI d), .int (nI e)] h (some (b2i (ltB (h 17) (fun z_ => (h 17) (7 + z_)) (h 8) (h 4) n d e = true))) h := by
  refine T_run 3 (st' := (3, [.ref 16, .int (nI d), .int (nI e), un_, un_, un_], [.int (nI e), .int (nI d), .ref 16], S0 L, h)) rfl ?_
  refine T_callR (S' := [.int (b2i (h 17 d = 1 ∧ h 17 e = 1 ∧ ¬ h 17 (7 + d) = h 17 (7 + e)))]) (h' := h) (r_X0_areInUnlikeSatchels (L := L) h d e (by omega) (by omega)) (by decide) rfl rfl rfl rfl rfl rfl rfl ?_
  refine T_ifnz (P := (h 17 d = 1 ∧ h 17 e = 1 ∧ ¬ h 17 (7 + d) = h 17 (7 + e))) (t := 11) (f := 9) (L := [.ref 16, .int (nI d), .int (nI e), un_, un_, un_]) (S := []) (G := S0 L) (h := h) rfl (fun q6 => ?_) (fun q6 => ?_)
  · obtain ⟨a_, ha_, ea_⟩ := hpl d hd q6.1
    obtain ⟨b_, hb_, eb_⟩ := hpl e he q6.2.1
    refine T_run 2 (st' := (13, [.ref 16, .int (nI d), .int (nI e), un_, un_, un_], [.int (nI d), .ref 16], S0 L, h)) rfl ?_
    refine T_callR (S' := [.int (h 17 (7 + d))]) (h' := h) (r_X0_placeOf (L := L) h d (by omega)) (by decide) rfl rfl rfl rfl rfl rfl rfl ?_
    refine T_run 3 (st' := (19, [.ref 16, .int (nI d), .int (nI e), .int (h 17 (7 + d)), un_, un_], [.int (nI e), .ref 16], S0 L, h)) rfl ?_
    refine T_callR (S' := [.int (h 17 (7 + e))]) (h' := h) (r_X0_placeOf (L := L) h e (by omega)) (by decide) rfl rfl rfl rfl rfl rfl rfl ?_
    refine T_run 5 (st' := (32, [.ref 16, .int (nI d), .int (nI e), .int (h 17 (7 + d)), .int (h 17 (7 + e)), un_], [.int (nI e), .ref 8], S0 L, h)) rfl ?_
    refine T_ald (n := e) rfl rfl rfl (by omega) (by decide) rfl ?_
    refine T_run 4 (st' := (41, [.ref 16, .int (nI d), .int (nI e), .int (h 17 (7 + d)), .int (h 17 (7 + e)), un_], [.int (nI d), .ref 8, .int (h 8 e)], S0 L, h)) rfl ?_
    refine T_ald (n := d) rfl rfl rfl (by omega) (by decide) rfl ?_
    refine T_run 4 (st' := (47, [.ref 16, .int (nI d), .int (nI e), .int (h 17 (7 + d)), .int (h 17 (7 + e)), .int ((h 8 e) - (h 8 d))], [.int (h 17 (7 + d)), .ref 16], S0 L, h)) rfl ?_
    refine T_callR (S' := [.int (b2i (¬ loadS (h 17) (fun z_ => (h 17) (7 + z_)) (h 8) (nI a_) n ≤ (h 4 a_)))]) (h' := h) (r_X0_isLamed (L := L) h a_ n hn h7 (by omega)) (by decide) rfl rfl rfl rfl (by simp only [List.take, List.reverse, List.reverseAux]; rw [ea_]) rfl rfl ?_
    refine T_ifnz (P := (¬ loadS (h 17) (fun z_ => (h 17) (7 + z_)) (h 8) (nI a_) n ≤ (h 4 a_))) (t := 62) (f := 53) (L := [.ref 16, .int (nI d), .int (nI e), .int (h 17 (7 + d)), .int (h 17 (7 + e)), .int ((h 8 e) - (h 8 d))]) (S := []) (G := S0 L) (h := h) rfl (fun q50 => ?_) (fun q50 => ?_)
    · refine T_run 2 (st' := (64, [.ref 16, .int (nI d), .int (nI e), .int (h 17 (7 + d)), .int (h 17 (7 + e)), .int ((h 8 e) - (h 8 d))], [.int (h 17 (7 + d)), .ref 16], S0 L, h)) rfl ?_
      refine T_callR (S' := [.int (loadS (h 17) (fun z_ => (h 17) (7 + z_)) (h 8) (h 17 (7 + d)) n)]) (h' := h) (r_X0_loadOf (L := L) h (h 17 (7 + d)) n hn h7) (by decide) rfl rfl rfl rfl rfl rfl rfl ?_
      refine T_run 6 (st' := (78, [.ref 16, .int (nI d), .int (nI e), .int (h 17 (7 + d)), .int (h 17 (7 + e)), .int ((h 8 e) - (h 8 d))], [.int (h 17 (7 + d)), .ref 4, .int ((loadS (h 17) (fun z_ => (h 17) (7 + z_)) (h 8) (h 17 (7 + d)) n) + ((h 8 e) - (h 8 d)))], S0 L, h)) rfl ?_
      refine T_ald (n := a_) rfl rfl ea_ (by omega) (by decide) rfl ?_
      refine T_if (c := (h 4 a_) < ((loadS (h 17) (fun z_ => (h 17) (7 + z_)) (h 8) (h 17 (7 + d)) n) + ((h 8 e) - (h 8 d)))) (t := 108) (f := 82) (L := [.ref 16, .int (nI d), .int (nI e), .int (h 17 (7 + d)), .int (h 17 (7 + e)), .int ((h 8 e) - (h 8 d))]) (S := []) (G := S0 L) (h := h) rfl (fun q79 => ?_) (fun q79 => ?_)
      · refine T_run 1 (st' := (109, [.ref 16, .int (nI d), .int (nI e), .int (h 17 (7 + d)), .int (h 17 (7 + e)), .int ((h 8 e) - (h 8 d))], [.int 0], S0 L, h)) rfl ?_
        exact T_retR rfl rfl (by first | exact congrArg some (b2i_f (by unfold ltB; rw [decide_eq_false (fun z => q6 z.1)]; decide)).symm | (simp only [ltB, ea_, eb_, nI_clamp (show a_ < 2 ^ 31 by omega), nI_clamp (show b_ < 2 ^ 31 by omega)] at *; rw [i32_a (x := loadS (h 17) (fun z_ => (h 17) (7 + z_)) (h 8) (nI a_) n) (y := h 8 d) (z := h 8 e), i32_b (x := loadS (h 17) (fun z_ => (h 17) (7 + z_)) (h 8) (nI b_) n) (y := h 8 e) (z := h 8 d)]; generalize loadS (h 17) (fun z_ => (h 17) (7 + z_)) (h 8) (nI a_) n = A1 at *; generalize loadS (h 17) (fun z_ => (h 17) (7 + z_)) (h 8) (nI b_) n = B1 at *; generalize h 8 e - h 8 d = M1 at *; first | exact congrArg some (b2i_t (decide_eq_true (by grind))).symm | exact congrArg some (b2i_f (by rw [decide_eq_false (by grind)]; decide)).symm)) rfl
      · refine T_run 2 (st' := (85, [.ref 16, .int (nI d), .int (nI e), .int (h 17 (7 + d)), .int (h 17 (7 + e)), .int ((h 8 e) - (h 8 d))], [.int (h 17 (7 + e)), .ref 16], S0 L, h)) rfl ?_
        refine T_callR (S' := [.int (loadS (h 17) (fun z_ => (h 17) (7 + z_)) (h 8) (h 17 (7 + e)) n)]) (h' := h) (r_X0_loadOf (L := L) h (h 17 (7 + e)) n hn h7) (by decide) rfl rfl rfl rfl rfl rfl rfl ?_
        refine T_run 6 (st' := (100, [.ref 16, .int (nI d), .int (nI e), .int (h 17 (7 + d)), .int (h 17 (7 + e)), .int ((h 8 e) - (h 8 d))], [.int (h 17 (7 + e)), .ref 4, .int ((loadS (h 17) (fun z_ => (h 17) (7 + z_)) (h 8) (h 17 (7 + e)) n) - ((h 8 e) - (h 8 d)))], S0 L, h)) rfl ?_
        refine T_ald (n := b_) rfl rfl eb_ (by omega) (by decide) rfl ?_
        refine T_if (c := (h 4 b_) < ((loadS (h 17) (fun z_ => (h 17) (7 + z_)) (h 8) (h 17 (7 + e)) n) - ((h 8 e) - (h 8 d)))) (t := 108) (f := 104) (L := [.ref 16, .int (nI d), .int (nI e), .int (h 17 (7 + d)), .int (h 17 (7 + e)), .int ((h 8 e) - (h 8 d))]) (S := []) (G := S0 L) (h := h) rfl (fun q101 => ?_) (fun q101 => ?_)
        · refine T_run 1 (st' := (109, [.ref 16, .int (nI d), .int (nI e), .int (h 17 (7 + d)), .int (h 17 (7 + e)), .int ((h 8 e) - (h 8 d))], [.int 0], S0 L, h)) rfl ?_
          exact T_retR rfl rfl (by first | exact congrArg some (b2i_f (by unfold ltB; rw [decide_eq_false (fun z => q6 z.1)]; decide)).symm | (simp only [ltB, ea_, eb_, nI_clamp (show a_ < 2 ^ 31 by omega), nI_clamp (show b_ < 2 ^ 31 by omega)] at *; rw [i32_a (x := loadS (h 17) (fun z_ => (h 17) (7 + z_)) (h 8) (nI a_) n) (y := h 8 d) (z := h 8 e), i32_b (x := loadS (h 17) (fun z_ => (h 17) (7 + z_)) (h 8) (nI b_) n) (y := h 8 e) (z := h 8 d)]; generalize loadS (h 17) (fun z_ => (h 17) (7 + z_)) (h 8) (nI a_) n = A1 at *; generalize loadS (h 17) (fun z_ => (h 17) (7 + z_)) (h 8) (nI b_) n = B1 at *; generalize h 8 e - h 8 d = M1 at *; first | exact congrArg some (b2i_t (decide_eq_true (by grind))).symm | exact congrArg some (b2i_f (by rw [decide_eq_false (by grind)]; decide)).symm)) rfl
        · refine T_run 2 (st' := (109, [.ref 16, .int (nI d), .int (nI e), .int (h 17 (7 + d)), .int (h 17 (7 + e)), .int ((h 8 e) - (h 8 d))], [.int 1], S0 L, h)) rfl ?_
          exact T_retR rfl rfl (by first | exact congrArg some (b2i_f (by unfold ltB; rw [decide_eq_false (fun z => q6 z.1)]; decide)).symm | (simp only [ltB, ea_, eb_, nI_clamp (show a_ < 2 ^ 31 by omega), nI_clamp (show b_ < 2 ^ 31 by omega)] at *; rw [i32_a (x := loadS (h 17) (fun z_ => (h 17) (7 + z_)) (h 8) (nI a_) n) (y := h 8 d) (z := h 8 e), i32_b (x := loadS (h 17) (fun z_ => (h 17) (7 + z_)) (h 8) (nI b_) n) (y := h 8 e) (z := h 8 d)]; generalize loadS (h 17) (fun z_ => (h 17) (7 + z_)) (h 8) (nI a_) n = A1 at *; generalize loadS (h 17) (fun z_ => (h 17) (7 + z_)) (h 8) (nI b_) n = B1 at *; generalize h 8 e - h 8 d = M1 at *; first | exact congrArg some (b2i_t (decide_eq_true (by grind))).symm | exact congrArg some (b2i_f (by rw [decide_eq_false (by grind)]; decide)).symm)) rfl
    · refine T_run 2 (st' := (56, [.ref 16, .int (nI d), .int (nI e), .int (h 17 (7 + d)), .int (h 17 (7 + e)), .int ((h 8 e) - (h 8 d))], [.int (h 17 (7 + e)), .ref 16], S0 L, h)) rfl ?_
      refine T_callR (S' := [.int (b2i (¬ loadS (h 17) (fun z_ => (h 17) (7 + z_)) (h 8) (nI b_) n ≤ (h 4 b_)))]) (h' := h) (r_X0_isLamed (L := L) h b_ n hn h7 (by omega)) (by decide) rfl rfl rfl rfl (by simp only [List.take, List.reverse, List.reverseAux]; rw [eb_]) rfl rfl ?_
      refine T_ifz (P := (¬ loadS (h 17) (fun z_ => (h 17) (7 + z_)) (h 8) (nI b_) n ≤ (h 4 b_))) (t := 108) (f := 62) (L := [.ref 16, .int (nI d), .int (nI e), .int (h 17 (7 + d)), .int (h 17 (7 + e)), .int ((h 8 e) - (h 8 d))]) (S := []) (G := S0 L) (h := h) rfl (fun q59 => ?_) (fun q59 => ?_)
      · refine T_run 1 (st' := (109, [.ref 16, .int (nI d), .int (nI e), .int (h 17 (7 + d)), .int (h 17 (7 + e)), .int ((h 8 e) - (h 8 d))], [.int 0], S0 L, h)) rfl ?_
        exact T_retR rfl rfl (by first | exact congrArg some (b2i_f (by unfold ltB; rw [decide_eq_false (fun z => q6 z.1)]; decide)).symm | (simp only [ltB, ea_, eb_, nI_clamp (show a_ < 2 ^ 31 by omega), nI_clamp (show b_ < 2 ^ 31 by omega)] at *; rw [i32_a (x := loadS (h 17) (fun z_ => (h 17) (7 + z_)) (h 8) (nI a_) n) (y := h 8 d) (z := h 8 e), i32_b (x := loadS (h 17) (fun z_ => (h 17) (7 + z_)) (h 8) (nI b_) n) (y := h 8 e) (z := h 8 d)]; generalize loadS (h 17) (fun z_ => (h 17) (7 + z_)) (h 8) (nI a_) n = A1 at *; generalize loadS (h 17) (fun z_ => (h 17) (7 + z_)) (h 8) (nI b_) n = B1 at *; generalize h 8 e - h 8 d = M1 at *; first | exact congrArg some (b2i_t (decide_eq_true (by grind))).symm | exact congrArg some (b2i_f (by rw [decide_eq_false (by grind)]; decide)).symm)) rfl
      · refine T_run 2 (st' := (64, [.ref 16, .int (nI d), .int (nI e), .int (h 17 (7 + d)), .int (h 17 (7 + e)), .int ((h 8 e) - (h 8 d))], [.int (h 17 (7 + d)), .ref 16], S0 L, h)) rfl ?_
        refine T_callR (S' := [.int (loadS (h 17) (fun z_ => (h 17) (7 + z_)) (h 8) (h 17 (7 + d)) n)]) (h' := h) (r_X0_loadOf (L := L) h (h 17 (7 + d)) n hn h7) (by decide) rfl rfl rfl rfl rfl rfl rfl ?_
        refine T_run 6 (st' := (78, [.ref 16, .int (nI d), .int (nI e), .int (h 17 (7 + d)), .int (h 17 (7 + e)), .int ((h 8 e) - (h 8 d))], [.int (h 17 (7 + d)), .ref 4, .int ((loadS (h 17) (fun z_ => (h 17) (7 + z_)) (h 8) (h 17 (7 + d)) n) + ((h 8 e) - (h 8 d)))], S0 L, h)) rfl ?_
        refine T_ald (n := a_) rfl rfl ea_ (by omega) (by decide) rfl ?_
        refine T_if (c := (h 4 a_) < ((loadS (h 17) (fun z_ => (h 17) (7 + z_)) (h 8) (h 17 (7 + d)) n) + ((h 8 e) - (h 8 d)))) (t := 108) (f := 82) (L := [.ref 16, .int (nI d), .int (nI e), .int (h 17 (7 + d)), .int (h 17 (7 + e)), .int ((h 8 e) - (h 8 d))]) (S := []) (G := S0 L) (h := h) rfl (fun q79 => ?_) (fun q79 => ?_)
        · refine T_run 1 (st' := (109, [.ref 16, .int (nI d), .int (nI e), .int (h 17 (7 + d)), .int (h 17 (7 + e)), .int ((h 8 e) - (h 8 d))], [.int 0], S0 L, h)) rfl ?_
          exact T_retR rfl rfl (by first | exact congrArg some (b2i_f (by unfold ltB; rw [decide_eq_false (fun z => q6 z.1)]; decide)).symm | (simp only [ltB, ea_, eb_, nI_clamp (show a_ < 2 ^ 31 by omega), nI_clamp (show b_ < 2 ^ 31 by omega)] at *; rw [i32_a (x := loadS (h 17) (fun z_ => (h 17) (7 + z_)) (h 8) (nI a_) n) (y := h 8 d) (z := h 8 e), i32_b (x := loadS (h 17) (fun z_ => (h 17) (7 + z_)) (h 8) (nI b_) n) (y := h 8 e) (z := h 8 d)]; generalize loadS (h 17) (fun z_ => (h 17) (7 + z_)) (h 8) (nI a_) n = A1 at *; generalize loadS (h 17) (fun z_ => (h 17) (7 + z_)) (h 8) (nI b_) n = B1 at *; generalize h 8 e - h 8 d = M1 at *; first | exact congrArg some (b2i_t (decide_eq_true (by grind))).symm | exact congrArg some (b2i_f (by rw [decide_eq_false (by grind)]; decide)).symm)) rfl
        · refine T_run 2 (st' := (85, [.ref 16, .int (nI d), .int (nI e), .int (h 17 (7 + d)), .int (h 17 (7 + e)), .int ((h 8 e) - (h 8 d))], [.int (h 17 (7 + e)), .ref 16], S0 L, h)) rfl ?_
          refine T_callR (S' := [.int (loadS (h 17) (fun z_ => (h 17) (7 + z_)) (h 8) (h 17 (7 + e)) n)]) (h' := h) (r_X0_loadOf (L := L) h (h 17 (7 + e)) n hn h7) (by decide) rfl rfl rfl rfl rfl rfl rfl ?_
          refine T_run 6 (st' := (100, [.ref 16, .int (nI d), .int (nI e), .int (h 17 (7 + d)), .int (h 17 (7 + e)), .int ((h 8 e) - (h 8 d))], [.int (h 17 (7 + e)), .ref 4, .int ((loadS (h 17) (fun z_ => (h 17) (7 + z_)) (h 8) (h 17 (7 + e)) n) - ((h 8 e) - (h 8 d)))], S0 L, h)) rfl ?_
          refine T_ald (n := b_) rfl rfl eb_ (by omega) (by decide) rfl ?_
          refine T_if (c := (h 4 b_) < ((loadS (h 17) (fun z_ => (h 17) (7 + z_)) (h 8) (h 17 (7 + e)) n) - ((h 8 e) - (h 8 d)))) (t := 108) (f := 104) (L := [.ref 16, .int (nI d), .int (nI e), .int (h 17 (7 + d)), .int (h 17 (7 + e)), .int ((h 8 e) - (h 8 d))]) (S := []) (G := S0 L) (h := h) rfl (fun q101 => ?_) (fun q101 => ?_)
          · refine T_run 1 (st' := (109, [.ref 16, .int (nI d), .int (nI e), .int (h 17 (7 + d)), .int (h 17 (7 + e)), .int ((h 8 e) - (h 8 d))], [.int 0], S0 L, h)) rfl ?_
            exact T_retR rfl rfl (by first | exact congrArg some (b2i_f (by unfold ltB; rw [decide_eq_false (fun z => q6 z.1)]; decide)).symm | (simp only [ltB, ea_, eb_, nI_clamp (show a_ < 2 ^ 31 by omega), nI_clamp (show b_ < 2 ^ 31 by omega)] at *; rw [i32_a (x := loadS (h 17) (fun z_ => (h 17) (7 + z_)) (h 8) (nI a_) n) (y := h 8 d) (z := h 8 e), i32_b (x := loadS (h 17) (fun z_ => (h 17) (7 + z_)) (h 8) (nI b_) n) (y := h 8 e) (z := h 8 d)]; generalize loadS (h 17) (fun z_ => (h 17) (7 + z_)) (h 8) (nI a_) n = A1 at *; generalize loadS (h 17) (fun z_ => (h 17) (7 + z_)) (h 8) (nI b_) n = B1 at *; generalize h 8 e - h 8 d = M1 at *; first | exact congrArg some (b2i_t (decide_eq_true (by grind))).symm | exact congrArg some (b2i_f (by rw [decide_eq_false (by grind)]; decide)).symm)) rfl
          · refine T_run 2 (st' := (109, [.ref 16, .int (nI d), .int (nI e), .int (h 17 (7 + d)), .int (h 17 (7 + e)), .int ((h 8 e) - (h 8 d))], [.int 1], S0 L, h)) rfl ?_
            exact T_retR rfl rfl (by first | exact congrArg some (b2i_f (by unfold ltB; rw [decide_eq_false (fun z => q6 z.1)]; decide)).symm | (simp only [ltB, ea_, eb_, nI_clamp (show a_ < 2 ^ 31 by omega), nI_clamp (show b_ < 2 ^ 31 by omega)] at *; rw [i32_a (x := loadS (h 17) (fun z_ => (h 17) (7 + z_)) (h 8) (nI a_) n) (y := h 8 d) (z := h 8 e), i32_b (x := loadS (h 17) (fun z_ => (h 17) (7 + z_)) (h 8) (nI b_) n) (y := h 8 e) (z := h 8 d)]; generalize loadS (h 17) (fun z_ => (h 17) (7 + z_)) (h 8) (nI a_) n = A1 at *; generalize loadS (h 17) (fun z_ => (h 17) (7 + z_)) (h 8) (nI b_) n = B1 at *; generalize h 8 e - h 8 d = M1 at *; first | exact congrArg some (b2i_t (decide_eq_true (by grind))).symm | exact congrArg some (b2i_f (by rw [decide_eq_false (by grind)]; decide)).symm)) rfl
  · refine T_run 1 (st' := (10, [.ref 16, .int (nI d), .int (nI e), un_, un_, un_], [.int 0], S0 L, h)) rfl ?_
    exact T_retR rfl rfl (by first | exact congrArg some (b2i_f (by unfold ltB; rw [decide_eq_false (fun z => q6 z.1)]; decide)).symm | (simp only [ltB, ea_, eb_, nI_clamp (show a_ < 2 ^ 31 by omega), nI_clamp (show b_ < 2 ^ 31 by omega)] at *; rw [i32_a (x := loadS (h 17) (fun z_ => (h 17) (7 + z_)) (h 8) (nI a_) n) (y := h 8 d) (z := h 8 e), i32_b (x := loadS (h 17) (fun z_ => (h 17) (7 + z_)) (h 8) (nI b_) n) (y := h 8 e) (z := h 8 d)]; generalize loadS (h 17) (fun z_ => (h 17) (7 + z_)) (h 8) (nI a_) n = A1 at *; generalize loadS (h 17) (fun z_ => (h 17) (7 + z_)) (h 8) (nI b_) n = B1 at *; generalize h 8 e - h 8 d = M1 at *; first | exact congrArg some (b2i_t (decide_eq_true (by grind))).symm | exact congrArg some (b2i_f (by rw [decide_eq_false (by grind)]; decide)).symm)) rfl
theorem r_X0_putInSatchel {L : Nat} (h : AH) (d : Nat) (c : Int32) (hd : d < 7) : Rt L 0 25 [.ref 16, .int (nI d), .int c] h none (sc_ h 17 (layR d 1 c (h 17))) := by
  refine T_run 6 (st' := (8, [.ref 16, .int (nI d), .int c], [.int 1, .int (0 + (nI d)), .ref 17], S0 L, h)) rfl ?_
  refine T_ast (n := d) rfl rfl (z_add rfl) (by omega) (by decide) rfl ?_
  refine T_run 6 (st' := (18, [.ref 16, .int (nI d), .int c], [.int c, .int (7 + (nI d)), .ref 17], S0 L, (st_ h 17 d 1))) rfl ?_
  refine T_ast (n := 7 + d) rfl rfl (nI_addE rfl rfl) (by omega) (by decide) rfl ?_
  exact T_retR rfl rfl rfl (by rw [st_is (i := d), st_sc]; rfl)
theorem r_X0_putInOwnSatchel {L : Nat} (h : AH) (d : Nat) (hd : d < 7) : Rt L 1 24 [.ref 16, .int (nI d)] h none (sc_ h 17 (layR d 1 (h 7 d) (h 17))) := by
  refine T_run 6 (st' := (10, [.ref 16, .int (nI d)], [.int (nI d), .ref 7, .int (nI d), .ref 16], S0 L, h)) rfl ?_
  refine T_ald (n := d) rfl rfl rfl (by omega) (by decide) rfl ?_
  refine T_callR (S' := []) (h' := (sc_ h 17 (layR d 1 (h 7 d) (h 17)))) (r_X0_putInSatchel (L := L) h d (h 7 d) (by omega)) (by decide) rfl rfl rfl rfl rfl rfl rfl ?_
  exact T_retR rfl rfl rfl rfl
theorem r_X0_putNowhere {L : Nat} (h : AH) (d : Nat) (hd : d < 7) : Rt L 0 28 [.ref 16, .int (nI d)] h none (sc_ h 17 (layR d 0 (-1) (h 17))) := by
  refine T_run 6 (st' := (8, [.ref 16, .int (nI d)], [.int 0, .int (0 + (nI d)), .ref 17], S0 L, h)) rfl ?_
  refine T_ast (n := d) rfl rfl (z_add rfl) (by omega) (by decide) rfl ?_
  refine T_run 6 (st' := (18, [.ref 16, .int (nI d)], [.int (-1), .int (7 + (nI d)), .ref 17], S0 L, (st_ h 17 d 0))) rfl ?_
  refine T_ast (n := 7 + d) rfl rfl (nI_addE rfl rfl) (by omega) (by decide) rfl ?_
  exact T_retR rfl rfl rfl (by rw [st_is (i := d), st_sc]; rfl)
theorem r_X0_changePlaces {L : Nat} (h : AH) (d : Nat) (e : Nat) (hd : d < 7) (he : e < 7) : Rt L 1 26 [.ref 16, .int (nI d), .int (nI e)] h none (sc_ h 17 (layR e 1 (h 17 (7 + d)) (layR d 1 (h 17 (7 + e)) (h 17)))) := by
  refine T_run 2 (st' := (2, [.ref 16, .int (nI d), .int (nI e), un_], [.int (nI d), .ref 16], S0 L, h)) rfl ?_
  refine T_callR (S' := [.int (h 17 (7 + d))]) (h' := h) (r_X0_placeOf (L := L) h d (by omega)) (by decide) rfl rfl rfl rfl rfl rfl rfl ?_
  refine T_run 5 (st' := (10, [.ref 16, .int (nI d), .int (nI e), .int (h 17 (7 + d))], [.int (nI e), .ref 16, .int (nI d), .ref 16], S0 L, h)) rfl ?_
  refine T_callR (S' := [.int (h 17 (7 + e)), .int (nI d), .ref 16]) (h' := h) (r_X0_placeOf (L := L) h e (by omega)) (by decide) rfl rfl rfl rfl rfl rfl rfl ?_
  refine T_callR (S' := []) (h' := (sc_ h 17 (layR d 1 (h 17 (7 + e)) (h 17)))) (r_X0_putInSatchel (L := L) h d (h 17 (7 + e)) (by omega)) (by decide) rfl rfl rfl rfl rfl rfl rfl ?_
  refine T_run 3 (st' := (19, [.ref 16, .int (nI d), .int (nI e), .int (h 17 (7 + d))], [.int (h 17 (7 + d)), .int (nI e), .ref 16], S0 L, (sc_ h 17 (layR d 1 (h 17 (7 + e)) (h 17))))) rfl ?_
  refine T_callR (S' := []) (h' := (sc_ (sc_ h 17 (layR d 1 (h 17 (7 + e)) (h 17))) 17 (layR e 1 (h 17 (7 + d)) (layR d 1 (h 17 (7 + e)) (h 17))))) (r_X0_putInSatchel (L := L) (sc_ h 17 (layR d 1 (h 17 (7 + e)) (h 17))) e (h 17 (7 + d)) (by omega)) (by decide) rfl rfl rfl rfl rfl rfl rfl ?_
  exact T_retR rfl rfl rfl (by rw [sc_sc]; first | done | rfl)
theorem r_X0_putInBrook {L : Nat} (h : AH) (d : Nat) (hd : d < 7) : Rt L 0 27 [.ref 16, .int (nI d)] h none (sc_ h 17 (thrR 20 21 d (h 8 d) (h 17))) := by
  refine T_run 6 (st' := (8, [.ref 16, .int (nI d)], [.int 2, .int (0 + (nI d)), .ref 17], S0 L, h)) rfl ?_
  refine T_ast (n := d) rfl rfl (z_add rfl) (by omega) (by decide) rfl ?_
  refine T_run 6 (st' := (18, [.ref 16, .int (nI d)], [.int (-1), .int (7 + (nI d)), .ref 17], S0 L, (st_ h 17 d 2))) rfl ?_
  refine T_ast (n := 7 + d) rfl rfl (nI_addE rfl rfl) (by omega) (by decide) rfl ?_
  refine T_run 4 (st' := (26, [.ref 16, .int (nI d)], [.int 20, .ref 17, .int 20, .ref 17], S0 L, (st_ (st_ h 17 d 2) 17 (7 + d) (-1)))) rfl ?_
  refine T_ald (n := 20) rfl rfl rfl (by decide) (by decide) rfl ?_
  refine T_run 4 (st' := (35, [.ref 16, .int (nI d)], [.int (nI d), .ref 8, .int ((st_ (st_ h 17 d 2) 17 (7 + d) (-1)) 17 20), .int 20, .ref 17], S0 L, (st_ (st_ h 17 d 2) 17 (7 + d) (-1)))) rfl ?_
  refine T_ald (n := d) rfl rfl rfl (by omega) (by decide) rfl ?_
  refine T_run 1 (st' := (37, [.ref 16, .int (nI d)], [.int (((st_ (st_ h 17 d 2) 17 (7 + d) (-1)) 17 20) + (h 8 d)), .int 20, .ref 17], S0 L, (st_ (st_ h 17 d 2) 17 (7 + d) (-1)))) rfl ?_
  refine T_ast (n := 20) rfl rfl rfl (by decide) (by decide) rfl ?_
  refine T_run 7 (st' := (52, [.ref 16, .int (nI d)], [.int 21, .ref 17, .int 999999, .int 21, .ref 17], S0 L, (st_ (st_ (st_ h 17 d 2) 17 (7 + d) (-1)) 17 20 (((st_ (st_ h 17 d 2) 17 (7 + d) (-1)) 17 20) + (h 8 d))))) rfl ?_
  refine T_ald (n := 21) rfl rfl rfl (by decide) (by decide) rfl ?_
  refine T_run 4 (st' := (61, [.ref 16, .int (nI d)], [.int (nI d), .ref 8, .int ((st_ (st_ h 17 d 2) 17 (7 + d) (-1)) 17 21), .int 999999, .int 21, .ref 17], S0 L, (st_ (st_ (st_ h 17 d 2) 17 (7 + d) (-1)) 17 20 (((st_ (st_ h 17 d 2) 17 (7 + d) (-1)) 17 20) + (h 8 d))))) rfl ?_
  refine T_ald (n := d) rfl rfl rfl (by omega) (by decide) rfl ?_
  refine T_run 2 (st' := (66, [.ref 16, .int (nI d)], [.int (if ((st_ (st_ h 17 d 2) 17 (7 + d) (-1)) 17 21) + (h 8 d) < 999999 then ((st_ (st_ h 17 d 2) 17 (7 + d) (-1)) 17 21) + (h 8 d) else 999999), .int 21, .ref 17], S0 L, (st_ (st_ (st_ h 17 d 2) 17 (7 + d) (-1)) 17 20 (((st_ (st_ h 17 d 2) 17 (7 + d) (-1)) 17 20) + (h 8 d))))) rfl ?_
  refine T_ast (n := 21) rfl rfl rfl (by decide) (by decide) rfl ?_
  exact T_retR rfl rfl rfl (by funext a b; simp only [st_, sc_, layR, thrR, upd] at *; grind)
theorem r_X0_allGoHome {L : Nat} (h : AH)  (n : Nat) (hn : h 3 3 = nI n) (h7 : n ≤ 7) (c0 : Nat) (hc : h 3 2 = nI c0) (h5 : c0 ≤ 5) : Rt L 4 29 [.ref 16] h (some (setS (fun y_ => decide (¬ loadS (h 17) (fun z_ => (h 17) (7 + z_)) (h 8) (nI y_) n ≤ (h 4) y_)) c0)) (sc_ h 17 (goR 14 19 20 n c0 (setS (fun y_ => decide (¬ loadS (h 17) (fun z_ => (h 17) (7 + z_)) (h 8) (nI y_) n ≤ (h 4) y_)) c0) (h 17))) := by
  refine T_run 1 (st' := (1, [.ref 16, un_, un_], [.ref 16], S0 L, h)) rfl ?_
  refine T_callR (S' := [.int (setS (fun y_ => decide (¬ loadS (h 17) (fun z_ => (h 17) (7 + z_)) (h 8) (nI y_) n ≤ (h 4) y_)) c0)]) (h' := h) (r_X0_lamedSet (L := L) h  n hn h7 c0 hc h5) (by decide) rfl rfl rfl rfl rfl rfl rfl ?_
  refine T_run 3 (st' := (7, [.ref 16, .int (setS (fun y_ => decide (¬ loadS (h 17) (fun z_ => (h 17) (7 + z_)) (h 8) (nI y_) n ≤ (h 4) y_)) c0), .int 0], [], S0 L, h)) rfl ?_
  refine T_h (h' := (sc_ h 17 (fun q => if 14 ≤ q ∧ q < 14 + 0 then h 17 q + ((setS (fun y_ => decide (¬ loadS (h 17) (fun z_ => (h 17) (7 + z_)) (h 8) (nI y_) n ≤ (h 4) y_)) c0 >>> (nI (q - 14) &&& 31)) &&& 1) else h 17 q))) (by funext a b; simp only [st_, sc_]; grind) ?_
  refine T_loop (fun k => (7, [.ref 16, .int (setS (fun y_ => decide (¬ loadS (h 17) (fun z_ => (h 17) (7 + z_)) (h 8) (nI y_) n ≤ (h 4) y_)) c0), .int (nI k)], [], S0 L, (sc_ h 17 (fun q => if 14 ≤ q ∧ q < 14 + k then h 17 q + ((setS (fun y_ => decide (¬ loadS (h 17) (fun z_ => (h 17) (7 + z_)) (h 8) (nI y_) n ≤ (h 4) y_)) c0 >>> (nI (q - 14) &&& 31)) &&& 1) else h 17 q)))) c0 ?_ ?_
  · intro k hk ih
    refine T_run 4 (st' := (15, [.ref 16, .int (setS (fun y_ => decide (¬ loadS (h 17) (fun z_ => (h 17) (7 + z_)) (h 8) (nI y_) n ≤ (h 4) y_)) c0), .int (nI k)], [.int (h 3 2), .int (nI k)], S0 L, (sc_ h 17 (fun q => if 14 ≤ q ∧ q < 14 + k then h 17 q + ((setS (fun y_ => decide (¬ loadS (h 17) (fun z_ => (h 17) (7 + z_)) (h 8) (nI y_) n ≤ (h 4) y_)) c0 >>> (nI (q - 14) &&& 31)) &&& 1) else h 17 q)))) rfl ?_
    refine T_iffP (c := (h 3 2) ≤ (nI k)) (P := c0 ≤ k) (t := 41) (f := 18) (L := [.ref 16, .int (setS (fun y_ => decide (¬ loadS (h 17) (fun z_ => (h 17) (7 + z_)) (h 8) (nI y_) n ≤ (h 4) y_)) c0), .int (nI k)]) (S := []) (G := S0 L) (h := (sc_ h 17 (fun q => if 14 ≤ q ∧ q < 14 + k then h 17 q + ((setS (fun y_ => decide (¬ loadS (h 17) (fun z_ => (h 17) (7 + z_)) (h 8) (nI y_) n ≤ (h 4) y_)) c0 >>> (nI (q - 14) &&& 31)) &&& 1) else h 17 q))) rfl (nI_leE hc rfl (by omega) (by omega)) (by omega) ?_
    refine T_run 6 (st' := (27, [.ref 16, .int (setS (fun y_ => decide (¬ loadS (h 17) (fun z_ => (h 17) (7 + z_)) (h 8) (nI y_) n ≤ (h 4) y_)) c0), .int (nI k)], [.int (14 + (nI k)), .ref 17, .int (14 + (nI k)), .ref 17], S0 L, (sc_ h 17 (fun q => if 14 ≤ q ∧ q < 14 + k then h 17 q + ((setS (fun y_ => decide (¬ loadS (h 17) (fun z_ => (h 17) (7 + z_)) (h 8) (nI y_) n ≤ (h 4) y_)) c0 >>> (nI (q - 14) &&& 31)) &&& 1) else h 17 q)))) rfl ?_
    refine T_ald (n := 14 + k) rfl rfl (nI_addE rfl rfl) (by omega) (by decide) rfl ?_
    refine T_run 6 (st' := (34, [.ref 16, .int (setS (fun y_ => decide (¬ loadS (h 17) (fun z_ => (h 17) (7 + z_)) (h 8) (nI y_) n ≤ (h 4) y_)) c0), .int (nI k)], [.int (((fun q => if 14 ≤ q ∧ q < 14 + k then h 17 q + ((setS (fun y_ => decide (¬ loadS (h 17) (fun z_ => (h 17) (7 + z_)) (h 8) (nI y_) n ≤ (h 4) y_)) c0 >>> (nI (q - 14) &&& 31)) &&& 1) else h 17 q) (14 + k)) + (((setS (fun y_ => decide (¬ loadS (h 17) (fun z_ => (h 17) (7 + z_)) (h 8) (nI y_) n ≤ (h 4) y_)) c0) >>> ((nI k) &&& 31)) &&& 1)), .int (14 + (nI k)), .ref 17], S0 L, (sc_ h 17 (fun q => if 14 ≤ q ∧ q < 14 + k then h 17 q + ((setS (fun y_ => decide (¬ loadS (h 17) (fun z_ => (h 17) (7 + z_)) (h 8) (nI y_) n ≤ (h 4) y_)) c0 >>> (nI (q - 14) &&& 31)) &&& 1) else h 17 q)))) rfl ?_
    refine T_ast (n := 14 + k) rfl rfl (nI_addE rfl rfl) (by omega) (by decide) rfl ?_
    refine T_run 2 (st' := (7, [.ref 16, .int (setS (fun y_ => decide (¬ loadS (h 17) (fun z_ => (h 17) (7 + z_)) (h 8) (nI y_) n ≤ (h 4) y_)) c0), .int (nI k + 1)], [], S0 L, (st_ (sc_ h 17 (fun q => if 14 ≤ q ∧ q < 14 + k then h 17 q + ((setS (fun y_ => decide (¬ loadS (h 17) (fun z_ => (h 17) (7 + z_)) (h 8) (nI y_) n ≤ (h 4) y_)) c0 >>> (nI (q - 14) &&& 31)) &&& 1) else h 17 q)) 17 (14 + k) (((fun q => if 14 ≤ q ∧ q < 14 + k then h 17 q + ((setS (fun y_ => decide (¬ loadS (h 17) (fun z_ => (h 17) (7 + z_)) (h 8) (nI y_) n ≤ (h 4) y_)) c0 >>> (nI (q - 14) &&& 31)) &&& 1) else h 17 q) (14 + k)) + (((setS (fun y_ => decide (¬ loadS (h 17) (fun z_ => (h 17) (7 + z_)) (h 8) (nI y_) n ≤ (h 4) y_)) c0) >>> ((nI k) &&& 31)) &&& 1))))) rfl ?_
    refine T_h (h' := (sc_ h 17 (fun q => if 14 ≤ q ∧ q < 14 + (k + 1) then h 17 q + ((setS (fun y_ => decide (¬ loadS (h 17) (fun z_ => (h 17) (7 + z_)) (h 8) (nI y_) n ≤ (h 4) y_)) c0 >>> (nI (q - 14) &&& 31)) &&& 1) else h 17 q))) (by generalize setS (fun y_ => decide (¬ loadS (h 17) (fun z_ => (h 17) (7 + z_)) (h 8) (nI y_) n ≤ (h 4) y_)) c0 = S at *; funext a b; simp only [st_, sc_]; grind) ?_
    exact T_st (by simp [nI_1, *]) ih
  · skip
    refine T_run 4 (st' := (15, [.ref 16, .int (setS (fun y_ => decide (¬ loadS (h 17) (fun z_ => (h 17) (7 + z_)) (h 8) (nI y_) n ≤ (h 4) y_)) c0), .int (nI c0)], [.int (h 3 2), .int (nI c0)], S0 L, (sc_ h 17 (fun q => if 14 ≤ q ∧ q < 14 + c0 then h 17 q + ((setS (fun y_ => decide (¬ loadS (h 17) (fun z_ => (h 17) (7 + z_)) (h 8) (nI y_) n ≤ (h 4) y_)) c0 >>> (nI (q - 14) &&& 31)) &&& 1) else h 17 q)))) rfl ?_
    refine T_iftP (c := (h 3 2) ≤ (nI c0)) (P := c0 ≤ c0) (t := 41) (f := 18) (L := [.ref 16, .int (setS (fun y_ => decide (¬ loadS (h 17) (fun z_ => (h 17) (7 + z_)) (h 8) (nI y_) n ≤ (h 4) y_)) c0), .int (nI c0)]) (S := []) (G := S0 L) (h := (sc_ h 17 (fun q => if 14 ≤ q ∧ q < 14 + c0 then h 17 q + ((setS (fun y_ => decide (¬ loadS (h 17) (fun z_ => (h 17) (7 + z_)) (h 8) (nI y_) n ≤ (h 4) y_)) c0 >>> (nI (q - 14) &&& 31)) &&& 1) else h 17 q))) rfl (nI_leE hc rfl (by omega) (by omega)) (by omega) ?_
    refine T_run 2 (st' := (43, [.ref 16, .int (setS (fun y_ => decide (¬ loadS (h 17) (fun z_ => (h 17) (7 + z_)) (h 8) (nI y_) n ≤ (h 4) y_)) c0), .int 0], [], S0 L, (sc_ h 17 (fun q => if 14 ≤ q ∧ q < 14 + c0 then h 17 q + ((setS (fun y_ => decide (¬ loadS (h 17) (fun z_ => (h 17) (7 + z_)) (h 8) (nI y_) n ≤ (h 4) y_)) c0 >>> (nI (q - 14) &&& 31)) &&& 1) else h 17 q)))) rfl ?_
    refine T_h (h' := (sc_ h 17 (fun q => if q < 0 then (if h 17 q = 1 then 3 else h 17 q) else if 14 ≤ q ∧ q < 14 + c0 then h 17 q + ((setS (fun y_ => decide (¬ loadS (h 17) (fun z_ => (h 17) (7 + z_)) (h 8) (nI y_) n ≤ (h 4) y_)) c0 >>> (nI (q - 14) &&& 31)) &&& 1) else h 17 q))) (by generalize setS (fun y_ => decide (¬ loadS (h 17) (fun z_ => (h 17) (7 + z_)) (h 8) (nI y_) n ≤ (h 4) y_)) c0 = S at *; funext a b; simp only [st_, sc_]; grind) ?_
    refine T_loop (fun k => (43, [.ref 16, .int (setS (fun y_ => decide (¬ loadS (h 17) (fun z_ => (h 17) (7 + z_)) (h 8) (nI y_) n ≤ (h 4) y_)) c0), .int (nI k)], [], S0 L, (sc_ h 17 (fun q => if q < k then (if h 17 q = 1 then 3 else h 17 q) else if 14 ≤ q ∧ q < 14 + c0 then h 17 q + ((setS (fun y_ => decide (¬ loadS (h 17) (fun z_ => (h 17) (7 + z_)) (h 8) (nI y_) n ≤ (h 4) y_)) c0 >>> (nI (q - 14) &&& 31)) &&& 1) else h 17 q)))) n ?_ ?_
    · intro k hk ih
      refine T_run 4 (st' := (51, [.ref 16, .int (setS (fun y_ => decide (¬ loadS (h 17) (fun z_ => (h 17) (7 + z_)) (h 8) (nI y_) n ≤ (h 4) y_)) c0), .int (nI k)], [.int (h 3 3), .int (nI k)], S0 L, (sc_ h 17 (fun q => if q < k then (if h 17 q = 1 then 3 else h 17 q) else if 14 ≤ q ∧ q < 14 + c0 then h 17 q + ((setS (fun y_ => decide (¬ loadS (h 17) (fun z_ => (h 17) (7 + z_)) (h 8) (nI y_) n ≤ (h 4) y_)) c0 >>> (nI (q - 14) &&& 31)) &&& 1) else h 17 q)))) rfl ?_
      refine T_iffP (c := (h 3 3) ≤ (nI k)) (P := n ≤ k) (t := 77) (f := 54) (L := [.ref 16, .int (setS (fun y_ => decide (¬ loadS (h 17) (fun z_ => (h 17) (7 + z_)) (h 8) (nI y_) n ≤ (h 4) y_)) c0), .int (nI k)]) (S := []) (G := S0 L) (h := (sc_ h 17 (fun q => if q < k then (if h 17 q = 1 then 3 else h 17 q) else if 14 ≤ q ∧ q < 14 + c0 then h 17 q + ((setS (fun y_ => decide (¬ loadS (h 17) (fun z_ => (h 17) (7 + z_)) (h 8) (nI y_) n ≤ (h 4) y_)) c0 >>> (nI (q - 14) &&& 31)) &&& 1) else h 17 q))) rfl (nI_leE hn rfl (by omega) (by omega)) (by omega) ?_
      refine T_run 2 (st' := (56, [.ref 16, .int (setS (fun y_ => decide (¬ loadS (h 17) (fun z_ => (h 17) (7 + z_)) (h 8) (nI y_) n ≤ (h 4) y_)) c0), .int (nI k)], [.int (nI k), .ref 16], S0 L, (sc_ h 17 (fun q => if q < k then (if h 17 q = 1 then 3 else h 17 q) else if 14 ≤ q ∧ q < 14 + c0 then h 17 q + ((setS (fun y_ => decide (¬ loadS (h 17) (fun z_ => (h 17) (7 + z_)) (h 8) (nI y_) n ≤ (h 4) y_)) c0 >>> (nI (q - 14) &&& 31)) &&& 1) else h 17 q)))) rfl ?_
      refine T_callR (S' := [.int (b2i ((fun q => if q < k then (if h 17 q = 1 then 3 else h 17 q) else if 14 ≤ q ∧ q < 14 + c0 then h 17 q + ((setS (fun y_ => decide (¬ loadS (h 17) (fun z_ => (h 17) (7 + z_)) (h 8) (nI y_) n ≤ (h 4) y_)) c0 >>> (nI (q - 14) &&& 31)) &&& 1) else h 17 q) k = 1))]) (h' := (sc_ h 17 (fun q => if q < k then (if h 17 q = 1 then 3 else h 17 q) else if 14 ≤ q ∧ q < 14 + c0 then h 17 q + ((setS (fun y_ => decide (¬ loadS (h 17) (fun z_ => (h 17) (7 + z_)) (h 8) (nI y_) n ≤ (h 4) y_)) c0 >>> (nI (q - 14) &&& 31)) &&& 1) else h 17 q))) (r_X0_isInSatchel (L := L) (sc_ h 17 (fun q => if q < k then (if h 17 q = 1 then 3 else h 17 q) else if 14 ≤ q ∧ q < 14 + c0 then h 17 q + ((setS (fun y_ => decide (¬ loadS (h 17) (fun z_ => (h 17) (7 + z_)) (h 8) (nI y_) n ≤ (h 4) y_)) c0 >>> (nI (q - 14) &&& 31)) &&& 1) else h 17 q)) k (by omega)) (by decide) rfl rfl rfl rfl rfl rfl rfl ?_
      refine T_ifz (P := ((fun q => if q < k then (if h 17 q = 1 then 3 else h 17 q) else if 14 ≤ q ∧ q < 14 + c0 then h 17 q + ((setS (fun y_ => decide (¬ loadS (h 17) (fun z_ => (h 17) (7 + z_)) (h 8) (nI y_) n ≤ (h 4) y_)) c0 >>> (nI (q - 14) &&& 31)) &&& 1) else h 17 q) k = 1)) (t := 71) (f := 62) (L := [.ref 16, .int (setS (fun y_ => decide (¬ loadS (h 17) (fun z_ => (h 17) (7 + z_)) (h 8) (nI y_) n ≤ (h 4) y_)) c0), .int (nI k)]) (S := []) (G := S0 L) (h := (sc_ h 17 (fun q => if q < k then (if h 17 q = 1 then 3 else h 17 q) else if 14 ≤ q ∧ q < 14 + c0 then h 17 q + ((setS (fun y_ => decide (¬ loadS (h 17) (fun z_ => (h 17) (7 + z_)) (h 8) (nI y_) n ≤ (h 4) y_)) c0 >>> (nI (q - 14) &&& 31)) &&& 1) else h 17 q))) rfl (fun q59 => ?_) (fun q59 => ?_)
      · refine T_run 2 (st' := (43, [.ref 16, .int (setS (fun y_ => decide (¬ loadS (h 17) (fun z_ => (h 17) (7 + z_)) (h 8) (nI y_) n ≤ (h 4) y_)) c0), .int (nI k + 1)], [], S0 L, (sc_ h 17 (fun q => if q < k then (if h 17 q = 1 then 3 else h 17 q) else if 14 ≤ q ∧ q < 14 + c0 then h 17 q + ((setS (fun y_ => decide (¬ loadS (h 17) (fun z_ => (h 17) (7 + z_)) (h 8) (nI y_) n ≤ (h 4) y_)) c0 >>> (nI (q - 14) &&& 31)) &&& 1) else h 17 q)))) rfl ?_
        refine T_h (h' := (sc_ h 17 (fun q => if q < (k + 1) then (if h 17 q = 1 then 3 else h 17 q) else if 14 ≤ q ∧ q < 14 + c0 then h 17 q + ((setS (fun y_ => decide (¬ loadS (h 17) (fun z_ => (h 17) (7 + z_)) (h 8) (nI y_) n ≤ (h 4) y_)) c0 >>> (nI (q - 14) &&& 31)) &&& 1) else h 17 q))) (by generalize setS (fun y_ => decide (¬ loadS (h 17) (fun z_ => (h 17) (7 + z_)) (h 8) (nI y_) n ≤ (h 4) y_)) c0 = S at *; funext a b; simp only [st_, sc_] at *; grind) ?_
        exact T_st (by simp [nI_1, *]) ih
      · refine T_run 6 (st' := (70, [.ref 16, .int (setS (fun y_ => decide (¬ loadS (h 17) (fun z_ => (h 17) (7 + z_)) (h 8) (nI y_) n ≤ (h 4) y_)) c0), .int (nI k)], [.int 3, .int (0 + (nI k)), .ref 17], S0 L, (sc_ h 17 (fun q => if q < k then (if h 17 q = 1 then 3 else h 17 q) else if 14 ≤ q ∧ q < 14 + c0 then h 17 q + ((setS (fun y_ => decide (¬ loadS (h 17) (fun z_ => (h 17) (7 + z_)) (h 8) (nI y_) n ≤ (h 4) y_)) c0 >>> (nI (q - 14) &&& 31)) &&& 1) else h 17 q)))) rfl ?_
        refine T_ast (n := k) rfl rfl (z_add rfl) (by omega) (by decide) rfl ?_
        refine T_run 2 (st' := (43, [.ref 16, .int (setS (fun y_ => decide (¬ loadS (h 17) (fun z_ => (h 17) (7 + z_)) (h 8) (nI y_) n ≤ (h 4) y_)) c0), .int (nI k + 1)], [], S0 L, (st_ (sc_ h 17 (fun q => if q < k then (if h 17 q = 1 then 3 else h 17 q) else if 14 ≤ q ∧ q < 14 + c0 then h 17 q + ((setS (fun y_ => decide (¬ loadS (h 17) (fun z_ => (h 17) (7 + z_)) (h 8) (nI y_) n ≤ (h 4) y_)) c0 >>> (nI (q - 14) &&& 31)) &&& 1) else h 17 q)) 17 k 3))) rfl ?_
        refine T_h (h' := (sc_ h 17 (fun q => if q < (k + 1) then (if h 17 q = 1 then 3 else h 17 q) else if 14 ≤ q ∧ q < 14 + c0 then h 17 q + ((setS (fun y_ => decide (¬ loadS (h 17) (fun z_ => (h 17) (7 + z_)) (h 8) (nI y_) n ≤ (h 4) y_)) c0 >>> (nI (q - 14) &&& 31)) &&& 1) else h 17 q))) (by generalize setS (fun y_ => decide (¬ loadS (h 17) (fun z_ => (h 17) (7 + z_)) (h 8) (nI y_) n ≤ (h 4) y_)) c0 = S at *; funext a b; simp only [st_, sc_] at *; grind) ?_
        exact T_st (by simp [nI_1, *]) ih
    · skip
      refine T_run 4 (st' := (51, [.ref 16, .int (setS (fun y_ => decide (¬ loadS (h 17) (fun z_ => (h 17) (7 + z_)) (h 8) (nI y_) n ≤ (h 4) y_)) c0), .int (nI n)], [.int (h 3 3), .int (nI n)], S0 L, (sc_ h 17 (fun q => if q < n then (if h 17 q = 1 then 3 else h 17 q) else if 14 ≤ q ∧ q < 14 + c0 then h 17 q + ((setS (fun y_ => decide (¬ loadS (h 17) (fun z_ => (h 17) (7 + z_)) (h 8) (nI y_) n ≤ (h 4) y_)) c0 >>> (nI (q - 14) &&& 31)) &&& 1) else h 17 q)))) rfl ?_
      refine T_iftP (c := (h 3 3) ≤ (nI n)) (P := n ≤ n) (t := 77) (f := 54) (L := [.ref 16, .int (setS (fun y_ => decide (¬ loadS (h 17) (fun z_ => (h 17) (7 + z_)) (h 8) (nI y_) n ≤ (h 4) y_)) c0), .int (nI n)]) (S := []) (G := S0 L) (h := (sc_ h 17 (fun q => if q < n then (if h 17 q = 1 then 3 else h 17 q) else if 14 ≤ q ∧ q < 14 + c0 then h 17 q + ((setS (fun y_ => decide (¬ loadS (h 17) (fun z_ => (h 17) (7 + z_)) (h 8) (nI y_) n ≤ (h 4) y_)) c0 >>> (nI (q - 14) &&& 31)) &&& 1) else h 17 q))) rfl (nI_leE hn rfl (by omega) (by omega)) (by omega) ?_
      refine T_run 4 (st' := (84, [.ref 16, .int (setS (fun y_ => decide (¬ loadS (h 17) (fun z_ => (h 17) (7 + z_)) (h 8) (nI y_) n ≤ (h 4) y_)) c0), .int (nI n)], [.int 19, .ref 17, .int 19, .ref 17], S0 L, (sc_ h 17 (fun q => if q < n then (if h 17 q = 1 then 3 else h 17 q) else if 14 ≤ q ∧ q < 14 + c0 then h 17 q + ((setS (fun y_ => decide (¬ loadS (h 17) (fun z_ => (h 17) (7 + z_)) (h 8) (nI y_) n ≤ (h 4) y_)) c0 >>> (nI (q - 14) &&& 31)) &&& 1) else h 17 q)))) rfl ?_
      refine T_ald (n := 19) rfl rfl rfl (by decide) (by decide) rfl ?_
      refine T_run 2 (st' := (87, [.ref 16, .int (setS (fun y_ => decide (¬ loadS (h 17) (fun z_ => (h 17) (7 + z_)) (h 8) (nI y_) n ≤ (h 4) y_)) c0), .int (nI n)], [.int (((fun q => if q < n then (if h 17 q = 1 then 3 else h 17 q) else if 14 ≤ q ∧ q < 14 + c0 then h 17 q + ((setS (fun y_ => decide (¬ loadS (h 17) (fun z_ => (h 17) (7 + z_)) (h 8) (nI y_) n ≤ (h 4) y_)) c0 >>> (nI (q - 14) &&& 31)) &&& 1) else h 17 q) 19) + 1), .int 19, .ref 17], S0 L, (sc_ h 17 (fun q => if q < n then (if h 17 q = 1 then 3 else h 17 q) else if 14 ≤ q ∧ q < 14 + c0 then h 17 q + ((setS (fun y_ => decide (¬ loadS (h 17) (fun z_ => (h 17) (7 + z_)) (h 8) (nI y_) n ≤ (h 4) y_)) c0 >>> (nI (q - 14) &&& 31)) &&& 1) else h 17 q)))) rfl ?_
      refine T_ast (n := 19) rfl rfl rfl (by decide) (by decide) rfl ?_
      refine T_run 4 (st' := (95, [.ref 16, .int (setS (fun y_ => decide (¬ loadS (h 17) (fun z_ => (h 17) (7 + z_)) (h 8) (nI y_) n ≤ (h 4) y_)) c0), .int (nI n)], [.int 0, .int 20, .ref 17], S0 L, (st_ (sc_ h 17 (fun q => if q < n then (if h 17 q = 1 then 3 else h 17 q) else if 14 ≤ q ∧ q < 14 + c0 then h 17 q + ((setS (fun y_ => decide (¬ loadS (h 17) (fun z_ => (h 17) (7 + z_)) (h 8) (nI y_) n ≤ (h 4) y_)) c0 >>> (nI (q - 14) &&& 31)) &&& 1) else h 17 q)) 17 19 (((fun q => if q < n then (if h 17 q = 1 then 3 else h 17 q) else if 14 ≤ q ∧ q < 14 + c0 then h 17 q + ((setS (fun y_ => decide (¬ loadS (h 17) (fun z_ => (h 17) (7 + z_)) (h 8) (nI y_) n ≤ (h 4) y_)) c0 >>> (nI (q - 14) &&& 31)) &&& 1) else h 17 q) 19) + 1)))) rfl ?_
      refine T_ast (n := 20) rfl rfl rfl (by decide) (by decide) rfl ?_
      refine T_run 1 (st' := (97, [.ref 16, .int (setS (fun y_ => decide (¬ loadS (h 17) (fun z_ => (h 17) (7 + z_)) (h 8) (nI y_) n ≤ (h 4) y_)) c0), .int (nI n)], [.int (setS (fun y_ => decide (¬ loadS (h 17) (fun z_ => (h 17) (7 + z_)) (h 8) (nI y_) n ≤ (h 4) y_)) c0)], S0 L, (st_ (st_ (sc_ h 17 (fun q => if q < n then (if h 17 q = 1 then 3 else h 17 q) else if 14 ≤ q ∧ q < 14 + c0 then h 17 q + ((setS (fun y_ => decide (¬ loadS (h 17) (fun z_ => (h 17) (7 + z_)) (h 8) (nI y_) n ≤ (h 4) y_)) c0 >>> (nI (q - 14) &&& 31)) &&& 1) else h 17 q)) 17 19 (((fun q => if q < n then (if h 17 q = 1 then 3 else h 17 q) else if 14 ≤ q ∧ q < 14 + c0 then h 17 q + ((setS (fun y_ => decide (¬ loadS (h 17) (fun z_ => (h 17) (7 + z_)) (h 8) (nI y_) n ≤ (h 4) y_)) c0 >>> (nI (q - 14) &&& 31)) &&& 1) else h 17 q) 19) + 1)) 17 20 0))) rfl ?_
      exact T_retR rfl rfl rfl (by generalize setS (fun y_ => decide (¬ loadS (h 17) (fun z_ => (h 17) (7 + z_)) (h 8) (nI y_) n ≤ (h 4) y_)) c0 = S at *; funext a b; simp only [st_, sc_, goR]; grind)
theorem r_JA_fill17 {L : Nat} (h : AH) (x : Int32)  : Rt L 0 186 [.ref 17, .int x] h none (sc_ h 17 (fun q => if q < 22 then x else (h 17) q)) := by
  refine T_run 5 (st' := (5, [.ref 17, .int x, .int 0, .int 22], [], S0 L, h)) rfl ?_
  refine T_h (h' := (sc_ h 17 (fun q => if q < 0 then x else h 17 q))) (by funext a b; simp only [st_, sc_]; grind) ?_
  refine T_loop (fun k => (5, [.ref 17, .int x, .int (nI k), .int 22], [], S0 L, (sc_ h 17 (fun q => if q < k then x else h 17 q)))) 22 ?_ ?_
  · intro k hk ih
    refine T_run 2 (st' := (7, [.ref 17, .int x, .int (nI k), .int 22], [.int 22, .int (nI k)], S0 L, (sc_ h 17 (fun q => if q < k then x else h 17 q)))) rfl ?_
    refine T_iffP (c := 22 ≤ (nI k)) (P := 22 ≤ k) (t := 20) (f := 10) (L := [.ref 17, .int x, .int (nI k), .int 22]) (S := []) (G := S0 L) (h := (sc_ h 17 (fun q => if q < k then x else h 17 q))) rfl (nI_leE rfl rfl (by omega) (by omega)) (by omega) ?_
    refine T_run 3 (st' := (13, [.ref 17, .int x, .int (nI k), .int 22], [.int x, .int (nI k), .ref 17], S0 L, (sc_ h 17 (fun q => if q < k then x else h 17 q)))) rfl ?_
    refine T_ast (n := k) rfl rfl rfl (by omega) (by decide) rfl ?_
    refine T_run 2 (st' := (5, [.ref 17, .int x, .int (nI k + 1), .int 22], [], S0 L, (st_ (sc_ h 17 (fun q => if q < k then x else h 17 q)) 17 k x))) rfl ?_
    refine T_h (h' := (sc_ h 17 (fun q => if q < (k + 1) then x else h 17 q))) (by funext a b; simp only [st_, sc_]; grind) ?_
    exact T_st (by simp [nI_1, *]) ih
  · skip
    refine T_run 2 (st' := (7, [.ref 17, .int x, .int (nI 22), .int 22], [.int 22, .int (nI 22)], S0 L, (sc_ h 17 (fun q => if q < 22 then x else h 17 q)))) rfl ?_
    refine T_iftP (c := 22 ≤ (nI 22)) (P := 22 ≤ 22) (t := 20) (f := 10) (L := [.ref 17, .int x, .int (nI 22), .int 22]) (S := []) (G := S0 L) (h := (sc_ h 17 (fun q => if q < 22 then x else h 17 q))) rfl (nI_leE rfl rfl (by omega) (by omega)) (by omega) ?_
    exact T_retR rfl rfl rfl (by first | rfl | (funext a b; simp only [st_, sc_]; done) | (funext a b; simp only [st_, sc_]; grind))
theorem r_JA_fill23 {L : Nat} (h : AH) (x : Int32)  : Rt L 0 186 [.ref 23, .int x] h none (sc_ h 23 (fun q => if q < 7 then x else (h 23) q)) := by
  refine T_run 5 (st' := (5, [.ref 23, .int x, .int 0, .int 7], [], S0 L, h)) rfl ?_
  refine T_h (h' := (sc_ h 23 (fun q => if q < 0 then x else h 23 q))) (by funext a b; simp only [st_, sc_]; grind) ?_
  refine T_loop (fun k => (5, [.ref 23, .int x, .int (nI k), .int 7], [], S0 L, (sc_ h 23 (fun q => if q < k then x else h 23 q)))) 7 ?_ ?_
  · intro k hk ih
    refine T_run 2 (st' := (7, [.ref 23, .int x, .int (nI k), .int 7], [.int 7, .int (nI k)], S0 L, (sc_ h 23 (fun q => if q < k then x else h 23 q)))) rfl ?_
    refine T_iffP (c := 7 ≤ (nI k)) (P := 7 ≤ k) (t := 20) (f := 10) (L := [.ref 23, .int x, .int (nI k), .int 7]) (S := []) (G := S0 L) (h := (sc_ h 23 (fun q => if q < k then x else h 23 q))) rfl (nI_leE rfl rfl (by omega) (by omega)) (by omega) ?_
    refine T_run 3 (st' := (13, [.ref 23, .int x, .int (nI k), .int 7], [.int x, .int (nI k), .ref 23], S0 L, (sc_ h 23 (fun q => if q < k then x else h 23 q)))) rfl ?_
    refine T_ast (n := k) rfl rfl rfl (by omega) (by decide) rfl ?_
    refine T_run 2 (st' := (5, [.ref 23, .int x, .int (nI k + 1), .int 7], [], S0 L, (st_ (sc_ h 23 (fun q => if q < k then x else h 23 q)) 23 k x))) rfl ?_
    refine T_h (h' := (sc_ h 23 (fun q => if q < (k + 1) then x else h 23 q))) (by funext a b; simp only [st_, sc_]; grind) ?_
    exact T_st (by simp [nI_1, *]) ih
  · skip
    refine T_run 2 (st' := (7, [.ref 23, .int x, .int (nI 7), .int 7], [.int 7, .int (nI 7)], S0 L, (sc_ h 23 (fun q => if q < 7 then x else h 23 q)))) rfl ?_
    refine T_iftP (c := 7 ≤ (nI 7)) (P := 7 ≤ 7) (t := 20) (f := 10) (L := [.ref 23, .int x, .int (nI 7), .int 7]) (S := []) (G := S0 L) (h := (sc_ h 23 (fun q => if q < 7 then x else h 23 q))) rfl (nI_leE rfl rfl (by omega) (by omega)) (by omega) ?_
    exact T_retR rfl rfl rfl (by first | rfl | (funext a b; simp only [st_, sc_]; done) | (funext a b; simp only [st_, sc_]; grind))
theorem r_JA_fill24 {L : Nat} (h : AH) (x : Int32)  : Rt L 0 186 [.ref 24, .int x] h none (sc_ h 24 (fun q => if q < 7 then x else (h 24) q)) := by
  refine T_run 5 (st' := (5, [.ref 24, .int x, .int 0, .int 7], [], S0 L, h)) rfl ?_
  refine T_h (h' := (sc_ h 24 (fun q => if q < 0 then x else h 24 q))) (by funext a b; simp only [st_, sc_]; grind) ?_
  refine T_loop (fun k => (5, [.ref 24, .int x, .int (nI k), .int 7], [], S0 L, (sc_ h 24 (fun q => if q < k then x else h 24 q)))) 7 ?_ ?_
  · intro k hk ih
    refine T_run 2 (st' := (7, [.ref 24, .int x, .int (nI k), .int 7], [.int 7, .int (nI k)], S0 L, (sc_ h 24 (fun q => if q < k then x else h 24 q)))) rfl ?_
    refine T_iffP (c := 7 ≤ (nI k)) (P := 7 ≤ k) (t := 20) (f := 10) (L := [.ref 24, .int x, .int (nI k), .int 7]) (S := []) (G := S0 L) (h := (sc_ h 24 (fun q => if q < k then x else h 24 q))) rfl (nI_leE rfl rfl (by omega) (by omega)) (by omega) ?_
    refine T_run 3 (st' := (13, [.ref 24, .int x, .int (nI k), .int 7], [.int x, .int (nI k), .ref 24], S0 L, (sc_ h 24 (fun q => if q < k then x else h 24 q)))) rfl ?_
    refine T_ast (n := k) rfl rfl rfl (by omega) (by decide) rfl ?_
    refine T_run 2 (st' := (5, [.ref 24, .int x, .int (nI k + 1), .int 7], [], S0 L, (st_ (sc_ h 24 (fun q => if q < k then x else h 24 q)) 24 k x))) rfl ?_
    refine T_h (h' := (sc_ h 24 (fun q => if q < (k + 1) then x else h 24 q))) (by funext a b; simp only [st_, sc_]; grind) ?_
    exact T_st (by simp [nI_1, *]) ih
  · skip
    refine T_run 2 (st' := (7, [.ref 24, .int x, .int (nI 7), .int 7], [.int 7, .int (nI 7)], S0 L, (sc_ h 24 (fun q => if q < 7 then x else h 24 q)))) rfl ?_
    refine T_iftP (c := 7 ≤ (nI 7)) (P := 7 ≤ 7) (t := 20) (f := 10) (L := [.ref 24, .int x, .int (nI 7), .int 7]) (S := []) (G := S0 L) (h := (sc_ h 24 (fun q => if q < 7 then x else h 24 q))) rfl (nI_leE rfl rfl (by omega) (by omega)) (by omega) ?_
    exact T_retR rfl rfl rfl (by first | rfl | (funext a b; simp only [st_, sc_]; done) | (funext a b; simp only [st_, sc_]; grind))
theorem r_JA_fill25 {L : Nat} (h : AH) (x : Int32)  : Rt L 0 186 [.ref 25, .int x] h none (sc_ h 25 (fun q => if q < 5 then x else (h 25) q)) := by
  refine T_run 5 (st' := (5, [.ref 25, .int x, .int 0, .int 5], [], S0 L, h)) rfl ?_
  refine T_h (h' := (sc_ h 25 (fun q => if q < 0 then x else h 25 q))) (by funext a b; simp only [st_, sc_]; grind) ?_
  refine T_loop (fun k => (5, [.ref 25, .int x, .int (nI k), .int 5], [], S0 L, (sc_ h 25 (fun q => if q < k then x else h 25 q)))) 5 ?_ ?_
  · intro k hk ih
    refine T_run 2 (st' := (7, [.ref 25, .int x, .int (nI k), .int 5], [.int 5, .int (nI k)], S0 L, (sc_ h 25 (fun q => if q < k then x else h 25 q)))) rfl ?_
    refine T_iffP (c := 5 ≤ (nI k)) (P := 5 ≤ k) (t := 20) (f := 10) (L := [.ref 25, .int x, .int (nI k), .int 5]) (S := []) (G := S0 L) (h := (sc_ h 25 (fun q => if q < k then x else h 25 q))) rfl (nI_leE rfl rfl (by omega) (by omega)) (by omega) ?_
    refine T_run 3 (st' := (13, [.ref 25, .int x, .int (nI k), .int 5], [.int x, .int (nI k), .ref 25], S0 L, (sc_ h 25 (fun q => if q < k then x else h 25 q)))) rfl ?_
    refine T_ast (n := k) rfl rfl rfl (by omega) (by decide) rfl ?_
    refine T_run 2 (st' := (5, [.ref 25, .int x, .int (nI k + 1), .int 5], [], S0 L, (st_ (sc_ h 25 (fun q => if q < k then x else h 25 q)) 25 k x))) rfl ?_
    refine T_h (h' := (sc_ h 25 (fun q => if q < (k + 1) then x else h 25 q))) (by funext a b; simp only [st_, sc_]; grind) ?_
    exact T_st (by simp [nI_1, *]) ih
  · skip
    refine T_run 2 (st' := (7, [.ref 25, .int x, .int (nI 5), .int 5], [.int 5, .int (nI 5)], S0 L, (sc_ h 25 (fun q => if q < 5 then x else h 25 q)))) rfl ?_
    refine T_iftP (c := 5 ≤ (nI 5)) (P := 5 ≤ 5) (t := 20) (f := 10) (L := [.ref 25, .int x, .int (nI 5), .int 5]) (S := []) (G := S0 L) (h := (sc_ h 25 (fun q => if q < 5 then x else h 25 q))) rfl (nI_leE rfl rfl (by omega) (by omega)) (by omega) ?_
    exact T_retR rfl rfl rfl (by first | rfl | (funext a b; simp only [st_, sc_]; done) | (funext a b; simp only [st_, sc_]; grind))
theorem r_JA_fill28 {L : Nat} (h : AH) (x : Int32)  : Rt L 0 186 [.ref 28, .int x] h none (sc_ h 28 (fun q => if q < 7 then x else (h 28) q)) := by
  refine T_run 5 (st' := (5, [.ref 28, .int x, .int 0, .int 7], [], S0 L, h)) rfl ?_
  refine T_h (h' := (sc_ h 28 (fun q => if q < 0 then x else h 28 q))) (by funext a b; simp only [st_, sc_]; grind) ?_
  refine T_loop (fun k => (5, [.ref 28, .int x, .int (nI k), .int 7], [], S0 L, (sc_ h 28 (fun q => if q < k then x else h 28 q)))) 7 ?_ ?_
  · intro k hk ih
    refine T_run 2 (st' := (7, [.ref 28, .int x, .int (nI k), .int 7], [.int 7, .int (nI k)], S0 L, (sc_ h 28 (fun q => if q < k then x else h 28 q)))) rfl ?_
    refine T_iffP (c := 7 ≤ (nI k)) (P := 7 ≤ k) (t := 20) (f := 10) (L := [.ref 28, .int x, .int (nI k), .int 7]) (S := []) (G := S0 L) (h := (sc_ h 28 (fun q => if q < k then x else h 28 q))) rfl (nI_leE rfl rfl (by omega) (by omega)) (by omega) ?_
    refine T_run 3 (st' := (13, [.ref 28, .int x, .int (nI k), .int 7], [.int x, .int (nI k), .ref 28], S0 L, (sc_ h 28 (fun q => if q < k then x else h 28 q)))) rfl ?_
    refine T_ast (n := k) rfl rfl rfl (by omega) (by decide) rfl ?_
    refine T_run 2 (st' := (5, [.ref 28, .int x, .int (nI k + 1), .int 7], [], S0 L, (st_ (sc_ h 28 (fun q => if q < k then x else h 28 q)) 28 k x))) rfl ?_
    refine T_h (h' := (sc_ h 28 (fun q => if q < (k + 1) then x else h 28 q))) (by funext a b; simp only [st_, sc_]; grind) ?_
    exact T_st (by simp [nI_1, *]) ih
  · skip
    refine T_run 2 (st' := (7, [.ref 28, .int x, .int (nI 7), .int 7], [.int 7, .int (nI 7)], S0 L, (sc_ h 28 (fun q => if q < 7 then x else h 28 q)))) rfl ?_
    refine T_iftP (c := 7 ≤ (nI 7)) (P := 7 ≤ 7) (t := 20) (f := 10) (L := [.ref 28, .int x, .int (nI 7), .int 7]) (S := []) (G := S0 L) (h := (sc_ h 28 (fun q => if q < 7 then x else h 28 q))) rfl (nI_leE rfl rfl (by omega) (by omega)) (by omega) ?_
    exact T_retR rfl rfl rfl (by first | rfl | (funext a b; simp only [st_, sc_]; done) | (funext a b; simp only [st_, sc_]; grind))
theorem r_JA_fill29 {L : Nat} (h : AH) (x : Int32)  : Rt L 0 186 [.ref 29, .int x] h none (sc_ h 29 (fun q => if q < 7 then x else (h 29) q)) := by
  refine T_run 5 (st' := (5, [.ref 29, .int x, .int 0, .int 7], [], S0 L, h)) rfl ?_
  refine T_h (h' := (sc_ h 29 (fun q => if q < 0 then x else h 29 q))) (by funext a b; simp only [st_, sc_]; grind) ?_
  refine T_loop (fun k => (5, [.ref 29, .int x, .int (nI k), .int 7], [], S0 L, (sc_ h 29 (fun q => if q < k then x else h 29 q)))) 7 ?_ ?_
  · intro k hk ih
    refine T_run 2 (st' := (7, [.ref 29, .int x, .int (nI k), .int 7], [.int 7, .int (nI k)], S0 L, (sc_ h 29 (fun q => if q < k then x else h 29 q)))) rfl ?_
    refine T_iffP (c := 7 ≤ (nI k)) (P := 7 ≤ k) (t := 20) (f := 10) (L := [.ref 29, .int x, .int (nI k), .int 7]) (S := []) (G := S0 L) (h := (sc_ h 29 (fun q => if q < k then x else h 29 q))) rfl (nI_leE rfl rfl (by omega) (by omega)) (by omega) ?_
    refine T_run 3 (st' := (13, [.ref 29, .int x, .int (nI k), .int 7], [.int x, .int (nI k), .ref 29], S0 L, (sc_ h 29 (fun q => if q < k then x else h 29 q)))) rfl ?_
    refine T_ast (n := k) rfl rfl rfl (by omega) (by decide) rfl ?_
    refine T_run 2 (st' := (5, [.ref 29, .int x, .int (nI k + 1), .int 7], [], S0 L, (st_ (sc_ h 29 (fun q => if q < k then x else h 29 q)) 29 k x))) rfl ?_
    refine T_h (h' := (sc_ h 29 (fun q => if q < (k + 1) then x else h 29 q))) (by funext a b; simp only [st_, sc_]; grind) ?_
    exact T_st (by simp [nI_1, *]) ih
  · skip
    refine T_run 2 (st' := (7, [.ref 29, .int x, .int (nI 7), .int 7], [.int 7, .int (nI 7)], S0 L, (sc_ h 29 (fun q => if q < 7 then x else h 29 q)))) rfl ?_
    refine T_iftP (c := 7 ≤ (nI 7)) (P := 7 ≤ 7) (t := 20) (f := 10) (L := [.ref 29, .int x, .int (nI 7), .int 7]) (S := []) (G := S0 L) (h := (sc_ h 29 (fun q => if q < 7 then x else h 29 q))) rfl (nI_leE rfl rfl (by omega) (by omega)) (by omega) ?_
    exact T_retR rfl rfl rfl (by first | rfl | (funext a b; simp only [st_, sc_]; done) | (funext a b; simp only [st_, sc_]; grind))
theorem r_JA_fill30 {L : Nat} (h : AH) (x : Int32)  : Rt L 0 186 [.ref 30, .int x] h none (sc_ h 30 (fun q => if q < 5 then x else (h 30) q)) := by
  refine T_run 5 (st' := (5, [.ref 30, .int x, .int 0, .int 5], [], S0 L, h)) rfl ?_
  refine T_h (h' := (sc_ h 30 (fun q => if q < 0 then x else h 30 q))) (by funext a b; simp only [st_, sc_]; grind) ?_
  refine T_loop (fun k => (5, [.ref 30, .int x, .int (nI k), .int 5], [], S0 L, (sc_ h 30 (fun q => if q < k then x else h 30 q)))) 5 ?_ ?_
  · intro k hk ih
    refine T_run 2 (st' := (7, [.ref 30, .int x, .int (nI k), .int 5], [.int 5, .int (nI k)], S0 L, (sc_ h 30 (fun q => if q < k then x else h 30 q)))) rfl ?_
    refine T_iffP (c := 5 ≤ (nI k)) (P := 5 ≤ k) (t := 20) (f := 10) (L := [.ref 30, .int x, .int (nI k), .int 5]) (S := []) (G := S0 L) (h := (sc_ h 30 (fun q => if q < k then x else h 30 q))) rfl (nI_leE rfl rfl (by omega) (by omega)) (by omega) ?_
    refine T_run 3 (st' := (13, [.ref 30, .int x, .int (nI k), .int 5], [.int x, .int (nI k), .ref 30], S0 L, (sc_ h 30 (fun q => if q < k then x else h 30 q)))) rfl ?_
    refine T_ast (n := k) rfl rfl rfl (by omega) (by decide) rfl ?_
    refine T_run 2 (st' := (5, [.ref 30, .int x, .int (nI k + 1), .int 5], [], S0 L, (st_ (sc_ h 30 (fun q => if q < k then x else h 30 q)) 30 k x))) rfl ?_
    refine T_h (h' := (sc_ h 30 (fun q => if q < (k + 1) then x else h 30 q))) (by funext a b; simp only [st_, sc_]; grind) ?_
    exact T_st (by simp [nI_1, *]) ih
  · skip
    refine T_run 2 (st' := (7, [.ref 30, .int x, .int (nI 5), .int 5], [.int 5, .int (nI 5)], S0 L, (sc_ h 30 (fun q => if q < 5 then x else h 30 q)))) rfl ?_
    refine T_iftP (c := 5 ≤ (nI 5)) (P := 5 ≤ 5) (t := 20) (f := 10) (L := [.ref 30, .int x, .int (nI 5), .int 5]) (S := []) (G := S0 L) (h := (sc_ h 30 (fun q => if q < 5 then x else h 30 q))) rfl (nI_leE rfl rfl (by omega) (by omega)) (by omega) ?_
    exact T_retR rfl rfl rfl (by first | rfl | (funext a b; simp only [st_, sc_]; done) | (funext a b; simp only [st_, sc_]; grind))
theorem r_JA_fill32 {L : Nat} (h : AH) (x : Int32)  : Rt L 0 186 [.ref 32, .int x] h none (sc_ h 32 (fun q => if q < 7 then x else (h 32) q)) := by
  refine T_run 5 (st' := (5, [.ref 32, .int x, .int 0, .int 7], [], S0 L, h)) rfl ?_
  refine T_h (h' := (sc_ h 32 (fun q => if q < 0 then x else h 32 q))) (by funext a b; simp only [st_, sc_]; grind) ?_
  refine T_loop (fun k => (5, [.ref 32, .int x, .int (nI k), .int 7], [], S0 L, (sc_ h 32 (fun q => if q < k then x else h 32 q)))) 7 ?_ ?_
  · intro k hk ih
    refine T_run 2 (st' := (7, [.ref 32, .int x, .int (nI k), .int 7], [.int 7, .int (nI k)], S0 L, (sc_ h 32 (fun q => if q < k then x else h 32 q)))) rfl ?_
    refine T_iffP (c := 7 ≤ (nI k)) (P := 7 ≤ k) (t := 20) (f := 10) (L := [.ref 32, .int x, .int (nI k), .int 7]) (S := []) (G := S0 L) (h := (sc_ h 32 (fun q => if q < k then x else h 32 q))) rfl (nI_leE rfl rfl (by omega) (by omega)) (by omega) ?_
    refine T_run 3 (st' := (13, [.ref 32, .int x, .int (nI k), .int 7], [.int x, .int (nI k), .ref 32], S0 L, (sc_ h 32 (fun q => if q < k then x else h 32 q)))) rfl ?_
    refine T_ast (n := k) rfl rfl rfl (by omega) (by decide) rfl ?_
    refine T_run 2 (st' := (5, [.ref 32, .int x, .int (nI k + 1), .int 7], [], S0 L, (st_ (sc_ h 32 (fun q => if q < k then x else h 32 q)) 32 k x))) rfl ?_
    refine T_h (h' := (sc_ h 32 (fun q => if q < (k + 1) then x else h 32 q))) (by funext a b; simp only [st_, sc_]; grind) ?_
    exact T_st (by simp [nI_1, *]) ih
  · skip
    refine T_run 2 (st' := (7, [.ref 32, .int x, .int (nI 7), .int 7], [.int 7, .int (nI 7)], S0 L, (sc_ h 32 (fun q => if q < 7 then x else h 32 q)))) rfl ?_
    refine T_iftP (c := 7 ≤ (nI 7)) (P := 7 ≤ 7) (t := 20) (f := 10) (L := [.ref 32, .int x, .int (nI 7), .int 7]) (S := []) (G := S0 L) (h := (sc_ h 32 (fun q => if q < 7 then x else h 32 q))) rfl (nI_leE rfl rfl (by omega) (by omega)) (by omega) ?_
    exact T_retR rfl rfl rfl (by first | rfl | (funext a b; simp only [st_, sc_]; done) | (funext a b; simp only [st_, sc_]; grind))
theorem r_X0_wipe {L : Nat} (h : AH)   : Rt L 1 1 [.ref 16] h none (sc_ h 17 (fun q => if q < 22 then (if 7 ≤ q ∧ q < 14 then -1 else 0) else (h 17) q)) := by
  refine T_run 3 (st' := (5, [.ref 16, un_], [.int 0, .ref 17], S0 L, h)) rfl ?_
  refine T_callR (S' := []) (h' := (sc_ h 17 (fun q => if q < 22 then 0 else (h 17) q))) (r_JA_fill17 (L := L) h 0 ) (by decide) rfl rfl rfl rfl rfl rfl rfl ?_
  refine T_run 2 (st' := (10, [.ref 16, .int 0], [], S0 L, (sc_ h 17 (fun q => if q < 22 then 0 else (h 17) q)))) rfl ?_
  refine T_h (h' := (sc_ h 17 (fun q => if q < 22 then (if 7 ≤ q ∧ q < 7 + 0 then -1 else 0) else h 17 q))) (by funext a b; simp only [st_, sc_]; grind) ?_
  refine T_loop (fun k => (10, [.ref 16, .int (nI k)], [], S0 L, (sc_ h 17 (fun q => if q < 22 then (if 7 ≤ q ∧ q < 7 + k then -1 else 0) else h 17 q)))) 7 ?_ ?_
  · intro k hk ih
    refine T_run 2 (st' := (13, [.ref 16, .int (nI k)], [.int 7, .int (nI k)], S0 L, (sc_ h 17 (fun q => if q < 22 then (if 7 ≤ q ∧ q < 7 + k then -1 else 0) else h 17 q)))) rfl ?_
    refine T_iffP (c := 7 ≤ (nI k)) (P := 7 ≤ k) (t := 32) (f := 16) (L := [.ref 16, .int (nI k)]) (S := []) (G := S0 L) (h := (sc_ h 17 (fun q => if q < 22 then (if 7 ≤ q ∧ q < 7 + k then -1 else 0) else h 17 q))) rfl (nI_leE rfl rfl (by omega) (by omega)) (by omega) ?_
    refine T_run 6 (st' := (25, [.ref 16, .int (nI k)], [.int (-1), .int (7 + (nI k)), .ref 17], S0 L, (sc_ h 17 (fun q => if q < 22 then (if 7 ≤ q ∧ q < 7 + k then -1 else 0) else h 17 q)))) rfl ?_
    refine T_ast (n := 7 + k) rfl rfl (nI_addE rfl rfl) (by omega) (by decide) rfl ?_
    refine T_run 2 (st' := (10, [.ref 16, .int (nI k + 1)], [], S0 L, (st_ (sc_ h 17 (fun q => if q < 22 then (if 7 ≤ q ∧ q < 7 + k then -1 else 0) else h 17 q)) 17 (7 + k) (-1)))) rfl ?_
    refine T_h (h' := (sc_ h 17 (fun q => if q < 22 then (if 7 ≤ q ∧ q < 7 + (k + 1) then -1 else 0) else h 17 q))) (by funext a b; simp only [st_, sc_]; grind) ?_
    exact T_st (by simp [nI_1, *]) ih
  · skip
    refine T_run 2 (st' := (13, [.ref 16, .int (nI 7)], [.int 7, .int (nI 7)], S0 L, (sc_ h 17 (fun q => if q < 22 then (if 7 ≤ q ∧ q < 7 + 7 then -1 else 0) else h 17 q)))) rfl ?_
    refine T_iftP (c := 7 ≤ (nI 7)) (P := 7 ≤ 7) (t := 32) (f := 16) (L := [.ref 16, .int (nI 7)]) (S := []) (G := S0 L) (h := (sc_ h 17 (fun q => if q < 22 then (if 7 ≤ q ∧ q < 7 + 7 then -1 else 0) else h 17 q))) rfl (nI_leE rfl rfl (by omega) (by omega)) (by omega) ?_
    exact T_retR rfl rfl rfl (by first | rfl | (funext a b; simp only [st_, sc_]; done) | (funext a b; simp only [st_, sc_]; grind))
theorem r_X3_push {L : Nat} (h : AH)  (p : Nat) (hp : h 18 1 = nI p) (hp20 : p < 20) (u : Nat) (hu : h 18 2 = nI u) (hu20 : u ≤ 20) : Rt L 0 43 [.ref 18, .ref 17] h none (st_ (st_ (sc_ h 19 (va_cpy (h 17) (h 19) 0 (p * 22) 22)) 18 1 (nI (nxP p))) 18 2 (nI (remU u))) := by
  refine T_run 9 (st' := (15, [.ref 18, .ref 17], [.int 22, .int ((h 18 1) * 22), .ref 19, .int 0, .ref 17], S0 L, h)) rfl ?_
  refine T_copy (nn := 22) (sn := 0) (dn := p * 22) rfl rfl rfl rfl rfl (nI_mulE hp rfl) (by omega) (by omega) (by decide) rfl rfl ?_
  refine T_run 6 (st' := (27, [.ref 18, .ref 17], [.int 20, .int ((h 18 1) + 1), .ref 18], S0 L, (sc_ h 19 (va_cpy (h 17) (h 19) 0 (p * 22) 22)))) rfl ?_
  refine T_ifP (c := 20 ≤ ((h 18 1) + 1)) (P := 20 ≤ p + 1) (t := 39) (f := 30) (L := [.ref 18, .ref 17]) (S := [.ref 18]) (G := S0 L) (h := (sc_ h 19 (va_cpy (h 17) (h 19) 0 (p * 22) 22))) rfl (nI_leE rfl (nI_addE hp rfl) (by omega) (by omega)) (fun q27 => ?_) (fun q27 => ?_)
  · refine T_run 10 (st' := (58, [.ref 18, .ref 17], [], S0 L, (st_ (st_ (sc_ h 19 (va_cpy (h 17) (h 19) 0 (p * 22) 22)) 18 1 0) 18 2 (if (h 18 2) + 1 < 20 then (h 18 2) + 1 else 20)))) rfl ?_
    exact T_retR rfl rfl rfl (by rw [hu, min20 (by omega), nxP, remU]; first | (rw [if_neg (show ¬ p + 1 < 20 by omega)]; rfl) | (rw [if_pos (show p + 1 < 20 by omega), hp, nI_1]))
  · refine T_run 14 (st' := (58, [.ref 18, .ref 17], [], S0 L, (st_ (st_ (sc_ h 19 (va_cpy (h 17) (h 19) 0 (p * 22) 22)) 18 1 ((h 18 1) + 1)) 18 2 (if (h 18 2) + 1 < 20 then (h 18 2) + 1 else 20)))) rfl ?_
    exact T_retR rfl rfl rfl (by rw [hu, min20 (by omega), nxP, remU]; first | (rw [if_neg (show ¬ p + 1 < 20 by omega)]; rfl) | (rw [if_pos (show p + 1 < 20 by omega), hp, nI_1]))
theorem r_X3_wipe {L : Nat} (h : AH)   : Rt L 0 45 [.ref 18] h none (st_ (st_ h 18 1 0) 18 2 0) := by
  refine T_run 6 (st' := (10, [.ref 18], [], S0 L, (st_ (st_ h 18 1 0) 18 2 0))) rfl ?_
  exact T_retR rfl rfl rfl rfl
theorem r_X3_pop {L : Nat} (h : AH)  (p : Nat) (hp : h 18 1 = nI p) (hp20 : p < 20) (w : Nat) (hu : h 18 2 = nI (w + 1)) (hw : w < 20) : Rt L 0 44 [.ref 18, .ref 17] h none (sc_ (st_ (st_ h 18 1 (nI (pvP p))) 18 2 (nI w)) 17 (va_cpy (h 19) (h 17) (pvP p * 22) 0 22)) := by
  refine T_run 2 (st' := (4, [.ref 18, .ref 17], [.int (h 18 2)], S0 L, h)) rfl ?_
  refine T_iffP (c := (h 18 2) ≤ 0) (P := w + 1 ≤ 0) (t := 57) (f := 7) (L := [.ref 18, .ref 17]) (S := []) (G := S0 L) (h := h) rfl (nI_leE hu rfl (by omega) (by omega)) (by omega) ?_
  refine T_run 3 (st' := (12, [.ref 18, .ref 17], [.int (h 18 1), .ref 18], S0 L, h)) rfl ?_
  refine T_ifP (c := (h 18 1) ≤ 0) (P := p ≤ 0) (t := 24) (f := 15) (L := [.ref 18, .ref 17]) (S := [.ref 18]) (G := S0 L) (h := h) rfl (nI_leE hp rfl (by omega) (by omega)) (fun q12 => ?_) (fun q12 => ?_)
  · refine T_run 17 (st' := (54, [.ref 18, .ref 17], [.int 22, .int 0, .ref 17, .int (19 * 22), .ref 19], S0 L, (st_ (st_ h 18 1 19) 18 2 ((h 18 2) - 1)))) rfl ?_
    refine T_copy (nn := 22) (sn := 19 * 22) (dn := 0) rfl rfl rfl rfl (nI_mulE rfl rfl) rfl (by omega) (by omega) (by decide) rfl rfl ?_
    exact T_retR rfl rfl rfl (by rw [hu, nI_pred, pvP]; first | (rw [if_pos (show 0 < p by omega), hp, show (1 : Int32) = nI 1 from rfl, pk_sub (by omega)]; first | done | rfl) | (rw [if_neg (show ¬ 0 < p by omega)]; first | done | rfl))
  · refine T_run 21 (st' := (54, [.ref 18, .ref 17], [.int 22, .int 0, .ref 17, .int (((h 18 1) - 1) * 22), .ref 19], S0 L, (st_ (st_ h 18 1 ((h 18 1) - 1)) 18 2 ((h 18 2) - 1)))) rfl ?_
    refine T_copy (nn := 22) (sn := (p - 1) * 22) (dn := 0) rfl rfl rfl rfl (nI_mulE (by rw [hp, show (1 : Int32) = nI 1 from rfl, pk_sub (by omega)]) rfl) rfl (by omega) (by omega) (by decide) rfl rfl ?_
    exact T_retR rfl rfl rfl (by rw [hu, nI_pred, pvP]; first | (rw [if_pos (show 0 < p by omega), hp, show (1 : Int32) = nI 1 from rfl, pk_sub (by omega)]; first | done | rfl) | (rw [if_neg (show ¬ 0 < p by omega)]; first | done | rfl))
theorem r_X1_take39 {L : Nat} (h : AH) (s : Int32)  : Rt L 0 31 [.ref 39, .ref 17, .int s] h none (st_ (st_ (sc_ h 40 (va_cpy (h 17) (h 40) 0 0 22)) 39 1 s) 39 2 1) := by
  refine T_run 6 (st' := (9, [.ref 39, .ref 17, .int s], [.int 22, .int 0, .ref 40, .int 0, .ref 17], S0 L, h)) rfl ?_
  refine T_copy (nn := 22) (sn := 0) (dn := 0) rfl rfl rfl rfl rfl rfl (by omega) (by omega) (by decide) rfl rfl ?_
  refine T_run 6 (st' := (22, [.ref 39, .ref 17, .int s], [], S0 L, (st_ (st_ (sc_ h 40 (va_cpy (h 17) (h 40) 0 0 22)) 39 1 s) 39 2 1))) rfl ?_
  exact T_retR rfl rfl rfl rfl
theorem r_X1_giveTo39 {L : Nat} (h : AH)   : Rt L 0 32 [.ref 39, .ref 17] h none (sc_ h 17 (va_cpy (h 40) (h 17) 0 0 22)) := by
  refine T_run 6 (st' := (9, [.ref 39, .ref 17], [.int 22, .int 0, .ref 17, .int 0, .ref 40], S0 L, h)) rfl ?_
  refine T_copy (nn := 22) (sn := 0) (dn := 0) rfl rfl rfl rfl rfl rfl (by omega) (by omega) (by decide) rfl rfl ?_
  exact T_retR rfl rfl rfl rfl
theorem r_X1_take41 {L : Nat} (h : AH) (s : Int32)  : Rt L 0 31 [.ref 41, .ref 17, .int s] h none (st_ (st_ (sc_ h 42 (va_cpy (h 17) (h 42) 0 0 22)) 41 1 s) 41 2 1) := by
  refine T_run 6 (st' := (9, [.ref 41, .ref 17, .int s], [.int 22, .int 0, .ref 42, .int 0, .ref 17], S0 L, h)) rfl ?_
  refine T_copy (nn := 22) (sn := 0) (dn := 0) rfl rfl rfl rfl rfl rfl (by omega) (by omega) (by decide) rfl rfl ?_
  refine T_run 6 (st' := (22, [.ref 41, .ref 17, .int s], [], S0 L, (st_ (st_ (sc_ h 42 (va_cpy (h 17) (h 42) 0 0 22)) 41 1 s) 41 2 1))) rfl ?_
  exact T_retR rfl rfl rfl rfl
theorem r_X1_giveTo41 {L : Nat} (h : AH)   : Rt L 0 32 [.ref 41, .ref 17] h none (sc_ h 17 (va_cpy (h 42) (h 17) 0 0 22)) := by
  refine T_run 6 (st' := (9, [.ref 41, .ref 17], [.int 22, .int 0, .ref 17, .int 0, .ref 42], S0 L, h)) rfl ?_
  refine T_copy (nn := 22) (sn := 0) (dn := 0) rfl rfl rfl rfl rfl rfl (by omega) (by omega) (by decide) rfl rfl ?_
  exact T_retR rfl rfl rfl rfl

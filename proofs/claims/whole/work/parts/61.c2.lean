/-! THE PROGRAM: roll, slate, scale -/
theorem r_X5_hasChild {L : Nat} (h : AH) (x : Int32) (c0 : Nat) (hc : h 3 2 = nI c0) (h5 : c0 ≤ 5) : Rt L 0 66 [.ref 3, .int x] h (some (b2i (inS x c0))) h := by
  refine T_run 1 (st' := (1, [.ref 3, .int x], [.int x], S0 L, h)) rfl ?_
  refine T_if (c := x < 0) (t := 16) (f := 4) (L := [.ref 3, .int x]) (S := []) (G := S0 L) (h := h) rfl (fun q1 => ?_) (fun q1 => ?_)
  · refine T_run 1 (st' := (17, [.ref 3, .int x], [.int 0], S0 L, h)) rfl ?_
    exact T_retR rfl rfl (by first | exact congrArg some (b2i_f (fun z => absurd q1 (Int32.not_lt.mpr z.1))).symm | exact congrArg some (b2i_f (fun z => absurd z.2 (by rw [← hc]; exact Int32.not_lt.mpr q9))).symm | exact congrArg some (b2i_t ⟨Int32.not_lt.mp q1, by rw [← hc]; exact Int32.not_le.mp q9⟩).symm) rfl
  · refine T_run 3 (st' := (9, [.ref 3, .int x], [.int (h 3 2), .int x], S0 L, h)) rfl ?_
    refine T_if (c := (h 3 2) ≤ x) (t := 16) (f := 12) (L := [.ref 3, .int x]) (S := []) (G := S0 L) (h := h) rfl (fun q9 => ?_) (fun q9 => ?_)
    · refine T_run 1 (st' := (17, [.ref 3, .int x], [.int 0], S0 L, h)) rfl ?_
      exact T_retR rfl rfl (by first | exact congrArg some (b2i_f (fun z => absurd q1 (Int32.not_lt.mpr z.1))).symm | exact congrArg some (b2i_f (fun z => absurd z.2 (by rw [← hc]; exact Int32.not_lt.mpr q9))).symm | exact congrArg some (b2i_t ⟨Int32.not_lt.mp q1, by rw [← hc]; exact Int32.not_le.mp q9⟩).symm) rfl
    · refine T_run 2 (st' := (17, [.ref 3, .int x], [.int 1], S0 L, h)) rfl ?_
      exact T_retR rfl rfl (by first | exact congrArg some (b2i_f (fun z => absurd q1 (Int32.not_lt.mpr z.1))).symm | exact congrArg some (b2i_f (fun z => absurd z.2 (by rw [← hc]; exact Int32.not_lt.mpr q9))).symm | exact congrArg some (b2i_t ⟨Int32.not_lt.mp q1, by rw [← hc]; exact Int32.not_le.mp q9⟩).symm) rfl
theorem r_X5_hasDeed {L : Nat} (h : AH) (x : Int32) (n : Nat) (hn : h 3 3 = nI n) (h7 : n ≤ 7) : Rt L 0 67 [.ref 3, .int x] h (some (b2i (inS x n))) h := by
  refine T_run 1 (st' := (1, [.ref 3, .int x], [.int x], S0 L, h)) rfl ?_
  refine T_if (c := x < 0) (t := 16) (f := 4) (L := [.ref 3, .int x]) (S := []) (G := S0 L) (h := h) rfl (fun q1 => ?_) (fun q1 => ?_)
  · refine T_run 1 (st' := (17, [.ref 3, .int x], [.int 0], S0 L, h)) rfl ?_
    exact T_retR rfl rfl (by first | exact congrArg some (b2i_f (fun z => absurd q1 (Int32.not_lt.mpr z.1))).symm | exact congrArg some (b2i_f (fun z => absurd z.2 (by rw [← hn]; exact Int32.not_lt.mpr q9))).symm | exact congrArg some (b2i_t ⟨Int32.not_lt.mp q1, by rw [← hn]; exact Int32.not_le.mp q9⟩).symm) rfl
  · refine T_run 3 (st' := (9, [.ref 3, .int x], [.int (h 3 3), .int x], S0 L, h)) rfl ?_
    refine T_if (c := (h 3 3) ≤ x) (t := 16) (f := 12) (L := [.ref 3, .int x]) (S := []) (G := S0 L) (h := h) rfl (fun q9 => ?_) (fun q9 => ?_)
    · refine T_run 1 (st' := (17, [.ref 3, .int x], [.int 0], S0 L, h)) rfl ?_
      exact T_retR rfl rfl (by first | exact congrArg some (b2i_f (fun z => absurd q1 (Int32.not_lt.mpr z.1))).symm | exact congrArg some (b2i_f (fun z => absurd z.2 (by rw [← hn]; exact Int32.not_lt.mpr q9))).symm | exact congrArg some (b2i_t ⟨Int32.not_lt.mp q1, by rw [← hn]; exact Int32.not_le.mp q9⟩).symm) rfl
    · refine T_run 2 (st' := (17, [.ref 3, .int x], [.int 1], S0 L, h)) rfl ?_
      exact T_retR rfl rfl (by first | exact congrArg some (b2i_f (fun z => absurd q1 (Int32.not_lt.mpr z.1))).symm | exact congrArg some (b2i_f (fun z => absurd z.2 (by rw [← hn]; exact Int32.not_lt.mpr q9))).symm | exact congrArg some (b2i_t ⟨Int32.not_lt.mp q1, by rw [← hn]; exact Int32.not_le.mp q9⟩).symm) rfl
theorem r_X5_hasChildd {L : Nat} (h : AH) (x : Int32) (c0 : Nat) (hc : h 9 2 = nI c0) (h5 : c0 ≤ 5) : Rt L 0 66 [.ref 9, .int x] h (some (b2i (inS x c0))) h := by
  refine T_run 1 (st' := (1, [.ref 9, .int x], [.int x], S0 L, h)) rfl ?_
  refine T_if (c := x < 0) (t := 16) (f := 4) (L := [.ref 9, .int x]) (S := []) (G := S0 L) (h := h) rfl (fun q1 => ?_) (fun q1 => ?_)
  · refine T_run 1 (st' := (17, [.ref 9, .int x], [.int 0], S0 L, h)) rfl ?_
    exact T_retR rfl rfl (by first | exact congrArg some (b2i_f (fun z => absurd q1 (Int32.not_lt.mpr z.1))).symm | exact congrArg some (b2i_f (fun z => absurd z.2 (by rw [← hc]; exact Int32.not_lt.mpr q9))).symm | exact congrArg some (b2i_t ⟨Int32.not_lt.mp q1, by rw [← hc]; exact Int32.not_le.mp q9⟩).symm) rfl
  · refine T_run 3 (st' := (9, [.ref 9, .int x], [.int (h 9 2), .int x], S0 L, h)) rfl ?_
    refine T_if (c := (h 9 2) ≤ x) (t := 16) (f := 12) (L := [.ref 9, .int x]) (S := []) (G := S0 L) (h := h) rfl (fun q9 => ?_) (fun q9 => ?_)
    · refine T_run 1 (st' := (17, [.ref 9, .int x], [.int 0], S0 L, h)) rfl ?_
      exact T_retR rfl rfl (by first | exact congrArg some (b2i_f (fun z => absurd q1 (Int32.not_lt.mpr z.1))).symm | exact congrArg some (b2i_f (fun z => absurd z.2 (by rw [← hc]; exact Int32.not_lt.mpr q9))).symm | exact congrArg some (b2i_t ⟨Int32.not_lt.mp q1, by rw [← hc]; exact Int32.not_le.mp q9⟩).symm) rfl
    · refine T_run 2 (st' := (17, [.ref 9, .int x], [.int 1], S0 L, h)) rfl ?_
      exact T_retR rfl rfl (by first | exact congrArg some (b2i_f (fun z => absurd q1 (Int32.not_lt.mpr z.1))).symm | exact congrArg some (b2i_f (fun z => absurd z.2 (by rw [← hc]; exact Int32.not_lt.mpr q9))).symm | exact congrArg some (b2i_t ⟨Int32.not_lt.mp q1, by rw [← hc]; exact Int32.not_le.mp q9⟩).symm) rfl
theorem r_X5_childAfter {L : Nat} (h : AH) (x : Int32) (c0 : Nat) (hc : h 3 2 = nI c0) (h5 : c0 ≤ 5) : Rt L 1 68 [.ref 3, .int x] h (some (nextC c0 x)) h := by
  refine T_run 4 (st' := (4, [.ref 3, .int x], [.int (x + 1), .ref 3], S0 L, h)) rfl ?_
  refine T_callR (S' := [.int (b2i (inS (x + 1) c0))]) (h' := h) (r_X5_hasChild (L := L) h (x + 1) c0 hc h5) (by decide) rfl rfl rfl rfl rfl rfl rfl ?_
  refine T_ifz (P := (inS (x + 1) c0)) (t := 16) (f := 10) (L := [.ref 3, .int x]) (S := []) (G := S0 L) (h := h) rfl (fun q7 => ?_) (fun q7 => ?_)
  · refine T_run 1 (st' := (17, [.ref 3, .int x], [.int 0], S0 L, h)) rfl ?_
    exact T_retR rfl rfl (by first | exact congrArg some (if_pos q7).symm | exact congrArg some (if_neg q7).symm) rfl
  · refine T_run 4 (st' := (17, [.ref 3, .int x], [.int (x + 1)], S0 L, h)) rfl ?_
    exact T_retR rfl rfl (by first | exact congrArg some (if_pos q7).symm | exact congrArg some (if_neg q7).symm) rfl
theorem r_X5_firstOf {L : Nat} (h : AH) (a : Nat) (c0 : Nat) (hc : h 3 2 = nI c0) (h5 : c0 ≤ 5) (hch : inCh (h 6) c0) (ha : a < c0) : Rt L 1 71 [.ref 3, .int (nI a)] h (some (nI (topS (h 6) c0 a))) h := by
  refine T_run 4 (st' := (4, [.ref 3, .int (nI a), .int (nI a), .int 0], [], S0 L, h)) rfl ?_
  refine T_loop (fun k => (4, [.ref 3, .int (nI a), .int (nI (topS (h 6) k a)), .int (nI k)], [], S0 L, h)) c0 ?_ ?_
  · intro k hk ih
    have t1 := topS_lt hch (by omega) (f := k) (a := a) ha
    refine T_run 3 (st' := (9, [.ref 3, .int (nI a), .int (nI (topS (h 6) k a)), .int (nI k)], [.int (h 3 2), .int (nI k)], S0 L, h)) rfl ?_
    refine T_iffP (c := (h 3 2) ≤ (nI k)) (P := c0 ≤ k) (t := 43) (f := 12) (L := [.ref 3, .int (nI a), .int (nI (topS (h 6) k a)), .int (nI k)]) (S := []) (G := S0 L) (h := h) rfl (nI_leE hc rfl (by omega) (by omega)) (by omega) ?_
    refine T_run 2 (st' := (14, [.ref 3, .int (nI a), .int (nI (topS (h 6) k a)), .int (nI k)], [.int (nI (topS (h 6) k a)), .ref 3], S0 L, h)) rfl ?_
    refine T_callR (S' := [.int (b2i (inS (nI (topS (h 6) k a)) c0))]) (h' := h) (r_X5_hasChild (L := L) h (nI (topS (h 6) k a)) c0 hc h5) (by decide) rfl rfl rfl rfl rfl rfl rfl ?_
    refine T_iff (c := (b2i (inS (nI (topS (h 6) k a)) c0)) = 0) (t := 37) (f := 20) (L := [.ref 3, .int (nI a), .int (nI (topS (h 6) k a)), .int (nI k)]) (S := []) (G := S0 L) (h := h) rfl (bz_t (inS_nat t1 (by omega))) ?_
    refine T_run 3 (st' := (25, [.ref 3, .int (nI a), .int (nI (topS (h 6) k a)), .int (nI k)], [.int (nI (topS (h 6) k a)), .ref 6], S0 L, h)) rfl ?_
    refine T_ald (n := topS (h 6) k a) rfl rfl rfl (by omega) (by decide) rfl ?_
    refine T_run 1 (st' := (27, [.ref 3, .int (nI a), .int (nI (topS (h 6) k a)), .int (nI k)], [.int (-1), .int (h 6 (topS (h 6) k a))], S0 L, h)) rfl ?_
    refine T_if (c := (h 6 (topS (h 6) k a)) = (-1)) (t := 37) (f := 30) (L := [.ref 3, .int (nI a), .int (nI (topS (h 6) k a)), .int (nI k)]) (S := []) (G := S0 L) (h := h) rfl (fun q27 => ?_) (fun q27 => ?_)
    · refine T_run 2 (st' := (4, [.ref 3, .int (nI a), .int (nI (topS (h 6) k a)), .int (nI k + 1)], [], S0 L, h)) rfl ?_
      exact T_st (by rw [nI_1, topS_back]; first | (rw [if_pos q27]; done) | (rw [if_neg q27]; rcases hch _ t1 with e_ | ⟨j_, hj_, e_⟩; exact absurd e_ q27; rw [e_, nI_clamp (by omega)])) ih
    · refine T_run 3 (st' := (35, [.ref 3, .int (nI a), .int (nI (topS (h 6) k a)), .int (nI k)], [.int (nI (topS (h 6) k a)), .ref 6], S0 L, h)) rfl ?_
      refine T_ald (n := topS (h 6) k a) rfl rfl rfl (by omega) (by decide) rfl ?_
      refine T_run 3 (st' := (4, [.ref 3, .int (nI a), .int (h 6 (topS (h 6) k a)), .int (nI k + 1)], [], S0 L, h)) rfl ?_
      exact T_st (by rw [nI_1, topS_back]; first | (rw [if_pos q27]; done) | (rw [if_neg q27]; rcases hch _ t1 with e_ | ⟨j_, hj_, e_⟩; exact absurd e_ q27; rw [e_, nI_clamp (by omega)])) ih
  · skip
    refine T_run 3 (st' := (9, [.ref 3, .int (nI a), .int (nI (topS (h 6) c0 a)), .int (nI c0)], [.int (h 3 2), .int (nI c0)], S0 L, h)) rfl ?_
    refine T_iftP (c := (h 3 2) ≤ (nI c0)) (P := c0 ≤ c0) (t := 43) (f := 12) (L := [.ref 3, .int (nI a), .int (nI (topS (h 6) c0 a)), .int (nI c0)]) (S := []) (G := S0 L) (h := h) rfl (nI_leE hc rfl (by omega) (by omega)) (by omega) ?_
    refine T_run 1 (st' := (44, [.ref 3, .int (nI a), .int (nI (topS (h 6) c0 a)), .int (nI c0)], [.int (nI (topS (h 6) c0 a))], S0 L, h)) rfl ?_
    exact T_retR rfl rfl rfl rfl
theorem r_X5_allWithFirst {L : Nat} (h : AH) (x : Int32) (c0 : Nat) (hc : h 3 2 = nI c0) (h5 : c0 ≤ 5) (hch : inCh (h 6) c0) : Rt L 2 72 [.ref 3, .int x] h (some (setS (fun y_ => decide (nI (topS (h 6) c0 y_) = x)) c0)) h := by
  refine T_run 4 (st' := (4, [.ref 3, .int x, .int 0, .int 0], [], S0 L, h)) rfl ?_
  refine T_loop (fun k => (4, [.ref 3, .int x, .int (setS (fun y_ => decide (nI (topS (h 6) c0 y_) = x)) k), .int (nI k)], [], S0 L, h)) c0 ?_ ?_
  · intro k hk ih
    refine T_run 3 (st' := (9, [.ref 3, .int x, .int (setS (fun y_ => decide (nI (topS (h 6) c0 y_) = x)) k), .int (nI k)], [.int (h 3 2), .int (nI k)], S0 L, h)) rfl ?_
    refine T_iffP (c := (h 3 2) ≤ (nI k)) (P := c0 ≤ k) (t := 33) (f := 12) (L := [.ref 3, .int x, .int (setS (fun y_ => decide (nI (topS (h 6) c0 y_) = x)) k), .int (nI k)]) (S := []) (G := S0 L) (h := h) rfl (nI_leE hc rfl (by omega) (by omega)) (by omega) ?_
    refine T_run 2 (st' := (14, [.ref 3, .int x, .int (setS (fun y_ => decide (nI (topS (h 6) c0 y_) = x)) k), .int (nI k)], [.int (nI k), .ref 3], S0 L, h)) rfl ?_
    refine T_callR (S' := [.int (nI (topS (h 6) c0 k))]) (h' := h) (r_X5_firstOf (L := L) h k c0 hc h5 hch (by omega)) (by decide) rfl rfl rfl rfl rfl rfl rfl ?_
    refine T_run 1 (st' := (18, [.ref 3, .int x, .int (setS (fun y_ => decide (nI (topS (h 6) c0 y_) = x)) k), .int (nI k)], [.int x, .int (nI (topS (h 6) c0 k))], S0 L, h)) rfl ?_
    refine T_ifne (c := (nI (topS (h 6) c0 k)) = x) (t := 27) (f := 21) (L := [.ref 3, .int x, .int (setS (fun y_ => decide (nI (topS (h 6) c0 y_) = x)) k), .int (nI k)]) (S := []) (G := S0 L) (h := h) rfl (fun q18 => ?_) (fun q18 => ?_)
    · refine T_run 2 (st' := (4, [.ref 3, .int x, .int (setS (fun y_ => decide (nI (topS (h 6) c0 y_) = x)) k), .int (nI k + 1)], [], S0 L, h)) rfl ?_
      exact T_st (by rw [nI_1]; simp only [setS]; first | (rw [if_pos (decide_eq_true q18)]; done) | (rw [if_neg (by rw [decide_eq_false q18]; decide)]; done)) ih
    · refine T_run 8 (st' := (4, [.ref 3, .int x, .int ((setS (fun y_ => decide (nI (topS (h 6) c0 y_) = x)) k) ||| (1 <<< ((nI k) &&& 31))), .int (nI k + 1)], [], S0 L, h)) rfl ?_
      exact T_st (by rw [nI_1]; simp only [setS]; first | (rw [if_pos (decide_eq_true q18)]; done) | (rw [if_neg (by rw [decide_eq_false q18]; decide)]; done)) ih
  · skip
    refine T_run 3 (st' := (9, [.ref 3, .int x, .int (setS (fun y_ => decide (nI (topS (h 6) c0 y_) = x)) c0), .int (nI c0)], [.int (h 3 2), .int (nI c0)], S0 L, h)) rfl ?_
    refine T_iftP (c := (h 3 2) ≤ (nI c0)) (P := c0 ≤ c0) (t := 33) (f := 12) (L := [.ref 3, .int x, .int (setS (fun y_ => decide (nI (topS (h 6) c0 y_) = x)) c0), .int (nI c0)]) (S := []) (G := S0 L) (h := h) rfl (nI_leE hc rfl (by omega) (by omega)) (by omega) ?_
    refine T_run 1 (st' := (34, [.ref 3, .int x, .int (setS (fun y_ => decide (nI (topS (h 6) c0 y_) = x)) c0), .int (nI c0)], [.int (setS (fun y_ => decide (nI (topS (h 6) c0 y_) = x)) c0)], S0 L, h)) rfl ?_
    exact T_retR rfl rfl rfl rfl
theorem r_X7_wipe {L : Nat} (h : AH)   : Rt L 0 79 [.ref 33] h none (st_ (st_ h 33 5 0) 33 6 0) := by
  refine T_run 6 (st' := (10, [.ref 33], [], S0 L, (st_ (st_ h 33 5 0) 33 6 0))) rfl ?_
  exact T_retR rfl rfl rfl rfl
theorem r_X7_addSeen {L : Nat} (h : AH) (x : Int32) (y : Int32) (P : Prop) [Decidable P] (t : Nat) (hb : h 33 5 = nI t) (ht : t < 6) : Rt L 0 80 [.ref 33, .int x, .int y, .int (b2i P)] h none (st_ (st_ (st_ (st_ h 34 t x) 35 t y) 36 t (b2i P)) 33 5 (nI (t + 1))) := by
  refine T_run 3 (st' := (6, [.ref 33, .int x, .int y, .int (b2i P)], [.int 6, .int (h 33 5)], S0 L, h)) rfl ?_
  refine T_iffP (c := 6 ≤ (h 33 5)) (P := 6 ≤ t) (t := 49) (f := 9) (L := [.ref 33, .int x, .int y, .int (b2i P)]) (S := []) (G := S0 L) (h := h) rfl (nI_leE rfl hb (by omega) (by omega)) (by omega) ?_
  refine T_run 5 (st' := (18, [.ref 33, .int x, .int y, .int (b2i P)], [.int x, .int (h 33 5), .ref 34], S0 L, h)) rfl ?_
  refine T_ast (n := t) rfl rfl hb (by omega) (by decide) rfl ?_
  refine T_run 5 (st' := (28, [.ref 33, .int x, .int y, .int (b2i P)], [.int y, .int (h 33 5), .ref 35], S0 L, (st_ h 34 t x))) rfl ?_
  refine T_ast (n := t) rfl rfl hb (by omega) (by decide) rfl ?_
  refine T_run 5 (st' := (38, [.ref 33, .int x, .int y, .int (b2i P)], [.int (b2i P), .int (h 33 5), .ref 36], S0 L, (st_ (st_ h 34 t x) 35 t y))) rfl ?_
  refine T_bast (n := t) rfl rfl hb (by omega) (by decide) (by unfold b2i; split <;> simp) rfl ?_
  refine T_run 6 (st' := (49, [.ref 33, .int x, .int y, .int (b2i P)], [], S0 L, (st_ (st_ (st_ (st_ h 34 t x) 35 t y) 36 t (b2i P)) 33 5 ((h 33 5) + 1)))) rfl ?_
  exact T_retR rfl rfl rfl (by rw [hb, nI_1])
theorem r_X7_addEntry {L : Nat} (h : AH) (x : Int32) (y : Int32) (t : Nat) (hb : h 33 6 = nI t) (ht : t < 15) : Rt L 0 81 [.ref 33, .int x, .int y] h none (st_ (st_ (st_ h 37 t x) 38 t y) 33 6 (nI (t + 1))) := by
  refine T_run 3 (st' := (6, [.ref 33, .int x, .int y], [.int 15, .int (h 33 6)], S0 L, h)) rfl ?_
  refine T_iffP (c := 15 ≤ (h 33 6)) (P := 15 ≤ t) (t := 39) (f := 9) (L := [.ref 33, .int x, .int y]) (S := []) (G := S0 L) (h := h) rfl (nI_leE rfl hb (by omega) (by omega)) (by omega) ?_
  refine T_run 5 (st' := (18, [.ref 33, .int x, .int y], [.int x, .int (h 33 6), .ref 37], S0 L, h)) rfl ?_
  refine T_ast (n := t) rfl rfl hb (by omega) (by decide) rfl ?_
  refine T_run 5 (st' := (28, [.ref 33, .int x, .int y], [.int y, .int (h 33 6), .ref 38], S0 L, (st_ h 37 t x))) rfl ?_
  refine T_ast (n := t) rfl rfl hb (by omega) (by decide) rfl ?_
  refine T_run 6 (st' := (39, [.ref 33, .int x, .int y], [], S0 L, (st_ (st_ (st_ h 37 t x) 38 t y) 33 6 ((h 33 6) + 1)))) rfl ?_
  exact T_retR rfl rfl rfl (by rw [hb, nI_1])
theorem r_X7_firstUntrue {L : Nat} (h : AH)  (n : Nat) (hn : h 3 3 = nI n) (h7 : n ≤ 7) (m : Nat) (hm : h 33 5 = nI m) (hm6 : m ≤ 6) : Rt L 2 82 [.ref 33, .ref 16] h (some (findS (fun t_ => decide (¬ b2i (anyS (fun z_ => decide (((h 17) z_ = 3 ∧ (h 17) (7 + z_) = (h 34 t_)) ∧ (h 7) z_ = (h 35 t_))) n = true) = h 36 t_)) m 0)) h := by
  refine T_run 2 (st' := (2, [.ref 33, .ref 16, .int 0], [], S0 L, h)) rfl ?_
  refine T_loopI (fun k => (2, [.ref 33, .ref 16, .int (nI k)], [], S0 L, h)) (fun k => findS (fun t_ => decide (¬ b2i (anyS (fun z_ => decide (((h 17) z_ = 3 ∧ (h 17) (7 + z_) = (h 34 t_)) ∧ (h 7) z_ = (h 35 t_))) n = true) = h 36 t_)) m 0 = findS (fun t_ => decide (¬ b2i (anyS (fun z_ => decide (((h 17) z_ = 3 ∧ (h 17) (7 + z_) = (h 34 t_)) ∧ (h 7) z_ = (h 35 t_))) n = true) = h 36 t_)) (m - k) k) m rfl ?_ ?_
  · intro k hk hI ih
    refine T_run 3 (st' := (7, [.ref 33, .ref 16, .int (nI k)], [.int (h 33 5), .int (nI k)], S0 L, h)) rfl ?_
    refine T_iffP (c := (h 33 5) ≤ (nI k)) (P := m ≤ k) (t := 43) (f := 10) (L := [.ref 33, .ref 16, .int (nI k)]) (S := []) (G := S0 L) (h := h) rfl (nI_leE hm rfl (by omega) (by omega)) (by omega) ?_
    refine T_run 4 (st' := (16, [.ref 33, .ref 16, .int (nI k)], [.int (nI k), .ref 34, .ref 16], S0 L, h)) rfl ?_
    refine T_ald (n := k) rfl rfl rfl (by omega) (by decide) rfl ?_
    refine T_run 3 (st' := (22, [.ref 33, .ref 16, .int (nI k)], [.int (nI k), .ref 35, .int (h 34 k), .ref 16], S0 L, h)) rfl ?_
    refine T_ald (n := k) rfl rfl rfl (by omega) (by decide) rfl ?_
    refine T_callR (S' := [.int (b2i (anyS (fun z_ => decide (((h 17) z_ = 3 ∧ (h 17) (7 + z_) = (h 34 k)) ∧ (h 7) z_ = (h 35 k))) n = true))]) (h' := h) (r_X0_liesOnTable (L := L) h (h 34 k) (h 35 k) n hn h7) (by decide) rfl rfl rfl rfl rfl rfl rfl ?_
    refine T_run 3 (st' := (31, [.ref 33, .ref 16, .int (nI k)], [.int (nI k), .ref 36, .int (b2i (anyS (fun z_ => decide (((h 17) z_ = 3 ∧ (h 17) (7 + z_) = (h 34 k)) ∧ (h 7) z_ = (h 35 k))) n = true))], S0 L, h)) rfl ?_
    refine T_bald (n := k) rfl rfl rfl (by omega) (by decide) rfl ?_
    refine T_if (c := (b2i (anyS (fun z_ => decide (((h 17) z_ = 3 ∧ (h 17) (7 + z_) = (h 34 k)) ∧ (h 7) z_ = (h 35 k))) n = true)) = (h 36 k)) (t := 37) (f := 35) (L := [.ref 33, .ref 16, .int (nI k)]) (S := []) (G := S0 L) (h := h) rfl (fun q32 => ?_) (fun q32 => ?_)
    · refine T_run 2 (st' := (2, [.ref 33, .ref 16, .int (nI k + 1)], [], S0 L, h)) rfl ?_
      exact T_st (by rw [nI_1]) (ih (hI.trans (findS_step hk (decide_eq_false (fun z => z q32)))))
    · refine T_run 1 (st' := (36, [.ref 33, .ref 16, .int (nI k)], [.int (nI k)], S0 L, h)) rfl ?_
      exact T_retR rfl rfl (by first | (rw [hI]; exact congrArg some (findS_hit hk (decide_eq_true q32)).symm) | (rw [hI]; exact congrArg some findS_end.symm)) rfl
  · intro hI
    refine T_run 3 (st' := (7, [.ref 33, .ref 16, .int (nI m)], [.int (h 33 5), .int (nI m)], S0 L, h)) rfl ?_
    refine T_iftP (c := (h 33 5) ≤ (nI m)) (P := m ≤ m) (t := 43) (f := 10) (L := [.ref 33, .ref 16, .int (nI m)]) (S := []) (G := S0 L) (h := h) rfl (nI_leE hm rfl (by omega) (by omega)) (by omega) ?_
    refine T_run 1 (st' := (44, [.ref 33, .ref 16, .int (nI m)], [.int (-1)], S0 L, h)) rfl ?_
    exact T_retR rfl rfl (by first | (rw [hI]; exact congrArg some (findS_hit hk (decide_eq_true q32)).symm) | (rw [hI]; exact congrArg some findS_end.symm)) rfl
theorem r_X7_firstWrong {L : Nat} (h : AH)  (n : Nat) (hn : h 3 3 = nI n) (h7 : n ≤ 7) (m : Nat) (hm : h 33 6 = nI m) (hm15 : m ≤ 15) : Rt L 2 83 [.ref 33, .ref 16] h (some (findS (fun t_ => decide (¬ loadS (h 17) (fun z_ => (h 17) (7 + z_)) (h 8) (h 37 t_) n = h 38 t_)) m 0)) h := by
  refine T_run 2 (st' := (2, [.ref 33, .ref 16, .int 0], [], S0 L, h)) rfl ?_
  refine T_loopI (fun k => (2, [.ref 33, .ref 16, .int (nI k)], [], S0 L, h)) (fun k => findS (fun t_ => decide (¬ loadS (h 17) (fun z_ => (h 17) (7 + z_)) (h 8) (h 37 t_) n = h 38 t_)) m 0 = findS (fun t_ => decide (¬ loadS (h 17) (fun z_ => (h 17) (7 + z_)) (h 8) (h 37 t_) n = h 38 t_)) (m - k) k) m rfl ?_ ?_
  · intro k hk hI ih
    refine T_run 3 (st' := (7, [.ref 33, .ref 16, .int (nI k)], [.int (h 33 6), .int (nI k)], S0 L, h)) rfl ?_
    refine T_iffP (c := (h 33 6) ≤ (nI k)) (P := m ≤ k) (t := 37) (f := 10) (L := [.ref 33, .ref 16, .int (nI k)]) (S := []) (G := S0 L) (h := h) rfl (nI_leE hm rfl (by omega) (by omega)) (by omega) ?_
    refine T_run 4 (st' := (16, [.ref 33, .ref 16, .int (nI k)], [.int (nI k), .ref 37, .ref 16], S0 L, h)) rfl ?_
    refine T_ald (n := k) rfl rfl rfl (by omega) (by decide) rfl ?_
    refine T_callR (S' := [.int (loadS (h 17) (fun z_ => (h 17) (7 + z_)) (h 8) (h 37 k) n)]) (h' := h) (r_X0_loadOf (L := L) h (h 37 k) n hn h7) (by decide) rfl rfl rfl rfl rfl rfl rfl ?_
    refine T_run 3 (st' := (25, [.ref 33, .ref 16, .int (nI k)], [.int (nI k), .ref 38, .int (loadS (h 17) (fun z_ => (h 17) (7 + z_)) (h 8) (h 37 k) n)], S0 L, h)) rfl ?_
    refine T_ald (n := k) rfl rfl rfl (by omega) (by decide) rfl ?_
    refine T_if (c := (loadS (h 17) (fun z_ => (h 17) (7 + z_)) (h 8) (h 37 k) n) = (h 38 k)) (t := 31) (f := 29) (L := [.ref 33, .ref 16, .int (nI k)]) (S := []) (G := S0 L) (h := h) rfl (fun q26 => ?_) (fun q26 => ?_)
    · refine T_run 2 (st' := (2, [.ref 33, .ref 16, .int (nI k + 1)], [], S0 L, h)) rfl ?_
      exact T_st (by rw [nI_1]) (ih (hI.trans (findS_step hk (decide_eq_false (fun z => z q26)))))
    · refine T_run 1 (st' := (30, [.ref 33, .ref 16, .int (nI k)], [.int (nI k)], S0 L, h)) rfl ?_
      exact T_retR rfl rfl (by first | (rw [hI]; exact congrArg some (findS_hit hk (decide_eq_true q26)).symm) | (rw [hI]; exact congrArg some findS_end.symm)) rfl
  · intro hI
    refine T_run 3 (st' := (7, [.ref 33, .ref 16, .int (nI m)], [.int (h 33 6), .int (nI m)], S0 L, h)) rfl ?_
    refine T_iftP (c := (h 33 6) ≤ (nI m)) (P := m ≤ m) (t := 37) (f := 10) (L := [.ref 33, .ref 16, .int (nI m)]) (S := []) (G := S0 L) (h := h) rfl (nI_leE hm rfl (by omega) (by omega)) (by omega) ?_
    refine T_run 1 (st' := (38, [.ref 33, .ref 16, .int (nI m)], [.int (-1)], S0 L, h)) rfl ?_
    exact T_retR rfl rfl (by first | (rw [hI]; exact congrArg some (findS_hit hk (decide_eq_true q26)).symm) | (rw [hI]; exact congrArg some findS_end.symm)) rfl
theorem r_X6_weightOf {L : Nat} (h : AH) (s : Int32) (n : Nat) (hn : h 3 3 = nI n) (h7 : n ≤ 7) : Rt L 0 76 [.ref 31, .int s] h (some (wtS (h 8) s n)) h := by
  refine T_run 4 (st' := (4, [.ref 31, .int s, .int 0, .int 0], [], S0 L, h)) rfl ?_
  refine T_loop (fun k => (4, [.ref 31, .int s, .int (wtS (h 8) s k), .int (nI k)], [], S0 L, h)) n ?_ ?_
  · intro k hk ih
    refine T_run 4 (st' := (12, [.ref 31, .int s, .int (wtS (h 8) s k), .int (nI k)], [.int (h 3 3), .int (nI k)], S0 L, h)) rfl ?_
    refine T_iffP (c := (h 3 3) ≤ (nI k)) (P := n ≤ k) (t := 39) (f := 15) (L := [.ref 31, .int s, .int (wtS (h 8) s k), .int (nI k)]) (S := []) (G := S0 L) (h := h) rfl (nI_leE hn rfl (by omega) (by omega)) (by omega) ?_
    refine T_run 10 (st' := (29, [.ref 31, .int s, .int (wtS (h 8) s k), .int (nI k)], [.int (nI k), .ref 8, .int ((s >>> ((nI k) &&& 31)) &&& 1), .int (wtS (h 8) s k)], S0 L, h)) rfl ?_
    refine T_ald (n := k) rfl rfl rfl (by omega) (by decide) rfl ?_
    refine T_run 5 (st' := (4, [.ref 31, .int s, .int ((wtS (h 8) s k) + (((s >>> ((nI k) &&& 31)) &&& 1) * (h 8 k))), .int (nI k + 1)], [], S0 L, h)) rfl ?_
    exact T_st (by rw [nI_1, wt_mul (bit01 _)]; rfl) ih
  · skip
    refine T_run 4 (st' := (12, [.ref 31, .int s, .int (wtS (h 8) s n), .int (nI n)], [.int (h 3 3), .int (nI n)], S0 L, h)) rfl ?_
    refine T_iftP (c := (h 3 3) ≤ (nI n)) (P := n ≤ n) (t := 39) (f := 15) (L := [.ref 31, .int s, .int (wtS (h 8) s n), .int (nI n)]) (S := []) (G := S0 L) (h := h) rfl (nI_leE hn rfl (by omega) (by omega)) (by omega) ?_
    refine T_run 1 (st' := (40, [.ref 31, .int s, .int (wtS (h 8) s n), .int (nI n)], [.int (wtS (h 8) s n)], S0 L, h)) rfl ?_
    exact T_retR rfl rfl rfl rfl
theorem r_X6_count {L : Nat} (h : AH) (s : Int32) (n : Nat) (hn : h 3 3 = nI n) (h7 : n ≤ 7) (m : Nat) (hm : h 31 2 = nI m) (hm2 : m < 200) : Rt L 0 77 [.ref 31, .int s] h none (sc_ (st_ (st_ (st_ h 31 3 (if m = 0 then s else h 31 3)) 31 4 (if m = 0 then s else (h 31 4) &&& s)) 31 2 (nI (m + 1))) 32 (fun q => if q < n then (h 32) q + ((s >>> (nI q &&& 31)) &&& 1) else (h 32) q)) := by
  refine T_run 3 (st' := (5, [.ref 31, .int s, un_], [.int (h 31 2), .ref 31], S0 L, h)) rfl ?_
  refine T_ifneP (c := (h 31 2) = 0) (P := m = 0) (t := 12) (f := 8) (L := [.ref 31, .int s, un_]) (S := [.ref 31]) (G := S0 L) (h := h) rfl (nI_eqE hm rfl (by omega) (by omega)) (fun q5 => ?_) (fun q5 => ?_)
  · refine T_run 6 (st' := (24, [.ref 31, .int s, un_], [.int (h 31 2), .ref 31], S0 L, (st_ h 31 3 (h 31 3)))) rfl ?_
    refine T_ifneP (c := (h 31 2) = 0) (P := m = 0) (t := 31) (f := 27) (L := [.ref 31, .int s, un_]) (S := [.ref 31]) (G := S0 L) (h := (st_ h 31 3 (h 31 3))) rfl (nI_eqE hm rfl (by omega) (by omega)) (fun q24 => ?_) (fun q24 => ?_)
    · refine T_run 13 (st' := (52, [.ref 31, .int s, .int 0], [], S0 L, (st_ (st_ (st_ h 31 3 (h 31 3)) 31 4 ((h 31 4) &&& s)) 31 2 ((h 31 2) + 1)))) rfl ?_
      refine T_h (h' := (sc_ (st_ (st_ (st_ h 31 3 (h 31 3)) 31 4 ((h 31 4) &&& s)) 31 2 ((h 31 2) + 1)) 32 (fun q => if q < 0 then h 32 q + ((s >>> (nI q &&& 31)) &&& 1) else h 32 q))) (by funext a b; simp only [st_, sc_]; grind) ?_
      refine T_loop (fun k => (52, [.ref 31, .int s, .int (nI k)], [], S0 L, (sc_ (st_ (st_ (st_ h 31 3 (h 31 3)) 31 4 ((h 31 4) &&& s)) 31 2 ((h 31 2) + 1)) 32 (fun q => if q < k then h 32 q + ((s >>> (nI q &&& 31)) &&& 1) else h 32 q)))) n ?_ ?_
      · intro k hk ih
        refine T_run 4 (st' := (60, [.ref 31, .int s, .int (nI k)], [.int (h 3 3), .int (nI k)], S0 L, (sc_ (st_ (st_ (st_ h 31 3 (h 31 3)) 31 4 ((h 31 4) &&& s)) 31 2 ((h 31 2) + 1)) 32 (fun q => if q < k then h 32 q + ((s >>> (nI q &&& 31)) &&& 1) else h 32 q)))) rfl ?_
        refine T_iffP (c := (h 3 3) ≤ (nI k)) (P := n ≤ k) (t := 83) (f := 63) (L := [.ref 31, .int s, .int (nI k)]) (S := []) (G := S0 L) (h := (sc_ (st_ (st_ (st_ h 31 3 (h 31 3)) 31 4 ((h 31 4) &&& s)) 31 2 ((h 31 2) + 1)) 32 (fun q => if q < k then h 32 q + ((s >>> (nI q &&& 31)) &&& 1) else h 32 q))) rfl (nI_leE hn rfl (by omega) (by omega)) (by omega) ?_
        refine T_run 4 (st' := (69, [.ref 31, .int s, .int (nI k)], [.int (nI k), .ref 32, .int (nI k), .ref 32], S0 L, (sc_ (st_ (st_ (st_ h 31 3 (h 31 3)) 31 4 ((h 31 4) &&& s)) 31 2 ((h 31 2) + 1)) 32 (fun q => if q < k then h 32 q + ((s >>> (nI q &&& 31)) &&& 1) else h 32 q)))) rfl ?_
        refine T_ald (n := k) rfl rfl rfl (by omega) (by decide) rfl ?_
        refine T_run 6 (st' := (76, [.ref 31, .int s, .int (nI k)], [.int (((fun q => if q < k then h 32 q + ((s >>> (nI q &&& 31)) &&& 1) else h 32 q) k) + ((s >>> ((nI k) &&& 31)) &&& 1)), .int (nI k), .ref 32], S0 L, (sc_ (st_ (st_ (st_ h 31 3 (h 31 3)) 31 4 ((h 31 4) &&& s)) 31 2 ((h 31 2) + 1)) 32 (fun q => if q < k then h 32 q + ((s >>> (nI q &&& 31)) &&& 1) else h 32 q)))) rfl ?_
        refine T_ast (n := k) rfl rfl rfl (by omega) (by decide) rfl ?_
        refine T_run 2 (st' := (52, [.ref 31, .int s, .int (nI k + 1)], [], S0 L, (st_ (sc_ (st_ (st_ (st_ h 31 3 (h 31 3)) 31 4 ((h 31 4) &&& s)) 31 2 ((h 31 2) + 1)) 32 (fun q => if q < k then h 32 q + ((s >>> (nI q &&& 31)) &&& 1) else h 32 q)) 32 k (((fun q => if q < k then h 32 q + ((s >>> (nI q &&& 31)) &&& 1) else h 32 q) k) + ((s >>> ((nI k) &&& 31)) &&& 1))))) rfl ?_
        refine T_h (h' := (sc_ (st_ (st_ (st_ h 31 3 (h 31 3)) 31 4 ((h 31 4) &&& s)) 31 2 ((h 31 2) + 1)) 32 (fun q => if q < (k + 1) then h 32 q + ((s >>> (nI q &&& 31)) &&& 1) else h 32 q))) (by funext a b; simp only [st_, sc_]; grind) ?_
        exact T_st (by simp [nI_1, *]) ih
      · skip
        refine T_run 4 (st' := (60, [.ref 31, .int s, .int (nI n)], [.int (h 3 3), .int (nI n)], S0 L, (sc_ (st_ (st_ (st_ h 31 3 (h 31 3)) 31 4 ((h 31 4) &&& s)) 31 2 ((h 31 2) + 1)) 32 (fun q => if q < n then h 32 q + ((s >>> (nI q &&& 31)) &&& 1) else h 32 q)))) rfl ?_
        refine T_iftP (c := (h 3 3) ≤ (nI n)) (P := n ≤ n) (t := 83) (f := 63) (L := [.ref 31, .int s, .int (nI n)]) (S := []) (G := S0 L) (h := (sc_ (st_ (st_ (st_ h 31 3 (h 31 3)) 31 4 ((h 31 4) &&& s)) 31 2 ((h 31 2) + 1)) 32 (fun q => if q < n then h 32 q + ((s >>> (nI q &&& 31)) &&& 1) else h 32 q))) rfl (nI_leE hn rfl (by omega) (by omega)) (by omega) ?_
        exact T_retR rfl rfl rfl (by first | (exfalso; omega) | (rw [hm, nI_1, if_pos (show m = 0 by omega), if_pos (show m = 0 by omega)]; done) | (rw [hm, nI_1, if_neg (show ¬ m = 0 by omega), if_neg (show ¬ m = 0 by omega)]))
    · refine T_run 11 (st' := (52, [.ref 31, .int s, .int 0], [], S0 L, (st_ (st_ (st_ h 31 3 (h 31 3)) 31 4 s) 31 2 ((h 31 2) + 1)))) rfl ?_
      refine T_h (h' := (sc_ (st_ (st_ (st_ h 31 3 (h 31 3)) 31 4 s) 31 2 ((h 31 2) + 1)) 32 (fun q => if q < 0 then h 32 q + ((s >>> (nI q &&& 31)) &&& 1) else h 32 q))) (by funext a b; simp only [st_, sc_]; grind) ?_
      refine T_loop (fun k => (52, [.ref 31, .int s, .int (nI k)], [], S0 L, (sc_ (st_ (st_ (st_ h 31 3 (h 31 3)) 31 4 s) 31 2 ((h 31 2) + 1)) 32 (fun q => if q < k then h 32 q + ((s >>> (nI q &&& 31)) &&& 1) else h 32 q)))) n ?_ ?_
      · intro k hk ih
        refine T_run 4 (st' := (60, [.ref 31, .int s, .int (nI k)], [.int (h 3 3), .int (nI k)], S0 L, (sc_ (st_ (st_ (st_ h 31 3 (h 31 3)) 31 4 s) 31 2 ((h 31 2) + 1)) 32 (fun q => if q < k then h 32 q + ((s >>> (nI q &&& 31)) &&& 1) else h 32 q)))) rfl ?_
        refine T_iffP (c := (h 3 3) ≤ (nI k)) (P := n ≤ k) (t := 83) (f := 63) (L := [.ref 31, .int s, .int (nI k)]) (S := []) (G := S0 L) (h := (sc_ (st_ (st_ (st_ h 31 3 (h 31 3)) 31 4 s) 31 2 ((h 31 2) + 1)) 32 (fun q => if q < k then h 32 q + ((s >>> (nI q &&& 31)) &&& 1) else h 32 q))) rfl (nI_leE hn rfl (by omega) (by omega)) (by omega) ?_
        refine T_run 4 (st' := (69, [.ref 31, .int s, .int (nI k)], [.int (nI k), .ref 32, .int (nI k), .ref 32], S0 L, (sc_ (st_ (st_ (st_ h 31 3 (h 31 3)) 31 4 s) 31 2 ((h 31 2) + 1)) 32 (fun q => if q < k then h 32 q + ((s >>> (nI q &&& 31)) &&& 1) else h 32 q)))) rfl ?_
        refine T_ald (n := k) rfl rfl rfl (by omega) (by decide) rfl ?_
        refine T_run 6 (st' := (76, [.ref 31, .int s, .int (nI k)], [.int (((fun q => if q < k then h 32 q + ((s >>> (nI q &&& 31)) &&& 1) else h 32 q) k) + ((s >>> ((nI k) &&& 31)) &&& 1)), .int (nI k), .ref 32], S0 L, (sc_ (st_ (st_ (st_ h 31 3 (h 31 3)) 31 4 s) 31 2 ((h 31 2) + 1)) 32 (fun q => if q < k then h 32 q + ((s >>> (nI q &&& 31)) &&& 1) else h 32 q)))) rfl ?_
        refine T_ast (n := k) rfl rfl rfl (by omega) (by decide) rfl ?_
        refine T_run 2 (st' := (52, [.ref 31, .int s, .int (nI k + 1)], [], S0 L, (st_ (sc_ (st_ (st_ (st_ h 31 3 (h 31 3)) 31 4 s) 31 2 ((h 31 2) + 1)) 32 (fun q => if q < k then h 32 q + ((s >>> (nI q &&& 31)) &&& 1) else h 32 q)) 32 k (((fun q => if q < k then h 32 q + ((s >>> (nI q &&& 31)) &&& 1) else h 32 q) k) + ((s >>> ((nI k) &&& 31)) &&& 1))))) rfl ?_
        refine T_h (h' := (sc_ (st_ (st_ (st_ h 31 3 (h 31 3)) 31 4 s) 31 2 ((h 31 2) + 1)) 32 (fun q => if q < (k + 1) then h 32 q + ((s >>> (nI q &&& 31)) &&& 1) else h 32 q))) (by funext a b; simp only [st_, sc_]; grind) ?_
        exact T_st (by simp [nI_1, *]) ih
      · skip
        refine T_run 4 (st' := (60, [.ref 31, .int s, .int (nI n)], [.int (h 3 3), .int (nI n)], S0 L, (sc_ (st_ (st_ (st_ h 31 3 (h 31 3)) 31 4 s) 31 2 ((h 31 2) + 1)) 32 (fun q => if q < n then h 32 q + ((s >>> (nI q &&& 31)) &&& 1) else h 32 q)))) rfl ?_
        refine T_iftP (c := (h 3 3) ≤ (nI n)) (P := n ≤ n) (t := 83) (f := 63) (L := [.ref 31, .int s, .int (nI n)]) (S := []) (G := S0 L) (h := (sc_ (st_ (st_ (st_ h 31 3 (h 31 3)) 31 4 s) 31 2 ((h 31 2) + 1)) 32 (fun q => if q < n then h 32 q + ((s >>> (nI q &&& 31)) &&& 1) else h 32 q))) rfl (nI_leE hn rfl (by omega) (by omega)) (by omega) ?_
        exact T_retR rfl rfl rfl (by first | (exfalso; omega) | (rw [hm, nI_1, if_pos (show m = 0 by omega), if_pos (show m = 0 by omega)]; done) | (rw [hm, nI_1, if_neg (show ¬ m = 0 by omega), if_neg (show ¬ m = 0 by omega)]))
  · refine T_run 6 (st' := (24, [.ref 31, .int s, un_], [.int (h 31 2), .ref 31], S0 L, (st_ h 31 3 s))) rfl ?_
    refine T_ifneP (c := (h 31 2) = 0) (P := m = 0) (t := 31) (f := 27) (L := [.ref 31, .int s, un_]) (S := [.ref 31]) (G := S0 L) (h := (st_ h 31 3 s)) rfl (nI_eqE hm rfl (by omega) (by omega)) (fun q24 => ?_) (fun q24 => ?_)
    · refine T_run 13 (st' := (52, [.ref 31, .int s, .int 0], [], S0 L, (st_ (st_ (st_ h 31 3 s) 31 4 ((h 31 4) &&& s)) 31 2 ((h 31 2) + 1)))) rfl ?_
      refine T_h (h' := (sc_ (st_ (st_ (st_ h 31 3 s) 31 4 ((h 31 4) &&& s)) 31 2 ((h 31 2) + 1)) 32 (fun q => if q < 0 then h 32 q + ((s >>> (nI q &&& 31)) &&& 1) else h 32 q))) (by funext a b; simp only [st_, sc_]; grind) ?_
      refine T_loop (fun k => (52, [.ref 31, .int s, .int (nI k)], [], S0 L, (sc_ (st_ (st_ (st_ h 31 3 s) 31 4 ((h 31 4) &&& s)) 31 2 ((h 31 2) + 1)) 32 (fun q => if q < k then h 32 q + ((s >>> (nI q &&& 31)) &&& 1) else h 32 q)))) n ?_ ?_
      · intro k hk ih
        refine T_run 4 (st' := (60, [.ref 31, .int s, .int (nI k)], [.int (h 3 3), .int (nI k)], S0 L, (sc_ (st_ (st_ (st_ h 31 3 s) 31 4 ((h 31 4) &&& s)) 31 2 ((h 31 2) + 1)) 32 (fun q => if q < k then h 32 q + ((s >>> (nI q &&& 31)) &&& 1) else h 32 q)))) rfl ?_
        refine T_iffP (c := (h 3 3) ≤ (nI k)) (P := n ≤ k) (t := 83) (f := 63) (L := [.ref 31, .int s, .int (nI k)]) (S := []) (G := S0 L) (h := (sc_ (st_ (st_ (st_ h 31 3 s) 31 4 ((h 31 4) &&& s)) 31 2 ((h 31 2) + 1)) 32 (fun q => if q < k then h 32 q + ((s >>> (nI q &&& 31)) &&& 1) else h 32 q))) rfl (nI_leE hn rfl (by omega) (by omega)) (by omega) ?_
        refine T_run 4 (st' := (69, [.ref 31, .int s, .int (nI k)], [.int (nI k), .ref 32, .int (nI k), .ref 32], S0 L, (sc_ (st_ (st_ (st_ h 31 3 s) 31 4 ((h 31 4) &&& s)) 31 2 ((h 31 2) + 1)) 32 (fun q => if q < k then h 32 q + ((s >>> (nI q &&& 31)) &&& 1) else h 32 q)))) rfl ?_
        refine T_ald (n := k) rfl rfl rfl (by omega) (by decide) rfl ?_
        refine T_run 6 (st' := (76, [.ref 31, .int s, .int (nI k)], [.int (((fun q => if q < k then h 32 q + ((s >>> (nI q &&& 31)) &&& 1) else h 32 q) k) + ((s >>> ((nI k) &&& 31)) &&& 1)), .int (nI k), .ref 32], S0 L, (sc_ (st_ (st_ (st_ h 31 3 s) 31 4 ((h 31 4) &&& s)) 31 2 ((h 31 2) + 1)) 32 (fun q => if q < k then h 32 q + ((s >>> (nI q &&& 31)) &&& 1) else h 32 q)))) rfl ?_
        refine T_ast (n := k) rfl rfl rfl (by omega) (by decide) rfl ?_
        refine T_run 2 (st' := (52, [.ref 31, .int s, .int (nI k + 1)], [], S0 L, (st_ (sc_ (st_ (st_ (st_ h 31 3 s) 31 4 ((h 31 4) &&& s)) 31 2 ((h 31 2) + 1)) 32 (fun q => if q < k then h 32 q + ((s >>> (nI q &&& 31)) &&& 1) else h 32 q)) 32 k (((fun q => if q < k then h 32 q + ((s >>> (nI q &&& 31)) &&& 1) else h 32 q) k) + ((s >>> ((nI k) &&& 31)) &&& 1))))) rfl ?_
        refine T_h (h' := (sc_ (st_ (st_ (st_ h 31 3 s) 31 4 ((h 31 4) &&& s)) 31 2 ((h 31 2) + 1)) 32 (fun q => if q < (k + 1) then h 32 q + ((s >>> (nI q &&& 31)) &&& 1) else h 32 q))) (by funext a b; simp only [st_, sc_]; grind) ?_
        exact T_st (by simp [nI_1, *]) ih
      · skip
        refine T_run 4 (st' := (60, [.ref 31, .int s, .int (nI n)], [.int (h 3 3), .int (nI n)], S0 L, (sc_ (st_ (st_ (st_ h 31 3 s) 31 4 ((h 31 4) &&& s)) 31 2 ((h 31 2) + 1)) 32 (fun q => if q < n then h 32 q + ((s >>> (nI q &&& 31)) &&& 1) else h 32 q)))) rfl ?_
        refine T_iftP (c := (h 3 3) ≤ (nI n)) (P := n ≤ n) (t := 83) (f := 63) (L := [.ref 31, .int s, .int (nI n)]) (S := []) (G := S0 L) (h := (sc_ (st_ (st_ (st_ h 31 3 s) 31 4 ((h 31 4) &&& s)) 31 2 ((h 31 2) + 1)) 32 (fun q => if q < n then h 32 q + ((s >>> (nI q &&& 31)) &&& 1) else h 32 q))) rfl (nI_leE hn rfl (by omega) (by omega)) (by omega) ?_
        exact T_retR rfl rfl rfl (by first | (exfalso; omega) | (rw [hm, nI_1, if_pos (show m = 0 by omega), if_pos (show m = 0 by omega)]; done) | (rw [hm, nI_1, if_neg (show ¬ m = 0 by omega), if_neg (show ¬ m = 0 by omega)]))
    · refine T_run 11 (st' := (52, [.ref 31, .int s, .int 0], [], S0 L, (st_ (st_ (st_ h 31 3 s) 31 4 s) 31 2 ((h 31 2) + 1)))) rfl ?_
      refine T_h (h' := (sc_ (st_ (st_ (st_ h 31 3 s) 31 4 s) 31 2 ((h 31 2) + 1)) 32 (fun q => if q < 0 then h 32 q + ((s >>> (nI q &&& 31)) &&& 1) else h 32 q))) (by funext a b; simp only [st_, sc_]; grind) ?_
      refine T_loop (fun k => (52, [.ref 31, .int s, .int (nI k)], [], S0 L, (sc_ (st_ (st_ (st_ h 31 3 s) 31 4 s) 31 2 ((h 31 2) + 1)) 32 (fun q => if q < k then h 32 q + ((s >>> (nI q &&& 31)) &&& 1) else h 32 q)))) n ?_ ?_
      · intro k hk ih
        refine T_run 4 (st' := (60, [.ref 31, .int s, .int (nI k)], [.int (h 3 3), .int (nI k)], S0 L, (sc_ (st_ (st_ (st_ h 31 3 s) 31 4 s) 31 2 ((h 31 2) + 1)) 32 (fun q => if q < k then h 32 q + ((s >>> (nI q &&& 31)) &&& 1) else h 32 q)))) rfl ?_
        refine T_iffP (c := (h 3 3) ≤ (nI k)) (P := n ≤ k) (t := 83) (f := 63) (L := [.ref 31, .int s, .int (nI k)]) (S := []) (G := S0 L) (h := (sc_ (st_ (st_ (st_ h 31 3 s) 31 4 s) 31 2 ((h 31 2) + 1)) 32 (fun q => if q < k then h 32 q + ((s >>> (nI q &&& 31)) &&& 1) else h 32 q))) rfl (nI_leE hn rfl (by omega) (by omega)) (by omega) ?_
        refine T_run 4 (st' := (69, [.ref 31, .int s, .int (nI k)], [.int (nI k), .ref 32, .int (nI k), .ref 32], S0 L, (sc_ (st_ (st_ (st_ h 31 3 s) 31 4 s) 31 2 ((h 31 2) + 1)) 32 (fun q => if q < k then h 32 q + ((s >>> (nI q &&& 31)) &&& 1) else h 32 q)))) rfl ?_
        refine T_ald (n := k) rfl rfl rfl (by omega) (by decide) rfl ?_
        refine T_run 6 (st' := (76, [.ref 31, .int s, .int (nI k)], [.int (((fun q => if q < k then h 32 q + ((s >>> (nI q &&& 31)) &&& 1) else h 32 q) k) + ((s >>> ((nI k) &&& 31)) &&& 1)), .int (nI k), .ref 32], S0 L, (sc_ (st_ (st_ (st_ h 31 3 s) 31 4 s) 31 2 ((h 31 2) + 1)) 32 (fun q => if q < k then h 32 q + ((s >>> (nI q &&& 31)) &&& 1) else h 32 q)))) rfl ?_
        refine T_ast (n := k) rfl rfl rfl (by omega) (by decide) rfl ?_
        refine T_run 2 (st' := (52, [.ref 31, .int s, .int (nI k + 1)], [], S0 L, (st_ (sc_ (st_ (st_ (st_ h 31 3 s) 31 4 s) 31 2 ((h 31 2) + 1)) 32 (fun q => if q < k then h 32 q + ((s >>> (nI q &&& 31)) &&& 1) else h 32 q)) 32 k (((fun q => if q < k then h 32 q + ((s >>> (nI q &&& 31)) &&& 1) else h 32 q) k) + ((s >>> ((nI k) &&& 31)) &&& 1))))) rfl ?_
        refine T_h (h' := (sc_ (st_ (st_ (st_ h 31 3 s) 31 4 s) 31 2 ((h 31 2) + 1)) 32 (fun q => if q < (k + 1) then h 32 q + ((s >>> (nI q &&& 31)) &&& 1) else h 32 q))) (by funext a b; simp only [st_, sc_]; grind) ?_
        exact T_st (by simp [nI_1, *]) ih
      · skip
        refine T_run 4 (st' := (60, [.ref 31, .int s, .int (nI n)], [.int (h 3 3), .int (nI n)], S0 L, (sc_ (st_ (st_ (st_ h 31 3 s) 31 4 s) 31 2 ((h 31 2) + 1)) 32 (fun q => if q < n then h 32 q + ((s >>> (nI q &&& 31)) &&& 1) else h 32 q)))) rfl ?_
        refine T_iftP (c := (h 3 3) ≤ (nI n)) (P := n ≤ n) (t := 83) (f := 63) (L := [.ref 31, .int s, .int (nI n)]) (S := []) (G := S0 L) (h := (sc_ (st_ (st_ (st_ h 31 3 s) 31 4 s) 31 2 ((h 31 2) + 1)) 32 (fun q => if q < n then h 32 q + ((s >>> (nI q &&& 31)) &&& 1) else h 32 q))) rfl (nI_leE hn rfl (by omega) (by omega)) (by omega) ?_
        exact T_retR rfl rfl rfl (by first | (exfalso; omega) | (rw [hm, nI_1, if_pos (show m = 0 by omega), if_pos (show m = 0 by omega)]; done) | (rw [hm, nI_1, if_neg (show ¬ m = 0 by omega), if_neg (show ¬ m = 0 by omega)]))

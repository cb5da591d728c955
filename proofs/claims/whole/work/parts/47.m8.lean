/-! THE REFERENCE: its methods, 8 -/
theorem r_X9_lastHome {L : Nat} (h : AH)  (n : Nat) (hn : h 43 6 = nI n) (h7 : n ≤ 7) (c0 : Nat) (hc : h 43 2 = nI c0) (h5 : c0 ≤ 5) (hs : ∀ i, i < c0 → ¬ h 44 i = 0) : Rt L 3 142 [.ref 43] h (some (lastS (fun x_ => h 45 x_ + (h 45 x_) * (loadS (h 49) (fun z_ => (h 49) (7 + z_)) (h 48) (nI x_) n) / (h 44 x_)) c0)) h := by
  refine T_run 4 (st' := (4, [.ref 43, .int (-1), .int 0], [], S0 L, h)) rfl ?_
  refine T_loop (fun k => (4, [.ref 43, .int (lastS (fun x_ => h 45 x_ + (h 45 x_) * (loadS (h 49) (fun z_ => (h 49) (7 + z_)) (h 48) (nI x_) n) / (h 44 x_)) k), .int (nI k)], [], S0 L, h)) c0 ?_ ?_
  · intro k hk ih
    refine T_run 3 (st' := (9, [.ref 43, .int (lastS (fun x_ => h 45 x_ + (h 45 x_) * (loadS (h 49) (fun z_ => (h 49) (7 + z_)) (h 48) (nI x_) n) / (h 44 x_)) k), .int (nI k)], [.int (h 43 2), .int (nI k)], S0 L, h)) rfl ?_
    refine T_iffP (c := (h 43 2) ≤ (nI k)) (P := c0 ≤ k) (t := 41) (f := 12) (L := [.ref 43, .int (lastS (fun x_ => h 45 x_ + (h 45 x_) * (loadS (h 49) (fun z_ => (h 49) (7 + z_)) (h 48) (nI x_) n) / (h 44 x_)) k), .int (nI k)]) (S := []) (G := S0 L) (h := h) rfl (nI_leE hc rfl (by omega) (by omega)) (by omega) ?_
    refine T_run 1 (st' := (13, [.ref 43, .int (lastS (fun x_ => h 45 x_ + (h 45 x_) * (loadS (h 49) (fun z_ => (h 49) (7 + z_)) (h 48) (nI x_) n) / (h 44 x_)) k), .int (nI k)], [.int (lastS (fun x_ => h 45 x_ + (h 45 x_) * (loadS (h 49) (fun z_ => (h 49) (7 + z_)) (h 48) (nI x_) n) / (h 44 x_)) k)], S0 L, h)) rfl ?_
    refine T_if (c := (lastS (fun x_ => h 45 x_ + (h 45 x_) * (loadS (h 49) (fun z_ => (h 49) (7 + z_)) (h 48) (nI x_) n) / (h 44 x_)) k) < 0) (t := 29) (f := 16) (L := [.ref 43, .int (lastS (fun x_ => h 45 x_ + (h 45 x_) * (loadS (h 49) (fun z_ => (h 49) (7 + z_)) (h 48) (nI x_) n) / (h 44 x_)) k), .int (nI k)]) (S := []) (G := S0 L) (h := h) rfl (fun q13 => ?_) (fun q13 => ?_)
    · refine T_run 5 (st' := (4, [.ref 43, .int (nI k), .int (nI k + 1)], [], S0 L, h)) rfl ?_
      exact T_st (by rw [nI_1]; simp only [lastS]; first | (rw [if_pos (Or.inl q13)]; done) | (rw [if_pos (Or.inr (by rw [e_, nI_clamp (by omega)]; exact q26))]; done) | (rw [if_neg (by rw [e_, nI_clamp (by omega)]; rintro (z | z); exact nI_pos (by omega) z; exact z q26)]; done)) ih
    · obtain ⟨i_, hi_, e_⟩ := lastS_nat (by omega) q13
      refine T_run 2 (st' := (18, [.ref 43, .int (lastS (fun x_ => h 45 x_ + (h 45 x_) * (loadS (h 49) (fun z_ => (h 49) (7 + z_)) (h 48) (nI x_) n) / (h 44 x_)) k), .int (nI k)], [.int (nI k), .ref 43], S0 L, h)) rfl ?_
      refine T_callR (S' := [.int (h 45 k + (h 45 k) * (loadS (h 49) (fun z_ => (h 49) (7 + z_)) (h 48) (nI k) n) / (h 44 k))]) (h' := h) (r_X9_minutes (L := L) h k n hn h7 (by omega) (hs _ (by omega))) (by decide) rfl rfl rfl rfl rfl rfl rfl ?_
      refine T_run 2 (st' := (23, [.ref 43, .int (lastS (fun x_ => h 45 x_ + (h 45 x_) * (loadS (h 49) (fun z_ => (h 49) (7 + z_)) (h 48) (nI x_) n) / (h 44 x_)) k), .int (nI k)], [.int (lastS (fun x_ => h 45 x_ + (h 45 x_) * (loadS (h 49) (fun z_ => (h 49) (7 + z_)) (h 48) (nI x_) n) / (h 44 x_)) k), .ref 43, .int (h 45 k + (h 45 k) * (loadS (h 49) (fun z_ => (h 49) (7 + z_)) (h 48) (nI k) n) / (h 44 k))], S0 L, h)) rfl ?_
      refine T_callR (S' := [.int (h 45 i_ + (h 45 i_) * (loadS (h 49) (fun z_ => (h 49) (7 + z_)) (h 48) (nI i_) n) / (h 44 i_)), .int (h 45 k + (h 45 k) * (loadS (h 49) (fun z_ => (h 49) (7 + z_)) (h 48) (nI k) n) / (h 44 k))]) (h' := h) (r_X9_minutes (L := L) h i_ n hn h7 (by omega) (hs _ (by omega))) (by decide) rfl rfl rfl rfl (by simp only [List.take, List.reverse, List.reverseAux]; rw [e_]) rfl rfl ?_
      refine T_if (c := (h 45 k + (h 45 k) * (loadS (h 49) (fun z_ => (h 49) (7 + z_)) (h 48) (nI k) n) / (h 44 k)) ≤ (h 45 i_ + (h 45 i_) * (loadS (h 49) (fun z_ => (h 49) (7 + z_)) (h 48) (nI i_) n) / (h 44 i_))) (t := 33) (f := 29) (L := [.ref 43, .int (lastS (fun x_ => h 45 x_ + (h 45 x_) * (loadS (h 49) (fun z_ => (h 49) (7 + z_)) (h 48) (nI x_) n) / (h 44 x_)) k), .int (nI k)]) (S := []) (G := S0 L) (h := h) rfl (fun q26 => ?_) (fun q26 => ?_)
      · refine T_run 4 (st' := (4, [.ref 43, .int (lastS (fun x_ => h 45 x_ + (h 45 x_) * (loadS (h 49) (fun z_ => (h 49) (7 + z_)) (h 48) (nI x_) n) / (h 44 x_)) k), .int (nI k + 1)], [], S0 L, h)) rfl ?_
        exact T_st (by rw [nI_1]; simp only [lastS]; first | (rw [if_pos (Or.inl q13)]; done) | (rw [if_pos (Or.inr (by rw [e_, nI_clamp (by omega)]; exact q26))]; done) | (rw [if_neg (by rw [e_, nI_clamp (by omega)]; rintro (z | z); exact nI_pos (by omega) z; exact z q26)]; done)) ih
      · refine T_run 5 (st' := (4, [.ref 43, .int (nI k), .int (nI k + 1)], [], S0 L, h)) rfl ?_
        exact T_st (by rw [nI_1]; simp only [lastS]; first | (rw [if_pos (Or.inl q13)]; done) | (rw [if_pos (Or.inr (by rw [e_, nI_clamp (by omega)]; exact q26))]; done) | (rw [if_neg (by rw [e_, nI_clamp (by omega)]; rintro (z | z); exact nI_pos (by omega) z; exact z q26)]; done)) ih
  · skip
    refine T_run 3 (st' := (9, [.ref 43, .int (lastS (fun x_ => h 45 x_ + (h 45 x_) * (loadS (h 49) (fun z_ => (h 49) (7 + z_)) (h 48) (nI x_) n) / (h 44 x_)) c0), .int (nI c0)], [.int (h 43 2), .int (nI c0)], S0 L, h)) rfl ?_
    refine T_iftP (c := (h 43 2) ≤ (nI c0)) (P := c0 ≤ c0) (t := 41) (f := 12) (L := [.ref 43, .int (lastS (fun x_ => h 45 x_ + (h 45 x_) * (loadS (h 49) (fun z_ => (h 49) (7 + z_)) (h 48) (nI x_) n) / (h 44 x_)) c0), .int (nI c0)]) (S := []) (G := S0 L) (h := h) rfl (nI_leE hc rfl (by omega) (by omega)) (by omega) ?_
    refine T_run 1 (st' := (42, [.ref 43, .int (lastS (fun x_ => h 45 x_ + (h 45 x_) * (loadS (h 49) (fun z_ => (h 49) (7 + z_)) (h 48) (nI x_) n) / (h 44 x_)) c0), .int (nI c0)], [.int (lastS (fun x_ => h 45 x_ + (h 45 x_) * (loadS (h 49) (fun z_ => (h 49) (7 + z_)) (h 48) (nI x_) n) / (h 44 x_)) c0)], S0 L, h)) rfl ?_
    exact T_retR rfl rfl rfl rfl
theorem r_X9_told_0 {L : Nat} (h : AH) (x : Int32)  (hx : x = nI 0) : Rt L 4 143 [.ref 43, .int x] h (some (h 43 1)) h := by
  refine T_run 1 (st' := (1, [.ref 43, .int x], [.int x], S0 L, h)) rfl ?_
  refine T_tswI (lo := 0) (i := 0) (t := 72) rfl hx rfl (by decide) ?_
  refine T_run 2 (st' := (76, [.ref 43, .int x], [.int (h 43 1)], S0 L, h)) rfl ?_
  exact T_retR rfl rfl rfl rfl
theorem r_X9_told_1 {L : Nat} (h : AH) (x : Int32)  (hx : x = nI 1) : Rt L 4 143 [.ref 43, .int x] h (some (h 43 2)) h := by
  refine T_run 1 (st' := (1, [.ref 43, .int x], [.int x], S0 L, h)) rfl ?_
  refine T_tswI (lo := 0) (i := 1) (t := 77) rfl hx rfl (by decide) ?_
  refine T_run 2 (st' := (81, [.ref 43, .int x], [.int (h 43 2)], S0 L, h)) rfl ?_
  exact T_retR rfl rfl rfl rfl
theorem r_X9_told_2 {L : Nat} (h : AH) (x : Int32)  (hx : x = nI 2) : Rt L 4 143 [.ref 43, .int x] h (some (h 43 6)) h := by
  refine T_run 1 (st' := (1, [.ref 43, .int x], [.int x], S0 L, h)) rfl ?_
  refine T_tswI (lo := 0) (i := 2) (t := 82) rfl hx rfl (by decide) ?_
  refine T_run 2 (st' := (86, [.ref 43, .int x], [.int (h 43 6)], S0 L, h)) rfl ?_
  exact T_retR rfl rfl rfl rfl
theorem r_X9_told_3 {L : Nat} (h : AH) (x : Int32)  (hx : x = nI 3) : Rt L 4 143 [.ref 43, .int x] h (some (h 43 12)) h := by
  refine T_run 1 (st' := (1, [.ref 43, .int x], [.int x], S0 L, h)) rfl ?_
  refine T_tswI (lo := 0) (i := 3) (t := 87) rfl hx rfl (by decide) ?_
  refine T_run 2 (st' := (91, [.ref 43, .int x], [.int (h 43 12)], S0 L, h)) rfl ?_
  exact T_retR rfl rfl rfl rfl
theorem r_X9_told_4 {L : Nat} (h : AH) (x : Int32)  (hx : x = nI 4) : Rt L 4 143 [.ref 43, .int x] h (some (h 49 14)) h := by
  refine T_run 1 (st' := (1, [.ref 43, .int x], [.int x], S0 L, h)) rfl ?_
  refine T_tswI (lo := 0) (i := 4) (t := 92) rfl hx rfl (by decide) ?_
  refine T_run 3 (st' := (98, [.ref 43, .int x], [.int 14, .ref 49], S0 L, h)) rfl ?_
  refine T_ald (n := 14) rfl rfl rfl (by decide) (by decide) rfl ?_
  exact T_retR rfl rfl rfl rfl
theorem r_X9_told_5 {L : Nat} (h : AH) (x : Int32)  (hx : x = nI 5) : Rt L 4 143 [.ref 43, .int x] h (some (h 49 15)) h := by
  refine T_run 1 (st' := (1, [.ref 43, .int x], [.int x], S0 L, h)) rfl ?_
  refine T_tswI (lo := 0) (i := 5) (t := 100) rfl hx rfl (by decide) ?_
  refine T_run 3 (st' := (106, [.ref 43, .int x], [.int 15, .ref 49], S0 L, h)) rfl ?_
  refine T_ald (n := 15) rfl rfl rfl (by decide) (by decide) rfl ?_
  exact T_retR rfl rfl rfl rfl
theorem r_X9_told_6 {L : Nat} (h : AH) (x : Int32)  (hx : x = nI 6) : Rt L 4 143 [.ref 43, .int x] h (some (h 49 16)) h := by
  refine T_run 1 (st' := (1, [.ref 43, .int x], [.int x], S0 L, h)) rfl ?_
  refine T_tswI (lo := 0) (i := 6) (t := 108) rfl hx rfl (by decide) ?_
  refine T_run 3 (st' := (114, [.ref 43, .int x], [.int 16, .ref 49], S0 L, h)) rfl ?_
  refine T_ald (n := 16) rfl rfl rfl (by decide) (by decide) rfl ?_
  exact T_retR rfl rfl rfl rfl
theorem r_X9_told_7 {L : Nat} (h : AH) (x : Int32) (n : Nat) (hn : h 43 6 = nI n) (h7 : n ≤ 7) (c0 : Nat) (hc : h 43 2 = nI c0) (h5 : c0 ≤ 5) (hs : ∀ i, i < c0 → ¬ h 44 i = 0) (hx : x = nI 7) : Rt L 4 143 [.ref 43, .int x] h (some (setS (fun y_ => decide (¬ loadS (h 49) (fun z_ => (h 49) (7 + z_)) (h 48) (nI y_) n ≤ (h 44) y_)) c0)) h := by
  refine T_run 1 (st' := (1, [.ref 43, .int x], [.int x], S0 L, h)) rfl ?_
  refine T_tswI (lo := 0) (i := 7) (t := 116) rfl hx rfl (by decide) ?_
  refine T_run 1 (st' := (117, [.ref 43, .int x], [.ref 43], S0 L, h)) rfl ?_
  refine T_callR (S' := [.int (setS (fun y_ => decide (¬ loadS (h 49) (fun z_ => (h 49) (7 + z_)) (h 48) (nI y_) n ≤ (h 44) y_)) c0)]) (h' := h) (r_X9_lamed (L := L) h  n hn h7 c0 hc h5) (by decide) rfl rfl rfl rfl rfl rfl rfl ?_
  exact T_retR rfl rfl rfl rfl
theorem r_X9_told_8 {L : Nat} (h : AH) (x : Int32)  (hx : x = nI 8) : Rt L 4 143 [.ref 43, .int x] h (some (sumS (fun i => (h 49) (17 + i)) 5)) h := by
  refine T_run 1 (st' := (1, [.ref 43, .int x], [.int x], S0 L, h)) rfl ?_
  refine T_tswI (lo := 0) (i := 8) (t := 121) rfl hx rfl (by decide) ?_
  refine T_run 1 (st' := (122, [.ref 43, .int x], [.ref 43], S0 L, h)) rfl ?_
  refine T_callR (S' := [.int (sumS (fun i => (h 49) (17 + i)) 5)]) (h' := h) (r_X9_lamedDays (L := L) h  ) (by decide) rfl rfl rfl rfl rfl rfl rfl ?_
  exact T_retR rfl rfl rfl rfl
theorem r_X9_told_9 {L : Nat} (h : AH) (x : Int32) (n : Nat) (hn : h 43 6 = nI n) (h7 : n ≤ 7) (c0 : Nat) (hc : h 43 2 = nI c0) (h5 : c0 ≤ 5) (hs : ∀ i, i < c0 → ¬ h 44 i = 0) (hx : x = nI 9) : Rt L 4 143 [.ref 43, .int x] h (some (setS (fun y_ => decide (¬ loadS (h 49) (fun z_ => (h 49) (7 + z_)) (h 48) (nI y_) n - (ownS (h 49) (fun z_ => (h 49) (7 + z_)) (h 47) (h 48) (nI y_) n) ≤ ownS (h 49) (fun z_ => (h 49) (7 + z_)) (h 47) (h 48) (nI y_) n)) c0)) h := by
  refine T_run 1 (st' := (1, [.ref 43, .int x], [.int x], S0 L, h)) rfl ?_
  refine T_tswI (lo := 0) (i := 9) (t := 126) rfl hx rfl (by decide) ?_
  refine T_run 1 (st' := (127, [.ref 43, .int x], [.ref 43], S0 L, h)) rfl ?_
  refine T_callR (S' := [.int (setS (fun y_ => decide (¬ loadS (h 49) (fun z_ => (h 49) (7 + z_)) (h 48) (nI y_) n - (ownS (h 49) (fun z_ => (h 49) (7 + z_)) (h 47) (h 48) (nI y_) n) ≤ ownS (h 49) (fun z_ => (h 49) (7 + z_)) (h 47) (h 48) (nI y_) n)) c0)]) (h' := h) (r_X9_made (L := L) h  n hn h7 c0 hc h5) (by decide) rfl rfl rfl rfl rfl rfl rfl ?_
  exact T_retR rfl rfl rfl rfl
theorem r_X9_told_10 {L : Nat} (h : AH) (x : Int32) (n : Nat) (hn : h 43 6 = nI n) (h7 : n ≤ 7) (c0 : Nat) (hc : h 43 2 = nI c0) (h5 : c0 ≤ 5) (hs : ∀ i, i < c0 → ¬ h 44 i = 0) (hx : x = nI 10) : Rt L 4 143 [.ref 43, .int x] h (some (lastS (fun x_ => h 45 x_ + (h 45 x_) * (loadS (h 49) (fun z_ => (h 49) (7 + z_)) (h 48) (nI x_) n) / (h 44 x_)) c0)) h := by
  refine T_run 1 (st' := (1, [.ref 43, .int x], [.int x], S0 L, h)) rfl ?_
  refine T_tswI (lo := 0) (i := 10) (t := 131) rfl hx rfl (by decide) ?_
  refine T_run 1 (st' := (132, [.ref 43, .int x], [.ref 43], S0 L, h)) rfl ?_
  refine T_callR (S' := [.int (lastS (fun x_ => h 45 x_ + (h 45 x_) * (loadS (h 49) (fun z_ => (h 49) (7 + z_)) (h 48) (nI x_) n) / (h 44 x_)) c0)]) (h' := h) (r_X9_lastHome (L := L) h  n hn h7 c0 hc h5 hs) (by decide) rfl rfl rfl rfl rfl rfl rfl ?_
  exact T_retR rfl rfl rfl rfl
theorem r_X9_told_11 {L : Nat} (h : AH) (x : Int32)  (hx : x = nI 11) : Rt L 4 143 [.ref 43, .int x] h (some (h 43 32)) h := by
  refine T_run 1 (st' := (1, [.ref 43, .int x], [.int x], S0 L, h)) rfl ?_
  refine T_tswI (lo := 0) (i := 11) (t := 136) rfl hx rfl (by decide) ?_
  refine T_run 2 (st' := (140, [.ref 43, .int x], [.int (h 43 32)], S0 L, h)) rfl ?_
  exact T_retR rfl rfl rfl rfl
theorem r_X9_told_12 {L : Nat} (h : AH) (x : Int32)  (hx : x = nI 12) : Rt L 4 143 [.ref 43, .int x] h (some (h 43 36)) h := by
  refine T_run 1 (st' := (1, [.ref 43, .int x], [.int x], S0 L, h)) rfl ?_
  refine T_tswI (lo := 0) (i := 12) (t := 141) rfl hx rfl (by decide) ?_
  refine T_run 2 (st' := (145, [.ref 43, .int x], [.int (h 43 36)], S0 L, h)) rfl ?_
  exact T_retR rfl rfl rfl rfl
theorem r_X9_told_13 {L : Nat} (h : AH) (x : Int32)  (hx : x = nI 13) : Rt L 4 143 [.ref 43, .int x] h (some (h 43 26)) h := by
  refine T_run 1 (st' := (1, [.ref 43, .int x], [.int x], S0 L, h)) rfl ?_
  refine T_tswI (lo := 0) (i := 13) (t := 146) rfl hx rfl (by decide) ?_
  refine T_run 2 (st' := (150, [.ref 43, .int x], [.int (h 43 26)], S0 L, h)) rfl ?_
  exact T_retR rfl rfl rfl rfl
theorem r_X9_told_out {L : Nat} (h : AH) (x : Int32) (hx : ∀ i, i < 14 → ¬ x = nI (0 + i)) : Rt L 4 143 [.ref 43, .int x] h (some (-1000000002)) h := by
  refine T_run 1 (st' := (1, [.ref 43, .int x], [.int x], S0 L, h)) rfl ?_
  refine T_tswD (lo := 0) (ts := [72, 77, 82, 87, 92, 100, 108, 116, 121, 126, 131, 136, 141, 146]) (dd := 151) rfl hx (by decide) ?_
  refine T_run 1 (st' := (153, [.ref 43, .int x], [.int (-1000000002)], S0 L, h)) rfl ?_
  exact T_retR rfl rfl rfl rfl
theorem r_X9_child_unk {L : Nat} (h : AH) (x : Int32) (y : Int32) (c0 : Nat) (hc : h 43 2 = nI c0) (h5 : c0 ≤ 5) (hx : ¬ inS x c0) : Rt L 3 144 [.ref 43, .int x, .int y] h (some (-1000000001)) h := by
  refine T_run 2 (st' := (2, [.ref 43, .int x, .int y], [.int x, .ref 43], S0 L, h)) rfl ?_
  refine T_callR (S' := [.int (b2i (inS x c0))]) (h' := h) (r_X9_isChild (L := L) h x c0 hc h5) (by decide) rfl rfl rfl rfl rfl rfl rfl ?_
  refine T_iff (c := ¬ (b2i (inS x c0)) = 0) (t := 11) (f := 8) (L := [.ref 43, .int x, .int y]) (S := []) (G := S0 L) (h := h) rfl (bnz_f hx) ?_
  refine T_run 1 (st' := (10, [.ref 43, .int x, .int y], [.int (-1000000001)], S0 L, h)) rfl ?_
  exact T_retR rfl rfl rfl rfl
theorem r_X9_child_0 {L : Nat} (h : AH) (c : Nat) (y : Int32) (n : Nat) (hn : h 43 6 = nI n) (h7 : n ≤ 7) (c0 : Nat) (hc : h 43 2 = nI c0) (h5 : c0 ≤ 5) (hs : ∀ i, i < c0 → ¬ h 44 i = 0) (hcc : c < c0) (hy : y = nI 0) : Rt L 3 144 [.ref 43, .int (nI c), .int y] h (some (h 44 c)) h := by
  refine T_run 2 (st' := (2, [.ref 43, .int (nI c), .int y], [.int (nI c), .ref 43], S0 L, h)) rfl ?_
  refine T_callR (S' := [.int (b2i (inS (nI c) c0))]) (h' := h) (r_X9_isChild (L := L) h (nI c) c0 hc h5) (by decide) rfl rfl rfl rfl rfl rfl rfl ?_
  refine T_ift (c := ¬ (b2i (inS (nI c) c0)) = 0) (t := 11) (f := 8) (L := [.ref 43, .int (nI c), .int y]) (S := []) (G := S0 L) (h := h) rfl (bz_t (inS_nat hcc (by omega))) ?_
  refine T_run 1 (st' := (12, [.ref 43, .int (nI c), .int y], [.int y], S0 L, h)) rfl ?_
  refine T_tswI (lo := 0) (i := 0) (t := 60) rfl hy rfl (by decide) ?_
  refine T_run 3 (st' := (65, [.ref 43, .int (nI c), .int y], [.int (nI c), .ref 44], S0 L, h)) rfl ?_
  refine T_ald (n := c) rfl rfl rfl (by omega) (by decide) rfl ?_
  exact T_retR rfl rfl rfl rfl
theorem r_X9_child_1 {L : Nat} (h : AH) (c : Nat) (y : Int32) (n : Nat) (hn : h 43 6 = nI n) (h7 : n ≤ 7) (c0 : Nat) (hc : h 43 2 = nI c0) (h5 : c0 ≤ 5) (hs : ∀ i, i < c0 → ¬ h 44 i = 0) (hcc : c < c0) (hy : y = nI 1) : Rt L 3 144 [.ref 43, .int (nI c), .int y] h (some (h 45 c)) h := by
  refine T_run 2 (st' := (2, [.ref 43, .int (nI c), .int y], [.int (nI c), .ref 43], S0 L, h)) rfl ?_
  refine T_callR (S' := [.int (b2i (inS (nI c) c0))]) (h' := h) (r_X9_isChild (L := L) h (nI c) c0 hc h5) (by decide) rfl rfl rfl rfl rfl rfl rfl ?_
  refine T_ift (c := ¬ (b2i (inS (nI c) c0)) = 0) (t := 11) (f := 8) (L := [.ref 43, .int (nI c), .int y]) (S := []) (G := S0 L) (h := h) rfl (bz_t (inS_nat hcc (by omega))) ?_
  refine T_run 1 (st' := (12, [.ref 43, .int (nI c), .int y], [.int y], S0 L, h)) rfl ?_
  refine T_tswI (lo := 0) (i := 1) (t := 67) rfl hy rfl (by decide) ?_
  refine T_run 3 (st' := (72, [.ref 43, .int (nI c), .int y], [.int (nI c), .ref 45], S0 L, h)) rfl ?_
  refine T_ald (n := c) rfl rfl rfl (by omega) (by decide) rfl ?_
  exact T_retR rfl rfl rfl rfl
theorem r_X9_child_2 {L : Nat} (h : AH) (c : Nat) (y : Int32) (n : Nat) (hn : h 43 6 = nI n) (h7 : n ≤ 7) (c0 : Nat) (hc : h 43 2 = nI c0) (h5 : c0 ≤ 5) (hs : ∀ i, i < c0 → ¬ h 44 i = 0) (hcc : c < c0) (hy : y = nI 2) : Rt L 3 144 [.ref 43, .int (nI c), .int y] h (some (loadS (h 49) (fun z_ => (h 49) (7 + z_)) (h 48) (nI c) n)) h := by
  refine T_run 2 (st' := (2, [.ref 43, .int (nI c), .int y], [.int (nI c), .ref 43], S0 L, h)) rfl ?_
  refine T_callR (S' := [.int (b2i (inS (nI c) c0))]) (h' := h) (r_X9_isChild (L := L) h (nI c) c0 hc h5) (by decide) rfl rfl rfl rfl rfl rfl rfl ?_
  refine T_ift (c := ¬ (b2i (inS (nI c) c0)) = 0) (t := 11) (f := 8) (L := [.ref 43, .int (nI c), .int y]) (S := []) (G := S0 L) (h := h) rfl (bz_t (inS_nat hcc (by omega))) ?_
  refine T_run 1 (st' := (12, [.ref 43, .int (nI c), .int y], [.int y], S0 L, h)) rfl ?_
  refine T_tswI (lo := 0) (i := 2) (t := 74) rfl hy rfl (by decide) ?_
  refine T_run 2 (st' := (76, [.ref 43, .int (nI c), .int y], [.int (nI c), .ref 43], S0 L, h)) rfl ?_
  refine T_callR (S' := [.int (loadS (h 49) (fun z_ => (h 49) (7 + z_)) (h 48) (nI c) n)]) (h' := h) (r_X9_load (L := L) h (nI c) n hn h7) (by decide) rfl rfl rfl rfl rfl rfl rfl ?_
  exact T_retR rfl rfl rfl rfl
theorem r_X9_child_3 {L : Nat} (h : AH) (c : Nat) (y : Int32) (n : Nat) (hn : h 43 6 = nI n) (h7 : n ≤ 7) (c0 : Nat) (hc : h 43 2 = nI c0) (h5 : c0 ≤ 5) (hs : ∀ i, i < c0 → ¬ h 44 i = 0) (hcc : c < c0) (hy : y = nI 3) : Rt L 3 144 [.ref 43, .int (nI c), .int y] h (some (h 45 c + (h 45 c) * (loadS (h 49) (fun z_ => (h 49) (7 + z_)) (h 48) (nI c) n) / (h 44 c))) h := by
  refine T_run 2 (st' := (2, [.ref 43, .int (nI c), .int y], [.int (nI c), .ref 43], S0 L, h)) rfl ?_
  refine T_callR (S' := [.int (b2i (inS (nI c) c0))]) (h' := h) (r_X9_isChild (L := L) h (nI c) c0 hc h5) (by decide) rfl rfl rfl rfl rfl rfl rfl ?_
  refine T_ift (c := ¬ (b2i (inS (nI c) c0)) = 0) (t := 11) (f := 8) (L := [.ref 43, .int (nI c), .int y]) (S := []) (G := S0 L) (h := h) rfl (bz_t (inS_nat hcc (by omega))) ?_
  refine T_run 1 (st' := (12, [.ref 43, .int (nI c), .int y], [.int y], S0 L, h)) rfl ?_
  refine T_tswI (lo := 0) (i := 3) (t := 80) rfl hy rfl (by decide) ?_
  refine T_run 2 (st' := (82, [.ref 43, .int (nI c), .int y], [.int (nI c), .ref 43], S0 L, h)) rfl ?_
  refine T_callR (S' := [.int (h 45 c + (h 45 c) * (loadS (h 49) (fun z_ => (h 49) (7 + z_)) (h 48) (nI c) n) / (h 44 c))]) (h' := h) (r_X9_minutes (L := L) h c n hn h7 (by omega) (hs _ (by omega))) (by decide) rfl rfl rfl rfl rfl rfl rfl ?_
  exact T_retR rfl rfl rfl rfl
theorem r_X9_child_4 {L : Nat} (h : AH) (c : Nat) (y : Int32) (n : Nat) (hn : h 43 6 = nI n) (h7 : n ≤ 7) (c0 : Nat) (hc : h 43 2 = nI c0) (h5 : c0 ≤ 5) (hs : ∀ i, i < c0 → ¬ h 44 i = 0) (hcc : c < c0) (hy : y = nI 4) : Rt L 3 144 [.ref 43, .int (nI c), .int y] h (some (setS (fun z_ => decide ((h 49) z_ = 1 ∧ (h 49) (7 + z_) = (nI c))) n)) h := by
  refine T_run 2 (st' := (2, [.ref 43, .int (nI c), .int y], [.int (nI c), .ref 43], S0 L, h)) rfl ?_
  refine T_callR (S' := [.int (b2i (inS (nI c) c0))]) (h' := h) (r_X9_isChild (L := L) h (nI c) c0 hc h5) (by decide) rfl rfl rfl rfl rfl rfl rfl ?_
  refine T_ift (c := ¬ (b2i (inS (nI c) c0)) = 0) (t := 11) (f := 8) (L := [.ref 43, .int (nI c), .int y]) (S := []) (G := S0 L) (h := h) rfl (bz_t (inS_nat hcc (by omega))) ?_
  refine T_run 1 (st' := (12, [.ref 43, .int (nI c), .int y], [.int y], S0 L, h)) rfl ?_
  refine T_tswI (lo := 0) (i := 4) (t := 86) rfl hy rfl (by decide) ?_
  refine T_run 3 (st' := (89, [.ref 43, .int (nI c), .int y], [.int (nI c), .int 1, .ref 43], S0 L, h)) rfl ?_
  refine T_callR (S' := [.int (setS (fun z_ => decide ((h 49) z_ = 1 ∧ (h 49) (7 + z_) = (nI c))) n)]) (h' := h) (r_X9_deedsWith (L := L) h 1 (nI c) n hn h7) (by decide) rfl rfl rfl rfl rfl rfl rfl ?_
  exact T_retR rfl rfl rfl rfl
theorem r_X9_child_5 {L : Nat} (h : AH) (c : Nat) (y : Int32) (n : Nat) (hn : h 43 6 = nI n) (h7 : n ≤ 7) (c0 : Nat) (hc : h 43 2 = nI c0) (h5 : c0 ≤ 5) (hs : ∀ i, i < c0 → ¬ h 44 i = 0) (hcc : c < c0) (hy : y = nI 5) : Rt L 3 144 [.ref 43, .int (nI c), .int y] h (some (setS (fun z_ => decide ((h 49) z_ = 3 ∧ (h 49) (7 + z_) = (nI c))) n)) h := by
  refine T_run 2 (st' := (2, [.ref 43, .int (nI c), .int y], [.int (nI c), .ref 43], S0 L, h)) rfl ?_
  refine T_callR (S' := [.int (b2i (inS (nI c) c0))]) (h' := h) (r_X9_isChild (L := L) h (nI c) c0 hc h5) (by decide) rfl rfl rfl rfl rfl rfl rfl ?_
  refine T_ift (c := ¬ (b2i (inS (nI c) c0)) = 0) (t := 11) (f := 8) (L := [.ref 43, .int (nI c), .int y]) (S := []) (G := S0 L) (h := h) rfl (bz_t (inS_nat hcc (by omega))) ?_
  refine T_run 1 (st' := (12, [.ref 43, .int (nI c), .int y], [.int y], S0 L, h)) rfl ?_
  refine T_tswI (lo := 0) (i := 5) (t := 93) rfl hy rfl (by decide) ?_
  refine T_run 3 (st' := (96, [.ref 43, .int (nI c), .int y], [.int (nI c), .int 3, .ref 43], S0 L, h)) rfl ?_
  refine T_callR (S' := [.int (setS (fun z_ => decide ((h 49) z_ = 3 ∧ (h 49) (7 + z_) = (nI c))) n)]) (h' := h) (r_X9_deedsWith (L := L) h 3 (nI c) n hn h7) (by decide) rfl rfl rfl rfl rfl rfl rfl ?_
  exact T_retR rfl rfl rfl rfl
theorem r_X9_child_6 {L : Nat} (h : AH) (c : Nat) (y : Int32) (n : Nat) (hn : h 43 6 = nI n) (h7 : n ≤ 7) (c0 : Nat) (hc : h 43 2 = nI c0) (h5 : c0 ≤ 5) (hs : ∀ i, i < c0 → ¬ h 44 i = 0) (hcc : c < c0) (hy : y = nI 6) : Rt L 3 144 [.ref 43, .int (nI c), .int y] h (some (h 49 (17 + c))) h := by
  refine T_run 2 (st' := (2, [.ref 43, .int (nI c), .int y], [.int (nI c), .ref 43], S0 L, h)) rfl ?_
  refine T_callR (S' := [.int (b2i (inS (nI c) c0))]) (h' := h) (r_X9_isChild (L := L) h (nI c) c0 hc h5) (by decide) rfl rfl rfl rfl rfl rfl rfl ?_
  refine T_ift (c := ¬ (b2i (inS (nI c) c0)) = 0) (t := 11) (f := 8) (L := [.ref 43, .int (nI c), .int y]) (S := []) (G := S0 L) (h := h) rfl (bz_t (inS_nat hcc (by omega))) ?_
  refine T_run 1 (st' := (12, [.ref 43, .int (nI c), .int y], [.int y], S0 L, h)) rfl ?_
  refine T_tswI (lo := 0) (i := 6) (t := 100) rfl hy rfl (by decide) ?_
  refine T_run 5 (st' := (108, [.ref 43, .int (nI c), .int y], [.int (17 + (nI c)), .ref 49], S0 L, h)) rfl ?_
  refine T_ald (n := 17 + c) rfl rfl (nI_addE rfl rfl) (by omega) (by decide) rfl ?_
  exact T_retR rfl rfl rfl rfl
theorem r_X9_child_7 {L : Nat} (h : AH) (c : Nat) (y : Int32) (n : Nat) (hn : h 43 6 = nI n) (h7 : n ≤ 7) (c0 : Nat) (hc : h 43 2 = nI c0) (h5 : c0 ≤ 5) (hs : ∀ i, i < c0 → ¬ h 44 i = 0) (hcc : c < c0) (hy : y = nI 7) : Rt L 3 144 [.ref 43, .int (nI c), .int y] h (some (h 46 c)) h := by
  refine T_run 2 (st' := (2, [.ref 43, .int (nI c), .int y], [.int (nI c), .ref 43], S0 L, h)) rfl ?_
  refine T_callR (S' := [.int (b2i (inS (nI c) c0))]) (h' := h) (r_X9_isChild (L := L) h (nI c) c0 hc h5) (by decide) rfl rfl rfl rfl rfl rfl rfl ?_
  refine T_ift (c := ¬ (b2i (inS (nI c) c0)) = 0) (t := 11) (f := 8) (L := [.ref 43, .int (nI c), .int y]) (S := []) (G := S0 L) (h := h) rfl (bz_t (inS_nat hcc (by omega))) ?_
  refine T_run 1 (st' := (12, [.ref 43, .int (nI c), .int y], [.int y], S0 L, h)) rfl ?_
  refine T_tswI (lo := 0) (i := 7) (t := 110) rfl hy rfl (by decide) ?_
  refine T_run 3 (st' := (115, [.ref 43, .int (nI c), .int y], [.int (nI c), .ref 46], S0 L, h)) rfl ?_
  refine T_ald (n := c) rfl rfl rfl (by omega) (by decide) rfl ?_
  exact T_retR rfl rfl rfl rfl
theorem r_X9_child_out {L : Nat} (h : AH) (c : Nat) (y : Int32) (c0 : Nat) (hc : h 43 2 = nI c0) (h5 : c0 ≤ 5) (hcc : c < c0) (hy : ∀ i, i < 8 → ¬ y = nI (0 + i)) : Rt L 3 144 [.ref 43, .int (nI c), .int y] h (some (-1000000002)) h := by
  refine T_run 2 (st' := (2, [.ref 43, .int (nI c), .int y], [.int (nI c), .ref 43], S0 L, h)) rfl ?_
  refine T_callR (S' := [.int (b2i (inS (nI c) c0))]) (h' := h) (r_X9_isChild (L := L) h (nI c) c0 hc h5) (by decide) rfl rfl rfl rfl rfl rfl rfl ?_
  refine T_ift (c := ¬ (b2i (inS (nI c) c0)) = 0) (t := 11) (f := 8) (L := [.ref 43, .int (nI c), .int y]) (S := []) (G := S0 L) (h := h) rfl (bz_t (inS_nat hcc (by omega))) ?_
  refine T_run 1 (st' := (12, [.ref 43, .int (nI c), .int y], [.int y], S0 L, h)) rfl ?_
  refine T_tswD (lo := 0) (ts := [60, 67, 74, 80, 86, 93, 100, 110]) (dd := 117) rfl hy (by decide) ?_
  refine T_run 1 (st' := (119, [.ref 43, .int (nI c), .int y], [.int (-1000000002)], S0 L, h)) rfl ?_
  exact T_retR rfl rfl rfl rfl
theorem r_X9_deed_unk {L : Nat} (h : AH) (x : Int32) (y : Int32) (n : Nat) (hn : h 43 6 = nI n) (h7 : n ≤ 7) (hx : ¬ inS x n) : Rt L 2 145 [.ref 43, .int x, .int y] h (some (-1000000001)) h := by
  refine T_run 2 (st' := (2, [.ref 43, .int x, .int y], [.int x, .ref 43], S0 L, h)) rfl ?_
  refine T_callR (S' := [.int (b2i (inS x n))]) (h' := h) (r_X9_isDeed (L := L) h x n hn h7) (by decide) rfl rfl rfl rfl rfl rfl rfl ?_
  refine T_iff (c := ¬ (b2i (inS x n)) = 0) (t := 11) (f := 8) (L := [.ref 43, .int x, .int y]) (S := []) (G := S0 L) (h := h) rfl (bnz_f hx) ?_
  refine T_run 1 (st' := (10, [.ref 43, .int x, .int y], [.int (-1000000001)], S0 L, h)) rfl ?_
  exact T_retR rfl rfl rfl rfl
theorem r_X9_deed_0 {L : Nat} (h : AH) (d : Nat) (y : Int32) (n : Nat) (hn : h 43 6 = nI n) (h7 : n ≤ 7) (hd : d < n) (hy : y = nI 0) : Rt L 2 145 [.ref 43, .int (nI d), .int y] h (some (h 47 d)) h := by
  refine T_run 2 (st' := (2, [.ref 43, .int (nI d), .int y], [.int (nI d), .ref 43], S0 L, h)) rfl ?_
  refine T_callR (S' := [.int (b2i (inS (nI d) n))]) (h' := h) (r_X9_isDeed (L := L) h (nI d) n hn h7) (by decide) rfl rfl rfl rfl rfl rfl rfl ?_
  refine T_ift (c := ¬ (b2i (inS (nI d) n)) = 0) (t := 11) (f := 8) (L := [.ref 43, .int (nI d), .int y]) (S := []) (G := S0 L) (h := h) rfl (bz_t (inS_nat hd (by omega))) ?_
  refine T_run 1 (st' := (12, [.ref 43, .int (nI d), .int y], [.int y], S0 L, h)) rfl ?_
  refine T_tswI (lo := 0) (i := 0) (t := 44) rfl hy rfl (by decide) ?_
  refine T_run 3 (st' := (49, [.ref 43, .int (nI d), .int y], [.int (nI d), .ref 47], S0 L, h)) rfl ?_
  refine T_ald (n := d) rfl rfl rfl (by omega) (by decide) rfl ?_
  exact T_retR rfl rfl rfl rfl
theorem r_X9_deed_1 {L : Nat} (h : AH) (d : Nat) (y : Int32) (n : Nat) (hn : h 43 6 = nI n) (h7 : n ≤ 7) (hd : d < n) (hy : y = nI 1) : Rt L 2 145 [.ref 43, .int (nI d), .int y] h (some (h 48 d)) h := by
  refine T_run 2 (st' := (2, [.ref 43, .int (nI d), .int y], [.int (nI d), .ref 43], S0 L, h)) rfl ?_
  refine T_callR (S' := [.int (b2i (inS (nI d) n))]) (h' := h) (r_X9_isDeed (L := L) h (nI d) n hn h7) (by decide) rfl rfl rfl rfl rfl rfl rfl ?_
  refine T_ift (c := ¬ (b2i (inS (nI d) n)) = 0) (t := 11) (f := 8) (L := [.ref 43, .int (nI d), .int y]) (S := []) (G := S0 L) (h := h) rfl (bz_t (inS_nat hd (by omega))) ?_
  refine T_run 1 (st' := (12, [.ref 43, .int (nI d), .int y], [.int y], S0 L, h)) rfl ?_
  refine T_tswI (lo := 0) (i := 1) (t := 51) rfl hy rfl (by decide) ?_
  refine T_run 3 (st' := (56, [.ref 43, .int (nI d), .int y], [.int (nI d), .ref 48], S0 L, h)) rfl ?_
  refine T_ald (n := d) rfl rfl rfl (by omega) (by decide) rfl ?_
  exact T_retR rfl rfl rfl rfl
theorem r_X9_deed_2 {L : Nat} (h : AH) (d : Nat) (y : Int32) (n : Nat) (hn : h 43 6 = nI n) (h7 : n ≤ 7) (hd : d < n) (hy : y = nI 2) : Rt L 2 145 [.ref 43, .int (nI d), .int y] h (some (h 49 d)) h := by
  refine T_run 2 (st' := (2, [.ref 43, .int (nI d), .int y], [.int (nI d), .ref 43], S0 L, h)) rfl ?_
  refine T_callR (S' := [.int (b2i (inS (nI d) n))]) (h' := h) (r_X9_isDeed (L := L) h (nI d) n hn h7) (by decide) rfl rfl rfl rfl rfl rfl rfl ?_
  refine T_ift (c := ¬ (b2i (inS (nI d) n)) = 0) (t := 11) (f := 8) (L := [.ref 43, .int (nI d), .int y]) (S := []) (G := S0 L) (h := h) rfl (bz_t (inS_nat hd (by omega))) ?_
  refine T_run 1 (st' := (12, [.ref 43, .int (nI d), .int y], [.int y], S0 L, h)) rfl ?_
  refine T_tswI (lo := 0) (i := 2) (t := 58) rfl hy rfl (by decide) ?_
  refine T_run 3 (st' := (63, [.ref 43, .int (nI d), .int y], [.int (nI d), .ref 49], S0 L, h)) rfl ?_
  refine T_ald (n := d) rfl rfl rfl (by omega) (by decide) rfl ?_
  exact T_retR rfl rfl rfl rfl
theorem r_X9_deed_3 {L : Nat} (h : AH) (d : Nat) (y : Int32) (n : Nat) (hn : h 43 6 = nI n) (h7 : n ≤ 7) (hd : d < n) (hy : y = nI 3) : Rt L 2 145 [.ref 43, .int (nI d), .int y] h (some (h 49 (7 + d))) h := by
  refine T_run 2 (st' := (2, [.ref 43, .int (nI d), .int y], [.int (nI d), .ref 43], S0 L, h)) rfl ?_
  refine T_callR (S' := [.int (b2i (inS (nI d) n))]) (h' := h) (r_X9_isDeed (L := L) h (nI d) n hn h7) (by decide) rfl rfl rfl rfl rfl rfl rfl ?_
  refine T_ift (c := ¬ (b2i (inS (nI d) n)) = 0) (t := 11) (f := 8) (L := [.ref 43, .int (nI d), .int y]) (S := []) (G := S0 L) (h := h) rfl (bz_t (inS_nat hd (by omega))) ?_
  refine T_run 1 (st' := (12, [.ref 43, .int (nI d), .int y], [.int y], S0 L, h)) rfl ?_
  refine T_tswI (lo := 0) (i := 3) (t := 65) rfl hy rfl (by decide) ?_
  refine T_run 5 (st' := (73, [.ref 43, .int (nI d), .int y], [.int (7 + (nI d)), .ref 49], S0 L, h)) rfl ?_
  refine T_ald (n := 7 + d) rfl rfl (nI_addE rfl rfl) (by omega) (by decide) rfl ?_
  exact T_retR rfl rfl rfl rfl
theorem r_X9_deed_out {L : Nat} (h : AH) (d : Nat) (y : Int32) (n : Nat) (hn : h 43 6 = nI n) (h7 : n ≤ 7) (hd : d < n) (hy : ∀ i, i < 4 → ¬ y = nI (0 + i)) : Rt L 2 145 [.ref 43, .int (nI d), .int y] h (some (-1000000002)) h := by
  refine T_run 2 (st' := (2, [.ref 43, .int (nI d), .int y], [.int (nI d), .ref 43], S0 L, h)) rfl ?_
  refine T_callR (S' := [.int (b2i (inS (nI d) n))]) (h' := h) (r_X9_isDeed (L := L) h (nI d) n hn h7) (by decide) rfl rfl rfl rfl rfl rfl rfl ?_
  refine T_ift (c := ¬ (b2i (inS (nI d) n)) = 0) (t := 11) (f := 8) (L := [.ref 43, .int (nI d), .int y]) (S := []) (G := S0 L) (h := h) rfl (bz_t (inS_nat hd (by omega))) ?_
  refine T_run 1 (st' := (12, [.ref 43, .int (nI d), .int y], [.int y], S0 L, h)) rfl ?_
  refine T_tswD (lo := 0) (ts := [44, 51, 58, 65]) (dd := 75) rfl hy (by decide) ?_
  refine T_run 1 (st' := (77, [.ref 43, .int (nI d), .int y], [.int (-1000000002)], S0 L, h)) rfl ?_
  exact T_retR rfl rfl rfl rfl
theorem r_X9_judge {L : Nat} (h : AH)  (n : Nat) (hn : h 43 6 = nI n) (h7 : n ≤ 7) (m : Nat) (hm : h 43 36 = nI m) (hm15 : m ≤ 15) : Rt L 2 182 [.ref 43] h (some (findS (fun t_ => decide (¬ loadS (h 49) (fun z_ => (h 49) (7 + z_)) (h 48) (h 64 t_) n = h 65 t_)) m 0)) h := by
  refine T_run 2 (st' := (2, [.ref 43, .int 0], [], S0 L, h)) rfl ?_
  refine T_loopI (fun k => (2, [.ref 43, .int (nI k)], [], S0 L, h)) (fun k => findS (fun t_ => decide (¬ loadS (h 49) (fun z_ => (h 49) (7 + z_)) (h 48) (h 64 t_) n = h 65 t_)) m 0 = findS (fun t_ => decide (¬ loadS (h 49) (fun z_ => (h 49) (7 + z_)) (h 48) (h 64 t_) n = h 65 t_)) (m - k) k) m rfl ?_ ?_
  · intro k hk hI ih
    refine T_run 3 (st' := (7, [.ref 43, .int (nI k)], [.int (h 43 36), .int (nI k)], S0 L, h)) rfl ?_
    refine T_iffP (c := (h 43 36) ≤ (nI k)) (P := m ≤ k) (t := 37) (f := 10) (L := [.ref 43, .int (nI k)]) (S := []) (G := S0 L) (h := h) rfl (nI_leE hm rfl (by omega) (by omega)) (by omega) ?_
    refine T_run 4 (st' := (16, [.ref 43, .int (nI k)], [.int (nI k), .ref 64, .ref 43], S0 L, h)) rfl ?_
    refine T_ald (n := k) rfl rfl rfl (by omega) (by decide) rfl ?_
    refine T_callR (S' := [.int (loadS (h 49) (fun z_ => (h 49) (7 + z_)) (h 48) (h 64 k) n)]) (h' := h) (r_X9_load (L := L) h (h 64 k) n hn h7) (by decide) rfl rfl rfl rfl rfl rfl rfl ?_
    refine T_run 3 (st' := (25, [.ref 43, .int (nI k)], [.int (nI k), .ref 65, .int (loadS (h 49) (fun z_ => (h 49) (7 + z_)) (h 48) (h 64 k) n)], S0 L, h)) rfl ?_
    refine T_ald (n := k) rfl rfl rfl (by omega) (by decide) rfl ?_
    refine T_if (c := (loadS (h 49) (fun z_ => (h 49) (7 + z_)) (h 48) (h 64 k) n) = (h 65 k)) (t := 31) (f := 29) (L := [.ref 43, .int (nI k)]) (S := []) (G := S0 L) (h := h) rfl (fun q26 => ?_) (fun q26 => ?_)
    · refine T_run 2 (st' := (2, [.ref 43, .int (nI k + 1)], [], S0 L, h)) rfl ?_
      exact T_st (by rw [nI_1]) (ih (hI.trans (findS_step hk (decide_eq_false (fun z => z q26)))))
    · refine T_run 1 (st' := (30, [.ref 43, .int (nI k)], [.int (nI k)], S0 L, h)) rfl ?_
      exact T_retR rfl rfl (by first | (rw [hI]; exact congrArg some (findS_hit hk (decide_eq_true q26)).symm) | (rw [hI]; exact congrArg some findS_end.symm)) rfl
  · intro hI
    refine T_run 3 (st' := (7, [.ref 43, .int (nI m)], [.int (h 43 36), .int (nI m)], S0 L, h)) rfl ?_
    refine T_iftP (c := (h 43 36) ≤ (nI m)) (P := m ≤ m) (t := 37) (f := 10) (L := [.ref 43, .int (nI m)]) (S := []) (G := S0 L) (h := h) rfl (nI_leE hm rfl (by omega) (by omega)) (by omega) ?_
    refine T_run 1 (st' := (38, [.ref 43, .int (nI m)], [.int (-1)], S0 L, h)) rfl ?_
    exact T_retR rfl rfl (by first | (rw [hI]; exact congrArg some (findS_hit hk (decide_eq_true q26)).symm) | (rw [hI]; exact congrArg some findS_end.symm)) rfl
theorem r_X9_lies {L : Nat} (h : AH) (c : Int32) (e : Int32) (n : Nat) (hn : h 43 6 = nI n) (h7 : n ≤ 7) : Rt L 1 178 [.ref 43, .int c, .int e] h (some (b2i (anyS (fun z_ => decide (((h 49) z_ = 3 ∧ (h 49) (7 + z_) = c) ∧ (h 47) z_ = e)) n = true))) h := by
  refine T_run 4 (st' := (5, [.ref 43, .int c, .int e, .int 0, .int 0], [], S0 L, h)) rfl ?_
  refine T_loop (fun k => (5, [.ref 43, .int c, .int e, .int (b2i (anyS (fun z_ => decide (((h 49) z_ = 3 ∧ (h 49) (7 + z_) = c) ∧ (h 47) z_ = e)) k = true)), .int (nI k)], [], S0 L, h)) n ?_ ?_
  · intro k hk ih
    refine T_run 3 (st' := (11, [.ref 43, .int c, .int e, .int (b2i (anyS (fun z_ => decide (((h 49) z_ = 3 ∧ (h 49) (7 + z_) = c) ∧ (h 47) z_ = e)) k = true)), .int (nI k)], [.int (h 43 6), .int (nI k)], S0 L, h)) rfl ?_
    refine T_iffP (c := (h 43 6) ≤ (nI k)) (P := n ≤ k) (t := 52) (f := 14) (L := [.ref 43, .int c, .int e, .int (b2i (anyS (fun z_ => decide (((h 49) z_ = 3 ∧ (h 49) (7 + z_) = c) ∧ (h 47) z_ = e)) k = true)), .int (nI k)]) (S := []) (G := S0 L) (h := h) rfl (nI_leE hn rfl (by omega) (by omega)) (by omega) ?_
    refine T_run 1 (st' := (15, [.ref 43, .int c, .int e, .int (b2i (anyS (fun z_ => decide (((h 49) z_ = 3 ∧ (h 49) (7 + z_) = c) ∧ (h 47) z_ = e)) k = true)), .int (nI k)], [.int (b2i (anyS (fun z_ => decide (((h 49) z_ = 3 ∧ (h 49) (7 + z_) = c) ∧ (h 47) z_ = e)) k = true))], S0 L, h)) rfl ?_
    refine T_ifnz (P := (anyS (fun z_ => decide (((h 49) z_ = 3 ∧ (h 49) (7 + z_) = c) ∧ (h 47) z_ = e)) k = true)) (t := 40) (f := 18) (L := [.ref 43, .int c, .int e, .int (b2i (anyS (fun z_ => decide (((h 49) z_ = 3 ∧ (h 49) (7 + z_) = c) ∧ (h 47) z_ = e)) k = true)), .int (nI k)]) (S := []) (G := S0 L) (h := h) rfl (fun q15 => ?_) (fun q15 => ?_)
    · refine T_run 5 (st' := (5, [.ref 43, .int c, .int e, .int 1, .int (nI k + 1)], [], S0 L, h)) rfl ?_
      exact T_st (by rw [nI_1]; first | rw [any_t1 q15] | rw [any_f q15 (decide_eq_false (fun z => q26 z.1))] | rw [any_f q15 (decide_eq_false (fun z => q37 z.2))] | rw [any_t2 (decide_eq_true ⟨q26, q37⟩)]) ih
    · refine T_run 4 (st' := (23, [.ref 43, .int c, .int e, .int (b2i (anyS (fun z_ => decide (((h 49) z_ = 3 ∧ (h 49) (7 + z_) = c) ∧ (h 47) z_ = e)) k = true)), .int (nI k)], [.int c, .int 3, .int (nI k), .ref 43], S0 L, h)) rfl ?_
      refine T_callR (S' := [.int (b2i (h 49 k = 3 ∧ h 49 (7 + k) = c))]) (h' := h) (r_X9_isWith (L := L) h k 3 c (by omega)) (by decide) rfl rfl rfl rfl rfl rfl rfl ?_
      refine T_ifz (P := (h 49 k = 3 ∧ h 49 (7 + k) = c)) (t := 44) (f := 29) (L := [.ref 43, .int c, .int e, .int (b2i (anyS (fun z_ => decide (((h 49) z_ = 3 ∧ (h 49) (7 + z_) = c) ∧ (h 47) z_ = e)) k = true)), .int (nI k)]) (S := []) (G := S0 L) (h := h) rfl (fun q26 => ?_) (fun q26 => ?_)
      · refine T_run 4 (st' := (5, [.ref 43, .int c, .int e, .int 0, .int (nI k + 1)], [], S0 L, h)) rfl ?_
        exact T_st (by rw [nI_1]; first | rw [any_t1 q15] | rw [any_f q15 (decide_eq_false (fun z => q26 z.1))] | rw [any_f q15 (decide_eq_false (fun z => q37 z.2))] | rw [any_t2 (decide_eq_true ⟨q26, q37⟩)]) ih
      · refine T_run 3 (st' := (35, [.ref 43, .int c, .int e, .int (b2i (anyS (fun z_ => decide (((h 49) z_ = 3 ∧ (h 49) (7 + z_) = c) ∧ (h 47) z_ = e)) k = true)), .int (nI k)], [.int (nI k), .ref 47], S0 L, h)) rfl ?_
        refine T_ald (n := k) rfl rfl rfl (by omega) (by decide) rfl ?_
        refine T_run 1 (st' := (37, [.ref 43, .int c, .int e, .int (b2i (anyS (fun z_ => decide (((h 49) z_ = 3 ∧ (h 49) (7 + z_) = c) ∧ (h 47) z_ = e)) k = true)), .int (nI k)], [.int e, .int (h 47 k)], S0 L, h)) rfl ?_
        refine T_ifne (c := (h 47 k) = e) (t := 44) (f := 40) (L := [.ref 43, .int c, .int e, .int (b2i (anyS (fun z_ => decide (((h 49) z_ = 3 ∧ (h 49) (7 + z_) = c) ∧ (h 47) z_ = e)) k = true)), .int (nI k)]) (S := []) (G := S0 L) (h := h) rfl (fun q37 => ?_) (fun q37 => ?_)
        · refine T_run 4 (st' := (5, [.ref 43, .int c, .int e, .int 0, .int (nI k + 1)], [], S0 L, h)) rfl ?_
          exact T_st (by rw [nI_1]; first | rw [any_t1 q15] | rw [any_f q15 (decide_eq_false (fun z => q26 z.1))] | rw [any_f q15 (decide_eq_false (fun z => q37 z.2))] | rw [any_t2 (decide_eq_true ⟨q26, q37⟩)]) ih
        · refine T_run 5 (st' := (5, [.ref 43, .int c, .int e, .int 1, .int (nI k + 1)], [], S0 L, h)) rfl ?_
          exact T_st (by rw [nI_1]; first | rw [any_t1 q15] | rw [any_f q15 (decide_eq_false (fun z => q26 z.1))] | rw [any_f q15 (decide_eq_false (fun z => q37 z.2))] | rw [any_t2 (decide_eq_true ⟨q26, q37⟩)]) ih
  · skip
    refine T_run 3 (st' := (11, [.ref 43, .int c, .int e, .int (b2i (anyS (fun z_ => decide (((h 49) z_ = 3 ∧ (h 49) (7 + z_) = c) ∧ (h 47) z_ = e)) n = true)), .int (nI n)], [.int (h 43 6), .int (nI n)], S0 L, h)) rfl ?_
    refine T_iftP (c := (h 43 6) ≤ (nI n)) (P := n ≤ n) (t := 52) (f := 14) (L := [.ref 43, .int c, .int e, .int (b2i (anyS (fun z_ => decide (((h 49) z_ = 3 ∧ (h 49) (7 + z_) = c) ∧ (h 47) z_ = e)) n = true)), .int (nI n)]) (S := []) (G := S0 L) (h := h) rfl (nI_leE hn rfl (by omega) (by omega)) (by omega) ?_
    refine T_run 1 (st' := (53, [.ref 43, .int c, .int e, .int (b2i (anyS (fun z_ => decide (((h 49) z_ = 3 ∧ (h 49) (7 + z_) = c) ∧ (h 47) z_ = e)) n = true)), .int (nI n)], [.int (b2i (anyS (fun z_ => decide (((h 49) z_ = 3 ∧ (h 49) (7 + z_) = c) ∧ (h 47) z_ = e)) n = true))], S0 L, h)) rfl ?_
    exact T_retB rfl (by unfold b2i; split <;> simp) rfl rfl
theorem r_X9_hold {L : Nat} (h : AH)  (n : Nat) (hn : h 43 6 = nI n) (h7 : n ≤ 7) (m : Nat) (hm : h 43 32 = nI m) (hm6 : m ≤ 6) : Rt L 2 179 [.ref 43] h (some (b2i (allS (fun t_ => decide (b2i (anyS (fun z_ => decide (((h 49) z_ = 3 ∧ (h 49) (7 + z_) = (h 61 t_)) ∧ (h 47) z_ = (h 62 t_))) n = true) = h 63 t_)) m = true))) h := by
  refine T_run 4 (st' := (4, [.ref 43, .int 1, .int 0], [], S0 L, h)) rfl ?_
  refine T_loop (fun k => (4, [.ref 43, .int (b2i (allS (fun t_ => decide (b2i (anyS (fun z_ => decide (((h 49) z_ = 3 ∧ (h 49) (7 + z_) = (h 61 t_)) ∧ (h 47) z_ = (h 62 t_))) n = true) = h 63 t_)) k = true)), .int (nI k)], [], S0 L, h)) m ?_ ?_
  · intro k hk ih
    refine T_run 3 (st' := (9, [.ref 43, .int (b2i (allS (fun t_ => decide (b2i (anyS (fun z_ => decide (((h 49) z_ = 3 ∧ (h 49) (7 + z_) = (h 61 t_)) ∧ (h 47) z_ = (h 62 t_))) n = true) = h 63 t_)) k = true)), .int (nI k)], [.int (h 43 32), .int (nI k)], S0 L, h)) rfl ?_
    refine T_iffP (c := (h 43 32) ≤ (nI k)) (P := m ≤ k) (t := 53) (f := 12) (L := [.ref 43, .int (b2i (allS (fun t_ => decide (b2i (anyS (fun z_ => decide (((h 49) z_ = 3 ∧ (h 49) (7 + z_) = (h 61 t_)) ∧ (h 47) z_ = (h 62 t_))) n = true) = h 63 t_)) k = true)), .int (nI k)]) (S := []) (G := S0 L) (h := h) rfl (nI_leE hm rfl (by omega) (by omega)) (by omega) ?_
    refine T_run 1 (st' := (13, [.ref 43, .int (b2i (allS (fun t_ => decide (b2i (anyS (fun z_ => decide (((h 49) z_ = 3 ∧ (h 49) (7 + z_) = (h 61 t_)) ∧ (h 47) z_ = (h 62 t_))) n = true) = h 63 t_)) k = true)), .int (nI k)], [.int (b2i (allS (fun t_ => decide (b2i (anyS (fun z_ => decide (((h 49) z_ = 3 ∧ (h 49) (7 + z_) = (h 61 t_)) ∧ (h 47) z_ = (h 62 t_))) n = true) = h 63 t_)) k = true))], S0 L, h)) rfl ?_
    refine T_ifz (P := (allS (fun t_ => decide (b2i (anyS (fun z_ => decide (((h 49) z_ = 3 ∧ (h 49) (7 + z_) = (h 61 t_)) ∧ (h 47) z_ = (h 62 t_))) n = true) = h 63 t_)) k = true)) (t := 45) (f := 16) (L := [.ref 43, .int (b2i (allS (fun t_ => decide (b2i (anyS (fun z_ => decide (((h 49) z_ = 3 ∧ (h 49) (7 + z_) = (h 61 t_)) ∧ (h 47) z_ = (h 62 t_))) n = true) = h 63 t_)) k = true)), .int (nI k)]) (S := []) (G := S0 L) (h := h) rfl (fun q13 => ?_) (fun q13 => ?_)
    · refine T_run 4 (st' := (4, [.ref 43, .int 0, .int (nI k + 1)], [], S0 L, h)) rfl ?_
      exact T_st (by rw [nI_1]; first | rw [all_f1 q13] | rw [all_f2 (decide_eq_false q38)] | rw [all_t q13 (decide_eq_true q38)]) ih
    · refine T_run 4 (st' := (22, [.ref 43, .int (b2i (allS (fun t_ => decide (b2i (anyS (fun z_ => decide (((h 49) z_ = 3 ∧ (h 49) (7 + z_) = (h 61 t_)) ∧ (h 47) z_ = (h 62 t_))) n = true) = h 63 t_)) k = true)), .int (nI k)], [.int (nI k), .ref 61, .ref 43], S0 L, h)) rfl ?_
      refine T_ald (n := k) rfl rfl rfl (by omega) (by decide) rfl ?_
      refine T_run 3 (st' := (28, [.ref 43, .int (b2i (allS (fun t_ => decide (b2i (anyS (fun z_ => decide (((h 49) z_ = 3 ∧ (h 49) (7 + z_) = (h 61 t_)) ∧ (h 47) z_ = (h 62 t_))) n = true) = h 63 t_)) k = true)), .int (nI k)], [.int (nI k), .ref 62, .int (h 61 k), .ref 43], S0 L, h)) rfl ?_
      refine T_ald (n := k) rfl rfl rfl (by omega) (by decide) rfl ?_
      refine T_callR (S' := [.int (b2i (anyS (fun z_ => decide (((h 49) z_ = 3 ∧ (h 49) (7 + z_) = (h 61 k)) ∧ (h 47) z_ = (h 62 k))) n = true))]) (h' := h) (r_X9_lies (L := L) h (h 61 k) (h 62 k) n hn h7) (by decide) rfl rfl rfl rfl rfl rfl rfl ?_
      refine T_run 3 (st' := (37, [.ref 43, .int (b2i (allS (fun t_ => decide (b2i (anyS (fun z_ => decide (((h 49) z_ = 3 ∧ (h 49) (7 + z_) = (h 61 t_)) ∧ (h 47) z_ = (h 62 t_))) n = true) = h 63 t_)) k = true)), .int (nI k)], [.int (nI k), .ref 63, .int (b2i (anyS (fun z_ => decide (((h 49) z_ = 3 ∧ (h 49) (7 + z_) = (h 61 k)) ∧ (h 47) z_ = (h 62 k))) n = true))], S0 L, h)) rfl ?_
      refine T_bald (n := k) rfl rfl rfl (by omega) (by decide) rfl ?_
      refine T_ifne (c := (b2i (anyS (fun z_ => decide (((h 49) z_ = 3 ∧ (h 49) (7 + z_) = (h 61 k)) ∧ (h 47) z_ = (h 62 k))) n = true)) = (h 63 k)) (t := 45) (f := 41) (L := [.ref 43, .int (b2i (allS (fun t_ => decide (b2i (anyS (fun z_ => decide (((h 49) z_ = 3 ∧ (h 49) (7 + z_) = (h 61 t_)) ∧ (h 47) z_ = (h 62 t_))) n = true) = h 63 t_)) k = true)), .int (nI k)]) (S := []) (G := S0 L) (h := h) rfl (fun q38 => ?_) (fun q38 => ?_)
      · refine T_run 4 (st' := (4, [.ref 43, .int 0, .int (nI k + 1)], [], S0 L, h)) rfl ?_
        exact T_st (by rw [nI_1]; first | rw [all_f1 q13] | rw [all_f2 (decide_eq_false q38)] | rw [all_t q13 (decide_eq_true q38)]) ih
      · refine T_run 5 (st' := (4, [.ref 43, .int 1, .int (nI k + 1)], [], S0 L, h)) rfl ?_
        exact T_st (by rw [nI_1]; first | rw [all_f1 q13] | rw [all_f2 (decide_eq_false q38)] | rw [all_t q13 (decide_eq_true q38)]) ih
  · skip
    refine T_run 3 (st' := (9, [.ref 43, .int (b2i (allS (fun t_ => decide (b2i (anyS (fun z_ => decide (((h 49) z_ = 3 ∧ (h 49) (7 + z_) = (h 61 t_)) ∧ (h 47) z_ = (h 62 t_))) n = true) = h 63 t_)) m = true)), .int (nI m)], [.int (h 43 32), .int (nI m)], S0 L, h)) rfl ?_
    refine T_iftP (c := (h 43 32) ≤ (nI m)) (P := m ≤ m) (t := 53) (f := 12) (L := [.ref 43, .int (b2i (allS (fun t_ => decide (b2i (anyS (fun z_ => decide (((h 49) z_ = 3 ∧ (h 49) (7 + z_) = (h 61 t_)) ∧ (h 47) z_ = (h 62 t_))) n = true) = h 63 t_)) m = true)), .int (nI m)]) (S := []) (G := S0 L) (h := h) rfl (nI_leE hm rfl (by omega) (by omega)) (by omega) ?_
    refine T_run 1 (st' := (54, [.ref 43, .int (b2i (allS (fun t_ => decide (b2i (anyS (fun z_ => decide (((h 49) z_ = 3 ∧ (h 49) (7 + z_) = (h 61 t_)) ∧ (h 47) z_ = (h 62 t_))) n = true) = h 63 t_)) m = true)), .int (nI m)], [.int (b2i (allS (fun t_ => decide (b2i (anyS (fun z_ => decide (((h 49) z_ = 3 ∧ (h 49) (7 + z_) = (h 61 t_)) ∧ (h 47) z_ = (h 62 t_))) n = true) = h 63 t_)) m = true))], S0 L, h)) rfl ?_
    refine T_ifz (P := (allS (fun t_ => decide (b2i (anyS (fun z_ => decide (((h 49) z_ = 3 ∧ (h 49) (7 + z_) = (h 61 t_)) ∧ (h 47) z_ = (h 62 t_))) n = true) = h 63 t_)) m = true)) (t := 61) (f := 57) (L := [.ref 43, .int (b2i (allS (fun t_ => decide (b2i (anyS (fun z_ => decide (((h 49) z_ = 3 ∧ (h 49) (7 + z_) = (h 61 t_)) ∧ (h 47) z_ = (h 62 t_))) n = true) = h 63 t_)) m = true)), .int (nI m)]) (S := []) (G := S0 L) (h := h) rfl (fun q54 => ?_) (fun q54 => ?_)
    · refine T_run 1 (st' := (62, [.ref 43, .int (b2i (allS (fun t_ => decide (b2i (anyS (fun z_ => decide (((h 49) z_ = 3 ∧ (h 49) (7 + z_) = (h 61 t_)) ∧ (h 47) z_ = (h 62 t_))) n = true) = h 63 t_)) m = true)), .int (nI m)], [.int 0], S0 L, h)) rfl ?_
      exact T_retR rfl rfl (by first | exact congrArg some (b2i_t q54).symm | exact congrArg some (b2i_f q54).symm) rfl
    · refine T_run 2 (st' := (62, [.ref 43, .int (b2i (allS (fun t_ => decide (b2i (anyS (fun z_ => decide (((h 49) z_ = 3 ∧ (h 49) (7 + z_) = (h 61 t_)) ∧ (h 47) z_ = (h 62 t_))) n = true) = h 63 t_)) m = true)), .int (nI m)], [.int 1], S0 L, h)) rfl ?_
      exact T_retR rfl rfl (by first | exact congrArg some (b2i_t q54).symm | exact congrArg some (b2i_f q54).symm) rfl
theorem r_X9_light_out1 {L : Nat} (h : AH) (x : Int32) (y : Int32) (hx : ¬ (0 ≤ x ∧ x ≤ 60)) : Rt L 1 176 [.ref 43, .int x, .int y] h (some (-1000000002)) h := by
  refine T_run 4 (st' := (6, [.ref 43, .int x, .int y, un_, un_, un_], [.long 60, .long 0, .long (Int32.toInt64 x)], S0 L, h)) rfl ?_
  refine T_callR (S' := [.int (b2i (0 ≤ (Int32.toInt64 x) ∧ (Int32.toInt64 x) ≤ 60))]) (h' := h) (r_X9_in (L := L) h (Int32.toInt64 x) 0 60 ) (by decide) rfl rfl rfl rfl rfl rfl rfl ?_
  refine T_ift (c := (b2i (0 ≤ (Int32.toInt64 x) ∧ (Int32.toInt64 x) ≤ 60)) = 0) (t := 24) (f := 12) (L := [.ref 43, .int x, .int y, un_, un_, un_]) (S := []) (G := S0 L) (h := h) rfl (bz_f (fun z => hx (inQ.mpr z))) ?_
  refine T_run 1 (st' := (26, [.ref 43, .int x, .int y, un_, un_, un_], [.int (-1000000002)], S0 L, h)) rfl ?_
  exact T_retR rfl rfl rfl rfl
theorem r_X9_light_out2 {L : Nat} (h : AH) (x : Int32) (y : Int32) (hx : 0 ≤ x ∧ x ≤ 60) (hy : ¬ (0 ≤ y ∧ y ≤ 100)) : Rt L 1 176 [.ref 43, .int x, .int y] h (some (-1000000002)) h := by
  refine T_run 4 (st' := (6, [.ref 43, .int x, .int y, un_, un_, un_], [.long 60, .long 0, .long (Int32.toInt64 x)], S0 L, h)) rfl ?_
  refine T_callR (S' := [.int (b2i (0 ≤ (Int32.toInt64 x) ∧ (Int32.toInt64 x) ≤ 60))]) (h' := h) (r_X9_in (L := L) h (Int32.toInt64 x) 0 60 ) (by decide) rfl rfl rfl rfl rfl rfl rfl ?_
  refine T_iff (c := (b2i (0 ≤ (Int32.toInt64 x) ∧ (Int32.toInt64 x) ≤ 60)) = 0) (t := 24) (f := 12) (L := [.ref 43, .int x, .int y, un_, un_, un_]) (S := []) (G := S0 L) (h := h) rfl (bz_t (inQ.mp hx)) ?_
  refine T_run 4 (st' := (18, [.ref 43, .int x, .int y, un_, un_, un_], [.long 100, .long 0, .long (Int32.toInt64 y)], S0 L, h)) rfl ?_
  refine T_callR (S' := [.int (b2i (0 ≤ (Int32.toInt64 y) ∧ (Int32.toInt64 y) ≤ 100))]) (h' := h) (r_X9_in (L := L) h (Int32.toInt64 y) 0 100 ) (by decide) rfl rfl rfl rfl rfl rfl rfl ?_
  refine T_iff (c := ¬ (b2i (0 ≤ (Int32.toInt64 y) ∧ (Int32.toInt64 y) ≤ 100)) = 0) (t := 27) (f := 24) (L := [.ref 43, .int x, .int y, un_, un_, un_]) (S := []) (G := S0 L) (h := h) rfl (bnz_f (fun z => hy (inQ.mpr z))) ?_
  refine T_run 1 (st' := (26, [.ref 43, .int x, .int y, un_, un_, un_], [.int (-1000000002)], S0 L, h)) rfl ?_
  exact T_retR rfl rfl rfl rfl
theorem r_X9_light_ok {L : Nat} (h : AH) (m : Nat) (y : Int32) (hm : m ≤ 60) (hy : 0 ≤ y ∧ y ≤ 100) : Rt L 1 176 [.ref 43, .int (nI m), .int y] h (some (Int64.toInt32 (lgtS y m))) h := by
  refine T_run 4 (st' := (6, [.ref 43, .int (nI m), .int y, un_, un_, un_], [.long 60, .long 0, .long (Int32.toInt64 (nI m))], S0 L, h)) rfl ?_
  refine T_callR (S' := [.int (b2i (0 ≤ (Int32.toInt64 (nI m)) ∧ (Int32.toInt64 (nI m)) ≤ 60))]) (h' := h) (r_X9_in (L := L) h (Int32.toInt64 (nI m)) 0 60 ) (by decide) rfl rfl rfl rfl rfl rfl rfl ?_
  refine T_iff (c := (b2i (0 ≤ (Int32.toInt64 (nI m)) ∧ (Int32.toInt64 (nI m)) ≤ 60)) = 0) (t := 24) (f := 12) (L := [.ref 43, .int (nI m), .int y, un_, un_, un_]) (S := []) (G := S0 L) (h := h) rfl (bz_t ((inN_iff (a := 0) (b := 60) (by omega) (by decide) (by decide)).mpr ⟨Nat.zero_le _, hm⟩)) ?_
  refine T_run 4 (st' := (18, [.ref 43, .int (nI m), .int y, un_, un_, un_], [.long 100, .long 0, .long (Int32.toInt64 y)], S0 L, h)) rfl ?_
  refine T_callR (S' := [.int (b2i (0 ≤ (Int32.toInt64 y) ∧ (Int32.toInt64 y) ≤ 100))]) (h' := h) (r_X9_in (L := L) h (Int32.toInt64 y) 0 100 ) (by decide) rfl rfl rfl rfl rfl rfl rfl ?_
  refine T_ift (c := ¬ (b2i (0 ≤ (Int32.toInt64 y) ∧ (Int32.toInt64 y) ≤ 100)) = 0) (t := 27) (f := 24) (L := [.ref 43, .int (nI m), .int y, un_, un_, un_]) (S := []) (G := S0 L) (h := h) rfl (bz_t (inQ.mp hy)) ?_
  refine T_run 4 (st' := (34, [.ref 43, .int (nI m), .int y, .long 1000000000, un_, .int 0], [], S0 L, h)) rfl ?_
  refine T_loop (fun k => (34, [.ref 43, .int (nI m), .int y, .long (lgtS y k), un_, .int (nI k)], [], S0 L, h)) m ?_ ?_
  · intro k hk ih
    refine T_run 2 (st' := (37, [.ref 43, .int (nI m), .int y, .long (lgtS y k), un_, .int (nI k)], [.int (nI m), .int (nI k)], S0 L, h)) rfl ?_
    refine T_iffP (c := (nI m) ≤ (nI k)) (P := m ≤ k) (t := 55) (f := 40) (L := [.ref 43, .int (nI m), .int y, .long (lgtS y k), un_, .int (nI k)]) (S := []) (G := S0 L) (h := h) rfl (nI_leE rfl rfl (by omega) (by omega)) (by omega) ?_
    refine T_run 5 (st' := (47, [.ref 43, .int (nI m), .int y, .long (lgtS y k), un_, .int (nI k)], [.long 100, .long ((lgtS y k) * (Int32.toInt64 y))], S0 L, h)) rfl ?_
    refine T_ldiv rfl (by decide) rfl ?_
    refine T_run 3 (st' := (34, [.ref 43, .int (nI m), .int y, .long (((lgtS y k) * (Int32.toInt64 y)) / 100), un_, .int (nI k + 1)], [], S0 L, h)) rfl ?_
    exact T_st (by rw [nI_1]; rfl) ih
  · skip
    refine T_run 2 (st' := (37, [.ref 43, .int (nI m), .int y, .long (lgtS y m), un_, .int (nI m)], [.int (nI m), .int (nI m)], S0 L, h)) rfl ?_
    refine T_iftP (c := (nI m) ≤ (nI m)) (P := m ≤ m) (t := 55) (f := 40) (L := [.ref 43, .int (nI m), .int y, .long (lgtS y m), un_, .int (nI m)]) (S := []) (G := S0 L) (h := h) rfl (nI_leE rfl rfl (by omega) (by omega)) (by omega) ?_
    refine T_run 2 (st' := (57, [.ref 43, .int (nI m), .int y, .long (lgtS y m), un_, .int (nI m)], [.int (Int64.toInt32 (lgtS y m))], S0 L, h)) rfl ?_
    exact T_retR rfl rfl rfl rfl
theorem r_X9_keep_unk {L : Nat} (h : AH) (x : Int32) (hx : ¬ (0 ≤ x ∧ x ≤ 1)) : Rt L 1 184 [.ref 43, .int x] h (some (-1000000001)) h := by
  refine T_run 4 (st' := (4, [.ref 43, .int x, un_], [.long 1, .long 0, .long (Int32.toInt64 x)], S0 L, h)) rfl ?_
  refine T_callR (S' := [.int (b2i (0 ≤ (Int32.toInt64 x) ∧ (Int32.toInt64 x) ≤ 1))]) (h' := h) (r_X9_in (L := L) h (Int32.toInt64 x) 0 1 ) (by decide) rfl rfl rfl rfl rfl rfl rfl ?_
  refine T_iff (c := ¬ (b2i (0 ≤ (Int32.toInt64 x) ∧ (Int32.toInt64 x) ≤ 1)) = 0) (t := 13) (f := 10) (L := [.ref 43, .int x, un_]) (S := []) (G := S0 L) (h := h) rfl (bnz_f (fun z => hx (inQ.mpr z))) ?_
  refine T_run 1 (st' := (12, [.ref 43, .int x, un_], [.int (-1000000001)], S0 L, h)) rfl ?_
  exact T_retR rfl rfl rfl rfl
theorem r_X9_keep_ok {L : Nat} (h : AH) (i : Nat) (hi : i < 2) : Rt L 1 184 [.ref 43, .int (nI i)] h (some 1) (st_ (st_ (sc_ h 66 (fun q => if q = 23 * i + 22 then h 43 10 else if 23 * i ≤ q ∧ q < 23 * i + 22 then h 49 (q - 23 * i) else h 66 q)) 67 i 1) 43 26 0) := by
  refine T_run 4 (st' := (4, [.ref 43, .int (nI i), un_], [.long 1, .long 0, .long (Int32.toInt64 (nI i))], S0 L, h)) rfl ?_
  refine T_callR (S' := [.int (b2i (0 ≤ (Int32.toInt64 (nI i)) ∧ (Int32.toInt64 (nI i)) ≤ 1))]) (h' := h) (r_X9_in (L := L) h (Int32.toInt64 (nI i)) 0 1 ) (by decide) rfl rfl rfl rfl rfl rfl rfl ?_
  refine T_ift (c := ¬ (b2i (0 ≤ (Int32.toInt64 (nI i)) ∧ (Int32.toInt64 (nI i)) ≤ 1)) = 0) (t := 13) (f := 10) (L := [.ref 43, .int (nI i), un_]) (S := []) (G := S0 L) (h := h) rfl (bz_t ((inN_iff (a := 0) (b := 1) (by omega) (by decide) (by decide)).mpr ⟨Nat.zero_le _, by omega⟩)) ?_
  refine T_run 2 (st' := (15, [.ref 43, .int (nI i), .int 0], [], S0 L, h)) rfl ?_
  refine T_h (h' := (sc_ h 66 (fun q => if 23 * i ≤ q ∧ q < 23 * i + 0 then h 49 (q - 23 * i) else h 66 q))) (by funext a b; simp only [st_, sc_]; grind) ?_
  refine T_loop (fun k => (15, [.ref 43, .int (nI i), .int (nI k)], [], S0 L, (sc_ h 66 (fun q => if 23 * i ≤ q ∧ q < 23 * i + k then h 49 (q - 23 * i) else h 66 q)))) 22 ?_ ?_
  · intro k hk ih
    refine T_run 2 (st' := (18, [.ref 43, .int (nI i), .int (nI k)], [.int 22, .int (nI k)], S0 L, (sc_ h 66 (fun q => if 23 * i ≤ q ∧ q < 23 * i + k then h 49 (q - 23 * i) else h 66 q)))) rfl ?_
    refine T_iffP (c := 22 ≤ (nI k)) (P := 22 ≤ k) (t := 44) (f := 21) (L := [.ref 43, .int (nI i), .int (nI k)]) (S := []) (G := S0 L) (h := (sc_ h 66 (fun q => if 23 * i ≤ q ∧ q < 23 * i + k then h 49 (q - 23 * i) else h 66 q))) rfl (nI_leE rfl rfl (by omega) (by omega)) (by omega) ?_
    refine T_run 10 (st' := (36, [.ref 43, .int (nI i), .int (nI k)], [.int (nI k), .ref 49, .int ((23 * (nI i)) + (nI k)), .ref 66], S0 L, (sc_ h 66 (fun q => if 23 * i ≤ q ∧ q < 23 * i + k then h 49 (q - 23 * i) else h 66 q)))) rfl ?_
    refine T_ald (n := k) rfl rfl rfl (by omega) (by decide) rfl ?_
    refine T_ast (n := (23 * i) + k) rfl rfl (nI_addE (nI_mulE rfl rfl) rfl) (by omega) (by decide) rfl ?_
    refine T_run 2 (st' := (15, [.ref 43, .int (nI i), .int (nI k + 1)], [], S0 L, (st_ (sc_ h 66 (fun q => if 23 * i ≤ q ∧ q < 23 * i + k then h 49 (q - 23 * i) else h 66 q)) 66 ((23 * i) + k) (h 49 k)))) rfl ?_
    refine T_h (h' := (sc_ h 66 (fun q => if 23 * i ≤ q ∧ q < 23 * i + (k + 1) then h 49 (q - 23 * i) else h 66 q))) (by funext a b; simp only [st_, sc_]; grind) ?_
    exact T_st (by simp [nI_1, *]) ih
  · skip
    refine T_run 2 (st' := (18, [.ref 43, .int (nI i), .int (nI 22)], [.int 22, .int (nI 22)], S0 L, (sc_ h 66 (fun q => if 23 * i ≤ q ∧ q < 23 * i + 22 then h 49 (q - 23 * i) else h 66 q)))) rfl ?_
    refine T_iftP (c := 22 ≤ (nI 22)) (P := 22 ≤ 22) (t := 44) (f := 21) (L := [.ref 43, .int (nI i), .int (nI 22)]) (S := []) (G := S0 L) (h := (sc_ h 66 (fun q => if 23 * i ≤ q ∧ q < 23 * i + 22 then h 49 (q - 23 * i) else h 66 q))) rfl (nI_leE rfl rfl (by omega) (by omega)) (by omega) ?_
    refine T_run 9 (st' := (59, [.ref 43, .int (nI i), .int (nI 22)], [.int (h 43 10), .int ((23 * (nI i)) + 22), .ref 66], S0 L, (sc_ h 66 (fun q => if 23 * i ≤ q ∧ q < 23 * i + 22 then h 49 (q - 23 * i) else h 66 q)))) rfl ?_
    refine T_ast (n := (23 * i) + 22) rfl rfl (nI_addE (nI_mulE rfl rfl) rfl) (by omega) (by decide) rfl ?_
    refine T_run 4 (st' := (66, [.ref 43, .int (nI i), .int (nI 22)], [.int 1, .int (nI i), .ref 67], S0 L, (st_ (sc_ h 66 (fun q => if 23 * i ≤ q ∧ q < 23 * i + 22 then h 49 (q - 23 * i) else h 66 q)) 66 ((23 * i) + 22) (h 43 10)))) rfl ?_
    refine T_bast (n := i) rfl rfl rfl (by omega) (by decide) (by decide) rfl ?_
    refine T_run 4 (st' := (73, [.ref 43, .int (nI i), .int (nI 22)], [.int 1], S0 L, (st_ (st_ (st_ (sc_ h 66 (fun q => if 23 * i ≤ q ∧ q < 23 * i + 22 then h 49 (q - 23 * i) else h 66 q)) 66 ((23 * i) + 22) (h 43 10)) 67 i 1) 43 26 0))) rfl ?_
    exact T_retR rfl rfl rfl (by first | rfl | (funext a b; simp only [st_, sc_]; done) | (funext a b; simp only [st_, sc_]; grind))
theorem r_X9_goBack_unk {L : Nat} (h : AH) (x : Int32) (hx : ¬ (0 ≤ x ∧ x ≤ 1)) : Rt L 1 185 [.ref 43, .int x] h (some (-1000000001)) h := by
  refine T_run 4 (st' := (4, [.ref 43, .int x, un_], [.long 1, .long 0, .long (Int32.toInt64 x)], S0 L, h)) rfl ?_
  refine T_callR (S' := [.int (b2i (0 ≤ (Int32.toInt64 x) ∧ (Int32.toInt64 x) ≤ 1))]) (h' := h) (r_X9_in (L := L) h (Int32.toInt64 x) 0 1 ) (by decide) rfl rfl rfl rfl rfl rfl rfl ?_
  refine T_iff (c := ¬ (b2i (0 ≤ (Int32.toInt64 x) ∧ (Int32.toInt64 x) ≤ 1)) = 0) (t := 13) (f := 10) (L := [.ref 43, .int x, un_]) (S := []) (G := S0 L) (h := h) rfl (bnz_f (fun z => hx (inQ.mpr z))) ?_
  refine T_run 1 (st' := (12, [.ref 43, .int x, un_], [.int (-1000000001)], S0 L, h)) rfl ?_
  exact T_retR rfl rfl rfl rfl
theorem r_X9_goBack_not {L : Nat} (h : AH) (i : Nat) (hi : i < 2) (hk : h 67 i = 0) : Rt L 1 185 [.ref 43, .int (nI i)] h (some (-1000000003)) h := by
  refine T_run 4 (st' := (4, [.ref 43, .int (nI i), un_], [.long 1, .long 0, .long (Int32.toInt64 (nI i))], S0 L, h)) rfl ?_
  refine T_callR (S' := [.int (b2i (0 ≤ (Int32.toInt64 (nI i)) ∧ (Int32.toInt64 (nI i)) ≤ 1))]) (h' := h) (r_X9_in (L := L) h (Int32.toInt64 (nI i)) 0 1 ) (by decide) rfl rfl rfl rfl rfl rfl rfl ?_
  refine T_ift (c := ¬ (b2i (0 ≤ (Int32.toInt64 (nI i)) ∧ (Int32.toInt64 (nI i)) ≤ 1)) = 0) (t := 13) (f := 10) (L := [.ref 43, .int (nI i), un_]) (S := []) (G := S0 L) (h := h) rfl (bz_t ((inN_iff (a := 0) (b := 1) (by omega) (by decide) (by decide)).mpr ⟨Nat.zero_le _, by omega⟩)) ?_
  refine T_run 3 (st' := (18, [.ref 43, .int (nI i), un_], [.int (nI i), .ref 67], S0 L, h)) rfl ?_
  refine T_bald (n := i) rfl rfl rfl (by omega) (by decide) rfl ?_
  refine T_iff (c := ¬ (h 67 i) = 0) (t := 25) (f := 22) (L := [.ref 43, .int (nI i), un_]) (S := []) (G := S0 L) (h := h) rfl (fun z => z hk) ?_
  refine T_run 1 (st' := (24, [.ref 43, .int (nI i), un_], [.int (-1000000003)], S0 L, h)) rfl ?_
  exact T_retR rfl rfl rfl rfl
theorem r_X9_goBack_ok {L : Nat} (h : AH) (i : Nat) (hi : i < 2) (hkp : ¬ h 67 i = 0) : Rt L 1 185 [.ref 43, .int (nI i)] h (some 1) (st_ (st_ (sc_ h 49 (fun q => if q < 22 then h 66 (23 * i + q) else h 49 q)) 43 10 (h 66 (23 * i + 22))) 43 26 0) := by
  refine T_run 4 (st' := (4, [.ref 43, .int (nI i), un_], [.long 1, .long 0, .long (Int32.toInt64 (nI i))], S0 L, h)) rfl ?_
  refine T_callR (S' := [.int (b2i (0 ≤ (Int32.toInt64 (nI i)) ∧ (Int32.toInt64 (nI i)) ≤ 1))]) (h' := h) (r_X9_in (L := L) h (Int32.toInt64 (nI i)) 0 1 ) (by decide) rfl rfl rfl rfl rfl rfl rfl ?_
  refine T_ift (c := ¬ (b2i (0 ≤ (Int32.toInt64 (nI i)) ∧ (Int32.toInt64 (nI i)) ≤ 1)) = 0) (t := 13) (f := 10) (L := [.ref 43, .int (nI i), un_]) (S := []) (G := S0 L) (h := h) rfl (bz_t ((inN_iff (a := 0) (b := 1) (by omega) (by decide) (by decide)).mpr ⟨Nat.zero_le _, by omega⟩)) ?_
  refine T_run 3 (st' := (18, [.ref 43, .int (nI i), un_], [.int (nI i), .ref 67], S0 L, h)) rfl ?_
  refine T_bald (n := i) rfl rfl rfl (by omega) (by decide) rfl ?_
  refine T_ift (c := ¬ (h 67 i) = 0) (t := 25) (f := 22) (L := [.ref 43, .int (nI i), un_]) (S := []) (G := S0 L) (h := h) rfl hkp ?_
  refine T_run 2 (st' := (27, [.ref 43, .int (nI i), .int 0], [], S0 L, h)) rfl ?_
  refine T_h (h' := (sc_ h 49 (fun q => if q < 0 then h 66 (23 * i + q) else h 49 q))) (by funext a b; simp only [st_, sc_]; grind) ?_
  refine T_loop (fun k => (27, [.ref 43, .int (nI i), .int (nI k)], [], S0 L, (sc_ h 49 (fun q => if q < k then h 66 (23 * i + q) else h 49 q)))) 22 ?_ ?_
  · intro k hk ih
    refine T_run 2 (st' := (30, [.ref 43, .int (nI i), .int (nI k)], [.int 22, .int (nI k)], S0 L, (sc_ h 49 (fun q => if q < k then h 66 (23 * i + q) else h 49 q)))) rfl ?_
    refine T_iffP (c := 22 ≤ (nI k)) (P := 22 ≤ k) (t := 56) (f := 33) (L := [.ref 43, .int (nI i), .int (nI k)]) (S := []) (G := S0 L) (h := (sc_ h 49 (fun q => if q < k then h 66 (23 * i + q) else h 49 q))) rfl (nI_leE rfl rfl (by omega) (by omega)) (by omega) ?_
    refine T_run 10 (st' := (48, [.ref 43, .int (nI i), .int (nI k)], [.int ((23 * (nI i)) + (nI k)), .ref 66, .int (nI k), .ref 49], S0 L, (sc_ h 49 (fun q => if q < k then h 66 (23 * i + q) else h 49 q)))) rfl ?_
    refine T_ald (n := (23 * i) + k) rfl rfl (nI_addE (nI_mulE rfl rfl) rfl) (by omega) (by decide) rfl ?_
    refine T_ast (n := k) rfl rfl rfl (by omega) (by decide) rfl ?_
    refine T_run 2 (st' := (27, [.ref 43, .int (nI i), .int (nI k + 1)], [], S0 L, (st_ (sc_ h 49 (fun q => if q < k then h 66 (23 * i + q) else h 49 q)) 49 k (h 66 ((23 * i) + k))))) rfl ?_
    refine T_h (h' := (sc_ h 49 (fun q => if q < (k + 1) then h 66 (23 * i + q) else h 49 q))) (by funext a b; simp only [st_, sc_]; grind) ?_
    exact T_st (by simp [nI_1, *]) ih
  · skip
    refine T_run 2 (st' := (30, [.ref 43, .int (nI i), .int (nI 22)], [.int 22, .int (nI 22)], S0 L, (sc_ h 49 (fun q => if q < 22 then h 66 (23 * i + q) else h 49 q)))) rfl ?_
    refine T_iftP (c := 22 ≤ (nI 22)) (P := 22 ≤ 22) (t := 56) (f := 33) (L := [.ref 43, .int (nI i), .int (nI 22)]) (S := []) (G := S0 L) (h := (sc_ h 49 (fun q => if q < 22 then h 66 (23 * i + q) else h 49 q))) rfl (nI_leE rfl rfl (by omega) (by omega)) (by omega) ?_
    refine T_run 8 (st' := (68, [.ref 43, .int (nI i), .int (nI 22)], [.int ((23 * (nI i)) + 22), .ref 66, .ref 43], S0 L, (sc_ h 49 (fun q => if q < 22 then h 66 (23 * i + q) else h 49 q)))) rfl ?_
    refine T_ald (n := (23 * i) + 22) rfl rfl (nI_addE (nI_mulE rfl rfl) rfl) (by omega) (by decide) rfl ?_
    refine T_run 5 (st' := (78, [.ref 43, .int (nI i), .int (nI 22)], [.int 1], S0 L, (st_ (st_ (sc_ h 49 (fun q => if q < 22 then h 66 (23 * i + q) else h 49 q)) 43 10 (h 66 ((23 * i) + 22))) 43 26 0))) rfl ?_
    exact T_retR rfl rfl rfl (by first | rfl | (funext a b; simp only [st_, sc_]; done) | (funext a b; simp only [st_, sc_]; grind))
theorem r_X9_firstOf {L : Nat} (h : AH) (a : Nat) (c0 : Nat) (hc : h 43 2 = nI c0) (h5 : c0 ≤ 5) (hch : inCh (h 46) c0) (hac : ∀ i, i < c0 → h 46 (topS (h 46) c0 i) = -1) (ha : a < c0) : Rt L 0 174 [.ref 43, .int (nI a)] h (some (nI (topS (h 46) c0 a))) h := by
  refine T_run 2 (st' := (2, [.ref 43, .int (nI a), .int (nI a)], [], S0 L, h)) rfl ?_
  refine T_loopM (fun s_ : Nat × Nat => (2, [.ref 43, .int (nI a), .int (nI s_.2)], [], S0 L, h)) (fun s_ => s_.2 < c0 ∧ h 46 (topS (h 46) s_.1 s_.2) = -1 ∧ topS (h 46) s_.1 s_.2 = topS (h 46) c0 a) (fun s_ => s_.1) ?_ (c0, a) ⟨ha, hac a ha, rfl⟩
  intro ⟨f_, b_⟩ hI ih
  obtain ⟨h1, h2, h3⟩ := hI
  simp only at h1 h2 h3
  refine T_run 3 (st' := (7, [.ref 43, .int (nI a), .int (nI b_)], [.int (nI b_), .ref 46], S0 L, h)) rfl ?_
  refine T_ald (n := b_) rfl rfl rfl (by omega) (by decide) rfl ?_
  refine T_run 1 (st' := (9, [.ref 43, .int (nI a), .int (nI b_)], [.int (-1), .int (h 46 b_)], S0 L, h)) rfl ?_
  refine T_if (c := (h 46 b_) = (-1)) (t := 22) (f := 12) (L := [.ref 43, .int (nI a), .int (nI b_)]) (S := []) (G := S0 L) (h := h) rfl (fun q9 => ?_) (fun q9 => ?_)
  · refine T_run 1 (st' := (23, [.ref 43, .int (nI a), .int (nI b_)], [.int (nI b_)], S0 L, h)) rfl ?_
    exact T_retR rfl rfl (by rw [← h3, topS_root q9]) rfl
  · rcases hch b_ h1 with e_ | ⟨j_, hj_, e_⟩
    · exact absurd e_ q9
    cases f_ with
    | zero => exact absurd h2 q9
    | succ f1_ =>
      refine T_run 3 (st' := (17, [.ref 43, .int (nI a), .int (nI b_)], [.int (nI b_), .ref 46], S0 L, h)) rfl ?_
      refine T_ald (n := b_) rfl rfl rfl (by omega) (by decide) rfl ?_
      refine T_run 2 (st' := (2, [.ref 43, .int (nI a), .int (h 46 b_)], [], S0 L, h)) rfl ?_
      exact T_st (by rw [e_]) (ih (f1_, j_) (by show f1_ < f1_ + 1; omega) ⟨hj_, by rw [← topS_step q9 e_ (by omega)]; exact h2, by rw [← topS_step q9 e_ (by omega)]; exact h3⟩)

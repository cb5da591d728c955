/-! THE PROGRAM: its reader, 2 -/
theorem r_X5_wipe {L : Nat} (h : AH)   : Rt L 0 62 [.ref 9] h none (st_ (st_ (st_ (st_ h 9 0 0) 9 1 0) 9 2 0) 9 3 0) := by
  refine T_run 12 (st' := (20, [.ref 9], [], S0 L, (st_ (st_ (st_ (st_ h 9 0 0) 9 1 0) 9 2 0) 9 3 0))) rfl ?_
  exact T_retR rfl rfl rfl rfl
theorem r_X5_addChild {L : Nat} (h : AH) (x : Int32) (y : Int32) (c0 : Nat) (hc : h 9 2 = nI c0) (h5 : c0 < 5) : Rt L 0 64 [.ref 9, .int x, .int y] h none (st_ (st_ (st_ (st_ h 10 c0 x) 11 c0 y) 12 c0 (-1)) 9 2 (nI (c0 + 1))) := by
  refine T_run 3 (st' := (5, [.ref 9, .int x, .int y], [.int 5, .int (h 9 2)], S0 L, h)) rfl ?_
  refine T_iffP (c := 5 ≤ (h 9 2)) (P := 5 ≤ c0) (t := 48) (f := 8) (L := [.ref 9, .int x, .int y]) (S := []) (G := S0 L) (h := h) rfl (nI_leE rfl hc (by omega) (by omega)) (by omega) ?_
  refine T_run 5 (st' := (17, [.ref 9, .int x, .int y], [.int x, .int (h 9 2), .ref 10], S0 L, h)) rfl ?_
  refine T_ast (n := c0) rfl rfl hc (by omega) (by decide) rfl ?_
  refine T_run 5 (st' := (27, [.ref 9, .int x, .int y], [.int y, .int (h 9 2), .ref 11], S0 L, (st_ h 10 c0 x))) rfl ?_
  refine T_ast (n := c0) rfl rfl hc (by omega) (by decide) rfl ?_
  refine T_run 5 (st' := (37, [.ref 9, .int x, .int y], [.int (-1), .int (h 9 2), .ref 12], S0 L, (st_ (st_ h 10 c0 x) 11 c0 y))) rfl ?_
  refine T_ast (n := c0) rfl rfl hc (by omega) (by decide) rfl ?_
  refine T_run 6 (st' := (48, [.ref 9, .int x, .int y], [], S0 L, (st_ (st_ (st_ (st_ h 10 c0 x) 11 c0 y) 12 c0 (-1)) 9 2 ((h 9 2) + 1)))) rfl ?_
  exact T_retR rfl rfl rfl (by rw [hc, nI_1])
theorem r_X5_addDeed {L : Nat} (h : AH) (x : Int32) (y : Int32) (n : Nat) (hn : h 9 3 = nI n) (h7 : n < 7) : Rt L 0 65 [.ref 9, .int x, .int y] h none (st_ (st_ (st_ h 13 n x) 14 n y) 9 3 (nI (n + 1))) := by
  refine T_run 3 (st' := (6, [.ref 9, .int x, .int y], [.int 7, .int (h 9 3)], S0 L, h)) rfl ?_
  refine T_iffP (c := 7 ≤ (h 9 3)) (P := 7 ≤ n) (t := 39) (f := 9) (L := [.ref 9, .int x, .int y]) (S := []) (G := S0 L) (h := h) rfl (nI_leE rfl hn (by omega) (by omega)) (by omega) ?_
  refine T_run 5 (st' := (18, [.ref 9, .int x, .int y], [.int x, .int (h 9 3), .ref 13], S0 L, h)) rfl ?_
  refine T_ast (n := n) rfl rfl hn (by omega) (by decide) rfl ?_
  refine T_run 5 (st' := (28, [.ref 9, .int x, .int y], [.int y, .int (h 9 3), .ref 14], S0 L, (st_ h 13 n x))) rfl ?_
  refine T_ast (n := n) rfl rfl hn (by omega) (by decide) rfl ?_
  refine T_run 6 (st' := (39, [.ref 9, .int x, .int y], [], S0 L, (st_ (st_ (st_ h 13 n x) 14 n y) 9 3 ((h 9 3) + 1)))) rfl ?_
  exact T_retR rfl rfl rfl (by rw [hn, nI_1])
theorem r_X5_hasItFrom {L : Nat} (h : AH) (g : Nat) (k : Nat) (c0 : Nat) (hc : h 9 2 = nI c0) (h5 : c0 ≤ 5) (hch : inCh (h 12) c0) (hg : g < c0) (hk2 : k < c0) : Rt L 1 70 [.ref 9, .int (nI g), .int (nI k)] h (some (b2i (upS (h 12) k c0 g = true))) h := by
  refine T_run 4 (st' := (5, [.ref 9, .int (nI g), .int (nI k), .int (nI g), .int 0], [], S0 L, h)) rfl ?_
  refine T_loopM (fun s_ : Nat × Int32 => (5, [.ref 9, .int (nI g), .int (nI k), .int s_.2, .int (nI s_.1)], [], S0 L, h)) (fun s_ => s_.1 ≤ c0 ∧ ((∃ j, j < c0 ∧ s_.2 = nI j ∧ upS (h 12) k (c0 - s_.1) j = upS (h 12) k c0 g) ∨ (s_.2 = -1 ∧ upS (h 12) k c0 g = false))) (fun s_ => c0 - s_.1) ?_ (0, nI g) ⟨Nat.zero_le _, Or.inl ⟨g, hg, rfl, rfl⟩⟩
  intro ⟨i, b⟩ hI ih
  simp only at hI
  refine T_run 3 (st' := (11, [.ref 9, .int (nI g), .int (nI k), .int b, .int (nI i)], [.int (h 9 2), .int (nI i)], S0 L, h)) rfl ?_
  refine T_ifP (c := (h 9 2) ≤ (nI i)) (P := c0 ≤ i) (t := 42) (f := 14) (L := [.ref 9, .int (nI g), .int (nI k), .int b, .int (nI i)]) (S := []) (G := S0 L) (h := h) rfl (nI_leE hc rfl (by omega) (by omega)) (fun q11 => ?_) (fun q11 => ?_)
  · refine T_run 1 (st' := (43, [.ref 9, .int (nI g), .int (nI k), .int b, .int (nI i)], [.int 0], S0 L, h)) rfl ?_
    exact T_retR rfl rfl (by first | exact congrArg some (b2i_t (P := upS (h 12) k c0 g = true) (by rw [← hu]; exact up_hit (by omega) (by omega) q31)).symm | exact congrArg some (b2i_f (P := upS (h 12) k c0 g = true) (by rcases hI.2 with ⟨j, hj, eb, hu⟩ | ⟨eb, hu⟩; exact absurd (eb ▸ inS_nat hj (by omega)) q19; rw [hu]; decide)).symm | exact congrArg some (b2i_f (P := upS (h 12) k c0 g = true) (by rcases hI.2 with ⟨j, hj, eb, hu⟩ | ⟨eb, hu⟩; rw [← hu, show c0 - i = 0 by omega]; simp [upS]; rw [hu]; decide)).symm) rfl
  · refine T_run 2 (st' := (16, [.ref 9, .int (nI g), .int (nI k), .int b, .int (nI i)], [.int b, .ref 9], S0 L, h)) rfl ?_
    refine T_callR (S' := [.int (b2i (inS b c0))]) (h' := h) (r_X5_hasChildd (L := L) h b c0 hc h5) (by decide) rfl rfl rfl rfl rfl rfl rfl ?_
    refine T_ifz (P := (inS b c0)) (t := 42) (f := 22) (L := [.ref 9, .int (nI g), .int (nI k), .int b, .int (nI i)]) (S := []) (G := S0 L) (h := h) rfl (fun q19 => ?_) (fun q19 => ?_)
    · refine T_run 1 (st' := (43, [.ref 9, .int (nI g), .int (nI k), .int b, .int (nI i)], [.int 0], S0 L, h)) rfl ?_
      exact T_retR rfl rfl (by first | exact congrArg some (b2i_t (P := upS (h 12) k c0 g = true) (by rw [← hu]; exact up_hit (by omega) (by omega) q31)).symm | exact congrArg some (b2i_f (P := upS (h 12) k c0 g = true) (by rcases hI.2 with ⟨j, hj, eb, hu⟩ | ⟨eb, hu⟩; exact absurd (eb ▸ inS_nat hj (by omega)) q19; rw [hu]; decide)).symm | exact congrArg some (b2i_f (P := upS (h 12) k c0 g = true) (by rcases hI.2 with ⟨j, hj, eb, hu⟩ | ⟨eb, hu⟩; rw [← hu, show c0 - i = 0 by omega]; simp [upS]; rw [hu]; decide)).symm) rfl
    · obtain ⟨j, hj, eb, hu⟩ := hI.2.resolve_right (fun z => absurd q19.1 (by rw [z.1]; decide))
      refine T_run 3 (st' := (27, [.ref 9, .int (nI g), .int (nI k), .int b, .int (nI i)], [.int b, .ref 12], S0 L, h)) rfl ?_
      refine T_ald (n := j) rfl rfl eb (by omega) (by decide) rfl ?_
      refine T_run 3 (st' := (31, [.ref 9, .int (nI g), .int (nI k), .int (h 12 j), .int (nI i)], [.int (nI k), .int (h 12 j)], S0 L, h)) rfl ?_
      refine T_ifne (c := (h 12 j) = (nI k)) (t := 36) (f := 34) (L := [.ref 9, .int (nI g), .int (nI k), .int (h 12 j), .int (nI i)]) (S := []) (G := S0 L) (h := h) rfl (fun q31 => ?_) (fun q31 => ?_)
      · refine T_run 2 (st' := (5, [.ref 9, .int (nI g), .int (nI k), .int (h 12 j), .int (nI i + 1)], [], S0 L, h)) rfl ?_
        exact T_st (by rw [nI_1]) (ih (i + 1, h 12 j) (by simp only; omega) ⟨(by simp only; omega), (by rcases hch j hj with e_ | ⟨j2, hj2, e_⟩; exact Or.inr ⟨e_, by rw [← hu]; exact up_root e_⟩; exact Or.inl ⟨j2, hj2, e_, by rw [← hu, up_step (by omega) (by omega) e_ q31, show c0 - i - 1 = c0 - (i + 1) by omega]⟩)⟩)
      · refine T_run 1 (st' := (35, [.ref 9, .int (nI g), .int (nI k), .int (h 12 j), .int (nI i)], [.int 1], S0 L, h)) rfl ?_
        exact T_retR rfl rfl (by first | exact congrArg some (b2i_t (P := upS (h 12) k c0 g = true) (by rw [← hu]; exact up_hit (by omega) (by omega) q31)).symm | exact congrArg some (b2i_f (P := upS (h 12) k c0 g = true) (by rcases hI.2 with ⟨j, hj, eb, hu⟩ | ⟨eb, hu⟩; exact absurd (eb ▸ inS_nat hj (by omega)) q19; rw [hu]; decide)).symm | exact congrArg some (b2i_f (P := upS (h 12) k c0 g = true) (by rcases hI.2 with ⟨j, hj, eb, hu⟩ | ⟨eb, hu⟩; rw [← hu, show c0 - i = 0 by omega]; simp [upS]; rw [hu]; decide)).symm) rfl
theorem r_X5_canHandDown {L : Nat} (h : AH) (g : Nat) (k : Nat) (c0 : Nat) (hc : h 9 2 = nI c0) (h5 : c0 ≤ 5) (hch : inCh (h 12) c0) (hg : g < c0) (hk2 : k < c0) : Rt L 2 69 [.ref 9, .int (nI g), .int (nI k)] h (some (b2i (¬ g = k ∧ h 12 k = -1 ∧ ¬ upS (h 12) k c0 g = true))) h := by
  refine T_run 2 (st' := (2, [.ref 9, .int (nI g), .int (nI k)], [.int (nI k), .int (nI g)], S0 L, h)) rfl ?_
  refine T_ifP (c := (nI g) = (nI k)) (P := g = k) (t := 28) (f := 5) (L := [.ref 9, .int (nI g), .int (nI k)]) (S := []) (G := S0 L) (h := h) rfl (nI_eqE rfl rfl (by omega) (by omega)) (fun q2 => ?_) (fun q2 => ?_)
  · refine T_run 1 (st' := (29, [.ref 9, .int (nI g), .int (nI k)], [.int 0], S0 L, h)) rfl ?_
    exact T_retR rfl rfl (by first | exact congrArg some (b2i_f (P := ¬ g = k ∧ h 12 k = -1 ∧ ¬ upS (h 12) k c0 g = true) (fun z => z.1 q2)).symm | exact congrArg some (b2i_f (P := ¬ g = k ∧ h 12 k = -1 ∧ ¬ upS (h 12) k c0 g = true) (fun z => q12 z.2.1)).symm | exact congrArg some (b2i_f (P := ¬ g = k ∧ h 12 k = -1 ∧ ¬ upS (h 12) k c0 g = true) (fun z => z.2.2 q21)).symm | exact congrArg some (b2i_t (P := ¬ g = k ∧ h 12 k = -1 ∧ ¬ upS (h 12) k c0 g = true) ⟨q2, q12, q21⟩).symm) rfl
  · refine T_run 3 (st' := (10, [.ref 9, .int (nI g), .int (nI k)], [.int (nI k), .ref 12], S0 L, h)) rfl ?_
    refine T_ald (n := k) rfl rfl rfl (by omega) (by decide) rfl ?_
    refine T_run 1 (st' := (12, [.ref 9, .int (nI g), .int (nI k)], [.int (-1), .int (h 12 k)], S0 L, h)) rfl ?_
    refine T_ifne (c := (h 12 k) = (-1)) (t := 28) (f := 15) (L := [.ref 9, .int (nI g), .int (nI k)]) (S := []) (G := S0 L) (h := h) rfl (fun q12 => ?_) (fun q12 => ?_)
    · refine T_run 1 (st' := (29, [.ref 9, .int (nI g), .int (nI k)], [.int 0], S0 L, h)) rfl ?_
      exact T_retR rfl rfl (by first | exact congrArg some (b2i_f (P := ¬ g = k ∧ h 12 k = -1 ∧ ¬ upS (h 12) k c0 g = true) (fun z => z.1 q2)).symm | exact congrArg some (b2i_f (P := ¬ g = k ∧ h 12 k = -1 ∧ ¬ upS (h 12) k c0 g = true) (fun z => q12 z.2.1)).symm | exact congrArg some (b2i_f (P := ¬ g = k ∧ h 12 k = -1 ∧ ¬ upS (h 12) k c0 g = true) (fun z => z.2.2 q21)).symm | exact congrArg some (b2i_t (P := ¬ g = k ∧ h 12 k = -1 ∧ ¬ upS (h 12) k c0 g = true) ⟨q2, q12, q21⟩).symm) rfl
    · refine T_run 3 (st' := (18, [.ref 9, .int (nI g), .int (nI k)], [.int (nI k), .int (nI g), .ref 9], S0 L, h)) rfl ?_
      refine T_callR (S' := [.int (b2i (upS (h 12) k c0 g = true))]) (h' := h) (r_X5_hasItFrom (L := L) h g k c0 hc h5 hch hg hk2) (by decide) rfl rfl rfl rfl rfl rfl rfl ?_
      refine T_ifnz (P := (upS (h 12) k c0 g = true)) (t := 28) (f := 24) (L := [.ref 9, .int (nI g), .int (nI k)]) (S := []) (G := S0 L) (h := h) rfl (fun q21 => ?_) (fun q21 => ?_)
      · refine T_run 1 (st' := (29, [.ref 9, .int (nI g), .int (nI k)], [.int 0], S0 L, h)) rfl ?_
        exact T_retR rfl rfl (by first | exact congrArg some (b2i_f (P := ¬ g = k ∧ h 12 k = -1 ∧ ¬ upS (h 12) k c0 g = true) (fun z => z.1 q2)).symm | exact congrArg some (b2i_f (P := ¬ g = k ∧ h 12 k = -1 ∧ ¬ upS (h 12) k c0 g = true) (fun z => q12 z.2.1)).symm | exact congrArg some (b2i_f (P := ¬ g = k ∧ h 12 k = -1 ∧ ¬ upS (h 12) k c0 g = true) (fun z => z.2.2 q21)).symm | exact congrArg some (b2i_t (P := ¬ g = k ∧ h 12 k = -1 ∧ ¬ upS (h 12) k c0 g = true) ⟨q2, q12, q21⟩).symm) rfl
      · refine T_run 2 (st' := (29, [.ref 9, .int (nI g), .int (nI k)], [.int 1], S0 L, h)) rfl ?_
        exact T_retR rfl rfl (by first | exact congrArg some (b2i_f (P := ¬ g = k ∧ h 12 k = -1 ∧ ¬ upS (h 12) k c0 g = true) (fun z => z.1 q2)).symm | exact congrArg some (b2i_f (P := ¬ g = k ∧ h 12 k = -1 ∧ ¬ upS (h 12) k c0 g = true) (fun z => q12 z.2.1)).symm | exact congrArg some (b2i_f (P := ¬ g = k ∧ h 12 k = -1 ∧ ¬ upS (h 12) k c0 g = true) (fun z => z.2.2 q21)).symm | exact congrArg some (b2i_t (P := ¬ g = k ∧ h 12 k = -1 ∧ ¬ upS (h 12) k c0 g = true) ⟨q2, q12, q21⟩).symm) rfl
theorem r_X4_readBrook_1 {L : Nat} (h : AH)  (ht : h 9 0 = 0) (g0 : AH) (r0 : Rt L 1 54 [.ref 15, .int 1] h none g0) (g1 : AH) (v : Int32) (r1 : Rt L 2 56 [.ref 15, .int 0, .int 999] (st_ g0 9 0 1) (some v) g1) (g2 : AH) (r2 : Rt L 2 55 [.ref 15] g1 none g2) : Rt L 3 50 [.ref 15] h none (st_ g2 9 1 v) := by
  refine T_run 4 (st' := (8, [.ref 15, un_], [.int (h 9 0), .ref 15], S0 L, h)) rfl ?_
  refine T_iff (c := ¬ (h 9 0) = 0) (t := 15) (f := 11) (L := [.ref 15, un_]) (S := [.ref 15]) (G := S0 L) (h := h) rfl (fun z => z ht) ?_
  refine T_run 2 (st' := (16, [.ref 15, un_], [.int 1, .ref 15], S0 L, h)) rfl ?_
  refine T_callR (S' := []) (h' := g0) r0 (by decide) rfl rfl rfl rfl rfl rfl rfl ?_
  refine T_run 7 (st' := (32, [.ref 15, un_], [.int 999, .int 0, .ref 15], S0 L, (st_ g0 9 0 1))) rfl ?_
  refine T_callR (S' := [.int v]) (h' := g1) r1 (by decide) rfl rfl rfl rfl rfl rfl rfl ?_
  refine T_run 2 (st' := (37, [.ref 15, .int v], [.ref 15], S0 L, g1)) rfl ?_
  refine T_callR (S' := []) (h' := g2) r2 (by decide) rfl rfl rfl rfl rfl rfl rfl ?_
  refine T_run 4 (st' := (48, [.ref 15, .int v], [], S0 L, (st_ g2 9 1 v))) rfl ?_
  exact T_retR rfl rfl rfl rfl
theorem r_X4_readBrook_0 {L : Nat} (h : AH)  (ht : ¬ h 9 0 = 0) (g0 : AH) (r0 : Rt L 1 54 [.ref 15, .int 0] h none g0) (g1 : AH) (v : Int32) (r1 : Rt L 2 56 [.ref 15, .int 0, .int 999] (st_ g0 9 0 1) (some v) g1) (g2 : AH) (r2 : Rt L 2 55 [.ref 15] g1 none g2) : Rt L 3 50 [.ref 15] h none (st_ g2 9 1 v) := by
  refine T_run 4 (st' := (8, [.ref 15, un_], [.int (h 9 0), .ref 15], S0 L, h)) rfl ?_
  refine T_ift (c := ¬ (h 9 0) = 0) (t := 15) (f := 11) (L := [.ref 15, un_]) (S := [.ref 15]) (G := S0 L) (h := h) rfl ht ?_
  refine T_run 1 (st' := (16, [.ref 15, un_], [.int 0, .ref 15], S0 L, h)) rfl ?_
  refine T_callR (S' := []) (h' := g0) r0 (by decide) rfl rfl rfl rfl rfl rfl rfl ?_
  refine T_run 7 (st' := (32, [.ref 15, un_], [.int 999, .int 0, .ref 15], S0 L, (st_ g0 9 0 1))) rfl ?_
  refine T_callR (S' := [.int v]) (h' := g1) r1 (by decide) rfl rfl rfl rfl rfl rfl rfl ?_
  refine T_run 2 (st' := (37, [.ref 15, .int v], [.ref 15], S0 L, g1)) rfl ?_
  refine T_callR (S' := []) (h' := g2) r2 (by decide) rfl rfl rfl rfl rfl rfl rfl ?_
  refine T_run 4 (st' := (48, [.ref 15, .int v], [], S0 L, (st_ g2 9 1 v))) rfl ?_
  exact T_retR rfl rfl rfl rfl
theorem r_X4_readChild_bad1 {L : Nat} (h : AH)  (c0 : Nat) (hc : h 9 2 = nI c0) (hq : c0 < 5) (hc5 : c0 ≤ 5) (g0 : AH) (r0 : Rt L 1 54 [.ref 15, .int 1] h none g0) (g1 : AH) (v1 : Int32) (r1 : Rt L 2 56 [.ref 15, .int 1, .int 99] g0 (some v1) g1) (g2 : AH) (v2 : Int32) (r2 : Rt L 2 56 [.ref 15, .int 1, .int 99] g1 (some v2) g2) (g3 : AH) (r3 : Rt L 2 55 [.ref 15] g2 none g3) (hf : ¬ g3 15 5 = 0) : Rt L 3 51 [.ref 15] h none g3 := by
  refine T_run 5 (st' := (9, [.ref 15, un_, un_], [.int 5, .int (h 9 2), .ref 15], S0 L, h)) rfl ?_
  refine T_iffP (c := 5 ≤ (h 9 2)) (P := 5 ≤ c0) (t := 16) (f := 12) (L := [.ref 15, un_, un_]) (S := [.ref 15]) (G := S0 L) (h := h) rfl (nI_leE rfl hc (by omega) (by omega)) (by omega) ?_
  refine T_run 2 (st' := (17, [.ref 15, un_, un_], [.int 1, .ref 15], S0 L, h)) rfl ?_
  refine T_callR (S' := []) (h' := g0) r0 (by decide) rfl rfl rfl rfl rfl rfl rfl ?_
  refine T_run 3 (st' := (24, [.ref 15, un_, un_], [.int 99, .int 1, .ref 15], S0 L, g0)) rfl ?_
  refine T_callR (S' := [.int v1]) (h' := g1) r1 (by decide) rfl rfl rfl rfl rfl rfl rfl ?_
  refine T_run 4 (st' := (32, [.ref 15, .int v1, un_], [.int 99, .int 1, .ref 15], S0 L, g1)) rfl ?_
  refine T_callR (S' := [.int v2]) (h' := g2) r2 (by decide) rfl rfl rfl rfl rfl rfl rfl ?_
  refine T_run 2 (st' := (37, [.ref 15, .int v1, .int v2], [.ref 15], S0 L, g2)) rfl ?_
  refine T_callR (S' := []) (h' := g3) r3 (by decide) rfl rfl rfl rfl rfl rfl rfl ?_
  refine T_run 2 (st' := (44, [.ref 15, .int v1, .int v2], [.int (g3 15 5)], S0 L, g3)) rfl ?_
  refine T_ift (c := ¬ (g3 15 5) = 0) (t := 56) (f := 47) (L := [.ref 15, .int v1, .int v2]) (S := []) (G := S0 L) (h := g3) rfl hf ?_
  exact T_retR rfl rfl rfl rfl
theorem r_X4_readChild_ok {L : Nat} (h : AH)  (c0 : Nat) (hc : h 9 2 = nI c0) (hq : c0 < 5) (hc5 : c0 ≤ 5) (g0 : AH) (r0 : Rt L 1 54 [.ref 15, .int 1] h none g0) (g1 : AH) (v1 : Int32) (r1 : Rt L 2 56 [.ref 15, .int 1, .int 99] g0 (some v1) g1) (g2 : AH) (v2 : Int32) (r2 : Rt L 2 56 [.ref 15, .int 1, .int 99] g1 (some v2) g2) (g3 : AH) (r3 : Rt L 2 55 [.ref 15] g2 none g3) (hc3 : g3 9 2 = nI c0) (hf : g3 15 5 = 0) : Rt L 3 51 [.ref 15] h none (st_ (st_ (st_ (st_ g3 10 c0 v1) 11 c0 v2) 12 c0 (-1)) 9 2 (nI (c0 + 1))) := by
  refine T_run 5 (st' := (9, [.ref 15, un_, un_], [.int 5, .int (h 9 2), .ref 15], S0 L, h)) rfl ?_
  refine T_iffP (c := 5 ≤ (h 9 2)) (P := 5 ≤ c0) (t := 16) (f := 12) (L := [.ref 15, un_, un_]) (S := [.ref 15]) (G := S0 L) (h := h) rfl (nI_leE rfl hc (by omega) (by omega)) (by omega) ?_
  refine T_run 2 (st' := (17, [.ref 15, un_, un_], [.int 1, .ref 15], S0 L, h)) rfl ?_
  refine T_callR (S' := []) (h' := g0) r0 (by decide) rfl rfl rfl rfl rfl rfl rfl ?_
  refine T_run 3 (st' := (24, [.ref 15, un_, un_], [.int 99, .int 1, .ref 15], S0 L, g0)) rfl ?_
  refine T_callR (S' := [.int v1]) (h' := g1) r1 (by decide) rfl rfl rfl rfl rfl rfl rfl ?_
  refine T_run 4 (st' := (32, [.ref 15, .int v1, un_], [.int 99, .int 1, .ref 15], S0 L, g1)) rfl ?_
  refine T_callR (S' := [.int v2]) (h' := g2) r2 (by decide) rfl rfl rfl rfl rfl rfl rfl ?_
  refine T_run 2 (st' := (37, [.ref 15, .int v1, .int v2], [.ref 15], S0 L, g2)) rfl ?_
  refine T_callR (S' := []) (h' := g3) r3 (by decide) rfl rfl rfl rfl rfl rfl rfl ?_
  refine T_run 2 (st' := (44, [.ref 15, .int v1, .int v2], [.int (g3 15 5)], S0 L, g3)) rfl ?_
  refine T_iff (c := ¬ (g3 15 5) = 0) (t := 56) (f := 47) (L := [.ref 15, .int v1, .int v2]) (S := []) (G := S0 L) (h := g3) rfl (fun z => z hf) ?_
  refine T_run 4 (st' := (53, [.ref 15, .int v1, .int v2], [.int v2, .int v1, .ref 9], S0 L, g3)) rfl ?_
  refine T_callR (S' := []) (h' := (st_ (st_ (st_ (st_ g3 10 c0 v1) 11 c0 v2) 12 c0 (-1)) 9 2 (nI (c0 + 1)))) (r_X5_addChild (L := L) g3 v1 v2 c0 hc3 (by omega)) (by decide) rfl rfl rfl rfl rfl rfl rfl ?_
  exact T_retR rfl rfl rfl rfl
theorem r_X4_readDeed_bad1 {L : Nat} (h : AH)  (n : Nat) (hn : h 9 3 = nI n) (hq : n < 7) (hn7 : n ≤ 7) (g0 : AH) (r0 : Rt L 1 54 [.ref 15, .int 1] h none g0) (g1 : AH) (v1 : Int32) (r1 : Rt L 2 56 [.ref 15, .int 0, .int (g0 9 2 - 1)] g0 (some v1) g1) (g2 : AH) (v2 : Int32) (r2 : Rt L 2 56 [.ref 15, .int 1, .int 99] g1 (some v2) g2) (g3 : AH) (r3 : Rt L 2 55 [.ref 15] g2 none g3) (hf : ¬ g3 15 5 = 0) : Rt L 3 52 [.ref 15] h none g3 := by
  refine T_run 5 (st' := (10, [.ref 15, un_, un_], [.int 7, .int (h 9 3), .ref 15], S0 L, h)) rfl ?_
  refine T_iffP (c := 7 ≤ (h 9 3)) (P := 7 ≤ n) (t := 17) (f := 13) (L := [.ref 15, un_, un_]) (S := [.ref 15]) (G := S0 L) (h := h) rfl (nI_leE rfl hn (by omega) (by omega)) (by omega) ?_
  refine T_run 2 (st' := (18, [.ref 15, un_, un_], [.int 1, .ref 15], S0 L, h)) rfl ?_
  refine T_callR (S' := []) (h' := g0) r0 (by decide) rfl rfl rfl rfl rfl rfl rfl ?_
  refine T_run 7 (st' := (32, [.ref 15, un_, un_], [.int ((g0 9 2) - 1), .int 0, .ref 15], S0 L, g0)) rfl ?_
  refine T_callR (S' := [.int v1]) (h' := g1) r1 (by decide) rfl rfl rfl rfl rfl rfl rfl ?_
  refine T_run 4 (st' := (40, [.ref 15, .int v1, un_], [.int 99, .int 1, .ref 15], S0 L, g1)) rfl ?_
  refine T_callR (S' := [.int v2]) (h' := g2) r2 (by decide) rfl rfl rfl rfl rfl rfl rfl ?_
  refine T_run 2 (st' := (45, [.ref 15, .int v1, .int v2], [.ref 15], S0 L, g2)) rfl ?_
  refine T_callR (S' := []) (h' := g3) r3 (by decide) rfl rfl rfl rfl rfl rfl rfl ?_
  refine T_run 2 (st' := (52, [.ref 15, .int v1, .int v2], [.int (g3 15 5)], S0 L, g3)) rfl ?_
  refine T_ift (c := ¬ (g3 15 5) = 0) (t := 64) (f := 55) (L := [.ref 15, .int v1, .int v2]) (S := []) (G := S0 L) (h := g3) rfl hf ?_
  exact T_retR rfl rfl rfl rfl
theorem r_X4_readDeed_ok {L : Nat} (h : AH)  (n : Nat) (hn : h 9 3 = nI n) (hq : n < 7) (hn7 : n ≤ 7) (g0 : AH) (r0 : Rt L 1 54 [.ref 15, .int 1] h none g0) (g1 : AH) (v1 : Int32) (r1 : Rt L 2 56 [.ref 15, .int 0, .int (g0 9 2 - 1)] g0 (some v1) g1) (g2 : AH) (v2 : Int32) (r2 : Rt L 2 56 [.ref 15, .int 1, .int 99] g1 (some v2) g2) (g3 : AH) (r3 : Rt L 2 55 [.ref 15] g2 none g3) (hn3 : g3 9 3 = nI n) (hf : g3 15 5 = 0) : Rt L 3 52 [.ref 15] h none (st_ (st_ (st_ g3 13 n v1) 14 n v2) 9 3 (nI (n + 1))) := by
  refine T_run 5 (st' := (10, [.ref 15, un_, un_], [.int 7, .int (h 9 3), .ref 15], S0 L, h)) rfl ?_
  refine T_iffP (c := 7 ≤ (h 9 3)) (P := 7 ≤ n) (t := 17) (f := 13) (L := [.ref 15, un_, un_]) (S := [.ref 15]) (G := S0 L) (h := h) rfl (nI_leE rfl hn (by omega) (by omega)) (by omega) ?_
  refine T_run 2 (st' := (18, [.ref 15, un_, un_], [.int 1, .ref 15], S0 L, h)) rfl ?_
  refine T_callR (S' := []) (h' := g0) r0 (by decide) rfl rfl rfl rfl rfl rfl rfl ?_
  refine T_run 7 (st' := (32, [.ref 15, un_, un_], [.int ((g0 9 2) - 1), .int 0, .ref 15], S0 L, g0)) rfl ?_
  refine T_callR (S' := [.int v1]) (h' := g1) r1 (by decide) rfl rfl rfl rfl rfl rfl rfl ?_
  refine T_run 4 (st' := (40, [.ref 15, .int v1, un_], [.int 99, .int 1, .ref 15], S0 L, g1)) rfl ?_
  refine T_callR (S' := [.int v2]) (h' := g2) r2 (by decide) rfl rfl rfl rfl rfl rfl rfl ?_
  refine T_run 2 (st' := (45, [.ref 15, .int v1, .int v2], [.ref 15], S0 L, g2)) rfl ?_
  refine T_callR (S' := []) (h' := g3) r3 (by decide) rfl rfl rfl rfl rfl rfl rfl ?_
  refine T_run 2 (st' := (52, [.ref 15, .int v1, .int v2], [.int (g3 15 5)], S0 L, g3)) rfl ?_
  refine T_iff (c := ¬ (g3 15 5) = 0) (t := 64) (f := 55) (L := [.ref 15, .int v1, .int v2]) (S := []) (G := S0 L) (h := g3) rfl (fun z => z hf) ?_
  refine T_run 4 (st' := (61, [.ref 15, .int v1, .int v2], [.int v2, .int v1, .ref 9], S0 L, g3)) rfl ?_
  refine T_callR (S' := []) (h' := (st_ (st_ (st_ g3 13 n v1) 14 n v2) 9 3 (nI (n + 1)))) (r_X5_addDeed (L := L) g3 v1 v2 n hn3 (by omega)) (by decide) rfl rfl rfl rfl rfl rfl rfl ?_
  exact T_retR rfl rfl rfl rfl
theorem r_X4_readChild_bad0 {L : Nat} (h : AH)  (c0 : Nat) (hc : h 9 2 = nI c0) (hq : ¬ c0 < 5) (hc5 : c0 ≤ 5) (g0 : AH) (r0 : Rt L 1 54 [.ref 15, .int 0] h none g0) (g1 : AH) (v1 : Int32) (r1 : Rt L 2 56 [.ref 15, .int 1, .int 99] g0 (some v1) g1) (g2 : AH) (v2 : Int32) (r2 : Rt L 2 56 [.ref 15, .int 1, .int 99] g1 (some v2) g2) (g3 : AH) (r3 : Rt L 2 55 [.ref 15] g2 none g3) (hf : ¬ g3 15 5 = 0) : Rt L 3 51 [.ref 15] h none g3 := by
  refine T_run 5 (st' := (9, [.ref 15, un_, un_], [.int 5, .int (h 9 2), .ref 15], S0 L, h)) rfl ?_
  refine T_iftP (c := 5 ≤ (h 9 2)) (P := 5 ≤ c0) (t := 16) (f := 12) (L := [.ref 15, un_, un_]) (S := [.ref 15]) (G := S0 L) (h := h) rfl (nI_leE rfl hc (by omega) (by omega)) (by omega) ?_
  refine T_run 1 (st' := (17, [.ref 15, un_, un_], [.int 0, .ref 15], S0 L, h)) rfl ?_
  refine T_callR (S' := []) (h' := g0) r0 (by decide) rfl rfl rfl rfl rfl rfl rfl ?_
  refine T_run 3 (st' := (24, [.ref 15, un_, un_], [.int 99, .int 1, .ref 15], S0 L, g0)) rfl ?_
  refine T_callR (S' := [.int v1]) (h' := g1) r1 (by decide) rfl rfl rfl rfl rfl rfl rfl ?_
  refine T_run 4 (st' := (32, [.ref 15, .int v1, un_], [.int 99, .int 1, .ref 15], S0 L, g1)) rfl ?_
  refine T_callR (S' := [.int v2]) (h' := g2) r2 (by decide) rfl rfl rfl rfl rfl rfl rfl ?_
  refine T_run 2 (st' := (37, [.ref 15, .int v1, .int v2], [.ref 15], S0 L, g2)) rfl ?_
  refine T_callR (S' := []) (h' := g3) r3 (by decide) rfl rfl rfl rfl rfl rfl rfl ?_
  refine T_run 2 (st' := (44, [.ref 15, .int v1, .int v2], [.int (g3 15 5)], S0 L, g3)) rfl ?_
  refine T_ift (c := ¬ (g3 15 5) = 0) (t := 56) (f := 47) (L := [.ref 15, .int v1, .int v2]) (S := []) (G := S0 L) (h := g3) rfl hf ?_
  exact T_retR rfl rfl rfl rfl
theorem r_X4_readDeed_bad0 {L : Nat} (h : AH)  (n : Nat) (hn : h 9 3 = nI n) (hq : ¬ n < 7) (hn7 : n ≤ 7) (g0 : AH) (r0 : Rt L 1 54 [.ref 15, .int 0] h none g0) (g1 : AH) (v1 : Int32) (r1 : Rt L 2 56 [.ref 15, .int 0, .int (g0 9 2 - 1)] g0 (some v1) g1) (g2 : AH) (v2 : Int32) (r2 : Rt L 2 56 [.ref 15, .int 1, .int 99] g1 (some v2) g2) (g3 : AH) (r3 : Rt L 2 55 [.ref 15] g2 none g3) (hf : ¬ g3 15 5 = 0) : Rt L 3 52 [.ref 15] h none g3 := by
  refine T_run 5 (st' := (10, [.ref 15, un_, un_], [.int 7, .int (h 9 3), .ref 15], S0 L, h)) rfl ?_
  refine T_iftP (c := 7 ≤ (h 9 3)) (P := 7 ≤ n) (t := 17) (f := 13) (L := [.ref 15, un_, un_]) (S := [.ref 15]) (G := S0 L) (h := h) rfl (nI_leE rfl hn (by omega) (by omega)) (by omega) ?_
  refine T_run 1 (st' := (18, [.ref 15, un_, un_], [.int 0, .ref 15], S0 L, h)) rfl ?_
  refine T_callR (S' := []) (h' := g0) r0 (by decide) rfl rfl rfl rfl rfl rfl rfl ?_
  refine T_run 7 (st' := (32, [.ref 15, un_, un_], [.int ((g0 9 2) - 1), .int 0, .ref 15], S0 L, g0)) rfl ?_
  refine T_callR (S' := [.int v1]) (h' := g1) r1 (by decide) rfl rfl rfl rfl rfl rfl rfl ?_
  refine T_run 4 (st' := (40, [.ref 15, .int v1, un_], [.int 99, .int 1, .ref 15], S0 L, g1)) rfl ?_
  refine T_callR (S' := [.int v2]) (h' := g2) r2 (by decide) rfl rfl rfl rfl rfl rfl rfl ?_
  refine T_run 2 (st' := (45, [.ref 15, .int v1, .int v2], [.ref 15], S0 L, g2)) rfl ?_
  refine T_callR (S' := []) (h' := g3) r3 (by decide) rfl rfl rfl rfl rfl rfl rfl ?_
  refine T_run 2 (st' := (52, [.ref 15, .int v1, .int v2], [.int (g3 15 5)], S0 L, g3)) rfl ?_
  refine T_ift (c := ¬ (g3 15 5) = 0) (t := 64) (f := 55) (L := [.ref 15, .int v1, .int v2]) (S := []) (G := S0 L) (h := g3) rfl hf ?_
  exact T_retR rfl rfl rfl rfl
theorem r_X4_readHanding_bad {L : Nat} (h : AH)  (g0 : AH) (r0 : Rt L 1 54 [.ref 15, .int 1] h none g0) (g1 : AH) (v1 : Int32) (r1 : Rt L 2 56 [.ref 15, .int 0, .int (g0 9 2 - 1)] g0 (some v1) g1) (g2 : AH) (v2 : Int32) (r2 : Rt L 2 56 [.ref 15, .int 0, .int (g1 9 2 - 1)] g1 (some v2) g2) (hf2 : ¬ g2 15 5 = 0) (g3 : AH) (r3 : Rt L 2 55 [.ref 15] g2 none g3) (hf : ¬ g3 15 5 = 0) : Rt L 3 53 [.ref 15] h none g3 := by
  refine T_run 2 (st' := (2, [.ref 15, un_, un_], [.int 1, .ref 15], S0 L, h)) rfl ?_
  refine T_callR (S' := []) (h' := g0) r0 (by decide) rfl rfl rfl rfl rfl rfl rfl ?_
  refine T_run 7 (st' := (16, [.ref 15, un_, un_], [.int ((g0 9 2) - 1), .int 0, .ref 15], S0 L, g0)) rfl ?_
  refine T_callR (S' := [.int v1]) (h' := g1) r1 (by decide) rfl rfl rfl rfl rfl rfl rfl ?_
  refine T_run 8 (st' := (31, [.ref 15, .int v1, un_], [.int ((g1 9 2) - 1), .int 0, .ref 15], S0 L, g1)) rfl ?_
  refine T_callR (S' := [.int v2]) (h' := g2) r2 (by decide) rfl rfl rfl rfl rfl rfl rfl ?_
  refine T_run 3 (st' := (39, [.ref 15, .int v1, .int v2], [.int (g2 15 5)], S0 L, g2)) rfl ?_
  refine T_ift (c := ¬ (g2 15 5) = 0) (t := 63) (f := 42) (L := [.ref 15, .int v1, .int v2]) (S := []) (G := S0 L) (h := g2) rfl hf2 ?_
  refine T_run 1 (st' := (64, [.ref 15, .int v1, .int v2], [.ref 15], S0 L, g2)) rfl ?_
  refine T_callR (S' := []) (h' := g3) r3 (by decide) rfl rfl rfl rfl rfl rfl rfl ?_
  refine T_run 2 (st' := (71, [.ref 15, .int v1, .int v2], [.int (g3 15 5)], S0 L, g3)) rfl ?_
  refine T_ift (c := ¬ (g3 15 5) = 0) (t := 84) (f := 74) (L := [.ref 15, .int v1, .int v2]) (S := []) (G := S0 L) (h := g3) rfl hf ?_
  exact T_retR rfl rfl rfl rfl
theorem r_X4_readHanding_no {L : Nat} (h : AH)  (g0 : AH) (r0 : Rt L 1 54 [.ref 15, .int 1] h none g0) (g1 : AH) (v1 : Int32) (r1 : Rt L 2 56 [.ref 15, .int 0, .int (g0 9 2 - 1)] g0 (some v1) g1) (g2 : AH) (v2 : Int32) (r2 : Rt L 2 56 [.ref 15, .int 0, .int (g1 9 2 - 1)] g1 (some v2) g2) (hf2 : g2 15 5 = 0) (rc : Rt L 2 69 [.ref 9, .int v1, .int v2] g2 (some 0) g2) (g3 : AH) (r3 : Rt L 2 55 [.ref 15] (st_ (st_ g2 15 5 4) 15 6 (g2 15 4)) none g3) (hf : ¬ g3 15 5 = 0) : Rt L 3 53 [.ref 15] h none g3 := by
  refine T_run 2 (st' := (2, [.ref 15, un_, un_], [.int 1, .ref 15], S0 L, h)) rfl ?_
  refine T_callR (S' := []) (h' := g0) r0 (by decide) rfl rfl rfl rfl rfl rfl rfl ?_
  refine T_run 7 (st' := (16, [.ref 15, un_, un_], [.int ((g0 9 2) - 1), .int 0, .ref 15], S0 L, g0)) rfl ?_
  refine T_callR (S' := [.int v1]) (h' := g1) r1 (by decide) rfl rfl rfl rfl rfl rfl rfl ?_
  refine T_run 8 (st' := (31, [.ref 15, .int v1, un_], [.int ((g1 9 2) - 1), .int 0, .ref 15], S0 L, g1)) rfl ?_
  refine T_callR (S' := [.int v2]) (h' := g2) r2 (by decide) rfl rfl rfl rfl rfl rfl rfl ?_
  refine T_run 3 (st' := (39, [.ref 15, .int v1, .int v2], [.int (g2 15 5)], S0 L, g2)) rfl ?_
  refine T_iff (c := ¬ (g2 15 5) = 0) (t := 63) (f := 42) (L := [.ref 15, .int v1, .int v2]) (S := []) (G := S0 L) (h := g2) rfl (fun z => z hf2) ?_
  refine T_run 4 (st' := (48, [.ref 15, .int v1, .int v2], [.int v2, .int v1, .ref 9], S0 L, g2)) rfl ?_
  refine T_callR (S' := [.int 0]) (h' := g2) rc (by decide) rfl rfl rfl rfl rfl rfl rfl ?_
  refine T_iff (c := ¬ 0 = 0) (t := 63) (f := 54) (L := [.ref 15, .int v1, .int v2]) (S := []) (G := S0 L) (h := g2) rfl (fun z => z rfl) ?_
  refine T_run 4 (st' := (60, [.ref 15, .int v1, .int v2], [.int (g2 15 4), .int 4, .ref 15], S0 L, g2)) rfl ?_
  refine T_callR (S' := []) (h' := (st_ (st_ g2 15 5 4) 15 6 (g2 15 4))) (r_X4_fail_l (L := L) g2 4 (g2 15 4) hf2) (by decide) rfl rfl rfl rfl rfl rfl rfl ?_
  refine T_run 1 (st' := (64, [.ref 15, .int v1, .int v2], [.ref 15], S0 L, (st_ (st_ g2 15 5 4) 15 6 (g2 15 4)))) rfl ?_
  refine T_callR (S' := []) (h' := g3) r3 (by decide) rfl rfl rfl rfl rfl rfl rfl ?_
  refine T_run 2 (st' := (71, [.ref 15, .int v1, .int v2], [.int (g3 15 5)], S0 L, g3)) rfl ?_
  refine T_ift (c := ¬ (g3 15 5) = 0) (t := 84) (f := 74) (L := [.ref 15, .int v1, .int v2]) (S := []) (G := S0 L) (h := g3) rfl hf ?_
  exact T_retR rfl rfl rfl rfl
theorem r_X4_readHanding_end {L : Nat} (h : AH)  (g0 : AH) (r0 : Rt L 1 54 [.ref 15, .int 1] h none g0) (g1 : AH) (v1 : Int32) (r1 : Rt L 2 56 [.ref 15, .int 0, .int (g0 9 2 - 1)] g0 (some v1) g1) (g2 : AH) (v2 : Int32) (r2 : Rt L 2 56 [.ref 15, .int 0, .int (g1 9 2 - 1)] g1 (some v2) g2) (hf2 : g2 15 5 = 0) (rc : Rt L 2 69 [.ref 9, .int v1, .int v2] g2 (some 1) g2) (g3 : AH) (r3 : Rt L 2 55 [.ref 15] g2 none g3) (hf : ¬ g3 15 5 = 0) : Rt L 3 53 [.ref 15] h none g3 := by
  refine T_run 2 (st' := (2, [.ref 15, un_, un_], [.int 1, .ref 15], S0 L, h)) rfl ?_
  refine T_callR (S' := []) (h' := g0) r0 (by decide) rfl rfl rfl rfl rfl rfl rfl ?_
  refine T_run 7 (st' := (16, [.ref 15, un_, un_], [.int ((g0 9 2) - 1), .int 0, .ref 15], S0 L, g0)) rfl ?_
  refine T_callR (S' := [.int v1]) (h' := g1) r1 (by decide) rfl rfl rfl rfl rfl rfl rfl ?_
  refine T_run 8 (st' := (31, [.ref 15, .int v1, un_], [.int ((g1 9 2) - 1), .int 0, .ref 15], S0 L, g1)) rfl ?_
  refine T_callR (S' := [.int v2]) (h' := g2) r2 (by decide) rfl rfl rfl rfl rfl rfl rfl ?_
  refine T_run 3 (st' := (39, [.ref 15, .int v1, .int v2], [.int (g2 15 5)], S0 L, g2)) rfl ?_
  refine T_iff (c := ¬ (g2 15 5) = 0) (t := 63) (f := 42) (L := [.ref 15, .int v1, .int v2]) (S := []) (G := S0 L) (h := g2) rfl (fun z => z hf2) ?_
  refine T_run 4 (st' := (48, [.ref 15, .int v1, .int v2], [.int v2, .int v1, .ref 9], S0 L, g2)) rfl ?_
  refine T_callR (S' := [.int 1]) (h' := g2) rc (by decide) rfl rfl rfl rfl rfl rfl rfl ?_
  refine T_ift (c := ¬ 1 = 0) (t := 63) (f := 54) (L := [.ref 15, .int v1, .int v2]) (S := []) (G := S0 L) (h := g2) rfl (by decide) ?_
  refine T_run 1 (st' := (64, [.ref 15, .int v1, .int v2], [.ref 15], S0 L, g2)) rfl ?_
  refine T_callR (S' := []) (h' := g3) r3 (by decide) rfl rfl rfl rfl rfl rfl rfl ?_
  refine T_run 2 (st' := (71, [.ref 15, .int v1, .int v2], [.int (g3 15 5)], S0 L, g3)) rfl ?_
  refine T_ift (c := ¬ (g3 15 5) = 0) (t := 84) (f := 74) (L := [.ref 15, .int v1, .int v2]) (S := []) (G := S0 L) (h := g3) rfl hf ?_
  exact T_retR rfl rfl rfl rfl
theorem r_X4_readHanding_ok {L : Nat} (h : AH)  (g0 : AH) (r0 : Rt L 1 54 [.ref 15, .int 1] h none g0) (g1 : AH) (v1 : Int32) (r1 : Rt L 2 56 [.ref 15, .int 0, .int (g0 9 2 - 1)] g0 (some v1) g1) (g2 : AH) (v2 : Int32) (r2 : Rt L 2 56 [.ref 15, .int 0, .int (g1 9 2 - 1)] g1 (some v2) g2) (hf2 : g2 15 5 = 0) (rc : Rt L 2 69 [.ref 9, .int v1, .int v2] g2 (some 1) g2) (g3 : AH) (r3 : Rt L 2 55 [.ref 15] g2 none g3) (hf : g3 15 5 = 0) (kk : Nat) (ekk : v2 = nI kk) (hkk : kk < 5) : Rt L 3 53 [.ref 15] h none (st_ g3 12 kk v1) := by
  refine T_run 2 (st' := (2, [.ref 15, un_, un_], [.int 1, .ref 15], S0 L, h)) rfl ?_
  refine T_callR (S' := []) (h' := g0) r0 (by decide) rfl rfl rfl rfl rfl rfl rfl ?_
  refine T_run 7 (st' := (16, [.ref 15, un_, un_], [.int ((g0 9 2) - 1), .int 0, .ref 15], S0 L, g0)) rfl ?_
  refine T_callR (S' := [.int v1]) (h' := g1) r1 (by decide) rfl rfl rfl rfl rfl rfl rfl ?_
  refine T_run 8 (st' := (31, [.ref 15, .int v1, un_], [.int ((g1 9 2) - 1), .int 0, .ref 15], S0 L, g1)) rfl ?_
  refine T_callR (S' := [.int v2]) (h' := g2) r2 (by decide) rfl rfl rfl rfl rfl rfl rfl ?_
  refine T_run 3 (st' := (39, [.ref 15, .int v1, .int v2], [.int (g2 15 5)], S0 L, g2)) rfl ?_
  refine T_iff (c := ¬ (g2 15 5) = 0) (t := 63) (f := 42) (L := [.ref 15, .int v1, .int v2]) (S := []) (G := S0 L) (h := g2) rfl (fun z => z hf2) ?_
  refine T_run 4 (st' := (48, [.ref 15, .int v1, .int v2], [.int v2, .int v1, .ref 9], S0 L, g2)) rfl ?_
  refine T_callR (S' := [.int 1]) (h' := g2) rc (by decide) rfl rfl rfl rfl rfl rfl rfl ?_
  refine T_ift (c := ¬ 1 = 0) (t := 63) (f := 54) (L := [.ref 15, .int v1, .int v2]) (S := []) (G := S0 L) (h := g2) rfl (by decide) ?_
  refine T_run 1 (st' := (64, [.ref 15, .int v1, .int v2], [.ref 15], S0 L, g2)) rfl ?_
  refine T_callR (S' := []) (h' := g3) r3 (by decide) rfl rfl rfl rfl rfl rfl rfl ?_
  refine T_run 2 (st' := (71, [.ref 15, .int v1, .int v2], [.int (g3 15 5)], S0 L, g3)) rfl ?_
  refine T_iff (c := ¬ (g3 15 5) = 0) (t := 84) (f := 74) (L := [.ref 15, .int v1, .int v2]) (S := []) (G := S0 L) (h := g3) rfl (fun z => z hf) ?_
  refine T_run 5 (st' := (83, [.ref 15, .int v1, .int v2], [.int v1, .int v2, .ref 12], S0 L, g3)) rfl ?_
  refine T_ast (n := kk) rfl rfl ekk (by omega) (by decide) rfl ?_
  exact T_retR rfl rfl rfl rfl
theorem r_X4_readClause_un {L : Nat} (h : AH)  (N : Nat) (hN : h 15 2 = nI N) (hN2 : N ≤ 240) (a : Nat) (ha : h 15 3 = nI a) (ha2 : a ≤ 260) (ht : h 9 0 = 0) (hw : ¬ ltS (h 2) N a = 98) (hf : h 15 5 = 0) : Rt L 4 49 [.ref 15] h none (st_ (st_ h 15 5 1) 15 6 (nI a)) := by
  refine T_run 1 (st' := (1, [.ref 15, un_], [.ref 15], S0 L, h)) rfl ?_
  refine T_callR (S' := [.int (ltS (h 2) N a)]) (h' := h) (r_X4_letter (L := L) h  N hN hN2 a ha ha2) (by decide) rfl rfl rfl rfl rfl rfl rfl ?_
  refine T_run 4 (st' := (12, [.ref 15, .int (ltS (h 2) N a)], [.int (h 9 0)], S0 L, h)) rfl ?_
  refine T_iff (c := ¬ (h 9 0) = 0) (t := 31) (f := 15) (L := [.ref 15, .int (ltS (h 2) N a)]) (S := []) (G := S0 L) (h := h) rfl (fun z => z ht) ?_
  refine T_run 2 (st' := (18, [.ref 15, .int (ltS (h 2) N a)], [.int 98, .int (ltS (h 2) N a)], S0 L, h)) rfl ?_
  refine T_iff (c := (ltS (h 2) N a) = 98) (t := 31) (f := 21) (L := [.ref 15, .int (ltS (h 2) N a)]) (S := []) (G := S0 L) (h := h) rfl hw ?_
  refine T_run 4 (st' := (27, [.ref 15, .int (ltS (h 2) N a)], [.int (h 15 3), .int 1, .ref 15], S0 L, h)) rfl ?_
  refine T_callR (S' := []) (h' := (st_ (st_ h 15 5 1) 15 6 (h 15 3))) (r_X4_fail_l (L := L) h 1 (h 15 3) hf) (by decide) rfl rfl rfl rfl rfl rfl rfl ?_
  exact T_retR rfl rfl rfl (by rw [ha])
theorem r_X4_readClause_b0 {L : Nat} (h : AH)  (N : Nat) (hN : h 15 2 = nI N) (hN2 : N ≤ 240) (a : Nat) (ha : h 15 3 = nI a) (ha2 : a ≤ 260) (ht : h 9 0 = 0) (hw : ltS (h 2) N a = 98) (g : AH) (r : Rt L 3 50 [.ref 15] h none g) : Rt L 4 49 [.ref 15] h none g := by
  refine T_run 1 (st' := (1, [.ref 15, un_], [.ref 15], S0 L, h)) rfl ?_
  refine T_callR (S' := [.int (ltS (h 2) N a)]) (h' := h) (r_X4_letter (L := L) h  N hN hN2 a ha ha2) (by decide) rfl rfl rfl rfl rfl rfl rfl ?_
  refine T_run 4 (st' := (12, [.ref 15, .int (ltS (h 2) N a)], [.int (h 9 0)], S0 L, h)) rfl ?_
  refine T_iff (c := ¬ (h 9 0) = 0) (t := 31) (f := 15) (L := [.ref 15, .int (ltS (h 2) N a)]) (S := []) (G := S0 L) (h := h) rfl (fun z => z ht) ?_
  refine T_run 2 (st' := (18, [.ref 15, .int (ltS (h 2) N a)], [.int 98, .int (ltS (h 2) N a)], S0 L, h)) rfl ?_
  refine T_ift (c := (ltS (h 2) N a) = 98) (t := 31) (f := 21) (L := [.ref 15, .int (ltS (h 2) N a)]) (S := []) (G := S0 L) (h := h) rfl hw ?_
  refine T_run 1 (st' := (32, [.ref 15, .int (ltS (h 2) N a)], [.int (ltS (h 2) N a)], S0 L, h)) rfl ?_
  refine T_tswI (lo := 98) (i := 0) (t := 76) rfl hw rfl (by decide) ?_
  refine T_run 1 (st' := (77, [.ref 15, .int (ltS (h 2) N a)], [.ref 15], S0 L, h)) rfl ?_
  refine T_callR (S' := []) (h' := g) r (by decide) rfl rfl rfl rfl rfl rfl rfl ?_
  refine T_run 1 (st' := (113, [.ref 15, .int (ltS (h 2) N a)], [], S0 L, g)) rfl ?_
  exact T_retR rfl rfl rfl rfl
theorem r_X4_readClause_b1 {L : Nat} (h : AH)  (N : Nat) (hN : h 15 2 = nI N) (hN2 : N ≤ 240) (a : Nat) (ha : h 15 3 = nI a) (ha2 : a ≤ 260) (ht : ¬ h 9 0 = 0) (hw : ltS (h 2) N a = 98) (g : AH) (r : Rt L 3 50 [.ref 15] h none g) : Rt L 4 49 [.ref 15] h none g := by
  refine T_run 1 (st' := (1, [.ref 15, un_], [.ref 15], S0 L, h)) rfl ?_
  refine T_callR (S' := [.int (ltS (h 2) N a)]) (h' := h) (r_X4_letter (L := L) h  N hN hN2 a ha ha2) (by decide) rfl rfl rfl rfl rfl rfl rfl ?_
  refine T_run 4 (st' := (12, [.ref 15, .int (ltS (h 2) N a)], [.int (h 9 0)], S0 L, h)) rfl ?_
  refine T_ift (c := ¬ (h 9 0) = 0) (t := 31) (f := 15) (L := [.ref 15, .int (ltS (h 2) N a)]) (S := []) (G := S0 L) (h := h) rfl ht ?_
  refine T_run 1 (st' := (32, [.ref 15, .int (ltS (h 2) N a)], [.int (ltS (h 2) N a)], S0 L, h)) rfl ?_
  refine T_tswI (lo := 98) (i := 0) (t := 76) rfl hw rfl (by decide) ?_
  refine T_run 1 (st' := (77, [.ref 15, .int (ltS (h 2) N a)], [.ref 15], S0 L, h)) rfl ?_
  refine T_callR (S' := []) (h' := g) r (by decide) rfl rfl rfl rfl rfl rfl rfl ?_
  refine T_run 1 (st' := (113, [.ref 15, .int (ltS (h 2) N a)], [], S0 L, g)) rfl ?_
  exact T_retR rfl rfl rfl rfl
theorem r_X4_readClause_c {L : Nat} (h : AH)  (N : Nat) (hN : h 15 2 = nI N) (hN2 : N ≤ 240) (a : Nat) (ha : h 15 3 = nI a) (ha2 : a ≤ 260) (ht : ¬ h 9 0 = 0) (hw : ltS (h 2) N a = 99) (g : AH) (r : Rt L 3 51 [.ref 15] h none g) : Rt L 4 49 [.ref 15] h none g := by
  refine T_run 1 (st' := (1, [.ref 15, un_], [.ref 15], S0 L, h)) rfl ?_
  refine T_callR (S' := [.int (ltS (h 2) N a)]) (h' := h) (r_X4_letter (L := L) h  N hN hN2 a ha ha2) (by decide) rfl rfl rfl rfl rfl rfl rfl ?_
  refine T_run 4 (st' := (12, [.ref 15, .int (ltS (h 2) N a)], [.int (h 9 0)], S0 L, h)) rfl ?_
  refine T_ift (c := ¬ (h 9 0) = 0) (t := 31) (f := 15) (L := [.ref 15, .int (ltS (h 2) N a)]) (S := []) (G := S0 L) (h := h) rfl ht ?_
  refine T_run 1 (st' := (32, [.ref 15, .int (ltS (h 2) N a)], [.int (ltS (h 2) N a)], S0 L, h)) rfl ?_
  refine T_tswI (lo := 98) (i := 1) (t := 83) rfl hw rfl (by decide) ?_
  refine T_run 1 (st' := (84, [.ref 15, .int (ltS (h 2) N a)], [.ref 15], S0 L, h)) rfl ?_
  refine T_callR (S' := []) (h' := g) r (by decide) rfl rfl rfl rfl rfl rfl rfl ?_
  refine T_run 1 (st' := (113, [.ref 15, .int (ltS (h 2) N a)], [], S0 L, g)) rfl ?_
  exact T_retR rfl rfl rfl rfl
theorem r_X4_readClause_d {L : Nat} (h : AH)  (N : Nat) (hN : h 15 2 = nI N) (hN2 : N ≤ 240) (a : Nat) (ha : h 15 3 = nI a) (ha2 : a ≤ 260) (ht : ¬ h 9 0 = 0) (hw : ltS (h 2) N a = 100) (g : AH) (r : Rt L 3 52 [.ref 15] h none g) : Rt L 4 49 [.ref 15] h none g := by
  refine T_run 1 (st' := (1, [.ref 15, un_], [.ref 15], S0 L, h)) rfl ?_
  refine T_callR (S' := [.int (ltS (h 2) N a)]) (h' := h) (r_X4_letter (L := L) h  N hN hN2 a ha ha2) (by decide) rfl rfl rfl rfl rfl rfl rfl ?_
  refine T_run 4 (st' := (12, [.ref 15, .int (ltS (h 2) N a)], [.int (h 9 0)], S0 L, h)) rfl ?_
  refine T_ift (c := ¬ (h 9 0) = 0) (t := 31) (f := 15) (L := [.ref 15, .int (ltS (h 2) N a)]) (S := []) (G := S0 L) (h := h) rfl ht ?_
  refine T_run 1 (st' := (32, [.ref 15, .int (ltS (h 2) N a)], [.int (ltS (h 2) N a)], S0 L, h)) rfl ?_
  refine T_tswI (lo := 98) (i := 2) (t := 90) rfl hw rfl (by decide) ?_
  refine T_run 1 (st' := (91, [.ref 15, .int (ltS (h 2) N a)], [.ref 15], S0 L, h)) rfl ?_
  refine T_callR (S' := []) (h' := g) r (by decide) rfl rfl rfl rfl rfl rfl rfl ?_
  refine T_run 1 (st' := (113, [.ref 15, .int (ltS (h 2) N a)], [], S0 L, g)) rfl ?_
  exact T_retR rfl rfl rfl rfl
theorem r_X4_readClause_h {L : Nat} (h : AH)  (N : Nat) (hN : h 15 2 = nI N) (hN2 : N ≤ 240) (a : Nat) (ha : h 15 3 = nI a) (ha2 : a ≤ 260) (ht : ¬ h 9 0 = 0) (hw : ltS (h 2) N a = 104) (g : AH) (r : Rt L 3 53 [.ref 15] h none g) : Rt L 4 49 [.ref 15] h none g := by
  refine T_run 1 (st' := (1, [.ref 15, un_], [.ref 15], S0 L, h)) rfl ?_
  refine T_callR (S' := [.int (ltS (h 2) N a)]) (h' := h) (r_X4_letter (L := L) h  N hN hN2 a ha ha2) (by decide) rfl rfl rfl rfl rfl rfl rfl ?_
  refine T_run 4 (st' := (12, [.ref 15, .int (ltS (h 2) N a)], [.int (h 9 0)], S0 L, h)) rfl ?_
  refine T_ift (c := ¬ (h 9 0) = 0) (t := 31) (f := 15) (L := [.ref 15, .int (ltS (h 2) N a)]) (S := []) (G := S0 L) (h := h) rfl ht ?_
  refine T_run 1 (st' := (32, [.ref 15, .int (ltS (h 2) N a)], [.int (ltS (h 2) N a)], S0 L, h)) rfl ?_
  refine T_tswI (lo := 98) (i := 6) (t := 97) rfl hw rfl (by decide) ?_
  refine T_run 1 (st' := (98, [.ref 15, .int (ltS (h 2) N a)], [.ref 15], S0 L, h)) rfl ?_
  refine T_callR (S' := []) (h' := g) r (by decide) rfl rfl rfl rfl rfl rfl rfl ?_
  refine T_run 1 (st' := (113, [.ref 15, .int (ltS (h 2) N a)], [], S0 L, g)) rfl ?_
  exact T_retR rfl rfl rfl rfl
theorem r_X4_readClause_o3 {L : Nat} (h : AH)  (N : Nat) (hN : h 15 2 = nI N) (hN2 : N ≤ 240) (a : Nat) (ha : h 15 3 = nI a) (ha2 : a ≤ 260) (ht : ¬ h 9 0 = 0) (hf : h 15 5 = 0) (hw : ltS (h 2) N a = 101) : Rt L 4 49 [.ref 15] h none (st_ (st_ h 15 5 1) 15 6 (nI a)) := by
  refine T_run 1 (st' := (1, [.ref 15, un_], [.ref 15], S0 L, h)) rfl ?_
  refine T_callR (S' := [.int (ltS (h 2) N a)]) (h' := h) (r_X4_letter (L := L) h  N hN hN2 a ha ha2) (by decide) rfl rfl rfl rfl rfl rfl rfl ?_
  refine T_run 4 (st' := (12, [.ref 15, .int (ltS (h 2) N a)], [.int (h 9 0)], S0 L, h)) rfl ?_
  refine T_ift (c := ¬ (h 9 0) = 0) (t := 31) (f := 15) (L := [.ref 15, .int (ltS (h 2) N a)]) (S := []) (G := S0 L) (h := h) rfl ht ?_
  refine T_run 1 (st' := (32, [.ref 15, .int (ltS (h 2) N a)], [.int (ltS (h 2) N a)], S0 L, h)) rfl ?_
  refine T_tswI (lo := 98) (i := 3) (t := 104) rfl hw rfl (by decide) ?_
  refine T_run 4 (st' := (110, [.ref 15, .int (ltS (h 2) N a)], [.int (h 15 3), .int 1, .ref 15], S0 L, h)) rfl ?_
  refine T_callR (S' := []) (h' := (st_ (st_ h 15 5 1) 15 6 (h 15 3))) (r_X4_fail_l (L := L) h 1 (h 15 3) hf) (by decide) rfl rfl rfl rfl rfl rfl rfl ?_
  exact T_retR rfl rfl rfl (by rw [ha])
theorem r_X4_readClause_o4 {L : Nat} (h : AH)  (N : Nat) (hN : h 15 2 = nI N) (hN2 : N ≤ 240) (a : Nat) (ha : h 15 3 = nI a) (ha2 : a ≤ 260) (ht : ¬ h 9 0 = 0) (hf : h 15 5 = 0) (hw : ltS (h 2) N a = 102) : Rt L 4 49 [.ref 15] h none (st_ (st_ h 15 5 1) 15 6 (nI a)) := by
  refine T_run 1 (st' := (1, [.ref 15, un_], [.ref 15], S0 L, h)) rfl ?_
  refine T_callR (S' := [.int (ltS (h 2) N a)]) (h' := h) (r_X4_letter (L := L) h  N hN hN2 a ha ha2) (by decide) rfl rfl rfl rfl rfl rfl rfl ?_
  refine T_run 4 (st' := (12, [.ref 15, .int (ltS (h 2) N a)], [.int (h 9 0)], S0 L, h)) rfl ?_
  refine T_ift (c := ¬ (h 9 0) = 0) (t := 31) (f := 15) (L := [.ref 15, .int (ltS (h 2) N a)]) (S := []) (G := S0 L) (h := h) rfl ht ?_
  refine T_run 1 (st' := (32, [.ref 15, .int (ltS (h 2) N a)], [.int (ltS (h 2) N a)], S0 L, h)) rfl ?_
  refine T_tswI (lo := 98) (i := 4) (t := 104) rfl hw rfl (by decide) ?_
  refine T_run 4 (st' := (110, [.ref 15, .int (ltS (h 2) N a)], [.int (h 15 3), .int 1, .ref 15], S0 L, h)) rfl ?_
  refine T_callR (S' := []) (h' := (st_ (st_ h 15 5 1) 15 6 (h 15 3))) (r_X4_fail_l (L := L) h 1 (h 15 3) hf) (by decide) rfl rfl rfl rfl rfl rfl rfl ?_
  exact T_retR rfl rfl rfl (by rw [ha])
theorem r_X4_readClause_o5 {L : Nat} (h : AH)  (N : Nat) (hN : h 15 2 = nI N) (hN2 : N ≤ 240) (a : Nat) (ha : h 15 3 = nI a) (ha2 : a ≤ 260) (ht : ¬ h 9 0 = 0) (hf : h 15 5 = 0) (hw : ltS (h 2) N a = 103) : Rt L 4 49 [.ref 15] h none (st_ (st_ h 15 5 1) 15 6 (nI a)) := by
  refine T_run 1 (st' := (1, [.ref 15, un_], [.ref 15], S0 L, h)) rfl ?_
  refine T_callR (S' := [.int (ltS (h 2) N a)]) (h' := h) (r_X4_letter (L := L) h  N hN hN2 a ha ha2) (by decide) rfl rfl rfl rfl rfl rfl rfl ?_
  refine T_run 4 (st' := (12, [.ref 15, .int (ltS (h 2) N a)], [.int (h 9 0)], S0 L, h)) rfl ?_
  refine T_ift (c := ¬ (h 9 0) = 0) (t := 31) (f := 15) (L := [.ref 15, .int (ltS (h 2) N a)]) (S := []) (G := S0 L) (h := h) rfl ht ?_
  refine T_run 1 (st' := (32, [.ref 15, .int (ltS (h 2) N a)], [.int (ltS (h 2) N a)], S0 L, h)) rfl ?_
  refine T_tswI (lo := 98) (i := 5) (t := 104) rfl hw rfl (by decide) ?_
  refine T_run 4 (st' := (110, [.ref 15, .int (ltS (h 2) N a)], [.int (h 15 3), .int 1, .ref 15], S0 L, h)) rfl ?_
  refine T_callR (S' := []) (h' := (st_ (st_ h 15 5 1) 15 6 (h 15 3))) (r_X4_fail_l (L := L) h 1 (h 15 3) hf) (by decide) rfl rfl rfl rfl rfl rfl rfl ?_
  exact T_retR rfl rfl rfl (by rw [ha])
theorem r_X4_readClause_o {L : Nat} (h : AH)  (N : Nat) (hN : h 15 2 = nI N) (hN2 : N ≤ 240) (a : Nat) (ha : h 15 3 = nI a) (ha2 : a ≤ 260) (ht : ¬ h 9 0 = 0) (hf : h 15 5 = 0) (hw : ∀ i, i < 7 → ¬ ltS (h 2) N a = nI (98 + i)) : Rt L 4 49 [.ref 15] h none (st_ (st_ h 15 5 1) 15 6 (nI a)) := by
  refine T_run 1 (st' := (1, [.ref 15, un_], [.ref 15], S0 L, h)) rfl ?_
  refine T_callR (S' := [.int (ltS (h 2) N a)]) (h' := h) (r_X4_letter (L := L) h  N hN hN2 a ha ha2) (by decide) rfl rfl rfl rfl rfl rfl rfl ?_
  refine T_run 4 (st' := (12, [.ref 15, .int (ltS (h 2) N a)], [.int (h 9 0)], S0 L, h)) rfl ?_
  refine T_ift (c := ¬ (h 9 0) = 0) (t := 31) (f := 15) (L := [.ref 15, .int (ltS (h 2) N a)]) (S := []) (G := S0 L) (h := h) rfl ht ?_
  refine T_run 1 (st' := (32, [.ref 15, .int (ltS (h 2) N a)], [.int (ltS (h 2) N a)], S0 L, h)) rfl ?_
  refine T_tswD (lo := 98) (ts := [76, 83, 90, 104, 104, 104, 97]) (dd := 104) rfl hw (by decide) ?_
  refine T_run 4 (st' := (110, [.ref 15, .int (ltS (h 2) N a)], [.int (h 15 3), .int 1, .ref 15], S0 L, h)) rfl ?_
  refine T_callR (S' := []) (h' := (st_ (st_ h 15 5 1) 15 6 (h 15 3))) (r_X4_fail_l (L := L) h 1 (h 15 3) hf) (by decide) rfl rfl rfl rfl rfl rfl rfl ?_
  exact T_retR rfl rfl rfl (by rw [ha])
theorem s_readText0 {L : Nat} {Q : Post} (h : AH) (N : Nat) (hN2 : N ≤ 240) (k : T 5 47 0 0 (41, [.ref 15, .int (nI N), .int 0], [], S0 L, (st_ (st_ (st_ (st_ (st_ (st_ (st_ (st_ (st_ h 15 2 (nI N)) 15 3 0) 15 5 0) 15 6 (-1)) 9 0 0) 9 1 0) 9 2 0) 9 3 0) 15 3 (nI (skp (h 2) N 0)))) Q) : T 5 47 0 0 (entS 47 [.ref 15, .int (nI N)] (S0 L) h) Q := by
  refine T_run 6 (st' := (10, [.ref 15, .int (nI N), un_], [.int (if 240 < nI N then 240 else nI N), .ref 15], S0 L, h)) rfl ?_
  refine T_st (st' := (10, [.ref 15, .int (nI N), un_], [.int (nI N), .ref 15], S0 L, h)) (by rw [min240 hN2]) ?_
  refine T_run 12 (st' := (32, [.ref 15, .int (nI N), un_], [.ref 9], S0 L, (st_ (st_ (st_ (st_ h 15 2 (nI N)) 15 3 0) 15 5 0) 15 6 (-1)))) rfl ?_
  refine T_callR (S' := []) (h' := (st_ (st_ (st_ (st_ (st_ (st_ (st_ (st_ h 15 2 (nI N)) 15 3 0) 15 5 0) 15 6 (-1)) 9 0 0) 9 1 0) 9 2 0) 9 3 0)) (r_X5_wipe (L := L) (st_ (st_ (st_ (st_ h 15 2 (nI N)) 15 3 0) 15 5 0) 15 6 (-1))  ) (by decide) rfl rfl rfl rfl rfl rfl rfl ?_
  refine T_run 1 (st' := (36, [.ref 15, .int (nI N), un_], [.ref 15], S0 L, (st_ (st_ (st_ (st_ (st_ (st_ (st_ (st_ h 15 2 (nI N)) 15 3 0) 15 5 0) 15 6 (-1)) 9 0 0) 9 1 0) 9 2 0) 9 3 0))) rfl ?_
  refine T_callR (S' := []) (h' := (st_ (st_ (st_ (st_ (st_ (st_ (st_ (st_ (st_ h 15 2 (nI N)) 15 3 0) 15 5 0) 15 6 (-1)) 9 0 0) 9 1 0) 9 2 0) 9 3 0) 15 3 (nI (skp (h 2) N 0)))) (r_X4_skipBlanks (L := L) (st_ (st_ (st_ (st_ (st_ (st_ (st_ (st_ h 15 2 (nI N)) 15 3 0) 15 5 0) 15 6 (-1)) 9 0 0) 9 1 0) 9 2 0) 9 3 0)  N rfl hN2 0 rfl (by omega)) (by decide) rfl rfl rfl rfl rfl rfl rfl ?_
  refine T_run 2 (st' := (41, [.ref 15, .int (nI N), .int 0], [], S0 L, (st_ (st_ (st_ (st_ (st_ (st_ (st_ (st_ (st_ h 15 2 (nI N)) 15 3 0) 15 5 0) 15 6 (-1)) 9 0 0) 9 1 0) 9 2 0) 9 3 0) 15 3 (nI (skp (h 2) N 0))))) rfl ?_
  exact k
theorem s_readText1 {L : Nat} {Q : Post} (h : AH) (x : Int32) (i : Nat) (N : Nat) (hN : h 15 2 = nI N) (hN2 : N ≤ 240) (a : Nat) (ha : h 15 3 = nI a) (ha2 : a ≤ 260) (hi : i < N) (haN : a < N) (hf : h 15 5 = 0) (g : AH) (r : Rt L 4 49 [.ref 15] h none g) (g2 : AH) (r2 : Rt L 1 58 [.ref 15] g none g2) (k : T 5 47 0 0 (41, [.ref 15, .int x, .int (nI (i + 1))], [], S0 L, g2) Q) : T 5 47 0 0 (41, [.ref 15, .int x, .int (nI i)], [], S0 L, h) Q := by
  refine T_run 3 (st' := (46, [.ref 15, .int x, .int (nI i)], [.int (h 15 2), .int (nI i)], S0 L, h)) rfl ?_
  refine T_iffP (c := (h 15 2) ≤ (nI i)) (P := N ≤ i) (t := 81) (f := 49) (L := [.ref 15, .int x, .int (nI i)]) (S := []) (G := S0 L) (h := h) rfl (nI_leE hN rfl (by omega) (by omega)) (by omega) ?_
  refine T_run 4 (st' := (57, [.ref 15, .int x, .int (nI i)], [.int (h 15 2), .int (h 15 3)], S0 L, h)) rfl ?_
  refine T_iffP (c := (h 15 2) ≤ (h 15 3)) (P := N ≤ a) (t := 81) (f := 60) (L := [.ref 15, .int x, .int (nI i)]) (S := []) (G := S0 L) (h := h) rfl (nI_leE hN ha (by omega) (by omega)) (by omega) ?_
  refine T_run 2 (st' := (64, [.ref 15, .int x, .int (nI i)], [.int (h 15 5)], S0 L, h)) rfl ?_
  refine T_iff (c := ¬ (h 15 5) = 0) (t := 81) (f := 67) (L := [.ref 15, .int x, .int (nI i)]) (S := []) (G := S0 L) (h := h) rfl (fun z => z hf) ?_
  refine T_run 1 (st' := (68, [.ref 15, .int x, .int (nI i)], [.ref 15], S0 L, h)) rfl ?_
  refine T_callR (S' := []) (h' := g) r (by decide) rfl rfl rfl rfl rfl rfl rfl ?_
  refine T_run 1 (st' := (72, [.ref 15, .int x, .int (nI i)], [.ref 15], S0 L, g)) rfl ?_
  refine T_callR (S' := []) (h' := g2) r2 (by decide) rfl rfl rfl rfl rfl rfl rfl ?_
  refine T_run 2 (st' := (41, [.ref 15, .int x, .int (nI i + 1)], [], S0 L, g2)) rfl ?_
  exact T_st (by rw [nI_1]) k
theorem s_readText2a {L : Nat} (h : AH) (x : Int32) (i : Nat) (hi : i < 1000) (N : Nat) (hN : h 15 2 = nI N) (hN2 : N ≤ 240) (a : Nat) (ha : h 15 3 = nI a) (ha2 : a ≤ 260) (haN : ¬ a < N) : T 5 47 0 0 (41, [.ref 15, .int x, .int (nI i)], [], S0 L, h) (fun v1 G1 h1 => v1 = some (h 15 5) ∧ G1 = S0 L ∧ h1 = h) := by
  refine T_run 3 (st' := (46, [.ref 15, .int x, .int (nI i)], [.int (h 15 2), .int (nI i)], S0 L, h)) rfl ?_
  refine T_ifP (c := (h 15 2) ≤ (nI i)) (P := N ≤ i) (t := 81) (f := 49) (L := [.ref 15, .int x, .int (nI i)]) (S := []) (G := S0 L) (h := h) rfl (nI_leE hN rfl (by omega) (by omega)) (fun q46 => ?_) (fun q46 => ?_)
  · refine T_run 2 (st' := (85, [.ref 15, .int x, .int (nI i)], [.int (h 15 5)], S0 L, h)) rfl ?_
    exact T_retR rfl rfl rfl rfl
  · refine T_run 4 (st' := (57, [.ref 15, .int x, .int (nI i)], [.int (h 15 2), .int (h 15 3)], S0 L, h)) rfl ?_
    refine T_iftP (c := (h 15 2) ≤ (h 15 3)) (P := N ≤ a) (t := 81) (f := 60) (L := [.ref 15, .int x, .int (nI i)]) (S := []) (G := S0 L) (h := h) rfl (nI_leE hN ha (by omega) (by omega)) (by omega) ?_
    refine T_run 2 (st' := (85, [.ref 15, .int x, .int (nI i)], [.int (h 15 5)], S0 L, h)) rfl ?_
    exact T_retR rfl rfl rfl rfl
theorem s_readText2f {L : Nat} (h : AH) (x : Int32) (i : Nat) (hi : i < 1000) (N : Nat) (hN : h 15 2 = nI N) (hN2 : N ≤ 240) (a : Nat) (ha : h 15 3 = nI a) (ha2 : a ≤ 260) (hf : ¬ h 15 5 = 0) : T 5 47 0 0 (41, [.ref 15, .int x, .int (nI i)], [], S0 L, h) (fun v1 G1 h1 => v1 = some (h 15 5) ∧ G1 = S0 L ∧ h1 = h) := by
  refine T_run 3 (st' := (46, [.ref 15, .int x, .int (nI i)], [.int (h 15 2), .int (nI i)], S0 L, h)) rfl ?_
  refine T_ifP (c := (h 15 2) ≤ (nI i)) (P := N ≤ i) (t := 81) (f := 49) (L := [.ref 15, .int x, .int (nI i)]) (S := []) (G := S0 L) (h := h) rfl (nI_leE hN rfl (by omega) (by omega)) (fun q46 => ?_) (fun q46 => ?_)
  · refine T_run 2 (st' := (85, [.ref 15, .int x, .int (nI i)], [.int (h 15 5)], S0 L, h)) rfl ?_
    exact T_retR rfl rfl rfl rfl
  · refine T_run 4 (st' := (57, [.ref 15, .int x, .int (nI i)], [.int (h 15 2), .int (h 15 3)], S0 L, h)) rfl ?_
    refine T_ifP (c := (h 15 2) ≤ (h 15 3)) (P := N ≤ a) (t := 81) (f := 60) (L := [.ref 15, .int x, .int (nI i)]) (S := []) (G := S0 L) (h := h) rfl (nI_leE hN ha (by omega) (by omega)) (fun q57 => ?_) (fun q57 => ?_)
    · refine T_run 2 (st' := (85, [.ref 15, .int x, .int (nI i)], [.int (h 15 5)], S0 L, h)) rfl ?_
      exact T_retR rfl rfl rfl rfl
    · refine T_run 2 (st' := (64, [.ref 15, .int x, .int (nI i)], [.int (h 15 5)], S0 L, h)) rfl ?_
      refine T_ift (c := ¬ (h 15 5) = 0) (t := 81) (f := 67) (L := [.ref 15, .int x, .int (nI i)]) (S := []) (G := S0 L) (h := h) rfl hf ?_
      refine T_run 2 (st' := (85, [.ref 15, .int x, .int (nI i)], [.int (h 15 5)], S0 L, h)) rfl ?_
      exact T_retR rfl rfl rfl rfl
theorem r_X4_faultPlace {L : Nat} (h : AH)   : Rt L 0 48 [.ref 15] h (some (h 15 6)) h := by
  refine T_run 2 (st' := (4, [.ref 15], [.int (h 15 6)], S0 L, h)) rfl ?_
  exact T_retR rfl rfl rfl rfl
theorem r_X5_copyFrom {L : Nat} (h : AH)  (ht : h 9 0 = 0 ∨ h 9 0 = 1) : Rt L 0 63 [.ref 3, .ref 9] h none (sc_ (sc_ (sc_ (sc_ (sc_ (st_ (st_ (st_ (st_ h 3 0 (h 9 0)) 3 1 (h 9 1)) 3 2 (h 9 2)) 3 3 (h 9 3)) 4 (va_cpy (h 10) (h 4) 0 0 5)) 5 (va_cpy (h 11) (h 5) 0 0 5)) 6 (va_cpy (h 12) (h 6) 0 0 5)) 7 (va_cpy (h 13) (h 7) 0 0 7)) 8 (va_cpy (h 14) (h 8) 0 0 7)) := by
  refine T_run 3 (st' := (5, [.ref 3, .ref 9], [.int (h 9 0), .ref 3], S0 L, h)) rfl ?_
  refine T_putZ rfl rfl (by assumption) rfl ?_
  refine T_run 19 (st' := (43, [.ref 3, .ref 9], [.int 5, .int 0, .ref 4, .int 0, .ref 10], S0 L, (st_ (st_ (st_ (st_ h 3 0 (h 9 0)) 3 1 (h 9 1)) 3 2 (h 9 2)) 3 3 (h 9 3)))) rfl ?_
  refine T_copy (nn := 5) (sn := 0) (dn := 0) rfl rfl rfl rfl rfl rfl (by omega) (by omega) (by decide) rfl rfl ?_
  refine T_run 7 (st' := (57, [.ref 3, .ref 9], [.int 5, .int 0, .ref 5, .int 0, .ref 11], S0 L, (sc_ (st_ (st_ (st_ (st_ h 3 0 (h 9 0)) 3 1 (h 9 1)) 3 2 (h 9 2)) 3 3 (h 9 3)) 4 (va_cpy (h 10) (h 4) 0 0 5)))) rfl ?_
  refine T_copy (nn := 5) (sn := 0) (dn := 0) rfl rfl rfl rfl rfl rfl (by omega) (by omega) (by decide) rfl rfl ?_
  refine T_run 7 (st' := (71, [.ref 3, .ref 9], [.int 5, .int 0, .ref 6, .int 0, .ref 12], S0 L, (sc_ (sc_ (st_ (st_ (st_ (st_ h 3 0 (h 9 0)) 3 1 (h 9 1)) 3 2 (h 9 2)) 3 3 (h 9 3)) 4 (va_cpy (h 10) (h 4) 0 0 5)) 5 (va_cpy (h 11) (h 5) 0 0 5)))) rfl ?_
  refine T_copy (nn := 5) (sn := 0) (dn := 0) rfl rfl rfl rfl rfl rfl (by omega) (by omega) (by decide) rfl rfl ?_
  refine T_run 7 (st' := (86, [.ref 3, .ref 9], [.int 7, .int 0, .ref 7, .int 0, .ref 13], S0 L, (sc_ (sc_ (sc_ (st_ (st_ (st_ (st_ h 3 0 (h 9 0)) 3 1 (h 9 1)) 3 2 (h 9 2)) 3 3 (h 9 3)) 4 (va_cpy (h 10) (h 4) 0 0 5)) 5 (va_cpy (h 11) (h 5) 0 0 5)) 6 (va_cpy (h 12) (h 6) 0 0 5)))) rfl ?_
  refine T_copy (nn := 7) (sn := 0) (dn := 0) rfl rfl rfl rfl rfl rfl (by omega) (by omega) (by decide) rfl rfl ?_
  refine T_run 7 (st' := (101, [.ref 3, .ref 9], [.int 7, .int 0, .ref 8, .int 0, .ref 14], S0 L, (sc_ (sc_ (sc_ (sc_ (st_ (st_ (st_ (st_ h 3 0 (h 9 0)) 3 1 (h 9 1)) 3 2 (h 9 2)) 3 3 (h 9 3)) 4 (va_cpy (h 10) (h 4) 0 0 5)) 5 (va_cpy (h 11) (h 5) 0 0 5)) 6 (va_cpy (h 12) (h 6) 0 0 5)) 7 (va_cpy (h 13) (h 7) 0 0 7)))) rfl ?_
  refine T_copy (nn := 7) (sn := 0) (dn := 0) rfl rfl rfl rfl rfl rfl (by omega) (by omega) (by decide) rfl rfl ?_
  exact T_retR rfl rfl rfl rfl
theorem r_X2_forget21 {L : Nat} (h : AH)   : Rt L 0 34 [.ref 21] h none (st_ h 21 9 0) := by
  refine T_run 3 (st' := (5, [.ref 21], [], S0 L, (st_ h 21 9 0))) rfl ?_
  exact T_retR rfl rfl rfl rfl
theorem r_X2_forget26 {L : Nat} (h : AH)   : Rt L 0 34 [.ref 26] h none (st_ h 26 9 0) := by
  refine T_run 3 (st' := (5, [.ref 26], [], S0 L, (st_ h 26 9 0))) rfl ?_
  exact T_retR rfl rfl rfl rfl
theorem r_X8_beginAnew {L : Nat} (h : AH)   : Rt L 2 113 [.ref 1] h none (st_ (st_ (st_ (st_ (st_ (st_ (st_ (st_ (sc_ h 17 (fun q => if q < 22 then (if 7 ≤ q ∧ q < 14 then -1 else 0) else (h 17) q)) 18 1 0) 18 2 0) 33 5 0) 33 6 0) 21 9 0) 26 9 0) 39 2 0) 41 2 0) := by
  refine T_run 2 (st' := (4, [.ref 1, un_], [.ref 16], S0 L, h)) rfl ?_
  refine T_callR (S' := []) (h' := (sc_ h 17 (fun q => if q < 22 then (if 7 ≤ q ∧ q < 14 then -1 else 0) else (h 17) q))) (r_X0_wipe (L := L) h  ) (by decide) rfl rfl rfl rfl rfl rfl rfl ?_
  refine T_run 2 (st' := (11, [.ref 1, un_], [.ref 18], S0 L, (sc_ h 17 (fun q => if q < 22 then (if 7 ≤ q ∧ q < 14 then -1 else 0) else (h 17) q)))) rfl ?_
  refine T_callR (S' := []) (h' := (st_ (st_ (sc_ h 17 (fun q => if q < 22 then (if 7 ≤ q ∧ q < 14 then -1 else 0) else (h 17) q)) 18 1 0) 18 2 0)) (r_X3_wipe (L := L) (sc_ h 17 (fun q => if q < 22 then (if 7 ≤ q ∧ q < 14 then -1 else 0) else (h 17) q))  ) (by decide) rfl rfl rfl rfl rfl rfl rfl ?_
  refine T_run 2 (st' := (18, [.ref 1, un_], [.ref 33], S0 L, (st_ (st_ (sc_ h 17 (fun q => if q < 22 then (if 7 ≤ q ∧ q < 14 then -1 else 0) else (h 17) q)) 18 1 0) 18 2 0))) rfl ?_
  refine T_callR (S' := []) (h' := (st_ (st_ (st_ (st_ (sc_ h 17 (fun q => if q < 22 then (if 7 ≤ q ∧ q < 14 then -1 else 0) else (h 17) q)) 18 1 0) 18 2 0) 33 5 0) 33 6 0)) (r_X7_wipe (L := L) (st_ (st_ (sc_ h 17 (fun q => if q < 22 then (if 7 ≤ q ∧ q < 14 then -1 else 0) else (h 17) q)) 18 1 0) 18 2 0)  ) (by decide) rfl rfl rfl rfl rfl rfl rfl ?_
  refine T_run 2 (st' := (25, [.ref 1, un_], [.ref 21], S0 L, (st_ (st_ (st_ (st_ (sc_ h 17 (fun q => if q < 22 then (if 7 ≤ q ∧ q < 14 then -1 else 0) else (h 17) q)) 18 1 0) 18 2 0) 33 5 0) 33 6 0))) rfl ?_
  refine T_callR (S' := []) (h' := (st_ (st_ (st_ (st_ (st_ (sc_ h 17 (fun q => if q < 22 then (if 7 ≤ q ∧ q < 14 then -1 else 0) else (h 17) q)) 18 1 0) 18 2 0) 33 5 0) 33 6 0) 21 9 0)) (r_X2_forget21 (L := L) (st_ (st_ (st_ (st_ (sc_ h 17 (fun q => if q < 22 then (if 7 ≤ q ∧ q < 14 then -1 else 0) else (h 17) q)) 18 1 0) 18 2 0) 33 5 0) 33 6 0)  ) (by decide) rfl rfl rfl rfl rfl rfl rfl ?_
  refine T_run 2 (st' := (32, [.ref 1, un_], [.ref 26], S0 L, (st_ (st_ (st_ (st_ (st_ (sc_ h 17 (fun q => if q < 22 then (if 7 ≤ q ∧ q < 14 then -1 else 0) else (h 17) q)) 18 1 0) 18 2 0) 33 5 0) 33 6 0) 21 9 0))) rfl ?_
  refine T_callR (S' := []) (h' := (st_ (st_ (st_ (st_ (st_ (st_ (sc_ h 17 (fun q => if q < 22 then (if 7 ≤ q ∧ q < 14 then -1 else 0) else (h 17) q)) 18 1 0) 18 2 0) 33 5 0) 33 6 0) 21 9 0) 26 9 0)) (r_X2_forget26 (L := L) (st_ (st_ (st_ (st_ (st_ (sc_ h 17 (fun q => if q < 22 then (if 7 ≤ q ∧ q < 14 then -1 else 0) else (h 17) q)) 18 1 0) 18 2 0) 33 5 0) 33 6 0) 21 9 0)  ) (by decide) rfl rfl rfl rfl rfl rfl rfl ?_
  refine T_run 6 (st' := (43, [.ref 1, .int 0], [.int 2, .int 0], S0 L, (st_ (st_ (st_ (st_ (st_ (st_ (sc_ h 17 (fun q => if q < 22 then (if 7 ≤ q ∧ q < 14 then -1 else 0) else (h 17) q)) 18 1 0) 18 2 0) 33 5 0) 33 6 0) 21 9 0) 26 9 0))) rfl ?_
  refine T_iffP (c := 2 ≤ 0) (P := 2 ≤ 0) (t := 62) (f := 46) (L := [.ref 1, .int 0]) (S := []) (G := S0 L) (h := (st_ (st_ (st_ (st_ (st_ (st_ (sc_ h 17 (fun q => if q < 22 then (if 7 ≤ q ∧ q < 14 then -1 else 0) else (h 17) q)) 18 1 0) 18 2 0) 33 5 0) 33 6 0) 21 9 0) 26 9 0)) rfl (nI_leE rfl rfl (by omega) (by omega)) (by decide) ?_
  refine T_run 3 (st' := (51, [.ref 1, .int 0], [.int 0, .ref 20], S0 L, (st_ (st_ (st_ (st_ (st_ (st_ (sc_ h 17 (fun q => if q < 22 then (if 7 ≤ q ∧ q < 14 then -1 else 0) else (h 17) q)) 18 1 0) 18 2 0) 33 5 0) 33 6 0) 21 9 0) 26 9 0))) rfl ?_
  refine T_aald (n := 0) rfl rfl rfl (by decide) (by decide) rfl rfl ?_
  refine T_run 8 (st' := (43, [.ref 1, .int 1], [.int 2, .int 1], S0 L, (st_ (st_ (st_ (st_ (st_ (st_ (st_ (sc_ h 17 (fun q => if q < 22 then (if 7 ≤ q ∧ q < 14 then -1 else 0) else (h 17) q)) 18 1 0) 18 2 0) 33 5 0) 33 6 0) 21 9 0) 26 9 0) 39 2 0))) rfl ?_
  refine T_iffP (c := 2 ≤ 1) (P := 2 ≤ 1) (t := 62) (f := 46) (L := [.ref 1, .int 1]) (S := []) (G := S0 L) (h := (st_ (st_ (st_ (st_ (st_ (st_ (st_ (sc_ h 17 (fun q => if q < 22 then (if 7 ≤ q ∧ q < 14 then -1 else 0) else (h 17) q)) 18 1 0) 18 2 0) 33 5 0) 33 6 0) 21 9 0) 26 9 0) 39 2 0)) rfl (nI_leE rfl rfl (by omega) (by omega)) (by decide) ?_
  refine T_run 3 (st' := (51, [.ref 1, .int 1], [.int 1, .ref 20], S0 L, (st_ (st_ (st_ (st_ (st_ (st_ (st_ (sc_ h 17 (fun q => if q < 22 then (if 7 ≤ q ∧ q < 14 then -1 else 0) else (h 17) q)) 18 1 0) 18 2 0) 33 5 0) 33 6 0) 21 9 0) 26 9 0) 39 2 0))) rfl ?_
  refine T_aald (n := 1) rfl rfl rfl (by decide) (by decide) rfl rfl ?_
  refine T_run 8 (st' := (43, [.ref 1, .int 2], [.int 2, .int 2], S0 L, (st_ (st_ (st_ (st_ (st_ (st_ (st_ (st_ (sc_ h 17 (fun q => if q < 22 then (if 7 ≤ q ∧ q < 14 then -1 else 0) else (h 17) q)) 18 1 0) 18 2 0) 33 5 0) 33 6 0) 21 9 0) 26 9 0) 39 2 0) 41 2 0))) rfl ?_
  refine T_iftP (c := 2 ≤ 2) (P := 2 ≤ 2) (t := 62) (f := 46) (L := [.ref 1, .int 2]) (S := []) (G := S0 L) (h := (st_ (st_ (st_ (st_ (st_ (st_ (st_ (st_ (sc_ h 17 (fun q => if q < 22 then (if 7 ≤ q ∧ q < 14 then -1 else 0) else (h 17) q)) 18 1 0) 18 2 0) 33 5 0) 33 6 0) 21 9 0) 26 9 0) 39 2 0) 41 2 0)) rfl (nI_leE rfl rfl (by omega) (by omega)) (by decide) ?_
  exact T_retR rfl rfl rfl rfl
theorem r_X8_school_bad {L : Nat} (h : AH)  (g : AH) (f : Int32) (r : Rt L 5 47 [.ref 15, .int (h 1 1)] h (some f) g) (hf : ¬ f = 0) : Rt L 6 86 [.ref 1] h (some (-10 - f)) (st_ (st_ g 1 1 0) 1 2 (g 15 6)) := by
  refine T_run 4 (st' := (8, [.ref 1, un_], [.int (h 1 1), .ref 15], S0 L, h)) rfl ?_
  refine T_callR (S' := [.int f]) (h' := g) r (by decide) rfl rfl rfl rfl rfl rfl rfl ?_
  refine T_run 7 (st' := (22, [.ref 1, .int f], [.ref 15, .ref 1], S0 L, (st_ g 1 1 0))) rfl ?_
  refine T_callR (S' := [.int (g 15 6), .ref 1]) (h' := (st_ g 1 1 0)) (r_X4_faultPlace (L := L) (st_ g 1 1 0)  ) (by decide) rfl rfl rfl rfl rfl rfl rfl ?_
  refine T_run 2 (st' := (29, [.ref 1, .int f], [.int f], S0 L, (st_ (st_ g 1 1 0) 1 2 (g 15 6)))) rfl ?_
  refine T_iff (c := f = 0) (t := 37) (f := 32) (L := [.ref 1, .int f]) (S := []) (G := S0 L) (h := (st_ (st_ g 1 1 0) 1 2 (g 15 6))) rfl hf ?_
  refine T_run 3 (st' := (36, [.ref 1, .int f], [.int ((-10) - f)], S0 L, (st_ (st_ g 1 1 0) 1 2 (g 15 6)))) rfl ?_
  exact T_retR rfl rfl (by first | rfl | simp [b2i, *]) rfl
theorem r_X8_school_ok {L : Nat} (h : AH)  (g : AH) (f : Int32) (r : Rt L 5 47 [.ref 15, .int (h 1 1)] h (some f) g) (hf : f = 0) (ht : g 9 0 = 0 ∨ g 9 0 = 1) : Rt L 6 86 [.ref 1] h (some (g 9 2)) (st_ (st_ (st_ (st_ (st_ (st_ (st_ (st_ (sc_ (sc_ (sc_ (sc_ (sc_ (sc_ (st_ (st_ (st_ (st_ (st_ (st_ g 1 1 0) 1 2 (g 15 6)) 3 0 (g 9 0)) 3 1 (g 9 1)) 3 2 (g 9 2)) 3 3 (g 9 3)) 4 (va_cpy (g 10) (g 4) 0 0 5)) 5 (va_cpy (g 11) (g 5) 0 0 5)) 6 (va_cpy (g 12) (g 6) 0 0 5)) 7 (va_cpy (g 13) (g 7) 0 0 7)) 8 (va_cpy (g 14) (g 8) 0 0 7)) 17 (fun q => if q < 22 then (if 7 ≤ q ∧ q < 14 then -1 else 0) else (g 17) q)) 18 1 0) 18 2 0) 33 5 0) 33 6 0) 21 9 0) 26 9 0) 39 2 0) 41 2 0) := by
  refine T_run 4 (st' := (8, [.ref 1, un_], [.int (h 1 1), .ref 15], S0 L, h)) rfl ?_
  refine T_callR (S' := [.int f]) (h' := g) r (by decide) rfl rfl rfl rfl rfl rfl rfl ?_
  refine T_run 7 (st' := (22, [.ref 1, .int f], [.ref 15, .ref 1], S0 L, (st_ g 1 1 0))) rfl ?_
  refine T_callR (S' := [.int (g 15 6), .ref 1]) (h' := (st_ g 1 1 0)) (r_X4_faultPlace (L := L) (st_ g 1 1 0)  ) (by decide) rfl rfl rfl rfl rfl rfl rfl ?_
  refine T_run 2 (st' := (29, [.ref 1, .int f], [.int f], S0 L, (st_ (st_ g 1 1 0) 1 2 (g 15 6)))) rfl ?_
  refine T_ift (c := f = 0) (t := 37) (f := 32) (L := [.ref 1, .int f]) (S := []) (G := S0 L) (h := (st_ (st_ g 1 1 0) 1 2 (g 15 6))) rfl hf ?_
  refine T_run 4 (st' := (45, [.ref 1, .int f], [.ref 9, .ref 3], S0 L, (st_ (st_ g 1 1 0) 1 2 (g 15 6)))) rfl ?_
  refine T_callR (S' := []) (h' := (sc_ (sc_ (sc_ (sc_ (sc_ (st_ (st_ (st_ (st_ (st_ (st_ g 1 1 0) 1 2 (g 15 6)) 3 0 (g 9 0)) 3 1 (g 9 1)) 3 2 (g 9 2)) 3 3 (g 9 3)) 4 (va_cpy (g 10) (g 4) 0 0 5)) 5 (va_cpy (g 11) (g 5) 0 0 5)) 6 (va_cpy (g 12) (g 6) 0 0 5)) 7 (va_cpy (g 13) (g 7) 0 0 7)) 8 (va_cpy (g 14) (g 8) 0 0 7))) (r_X5_copyFrom (L := L) (st_ (st_ g 1 1 0) 1 2 (g 15 6))  ht) (by decide) rfl rfl rfl rfl rfl rfl rfl ?_
  refine T_run 1 (st' := (49, [.ref 1, .int f], [.ref 1], S0 L, (sc_ (sc_ (sc_ (sc_ (sc_ (st_ (st_ (st_ (st_ (st_ (st_ g 1 1 0) 1 2 (g 15 6)) 3 0 (g 9 0)) 3 1 (g 9 1)) 3 2 (g 9 2)) 3 3 (g 9 3)) 4 (va_cpy (g 10) (g 4) 0 0 5)) 5 (va_cpy (g 11) (g 5) 0 0 5)) 6 (va_cpy (g 12) (g 6) 0 0 5)) 7 (va_cpy (g 13) (g 7) 0 0 7)) 8 (va_cpy (g 14) (g 8) 0 0 7)))) rfl ?_
  refine T_callR (S' := []) (h' := (st_ (st_ (st_ (st_ (st_ (st_ (st_ (st_ (sc_ (sc_ (sc_ (sc_ (sc_ (sc_ (st_ (st_ (st_ (st_ (st_ (st_ g 1 1 0) 1 2 (g 15 6)) 3 0 (g 9 0)) 3 1 (g 9 1)) 3 2 (g 9 2)) 3 3 (g 9 3)) 4 (va_cpy (g 10) (g 4) 0 0 5)) 5 (va_cpy (g 11) (g 5) 0 0 5)) 6 (va_cpy (g 12) (g 6) 0 0 5)) 7 (va_cpy (g 13) (g 7) 0 0 7)) 8 (va_cpy (g 14) (g 8) 0 0 7)) 17 (fun q => if q < 22 then (if 7 ≤ q ∧ q < 14 then -1 else 0) else (g 17) q)) 18 1 0) 18 2 0) 33 5 0) 33 6 0) 21 9 0) 26 9 0) 39 2 0) 41 2 0)) (r_X8_beginAnew (L := L) (sc_ (sc_ (sc_ (sc_ (sc_ (st_ (st_ (st_ (st_ (st_ (st_ g 1 1 0) 1 2 (g 15 6)) 3 0 (g 9 0)) 3 1 (g 9 1)) 3 2 (g 9 2)) 3 3 (g 9 3)) 4 (va_cpy (g 10) (g 4) 0 0 5)) 5 (va_cpy (g 11) (g 5) 0 0 5)) 6 (va_cpy (g 12) (g 6) 0 0 5)) 7 (va_cpy (g 13) (g 7) 0 0 7)) 8 (va_cpy (g 14) (g 8) 0 0 7))  ) (by decide) rfl rfl rfl rfl rfl rfl rfl ?_
  refine T_run 3 (st' := (59, [.ref 1, .int f], [.int (g 9 2)], S0 L, (st_ (st_ (st_ (st_ (st_ (st_ (st_ (st_ (sc_ (sc_ (sc_ (sc_ (sc_ (sc_ (st_ (st_ (st_ (st_ (st_ (st_ g 1 1 0) 1 2 (g 15 6)) 3 0 (g 9 0)) 3 1 (g 9 1)) 3 2 (g 9 2)) 3 3 (g 9 3)) 4 (va_cpy (g 10) (g 4) 0 0 5)) 5 (va_cpy (g 11) (g 5) 0 0 5)) 6 (va_cpy (g 12) (g 6) 0 0 5)) 7 (va_cpy (g 13) (g 7) 0 0 7)) 8 (va_cpy (g 14) (g 8) 0 0 7)) 17 (fun q => if q < 22 then (if 7 ≤ q ∧ q < 14 then -1 else 0) else (g 17) q)) 18 1 0) 18 2 0) 33 5 0) 33 6 0) 21 9 0) 26 9 0) 39 2 0) 41 2 0))) rfl ?_
  exact T_retR rfl rfl rfl rfl

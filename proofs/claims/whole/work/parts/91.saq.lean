/-! SIDE BY SIDE: what only asks -/
theorem sm_fault {L : Nat} {h : AH} (E : RelE h) : Sm L 87 134 [] h := by
  obtain ⟨n, c, R, row, P, I, S, X, D, k1, k2⟩ := id E
  exact Sm_q E (by decide) (by decide) (r_X8_fault_ok h) (r_X9_fault h) X.1.2
theorem sum_eq {n c : Nat} {h : AH} (R : RollOk n c h) {a b : Rw} (row : RowOk n c a b) : sumS (fun x_ => a (14 + x_)) c = sumS (fun i => b (17 + i)) 5 := by
  have c5 := R.c5
  have e := sum_pad (f := fun x_ => a (14 + x_)) (g := fun i => b (17 + i)) (c := c) row.2.2.1 (5 - c) (fun i p q => row.2.2.2.2.2.2.1 i p (by omega))
  rw [show c + (5 - c) = 5 by omega] at e
  exact e.symm
theorem made_eq {n c : Nat} {h : AH} (R : RollOk n c h) {a b : Rw} (row : RowOk n c a b) : setS (fun y_ => decide (¬ loadS a (fun z_ => a (7 + z_)) (h 8) (nI y_) n - (ownS a (fun z_ => a (7 + z_)) (h 7) (h 8) (nI y_) n) ≤ ownS a (fun z_ => a (7 + z_)) (h 7) (h 8) (nI y_) n)) c = setS (fun y_ => decide (¬ loadS b (fun z_ => b (7 + z_)) (h 48) (nI y_) n - (ownS b (fun z_ => b (7 + z_)) (h 47) (h 48) (nI y_) n) ≤ ownS b (fun z_ => b (7 + z_)) (h 47) (h 48) (nI y_) n)) c := by
  refine setS_congr (n := c) (fun i hi => ?_) c (Nat.le_refl _)
  rw [ld_eq R row, own_eq R row]
theorem last_eq {n c : Nat} {h : AH} (R : RollOk n c h) {a b : Rw} (row : RowOk n c a b) : lastS (fun x_ => h 5 x_ + (h 5 x_) * (loadS a (fun z_ => a (7 + z_)) (h 8) (nI x_) n) / (h 4 x_)) c = lastS (fun x_ => h 45 x_ + (h 45 x_) * (loadS b (fun z_ => b (7 + z_)) (h 48) (nI x_) n) / (h 44 x_)) c := by
  have c5 := R.c5
  exact lastS_congr (n := c) (by omega) (fun i hi => mins_eq R row hi) c (Nat.le_refl _)
theorem dset_eq {n c : Nat} {a b : Rw} (row : RowOk n c a b) (is x : Int32) : setS (fun z_ => decide (a z_ = is ∧ a (7 + z_) = x)) n = setS (fun z_ => decide (b z_ = is ∧ b (7 + z_) = x)) n := by
  refine setS_congr (n := n) (fun d hd => ?_) n (Nat.le_refl _)
  rw [row.1 d hd, row.2.1 d hd]
theorem lies_eq {n c : Nat} {h : AH} (R : RollOk n c h) {a b : Rw} (row : RowOk n c a b) (x y : Int32) : anyS (fun z_ => decide ((a z_ = 3 ∧ a (7 + z_) = x) ∧ (h 7) z_ = y)) n = anyS (fun z_ => decide ((b z_ = 3 ∧ b (7 + z_) = x) ∧ (h 47) z_ = y)) n := by
  refine anyS_congr (n := n) (fun d hd => ?_) n (Nat.le_refl _)
  rw [row.1 d hd, row.2.1 d hd, R.ow d hd]
theorem sm_told {L : Nat} {h : AH} (E : RelE h) (x : Int32) : Sm L 88 143 [.int x] h := by
  obtain ⟨n, c, R, row, P, I, S, X, D, k1, k2⟩ := id E
  obtain ⟨⟨⟨t, ht, et1, et2, _⟩, _⟩, _⟩ := X
  obtain ⟨⟨m, hm, em1, em2, _⟩, ⟨m', hm', em3, em4, _⟩⟩ := S
  obtain ⟨u, pp, hu, hp, eu1, eu2, _⟩ := P
  rcases cs_or x 14 with ⟨i, hi, rfl⟩ | hx
  · match i, hi with
    | 0, _ => exact Sm_q E (by decide) (by decide) (r_X8_told_0 h _ rfl) (r_X9_told_0 h _ rfl) R.1.2.2
    | 1, _ => exact Sm_q E (by decide) (by decide) (r_X8_told_1 h _ rfl) (r_X9_told_1 h _ rfl) (R.c3.trans R.c43.symm)
    | 2, _ => exact Sm_q E (by decide) (by decide) (r_X8_told_2 h _ rfl) (r_X9_told_2 h _ rfl) (R.n3.trans R.n43.symm)
    | 3, _ => exact Sm_q E (by decide) (by decide) (r_X8_told_3 h _ rfl) (r_X9_told_3 h _ rfl) (et1.trans et2.symm)
    | 4, _ => exact Sm_q E (by decide) (by decide) (r_X8_told_4 h _ rfl) (r_X9_told_4 h _ rfl) row.2.2.2.1
    | 5, _ => exact Sm_q E (by decide) (by decide) (r_X8_told_5 h _ rfl) (r_X9_told_5 h _ rfl) row.2.2.2.2.1
    | 6, _ => exact Sm_q E (by decide) (by decide) (r_X8_told_6 h _ rfl) (r_X9_told_6 h _ rfl) row.2.2.2.2.2.1
    | 7, _ => exact Sm_q E (by decide) (by decide) (r_X8_told_7 h _ n R.n3 R.n7 c R.c3 R.c5 R.s1 (mins_ok R row) rfl) (r_X9_told_7 h _ n R.n43 R.n7 c R.c43 R.c5 R.s0 rfl) (lam_eq R row)
    | 8, _ => exact Sm_q E (by decide) (by decide) (r_X8_told_8 h _ n R.n3 R.n7 c R.c3 R.c5 R.s1 (mins_ok R row) rfl) (r_X9_told_8 h _ rfl) (sum_eq R row)
    | 9, _ => exact Sm_q E (by decide) (by decide) (r_X8_told_9 h _ n R.n3 R.n7 c R.c3 R.c5 R.s1 (mins_ok R row) rfl) (r_X9_told_9 h _ n R.n43 R.n7 c R.c43 R.c5 R.s0 rfl) (made_eq R row)
    | 10, _ => exact Sm_q E (by decide) (by decide) (r_X8_told_10 h _ n R.n3 R.n7 c R.c3 R.c5 R.s1 (mins_ok R row) rfl) (r_X9_told_10 h _ n R.n43 R.n7 c R.c43 R.c5 R.s0 rfl) (last_eq R row)
    | 11, _ => exact Sm_q E (by decide) (by decide) (r_X8_told_11 h _ rfl) (r_X9_told_11 h _ rfl) (em1.trans em2.symm)
    | 12, _ => exact Sm_q E (by decide) (by decide) (r_X8_told_12 h _ rfl) (r_X9_told_12 h _ rfl) (em3.trans em4.symm)
    | 13, _ => exact Sm_q E (by decide) (by decide) (r_X8_told_13 h _ rfl) (r_X9_told_13 h _ rfl) (eu2.trans eu1.symm)
    | i + 14, hi => exact absurd hi (by omega)
  · exact Sm_q E (by decide) (by decide) (r_X8_told_out h x hx) (r_X9_told_out h x hx) rfl
theorem sm_child {L : Nat} {h : AH} (E : RelE h) (x y : Int32) : Sm L 89 144 [.int x, .int y] h := by
  obtain ⟨n, c, R, row, P, I, S, X, D, k1, k2⟩ := id E
  have c5 := R.c5
  rcases inS_or (x := x) (m := c) (by omega) with ⟨k, hk, rfl⟩ | hx
  · rcases cs_or y 8 with ⟨i, hi, rfl⟩ | hy
    · match i, hi with
      | 0, _ => exact Sm_q E (by decide) (by decide) (r_X8_child_0 h k _ n R.n3 R.n7 c R.c3 R.c5 R.s1 (mins_ok R row) hk rfl) (r_X9_child_0 h k _ n R.n43 R.n7 c R.c43 R.c5 R.s0 hk rfl) (R.sg k hk)
      | 1, _ => exact Sm_q E (by decide) (by decide) (r_X8_child_1 h k _ n R.n3 R.n7 c R.c3 R.c5 R.s1 (mins_ok R row) hk rfl) (r_X9_child_1 h k _ n R.n43 R.n7 c R.c43 R.c5 R.s0 hk rfl) (R.mn k hk)
      | 2, _ => exact Sm_q E (by decide) (by decide) (r_X8_child_2 h k _ n R.n3 R.n7 c R.c3 R.c5 R.s1 (mins_ok R row) hk rfl) (r_X9_child_2 h k _ n R.n43 R.n7 c R.c43 R.c5 R.s0 hk rfl) (ld_eq R row _)
      | 3, _ => exact Sm_q E (by decide) (by decide) (r_X8_child_3 h k _ n R.n3 R.n7 c R.c3 R.c5 R.s1 (mins_ok R row) hk rfl) (r_X9_child_3 h k _ n R.n43 R.n7 c R.c43 R.c5 R.s0 hk rfl) (mins_eq R row hk)
      | 4, _ => exact Sm_q E (by decide) (by decide) (r_X8_child_4 h k _ n R.n3 R.n7 c R.c3 R.c5 R.s1 (mins_ok R row) hk rfl) (r_X9_child_4 h k _ n R.n43 R.n7 c R.c43 R.c5 R.s0 hk rfl) (dset_eq row 1 _)
      | 5, _ => exact Sm_q E (by decide) (by decide) (r_X8_child_5 h k _ n R.n3 R.n7 c R.c3 R.c5 R.s1 (mins_ok R row) hk rfl) (r_X9_child_5 h k _ n R.n43 R.n7 c R.c43 R.c5 R.s0 hk rfl) (dset_eq row 3 _)
      | 6, _ => exact Sm_q E (by decide) (by decide) (r_X8_child_6 h k _ n R.n3 R.n7 c R.c3 R.c5 R.s1 (mins_ok R row) hk rfl) (r_X9_child_6 h k _ n R.n43 R.n7 c R.c43 R.c5 R.s0 hk rfl) (row.2.2.1 k hk)
      | 7, _ => exact Sm_q E (by decide) (by decide) (r_X8_child_7 h k _ n R.n3 R.n7 c R.c3 R.c5 R.s1 (mins_ok R row) hk rfl) (r_X9_child_7 h k _ n R.n43 R.n7 c R.c43 R.c5 R.s0 hk rfl) (R.fr k hk)
      | i + 8, hi => exact absurd hi (by omega)
    · exact Sm_q E (by decide) (by decide) (r_X8_child_out h k y c R.c3 R.c5 hk hy) (r_X9_child_out h k y c R.c43 R.c5 hk hy) rfl
  · exact Sm_q E (by decide) (by decide) (r_X8_child_unk h x y c R.c3 R.c5 hx) (r_X9_child_unk h x y c R.c43 R.c5 hx) rfl
theorem sm_deed {L : Nat} {h : AH} (E : RelE h) (x y : Int32) : Sm L 90 145 [.int x, .int y] h := by
  obtain ⟨n, c, R, row, P, I, S, X, D, k1, k2⟩ := id E
  have n7 := R.n7
  rcases inS_or (x := x) (m := n) (by omega) with ⟨k, hk, rfl⟩ | hx
  · rcases cs_or y 4 with ⟨i, hi, rfl⟩ | hy
    · match i, hi with
      | 0, _ => exact Sm_q E (by decide) (by decide) (r_X8_deed_0 h k _ n R.n3 R.n7 hk rfl) (r_X9_deed_0 h k _ n R.n43 R.n7 hk rfl) (R.ow k hk)
      | 1, _ => exact Sm_q E (by decide) (by decide) (r_X8_deed_1 h k _ n R.n3 R.n7 hk rfl) (r_X9_deed_1 h k _ n R.n43 R.n7 hk rfl) (R.wt k hk)
      | 2, _ => exact Sm_q E (by decide) (by decide) (r_X8_deed_2 h k _ n R.n3 R.n7 hk rfl) (r_X9_deed_2 h k _ n R.n43 R.n7 hk rfl) (row.1 k hk)
      | 3, _ => exact Sm_q E (by decide) (by decide) (r_X8_deed_3 h k _ n R.n3 R.n7 hk rfl) (r_X9_deed_3 h k _ n R.n43 R.n7 hk rfl) (row.2.1 k hk)
      | i + 4, hi => exact absurd hi (by omega)
    · exact Sm_q E (by decide) (by decide) (r_X8_deed_out h k y n R.n3 R.n7 hk hy) (r_X9_deed_out h k y n R.n43 R.n7 hk hy) rfl
  · exact Sm_q E (by decide) (by decide) (r_X8_deed_unk h x y n R.n3 R.n7 hx) (r_X9_deed_unk h x y n R.n43 R.n7 hx) rfl
theorem sm_hold {L : Nat} {h : AH} (E : RelE h) : Sm L 106 179 [] h := by
  obtain ⟨n, c, R, row, P, I, S, X, D, k1, k2⟩ := id E
  obtain ⟨⟨m, hm, em1, em2, es⟩, _⟩ := S
  refine Sm_q E (by decide) (by decide) (r_X8_hold_ok h n R.n3 R.n7 m em1 hm) (r_X9_hold h n R.n43 R.n7 m em2 hm) (b2i_congr (find_all (by omega) (fun t ht => ?_)))
  obtain ⟨e1, e2, e3⟩ := es t ht
  rw [e1, e2, e3, lies_eq R row]
  simp
theorem sm_judge {L : Nat} {h : AH} (E : RelE h) : Sm L 109 182 [] h := by
  obtain ⟨n, c, R, row, P, I, S, X, D, k1, k2⟩ := id E
  obtain ⟨_, ⟨m, hm, em1, em2, es⟩⟩ := S
  refine Sm_q E (by decide) (by decide) (r_X8_judge_ok h n R.n3 R.n7 m em1 hm) (r_X9_judge h n R.n43 R.n7 m em2 hm) (findS_congr m 0 (fun t _ ht => ?_))
  obtain ⟨e1, e2⟩ := es t (by omega)
  rw [e1, e2, ld_eq R row]
theorem sm_lighter {L : Nat} {h : AH} (E : RelE h) (x : Int32) : Sm L 101 170 [.int x] h := by
  obtain ⟨n, c, R, row, P, I, S, X, D, k1, k2⟩ := id E
  have hp9 := row.2.2.2.2.2.2.2
  have hp8 : ∀ d, d < n → h 17 d = 1 → ∃ p, p < c ∧ h 17 (7 + d) = nI p := fun d hd q => by
    rw [row.2.1 d hd]
    exact hp9 d hd (by rw [← row.1 d hd]; exact q)
  exact Sm_q E (by decide) (by decide) (r_X8_lighter h x n R.n3 R.n7 c R.c3 R.c5 hp8) (r_X9_lighter h x n R.n43 R.n7 c R.c43 R.c5 hp9) (nth_congr 49 0 0 (fun t _ _ => lp_eq R row t))
theorem btw {x M : Int32} : (0 ≤ x ∧ x ≤ M) ↔ (¬ x < 0 ∧ x ≤ M) := ⟨fun h => ⟨Int32.not_lt.mpr h.1, h.2⟩, fun h => ⟨Int32.not_lt.mp h.1, h.2⟩⟩
theorem sm_light {L : Nat} {h : AH} (E : RelE h) (x y : Int32) : Sm L 104 176 [.int x, .int y] h := by
  by_cases x0 : x < 0
  · exact Sm_q E (by decide) (by decide) (r_X8_light_out1 h x y x0) (r_X9_light_out1 h x y (fun z => (btw.mp z).1 x0)) rfl
  by_cases x1 : 60 < x
  · exact Sm_q E (by decide) (by decide) (r_X8_light_out2 h x y x0 x1) (r_X9_light_out1 h x y (fun z => Int32.not_lt.mpr z.2 x1)) rfl
  have x2 : x ≤ 60 := Int32.not_lt.mp x1
  by_cases y0 : y < 0
  · exact Sm_q E (by decide) (by decide) (r_X8_light_out3 h x y x0 x1 y0) (r_X9_light_out2 h x y (btw.mpr ⟨x0, x2⟩) (fun z => (btw.mp z).1 y0)) rfl
  by_cases y1 : y ≤ 100
  · obtain ⟨m, hm, rfl⟩ := nI_of2 (n := 60) (by decide) x0 x2
    exact Sm_q E (by decide) (by decide) (r_X8_light_ok h m y hm y0 y1) (r_X9_light_ok h m y hm (btw.mpr ⟨y0, y1⟩)) rfl
  · exact Sm_q E (by decide) (by decide) (r_X8_light_out4 h x y x0 x1 y0 y1) (r_X9_light_out2 h x y (btw.mpr ⟨x0, x2⟩) (fun z => y1 z.2)) rfl
theorem sm_handed {L : Nat} {h : AH} (E : RelE h) (x y : Int32) : Sm L 103 175 [.int x, .int y] h := by
  obtain ⟨n, c, R, row, P, I, S, X, D, k1, k2⟩ := id E
  have c5 := R.c5
  have et : ∀ k a, a < c → topS (h 6) k a = topS (h 46) k a := topS_congr (by omega) R.ch R.fr
  rcases inS_or (x := x) (m := c) (by omega) with ⟨k, hk, rfl⟩ | hx
  · by_cases hy : 0 ≤ y ∧ y ≤ 1
    · obtain ⟨i, hi, rfl⟩ := nI_of2 (n := 1) (by decide) (btw.mp hy).1 hy.2
      match i, hi with
      | 0, _ => exact Sm_q E (by decide) (by decide) (r_X8_handed_0 h k _ c R.c3 R.c5 R.ch6 hk rfl) (r_X9_handed_0 h k _ c R.c43 R.c5 R.ch R.rt hk rfl) (by rw [et c k hk])
      | 1, _ =>
        refine Sm_q E (by decide) (by decide) (r_X8_handed_1 h k _ c R.c3 R.c5 R.ch6 hk rfl) (r_X9_handed_1 h k _ c R.c43 R.c5 R.ch R.rt hk rfl) (setS_congr (n := c) (fun i hi => ?_) c (Nat.le_refl _))
        have l1 := topS_lt (f := c) R.ch (by omega) hi
        have l2 := topS_lt (f := c) R.ch (by omega) hk
        rw [et c k hk, et c i hi]
        exact decide_eq_decide.mpr (nI_eq (by omega) (by omega))
      | i + 2, hi => exact absurd hi (by omega)
    · exact Sm_q E (by decide) (by decide) (r_X8_handed_out h k y c R.c3 R.c5 hk hy) (r_X9_handed_out h k y c R.c43 R.c5 hk hy) rfl
  · exact Sm_q E (by decide) (by decide) (r_X8_handed_unk h x y c R.c3 R.c5 hx) (r_X9_handed_unk h x y c R.c43 R.c5 hx) rfl
theorem sm_weighs {L : Nat} {h : AH} (E : RelE h) (x y : Int32) : Sm L 102 173 [.int x, .int y] h := by
  obtain ⟨n, c, R, row, P, I, S, X, D, k1, k2⟩ := id E
  have n7 := R.n7
  by_cases x0 : x < 0
  · exact Sm_q E (by decide) (by decide) (r_X8_weighs_out1 h x y x0) (r_X9_weighs_out1 h x y (fun z => (btw.mp z).1 x0)) rfl
  by_cases x1 : 999 < x
  · exact Sm_q E (by decide) (by decide) (r_X8_weighs_out2 h x y x0 x1) (r_X9_weighs_out1 h x y (fun z => Int32.not_lt.mpr z.2 x1)) rfl
  have hx : 0 ≤ x ∧ x ≤ 999 := btw.mpr ⟨x0, Int32.not_lt.mp x1⟩
  by_cases y0 : y < 0
  · exact Sm_q E (by decide) (by decide) (r_X8_weighs_out3 h x y x0 x1 y0) (r_X9_weighs_out2 h x y hx (fun z => (btw.mp z).1 y0)) rfl
  by_cases y1 : y ≤ 3
  · obtain ⟨i, hi, rfl⟩ := nI_of2 (n := 3) (by decide) y0 y1
    have ew := wf_eq R x
    match i, hi with
    | 0, _ => exact Sm_mk (r_X8_weighs_0 h x _ n R.n3 n7 x0 x1 rfl) (r_X9_weighs_0 _ x _ n R.n43 n7 hx rfl) (by rw [ew]; rfl) (by decide) (by decide) ⟨n, c, R, row, P, I, S, X, D, k1, k2⟩
    | 1, _ => exact Sm_mk (r_X8_weighs_1 h x _ n R.n3 n7 x0 x1 rfl) (r_X9_weighs_1 _ x _ n R.n43 n7 hx rfl) (by rw [ew]; rfl) (by decide) (by decide) ⟨n, c, R, row, P, I, S, X, D, k1, k2⟩
    | 2, _ => exact Sm_mk (r_X8_weighs_2 h x _ n R.n3 n7 x0 x1 rfl) (r_X9_weighs_2 _ x _ n R.n43 n7 hx rfl) (by rw [ew, (sc_su n7 _ (Nat.le_refl _)).1]; show _ = (if _ then _ else suS _ (1 <<< (h 43 6 &&& 31) - 1) _); rw [R.n43]; rfl) (by decide) (by decide) ⟨n, c, R, row, P, I, S, X, D, k1, k2⟩
    | 3, _ => exact Sm_mk (r_X8_weighs_3 h x _ n R.n3 n7 x0 x1 rfl) (r_X9_weighs_3 _ x _ n R.n43 n7 hx rfl) (by rw [ew]; exact congrArg Prod.fst (lk_congr (n := n) (fun q hq => by show (if q < n then _ else _) = (if q < n then _ else _); rw [if_pos hq, if_pos hq]; rfl) n (Nat.le_refl _))) (by decide) (by decide) ⟨n, c, R, row, P, I, S, X, D, k1, k2⟩
    | i + 4, hi => exact absurd hi (by omega)
  · exact Sm_q E (by decide) (by decide) (r_X8_weighs_out4 h x y x0 x1 y0 y1) (r_X9_weighs_out2 h x y hx (fun z => y1 z.2)) rfl

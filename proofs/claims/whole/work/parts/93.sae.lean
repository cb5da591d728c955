/-! SIDE BY SIDE: what is seen, draws, images -/
theorem sm_see {L : Nat} {h : AH} (E : RelE h) (x y : Int32) (T : Prop) [Decidable T] : Sm L 105 177 [.int x, .int y, .int (b2i T)] h := by
  obtain ⟨n, c, Q⟩ := id E
  obtain ⟨R, row, P, I, S, X, D, k1, k2⟩ := id Q
  obtain ⟨⟨m, hm, em1, em2, es⟩, S2⟩ := id S
  by_cases hx : inS x c
  · by_cases hy : inS y c
    · by_cases m6 : m < 6
      · refine Sm_mk (r_X8_see_ok h x y T c R.c3 R.c5 m hx hy em1 m6) (r_X9_see_ok (st_ (st_ (st_ (st_ h 34 m x) 35 m y) 36 m (b2i T)) 33 5 (nI (m + 1))) x y T c R.c43 R.c5 m hx hy em2 m6) rfl (by decide) (by decide) ⟨n, c, R, row, P, I, ⟨⟨m + 1, by omega, rfl, rfl, fun t ht => ?_⟩, S2⟩, X, D, k1, k2⟩
        show (if (34 : Nat) = 34 ∧ t = m then x else h 34 t) = (if (61 : Nat) = 61 ∧ t = m then x else h 61 t) ∧ (if (35 : Nat) = 35 ∧ t = m then y else h 35 t) = (if (62 : Nat) = 62 ∧ t = m then y else h 62 t) ∧ (if (36 : Nat) = 36 ∧ t = m then b2i T else h 36 t) = (if (63 : Nat) = 63 ∧ t = m then b2i T else h 63 t)
        by_cases e : t = m
        · rw [if_pos ⟨rfl, e⟩, if_pos ⟨rfl, e⟩, if_pos ⟨rfl, e⟩, if_pos ⟨rfl, e⟩, if_pos ⟨rfl, e⟩, if_pos ⟨rfl, e⟩]
          exact ⟨rfl, rfl, rfl⟩
        · rw [if_neg (fun z => e z.2), if_neg (fun z => e z.2), if_neg (fun z => e z.2), if_neg (fun z => e z.2), if_neg (fun z => e z.2), if_neg (fun z => e z.2)]
          exact es t (by omega)
      · have e : m = 6 := by omega
        subst e
        exact Sm_q E (by decide) (by decide) (r_X8_see_full h x y T c R.c3 R.c5 hx hy em1) (r_X9_see_full h x y T c R.c43 R.c5 hx hy em2) rfl
    · exact Sm_q E (by decide) (by decide) (r_X8_see_unk2 h x y T c R.c3 R.c5 hx hy) (r_X9_see_unk2 h x y T c R.c43 R.c5 hx hy) rfl
  · exact Sm_q E (by decide) (by decide) (r_X8_see_unk1 h x y T c R.c3 R.c5 hx) (r_X9_see_unk1 h x y T c R.c43 R.c5 hx) rfl
theorem sm_write {L : Nat} {h : AH} (E : RelE h) (x y : Int32) : Sm L 107 180 [.int x, .int y] h := by
  obtain ⟨n, c, Q⟩ := id E
  obtain ⟨R, row, P, I, S, X, D, k1, k2⟩ := id Q
  obtain ⟨S1, ⟨m, hm, em1, em2, es⟩⟩ := id S
  by_cases hx : inS x c
  · by_cases y0 : y < 0
    · exact Sm_q E (by decide) (by decide) (r_X8_write_out1 h x y c R.c3 R.c5 hx y0) (r_X9_write_out h x y c R.c43 R.c5 hx (fun z => (btw.mp z).1 y0)) rfl
    by_cases y1 : y ≤ 999
    · by_cases m6 : m < 15
      · refine Sm_mk (r_X8_write_ok h x y c R.c3 R.c5 m hx y0 y1 em1 m6) (r_X9_write_ok (st_ (st_ (st_ h 37 m x) 38 m y) 33 6 (nI (m + 1))) x y c R.c43 R.c5 m hx (btw.mpr ⟨y0, y1⟩) em2 m6) rfl (by decide) (by decide) ⟨n, c, R, row, P, I, ⟨S1, ⟨m + 1, by omega, rfl, rfl, fun t ht => ?_⟩⟩, X, D, k1, k2⟩
        show (if (37 : Nat) = 37 ∧ t = m then x else h 37 t) = (if (64 : Nat) = 64 ∧ t = m then x else h 64 t) ∧ (if (38 : Nat) = 38 ∧ t = m then y else h 38 t) = (if (65 : Nat) = 65 ∧ t = m then y else h 65 t)
        by_cases e : t = m
        · rw [if_pos ⟨rfl, e⟩, if_pos ⟨rfl, e⟩, if_pos ⟨rfl, e⟩, if_pos ⟨rfl, e⟩]
          exact ⟨rfl, rfl⟩
        · rw [if_neg (fun z => e z.2), if_neg (fun z => e z.2), if_neg (fun z => e z.2), if_neg (fun z => e z.2)]
          exact es t (by omega)
      · have e : m = 15 := by omega
        subst e
        exact Sm_q E (by decide) (by decide) (r_X8_write_full h x y c R.c3 R.c5 hx y0 y1 em1) (r_X9_write_full h x y c R.c43 R.c5 hx (btw.mpr ⟨y0, y1⟩) em2) rfl
    · exact Sm_q E (by decide) (by decide) (r_X8_write_out2 h x y c R.c3 R.c5 hx y0 y1) (r_X9_write_out h x y c R.c43 R.c5 hx (fun z => y1 z.2)) rfl
  · exact Sm_q E (by decide) (by decide) (r_X8_write_unk h x y c R.c3 R.c5 hx) (r_X9_write_unk h x y c R.c43 R.c5 hx) rfl
theorem sm_tear {L : Nat} {h : AH} (E : RelE h) : Sm L 108 181 [] h := by
  obtain ⟨n, c, Q⟩ := id E
  obtain ⟨R, row, P, I, S, X, D, k1, k2⟩ := id Q
  obtain ⟨⟨m, hm, em1, em2, es⟩, ⟨m', hm', em3, em4, es'⟩⟩ := id S
  exact Sm_mk (r_X8_tear_ok h) (r_X9_tear_ok _) (by show h 33 5 + h 33 6 = h 43 32 + h 43 36; rw [em1, em2, em3, em4]) (by decide) (by decide) ⟨n, c, R, row, P, I, ⟨⟨0, by omega, rfl, rfl, fun t ht => absurd ht (by omega)⟩, ⟨0, by omega, rfl, rfl, fun t ht => absurd ht (by omega)⟩⟩, X, D, k1, k2⟩
theorem sm_seed {L : Nat} {h : AH} (E : RelE h) (x : Int32) : Sm L 110 183 [.int x] h := by
  obtain ⟨n, c, Q⟩ := id E
  obtain ⟨R, row, P, I, S, X, D, k1, k2⟩ := id Q
  obtain ⟨s, hs, es1, es2⟩ := id D
  by_cases x0 : x < 0
  · exact Sm_q E (by decide) (by decide) (r_X8_seed_out h x x0) (r_X9_seed_out h x x0) rfl
  · obtain ⟨j, hj, e⟩ := nI_of x0
    exact Sm_mk (r_X8_seed_ok h x x0) (r_X9_seed_ok _ x x0) (es1.trans es2.symm) (by decide) (by decide) ⟨n, c, R, row, P, I, S, X, ⟨j, hj, e, e⟩, k1, k2⟩
theorem cpy22 {a b : Rw} {k : Nat} (hk : k < 22) : va_cpy a b 0 0 22 k = a k := by
  rw [pk_cpy_in (by omega) (by omega)]
  exact congrArg a (by omega)
theorem sm_keep {L : Nat} {h : AH} (E : RelE h) (x : Int32) : Sm L 111 184 [.int x] h := by
  obtain ⟨n, c, Q⟩ := id E
  obtain ⟨R, row, P, I, S, X, D, k1, k2⟩ := id Q
  obtain ⟨s, hs, es1, es2⟩ := id D
  obtain ⟨⟨i1, i2, i3⟩, ⟨i4, i5, i6⟩⟩ := id I
  have n7 := R.n7
  have c5 := R.c5
  by_cases x0 : x < 0
  · exact Sm_q E (by decide) (by decide) (r_X8_keep_unk1 h x x0) (r_X9_keep_unk h x (fun z => (btw.mp z).1 x0)) rfl
  obtain ⟨j, hj, rfl⟩ := nI_of x0
  match j, hj, x0 with
  | 0, _, _ =>
    refine Sm_mk (r_X8_keep_ok0 h _ rfl) (r_X9_keep_ok _ 0 (by decide)) rfl (by decide) (by decide) ⟨n, c, R, row, PastOk.z rfl rfl rfl, ⟨⟨rfl, Or.inr rfl, fun _ => ⟨row.cg n7 c5 (fun k hk => cpy22 hk) (fun k hk => ?_), es1.trans es2.symm, ⟨s, hs, es2⟩⟩⟩, ⟨i4, i5, fun z => ⟨(i6 z).1.cg n7 c5 (fun k hk => rfl) (fun k hk => ?_), (i6 z).2⟩⟩⟩, S, X, D, k1, k2⟩
    · show (if k = 23 * 0 + 22 then h 43 10 else if 23 * 0 ≤ k ∧ k < 23 * 0 + 22 then h 49 (k - 23 * 0) else h 66 k) = h 49 k
      rw [if_neg (by omega), if_pos (by omega)]
      exact congrArg (h 49) (by omega)
    · show (if 23 + k = 23 * 0 + 22 then h 43 10 else if 23 * 0 ≤ 23 + k ∧ 23 + k < 23 * 0 + 22 then h 49 (23 + k - 23 * 0) else h 66 (23 + k)) = h 66 (23 + k)
      rw [if_neg (by omega), if_neg (by omega)]
  | 1, _, _ =>
    refine Sm_mk (r_X8_keep_ok1 h _ rfl) (r_X9_keep_ok _ 1 (by decide)) rfl (by decide) (by decide) ⟨n, c, R, row, PastOk.z rfl rfl rfl, ⟨⟨i1, i2, fun z => ⟨(i3 z).1.cg n7 c5 (fun k hk => rfl) (fun k hk => ?_), (i3 z).2⟩⟩, ⟨rfl, Or.inr rfl, fun _ => ⟨row.cg n7 c5 (fun k hk => cpy22 hk) (fun k hk => ?_), es1.trans es2.symm, ⟨s, hs, es2⟩⟩⟩⟩, S, X, D, k1, k2⟩
    · show (if k = 23 * 1 + 22 then h 43 10 else if 23 * 1 ≤ k ∧ k < 23 * 1 + 22 then h 49 (k - 23 * 1) else h 66 k) = h 66 k
      rw [if_neg (by omega), if_neg (by omega)]
    · show (if 23 + k = 23 * 1 + 22 then h 43 10 else if 23 * 1 ≤ 23 + k ∧ 23 + k < 23 * 1 + 22 then h 49 (23 + k - 23 * 1) else h 66 (23 + k)) = h 49 k
      rw [if_neg (by omega), if_pos (by omega)]
      exact congrArg (h 49) (by omega)
  | j + 2, hj, x0 =>
    exact Sm_q E (by decide) (by decide) (r_X8_keep_unk2 h _ x0 (fun z => absurd ((nI_ltI (b := 2) hj (by decide)).mp z) (by omega))) (r_X9_keep_unk h _ (fun z => absurd ((nI_leI (b := 1) hj (by decide)).mp z.2) (by omega))) rfl
theorem sm_goBack {L : Nat} {h : AH} (E : RelE h) (x : Int32) : Sm L 112 185 [.int x] h := by
  obtain ⟨n, c, Q⟩ := id E
  obtain ⟨R, row, P, I, S, X, D, k1, k2⟩ := id Q
  obtain ⟨⟨i1, i2, i3⟩, ⟨i4, i5, i6⟩⟩ := id I
  have n7 := R.n7
  have c5 := R.c5
  by_cases x0 : x < 0
  · exact Sm_q E (by decide) (by decide) (r_X8_goBack_unk1 h x x0) (r_X9_goBack_unk h x (fun z => (btw.mp z).1 x0)) rfl
  obtain ⟨j, hj, rfl⟩ := nI_of x0
  match j, hj, x0 with
  | 0, _, _ =>
    rcases i2 with q | q
    · exact Sm_q E (by decide) (by decide) (r_X8_goBack_not0 h _ rfl (i1.trans q)) (r_X9_goBack_not h 0 (by decide) q) rfl
    · obtain ⟨r, e, s, hs, es⟩ := i3 q
      have q9 : ¬ h 67 0 = 0 := by rw [q]; decide
      refine Sm_mk (r_X8_goBack_ok0 h _ rfl (by rw [i1]; exact q9)) (r_X9_goBack_ok _ 0 (by decide) q9) rfl (by decide) (by decide) ⟨n, c, R, r.cg n7 c5 (fun k hk => cpy22 hk) (fun k hk => ?_), PastOk.z rfl rfl rfl, I, S, X, ⟨s, hs, e.trans es, es⟩, k1, k2⟩
      show (if k < 22 then h 66 (23 * 0 + k) else h 49 k) = h 66 k
      rw [if_pos hk]
      exact congrArg (h 66) (by omega)
  | 1, _, _ =>
    rcases i5 with q | q
    · exact Sm_q E (by decide) (by decide) (r_X8_goBack_not1 h _ rfl (i4.trans q)) (r_X9_goBack_not h 1 (by decide) q) rfl
    · obtain ⟨r, e, s, hs, es⟩ := i6 q
      have q9 : ¬ h 67 1 = 0 := by rw [q]; decide
      refine Sm_mk (r_X8_goBack_ok1 h _ rfl (by rw [i4]; exact q9)) (r_X9_goBack_ok _ 1 (by decide) q9) rfl (by decide) (by decide) ⟨n, c, R, r.cg n7 c5 (fun k hk => cpy22 hk) (fun k hk => ?_), PastOk.z rfl rfl rfl, I, S, X, ⟨s, hs, e.trans es, es⟩, k1, k2⟩
      show (if k < 22 then h 66 (23 * 1 + k) else h 49 k) = h 66 (23 + k)
      rw [if_pos hk]
  | j + 2, hj, x0 =>
    exact Sm_q E (by decide) (by decide) (r_X8_goBack_unk2 h _ x0 (fun z => absurd ((nI_ltI (b := 2) hj (by decide)).mp z) (by omega))) (r_X9_goBack_unk h _ (fun z => absurd ((nI_leI (b := 1) hj (by decide)).mp z.2) (by omega))) rfl

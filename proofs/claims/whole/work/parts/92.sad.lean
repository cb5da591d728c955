/-! SIDE BY SIDE: what is done -/
theorem sm_feed {L : Nat} {h : AH} (E : RelE h) (x : Int32) : Sm L 85 122 [.int x] h := by
  obtain ⟨n, c, R, row, P, I, S, X, D, k1, k2⟩ := id E
  obtain ⟨⟨⟨t, ht, et1, et2, et⟩, ef⟩, ex, ey⟩ := id X
  by_cases x0 : x < 0
  · exact Sm_q E (by decide) (by decide) (r_X8_feed_out1 h x x0) (r_X9_feed_out h x (fun z => (btw.mp z).1 x0)) rfl
  by_cases x1 : x ≤ 255
  · by_cases t0 : t < 240
    · refine Sm_mk (r_X8_feed_ok h x t x0 x1 et1 t0) (r_X9_feed_ok _ x t (btw.mpr ⟨x0, x1⟩) et2 t0) rfl (by decide) (by decide) ⟨n, c, R, row, P, I, S, ⟨⟨⟨t + 1, by omega, rfl, rfl, fun i hi => ?_⟩, ef⟩, funext (fun i => ?_), fun i => ?_⟩, D, k1, k2⟩
      · show (if (2 : Nat) = 2 ∧ i = t then x else h 2 i) = (if (50 : Nat) = 50 ∧ i = t then x else h 50 i)
        by_cases e : i = t
        · rw [if_pos ⟨rfl, e⟩, if_pos ⟨rfl, e⟩]
        · rw [if_neg (fun z => e z.2), if_neg (fun z => e z.2)]
          exact et i (by omega)
      · show (if (2 : Nat) = 2 ∧ i = t then x else h 2 i) = (if (50 : Nat) = 50 ∧ i = t then x else h 50 i)
        rw [ex]
        by_cases e : i = t
        · rw [if_pos ⟨rfl, e⟩, if_pos ⟨rfl, e⟩]
        · rw [if_neg (fun z => e z.2), if_neg (fun z => e z.2)]
      · show ¬ (if (50 : Nat) = 50 ∧ i = t then x else h 50 i) < 0
        by_cases e : i = t
        · rw [if_pos ⟨rfl, e⟩]; exact x0
        · rw [if_neg (fun z => e z.2)]; exact ey i
    · have e : t = 240 := by omega
      subst e
      exact Sm_q E (by decide) (by decide) (r_X8_feed_full h x x0 x1 et1) (r_X9_feed_full h x (btw.mpr ⟨x0, x1⟩) et2) rfl
  · exact Sm_q E (by decide) (by decide) (r_X8_feed_out2 h x x0 x1) (r_X9_feed_out h x (fun z => x1 z.2)) rfl
abbrev pH (h : AH) (p u : Nat) : AH := st_ (st_ (sc_ h 19 (va_cpy (h 17) (h 19) 0 (p * 22) 22)) 18 1 (nI (nxP p))) 18 2 (nI (remU u))
theorem push_rel {n c u p : Nat} {h : AH} {r1 r2 : Rw} (E : Rel n c h) (hu : u ≤ 20) (hp : p < 20) (H : ∀ t, t < u → RowOk n c (fun k => h 19 (22 * ((p + 20 - u + t) % 20) + k)) (fun k => h 56 (22 * t + k))) (row' : RowOk n c r1 r2) : RelE (sc_ (st_ (sc_ (sc_ (st_ (st_ (sc_ h 19 (va_cpy (h 17) (h 19) 0 (p * 22) 22)) 18 1 (nI (nxP p))) 18 2 (nI (remU u))) 17 r1) 56 (remP (h 56) (h 49) u)) 43 26 (nI (remU u))) 49 r2) := by
  obtain ⟨R, row, P, I, S, X, D, k1, k2⟩ := E
  exact ⟨n, c, R, row', ⟨remU u, nxP p, remU_le hu, nxP_lt hp, rfl, rfl, rfl, past_push hu hp R.n7 R.c5 H row⟩, I, S, X, D, k1, k2⟩
theorem sm_doIt {L : Nat} {h : AH} (E : RelE h) (x : Int32) : Sm L 91 148 [.int x] h := by
  obtain ⟨n, c, Q⟩ := id E
  obtain ⟨R, row, P, I, S, X, D, k1, k2⟩ := id Q
  obtain ⟨u, p, hu, hp, eu1, eu2, ep, H⟩ := id P
  have n7 := R.n7
  rcases inS_or (x := x) (m := n) (by omega) with ⟨d, hd, rfl⟩ | hx
  · by_cases q : h 49 d = 0
    · have row' : RowOk n c (layR d 1 (h 7 d) (h 17)) (layR d 1 (h 47 d) (h 49)) := by
        rw [R.ow d hd]
        exact row.lay n7 R.c5 hd (fun _ => R.on d hd)
      exact Sm_mk (r_X8_doIt_ok h d n R.n3 n7 p ep hp u eu2 hu hd ((row.1 d hd).trans q)) (r_X9_doIt_ok (sc_ (pH h p u) 17 (layR d 1 (h 7 d) (h 17))) d n R.n43 n7 u eu1 hu hd q) ((ld_eq R row' (h 7 d)).trans (congrArg (fun y => loadS _ _ _ y n) (R.ow d hd))) (by decide) (by decide) (push_rel Q hu hp H row')
    · exact Sm_q E (by decide) (by decide) (r_X8_doIt_not h d n R.n3 n7 hd (by rw [row.1 d hd]; exact q)) (r_X9_doIt_not h d n R.n43 n7 hd q) rfl
  · exact Sm_q E (by decide) (by decide) (r_X8_doIt_unk h x n R.n3 n7 hx) (r_X9_doIt_unk h x n R.n43 n7 hx) rfl
theorem sm_carry {L : Nat} {h : AH} (E : RelE h) (x y : Int32) : Sm L 92 149 [.int x, .int y] h := by
  obtain ⟨n, c, Q⟩ := id E
  obtain ⟨R, row, P, I, S, X, D, k1, k2⟩ := id Q
  obtain ⟨u, p, hu, hp, eu1, eu2, ep, H⟩ := id P
  have n7 := R.n7
  have c5 := R.c5
  rcases inS_or (x := x) (m := n) (by omega) with ⟨d, hd, rfl⟩ | hx
  · by_cases hy : inS y c
    · by_cases q : h 49 d = 1
      · by_cases q2 : h 49 (7 + d) = y
        · exact Sm_q E (by decide) (by decide) (r_X8_carry_not h d y n R.n3 n7 c R.c3 c5 hd hy (fun z => z.2 ((row.2.1 d hd).trans q2))) (r_X9_carry_not2 h d y n R.n43 n7 c R.c43 c5 hd hy q q2) rfl
        · have row' : RowOk n c (layR d 1 y (h 17)) (layR d 1 y (h 49)) := row.lay n7 c5 hd (fun _ => (inS_iff (by omega)).mp hy)
          exact Sm_mk (r_X8_carry_ok h d y n R.n3 n7 c R.c3 c5 p ep hp u eu2 hu hd hy ⟨(row.1 d hd).trans q, fun z => q2 ((row.2.1 d hd).symm.trans z)⟩) (r_X9_carry_ok (sc_ (pH h p u) 17 (layR d 1 y (h 17))) d y n R.n43 n7 c R.c43 c5 u eu1 hu hd hy q q2) (ld_eq R row' y) (by decide) (by decide) (push_rel Q hu hp H row')
      · exact Sm_q E (by decide) (by decide) (r_X8_carry_not h d y n R.n3 n7 c R.c3 c5 hd hy (fun z => q ((row.1 d hd).symm.trans z.1))) (r_X9_carry_not1 h d y n R.n43 n7 c R.c43 c5 hd hy q) rfl
    · exact Sm_q E (by decide) (by decide) (r_X8_carry_unk2 h _ y n R.n3 n7 c R.c3 c5 (inS_nat hd (by omega)) hy) (r_X9_carry_unk2 h _ y n R.n43 n7 c R.c43 c5 (inS_nat hd (by omega)) hy) rfl
  · exact Sm_q E (by decide) (by decide) (r_X8_carry_unk1 h x y n R.n3 n7 hx) (r_X9_carry_unk1 h x y n R.n43 n7 hx) rfl
theorem sm_swap {L : Nat} {h : AH} (E : RelE h) (x y : Int32) : Sm L 93 151 [.int x, .int y] h := by
  obtain ⟨n, c, Q⟩ := id E
  obtain ⟨R, row, P, I, S, X, D, k1, k2⟩ := id Q
  obtain ⟨u, p, hu, hp, eu1, eu2, ep, H⟩ := id P
  have n7 := R.n7
  have c5 := R.c5
  rcases inS_or (x := x) (m := n) (by omega) with ⟨d, hd, rfl⟩ | hx
  · rcases inS_or (x := y) (m := n) (by omega) with ⟨e, he, rfl⟩ | hy
    · by_cases hde : d = e
      · subst hde
        exact Sm_q E (by decide) (by decide) (r_X8_swap_unk3 h _ _ n R.n3 n7 (inS_nat hd (by omega)) (inS_nat hd (by omega)) rfl) (r_X9_swap_unk3 h _ _ n R.n43 n7 (inS_nat hd (by omega)) (inS_nat hd (by omega)) rfl) rfl
      · have eq : (h 17 d = 1 ∧ h 17 e = 1 ∧ ¬ h 17 (7 + d) = h 17 (7 + e)) ↔ (h 49 d = 1 ∧ h 49 e = 1 ∧ ¬ h 49 (7 + d) = h 49 (7 + e)) := by
          rw [row.1 d hd, row.1 e he, row.2.1 d hd, row.2.1 e he]
        by_cases q : h 49 d = 1 ∧ h 49 e = 1 ∧ ¬ h 49 (7 + d) = h 49 (7 + e)
        · exact Sm_mk (r_X8_swap_ok h d e n R.n3 n7 p ep hp u eu2 hu hd he hde (eq.mpr q)) (r_X9_swap_ok (sc_ (pH h p u) 17 (layR e 1 (h 17 (7 + d)) (layR d 1 (h 17 (7 + e)) (h 17)))) d e n R.n43 n7 u eu1 hu hd he hde q) rfl (by decide) (by decide) (push_rel Q hu hp H (row.swp n7 c5 hd he hde q.1 q.2.1))
        · exact Sm_q E (by decide) (by decide) (r_X8_swap_not h d e n R.n3 n7 hd he hde (fun z => q (eq.mp z))) (r_X9_swap_not h d e n R.n43 n7 hd he hde q) rfl
    · exact Sm_q E (by decide) (by decide) (r_X8_swap_unk2 h _ y n R.n3 n7 (inS_nat hd (by omega)) hy) (r_X9_swap_unk2 h _ y n R.n43 n7 (inS_nat hd (by omega)) hy) rfl
  · exact Sm_q E (by decide) (by decide) (r_X8_swap_unk1 h x y n R.n3 n7 hx) (r_X9_swap_unk1 h x y n R.n43 n7 hx) rfl
theorem sm_throwIt {L : Nat} {h : AH} (E : RelE h) (x : Int32) : Sm L 94 154 [.int x] h := by
  obtain ⟨n, c, Q⟩ := id E
  obtain ⟨R, row, P, I, S, X, D, k1, k2⟩ := id Q
  obtain ⟨u, p, hu, hp, eu1, eu2, ep, H⟩ := id P
  have n7 := R.n7
  rcases inS_or (x := x) (m := n) (by omega) with ⟨d, hd, rfl⟩ | hx
  · have eq : (h 17 d = 1 ∧ ¬ (h 3 1) < (h 17 20) + (h 8 d)) ↔ (h 49 d = 1 ∧ ¬ (h 43 1) < (h 49 15) + (h 48 d)) := by
      rw [row.1 d hd, row.2.2.2.2.1, R.wt d hd, R.1.2.2]
    by_cases q : h 49 d = 1 ∧ ¬ (h 43 1) < (h 49 15) + (h 48 d)
    · have row' : RowOk n c (thrR 20 21 d (h 8 d) (h 17)) (thrR 15 16 d (h 48 d) (h 49)) := row.thr n7 R.c5 hd (R.wt d hd)
      exact Sm_mk (r_X8_throwIt_ok h d n R.n3 n7 p ep hp u eu2 hu hd (eq.mpr q)) (r_X9_throwIt_ok (sc_ (pH h p u) 17 (thrR 20 21 d (h 8 d) (h 17))) d n R.n43 n7 u eu1 hu hd q) row'.2.2.2.2.1 (by decide) (by decide) (push_rel Q hu hp H row')
    · exact Sm_q E (by decide) (by decide) (r_X8_throwIt_not h d n R.n3 n7 hd (fun z => q (eq.mp z))) (r_X9_throwIt_not h d n R.n43 n7 hd q) rfl
  · exact Sm_q E (by decide) (by decide) (r_X8_throwIt_unk h x n R.n3 n7 hx) (r_X9_throwIt_unk h x n R.n43 n7 hx) rfl
theorem sm_home {L : Nat} {h : AH} (E : RelE h) : Sm L 95 156 [] h := by
  obtain ⟨n, c, Q⟩ := id E
  obtain ⟨R, row, P, I, S, X, D, k1, k2⟩ := id Q
  obtain ⟨u, p, hu, hp, eu1, eu2, ep, H⟩ := id P
  have n7 := R.n7
  by_cases ht : h 43 0 = 0
  · exact Sm_q E (by decide) (by decide) (r_X8_home_not h (R.1.1.trans ht)) (r_X9_home_not h ht) rfl
  · have ht' : ¬ h 3 0 = 0 := fun z => ht (R.1.1.symm.trans z)
    by_cases hdy : h 49 14 ≤ 9000
    · have e := lam_eq R row
      exact Sm_mk (r_X8_home_ok h n R.n3 n7 c R.c3 R.c5 p ep hp u eu2 hu ht' (by rw [row.2.2.2.1]; exact hdy)) (r_X9_home_ok (sc_ (pH h p u) 17 (goR 14 19 20 n c (setS (fun y_ => decide (¬ loadS (h 17) (fun z_ => (h 17) (7 + z_)) (h 8) (nI y_) n ≤ (h 4) y_)) c) (h 17))) n R.n43 n7 c R.c43 R.c5 u eu1 hu ht hdy) e (by decide) (by decide) (push_rel Q hu hp H (row.go n7 R.c5 e))
    · exact Sm_q E (by decide) (by decide) (r_X8_home_full h ht' (by rw [row.2.2.2.1]; exact hdy)) (r_X9_home_full h ht hdy) rfl
theorem sm_takeBack {L : Nat} {h : AH} (E : RelE h) (x : Int32) : Sm L 96 157 [.int x] h := by
  obtain ⟨n, c, Q⟩ := id E
  obtain ⟨R, row, P, I, S, X, D, k1, k2⟩ := id Q
  obtain ⟨u, p, hu, hp, eu1, eu2, ep, H⟩ := id P
  have n7 := R.n7
  rcases inS_or (x := x) (m := n) (by omega) with ⟨d, hd, rfl⟩ | hx
  · by_cases q : h 49 d = 3
    · have row' : RowOk n c (layR d 0 (-1) (h 17)) (layR d 0 (-1) (h 49)) := row.lay n7 R.c5 hd (fun z => absurd z (by decide))
      exact Sm_mk (r_X8_takeBack_ok h d n R.n3 n7 p ep hp u eu2 hu hd ((row.1 d hd).trans q)) (r_X9_takeBack_ok (sc_ (pH h p u) 17 (layR d 0 (-1) (h 17))) d n R.n43 n7 u eu1 hu hd q) (row.2.1 d hd) (by decide) (by decide) (push_rel Q hu hp H row')
    · exact Sm_q E (by decide) (by decide) (r_X8_takeBack_not h d n R.n3 n7 hd (by rw [row.1 d hd]; exact q)) (r_X9_takeBack_not h d n R.n43 n7 hd q) rfl
  · exact Sm_q E (by decide) (by decide) (r_X8_takeBack_unk h x n R.n3 n7 hx) (r_X9_takeBack_unk h x n R.n43 n7 hx) rfl
theorem sm_undo {L : Nat} {h : AH} (E : RelE h) : Sm L 98 161 [] h := by
  obtain ⟨n, c, Q⟩ := id E
  obtain ⟨R, row, P, I, S, X, D, k1, k2⟩ := id Q
  obtain ⟨u, p, hu, hp, eu1, eu2, ep, H⟩ := id P
  have n7 := R.n7
  match u, hu, eu1, eu2, H with
  | 0, _, eu1, eu2, _ => exact Sm_q E (by decide) (by decide) (r_X8_undo_not h eu2) (r_X9_undo_not h eu1) rfl
  | w + 1, hw, eu1, eu2, H =>
    have hP : pvP p = p - 1 ∧ 0 < p ∨ pvP p = 19 ∧ p = 0 := by
      unfold pvP; split
      · exact Or.inl ⟨rfl, by omega⟩
      · exact Or.inr ⟨rfl, by omega⟩
    have es : (p + 20 - (w + 1) + w) % 20 = pvP p := by omega
    refine Sm_mk (r_X8_undo_ok h p ep hp w eu2 (by omega)) (r_X9_undo_ok _ w eu1 (by omega)) rfl (by decide) (by decide) ⟨n, c, R, (H w (by omega)).cg n7 R.c5 (fun k hk => ?_) (fun k hk => ?_), ⟨w, pvP p, by omega, pvP_lt hp, rfl, rfl, rfl, fun t ht => ?_⟩, I, S, X, D, k1, k2⟩
    · show va_cpy (h 19) (h 17) (pvP p * 22) 0 22 k = h 19 (22 * ((p + 20 - (w + 1) + w) % 20) + k)
      rw [es, pk_cpy_in (by omega) (by omega)]
      exact congrArg (h 19) (by omega)
    · show (if k < 22 then h 56 (22 * w + k) else h 49 k) = h 56 (22 * w + k)
      rw [if_pos hk]
    · have e2 : (pvP p + 20 - w + t) % 20 = (p + 20 - (w + 1) + t) % 20 := by omega
      show RowOk n c (fun k => h 19 (22 * ((pvP p + 20 - w + t) % 20) + k)) (fun k => h 56 (22 * t + k))
      rw [e2]
      exact H t (by omega)
theorem next_eq {c q : Nat} (hq : q < c) (hc : c ≤ 5) : ∃ r, r < c ∧ nextC c (nI q) = nI r ∧ nextM c (nI q) = nI r := by
  refine ⟨(q + 1) % c, Nat.mod_lt _ (by omega), ?_, ?_⟩
  · unfold nextC
    rw [nI_1]
    by_cases e : q + 1 < c
    · rw [if_pos (inS_nat e (by omega)), Nat.mod_eq_of_lt e]
    · rw [if_neg (fun z => e ((nI_ltI (by omega) (by omega)).mp z.2)), show q + 1 = c by omega, Nat.mod_self]
      rfl
  · unfold nextM
    rw [nI_1, pk_rem (by omega) (by omega) (by omega)]
theorem step_rel {n c : Nat} {h : AH} (R : RollOk n c h) {a b : Rw} (row : RowOk n c a b) {d what : Nat} (hd : d < n) : RowOk n c (stepR 14 19 20 21 n c (nextC c) (h 4) (h 7) (h 8) (h 3 1) d what a) (stepR 17 14 15 16 n c (nextM c) (h 44) (h 47) (h 48) (h 43 1) d what b) := by
  unfold stepR
  by_cases w0 : what = 0
  · rw [if_pos w0, if_pos w0, row.1 d hd]
    by_cases q : b d = 0
    · rw [if_pos q, if_pos q, R.ow d hd]
      exact row.lay R.n7 R.c5 hd (fun _ => R.on d hd)
    · rw [if_neg q, if_neg q]; exact row
  rw [if_neg w0, if_neg w0]
  by_cases w1 : what = 1
  · rw [if_pos w1, if_pos w1, row.1 d hd, row.2.2.2.2.1, R.1.2.2, R.wt d hd]
    by_cases q : b d = 1 ∧ ¬ h 43 1 < b 15 + h 48 d
    · rw [if_pos q, if_pos q]
      exact row.thr R.n7 R.c5 hd rfl
    · rw [if_neg q, if_neg q]; exact row
  rw [if_neg w1, if_neg w1]
  by_cases w2 : what = 2
  · rw [if_pos w2, if_pos w2, row.1 d hd]
    by_cases q : b d = 1
    · rw [if_pos q, if_pos q, row.2.1 d hd]
      obtain ⟨p, hp, e⟩ := row.2.2.2.2.2.2.2 d hd q
      obtain ⟨r, hr, e1, e2⟩ := next_eq hp R.c5
      rw [e, e1, e2]
      exact row.lay R.n7 R.c5 hd (fun _ => ⟨r, hr, rfl⟩)
    · rw [if_neg q, if_neg q]; exact row
  · rw [if_neg w2, if_neg w2]
    exact row.go R.n7 R.c5 (lamS_congr R.sg R.wt row.1 row.2.1)
theorem drf_rel {n c : Nat} {h : AH} (R : RollOk n c h) {a b : Rw} (row : RowOk n c a b) (hn : 0 < n) (s : Nat) : ∀ k, RowOk n c (drfR 14 19 20 21 n c (nextC c) (h 4) (h 7) (h 8) (h 3 1) a s k).1 (drfR 17 14 15 16 n c (nextM c) (h 44) (h 47) (h 48) (h 43 1) b s k).1 ∧ (drfR 14 19 20 21 n c (nextC c) (h 4) (h 7) (h 8) (h 3 1) a s k).2 = (drfR 17 14 15 16 n c (nextM c) (h 44) (h 47) (h 48) (h 43 1) b s k).2
  | 0 => ⟨row, rfl⟩
  | k + 1 => by
    obtain ⟨i1, i2⟩ := drf_rel R row hn s k
    simp only [drfR]
    rw [i2]
    exact ⟨step_rel R i1 (Nat.mod_lt _ hn), rfl⟩
theorem sm_drift {L : Nat} {h : AH} (E : RelE h) (x : Int32) : Sm L 97 160 [.int x] h := by
  obtain ⟨n, c, Q⟩ := id E
  obtain ⟨R, row, P, I, S, X, D, k1, k2⟩ := id Q
  obtain ⟨u, p, hu, hp, eu1, eu2, ep, H⟩ := id P
  obtain ⟨s, hs, es1, es2⟩ := id D
  have n7 := R.n7
  by_cases x0 : x < 1
  · exact Sm_q E (by decide) (by decide) (r_X8_drift_out1 h x x0) (r_X9_drift_out h x (fun z => Int32.not_lt.mpr z.1 x0)) rfl
  by_cases x1 : x ≤ 60
  · have hx : 1 ≤ x ∧ x ≤ 60 := ⟨Int32.not_lt.mp x0, x1⟩
    rcases R.1.2.1 with ht | ht
    · exact Sm_q E (by decide) (by decide) (r_X8_drift_not h x x0 x1 (R.1.1.trans ht)) (r_X9_drift_not h x hx ht) rfl
    · have ht9 : ¬ h 43 0 = 0 := by rw [ht]; decide
      have ht8 : ¬ h 3 0 = 0 := fun z => ht9 (R.1.1.symm.trans z)
      by_cases hdy : h 49 14 ≤ 9000
      · have hdy8 : h 17 19 ≤ 9000 := by rw [row.2.2.2.1]; exact hdy
        obtain ⟨m, hm, rfl⟩ := nI_of2 (n := 60) (by decide) (fun z => x0 (Int32.lt_trans z (by decide))) x1
        have hm1 : 1 ≤ m := (nI_leI (a := 1) (by decide) (by omega)).mp hx.1
        by_cases n0 : n = 0
        · exact Sm_mk (r_X8_drift_none h m n R.n3 n7 p ep hp u eu2 hu n0 hm1 hm ht8 hdy8) (r_X9_drift_none (pH h p u) m n R.n43 n7 u eu1 hu n0 hm1 hm ht9 hdy) row.2.2.2.1 (by decide) (by decide) ⟨n, c, R, row, ⟨remU u, nxP p, remU_le hu, nxP_lt hp, rfl, rfl, rfl, past_push hu hp R.n7 R.c5 H row⟩, I, S, X, D, k1, k2⟩
        · obtain ⟨i1, i2⟩ := drf_rel R row (by omega) s m
          exact Sm_mk (r_X8_drift_S h m n R.n3 n7 c R.c3 R.c5 s es1 hs (by omega) p ep hp u eu2 hu hm1 hm ht8 hdy8) (r_X9_driftS (st_ (sc_ (pH h p u) 17 ((drfR 14 19 20 21 n c (nextC c) (h 4) (h 7) (h 8) (h 3 1) (h 17) s m).1)) 1 13 (nI ((drfR 14 19 20 21 n c (nextC c) (h 4) (h 7) (h 8) (h 3 1) (h 17) s m).2))) m n R.n43 n7 c R.c43 R.c5 s es2 hs u eu1 hu (by omega) (R.c0 (by omega)) hm1 hm ht hdy) i1.2.2.2.1 (by decide) (by decide) ⟨n, c, R, i1, ⟨remU u, nxP p, remU_le hu, nxP_lt hp, rfl, rfl, rfl, past_push hu hp R.n7 R.c5 H row⟩, I, S, X, ⟨_, drf_lt hs m, congrArg nI i2, rfl⟩, k1, k2⟩
      · exact Sm_q E (by decide) (by decide) (r_X8_drift_full h x x0 x1 ht8 (by rw [row.2.2.2.1]; exact hdy)) (r_X9_drift_full h x hx ht9 hdy) rfl
  · exact Sm_q E (by decide) (by decide) (r_X8_drift_out2 h x x0 x1) (r_X9_drift_out h x (fun z => x1 z.2)) rfl

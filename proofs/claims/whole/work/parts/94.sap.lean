/-! SIDE BY SIDE: the searches -/
def SolL (n c : Nat) (g : AH) : Prop := ∃ hd ld an t : Rw, (∀ d, d < n → hd d = if g 49 d = 1 then g 49 (7 + d) else -1) ∧ (∀ i, i < c → ld i = 0) ∧ (∀ q, q < n → an q = -1) ∧ (∀ q, q < n → t q = -1) ∧ g 21 7 = (plS 0 false hd (g 8) (g 4) c n 0 0 ld (1000, an, t)).1 ∧ g 24 = (plS 0 false hd (g 8) (g 4) c n 0 0 ld (1000, an, t)).2.1
def SolF (n c : Nat) (g : AH) : Prop := (c = 0 → g 26 7 = 1000) ∧ (0 < c → ∃ hd ld an t : Rw, (∀ d, d < n → hd d = if g 49 d = 1 then g 49 (7 + d) else -1) ∧ (∀ i, i < c → ld i = 0) ∧ (∀ q, q < n → an q = -1) ∧ (∀ q, q < n → t q = -1) ∧ g 26 7 = (plS (lgS hd (g 8) n c) true hd (g 8) (g 4) c n 0 0 ld (1000, an, t)).1 ∧ g 29 = (plS (lgS hd (g 8) n c) true hd (g 8) (g 4) c n 0 0 ld (1000, an, t)).2.1)
theorem ho_eq {n c : Nat} {a b : Rw} (row : RowOk n c a b) {d : Nat} (hd : d < n) : hoS a n d = if b d = 1 then b (7 + d) else -1 := by
  unfold hoS
  rw [row.1 d hd, row.2.1 d hd]
  by_cases q : b d = 1
  · rw [if_pos ⟨hd, q⟩, if_pos q]
  · rw [if_neg (fun z => q z.2), if_neg q]
theorem slv21 {L n c : Nat} {h : AH} (Q : Rel n c h) : ∃ (dd : Nat) (g : AH), dd ≤ 12 ∧ Rt L dd 37 [.ref 21] h none g ∧ Rel n c g ∧ g 0 = h 0 ∧ SolL n c g := by
  obtain ⟨R, row, P, I, S, X, D, k1, k2⟩ := id Q
  have n7 := R.n7
  have c5 := R.c5
  obtain ⟨hf, k1⟩ := id k1
  by_cases old : h 21 9 = 1 ∧ allS (fun z_ => decide (h 22 z_ = hoS (h 17) n z_)) 7 = true
  · refine ⟨_, h, by omega, r_X2_solve_old_21 h n R.n3 n7 old.1 old.2, Q, rfl, ?_⟩
    rcases k1 with z | ⟨_, ld, an, t, h1, h2, h3, h4, h5⟩
    · rw [old.1] at z; exact absurd z (by decide)
    · refine ⟨h 22, ld, an, t, fun d hd => ?_, h1, h2, h3, h4, h5⟩
      rw [of_decide_eq_true (all_iff.mp old.2 d (by omega))]
      exact ho_eq row hd
  · have r : Rt L (n + 5) 37 [.ref 21] h none (PHo 21 23 24 (st_ (st_ (st_ (sc_ (sc_ (sc_ (sc_ h 22 (fun q => if q < 7 then hoS (h 17) n q else h 22 q)) 23 (fun q => if q < 7 then -1 else h 23 q)) 24 (fun q => if q < 7 then -1 else h 24 q)) 25 (fun q => if q < 5 then 0 else h 25 q)) 21 7 1000) 21 8 0) 21 9 1) (plS 0 false (fun q => if q < 7 then hoS (h 17) n q else h 22 q) (h 8) (h 4) c n 0 0 (fun q => if q < 5 then 0 else h 25 q) (1000, (fun q => if q < 7 then -1 else h 24 q), (fun q => if q < 7 then -1 else h 23 q)))) := by
      by_cases z : h 21 9 = 0
      · exact r_X2_solve_a_21 h n R.n3 n7 c R.c3 c5 hf z
      · have z1 : h 21 9 = 1 := by
          rcases k1 with q | q
          · exact absurd q z
          · exact q.1
        exact r_X2_solve_b_21 h n R.n3 n7 c R.c3 c5 hf z1 (fun q => old ⟨z1, q⟩)
    have e1 : ∀ i, i < c → (fun q => if q < 5 then 0 else h 25 q) i = (0 : Int32) := fun i hi => if_pos (by omega)
    have e2 : ∀ q, q < n → (fun q => if q < 7 then -1 else h 24 q) q = (-1 : Int32) := fun i hi => if_pos (by omega)
    have e3 : ∀ q, q < n → (fun q => if q < 7 then -1 else h 23 q) q = (-1 : Int32) := fun i hi => if_pos (by omega)
    have e4 : ∀ d, d < n → (fun q => if q < 7 then hoS (h 17) n q else h 22 q) d = if h 49 d = 1 then h 49 (7 + d) else -1 := fun d hd => by
      show (if d < 7 then hoS (h 17) n d else h 22 d) = _
      rw [if_pos (by omega), ho_eq row hd]
    exact ⟨n + 5, _, by omega, r, ⟨R, row, P, I, S, X, D, ⟨hf, Or.inr ⟨rfl, _, _, _, e1, e2, e3, rfl, rfl⟩⟩, k2⟩, rfl, ⟨_, _, _, _, e4, e1, e2, e3, rfl, rfl⟩⟩
theorem slv26 {L n c : Nat} {h : AH} (Q : Rel n c h) : ∃ (dd : Nat) (g : AH), dd ≤ 12 ∧ Rt L dd 37 [.ref 26] h none g ∧ Rel n c g ∧ g 0 = h 0 ∧ SolF n c g := by
  obtain ⟨R, row, P, I, S, X, D, k1, k2⟩ := id Q
  have n7 := R.n7
  have c5 := R.c5
  obtain ⟨hf, k2⟩ := id k2
  by_cases old : h 26 9 = 1 ∧ allS (fun z_ => decide (h 27 z_ = hoS (h 17) n z_)) 7 = true
  · refine ⟨_, h, by omega, r_X2_solve_old_26 h n R.n3 n7 old.1 old.2, Q, rfl, ?_⟩
    rcases k2 with z | ⟨_, h0, hp⟩
    · rw [old.1] at z; exact absurd z (by decide)
    · refine ⟨h0, fun z => ?_⟩
      obtain ⟨ld, an, t, h1, h2, h3, h4, h5⟩ := hp z
      refine ⟨h 27, ld, an, t, fun d hd => ?_, h1, h2, h3, h4, h5⟩
      rw [of_decide_eq_true (all_iff.mp old.2 d (by omega))]
      exact ho_eq row hd
  · by_cases c0 : c = 0
    · have r : Rt L (n + 5) 37 [.ref 26] h none (st_ (st_ (st_ (sc_ (sc_ (sc_ (sc_ h 27 (fun q => if q < 7 then hoS (h 17) n q else h 27 q)) 28 (fun q => if q < 7 then -1 else h 28 q)) 29 (fun q => if q < 7 then -1 else h 29 q)) 30 (fun q => if q < 5 then 0 else h 30 q)) 26 7 1000) 26 8 (lgS (fun q => if q < 7 then hoS (h 17) n q else h 27 q) (h 8) n c)) 26 9 1) := by
        by_cases z : h 26 9 = 0
        · exact r_X2_solve_a0_26 h n R.n3 n7 c R.c3 c5 hf c0 z
        · have z1 : h 26 9 = 1 := by
            rcases k2 with q | q
            · exact absurd q z
            · exact q.1
          exact r_X2_solve_b0_26 h n R.n3 n7 c R.c3 c5 hf c0 z1 (fun q => old ⟨z1, q⟩)
      exact ⟨n + 5, _, by omega, r, ⟨R, row, P, I, S, X, D, k1, ⟨hf, Or.inr ⟨rfl, fun _ => rfl, fun z => absurd z (by omega)⟩⟩⟩, rfl, ⟨fun _ => rfl, fun z => absurd z (by omega)⟩⟩
    · have h0 : 0 < c := by omega
      have r : Rt L (n + 5) 37 [.ref 26] h none (PHo 26 28 29 (st_ (st_ (st_ (sc_ (sc_ (sc_ (sc_ h 27 (fun q => if q < 7 then hoS (h 17) n q else h 27 q)) 28 (fun q => if q < 7 then -1 else h 28 q)) 29 (fun q => if q < 7 then -1 else h 29 q)) 30 (fun q => if q < 5 then 0 else h 30 q)) 26 7 1000) 26 8 (lgS (fun q => if q < 7 then hoS (h 17) n q else h 27 q) (h 8) n c)) 26 9 1) (plS (lgS (fun q => if q < 7 then hoS (h 17) n q else h 27 q) (h 8) n c) true (fun q => if q < 7 then hoS (h 17) n q else h 27 q) (h 8) (h 4) c n 0 0 (fun q => if q < 5 then 0 else h 30 q) (1000, (fun q => if q < 7 then -1 else h 29 q), (fun q => if q < 7 then -1 else h 28 q)))) := by
        by_cases z : h 26 9 = 0
        · exact r_X2_solve_a_26 h n R.n3 n7 c R.c3 c5 hf h0 z
        · have z1 : h 26 9 = 1 := by
            rcases k2 with q | q
            · exact absurd q z
            · exact q.1
          exact r_X2_solve_b_26 h n R.n3 n7 c R.c3 c5 hf h0 z1 (fun q => old ⟨z1, q⟩)
      have e1 : ∀ i, i < c → (fun q => if q < 5 then 0 else h 30 q) i = (0 : Int32) := fun i hi => if_pos (by omega)
      have e2 : ∀ q, q < n → (fun q => if q < 7 then -1 else h 29 q) q = (-1 : Int32) := fun i hi => if_pos (by omega)
      have e3 : ∀ q, q < n → (fun q => if q < 7 then -1 else h 28 q) q = (-1 : Int32) := fun i hi => if_pos (by omega)
      have e4 : ∀ d, d < n → (fun q => if q < 7 then hoS (h 17) n q else h 27 q) d = if h 49 d = 1 then h 49 (7 + d) else -1 := fun d hd => by
        show (if d < 7 then hoS (h 17) n d else h 27 d) = _
        rw [if_pos (by omega), ho_eq row hd]
      exact ⟨n + 5, _, by omega, r, ⟨R, row, P, I, S, X, D, k1, ⟨hf, Or.inr ⟨rfl, fun z => absurd z c0, fun _ => ⟨_, _, _, e1, e2, e3, rfl, rfl⟩⟩⟩⟩, rfl, ⟨fun z => absurd z c0, fun _ => ⟨_, _, _, _, e4, e1, e2, e3, rfl, rfl⟩⟩⟩
theorem RollOk.w2 {n c : Nat} {h : AH} (R : RollOk n c h) : ∀ d, d < n → h 8 d = h 48 d ∧ ∃ x, x ≤ 99 ∧ h 48 d = nI x := fun d hd => by
  obtain ⟨w, _, hw, e⟩ := R.w99 d hd
  exact ⟨R.wt d hd, w, hw, e⟩
theorem RollOk.s2 {n c : Nat} {h : AH} (R : RollOk n c h) : ∀ i, i < c → h 4 i = h 44 i ∧ ∃ x, x ≤ 99 ∧ h 44 i = nI x := fun i hi => by
  obtain ⟨w, _, hw, e⟩ := R.s99 i hi
  exact ⟨R.sg i hi, w, hw, e⟩
theorem sm_loads {L : Nat} {h : AH} (E : RelE h) (x : Int32) : Sm L 99 167 [.int x] h := by
  obtain ⟨n, c, Q⟩ := id E
  have R := Q.1
  have n7 := R.n7
  by_cases x1 : x = -1
  · obtain ⟨dd, g, hdd, r, Qg, z0, hd, ld, an, t, s1, s2, s3, s4, s5, s6⟩ := slv21 (L := L) Q
    obtain ⟨R, row, P, I, S, X, D, k1, k2⟩ := id Qg
    have key := pk_loads (r0 := g 58) (r57 := g 57) (r59 := g 59) n7 R.c5 row.2.2.2.2.2.2.2 s1 R.w2 R.s2 s2 s3 s4
    exact Sm_mk (r_X8_loads_least h x x1 g dd r) (r_X9_loads_least g x n R.n43 n7 c R.c43 R.c5 R.c0 x1) (by rw [s5]; exact key.1.symm) (by omega) (by decide) ⟨n, c, R, row, P, I, S, X, D, k1, k2⟩ z0
  · rcases inS_or (x := x) (m := n) (by omega) with ⟨d, hd', rfl⟩ | hx
    · obtain ⟨dd, g, hdd, r, Qg, z0, hd, ld, an, t, s1, s2, s3, s4, s5, s6⟩ := slv21 (L := L) Q
      obtain ⟨R', row, P, I, S, X, D, k1, k2⟩ := id Qg
      have key := pk_loads (r0 := g 58) (r57 := g 57) (r59 := g 59) n7 R'.c5 row.2.2.2.2.2.2.2 s1 R'.w2 R'.s2 s2 s3 s4
      exact Sm_mk (r_X8_loads_ok h d n R.n3 n7 hd' g dd r) (r_X9_loads_ok g d n R'.n43 n7 c R'.c43 R'.c5 R'.c0 hd') (by rw [s6]; exact (key.2 d hd').symm) (by omega) (by decide) ⟨n, c, R', row, P, I, S, X, D, k1, k2⟩ z0
    · exact Sm_q E (by decide) (by decide) (r_X8_loads_unk h x n R.n3 n7 x1 hx) (r_X9_loads_unk h x n R.n43 n7 x1 hx) rfl
theorem sm_fair {L : Nat} {h : AH} (E : RelE h) (x : Int32) : Sm L 100 168 [.int x] h := by
  obtain ⟨n, c, Q⟩ := id E
  have R := Q.1
  have n7 := R.n7
  by_cases x1 : x = -1
  · obtain ⟨dd, g, hdd, r, Qg, z0, f0, f1⟩ := slv26 (L := L) Q
    obtain ⟨R, row, P, I, S, X, D, k1, k2⟩ := id Qg
    by_cases c0 : c = 0
    · exact Sm_mk (r_X8_fair_least h x x1 g dd r) (r_X9_fair_none g x n R.n43 n7 c R.c43 R.c5 R.c0 x1 c0) (by rw [f0 c0]; rfl) (by omega) (by decide) ⟨n, c, Qg⟩ z0
    · have h0 : 0 < c := by omega
      obtain ⟨hd, ld, an, t, s1, s2, s3, s4, s5, s6⟩ := f1 h0
      have key := pk_fair (r0 := g 58) (r57 := g 57) (r59 := g 59) (sg := g 4) n7 R.c5 h0 row.2.2.2.2.2.2.2 s1 R.w2 s2 s3 s4
      exact Sm_mk (r_X8_fair_least h x x1 g dd r) (r_X9_fair_least g x n R.n43 n7 c R.c43 R.c5 R.c0 x1 h0) (by rw [s5]; exact key.1.symm) (by omega) (by decide) ⟨n, c, R, row, P, I, S, X, D, k1, k2⟩ z0
  · rcases inS_or (x := x) (m := n) (by omega) with ⟨d, hd', rfl⟩ | hx
    · obtain ⟨dd, g, hdd, r, Qg, z0, f0, f1⟩ := slv26 (L := L) Q
      obtain ⟨R', row, P, I, S, X, D, k1, k2⟩ := id Qg
      have h0 : 0 < c := R.c0 (by omega)
      obtain ⟨hd, ld, an, t, s1, s2, s3, s4, s5, s6⟩ := f1 h0
      have key := pk_fair (r0 := g 58) (r57 := g 57) (r59 := g 59) (sg := g 4) n7 R'.c5 h0 row.2.2.2.2.2.2.2 s1 R'.w2 s2 s3 s4
      exact Sm_mk (r_X8_fair_ok h d n R.n3 n7 hd' g dd r) (r_X9_fair_ok g d n R'.n43 n7 c R'.c43 R'.c5 R'.c0 hd' h0) (by rw [s6]; exact (key.2 d hd').symm) (by omega) (by decide) ⟨n, c, R', row, P, I, S, X, D, k1, k2⟩ z0
    · exact Sm_q E (by decide) (by decide) (r_X8_fair_unk h x n R.n3 n7 x1 hx) (r_X9_fair_unk h x n R.n43 n7 x1 hx) rfl

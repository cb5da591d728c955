/-! THE REFERENCE: its methods, 7 -/
theorem r_X9_doIt_unk {L : Nat} (h : AH) (x : Int32) (n : Nat) (hn : h 43 6 = nI n) (h7 : n ≤ 7) (hx : ¬ inS x n) : Rt L 2 148 [.ref 43, .int x] h (some (-1000000001)) h := by
  refine T_run 2 (st' := (2, [.ref 43, .int x], [.int x, .ref 43], S0 L, h)) rfl ?_
  refine T_callR (S' := [.int (b2i (inS x n))]) (h' := h) (r_X9_isDeed (L := L) h x n hn h7) (by decide) rfl rfl rfl rfl rfl rfl rfl ?_
  refine T_iff (c := ¬ (b2i (inS x n)) = 0) (t := 11) (f := 8) (L := [.ref 43, .int x]) (S := []) (G := S0 L) (h := h) rfl (bnz_f hx) ?_
  refine T_run 1 (st' := (10, [.ref 43, .int x], [.int (-1000000001)], S0 L, h)) rfl ?_
  exact T_retR rfl rfl rfl rfl
theorem r_X9_doIt_not {L : Nat} (h : AH) (d : Nat) (n : Nat) (hn : h 43 6 = nI n) (h7 : n ≤ 7) (hd : d < n) (hq : ¬ h 49 d = 0) : Rt L 2 148 [.ref 43, .int (nI d)] h (some (-1000000003)) h := by
  refine T_run 2 (st' := (2, [.ref 43, .int (nI d)], [.int (nI d), .ref 43], S0 L, h)) rfl ?_
  refine T_callR (S' := [.int (b2i (inS (nI d) n))]) (h' := h) (r_X9_isDeed (L := L) h (nI d) n hn h7) (by decide) rfl rfl rfl rfl rfl rfl rfl ?_
  refine T_ift (c := ¬ (b2i (inS (nI d) n)) = 0) (t := 11) (f := 8) (L := [.ref 43, .int (nI d)]) (S := []) (G := S0 L) (h := h) rfl (bz_t (inS_nat hd (by omega))) ?_
  refine T_run 3 (st' := (16, [.ref 43, .int (nI d)], [.int (nI d), .ref 49], S0 L, h)) rfl ?_
  refine T_ald (n := d) rfl rfl rfl (by omega) (by decide) rfl ?_
  refine T_iff (c := (h 49 d) = 0) (t := 23) (f := 20) (L := [.ref 43, .int (nI d)]) (S := []) (G := S0 L) (h := h) rfl hq ?_
  refine T_run 1 (st' := (22, [.ref 43, .int (nI d)], [.int (-1000000003)], S0 L, h)) rfl ?_
  exact T_retR rfl rfl rfl rfl
theorem r_X9_doIt_ok {L : Nat} (h : AH) (d : Nat) (n : Nat) (hn : h 43 6 = nI n) (h7 : n ≤ 7) (u : Nat) (hu : h 43 26 = nI u) (hu20 : u ≤ 20) (hd : d < n) (hq : h 49 d = 0) : Rt L 2 148 [.ref 43, .int (nI d)] h (some (loadS (layR d 1 (h 47 d) (h 49)) (fun z_ => (layR d 1 (h 47 d) (h 49)) (7 + z_)) (h 48) (h 47 d) n)) (sc_ (st_ (sc_ h 56 (remP (h 56) (h 49) u)) 43 26 (nI (remU u))) 49 (layR d 1 (h 47 d) (h 49))) := by
  refine T_run 2 (st' := (2, [.ref 43, .int (nI d)], [.int (nI d), .ref 43], S0 L, h)) rfl ?_
  refine T_callR (S' := [.int (b2i (inS (nI d) n))]) (h' := h) (r_X9_isDeed (L := L) h (nI d) n hn h7) (by decide) rfl rfl rfl rfl rfl rfl rfl ?_
  refine T_ift (c := ¬ (b2i (inS (nI d) n)) = 0) (t := 11) (f := 8) (L := [.ref 43, .int (nI d)]) (S := []) (G := S0 L) (h := h) rfl (bz_t (inS_nat hd (by omega))) ?_
  refine T_run 3 (st' := (16, [.ref 43, .int (nI d)], [.int (nI d), .ref 49], S0 L, h)) rfl ?_
  refine T_ald (n := d) rfl rfl rfl (by omega) (by decide) rfl ?_
  refine T_ift (c := (h 49 d) = 0) (t := 23) (f := 20) (L := [.ref 43, .int (nI d)]) (S := []) (G := S0 L) (h := h) rfl hq ?_
  refine T_run 1 (st' := (24, [.ref 43, .int (nI d)], [.ref 43], S0 L, h)) rfl ?_
  refine T_callR (S' := []) (h' := (st_ (sc_ h 56 (remP (h 56) (h 49) u)) 43 26 (nI (remU u)))) (r_X9_remember (L := L) h  u hu hu20) (by decide) rfl rfl rfl rfl rfl rfl rfl ?_
  refine T_run 6 (st' := (35, [.ref 43, .int (nI d)], [.int (nI d), .ref 47, .int 1, .int (nI d), .ref 43], S0 L, (st_ (sc_ h 56 (remP (h 56) (h 49) u)) 43 26 (nI (remU u))))) rfl ?_
  refine T_ald (n := d) rfl rfl rfl (by omega) (by decide) rfl ?_
  refine T_callR (S' := []) (h' := (sc_ (st_ (sc_ h 56 (remP (h 56) (h 49) u)) 43 26 (nI (remU u))) 49 (layR d 1 (h 47 d) (h 49)))) (r_X9_lay (L := L) (st_ (sc_ h 56 (remP (h 56) (h 49) u)) 43 26 (nI (remU u))) d 1 (h 47 d) (by omega)) (by decide) rfl rfl rfl rfl rfl rfl rfl ?_
  refine T_run 4 (st' := (45, [.ref 43, .int (nI d)], [.int (nI d), .ref 47, .ref 43], S0 L, (sc_ (st_ (sc_ h 56 (remP (h 56) (h 49) u)) 43 26 (nI (remU u))) 49 (layR d 1 (h 47 d) (h 49))))) rfl ?_
  refine T_ald (n := d) rfl rfl rfl (by omega) (by decide) rfl ?_
  refine T_callR (S' := [.int (loadS (layR d 1 (h 47 d) (h 49)) (fun z_ => (layR d 1 (h 47 d) (h 49)) (7 + z_)) (h 48) (h 47 d) n)]) (h' := (sc_ (st_ (sc_ h 56 (remP (h 56) (h 49) u)) 43 26 (nI (remU u))) 49 (layR d 1 (h 47 d) (h 49)))) (r_X9_load (L := L) (sc_ (st_ (sc_ h 56 (remP (h 56) (h 49) u)) 43 26 (nI (remU u))) 49 (layR d 1 (h 47 d) (h 49))) (h 47 d) n hn h7) (by decide) rfl rfl rfl rfl rfl rfl rfl ?_
  exact T_retR rfl rfl rfl rfl
theorem r_X9_carry_unk1 {L : Nat} (h : AH) (x : Int32) (y : Int32) (n : Nat) (hn : h 43 6 = nI n) (h7 : n ≤ 7) (hx : ¬ inS x n) : Rt L 2 149 [.ref 43, .int x, .int y] h (some (-1000000001)) h := by
  refine T_run 2 (st' := (2, [.ref 43, .int x, .int y], [.int x, .ref 43], S0 L, h)) rfl ?_
  refine T_callR (S' := [.int (b2i (inS x n))]) (h' := h) (r_X9_isDeed (L := L) h x n hn h7) (by decide) rfl rfl rfl rfl rfl rfl rfl ?_
  refine T_ift (c := (b2i (inS x n)) = 0) (t := 16) (f := 8) (L := [.ref 43, .int x, .int y]) (S := []) (G := S0 L) (h := h) rfl (bz_f hx) ?_
  refine T_run 1 (st' := (18, [.ref 43, .int x, .int y], [.int (-1000000001)], S0 L, h)) rfl ?_
  exact T_retR rfl rfl rfl rfl
theorem r_X9_carry_unk2 {L : Nat} (h : AH) (x : Int32) (y : Int32) (n : Nat) (hn : h 43 6 = nI n) (h7 : n ≤ 7) (c0 : Nat) (hc : h 43 2 = nI c0) (h5 : c0 ≤ 5) (hx : inS x n) (hy : ¬ inS y c0) : Rt L 2 149 [.ref 43, .int x, .int y] h (some (-1000000001)) h := by
  refine T_run 2 (st' := (2, [.ref 43, .int x, .int y], [.int x, .ref 43], S0 L, h)) rfl ?_
  refine T_callR (S' := [.int (b2i (inS x n))]) (h' := h) (r_X9_isDeed (L := L) h x n hn h7) (by decide) rfl rfl rfl rfl rfl rfl rfl ?_
  refine T_iff (c := (b2i (inS x n)) = 0) (t := 16) (f := 8) (L := [.ref 43, .int x, .int y]) (S := []) (G := S0 L) (h := h) rfl (bz_t hx) ?_
  refine T_run 2 (st' := (10, [.ref 43, .int x, .int y], [.int y, .ref 43], S0 L, h)) rfl ?_
  refine T_callR (S' := [.int (b2i (inS y c0))]) (h' := h) (r_X9_isChild (L := L) h y c0 hc h5) (by decide) rfl rfl rfl rfl rfl rfl rfl ?_
  refine T_iff (c := ¬ (b2i (inS y c0)) = 0) (t := 19) (f := 16) (L := [.ref 43, .int x, .int y]) (S := []) (G := S0 L) (h := h) rfl (bnz_f hy) ?_
  refine T_run 1 (st' := (18, [.ref 43, .int x, .int y], [.int (-1000000001)], S0 L, h)) rfl ?_
  exact T_retR rfl rfl rfl rfl
theorem r_X9_carry_not1 {L : Nat} (h : AH) (d : Nat) (y : Int32) (n : Nat) (hn : h 43 6 = nI n) (h7 : n ≤ 7) (c0 : Nat) (hc : h 43 2 = nI c0) (h5 : c0 ≤ 5) (hd : d < n) (hy : inS y c0) (hq : ¬ h 49 d = 1) : Rt L 2 149 [.ref 43, .int (nI d), .int y] h (some (-1000000003)) h := by
  refine T_run 2 (st' := (2, [.ref 43, .int (nI d), .int y], [.int (nI d), .ref 43], S0 L, h)) rfl ?_
  refine T_callR (S' := [.int (b2i (inS (nI d) n))]) (h' := h) (r_X9_isDeed (L := L) h (nI d) n hn h7) (by decide) rfl rfl rfl rfl rfl rfl rfl ?_
  refine T_iff (c := (b2i (inS (nI d) n)) = 0) (t := 16) (f := 8) (L := [.ref 43, .int (nI d), .int y]) (S := []) (G := S0 L) (h := h) rfl (bz_t (inS_nat hd (by omega))) ?_
  refine T_run 2 (st' := (10, [.ref 43, .int (nI d), .int y], [.int y, .ref 43], S0 L, h)) rfl ?_
  refine T_callR (S' := [.int (b2i (inS y c0))]) (h' := h) (r_X9_isChild (L := L) h y c0 hc h5) (by decide) rfl rfl rfl rfl rfl rfl rfl ?_
  refine T_ift (c := ¬ (b2i (inS y c0)) = 0) (t := 19) (f := 16) (L := [.ref 43, .int (nI d), .int y]) (S := []) (G := S0 L) (h := h) rfl (bz_t hy) ?_
  refine T_run 3 (st' := (24, [.ref 43, .int (nI d), .int y], [.int (nI d), .ref 49], S0 L, h)) rfl ?_
  refine T_ald (n := d) rfl rfl rfl (by omega) (by decide) rfl ?_
  refine T_run 1 (st' := (26, [.ref 43, .int (nI d), .int y], [.int 1, .int (h 49 d)], S0 L, h)) rfl ?_
  refine T_ift (c := ¬ (h 49 d) = 1) (t := 42) (f := 29) (L := [.ref 43, .int (nI d), .int y]) (S := []) (G := S0 L) (h := h) rfl hq ?_
  refine T_run 1 (st' := (44, [.ref 43, .int (nI d), .int y], [.int (-1000000003)], S0 L, h)) rfl ?_
  exact T_retR rfl rfl rfl rfl
theorem r_X9_carry_not2 {L : Nat} (h : AH) (d : Nat) (y : Int32) (n : Nat) (hn : h 43 6 = nI n) (h7 : n ≤ 7) (c0 : Nat) (hc : h 43 2 = nI c0) (h5 : c0 ≤ 5) (hd : d < n) (hy : inS y c0) (hq : h 49 d = 1) (hp : h 49 (7 + d) = y) : Rt L 2 149 [.ref 43, .int (nI d), .int y] h (some (-1000000003)) h := by
  refine T_run 2 (st' := (2, [.ref 43, .int (nI d), .int y], [.int (nI d), .ref 43], S0 L, h)) rfl ?_
  refine T_callR (S' := [.int (b2i (inS (nI d) n))]) (h' := h) (r_X9_isDeed (L := L) h (nI d) n hn h7) (by decide) rfl rfl rfl rfl rfl rfl rfl ?_
  refine T_iff (c := (b2i (inS (nI d) n)) = 0) (t := 16) (f := 8) (L := [.ref 43, .int (nI d), .int y]) (S := []) (G := S0 L) (h := h) rfl (bz_t (inS_nat hd (by omega))) ?_
  refine T_run 2 (st' := (10, [.ref 43, .int (nI d), .int y], [.int y, .ref 43], S0 L, h)) rfl ?_
  refine T_callR (S' := [.int (b2i (inS y c0))]) (h' := h) (r_X9_isChild (L := L) h y c0 hc h5) (by decide) rfl rfl rfl rfl rfl rfl rfl ?_
  refine T_ift (c := ¬ (b2i (inS y c0)) = 0) (t := 19) (f := 16) (L := [.ref 43, .int (nI d), .int y]) (S := []) (G := S0 L) (h := h) rfl (bz_t hy) ?_
  refine T_run 3 (st' := (24, [.ref 43, .int (nI d), .int y], [.int (nI d), .ref 49], S0 L, h)) rfl ?_
  refine T_ald (n := d) rfl rfl rfl (by omega) (by decide) rfl ?_
  refine T_run 1 (st' := (26, [.ref 43, .int (nI d), .int y], [.int 1, .int (h 49 d)], S0 L, h)) rfl ?_
  refine T_iff (c := ¬ (h 49 d) = 1) (t := 42) (f := 29) (L := [.ref 43, .int (nI d), .int y]) (S := []) (G := S0 L) (h := h) rfl (fun z => z hq) ?_
  refine T_run 5 (st' := (37, [.ref 43, .int (nI d), .int y], [.int (7 + (nI d)), .ref 49], S0 L, h)) rfl ?_
  refine T_ald (n := 7 + d) rfl rfl (nI_addE rfl rfl) (by omega) (by decide) rfl ?_
  refine T_run 1 (st' := (39, [.ref 43, .int (nI d), .int y], [.int y, .int (h 49 (7 + d))], S0 L, h)) rfl ?_
  refine T_iff (c := ¬ (h 49 (7 + d)) = y) (t := 45) (f := 42) (L := [.ref 43, .int (nI d), .int y]) (S := []) (G := S0 L) (h := h) rfl (fun z => z hp) ?_
  refine T_run 1 (st' := (44, [.ref 43, .int (nI d), .int y], [.int (-1000000003)], S0 L, h)) rfl ?_
  exact T_retR rfl rfl rfl rfl
theorem r_X9_carry_ok {L : Nat} (h : AH) (d : Nat) (y : Int32) (n : Nat) (hn : h 43 6 = nI n) (h7 : n ≤ 7) (c0 : Nat) (hc : h 43 2 = nI c0) (h5 : c0 ≤ 5) (u : Nat) (hu : h 43 26 = nI u) (hu20 : u ≤ 20) (hd : d < n) (hy : inS y c0) (hq : h 49 d = 1) (hp : ¬ h 49 (7 + d) = y) : Rt L 2 149 [.ref 43, .int (nI d), .int y] h (some (loadS (layR d 1 y (h 49)) (fun z_ => (layR d 1 y (h 49)) (7 + z_)) (h 48) y n)) (sc_ (st_ (sc_ h 56 (remP (h 56) (h 49) u)) 43 26 (nI (remU u))) 49 (layR d 1 y (h 49))) := by
  refine T_run 2 (st' := (2, [.ref 43, .int (nI d), .int y], [.int (nI d), .ref 43], S0 L, h)) rfl ?_
  refine T_callR (S' := [.int (b2i (inS (nI d) n))]) (h' := h) (r_X9_isDeed (L := L) h (nI d) n hn h7) (by decide) rfl rfl rfl rfl rfl rfl rfl ?_
  refine T_iff (c := (b2i (inS (nI d) n)) = 0) (t := 16) (f := 8) (L := [.ref 43, .int (nI d), .int y]) (S := []) (G := S0 L) (h := h) rfl (bz_t (inS_nat hd (by omega))) ?_
  refine T_run 2 (st' := (10, [.ref 43, .int (nI d), .int y], [.int y, .ref 43], S0 L, h)) rfl ?_
  refine T_callR (S' := [.int (b2i (inS y c0))]) (h' := h) (r_X9_isChild (L := L) h y c0 hc h5) (by decide) rfl rfl rfl rfl rfl rfl rfl ?_
  refine T_ift (c := ¬ (b2i (inS y c0)) = 0) (t := 19) (f := 16) (L := [.ref 43, .int (nI d), .int y]) (S := []) (G := S0 L) (h := h) rfl (bz_t hy) ?_
  refine T_run 3 (st' := (24, [.ref 43, .int (nI d), .int y], [.int (nI d), .ref 49], S0 L, h)) rfl ?_
  refine T_ald (n := d) rfl rfl rfl (by omega) (by decide) rfl ?_
  refine T_run 1 (st' := (26, [.ref 43, .int (nI d), .int y], [.int 1, .int (h 49 d)], S0 L, h)) rfl ?_
  refine T_iff (c := ¬ (h 49 d) = 1) (t := 42) (f := 29) (L := [.ref 43, .int (nI d), .int y]) (S := []) (G := S0 L) (h := h) rfl (fun z => z hq) ?_
  refine T_run 5 (st' := (37, [.ref 43, .int (nI d), .int y], [.int (7 + (nI d)), .ref 49], S0 L, h)) rfl ?_
  refine T_ald (n := 7 + d) rfl rfl (nI_addE rfl rfl) (by omega) (by decide) rfl ?_
  refine T_run 1 (st' := (39, [.ref 43, .int (nI d), .int y], [.int y, .int (h 49 (7 + d))], S0 L, h)) rfl ?_
  refine T_ift (c := ¬ (h 49 (7 + d)) = y) (t := 45) (f := 42) (L := [.ref 43, .int (nI d), .int y]) (S := []) (G := S0 L) (h := h) rfl hp ?_
  refine T_run 1 (st' := (46, [.ref 43, .int (nI d), .int y], [.ref 43], S0 L, h)) rfl ?_
  refine T_callR (S' := []) (h' := (st_ (sc_ h 56 (remP (h 56) (h 49) u)) 43 26 (nI (remU u)))) (r_X9_remember (L := L) h  u hu hu20) (by decide) rfl rfl rfl rfl rfl rfl rfl ?_
  refine T_run 4 (st' := (53, [.ref 43, .int (nI d), .int y], [.int y, .int 1, .int (nI d), .ref 43], S0 L, (st_ (sc_ h 56 (remP (h 56) (h 49) u)) 43 26 (nI (remU u))))) rfl ?_
  refine T_callR (S' := []) (h' := (sc_ (st_ (sc_ h 56 (remP (h 56) (h 49) u)) 43 26 (nI (remU u))) 49 (layR d 1 y (h 49)))) (r_X9_lay (L := L) (st_ (sc_ h 56 (remP (h 56) (h 49) u)) 43 26 (nI (remU u))) d 1 y (by omega)) (by decide) rfl rfl rfl rfl rfl rfl rfl ?_
  refine T_run 2 (st' := (58, [.ref 43, .int (nI d), .int y], [.int y, .ref 43], S0 L, (sc_ (st_ (sc_ h 56 (remP (h 56) (h 49) u)) 43 26 (nI (remU u))) 49 (layR d 1 y (h 49))))) rfl ?_
  refine T_callR (S' := [.int (loadS (layR d 1 y (h 49)) (fun z_ => (layR d 1 y (h 49)) (7 + z_)) (h 48) y n)]) (h' := (sc_ (st_ (sc_ h 56 (remP (h 56) (h 49) u)) 43 26 (nI (remU u))) 49 (layR d 1 y (h 49)))) (r_X9_load (L := L) (sc_ (st_ (sc_ h 56 (remP (h 56) (h 49) u)) 43 26 (nI (remU u))) 49 (layR d 1 y (h 49))) y n hn h7) (by decide) rfl rfl rfl rfl rfl rfl rfl ?_
  exact T_retR rfl rfl rfl rfl
theorem r_X9_swap_unk1 {L : Nat} (h : AH) (x : Int32) (y : Int32) (n : Nat) (hn : h 43 6 = nI n) (h7 : n ≤ 7) (hx : ¬ inS x n) : Rt L 2 151 [.ref 43, .int x, .int y] h (some (-1000000001)) h := by
  refine T_run 2 (st' := (2, [.ref 43, .int x, .int y, un_], [.int x, .ref 43], S0 L, h)) rfl ?_
  refine T_callR (S' := [.int (b2i (inS x n))]) (h' := h) (r_X9_isDeed (L := L) h x n hn h7) (by decide) rfl rfl rfl rfl rfl rfl rfl ?_
  refine T_ift (c := (b2i (inS x n)) = 0) (t := 21) (f := 8) (L := [.ref 43, .int x, .int y, un_]) (S := []) (G := S0 L) (h := h) rfl (bz_f hx) ?_
  refine T_run 1 (st' := (23, [.ref 43, .int x, .int y, un_], [.int (-1000000001)], S0 L, h)) rfl ?_
  exact T_retR rfl rfl rfl rfl
theorem r_X9_swap_unk2 {L : Nat} (h : AH) (x : Int32) (y : Int32) (n : Nat) (hn : h 43 6 = nI n) (h7 : n ≤ 7) (hx : inS x n) (hy : ¬ inS y n) : Rt L 2 151 [.ref 43, .int x, .int y] h (some (-1000000001)) h := by
  refine T_run 2 (st' := (2, [.ref 43, .int x, .int y, un_], [.int x, .ref 43], S0 L, h)) rfl ?_
  refine T_callR (S' := [.int (b2i (inS x n))]) (h' := h) (r_X9_isDeed (L := L) h x n hn h7) (by decide) rfl rfl rfl rfl rfl rfl rfl ?_
  refine T_iff (c := (b2i (inS x n)) = 0) (t := 21) (f := 8) (L := [.ref 43, .int x, .int y, un_]) (S := []) (G := S0 L) (h := h) rfl (bz_t hx) ?_
  refine T_run 2 (st' := (10, [.ref 43, .int x, .int y, un_], [.int y, .ref 43], S0 L, h)) rfl ?_
  refine T_callR (S' := [.int (b2i (inS y n))]) (h' := h) (r_X9_isDeed (L := L) h y n hn h7) (by decide) rfl rfl rfl rfl rfl rfl rfl ?_
  refine T_ift (c := (b2i (inS y n)) = 0) (t := 21) (f := 16) (L := [.ref 43, .int x, .int y, un_]) (S := []) (G := S0 L) (h := h) rfl (bz_f hy) ?_
  refine T_run 1 (st' := (23, [.ref 43, .int x, .int y, un_], [.int (-1000000001)], S0 L, h)) rfl ?_
  exact T_retR rfl rfl rfl rfl
theorem r_X9_swap_unk3 {L : Nat} (h : AH) (x : Int32) (y : Int32) (n : Nat) (hn : h 43 6 = nI n) (h7 : n ≤ 7) (hx : inS x n) (hy : inS y n) (he : x = y) : Rt L 2 151 [.ref 43, .int x, .int y] h (some (-1000000001)) h := by
  refine T_run 2 (st' := (2, [.ref 43, .int x, .int y, un_], [.int x, .ref 43], S0 L, h)) rfl ?_
  refine T_callR (S' := [.int (b2i (inS x n))]) (h' := h) (r_X9_isDeed (L := L) h x n hn h7) (by decide) rfl rfl rfl rfl rfl rfl rfl ?_
  refine T_iff (c := (b2i (inS x n)) = 0) (t := 21) (f := 8) (L := [.ref 43, .int x, .int y, un_]) (S := []) (G := S0 L) (h := h) rfl (bz_t hx) ?_
  refine T_run 2 (st' := (10, [.ref 43, .int x, .int y, un_], [.int y, .ref 43], S0 L, h)) rfl ?_
  refine T_callR (S' := [.int (b2i (inS y n))]) (h' := h) (r_X9_isDeed (L := L) h y n hn h7) (by decide) rfl rfl rfl rfl rfl rfl rfl ?_
  refine T_iff (c := (b2i (inS y n)) = 0) (t := 21) (f := 16) (L := [.ref 43, .int x, .int y, un_]) (S := []) (G := S0 L) (h := h) rfl (bz_t hy) ?_
  refine T_run 2 (st' := (18, [.ref 43, .int x, .int y, un_], [.int y, .int x], S0 L, h)) rfl ?_
  refine T_iff (c := ¬ x = y) (t := 24) (f := 21) (L := [.ref 43, .int x, .int y, un_]) (S := []) (G := S0 L) (h := h) rfl (fun z => z he) ?_
  refine T_run 1 (st' := (23, [.ref 43, .int x, .int y, un_], [.int (-1000000001)], S0 L, h)) rfl ?_
  exact T_retR rfl rfl rfl rfl
theorem r_X9_swap_not {L : Nat} (h : AH) (d : Nat) (e : Nat) (n : Nat) (hn : h 43 6 = nI n) (h7 : n ≤ 7) (hd : d < n) (he : e < n) (hde : ¬ d = e) (hq : ¬ (h 49 d = 1 ∧ h 49 e = 1 ∧ ¬ h 49 (7 + d) = h 49 (7 + e))) : Rt L 2 151 [.ref 43, .int (nI d), .int (nI e)] h (some (-1000000003)) h := by
  refine T_run 2 (st' := (2, [.ref 43, .int (nI d), .int (nI e), un_], [.int (nI d), .ref 43], S0 L, h)) rfl ?_
  refine T_callR (S' := [.int (b2i (inS (nI d) n))]) (h' := h) (r_X9_isDeed (L := L) h (nI d) n hn h7) (by decide) rfl rfl rfl rfl rfl rfl rfl ?_
  refine T_iff (c := (b2i (inS (nI d) n)) = 0) (t := 21) (f := 8) (L := [.ref 43, .int (nI d), .int (nI e), un_]) (S := []) (G := S0 L) (h := h) rfl (bz_t (inS_nat hd (by omega))) ?_
  refine T_run 2 (st' := (10, [.ref 43, .int (nI d), .int (nI e), un_], [.int (nI e), .ref 43], S0 L, h)) rfl ?_
  refine T_callR (S' := [.int (b2i (inS (nI e) n))]) (h' := h) (r_X9_isDeed (L := L) h (nI e) n hn h7) (by decide) rfl rfl rfl rfl rfl rfl rfl ?_
  refine T_iff (c := (b2i (inS (nI e) n)) = 0) (t := 21) (f := 16) (L := [.ref 43, .int (nI d), .int (nI e), un_]) (S := []) (G := S0 L) (h := h) rfl (bz_t (inS_nat he (by omega))) ?_
  refine T_run 2 (st' := (18, [.ref 43, .int (nI d), .int (nI e), un_], [.int (nI e), .int (nI d)], S0 L, h)) rfl ?_
  refine T_iftP (c := ¬ (nI d) = (nI e)) (P := ¬ d = e) (t := 24) (f := 21) (L := [.ref 43, .int (nI d), .int (nI e), un_]) (S := []) (G := S0 L) (h := h) rfl (not_congr (nI_eqE rfl rfl (by omega) (by omega))) hde ?_
  refine T_run 3 (st' := (27, [.ref 43, .int (nI d), .int (nI e), un_], [.int (nI e), .int (nI d), .ref 43], S0 L, h)) rfl ?_
  refine T_callR (S' := [.int (b2i (h 49 d = 1 ∧ h 49 e = 1 ∧ ¬ h 49 (7 + d) = h 49 (7 + e)))]) (h' := h) (r_X9_canSwap (L := L) h d e (by omega) (by omega)) (by decide) rfl rfl rfl rfl rfl rfl rfl ?_
  refine T_iff (c := ¬ (b2i (h 49 d = 1 ∧ h 49 e = 1 ∧ ¬ h 49 (7 + d) = h 49 (7 + e))) = 0) (t := 36) (f := 33) (L := [.ref 43, .int (nI d), .int (nI e), un_]) (S := []) (G := S0 L) (h := h) rfl (bnz_f hq) ?_
  refine T_run 1 (st' := (35, [.ref 43, .int (nI d), .int (nI e), un_], [.int (-1000000003)], S0 L, h)) rfl ?_
  exact T_retR rfl rfl rfl rfl
theorem r_X9_swap_ok {L : Nat} (h : AH) (d : Nat) (e : Nat) (n : Nat) (hn : h 43 6 = nI n) (h7 : n ≤ 7) (u : Nat) (hu : h 43 26 = nI u) (hu20 : u ≤ 20) (hd : d < n) (he : e < n) (hde : ¬ d = e) (hq : h 49 d = 1 ∧ h 49 e = 1 ∧ ¬ h 49 (7 + d) = h 49 (7 + e)) : Rt L 2 151 [.ref 43, .int (nI d), .int (nI e)] h (some 1) (sc_ (st_ (sc_ h 56 (remP (h 56) (h 49) u)) 43 26 (nI (remU u))) 49 (swpR d e (h 49))) := by
  refine T_run 2 (st' := (2, [.ref 43, .int (nI d), .int (nI e), un_], [.int (nI d), .ref 43], S0 L, h)) rfl ?_
  refine T_callR (S' := [.int (b2i (inS (nI d) n))]) (h' := h) (r_X9_isDeed (L := L) h (nI d) n hn h7) (by decide) rfl rfl rfl rfl rfl rfl rfl ?_
  refine T_iff (c := (b2i (inS (nI d) n)) = 0) (t := 21) (f := 8) (L := [.ref 43, .int (nI d), .int (nI e), un_]) (S := []) (G := S0 L) (h := h) rfl (bz_t (inS_nat hd (by omega))) ?_
  refine T_run 2 (st' := (10, [.ref 43, .int (nI d), .int (nI e), un_], [.int (nI e), .ref 43], S0 L, h)) rfl ?_
  refine T_callR (S' := [.int (b2i (inS (nI e) n))]) (h' := h) (r_X9_isDeed (L := L) h (nI e) n hn h7) (by decide) rfl rfl rfl rfl rfl rfl rfl ?_
  refine T_iff (c := (b2i (inS (nI e) n)) = 0) (t := 21) (f := 16) (L := [.ref 43, .int (nI d), .int (nI e), un_]) (S := []) (G := S0 L) (h := h) rfl (bz_t (inS_nat he (by omega))) ?_
  refine T_run 2 (st' := (18, [.ref 43, .int (nI d), .int (nI e), un_], [.int (nI e), .int (nI d)], S0 L, h)) rfl ?_
  refine T_iftP (c := ¬ (nI d) = (nI e)) (P := ¬ d = e) (t := 24) (f := 21) (L := [.ref 43, .int (nI d), .int (nI e), un_]) (S := []) (G := S0 L) (h := h) rfl (not_congr (nI_eqE rfl rfl (by omega) (by omega))) hde ?_
  refine T_run 3 (st' := (27, [.ref 43, .int (nI d), .int (nI e), un_], [.int (nI e), .int (nI d), .ref 43], S0 L, h)) rfl ?_
  refine T_callR (S' := [.int (b2i (h 49 d = 1 ∧ h 49 e = 1 ∧ ¬ h 49 (7 + d) = h 49 (7 + e)))]) (h' := h) (r_X9_canSwap (L := L) h d e (by omega) (by omega)) (by decide) rfl rfl rfl rfl rfl rfl rfl ?_
  refine T_ift (c := ¬ (b2i (h 49 d = 1 ∧ h 49 e = 1 ∧ ¬ h 49 (7 + d) = h 49 (7 + e))) = 0) (t := 36) (f := 33) (L := [.ref 43, .int (nI d), .int (nI e), un_]) (S := []) (G := S0 L) (h := h) rfl (bz_t hq) ?_
  refine T_run 1 (st' := (37, [.ref 43, .int (nI d), .int (nI e), un_], [.ref 43], S0 L, h)) rfl ?_
  refine T_callR (S' := []) (h' := (st_ (sc_ h 56 (remP (h 56) (h 49) u)) 43 26 (nI (remU u)))) (r_X9_remember (L := L) h  u hu hu20) (by decide) rfl rfl rfl rfl rfl rfl rfl ?_
  refine T_run 5 (st' := (48, [.ref 43, .int (nI d), .int (nI e), un_], [.int (7 + (nI d)), .ref 49], S0 L, (st_ (sc_ h 56 (remP (h 56) (h 49) u)) 43 26 (nI (remU u))))) rfl ?_
  refine T_ald (n := 7 + d) rfl rfl (nI_addE rfl rfl) (by omega) (by decide) rfl ?_
  refine T_run 11 (st' := (66, [.ref 43, .int (nI d), .int (nI e), .int (h 49 (7 + d))], [.int (7 + (nI e)), .ref 49, .int (7 + (nI d)), .ref 49], S0 L, (st_ (sc_ h 56 (remP (h 56) (h 49) u)) 43 26 (nI (remU u))))) rfl ?_
  refine T_ald (n := 7 + e) rfl rfl (nI_addE rfl rfl) (by omega) (by decide) rfl ?_
  refine T_ast (n := 7 + d) rfl rfl (nI_addE rfl rfl) (by omega) (by decide) rfl ?_
  refine T_run 6 (st' := (77, [.ref 43, .int (nI d), .int (nI e), .int (h 49 (7 + d))], [.int (h 49 (7 + d)), .int (7 + (nI e)), .ref 49], S0 L, (st_ (st_ (sc_ h 56 (remP (h 56) (h 49) u)) 43 26 (nI (remU u))) 49 (7 + d) (h 49 (7 + e))))) rfl ?_
  refine T_ast (n := 7 + e) rfl rfl (nI_addE rfl rfl) (by omega) (by decide) rfl ?_
  refine T_run 1 (st' := (79, [.ref 43, .int (nI d), .int (nI e), .int (h 49 (7 + d))], [.int 1], S0 L, (st_ (st_ (st_ (sc_ h 56 (remP (h 56) (h 49) u)) 43 26 (nI (remU u))) 49 (7 + d) (h 49 (7 + e))) 49 (7 + e) (h 49 (7 + d))))) rfl ?_
  exact T_retR rfl rfl rfl (by rw [st_is (i := 7 + d), st_sc]; rfl)
theorem r_X9_throwIt_unk {L : Nat} (h : AH) (x : Int32) (n : Nat) (hn : h 43 6 = nI n) (h7 : n ≤ 7) (hx : ¬ inS x n) : Rt L 2 154 [.ref 43, .int x] h (some (-1000000001)) h := by
  refine T_run 2 (st' := (2, [.ref 43, .int x], [.int x, .ref 43], S0 L, h)) rfl ?_
  refine T_callR (S' := [.int (b2i (inS x n))]) (h' := h) (r_X9_isDeed (L := L) h x n hn h7) (by decide) rfl rfl rfl rfl rfl rfl rfl ?_
  refine T_iff (c := ¬ (b2i (inS x n)) = 0) (t := 11) (f := 8) (L := [.ref 43, .int x]) (S := []) (G := S0 L) (h := h) rfl (bnz_f hx) ?_
  refine T_run 1 (st' := (10, [.ref 43, .int x], [.int (-1000000001)], S0 L, h)) rfl ?_
  exact T_retR rfl rfl rfl rfl
theorem r_X9_throwIt_not {L : Nat} (h : AH) (d : Nat) (n : Nat) (hn : h 43 6 = nI n) (h7 : n ≤ 7) (hd : d < n) (hq : ¬ (h 49 d = 1 ∧ ¬ (h 43 1) < (h 49 15) + (h 48 d))) : Rt L 2 154 [.ref 43, .int (nI d)] h (some (-1000000003)) h := by
  refine T_run 2 (st' := (2, [.ref 43, .int (nI d)], [.int (nI d), .ref 43], S0 L, h)) rfl ?_
  refine T_callR (S' := [.int (b2i (inS (nI d) n))]) (h' := h) (r_X9_isDeed (L := L) h (nI d) n hn h7) (by decide) rfl rfl rfl rfl rfl rfl rfl ?_
  refine T_ift (c := ¬ (b2i (inS (nI d) n)) = 0) (t := 11) (f := 8) (L := [.ref 43, .int (nI d)]) (S := []) (G := S0 L) (h := h) rfl (bz_t (inS_nat hd (by omega))) ?_
  refine T_run 2 (st' := (13, [.ref 43, .int (nI d)], [.int (nI d), .ref 43], S0 L, h)) rfl ?_
  refine T_callR (S' := [.int (b2i (h 49 d = 1 ∧ ¬ (h 43 1) < (h 49 15) + (h 48 d)))]) (h' := h) (r_X9_canThrow (L := L) h d (by omega)) (by decide) rfl rfl rfl rfl rfl rfl rfl ?_
  refine T_iff (c := ¬ (b2i (h 49 d = 1 ∧ ¬ (h 43 1) < (h 49 15) + (h 48 d))) = 0) (t := 22) (f := 19) (L := [.ref 43, .int (nI d)]) (S := []) (G := S0 L) (h := h) rfl (bnz_f hq) ?_
  refine T_run 1 (st' := (21, [.ref 43, .int (nI d)], [.int (-1000000003)], S0 L, h)) rfl ?_
  exact T_retR rfl rfl rfl rfl
theorem r_X9_throwIt_ok {L : Nat} (h : AH) (d : Nat) (n : Nat) (hn : h 43 6 = nI n) (h7 : n ≤ 7) (u : Nat) (hu : h 43 26 = nI u) (hu20 : u ≤ 20) (hd : d < n) (hq : h 49 d = 1 ∧ ¬ (h 43 1) < (h 49 15) + (h 48 d)) : Rt L 2 154 [.ref 43, .int (nI d)] h (some (thrR 15 16 d (h 48 d) (h 49) 15)) (sc_ (st_ (sc_ h 56 (remP (h 56) (h 49) u)) 43 26 (nI (remU u))) 49 (thrR 15 16 d (h 48 d) (h 49))) := by
  refine T_run 2 (st' := (2, [.ref 43, .int (nI d)], [.int (nI d), .ref 43], S0 L, h)) rfl ?_
  refine T_callR (S' := [.int (b2i (inS (nI d) n))]) (h' := h) (r_X9_isDeed (L := L) h (nI d) n hn h7) (by decide) rfl rfl rfl rfl rfl rfl rfl ?_
  refine T_ift (c := ¬ (b2i (inS (nI d) n)) = 0) (t := 11) (f := 8) (L := [.ref 43, .int (nI d)]) (S := []) (G := S0 L) (h := h) rfl (bz_t (inS_nat hd (by omega))) ?_
  refine T_run 2 (st' := (13, [.ref 43, .int (nI d)], [.int (nI d), .ref 43], S0 L, h)) rfl ?_
  refine T_callR (S' := [.int (b2i (h 49 d = 1 ∧ ¬ (h 43 1) < (h 49 15) + (h 48 d)))]) (h' := h) (r_X9_canThrow (L := L) h d (by omega)) (by decide) rfl rfl rfl rfl rfl rfl rfl ?_
  refine T_ift (c := ¬ (b2i (h 49 d = 1 ∧ ¬ (h 43 1) < (h 49 15) + (h 48 d))) = 0) (t := 22) (f := 19) (L := [.ref 43, .int (nI d)]) (S := []) (G := S0 L) (h := h) rfl (bz_t hq) ?_
  refine T_run 1 (st' := (23, [.ref 43, .int (nI d)], [.ref 43], S0 L, h)) rfl ?_
  refine T_callR (S' := []) (h' := (st_ (sc_ h 56 (remP (h 56) (h 49) u)) 43 26 (nI (remU u)))) (r_X9_remember (L := L) h  u hu hu20) (by decide) rfl rfl rfl rfl rfl rfl rfl ?_
  refine T_run 2 (st' := (28, [.ref 43, .int (nI d)], [.int (nI d), .ref 43], S0 L, (st_ (sc_ h 56 (remP (h 56) (h 49) u)) 43 26 (nI (remU u))))) rfl ?_
  refine T_callR (S' := []) (h' := (sc_ (st_ (sc_ h 56 (remP (h 56) (h 49) u)) 43 26 (nI (remU u))) 49 (thrR 15 16 d (h 48 d) (h 49)))) (r_X9_throwNow (L := L) (st_ (sc_ h 56 (remP (h 56) (h 49) u)) 43 26 (nI (remU u))) d (by omega)) (by decide) rfl rfl rfl rfl rfl rfl rfl ?_
  refine T_run 3 (st' := (37, [.ref 43, .int (nI d)], [.int 15, .ref 49], S0 L, (sc_ (st_ (sc_ h 56 (remP (h 56) (h 49) u)) 43 26 (nI (remU u))) 49 (thrR 15 16 d (h 48 d) (h 49))))) rfl ?_
  refine T_ald (n := 15) rfl rfl rfl (by decide) (by decide) rfl ?_
  exact T_retR rfl rfl (by first | rfl | simp [b2i, *]) rfl
theorem r_X9_home_not {L : Nat} (h : AH)  (ht : h 43 0 = 0) : Rt L 4 156 [.ref 43] h (some (-1000000003)) h := by
  refine T_run 2 (st' := (4, [.ref 43], [.int (h 43 0)], S0 L, h)) rfl ?_
  refine T_iff (c := ¬ (h 43 0) = 0) (t := 10) (f := 7) (L := [.ref 43]) (S := []) (G := S0 L) (h := h) rfl (fun z => z ht) ?_
  refine T_run 1 (st' := (9, [.ref 43], [.int (-1000000003)], S0 L, h)) rfl ?_
  exact T_retR rfl rfl rfl rfl
theorem r_X9_home_full {L : Nat} (h : AH)  (ht : ¬ h 43 0 = 0) (hdy : ¬ h 49 14 ≤ 9000) : Rt L 4 156 [.ref 43] h (some (-1000000004)) h := by
  refine T_run 2 (st' := (4, [.ref 43], [.int (h 43 0)], S0 L, h)) rfl ?_
  refine T_ift (c := ¬ (h 43 0) = 0) (t := 10) (f := 7) (L := [.ref 43]) (S := []) (G := S0 L) (h := h) rfl ht ?_
  refine T_run 3 (st' := (16, [.ref 43], [.int 14, .ref 49], S0 L, h)) rfl ?_
  refine T_ald (n := 14) rfl rfl rfl (by decide) (by decide) rfl ?_
  refine T_run 1 (st' := (20, [.ref 43], [.int 9000, .int (h 49 14)], S0 L, h)) rfl ?_
  refine T_iff (c := (h 49 14) ≤ 9000) (t := 26) (f := 23) (L := [.ref 43]) (S := []) (G := S0 L) (h := h) rfl hdy ?_
  refine T_run 1 (st' := (25, [.ref 43], [.int (-1000000004)], S0 L, h)) rfl ?_
  exact T_retR rfl rfl rfl rfl
theorem r_X9_home_ok {L : Nat} (h : AH)  (n : Nat) (hn : h 43 6 = nI n) (h7 : n ≤ 7) (c0 : Nat) (hc : h 43 2 = nI c0) (h5 : c0 ≤ 5) (u : Nat) (hu : h 43 26 = nI u) (hu20 : u ≤ 20) (ht : ¬ h 43 0 = 0) (hdy : h 49 14 ≤ 9000) : Rt L 4 156 [.ref 43] h (some (setS (fun y_ => decide (¬ loadS (h 49) (fun z_ => (h 49) (7 + z_)) (h 48) (nI y_) n ≤ (h 44) y_)) c0)) (sc_ (st_ (sc_ h 56 (remP (h 56) (h 49) u)) 43 26 (nI (remU u))) 49 (goR 17 14 15 n c0 (setS (fun y_ => decide (¬ loadS (h 49) (fun z_ => (h 49) (7 + z_)) (h 48) (nI y_) n ≤ (h 44) y_)) c0) (h 49))) := by
  refine T_run 2 (st' := (4, [.ref 43], [.int (h 43 0)], S0 L, h)) rfl ?_
  refine T_ift (c := ¬ (h 43 0) = 0) (t := 10) (f := 7) (L := [.ref 43]) (S := []) (G := S0 L) (h := h) rfl ht ?_
  refine T_run 3 (st' := (16, [.ref 43], [.int 14, .ref 49], S0 L, h)) rfl ?_
  refine T_ald (n := 14) rfl rfl rfl (by decide) (by decide) rfl ?_
  refine T_run 1 (st' := (20, [.ref 43], [.int 9000, .int (h 49 14)], S0 L, h)) rfl ?_
  refine T_ift (c := (h 49 14) ≤ 9000) (t := 26) (f := 23) (L := [.ref 43]) (S := []) (G := S0 L) (h := h) rfl hdy ?_
  refine T_run 1 (st' := (27, [.ref 43], [.ref 43], S0 L, h)) rfl ?_
  refine T_callR (S' := []) (h' := (st_ (sc_ h 56 (remP (h 56) (h 49) u)) 43 26 (nI (remU u)))) (r_X9_remember (L := L) h  u hu hu20) (by decide) rfl rfl rfl rfl rfl rfl rfl ?_
  refine T_run 1 (st' := (31, [.ref 43], [.ref 43], S0 L, (st_ (sc_ h 56 (remP (h 56) (h 49) u)) 43 26 (nI (remU u))))) rfl ?_
  refine T_callR (S' := [.int (setS (fun y_ => decide (¬ loadS (h 49) (fun z_ => (h 49) (7 + z_)) (h 48) (nI y_) n ≤ (h 44) y_)) c0)]) (h' := (sc_ (st_ (sc_ h 56 (remP (h 56) (h 49) u)) 43 26 (nI (remU u))) 49 (goR 17 14 15 n c0 (setS (fun y_ => decide (¬ loadS (h 49) (fun z_ => (h 49) (7 + z_)) (h 48) (nI y_) n ≤ (h 44) y_)) c0) (h 49)))) (r_X9_goHome (L := L) (st_ (sc_ h 56 (remP (h 56) (h 49) u)) 43 26 (nI (remU u)))  n hn h7 c0 hc h5) (by decide) rfl rfl rfl rfl rfl rfl rfl ?_
  exact T_retR rfl rfl rfl rfl
theorem r_X9_takeBack_unk {L : Nat} (h : AH) (x : Int32) (n : Nat) (hn : h 43 6 = nI n) (h7 : n ≤ 7) (hx : ¬ inS x n) : Rt L 2 157 [.ref 43, .int x] h (some (-1000000001)) h := by
  refine T_run 2 (st' := (2, [.ref 43, .int x, un_], [.int x, .ref 43], S0 L, h)) rfl ?_
  refine T_callR (S' := [.int (b2i (inS x n))]) (h' := h) (r_X9_isDeed (L := L) h x n hn h7) (by decide) rfl rfl rfl rfl rfl rfl rfl ?_
  refine T_iff (c := ¬ (b2i (inS x n)) = 0) (t := 11) (f := 8) (L := [.ref 43, .int x, un_]) (S := []) (G := S0 L) (h := h) rfl (bnz_f hx) ?_
  refine T_run 1 (st' := (10, [.ref 43, .int x, un_], [.int (-1000000001)], S0 L, h)) rfl ?_
  exact T_retR rfl rfl rfl rfl
theorem r_X9_takeBack_not {L : Nat} (h : AH) (d : Nat) (n : Nat) (hn : h 43 6 = nI n) (h7 : n ≤ 7) (hd : d < n) (hq : ¬ h 49 d = 3) : Rt L 2 157 [.ref 43, .int (nI d)] h (some (-1000000003)) h := by
  refine T_run 2 (st' := (2, [.ref 43, .int (nI d), un_], [.int (nI d), .ref 43], S0 L, h)) rfl ?_
  refine T_callR (S' := [.int (b2i (inS (nI d) n))]) (h' := h) (r_X9_isDeed (L := L) h (nI d) n hn h7) (by decide) rfl rfl rfl rfl rfl rfl rfl ?_
  refine T_ift (c := ¬ (b2i (inS (nI d) n)) = 0) (t := 11) (f := 8) (L := [.ref 43, .int (nI d), un_]) (S := []) (G := S0 L) (h := h) rfl (bz_t (inS_nat hd (by omega))) ?_
  refine T_run 3 (st' := (16, [.ref 43, .int (nI d), un_], [.int (nI d), .ref 49], S0 L, h)) rfl ?_
  refine T_ald (n := d) rfl rfl rfl (by omega) (by decide) rfl ?_
  refine T_run 1 (st' := (18, [.ref 43, .int (nI d), un_], [.int 3, .int (h 49 d)], S0 L, h)) rfl ?_
  refine T_iff (c := (h 49 d) = 3) (t := 24) (f := 21) (L := [.ref 43, .int (nI d), un_]) (S := []) (G := S0 L) (h := h) rfl hq ?_
  refine T_run 1 (st' := (23, [.ref 43, .int (nI d), un_], [.int (-1000000003)], S0 L, h)) rfl ?_
  exact T_retR rfl rfl rfl rfl
theorem r_X9_takeBack_ok {L : Nat} (h : AH) (d : Nat) (n : Nat) (hn : h 43 6 = nI n) (h7 : n ≤ 7) (u : Nat) (hu : h 43 26 = nI u) (hu20 : u ≤ 20) (hd : d < n) (hq : h 49 d = 3) : Rt L 2 157 [.ref 43, .int (nI d)] h (some (h 49 (7 + d))) (sc_ (st_ (sc_ h 56 (remP (h 56) (h 49) u)) 43 26 (nI (remU u))) 49 (layR d 0 (-1) (h 49))) := by
  refine T_run 2 (st' := (2, [.ref 43, .int (nI d), un_], [.int (nI d), .ref 43], S0 L, h)) rfl ?_
  refine T_callR (S' := [.int (b2i (inS (nI d) n))]) (h' := h) (r_X9_isDeed (L := L) h (nI d) n hn h7) (by decide) rfl rfl rfl rfl rfl rfl rfl ?_
  refine T_ift (c := ¬ (b2i (inS (nI d) n)) = 0) (t := 11) (f := 8) (L := [.ref 43, .int (nI d), un_]) (S := []) (G := S0 L) (h := h) rfl (bz_t (inS_nat hd (by omega))) ?_
  refine T_run 3 (st' := (16, [.ref 43, .int (nI d), un_], [.int (nI d), .ref 49], S0 L, h)) rfl ?_
  refine T_ald (n := d) rfl rfl rfl (by omega) (by decide) rfl ?_
  refine T_run 1 (st' := (18, [.ref 43, .int (nI d), un_], [.int 3, .int (h 49 d)], S0 L, h)) rfl ?_
  refine T_ift (c := (h 49 d) = 3) (t := 24) (f := 21) (L := [.ref 43, .int (nI d), un_]) (S := []) (G := S0 L) (h := h) rfl hq ?_
  refine T_run 1 (st' := (25, [.ref 43, .int (nI d), un_], [.ref 43], S0 L, h)) rfl ?_
  refine T_callR (S' := []) (h' := (st_ (sc_ h 56 (remP (h 56) (h 49) u)) 43 26 (nI (remU u)))) (r_X9_remember (L := L) h  u hu hu20) (by decide) rfl rfl rfl rfl rfl rfl rfl ?_
  refine T_run 5 (st' := (36, [.ref 43, .int (nI d), un_], [.int (7 + (nI d)), .ref 49], S0 L, (st_ (sc_ h 56 (remP (h 56) (h 49) u)) 43 26 (nI (remU u))))) rfl ?_
  refine T_ald (n := 7 + d) rfl rfl (nI_addE rfl rfl) (by omega) (by decide) rfl ?_
  refine T_run 5 (st' := (42, [.ref 43, .int (nI d), .int (h 49 (7 + d))], [.int (-1), .int 0, .int (nI d), .ref 43], S0 L, (st_ (sc_ h 56 (remP (h 56) (h 49) u)) 43 26 (nI (remU u))))) rfl ?_
  refine T_callR (S' := []) (h' := (sc_ (st_ (sc_ h 56 (remP (h 56) (h 49) u)) 43 26 (nI (remU u))) 49 (layR d 0 (-1) (h 49)))) (r_X9_lay (L := L) (st_ (sc_ h 56 (remP (h 56) (h 49) u)) 43 26 (nI (remU u))) d 0 (-1) (by omega)) (by decide) rfl rfl rfl rfl rfl rfl rfl ?_
  refine T_run 1 (st' := (46, [.ref 43, .int (nI d), .int (h 49 (7 + d))], [.int (h 49 (7 + d))], S0 L, (sc_ (st_ (sc_ h 56 (remP (h 56) (h 49) u)) 43 26 (nI (remU u))) 49 (layR d 0 (-1) (h 49))))) rfl ?_
  exact T_retR rfl rfl rfl rfl
theorem r_X9_drift_out {L : Nat} (h : AH) (x : Int32) (hx : ¬ (1 ≤ x ∧ x ≤ 60)) : Rt L 5 160 [.ref 43, .int x] h (some (-1000000002)) h := by
  refine T_run 4 (st' := (6, [.ref 43, .int x, un_, un_], [.long 60, .long 1, .long (Int32.toInt64 x)], S0 L, h)) rfl ?_
  refine T_callR (S' := [.int (b2i (1 ≤ (Int32.toInt64 x) ∧ (Int32.toInt64 x) ≤ 60))]) (h' := h) (r_X9_in (L := L) h (Int32.toInt64 x) 1 60 ) (by decide) rfl rfl rfl rfl rfl rfl rfl ?_
  refine T_iff (c := ¬ (b2i (1 ≤ (Int32.toInt64 x) ∧ (Int32.toInt64 x) ≤ 60)) = 0) (t := 15) (f := 12) (L := [.ref 43, .int x, un_, un_]) (S := []) (G := S0 L) (h := h) rfl (bnz_f (fun z => hx (inQ.mpr z))) ?_
  refine T_run 1 (st' := (14, [.ref 43, .int x, un_, un_], [.int (-1000000002)], S0 L, h)) rfl ?_
  exact T_retR rfl rfl rfl rfl
theorem r_X9_drift_not {L : Nat} (h : AH) (x : Int32) (hx : 1 ≤ x ∧ x ≤ 60) (ht : h 43 0 = 0) : Rt L 5 160 [.ref 43, .int x] h (some (-1000000003)) h := by
  refine T_run 4 (st' := (6, [.ref 43, .int x, un_, un_], [.long 60, .long 1, .long (Int32.toInt64 x)], S0 L, h)) rfl ?_
  refine T_callR (S' := [.int (b2i (1 ≤ (Int32.toInt64 x) ∧ (Int32.toInt64 x) ≤ 60))]) (h' := h) (r_X9_in (L := L) h (Int32.toInt64 x) 1 60 ) (by decide) rfl rfl rfl rfl rfl rfl rfl ?_
  refine T_ift (c := ¬ (b2i (1 ≤ (Int32.toInt64 x) ∧ (Int32.toInt64 x) ≤ 60)) = 0) (t := 15) (f := 12) (L := [.ref 43, .int x, un_, un_]) (S := []) (G := S0 L) (h := h) rfl (bz_t (inQ.mp hx)) ?_
  refine T_run 2 (st' := (19, [.ref 43, .int x, un_, un_], [.int (h 43 0)], S0 L, h)) rfl ?_
  refine T_iff (c := ¬ (h 43 0) = 0) (t := 25) (f := 22) (L := [.ref 43, .int x, un_, un_]) (S := []) (G := S0 L) (h := h) rfl (fun z => z ht) ?_
  refine T_run 1 (st' := (24, [.ref 43, .int x, un_, un_], [.int (-1000000003)], S0 L, h)) rfl ?_
  exact T_retR rfl rfl rfl rfl
theorem r_X9_drift_full {L : Nat} (h : AH) (x : Int32) (hx : 1 ≤ x ∧ x ≤ 60) (ht : ¬ h 43 0 = 0) (hdy : ¬ h 49 14 ≤ 9000) : Rt L 5 160 [.ref 43, .int x] h (some (-1000000004)) h := by
  refine T_run 4 (st' := (6, [.ref 43, .int x, un_, un_], [.long 60, .long 1, .long (Int32.toInt64 x)], S0 L, h)) rfl ?_
  refine T_callR (S' := [.int (b2i (1 ≤ (Int32.toInt64 x) ∧ (Int32.toInt64 x) ≤ 60))]) (h' := h) (r_X9_in (L := L) h (Int32.toInt64 x) 1 60 ) (by decide) rfl rfl rfl rfl rfl rfl rfl ?_
  refine T_ift (c := ¬ (b2i (1 ≤ (Int32.toInt64 x) ∧ (Int32.toInt64 x) ≤ 60)) = 0) (t := 15) (f := 12) (L := [.ref 43, .int x, un_, un_]) (S := []) (G := S0 L) (h := h) rfl (bz_t (inQ.mp hx)) ?_
  refine T_run 2 (st' := (19, [.ref 43, .int x, un_, un_], [.int (h 43 0)], S0 L, h)) rfl ?_
  refine T_ift (c := ¬ (h 43 0) = 0) (t := 25) (f := 22) (L := [.ref 43, .int x, un_, un_]) (S := []) (G := S0 L) (h := h) rfl ht ?_
  refine T_run 3 (st' := (31, [.ref 43, .int x, un_, un_], [.int 14, .ref 49], S0 L, h)) rfl ?_
  refine T_ald (n := 14) rfl rfl rfl (by decide) (by decide) rfl ?_
  refine T_run 1 (st' := (35, [.ref 43, .int x, un_, un_], [.int 9000, .int (h 49 14)], S0 L, h)) rfl ?_
  refine T_iff (c := (h 49 14) ≤ 9000) (t := 41) (f := 38) (L := [.ref 43, .int x, un_, un_]) (S := []) (G := S0 L) (h := h) rfl hdy ?_
  refine T_run 1 (st' := (40, [.ref 43, .int x, un_, un_], [.int (-1000000004)], S0 L, h)) rfl ?_
  exact T_retR rfl rfl rfl rfl
theorem r_X9_drift_none {L : Nat} (h : AH) (m : Nat) (n : Nat) (hn : h 43 6 = nI n) (h7 : n ≤ 7) (u : Nat) (hu : h 43 26 = nI u) (hu20 : u ≤ 20) (hn0 : n = 0) (hm1 : 1 ≤ m) (hm60 : m ≤ 60) (ht : ¬ h 43 0 = 0) (hdy : h 49 14 ≤ 9000) : Rt L 5 160 [.ref 43, .int (nI m)] h (some (h 49 14)) (st_ (sc_ h 56 (remP (h 56) (h 49) u)) 43 26 (nI (remU u))) := by
  refine T_run 4 (st' := (6, [.ref 43, .int (nI m), un_, un_], [.long 60, .long 1, .long (Int32.toInt64 (nI m))], S0 L, h)) rfl ?_
  refine T_callR (S' := [.int (b2i (1 ≤ (Int32.toInt64 (nI m)) ∧ (Int32.toInt64 (nI m)) ≤ 60))]) (h' := h) (r_X9_in (L := L) h (Int32.toInt64 (nI m)) 1 60 ) (by decide) rfl rfl rfl rfl rfl rfl rfl ?_
  refine T_ift (c := ¬ (b2i (1 ≤ (Int32.toInt64 (nI m)) ∧ (Int32.toInt64 (nI m)) ≤ 60)) = 0) (t := 15) (f := 12) (L := [.ref 43, .int (nI m), un_, un_]) (S := []) (G := S0 L) (h := h) rfl (bz_t ((inN_iff (a := 1) (b := 60) (by omega) (by decide) (by decide)).mpr ⟨hm1, hm60⟩)) ?_
  refine T_run 2 (st' := (19, [.ref 43, .int (nI m), un_, un_], [.int (h 43 0)], S0 L, h)) rfl ?_
  refine T_ift (c := ¬ (h 43 0) = 0) (t := 25) (f := 22) (L := [.ref 43, .int (nI m), un_, un_]) (S := []) (G := S0 L) (h := h) rfl ht ?_
  refine T_run 3 (st' := (31, [.ref 43, .int (nI m), un_, un_], [.int 14, .ref 49], S0 L, h)) rfl ?_
  refine T_ald (n := 14) rfl rfl rfl (by decide) (by decide) rfl ?_
  refine T_run 1 (st' := (35, [.ref 43, .int (nI m), un_, un_], [.int 9000, .int (h 49 14)], S0 L, h)) rfl ?_
  refine T_ift (c := (h 49 14) ≤ 9000) (t := 41) (f := 38) (L := [.ref 43, .int (nI m), un_, un_]) (S := []) (G := S0 L) (h := h) rfl hdy ?_
  refine T_run 1 (st' := (42, [.ref 43, .int (nI m), un_, un_], [.ref 43], S0 L, h)) rfl ?_
  refine T_callR (S' := []) (h' := (st_ (sc_ h 56 (remP (h 56) (h 49) u)) 43 26 (nI (remU u)))) (r_X9_remember (L := L) h  u hu hu20) (by decide) rfl rfl rfl rfl rfl rfl rfl ?_
  refine T_run 6 (st' := (51, [.ref 43, .int (nI m), .int 0, .int 0], [.int (nI m), .int 0], S0 L, (st_ (sc_ h 56 (remP (h 56) (h 49) u)) 43 26 (nI (remU u))))) rfl ?_
  refine T_iffP (c := (nI m) ≤ 0) (P := m ≤ 0) (t := 74) (f := 54) (L := [.ref 43, .int (nI m), .int 0, .int 0]) (S := []) (G := S0 L) (h := (st_ (sc_ h 56 (remP (h 56) (h 49) u)) 43 26 (nI (remU u)))) rfl (nI_leE rfl rfl (by omega) (by omega)) (by omega) ?_
  refine T_run 2 (st' := (58, [.ref 43, .int (nI m), .int 0, .int 0], [.int (h 43 6)], S0 L, (st_ (sc_ h 56 (remP (h 56) (h 49) u)) 43 26 (nI (remU u))))) rfl ?_
  refine T_iftP (c := (h 43 6) ≤ 0) (P := n ≤ 0) (t := 74) (f := 61) (L := [.ref 43, .int (nI m), .int 0, .int 0]) (S := []) (G := S0 L) (h := (st_ (sc_ h 56 (remP (h 56) (h 49) u)) 43 26 (nI (remU u)))) rfl (nI_leE hn rfl (by omega) (by omega)) (by omega) ?_
  refine T_run 3 (st' := (80, [.ref 43, .int (nI m), .int 0, .int 0], [.int 14, .ref 49], S0 L, (st_ (sc_ h 56 (remP (h 56) (h 49) u)) 43 26 (nI (remU u))))) rfl ?_
  refine T_ald (n := 14) rfl rfl rfl (by decide) (by decide) rfl ?_
  exact T_retR rfl rfl rfl rfl
theorem r_X9_undo_not {L : Nat} (h : AH)  (hu : h 43 26 = 0) : Rt L 0 161 [.ref 43] h (some (-1000000003)) h := by
  refine T_run 2 (st' := (4, [.ref 43, un_], [.int (h 43 26)], S0 L, h)) rfl ?_
  refine T_iff (c := ¬ (h 43 26) = 0) (t := 10) (f := 7) (L := [.ref 43, un_]) (S := []) (G := S0 L) (h := h) rfl (fun z => z hu) ?_
  refine T_run 1 (st' := (9, [.ref 43, un_], [.int (-1000000003)], S0 L, h)) rfl ?_
  exact T_retR rfl rfl rfl rfl
theorem r_X9_undo_ok {L : Nat} (h : AH)  (w : Nat) (hu : h 43 26 = nI (w + 1)) (hw : w < 20) : Rt L 0 161 [.ref 43] h (some (nI w)) (sc_ (st_ h 43 26 (nI w)) 49 (fun q => if q < 22 then h 56 (22 * w + q) else h 49 q)) := by
  refine T_run 2 (st' := (4, [.ref 43, un_], [.int (h 43 26)], S0 L, h)) rfl ?_
  refine T_ift (c := ¬ (h 43 26) = 0) (t := 10) (f := 7) (L := [.ref 43, un_]) (S := []) (G := S0 L) (h := h) rfl (by rw [hu]; exact nI_nz (by omega) (by omega)) ?_
  refine T_run 8 (st' := (22, [.ref 43, .int 0], [], S0 L, (st_ h 43 26 ((h 43 26) - 1)))) rfl ?_
  refine T_h (h' := (sc_ (st_ h 43 26 ((h 43 26) - 1)) 49 (fun q => if q < 0 then h 56 (22 * w + q) else h 49 q))) (by funext a b; simp only [st_, sc_]; grind) ?_
  refine T_loop (fun k => (22, [.ref 43, .int (nI k)], [], S0 L, (sc_ (st_ h 43 26 ((h 43 26) - 1)) 49 (fun q => if q < k then h 56 (22 * w + q) else h 49 q)))) 22 ?_ ?_
  · intro k hk ih
    refine T_run 2 (st' := (25, [.ref 43, .int (nI k)], [.int 22, .int (nI k)], S0 L, (sc_ (st_ h 43 26 ((h 43 26) - 1)) 49 (fun q => if q < k then h 56 (22 * w + q) else h 49 q)))) rfl ?_
    refine T_iffP (c := 22 ≤ (nI k)) (P := 22 ≤ k) (t := 54) (f := 28) (L := [.ref 43, .int (nI k)]) (S := []) (G := S0 L) (h := (sc_ (st_ h 43 26 ((h 43 26) - 1)) 49 (fun q => if q < k then h 56 (22 * w + q) else h 49 q))) rfl (nI_leE rfl rfl (by omega) (by omega)) (by omega) ?_
    refine T_run 11 (st' := (46, [.ref 43, .int (nI k)], [.int ((22 * ((h 43 26) - 1)) + (nI k)), .ref 56, .int (nI k), .ref 49], S0 L, (sc_ (st_ h 43 26 ((h 43 26) - 1)) 49 (fun q => if q < k then h 56 (22 * w + q) else h 49 q)))) rfl ?_
    refine T_ald (n := (22 * w) + k) rfl rfl (nI_addE (nI_mulE rfl (by rw [hu]; exact nI_pred w)) rfl) (by omega) (by decide) rfl ?_
    refine T_ast (n := k) rfl rfl rfl (by omega) (by decide) rfl ?_
    refine T_run 2 (st' := (22, [.ref 43, .int (nI k + 1)], [], S0 L, (st_ (sc_ (st_ h 43 26 ((h 43 26) - 1)) 49 (fun q => if q < k then h 56 (22 * w + q) else h 49 q)) 49 k (h 56 ((22 * w) + k))))) rfl ?_
    refine T_h (h' := (sc_ (st_ h 43 26 ((h 43 26) - 1)) 49 (fun q => if q < (k + 1) then h 56 (22 * w + q) else h 49 q))) (by funext a b; simp only [st_, sc_]; grind) ?_
    exact T_st (by simp [nI_1, *]) ih
  · skip
    refine T_run 2 (st' := (25, [.ref 43, .int (nI 22)], [.int 22, .int (nI 22)], S0 L, (sc_ (st_ h 43 26 ((h 43 26) - 1)) 49 (fun q => if q < 22 then h 56 (22 * w + q) else h 49 q)))) rfl ?_
    refine T_iftP (c := 22 ≤ (nI 22)) (P := 22 ≤ 22) (t := 54) (f := 28) (L := [.ref 43, .int (nI 22)]) (S := []) (G := S0 L) (h := (sc_ (st_ h 43 26 ((h 43 26) - 1)) 49 (fun q => if q < 22 then h 56 (22 * w + q) else h 49 q))) rfl (nI_leE rfl rfl (by omega) (by omega)) (by omega) ?_
    refine T_run 2 (st' := (58, [.ref 43, .int (nI 22)], [.int ((h 43 26) - 1)], S0 L, (sc_ (st_ h 43 26 ((h 43 26) - 1)) 49 (fun q => if q < 22 then h 56 (22 * w + q) else h 49 q)))) rfl ?_
    exact T_retR rfl rfl (by rw [hu, nI_pred]) (by rw [hu, nI_pred])
theorem r_X9_seed_out {L : Nat} (h : AH) (v : Int32) (hv : v < 0) : Rt L 0 183 [.ref 43, .int v] h (some (-1000000002)) h := by
  refine T_run 1 (st' := (1, [.ref 43, .int v, un_], [.int v], S0 L, h)) rfl ?_
  refine T_iff (c := 0 ≤ v) (t := 7) (f := 4) (L := [.ref 43, .int v, un_]) (S := []) (G := S0 L) (h := h) rfl (Int32.not_le.mpr hv) ?_
  refine T_run 1 (st' := (6, [.ref 43, .int v, un_], [.int (-1000000002)], S0 L, h)) rfl ?_
  exact T_retR rfl rfl rfl rfl
theorem r_X9_seed_ok {L : Nat} (h : AH) (v : Int32) (hv : ¬ v < 0) : Rt L 0 183 [.ref 43, .int v] h (some (h 43 10)) (st_ h 43 10 v) := by
  refine T_run 1 (st' := (1, [.ref 43, .int v, un_], [.int v], S0 L, h)) rfl ?_
  refine T_ift (c := 0 ≤ v) (t := 7) (f := 4) (L := [.ref 43, .int v, un_]) (S := []) (G := S0 L) (h := h) rfl (Int32.not_lt.mp hv) ?_
  refine T_run 7 (st' := (18, [.ref 43, .int v, .int (h 43 10)], [.int (h 43 10)], S0 L, (st_ h 43 10 v))) rfl ?_
  exact T_retR rfl rfl rfl rfl
theorem r_X9_feed_out {L : Nat} (h : AH) (x : Int32) (hx : ¬ (0 ≤ x ∧ x ≤ 255)) : Rt L 1 122 [.ref 43, .int x] h (some (-1000000002)) h := by
  refine T_run 4 (st' := (6, [.ref 43, .int x], [.long 255, .long 0, .long (Int32.toInt64 x)], S0 L, h)) rfl ?_
  refine T_callR (S' := [.int (b2i (0 ≤ (Int32.toInt64 x) ∧ (Int32.toInt64 x) ≤ 255))]) (h' := h) (r_X9_in (L := L) h (Int32.toInt64 x) 0 255 ) (by decide) rfl rfl rfl rfl rfl rfl rfl ?_
  refine T_iff (c := ¬ (b2i (0 ≤ (Int32.toInt64 x) ∧ (Int32.toInt64 x) ≤ 255)) = 0) (t := 15) (f := 12) (L := [.ref 43, .int x]) (S := []) (G := S0 L) (h := h) rfl (bnz_f (fun z => hx (inQ.mpr z))) ?_
  refine T_run 1 (st' := (14, [.ref 43, .int x], [.int (-1000000002)], S0 L, h)) rfl ?_
  exact T_retR rfl rfl rfl rfl
theorem r_X9_feed_full {L : Nat} (h : AH) (x : Int32) (hx : 0 ≤ x ∧ x ≤ 255) (ht : h 43 12 = nI 240) : Rt L 1 122 [.ref 43, .int x] h (some (-1000000004)) h := by
  refine T_run 4 (st' := (6, [.ref 43, .int x], [.long 255, .long 0, .long (Int32.toInt64 x)], S0 L, h)) rfl ?_
  refine T_callR (S' := [.int (b2i (0 ≤ (Int32.toInt64 x) ∧ (Int32.toInt64 x) ≤ 255))]) (h' := h) (r_X9_in (L := L) h (Int32.toInt64 x) 0 255 ) (by decide) rfl rfl rfl rfl rfl rfl rfl ?_
  refine T_ift (c := ¬ (b2i (0 ≤ (Int32.toInt64 x) ∧ (Int32.toInt64 x) ≤ 255)) = 0) (t := 15) (f := 12) (L := [.ref 43, .int x]) (S := []) (G := S0 L) (h := h) rfl (bz_t (inQ.mp hx)) ?_
  refine T_run 3 (st' := (22, [.ref 43, .int x], [.int 240, .int (h 43 12)], S0 L, h)) rfl ?_
  refine T_iffP (c := ¬ (h 43 12) = 240) (P := ¬ 240 = 240) (t := 28) (f := 25) (L := [.ref 43, .int x]) (S := []) (G := S0 L) (h := h) rfl (not_congr (nI_eqE ht rfl (by omega) (by omega))) (by omega) ?_
  refine T_run 1 (st' := (27, [.ref 43, .int x], [.int (-1000000004)], S0 L, h)) rfl ?_
  exact T_retR rfl rfl rfl rfl
theorem r_X9_feed_ok {L : Nat} (h : AH) (x : Int32) (t : Nat) (hx : 0 ≤ x ∧ x ≤ 255) (ht : h 43 12 = nI t) (ht2 : t < 240) : Rt L 1 122 [.ref 43, .int x] h (some (nI (t + 1))) (st_ (st_ h 50 t x) 43 12 (nI (t + 1))) := by
  refine T_run 4 (st' := (6, [.ref 43, .int x], [.long 255, .long 0, .long (Int32.toInt64 x)], S0 L, h)) rfl ?_
  refine T_callR (S' := [.int (b2i (0 ≤ (Int32.toInt64 x) ∧ (Int32.toInt64 x) ≤ 255))]) (h' := h) (r_X9_in (L := L) h (Int32.toInt64 x) 0 255 ) (by decide) rfl rfl rfl rfl rfl rfl rfl ?_
  refine T_ift (c := ¬ (b2i (0 ≤ (Int32.toInt64 x) ∧ (Int32.toInt64 x) ≤ 255)) = 0) (t := 15) (f := 12) (L := [.ref 43, .int x]) (S := []) (G := S0 L) (h := h) rfl (bz_t (inQ.mp hx)) ?_
  refine T_run 3 (st' := (22, [.ref 43, .int x], [.int 240, .int (h 43 12)], S0 L, h)) rfl ?_
  refine T_iftP (c := ¬ (h 43 12) = 240) (P := ¬ t = 240) (t := 28) (f := 25) (L := [.ref 43, .int x]) (S := []) (G := S0 L) (h := h) rfl (not_congr (nI_eqE ht rfl (by omega) (by omega))) (by omega) ?_
  refine T_run 5 (st' := (37, [.ref 43, .int x], [.int x, .int (h 43 12), .ref 50], S0 L, h)) rfl ?_
  refine T_ast (n := t) rfl rfl ht (by omega) (by decide) rfl ?_
  refine T_run 8 (st' := (52, [.ref 43, .int x], [.int ((h 43 12) + 1)], S0 L, (st_ (st_ h 50 t x) 43 12 ((h 43 12) + 1)))) rfl ?_
  exact T_retR rfl rfl (by rw [ht, nI_1]) (by rw [ht, nI_1])
theorem r_X9_tear_ok {L : Nat} (h : AH)   : Rt L 0 181 [.ref 43] h (some ((h 43 32) + (h 43 36))) (st_ (st_ h 43 32 0) 43 36 0) := by
  refine T_run 13 (st' := (21, [.ref 43, .int ((h 43 32) + (h 43 36))], [.int ((h 43 32) + (h 43 36))], S0 L, (st_ (st_ h 43 32 0) 43 36 0))) rfl ?_
  exact T_retR rfl rfl rfl rfl
theorem r_X9_write_unk {L : Nat} (h : AH) (x : Int32) (y : Int32) (c0 : Nat) (hc : h 43 2 = nI c0) (h5 : c0 ≤ 5) (hx : ¬ inS x c0) : Rt L 2 180 [.ref 43, .int x, .int y] h (some (-1000000001)) h := by
  refine T_run 2 (st' := (2, [.ref 43, .int x, .int y], [.int x, .ref 43], S0 L, h)) rfl ?_
  refine T_callR (S' := [.int (b2i (inS x c0))]) (h' := h) (r_X9_isChild (L := L) h x c0 hc h5) (by decide) rfl rfl rfl rfl rfl rfl rfl ?_
  refine T_iff (c := ¬ (b2i (inS x c0)) = 0) (t := 11) (f := 8) (L := [.ref 43, .int x, .int y]) (S := []) (G := S0 L) (h := h) rfl (bnz_f hx) ?_
  refine T_run 1 (st' := (10, [.ref 43, .int x, .int y], [.int (-1000000001)], S0 L, h)) rfl ?_
  exact T_retR rfl rfl rfl rfl
theorem r_X9_write_out {L : Nat} (h : AH) (x : Int32) (y : Int32) (c0 : Nat) (hc : h 43 2 = nI c0) (h5 : c0 ≤ 5) (hx : inS x c0) (hy : ¬ (0 ≤ y ∧ y ≤ 999)) : Rt L 2 180 [.ref 43, .int x, .int y] h (some (-1000000002)) h := by
  refine T_run 2 (st' := (2, [.ref 43, .int x, .int y], [.int x, .ref 43], S0 L, h)) rfl ?_
  refine T_callR (S' := [.int (b2i (inS x c0))]) (h' := h) (r_X9_isChild (L := L) h x c0 hc h5) (by decide) rfl rfl rfl rfl rfl rfl rfl ?_
  refine T_ift (c := ¬ (b2i (inS x c0)) = 0) (t := 11) (f := 8) (L := [.ref 43, .int x, .int y]) (S := []) (G := S0 L) (h := h) rfl (bz_t hx) ?_
  refine T_run 4 (st' := (17, [.ref 43, .int x, .int y], [.long 999, .long 0, .long (Int32.toInt64 y)], S0 L, h)) rfl ?_
  refine T_callR (S' := [.int (b2i (0 ≤ (Int32.toInt64 y) ∧ (Int32.toInt64 y) ≤ 999))]) (h' := h) (r_X9_in (L := L) h (Int32.toInt64 y) 0 999 ) (by decide) rfl rfl rfl rfl rfl rfl rfl ?_
  refine T_iff (c := ¬ (b2i (0 ≤ (Int32.toInt64 y) ∧ (Int32.toInt64 y) ≤ 999)) = 0) (t := 26) (f := 23) (L := [.ref 43, .int x, .int y]) (S := []) (G := S0 L) (h := h) rfl (bnz_f (fun z => hy (inQ.mpr z))) ?_
  refine T_run 1 (st' := (25, [.ref 43, .int x, .int y], [.int (-1000000002)], S0 L, h)) rfl ?_
  exact T_retR rfl rfl rfl rfl
theorem r_X9_write_full {L : Nat} (h : AH) (x : Int32) (y : Int32) (c0 : Nat) (hc : h 43 2 = nI c0) (h5 : c0 ≤ 5) (hx : inS x c0) (hy : 0 ≤ y ∧ y ≤ 999) (hb : h 43 36 = nI 15) : Rt L 2 180 [.ref 43, .int x, .int y] h (some (-1000000004)) h := by
  refine T_run 2 (st' := (2, [.ref 43, .int x, .int y], [.int x, .ref 43], S0 L, h)) rfl ?_
  refine T_callR (S' := [.int (b2i (inS x c0))]) (h' := h) (r_X9_isChild (L := L) h x c0 hc h5) (by decide) rfl rfl rfl rfl rfl rfl rfl ?_
  refine T_ift (c := ¬ (b2i (inS x c0)) = 0) (t := 11) (f := 8) (L := [.ref 43, .int x, .int y]) (S := []) (G := S0 L) (h := h) rfl (bz_t hx) ?_
  refine T_run 4 (st' := (17, [.ref 43, .int x, .int y], [.long 999, .long 0, .long (Int32.toInt64 y)], S0 L, h)) rfl ?_
  refine T_callR (S' := [.int (b2i (0 ≤ (Int32.toInt64 y) ∧ (Int32.toInt64 y) ≤ 999))]) (h' := h) (r_X9_in (L := L) h (Int32.toInt64 y) 0 999 ) (by decide) rfl rfl rfl rfl rfl rfl rfl ?_
  refine T_ift (c := ¬ (b2i (0 ≤ (Int32.toInt64 y) ∧ (Int32.toInt64 y) ≤ 999)) = 0) (t := 26) (f := 23) (L := [.ref 43, .int x, .int y]) (S := []) (G := S0 L) (h := h) rfl (bz_t (inQ.mp hy)) ?_
  refine T_run 3 (st' := (32, [.ref 43, .int x, .int y], [.int 15, .int (h 43 36)], S0 L, h)) rfl ?_
  refine T_iffP (c := ¬ (h 43 36) = 15) (P := ¬ 15 = 15) (t := 38) (f := 35) (L := [.ref 43, .int x, .int y]) (S := []) (G := S0 L) (h := h) rfl (not_congr (nI_eqE hb rfl (by omega) (by omega))) (by omega) ?_
  refine T_run 1 (st' := (37, [.ref 43, .int x, .int y], [.int (-1000000004)], S0 L, h)) rfl ?_
  exact T_retR rfl rfl rfl rfl
theorem r_X9_write_ok {L : Nat} (h : AH) (x : Int32) (y : Int32) (c0 : Nat) (hc : h 43 2 = nI c0) (h5 : c0 ≤ 5) (t : Nat) (hx : inS x c0) (hy : 0 ≤ y ∧ y ≤ 999) (hb : h 43 36 = nI t) (ht2 : t < 15) : Rt L 2 180 [.ref 43, .int x, .int y] h (some (nI (t + 1))) (st_ (st_ (st_ h 64 t x) 65 t y) 43 36 (nI (t + 1))) := by
  refine T_run 2 (st' := (2, [.ref 43, .int x, .int y], [.int x, .ref 43], S0 L, h)) rfl ?_
  refine T_callR (S' := [.int (b2i (inS x c0))]) (h' := h) (r_X9_isChild (L := L) h x c0 hc h5) (by decide) rfl rfl rfl rfl rfl rfl rfl ?_
  refine T_ift (c := ¬ (b2i (inS x c0)) = 0) (t := 11) (f := 8) (L := [.ref 43, .int x, .int y]) (S := []) (G := S0 L) (h := h) rfl (bz_t hx) ?_
  refine T_run 4 (st' := (17, [.ref 43, .int x, .int y], [.long 999, .long 0, .long (Int32.toInt64 y)], S0 L, h)) rfl ?_
  refine T_callR (S' := [.int (b2i (0 ≤ (Int32.toInt64 y) ∧ (Int32.toInt64 y) ≤ 999))]) (h' := h) (r_X9_in (L := L) h (Int32.toInt64 y) 0 999 ) (by decide) rfl rfl rfl rfl rfl rfl rfl ?_
  refine T_ift (c := ¬ (b2i (0 ≤ (Int32.toInt64 y) ∧ (Int32.toInt64 y) ≤ 999)) = 0) (t := 26) (f := 23) (L := [.ref 43, .int x, .int y]) (S := []) (G := S0 L) (h := h) rfl (bz_t (inQ.mp hy)) ?_
  refine T_run 3 (st' := (32, [.ref 43, .int x, .int y], [.int 15, .int (h 43 36)], S0 L, h)) rfl ?_
  refine T_iftP (c := ¬ (h 43 36) = 15) (P := ¬ t = 15) (t := 38) (f := 35) (L := [.ref 43, .int x, .int y]) (S := []) (G := S0 L) (h := h) rfl (not_congr (nI_eqE hb rfl (by omega) (by omega))) (by omega) ?_
  refine T_run 5 (st' := (47, [.ref 43, .int x, .int y], [.int x, .int (h 43 36), .ref 64], S0 L, h)) rfl ?_
  refine T_ast (n := t) rfl rfl hb (by omega) (by decide) rfl ?_
  refine T_run 5 (st' := (57, [.ref 43, .int x, .int y], [.int y, .int (h 43 36), .ref 65], S0 L, (st_ h 64 t x))) rfl ?_
  refine T_ast (n := t) rfl rfl hb (by omega) (by decide) rfl ?_
  refine T_run 8 (st' := (72, [.ref 43, .int x, .int y], [.int ((h 43 36) + 1)], S0 L, (st_ (st_ (st_ h 64 t x) 65 t y) 43 36 ((h 43 36) + 1)))) rfl ?_
  exact T_retR rfl rfl (by rw [hb, nI_1]) (by rw [hb, nI_1])
theorem r_X9_see_unk1 {L : Nat} (h : AH) (x : Int32) (y : Int32) (P : Prop) [Decidable P] (c0 : Nat) (hc : h 43 2 = nI c0) (h5 : c0 ≤ 5) (hx : ¬ inS x c0) : Rt L 2 177 [.ref 43, .int x, .int y, .int (b2i P)] h (some (-1000000001)) h := by
  refine T_run 2 (st' := (2, [.ref 43, .int x, .int y, .int (b2i P)], [.int x, .ref 43], S0 L, h)) rfl ?_
  refine T_callR (S' := [.int (b2i (inS x c0))]) (h' := h) (r_X9_isChild (L := L) h x c0 hc h5) (by decide) rfl rfl rfl rfl rfl rfl rfl ?_
  refine T_ift (c := (b2i (inS x c0)) = 0) (t := 16) (f := 8) (L := [.ref 43, .int x, .int y, .int (b2i P)]) (S := []) (G := S0 L) (h := h) rfl (bz_f hx) ?_
  refine T_run 1 (st' := (18, [.ref 43, .int x, .int y, .int (b2i P)], [.int (-1000000001)], S0 L, h)) rfl ?_
  exact T_retR rfl rfl rfl rfl
theorem r_X9_see_unk2 {L : Nat} (h : AH) (x : Int32) (y : Int32) (P : Prop) [Decidable P] (c0 : Nat) (hc : h 43 2 = nI c0) (h5 : c0 ≤ 5) (hx : inS x c0) (hy : ¬ inS y c0) : Rt L 2 177 [.ref 43, .int x, .int y, .int (b2i P)] h (some (-1000000001)) h := by
  refine T_run 2 (st' := (2, [.ref 43, .int x, .int y, .int (b2i P)], [.int x, .ref 43], S0 L, h)) rfl ?_
  refine T_callR (S' := [.int (b2i (inS x c0))]) (h' := h) (r_X9_isChild (L := L) h x c0 hc h5) (by decide) rfl rfl rfl rfl rfl rfl rfl ?_
  refine T_iff (c := (b2i (inS x c0)) = 0) (t := 16) (f := 8) (L := [.ref 43, .int x, .int y, .int (b2i P)]) (S := []) (G := S0 L) (h := h) rfl (bz_t hx) ?_
  refine T_run 2 (st' := (10, [.ref 43, .int x, .int y, .int (b2i P)], [.int y, .ref 43], S0 L, h)) rfl ?_
  refine T_callR (S' := [.int (b2i (inS y c0))]) (h' := h) (r_X9_isChild (L := L) h y c0 hc h5) (by decide) rfl rfl rfl rfl rfl rfl rfl ?_
  refine T_iff (c := ¬ (b2i (inS y c0)) = 0) (t := 19) (f := 16) (L := [.ref 43, .int x, .int y, .int (b2i P)]) (S := []) (G := S0 L) (h := h) rfl (bnz_f hy) ?_
  refine T_run 1 (st' := (18, [.ref 43, .int x, .int y, .int (b2i P)], [.int (-1000000001)], S0 L, h)) rfl ?_
  exact T_retR rfl rfl rfl rfl
theorem r_X9_see_full {L : Nat} (h : AH) (x : Int32) (y : Int32) (P : Prop) [Decidable P] (c0 : Nat) (hc : h 43 2 = nI c0) (h5 : c0 ≤ 5) (hx : inS x c0) (hy : inS y c0) (hb : h 43 32 = nI 6) : Rt L 2 177 [.ref 43, .int x, .int y, .int (b2i P)] h (some (-1000000004)) h := by
  refine T_run 2 (st' := (2, [.ref 43, .int x, .int y, .int (b2i P)], [.int x, .ref 43], S0 L, h)) rfl ?_
  refine T_callR (S' := [.int (b2i (inS x c0))]) (h' := h) (r_X9_isChild (L := L) h x c0 hc h5) (by decide) rfl rfl rfl rfl rfl rfl rfl ?_
  refine T_iff (c := (b2i (inS x c0)) = 0) (t := 16) (f := 8) (L := [.ref 43, .int x, .int y, .int (b2i P)]) (S := []) (G := S0 L) (h := h) rfl (bz_t hx) ?_
  refine T_run 2 (st' := (10, [.ref 43, .int x, .int y, .int (b2i P)], [.int y, .ref 43], S0 L, h)) rfl ?_
  refine T_callR (S' := [.int (b2i (inS y c0))]) (h' := h) (r_X9_isChild (L := L) h y c0 hc h5) (by decide) rfl rfl rfl rfl rfl rfl rfl ?_
  refine T_ift (c := ¬ (b2i (inS y c0)) = 0) (t := 19) (f := 16) (L := [.ref 43, .int x, .int y, .int (b2i P)]) (S := []) (G := S0 L) (h := h) rfl (bz_t hy) ?_
  refine T_run 3 (st' := (25, [.ref 43, .int x, .int y, .int (b2i P)], [.int 6, .int (h 43 32)], S0 L, h)) rfl ?_
  refine T_iffP (c := ¬ (h 43 32) = 6) (P := ¬ 6 = 6) (t := 31) (f := 28) (L := [.ref 43, .int x, .int y, .int (b2i P)]) (S := []) (G := S0 L) (h := h) rfl (not_congr (nI_eqE hb rfl (by omega) (by omega))) (by omega) ?_
  refine T_run 1 (st' := (30, [.ref 43, .int x, .int y, .int (b2i P)], [.int (-1000000004)], S0 L, h)) rfl ?_
  exact T_retR rfl rfl rfl rfl
theorem r_X9_see_ok {L : Nat} (h : AH) (x : Int32) (y : Int32) (P : Prop) [Decidable P] (c0 : Nat) (hc : h 43 2 = nI c0) (h5 : c0 ≤ 5) (t : Nat) (hx : inS x c0) (hy : inS y c0) (hb : h 43 32 = nI t) (ht2 : t < 6) : Rt L 2 177 [.ref 43, .int x, .int y, .int (b2i P)] h (some (nI (t + 1))) (st_ (st_ (st_ (st_ h 61 t x) 62 t y) 63 t (b2i P)) 43 32 (nI (t + 1))) := by
  refine T_run 2 (st' := (2, [.ref 43, .int x, .int y, .int (b2i P)], [.int x, .ref 43], S0 L, h)) rfl ?_
  refine T_callR (S' := [.int (b2i (inS x c0))]) (h' := h) (r_X9_isChild (L := L) h x c0 hc h5) (by decide) rfl rfl rfl rfl rfl rfl rfl ?_
  refine T_iff (c := (b2i (inS x c0)) = 0) (t := 16) (f := 8) (L := [.ref 43, .int x, .int y, .int (b2i P)]) (S := []) (G := S0 L) (h := h) rfl (bz_t hx) ?_
  refine T_run 2 (st' := (10, [.ref 43, .int x, .int y, .int (b2i P)], [.int y, .ref 43], S0 L, h)) rfl ?_
  refine T_callR (S' := [.int (b2i (inS y c0))]) (h' := h) (r_X9_isChild (L := L) h y c0 hc h5) (by decide) rfl rfl rfl rfl rfl rfl rfl ?_
  refine T_ift (c := ¬ (b2i (inS y c0)) = 0) (t := 19) (f := 16) (L := [.ref 43, .int x, .int y, .int (b2i P)]) (S := []) (G := S0 L) (h := h) rfl (bz_t hy) ?_
  refine T_run 3 (st' := (25, [.ref 43, .int x, .int y, .int (b2i P)], [.int 6, .int (h 43 32)], S0 L, h)) rfl ?_
  refine T_iftP (c := ¬ (h 43 32) = 6) (P := ¬ t = 6) (t := 31) (f := 28) (L := [.ref 43, .int x, .int y, .int (b2i P)]) (S := []) (G := S0 L) (h := h) rfl (not_congr (nI_eqE hb rfl (by omega) (by omega))) (by omega) ?_
  refine T_run 5 (st' := (40, [.ref 43, .int x, .int y, .int (b2i P)], [.int x, .int (h 43 32), .ref 61], S0 L, h)) rfl ?_
  refine T_ast (n := t) rfl rfl hb (by omega) (by decide) rfl ?_
  refine T_run 5 (st' := (50, [.ref 43, .int x, .int y, .int (b2i P)], [.int y, .int (h 43 32), .ref 62], S0 L, (st_ h 61 t x))) rfl ?_
  refine T_ast (n := t) rfl rfl hb (by omega) (by decide) rfl ?_
  refine T_run 5 (st' := (60, [.ref 43, .int x, .int y, .int (b2i P)], [.int (b2i P), .int (h 43 32), .ref 63], S0 L, (st_ (st_ h 61 t x) 62 t y))) rfl ?_
  refine T_bast (n := t) rfl rfl hb (by omega) (by decide) (by unfold b2i; split <;> simp) rfl ?_
  refine T_run 8 (st' := (75, [.ref 43, .int x, .int y, .int (b2i P)], [.int ((h 43 32) + 1)], S0 L, (st_ (st_ (st_ (st_ h 61 t x) 62 t y) 63 t (b2i P)) 43 32 ((h 43 32) + 1)))) rfl ?_
  exact T_retR rfl rfl (by rw [hb, nI_1]) (by rw [hb, nI_1])

def S0 : List SC := [(4, 256, []), (0, 9, [none, none, none, some 2, some 3, some 4, none, some 5, some 6, some 7]), (1, 5, []), (1, 5, []), (1, 5, []), (1, 7, []), (1, 7, []), (1, 22, [])]
theorem try1 (h : AH) (c : Int32) (Q : Post) (hk : T 3 136 0 0 (4, [.ref 1, .int c, .int 0, .int 0], [], S0, h) Q) : T 3 136 0 0 (entS 136 [.ref 1, .int c] S0 h) Q := by
  refine T_run 4 (st' := (4, [.ref 1, .int c, .int 0, .int 0], [], S0, h)) rfl ?_
  exact hk
theorem try2 (h : AH) (c s : Int32) (k : Nat) (Q : Post) (hk : T 3 136 0 0 (17, [.ref 1, .int c, .int s, .int (nI k)], [.int c, .int 1, .int (nI k), .ref 1, .int s], S0, h) Q) (hn : ¬ h 1 6 ≤ nI k) : T 3 136 0 0 (4, [.ref 1, .int c, .int s, .int (nI k)], [], S0, h) Q := by
  refine T_run 3 (st' := (9, [.ref 1, .int c, .int s, .int (nI k)], [.int (h 1 6), .int (nI k)], S0, h)) rfl ?_
  refine T_iff (c := h 1 6 ≤ nI k) (t := 41) (f := 12) (L := [.ref 1, .int c, .int s, .int (nI k)]) (S := []) (G := S0) (h := h) rfl hn ?_
  refine T_run 5 (st' := (17, [.ref 1, .int c, .int s, .int (nI k)], [.int c, .int 1, .int (nI k), .ref 1, .int s], S0, h)) rfl ?_
  exact hk

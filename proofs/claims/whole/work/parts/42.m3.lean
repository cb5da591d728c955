/-! THE REFERENCE: its methods, 3 -/
theorem r_X9_remS {L : Nat} (h : AH)  (u : Nat) (hu : h 43 26 = nI u) (hu2 : u < 20) : Rt L 0 146 [.ref 43] h none (st_ (sc_ h 56 (fun q => if 22 * u ≤ q ∧ q < 22 * u + 22 then h 49 (q - 22 * u) else h 56 q)) 43 26 (nI (u + 1))) := by
  refine T_run 3 (st' := (6, [.ref 43, un_], [.int 20, .int (h 43 26)], S0 L, h)) rfl ?_
  refine T_iftP (c := ¬ (h 43 26) = 20) (P := ¬ u = 20) (t := 50) (f := 9) (L := [.ref 43, un_]) (S := []) (G := S0 L) (h := h) rfl (not_congr (nI_eqE hu rfl (by omega) (by omega))) (by omega) ?_
  refine T_run 2 (st' := (52, [.ref 43, .int 0], [], S0 L, h)) rfl ?_
  refine T_h (h' := (sc_ h 56 (fun q => if 22 * u ≤ q ∧ q < 22 * u + 0 then h 49 (q - 22 * u) else h 56 q))) (by funext a b; simp only [st_, sc_]; grind) ?_
  refine T_loop (fun k => (52, [.ref 43, .int (nI k)], [], S0 L, (sc_ h 56 (fun q => if 22 * u ≤ q ∧ q < 22 * u + k then h 49 (q - 22 * u) else h 56 q)))) 22 ?_ ?_
  · intro k hk ih
    refine T_run 2 (st' := (55, [.ref 43, .int (nI k)], [.int 22, .int (nI k)], S0 L, (sc_ h 56 (fun q => if 22 * u ≤ q ∧ q < 22 * u + k then h 49 (q - 22 * u) else h 56 q)))) rfl ?_
    refine T_iffP (c := 22 ≤ (nI k)) (P := 22 ≤ k) (t := 84) (f := 58) (L := [.ref 43, .int (nI k)]) (S := []) (G := S0 L) (h := (sc_ h 56 (fun q => if 22 * u ≤ q ∧ q < 22 * u + k then h 49 (q - 22 * u) else h 56 q))) rfl (nI_leE rfl rfl (by omega) (by omega)) (by omega) ?_
    refine T_run 11 (st' := (76, [.ref 43, .int (nI k)], [.int (nI k), .ref 49, .int ((22 * (h 43 26)) + (nI k)), .ref 56], S0 L, (sc_ h 56 (fun q => if 22 * u ≤ q ∧ q < 22 * u + k then h 49 (q - 22 * u) else h 56 q)))) rfl ?_
    refine T_ald (n := k) rfl rfl rfl (by omega) (by decide) rfl ?_
    refine T_ast (n := (22 * u) + k) rfl rfl (nI_addE (nI_mulE rfl hu) rfl) (by omega) (by decide) rfl ?_
    refine T_run 2 (st' := (52, [.ref 43, .int (nI k + 1)], [], S0 L, (st_ (sc_ h 56 (fun q => if 22 * u ≤ q ∧ q < 22 * u + k then h 49 (q - 22 * u) else h 56 q)) 56 ((22 * u) + k) (h 49 k)))) rfl ?_
    refine T_h (h' := (sc_ h 56 (fun q => if 22 * u ≤ q ∧ q < 22 * u + (k + 1) then h 49 (q - 22 * u) else h 56 q))) (by funext a b; simp only [st_, sc_]; grind) ?_
    exact T_st (by simp [nI_1, *]) ih
  · skip
    refine T_run 2 (st' := (55, [.ref 43, .int (nI 22)], [.int 22, .int (nI 22)], S0 L, (sc_ h 56 (fun q => if 22 * u ≤ q ∧ q < 22 * u + 22 then h 49 (q - 22 * u) else h 56 q)))) rfl ?_
    refine T_iftP (c := 22 ≤ (nI 22)) (P := 22 ≤ 22) (t := 84) (f := 58) (L := [.ref 43, .int (nI 22)]) (S := []) (G := S0 L) (h := (sc_ h 56 (fun q => if 22 * u ≤ q ∧ q < 22 * u + 22 then h 49 (q - 22 * u) else h 56 q))) rfl (nI_leE rfl rfl (by omega) (by omega)) (by omega) ?_
    refine T_run 6 (st' := (94, [.ref 43, .int (nI 22)], [], S0 L, (st_ (sc_ h 56 (fun q => if 22 * u ≤ q ∧ q < 22 * u + 22 then h 49 (q - 22 * u) else h 56 q)) 43 26 ((h 43 26) + 1)))) rfl ?_
    exact T_retR rfl rfl rfl (by rw [hu, nI_1])
theorem r_X9_remF {L : Nat} (h : AH)  (hu : h 43 26 = nI 20) : Rt L 0 146 [.ref 43] h none (st_ (sc_ h 56 (fun q => if q < 418 then h 56 (q + 22) else if q < 440 then h 49 (q - 418) else h 56 q)) 43 26 (nI 20)) := by
  refine T_run 3 (st' := (6, [.ref 43, un_], [.int 20, .int (h 43 26)], S0 L, h)) rfl ?_
  refine T_iffP (c := ¬ (h 43 26) = 20) (P := ¬ 20 = 20) (t := 50) (f := 9) (L := [.ref 43, un_]) (S := []) (G := S0 L) (h := h) rfl (not_congr (nI_eqE hu rfl (by omega) (by omega))) (by omega) ?_
  refine T_run 2 (st' := (12, [.ref 43, .int 22], [], S0 L, h)) rfl ?_
  refine T_h (h' := (sc_ h 56 (fun q => if q < 0 then h 56 (q + 22) else h 56 q))) (by funext a b; simp only [st_, sc_]; grind) ?_
  refine T_loop (fun k => (12, [.ref 43, .int (nI (22 + k))], [], S0 L, (sc_ h 56 (fun q => if q < k then h 56 (q + 22) else h 56 q)))) 418 ?_ ?_
  · intro k hk ih
    refine T_run 2 (st' := (16, [.ref 43, .int (nI (22 + k))], [.int 440, .int (nI (22 + k))], S0 L, (sc_ h 56 (fun q => if q < k then h 56 (q + 22) else h 56 q)))) rfl ?_
    refine T_iffP (c := 440 ≤ (nI (22 + k))) (P := 440 ≤ 22 + k) (t := 40) (f := 19) (L := [.ref 43, .int (nI (22 + k))]) (S := []) (G := S0 L) (h := (sc_ h 56 (fun q => if q < k then h 56 (q + 22) else h 56 q))) rfl (nI_leE rfl rfl (by omega) (by omega)) (by omega) ?_
    refine T_run 8 (st' := (32, [.ref 43, .int (nI (22 + k))], [.int (nI (22 + k)), .ref 56, .int ((nI (22 + k)) - 22), .ref 56], S0 L, (sc_ h 56 (fun q => if q < k then h 56 (q + 22) else h 56 q)))) rfl ?_
    refine T_ald (n := 22 + k) rfl rfl rfl (by omega) (by decide) rfl ?_
    refine T_ast (n := k) rfl rfl (by rw [show (22 : Int32) = nI 22 from rfl, pk_sub (by omega)]; congr 1; omega) (by omega) (by decide) rfl ?_
    refine T_run 2 (st' := (12, [.ref 43, .int (nI (22 + k) + 1)], [], S0 L, (st_ (sc_ h 56 (fun q => if q < k then h 56 (q + 22) else h 56 q)) 56 k ((fun q => if q < k then h 56 (q + 22) else h 56 q) (22 + k))))) rfl ?_
    refine T_h (h' := (sc_ h 56 (fun q => if q < (k + 1) then h 56 (q + 22) else h 56 q))) (by funext a b; simp only [st_, sc_]; grind) ?_
    exact T_st (by rw [nI_1, Nat.add_assoc]) ih
  · skip
    refine T_run 2 (st' := (16, [.ref 43, .int (nI (22 + 418))], [.int 440, .int (nI (22 + 418))], S0 L, (sc_ h 56 (fun q => if q < 418 then h 56 (q + 22) else h 56 q)))) rfl ?_
    refine T_iftP (c := 440 ≤ (nI (22 + 418))) (P := 440 ≤ 22 + 418) (t := 40) (f := 19) (L := [.ref 43, .int (nI (22 + 418))]) (S := []) (G := S0 L) (h := (sc_ h 56 (fun q => if q < 418 then h 56 (q + 22) else h 56 q))) rfl (nI_leE rfl rfl (by omega) (by omega)) (by omega) ?_
    refine T_run 8 (st' := (52, [.ref 43, .int 0], [], S0 L, (st_ (sc_ h 56 (fun q => if q < 418 then h 56 (q + 22) else h 56 q)) 43 26 ((h 43 26) - 1)))) rfl ?_
    refine T_h (h' := (st_ (sc_ h 56 (fun q => if q < 418 then h 56 (q + 22) else if q < 418 + 0 then h 49 (q - 418) else h 56 q)) 43 26 ((h 43 26) - 1))) (by funext a b; simp only [st_, sc_]; grind) ?_
    refine T_loop (fun k => (52, [.ref 43, .int (nI k)], [], S0 L, (st_ (sc_ h 56 (fun q => if q < 418 then h 56 (q + 22) else if q < 418 + k then h 49 (q - 418) else h 56 q)) 43 26 ((h 43 26) - 1)))) 22 ?_ ?_
    · intro k hk ih
      refine T_run 2 (st' := (55, [.ref 43, .int (nI k)], [.int 22, .int (nI k)], S0 L, (st_ (sc_ h 56 (fun q => if q < 418 then h 56 (q + 22) else if q < 418 + k then h 49 (q - 418) else h 56 q)) 43 26 ((h 43 26) - 1)))) rfl ?_
      refine T_iffP (c := 22 ≤ (nI k)) (P := 22 ≤ k) (t := 84) (f := 58) (L := [.ref 43, .int (nI k)]) (S := []) (G := S0 L) (h := (st_ (sc_ h 56 (fun q => if q < 418 then h 56 (q + 22) else if q < 418 + k then h 49 (q - 418) else h 56 q)) 43 26 ((h 43 26) - 1))) rfl (nI_leE rfl rfl (by omega) (by omega)) (by omega) ?_
      refine T_run 11 (st' := (76, [.ref 43, .int (nI k)], [.int (nI k), .ref 49, .int ((22 * ((h 43 26) - 1)) + (nI k)), .ref 56], S0 L, (st_ (sc_ h 56 (fun q => if q < 418 then h 56 (q + 22) else if q < 418 + k then h 49 (q - 418) else h 56 q)) 43 26 ((h 43 26) - 1)))) rfl ?_
      refine T_ald (n := k) rfl rfl rfl (by omega) (by decide) rfl ?_
      refine T_ast (n := (22 * 19) + k) rfl rfl (nI_addE (nI_mulE rfl (by rw [hu]; rfl)) rfl) (by omega) (by decide) rfl ?_
      refine T_run 2 (st' := (52, [.ref 43, .int (nI k + 1)], [], S0 L, (st_ (st_ (sc_ h 56 (fun q => if q < 418 then h 56 (q + 22) else if q < 418 + k then h 49 (q - 418) else h 56 q)) 43 26 ((h 43 26) - 1)) 56 ((22 * 19) + k) (h 49 k)))) rfl ?_
      refine T_h (h' := (st_ (sc_ h 56 (fun q => if q < 418 then h 56 (q + 22) else if q < 418 + (k + 1) then h 49 (q - 418) else h 56 q)) 43 26 ((h 43 26) - 1))) (by funext a b; simp only [st_, sc_]; grind) ?_
      exact T_st (by simp [nI_1, *]) ih
    · skip
      refine T_run 2 (st' := (55, [.ref 43, .int (nI 22)], [.int 22, .int (nI 22)], S0 L, (st_ (sc_ h 56 (fun q => if q < 418 then h 56 (q + 22) else if q < 418 + 22 then h 49 (q - 418) else h 56 q)) 43 26 ((h 43 26) - 1)))) rfl ?_
      refine T_iftP (c := 22 ≤ (nI 22)) (P := 22 ≤ 22) (t := 84) (f := 58) (L := [.ref 43, .int (nI 22)]) (S := []) (G := S0 L) (h := (st_ (sc_ h 56 (fun q => if q < 418 then h 56 (q + 22) else if q < 418 + 22 then h 49 (q - 418) else h 56 q)) 43 26 ((h 43 26) - 1))) rfl (nI_leE rfl rfl (by omega) (by omega)) (by omega) ?_
      refine T_run 6 (st' := (94, [.ref 43, .int (nI 22)], [], S0 L, (st_ (st_ (sc_ h 56 (fun q => if q < 418 then h 56 (q + 22) else if q < 418 + 22 then h 49 (q - 418) else h 56 q)) 43 26 ((h 43 26) - 1)) 43 26 (((h 43 26) - 1) + 1)))) rfl ?_
      exact T_retR rfl rfl rfl (by have e : (nI 20 : Int32) = h 43 26 - 1 + 1 := (by rw [hu]; rfl); rw [e]; funext a b; simp only [st_, sc_]; grind)
theorem r_X9_remember {L : Nat} (h : AH) (u : Nat) (hu : h 43 26 = nI u) (hu20 : u ≤ 20) : Rt L 0 146 [.ref 43] h none (st_ (sc_ h 56 (remP (h 56) (h 49) u)) 43 26 (nI (remU u))) := by
  by_cases e : u = 20
  · subst e
    exact r_X9_remF h hu
  · have h1 : remP (h 56) (h 49) u = fun q => if 22 * u ≤ q ∧ q < 22 * u + 22 then h 49 (q - 22 * u) else h 56 q := by unfold remP; rw [if_neg e]
    have h2 : remU u = u + 1 := by unfold remU; rw [if_neg e]
    rw [h1, h2]
    exact r_X9_remS h u hu (by omega)

/-! THE PROGRAM: its public methods -/
theorem r_X6_tryAllSets {L : Nat} (h : AH) (w : Int32) (n : Nat) (hn : h 3 3 = nI n) (h7 : n ≤ 7) : Rt L 1 74 [.ref 31, .int w] h none (sc_ (st_ (st_ (st_ h 31 2 (nI (mnS (fun t_ => decide (wtS (h 8) (nI t_) n = w)) (2 ^ n)))) 31 3 (fsS (fun t_ => decide (wtS (h 8) (nI t_) n = w)) (2 ^ n))) 31 4 (scS (fun t_ => decide (wtS (h 8) (nI t_) n = w)) (2 ^ n))) 32 (fun q => if q < n then wiS (fun t_ => decide (wtS (h 8) (nI t_) n = w)) q (2 ^ n) else if q < 7 then 0 else h 32 q)) := by
  have h2n := two_le h7
  refine T_run 12 (st' := (20, [.ref 31, .int w, un_], [.int 0, .ref 32], S0 L, (st_ (st_ (st_ h 31 2 0) 31 3 (-1)) 31 4 0))) rfl ?_
  refine T_callR (S' := []) (h' := (sc_ (st_ (st_ (st_ h 31 2 0) 31 3 (-1)) 31 4 0) 32 (fun q => if q < 7 then 0 else (h 32) q))) (r_JA_fill32 (L := L) (st_ (st_ (st_ h 31 2 0) 31 3 (-1)) 31 4 0) 0 ) (by decide) rfl rfl rfl rfl rfl rfl rfl ?_
  refine T_run 2 (st' := (25, [.ref 31, .int w, .int 0], [], S0 L, (sc_ (st_ (st_ (st_ h 31 2 0) 31 3 (-1)) 31 4 0) 32 (fun q => if q < 7 then 0 else (h 32) q)))) rfl ?_
  refine T_h (h' := (sc_ (st_ (st_ (st_ h 31 2 (nI (mnS (fun t_ => decide (wtS (h 8) (nI t_) n = w)) 0))) 31 3 (fsS (fun t_ => decide (wtS (h 8) (nI t_) n = w)) 0)) 31 4 (scS (fun t_ => decide (wtS (h 8) (nI t_) n = w)) 0)) 32 (fun q => if q < n then wiS (fun t_ => decide (wtS (h 8) (nI t_) n = w)) q 0 else if q < 7 then 0 else h 32 q))) (by funext a b; simp only [st_, sc_, mnS, fsS, scS, wiS, nI_0]; grind) ?_
  refine T_loop (fun k => (25, [.ref 31, .int w, .int (nI k)], [], S0 L, (sc_ (st_ (st_ (st_ h 31 2 (nI (mnS (fun t_ => decide (wtS (h 8) (nI t_) n = w)) k))) 31 3 (fsS (fun t_ => decide (wtS (h 8) (nI t_) n = w)) k)) 31 4 (scS (fun t_ => decide (wtS (h 8) (nI t_) n = w)) k)) 32 (fun q => if q < n then wiS (fun t_ => decide (wtS (h 8) (nI t_) n = w)) q k else if q < 7 then 0 else h 32 q)))) (2 ^ n) ?_ ?_
  · intro k hk ih
    have hmk := mn_le (fun t_ => decide (wtS (h 8) (nI t_) n = w)) k
    refine T_run 6 (st' := (35, [.ref 31, .int w, .int (nI k)], [.int (1 <<< ((h 3 3) &&& 31)), .int (nI k)], S0 L, (sc_ (st_ (st_ (st_ h 31 2 (nI (mnS (fun t_ => decide (wtS (h 8) (nI t_) n = w)) k))) 31 3 (fsS (fun t_ => decide (wtS (h 8) (nI t_) n = w)) k)) 31 4 (scS (fun t_ => decide (wtS (h 8) (nI t_) n = w)) k)) 32 (fun q => if q < n then wiS (fun t_ => decide (wtS (h 8) (nI t_) n = w)) q k else if q < 7 then 0 else h 32 q)))) rfl ?_
    refine T_iffP (c := (1 <<< ((h 3 3) &&& 31)) ≤ (nI k)) (P := 2 ^ n ≤ k) (t := 58) (f := 38) (L := [.ref 31, .int w, .int (nI k)]) (S := []) (G := S0 L) (h := (sc_ (st_ (st_ (st_ h 31 2 (nI (mnS (fun t_ => decide (wtS (h 8) (nI t_) n = w)) k))) 31 3 (fsS (fun t_ => decide (wtS (h 8) (nI t_) n = w)) k)) 31 4 (scS (fun t_ => decide (wtS (h 8) (nI t_) n = w)) k)) 32 (fun q => if q < n then wiS (fun t_ => decide (wtS (h 8) (nI t_) n = w)) q k else if q < 7 then 0 else h 32 q))) rfl (nI_leE (by rw [hn]; exact shl_nI h7) rfl (by omega) (by omega)) (by omega) ?_
    refine T_run 2 (st' := (40, [.ref 31, .int w, .int (nI k)], [.int (nI k), .ref 31], S0 L, (sc_ (st_ (st_ (st_ h 31 2 (nI (mnS (fun t_ => decide (wtS (h 8) (nI t_) n = w)) k))) 31 3 (fsS (fun t_ => decide (wtS (h 8) (nI t_) n = w)) k)) 31 4 (scS (fun t_ => decide (wtS (h 8) (nI t_) n = w)) k)) 32 (fun q => if q < n then wiS (fun t_ => decide (wtS (h 8) (nI t_) n = w)) q k else if q < 7 then 0 else h 32 q)))) rfl ?_
    refine T_callR (S' := [.int (wtS (h 8) (nI k) n)]) (h' := (sc_ (st_ (st_ (st_ h 31 2 (nI (mnS (fun t_ => decide (wtS (h 8) (nI t_) n = w)) k))) 31 3 (fsS (fun t_ => decide (wtS (h 8) (nI t_) n = w)) k)) 31 4 (scS (fun t_ => decide (wtS (h 8) (nI t_) n = w)) k)) 32 (fun q => if q < n then wiS (fun t_ => decide (wtS (h 8) (nI t_) n = w)) q k else if q < 7 then 0 else h 32 q))) (r_X6_weightOf (L := L) (sc_ (st_ (st_ (st_ h 31 2 (nI (mnS (fun t_ => decide (wtS (h 8) (nI t_) n = w)) k))) 31 3 (fsS (fun t_ => decide (wtS (h 8) (nI t_) n = w)) k)) 31 4 (scS (fun t_ => decide (wtS (h 8) (nI t_) n = w)) k)) 32 (fun q => if q < n then wiS (fun t_ => decide (wtS (h 8) (nI t_) n = w)) q k else if q < 7 then 0 else h 32 q)) (nI k) n hn h7) (by decide) rfl rfl rfl rfl rfl rfl rfl ?_
    refine T_run 1 (st' := (44, [.ref 31, .int w, .int (nI k)], [.int w, .int (wtS (h 8) (nI k) n)], S0 L, (sc_ (st_ (st_ (st_ h 31 2 (nI (mnS (fun t_ => decide (wtS (h 8) (nI t_) n = w)) k))) 31 3 (fsS (fun t_ => decide (wtS (h 8) (nI t_) n = w)) k)) 31 4 (scS (fun t_ => decide (wtS (h 8) (nI t_) n = w)) k)) 32 (fun q => if q < n then wiS (fun t_ => decide (wtS (h 8) (nI t_) n = w)) q k else if q < 7 then 0 else h 32 q)))) rfl ?_
    refine T_ifne (c := (wtS (h 8) (nI k) n) = w) (t := 52) (f := 47) (L := [.ref 31, .int w, .int (nI k)]) (S := []) (G := S0 L) (h := (sc_ (st_ (st_ (st_ h 31 2 (nI (mnS (fun t_ => decide (wtS (h 8) (nI t_) n = w)) k))) 31 3 (fsS (fun t_ => decide (wtS (h 8) (nI t_) n = w)) k)) 31 4 (scS (fun t_ => decide (wtS (h 8) (nI t_) n = w)) k)) 32 (fun q => if q < n then wiS (fun t_ => decide (wtS (h 8) (nI t_) n = w)) q k else if q < 7 then 0 else h 32 q))) rfl (fun q44 => ?_) (fun q44 => ?_)
    · refine T_run 2 (st' := (25, [.ref 31, .int w, .int (nI k + 1)], [], S0 L, (sc_ (st_ (st_ (st_ h 31 2 (nI (mnS (fun t_ => decide (wtS (h 8) (nI t_) n = w)) k))) 31 3 (fsS (fun t_ => decide (wtS (h 8) (nI t_) n = w)) k)) 31 4 (scS (fun t_ => decide (wtS (h 8) (nI t_) n = w)) k)) 32 (fun q => if q < n then wiS (fun t_ => decide (wtS (h 8) (nI t_) n = w)) q k else if q < 7 then 0 else h 32 q)))) rfl ?_
      refine T_h (h' := (sc_ (st_ (st_ (st_ h 31 2 (nI (mnS (fun t_ => decide (wtS (h 8) (nI t_) n = w)) (k + 1)))) 31 3 (fsS (fun t_ => decide (wtS (h 8) (nI t_) n = w)) (k + 1))) 31 4 (scS (fun t_ => decide (wtS (h 8) (nI t_) n = w)) (k + 1))) 32 (fun q => if q < n then wiS (fun t_ => decide (wtS (h 8) (nI t_) n = w)) q (k + 1) else if q < 7 then 0 else h 32 q))) (by first | (simp only [mnS, fsS, scS, wiS, decide_eq_true_eq, q44, if_true, if_false, true_and, false_and]; done) | (simp only [mnS, fsS, scS, wiS, decide_eq_true_eq, q44, if_true, if_false, true_and, false_and]; generalize mnS (fun t_ => decide (wtS (h 8) (nI t_) n = w)) k = MM at *; funext a b; simp only [st_, sc_]; grind)) ?_
      exact T_st (by rw [nI_1]) ih
    · refine T_run 2 (st' := (49, [.ref 31, .int w, .int (nI k)], [.int (nI k), .ref 31], S0 L, (sc_ (st_ (st_ (st_ h 31 2 (nI (mnS (fun t_ => decide (wtS (h 8) (nI t_) n = w)) k))) 31 3 (fsS (fun t_ => decide (wtS (h 8) (nI t_) n = w)) k)) 31 4 (scS (fun t_ => decide (wtS (h 8) (nI t_) n = w)) k)) 32 (fun q => if q < n then wiS (fun t_ => decide (wtS (h 8) (nI t_) n = w)) q k else if q < 7 then 0 else h 32 q)))) rfl ?_
      refine T_callR (S' := []) (h' := (sc_ (st_ (st_ (st_ (sc_ (st_ (st_ (st_ h 31 2 (nI (mnS (fun t_ => decide (wtS (h 8) (nI t_) n = w)) k))) 31 3 (fsS (fun t_ => decide (wtS (h 8) (nI t_) n = w)) k)) 31 4 (scS (fun t_ => decide (wtS (h 8) (nI t_) n = w)) k)) 32 (fun q => if q < n then wiS (fun t_ => decide (wtS (h 8) (nI t_) n = w)) q k else if q < 7 then 0 else h 32 q)) 31 3 (if mnS (fun t_ => decide (wtS (h 8) (nI t_) n = w)) k = 0 then nI k else fsS (fun t_ => decide (wtS (h 8) (nI t_) n = w)) k)) 31 4 (if mnS (fun t_ => decide (wtS (h 8) (nI t_) n = w)) k = 0 then nI k else (scS (fun t_ => decide (wtS (h 8) (nI t_) n = w)) k) &&& (nI k))) 31 2 (nI (mnS (fun t_ => decide (wtS (h 8) (nI t_) n = w)) k + 1))) 32 (fun q => if q < n then (fun q => if q < n then wiS (fun t_ => decide (wtS (h 8) (nI t_) n = w)) q k else if q < 7 then 0 else h 32 q) q + (((nI k) >>> (nI q &&& 31)) &&& 1) else (fun q => if q < n then wiS (fun t_ => decide (wtS (h 8) (nI t_) n = w)) q k else if q < 7 then 0 else h 32 q) q))) (r_X6_count (L := L) (sc_ (st_ (st_ (st_ h 31 2 (nI (mnS (fun t_ => decide (wtS (h 8) (nI t_) n = w)) k))) 31 3 (fsS (fun t_ => decide (wtS (h 8) (nI t_) n = w)) k)) 31 4 (scS (fun t_ => decide (wtS (h 8) (nI t_) n = w)) k)) 32 (fun q => if q < n then wiS (fun t_ => decide (wtS (h 8) (nI t_) n = w)) q k else if q < 7 then 0 else h 32 q)) (nI k) n hn h7 (mnS (fun t_ => decide (wtS (h 8) (nI t_) n = w)) k) rfl (by omega)) (by decide) rfl rfl rfl rfl rfl rfl rfl ?_
      refine T_run 2 (st' := (25, [.ref 31, .int w, .int (nI k + 1)], [], S0 L, (sc_ (st_ (st_ (st_ (sc_ (st_ (st_ (st_ h 31 2 (nI (mnS (fun t_ => decide (wtS (h 8) (nI t_) n = w)) k))) 31 3 (fsS (fun t_ => decide (wtS (h 8) (nI t_) n = w)) k)) 31 4 (scS (fun t_ => decide (wtS (h 8) (nI t_) n = w)) k)) 32 (fun q => if q < n then wiS (fun t_ => decide (wtS (h 8) (nI t_) n = w)) q k else if q < 7 then 0 else h 32 q)) 31 3 (if mnS (fun t_ => decide (wtS (h 8) (nI t_) n = w)) k = 0 then nI k else fsS (fun t_ => decide (wtS (h 8) (nI t_) n = w)) k)) 31 4 (if mnS (fun t_ => decide (wtS (h 8) (nI t_) n = w)) k = 0 then nI k else (scS (fun t_ => decide (wtS (h 8) (nI t_) n = w)) k) &&& (nI k))) 31 2 (nI (mnS (fun t_ => decide (wtS (h 8) (nI t_) n = w)) k + 1))) 32 (fun q => if q < n then (fun q => if q < n then wiS (fun t_ => decide (wtS (h 8) (nI t_) n = w)) q k else if q < 7 then 0 else h 32 q) q + (((nI k) >>> (nI q &&& 31)) &&& 1) else (fun q => if q < n then wiS (fun t_ => decide (wtS (h 8) (nI t_) n = w)) q k else if q < 7 then 0 else h 32 q) q)))) rfl ?_
      refine T_h (h' := (sc_ (st_ (st_ (st_ h 31 2 (nI (mnS (fun t_ => decide (wtS (h 8) (nI t_) n = w)) (k + 1)))) 31 3 (fsS (fun t_ => decide (wtS (h 8) (nI t_) n = w)) (k + 1))) 31 4 (scS (fun t_ => decide (wtS (h 8) (nI t_) n = w)) (k + 1))) 32 (fun q => if q < n then wiS (fun t_ => decide (wtS (h 8) (nI t_) n = w)) q (k + 1) else if q < 7 then 0 else h 32 q))) (by first | (simp only [mnS, fsS, scS, wiS, decide_eq_true_eq, q44, if_true, if_false, true_and, false_and]; done) | (simp only [mnS, fsS, scS, wiS, decide_eq_true_eq, q44, if_true, if_false, true_and, false_and]; generalize mnS (fun t_ => decide (wtS (h 8) (nI t_) n = w)) k = MM at *; funext a b; simp only [st_, sc_]; grind)) ?_
      exact T_st (by rw [nI_1]) ih
  · skip
    refine T_run 6 (st' := (35, [.ref 31, .int w, .int (nI (2 ^ n))], [.int (1 <<< ((h 3 3) &&& 31)), .int (nI (2 ^ n))], S0 L, (sc_ (st_ (st_ (st_ h 31 2 (nI (mnS (fun t_ => decide (wtS (h 8) (nI t_) n = w)) (2 ^ n)))) 31 3 (fsS (fun t_ => decide (wtS (h 8) (nI t_) n = w)) (2 ^ n))) 31 4 (scS (fun t_ => decide (wtS (h 8) (nI t_) n = w)) (2 ^ n))) 32 (fun q => if q < n then wiS (fun t_ => decide (wtS (h 8) (nI t_) n = w)) q (2 ^ n) else if q < 7 then 0 else h 32 q)))) rfl ?_
    refine T_iftP (c := (1 <<< ((h 3 3) &&& 31)) ≤ (nI (2 ^ n))) (P := 2 ^ n ≤ 2 ^ n) (t := 58) (f := 38) (L := [.ref 31, .int w, .int (nI (2 ^ n))]) (S := []) (G := S0 L) (h := (sc_ (st_ (st_ (st_ h 31 2 (nI (mnS (fun t_ => decide (wtS (h 8) (nI t_) n = w)) (2 ^ n)))) 31 3 (fsS (fun t_ => decide (wtS (h 8) (nI t_) n = w)) (2 ^ n))) 31 4 (scS (fun t_ => decide (wtS (h 8) (nI t_) n = w)) (2 ^ n))) 32 (fun q => if q < n then wiS (fun t_ => decide (wtS (h 8) (nI t_) n = w)) q (2 ^ n) else if q < 7 then 0 else h 32 q))) rfl (nI_leE (by rw [hn]; exact shl_nI h7) rfl (by omega) (by omega)) (by omega) ?_
    exact T_retR rfl rfl rfl rfl
theorem r_X6_bestToLookFor {L : Nat} (h : AH)  (n : Nat) (hn : h 3 3 = nI n) (h7 : n ≤ 7) : Rt L 0 75 [.ref 31] h (some ((lkS (h 32) (h 31 2) n).1)) h := by
  refine T_run 7 (st' := (9, [.ref 31, .int (-1), .int (h 31 2), .int 0, un_], [], S0 L, h)) rfl ?_
  refine T_loop (fun k => (9, [.ref 31, .int ((lkS (h 32) (h 31 2) k).1), .int ((lkS (h 32) (h 31 2) k).2), .int (nI k), un_], [], S0 L, h)) n ?_ ?_
  · intro k hk ih
    refine T_run 4 (st' := (17, [.ref 31, .int ((lkS (h 32) (h 31 2) k).1), .int ((lkS (h 32) (h 31 2) k).2), .int (nI k), un_], [.int (h 3 3), .int (nI k)], S0 L, h)) rfl ?_
    refine T_iffP (c := (h 3 3) ≤ (nI k)) (P := n ≤ k) (t := 59) (f := 20) (L := [.ref 31, .int ((lkS (h 32) (h 31 2) k).1), .int ((lkS (h 32) (h 31 2) k).2), .int (nI k), un_]) (S := []) (G := S0 L) (h := h) rfl (nI_leE hn rfl (by omega) (by omega)) (by omega) ?_
    refine T_run 3 (st' := (25, [.ref 31, .int ((lkS (h 32) (h 31 2) k).1), .int ((lkS (h 32) (h 31 2) k).2), .int (nI k), un_], [.int (nI k), .ref 32], S0 L, h)) rfl ?_
    refine T_ald (n := k) rfl rfl rfl (by omega) (by decide) rfl ?_
    refine T_run 5 (st' := (35, [.ref 31, .int ((lkS (h 32) (h 31 2) k).1), .int ((lkS (h 32) (h 31 2) k).2), .int (nI k), un_], [.int (nI k), .ref 32, .int (h 31 2), .int (h 32 k)], S0 L, h)) rfl ?_
    refine T_ald (n := k) rfl rfl rfl (by omega) (by decide) rfl ?_
    refine T_run 5 (st' := (45, [.ref 31, .int ((lkS (h 32) (h 31 2) k).1), .int ((lkS (h 32) (h 31 2) k).2), .int (nI k), .int (if h 32 k < (h 31 2) - (h 32 k) then (h 31 2) - (h 32 k) else h 32 k)], [.int ((lkS (h 32) (h 31 2) k).2), .int (if h 32 k < (h 31 2) - (h 32 k) then (h 31 2) - (h 32 k) else h 32 k)], S0 L, h)) rfl ?_
    refine T_if (c := ((lkS (h 32) (h 31 2) k).2) ≤ (if h 32 k < (h 31 2) - (h 32 k) then (h 31 2) - (h 32 k) else h 32 k)) (t := 53) (f := 48) (L := [.ref 31, .int ((lkS (h 32) (h 31 2) k).1), .int ((lkS (h 32) (h 31 2) k).2), .int (nI k), .int (if h 32 k < (h 31 2) - (h 32 k) then (h 31 2) - (h 32 k) else h 32 k)]) (S := []) (G := S0 L) (h := h) rfl (fun q45 => ?_) (fun q45 => ?_)
    · refine T_run 2 (st' := (9, [.ref 31, .int ((lkS (h 32) (h 31 2) k).1), .int ((lkS (h 32) (h 31 2) k).2), .int (nI k + 1), .int (if h 32 k < (h 31 2) - (h 32 k) then (h 31 2) - (h 32 k) else h 32 k)], [], S0 L, h)) rfl ?_
      refine T_forget 4 (L' := [.ref 31, .int ((lkS (h 32) (h 31 2) k).1), .int ((lkS (h 32) (h 31 2) k).2), .int (nI k + 1), un_]) rfl ?_
      exact T_st (by rw [nI_1]; simp only [lkS]; grind) ih
    · refine T_run 6 (st' := (9, [.ref 31, .int (nI k), .int (if h 32 k < (h 31 2) - (h 32 k) then (h 31 2) - (h 32 k) else h 32 k), .int (nI k + 1), .int (if h 32 k < (h 31 2) - (h 32 k) then (h 31 2) - (h 32 k) else h 32 k)], [], S0 L, h)) rfl ?_
      refine T_forget 4 (L' := [.ref 31, .int (nI k), .int (if h 32 k < (h 31 2) - (h 32 k) then (h 31 2) - (h 32 k) else h 32 k), .int (nI k + 1), un_]) rfl ?_
      exact T_st (by rw [nI_1]; simp only [lkS]; grind) ih
  · skip
    refine T_run 4 (st' := (17, [.ref 31, .int ((lkS (h 32) (h 31 2) n).1), .int ((lkS (h 32) (h 31 2) n).2), .int (nI n), un_], [.int (h 3 3), .int (nI n)], S0 L, h)) rfl ?_
    refine T_iftP (c := (h 3 3) ≤ (nI n)) (P := n ≤ n) (t := 59) (f := 20) (L := [.ref 31, .int ((lkS (h 32) (h 31 2) n).1), .int ((lkS (h 32) (h 31 2) n).2), .int (nI n), un_]) (S := []) (G := S0 L) (h := h) rfl (nI_leE hn rfl (by omega) (by omega)) (by omega) ?_
    refine T_run 1 (st' := (60, [.ref 31, .int ((lkS (h 32) (h 31 2) n).1), .int ((lkS (h 32) (h 31 2) n).2), .int (nI n), un_], [.int ((lkS (h 32) (h 31 2) n).1)], S0 L, h)) rfl ?_
    exact T_retR rfl rfl rfl rfl
theorem r_X8_fault_ok {L : Nat} (h : AH)   : Rt L 0 87 [.ref 1] h (some (h 1 2)) h := by
  refine T_run 2 (st' := (4, [.ref 1], [.int (h 1 2)], S0 L, h)) rfl ?_
  exact T_retR rfl rfl rfl rfl
theorem r_X8_seed_out {L : Nat} (h : AH) (v : Int32) (hv : v < 0) : Rt L 0 110 [.ref 1, .int v] h (some (-1000000002)) h := by
  refine T_run 1 (st' := (1, [.ref 1, .int v, un_], [.int v], S0 L, h)) rfl ?_
  refine T_iff (c := 0 ≤ v) (t := 7) (f := 4) (L := [.ref 1, .int v, un_]) (S := []) (G := S0 L) (h := h) rfl (Int32.not_le.mpr hv) ?_
  refine T_run 1 (st' := (6, [.ref 1, .int v, un_], [.int (-1000000002)], S0 L, h)) rfl ?_
  exact T_retR rfl rfl rfl rfl
theorem r_X8_seed_ok {L : Nat} (h : AH) (v : Int32) (hv : ¬ v < 0) : Rt L 0 110 [.ref 1, .int v] h (some (h 1 13)) (st_ h 1 13 v) := by
  refine T_run 1 (st' := (1, [.ref 1, .int v, un_], [.int v], S0 L, h)) rfl ?_
  refine T_ift (c := 0 ≤ v) (t := 7) (f := 4) (L := [.ref 1, .int v, un_]) (S := []) (G := S0 L) (h := h) rfl (Int32.not_lt.mp hv) ?_
  refine T_run 7 (st' := (18, [.ref 1, .int v, .int (h 1 13)], [.int (h 1 13)], S0 L, (st_ h 1 13 v))) rfl ?_
  exact T_retR rfl rfl rfl rfl
theorem r_X8_feed_out1 {L : Nat} (h : AH) (x : Int32) (hx : x < 0) : Rt L 0 85 [.ref 1, .int x] h (some (-1000000002)) h := by
  refine T_run 1 (st' := (1, [.ref 1, .int x], [.int x], S0 L, h)) rfl ?_
  refine T_ift (c := x < 0) (t := 11) (f := 4) (L := [.ref 1, .int x]) (S := []) (G := S0 L) (h := h) rfl hx ?_
  refine T_run 1 (st' := (13, [.ref 1, .int x], [.int (-1000000002)], S0 L, h)) rfl ?_
  exact T_retR rfl rfl rfl rfl
theorem r_X8_feed_out2 {L : Nat} (h : AH) (x : Int32) (hx : ¬ x < 0) (hx2 : ¬ x ≤ 255) : Rt L 0 85 [.ref 1, .int x] h (some (-1000000002)) h := by
  refine T_run 1 (st' := (1, [.ref 1, .int x], [.int x], S0 L, h)) rfl ?_
  refine T_iff (c := x < 0) (t := 11) (f := 4) (L := [.ref 1, .int x]) (S := []) (G := S0 L) (h := h) rfl hx ?_
  refine T_run 2 (st' := (8, [.ref 1, .int x], [.int 255, .int x], S0 L, h)) rfl ?_
  refine T_iff (c := x ≤ 255) (t := 14) (f := 11) (L := [.ref 1, .int x]) (S := []) (G := S0 L) (h := h) rfl hx2 ?_
  refine T_run 1 (st' := (13, [.ref 1, .int x], [.int (-1000000002)], S0 L, h)) rfl ?_
  exact T_retR rfl rfl rfl rfl
theorem r_X8_feed_full {L : Nat} (h : AH) (x : Int32) (hx : ¬ x < 0) (hx2 : x ≤ 255) (ht : h 1 1 = nI 240) : Rt L 0 85 [.ref 1, .int x] h (some (-1000000004)) h := by
  refine T_run 1 (st' := (1, [.ref 1, .int x], [.int x], S0 L, h)) rfl ?_
  refine T_iff (c := x < 0) (t := 11) (f := 4) (L := [.ref 1, .int x]) (S := []) (G := S0 L) (h := h) rfl hx ?_
  refine T_run 2 (st' := (8, [.ref 1, .int x], [.int 255, .int x], S0 L, h)) rfl ?_
  refine T_ift (c := x ≤ 255) (t := 14) (f := 11) (L := [.ref 1, .int x]) (S := []) (G := S0 L) (h := h) rfl hx2 ?_
  refine T_run 5 (st' := (23, [.ref 1, .int x], [.int 240, .int (h 1 1)], S0 L, h)) rfl ?_
  refine T_iffP (c := (h 1 1) < 240) (P := 240 < 240) (t := 29) (f := 26) (L := [.ref 1, .int x]) (S := []) (G := S0 L) (h := h) rfl (nI_ltE ht rfl (by omega) (by omega)) (by omega) ?_
  refine T_run 1 (st' := (28, [.ref 1, .int x], [.int (-1000000004)], S0 L, h)) rfl ?_
  exact T_retR rfl rfl rfl rfl
theorem r_X8_feed_ok {L : Nat} (h : AH) (x : Int32) (t : Nat) (hx : ¬ x < 0) (hx2 : x ≤ 255) (ht : h 1 1 = nI t) (ht2 : t < 240) : Rt L 0 85 [.ref 1, .int x] h (some (nI (t + 1))) (st_ (st_ h 2 t x) 1 1 (nI (t + 1))) := by
  refine T_run 1 (st' := (1, [.ref 1, .int x], [.int x], S0 L, h)) rfl ?_
  refine T_iff (c := x < 0) (t := 11) (f := 4) (L := [.ref 1, .int x]) (S := []) (G := S0 L) (h := h) rfl hx ?_
  refine T_run 2 (st' := (8, [.ref 1, .int x], [.int 255, .int x], S0 L, h)) rfl ?_
  refine T_ift (c := x ≤ 255) (t := 14) (f := 11) (L := [.ref 1, .int x]) (S := []) (G := S0 L) (h := h) rfl hx2 ?_
  refine T_run 5 (st' := (23, [.ref 1, .int x], [.int 240, .int (h 1 1)], S0 L, h)) rfl ?_
  refine T_iftP (c := (h 1 1) < 240) (P := t < 240) (t := 29) (f := 26) (L := [.ref 1, .int x]) (S := []) (G := S0 L) (h := h) rfl (nI_ltE ht rfl (by omega) (by omega)) (by omega) ?_
  refine T_run 5 (st' := (38, [.ref 1, .int x], [.int x, .int (h 1 1), .ref 2], S0 L, h)) rfl ?_
  refine T_ast (n := t) rfl rfl ht (by omega) (by decide) rfl ?_
  refine T_run 8 (st' := (53, [.ref 1, .int x], [.int ((h 1 1) + 1)], S0 L, (st_ (st_ h 2 t x) 1 1 ((h 1 1) + 1)))) rfl ?_
  exact T_retR rfl rfl (by rw [ht, nI_1]) (by rw [ht, nI_1])
theorem r_X8_told_0 {L : Nat} (h : AH) (x : Int32)  (hx : x = nI 0) : Rt L 4 88 [.ref 1, .int x] h (some (h 3 1)) h := by
  refine T_run 1 (st' := (1, [.ref 1, .int x], [.int x], S0 L, h)) rfl ?_
  refine T_tswI (lo := 0) (i := 0) (t := 72) rfl hx rfl (by decide) ?_
  refine T_run 3 (st' := (79, [.ref 1, .int x], [.int (h 3 1)], S0 L, h)) rfl ?_
  exact T_retR rfl rfl rfl rfl
theorem r_X8_told_1 {L : Nat} (h : AH) (x : Int32)  (hx : x = nI 1) : Rt L 4 88 [.ref 1, .int x] h (some (h 3 2)) h := by
  refine T_run 1 (st' := (1, [.ref 1, .int x], [.int x], S0 L, h)) rfl ?_
  refine T_tswI (lo := 0) (i := 1) (t := 80) rfl hx rfl (by decide) ?_
  refine T_run 3 (st' := (87, [.ref 1, .int x], [.int (h 3 2)], S0 L, h)) rfl ?_
  exact T_retR rfl rfl rfl rfl
theorem r_X8_told_2 {L : Nat} (h : AH) (x : Int32)  (hx : x = nI 2) : Rt L 4 88 [.ref 1, .int x] h (some (h 3 3)) h := by
  refine T_run 1 (st' := (1, [.ref 1, .int x], [.int x], S0 L, h)) rfl ?_
  refine T_tswI (lo := 0) (i := 2) (t := 88) rfl hx rfl (by decide) ?_
  refine T_run 3 (st' := (95, [.ref 1, .int x], [.int (h 3 3)], S0 L, h)) rfl ?_
  exact T_retR rfl rfl rfl rfl
theorem r_X8_told_3 {L : Nat} (h : AH) (x : Int32)  (hx : x = nI 3) : Rt L 4 88 [.ref 1, .int x] h (some (h 1 1)) h := by
  refine T_run 1 (st' := (1, [.ref 1, .int x], [.int x], S0 L, h)) rfl ?_
  refine T_tswI (lo := 0) (i := 3) (t := 96) rfl hx rfl (by decide) ?_
  refine T_run 2 (st' := (100, [.ref 1, .int x], [.int (h 1 1)], S0 L, h)) rfl ?_
  exact T_retR rfl rfl rfl rfl
theorem r_X8_told_4 {L : Nat} (h : AH) (x : Int32)  (hx : x = nI 4) : Rt L 4 88 [.ref 1, .int x] h (some (h 17 19)) h := by
  refine T_run 1 (st' := (1, [.ref 1, .int x], [.int x], S0 L, h)) rfl ?_
  refine T_tswI (lo := 0) (i := 4) (t := 101) rfl hx rfl (by decide) ?_
  refine T_run 2 (st' := (105, [.ref 1, .int x], [.ref 16], S0 L, h)) rfl ?_
  refine T_callR (S' := [.int (h 17 19)]) (h' := h) (r_X0_days (L := L) h  ) (by decide) rfl rfl rfl rfl rfl rfl rfl ?_
  exact T_retR rfl rfl rfl rfl
theorem r_X8_told_5 {L : Nat} (h : AH) (x : Int32)  (hx : x = nI 5) : Rt L 4 88 [.ref 1, .int x] h (some (h 17 20)) h := by
  refine T_run 1 (st' := (1, [.ref 1, .int x], [.int x], S0 L, h)) rfl ?_
  refine T_tswI (lo := 0) (i := 5) (t := 109) rfl hx rfl (by decide) ?_
  refine T_run 2 (st' := (113, [.ref 1, .int x], [.ref 16], S0 L, h)) rfl ?_
  refine T_callR (S' := [.int (h 17 20)]) (h' := h) (r_X0_takenThisDay (L := L) h  ) (by decide) rfl rfl rfl rfl rfl rfl rfl ?_
  exact T_retR rfl rfl rfl rfl
theorem r_X8_told_6 {L : Nat} (h : AH) (x : Int32)  (hx : x = nI 6) : Rt L 4 88 [.ref 1, .int x] h (some (h 17 21)) h := by
  refine T_run 1 (st' := (1, [.ref 1, .int x], [.int x], S0 L, h)) rfl ?_
  refine T_tswI (lo := 0) (i := 6) (t := 117) rfl hx rfl (by decide) ?_
  refine T_run 2 (st' := (121, [.ref 1, .int x], [.ref 16], S0 L, h)) rfl ?_
  refine T_callR (S' := [.int (h 17 21)]) (h' := h) (r_X0_takenInAll (L := L) h  ) (by decide) rfl rfl rfl rfl rfl rfl rfl ?_
  exact T_retR rfl rfl rfl rfl
theorem r_X8_told_7 {L : Nat} (h : AH) (x : Int32) (n : Nat) (hn : h 3 3 = nI n) (h7 : n ≤ 7) (c0 : Nat) (hc : h 3 2 = nI c0) (h5 : c0 ≤ 5) (hs : ∀ i, i < c0 → ¬ h 4 i < 1) (hmn : ∀ i, i < c0 → ¬ h 5 i + (h 5 i) * (loadS (h 17) (fun z_ => (h 17) (7 + z_)) (h 8) (nI i) n) / (h 4 i) ≤ -1) (hx : x = nI 7) : Rt L 4 88 [.ref 1, .int x] h (some (setS (fun y_ => decide (¬ loadS (h 17) (fun z_ => (h 17) (7 + z_)) (h 8) (nI y_) n ≤ (h 4) y_)) c0)) h := by
  refine T_run 1 (st' := (1, [.ref 1, .int x], [.int x], S0 L, h)) rfl ?_
  refine T_tswI (lo := 0) (i := 7) (t := 125) rfl hx rfl (by decide) ?_
  refine T_run 2 (st' := (129, [.ref 1, .int x], [.ref 16], S0 L, h)) rfl ?_
  refine T_callR (S' := [.int (setS (fun y_ => decide (¬ loadS (h 17) (fun z_ => (h 17) (7 + z_)) (h 8) (nI y_) n ≤ (h 4) y_)) c0)]) (h' := h) (r_X0_lamedSet (L := L) h  n hn h7 c0 hc h5) (by decide) rfl rfl rfl rfl rfl rfl rfl ?_
  exact T_retR rfl rfl rfl rfl
theorem r_X8_told_8 {L : Nat} (h : AH) (x : Int32) (n : Nat) (hn : h 3 3 = nI n) (h7 : n ≤ 7) (c0 : Nat) (hc : h 3 2 = nI c0) (h5 : c0 ≤ 5) (hs : ∀ i, i < c0 → ¬ h 4 i < 1) (hmn : ∀ i, i < c0 → ¬ h 5 i + (h 5 i) * (loadS (h 17) (fun z_ => (h 17) (7 + z_)) (h 8) (nI i) n) / (h 4 i) ≤ -1) (hx : x = nI 8) : Rt L 4 88 [.ref 1, .int x] h (some (sumS (fun x_ => (h 17) (14 + x_)) c0)) h := by
  refine T_run 1 (st' := (1, [.ref 1, .int x], [.int x], S0 L, h)) rfl ?_
  refine T_tswI (lo := 0) (i := 8) (t := 133) rfl hx rfl (by decide) ?_
  refine T_run 2 (st' := (137, [.ref 1, .int x], [.ref 16], S0 L, h)) rfl ?_
  refine T_callR (S' := [.int (sumS (fun x_ => (h 17) (14 + x_)) c0)]) (h' := h) (r_X0_lamedDaysOfAll (L := L) h  c0 hc h5) (by decide) rfl rfl rfl rfl rfl rfl rfl ?_
  exact T_retR rfl rfl rfl rfl
theorem r_X8_told_9 {L : Nat} (h : AH) (x : Int32) (n : Nat) (hn : h 3 3 = nI n) (h7 : n ≤ 7) (c0 : Nat) (hc : h 3 2 = nI c0) (h5 : c0 ≤ 5) (hs : ∀ i, i < c0 → ¬ h 4 i < 1) (hmn : ∀ i, i < c0 → ¬ h 5 i + (h 5 i) * (loadS (h 17) (fun z_ => (h 17) (7 + z_)) (h 8) (nI i) n) / (h 4 i) ≤ -1) (hx : x = nI 9) : Rt L 4 88 [.ref 1, .int x] h (some (setS (fun y_ => decide (¬ loadS (h 17) (fun z_ => (h 17) (7 + z_)) (h 8) (nI y_) n - (ownS (h 17) (fun z_ => (h 17) (7 + z_)) (h 7) (h 8) (nI y_) n) ≤ ownS (h 17) (fun z_ => (h 17) (7 + z_)) (h 7) (h 8) (nI y_) n)) c0)) h := by
  refine T_run 1 (st' := (1, [.ref 1, .int x], [.int x], S0 L, h)) rfl ?_
  refine T_tswI (lo := 0) (i := 9) (t := 141) rfl hx rfl (by decide) ?_
  refine T_run 2 (st' := (145, [.ref 1, .int x], [.ref 16], S0 L, h)) rfl ?_
  refine T_callR (S' := [.int (setS (fun y_ => decide (¬ loadS (h 17) (fun z_ => (h 17) (7 + z_)) (h 8) (nI y_) n - (ownS (h 17) (fun z_ => (h 17) (7 + z_)) (h 7) (h 8) (nI y_) n) ≤ ownS (h 17) (fun z_ => (h 17) (7 + z_)) (h 7) (h 8) (nI y_) n)) c0)]) (h' := h) (r_X0_madeSet (L := L) h  n hn h7 c0 hc h5) (by decide) rfl rfl rfl rfl rfl rfl rfl ?_
  exact T_retR rfl rfl rfl rfl
theorem r_X8_told_10 {L : Nat} (h : AH) (x : Int32) (n : Nat) (hn : h 3 3 = nI n) (h7 : n ≤ 7) (c0 : Nat) (hc : h 3 2 = nI c0) (h5 : c0 ≤ 5) (hs : ∀ i, i < c0 → ¬ h 4 i < 1) (hmn : ∀ i, i < c0 → ¬ h 5 i + (h 5 i) * (loadS (h 17) (fun z_ => (h 17) (7 + z_)) (h 8) (nI i) n) / (h 4 i) ≤ -1) (hx : x = nI 10) : Rt L 4 88 [.ref 1, .int x] h (some (lastS (fun x_ => h 5 x_ + (h 5 x_) * (loadS (h 17) (fun z_ => (h 17) (7 + z_)) (h 8) (nI x_) n) / (h 4 x_)) c0)) h := by
  refine T_run 1 (st' := (1, [.ref 1, .int x], [.int x], S0 L, h)) rfl ?_
  refine T_tswI (lo := 0) (i := 10) (t := 149) rfl hx rfl (by decide) ?_
  refine T_run 2 (st' := (153, [.ref 1, .int x], [.ref 16], S0 L, h)) rfl ?_
  refine T_callR (S' := [.int (lastS (fun x_ => h 5 x_ + (h 5 x_) * (loadS (h 17) (fun z_ => (h 17) (7 + z_)) (h 8) (nI x_) n) / (h 4 x_)) c0)]) (h' := h) (r_X0_lastHome (L := L) h  n hn h7 c0 hc h5 hs hmn) (by decide) rfl rfl rfl rfl rfl rfl rfl ?_
  exact T_retR rfl rfl rfl rfl
theorem r_X8_told_11 {L : Nat} (h : AH) (x : Int32)  (hx : x = nI 11) : Rt L 4 88 [.ref 1, .int x] h (some (h 33 5)) h := by
  refine T_run 1 (st' := (1, [.ref 1, .int x], [.int x], S0 L, h)) rfl ?_
  refine T_tswI (lo := 0) (i := 11) (t := 157) rfl hx rfl (by decide) ?_
  refine T_run 3 (st' := (164, [.ref 1, .int x], [.int (h 33 5)], S0 L, h)) rfl ?_
  exact T_retR rfl rfl rfl rfl
theorem r_X8_told_12 {L : Nat} (h : AH) (x : Int32)  (hx : x = nI 12) : Rt L 4 88 [.ref 1, .int x] h (some (h 33 6)) h := by
  refine T_run 1 (st' := (1, [.ref 1, .int x], [.int x], S0 L, h)) rfl ?_
  refine T_tswI (lo := 0) (i := 12) (t := 165) rfl hx rfl (by decide) ?_
  refine T_run 3 (st' := (172, [.ref 1, .int x], [.int (h 33 6)], S0 L, h)) rfl ?_
  exact T_retR rfl rfl rfl rfl
theorem r_X8_told_13 {L : Nat} (h : AH) (x : Int32)  (hx : x = nI 13) : Rt L 4 88 [.ref 1, .int x] h (some (h 18 2)) h := by
  refine T_run 1 (st' := (1, [.ref 1, .int x], [.int x], S0 L, h)) rfl ?_
  refine T_tswI (lo := 0) (i := 13) (t := 173) rfl hx rfl (by decide) ?_
  refine T_run 3 (st' := (180, [.ref 1, .int x], [.int (h 18 2)], S0 L, h)) rfl ?_
  exact T_retR rfl rfl rfl rfl
theorem r_X8_told_out {L : Nat} (h : AH) (x : Int32) (hx : ∀ i, i < 14 → ¬ x = nI (0 + i)) : Rt L 4 88 [.ref 1, .int x] h (some (-1000000002)) h := by
  refine T_run 1 (st' := (1, [.ref 1, .int x], [.int x], S0 L, h)) rfl ?_
  refine T_tswD (lo := 0) (ts := [72, 80, 88, 96, 101, 109, 117, 125, 133, 141, 149, 157, 165, 173]) (dd := 181) rfl hx (by decide) ?_
  refine T_run 1 (st' := (183, [.ref 1, .int x], [.int (-1000000002)], S0 L, h)) rfl ?_
  exact T_retR rfl rfl rfl rfl
theorem r_X8_child_unk {L : Nat} (h : AH) (x : Int32) (y : Int32) (c0 : Nat) (hc : h 3 2 = nI c0) (h5 : c0 ≤ 5) (hx : ¬ inS x c0) : Rt L 3 89 [.ref 1, .int x, .int y] h (some (-1000000001)) h := by
  refine T_run 3 (st' := (5, [.ref 1, .int x, .int y], [.int x, .ref 3], S0 L, h)) rfl ?_
  refine T_callR (S' := [.int (b2i (inS x c0))]) (h' := h) (r_X5_hasChild (L := L) h x c0 hc h5) (by decide) rfl rfl rfl rfl rfl rfl rfl ?_
  refine T_iff (c := ¬ (b2i (inS x c0)) = 0) (t := 14) (f := 11) (L := [.ref 1, .int x, .int y]) (S := []) (G := S0 L) (h := h) rfl (bnz_f hx) ?_
  refine T_run 1 (st' := (13, [.ref 1, .int x, .int y], [.int (-1000000001)], S0 L, h)) rfl ?_
  exact T_retR rfl rfl rfl rfl
theorem r_X8_child_0 {L : Nat} (h : AH) (c : Nat) (y : Int32) (n : Nat) (hn : h 3 3 = nI n) (h7 : n ≤ 7) (c0 : Nat) (hc : h 3 2 = nI c0) (h5 : c0 ≤ 5) (hs : ∀ i, i < c0 → ¬ h 4 i < 1) (hmn : ∀ i, i < c0 → ¬ h 5 i + (h 5 i) * (loadS (h 17) (fun z_ => (h 17) (7 + z_)) (h 8) (nI i) n) / (h 4 i) ≤ -1) (hcc : c < c0) (hy : y = nI 0) : Rt L 3 89 [.ref 1, .int (nI c), .int y] h (some (h 4 c)) h := by
  refine T_run 3 (st' := (5, [.ref 1, .int (nI c), .int y], [.int (nI c), .ref 3], S0 L, h)) rfl ?_
  refine T_callR (S' := [.int (b2i (inS (nI c) c0))]) (h' := h) (r_X5_hasChild (L := L) h (nI c) c0 hc h5) (by decide) rfl rfl rfl rfl rfl rfl rfl ?_
  refine T_ift (c := ¬ (b2i (inS (nI c) c0)) = 0) (t := 14) (f := 11) (L := [.ref 1, .int (nI c), .int y]) (S := []) (G := S0 L) (h := h) rfl (bz_t (inS_nat hcc (by omega))) ?_
  refine T_run 1 (st' := (15, [.ref 1, .int (nI c), .int y], [.int y], S0 L, h)) rfl ?_
  refine T_tswI (lo := 0) (i := 0) (t := 60) rfl hy rfl (by decide) ?_
  refine T_run 4 (st' := (68, [.ref 1, .int (nI c), .int y], [.int (nI c), .ref 4], S0 L, h)) rfl ?_
  refine T_ald (n := c) rfl rfl rfl (by omega) (by decide) rfl ?_
  exact T_retR rfl rfl rfl rfl
theorem r_X8_child_1 {L : Nat} (h : AH) (c : Nat) (y : Int32) (n : Nat) (hn : h 3 3 = nI n) (h7 : n ≤ 7) (c0 : Nat) (hc : h 3 2 = nI c0) (h5 : c0 ≤ 5) (hs : ∀ i, i < c0 → ¬ h 4 i < 1) (hmn : ∀ i, i < c0 → ¬ h 5 i + (h 5 i) * (loadS (h 17) (fun z_ => (h 17) (7 + z_)) (h 8) (nI i) n) / (h 4 i) ≤ -1) (hcc : c < c0) (hy : y = nI 1) : Rt L 3 89 [.ref 1, .int (nI c), .int y] h (some (h 5 c)) h := by
  refine T_run 3 (st' := (5, [.ref 1, .int (nI c), .int y], [.int (nI c), .ref 3], S0 L, h)) rfl ?_
  refine T_callR (S' := [.int (b2i (inS (nI c) c0))]) (h' := h) (r_X5_hasChild (L := L) h (nI c) c0 hc h5) (by decide) rfl rfl rfl rfl rfl rfl rfl ?_
  refine T_ift (c := ¬ (b2i (inS (nI c) c0)) = 0) (t := 14) (f := 11) (L := [.ref 1, .int (nI c), .int y]) (S := []) (G := S0 L) (h := h) rfl (bz_t (inS_nat hcc (by omega))) ?_
  refine T_run 1 (st' := (15, [.ref 1, .int (nI c), .int y], [.int y], S0 L, h)) rfl ?_
  refine T_tswI (lo := 0) (i := 1) (t := 70) rfl hy rfl (by decide) ?_
  refine T_run 4 (st' := (78, [.ref 1, .int (nI c), .int y], [.int (nI c), .ref 5], S0 L, h)) rfl ?_
  refine T_ald (n := c) rfl rfl rfl (by omega) (by decide) rfl ?_
  exact T_retR rfl rfl rfl rfl
theorem r_X8_child_2 {L : Nat} (h : AH) (c : Nat) (y : Int32) (n : Nat) (hn : h 3 3 = nI n) (h7 : n ≤ 7) (c0 : Nat) (hc : h 3 2 = nI c0) (h5 : c0 ≤ 5) (hs : ∀ i, i < c0 → ¬ h 4 i < 1) (hmn : ∀ i, i < c0 → ¬ h 5 i + (h 5 i) * (loadS (h 17) (fun z_ => (h 17) (7 + z_)) (h 8) (nI i) n) / (h 4 i) ≤ -1) (hcc : c < c0) (hy : y = nI 2) : Rt L 3 89 [.ref 1, .int (nI c), .int y] h (some (loadS (h 17) (fun z_ => (h 17) (7 + z_)) (h 8) (nI c) n)) h := by
  refine T_run 3 (st' := (5, [.ref 1, .int (nI c), .int y], [.int (nI c), .ref 3], S0 L, h)) rfl ?_
  refine T_callR (S' := [.int (b2i (inS (nI c) c0))]) (h' := h) (r_X5_hasChild (L := L) h (nI c) c0 hc h5) (by decide) rfl rfl rfl rfl rfl rfl rfl ?_
  refine T_ift (c := ¬ (b2i (inS (nI c) c0)) = 0) (t := 14) (f := 11) (L := [.ref 1, .int (nI c), .int y]) (S := []) (G := S0 L) (h := h) rfl (bz_t (inS_nat hcc (by omega))) ?_
  refine T_run 1 (st' := (15, [.ref 1, .int (nI c), .int y], [.int y], S0 L, h)) rfl ?_
  refine T_tswI (lo := 0) (i := 2) (t := 80) rfl hy rfl (by decide) ?_
  refine T_run 3 (st' := (85, [.ref 1, .int (nI c), .int y], [.int (nI c), .ref 16], S0 L, h)) rfl ?_
  refine T_callR (S' := [.int (loadS (h 17) (fun z_ => (h 17) (7 + z_)) (h 8) (nI c) n)]) (h' := h) (r_X0_loadOf (L := L) h (nI c) n hn h7) (by decide) rfl rfl rfl rfl rfl rfl rfl ?_
  exact T_retR rfl rfl rfl rfl
theorem r_X8_child_3 {L : Nat} (h : AH) (c : Nat) (y : Int32) (n : Nat) (hn : h 3 3 = nI n) (h7 : n ≤ 7) (c0 : Nat) (hc : h 3 2 = nI c0) (h5 : c0 ≤ 5) (hs : ∀ i, i < c0 → ¬ h 4 i < 1) (hmn : ∀ i, i < c0 → ¬ h 5 i + (h 5 i) * (loadS (h 17) (fun z_ => (h 17) (7 + z_)) (h 8) (nI i) n) / (h 4 i) ≤ -1) (hcc : c < c0) (hy : y = nI 3) : Rt L 3 89 [.ref 1, .int (nI c), .int y] h (some (h 5 c + (h 5 c) * (loadS (h 17) (fun z_ => (h 17) (7 + z_)) (h 8) (nI c) n) / (h 4 c))) h := by
  refine T_run 3 (st' := (5, [.ref 1, .int (nI c), .int y], [.int (nI c), .ref 3], S0 L, h)) rfl ?_
  refine T_callR (S' := [.int (b2i (inS (nI c) c0))]) (h' := h) (r_X5_hasChild (L := L) h (nI c) c0 hc h5) (by decide) rfl rfl rfl rfl rfl rfl rfl ?_
  refine T_ift (c := ¬ (b2i (inS (nI c) c0)) = 0) (t := 14) (f := 11) (L := [.ref 1, .int (nI c), .int y]) (S := []) (G := S0 L) (h := h) rfl (bz_t (inS_nat hcc (by omega))) ?_
  refine T_run 1 (st' := (15, [.ref 1, .int (nI c), .int y], [.int y], S0 L, h)) rfl ?_
  refine T_tswI (lo := 0) (i := 3) (t := 89) rfl hy rfl (by decide) ?_
  refine T_run 3 (st' := (94, [.ref 1, .int (nI c), .int y], [.int (nI c), .ref 16], S0 L, h)) rfl ?_
  refine T_callR (S' := [.int (h 5 c + (h 5 c) * (loadS (h 17) (fun z_ => (h 17) (7 + z_)) (h 8) (nI c) n) / (h 4 c))]) (h' := h) (r_X0_minutesHome (L := L) h c n hn h7 (by omega) (hs _ (by omega))) (by decide) rfl rfl rfl rfl rfl rfl rfl ?_
  exact T_retR rfl rfl rfl rfl
theorem r_X8_child_4 {L : Nat} (h : AH) (c : Nat) (y : Int32) (n : Nat) (hn : h 3 3 = nI n) (h7 : n ≤ 7) (c0 : Nat) (hc : h 3 2 = nI c0) (h5 : c0 ≤ 5) (hs : ∀ i, i < c0 → ¬ h 4 i < 1) (hmn : ∀ i, i < c0 → ¬ h 5 i + (h 5 i) * (loadS (h 17) (fun z_ => (h 17) (7 + z_)) (h 8) (nI i) n) / (h 4 i) ≤ -1) (hcc : c < c0) (hy : y = nI 4) : Rt L 3 89 [.ref 1, .int (nI c), .int y] h (some (setS (fun z_ => decide ((h 17) z_ = 1 ∧ (h 17) (7 + z_) = (nI c))) n)) h := by
  refine T_run 3 (st' := (5, [.ref 1, .int (nI c), .int y], [.int (nI c), .ref 3], S0 L, h)) rfl ?_
  refine T_callR (S' := [.int (b2i (inS (nI c) c0))]) (h' := h) (r_X5_hasChild (L := L) h (nI c) c0 hc h5) (by decide) rfl rfl rfl rfl rfl rfl rfl ?_
  refine T_ift (c := ¬ (b2i (inS (nI c) c0)) = 0) (t := 14) (f := 11) (L := [.ref 1, .int (nI c), .int y]) (S := []) (G := S0 L) (h := h) rfl (bz_t (inS_nat hcc (by omega))) ?_
  refine T_run 1 (st' := (15, [.ref 1, .int (nI c), .int y], [.int y], S0 L, h)) rfl ?_
  refine T_tswI (lo := 0) (i := 4) (t := 98) rfl hy rfl (by decide) ?_
  refine T_run 4 (st' := (104, [.ref 1, .int (nI c), .int y], [.int (nI c), .int 1, .ref 16], S0 L, h)) rfl ?_
  refine T_callR (S' := [.int (setS (fun z_ => decide ((h 17) z_ = 1 ∧ (h 17) (7 + z_) = (nI c))) n)]) (h' := h) (r_X0_deedSet (L := L) h 1 (nI c) n hn h7) (by decide) rfl rfl rfl rfl rfl rfl rfl ?_
  exact T_retR rfl rfl rfl rfl
theorem r_X8_child_5 {L : Nat} (h : AH) (c : Nat) (y : Int32) (n : Nat) (hn : h 3 3 = nI n) (h7 : n ≤ 7) (c0 : Nat) (hc : h 3 2 = nI c0) (h5 : c0 ≤ 5) (hs : ∀ i, i < c0 → ¬ h 4 i < 1) (hmn : ∀ i, i < c0 → ¬ h 5 i + (h 5 i) * (loadS (h 17) (fun z_ => (h 17) (7 + z_)) (h 8) (nI i) n) / (h 4 i) ≤ -1) (hcc : c < c0) (hy : y = nI 5) : Rt L 3 89 [.ref 1, .int (nI c), .int y] h (some (setS (fun z_ => decide ((h 17) z_ = 3 ∧ (h 17) (7 + z_) = (nI c))) n)) h := by
  refine T_run 3 (st' := (5, [.ref 1, .int (nI c), .int y], [.int (nI c), .ref 3], S0 L, h)) rfl ?_
  refine T_callR (S' := [.int (b2i (inS (nI c) c0))]) (h' := h) (r_X5_hasChild (L := L) h (nI c) c0 hc h5) (by decide) rfl rfl rfl rfl rfl rfl rfl ?_
  refine T_ift (c := ¬ (b2i (inS (nI c) c0)) = 0) (t := 14) (f := 11) (L := [.ref 1, .int (nI c), .int y]) (S := []) (G := S0 L) (h := h) rfl (bz_t (inS_nat hcc (by omega))) ?_
  refine T_run 1 (st' := (15, [.ref 1, .int (nI c), .int y], [.int y], S0 L, h)) rfl ?_
  refine T_tswI (lo := 0) (i := 5) (t := 108) rfl hy rfl (by decide) ?_
  refine T_run 4 (st' := (114, [.ref 1, .int (nI c), .int y], [.int (nI c), .int 3, .ref 16], S0 L, h)) rfl ?_
  refine T_callR (S' := [.int (setS (fun z_ => decide ((h 17) z_ = 3 ∧ (h 17) (7 + z_) = (nI c))) n)]) (h' := h) (r_X0_deedSet (L := L) h 3 (nI c) n hn h7) (by decide) rfl rfl rfl rfl rfl rfl rfl ?_
  exact T_retR rfl rfl rfl rfl
theorem r_X8_child_6 {L : Nat} (h : AH) (c : Nat) (y : Int32) (n : Nat) (hn : h 3 3 = nI n) (h7 : n ≤ 7) (c0 : Nat) (hc : h 3 2 = nI c0) (h5 : c0 ≤ 5) (hs : ∀ i, i < c0 → ¬ h 4 i < 1) (hmn : ∀ i, i < c0 → ¬ h 5 i + (h 5 i) * (loadS (h 17) (fun z_ => (h 17) (7 + z_)) (h 8) (nI i) n) / (h 4 i) ≤ -1) (hcc : c < c0) (hy : y = nI 6) : Rt L 3 89 [.ref 1, .int (nI c), .int y] h (some (h 17 (14 + c))) h := by
  refine T_run 3 (st' := (5, [.ref 1, .int (nI c), .int y], [.int (nI c), .ref 3], S0 L, h)) rfl ?_
  refine T_callR (S' := [.int (b2i (inS (nI c) c0))]) (h' := h) (r_X5_hasChild (L := L) h (nI c) c0 hc h5) (by decide) rfl rfl rfl rfl rfl rfl rfl ?_
  refine T_ift (c := ¬ (b2i (inS (nI c) c0)) = 0) (t := 14) (f := 11) (L := [.ref 1, .int (nI c), .int y]) (S := []) (G := S0 L) (h := h) rfl (bz_t (inS_nat hcc (by omega))) ?_
  refine T_run 1 (st' := (15, [.ref 1, .int (nI c), .int y], [.int y], S0 L, h)) rfl ?_
  refine T_tswI (lo := 0) (i := 6) (t := 118) rfl hy rfl (by decide) ?_
  refine T_run 3 (st' := (123, [.ref 1, .int (nI c), .int y], [.int (nI c), .ref 16], S0 L, h)) rfl ?_
  refine T_callR (S' := [.int (h 17 (14 + c))]) (h' := h) (r_X0_lamedDays (L := L) h c (by omega)) (by decide) rfl rfl rfl rfl rfl rfl rfl ?_
  exact T_retR rfl rfl rfl rfl
theorem r_X8_child_7 {L : Nat} (h : AH) (c : Nat) (y : Int32) (n : Nat) (hn : h 3 3 = nI n) (h7 : n ≤ 7) (c0 : Nat) (hc : h 3 2 = nI c0) (h5 : c0 ≤ 5) (hs : ∀ i, i < c0 → ¬ h 4 i < 1) (hmn : ∀ i, i < c0 → ¬ h 5 i + (h 5 i) * (loadS (h 17) (fun z_ => (h 17) (7 + z_)) (h 8) (nI i) n) / (h 4 i) ≤ -1) (hcc : c < c0) (hy : y = nI 7) : Rt L 3 89 [.ref 1, .int (nI c), .int y] h (some (h 6 c)) h := by
  refine T_run 3 (st' := (5, [.ref 1, .int (nI c), .int y], [.int (nI c), .ref 3], S0 L, h)) rfl ?_
  refine T_callR (S' := [.int (b2i (inS (nI c) c0))]) (h' := h) (r_X5_hasChild (L := L) h (nI c) c0 hc h5) (by decide) rfl rfl rfl rfl rfl rfl rfl ?_
  refine T_ift (c := ¬ (b2i (inS (nI c) c0)) = 0) (t := 14) (f := 11) (L := [.ref 1, .int (nI c), .int y]) (S := []) (G := S0 L) (h := h) rfl (bz_t (inS_nat hcc (by omega))) ?_
  refine T_run 1 (st' := (15, [.ref 1, .int (nI c), .int y], [.int y], S0 L, h)) rfl ?_
  refine T_tswI (lo := 0) (i := 7) (t := 127) rfl hy rfl (by decide) ?_
  refine T_run 4 (st' := (135, [.ref 1, .int (nI c), .int y], [.int (nI c), .ref 6], S0 L, h)) rfl ?_
  refine T_ald (n := c) rfl rfl rfl (by omega) (by decide) rfl ?_
  exact T_retR rfl rfl rfl rfl
theorem r_X8_child_out {L : Nat} (h : AH) (c : Nat) (y : Int32) (c0 : Nat) (hc : h 3 2 = nI c0) (h5 : c0 ≤ 5) (hcc : c < c0) (hy : ∀ i, i < 8 → ¬ y = nI (0 + i)) : Rt L 3 89 [.ref 1, .int (nI c), .int y] h (some (-1000000002)) h := by
  refine T_run 3 (st' := (5, [.ref 1, .int (nI c), .int y], [.int (nI c), .ref 3], S0 L, h)) rfl ?_
  refine T_callR (S' := [.int (b2i (inS (nI c) c0))]) (h' := h) (r_X5_hasChild (L := L) h (nI c) c0 hc h5) (by decide) rfl rfl rfl rfl rfl rfl rfl ?_
  refine T_ift (c := ¬ (b2i (inS (nI c) c0)) = 0) (t := 14) (f := 11) (L := [.ref 1, .int (nI c), .int y]) (S := []) (G := S0 L) (h := h) rfl (bz_t (inS_nat hcc (by omega))) ?_
  refine T_run 1 (st' := (15, [.ref 1, .int (nI c), .int y], [.int y], S0 L, h)) rfl ?_
  refine T_tswD (lo := 0) (ts := [60, 70, 80, 89, 98, 108, 118, 127]) (dd := 137) rfl hy (by decide) ?_
  refine T_run 1 (st' := (139, [.ref 1, .int (nI c), .int y], [.int (-1000000002)], S0 L, h)) rfl ?_
  exact T_retR rfl rfl rfl rfl
theorem r_X8_deed_unk {L : Nat} (h : AH) (x : Int32) (y : Int32) (n : Nat) (hn : h 3 3 = nI n) (h7 : n ≤ 7) (hx : ¬ inS x n) : Rt L 1 90 [.ref 1, .int x, .int y] h (some (-1000000001)) h := by
  refine T_run 3 (st' := (5, [.ref 1, .int x, .int y], [.int x, .ref 3], S0 L, h)) rfl ?_
  refine T_callR (S' := [.int (b2i (inS x n))]) (h' := h) (r_X5_hasDeed (L := L) h x n hn h7) (by decide) rfl rfl rfl rfl rfl rfl rfl ?_
  refine T_iff (c := ¬ (b2i (inS x n)) = 0) (t := 14) (f := 11) (L := [.ref 1, .int x, .int y]) (S := []) (G := S0 L) (h := h) rfl (bnz_f hx) ?_
  refine T_run 1 (st' := (13, [.ref 1, .int x, .int y], [.int (-1000000001)], S0 L, h)) rfl ?_
  exact T_retR rfl rfl rfl rfl
theorem r_X8_deed_0 {L : Nat} (h : AH) (d : Nat) (y : Int32) (n : Nat) (hn : h 3 3 = nI n) (h7 : n ≤ 7) (hd : d < n) (hy : y = nI 0) : Rt L 1 90 [.ref 1, .int (nI d), .int y] h (some (h 7 d)) h := by
  refine T_run 3 (st' := (5, [.ref 1, .int (nI d), .int y], [.int (nI d), .ref 3], S0 L, h)) rfl ?_
  refine T_callR (S' := [.int (b2i (inS (nI d) n))]) (h' := h) (r_X5_hasDeed (L := L) h (nI d) n hn h7) (by decide) rfl rfl rfl rfl rfl rfl rfl ?_
  refine T_ift (c := ¬ (b2i (inS (nI d) n)) = 0) (t := 14) (f := 11) (L := [.ref 1, .int (nI d), .int y]) (S := []) (G := S0 L) (h := h) rfl (bz_t (inS_nat hd (by omega))) ?_
  refine T_run 1 (st' := (15, [.ref 1, .int (nI d), .int y], [.int y], S0 L, h)) rfl ?_
  refine T_tswI (lo := 0) (i := 0) (t := 44) rfl hy rfl (by decide) ?_
  refine T_run 4 (st' := (52, [.ref 1, .int (nI d), .int y], [.int (nI d), .ref 7], S0 L, h)) rfl ?_
  refine T_ald (n := d) rfl rfl rfl (by omega) (by decide) rfl ?_
  exact T_retR rfl rfl rfl rfl
theorem r_X8_deed_1 {L : Nat} (h : AH) (d : Nat) (y : Int32) (n : Nat) (hn : h 3 3 = nI n) (h7 : n ≤ 7) (hd : d < n) (hy : y = nI 1) : Rt L 1 90 [.ref 1, .int (nI d), .int y] h (some (h 8 d)) h := by
  refine T_run 3 (st' := (5, [.ref 1, .int (nI d), .int y], [.int (nI d), .ref 3], S0 L, h)) rfl ?_
  refine T_callR (S' := [.int (b2i (inS (nI d) n))]) (h' := h) (r_X5_hasDeed (L := L) h (nI d) n hn h7) (by decide) rfl rfl rfl rfl rfl rfl rfl ?_
  refine T_ift (c := ¬ (b2i (inS (nI d) n)) = 0) (t := 14) (f := 11) (L := [.ref 1, .int (nI d), .int y]) (S := []) (G := S0 L) (h := h) rfl (bz_t (inS_nat hd (by omega))) ?_
  refine T_run 1 (st' := (15, [.ref 1, .int (nI d), .int y], [.int y], S0 L, h)) rfl ?_
  refine T_tswI (lo := 0) (i := 1) (t := 54) rfl hy rfl (by decide) ?_
  refine T_run 4 (st' := (62, [.ref 1, .int (nI d), .int y], [.int (nI d), .ref 8], S0 L, h)) rfl ?_
  refine T_ald (n := d) rfl rfl rfl (by omega) (by decide) rfl ?_
  exact T_retR rfl rfl rfl rfl
theorem r_X8_deed_2 {L : Nat} (h : AH) (d : Nat) (y : Int32) (n : Nat) (hn : h 3 3 = nI n) (h7 : n ≤ 7) (hd : d < n) (hy : y = nI 2) : Rt L 1 90 [.ref 1, .int (nI d), .int y] h (some (h 17 d)) h := by
  refine T_run 3 (st' := (5, [.ref 1, .int (nI d), .int y], [.int (nI d), .ref 3], S0 L, h)) rfl ?_
  refine T_callR (S' := [.int (b2i (inS (nI d) n))]) (h' := h) (r_X5_hasDeed (L := L) h (nI d) n hn h7) (by decide) rfl rfl rfl rfl rfl rfl rfl ?_
  refine T_ift (c := ¬ (b2i (inS (nI d) n)) = 0) (t := 14) (f := 11) (L := [.ref 1, .int (nI d), .int y]) (S := []) (G := S0 L) (h := h) rfl (bz_t (inS_nat hd (by omega))) ?_
  refine T_run 1 (st' := (15, [.ref 1, .int (nI d), .int y], [.int y], S0 L, h)) rfl ?_
  refine T_tswI (lo := 0) (i := 2) (t := 64) rfl hy rfl (by decide) ?_
  refine T_run 3 (st' := (69, [.ref 1, .int (nI d), .int y], [.int (nI d), .ref 16], S0 L, h)) rfl ?_
  refine T_callR (S' := [.int (h 17 d)]) (h' := h) (r_X0_stageOf (L := L) h d (by omega)) (by decide) rfl rfl rfl rfl rfl rfl rfl ?_
  exact T_retR rfl rfl rfl rfl
theorem r_X8_deed_3 {L : Nat} (h : AH) (d : Nat) (y : Int32) (n : Nat) (hn : h 3 3 = nI n) (h7 : n ≤ 7) (hd : d < n) (hy : y = nI 3) : Rt L 1 90 [.ref 1, .int (nI d), .int y] h (some (h 17 (7 + d))) h := by
  refine T_run 3 (st' := (5, [.ref 1, .int (nI d), .int y], [.int (nI d), .ref 3], S0 L, h)) rfl ?_
  refine T_callR (S' := [.int (b2i (inS (nI d) n))]) (h' := h) (r_X5_hasDeed (L := L) h (nI d) n hn h7) (by decide) rfl rfl rfl rfl rfl rfl rfl ?_
  refine T_ift (c := ¬ (b2i (inS (nI d) n)) = 0) (t := 14) (f := 11) (L := [.ref 1, .int (nI d), .int y]) (S := []) (G := S0 L) (h := h) rfl (bz_t (inS_nat hd (by omega))) ?_
  refine T_run 1 (st' := (15, [.ref 1, .int (nI d), .int y], [.int y], S0 L, h)) rfl ?_
  refine T_tswI (lo := 0) (i := 3) (t := 73) rfl hy rfl (by decide) ?_
  refine T_run 3 (st' := (78, [.ref 1, .int (nI d), .int y], [.int (nI d), .ref 16], S0 L, h)) rfl ?_
  refine T_callR (S' := [.int (h 17 (7 + d))]) (h' := h) (r_X0_placeOf (L := L) h d (by omega)) (by decide) rfl rfl rfl rfl rfl rfl rfl ?_
  exact T_retR rfl rfl rfl rfl
theorem r_X8_deed_out {L : Nat} (h : AH) (d : Nat) (y : Int32) (n : Nat) (hn : h 3 3 = nI n) (h7 : n ≤ 7) (hd : d < n) (hy : ∀ i, i < 4 → ¬ y = nI (0 + i)) : Rt L 1 90 [.ref 1, .int (nI d), .int y] h (some (-1000000002)) h := by
  refine T_run 3 (st' := (5, [.ref 1, .int (nI d), .int y], [.int (nI d), .ref 3], S0 L, h)) rfl ?_
  refine T_callR (S' := [.int (b2i (inS (nI d) n))]) (h' := h) (r_X5_hasDeed (L := L) h (nI d) n hn h7) (by decide) rfl rfl rfl rfl rfl rfl rfl ?_
  refine T_ift (c := ¬ (b2i (inS (nI d) n)) = 0) (t := 14) (f := 11) (L := [.ref 1, .int (nI d), .int y]) (S := []) (G := S0 L) (h := h) rfl (bz_t (inS_nat hd (by omega))) ?_
  refine T_run 1 (st' := (15, [.ref 1, .int (nI d), .int y], [.int y], S0 L, h)) rfl ?_
  refine T_tswD (lo := 0) (ts := [44, 54, 64, 73]) (dd := 82) rfl hy (by decide) ?_
  refine T_run 1 (st' := (84, [.ref 1, .int (nI d), .int y], [.int (-1000000002)], S0 L, h)) rfl ?_
  exact T_retR rfl rfl rfl rfl
theorem r_X8_doIt_unk {L : Nat} (h : AH) (x : Int32) (n : Nat) (hn : h 3 3 = nI n) (h7 : n ≤ 7) (hx : ¬ inS x n) : Rt L 2 91 [.ref 1, .int x] h (some (-1000000001)) h := by
  refine T_run 3 (st' := (5, [.ref 1, .int x], [.int x, .ref 3], S0 L, h)) rfl ?_
  refine T_callR (S' := [.int (b2i (inS x n))]) (h' := h) (r_X5_hasDeed (L := L) h x n hn h7) (by decide) rfl rfl rfl rfl rfl rfl rfl ?_
  refine T_iff (c := ¬ (b2i (inS x n)) = 0) (t := 14) (f := 11) (L := [.ref 1, .int x]) (S := []) (G := S0 L) (h := h) rfl (bnz_f hx) ?_
  refine T_run 1 (st' := (13, [.ref 1, .int x], [.int (-1000000001)], S0 L, h)) rfl ?_
  exact T_retR rfl rfl rfl rfl
theorem r_X8_doIt_not {L : Nat} (h : AH) (d : Nat) (n : Nat) (hn : h 3 3 = nI n) (h7 : n ≤ 7) (hd : d < n) (hq : ¬ h 17 d = 0) : Rt L 2 91 [.ref 1, .int (nI d)] h (some (-1000000003)) h := by
  refine T_run 3 (st' := (5, [.ref 1, .int (nI d)], [.int (nI d), .ref 3], S0 L, h)) rfl ?_
  refine T_callR (S' := [.int (b2i (inS (nI d) n))]) (h' := h) (r_X5_hasDeed (L := L) h (nI d) n hn h7) (by decide) rfl rfl rfl rfl rfl rfl rfl ?_
  refine T_ift (c := ¬ (b2i (inS (nI d) n)) = 0) (t := 14) (f := 11) (L := [.ref 1, .int (nI d)]) (S := []) (G := S0 L) (h := h) rfl (bz_t (inS_nat hd (by omega))) ?_
  refine T_run 3 (st' := (19, [.ref 1, .int (nI d)], [.int (nI d), .ref 16], S0 L, h)) rfl ?_
  refine T_callR (S' := [.int (b2i (h 17 d = 0))]) (h' := h) (r_X0_canBeDone (L := L) h d (by omega)) (by decide) rfl rfl rfl rfl rfl rfl rfl ?_
  refine T_iff (c := ¬ (b2i (h 17 d = 0)) = 0) (t := 28) (f := 25) (L := [.ref 1, .int (nI d)]) (S := []) (G := S0 L) (h := h) rfl (bnz_f hq) ?_
  refine T_run 1 (st' := (27, [.ref 1, .int (nI d)], [.int (-1000000003)], S0 L, h)) rfl ?_
  exact T_retR rfl rfl rfl rfl
theorem r_X8_doIt_ok {L : Nat} (h : AH) (d : Nat) (n : Nat) (hn : h 3 3 = nI n) (h7 : n ≤ 7) (p : Nat) (hp : h 18 1 = nI p) (hp20 : p < 20) (u : Nat) (hu : h 18 2 = nI u) (hu20 : u ≤ 20) (hd : d < n) (hq : h 17 d = 0) : Rt L 2 91 [.ref 1, .int (nI d)] h (some (loadS (layR d 1 (h 7 d) (h 17)) (fun z_ => (layR d 1 (h 7 d) (h 17)) (7 + z_)) (h 8) (h 7 d) n)) (sc_ (st_ (st_ (sc_ h 19 (va_cpy (h 17) (h 19) 0 (p * 22) 22)) 18 1 (nI (nxP p))) 18 2 (nI (remU u))) 17 (layR d 1 (h 7 d) (h 17))) := by
  refine T_run 3 (st' := (5, [.ref 1, .int (nI d)], [.int (nI d), .ref 3], S0 L, h)) rfl ?_
  refine T_callR (S' := [.int (b2i (inS (nI d) n))]) (h' := h) (r_X5_hasDeed (L := L) h (nI d) n hn h7) (by decide) rfl rfl rfl rfl rfl rfl rfl ?_
  refine T_ift (c := ¬ (b2i (inS (nI d) n)) = 0) (t := 14) (f := 11) (L := [.ref 1, .int (nI d)]) (S := []) (G := S0 L) (h := h) rfl (bz_t (inS_nat hd (by omega))) ?_
  refine T_run 3 (st' := (19, [.ref 1, .int (nI d)], [.int (nI d), .ref 16], S0 L, h)) rfl ?_
  refine T_callR (S' := [.int (b2i (h 17 d = 0))]) (h' := h) (r_X0_canBeDone (L := L) h d (by omega)) (by decide) rfl rfl rfl rfl rfl rfl rfl ?_
  refine T_ift (c := ¬ (b2i (h 17 d = 0)) = 0) (t := 28) (f := 25) (L := [.ref 1, .int (nI d)]) (S := []) (G := S0 L) (h := h) rfl (bz_t hq) ?_
  refine T_run 5 (st' := (39, [.ref 1, .int (nI d)], [.ref 17, .ref 18], S0 L, h)) rfl ?_
  refine T_callR (S' := []) (h' := (st_ (st_ (sc_ h 19 (va_cpy (h 17) (h 19) 0 (p * 22) 22)) 18 1 (nI (nxP p))) 18 2 (nI (remU u)))) (r_X3_push (L := L) h  p hp hp20 u hu hu20) (by decide) rfl rfl rfl rfl rfl rfl rfl ?_
  refine T_run 3 (st' := (47, [.ref 1, .int (nI d)], [.int (nI d), .ref 16], S0 L, (st_ (st_ (sc_ h 19 (va_cpy (h 17) (h 19) 0 (p * 22) 22)) 18 1 (nI (nxP p))) 18 2 (nI (remU u))))) rfl ?_
  refine T_callR (S' := []) (h' := (sc_ (st_ (st_ (sc_ h 19 (va_cpy (h 17) (h 19) 0 (p * 22) 22)) 18 1 (nI (nxP p))) 18 2 (nI (remU u))) 17 (layR d 1 (h 7 d) (h 17)))) (r_X0_putInOwnSatchel (L := L) (st_ (st_ (sc_ h 19 (va_cpy (h 17) (h 19) 0 (p * 22) 22)) 18 1 (nI (nxP p))) 18 2 (nI (remU u))) d (by omega)) (by decide) rfl rfl rfl rfl rfl rfl rfl ?_
  refine T_run 6 (st' := (62, [.ref 1, .int (nI d)], [.int (nI d), .ref 7, .ref 16], S0 L, (sc_ (st_ (st_ (sc_ h 19 (va_cpy (h 17) (h 19) 0 (p * 22) 22)) 18 1 (nI (nxP p))) 18 2 (nI (remU u))) 17 (layR d 1 (h 7 d) (h 17))))) rfl ?_
  refine T_ald (n := d) rfl rfl rfl (by omega) (by decide) rfl ?_
  refine T_callR (S' := [.int (loadS (layR d 1 (h 7 d) (h 17)) (fun z_ => (layR d 1 (h 7 d) (h 17)) (7 + z_)) (h 8) (h 7 d) n)]) (h' := (sc_ (st_ (st_ (sc_ h 19 (va_cpy (h 17) (h 19) 0 (p * 22) 22)) 18 1 (nI (nxP p))) 18 2 (nI (remU u))) 17 (layR d 1 (h 7 d) (h 17)))) (r_X0_loadOf (L := L) (sc_ (st_ (st_ (sc_ h 19 (va_cpy (h 17) (h 19) 0 (p * 22) 22)) 18 1 (nI (nxP p))) 18 2 (nI (remU u))) 17 (layR d 1 (h 7 d) (h 17))) (h 7 d) n hn h7) (by decide) rfl rfl rfl rfl rfl rfl rfl ?_
  exact T_retR rfl rfl rfl rfl
theorem r_X8_carry_unk1 {L : Nat} (h : AH) (x : Int32) (y : Int32) (n : Nat) (hn : h 3 3 = nI n) (h7 : n ≤ 7) (hx : ¬ inS x n) : Rt L 2 92 [.ref 1, .int x, .int y] h (some (-1000000001)) h := by
  refine T_run 3 (st' := (5, [.ref 1, .int x, .int y], [.int x, .ref 3], S0 L, h)) rfl ?_
  refine T_callR (S' := [.int (b2i (inS x n))]) (h' := h) (r_X5_hasDeed (L := L) h x n hn h7) (by decide) rfl rfl rfl rfl rfl rfl rfl ?_
  refine T_ift (c := (b2i (inS x n)) = 0) (t := 22) (f := 11) (L := [.ref 1, .int x, .int y]) (S := []) (G := S0 L) (h := h) rfl (bz_f hx) ?_
  refine T_run 1 (st' := (24, [.ref 1, .int x, .int y], [.int (-1000000001)], S0 L, h)) rfl ?_
  exact T_retR rfl rfl rfl rfl
theorem r_X8_carry_unk2 {L : Nat} (h : AH) (x : Int32) (y : Int32) (n : Nat) (hn : h 3 3 = nI n) (h7 : n ≤ 7) (c0 : Nat) (hc : h 3 2 = nI c0) (h5 : c0 ≤ 5) (hx : inS x n) (hy : ¬ inS y c0) : Rt L 2 92 [.ref 1, .int x, .int y] h (some (-1000000001)) h := by
  refine T_run 3 (st' := (5, [.ref 1, .int x, .int y], [.int x, .ref 3], S0 L, h)) rfl ?_
  refine T_callR (S' := [.int (b2i (inS x n))]) (h' := h) (r_X5_hasDeed (L := L) h x n hn h7) (by decide) rfl rfl rfl rfl rfl rfl rfl ?_
  refine T_iff (c := (b2i (inS x n)) = 0) (t := 22) (f := 11) (L := [.ref 1, .int x, .int y]) (S := []) (G := S0 L) (h := h) rfl (bz_t hx) ?_
  refine T_run 3 (st' := (16, [.ref 1, .int x, .int y], [.int y, .ref 3], S0 L, h)) rfl ?_
  refine T_callR (S' := [.int (b2i (inS y c0))]) (h' := h) (r_X5_hasChild (L := L) h y c0 hc h5) (by decide) rfl rfl rfl rfl rfl rfl rfl ?_
  refine T_iff (c := ¬ (b2i (inS y c0)) = 0) (t := 25) (f := 22) (L := [.ref 1, .int x, .int y]) (S := []) (G := S0 L) (h := h) rfl (bnz_f hy) ?_
  refine T_run 1 (st' := (24, [.ref 1, .int x, .int y], [.int (-1000000001)], S0 L, h)) rfl ?_
  exact T_retR rfl rfl rfl rfl
theorem r_X8_carry_not {L : Nat} (h : AH) (d : Nat) (y : Int32) (n : Nat) (hn : h 3 3 = nI n) (h7 : n ≤ 7) (c0 : Nat) (hc : h 3 2 = nI c0) (h5 : c0 ≤ 5) (hd : d < n) (hy : inS y c0) (hq : ¬ (h 17 d = 1 ∧ ¬ h 17 (7 + d) = y)) : Rt L 2 92 [.ref 1, .int (nI d), .int y] h (some (-1000000003)) h := by
  refine T_run 3 (st' := (5, [.ref 1, .int (nI d), .int y], [.int (nI d), .ref 3], S0 L, h)) rfl ?_
  refine T_callR (S' := [.int (b2i (inS (nI d) n))]) (h' := h) (r_X5_hasDeed (L := L) h (nI d) n hn h7) (by decide) rfl rfl rfl rfl rfl rfl rfl ?_
  refine T_iff (c := (b2i (inS (nI d) n)) = 0) (t := 22) (f := 11) (L := [.ref 1, .int (nI d), .int y]) (S := []) (G := S0 L) (h := h) rfl (bz_t (inS_nat hd (by omega))) ?_
  refine T_run 3 (st' := (16, [.ref 1, .int (nI d), .int y], [.int y, .ref 3], S0 L, h)) rfl ?_
  refine T_callR (S' := [.int (b2i (inS y c0))]) (h' := h) (r_X5_hasChild (L := L) h y c0 hc h5) (by decide) rfl rfl rfl rfl rfl rfl rfl ?_
  refine T_ift (c := ¬ (b2i (inS y c0)) = 0) (t := 25) (f := 22) (L := [.ref 1, .int (nI d), .int y]) (S := []) (G := S0 L) (h := h) rfl (bz_t hy) ?_
  refine T_run 4 (st' := (31, [.ref 1, .int (nI d), .int y], [.int y, .int (nI d), .ref 16], S0 L, h)) rfl ?_
  refine T_callR (S' := [.int (b2i (h 17 d = 1 ∧ ¬ h 17 (7 + d) = y))]) (h' := h) (r_X0_canBeCarried (L := L) h d y (by omega)) (by decide) rfl rfl rfl rfl rfl rfl rfl ?_
  refine T_iff (c := ¬ (b2i (h 17 d = 1 ∧ ¬ h 17 (7 + d) = y)) = 0) (t := 40) (f := 37) (L := [.ref 1, .int (nI d), .int y]) (S := []) (G := S0 L) (h := h) rfl (bnz_f hq) ?_
  refine T_run 1 (st' := (39, [.ref 1, .int (nI d), .int y], [.int (-1000000003)], S0 L, h)) rfl ?_
  exact T_retR rfl rfl rfl rfl
theorem r_X8_carry_ok {L : Nat} (h : AH) (d : Nat) (y : Int32) (n : Nat) (hn : h 3 3 = nI n) (h7 : n ≤ 7) (c0 : Nat) (hc : h 3 2 = nI c0) (h5 : c0 ≤ 5) (p : Nat) (hp : h 18 1 = nI p) (hp20 : p < 20) (u : Nat) (hu : h 18 2 = nI u) (hu20 : u ≤ 20) (hd : d < n) (hy : inS y c0) (hq : h 17 d = 1 ∧ ¬ h 17 (7 + d) = y) : Rt L 2 92 [.ref 1, .int (nI d), .int y] h (some (loadS (layR d 1 y (h 17)) (fun z_ => (layR d 1 y (h 17)) (7 + z_)) (h 8) y n)) (sc_ (st_ (st_ (sc_ h 19 (va_cpy (h 17) (h 19) 0 (p * 22) 22)) 18 1 (nI (nxP p))) 18 2 (nI (remU u))) 17 (layR d 1 y (h 17))) := by
  refine T_run 3 (st' := (5, [.ref 1, .int (nI d), .int y], [.int (nI d), .ref 3], S0 L, h)) rfl ?_
  refine T_callR (S' := [.int (b2i (inS (nI d) n))]) (h' := h) (r_X5_hasDeed (L := L) h (nI d) n hn h7) (by decide) rfl rfl rfl rfl rfl rfl rfl ?_
  refine T_iff (c := (b2i (inS (nI d) n)) = 0) (t := 22) (f := 11) (L := [.ref 1, .int (nI d), .int y]) (S := []) (G := S0 L) (h := h) rfl (bz_t (inS_nat hd (by omega))) ?_
  refine T_run 3 (st' := (16, [.ref 1, .int (nI d), .int y], [.int y, .ref 3], S0 L, h)) rfl ?_
  refine T_callR (S' := [.int (b2i (inS y c0))]) (h' := h) (r_X5_hasChild (L := L) h y c0 hc h5) (by decide) rfl rfl rfl rfl rfl rfl rfl ?_
  refine T_ift (c := ¬ (b2i (inS y c0)) = 0) (t := 25) (f := 22) (L := [.ref 1, .int (nI d), .int y]) (S := []) (G := S0 L) (h := h) rfl (bz_t hy) ?_
  refine T_run 4 (st' := (31, [.ref 1, .int (nI d), .int y], [.int y, .int (nI d), .ref 16], S0 L, h)) rfl ?_
  refine T_callR (S' := [.int (b2i (h 17 d = 1 ∧ ¬ h 17 (7 + d) = y))]) (h' := h) (r_X0_canBeCarried (L := L) h d y (by omega)) (by decide) rfl rfl rfl rfl rfl rfl rfl ?_
  refine T_ift (c := ¬ (b2i (h 17 d = 1 ∧ ¬ h 17 (7 + d) = y)) = 0) (t := 40) (f := 37) (L := [.ref 1, .int (nI d), .int y]) (S := []) (G := S0 L) (h := h) rfl (bz_t hq) ?_
  refine T_run 5 (st' := (51, [.ref 1, .int (nI d), .int y], [.ref 17, .ref 18], S0 L, h)) rfl ?_
  refine T_callR (S' := []) (h' := (st_ (st_ (sc_ h 19 (va_cpy (h 17) (h 19) 0 (p * 22) 22)) 18 1 (nI (nxP p))) 18 2 (nI (remU u)))) (r_X3_push (L := L) h  p hp hp20 u hu hu20) (by decide) rfl rfl rfl rfl rfl rfl rfl ?_
  refine T_run 4 (st' := (60, [.ref 1, .int (nI d), .int y], [.int y, .int (nI d), .ref 16], S0 L, (st_ (st_ (sc_ h 19 (va_cpy (h 17) (h 19) 0 (p * 22) 22)) 18 1 (nI (nxP p))) 18 2 (nI (remU u))))) rfl ?_
  refine T_callR (S' := []) (h' := (sc_ (st_ (st_ (sc_ h 19 (va_cpy (h 17) (h 19) 0 (p * 22) 22)) 18 1 (nI (nxP p))) 18 2 (nI (remU u))) 17 (layR d 1 y (h 17)))) (r_X0_putInSatchel (L := L) (st_ (st_ (sc_ h 19 (va_cpy (h 17) (h 19) 0 (p * 22) 22)) 18 1 (nI (nxP p))) 18 2 (nI (remU u))) d y (by omega)) (by decide) rfl rfl rfl rfl rfl rfl rfl ?_
  refine T_run 3 (st' := (68, [.ref 1, .int (nI d), .int y], [.int y, .ref 16], S0 L, (sc_ (st_ (st_ (sc_ h 19 (va_cpy (h 17) (h 19) 0 (p * 22) 22)) 18 1 (nI (nxP p))) 18 2 (nI (remU u))) 17 (layR d 1 y (h 17))))) rfl ?_
  refine T_callR (S' := [.int (loadS (layR d 1 y (h 17)) (fun z_ => (layR d 1 y (h 17)) (7 + z_)) (h 8) y n)]) (h' := (sc_ (st_ (st_ (sc_ h 19 (va_cpy (h 17) (h 19) 0 (p * 22) 22)) 18 1 (nI (nxP p))) 18 2 (nI (remU u))) 17 (layR d 1 y (h 17)))) (r_X0_loadOf (L := L) (sc_ (st_ (st_ (sc_ h 19 (va_cpy (h 17) (h 19) 0 (p * 22) 22)) 18 1 (nI (nxP p))) 18 2 (nI (remU u))) 17 (layR d 1 y (h 17))) y n hn h7) (by decide) rfl rfl rfl rfl rfl rfl rfl ?_
  exact T_retR rfl rfl rfl rfl
theorem r_X8_swap_unk1 {L : Nat} (h : AH) (x : Int32) (y : Int32) (n : Nat) (hn : h 3 3 = nI n) (h7 : n ≤ 7) (hx : ¬ inS x n) : Rt L 2 93 [.ref 1, .int x, .int y] h (some (-1000000001)) h := by
  refine T_run 3 (st' := (5, [.ref 1, .int x, .int y], [.int x, .ref 3], S0 L, h)) rfl ?_
  refine T_callR (S' := [.int (b2i (inS x n))]) (h' := h) (r_X5_hasDeed (L := L) h x n hn h7) (by decide) rfl rfl rfl rfl rfl rfl rfl ?_
  refine T_ift (c := (b2i (inS x n)) = 0) (t := 27) (f := 11) (L := [.ref 1, .int x, .int y]) (S := []) (G := S0 L) (h := h) rfl (bz_f hx) ?_
  refine T_run 1 (st' := (29, [.ref 1, .int x, .int y], [.int (-1000000001)], S0 L, h)) rfl ?_
  exact T_retR rfl rfl rfl rfl
theorem r_X8_swap_unk2 {L : Nat} (h : AH) (x : Int32) (y : Int32) (n : Nat) (hn : h 3 3 = nI n) (h7 : n ≤ 7) (hx : inS x n) (hy : ¬ inS y n) : Rt L 2 93 [.ref 1, .int x, .int y] h (some (-1000000001)) h := by
  refine T_run 3 (st' := (5, [.ref 1, .int x, .int y], [.int x, .ref 3], S0 L, h)) rfl ?_
  refine T_callR (S' := [.int (b2i (inS x n))]) (h' := h) (r_X5_hasDeed (L := L) h x n hn h7) (by decide) rfl rfl rfl rfl rfl rfl rfl ?_
  refine T_iff (c := (b2i (inS x n)) = 0) (t := 27) (f := 11) (L := [.ref 1, .int x, .int y]) (S := []) (G := S0 L) (h := h) rfl (bz_t hx) ?_
  refine T_run 3 (st' := (16, [.ref 1, .int x, .int y], [.int y, .ref 3], S0 L, h)) rfl ?_
  refine T_callR (S' := [.int (b2i (inS y n))]) (h' := h) (r_X5_hasDeed (L := L) h y n hn h7) (by decide) rfl rfl rfl rfl rfl rfl rfl ?_
  refine T_ift (c := (b2i (inS y n)) = 0) (t := 27) (f := 22) (L := [.ref 1, .int x, .int y]) (S := []) (G := S0 L) (h := h) rfl (bz_f hy) ?_
  refine T_run 1 (st' := (29, [.ref 1, .int x, .int y], [.int (-1000000001)], S0 L, h)) rfl ?_
  exact T_retR rfl rfl rfl rfl
theorem r_X8_swap_unk3 {L : Nat} (h : AH) (x : Int32) (y : Int32) (n : Nat) (hn : h 3 3 = nI n) (h7 : n ≤ 7) (hx : inS x n) (hy : inS y n) (he : x = y) : Rt L 2 93 [.ref 1, .int x, .int y] h (some (-1000000001)) h := by
  refine T_run 3 (st' := (5, [.ref 1, .int x, .int y], [.int x, .ref 3], S0 L, h)) rfl ?_
  refine T_callR (S' := [.int (b2i (inS x n))]) (h' := h) (r_X5_hasDeed (L := L) h x n hn h7) (by decide) rfl rfl rfl rfl rfl rfl rfl ?_
  refine T_iff (c := (b2i (inS x n)) = 0) (t := 27) (f := 11) (L := [.ref 1, .int x, .int y]) (S := []) (G := S0 L) (h := h) rfl (bz_t hx) ?_
  refine T_run 3 (st' := (16, [.ref 1, .int x, .int y], [.int y, .ref 3], S0 L, h)) rfl ?_
  refine T_callR (S' := [.int (b2i (inS y n))]) (h' := h) (r_X5_hasDeed (L := L) h y n hn h7) (by decide) rfl rfl rfl rfl rfl rfl rfl ?_
  refine T_iff (c := (b2i (inS y n)) = 0) (t := 27) (f := 22) (L := [.ref 1, .int x, .int y]) (S := []) (G := S0 L) (h := h) rfl (bz_t hy) ?_
  refine T_run 2 (st' := (24, [.ref 1, .int x, .int y], [.int y, .int x], S0 L, h)) rfl ?_
  refine T_iff (c := ¬ x = y) (t := 30) (f := 27) (L := [.ref 1, .int x, .int y]) (S := []) (G := S0 L) (h := h) rfl (fun z => z he) ?_
  refine T_run 1 (st' := (29, [.ref 1, .int x, .int y], [.int (-1000000001)], S0 L, h)) rfl ?_
  exact T_retR rfl rfl rfl rfl
theorem r_X8_swap_not {L : Nat} (h : AH) (d : Nat) (e : Nat) (n : Nat) (hn : h 3 3 = nI n) (h7 : n ≤ 7) (hd : d < n) (he : e < n) (hde : ¬ d = e) (hq : ¬ (h 17 d = 1 ∧ h 17 e = 1 ∧ ¬ h 17 (7 + d) = h 17 (7 + e))) : Rt L 2 93 [.ref 1, .int (nI d), .int (nI e)] h (some (-1000000003)) h := by
  refine T_run 3 (st' := (5, [.ref 1, .int (nI d), .int (nI e)], [.int (nI d), .ref 3], S0 L, h)) rfl ?_
  refine T_callR (S' := [.int (b2i (inS (nI d) n))]) (h' := h) (r_X5_hasDeed (L := L) h (nI d) n hn h7) (by decide) rfl rfl rfl rfl rfl rfl rfl ?_
  refine T_iff (c := (b2i (inS (nI d) n)) = 0) (t := 27) (f := 11) (L := [.ref 1, .int (nI d), .int (nI e)]) (S := []) (G := S0 L) (h := h) rfl (bz_t (inS_nat hd (by omega))) ?_
  refine T_run 3 (st' := (16, [.ref 1, .int (nI d), .int (nI e)], [.int (nI e), .ref 3], S0 L, h)) rfl ?_
  refine T_callR (S' := [.int (b2i (inS (nI e) n))]) (h' := h) (r_X5_hasDeed (L := L) h (nI e) n hn h7) (by decide) rfl rfl rfl rfl rfl rfl rfl ?_
  refine T_iff (c := (b2i (inS (nI e) n)) = 0) (t := 27) (f := 22) (L := [.ref 1, .int (nI d), .int (nI e)]) (S := []) (G := S0 L) (h := h) rfl (bz_t (inS_nat he (by omega))) ?_
  refine T_run 2 (st' := (24, [.ref 1, .int (nI d), .int (nI e)], [.int (nI e), .int (nI d)], S0 L, h)) rfl ?_
  refine T_iftP (c := ¬ (nI d) = (nI e)) (P := ¬ d = e) (t := 30) (f := 27) (L := [.ref 1, .int (nI d), .int (nI e)]) (S := []) (G := S0 L) (h := h) rfl (not_congr (nI_eqE rfl rfl (by omega) (by omega))) hde ?_
  refine T_run 4 (st' := (36, [.ref 1, .int (nI d), .int (nI e)], [.int (nI e), .int (nI d), .ref 16], S0 L, h)) rfl ?_
  refine T_callR (S' := [.int (b2i (h 17 d = 1 ∧ h 17 e = 1 ∧ ¬ h 17 (7 + d) = h 17 (7 + e)))]) (h' := h) (r_X0_areInUnlikeSatchels (L := L) h d e (by omega) (by omega)) (by decide) rfl rfl rfl rfl rfl rfl rfl ?_
  refine T_iff (c := ¬ (b2i (h 17 d = 1 ∧ h 17 e = 1 ∧ ¬ h 17 (7 + d) = h 17 (7 + e))) = 0) (t := 45) (f := 42) (L := [.ref 1, .int (nI d), .int (nI e)]) (S := []) (G := S0 L) (h := h) rfl (bnz_f hq) ?_
  refine T_run 1 (st' := (44, [.ref 1, .int (nI d), .int (nI e)], [.int (-1000000003)], S0 L, h)) rfl ?_
  exact T_retR rfl rfl rfl rfl
theorem r_X8_swap_ok {L : Nat} (h : AH) (d : Nat) (e : Nat) (n : Nat) (hn : h 3 3 = nI n) (h7 : n ≤ 7) (p : Nat) (hp : h 18 1 = nI p) (hp20 : p < 20) (u : Nat) (hu : h 18 2 = nI u) (hu20 : u ≤ 20) (hd : d < n) (he : e < n) (hde : ¬ d = e) (hq : h 17 d = 1 ∧ h 17 e = 1 ∧ ¬ h 17 (7 + d) = h 17 (7 + e)) : Rt L 2 93 [.ref 1, .int (nI d), .int (nI e)] h (some 1) (sc_ (st_ (st_ (sc_ h 19 (va_cpy (h 17) (h 19) 0 (p * 22) 22)) 18 1 (nI (nxP p))) 18 2 (nI (remU u))) 17 (layR e 1 (h 17 (7 + d)) (layR d 1 (h 17 (7 + e)) (h 17)))) := by
  refine T_run 3 (st' := (5, [.ref 1, .int (nI d), .int (nI e)], [.int (nI d), .ref 3], S0 L, h)) rfl ?_
  refine T_callR (S' := [.int (b2i (inS (nI d) n))]) (h' := h) (r_X5_hasDeed (L := L) h (nI d) n hn h7) (by decide) rfl rfl rfl rfl rfl rfl rfl ?_
  refine T_iff (c := (b2i (inS (nI d) n)) = 0) (t := 27) (f := 11) (L := [.ref 1, .int (nI d), .int (nI e)]) (S := []) (G := S0 L) (h := h) rfl (bz_t (inS_nat hd (by omega))) ?_
  refine T_run 3 (st' := (16, [.ref 1, .int (nI d), .int (nI e)], [.int (nI e), .ref 3], S0 L, h)) rfl ?_
  refine T_callR (S' := [.int (b2i (inS (nI e) n))]) (h' := h) (r_X5_hasDeed (L := L) h (nI e) n hn h7) (by decide) rfl rfl rfl rfl rfl rfl rfl ?_
  refine T_iff (c := (b2i (inS (nI e) n)) = 0) (t := 27) (f := 22) (L := [.ref 1, .int (nI d), .int (nI e)]) (S := []) (G := S0 L) (h := h) rfl (bz_t (inS_nat he (by omega))) ?_
  refine T_run 2 (st' := (24, [.ref 1, .int (nI d), .int (nI e)], [.int (nI e), .int (nI d)], S0 L, h)) rfl ?_
  refine T_iftP (c := ¬ (nI d) = (nI e)) (P := ¬ d = e) (t := 30) (f := 27) (L := [.ref 1, .int (nI d), .int (nI e)]) (S := []) (G := S0 L) (h := h) rfl (not_congr (nI_eqE rfl rfl (by omega) (by omega))) hde ?_
  refine T_run 4 (st' := (36, [.ref 1, .int (nI d), .int (nI e)], [.int (nI e), .int (nI d), .ref 16], S0 L, h)) rfl ?_
  refine T_callR (S' := [.int (b2i (h 17 d = 1 ∧ h 17 e = 1 ∧ ¬ h 17 (7 + d) = h 17 (7 + e)))]) (h' := h) (r_X0_areInUnlikeSatchels (L := L) h d e (by omega) (by omega)) (by decide) rfl rfl rfl rfl rfl rfl rfl ?_
  refine T_ift (c := ¬ (b2i (h 17 d = 1 ∧ h 17 e = 1 ∧ ¬ h 17 (7 + d) = h 17 (7 + e))) = 0) (t := 45) (f := 42) (L := [.ref 1, .int (nI d), .int (nI e)]) (S := []) (G := S0 L) (h := h) rfl (bz_t hq) ?_
  refine T_run 5 (st' := (56, [.ref 1, .int (nI d), .int (nI e)], [.ref 17, .ref 18], S0 L, h)) rfl ?_
  refine T_callR (S' := []) (h' := (st_ (st_ (sc_ h 19 (va_cpy (h 17) (h 19) 0 (p * 22) 22)) 18 1 (nI (nxP p))) 18 2 (nI (remU u)))) (r_X3_push (L := L) h  p hp hp20 u hu hu20) (by decide) rfl rfl rfl rfl rfl rfl rfl ?_
  refine T_run 4 (st' := (65, [.ref 1, .int (nI d), .int (nI e)], [.int (nI e), .int (nI d), .ref 16], S0 L, (st_ (st_ (sc_ h 19 (va_cpy (h 17) (h 19) 0 (p * 22) 22)) 18 1 (nI (nxP p))) 18 2 (nI (remU u))))) rfl ?_
  refine T_callR (S' := []) (h' := (sc_ (st_ (st_ (sc_ h 19 (va_cpy (h 17) (h 19) 0 (p * 22) 22)) 18 1 (nI (nxP p))) 18 2 (nI (remU u))) 17 (layR e 1 (h 17 (7 + d)) (layR d 1 (h 17 (7 + e)) (h 17))))) (r_X0_changePlaces (L := L) (st_ (st_ (sc_ h 19 (va_cpy (h 17) (h 19) 0 (p * 22) 22)) 18 1 (nI (nxP p))) 18 2 (nI (remU u))) d e (by omega) (by omega)) (by decide) rfl rfl rfl rfl rfl rfl rfl ?_
  refine T_run 1 (st' := (69, [.ref 1, .int (nI d), .int (nI e)], [.int 1], S0 L, (sc_ (st_ (st_ (sc_ h 19 (va_cpy (h 17) (h 19) 0 (p * 22) 22)) 18 1 (nI (nxP p))) 18 2 (nI (remU u))) 17 (layR e 1 (h 17 (7 + d)) (layR d 1 (h 17 (7 + e)) (h 17)))))) rfl ?_
  exact T_retR rfl rfl rfl rfl
theorem r_X8_throwIt_unk {L : Nat} (h : AH) (x : Int32) (n : Nat) (hn : h 3 3 = nI n) (h7 : n ≤ 7) (hx : ¬ inS x n) : Rt L 2 94 [.ref 1, .int x] h (some (-1000000001)) h := by
  refine T_run 3 (st' := (5, [.ref 1, .int x], [.int x, .ref 3], S0 L, h)) rfl ?_
  refine T_callR (S' := [.int (b2i (inS x n))]) (h' := h) (r_X5_hasDeed (L := L) h x n hn h7) (by decide) rfl rfl rfl rfl rfl rfl rfl ?_
  refine T_iff (c := ¬ (b2i (inS x n)) = 0) (t := 14) (f := 11) (L := [.ref 1, .int x]) (S := []) (G := S0 L) (h := h) rfl (bnz_f hx) ?_
  refine T_run 1 (st' := (13, [.ref 1, .int x], [.int (-1000000001)], S0 L, h)) rfl ?_
  exact T_retR rfl rfl rfl rfl
theorem r_X8_throwIt_not {L : Nat} (h : AH) (d : Nat) (n : Nat) (hn : h 3 3 = nI n) (h7 : n ≤ 7) (hd : d < n) (hq : ¬ (h 17 d = 1 ∧ ¬ (h 3 1) < (h 17 20) + (h 8 d))) : Rt L 2 94 [.ref 1, .int (nI d)] h (some (-1000000003)) h := by
  refine T_run 3 (st' := (5, [.ref 1, .int (nI d)], [.int (nI d), .ref 3], S0 L, h)) rfl ?_
  refine T_callR (S' := [.int (b2i (inS (nI d) n))]) (h' := h) (r_X5_hasDeed (L := L) h (nI d) n hn h7) (by decide) rfl rfl rfl rfl rfl rfl rfl ?_
  refine T_ift (c := ¬ (b2i (inS (nI d) n)) = 0) (t := 14) (f := 11) (L := [.ref 1, .int (nI d)]) (S := []) (G := S0 L) (h := h) rfl (bz_t (inS_nat hd (by omega))) ?_
  refine T_run 3 (st' := (19, [.ref 1, .int (nI d)], [.int (nI d), .ref 16], S0 L, h)) rfl ?_
  refine T_callR (S' := [.int (b2i (h 17 d = 1 ∧ ¬ (h 3 1) < (h 17 20) + (h 8 d)))]) (h' := h) (r_X0_canBeThrown (L := L) h d (by omega)) (by decide) rfl rfl rfl rfl rfl rfl rfl ?_
  refine T_iff (c := ¬ (b2i (h 17 d = 1 ∧ ¬ (h 3 1) < (h 17 20) + (h 8 d))) = 0) (t := 28) (f := 25) (L := [.ref 1, .int (nI d)]) (S := []) (G := S0 L) (h := h) rfl (bnz_f hq) ?_
  refine T_run 1 (st' := (27, [.ref 1, .int (nI d)], [.int (-1000000003)], S0 L, h)) rfl ?_
  exact T_retR rfl rfl rfl rfl
theorem r_X8_throwIt_ok {L : Nat} (h : AH) (d : Nat) (n : Nat) (hn : h 3 3 = nI n) (h7 : n ≤ 7) (p : Nat) (hp : h 18 1 = nI p) (hp20 : p < 20) (u : Nat) (hu : h 18 2 = nI u) (hu20 : u ≤ 20) (hd : d < n) (hq : h 17 d = 1 ∧ ¬ (h 3 1) < (h 17 20) + (h 8 d)) : Rt L 2 94 [.ref 1, .int (nI d)] h (some (thrR 20 21 d (h 8 d) (h 17) 20)) (sc_ (st_ (st_ (sc_ h 19 (va_cpy (h 17) (h 19) 0 (p * 22) 22)) 18 1 (nI (nxP p))) 18 2 (nI (remU u))) 17 (thrR 20 21 d (h 8 d) (h 17))) := by
  refine T_run 3 (st' := (5, [.ref 1, .int (nI d)], [.int (nI d), .ref 3], S0 L, h)) rfl ?_
  refine T_callR (S' := [.int (b2i (inS (nI d) n))]) (h' := h) (r_X5_hasDeed (L := L) h (nI d) n hn h7) (by decide) rfl rfl rfl rfl rfl rfl rfl ?_
  refine T_ift (c := ¬ (b2i (inS (nI d) n)) = 0) (t := 14) (f := 11) (L := [.ref 1, .int (nI d)]) (S := []) (G := S0 L) (h := h) rfl (bz_t (inS_nat hd (by omega))) ?_
  refine T_run 3 (st' := (19, [.ref 1, .int (nI d)], [.int (nI d), .ref 16], S0 L, h)) rfl ?_
  refine T_callR (S' := [.int (b2i (h 17 d = 1 ∧ ¬ (h 3 1) < (h 17 20) + (h 8 d)))]) (h' := h) (r_X0_canBeThrown (L := L) h d (by omega)) (by decide) rfl rfl rfl rfl rfl rfl rfl ?_
  refine T_ift (c := ¬ (b2i (h 17 d = 1 ∧ ¬ (h 3 1) < (h 17 20) + (h 8 d))) = 0) (t := 28) (f := 25) (L := [.ref 1, .int (nI d)]) (S := []) (G := S0 L) (h := h) rfl (bz_t hq) ?_
  refine T_run 5 (st' := (39, [.ref 1, .int (nI d)], [.ref 17, .ref 18], S0 L, h)) rfl ?_
  refine T_callR (S' := []) (h' := (st_ (st_ (sc_ h 19 (va_cpy (h 17) (h 19) 0 (p * 22) 22)) 18 1 (nI (nxP p))) 18 2 (nI (remU u)))) (r_X3_push (L := L) h  p hp hp20 u hu hu20) (by decide) rfl rfl rfl rfl rfl rfl rfl ?_
  refine T_run 3 (st' := (47, [.ref 1, .int (nI d)], [.int (nI d), .ref 16], S0 L, (st_ (st_ (sc_ h 19 (va_cpy (h 17) (h 19) 0 (p * 22) 22)) 18 1 (nI (nxP p))) 18 2 (nI (remU u))))) rfl ?_
  refine T_callR (S' := []) (h' := (sc_ (st_ (st_ (sc_ h 19 (va_cpy (h 17) (h 19) 0 (p * 22) 22)) 18 1 (nI (nxP p))) 18 2 (nI (remU u))) 17 (thrR 20 21 d (h 8 d) (h 17)))) (r_X0_putInBrook (L := L) (st_ (st_ (sc_ h 19 (va_cpy (h 17) (h 19) 0 (p * 22) 22)) 18 1 (nI (nxP p))) 18 2 (nI (remU u))) d (by omega)) (by decide) rfl rfl rfl rfl rfl rfl rfl ?_
  refine T_run 2 (st' := (54, [.ref 1, .int (nI d)], [.ref 16], S0 L, (sc_ (st_ (st_ (sc_ h 19 (va_cpy (h 17) (h 19) 0 (p * 22) 22)) 18 1 (nI (nxP p))) 18 2 (nI (remU u))) 17 (thrR 20 21 d (h 8 d) (h 17))))) rfl ?_
  refine T_callR (S' := [.int ((thrR 20 21 d (h 8 d) (h 17)) 20)]) (h' := (sc_ (st_ (st_ (sc_ h 19 (va_cpy (h 17) (h 19) 0 (p * 22) 22)) 18 1 (nI (nxP p))) 18 2 (nI (remU u))) 17 (thrR 20 21 d (h 8 d) (h 17)))) (r_X0_takenThisDay (L := L) (sc_ (st_ (st_ (sc_ h 19 (va_cpy (h 17) (h 19) 0 (p * 22) 22)) 18 1 (nI (nxP p))) 18 2 (nI (remU u))) 17 (thrR 20 21 d (h 8 d) (h 17)))  ) (by decide) rfl rfl rfl rfl rfl rfl rfl ?_
  exact T_retR rfl rfl (by first | rfl | simp [b2i, *]) rfl
theorem r_X8_home_not {L : Nat} (h : AH)  (ht : h 3 0 = 0) : Rt L 5 95 [.ref 1] h (some (-1000000003)) h := by
  refine T_run 3 (st' := (7, [.ref 1], [.int (h 3 0)], S0 L, h)) rfl ?_
  refine T_iff (c := ¬ (h 3 0) = 0) (t := 13) (f := 10) (L := [.ref 1]) (S := []) (G := S0 L) (h := h) rfl (fun z => z ht) ?_
  refine T_run 1 (st' := (12, [.ref 1], [.int (-1000000003)], S0 L, h)) rfl ?_
  exact T_retR rfl rfl rfl rfl
theorem r_X8_home_full {L : Nat} (h : AH)  (ht : ¬ h 3 0 = 0) (hdy : ¬ h 17 19 ≤ 9000) : Rt L 5 95 [.ref 1] h (some (-1000000004)) h := by
  refine T_run 3 (st' := (7, [.ref 1], [.int (h 3 0)], S0 L, h)) rfl ?_
  refine T_ift (c := ¬ (h 3 0) = 0) (t := 13) (f := 10) (L := [.ref 1]) (S := []) (G := S0 L) (h := h) rfl ht ?_
  refine T_run 2 (st' := (17, [.ref 1], [.ref 16], S0 L, h)) rfl ?_
  refine T_callR (S' := [.int (h 17 19)]) (h' := h) (r_X0_days (L := L) h  ) (by decide) rfl rfl rfl rfl rfl rfl rfl ?_
  refine T_run 1 (st' := (23, [.ref 1], [.int 9000, .int (h 17 19)], S0 L, h)) rfl ?_
  refine T_iff (c := (h 17 19) ≤ 9000) (t := 29) (f := 26) (L := [.ref 1]) (S := []) (G := S0 L) (h := h) rfl hdy ?_
  refine T_run 1 (st' := (28, [.ref 1], [.int (-1000000004)], S0 L, h)) rfl ?_
  exact T_retR rfl rfl rfl rfl
theorem r_X8_home_ok {L : Nat} (h : AH)  (n : Nat) (hn : h 3 3 = nI n) (h7 : n ≤ 7) (c0 : Nat) (hc : h 3 2 = nI c0) (h5 : c0 ≤ 5) (p : Nat) (hp : h 18 1 = nI p) (hp20 : p < 20) (u : Nat) (hu : h 18 2 = nI u) (hu20 : u ≤ 20) (ht : ¬ h 3 0 = 0) (hdy : h 17 19 ≤ 9000) : Rt L 5 95 [.ref 1] h (some (setS (fun y_ => decide (¬ loadS (h 17) (fun z_ => (h 17) (7 + z_)) (h 8) (nI y_) n ≤ (h 4) y_)) c0)) (sc_ (st_ (st_ (sc_ h 19 (va_cpy (h 17) (h 19) 0 (p * 22) 22)) 18 1 (nI (nxP p))) 18 2 (nI (remU u))) 17 (goR 14 19 20 n c0 (setS (fun y_ => decide (¬ loadS (h 17) (fun z_ => (h 17) (7 + z_)) (h 8) (nI y_) n ≤ (h 4) y_)) c0) (h 17))) := by
  refine T_run 3 (st' := (7, [.ref 1], [.int (h 3 0)], S0 L, h)) rfl ?_
  refine T_ift (c := ¬ (h 3 0) = 0) (t := 13) (f := 10) (L := [.ref 1]) (S := []) (G := S0 L) (h := h) rfl ht ?_
  refine T_run 2 (st' := (17, [.ref 1], [.ref 16], S0 L, h)) rfl ?_
  refine T_callR (S' := [.int (h 17 19)]) (h' := h) (r_X0_days (L := L) h  ) (by decide) rfl rfl rfl rfl rfl rfl rfl ?_
  refine T_run 1 (st' := (23, [.ref 1], [.int 9000, .int (h 17 19)], S0 L, h)) rfl ?_
  refine T_ift (c := (h 17 19) ≤ 9000) (t := 29) (f := 26) (L := [.ref 1]) (S := []) (G := S0 L) (h := h) rfl hdy ?_
  refine T_run 5 (st' := (40, [.ref 1], [.ref 17, .ref 18], S0 L, h)) rfl ?_
  refine T_callR (S' := []) (h' := (st_ (st_ (sc_ h 19 (va_cpy (h 17) (h 19) 0 (p * 22) 22)) 18 1 (nI (nxP p))) 18 2 (nI (remU u)))) (r_X3_push (L := L) h  p hp hp20 u hu hu20) (by decide) rfl rfl rfl rfl rfl rfl rfl ?_
  refine T_run 2 (st' := (47, [.ref 1], [.ref 16], S0 L, (st_ (st_ (sc_ h 19 (va_cpy (h 17) (h 19) 0 (p * 22) 22)) 18 1 (nI (nxP p))) 18 2 (nI (remU u))))) rfl ?_
  refine T_callR (S' := [.int (setS (fun y_ => decide (¬ loadS (h 17) (fun z_ => (h 17) (7 + z_)) (h 8) (nI y_) n ≤ (h 4) y_)) c0)]) (h' := (sc_ (st_ (st_ (sc_ h 19 (va_cpy (h 17) (h 19) 0 (p * 22) 22)) 18 1 (nI (nxP p))) 18 2 (nI (remU u))) 17 (goR 14 19 20 n c0 (setS (fun y_ => decide (¬ loadS (h 17) (fun z_ => (h 17) (7 + z_)) (h 8) (nI y_) n ≤ (h 4) y_)) c0) (h 17)))) (r_X0_allGoHome (L := L) (st_ (st_ (sc_ h 19 (va_cpy (h 17) (h 19) 0 (p * 22) 22)) 18 1 (nI (nxP p))) 18 2 (nI (remU u)))  n hn h7 c0 hc h5) (by decide) rfl rfl rfl rfl rfl rfl rfl ?_
  exact T_retR rfl rfl rfl rfl
theorem r_X8_takeBack_unk {L : Nat} (h : AH) (x : Int32) (n : Nat) (hn : h 3 3 = nI n) (h7 : n ≤ 7) (hx : ¬ inS x n) : Rt L 1 96 [.ref 1, .int x] h (some (-1000000001)) h := by
  refine T_run 3 (st' := (5, [.ref 1, .int x, un_], [.int x, .ref 3], S0 L, h)) rfl ?_
  refine T_callR (S' := [.int (b2i (inS x n))]) (h' := h) (r_X5_hasDeed (L := L) h x n hn h7) (by decide) rfl rfl rfl rfl rfl rfl rfl ?_
  refine T_iff (c := ¬ (b2i (inS x n)) = 0) (t := 14) (f := 11) (L := [.ref 1, .int x, un_]) (S := []) (G := S0 L) (h := h) rfl (bnz_f hx) ?_
  refine T_run 1 (st' := (13, [.ref 1, .int x, un_], [.int (-1000000001)], S0 L, h)) rfl ?_
  exact T_retR rfl rfl rfl rfl
theorem r_X8_takeBack_not {L : Nat} (h : AH) (d : Nat) (n : Nat) (hn : h 3 3 = nI n) (h7 : n ≤ 7) (hd : d < n) (hq : ¬ h 17 d = 3) : Rt L 1 96 [.ref 1, .int (nI d)] h (some (-1000000003)) h := by
  refine T_run 3 (st' := (5, [.ref 1, .int (nI d), un_], [.int (nI d), .ref 3], S0 L, h)) rfl ?_
  refine T_callR (S' := [.int (b2i (inS (nI d) n))]) (h' := h) (r_X5_hasDeed (L := L) h (nI d) n hn h7) (by decide) rfl rfl rfl rfl rfl rfl rfl ?_
  refine T_ift (c := ¬ (b2i (inS (nI d) n)) = 0) (t := 14) (f := 11) (L := [.ref 1, .int (nI d), un_]) (S := []) (G := S0 L) (h := h) rfl (bz_t (inS_nat hd (by omega))) ?_
  refine T_run 3 (st' := (19, [.ref 1, .int (nI d), un_], [.int (nI d), .ref 16], S0 L, h)) rfl ?_
  refine T_callR (S' := [.int (h 17 d)]) (h' := h) (r_X0_stageOf (L := L) h d (by omega)) (by decide) rfl rfl rfl rfl rfl rfl rfl ?_
  refine T_run 1 (st' := (23, [.ref 1, .int (nI d), un_], [.int 3, .int (h 17 d)], S0 L, h)) rfl ?_
  refine T_iff (c := (h 17 d) = 3) (t := 29) (f := 26) (L := [.ref 1, .int (nI d), un_]) (S := []) (G := S0 L) (h := h) rfl hq ?_
  refine T_run 1 (st' := (28, [.ref 1, .int (nI d), un_], [.int (-1000000003)], S0 L, h)) rfl ?_
  exact T_retR rfl rfl rfl rfl
theorem r_X8_takeBack_ok {L : Nat} (h : AH) (d : Nat) (n : Nat) (hn : h 3 3 = nI n) (h7 : n ≤ 7) (p : Nat) (hp : h 18 1 = nI p) (hp20 : p < 20) (u : Nat) (hu : h 18 2 = nI u) (hu20 : u ≤ 20) (hd : d < n) (hq : h 17 d = 3) : Rt L 1 96 [.ref 1, .int (nI d)] h (some (h 17 (7 + d))) (sc_ (st_ (st_ (sc_ h 19 (va_cpy (h 17) (h 19) 0 (p * 22) 22)) 18 1 (nI (nxP p))) 18 2 (nI (remU u))) 17 (layR d 0 (-1) (h 17))) := by
  refine T_run 3 (st' := (5, [.ref 1, .int (nI d), un_], [.int (nI d), .ref 3], S0 L, h)) rfl ?_
  refine T_callR (S' := [.int (b2i (inS (nI d) n))]) (h' := h) (r_X5_hasDeed (L := L) h (nI d) n hn h7) (by decide) rfl rfl rfl rfl rfl rfl rfl ?_
  refine T_ift (c := ¬ (b2i (inS (nI d) n)) = 0) (t := 14) (f := 11) (L := [.ref 1, .int (nI d), un_]) (S := []) (G := S0 L) (h := h) rfl (bz_t (inS_nat hd (by omega))) ?_
  refine T_run 3 (st' := (19, [.ref 1, .int (nI d), un_], [.int (nI d), .ref 16], S0 L, h)) rfl ?_
  refine T_callR (S' := [.int (h 17 d)]) (h' := h) (r_X0_stageOf (L := L) h d (by omega)) (by decide) rfl rfl rfl rfl rfl rfl rfl ?_
  refine T_run 1 (st' := (23, [.ref 1, .int (nI d), un_], [.int 3, .int (h 17 d)], S0 L, h)) rfl ?_
  refine T_ift (c := (h 17 d) = 3) (t := 29) (f := 26) (L := [.ref 1, .int (nI d), un_]) (S := []) (G := S0 L) (h := h) rfl hq ?_
  refine T_run 3 (st' := (34, [.ref 1, .int (nI d), un_], [.int (nI d), .ref 16], S0 L, h)) rfl ?_
  refine T_callR (S' := [.int (h 17 (7 + d))]) (h' := h) (r_X0_placeOf (L := L) h d (by omega)) (by decide) rfl rfl rfl rfl rfl rfl rfl ?_
  refine T_run 6 (st' := (49, [.ref 1, .int (nI d), .int (h 17 (7 + d))], [.ref 17, .ref 18], S0 L, h)) rfl ?_
  refine T_callR (S' := []) (h' := (st_ (st_ (sc_ h 19 (va_cpy (h 17) (h 19) 0 (p * 22) 22)) 18 1 (nI (nxP p))) 18 2 (nI (remU u)))) (r_X3_push (L := L) h  p hp hp20 u hu hu20) (by decide) rfl rfl rfl rfl rfl rfl rfl ?_
  refine T_run 3 (st' := (57, [.ref 1, .int (nI d), .int (h 17 (7 + d))], [.int (nI d), .ref 16], S0 L, (st_ (st_ (sc_ h 19 (va_cpy (h 17) (h 19) 0 (p * 22) 22)) 18 1 (nI (nxP p))) 18 2 (nI (remU u))))) rfl ?_
  refine T_callR (S' := []) (h' := (sc_ (st_ (st_ (sc_ h 19 (va_cpy (h 17) (h 19) 0 (p * 22) 22)) 18 1 (nI (nxP p))) 18 2 (nI (remU u))) 17 (layR d 0 (-1) (h 17)))) (r_X0_putNowhere (L := L) (st_ (st_ (sc_ h 19 (va_cpy (h 17) (h 19) 0 (p * 22) 22)) 18 1 (nI (nxP p))) 18 2 (nI (remU u))) d (by omega)) (by decide) rfl rfl rfl rfl rfl rfl rfl ?_
  refine T_run 1 (st' := (61, [.ref 1, .int (nI d), .int (h 17 (7 + d))], [.int (h 17 (7 + d))], S0 L, (sc_ (st_ (st_ (sc_ h 19 (va_cpy (h 17) (h 19) 0 (p * 22) 22)) 18 1 (nI (nxP p))) 18 2 (nI (remU u))) 17 (layR d 0 (-1) (h 17))))) rfl ?_
  exact T_retR rfl rfl rfl rfl
theorem r_X8_undo_not {L : Nat} (h : AH)  (hu : h 18 2 = 0) : Rt L 1 98 [.ref 1] h (some (-1000000003)) h := by
  refine T_run 4 (st' := (8, [.ref 1], [.int 1, .int (h 18 2)], S0 L, h)) rfl ?_
  refine T_iff (c := 1 ≤ (h 18 2)) (t := 14) (f := 11) (L := [.ref 1]) (S := []) (G := S0 L) (h := h) rfl (by rw [hu]; decide) ?_
  refine T_run 1 (st' := (13, [.ref 1], [.int (-1000000003)], S0 L, h)) rfl ?_
  exact T_retR rfl rfl rfl rfl
theorem r_X8_undo_ok {L : Nat} (h : AH)  (p : Nat) (hp : h 18 1 = nI p) (hp20 : p < 20) (w : Nat) (hu : h 18 2 = nI (w + 1)) (hw : w < 20) : Rt L 1 98 [.ref 1] h (some (nI w)) (sc_ (st_ (st_ h 18 1 (nI (pvP p))) 18 2 (nI w)) 17 (va_cpy (h 19) (h 17) (pvP p * 22) 0 22)) := by
  refine T_run 4 (st' := (8, [.ref 1], [.int 1, .int (h 18 2)], S0 L, h)) rfl ?_
  refine T_iftP (c := 1 ≤ (h 18 2)) (P := 1 ≤ w + 1) (t := 14) (f := 11) (L := [.ref 1]) (S := []) (G := S0 L) (h := h) rfl (nI_leE rfl hu (by omega) (by omega)) (by omega) ?_
  refine T_run 5 (st' := (25, [.ref 1], [.ref 17, .ref 18], S0 L, h)) rfl ?_
  refine T_callR (S' := []) (h' := (sc_ (st_ (st_ h 18 1 (nI (pvP p))) 18 2 (nI w)) 17 (va_cpy (h 19) (h 17) (pvP p * 22) 0 22))) (r_X3_pop (L := L) h  p hp hp20 w hu hw) (by decide) rfl rfl rfl rfl rfl rfl rfl ?_
  refine T_run 3 (st' := (35, [.ref 1], [.int (nI w)], S0 L, (sc_ (st_ (st_ h 18 1 (nI (pvP p))) 18 2 (nI w)) 17 (va_cpy (h 19) (h 17) (pvP p * 22) 0 22)))) rfl ?_
  exact T_retR rfl rfl rfl rfl
theorem r_X8_tear_ok {L : Nat} (h : AH)   : Rt L 1 108 [.ref 1] h (some ((h 33 5) + (h 33 6))) (st_ (st_ h 33 5 0) 33 6 0) := by
  refine T_run 10 (st' := (20, [.ref 1, .int ((h 33 5) + (h 33 6))], [.ref 33], S0 L, h)) rfl ?_
  refine T_callR (S' := []) (h' := (st_ (st_ h 33 5 0) 33 6 0)) (r_X7_wipe (L := L) h  ) (by decide) rfl rfl rfl rfl rfl rfl rfl ?_
  refine T_run 1 (st' := (24, [.ref 1, .int ((h 33 5) + (h 33 6))], [.int ((h 33 5) + (h 33 6))], S0 L, (st_ (st_ h 33 5 0) 33 6 0))) rfl ?_
  exact T_retR rfl rfl rfl rfl
theorem r_X8_judge_ok {L : Nat} (h : AH)  (n : Nat) (hn : h 3 3 = nI n) (h7 : n ≤ 7) (m : Nat) (hm : h 33 6 = nI m) (hm15 : m ≤ 15) : Rt L 3 109 [.ref 1] h (some (findS (fun t_ => decide (¬ loadS (h 17) (fun z_ => (h 17) (7 + z_)) (h 8) (h 37 t_) n = h 38 t_)) m 0)) h := by
  refine T_run 4 (st' := (8, [.ref 1], [.ref 16, .ref 33], S0 L, h)) rfl ?_
  refine T_callR (S' := [.int (findS (fun t_ => decide (¬ loadS (h 17) (fun z_ => (h 17) (7 + z_)) (h 8) (h 37 t_) n = h 38 t_)) m 0)]) (h' := h) (r_X7_firstWrong (L := L) h  n hn h7 m hm hm15) (by decide) rfl rfl rfl rfl rfl rfl rfl ?_
  exact T_retR rfl rfl rfl rfl
theorem r_X8_hold_ok {L : Nat} (h : AH)  (n : Nat) (hn : h 3 3 = nI n) (h7 : n ≤ 7) (m : Nat) (hm : h 33 5 = nI m) (hm6 : m ≤ 6) : Rt L 3 106 [.ref 1] h (some (b2i (findS (fun t_ => decide (¬ b2i (anyS (fun z_ => decide (((h 17) z_ = 3 ∧ (h 17) (7 + z_) = (h 34 t_)) ∧ (h 7) z_ = (h 35 t_))) n = true) = h 36 t_)) m 0 = -1))) h := by
  refine T_run 4 (st' := (8, [.ref 1], [.ref 16, .ref 33], S0 L, h)) rfl ?_
  refine T_callR (S' := [.int (findS (fun t_ => decide (¬ b2i (anyS (fun z_ => decide (((h 17) z_ = 3 ∧ (h 17) (7 + z_) = (h 34 t_)) ∧ (h 7) z_ = (h 35 t_))) n = true) = h 36 t_)) m 0)]) (h' := h) (r_X7_firstUntrue (L := L) h  n hn h7 m hm hm6) (by decide) rfl rfl rfl rfl rfl rfl rfl ?_
  refine T_run 1 (st' := (12, [.ref 1], [.int (-1), .int (findS (fun t_ => decide (¬ b2i (anyS (fun z_ => decide (((h 17) z_ = 3 ∧ (h 17) (7 + z_) = (h 34 t_)) ∧ (h 7) z_ = (h 35 t_))) n = true) = h 36 t_)) m 0)], S0 L, h)) rfl ?_
  refine T_ifne (c := (findS (fun t_ => decide (¬ b2i (anyS (fun z_ => decide (((h 17) z_ = 3 ∧ (h 17) (7 + z_) = (h 34 t_)) ∧ (h 7) z_ = (h 35 t_))) n = true) = h 36 t_)) m 0) = (-1)) (t := 19) (f := 15) (L := [.ref 1]) (S := []) (G := S0 L) (h := h) rfl (fun q12 => ?_) (fun q12 => ?_)
  · refine T_run 1 (st' := (20, [.ref 1], [.int 0], S0 L, h)) rfl ?_
    exact T_retR rfl rfl (by first | exact congrArg some (b2i_t q12).symm | exact congrArg some (b2i_f q12).symm) rfl
  · refine T_run 2 (st' := (20, [.ref 1], [.int 1], S0 L, h)) rfl ?_
    exact T_retR rfl rfl (by first | exact congrArg some (b2i_t q12).symm | exact congrArg some (b2i_f q12).symm) rfl
theorem r_X8_see_unk1 {L : Nat} (h : AH) (x : Int32) (y : Int32) (P : Prop) [Decidable P] (c0 : Nat) (hc : h 3 2 = nI c0) (h5 : c0 ≤ 5) (hx : ¬ inS x c0) : Rt L 1 105 [.ref 1, .int x, .int y, .int (b2i P)] h (some (-1000000001)) h := by
  refine T_run 3 (st' := (5, [.ref 1, .int x, .int y, .int (b2i P)], [.int x, .ref 3], S0 L, h)) rfl ?_
  refine T_callR (S' := [.int (b2i (inS x c0))]) (h' := h) (r_X5_hasChild (L := L) h x c0 hc h5) (by decide) rfl rfl rfl rfl rfl rfl rfl ?_
  refine T_ift (c := (b2i (inS x c0)) = 0) (t := 22) (f := 11) (L := [.ref 1, .int x, .int y, .int (b2i P)]) (S := []) (G := S0 L) (h := h) rfl (bz_f hx) ?_
  refine T_run 1 (st' := (24, [.ref 1, .int x, .int y, .int (b2i P)], [.int (-1000000001)], S0 L, h)) rfl ?_
  exact T_retR rfl rfl rfl rfl
theorem r_X8_see_unk2 {L : Nat} (h : AH) (x : Int32) (y : Int32) (P : Prop) [Decidable P] (c0 : Nat) (hc : h 3 2 = nI c0) (h5 : c0 ≤ 5) (hx : inS x c0) (hy : ¬ inS y c0) : Rt L 1 105 [.ref 1, .int x, .int y, .int (b2i P)] h (some (-1000000001)) h := by
  refine T_run 3 (st' := (5, [.ref 1, .int x, .int y, .int (b2i P)], [.int x, .ref 3], S0 L, h)) rfl ?_
  refine T_callR (S' := [.int (b2i (inS x c0))]) (h' := h) (r_X5_hasChild (L := L) h x c0 hc h5) (by decide) rfl rfl rfl rfl rfl rfl rfl ?_
  refine T_iff (c := (b2i (inS x c0)) = 0) (t := 22) (f := 11) (L := [.ref 1, .int x, .int y, .int (b2i P)]) (S := []) (G := S0 L) (h := h) rfl (bz_t hx) ?_
  refine T_run 3 (st' := (16, [.ref 1, .int x, .int y, .int (b2i P)], [.int y, .ref 3], S0 L, h)) rfl ?_
  refine T_callR (S' := [.int (b2i (inS y c0))]) (h' := h) (r_X5_hasChild (L := L) h y c0 hc h5) (by decide) rfl rfl rfl rfl rfl rfl rfl ?_
  refine T_iff (c := ¬ (b2i (inS y c0)) = 0) (t := 25) (f := 22) (L := [.ref 1, .int x, .int y, .int (b2i P)]) (S := []) (G := S0 L) (h := h) rfl (bnz_f hy) ?_
  refine T_run 1 (st' := (24, [.ref 1, .int x, .int y, .int (b2i P)], [.int (-1000000001)], S0 L, h)) rfl ?_
  exact T_retR rfl rfl rfl rfl
theorem r_X8_see_full {L : Nat} (h : AH) (x : Int32) (y : Int32) (P : Prop) [Decidable P] (c0 : Nat) (hc : h 3 2 = nI c0) (h5 : c0 ≤ 5) (hx : inS x c0) (hy : inS y c0) (hb : h 33 5 = nI 6) : Rt L 1 105 [.ref 1, .int x, .int y, .int (b2i P)] h (some (-1000000004)) h := by
  refine T_run 3 (st' := (5, [.ref 1, .int x, .int y, .int (b2i P)], [.int x, .ref 3], S0 L, h)) rfl ?_
  refine T_callR (S' := [.int (b2i (inS x c0))]) (h' := h) (r_X5_hasChild (L := L) h x c0 hc h5) (by decide) rfl rfl rfl rfl rfl rfl rfl ?_
  refine T_iff (c := (b2i (inS x c0)) = 0) (t := 22) (f := 11) (L := [.ref 1, .int x, .int y, .int (b2i P)]) (S := []) (G := S0 L) (h := h) rfl (bz_t hx) ?_
  refine T_run 3 (st' := (16, [.ref 1, .int x, .int y, .int (b2i P)], [.int y, .ref 3], S0 L, h)) rfl ?_
  refine T_callR (S' := [.int (b2i (inS y c0))]) (h' := h) (r_X5_hasChild (L := L) h y c0 hc h5) (by decide) rfl rfl rfl rfl rfl rfl rfl ?_
  refine T_ift (c := ¬ (b2i (inS y c0)) = 0) (t := 25) (f := 22) (L := [.ref 1, .int x, .int y, .int (b2i P)]) (S := []) (G := S0 L) (h := h) rfl (bz_t hy) ?_
  refine T_run 4 (st' := (34, [.ref 1, .int x, .int y, .int (b2i P)], [.int 6, .int (h 33 5)], S0 L, h)) rfl ?_
  refine T_iffP (c := (h 33 5) < 6) (P := 6 < 6) (t := 40) (f := 37) (L := [.ref 1, .int x, .int y, .int (b2i P)]) (S := []) (G := S0 L) (h := h) rfl (nI_ltE hb rfl (by omega) (by omega)) (by omega) ?_
  refine T_run 1 (st' := (39, [.ref 1, .int x, .int y, .int (b2i P)], [.int (-1000000004)], S0 L, h)) rfl ?_
  exact T_retR rfl rfl rfl rfl
theorem r_X8_see_ok {L : Nat} (h : AH) (x : Int32) (y : Int32) (P : Prop) [Decidable P] (c0 : Nat) (hc : h 3 2 = nI c0) (h5 : c0 ≤ 5) (t : Nat) (hx : inS x c0) (hy : inS y c0) (hb : h 33 5 = nI t) (ht : t < 6) : Rt L 1 105 [.ref 1, .int x, .int y, .int (b2i P)] h (some (nI (t + 1))) (st_ (st_ (st_ (st_ h 34 t x) 35 t y) 36 t (b2i P)) 33 5 (nI (t + 1))) := by
  refine T_run 3 (st' := (5, [.ref 1, .int x, .int y, .int (b2i P)], [.int x, .ref 3], S0 L, h)) rfl ?_
  refine T_callR (S' := [.int (b2i (inS x c0))]) (h' := h) (r_X5_hasChild (L := L) h x c0 hc h5) (by decide) rfl rfl rfl rfl rfl rfl rfl ?_
  refine T_iff (c := (b2i (inS x c0)) = 0) (t := 22) (f := 11) (L := [.ref 1, .int x, .int y, .int (b2i P)]) (S := []) (G := S0 L) (h := h) rfl (bz_t hx) ?_
  refine T_run 3 (st' := (16, [.ref 1, .int x, .int y, .int (b2i P)], [.int y, .ref 3], S0 L, h)) rfl ?_
  refine T_callR (S' := [.int (b2i (inS y c0))]) (h' := h) (r_X5_hasChild (L := L) h y c0 hc h5) (by decide) rfl rfl rfl rfl rfl rfl rfl ?_
  refine T_ift (c := ¬ (b2i (inS y c0)) = 0) (t := 25) (f := 22) (L := [.ref 1, .int x, .int y, .int (b2i P)]) (S := []) (G := S0 L) (h := h) rfl (bz_t hy) ?_
  refine T_run 4 (st' := (34, [.ref 1, .int x, .int y, .int (b2i P)], [.int 6, .int (h 33 5)], S0 L, h)) rfl ?_
  refine T_iftP (c := (h 33 5) < 6) (P := t < 6) (t := 40) (f := 37) (L := [.ref 1, .int x, .int y, .int (b2i P)]) (S := []) (G := S0 L) (h := h) rfl (nI_ltE hb rfl (by omega) (by omega)) (by omega) ?_
  refine T_run 5 (st' := (47, [.ref 1, .int x, .int y, .int (b2i P)], [.int (b2i P), .int y, .int x, .ref 33], S0 L, h)) rfl ?_
  refine T_callR (S' := []) (h' := (st_ (st_ (st_ (st_ h 34 t x) 35 t y) 36 t (b2i P)) 33 5 (nI (t + 1)))) (r_X7_addSeen (L := L) h x y P t hb ht) (by decide) rfl rfl rfl rfl rfl rfl rfl ?_
  refine T_run 3 (st' := (57, [.ref 1, .int x, .int y, .int (b2i P)], [.int (nI (t + 1))], S0 L, (st_ (st_ (st_ (st_ h 34 t x) 35 t y) 36 t (b2i P)) 33 5 (nI (t + 1))))) rfl ?_
  exact T_retR rfl rfl rfl rfl
theorem r_X8_write_unk {L : Nat} (h : AH) (x : Int32) (y : Int32) (c0 : Nat) (hc : h 3 2 = nI c0) (h5 : c0 ≤ 5) (hx : ¬ inS x c0) : Rt L 1 107 [.ref 1, .int x, .int y] h (some (-1000000001)) h := by
  refine T_run 3 (st' := (5, [.ref 1, .int x, .int y], [.int x, .ref 3], S0 L, h)) rfl ?_
  refine T_callR (S' := [.int (b2i (inS x c0))]) (h' := h) (r_X5_hasChild (L := L) h x c0 hc h5) (by decide) rfl rfl rfl rfl rfl rfl rfl ?_
  refine T_iff (c := ¬ (b2i (inS x c0)) = 0) (t := 14) (f := 11) (L := [.ref 1, .int x, .int y]) (S := []) (G := S0 L) (h := h) rfl (bnz_f hx) ?_
  refine T_run 1 (st' := (13, [.ref 1, .int x, .int y], [.int (-1000000001)], S0 L, h)) rfl ?_
  exact T_retR rfl rfl rfl rfl
theorem r_X8_write_out1 {L : Nat} (h : AH) (x : Int32) (y : Int32) (c0 : Nat) (hc : h 3 2 = nI c0) (h5 : c0 ≤ 5) (hx : inS x c0) (hy : y < 0) : Rt L 1 107 [.ref 1, .int x, .int y] h (some (-1000000002)) h := by
  refine T_run 3 (st' := (5, [.ref 1, .int x, .int y], [.int x, .ref 3], S0 L, h)) rfl ?_
  refine T_callR (S' := [.int (b2i (inS x c0))]) (h' := h) (r_X5_hasChild (L := L) h x c0 hc h5) (by decide) rfl rfl rfl rfl rfl rfl rfl ?_
  refine T_ift (c := ¬ (b2i (inS x c0)) = 0) (t := 14) (f := 11) (L := [.ref 1, .int x, .int y]) (S := []) (G := S0 L) (h := h) rfl (bz_t hx) ?_
  refine T_run 1 (st' := (15, [.ref 1, .int x, .int y], [.int y], S0 L, h)) rfl ?_
  refine T_ift (c := y < 0) (t := 25) (f := 18) (L := [.ref 1, .int x, .int y]) (S := []) (G := S0 L) (h := h) rfl hy ?_
  refine T_run 1 (st' := (27, [.ref 1, .int x, .int y], [.int (-1000000002)], S0 L, h)) rfl ?_
  exact T_retR rfl rfl rfl rfl
theorem r_X8_write_out2 {L : Nat} (h : AH) (x : Int32) (y : Int32) (c0 : Nat) (hc : h 3 2 = nI c0) (h5 : c0 ≤ 5) (hx : inS x c0) (hy : ¬ y < 0) (hy2 : ¬ y ≤ 999) : Rt L 1 107 [.ref 1, .int x, .int y] h (some (-1000000002)) h := by
  refine T_run 3 (st' := (5, [.ref 1, .int x, .int y], [.int x, .ref 3], S0 L, h)) rfl ?_
  refine T_callR (S' := [.int (b2i (inS x c0))]) (h' := h) (r_X5_hasChild (L := L) h x c0 hc h5) (by decide) rfl rfl rfl rfl rfl rfl rfl ?_
  refine T_ift (c := ¬ (b2i (inS x c0)) = 0) (t := 14) (f := 11) (L := [.ref 1, .int x, .int y]) (S := []) (G := S0 L) (h := h) rfl (bz_t hx) ?_
  refine T_run 1 (st' := (15, [.ref 1, .int x, .int y], [.int y], S0 L, h)) rfl ?_
  refine T_iff (c := y < 0) (t := 25) (f := 18) (L := [.ref 1, .int x, .int y]) (S := []) (G := S0 L) (h := h) rfl hy ?_
  refine T_run 2 (st' := (22, [.ref 1, .int x, .int y], [.int 999, .int y], S0 L, h)) rfl ?_
  refine T_iff (c := y ≤ 999) (t := 28) (f := 25) (L := [.ref 1, .int x, .int y]) (S := []) (G := S0 L) (h := h) rfl hy2 ?_
  refine T_run 1 (st' := (27, [.ref 1, .int x, .int y], [.int (-1000000002)], S0 L, h)) rfl ?_
  exact T_retR rfl rfl rfl rfl
theorem r_X8_write_full {L : Nat} (h : AH) (x : Int32) (y : Int32) (c0 : Nat) (hc : h 3 2 = nI c0) (h5 : c0 ≤ 5) (hx : inS x c0) (hy : ¬ y < 0) (hy2 : y ≤ 999) (hb : h 33 6 = nI 15) : Rt L 1 107 [.ref 1, .int x, .int y] h (some (-1000000004)) h := by
  refine T_run 3 (st' := (5, [.ref 1, .int x, .int y], [.int x, .ref 3], S0 L, h)) rfl ?_
  refine T_callR (S' := [.int (b2i (inS x c0))]) (h' := h) (r_X5_hasChild (L := L) h x c0 hc h5) (by decide) rfl rfl rfl rfl rfl rfl rfl ?_
  refine T_ift (c := ¬ (b2i (inS x c0)) = 0) (t := 14) (f := 11) (L := [.ref 1, .int x, .int y]) (S := []) (G := S0 L) (h := h) rfl (bz_t hx) ?_
  refine T_run 1 (st' := (15, [.ref 1, .int x, .int y], [.int y], S0 L, h)) rfl ?_
  refine T_iff (c := y < 0) (t := 25) (f := 18) (L := [.ref 1, .int x, .int y]) (S := []) (G := S0 L) (h := h) rfl hy ?_
  refine T_run 2 (st' := (22, [.ref 1, .int x, .int y], [.int 999, .int y], S0 L, h)) rfl ?_
  refine T_ift (c := y ≤ 999) (t := 28) (f := 25) (L := [.ref 1, .int x, .int y]) (S := []) (G := S0 L) (h := h) rfl hy2 ?_
  refine T_run 4 (st' := (37, [.ref 1, .int x, .int y], [.int 15, .int (h 33 6)], S0 L, h)) rfl ?_
  refine T_iffP (c := (h 33 6) < 15) (P := 15 < 15) (t := 43) (f := 40) (L := [.ref 1, .int x, .int y]) (S := []) (G := S0 L) (h := h) rfl (nI_ltE hb rfl (by omega) (by omega)) (by omega) ?_
  refine T_run 1 (st' := (42, [.ref 1, .int x, .int y], [.int (-1000000004)], S0 L, h)) rfl ?_
  exact T_retR rfl rfl rfl rfl
theorem r_X8_write_ok {L : Nat} (h : AH) (x : Int32) (y : Int32) (c0 : Nat) (hc : h 3 2 = nI c0) (h5 : c0 ≤ 5) (t : Nat) (hx : inS x c0) (hy : ¬ y < 0) (hy2 : y ≤ 999) (hb : h 33 6 = nI t) (ht : t < 15) : Rt L 1 107 [.ref 1, .int x, .int y] h (some (nI (t + 1))) (st_ (st_ (st_ h 37 t x) 38 t y) 33 6 (nI (t + 1))) := by
  refine T_run 3 (st' := (5, [.ref 1, .int x, .int y], [.int x, .ref 3], S0 L, h)) rfl ?_
  refine T_callR (S' := [.int (b2i (inS x c0))]) (h' := h) (r_X5_hasChild (L := L) h x c0 hc h5) (by decide) rfl rfl rfl rfl rfl rfl rfl ?_
  refine T_ift (c := ¬ (b2i (inS x c0)) = 0) (t := 14) (f := 11) (L := [.ref 1, .int x, .int y]) (S := []) (G := S0 L) (h := h) rfl (bz_t hx) ?_
  refine T_run 1 (st' := (15, [.ref 1, .int x, .int y], [.int y], S0 L, h)) rfl ?_
  refine T_iff (c := y < 0) (t := 25) (f := 18) (L := [.ref 1, .int x, .int y]) (S := []) (G := S0 L) (h := h) rfl hy ?_
  refine T_run 2 (st' := (22, [.ref 1, .int x, .int y], [.int 999, .int y], S0 L, h)) rfl ?_
  refine T_ift (c := y ≤ 999) (t := 28) (f := 25) (L := [.ref 1, .int x, .int y]) (S := []) (G := S0 L) (h := h) rfl hy2 ?_
  refine T_run 4 (st' := (37, [.ref 1, .int x, .int y], [.int 15, .int (h 33 6)], S0 L, h)) rfl ?_
  refine T_iftP (c := (h 33 6) < 15) (P := t < 15) (t := 43) (f := 40) (L := [.ref 1, .int x, .int y]) (S := []) (G := S0 L) (h := h) rfl (nI_ltE hb rfl (by omega) (by omega)) (by omega) ?_
  refine T_run 4 (st' := (49, [.ref 1, .int x, .int y], [.int y, .int x, .ref 33], S0 L, h)) rfl ?_
  refine T_callR (S' := []) (h' := (st_ (st_ (st_ h 37 t x) 38 t y) 33 6 (nI (t + 1)))) (r_X7_addEntry (L := L) h x y t hb ht) (by decide) rfl rfl rfl rfl rfl rfl rfl ?_
  refine T_run 3 (st' := (59, [.ref 1, .int x, .int y], [.int (nI (t + 1))], S0 L, (st_ (st_ (st_ h 37 t x) 38 t y) 33 6 (nI (t + 1))))) rfl ?_
  exact T_retR rfl rfl rfl rfl
theorem r_X8_light_out1 {L : Nat} (h : AH) (x : Int32) (y : Int32) (hx : x < 0) : Rt L 0 104 [.ref 1, .int x, .int y] h (some (-1000000002)) h := by
  refine T_run 1 (st' := (1, [.ref 1, .int x, .int y, un_, un_, un_], [.int x], S0 L, h)) rfl ?_
  refine T_ift (c := x < 0) (t := 20) (f := 4) (L := [.ref 1, .int x, .int y, un_, un_, un_]) (S := []) (G := S0 L) (h := h) rfl hx ?_
  refine T_run 1 (st' := (22, [.ref 1, .int x, .int y, un_, un_, un_], [.int (-1000000002)], S0 L, h)) rfl ?_
  exact T_retR rfl rfl rfl rfl
theorem r_X8_light_out2 {L : Nat} (h : AH) (x : Int32) (y : Int32) (hx : ¬ x < 0) (hx2 : 60 < x) : Rt L 0 104 [.ref 1, .int x, .int y] h (some (-1000000002)) h := by
  refine T_run 1 (st' := (1, [.ref 1, .int x, .int y, un_, un_, un_], [.int x], S0 L, h)) rfl ?_
  refine T_iff (c := x < 0) (t := 20) (f := 4) (L := [.ref 1, .int x, .int y, un_, un_, un_]) (S := []) (G := S0 L) (h := h) rfl hx ?_
  refine T_run 2 (st' := (7, [.ref 1, .int x, .int y, un_, un_, un_], [.int 60, .int x], S0 L, h)) rfl ?_
  refine T_ift (c := 60 < x) (t := 20) (f := 10) (L := [.ref 1, .int x, .int y, un_, un_, un_]) (S := []) (G := S0 L) (h := h) rfl hx2 ?_
  refine T_run 1 (st' := (22, [.ref 1, .int x, .int y, un_, un_, un_], [.int (-1000000002)], S0 L, h)) rfl ?_
  exact T_retR rfl rfl rfl rfl
theorem r_X8_light_out3 {L : Nat} (h : AH) (x : Int32) (y : Int32) (hx : ¬ x < 0) (hx2 : ¬ 60 < x) (hy : y < 0) : Rt L 0 104 [.ref 1, .int x, .int y] h (some (-1000000002)) h := by
  refine T_run 1 (st' := (1, [.ref 1, .int x, .int y, un_, un_, un_], [.int x], S0 L, h)) rfl ?_
  refine T_iff (c := x < 0) (t := 20) (f := 4) (L := [.ref 1, .int x, .int y, un_, un_, un_]) (S := []) (G := S0 L) (h := h) rfl hx ?_
  refine T_run 2 (st' := (7, [.ref 1, .int x, .int y, un_, un_, un_], [.int 60, .int x], S0 L, h)) rfl ?_
  refine T_iff (c := 60 < x) (t := 20) (f := 10) (L := [.ref 1, .int x, .int y, un_, un_, un_]) (S := []) (G := S0 L) (h := h) rfl hx2 ?_
  refine T_run 1 (st' := (11, [.ref 1, .int x, .int y, un_, un_, un_], [.int y], S0 L, h)) rfl ?_
  refine T_ift (c := y < 0) (t := 20) (f := 14) (L := [.ref 1, .int x, .int y, un_, un_, un_]) (S := []) (G := S0 L) (h := h) rfl hy ?_
  refine T_run 1 (st' := (22, [.ref 1, .int x, .int y, un_, un_, un_], [.int (-1000000002)], S0 L, h)) rfl ?_
  exact T_retR rfl rfl rfl rfl
theorem r_X8_light_out4 {L : Nat} (h : AH) (x : Int32) (y : Int32) (hx : ¬ x < 0) (hx2 : ¬ 60 < x) (hy : ¬ y < 0) (hy2 : ¬ y ≤ 100) : Rt L 0 104 [.ref 1, .int x, .int y] h (some (-1000000002)) h := by
  refine T_run 1 (st' := (1, [.ref 1, .int x, .int y, un_, un_, un_], [.int x], S0 L, h)) rfl ?_
  refine T_iff (c := x < 0) (t := 20) (f := 4) (L := [.ref 1, .int x, .int y, un_, un_, un_]) (S := []) (G := S0 L) (h := h) rfl hx ?_
  refine T_run 2 (st' := (7, [.ref 1, .int x, .int y, un_, un_, un_], [.int 60, .int x], S0 L, h)) rfl ?_
  refine T_iff (c := 60 < x) (t := 20) (f := 10) (L := [.ref 1, .int x, .int y, un_, un_, un_]) (S := []) (G := S0 L) (h := h) rfl hx2 ?_
  refine T_run 1 (st' := (11, [.ref 1, .int x, .int y, un_, un_, un_], [.int y], S0 L, h)) rfl ?_
  refine T_iff (c := y < 0) (t := 20) (f := 14) (L := [.ref 1, .int x, .int y, un_, un_, un_]) (S := []) (G := S0 L) (h := h) rfl hy ?_
  refine T_run 2 (st' := (17, [.ref 1, .int x, .int y, un_, un_, un_], [.int 100, .int y], S0 L, h)) rfl ?_
  refine T_iff (c := y ≤ 100) (t := 23) (f := 20) (L := [.ref 1, .int x, .int y, un_, un_, un_]) (S := []) (G := S0 L) (h := h) rfl hy2 ?_
  refine T_run 1 (st' := (22, [.ref 1, .int x, .int y, un_, un_, un_], [.int (-1000000002)], S0 L, h)) rfl ?_
  exact T_retR rfl rfl rfl rfl
theorem r_X8_light_ok {L : Nat} (h : AH) (m : Nat) (y : Int32) (hm : m ≤ 60) (hy : ¬ y < 0) (hy2 : y ≤ 100) : Rt L 0 104 [.ref 1, .int (nI m), .int y] h (some (Int64.toInt32 (lgtS y m))) h := by
  refine T_run 1 (st' := (1, [.ref 1, .int (nI m), .int y, un_, un_, un_], [.int (nI m)], S0 L, h)) rfl ?_
  refine T_iffP (c := (nI m) < 0) (P := m < 0) (t := 20) (f := 4) (L := [.ref 1, .int (nI m), .int y, un_, un_, un_]) (S := []) (G := S0 L) (h := h) rfl (nI_ltE rfl rfl (by omega) (by omega)) (by omega) ?_
  refine T_run 2 (st' := (7, [.ref 1, .int (nI m), .int y, un_, un_, un_], [.int 60, .int (nI m)], S0 L, h)) rfl ?_
  refine T_iffP (c := 60 < (nI m)) (P := 60 < m) (t := 20) (f := 10) (L := [.ref 1, .int (nI m), .int y, un_, un_, un_]) (S := []) (G := S0 L) (h := h) rfl (nI_ltE rfl rfl (by omega) (by omega)) (by omega) ?_
  refine T_run 1 (st' := (11, [.ref 1, .int (nI m), .int y, un_, un_, un_], [.int y], S0 L, h)) rfl ?_
  refine T_iff (c := y < 0) (t := 20) (f := 14) (L := [.ref 1, .int (nI m), .int y, un_, un_, un_]) (S := []) (G := S0 L) (h := h) rfl hy ?_
  refine T_run 2 (st' := (17, [.ref 1, .int (nI m), .int y, un_, un_, un_], [.int 100, .int y], S0 L, h)) rfl ?_
  refine T_ift (c := y ≤ 100) (t := 23) (f := 20) (L := [.ref 1, .int (nI m), .int y, un_, un_, un_]) (S := []) (G := S0 L) (h := h) rfl hy2 ?_
  refine T_run 4 (st' := (30, [.ref 1, .int (nI m), .int y, .long 1000000000, un_, .int 0], [], S0 L, h)) rfl ?_
  refine T_loop (fun k => (30, [.ref 1, .int (nI m), .int y, .long (lgtS y k), un_, .int (nI k)], [], S0 L, h)) m ?_ ?_
  · intro k hk ih
    refine T_run 2 (st' := (33, [.ref 1, .int (nI m), .int y, .long (lgtS y k), un_, .int (nI k)], [.int (nI m), .int (nI k)], S0 L, h)) rfl ?_
    refine T_iffP (c := (nI m) ≤ (nI k)) (P := m ≤ k) (t := 51) (f := 36) (L := [.ref 1, .int (nI m), .int y, .long (lgtS y k), un_, .int (nI k)]) (S := []) (G := S0 L) (h := h) rfl (nI_leE rfl rfl (by omega) (by omega)) (by omega) ?_
    refine T_run 5 (st' := (43, [.ref 1, .int (nI m), .int y, .long (lgtS y k), un_, .int (nI k)], [.long 100, .long ((lgtS y k) * (Int32.toInt64 y))], S0 L, h)) rfl ?_
    refine T_ldiv rfl (by decide) rfl ?_
    refine T_run 3 (st' := (30, [.ref 1, .int (nI m), .int y, .long (((lgtS y k) * (Int32.toInt64 y)) / 100), un_, .int (nI k + 1)], [], S0 L, h)) rfl ?_
    exact T_st (by rw [nI_1]; rfl) ih
  · skip
    refine T_run 2 (st' := (33, [.ref 1, .int (nI m), .int y, .long (lgtS y m), un_, .int (nI m)], [.int (nI m), .int (nI m)], S0 L, h)) rfl ?_
    refine T_iftP (c := (nI m) ≤ (nI m)) (P := m ≤ m) (t := 51) (f := 36) (L := [.ref 1, .int (nI m), .int y, .long (lgtS y m), un_, .int (nI m)]) (S := []) (G := S0 L) (h := h) rfl (nI_leE rfl rfl (by omega) (by omega)) (by omega) ?_
    refine T_run 2 (st' := (53, [.ref 1, .int (nI m), .int y, .long (lgtS y m), un_, .int (nI m)], [.int (Int64.toInt32 (lgtS y m))], S0 L, h)) rfl ?_
    exact T_retR rfl rfl rfl rfl
theorem r_X8_keep_unk1 {L : Nat} (h : AH) (x : Int32) (hx : x < 0) : Rt L 1 111 [.ref 1, .int x] h (some (-1000000001)) h := by
  refine T_run 1 (st' := (1, [.ref 1, .int x], [.int x], S0 L, h)) rfl ?_
  refine T_ift (c := x < 0) (t := 13) (f := 4) (L := [.ref 1, .int x]) (S := []) (G := S0 L) (h := h) rfl hx ?_
  refine T_run 1 (st' := (15, [.ref 1, .int x], [.int (-1000000001)], S0 L, h)) rfl ?_
  exact T_retR rfl rfl rfl rfl
theorem r_X8_keep_unk2 {L : Nat} (h : AH) (x : Int32) (hx : ¬ x < 0) (hx2 : ¬ x < 2) : Rt L 1 111 [.ref 1, .int x] h (some (-1000000001)) h := by
  refine T_run 1 (st' := (1, [.ref 1, .int x], [.int x], S0 L, h)) rfl ?_
  refine T_iff (c := x < 0) (t := 13) (f := 4) (L := [.ref 1, .int x]) (S := []) (G := S0 L) (h := h) rfl hx ?_
  refine T_run 4 (st' := (10, [.ref 1, .int x], [.int 2, .int x], S0 L, h)) rfl ?_
  refine T_iff (c := x < 2) (t := 16) (f := 13) (L := [.ref 1, .int x]) (S := []) (G := S0 L) (h := h) rfl hx2 ?_
  refine T_run 1 (st' := (15, [.ref 1, .int x], [.int (-1000000001)], S0 L, h)) rfl ?_
  exact T_retR rfl rfl rfl rfl
theorem r_X8_goBack_unk1 {L : Nat} (h : AH) (x : Int32) (hx : x < 0) : Rt L 1 112 [.ref 1, .int x] h (some (-1000000001)) h := by
  refine T_run 1 (st' := (1, [.ref 1, .int x], [.int x], S0 L, h)) rfl ?_
  refine T_ift (c := x < 0) (t := 13) (f := 4) (L := [.ref 1, .int x]) (S := []) (G := S0 L) (h := h) rfl hx ?_
  refine T_run 1 (st' := (15, [.ref 1, .int x], [.int (-1000000001)], S0 L, h)) rfl ?_
  exact T_retR rfl rfl rfl rfl
theorem r_X8_goBack_unk2 {L : Nat} (h : AH) (x : Int32) (hx : ¬ x < 0) (hx2 : ¬ x < 2) : Rt L 1 112 [.ref 1, .int x] h (some (-1000000001)) h := by
  refine T_run 1 (st' := (1, [.ref 1, .int x], [.int x], S0 L, h)) rfl ?_
  refine T_iff (c := x < 0) (t := 13) (f := 4) (L := [.ref 1, .int x]) (S := []) (G := S0 L) (h := h) rfl hx ?_
  refine T_run 4 (st' := (10, [.ref 1, .int x], [.int 2, .int x], S0 L, h)) rfl ?_
  refine T_iff (c := x < 2) (t := 16) (f := 13) (L := [.ref 1, .int x]) (S := []) (G := S0 L) (h := h) rfl hx2 ?_
  refine T_run 1 (st' := (15, [.ref 1, .int x], [.int (-1000000001)], S0 L, h)) rfl ?_
  exact T_retR rfl rfl rfl rfl
theorem r_X8_keep_ok0 {L : Nat} (h : AH) (x : Int32) (hx : x = 0) : Rt L 1 111 [.ref 1, .int x] h (some 1) (st_ (st_ (st_ (st_ (sc_ h 40 (va_cpy (h 17) (h 40) 0 0 22)) 39 1 (h 1 13)) 39 2 1) 18 1 0) 18 2 0) := by
  subst hx
  refine T_run 1 (st' := (1, [.ref 1, .int 0], [.int 0], S0 L, h)) rfl ?_
  refine T_iffP (c := 0 < 0) (P := 0 < 0) (t := 13) (f := 4) (L := [.ref 1, .int 0]) (S := []) (G := S0 L) (h := h) rfl (nI_ltE rfl rfl (by omega) (by omega)) (by decide) ?_
  refine T_run 4 (st' := (10, [.ref 1, .int 0], [.int 2, .int 0], S0 L, h)) rfl ?_
  refine T_iftP (c := 0 < 2) (P := 0 < 2) (t := 16) (f := 13) (L := [.ref 1, .int 0]) (S := []) (G := S0 L) (h := h) rfl (nI_ltE rfl rfl (by omega) (by omega)) (by decide) ?_
  refine T_run 3 (st' := (21, [.ref 1, .int 0], [.int 0, .ref 20], S0 L, h)) rfl ?_
  refine T_aald (n := 0) rfl rfl rfl (by decide) (by decide) rfl rfl ?_
  refine T_run 5 (st' := (33, [.ref 1, .int 0], [.int (h 1 13), .ref 17, .ref 39], S0 L, h)) rfl ?_
  refine T_callR (S' := []) (h' := (st_ (st_ (sc_ h 40 (va_cpy (h 17) (h 40) 0 0 22)) 39 1 (h 1 13)) 39 2 1)) (r_X1_take39 (L := L) h (h 1 13) ) (by decide) rfl rfl rfl rfl rfl rfl rfl ?_
  refine T_run 2 (st' := (40, [.ref 1, .int 0], [.ref 18], S0 L, (st_ (st_ (sc_ h 40 (va_cpy (h 17) (h 40) 0 0 22)) 39 1 (h 1 13)) 39 2 1))) rfl ?_
  refine T_callR (S' := []) (h' := (st_ (st_ (st_ (st_ (sc_ h 40 (va_cpy (h 17) (h 40) 0 0 22)) 39 1 (h 1 13)) 39 2 1) 18 1 0) 18 2 0)) (r_X3_wipe (L := L) (st_ (st_ (sc_ h 40 (va_cpy (h 17) (h 40) 0 0 22)) 39 1 (h 1 13)) 39 2 1)  ) (by decide) rfl rfl rfl rfl rfl rfl rfl ?_
  refine T_run 1 (st' := (44, [.ref 1, .int 0], [.int 1], S0 L, (st_ (st_ (st_ (st_ (sc_ h 40 (va_cpy (h 17) (h 40) 0 0 22)) 39 1 (h 1 13)) 39 2 1) 18 1 0) 18 2 0))) rfl ?_
  exact T_retR rfl rfl rfl rfl
theorem r_X8_goBack_not0 {L : Nat} (h : AH) (x : Int32) (hx : x = 0) (hq : h 39 2 = 0) : Rt L 1 112 [.ref 1, .int x] h (some (-1000000003)) h := by
  subst hx
  refine T_run 1 (st' := (1, [.ref 1, .int 0], [.int 0], S0 L, h)) rfl ?_
  refine T_iffP (c := 0 < 0) (P := 0 < 0) (t := 13) (f := 4) (L := [.ref 1, .int 0]) (S := []) (G := S0 L) (h := h) rfl (nI_ltE rfl rfl (by omega) (by omega)) (by decide) ?_
  refine T_run 4 (st' := (10, [.ref 1, .int 0], [.int 2, .int 0], S0 L, h)) rfl ?_
  refine T_iftP (c := 0 < 2) (P := 0 < 2) (t := 16) (f := 13) (L := [.ref 1, .int 0]) (S := []) (G := S0 L) (h := h) rfl (nI_ltE rfl rfl (by omega) (by omega)) (by decide) ?_
  refine T_run 3 (st' := (21, [.ref 1, .int 0], [.int 0, .ref 20], S0 L, h)) rfl ?_
  refine T_aald (n := 0) rfl rfl rfl (by decide) (by decide) rfl rfl ?_
  refine T_run 1 (st' := (25, [.ref 1, .int 0], [.int (h 39 2)], S0 L, h)) rfl ?_
  refine T_iff (c := ¬ (h 39 2) = 0) (t := 31) (f := 28) (L := [.ref 1, .int 0]) (S := []) (G := S0 L) (h := h) rfl (fun z => z hq) ?_
  refine T_run 1 (st' := (30, [.ref 1, .int 0], [.int (-1000000003)], S0 L, h)) rfl ?_
  exact T_retR rfl rfl rfl rfl
theorem r_X8_goBack_ok0 {L : Nat} (h : AH) (x : Int32) (hx : x = 0) (hq : ¬ h 39 2 = 0) : Rt L 1 112 [.ref 1, .int x] h (some 1) (st_ (st_ (st_ (sc_ h 17 (va_cpy (h 40) (h 17) 0 0 22)) 1 13 (h 39 1)) 18 1 0) 18 2 0) := by
  subst hx
  refine T_run 1 (st' := (1, [.ref 1, .int 0], [.int 0], S0 L, h)) rfl ?_
  refine T_iffP (c := 0 < 0) (P := 0 < 0) (t := 13) (f := 4) (L := [.ref 1, .int 0]) (S := []) (G := S0 L) (h := h) rfl (nI_ltE rfl rfl (by omega) (by omega)) (by decide) ?_
  refine T_run 4 (st' := (10, [.ref 1, .int 0], [.int 2, .int 0], S0 L, h)) rfl ?_
  refine T_iftP (c := 0 < 2) (P := 0 < 2) (t := 16) (f := 13) (L := [.ref 1, .int 0]) (S := []) (G := S0 L) (h := h) rfl (nI_ltE rfl rfl (by omega) (by omega)) (by decide) ?_
  refine T_run 3 (st' := (21, [.ref 1, .int 0], [.int 0, .ref 20], S0 L, h)) rfl ?_
  refine T_aald (n := 0) rfl rfl rfl (by decide) (by decide) rfl rfl ?_
  refine T_run 1 (st' := (25, [.ref 1, .int 0], [.int (h 39 2)], S0 L, h)) rfl ?_
  refine T_ift (c := ¬ (h 39 2) = 0) (t := 31) (f := 28) (L := [.ref 1, .int 0]) (S := []) (G := S0 L) (h := h) rfl hq ?_
  refine T_run 3 (st' := (36, [.ref 1, .int 0], [.int 0, .ref 20], S0 L, h)) rfl ?_
  refine T_aald (n := 0) rfl rfl rfl (by decide) (by decide) rfl rfl ?_
  refine T_run 3 (st' := (44, [.ref 1, .int 0], [.ref 17, .ref 39], S0 L, h)) rfl ?_
  refine T_callR (S' := []) (h' := (sc_ h 17 (va_cpy (h 40) (h 17) 0 0 22))) (r_X1_giveTo39 (L := L) h  ) (by decide) rfl rfl rfl rfl rfl rfl rfl ?_
  refine T_run 4 (st' := (53, [.ref 1, .int 0], [.int 0, .ref 20, .ref 1], S0 L, (sc_ h 17 (va_cpy (h 40) (h 17) 0 0 22)))) rfl ?_
  refine T_aald (n := 0) rfl rfl rfl (by decide) (by decide) rfl rfl ?_
  refine T_run 4 (st' := (64, [.ref 1, .int 0], [.ref 18], S0 L, (st_ (sc_ h 17 (va_cpy (h 40) (h 17) 0 0 22)) 1 13 (h 39 1)))) rfl ?_
  refine T_callR (S' := []) (h' := (st_ (st_ (st_ (sc_ h 17 (va_cpy (h 40) (h 17) 0 0 22)) 1 13 (h 39 1)) 18 1 0) 18 2 0)) (r_X3_wipe (L := L) (st_ (sc_ h 17 (va_cpy (h 40) (h 17) 0 0 22)) 1 13 (h 39 1))  ) (by decide) rfl rfl rfl rfl rfl rfl rfl ?_
  refine T_run 1 (st' := (68, [.ref 1, .int 0], [.int 1], S0 L, (st_ (st_ (st_ (sc_ h 17 (va_cpy (h 40) (h 17) 0 0 22)) 1 13 (h 39 1)) 18 1 0) 18 2 0))) rfl ?_
  exact T_retR rfl rfl rfl rfl
theorem r_X8_keep_ok1 {L : Nat} (h : AH) (x : Int32) (hx : x = 1) : Rt L 1 111 [.ref 1, .int x] h (some 1) (st_ (st_ (st_ (st_ (sc_ h 42 (va_cpy (h 17) (h 42) 0 0 22)) 41 1 (h 1 13)) 41 2 1) 18 1 0) 18 2 0) := by
  subst hx
  refine T_run 1 (st' := (1, [.ref 1, .int 1], [.int 1], S0 L, h)) rfl ?_
  refine T_iffP (c := 1 < 0) (P := 1 < 0) (t := 13) (f := 4) (L := [.ref 1, .int 1]) (S := []) (G := S0 L) (h := h) rfl (nI_ltE rfl rfl (by omega) (by omega)) (by decide) ?_
  refine T_run 4 (st' := (10, [.ref 1, .int 1], [.int 2, .int 1], S0 L, h)) rfl ?_
  refine T_iftP (c := 1 < 2) (P := 1 < 2) (t := 16) (f := 13) (L := [.ref 1, .int 1]) (S := []) (G := S0 L) (h := h) rfl (nI_ltE rfl rfl (by omega) (by omega)) (by decide) ?_
  refine T_run 3 (st' := (21, [.ref 1, .int 1], [.int 1, .ref 20], S0 L, h)) rfl ?_
  refine T_aald (n := 1) rfl rfl rfl (by decide) (by decide) rfl rfl ?_
  refine T_run 5 (st' := (33, [.ref 1, .int 1], [.int (h 1 13), .ref 17, .ref 41], S0 L, h)) rfl ?_
  refine T_callR (S' := []) (h' := (st_ (st_ (sc_ h 42 (va_cpy (h 17) (h 42) 0 0 22)) 41 1 (h 1 13)) 41 2 1)) (r_X1_take41 (L := L) h (h 1 13) ) (by decide) rfl rfl rfl rfl rfl rfl rfl ?_
  refine T_run 2 (st' := (40, [.ref 1, .int 1], [.ref 18], S0 L, (st_ (st_ (sc_ h 42 (va_cpy (h 17) (h 42) 0 0 22)) 41 1 (h 1 13)) 41 2 1))) rfl ?_
  refine T_callR (S' := []) (h' := (st_ (st_ (st_ (st_ (sc_ h 42 (va_cpy (h 17) (h 42) 0 0 22)) 41 1 (h 1 13)) 41 2 1) 18 1 0) 18 2 0)) (r_X3_wipe (L := L) (st_ (st_ (sc_ h 42 (va_cpy (h 17) (h 42) 0 0 22)) 41 1 (h 1 13)) 41 2 1)  ) (by decide) rfl rfl rfl rfl rfl rfl rfl ?_
  refine T_run 1 (st' := (44, [.ref 1, .int 1], [.int 1], S0 L, (st_ (st_ (st_ (st_ (sc_ h 42 (va_cpy (h 17) (h 42) 0 0 22)) 41 1 (h 1 13)) 41 2 1) 18 1 0) 18 2 0))) rfl ?_
  exact T_retR rfl rfl rfl rfl
theorem r_X8_goBack_not1 {L : Nat} (h : AH) (x : Int32) (hx : x = 1) (hq : h 41 2 = 0) : Rt L 1 112 [.ref 1, .int x] h (some (-1000000003)) h := by
  subst hx
  refine T_run 1 (st' := (1, [.ref 1, .int 1], [.int 1], S0 L, h)) rfl ?_
  refine T_iffP (c := 1 < 0) (P := 1 < 0) (t := 13) (f := 4) (L := [.ref 1, .int 1]) (S := []) (G := S0 L) (h := h) rfl (nI_ltE rfl rfl (by omega) (by omega)) (by decide) ?_
  refine T_run 4 (st' := (10, [.ref 1, .int 1], [.int 2, .int 1], S0 L, h)) rfl ?_
  refine T_iftP (c := 1 < 2) (P := 1 < 2) (t := 16) (f := 13) (L := [.ref 1, .int 1]) (S := []) (G := S0 L) (h := h) rfl (nI_ltE rfl rfl (by omega) (by omega)) (by decide) ?_
  refine T_run 3 (st' := (21, [.ref 1, .int 1], [.int 1, .ref 20], S0 L, h)) rfl ?_
  refine T_aald (n := 1) rfl rfl rfl (by decide) (by decide) rfl rfl ?_
  refine T_run 1 (st' := (25, [.ref 1, .int 1], [.int (h 41 2)], S0 L, h)) rfl ?_
  refine T_iff (c := ¬ (h 41 2) = 0) (t := 31) (f := 28) (L := [.ref 1, .int 1]) (S := []) (G := S0 L) (h := h) rfl (fun z => z hq) ?_
  refine T_run 1 (st' := (30, [.ref 1, .int 1], [.int (-1000000003)], S0 L, h)) rfl ?_
  exact T_retR rfl rfl rfl rfl
theorem r_X8_goBack_ok1 {L : Nat} (h : AH) (x : Int32) (hx : x = 1) (hq : ¬ h 41 2 = 0) : Rt L 1 112 [.ref 1, .int x] h (some 1) (st_ (st_ (st_ (sc_ h 17 (va_cpy (h 42) (h 17) 0 0 22)) 1 13 (h 41 1)) 18 1 0) 18 2 0) := by
  subst hx
  refine T_run 1 (st' := (1, [.ref 1, .int 1], [.int 1], S0 L, h)) rfl ?_
  refine T_iffP (c := 1 < 0) (P := 1 < 0) (t := 13) (f := 4) (L := [.ref 1, .int 1]) (S := []) (G := S0 L) (h := h) rfl (nI_ltE rfl rfl (by omega) (by omega)) (by decide) ?_
  refine T_run 4 (st' := (10, [.ref 1, .int 1], [.int 2, .int 1], S0 L, h)) rfl ?_
  refine T_iftP (c := 1 < 2) (P := 1 < 2) (t := 16) (f := 13) (L := [.ref 1, .int 1]) (S := []) (G := S0 L) (h := h) rfl (nI_ltE rfl rfl (by omega) (by omega)) (by decide) ?_
  refine T_run 3 (st' := (21, [.ref 1, .int 1], [.int 1, .ref 20], S0 L, h)) rfl ?_
  refine T_aald (n := 1) rfl rfl rfl (by decide) (by decide) rfl rfl ?_
  refine T_run 1 (st' := (25, [.ref 1, .int 1], [.int (h 41 2)], S0 L, h)) rfl ?_
  refine T_ift (c := ¬ (h 41 2) = 0) (t := 31) (f := 28) (L := [.ref 1, .int 1]) (S := []) (G := S0 L) (h := h) rfl hq ?_
  refine T_run 3 (st' := (36, [.ref 1, .int 1], [.int 1, .ref 20], S0 L, h)) rfl ?_
  refine T_aald (n := 1) rfl rfl rfl (by decide) (by decide) rfl rfl ?_
  refine T_run 3 (st' := (44, [.ref 1, .int 1], [.ref 17, .ref 41], S0 L, h)) rfl ?_
  refine T_callR (S' := []) (h' := (sc_ h 17 (va_cpy (h 42) (h 17) 0 0 22))) (r_X1_giveTo41 (L := L) h  ) (by decide) rfl rfl rfl rfl rfl rfl rfl ?_
  refine T_run 4 (st' := (53, [.ref 1, .int 1], [.int 1, .ref 20, .ref 1], S0 L, (sc_ h 17 (va_cpy (h 42) (h 17) 0 0 22)))) rfl ?_
  refine T_aald (n := 1) rfl rfl rfl (by decide) (by decide) rfl rfl ?_
  refine T_run 4 (st' := (64, [.ref 1, .int 1], [.ref 18], S0 L, (st_ (sc_ h 17 (va_cpy (h 42) (h 17) 0 0 22)) 1 13 (h 41 1)))) rfl ?_
  refine T_callR (S' := []) (h' := (st_ (st_ (st_ (sc_ h 17 (va_cpy (h 42) (h 17) 0 0 22)) 1 13 (h 41 1)) 18 1 0) 18 2 0)) (r_X3_wipe (L := L) (st_ (sc_ h 17 (va_cpy (h 42) (h 17) 0 0 22)) 1 13 (h 41 1))  ) (by decide) rfl rfl rfl rfl rfl rfl rfl ?_
  refine T_run 1 (st' := (68, [.ref 1, .int 1], [.int 1], S0 L, (st_ (st_ (st_ (sc_ h 17 (va_cpy (h 42) (h 17) 0 0 22)) 1 13 (h 41 1)) 18 1 0) 18 2 0))) rfl ?_
  exact T_retR rfl rfl rfl rfl

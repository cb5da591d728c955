section CLH
variable {L N b c n : Nat} {t : Rw} {g : AH}
theorem cl_h (H : CS t N b g) (hsk : skp t N b = b) (hN2 : N ≤ 240) (hb : b < N) (C : RdC 1 c n g) (hw : ltS t N b = 104) : ClO L N b t 1 c n g := by
  obtain ⟨e2, eN, ea, ef, ep⟩ := id H
  obtain ⟨⟨c0, _⟩, ⟨c2, c5⟩, ⟨c3, n7⟩, cch⟩ := id C
  have ht : ¬ g 9 0 = 0 := by rw [c0]; decide
  have hwc : ltS (g 2) N b = 104 := by rw [e2]; exact hw
  have k1 := ne_le (t := t) (N := N) (a := b + 1) hb
  have k2 := ne_le (t := t) (N := N) (a := nE t N (b + 1)) k1.2.2
  have k3 := sk_le (t := t) (N := N) (a := nE t N (nE t N (b + 1))) k2.2.2
  have htR : ∀ g', RdR 1 c n g g' → ¬ g' 43 17 = 0 := fun g' R => by rw [R.1.1]; decide
  have r0 := cl_w1 (L := L) H (by omega)
  by_cases F1 : nF t N (b + 1) 0 (nI c - 1) = 0
  · have r1 : Rt L 2 56 [.ref 15, .int 0, .int (g 9 2 - 1)] (rdH g (nI (b + 1)) (g 15 4) 0 (-1)) (some (nV t N (b + 1))) (rdH g (nI (nE t N (b + 1))) (nI (skp t N (b + 1))) 0 (-1)) := by
      rw [c2]
      exact rn_ok e2 eN hN2 (by omega) F1
    have rrO : ∀ g', RS t N b g' → RdR 1 c n g g' → Rt L 1 125 [.ref 43, .int 0, .int (g' 43 19 - 1)] (st_ g' 43 14 (nI (b + 1))) (some 0) (st_ (st_ (st_ (st_ g' 43 14 (nI (b + 1))) 43 14 (nI (nE t N (b + 1)))) 43 16 (nI (skp t N (b + 1)))) 43 15 (nV t N (b + 1))) := fun g' S R => by
      rw [R.2.1]
      exact tn_ok (L := L) (h := (st_ g' 43 14 (nI (b + 1)))) (t := t) (N := N) (a := b + 1) (lo := 0) (hi := (nI c - 1)) S.1 S.2.1 hN2 rfl (by omega) F1
    by_cases F2 : nF t N (nE t N (b + 1)) 0 (nI c - 1) = 0
    · have r2 : Rt L 2 56 [.ref 15, .int 0, .int (g 9 2 - 1)] (rdH g (nI (nE t N (b + 1))) (nI (skp t N (b + 1))) 0 (-1)) (some (nV t N (nE t N (b + 1)))) (rdH g (nI (nE t N (nE t N (b + 1)))) (nI (skp t N (nE t N (b + 1)))) 0 (-1)) := by
        rw [c2]
        exact rn_ok e2 eN hN2 (by omega) F2
      have rrP : ∀ g', RS t N b g' → RdR 1 c n g g' → Rt L 1 125 [.ref 43, .int 0, .int (g' 43 19 - 1)] (st_ (st_ (st_ (st_ g' 43 14 (nI (b + 1))) 43 14 (nI (nE t N (b + 1)))) 43 16 (nI (skp t N (b + 1)))) 43 15 (nV t N (b + 1))) (some 0) (st_ (st_ (st_ (st_ (st_ (st_ (st_ g' 43 14 (nI (b + 1))) 43 14 (nI (nE t N (b + 1)))) 43 16 (nI (skp t N (b + 1)))) 43 15 (nV t N (b + 1))) 43 14 (nI (nE t N (nE t N (b + 1))))) 43 16 (nI (skp t N (nE t N (b + 1))))) 43 15 (nV t N (nE t N (b + 1)))) := fun g' S R => by
        rw [R.2.1]
        exact tn_ok (L := L) (h := (st_ (st_ (st_ (st_ g' 43 14 (nI (b + 1))) 43 14 (nI (nE t N (b + 1)))) 43 16 (nI (skp t N (b + 1)))) 43 15 (nV t N (b + 1)))) (t := t) (N := N) (a := nE t N (b + 1)) (lo := 0) (hi := (nI c - 1)) S.1 S.2.1 hN2 rfl (by omega) F2
      obtain ⟨gi, hgi, ev1⟩ := nF_ix c5 F1
      obtain ⟨k, hk, ev2⟩ := nF_ix c5 F2
      have rc := r_X5_canHandDown (L := L) (rdH g (nI (nE t N (nE t N (b + 1)))) (nI (skp t N (nE t N (b + 1)))) 0 (-1)) gi k c c2 c5 cch hgi hk
      have rc : Rt L 2 69 [.ref 9, .int (nV t N (b + 1)), .int (nV t N (nE t N (b + 1)))] (rdH g (nI (nE t N (nE t N (b + 1)))) (nI (skp t N (nE t N (b + 1)))) 0 (-1)) (some (b2i (¬ gi = k ∧ g 12 k = -1 ∧ ¬ upS (g 12) k c gi = true))) (rdH g (nI (nE t N (nE t N (b + 1)))) (nI (skp t N (nE t N (b + 1)))) 0 (-1)) := by
        rw [ev1, ev2]
        exact rc
      have upE : ∀ g', RdR 1 c n g g' → upS (g 12) k c gi = upS (g' 53) k c gi := fun g' R => upS_congr (by omega) R.2.2.2.2.2.1 (fun i hi => (R.2.2.2.1 i hi).2.2.1) c gi hgi
      by_cases P : ¬ gi = k ∧ g 12 k = -1 ∧ ¬ upS (g 12) k c gi = true
      · rw [b2i_t P] at rc
        have hbad : ∀ g', RdR 1 c n g g' → (decide (¬ g' 53 k = -1) || (decide (gi = k) || upS (g' 53) k c gi)) = false := fun g' R => by
          obtain ⟨p1, p2, p3⟩ := P
          rw [upE g' R] at p3
          rw [(R.2.2.2.1 k hk).2.2.1] at p2
          simp [p1, p2, p3]
        have okR : ∀ g', RS t N b g' → RdR 1 c n g g' → Rt L 2 130 [.ref 43] (st_ g' 43 14 (nI (b + 1))) (some 0) (st_ (st_ (st_ (st_ (st_ (st_ (st_ (st_ g' 43 14 (nI (b + 1))) 43 14 (nI (nE t N (b + 1)))) 43 16 (nI (skp t N (b + 1)))) 43 15 (nV t N (b + 1))) 43 14 (nI (nE t N (nE t N (b + 1))))) 43 16 (nI (skp t N (nE t N (b + 1))))) 43 15 (nV t N (nE t N (b + 1)))) 53 k (nV t N (b + 1))) := fun g' S R =>
          r_X9_takeHanded_ok (st_ g' 43 14 (nI (b + 1))) _ _ (rrO g' S R) (by decide) _ _ (rrP g' S R) (by decide) c c5 gi k hgi hk ev1 ev2 R.2.2.2.2.2.1 R.2.2.2.2.2.2 (hbad g' R)
        by_cases E : ltS t N (skp t N (nE t N (nE t N (b + 1)))) = 59
        · have r3 := re_ok (L := L) (h := g) (t := t) (m := nI (skp t N (nE t N (b + 1)))) (f := 0) (p := -1) (a := nE t N (nE t N (b + 1))) e2 eN hN2 (by omega) E
          have r := r_X4_readClause_h g N eN hN2 b ea (by omega) ht hwc _ (r_X4_readHanding_ok g _ r0 _ _ r1 _ _ r2 rfl rc _ r3 rfl k ev2 (by omega))
          have k4 := lt59 E
          have e12 : st_ (rdH g (nI (skp t N (nE t N (nE t N (b + 1))) + 1)) (nI (skp t N (nE t N (b + 1)))) 0 (-1)) 12 k (nV t N (b + 1)) 12 = upd (g 12) k (nV t N (b + 1)) := by
            rw [st_row, rdH_r (by decide)]
          have ich : inCh (st_ (rdH g (nI (skp t N (nE t N (nE t N (b + 1))) + 1)) (nI (skp t N (nE t N (b + 1)))) 0 (-1)) 12 k (nV t N (b + 1)) 12) c := by
            rw [e12, ev1]
            intro i hi
            by_cases e : i = k
            · subst e
              exact Or.inr ⟨gi, hgi, upd_at⟩
            · rw [upd_ne e]
              exact cch i hi
          refine ⟨0, skp t N (nE t N (nE t N (b + 1))) + 1, 1, c, n, _, r, by repeat (first | refine FrC.rd ?_ | refine FrC.st ?_ (by omega) | exact FrC.rf), by decide, eN, rfl, by omega, rfl, fun _ => ⟨by omega, by omega, rfl, ⟨c0, Or.inr rfl⟩, ⟨c2, c5⟩, ⟨c3, n7⟩, ich⟩, fun g' S R => ?_⟩
          obtain ⟨e50, eN', ea', ep'⟩ := id S
          refine ⟨_, tc_h_ok S hsk hN2 hb hw (htR g' R) (okR g' S R) e50 eN' (e := nE t N (nE t N (b + 1))) rfl (by omega) E, by repeat (first | refine FrR.st ?_ (by omega) | exact FrR.rf), ep'.symm, fun _ => ⟨rfl, ⟨R.1.1, R.1.2⟩, R.2.1, R.2.2.1, ?_, R.2.2.2.2.1, ?_⟩⟩
          · intro i hi
            simp only [st_o, st_row, rdH_r, upd_at, not_false_eq_true, Nat.reduceEqDiff]
            obtain ⟨a1, a2, a3, a4⟩ := R.2.2.2.1 i hi
            refine ⟨a1, a2, ?_, a4⟩
            by_cases e : i = k
            · subst e
              simp only [upd_at]
            · simp only [upd_ne e]
              exact a3
          · simp only [st_o, st_row, rdH_r, upd_at, not_false_eq_true, Nat.reduceEqDiff]
            rw [ev1]
            have hb2 := hbad g' R
            simp only [Bool.or_eq_false_iff, decide_eq_false_iff_not, Classical.not_not] at hb2
            exact link_root (by omega) R.2.2.2.2.2.1 R.2.2.2.2.2.2 hk hgi hb2.1 hb2.2.1 hb2.2.2
        · have r3 := re_bd (L := L) (h := g) (t := t) (m := nI (skp t N (nE t N (b + 1)))) (p := -1) (a := nE t N (nE t N (b + 1))) e2 eN hN2 (by omega) E
          have r := r_X4_readClause_h g N eN hN2 b ea (by omega) ht hwc _ (r_X4_readHanding_end g _ r0 _ _ r1 _ _ r2 rfl rc _ r3 (show ¬ (1 : Int32) = 0 by decide))
          refine ClO_bad (f := 1) (by decide) (by decide) (by omega) r FrC.rf eN (fun g' S R => ?_)
          obtain ⟨e50, eN', ea', ep'⟩ := id S
          exact ⟨_, tc_h_end S hsk hN2 hb hw (htR g' R) (okR g' S R) e50 eN' (e := nE t N (nE t N (b + 1))) rfl (by omega) E, by repeat (first | refine FrR.st ?_ (by omega) | exact FrR.rf), rfl⟩
      · rw [b2i_f P] at rc
        have q4 : st_ (st_ (rdH g (nI (nE t N (nE t N (b + 1)))) (nI (skp t N (nE t N (b + 1)))) 0 (-1)) 15 5 4) 15 6 ((rdH g (nI (nE t N (nE t N (b + 1)))) (nI (skp t N (nE t N (b + 1)))) 0 (-1)) 15 4) = rdH g (nI (nE t N (nE t N (b + 1)))) (nI (skp t N (nE t N (b + 1)))) 4 (nI (skp t N (nE t N (b + 1)))) := by
          rw [rdH_5, rdH_6]
          rfl
        have r3 := re_dd (L := L) (h := g) (t := t) (m := nI (skp t N (nE t N (b + 1)))) (f := 4) (p := nI (skp t N (nE t N (b + 1)))) (a := nE t N (nE t N (b + 1))) e2 eN hN2 (by omega) (by decide)
        rw [← q4] at r3
        have r := r_X4_readClause_h g N eN hN2 b ea (by omega) ht hwc _ (r_X4_readHanding_no g _ r0 _ _ r1 _ _ r2 rfl rc _ r3 (show ¬ (4 : Int32) = 0 by decide))
        refine ClO_bad (f := 4) (by decide) (by decide) (by omega) r FrC.rf eN (fun g' S R => ?_)
        obtain ⟨e50, eN', ea', ep'⟩ := id S
        have hbad : (decide (¬ g' 53 k = -1) || (decide (gi = k) || upS (g' 53) k c gi)) = true := by
          rw [upE g' R, (R.2.2.2.1 k hk).2.2.1] at P
          by_cases p1 : gi = k
          · simp [p1]
          · by_cases p2 : g' 53 k = -1
            · by_cases p3 : upS (g' 53) k c gi = true
              · simp [p3]
              · exact absurd ⟨p1, p2, p3⟩ P
            · simp [p2]
        have rN := r_X9_takeHanded_no (st_ g' 43 14 (nI (b + 1))) _ _ (rrO g' S R) (by decide) _ _ (rrP g' S R) (by decide) c c5 gi k hgi hk ev1 ev2 R.2.2.2.2.2.1 R.2.2.2.2.2.2 hbad
        exact ⟨_, tc_h_bad S hsk hN2 hb hw (htR g' R) rN (by decide), by repeat (first | refine FrR.st ?_ (by omega) | exact FrR.rf), rfl⟩
    · have z := nF_nz F2
      have r2 : Rt L 2 56 [.ref 15, .int 0, .int (g 9 2 - 1)] (rdH g (nI (nE t N (b + 1))) (nI (skp t N (b + 1))) 0 (-1)) (some (nV t N (nE t N (b + 1)))) (rdH g (nI (nE t N (nE t N (b + 1)))) (nI (skp t N (nE t N (b + 1)))) (nI (nF t N (nE t N (b + 1)) 0 (nI c - 1))) (nI (skp t N (nE t N (b + 1))))) := by
        rw [c2]
        exact rn_bd e2 eN hN2 (by omega) F2
      have r3 := re_dd (L := L) (h := g) (t := t) (m := nI (skp t N (nE t N (b + 1)))) (f := nI (nF t N (nE t N (b + 1)) 0 (nI c - 1))) (p := nI (skp t N (nE t N (b + 1)))) (a := nE t N (nE t N (b + 1))) e2 eN hN2 (by omega) z.1
      have r := r_X4_readClause_h g N eN hN2 b ea (by omega) ht hwc _ (r_X4_readHanding_bad g _ r0 _ _ r1 _ _ r2 z.1 _ r3 z.1)
      refine ClO_bad (f := nF t N (nE t N (b + 1)) 0 (nI c - 1)) F2 z.2.2 (by omega) r FrC.rf eN (fun g' S R => ?_)
      obtain ⟨e50, eN', ea', ep'⟩ := id S
      obtain ⟨K, rr, e13, FK⟩ := tn_bd (L := L) (h := (st_ (st_ (st_ (st_ g' 43 14 (nI (b + 1))) 43 14 (nI (nE t N (b + 1)))) 43 16 (nI (skp t N (b + 1)))) 43 15 (nV t N (b + 1)))) (t := t) (N := N) (a := nE t N (b + 1)) (lo := 0) (hi := (nI c - 1)) e50 eN' hN2 rfl (by omega) F2
      have rr' : Rt L 1 125 [.ref 43, .int 0, .int (g' 43 19 - 1)] (st_ (st_ (st_ (st_ g' 43 14 (nI (b + 1))) 43 14 (nI (nE t N (b + 1)))) 43 16 (nI (skp t N (b + 1)))) 43 15 (nV t N (b + 1))) (some (nI (nF t N (nE t N (b + 1)) 0 (nI c - 1)))) K := by
        rw [R.2.1]
        exact rr
      exact ⟨_, tc_h_bad S hsk hN2 hb hw (htR g' R) (r_X9_takeHanded_bad2 (st_ g' 43 14 (nI (b + 1))) _ _ (rrO g' S R) (by decide) _ _ rr' z.2.1) z.1, by repeat (first | refine FrR.st ?_ (by omega) | exact FrR.rf | refine FrR.tr ?_ FK), e13⟩
  · have z := nF_nz F1
    have r1 : Rt L 2 56 [.ref 15, .int 0, .int (g 9 2 - 1)] (rdH g (nI (b + 1)) (g 15 4) 0 (-1)) (some (nV t N (b + 1))) (rdH g (nI (nE t N (b + 1))) (nI (skp t N (b + 1))) (nI (nF t N (b + 1) 0 (nI c - 1))) (nI (skp t N (b + 1)))) := by
      rw [c2]
      exact rn_bd e2 eN hN2 (by omega) F1
    have r2 : Rt L 2 56 [.ref 15, .int 0, .int (g 9 2 - 1)] (rdH g (nI (nE t N (b + 1))) (nI (skp t N (b + 1))) (nI (nF t N (b + 1) 0 (nI c - 1))) (nI (skp t N (b + 1)))) (some (nV t N (nE t N (b + 1)))) (rdH g (nI (nE t N (nE t N (b + 1)))) (nI (skp t N (nE t N (b + 1)))) (nI (nF t N (b + 1) 0 (nI c - 1))) (nI (skp t N (b + 1)))) := by
      rw [c2]
      exact rn_dd e2 eN hN2 (by omega) z.1
    have r3 := re_dd (L := L) (h := g) (t := t) (m := nI (skp t N (nE t N (b + 1)))) (f := nI (nF t N (b + 1) 0 (nI c - 1))) (p := nI (skp t N (b + 1))) (a := nE t N (nE t N (b + 1))) e2 eN hN2 (by omega) z.1
    have r := r_X4_readClause_h g N eN hN2 b ea (by omega) ht hwc _ (r_X4_readHanding_bad g _ r0 _ _ r1 _ _ r2 z.1 _ r3 z.1)
    refine ClO_bad (f := nF t N (b + 1) 0 (nI c - 1)) F1 z.2.2 (by omega) r FrC.rf eN (fun g' S R => ?_)
    obtain ⟨e50, eN', ea', ep'⟩ := id S
    obtain ⟨K, rr, e13, FK⟩ := tn_bd (L := L) (h := (st_ g' 43 14 (nI (b + 1)))) (t := t) (N := N) (a := b + 1) (lo := 0) (hi := (nI c - 1)) e50 eN' hN2 rfl (by omega) F1
    have rr' : Rt L 1 125 [.ref 43, .int 0, .int (g' 43 19 - 1)] (st_ g' 43 14 (nI (b + 1))) (some (nI (nF t N (b + 1) 0 (nI c - 1)))) K := by
      rw [R.2.1]
      exact rr
    exact ⟨_, tc_h_bad S hsk hN2 hb hw (htR g' R) (r_X9_takeHanded_bad1 (st_ g' 43 14 (nI (b + 1))) _ _ rr' z.2.1) z.1, by repeat (first | refine FrR.st ?_ (by omega) | exact FrR.rf | refine FrR.tr ?_ FK), e13⟩
end CLH

section CLD
variable {L N b c n : Nat} {t : Rw} {g : AH}
theorem cl_c (H : CS t N b g) (hsk : skp t N b = b) (hN2 : N ≤ 240) (hb : b < N) (C : RdC 1 c n g) (hw : ltS t N b = 99) : ClO L N b t 1 c n g := by
  obtain ⟨e2, eN, ea, ef, ep⟩ := id H
  obtain ⟨⟨c0, _⟩, ⟨c2, c5⟩, ⟨c3, n7⟩, cch⟩ := id C
  have ht : ¬ g 9 0 = 0 := by rw [c0]; decide
  have hwc : ltS (g 2) N b = 99 := by rw [e2]; exact hw
  have k1 := ne_le (t := t) (N := N) (a := b + 1) hb
  have k2 := ne_le (t := t) (N := N) (a := nE t N (b + 1)) k1.2.2
  have k3 := sk_le (t := t) (N := N) (a := nE t N (nE t N (b + 1))) k2.2.2
  by_cases hq : c < 5
  · have r0 := cl_w1 (L := L) H (by omega)
    have hqR : ∀ g', RdR 1 c n g g' → ¬ g' 43 19 = 5 := fun g' R z => by
      rw [R.2.1] at z
      exact absurd ((nI_eq (b := 5) (by omega) (by decide)).mp z) (by omega)
    have htR : ∀ g', RdR 1 c n g g' → ¬ g' 43 17 = 0 := fun g' R => by rw [R.1.1]; decide
    by_cases F1 : nF t N (b + 1) 1 99 = 0
    · have r1 := rn_ok (L := L) (h := g) (t := t) (m := g 15 4) (f := 0) (p := -1) (lo := 1) (hi := 99) (a := b + 1) e2 eN hN2 (by omega) F1
      have rrO : ∀ g', RS t N b g' → RdR 1 c n g g' → Rt L 1 125 [.ref 43, .int 1, .int 99] (st_ (st_ (st_ g' 43 14 (nI (b + 1))) 43 19 (g' 43 19 + 1)) 53 c (-1)) (some 0) (st_ (st_ (st_ (st_ (st_ (st_ g' 43 14 (nI (b + 1))) 43 19 (g' 43 19 + 1)) 53 c (-1)) 43 14 (nI (nE t N (b + 1)))) 43 16 (nI (skp t N (b + 1)))) 43 15 (nV t N (b + 1))) := fun g' S R => by
        have rr := tn_ok (L := L) (h := (st_ (st_ (st_ g' 43 14 (nI (b + 1))) 43 19 (g' 43 19 + 1)) 53 c (-1))) (t := t) (N := N) (a := b + 1) (lo := 1) (hi := 99) S.1 S.2.1 hN2 rfl (by omega) F1
        exact rr
      by_cases F2 : nF t N (nE t N (b + 1)) 1 99 = 0
      · have r2 := rn_ok (L := L) (h := g) (t := t) (m := nI (skp t N (b + 1))) (f := 0) (p := -1) (lo := 1) (hi := 99) (a := nE t N (b + 1)) e2 eN hN2 (by omega) F2
        by_cases E : ltS t N (skp t N (nE t N (nE t N (b + 1)))) = 59
        · have r3 := re_ok (L := L) (h := g) (t := t) (m := nI (skp t N (nE t N (b + 1)))) (f := 0) (p := -1) (a := nE t N (nE t N (b + 1))) e2 eN hN2 (by omega) E
          have r := r_X4_readClause_c g N eN hN2 b ea (by omega) ht hwc _ (r_X4_readChild_ok g c c2 hq c5 _ r0 _ _ r1 _ _ r2 _ r3 c2 rfl)
          have k4 := lt59 E
          have ich : inCh (st_ (st_ (st_ (st_ (rdH g (nI (skp t N (nE t N (nE t N (b + 1))) + 1)) (nI (skp t N (nE t N (b + 1)))) 0 (-1)) 10 c (nV t N (b + 1))) 11 c (nV t N (nE t N (b + 1)))) 12 c (-1)) 9 2 (nI (c + 1)) 12) (c + 1) := by
            simp only [st_o, st_row, rdH_r, not_false_eq_true, Nat.reduceEqDiff]
            exact inCh_add cch
          refine ⟨0, skp t N (nE t N (nE t N (b + 1))) + 1, 1, c + 1, n, _, r, by repeat (first | refine FrC.rd ?_ | refine FrC.st ?_ (by omega) | exact FrC.rf), by decide, eN, rfl, by omega, rfl, fun _ => ⟨by omega, by omega, rfl, ⟨c0, Or.inr rfl⟩, ⟨rfl, hq⟩, ⟨c3, n7⟩, ich⟩, fun g' S R => ?_⟩
          obtain ⟨e50, eN', ea', ep'⟩ := id S
          refine ⟨_, tc_c_ok S hsk hN2 hb hw (htR g' R) (hqR g' R) (r_X9_takeChild_ok (st_ g' 43 14 (nI (b + 1))) c R.2.1 hq _ _ (r_X9_into51 _ c 1 _ hq _ _ (rrO g' S R)) (by decide) _ _ (r_X9_into52 _ c 1 99 hq _ _ (tn_ok (L := L) (t := t) (N := N) (a := nE t N (b + 1)) e50 eN' hN2 rfl (by omega) F2))) e50 eN' (e := nE t N (nE t N (b + 1))) rfl (by omega) E, by repeat (first | refine FrR.st ?_ (by omega) | exact FrR.rf), ep'.symm, fun _ => ⟨rfl, ⟨R.1.1, R.1.2⟩, ?_, ?_, ?_, ?_, ?_⟩⟩
          · show g' 43 19 + 1 = nI (c + 1)
            rw [R.2.1]
            exact nI_add c 1
          · exact R.2.2.1
          · intro i hi
            simp only [st_o, st_row, rdH_r, upd_at, not_false_eq_true, Nat.reduceEqDiff]
            by_cases e : i = c
            · subst e
              simp only [upd_at]
              obtain ⟨v, h1, h2, h3⟩ := nF_in (l := 1) (u := 99) F1 rfl rfl (by decide) (by decide)
              obtain ⟨w, _, h5, h6⟩ := nF_in (l := 1) (u := 99) F2 rfl rfl (by decide) (by decide)
              exact ⟨trivial, trivial, trivial, ⟨v, h1, h2, h3⟩, w, h5, h6⟩
            · simp only [upd_ne e]
              exact R.2.2.2.1 i (by omega)
          · intro d hd
            obtain ⟨a1, a2, a3, o, ho, eo⟩ := R.2.2.2.2.1 d hd
            exact ⟨a1, a2, a3, o, by omega, eo⟩
          · simp only [st_o, st_row, rdH_r, upd_at, not_false_eq_true, Nat.reduceEqDiff]
            exact child_root (by omega) R.2.2.2.2.2.1 R.2.2.2.2.2.2 (fun i hi => upd_ne (by omega)) upd_at
        · have r3 := re_bd (L := L) (h := g) (t := t) (m := nI (skp t N (nE t N (b + 1)))) (p := -1) (a := nE t N (nE t N (b + 1))) e2 eN hN2 (by omega) E
          have r := r_X4_readClause_c g N eN hN2 b ea (by omega) ht hwc _ (r_X4_readChild_bad1 g c c2 hq c5 _ r0 _ _ r1 _ _ r2 _ r3 (show ¬ (1 : Int32) = 0 by decide))
          refine ClO_bad (f := 1) (by decide) (by decide) (by omega) r FrC.rf eN (fun g' S R => ?_)
          obtain ⟨e50, eN', ea', ep'⟩ := id S
          exact ⟨_, tc_c_end S hsk hN2 hb hw (htR g' R) (hqR g' R) (r_X9_takeChild_ok (st_ g' 43 14 (nI (b + 1))) c R.2.1 hq _ _ (r_X9_into51 _ c 1 _ hq _ _ (rrO g' S R)) (by decide) _ _ (r_X9_into52 _ c 1 99 hq _ _ (tn_ok (L := L) (t := t) (N := N) (a := nE t N (b + 1)) e50 eN' hN2 rfl (by omega) F2))) e50 eN' (e := nE t N (nE t N (b + 1))) rfl (by omega) E, by repeat (first | refine FrR.st ?_ (by omega) | exact FrR.rf), rfl⟩
      · have z := nF_nz F2
        have r2 := rn_bd (L := L) (h := g) (t := t) (m := nI (skp t N (b + 1))) (p := -1) (lo := 1) (hi := 99) (a := nE t N (b + 1)) e2 eN hN2 (by omega) F2
        have r3 := re_dd (L := L) (h := g) (t := t) (m := nI (skp t N (nE t N (b + 1)))) (f := nI (nF t N (nE t N (b + 1)) 1 99)) (p := nI (skp t N (nE t N (b + 1)))) (a := nE t N (nE t N (b + 1))) e2 eN hN2 (by omega) z.1
        have r := r_X4_readClause_c g N eN hN2 b ea (by omega) ht hwc _ (r_X4_readChild_bad1 g c c2 hq c5 _ r0 _ _ r1 _ _ r2 _ r3 z.1)
        refine ClO_bad (f := nF t N (nE t N (b + 1)) 1 99) F2 z.2.2 (by omega) r FrC.rf eN (fun g' S R => ?_)
        obtain ⟨e50, eN', ea', ep'⟩ := id S
        obtain ⟨K, rr, e13, FK⟩ := tn_bd (L := L) (h := st_ (st_ (st_ (st_ (st_ (st_ (st_ g' 43 14 (nI (b + 1))) 43 19 (g' 43 19 + 1)) 53 c (-1)) 43 14 (nI (nE t N (b + 1)))) 43 16 (nI (skp t N (b + 1)))) 43 15 (nV t N (b + 1))) 51 c (nV t N (b + 1))) (t := t) (N := N) (a := nE t N (b + 1)) (lo := 1) (hi := 99) e50 eN' hN2 rfl (by omega) F2
        exact ⟨_, tc_c_bad S hsk hN2 hb hw (htR g' R) (hqR g' R) (r_X9_takeChild_ok (st_ g' 43 14 (nI (b + 1))) c R.2.1 hq _ _ (r_X9_into51 _ c 1 _ hq _ _ (rrO g' S R)) (by decide) _ _ (r_X9_into52 _ c 1 99 hq _ _ rr)) z.1, by repeat (first | refine FrR.st ?_ (by omega) | exact FrR.rf | refine FrR.tr ?_ FK), e13⟩
    · have z := nF_nz F1
      have r1 := rn_bd (L := L) (h := g) (t := t) (m := g 15 4) (p := -1) (lo := 1) (hi := 99) (a := b + 1) e2 eN hN2 (by omega) F1
      have r2 := rn_dd (L := L) (h := g) (t := t) (m := nI (skp t N (b + 1))) (f := nI (nF t N (b + 1) 1 99)) (p := nI (skp t N (b + 1))) (lo := 1) (hi := 99) (a := nE t N (b + 1)) e2 eN hN2 (by omega) z.1
      have r3 := re_dd (L := L) (h := g) (t := t) (m := nI (skp t N (nE t N (b + 1)))) (f := nI (nF t N (b + 1) 1 99)) (p := nI (skp t N (b + 1))) (a := nE t N (nE t N (b + 1))) e2 eN hN2 (by omega) z.1
      have r := r_X4_readClause_c g N eN hN2 b ea (by omega) ht hwc _ (r_X4_readChild_bad1 g c c2 hq c5 _ r0 _ _ r1 _ _ r2 _ r3 z.1)
      refine ClO_bad (f := nF t N (b + 1) 1 99) F1 z.2.2 (by omega) r FrC.rf eN (fun g' S R => ?_)
      obtain ⟨e50, eN', ea', ep'⟩ := id S
      obtain ⟨K, rr, e13, FK⟩ := tn_bd (L := L) (h := (st_ (st_ (st_ g' 43 14 (nI (b + 1))) 43 19 (g' 43 19 + 1)) 53 c (-1))) (t := t) (N := N) (a := b + 1) (lo := 1) (hi := 99) e50 eN' hN2 rfl (by omega) F1
      exact ⟨_, tc_c_bad S hsk hN2 hb hw (htR g' R) (hqR g' R) (r_X9_takeChild_bad (st_ g' 43 14 (nI (b + 1))) c R.2.1 hq _ _ (r_X9_into51 _ c 1 _ hq _ _ rr) z.2.1) z.1, by repeat (first | refine FrR.st ?_ (by omega) | exact FrR.rf | refine FrR.tr ?_ FK), e13⟩
  · have r0 := cl_w0 (L := L) H (by omega)
    have r1 := rn_dd (L := L) (h := g) (t := t) (m := g 15 4) (f := 3) (p := nI b) (lo := 1) (hi := 99) (a := b + 1) e2 eN hN2 (by omega) (by decide)
    have r2 := rn_dd (L := L) (h := g) (t := t) (m := nI (skp t N (b + 1))) (f := 3) (p := nI b) (lo := 1) (hi := 99) (a := nE t N (b + 1)) e2 eN hN2 (by omega) (by decide)
    have r3 := re_dd (L := L) (h := g) (t := t) (m := nI (skp t N (nE t N (b + 1)))) (f := 3) (p := nI b) (a := nE t N (nE t N (b + 1))) e2 eN hN2 (by omega) (by decide)
    have r := r_X4_readClause_c g N eN hN2 b ea (by omega) ht hwc _ (r_X4_readChild_bad0 g c c2 hq c5 _ r0 _ _ r1 _ _ r2 _ r3 (show ¬ (3 : Int32) = 0 by decide))
    refine ClO_bad (f := 3) (by decide) (by decide) (by omega) r FrC.rf eN (fun g' S R => tc_x S hsk ?_)
    obtain ⟨e50, eN', ea', _⟩ := S
    have hs : skp (g' 50) N b = b := by rw [e50]; exact hsk
    exact r_X9_takeClause_fullc g' N eN' hN2 b ea' (by omega) (by rw [hs, e50]; exact hw) (by rw [R.1.1]; decide) (by rw [R.2.1, show c = 5 by omega])
theorem cl_d (H : CS t N b g) (hsk : skp t N b = b) (hN2 : N ≤ 240) (hb : b < N) (C : RdC 1 c n g) (hw : ltS t N b = 100) : ClO L N b t 1 c n g := by
  obtain ⟨e2, eN, ea, ef, ep⟩ := id H
  obtain ⟨⟨c0, _⟩, ⟨c2, c5⟩, ⟨c3, n7⟩, cch⟩ := id C
  have ht : ¬ g 9 0 = 0 := by rw [c0]; decide
  have hwc : ltS (g 2) N b = 100 := by rw [e2]; exact hw
  have k1 := ne_le (t := t) (N := N) (a := b + 1) hb
  have k2 := ne_le (t := t) (N := N) (a := nE t N (b + 1)) k1.2.2
  have k3 := sk_le (t := t) (N := N) (a := nE t N (nE t N (b + 1))) k2.2.2
  by_cases hq : n < 7
  · have r0 := cl_w1 (L := L) H (by omega)
    have hqR : ∀ g', RdR 1 c n g g' → ¬ g' 43 23 = 7 := fun g' R z => by
      rw [R.2.2.1] at z
      exact absurd ((nI_eq (b := 7) (by omega) (by decide)).mp z) (by omega)
    have htR : ∀ g', RdR 1 c n g g' → ¬ g' 43 17 = 0 := fun g' R => by rw [R.1.1]; decide
    by_cases F1 : nF t N (b + 1) 0 (nI c - 1) = 0
    · have r1 := rn_ok (L := L) (h := g) (t := t) (m := g 15 4) (f := 0) (p := -1) (lo := 0) (hi := (nI c - 1)) (a := b + 1) e2 eN hN2 (by omega) F1
      rw [← c2] at r1
      have rrO : ∀ g', RS t N b g' → RdR 1 c n g g' → Rt L 1 125 [.ref 43, .int 0, .int (g' 43 19 - 1)] (st_ (st_ g' 43 14 (nI (b + 1))) 43 23 (g' 43 23 + 1)) (some 0) (st_ (st_ (st_ (st_ (st_ g' 43 14 (nI (b + 1))) 43 23 (g' 43 23 + 1)) 43 14 (nI (nE t N (b + 1)))) 43 16 (nI (skp t N (b + 1)))) 43 15 (nV t N (b + 1))) := fun g' S R => by
        have rr := tn_ok (L := L) (h := (st_ (st_ g' 43 14 (nI (b + 1))) 43 23 (g' 43 23 + 1))) (t := t) (N := N) (a := b + 1) (lo := 0) (hi := (nI c - 1)) S.1 S.2.1 hN2 rfl (by omega) F1
        rw [← R.2.1] at rr
        exact rr
      by_cases F2 : nF t N (nE t N (b + 1)) 1 99 = 0
      · have r2 := rn_ok (L := L) (h := g) (t := t) (m := nI (skp t N (b + 1))) (f := 0) (p := -1) (lo := 1) (hi := 99) (a := nE t N (b + 1)) e2 eN hN2 (by omega) F2
        by_cases E : ltS t N (skp t N (nE t N (nE t N (b + 1)))) = 59
        · have r3 := re_ok (L := L) (h := g) (t := t) (m := nI (skp t N (nE t N (b + 1)))) (f := 0) (p := -1) (a := nE t N (nE t N (b + 1))) e2 eN hN2 (by omega) E
          have r := r_X4_readClause_d g N eN hN2 b ea (by omega) ht hwc _ (r_X4_readDeed_ok g n c3 hq n7 _ r0 _ _ r1 _ _ r2 _ r3 c3 rfl)
          have k4 := lt59 E
          refine ⟨0, skp t N (nE t N (nE t N (b + 1))) + 1, 1, c, n + 1, _, r, by repeat (first | refine FrC.rd ?_ | refine FrC.st ?_ (by omega) | exact FrC.rf), by decide, eN, rfl, by omega, rfl, fun _ => ⟨by omega, by omega, rfl, ⟨c0, Or.inr rfl⟩, ⟨c2, c5⟩, ⟨rfl, hq⟩, cch⟩, fun g' S R => ?_⟩
          obtain ⟨e50, eN', ea', ep'⟩ := id S
          refine ⟨_, tc_d_ok S hsk hN2 hb hw (htR g' R) (hqR g' R) (r_X9_takeDeed_ok (st_ g' 43 14 (nI (b + 1))) n R.2.2.1 hq _ _ (r_X9_into54 _ n 0 _ hq _ _ (rrO g' S R)) (by decide) _ _ (r_X9_into55 _ n 1 99 hq _ _ (tn_ok (L := L) (t := t) (N := N) (a := nE t N (b + 1)) e50 eN' hN2 rfl (by omega) F2))) e50 eN' (e := nE t N (nE t N (b + 1))) rfl (by omega) E, by repeat (first | refine FrR.st ?_ (by omega) | exact FrR.rf), ep'.symm, fun _ => ⟨rfl, ⟨R.1.1, R.1.2⟩, ?_, ?_, ?_, ?_, ?_⟩⟩
          · exact R.2.1
          · show g' 43 23 + 1 = nI (n + 1)
            rw [R.2.2.1]
            exact nI_add n 1
          · exact R.2.2.2.1
          · intro d hd
            simp only [st_o, st_row, rdH_r, upd_at, not_false_eq_true, Nat.reduceEqDiff]
            by_cases e : d = n
            · subst e
              simp only [upd_at]
              obtain ⟨v, h1, h2⟩ := nF_ix c5 F1
              obtain ⟨w, h4, h5, h6⟩ := nF_in (l := 1) (u := 99) F2 rfl rfl (by decide) (by decide)
              exact ⟨trivial, trivial, ⟨w, h4, h5, h6⟩, v, h1, h2⟩
            · simp only [upd_ne e]
              exact R.2.2.2.2.1 d (by omega)
          · exact R.2.2.2.2.2
        · have r3 := re_bd (L := L) (h := g) (t := t) (m := nI (skp t N (nE t N (b + 1)))) (p := -1) (a := nE t N (nE t N (b + 1))) e2 eN hN2 (by omega) E
          have r := r_X4_readClause_d g N eN hN2 b ea (by omega) ht hwc _ (r_X4_readDeed_bad1 g n c3 hq n7 _ r0 _ _ r1 _ _ r2 _ r3 (show ¬ (1 : Int32) = 0 by decide))
          refine ClO_bad (f := 1) (by decide) (by decide) (by omega) r FrC.rf eN (fun g' S R => ?_)
          obtain ⟨e50, eN', ea', ep'⟩ := id S
          exact ⟨_, tc_d_end S hsk hN2 hb hw (htR g' R) (hqR g' R) (r_X9_takeDeed_ok (st_ g' 43 14 (nI (b + 1))) n R.2.2.1 hq _ _ (r_X9_into54 _ n 0 _ hq _ _ (rrO g' S R)) (by decide) _ _ (r_X9_into55 _ n 1 99 hq _ _ (tn_ok (L := L) (t := t) (N := N) (a := nE t N (b + 1)) e50 eN' hN2 rfl (by omega) F2))) e50 eN' (e := nE t N (nE t N (b + 1))) rfl (by omega) E, by repeat (first | refine FrR.st ?_ (by omega) | exact FrR.rf), rfl⟩
      · have z := nF_nz F2
        have r2 := rn_bd (L := L) (h := g) (t := t) (m := nI (skp t N (b + 1))) (p := -1) (lo := 1) (hi := 99) (a := nE t N (b + 1)) e2 eN hN2 (by omega) F2
        have r3 := re_dd (L := L) (h := g) (t := t) (m := nI (skp t N (nE t N (b + 1)))) (f := nI (nF t N (nE t N (b + 1)) 1 99)) (p := nI (skp t N (nE t N (b + 1)))) (a := nE t N (nE t N (b + 1))) e2 eN hN2 (by omega) z.1
        have r := r_X4_readClause_d g N eN hN2 b ea (by omega) ht hwc _ (r_X4_readDeed_bad1 g n c3 hq n7 _ r0 _ _ r1 _ _ r2 _ r3 z.1)
        refine ClO_bad (f := nF t N (nE t N (b + 1)) 1 99) F2 z.2.2 (by omega) r FrC.rf eN (fun g' S R => ?_)
        obtain ⟨e50, eN', ea', ep'⟩ := id S
        obtain ⟨K, rr, e13, FK⟩ := tn_bd (L := L) (h := st_ (st_ (st_ (st_ (st_ (st_ g' 43 14 (nI (b + 1))) 43 23 (g' 43 23 + 1)) 43 14 (nI (nE t N (b + 1)))) 43 16 (nI (skp t N (b + 1)))) 43 15 (nV t N (b + 1))) 54 n (nV t N (b + 1))) (t := t) (N := N) (a := nE t N (b + 1)) (lo := 1) (hi := 99) e50 eN' hN2 rfl (by omega) F2
        exact ⟨_, tc_d_bad S hsk hN2 hb hw (htR g' R) (hqR g' R) (r_X9_takeDeed_ok (st_ g' 43 14 (nI (b + 1))) n R.2.2.1 hq _ _ (r_X9_into54 _ n 0 _ hq _ _ (rrO g' S R)) (by decide) _ _ (r_X9_into55 _ n 1 99 hq _ _ rr)) z.1, by repeat (first | refine FrR.st ?_ (by omega) | exact FrR.rf | refine FrR.tr ?_ FK), e13⟩
    · have z := nF_nz F1
      have r1 := rn_bd (L := L) (h := g) (t := t) (m := g 15 4) (p := -1) (lo := 0) (hi := (nI c - 1)) (a := b + 1) e2 eN hN2 (by omega) F1
      have r1' : Rt L 2 56 [.ref 15, .int 0, .int (g 9 2 - 1)] (rdH g (nI (b + 1)) (g 15 4) 0 (-1)) (some (nV t N (b + 1))) (rdH g (nI (nE t N (b + 1))) (nI (skp t N (b + 1))) (nI (nF t N (b + 1) 0 (nI c - 1))) (nI (skp t N (b + 1)))) := by
        rw [c2]
        exact r1
      have r2 := rn_dd (L := L) (h := g) (t := t) (m := nI (skp t N (b + 1))) (f := nI (nF t N (b + 1) 0 (nI c - 1))) (p := nI (skp t N (b + 1))) (lo := 1) (hi := 99) (a := nE t N (b + 1)) e2 eN hN2 (by omega) z.1
      have r3 := re_dd (L := L) (h := g) (t := t) (m := nI (skp t N (nE t N (b + 1)))) (f := nI (nF t N (b + 1) 0 (nI c - 1))) (p := nI (skp t N (b + 1))) (a := nE t N (nE t N (b + 1))) e2 eN hN2 (by omega) z.1
      have r := r_X4_readClause_d g N eN hN2 b ea (by omega) ht hwc _ (r_X4_readDeed_bad1 g n c3 hq n7 _ r0 _ _ r1' _ _ r2 _ r3 z.1)
      refine ClO_bad (f := nF t N (b + 1) 0 (nI c - 1)) F1 z.2.2 (by omega) r FrC.rf eN (fun g' S R => ?_)
      obtain ⟨e50, eN', ea', ep'⟩ := id S
      obtain ⟨K, rr, e13, FK⟩ := tn_bd (L := L) (h := (st_ (st_ g' 43 14 (nI (b + 1))) 43 23 (g' 43 23 + 1))) (t := t) (N := N) (a := b + 1) (lo := 0) (hi := (nI c - 1)) e50 eN' hN2 rfl (by omega) F1
      have rr' : Rt L 1 125 [.ref 43, .int 0, .int (g' 43 19 - 1)] (st_ (st_ g' 43 14 (nI (b + 1))) 43 23 (g' 43 23 + 1)) (some (nI (nF t N (b + 1) 0 (nI c - 1)))) K := by
        rw [R.2.1]
        exact rr
      exact ⟨_, tc_d_bad S hsk hN2 hb hw (htR g' R) (hqR g' R) (r_X9_takeDeed_bad (st_ g' 43 14 (nI (b + 1))) n R.2.2.1 hq _ _ (r_X9_into54 _ n 0 _ hq _ _ rr') z.2.1) z.1, by repeat (first | refine FrR.st ?_ (by omega) | exact FrR.rf | refine FrR.tr ?_ FK), e13⟩
  · have r0 := cl_w0 (L := L) H (by omega)
    have r1 := rn_dd (L := L) (h := g) (t := t) (m := g 15 4) (f := 3) (p := nI b) (lo := 0) (hi := (nI c - 1)) (a := b + 1) e2 eN hN2 (by omega) (by decide)
    rw [← c2] at r1
    have r2 := rn_dd (L := L) (h := g) (t := t) (m := nI (skp t N (b + 1))) (f := 3) (p := nI b) (lo := 1) (hi := 99) (a := nE t N (b + 1)) e2 eN hN2 (by omega) (by decide)
    have r3 := re_dd (L := L) (h := g) (t := t) (m := nI (skp t N (nE t N (b + 1)))) (f := 3) (p := nI b) (a := nE t N (nE t N (b + 1))) e2 eN hN2 (by omega) (by decide)
    have r := r_X4_readClause_d g N eN hN2 b ea (by omega) ht hwc _ (r_X4_readDeed_bad0 g n c3 hq n7 _ r0 _ _ r1 _ _ r2 _ r3 (show ¬ (3 : Int32) = 0 by decide))
    refine ClO_bad (f := 3) (by decide) (by decide) (by omega) r FrC.rf eN (fun g' S R => tc_x S hsk ?_)
    obtain ⟨e50, eN', ea', _⟩ := S
    have hs : skp (g' 50) N b = b := by rw [e50]; exact hsk
    exact r_X9_takeClause_fulld g' N eN' hN2 b ea' (by omega) (by rw [hs, e50]; exact hw) (by rw [R.1.1]; decide) (by rw [R.2.2.1, show n = 7 by omega])
end CLD

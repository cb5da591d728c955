/-! READING, SIDE BY SIDE: one clause -/
theorem inCh_add {f : Rw} {c : Nat} (h : inCh f c) : inCh (upd f c (-1)) (c + 1) := fun i hi => by
  by_cases e : i = c
  · subst e
    exact Or.inl upd_at
  · rw [upd_ne e]
    rcases h i (by omega) with z | ⟨j, hj, z⟩
    · exact Or.inl z
    · exact Or.inr ⟨j, by omega, z⟩
section CLC
variable {L N b c n : Nat} {t : Rw} {g : AH}
theorem cl_go (H : CS t N b g) : rdH g (nI b) (g 15 4) 0 (-1) = g := rdH_id H.2.2.1 H.2.2.2.1 H.2.2.2.2
theorem cl_w1 (H : CS t N b g) (hb : b ≤ 240) : Rt L 1 54 [.ref 15, .int 1] g none (rdH g (nI (b + 1)) (g 15 4) 0 (-1)) := by
  have r := tw_1 (L := L) (h := g) (m := g 15 4) (f := 0) (p := -1) (a := b) (by omega)
  rw [cl_go H] at r
  exact r
theorem cl_w0 (H : CS t N b g) (hb : b ≤ 240) : Rt L 1 54 [.ref 15, .int 0] g none (rdH g (nI (b + 1)) (g 15 4) 3 (nI b)) := by
  have r := tw_0 (L := L) (h := g) (m := g 15 4) (p := -1) (a := b) (by omega)
  rw [cl_go H] at r
  exact r
theorem cl_f (H : CS t N b g) {x y : Int32} : st_ (st_ g 15 5 x) 15 6 y = rdH g (nI b) (g 15 4) x y := by
  have e : st_ (st_ (rdH g (nI b) (g 15 4) 0 (-1)) 15 5 x) 15 6 y = rdH g (nI b) (g 15 4) x y := by rw [rdH_5, rdH_6]
  rw [cl_go H] at e
  exact e
theorem cl_un (H : CS t N b g) (hsk : skp t N b = b) (hN2 : N ≤ 240) (hb : b < N) (C : RdC 0 c n g) (hw : ¬ ltS t N b = 98) : ClO L N b t 0 c n g := by
  obtain ⟨e2, eN, ea, ef, ep⟩ := id H
  have r := r_X4_readClause_un (L := L) g N eN hN2 b ea (by omega) C.1.1 (by rw [e2]; exact hw) ef
  refine ClO_bad (f := 1) (a2 := b) (m := g 15 4) (P := nI b) (B := g) (by decide) (by decide) (by omega) (Rt_h r (cl_f H)) FrC.rf eN (fun g' S R => tc_x S hsk ?_)
  obtain ⟨e50, eN', ea', _⟩ := S
  have hs : skp (g' 50) N b = b := by rw [e50]; exact hsk
  have hw' : ¬ ltS (g' 50) N (skp (g' 50) N b) = 98 := by rw [hs, e50]; exact hw
  by_cases q1 : ltS (g' 50) N (skp (g' 50) N b) = 99
  · exact r_X9_takeClause_unc g' N eN' hN2 b ea' (by omega) q1 R.1.1
  by_cases q2 : ltS (g' 50) N (skp (g' 50) N b) = 100
  · exact r_X9_takeClause_und g' N eN' hN2 b ea' (by omega) q2 R.1.1
  by_cases q3 : ltS (g' 50) N (skp (g' 50) N b) = 104
  · exact r_X9_takeClause_unh g' N eN' hN2 b ea' (by omega) q3 R.1.1
  exact r_X9_takeClause_un g' N eN' hN2 b ea' (by omega) ⟨hw', q1, q2, q3⟩
theorem cl_o (H : CS t N b g) (hsk : skp t N b = b) (hN2 : N ≤ 240) (hb : b < N) (C : RdC 1 c n g) (h1 : ¬ ltS t N b = 98) (h2 : ¬ ltS t N b = 99) (h3 : ¬ ltS t N b = 100) (h4 : ¬ ltS t N b = 104) : ClO L N b t 1 c n g := by
  obtain ⟨e2, eN, ea, ef, ep⟩ := id H
  have ht : ¬ g 9 0 = 0 := by rw [C.1.1]; decide
  have r : Rt L 4 49 [.ref 15] g none (st_ (st_ g 15 5 1) 15 6 (nI b)) := by
    by_cases q1 : ltS (g 2) N b = 101
    · exact r_X4_readClause_o3 g N eN hN2 b ea (by omega) ht ef q1
    by_cases q2 : ltS (g 2) N b = 102
    · exact r_X4_readClause_o4 g N eN hN2 b ea (by omega) ht ef q2
    by_cases q3 : ltS (g 2) N b = 103
    · exact r_X4_readClause_o5 g N eN hN2 b ea (by omega) ht ef q3
    refine r_X4_readClause_o g N eN hN2 b ea (by omega) ht ef (fun i hi => ?_)
    match i, hi with
    | 0, _ => rw [e2]; exact h1
    | 1, _ => rw [e2]; exact h2
    | 2, _ => rw [e2]; exact h3
    | 3, _ => exact q1
    | 4, _ => exact q2
    | 5, _ => exact q3
    | 6, _ => rw [e2]; exact h4
    | i + 7, hi => exact absurd hi (by omega)
  refine ClO_bad (f := 1) (a2 := b) (m := g 15 4) (P := nI b) (B := g) (by decide) (by decide) (by omega) (Rt_h r (cl_f H)) FrC.rf eN (fun g' S R => tc_x S hsk ?_)
  obtain ⟨e50, eN', ea', _⟩ := S
  have hs : skp (g' 50) N b = b := by rw [e50]; exact hsk
  refine r_X9_takeClause_un g' N eN' hN2 b ea' (by omega) ?_
  rw [hs, e50]
  exact ⟨h1, h2, h3, h4⟩
theorem cl_bb (H : CS t N b g) (hsk : skp t N b = b) (hN2 : N ≤ 240) (hb : b < N) (C : RdC 1 c n g) (hw : ltS t N b = 98) : ClO L N b t 1 c n g := by
  obtain ⟨e2, eN, ea, ef, ep⟩ := id H
  have ht : ¬ g 9 0 = 0 := by rw [C.1.1]; decide
  have k1 := ne_le (t := t) (N := N) (a := b + 1) hb
  have k2 := sk_le (t := t) (N := N) (a := nE t N (b + 1)) k1.2.2
  have r0 := cl_w0 (L := L) H (by omega)
  have q1 : st_ (rdH g (nI (b + 1)) (g 15 4) 3 (nI b)) 9 0 1 = rdH (st_ g 9 0 1) (nI (b + 1)) (g 15 4) 3 (nI b) := rdH_o (by decide)
  have r1 := rn_dd (L := L) (h := st_ g 9 0 1) (t := t) (m := g 15 4) (f := 3) (p := nI b) (lo := 0) (hi := 999) (a := b + 1) e2 eN hN2 (by omega) (by decide)
  rw [← q1] at r1
  have r2 := re_dd (L := L) (h := st_ g 9 0 1) (t := t) (m := nI (skp t N (b + 1))) (f := 3) (p := nI b) (a := nE t N (b + 1)) e2 eN hN2 (by omega) (by decide)
  have r := r_X4_readClause_b1 g N eN hN2 b ea (by omega) ht (by rw [e2]; exact hw) _ (r_X4_readBrook_0 g ht _ r0 _ _ r1 _ r2)
  rw [rdH_o (by decide)] at r
  refine ClO_bad (f := 3) (P := nI b) (by decide) (by decide) (by omega) r (by repeat (first | refine FrC.rd ?_ | refine FrC.st ?_ (by omega) | exact FrC.rf)) eN (fun g' S R => tc_x S hsk ?_)
  obtain ⟨e50, eN', ea', _⟩ := S
  have hs : skp (g' 50) N b = b := by rw [e50]; exact hsk
  exact r_X9_takeClause_fullb g' N eN' hN2 b ea' (by omega) (by rw [hs, e50]; exact hw) (by rw [R.1.1]; decide)
theorem cl_b (H : CS t N b g) (hsk : skp t N b = b) (hN2 : N ≤ 240) (hb : b < N) (C : RdC 0 c n g) (hw : ltS t N b = 98) : ClO L N b t 0 c n g := by
  obtain ⟨e2, eN, ea, ef, ep⟩ := id H
  have ht := C.1.1
  have k1 := ne_le (t := t) (N := N) (a := b + 1) hb
  have k2 := sk_le (t := t) (N := N) (a := nE t N (b + 1)) k1.2.2
  have r0 := cl_w1 (L := L) H (by omega)
  have q1 : st_ (rdH g (nI (b + 1)) (g 15 4) 0 (-1)) 9 0 1 = rdH (st_ g 9 0 1) (nI (b + 1)) (g 15 4) 0 (-1) := rdH_o (by decide)
  by_cases F : nF t N (b + 1) 0 999 = 0
  · have r1 := rn_ok (L := L) (h := st_ g 9 0 1) (t := t) (m := g 15 4) (f := 0) (p := -1) (lo := 0) (hi := 999) (a := b + 1) e2 eN hN2 (by omega) F
    rw [← q1] at r1
    by_cases E : ltS t N (skp t N (nE t N (b + 1))) = 59
    · have r2 := re_ok (L := L) (h := st_ g 9 0 1) (t := t) (m := nI (skp t N (b + 1))) (f := 0) (p := -1) (a := nE t N (b + 1)) e2 eN hN2 (by omega) E
      have r := r_X4_readClause_b0 g N eN hN2 b ea (by omega) ht (by rw [e2]; exact hw) _ (r_X4_readBrook_1 g ht _ r0 _ _ r1 _ r2)
      have k3 := lt59 E
      refine ⟨0, skp t N (nE t N (b + 1)) + 1, 1, c, n, _, r, by repeat (first | refine FrC.rd ?_ | refine FrC.st ?_ (by omega) | exact FrC.rf), by decide, eN, rfl, by omega, rfl, fun _ => ⟨by omega, by omega, rfl, ⟨rfl, Or.inr rfl⟩, C.2.1, C.2.2.1, C.2.2.2⟩, fun g' S R => ?_⟩
      obtain ⟨e50, eN', ea', ep'⟩ := id S
      have rr := tn_ok (L := L) (h := st_ (st_ g' 43 14 (nI (b + 1))) 43 17 1) (t := t) (N := N) (a := b + 1) (lo := 0) (hi := 999) e50 eN' hN2 rfl (by omega) F
      refine ⟨_, tc_b_ok S hsk hN2 hb hw R.1.1 (r_X9_takeBrook _ _ _ rr) e50 eN' (e := nE t N (b + 1)) rfl (by omega) E, by repeat (first | refine FrR.st ?_ (by omega) | exact FrR.rf), ep'.symm, fun _ => ⟨rfl, ⟨rfl, rfl⟩, R.2⟩⟩
    · have r2 := re_bd (L := L) (h := st_ g 9 0 1) (t := t) (m := nI (skp t N (b + 1))) (p := -1) (a := nE t N (b + 1)) e2 eN hN2 (by omega) E
      have r := r_X4_readClause_b0 g N eN hN2 b ea (by omega) ht (by rw [e2]; exact hw) _ (r_X4_readBrook_1 g ht _ r0 _ _ r1 _ r2)
      rw [rdH_o (by decide)] at r
      refine ClO_bad (f := 1) (by decide) (by decide) (by omega) r (by repeat (first | refine FrC.rd ?_ | refine FrC.st ?_ (by omega) | exact FrC.rf)) eN (fun g' S R => ?_)
      obtain ⟨e50, eN', ea', ep'⟩ := id S
      have rr := tn_ok (L := L) (h := st_ (st_ g' 43 14 (nI (b + 1))) 43 17 1) (t := t) (N := N) (a := b + 1) (lo := 0) (hi := 999) e50 eN' hN2 rfl (by omega) F
      exact ⟨_, tc_b_end S hsk hN2 hb hw R.1.1 (r_X9_takeBrook _ _ _ rr) e50 eN' (e := nE t N (b + 1)) rfl (by omega) E, by repeat (first | refine FrR.st ?_ (by omega) | exact FrR.rf), rfl⟩
  · have z := nF_nz F
    have r1 := rn_bd (L := L) (h := st_ g 9 0 1) (t := t) (m := g 15 4) (p := -1) (lo := 0) (hi := 999) (a := b + 1) e2 eN hN2 (by omega) F
    rw [← q1] at r1
    have r2 := re_dd (L := L) (h := st_ g 9 0 1) (t := t) (m := nI (skp t N (b + 1))) (f := nI (nF t N (b + 1) 0 999)) (p := nI (skp t N (b + 1))) (a := nE t N (b + 1)) e2 eN hN2 (by omega) z.1
    have r := r_X4_readClause_b0 g N eN hN2 b ea (by omega) ht (by rw [e2]; exact hw) _ (r_X4_readBrook_1 g ht _ r0 _ _ r1 _ r2)
    rw [rdH_o (by decide)] at r
    refine ClO_bad (f := nF t N (b + 1) 0 999) F z.2.2 (by omega) r (by repeat (first | refine FrC.rd ?_ | refine FrC.st ?_ (by omega) | exact FrC.rf)) eN (fun g' S R => ?_)
    obtain ⟨e50, eN', ea', ep'⟩ := id S
    obtain ⟨K, rr, e13, FK⟩ := tn_bd (L := L) (h := st_ (st_ g' 43 14 (nI (b + 1))) 43 17 1) (t := t) (N := N) (a := b + 1) (lo := 0) (hi := 999) e50 eN' hN2 rfl (by omega) F
    exact ⟨_, tc_b_bad S hsk hN2 hb hw R.1.1 (r_X9_takeBrook _ _ _ rr) z.1, by repeat (first | refine FrR.st ?_ (by omega) | exact FrR.rf | refine FrR.tr ?_ FK), e13⟩
end CLC

/-! READING, SIDE BY SIDE: the whole text, and school -/
theorem FrC.tr {h g g' : AH} (F : FrC h g) (F' : FrC g g') : FrC h g' := fun k hk => (F' k hk).trans (F k hk)
theorem cl_all {L N b c n : Nat} {t : Rw} {tl : Int32} {g : AH} (H : CS t N b g) (hsk : skp t N b = b) (hN2 : N ≤ 240) (hb : b < N) (C : RdC tl c n g) : ClO L N b t tl c n g := by
  rcases C.1.2 with e | e
  · subst e
    by_cases w : ltS t N b = 98
    · exact cl_b H hsk hN2 hb C w
    · exact cl_un H hsk hN2 hb C w
  · subst e
    by_cases w1 : ltS t N b = 98
    · exact cl_bb H hsk hN2 hb C w1
    by_cases w2 : ltS t N b = 99
    · exact cl_c H hsk hN2 hb C w2
    by_cases w3 : ltS t N b = 100
    · exact cl_d H hsk hN2 hb C w3
    by_cases w4 : ltS t N b = 104
    · exact cl_h H hsk hN2 hb C w4
    exact cl_o H hsk hN2 hb C w1 w2 w3 w4
theorem rd_loop {L N : Nat} {t : Rw} (hN2 : N ≤ 240) (hpos : ∀ i, ¬ t i < 0) (x : Int32) : ∀ (m a i : Nat) (tl : Int32) (c n : Nat) (g : AH), N - a < m → a ≤ N → i ≤ a → CS t N (skp t N a) g → RdC tl c n g →
    ∃ (f : Nat) (tl' : Int32) (c' n' : Nat) (g2 : AH), T 5 47 0 0 (41, [.ref 15, .int x, .int (nI i)], [], S0 L, g) (fun v1 G1 h1 => v1 = some (nI f) ∧ G1 = S0 L ∧ h1 = g2) ∧ FrC g g2 ∧ f ≤ 4 ∧ (f = 0 → RdC tl' c' n' g2) ∧
      ∀ g', RS t N a g' → RdR tl c n g g' → ∃ g2', (∀ Q : Post, T 5 133 0 0 (51, [.ref 43, .int (nI f)], [], S0 L, g2') Q → T 5 133 0 0 (32, [.ref 43, .int 0], [], S0 L, g') Q) ∧ FrR g' g2' ∧ g2 15 6 = g2' 43 13 ∧ (f = 0 → RdR tl' c' n' g2 g2')
  | 0, _, _, _, _, _, _, hm, _, _, _, _ => absurd hm (by omega)
  | m + 1, a, i, tl, c, n, g, hm, haN, hi, H, C => by
    obtain ⟨e2, eN, ea, ef, ep⟩ := id H
    have kb := sk_le (t := t) haN
    by_cases hb : skp t N a < N
    · obtain ⟨f, a2, tl', c', n', g2, r, F, f4, q2, q3, q4, q5, q0, k⟩ := cl_all (L := L) H sk_sk hN2 hb C
      have e22 : g2 2 = t := by rw [F 2 (by omega)]; exact e2
      have rs := r_X4_skipBlanks (L := L) g2 N q2 hN2 a2 q3 q4
      rw [e22] at rs
      have hw : ¬ ltS t N (skp t N a) < 0 := by rw [lt_is hb]; exact hpos _
      by_cases f0 : f = 0
      · subst f0
        obtain ⟨p1, p2, p3, p4⟩ := q0 rfl
        obtain ⟨f', tl2, c2, n2, g3, r3, F3, f34, q30, k3⟩ := rd_loop (L := L) hN2 hpos x m a2 (i + 1) tl' c' n' (st_ g2 15 3 (nI (skp t N a2))) (by omega) p2 (by omega) ⟨e22, q2, rfl, q5, p3⟩ p4
        refine ⟨f', tl2, c2, n2, g3, s_readText1 g x i N eN hN2 (skp t N a) ea (by omega) (by omega) hb ef g2 r _ rs r3, (F.tr (FrC.rf.st (by omega))).tr F3, f34, q30, fun g' S R => ?_⟩
        obtain ⟨s1, s2, s3, s4⟩ := id S
        have rh := he_R (L := L) s1 s2 hN2 s3 (by omega)
        obtain ⟨g2', rc, F', e', k0⟩ := k (st_ g' 43 14 (nI (skp t N a))) ⟨s1, s2, rfl, s4⟩ R
        obtain ⟨z1, z2⟩ := k0 rfl
        obtain ⟨g3', rq, F3', e3', k03⟩ := k3 g2' ⟨funext (fun i => (F' 50 i (by omega) (by omega) (by omega)).trans (congrFun s1 i)), (F' 43 12 (by omega) (by omega) (by omega)).trans s2, z1, e'.symm.trans p3⟩ z2
        exact ⟨g3', fun Q hQ => s_school1 g' _ _ rh hw _ _ rc (rq Q hQ), ((FrR.rf.st (by omega)).tr F').tr F3', e3', k03⟩
      · have kb2 := sk_b (t := t) (N := N) (a := a2)
        have fz : ¬ nI f = 0 := nI_ne0 (by omega) (by omega)
        have hend := s_readText2f (L := L) (st_ g2 15 3 (nI (skp t N a2))) x (i + 1) (by omega) N q2 hN2 (skp t N a2) rfl (by omega) (fun z => fz (q5.symm.trans z))
        refine ⟨f, tl, c, n, st_ g2 15 3 (nI (skp t N a2)), s_readText1 g x i N eN hN2 (skp t N a) ea (by omega) (by omega) hb ef g2 r _ rs (T_post (fun v G h' z => ⟨z.1.trans (congrArg some q5), z.2⟩) hend), F.tr (FrC.rf.st (by omega)), f4, fun z => absurd z f0, fun g' S R => ?_⟩
        obtain ⟨s1, s2, s3, s4⟩ := id S
        have rh := he_R (L := L) s1 s2 hN2 s3 (by omega)
        obtain ⟨g2', rc, F', e', k0⟩ := k (st_ g' 43 14 (nI (skp t N a))) ⟨s1, s2, rfl, s4⟩ R
        exact ⟨g2', fun Q hQ => s_school1 g' _ _ rh hw _ _ rc (s_school3 _ _ fz hQ), (FrR.rf.st (by omega)).tr F', e', fun z => absurd z f0⟩
    · have hend := s_readText2a (L := L) g x i (by omega) N eN hN2 (skp t N a) ea (by omega) hb
      refine ⟨0, tl, c, n, g, T_post (fun v G h' z => ⟨z.1.trans (congrArg some ef), z.2⟩) hend, FrC.rf, by decide, fun _ => C, fun g' S R => ?_⟩
      obtain ⟨s1, s2, s3, s4⟩ := id S
      have rh := he_R (L := L) s1 s2 hN2 s3 (by omega)
      exact ⟨_, fun Q hQ => s_school2 g' _ _ rh (by rw [lt_no hb]; decide) hQ, FrR.rf.st (by omega), ep.trans s4.symm, fun _ => R⟩
theorem inCh_cg {f g : Rw} {c : Nat} (h : inCh g c) (e : ∀ i, i < c → f i = g i) : inCh f c := fun i hi => by
  rw [e i hi]
  exact h i hi
/-- a school was read -/
theorem school_end {n c : Nat} {tl : Int32} {Z A B : AH} (h3 : Z 3 0 = A 9 0 ∧ Z 3 1 = A 9 1 ∧ Z 3 2 = A 9 2 ∧ Z 3 3 = A 9 3) (h43 : Z 43 0 = B 43 17 ∧ Z 43 1 = B 43 18 ∧ Z 43 2 = B 43 19 ∧ Z 43 6 = B 43 23)
    (h4 : ∀ i, i < 5 → Z 4 i = A 10 i) (h5 : ∀ i, i < 5 → Z 5 i = A 11 i) (h6 : ∀ i, i < 5 → Z 6 i = A 12 i) (h7 : ∀ i, i < 7 → Z 7 i = A 13 i) (h8 : ∀ i, i < 7 → Z 8 i = A 14 i)
    (h44 : ∀ i, i < c → Z 44 i = B 51 i) (h45 : ∀ i, i < c → Z 45 i = B 52 i) (h46 : ∀ i, i < c → Z 46 i = B 53 i) (h47 : ∀ i, i < n → Z 47 i = B 54 i) (h48 : ∀ i, i < n → Z 48 i = B 55 i)
    (h17 : ∀ k, k < 22 → Z 17 k = if 7 ≤ k ∧ k < 14 then -1 else 0) (h49 : ∀ k, k < 22 → Z 49 k = if 7 ≤ k ∧ k < 14 then -1 else 0)
    (hp : Z 43 26 = 0 ∧ Z 18 2 = 0 ∧ Z 18 1 = 0) (hi : Z 39 2 = 0 ∧ Z 67 0 = 0 ∧ Z 41 2 = 0 ∧ Z 67 1 = 0) (hs : Z 33 5 = 0 ∧ Z 43 32 = 0 ∧ Z 33 6 = 0 ∧ Z 43 36 = 0)
    (hx : Z 1 1 = 0 ∧ Z 43 12 = 0 ∧ Z 1 2 = Z 43 13 ∧ Z 2 = Z 50 ∧ ∀ i, ¬ Z 50 i < 0) (D : SeedOk Z) (hk : Z 21 2 = 0 ∧ Z 21 9 = 0 ∧ Z 26 2 = 1 ∧ Z 26 9 = 0) (C : RdC tl c n A) (R : RdR tl c n A B) : RelE Z := by
  obtain ⟨⟨c0, ctl⟩, ⟨c2, c5⟩, ⟨c3, n7⟩, cch⟩ := C
  obtain ⟨⟨r17, r18⟩, r19, r23, rc, rd, rch, rrt⟩ := R
  refine ⟨n, c, ⟨⟨?_, ?_, ?_⟩, ⟨h3.2.2.1.trans c2, h43.2.2.1.trans r19, c5⟩, ⟨h3.2.2.2.trans c3, h43.2.2.2.trans r23, n7⟩, ?_, ?_, inCh_cg rch h46, ?_⟩, ⟨?_, ?_, ?_, ?_, ?_, ?_, ?_, ?_⟩, PastOk.z hp.1 hp.2.1 hp.2.2, ⟨⟨hi.1.trans hi.2.1.symm, Or.inl hi.2.1, fun z => ?_⟩, hi.2.2.1.trans hi.2.2.2.symm, Or.inl hi.2.2.2, fun z => ?_⟩, ⟨⟨0, by omega, hs.1, hs.2.1, fun t ht => absurd ht (by omega)⟩, 0, by omega, hs.2.2.1, hs.2.2.2, fun t ht => absurd ht (by omega)⟩, ⟨⟨⟨0, by omega, hx.1, hx.2.1, fun t ht => absurd ht (by omega)⟩, hx.2.2.1⟩, hx.2.2.2.1, hx.2.2.2.2⟩, D, ⟨hk.1, Or.inl hk.2.1⟩, hk.2.2.1, Or.inl hk.2.2.2⟩
  · rw [h3.1, h43.1, c0, r17]
  · rw [h43.1, r17]; exact ctl
  · rw [h3.2.1, h43.2.1]; exact r18
  · intro i hi
    obtain ⟨a1, a2, a3, a4, a5⟩ := rc i hi
    rw [h4 i (by omega), h5 i (by omega), h6 i (by omega), h44 i hi, h45 i hi, h46 i hi]
    exact ⟨a1, a2, a3, a4, a5⟩
  · intro d hd
    obtain ⟨a1, a2, a3, a4⟩ := rd d hd
    rw [h7 d (by omega), h8 d (by omega), h47 d hd, h48 d hd]
    exact ⟨a1, a2, a3, a4⟩
  · intro i hi
    rw [topS_congr (c := c) (by omega) rch h46 c i hi, h46 _ (topS_lt rch (by omega) hi)]
    exact rrt i hi
  · intro d hd
    rw [h17 d (by omega), h49 d (by omega)]
  · intro d hd
    rw [h17 _ (by omega), h49 _ (by omega)]
  · intro i hi
    rw [h17 _ (by omega), h49 _ (by omega), if_neg (by omega), if_neg (by omega)]
  · rw [h17 _ (by omega), h49 _ (by omega), if_neg (by omega), if_neg (by omega)]
  · rw [h17 _ (by omega), h49 _ (by omega), if_neg (by omega), if_neg (by omega)]
  · rw [h17 _ (by omega), h49 _ (by omega), if_neg (by omega), if_neg (by omega)]
  · intro i _ hi
    rw [h49 _ (by omega), if_neg (by omega)]
  · intro d hd q
    rw [h49 d (by omega), if_neg (by omega)] at q
    exact absurd q (by decide)
  · rw [hi.2.1] at z
    exact absurd z (by decide)
  · rw [hi.2.2.2] at z
    exact absurd z (by decide)
/-- no school was read: all is as it was, but the text and its fault -/
theorem school_no {n c : Nat} {h Z : AH} (E : Rel n c h) (sm : ∀ k, ¬ k = 1 → ¬ k = 43 → ¬ (9 ≤ k ∧ k ≤ 15) → ¬ (51 ≤ k ∧ k ≤ 55) → Z k = h k) (s43 : ∀ i, ¬ (12 ≤ i ∧ i ≤ 19) → ¬ i = 23 → Z 43 i = h 43 i) (s1 : Z 1 13 = h 1 13) (hx : Z 1 1 = 0 ∧ Z 43 12 = 0 ∧ Z 1 2 = Z 43 13) : RelE Z := by
  obtain ⟨R, row, P, I, S, X, D, k1, k2⟩ := E
  have g3 := sm 3 (by omega) (by omega) (by omega) (by omega)
  have g4 := sm 4 (by omega) (by omega) (by omega) (by omega)
  have g5 := sm 5 (by omega) (by omega) (by omega) (by omega)
  have g6 := sm 6 (by omega) (by omega) (by omega) (by omega)
  have g7 := sm 7 (by omega) (by omega) (by omega) (by omega)
  have g8 := sm 8 (by omega) (by omega) (by omega) (by omega)
  refine ⟨n, c, ?_, ?_, ?_, ?_, ?_, ⟨⟨⟨0, by omega, hx.1, hx.2.1, fun t ht => absurd ht (by omega)⟩, hx.2.2⟩, ?_, ?_⟩, ?_, ?_, ?_⟩
  · unfold RollOk
    rw [g3, g4, g5, g6, g7, g8, sm 44 (by omega) (by omega) (by omega) (by omega), sm 45 (by omega) (by omega) (by omega) (by omega), sm 46 (by omega) (by omega) (by omega) (by omega), sm 47 (by omega) (by omega) (by omega) (by omega), sm 48 (by omega) (by omega) (by omega) (by omega), s43 0 (by omega) (by omega), s43 1 (by omega) (by omega), s43 2 (by omega) (by omega), s43 6 (by omega) (by omega)]
    exact R
  · rw [sm 17 (by omega) (by omega) (by omega) (by omega), sm 49 (by omega) (by omega) (by omega) (by omega)]
    exact row
  · unfold PastOk
    rw [sm 18 (by omega) (by omega) (by omega) (by omega), sm 19 (by omega) (by omega) (by omega) (by omega), sm 56 (by omega) (by omega) (by omega) (by omega), s43 26 (by omega) (by omega)]
    exact P
  · unfold ImgOk
    rw [sm 39 (by omega) (by omega) (by omega) (by omega), sm 40 (by omega) (by omega) (by omega) (by omega), sm 41 (by omega) (by omega) (by omega) (by omega), sm 42 (by omega) (by omega) (by omega) (by omega), sm 66 (by omega) (by omega) (by omega) (by omega), sm 67 (by omega) (by omega) (by omega) (by omega)]
    exact I
  · unfold SlateOk
    rw [sm 33 (by omega) (by omega) (by omega) (by omega), sm 34 (by omega) (by omega) (by omega) (by omega), sm 35 (by omega) (by omega) (by omega) (by omega), sm 36 (by omega) (by omega) (by omega) (by omega), sm 37 (by omega) (by omega) (by omega) (by omega), sm 38 (by omega) (by omega) (by omega) (by omega), sm 61 (by omega) (by omega) (by omega) (by omega), sm 62 (by omega) (by omega) (by omega) (by omega), sm 63 (by omega) (by omega) (by omega) (by omega), sm 64 (by omega) (by omega) (by omega) (by omega), sm 65 (by omega) (by omega) (by omega) (by omega), s43 32 (by omega) (by omega), s43 36 (by omega) (by omega)]
    exact S
  · rw [sm 2 (by omega) (by omega) (by omega) (by omega), sm 50 (by omega) (by omega) (by omega) (by omega)]
    exact X.2.1
  · rw [sm 50 (by omega) (by omega) (by omega) (by omega)]
    exact X.2.2
  · unfold SeedOk
    rw [s1, s43 10 (by omega) (by omega)]
    exact D
  · unfold Pk21
    rw [g4, g8, sm 21 (by omega) (by omega) (by omega) (by omega), sm 22 (by omega) (by omega) (by omega) (by omega), sm 24 (by omega) (by omega) (by omega) (by omega)]
    exact k1
  · unfold Pk26
    rw [g4, g8, sm 26 (by omega) (by omega) (by omega) (by omega), sm 27 (by omega) (by omega) (by omega) (by omega), sm 29 (by omega) (by omega) (by omega) (by omega)]
    exact k2
/-- what the class's reading leaves as it was -/
theorem sm_school {L : Nat} {h : AH} (E : RelE h) : Sm L 86 133 [] h := by
  obtain ⟨n, c, Q⟩ := id E
  obtain ⟨R, row, P, I, S, X, D, k1, k2⟩ := id Q
  obtain ⟨⟨⟨N, hN2, eN1, eN2, _⟩, ef⟩, et, hpos⟩ := id X
  obtain ⟨s, hs, es1, es2⟩ := id D
  obtain ⟨f, tl', c', n', g2, r, F, f4, q0, k⟩ := rd_loop (L := L) (N := N) (t := h 50) hN2 hpos (nI N) (N + 1) 0 0 0 0 0 (st_ (st_ (st_ (st_ (st_ (st_ (st_ (st_ (st_ h 15 2 (nI N)) 15 3 0) 15 5 0) 15 6 (-1)) 9 0 0) 9 1 0) 9 2 0) 9 3 0) 15 3 (nI (skp (h 50) N 0))) (by omega) (by omega) (by omega) ⟨et, rfl, rfl, rfl, rfl⟩ ⟨⟨rfl, Or.inl rfl⟩, ⟨rfl, by omega⟩, ⟨rfl, by omega⟩, fun i hi => absurd hi (by omega)⟩
  have rC : Rt L 5 47 [.ref 15, .int (h 1 1)] h (some (nI f)) g2 := by
    rw [eN1]
    exact s_readText0 h N hN2 (by rw [et]; exact r)
  have Fh : ∀ k, ¬ (9 ≤ k ∧ k ≤ 15) → g2 k = h k := fun k hk => (F k hk).trans (by
    funext i
    simp only [st_]
    rw [if_neg (by omega), if_neg (by omega), if_neg (by omega), if_neg (by omega), if_neg (by omega), if_neg (by omega), if_neg (by omega), if_neg (by omega), if_neg (by omega)])
  by_cases f0 : f = 0
  · subst f0
    have C := q0 rfl
    have ht : g2 9 0 = 0 ∨ g2 9 0 = 1 := by rw [C.1.1]; exact C.1.2
    have r1 := r_X8_school_ok (L := L) h g2 (nI 0) rC rfl ht
    obtain ⟨g2', rq, F', e', k0⟩ := k (st_ (st_ (st_ (st_ (st_ (st_ (st_ (st_ (st_ (st_ (st_ (st_ (st_ (st_ (sc_ (sc_ (sc_ (sc_ (sc_ (sc_ (st_ (st_ (st_ (st_ (st_ (st_ g2 1 1 0) 1 2 (g2 15 6)) 3 0 (g2 9 0)) 3 1 (g2 9 1)) 3 2 (g2 9 2)) 3 3 (g2 9 3)) 4 (va_cpy (g2 10) (g2 4) 0 0 5)) 5 (va_cpy (g2 11) (g2 5) 0 0 5)) 6 (va_cpy (g2 12) (g2 6) 0 0 5)) 7 (va_cpy (g2 13) (g2 7) 0 0 7)) 8 (va_cpy (g2 14) (g2 8) 0 0 7)) 17 (fun q => if q < 22 then (if 7 ≤ q ∧ q < 14 then -1 else 0) else (g2 17) q)) 18 1 0) 18 2 0) 33 5 0) 33 6 0) 21 9 0) 26 9 0) 39 2 0) 41 2 0) 43 13 (-1)) 43 14 0) 43 17 0) 43 18 0) 43 19 0) 43 23 0) ⟨Fh 50 (by omega), (congrFun (Fh 43 (by omega)) 12).trans eN2, rfl, rfl⟩ ⟨⟨rfl, rfl⟩, rfl, rfl, fun i hi => absurd hi (by omega), fun i hi => absurd hi (by omega), fun i hi => absurd hi (by omega), fun i hi => absurd hi (by omega)⟩
    have R' := k0 rfl
    have ht' : g2' 43 17 = 0 ∨ g2' 43 17 = 1 := by rw [R'.1.1]; exact C.1.2
    have r2 := s_school0 _ (rq _ (s_school5 (L := L) g2' ht' c' R'.2.1 C.2.1.2 n' R'.2.2.1 C.2.2.1.2))
    have f43 : ∀ i, ¬ (13 ≤ i ∧ i ≤ 19) → ¬ i = 23 → g2' 43 i = h 43 i := fun i h1 h2 => (F' 43 i (by omega) (by omega) (by omega)).trans ((show st_ (st_ (st_ (st_ (st_ (st_ g2 43 13 (-1)) 43 14 0) 43 17 0) 43 18 0) 43 19 0) 43 23 0 43 i = g2 43 i by
      simp only [st_]
      rw [if_neg (by omega), if_neg (by omega), if_neg (by omega), if_neg (by omega), if_neg (by omega), if_neg (by omega)]).trans (congrFun (Fh 43 (by omega)) i))
    refine Sm_mk r1 r2 (C.2.1.1.trans R'.2.1.symm) (by decide) (by decide) (school_end (A := g2) (B := g2') (tl := tl') (n := n') (c := c') ⟨?_, ?_, ?_, ?_⟩ ⟨rfl, rfl, rfl, rfl⟩ ?_ ?_ ?_ ?_ ?_ ?_ ?_ ?_ ?_ ?_ ?_ ?_ ⟨rfl, ?_, ?_⟩ ⟨?_, rfl, ?_, rfl⟩ ⟨?_, rfl, ?_, rfl⟩ ⟨?_, rfl, ?_, ?_, ?_⟩ ⟨s, hs, ?_, ?_⟩ ⟨?_, ?_, ?_, ?_⟩ C R') (Fh 0 (by omega))
    · exact F' 3 0 (by omega) (by omega) (by omega)
    · exact F' 3 1 (by omega) (by omega) (by omega)
    · exact F' 3 2 (by omega) (by omega) (by omega)
    · exact F' 3 3 (by omega) (by omega) (by omega)
    · exact fun i hi => (F' 4 i (by omega) (by omega) (by omega)).trans ((pk_cpy_in (by omega) (by omega)).trans (congrArg (g2 10) (by omega)))
    · exact fun i hi => (F' 5 i (by omega) (by omega) (by omega)).trans ((pk_cpy_in (by omega) (by omega)).trans (congrArg (g2 11) (by omega)))
    · exact fun i hi => (F' 6 i (by omega) (by omega) (by omega)).trans ((pk_cpy_in (by omega) (by omega)).trans (congrArg (g2 12) (by omega)))
    · exact fun i hi => (F' 7 i (by omega) (by omega) (by omega)).trans ((pk_cpy_in (by omega) (by omega)).trans (congrArg (g2 13) (by omega)))
    · exact fun i hi => (F' 8 i (by omega) (by omega) (by omega)).trans ((pk_cpy_in (by omega) (by omega)).trans (congrArg (g2 14) (by omega)))
    · exact fun i hi => if_pos hi
    · exact fun i hi => if_pos hi
    · exact fun i hi => if_pos hi
    · exact fun i hi => if_pos hi
    · exact fun i hi => if_pos hi
    · exact fun k hk => (F' 17 k (by omega) (by omega) (by omega)).trans (if_pos hk)
    · exact fun k hk => if_pos hk
    · exact F' 18 2 (by omega) (by omega) (by omega)
    · exact F' 18 1 (by omega) (by omega) (by omega)
    · exact F' 39 2 (by omega) (by omega) (by omega)
    · exact F' 41 2 (by omega) (by omega) (by omega)
    · exact F' 33 5 (by omega) (by omega) (by omega)
    · exact F' 33 6 (by omega) (by omega) (by omega)
    · exact F' 1 1 (by omega) (by omega) (by omega)
    · exact (F' 1 2 (by omega) (by omega) (by omega)).trans e'
    · funext i
      exact (F' 2 i (by omega) (by omega) (by omega)).trans ((congrFun ((Fh 2 (by omega)).trans (et.trans (Fh 50 (by omega)).symm)) i).trans (F' 50 i (by omega) (by omega) (by omega)).symm)
    · intro i z
      exact hpos i ((((F' 50 i (by omega) (by omega) (by omega)).trans (congrFun (Fh 50 (by omega)) i)) : g2' 50 i = h 50 i) ▸ z)
    · exact (F' 1 13 (by omega) (by omega) (by omega)).trans ((congrFun (Fh 1 (by omega)) 13).trans es1)
    · exact (f43 10 (by omega) (by omega)).trans es2
    · exact (F' 21 2 (by omega) (by omega) (by omega)).trans ((congrFun (Fh 21 (by omega)) 2).trans k1.1)
    · exact F' 21 9 (by omega) (by omega) (by omega)
    · exact (F' 26 2 (by omega) (by omega) (by omega)).trans ((congrFun (Fh 26 (by omega)) 2).trans k2.1)
    · exact F' 26 9 (by omega) (by omega) (by omega)
  · have fz : ¬ nI f = 0 := nI_ne0 (by omega) (by omega)
    have fz2 : ¬ nI f ≤ 0 := fun z => absurd ((nI_leI (b := 0) (by omega) (by decide)).mp z) (by omega)
    have r1 := r_X8_school_bad (L := L) h g2 (nI f) rC fz
    obtain ⟨g2', rq, F', e', k0⟩ := k (st_ (st_ (st_ (st_ (st_ (st_ (st_ (st_ g2 1 1 0) 1 2 (g2 15 6)) 43 13 (-1)) 43 14 0) 43 17 0) 43 18 0) 43 19 0) 43 23 0) ⟨Fh 50 (by omega), (congrFun (Fh 43 (by omega)) 12).trans eN2, rfl, rfl⟩ ⟨⟨rfl, rfl⟩, rfl, rfl, fun i hi => absurd hi (by omega), fun i hi => absurd hi (by omega), fun i hi => absurd hi (by omega), fun i hi => absurd hi (by omega)⟩
    have r2 := s_school0 _ (rq _ (s_school4 (L := L) g2' (nI f) fz2))
    refine Sm_mk r1 r2 rfl (by decide) (by decide) (school_no Q ?_ ?_ ?_ ⟨?_, rfl, ?_⟩) (Fh 0 (by omega))
    · intro k h1 h2 h3 h4
      funext i
      refine Eq.trans (?_ : _ = g2' k i) ((F' k i h4 (by omega) (by omega)).trans (Eq.trans ?_ (congrFun (Fh k h3) i)))
      · simp only [st_]
        rw [if_neg (by omega)]
      · simp only [st_]
        rw [if_neg (by omega), if_neg (by omega), if_neg (by omega), if_neg (by omega), if_neg (by omega), if_neg (by omega), if_neg (by omega), if_neg (by omega)]
    · intro i h1 h2
      refine Eq.trans (?_ : _ = g2' 43 i) ((F' 43 i (by omega) (by omega) (by omega)).trans (Eq.trans ?_ (congrFun (Fh 43 (by omega)) i)))
      · simp only [st_]
        rw [if_neg (by omega)]
      · simp only [st_]
        rw [if_neg (by omega), if_neg (by omega), if_neg (by omega), if_neg (by omega), if_neg (by omega), if_neg (by omega), if_neg (by omega), if_neg (by omega)]
    · exact (F' 1 13 (by omega) (by omega) (by omega)).trans (congrFun (Fh 1 (by omega)) 13)
    · exact F' 1 1 (by omega) (by omega) (by omega)
    · exact (F' 1 2 (by omega) (by omega) (by omega)).trans e'

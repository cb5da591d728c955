/-! READING, SIDE BY SIDE: the pieces over one text t -/
section CLP
variable {L N a : Nat} {h : AH} {m f p : Int32} {t : Rw}
theorem rn_ok {lo hi : Int32} (et : h 2 = t) (hN : h 15 2 = nI N) (hN2 : N ≤ 240) (ha : a ≤ 260) (F : nF t N a lo hi = 0) : Rt L 2 56 [.ref 15, .int lo, .int hi] (rdH h (nI a) m f p) (some (nV t N a)) (rdH h (nI (nE t N a)) (nI (skp t N a)) f p) := by
  subst et
  have r := rn_C (L := L) (h := h) (m := m) (f := f) (p := p) (lo := lo) (hi := hi) hN hN2 ha
  rw [F, fl_0] at r
  exact r
theorem rn_bd {lo hi : Int32} (et : h 2 = t) (hN : h 15 2 = nI N) (hN2 : N ≤ 240) (ha : a ≤ 260) (F : ¬ nF t N a lo hi = 0) : Rt L 2 56 [.ref 15, .int lo, .int hi] (rdH h (nI a) m 0 p) (some (nV t N a)) (rdH h (nI (nE t N a)) (nI (skp t N a)) (nI (nF t N a lo hi)) (nI (skp t N a))) := by
  subst et
  have r := rn_C (L := L) (h := h) (m := m) (f := 0) (p := p) (lo := lo) (hi := hi) hN hN2 ha
  rw [fl_k F] at r
  exact r
theorem rn_dd {lo hi : Int32} (et : h 2 = t) (hN : h 15 2 = nI N) (hN2 : N ≤ 240) (ha : a ≤ 260) (hf : ¬ f = 0) : Rt L 2 56 [.ref 15, .int lo, .int hi] (rdH h (nI a) m f p) (some (nV t N a)) (rdH h (nI (nE t N a)) (nI (skp t N a)) f p) := by
  subst et
  have r := rn_C (L := L) (h := h) (m := m) (f := f) (p := p) (lo := lo) (hi := hi) hN hN2 ha
  rw [fl_s hf] at r
  exact r
theorem re_ok (et : h 2 = t) (hN : h 15 2 = nI N) (hN2 : N ≤ 240) (ha : a ≤ 260) (E : ltS t N (skp t N a) = 59) : Rt L 2 55 [.ref 15] (rdH h (nI a) m f p) none (rdH h (nI (skp t N a + 1)) m f p) := by
  subst et
  have r := re_C (L := L) (h := h) (m := m) (f := f) (p := p) hN hN2 ha
  rw [if_pos E, fl_0] at r
  exact r
theorem re_bd (et : h 2 = t) (hN : h 15 2 = nI N) (hN2 : N ≤ 240) (ha : a ≤ 260) (E : ¬ ltS t N (skp t N a) = 59) : Rt L 2 55 [.ref 15] (rdH h (nI a) m 0 p) none (rdH h (nI (skp t N a + 1)) m 1 (nI (skp t N a))) := by
  subst et
  have r := re_C (L := L) (h := h) (m := m) (f := 0) (p := p) hN hN2 ha
  rw [if_neg E, fl_k (by decide)] at r
  exact r
theorem re_dd (et : h 2 = t) (hN : h 15 2 = nI N) (hN2 : N ≤ 240) (ha : a ≤ 260) (hf : ¬ f = 0) : Rt L 2 55 [.ref 15] (rdH h (nI a) m f p) none (rdH h (nI (skp t N a + 1)) m f p) := by
  subst et
  have r := re_C (L := L) (h := h) (m := m) (f := f) (p := p) hN hN2 ha
  rw [fl_s hf] at r
  exact r
theorem tn_ok {lo hi : Int32} (et : h 50 = t) (hN : h 43 12 = nI N) (hN2 : N ≤ 240) (ha : h 43 14 = nI a) (ha2 : a ≤ 260) (F : nF t N a lo hi = 0) : Rt L 1 125 [.ref 43, .int lo, .int hi] h (some 0) (st_ (st_ (st_ h 43 14 (nI (nE t N a))) 43 16 (nI (skp t N a))) 43 15 (nV t N a)) := by
  subst et
  obtain ⟨g, r, e, _, _⟩ := tn_R (L := L) (lo := lo) (hi := hi) hN hN2 ha ha2
  rw [F, e F] at r
  exact r
theorem tn_bd {lo hi : Int32} (et : h 50 = t) (hN : h 43 12 = nI N) (hN2 : N ≤ 240) (ha : h 43 14 = nI a) (ha2 : a ≤ 260) (F : ¬ nF t N a lo hi = 0) : ∃ g, Rt L 1 125 [.ref 43, .int lo, .int hi] h (some (nI (nF t N a lo hi))) g ∧ g 43 13 = nI (skp t N a) ∧ FrR h g := by
  subst et
  obtain ⟨g, r, _, e, Fr⟩ := tn_R (L := L) (lo := lo) (hi := hi) hN hN2 ha ha2
  exact ⟨g, r, e F, Fr⟩
theorem he_R (et : h 50 = t) (hN : h 43 12 = nI N) (hN2 : N ≤ 240) (ha : h 43 14 = nI a) (ha2 : a ≤ 260) : Rt L 0 123 [.ref 43] h (some (ltS t N (skp t N a))) (st_ h 43 14 (nI (skp t N a))) := by
  subst et
  exact r_X9_here h N hN hN2 a ha ha2
end CLP
theorem nF_nz {t : Rw} {N a : Nat} {lo hi : Int32} (F : ¬ nF t N a lo hi = 0) : ¬ nI (nF t N a lo hi) = 0 ∧ ¬ nI (nF t N a lo hi) ≤ 0 ∧ nF t N a lo hi ≤ 4 := by
  rcases nF_012 (t := t) (N := N) (a := a) (lo := lo) (hi := hi) with e | e | e
  · exact absurd e F
  · rw [e]; decide
  · rw [e]; decide
theorem lt59 {t : Rw} {N s : Nat} (h : ltS t N s = 59) : s < N := by
  by_cases e : s < N
  · exact e
  · rw [lt_no e] at h
    exact absurd h (by decide)
theorem ne_le {t : Rw} {N a : Nat} (h : a ≤ N) : a ≤ skp t N a ∧ skp t N a ≤ nE t N a ∧ nE t N a ≤ N := by
  have := ne_b (t := t) (N := N) (a := a)
  omega
theorem sk_le {t : Rw} {N a : Nat} (h : a ≤ N) : a ≤ skp t N a ∧ skp t N a ≤ N := by
  have := sk_b (t := t) (N := N) (a := a)
  omega
theorem st_o {h : AH} {k i k' : Nat} {v : Int32} (e : ¬ k' = k) : st_ h k i v k' = h k' := by
  funext b
  simp [st_, e]
theorem rdH_r {h : AH} {k' : Nat} {a m f p : Int32} (e : ¬ k' = 15) : rdH h a m f p k' = h k' := by
  funext b
  simp [rdH, sc_, e]
theorem upd_at {f : Rw} {i : Nat} {v : Int32} : upd f i v i = v := if_pos rfl
theorem upd_ne {f : Rw} {i j : Nat} {v : Int32} (e : ¬ j = i) : upd f i v j = f j := if_neg e
/-! where a clause begins, and what comes of it -/
def CS (t : Rw) (N b : Nat) (g : AH) : Prop := g 2 = t ∧ g 15 2 = nI N ∧ g 15 3 = nI b ∧ g 15 5 = 0 ∧ g 15 6 = -1
def RS (t : Rw) (N b : Nat) (g : AH) : Prop := g 50 = t ∧ g 43 12 = nI N ∧ g 43 14 = nI b ∧ g 43 13 = -1
def RdC (tl : Int32) (c n : Nat) (g : AH) : Prop := (g 9 0 = tl ∧ (tl = 0 ∨ tl = 1)) ∧ (g 9 2 = nI c ∧ c ≤ 5) ∧ (g 9 3 = nI n ∧ n ≤ 7) ∧ inCh (g 12) c
def RdR (tl : Int32) (c n : Nat) (g g' : AH) : Prop :=
  (g' 43 17 = tl ∧ g 9 1 = g' 43 18) ∧ g' 43 19 = nI c ∧ g' 43 23 = nI n ∧
  (∀ i, i < c → g 10 i = g' 51 i ∧ g 11 i = g' 52 i ∧ g 12 i = g' 53 i ∧ (∃ s, 1 ≤ s ∧ s ≤ 99 ∧ g' 51 i = nI s) ∧ ∃ m, m ≤ 99 ∧ g' 52 i = nI m) ∧
  (∀ d, d < n → g 13 d = g' 54 d ∧ g 14 d = g' 55 d ∧ (∃ w, 1 ≤ w ∧ w ≤ 99 ∧ g' 55 d = nI w) ∧ ∃ o, o < c ∧ g' 54 d = nI o) ∧
  inCh (g' 53) c ∧ ∀ i, i < c → g' 53 (topS (g' 53) c i) = -1
def ClO (L N b : Nat) (t : Rw) (tl : Int32) (c n : Nat) (g : AH) : Prop :=
  ∃ (f a2 : Nat) (tl' : Int32) (c' n' : Nat) (g2 : AH), Rt L 4 49 [.ref 15] g none g2 ∧ FrC g g2 ∧ f ≤ 4 ∧ g2 15 2 = nI N ∧ g2 15 3 = nI a2 ∧ a2 ≤ 260 ∧ g2 15 5 = nI f ∧ (f = 0 → b < a2 ∧ a2 ≤ N ∧ g2 15 6 = -1 ∧ RdC tl' c' n' g2) ∧
    ∀ g', RS t N b g' → RdR tl c n g g' → ∃ g2', Rt L 4 131 [.ref 43] g' (some (nI f)) g2' ∧ FrR g' g2' ∧ g2 15 6 = g2' 43 13 ∧ (f = 0 → g2' 43 14 = nI a2 ∧ RdR tl' c' n' g2 g2')
theorem ClO_bad {L N b f a2 c n : Nat} {t : Rw} {tl m P : Int32} {g B : AH} (f0 : ¬ f = 0) (f4 : f ≤ 4) (ha2 : a2 ≤ 260) (r : Rt L 4 49 [.ref 15] g none (rdH B (nI a2) m (nI f) P)) (F : FrC g B) (hN : B 15 2 = nI N) (k : ∀ g', RS t N b g' → RdR tl c n g g' → ∃ g2', Rt L 4 131 [.ref 43] g' (some (nI f)) g2' ∧ FrR g' g2' ∧ g2' 43 13 = P) : ClO L N b t tl c n g :=
  ⟨f, a2, tl, c, n, _, r, F.rd, f4, hN, rfl, ha2, rfl, fun z => absurd z f0, fun g' S R => by
    obtain ⟨g2', r', F', e⟩ := k g' S R
    exact ⟨g2', r', F', e.symm, fun z => absurd z f0⟩⟩
section TCL
variable {L N b e : Nat} {t : Rw} {g G : AH} {f : Int32}
theorem tc_b_bad (S : RS t N b g) (hsk : skp t N b = b) (hN2 : N ≤ 240) (hb : b < N) (hw : ltS t N b = 98) (ht : g 43 17 = 0) (r : Rt L 2 127 [.ref 43] (st_ g 43 14 (nI (b + 1))) (some f) G) (hf : ¬ f = 0) : Rt L 4 131 [.ref 43] g (some f) (st_ G 43 14 (G 43 14 + 1)) := by
  obtain ⟨e50, eN, ea, _⟩ := S
  subst e50
  exact r_X9_takeClause_b_bad g N eN hN2 b ea (by omega) (by rw [hsk]; exact hw) ht G f (by rw [hsk]; exact r) hf
theorem tc_b_ok (S : RS t N b g) (hsk : skp t N b = b) (hN2 : N ≤ 240) (hb : b < N) (hw : ltS t N b = 98) (ht : g 43 17 = 0) (r : Rt L 2 127 [.ref 43] (st_ g 43 14 (nI (b + 1))) (some 0) G) (eG : G 50 = t) (eGN : G 43 12 = nI N) (eGa : G 43 14 = nI e) (he2 : e ≤ 260) (E : ltS t N (skp t N e) = 59) : Rt L 4 131 [.ref 43] g (some (nI 0)) (st_ G 43 14 (nI (skp t N e + 1))) := by
  obtain ⟨e50, eN, ea, _⟩ := S
  subst e50
  refine Rt_h (r_X9_takeClause_b_ok g N eN hN2 b ea (by omega) (by rw [hsk]; exact hw) ht G 0 (by rw [hsk]; exact r) rfl _ _ (he_R eG eGN hN2 eGa he2) E) ?_
  rw [st_st]
  show st_ G 43 14 (st_ G 43 14 (nI (skp (g 50) N e)) 43 14 + 1) = _
  rw [st_at]
  exact congrArg (st_ G 43 14) (nI_add _ 1)
theorem tc_b_end (S : RS t N b g) (hsk : skp t N b = b) (hN2 : N ≤ 240) (hb : b < N) (hw : ltS t N b = 98) (ht : g 43 17 = 0) (r : Rt L 2 127 [.ref 43] (st_ g 43 14 (nI (b + 1))) (some 0) G) (eG : G 50 = t) (eGN : G 43 12 = nI N) (eGa : G 43 14 = nI e) (he2 : e ≤ 260) (E : ¬ ltS t N (skp t N e) = 59) : Rt L 4 131 [.ref 43] g (some (nI 1)) (st_ (st_ G 43 14 (nI (skp t N e))) 43 13 (nI (skp t N e))) := by
  obtain ⟨e50, eN, ea, _⟩ := S
  subst e50
  refine Rt_h (r_X9_takeClause_b_end g N eN hN2 b ea (by omega) (by rw [hsk]; exact hw) ht G 0 (by rw [hsk]; exact r) rfl _ _ (he_R eG eGN hN2 eGa he2) E) ?_
  rw [st_at]
theorem tc_c_bad (S : RS t N b g) (hsk : skp t N b = b) (hN2 : N ≤ 240) (hb : b < N) (hw : ltS t N b = 99) (ht : ¬ g 43 17 = 0) (hq : ¬ g 43 19 = 5) (r : Rt L 3 128 [.ref 43] (st_ g 43 14 (nI (b + 1))) (some f) G) (hf : ¬ f = 0) : Rt L 4 131 [.ref 43] g (some f) (st_ G 43 14 (G 43 14 + 1)) := by
  obtain ⟨e50, eN, ea, _⟩ := S
  subst e50
  exact r_X9_takeClause_c_bad g N eN hN2 b ea (by omega) (by rw [hsk]; exact hw) ht hq G f (by rw [hsk]; exact r) hf
theorem tc_c_ok (S : RS t N b g) (hsk : skp t N b = b) (hN2 : N ≤ 240) (hb : b < N) (hw : ltS t N b = 99) (ht : ¬ g 43 17 = 0) (hq : ¬ g 43 19 = 5) (r : Rt L 3 128 [.ref 43] (st_ g 43 14 (nI (b + 1))) (some 0) G) (eG : G 50 = t) (eGN : G 43 12 = nI N) (eGa : G 43 14 = nI e) (he2 : e ≤ 260) (E : ltS t N (skp t N e) = 59) : Rt L 4 131 [.ref 43] g (some (nI 0)) (st_ G 43 14 (nI (skp t N e + 1))) := by
  obtain ⟨e50, eN, ea, _⟩ := S
  subst e50
  refine Rt_h (r_X9_takeClause_c_ok g N eN hN2 b ea (by omega) (by rw [hsk]; exact hw) ht hq G 0 (by rw [hsk]; exact r) rfl _ _ (he_R eG eGN hN2 eGa he2) E) ?_
  rw [st_st]
  show st_ G 43 14 (st_ G 43 14 (nI (skp (g 50) N e)) 43 14 + 1) = _
  rw [st_at]
  exact congrArg (st_ G 43 14) (nI_add _ 1)
theorem tc_c_end (S : RS t N b g) (hsk : skp t N b = b) (hN2 : N ≤ 240) (hb : b < N) (hw : ltS t N b = 99) (ht : ¬ g 43 17 = 0) (hq : ¬ g 43 19 = 5) (r : Rt L 3 128 [.ref 43] (st_ g 43 14 (nI (b + 1))) (some 0) G) (eG : G 50 = t) (eGN : G 43 12 = nI N) (eGa : G 43 14 = nI e) (he2 : e ≤ 260) (E : ¬ ltS t N (skp t N e) = 59) : Rt L 4 131 [.ref 43] g (some (nI 1)) (st_ (st_ G 43 14 (nI (skp t N e))) 43 13 (nI (skp t N e))) := by
  obtain ⟨e50, eN, ea, _⟩ := S
  subst e50
  refine Rt_h (r_X9_takeClause_c_end g N eN hN2 b ea (by omega) (by rw [hsk]; exact hw) ht hq G 0 (by rw [hsk]; exact r) rfl _ _ (he_R eG eGN hN2 eGa he2) E) ?_
  rw [st_at]
theorem tc_d_bad (S : RS t N b g) (hsk : skp t N b = b) (hN2 : N ≤ 240) (hb : b < N) (hw : ltS t N b = 100) (ht : ¬ g 43 17 = 0) (hq : ¬ g 43 23 = 7) (r : Rt L 3 129 [.ref 43] (st_ g 43 14 (nI (b + 1))) (some f) G) (hf : ¬ f = 0) : Rt L 4 131 [.ref 43] g (some f) (st_ G 43 14 (G 43 14 + 1)) := by
  obtain ⟨e50, eN, ea, _⟩ := S
  subst e50
  exact r_X9_takeClause_d_bad g N eN hN2 b ea (by omega) (by rw [hsk]; exact hw) ht hq G f (by rw [hsk]; exact r) hf
theorem tc_d_ok (S : RS t N b g) (hsk : skp t N b = b) (hN2 : N ≤ 240) (hb : b < N) (hw : ltS t N b = 100) (ht : ¬ g 43 17 = 0) (hq : ¬ g 43 23 = 7) (r : Rt L 3 129 [.ref 43] (st_ g 43 14 (nI (b + 1))) (some 0) G) (eG : G 50 = t) (eGN : G 43 12 = nI N) (eGa : G 43 14 = nI e) (he2 : e ≤ 260) (E : ltS t N (skp t N e) = 59) : Rt L 4 131 [.ref 43] g (some (nI 0)) (st_ G 43 14 (nI (skp t N e + 1))) := by
  obtain ⟨e50, eN, ea, _⟩ := S
  subst e50
  refine Rt_h (r_X9_takeClause_d_ok g N eN hN2 b ea (by omega) (by rw [hsk]; exact hw) ht hq G 0 (by rw [hsk]; exact r) rfl _ _ (he_R eG eGN hN2 eGa he2) E) ?_
  rw [st_st]
  show st_ G 43 14 (st_ G 43 14 (nI (skp (g 50) N e)) 43 14 + 1) = _
  rw [st_at]
  exact congrArg (st_ G 43 14) (nI_add _ 1)
theorem tc_d_end (S : RS t N b g) (hsk : skp t N b = b) (hN2 : N ≤ 240) (hb : b < N) (hw : ltS t N b = 100) (ht : ¬ g 43 17 = 0) (hq : ¬ g 43 23 = 7) (r : Rt L 3 129 [.ref 43] (st_ g 43 14 (nI (b + 1))) (some 0) G) (eG : G 50 = t) (eGN : G 43 12 = nI N) (eGa : G 43 14 = nI e) (he2 : e ≤ 260) (E : ¬ ltS t N (skp t N e) = 59) : Rt L 4 131 [.ref 43] g (some (nI 1)) (st_ (st_ G 43 14 (nI (skp t N e))) 43 13 (nI (skp t N e))) := by
  obtain ⟨e50, eN, ea, _⟩ := S
  subst e50
  refine Rt_h (r_X9_takeClause_d_end g N eN hN2 b ea (by omega) (by rw [hsk]; exact hw) ht hq G 0 (by rw [hsk]; exact r) rfl _ _ (he_R eG eGN hN2 eGa he2) E) ?_
  rw [st_at]
theorem tc_h_bad (S : RS t N b g) (hsk : skp t N b = b) (hN2 : N ≤ 240) (hb : b < N) (hw : ltS t N b = 104) (ht : ¬ g 43 17 = 0) (r : Rt L 2 130 [.ref 43] (st_ g 43 14 (nI (b + 1))) (some f) G) (hf : ¬ f = 0) : Rt L 4 131 [.ref 43] g (some f) (st_ G 43 14 (G 43 14 + 1)) := by
  obtain ⟨e50, eN, ea, _⟩ := S
  subst e50
  exact r_X9_takeClause_h_bad g N eN hN2 b ea (by omega) (by rw [hsk]; exact hw) ht G f (by rw [hsk]; exact r) hf
theorem tc_h_ok (S : RS t N b g) (hsk : skp t N b = b) (hN2 : N ≤ 240) (hb : b < N) (hw : ltS t N b = 104) (ht : ¬ g 43 17 = 0) (r : Rt L 2 130 [.ref 43] (st_ g 43 14 (nI (b + 1))) (some 0) G) (eG : G 50 = t) (eGN : G 43 12 = nI N) (eGa : G 43 14 = nI e) (he2 : e ≤ 260) (E : ltS t N (skp t N e) = 59) : Rt L 4 131 [.ref 43] g (some (nI 0)) (st_ G 43 14 (nI (skp t N e + 1))) := by
  obtain ⟨e50, eN, ea, _⟩ := S
  subst e50
  refine Rt_h (r_X9_takeClause_h_ok g N eN hN2 b ea (by omega) (by rw [hsk]; exact hw) ht G 0 (by rw [hsk]; exact r) rfl _ _ (he_R eG eGN hN2 eGa he2) E) ?_
  rw [st_st]
  show st_ G 43 14 (st_ G 43 14 (nI (skp (g 50) N e)) 43 14 + 1) = _
  rw [st_at]
  exact congrArg (st_ G 43 14) (nI_add _ 1)
theorem tc_h_end (S : RS t N b g) (hsk : skp t N b = b) (hN2 : N ≤ 240) (hb : b < N) (hw : ltS t N b = 104) (ht : ¬ g 43 17 = 0) (r : Rt L 2 130 [.ref 43] (st_ g 43 14 (nI (b + 1))) (some 0) G) (eG : G 50 = t) (eGN : G 43 12 = nI N) (eGa : G 43 14 = nI e) (he2 : e ≤ 260) (E : ¬ ltS t N (skp t N e) = 59) : Rt L 4 131 [.ref 43] g (some (nI 1)) (st_ (st_ G 43 14 (nI (skp t N e))) 43 13 (nI (skp t N e))) := by
  obtain ⟨e50, eN, ea, _⟩ := S
  subst e50
  refine Rt_h (r_X9_takeClause_h_end g N eN hN2 b ea (by omega) (by rw [hsk]; exact hw) ht G 0 (by rw [hsk]; exact r) rfl _ _ (he_R eG eGN hN2 eGa he2) E) ?_
  rw [st_at]
end TCL
/-- a word that can't stand there, and one too many -/
theorem tc_x {L N b k : Nat} {t : Rw} {g : AH} (S : RS t N b g) (hsk : skp t N b = b) (r : Rt L 4 131 [.ref 43] g (some (nI k)) (st_ (st_ g 43 14 (nI (skp (g 50) N b))) 43 13 (nI (skp (g 50) N b)))) : ∃ g2', Rt L 4 131 [.ref 43] g (some (nI k)) g2' ∧ FrR g g2' ∧ g2' 43 13 = nI b := by
  obtain ⟨e50, eN, ea, _⟩ := S
  rw [e50, hsk] at r
  exact ⟨_, r, (FrR.rf.st (by omega)).st (by omega), rfl⟩

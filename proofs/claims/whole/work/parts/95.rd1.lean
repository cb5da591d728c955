/-! READING, SIDE BY SIDE: the program's pieces in one form -/
def rdH (h : AH) (a m f p : Int32) : AH := sc_ h 15 (fun i => if i = 3 then a else if i = 4 then m else if i = 5 then f else if i = 6 then p else h 15 i)
theorem rdH_id {h : AH} {a f p : Int32} (e1 : h 15 3 = a) (e2 : h 15 5 = f) (e3 : h 15 6 = p) : rdH h a (h 15 4) f p = h := by
  subst e1; subst e2; subst e3
  funext k i
  simp only [rdH, sc_]
  grind
theorem rdH_3 {h : AH} {a m f p x : Int32} : st_ (rdH h a m f p) 15 3 x = rdH h x m f p := by
  funext k i
  simp only [rdH, sc_, st_]
  grind
theorem rdH_4 {h : AH} {a m f p x : Int32} : st_ (rdH h a m f p) 15 4 x = rdH h a x f p := by
  funext k i
  simp only [rdH, sc_, st_]
  grind
theorem rdH_5 {h : AH} {a m f p x : Int32} : st_ (rdH h a m f p) 15 5 x = rdH h a m x p := by
  funext k i
  simp only [rdH, sc_, st_]
  grind
theorem rdH_6 {h : AH} {a m f p x : Int32} : st_ (rdH h a m f p) 15 6 x = rdH h a m f x := by
  funext k i
  simp only [rdH, sc_, st_]
  grind
theorem rdH_o {h : AH} {a m f p x : Int32} {k i : Nat} (hk : k ≠ 15) : st_ (rdH h a m f p) k i x = rdH (st_ h k i x) a m f p := by
  funext k' i'
  simp only [rdH, sc_, st_]
  grind
/-- a fault counts where none was before -/
def fl (f p : Int32) (k w : Nat) : Int32 × Int32 := if f = 0 ∧ ¬ k = 0 then (nI k, nI w) else (f, p)
theorem fl_0 {f p : Int32} {w : Nat} : fl f p 0 w = (f, p) := if_neg (fun z => z.2 rfl)
theorem fl_k {p : Int32} {k w : Nat} (h : ¬ k = 0) : fl 0 p k w = (nI k, nI w) := if_pos ⟨rfl, h⟩
theorem fl_s {f p : Int32} {k w : Nat} (h : ¬ f = 0) : fl f p k w = (f, p) := if_neg (fun z => h z.1)
section RDC
variable {L N a : Nat} {h : AH} {m f p : Int32}
theorem tw_1 (ha : a ≤ 260) : Rt L 1 54 [.ref 15, .int 1] (rdH h (nI a) m f p) none (rdH h (nI (a + 1)) m f p) :=
  Rt_h (r_X4_takeWord_1 (rdH h (nI a) m f p) 1 a rfl ha rfl) rdH_3
theorem tw_0 (ha : a ≤ 260) : Rt L 1 54 [.ref 15, .int 0] (rdH h (nI a) m 0 p) none (rdH h (nI (a + 1)) m 3 (nI a)) :=
  Rt_h (r_X4_takeWord_0 (rdH h (nI a) m 0 p) 0 a rfl ha rfl rfl) (by rw [rdH_5, rdH_6, rdH_3])
theorem re_C (hN : h 15 2 = nI N) (hN2 : N ≤ 240) (ha : a ≤ 260) : Rt L 2 55 [.ref 15] (rdH h (nI a) m f p) none (rdH h (nI (skp (h 2) N a + 1)) m (fl f p (if ltS (h 2) N (skp (h 2) N a) = 59 then 0 else 1) (skp (h 2) N a)).1 (fl f p (if ltS (h 2) N (skp (h 2) N a) = 59 then 0 else 1) (skp (h 2) N a)).2) := by
  by_cases hf : f = 0
  · subst hf
    by_cases he : ltS (h 2) N (skp (h 2) N a) = 59
    · rw [if_pos he, fl_0]
      exact Rt_h (r_X4_readEnd_ok (rdH h (nI a) m 0 p) N hN hN2 a rfl ha he) rdH_3
    · rw [if_neg he, fl_k (by decide)]
      exact Rt_h (r_X4_readEnd_bad (rdH h (nI a) m 0 p) N hN hN2 a rfl ha he rfl) (by rw [rdH_3, rdH_5, rdH_6]; rfl)
  · rw [fl_s hf]
    exact Rt_h (r_X4_readEnd_dead (rdH h (nI a) m f p) N hN hN2 a rfl ha hf) rdH_3
theorem rn_C {lo hi : Int32} (hN : h 15 2 = nI N) (hN2 : N ≤ 240) (ha : a ≤ 260) : Rt L 2 56 [.ref 15, .int lo, .int hi] (rdH h (nI a) m f p) (some (nV (h 2) N a)) (rdH h (nI (nE (h 2) N a)) (nI (skp (h 2) N a)) (fl f p (nF (h 2) N a lo hi) (skp (h 2) N a)).1 (fl f p (nF (h 2) N a lo hi) (skp (h 2) N a)).2) := by
  by_cases hf : f = 0
  · subst hf
    unfold nF
    by_cases h1 : nE (h 2) N a = skp (h 2) N a
    · rw [if_pos h1, fl_k (by decide)]
      exact Rt_h (r_X4_readNumber_bad1 (rdH h (nI a) m 0 p) lo hi N hN hN2 a rfl ha h1 rfl) (by rw [rdH_3, rdH_4, rdH_5, rdH_6]; rfl)
    · rw [if_neg h1]
      by_cases h2 : 3 < nE (h 2) N a - skp (h 2) N a
      · rw [if_pos (Or.inl h2), fl_k (by decide)]
        exact Rt_h (r_X4_readNumber_bad2a (rdH h (nI a) m 0 p) lo hi N hN hN2 a rfl ha h1 h2 rfl) (by rw [rdH_3, rdH_4, rdH_5, rdH_6]; rfl)
      · by_cases h3 : nV (h 2) N a < lo
        · rw [if_pos (Or.inr (Or.inl h3)), fl_k (by decide)]
          exact Rt_h (r_X4_readNumber_bad2b (rdH h (nI a) m 0 p) lo hi N hN hN2 a rfl ha h1 h2 h3 rfl) (by rw [rdH_3, rdH_4, rdH_5, rdH_6]; rfl)
        · by_cases h4 : nV (h 2) N a ≤ hi
          · rw [if_neg (fun z => z.elim h2 (fun z => z.elim h3 (fun z => z h4))), fl_0]
            exact Rt_h (r_X4_readNumber_ok (rdH h (nI a) m 0 p) lo hi N hN hN2 a rfl ha h1 h2 h3 h4) (by rw [rdH_3, rdH_4]; rfl)
          · rw [if_pos (Or.inr (Or.inr h4)), fl_k (by decide)]
            exact Rt_h (r_X4_readNumber_bad2c (rdH h (nI a) m 0 p) lo hi N hN hN2 a rfl ha h1 h2 h3 h4 rfl) (by rw [rdH_3, rdH_4, rdH_5, rdH_6]; rfl)
  · rw [fl_s hf]
    exact Rt_h (r_X4_readNumber_dead (rdH h (nI a) m f p) lo hi N hN hN2 a rfl ha hf) (by rw [rdH_3, rdH_4]; rfl)
end RDC
theorem nF_012 {t : Rw} {N a : Nat} {lo hi : Int32} : nF t N a lo hi = 0 ∨ nF t N a lo hi = 1 ∨ nF t N a lo hi = 2 := by
  unfold nF
  split
  · exact Or.inr (Or.inl rfl)
  · split
    · exact Or.inr (Or.inr rfl)
    · exact Or.inl rfl
theorem nF_ok {t : Rw} {N a : Nat} {lo hi : Int32} (h : nF t N a lo hi = 0) : ¬ nE t N a = skp t N a ∧ ¬ 3 < nE t N a - skp t N a ∧ ¬ nV t N a < lo ∧ nV t N a ≤ hi := by
  unfold nF at h
  split at h
  · exact absurd h (by decide)
  · rename_i h1
    split at h
    · exact absurd h (by decide)
    · rename_i h2
      exact ⟨h1, fun z => h2 (Or.inl z), fun z => h2 (Or.inr (Or.inl z)), Classical.not_not.mp (fun z => h2 (Or.inr (Or.inr z)))⟩
/-- a number that is in its bounds -/
theorem nF_in {t : Rw} {N a : Nat} {lo hi : Int32} {l u : Nat} (h : nF t N a lo hi = 0) (el : lo = nI l) (eu : hi = nI u) (hl : l < 2 ^ 31) (hu : u < 2 ^ 31) : ∃ v, l ≤ v ∧ v ≤ u ∧ nV t N a = nI v := by
  obtain ⟨_, h2, h3, h4⟩ := nF_ok h
  obtain ⟨v, hv, e, _⟩ := nv_nat h2
  rw [e, el] at h3
  rw [e, eu] at h4
  have h5 := (nI_leI (by omega) hu).mp h4
  have h6 : ¬ v < l := fun z => h3 ((nI_ltI (by omega) hl).mpr z)
  exact ⟨v, by omega, h5, e⟩
/-- the number of one who was told ahead -/
theorem nF_ix {t : Rw} {N a c : Nat} (hc : c ≤ 5) (h : nF t N a 0 (nI c - 1) = 0) : ∃ v, v < c ∧ nV t N a = nI v := by
  cases c with
  | zero =>
    obtain ⟨_, h2, h3, h4⟩ := nF_ok h
    exact absurd (Int32.lt_of_le_of_lt h4 (show nI 0 - 1 < 0 by decide)) h3
  | succ c =>
    rw [nI_pred] at h
    obtain ⟨v, _, h2, e⟩ := nF_in (l := 0) (u := c) h rfl rfl (by decide) (by omega)
    exact ⟨v, by omega, e⟩
/-! the reference's pieces -/
def FrR (h g : AH) : Prop := ∀ k i, ¬ (51 ≤ k ∧ k ≤ 55) → ¬ (k = 43 ∧ 13 ≤ i ∧ i ≤ 19) → ¬ (k = 43 ∧ i = 23) → g k i = h k i
def FrC (h g : AH) : Prop := ∀ k, ¬ (9 ≤ k ∧ k ≤ 15) → g k = h k
theorem FrC.rf {h : AH} : FrC h h := fun _ _ => rfl
theorem FrR.rf {h : AH} : FrR h h := fun _ _ _ _ _ => rfl
theorem FrC.st {h g : AH} (F : FrC h g) {k i : Nat} {v : Int32} (hk : 9 ≤ k ∧ k ≤ 15) : FrC h (st_ g k i v) := fun k' h' => by
  have e := F k' h'
  rw [← e]
  funext i'
  simp only [st_]
  rw [if_neg (fun z => h' (by rw [z.1]; exact hk))]
theorem FrC.rd {h g : AH} (F : FrC h g) {a m f p : Int32} : FrC h (rdH g a m f p) := fun k' h' => by
  have e := F k' h'
  rw [← e]
  funext i'
  simp only [rdH, sc_]
  rw [if_neg (fun z => h' (by omega))]
theorem FrR.st {h g : AH} (F : FrR h g) {k i : Nat} {v : Int32} (hk : (51 ≤ k ∧ k ≤ 55) ∨ (k = 43 ∧ 13 ≤ i ∧ i ≤ 19) ∨ (k = 43 ∧ i = 23)) : FrR h (st_ g k i v) := fun k' i' h1 h2 h3 => by
  have e := F k' i' h1 h2 h3
  rw [← e]
  simp only [st_]
  refine if_neg (fun z => ?_)
  obtain ⟨rfl, rfl⟩ := z
  rcases hk with q | q | q
  · exact h1 q
  · exact h2 q
  · exact h3 q
theorem FrR.tr {h g g' : AH} (F : FrR h g) (F' : FrR g g') : FrR h g' := fun k i h1 h2 h3 => (F' k i h1 h2 h3).trans (F k i h1 h2 h3)
/-- a number is taken: which fault; where none is, what the heap is -/
theorem tn_R {L N a : Nat} {h : AH} {lo hi : Int32} (hN : h 43 12 = nI N) (hN2 : N ≤ 240) (ha : h 43 14 = nI a) (ha2 : a ≤ 260) : ∃ g, Rt L 1 125 [.ref 43, .int lo, .int hi] h (some (nI (nF (h 50) N a lo hi))) g ∧ (nF (h 50) N a lo hi = 0 → g = st_ (st_ (st_ h 43 14 (nI (nE (h 50) N a))) 43 16 (nI (skp (h 50) N a))) 43 15 (nV (h 50) N a)) ∧ (¬ nF (h 50) N a lo hi = 0 → g 43 13 = nI (skp (h 50) N a)) ∧ FrR h g := by
  by_cases h1 : nE (h 50) N a = skp (h 50) N a
  · have e : nF (h 50) N a lo hi = 1 := if_pos h1
    rw [e]
    exact ⟨_, r_X9_takeNumber_bad1 h lo hi N hN hN2 a ha ha2 h1, fun z => absurd z (by decide), fun _ => rfl, (FrR.rf.st (by omega)).st (by omega)⟩
  · by_cases h2 : 3 < nE (h 50) N a - skp (h 50) N a
    · have e : nF (h 50) N a lo hi = 2 := by unfold nF; rw [if_neg h1, if_pos (Or.inl h2)]
      rw [e]
      exact ⟨_, r_X9_takeNumber_bad2a h lo hi N hN hN2 a ha ha2 h1 h2, fun z => absurd z (by decide), fun _ => rfl, (((FrR.rf.st (by omega)).st (by omega)).st (by omega)).st (by omega)⟩
    · obtain ⟨v, hv, e1, e2⟩ := nv_nat h2
      by_cases h3 : lo ≤ nV (h 50) N a ∧ nV (h 50) N a ≤ hi
      · have e : nF (h 50) N a lo hi = 0 := by
          unfold nF
          rw [if_neg h1, if_neg]
          rintro (z | z | z)
          · exact h2 z
          · exact Int32.not_lt.mpr h3.1 z
          · exact z h3.2
        rw [e]
        have h3' : lo ≤ vlM (h 50) (skp (h 50) N a) (nE (h 50) N a - skp (h 50) N a) ∧ vlM (h 50) (skp (h 50) N a) (nE (h 50) N a - skp (h 50) N a) ≤ hi := by rw [e2, ← e1]; exact h3
        exact ⟨_, r_X9_takeNumber_ok h lo hi N hN hN2 a ha ha2 h1 h2 h3', fun _ => by rw [e2, e1], fun z => absurd rfl z, ((FrR.rf.st (by omega)).st (by omega)).st (by omega)⟩
      · have e : nF (h 50) N a lo hi = 2 := by
          unfold nF
          rw [if_neg h1, if_pos]
          by_cases z : nV (h 50) N a < lo
          · exact Or.inr (Or.inl z)
          · exact Or.inr (Or.inr (fun z2 => h3 ⟨Int32.not_lt.mp z, z2⟩))
        rw [e]
        have h3' : ¬ (lo ≤ vlM (h 50) (skp (h 50) N a) (nE (h 50) N a - skp (h 50) N a) ∧ vlM (h 50) (skp (h 50) N a) (nE (h 50) N a - skp (h 50) N a) ≤ hi) := by rw [e2, ← e1]; exact h3
        exact ⟨_, r_X9_takeNumber_bad2b h lo hi N hN hN2 a ha ha2 h1 h2 h3', fun z => absurd z (by decide), fun _ => rfl, (((FrR.rf.st (by omega)).st (by omega)).st (by omega)).st (by omega)⟩

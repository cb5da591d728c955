/-! BOTH SEARCHES FIND THE SAME, 2 -/
theorem ld_ref {fl : Nat → Bool} {w : Rw} {wn : Nat → Nat} {c n code q : Nat} (hw : ∀ d, d < n → w d = nI (wn d)) : ∀ k, k ≤ n → nI (ldA fl wn c n code q) = nI (ldA fl wn c (n - k) (lfS fl c n code k) q) + ldS fl w c n code k q
  | 0, _ => by
    show _ = nI (ldA fl wn c n code q) + 0
    rw [Int32.add_zero]
  | k + 1, hk => by
    rw [ld_ref hw k (by omega), show n - k = (n - (k + 1)) + 1 by omega]
    simp only [ldA, lfS, ldS]
    rw [show n - 1 - k = n - (k + 1) by omega]
    by_cases e : fl (n - (k + 1)) = true
    · rw [if_pos e, if_pos e]
      by_cases e2 : lfS fl c n code k % c = q
      · rw [if_pos e2, if_pos ⟨e, e2⟩, hw _ (by omega), ← nI_add, Int32.add_assoc, Int32.add_comm (nI (wn _))]
      · rw [if_neg e2, if_neg (fun z => e2 z.2), Nat.add_zero]
    · rw [if_neg e, if_neg e, if_neg (fun z => e z.1)]
theorem mv_ref {fl : Nat → Bool} {pl : Rw} {ho : Nat → Nat} {c n code : Nat} (hc : c ≤ 5) (hpl : ∀ d, d < n → fl d = true → ho d < c ∧ pl d = nI (ho d)) : ∀ k, k ≤ n → mvA fl ho c n code = mvA fl ho c (n - k) (lfS fl c n code k) + mvS fl pl c n code k
  | 0, _ => rfl
  | k + 1, hk => by
    rw [mv_ref hc hpl k (by omega), show n - k = (n - (k + 1)) + 1 by omega]
    simp only [mvA, lfS, mvS]
    rw [show n - 1 - k = n - (k + 1) by omega]
    by_cases e : fl (n - (k + 1)) = true
    · obtain ⟨h1, h2⟩ := hpl _ (by omega) e
      rw [if_pos e, if_pos e, h2]
      have hm : lfS fl c n code k % c < c := Nat.mod_lt _ (by omega)
      by_cases e2 : lfS fl c n code k % c = ho (n - (k + 1))
      · rw [if_pos e2, if_neg (fun z => z.2 (by rw [e2]))]
        omega
      · rw [if_neg e2, if_pos ⟨e, fun z => e2 ((nI_eq (by omega) (by omega)).mp z)⟩]
        omega
    · rw [if_neg e, if_neg e, if_neg (fun z => e z.1)]
theorem gv_ref {fl : Nat → Bool} {c n code q : Nat} : ∀ k, k ≤ n → q < n - k → gvA fl c n code q = gvA fl c (n - k) (lfS fl c n code k) q
  | 0, _, _ => rfl
  | k + 1, hk, hq => by
    rw [gv_ref k (by omega) (by omega), show n - k = (n - (k + 1)) + 1 by omega]
    simp only [gvA, lfS]
    rw [show n - 1 - k = n - (k + 1) by omega, if_neg (show ¬ q = n - (k + 1) by omega), if_neg (show ¬ q = n - (k + 1) by omega)]
    split <;> rfl
theorem gv_is {fl : Nat → Bool} {c n code q : Nat} (hq : q < n) : gvS fl c n code q = gvA fl c n code q := by
  rw [gv_ref (n - 1 - q) (by omega) (by omega), show n - (n - 1 - q) = q + 1 by omega]
  simp [gvA, gvS]
theorem ld_is {fl : Nat → Bool} {w : Rw} {wn : Nat → Nat} {c n code q : Nat} (hw : ∀ d, d < n → w d = nI (wn d)) : ldS fl w c n code n q = nI (ldA fl wn c n code q) := by
  rw [ld_ref hw n (Nat.le_refl _), Nat.sub_self]
  show _ = nI 0 + _
  rw [nI_0, Int32.zero_add]
theorem mv_is {fl : Nat → Bool} {pl : Rw} {ho : Nat → Nat} {c n code : Nat} (hc : c ≤ 5) (hpl : ∀ d, d < n → fl d = true → ho d < c ∧ pl d = nI (ho d)) : mvS fl pl c n code n = mvA fl ho c n code := by
  rw [mv_ref hc hpl n (Nat.le_refl _), Nat.sub_self]
  show _ = 0 + _
  omega
theorem ldA_le {fl : Nat → Bool} {wn : Nat → Nat} {c n q : Nat} (hw : ∀ d, d < n → wn d ≤ 99) : ∀ d P, d ≤ n → ldA fl wn c d P q ≤ 99 * d
  | 0, _, _ => Nat.le_refl _
  | d + 1, P, hd => by
    have h1 := ldA_le (fl := fl) (c := c) (q := q) hw d (P / c) (by omega)
    have h2 := ldA_le (fl := fl) (c := c) (q := q) hw d P (by omega)
    have h3 := hw d (by omega)
    simp only [ldA]
    split
    · split <;> omega
    · omega
theorem mvA_le {fl : Nat → Bool} {ho : Nat → Nat} {c : Nat} : ∀ d P, mvA fl ho c d P ≤ d
  | 0, _ => Nat.le_refl _
  | d + 1, P => by
    have h1 := mvA_le (fl := fl) (ho := ho) (c := c) d (P / c)
    have h2 := mvA_le (fl := fl) (ho := ho) (c := c) d P
    simp only [mvA]
    split
    · split <;> omega
    · omega
def mxN (f : Nat → Nat) : Nat → Nat
  | 0 => 0
  | k + 1 => if f k ≤ mxN f k then mxN f k else f k
theorem mxN_le {f : Nat → Nat} {b : Nat} (h : ∀ i, f i ≤ b) : ∀ k, mxN f k ≤ b
  | 0 => Nat.zero_le _
  | k + 1 => by
    have := mxN_le h k
    have := h k
    simp only [mxN]
    split <;> omega
theorem mxN_ge {f : Nat → Nat} : ∀ {k i : Nat}, i < k → f i ≤ mxN f k
  | k + 1, i, hi => by
    simp only [mxN]
    by_cases e : i = k
    · subst e
      split <;> omega
    · have := mxN_ge (f := f) (show i < k by omega)
      split <;> omega
theorem mxN_mono {f g : Nat → Nat} (h : ∀ i, f i ≤ g i) : ∀ k, mxN f k ≤ mxN g k
  | 0 => Nat.le_refl _
  | k + 1 => by
    have := mxN_mono h k
    have := h k
    simp only [mxN]
    split <;> split <;> omega
theorem mxN_up {f g : Nat → Nat} {i : Nat} (h : ∀ q, ¬ q = i → g q = f q) (hi : f i ≤ g i) : ∀ k, mxN g k = if i < k ∧ mxN f k < g i then g i else mxN f k
  | 0 => rfl
  | k + 1 => by
    have ih := mxN_up h hi k
    have a1 : mxN g (k + 1) = if g k ≤ mxN g k then mxN g k else g k := rfl
    have a2 : mxN f (k + 1) = if f k ≤ mxN f k then mxN f k else f k := rfl
    by_cases e : k = i
    · subst e
      split at a1 <;> split at a2 <;> split at ih <;> split <;> omega
    · have e2 := h k e
      split at a1 <;> split at a2 <;> split at ih <;> split <;> omega
theorem mx_is {f : Rw} {g : Nat → Nat} {c : Nat} (hb : ∀ i, g i < 2 ^ 31) (h : ∀ i, i < c → f i = nI (g i)) : ∀ k, k ≤ c → mxS f k = nI (mxN g k) ∧ mxN g k < 2 ^ 31
  | 0, _ => ⟨rfl, by show 0 < _; omega⟩
  | k + 1, hk => by
    obtain ⟨e, hl⟩ := mx_is hb h k (by omega)
    simp only [mxS, mxN]
    rw [e, h k (by omega)]
    have hk := hb k
    by_cases q : g k ≤ mxN g k
    · rw [if_pos q, if_pos ((nI_leI hk hl).mpr q)]; exact ⟨rfl, hl⟩
    · rw [if_neg q, if_neg (fun z => q ((nI_leI hk hl).mp z))]; exact ⟨rfl, hk⟩
/-- the reference's search in numbers -/
theorem rl_rg {ok : Nat → Bool} {cst : Nat → Int32} {gv : Nat → Rw} {n : Nat} {ok' : Nat → Bool} {cs : Nat → Nat} {gv' : Nat → Rw} {W : Nat} (h1 : ∀ k, k < W → ok k = ok' k) (h2 : ∀ k, k < W → cst k = nI (cs k)) (hb : ∀ k, cs k < 1000) (h3 : ∀ k, k < W → ∀ q, q < n → gv k q = gv' k q) {r0 : Rw} : ∀ k, k ≤ W → ∃ b a, rgN (stN ok' cs gv') 0 k (100000, r0) = (b, a) ∧ b ≤ 100000 ∧ (rlS ok cst gv n k (100000, r0)).1 = nI b ∧ ∀ q, q < n → (rlS ok cst gv n k (100000, r0)).2 q = a q
  | 0, _ => ⟨100000, r0, rfl, Nat.le_refl _, rfl, fun _ _ => rfl⟩
  | k + 1, hk => by
    obtain ⟨b, a, e1, hb1, e2, e3⟩ := rl_rg h1 h2 hb h3 (r0 := r0) k (by omega)
    have hbk := hb k
    by_cases q : cs k < b ∧ ok' k = true
    · refine ⟨cs k, gv' k, ?_, by omega, ?_, fun i hi => ?_⟩
      · show stN ok' cs gv' (0 + k) (rgN _ 0 k _) = _
        rw [e1, Nat.zero_add, stN, if_pos q]
      · rw [rl_t (by rw [e2, h2 k (by omega)]; exact fun z => absurd ((nI_leI (by omega) (by omega)).mp z) (by omega)) (by rw [h1 k (by omega)]; exact q.2)]
        exact h2 k (by omega)
      · rw [rl_t (by rw [e2, h2 k (by omega)]; exact fun z => absurd ((nI_leI (by omega) (by omega)).mp z) (by omega)) (by rw [h1 k (by omega)]; exact q.2)]
        simp only [if_pos hi]
        exact h3 k (by omega) i hi
    · have e4 : rlS ok cst gv n (k + 1) (100000, r0) = rlS ok cst gv n k (100000, r0) := by
        by_cases q2 : ok k = true
        · refine rl_f1 ?_
          rw [e2, h2 k (by omega)]
          exact (nI_leI (by omega) (by omega)).mpr (Nat.not_lt.mp (fun z => q ⟨z, by rw [← h1 k (by omega)]; exact q2⟩))
        · exact rl_f2 q2
      refine ⟨b, a, ?_, hb1, ?_, fun i hi => ?_⟩
      · show stN ok' cs gv' (0 + k) (rgN _ 0 k _) = _
        rw [e1, Nat.zero_add, stN, if_neg q]
      · rw [e4, e2]
      · rw [e4, e3 i hi]
/-- from two beginnings -/
theorem rg_two {ok : Nat → Bool} {cs : Nat → Nat} {gv : Nat → Rw} (hb : ∀ k, cs k < 1000) {r r' : Rw} : ∀ k, ((rgN (stN ok cs gv) 0 k (100000, r)) = (100000, r) ∧ rgN (stN ok cs gv) 0 k (1000, r') = (1000, r')) ∨ (rgN (stN ok cs gv) 0 k (100000, r) = rgN (stN ok cs gv) 0 k (1000, r') ∧ (rgN (stN ok cs gv) 0 k (1000, r')).1 < 1000)
  | 0 => Or.inl ⟨rfl, rfl⟩
  | k + 1 => by
    have hk := hb k
    have u1 : ∀ s, rgN (stN ok cs gv) 0 (k + 1) s = stN ok cs gv k (rgN (stN ok cs gv) 0 k s) := fun s => by
      show stN ok cs gv (0 + k) _ = _
      rw [Nat.zero_add]
    rw [u1, u1]
    rcases rg_two (ok := ok) (gv := gv) hb (r := r) (r' := r') k with ⟨e1, e2⟩ | ⟨e1, e2⟩
    · rw [e1, e2]
      by_cases q : ok k = true
      · refine Or.inr ?_
        rw [stN, if_pos ⟨show cs k < 100000 by omega, q⟩, stN, if_pos ⟨hk, q⟩]
        exact ⟨rfl, hk⟩
      · refine Or.inl ?_
        rw [stN, if_neg (fun z => q z.2), stN, if_neg (fun z => q z.2)]
        exact ⟨rfl, rfl⟩
    · refine Or.inr ?_
      rw [e1]
      refine ⟨rfl, ?_⟩
      rw [stN]
      split
      · exact hk
      · exact e2
def feL (fl : Nat → Bool) (wn sn : Nat → Nat) (c : Nat) : Nat → Nat → Bool := fun d P => allS (fun i => decide (ldA fl wn c d P i ≤ sn i)) c
def csF (fl : Nat → Bool) (wn : Nat → Nat) (c : Nat) : Nat → Nat → Nat := fun d P => mxN (ldA fl wn c d P) c
/-! below what no greatest load can be, in numbers -/
def hvN (fl : Nat → Bool) (wn : Nat → Nat) : Nat → Nat
  | 0 => 0
  | k + 1 => if fl k = true then (if hvN fl wn k < wn k then wn k else hvN fl wn k) else hvN fl wn k
def alN (fl : Nat → Bool) (wn : Nat → Nat) : Nat → Nat
  | 0 => 0
  | k + 1 => if fl k = true then alN fl wn k + wn k else alN fl wn k
def lgN (fl : Nat → Bool) (wn : Nat → Nat) (c n : Nat) : Nat := if hvN fl wn n < (alN fl wn n + (c - 1)) / c then (alN fl wn n + (c - 1)) / c else hvN fl wn n
def smN (f : Nat → Nat) : Nat → Nat
  | 0 => 0
  | k + 1 => smN f k + f k
theorem smN_add {f g : Nat → Nat} {i w : Nat} (h : ∀ q, g q = f q + (if i = q then w else 0)) : ∀ k, smN g k = smN f k + (if i < k then w else 0)
  | 0 => rfl
  | k + 1 => by
    have ih := smN_add h k
    have e := h k
    simp only [smN]
    rw [ih, e]
    by_cases q : i = k
    · rw [if_pos q, if_neg (show ¬ i < k by omega), if_pos (show i < k + 1 by omega)]
      omega
    · rw [if_neg q]
      by_cases q2 : i < k
      · rw [if_pos q2, if_pos (show i < k + 1 by omega)]
        omega
      · rw [if_neg q2, if_neg (show ¬ i < k + 1 by omega)]
        omega
theorem smN_zero : ∀ k, smN (fun _ => 0) k = 0
  | 0 => rfl
  | k + 1 => by
    simp only [smN]
    rw [smN_zero k]
theorem smN_le {f : Nat → Nat} {b : Nat} : ∀ k, (∀ i, i < k → f i ≤ b) → smN f k ≤ k * b
  | 0, _ => by
    simp only [smN]
    exact Nat.zero_le _
  | k + 1, h => by
    have h1 := smN_le k (fun i hi => h i (by omega))
    have h2 := h k (by omega)
    simp only [smN]
    rw [Nat.succ_mul]
    omega
theorem al_sm {fl : Nat → Bool} {wn : Nat → Nat} {c : Nat} (hc : 0 < c) : ∀ d P, alN fl wn d = smN (ldA fl wn c d P) c
  | 0, P => (smN_zero c).symm
  | d + 1, P => by
    by_cases q : fl d = true
    · have e := smN_add (f := ldA fl wn c d (P / c)) (g := ldA fl wn c (d + 1) P) (i := P % c) (w := wn d) (fun z => by simp only [ldA, if_pos q]) c
      rw [e, if_pos (Nat.mod_lt _ hc), ← al_sm hc d (P / c)]
      simp only [alN, if_pos q]
    · have e : ldA fl wn c (d + 1) P = ldA fl wn c d P := by
        funext z
        simp only [ldA, if_neg q]
      rw [e, ← al_sm hc d P]
      simp only [alN, if_neg q]
theorem hv_mx {fl : Nat → Bool} {wn : Nat → Nat} {c : Nat} (hc : 0 < c) : ∀ d P, hvN fl wn d ≤ mxN (ldA fl wn c d P) c
  | 0, P => Nat.zero_le _
  | d + 1, P => by
    by_cases q : fl d = true
    · have h1 := hv_mx (fl := fl) (wn := wn) hc d (P / c)
      have h2 := mxN_mono (f := ldA fl wn c d (P / c)) (g := ldA fl wn c (d + 1) P) (fun z => by simp only [ldA, if_pos q]; omega) c
      have h3 := mxN_ge (f := ldA fl wn c (d + 1) P) (Nat.mod_lt P hc)
      have h4 : wn d ≤ ldA fl wn c (d + 1) P (P % c) := by simp only [ldA, if_pos q, if_true]; omega
      simp only [hvN, if_pos q]
      split <;> omega
    · have e : ldA fl wn c (d + 1) P = ldA fl wn c d P := by
        funext z
        simp only [ldA, if_neg q]
      rw [e]
      simp only [hvN, if_neg q]
      exact hv_mx hc d P
theorem lgN_le {fl : Nat → Bool} {wn : Nat → Nat} {c n : Nat} (hc : 0 < c) (P : Nat) : lgN fl wn c n ≤ csF fl wn c n P := by
  show _ ≤ mxN (ldA fl wn c n P) c
  have h1 := hv_mx (fl := fl) (wn := wn) hc n P
  have h2 := smN_le (f := ldA fl wn c n P) (b := mxN (ldA fl wn c n P) c) c (fun i hi => mxN_ge hi)
  rw [← al_sm hc n P] at h2
  have h3 : (alN fl wn n + (c - 1)) / c ≤ mxN (ldA fl wn c n P) c := by
    refine Nat.le_of_lt_succ ((Nat.div_lt_iff_lt_mul hc).mpr ?_)
    rw [Nat.succ_mul, Nat.mul_comm]
    omega
  unfold lgN
  split
  · exact h3
  · exact h1
theorem hv_al_is {fl : Nat → Bool} {hd w : Rw} {wn : Nat → Nat} {n : Nat} (hn : n ≤ 7) (hf : ∀ d, d < n → (hd d = -1 ↔ fl d = false)) (hw : ∀ d, d < n → w d = nI (wn d)) (hb : ∀ d, d < n → wn d ≤ 99) : ∀ k, k ≤ n → hvS hd w k = nI (hvN fl wn k) ∧ hvN fl wn k ≤ 99 ∧ alS hd w k = nI (alN fl wn k) ∧ alN fl wn k ≤ 99 * k
  | 0, _ => ⟨rfl, Nat.zero_le _, rfl, Nat.zero_le _⟩
  | k + 1, hk => by
    obtain ⟨h1, h2, h3, h4⟩ := hv_al_is hn hf hw hb k (by omega)
    have hbk := hb k (by omega)
    simp only [hvS, hvN, alS, alN]
    by_cases q : fl k = true
    · have q2 : ¬ hd k = -1 := fun z => by rw [(hf k (by omega)).mp z] at q; exact absurd q (by decide)
      rw [if_neg q2, if_neg q2, if_pos q, if_pos q, h1, h3, hw k (by omega)]
      refine ⟨?_, by split <;> omega, nI_add _ _, by omega⟩
      by_cases q3 : hvN fl wn k < wn k
      · rw [if_pos q3, if_pos ((nI_ltI (by omega) (by omega)).mpr q3)]
      · rw [if_neg q3, if_neg (fun z => q3 ((nI_ltI (by omega) (by omega)).mp z))]
    · have q2 : hd k = -1 := (hf k (by omega)).mpr (by simpa using q)
      rw [if_pos q2, if_pos q2, if_neg q, if_neg q]
      exact ⟨h1, h2, h3, by omega⟩
theorem mx1_is {c : Nat} (h0 : 0 < c) (hc : c ≤ 5) : mx1 (nI c) = nI c := by
  unfold mx1
  by_cases q : 1 < c
  · rw [if_pos (show (1 : Int32) < nI c from (nI_ltI (a := 1) (by decide) (by omega)).mpr q)]
  · have e : c = 1 := by omega
    subst e
    rfl
theorem lg_is {fl : Nat → Bool} {hd w : Rw} {wn : Nat → Nat} {n c : Nat} (hn : n ≤ 7) (hc : c ≤ 5) (hc0 : 0 < c) (hf : ∀ d, d < n → (hd d = -1 ↔ fl d = false)) (hw : ∀ d, d < n → w d = nI (wn d)) (hb : ∀ d, d < n → wn d ≤ 99) : lgS hd w n c = nI (lgN fl wn c n) := by
  obtain ⟨h1, h2, h3, h4⟩ := hv_al_is hn hf hw hb n (Nat.le_refl _)
  have e1 : (alS hd w n + mx1 (nI c) - 1) / mx1 (nI c) = nI ((alN fl wn n + (c - 1)) / c) := by
    rw [mx1_is hc0 hc, h3, nI_add, show alN fl wn n + c = alN fl wn n + (c - 1) + 1 by omega, ← nI_add (alN fl wn n + (c - 1)) 1, show (nI 1 : Int32) = 1 from rfl, i32_pm, pk_div (by omega) (by omega) (by omega)]
  have h5 : (alN fl wn n + (c - 1)) / c ≤ alN fl wn n + (c - 1) := Nat.div_le_self _ _
  unfold lgS lgN
  rw [e1, h1]
  by_cases q : hvN fl wn n < (alN fl wn n + (c - 1)) / c
  · rw [if_pos q, if_pos ((nI_ltI (by omega) (by omega)).mpr q)]
  · rw [if_neg q, if_neg (fun z => q ((nI_ltI (by omega) (by omega)).mp z))]
section PKE
variable {n c : Nat} {r hd w w' sg sg' r0 r57 r59 ld an t : Rw}
abbrev flR (r : Rw) : Nat → Bool := fun z_ => decide (r z_ = 1)
abbrev R59f (r w r59 : Rw) (c n : Nat) : Nat → Rw := fun k_ => (fun q => if q < 5 then ldS (fun z_ => decide (r z_ = 1)) w c n k_ n q else r59 q)
abbrev R57f (r r57 : Rw) (c n : Nat) : Nat → Rw := fun k_ => (fun q => if q < n then gvS (fun z_ => decide (r z_ = 1)) c n k_ q else r57 q)
abbrev rlL (r w sg r0 r57 r59 : Rw) (c n : Nat) : Int32 × Rw := rlS (fun k_ => allS (fun z_ => decide ((fun q => if q < 5 then ldS (fun z_ => decide (r z_ = 1)) w c n k_ n q else r59 q) z_ ≤ sg z_)) c) (fun k_ => nI (mvS (fun z_ => decide (r z_ = 1)) (fun z_ => r (7 + z_)) c n k_ n)) (R57f r r57 c n) n (wyS (fun z_ => decide (r z_ = 1)) c n) (100000, r0)
abbrev rlFr (r w r0 r57 r59 : Rw) (c n : Nat) : Int32 × Rw := rlS (fun _ => true) (fun k_ => mxS (fun q => if q < 5 then ldS (fun z_ => decide (r z_ = 1)) w c n k_ n q else r59 q) c) (R57f r r57 c n) n (wyS (fun z_ => decide (r z_ = 1)) c n) (100000, r0)
theorem allS_of {p : Nat → Bool} {k : Nat} (h : ∀ i, i < k → p i = true) : allS p k = true := all_iff.mpr h
theorem pk_loads (hn : n ≤ 7) (hc : c ≤ 5) (hr : ∀ d, d < n → r d = 1 → ∃ p, p < c ∧ r (7 + d) = nI p) (hhd : ∀ d, d < n → hd d = if r d = 1 then r (7 + d) else -1) (hw : ∀ d, d < n → w d = w' d ∧ ∃ x, x ≤ 99 ∧ w' d = nI x) (hs : ∀ i, i < c → sg i = sg' i ∧ ∃ x, x ≤ 99 ∧ sg' i = nI x) (hld : ∀ i, i < c → ld i = 0) (han : ∀ q, q < n → an q = -1) (ht : ∀ q, q < n → t q = -1) :
    (if (rlL r w' sg' r0 r57 r59 c n).1 = 100000 then -1 else (rlL r w' sg' r0 r57 r59 c n).1) = (if (plS 0 false hd w sg c n 0 0 ld (1000, an, t)).1 < 1000 then (plS 0 false hd w sg c n 0 0 ld (1000, an, t)).1 else -1) ∧
    ∀ d, d < n → (if (rlL r w' sg' r0 r57 r59 c n).1 = 100000 then -1 else (rlL r w' sg' r0 r57 r59 c n).2 d) = (plS 0 false hd w sg c n 0 0 ld (1000, an, t)).2.1 d := by
  obtain ⟨wn, hwn1, hwn2⟩ : ∃ wn : Nat → Nat, (∀ d, d < n → w' d = nI (wn d)) ∧ ∀ d, d < n → wn d ≤ 99 := by
    refine ⟨fun d => (w' d).toNatClampNeg, fun d hd => ?_, fun d hd => ?_⟩
    · obtain ⟨_, x, hx, e⟩ := hw d hd
      show w' d = nI (w' d).toNatClampNeg
      rw [e, nI_clamp (by omega)]
    · obtain ⟨_, x, hx, e⟩ := hw d hd
      show (w' d).toNatClampNeg ≤ 99
      rw [e, nI_clamp (by omega)]
      exact hx
  obtain ⟨sn, hsn⟩ : ∃ sn : Nat → Nat, ∀ i, i < c → sg' i = nI (sn i) ∧ sn i ≤ 99 := by
    refine ⟨fun d => (sg' d).toNatClampNeg, fun i hi => ?_⟩
    obtain ⟨_, x, hx, e⟩ := hs i hi
    show sg' i = nI (sg' i).toNatClampNeg ∧ (sg' i).toNatClampNeg ≤ 99
    rw [e, nI_clamp (by omega)]
    exact ⟨rfl, hx⟩
  obtain ⟨ho, hho⟩ : ∃ ho : Nat → Nat, ∀ d, d < n → flR r d = true → ho d < c ∧ r (7 + d) = nI (ho d) := by
    refine ⟨fun d => (r (7 + d)).toNatClampNeg, fun d hd q => ?_⟩
    obtain ⟨p, hp, e⟩ := hr d hd (of_decide_eq_true q)
    show (r (7 + d)).toNatClampNeg < c ∧ r (7 + d) = nI (r (7 + d)).toNatClampNeg
    rw [e, nI_clamp (by omega)]
    exact ⟨hp, rfl⟩
  have hcb : ∀ d P, d ≤ n → mvA (flR r) ho c d P < 1000 := fun d P hd => by
    have := mvA_le (fl := flR r) (ho := ho) (c := c) d P
    omega
  have hldb : ∀ d P q, d ≤ n → ldA (flR r) wn c d P q ≤ 693 := fun d P q hd => by
    have := ldA_le (fl := flR r) (c := c) (q := q) hwn2 d P hd
    omega
  have main := pl_tr (fl := flR r) (c := c) (n := n) (cs := mvA (flR r) ho c) (fe := feL (flR r) wn sn c) (fair := false) (hd := hd) (w := w) (sg := sg) (wn := wn) (en := 0) hn (fun _ => Nat.zero_le _) (by decide)
    (fun d P k q hk => by show mvA _ _ _ d P ≤ mvA _ _ _ (d + 1) _; simp only [mvA, if_pos q, ext_div hk]; omega)
    (fun d P q => by show mvA _ _ _ (d + 1) P = mvA _ _ _ d P; simp only [mvA, q]; rfl)
    (fun d P k q hk hf => by
      have : ¬ feL (flR r) wn sn c (d + 1) (P * c + k) = true := fun z => by
        have z2 := all_iff.mp z
        have : feL (flR r) wn sn c d P = true := allS_of (fun i hi => by
          have := of_decide_eq_true (z2 i hi)
          simp only [ldA, if_pos q, ext_div hk] at this
          exact decide_eq_true (Nat.le_trans (Nat.le_add_right _ _) this))
        rw [this] at hf
        exact absurd hf (by decide)
      simpa using this)
    (fun d P q => by unfold feL; simp only [ldA, q]; rfl)
    hcb
    (fun d P k hd' q hk => by
      show (if false = true then _ else if nI k = hd d then nI (mvA _ _ _ d P) else nI (mvA _ _ _ d P) + 1) = nI (mvA _ _ _ (d + 1) _)
      rw [if_neg (by decide), hhd d hd', if_pos (of_decide_eq_true q), (hho d hd' q).2]
      simp only [mvA, if_pos q, ext_div hk, ext_mod hk]
      by_cases e : k = ho d
      · rw [if_pos (by rw [e]), if_pos e, Nat.add_zero]
      · rw [if_neg (fun z => e ((nI_eq (by omega) (by have := (hho d hd' q).1; omega)).mp z)), if_neg e, nI_1])
    (fun d P k hd' q hk hf => by
      have hf2 := all_iff.mp hf
      constructor
      · rintro (z | z)
        · exact absurd z (by decide)
        · refine allS_of (fun i hi => decide_eq_true ?_)
          simp only [ldA, if_pos q, ext_div hk, ext_mod hk]
          by_cases e : k = i
          · subst e
            rw [if_pos rfl]
            rw [(hs k hk).1, (hsn k hk).1] at z
            have h1 := hldb d P k (by omega)
            have h2 := hwn2 d hd'
            have h3 := (hsn k hk).2
            exact (nI_leI (by omega) (by omega)).mp z
          · rw [if_neg e, Nat.add_zero]
            exact of_decide_eq_true (hf2 i hi)
      · intro z
        have z2 := of_decide_eq_true (all_iff.mp z k hk)
        simp only [ldA, if_pos q, ext_div hk, ext_mod hk, if_true] at z2
        refine Or.inr ?_
        rw [(hs k hk).1, (hsn k hk).1]
        have h1 := hldb d P k (by omega)
        have h2 := hwn2 d hd'
        have h3 := (hsn k hk).2
        exact (nI_leI (by omega) (by omega)).mpr z2)
    (fun d hd' => by
      rw [hhd d hd']
      constructor
      · intro z
        by_cases e : r d = 1
        · rw [if_pos e] at z
          obtain ⟨p, hp, e2⟩ := hr d hd' e
          rw [e2] at z
          exact absurd (z ▸ (by decide : (-1 : Int32) < 0)) (nI_pos (by omega))
        · exact decide_eq_false e
      · intro z
        rw [if_neg (of_decide_eq_false z)])
    (fun d hd' => by rw [(hw d hd').1]; exact hwn1 d hd')
    n 0 0 1000 ld (fun _ => -1) an t (by omega) (allS_of (fun i _ => decide_eq_true (Nat.zero_le _))) (fun i hi => hld i hi) (Nat.le_refl _) (fun q hq => han q hq) ⟨fun q hq => absurd hq (by omega), fun q hq _ => ht q hq⟩
  obtain ⟨b, a, an', t', e1, e2, hb, hA, _⟩ := main
  have e2 : plS 0 false hd w sg c n 0 0 ld (1000, an, t) = (nI b, an', t') := e2
  have eW : wyS (flR r) c n = wsN (flR r) c n 0 := by
    have := ws_wy (fl := flR r) (c := c) n 0
    rw [Nat.zero_add] at this
    rw [← this]
    show 1 * _ = _
    rw [Nat.one_mul]
  rw [tr_rg, Nat.zero_mul, ← eW] at e1
  obtain ⟨b2, a2, e3, hb2, e4, e5⟩ := rl_rg (ok := fun k_ => allS (fun z_ => decide ((fun q => if q < 5 then ldS (fun z_ => decide (r z_ = 1)) w' c n k_ n q else r59 q) z_ ≤ sg' z_)) c) (cst := fun k_ => nI (mvS (fun z_ => decide (r z_ = 1)) (fun z_ => r (7 + z_)) c n k_ n)) (gv := R57f r r57 c n) (n := n) (ok' := feL (flR r) wn sn c n) (cs := mvA (flR r) ho c n) (gv' := gvA (flR r) c n) (W := wyS (flR r) c n) (r0 := r0)
    (fun k _ => by
      unfold feL
      refine (Bool.eq_iff_iff.mpr ?_)
      rw [all_iff, all_iff]
      have hi2 : ∀ i, i < c → ((if i < 5 then ldS (flR r) w' c n k n i else r59 i) ≤ sg' i ↔ ldA (flR r) wn c n k i ≤ sn i) := fun i hi => by
        rw [if_pos (show i < 5 by omega), ld_is hwn1, (hsn i hi).1]
        have h1 := hldb n k i (Nat.le_refl _)
        have h3 := (hsn i hi).2
        exact nI_leI (by omega) (by omega)
      exact ⟨fun z i hi => decide_eq_true ((hi2 i hi).mp (of_decide_eq_true (z i hi))), fun z i hi => decide_eq_true ((hi2 i hi).mpr (of_decide_eq_true (z i hi)))⟩)
    (fun k _ => by
      show nI (mvS (flR r) _ c n k n) = nI (mvA (flR r) ho c n k)
      rw [mv_is (pl := fun z_ => r (7 + z_)) hc hho])
    (fun k => hcb n k (Nat.le_refl _))
    (fun k _ q hq => by
      show (if q < n then gvS (flR r) c n k q else _) = _
      rw [if_pos hq, gv_is hq])
    (wyS (flR r) c n) (Nat.le_refl _)
  have two := rg_two (ok := feL (flR r) wn sn c n) (cs := mvA (flR r) ho c n) (gv := gvA (flR r) c n) (fun k => hcb n k (Nat.le_refl _)) (r := r0) (r' := fun _ => -1) (wyS (flR r) c n)
  rw [e3, e1] at two
  rw [e2]
  rcases two with ⟨z1, z2⟩ | ⟨z1, z2⟩
  · have y1 : b2 = 100000 := congrArg Prod.fst z1
    have y2 : b = 1000 := congrArg Prod.fst z2
    have y3 : a = fun _ => -1 := congrArg Prod.snd z2
    have e6 : (rlL r w' sg' r0 r57 r59 c n).1 = 100000 := by rw [e4, y1]; rfl
    refine ⟨?_, fun d hd' => ?_⟩
    · rw [if_pos e6, y2]
      show (-1 : Int32) = if nI 1000 < 1000 then nI 1000 else -1
      decide
    · rw [if_pos e6]
      show _ = an' d
      rw [hA d hd', y3]
  · have y1 : b2 = b := congrArg Prod.fst z1
    have y2 : a2 = a := congrArg Prod.snd z1
    have z2 : b < 1000 := z2
    have e6 : ¬ (rlL r w' sg' r0 r57 r59 c n).1 = 100000 := by rw [e4, y1]; exact fun z => absurd ((nI_eq (a := b) (b := 100000) (by omega) (by decide)).mp z) (by omega)
    refine ⟨?_, fun d hd' => ?_⟩
    · rw [if_neg e6, e4, y1, if_pos (show nI b < 1000 from (nI_ltI (b := 1000) (by omega) (by decide)).mpr z2)]
    · rw [if_neg e6, e5 d hd', y2, ← hA d hd']
theorem pk_fair (hn : n ≤ 7) (hc : c ≤ 5) (hc0 : 0 < c) (hr : ∀ d, d < n → r d = 1 → ∃ p, p < c ∧ r (7 + d) = nI p) (hhd : ∀ d, d < n → hd d = if r d = 1 then r (7 + d) else -1) (hw : ∀ d, d < n → w d = w' d ∧ ∃ x, x ≤ 99 ∧ w' d = nI x) (hld : ∀ i, i < c → ld i = 0) (han : ∀ q, q < n → an q = -1) (ht : ∀ q, q < n → t q = -1) :
    (rlFr r w' r0 r57 r59 c n).1 = (if (plS (lgS hd w n c) true hd w sg c n 0 0 ld (1000, an, t)).1 < 1000 then (plS (lgS hd w n c) true hd w sg c n 0 0 ld (1000, an, t)).1 else -1) ∧
    ∀ d, d < n → (rlFr r w' r0 r57 r59 c n).2 d = (plS (lgS hd w n c) true hd w sg c n 0 0 ld (1000, an, t)).2.1 d := by
  obtain ⟨wn, hwn1, hwn2⟩ : ∃ wn : Nat → Nat, (∀ d, d < n → w' d = nI (wn d)) ∧ ∀ d, d < n → wn d ≤ 99 := by
    refine ⟨fun d => (w' d).toNatClampNeg, fun d hd => ?_, fun d hd => ?_⟩
    · obtain ⟨_, x, hx, e⟩ := hw d hd
      show w' d = nI (w' d).toNatClampNeg
      rw [e, nI_clamp (by omega)]
    · obtain ⟨_, x, hx, e⟩ := hw d hd
      show (w' d).toNatClampNeg ≤ 99
      rw [e, nI_clamp (by omega)]
      exact hx
  have hldb : ∀ d P q, d ≤ n → ldA (flR r) wn c d P q ≤ 693 := fun d P q hd => by
    have := ldA_le (fl := flR r) (c := c) (q := q) hwn2 d P hd
    omega
  have hcb : ∀ d P, d ≤ n → csF (flR r) wn c d P < 1000 := fun d P hd => by
    have := mxN_le (f := ldA (flR r) wn c d P) (b := 693) (fun i => hldb d P i hd) c
    show mxN _ c < 1000
    omega
  have hhf : ∀ d, d < n → (hd d = -1 ↔ flR r d = false) := fun d hd' => by
    rw [hhd d hd']
    constructor
    · intro z
      by_cases e : r d = 1
      · rw [if_pos e] at z
        obtain ⟨p, hp, e2⟩ := hr d hd' e
        rw [e2] at z
        exact absurd (z ▸ (by decide : (-1 : Int32) < 0)) (nI_pos (by omega))
      · exact decide_eq_false e
    · intro z
      rw [if_neg (of_decide_eq_false z)]
  have hwn : ∀ d, d < n → w d = nI (wn d) := fun d hd' => by rw [(hw d hd').1]; exact hwn1 d hd'
  have eL : lgS hd w n c = nI (lgN (flR r) wn c n) := lg_is hn hc hc0 hhf hwn hwn2
  have hen2 : lgN (flR r) wn c n < 1000 := Nat.lt_of_le_of_lt (lgN_le hc0 0) (hcb n 0 (Nat.le_refl _))
  have main := pl_tr (fl := flR r) (c := c) (n := n) (cs := csF (flR r) wn c) (fe := fun _ _ => true) (fair := true) (hd := hd) (w := w) (sg := sg) (wn := wn) (en := lgN (flR r) wn c n) hn (fun P => lgN_le hc0 P) hen2
    (fun d P k q hk => mxN_mono (fun i => by simp only [ldA, if_pos q, ext_div hk]; omega) c)
    (fun d P q => by show mxN _ c = mxN _ c; congr 1; funext i; simp only [ldA, q]; rfl)
    (fun d P k q hk hf => absurd hf (by decide))
    (fun d P q => rfl)
    hcb
    (fun d P k hd' q hk => by
      rw [cstP_t]
      have h1 := hldb d P k (by omega)
      have h2 := hwn2 d hd'
      have h3 := hcb d P (by omega)
      have eu := mxN_up (f := ldA (flR r) wn c d P) (g := ldA (flR r) wn c (d + 1) (P * c + k)) (i := k) (fun i hi => by simp only [ldA, if_pos q, ext_div hk, ext_mod hk]; rw [if_neg (fun z => hi z.symm), Nat.add_zero]) (by simp only [ldA, if_pos q, ext_div hk]; omega) c
      have eg : ldA (flR r) wn c (d + 1) (P * c + k) k = ldA (flR r) wn c d P k + wn d := by simp only [ldA, if_pos q, ext_div hk, ext_mod hk, if_true]
      rw [eg] at eu
      show _ = nI (mxN _ c)
      rw [eu]
      have h3 : mxN (ldA (flR r) wn c d P) c < 1000 := h3
      show (if nI (mxN (ldA (flR r) wn c d P) c) < _ then _ else nI (mxN (ldA (flR r) wn c d P) c)) = _
      by_cases e : mxN (ldA (flR r) wn c d P) c < ldA (flR r) wn c d P k + wn d
      · rw [if_pos ((nI_ltI (by omega) (by omega)).mpr e), if_pos ⟨hk, e⟩]
      · rw [if_neg (fun z => e ((nI_ltI (by omega) (by omega)).mp z)), if_neg (fun z => e z.2)])
    (fun d P k hd' q hk hf => ⟨fun _ => rfl, fun _ => Or.inl rfl⟩)
    hhf hwn
    n 0 0 1000 ld (fun _ => -1) an t (by omega) rfl (fun i hi => hld i hi) (Nat.le_refl _) (fun q hq => han q hq) ⟨fun q hq => absurd hq (by omega), fun q hq _ => ht q hq⟩
  obtain ⟨b, a, an', t', e1, e2, hb, hA, _⟩ := main
  have e0 : nI (csF (flR r) wn c 0 0) = 0 := by
    show nI (mxN (fun _ => 0) c) = 0
    have := mxN_le (f := fun _ => 0) (b := 0) (fun _ => Nat.le_refl _) c
    rw [show mxN (fun _ => 0) c = 0 by omega]
    rfl
  rw [e0, ← eL] at e2
  have e2 : plS (lgS hd w n c) true hd w sg c n 0 0 ld (1000, an, t) = (nI b, an', t') := e2
  have eW : wyS (flR r) c n = wsN (flR r) c n 0 := by
    have := ws_wy (fl := flR r) (c := c) n 0
    rw [Nat.zero_add] at this
    rw [← this]
    show 1 * _ = _
    rw [Nat.one_mul]
  rw [tr_rg, Nat.zero_mul, ← eW] at e1
  obtain ⟨b2, a2, e3, hb2, e4, e5⟩ := rl_rg (ok := fun _ => true) (cst := fun k_ => mxS (fun q => if q < 5 then ldS (fun z_ => decide (r z_ = 1)) w' c n k_ n q else r59 q) c) (gv := R57f r r57 c n) (n := n) (ok' := fun _ => true) (cs := csF (flR r) wn c n) (gv' := gvA (flR r) c n) (W := wyS (flR r) c n) (r0 := r0)
    (fun k _ => rfl)
    (fun k _ => (mx_is (g := ldA (flR r) wn c n k) (fun i => by have := hldb n k i (Nat.le_refl _); omega) (fun i hi => by show (if i < 5 then _ else _) = _; rw [if_pos (show i < 5 by omega), ld_is hwn1]) c (Nat.le_refl _)).1)
    (fun k => hcb n k (Nat.le_refl _))
    (fun k _ q hq => by
      show (if q < n then gvS (flR r) c n k q else _) = _
      rw [if_pos hq, gv_is hq])
    (wyS (flR r) c n) (Nat.le_refl _)
  have two := rg_two (ok := fun _ => true) (cs := csF (flR r) wn c n) (gv := gvA (flR r) c n) (fun k => hcb n k (Nat.le_refl _)) (r := r0) (r' := fun _ => -1) (wyS (flR r) c n)
  have hW : 0 < wyS (flR r) c n := by
    have : ∀ k, 0 < wyS (flR r) c k := by
      intro k
      induction k with
      | zero => exact Nat.one_pos
      | succ k ih =>
        simp only [wyS]
        split
        · exact Nat.mul_pos ih hc0
        · exact ih
    exact this n
  have hlt : b2 < 1000 := by
    obtain ⟨k, hk⟩ : ∃ k, wyS (flR r) c n = k + 1 := ⟨wyS (flR r) c n - 1, by omega⟩
    rw [hk] at e3
    have hk2 := hcb n (0 + k) (Nat.le_refl _)
    have e6 : stN (fun _ => true) (csF (flR r) wn c n) (gvA (flR r) c n) (0 + k) (rgN (stN (fun _ => true) (csF (flR r) wn c n) (gvA (flR r) c n)) 0 k (100000, r0)) = (b2, a2) := e3
    rw [stN] at e6
    split at e6
    · have := congrArg Prod.fst e6
      simp only at this
      omega
    · rename_i q
      have y := congrArg Prod.fst e6
      simp only at y
      have y2 : ¬ csF (flR r) wn c n (0 + k) < (rgN (stN (fun _ => true) (csF (flR r) wn c n) (gvA (flR r) c n)) 0 k (100000, r0)).1 := fun z => q ⟨z, rfl⟩
      omega
  rw [e3, e1] at two
  rw [e2]
  rcases two with ⟨z1, z2⟩ | ⟨z1, z2⟩
  · have y1 : b2 = 100000 := congrArg Prod.fst z1
    omega
  · have y1 : b2 = b := congrArg Prod.fst z1
    have y2 : a2 = a := congrArg Prod.snd z1
    have z2 : b < 1000 := z2
    refine ⟨?_, fun d hd' => ?_⟩
    · rw [e4, y1, if_pos (show nI b < 1000 from (nI_ltI (b := 1000) (by omega) (by decide)).mpr z2)]
    · rw [e5 d hd', y2, ← hA d hd']
end PKE

/-! WHAT THE METHODS ANSWER, 4: the program's own forms -/
theorem z_add {y : Int32} {b : Nat} (h : y = nI b) : 0 + y = nI b := by rw [Int32.zero_add]; exact h
theorem max1_ne {x : Int32} : ¬ (if 1 < x then x else 1) = 0 := by
  split
  · rename_i h
    rintro rfl
    exact absurd h (by decide)
  · decide
theorem max1 {x : Int32} (h : ¬ x < 1) : (if 1 < x then x else 1) = x := by
  split
  · rfl
  · grind
/-- the greatest minutes so far -/
def lnS (f : Nat → Int32) (k : Nat) : Int32 := if lastS f k < 0 then -1 else f (lastS f k).toNatClampNeg
theorem last_le {f : Nat → Int32} {k : Nat} (hm : ¬ f k ≤ -1) (h : f k ≤ lnS f k) : lastS f (k + 1) = lastS f k := by
  unfold lnS at h
  simp only [lastS]
  split at h
  · exact absurd h hm
  · rename_i q
    rw [if_neg]
    rintro (z | z)
    · exact q z
    · exact z h
theorem last_gt {f : Nat → Int32} {k : Nat} (h : ¬ f k ≤ lnS f k) : lastS f (k + 1) = nI k := by
  unfold lnS at h
  simp only [lastS]
  split at h
  · rename_i q
    rw [if_pos (Or.inl q)]
  · rw [if_pos (Or.inr h)]
theorem ln_le {f : Nat → Int32} {k : Nat} (hm : ¬ f k ≤ -1) (h : f k ≤ lnS f k) : lnS f (k + 1) = lnS f k := by
  rw [lnS, last_le hm h]
  rfl
theorem ln_gt {f : Nat → Int32} {k : Nat} (hk : k < 2 ^ 31) (h : ¬ f k ≤ lnS f k) : lnS f (k + 1) = f k := by
  rw [lnS, last_gt h, if_neg (nI_pos hk), nI_clamp hk]
theorem any_no {p : Nat → Bool} {k : Nat} (h : anyS p k = false) (h2 : p k = false) : anyS p (k + 1) = false := by simp [anyS, h, h2]
theorem any_of {p : Nat → Bool} {k : Nat} (h : p k = true) : ∀ {n : Nat}, k < n → anyS p n = true
  | n + 1, hk => by
    simp only [anyS]
    by_cases e : k = n
    · subst e; simp [h]
    · simp [any_of h (show k < n by omega)]
def nxP (p : Nat) : Nat := if p + 1 < 20 then p + 1 else 0
def pvP (p : Nat) : Nat := if 0 < p then p - 1 else 19
theorem min20 {u : Nat} (h : u ≤ 20) : (if nI u + 1 < 20 then nI u + 1 else 20) = nI (if u = 20 then 20 else u + 1) := by
  rw [nI_1]
  by_cases e : u = 20
  · subst e; decide
  · rw [if_neg e]
    by_cases e2 : u = 19
    · subst e2; decide
    · rw [if_pos]
      exact nI_lt (b := 20) (by omega) (by decide)
theorem i32_a (x y z : Int32) : x - y + z = x + (z - y) := by
  rw [Int32.sub_eq_add_neg, Int32.sub_eq_add_neg, Int32.add_assoc, Int32.add_comm (-y) z]
theorem i32_b (x y z : Int32) : x - y + z = x - (y - z) := by
  rw [i32_a, Int32.sub_eq_add_neg x (y - z), Int32.neg_sub]

/-! WHAT THE METHODS ANSWER, 2 -/
theorem topS_lt {fr : Nat → Int32} {c : Nat} (hch : inCh fr c) (hc : c < 2 ^ 31) : ∀ {f a : Nat}, a < c → topS fr f a < c
  | 0, a, h => h
  | f + 1, a, h => by
    simp only [topS]
    split
    · exact h
    · rename_i q
      rcases hch a h with e | ⟨j, hj, e⟩
      · exact absurd e q
      · rw [e, nI_clamp (by omega)]
        exact topS_lt hch hc hj
/-- the pairs that are lighter: of what is asked the i-th, or how many -/
def nthS (p : Nat → Bool) (val : Nat → Int32) (i : Int32) : Nat → Nat → Nat → Int32
  | 0, _, c => if i = -1 then nI c else -1
  | m + 1, k, c => if p k = true then (if nI c = i then val k else nthS p val i m (k + 1) (c + 1)) else nthS p val i m (k + 1) c
def ltB (st pl w sg : Nat → Int32) (n d e : Nat) : Bool := decide ((st d = 1 ∧ st e = 1 ∧ ¬ pl d = pl e) ∧ (sg (pl d).toNatClampNeg < loadS st pl w (pl d) n ∨ sg (pl e).toNatClampNeg < loadS st pl w (pl e) n) ∧ ¬ sg (pl d).toNatClampNeg < loadS st pl w (pl d) n - w d + w e ∧ ¬ sg (pl e).toNatClampNeg < loadS st pl w (pl e) n - w e + w d)
def lpB (st pl w sg : Nat → Int32) (n k : Nat) : Bool := decide (k / 7 < k % 7) && (decide (k % 7 < n) && ltB st pl w sg n (k / 7) (k % 7))
/-- a set's weight -/
def wtS (w : Nat → Int32) (set : Int32) : Nat → Int32
  | 0 => 0
  | k + 1 => if (set >>> (nI k &&& 31)) &&& 1 = 1 then wtS w set k + w k else wtS w set k
/-- the sets below k that weigh x: how many, the first, those in all, how many hold d -/
def mnS (p : Nat → Bool) : Nat → Nat
  | 0 => 0
  | k + 1 => if p k = true then mnS p k + 1 else mnS p k
def fsS (p : Nat → Bool) : Nat → Int32
  | 0 => -1
  | k + 1 => if p k = true ∧ mnS p k = 0 then nI k else fsS p k
def suS (p : Nat → Bool) (a : Int32) : Nat → Int32
  | 0 => a
  | k + 1 => if p k = true then suS p a k &&& nI k else suS p a k
def wiS (p : Nat → Bool) (d : Nat) : Nat → Int32
  | 0 => 0
  | k + 1 => if p k = true then wiS p d k + ((nI k >>> (nI d &&& 31)) &&& 1) else wiS p d k
/-- what to look for: the deed, and the greatest part that is alike -/
def lkS (wi : Nat → Int32) (m : Int32) : Nat → Int32 × Int32
  | 0 => (-1, m)
  | k + 1 =>
    let x := if wi k ≤ m - wi k then m - wi k else wi k
    if (lkS wi m k).2 ≤ x then lkS wi m k else (nI k, x)
theorem nth_no {p : Nat → Bool} {val : Nat → Int32} {i : Int32} {m k c : Nat} (hk : k < m) (h : p k = false) : nthS p val i (m - k) k c = nthS p val i (m - (k + 1)) (k + 1) c := by
  rw [show m - k = (m - (k + 1)) + 1 by omega]
  simp [nthS, h]
theorem nth_go {p : Nat → Bool} {val : Nat → Int32} {i : Int32} {m k c : Nat} (hk : k < m) (h : p k = true) (hc : ¬ nI c = i) : nthS p val i (m - k) k c = nthS p val i (m - (k + 1)) (k + 1) (c + 1) := by
  rw [show m - k = (m - (k + 1)) + 1 by omega]
  simp [nthS, h, hc]
theorem nth_hit {p : Nat → Bool} {val : Nat → Int32} {i : Int32} {m k c : Nat} (hk : k < m) (h : p k = true) (hc : nI c = i) : nthS p val i (m - k) k c = val k := by
  rw [show m - k = (m - (k + 1)) + 1 by omega]
  simp [nthS, h, hc]
theorem nth_end {p : Nat → Bool} {val : Nat → Int32} {i : Int32} {m c : Nat} : nthS p val i (m - m) m c = if i = -1 then nI c else -1 := by
  rw [Nat.sub_self]
  rfl
theorem mn_no {p : Nat → Bool} {k : Nat} (h : p k = false) : mnS p (k + 1) = mnS p k := by simp [mnS, h]
theorem mn_go {p : Nat → Bool} {k : Nat} (h : p k = true) : mnS p (k + 1) = mnS p k + 1 := by simp [mnS, h]
theorem mn_le (p : Nat → Bool) : ∀ k, mnS p k ≤ k
  | 0 => Nat.le_refl 0
  | k + 1 => by
    have := mn_le p k
    simp only [mnS]
    split <;> omega
theorem shl_nI {n : Nat} (h : n ≤ 7) : (1 : Int32) <<< (nI n &&& 31) = nI (2 ^ n) := by
  match n, h with
  | 0, _ => decide
  | 1, _ => decide
  | 2, _ => decide
  | 3, _ => decide
  | 4, _ => decide
  | 5, _ => decide
  | 6, _ => decide
  | 7, _ => decide
theorem two_le {n : Nat} (h : n ≤ 7) : 2 ^ n ≤ 128 := by
  match n, h with
  | 0, _ => decide
  | 1, _ => decide
  | 2, _ => decide
  | 3, _ => decide
  | 4, _ => decide
  | 5, _ => decide
  | 6, _ => decide
  | 7, _ => decide
theorem div7 {k : Nat} (h : k < 2 ^ 31) : nI k / 7 = nI (k / 7) := pk_div (d := 7) h (by decide) (by decide)
theorem rem7 {k : Nat} (h : k < 2 ^ 31) : nI k - nI k / 7 * 7 = nI (k % 7) := pk_rem (d := 7) h (by decide) (by decide)

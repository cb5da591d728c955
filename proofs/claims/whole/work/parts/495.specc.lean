/-! WHAT THE METHODS ANSWER, 3: ways to give -/
/-- what is left of a code when k deeds are given, from the last one on -/
def lfS (fl : Nat → Bool) (c n code : Nat) : Nat → Nat
  | 0 => code
  | k + 1 => if fl (n - 1 - k) = true then lfS fl c n code k / c else lfS fl c n code k
def gvS (fl : Nat → Bool) (c n code q : Nat) : Int32 := if fl q = true then nI (lfS fl c n code (n - 1 - q) % c) else -1
def ldS (fl : Nat → Bool) (w : Nat → Int32) (c n code : Nat) : Nat → Nat → Int32
  | 0, _ => 0
  | k + 1, q => if fl (n - 1 - k) = true ∧ lfS fl c n code k % c = q then ldS fl w c n code k q + w (n - 1 - k) else ldS fl w c n code k q
def mvS (fl : Nat → Bool) (pl : Nat → Int32) (c n code : Nat) : Nat → Nat
  | 0 => 0
  | k + 1 => if fl (n - 1 - k) = true ∧ ¬ nI (lfS fl c n code k % c) = pl (n - 1 - k) then mvS fl pl c n code k + 1 else mvS fl pl c n code k
/-- how many ways, of the first k deeds -/
def wyS (fl : Nat → Bool) (c : Nat) : Nat → Nat
  | 0 => 1
  | k + 1 => if fl k = true then wyS fl c k * c else wyS fl c k
def mxS (f : Nat → Int32) : Nat → Int32
  | 0 => 0
  | k + 1 => if f k ≤ mxS f k then mxS f k else f k
theorem lf_le {fl : Nat → Bool} {c n code : Nat} : ∀ k, lfS fl c n code k ≤ code
  | 0 => Nat.le_refl _
  | k + 1 => by
    have := lf_le (fl := fl) (c := c) (n := n) (code := code) k
    simp only [lfS]
    split
    · exact Nat.le_trans (Nat.div_le_self _ _) this
    · exact this
theorem mv_le {fl : Nat → Bool} {pl : Nat → Int32} {c n code : Nat} : ∀ k, mvS fl pl c n code k ≤ k
  | 0 => Nat.le_refl _
  | k + 1 => by
    have := mv_le (fl := fl) (pl := pl) (c := c) (n := n) (code := code) k
    simp only [mvS]
    split <;> omega
theorem wy_le {fl : Nat → Bool} {c : Nat} (hc : c ≤ 5) : ∀ k, wyS fl c k ≤ 5 ^ k
  | 0 => Nat.le_refl _
  | k + 1 => by
    have h := wy_le (fl := fl) hc k
    have h5 : 0 < 5 ^ k := Nat.pow_pos (by decide)
    simp only [wyS]
    split
    · rw [Nat.pow_succ]; exact Nat.mul_le_mul h hc
    · rw [Nat.pow_succ]; omega
theorem p5_le {n : Nat} (h : n ≤ 7) : 5 ^ n ≤ 78125 := by
  match n, h with
  | 0, _ => decide
  | 1, _ => decide
  | 2, _ => decide
  | 3, _ => decide
  | 4, _ => decide
  | 5, _ => decide
  | 6, _ => decide
  | 7, _ => decide
theorem dvn {a c : Nat} (ha : a < 2 ^ 31) (h0 : 0 < c) (hc : c < 2 ^ 31) {x y : Int32} (hx : x = nI a) (hy : y = nI c) : x / y = nI (a / c) := by rw [hx, hy]; exact pk_div ha h0 hc
theorem rmn {a c : Nat} (ha : a < 2 ^ 31) (h0 : 0 < c) (hc : c < 2 ^ 31) {x y : Int32} (hx : x = nI a) (hy : y = nI c) : x - x / y * y = nI (a % c) := by rw [hx, hy]; exact pk_rem ha h0 hc
theorem nIm1 {n k : Nat} (h : k < n) : nI (n - k) - 1 = nI (n - 1 - k) := by
  rw [show n - k = (n - 1 - k) + 1 by omega]
  exact nI_pred _
theorem nI_m1_neg {n k : Nat} (h : k < n) (hn : n < 2 ^ 31) : ¬ nI (n - k) - 1 < 0 := by
  rw [nIm1 h]
  exact nI_pos (by omega)
theorem dec1 {n k : Nat} (h : k < n) : nI (n - k) - 1 + (-1) = nI (n - (k + 1)) - 1 := by
  rw [nIm1 h, show n - 1 - k = n - (k + 1) by omega, Int32.sub_eq_add_neg]

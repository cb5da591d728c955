/-! WHAT THE METHODS ANSWER, 5 -/
def nextC (c : Nat) (p : Int32) : Int32 := if inS (p + 1) c then p + 1 else 0
theorem topS_back {fr : Nat → Int32} : ∀ {k a : Nat}, topS fr (k + 1) a = if fr (topS fr k a) = -1 then topS fr k a else (fr (topS fr k a)).toNatClampNeg
  | 0, a => rfl
  | k + 1, a => by
    by_cases h : fr a = -1
    · rw [topS_root h, topS_root h, if_pos h]
    · have e : ∀ f, topS fr (f + 1) a = topS fr f (fr a).toNatClampNeg := fun f => by simp [topS, h]
      rw [e, e k]
      exact topS_back
theorem bit01 (x : Int32) : x &&& 1 = 0 ∨ x &&& 1 = 1 := by
  obtain ⟨j, hj, e⟩ := pk_andE x (m := 1) 1 (by decide)
  rw [e]
  match j, hj with
  | 0, _ => exact Or.inl rfl
  | 1, _ => exact Or.inr rfl
theorem wt_mul {a b w : Int32} (h : b = 0 ∨ b = 1) : a + b * w = if b = 1 then a + w else a := by
  rcases h with rfl | rfl
  · rw [Int32.zero_mul, Int32.add_zero, if_neg (by decide)]
  · rw [Int32.one_mul, if_pos rfl]
/-- those in all, as the program gathers them -/
def scS (p : Nat → Bool) : Nat → Int32
  | 0 => 0
  | k + 1 => if p k = true then (if mnS p k = 0 then nI k else scS p k &&& nI k) else scS p k
theorem nth_skip {p : Nat → Bool} {val : Nat → Int32} {i : Int32} {m c : Nat} : ∀ (r k : Nat), k + r ≤ m → (∀ q, k ≤ q → q < k + r → p q = false) → nthS p val i (m - k) k c = nthS p val i (m - (k + r)) (k + r) c
  | 0, k, _, _ => rfl
  | r + 1, k, h, hp => by
    rw [nth_no (by omega) (hp k (Nat.le_refl _) (by omega)), nth_skip r (k + 1) (by omega) (fun q h1 h2 => hp q (by omega) (by omega)), show k + 1 + r = k + (r + 1) by omega]

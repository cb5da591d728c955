/-! THE SEARCH FOR LOADS, as the reference goes -/
def rlS (ok : Nat → Bool) (cst : Nat → Int32) (gv : Nat → Rw) (n : Nat) : Nat → Int32 × Rw → Int32 × Rw
  | 0, s => s
  | k + 1, s => if ¬ (rlS ok cst gv n k s).1 ≤ cst k ∧ ok k = true then (cst k, fun i => if i < n then gv k i else (rlS ok cst gv n k s).2 i) else rlS ok cst gv n k s
def gpS (r : Nat → Rw) (r0 : Rw) : Nat → Rw
  | 0 => r0
  | k + 1 => r k
theorem gp_row {r : Nat → Rw} {r0 : Rw} {m : Nat} {v : Nat → Rw} (hr : ∀ k, r k = fun q => if q < m then v k q else r0 q) (k : Nat) : (fun q => if q < m then v k q else gpS r r0 k q) = r k := by
  funext q
  rw [hr]
  by_cases e : q < m
  · simp only [if_pos e]
  · simp only [if_neg e]
    cases k with
    | zero => rfl
    | succ k => simp only [gpS, hr, if_neg e]
theorem rl_t {ok : Nat → Bool} {cst : Nat → Int32} {gv : Nat → Rw} {n k : Nat} {s : Int32 × Rw} (h : ¬ (rlS ok cst gv n k s).1 ≤ cst k) (h2 : ok k = true) : rlS ok cst gv n (k + 1) s = (cst k, fun i => if i < n then gv k i else (rlS ok cst gv n k s).2 i) := if_pos ⟨h, h2⟩
theorem rl_f1 {ok : Nat → Bool} {cst : Nat → Int32} {gv : Nat → Rw} {n k : Nat} {s : Int32 × Rw} (h : (rlS ok cst gv n k s).1 ≤ cst k) : rlS ok cst gv n (k + 1) s = rlS ok cst gv n k s := if_neg (fun z => z.1 h)
theorem rl_f2 {ok : Nat → Bool} {cst : Nat → Int32} {gv : Nat → Rw} {n k : Nat} {s : Int32 × Rw} (h : ¬ ok k = true) : rlS ok cst gv n (k + 1) s = rlS ok cst gv n k s := if_neg (fun z => h z.2)

/-! READING A TEXT, in numbers, 3 -/
theorem ne_fg {t : Rw} {N a : Nat} : isFg (ltS t N (skp t N a)) ↔ ¬ nE t N a = skp t N a := by
  by_cases h : skp t N a < N
  · constructor
    · intro q e
      have e2 : nE t N a = fig t N (skp t N a + 1) := fg_goL h q
      have := fg_b (t := t) (N := N) (a := skp t N a + 1)
      omega
    · intro q
      by_cases e : isFg (ltS t N (skp t N a))
      · exact e
      · exact absurd (fg_stopL h e) q
  · rw [lt_no h]
    constructor
    · intro q
      exact absurd q (by decide)
    · intro q
      exact absurd (fg_no h) q
theorem nI_m1 {j : Nat} (h : j < 2 ^ 31) : ¬ nI j = -1 := fun z => absurd (z ▸ (by decide : (-1 : Int32) < 0)) (nI_pos h)

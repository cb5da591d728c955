/-! READING A TEXT, in numbers, 2 -/
theorem min240 {N : Nat} (h : N ≤ 240) : (if (240 : Int32) < nI N then 240 else nI N) = nI N := if_neg (fun z => absurd ((nI_ltI (a := 240) (b := N) (by decide) (by omega)).mp z) (by omega))
theorem up_hit {fr : Rw} {k m j : Nat} (hm : 0 < m) (hk : k < 2 ^ 31) (e : fr j = nI k) : upS fr k m j = true := by
  obtain ⟨m, rfl⟩ : ∃ x, m = x + 1 := ⟨m - 1, by omega⟩
  have ne : ¬ fr j = -1 := fun z => by
    rw [e] at z
    exact absurd (z ▸ (by decide : (-1 : Int32) < 0)) (nI_pos hk)
  simp only [upS, if_neg ne]
  rw [e, nI_clamp hk]
  simp
theorem up_root {fr : Rw} {k m j : Nat} (e : fr j = -1) : upS fr k m j = false := by
  cases m with
  | zero => rfl
  | succ m => simp only [upS, if_pos e]
theorem up_step {fr : Rw} {k m j j2 : Nat} (hm : 0 < m) (hj : j2 < 2 ^ 31) (e : fr j = nI j2) (hne : ¬ fr j = nI k) : upS fr k m j = upS fr k (m - 1) j2 := by
  obtain ⟨m, rfl⟩ : ∃ x, m = x + 1 := ⟨m - 1, by omega⟩
  have ne : ¬ fr j = -1 := fun z => by
    rw [e] at z
    exact absurd (z ▸ (by decide : (-1 : Int32) < 0)) (nI_pos hj)
  simp only [upS, if_neg ne]
  have e3 : decide (j2 = k) = false := decide_eq_false (fun z => hne (by rw [e, z]))
  rw [e, nI_clamp hj, e3, Bool.false_or, Nat.add_sub_cancel]

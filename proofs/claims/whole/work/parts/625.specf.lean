/-! WHAT THE METHODS ANSWER, 6 -/
theorem lay_same {d : Nat} {is c : Int32} {r : Nat → Int32} (h1 : r d = is) (h2 : r (7 + d) = c) : layR d is c r = r := by
  funext k
  simp only [layR, upd]
  split
  · rename_i e; rw [e, h2]
  · split
    · rename_i e; rw [e, h1]
    · rfl
theorem mn_skip {p : Nat → Bool} : ∀ (r k : Nat), (∀ q, k ≤ q → q < k + r → p q = false) → mnS p (k + r) = mnS p k
  | 0, _, _ => rfl
  | r + 1, k, hp => by
    rw [show k + (r + 1) = (k + r) + 1 by omega, mn_no (hp (k + r) (by omega) (by omega)), mn_skip r k (fun q h1 h2 => hp q h1 (by omega))]
section LS
variable {d j mc ms : Nat} {Q : Post}
theorem T_lsw {pc t dd : Nat} {ps : List (Int × Nat)} {Lo S : List Value} {G : List SC} {h : AH} {x : Int32} (h1 : lk (ops j) pc = some (.inl (a_lsw ps dd))) (hl : lsw dd x ps = t) (k : T d j mc ms (t, Lo, S, G, h) Q) : T d j mc ms (pc, Lo, .int x :: S, G, h) Q := by
  subst hl
  exact T_step (mc := mc) (ms := ms) (a := 0) (b := 0) h1 rfl k
end LS
theorem lsw2_d {x : Int32} {a b d : Nat} (hx : ¬ (0 ≤ x ∧ x ≤ 1)) : lsw d x [(0, a), (1, b)] = d := by
  have h0 : ¬ (0 : Int) = x.toInt := fun z => hx (by
    have : x = 0 := Int32.toInt_inj.mp (by rw [← z]; rfl)
    subst this; decide)
  have h1 : ¬ (1 : Int) = x.toInt := fun z => hx (by
    have : x = 1 := Int32.toInt_inj.mp (by rw [← z]; rfl)
    subst this; decide)
  simp only [lsw]
  rw [if_neg h0, if_neg h1]

/-! THE SEARCH FOR LOADS, as the program goes -/
abbrev Rw : Type := Nat → Int32
abbrev PkS : Type := Int32 × Rw × Rw
def plF (f : Nat → PkS → PkS) : Nat → PkS → PkS
  | 0, s => s
  | k + 1, s => f k (plF f k s)
def cstP (fair : Bool) (cost load : Int32) (k : Nat) (hold : Int32) : Int32 := if fair = true then (if cost < load then load else cost) else if nI k = hold then cost else cost + 1
def plS (en : Int32) (fair : Bool) (hd w sg : Rw) (c : Nat) : Nat → Nat → Int32 → Rw → PkS → PkS
  | 0, _, cost, _, s => if s.1 ≤ cost ∨ s.1 ≤ en then s else (cost, va_cpy s.2.2 s.2.1 0 0 7, s.2.2)
  | m + 1, d, cost, ld, s => if s.1 ≤ cost ∨ s.1 ≤ en then s else if hd d = -1 then plS en fair hd w sg c m (d + 1) cost ld s
    else plF (fun k s => if fair = true ∨ ld k + w d ≤ sg k then plS en fair hd w sg c m (d + 1) (cstP fair cost (ld k + w d) k (hd d)) (upd ld k (ld k + w d)) (s.1, s.2.1, upd s.2.2 d (nI k)) else s) c s
theorem st_row {h : AH} {k i : Nat} {v : Int32} : st_ h k i v k = upd (h k) i v := by
  funext b
  simp [st_, upd]
abbrev PHo (o t a : Nat) (h : AH) (s : PkS) : AH := sc_ (sc_ (st_ h o 7 s.1) a s.2.1) t s.2.2
theorem PHo_id {o t a : Nat} {h : AH} (h1 : a ≠ o) (h2 : t ≠ o) (h3 : t ≠ a) : PHo o t a h (h o 7, h a, h t) = h := by
  funext x y
  simp only [PHo, sc_, st_]
  grind
def PLok (L n c0 o hc t a l : Nat) (fb : Int32) (fair : Bool) (en : Int32) (hd w sg : Rw) (m d : Nat) : Prop := ∀ (h : AH) (cost b : Int32) (ld an tr : Rw), h 3 3 = nI n → h 3 2 = nI c0 → h o 2 = fb → h o 8 = en → h hc = hd → h 8 = w → h 4 = sg → h l = ld → h o 7 = b → h a = an → h t = tr → Rt L m 41 [.ref o, .int (nI d), .int cost] h none (PHo o t a h (plS en fair hd w sg c0 m d cost ld (b, an, tr)))
theorem i32_pm (x y : Int32) : x + y - y = x := by
  rw [Int32.sub_eq_add_neg, Int32.add_assoc, Int32.add_right_neg, Int32.add_zero]
/-- who holds a deed now -/
def hoS (r : Rw) (n d : Nat) : Int32 := if d < n ∧ r d = 1 then r (7 + d) else -1
theorem all_iff {p : Nat → Bool} : ∀ {n : Nat}, allS p n = true ↔ ∀ d, d < n → p d = true
  | 0 => ⟨fun _ d hd => absurd hd (by omega), fun _ => rfl⟩
  | n + 1 => by
    simp only [allS, Bool.and_eq_true]
    rw [all_iff (n := n)]
    constructor
    · rintro ⟨h1, h2⟩ d hd
      by_cases e : d = n
      · rw [e]; exact h2
      · exact h1 d (by omega)
    · intro h
      exact ⟨fun d hd => h d (by omega), h n (by omega)⟩
theorem cstP_t {cost load hold : Int32} {k : Nat} : cstP true cost load k hold = if cost < load then load else cost := if_pos rfl
/-! below what no greatest load can be -/
def hvS (hd w : Rw) : Nat → Int32
  | 0 => 0
  | k + 1 => if hd k = -1 then hvS hd w k else (if hvS hd w k < w k then w k else hvS hd w k)
def alS (hd w : Rw) : Nat → Int32
  | 0 => 0
  | k + 1 => if hd k = -1 then alS hd w k else alS hd w k + w k
def mx1 (x : Int32) : Int32 := if 1 < x then x else 1
def lgS (hd w : Rw) (n c : Nat) : Int32 := if hvS hd w n < (alS hd w n + mx1 (nI c) - 1) / mx1 (nI c) then (alS hd w n + mx1 (nI c) - 1) / mx1 (nI c) else hvS hd w n
theorem mx1_nz {x : Int32} : ¬ (if 1 < x then x else 1) = 0 := by
  by_cases q : 1 < x
  · rw [if_pos q]
    intro z
    rw [z] at q
    exact absurd q (by decide)
  · rw [if_neg q]
    decide

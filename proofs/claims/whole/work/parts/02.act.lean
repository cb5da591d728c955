/-! THE SMALL MACHINE: cells by number, ints by (cell, place); every instruction is a function on it -/
abbrev SC : Type := Nat × Nat × List (Option Nat)
abbrev AH : Type := Nat → Nat → Int32
abbrev St : Type := Nat × List Value × List Value × List SC × AH
abbrev Act : Type := Nat → List Value → List Value → List SC → AH → Option (St × Nat × Nat)
abbrev Op : Type := Act ⊕ ((Nat × Nat) ⊕ Nat)
def st_ (h : AH) (k i : Nat) (v : Int32) : AH := fun a b => if a = k ∧ b = i then v else h a b
def sc_ (h : AH) (k : Nat) (f : Nat → Int32) : AH := fun a b => if a = k then f b else h a b
abbrev un_ : Value := .retAddr 0
def isSet : Value → Bool
  | .retAddr _ => false
  | _ => true
/-- a store at slot i doesn't cut a long that begins one slot below -/
def cutOk (L : List Value) : Nat → Bool
  | 0 => true
  | i + 1 => match L[i]? with
    | some (.long _) => false
    | some (.double _) => false
    | _ => true
def a_push (len : Nat) (v : Value) : Act := fun pc L S G h => some ((pc + len, L, v :: S, G, h), 0, 0)
def a_iload (len i : Nat) : Act := fun pc L S G h => match L[i]? with
  | some (.int x) => some ((pc + len, L, .int x :: S, G, h), 0, 0)
  | _ => none
def a_lload (len i : Nat) : Act := fun pc L S G h => match L[i]? with
  | some (.long x) => some ((pc + len, L, .long x :: S, G, h), 0, 0)
  | _ => none
def a_aload (len i : Nat) : Act := fun pc L S G h => match L[i]? with
  | some (.ref x) => some ((pc + len, L, .ref x :: S, G, h), 0, 0)
  | _ => none
def a_istore (len i : Nat) : Act := fun pc L S G h => match S with
  | .int x :: S => if i < L.length ∧ cutOk L i = true then some ((pc + len, L.set i (.int x), S, G, h), 0, 0) else none
  | _ => none
def a_astore (len i : Nat) : Act := fun pc L S G h => match S with
  | .ref x :: S => if i < L.length ∧ cutOk L i = true then some ((pc + len, L.set i (.ref x), S, G, h), 0, 0) else none
  | _ => none
def a_lstore (len i : Nat) : Act := fun pc L S G h => match S with
  | .long x :: S => if i + 1 < L.length ∧ cutOk L i = true then some ((pc + len, (L.set i (.long x)).set (i + 1) un_, S, G, h), 0, 0) else none
  | _ => none
def a_iinc (i : Nat) (n : Int32) : Act := fun pc L S G h => match L[i]? with
  | some (.int x) => if cutOk L i = true then some ((pc + 3, L.set i (.int (x + n)), S, G, h), 0, 0) else none
  | _ => none
def a_bin (f : Int32 → Int32 → Int32) : Act := fun pc L S G h => match S with
  | .int y :: .int x :: S => some ((pc + 1, L, .int (f x y) :: S, G, h), 0, 0)
  | _ => none
def a_div : Act := fun pc L S G h => match S with
  | .int y :: .int x :: S => if y = 0 then none else some ((pc + 1, L, .int (x / y) :: S, G, h), 0, 0)
  | _ => none
def a_rem : Act := fun pc L S G h => match S with
  | .int y :: .int x :: S => if y = 0 then none else some ((pc + 1, L, .int (x - x / y * y) :: S, G, h), 0, 0)
  | _ => none
def a_lbin (f : Int64 → Int64 → Int64) : Act := fun pc L S G h => match S with
  | .long y :: .long x :: S => some ((pc + 1, L, .long (f x y) :: S, G, h), 0, 0)
  | _ => none
def a_ldiv : Act := fun pc L S G h => match S with
  | .long y :: .long x :: S => if y = 0 then none else some ((pc + 1, L, .long (x / y) :: S, G, h), 0, 0)
  | _ => none
def a_lrem : Act := fun pc L S G h => match S with
  | .long y :: .long x :: S => if y = 0 then none else some ((pc + 1, L, .long (x - x / y * y) :: S, G, h), 0, 0)
  | _ => none
def a_i2l : Act := fun pc L S G h => match S with
  | .int x :: S => some ((pc + 1, L, .long x.toInt64 :: S, G, h), 0, 0)
  | _ => none
def a_l2i : Act := fun pc L S G h => match S with
  | .long x :: S => some ((pc + 1, L, .int x.toInt32 :: S, G, h), 0, 0)
  | _ => none
def a_lcmp : Act := fun pc L S G h => match S with
  | .long y :: .long x :: S => some ((pc + 1, L, .int (lg_cmp x y) :: S, G, h), 0, 0)
  | _ => none
def a_dup : Act := fun pc L S G h => match S with
  | .int x :: S => some ((pc + 1, L, .int x :: .int x :: S, G, h), 0, 0)
  | .ref x :: S => some ((pc + 1, L, .ref x :: .ref x :: S, G, h), 0, 0)
  | _ => none
def a_dup2 : Act := fun pc L S G h => match S with
  | .int x :: .ref y :: S => some ((pc + 1, L, .int x :: .ref y :: .int x :: .ref y :: S, G, h), 0, 0)
  | _ => none
def a_pop : Act := fun pc L S G h => match S with
  | .int _ :: S => some ((pc + 1, L, S, G, h), 0, 0)
  | _ => none
def a_goto (t : Nat) : Act := fun _ L S G h => some ((t, L, S, G, h), 0, 0)
def a_if1 (f : Int32 → Bool) (t : Nat) : Act := fun pc L S G h => match S with
  | .int x :: S => some ((cond (f x) t (pc + 3), L, S, G, h), 0, 0)
  | _ => none
def a_if2 (f : Int32 → Int32 → Bool) (t : Nat) : Act := fun pc L S G h => match S with
  | .int y :: .int x :: S => some ((cond (f x y) t (pc + 3), L, S, G, h), 0, 0)
  | _ => none
def tsw (lo : Int) (ts : List Nat) (d : Nat) (x : Int32) : Nat := if x.toInt < lo ∨ lo + ts.length - 1 < x.toInt then d else ts.getD (x.toInt - lo).toNat d
def lsw (d : Nat) (x : Int32) : List (Int × Nat) → Nat
  | [] => d
  | (a, t) :: r => if a = x.toInt then t else lsw d x r
def a_tsw (lo : Int) (ts : List Nat) (d : Nat) : Act := fun _ L S G h => match S with
  | .int x :: S => some ((tsw lo ts d x, L, S, G, h), 0, 0)
  | _ => none
def a_lsw (ps : List (Int × Nat)) (d : Nat) : Act := fun _ L S G h => match S with
  | .int x :: S => some ((lsw d x ps, L, S, G, h), 0, 0)
  | _ => none
def a_getI (ci k : Nat) : Act := fun pc L S G h => match S with
  | .ref a :: S => match G[a]? with
    | some (0, c, _) => if c = ci then some ((pc + 3, L, .int (h a k) :: S, G, h), 0, 0) else none
    | _ => none
  | _ => none
def a_getR (ci k : Nat) : Act := fun pc L S G h => match S with
  | .ref a :: S => match G[a]? with
    | some (0, c, rs) => if c = ci then (match rs[k]? with
      | some (some b) => some ((pc + 3, L, .ref b :: S, G, h), 0, 0)
      | _ => none) else none
    | _ => none
  | _ => none
def a_putI (ci k : Nat) : Act := fun pc L S G h => match S with
  | .int x :: .ref a :: S => match G[a]? with
    | some (0, c, _) => if c = ci then some ((pc + 3, L, S, G, st_ h a k x), 0, 0) else none
    | _ => none
  | _ => none
def a_putZ (ci k : Nat) : Act := fun pc L S G h => match S with
  | .int x :: .ref a :: S => match G[a]? with
    | some (0, c, _) => if c = ci ∧ (x = 0 ∨ x = 1) then some ((pc + 3, L, S, G, st_ h a k x), 0, 0) else none
    | _ => none
  | _ => none
def a_putR (ci k : Nat) : Act := fun pc L S G h => match S with
  | .ref b :: .ref a :: S => match G[a]? with
    | some (0, c, rs) => if c = ci ∧ k < rs.length then some ((pc + 3, L, S, G.set a (0, ci, rs.set k (some b)), h), 0, 0) else none
    | _ => none
  | _ => none
def a_iald : Act := fun pc L S G h => match S with
  | .int i :: .ref a :: S => match G[a]? with
    | some (1, n, _) => if i < 0 ∨ n ≤ i.toNatClampNeg then none else some ((pc + 1, L, .int (h a i.toNatClampNeg) :: S, G, h), 0, 0)
    | some (4, n, _) => if i < 0 ∨ n ≤ i.toNatClampNeg then none else some ((pc + 1, L, .int (h a i.toNatClampNeg) :: S, G, h), 0, 0)
    | _ => none
  | _ => none
def a_iast : Act := fun pc L S G h => match S with
  | .int x :: .int i :: .ref a :: S => match G[a]? with
    | some (1, n, _) => if i < 0 ∨ n ≤ i.toNatClampNeg then none else some ((pc + 1, L, S, G, st_ h a i.toNatClampNeg x), 0, 0)
    | _ => none
  | _ => none
def a_bald : Act := fun pc L S G h => match S with
  | .int i :: .ref a :: S => match G[a]? with
    | some (2, n, _) => if i < 0 ∨ n ≤ i.toNatClampNeg then none else some ((pc + 1, L, .int (h a i.toNatClampNeg) :: S, G, h), 0, 0)
    | _ => none
  | _ => none
def a_bast : Act := fun pc L S G h => match S with
  | .int x :: .int i :: .ref a :: S => match G[a]? with
    | some (2, n, _) => if (i < 0 ∨ n ≤ i.toNatClampNeg) ∨ ¬ (x = 0 ∨ x = 1) then none else some ((pc + 1, L, S, G, st_ h a i.toNatClampNeg x), 0, 0)
    | _ => none
  | _ => none
def a_aald : Act := fun pc L S G h => match S with
  | .int i :: .ref a :: S => match G[a]? with
    | some (3, n, rs) => if i < 0 ∨ n ≤ i.toNatClampNeg then none else (match rs[i.toNatClampNeg]? with
      | some (some b) => some ((pc + 1, L, .ref b :: S, G, h), 0, 0)
      | _ => none)
    | _ => none
  | _ => none
/-- ci: the number of the type that the row holds -/
def a_aast (ci : Nat) : Act := fun pc L S G h => match S with
  | .ref b :: .int i :: .ref a :: S => match G[a]? with
    | some (3, n, rs) => if (i < 0 ∨ n ≤ i.toNatClampNeg) ∨ rs.length ≤ i.toNatClampNeg then none else (match G[b]? with
      | some (0, c, _) => if c = ci then some ((pc + 1, L, S, G.set a (3, n, rs.set i.toNatClampNeg (some b)), h), 0, 0) else none
      | _ => none)
    | _ => none
  | _ => none
def a_alen : Act := fun pc L S G h => match S with
  | .ref a :: S => match G[a]? with
    | some (k, n, _) => if k = 0 ∨ 4 < k then none else some ((pc + 1, L, .int (Int32.ofNat n) :: S, G, h), 0, 0)
    | _ => none
  | _ => none
def a_new (ci N : Nat) : Act := fun pc L S G h => some ((pc + 3, L, .ref G.length :: S, G ++ [(0, ci, List.replicate N none)], sc_ h G.length (fun _ => 0)), 1, N)
def a_newP (kd : Nat) : Act := fun pc L S G h => match S with
  | .int n :: S => if n < 0 ∨ 1000 < n.toNatClampNeg then none else some ((pc + 2, L, .ref G.length :: S, G ++ [(kd, n.toNatClampNeg, [])], sc_ h G.length (fun _ => 0)), 1, n.toNatClampNeg)
  | _ => none
def a_newO : Act := fun pc L S G h => match S with
  | .int n :: S => if n < 0 ∨ 1000 < n.toNatClampNeg then none else some ((pc + 3, L, .ref G.length :: S, G ++ [(3, n.toNatClampNeg, List.replicate n.toNatClampNeg none)], h), 1, n.toNatClampNeg)
  | _ => none
def a_obj : Act := fun pc L S G h => match S with
  | .ref _ :: S => if 8 < (S.map fun v => v.category).sum then none else some ((pc + 3, L, S, G, h), 0, 0)
  | _ => none
def a_copy : Act := fun pc L S G h => match S with
  | .int n :: .int dp :: .ref b :: .int sp :: .ref a :: S => match G[a]?, G[b]? with
    | some (1, na, _), some (1, nb, _) => if (n < 0 ∨ dp < 0 ∨ sp < 0) ∨ (na < sp.toNatClampNeg + n.toNatClampNeg ∨ nb < dp.toNatClampNeg + n.toNatClampNeg) ∨ 8 < (S.map fun v => v.category).sum then none
      else some ((pc + 3, L, S, G, sc_ h b (va_cpy (h a) (h b) sp.toNatClampNeg dp.toNatClampNeg n.toNatClampNeg)), 0, 0)
    | _, _ => none
  | _ => none
def a_max : Act := fun pc L S G h => match S with
  | .int y :: .int x :: S => if 8 < (S.map fun v => v.category).sum then none else some ((pc + 3, L, .int (if x < y then y else x) :: S, G, h), 0, 0)
  | _ => none
def a_min : Act := fun pc L S G h => match S with
  | .int y :: .int x :: S => if 8 < (S.map fun v => v.category).sum then none else some ((pc + 3, L, .int (if y < x then y else x) :: S, G, h), 0, 0)
  | _ => none

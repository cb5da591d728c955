/-! WHAT THE METHODS ANSWER, in numbers and rows of numbers -/
abbrev inS (x : Int32) (m : Nat) : Prop := 0 ≤ x ∧ x < nI m
theorem inS_iff {x : Int32} {m : Nat} (hm : m < 2 ^ 31) : inS x m ↔ ∃ k, k < m ∧ x = nI k := by
  constructor
  · rintro ⟨h1, h2⟩
    obtain ⟨k, hk, rfl⟩ := nI_of (x := x) (Int32.not_lt.mpr h1)
    exact ⟨k, (nI_ltI hk hm).mp h2, rfl⟩
  · rintro ⟨k, hk, rfl⟩
    exact ⟨nI_pos' (by omega), nI_lt hk hm⟩
/-- the test 'in' over longs, of a number's row of m -/
theorem inL_iff {x : Int32} {m : Nat} (hm : m < 2 ^ 31) : ((0 : Int64) ≤ Int32.toInt64 x ∧ Int32.toInt64 x ≤ Int32.toInt64 (nI m - 1)) ↔ inS x m := by
  have e0 : (Int32.toInt64 x).toInt = x.toInt := Int32.toInt_toInt64 x
  have e1 : (Int32.toInt64 (nI m - 1)).toInt = (nI m - 1).toInt := Int32.toInt_toInt64 _
  have hm1 : (nI m - 1).toInt = (m : Int) - 1 := by
    cases m with
    | zero => decide
    | succ m => rw [nI_pred, nI_toInt (by omega)]; omega
  have hx := nI_toInt hm
  unfold inS
  rw [Int64.le_iff_toInt_le, Int64.le_iff_toInt_le, e0, e1, hm1, Int32.le_iff_toInt_le, Int32.lt_iff_toInt_lt, hx]
  have z1 : (0 : Int64).toInt = 0 := by decide
  have z2 : (0 : Int32).toInt = 0 := by decide
  rw [z1, z2]
  omega
/-- the test 'in' between two numbers that stand in the text -/
theorem inK_iff {x a b : Int32} : (Int32.toInt64 a ≤ Int32.toInt64 x ∧ Int32.toInt64 x ≤ Int32.toInt64 b) ↔ (a ≤ x ∧ x ≤ b) := by
  rw [Int64.le_iff_toInt_le, Int64.le_iff_toInt_le, Int32.toInt_toInt64, Int32.toInt_toInt64, Int32.toInt_toInt64, Int32.le_iff_toInt_le, Int32.le_iff_toInt_le]
theorem inN_iff {m a b : Nat} (hm : m < 2 ^ 31) (ha : a < 2 ^ 31) (hb : b < 2 ^ 31) : (lN a ≤ Int32.toInt64 (nI m) ∧ Int32.toInt64 (nI m) ≤ lN b) ↔ (a ≤ m ∧ m ≤ b) := by
  rw [nI_l hm, lN_le ha hm, lN_le hm hb]
theorem b2i_congr {P Q : Prop} [Decidable P] [Decidable Q] (h : P ↔ Q) : b2i P = b2i Q := by
  unfold b2i
  by_cases q : P
  · rw [if_pos q, if_pos (h.mp q)]
  · rw [if_neg q, if_neg (fun z => q (h.mpr z))]
/-- a load: what lies in the satchel of c of the first n deeds -/
def loadS (st pl w : Nat → Int32) (c : Int32) : Nat → Int32
  | 0 => 0
  | k + 1 => if st k = 1 ∧ pl k = c then loadS st pl w c k + w k else loadS st pl w c k
def ownS (st pl ow w : Nat → Int32) (c : Int32) : Nat → Int32
  | 0 => 0
  | k + 1 => if (st k = 1 ∧ pl k = c) ∧ ow k = c then ownS st pl ow w c k + w k else ownS st pl ow w c k
def setS (p : Nat → Bool) : Nat → Int32
  | 0 => 0
  | k + 1 => if p k = true then setS p k ||| ((1 : Int32) <<< (nI k &&& 31)) else setS p k
def sumS (f : Nat → Int32) : Nat → Int32
  | 0 => 0
  | k + 1 => sumS f k + f k
/-- the last one home: the first of the greatest of f, none of none -/
def lastS (f : Nat → Int32) : Nat → Int32
  | 0 => -1
  | k + 1 => if lastS f k < 0 ∨ ¬ f k ≤ f (lastS f k).toNatClampNeg then nI k else lastS f k
/-- the first of n numbers from k on with p -/
def findS (p : Nat → Bool) : Nat → Nat → Int32
  | 0, _ => -1
  | m + 1, k => if p k = true then nI k else findS p m (k + 1)
def anyS (p : Nat → Bool) : Nat → Bool
  | 0 => false
  | k + 1 => anyS p k || p k
def allS (p : Nat → Bool) : Nat → Bool
  | 0 => true
  | k + 1 => allS p k && p k
/-- going home, of a row with its days lamed from la on, its days at dy, what the brook took at tk -/
def goR (la dy tk n c : Nat) (set : Int32) (r : Nat → Int32) : Nat → Int32 := fun k => if k < n then (if r k = 1 then 3 else r k) else if la ≤ k ∧ k < la + c then r k + ((set >>> (nI (k - la) &&& 31)) &&& 1) else if k = dy then r k + 1 else if k = tk then 0 else r k
def layR (d : Nat) (is c : Int32) (r : Nat → Int32) : Nat → Int32 := upd (upd r d is) (7 + d) c
/-- thrown: what the brook took this day at tk, in all at al -/
def thrR (tk al d : Nat) (w : Int32) (r : Nat → Int32) : Nat → Int32 := fun k => if k = d then 2 else if k = 7 + d then -1 else if k = tk then r k + w else if k = al then (if r k + w < 999999 then r k + w else 999999) else r k
/-- the reference's memory of what can be undone -/
def remP (p r : Nat → Int32) (u : Nat) : Nat → Int32 := if u = 20 then (fun k => if k < 418 then p (k + 22) else if k < 440 then r (k - 418) else p k) else fun k => if 22 * u ≤ k ∧ k < 22 * u + 22 then r (k - 22 * u) else p k
def remU (u : Nat) : Nat := if u = 20 then 20 else u + 1
/-- a draw -/
def nx (s : Nat) : Nat := (s * 1103515245 + 12345) % 2147483648
theorem nx_lt (s : Nat) : nx s < 2 ^ 31 := Nat.mod_lt _ (by decide)
theorem drawM_eq {s : Nat} (hs : s < 2 ^ 31) : Int64.toInt32 ((Int32.toInt64 (nI s) * 1103515245 + 12345) - (Int32.toInt64 (nI s) * 1103515245 + 12345) / 2147483648 * 2147483648) = nI (nx s) := by
  rw [nI_l hs, show (1103515245 : Int64) = lN 1103515245 from rfl, show (12345 : Int64) = lN 12345 from rfl, show (2147483648 : Int64) = lN 2147483648 from rfl, lN_mul, lN_add, pk_lRem (by omega) (by decide) (by decide), lN_i]
  rfl
theorem drawC_eq {s : Nat} (hs : s < 2 ^ 31) : Int64.toInt32 ((Int32.toInt64 (nI s) * 1103515245 + 12345) &&& 2147483647) = nI (nx s) := by
  rw [nI_l hs, show (1103515245 : Int64) = lN 1103515245 from rfl, show (12345 : Int64) = lN 12345 from rfl, lN_mul, lN_add]
  have e : lN (s * 1103515245 + 12345) &&& 2147483647 = lN ((s * 1103515245 + 12345) % 2 ^ 31) := by
    apply Int64.toBitVec_inj.mp
    rw [Int64.toBitVec_and]
    apply BitVec.eq_of_toNat_eq
    rw [BitVec.toNat_and]
    have e1 : ∀ k : Nat, k < 2 ^ 64 → (lN k).toBitVec.toNat = k := by
      intro k hk
      show (BitVec.ofNat 64 k).toNat = k
      rw [BitVec.toNat_ofNat, Nat.mod_eq_of_lt hk]
    rw [e1 _ (by omega), e1 _ (by omega), show (2147483647 : Int64).toBitVec.toNat = 2 ^ 31 - 1 from by decide, Nat.and_two_pow_sub_one_eq_mod]
  rw [e, lN_i]
  rfl
theorem rem_nI {a b : Nat} (ha : a < 2 ^ 31) (hb0 : 0 < b) (hb : b < 2 ^ 31) : nI a / 65536 - nI a / 65536 / nI b * nI b = nI (a / 65536 % b) := by
  rw [show (65536 : Int32) = nI 65536 from rfl, pk_div ha (by decide) (by decide), pk_rem (by omega) hb0 hb]
theorem nI_nz {a : Nat} (h0 : 0 < a) (h : a < 2 ^ 31) : ¬ nI a = 0 := nI_ne0 h0 h
def lamS (sg w : Nat → Int32) (n c : Nat) (r : Nat → Int32) : Int32 := setS (fun i => decide (¬ loadS r (fun d => r (7 + d)) w (nI i) n ≤ sg i)) c
/-- one time by draws -/
def stepR (la dy tk al n c : Nat) (nxt : Int32 → Int32) (sg ow w : Nat → Int32) (bk : Int32) (d what : Nat) (r : Nat → Int32) : Nat → Int32 :=
  if what = 0 then (if r d = 0 then layR d 1 (ow d) r else r)
  else if what = 1 then (if r d = 1 ∧ ¬ bk < r tk + w d then thrR tk al d (w d) r else r)
  else if what = 2 then (if r d = 1 then layR d 1 (nxt (r (7 + d))) r else r)
  else goR la dy tk n c (lamS sg w n c r) r
def nextM (c : Nat) (p : Int32) : Int32 := (p + 1) - (p + 1) / nI c * nI c
/-- n times by draws: the row, the seed -/
def drfR (la dy tk al n c : Nat) (nxt : Int32 → Int32) (sg ow w : Nat → Int32) (bk : Int32) (r : Nat → Int32) (s : Nat) : Nat → (Nat → Int32) × Nat
  | 0 => (r, s)
  | k + 1 =>
    let q := drfR la dy tk al n c nxt sg ow w bk r s k
    (stepR la dy tk al n c nxt sg ow w bk (nx q.2 / 65536 % n) (nx (nx q.2) / 65536 % 4) q.1, nx (nx q.2))
/-- what the reference gathers on the way, and nobody asks -/
def drfA (n c : Nat) (sg w : Nat → Int32) (q : Nat → (Nat → Int32) × Nat) : Nat → Int32
  | 0 => 0
  | k + 1 => drfA n c sg w q k ||| (if nx (nx (q k).2) / 65536 % 4 = 3 then lamS sg w n c (q k).1 else 0)
theorem nx4 (s : Nat) : nx (nx s) / 65536 % 4 < 4 := Nat.mod_lt _ (by decide)
theorem drf_lt {la dy tk al n c : Nat} {nxt : Int32 → Int32} {sg ow w : Nat → Int32} {bk : Int32} {r : Nat → Int32} {s : Nat} (hs : s < 2 ^ 31) : ∀ k, (drfR la dy tk al n c nxt sg ow w bk r s k).2 < 2 ^ 31
  | 0 => hs
  | k + 1 => nx_lt _
theorem inS_nat {d n : Nat} (h : d < n) (hn : n < 2 ^ 31) : inS (nI d) n := (inS_iff hn).mpr ⟨d, h, rfl⟩
def swpR (d e : Nat) (r : Nat → Int32) : Nat → Int32 := upd (upd r (7 + d) (r (7 + e))) (7 + e) (r (7 + d))
/-- a number between two, as the reference's 'in' asks it -/
theorem inQ {x : Int32} {a b : Int32} : ((a ≤ x ∧ x ≤ b) ↔ (Int32.toInt64 a ≤ Int32.toInt64 x ∧ Int32.toInt64 x ≤ Int32.toInt64 b)) := inK_iff.symm
def lgtS (q : Int32) : Nat → Int64
  | 0 => 1000000000
  | k + 1 => lgtS q k * Int32.toInt64 q / 100
theorem lastS_nat {f : Nat → Int32} {k : Nat} (hk : k < 2 ^ 31) (h : ¬ lastS f k < 0) : ∃ i, i < k ∧ lastS f k = nI i := by
  induction k with
  | zero => exact absurd (show (-1 : Int32) < 0 by decide) h
  | succ k ih =>
    simp only [lastS] at h ⊢
    split
    · exact ⟨k, Nat.lt_succ_self k, rfl⟩
    · rename_i q
      have h2 : ¬ lastS f k < 0 := fun z => q (Or.inl z)
      obtain ⟨i, h3, h4⟩ := ih (by omega) h2
      exact ⟨i, by omega, h4⟩
theorem findS_step {p : Nat → Bool} {m k : Nat} (hk : k < m) (h : p k = false) : findS p (m - k) k = findS p (m - (k + 1)) (k + 1) := by
  rw [show m - k = (m - (k + 1)) + 1 by omega]
  simp [findS, h]
theorem findS_hit {p : Nat → Bool} {m k : Nat} (hk : k < m) (h : p k = true) : findS p (m - k) k = nI k := by
  rw [show m - k = (m - (k + 1)) + 1 by omega]
  simp [findS, h]
theorem findS_end {p : Nat → Bool} {m : Nat} : findS p (m - m) m = -1 := by
  rw [Nat.sub_self]
  rfl
/-- up the satchels' chain, f steps at most -/
def topS (fr : Nat → Int32) : Nat → Nat → Nat
  | 0, a => a
  | f + 1, a => if fr a = -1 then a else topS fr f (fr a).toNatClampNeg
/-- the chain stays among c children -/
def inCh (fr : Nat → Int32) (c : Nat) : Prop := ∀ i, i < c → fr i = -1 ∨ ∃ j, j < c ∧ fr i = nI j
theorem topS_root {fr : Nat → Int32} {f a : Nat} (h : fr a = -1) : topS fr f a = a := by
  cases f with
  | zero => rfl
  | succ f => simp [topS, h]
theorem topS_step {fr : Nat → Int32} {f a j : Nat} (h : ¬ fr a = -1) (e : fr a = nI j) (hj : j < 2 ^ 31) : topS fr (f + 1) a = topS fr f j := by
  simp only [topS]
  rw [if_neg h, e, nI_clamp hj]
theorem any_t1 {p : Nat → Bool} {k : Nat} (h : anyS p k = true) : b2i (anyS p (k + 1) = true) = 1 := b2i_t (by simp [anyS, h])
theorem any_t2 {p : Nat → Bool} {k : Nat} (h : p k = true) : b2i (anyS p (k + 1) = true) = 1 := b2i_t (by simp [anyS, h])
theorem any_f {p : Nat → Bool} {k : Nat} (h : ¬ anyS p k = true) (h2 : p k = false) : b2i (anyS p (k + 1) = true) = 0 := b2i_f (by simp [anyS, h, h2])
theorem all_f1 {p : Nat → Bool} {k : Nat} (h : ¬ allS p k = true) : b2i (allS p (k + 1) = true) = 0 := b2i_f (by simp [allS, h])
theorem all_f2 {p : Nat → Bool} {k : Nat} (h : p k = false) : b2i (allS p (k + 1) = true) = 0 := b2i_f (by simp [allS, h])
theorem all_t {p : Nat → Bool} {k : Nat} (h : allS p k = true) (h2 : p k = true) : b2i (allS p (k + 1) = true) = 1 := b2i_t (by simp [allS, h, h2])

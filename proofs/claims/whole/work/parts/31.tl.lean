def S0 (L : Nat) : List SC := [(4, L, []), (0, 8, [some 2, none, none, some 3, some 9, some 15, some 16, some 18, some 20, some 21, some 26, some 31, some 33, none]), (1, 240, []), (0, 5, [none, none, none, none, some 4, some 5, some 6, some 7, some 8]), (1, 5, []), (1, 5, []), (1, 5, []), (1, 7, []), (1, 7, []), (0, 5, [none, none, none, none, some 10, some 11, some 12, some 13, some 14]), (1, 5, []), (1, 5, []), (1, 5, []), (1, 7, []), (1, 7, []), (0, 4, [some 2, some 9, none, none, none, none, none]), (0, 0, [some 17, some 3]), (1, 22, []), (0, 3, [some 19, none, none]), (1, 440, []), (3, 2, [some 39, some 41]), (0, 2, [some 3, some 16, none, some 22, some 23, some 24, some 25, none, none, none]), (1, 7, []), (1, 7, []), (1, 7, []), (1, 5, []), (0, 2, [some 3, some 16, none, some 27, some 28, some 29, some 30, none, none, none]), (1, 7, []), (1, 7, []), (1, 7, []), (1, 5, []), (0, 6, [some 3, some 32, none, none, none]), (1, 7, []), (0, 7, [some 34, some 35, some 36, some 37, some 38, none, none]), (1, 6, []), (1, 6, []), (2, 6, []), (1, 15, []), (1, 15, []), (0, 1, [some 40, none, none]), (1, 22, []), (0, 1, [some 42, none, none]), (1, 22, []), (0, 9, [none, none, none, some 44, some 45, some 46, none, some 47, some 48, some 49, none, some 50, none, none, none, none, none, none, none, none, some 51, some 52, some 53, none, some 54, some 55, none, some 56, some 57, some 58, some 59, some 60, none, some 61, some 62, some 63, none, some 64, some 65, some 66, some 67]), (1, 5, []), (1, 5, []), (1, 5, []), (1, 7, []), (1, 7, []), (1, 22, []), (1, 240, []), (1, 5, []), (1, 5, []), (1, 5, []), (1, 7, []), (1, 7, []), (1, 440, []), (1, 7, []), (1, 7, []), (1, 5, []), (1, 7, []), (1, 6, []), (1, 6, []), (2, 6, []), (1, 15, []), (1, 15, []), (1, 46, []), (2, 2, [])]
/-! RULES FOR RUNS OF THE SMALL MACHINE over the shape that stands behind the two makers -/
abbrev Rt (L d j : Nat) (args : List Value) (h : AH) (v : Option Int32) (h' : AH) : Prop := T d j 0 0 (entS j args (S0 L) h) (fun v' G' h'' => v' = v ∧ G' = S0 L ∧ h'' = h')
theorem Rt_h {L d j : Nat} {args : List Value} {h : AH} {v : Option Int32} {h1 h2 : AH} (r : Rt L d j args h v h1) (e : h1 = h2) : Rt L d j args h v h2 := e ▸ r
theorem Rt_v {L d j : Nat} {args : List Value} {h : AH} {v v2 : Option Int32} {h1 : AH} (r : Rt L d j args h v h1) (e : v = v2) : Rt L d j args h v2 h1 := e ▸ r
def b2i (P : Prop) [Decidable P] : Int32 := if P then 1 else 0
theorem b2i_0 {P : Prop} [Decidable P] : b2i P = 0 ↔ ¬ P := by
  unfold b2i
  split <;> simp_all
theorem b2i_1 {P : Prop} [Decidable P] : b2i P = 1 ↔ P := by
  unfold b2i
  split <;> simp_all
theorem b2i_t {P : Prop} [Decidable P] (h : P) : b2i P = 1 := if_pos h
theorem b2i_f {P : Prop} [Decidable P] (h : ¬ P) : b2i P = 0 := if_neg h
theorem bz_t {P : Prop} [Decidable P] (h : P) : ¬ b2i P = 0 := fun z => b2i_0.mp z h
theorem bz_f {P : Prop} [Decidable P] (h : ¬ P) : b2i P = 0 := b2i_0.mpr h
theorem bnz_f {P : Prop} [Decidable P] (h : ¬ P) : ¬ ¬ b2i P = 0 := fun z => z (b2i_0.mpr h)
theorem st_sc {h : AH} {k i : Nat} {f : Nat → Int32} {v : Int32} : st_ (sc_ h k f) k i v = sc_ h k (upd f i v) := by
  funext a b
  by_cases e : a = k
  · subst e
    by_cases e2 : b = i
    · simp [st_, sc_, upd, e2]
    · simp [st_, sc_, upd, e2]
  · simp [st_, sc_, e]
theorem st_is {h : AH} {k i : Nat} {v : Int32} : st_ h k i v = sc_ h k (upd (h k) i v) := by
  funext a b
  by_cases e : a = k
  · subst e
    by_cases e2 : b = i
    · simp [st_, sc_, upd, e2]
    · simp [st_, sc_, upd, e2]
  · simp [st_, sc_, e]
theorem sc_sc {h : AH} {k : Nat} {f g : Nat → Int32} : sc_ (sc_ h k f) k g = sc_ h k g := by
  funext a b
  by_cases e : a = k <;> simp [sc_, e]
theorem sc_id {h : AH} {k : Nat} : sc_ h k (h k) = h := by
  funext a b
  by_cases e : a = k
  · subst e; simp [sc_]
  · simp [sc_, e]
theorem sc_comm {h : AH} {k l : Nat} {f g : Nat → Int32} (e : k ≠ l) : sc_ (sc_ h k f) l g = sc_ (sc_ h l g) k f := by
  funext a b
  by_cases e1 : a = k
  · subst e1; simp [sc_, e]
  · by_cases e2 : a = l
    · subst e2; simp [sc_, e1]
    · simp [sc_, e1, e2]
theorem st_st {h : AH} {k i : Nat} {v w : Int32} : st_ (st_ h k i v) k i w = st_ h k i w := by
  funext a b
  by_cases e : a = k ∧ b = i <;> simp [st_, e]
theorem sc_st {h : AH} {k l i : Nat} {v : Int32} {f : Nat → Int32} (e : l ≠ k) : sc_ (st_ h k i v) l f = st_ (sc_ h l f) k i v := by
  funext a b
  by_cases e1 : a = l
  · subst e1; simp [sc_, st_, e]
  · simp [sc_, st_, e1]
theorem st_stc {h : AH} {k l i j : Nat} {v w : Int32} (e : k ≠ l) : st_ (st_ h k i v) l j w = st_ (st_ h l j w) k i v := by
  funext a b
  by_cases e1 : a = l
  · subst e1; simp [st_, Ne.symm e]
  · simp [st_, e1]
theorem st_at {h : AH} {k i : Nat} {v : Int32} : st_ h k i v k i = v := by simp [st_]
theorem st_idE {h : AH} {k i : Nat} {v : Int32} (e : h k i = v) : st_ h k i v = h := by
  funext a b
  by_cases q : a = k ∧ b = i
  · obtain ⟨rfl, rfl⟩ := q
    simp [st_, e]
  · simp [st_, q]
theorem sc_idE {h : AH} {k : Nat} {f : Nat → Int32} (e : h k = f) : sc_ h k f = h := by
  subst e
  exact sc_id
theorem sc_eqf {h : AH} {k : Nat} {f g : Nat → Int32} (e : f = g) : sc_ h k f = sc_ h k g := by rw [e]
theorem nI_lt31 {x : Int32} {a : Nat} (h : x = nI a) (ha : a < 2 ^ 31) : x.toNatClampNeg = a := by rw [h]; exact nI_clamp ha
theorem nI_addE {x y : Int32} {a b : Nat} (hx : x = nI a) (hy : y = nI b) : x + y = nI (a + b) := by rw [hx, hy]; exact nI_add a b
theorem nI_mulE {x y : Int32} {a b : Nat} (hx : x = nI a) (hy : y = nI b) : x * y = nI (a * b) := by rw [hx, hy]; exact pk_mul a b
theorem nI_subE {x y : Int32} {a b : Nat} (hx : x = nI a) (hy : y = nI b) (h : b ≤ a) : x - y = nI (a - b) := by rw [hx, hy]; exact pk_sub h
theorem nI_leE {x y : Int32} {a b : Nat} (hx : x = nI a) (hy : y = nI b) (ha : a < 2 ^ 31) (hb : b < 2 ^ 31) : x ≤ y ↔ a ≤ b := by rw [hx, hy]; exact nI_leI ha hb
theorem nI_ltE {x y : Int32} {a b : Nat} (hx : x = nI a) (hy : y = nI b) (ha : a < 2 ^ 31) (hb : b < 2 ^ 31) : x < y ↔ a < b := by rw [hx, hy]; exact nI_ltI ha hb
theorem nI_eqE {x y : Int32} {a b : Nat} (hx : x = nI a) (hy : y = nI b) (ha : a < 2 ^ 31) (hb : b < 2 ^ 31) : x = y ↔ a = b := by rw [hx, hy]; exact nI_eq ha hb
section TL
variable {d j mc ms : Nat} {Q : Post}
theorem T_st {st st' : St} (e : st = st') (k : T d j mc ms st' Q) : T d j mc ms st Q := e ▸ k
theorem T_h {pc : Nat} {Lo S : List Value} {G : List SC} {h h' : AH} (e : h = h') (k : T d j mc ms (pc, Lo, S, G, h') Q) : T d j mc ms (pc, Lo, S, G, h) Q := e ▸ k
/-- a call by its answer -/
theorem T_callR {L d' pc pc' j' n : Nat} {Lo S S' args : List Value} {h h' : AH} {v : Option Int32} (hc : Rt L d' j' args h v h') (hd : d' ≤ d) (h1 : lk (ops j) pc = some (.inr (.inl (j', n)))) (h2 : Nat.ble n S.length = true) (hrc : rcv j' n S (S0 L) = true) (h3 : Nat.ble ((S.drop n).map fun v => v.category).sum 8 = true) (ha : (S.take n).reverse = args) (hp : pc + 3 = pc') (hS : pv v (S.drop n) = S')
    (k : T (d + 1) j mc ms (pc', Lo, S', S0 L, h') Q) : T (d + 1) j mc ms (pc, Lo, S, S0 L, h) Q := by
  subst ha
  subst hp
  subst hS
  refine T_call (mc := mc) (ms := ms) (mc1 := 0) (ms1 := 0) hd h1 (Nat.le_of_ble_eq_true h2) hrc (Nat.le_of_ble_eq_true h3) hc ?_
  rintro v G' h'' ⟨rfl, rfl, rfl⟩
  exact k
theorem T_retR {L pc k : Nat} {Lo S : List Value} {h : AH} {v v' : Option Int32} {h' : AH} (h1 : lk (ops j) pc = some (.inr (.inr k))) (h2 : rets k S = some v') (hv : v' = v) (hh : h = h') : T d j mc ms (pc, Lo, S, S0 L, h) (fun v1 G' h'' => v1 = v ∧ G' = S0 L ∧ h'' = h') := T_ret h1 h2 ⟨hv, rfl, hh⟩
theorem T_retB {L pc : Nat} {Lo : List Value} {h : AH} {x : Int32} {v : Option Int32} {h' : AH} (h1 : lk (ops j) pc = some (.inr (.inr 2))) (hx : x = 0 ∨ x = 1) (hv : some x = v) (hh : h = h') : T d j mc ms (pc, Lo, [.int x], S0 L, h) (fun v1 G' h'' => v1 = v ∧ G' = S0 L ∧ h'' = h') := T_ret (k := 2) (v := some x) h1 (by simp only [rets]; rw [if_pos hx]) ⟨hv, rfl, hh⟩
/-- tests, by what is known of their numbers -/
theorem T_ifP {st : St} {c P : Prop} [Decidable c] {t f : Nat} {L S : List Value} {G : List SC} {h : AH} (hs : stp j st = some (cond (decide c) t f, L, S, G, h)) (hc : c ↔ P) (kt : P → T d j mc ms (t, L, S, G, h) Q) (kf : ¬ P → T d j mc ms (f, L, S, G, h) Q) : T d j mc ms st Q :=
  T_if hs (fun q => kt (hc.mp q)) (fun q => kf (fun z => q (hc.mpr z)))
theorem T_iftP {st : St} {c P : Prop} [Decidable c] {t f : Nat} {L S : List Value} {G : List SC} {h : AH} (hs : stp j st = some (cond (decide c) t f, L, S, G, h)) (hc : c ↔ P) (hP : P) (kt : T d j mc ms (t, L, S, G, h) Q) : T d j mc ms st Q := T_ift hs (hc.mpr hP) kt
theorem T_iffP {st : St} {c P : Prop} [Decidable c] {t f : Nat} {L S : List Value} {G : List SC} {h : AH} (hs : stp j st = some (cond (decide c) t f, L, S, G, h)) (hc : c ↔ P) (hP : ¬ P) (kf : T d j mc ms (f, L, S, G, h) Q) : T d j mc ms st Q := T_iff hs (fun q => hP (hc.mp q)) kf
theorem T_ifne {st : St} {c : Prop} [Decidable c] {t f : Nat} {L S : List Value} {G : List SC} {h : AH} (hs : stp j st = some (cond (decide (¬ c)) t f, L, S, G, h)) (kt : ¬ c → T d j mc ms (t, L, S, G, h) Q) (kf : c → T d j mc ms (f, L, S, G, h) Q) : T d j mc ms st Q :=
  T_if hs kt (fun q => kf (Classical.not_not.mp q))
theorem T_ifneP {st : St} {c P : Prop} [Decidable c] {t f : Nat} {L S : List Value} {G : List SC} {h : AH} (hs : stp j st = some (cond (decide (¬ c)) t f, L, S, G, h)) (hc : c ↔ P) (kt : ¬ P → T d j mc ms (t, L, S, G, h) Q) (kf : P → T d j mc ms (f, L, S, G, h) Q) : T d j mc ms st Q :=
  T_ifne hs (fun q => kt (fun z => q (hc.mpr z))) (fun q => kf (hc.mp q))
theorem T_ifz {st : St} {P : Prop} [Decidable P] {t f : Nat} {L S : List Value} {G : List SC} {h : AH} (hs : stp j st = some (cond (decide (b2i P = 0)) t f, L, S, G, h)) (kt : ¬ P → T d j mc ms (t, L, S, G, h) Q) (kf : P → T d j mc ms (f, L, S, G, h) Q) : T d j mc ms st Q :=
  T_if hs (fun q => kt (b2i_0.mp q)) (fun q => kf (Classical.not_not.mp (fun z => q (b2i_0.mpr z))))
theorem T_ifnz {st : St} {P : Prop} [Decidable P] {t f : Nat} {L S : List Value} {G : List SC} {h : AH} (hs : stp j st = some (cond (decide (¬ b2i P = 0)) t f, L, S, G, h)) (kt : P → T d j mc ms (t, L, S, G, h) Q) (kf : ¬ P → T d j mc ms (f, L, S, G, h) Q) : T d j mc ms st Q :=
  T_if hs (fun q => kt (Classical.not_not.mp (fun z => q (b2i_0.mpr z)))) (fun q => kf (b2i_0.mp (Classical.not_not.mp q)))
theorem inb_nI {i : Int32} {n len : Nat} (hi : i = nI n) (hn : n < len) (hl : len < 2 ^ 31) : ¬ (i < 0 ∨ len ≤ i.toNatClampNeg) ∧ i.toNatClampNeg = n := by
  have h2 : i.toNatClampNeg = n := nI_lt31 hi (by omega)
  refine ⟨?_, h2⟩
  rw [h2]
  rintro (q | q)
  · rw [hi] at q
    exact nI_pos (by omega) q
  · omega
theorem T_ald {pc pc' a len n : Nat} {Lo S : List Value} {G : List SC} {h : AH} {i : Int32} {rs : List (Option Nat)} (h1 : lk (ops j) pc = some (.inl a_iald)) (hG : G[a]? = some (1, len, rs)) (hi : i = nI n) (hn : n < len) (hl : len < 2 ^ 31) (hp : pc + 1 = pc') (k : T d j mc ms (pc', Lo, .int (h a n) :: S, G, h) Q) : T d j mc ms (pc, Lo, .int i :: .ref a :: S, G, h) Q := by
  obtain ⟨h2, h3⟩ := inb_nI hi hn hl
  subst hp
  refine T_step (mc := mc) (ms := ms) (a := 0) (b := 0) h1 (st' := (pc + 1, Lo, .int (h a n) :: S, G, h)) ?_ k
  simp only [a_iald, hG]
  rw [if_neg h2, h3]
theorem T_aldE {pc pc' a len n : Nat} {Lo S : List Value} {G : List SC} {h : AH} {i v : Int32} {rs : List (Option Nat)} (h1 : lk (ops j) pc = some (.inl a_iald)) (hG : G[a]? = some (1, len, rs)) (hi : i = nI n) (hn : n < len) (hl : len < 2 ^ 31) (hp : pc + 1 = pc') (hv : h a n = v) (k : T d j mc ms (pc', Lo, .int v :: S, G, h) Q) : T d j mc ms (pc, Lo, .int i :: .ref a :: S, G, h) Q := by
  subst hv
  exact T_ald h1 hG hi hn hl hp k
theorem T_sld {pc pc' a len n : Nat} {Lo S : List Value} {G : List SC} {h : AH} {i : Int32} {rs : List (Option Nat)} (h1 : lk (ops j) pc = some (.inl a_iald)) (hG : G[a]? = some (4, len, rs)) (hi : i = nI n) (hn : n < len) (hl : len < 2 ^ 31) (hp : pc + 1 = pc') (k : T d j mc ms (pc', Lo, .int (h a n) :: S, G, h) Q) : T d j mc ms (pc, Lo, .int i :: .ref a :: S, G, h) Q := by
  obtain ⟨h2, h3⟩ := inb_nI hi hn hl
  subst hp
  refine T_step (mc := mc) (ms := ms) (a := 0) (b := 0) h1 (st' := (pc + 1, Lo, .int (h a n) :: S, G, h)) ?_ k
  simp only [a_iald, hG]
  rw [if_neg h2, h3]
theorem T_bald {pc pc' a len n : Nat} {Lo S : List Value} {G : List SC} {h : AH} {i : Int32} {rs : List (Option Nat)} (h1 : lk (ops j) pc = some (.inl a_bald)) (hG : G[a]? = some (2, len, rs)) (hi : i = nI n) (hn : n < len) (hl : len < 2 ^ 31) (hp : pc + 1 = pc') (k : T d j mc ms (pc', Lo, .int (h a n) :: S, G, h) Q) : T d j mc ms (pc, Lo, .int i :: .ref a :: S, G, h) Q := by
  obtain ⟨h2, h3⟩ := inb_nI hi hn hl
  subst hp
  refine T_step (mc := mc) (ms := ms) (a := 0) (b := 0) h1 (st' := (pc + 1, Lo, .int (h a n) :: S, G, h)) ?_ k
  simp only [a_bald, hG]
  rw [if_neg h2, h3]
theorem T_aald {pc pc' a len n b : Nat} {Lo S : List Value} {G : List SC} {h : AH} {i : Int32} {rs : List (Option Nat)} (h1 : lk (ops j) pc = some (.inl a_aald)) (hG : G[a]? = some (3, len, rs)) (hi : i = nI n) (hn : n < len) (hl : len < 2 ^ 31) (hp : pc + 1 = pc') (hb : rs[n]? = some (some b)) (k : T d j mc ms (pc', Lo, .ref b :: S, G, h) Q) : T d j mc ms (pc, Lo, .int i :: .ref a :: S, G, h) Q := by
  obtain ⟨h2, h3⟩ := inb_nI hi hn hl
  subst hp
  refine T_step (mc := mc) (ms := ms) (a := 0) (b := 0) h1 (st' := (pc + 1, Lo, .ref b :: S, G, h)) ?_ k
  simp only [a_aald, hG]
  rw [if_neg h2, h3, hb]
theorem T_ast {pc pc' a len n : Nat} {Lo S : List Value} {G : List SC} {h : AH} {i x : Int32} {rs : List (Option Nat)} (h1 : lk (ops j) pc = some (.inl a_iast)) (hG : G[a]? = some (1, len, rs)) (hi : i = nI n) (hn : n < len) (hl : len < 2 ^ 31) (hp : pc + 1 = pc') (k : T d j mc ms (pc', Lo, S, G, st_ h a n x) Q) : T d j mc ms (pc, Lo, .int x :: .int i :: .ref a :: S, G, h) Q := by
  obtain ⟨h2, h3⟩ := inb_nI hi hn hl
  subst hp
  refine T_step (mc := mc) (ms := ms) (a := 0) (b := 0) h1 (st' := (pc + 1, Lo, S, G, st_ h a n x)) ?_ k
  simp only [a_iast, hG]
  rw [if_neg h2, h3]
theorem T_bast {pc pc' a len n : Nat} {Lo S : List Value} {G : List SC} {h : AH} {i x : Int32} {rs : List (Option Nat)} (h1 : lk (ops j) pc = some (.inl a_bast)) (hG : G[a]? = some (2, len, rs)) (hi : i = nI n) (hn : n < len) (hl : len < 2 ^ 31) (hx : x = 0 ∨ x = 1) (hp : pc + 1 = pc') (k : T d j mc ms (pc', Lo, S, G, st_ h a n x) Q) : T d j mc ms (pc, Lo, .int x :: .int i :: .ref a :: S, G, h) Q := by
  obtain ⟨h2, h3⟩ := inb_nI hi hn hl
  subst hp
  refine T_step (mc := mc) (ms := ms) (a := 0) (b := 0) h1 (st' := (pc + 1, Lo, S, G, st_ h a n x)) ?_ k
  have h4 : ¬ ((i < 0 ∨ len ≤ i.toNatClampNeg) ∨ ¬ (x = 0 ∨ x = 1)) := by
    rintro (q | q)
    · exact h2 q
    · exact q hx
  simp only [a_bast, hG]
  rw [if_neg h4, h3]
theorem T_putZ {pc pc' a ci k0 : Nat} {Lo S : List Value} {G : List SC} {h : AH} {x : Int32} {rs : List (Option Nat)} (h1 : lk (ops j) pc = some (.inl (a_putZ ci k0))) (hG : G[a]? = some (0, ci, rs)) (hx : x = 0 ∨ x = 1) (hp : pc + 3 = pc') (k : T d j mc ms (pc', Lo, S, G, st_ h a k0 x) Q) : T d j mc ms (pc, Lo, .int x :: .ref a :: S, G, h) Q := by
  subst hp
  refine T_step (mc := mc) (ms := ms) (a := 0) (b := 0) h1 (st' := (pc + 3, Lo, S, G, st_ h a k0 x)) ?_ k
  simp only [a_putZ, hG, true_and]
  rw [if_pos hx]
theorem T_div {pc pc' : Nat} {Lo S : List Value} {G : List SC} {h : AH} {x y : Int32} (h1 : lk (ops j) pc = some (.inl a_div)) (hy : ¬ y = 0) (hp : pc + 1 = pc') (k : T d j mc ms (pc', Lo, .int (x / y) :: S, G, h) Q) : T d j mc ms (pc, Lo, .int y :: .int x :: S, G, h) Q := by
  subst hp
  refine T_step (mc := mc) (ms := ms) (a := 0) (b := 0) h1 (st' := (pc + 1, Lo, .int (x / y) :: S, G, h)) ?_ k
  simp only [a_div, if_neg hy]
theorem T_rem {pc pc' : Nat} {Lo S : List Value} {G : List SC} {h : AH} {x y : Int32} (h1 : lk (ops j) pc = some (.inl a_rem)) (hy : ¬ y = 0) (hp : pc + 1 = pc') (k : T d j mc ms (pc', Lo, .int (x - x / y * y) :: S, G, h) Q) : T d j mc ms (pc, Lo, .int y :: .int x :: S, G, h) Q := by
  subst hp
  refine T_step (mc := mc) (ms := ms) (a := 0) (b := 0) h1 (st' := (pc + 1, Lo, .int (x - x / y * y) :: S, G, h)) ?_ k
  simp only [a_rem, if_neg hy]
theorem T_ldiv {pc pc' : Nat} {Lo S : List Value} {G : List SC} {h : AH} {x y : Int64} (h1 : lk (ops j) pc = some (.inl a_ldiv)) (hy : ¬ y = 0) (hp : pc + 1 = pc') (k : T d j mc ms (pc', Lo, .long (x / y) :: S, G, h) Q) : T d j mc ms (pc, Lo, .long y :: .long x :: S, G, h) Q := by
  subst hp
  refine T_step (mc := mc) (ms := ms) (a := 0) (b := 0) h1 (st' := (pc + 1, Lo, .long (x / y) :: S, G, h)) ?_ k
  simp only [a_ldiv, if_neg hy]
theorem T_lrem {pc pc' : Nat} {Lo S : List Value} {G : List SC} {h : AH} {x y : Int64} (h1 : lk (ops j) pc = some (.inl a_lrem)) (hy : ¬ y = 0) (hp : pc + 1 = pc') (k : T d j mc ms (pc', Lo, .long (x - x / y * y) :: S, G, h) Q) : T d j mc ms (pc, Lo, .long y :: .long x :: S, G, h) Q := by
  subst hp
  refine T_step (mc := mc) (ms := ms) (a := 0) (b := 0) h1 (st' := (pc + 1, Lo, .long (x - x / y * y) :: S, G, h)) ?_ k
  simp only [a_lrem, if_neg hy]
theorem T_copy {pc pc' a b na nb sn dn nn : Nat} {Lo S : List Value} {G : List SC} {h : AH} {n sp dp : Int32} {ra rb : List (Option Nat)} (h1 : lk (ops j) pc = some (.inl a_copy)) (hA : G[a]? = some (1, na, ra)) (hB : G[b]? = some (1, nb, rb)) (h2 : n = nI nn) (h3 : sp = nI sn) (h4 : dp = nI dn) (h5 : sn + nn ≤ na) (h6 : dn + nn ≤ nb) (h7 : na < 2 ^ 31 ∧ nb < 2 ^ 31) (h8 : Nat.ble (S.map fun v => v.category).sum 8 = true) (hp : pc + 3 = pc')
    (k : T d j mc ms (pc', Lo, S, G, sc_ h b (va_cpy (h a) (h b) sn dn nn)) Q) : T d j mc ms (pc, Lo, .int n :: .int dp :: .ref b :: .int sp :: .ref a :: S, G, h) Q := by
  subst hp
  have h8 := Nat.le_of_ble_eq_true h8
  have e1 := nI_lt31 h2 (by omega)
  have e2 := nI_lt31 h3 (by omega)
  have e3 := nI_lt31 h4 (by omega)
  have p1 : ¬ n < 0 := by rw [h2]; exact nI_pos (by omega)
  have p2 : ¬ sp < 0 := by rw [h3]; exact nI_pos (by omega)
  have p3 : ¬ dp < 0 := by rw [h4]; exact nI_pos (by omega)
  refine T_step (mc := mc) (ms := ms) (a := 0) (b := 0) h1 (st' := (pc + 3, Lo, S, G, sc_ h b (va_cpy (h a) (h b) sn dn nn))) ?_ k
  simp only [a_copy, hA, hB, e1, e2, e3]
  rw [if_neg]
  rintro ((q | q | q) | (q | q) | q)
  · exact p1 q
  · exact p3 q
  · exact p2 q
  · omega
  · omega
  · omega
/-- a loop, counted up, with what is known on the way -/
theorem T_loopI (F : Nat → St) (I : Nat → Prop) (n : Nat) (h0 : I 0) (hb : ∀ k, k < n → I k → (I (k + 1) → T d j mc ms (F (k + 1)) Q) → T d j mc ms (F k) Q) (hx : I n → T d j mc ms (F n) Q) : T d j mc ms (F 0) Q := by
  have key : ∀ i, i ≤ n → I (n - i) → T d j mc ms (F (n - i)) Q := by
    intro i
    induction i with
    | zero => intro _ hi; exact hx hi
    | succ i ih =>
      intro hi hI
      refine hb (n - (i + 1)) (by omega) hI ?_
      rw [show n - (i + 1) + 1 = n - i by omega]
      exact ih (by omega)
  have := key n (Nat.le_refl n)
  rw [Nat.sub_self] at this
  exact this h0
/-- a loop by a measure -/
theorem T_loopM {σ : Type} (F : σ → St) (I : σ → Prop) (μ : σ → Nat) (hb : ∀ s, I s → (∀ s', μ s' < μ s → I s' → T d j mc ms (F s') Q) → T d j mc ms (F s) Q) : ∀ s, I s → T d j mc ms (F s) Q := by
  have key : ∀ n s, μ s < n → I s → T d j mc ms (F s) Q := by
    intro n
    induction n with
    | zero => intro s hs; omega
    | succ n ih =>
      intro s hs hI
      exact hb s hI (fun s' h1 h2 => ih s' (by omega) h2)
  intro s hI
  exact key (μ s + 1) s (by omega) hI
theorem T_tsw {pc lo : Nat} {ts : List Nat} {dd : Nat} {Lo S : List Value} {G : List SC} {h : AH} {x : Int32} (h1 : lk (ops j) pc = some (.inl (a_tsw lo ts dd))) (ht : ∀ i t, ts[i]? = some t → x = nI (lo + i) → T d j mc ms (t, Lo, S, G, h) Q) (hd : (∀ i, i < ts.length → ¬ x = nI (lo + i)) → T d j mc ms (dd, Lo, S, G, h) Q) (hlen : lo + ts.length < 2 ^ 31) : T d j mc ms (pc, Lo, .int x :: S, G, h) Q := by
  refine T_step (mc := mc) (ms := ms) (a := 0) (b := 0) h1 (st' := (tsw lo ts dd x, Lo, S, G, h)) rfl ?_
  unfold tsw
  by_cases q : x.toInt < (lo : Int) ∨ (lo : Int) + ts.length - 1 < x.toInt
  · rw [if_pos q]
    refine hd (fun i hi e => ?_)
    rw [e, nI_toInt (by omega)] at q
    omega
  · rw [if_neg q]
    have q1 : (lo : Int) ≤ x.toInt := Int.not_lt.mp (fun z => q (Or.inl z))
    have q2 : x.toInt ≤ (lo : Int) + ts.length - 1 := Int.not_lt.mp (fun z => q (Or.inr z))
    have hlt : (x.toInt - lo).toNat < ts.length := by omega
    refine ht (x.toInt - lo).toNat _ ?_ ?_
    · rw [List.getD_eq_getElem?_getD, List.getElem?_eq_getElem hlt]
      rfl
    · apply Int32.toInt_inj.mp
      rw [nI_toInt (by omega)]
      omega
theorem T_tswI {pc lo i t : Nat} {ts : List Nat} {dd : Nat} {Lo S : List Value} {G : List SC} {h : AH} {x : Int32} (h1 : lk (ops j) pc = some (.inl (a_tsw lo ts dd))) (hx : x = nI (lo + i)) (ht : ts[i]? = some t) (hlen : lo + ts.length < 2 ^ 31) (k : T d j mc ms (t, Lo, S, G, h) Q) : T d j mc ms (pc, Lo, .int x :: S, G, h) Q := by
  have hi : i < ts.length := (List.getElem?_eq_some_iff.mp ht).1
  refine T_tsw h1 (fun i' t' ht' e => ?_) (fun hn => absurd hx (hn i hi)) hlen
  rw [hx] at e
  have := (nI_eq (by omega) (by have := (List.getElem?_eq_some_iff.mp ht').1; omega)).mp e
  have e2 : i = i' := by omega
  subst e2
  rw [ht] at ht'
  cases ht'
  exact k
theorem T_tswD {pc lo : Nat} {ts : List Nat} {dd : Nat} {Lo S : List Value} {G : List SC} {h : AH} {x : Int32} (h1 : lk (ops j) pc = some (.inl (a_tsw lo ts dd))) (hx : ∀ i, i < ts.length → ¬ x = nI (lo + i)) (hlen : lo + ts.length < 2 ^ 31) (k : T d j mc ms (dd, Lo, S, G, h) Q) : T d j mc ms (pc, Lo, .int x :: S, G, h) Q :=
  T_tsw h1 (fun i' t' ht' e => absurd e (hx i' (List.getElem?_eq_some_iff.mp ht').1)) (fun _ => k) hlen
end TL

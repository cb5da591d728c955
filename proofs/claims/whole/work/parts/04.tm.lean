/-! THE SMALL MACHINE RUNS: T d j mc ms st Q: method j, now at st, comes to its end with Q, by calls at most d deep, making at most mc cells of ms places -/
abbrev Post : Type := Option Int32 → List SC → AH → Prop
def expA : List Value → List Value
  | [] => []
  | .long x :: r => .long x :: un_ :: expA r
  | .double x :: r => .double x :: un_ :: expA r
  | v :: r => v :: expA r
def entL (n : Nat) (args : List Value) : List Value := expA args ++ List.replicate (n - (expA args).length) un_
def entS (j : Nat) (args : List Value) (G : List SC) (h : AH) : St := (0, entL (mtJ j).2.2.1 args, [], G, h)
def rets (k : Nat) (S : List Value) : Option (Option Int32) := match k, S with
  | 0, [] => some none
  | 1, [.int v] => some (some v)
  | 2, [.int v] => if v = 0 ∨ v = 1 then some (some v) else none
  | _, _ => none
def pv (v : Option Int32) (S : List Value) : List Value := match v with
  | none => S
  | some x => .int x :: S
def lk : List (Nat × Op) → Nat → Option Op
  | [], _ => none
  | (k, o) :: r, pc => bif Nat.beq k pc then some o else lk r pc
/-- the receiver of a call, and the room for its arguments -/
def rcv (j n : Nat) (S : List Value) (G : List SC) : Bool := Nat.ble (expA (S.take n).reverse).length (mtJ j).2.2.1 && (match kJ j with
  | 0 => true
  | 1 => (match S[n - 1]? with
    | some (.ref _) => true
    | _ => false)
  | ci + 2 => (match S[n - 1]? with
    | some (.ref a) => (match G[a]? with
      | some (0, c, _) => Nat.beq c ci
      | _ => false)
    | _ => false))
def TT (Tc : Nat → Nat → Nat → St → Post → Prop) (j mc ms : Nat) (st : St) (Q : Post) : Prop :=
  ∀ P : Nat → Nat → St → Prop,
    (∀ mc ms pc L S G h k v, lk (ops j) pc = some (.inr (.inr k)) → rets k S = some v → Q v G h → P mc ms (pc, L, S, G, h)) →
    (∀ mc ms pc L S G h act st' a b, lk (ops j) pc = some (.inl act) → act pc L S G h = some (st', a, b) → P mc ms st' → P (mc + a) (ms + b) (pc, L, S, G, h)) →
    (∀ mc ms mc1 ms1 pc L S G h j' n Q1, lk (ops j) pc = some (.inr (.inl (j', n))) → n ≤ S.length → rcv j' n S G = true → ((S.drop n).map fun v => v.category).sum ≤ 8 → Tc j' mc1 ms1 (entS j' (S.take n).reverse G h) Q1 →
      (∀ v G' h', Q1 v G' h' → P mc ms (pc + 3, L, pv v (S.drop n), G', h')) → P (mc + mc1) (ms + ms1) (pc, L, S, G, h)) →
    (∀ mc ms pc L S G h i, P mc ms (pc, L.set i un_, S, G, h) → P mc ms (pc, L, S, G, h)) →
    P mc ms st
def T : Nat → Nat → Nat → Nat → St → Post → Prop
  | 0 => TT (fun _ _ _ _ _ => False)
  | d + 1 => TT (T d)
theorem TT_ret {Tc : Nat → Nat → Nat → St → Post → Prop} {j mc ms pc : Nat} {L S : List Value} {G : List SC} {h : AH} {Q : Post} {k : Nat} {v : Option Int32} (h1 : lk (ops j) pc = some (.inr (.inr k))) (h2 : rets k S = some v) (h3 : Q v G h) : TT Tc j mc ms (pc, L, S, G, h) Q :=
  fun _ r _ _ _ => r _ _ _ _ _ _ _ _ _ h1 h2 h3
theorem TT_step {Tc : Nat → Nat → Nat → St → Post → Prop} {j mc ms pc : Nat} {L S : List Value} {G : List SC} {h : AH} {Q : Post} {act : Act} {st' : St} {a b : Nat} (h1 : lk (ops j) pc = some (.inl act)) (h2 : act pc L S G h = some (st', a, b)) (k : TT Tc j mc ms st' Q) : TT Tc j (mc + a) (ms + b) (pc, L, S, G, h) Q :=
  fun P r s c f => s _ _ _ _ _ _ _ _ _ _ _ h1 h2 (k P r s c f)
theorem TT_call {Tc : Nat → Nat → Nat → St → Post → Prop} {j mc ms mc1 ms1 pc : Nat} {L S : List Value} {G : List SC} {h : AH} {Q Q1 : Post} {j' n : Nat} (h1 : lk (ops j) pc = some (.inr (.inl (j', n)))) (h2 : n ≤ S.length) (hrc : rcv j' n S G = true) (h3 : ((S.drop n).map fun v => v.category).sum ≤ 8) (hc : Tc j' mc1 ms1 (entS j' (S.take n).reverse G h) Q1)
    (k : ∀ v G' h', Q1 v G' h' → TT Tc j mc ms (pc + 3, L, pv v (S.drop n), G', h') Q) : TT Tc j (mc + mc1) (ms + ms1) (pc, L, S, G, h) Q :=
  fun P r s c f => c _ _ _ _ _ _ _ _ _ _ _ _ h1 h2 hrc h3 hc (fun v G' h' q => k v G' h' q P r s c f)
theorem TT_forget {Tc : Nat → Nat → Nat → St → Post → Prop} {j mc ms pc : Nat} {L S : List Value} {G : List SC} {h : AH} {Q : Post} (i : Nat) (k : TT Tc j mc ms (pc, L.set i un_, S, G, h) Q) : TT Tc j mc ms (pc, L, S, G, h) Q :=
  fun P r s c f => f _ _ _ _ _ _ _ i (k P r s c f)
theorem TT_mono {Tc Td : Nat → Nat → Nat → St → Post → Prop} (hT : ∀ j mc ms st Q, Tc j mc ms st Q → Td j mc ms st Q) {j mc ms : Nat} {st : St} {Q : Post} (h : TT Tc j mc ms st Q) : TT Td j mc ms st Q :=
  fun P r s c f => h P r s (fun mc ms mc1 ms1 pc L S G h j' n Q1 h1 h2 hrc h3 hc k => c mc ms mc1 ms1 pc L S G h j' n Q1 h1 h2 hrc h3 (hT _ _ _ _ _ hc) k) f
theorem T_up : ∀ {d : Nat} {j mc ms : Nat} {st : St} {Q : Post}, T d j mc ms st Q → T (d + 1) j mc ms st Q
  | 0, _, _, _, _, _, h => TT_mono (fun _ _ _ _ _ h => h.elim) h
  | _ + 1, _, _, _, _, _, h => TT_mono (fun _ _ _ _ _ h => T_up h) h
theorem T_le {d d' : Nat} (hd : d ≤ d') {j mc ms : Nat} {st : St} {Q : Post} (h : T d j mc ms st Q) : T d' j mc ms st Q := by
  obtain ⟨k, rfl⟩ := Nat.exists_eq_add_of_le hd
  induction k with
  | zero => exact h
  | succ k ih => exact T_up (ih (Nat.le_add_right _ _))
theorem T_ret {d j mc ms pc : Nat} {L S : List Value} {G : List SC} {h : AH} {Q : Post} {k : Nat} {v : Option Int32} (h1 : lk (ops j) pc = some (.inr (.inr k))) (h2 : rets k S = some v) (h3 : Q v G h) : T d j mc ms (pc, L, S, G, h) Q := by
  cases d <;> exact TT_ret h1 h2 h3
theorem T_step {d j mc ms pc : Nat} {L S : List Value} {G : List SC} {h : AH} {Q : Post} {act : Act} {st' : St} {a b : Nat} (h1 : lk (ops j) pc = some (.inl act)) (h2 : act pc L S G h = some (st', a, b)) (k : T d j mc ms st' Q) : T d j (mc + a) (ms + b) (pc, L, S, G, h) Q := by
  cases d <;> exact TT_step h1 h2 k
theorem T_call {d d' j mc ms mc1 ms1 pc : Nat} {L S : List Value} {G : List SC} {h : AH} {Q Q1 : Post} {j' n : Nat} (hd : d' ≤ d) (h1 : lk (ops j) pc = some (.inr (.inl (j', n)))) (h2 : n ≤ S.length) (hrc : rcv j' n S G = true) (h3 : ((S.drop n).map fun v => v.category).sum ≤ 8) (hc : T d' j' mc1 ms1 (entS j' (S.take n).reverse G h) Q1)
    (k : ∀ v G' h', Q1 v G' h' → T (d + 1) j mc ms (pc + 3, L, pv v (S.drop n), G', h') Q) : T (d + 1) j (mc + mc1) (ms + ms1) (pc, L, S, G, h) Q := TT_call h1 h2 hrc h3 (T_le hd hc) k
theorem T_forget {d j mc ms pc : Nat} {L L' S : List Value} {G : List SC} {h : AH} {Q : Post} (i : Nat) (e : L.set i un_ = L') (k : T d j mc ms (pc, L', S, G, h) Q) : T d j mc ms (pc, L, S, G, h) Q := by
  subst e
  cases d <;> exact TT_forget i k
theorem T_post {d j mc ms : Nat} {st : St} {Q Q' : Post} (hQ : ∀ v G h, Q v G h → Q' v G h) (h : T d j mc ms st Q) : T d j mc ms st Q' := by
  cases d <;> exact fun P r s c f => h P (fun _ _ _ _ _ _ _ _ _ a b q => r _ _ _ _ _ _ _ _ _ a b (hQ _ _ _ q)) s c f
/-- n plain steps -/
def stp (j : Nat) (st : St) : Option St := match lk (ops j) st.1 with
  | some (.inl act) => (match act st.1 st.2.1 st.2.2.1 st.2.2.2.1 st.2.2.2.2 with
    | some (st', 0, 0) => some st'
    | _ => none)
  | _ => none
def runA (j : Nat) : Nat → St → Option St
  | 0, st => some st
  | n + 1, st => match stp j st with
    | some st' => runA j n st'
    | none => none
theorem T_run {d j mc ms : Nat} {Q : Post} : ∀ (n : Nat) {st st' : St}, runA j n st = some st' → T d j mc ms st' Q → T d j mc ms st Q
  | 0, st, st', h, k => by
    cases h
    exact k
  | n + 1, st, st', h, k => by
    simp only [runA] at h
    split at h
    · rename_i s1 hs
      have k1 := T_run n h k
      obtain ⟨pc, L, S, G, hh⟩ := st
      simp only [stp] at hs
      split at hs
      · rename_i act h1
        split at hs
        · rename_i s2 h2
          cases hs
          exact T_step (a := 0) (b := 0) h1 h2 k1
        · cases hs
      · cases hs
    · cases h
theorem T_stp {d j mc ms : Nat} {Q : Post} {st st' : St} (h : stp j st = some st') (k : T d j mc ms st' Q) : T d j mc ms st Q := by
  refine T_run 1 (st' := st') ?_ k
  simp only [runA, h]
/-- a test: both ways -/
theorem T_if {d j mc ms : Nat} {Q : Post} {st : St} {c : Prop} [Decidable c] {t f : Nat} {L S : List Value} {G : List SC} {h : AH} (hs : stp j st = some (cond (decide c) t f, L, S, G, h)) (kt : c → T d j mc ms (t, L, S, G, h) Q) (kf : ¬ c → T d j mc ms (f, L, S, G, h) Q) : T d j mc ms st Q := by
  refine T_stp hs ?_
  by_cases hc : c
  · rw [decide_eq_true hc]; exact kt hc
  · rw [decide_eq_false hc]; exact kf hc
theorem T_ift {d j mc ms : Nat} {Q : Post} {st : St} {c : Prop} [Decidable c] {t f : Nat} {L S : List Value} {G : List SC} {h : AH} (hs : stp j st = some (cond (decide c) t f, L, S, G, h)) (hc : c) (kt : T d j mc ms (t, L, S, G, h) Q) : T d j mc ms st Q := by
  refine T_stp hs ?_
  rw [decide_eq_true hc]; exact kt
theorem T_iff {d j mc ms : Nat} {Q : Post} {st : St} {c : Prop} [Decidable c] {t f : Nat} {L S : List Value} {G : List SC} {h : AH} (hs : stp j st = some (cond (decide c) t f, L, S, G, h)) (hc : ¬ c) (kf : T d j mc ms (f, L, S, G, h) Q) : T d j mc ms st Q := by
  refine T_stp hs ?_
  rw [decide_eq_false hc]; exact kf
/-- a loop, counted up -/
theorem T_loop {d j mc ms : Nat} {Q : Post} (F : Nat → St) (n : Nat) (hb : ∀ k, k < n → T d j mc ms (F (k + 1)) Q → T d j mc ms (F k) Q) (hx : T d j mc ms (F n) Q) : T d j mc ms (F 0) Q := by
  have key : ∀ i, i ≤ n → T d j mc ms (F (n - i)) Q := by
    intro i
    induction i with
    | zero => intro _; exact hx
    | succ i ih =>
      intro hi
      have := ih (by omega)
      refine hb (n - (i + 1)) (by omega) ?_
      rw [show n - (i + 1) + 1 = n - i by omega]
      exact this
  have := key n (Nat.le_refl n)
  rw [Nat.sub_self] at this
  exact this

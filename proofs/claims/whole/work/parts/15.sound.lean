/-! THE WALK: T of the small machine gives W of the large one, and Met of every method -/
def SndR (j pc k : Nat) : Prop := (k = 0 ∧ decode (mtJ j).2.1 pc = .ok (.return_, 1) ∧ (mtJ j).2.2.2 = none) ∨ (k = 1 ∧ decode (mtJ j).2.1 pc = .ok (.ireturn, 1) ∧ (mtJ j).2.2.2 = some .int) ∨ (k = 2 ∧ decode (mtJ j).2.1 pc = .ok (.ireturn, 1) ∧ (mtJ j).2.2.2 = some .boolean)
def SndO (j pc : Nat) (o : Op) : Prop := match o with
  | .inl act => SndA j pc act
  | .inr (.inl (j', n)) => SndC j pc j' n ∧ MOk j'
  | .inr (.inr k) => SndR j pc k
theorem lk_mem : ∀ {l : List (Nat × Op)} {pc : Nat} {o : Op}, lk l pc = some o → (pc, o) ∈ l
  | [], _, _, h => by cases h
  | (k, o') :: r, pc, o, h => by
    simp only [lk] at h
    by_cases e : Nat.beq k pc = true
    · rw [e] at h
      have e2 := Nat.eq_of_beq_eq_true e
      cases h
      subst e2
      exact List.mem_cons_self
    · rw [Bool.not_eq_true] at e
      rw [e] at h
      exact List.mem_cons_of_mem _ (lk_mem h)
theorem pv_map (E : Ev) (v : Option Int32) (S : List Value) : (pv v S).map (cv E) = (v.map Value.int).toList ++ S.map (cv E) := by
  cases v <;> rfl
def SndAll : Prop := ∀ j pc o, lk (ops j) pc = some o → SndO j pc o
abbrev MetJ (l : Launch) (E : Ev) (d j mc ms : Nat) (args : List Value) (G : List SC) (h : AH) (Q : Post) : Prop := Met l (mtJ j).1 (wsJ j) (rmD d mc ms) (PcS E args G h) (QcS E Q) mc ms (fun q => evB E ≤ q)
theorem walkT (A : SndAll) {E : Ev} {p : Program} {l : Launch} {e : Env} {R : Room} {s : State} {m : MethodId} {args : Array Value} {below : List Frame} {meth : Method} {c : Code} {j d mc ms MC MS : Nat} {st : St} {Q : Post} {QW : State → Prop} {Tc : Nat → Nat → Nat → St → Post → Prop} (C0 : Cx E j p R s m args meth c) (hMC : MC ≤ R.cells) (hMS : MS ≤ R.slots) (hF : d + 1 ≤ R.frames) (hLo : 100 * (d + 1) ≤ R.locals)
    (hcal : ∀ j' mc1 ms1 as G h Q1, MOk j' → (expA as).length ≤ (mtJ j').2.2.1 → Tc j' mc1 ms1 (entS j' as G h) Q1 → ∃ d', d' + 1 ≤ d ∧ MetJ l E d' j' mc1 ms1 as G h Q1)
    (hret : ∀ pc k v S G h H locs cells slots ls, SndR j pc k → rets k S = some v → Q v G h → CN E G h H → FS E s.heap H locs → cells ≤ MC → slots ≤ MS → W p l e R s m args below meth c H locs cells slots QW (F0 m pc ls (S.map (cv E))))
    (hT : TT Tc j mc ms st Q) : ∀ (H : Heap) (locs : List Loc) (cells slots : Nat) (ls : Array Slot), CN E st.2.2.2.1 st.2.2.2.2 H → FS E s.heap H locs → LV E ls (mtJ j).2.2.1 st.2.1 → cells + mc ≤ MC → slots + ms ≤ MS → W p l e R s m args below meth c H locs cells slots QW (F0 m st.1 ls (st.2.2.1.map (cv E))) := by
  refine hT (fun mc ms st => ∀ (H : Heap) (locs : List Loc) (cells slots : Nat) (ls : Array Slot), CN E st.2.2.2.1 st.2.2.2.2 H → FS E s.heap H locs → LV E ls (mtJ j).2.2.1 st.2.1 → cells + mc ≤ MC → slots + ms ≤ MS → W p l e R s m args below meth c H locs cells slots QW (F0 m st.1 ls (st.2.2.1.map (cv E)))) ?_ ?_ ?_ ?_
  · intro mc ms pc L S G h k v h1 h2 h3 H locs cells slots ls hN hS hL hc hs
    exact hret pc k v S G h H locs cells slots ls (A j pc _ h1) h2 h3 hN hS (by omega) (by omega)
  · intro mc ms pc L S G h act st' a b h1 h2 ih H locs cells slots ls hN hS hL hc hs
    exact (A j pc _ h1) E p l e R s m args below meth c H locs cells slots QW ls L S G h st' a b C0 h2 hN hS hL (by omega) (by omega) (fun H' locs' ls' hN' hS' hL' => ih H' locs' (cells + a) (slots + b) ls' hN' hS' hL' (by omega) (by omega))
  · intro mc ms mc1 ms1 pc L S G h j' n Q1 h1 h2 hrc h3 hc1 ih H locs cells slots ls hN hS hL hc hs
    obtain ⟨hC, hM⟩ := A j pc _ h1
    have hlen : (expA (S.take n).reverse).length ≤ (mtJ j').2.2.1 := by
      simp only [rcv, Bool.and_eq_true] at hrc
      exact Nat.le_of_ble_eq_true hrc.1
    obtain ⟨d', hd', hMet⟩ := hcal j' mc1 ms1 _ G h Q1 hM hlen hc1
    refine callW (hC E p l e R s m args below meth c H locs cells slots ls L S G h d' mc1 ms1 Q1 C0 hMet h2 hrc h3 hN hS hL (by omega) (by omega) (by omega) (by omega)) hS (fun v G' h' H' locs' q hN' hS' => ?_)
    have := ih v G' h' q H' locs' (cells + mc1) (slots + ms1) ls hN' hS' hL (by omega) (by omega)
    simp only at this
    rw [pv_map] at this
    exact this
  · intro mc ms pc L S G h i ih H locs cells slots ls hN hS hL hc hs
    refine ih H locs cells slots ls hN hS ⟨⟨hL.1.1, hL.1.2.1, fun q hq => hL.1.2.2 q ?_⟩, by rw [List.length_set]; exact hL.2⟩ hc hs
    obtain ⟨v, h1, h2, h3⟩ := lvl_mem.mp hq
    refine lvl_mem.mpr ⟨v, ?_, h2, h3⟩
    by_cases e : q.1 = i
    · by_cases hi : i < L.length
      · rw [e, List.getElem?_set_self hi] at h1
        cases h1
        cases h2
      · rw [List.set_eq_of_length_le (by omega)] at h1
        exact h1
    · rwa [List.getElem?_set_ne (Ne.symm e)] at h1
theorem entry_LV {E : Ev} {as : List Value} {n : Nat} (hn : (expA as).length ≤ n) : ∃ ls, LV E ls n (entL n as) ∧ ∀ m : MethodId, entryFrame m (as.map (cv E)).toArray n = F0 m 0 ls [] := by
  have hlen : ∀ as : List Value, (lg_sl (as.map (cv E))).length = (expA as).length := by
    intro as
    induction as with
    | nil => rfl
    | cons v r ih =>
      have e : lg_sl ((v :: r).map (cv E)) = (if (cv E v).category = 2 then [.val (cv E v), .second] else [.val (cv E v)]) ++ lg_sl (r.map (cv E)) := rfl
      rw [e, List.length_append, ih, cv_cat]
      cases v <;> simp [expA, Value.category] <;> omega
  refine ⟨_, ⟨?_, ?_⟩, fun m => lg_entry_eq m (as.map (cv E)) n⟩
  · have h0 := lv_entry (as.map (cv E)) (n := n) (by rw [hlen]; exact hn)
    refine ⟨h0.1, h0.2.1, fun q hq => h0.2.2 q ?_⟩
    have key : ∀ (as : List Value) (i k : Nat) (v : Value), (expA as ++ List.replicate k un_)[i]? = some v → isSet v = true → ∀ b, (b + i, cv E v) ∈ lv_args b (as.map (cv E)) := by
      intro as
      induction as with
      | nil =>
        intro i k v h1 h2 b
        simp only [expA, List.nil_append, List.getElem?_replicate] at h1
        split at h1
        · cases h1; cases h2
        · cases h1
      | cons w r ih =>
        intro i k v h1 h2 b
        have e : lv_args b ((w :: r).map (cv E)) = (b, cv E w) :: lv_args (if (cv E w).category = 2 then b + 2 else b + 1) (r.map (cv E)) := rfl
        rw [e, cv_cat]
        by_cases hw : w.category = 2
        · rw [if_pos hw]
          have e2 : expA (w :: r) = w :: un_ :: expA r := by
            cases w <;> first | rfl | (simp [Value.category] at hw)
          rw [e2] at h1
          match i, h1 with
          | 0, h1 =>
            simp only [List.cons_append, List.getElem?_cons_zero, Option.some.injEq] at h1
            subst h1
            exact List.mem_cons_self
          | 1, h1 =>
            simp only [List.cons_append, List.getElem?_cons_succ, List.getElem?_cons_zero, Option.some.injEq] at h1
            subst h1
            cases h2
          | i + 2, h1 =>
            simp only [List.cons_append, List.getElem?_cons_succ] at h1
            have := ih i k v h1 h2 (b + 2)
            rw [show b + (i + 2) = b + 2 + i by omega]
            exact List.mem_cons_of_mem _ this
        · rw [if_neg hw]
          have e2 : expA (w :: r) = w :: expA r := by
            cases w <;> first | rfl | (simp [Value.category] at hw)
          rw [e2] at h1
          match i, h1 with
          | 0, h1 =>
            simp only [List.cons_append, List.getElem?_cons_zero, Option.some.injEq] at h1
            subst h1
            exact List.mem_cons_self
          | i + 1, h1 =>
            simp only [List.cons_append, List.getElem?_cons_succ] at h1
            have := ih i k v h1 h2 (b + 1)
            rw [show b + (i + 1) = b + 1 + i by omega]
            exact List.mem_cons_of_mem _ this
    obtain ⟨v, h1, h2, h3⟩ := lvl_mem.mp hq
    have := key as q.1 _ v h1 h2 0
    rw [Nat.zero_add, ← h3] at this
    exact this
  · simp only [entL, List.length_append, List.length_replicate]
    omega
theorem metJ1 (A : SndAll) (l : Launch) (E : Ev) {d j mc ms : Nat} {as : List Value} {G : List SC} {h : AH} {Q : Post} {Tc : Nat → Nat → Nat → St → Post → Prop} (M : MOk j) (hlen : (expA as).length ≤ (mtJ j).2.2.1)
    (hcal : ∀ j' mc1 ms1 as G h Q1, MOk j' → (expA as).length ≤ (mtJ j').2.2.1 → Tc j' mc1 ms1 (entS j' as G h) Q1 → ∃ d', d' + 1 ≤ d ∧ MetJ l E d' j' mc1 ms1 as G h Q1) (hT : TT Tc j mc ms (entS j as G h) Q) : MetJ l E d j mc ms as G h Q := by
  refine Met.ofW (cc := (mtJ j).2.1) (maxL := (mtJ j).2.2.1) (ret := (mtJ j).2.2.2) M.2.2.2.1 rfl ?_
  intro p e s m args below meth c s₁ B hml hv
  obtain ⟨rfl, hN, hK, hB⟩ := hv
  have hx := B.exec
  have hb := B.bytes
  have hr := B.returns
  have hts0 := atoms_spec (ws := wsJ j) B.pre
  have hts : ∀ w ∈ wsG, w.before (as.map (cv E)).toArray s = true := fun w hw => hts0 w (List.mem_cons_of_mem _ hw)
  have hown : s.vm.findClass (mtJ j).1.cls = some m.cls := findClass_of_methodNamed B.named
  have hlocks := B.notSynchronized
  have hin : meth.name = (mtJ j).1.name := (name_of_methodNamed B.named B.method).1
  have C0 : Cx E j p (rmD d mc ms) s m (as.map (cv E)).toArray meth c := ⟨hx, hb, hml, hown, hts, hK, hB, ⟨by show 1 ≤ d + 1; omega, by show 100 ≤ 100 * (d + 1); omega⟩, fun h => hin.trans h⟩
  obtain ⟨ls, hL, hent⟩ := entry_LV (E := E) hlen
  rw [hent m]
  refine walkT A (MC := mc) (MS := ms) C0 (Nat.le_refl _) (Nat.le_refl _) (Nat.le_refl _) (Nat.le_refl _) hcal ?_ hT s.heap [] 0 0 ls hN va_S.rf hL (by omega) (by omega)
  intro pc k v S G' h' H locs cells slots ls hR hv hq hN' hS hc hs
  refine W.widen (k := mc) (n := ms) hc hs ?_
  have post : ∀ t : State, t.heap = H → s.WarmedH t.vm → QcS E Q (as.map (cv E)).toArray s (.returned (v.map Value.int)) t := fun t ht hW => ⟨⟨v, G', h', rfl, hq, by rw [ht]; exact hN', hK.warm hW⟩, hS.F ht⟩
  rcases hR with ⟨rfl, hd, h4⟩ | ⟨rfl, hd, h4⟩ | ⟨rfl, hd, h4⟩
  · match S, hv with
    | [], hv =>
      cases hv
      exact W.vret hx hb (by rw [hr]; exact h4) post hS.2.2 hd
  · match S, hv with
    | [.int x], hv =>
      cases hv
      exact W.iret hx hb (by rw [hr]; exact h4) post hS.2.2 hd
  · match S, hv with
    | [.int x], hv =>
      simp only [rets] at hv
      split at hv
      · rename_i hx01
        cases hv
        exact W.zret (ty := .boolean) hx hb (by rw [hr]; exact h4) (by rcases hx01 with rfl | rfl <;> rfl) post hS.2.2 hd
      · cases hv
theorem metJ (A : SndAll) (l : Launch) (E : Ev) : ∀ (d j mc ms : Nat) (as : List Value) (G : List SC) (h : AH) (Q : Post), MOk j → (expA as).length ≤ (mtJ j).2.2.1 → T d j mc ms (entS j as G h) Q → MetJ l E d j mc ms as G h Q := by
  intro d
  induction d with
  | zero =>
    intro j mc ms as G h Q M hlen hT
    exact metJ1 A l E (Tc := fun _ _ _ _ _ => False) M hlen (fun _ _ _ _ _ _ _ _ _ hc => hc.elim) hT
  | succ d ih =>
    intro j mc ms as G h Q M hlen hT
    exact metJ1 A l E (Tc := T d) M hlen (fun j' mc1 ms1 as G h Q1 M1 hl hc => ⟨d, Nat.le_refl _, ih j' mc1 ms1 as G h Q1 M1 hl hc⟩) hT

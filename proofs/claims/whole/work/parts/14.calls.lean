/-! CALLS, AND THE WHOLE: what the small machine does, the large one does -/
def wsJ (j : Nat) : List Cond := Cond.code (mtJ j).1 (mtJ j).2.1 (mtJ j).2.2.1 (mtJ j).2.2.2 :: wsG
abbrev rmD (d mc ms : Nat) : Room := { frames := d + 1, cells := mc, slots := ms, locals := 100 * (d + 1) }
def MOk (j : Nat) : Prop := Cond.code (mtJ j).1 (mtJ j).2.1 (mtJ j).2.2.1 (mtJ j).2.2.2 ∈ wsG ∧ Cond.initialized (mtJ j).1.cls ∈ wsG ∧ ((mtJ j).1.cls ≠ "java/lang/invoke/MethodHandle" ∧ (mtJ j).1.cls ≠ "java/lang/invoke/VarHandle") ∧ plainName (mtJ j).1.cls = true ∧ (mtJ j).2.2.1 ≤ 60
theorem wsJ_good {j : Nat} (h : MOk j) : GoodIn wsG (wsJ j) := by
  intro w hw
  rcases List.mem_cons.mp hw with e | e
  · rw [e]; exact wsG_good _ h.1
  · exact wsG_good _ e
def PcS (E : Ev) (args : List Value) (G : List SC) (h : AH) : Array Value → State → Prop := va_Pc (args.map (cv E)) (fun U => CN E G h U.heap ∧ KN E U ∧ evB E ≤ U.heap.size)
def QcS (E : Ev) (Q : Post) : Array Value → State → Outcome → State → Prop := fun _ st o t => (∃ v G' h', o = .returned (v.map Value.int) ∧ Q v G' h' ∧ CN E G' h' t.heap ∧ KN E t) ∧ va_F (fun q => evB E ≤ q) st t
theorem PcS_blind (E : Ev) (args : List Value) (G : List SC) (h : AH) : FrameBlind (PcS E args G h) := by
  intro a U g mk q
  obtain ⟨h1, h2, h3, h4⟩ := q
  exact ⟨h1, h2, KN.same (s := U) (U := U.calling g mk a) rfl h3, h4⟩
section CC
variable {p : Program} {l : Launch} {e : Env} {R : Room} {s : State} {m : MethodId} {args : Array Value} {below : List Frame} {meth : Method} {c : Code} {H : Heap} {locs : List Loc} {cells slots : Nat} {Q : State → Prop}
theorem callW {E : Ev} {Q1 : Post} {pc mc ms : Nat} {ls : Array Slot} {st0 rest : List Value} {a : Array Value} (hr : va_Run p l e R s m args below meth c H locs cells slots mc ms (F0 m pc ls st0) rest (QcS E Q1 a) (fun q => evB E ≤ q)) (hS : FS E s.heap H locs)
    (kk : ∀ v G' h' H' locs', Q1 v G' h' → CN E G' h' H' → FS E s.heap H' locs' → W p l e R s m args below meth c H' locs' (cells + mc) (slots + ms) Q (F0 m (pc + 3) ls ((v.map Value.int).toList ++ rest))) : W p l e R s m args below meth c H locs cells slots Q (F0 m pc ls st0) := by
  intro T hT X
  obtain ⟨v, st₀, t, T', L, h0, X', hL, e1, e2, ⟨⟨v', G', h', hv, hq, hN, hK⟩, hz, hk⟩, st⟩ := hr T hT X
  cases hv
  rw [h0] at hz hk
  rw [← e1] at hN hz hk
  obtain ⟨t2, a1, b1⟩ := kk v' G' h' T'.heap (locs ++ L) hq hN ⟨Nat.le_trans hS.1 hz, fun q h1 h2 => by rw [hk q (Nat.lt_of_lt_of_le h1 hS.1) h2]; exact hS.2.1 q h1 h2, fun q hq => by
      rcases List.mem_append.mp hq with h | h
      · exact hS.2.2 q h
      · exact hL q h⟩ T' rfl X'
  exact ⟨t2, st t2 a1, b1⟩
end CC
def SndC (j pc j' n : Nat) : Prop := ∀ (E : Ev) (p : Program) (l : Launch) (e : Env) (R : Room) (s : State) (m : MethodId) (args : Array Value) (below : List Frame) (meth : Method) (c : Code) (H : Heap) (locs : List Loc) (cells slots : Nat) (ls : Array Slot) (L S : List Value) (G : List SC) (h : AH) (d mc ms : Nat) (Q1 : Post),
  Cx E j p R s m args meth c → Met l (mtJ j').1 (wsJ j') (rmD d mc ms) (PcS E (S.take n).reverse G h) (QcS E Q1) mc ms (fun q => evB E ≤ q) → n ≤ S.length → rcv j' n S G = true → ((S.drop n).map fun v => v.category).sum ≤ 8 → CN E G h H → FS E s.heap H locs → LV E ls (mtJ j).2.2.1 L →
  d + 2 ≤ R.frames → 100 * (d + 2) ≤ R.locals → cells + mc ≤ R.cells → slots + ms ≤ R.slots →
  va_Run p l e R s m args below meth c H locs cells slots mc ms (F0 m pc ls (S.map (cv E))) ((S.drop n).map (cv E)) (QcS E Q1 ((S.take n).reverse.map (cv E)).toArray) (fun q => evB E ≤ q)
theorem cat_sum (E : Ev) (S : List Value) : ((S.map (cv E)).map fun v => v.category).sum = (S.map fun v => v.category).sum := by
  rw [List.map_map]
  congr 1
  apply List.map_congr_left
  intro v _
  exact cv_cat E v
/-- the arguments with their receiver first -/
theorem rcv_split {S : List Value} {n a : Nat} (hn : n + 1 ≤ S.length) (ha : S[n + 1 - 1]? = some (.ref a)) : ∃ As : List Value, (S.take (n + 1)).reverse = .ref a :: As ∧ As.length = n ∧ S = As.reverse ++ .ref a :: S.drop (n + 1) := by
  rw [Nat.add_sub_cancel] at ha
  refine ⟨(S.take n).reverse, ?_, by rw [List.length_reverse, List.length_take]; omega, ?_⟩
  · rw [List.take_succ, ha]
    simp
  · rw [List.reverse_reverse]
    have hlt : n < S.length := by omega
    have : S[n] = .ref a := by
      have := List.getElem?_eq_getElem hlt
      rw [this] at ha
      exact Option.some.inj ha
    rw [← this, List.getElem_cons_drop, List.take_append_drop]
theorem s_callV {j pc j' n ci idx : Nat} {C : String} {T : u_T} {N : Nat} (hci : cls[ci]? = some (C, T, N)) (M : MOk j') (hk : kJ j' = ci + 2) (hC : (mtJ j').1.cls = C) (hd : decode (mtJ j).2.1 pc = .ok (.invokevirtual idx, 3)) {own : String} (ho : (mtJ j).1.cls = own)
    (hw1 : Cond.methodLink own idx (mtJ j').1 ∈ wsG) (hw2 : Cond.instanceMethod (mtJ j').1 ∈ wsG) (hw3 : Cond.selects C (mtJ j').1 (mtJ j').1 ∈ wsG) (hw4 : Cond.initialized C ∈ wsG) (hn : (parseMethodDescriptor (mtJ j').1.desc).map (fun d => d.parameters.length) = some n) : SndC j pc j' (n + 1) := by
  intro E p l e R s m args below meth c H locs cells slots ls L S G h d mc ms Q1 C0 hM hlen hrc h8 hN hS hL hR1 hR2 hc hs
  obtain ⟨hx, hb, hml, hown, hts, hK, -⟩ := C0
  rw [ho] at hown
  simp only [rcv, hk, Bool.and_eq_true] at hrc
  obtain ⟨-, hrc⟩ := hrc
  split at hrc
  · rename_i a0 ha0
    split at hrc
    · rename_i _ c0 rs hG
      have hcc := Nat.eq_of_beq_eq_true hrc
      subst hcc
      obtain ⟨As, e1, e2, e3⟩ := rcv_split hlen ha0
      obtain ⟨r, h1, cell, q1, q2, q3, q4⟩ := hN.2.2.2 a0 _ hG
      have hr : r = (C, T, N) := Option.some.inj (h1.symm.trans hci)
      have cw : CallW R s args own C idx (mtJ j').1 (mtJ j').2.1 (mtJ j').2.2.1 (mtJ j').2.2.2 (wsJ j') (rmD d mc ms) mc ms n := by
        refine cwV n hts ?_ rfl rfl rfl ⟨hC, M.2.2.1.1, M.2.2.1.2, hn⟩ ⟨hR1, by have := M.2.2.2.2; show 8 + ((mtJ j').2.2.1 + 11) + 100 * (d + 1) ≤ _; omega⟩
        intro w hw
        rcases List.mem_append.mp hw with h | h
        · simp only [List.mem_cons, List.not_mem_nil, or_false] at h
          rcases h with rfl | rfl | rfl | rfl
          · exact wsG_good _ hw1
          · exact wsG_good _ hw2
          · exact wsG_good _ hw3
          · exact wsG_good _ hw4
        · exact wsJ_good M w h
      rw [e1] at hM ⊢
      have hst : S.map (cv E) = (As.map (cv E)).reverse ++ .ref (ad E a0) :: (S.drop (n + 1)).map (cv E) := by
        rw [← List.map_reverse]
        conv => lhs; rw [e3]
        rw [List.map_append]
        rfl
      refine va_runV (b := ad E a0) (As := As.map (cv E)) (cc := (mtJ j).2.1) (nL := (mtJ j).2.2.1) (Ts := wsG) ⟨hx, hb, hml, hown, hts⟩ hM cw ⟨PcS_blind _ _ _ _, ⟨cell, q1, by rw [q3]; rfl, ?_⟩, fun U hU hW => ⟨rfl, by rw [hU]; exact hN, hK.warm hW, ?_⟩⟩ rfl (by rw [List.length_map]; exact e2) hL.1.1 hst ?_ hd ⟨hc, hs⟩
      · rw [q2]
        exact (hK.1.1 c0 _ hci).2.1
      · rw [hU]
        have := hN.1
        have h0 : 0 < G.length := (List.getElem?_eq_some_iff.mp hN.2.2.1.choose_spec).1
        omega
      · rw [cat_sum]
        show 2 * 0 + _ ≤ _
        omega
    · cases hrc
  · cases hrc
theorem heap_base {E : Ev} {G : List SC} {h : AH} {H : Heap} (hN : CN E G h H) : evB E ≤ H.size := by
  have := hN.1
  have h0 : 0 < G.length := (List.getElem?_eq_some_iff.mp hN.2.2.1.choose_spec).1
  omega
theorem s_callS {j pc j' n idx : Nat} (M : MOk j') (hk : kJ j' = 0) (hd : decode (mtJ j).2.1 pc = .ok (.invokestatic idx, 3)) {own : String} (ho : (mtJ j).1.cls = own)
    (hw1 : Cond.methodLink own idx (mtJ j').1 ∈ wsG) (hw2 : Cond.static (mtJ j').1 ∈ wsG) (hn : (parseMethodDescriptor (mtJ j').1.desc).map (fun d => d.parameters.length) = some n) : SndC j pc j' n := by
  intro E p l e R s m args below meth c H locs cells slots ls L S G h d mc ms Q1 C0 hM hlen hrc h8 hN hS hL hR1 hR2 hc hs
  obtain ⟨hx, hb, hml, hown, hts, hK, -⟩ := C0
  rw [ho] at hown
  have cw : CallB R s args own idx (mtJ j').1 (mtJ j').2.1 (mtJ j').2.2.1 (mtJ j').2.2.2 (wsJ j') (rmD d mc ms) mc ms n ∧ (Cond.static (mtJ j').1).before args s = true := by
    refine va_cwS n hts ?_ rfl rfl rfl ⟨M.2.2.1.1, M.2.2.1.2, hn⟩ ⟨hR1, by have := M.2.2.2.2; show 8 + ((mtJ j').2.2.1 + 11) + 100 * (d + 1) ≤ _; omega⟩
    intro w hw
    rcases List.mem_append.mp hw with h | h
    · simp only [List.mem_cons, List.not_mem_nil, or_false] at h
      rcases h with rfl | rfl | rfl
      · exact wsG_good _ hw1
      · exact wsG_good _ hw2
      · exact wsG_good _ M.2.1
    · exact wsJ_good M w h
  have hst : S.map (cv E) = ((S.take n).reverse.map (cv E)).reverse ++ (S.drop n).map (cv E) := by
    rw [List.map_reverse, List.reverse_reverse, ← List.map_append, List.take_append_drop]
  refine va_runS (As := (S.take n).reverse.map (cv E)) (cc := (mtJ j).2.1) (nL := (mtJ j).2.2.1) (Ts := wsG) ⟨hx, hb, hml, hown, hts⟩ hM cw ⟨PcS_blind _ _ _ _, fun U hU hW => ⟨rfl, by rw [hU]; exact hN, hK.warm hW, by rw [hU]; exact heap_base hN⟩⟩ rfl (by rw [List.length_map, List.length_reverse, List.length_take]; omega) hL.1.1 hst ?_ hd ⟨hc, hs⟩
  rw [cat_sum]
  show 2 * 0 + _ ≤ _
  omega
theorem s_callI {j pc j' n idx : Nat} (M : MOk j') (hk : kJ j' = 1) (hr : (mtJ j').2.2.2 = none) (hi : (mtJ j').1.name = "<init>") (hd : decode (mtJ j).2.1 pc = .ok (.invokespecial idx, 3)) {own : String} (ho : (mtJ j).1.cls = own)
    (hw1 : Cond.methodLink own idx (mtJ j').1 ∈ wsG) (hw2 : Cond.instanceMethod (mtJ j').1 ∈ wsG) (hn : (parseMethodDescriptor (mtJ j').1.desc).map (fun d => d.parameters.length) = some n) : SndC j pc j' (n + 1) := by
  intro E p l e R s m args below meth c H locs cells slots ls L S G h d mc ms Q1 C0 hM hlen hrc h8 hN hS hL hR1 hR2 hc hs
  obtain ⟨hx, hb, hml, hown, hts, hK, -⟩ := C0
  rw [ho] at hown
  simp only [rcv, hk, Bool.and_eq_true] at hrc
  obtain ⟨-, hrc⟩ := hrc
  split at hrc
  · rename_i a0 ha0
    obtain ⟨As, e1, e2, e3⟩ := rcv_split hlen ha0
    have hws : wsJ j' = Cond.code (mtJ j').1 (mtJ j').2.1 (mtJ j').2.2.1 none :: wsG := by rw [wsJ, hr]
    have cw : CallB R s args own idx (mtJ j').1 (mtJ j').2.1 (mtJ j').2.2.1 none (wsJ j') (rmD d mc ms) mc ms n ∧ (mtJ j').1.name = "<init>" ∧ (Cond.instanceMethod (mtJ j').1).before args s = true :=
      cwI n hts (wsJ_good M) hws rfl rfl (hts _ M.2.1) (hts _ hw1) (hts _ hw2) hi ⟨M.2.2.1.1, M.2.2.1.2, hn⟩ ⟨hR1, by have := M.2.2.2.2; show 8 + ((mtJ j').2.2.1 + 11) + 100 * (d + 1) ≤ _; omega⟩
    rw [e1] at hM ⊢
    have hst : S.map (cv E) = (As.map (cv E)).reverse ++ .ref (ad E a0) :: (S.drop (n + 1)).map (cv E) := by
      rw [← List.map_reverse]
      conv => lhs; rw [e3]
      rw [List.map_append]
      rfl
    refine va_runI (b := ad E a0) (As := As.map (cv E)) (cc := (mtJ j).2.1) (nL := (mtJ j).2.2.1) (Ts := wsG) ⟨hx, hb, hml, hown, hts⟩ hM cw ⟨PcS_blind _ _ _ _, fun U hU hW => ⟨rfl, by rw [hU]; exact hN, hK.warm hW, by rw [hU]; exact heap_base hN⟩⟩ rfl (by rw [List.length_map]; exact e2) hL.1.1 hst ?_ hd ⟨hc, hs⟩
    rw [cat_sum]
    show 2 * 0 + _ ≤ _
    omega
  · cases hrc
theorem s_callIN {j pc j' n idx : Nat} {host : String} (M : MOk j') (hk : kJ j' = 1) (hr : (mtJ j').2.2.2 = none) (hi : (mtJ j').1.name = "<init>") (hd : decode (mtJ j).2.1 pc = .ok (.invokespecial idx, 3)) {own : String} (ho : (mtJ j).1.cls = own)
    (hw1 : Cond.methodLinkNest own idx (mtJ j').1 host ∈ nst) (hw2 : Cond.instanceMethod (mtJ j').1 ∈ wsG) (hn : (parseMethodDescriptor (mtJ j').1.desc).map (fun d => d.parameters.length) = some n) : SndC j pc j' (n + 1) := by
  intro E p l e R s m args below meth c H locs cells slots ls L S G h d mc ms Q1 C0 hM hlen hrc h8 hN hS hL hR1 hR2 hc hs
  obtain ⟨hx, hb, hml, hown, hts, hK, -⟩ := C0
  rw [ho] at hown
  simp only [rcv, hk, Bool.and_eq_true] at hrc
  obtain ⟨-, hrc⟩ := hrc
  split at hrc
  · rename_i a0 ha0
    obtain ⟨As, e1, e2, e3⟩ := rcv_split hlen ha0
    have hws : wsJ j' = Cond.code (mtJ j').1 (mtJ j').2.1 (mtJ j').2.2.1 none :: wsG := by rw [wsJ, hr]
    have cw : va_CN R s args own idx (mtJ j').1 host (mtJ j').2.1 (mtJ j').2.2.1 none (wsJ j') (rmD d mc ms) mc ms n :=
      va_cnB n hts (wsJ_good M) hws rfl rfl (hK.2.1 _ hw1) (hts _ M.2.1) ⟨M.2.2.1.1, M.2.2.1.2, hn⟩ ⟨hR1, by have := M.2.2.2.2; show 8 + ((mtJ j').2.2.1 + 11) + 100 * (d + 1) ≤ _; omega⟩
    rw [e1] at hM ⊢
    have hst : S.map (cv E) = (As.map (cv E)).reverse ++ .ref (ad E a0) :: (S.drop (n + 1)).map (cv E) := by
      rw [← List.map_reverse]
      conv => lhs; rw [e3]
      rw [List.map_append]
      rfl
    refine va_runIN (b := ad E a0) (As := As.map (cv E)) (cc := (mtJ j).2.1) (nL := (mtJ j).2.2.1) (Ts := wsG) ⟨hx, hb, hml, hown, hts⟩ hM ⟨cw, hi, hts _ hw2⟩ ⟨PcS_blind _ _ _ _, fun U hU hW => ⟨rfl, by rw [hU]; exact hN, hK.warm hW, by rw [hU]; exact heap_base hN⟩⟩ rfl (by rw [List.length_map]; exact e2) hL.1.1 hst ?_ hd ⟨hc, hs⟩
    rw [cat_sum]
    show 2 * 0 + _ ≤ _
    omega
  · cases hrc

/-! THE CLAIM OUT OF ONE WALK OF THE LAW'S BODY. Your part is whole_start (and what it stands on); all else here is the same for every law, but numbers. -/
def R_law : String := "SatchelSinsLaw"
def lw_P (b : Addr) (xs : List Int32) (args : Array Value) (s : State) : Prop := args = #[.ref b] ∧ s.IntsAt b xs ∧ xs.length ≤ 256 ∧ (Jvm.Cond.and given_1 narrow_1).before args s = true
def lw_Q (_ : Array Value) (s : State) (o : Outcome) (t : State) : Prop := o = .returned (some (.int 1)) ∧ Framed s o t [] 600000 7302250
def lw_Z (below : List Frame) (a : Array Value) (s : State) : State → Prop := fun t => ∃ o, t.status = .running ∧ Ended t below o ∧ lw_Q a s o t
/-- the law's own end, with 1 on the stack, nothing written that was there before, its room as the claim has it -/
theorem lw_ret {p : Program} {l : Launch} {e : Env} {s : State} {m : MethodId} {below : List Frame} {meth : Method} {c : Code} {b : Nat} (hx : p.tables.exec = Jvm.exec) (hb : c.code = code) (hr : meth.sig.returnType = ret) (hlocks : meth.locks = false) {pc : Nat} {H : Heap} {ls : Array Slot} (hdg : decode code pc = .ok (.ireturn, 1)) : W p l e room_1 s m #[Value.ref b] below meth c H [] 600000 7302250 (lw_Z below #[Value.ref b] s) (F0 m pc ls [.int 1]) := by
  intro T hT X
  obtain ⟨fs, hret, hrun, hended, hW, hframe⟩ := X.leave (v := some (.int 1)) (hlocks := hlocks) (fun h => by rw [hr] at h; cases h)
  have hmeth' : T.vm.method? m = some meth := X.method'
  refine ⟨T.setFrames fs, ?_, .returned (some (.int 1)), hrun, hended, rfl, ⟨_, rfl⟩, hW, hframe⟩
  jvm_step X.here [X.here.top, hx, hb, hdg, hmeth', hr, ret, narrow_b1]
  (try refine ⟨rfl, ?_⟩); (try refine ⟨rfl, ?_⟩)
  first | (intro acts; rw [hret _ acts rfl rfl rfl]) | rw [hret _ _ rfl rfl rfl]
  exact Steps.refl _
/-- what holds at the law's entry: the machine, the code, the tables' words (any of lw_tbl by 'hts w (by decide +kernel)'), the script of L ints xs at the cell b, what the Statement gives of the start (any of its parts by flat_of_before) -/
def lw_At (p : Program) (s : State) (m : MethodId) (meth : Method) (c : Code) (b L : Nat) (xs : Nat → Int32) : Prop :=
  p.tables.exec = Jvm.exec ∧ c.code = code ∧ meth.sig.returnType = ret ∧ c.maxLocals = 4 ∧ s.vm.findClass R_law = some m.cls ∧ (∀ w ∈ lw_tbl, w.before #[Value.ref b] s = true) ∧ va_X b L xs s s.heap ∧ b < s.heap.size ∧ meth.locks = false ∧ (Jvm.Cond.and given_1 narrow_1).before #[Value.ref b] s = true
def lawH (xs : Nat → Int32) : AH := fun k i => if k = 0 then xs i else 0
def LawT : Prop := ∃ d mc ms : Nat, d ≤ 100 ∧ mc ≤ 600000 ∧ ms ≤ 7302250 ∧ ∀ (L : Nat) (xs : Nat → Int32), L ≤ 256 → T d 187 mc ms (entS 187 [.ref 0] [(4, L, [])] (lawH xs)) (fun v _ _ => v = some 1)
set_option maxHeartbeats 4000000 in
/-- the claim's walk, out of the small machine's run of the law -/
theorem whole_of (A : SndAll) (hlaw : LawT) {p : Program} {e : Env} {s : State} {m : MethodId} {below : List Frame} {meth : Method} {c : Code} (l : Launch) {b L : Nat} {xs : Nat → Int32} (hL : L ≤ 256) (C0 : lw_At p s m meth c b L xs) : W p l e room_1 s m #[Value.ref b] below meth c s.heap [] 0 0 (lw_Z below #[Value.ref b] s) (entryFrame m ([Value.ref b] : List Value).toArray 4) := by
  obtain ⟨hx, hb, hr, hml, hown, hts0, hX, hbl, hlocks, hgv⟩ := id C0
  have hts : ∀ w ∈ wsG, w.before #[Value.ref b] s = true := fun w hw => hts0 w (List.mem_filter.mp hw).1
  obtain ⟨c0, iS0, hKn0⟩ := u_known (C := "SatchelSins$Day") (T := TX0) (N := 2) (n := 2) hts inX0 (hts _ ci0)
  obtain ⟨c1, iS1, hKn1⟩ := u_known (C := "SatchelSins$Image") (T := TX1) (N := 3) (n := 3) hts inX1 (hts _ ci1)
  obtain ⟨c2, iS2, hKn2⟩ := u_known (C := "SatchelSins$Packing") (T := TX2) (N := 10) (n := 10) hts inX2 (hts _ ci2)
  obtain ⟨c3, iS3, hKn3⟩ := u_known (C := "SatchelSins$Past") (T := TX3) (N := 3) (n := 3) hts inX3 (hts _ ci3)
  obtain ⟨c4, iS4, hKn4⟩ := u_known (C := "SatchelSins$Reader") (T := TX4) (N := 7) (n := 7) hts inX4 (hts _ ci4)
  obtain ⟨c5, iS5, hKn5⟩ := u_known (C := "SatchelSins$Roll") (T := TX5) (N := 9) (n := 9) hts inX5 (hts _ ci5)
  obtain ⟨c6, iS6, hKn6⟩ := u_known (C := "SatchelSins$Scale") (T := TX6) (N := 5) (n := 5) hts inX6 (hts _ ci6)
  obtain ⟨c7, iS7, hKn7⟩ := u_known (C := "SatchelSins$Slate") (T := TX7) (N := 7) (n := 7) hts inX7 (hts _ ci7)
  obtain ⟨c8, iS8, hKn8⟩ := u_known (C := "SatchelSins") (T := TX8) (N := 14) (n := 14) hts inX8 (hts _ ci8)
  obtain ⟨c9, iS9, hKn9⟩ := u_known (C := "SatchelSinsModel") (T := TX9) (N := 41) (n := 41) hts inX9 (hts _ ci9)
  obtain ⟨dC, dI, hKc⟩ : ∃ (dC : Nat → ClassId) (dI : Nat → Nat → Nat), ∀ (k : Nat) (q : vw_C), cls[k]? = some q → u_Kn s q.1 q.2.1 q.2.2 (dC k) (dI k) := by
    refine ⟨fun k => if k = 0 then c0 else if k = 1 then c1 else if k = 2 then c2 else if k = 3 then c3 else if k = 4 then c4 else if k = 5 then c5 else if k = 6 then c6 else if k = 7 then c7 else if k = 8 then c8 else c9, fun k => if k = 0 then iS0 else if k = 1 then iS1 else if k = 2 then iS2 else if k = 3 then iS3 else if k = 4 then iS4 else if k = 5 then iS5 else if k = 6 then iS6 else if k = 7 then iS7 else if k = 8 then iS8 else iS9, ?_⟩
    intro k q hq
    match k, hq with
    | 0, hq => cases hq; exact hKn0
    | 1, hq => cases hq; exact hKn1
    | 2, hq => cases hq; exact hKn2
    | 3, hq => cases hq; exact hKn3
    | 4, hq => cases hq; exact hKn4
    | 5, hq => cases hq; exact hKn5
    | 6, hq => cases hq; exact hKn6
    | 7, hq => cases hq; exact hKn7
    | 8, hq => cases hq; exact hKn8
    | 9, hq => cases hq; exact hKn9
    | k + 10, hq => simp [cls] at hq
  obtain ⟨cI, kI, compI, i1, i2, i3⟩ := Cond.arrayClass_spec (hts _ ac1)
  obtain ⟨cZ, kZ, compZ, z1, z2, z3⟩ := Cond.arrayClass_spec (hts _ ac2)
  have hAO : va_AO "SatchelSins$Image" s := va_AO.of (hts0 _ (List.mem_append_right _ (List.mem_append_left _ (List.mem_of_getElem? (i := 151) rfl))))
  obtain ⟨compO, cO, kO, o1, o2, o3, o4, o5⟩ := Cond.arrayOver_spec (va_AO.use (A := #[]) hAO)
  obtain ⟨scr, x1, x2, x3, x4, x5⟩ := hX
  obtain ⟨x6, kS, x7, compS, x8⟩ := x2
  let E : Ev := (dC, dI, (cI, cZ, cO, scr.cls), b, s.heap.size)
  have hK : KN E s := by
    refine ⟨⟨hKc, fun k q hq => ?_⟩, fun w hw => ?_, hAO, kS, compS, x7, x8⟩
    · match k, hq with
      | 0, hq => cases hq; exact ⟨fun n z => ⟨fun k h => (by cases h), kI, i2, compI, i3⟩, i1⟩
      | 1, hq => cases hq; exact ⟨fun n z => ⟨fun k h => (by cases h), kZ, z2, compZ, z3⟩, z1⟩
      | 2, hq => cases hq; exact ⟨fun n z => ⟨fun k h => (by cases h), kO, o3, compO, o4⟩, kO, compO, o3, o4, o1, o5⟩
      | k + 3, hq => simp [tys0] at hq
    · simp only [nst, List.mem_cons, List.not_mem_nil, or_false] at hw
      rcases hw with rfl | rfl | rfl | rfl
      · exact va_Nw.of rfl (hts0 _ (List.mem_append_right _ (List.mem_append_left _ (List.mem_of_getElem? (i := 24) rfl))))
      · exact va_Nw.of rfl (hts0 _ (List.mem_append_right _ (List.mem_append_left _ (List.mem_of_getElem? (i := 135) rfl))))
      · exact va_Nw.of rfl (hts0 _ (List.mem_append_right _ (List.mem_append_left _ (List.mem_of_getElem? (i := 216) rfl))))
      · exact va_Nw.of rfl (hts0 _ (List.mem_append_right _ (List.mem_append_right _ (List.mem_append_left _ (List.mem_of_getElem? (i := 6) rfl)))))
  have hN : CN E [(4, L, [])] (lawH xs) s.heap := by
    refine ⟨rfl, hbl, ⟨L, rfl⟩, fun k c0 hk => ?_⟩
    match k, hk with
    | 0, hk =>
      cases hk
      exact ⟨scr, x1, rfl, x6, x3, x4, fun i hi => by rw [x5 i hi]; rfl⟩
    | k + 1, hk => simp at hk
  have Cx0 : Cx E 187 p room_1 s m #[Value.ref b] meth c := ⟨hx, hb, hml, hown, hts, hK, Nat.le_refl _, ⟨by decide, by decide⟩, fun h => absurd h (by decide)⟩
  obtain ⟨d, mc, ms, hd, hmc, hms, hT⟩ := hlaw
  have hT := hT L xs hL
  obtain ⟨ls, hLV, hent⟩ := entry_LV (E := E) (as := [.ref 0]) (n := 4) (by decide)
  have hen : entryFrame m ([Value.ref b] : List Value).toArray 4 = F0 m 0 ls [] := hent m
  rw [hen]
  have hret : ∀ pc k v S G h H locs cells slots ls, SndR 187 pc k → rets k S = some v → (fun (v : Option Int32) (_ : List SC) (_ : AH) => v = some 1) v G h → CN E G h H → FS E s.heap H locs → cells ≤ 600000 → slots ≤ 7302250 → W p l e room_1 s m #[Value.ref b] below meth c H locs cells slots (lw_Z below #[Value.ref b] s) (F0 m pc ls (S.map (cv E))) := by
    intro pc k v S G h H locs cells slots ls hR hv hq hN' hS hc hs
    refine va_forget hS.2.2 (W.widen (k := 600000) (n := 7302250) hc hs ?_)
    rcases hR with ⟨rfl, hd, h4⟩ | ⟨rfl, hd, h4⟩ | ⟨rfl, hd, h4⟩
    · exact absurd h4 (by decide)
    · exact absurd h4 (by decide)
    · match S, hv with
      | [.int x], hv =>
        simp only [rets] at hv
        split at hv
        · cases hv
          cases hq
          exact lw_ret hx hb hr hlocks hd
        · cases hv
  cases d with
  | zero => exact walkT A (d := 0) (MC := 600000) (MS := 7302250) (Tc := fun _ _ _ _ _ => False) Cx0 (by decide) (by decide) (by decide) (by decide) (fun _ _ _ _ _ _ _ _ _ hc => hc.elim) hret hT s.heap [] 0 0 ls hN va_S.rf hLV (by omega) (by omega)
  | succ d =>
    exact walkT A (d := d + 1) (MC := 600000) (MS := 7302250) (Tc := T d) Cx0 (by decide) (by decide) (by show _ ≤ 2048; omega) (by show _ ≤ 84000; omega) (fun j' mc1 ms1 as G h Q1 M1 hl hc => ⟨d, Nat.le_refl _, metJ A l E d j' mc1 ms1 as G h Q1 M1 hl hc⟩) hret hT s.heap [] 0 0 ls hN va_S.rf hLV (by omega) (by omega)

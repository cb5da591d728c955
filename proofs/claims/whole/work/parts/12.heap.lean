/-! INSTRUCTIONS THAT READ OR WRITE CELLS, AND SWITCHES -/
section HH
variable {j pc : Nat}
theorem s_tsw {dflt lo hi : Int} {offs : Array Int} {len : Nat} {ts : List Nat} {d : Nat} (hd : decode (mtJ j).2.1 pc = .ok (.tableswitch dflt lo hi offs, len)) (h1 : hi = lo + ts.length - 1) (h2 : (pc : Int) + dflt = (d : Int)) (h3 : offs.toList.map (fun o => (pc : Int) + o) = ts.map (fun t : Nat => (t : Int))) : SndA j pc (a_tsw lo ts d) := by
  intro E p l e R s m args below meth c H locs cells slots Q ls L S G h st' a b C ha hN hS hL hc hs kk
  obtain ⟨hx, hb, -⟩ := C
  simp only [a_tsw] at ha
  split at ha
  · rename_i x S'
    cases ha
    have kk := kk H locs ls hN hS hL
    simp only [tsw] at kk
    by_cases q : x.toInt < lo ∨ lo + ts.length - 1 < x.toInt
    · rw [if_pos q] at kk
      exact lv_tableOut hx hb hd (by rw [h1]; exact q) h2 kk
    · rw [if_neg q] at kk
      have q1 : ¬ x.toInt < lo := fun z => q (Or.inl z)
      have q2 : ¬ lo + ts.length - 1 < x.toInt := fun z => q (Or.inr z)
      have hlt : (x.toInt - lo).toNat < ts.length := by omega
      have e1 : (ts.map (fun t : Nat => (t : Int)))[(x.toInt - lo).toNat]? = some ((ts.getD (x.toInt - lo).toNat d : Nat) : Int) := by
        rw [List.getElem?_map, List.getD_eq_getElem?_getD, List.getElem?_eq_getElem hlt]
        rfl
      rw [← h3, List.getElem?_map] at e1
      cases ho : offs.toList[(x.toInt - lo).toNat]? with
      | none => rw [ho] at e1; cases e1
      | some off =>
        rw [ho] at e1
        exact lv_tableIn hx hb hd q1 (by rw [h1]; exact q2) (by rw [← Array.getElem?_toList]; exact ho) (Option.some.inj e1) kk
  · cases ha
theorem lsw_off {x : Int32} {pc : Nat} {dflt : Int} {d : Nat} (h2 : (pc : Int) + dflt = (d : Int)) : ∀ (l : List (Int × Int)) (ps : List (Int × Nat)), l.map (fun q => (q.1, (pc : Int) + q.2)) = ps.map (fun q => (q.1, (q.2 : Int))) → (pc : Int) + Op.lookupswitch.offset l dflt x.toInt = (lsw d x ps : Int)
  | [], [], _ => h2
  | [], _ :: _, h => by cases h
  | _ :: _, [], h => by cases h
  | (a, o) :: l, (b, t) :: ps, h => by
    simp only [List.map_cons, List.cons.injEq, Prod.mk.injEq] at h
    obtain ⟨⟨h4, h5⟩, h6⟩ := h
    subst h4
    rw [Op.lookupswitch.offset_cons]
    simp only [lsw]
    by_cases q : a = x.toInt
    · rw [if_pos q, if_pos q]; exact h5
    · rw [if_neg q, if_neg q]; exact lsw_off h2 l ps h6
theorem s_lsw {dflt : Int} {pr : Array (Int × Int)} {len : Nat} {ps : List (Int × Nat)} {d : Nat} (hd : decode (mtJ j).2.1 pc = .ok (.lookupswitch dflt pr, len)) (h1 : (pr.toList.zip (pr.toList.drop 1)).all (fun (a, next) => a.1 < next.1) = true) (h2 : (pc : Int) + dflt = (d : Int)) (h3 : pr.toList.map (fun q => (q.1, (pc : Int) + q.2)) = ps.map (fun q => (q.1, (q.2 : Int)))) : SndA j pc (a_lsw ps d) := by
  intro E p l e R s m args below meth c H locs cells slots Q ls L S G h st' a b C ha hN hS hL hc hs kk
  obtain ⟨hx, hb, -⟩ := C
  simp only [a_lsw] at ha
  split at ha
  · rename_i x S'
    cases ha
    exact lv_lookup hx hb hd h1 rfl (lsw_off h2 _ _ h3) (kk H locs ls hN hS hL)
  · cases ha
/-- what is known of the kind ci of objects -/
def ClOk (ci : Nat) (C : String) (T : u_T) (N : Nat) : Prop := cls[ci]? = some (C, T, N) ∧ (∀ w ∈ u_ws C T N, w ∈ wsG) ∧ (∀ k, k < N → parseFieldDescriptor (T k).2.2.1 = some (fty ci k)) ∧ ∀ a, a < N → ∀ b, b < N → a ≠ b → (T a).2.1 ≠ (T b).2.1
theorem s_get {C : String} {T : u_T} {N ci k idx : Nat} (K : ClOk ci C T N) (hk : k < N) (hd : decode (mtJ j).2.1 pc = .ok (.getfield idx, 3)) {own : String} (ho : (mtJ j).1.cls = own) (hw : Cond.fieldLink own idx (T k).1 (T k).2.1 (T k).2.2.1 ∈ wsG)
    {E : Ev} {p : Program} {l : Launch} {e : Env} {R : Room} {s : State} {m : MethodId} {args : Array Value} {below : List Frame} {meth : Method} {c : Code} {H : Heap} {locs : List Loc} {cells slots : Nat} {Q : State → Prop} {ls : Array Slot} {G : List SC} {h : AH} {a : Nat} {rs : List (Option Nat)} {rest : List Value} (C0 : Cx E j p R s m args meth c) (hN : CN E G h H) (hG : G[a]? = some (0, ci, rs))
    (kk : W p l e R s m args below meth c H locs cells slots Q (F0 m (pc + 3) ls (fvl E ci rs (h a) k :: rest))) : W p l e R s m args below meth c H locs cells slots Q (F0 m pc ls (.ref (ad E a) :: rest)) := by
  obtain ⟨hx, hb, -, hown, hts, hK, -⟩ := C0
  obtain ⟨k1, k2, k3, k4⟩ := K
  obtain ⟨r, h1, cell, q1, q2, q3, q4⟩ := hN.2.2.2 a _ hG
  have hr : r = (C, T, N) := Option.some.inj (h1.symm.trans k1)
  subst hr
  obtain ⟨hSl, hfc, kC, hkC, hkind⟩ := hK.1.1 ci _ k1
  obtain ⟨cf, kf, fi, f, hi, hsl⟩ := hSl k hk
  rw [ho] at hown
  refine W.getf hx hb hown (hts _ hw) hi (u_facts hfc hkC (u_lays hts k2 hk) hi).1 q1 (by rw [q3]; exact fun h => by cases h) (v := fvl E ci rs (h a) k) ?_ rfl rfl hd kk
  rw [hsl, q4 k hk]
theorem s_getI {C : String} {T : u_T} {N ci k idx : Nat} (K : ClOk ci C T N) (hk : k < N) (hd : decode (mtJ j).2.1 pc = .ok (.getfield idx, 3)) {own : String} (ho : (mtJ j).1.cls = own) (hw : Cond.fieldLink own idx (T k).1 (T k).2.1 (T k).2.2.1 ∈ wsG) (hr : isRf (fty ci k) = false) : SndA j pc (a_getI ci k) := by
  intro E p l e R s m args below meth c H locs cells slots Q ls L S G h st' a b C ha hN hS hL hc hs kk
  simp only [a_getI] at ha
  split at ha
  · split at ha
    · rename_i o S' _ c0 rs hG
      split at ha
      · rename_i hci
        subst hci
        cases ha
        refine s_get K hk hd ho hw C hN hG ?_
        have e1 : fvl E c0 rs (h o) k = .int (h o k) := by simp [fvl, hr]
        rw [e1]
        exact kk H locs ls hN hS hL
      · cases ha
    · cases ha
  · cases ha
theorem s_getR {C : String} {T : u_T} {N ci k idx : Nat} (K : ClOk ci C T N) (hk : k < N) (hd : decode (mtJ j).2.1 pc = .ok (.getfield idx, 3)) {own : String} (ho : (mtJ j).1.cls = own) (hw : Cond.fieldLink own idx (T k).1 (T k).2.1 (T k).2.2.1 ∈ wsG) (hr : isRf (fty ci k) = true) : SndA j pc (a_getR ci k) := by
  intro E p l e R s m args below meth c H locs cells slots Q ls L S G h st' a b C ha hN hS hL hc hs kk
  simp only [a_getR] at ha
  split at ha
  · split at ha
    · rename_i o S' _ c0 rs hG
      split at ha
      · rename_i hci
        subst hci
        split at ha
        · rename_i b0 hb0
          cases ha
          refine s_get K hk hd ho hw C hN hG ?_
          have e1 : fvl E c0 rs (h o) k = .ref (ad E b0) := by simp [fvl, hr, List.getD_eq_getElem?_getD, hb0, va_rf]
          rw [e1]
          exact kk H locs ls hN hS hL
        · cases ha
      · cases ha
    · cases ha
  · cases ha
theorem apartK {C : String} {T : u_T} {N ci : Nat} (K : ClOk ci C T N) {E : Ev} {s : State} {args : Array Value} (hts : ∀ w ∈ wsG, w.before args s = true) (hK : KN E s) : ∀ x y, x < N → y < N → x ≠ y → (E.2.1 ci) x ≠ (E.2.1 ci) y :=
  va_apart (own := C) (D := (E.1, E.2.1)) hts K.2.1 (fty ci) K.2.2.1 K.2.2.2 hK.1 K.1
/-- a write of a field, final or not -/
theorem s_put {C : String} {T : u_T} {N ci k idx : Nat} (K : ClOk ci C T N) (hk : k < N) (hd : decode (mtJ j).2.1 pc = .ok (.putfield idx, 3)) {own : String} (ho : (mtJ j).1.cls = own) (hw : Cond.fieldLink own idx (T k).1 (T k).2.1 (T k).2.2.1 ∈ wsG) (hfin : (T k).2.2.2 = false ∨ ((T k).2.2.2 = true ∧ (mtJ j).1.name = "<init>" ∧ (T k).1 = own))
    {E : Ev} {p : Program} {l : Launch} {e : Env} {R : Room} {s : State} {m : MethodId} {args : Array Value} {below : List Frame} {meth : Method} {c : Code} {H : Heap} {locs : List Loc} {cells slots : Nat} {Q : State → Prop} {ls : Array Slot} {G : List SC} {h h' : AH} {a : Nat} {rs rs' : List (Option Nat)} {v : Value} {rest : List Value} (C0 : Cx E j p R s m args meth c) (hN : CN E G h H) (hS : FS E s.heap H locs) (hG : G[a]? = some (0, ci, rs))
    (hn : narrow (fty ci k) v = v) (hfit : fits (fty ci k) v = true) (hh : ∀ i, i ≠ a → h' i = h i) (hv : ∀ q, q < N → updV (fvl E ci rs (h a)) k v q = fvl E ci rs' (h' a) q)
    (kk : ∀ H' locs', CN E (G.set a (0, ci, rs')) h' H' → FS E s.heap H' locs' → W p l e R s m args below meth c H' locs' cells slots Q (F0 m (pc + 3) ls rest)) : W p l e R s m args below meth c H locs cells slots Q (F0 m pc ls (v :: .ref (ad E a) :: rest)) := by
  obtain ⟨hx, hb, -, hown, hts, hK, -, -, hnm⟩ := C0
  have hap := apartK K hts hK
  obtain ⟨k1, k2, k3, k4⟩ := K
  obtain ⟨r, h1, cell, q1, q2, q3, q4⟩ := hN.2.2.2 a _ hG
  have hr : r = (C, T, N) := Option.some.inj (h1.symm.trans k1)
  subst hr
  obtain ⟨hSl, hfc, kC, hkC, hkind⟩ := hK.1.1 ci _ k1
  obtain ⟨cf, kf, fi, f, hi, hsl⟩ := hSl k hk
  rw [ho] at hown
  have hlay := hts _ (k2 _ (u_in_lay hk))
  have hst := (u_facts hfc hkC (u_lays hts k2 hk) hi).1
  have hlt : f.slot < cell.slots.size := by rw [hsl]; exact k2_hasslot (q4 k hk)
  have goal : ∀ H' : Heap, H'[ad E a]? = some (cell.setSlot f.slot v) → H'.size = H.size → (∀ q, q ≠ ad E a → H'[q]? = H[q]?) → W p l e R s m args below meth c H' (locs ++ [⟨ad E a, f.slot⟩]) cells slots Q (F0 m (pc + 3) ls rest) := by
    intro H' e1 e2 e3
    rw [hsl] at e1
    refine kk H' _ (hN.upd hG (by simp) e2 e3 hh ⟨_, k1, ?_⟩) (hS.put e2 e3 (hN.pos hG (by simp)))
    exact t_OB.to (V := updV (fvl E ci rs (h a)) k v) ⟨_, e1, q2, q3, t_set q4 hap hk v⟩ hv
  rcases hfin with hfin | ⟨hfin, hini, hdecl⟩
  · unfold u_lay at hlay
    rw [if_neg (by rw [hfin]; decide)] at hlay
    have h6 := u_store hfc hkC hkind hlay hi (k3 k hk) hn hfit
    exact W.putK hx hb (f := f) ⟨hown, hts _ hw, ⟨_, _, _, hi⟩, hst⟩ (by rw [q2]; exact h6) q1 q3 hlt rfl rfl hd goal
  · unfold u_lay at hlay
    rw [if_pos hfin] at hlay
    have hcf : m.cls = cf := by
      obtain ⟨_, _, c', _, _, _, -, -, hf', -, -, -, hown2, -⟩ := Cond.laysFinal_spec hlay
      have e1 : c' = cf := by have := hi.symm.trans hf'; simp at this; exact this.1.symm
      rw [hdecl] at hown2
      rw [← e1]; exact Option.some.inj (hown.symm.trans hown2)
    have h6 := u_fits hfc hkC hkind (Or.inr hlay) hi (k3 k hk) hn hfit
    exact W.putFinK hx hb hown (hts _ hw) hi hst hcf (hnm hini) (by rw [q2]; exact h6) q1 q3 hlt rfl rfl hd goal
theorem st_ne {h : AH} {a k : Nat} {x : Int32} : ∀ i, i ≠ a → st_ h a k x i = h i := by
  intro i hi
  funext b
  simp [st_, hi]
theorem fvl_st {E : Ev} {ci k a : Nat} {rs : List (Option Nat)} {h : AH} {x : Int32} (hr : isRf (fty ci k) = false) : ∀ q, updV (fvl E ci rs (h a)) k (.int x) q = fvl E ci rs (st_ h a k x a) q := by
  intro q
  by_cases e : q = k
  · subst e
    simp [updV, fvl, hr, st_]
  · simp [updV, fvl, e, st_]
theorem s_putI {C : String} {T : u_T} {N ci k idx : Nat} (K : ClOk ci C T N) (hk : k < N) (hd : decode (mtJ j).2.1 pc = .ok (.putfield idx, 3)) {own : String} (ho : (mtJ j).1.cls = own) (hw : Cond.fieldLink own idx (T k).1 (T k).2.1 (T k).2.2.1 ∈ wsG) (hfin : (T k).2.2.2 = false ∨ ((T k).2.2.2 = true ∧ (mtJ j).1.name = "<init>" ∧ (T k).1 = own)) (hr : fty ci k = .int) : SndA j pc (a_putI ci k) := by
  intro E p l e R s m args below meth c H locs cells slots Q ls L S G h st' a b C ha hN hS hL hc hs kk
  simp only [a_putI] at ha
  split at ha
  · split at ha
    · rename_i x o S' _ c0 rs hG
      split at ha
      · rename_i hci
        subst hci
        cases ha
        refine s_put K hk hd ho hw hfin (h' := st_ h o k x) (rs' := rs) (v := .int x) C hN hS hG (by rw [hr]; rfl) (by rw [hr]; rfl) st_ne (fun q _ => fvl_st (by rw [hr]; rfl) q) (fun H' locs' hN' hS' => ?_)
        rw [set_same hG] at hN'
        exact kk H' locs' ls hN' hS' hL
      · cases ha
    · cases ha
  · cases ha
theorem s_putZ {C : String} {T : u_T} {N ci k idx : Nat} (K : ClOk ci C T N) (hk : k < N) (hd : decode (mtJ j).2.1 pc = .ok (.putfield idx, 3)) {own : String} (ho : (mtJ j).1.cls = own) (hw : Cond.fieldLink own idx (T k).1 (T k).2.1 (T k).2.2.1 ∈ wsG) (hfin : (T k).2.2.2 = false ∨ ((T k).2.2.2 = true ∧ (mtJ j).1.name = "<init>" ∧ (T k).1 = own)) (hr : fty ci k = .boolean) : SndA j pc (a_putZ ci k) := by
  intro E p l e R s m args below meth c H locs cells slots Q ls L S G h st' a b C ha hN hS hL hc hs kk
  simp only [a_putZ] at ha
  split at ha
  · split at ha
    · rename_i x o S' _ c0 rs hG
      split at ha
      · rename_i hci
        obtain ⟨hci, hx01⟩ := hci
        subst hci
        cases ha
        refine s_put K hk hd ho hw hfin (h' := st_ h o k x) (rs' := rs) (v := .int x) C hN hS hG (by rw [hr]; rcases hx01 with rfl | rfl <;> rfl) (by rw [hr]; rcases hx01 with rfl | rfl <;> rfl) st_ne (fun q _ => fvl_st (by rw [hr]; rfl) q) (fun H' locs' hN' hS' => ?_)
        rw [set_same hG] at hN'
        exact kk H' locs' ls hN' hS' hL
      · cases ha
    · cases ha
  · cases ha
theorem s_putR {C : String} {T : u_T} {N ci k idx : Nat} (K : ClOk ci C T N) (hk : k < N) (hd : decode (mtJ j).2.1 pc = .ok (.putfield idx, 3)) {own : String} (ho : (mtJ j).1.cls = own) (hw : Cond.fieldLink own idx (T k).1 (T k).2.1 (T k).2.2.1 ∈ wsG) (hfin : (T k).2.2.2 = false ∨ ((T k).2.2.2 = true ∧ (mtJ j).1.name = "<init>" ∧ (T k).1 = own)) (hr : isRf (fty ci k) = true) (hn : ∀ q, narrow (fty ci k) (.ref q) = .ref q) (hft : ∀ q, fits (fty ci k) (.ref q) = true) : SndA j pc (a_putR ci k) := by
  intro E p l e R s m args below meth c H locs cells slots Q ls L S G h st' a b C ha hN hS hL hc hs kk
  simp only [a_putR] at ha
  split at ha
  · split at ha
    · rename_i x o S' _ c0 rs hG
      split at ha
      · rename_i hci
        obtain ⟨hci, hkl⟩ := hci
        subst hci
        cases ha
        refine s_put K hk hd ho hw hfin (h' := h) (rs' := rs.set k (some x)) (v := .ref (ad E x)) C hN hS hG (hn _) (hft _) (fun _ _ => rfl) (fun q _ => ?_) (fun H' locs' hN' hS' => kk H' locs' ls hN' hS' hL)
        by_cases e : q = k
        · subst e
          simp [updV, fvl, hr, List.getD_eq_getElem?_getD, List.getElem?_set_self hkl, va_rf]
        · simp [updV, fvl, e, List.getD_eq_getElem?_getD, List.getElem?_set_ne (Ne.symm e)]
      · cases ha
    · cases ha
  · cases ha
end HH

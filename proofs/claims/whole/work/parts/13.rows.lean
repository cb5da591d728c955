/-! ROWS OF NUMBERS, NEW CELLS, COPIES -/
section RR
variable {j pc : Nat}
theorem arrI {E : Ev} {s : State} (hK : KN E s) (n : Nat) (z : Nat → Value) : s.isArrayOf (arrV E.2.2.1.1 n z) .int := (hK.1.2 0 (E.2.2.1.1, .int) rfl).1 n z
theorem arrZ {E : Ev} {s : State} (hK : KN E s) (n : Nat) (z : Nat → Value) : s.isArrayOf (arrV E.2.2.1.2.1 n z) .boolean := (hK.1.2 1 (E.2.2.1.2.1, .boolean) rfl).1 n z
theorem arrO {E : Ev} {s : State} (hK : KN E s) (n : Nat) (z : Nat → Value) : s.isArrayOf (arrV E.2.2.1.2.2.1 n z) (.object "SatchelSins$Image") := (hK.1.2 2 (E.2.2.1.2.2.1, .object "SatchelSins$Image") rfl).1 n z
theorem arrS {E : Ev} {s : State} (hK : KN E s) {scr : Cell} (h1 : scr.cls = E.2.2.1.2.2.2) (h2 : ∀ k', scr.vm ≠ .statics k') : s.isArrayOf scr .int := by
  obtain ⟨-, -, -, kA, comp, h4, h5⟩ := hK
  exact ⟨h2, kA, by rw [h1]; exact h4, comp, h5⟩
theorem inb {i : Int32} {n : Nat} (h : ¬ (i < 0 ∨ n ≤ i.toNatClampNeg)) : i.toNatClampNeg < n := Nat.not_le.mp fun q => h (Or.inr q)
theorem s_iald (hd : decode (mtJ j).2.1 pc = .ok (.iaload, 1)) : SndA j pc a_iald := by
  intro E p l e R s m args below meth c H locs cells slots Q ls L S G h st' a b C ha hN hS hL hc hs kk
  obtain ⟨hx, hb, -, hown, hts, hK, -⟩ := C
  simp only [a_iald] at ha
  split at ha
  · split at ha
    · rename_i i o S' _ n _ hG
      split at ha
      · cases ha
      · rename_i hi
        cases ha
        have hc0 : H[ad E o]? = some (arrV E.2.2.1.1 n (fun j => .int (h o j))) := hN.2.2.2 o _ hG
        exact W.iald (v := .int (h o i.toNatClampNeg)) hx hb hc0 (arrI hK _ _) (fun q => by cases q) (by rw [arrV_size]; exact hi) (by rw [arrV_read _ _ (inb hi)]) rfl rfl hd (kk H locs ls hN hS hL)
    · rename_i i o S' _ n _ hG
      split at ha
      · cases ha
      · rename_i hi
        cases ha
        obtain ⟨scr, g1, g2, g3, g4, g5, g6⟩ := hN.2.2.2 o _ hG
        exact W.iald (v := .int (h o i.toNatClampNeg)) hx hb g1 (arrS hK g2 g3) g4 (by rw [g5]; exact hi) (g6 _ (inb hi)) rfl rfl hd (kk H locs ls hN hS hL)
    · cases ha
  · cases ha
theorem s_bald (hd : decode (mtJ j).2.1 pc = .ok (.baload, 1)) : SndA j pc a_bald := by
  intro E p l e R s m args below meth c H locs cells slots Q ls L S G h st' a b C ha hN hS hL hc hs kk
  obtain ⟨hx, hb, -, hown, hts, hK, -⟩ := C
  simp only [a_bald] at ha
  split at ha
  · split at ha
    · rename_i i o S' _ n _ hG
      split at ha
      · cases ha
      · rename_i hi
        cases ha
        have hc0 : H[ad E o]? = some (arrV E.2.2.1.2.1 n (fun j => .int (h o j))) := hN.2.2.2 o _ hG
        exact W.zald (v := .int (h o i.toNatClampNeg)) hx hb hc0 (arrZ hK _ _) (fun q => by cases q) (by rw [arrV_size]; exact hi) (by rw [arrV_read _ _ (inb hi)]) rfl rfl hd (kk H locs ls hN hS hL)
    · cases ha
  · cases ha
theorem s_aald (hd : decode (mtJ j).2.1 pc = .ok (.aaload, 1)) : SndA j pc a_aald := by
  intro E p l e R s m args below meth c H locs cells slots Q ls L S G h st' a b C ha hN hS hL hc hs kk
  obtain ⟨hx, hb, -, hown, hts, hK, -⟩ := C
  simp only [a_aald] at ha
  split at ha
  · split at ha
    · rename_i i o S' _ n rs hG
      split at ha
      · cases ha
      · rename_i hi
        split at ha
        · rename_i b0 hb0
          cases ha
          have hc0 : H[ad E o]? = some (arrV E.2.2.1.2.2.1 n (fun j => va_rf ((rs.getD j none).map (ad E)))) := hN.2.2.2 o _ hG
          exact W.aald (v := .ref (ad E b0)) hx hb hc0 (arrO hK _ _) rfl (fun q => by cases q) (by rw [arrV_size]; exact hi) (by rw [arrV_read _ _ (inb hi), List.getD_eq_getElem?_getD, hb0]; rfl) rfl rfl hd (kk H locs ls hN hS hL)
        · cases ha
    · cases ha
  · cases ha
theorem s_alen (hd : decode (mtJ j).2.1 pc = .ok (.arraylength, 1)) : SndA j pc a_alen := by
  intro E p l e R s m args below meth c H locs cells slots Q ls L S G h st' a b C ha hN hS hL hc hs kk
  obtain ⟨hx, hb, -, hown, hts, hK, -⟩ := C
  simp only [a_alen] at ha
  split at ha
  · split at ha
    · rename_i o S' _ t n rs hG
      split at ha
      · cases ha
      · rename_i hi
        cases ha
        have kk := kk H locs ls hN hS hL
        have hcell := hN.2.2.2 o _ hG
        match t, hi, hcell with
        | 0, hi, _ => exact absurd (Or.inl rfl) hi
        | 1, _, hcell => exact W.alen hx hb hcell (arrI hK _ _) (by rw [arrV_size]) rfl rfl hd kk
        | 2, _, hcell => exact W.alen hx hb hcell (arrZ hK _ _) (by rw [arrV_size]) rfl rfl hd kk
        | 3, _, hcell => exact W.alen hx hb hcell (arrO hK _ _) (by rw [arrV_size]) rfl rfl hd kk
        | 4, _, hcell =>
          obtain ⟨scr, g1, g2, g3, g4, g5, g6⟩ := hcell
          exact W.alen hx hb g1 (arrS hK g2 g3) (by rw [g5]) rfl rfl hd kk
        | t + 5, hi, _ => exact absurd (Or.inr (by omega)) hi
    · cases ha
  · cases ha
theorem s_iast (hd : decode (mtJ j).2.1 pc = .ok (.iastore, 1)) : SndA j pc a_iast := by
  intro E p l e R s m args below meth c H locs cells slots Q ls L S G h st' a b C ha hN hS hL hc hs kk
  obtain ⟨hx, hb, -, hown, hts, hK, -⟩ := C
  simp only [a_iast] at ha
  split at ha
  · split at ha
    · rename_i x i o S' _ n rs hG
      split at ha
      · cases ha
      · rename_i hi
        cases ha
        have hc0 : H[ad E o]? = some (arrV E.2.2.1.1 n (fun j => .int (h o j))) := hN.2.2.2 o _ hG
        refine W.iast hx hb hc0 (arrI hK _ _) (fun q => by cases q) (by rw [arrV_size]; exact hi) rfl rfl hd fun H1 e1 z oq => ?_
        refine kk H1 _ ls (hN.upd0 hG (by simp) z oq st_ne ?_) (hS.put z oq (hN.pos hG (by simp))) hL
        show H1[ad E o]? = some (arrV _ _ _)
        rw [e1, arrV_store]
        congr 2
        funext q
        by_cases hq : q = i.toNatClampNeg
        · subst hq
          simp [updV, st_]
        · simp [updV, st_, hq]
    · cases ha
  · cases ha
theorem s_bast (hd : decode (mtJ j).2.1 pc = .ok (.bastore, 1)) : SndA j pc a_bast := by
  intro E p l e R s m args below meth c H locs cells slots Q ls L S G h st' a b C ha hN hS hL hc hs kk
  obtain ⟨hx, hb, -, hown, hts, hK, -⟩ := C
  simp only [a_bast] at ha
  split at ha
  · split at ha
    · rename_i x i o S' _ n rs hG
      split at ha
      · cases ha
      · rename_i hi
        cases ha
        have hi1 : ¬ (i < 0 ∨ n ≤ i.toNatClampNeg) := fun q => hi (Or.inl q)
        have hx01 : x = 0 ∨ x = 1 := Classical.not_not.mp (fun q => hi (Or.inr q))
        have hc0 : H[ad E o]? = some (arrV E.2.2.1.2.1 n (fun j => .int (h o j))) := hN.2.2.2 o _ hG
        refine W.zast hx hb hc0 (arrZ hK _ _) (fun q => by cases q) (by rw [arrV_size]; exact hi1) rfl rfl hd fun H1 e1 z oq => ?_
        have e2 : narrow .boolean (.int x) = .int x := by rcases hx01 with rfl | rfl <;> rfl
        rw [e2] at e1
        refine kk H1 _ ls (hN.upd0 hG (by simp) z oq st_ne ?_) (hS.put z oq (hN.pos hG (by simp))) hL
        show H1[ad E o]? = some (arrV _ _ _)
        rw [e1, arrV_store]
        congr 2
        funext q
        by_cases hq : q = i.toNatClampNeg
        · subst hq
          simp [updV, st_]
        · simp [updV, st_, hq]
    · cases ha
  · cases ha
theorem s_aast (hd : decode (mtJ j).2.1 pc = .ok (.aastore, 1)) (hci : cls[1]? = some ("SatchelSins$Image", TX1, 3)) : SndA j pc (a_aast 1) := by
  intro E p l e R s m args below meth c H locs cells slots Q ls L S G h st' a b C ha hN hS hL hc hs kk
  obtain ⟨hx, hb, -, hown, hts, hK, -⟩ := C
  simp only [a_aast] at ha
  split at ha
  · split at ha
    · rename_i b0 i o S' _ n rs hG
      split at ha
      · cases ha
      · rename_i hi
        split at ha
        · rename_i _ c0 rs2 hG2
          split at ha
          · rename_i hc1
            subst hc1
            cases ha
            have hi1 : ¬ (i < 0 ∨ n ≤ i.toNatClampNeg) := fun q => hi (Or.inl q)
            have hrl : i.toNatClampNeg < rs.length := Nat.not_le.mp (fun q => hi (Or.inr q))
            have hc0 : H[ad E o]? = some (arrV E.2.2.1.2.2.1 n (fun j => va_rf ((rs.getD j none).map (ad E)))) := hN.2.2.2 o _ hG
            obtain ⟨r', hr', cellV, g1, g2, g3, -⟩ := hN.2.2.2 b0 _ hG2
            have hcls := (hK.1.1 1 _ hci).2
            obtain ⟨kA, comp, k1, k2, k3, -⟩ := (hK.1.2 2 (E.2.2.1.2.2.1, .object "SatchelSins$Image") rfl).2
            have hcomp : comp = E.1 1 := Option.some.inj (k3.symm.trans hcls.1)
            subst hcomp
            obtain ⟨kC, hkC, -⟩ := hcls.2
            refine W.aast hx hb hc0 (fun q h => by cases h) (fun h => by cases h) k1 k2 rfl hkC ⟨fun q => hi1 (Or.inl q), by rw [arrV_size]; exact inb hi1⟩ g1 (fun q h => by rw [g3] at h; cases h) (by rw [g2]; exact hkC) (by rw [g2]; exact va_assign hcls) rfl rfl hd fun H1 e1 z oq => ?_
            refine kk H1 _ ls (hN.upd hG (by simp) z oq (fun _ _ => rfl) ?_) (hS.put z oq (hN.pos hG (by simp))) hL
            show H1[ad E o]? = some (arrV _ _ _)
            rw [e1, arrV_store]
            congr 2
            funext q
            by_cases hq : q = i.toNatClampNeg
            · subst hq
              simp [updV, List.getD_eq_getElem?_getD, List.getElem?_set_self hrl, va_rf]
            · simp [updV, hq, List.getD_eq_getElem?_getD, List.getElem?_set_ne (Ne.symm hq)]
          · cases ha
        · cases ha
    · cases ha
  · cases ha
theorem sc_ne {h : AH} {a : Nat} {f : Nat → Int32} : ∀ i, i ≠ a → sc_ h a f i = h i := by
  intro i hi
  funext b
  simp [sc_, hi]
theorem sc_self {h : AH} {a : Nat} {f : Nat → Int32} : sc_ h a f a = f := by
  funext b
  simp [sc_]
theorem dflt_fvl (E : Ev) (ci N : Nat) (q : Nat) (hty : isRf (fty ci q) = false → defaultValue (fty ci q) = .int 0) (hty2 : isRf (fty ci q) = true → defaultValue (fty ci q) = .null) : defaultValue (fty ci q) = fvl E ci (List.replicate N none) (fun _ => 0) q := by
  by_cases e : isRf (fty ci q) = true
  · rw [hty2 e]
    simp [fvl, e, List.getD_eq_getElem?_getD, List.getElem?_replicate]
    split <;> rfl
  · have e' : isRf (fty ci q) = false := by simpa using e
    rw [hty e']
    simp [fvl, e']
def okTy : FieldType → Bool
  | .int => true
  | .boolean => true
  | .object _ => true
  | .array _ => true
  | _ => false
theorem s_new {C : String} {T : u_T} {N ci idx : Nat} (K : ClOk ci C T N) (hd : decode (mtJ j).2.1 pc = .ok (.new idx, 3)) {own : String} (ho : (mtJ j).1.cls = own) (hw1 : Cond.classLink own idx C ∈ wsG) (hw2 : Cond.instantiable C N ∈ wsG) (hw3 : Cond.initialized C ∈ wsG) (hT : ∀ q, q < N → okTy (fty ci q) = true) : SndA j pc (a_new ci N) := by
  intro E p l e R s m args below meth c H locs cells slots Q ls L S G h st' a b C0 ha hN hS hL hc hs kk
  obtain ⟨hx, hb, -, hown, hts, hK, -⟩ := C0
  cases ha
  rw [ho] at hown
  obtain ⟨k1, k2, k3, k4⟩ := K
  have hKn := hK.1.1 ci _ k1
  refine W.newcK hx hb hown (hts _ hw1) (hts _ hw2) (hts _ hw3) rfl hd hc hs hKn.2.1 rfl fun H1 kC hkC e1 z1 o1 => ?_
  have hsz := hN.new_ad
  have kk := kk H1 locs ls (hN.push (h' := sc_ h G.length (fun _ => 0)) z1 o1 sc_ne ?_) (FS.push hS z1 o1) hL
  · simp only [List.map_cons, cv, hsz] at kk
    exact kk
  · refine ⟨_, k1, ?_⟩
    rw [sc_self, hsz]
    refine (u_born (fty ci) hts k2 hKn hkC e1 k3).to (fun q hqN => dflt_fvl E ci N q (fun hq => ?_) (fun hq => ?_))
    · have ht := hT q hqN
      cases hz : fty ci q <;> rw [hz] at hq ht <;> first | rfl | exact absurd hq (by simp [isRf])
    · have ht := hT q hqN
      cases hz : fty ci q <;> rw [hz] at hq ht <;> first | rfl | exact absurd hq (by decide) | exact absurd ht (by decide)
theorem s_newI (hd : decode (mtJ j).2.1 pc = .ok (.newarray .int, 2)) (hw : Cond.arrayClass .int ∈ wsG) : SndA j pc (a_newP 1) := by
  intro E p l e R s m args below meth c H locs cells slots Q ls L S G h st' a b C0 ha hN hS hL hc hs kk
  obtain ⟨hx, hb, -, hown, hts, hK, -⟩ := C0
  simp only [a_newP] at ha
  split at ha
  · rename_i n S'
    split at ha
    · cases ha
    · rename_i hn
      cases ha
      have hn0 : ¬ n < 0 := fun q => hn (Or.inl q)
      have hn1 : n.toNatClampNeg ≤ 1000 := Nat.not_lt.mp (fun q => hn (Or.inr q))
      have hsz := hN.new_ad
      refine va_newaK (atype := .int) hx hb (hts _ hw) rfl hd rfl hn0 rfl (by show n.toNatClampNeg * 4 ≤ _; omega) hc hs rfl fun H1 cA e1 z1 o1 hAr hNm => ?_
      have hcA : cA = E.2.2.1.1 := Option.some.inj (hNm.symm.trans (hK.1.2 0 (E.2.2.1.1, .int) rfl).2)
      subst hcA
      have kk := kk H1 locs ls (hN.push (h' := sc_ h G.length (fun _ => 0)) z1 o1 sc_ne ?_) (FS.push hS z1 o1) hL
      · simp only [List.map_cons, cv, hsz] at kk
        exact kk
      · show H1[ad E G.length]? = some (arrV _ _ _)
        rw [hsz, sc_self]
        exact e1
  · cases ha
theorem s_newZ (hd : decode (mtJ j).2.1 pc = .ok (.newarray .boolean, 2)) (hw : Cond.arrayClass .boolean ∈ wsG) : SndA j pc (a_newP 2) := by
  intro E p l e R s m args below meth c H locs cells slots Q ls L S G h st' a b C0 ha hN hS hL hc hs kk
  obtain ⟨hx, hb, -, hown, hts, hK, -⟩ := C0
  simp only [a_newP] at ha
  split at ha
  · rename_i n S'
    split at ha
    · cases ha
    · rename_i hn
      cases ha
      have hn0 : ¬ n < 0 := fun q => hn (Or.inl q)
      have hn1 : n.toNatClampNeg ≤ 1000 := Nat.not_lt.mp (fun q => hn (Or.inr q))
      have hsz := hN.new_ad
      refine va_newaK (atype := .boolean) hx hb (hts _ hw) rfl hd rfl hn0 rfl (by show n.toNatClampNeg * 1 ≤ _; omega) hc hs rfl fun H1 cA e1 z1 o1 hAr hNm => ?_
      have hcA : cA = E.2.2.1.2.1 := Option.some.inj (hNm.symm.trans (hK.1.2 1 (E.2.2.1.2.1, .boolean) rfl).2)
      subst hcA
      have kk := kk H1 locs ls (hN.push (h' := sc_ h G.length (fun _ => 0)) z1 o1 sc_ne ?_) (FS.push hS z1 o1) hL
      · simp only [List.map_cons, cv, hsz] at kk
        exact kk
      · show H1[ad E G.length]? = some (arrV _ _ _)
        rw [hsz, sc_self]
        exact e1
  · cases ha
theorem s_newO {idx : Nat} (hd : decode (mtJ j).2.1 pc = .ok (.anewarray idx, 3)) {own : String} (ho : (mtJ j).1.cls = own) (hw : Cond.classLink own idx "SatchelSins$Image" ∈ wsG) : SndA j pc a_newO := by
  intro E p l e R s m args below meth c H locs cells slots Q ls L S G h st' a b C0 ha hN hS hL hc hs kk
  obtain ⟨hx, hb, -, hown, hts, hK, -⟩ := C0
  rw [ho] at hown
  simp only [a_newO] at ha
  split at ha
  · rename_i n S'
    split at ha
    · cases ha
    · rename_i hn
      cases ha
      have hn0 : ¬ n < 0 := fun q => hn (Or.inl q)
      have hn1 : n.toNatClampNeg ≤ 1000 := Nat.not_lt.mp (fun q => hn (Or.inr q))
      have hsz := hN.new_ad
      refine W.anew hx hb hown (hts _ hw) (va_AO.use hK.2.2.1) rfl hd rfl hn0 (by omega) hc hs fun cA kA comp f1 f2 f3 f4 => ?_
      generalize hH1 : H.push ({ cls := cA, slots := Array.replicate n.toNatClampNeg .null, vm := .none } : Cell) = H1
      have z1 : H1.size = H.size + 1 := by rw [← hH1, Array.size_push]
      have e1 : H1[H.size]? = some (arrV cA n.toNatClampNeg (fun _ => .null)) := by rw [← hH1, Array.getElem?_push_size, ← arrV_new]
      have o1 : ∀ q : Nat, q < H.size → H1[q]? = H[q]? := fun q hq => by rw [← hH1, Array.getElem?_push, if_neg (Nat.ne_of_lt hq)]
      obtain ⟨kA', comp', -, -, -, k4⟩ := (hK.1.2 2 (E.2.2.1.2.2.1, .object "SatchelSins$Image") rfl).2
      have hcA : cA = E.2.2.1.2.2.1 := Option.some.inj (f1.symm.trans k4)
      subst hcA
      have kk := kk H1 locs ls (hN.push (h' := h) z1 o1 (fun _ _ => rfl) ?_) (FS.push hS z1 o1) hL
      · simp only [List.map_cons, cv, hsz] at kk
        exact kk
      · show H1[ad E G.length]? = some (arrV _ _ _)
        rw [hsz, e1]
        congr 2
        funext q
        rw [List.getD_eq_getElem?_getD, List.getElem?_replicate]
        split <;> rfl
  · cases ha
theorem s_obj {idx : Nat} (hd : decode (mtJ j).2.1 pc = .ok (.invokespecial idx, 3)) {own : String} (ho : (mtJ j).1.cls = own) (hw1 : Cond.methodLink own idx Lib.objectInit ∈ wsG) (hw2 : Cond.instanceMethod Lib.objectInit ∈ wsG) (hw3 : Cond.code Lib.objectInit ⟨#[0xb1]⟩ 1 none ∈ wsG) : SndA j pc a_obj := by
  intro E p l e R s m args below meth c H locs cells slots Q ls L S G h st' a b C0 ha hN hS hL hc hs kk
  obtain ⟨hx, hb, hml, hown, hts, hK, -, hR, -⟩ := C0
  rw [ho] at hown
  simp only [a_obj] at ha
  split at ha
  · rename_i o S'
    split at ha
    · cases ha
    · rename_i hq
      cases ha
      have hcat : ((S'.map (cv E)).map fun v => v.category).sum = (S'.map fun v => v.category).sum := by
        rw [List.map_map]
        congr 1
        apply List.map_congr_left
        intro v _
        exact cv_cat E v
      refine W.objInit (a := ad E o) (rest := S'.map (cv E)) hx hb hown (hts _ hw1) (hts _ hw2) (hts _ hw3) rfl (by rw [hml]; exact hL.1.1) rfl hd hR.1 ?_ (kk H locs ls hN hS hL)
      rw [hcat]
      show 2 * 0 + _ + 12 ≤ _
      omega
  · cases ha
theorem s_copy {idx : Nat} (hd : decode (mtJ j).2.1 pc = .ok (.invokestatic idx, 3)) {own : String} (ho : (mtJ j).1.cls = own) (hw1 : Cond.methodLink own idx arraycopyName ∈ wsG) (hw2 : Cond.native arraycopyName ∈ wsG) (hw3 : Cond.static arraycopyName ∈ wsG) (hw4 : Cond.initialized "java/lang/System" ∈ wsG) : SndA j pc a_copy := by
  intro E p l e R s m args below meth c H locs cells slots Q ls L S G h st' a b C0 ha hN hS hL hc hs kk
  obtain ⟨hx, hb, hml, hown, hts, hK, -, hR, -⟩ := C0
  rw [ho] at hown
  simp only [a_copy] at ha
  split at ha
  · split at ha
    · rename_i n dp b0 sp a0 S' _ _ na _ nb _ hGa hGb
      split at ha
      · cases ha
      · rename_i hq
        cases ha
        have hn0 : ¬ n < 0 := fun q => hq (Or.inl (Or.inl q))
        have hd0 : ¬ dp < 0 := fun q => hq (Or.inl (Or.inr (Or.inl q)))
        have hs0 : ¬ sp < 0 := fun q => hq (Or.inl (Or.inr (Or.inr q)))
        have h4 : sp.toNatClampNeg + n.toNatClampNeg ≤ na := Nat.not_lt.mp (fun q => hq (Or.inr (Or.inl (Or.inl q))))
        have h5 : dp.toNatClampNeg + n.toNatClampNeg ≤ nb := Nat.not_lt.mp (fun q => hq (Or.inr (Or.inl (Or.inr q))))
        have h8 : (S'.map fun v => v.category).sum ≤ 8 := Nat.not_lt.mp (fun q => hq (Or.inr (Or.inr q)))
        have hcat : ((S'.map (cv E)).map fun v => v.category).sum = (S'.map fun v => v.category).sum := by
          rw [List.map_map]
          congr 1
          apply List.map_congr_left
          intro v _
          exact cv_cat E v
        have hc0 : H[ad E a0]? = some (arrV E.2.2.1.1 na (fun j => .int (h a0 j))) := hN.2.2.2 a0 _ hGa
        have hc1 : H[ad E b0]? = some (arrV E.2.2.1.1 nb (fun j => .int (h b0 j))) := hN.2.2.2 b0 _ hGb
        have nn : ∀ z : Int32, ¬ z < 0 → z.toInt = (z.toNatClampNeg : Int) := by
          intro z hz
          have hz0 : (0 : Int) ≤ z.toInt := by
            have := Int32.not_lt.mp hz
            simpa using Int32.le_iff_toInt_le.mp this
          show z.toInt = ((z.toInt.toNat : Nat) : Int)
          omega
        obtain ⟨-, k0, hk0, cm0, hkk0⟩ := arrI hK na (fun j => .int (h a0 j))
        intro T hT X
        obtain ⟨vm', X', step⟩ := X.arraycopy hx hown (hts _ hw1) (hts _ hw2) (hts _ hw3) (hts _ hw4) (src := ad E a0) (dst := ad E b0) (cs := arrV E.2.2.1.1 na (fun j => .int (h a0 j))) (cd := arrV E.2.2.1.1 nb (fun j => .int (h b0 j))) (srcPos := sp) (destPos := dp) (n := n) (by rw [hT]; exact hc0) (by rw [hT]; exact hc1)
          (fun _ h => by cases h) (fun _ h => by cases h) (fun h => by cases h) (fun h => by cases h) hk0 hk0 hkk0 hkk0 (by simp [refKind]) hs0 hd0 hn0
          (by rw [nn sp hs0, nn n hn0, arrV_size]; omega)
          (by rw [nn dp hd0, nn n hn0, arrV_size]; omega)
          (fun vm₁ _ i hi => by
            have e : (arrV E.2.2.1.1 na (fun j => .int (h a0 j))).slots.getD (sp.toNatClampNeg + i) .null = .int (h a0 (sp.toNatClampNeg + i)) := by
              rw [Array.getD_eq_getD_getElem?, arrV_read _ _ (by omega)]
              rfl
            refine ⟨?_, ?_⟩
            · rw [e]
              rfl
            · rw [e]
              exact trivial)
          (g := F0 m pc ls ((.int n :: .int dp :: .ref b0 :: .int sp :: .ref a0 :: S').map (cv E))) rfl (by rw [hml]; exact hL.1.1) (rest := S'.map (cv E)) rfl (by rw [hb]; exact hd) hR.1 (by
            rw [hcat]
            have : nativeFrameWords "java/lang/System" "arraycopy" 5 + 11 ≤ 80 := by decide +kernel
            show 2 * 0 + _ + _ ≤ _
            omega)
        have e1 : copied (arrV E.2.2.1.1 na (fun j => .int (h a0 j))) (arrV E.2.2.1.1 nb (fun j => .int (h b0 j))) sp dp n = arrV E.2.2.1.1 nb (fun j => .int (va_cpy (h a0) (h b0) sp.toNatClampNeg dp.toNatClampNeg n.toNatClampNeg j)) := va_copied (fun z => .int z) _ _ (h a0) (h b0) h4
        rw [e1] at X' step
        have hl : ad E b0 < H.size := (Array.getElem?_eq_some_iff.mp hc1).1
        generalize hH1 : H.setIfInBounds (ad E b0) (arrV E.2.2.1.1 nb (fun j => .int (va_cpy (h a0) (h b0) sp.toNatClampNeg dp.toNatClampNeg n.toNatClampNeg j))) = H1
        have oq : ∀ q : Nat, q ≠ ad E b0 → H1[q]? = H[q]? := fun q hq => by rw [← hH1]; simp [Array.getElem?_setIfInBounds, Ne.symm hq]
        have z : H1.size = H.size := by rw [← hH1]; simp
        have e2 : H1[ad E b0]? = some (arrV E.2.2.1.1 nb (fun j => .int (va_cpy (h a0) (h b0) sp.toNatClampNeg dp.toNatClampNeg n.toNatClampNeg j))) := by rw [← hH1]; simp [Array.getElem?_setIfInBounds, hl]
        obtain ⟨t, a1, b1⟩ := kk H1 _ ls (hN.upd0 (h' := sc_ h b0 (va_cpy (h a0) (h b0) sp.toNatClampNeg dp.toNatClampNeg n.toNatClampNeg)) hGb (by simp) z oq sc_ne (by rw [sc_self]; exact e2))
          ⟨by rw [z]; exact hS.1, fun q g1 g2 => by
            rw [oq q (fun e => g2 (by rw [e]; exact hN.pos hGb (by simp)))]
            exact hS.2.1 q g1 g2, fun q hq => by
            rcases List.mem_append.mp hq with h | h
            · exact hS.2.2 q h
            · obtain ⟨z, -, hz⟩ := List.mem_map.mp h
              rw [← hz]
              exact hN.pos hGb (by simp)⟩ hL _ (by rw [← hH1, ← hT]; rfl) X'
        exact ⟨t, step t a1, b1⟩
    · cases ha
  · cases ha
theorem s_max {idx : Nat} (hd : decode (mtJ j).2.1 pc = .ok (.invokestatic idx, 3)) {own : String} (ho : (mtJ j).1.cls = own) (hw1 : Cond.methodLink own idx Lib.Math.max.name ∈ wsG) (hw2 : Cond.static Lib.Math.max.name ∈ wsG) (hw3 : Cond.initialized "java/lang/Math" ∈ wsG) (hw4 : Cond.code Lib.Math.max.name Lib.Math.max.code 2 (some .int) ∈ wsG) : SndA j pc a_max := by
  intro E p l e R s m args below meth c H locs cells slots Q ls L S G h st' a b C0 ha hN hS hL hc hs kk
  obtain ⟨hx, hb, hml, hown, hts, hK, -, hR, -⟩ := C0
  rw [ho] at hown
  simp only [a_max] at ha
  split at ha
  · rename_i y x S'
    split at ha
    · cases ha
    · rename_i hq
      cases ha
      have hcat : ((S'.map (cv E)).map fun v => v.category).sum = (S'.map fun v => v.category).sum := by
        rw [List.map_map]
        congr 1
        apply List.map_congr_left
        intro v _
        exact cv_cat E v
      exact va_mmax (x := x) (y := y) (rest := S'.map (cv E)) hx hb (by rw [hml]; exact hL.1.1.symm) hown (hts _ hw1) (hts _ hw2) (hts _ hw3) (hts _ hw4) hR.1 (by rw [hcat]; omega) hc hs hd (kk H locs ls hN hS hL)
  · cases ha
theorem s_min {idx : Nat} (hd : decode (mtJ j).2.1 pc = .ok (.invokestatic idx, 3)) {own : String} (ho : (mtJ j).1.cls = own) (hw1 : Cond.methodLink own idx Lib.Math.min.name ∈ wsG) (hw2 : Cond.static Lib.Math.min.name ∈ wsG) (hw3 : Cond.initialized "java/lang/Math" ∈ wsG) (hw4 : Cond.code Lib.Math.min.name Lib.Math.min.code 2 (some .int) ∈ wsG) : SndA j pc a_min := by
  intro E p l e R s m args below meth c H locs cells slots Q ls L S G h st' a b C0 ha hN hS hL hc hs kk
  obtain ⟨hx, hb, hml, hown, hts, hK, -, hR, -⟩ := C0
  rw [ho] at hown
  simp only [a_min] at ha
  split at ha
  · rename_i y x S'
    split at ha
    · cases ha
    · rename_i hq
      cases ha
      have hcat : ((S'.map (cv E)).map fun v => v.category).sum = (S'.map fun v => v.category).sum := by
        rw [List.map_map]
        congr 1
        apply List.map_congr_left
        intro v _
        exact cv_cat E v
      exact va_mmin (x := x) (y := y) (rest := S'.map (cv E)) hx hb (by rw [hml]; exact hL.1.1.symm) hown (hts _ hw1) (hts _ hw2) (hts _ hw3) (hts _ hw4) hR.1 (by rw [hcat]; omega) hc hs hd (kk H locs ls hN hS hL)
  · cases ha
end RR

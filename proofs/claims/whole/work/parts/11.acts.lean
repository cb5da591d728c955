/-! EACH PLAIN INSTRUCTION OF THE SMALL MACHINE IS ONE OF THE LARGE ONE -/
section AA
variable {j pc : Nat}
theorem s_iconst {n : Int} {v : Int32} (hd : decode (mtJ j).2.1 pc = .ok (.iconst n, 1)) (hv : Int32.ofInt n = v) : SndA j pc (a_push 1 (.int v)) := by
  intro E p l e R s m args below meth c H locs cells slots Q ls L S G h st' a b C ha hN hS hL hc hs kk
  obtain ⟨hx, hb, -⟩ := C
  cases ha
  exact lv_iconst hx hb hd hv (kk H locs ls hN hS hL)
theorem s_bipush {n : Int} {v : Int32} (hd : decode (mtJ j).2.1 pc = .ok (.bipush n, 2)) (hv : (Int8.ofInt n).toInt32 = v) : SndA j pc (a_push 2 (.int v)) := by
  intro E p l e R s m args below meth c H locs cells slots Q ls L S G h st' a b C ha hN hS hL hc hs kk
  obtain ⟨hx, hb, -⟩ := C
  cases ha
  exact lv_bipush hx hb hd hv (kk H locs ls hN hS hL)
theorem s_sipush {n : Int} {v : Int32} (hd : decode (mtJ j).2.1 pc = .ok (.sipush n, 3)) (hv : (Int16.ofInt n).toInt32 = v) : SndA j pc (a_push 3 (.int v)) := by
  intro E p l e R s m args below meth c H locs cells slots Q ls L S G h st' a b C ha hN hS hL hc hs kk
  obtain ⟨hx, hb, -⟩ := C
  cases ha
  exact lv_sipush hx hb hd hv (kk H locs ls hN hS hL)
theorem s_lconst {n : Fin 2} {v : Int64} (hd : decode (mtJ j).2.1 pc = .ok (.lconst n, 1)) (hv : Int64.ofNat (n : Nat) = v) : SndA j pc (a_push 1 (.long v)) := by
  intro E p l e R s m args below meth c H locs cells slots Q ls L S G h st' a b C ha hN hS hL hc hs kk
  obtain ⟨hx, hb, -⟩ := C
  cases ha
  exact lv_lconst hx hb hd hv (kk H locs ls hN hS hL)
theorem s_ldc {i : Nat} {v : Int32} (hd : decode (mtJ j).2.1 pc = .ok (.ldc i, 2)) {own : String} (ho : (mtJ j).1.cls = own) (hw : Cond.constant own i v ∈ wsG) : SndA j pc (a_push 2 (.int v)) := by
  intro E p l e R s m args below meth c H locs cells slots Q ls L S G h st' a b C ha hN hS hL hc hs kk
  obtain ⟨hx, hb, -, hown, hts, -⟩ := C
  cases ha
  rw [ho] at hown
  exact lv_ldc hx hb hown (hts _ hw) hd (kk H locs ls hN hS hL)
theorem s_ldcw {i : Nat} {v : Int32} (hd : decode (mtJ j).2.1 pc = .ok (.ldc_w i, 3)) {own : String} (ho : (mtJ j).1.cls = own) (hw : Cond.constant own i v ∈ wsG) : SndA j pc (a_push 3 (.int v)) := by
  intro E p l e R s m args below meth c H locs cells slots Q ls L S G h st' a b C ha hN hS hL hc hs kk
  obtain ⟨hx, hb, -, hown, hts, -⟩ := C
  cases ha
  rw [ho] at hown
  exact lv_ldcw hx hb hown (hts _ hw) hd (kk H locs ls hN hS hL)
theorem s_ldc2 {i : Nat} {v : Int64} (hd : decode (mtJ j).2.1 pc = .ok (.ldc2_w i, 3)) {own : String} (ho : (mtJ j).1.cls = own) (hw : Cond.constantLong own i v ∈ wsG) : SndA j pc (a_push 3 (.long v)) := by
  intro E p l e R s m args below meth c H locs cells slots Q ls L S G h st' a b C ha hN hS hL hc hs kk
  obtain ⟨hx, hb, -, hown, hts, -⟩ := C
  cases ha
  rw [ho] at hown
  exact lv_ldc2 hx hb hown (hts _ hw) hd (kk H locs ls hN hS hL)
theorem s_iload_n {k : Fin 4} {i : Nat} (hd : decode (mtJ j).2.1 pc = .ok (.iload_n k, 1)) (hi : (k : Nat) = i) : SndA j pc (a_iload 1 i) := by
  intro E p l e R s m args below meth c H locs cells slots Q ls L S G h st' a b C ha hN hS hL hc hs kk
  obtain ⟨hx, hb, -⟩ := C
  simp only [a_iload] at ha
  split at ha
  · rename_i x hx'
    cases ha
    exact lv_iload_n hx hb hd hi (hL.at hx' rfl) (kk H locs ls hN hS hL)
  · cases ha
theorem s_iload {i : Nat} (hd : decode (mtJ j).2.1 pc = .ok (.iload i, 2)) : SndA j pc (a_iload 2 i) := by
  intro E p l e R s m args below meth c H locs cells slots Q ls L S G h st' a b C ha hN hS hL hc hs kk
  obtain ⟨hx, hb, -⟩ := C
  simp only [a_iload] at ha
  split at ha
  · rename_i x hx'
    cases ha
    exact lv_iload hx hb hd (hL.at hx' rfl) (kk H locs ls hN hS hL)
  · cases ha
theorem s_lload_n {k : Fin 4} {i : Nat} (hd : decode (mtJ j).2.1 pc = .ok (.lload_n k, 1)) (hi : (k : Nat) = i) : SndA j pc (a_lload 1 i) := by
  intro E p l e R s m args below meth c H locs cells slots Q ls L S G h st' a b C ha hN hS hL hc hs kk
  obtain ⟨hx, hb, -⟩ := C
  simp only [a_lload] at ha
  split at ha
  · rename_i x hx'
    cases ha
    exact lv_lload_n hx hb hd hi (hL.at hx' rfl) (kk H locs ls hN hS hL)
  · cases ha
theorem s_lload {i : Nat} (hd : decode (mtJ j).2.1 pc = .ok (.lload i, 2)) : SndA j pc (a_lload 2 i) := by
  intro E p l e R s m args below meth c H locs cells slots Q ls L S G h st' a b C ha hN hS hL hc hs kk
  obtain ⟨hx, hb, -⟩ := C
  simp only [a_lload] at ha
  split at ha
  · rename_i x hx'
    cases ha
    exact lv_lload hx hb hd (hL.at hx' rfl) (kk H locs ls hN hS hL)
  · cases ha
theorem s_aload_n {k : Fin 4} {i : Nat} (hd : decode (mtJ j).2.1 pc = .ok (.aload_n k, 1)) (hi : (k : Nat) = i) : SndA j pc (a_aload 1 i) := by
  intro E p l e R s m args below meth c H locs cells slots Q ls L S G h st' a b C ha hN hS hL hc hs kk
  obtain ⟨hx, hb, -⟩ := C
  simp only [a_aload] at ha
  split at ha
  · rename_i x hx'
    cases ha
    exact lv_aload_n hx hb hd hi (hL.at hx' rfl) (kk H locs ls hN hS hL)
  · cases ha
theorem s_istore_n {k : Fin 4} {i : Nat} (hd : decode (mtJ j).2.1 pc = .ok (.istore_n k, 1)) (hi : (k : Nat) = i) : SndA j pc (a_istore 1 i) := by
  intro E p l e R s m args below meth c H locs cells slots Q ls L S G h st' a b C ha hN hS hL hc hs kk
  obtain ⟨hx, hb, -⟩ := C
  simp only [a_istore] at ha
  split at ha
  · split at ha
    · rename_i hi2
      cases ha
      exact lv_istore_n hx hb hd hi hL.1 (by rw [← hL.2]; exact hi2.1) rfl (fun ls' hl' => kk H locs ls' hN hS (hL.set1 hi2.2 hi2.1 hl'))
    · cases ha
  · cases ha
theorem s_istore {i : Nat} (hd : decode (mtJ j).2.1 pc = .ok (.istore i, 2)) : SndA j pc (a_istore 2 i) := by
  intro E p l e R s m args below meth c H locs cells slots Q ls L S G h st' a b C ha hN hS hL hc hs kk
  obtain ⟨hx, hb, -⟩ := C
  simp only [a_istore] at ha
  split at ha
  · split at ha
    · rename_i hi2
      cases ha
      exact lv_istore hx hb hd hL.1 (by rw [← hL.2]; exact hi2.1) rfl (fun ls' hl' => kk H locs ls' hN hS (hL.set1 hi2.2 hi2.1 hl'))
    · cases ha
  · cases ha
theorem s_lstore_n {k : Fin 4} {i : Nat} (hd : decode (mtJ j).2.1 pc = .ok (.lstore_n k, 1)) (hi : (k : Nat) = i) : SndA j pc (a_lstore 1 i) := by
  intro E p l e R s m args below meth c H locs cells slots Q ls L S G h st' a b C ha hN hS hL hc hs kk
  obtain ⟨hx, hb, -⟩ := C
  simp only [a_lstore] at ha
  split at ha
  · split at ha
    · rename_i hi2
      cases ha
      exact lv_lstore_n hx hb hd hi hL.1 (by rw [← hL.2]; exact hi2.1) rfl (fun ls' hl' => kk H locs ls' hN hS (hL.set2 hi2.2 hi2.1 hl'))
    · cases ha
  · cases ha
theorem s_astore_n {k : Fin 4} {i : Nat} (hd : decode (mtJ j).2.1 pc = .ok (.astore_n k, 1)) (hi : (k : Nat) = i) : SndA j pc (a_astore 1 i) := by
  intro E p l e R s m args below meth c H locs cells slots Q ls L S G h st' a b C ha hN hS hL hc hs kk
  obtain ⟨hx, hb, -⟩ := C
  simp only [a_astore] at ha
  split at ha
  · rename_i x S'
    split at ha
    · rename_i hi2
      cases ha
      exact lv_astore_n (x := ad E x) hx hb hd hi hL.1 (by rw [← hL.2]; exact hi2.1) rfl (fun ls' hl' => kk H locs ls' hN hS (hL.set1 (v := .ref x) hi2.2 hi2.1 hl'))
    · cases ha
  · cases ha
theorem s_iinc {i : Nat} {n : Int} {v : Int32} (hd : decode (mtJ j).2.1 pc = .ok (.iinc i n, 3)) (hv : Int32.ofInt n = v) : SndA j pc (a_iinc i v) := by
  intro E p l e R s m args below meth c H locs cells slots Q ls L S G h st' a b C ha hN hS hL hc hs kk
  obtain ⟨hx, hb, -⟩ := C
  simp only [a_iinc] at ha
  split at ha
  · rename_i x hx'
    split at ha
    · rename_i hi2
      cases ha
      have hlt : i < L.length := (List.getElem?_eq_some_iff.mp hx').1
      obtain ⟨q, hq⟩ := List.getElem?_of_mem (lvl_mem (E := E) (L := L) (q := (i, .int x)) |>.mpr ⟨.int x, hx', rfl, rfl⟩)
      exact lv_iinc (v := x + v) hx hb hd hL.1 hq (by rw [hv]) (by rw [← hL.2]; exact hlt) rfl (fun ls' hl' => kk H locs ls' hN hS (hL.set1 (v := .int (x + v)) hi2 hlt hl'))
    · cases ha
  · cases ha
theorem s_iadd (hd : decode (mtJ j).2.1 pc = .ok (.iadd, 1)) : SndA j pc (a_bin (fun x y => x + y)) := by
  intro E p l e R s m args below meth c H locs cells slots Q ls L S G h st' a b C ha hN hS hL hc hs kk
  obtain ⟨hx, hb, -⟩ := C
  simp only [a_bin] at ha
  split at ha
  · cases ha
    exact lv_iadd hx hb hd (kk H locs ls hN hS hL)
  · cases ha
theorem s_isub (hd : decode (mtJ j).2.1 pc = .ok (.isub, 1)) : SndA j pc (a_bin (fun x y => x - y)) := by
  intro E p l e R s m args below meth c H locs cells slots Q ls L S G h st' a b C ha hN hS hL hc hs kk
  obtain ⟨hx, hb, -⟩ := C
  simp only [a_bin] at ha
  split at ha
  · cases ha
    exact lv_isub hx hb hd (kk H locs ls hN hS hL)
  · cases ha
theorem s_imul (hd : decode (mtJ j).2.1 pc = .ok (.imul, 1)) : SndA j pc (a_bin (fun x y => x * y)) := by
  intro E p l e R s m args below meth c H locs cells slots Q ls L S G h st' a b C ha hN hS hL hc hs kk
  obtain ⟨hx, hb, -⟩ := C
  simp only [a_bin] at ha
  split at ha
  · cases ha
    exact lv_imul hx hb hd (kk H locs ls hN hS hL)
  · cases ha
theorem s_iand (hd : decode (mtJ j).2.1 pc = .ok (.iand, 1)) : SndA j pc (a_bin (fun x y => x &&& y)) := by
  intro E p l e R s m args below meth c H locs cells slots Q ls L S G h st' a b C ha hN hS hL hc hs kk
  obtain ⟨hx, hb, -⟩ := C
  simp only [a_bin] at ha
  split at ha
  · cases ha
    exact lv_iand hx hb hd (kk H locs ls hN hS hL)
  · cases ha
theorem s_ior (hd : decode (mtJ j).2.1 pc = .ok (.ior, 1)) : SndA j pc (a_bin (fun x y => x ||| y)) := by
  intro E p l e R s m args below meth c H locs cells slots Q ls L S G h st' a b C ha hN hS hL hc hs kk
  obtain ⟨hx, hb, -⟩ := C
  simp only [a_bin] at ha
  split at ha
  · cases ha
    exact lv_ior hx hb hd (kk H locs ls hN hS hL)
  · cases ha
theorem s_ishl (hd : decode (mtJ j).2.1 pc = .ok (.ishl, 1)) : SndA j pc (a_bin (fun x y => x <<< (y &&& 31))) := by
  intro E p l e R s m args below meth c H locs cells slots Q ls L S G h st' a b C ha hN hS hL hc hs kk
  obtain ⟨hx, hb, -⟩ := C
  simp only [a_bin] at ha
  split at ha
  · cases ha
    exact lv_ishl hx hb hd (kk H locs ls hN hS hL)
  · cases ha
theorem s_ishr (hd : decode (mtJ j).2.1 pc = .ok (.ishr, 1)) : SndA j pc (a_bin (fun x y => x >>> (y &&& 31))) := by
  intro E p l e R s m args below meth c H locs cells slots Q ls L S G h st' a b C ha hN hS hL hc hs kk
  obtain ⟨hx, hb, -⟩ := C
  simp only [a_bin] at ha
  split at ha
  · cases ha
    exact lv_ishr hx hb hd (kk H locs ls hN hS hL)
  · cases ha
theorem s_idiv (hd : decode (mtJ j).2.1 pc = .ok (.idiv, 1)) : SndA j pc a_div := by
  intro E p l e R s m args below meth c H locs cells slots Q ls L S G h st' a b C ha hN hS hL hc hs kk
  obtain ⟨hx, hb, -⟩ := C
  simp only [a_div] at ha
  split at ha
  · split at ha
    · cases ha
    · rename_i hne
      cases ha
      exact lv_idiv hx hb hd hne (kk H locs ls hN hS hL)
  · cases ha
theorem s_irem (hd : decode (mtJ j).2.1 pc = .ok (.irem, 1)) : SndA j pc a_rem := by
  intro E p l e R s m args below meth c H locs cells slots Q ls L S G h st' a b C ha hN hS hL hc hs kk
  obtain ⟨hx, hb, -⟩ := C
  simp only [a_rem] at ha
  split at ha
  · split at ha
    · cases ha
    · rename_i hne
      cases ha
      exact lv_irem hx hb hd hne (kk H locs ls hN hS hL)
  · cases ha
theorem s_ladd (hd : decode (mtJ j).2.1 pc = .ok (.ladd, 1)) : SndA j pc (a_lbin (fun x y => x + y)) := by
  intro E p l e R s m args below meth c H locs cells slots Q ls L S G h st' a b C ha hN hS hL hc hs kk
  obtain ⟨hx, hb, -⟩ := C
  simp only [a_lbin] at ha
  split at ha
  · cases ha
    exact lv_ladd hx hb hd (kk H locs ls hN hS hL)
  · cases ha
theorem s_lmul (hd : decode (mtJ j).2.1 pc = .ok (.lmul, 1)) : SndA j pc (a_lbin (fun x y => x * y)) := by
  intro E p l e R s m args below meth c H locs cells slots Q ls L S G h st' a b C ha hN hS hL hc hs kk
  obtain ⟨hx, hb, -⟩ := C
  simp only [a_lbin] at ha
  split at ha
  · cases ha
    exact lv_lmul hx hb hd (kk H locs ls hN hS hL)
  · cases ha
theorem s_land (hd : decode (mtJ j).2.1 pc = .ok (.land, 1)) : SndA j pc (a_lbin (fun x y => x &&& y)) := by
  intro E p l e R s m args below meth c H locs cells slots Q ls L S G h st' a b C ha hN hS hL hc hs kk
  obtain ⟨hx, hb, -⟩ := C
  simp only [a_lbin] at ha
  split at ha
  · cases ha
    exact lv_land hx hb hd (kk H locs ls hN hS hL)
  · cases ha
theorem s_ldiv (hd : decode (mtJ j).2.1 pc = .ok (.ldiv, 1)) : SndA j pc a_ldiv := by
  intro E p l e R s m args below meth c H locs cells slots Q ls L S G h st' a b C ha hN hS hL hc hs kk
  obtain ⟨hx, hb, -⟩ := C
  simp only [a_ldiv] at ha
  split at ha
  · split at ha
    · cases ha
    · rename_i hne
      cases ha
      exact lv_ldiv hx hb hd hne (kk H locs ls hN hS hL)
  · cases ha
theorem s_lrem (hd : decode (mtJ j).2.1 pc = .ok (.lrem, 1)) : SndA j pc a_lrem := by
  intro E p l e R s m args below meth c H locs cells slots Q ls L S G h st' a b C ha hN hS hL hc hs kk
  obtain ⟨hx, hb, -⟩ := C
  simp only [a_lrem] at ha
  split at ha
  · split at ha
    · cases ha
    · rename_i hne
      cases ha
      exact lv_lrem hx hb hd hne (kk H locs ls hN hS hL)
  · cases ha
theorem s_i2l (hd : decode (mtJ j).2.1 pc = .ok (.i2l, 1)) : SndA j pc a_i2l := by
  intro E p l e R s m args below meth c H locs cells slots Q ls L S G h st' a b C ha hN hS hL hc hs kk
  obtain ⟨hx, hb, -⟩ := C
  simp only [a_i2l] at ha
  split at ha
  · cases ha
    exact lv_i2l hx hb hd rfl (kk H locs ls hN hS hL)
  · cases ha
theorem s_l2i (hd : decode (mtJ j).2.1 pc = .ok (.l2i, 1)) : SndA j pc a_l2i := by
  intro E p l e R s m args below meth c H locs cells slots Q ls L S G h st' a b C ha hN hS hL hc hs kk
  obtain ⟨hx, hb, -⟩ := C
  simp only [a_l2i] at ha
  split at ha
  · cases ha
    exact lv_l2i hx hb hd rfl (kk H locs ls hN hS hL)
  · cases ha
theorem s_lcmp (hd : decode (mtJ j).2.1 pc = .ok (.lcmp, 1)) : SndA j pc a_lcmp := by
  intro E p l e R s m args below meth c H locs cells slots Q ls L S G h st' a b C ha hN hS hL hc hs kk
  obtain ⟨hx, hb, -⟩ := C
  simp only [a_lcmp] at ha
  split at ha
  · cases ha
    exact W.lcmp hx hb hd (kk H locs ls hN hS hL)
  · cases ha
theorem s_dup (hd : decode (mtJ j).2.1 pc = .ok (.dup, 1)) : SndA j pc a_dup := by
  intro E p l e R s m args below meth c H locs cells slots Q ls L S G h st' a b C ha hN hS hL hc hs kk
  obtain ⟨hx, hb, -⟩ := C
  simp only [a_dup] at ha
  split at ha
  · cases ha
    exact lv_dup hx hb hd rfl (kk H locs ls hN hS hL)
  · cases ha
    exact lv_dup hx hb hd rfl (kk H locs ls hN hS hL)
  · cases ha
theorem s_dup2 (hd : decode (mtJ j).2.1 pc = .ok (.dup2, 1)) : SndA j pc a_dup2 := by
  intro E p l e R s m args below meth c H locs cells slots Q ls L S G h st' a b C ha hN hS hL hc hs kk
  obtain ⟨hx, hb, -⟩ := C
  simp only [a_dup2] at ha
  split at ha
  · cases ha
    exact lv_dup2_11 hx hb hd rfl rfl (kk H locs ls hN hS hL)
  · cases ha
theorem s_pop (hd : decode (mtJ j).2.1 pc = .ok (.pop, 1)) : SndA j pc a_pop := by
  intro E p l e R s m args below meth c H locs cells slots Q ls L S G h st' a b C ha hN hS hL hc hs kk
  obtain ⟨hx, hb, -⟩ := C
  simp only [a_pop] at ha
  split at ha
  · cases ha
    exact lv_pop hx hb hd rfl (kk H locs ls hN hS hL)
  · cases ha
theorem s_goto {off : Int} {t : Nat} (hd : decode (mtJ j).2.1 pc = .ok (.goto off, 3)) (ht : (pc : Int) + off = (t : Int)) : SndA j pc (a_goto t) := by
  intro E p l e R s m args below meth c H locs cells slots Q ls L S G h st' a b C ha hN hS hL hc hs kk
  obtain ⟨hx, hb, -⟩ := C
  cases ha
  exact lv_goto hx hb hd ht (kk H locs ls hN hS hL)
theorem s_if_eq {off : Int} {t : Nat} (hd : decode (mtJ j).2.1 pc = .ok (.ifCond .eq off, 3)) (ht : (pc : Int) + off = (t : Int)) : SndA j pc (a_if1 (fun x => decide (x = 0)) t) := by
  intro E p l e R s m args below meth c H locs cells slots Q ls L S G h st' a b C ha hN hS hL hc hs kk
  obtain ⟨hx, hb, -⟩ := C
  simp only [a_if1] at ha
  split at ha
  · rename_i x S'
    cases ha
    have kk := kk H locs ls hN hS hL
    refine lv_if_eq hx hb hd ht (fun q => ?_) (fun q => ?_)
    · first | (rw [decide_eq_true q] at kk; exact kk) | (simp only [q] at kk; simpa using kk)
    · first | (rw [decide_eq_false q] at kk; exact kk) | (simp only [q] at kk; simpa using kk)
  · cases ha
theorem s_if_ne {off : Int} {t : Nat} (hd : decode (mtJ j).2.1 pc = .ok (.ifCond .ne off, 3)) (ht : (pc : Int) + off = (t : Int)) : SndA j pc (a_if1 (fun x => decide (¬ x = 0)) t) := by
  intro E p l e R s m args below meth c H locs cells slots Q ls L S G h st' a b C ha hN hS hL hc hs kk
  obtain ⟨hx, hb, -⟩ := C
  simp only [a_if1] at ha
  split at ha
  · rename_i x S'
    cases ha
    have kk := kk H locs ls hN hS hL
    refine lv_if_ne hx hb hd ht (fun q => ?_) (fun q => ?_)
    · first | (rw [decide_eq_true q] at kk; exact kk) | (simp only [q] at kk; simpa using kk)
    · first | (rw [decide_eq_false q] at kk; exact kk) | (simp only [q] at kk; simpa using kk)
  · cases ha
theorem s_if_lt {off : Int} {t : Nat} (hd : decode (mtJ j).2.1 pc = .ok (.ifCond .lt off, 3)) (ht : (pc : Int) + off = (t : Int)) : SndA j pc (a_if1 (fun x => decide (x < 0)) t) := by
  intro E p l e R s m args below meth c H locs cells slots Q ls L S G h st' a b C ha hN hS hL hc hs kk
  obtain ⟨hx, hb, -⟩ := C
  simp only [a_if1] at ha
  split at ha
  · rename_i x S'
    cases ha
    have kk := kk H locs ls hN hS hL
    refine lv_if_lt hx hb hd ht (fun q => ?_) (fun q => ?_)
    · first | (rw [decide_eq_true q] at kk; exact kk) | (simp only [q] at kk; simpa using kk)
    · first | (rw [decide_eq_false q] at kk; exact kk) | (simp only [q] at kk; simpa using kk)
  · cases ha
theorem s_if_ge {off : Int} {t : Nat} (hd : decode (mtJ j).2.1 pc = .ok (.ifCond .ge off, 3)) (ht : (pc : Int) + off = (t : Int)) : SndA j pc (a_if1 (fun x => decide (0 ≤ x)) t) := by
  intro E p l e R s m args below meth c H locs cells slots Q ls L S G h st' a b C ha hN hS hL hc hs kk
  obtain ⟨hx, hb, -⟩ := C
  simp only [a_if1] at ha
  split at ha
  · rename_i x S'
    cases ha
    have kk := kk H locs ls hN hS hL
    refine lv_if_ge hx hb hd ht (fun q => ?_) (fun q => ?_)
    · first | (rw [decide_eq_true q] at kk; exact kk) | (simp only [q] at kk; simpa using kk)
    · first | (rw [decide_eq_false q] at kk; exact kk) | (simp only [q] at kk; simpa using kk)
  · cases ha
theorem s_if_gt {off : Int} {t : Nat} (hd : decode (mtJ j).2.1 pc = .ok (.ifCond .gt off, 3)) (ht : (pc : Int) + off = (t : Int)) : SndA j pc (a_if1 (fun x => decide (0 < x)) t) := by
  intro E p l e R s m args below meth c H locs cells slots Q ls L S G h st' a b C ha hN hS hL hc hs kk
  obtain ⟨hx, hb, -⟩ := C
  simp only [a_if1] at ha
  split at ha
  · rename_i x S'
    cases ha
    have kk := kk H locs ls hN hS hL
    refine lv_if_gt hx hb hd ht (fun q => ?_) (fun q => ?_)
    · first | (rw [decide_eq_true q] at kk; exact kk) | (simp only [q] at kk; simpa using kk)
    · first | (rw [decide_eq_false q] at kk; exact kk) | (simp only [q] at kk; simpa using kk)
  · cases ha
theorem s_if_le {off : Int} {t : Nat} (hd : decode (mtJ j).2.1 pc = .ok (.ifCond .le off, 3)) (ht : (pc : Int) + off = (t : Int)) : SndA j pc (a_if1 (fun x => decide (x ≤ 0)) t) := by
  intro E p l e R s m args below meth c H locs cells slots Q ls L S G h st' a b C ha hN hS hL hc hs kk
  obtain ⟨hx, hb, -⟩ := C
  simp only [a_if1] at ha
  split at ha
  · rename_i x S'
    cases ha
    have kk := kk H locs ls hN hS hL
    refine lv_if_le hx hb hd ht (fun q => ?_) (fun q => ?_)
    · first | (rw [decide_eq_true q] at kk; exact kk) | (simp only [q] at kk; simpa using kk)
    · first | (rw [decide_eq_false q] at kk; exact kk) | (simp only [q] at kk; simpa using kk)
  · cases ha
theorem s_icmp_eq {off : Int} {t : Nat} (hd : decode (mtJ j).2.1 pc = .ok (.if_icmp .eq off, 3)) (ht : (pc : Int) + off = (t : Int)) : SndA j pc (a_if2 (fun x y => decide (x = y)) t) := by
  intro E p l e R s m args below meth c H locs cells slots Q ls L S G h st' a b C ha hN hS hL hc hs kk
  obtain ⟨hx, hb, -⟩ := C
  simp only [a_if2] at ha
  split at ha
  · rename_i y x S'
    cases ha
    have kk := kk H locs ls hN hS hL
    refine lv_icmp_eq hx hb hd ht (fun q => ?_) (fun q => ?_)
    · first | (rw [decide_eq_true q] at kk; exact kk) | (simp only [q] at kk; simpa using kk)
    · first | (rw [decide_eq_false q] at kk; exact kk) | (simp only [q] at kk; simpa using kk)
  · cases ha
theorem s_icmp_ne {off : Int} {t : Nat} (hd : decode (mtJ j).2.1 pc = .ok (.if_icmp .ne off, 3)) (ht : (pc : Int) + off = (t : Int)) : SndA j pc (a_if2 (fun x y => decide (¬ x = y)) t) := by
  intro E p l e R s m args below meth c H locs cells slots Q ls L S G h st' a b C ha hN hS hL hc hs kk
  obtain ⟨hx, hb, -⟩ := C
  simp only [a_if2] at ha
  split at ha
  · rename_i y x S'
    cases ha
    have kk := kk H locs ls hN hS hL
    refine lv_icmp_ne hx hb hd ht (fun q => ?_) (fun q => ?_)
    · first | (rw [decide_eq_true q] at kk; exact kk) | (simp only [q] at kk; simpa using kk)
    · first | (rw [decide_eq_false q] at kk; exact kk) | (simp only [q] at kk; simpa using kk)
  · cases ha
theorem s_icmp_lt {off : Int} {t : Nat} (hd : decode (mtJ j).2.1 pc = .ok (.if_icmp .lt off, 3)) (ht : (pc : Int) + off = (t : Int)) : SndA j pc (a_if2 (fun x y => decide (x < y)) t) := by
  intro E p l e R s m args below meth c H locs cells slots Q ls L S G h st' a b C ha hN hS hL hc hs kk
  obtain ⟨hx, hb, -⟩ := C
  simp only [a_if2] at ha
  split at ha
  · rename_i y x S'
    cases ha
    have kk := kk H locs ls hN hS hL
    refine lv_icmp_lt hx hb hd ht (fun q => ?_) (fun q => ?_)
    · first | (rw [decide_eq_true q] at kk; exact kk) | (simp only [q] at kk; simpa using kk)
    · first | (rw [decide_eq_false q] at kk; exact kk) | (simp only [q] at kk; simpa using kk)
  · cases ha
theorem s_icmp_ge {off : Int} {t : Nat} (hd : decode (mtJ j).2.1 pc = .ok (.if_icmp .ge off, 3)) (ht : (pc : Int) + off = (t : Int)) : SndA j pc (a_if2 (fun x y => decide (y ≤ x)) t) := by
  intro E p l e R s m args below meth c H locs cells slots Q ls L S G h st' a b C ha hN hS hL hc hs kk
  obtain ⟨hx, hb, -⟩ := C
  simp only [a_if2] at ha
  split at ha
  · rename_i y x S'
    cases ha
    have kk := kk H locs ls hN hS hL
    refine lv_icmp_ge hx hb hd ht (fun q => ?_) (fun q => ?_)
    · first | (rw [decide_eq_true q] at kk; exact kk) | (simp only [q] at kk; simpa using kk)
    · first | (rw [decide_eq_false q] at kk; exact kk) | (simp only [q] at kk; simpa using kk)
  · cases ha
theorem s_icmp_gt {off : Int} {t : Nat} (hd : decode (mtJ j).2.1 pc = .ok (.if_icmp .gt off, 3)) (ht : (pc : Int) + off = (t : Int)) : SndA j pc (a_if2 (fun x y => decide (y < x)) t) := by
  intro E p l e R s m args below meth c H locs cells slots Q ls L S G h st' a b C ha hN hS hL hc hs kk
  obtain ⟨hx, hb, -⟩ := C
  simp only [a_if2] at ha
  split at ha
  · rename_i y x S'
    cases ha
    have kk := kk H locs ls hN hS hL
    refine lv_icmp_gt hx hb hd ht (fun q => ?_) (fun q => ?_)
    · first | (rw [decide_eq_true q] at kk; exact kk) | (simp only [q] at kk; simpa using kk)
    · first | (rw [decide_eq_false q] at kk; exact kk) | (simp only [q] at kk; simpa using kk)
  · cases ha
theorem s_icmp_le {off : Int} {t : Nat} (hd : decode (mtJ j).2.1 pc = .ok (.if_icmp .le off, 3)) (ht : (pc : Int) + off = (t : Int)) : SndA j pc (a_if2 (fun x y => decide (x ≤ y)) t) := by
  intro E p l e R s m args below meth c H locs cells slots Q ls L S G h st' a b C ha hN hS hL hc hs kk
  obtain ⟨hx, hb, -⟩ := C
  simp only [a_if2] at ha
  split at ha
  · rename_i y x S'
    cases ha
    have kk := kk H locs ls hN hS hL
    refine lv_icmp_le hx hb hd ht (fun q => ?_) (fun q => ?_)
    · first | (rw [decide_eq_true q] at kk; exact kk) | (simp only [q] at kk; simpa using kk)
    · first | (rw [decide_eq_false q] at kk; exact kk) | (simp only [q] at kk; simpa using kk)
  · cases ha
end AA

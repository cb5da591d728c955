/-! THE LAW: its loop, its entry -/
def lawQ : Post := fun v _ _ => v = some 1
theorem law_i4 {L i : Nat} (hL : L ≤ 256) (hi : i ≤ 300) (q : ¬ nI L - 4 < nI i) : i + 4 ≤ L := by
  have e := pk_sub_toInt (a := L) (b := 4) (by omega) (by decide)
  have e2 : (nI i).toInt = (i : Int) := nI_toInt (by omega)
  rw [Int32.lt_iff_toInt_lt, show (nI L - 4).toInt = (L : Int) - 4 from e, e2] at q
  omega
section LAWC
variable {L i : Nat} {h : AH}
set_option maxRecDepth 20000 in
theorem law_0 (hL : L ≤ 256) (hi : i + 4 ≤ L) (E : RelE h) (hb : ∀ h2, RelE h2 → T 21 187 0 0 (850, [.ref 0, .ref 1, .ref 43, .int (nI i)], [], S0 L, h2) lawQ) : T 21 187 0 0 (160, [.ref 0, .ref 1, .ref 43, .int (nI i)], [], S0 L, h) lawQ := by
  obtain ⟨d1, d2, v, h1, h2, hd1, hd2, r1, r2, hr, e0⟩ := sm_feed (L := L) E (h 0 (i + 1))
  refine T_run 5 (st' := (165, [.ref 0, .ref 1, .ref 43, .int (nI i)], [.int (nI i + 1), .ref 0, .ref 1], S0 L, h)) rfl ?_
  refine T_sld (n := i + 1) rfl rfl (nI_add i 1) (by omega) (by omega) rfl ?_
  refine T_callR (S' := [.int v]) (h' := h1) r1 hd1 rfl rfl rfl rfl rfl rfl rfl ?_
  refine T_run 5 (st' := (174, [.ref 0, .ref 1, .ref 43, .int (nI i)], [.int (nI i + 1), .ref 0, .ref 43, .int v], S0 L, h1)) rfl ?_
  refine T_sld (n := i + 1) rfl rfl (nI_add i 1) (by omega) (by omega) rfl ?_
  rw [congrFun e0 (i + 1)]
  refine T_callR (S' := [.int v, .int v]) (h' := h2) r2 hd2 rfl rfl rfl rfl rfl rfl rfl ?_
  exact T_ift (c := v = v) (t := 850) (f := 181) (L := [.ref 0, .ref 1, .ref 43, .int (nI i)]) (S := []) (G := S0 L) (h := h2) rfl rfl (hb h2 hr)
set_option maxRecDepth 20000 in
theorem law_1 (hL : L ≤ 256) (hi : i + 4 ≤ L) (E : RelE h) (hb : ∀ h2, RelE h2 → T 21 187 0 0 (850, [.ref 0, .ref 1, .ref 43, .int (nI i)], [], S0 L, h2) lawQ) : T 21 187 0 0 (183, [.ref 0, .ref 1, .ref 43, .int (nI i)], [], S0 L, h) lawQ := by
  obtain ⟨d1, d2, v, h1, h2, hd1, hd2, r1, r2, hr, e0⟩ := sm_school (L := L) E 
  refine T_run 1 (st' := (184, [.ref 0, .ref 1, .ref 43, .int (nI i)], [.ref 1], S0 L, h)) rfl ?_
  refine T_callR (S' := [.int v]) (h' := h1) r1 hd1 rfl rfl rfl rfl rfl rfl rfl ?_
  refine T_run 1 (st' := (188, [.ref 0, .ref 1, .ref 43, .int (nI i)], [.ref 43, .int v], S0 L, h1)) rfl ?_
  refine T_callR (S' := [.int v, .int v]) (h' := h2) r2 hd2 rfl rfl rfl rfl rfl rfl rfl ?_
  exact T_ift (c := v = v) (t := 850) (f := 194) (L := [.ref 0, .ref 1, .ref 43, .int (nI i)]) (S := []) (G := S0 L) (h := h2) rfl rfl (hb h2 hr)
set_option maxRecDepth 20000 in
theorem law_2 (hL : L ≤ 256) (hi : i + 4 ≤ L) (E : RelE h) (hb : ∀ h2, RelE h2 → T 21 187 0 0 (850, [.ref 0, .ref 1, .ref 43, .int (nI i)], [], S0 L, h2) lawQ) : T 21 187 0 0 (196, [.ref 0, .ref 1, .ref 43, .int (nI i)], [], S0 L, h) lawQ := by
  obtain ⟨d1, d2, v, h1, h2, hd1, hd2, r1, r2, hr, e0⟩ := sm_fault (L := L) E 
  refine T_run 1 (st' := (197, [.ref 0, .ref 1, .ref 43, .int (nI i)], [.ref 1], S0 L, h)) rfl ?_
  refine T_callR (S' := [.int v]) (h' := h1) r1 hd1 rfl rfl rfl rfl rfl rfl rfl ?_
  refine T_run 1 (st' := (201, [.ref 0, .ref 1, .ref 43, .int (nI i)], [.ref 43, .int v], S0 L, h1)) rfl ?_
  refine T_callR (S' := [.int v, .int v]) (h' := h2) r2 hd2 rfl rfl rfl rfl rfl rfl rfl ?_
  exact T_ift (c := v = v) (t := 850) (f := 207) (L := [.ref 0, .ref 1, .ref 43, .int (nI i)]) (S := []) (G := S0 L) (h := h2) rfl rfl (hb h2 hr)
set_option maxRecDepth 20000 in
theorem law_3 (hL : L ≤ 256) (hi : i + 4 ≤ L) (E : RelE h) (hb : ∀ h2, RelE h2 → T 21 187 0 0 (850, [.ref 0, .ref 1, .ref 43, .int (nI i)], [], S0 L, h2) lawQ) : T 21 187 0 0 (209, [.ref 0, .ref 1, .ref 43, .int (nI i)], [], S0 L, h) lawQ := by
  obtain ⟨d1, d2, v, h1, h2, hd1, hd2, r1, r2, hr, e0⟩ := sm_told (L := L) E (h 0 (i + 1))
  refine T_run 5 (st' := (214, [.ref 0, .ref 1, .ref 43, .int (nI i)], [.int (nI i + 1), .ref 0, .ref 1], S0 L, h)) rfl ?_
  refine T_sld (n := i + 1) rfl rfl (nI_add i 1) (by omega) (by omega) rfl ?_
  refine T_callR (S' := [.int v]) (h' := h1) r1 hd1 rfl rfl rfl rfl rfl rfl rfl ?_
  refine T_run 5 (st' := (223, [.ref 0, .ref 1, .ref 43, .int (nI i)], [.int (nI i + 1), .ref 0, .ref 43, .int v], S0 L, h1)) rfl ?_
  refine T_sld (n := i + 1) rfl rfl (nI_add i 1) (by omega) (by omega) rfl ?_
  rw [congrFun e0 (i + 1)]
  refine T_callR (S' := [.int v, .int v]) (h' := h2) r2 hd2 rfl rfl rfl rfl rfl rfl rfl ?_
  exact T_ift (c := v = v) (t := 850) (f := 230) (L := [.ref 0, .ref 1, .ref 43, .int (nI i)]) (S := []) (G := S0 L) (h := h2) rfl rfl (hb h2 hr)
set_option maxRecDepth 20000 in
theorem law_4 (hL : L ≤ 256) (hi : i + 4 ≤ L) (E : RelE h) (hb : ∀ h2, RelE h2 → T 21 187 0 0 (850, [.ref 0, .ref 1, .ref 43, .int (nI i)], [], S0 L, h2) lawQ) : T 21 187 0 0 (232, [.ref 0, .ref 1, .ref 43, .int (nI i)], [], S0 L, h) lawQ := by
  obtain ⟨d1, d2, v, h1, h2, hd1, hd2, r1, r2, hr, e0⟩ := sm_child (L := L) E (h 0 (i + 1)) (h 0 (i + 2))
  refine T_run 5 (st' := (237, [.ref 0, .ref 1, .ref 43, .int (nI i)], [.int (nI i + 1), .ref 0, .ref 1], S0 L, h)) rfl ?_
  refine T_sld (n := i + 1) rfl rfl (nI_add i 1) (by omega) (by omega) rfl ?_
  refine T_run 4 (st' := (242, [.ref 0, .ref 1, .ref 43, .int (nI i)], [.int (nI i + 2), .ref 0, .int (h 0 (i + 1)), .ref 1], S0 L, h)) rfl ?_
  refine T_sld (n := i + 2) rfl rfl (nI_add i 2) (by omega) (by omega) rfl ?_
  refine T_callR (S' := [.int v]) (h' := h1) r1 hd1 rfl rfl rfl rfl rfl rfl rfl ?_
  refine T_run 5 (st' := (251, [.ref 0, .ref 1, .ref 43, .int (nI i)], [.int (nI i + 1), .ref 0, .ref 43, .int v], S0 L, h1)) rfl ?_
  refine T_sld (n := i + 1) rfl rfl (nI_add i 1) (by omega) (by omega) rfl ?_
  rw [congrFun e0 (i + 1)]
  refine T_run 4 (st' := (256, [.ref 0, .ref 1, .ref 43, .int (nI i)], [.int (nI i + 2), .ref 0, .int (h 0 (i + 1)), .ref 43, .int v], S0 L, h1)) rfl ?_
  refine T_sld (n := i + 2) rfl rfl (nI_add i 2) (by omega) (by omega) rfl ?_
  rw [congrFun e0 (i + 2)]
  refine T_callR (S' := [.int v, .int v]) (h' := h2) r2 hd2 rfl rfl rfl rfl rfl rfl rfl ?_
  exact T_ift (c := v = v) (t := 850) (f := 263) (L := [.ref 0, .ref 1, .ref 43, .int (nI i)]) (S := []) (G := S0 L) (h := h2) rfl rfl (hb h2 hr)
set_option maxRecDepth 20000 in
theorem law_5 (hL : L ≤ 256) (hi : i + 4 ≤ L) (E : RelE h) (hb : ∀ h2, RelE h2 → T 21 187 0 0 (850, [.ref 0, .ref 1, .ref 43, .int (nI i)], [], S0 L, h2) lawQ) : T 21 187 0 0 (265, [.ref 0, .ref 1, .ref 43, .int (nI i)], [], S0 L, h) lawQ := by
  obtain ⟨d1, d2, v, h1, h2, hd1, hd2, r1, r2, hr, e0⟩ := sm_deed (L := L) E (h 0 (i + 1)) (h 0 (i + 2))
  refine T_run 5 (st' := (270, [.ref 0, .ref 1, .ref 43, .int (nI i)], [.int (nI i + 1), .ref 0, .ref 1], S0 L, h)) rfl ?_
  refine T_sld (n := i + 1) rfl rfl (nI_add i 1) (by omega) (by omega) rfl ?_
  refine T_run 4 (st' := (275, [.ref 0, .ref 1, .ref 43, .int (nI i)], [.int (nI i + 2), .ref 0, .int (h 0 (i + 1)), .ref 1], S0 L, h)) rfl ?_
  refine T_sld (n := i + 2) rfl rfl (nI_add i 2) (by omega) (by omega) rfl ?_
  refine T_callR (S' := [.int v]) (h' := h1) r1 hd1 rfl rfl rfl rfl rfl rfl rfl ?_
  refine T_run 5 (st' := (284, [.ref 0, .ref 1, .ref 43, .int (nI i)], [.int (nI i + 1), .ref 0, .ref 43, .int v], S0 L, h1)) rfl ?_
  refine T_sld (n := i + 1) rfl rfl (nI_add i 1) (by omega) (by omega) rfl ?_
  rw [congrFun e0 (i + 1)]
  refine T_run 4 (st' := (289, [.ref 0, .ref 1, .ref 43, .int (nI i)], [.int (nI i + 2), .ref 0, .int (h 0 (i + 1)), .ref 43, .int v], S0 L, h1)) rfl ?_
  refine T_sld (n := i + 2) rfl rfl (nI_add i 2) (by omega) (by omega) rfl ?_
  rw [congrFun e0 (i + 2)]
  refine T_callR (S' := [.int v, .int v]) (h' := h2) r2 hd2 rfl rfl rfl rfl rfl rfl rfl ?_
  exact T_ift (c := v = v) (t := 850) (f := 296) (L := [.ref 0, .ref 1, .ref 43, .int (nI i)]) (S := []) (G := S0 L) (h := h2) rfl rfl (hb h2 hr)
set_option maxRecDepth 20000 in
theorem law_6 (hL : L ≤ 256) (hi : i + 4 ≤ L) (E : RelE h) (hb : ∀ h2, RelE h2 → T 21 187 0 0 (850, [.ref 0, .ref 1, .ref 43, .int (nI i)], [], S0 L, h2) lawQ) : T 21 187 0 0 (298, [.ref 0, .ref 1, .ref 43, .int (nI i)], [], S0 L, h) lawQ := by
  obtain ⟨d1, d2, v, h1, h2, hd1, hd2, r1, r2, hr, e0⟩ := sm_doIt (L := L) E (h 0 (i + 1))
  refine T_run 5 (st' := (303, [.ref 0, .ref 1, .ref 43, .int (nI i)], [.int (nI i + 1), .ref 0, .ref 1], S0 L, h)) rfl ?_
  refine T_sld (n := i + 1) rfl rfl (nI_add i 1) (by omega) (by omega) rfl ?_
  refine T_callR (S' := [.int v]) (h' := h1) r1 hd1 rfl rfl rfl rfl rfl rfl rfl ?_
  refine T_run 5 (st' := (312, [.ref 0, .ref 1, .ref 43, .int (nI i)], [.int (nI i + 1), .ref 0, .ref 43, .int v], S0 L, h1)) rfl ?_
  refine T_sld (n := i + 1) rfl rfl (nI_add i 1) (by omega) (by omega) rfl ?_
  rw [congrFun e0 (i + 1)]
  refine T_callR (S' := [.int v, .int v]) (h' := h2) r2 hd2 rfl rfl rfl rfl rfl rfl rfl ?_
  exact T_ift (c := v = v) (t := 850) (f := 319) (L := [.ref 0, .ref 1, .ref 43, .int (nI i)]) (S := []) (G := S0 L) (h := h2) rfl rfl (hb h2 hr)
set_option maxRecDepth 20000 in
theorem law_7 (hL : L ≤ 256) (hi : i + 4 ≤ L) (E : RelE h) (hb : ∀ h2, RelE h2 → T 21 187 0 0 (850, [.ref 0, .ref 1, .ref 43, .int (nI i)], [], S0 L, h2) lawQ) : T 21 187 0 0 (321, [.ref 0, .ref 1, .ref 43, .int (nI i)], [], S0 L, h) lawQ := by
  obtain ⟨d1, d2, v, h1, h2, hd1, hd2, r1, r2, hr, e0⟩ := sm_carry (L := L) E (h 0 (i + 1)) (h 0 (i + 2))
  refine T_run 5 (st' := (326, [.ref 0, .ref 1, .ref 43, .int (nI i)], [.int (nI i + 1), .ref 0, .ref 1], S0 L, h)) rfl ?_
  refine T_sld (n := i + 1) rfl rfl (nI_add i 1) (by omega) (by omega) rfl ?_
  refine T_run 4 (st' := (331, [.ref 0, .ref 1, .ref 43, .int (nI i)], [.int (nI i + 2), .ref 0, .int (h 0 (i + 1)), .ref 1], S0 L, h)) rfl ?_
  refine T_sld (n := i + 2) rfl rfl (nI_add i 2) (by omega) (by omega) rfl ?_
  refine T_callR (S' := [.int v]) (h' := h1) r1 hd1 rfl rfl rfl rfl rfl rfl rfl ?_
  refine T_run 5 (st' := (340, [.ref 0, .ref 1, .ref 43, .int (nI i)], [.int (nI i + 1), .ref 0, .ref 43, .int v], S0 L, h1)) rfl ?_
  refine T_sld (n := i + 1) rfl rfl (nI_add i 1) (by omega) (by omega) rfl ?_
  rw [congrFun e0 (i + 1)]
  refine T_run 4 (st' := (345, [.ref 0, .ref 1, .ref 43, .int (nI i)], [.int (nI i + 2), .ref 0, .int (h 0 (i + 1)), .ref 43, .int v], S0 L, h1)) rfl ?_
  refine T_sld (n := i + 2) rfl rfl (nI_add i 2) (by omega) (by omega) rfl ?_
  rw [congrFun e0 (i + 2)]
  refine T_callR (S' := [.int v, .int v]) (h' := h2) r2 hd2 rfl rfl rfl rfl rfl rfl rfl ?_
  exact T_ift (c := v = v) (t := 850) (f := 352) (L := [.ref 0, .ref 1, .ref 43, .int (nI i)]) (S := []) (G := S0 L) (h := h2) rfl rfl (hb h2 hr)
set_option maxRecDepth 20000 in
theorem law_8 (hL : L ≤ 256) (hi : i + 4 ≤ L) (E : RelE h) (hb : ∀ h2, RelE h2 → T 21 187 0 0 (850, [.ref 0, .ref 1, .ref 43, .int (nI i)], [], S0 L, h2) lawQ) : T 21 187 0 0 (354, [.ref 0, .ref 1, .ref 43, .int (nI i)], [], S0 L, h) lawQ := by
  obtain ⟨d1, d2, v, h1, h2, hd1, hd2, r1, r2, hr, e0⟩ := sm_swap (L := L) E (h 0 (i + 1)) (h 0 (i + 2))
  refine T_run 5 (st' := (359, [.ref 0, .ref 1, .ref 43, .int (nI i)], [.int (nI i + 1), .ref 0, .ref 1], S0 L, h)) rfl ?_
  refine T_sld (n := i + 1) rfl rfl (nI_add i 1) (by omega) (by omega) rfl ?_
  refine T_run 4 (st' := (364, [.ref 0, .ref 1, .ref 43, .int (nI i)], [.int (nI i + 2), .ref 0, .int (h 0 (i + 1)), .ref 1], S0 L, h)) rfl ?_
  refine T_sld (n := i + 2) rfl rfl (nI_add i 2) (by omega) (by omega) rfl ?_
  refine T_callR (S' := [.int v]) (h' := h1) r1 hd1 rfl rfl rfl rfl rfl rfl rfl ?_
  refine T_run 5 (st' := (373, [.ref 0, .ref 1, .ref 43, .int (nI i)], [.int (nI i + 1), .ref 0, .ref 43, .int v], S0 L, h1)) rfl ?_
  refine T_sld (n := i + 1) rfl rfl (nI_add i 1) (by omega) (by omega) rfl ?_
  rw [congrFun e0 (i + 1)]
  refine T_run 4 (st' := (378, [.ref 0, .ref 1, .ref 43, .int (nI i)], [.int (nI i + 2), .ref 0, .int (h 0 (i + 1)), .ref 43, .int v], S0 L, h1)) rfl ?_
  refine T_sld (n := i + 2) rfl rfl (nI_add i 2) (by omega) (by omega) rfl ?_
  rw [congrFun e0 (i + 2)]
  refine T_callR (S' := [.int v, .int v]) (h' := h2) r2 hd2 rfl rfl rfl rfl rfl rfl rfl ?_
  exact T_ift (c := v = v) (t := 850) (f := 385) (L := [.ref 0, .ref 1, .ref 43, .int (nI i)]) (S := []) (G := S0 L) (h := h2) rfl rfl (hb h2 hr)
set_option maxRecDepth 20000 in
theorem law_9 (hL : L ≤ 256) (hi : i + 4 ≤ L) (E : RelE h) (hb : ∀ h2, RelE h2 → T 21 187 0 0 (850, [.ref 0, .ref 1, .ref 43, .int (nI i)], [], S0 L, h2) lawQ) : T 21 187 0 0 (387, [.ref 0, .ref 1, .ref 43, .int (nI i)], [], S0 L, h) lawQ := by
  obtain ⟨d1, d2, v, h1, h2, hd1, hd2, r1, r2, hr, e0⟩ := sm_throwIt (L := L) E (h 0 (i + 1))
  refine T_run 5 (st' := (392, [.ref 0, .ref 1, .ref 43, .int (nI i)], [.int (nI i + 1), .ref 0, .ref 1], S0 L, h)) rfl ?_
  refine T_sld (n := i + 1) rfl rfl (nI_add i 1) (by omega) (by omega) rfl ?_
  refine T_callR (S' := [.int v]) (h' := h1) r1 hd1 rfl rfl rfl rfl rfl rfl rfl ?_
  refine T_run 5 (st' := (401, [.ref 0, .ref 1, .ref 43, .int (nI i)], [.int (nI i + 1), .ref 0, .ref 43, .int v], S0 L, h1)) rfl ?_
  refine T_sld (n := i + 1) rfl rfl (nI_add i 1) (by omega) (by omega) rfl ?_
  rw [congrFun e0 (i + 1)]
  refine T_callR (S' := [.int v, .int v]) (h' := h2) r2 hd2 rfl rfl rfl rfl rfl rfl rfl ?_
  exact T_ift (c := v = v) (t := 850) (f := 408) (L := [.ref 0, .ref 1, .ref 43, .int (nI i)]) (S := []) (G := S0 L) (h := h2) rfl rfl (hb h2 hr)
set_option maxRecDepth 20000 in
theorem law_10 (hL : L ≤ 256) (hi : i + 4 ≤ L) (E : RelE h) (hb : ∀ h2, RelE h2 → T 21 187 0 0 (850, [.ref 0, .ref 1, .ref 43, .int (nI i)], [], S0 L, h2) lawQ) : T 21 187 0 0 (410, [.ref 0, .ref 1, .ref 43, .int (nI i)], [], S0 L, h) lawQ := by
  obtain ⟨d1, d2, v, h1, h2, hd1, hd2, r1, r2, hr, e0⟩ := sm_home (L := L) E 
  refine T_run 1 (st' := (411, [.ref 0, .ref 1, .ref 43, .int (nI i)], [.ref 1], S0 L, h)) rfl ?_
  refine T_callR (S' := [.int v]) (h' := h1) r1 hd1 rfl rfl rfl rfl rfl rfl rfl ?_
  refine T_run 1 (st' := (415, [.ref 0, .ref 1, .ref 43, .int (nI i)], [.ref 43, .int v], S0 L, h1)) rfl ?_
  refine T_callR (S' := [.int v, .int v]) (h' := h2) r2 hd2 rfl rfl rfl rfl rfl rfl rfl ?_
  exact T_ift (c := v = v) (t := 850) (f := 421) (L := [.ref 0, .ref 1, .ref 43, .int (nI i)]) (S := []) (G := S0 L) (h := h2) rfl rfl (hb h2 hr)
set_option maxRecDepth 20000 in
theorem law_11 (hL : L ≤ 256) (hi : i + 4 ≤ L) (E : RelE h) (hb : ∀ h2, RelE h2 → T 21 187 0 0 (850, [.ref 0, .ref 1, .ref 43, .int (nI i)], [], S0 L, h2) lawQ) : T 21 187 0 0 (423, [.ref 0, .ref 1, .ref 43, .int (nI i)], [], S0 L, h) lawQ := by
  obtain ⟨d1, d2, v, h1, h2, hd1, hd2, r1, r2, hr, e0⟩ := sm_takeBack (L := L) E (h 0 (i + 1))
  refine T_run 5 (st' := (428, [.ref 0, .ref 1, .ref 43, .int (nI i)], [.int (nI i + 1), .ref 0, .ref 1], S0 L, h)) rfl ?_
  refine T_sld (n := i + 1) rfl rfl (nI_add i 1) (by omega) (by omega) rfl ?_
  refine T_callR (S' := [.int v]) (h' := h1) r1 hd1 rfl rfl rfl rfl rfl rfl rfl ?_
  refine T_run 5 (st' := (437, [.ref 0, .ref 1, .ref 43, .int (nI i)], [.int (nI i + 1), .ref 0, .ref 43, .int v], S0 L, h1)) rfl ?_
  refine T_sld (n := i + 1) rfl rfl (nI_add i 1) (by omega) (by omega) rfl ?_
  rw [congrFun e0 (i + 1)]
  refine T_callR (S' := [.int v, .int v]) (h' := h2) r2 hd2 rfl rfl rfl rfl rfl rfl rfl ?_
  exact T_ift (c := v = v) (t := 850) (f := 444) (L := [.ref 0, .ref 1, .ref 43, .int (nI i)]) (S := []) (G := S0 L) (h := h2) rfl rfl (hb h2 hr)
set_option maxRecDepth 20000 in
theorem law_12 (hL : L ≤ 256) (hi : i + 4 ≤ L) (E : RelE h) (hb : ∀ h2, RelE h2 → T 21 187 0 0 (850, [.ref 0, .ref 1, .ref 43, .int (nI i)], [], S0 L, h2) lawQ) : T 21 187 0 0 (446, [.ref 0, .ref 1, .ref 43, .int (nI i)], [], S0 L, h) lawQ := by
  obtain ⟨d1, d2, v, h1, h2, hd1, hd2, r1, r2, hr, e0⟩ := sm_drift (L := L) E (h 0 (i + 1))
  refine T_run 5 (st' := (451, [.ref 0, .ref 1, .ref 43, .int (nI i)], [.int (nI i + 1), .ref 0, .ref 1], S0 L, h)) rfl ?_
  refine T_sld (n := i + 1) rfl rfl (nI_add i 1) (by omega) (by omega) rfl ?_
  refine T_callR (S' := [.int v]) (h' := h1) r1 hd1 rfl rfl rfl rfl rfl rfl rfl ?_
  refine T_run 5 (st' := (460, [.ref 0, .ref 1, .ref 43, .int (nI i)], [.int (nI i + 1), .ref 0, .ref 43, .int v], S0 L, h1)) rfl ?_
  refine T_sld (n := i + 1) rfl rfl (nI_add i 1) (by omega) (by omega) rfl ?_
  rw [congrFun e0 (i + 1)]
  refine T_callR (S' := [.int v, .int v]) (h' := h2) r2 hd2 rfl rfl rfl rfl rfl rfl rfl ?_
  exact T_ift (c := v = v) (t := 850) (f := 467) (L := [.ref 0, .ref 1, .ref 43, .int (nI i)]) (S := []) (G := S0 L) (h := h2) rfl rfl (hb h2 hr)
set_option maxRecDepth 20000 in
theorem law_13 (hL : L ≤ 256) (hi : i + 4 ≤ L) (E : RelE h) (hb : ∀ h2, RelE h2 → T 21 187 0 0 (850, [.ref 0, .ref 1, .ref 43, .int (nI i)], [], S0 L, h2) lawQ) : T 21 187 0 0 (469, [.ref 0, .ref 1, .ref 43, .int (nI i)], [], S0 L, h) lawQ := by
  obtain ⟨d1, d2, v, h1, h2, hd1, hd2, r1, r2, hr, e0⟩ := sm_undo (L := L) E 
  refine T_run 1 (st' := (470, [.ref 0, .ref 1, .ref 43, .int (nI i)], [.ref 1], S0 L, h)) rfl ?_
  refine T_callR (S' := [.int v]) (h' := h1) r1 hd1 rfl rfl rfl rfl rfl rfl rfl ?_
  refine T_run 1 (st' := (474, [.ref 0, .ref 1, .ref 43, .int (nI i)], [.ref 43, .int v], S0 L, h1)) rfl ?_
  refine T_callR (S' := [.int v, .int v]) (h' := h2) r2 hd2 rfl rfl rfl rfl rfl rfl rfl ?_
  exact T_ift (c := v = v) (t := 850) (f := 480) (L := [.ref 0, .ref 1, .ref 43, .int (nI i)]) (S := []) (G := S0 L) (h := h2) rfl rfl (hb h2 hr)
set_option maxRecDepth 20000 in
theorem law_14 (hL : L ≤ 256) (hi : i + 4 ≤ L) (E : RelE h) (hb : ∀ h2, RelE h2 → T 21 187 0 0 (850, [.ref 0, .ref 1, .ref 43, .int (nI i)], [], S0 L, h2) lawQ) : T 21 187 0 0 (482, [.ref 0, .ref 1, .ref 43, .int (nI i)], [], S0 L, h) lawQ := by
  obtain ⟨d1, d2, v, h1, h2, hd1, hd2, r1, r2, hr, e0⟩ := sm_loads (L := L) E (h 0 (i + 1))
  refine T_run 5 (st' := (487, [.ref 0, .ref 1, .ref 43, .int (nI i)], [.int (nI i + 1), .ref 0, .ref 1], S0 L, h)) rfl ?_
  refine T_sld (n := i + 1) rfl rfl (nI_add i 1) (by omega) (by omega) rfl ?_
  refine T_callR (S' := [.int v]) (h' := h1) r1 hd1 rfl rfl rfl rfl rfl rfl rfl ?_
  refine T_run 5 (st' := (496, [.ref 0, .ref 1, .ref 43, .int (nI i)], [.int (nI i + 1), .ref 0, .ref 43, .int v], S0 L, h1)) rfl ?_
  refine T_sld (n := i + 1) rfl rfl (nI_add i 1) (by omega) (by omega) rfl ?_
  rw [congrFun e0 (i + 1)]
  refine T_callR (S' := [.int v, .int v]) (h' := h2) r2 hd2 rfl rfl rfl rfl rfl rfl rfl ?_
  exact T_ift (c := v = v) (t := 850) (f := 503) (L := [.ref 0, .ref 1, .ref 43, .int (nI i)]) (S := []) (G := S0 L) (h := h2) rfl rfl (hb h2 hr)
set_option maxRecDepth 20000 in
theorem law_15 (hL : L ≤ 256) (hi : i + 4 ≤ L) (E : RelE h) (hb : ∀ h2, RelE h2 → T 21 187 0 0 (850, [.ref 0, .ref 1, .ref 43, .int (nI i)], [], S0 L, h2) lawQ) : T 21 187 0 0 (505, [.ref 0, .ref 1, .ref 43, .int (nI i)], [], S0 L, h) lawQ := by
  obtain ⟨d1, d2, v, h1, h2, hd1, hd2, r1, r2, hr, e0⟩ := sm_fair (L := L) E (h 0 (i + 1))
  refine T_run 5 (st' := (510, [.ref 0, .ref 1, .ref 43, .int (nI i)], [.int (nI i + 1), .ref 0, .ref 1], S0 L, h)) rfl ?_
  refine T_sld (n := i + 1) rfl rfl (nI_add i 1) (by omega) (by omega) rfl ?_
  refine T_callR (S' := [.int v]) (h' := h1) r1 hd1 rfl rfl rfl rfl rfl rfl rfl ?_
  refine T_run 5 (st' := (519, [.ref 0, .ref 1, .ref 43, .int (nI i)], [.int (nI i + 1), .ref 0, .ref 43, .int v], S0 L, h1)) rfl ?_
  refine T_sld (n := i + 1) rfl rfl (nI_add i 1) (by omega) (by omega) rfl ?_
  rw [congrFun e0 (i + 1)]
  refine T_callR (S' := [.int v, .int v]) (h' := h2) r2 hd2 rfl rfl rfl rfl rfl rfl rfl ?_
  exact T_ift (c := v = v) (t := 850) (f := 526) (L := [.ref 0, .ref 1, .ref 43, .int (nI i)]) (S := []) (G := S0 L) (h := h2) rfl rfl (hb h2 hr)
set_option maxRecDepth 20000 in
theorem law_16 (hL : L ≤ 256) (hi : i + 4 ≤ L) (E : RelE h) (hb : ∀ h2, RelE h2 → T 21 187 0 0 (850, [.ref 0, .ref 1, .ref 43, .int (nI i)], [], S0 L, h2) lawQ) : T 21 187 0 0 (528, [.ref 0, .ref 1, .ref 43, .int (nI i)], [], S0 L, h) lawQ := by
  obtain ⟨d1, d2, v, h1, h2, hd1, hd2, r1, r2, hr, e0⟩ := sm_lighter (L := L) E (h 0 (i + 1))
  refine T_run 5 (st' := (533, [.ref 0, .ref 1, .ref 43, .int (nI i)], [.int (nI i + 1), .ref 0, .ref 1], S0 L, h)) rfl ?_
  refine T_sld (n := i + 1) rfl rfl (nI_add i 1) (by omega) (by omega) rfl ?_
  refine T_callR (S' := [.int v]) (h' := h1) r1 hd1 rfl rfl rfl rfl rfl rfl rfl ?_
  refine T_run 5 (st' := (542, [.ref 0, .ref 1, .ref 43, .int (nI i)], [.int (nI i + 1), .ref 0, .ref 43, .int v], S0 L, h1)) rfl ?_
  refine T_sld (n := i + 1) rfl rfl (nI_add i 1) (by omega) (by omega) rfl ?_
  rw [congrFun e0 (i + 1)]
  refine T_callR (S' := [.int v, .int v]) (h' := h2) r2 hd2 rfl rfl rfl rfl rfl rfl rfl ?_
  exact T_ift (c := v = v) (t := 850) (f := 549) (L := [.ref 0, .ref 1, .ref 43, .int (nI i)]) (S := []) (G := S0 L) (h := h2) rfl rfl (hb h2 hr)
set_option maxRecDepth 20000 in
theorem law_17 (hL : L ≤ 256) (hi : i + 4 ≤ L) (E : RelE h) (hb : ∀ h2, RelE h2 → T 21 187 0 0 (850, [.ref 0, .ref 1, .ref 43, .int (nI i)], [], S0 L, h2) lawQ) : T 21 187 0 0 (551, [.ref 0, .ref 1, .ref 43, .int (nI i)], [], S0 L, h) lawQ := by
  obtain ⟨d1, d2, v, h1, h2, hd1, hd2, r1, r2, hr, e0⟩ := sm_weighs (L := L) E (h 0 (i + 1)) (h 0 (i + 2))
  refine T_run 5 (st' := (556, [.ref 0, .ref 1, .ref 43, .int (nI i)], [.int (nI i + 1), .ref 0, .ref 1], S0 L, h)) rfl ?_
  refine T_sld (n := i + 1) rfl rfl (nI_add i 1) (by omega) (by omega) rfl ?_
  refine T_run 4 (st' := (561, [.ref 0, .ref 1, .ref 43, .int (nI i)], [.int (nI i + 2), .ref 0, .int (h 0 (i + 1)), .ref 1], S0 L, h)) rfl ?_
  refine T_sld (n := i + 2) rfl rfl (nI_add i 2) (by omega) (by omega) rfl ?_
  refine T_callR (S' := [.int v]) (h' := h1) r1 hd1 rfl rfl rfl rfl rfl rfl rfl ?_
  refine T_run 5 (st' := (570, [.ref 0, .ref 1, .ref 43, .int (nI i)], [.int (nI i + 1), .ref 0, .ref 43, .int v], S0 L, h1)) rfl ?_
  refine T_sld (n := i + 1) rfl rfl (nI_add i 1) (by omega) (by omega) rfl ?_
  rw [congrFun e0 (i + 1)]
  refine T_run 4 (st' := (575, [.ref 0, .ref 1, .ref 43, .int (nI i)], [.int (nI i + 2), .ref 0, .int (h 0 (i + 1)), .ref 43, .int v], S0 L, h1)) rfl ?_
  refine T_sld (n := i + 2) rfl rfl (nI_add i 2) (by omega) (by omega) rfl ?_
  rw [congrFun e0 (i + 2)]
  refine T_callR (S' := [.int v, .int v]) (h' := h2) r2 hd2 rfl rfl rfl rfl rfl rfl rfl ?_
  exact T_ift (c := v = v) (t := 850) (f := 582) (L := [.ref 0, .ref 1, .ref 43, .int (nI i)]) (S := []) (G := S0 L) (h := h2) rfl rfl (hb h2 hr)
set_option maxRecDepth 20000 in
theorem law_18 (hL : L ≤ 256) (hi : i + 4 ≤ L) (E : RelE h) (hb : ∀ h2, RelE h2 → T 21 187 0 0 (850, [.ref 0, .ref 1, .ref 43, .int (nI i)], [], S0 L, h2) lawQ) : T 21 187 0 0 (584, [.ref 0, .ref 1, .ref 43, .int (nI i)], [], S0 L, h) lawQ := by
  obtain ⟨d1, d2, v, h1, h2, hd1, hd2, r1, r2, hr, e0⟩ := sm_handed (L := L) E (h 0 (i + 1)) (h 0 (i + 2))
  refine T_run 5 (st' := (589, [.ref 0, .ref 1, .ref 43, .int (nI i)], [.int (nI i + 1), .ref 0, .ref 1], S0 L, h)) rfl ?_
  refine T_sld (n := i + 1) rfl rfl (nI_add i 1) (by omega) (by omega) rfl ?_
  refine T_run 4 (st' := (594, [.ref 0, .ref 1, .ref 43, .int (nI i)], [.int (nI i + 2), .ref 0, .int (h 0 (i + 1)), .ref 1], S0 L, h)) rfl ?_
  refine T_sld (n := i + 2) rfl rfl (nI_add i 2) (by omega) (by omega) rfl ?_
  refine T_callR (S' := [.int v]) (h' := h1) r1 hd1 rfl rfl rfl rfl rfl rfl rfl ?_
  refine T_run 5 (st' := (603, [.ref 0, .ref 1, .ref 43, .int (nI i)], [.int (nI i + 1), .ref 0, .ref 43, .int v], S0 L, h1)) rfl ?_
  refine T_sld (n := i + 1) rfl rfl (nI_add i 1) (by omega) (by omega) rfl ?_
  rw [congrFun e0 (i + 1)]
  refine T_run 4 (st' := (608, [.ref 0, .ref 1, .ref 43, .int (nI i)], [.int (nI i + 2), .ref 0, .int (h 0 (i + 1)), .ref 43, .int v], S0 L, h1)) rfl ?_
  refine T_sld (n := i + 2) rfl rfl (nI_add i 2) (by omega) (by omega) rfl ?_
  rw [congrFun e0 (i + 2)]
  refine T_callR (S' := [.int v, .int v]) (h' := h2) r2 hd2 rfl rfl rfl rfl rfl rfl rfl ?_
  exact T_ift (c := v = v) (t := 850) (f := 615) (L := [.ref 0, .ref 1, .ref 43, .int (nI i)]) (S := []) (G := S0 L) (h := h2) rfl rfl (hb h2 hr)
set_option maxRecDepth 20000 in
theorem law_19 (hL : L ≤ 256) (hi : i + 4 ≤ L) (E : RelE h) (hb : ∀ h2, RelE h2 → T 21 187 0 0 (850, [.ref 0, .ref 1, .ref 43, .int (nI i)], [], S0 L, h2) lawQ) : T 21 187 0 0 (617, [.ref 0, .ref 1, .ref 43, .int (nI i)], [], S0 L, h) lawQ := by
  obtain ⟨d1, d2, v, h1, h2, hd1, hd2, r1, r2, hr, e0⟩ := sm_light (L := L) E (h 0 (i + 1)) (h 0 (i + 2))
  refine T_run 5 (st' := (622, [.ref 0, .ref 1, .ref 43, .int (nI i)], [.int (nI i + 1), .ref 0, .ref 1], S0 L, h)) rfl ?_
  refine T_sld (n := i + 1) rfl rfl (nI_add i 1) (by omega) (by omega) rfl ?_
  refine T_run 4 (st' := (627, [.ref 0, .ref 1, .ref 43, .int (nI i)], [.int (nI i + 2), .ref 0, .int (h 0 (i + 1)), .ref 1], S0 L, h)) rfl ?_
  refine T_sld (n := i + 2) rfl rfl (nI_add i 2) (by omega) (by omega) rfl ?_
  refine T_callR (S' := [.int v]) (h' := h1) r1 hd1 rfl rfl rfl rfl rfl rfl rfl ?_
  refine T_run 5 (st' := (636, [.ref 0, .ref 1, .ref 43, .int (nI i)], [.int (nI i + 1), .ref 0, .ref 43, .int v], S0 L, h1)) rfl ?_
  refine T_sld (n := i + 1) rfl rfl (nI_add i 1) (by omega) (by omega) rfl ?_
  rw [congrFun e0 (i + 1)]
  refine T_run 4 (st' := (641, [.ref 0, .ref 1, .ref 43, .int (nI i)], [.int (nI i + 2), .ref 0, .int (h 0 (i + 1)), .ref 43, .int v], S0 L, h1)) rfl ?_
  refine T_sld (n := i + 2) rfl rfl (nI_add i 2) (by omega) (by omega) rfl ?_
  rw [congrFun e0 (i + 2)]
  refine T_callR (S' := [.int v, .int v]) (h' := h2) r2 hd2 rfl rfl rfl rfl rfl rfl rfl ?_
  exact T_ift (c := v = v) (t := 850) (f := 648) (L := [.ref 0, .ref 1, .ref 43, .int (nI i)]) (S := []) (G := S0 L) (h := h2) rfl rfl (hb h2 hr)
set_option maxRecDepth 20000 in
theorem law_20 (hL : L ≤ 256) (hi : i + 4 ≤ L) (E : RelE h) (hb : ∀ h2, RelE h2 → T 21 187 0 0 (850, [.ref 0, .ref 1, .ref 43, .int (nI i)], [], S0 L, h2) lawQ) : T 21 187 0 0 (650, [.ref 0, .ref 1, .ref 43, .int (nI i)], [], S0 L, h) lawQ := by
  by_cases q : h 0 (i + 3) = 0
  · obtain ⟨d1, d2, v, h1, h2, hd1, hd2, r1, r2, hr, e0⟩ := sm_see (L := L) E (h 0 (i + 1)) (h 0 (i + 2)) False
    refine T_run 5 (st' := (655, [.ref 0, .ref 1, .ref 43, .int (nI i)], [.int (nI i + 1), .ref 0, .ref 1], S0 L, h)) rfl ?_
    refine T_sld (n := i + 1) rfl rfl (nI_add i 1) (by omega) (by omega) rfl ?_
    refine T_run 4 (st' := (660, [.ref 0, .ref 1, .ref 43, .int (nI i)], [.int (nI i + 2), .ref 0, .int (h 0 (i + 1)), .ref 1], S0 L, h)) rfl ?_
    refine T_sld (n := i + 2) rfl rfl (nI_add i 2) (by omega) (by omega) rfl ?_
    refine T_run 4 (st' := (665, [.ref 0, .ref 1, .ref 43, .int (nI i)], [.int (nI i + 3), .ref 0, .int (h 0 (i + 2)), .int (h 0 (i + 1)), .ref 1], S0 L, h)) rfl ?_
    refine T_sld (n := i + 3) rfl rfl (nI_add i 3) (by omega) (by omega) rfl ?_
    refine T_ift (c := h 0 (i + 3) = 0) (t := 673) (f := 669) (L := [.ref 0, .ref 1, .ref 43, .int (nI i)]) (S := [.int (h 0 (i + 2)), .int (h 0 (i + 1)), .ref 1]) (G := S0 L) (h := h) rfl q ?_
    refine T_run 1 (st' := (674, [.ref 0, .ref 1, .ref 43, .int (nI i)], [.int 0, .int (h 0 (i + 2)), .int (h 0 (i + 1)), .ref 1], S0 L, h)) rfl ?_
    refine T_callR (S' := [.int v]) (h' := h1) r1 hd1 rfl rfl rfl rfl rfl rfl rfl ?_
    refine T_run 5 (st' := (682, [.ref 0, .ref 1, .ref 43, .int (nI i)], [.int (nI i + 1), .ref 0, .ref 43, .int v], S0 L, h1)) rfl ?_
    refine T_sld (n := i + 1) rfl rfl (nI_add i 1) (by omega) (by omega) rfl ?_
    rw [congrFun e0 (i + 1)]
    refine T_run 4 (st' := (687, [.ref 0, .ref 1, .ref 43, .int (nI i)], [.int (nI i + 2), .ref 0, .int (h 0 (i + 1)), .ref 43, .int v], S0 L, h1)) rfl ?_
    refine T_sld (n := i + 2) rfl rfl (nI_add i 2) (by omega) (by omega) rfl ?_
    rw [congrFun e0 (i + 2)]
    refine T_run 4 (st' := (692, [.ref 0, .ref 1, .ref 43, .int (nI i)], [.int (nI i + 3), .ref 0, .int (h 0 (i + 2)), .int (h 0 (i + 1)), .ref 43, .int v], S0 L, h1)) rfl ?_
    refine T_sld (n := i + 3) rfl rfl (nI_add i 3) (by omega) (by omega) rfl ?_
    rw [congrFun e0 (i + 3)]
    refine T_ift (c := h 0 (i + 3) = 0) (t := 700) (f := 696) (L := [.ref 0, .ref 1, .ref 43, .int (nI i)]) (S := [.int (h 0 (i + 2)), .int (h 0 (i + 1)), .ref 43, .int v]) (G := S0 L) (h := h1) rfl q ?_
    refine T_run 1 (st' := (701, [.ref 0, .ref 1, .ref 43, .int (nI i)], [.int 0, .int (h 0 (i + 2)), .int (h 0 (i + 1)), .ref 43, .int v], S0 L, h1)) rfl ?_
    refine T_callR (S' := [.int v, .int v]) (h' := h2) r2 hd2 rfl rfl rfl rfl rfl rfl rfl ?_
    exact T_ift (c := v = v) (t := 850) (f := 707) (L := [.ref 0, .ref 1, .ref 43, .int (nI i)]) (S := []) (G := S0 L) (h := h2) rfl rfl (hb h2 hr)
  · obtain ⟨d1, d2, v, h1, h2, hd1, hd2, r1, r2, hr, e0⟩ := sm_see (L := L) E (h 0 (i + 1)) (h 0 (i + 2)) True
    refine T_run 5 (st' := (655, [.ref 0, .ref 1, .ref 43, .int (nI i)], [.int (nI i + 1), .ref 0, .ref 1], S0 L, h)) rfl ?_
    refine T_sld (n := i + 1) rfl rfl (nI_add i 1) (by omega) (by omega) rfl ?_
    refine T_run 4 (st' := (660, [.ref 0, .ref 1, .ref 43, .int (nI i)], [.int (nI i + 2), .ref 0, .int (h 0 (i + 1)), .ref 1], S0 L, h)) rfl ?_
    refine T_sld (n := i + 2) rfl rfl (nI_add i 2) (by omega) (by omega) rfl ?_
    refine T_run 4 (st' := (665, [.ref 0, .ref 1, .ref 43, .int (nI i)], [.int (nI i + 3), .ref 0, .int (h 0 (i + 2)), .int (h 0 (i + 1)), .ref 1], S0 L, h)) rfl ?_
    refine T_sld (n := i + 3) rfl rfl (nI_add i 3) (by omega) (by omega) rfl ?_
    refine T_iff (c := h 0 (i + 3) = 0) (t := 673) (f := 669) (L := [.ref 0, .ref 1, .ref 43, .int (nI i)]) (S := [.int (h 0 (i + 2)), .int (h 0 (i + 1)), .ref 1]) (G := S0 L) (h := h) rfl q ?_
    refine T_run 2 (st' := (674, [.ref 0, .ref 1, .ref 43, .int (nI i)], [.int 1, .int (h 0 (i + 2)), .int (h 0 (i + 1)), .ref 1], S0 L, h)) rfl ?_
    refine T_callR (S' := [.int v]) (h' := h1) r1 hd1 rfl rfl rfl rfl rfl rfl rfl ?_
    refine T_run 5 (st' := (682, [.ref 0, .ref 1, .ref 43, .int (nI i)], [.int (nI i + 1), .ref 0, .ref 43, .int v], S0 L, h1)) rfl ?_
    refine T_sld (n := i + 1) rfl rfl (nI_add i 1) (by omega) (by omega) rfl ?_
    rw [congrFun e0 (i + 1)]
    refine T_run 4 (st' := (687, [.ref 0, .ref 1, .ref 43, .int (nI i)], [.int (nI i + 2), .ref 0, .int (h 0 (i + 1)), .ref 43, .int v], S0 L, h1)) rfl ?_
    refine T_sld (n := i + 2) rfl rfl (nI_add i 2) (by omega) (by omega) rfl ?_
    rw [congrFun e0 (i + 2)]
    refine T_run 4 (st' := (692, [.ref 0, .ref 1, .ref 43, .int (nI i)], [.int (nI i + 3), .ref 0, .int (h 0 (i + 2)), .int (h 0 (i + 1)), .ref 43, .int v], S0 L, h1)) rfl ?_
    refine T_sld (n := i + 3) rfl rfl (nI_add i 3) (by omega) (by omega) rfl ?_
    rw [congrFun e0 (i + 3)]
    refine T_iff (c := h 0 (i + 3) = 0) (t := 700) (f := 696) (L := [.ref 0, .ref 1, .ref 43, .int (nI i)]) (S := [.int (h 0 (i + 2)), .int (h 0 (i + 1)), .ref 43, .int v]) (G := S0 L) (h := h1) rfl q ?_
    refine T_run 2 (st' := (701, [.ref 0, .ref 1, .ref 43, .int (nI i)], [.int 1, .int (h 0 (i + 2)), .int (h 0 (i + 1)), .ref 43, .int v], S0 L, h1)) rfl ?_
    refine T_callR (S' := [.int v, .int v]) (h' := h2) r2 hd2 rfl rfl rfl rfl rfl rfl rfl ?_
    exact T_ift (c := v = v) (t := 850) (f := 707) (L := [.ref 0, .ref 1, .ref 43, .int (nI i)]) (S := []) (G := S0 L) (h := h2) rfl rfl (hb h2 hr)
set_option maxRecDepth 20000 in
theorem law_21 (hL : L ≤ 256) (hi : i + 4 ≤ L) (E : RelE h) (hb : ∀ h2, RelE h2 → T 21 187 0 0 (850, [.ref 0, .ref 1, .ref 43, .int (nI i)], [], S0 L, h2) lawQ) : T 21 187 0 0 (709, [.ref 0, .ref 1, .ref 43, .int (nI i)], [], S0 L, h) lawQ := by
  obtain ⟨d1, d2, v, h1, h2, hd1, hd2, r1, r2, hr, e0⟩ := sm_hold (L := L) E 
  refine T_run 1 (st' := (710, [.ref 0, .ref 1, .ref 43, .int (nI i)], [.ref 1], S0 L, h)) rfl ?_
  refine T_callR (S' := [.int v]) (h' := h1) r1 hd1 rfl rfl rfl rfl rfl rfl rfl ?_
  refine T_run 1 (st' := (714, [.ref 0, .ref 1, .ref 43, .int (nI i)], [.ref 43, .int v], S0 L, h1)) rfl ?_
  refine T_callR (S' := [.int v, .int v]) (h' := h2) r2 hd2 rfl rfl rfl rfl rfl rfl rfl ?_
  exact T_ift (c := v = v) (t := 850) (f := 720) (L := [.ref 0, .ref 1, .ref 43, .int (nI i)]) (S := []) (G := S0 L) (h := h2) rfl rfl (hb h2 hr)
set_option maxRecDepth 20000 in
theorem law_22 (hL : L ≤ 256) (hi : i + 4 ≤ L) (E : RelE h) (hb : ∀ h2, RelE h2 → T 21 187 0 0 (850, [.ref 0, .ref 1, .ref 43, .int (nI i)], [], S0 L, h2) lawQ) : T 21 187 0 0 (722, [.ref 0, .ref 1, .ref 43, .int (nI i)], [], S0 L, h) lawQ := by
  obtain ⟨d1, d2, v, h1, h2, hd1, hd2, r1, r2, hr, e0⟩ := sm_write (L := L) E (h 0 (i + 1)) (h 0 (i + 2))
  refine T_run 5 (st' := (727, [.ref 0, .ref 1, .ref 43, .int (nI i)], [.int (nI i + 1), .ref 0, .ref 1], S0 L, h)) rfl ?_
  refine T_sld (n := i + 1) rfl rfl (nI_add i 1) (by omega) (by omega) rfl ?_
  refine T_run 4 (st' := (732, [.ref 0, .ref 1, .ref 43, .int (nI i)], [.int (nI i + 2), .ref 0, .int (h 0 (i + 1)), .ref 1], S0 L, h)) rfl ?_
  refine T_sld (n := i + 2) rfl rfl (nI_add i 2) (by omega) (by omega) rfl ?_
  refine T_callR (S' := [.int v]) (h' := h1) r1 hd1 rfl rfl rfl rfl rfl rfl rfl ?_
  refine T_run 5 (st' := (741, [.ref 0, .ref 1, .ref 43, .int (nI i)], [.int (nI i + 1), .ref 0, .ref 43, .int v], S0 L, h1)) rfl ?_
  refine T_sld (n := i + 1) rfl rfl (nI_add i 1) (by omega) (by omega) rfl ?_
  rw [congrFun e0 (i + 1)]
  refine T_run 4 (st' := (746, [.ref 0, .ref 1, .ref 43, .int (nI i)], [.int (nI i + 2), .ref 0, .int (h 0 (i + 1)), .ref 43, .int v], S0 L, h1)) rfl ?_
  refine T_sld (n := i + 2) rfl rfl (nI_add i 2) (by omega) (by omega) rfl ?_
  rw [congrFun e0 (i + 2)]
  refine T_callR (S' := [.int v, .int v]) (h' := h2) r2 hd2 rfl rfl rfl rfl rfl rfl rfl ?_
  exact T_ift (c := v = v) (t := 850) (f := 753) (L := [.ref 0, .ref 1, .ref 43, .int (nI i)]) (S := []) (G := S0 L) (h := h2) rfl rfl (hb h2 hr)
set_option maxRecDepth 20000 in
theorem law_23 (hL : L ≤ 256) (hi : i + 4 ≤ L) (E : RelE h) (hb : ∀ h2, RelE h2 → T 21 187 0 0 (850, [.ref 0, .ref 1, .ref 43, .int (nI i)], [], S0 L, h2) lawQ) : T 21 187 0 0 (755, [.ref 0, .ref 1, .ref 43, .int (nI i)], [], S0 L, h) lawQ := by
  obtain ⟨d1, d2, v, h1, h2, hd1, hd2, r1, r2, hr, e0⟩ := sm_tear (L := L) E 
  refine T_run 1 (st' := (756, [.ref 0, .ref 1, .ref 43, .int (nI i)], [.ref 1], S0 L, h)) rfl ?_
  refine T_callR (S' := [.int v]) (h' := h1) r1 hd1 rfl rfl rfl rfl rfl rfl rfl ?_
  refine T_run 1 (st' := (760, [.ref 0, .ref 1, .ref 43, .int (nI i)], [.ref 43, .int v], S0 L, h1)) rfl ?_
  refine T_callR (S' := [.int v, .int v]) (h' := h2) r2 hd2 rfl rfl rfl rfl rfl rfl rfl ?_
  exact T_ift (c := v = v) (t := 850) (f := 766) (L := [.ref 0, .ref 1, .ref 43, .int (nI i)]) (S := []) (G := S0 L) (h := h2) rfl rfl (hb h2 hr)
set_option maxRecDepth 20000 in
theorem law_24 (hL : L ≤ 256) (hi : i + 4 ≤ L) (E : RelE h) (hb : ∀ h2, RelE h2 → T 21 187 0 0 (850, [.ref 0, .ref 1, .ref 43, .int (nI i)], [], S0 L, h2) lawQ) : T 21 187 0 0 (768, [.ref 0, .ref 1, .ref 43, .int (nI i)], [], S0 L, h) lawQ := by
  obtain ⟨d1, d2, v, h1, h2, hd1, hd2, r1, r2, hr, e0⟩ := sm_judge (L := L) E 
  refine T_run 1 (st' := (769, [.ref 0, .ref 1, .ref 43, .int (nI i)], [.ref 1], S0 L, h)) rfl ?_
  refine T_callR (S' := [.int v]) (h' := h1) r1 hd1 rfl rfl rfl rfl rfl rfl rfl ?_
  refine T_run 1 (st' := (773, [.ref 0, .ref 1, .ref 43, .int (nI i)], [.ref 43, .int v], S0 L, h1)) rfl ?_
  refine T_callR (S' := [.int v, .int v]) (h' := h2) r2 hd2 rfl rfl rfl rfl rfl rfl rfl ?_
  exact T_ift (c := v = v) (t := 850) (f := 779) (L := [.ref 0, .ref 1, .ref 43, .int (nI i)]) (S := []) (G := S0 L) (h := h2) rfl rfl (hb h2 hr)
set_option maxRecDepth 20000 in
theorem law_25 (hL : L ≤ 256) (hi : i + 4 ≤ L) (E : RelE h) (hb : ∀ h2, RelE h2 → T 21 187 0 0 (850, [.ref 0, .ref 1, .ref 43, .int (nI i)], [], S0 L, h2) lawQ) : T 21 187 0 0 (781, [.ref 0, .ref 1, .ref 43, .int (nI i)], [], S0 L, h) lawQ := by
  obtain ⟨d1, d2, v, h1, h2, hd1, hd2, r1, r2, hr, e0⟩ := sm_seed (L := L) E (h 0 (i + 1))
  refine T_run 5 (st' := (786, [.ref 0, .ref 1, .ref 43, .int (nI i)], [.int (nI i + 1), .ref 0, .ref 1], S0 L, h)) rfl ?_
  refine T_sld (n := i + 1) rfl rfl (nI_add i 1) (by omega) (by omega) rfl ?_
  refine T_callR (S' := [.int v]) (h' := h1) r1 hd1 rfl rfl rfl rfl rfl rfl rfl ?_
  refine T_run 5 (st' := (795, [.ref 0, .ref 1, .ref 43, .int (nI i)], [.int (nI i + 1), .ref 0, .ref 43, .int v], S0 L, h1)) rfl ?_
  refine T_sld (n := i + 1) rfl rfl (nI_add i 1) (by omega) (by omega) rfl ?_
  rw [congrFun e0 (i + 1)]
  refine T_callR (S' := [.int v, .int v]) (h' := h2) r2 hd2 rfl rfl rfl rfl rfl rfl rfl ?_
  exact T_ift (c := v = v) (t := 850) (f := 802) (L := [.ref 0, .ref 1, .ref 43, .int (nI i)]) (S := []) (G := S0 L) (h := h2) rfl rfl (hb h2 hr)
set_option maxRecDepth 20000 in
theorem law_26 (hL : L ≤ 256) (hi : i + 4 ≤ L) (E : RelE h) (hb : ∀ h2, RelE h2 → T 21 187 0 0 (850, [.ref 0, .ref 1, .ref 43, .int (nI i)], [], S0 L, h2) lawQ) : T 21 187 0 0 (804, [.ref 0, .ref 1, .ref 43, .int (nI i)], [], S0 L, h) lawQ := by
  obtain ⟨d1, d2, v, h1, h2, hd1, hd2, r1, r2, hr, e0⟩ := sm_keep (L := L) E (h 0 (i + 1))
  refine T_run 5 (st' := (809, [.ref 0, .ref 1, .ref 43, .int (nI i)], [.int (nI i + 1), .ref 0, .ref 1], S0 L, h)) rfl ?_
  refine T_sld (n := i + 1) rfl rfl (nI_add i 1) (by omega) (by omega) rfl ?_
  refine T_callR (S' := [.int v]) (h' := h1) r1 hd1 rfl rfl rfl rfl rfl rfl rfl ?_
  refine T_run 5 (st' := (818, [.ref 0, .ref 1, .ref 43, .int (nI i)], [.int (nI i + 1), .ref 0, .ref 43, .int v], S0 L, h1)) rfl ?_
  refine T_sld (n := i + 1) rfl rfl (nI_add i 1) (by omega) (by omega) rfl ?_
  rw [congrFun e0 (i + 1)]
  refine T_callR (S' := [.int v, .int v]) (h' := h2) r2 hd2 rfl rfl rfl rfl rfl rfl rfl ?_
  exact T_ift (c := v = v) (t := 850) (f := 825) (L := [.ref 0, .ref 1, .ref 43, .int (nI i)]) (S := []) (G := S0 L) (h := h2) rfl rfl (hb h2 hr)
set_option maxRecDepth 20000 in
theorem law_27 (hL : L ≤ 256) (hi : i + 4 ≤ L) (E : RelE h) (hb : ∀ h2, RelE h2 → T 21 187 0 0 (850, [.ref 0, .ref 1, .ref 43, .int (nI i)], [], S0 L, h2) lawQ) : T 21 187 0 0 (827, [.ref 0, .ref 1, .ref 43, .int (nI i)], [], S0 L, h) lawQ := by
  obtain ⟨d1, d2, v, h1, h2, hd1, hd2, r1, r2, hr, e0⟩ := sm_goBack (L := L) E (h 0 (i + 1))
  refine T_run 5 (st' := (832, [.ref 0, .ref 1, .ref 43, .int (nI i)], [.int (nI i + 1), .ref 0, .ref 1], S0 L, h)) rfl ?_
  refine T_sld (n := i + 1) rfl rfl (nI_add i 1) (by omega) (by omega) rfl ?_
  refine T_callR (S' := [.int v]) (h' := h1) r1 hd1 rfl rfl rfl rfl rfl rfl rfl ?_
  refine T_run 5 (st' := (841, [.ref 0, .ref 1, .ref 43, .int (nI i)], [.int (nI i + 1), .ref 0, .ref 43, .int v], S0 L, h1)) rfl ?_
  refine T_sld (n := i + 1) rfl rfl (nI_add i 1) (by omega) (by omega) rfl ?_
  rw [congrFun e0 (i + 1)]
  refine T_callR (S' := [.int v, .int v]) (h' := h2) r2 hd2 rfl rfl rfl rfl rfl rfl rfl ?_
  exact T_ift (c := v = v) (t := 850) (f := 848) (L := [.ref 0, .ref 1, .ref 43, .int (nI i)]) (S := []) (G := S0 L) (h := h2) rfl rfl (hb h2 hr)
end LAWC
set_option maxRecDepth 20000 in
theorem law_loop {L : Nat} (hL : L ≤ 256) : ∀ (m i : Nat) (h : AH), L + 4 - i < m → i ≤ 300 → RelE h → T 21 187 0 0 (18, [.ref 0, .ref 1, .ref 43, .int (nI i)], [], S0 L, h) lawQ
  | 0, _, _, hm, _, _ => absurd hm (by omega)
  | m + 1, i, h, hm, hi, E => by
    refine T_run 5 (st' := (23, [.ref 0, .ref 1, .ref 43, .int (nI i)], [.int (nI L - 4), .int (nI i)], S0 L, h)) rfl ?_
    refine T_if (c := nI L - 4 < nI i) (t := 856) (f := 26) (L := [.ref 0, .ref 1, .ref 43, .int (nI i)]) (S := []) (G := S0 L) (h := h) rfl (fun q => ?_) (fun q => ?_)
    · refine T_run 1 (st' := (857, [.ref 0, .ref 1, .ref 43, .int (nI i)], [.int 1], S0 L, h)) rfl ?_
      exact T_ret (k := 2) (v := some 1) rfl (by simp [rets]) rfl
    · have hi4 := law_i4 hL hi q
      have hb : ∀ h2, RelE h2 → T 21 187 0 0 (850, [.ref 0, .ref 1, .ref 43, .int (nI i)], [], S0 L, h2) lawQ := fun h2 E2 => by
        refine T_run 2 (st' := (18, [.ref 0, .ref 1, .ref 43, .int (nI i + 4)], [], S0 L, h2)) rfl ?_
        rw [show nI i + 4 = nI (i + 4) from nI_add i 4]
        exact law_loop hL m (i + 4) h2 (by omega) (by omega) E2
      refine T_run 2 (st' := (28, [.ref 0, .ref 1, .ref 43, .int (nI i)], [.int (nI i), .ref 0], S0 L, h)) rfl ?_
      refine T_sld (n := i) rfl rfl rfl (by omega) (by omega) rfl ?_
      refine T_run 2 (st' := (32, [.ref 0, .ref 1, .ref 43, .int (nI i)], [.int (h 0 i &&& 31)], S0 L, h)) rfl ?_
      refine T_tsw (lo := 0) (ts := [160, 183, 196, 209, 232, 265, 298, 321, 354, 387, 410, 423, 446, 469, 482, 505, 528, 551, 584, 617, 650, 709, 722, 755, 768, 781, 804, 827]) (dd := 850) rfl ?_ ?_ (by decide)
      · intro k t ht q2
        match k, ht with
        | 0, ht => cases ht; exact law_0 hL hi4 E hb
        | 1, ht => cases ht; exact law_1 hL hi4 E hb
        | 2, ht => cases ht; exact law_2 hL hi4 E hb
        | 3, ht => cases ht; exact law_3 hL hi4 E hb
        | 4, ht => cases ht; exact law_4 hL hi4 E hb
        | 5, ht => cases ht; exact law_5 hL hi4 E hb
        | 6, ht => cases ht; exact law_6 hL hi4 E hb
        | 7, ht => cases ht; exact law_7 hL hi4 E hb
        | 8, ht => cases ht; exact law_8 hL hi4 E hb
        | 9, ht => cases ht; exact law_9 hL hi4 E hb
        | 10, ht => cases ht; exact law_10 hL hi4 E hb
        | 11, ht => cases ht; exact law_11 hL hi4 E hb
        | 12, ht => cases ht; exact law_12 hL hi4 E hb
        | 13, ht => cases ht; exact law_13 hL hi4 E hb
        | 14, ht => cases ht; exact law_14 hL hi4 E hb
        | 15, ht => cases ht; exact law_15 hL hi4 E hb
        | 16, ht => cases ht; exact law_16 hL hi4 E hb
        | 17, ht => cases ht; exact law_17 hL hi4 E hb
        | 18, ht => cases ht; exact law_18 hL hi4 E hb
        | 19, ht => cases ht; exact law_19 hL hi4 E hb
        | 20, ht => cases ht; exact law_20 hL hi4 E hb
        | 21, ht => cases ht; exact law_21 hL hi4 E hb
        | 22, ht => cases ht; exact law_22 hL hi4 E hb
        | 23, ht => cases ht; exact law_23 hL hi4 E hb
        | 24, ht => cases ht; exact law_24 hL hi4 E hb
        | 25, ht => cases ht; exact law_25 hL hi4 E hb
        | 26, ht => cases ht; exact law_26 hL hi4 E hb
        | 27, ht => cases ht; exact law_27 hL hi4 E hb
        | k + 28, ht => exact absurd ht (by simp)
      · intro q2
        exact hb h E
theorem rel_start {h : AH} : RelE (st_ (sc_ (sc_ (sc_ (sc_ (sc_ (sc_ (sc_ (sc_ (sc_ (sc_ (sc_ (sc_ (sc_ (sc_ (sc_ (sc_ (sc_ (st_ (sc_ (sc_ (sc_ (sc_ (sc_ (sc_ (sc_ (sc_ (sc_ (sc_ (sc_ (sc_ (sc_ (sc_ (sc_ (sc_ (sc_ (sc_ (sc_ (sc_ (st_ (sc_ (sc_ (sc_ (sc_ (sc_ (st_ (sc_ (sc_ (sc_ (sc_ (sc_ (sc_ (sc_ (st_ (st_ (st_ (st_ (st_ (st_ (st_ (st_ (st_ (st_ (st_ (st_ (st_ (st_ (st_ (st_ (st_ (st_ (st_ (st_ (st_ (st_ (st_ (st_ (st_ (st_ (st_ (st_ (st_ (sc_ (sc_ (sc_ (sc_ (sc_ (sc_ (sc_ (sc_ (sc_ (sc_ (sc_ (sc_ (sc_ (sc_ (sc_ (st_ (sc_ (sc_ h 1 (fun _ => 0)) 2 (fun _ => 0)) 1 2 (-1)) 3 (fun _ => 0)) 4 (fun _ => 0)) 5 (fun _ => 0)) 6 (fun _ => 0)) 7 (fun _ => 0)) 8 (fun _ => 0)) 9 (fun _ => 0)) 10 (fun _ => 0)) 11 (fun _ => 0)) 12 (fun _ => 0)) 13 (fun _ => 0)) 14 (fun _ => 0)) 15 (fun _ => 0)) 16 (fun _ => 0)) 17 (fun _ => 0)) 17 0 0) 17 1 0) 17 2 0) 17 3 0) 17 4 0) 17 5 0) 17 6 0) 17 7 0) 17 8 0) 17 9 0) 17 10 0) 17 11 0) 17 12 0) 17 13 0) 17 14 0) 17 15 0) 17 16 0) 17 17 0) 17 18 0) 17 19 0) 17 20 0) 17 21 0) 17 7 (-1)) 17 8 (-1)) 17 9 (-1)) 17 10 (-1)) 17 11 (-1)) 17 12 (-1)) 17 13 (-1)) 18 (fun _ => 0)) 19 (fun _ => 0)) 21 (fun _ => 0)) 22 (fun _ => 0)) 23 (fun _ => 0)) 24 (fun _ => 0)) 25 (fun _ => 0)) 21 2 0) 26 (fun _ => 0)) 27 (fun _ => 0)) 28 (fun _ => 0)) 29 (fun _ => 0)) 30 (fun _ => 0)) 26 2 1) 31 (fun _ => 0)) 32 (fun _ => 0)) 33 (fun _ => 0)) 34 (fun _ => 0)) 35 (fun _ => 0)) 36 (fun _ => 0)) 37 (fun _ => 0)) 38 (fun _ => 0)) 39 (fun _ => 0)) 40 (fun _ => 0)) 41 (fun _ => 0)) 42 (fun _ => 0)) 43 (fun _ => 0)) 44 (fun _ => 0)) 45 (fun _ => 0)) 46 (fun _ => 0)) 47 (fun _ => 0)) 48 (fun _ => 0)) 49 (fun _ => 0)) 50 (fun _ => 0)) 43 13 (-1)) 51 (fun _ => 0)) 52 (fun _ => 0)) 53 (fun _ => 0)) 54 (fun _ => 0)) 55 (fun _ => 0)) 56 (fun _ => 0)) 57 (fun _ => 0)) 58 (fun _ => 0)) 59 (fun _ => 0)) 60 (fun _ => 0)) 61 (fun _ => 0)) 62 (fun _ => 0)) 63 (fun _ => 0)) 64 (fun _ => 0)) 65 (fun _ => 0)) 66 (fun _ => 0)) 67 (fun _ => 0)) 43 0 0) := by
  refine ⟨0, 0, ⟨⟨rfl, Or.inl rfl, rfl⟩, ⟨rfl, rfl, by omega⟩, ⟨rfl, rfl, by omega⟩, fun i hi => absurd hi (by omega), fun i hi => absurd hi (by omega), fun i hi => absurd hi (by omega), fun i hi => absurd hi (by omega)⟩, ⟨fun i hi => absurd hi (by omega), fun i hi => absurd hi (by omega), fun i hi => absurd hi (by omega), rfl, rfl, rfl, fun i _ _ => rfl, fun i hi => absurd hi (by omega)⟩, PastOk.z rfl rfl rfl, ⟨⟨rfl, Or.inl rfl, fun z => absurd z (by show ¬ (0 : Int32) = 1; decide)⟩, rfl, Or.inl rfl, fun z => absurd z (by show ¬ (0 : Int32) = 1; decide)⟩, ⟨⟨0, by omega, rfl, rfl, fun t ht => absurd ht (by omega)⟩, 0, by omega, rfl, rfl, fun t ht => absurd ht (by omega)⟩, ⟨⟨⟨0, by omega, rfl, rfl, fun t ht => absurd ht (by omega)⟩, rfl⟩, rfl, fun i => by show ¬ (0 : Int32) < 0; decide⟩, ⟨0, by omega, rfl, rfl⟩, ⟨rfl, Or.inl rfl⟩, rfl, Or.inl rfl⟩
theorem law_T : LawT := by
  refine ⟨21, 67, 1918, by decide, by decide, by decide, fun L xs hL => ?_⟩
  refine T_run 0 (st' := (0, [.ref 0, un_, un_, un_], [], [(4, L, [])], lawH xs)) rfl ?_
  refine T_newC (mc := 66) (ms := 1904) (ci := 8) (N := 14) (m := 1) (G' := [(4, L, []), (0, 8, [none, none, none, none, none, none, none, none, none, none, none, none, none, none])]) rfl rfl rfl rfl ?_
  refine T_run 1 (st' := (4, [.ref 0, un_, un_, un_], [.ref 1, .ref 1], [(4, L, []), (0, 8, [none, none, none, none, none, none, none, none, none, none, none, none, none, none])], (sc_ (lawH xs) 1 (fun _ => 0)))) rfl ?_
  refine T_callC (mc := 25) (ms := 923) (mc1 := 41) (ms1 := 981) (S' := [.ref 1]) (G' := [(4, L, []), (0, 8, [some 2, none, none, some 3, some 9, some 15, some 16, some 18, some 20, some 21, some 26, some 31, some 33, none]), (1, 240, []), (0, 5, [none, none, none, none, some 4, some 5, some 6, some 7, some 8]), (1, 5, []), (1, 5, []), (1, 5, []), (1, 7, []), (1, 7, []), (0, 5, [none, none, none, none, some 10, some 11, some 12, some 13, some 14]), (1, 5, []), (1, 5, []), (1, 5, []), (1, 7, []), (1, 7, []), (0, 4, [some 2, some 9, none, none, none, none, none]), (0, 0, [some 17, some 3]), (1, 22, []), (0, 3, [some 19, none, none]), (1, 440, []), (3, 2, [some 39, some 41]), (0, 2, [some 3, some 16, none, some 22, some 23, some 24, some 25, none, none, none]), (1, 7, []), (1, 7, []), (1, 7, []), (1, 5, []), (0, 2, [some 3, some 16, none, some 27, some 28, some 29, some 30, none, none, none]), (1, 7, []), (1, 7, []), (1, 7, []), (1, 5, []), (0, 6, [some 3, some 32, none, none, none]), (1, 7, []), (0, 7, [some 34, some 35, some 36, some 37, some 38, none, none]), (1, 6, []), (1, 6, []), (2, 6, []), (1, 15, []), (1, 15, []), (0, 1, [some 40, none, none]), (1, 22, []), (0, 1, [some 42, none, none]), (1, 22, [])]) (h' := (sc_ (sc_ (sc_ (sc_ (sc_ (sc_ (sc_ (sc_ (sc_ (sc_ (sc_ (sc_ (st_ (sc_ (sc_ (sc_ (sc_ (sc_ (st_ (sc_ (sc_ (sc_ (sc_ (sc_ (sc_ (sc_ (st_ (st_ (st_ (st_ (st_ (st_ (st_ (st_ (st_ (st_ (st_ (st_ (st_ (st_ (st_ (st_ (st_ (st_ (st_ (st_ (st_ (st_ (st_ (st_ (st_ (st_ (st_ (st_ (st_ (sc_ (sc_ (sc_ (sc_ (sc_ (sc_ (sc_ (sc_ (sc_ (sc_ (sc_ (sc_ (sc_ (sc_ (sc_ (st_ (sc_ (sc_ (lawH xs) 1 (fun _ => 0)) 2 (fun _ => 0)) 1 2 (-1)) 3 (fun _ => 0)) 4 (fun _ => 0)) 5 (fun _ => 0)) 6 (fun _ => 0)) 7 (fun _ => 0)) 8 (fun _ => 0)) 9 (fun _ => 0)) 10 (fun _ => 0)) 11 (fun _ => 0)) 12 (fun _ => 0)) 13 (fun _ => 0)) 14 (fun _ => 0)) 15 (fun _ => 0)) 16 (fun _ => 0)) 17 (fun _ => 0)) 17 0 0) 17 1 0) 17 2 0) 17 3 0) 17 4 0) 17 5 0) 17 6 0) 17 7 0) 17 8 0) 17 9 0) 17 10 0) 17 11 0) 17 12 0) 17 13 0) 17 14 0) 17 15 0) 17 16 0) 17 17 0) 17 18 0) 17 19 0) 17 20 0) 17 21 0) 17 7 (-1)) 17 8 (-1)) 17 9 (-1)) 17 10 (-1)) 17 11 (-1)) 17 12 (-1)) 17 13 (-1)) 18 (fun _ => 0)) 19 (fun _ => 0)) 21 (fun _ => 0)) 22 (fun _ => 0)) 23 (fun _ => 0)) 24 (fun _ => 0)) 25 (fun _ => 0)) 21 2 0) 26 (fun _ => 0)) 27 (fun _ => 0)) 28 (fun _ => 0)) 29 (fun _ => 0)) 30 (fun _ => 0)) 26 2 1) 31 (fun _ => 0)) 32 (fun _ => 0)) 33 (fun _ => 0)) 34 (fun _ => 0)) 35 (fun _ => 0)) 36 (fun _ => 0)) 37 (fun _ => 0)) 38 (fun _ => 0)) 39 (fun _ => 0)) 40 (fun _ => 0)) 41 (fun _ => 0)) 42 (fun _ => 0))) (k_C (L := L) (sc_ (lawH xs) 1 (fun _ => 0))) (by decide) rfl rfl rfl rfl rfl rfl rfl ?_
  refine T_run 1 (st' := (8, [.ref 0, .ref 1, un_, un_], [], [(4, L, []), (0, 8, [some 2, none, none, some 3, some 9, some 15, some 16, some 18, some 20, some 21, some 26, some 31, some 33, none]), (1, 240, []), (0, 5, [none, none, none, none, some 4, some 5, some 6, some 7, some 8]), (1, 5, []), (1, 5, []), (1, 5, []), (1, 7, []), (1, 7, []), (0, 5, [none, none, none, none, some 10, some 11, some 12, some 13, some 14]), (1, 5, []), (1, 5, []), (1, 5, []), (1, 7, []), (1, 7, []), (0, 4, [some 2, some 9, none, none, none, none, none]), (0, 0, [some 17, some 3]), (1, 22, []), (0, 3, [some 19, none, none]), (1, 440, []), (3, 2, [some 39, some 41]), (0, 2, [some 3, some 16, none, some 22, some 23, some 24, some 25, none, none, none]), (1, 7, []), (1, 7, []), (1, 7, []), (1, 5, []), (0, 2, [some 3, some 16, none, some 27, some 28, some 29, some 30, none, none, none]), (1, 7, []), (1, 7, []), (1, 7, []), (1, 5, []), (0, 6, [some 3, some 32, none, none, none]), (1, 7, []), (0, 7, [some 34, some 35, some 36, some 37, some 38, none, none]), (1, 6, []), (1, 6, []), (2, 6, []), (1, 15, []), (1, 15, []), (0, 1, [some 40, none, none]), (1, 22, []), (0, 1, [some 42, none, none]), (1, 22, [])], (sc_ (sc_ (sc_ (sc_ (sc_ (sc_ (sc_ (sc_ (sc_ (sc_ (sc_ (sc_ (st_ (sc_ (sc_ (sc_ (sc_ (sc_ (st_ (sc_ (sc_ (sc_ (sc_ (sc_ (sc_ (sc_ (st_ (st_ (st_ (st_ (st_ (st_ (st_ (st_ (st_ (st_ (st_ (st_ (st_ (st_ (st_ (st_ (st_ (st_ (st_ (st_ (st_ (st_ (st_ (st_ (st_ (st_ (st_ (st_ (st_ (sc_ (sc_ (sc_ (sc_ (sc_ (sc_ (sc_ (sc_ (sc_ (sc_ (sc_ (sc_ (sc_ (sc_ (sc_ (st_ (sc_ (sc_ (lawH xs) 1 (fun _ => 0)) 2 (fun _ => 0)) 1 2 (-1)) 3 (fun _ => 0)) 4 (fun _ => 0)) 5 (fun _ => 0)) 6 (fun _ => 0)) 7 (fun _ => 0)) 8 (fun _ => 0)) 9 (fun _ => 0)) 10 (fun _ => 0)) 11 (fun _ => 0)) 12 (fun _ => 0)) 13 (fun _ => 0)) 14 (fun _ => 0)) 15 (fun _ => 0)) 16 (fun _ => 0)) 17 (fun _ => 0)) 17 0 0) 17 1 0) 17 2 0) 17 3 0) 17 4 0) 17 5 0) 17 6 0) 17 7 0) 17 8 0) 17 9 0) 17 10 0) 17 11 0) 17 12 0) 17 13 0) 17 14 0) 17 15 0) 17 16 0) 17 17 0) 17 18 0) 17 19 0) 17 20 0) 17 21 0) 17 7 (-1)) 17 8 (-1)) 17 9 (-1)) 17 10 (-1)) 17 11 (-1)) 17 12 (-1)) 17 13 (-1)) 18 (fun _ => 0)) 19 (fun _ => 0)) 21 (fun _ => 0)) 22 (fun _ => 0)) 23 (fun _ => 0)) 24 (fun _ => 0)) 25 (fun _ => 0)) 21 2 0) 26 (fun _ => 0)) 27 (fun _ => 0)) 28 (fun _ => 0)) 29 (fun _ => 0)) 30 (fun _ => 0)) 26 2 1) 31 (fun _ => 0)) 32 (fun _ => 0)) 33 (fun _ => 0)) 34 (fun _ => 0)) 35 (fun _ => 0)) 36 (fun _ => 0)) 37 (fun _ => 0)) 38 (fun _ => 0)) 39 (fun _ => 0)) 40 (fun _ => 0)) 41 (fun _ => 0)) 42 (fun _ => 0)))) rfl ?_
  refine T_newC (mc := 24) (ms := 882) (ci := 9) (N := 41) (m := 43) (G' := [(4, L, []), (0, 8, [some 2, none, none, some 3, some 9, some 15, some 16, some 18, some 20, some 21, some 26, some 31, some 33, none]), (1, 240, []), (0, 5, [none, none, none, none, some 4, some 5, some 6, some 7, some 8]), (1, 5, []), (1, 5, []), (1, 5, []), (1, 7, []), (1, 7, []), (0, 5, [none, none, none, none, some 10, some 11, some 12, some 13, some 14]), (1, 5, []), (1, 5, []), (1, 5, []), (1, 7, []), (1, 7, []), (0, 4, [some 2, some 9, none, none, none, none, none]), (0, 0, [some 17, some 3]), (1, 22, []), (0, 3, [some 19, none, none]), (1, 440, []), (3, 2, [some 39, some 41]), (0, 2, [some 3, some 16, none, some 22, some 23, some 24, some 25, none, none, none]), (1, 7, []), (1, 7, []), (1, 7, []), (1, 5, []), (0, 2, [some 3, some 16, none, some 27, some 28, some 29, some 30, none, none, none]), (1, 7, []), (1, 7, []), (1, 7, []), (1, 5, []), (0, 6, [some 3, some 32, none, none, none]), (1, 7, []), (0, 7, [some 34, some 35, some 36, some 37, some 38, none, none]), (1, 6, []), (1, 6, []), (2, 6, []), (1, 15, []), (1, 15, []), (0, 1, [some 40, none, none]), (1, 22, []), (0, 1, [some 42, none, none]), (1, 22, []), (0, 9, [none, none, none, none, none, none, none, none, none, none, none, none, none, none, none, none, none, none, none, none, none, none, none, none, none, none, none, none, none, none, none, none, none, none, none, none, none, none, none, none, none])]) rfl rfl rfl rfl ?_
  refine T_run 1 (st' := (12, [.ref 0, .ref 1, un_, un_], [.ref 43, .ref 43], [(4, L, []), (0, 8, [some 2, none, none, some 3, some 9, some 15, some 16, some 18, some 20, some 21, some 26, some 31, some 33, none]), (1, 240, []), (0, 5, [none, none, none, none, some 4, some 5, some 6, some 7, some 8]), (1, 5, []), (1, 5, []), (1, 5, []), (1, 7, []), (1, 7, []), (0, 5, [none, none, none, none, some 10, some 11, some 12, some 13, some 14]), (1, 5, []), (1, 5, []), (1, 5, []), (1, 7, []), (1, 7, []), (0, 4, [some 2, some 9, none, none, none, none, none]), (0, 0, [some 17, some 3]), (1, 22, []), (0, 3, [some 19, none, none]), (1, 440, []), (3, 2, [some 39, some 41]), (0, 2, [some 3, some 16, none, some 22, some 23, some 24, some 25, none, none, none]), (1, 7, []), (1, 7, []), (1, 7, []), (1, 5, []), (0, 2, [some 3, some 16, none, some 27, some 28, some 29, some 30, none, none, none]), (1, 7, []), (1, 7, []), (1, 7, []), (1, 5, []), (0, 6, [some 3, some 32, none, none, none]), (1, 7, []), (0, 7, [some 34, some 35, some 36, some 37, some 38, none, none]), (1, 6, []), (1, 6, []), (2, 6, []), (1, 15, []), (1, 15, []), (0, 1, [some 40, none, none]), (1, 22, []), (0, 1, [some 42, none, none]), (1, 22, []), (0, 9, [none, none, none, none, none, none, none, none, none, none, none, none, none, none, none, none, none, none, none, none, none, none, none, none, none, none, none, none, none, none, none, none, none, none, none, none, none, none, none, none, none])], (sc_ (sc_ (sc_ (sc_ (sc_ (sc_ (sc_ (sc_ (sc_ (sc_ (sc_ (sc_ (sc_ (st_ (sc_ (sc_ (sc_ (sc_ (sc_ (st_ (sc_ (sc_ (sc_ (sc_ (sc_ (sc_ (sc_ (st_ (st_ (st_ (st_ (st_ (st_ (st_ (st_ (st_ (st_ (st_ (st_ (st_ (st_ (st_ (st_ (st_ (st_ (st_ (st_ (st_ (st_ (st_ (st_ (st_ (st_ (st_ (st_ (st_ (sc_ (sc_ (sc_ (sc_ (sc_ (sc_ (sc_ (sc_ (sc_ (sc_ (sc_ (sc_ (sc_ (sc_ (sc_ (st_ (sc_ (sc_ (lawH xs) 1 (fun _ => 0)) 2 (fun _ => 0)) 1 2 (-1)) 3 (fun _ => 0)) 4 (fun _ => 0)) 5 (fun _ => 0)) 6 (fun _ => 0)) 7 (fun _ => 0)) 8 (fun _ => 0)) 9 (fun _ => 0)) 10 (fun _ => 0)) 11 (fun _ => 0)) 12 (fun _ => 0)) 13 (fun _ => 0)) 14 (fun _ => 0)) 15 (fun _ => 0)) 16 (fun _ => 0)) 17 (fun _ => 0)) 17 0 0) 17 1 0) 17 2 0) 17 3 0) 17 4 0) 17 5 0) 17 6 0) 17 7 0) 17 8 0) 17 9 0) 17 10 0) 17 11 0) 17 12 0) 17 13 0) 17 14 0) 17 15 0) 17 16 0) 17 17 0) 17 18 0) 17 19 0) 17 20 0) 17 21 0) 17 7 (-1)) 17 8 (-1)) 17 9 (-1)) 17 10 (-1)) 17 11 (-1)) 17 12 (-1)) 17 13 (-1)) 18 (fun _ => 0)) 19 (fun _ => 0)) 21 (fun _ => 0)) 22 (fun _ => 0)) 23 (fun _ => 0)) 24 (fun _ => 0)) 25 (fun _ => 0)) 21 2 0) 26 (fun _ => 0)) 27 (fun _ => 0)) 28 (fun _ => 0)) 29 (fun _ => 0)) 30 (fun _ => 0)) 26 2 1) 31 (fun _ => 0)) 32 (fun _ => 0)) 33 (fun _ => 0)) 34 (fun _ => 0)) 35 (fun _ => 0)) 36 (fun _ => 0)) 37 (fun _ => 0)) 38 (fun _ => 0)) 39 (fun _ => 0)) 40 (fun _ => 0)) 41 (fun _ => 0)) 42 (fun _ => 0)) 43 (fun _ => 0)))) rfl ?_
  refine T_callC (mc := 0) (ms := 0) (mc1 := 24) (ms1 := 882) (S' := [.ref 43]) (G' := S0 L) (h' := (st_ (sc_ (sc_ (sc_ (sc_ (sc_ (sc_ (sc_ (sc_ (sc_ (sc_ (sc_ (sc_ (sc_ (sc_ (sc_ (sc_ (sc_ (st_ (sc_ (sc_ (sc_ (sc_ (sc_ (sc_ (sc_ (sc_ (sc_ (sc_ (sc_ (sc_ (sc_ (sc_ (sc_ (sc_ (sc_ (sc_ (sc_ (sc_ (st_ (sc_ (sc_ (sc_ (sc_ (sc_ (st_ (sc_ (sc_ (sc_ (sc_ (sc_ (sc_ (sc_ (st_ (st_ (st_ (st_ (st_ (st_ (st_ (st_ (st_ (st_ (st_ (st_ (st_ (st_ (st_ (st_ (st_ (st_ (st_ (st_ (st_ (st_ (st_ (st_ (st_ (st_ (st_ (st_ (st_ (sc_ (sc_ (sc_ (sc_ (sc_ (sc_ (sc_ (sc_ (sc_ (sc_ (sc_ (sc_ (sc_ (sc_ (sc_ (st_ (sc_ (sc_ (lawH xs) 1 (fun _ => 0)) 2 (fun _ => 0)) 1 2 (-1)) 3 (fun _ => 0)) 4 (fun _ => 0)) 5 (fun _ => 0)) 6 (fun _ => 0)) 7 (fun _ => 0)) 8 (fun _ => 0)) 9 (fun _ => 0)) 10 (fun _ => 0)) 11 (fun _ => 0)) 12 (fun _ => 0)) 13 (fun _ => 0)) 14 (fun _ => 0)) 15 (fun _ => 0)) 16 (fun _ => 0)) 17 (fun _ => 0)) 17 0 0) 17 1 0) 17 2 0) 17 3 0) 17 4 0) 17 5 0) 17 6 0) 17 7 0) 17 8 0) 17 9 0) 17 10 0) 17 11 0) 17 12 0) 17 13 0) 17 14 0) 17 15 0) 17 16 0) 17 17 0) 17 18 0) 17 19 0) 17 20 0) 17 21 0) 17 7 (-1)) 17 8 (-1)) 17 9 (-1)) 17 10 (-1)) 17 11 (-1)) 17 12 (-1)) 17 13 (-1)) 18 (fun _ => 0)) 19 (fun _ => 0)) 21 (fun _ => 0)) 22 (fun _ => 0)) 23 (fun _ => 0)) 24 (fun _ => 0)) 25 (fun _ => 0)) 21 2 0) 26 (fun _ => 0)) 27 (fun _ => 0)) 28 (fun _ => 0)) 29 (fun _ => 0)) 30 (fun _ => 0)) 26 2 1) 31 (fun _ => 0)) 32 (fun _ => 0)) 33 (fun _ => 0)) 34 (fun _ => 0)) 35 (fun _ => 0)) 36 (fun _ => 0)) 37 (fun _ => 0)) 38 (fun _ => 0)) 39 (fun _ => 0)) 40 (fun _ => 0)) 41 (fun _ => 0)) 42 (fun _ => 0)) 43 (fun _ => 0)) 44 (fun _ => 0)) 45 (fun _ => 0)) 46 (fun _ => 0)) 47 (fun _ => 0)) 48 (fun _ => 0)) 49 (fun _ => 0)) 50 (fun _ => 0)) 43 13 (-1)) 51 (fun _ => 0)) 52 (fun _ => 0)) 53 (fun _ => 0)) 54 (fun _ => 0)) 55 (fun _ => 0)) 56 (fun _ => 0)) 57 (fun _ => 0)) 58 (fun _ => 0)) 59 (fun _ => 0)) 60 (fun _ => 0)) 61 (fun _ => 0)) 62 (fun _ => 0)) 63 (fun _ => 0)) 64 (fun _ => 0)) 65 (fun _ => 0)) 66 (fun _ => 0)) 67 (fun _ => 0)) 43 0 0)) (k_M (L := L) (sc_ (sc_ (sc_ (sc_ (sc_ (sc_ (sc_ (sc_ (sc_ (sc_ (sc_ (sc_ (sc_ (st_ (sc_ (sc_ (sc_ (sc_ (sc_ (st_ (sc_ (sc_ (sc_ (sc_ (sc_ (sc_ (sc_ (st_ (st_ (st_ (st_ (st_ (st_ (st_ (st_ (st_ (st_ (st_ (st_ (st_ (st_ (st_ (st_ (st_ (st_ (st_ (st_ (st_ (st_ (st_ (st_ (st_ (st_ (st_ (st_ (st_ (sc_ (sc_ (sc_ (sc_ (sc_ (sc_ (sc_ (sc_ (sc_ (sc_ (sc_ (sc_ (sc_ (sc_ (sc_ (st_ (sc_ (sc_ (lawH xs) 1 (fun _ => 0)) 2 (fun _ => 0)) 1 2 (-1)) 3 (fun _ => 0)) 4 (fun _ => 0)) 5 (fun _ => 0)) 6 (fun _ => 0)) 7 (fun _ => 0)) 8 (fun _ => 0)) 9 (fun _ => 0)) 10 (fun _ => 0)) 11 (fun _ => 0)) 12 (fun _ => 0)) 13 (fun _ => 0)) 14 (fun _ => 0)) 15 (fun _ => 0)) 16 (fun _ => 0)) 17 (fun _ => 0)) 17 0 0) 17 1 0) 17 2 0) 17 3 0) 17 4 0) 17 5 0) 17 6 0) 17 7 0) 17 8 0) 17 9 0) 17 10 0) 17 11 0) 17 12 0) 17 13 0) 17 14 0) 17 15 0) 17 16 0) 17 17 0) 17 18 0) 17 19 0) 17 20 0) 17 21 0) 17 7 (-1)) 17 8 (-1)) 17 9 (-1)) 17 10 (-1)) 17 11 (-1)) 17 12 (-1)) 17 13 (-1)) 18 (fun _ => 0)) 19 (fun _ => 0)) 21 (fun _ => 0)) 22 (fun _ => 0)) 23 (fun _ => 0)) 24 (fun _ => 0)) 25 (fun _ => 0)) 21 2 0) 26 (fun _ => 0)) 27 (fun _ => 0)) 28 (fun _ => 0)) 29 (fun _ => 0)) 30 (fun _ => 0)) 26 2 1) 31 (fun _ => 0)) 32 (fun _ => 0)) 33 (fun _ => 0)) 34 (fun _ => 0)) 35 (fun _ => 0)) 36 (fun _ => 0)) 37 (fun _ => 0)) 38 (fun _ => 0)) 39 (fun _ => 0)) 40 (fun _ => 0)) 41 (fun _ => 0)) 42 (fun _ => 0)) 43 (fun _ => 0))) (by decide) rfl rfl rfl rfl rfl rfl rfl ?_
  refine T_run 3 (st' := (18, [.ref 0, .ref 1, .ref 43, .int (nI 0)], [], S0 L, (st_ (sc_ (sc_ (sc_ (sc_ (sc_ (sc_ (sc_ (sc_ (sc_ (sc_ (sc_ (sc_ (sc_ (sc_ (sc_ (sc_ (sc_ (st_ (sc_ (sc_ (sc_ (sc_ (sc_ (sc_ (sc_ (sc_ (sc_ (sc_ (sc_ (sc_ (sc_ (sc_ (sc_ (sc_ (sc_ (sc_ (sc_ (sc_ (st_ (sc_ (sc_ (sc_ (sc_ (sc_ (st_ (sc_ (sc_ (sc_ (sc_ (sc_ (sc_ (sc_ (st_ (st_ (st_ (st_ (st_ (st_ (st_ (st_ (st_ (st_ (st_ (st_ (st_ (st_ (st_ (st_ (st_ (st_ (st_ (st_ (st_ (st_ (st_ (st_ (st_ (st_ (st_ (st_ (st_ (sc_ (sc_ (sc_ (sc_ (sc_ (sc_ (sc_ (sc_ (sc_ (sc_ (sc_ (sc_ (sc_ (sc_ (sc_ (st_ (sc_ (sc_ (lawH xs) 1 (fun _ => 0)) 2 (fun _ => 0)) 1 2 (-1)) 3 (fun _ => 0)) 4 (fun _ => 0)) 5 (fun _ => 0)) 6 (fun _ => 0)) 7 (fun _ => 0)) 8 (fun _ => 0)) 9 (fun _ => 0)) 10 (fun _ => 0)) 11 (fun _ => 0)) 12 (fun _ => 0)) 13 (fun _ => 0)) 14 (fun _ => 0)) 15 (fun _ => 0)) 16 (fun _ => 0)) 17 (fun _ => 0)) 17 0 0) 17 1 0) 17 2 0) 17 3 0) 17 4 0) 17 5 0) 17 6 0) 17 7 0) 17 8 0) 17 9 0) 17 10 0) 17 11 0) 17 12 0) 17 13 0) 17 14 0) 17 15 0) 17 16 0) 17 17 0) 17 18 0) 17 19 0) 17 20 0) 17 21 0) 17 7 (-1)) 17 8 (-1)) 17 9 (-1)) 17 10 (-1)) 17 11 (-1)) 17 12 (-1)) 17 13 (-1)) 18 (fun _ => 0)) 19 (fun _ => 0)) 21 (fun _ => 0)) 22 (fun _ => 0)) 23 (fun _ => 0)) 24 (fun _ => 0)) 25 (fun _ => 0)) 21 2 0) 26 (fun _ => 0)) 27 (fun _ => 0)) 28 (fun _ => 0)) 29 (fun _ => 0)) 30 (fun _ => 0)) 26 2 1) 31 (fun _ => 0)) 32 (fun _ => 0)) 33 (fun _ => 0)) 34 (fun _ => 0)) 35 (fun _ => 0)) 36 (fun _ => 0)) 37 (fun _ => 0)) 38 (fun _ => 0)) 39 (fun _ => 0)) 40 (fun _ => 0)) 41 (fun _ => 0)) 42 (fun _ => 0)) 43 (fun _ => 0)) 44 (fun _ => 0)) 45 (fun _ => 0)) 46 (fun _ => 0)) 47 (fun _ => 0)) 48 (fun _ => 0)) 49 (fun _ => 0)) 50 (fun _ => 0)) 43 13 (-1)) 51 (fun _ => 0)) 52 (fun _ => 0)) 53 (fun _ => 0)) 54 (fun _ => 0)) 55 (fun _ => 0)) 56 (fun _ => 0)) 57 (fun _ => 0)) 58 (fun _ => 0)) 59 (fun _ => 0)) 60 (fun _ => 0)) 61 (fun _ => 0)) 62 (fun _ => 0)) 63 (fun _ => 0)) 64 (fun _ => 0)) 65 (fun _ => 0)) 66 (fun _ => 0)) 67 (fun _ => 0)) 43 0 0))) rfl ?_
  exact law_loop hL 300 0 _ (by omega) (by omega) rel_start

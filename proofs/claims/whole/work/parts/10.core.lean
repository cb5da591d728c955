/-! WHAT THE SMALL MACHINE'S CELLS ARE IN THE LARGE ONE -/
def wsG : List Cond := lw_tbl.filter goodWord
theorem wsG_in {w : Cond} (i : Nat) (h : lw_tbl[i]? = some w) (g : goodWord w = true) : w ∈ wsG := List.mem_filter.mpr ⟨List.mem_of_getElem? h, g⟩
theorem wsG_good : GoodIn wsG wsG := fun _ h => ⟨h, good_of_word (List.mem_filter.mp h).2⟩
abbrev Ev : Type := (Nat → ClassId) × (Nat → Nat → Nat) × (ClassId × ClassId × ClassId × ClassId) × Nat × Nat
abbrev evB (E : Ev) : Nat := E.2.2.2.2
def ad (E : Ev) : Nat → Nat
  | 0 => E.2.2.2.1
  | k + 1 => E.2.2.2.2 + k
def cv (E : Ev) : Value → Value
  | .ref k => .ref (ad E k)
  | v => v
def isRf : FieldType → Bool
  | .int => false
  | .boolean => false
  | _ => true
def fty (ci k : Nat) : FieldType := ftab.getD ci (fun _ => .int) k
def fvl (E : Ev) (ci : Nat) (rs : List (Option Nat)) (g : Nat → Int32) (j : Nat) : Value := if isRf (fty ci j) = true then va_rf ((rs.getD j none).map (ad E)) else .int (g j)
def cellAt (E : Ev) (k : Nat) (c : SC) (g : Nat → Int32) (H : Heap) : Prop := match c with
  | (0, ci, rs) => ∃ r, cls[ci]? = some r ∧ t_OB (ad E k) (E.1 ci) r.2.2 (E.2.1 ci) H (fvl E ci rs g)
  | (1, n, _) => H[ad E k]? = some (arrV E.2.2.1.1 n (fun j => .int (g j)))
  | (2, n, _) => H[ad E k]? = some (arrV E.2.2.1.2.1 n (fun j => .int (g j)))
  | (3, n, rs) => H[ad E k]? = some (arrV E.2.2.1.2.2.1 n (fun j => va_rf ((rs.getD j none).map (ad E))))
  | (4, n, _) => ∃ scr : Cell, H[ad E k]? = some scr ∧ scr.cls = E.2.2.1.2.2.2 ∧ (∀ k', scr.vm ≠ .statics k') ∧ scr.vm ≠ .unknown ∧ scr.slots.size = n ∧ ∀ j : Nat, j < n → scr.slots[j]? = some (.int (g j))
  | _ => False
def CN (E : Ev) (G : List SC) (h : AH) (H : Heap) : Prop := H.size + 1 = evB E + G.length ∧ E.2.2.2.1 < evB E ∧ (∃ n, G[0]? = some (4, n, [])) ∧ ∀ k c, G[k]? = some c → cellAt E k c (h k) H
def tys0 (E : Ev) : List (ClassId × FieldType) := [(E.2.2.1.1, .int), (E.2.2.1.2.1, .boolean), (E.2.2.1.2.2.1, .object "SatchelSins$Image")]
theorem cellAt.kept {E : Ev} {k : Nat} {c : SC} {g : Nat → Int32} {H H' : Heap} (h : cellAt E k c g H) (e : H'[ad E k]? = H[ad E k]?) : cellAt E k c g H' := by
  obtain ⟨t, n, rs⟩ := c
  match t, h with
  | 0, h => obtain ⟨r, h1, h2⟩ := h; exact ⟨r, h1, h2.kept e⟩
  | 1, h => exact e.trans h
  | 2, h => exact e.trans h
  | 3, h => exact e.trans h
  | 4, h => obtain ⟨scr, h1, h2⟩ := h; exact ⟨scr, e.trans h1, h2⟩
theorem cellAt.lt {E : Ev} {k : Nat} {c : SC} {g : Nat → Int32} {H : Heap} (h : cellAt E k c g H) : ad E k < H.size := by
  obtain ⟨t, n, rs⟩ := c
  match t, h with
  | 0, h => obtain ⟨r, h1, cell, h2, -⟩ := h; exact (Array.getElem?_eq_some_iff.mp h2).1
  | 1, h => exact (Array.getElem?_eq_some_iff.mp h).1
  | 2, h => exact (Array.getElem?_eq_some_iff.mp h).1
  | 3, h => exact (Array.getElem?_eq_some_iff.mp h).1
  | 4, h => obtain ⟨scr, h1, h2⟩ := h; exact (Array.getElem?_eq_some_iff.mp h1).1
theorem ad_inj {E : Ev} (hb : E.2.2.2.1 < evB E) : ∀ {a b : Nat}, ad E a = ad E b → a = b
  | 0, 0, _ => rfl
  | 0, b + 1, h => by simp only [ad] at h; simp only [evB] at hb; omega
  | a + 1, 0, h => by simp only [ad] at h; simp only [evB] at hb; omega
  | a + 1, b + 1, h => by simp only [ad] at h; omega
theorem CN.pos {E : Ev} {G : List SC} {h : AH} {H : Heap} (hN : CN E G h H) {k : Nat} {c : SC} (hk : G[k]? = some c) (hc : c.1 ≠ 4) : evB E ≤ ad E k := by
  obtain ⟨-, -, ⟨n, h0⟩, -⟩ := hN
  cases k with
  | zero => rw [h0] at hk; cases hk; exact absurd rfl hc
  | succ k => simp only [ad, evB]; omega
/-- one cell is written -/
theorem CN.upd {E : Ev} {G : List SC} {h h' : AH} {H H' : Heap} (hN : CN E G h H) {k : Nat} {c c' : SC} (hk : G[k]? = some c) (hc : c.1 ≠ 4) (z : H'.size = H.size) (oq : ∀ q : Nat, q ≠ ad E k → H'[q]? = H[q]?) (hh : ∀ i, i ≠ k → h' i = h i) (hn : cellAt E k c' (h' k) H') : CN E (G.set k c') h' H' := by
  have hlt : k < G.length := (List.getElem?_eq_some_iff.mp hk).1
  obtain ⟨h1, h2, ⟨n, h3⟩, h4⟩ := hN
  refine ⟨by rw [z, List.length_set]; exact h1, h2, ⟨n, ?_⟩, fun i ci hi => ?_⟩
  · have hk0 : k ≠ 0 := by
      intro e
      subst e
      rw [h3] at hk
      cases hk
      exact hc rfl
    rw [List.getElem?_set_ne hk0]
    exact h3
  · by_cases e : i = k
    · subst e
      rw [List.getElem?_set_self hlt] at hi
      cases hi
      exact hn
    · rw [List.getElem?_set_ne (Ne.symm e)] at hi
      rw [hh i e]
      exact (h4 i ci hi).kept (oq _ (fun q => e (ad_inj h2 q)))
theorem set_same {α : Type} {l : List α} {k : Nat} {c : α} (h : l[k]? = some c) : l.set k c = l := by
  have hlt := (List.getElem?_eq_some_iff.mp h).1
  apply List.ext_getElem?
  intro i
  by_cases e : i = k
  · subst e
    rw [List.getElem?_set_self hlt, h]
  · rw [List.getElem?_set_ne (Ne.symm e)]
theorem CN.upd0 {E : Ev} {G : List SC} {h h' : AH} {H H' : Heap} (hN : CN E G h H) {k : Nat} {c : SC} (hk : G[k]? = some c) (hc : c.1 ≠ 4) (z : H'.size = H.size) (oq : ∀ q : Nat, q ≠ ad E k → H'[q]? = H[q]?) (hh : ∀ i, i ≠ k → h' i = h i) (hn : cellAt E k c (h' k) H') : CN E G h' H' := by
  have := hN.upd hk hc z oq hh hn
  rwa [set_same hk] at this
/-- a cell is made -/
theorem CN.push {E : Ev} {G : List SC} {h h' : AH} {H H' : Heap} (hN : CN E G h H) {c : SC} (z : H'.size = H.size + 1) (oq : ∀ q : Nat, q < H.size → H'[q]? = H[q]?) (hh : ∀ i, i ≠ G.length → h' i = h i) (hn : cellAt E G.length c (h' G.length) H') : CN E (G ++ [c]) h' H' := by
  obtain ⟨h1, h2, ⟨n, h3⟩, h4⟩ := hN
  have hp : 0 < G.length := (List.getElem?_eq_some_iff.mp h3).1
  refine ⟨by rw [z, List.length_append, List.length_singleton]; omega, h2, ⟨n, by rw [List.getElem?_append_left hp]; exact h3⟩, fun i ci hi => ?_⟩
  by_cases e : i < G.length
  · rw [List.getElem?_append_left e] at hi
    rw [hh i (Nat.ne_of_lt e)]
    exact (h4 i ci hi).kept (oq _ (h4 i ci hi).lt)
  · have hl : i < (G ++ [c]).length := (List.getElem?_eq_some_iff.mp hi).1
    rw [List.length_append, List.length_singleton] at hl
    have e2 : i = G.length := by omega
    subst e2
    rw [List.getElem?_append_right (Nat.le_refl _), Nat.sub_self] at hi
    cases hi
    exact hn
theorem CN.new_ad {E : Ev} {G : List SC} {h : AH} {H : Heap} (hN : CN E G h H) : ad E G.length = H.size := by
  obtain ⟨h1, h2, ⟨n, h3⟩, h4⟩ := hN
  have hp : 0 < G.length := (List.getElem?_eq_some_iff.mp h3).1
  obtain ⟨k, hk⟩ : ∃ k, G.length = k + 1 := ⟨G.length - 1, by omega⟩
  rw [hk] at h1 ⊢
  simp only [ad, evB] at *
  omega
abbrev FS (E : Ev) (H0 H : Heap) (locs : List Loc) : Prop := va_S (fun q => evB E ≤ q) H0 H locs
theorem FS.push {E : Ev} {H0 H H' : Heap} {locs : List Loc} (h : FS E H0 H locs) (z : H'.size = H.size + 1) (oq : ∀ q : Nat, q < H.size → H'[q]? = H[q]?) : FS E H0 H' locs := by
  obtain ⟨h1, h2, h3⟩ := h
  exact ⟨by omega, fun q hq hA => (oq q (by omega)).trans (h2 q hq hA), h3⟩
/-- what the tables say, at any state of the run -/
def nst : List Cond := [Cond.methodLinkNest "SatchelSins" 19 ⟨"SatchelSins$Roll", "<init>", "()V"⟩ "SatchelSins", Cond.methodLinkNest "SatchelSins" 47 ⟨"SatchelSins$Past", "<init>", "()V"⟩ "SatchelSins", Cond.methodLinkNest "SatchelSins" 79 ⟨"SatchelSins$Slate", "<init>", "()V"⟩ "SatchelSins", Cond.methodLinkNest "SatchelSins" 84 ⟨"SatchelSins$Image", "<init>", "()V"⟩ "SatchelSins"]
def KN (E : Ev) (U : State) : Prop := va_K (E.1, E.2.1) cls (tys0 E) U ∧ (∀ w ∈ nst, va_Nw w U) ∧ va_AO "SatchelSins$Image" U ∧ ∃ (kA : Class) (comp : ClassId), U.vm.classes[E.2.2.1.2.2.2]? = some kA ∧ kA.kind = .array comp .int
theorem KN.warm {E : Ev} {s U : State} (hW : s.WarmedH U.vm) (h : KN E s) : KN E U := by
  obtain ⟨h1, h2, h3, kA, comp, h4, h5⟩ := h
  obtain ⟨k', hk', he⟩ := hW.alike.2.2 _ _ h4
  refine ⟨h1.moved hW.alike, fun w hw => ?_, h3.moved hW.alike, k', comp, hk', by rw [he]; exact h5⟩
  have h := h2 w hw
  simp only [nst, List.mem_cons, List.not_mem_nil, or_false] at hw
  rcases hw with rfl | rfl | rfl | rfl <;> exact va_Nw.warmM hW h
theorem KN.same {E : Ev} {s U : State} (hv : s.vm = U.vm) (h : KN E s) : KN E U := by
  obtain ⟨h1, h2, h3, kA, comp, h4, h5⟩ := h
  have ha : s.vm.Alike U.vm := by rw [hv]; exact Vm.Alike.refl _
  refine ⟨h1.moved ha, fun w hw => ?_, h3.moved ha, kA, comp, by rw [← hv]; exact h4, h5⟩
  have h := h2 w hw
  simp only [nst, List.mem_cons, List.not_mem_nil, or_false] at hw
  rcases hw with rfl | rfl | rfl | rfl <;> exact va_Nw.same rfl hv h
/-- the locals -/
def lvl (E : Ev) (L : List Value) : List (Nat × Value) := L.zipIdx.filterMap (fun q => if isSet q.1 = true then some (q.2, cv E q.1) else none)
theorem lvl_mem {E : Ev} {L : List Value} {q : Nat × Value} : q ∈ lvl E L ↔ ∃ v, L[q.1]? = some v ∧ isSet v = true ∧ q.2 = cv E v := by
  obtain ⟨i, w⟩ := q
  simp only [lvl, List.mem_filterMap]
  constructor
  · rintro ⟨⟨v, k⟩, h1, h2⟩
    have h3 := List.mem_zipIdx_iff_getElem?.mp h1
    simp only at h2 h3
    split at h2
    · rename_i hs
      cases h2
      exact ⟨v, h3, hs, rfl⟩
    · cases h2
  · rintro ⟨v, h1, h2, h3⟩
    refine ⟨(v, i), List.mem_zipIdx_iff_getElem?.mpr h1, ?_⟩
    simp only at h3 ⊢
    rw [if_pos h2, h3]
def LV (E : Ev) (ls : Array Slot) (n : Nat) (L : List Value) : Prop := lv_has ls n (lvl E L) ∧ L.length = n
theorem LV.at {E : Ev} {ls : Array Slot} {n : Nat} {L : List Value} (h : LV E ls n L) {i : Nat} {v : Value} (hi : L[i]? = some v) (hs : isSet v = true) : ls[i]? = some (.val (cv E v)) := h.1.2.2 (i, cv E v) (lvl_mem.mpr ⟨v, hi, hs, rfl⟩)
theorem cv_cat (E : Ev) (v : Value) : (cv E v).category = v.category := by cases v <;> rfl
theorem cutOk_spec {L : List Value} {i j : Nat} (h : cutOk L i = true) (hj : j + 1 = i) {v : Value} (hv : L[j]? = some v) : v.category = 1 := by
  subst hj
  simp only [cutOk, hv] at h
  cases v <;> first | rfl | cases h
theorem LV.set1 {E : Ev} {ls ls' : Array Slot} {n : Nat} {L : List Value} {i : Nat} {v : Value} (h : LV E ls n L) (hc : cutOk L i = true) (hi : i < L.length)
    (h' : lv_has ls' n ((i, cv E v) :: (lvl E L).filter (fun q => !(q.1 == i) && !(q.1 + 1 == i && q.2.category == 2)))) : LV E ls' n (L.set i v) := by
  refine ⟨⟨h'.1, h'.2.1, fun q hq => ?_⟩, by rw [List.length_set]; exact h.2⟩
  obtain ⟨w, h1, h2, h3⟩ := lvl_mem.mp hq
  by_cases e : q.1 = i
  · rw [e, List.getElem?_set_self hi] at h1
    cases h1
    have := h'.2.2 (i, cv E v) List.mem_cons_self
    rw [e, h3]
    exact this
  · rw [List.getElem?_set_ne (Ne.symm e)] at h1
    refine h'.2.2 q (List.mem_cons_of_mem _ (List.mem_filter.mpr ⟨lvl_mem.mpr ⟨w, h1, h2, h3⟩, ?_⟩))
    have e1 : (q.1 == i) = false := by simp [e]
    rw [e1]
    by_cases e2 : q.1 + 1 = i
    · have := cutOk_spec hc e2 h1
      rw [h3, cv_cat, this]
      simp
    · have : (q.1 + 1 == i) = false := by simp [e2]
      simp [this]
theorem LV.set2 {E : Ev} {ls ls' : Array Slot} {n : Nat} {L : List Value} {i : Nat} {v : Value} (h : LV E ls n L) (hc : cutOk L i = true) (hi : i + 1 < L.length)
    (h' : lv_has ls' n ((i, cv E v) :: (lvl E L).filter (fun q => !(q.1 == i) && (!(q.1 == i + 1) && !(q.1 + 1 == i && q.2.category == 2))))) : LV E ls' n ((L.set i v).set (i + 1) un_) := by
  refine ⟨⟨h'.1, h'.2.1, fun q hq => ?_⟩, by rw [List.length_set, List.length_set]; exact h.2⟩
  obtain ⟨w, h1, h2, h3⟩ := lvl_mem.mp hq
  by_cases e0 : q.1 = i + 1
  · rw [e0, List.getElem?_set_self (by rw [List.length_set]; exact hi)] at h1
    cases h1
    cases h2
  rw [List.getElem?_set_ne (Ne.symm e0)] at h1
  by_cases e : q.1 = i
  · rw [e, List.getElem?_set_self (by omega)] at h1
    cases h1
    have := h'.2.2 (i, cv E v) List.mem_cons_self
    rw [e, h3]
    exact this
  · rw [List.getElem?_set_ne (Ne.symm e)] at h1
    refine h'.2.2 q (List.mem_cons_of_mem _ (List.mem_filter.mpr ⟨lvl_mem.mpr ⟨w, h1, h2, h3⟩, ?_⟩))
    have e1 : (q.1 == i) = false := by simp [e]
    have e3 : (q.1 == i + 1) = false := by simp [e0]
    rw [e1, e3]
    by_cases e2 : q.1 + 1 = i
    · have := cutOk_spec hc e2 h1
      rw [h3, cv_cat, this]
      simp
    · have : (q.1 + 1 == i) = false := by simp [e2]
      simp [this]
def lvArgsA : Nat → List Value → List (Nat × Value) := lv_args
/-- a method's ground: the machine, the code, the words, the room -/
def Cx (E : Ev) (j : Nat) (p : Program) (R : Room) (s : State) (m : MethodId) (args : Array Value) (meth : Method) (c : Code) : Prop :=
  p.tables.exec = Jvm.exec ∧ c.code = (mtJ j).2.1 ∧ c.maxLocals = (mtJ j).2.2.1 ∧ s.vm.findClass (mtJ j).1.cls = some m.cls ∧ (∀ w ∈ wsG, w.before args s = true) ∧ KN E s ∧ evB E ≤ s.heap.size ∧ (1 ≤ R.frames ∧ 100 ≤ R.locals) ∧ ((mtJ j).1.name = "<init>" → meth.name = "<init>")
def SndA (j pc : Nat) (act : Act) : Prop := ∀ (E : Ev) (p : Program) (l : Launch) (e : Env) (R : Room) (s : State) (m : MethodId) (args : Array Value) (below : List Frame) (meth : Method) (c : Code) (H : Heap) (locs : List Loc) (cells slots : Nat) (Q : State → Prop) (ls : Array Slot) (L S : List Value) (G : List SC) (h : AH) (st' : St) (a b : Nat),
  Cx E j p R s m args meth c → act pc L S G h = some (st', a, b) → CN E G h H → FS E s.heap H locs → LV E ls (mtJ j).2.2.1 L → cells + a ≤ R.cells → slots + b ≤ R.slots →
  (∀ (H' : Heap) (locs' : List Loc) (ls' : Array Slot), CN E st'.2.2.2.1 st'.2.2.2.2 H' → FS E s.heap H' locs' → LV E ls' (mtJ j).2.2.1 st'.2.1 → W p l e R s m args below meth c H' locs' (cells + a) (slots + b) Q (F0 m st'.1 ls' (st'.2.2.1.map (cv E)))) →
  W p l e R s m args below meth c H locs cells slots Q (F0 m pc ls (S.map (cv E)))

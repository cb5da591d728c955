/-! THE PROGRAM AND THE REFERENCE SIDE BY SIDE: the relation, and what follows of it -/
def Pk21 (n c : Nat) (h : AH) : Prop := h 21 2 = 0 ∧ (h 21 9 = 0 ∨ (h 21 9 = 1 ∧ ∃ ld an t : Rw, (∀ i, i < c → ld i = 0) ∧ (∀ q, q < n → an q = -1) ∧ (∀ q, q < n → t q = -1) ∧ h 21 7 = (plS 0 false (h 22) (h 8) (h 4) c n 0 0 ld (1000, an, t)).1 ∧ h 24 = (plS 0 false (h 22) (h 8) (h 4) c n 0 0 ld (1000, an, t)).2.1))
def Pk26 (n c : Nat) (h : AH) : Prop := h 26 2 = 1 ∧ (h 26 9 = 0 ∨ (h 26 9 = 1 ∧ (c = 0 → h 26 7 = 1000) ∧ (0 < c → ∃ ld an t : Rw, (∀ i, i < c → ld i = 0) ∧ (∀ q, q < n → an q = -1) ∧ (∀ q, q < n → t q = -1) ∧ h 26 7 = (plS (lgS (h 27) (h 8) n c) true (h 27) (h 8) (h 4) c n 0 0 ld (1000, an, t)).1 ∧ h 29 = (plS (lgS (h 27) (h 8) n c) true (h 27) (h 8) (h 4) c n 0 0 ld (1000, an, t)).2.1)))
/-- both rows of letters are one, and no letter is below 0 -/
def TextX (h : AH) : Prop := TextOk h ∧ h 2 = h 50 ∧ ∀ i, ¬ h 50 i < 0
def Rel (n c : Nat) (h : AH) : Prop := RollOk n c h ∧ RowOk n c (h 17) (h 49) ∧ PastOk n c h ∧ ImgOk n c h ∧ SlateOk h ∧ TextX h ∧ SeedOk h ∧ Pk21 n c h ∧ Pk26 n c h
def RelE (h : AH) : Prop := ∃ n c, Rel n c h
/-- class method j1 and reference method j2, one behind the other, answer alike and keep the relation -/
def Sm (L j1 j2 : Nat) (args : List Value) (h : AH) : Prop := ∃ (d1 d2 : Nat) (v : Int32) (h1 h2 : AH), d1 ≤ 20 ∧ d2 ≤ 20 ∧ Rt L d1 j1 (.ref 1 :: args) h (some v) h1 ∧ Rt L d2 j2 (.ref 43 :: args) h1 (some v) h2 ∧ RelE h2 ∧ h1 0 = h 0
theorem Sm_mk {L j1 j2 d1 d2 : Nat} {args : List Value} {h h1 h2 : AH} {v1 v2 : Int32} (r1 : Rt L d1 j1 (.ref 1 :: args) h (some v1) h1) (r2 : Rt L d2 j2 (.ref 43 :: args) h1 (some v2) h2) (e : v1 = v2) (hd1 : d1 ≤ 20) (hd2 : d2 ≤ 20) (hr : RelE h2) (e0 : h1 0 = h 0 := by rfl) : Sm L j1 j2 args h := by
  subst e
  exact ⟨d1, d2, v1, h1, h2, hd1, hd2, r1, r2, hr, e0⟩
theorem Sm_q {L j1 j2 d1 d2 : Nat} {args : List Value} {h : AH} {v1 v2 : Int32} (hr : RelE h) (hd1 : d1 ≤ 20) (hd2 : d2 ≤ 20) (r1 : Rt L d1 j1 (.ref 1 :: args) h (some v1) h) (r2 : Rt L d2 j2 (.ref 43 :: args) h (some v2) h) (e : v1 = v2) : Sm L j1 j2 args h := Sm_mk r1 r2 e hd1 hd2 hr rfl
theorem RollOk.n3 {n c : Nat} {h : AH} (R : RollOk n c h) : h 3 3 = nI n := R.2.2.1.1
theorem RollOk.n43 {n c : Nat} {h : AH} (R : RollOk n c h) : h 43 6 = nI n := R.2.2.1.2.1
theorem RollOk.n7 {n c : Nat} {h : AH} (R : RollOk n c h) : n ≤ 7 := R.2.2.1.2.2
theorem RollOk.c3 {n c : Nat} {h : AH} (R : RollOk n c h) : h 3 2 = nI c := R.2.1.1
theorem RollOk.c43 {n c : Nat} {h : AH} (R : RollOk n c h) : h 43 2 = nI c := R.2.1.2.1
theorem RollOk.c5 {n c : Nat} {h : AH} (R : RollOk n c h) : c ≤ 5 := R.2.1.2.2
theorem RollOk.sg {n c : Nat} {h : AH} (R : RollOk n c h) : ∀ i, i < c → h 4 i = h 44 i := fun i hi => (R.2.2.2.1 i hi).1
theorem RollOk.mn {n c : Nat} {h : AH} (R : RollOk n c h) : ∀ i, i < c → h 5 i = h 45 i := fun i hi => (R.2.2.2.1 i hi).2.1
theorem RollOk.fr {n c : Nat} {h : AH} (R : RollOk n c h) : ∀ i, i < c → h 6 i = h 46 i := fun i hi => (R.2.2.2.1 i hi).2.2.1
theorem RollOk.s99 {n c : Nat} {h : AH} (R : RollOk n c h) : ∀ i, i < c → ∃ s, 1 ≤ s ∧ s ≤ 99 ∧ h 44 i = nI s := fun i hi => (R.2.2.2.1 i hi).2.2.2.1
theorem RollOk.m99 {n c : Nat} {h : AH} (R : RollOk n c h) : ∀ i, i < c → ∃ m, m ≤ 99 ∧ h 45 i = nI m := fun i hi => (R.2.2.2.1 i hi).2.2.2.2
theorem RollOk.ow {n c : Nat} {h : AH} (R : RollOk n c h) : ∀ d, d < n → h 7 d = h 47 d := fun d hd => (R.2.2.2.2.1 d hd).1
theorem RollOk.wt {n c : Nat} {h : AH} (R : RollOk n c h) : ∀ d, d < n → h 8 d = h 48 d := fun d hd => (R.2.2.2.2.1 d hd).2.1
theorem RollOk.w99 {n c : Nat} {h : AH} (R : RollOk n c h) : ∀ d, d < n → ∃ w, 1 ≤ w ∧ w ≤ 99 ∧ h 48 d = nI w := fun d hd => (R.2.2.2.2.1 d hd).2.2.1
theorem RollOk.on {n c : Nat} {h : AH} (R : RollOk n c h) : ∀ d, d < n → ∃ o, o < c ∧ h 47 d = nI o := fun d hd => (R.2.2.2.2.1 d hd).2.2.2
theorem RollOk.ch {n c : Nat} {h : AH} (R : RollOk n c h) : inCh (h 46) c := R.2.2.2.2.2.1
theorem RollOk.rt {n c : Nat} {h : AH} (R : RollOk n c h) : ∀ i, i < c → h 46 (topS (h 46) c i) = -1 := R.2.2.2.2.2.2
theorem RollOk.c0 {n c : Nat} {h : AH} (R : RollOk n c h) : 0 < n → 0 < c := fun hn => by
  obtain ⟨o, ho, _⟩ := R.on 0 hn
  omega
theorem RollOk.ch6 {n c : Nat} {h : AH} (R : RollOk n c h) : inCh (h 6) c := fun i hi => by
  rw [R.fr i hi]
  exact R.ch i hi
theorem RollOk.s0 {n c : Nat} {h : AH} (R : RollOk n c h) : ∀ i, i < c → ¬ h 44 i = 0 := fun i hi => by
  obtain ⟨s, h1, h2, e⟩ := R.s99 i hi
  rw [e]
  exact nI_ne0 (by omega) (by omega)
theorem RollOk.s1 {n c : Nat} {h : AH} (R : RollOk n c h) : ∀ i, i < c → ¬ h 4 i < 1 := fun i hi => by
  obtain ⟨s, h1, h2, e⟩ := R.s99 i hi
  rw [R.sg i hi, e]
  exact fun z => absurd ((nI_ltI (b := 1) (by omega) (by decide)).mp z) (by omega)
theorem ld_eq {n c : Nat} {h : AH} (R : RollOk n c h) {a b : Rw} (row : RowOk n c a b) (x : Int32) : loadS a (fun z_ => a (7 + z_)) (h 8) x n = loadS b (fun z_ => b (7 + z_)) (h 48) x n := loadS_congr (n := n) row.1 row.2.1 R.wt n (Nat.le_refl _)
theorem own_eq {n c : Nat} {h : AH} (R : RollOk n c h) {a b : Rw} (row : RowOk n c a b) (x : Int32) : ownS a (fun z_ => a (7 + z_)) (h 7) (h 8) x n = ownS b (fun z_ => b (7 + z_)) (h 47) (h 48) x n := ownS_congr (n := n) row.1 row.2.1 R.ow R.wt n (Nat.le_refl _)
theorem lam_eq {n c : Nat} {h : AH} (R : RollOk n c h) {a b : Rw} (row : RowOk n c a b) : setS (fun y_ => decide (¬ loadS a (fun z_ => a (7 + z_)) (h 8) (nI y_) n ≤ (h 4) y_)) c = setS (fun y_ => decide (¬ loadS b (fun z_ => b (7 + z_)) (h 48) (nI y_) n ≤ (h 44) y_)) c := by
  refine setS_congr (n := c) (fun i hi => ?_) c (Nat.le_refl _)
  rw [ld_eq R row, R.sg i hi]
theorem load_nat {n c : Nat} {h : AH} (R : RollOk n c h) {b : Rw} (x : Int32) : ∀ k, k ≤ n → ∃ w, w ≤ 99 * k ∧ loadS b (fun z_ => b (7 + z_)) (h 48) x k = nI w
  | 0, _ => ⟨0, by omega, rfl⟩
  | k + 1, hk => by
    obtain ⟨w, hw, e⟩ := load_nat R (b := b) x k (by omega)
    obtain ⟨v, _, hv, e2⟩ := R.w99 k (by omega)
    simp only [loadS]
    split
    · refine ⟨w + v, by omega, ?_⟩
      rw [e, e2, nI_add]
    · exact ⟨w, by omega, e⟩
theorem min_nat {n c : Nat} {h : AH} (R : RollOk n c h) {b : Rw} {i : Nat} (hi : i < c) : ∃ m, m < 2 ^ 31 ∧ h 45 i + (h 45 i) * (loadS b (fun z_ => b (7 + z_)) (h 48) (nI i) n) / (h 44 i) = nI m := by
  obtain ⟨w, hw, e⟩ := load_nat R (b := b) (nI i) n (Nat.le_refl _)
  obtain ⟨m, hm, em⟩ := R.m99 i hi
  obtain ⟨s, hs1, hs, es⟩ := R.s99 i hi
  have hn := R.n7
  have hmw : m * w ≤ 99 * 693 := Nat.mul_le_mul hm (by omega)
  have hd : m * w / s ≤ m * w := Nat.div_le_self _ _
  refine ⟨m + m * w / s, by omega, ?_⟩
  rw [e, em, es, pk_mul, pk_div (by omega) (by omega) (by omega), nI_add]
theorem mins_eq {n c : Nat} {h : AH} (R : RollOk n c h) {a b : Rw} (row : RowOk n c a b) {i : Nat} (hi : i < c) : h 5 i + (h 5 i) * (loadS a (fun z_ => a (7 + z_)) (h 8) (nI i) n) / (h 4 i) = h 45 i + (h 45 i) * (loadS b (fun z_ => b (7 + z_)) (h 48) (nI i) n) / (h 44 i) := by
  rw [ld_eq R row, R.sg i hi, R.mn i hi]
theorem mins_ok {n c : Nat} {h : AH} (R : RollOk n c h) {a b : Rw} (row : RowOk n c a b) : ∀ i, i < c → ¬ h 5 i + (h 5 i) * (loadS a (fun z_ => a (7 + z_)) (h 8) (nI i) n) / (h 4 i) ≤ -1 := fun i hi => by
  rw [mins_eq R row hi]
  obtain ⟨m, hm, e⟩ := min_nat R (b := b) hi
  rw [e]
  intro z
  exact nI_pos hm (Int32.lt_of_le_of_lt z (by decide))
theorem sum_pad {f g : Rw} {c : Nat} (h1 : ∀ i, i < c → f i = g i) : ∀ k, (∀ i, c ≤ i → i < c + k → g i = 0) → sumS g (c + k) = sumS f c
  | 0, _ => by
    have key : ∀ m, m ≤ c → sumS g m = sumS f m := by
      intro m
      induction m with
      | zero => intro _; rfl
      | succ m ih => intro hm; simp only [sumS]; rw [ih (by omega), h1 m (by omega)]
    exact key c (Nat.le_refl _)
  | k + 1, h => by
    show sumS g (c + k) + g (c + k) = _
    rw [sum_pad h1 k (fun i a b => h i a (by omega)), h (c + k) (by omega) (by omega)]
    simp
theorem find_no {p : Nat → Bool} : ∀ (m k : Nat), m + k < 2 ^ 31 → (findS p m k = -1 ↔ ∀ t, k ≤ t → t < k + m → p t = false)
  | 0, k, _ => ⟨fun _ t a b => by omega, fun _ => rfl⟩
  | m + 1, k, h => by
    simp only [findS]
    by_cases q : p k = true
    · rw [if_pos q]
      constructor
      · intro z; exact absurd z (nI_m1 (by omega))
      · intro z; rw [z k (Nat.le_refl _) (by omega)] at q; exact absurd q (by decide)
    · rw [if_neg q, find_no m (k + 1) (by omega)]
      constructor
      · intro z t a b
        by_cases e : t = k
        · subst e; simpa using q
        · exact z t (by omega) (by omega)
      · intro z t a b
        exact z t (by omega) (by omega)
theorem find_all {p q : Nat → Bool} {m : Nat} (hm : m < 2 ^ 31) (h : ∀ t, t < m → p t = !q t) : findS p m 0 = -1 ↔ allS q m = true := by
  rw [find_no m 0 (by omega), all_iff]
  constructor
  · intro z t ht
    have e := h t ht
    rw [z t (by omega) (by omega)] at e
    simpa using e.symm
  · intro z t _ ht
    rw [h t (by omega), z t (by omega)]
    rfl
theorem nth_congr {p q : Nat → Bool} {val : Nat → Int32} {i : Int32} : ∀ (m k c : Nat), (∀ t, k ≤ t → t < k + m → p t = q t) → nthS p val i m k c = nthS q val i m k c
  | 0, _, _, _ => rfl
  | m + 1, k, c, h => by
    simp only [nthS]
    rw [h k (Nat.le_refl _) (by omega), nth_congr m (k + 1) (c + 1) (fun t a b => h t (by omega) (by omega)), nth_congr m (k + 1) c (fun t a b => h t (by omega) (by omega))]
theorem lp_eq {n c : Nat} {h : AH} (R : RollOk n c h) {a b : Rw} (row : RowOk n c a b) (k : Nat) : lpB a (fun z_ => a (7 + z_)) (h 8) (h 4) n k = lpB b (fun z_ => b (7 + z_)) (h 48) (h 44) n k := by
  simp only [lpB]
  by_cases q1 : k / 7 < k % 7
  · by_cases q2 : k % 7 < n
    · have q3 : k / 7 < n := by omega
      have e : ltB a (fun z_ => a (7 + z_)) (h 8) (h 4) n (k / 7) (k % 7) = ltB b (fun z_ => b (7 + z_)) (h 48) (h 44) n (k / 7) (k % 7) := by
        unfold ltB
        have c5 := R.c5
        by_cases s1 : b (k / 7) = 1
        · by_cases s2 : b (k % 7) = 1
          · obtain ⟨p1, hp1, e1⟩ := row.2.2.2.2.2.2.2 _ q3 s1
            obtain ⟨p2, hp2, e2⟩ := row.2.2.2.2.2.2.2 _ q2 s2
            simp only [ld_eq R row, row.1 _ q3, row.1 _ q2, row.2.1 _ q3, row.2.1 _ q2, R.wt _ q3, R.wt _ q2, e1, e2, nI_clamp (show p1 < 2 ^ 31 by omega), nI_clamp (show p2 < 2 ^ 31 by omega), R.sg _ hp1, R.sg _ hp2]
          · rw [decide_eq_false (fun z => s2 (by rw [← row.1 _ q2]; exact z.1.2.1)), decide_eq_false (fun z => s2 z.1.2.1)]
        · rw [decide_eq_false (fun z => s1 (by rw [← row.1 _ q3]; exact z.1.1)), decide_eq_false (fun z => s1 z.1.1)]
      rw [e]
    · rw [decide_eq_false q2]; simp
  · rw [decide_eq_false q1]; simp
theorem wf_eq {n c : Nat} {h : AH} (R : RollOk n c h) (w : Int32) : (fun t_ => decide (wtS (h 8) (nI t_) n = w)) = (fun t_ => decide (wtS (h 48) (nI t_) n = w)) := by
  funext t
  rw [wtS_congr R.wt n (Nat.le_refl _)]
theorem mask7 : ∀ n, n < 8 → ∀ k, k < 2 ^ n → ((1 : Int32) <<< (nI n &&& 31) - 1) &&& nI k = nI k := by decide +kernel
theorem sc_su {p : Nat → Bool} {n : Nat} (hn : n ≤ 7) : ∀ k, k ≤ 2 ^ n → scS p k = (if mnS p k = 0 then 0 else suS p ((1 : Int32) <<< (nI n &&& 31) - 1) k) ∧ (mnS p k = 0 → suS p ((1 : Int32) <<< (nI n &&& 31) - 1) k = (1 : Int32) <<< (nI n &&& 31) - 1)
  | 0, _ => ⟨rfl, fun _ => rfl⟩
  | k + 1, hk => by
    obtain ⟨ih1, ih2⟩ := sc_su (p := p) hn k (by omega)
    simp only [scS, mnS, suS]
    by_cases q : p k = true
    · simp only [if_pos q]
      refine ⟨?_, fun z => absurd z (by omega)⟩
      rw [if_neg (show ¬ mnS p k + 1 = 0 by omega)]
      by_cases e : mnS p k = 0
      · rw [if_pos e, ih2 e, mask7 n (by omega) k (by omega)]
      · rw [if_neg e, ih1, if_neg e]
    · simp only [if_neg q]
      exact ⟨ih1, ih2⟩
theorem lk_congr {f g : Rw} {m : Int32} {n : Nat} (h : ∀ q, q < n → f q = g q) : ∀ k, k ≤ n → lkS f m k = lkS g m k
  | 0, _ => rfl
  | k + 1, hk => by
    simp only [lkS]
    rw [lk_congr h k (by omega), h k (by omega)]
theorem RowOk.cg {n c : Nat} {a a' b b' : Rw} (h : RowOk n c a b) (hn : n ≤ 7) (hc : c ≤ 5) (h1 : ∀ k, k < 22 → a' k = a k) (h2 : ∀ k, k < 22 → b' k = b k) : RowOk n c a' b' := by
  obtain ⟨g1, g2, g3, g4, g5, g6, g7, g8⟩ := h
  refine ⟨fun d hd => ?_, fun d hd => ?_, fun i hi => ?_, ?_, ?_, ?_, fun i p q => ?_, fun d hd q => ?_⟩
  · rw [h1 d (by omega), h2 d (by omega)]; exact g1 d hd
  · rw [h1 _ (by omega), h2 _ (by omega)]; exact g2 d hd
  · rw [h1 _ (by omega), h2 _ (by omega)]; exact g3 i hi
  · rw [h1 _ (by omega), h2 _ (by omega)]; exact g4
  · rw [h1 _ (by omega), h2 _ (by omega)]; exact g5
  · rw [h1 _ (by omega), h2 _ (by omega)]; exact g6
  · rw [h2 _ (by omega)]; exact g7 i p q
  · rw [h2 _ (by omega)] at q
    rw [h2 _ (by omega)]; exact g8 d hd q
theorem past_push {n c u p : Nat} {A B r r' : Rw} (hu : u ≤ 20) (hp : p < 20) (hn : n ≤ 7) (hc : c ≤ 5) (H : ∀ t, t < u → RowOk n c (fun k => A (22 * ((p + 20 - u + t) % 20) + k)) (fun k => B (22 * t + k))) (R : RowOk n c r r') : ∀ t, t < remU u → RowOk n c (fun k => va_cpy r A 0 (p * 22) 22 (22 * ((nxP p + 20 - remU u + t) % 20) + k)) (fun k => remP B r' u (22 * t + k)) := by
  intro t ht
  have hN : nxP p = p + 1 ∧ p + 1 < 20 ∨ nxP p = 0 ∧ p = 19 := by
    unfold nxP; split
    · exact Or.inl ⟨rfl, by omega⟩
    · exact Or.inr ⟨rfl, by omega⟩
  by_cases e : u = 20
  · subst e
    have eU : remU 20 = 20 := rfl
    rw [eU] at ht ⊢
    by_cases e2 : t = 19
    · subst e2
      have es : (nxP p + 20 - 20 + 19) % 20 = p := by omega
      refine R.cg hn hc (fun k hk => ?_) (fun k hk => ?_)
      · show va_cpy r A 0 (p * 22) 22 _ = r k
        rw [es, pk_cpy_in (by omega) (by omega)]
        exact congrArg r (by omega)
      · show remP B r' 20 (22 * 19 + k) = r' k
        simp only [remP, if_true]
        rw [if_neg (by omega), if_pos (by omega)]
        exact congrArg r' (by omega)
    · have es : (nxP p + 20 - 20 + t) % 20 = (p + 20 - 20 + (t + 1)) % 20 := by omega
      have ne : ¬ (nxP p + 20 - 20 + t) % 20 = p := by omega
      refine (H (t + 1) (by omega)).cg hn hc (fun k hk => ?_) (fun k hk => ?_)
      · show va_cpy r A 0 (p * 22) 22 _ = A _
        rw [pk_cpy_out (by omega), es]
      · show remP B r' 20 (22 * t + k) = B _
        simp only [remP, if_true]
        rw [if_pos (by omega)]
        exact congrArg B (by omega)
  · have eU : remU u = u + 1 := if_neg e
    rw [eU] at ht ⊢
    by_cases e2 : t = u
    · subst e2
      have es : (nxP p + 20 - (t + 1) + t) % 20 = p := by omega
      refine R.cg hn hc (fun k hk => ?_) (fun k hk => ?_)
      · show va_cpy r A 0 (p * 22) 22 _ = r k
        rw [es, pk_cpy_in (by omega) (by omega)]
        exact congrArg r (by omega)
      · show remP B r' t (22 * t + k) = r' k
        unfold remP
        rw [if_neg e]
        show (if _ then _ else _) = _
        rw [if_pos (by omega)]
        exact congrArg r' (by omega)
    · have es : (nxP p + 20 - (u + 1) + t) % 20 = (p + 20 - u + t) % 20 := by omega
      have ne : ¬ (p + 20 - u + t) % 20 = p := by omega
      refine (H t (by omega)).cg hn hc (fun k hk => ?_) (fun k hk => ?_)
      · show va_cpy r A 0 (p * 22) 22 _ = A _
        rw [es, pk_cpy_out (by omega)]
      · show remP B r' u (22 * t + k) = B _
        unfold remP
        rw [if_neg e]
        show (if _ then _ else _) = _
        rw [if_neg (by omega)]
theorem remU_le {u : Nat} (h : u ≤ 20) : remU u ≤ 20 := by unfold remU; split <;> omega
theorem nxP_lt {p : Nat} (h : p < 20) : nxP p < 20 := by unfold nxP; split <;> omega
theorem pvP_lt {p : Nat} (h : p < 20) : pvP p < 20 := by unfold pvP; split <;> omega
theorem PastOk.z {n c : Nat} {h : AH} (h1 : h 43 26 = 0) (h2 : h 18 2 = 0) (h3 : h 18 1 = 0) : PastOk n c h := ⟨0, 0, by omega, by omega, h1, h2, h3, fun t ht => absurd ht (by omega)⟩
theorem inS_or {x : Int32} {m : Nat} (hm : m < 2 ^ 31) : (∃ k, k < m ∧ x = nI k) ∨ ¬ inS x m := by
  by_cases q : inS x m
  · exact Or.inl ((inS_iff hm).mp q)
  · exact Or.inr q
theorem cs_or (x : Int32) (m : Nat) : (∃ k, k < m ∧ x = nI k) ∨ ∀ i, i < m → ¬ x = nI (0 + i) := by
  by_cases q : ∃ k, k < m ∧ x = nI k
  · exact Or.inl q
  · exact Or.inr (fun i hi e => q ⟨i, hi, by rw [e, Nat.zero_add]⟩)

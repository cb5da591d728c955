/-! BOTH SEARCHES FIND THE SAME -/
abbrev NS : Type := Nat × Rw
def rgN (f : Nat → NS → NS) (a : Nat) : Nat → NS → NS
  | 0, s => s
  | k + 1, s => f (a + k) (rgN f a k s)
theorem rgN_add {f : Nat → NS → NS} {a k : Nat} : ∀ (m : Nat) (s : NS), rgN f a (k + m) s = rgN f (a + k) m (rgN f a k s)
  | 0, _ => rfl
  | m + 1, s => by
    show f (a + (k + m)) (rgN f a (k + m) s) = f (a + k + m) _
    rw [rgN_add m s, Nat.add_assoc]
theorem rgN_id {f : Nat → NS → NS} {a : Nat} {s : NS} : ∀ (k : Nat), (∀ i, i < k → f (a + i) s = s) → rgN f a k s = s
  | 0, _ => rfl
  | k + 1, h => by
    show f (a + k) (rgN f a k s) = s
    rw [rgN_id k (fun i hi => h i (by omega))]
    exact h k (by omega)
def stN (ok : Nat → Bool) (cs : Nat → Nat) (gv : Nat → Rw) (code : Nat) (s : NS) : NS := if cs code < s.1 ∧ ok code = true then (cs code, gv code) else s
def trN (fl : Nat → Bool) (c : Nat) (f : Nat → NS → NS) : Nat → Nat → Nat → NS → NS
  | 0, _, P, s => f P s
  | m + 1, d, P, s => if fl d = true then rgN (fun k s => trN fl c f m (d + 1) (P * c + k) s) 0 c s else trN fl c f m (d + 1) P s
def wsN (fl : Nat → Bool) (c : Nat) : Nat → Nat → Nat
  | 0, _ => 1
  | m + 1, d => if fl d = true then c * wsN fl c m (d + 1) else wsN fl c m (d + 1)
theorem tr_rg {fl : Nat → Bool} {c : Nat} {f : Nat → NS → NS} : ∀ (m d P : Nat) (s : NS), trN fl c f m d P s = rgN f (P * wsN fl c m d) (wsN fl c m d) s
  | 0, d, P, s => by
    show f P s = f (P * 1 + 0) s
    rw [Nat.mul_one, Nat.add_zero]
  | m + 1, d, P, s => by
    simp only [trN, wsN]
    split
    · have key : ∀ k, rgN (fun k s => trN fl c f m (d + 1) (P * c + k) s) 0 k s = rgN f (P * c * wsN fl c m (d + 1)) (k * wsN fl c m (d + 1)) s := by
        intro k
        induction k with
        | zero => rw [Nat.zero_mul]; rfl
        | succ k ih =>
          show trN fl c f m (d + 1) (P * c + (0 + k)) (rgN _ 0 k s) = _
          rw [ih, tr_rg m (d + 1) (P * c + (0 + k)), Nat.succ_mul, rgN_add, Nat.zero_add, Nat.add_mul]
      rw [key c, Nat.mul_assoc]
    · exact tr_rg m (d + 1) P s
theorem ws_wy {fl : Nat → Bool} {c : Nat} : ∀ (m d : Nat), wyS fl c d * wsN fl c m d = wyS fl c (d + m)
  | 0, d => Nat.mul_one _
  | m + 1, d => by
    have ih := ws_wy (fl := fl) (c := c) m (d + 1)
    rw [show d + (m + 1) = d + 1 + m by omega, ← ih]
    simp only [wsN, wyS]
    split
    · rw [Nat.mul_assoc]
    · rfl
theorem ext_div {P c k : Nat} (h : k < c) : (P * c + k) / c = P := by
  rw [Nat.mul_comm, Nat.mul_add_div (by omega), Nat.div_eq_of_lt h, Nat.add_zero]
theorem ext_mod {P c k : Nat} (h : k < c) : (P * c + k) % c = k := by
  rw [Nat.mul_comm, Nat.mul_add_mod, Nat.mod_eq_of_lt h]
def ldA (fl : Nat → Bool) (w : Nat → Nat) (c : Nat) : Nat → Nat → Nat → Nat
  | 0, _, _ => 0
  | d + 1, P, q => if fl d = true then ldA fl w c d (P / c) q + (if P % c = q then w d else 0) else ldA fl w c d P q
def mvA (fl : Nat → Bool) (ho : Nat → Nat) (c : Nat) : Nat → Nat → Nat
  | 0, _ => 0
  | d + 1, P => if fl d = true then mvA fl ho c d (P / c) + (if P % c = ho d then 0 else 1) else mvA fl ho c d P
def gvA (fl : Nat → Bool) (c : Nat) : Nat → Nat → Nat → Int32
  | 0, _, _ => -1
  | d + 1, P, q => if fl d = true then (if q = d then nI (P % c) else gvA fl c d (P / c) q) else if q = d then -1 else gvA fl c d P q
section PK
variable {fl : Nat → Bool} {c n : Nat} {cs : Nat → Nat → Nat} {fe : Nat → Nat → Bool} {gv : Nat → Rw}
theorem tr_cut (h1 : ∀ d P k, fl d = true → k < c → cs d P ≤ cs (d + 1) (P * c + k)) (h2 : ∀ d P, fl d = false → cs (d + 1) P = cs d P) : ∀ (m d P : Nat) (s : NS), d + m = n → s.1 ≤ cs d P → trN fl c (stN (fe n) (cs n) gv) m d P s = s
  | 0, d, P, s, e, hs => by
    have e : d = n := by omega
    subst e
    show stN _ _ _ P s = s
    rw [stN, if_neg]
    rintro ⟨z, _⟩
    omega
  | m + 1, d, P, s, e, hs => by
    simp only [trN]
    split
    · rename_i q
      refine rgN_id c (fun i hi => ?_)
      show trN fl c _ m (d + 1) (P * c + (0 + i)) s = s
      rw [Nat.zero_add]
      exact tr_cut h1 h2 m (d + 1) _ s (by omega) (Nat.le_trans hs (h1 d P i q hi))
    · rename_i q
      have q : fl d = false := by simpa using q
      exact tr_cut h1 h2 m (d + 1) P s (by omega) (by rw [h2 d P q]; exact hs)
theorem tr_bad (h1 : ∀ d P k, fl d = true → k < c → fe d P = false → fe (d + 1) (P * c + k) = false) (h2 : ∀ d P, fl d = false → fe (d + 1) P = fe d P) : ∀ (m d P : Nat) (s : NS), d + m = n → fe d P = false → trN fl c (stN (fe n) (cs n) gv) m d P s = s
  | 0, d, P, s, e, hs => by
    have e : d = n := by omega
    subst e
    show stN _ _ _ P s = s
    rw [stN, if_neg]
    rintro ⟨_, z⟩
    rw [hs] at z
    exact absurd z (by decide)
  | m + 1, d, P, s, e, hs => by
    simp only [trN]
    split
    · rename_i q
      refine rgN_id c (fun i hi => ?_)
      show trN fl c _ m (d + 1) (P * c + (0 + i)) s = s
      rw [Nat.zero_add]
      exact tr_bad h1 h2 m (d + 1) _ s (by omega) (h1 d P i q hi hs)
    · rename_i q
      have q : fl d = false := by simpa using q
      exact tr_bad h1 h2 m (d + 1) P s (by omega) (by rw [h2 d P q]; exact hs)
theorem tr_min {s : NS} (h : ∀ P, s.1 ≤ cs n P) : ∀ (m d P : Nat), d + m = n → trN fl c (stN (fe n) (cs n) gv) m d P s = s
  | 0, d, P, e => by
    show stN _ _ _ P s = s
    rw [stN, if_neg]
    rintro ⟨z, _⟩
    have := h P
    omega
  | m + 1, d, P, e => by
    simp only [trN]
    split
    · refine rgN_id c (fun i hi => ?_)
      show trN fl c _ m (d + 1) (P * c + (0 + i)) s = s
      exact tr_min h m (d + 1) _ (by omega)
    · exact tr_min h m (d + 1) P (by omega)
def TrOk (fl : Nat → Bool) (c n d P : Nat) (t : Rw) : Prop := (∀ q, q < d → t q = gvA fl c d P q) ∧ ∀ q, q < n → fl q = false → t q = -1
theorem cpy7 {t a : Rw} {q : Nat} (h : q < 7) : va_cpy t a 0 0 7 q = t q := by
  simp only [va_cpy]
  rw [if_pos (by omega)]
  congr 1
  omega
theorem pl_tr {fair : Bool} {hd w sg : Rw} {wn : Nat → Nat} {en : Nat} (hn : n ≤ 7) (hen : ∀ P, en ≤ cs n P) (hen2 : en < 1000)
    (h1 : ∀ d P k, fl d = true → k < c → cs d P ≤ cs (d + 1) (P * c + k)) (h2 : ∀ d P, fl d = false → cs (d + 1) P = cs d P)
    (h3 : ∀ d P k, fl d = true → k < c → fe d P = false → fe (d + 1) (P * c + k) = false) (h4 : ∀ d P, fl d = false → fe (d + 1) P = fe d P)
    (hcb : ∀ d P, d ≤ n → cs d P < 1000)
    (hcost : ∀ d P k, d < n → fl d = true → k < c → cstP fair (nI (cs d P)) (nI (ldA fl wn c d P k + wn d)) k (hd d) = nI (cs (d + 1) (P * c + k)))
    (hfe : ∀ d P k, d < n → fl d = true → k < c → fe d P = true → ((fair = true ∨ nI (ldA fl wn c d P k + wn d) ≤ sg k) ↔ fe (d + 1) (P * c + k) = true))
    (hhd : ∀ d, d < n → (hd d = -1 ↔ fl d = false)) (hw : ∀ d, d < n → w d = nI (wn d)) :
    ∀ (m d P b : Nat) (ld a an t : Rw), d + m = n → fe d P = true → (∀ i, i < c → ld i = nI (ldA fl wn c d P i)) → b ≤ 1000 → (∀ q, q < n → an q = a q) → TrOk fl c n d P t →
      ∃ b' a' an' t', trN fl c (stN (fe n) (cs n) (gvA fl c n)) m d P (b, a) = (b', a') ∧ plS (nI en) fair hd w sg c m d (nI (cs d P)) ld (nI b, an, t) = (nI b', an', t') ∧ b' ≤ 1000 ∧ (∀ q, q < n → an' q = a' q) ∧ TrOk fl c n d P t'
  | 0, d, P, b, ld, a, an, t, e, hf, hld, hb, han, ht => by
    have e : d = n := by omega
    subst e
    have hc := hcb d P (Nat.le_refl _)
    by_cases q : cs d P < b
    · refine ⟨cs d P, gvA fl c d P, va_cpy t an 0 0 7, t, ?_, ?_, by omega, fun z hz => ?_, ht⟩
      · show stN _ _ _ P (b, a) = _
        rw [stN, if_pos ⟨q, hf⟩]
      · simp only [plS]
        have hq := hen P
        rw [if_neg (fun z => z.elim (fun z => absurd ((nI_leI (by omega) (by omega)).mp z) (by omega)) (fun z => absurd ((nI_leI (by omega) (by omega)).mp z) (by omega)))]
      · rw [cpy7 (by omega)]
        exact ht.1 z hz
    · refine ⟨b, a, an, t, ?_, ?_, hb, han, ht⟩
      · show stN _ _ _ P (b, a) = _
        rw [stN, if_neg (fun z => q z.1)]
      · simp only [plS]
        rw [if_pos (Or.inl ((nI_leI (by omega) (by omega)).mpr (by omega)))]
  | m + 1, d, P, b, ld, a, an, t, e, hf, hld, hb, han, ht => by
    have hc := hcb d P (by omega)
    by_cases q : cs d P < b ∧ en < b
    · by_cases q2 : fl d = true
      · have q3 : ¬ hd d = -1 := fun z => by rw [(hhd d (by omega)).mp z] at q2; exact absurd q2 (by decide)
        have key : ∀ k, k ≤ c → ∃ b' a' an' t', rgN (fun k s => trN fl c (stN (fe n) (cs n) (gvA fl c n)) m (d + 1) (P * c + k) s) 0 k (b, a) = (b', a') ∧ plF (fun k s => if fair = true ∨ ld k + w d ≤ sg k then plS (nI en) fair hd w sg c m (d + 1) (cstP fair (nI (cs d P)) (ld k + w d) k (hd d)) (upd ld k (ld k + w d)) (s.1, s.2.1, upd s.2.2 d (nI k)) else s) k (nI b, an, t) = (nI b', an', t') ∧ b' ≤ 1000 ∧ (∀ q, q < n → an' q = a' q) ∧ TrOk fl c n d P t' := by
          intro k
          induction k with
          | zero => intro _; exact ⟨b, a, an, t, rfl, rfl, hb, han, ht⟩
          | succ k ih =>
            intro hk
            obtain ⟨b1, a1, an1, t1, e1, e2, hb1, han1, ht1⟩ := ih (by omega)
            have eld : ld k + w d = nI (ldA fl wn c d P k + wn d) := by rw [hld k (by omega), hw d (by omega), nI_add]
            by_cases q5 : fe (d + 1) (P * c + k) = true
            · have hcond := (hfe d P k (by omega) q2 (by omega) hf).mpr q5
              have hld2 : ∀ i, i < c → upd ld k (nI (ldA fl wn c d P k + wn d)) i = nI (ldA fl wn c (d + 1) (P * c + k) i) := by
                intro i hi
                simp only [ldA, if_pos q2, ext_div (show k < c by omega), ext_mod (show k < c by omega), upd]
                by_cases e5 : i = k
                · rw [if_pos e5, e5, if_pos rfl]
                · rw [if_neg e5, if_neg (fun z => e5 z.symm), Nat.add_zero]; exact hld i hi
              have ht2 : TrOk fl c n (d + 1) (P * c + k) (upd t1 d (nI k)) := by
                refine ⟨fun z hz => ?_, fun z hz hz2 => ?_⟩
                · simp only [gvA, if_pos q2, ext_div (show k < c by omega), ext_mod (show k < c by omega), upd]
                  by_cases e5 : z = d
                  · rw [if_pos e5, if_pos e5]
                  · rw [if_neg e5, if_neg e5]; exact ht1.1 z (by omega)
                · have e5 : ¬ z = d := fun y => by rw [y, q2] at hz2; exact absurd hz2 (by decide)
                  simp only [upd, if_neg e5]
                  exact ht1.2 z hz hz2
              obtain ⟨b2, a2, an2, t2, e3, e4, hb2, han2, ht3⟩ := pl_tr hn hen hen2 h1 h2 h3 h4 hcb hcost hfe hhd hw m (d + 1) (P * c + k) b1 (upd ld k (nI (ldA fl wn c d P k + wn d))) a1 an1 (upd t1 d (nI k)) (by omega) q5 hld2 hb1 han1 ht2
              refine ⟨b2, a2, an2, t2, ?_, ?_, hb2, han2, ⟨fun z hz => ?_, ht3.2⟩⟩
              · show trN fl c _ m (d + 1) (P * c + (0 + k)) (rgN _ 0 k (b, a)) = _
                rw [e1, Nat.zero_add, e3]
              · simp only [plF]
                rw [e2, eld, if_pos hcond, hcost d P k (by omega) q2 (by omega), e4]
              · have := ht3.1 z (by omega)
                simp only [gvA, if_pos q2, ext_div (show k < c by omega), if_neg (show ¬ z = d by omega)] at this
                exact this
            · have hcond := fun z => q5 ((hfe d P k (by omega) q2 (by omega) hf).mp z)
              refine ⟨b1, a1, an1, t1, ?_, ?_, hb1, han1, ht1⟩
              · show trN fl c _ m (d + 1) (P * c + (0 + k)) (rgN _ 0 k (b, a)) = _
                rw [e1, Nat.zero_add, tr_bad h3 h4 m (d + 1) _ _ (by omega) (by simpa using q5)]
              · simp only [plF]
                rw [e2, eld, if_neg hcond]
        obtain ⟨b1, a1, an1, t1, e1, e2, hr⟩ := key c (Nat.le_refl _)
        refine ⟨b1, a1, an1, t1, ?_, ?_, hr⟩
        · simp only [trN]
          rw [if_pos q2, e1]
        · simp only [plS]
          rw [if_neg (fun z => z.elim (fun z => absurd ((nI_leI (by omega) (by omega)).mp z) (by omega)) (fun z => absurd ((nI_leI (by omega) (by omega)).mp z) (by omega))), if_neg q3, e2]
      · have q2 : fl d = false := by simpa using q2
        have q3 : hd d = -1 := (hhd d (by omega)).mpr q2
        have hg : ∀ z, z < d → gvA fl c (d + 1) P z = gvA fl c d P z := fun z hz => by
          simp only [gvA, q2, if_neg (show ¬ z = d by omega)]
          rfl
        obtain ⟨b1, a1, an1, t1, e1, e2, hb1, han1, ht1⟩ := pl_tr hn hen hen2 h1 h2 h3 h4 hcb hcost hfe hhd hw m (d + 1) P b ld a an t (by omega) (by rw [h4 d P q2]; exact hf) (fun i hi => by simp only [ldA, q2]; exact hld i hi) hb han ⟨fun z hz => by
          by_cases e5 : z = d
          · rw [e5, ht.2 d (by omega) q2]
            simp [gvA, q2]
          · rw [hg z (by omega)]; exact ht.1 z (by omega), ht.2⟩
        refine ⟨b1, a1, an1, t1, ?_, ?_, hb1, han1, ⟨fun z hz => ?_, ht1.2⟩⟩
        · simp only [trN]
          rw [if_neg (by rw [q2]; decide), e1]
        · simp only [plS]
          rw [if_neg (fun z => z.elim (fun z => absurd ((nI_leI (by omega) (by omega)).mp z) (by omega)) (fun z => absurd ((nI_leI (by omega) (by omega)).mp z) (by omega))), if_pos q3, ← h2 d P q2, e2]
        · rw [← hg z hz]; exact ht1.1 z (by omega)
    · by_cases q5 : b ≤ cs d P
      · refine ⟨b, a, an, t, tr_cut h1 h2 (m + 1) d P (b, a) e (by simp only; omega), ?_, hb, han, ht⟩
        simp only [plS]
        rw [if_pos (Or.inl ((nI_leI (by omega) (by omega)).mpr (by omega)))]
      · refine ⟨b, a, an, t, tr_min (fun P => Nat.le_trans (show b ≤ en by omega) (hen P)) (m + 1) d P e, ?_, hb, han, ht⟩
        simp only [plS]
        rw [if_pos (Or.inr ((nI_leI (by omega) (by omega)).mpr (by omega)))]
end PK

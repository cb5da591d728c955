/-! READING A TEXT, in numbers -/
def skF (t : Rw) : Nat → Nat → Nat
  | 0, a => a
  | m + 1, a => if t a = 32 then skF t m (a + 1) else a
def skp (t : Rw) (N a : Nat) : Nat := skF t (N - a) a
def ltS (t : Rw) (N a : Nat) : Int32 := if a < N then t a else -1
abbrev isFg (x : Int32) : Prop := 48 ≤ x ∧ x ≤ 57
def fgF (t : Rw) : Nat → Nat → Nat
  | 0, a => a
  | m + 1, a => if isFg (t a) then fgF t m (a + 1) else a
def fig (t : Rw) (N a : Nat) : Nat := fgF t (N - a) a
def vlP (t : Rw) (b : Nat) : Nat → Int32
  | 0 => 0
  | k + 1 => if k < 3 then vlP t b k * 10 + t (b + k) - 48 else vlP t b k
def vlM (t : Rw) (b : Nat) : Nat → Int32
  | 0 => 0
  | k + 1 => if vlM t b k ≤ 10000 then 10 * vlM t b k + t (b + k) - 48 else vlM t b k
def nE (t : Rw) (N a : Nat) : Nat := fig t N (skp t N a)
def nV (t : Rw) (N a : Nat) : Int32 := vlP t (skp t N a) (nE t N a - skp t N a)
def nF (t : Rw) (N a : Nat) (lo hi : Int32) : Nat := if nE t N a = skp t N a then 1 else if 3 < nE t N a - skp t N a ∨ nV t N a < lo ∨ ¬ nV t N a ≤ hi then 2 else 0
theorem sk_no {t : Rw} {N a : Nat} (h : ¬ a < N) : skp t N a = a := by
  rw [skp, show N - a = 0 by omega]
  rfl
theorem sk_stop {t : Rw} {N a : Nat} (h : a < N) (q : ¬ t a = 32) : skp t N a = a := by
  rw [skp, show N - a = (N - (a + 1)) + 1 by omega]
  simp only [skF, if_neg q]
theorem sk_go {t : Rw} {N a : Nat} (h : a < N) (q : t a = 32) : skp t N a = skp t N (a + 1) := by
  rw [skp, show N - a = (N - (a + 1)) + 1 by omega]
  simp only [skF, if_pos q]
  rfl
theorem lt_is {t : Rw} {N a : Nat} (h : a < N) : ltS t N a = t a := if_pos h
theorem lt_no {t : Rw} {N a : Nat} (h : ¬ a < N) : ltS t N a = -1 := if_neg h
theorem sk_stopL {t : Rw} {N a : Nat} (h : a < N) (q : ¬ ltS t N a = 32) : skp t N a = a := sk_stop h (by rw [lt_is h] at q; exact q)
theorem sk_goL {t : Rw} {N a : Nat} (h : a < N) (q : ltS t N a = 32) : skp t N a = skp t N (a + 1) := sk_go h (by rw [lt_is h] at q; exact q)
theorem skF_b {t : Rw} : ∀ (m a : Nat), a ≤ skF t m a ∧ skF t m a ≤ a + m
  | 0, a => ⟨Nat.le_refl _, Nat.le_refl _⟩
  | m + 1, a => by
    have := skF_b (t := t) m (a + 1)
    simp only [skF]
    split <;> omega
theorem sk_b {t : Rw} {N a : Nat} : a ≤ skp t N a ∧ (skp t N a ≤ a ∨ skp t N a ≤ N) := by
  have := skF_b (t := t) (N - a) a
  unfold skp
  omega
theorem skF_end {t : Rw} : ∀ (m a : Nat), skF t m a < a + m → ¬ t (skF t m a) = 32
  | 0, a => fun h => absurd h (by show ¬ a < a + 0; omega)
  | m + 1, a => by
    simp only [skF]
    split
    · intro h
      exact skF_end m (a + 1) (by omega)
    · rename_i q
      intro _
      exact q
theorem sk_end {t : Rw} {N a : Nat} (h : skp t N a < N) : ¬ t (skp t N a) = 32 := by
  unfold skp at h ⊢
  refine skF_end _ _ ?_
  have := skF_b (t := t) (N - a) a
  omega
theorem sk_sk {t : Rw} {N a : Nat} : skp t N (skp t N a) = skp t N a := by
  by_cases h : skp t N a < N
  · exact sk_stop h (sk_end h)
  · exact sk_no h
theorem fg_no {t : Rw} {N a : Nat} (h : ¬ a < N) : fig t N a = a := by
  rw [fig, show N - a = 0 by omega]
  rfl
theorem fg_stop {t : Rw} {N a : Nat} (h : a < N) (q : ¬ isFg (t a)) : fig t N a = a := by
  rw [fig, show N - a = (N - (a + 1)) + 1 by omega]
  simp only [fgF, if_neg q]
theorem fg_go {t : Rw} {N a : Nat} (h : a < N) (q : isFg (t a)) : fig t N a = fig t N (a + 1) := by
  rw [fig, show N - a = (N - (a + 1)) + 1 by omega]
  simp only [fgF, if_pos q]
  rfl
theorem fg_stopL {t : Rw} {N a : Nat} (h : a < N) (q : ¬ isFg (ltS t N a)) : fig t N a = a := fg_stop h (by rw [lt_is h] at q; exact q)
theorem fg_goL {t : Rw} {N a : Nat} (h : a < N) (q : isFg (ltS t N a)) : fig t N a = fig t N (a + 1) := fg_go h (by rw [lt_is h] at q; exact q)
theorem fgF_b {t : Rw} : ∀ (m a : Nat), a ≤ fgF t m a ∧ fgF t m a ≤ a + m
  | 0, a => ⟨Nat.le_refl _, Nat.le_refl _⟩
  | m + 1, a => by
    have := fgF_b (t := t) m (a + 1)
    simp only [fgF]
    split <;> omega
theorem fg_b {t : Rw} {N a : Nat} : a ≤ fig t N a ∧ (fig t N a ≤ a ∨ fig t N a ≤ N) := by
  have := fgF_b (t := t) (N - a) a
  unfold fig
  omega
theorem ne_b {t : Rw} {N a : Nat} : a ≤ skp t N a ∧ skp t N a ≤ nE t N a ∧ (nE t N a ≤ a ∨ nE t N a ≤ N) ∧ (skp t N a ≤ a ∨ skp t N a ≤ N) := by
  have h1 := sk_b (t := t) (N := N) (a := a)
  have h2 := fg_b (t := t) (N := N) (a := skp t N a)
  unfold nE
  omega
theorem fgF_all {t : Rw} : ∀ (m a i : Nat), a ≤ i → i < fgF t m a → isFg (t i)
  | 0, a, i, h1, h2 => absurd h2 (by show ¬ i < a; omega)
  | m + 1, a, i, h1, h2 => by
    simp only [fgF] at h2
    split at h2
    · rename_i q
      by_cases e : i = a
      · rw [e]; exact q
      · exact fgF_all m (a + 1) i (by omega) h2
    · omega
theorem vl_go {t : Rw} {N b x : Nat} (h : b ≤ x) (hx : x < N) (h3 : x - b < 3) : vlP t b (x - b) * 10 + ltS t N x - 48 = vlP t b (x + 1 - b) := by
  rw [show x + 1 - b = (x - b) + 1 by omega]
  simp only [vlP, if_pos h3]
  rw [lt_is hx, show b + (x - b) = x by omega]
theorem vl_st {t : Rw} {b x : Nat} (h : b ≤ x) (h3 : ¬ x - b < 3) : vlP t b (x - b) = vlP t b (x + 1 - b) := by
  rw [show x + 1 - b = (x - b) + 1 by omega]
  simp only [vlP, if_neg h3]
theorem vm_go {t : Rw} {b x : Nat} (h : b ≤ x) (h3 : vlM t b (x - b) ≤ 10000) : 10 * vlM t b (x - b) + t x - 48 = vlM t b (x + 1 - b) := by
  rw [show x + 1 - b = (x - b) + 1 by omega]
  simp only [vlM, if_pos h3]
  rw [show b + (x - b) = x by omega]
theorem vm_st {t : Rw} {b x : Nat} (h : b ≤ x) (h3 : ¬ vlM t b (x - b) ≤ 10000) : vlM t b (x - b) = vlM t b (x + 1 - b) := by
  rw [show x + 1 - b = (x - b) + 1 by omega]
  simp only [vlM, if_neg h3]
theorem fg_nat {x : Int32} (h : isFg x) : ∃ k, k ≤ 9 ∧ x = nI (48 + k) := by
  obtain ⟨k, hk, rfl⟩ := nI_of (x := x) (fun z => absurd (Int32.le_trans h.1 (Int32.le_of_lt z)) (by decide))
  have h1 := (nI_leI (a := 48) (b := k) (by decide) hk).mp h.1
  have h2 := (nI_leI (a := k) (b := 57) hk (by decide)).mp h.2
  exact ⟨k - 48, by omega, by rw [show 48 + (k - 48) = k by omega]⟩
theorem vl_nat {t : Rw} {b : Nat} : ∀ k, k ≤ 3 → (∀ i, i < k → isFg (t (b + i))) → ∃ v, v < 10 ^ k ∧ vlP t b k = nI v ∧ vlM t b k = nI v
  | 0, _, _ => ⟨0, by decide, rfl, rfl⟩
  | k + 1, hk, h => by
    obtain ⟨v, hv, e1, e2⟩ := vl_nat k (by omega) (fun i hi => h i (by omega))
    obtain ⟨g, hg, e3⟩ := fg_nat (h k (by omega))
    have hp : 10 ^ k ≤ 100 := by
      match k, hk with
      | 0, _ => decide
      | 1, _ => decide
      | 2, _ => decide
    refine ⟨v * 10 + g, ?_, ?_, ?_⟩
    · rw [Nat.pow_succ]; omega
    · simp only [vlP, if_pos (show k < 3 by omega)]
      rw [e1, e3, show (10 : Int32) = nI 10 from rfl, show (48 : Int32) = nI 48 from rfl, pk_mul, nI_add, pk_sub (by omega), show v * 10 + (48 + g) - 48 = v * 10 + g by omega]
    · simp only [vlM]
      rw [e2, e3, if_pos (show nI v ≤ 10000 from (nI_leI (b := 10000) (by omega) (by decide)).mpr (by omega)), show (10 : Int32) = nI 10 from rfl, show (48 : Int32) = nI 48 from rfl, pk_mul, nI_add, pk_sub (by omega), show 10 * v + (48 + g) - 48 = v * 10 + g by omega]
theorem nv_nat {t : Rw} {N a : Nat} (h : ¬ 3 < nE t N a - skp t N a) : ∃ v, v < 1000 ∧ nV t N a = nI v ∧ vlM t (skp t N a) (nE t N a - skp t N a) = nI v := by
  have hb := ne_b (t := t) (N := N) (a := a)
  obtain ⟨v, hv, e1, e2⟩ := vl_nat (t := t) (b := skp t N a) (nE t N a - skp t N a) (by omega) (fun i hi => by
    refine fgF_all (t := t) (N - skp t N a) (skp t N a) _ (by omega) ?_
    show _ < fig t N (skp t N a)
    show _ < nE t N a
    omega)
  refine ⟨v, ?_, e1, e2⟩
  have : ∀ k, k ≤ 3 → 10 ^ k ≤ 1000 := fun k hk => by
    match k, hk with
    | 0, _ => decide
    | 1, _ => decide
    | 2, _ => decide
    | 3, _ => decide
  have := this _ (show nE t N a - skp t N a ≤ 3 by omega)
  omega
theorem fgL_iff {x : Int32} : ((48 : Int64) ≤ Int32.toInt64 x ∧ Int32.toInt64 x ≤ 57) ↔ isFg x := inK_iff (a := 48) (b := 57)
/-- the satchels above a child: is k among them -/
def upS (fr : Rw) (k : Nat) : Nat → Nat → Bool
  | 0, _ => false
  | f + 1, a => if fr a = -1 then false else (decide ((fr a).toNatClampNeg = k) || upS fr k f (fr a).toNatClampNeg)
theorem upS_more {fr : Rw} {k : Nat} : ∀ (f a : Nat), fr (topS fr f a) = -1 → upS fr k (f + 1) a = upS fr k f a
  | 0, a, h => by
    have h : fr a = -1 := h
    simp only [upS, if_pos h]
  | f + 1, a, h => by
    by_cases e : fr a = -1
    · simp only [upS, if_pos e]
    · have h2 : topS fr (f + 1) a = topS fr f (fr a).toNatClampNeg := by simp [topS, e]
      rw [h2] at h
      have ih := upS_more (k := k) f _ h
      show (if fr a = -1 then false else (decide ((fr a).toNatClampNeg = k) || upS fr k (f + 1) (fr a).toNatClampNeg)) = (if fr a = -1 then false else (decide ((fr a).toNatClampNeg = k) || upS fr k f (fr a).toNatClampNeg))
      rw [ih]
theorem upS_congr {c k : Nat} {f g : Rw} (hc : c < 2 ^ 31) (hch : inCh g c) (h : ∀ i, i < c → f i = g i) : ∀ m a, a < c → upS f k m a = upS g k m a
  | 0, _, _ => rfl
  | m + 1, a, ha => by
    simp only [upS]
    rw [h a ha]
    by_cases q : g a = -1
    · rw [if_pos q, if_pos q]
    · rw [if_neg q, if_neg q]
      rcases hch a ha with e | ⟨j, hj, e⟩
      · exact absurd e q
      · rw [e, nI_clamp (by omega), upS_congr hc hch h m j hj]
theorem topS_stay {fr : Rw} {f a : Nat} (h : fr (topS fr f a) = -1) : topS fr (f + 1) a = topS fr f a := by
  rw [topS_back, if_pos h]
theorem topS_stays {fr : Rw} {f a : Nat} (h : fr (topS fr f a) = -1) : ∀ m, topS fr (f + m) a = topS fr f a
  | 0 => rfl
  | m + 1 => by
    have ih := topS_stays h m
    rw [show f + (m + 1) = (f + m) + 1 by omega, topS_stay (by rw [ih]; exact h), ih]
theorem pig : ∀ (c : Nat) (g : Nat → Nat), (∀ t, t ≤ c → g t < c) → ∃ s t, s < t ∧ t ≤ c ∧ g s = g t
  | 0, g, h => absurd (h 0 (Nat.le_refl _)) (by omega)
  | c + 1, g, h => by
    by_cases e : ∃ s, s ≤ c ∧ g s = g (c + 1)
    · obtain ⟨s, hs, e⟩ := e
      exact ⟨s, c + 1, by omega, Nat.le_refl _, e⟩
    · have ne : ∀ s, s ≤ c → ¬ g s = g (c + 1) := fun s hs z => e ⟨s, hs, z⟩
      obtain ⟨s, t, h1, h2, h3⟩ := pig c (fun t => if g t = c then g (c + 1) else g t) (fun t ht => by
        have a1 := h t (by omega)
        have a2 := h (c + 1) (Nat.le_refl _)
        have a3 := ne t ht
        show (if g t = c then g (c + 1) else g t) < c
        split <;> omega)
      refine ⟨s, t, h1, by omega, ?_⟩
      have a3 := ne t h2
      have a4 := ne s (by omega)
      split at h3 <;> split at h3 <;> omega
/-- no ring: a rank that falls along the chain brings everyone to a first one within c steps -/
theorem rank_root {fr : Rw} {c : Nat} (hc : c < 2 ^ 31) (hch : inCh fr c) (r : Nat → Nat) (hr : ∀ i j, i < c → j < c → fr i = nI j → r j < r i) : ∀ i, i < c → fr (topS fr c i) = -1 := by
  intro i hi
  by_cases q : fr (topS fr c i) = -1
  · exact q
  · have nr : ∀ t, t ≤ c → ¬ fr (topS fr t i) = -1 := fun t ht z => q (by
      have := topS_stays z (c - t)
      rw [show t + (c - t) = c by omega] at this
      rw [this]; exact z)
    have lt : ∀ t, topS fr t i < c := fun t => topS_lt hch hc hi
    have dec : ∀ t, t ≤ c → r (topS fr (t + 1) i) < r (topS fr t i) := by
      intro t ht
      rcases hch _ (lt t) with e | ⟨j, hj, e⟩
      · exact absurd e (nr t ht)
      · rw [topS_back, if_neg (nr t ht), e, nI_clamp (by omega)]
        exact hr _ _ (lt t) hj e
    have mono : ∀ m s, s + m ≤ c → 0 < m → r (topS fr (s + m) i) < r (topS fr s i) := by
      intro m
      induction m with
      | zero => intro s _ h; omega
      | succ m ih =>
        intro s hs _
        have d1 := dec (s + m) (by omega)
        by_cases e : m = 0
        · subst e
          exact d1
        · have := ih s (by omega) (by omega)
          rw [show s + (m + 1) = s + m + 1 by omega]
          omega
    obtain ⟨s, t, h1, h2, h3⟩ := pig c (fun t => topS fr t i) (fun t _ => lt t)
    have := mono (t - s) s (by omega) (by omega)
    rw [show s + (t - s) = t by omega] at this
    rw [h3] at this
    omega
def depS (fr : Rw) : Nat → Nat → Nat
  | 0, _ => 0
  | f + 1, i => if fr i = -1 then 0 else depS fr f (fr i).toNatClampNeg + 1
theorem depS_more {fr : Rw} : ∀ (f a : Nat), fr (topS fr f a) = -1 → depS fr (f + 1) a = depS fr f a
  | 0, a, h => by
    have h : fr a = -1 := h
    simp only [depS, if_pos h]
  | f + 1, a, h => by
    by_cases e : fr a = -1
    · simp only [depS, if_pos e]
    · have h2 : topS fr (f + 1) a = topS fr f (fr a).toNatClampNeg := by simp [topS, e]
      rw [h2] at h
      have ih := depS_more f _ h
      show (if fr a = -1 then 0 else depS fr (f + 1) (fr a).toNatClampNeg + 1) = (if fr a = -1 then 0 else depS fr f (fr a).toNatClampNeg + 1)
      rw [ih]
/-- a new handing down makes no ring -/
theorem link_root {fr : Rw} {c k g : Nat} (hc : c < 2 ^ 31) (hch : inCh fr c) (hrt : ∀ i, i < c → fr (topS fr c i) = -1) (hk : k < c) (hg : g < c) (hfk : fr k = -1) (hgk : ¬ g = k) (hup : upS fr k c g = false) : inCh (upd fr k (nI g)) c ∧ ∀ i, i < c → upd fr k (nI g) (topS (upd fr k (nI g)) c i) = -1 := by
  have hch2 : inCh (upd fr k (nI g)) c := by
    intro i hi
    simp only [upd]
    by_cases e : i = k
    · rw [if_pos e]; exact Or.inr ⟨g, hg, rfl⟩
    · rw [if_neg e]; exact hch i hi
  refine ⟨hch2, rank_root hc hch2 (fun i => depS fr c i + (if (decide (i = k) || upS fr k c i) = true then depS fr c g + 1 else 0)) ?_⟩
  intro i j hi hj e
  simp only [upd] at e
  show depS fr c j + _ < depS fr c i + _
  by_cases e1 : i = k
  · rw [if_pos e1] at e
    have e2 : g = j := (nI_eq (by omega) (by omega)).mp e
    subst e2
    rw [if_neg (by rw [hup]; simp [hgk]), if_pos (by simp [e1])]
    omega
  · rw [if_neg e1] at e
    have ne : ¬ fr i = -1 := fun z => by
      rw [e] at z
      exact absurd (z ▸ (by decide : (-1 : Int32) < 0)) (nI_pos (by omega))
    have d1 : depS fr c i = depS fr c j + 1 := by
      rw [← depS_more c i (hrt i hi)]
      simp only [depS, if_neg ne]
      rw [e, nI_clamp (by omega)]
    have u1 : upS fr k c i = (decide (j = k) || upS fr k c j) := by
      rw [← upS_more c i (hrt i hi)]
      simp only [upS, if_neg ne]
      rw [e, nI_clamp (by omega)]
    rw [u1]
    simp only [e1, decide_false, Bool.false_or]
    omega
theorem child_root {fr : Rw} {c : Nat} {fr' : Rw} (hc : c < 2 ^ 31) (hch : inCh fr c) (hrt : ∀ i, i < c → fr (topS fr c i) = -1) (h1 : ∀ i, i < c → fr' i = fr i) (h2 : fr' c = -1) : inCh fr' (c + 1) ∧ ∀ i, i < c + 1 → fr' (topS fr' (c + 1) i) = -1 := by
  constructor
  · intro i hi
    by_cases e : i = c
    · rw [e]; exact Or.inl h2
    · rw [h1 i (by omega)]
      rcases hch i (by omega) with z | ⟨j, hj, z⟩
      · exact Or.inl z
      · exact Or.inr ⟨j, by omega, z⟩
  · intro i hi
    by_cases e : i = c
    · rw [e, topS_root h2]; exact h2
    · have e2 := topS_congr (c := c) hc hch h1 (c + 1) i (by omega)
      rw [e2, topS_stay (hrt i (by omega)), h1 _ (topS_lt hch hc (by omega))]
      exact hrt i (by omega)

/-! WHAT THE PROGRAM AND THE REFERENCE HAVE IN COMMON -/
def RowOk (n c : Nat) (a b : Nat → Int32) : Prop :=
  (∀ d, d < n → a d = b d) ∧ (∀ d, d < n → a (7 + d) = b (7 + d)) ∧ (∀ i, i < c → a (14 + i) = b (17 + i)) ∧ a 19 = b 14 ∧ a 20 = b 15 ∧ a 21 = b 16 ∧ (∀ i, c ≤ i → i < 5 → b (17 + i) = 0) ∧ ∀ d, d < n → b d = 1 → ∃ p, p < c ∧ b (7 + d) = nI p
def RollOk (n c : Nat) (h : AH) : Prop :=
  (h 3 0 = h 43 0 ∧ (h 43 0 = 0 ∨ h 43 0 = 1) ∧ h 3 1 = h 43 1) ∧ (h 3 2 = nI c ∧ h 43 2 = nI c ∧ c ≤ 5) ∧ (h 3 3 = nI n ∧ h 43 6 = nI n ∧ n ≤ 7) ∧
  (∀ i, i < c → h 4 i = h 44 i ∧ h 5 i = h 45 i ∧ h 6 i = h 46 i ∧ (∃ s, 1 ≤ s ∧ s ≤ 99 ∧ h 44 i = nI s) ∧ ∃ m, m ≤ 99 ∧ h 45 i = nI m) ∧
  (∀ d, d < n → h 7 d = h 47 d ∧ h 8 d = h 48 d ∧ (∃ w, 1 ≤ w ∧ w ≤ 99 ∧ h 48 d = nI w) ∧ ∃ o, o < c ∧ h 47 d = nI o) ∧
  inCh (h 46) c ∧ ∀ i, i < c → h 46 (topS (h 46) c i) = -1
def PastOk (n c : Nat) (h : AH) : Prop := ∃ u p, u ≤ 20 ∧ p < 20 ∧ h 43 26 = nI u ∧ h 18 2 = nI u ∧ h 18 1 = nI p ∧ ∀ t, t < u → RowOk n c (fun k => h 19 (22 * ((p + 20 - u + t) % 20) + k)) (fun k => h 56 (22 * t + k))
def ImgOk (n c : Nat) (h : AH) : Prop :=
  (h 39 2 = h 67 0 ∧ (h 67 0 = 0 ∨ h 67 0 = 1) ∧ (h 67 0 = 1 → RowOk n c (h 40) (fun k => h 66 k) ∧ h 39 1 = h 66 22 ∧ ∃ s, s < 2 ^ 31 ∧ h 66 22 = nI s)) ∧
  (h 41 2 = h 67 1 ∧ (h 67 1 = 0 ∨ h 67 1 = 1) ∧ (h 67 1 = 1 → RowOk n c (h 42) (fun k => h 66 (23 + k)) ∧ h 41 1 = h 66 45 ∧ ∃ s, s < 2 ^ 31 ∧ h 66 45 = nI s))
def SlateOk (h : AH) : Prop :=
  (∃ m, m ≤ 6 ∧ h 33 5 = nI m ∧ h 43 32 = nI m ∧ ∀ t, t < m → h 34 t = h 61 t ∧ h 35 t = h 62 t ∧ h 36 t = h 63 t) ∧
  (∃ m, m ≤ 15 ∧ h 33 6 = nI m ∧ h 43 36 = nI m ∧ ∀ t, t < m → h 37 t = h 64 t ∧ h 38 t = h 65 t)
def TextOk (h : AH) : Prop := (∃ t, t ≤ 240 ∧ h 1 1 = nI t ∧ h 43 12 = nI t ∧ ∀ i, i < t → h 2 i = h 50 i) ∧ h 1 2 = h 43 13
def SeedOk (h : AH) : Prop := ∃ s, s < 2 ^ 31 ∧ h 1 13 = nI s ∧ h 43 10 = nI s
/-- all but what the program keeps of its searches -/
def Rel0 (n c : Nat) (h : AH) : Prop := RollOk n c h ∧ RowOk n c (h 17) (h 49) ∧ PastOk n c h ∧ ImgOk n c h ∧ SlateOk h ∧ TextOk h ∧ SeedOk h
theorem loadS_congr {n : Nat} {st st' pl pl' w w' : Nat → Int32} {c : Int32} (h1 : ∀ d, d < n → st d = st' d) (h2 : ∀ d, d < n → pl d = pl' d) (h3 : ∀ d, d < n → w d = w' d) : ∀ k, k ≤ n → loadS st pl w c k = loadS st' pl' w' c k
  | 0, _ => rfl
  | k + 1, hk => by simp only [loadS]; rw [loadS_congr h1 h2 h3 k (by omega), h1 k (by omega), h2 k (by omega), h3 k (by omega)]
theorem ownS_congr {n : Nat} {st st' pl pl' ow ow' w w' : Nat → Int32} {c : Int32} (h1 : ∀ d, d < n → st d = st' d) (h2 : ∀ d, d < n → pl d = pl' d) (h4 : ∀ d, d < n → ow d = ow' d) (h3 : ∀ d, d < n → w d = w' d) : ∀ k, k ≤ n → ownS st pl ow w c k = ownS st' pl' ow' w' c k
  | 0, _ => rfl
  | k + 1, hk => by simp only [ownS]; rw [ownS_congr h1 h2 h4 h3 k (by omega), h1 k (by omega), h2 k (by omega), h3 k (by omega), h4 k (by omega)]
theorem setS_congr {n : Nat} {p q : Nat → Bool} (h : ∀ d, d < n → p d = q d) : ∀ k, k ≤ n → setS p k = setS q k
  | 0, _ => rfl
  | k + 1, hk => by simp only [setS]; rw [setS_congr h k (by omega), h k (by omega)]
theorem anyS_congr {n : Nat} {p q : Nat → Bool} (h : ∀ d, d < n → p d = q d) : ∀ k, k ≤ n → anyS p k = anyS q k
  | 0, _ => rfl
  | k + 1, hk => by simp only [anyS]; rw [anyS_congr h k (by omega), h k (by omega)]
theorem findS_congr {p q : Nat → Bool} : ∀ (m k : Nat), (∀ d, k ≤ d → d < k + m → p d = q d) → findS p m k = findS q m k
  | 0, _, _ => rfl
  | m + 1, k, h => by simp only [findS]; rw [h k (Nat.le_refl _) (by omega), findS_congr m (k + 1) (fun d h1 h2 => h d (by omega) (by omega))]
theorem lastS_congr {n : Nat} {f g : Nat → Int32} (hn : n < 2 ^ 31) (h : ∀ d, d < n → f d = g d) : ∀ k, k ≤ n → lastS f k = lastS g k
  | 0, _ => rfl
  | k + 1, hk => by
    have ih := lastS_congr hn h k (by omega)
    simp only [lastS]
    rw [ih, h k (by omega)]
    by_cases q : lastS g k < 0
    · rw [if_pos (Or.inl q), if_pos (Or.inl q)]
    · obtain ⟨i, hi, e⟩ := lastS_nat (by omega) q
      rw [e, nI_clamp (by omega), h i (by omega)]
theorem wtS_congr {n : Nat} {w w' : Nat → Int32} {s : Int32} (h : ∀ d, d < n → w d = w' d) : ∀ k, k ≤ n → wtS w s k = wtS w' s k
  | 0, _ => rfl
  | k + 1, hk => by simp only [wtS]; rw [wtS_congr h k (by omega), h k (by omega)]
theorem lamS_congr {n c : Nat} {sg sg' w w' a b : Nat → Int32} (h0 : ∀ i, i < c → sg i = sg' i) (h3 : ∀ d, d < n → w d = w' d) (h1 : ∀ d, d < n → a d = b d) (h2 : ∀ d, d < n → a (7 + d) = b (7 + d)) : lamS sg w n c a = lamS sg' w' n c b := by
  unfold lamS
  refine setS_congr (n := c) (fun i hi => ?_) c (Nat.le_refl _)
  rw [loadS_congr (n := n) h1 h2 h3 n (Nat.le_refl _), h0 i hi]
theorem topS_congr {c : Nat} {f g : Nat → Int32} (hc : c < 2 ^ 31) (hch : inCh g c) (h : ∀ i, i < c → f i = g i) : ∀ k a, a < c → topS f k a = topS g k a
  | 0, _, _ => rfl
  | k + 1, a, ha => by
    simp only [topS]
    rw [h a ha]
    by_cases q : g a = -1
    · rw [if_pos q, if_pos q]
    · rw [if_neg q, if_neg q]
      rcases hch a ha with e | ⟨j, hj, e⟩
      · exact absurd e q
      · rw [e, nI_clamp (by omega)]
        exact topS_congr hc hch h k j hj
/-! rows that change alike -/
theorem RowOk.lay {n c d : Nat} {a b : Nat → Int32} (h : RowOk n c a b) (hn : n ≤ 7) (hc : c ≤ 5) (hd : d < n) {is x : Int32} (hx : is = 1 → ∃ p, p < c ∧ x = nI p) : RowOk n c (layR d is x a) (layR d is x b) := by
  obtain ⟨h1, h2, h3, h4, h5, h6, h7, h8⟩ := h
  refine ⟨fun e he => ?_, fun e he => ?_, fun i hi => ?_, ?_, ?_, ?_, fun i hi1 hi2 => ?_, fun e he q => ?_⟩
  · have q := h1 e he; clear h1 h2 h3 h4 h5 h6 h7 h8; simp only [layR, upd]; grind
  · have q := h2 e he; clear h1 h2 h3 h4 h5 h6 h7 h8; simp only [layR, upd]; grind
  · have q := h3 i hi; clear h1 h2 h3 h4 h5 h6 h7 h8; simp only [layR, upd]; grind
  · clear h1 h2 h3 h5 h6 h7 h8; simp only [layR, upd]; grind
  · clear h1 h2 h3 h4 h6 h7 h8; simp only [layR, upd]; grind
  · clear h1 h2 h3 h4 h5 h7 h8; simp only [layR, upd]; grind
  · have q := h7 i hi1 hi2; clear h1 h2 h3 h4 h5 h6 h7 h8; simp only [layR, upd]; grind
  · by_cases e1 : e = d
    · subst e1
      have e2 : layR e is x b e = is := by clear h1 h2 h3 h4 h5 h6 h7 h8; simp only [layR, upd]; grind
      rw [e2] at q
      have e3 : layR e is x b (7 + e) = x := by simp [layR, upd]
      rw [e3]; exact hx q
    · have e2 : layR d is x b e = b e := by clear h1 h2 h3 h4 h5 h6 h7 h8 q; simp only [layR, upd]; grind
      have e3 : layR d is x b (7 + e) = b (7 + e) := by clear h1 h2 h3 h4 h5 h6 h7 h8 q; simp only [layR, upd]; grind
      rw [e2] at q
      rw [e3]; exact h8 e he q
theorem RowOk.thr {n c d : Nat} {a b : Nat → Int32} (h : RowOk n c a b) (hn : n ≤ 7) (hc : c ≤ 5) (hd : d < n) {w w' : Int32} (hw : w = w') : RowOk n c (thrR 20 21 d w a) (thrR 15 16 d w' b) := by
  subst hw
  obtain ⟨h1, h2, h3, h4, h5, h6, h7, h8⟩ := h
  refine ⟨fun e he => ?_, fun e he => ?_, fun i hi => ?_, ?_, ?_, ?_, fun i hi1 hi2 => ?_, fun e he q => ?_⟩
  · have q := h1 e he; clear h1 h2 h3 h4 h5 h6 h7 h8; simp only [thrR]; grind
  · have q := h2 e he; clear h1 h2 h3 h4 h5 h6 h7 h8; simp only [thrR]; grind
  · have q := h3 i hi; clear h1 h2 h3 h4 h5 h6 h7 h8; simp only [thrR]; grind
  · clear h1 h2 h3 h5 h6 h7 h8; simp only [thrR]; grind
  · clear h1 h2 h3 h4 h6 h7 h8; simp only [thrR]; grind
  · clear h1 h2 h3 h4 h5 h7 h8; simp only [thrR]; grind
  · have q := h7 i hi1 hi2; clear h1 h2 h3 h4 h5 h6 h7 h8; simp only [thrR]; grind
  · by_cases e1 : e = d
    · subst e1
      have e2 : thrR 15 16 e w b e = 2 := by simp [thrR]
      rw [e2] at q
      exact absurd q (by decide)
    · have e2 : thrR 15 16 d w b e = b e := by clear h1 h2 h3 h4 h5 h6 h7 h8 q; simp only [thrR]; grind
      have e3 : thrR 15 16 d w b (7 + e) = b (7 + e) := by clear h1 h2 h3 h4 h5 h6 h7 h8 q; simp only [thrR]; grind
      rw [e2] at q
      rw [e3]; exact h8 e he q
theorem RowOk.go {n c : Nat} {a b : Nat → Int32} (h : RowOk n c a b) (hn : n ≤ 7) (hc : c ≤ 5) {s s' : Int32} (hs : s = s') : RowOk n c (goR 14 19 20 n c s a) (goR 17 14 15 n c s' b) := by
  subst hs
  obtain ⟨h1, h2, h3, h4, h5, h6, h7, h8⟩ := h
  refine ⟨fun e he => ?_, fun e he => ?_, fun i hi => ?_, ?_, ?_, ?_, fun i hi1 hi2 => ?_, fun e he q => ?_⟩
  · have q := h1 e he; clear h1 h2 h3 h4 h5 h6 h7 h8; simp only [goR]; grind
  · have q := h2 e he; clear h1 h2 h3 h4 h5 h6 h7 h8; simp only [goR]; grind
  · have q := h3 i hi
    have e1 : goR 14 19 20 n c s a (14 + i) = a (14 + i) + ((s >>> (nI i &&& 31)) &&& 1) := by
      simp only [goR]; rw [if_neg (by omega), if_pos (by omega), show 14 + i - 14 = i by omega]
    have e2 : goR 17 14 15 n c s b (17 + i) = b (17 + i) + ((s >>> (nI i &&& 31)) &&& 1) := by
      simp only [goR]; rw [if_neg (by omega), if_pos (by omega), show 17 + i - 17 = i by omega]
    rw [e1, e2, q]
  · clear h1 h2 h3 h5 h6 h7 h8; simp only [goR]; grind
  · clear h1 h2 h3 h4 h6 h7 h8; simp only [goR]; grind
  · clear h1 h2 h3 h4 h5 h7 h8; simp only [goR]; grind
  · have q := h7 i hi1 hi2; clear h1 h2 h3 h4 h5 h6 h7 h8; simp only [goR]; grind
  · exfalso; simp only [goR] at q; rw [if_pos he] at q; split at q
    · exact absurd q (by decide)
    · rename_i z; exact z q
theorem RowOk.swp {n c d e : Nat} {a b : Nat → Int32} (h : RowOk n c a b) (hn : n ≤ 7) (hc : c ≤ 5) (hd : d < n) (he : e < n) (hde : ¬ d = e) (q1 : b d = 1) (q2 : b e = 1) : RowOk n c (layR e 1 (a (7 + d)) (layR d 1 (a (7 + e)) a)) (swpR d e b) := by
  have h0 := h
  obtain ⟨h1, h2, h3, h4, h5, h6, h7, h8⟩ := h
  have e1 : swpR d e b = layR e 1 (a (7 + d)) (layR d 1 (a (7 + e)) b) := by
    rw [h2 d hd, h2 e he]
    funext k
    clear h0 h1 h2 h3 h4 h5 h6 h7 h8
    simp only [swpR, layR, upd]
    grind
  rw [e1]
  refine (h0.lay hn hc hd (fun _ => ?_)).lay hn hc he (fun _ => ?_)
  · rw [h2 e he]; exact h8 e he q2
  · rw [h2 d hd]; exact h8 d hd q1

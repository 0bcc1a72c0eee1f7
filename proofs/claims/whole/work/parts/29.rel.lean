/-! the relation of the two states -/
def rc (r : Nat) : Nat := if r < 8 then 10 + r else if r < 16 then 12 + r else 1
def dOk (x : Int32) : Prop := ∃ n, x = nI n ∧ (n = 0 ∨ n = 1 ∨ n = 2 ∨ (10 ≤ n ∧ n < 18) ∨ (20 ≤ n ∧ n < 28))
def Bo (s t : KS) (i : Nat) : Prop := ∃ n, n ≤ 32 ∧ s 1 i 4 = nI n ∧ t 29 0 i = nI n ∧ t 30 0 i = s 1 i 5 ∧ t 32 0 i = s 1 i 6 ∧ (∀ k, k < 128 → t 27 0 (128 * i + k) = s 2 i k) ∧ ∀ k, k < n → t 28 0 (64 * i + k) = s 3 i k
def XP (s t : KS) : Prop := (∀ i, i < 16 → s 1 i 0 = nI i) ∧ (∀ i, i < 16 → t 26 0 i = s 1 i 7) ∧ (∀ i, i < 16 → t 34 0 i = if s 1 i 7 = 5 then s 1 i 9 else 0) ∧ (∀ i, i < 16 → s 1 i 7 = 6 → t 33 0 i = s 1 i 8) ∧ (∀ i, i < 16 → ∀ d, d < 8 → t 31 0 (8 * i + d) = s 4 i d ∧ dOk (s 4 i d)) ∧ (∀ i, i < 16 → ¬ s 1 i 7 = 0 → Bo s t i)
def XQ (s t : KS) (q : List Nat) : Prop := s 0 0 5 = nI q.length ∧ t 20 0 16 = nI q.length ∧ AL (s 8 0) 0 q ∧ AL (t 35 0) 0 q ∧ q.Nodup ∧ (∀ i ∈ q, i < 16)
def XB (s : KS) (q : List Nat) : Prop := ∀ i, i < 16 → (i ∈ q ↔ s 1 i 7 = 1)
def XR (s t : KS) (row : Nat → List Nat) : Prop := (∀ r, r < 17 → t 40 0 r = nI (row r).length ∧ AL (t 39 0) (16 * r) (row r) ∧ (row r).Pairwise (fun i j => s 1 i 11 < s 1 j 11) ∧ (∀ i, i ∈ row r ↔ i < 16 ∧ s 1 i 10 = nI (rc r)) ∧ (∀ i, i ∈ row r → s 1 i 11 < s 0 0 8)) ∧ (∀ i, i < 16 → s 1 i 10 = -1 ∨ ((∃ r, r < 17 ∧ s 1 i 10 = nI (rc r) ∧ (r = 16 → s 0 0 11 = 0)) ∧ (s 1 i 7 = 2 ∨ s 1 i 7 = 3)))
def ring (a : Nat → Int32) (f c : Int32) (N : Nat) (l : List Int32) : Prop := ∃ m, m < N ∧ f = nI m ∧ c = nI l.length ∧ l.length ≤ N ∧ ∀ k x, l[k]? = some x → a ((m + k) % N) = x
def lin (a : Nat → Int32) (b : Nat) (c : Int32) (l : List Int32) : Prop := c = nI l.length ∧ ∀ k x, l[k]? = some x → a (b + k) = x
def XE (s t : KS) : Prop := ∀ x, 10 ≤ x → x < 28 → s 7 0 x = nI (cnt (t 31 0) (nI x) 128)
def XC (cp : Nat) (s t : KS) : Prop := t 20 0 2 = nI cp ∧ 1 ≤ cp ∧ cp ≤ 16 ∧ ∀ w, w < 8 → ∃ l, ring (s 6 w) (s 5 w 1) (s 5 w 2) cp l ∧ lin (t 41 0) (16 * w) (t 42 0 w) l
def XI (s t : KS) : Prop := ∃ l, ring (s 6 8) (s 5 8 1) (s 5 8 2) 100 l ∧ lin (t 43 0) 0 (t 20 0 24) l ∧ t 20 0 25 = s 0 0 11 ∧ (s 0 0 11 = 0 ∨ s 0 0 11 = 1)
def XO (s t : KS) (T : Nat) : Prop := ∃ n l, ring (s 6 9) (s 5 9 1) (s 5 9 2) 500 l ∧ s 0 0 13 = nI n ∧ t 20 0 27 = nI n ∧ l.length = min n 500 ∧ n ≤ T ∧ ∀ k x, l[k]? = some x → t 46 0 ((n - l.length + k) % 500) = x
def XS (s t : KS) (T : Nat) : Prop := s 0 0 0 = t 20 0 1 ∧ (∃ Q, s 0 0 0 = nI Q ∧ 1 ≤ Q ∧ Q ≤ 100) ∧ s 0 0 7 = nI T ∧ t 20 0 4 = nI T ∧ T ≤ 70000 ∧ t 20 0 3 = s 0 0 9 ∧ (s 0 0 9 = 0 ∨ s 0 0 9 = 1) ∧ (∃ b, s 0 0 8 = nI b ∧ b ≤ T)
def XH (cp T : Nat) (s t : KS) : Prop := XE s t ∧ XC cp s t ∧ XI s t ∧ XO s t T ∧ XS s t T
/-- a pipe of which no end is open is empty -/
def XF (s t : KS) : Prop := ∀ w, w < 8 → cnt (t 31 0) (nI (10 + w)) 128 = 0 → cnt (t 31 0) (nI (20 + w)) 128 = 0 → s 5 w 2 = 0
def XY (s t : KS) (q : List Nat) (row : Nat → List Nat) : Prop := XP s t ∧ XQ s t q ∧ XB s q ∧ XR s t row
/-- what waking leaves as it was -/
def Fr (s s' t t' : KS) : Prop := (∀ i k, k ≠ 7 → k ≠ 10 → s' 1 i k = s 1 i k) ∧ s' 2 = s 2 ∧ s' 3 = s 3 ∧ s' 4 = s 4 ∧ s' 5 = s 5 ∧ s' 6 = s 6 ∧ s' 7 = s 7 ∧ (∀ k, k ≠ 5 → s' 0 0 k = s 0 0 k) ∧ s' 50 = s 50 ∧ (∀ i, i < 16 → s' 1 i 7 = s 1 i 7 ∨ (s' 1 i 7 = 1 ∧ (s 1 i 7 = 2 ∨ s 1 i 7 = 3))) ∧ (∀ k, k ≠ 16 → t' 20 0 k = t 20 0 k) ∧ t' 25 = t 25 ∧ t' 29 = t 29 ∧ t' 30 = t 30 ∧ t' 31 = t 31 ∧ t' 41 = t 41 ∧ t' 42 = t 42 ∧ t' 43 = t 43 ∧ t' 46 = t 46
theorem Fr.refl (s t : KS) : Fr s s t t := ⟨fun _ _ _ _ => rfl, rfl, rfl, rfl, rfl, rfl, rfl, fun _ _ => rfl, rfl, fun _ _ => Or.inl rfl, fun _ _ => rfl, rfl, rfl, rfl, rfl, rfl, rfl, rfl, rfl⟩
theorem Fr.trans {s s' s'' t t' t'' : KS} (h : Fr s s' t t') (g : Fr s' s'' t' t'') : Fr s s'' t t'' := by
  obtain ⟨h1, h2, h3, h4, h5, h6, h7, h8, h9, h10, h11, h12, h13, h14, h15, h16, h17, h18, h19⟩ := h
  obtain ⟨g1, g2, g3, g4, g5, g6, g7, g8, g9, g10, g11, g12, g13, g14, g15, g16, g17, g18, g19⟩ := g
  refine ⟨fun i k a b => (g1 i k a b).trans (h1 i k a b), g2.trans h2, g3.trans h3, g4.trans h4, g5.trans h5, g6.trans h6, g7.trans h7, fun k a => (g8 k a).trans (h8 k a), g9.trans h9, fun i hi => ?_, fun k a => (g11 k a).trans (h11 k a), g12.trans h12, g13.trans h13, g14.trans h14, g15.trans h15, g16.trans h16, g17.trans h17, g18.trans h18, g19.trans h19⟩
  rcases g10 i hi with g | ⟨g, e⟩
  · rcases h10 i hi with h | ⟨h, e⟩
    · exact Or.inl (g.trans h)
    · exact Or.inr ⟨g.trans h, e⟩
  · rcases h10 i hi with h | ⟨h, e'⟩
    · rw [h] at e; exact Or.inr ⟨g, e⟩
    · rw [h] at e
      rcases e with e | e <;> exact absurd e (by decide)
theorem rc_lt {r : Nat} (h : r < 17) : rc r < 28 := by unfold rc; split; · omega
                                                       split <;> omega
theorem rc_inj {a b : Nat} (ha : a < 17) (hb : b < 17) (h : rc a = rc b) : a = b := by
  unfold rc at h
  split at h <;> split at h <;> (try split at h) <;> (try split at h) <;> omega
theorem nI_m1 {n : Nat} (h : n < 100000) : ¬ nI n = -1 := by
  intro e
  have h1 : (nI n).toInt = (n : Int) := nI_toInt (by omega)
  rw [e] at h1
  have h2 : ((-1 : Int32)).toInt = -1 := by decide
  omega
theorem XR.len {s t : KS} {row : Nat → List Nat} (h : XR s t row) {r : Nat} (hr : r < 17) : (row r).length ≤ 16 ∧ (row r).Nodup ∧ ∀ i ∈ row r, i < 16 := by
  obtain ⟨-, -, h3, h4, -⟩ := h.1 r hr
  have hnd : (row r).Nodup := h3.imp (fun {a b} hab e => by subst e; rw [Int32.lt_iff_toInt_lt] at hab; omega)
  have hm : ∀ i ∈ row r, i < 16 := fun i hi => ((h4 i).mp hi).1
  exact ⟨nd_len 16 _ hnd hm, hnd, hm⟩
theorem XQ.len {s t : KS} {q : List Nat} (h : XQ s t q) : q.length ≤ 16 := nd_len 16 q h.2.2.2.2.1 h.2.2.2.2.2
theorem XQ.lt {s t : KS} {q : List Nat} {p : Nat} (h : XQ s t q) (hp : p < 16) (hq : p ∉ q) : q.length < 16 := nd_lt h.2.2.2.2.1 h.2.2.2.2.2 hp hq
/-- one that is not in the queue, and stands in no row, is made ready -/
def kRd (s : KS) (p n : Nat) : KS := w3 (w3 (w3 (w3 s 1 p 7 1) 1 p 10 (-1)) 8 0 n (nI p)) 0 0 5 (nI (n + 1))
def mRd (t : KS) (p n : Nat) : KS := w3 (w3 (w3 (w3 t 26 0 p 1) 34 0 p 0) 35 0 n (nI p)) 20 0 16 (nI (n + 1))
theorem rd_P {s t : KS} {p n : Nat} (hp : p < 16) (h : XP s t) (hb : Bo s t p) : XP (kRd s p n) (mRd t p n) := by
  obtain ⟨h1, h2, h3, h4, h5, h6⟩ := h
  refine ⟨fun i hi => ?_, fun i hi => ?_, fun i hi => ?_, fun i hi h9 => ?_, fun i hi d hd => h5 i hi d hd, fun i hi h9 => ?_⟩
  · have := h1 i hi
    simpa [kRd, w3_eq] using this
  · have := h2 i hi
    by_cases e : i = p
    · simp [kRd, mRd, w3_eq, e]
    · simpa [kRd, mRd, w3_eq, e] using this
  · have := h3 i hi
    by_cases e : i = p
    · simp [kRd, mRd, w3_eq, e]
    · simpa [kRd, mRd, w3_eq, e] using this
  · have := h4 i hi
    by_cases e : i = p
    · subst e; simp [kRd, w3_eq] at h9
    · simp [kRd, w3_eq, e] at h9
      simpa [kRd, mRd, w3_eq, e] using this h9
  · have hbi : Bo s t i := by
      by_cases e : i = p
      · rw [e]; exact hb
      · exact h6 i hi (by simpa [kRd, w3_eq, e] using h9)
    obtain ⟨m, b0, b1, b2, b3, b4, b5, b6⟩ := hbi
    exact ⟨m, b0, by simpa [kRd, w3_eq] using b1, b2, by simpa [kRd, mRd, w3_eq] using b3, by simpa [kRd, mRd, w3_eq] using b4, b5, b6⟩
theorem rd_Q {s t : KS} {p : Nat} {q : List Nat} (hp : p < 16) (h : XQ s t q) (hq : p ∉ q) : XQ (kRd s p q.length) (mRd t p q.length) (q ++ [p]) := by
  obtain ⟨h1, h2, h3, h4, h5, h6⟩ := h
  refine ⟨?_, ?_, ?_, ?_, ?_, ?_⟩
  · rw [List.length_append]; rfl
  · rw [List.length_append]; rfl
  · have := h3.snoc (x := p)
    rw [Nat.zero_add] at this
    exact this
  · have := h4.snoc (x := p)
    rw [Nat.zero_add] at this
    exact this
  · rw [List.nodup_append]
    exact ⟨h5, by simp, fun a ha b hb => by simp at hb; subst hb; intro e; exact hq (e ▸ ha)⟩
  · intro i hi
    rcases List.mem_append.mp hi with h | h
    · exact h6 i h
    · simp at h; omega
theorem rd_B {s : KS} {p n : Nat} {q : List Nat} (h : XB s q) : XB (kRd s p n) (q ++ [p]) := by
  intro i hi
  have := h i hi
  by_cases e : i = p
  · subst e; simp [kRd, w3_eq]
  · simpa [kRd, w3_eq, e] using this
theorem rd_H {cp T p n : Nat} {s t : KS} (h : XH cp T s t) : XH cp T (kRd s p n) (mRd t p n) := h
theorem rd_F {s t : KS} {p n : Nat} (h : s 1 p 7 = 2 ∨ s 1 p 7 = 3) : Fr s (kRd s p n) t (mRd t p n) := by
  refine ⟨fun i k h7 h10 => ?_, rfl, rfl, rfl, rfl, rfl, rfl, fun k hk => ?_, rfl, fun i hi => ?_, fun k hk => ?_, rfl, rfl, rfl, rfl, rfl, rfl, rfl, rfl⟩
  · simp [kRd, w3_eq, h7, h10]
  · simp [kRd, w3_eq, hk]
  · by_cases e : i = p
    · subst e; exact Or.inr ⟨by simp [kRd, w3_eq], h⟩
    · exact Or.inl (by simp [kRd, w3_eq, e])
  · simp [mRd, w3_eq, hk]
theorem Fr.H {cp T : Nat} {s s' t t' : KS} (h : Fr s s' t t') (H : XH cp T s t) : XH cp T s' t' := by
  obtain ⟨h1, h2, h3, h4, h5, h6, h7, h8, h9, h10, h11, h12, h13, h14, h15, h16, h17, h18, h19⟩ := h
  obtain ⟨E, C, I, O, S⟩ := H
  refine ⟨?_, ?_, ?_, ?_, ?_⟩
  · unfold XE at *
    rw [h7, h15]
    exact E
  · unfold XC at *
    rw [h11 2 (by decide), h5, h6, h16, h17]
    exact C
  · unfold XI at *
    rw [h11 24 (by decide), h11 25 (by decide), h8 11 (by decide), h5, h6, h18]
    exact I
  · unfold XO at *
    rw [h11 27 (by decide), h8 13 (by decide), h5, h6, h19]
    exact O
  · unfold XS at *
    rw [h11 1 (by decide), h11 3 (by decide), h11 4 (by decide), h8 0 (by decide), h8 7 (by decide), h8 8 (by decide), h8 9 (by decide)]
    exact S
theorem Fr.F {s s' t t' : KS} (h : Fr s s' t t') (H : XF s t) : XF s' t' := by
  obtain ⟨h1, h2, h3, h4, h5, h6, h7, h8, h9, h10, h11, h12, h13, h14, h15, h16, h17, h18, h19⟩ := h
  unfold XF at *
  rw [h5, h15]
  exact H

/-! THE PURE PART: what the class and the reference do, side by side, over the two states of numbers -/
def EK (w : (KS → Prop) → Prop) (s' : KS) : Prop := ∀ Φ : KS → Prop, Φ s' → w Φ
def EI (w : (Int32 → KS → Prop) → Prop) (r : Int32) (s' : KS) : Prop := ∀ Φ : Int32 → KS → Prop, Φ r s' → w Φ
def EO (w : (Option Nat → KS → Prop) → Prop) (r : Option Nat) (s' : KS) : Prop := ∀ Φ : Option Nat → KS → Prop, Φ r s' → w Φ
theorem ur_e (f : KS) (a b : Nat) (r : Nat → Int32) (a' b' : Nat) : ur f a b r a' b' = if a' = a ∧ b' = b then r else f a' b' := rfl
theorem w3_e2 (f : KS) (a b k : Nat) (v : Int32) (a' b' : Nat) : w3 f a b k v a' b' = if a' = a ∧ b' = b then upd (f a b) k v else f a' b' := rfl
theorem upd_e (f : Nat → Int32) (k : Nat) (v : Int32) (j : Nat) : upd f k v j = if j = k then v else f j := rfl
theorem w3_ur (f : KS) (a b k : Nat) (v : Int32) : w3 f a b k v = ur f a b (upd (f a b) k v) := rfl
theorem ur_ur (f : KS) (a b : Nat) (r r' : Nat → Int32) : ur (ur f a b r) a b r' = ur f a b r' := by
  funext x y
  unfold ur
  by_cases h : x = a ∧ y = b
  · rw [if_pos h, if_pos h]
  · rw [if_neg h, if_neg h, if_neg h]
theorem ur_same (f : KS) (a b : Nat) : ur f a b (f a b) = f := by
  funext x y
  unfold ur
  by_cases h : x = a ∧ y = b
  · rw [if_pos h, h.1, h.2]
  · rw [if_neg h]
theorem ur_com (f : KS) {a b c d : Nat} (r r' : Nat → Int32) (hn : ¬ (a = c ∧ b = d)) : ur (ur f a b r) c d r' = ur (ur f c d r') a b r := by
  funext x y
  unfold ur
  by_cases h : x = a ∧ y = b
  · have h2 : ¬ (x = c ∧ y = d) := fun q => hn ⟨h.1.symm.trans q.1, h.2.symm.trans q.2⟩
    rw [if_neg h2, if_pos h, if_pos h]
  · rw [if_neg h, if_neg h]
theorem ix (c p k : Nat) : nI c * nI p + nI k = nI (c * p + k) := by rw [pk_mul, nI_add]
theorem cl {n : Nat} (h : n < 100000) : (nI n).toNatClampNeg = n := nI_clamp (by omega)
theorem vin {n N : Nat} (h : n < N) (hN : N < 100000) : vp_in (nI n) N := vp_in_nI h (by omega)
theorem vlit {n : Nat} (h : n < 100000) : nI n = Int32.ofNat n := rfl
/-! lists of numbers in an array -/
def AL (f : Nat → Int32) (b : Nat) (l : List Nat) : Prop := ∀ (k x : Nat), l[k]? = some x → f (b + k) = nI x
theorem AL.nil {f : Nat → Int32} {b : Nat} : AL f b [] := fun k x h => by simp at h
theorem AL.snoc {f : Nat → Int32} {b x : Nat} {l : List Nat} (h : AL f b l) : AL (upd f (b + l.length) (nI x)) b (l ++ [x]) := by
  intro k y hk
  rw [upd_e]
  by_cases e : k = l.length
  · subst e
    rw [if_pos rfl]
    simp at hk
    rw [hk]
  · rw [if_neg (by omega)]
    have hl : k < (l ++ [x]).length := (List.getElem?_eq_some_iff.mp hk).1
    rw [List.length_append] at hl
    simp at hl
    rw [List.getElem?_append_left (by omega)] at hk
    exact h k y hk
theorem AL.out {f : Nat → Int32} {b j : Nat} {v : Int32} {l : List Nat} (h : AL f b l) (hj : j < b ∨ b + l.length ≤ j) : AL (upd f j v) b l := by
  intro k y hk
  have hl := (List.getElem?_eq_some_iff.mp hk).1
  rw [upd_e, if_neg (by omega)]
  exact h k y hk
theorem AL.cg {f g : Nat → Int32} {b : Nat} {l : List Nat} (h : AL f b l) (e : ∀ k, k < l.length → g (b + k) = f (b + k)) : AL g b l := by
  intro k y hk
  rw [e k (List.getElem?_eq_some_iff.mp hk).1]
  exact h k y hk
/-! a list without one number, made in place -/
def FI (f : Nat → Int32) (b : Nat) (q : List Nat) (p i : Nat) (l : List Nat) : Prop := l = (q.take i).filter (fun x => decide (x ≠ p)) ∧ AL f b l ∧ ∀ k x, i ≤ k → q[k]? = some x → f (b + k) = nI x
theorem FI.init {f : Nat → Int32} {b p : Nat} {q : List Nat} (h : AL f b q) : FI f b q p 0 [] := ⟨by simp, AL.nil, fun k x _ hk => h k x hk⟩
theorem FI.len {f : Nat → Int32} {b p i : Nat} {q l : List Nat} (h : FI f b q p i l) : l.length ≤ i := by
  rw [h.1]
  exact Nat.le_trans (List.length_filter_le _ _) (by rw [List.length_take]; omega)
theorem FI.skip {f : Nat → Int32} {b p i : Nat} {q l : List Nat} (h : FI f b q p i l) (hx : q[i]? = some p) : FI f b q p (i + 1) l := by
  refine ⟨?_, h.2.1, fun k x hk => h.2.2 k x (by omega)⟩
  rw [List.take_add_one, hx, List.filter_append, ← h.1]
  simp
theorem FI.keep {f : Nat → Int32} {b p i x : Nat} {q l : List Nat} (h : FI f b q p i l) (hx : q[i]? = some x) (hn : x ≠ p) : FI (upd f (b + l.length) (nI x)) b q p (i + 1) (l ++ [x]) := by
  have hl := h.len
  refine ⟨?_, h.2.1.snoc, fun k y hk hy => ?_⟩
  · rw [List.take_add_one, hx, List.filter_append, ← h.1]
    simp [hn]
  · rw [upd_e, if_neg (by omega)]
    exact h.2.2 k y (by omega) hy
theorem FI.done {f : Nat → Int32} {b p : Nat} {q l : List Nat} (h : FI f b q p q.length l) : l = q.filter (fun x => decide (x ≠ p)) ∧ AL f b l := ⟨by rw [h.1, List.take_length], h.2.1⟩
/-! how many there can be -/
theorem nd_aux (n : Nat) : ∀ q : List Nat, q.Nodup → q.length ≤ (q.filter (fun x => decide (x ≠ n))).length + 1 := by
  intro q
  induction q with
  | nil => intro _; simp
  | cons a l ih =>
    intro hn
    rw [List.nodup_cons] at hn
    by_cases h : a = n
    · subst h
      have e : l.filter (fun x => decide (x ≠ a)) = l := by
        rw [List.filter_eq_self]
        intro x hx
        simp
        intro hxa
        exact hn.1 (hxa ▸ hx)
      simp only [List.filter_cons, ne_eq, not_true_eq_false, decide_false, List.length_cons]
      rw [e]
      simp
    · have := ih hn.2
      simp only [ne_eq] at this
      simp only [List.filter_cons, ne_eq, h, not_false_eq_true, decide_true, List.length_cons, if_true]
      omega
theorem nd_len : ∀ (n : Nat) (q : List Nat), q.Nodup → (∀ i ∈ q, i < n) → q.length ≤ n := by
  intro n
  induction n with
  | zero =>
    intro q _ h
    cases q with
    | nil => simp
    | cons a l => exact absurd (h a (by simp)) (by omega)
  | succ n ih =>
    intro q hn h
    have h1 := nd_aux n q hn
    have h2 := ih (q.filter (fun x => decide (x ≠ n))) (hn.filter _) (fun i hi => by
      rw [List.mem_filter] at hi
      have := h i hi.1
      have h3 : i ≠ n := by simpa using hi.2
      omega)
    omega
theorem nd_lt {n p : Nat} {q : List Nat} (hn : q.Nodup) (h : ∀ i ∈ q, i < n) (hp : p < n) (hq : p ∉ q) : q.length < n := by
  have := nd_len n (p :: q) (List.nodup_cons.mpr ⟨hq, hn⟩) (fun i hi => (List.mem_cons.mp hi).elim (fun e => e ▸ hp) (h i))
  simp at this
  omega
/-! how many of an array are so -/
def cnt (f : Nat → Int32) (x : Int32) : Nat → Nat
  | 0 => 0
  | n + 1 => cnt f x n + if f n = x then 1 else 0
theorem cnt_le (f : Nat → Int32) (x : Int32) : ∀ n, cnt f x n ≤ n := by
  intro n
  induction n with
  | zero => simp [cnt]
  | succ n ih => unfold cnt; split <;> omega
theorem cnt_cg {f g : Nat → Int32} {x : Int32} : ∀ {n : Nat}, (∀ k, k < n → f k = g k) → cnt f x n = cnt g x n := by
  intro n
  induction n with
  | zero => intro _; rfl
  | succ n ih => intro h; unfold cnt; rw [ih (fun k hk => h k (by omega)), h n (by omega)]
theorem cnt_upd {f : Nat → Int32} {x v : Int32} {k : Nat} : ∀ {n : Nat}, k < n → cnt (upd f k v) x n + (if f k = x then 1 else 0) = cnt f x n + (if v = x then 1 else 0) := by
  intro n
  induction n with
  | zero => intro h; omega
  | succ n ih =>
    intro h
    by_cases e : k = n
    · subst e
      unfold cnt
      rw [cnt_cg (f := upd f k v) (g := f) (n := k) (fun j hj => by rw [upd_e, if_neg (by omega)]), upd_e, if_pos rfl]
      omega
    · have := ih (by omega)
      have e2 : upd f k v n = f n := by rw [upd_e, if_neg (by omega)]
      unfold cnt
      rw [e2]
      omega
theorem cnt_pos {f : Nat → Int32} {x : Int32} {k : Nat} : ∀ {n : Nat}, k < n → f k = x → 0 < cnt f x n := by
  intro n
  induction n with
  | zero => intro h; omega
  | succ n ih =>
    intro h e
    unfold cnt
    by_cases hk : k = n
    · subst hk; rw [if_pos e]; omega
    · have := ih (by omega) e
      omega

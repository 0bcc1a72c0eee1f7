def kEnd2 (cp p : Nat) (x : Int32) (Φ : KS → Prop) (s1 : KS) : Prop := ((¬ (s1 1 p 6) = (-1 : Int32) → vp_in (s1 1 p 6) 16 ∧ ((¬ (s1 1 ((s1 1 p 6).toNatClampNeg) 7) = (4 : Int32) → w_K_end_95 cp p x Φ s1) ∧ ((s1 1 ((s1 1 p 6).toNatClampNeg) 7) = (4 : Int32) → vp_in (s1 1 p 6) 16 ∧ w_K_makeReady cp ((s1 1 p 6).toNatClampNeg) s1 (fun s4 => w_K_end_95 cp p x Φ s4)))) ∧ ((s1 1 p 6) = (-1 : Int32) → ∀ s5 : KS, s5 = w3 s1 1 p 7 (0 : Int32) → w_K_end_95 cp p x Φ s5))
def mEnd2 (x1 : Int32) (x2 : Int32) (Φ : KS → Prop) (s0 : KS) : Prop := ((x1 = 0 → ∃ nn : Nat, w_M_end_103 x1 x2 Φ nn (0 : Int32) (0 : Int32) (0 : Int32) s0) ∧ (¬ x1 = 0 → vp_in (0 : Int32) 16 ∧ (((s0 26 0 (0 : Int32).toNatClampNeg) = 0 → ∃ nn : Nat, w_M_end_103 x1 x2 Φ nn (0 : Int32) (0 : Int32) (0 : Int32) s0) ∧ (¬ (s0 26 0 (0 : Int32).toNatClampNeg) = 0 → vp_in (0 : Int32) 16 ∧ (((s0 26 0 (0 : Int32).toNatClampNeg) = (6 : Int32) → ∃ nn : Nat, w_M_end_103 x1 x2 Φ nn (0 : Int32) (0 : Int32) (0 : Int32) s0) ∧ (¬ (s0 26 0 (0 : Int32).toNatClampNeg) = (6 : Int32) → ∃ nn : Nat, w_M_end_103 x1 x2 Φ nn (1 : Int32) (0 : Int32) (0 : Int32) s0))))))
theorem cl_loop {cp T p : Nat} {x : Int32} (hp : p < 16) : ∀ (k d : Nat) (s t : KS) (q : List Nat) (row : Nat → List Nat), d + k = 8 → XY s t q row → XH cp T s t → XF s t → ∃ s' t' L row', (∀ Φ : KS → Prop, w_K_handOverChildren cp p s' (kEnd2 cp p x Φ) → w_K_end_23 cp p x Φ (k + 1) (nI d) s) ∧ (∀ Φ : KS → Prop, mEnd2 (nI p) x Φ t' → w_M_end_49 (nI p) x Φ (k + 1) (nI d) t) ∧ XY s' t' (q ++ L) row' ∧ XH cp T s' t' ∧ XF s' t' ∧ FB s s' t t' ∧ (∀ i e, e < 8 → s' 4 i e = if i = p ∧ d ≤ e then 0 else s 4 i e) := by
  intro k
  induction k with
  | zero =>
    intro d s t q row hk hY hH hF
    have hd : d = 8 := by omega
    subst hd
    refine ⟨s, t, [], row, fun Φ hΦ => ?_, fun Φ hΦ => ?_, by rw [List.append_nil]; exact hY, hH, hF, ⟨fun _ _ _ _ => rfl, rfl, rfl, fun _ _ => rfl, rfl, fun _ _ => Or.inl rfl, fun _ _ => rfl, rfl, rfl, rfl⟩, fun i e he => by rw [if_neg (by omega)]⟩
    · unfold w_K_end_23
      exact ⟨fun _ => hΦ, fun h => absurd (by decide) h⟩
    · unfold w_M_end_49
      exact ⟨fun _ => hΦ, fun h => absurd (by decide) h⟩
  | succ k ih =>
    intro d s t q row hk hY hH hF
    obtain ⟨s1, t1, L1, row1, k1, k2, k3, k4, k5, k6, k7⟩ := cl_pair hY hH hF hp (d := d) (by omega)
    obtain ⟨s', t', L, row', j1, j2, j3, j4, j5, j6, j7⟩ := ih (d + 1) s1 t1 _ _ (by omega) k3 k4 k5
    refine ⟨s', t', L1 ++ L, row', fun Φ hΦ => ?_, fun Φ hΦ => ?_, by rw [← List.append_assoc]; exact j3, j4, j5, k6.trans j6, fun i e he => ?_⟩
    · unfold w_K_end_23
      refine ⟨fun h => absurd h (nI_ge (b := 8) (by omega) (by omega)), fun _ => ?_⟩
      refine k1 _ (fun y ey => ?_)
      rw [ey, nI_1]
      exact j1 Φ hΦ
    · unfold w_M_end_49
      refine ⟨fun h => absurd h (nI_ge (b := 8) (by omega) (by omega)), fun _ => ?_⟩
      refine k2 _ (fun y ey => ?_)
      rw [ey, nI_1]
      exact j2 Φ hΦ
    · rw [j7 i e he, k7 i e]
      by_cases hi : i = p
      · by_cases h1 : d + 1 ≤ e
        · rw [if_pos ⟨hi, h1⟩, if_pos ⟨hi, by omega⟩]
        · by_cases h2 : e = d
          · rw [if_neg (fun g => h1 g.2), if_pos ⟨hi, h2⟩, if_pos ⟨hi, by omega⟩]
          · rw [if_neg (fun g => h1 g.2), if_neg (fun g => h2 g.2), if_neg (fun g => by omega)]
      · rw [if_neg (fun g => hi g.1), if_neg (fun g => hi g.1), if_neg (fun g => hi g.1)]
/-! children are handed over -/
def isC (s : KS) (p c : Nat) : Prop := ¬ s 1 c 7 = 0 ∧ s 1 c 6 = nI p
def hoV (ad : Bool) : Int32 := if ad then 0 else -1
/-- the first i of them seen -/
def kHo (s : KS) (p : Nat) (ad : Bool) (i : Nat) (s' : KS) : Prop := (∀ a, a ≠ 1 → s' a = s a) ∧ (∀ c k, k ≠ 6 → k ≠ 7 → s' 1 c k = s 1 c k) ∧ (∀ c, ¬ (c < i ∧ isC s p c) → s' 1 c 6 = s 1 c 6 ∧ s' 1 c 7 = s 1 c 7) ∧ (∀ c, c < i → isC s p c → s' 1 c 6 = hoV ad ∧ s' 1 c 7 = if ad = false ∧ s 1 c 7 = 6 then 0 else s 1 c 7)
def mHo (s t : KS) (p : Nat) (ad : Bool) (i : Nat) (t' : KS) : Prop := (∀ a, a ≠ 26 → a ≠ 32 → t' a = t a) ∧ (∀ c, ¬ (c < i ∧ isC s p c) → t' 32 0 c = t 32 0 c ∧ t' 26 0 c = t 26 0 c) ∧ (∀ c, c < i → isC s p c → t' 32 0 c = hoV ad ∧ t' 26 0 c = if ad = false ∧ s 1 c 7 = 6 then 0 else t 26 0 c)
theorem kHo_skip {s s' : KS} {p i : Nat} {ad : Bool} (h : kHo s p ad i s') (hn : ¬ isC s p i) : kHo s p ad (i + 1) s' := by
  obtain ⟨h1, h2, h3, h4⟩ := h
  refine ⟨h1, h2, fun c hc => h3 c (fun g => hc ⟨by omega, g.2⟩), fun c hc g => h4 c ?_ g⟩
  apply Nat.lt_of_le_of_ne (by omega)
  intro e
  subst e
  exact hn g
theorem kHo_take {s s' : KS} {p i : Nat} {ad : Bool} (h : kHo s p ad i s') (hc : isC s p i) (s'' : KS) (e : s'' = if ad = false ∧ s 1 i 7 = 6 then w3 (w3 s' 1 i 6 (hoV ad)) 1 i 7 0 else w3 s' 1 i 6 (hoV ad)) : kHo s p ad (i + 1) s'' := by
  obtain ⟨h1, h2, h3, h4⟩ := h
  have hi7 := (h3 i (by omega)).2
  by_cases hb : ad = false ∧ s 1 i 7 = 6
  · rw [if_pos hb] at e
    subst e
    refine ⟨fun a ha => ?_, fun c k k6 k7 => ?_, fun c hn => ?_, fun c hc9 g => ?_⟩
    · funext b k
      rw [w3_eq, w3_eq, if_neg (fun g => ha g.1), if_neg (fun g => ha g.1), h1 a ha]
    · rw [w3_eq, w3_eq, if_neg (fun g => k7 g.2.2), if_neg (fun g => k6 g.2.2)]; exact h2 c k k6 k7
    · have ne : c ≠ i := fun e => hn ⟨by omega, e ▸ hc⟩
      have := h3 c (fun g => hn ⟨by omega, g.2⟩)
      simpa [w3_eq, ne] using this
    · by_cases e : c = i
      · subst e
        rw [if_pos hb]
        simp [w3_eq]
      · have := h4 c (by omega) g
        simpa [w3_eq, e] using this
  · rw [if_neg hb] at e
    subst e
    refine ⟨fun a ha => ?_, fun c k k6 k7 => ?_, fun c hn => ?_, fun c hc9 g => ?_⟩
    · funext b k
      rw [w3_eq, if_neg (fun g => ha g.1), h1 a ha]
    · rw [w3_eq, if_neg (fun g => k6 g.2.2)]; exact h2 c k k6 k7
    · have ne : c ≠ i := fun e => hn ⟨by omega, e ▸ hc⟩
      have := h3 c (fun g => hn ⟨by omega, g.2⟩)
      simpa [w3_eq, ne] using this
    · by_cases e : c = i
      · subst e
        rw [if_neg hb]
        simp [w3_eq, hi7]
      · have := h4 c (by omega) g
        simpa [w3_eq, e] using this
theorem mHo_skip {s t t' : KS} {p i : Nat} {ad : Bool} (h : mHo s t p ad i t') (hn : ¬ isC s p i) : mHo s t p ad (i + 1) t' := by
  obtain ⟨h1, h3, h4⟩ := h
  refine ⟨h1, fun c hc => h3 c (fun g => hc ⟨by omega, g.2⟩), fun c hc g => h4 c ?_ g⟩
  apply Nat.lt_of_le_of_ne (by omega)
  intro e
  subst e
  exact hn g
theorem mHo_take {s t t' : KS} {p i : Nat} {ad : Bool} (h : mHo s t p ad i t') (hc : isC s p i) (t'' : KS) (e : t'' = w3 (w3 t' 32 0 i (hoV ad)) 26 0 i (if ad = false ∧ s 1 i 7 = 6 then 0 else t 26 0 i)) : mHo s t p ad (i + 1) t'' := by
  obtain ⟨h1, h3, h4⟩ := h
  subst e
  refine ⟨fun a ha hb => ?_, fun c hn => ?_, fun c hc9 g => ?_⟩
  · funext b k
    rw [w3_eq, w3_eq, if_neg (fun g => ha g.1), if_neg (fun g => hb g.1), h1 a ha hb]
  · have ne : c ≠ i := fun e => hn ⟨by omega, e ▸ hc⟩
    have := h3 c (fun g => hn ⟨by omega, g.2⟩)
    simpa [w3_eq, ne] using this
  · by_cases e : c = i
    · subst e
      simp [w3_eq]
    · have := h4 c (by omega) g
      simpa [w3_eq, e] using this

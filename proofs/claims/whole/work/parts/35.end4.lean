theorem ek_endedChild {cp p : Nat} {s : KS} (hn : s 1 p 0 = nI p) : ∃ o, EO (w_K_endedChild cp p s) o s ∧ ((o = none ∧ ∀ c, c < 16 → ¬ (isC s p c ∧ s 1 c 7 = 6)) ∨ ∃ c, c < 16 ∧ o = some c ∧ isC s p c ∧ s 1 c 7 = 6 ∧ ∀ j, j < c → ¬ (isC s p j ∧ s 1 j 7 = 6)) := by
  have key : ∃ n, ∃ o, ((o = none ∧ ∀ c, c < 16 → ¬ (isC s p c ∧ s 1 c 7 = 6)) ∨ ∃ c, c < 16 ∧ o = some c ∧ isC s p c ∧ s 1 c 7 = 6 ∧ ∀ j, j < c → ¬ (isC s p j ∧ s 1 j 7 = 6)) ∧ ∀ Φ : Option Nat → KS → Prop, Φ o s → w_K_endedChild_2 cp p Φ n (nI 0) s := by
    refine pk_loop (fun n i (_ : Unit) => ∃ o, ((o = none ∧ ∀ c, c < 16 → ¬ (isC s p c ∧ s 1 c 7 = 6)) ∨ ∃ c, c < 16 ∧ o = some c ∧ isC s p c ∧ s 1 c 7 = 6 ∧ ∀ j, j < c → ¬ (isC s p j ∧ s 1 j 7 = 6)) ∧ ∀ Φ : Option Nat → KS → Prop, Φ o s → w_K_endedChild_2 cp p Φ n (nI i) s) (fun i _ => ∀ j, j < i → ¬ (isC s p j ∧ s 1 j 7 = 6)) 16 0 () (by omega) (fun j hj => by omega) ?_ ?_
    · intro n _ h
      refine ⟨none, Or.inl ⟨rfl, h⟩, fun Φ hΦ => ?_⟩
      unfold w_K_endedChild_2
      exact ⟨fun _ => hΦ, fun h => absurd (by decide) h⟩
    · intro n i _ hi h hnext
      have ci : (nI i).toNatClampNeg = i := cl (by omega)
      by_cases hc : isC s p i ∧ s 1 i 7 = 6
      · refine ⟨some i, Or.inr ⟨i, hi, rfl, hc.1, hc.2, h⟩, fun Φ hΦ => ?_⟩
        unfold w_K_endedChild_2 w_P_isChildOf
        rw [ci, hn]
        refine ⟨fun h => absurd h (nI_ge (b := 16) hi (by omega)), fun _ => ⟨vin hi (by omega), fun g => absurd g hc.1.1, fun _ => ⟨fun g => absurd hc.1.2 g, fun _ => ⟨fun g => absurd g (by decide), fun _ => ⟨vin hi (by omega), fun g => absurd hc.2 g, fun _ => ⟨vin hi (by omega), hΦ⟩⟩⟩⟩⟩⟩
      · obtain ⟨o, f1, f2⟩ := hnext () (fun j hj => by
          by_cases e : j = i
          · subst e; exact hc
          · exact h j (by omega))
        refine ⟨o, f1, fun Φ hΦ => ?_⟩
        unfold w_K_endedChild_2 w_P_isChildOf
        rw [ci, hn]
        refine ⟨fun h => absurd h (nI_ge (b := 16) hi (by omega)), fun _ => ⟨vin hi (by omega), fun g => ⟨fun _ y ey => ?_, fun g => absurd rfl g⟩, fun g0 => ⟨fun g => ⟨fun _ y ey => ?_, fun g => absurd rfl g⟩, fun g => ⟨fun k => absurd k (by decide), fun _ => ⟨vin hi (by omega), fun g6 y ey => ?_, fun g6 => absurd ⟨⟨g0, g⟩, g6⟩ hc⟩⟩⟩⟩⟩
        · rw [ey, nI_1]; exact f2 Φ hΦ
        · rw [ey, nI_1]; exact f2 Φ hΦ
        · rw [ey, nI_1]; exact f2 Φ hΦ
  obtain ⟨n, o, h1, h2⟩ := key
  exact ⟨o, fun Φ hΦ => ⟨n, h2 Φ hΦ⟩, h1⟩
theorem H_cg {cp T : Nat} {s s' t t' : KS} (h : ∀ a, a ≠ 1 → s' a = s a) (g : ∀ a, a ≠ 26 → a ≠ 32 → t' a = t a) (H : XH cp T s t) : XH cp T s' t' := by
  obtain ⟨E, C, I, O, S⟩ := H
  unfold XH XE XC XI XO XS at *
  rw [h 0 (by decide), h 5 (by decide), h 6 (by decide), h 7 (by decide), g 20 (by decide) (by decide), g 31 (by decide) (by decide), g 41 (by decide) (by decide), g 42 (by decide) (by decide), g 43 (by decide) (by decide), g 46 (by decide) (by decide)]
  exact ⟨E, C, I, O, S⟩
theorem F_cg {s s' t t' : KS} (h : ∀ a, a ≠ 1 → s' a = s a) (g : ∀ a, a ≠ 26 → a ≠ 32 → t' a = t a) (H : XF s t) : XF s' t' := by
  unfold XF at *
  rw [h 5 (by decide), g 31 (by decide) (by decide)]
  exact H
theorem ho_Y {s t s' t' : KS} {p : Nat} {ad : Bool} {q : List Nat} {row : Nat → List Nat} (h : XY s t q row) (hk : kHo s p ad 16 s') (hm : mHo s t p ad 16 t') : XY s' t' q row := by
  obtain ⟨⟨h1, h2, h3, h4, h5, h6⟩, hQ, hB, hR⟩ := h
  obtain ⟨k1, k2, k3, k4⟩ := hk
  obtain ⟨m1, m3, m4⟩ := hm
  -- states
  have st : ∀ i, i < 16 → (s' 1 i 7 = s 1 i 7 ∨ (s' 1 i 7 = 0 ∧ s 1 i 7 = 6)) := by
    intro i hi
    by_cases c : isC s p i
    · have := (k4 i hi c).2
      by_cases b : ad = false ∧ s 1 i 7 = 6
      · rw [if_pos b] at this; exact Or.inr ⟨this, b.2⟩
      · rw [if_neg b] at this; exact Or.inl this
    · exact Or.inl (k3 i (fun g => c g.2)).2
  refine ⟨⟨fun i hi => ?_, fun i hi => ?_, fun i hi => ?_, fun i hi h9 => ?_, fun i hi d hd => ?_, fun i hi h9 => ?_⟩, ?_, fun i hi => ?_, fun r hr => ?_, fun i hi => ?_⟩
  · rw [k2 i 0 (by decide) (by decide)]; exact h1 i hi
  · by_cases c : isC s p i
    · rw [(k4 i hi c).2, (m4 i hi c).2, h2 i hi]
    · rw [(k3 i (fun g => c g.2)).2, (m3 i (fun g => c g.2)).2, h2 i hi]
  · rw [m1 34 (by decide) (by decide), h3 i hi, k2 i 9 (by decide) (by decide)]
    rcases st i hi with g | ⟨g, g6⟩
    · rw [g]
    · rw [g, g6]; rfl
  · rcases st i hi with g | ⟨g, g6⟩
    · rw [g] at h9
      rw [m1 33 (by decide) (by decide), k2 i 8 (by decide) (by decide)]
      exact h4 i hi h9
    · rw [g] at h9; exact absurd h9 (by decide)
  · rw [m1 31 (by decide) (by decide), k1 4 (by decide)]
    exact h5 i hi d hd
  · have h0 : ¬ s 1 i 7 = 0 := by
      rcases st i hi with g | ⟨g, g6⟩
      · rw [g] at h9; exact h9
      · exact absurd g h9
    obtain ⟨m, b0, b1, b2, b3, b4, b5, b6⟩ := h6 i hi h0
    refine ⟨m, b0, by rw [k2 i 4 (by decide) (by decide)]; exact b1, by rw [m1 29 (by decide) (by decide)]; exact b2, by rw [m1 30 (by decide) (by decide), k2 i 5 (by decide) (by decide)]; exact b3, ?_, by rw [m1 27 (by decide) (by decide), k1 2 (by decide)]; exact b5, by rw [m1 28 (by decide) (by decide), k1 3 (by decide)]; exact b6⟩
    by_cases c : isC s p i
    · rw [(k4 i hi c).1, (m4 i hi c).1]
    · rw [(k3 i (fun g => c g.2)).1, (m3 i (fun g => c g.2)).1, b4]
  · unfold XQ at *
    rw [k1 0 (by decide), k1 8 (by decide), m1 20 (by decide) (by decide), m1 35 (by decide) (by decide)]
    exact hQ
  · rw [hB i hi]
    rcases st i hi with g | ⟨g, g6⟩
    · rw [g]
    · rw [g, g6]; decide
  · have e11 : ∀ i, s' 1 i 11 = s 1 i 11 := fun i => k2 i 11 (by decide) (by decide)
    have e10 : ∀ i, s' 1 i 10 = s 1 i 10 := fun i => k2 i 10 (by decide) (by decide)
    have := hR.1 r hr
    rw [m1 39 (by decide) (by decide), m1 40 (by decide) (by decide), k1 0 (by decide)]
    simp only [e11, e10]
    exact this
  · rw [k2 i 10 (by decide) (by decide), k1 0 (by decide)]
    rcases hR.2 i hi with g | ⟨g, g2⟩
    · exact Or.inl g
    · refine Or.inr ⟨g, ?_⟩
      rcases st i hi with e | ⟨e, e6⟩
      · rw [e]; exact g2
      · rw [e6] at g2
        rcases g2 with g2 | g2 <;> exact absurd g2 (by decide)
theorem rd_Y {s t : KS} {p : Nat} {q : List Nat} {row : Nat → List Nat} (h : XY s t q row) (hp : p < 16) (hq : p ∉ q) (hw : s 1 p 10 = -1) (hb : Bo s t p) : XY (kRd s p q.length) (mRd t p q.length) (q ++ [p]) row := by
  obtain ⟨hP, hQ, hB, hR⟩ := h
  refine ⟨rd_P hp hP hb, rd_Q hp hQ hq, rd_B hB, fun r hr => ?_, fun i hi => ?_⟩
  · obtain ⟨g1, g2, g3, g4, g5⟩ := hR.1 r hr
    refine ⟨g1, g2, ?_, fun i => ?_, fun i hi => ?_⟩
    · refine g3.imp (fun {a b} hab => ?_)
      simpa [kRd, w3_eq] using hab
    · have := g4 i
      by_cases ei : i = p
      · subst ei
        rw [hw] at this
        simpa [kRd, w3_eq] using this
      · simpa [kRd, w3_eq, ei] using this
    · have := g5 i hi
      simpa [kRd, w3_eq] using this
  · by_cases ei : i = p
    · subst ei; left; simp [kRd, w3_eq]
    · have := hR.2 i hi
      simpa [kRd, w3_eq, ei] using this
theorem XY.free {s t : KS} {p : Nat} {q : List Nat} {row : Nat → List Nat} (h : XY s t q row) (hp : p < 16) (h1 : ¬ s 1 p 7 = 1) : p ∉ q := fun hq => h1 ((h.2.2.1 p hp).mp hq)
theorem XY.norow {s t : KS} {p : Nat} {q : List Nat} {row : Nat → List Nat} (h : XY s t q row) (hp : p < 16) (h2 : ¬ s 1 p 7 = 2) (h3 : ¬ s 1 p 7 = 3) : s 1 p 10 = -1 := by
  rcases h.2.2.2.2 p hp with g | ⟨-, g | g⟩
  · exact g
  · exact absurd g h2
  · exact absurd g h3
/-- one that waited for a child goes on, on both sides -/
theorem rd_pair {cp T p : Nat} {s t : KS} {q : List Nat} {row : Nat → List Nat} (h : XY s t q row) (hH : XH cp T s t) (hF : XF s t) (hp : p < 16) (h1 : ¬ s 1 p 7 = 1) (h2 : ¬ s 1 p 7 = 2) (h3 : ¬ s 1 p 7 = 3) (h0 : ¬ s 1 p 7 = 0) : EK (w_K_makeReady cp p s) (kRd s p q.length) ∧ EK (w_M_ready (nI p) t) (mRd t p q.length) ∧ XY (kRd s p q.length) (mRd t p q.length) (q ++ [p]) row ∧ XH cp T (kRd s p q.length) (mRd t p q.length) ∧ XF (kRd s p q.length) (mRd t p q.length) := by
  have hq := h.free hp h1
  have hl := h.2.1.lt hp hq
  exact ⟨ek_makeReady h.2.1.1 hl (h.1.1 p hp), em_ready h.2.1.2.1 hl hp, rd_Y h hp hq (h.norow hp h2 h3) (h.1.2.2.2.2.2 p hp h0), hH, hF⟩
def Z (s : KS) (T : Nat) : Prop := (∀ i, i < 16 → (s 1 i 7 = 0 ∨ s 1 i 7 = 6) → ∀ d, d < 8 → s 4 i d = 0) ∧ (∀ i, i < 16 → ¬ s 1 i 7 = 0 → s 1 i 6 = -1 ∨ ∃ j, j < 16 ∧ s 1 i 6 = nI j ∧ ¬ s 1 j 7 = 0 ∧ ¬ s 1 j 7 = 6) ∧ (∀ i, i < 16 → s 1 i 7 = 4 → ∀ c, c < 16 → ¬ (s 1 c 7 = 6 ∧ s 1 c 6 = nI i)) ∧ (∀ i, i < 16 → s 1 i 7 = 5 → nI T < s 1 i 9)

theorem view {s t : KS} {p : Nat} {q : List Nat} {row : Nat → List Nat} (h : XY s t q row) (hp : p < 16) (h0 : ¬ s 1 p 7 = 0) : ∃ L pl m, L.length ≤ 32 ∧ KV s p L pl m ∧ MV t p L pl m := by
  obtain ⟨n, b0, b1, b2, b3, b4, b5, b6⟩ := h.1.2.2.2.2.2 p hp h0
  have hlen : ((List.range n).map (s 3 p)).length = n := by simp
  have hget : ∀ k v, ((List.range n).map (s 3 p))[k]? = some v → k < n ∧ s 3 p k = v := by
    intro k v hk
    have hk2 : k < n := by have := (List.getElem?_eq_some_iff.mp hk).1; rwa [hlen] at this
    refine ⟨hk2, ?_⟩
    rw [List.getElem?_map, List.getElem?_range hk2] at hk
    simpa using hk
  refine ⟨(List.range n).map (s 3 p), s 1 p 5, s 2 p, by omega, ⟨by rw [hlen]; exact b1, fun k v hk => (hget k v hk).2, rfl, fun k hk => rfl⟩, ⟨by rw [hlen]; exact b2, fun k v hk => ?_, b3, fun k hk => b5 k hk⟩⟩
  obtain ⟨hk2, e⟩ := hget k v hk
  rw [b6 k hk2]; exact e
theorem du_Yn {s s' t t' : KS} {p : Nat} {q : List Nat} {row : Nat → List Nat} {L : List Int32} {pl : Int32} {m : Nat → Int32} (h : XY s t q row) (hp : p < 16) (kf : KF p s s') (mf : MF p t t') (kv : KV s' p L pl m) (mv : MV t' p L pl m) (hl : L.length ≤ 32) : XY s' t' q row := by
  obtain ⟨⟨h1, h2, h3, h4, h5, h6⟩, hQ, hB, hR⟩ := h
  obtain ⟨f1, f2, f3⟩ := kf
  obtain ⟨g1, g2, g3, g4⟩ := mf
  have fk : ∀ i k, k ≠ 4 → k ≠ 5 → s' 1 i k = s 1 i k := fun i k k4 k5 => f2 i k (fun g => by rcases g.2 with g | g; exact k4 g; exact k5 g)
  have e7 : ∀ i, s' 1 i 7 = s 1 i 7 := fun i => fk i 7 (by decide) (by decide)
  have e10 : ∀ i, s' 1 i 10 = s 1 i 10 := fun i => fk i 10 (by decide) (by decide)
  have e11 : ∀ i, s' 1 i 11 = s 1 i 11 := fun i => fk i 11 (by decide) (by decide)
  refine ⟨⟨fun i hi => ?_, fun i hi => ?_, fun i hi => ?_, fun i hi h9 => ?_, fun i hi d hd => ?_, fun i hi h9 => ?_⟩, ?_, fun i hi => ?_, fun r hr => ?_, fun i hi => ?_⟩
  · rw [fk i 0 (by decide) (by decide)]; exact h1 i hi
  · rw [g1 26 (by decide) (by decide) (by decide) (by decide), e7]; exact h2 i hi
  · rw [g1 34 (by decide) (by decide) (by decide) (by decide), e7, fk i 9 (by decide) (by decide)]; exact h3 i hi
  · rw [e7] at h9
    rw [g1 33 (by decide) (by decide) (by decide) (by decide), fk i 8 (by decide) (by decide)]; exact h4 i hi h9
  · rw [g1 31 (by decide) (by decide) (by decide) (by decide), f1 4 (by decide) (by decide) (by decide)]; exact h5 i hi d hd
  · rw [e7] at h9
    obtain ⟨n, b0, b1, b2, b3, b4, b5, b6⟩ := h6 i hi h9
    by_cases e : i = p
    · subst e
      refine ⟨L.length, hl, kv.1, mv.1, by rw [mv.2.2.1, kv.2.2.1], ?_, fun k hk => by rw [mv.2.2.2 k hk, kv.2.2.2 k hk], fun k hk => ?_⟩
      · rw [g1 32 (by decide) (by decide) (by decide) (by decide), fk i 6 (by decide) (by decide)]; exact b4
      · have hk' := List.getElem?_eq_getElem hk
        rw [mv.2.1 k _ hk', kv.2.1 k _ hk']
    · refine ⟨n, b0, ?_, ?_, ?_, ?_, fun k hk => ?_, fun k hk => ?_⟩
      · rw [f2 i 4 (fun g => e g.1)]; exact b1
      · rw [(g4 i e).1]; exact b2
      · rw [(g4 i e).2, f2 i 5 (fun g => e g.1)]; exact b3
      · rw [g1 32 (by decide) (by decide) (by decide) (by decide), fk i 6 (by decide) (by decide)]; exact b4
      · rw [g2 _ (by omega), (f3 i e).1]; exact b5 k hk
      · rw [g3 _ (by omega), (f3 i e).2]; exact b6 k hk
  · unfold XQ at *
    rw [f1 0 (by decide) (by decide) (by decide), f1 8 (by decide) (by decide) (by decide), g1 20 (by decide) (by decide) (by decide) (by decide), g1 35 (by decide) (by decide) (by decide) (by decide)]
    exact hQ
  · rw [e7]; exact hB i hi
  · have := hR.1 r hr
    rw [g1 39 (by decide) (by decide) (by decide) (by decide), g1 40 (by decide) (by decide) (by decide) (by decide), f1 0 (by decide) (by decide) (by decide)]
    simp only [e11, e10]
    exact this
  · rw [e10, e7, f1 0 (by decide) (by decide) (by decide)]; exact hR.2 i hi
theorem du_Y {s s' t t' : KS} {p : Nat} {q : List Nat} {row : Nat → List Nat} {L : List Int32} {pl : Int32} {m : Nat → Int32} (h : XY s t q row) (hp : p < 16) (_h0 : ¬ s 1 p 7 = 0) (kf : KF p s s') (mf : MF p t t') (kv : KV s' p L pl m) (mv : MV t' p L pl m) (hl : L.length ≤ 32) : XY s' t' q row := du_Yn h hp kf mf kv mv hl
theorem du_H {cp T p : Nat} {s s' t t' : KS} (kf : KF p s s') (mf : MF p t t') (H : XH cp T s t) : XH cp T s' t' := by
  obtain ⟨E, C, I, O, S⟩ := H
  have h : ∀ a, a ≠ 1 → a ≠ 2 → a ≠ 3 → s' a = s a := kf.1
  have g : ∀ a, a ≠ 27 → a ≠ 28 → a ≠ 29 → a ≠ 30 → t' a = t a := mf.1
  unfold XH XE XC XI XO XS at *
  rw [h 0 (by decide) (by decide) (by decide), h 5 (by decide) (by decide) (by decide), h 6 (by decide) (by decide) (by decide), h 7 (by decide) (by decide) (by decide), g 20 (by decide) (by decide) (by decide) (by decide), g 31 (by decide) (by decide) (by decide) (by decide), g 41 (by decide) (by decide) (by decide) (by decide), g 42 (by decide) (by decide) (by decide) (by decide), g 43 (by decide) (by decide) (by decide) (by decide), g 46 (by decide) (by decide) (by decide) (by decide)]
  exact ⟨E, C, I, O, S⟩
theorem du_F {p : Nat} {s s' t t' : KS} (kf : KF p s s') (mf : MF p t t') (H : XF s t) : XF s' t' := by
  unfold XF at *
  rw [kf.1 5 (by decide) (by decide) (by decide), mf.1 31 (by decide) (by decide) (by decide) (by decide)]
  exact H
theorem du_Z {p T : Nat} {s s' : KS} (kf : KF p s s') (H : Z s T) : Z s' T := by
  have fk : ∀ i k, k ≠ 4 → k ≠ 5 → s' 1 i k = s 1 i k := fun i k k4 k5 => kf.2.1 i k (fun g => by rcases g.2 with g | g; exact k4 g; exact k5 g)
  have e7 : ∀ i, s' 1 i 7 = s 1 i 7 := fun i => fk i 7 (by decide) (by decide)
  have e6 : ∀ i, s' 1 i 6 = s 1 i 6 := fun i => fk i 6 (by decide) (by decide)
  have e9 : ∀ i, s' 1 i 9 = s 1 i 9 := fun i => fk i 9 (by decide) (by decide)
  unfold Z at *
  simp only [e7, e6, e9]
  rw [kf.1 4 (by decide) (by decide) (by decide)]
  exact H
/-! how many words a kind looks at, and pushes -/
def lkB (x0 : Int32) : Int32 := if x0 = 4 then 2 else if ¬ x0 < 5 ∧ x0 ≤ 16 then 2 else if x0 = 21 then 2 else if x0 = 33 then 2 else if x0 = 2 ∨ x0 = 3 ∨ x0 = 17 ∨ x0 = 19 ∨ x0 = 20 ∨ x0 = 23 ∨ x0 = 25 ∨ x0 = 30 ∨ x0 = 34 ∨ x0 = 37 ∨ x0 = 39 ∨ x0 = 40 ∨ x0 = 41 then 1 else if x0 ≤ 25 then 0 else if x0 < 30 then -1 else if 41 < x0 then -1 else 0
theorem em_looks16 {x : Int32} {t : KS} {Φ : Int32 → KS → Prop} (h4 : ¬ x = 4) (h5 : ¬ (¬ x < 5 ∧ x ≤ 16)) (h : Φ (lkB x) t) : w_M_looks_16 x Φ t := by
  unfold lkB at h
  rw [if_neg h4, if_neg h5] at h
  unfold w_M_looks_16
  by_cases c21 : x = 21
  · subst c21; exact ⟨fun _ => h, fun g => absurd rfl g⟩
  refine ⟨fun g => absurd g c21, fun _ => ?_⟩
  rw [if_neg c21] at h
  by_cases c33 : x = 33
  · subst c33; exact ⟨fun g => absurd rfl g, fun _ => h⟩
  refine ⟨fun _ => ?_, fun g => absurd g c33⟩
  rw [if_neg c33] at h
  by_cases c2 : x = 2
  · rw [if_pos (by simp [c2])] at h; exact ⟨fun _ => h, fun g => absurd c2 g⟩
  refine ⟨fun g => absurd g c2, fun _ => ?_⟩
  by_cases c3 : x = 3
  · rw [if_pos (by simp [c3])] at h; exact ⟨fun _ => h, fun g => absurd c3 g⟩
  refine ⟨fun g => absurd g c3, fun _ => ?_⟩
  by_cases c17 : x = 17
  · rw [if_pos (by simp [c17])] at h; exact ⟨fun _ => h, fun g => absurd c17 g⟩
  refine ⟨fun g => absurd g c17, fun _ => ?_⟩
  by_cases c19 : x = 19
  · rw [if_pos (by simp [c19])] at h; exact ⟨fun _ => h, fun g => absurd c19 g⟩
  refine ⟨fun g => absurd g c19, fun _ => ?_⟩
  by_cases c20 : x = 20
  · rw [if_pos (by simp [c20])] at h; exact ⟨fun _ => h, fun g => absurd c20 g⟩
  refine ⟨fun g => absurd g c20, fun _ => ?_⟩
  by_cases c23 : x = 23
  · rw [if_pos (by simp [c23])] at h; exact ⟨fun _ => h, fun g => absurd c23 g⟩
  refine ⟨fun g => absurd g c23, fun _ => ?_⟩
  by_cases c25 : x = 25
  · rw [if_pos (by simp [c25])] at h; exact ⟨fun _ => h, fun g => absurd c25 g⟩
  refine ⟨fun g => absurd g c25, fun _ => ?_⟩
  by_cases c30 : x = 30
  · rw [if_pos (by simp [c30])] at h; exact ⟨fun _ => h, fun g => absurd c30 g⟩
  refine ⟨fun g => absurd g c30, fun _ => ?_⟩
  by_cases c34 : x = 34
  · rw [if_pos (by simp [c34])] at h; exact ⟨fun _ => h, fun g => absurd c34 g⟩
  refine ⟨fun g => absurd g c34, fun _ => ?_⟩
  by_cases c37 : x = 37
  · rw [if_pos (by simp [c37])] at h; exact ⟨fun _ => h, fun g => absurd c37 g⟩
  refine ⟨fun g => absurd g c37, fun _ => ?_⟩
  by_cases c39 : x = 39
  · rw [if_pos (by simp [c39])] at h; exact ⟨fun _ => h, fun g => absurd c39 g⟩
  refine ⟨fun g => absurd g c39, fun _ => ?_⟩
  by_cases c40 : x = 40
  · rw [if_pos (by simp [c40])] at h; exact ⟨fun _ => h, fun g => absurd c40 g⟩
  refine ⟨fun g => absurd g c40, fun _ => ?_⟩
  by_cases c41 : x = 41
  · rw [if_pos (by simp [c41])] at h; exact ⟨fun g => absurd c41 g, fun _ => h⟩
  refine ⟨fun _ => ?_, fun g => absurd g c41⟩
  rw [if_neg (by simp [c2, c3, c17, c19, c20, c23, c25, c30, c34, c37, c39, c40, c41])] at h
  by_cases d25 : x ≤ 25
  · rw [if_pos d25] at h; exact ⟨fun _ => h, fun g => absurd d25 g⟩
  refine ⟨fun g => absurd g d25, fun _ => ?_⟩
  rw [if_neg d25] at h
  by_cases d30 : x < 30
  · rw [if_pos d30] at h; exact ⟨fun _ => h, fun g => absurd d30 g⟩
  refine ⟨fun g => absurd g d30, fun _ => ?_⟩
  rw [if_neg d30] at h
  by_cases d41 : 41 < x
  · rw [if_pos d41] at h; exact ⟨fun _ => h, fun g => absurd d41 g⟩
  rw [if_neg d41] at h
  exact ⟨fun g => absurd g d41, fun _ => h⟩
theorem em_looks {x : Int32} {t : KS} : EI (w_M_looks x t) (lkB x) t := by
  intro Φ h
  have h' := h
  unfold lkB at h
  unfold w_M_looks
  by_cases c4 : x = 4
  · rw [if_pos c4] at h; exact ⟨fun _ => h, fun g => absurd c4 g⟩
  rw [if_neg c4] at h
  refine ⟨fun g => absurd g c4, fun _ => ⟨fun g => em_looks16 c4 (fun k => k.1 g) h', fun g => ⟨fun g2 => ?_, fun g2 => em_looks16 c4 (fun k => g2 k.2) h'⟩⟩⟩
  rw [if_pos ⟨g, g2⟩] at h
  exact h
theorem lk_tab : ∀ k, k < 256 → lkB (nI k) = if k < 42 then tL k else -1 := by decide +kernel
def puB (x0 : Int32) : Int32 := if x0 = 3 ∨ x0 = 4 ∨ x0 = 34 ∨ x0 = 36 ∨ x0 = 38 then 2 else if x0 = 0 ∨ x0 = 2 ∨ x0 = 19 ∨ (¬ x0 < 21 ∧ x0 ≤ 23) ∨ x0 = 25 ∨ x0 = 30 ∨ x0 = 32 then 0 else 1
theorem em_pushes {x : Int32} {t : KS} : EI (w_M_pushes x t) (puB x) t := by
  intro Φ h
  unfold puB at h
  unfold w_M_pushes
  by_cases c3 : x = 3
  · rw [if_pos (by simp [c3])] at h; exact ⟨fun _ => h, fun g => absurd c3 g⟩
  refine ⟨fun g => absurd g c3, fun _ => ?_⟩
  by_cases c4 : x = 4
  · rw [if_pos (by simp [c4])] at h; exact ⟨fun _ => h, fun g => absurd c4 g⟩
  refine ⟨fun g => absurd g c4, fun _ => ?_⟩
  by_cases c34 : x = 34
  · rw [if_pos (by simp [c34])] at h; exact ⟨fun _ => h, fun g => absurd c34 g⟩
  refine ⟨fun g => absurd g c34, fun _ => ?_⟩
  by_cases c36 : x = 36
  · rw [if_pos (by simp [c36])] at h; exact ⟨fun _ => h, fun g => absurd c36 g⟩
  refine ⟨fun g => absurd g c36, fun _ => ?_⟩
  by_cases c38 : x = 38
  · rw [if_pos (by simp [c38])] at h; exact ⟨fun g => absurd c38 g, fun _ => h⟩
  refine ⟨fun _ => ?_, fun g => absurd g c38⟩
  rw [if_neg (by simp [c3, c4, c34, c36, c38])] at h
  have one : (x = 0 ∨ x = 2 ∨ x = 19 ∨ (¬ x < 21 ∧ x ≤ 23) ∨ x = 25 ∨ x = 30 ∨ x = 32) → w_M_pushes_75 x Φ t := fun g => by
    rw [if_pos g] at h
    exact ⟨fun k => absurd k (by decide), fun _ => h⟩
  have rest : ¬ x = 0 → ¬ x = 2 → ¬ x = 19 → ¬ (¬ x < 21 ∧ x ≤ 23) → w_M_pushes_57 x Φ t := fun a b c d => by
    unfold w_M_pushes_57
    by_cases c25 : x = 25
    · exact ⟨fun _ => one (by simp [c25]), fun g => absurd c25 g⟩
    refine ⟨fun g => absurd g c25, fun _ => ?_⟩
    by_cases c30 : x = 30
    · exact ⟨fun _ => one (by simp [c30]), fun g => absurd c30 g⟩
    refine ⟨fun g => absurd g c30, fun _ => ?_⟩
    by_cases c32 : x = 32
    · exact ⟨fun g => absurd c32 g, fun _ => one (by simp [c32])⟩
    refine ⟨fun _ => ?_, fun g => absurd g c32⟩
    rw [if_neg (fun g => by rcases g with g | g | g | g | g | g | g <;> contradiction)] at h
    exact ⟨fun _ => h, fun g => absurd rfl g⟩
  refine ⟨fun g => one (Or.inl g), fun a => ⟨fun g => one (Or.inr (Or.inl g)), fun b => ⟨fun g => one (Or.inr (Or.inr (Or.inl g))), fun c => ⟨fun g => rest a b c (fun k => k.1 g), fun g => ⟨fun g2 => one (Or.inr (Or.inr (Or.inr (Or.inl ⟨g, g2⟩)))), fun g2 => rest a b c (fun k => g2 k.2)⟩⟩⟩⟩⟩
theorem pu_tab : ∀ k, k < 42 → ¬ tL k = -1 → tL k + tG k = puB (nI k) := by decide +kernel

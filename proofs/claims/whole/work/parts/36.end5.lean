/-- the last look at process 0 -/
theorem end_95 {cp T p : Nat} {x v : Int32} {got : Prop} {s t : KS} {q : List Nat} {row : Nat → List Nat} (h : XY s t q row) (hH : XH cp T s t) (hF : XF s t) (hv : (v = 0 ∧ ¬ got) ∨ (v = 1 ∧ got)) (heq : s 1 0 7 = 4 → ((∃ c, c < 16 ∧ isC s 0 c ∧ s 1 c 7 = 6) ↔ got)) : ∃ s' t' L, (∀ Φ : KS → Prop, Φ s' → w_K_end_95 cp p x Φ s) ∧ (∀ Φ : KS → Prop, Φ t' → w_M_end_256 (nI p) x Φ v t) ∧ XY s' t' (q ++ L) row ∧ XH cp T s' t' ∧ XF s' t' ∧ (∀ i, i < 16 → s' 1 i 7 = s 1 i 7 ∨ (i = 0 ∧ s' 1 i 7 = 1 ∧ s 1 i 7 = 4)) ∧ (s' 1 0 7 = 4 → ¬ got) ∧ (∀ i k, k ≠ 7 → k ≠ 10 → s' 1 i k = s 1 i k) ∧ s' 4 = s 4 ∧ (∀ k, k ≠ 5 → s' 0 0 k = s 0 0 k) ∧ (∀ k, k ≠ 16 → t' 20 0 k = t 20 0 k) ∧ s' 2 = s 2 := by
  have hz : ((0 : Int32).toNatClampNeg) = 0 := by decide
  have h26 : t 26 0 0 = s 1 0 7 := h.1.2.1 0 (by omega)
  have v0 : vp_in (0 : Int32) 16 := vin (n := 0) (by omega) (by omega)
  by_cases h4 : s 1 0 7 = 4
  · obtain ⟨o, ho, hoc⟩ := ek_endedChild (cp := cp) (p := 0) (h.1.1 0 (by omega))
    by_cases hg : got
    · obtain ⟨c, c1, c2, c3⟩ := (heq h4).mpr hg
      have hv1 : v = 1 := by
        rcases hv with ⟨-, g⟩ | ⟨g, -⟩
        · exact absurd hg g
        · exact g
      obtain ⟨r1, r2, r3, r4, r5⟩ := rd_pair (cp := cp) (T := T) h hH hF (p := 0) (by omega) (by rw [h4]; decide) (by rw [h4]; decide) (by rw [h4]; decide) (by rw [h4]; decide)
      refine ⟨kRd s 0 q.length, mRd t 0 q.length, [0], fun Φ hΦ => ?_, fun Φ hΦ => ?_, r3, r4, r5, fun i hi => ?_, fun g => ?_, fun i k h7 h10 => ?_, rfl, fun k hk => ?_, fun k hk => ?_, rfl⟩
      · unfold w_K_end_95
        rw [hz]
        refine ⟨v0, fun g => absurd h4 g, fun _ => ⟨v0, ho _ ⟨fun g => ?_, fun z5 _ => ⟨v0, r1 _ hΦ⟩⟩⟩⟩
        rcases hoc with ⟨-, hno⟩ | ⟨c', -, g2, -⟩
        · exact absurd ⟨c2, c3⟩ (hno c c1)
        · rw [g2] at g; cases g
      · unfold w_M_end_256
        rw [hz, h26, hv1]
        exact ⟨fun g => absurd g (by decide), fun _ => ⟨v0, fun g => absurd h4 g, fun _ => r2 _ hΦ⟩⟩
      · by_cases e : i = 0
        · subst e; exact Or.inr ⟨rfl, by simp [kRd, w3_eq], h4⟩
        · exact Or.inl (by simp [kRd, w3_eq, e])
      · simp [kRd, w3_eq] at g
      · simp [kRd, w3_eq, h7, h10]
      · simp [kRd, w3_eq, hk]
      · simp [mRd, w3_eq, hk]
    · have hv0 : v = 0 := by
        rcases hv with ⟨g, -⟩ | ⟨-, g⟩
        · exact g
        · exact absurd g hg
      refine ⟨s, t, [], fun Φ hΦ => ?_, fun Φ hΦ => ?_, by rw [List.append_nil]; exact h, hH, hF, fun i hi => Or.inl rfl, fun _ => hg, fun _ _ _ _ => rfl, rfl, fun _ _ => rfl, fun _ _ => rfl, rfl⟩
      · unfold w_K_end_95
        rw [hz]
        refine ⟨v0, fun g => absurd h4 g, fun _ => ⟨v0, ho _ ⟨fun _ => hΦ, fun z5 g => ?_⟩⟩⟩
        rcases hoc with ⟨g2, -⟩ | ⟨c', c1, -, c2, c3, -⟩
        · rw [g2] at g; cases g
        · exact absurd ((heq h4).mp ⟨c', c1, c2, c3⟩) hg
      · unfold w_M_end_256
        exact ⟨fun _ => hΦ, fun g => absurd hv0 g⟩
  · refine ⟨s, t, [], fun Φ hΦ => ?_, fun Φ hΦ => ?_, by rw [List.append_nil]; exact h, hH, hF, fun i hi => Or.inl rfl, fun g => absurd g h4, fun _ _ _ _ => rfl, rfl, fun _ _ => rfl, fun _ _ => rfl, rfl⟩
    · unfold w_K_end_95
      rw [hz]
      exact ⟨v0, fun _ => hΦ, fun g => absurd g h4⟩
    · unfold w_M_end_256
      rw [hz, h26]
      exact ⟨fun _ => hΦ, fun _ => ⟨v0, fun _ => hΦ, fun g => absurd g h4⟩⟩
/-- the parent of one that ended -/
theorem end_par {cp T p : Nat} {x : Int32} {s t : KS} {q : List Nat} {row : Nat → List Nat} (h : XY s t q row) (hH : XH cp T s t) (hF : XF s t) (hp : p < 16) (h6 : s 1 p 7 = 6 ∨ (s 1 p 7 = 0 ∧ s 1 p 6 = -1)) (hm1 : t 32 0 p = s 1 p 6) (hpar : ¬ s 1 p 7 = 0 → s 1 p 6 = -1 ∨ ∃ j, j < 16 ∧ s 1 p 6 = nI j ∧ ¬ s 1 j 7 = 0 ∧ ¬ s 1 j 7 = 6 ∧ j ≠ p) : ∃ s' t' L, (∀ Φ : KS → Prop, w_K_end_95 cp p x Φ s' → kEnd2 cp p x Φ s) ∧ (∀ (Φ : KS → Prop) (v : Int32), w_M_end_256 (nI p) x Φ v t' → mTail (nI p) x Φ v t) ∧ XY s' t' (q ++ L) row ∧ XH cp T s' t' ∧ XF s' t' ∧ (∀ i, i < 16 → i ≠ p → s' 1 i 7 = s 1 i 7 ∨ (s' 1 i 7 = 1 ∧ s 1 i 7 = 4)) ∧ ((s' 1 p 7 = 0 ∧ s 1 p 6 = -1) ∨ (s' 1 p 7 = 6 ∧ ∃ j, j < 16 ∧ s 1 p 6 = nI j ∧ ¬ s' 1 j 7 = 4)) ∧ (∀ i k, k ≠ 7 → k ≠ 10 → s' 1 i k = s 1 i k) ∧ s' 4 = s 4 ∧ (∀ k, k ≠ 5 → s' 0 0 k = s 0 0 k) ∧ (∀ k, k ≠ 16 → t' 20 0 k = t 20 0 k) ∧ s' 2 = s 2 := by
  have cpn : (nI p).toNatClampNeg = p := cl (by omega)
  by_cases hpm : s 1 p 6 = -1
  · refine ⟨w3 s 1 p 7 0, w3 t 26 0 p 0, [], fun Φ hΦ => ?_, fun Φ v hΦ => ?_, ?_, hH, hF, fun i hi e => ?_, Or.inl ⟨by simp [w3_eq], hpm⟩, fun i k h7 h10 => ?_, rfl, fun _ _ => rfl, fun _ _ => rfl, rfl⟩
    · unfold kEnd2
      exact ⟨fun g => absurd hpm g, fun _ s5 e5 => by rw [e5]; exact hΦ⟩
    · unfold mTail
      rw [cpn, hm1, hpm]
      exact ⟨vin hp (by omega), fun y ey => ⟨fun g => absurd ey g, fun _ => ⟨vin hp (by omega), fun s3 e3 => by rw [e3]; exact hΦ⟩⟩⟩
    · rw [List.append_nil]
      obtain ⟨⟨h1, h2, h3, h4, h5, h6'⟩, hQ, hB, hR⟩ := h
      refine ⟨⟨fun i hi => ?_, fun i hi => ?_, fun i hi => ?_, fun i hi h9 => ?_, h5, fun i hi h9 => ?_⟩, hQ, fun i hi => ?_, fun r hr => ?_, fun i hi => ?_⟩
      · have := h1 i hi
        simpa [w3_eq] using this
      · have := h2 i hi
        by_cases e : i = p
        · simp [w3_eq, e]
        · simpa [w3_eq, e] using this
      · have := h3 i hi
        by_cases e : i = p
        · subst e
          have h5 : ¬ s 1 i 7 = 5 := by rcases h6 with g | ⟨g, -⟩ <;> rw [g] <;> decide
          rw [if_neg h5] at this
          simpa [w3_eq] using this
        · simpa [w3_eq, e] using this
      · by_cases e : i = p
        · subst e; simp [w3_eq] at h9
        · simp [w3_eq, e] at h9
          have := h4 i hi h9
          simpa [w3_eq, e] using this
      · by_cases e : i = p
        · subst e; simp [w3_eq] at h9
        · simp [w3_eq, e] at h9
          obtain ⟨m, b0, b1, b2, b3, b4, b5, b6⟩ := h6' i hi h9
          exact ⟨m, b0, by simpa [w3_eq] using b1, b2, by simpa [w3_eq] using b3, by simpa [w3_eq] using b4, b5, b6⟩
      · rw [hB i hi]
        by_cases e : i = p
        · subst e
          have h5 : ¬ s 1 i 7 = 1 := by rcases h6 with g | ⟨g, -⟩ <;> rw [g] <;> decide
          simp [w3_eq, h5]
        · simp [w3_eq, e]
      · have := hR.1 r hr
        simpa [w3_eq, w3_e2] using this
      · have := hR.2 i hi
        by_cases e : i = p
        · subst e
          have h2' : ¬ s 1 i 7 = 2 := by rcases h6 with g | ⟨g, -⟩ <;> rw [g] <;> decide
          have h3' : ¬ s 1 i 7 = 3 := by rcases h6 with g | ⟨g, -⟩ <;> rw [g] <;> decide
          rcases this with g | ⟨-, g | g⟩
          · left; simpa [w3_eq] using g
          · exact absurd g h2'
          · exact absurd g h3'
        · simpa [w3_eq, e] using this
    · exact Or.inl (by simp [w3_eq, e])
    · simp [w3_eq, h7]
  · have h6' : s 1 p 7 = 6 := by
      rcases h6 with g | ⟨-, g⟩
      · exact g
      · exact absurd g hpm
    obtain ⟨j, hj, ej, j0, j6, jp⟩ : ∃ j, j < 16 ∧ s 1 p 6 = nI j ∧ ¬ s 1 j 7 = 0 ∧ ¬ s 1 j 7 = 6 ∧ j ≠ p := by
      rcases hpar (by rw [h6']; decide) with g | g
      · exact absurd g hpm
      · exact g
    have cj : (nI j).toNatClampNeg = j := cl (by omega)
    have nm1 : ¬ nI j = -1 := nI_m1 (by omega)
    have j26 : t 26 0 j = s 1 j 7 := h.1.2.1 j hj
    by_cases j4 : s 1 j 7 = 4
    · obtain ⟨r1, r2, r3, r4, r5⟩ := rd_pair (cp := cp) (T := T) h hH hF hj (by rw [j4]; decide) (by rw [j4]; decide) (by rw [j4]; decide) j0
      refine ⟨kRd s j q.length, mRd t j q.length, [j], fun Φ hΦ => ?_, fun Φ v hΦ => ?_, r3, r4, r5, fun i hi e => ?_, Or.inr ⟨?_, j, hj, ej, ?_⟩, fun i k h7 h10 => ?_, rfl, fun k hk => ?_, fun k hk => ?_, rfl⟩
      · unfold kEnd2
        rw [ej, cj]
        exact ⟨fun _ => ⟨vin hj (by omega), fun g => absurd j4 g, fun _ => ⟨vin hj (by omega), r1 _ hΦ⟩⟩, fun g => absurd g nm1⟩
      · unfold mTail
        rw [cpn, hm1, ej]
        refine ⟨vin hp (by omega), fun y ey => ?_⟩
        rw [ey, cj, j26]
        exact ⟨fun _ => ⟨vin hj (by omega), fun g => absurd j4 g, fun _ => r2 _ hΦ⟩, fun g => absurd g nm1⟩
      · by_cases ei : i = j
        · subst ei; exact Or.inr ⟨by simp [kRd, w3_eq], j4⟩
        · exact Or.inl (by simp [kRd, w3_eq, ei])
      · have : p ≠ j := fun e => jp e.symm
        simpa [kRd, w3_eq, this] using h6'
      · simp [kRd, w3_eq]
      · simp [kRd, w3_eq, h7, h10]
      · simp [kRd, w3_eq, hk]
      · simp [mRd, w3_eq, hk]
    · refine ⟨s, t, [], fun Φ hΦ => ?_, fun Φ v hΦ => ?_, by rw [List.append_nil]; exact h, hH, hF, fun i hi _ => Or.inl rfl, Or.inr ⟨h6', j, hj, ej, j4⟩, fun _ _ _ _ => rfl, rfl, fun _ _ => rfl, fun _ _ => rfl, rfl⟩
      · unfold kEnd2
        rw [ej, cj]
        exact ⟨fun _ => ⟨vin hj (by omega), fun _ => hΦ, fun g => absurd g j4⟩, fun g => absurd g nm1⟩
      · unfold mTail
        rw [cpn, hm1, ej]
        refine ⟨vin hp (by omega), fun y ey => ?_⟩
        rw [ey, cj, j26]
        exact ⟨fun _ => ⟨vin hj (by omega), fun _ => hΦ, fun g => absurd g j4⟩, fun g => absurd g nm1⟩

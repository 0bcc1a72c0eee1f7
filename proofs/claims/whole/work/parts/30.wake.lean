theorem wk_long {cp r : Nat} {s t : KS} {q : List Nat} {row : Nat → List Nat} (h : XY s t q row) (hr : r < 17) : EO (w_K_longestWaiting cp (nI (rc r)) s) (row r).head? s := by
  obtain ⟨-, -, -, hR⟩ := h
  obtain ⟨-, -, h3, h4, -⟩ := hR.1 r hr
  exact ek_longest h3 h4
theorem wk_m0 {r : Nat} {s t : KS} {q : List Nat} {row : Nat → List Nat} (h : XY s t q row) (hr : r < 17) (e : row r = []) : EK (w_M_wakeFirst (nI r) t) t := by
  obtain ⟨-, -, -, hR⟩ := h
  obtain ⟨h1, -⟩ := hR.1 r hr
  intro Φ hΦ
  have cr : (nI r).toNatClampNeg = r := cl (by omega)
  unfold w_M_wakeFirst
  rw [cr, h1, e]
  exact ⟨vin hr (by omega), fun _ => hΦ, fun h => absurd (by decide) h⟩
theorem wk_cons {cp r p : Nat} {s t : KS} {q L : List Nat} {row : Nat → List Nat} (h : XY s t q row) (hr : r < 17) (e : row r = p :: L) : ∃ s' t', EK (w_K_makeReady cp p s) s' ∧ EK (w_M_wakeFirst (nI r) t) t' ∧ XY s' t' (q ++ [p]) (fun r' => if r' = r then L else row r') ∧ Fr s s' t t' := by
  obtain ⟨hP, hQ, hB, hR⟩ := h
  obtain ⟨h1, h2, h3, h4, h5⟩ := hR.1 r hr
  obtain ⟨hl, hnd, hlt⟩ := hR.len hr
  have hpm := (h4 p).mp (by rw [e]; simp)
  have hp : p < 16 := hpm.1
  have hst : s 1 p 7 = 2 ∨ s 1 p 7 = 3 := by
    rcases hR.2 p hp with g | g
    · rw [hpm.2] at g; exact absurd g (nI_m1 (by have := rc_lt hr; omega))
    · exact g.2
  have hpq : p ∉ q := fun hq => by
    have := (hB p hp).mp hq
    rw [this] at hst
    rcases hst with g | g <;> exact absurd g (by decide)
  have hst0 : ¬ s 1 p 7 = 0 := fun g => by rw [g] at hst; rcases hst with g | g <;> exact absurd g (by decide)
  have hlen := hQ.lt hp hpq
  have hpL : p ∉ L := by rw [e, List.nodup_cons] at hnd; exact hnd.1
  have hwo : wo (row r) p = L := by rw [e]; exact wo_cons hpL
  obtain ⟨arr, a1, a2, a3⟩ := em_leaveRow (p := p) hr h1 h2 hl hp hlt
  rw [hwo] at a1 a3
  have cr : (nI r).toNatClampNeg = r := cl (by omega)
  have k16 : (16 : Int32) * nI r = nI (16 * r) := pk_mul 16 r
  have hfirst : t 39 0 (16 * r) = nI p := by
    have := h2 0 p (by rw [e]; rfl)
    simpa using this
  refine ⟨kRd s p q.length, mRd (w3 (ur t 39 0 arr) 40 0 r (nI L.length)) p q.length, ek_makeReady hQ.1 hlen (hP.1 p hp), ?_, ⟨rd_P (t := w3 (ur t 39 0 arr) 40 0 r (nI L.length)) hp hP (hP.2.2.2.2.2 p hp hst0), rd_Q (t := w3 (ur t 39 0 arr) 40 0 r (nI L.length)) hp hQ hpq, rd_B hB, ?_⟩, rd_F (t := t) hst⟩
  · intro Φ hΦ
    unfold w_M_wakeFirst
    rw [cr, k16, cl (by omega), h1]
    refine ⟨vin hr (by omega), fun h => absurd h (nI_nle (by rw [e]; simp) (by omega)), fun _ => ⟨vin (by omega) (by omega), fun y ey => ?_⟩⟩
    rw [ey, hfirst]
    exact a3 _ (em_ready (t := w3 (ur t 39 0 arr) 40 0 r (nI L.length)) hQ.2.1 hlen hp Φ hΦ)
  · refine ⟨fun r' hr' => ?_, fun i hi => ?_⟩
    · by_cases er : r' = r
      · subst er
        simp only [if_true]
        refine ⟨by simp [mRd, w3_eq], ?_, ?_, fun i => ?_, fun i hi => ?_⟩
        · show AL arr _ _
          exact a1
        · rw [e] at h3
          have := (List.pairwise_cons.mp h3).2
          refine this.imp (fun {a b} hab => ?_)
          simpa [kRd, w3_eq] using hab
        · have := h4 i
          rw [e] at this
          by_cases ei : i = p
          · subst ei
            simp only [hpL, false_iff, not_and]
            intro _
            simp only [kRd, w3_eq]
            simp
            exact fun g => nI_m1 (n := rc r') (by have := rc_lt hr; omega) g.symm
          · simpa [kRd, w3_eq, ei] using this
        · have := h5 i (by rw [e]; simp [hi])
          simpa [kRd, w3_eq] using this
      · simp only [if_neg er]
        obtain ⟨g1, g2, g3, g4, g5⟩ := hR.1 r' hr'
        obtain ⟨gl, -, -⟩ := hR.len hr'
        refine ⟨?_, ?_, ?_, fun i => ?_, fun i hi => ?_⟩
        · simpa [mRd, w3_eq, ur_e, er] using g1
        · show AL arr _ _
          refine g2.cg (fun k hk => a2 _ ?_)
          omega
        · refine g3.imp (fun {a b} hab => ?_)
          simpa [kRd, w3_eq] using hab
        · have := g4 i
          by_cases ei : i = p
          · subst ei
            have hn1 : i ∉ row r' := fun hm => er (rc_inj hr' hr (nI_inj (by have := rc_lt hr'; omega) (by have := rc_lt hr; omega) (((g4 i).mp hm).2.symm.trans hpm.2)))
            simp only [hn1, false_iff, not_and]
            intro _
            simp only [kRd, w3_eq]
            simp
            exact fun g => nI_m1 (n := rc r') (by have := rc_lt hr'; omega) g.symm
          · simpa [kRd, w3_eq, ei] using this
        · have := g5 i hi
          simpa [kRd, w3_eq] using this
    · by_cases ei : i = p
      · subst ei
        left
        simp [kRd, w3_eq]
      · have := hR.2 i hi
        simpa [kRd, w3_eq, ei] using this
theorem wk_one {cp r : Nat} {s t : KS} {q : List Nat} {row : Nat → List Nat} (h : XY s t q row) (hr : r < 17) : ∃ s' t' L row', EK (w_K_wakeFirst cp (nI (rc r)) s) s' ∧ EK (w_M_wakeFirst (nI r) t) t' ∧ XY s' t' (q ++ L) row' ∧ Fr s s' t t' := by
  have hlo := wk_long (cp := cp) h hr
  cases e : row r with
  | nil =>
    rw [e] at hlo
    refine ⟨s, t, [], row, fun Φ hΦ => ?_, wk_m0 h hr e, by rw [List.append_nil]; exact h, Fr.refl s t⟩
    unfold w_K_wakeFirst
    exact hlo _ ⟨fun _ => hΦ, fun z hz => by cases hz⟩
  | cons p L =>
    rw [e] at hlo
    obtain ⟨s', t', g1, g2, g3, g4⟩ := wk_cons (cp := cp) h hr e
    refine ⟨s', t', _, _, fun Φ hΦ => ?_, g2, g3, g4⟩
    unfold w_K_wakeFirst
    refine hlo _ ⟨fun hz => (by cases hz), fun z hz => ?_⟩
    cases hz
    exact g1 _ hΦ
theorem wk_loop {cp r : Nat} (hr : r < 17) : ∀ (L : List Nat) (i : Nat) (s t : KS) (q : List Nat) (row : Nat → List Nat), XY s t q row → row r = L → i + L.length ≤ 16 → ∃ s' t', (∀ Φ : KS → Prop, Φ s' → w_K_wakeAll_2 cp (nI (rc r)) Φ (L.length + 1) (nI i) s) ∧ (∀ Φ : KS → Prop, Φ t' → w_M_wakeAll_0 (nI r) Φ (L.length + 1) t) ∧ XY s' t' (q ++ L) (fun r' => if r' = r then [] else row r') ∧ Fr s s' t t' := by
  have cr : (nI r).toNatClampNeg = r := cl (by omega)
  intro L
  induction L with
  | nil =>
    intro i s t q row h e hi
    have hlo := wk_long (cp := cp) h hr
    rw [e] at hlo
    have er : (fun r' => if r' = r then [] else row r') = row := by
      funext r'
      by_cases g : r' = r
      · rw [if_pos g, g, e]
      · rw [if_neg g]
    have h1 := (h.2.2.2.1 r hr).1
    rw [e] at h1
    refine ⟨s, t, fun Φ hΦ => ?_, fun Φ hΦ => ?_, by rw [er, List.append_nil]; exact h, Fr.refl s t⟩
    · unfold w_K_wakeAll_2
      exact ⟨fun _ => hΦ, fun _ => hlo _ ⟨fun _ => hΦ, fun z hz => by cases hz⟩⟩
    · unfold w_M_wakeAll_0
      rw [cr, h1]
      exact ⟨vin hr (by omega), fun _ => hΦ, fun h => absurd (by decide) h⟩
  | cons p L ih =>
    intro i s t q row h e hi
    have hlo := wk_long (cp := cp) h hr
    rw [e] at hlo
    obtain ⟨s1, t1, g1, g2, g3, g4⟩ := wk_cons (cp := cp) h hr e
    simp only [List.length_cons] at hi
    obtain ⟨s', t', k1, k2, k3, k4⟩ := ih (i + 1) s1 t1 _ _ g3 (by simp) (by omega)
    have h1 := (h.2.2.2.1 r hr).1
    rw [e] at h1
    have er : (fun r' => if r' = r then [] else (fun r' => if r' = r then L else row r') r') = (fun r' => if r' = r then [] else row r') := by
      funext r'
      by_cases g : r' = r
      · rw [if_pos g, if_pos g]
      · rw [if_neg g, if_neg g]; simp [g]
    rw [er, List.append_assoc] at k3
    refine ⟨s', t', fun Φ hΦ => ?_, fun Φ hΦ => ?_, k3, g4.trans k4⟩
    · unfold w_K_wakeAll_2
      refine ⟨fun h => absurd h (nI_ge (b := 16) (by omega) (by omega)), fun _ => hlo _ ⟨fun hz => (by cases hz), fun z hz => ?_⟩⟩
      cases hz
      exact g1 _ (fun y ey => by rw [ey, nI_1]; exact k1 Φ hΦ)
    · unfold w_M_wakeAll_0
      rw [cr, h1]
      refine ⟨vin hr (by omega), fun h => absurd h (nI_nle (by simp) (by simp only [List.length_cons]; omega)), fun _ => ?_⟩
      exact g2 _ (k2 Φ hΦ)
theorem wk_all {cp r : Nat} {s t : KS} {q : List Nat} {row : Nat → List Nat} (h : XY s t q row) (hr : r < 17) : ∃ s' t', EK (w_K_wakeAll cp (nI (rc r)) s) s' ∧ EK (w_M_wakeAll (nI r) t) t' ∧ XY s' t' (q ++ row r) (fun r' => if r' = r then [] else row r') ∧ Fr s s' t t' := by
  obtain ⟨s', t', h1, h2, h3, h4⟩ := wk_loop hr (row r) 0 s t q row h rfl (by have := (h.2.2.2.len hr).1; omega)
  exact ⟨s', t', fun Φ hΦ => ⟨_, h1 Φ hΦ⟩, fun Φ hΦ => ⟨_, h2 Φ hΦ⟩, h3, h4⟩
theorem wk_none {cp : Nat} {s t : KS} {q : List Nat} {row : Nat → List Nat} (h : XY s t q row) : EK (w_K_wakeAll cp 0 s) s := by
  have hlo : EO (w_K_longestWaiting cp 0 s) (List.head? []) s := by
    refine ek_longest (L := []) List.Pairwise.nil (fun i => ⟨fun h => by simp at h, fun hi => ?_⟩)
    exfalso
    rcases h.2.2.2.2 i hi.1 with g | ⟨⟨r, hr, g, -⟩, -⟩
    · rw [hi.2] at g; exact absurd g (by decide)
    · rw [hi.2] at g
      have h2 : rc r = 0 := (nI_inj (a := 0) (by omega) (by have := rc_lt hr; omega) g).symm
      unfold rc at h2
      split at h2
      · omega
      · split at h2 <;> omega
  intro Φ hΦ
  refine ⟨1, ?_⟩
  unfold w_K_wakeAll_2
  exact ⟨fun _ => hΦ, fun _ => hlo _ ⟨fun _ => hΦ, fun z hz => by cases hz⟩⟩

/-! one leaves the queue, and waits -/
def kL (s : KS) (arr : Nat → Int32) (q : List Nat) (p : Nat) : KS := ur (ur s 8 0 arr) 0 0 (upd (upd (s 0 0) 6 (if q.head? = some p then 0 else s 0 0 6)) 5 (nI (wo q p).length))
def mL (t : KS) (arr : Nat → Int32) (q : List Nat) (p : Nat) : KS := ur (ur t 35 0 arr) 20 0 (upd (upd (t 20 0) 16 (nI (wo q p).length)) 17 (if q.head? = some p then 0 else t 20 0 17))
theorem lq_pair {cp p : Nat} {s t : KS} {q : List Nat} {row : Nat → List Nat} (h : XY s t q row) (hp : p < 16) : ∃ a b, AL a 0 (wo q p) ∧ AL b 0 (wo q p) ∧ EK (w_K_leaveQueue cp p s) (kL s a q p) ∧ EK (w_M_leaveQueue (nI p) t) (mL t b q p) := by
  obtain ⟨arr, a1, a2⟩ := ek_leaveQueue (cp := cp) h.2.1.1 h.2.1.2.2.1 h.2.1.len (h.1.1 p hp) hp h.2.1.2.2.2.2.2
  obtain ⟨arrM, b1, b2⟩ := em_leaveQueue (p := p) h.2.1.2.1 h.2.1.2.2.2.1 h.2.1.len hp h.2.1.2.2.2.2.2
  exact ⟨arr, arrM, a1, b1, a2, b2⟩
/-- out of the queue, into a state in which it stands in no row -/
def kS (s : KS) (arr : Nat → Int32) (q : List Nat) (p : Nat) (v w : Int32) : KS := w3 (w3 (kL s arr q p) 1 p 7 v) 1 p 9 w
def mS (t : KS) (arr : Nat → Int32) (q : List Nat) (p : Nat) (v w : Int32) : KS := w3 (w3 (mL t arr q p) 26 0 p v) 34 0 p w
theorem ls_Y {s t : KS} {p : Nat} {q : List Nat} {row : Nat → List Nat} {a b : Nat → Int32} {v w w2 : Int32} (h : XY s t q row) (hp : p < 16) (h1 : s 1 p 7 = 1) (ha : AL a 0 (wo q p)) (hb : AL b 0 (wo q p)) (hv : (v = 4 ∧ w2 = 0) ∨ (v = 5 ∧ w2 = w)) : XY (kS s a q p v w) (mS t b q p v w2) (wo q p) row := by
  have hw10 : s 1 p 10 = -1 := h.norow hp (by rw [h1]; decide) (by rw [h1]; decide)
  obtain ⟨⟨h1', h2, h3, h4, h5, h6⟩, hQ, hB, hR⟩ := h
  have v1 : ¬ v = 1 := by rcases hv with ⟨g, -⟩ | ⟨g, -⟩ <;> rw [g] <;> decide
  have v6 : ¬ v = 6 := by rcases hv with ⟨g, -⟩ | ⟨g, -⟩ <;> rw [g] <;> decide
  refine ⟨⟨fun i hi => ?_, fun i hi => ?_, fun i hi => ?_, fun i hi h9 => ?_, h5, fun i hi h9 => ?_⟩, ⟨?_, ?_, ha, hb, wo_nd hQ.2.2.2.2.1, fun i hi => hQ.2.2.2.2.2 i (wo_mem.mp hi).1⟩, fun i hi => ?_, fun r hr9 => ?_, fun i hi => ?_⟩
  · have := h1' i hi
    simpa [kS, kL, w3_eq, ur_e] using this
  · have := h2 i hi
    by_cases e : i = p
    · simp [kS, mS, kL, mL, w3_eq, ur_e, e]
    · simpa [kS, mS, kL, mL, w3_eq, ur_e, e] using this
  · have := h3 i hi
    by_cases e : i = p
    · subst e
      rcases hv with ⟨g, g2⟩ | ⟨g, g2⟩
      · subst g g2; simp [kS, mS, kL, mL, w3_eq, ur_e]
      · subst g g2; simp [kS, mS, kL, mL, w3_eq, ur_e]
    · simpa [kS, mS, kL, mL, w3_eq, ur_e, e] using this
  · have := h4 i hi
    by_cases e : i = p
    · subst e; simp [kS, kL, w3_eq, v6] at h9
    · simp [kS, kL, w3_eq, ur_e, e] at h9
      simpa [kS, mS, kL, mL, w3_eq, ur_e, e] using this h9
  · have hbi : Bo s t i := by
      by_cases e : i = p
      · rw [e]; exact h6 p hp (by rw [h1]; decide)
      · exact h6 i hi (by simpa [kS, kL, w3_eq, ur_e, e] using h9)
    obtain ⟨m, b0, b1, b2, b3, b4, b5, b6⟩ := hbi
    exact ⟨m, b0, by simpa [kS, kL, w3_eq, ur_e] using b1, b2, by simpa [kS, mS, kL, mL, w3_eq, ur_e] using b3, by simpa [kS, mS, kL, mL, w3_eq, ur_e] using b4, b5, b6⟩
  · simp [kS, kL, w3_eq, ur_e, upd_e]
  · simp [mS, mL, w3_eq, ur_e, upd_e]
  · rw [wo_mem, hB i hi]
    by_cases g : i = p
    · subst g; simp [kS, kL, w3_eq, v1]
    · simp [kS, kL, w3_eq, ur_e, g]
  · obtain ⟨g1, g2, g3, g4, g5⟩ := hR.1 r hr9
    refine ⟨g1, g2, ?_, fun i => ?_, fun i hi => ?_⟩
    · refine g3.imp (fun {a b} hab => ?_)
      simpa [kS, kL, w3_eq, ur_e] using hab
    · have := g4 i
      simpa [kS, kL, w3_eq, ur_e] using this
    · have := g5 i hi
      simpa [kS, kL, w3_eq, ur_e, upd_e] using this
  · by_cases g : i = p
    · subst g; left; simpa [kS, kL, w3_eq, ur_e] using hw10
    · have := hR.2 i hi
      simpa [kS, kL, w3_eq, ur_e, upd_e, g] using this
theorem ls_Z {s : KS} {p T : Nat} {q : List Nat} {a : Nat → Int32} {v w : Int32} (hZ : Z s T) (hp : p < 16) (h1 : s 1 p 7 = 1) (hv : (v = 4 ∧ ∀ c, c < 16 → ¬ (isC s p c ∧ s 1 c 7 = 6)) ∨ (v = 5 ∧ nI T < w)) : Z (kS s a q p v w) T := by
  obtain ⟨Z1, Z2, Z3, Z4⟩ := hZ
  have v0 : ¬ v = 0 := by rcases hv with ⟨g, -⟩ | ⟨g, -⟩ <;> rw [g] <;> decide
  have v6 : ¬ v = 6 := by rcases hv with ⟨g, -⟩ | ⟨g, -⟩ <;> rw [g] <;> decide
  have st : ∀ i, i ≠ p → kS s a q p v w 1 i 7 = s 1 i 7 := fun i e => by simp [kS, kL, w3_eq, ur_e, e]
  have stp : kS s a q p v w 1 p 7 = v := by simp [kS, kL, w3_eq]
  have par : ∀ i, kS s a q p v w 1 i 6 = s 1 i 6 := fun i => by simp [kS, kL, w3_eq, ur_e]
  refine ⟨fun i hi hz d hd => ?_, fun i hi hz => ?_, fun i hi h4 c hc => ?_, fun i hi h5 => ?_⟩
  · by_cases e : i = p
    · rw [e, stp] at hz
      rcases hz with hz | hz
      · exact absurd hz v0
      · exact absurd hz v6
    · rw [st i e] at hz
      exact Z1 i hi hz d hd
  · rw [par i]
    have hi0 : ¬ s 1 i 7 = 0 := by
      by_cases e : i = p
      · rw [e, h1]; decide
      · rw [st i e] at hz; exact hz
    rcases Z2 i hi hi0 with g | ⟨j, hj, ej, j0, j6⟩
    · exact Or.inl g
    · refine Or.inr ⟨j, hj, ej, ?_⟩
      by_cases e : j = p
      · rw [e, stp]; exact ⟨v0, v6⟩
      · rw [st j e]; exact ⟨j0, j6⟩
  · rw [par c]
    rintro ⟨c6, cp⟩
    have cne : c ≠ p := fun e => by rw [e, stp] at c6; exact v6 c6
    rw [st c cne] at c6
    by_cases e : i = p
    · rw [e, stp] at h4
      rw [e] at cp
      rcases hv with ⟨-, g⟩ | ⟨g, -⟩
      · exact g c hc ⟨⟨by rw [c6]; decide, cp⟩, c6⟩
      · rw [g] at h4; exact absurd h4 (by decide)
    · rw [st i e] at h4
      exact Z3 i hi h4 c hc ⟨c6, cp⟩
  · by_cases e : i = p
    · rw [e, stp] at h5
      rcases hv with ⟨g, -⟩ | ⟨-, g⟩
      · rw [g] at h5; exact absurd h5 (by decide)
      · rw [e]; simpa [kS, kL, w3_eq] using g
    · rw [st i e] at h5
      have := Z4 i hi h5
      simpa [kS, kL, w3_eq, ur_e, e] using this
/-- out of the queue, into a row -/
def kW (s : KS) (arr : Nat → Int32) (q : List Nat) (p : Nat) (v x b b1 : Int32) : KS := w3 (w3 (w3 (w3 (kL s arr q p) 1 p 7 v) 1 p 10 x) 1 p 11 b) 0 0 8 b1
def mW (t : KS) (arr : Nat → Int32) (q : List Nat) (p R n : Nat) (v : Int32) : KS := w3 (w3 (w3 (mL t arr q p) 26 0 p v) 39 0 (16 * R + n) (nI p)) 40 0 R (nI (n + 1))
theorem lw_Y2 {s t : KS} {p R b : Nat} {q : List Nat} {row : Nat → List Nat} {a a2 : Nat → Int32} {v : Int32} (h : XY s t q row) (hp : p < 16) (h1 : s 1 p 7 = 1) (ha : AL a 0 (wo q p)) (hb : AL a2 0 (wo q p)) (hv : v = 2 ∨ v = 3) (hR : R < 17) (hbe : s 0 0 8 = nI b) (hb9 : b < 90000) (h16 : R = 16 → s 0 0 11 = 0) : XY (kW s a q p v (nI (rc R)) (nI b) (nI (b + 1))) (mW t a2 q p R (row R).length v) (wo q p) (fun r => if r = R then row r ++ [p] else row r) := by
  have hw10 : s 1 p 10 = -1 := h.norow hp (by rw [h1]; decide) (by rw [h1]; decide)
  obtain ⟨⟨h1', h2, h3, h4, h5, h6⟩, hQ, hB, hRR⟩ := h
  have v1 : ¬ v = 1 := by rcases hv with g | g <;> rw [g] <;> decide
  have v6 : ¬ v = 6 := by rcases hv with g | g <;> rw [g] <;> decide
  have v5 : ¬ v = 5 := by rcases hv with g | g <;> rw [g] <;> decide
  have pno : ∀ r, r < 17 → p ∉ row r := fun r hr hm => by
    have := ((hRR.1 r hr).2.2.2.1 p).mp hm
    rw [hw10] at this
    exact nI_m1 (n := rc r) (by have := rc_lt hr; omega) this.2.symm
  have hlen : (row R).length < 16 := by
    obtain ⟨-, hnd, hlt⟩ := hRR.len hR
    exact nd_lt hnd hlt hp (pno R hR)
  refine ⟨⟨fun i hi => ?_, fun i hi => ?_, fun i hi => ?_, fun i hi h9 => ?_, h5, fun i hi h9 => ?_⟩, ⟨?_, ?_, ha, hb, wo_nd hQ.2.2.2.2.1, fun i hi => hQ.2.2.2.2.2 i (wo_mem.mp hi).1⟩, fun i hi => ?_, fun r hr9 => ?_, fun i hi => ?_⟩
  · have := h1' i hi
    simpa [kW, kL, w3_eq, ur_e] using this
  · have := h2 i hi
    by_cases e : i = p
    · simp [kW, mW, kL, mL, w3_eq, ur_e, e]
    · simpa [kW, mW, kL, mL, w3_eq, ur_e, e] using this
  · have := h3 i hi
    by_cases e : i = p
    · subst e
      rw [h1, if_neg (by decide)] at this
      simpa [kW, mW, kL, mL, w3_eq, ur_e, v5] using this
    · simpa [kW, mW, kL, mL, w3_eq, ur_e, e] using this
  · have := h4 i hi
    by_cases e : i = p
    · subst e; simp [kW, kL, w3_eq, v6] at h9
    · simp [kW, kL, w3_eq, ur_e, e] at h9
      simpa [kW, mW, kL, mL, w3_eq, ur_e, e] using this h9
  · have hbi : Bo s t i := by
      by_cases e : i = p
      · rw [e]; exact h6 p hp (by rw [h1]; decide)
      · exact h6 i hi (by simpa [kW, kL, w3_eq, ur_e, e] using h9)
    obtain ⟨m, b0, b1, b2, b3, b4, b5, b6⟩ := hbi
    exact ⟨m, b0, by simpa [kW, kL, w3_eq, ur_e] using b1, b2, by simpa [kW, mW, kL, mL, w3_eq, ur_e] using b3, by simpa [kW, mW, kL, mL, w3_eq, ur_e] using b4, b5, b6⟩
  · simp [kW, kL, w3_eq, ur_e, upd_e]
  · simp [mW, mL, w3_eq, ur_e, upd_e]
  · rw [wo_mem, hB i hi]
    by_cases g : i = p
    · subst g; simp [kW, kL, w3_eq, v1]
    · simp [kW, kL, w3_eq, ur_e, g]
  · obtain ⟨g1, g2, g3, g4, g5⟩ := hRR.1 r hr9
    have hnp := pno r hr9
    have e11 : ∀ i, i ≠ p → kW s a q p v (nI (rc R)) (nI b) (nI (b + 1)) 1 i 11 = s 1 i 11 := fun i e => by simp [kW, kL, w3_eq, ur_e, e]
    have e11p : kW s a q p v (nI (rc R)) (nI b) (nI (b + 1)) 1 p 11 = nI b := by simp [kW, kL, w3_eq]
    have e08 : kW s a q p v (nI (rc R)) (nI b) (nI (b + 1)) 0 0 8 = nI (b + 1) := by simp [kW, kL, w3_eq]
    have blt : nI b < nI (b + 1) := nI_lt (by omega) (by omega)
    have pw : (row r).Pairwise (fun i j => kW s a q p v (nI (rc R)) (nI b) (nI (b + 1)) 1 i 11 < kW s a q p v (nI (rc R)) (nI b) (nI (b + 1)) 1 j 11) := by
      refine List.Pairwise.imp_of_mem ?_ g3
      intro x y hx hy hxy
      rw [e11 x (fun e => hnp (e ▸ hx)), e11 y (fun e => hnp (e ▸ hy))]
      exact hxy
    have lt8 : ∀ i, i ∈ row r → kW s a q p v (nI (rc R)) (nI b) (nI (b + 1)) 1 i 11 < nI b := fun i hi => by
      rw [e11 i (fun e => hnp (e ▸ hi)), ← hbe]
      exact g5 i hi
    by_cases e : r = R
    · subst e
      simp only [if_true]
      refine ⟨?_, ?_, ?_, fun i => ?_, fun i hi => ?_⟩
      · rw [List.length_append]; simp [mW, w3_eq]
      · show AL (upd (t 39 0) (16 * r + (row r).length) (nI p)) _ _
        exact g2.snoc
      · rw [List.pairwise_append]
        refine ⟨pw, by simp, fun x hx y hy => ?_⟩
        simp at hy
        rw [hy, e11p]
        exact lt8 x hx
      · rw [List.mem_append, g4 i]
        by_cases ei : i = p
        · subst ei
          simp [kW, kL, w3_eq, hp]
        · simp [kW, kL, w3_eq, ur_e, ei]
      · rw [e08]
        rcases List.mem_append.mp hi with hi | hi
        · have := lt8 i hi
          rw [Int32.lt_iff_toInt_lt] at this blt ⊢
          omega
        · simp at hi
          rw [hi, e11p]; exact blt
    · simp only [if_neg e]
      obtain ⟨gl, -, -⟩ := hRR.len hr9
      refine ⟨?_, ?_, pw, fun i => ?_, fun i hi => ?_⟩
      · simpa [mW, mL, w3_eq, ur_e, e] using g1
      · show AL (upd (t 39 0) (16 * R + (row R).length) (nI p)) _ _
        exact g2.out (by omega)
      · have := g4 i
        by_cases ei : i = p
        · subst ei
          simp only [hnp, false_iff, not_and]
          intro _
          simp only [kW, w3_eq]
          simp
          intro g
          exact e (rc_inj hr9 hR (nI_inj (by have := rc_lt hr9; omega) (by have := rc_lt hR; omega) g.symm))
        · simpa [kW, kL, w3_eq, ur_e, ei] using this
      · rw [e08]
        have := lt8 i hi
        rw [Int32.lt_iff_toInt_lt] at this blt ⊢
        omega
  · by_cases g : i = p
    · subst g
      right
      refine ⟨⟨R, hR, by simp [kW, kL, w3_eq], fun e => ?_⟩, ?_⟩
      · have := h16 e
        simpa [kW, kL, w3_eq, ur_e, upd_e] using this
      have : kW s a q i v (nI (rc R)) (nI b) (nI (b + 1)) 1 i 7 = v := by simp [kW, kL, w3_eq]
      rw [this]; exact hv
    · have := hRR.2 i hi
      simpa [kW, kL, w3_eq, ur_e, upd_e, g] using this

/-! the end of a process: it leaves queue and rows -/
theorem em_rows {p : Nat} {x : Int32} {s t : KS} {row : Nat → List Nat} (hp : p < 16) (hR : XR s t row) : ∃ n arr cn, (∀ r, r < 17 → cn r = nI (wo (row r) p).length ∧ AL arr (16 * r) (wo (row r) p)) ∧ ∀ Φ : KS → Prop, (∃ nn, w_M_end_49 (nI p) x Φ nn (nI 0) (w3 (w3 (w3 (ur (ur t 39 0 arr) 40 0 cn) 26 0 p 6) 33 0 p x) 34 0 p 0)) → w_M_end_7 (nI p) x Φ n (nI 0) t := by
  refine pk_loop (fun n i (t' : KS) => ∃ arr cn, (∀ r, r < 17 → cn r = nI (wo (row r) p).length ∧ AL arr (16 * r) (wo (row r) p)) ∧ ∀ Φ : KS → Prop, (∃ nn, w_M_end_49 (nI p) x Φ nn (nI 0) (w3 (w3 (w3 (ur (ur t 39 0 arr) 40 0 cn) 26 0 p 6) 33 0 p x) 34 0 p 0)) → w_M_end_7 (nI p) x Φ n (nI i) t')
    (fun i t' => ∃ arr cn, t' = ur (ur t 39 0 arr) 40 0 cn ∧ ∀ r, r < 17 → cn r = nI (if r < i then wo (row r) p else row r).length ∧ AL arr (16 * r) (if r < i then wo (row r) p else row r)) 17 0 t (by omega) ?_ ?_ ?_
  · refine ⟨t 39 0, t 40 0, by rw [ur_same, ur_same], fun r hr => ?_⟩
    rw [if_neg (by omega)]
    exact ⟨(hR.1 r hr).1, (hR.1 r hr).2.1⟩
  · rintro n t' ⟨arr, cn, ht, hr⟩
    refine ⟨arr, cn, fun r h => by have := hr r h; rw [if_pos h] at this; exact this, fun Φ hΦ => ?_⟩
    unfold w_M_end_7
    rw [cl (by omega)]
    refine ⟨fun _ => ⟨vin hp (by omega), fun s1 e1 => ⟨vin hp (by omega), fun s2 e2 => ⟨vin hp (by omega), fun s3 e3 => ?_⟩⟩⟩, fun h => absurd (by decide) h⟩
    rw [e3, e2, e1, ht]
    exact hΦ
  · rintro n i t' hi ⟨arr, cn, ht, hr⟩ hnext
    have hri := hr i hi
    rw [if_neg (by omega)] at hri
    obtain ⟨hl, hnd, hlt⟩ := hR.len hi
    obtain ⟨arr2, a1, a2, a3⟩ := em_leaveRow (t := t') (p := p) (L := row i) hi (by rw [ht, ur_e, if_pos ⟨rfl, rfl⟩]; exact hri.1) (by rw [ht]; exact hri.2) hl hp hlt
    obtain ⟨arr3, cn3, b1, b2⟩ := hnext (w3 (ur t' 39 0 arr2) 40 0 i (nI (wo (row i) p).length)) ⟨arr2, upd cn i (nI (wo (row i) p).length), by
      have e40 : ur t' 39 0 arr2 40 0 = cn := by
        rw [ht]
        rfl
      rw [w3_ur, e40, ht, ur_com (ur t 39 0 arr) cn arr2 (by decide), ur_ur, ur_ur], fun r hr9 => by
      have h9 := hr r hr9
      have a2' : ∀ j, j < 16 * i ∨ 16 * i + 16 ≤ j → arr2 j = arr j := fun j hj => by rw [a2 j hj, ht]; rfl
      rw [upd_e]
      by_cases e : r = i
      · subst e
        rw [if_pos rfl, if_pos (by omega)]
        exact ⟨rfl, a1⟩
      · rw [if_neg e]
        have e2 : (r < i + 1) ↔ (r < i) := by omega
        simp only [e2]
        refine ⟨h9.1, h9.2.cg (fun k hk => a2' _ ?_)⟩
        have hl2 : (if r < i then wo (row r) p else row r).length ≤ 16 := by
          have h5 := (hR.len hr9).1
          split
          · exact Nat.le_trans (wo_le _ _) h5
          · exact h5
        omega⟩
    refine ⟨arr3, cn3, b1, fun Φ hΦ => ?_⟩
    unfold w_M_end_7
    refine ⟨fun h => absurd h (nI_ge (b := 17) hi (by omega)), fun _ => a3 _ (fun y ey => ?_)⟩
    rw [ey, nI_1]
    exact b2 Φ hΦ
theorem wo_nd {q : List Nat} {p : Nat} (h : q.Nodup) : (wo q p).Nodup := h.filter _
/-- what the end changes at its beginning -/
def kE1 (s : KS) (p : Nat) (x : Int32) (arr r0 : Nat → Int32) : KS := w3 (w3 (w3 (ur (ur s 8 0 arr) 0 0 r0) 1 p 10 (-1)) 1 p 7 6) 1 p 8 x
def mE1 (t : KS) (p : Nat) (x : Int32) (arr r0 arr2 cn : Nat → Int32) : KS := w3 (w3 (w3 (ur (ur (ur (ur t 35 0 arr) 20 0 r0) 39 0 arr2) 40 0 cn) 26 0 p 6) 33 0 p x) 34 0 p 0
theorem e1_P {s t : KS} {p : Nat} {x : Int32} {a b c d e f : Nat → Int32} (hp : p < 16) (h : XP s t) (h0 : ¬ s 1 p 7 = 0) : XP (kE1 s p x a b) (mE1 t p x c d e f) := by
  obtain ⟨h1, h2, h3, h4, h5, h6⟩ := h
  refine ⟨fun i hi => ?_, fun i hi => ?_, fun i hi => ?_, fun i hi h9 => ?_, fun i hi d hd => h5 i hi d hd, fun i hi h9 => ?_⟩
  · have := h1 i hi
    simpa [kE1, w3_eq, ur_e] using this
  · have := h2 i hi
    by_cases e : i = p
    · simp [kE1, mE1, w3_eq, ur_e, e]
    · simpa [kE1, mE1, w3_eq, ur_e, e] using this
  · have := h3 i hi
    by_cases e : i = p
    · simp [kE1, mE1, w3_eq, ur_e, e]
    · simpa [kE1, mE1, w3_eq, ur_e, e] using this
  · have := h4 i hi
    by_cases e : i = p
    · simp [kE1, mE1, w3_eq, ur_e, e]
    · simp [kE1, w3_eq, ur_e, e] at h9
      simpa [kE1, mE1, w3_eq, ur_e, e] using this h9
  · have hbi : Bo s t i := by
      by_cases e : i = p
      · rw [e]; exact h6 p hp h0
      · exact h6 i hi (by simpa [kE1, w3_eq, ur_e, e] using h9)
    obtain ⟨m, b0, b1, b2, b3, b4, b5, b6⟩ := hbi
    exact ⟨m, b0, by simpa [kE1, w3_eq, ur_e] using b1, b2, by simpa [kE1, mE1, w3_eq, ur_e] using b3, by simpa [kE1, mE1, w3_eq, ur_e] using b4, b5, b6⟩
theorem e1_Y {s t : KS} {p : Nat} {x : Int32} {q : List Nat} {row : Nat → List Nat} {a c e f d1 : Nat → Int32} {v v2 : Int32} (hp : p < 16) (h : XY s t q row) (h0 : ¬ s 1 p 7 = 0) (ha : AL a 0 (wo q p)) (hc : AL c 0 (wo q p)) (hr : ∀ r, r < 17 → f r = nI (wo (row r) p).length ∧ AL e (16 * r) (wo (row r) p)) : XY (kE1 s p x a (upd (upd (s 0 0) 6 v) 5 (nI (wo q p).length))) (mE1 t p x c (upd (upd (t 20 0) 16 (nI (wo q p).length)) 17 v2) e f) (wo q p) (fun r => wo (row r) p) := by
  obtain ⟨hP, hQ, hB, hR⟩ := h
  refine ⟨e1_P hp hP h0, ⟨?_, ?_, ?_, ?_, wo_nd hQ.2.2.2.2.1, fun i hi => hQ.2.2.2.2.2 i (wo_mem.mp hi).1⟩, fun i hi => ?_, fun r hr9 => ?_, fun i hi => ?_⟩
  · simp [kE1, w3_eq, ur_e, upd_e]
  · simp [mE1, w3_eq, ur_e, upd_e]
  · exact ha
  · exact hc
  · rw [wo_mem, hB i hi]
    by_cases g : i = p
    · subst g; simp [kE1, w3_eq]
    · simp [kE1, w3_eq, ur_e, g]
  · obtain ⟨g1, g2, g3, g4, g5⟩ := hR.1 r hr9
    refine ⟨?_, ?_, ?_, fun i => ?_, fun i hi => ?_⟩
    · have := (hr r hr9).1
      simpa [mE1, w3_eq, ur_e] using this
    · exact (hr r hr9).2
    · refine (g3.filter _).imp (fun {a b} hab => ?_)
      simpa [kE1, w3_eq, ur_e] using hab
    · show i ∈ wo (row r) p ↔ _
      rw [wo_mem, g4 i]
      by_cases g : i = p
      · subst g
        simp only [kE1, w3_eq]
        simp
        exact fun _ g => nI_m1 (n := rc r) (by have := rc_lt hr9; omega) g.symm
      · simp [kE1, w3_eq, ur_e, g]
    · have := g5 i (wo_mem.mp hi).1
      simpa [kE1, w3_eq, ur_e, upd_e] using this
  · by_cases g : i = p
    · subst g; left; simp [kE1, w3_eq]
    · have := hR.2 i hi
      simpa [kE1, w3_eq, ur_e, upd_e, g] using this

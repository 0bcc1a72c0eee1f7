theorem end_pair {cp T p : Nat} {x : Int32} {s t : KS} {q : List Nat} {row : Nat → List Nat} (h : XY s t q row) (hH : XH cp T s t) (hF : XF s t) (hZ : Z s T) (hp : p < 16) (h0 : ¬ s 1 p 7 = 0) : ∃ s' t' L row', EK (w_K_end cp p x s) s' ∧ EK (w_M_end (nI p) x t) t' ∧ XY s' t' (wo q p ++ L) row' ∧ XH cp T s' t' ∧ XF s' t' ∧ Z s' T ∧ (s' 1 p 7 = 0 ∨ s' 1 p 7 = 6) ∧ s' 0 0 6 = (if q.head? = some p then 0 else s 0 0 6) ∧ t' 20 0 17 = (if q.head? = some p then 0 else t 20 0 17) ∧ t' 20 0 18 = t 20 0 18 ∧ t' 20 0 0 = t 20 0 0 ∧ s' 0 0 9 = s 0 0 9 := by
  obtain ⟨arr, a1, a2⟩ := ek_leaveQueue (cp := cp) h.2.1.1 h.2.1.2.2.1 h.2.1.len (h.1.1 p hp) hp h.2.1.2.2.2.2.2
  obtain ⟨arrM, b1, b2⟩ := em_leaveQueue (p := p) h.2.1.2.1 h.2.1.2.2.2.1 h.2.1.len hp h.2.1.2.2.2.2.2
  obtain ⟨n, arr2, cn, c1, c2⟩ := em_rows (x := x) (s := s) (t := ur (ur t 35 0 arrM) 20 0 (upd (upd (t 20 0) 16 (nI (wo q p).length)) 17 (if q.head? = some p then 0 else t 20 0 17))) hp h.2.2.2
  have hY1 := e1_Y (x := x) (v := if q.head? = some p then 0 else s 0 0 6) (v2 := if q.head? = some p then 0 else t 20 0 17) (d1 := arr) hp h h0 a1 b1 c1
  generalize hs1 : kE1 s p x arr (upd (upd (s 0 0) 6 (if q.head? = some p then 0 else s 0 0 6)) 5 (nI (wo q p).length)) = s1 at hY1
  generalize ht1 : mE1 t p x arrM (upd (upd (t 20 0) 16 (nI (wo q p).length)) 17 (if q.head? = some p then 0 else t 20 0 17)) arr2 cn = t1 at hY1
  have hH1 : XH cp T s1 t1 := by rw [← hs1, ← ht1]; exact hH
  have hF1 : XF s1 t1 := by rw [← hs1, ← ht1]; exact hF
  have st1 : ∀ i, i ≠ p → s1 1 i 7 = s 1 i 7 := fun i e => by rw [← hs1]; simp [kE1, w3_eq, ur_e, e]
  have st1p : s1 1 p 7 = 6 := by rw [← hs1]; simp [kE1, w3_eq]
  have fl1 : ∀ i k, k ≠ 7 → k ≠ 10 → k ≠ 8 → s1 1 i k = s 1 i k := fun i k h7 h10 h8 => by rw [← hs1]; simp [kE1, w3_eq, ur_e, h7, h10, h8]
  have d1 : s1 4 = s 4 := by rw [← hs1]; rfl
  obtain ⟨s2, t2, L1, row2, k1, k2, k3, k4, k5, k6, k7⟩ := cl_loop (cp := cp) (T := T) (x := x) hp 8 0 s1 t1 _ _ rfl hY1 hH1 hF1
  obtain ⟨f1, f2, f3, f8, f9, f10, f11, f12, f13, f14⟩ := k6
  have st2 : ∀ i, i < 16 → i ≠ p → s2 1 i 7 = s 1 i 7 ∨ (s2 1 i 7 = 1 ∧ (s 1 i 7 = 2 ∨ s 1 i 7 = 3)) := fun i hi e => by
    have := f10 i hi
    rw [st1 i e] at this
    exact this
  have st2p : s2 1 p 7 = 6 := by
    rcases f10 p hp with g | ⟨-, g⟩
    · rw [g]; exact st1p
    · rw [st1p] at g; rcases g with g | g <;> exact absurd g (by decide)
  have back : ∀ i (v : Int32), i < 16 → i ≠ p → s2 1 i 7 = v → v ≠ 1 → s 1 i 7 = v := fun i v hi e g hv => by
    rcases st2 i hi e with c | ⟨c, -⟩
    · rw [← c]; exact g
    · rw [c] at g; exact absurd g.symm hv
  have par2 : ∀ i, s2 1 i 6 = s 1 i 6 := fun i => by rw [f1 i 6 (by decide) (by decide), fl1 i 6 (by decide) (by decide) (by decide)]
  obtain ⟨Z1, Z2, Z3, Z4⟩ := hZ
  obtain ⟨s', t', L2, e1, e2, hY', hH', hF', hZ', hpp, g0, g20, -⟩ := end_tail (cp := cp) (T := T) (x := x) k3 k4 k5 hp st2p
    (fun i hi hz d hd => by
      rw [k7 i d hd]
      by_cases e : i = p
      · rw [if_pos ⟨e, by omega⟩]
      · rw [if_neg (fun g => e g.1), d1]
        refine Z1 i hi ?_ d hd
        rcases hz with hz | hz
        · exact Or.inl (back i 0 hi e hz (by decide))
        · exact Or.inr (back i 6 hi e hz (by decide)))
    (fun i hi hz => by
      rw [par2 i]
      have hi0 : ¬ s 1 i 7 = 0 := by
        by_cases e : i = p
        · rw [e]; exact h0
        · intro g
          rcases st2 i hi e with c | ⟨-, c⟩
          · rw [c] at hz; exact hz g
          · rw [g] at c; rcases c with c | c <;> exact absurd c (by decide)
      rcases Z2 i hi hi0 with g | ⟨j, hj, ej, j0, j6⟩
      · exact Or.inl g
      · refine Or.inr ⟨j, hj, ej, ?_⟩
        by_cases e : j = p
        · exact Or.inr e
        · left
          rcases st2 j hj e with c | ⟨c, -⟩
          · rw [c]; exact ⟨j0, j6⟩
          · rw [c]; exact ⟨by decide, by decide⟩)
    (fun i hi h4 c hc hcp ⟨c6, cpar⟩ => by
      have ip : i ≠ p := fun e => by rw [e, st2p] at h4; exact absurd h4 (by decide)
      rw [par2 c] at cpar
      exact Z3 i hi (back i 4 hi ip h4 (by decide)) c hc ⟨back c 6 hc hcp c6 (by decide), cpar⟩)
    (fun i hi h5 => by
      have ip : i ≠ p := fun e => by rw [e, st2p] at h5; exact absurd h5 (by decide)
      rw [f1 i 9 (by decide) (by decide), fl1 i 9 (by decide) (by decide) (by decide)]
      exact Z4 i hi (back i 5 hi ip h5 (by decide)))
  refine ⟨s', t', L1 ++ L2, row2, fun Φ hΦ => ?_, fun Φ hΦ => ?_, by rw [← List.append_assoc]; exact hY', hH', hF', hZ', hpp, ?_, ?_, ?_, ?_, ?_⟩
  · unfold w_K_end
    refine a2 _ (fun u2 v2 u3 v3 u4 v4 => ⟨9, ?_⟩)
    have : u4 = s1 := by rw [v4, v3, v2, ← hs1]; rfl
    rw [this]
    exact k1 Φ (e1 Φ hΦ)
  · unfold w_M_end
    refine b2 _ ⟨n, c2 Φ ⟨9, ?_⟩⟩
    have := k2 Φ (e2 Φ hΦ)
    rw [← ht1] at this
    exact this
  · rw [g0 6 (by decide), f8 6 (by decide), ← hs1]; simp [kE1, w3_eq, ur_e, upd_e]
  · rw [g20 17 (by decide), f11 17 (by decide), ← ht1]; simp [mE1, w3_eq, ur_e, upd_e]
  · rw [g20 18 (by decide), f11 18 (by decide), ← ht1]; simp [mE1, w3_eq, ur_e, upd_e]
  · rw [g20 0 (by decide), f11 0 (by decide), ← ht1]; simp [mE1, w3_eq, ur_e, upd_e]
  · rw [g0 9 (by decide), f8 9 (by decide), ← hs1]; simp [kE1, w3_eq, ur_e, upd_e]

/-! one instruction of the first in the queue: what both come to -/
def Out (cp T p : Nat) (s t s' t' : KS) : Prop := ∃ q' row', XY s' t' q' row' ∧ XH cp T s' t' ∧ XF s' t' ∧ Z s' T ∧ t' 20 0 0 = t 20 0 0 ∧ s' 0 0 9 = s 0 0 9 ∧ ((q'.head? = some p ∧ s' 0 0 6 = s 0 0 6 ∧ t' 20 0 17 = t 20 0 17 ∧ t' 20 0 18 = t 20 0 18) ∨ (s' 0 0 6 = 0 ∧ t' 20 0 17 = 0 ∧ ((p ∉ q' ∧ t' 20 0 18 = t 20 0 18) ∨ (p ∈ q' ∧ t' 20 0 18 = 1))))
/-- what holds before it -/
def Pre (cp T p : Nat) (s t : KS) (q : List Nat) (row : Nat → List Nat) : Prop := XY s t q row ∧ XH cp T s t ∧ XF s t ∧ Z s T ∧ p < 16 ∧ q.head? = some p ∧ (∃ b, s 0 0 8 = nI b ∧ b < T) ∧ (∃ n, s 0 0 13 = nI n ∧ n < T)
section OU
variable {cp T p : Nat} {s t s1 t1 s' t' : KS} {q : List Nat} {row : Nat → List Nat} {L : List Int32} {pl : Int32} {m : Nat → Int32}
theorem hd_mem (h : q.head? = some p) : p ∈ q := by
  cases q with
  | nil => simp at h
  | cons a l => simp at h; simp [h]
theorem Pre.st1 (h : Pre cp T p s t q row) : s 1 p 7 = 1 := (h.1.2.2.1 p h.2.2.2.2.1).mp (hd_mem h.2.2.2.2.2.1)
theorem Pre.st0 (h : Pre cp T p s t q row) : ¬ s 1 p 7 = 0 := by rw [h.st1]; decide
theorem Pre.data (h : Pre cp T p s t q row) (kf : KF p s s1) (mf : MF p t t1) (kv : KV s1 p L pl m) (mv : MV t1 p L pl m) (hl : L.length ≤ 32) : Pre cp T p s1 t1 q row := by
  have h0 := h.st0
  obtain ⟨hY, hH, hF, hZ, hp, hq, hb, hn⟩ := h
  have e0 := kf.1 0 (by decide) (by decide) (by decide)
  refine ⟨du_Y hY hp h0 kf mf kv mv hl, du_H kf mf hH, du_F kf mf hF, du_Z kf hZ, hp, hq, ?_, ?_⟩
  · rw [e0]; exact hb
  · rw [e0]; exact hn
theorem Pre.out (h : Pre cp T p s t q row) : Out cp T p s t s t := by
  obtain ⟨hY, hH, hF, hZ, hp, hq, hb, hn⟩ := h
  exact ⟨q, row, hY, hH, hF, hZ, rfl, rfl, Or.inl ⟨hq, rfl, rfl, rfl⟩⟩
theorem Out.frm (kf : KF p s s1) (mf : MF p t t1) (h : Out cp T p s1 t1 s' t') : Out cp T p s t s' t' := by
  have e0 := kf.1 0 (by decide) (by decide) (by decide)
  have e20 := mf.1 20 (by decide) (by decide) (by decide) (by decide)
  unfold Out at *
  rw [e0, e20] at h
  exact h
/-- a change of its own data alone -/
theorem out_data (h : Pre cp T p s t q row) (kf : KF p s s1) (mf : MF p t t1) (kv : KV s1 p L pl m) (mv : MV t1 p L pl m) (hl : L.length ≤ 32) : Out cp T p s t s1 t1 := (h.data kf mf kv mv hl).out.frm kf mf
theorem out_end {x : Int32} (h : Pre cp T p s t q row) : ∃ s' t', EK (w_K_end cp p x s) s' ∧ EK (w_M_end (nI p) x t) t' ∧ Out cp T p s t s' t' := by
  have h0 := h.st0
  obtain ⟨hY, hH, hF, hZ, hp, hq, hb, hn⟩ := h
  obtain ⟨s', t', L, row', k1, k2, k3, k4, k5, k6, k7, k8, k9, k10, k11, k12⟩ := end_pair (x := x) hY hH hF hZ hp h0
  rw [if_pos hq] at k8 k9
  refine ⟨s', t', k1, k2, _, row', k3, k4, k5, k6, k11, k12, Or.inr ⟨k8, k9, Or.inl ⟨fun hm => ?_, k10⟩⟩⟩
  have := (k3.2.2.1 p hp).mp hm
  rcases k7 with g | g <;> rw [g] at this <;> exact absurd this (by decide)
theorem wo_hd {v : Nat} {M : List Nat} (h : q.head? = some p) (hv : v ≠ p) : (wo q v ++ M).head? = some p := by
  cases q with
  | nil => simp at h
  | cons a l =>
    simp at h
    subst h
    unfold wo
    rw [List.filter_cons_of_pos (by simp; exact fun e => hv e.symm)]
    rfl
theorem app_hd {M : List Nat} (h : q.head? = some p) : (q ++ M).head? = some p := by
  cases q with
  | nil => simp at h
  | cons a l => simpa using h
theorem out_kill {x : Int32} {v : Nat} (h : Pre cp T p s t q row) (hv : v < 16) (hvp : v ≠ p) (h0 : ¬ s 1 v 7 = 0) : ∃ s' t', EK (w_K_end cp v x s) s' ∧ EK (w_M_end (nI v) x t) t' ∧ Out cp T p s t s' t' := by
  obtain ⟨hY, hH, hF, hZ, hp, hq, hb, hn⟩ := h
  obtain ⟨s', t', L, row', k1, k2, k3, k4, k5, k6, k7, k8, k9, k10, k11, k12⟩ := end_pair (x := x) hY hH hF hZ hv h0
  have hne : ¬ q.head? = some v := fun e => hvp (Option.some.inj (e.symm.trans hq))
  rw [if_neg hne] at k8 k9
  exact ⟨s', t', k1, k2, _, row', k3, k4, k5, k6, k11, k12, Or.inl ⟨wo_hd hq hvp, k8, k9, k10⟩⟩
/-! to the queue's end -/
theorem st_backM (f : KS) (p : Nat) (h1 : f 26 0 p = 1) (h2 : f 34 0 p = 0) : w3 (w3 (w3 (w3 f 26 0 p 4) 34 0 p 0) 26 0 p 1) 34 0 p 0 = f := by
  funext a b k
  rw [w3_eq, w3_eq, w3_eq, w3_eq]
  by_cases c1 : a = 34 ∧ b = 0 ∧ k = p
  · rw [if_pos c1, c1.1, c1.2.1, c1.2.2, h2]
  · rw [if_neg c1, if_neg c1]
    by_cases c2 : a = 26 ∧ b = 0 ∧ k = p
    · rw [if_pos c2, c2.1, c2.2.1, c2.2.2, h1]
    · rw [if_neg c2, if_neg c2]
theorem st_backK (f : KS) (p : Nat) : w3 (w3 (w3 f 1 p 7 4) 1 p 9 (f 1 p 9)) 1 p 7 1 = w3 f 1 p 7 1 := by
  funext a b k
  rw [w3_eq, w3_eq, w3_eq, w3_eq]
  by_cases c1 : a = 1 ∧ b = p ∧ k = 7
  · rw [if_pos c1, if_pos c1]
  · rw [if_neg c1, if_neg c1, if_neg c1]
    by_cases c2 : a = 1 ∧ b = p ∧ k = 9
    · rw [if_pos c2, c2.1, c2.2.1, c2.2.2]
    · rw [if_neg c2]
theorem te_pair (hY : XY s t q row) (hH : XH cp T s t) (hF : XF s t) (hZ : Z s T) (hp : p < 16) (h1 : s 1 p 7 = 1) : ∃ s' t', EK (w_K_goToQueueEnd cp p s) s' ∧ EK (w_M_toEnd (nI p) t) t' ∧ XY s' t' (wo q p ++ [p]) row ∧ XH cp T s' t' ∧ XF s' t' ∧ Z s' T ∧ s' 0 0 6 = (if q.head? = some p then 0 else s 0 0 6) ∧ t' 20 0 17 = 0 ∧ t' 20 0 18 = 1 ∧ t' 20 0 0 = t 20 0 0 ∧ s' 0 0 9 = s 0 0 9 := by
  obtain ⟨a, b, ha, hb, ek, em⟩ := lq_pair (cp := cp) hY hp
  have hpw : p ∉ wo q p := fun g => (wo_mem.mp g).2 rfl
  have Y1 := ls_Y (v := 4) (w := s 1 p 9) (w2 := 0) hY hp h1 ha hb (Or.inl ⟨rfl, rfl⟩)
  have hlen := Y1.2.1.lt hp hpw
  have e26 : mL t b q p 26 0 p = 1 := by
    show t 26 0 p = 1
    rw [hY.1.2.1 p hp]; exact h1
  have e34 : mL t b q p 34 0 p = 0 := by
    show t 34 0 p = 0
    rw [hY.1.2.2.1 p hp, h1]; rfl
  have Y2 := rd_Y Y1 hp hpw (by
    have := hY.norow hp (by rw [h1]; decide) (by rw [h1]; decide)
    simpa [kS, kL, w3_eq, ur_e] using this) (Y1.1.2.2.2.2.2 p hp (by
    have : kS s a q p 4 (s 1 p 9) 1 p 7 = 4 := by simp [kS, kL, w3_eq]
    rw [this]; decide))
  have ks : kRd (kS s a q p 4 (s 1 p 9)) p (wo q p).length = kRd (kL s a q p) p (wo q p).length := by
    unfold kRd kS
    have : s 1 p 9 = kL s a q p 1 p 9 := rfl
    rw [this, st_backK]
  have ms : mRd (mS t b q p 4 0) p (wo q p).length = w3 (w3 (mL t b q p) 35 0 (wo q p).length (nI p)) 20 0 16 (nI ((wo q p).length + 1)) := by
    unfold mRd mS
    rw [st_backM _ _ e26 e34]
  rw [ks, ms] at Y2
  have k0 : kL s a q p 0 0 5 = nI (wo q p).length := by simp [kL, ur_e, upd_e]
  have m0 : mL t b q p 20 0 16 = nI (wo q p).length := by simp [mL, ur_e, upd_e]
  refine ⟨kRd (kL s a q p) p (wo q p).length, w3 (w3 (w3 (w3 (mL t b q p) 35 0 (wo q p).length (nI p)) 20 0 16 (nI ((wo q p).length + 1))) 20 0 17 0) 20 0 18 1, fun Φ hΦ => ?_, fun Φ hΦ => ?_, Y2, hH, hF, ?_, ?_, rfl, rfl, ?_, ?_⟩
  · unfold w_K_goToQueueEnd
    exact ek _ (ek_makeReady (s := kL s a q p) k0 hlen (hY.1.1 p hp) _ hΦ)
  · unfold w_M_toEnd
    refine em _ ?_
    rw [m0, cl (by omega)]
    refine ⟨vin hlen (by omega), fun s2 e2 s3 e3 s4 e4 s5 e5 => ?_⟩
    have : s2 20 0 16 = nI (wo q p).length := by rw [e2]; exact m0
    rw [e5, e4, e3, this, nI_1, e2]
    exact hΦ
  · obtain ⟨Z1, Z2, Z3, Z4⟩ := hZ
    have st : ∀ i, kRd (kL s a q p) p (wo q p).length 1 i 7 = s 1 i 7 := fun i => by
      by_cases e : i = p
      · subst e; rw [h1]; simp [kRd, w3_eq]
      · simp [kRd, kL, w3_eq, ur_e, e]
    have par : ∀ i, kRd (kL s a q p) p (wo q p).length 1 i 6 = s 1 i 6 := fun i => by simp [kRd, kL, w3_eq, ur_e]
    have wt : ∀ i, kRd (kL s a q p) p (wo q p).length 1 i 9 = s 1 i 9 := fun i => by simp [kRd, kL, w3_eq, ur_e]
    unfold Z
    simp only [st, par, wt]
    exact ⟨Z1, Z2, Z3, Z4⟩
  · simp [kRd, kL, w3_eq, ur_e, upd_e]
  · simp [mL, w3_eq, ur_e, upd_e]
  · simp [kRd, kL, w3_eq, ur_e, upd_e]
theorem out_yield (h : Pre cp T p s t q row) : ∃ s' t', EK (w_K_goToQueueEnd cp p s) s' ∧ EK (w_M_toEnd (nI p) t) t' ∧ Out cp T p s t s' t' := by
  have h1 := h.st1
  obtain ⟨hY, hH, hF, hZ, hp, hq, hb, hn⟩ := h
  obtain ⟨s', t', k1, k2, k3, k4, k5, k6, k7, k8, k9, k10, k11⟩ := te_pair (cp := cp) hY hH hF hZ hp h1
  rw [if_pos hq] at k7
  exact ⟨s', t', k1, k2, _, row, k3, k4, k5, k6, k10, k11, Or.inr ⟨k7, k8, Or.inr ⟨by simp, k9⟩⟩⟩
end OU

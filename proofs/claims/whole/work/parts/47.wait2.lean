section WA
variable {cp T p : Nat} {s t s1 t1 s' t' : KS} {q : List Nat} {row : Nat → List Nat} {L : List Int32} {pl : Int32} {m : Nat → Int32}
theorem w3_id (f : KS) (a b k : Nat) (v : Int32) (h : f a b k = v) : w3 f a b k v = f := by
  funext x y z
  rw [w3_eq]
  by_cases c : x = a ∧ y = b ∧ z = k
  · rw [if_pos c, c.1, c.2.1, c.2.2, h]
  · rw [if_neg c]
/-- it waits for a child -/
theorem out_w4 {a : Nat} (h : Pre cp T p s t q row) (kv : KV s p L pl m) (ha : a < 128) (hpl : pl = nI a) (hk : m a &&& 255 = nI 36) (hno : ∀ c, c < 16 → ¬ (isC s p c ∧ s 1 c 7 = 6)) : ∃ s' t', EK (w_K_beginToWait cp p s) s' ∧ (∀ Φ : KS → Prop, Φ t' → w_M_leaveQueue (nI p) t (fun s12 => vp_in (nI p) 16 ∧ ∀ s13 : KS, s13 = w3 s12 26 0 (nI p).toNatClampNeg (4 : Int32) → Φ s13)) ∧ Out cp T p s t s' t' := by
  have h1 := h.st1
  obtain ⟨hY, hH, hF, hZ, hp, hq, hb, hn⟩ := h
  obtain ⟨a1, b1, ea, eb, ek, em⟩ := lq_pair (cp := cp) hY hp
  have Y1 := ls_Y (v := 4) (w := s 1 p 9) (w2 := 0) hY hp h1 ea eb (Or.inl ⟨rfl, rfl⟩)
  have Z1 := ls_Z (w := s 1 p 9) (q := q) (a := a1) hZ hp h1 (Or.inl ⟨rfl, hno⟩)
  have ks : kS s a1 q p 4 (s 1 p 9) = w3 (kL s a1 q p) 1 p 7 4 := by
    unfold kS
    exact w3_id _ _ _ _ _ (by simp [kL, w3_eq, ur_e])
  have ms : mS t b1 q p 4 0 = w3 (mL t b1 q p) 26 0 p 4 := by
    unfold mS
    refine w3_id _ _ _ _ _ ?_
    show t 34 0 p = 0
    rw [hY.1.2.2.1 p hp, h1]; rfl
  rw [ks, ms] at Y1
  rw [ks] at Z1
  refine ⟨w3 (kL s a1 q p) 1 p 7 4, w3 (mL t b1 q p) 26 0 p 4, fun Φ hΦ => ?_, fun Φ hΦ => ?_, wo q p, row, Y1, hH, hF, Z1, ?_, ?_, Or.inr ⟨?_, ?_, Or.inl ⟨fun g => (wo_mem.mp g).2 rfl, ?_⟩⟩⟩
  · unfold w_K_beginToWait
    have kv2 : KV (kL s a1 q p) p L pl m := kv
    exact ek _ (ek_kind kv2 ha hpl hk _ ⟨fun g => absurd rfl g, fun _ s4 e4 => by rw [e4]; exact hΦ⟩)
  · refine em _ ⟨vin hp (by omega), fun s13 e13 => ?_⟩
    rw [e13, cl (by omega)]
    exact hΦ
  · simp [mL, w3_eq, ur_e, upd_e]
  · simp [kL, w3_eq, ur_e, upd_e]
  · simp [kL, w3_eq, ur_e, upd_e, hq]
  · simp [mL, w3_eq, ur_e, upd_e, hq]
  · simp [mL, w3_eq, ur_e, upd_e]
theorem kW_Z {a : Nat → Int32} {v x b b1 : Int32} (hZ : Z s T) (hp : p < 16) (h1 : s 1 p 7 = 1) (hv : v = 2 ∨ v = 3) : Z (kW s a q p v x b b1) T := by
  obtain ⟨Z1, Z2, Z3, Z4⟩ := hZ
  have v0 : ¬ v = 0 := by rcases hv with g | g <;> rw [g] <;> decide
  have v6 : ¬ v = 6 := by rcases hv with g | g <;> rw [g] <;> decide
  have v4 : ¬ v = 4 := by rcases hv with g | g <;> rw [g] <;> decide
  have v5 : ¬ v = 5 := by rcases hv with g | g <;> rw [g] <;> decide
  have st : ∀ i, i ≠ p → kW s a q p v x b b1 1 i 7 = s 1 i 7 := fun i e => by simp [kW, kL, w3_eq, ur_e, e]
  have stp : kW s a q p v x b b1 1 p 7 = v := by simp [kW, kL, w3_eq]
  have par : ∀ i, kW s a q p v x b b1 1 i 6 = s 1 i 6 := fun i => by simp [kW, kL, w3_eq, ur_e]
  have wt : ∀ i, kW s a q p v x b b1 1 i 9 = s 1 i 9 := fun i => by simp [kW, kL, w3_eq, ur_e]
  refine ⟨fun i hi hz d hd => ?_, fun i hi hz => ?_, fun i hi h4 c hc => ?_, fun i hi h5 => ?_⟩
  · by_cases e : i = p
    · rw [e, stp] at hz
      rcases hz with hz | hz
      · exact absurd hz v0
      · exact absurd hz v6
    · rw [st i e] at hz
      exact Z1 i hi hz d hd
  · rw [par i]
    have hi0 : ¬ s 1 i 7 = 0 := by
      by_cases e : i = p
      · rw [e, h1]; decide
      · rw [st i e] at hz; exact hz
    rcases Z2 i hi hi0 with g | ⟨j, hj, ej, j0, j6⟩
    · exact Or.inl g
    · refine Or.inr ⟨j, hj, ej, ?_⟩
      by_cases e : j = p
      · rw [e, stp]; exact ⟨v0, v6⟩
      · rw [st j e]; exact ⟨j0, j6⟩
  · rw [par c]
    rintro ⟨c6, cp⟩
    have cne : c ≠ p := fun e => by rw [e, stp] at c6; exact v6 c6
    rw [st c cne] at c6
    by_cases e : i = p
    · rw [e, stp] at h4; exact absurd h4 v4
    · rw [st i e] at h4
      exact Z3 i hi h4 c hc ⟨c6, cp⟩
  · by_cases e : i = p
    · rw [e, stp] at h5; exact absurd h5 v5
    · rw [st i e] at h5
      rw [wt i]
      exact Z4 i hi h5
/-- it stands in a row -/
theorem out_row {a R : Nat} {k : Nat} {v y : Int32} (h : Pre cp T p s t q row) (hl : L.length < 32) (kv : KV s p (L ++ [y]) pl m) (ha : a < 128) (hpl : pl = nI a) (hk : m a &&& 255 = nI k) (hv : (k = 33 ∧ v = 3) ∨ (k = 34 ∧ v = 2)) (hR : R < 17) (h16 : R = 16 → t 20 0 25 = 0) (hd : dAt s p y = nI (rc R)) : ∃ s' t', EK (w_K_beginToWait cp p s) s' ∧ EK (w_M_stand (nI R) (nI p) v t) t' ∧ Out cp T p s t s' t' := by
  have h1 := h.st1
  obtain ⟨hY, hH, hF, hZ, hp, hq, ⟨b, hb, hbT⟩, hn⟩ := h
  have hT : T ≤ 70000 := hH.2.2.2.2.2.2.2.2.1
  obtain ⟨a1, b1, ea, eb, ek, em⟩ := lq_pair (cp := cp) hY hp
  have hv2 : v = 2 ∨ v = 3 := by rcases hv with ⟨-, g⟩ | ⟨-, g⟩; exact Or.inr g; exact Or.inl g
  have h16' : R = 16 → s 0 0 11 = 0 := fun e => by
    obtain ⟨l, -, -, g, -⟩ := hH.2.2.1
    rw [← g]; exact h16 e
  have Y1 := lw_Y2 hY hp h1 ea eb hv2 hR hb (by omega) h16'
  have Z1 := kW_Z (q := q) (a := a1) (x := nI (rc R)) (b := nI b) (b1 := nI (b + 1)) hZ hp h1 hv2
  have hr := hY.2.2.2.1 R hR
  have hrl := (hY.2.2.2.len hR).1
  have hno : p ∉ row R := fun g => by
    have := ((hr.2.2.2.1 p).mp g).2
    rw [hY.norow hp (by rw [h1]; decide) (by rw [h1]; decide)] at this
    exact nI_m1 (n := rc R) (by have := rc_lt hR; omega) this.symm
  have hrl2 : (row R).length < 16 := by
    obtain ⟨-, hnd, hlt⟩ := hY.2.2.2.len hR
    exact nd_lt hnd hlt hp hno
  have H1 : XH cp T (kW s a1 q p v (nI (rc R)) (nI b) (nI (b + 1))) (mW t b1 q p R (row R).length v) := by
    obtain ⟨E, C, I, O, S1, S2, S3, S4, S5, S6, S7, S8⟩ := hH
    exact ⟨E, C, I, O, S1, S2, S3, S4, S5, S6, S7, ⟨b + 1, by simp [kW, w3_eq], by omega⟩⟩
  have kvL : KV (kL s a1 q p) p (L ++ [y]) pl m := kv
  have kv7 : KV (w3 (kL s a1 q p) 1 p 7 v) p (L ++ [y]) pl m := by
    obtain ⟨g1, g2, g3, g4⟩ := kvL
    exact ⟨by simpa [w3_eq] using g1, g2, by simpa [w3_eq] using g3, g4⟩
  have h34 : EK (fun Φ => w_K_beginToWait_34 cp p Φ v (kL s a1 q p)) (kW s a1 q p v (nI (rc R)) (nI b) (nI (b + 1))) := by
    intro Φ hΦ
    unfold w_K_beginToWait_34
    intro s1 e1
    rw [e1]
    refine ek_top kv7 hl _ (ek_descAt _ (fun s6 e6 s7 e7 s8 e8 => ?_))
    have d1 : dAt (w3 (kL s a1 q p) 1 p 7 v) p y = nI (rc R) := hd
    rw [d1] at e6
    have e08 : s6 0 0 8 = nI b := by rw [e6]; simpa [kL, w3_eq, ur_e, upd_e] using hb
    have e08' : s7 0 0 8 = nI b := by rw [e7]; simpa [w3_eq] using e08
    rw [e08] at e7
    rw [e08', nI_1] at e8
    rw [e8, e7, e6]
    exact hΦ
  refine ⟨_, _, fun Φ hΦ => ?_, fun Φ hΦ => ?_, wo q p, _, Y1, H1, hF, Z1, ?_, ?_, Or.inr ⟨?_, ?_, Or.inl ⟨fun g => (wo_mem.mp g).2 rfl, ?_⟩⟩⟩
  · unfold w_K_beginToWait
    refine ek _ (ek_kind kvL ha hpl hk _ ⟨fun _ => ⟨fun g => ?_, fun g => ?_⟩, fun g => ?_⟩)
    · rcases hv with ⟨k3, ev⟩ | ⟨k3, ev⟩
      · rw [← ev]; exact h34 Φ hΦ
      · rw [k3] at g; exact absurd rfl g
    · rcases hv with ⟨k3, ev⟩ | ⟨k3, ev⟩
      · rw [k3] at g; exact absurd g (by decide)
      · rw [← ev]; exact h34 Φ hΦ
    · rcases hv with ⟨k3, ev⟩ | ⟨k3, ev⟩ <;> rw [k3] at g <;> exact absurd g (by decide)
  · unfold w_M_stand
    refine em _ ⟨vin hp (by omega), fun s2 e2 => ?_⟩
    rw [cl (n := p) (by omega)] at e2
    have e40 : s2 40 0 R = nI (row R).length := by rw [e2]; exact hr.1
    have e16 : (16 : Int32) * nI R + nI (row R).length = nI (16 * R + (row R).length) := ix 16 R (row R).length
    rw [cl (n := R) (by omega), e40, e16, cl (n := 16 * R + (row R).length) (by omega)]
    refine ⟨vin hR (by omega), vin (by omega) (by omega), fun s3 e3 => ⟨vin hR (by omega), vin hR (by omega), fun s4 e4 => ?_⟩⟩
    have e40' : s3 40 0 R = nI (row R).length := by rw [e3]; exact e40
    rw [e40', nI_1] at e4
    rw [e4, e3, e2]
    exact hΦ
  · simp [mW, mL, w3_eq, ur_e, upd_e]
  · simp [kW, kL, w3_eq, ur_e, upd_e]
  · simp [kW, kL, w3_eq, ur_e, upd_e, hq]
  · simp [mW, mL, w3_eq, ur_e, upd_e, hq]
  · simp [mW, mL, w3_eq, ur_e, upd_e]
end WA

/-- what holds between two calls, but for what was loaded -/
def Rl (cp T : Nat) (s t : KS) : Prop := ∃ q row D, XY s t q row ∧ XH cp T s t ∧ XF s t ∧ Z s T ∧ s 0 0 6 = nI D ∧ t 20 0 17 = nI D ∧ D < 100
theorem Out.rl {cp T p : Nat} {s t s' t' : KS} {D : Nat} (hp : p < 16) (hd : s 0 0 6 = nI (D + 1)) (hd2 : t 20 0 17 = nI D) (hD : D < 100) (h18 : t 20 0 18 = 0) (o : Out cp T p s t s' t') : ∃ s'' t'', (∀ Φ : KS → Prop, Φ s'' → w_K_step_105 cp Φ p s') ∧ (∀ Φ : KS → Prop, Φ t'' → ((¬ (t' 20 0 18) = 0 → Φ t') ∧ ((t' 20 0 18) = 0 → (((t' 20 0 16) ≤ 0 → Φ t') ∧ (¬ (t' 20 0 16) ≤ 0 → vp_in (0 : Int32) 16 ∧ ((¬ (t' 35 0 (0 : Int32).toNatClampNeg) = nI p → Φ t') ∧ ((t' 35 0 (0 : Int32).toNatClampNeg) = nI p → vp_in (nI p) 16 ∧ ((¬ (t' 26 0 (nI p).toNatClampNeg) = (1 : Int32) → Φ t') ∧ ((t' 26 0 (nI p).toNatClampNeg) = (1 : Int32) → ∀ s6 : KS, s6 = w3 t' 20 0 17 ((t' 20 0 17) + (1 : Int32)) → (((s6 20 0 17) < (s6 20 0 1) → Φ s6) ∧ (¬ (s6 20 0 17) < (s6 20 0 1) → w_M_toEnd (nI p) s6 (fun s7 => Φ s7)))))))))))) ∧ Rl cp T s'' t'' ∧ t'' 20 0 0 = t 20 0 0 ∧ s'' 0 0 9 = s 0 0 9 := by
  obtain ⟨q', row', hY, hH, hF, hZ, e0, e9, hc⟩ := o
  obtain ⟨S1, ⟨Q, Q1, Q2, Q3⟩, -⟩ := hH.2.2.2.2
  have v0 : (0 : Int32).toNatClampNeg = 0 := by decide
  have in0 : vp_in (0 : Int32) 16 := vin (n := 0) (by omega) (by omega)
  have cp1 : (nI p).toNatClampNeg = p := cl (by omega)
  have hlen := hY.2.1.len
  rw [v0, cp1]
  rcases hc with ⟨hq, e6, e17, e18⟩ | ⟨e6, e17, ⟨hnq, e18⟩ | ⟨hpq, e18⟩⟩
  · have st := (hY.2.2.1 p hp).mp (hd_mem hq)
    have l0 : 0 < q'.length := by
      cases q' with
      | nil => simp at hq
      | cons a l => simp
    have q0 : q'[0]? = some p := by rw [← List.head?_eq_getElem?]; exact hq
    have e35 : t' 35 0 0 = nI p := by
      have := hY.2.1.2.2.2.1 0 p q0
      simpa using this
    have e26 : t' 26 0 p = 1 := by rw [hY.1.2.1 p hp]; exact st
    by_cases cQ : D + 1 < Q
    · refine ⟨s', w3 t' 20 0 17 (nI (D + 1)), fun Φ hΦ => ?_, fun Φ hΦ => ?_, ⟨q', row', D + 1, hY, hH, hF, hZ, by rw [e6]; exact hd, by simp [w3_eq], by omega⟩, by show t' 20 0 0 = _; exact e0, e9⟩
      · unfold w_K_step_105
        rw [e6, hd, Q1]
        exact ⟨fun g => absurd st g, fun _ => ⟨fun _ => hΦ, fun g => absurd (nI_lt cQ (by omega)) g⟩⟩
      · refine ⟨fun g => absurd (by rw [e18]; exact h18) g, fun _ => ⟨fun g => ?_, fun _ => ⟨in0, fun g => absurd e35 g, fun _ => ⟨vin hp (by omega), fun g => absurd e26 g, fun _ z ez => ?_⟩⟩⟩⟩
        · rw [hY.2.1.2.1] at g; exact absurd g (nI_nle l0 (by omega))
        · rw [e17, hd2, nI_1] at ez
          have z17 : z 20 0 17 = nI (D + 1) := by rw [ez]; simp [w3_eq]
          have z1 : z 20 0 1 = nI Q := by rw [ez]; show t' 20 0 1 = _; rw [← S1]; exact Q1
          rw [z17, z1, ez]
          exact ⟨fun _ => hΦ, fun g => absurd (nI_lt cQ (by omega)) g⟩
    · obtain ⟨s'', t'', k1, k2, k3, k4, k5, k6, k7, k8, k9, k10, k11⟩ := te_pair (cp := cp) (T := T) (p := p) (s := s') (t := w3 t' 20 0 17 (nI (D + 1))) (q := q') (row := row') hY hH hF hZ hp st
      rw [if_pos hq] at k7
      refine ⟨s'', t'', fun Φ hΦ => ?_, fun Φ hΦ => ?_, ⟨_, row', 0, k3, k4, k5, k6, k7, k8, by omega⟩, by rw [k10]; show t' 20 0 0 = _; exact e0, by rw [k11]; exact e9⟩
      · unfold w_K_step_105
        rw [e6, hd, Q1]
        exact ⟨fun g => absurd st g, fun _ => ⟨fun g => absurd g (nI_nlt (by omega) (by omega)), fun _ => k1 _ hΦ⟩⟩
      · refine ⟨fun g => absurd (by rw [e18]; exact h18) g, fun _ => ⟨fun g => ?_, fun _ => ⟨in0, fun g => absurd e35 g, fun _ => ⟨vin hp (by omega), fun g => absurd e26 g, fun _ z ez => ?_⟩⟩⟩⟩
        · rw [hY.2.1.2.1] at g; exact absurd g (nI_nle l0 (by omega))
        · rw [e17, hd2, nI_1] at ez
          have z17 : z 20 0 17 = nI (D + 1) := by rw [ez]; simp [w3_eq]
          have z1 : z 20 0 1 = nI Q := by rw [ez]; show t' 20 0 1 = _; rw [← S1]; exact Q1
          rw [z17, z1, ez]
          exact ⟨fun g => absurd g (nI_nlt (by omega) (by omega)), fun _ => k2 _ hΦ⟩
  · have st : ¬ s' 1 p 7 = 1 := fun g => hnq ((hY.2.2.1 p hp).mpr g)
    refine ⟨s', t', fun Φ hΦ => ?_, fun Φ hΦ => ?_, ⟨q', row', 0, hY, hH, hF, hZ, e6, e17, by omega⟩, e0, e9⟩
    · unfold w_K_step_105
      exact ⟨fun _ => hΦ, fun g => absurd g st⟩
    · refine ⟨fun g => absurd (by rw [e18]; exact h18) g, fun _ => ⟨fun _ => hΦ, fun g => ⟨in0, fun _ => hΦ, fun e35 => ?_⟩⟩⟩
      exfalso
      cases q' with
      | nil => apply g; rw [hY.2.1.2.1]; decide
      | cons a l =>
        have ha := hY.2.1.2.2.2.1 0 a (by simp)
        have ha16 := hY.2.1.2.2.2.2.2 a (by simp)
        rw [Nat.zero_add, e35] at ha
        have : p = a := nI_inj (by omega) (by omega) ha
        exact hnq (by rw [this]; simp)
  · have st := (hY.2.2.1 p hp).mp hpq
    refine ⟨s', t', fun Φ hΦ => ?_, fun Φ hΦ => ?_, ⟨q', row', 0, hY, hH, hF, hZ, e6, e17, by omega⟩, e0, e9⟩
    · unfold w_K_step_105
      rw [e6, Q1]
      exact ⟨fun g => absurd st g, fun _ => ⟨fun _ => hΦ, fun g => absurd (nI_lt (a := 0) (by omega) (by omega)) g⟩⟩
    · rw [e18]
      exact ⟨fun _ => hΦ, fun g => absurd g (by decide)⟩
theorem step_pair {cp T : Nat} {s t : KS} (h : Rl cp T s t) (hT : T < 70000) : ∃ s' t', EK (w_K_step cp s) s' ∧ EK (w_M_step t) t' ∧ Rl cp (T + 1) s' t' ∧ t' 20 0 0 = t 20 0 0 ∧ s' 0 0 9 = s 0 0 9 := by
  obtain ⟨q, row, D, hY, hH, hF, hZ, hd, hd2, hD⟩ := h
  obtain ⟨E, C, I, ⟨n, l, O1, O2, O3, O4, O5, O6⟩, S1, S2, S3, S4, S5, S6, S7, ⟨b, S8, S9⟩⟩ := hH
  have H1 : XH cp (T + 1) (w3 s 0 0 7 (nI (T + 1))) (w3 t 20 0 4 (nI (T + 1))) := by
    exact ⟨E, C, I, ⟨n, l, O1, O2, O3, O4, by omega, O6⟩, S1, S2, by simp [w3_eq], by simp [w3_eq], by omega, S6, S7, ⟨b, S8, by omega⟩⟩
  have Z1 : Zw (w3 s 0 0 7 (nI (T + 1))) (T + 1) 0 := by
    obtain ⟨Z1, Z2, Z3, Z4⟩ := hZ
    refine ⟨Z1, Z2, Z3, fun j hj h5 => ?_, fun j hj => by omega⟩
    have := Z4 j hj h5
    rw [Int32.lt_iff_toInt_lt, nI_toInt (by omega)] at this
    rw [Int32.le_iff_toInt_le, nI_toInt (by omega)]
    show _ ≤ (s 1 j 9).toInt
    omega
  obtain ⟨s2, t2, L, a1, ⟨fu, a2⟩, Y2, H2, F2, Z2, f0, f20⟩ := ws_loop (cp := cp) (T := T + 1) 16 0 (w3 s 0 0 7 (nI (T + 1))) (w3 t 20 0 4 (nI (T + 1))) q (by omega) hY H1 hF Z1
  have d2 : s2 0 0 6 = nI D := by rw [f0 6 (by decide)]; exact hd
  have d3 : t2 20 0 17 = nI D := by rw [f20 17 (by decide)]; exact hd2
  have b2 : s2 0 0 8 = nI b := by rw [f0 8 (by decide)]; exact S8
  have n2 : s2 0 0 13 = nI n := by rw [f0 13 (by decide)]; exact O2
  have z2 : s2 0 0 9 = s 0 0 9 := by rw [f0 9 (by decide)]; rfl
  have x2 : t2 20 0 0 = t 20 0 0 := by rw [f20 0 (by decide)]; rfl
  have eK : ∀ Φ : KS → Prop, ((¬ (s2 0 0 5) = 0 → vp_in (0 : Int32) 16 ∧ vp_in (s2 8 0 (0 : Int32).toNatClampNeg) 16 ∧ ∀ s4 : KS, s4 = w3 s2 0 0 6 ((s2 0 0 6) + (1 : Int32)) → kSt cp ((s2 8 0 (0 : Int32).toNatClampNeg).toNatClampNeg) s4 (fun s11 => w_K_step_105 cp Φ ((s2 8 0 (0 : Int32).toNatClampNeg).toNatClampNeg) s11)) ∧ ((s2 0 0 5) = 0 → Φ s2)) → w_K_step cp s Φ := fun Φ g => by
    unfold w_K_step
    intro s1 e1
    rw [S3, nI_1] at e1
    rw [e1]
    refine ⟨17, a1 _ ⟨fun c => ?_, g.2⟩⟩
    exact g.1 c
  have eM : ∀ Ψ : KS → Prop, Ψ t2 → w_M_wakeSleepers (w3 t 20 0 4 ((t 20 0 4) + 1)) Ψ := fun Ψ g => by
    rw [S4, nI_1]
    exact ⟨fu, a2 Ψ g⟩
  have hl2 := Y2.2.1.len
  cases hq2 : q ++ L with
  | nil =>
    rw [hq2] at Y2 hl2
    refine ⟨s2, t2, fun Φ hΦ => eK Φ ⟨fun g => ?_, fun _ => hΦ⟩, fun Φ hΦ => ?_, ⟨[], row, D, Y2, H2, F2, Z2, d2, d3, hD⟩, x2, z2⟩
    · exact absurd Y2.2.1.1 g
    · unfold w_M_step
      intro s1 e1
      rw [e1]
      refine eM _ ⟨fun g => ?_, fun _ => hΦ⟩
      exact absurd Y2.2.1.2.1 g
  | cons p ql =>
    rw [hq2] at Y2 hl2
    have hp : p < 16 := Y2.2.1.2.2.2.2.2 p (by simp)
    have v0 : (0 : Int32).toNatClampNeg = 0 := by decide
    have in0 : vp_in (0 : Int32) 16 := vin (n := 0) (by omega) (by omega)
    have p8 : s2 8 0 0 = nI p := by
      have := Y2.2.1.2.2.1 0 p (by simp)
      simpa using this
    have p35 : t2 35 0 0 = nI p := by
      have := Y2.2.1.2.2.2.1 0 p (by simp)
      simpa using this
    have hP : Pre cp (T + 1) p (w3 s2 0 0 6 (nI (D + 1))) (w3 t2 20 0 18 0) (p :: ql) row := ⟨Y2, H2, F2, Z2, hp, rfl, ⟨b, b2, by omega⟩, ⟨n, n2, by omega⟩⟩
    obtain ⟨s5, t5, i1, i2, o⟩ := instr hP
    have q1 : w3 s2 0 0 6 (nI (D + 1)) 0 0 6 = nI (D + 1) := by simp [w3_eq]
    have q2 : w3 t2 20 0 18 0 20 0 18 = 0 := by simp [w3_eq]
    have q3 : w3 t2 20 0 18 0 20 0 17 = nI D := d3
    obtain ⟨s6, t6, r1, r2, r3, r4, r5⟩ := o.rl (D := D) hp q1 q3 hD q2
    refine ⟨s6, t6, fun Φ hΦ => eK Φ ⟨fun _ => ?_, fun g => ?_⟩, fun Φ hΦ => ?_, r3, by rw [r4]; exact x2, by rw [r5]; exact z2⟩
    · rw [v0, p8, cl (n := p) (by omega)]
      refine ⟨in0, vin hp (by omega), fun s4 e4 => ?_⟩
      rw [d2, nI_1] at e4
      rw [e4]
      exact i1 _ (r1 Φ hΦ)
    · rw [Y2.2.1.1] at g; exact absurd g (nI_ne0 (by simp) (by omega))
    · unfold w_M_step
      intro s1 e1
      rw [e1]
      refine eM _ ⟨fun _ => ⟨in0, fun y3 e3 s4 e4 => ?_⟩, fun g => ?_⟩
      · rw [v0, p35] at e3
        rw [e3, e4]
        exact i2 _ (r2 Φ hΦ)
      · rw [Y2.2.1.2.1] at g; exact absurd g (nI_ne0 (by simp) (by omega))
/-- so many steps -/
theorem run_pair {cp N : Nat} (hN : N ≤ 40) : ∀ (k d T : Nat) (s t : KS), d + k = N → Rl cp T s t → T + k ≤ 70000 → t 20 0 0 = 0 → ∃ s' t' r T', (∀ (Φ : Int32 → KS → Prop) (Ψ : Nat → KS → Prop), Φ r s' → w_K_run_22 cp (nI N) Φ Ψ (k + 1) (nI d) s) ∧ (∀ Φ : Int32 → KS → Prop, Φ r t' → w_M_run_21 (nI N) Φ (k + 1) (nI d) t) ∧ Rl cp T' s' t' ∧ T' ≤ T + k ∧ t' 20 0 0 = 0 ∧ s' 0 0 9 = s 0 0 9 ∧ ((∀ i, i < 16 → s 1 i 7 = 0) → s' = s ∧ t' = t) := by
  intro k
  induction k with
  | zero =>
    intro d T s t hd h hT h0
    have e : d = N := by omega
    subst e
    refine ⟨s, t, nI d, T, fun Φ Ψ hΦ => ?_, fun Φ hΦ => ?_, h, by omega, h0, rfl, fun _ => ⟨rfl, rfl⟩⟩
    · unfold w_K_run_22
      exact ⟨fun _ => hΦ, fun g => absurd (nI_le (Nat.le_refl d) (by omega)) g⟩
    · unfold w_M_run_21
      rw [h0]
      exact ⟨fun g => absurd rfl g, fun _ => ⟨fun _ => hΦ, fun g => absurd (nI_le (Nat.le_refl d) (by omega)) g⟩⟩
  | succ k ih =>
    intro d T s t hd h hT h0
    have hY : ∃ q row, XY s t q row := by obtain ⟨q, row, D, hY, -⟩ := h; exact ⟨q, row, hY⟩
    obtain ⟨q, row, hY⟩ := hY
    obtain ⟨g, hg, g1, g2, g3⟩ := go_pair (cp := cp) (T := T) hY
    rcases hg with hg | hg
    · subst hg
      refine ⟨s, t, nI d, T, fun Φ Ψ hΦ => ?_, fun Φ hΦ => ?_, h, by omega, h0, rfl, fun _ => ⟨rfl, rfl⟩⟩
      · unfold w_K_run_22
        exact ⟨fun _ => hΦ, fun _ => g1 _ ⟨fun _ => hΦ, fun g => absurd rfl g⟩⟩
      · unfold w_M_run_21
        rw [h0]
        exact ⟨fun g => absurd rfl g, fun _ => ⟨fun _ => hΦ, fun _ => g2 _ ⟨fun _ => hΦ, fun g => absurd rfl g⟩⟩⟩
    · subst hg
      obtain ⟨s1, t1, k1, k2, k3, k4, k5⟩ := step_pair h (by omega)
      obtain ⟨s', t', r, T', m1, m2, m3, m4, m5, m6, -⟩ := ih (d + 1) (T + 1) s1 t1 (by omega) k3 (by omega) (by rw [k4]; exact h0)
      refine ⟨s', t', r, T', fun Φ Ψ hΦ => ?_, fun Φ hΦ => ?_, m3, by omega, m5, by rw [m6]; exact k5, fun ha => absurd ha (g3 rfl)⟩
      · unfold w_K_run_22
        exact ⟨fun g => absurd g (nI_ge (by omega) (by omega)), fun _ => g1 _ ⟨fun g => absurd g (by decide), fun _ => k1 _ (fun y ey => by rw [ey, nI_1]; exact m1 Φ Ψ hΦ)⟩⟩
      · unfold w_M_run_21
        rw [h0]
        exact ⟨fun g => absurd rfl g, fun _ => ⟨fun g => absurd g (nI_ge (by omega) (by omega)), fun _ => g2 _ ⟨fun g => absurd g (by decide), fun _ => k2 _ (fun y ey => by rw [ey, nI_1]; exact m2 Φ hΦ)⟩⟩⟩

/-! the calls that do something -/
section DO
variable {cp j : Nat} {s t s' t' : KS} {b c : Int32}
theorem th_v (t : KS) (v : Int32) : w3 t 20 0 0 v 20 0 0 = v := by simp [w3_eq]
theorem Un.fr (h : Un s t) (f : Fr s s' t t') : Un s' t' := by
  obtain ⟨h1, h2, h3, h4, h5, h6, h7⟩ := h
  obtain ⟨f1, f2, f3, f4, f5, f6, f7, f8, f9, f10, f11, f12, f13, f14, f15, f16, f17, f18, f19⟩ := f
  refine ⟨fun i hi => ?_, by rw [f1 0 4 (by decide) (by decide)]; exact h2, by rw [f1 0 5 (by decide) (by decide)]; exact h3, by rw [f1 0 6 (by decide) (by decide)]; exact h4, by rw [f13]; exact h5, by rw [f14]; exact h6, fun k hk => by rw [f12, f2]; exact h7 k hk⟩
  rcases f10 i hi with g | ⟨-, g⟩
  · rw [g]; exact h1 i hi
  · rw [h1 i hi] at g
    rcases g with g | g <;> exact absurd g (by decide)
theorem k_load (h : Inv cp j s t) : w_L_load cp b c s (fun k s1 => w_M_load b c t (fun t1 => w_M_thrown t1 (fun th t2 => th = k ∧ Inv cp (j + 3) s1 t2))) := by
  have h28 : ∀ v : Int32, ¬ v = 0 → w_M_load_28 b c (fun t1 => w_M_thrown t1 (fun th t2 => th = v ∧ Inv cp (j + 3) s t2)) v t := fun v hv s1 e1 => by
    rw [e1, th_v]
    exact ⟨fun _ => ⟨th_v t v, h.rk v⟩, fun k => absurd k hv⟩
  have hI := h
  obtain ⟨T, ⟨q, row, D, hY, hH, hF, hZ, d1, d2, d3⟩, hT, hU⟩ := h
  have e3 : t 20 0 3 = s 0 0 9 := hH.2.2.2.2.2.2.2.2.2.1
  unfold w_L_load w_K_load w_M_load w_M_load_12
  rcases pk_ix b (n := 128) (by omega) with g | g | ⟨i, hi, e⟩
  · exact ⟨fun _ => ⟨fun _ => ⟨fun _ => h28 1 (by decide), fun k => absurd g k⟩, fun k => absurd k (by decide), fun k => absurd k (by decide)⟩, fun k => absurd g k⟩
  · have g0 := le_nneg (by omega) g
    exact ⟨fun k => absurd k g0, fun _ => ⟨fun k => absurd k (le_nlt g), fun _ => ⟨fun _ => ⟨fun k => absurd k g0, fun _ => ⟨fun k => absurd k (le_nlt g), fun _ => h28 1 (by decide)⟩⟩, fun k => absurd k (by decide), fun k => absurd k (by decide)⟩⟩⟩
  · subst e
    have g0 : ¬ nI i < 0 := nI_pos (by omega)
    have g1 : nI i < (128 : Int32) := nI_lt (b := 128) hi (by omega)
    refine ⟨fun k => absurd k g0, fun _ => ⟨fun _ => ⟨fun h9 => ⟨vin (n := 0) (by omega) (by omega), vin hi (by omega), fun s2 e2 => ?_⟩, fun h9 => ⟨fun k => absurd k (by decide), fun _ => ?_, fun k => absurd k (by decide)⟩⟩, fun k => absurd g1 k⟩⟩
    · have un := hU h9
      have v0 : (0 : Int32).toNatClampNeg = 0 := by decide
      rw [v0, cl (n := i) (by omega)] at e2
      refine ⟨fun k => absurd k g0, fun _ => ⟨fun _ => ⟨fun _ s3 es3 => ?_, fun k => absurd (e3.trans h9) k⟩, fun k => absurd g1 k⟩⟩
      rw [es3, th_v]
      refine ⟨fun k => absurd rfl k, fun _ => ⟨vin hi (by omega), fun s4 es4 => ?_⟩⟩
      rw [cl (n := i) (by omega)] at es4
      rw [es4, e2]
      refine ⟨rfl, T, ⟨q, row, D, ⟨⟨hY.1.1, hY.1.2.1, hY.1.2.2.1, hY.1.2.2.2.1, hY.1.2.2.2.2.1, fun k hk h9 => absurd (un.1 k hk) h9⟩, hY.2⟩, hH, hF, hZ, d1, d2, d3⟩, by omega, fun _ => ⟨un.1, un.2.1, un.2.2.1, un.2.2.2.1, un.2.2.2.2.1, un.2.2.2.2.2.1, fun k hk => ?_⟩⟩
      have := un.2.2.2.2.2.2 k hk
      by_cases ck : k = i
      · simp [w3_eq, ck]
      · simpa [w3_eq, ck] using this
    · exact ⟨fun k => absurd k g0, fun _ => ⟨fun _ => ⟨fun k => absurd (e3.symm.trans k) h9, fun _ => h28 2 (by decide)⟩, fun k => absurd g1 k⟩⟩
theorem k_run (h : Inv cp j s t) (hj : j ≤ 1536) : w_L_run cp b s (fun k s1 => w_M_run b t (fun r t1 => w_M_thrown t1 (fun th t2 => th = k ∧ (k = 0 → s1 50 0 0 = r) ∧ Inv cp (j + 3) s1 t2))) := by
  have bad : (b < 0 ∨ (¬ b < 0 ∧ ¬ b ≤ 40)) → w_M_run b t (fun r t1 => w_M_thrown t1 (fun th t2 => th = 1 ∧ ((1 : Int32) = 0 → s 50 0 0 = r) ∧ Inv cp (j + 3) s t2)) := fun g => by
    have h11 : w_M_run_11 b (fun r t1 => w_M_thrown t1 (fun th t2 => th = 1 ∧ ((1 : Int32) = 0 → s 50 0 0 = r) ∧ Inv cp (j + 3) s t2)) t := by
      unfold w_M_run_11 w_M_run_16
      intro s1 e1
      rw [e1]
      refine ⟨1, ?_⟩
      unfold w_M_run_21
      rw [th_v]
      exact ⟨fun _ => ⟨th_v t 1, fun k => absurd k (by decide), h.rk 1⟩, fun k => absurd k (by decide)⟩
    unfold w_M_run
    rcases g with g | ⟨g1, g2⟩
    · exact ⟨fun _ => h11, fun k => absurd g k⟩
    · exact ⟨fun k => absurd k g1, fun _ => ⟨fun k => absurd k g2, fun _ => h11⟩⟩
  unfold w_L_run w_K_run
  rcases pk_ix b (n := 41) (by omega) with g | g | ⟨N, hN, e⟩
  · exact ⟨fun _ => ⟨fun k => absurd k (by decide), fun k => absurd k (by decide), fun _ => bad (Or.inl g)⟩, fun k => absurd g k⟩
  · have g0 := le_nneg (by omega) g
    have g4 : ¬ b ≤ 40 := fun k => by
      rw [Int32.le_iff_toInt_le] at k g
      have z : (40 : Int32).toInt = 40 := by decide
      have z6 : (nI 41).toInt = 41 := nI_toInt (by omega)
      omega
    exact ⟨fun k => absurd k g0, fun _ => ⟨fun k => absurd k g4, fun _ => ⟨fun k => absurd k (by decide), fun k => absurd k (by decide), fun _ => bad (Or.inr ⟨g0, g4⟩)⟩⟩⟩
  · subst e
    have g0 : ¬ nI N < 0 := nI_pos (by omega)
    have g1 : nI N ≤ (40 : Int32) := nI_le (b := 40) (by omega) (by omega)
    obtain ⟨T, hR, hT, hU⟩ := h
    have hR0 : Rl cp T s (w3 t 20 0 0 0) := hR
    obtain ⟨s', t', r, T', m1, m2, m3, m4, m5, m6, m7⟩ := run_pair (cp := cp) (N := N) (by omega) N 0 T s (w3 t 20 0 0 0) (by omega) hR0 (by omega) (th_v t 0)
    refine ⟨fun k => absurd k g0, fun _ => ⟨fun _ => ⟨N + 1, m1 _ _ (fun s2 e2 => ?_)⟩, fun k => absurd g1 k⟩⟩
    unfold w_M_run w_M_run_16
    refine ⟨fun k => absurd k g0, fun _ => ⟨fun _ s1 e1 => ?_, fun k => absurd g1 k⟩⟩
    rw [e1]
    refine ⟨N + 1, m2 _ ⟨m5, fun _ => by rw [e2]; rfl, ?_⟩⟩
    rw [e2]
    refine ⟨T', m3, by omega, fun h9 => ?_⟩
    have h9' : s 0 0 9 = 0 := by rw [← m6]; exact h9
    have un := hU h9'
    obtain ⟨ea, eb⟩ := m7 un.1
    rw [ea, eb]
    exact un
/-! the end of the input: the flag before or behind the waking -/
theorem w3_kk (f : KS) {a b k k' : Nat} {v v' : Int32} (h : k ≠ k') : w3 (w3 f a b k v) a b k' v' = w3 (w3 f a b k' v') a b k v := by
  funext i l o
  rw [w3_eq, w3_eq, w3_eq, w3_eq]
  by_cases c : i = a ∧ l = b ∧ o = k
  · rw [if_pos c, if_pos c, if_neg (fun g => h (c.2.2.symm.trans g.2.2))]
  · rw [if_neg c, if_neg c]
theorem cs_long4 {x : Int32} {Ψ1 Ψ2 : Option Nat → KS → Prop} (hm : ∀ o, Ψ1 o s → Ψ2 o (w3 s 0 0 11 1)) : ∀ (n : Nat) (o : Option Nat) (v : Int32), w_K_longestWaiting_4 cp x Ψ1 n o v s → w_K_longestWaiting_4 cp x Ψ2 n o v (w3 s 0 0 11 1) := by
  intro n
  induction n with
  | zero => intro o v h; exact h
  | succ n ih =>
    intro o v h
    unfold w_K_longestWaiting_4 at h ⊢
    refine ⟨fun g => ⟨fun e => hm _ ((h.1 g).1 e), fun z e => hm _ ((h.1 g).2 z e)⟩, fun g => ⟨(h.2 g).1, fun c y ey => ih _ _ ((h.2 g).2.1 c y ey), fun c => ⟨fun e y ey => ih _ _ (((h.2 g).2.2 c).1 e y ey), fun z e => ⟨fun c2 y ey => ih _ _ ((((h.2 g).2.2 c).2 z e).1 c2 y ey), fun c2 y ey => ih _ _ ((((h.2 g).2.2 c).2 z e).2 c2 y ey)⟩⟩⟩⟩
theorem cs_long {x : Int32} {Ψ1 Ψ2 : Option Nat → KS → Prop} (hm : ∀ o, Ψ1 o s → Ψ2 o (w3 s 0 0 11 1)) (h : w_K_longestWaiting cp x s Ψ1) : w_K_longestWaiting cp x (w3 s 0 0 11 1) Ψ2 := by
  obtain ⟨n, h⟩ := h
  exact ⟨n, cs_long4 hm n _ _ h⟩
theorem cs_ready {z : Nat} {Ψ1 Ψ2 : KS → Prop} (hm : ∀ u, Ψ1 u → Ψ2 (w3 u 0 0 11 1)) (h : w_K_makeReady cp z s Ψ1) : w_K_makeReady cp z (w3 s 0 0 11 1) Ψ2 := by
  intro s1 e1 s2 e2
  rw [w3_sw (a := 0) (a' := 1) _ (by decide)] at e1
  rw [e1, w3_sw (a := 0) (a' := 1) _ (by decide)] at e2
  obtain ⟨h1, h2⟩ := h _ rfl _ rfl
  rw [e2]
  refine ⟨h1, fun s3 e3 s4 e4 => ?_⟩
  rw [w3_sw (a := 0) (a' := 8) _ (by decide)] at e3
  rw [e3, w3_kk (k := 11) (k' := 5) _ (by decide)] at e4
  rw [e4]
  exact hm _ (h2 _ rfl _ rfl)
theorem cs_wa2 {x : Int32} {Ψ1 Ψ2 : KS → Prop} (hm : ∀ u, Ψ1 u → Ψ2 (w3 u 0 0 11 1)) : ∀ (n : Nat) (v : Int32) (s : KS), w_K_wakeAll_2 cp x Ψ1 n v s → w_K_wakeAll_2 cp x Ψ2 n v (w3 s 0 0 11 1) := by
  intro n
  induction n with
  | zero => intro v s h; exact h
  | succ n ih =>
    intro v s h
    unfold w_K_wakeAll_2 at h ⊢
    exact ⟨fun g => hm _ (h.1 g), fun g => cs_long (fun o ho => ⟨fun e => hm _ (ho.1 e), fun z e => cs_ready (fun u hu y ey => ih _ _ (hu y ey)) (ho.2 z e)⟩) (h.2 g)⟩
theorem cs_wa {x : Int32} {Ψ1 Ψ2 : KS → Prop} (hm : ∀ u, Ψ1 u → Ψ2 (w3 u 0 0 11 1)) (h : w_K_wakeAll cp x s Ψ1) : w_K_wakeAll cp x (w3 s 0 0 11 1) Ψ2 := by
  obtain ⟨n, h⟩ := h
  exact ⟨n, cs_wa2 hm n _ _ h⟩
theorem cm_lr {x1 x2 : Int32} {Ψ1 Ψ2 : KS → Prop} (hm : ∀ u, Ψ1 u → Ψ2 (w3 u 20 0 25 1)) : ∀ (n : Nat) (v3 v4 : Int32) (u : KS), w_M_leaveRow_5 x1 x2 Ψ1 n v3 v4 u → w_M_leaveRow_5 x1 x2 Ψ2 n v3 v4 (w3 u 20 0 25 1) := by
  intro n
  induction n with
  | zero => intro v3 v4 u h; exact h
  | succ n ih =>
    intro v3 v4 u h
    unfold w_M_leaveRow_5 at h ⊢
    obtain ⟨a1, h⟩ := h
    refine ⟨a1, fun g => ⟨(h.1 g).1, fun s1 e1 => ?_⟩, fun g => ⟨(h.2 g).1, fun c y ey => ih _ _ _ ((h.2 g).2.1 c y ey), fun c => ?_⟩⟩
    · rw [w3_sw (a := 20) (a' := 40) _ (by decide)] at e1
      rw [e1]
      exact hm _ ((h.1 g).2 _ rfl)
    · obtain ⟨b1, b2, b3⟩ := (h.2 g).2.2 c
      refine ⟨b1, b2, fun s3 e3 y4 e4 y5 e5 => ?_⟩
      rw [w3_sw (a := 20) (a' := 39) _ (by decide)] at e3
      rw [e3]
      exact ih _ _ _ (b3 _ rfl y4 e4 y5 e5)
theorem rd16 (u : KS) : w3 u 20 0 25 1 20 0 16 = u 20 0 16 := by simp [w3_eq]
theorem cm_rt {x1 : Int32} {Ψ1 Ψ2 : KS → Prop} (hm : ∀ u, Ψ1 u → Ψ2 (w3 u 20 0 25 1)) (u : KS) (h : vp_in (u 20 0 16) 16 ∧ ∀ s3 : KS, s3 = w3 u 35 0 (u 20 0 16).toNatClampNeg x1 → ∀ s4 : KS, s4 = w3 s3 20 0 16 ((s3 20 0 16) + (1 : Int32)) → Ψ1 s4) : vp_in ((w3 u 20 0 25 1) 20 0 16) 16 ∧ ∀ s3 : KS, s3 = w3 (w3 u 20 0 25 1) 35 0 ((w3 u 20 0 25 1) 20 0 16).toNatClampNeg x1 → ∀ s4 : KS, s4 = w3 s3 20 0 16 ((s3 20 0 16) + (1 : Int32)) → Ψ2 s4 := by
  obtain ⟨h1, h2⟩ := h
  rw [rd16]
  refine ⟨h1, fun s3 e3 s4 e4 => ?_⟩
  rw [w3_sw (a := 20) (a' := 35) _ (by decide)] at e3
  have h3 := h2 _ rfl
  generalize w3 u 35 0 (u 20 0 16).toNatClampNeg x1 = z at e3 h3
  rw [e3, rd16, w3_kk (k := 25) (k' := 16) _ (by decide)] at e4
  rw [e4]
  exact hm _ (h3 _ rfl)
theorem cm_ready {x1 : Int32} {Ψ1 Ψ2 : KS → Prop} (hm : ∀ u, Ψ1 u → Ψ2 (w3 u 20 0 25 1)) (h : w_M_ready x1 t Ψ1) : w_M_ready x1 (w3 t 20 0 25 1) Ψ2 := by
  obtain ⟨a1, h⟩ := h
  refine ⟨a1, fun s1 e1 => ?_⟩
  rw [w3_sw (a := 20) (a' := 26) _ (by decide)] at e1
  obtain ⟨a2, h⟩ := h _ rfl
  generalize w3 t 26 0 x1.toNatClampNeg 1 = u at e1 h
  refine ⟨a2, fun s2 e2 => ?_⟩
  rw [e1, w3_sw (a := 20) (a' := 34) _ (by decide)] at e2
  have h := h _ rfl
  generalize w3 u 34 0 x1.toNatClampNeg 0 = v at e2 h
  rw [e2]
  exact cm_rt hm v h
theorem cm_wf {x1 : Int32} {Ψ1 Ψ2 : KS → Prop} (hm : ∀ u, Ψ1 u → Ψ2 (w3 u 20 0 25 1)) (h : w_M_wakeFirst x1 t Ψ1) : w_M_wakeFirst x1 (w3 t 20 0 25 1) Ψ2 := by
  obtain ⟨a1, h⟩ := h
  refine ⟨a1, fun g => hm _ (h.1 g), fun g => ⟨(h.2 g).1, fun y ey => ?_⟩⟩
  obtain ⟨n, k⟩ := (h.2 g).2 y ey
  exact ⟨n, cm_lr (fun u hu => cm_ready hm hu) n _ _ _ k⟩
theorem cm_wa0 {x1 : Int32} {Ψ1 Ψ2 : KS → Prop} (hm : ∀ u, Ψ1 u → Ψ2 (w3 u 20 0 25 1)) : ∀ (n : Nat) (t : KS), w_M_wakeAll_0 x1 Ψ1 n t → w_M_wakeAll_0 x1 Ψ2 n (w3 t 20 0 25 1) := by
  intro n
  induction n with
  | zero => intro t h; exact h
  | succ n ih =>
    intro t h
    unfold w_M_wakeAll_0 at h ⊢
    obtain ⟨a1, h⟩ := h
    exact ⟨a1, fun g => hm _ (h.1 g), fun g => cm_wf (fun u hu => ih u hu) (h.2 g)⟩
theorem cm_wa {x1 : Int32} {Ψ1 Ψ2 : KS → Prop} (hm : ∀ u, Ψ1 u → Ψ2 (w3 u 20 0 25 1)) (h : w_M_wakeAll x1 t Ψ1) : w_M_wakeAll x1 (w3 t 20 0 25 1) Ψ2 := by
  obtain ⟨n, h⟩ := h
  exact ⟨n, cm_wa0 hm n _ h⟩
theorem k_shut (h : Inv cp j s t) : w_K_shut cp s (fun r s1 => w_M_shut t (fun r2 t1 => r = r2 ∧ Inv cp (j + 3) s1 t1)) := by
  have hI := h
  obtain ⟨T, ⟨q, row, D, hY, hH, hF, hZ, d1, d2, d3⟩, hT, hU⟩ := h
  obtain ⟨E, C, ⟨l, I1, I2, I3, I4⟩, O, S⟩ := hH
  have e25 : w3 t 20 0 0 0 20 0 25 = s 0 0 11 := I3
  unfold w_K_shut
  by_cases c11 : s 0 0 11 = 0
  · refine ⟨fun _ s1 e1 => ?_, fun k => absurd c11 k⟩
    have Y0 : XY s (w3 t 20 0 0 0) q row := hY
    obtain ⟨u, v, k1, k2, k3, k4⟩ := wk_all (cp := cp) (r := 16) Y0 (by omega)
    have hr16 : nI (rc 16) = 1 := by decide
    rw [hr16] at k1
    have H0 : XH cp T u v := k4.H (s := s) (t := w3 t 20 0 0 0) ⟨E, C, ⟨l, I1, I2, I3, I4⟩, O, S⟩
    have F0 : XF u v := k4.F (s := s) (t := w3 t 20 0 0 0) hF
    have Zu : Z u T := FB_Z k4.B (fun i e => Or.inl (by rw [k4.2.2.2.1])) hZ
    have Uu : s 0 0 9 = 0 → Un u v := fun h9 => Un.fr (s := s) (t := w3 t 20 0 0 0) (hU h9) k4
    obtain ⟨f1, f2, f3, f4, f5, f6, f7, f8, f9, f10, f11, f12, f13, f14, f15, f16, f17, f18, f19⟩ := k4
    have kr : w_K_wakeAll cp 1 (w3 s 0 0 11 1) (fun s2 => s2 = w3 u 0 0 11 1) := cs_wa (Ψ1 := fun s2 => s2 = u) (fun a ha => by rw [ha]) (k1 _ rfl)
    have mr : w_M_wakeAll 16 (w3 (w3 t 20 0 0 0) 20 0 25 1) (fun s2 => s2 = w3 v 20 0 25 1) := cm_wa (Ψ1 := fun s2 => s2 = v) (fun a ha => by rw [ha]) (k2 _ rfl)
    have Y1 : XY (w3 u 0 0 11 1) (w3 v 20 0 25 1) (q ++ row 16) (fun r' => if r' = 16 then [] else row r') := by
      obtain ⟨hP, hQ, hB, hR1, hR2⟩ := k3
      refine ⟨hP, hQ, hB, hR1, fun i hi => ?_⟩
      rcases hR2 i hi with g | ⟨⟨r, hr, g, -⟩, g2⟩
      · exact Or.inl g
      · refine Or.inr ⟨⟨r, hr, g, fun e => ?_⟩, g2⟩
        exfalso
        subst e
        have := ((hR1 16 (by omega)).2.2.2.1 i).mpr ⟨hi, g⟩
        simp at this
    have H1 : XH cp T (w3 u 0 0 11 1) (w3 v 20 0 25 1) := by
      obtain ⟨E', C', ⟨l', J1, J2, J3, J4⟩, O', S'⟩ := H0
      exact ⟨E', C', ⟨l', J1, J2, rfl, Or.inr rfl⟩, O', S'⟩
    have fin : Inv cp (j + 3) (w3 u 0 0 11 1) (w3 v 20 0 25 1) := by
      refine ⟨T, ⟨_, _, D, Y1, H1, F0, Zu, ?_, ?_, d3⟩, by omega, fun h9 => Uu ?_⟩
      · show u 0 0 6 = nI D
        rw [f8 6 (by decide)]; exact d1
      · show v 20 0 17 = nI D
        rw [f11 17 (by decide)]; exact d2
      · rw [← f8 9 (by decide)]; exact h9
    -- the two runs
    have mm : w_M_shut t (fun r2 t1 => (1 : Int32) = r2 ∧ Inv cp (j + 3) (w3 u 0 0 11 1) t1) := by
      unfold w_M_shut
      intro s1 e1 y2 e2 s3 e3
      rw [e1] at e2 e3
      rw [e25, c11] at e2
      rw [e3, e2]
      have : ∀ Ψ : KS → Prop, Ψ (w3 v 20 0 25 1) → w_M_wakeAll 16 (w3 (w3 t 20 0 0 0) 20 0 25 1) Ψ := fun Ψ hΨ => cm_wa (Ψ1 := fun s2 => s2 = v) (fun a ha => by rw [ha]; exact hΨ) (k2 _ rfl)
      exact this _ ⟨fun k => absurd rfl k, fun _ => ⟨rfl, fin⟩⟩
    rw [e1]
    exact cs_wa (Ψ1 := fun s2 => s2 = u) (fun a ha => by rw [ha]; exact mm) (k1 _ rfl)
  · refine ⟨fun k => absurd k c11, fun _ => ?_⟩
    have r16 : row 16 = [] := by
      cases hr : row 16 with
      | nil => rfl
      | cons a l =>
        exfalso
        have ha := ((hY.2.2.2.1 16 (by omega)).2.2.2.1 a).mp (by rw [hr]; simp)
        rcases hY.2.2.2.2 a ha.1 with g | ⟨⟨r, hr9, g, g3⟩, -⟩
        · rw [ha.2] at g; exact nI_m1 (n := rc 16) (by decide) g
        · have : (16 : Nat) = r := rc_inj (by omega) hr9 (nI_inj (by decide) (by have := rc_lt hr9; omega) (ha.2.symm.trans g))
          exact c11 (g3 this.symm)
    have e1 : s 0 0 11 = 1 := by
      rcases I4 with g | g
      · exact absurd g c11
      · exact g
    unfold w_M_shut
    intro s1 es1 y2 ey2 s3 es3
    rw [es1] at ey2 es3
    rw [e25] at ey2
    rw [w3_id (w3 t 20 0 0 0) 20 0 25 1 (e25.trans e1)] at es3
    rw [es3, ey2]
    have e40 : w3 t 20 0 0 0 40 0 16 = nI 0 := by
      have := (hY.2.2.2.1 16 (by omega)).1
      rw [r16] at this
      exact this
    refine ⟨1, ?_⟩
    unfold w_M_wakeAll_0
    have v16 : (16 : Int32).toNatClampNeg = 16 := by decide
    rw [v16, e40]
    exact ⟨vin (n := 16) (by omega) (by omega), fun _ => ⟨fun _ => ⟨rfl, hI.rk 0⟩, fun k => absurd k c11⟩, fun k => absurd (by decide) k⟩
end DO

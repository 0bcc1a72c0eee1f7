section CA
variable {cp T p w : Nat} {s0 sa s t s1 t1 s' t' : KS} {q : List Nat} {row : Nat → List Nat} {L : List Int32} {pl x y : Int32} {m : Nat → Int32}
theorem ek_kPu (h : KV s p L pl m) (hl : L.length < 32) : EK (w_P_push cp p x s) (kPu s p L.length x) := by
  obtain ⟨h1, h2, h3, h4⟩ := h
  intro Φ hΦ
  unfold w_P_push
  rw [h1, cl (by omega)]
  refine ⟨vin hl (by omega), fun s1 e1 s2 e2 => ?_⟩
  have e4 : s1 1 p 4 = nI L.length := by rw [e1]; exact h1
  rw [e2, e4, nI_1, e1]
  exact hΦ
theorem dAt_cg (h : s1 4 = s 4) : dAt s1 p y = dAt s p y := by unfold dAt; rw [h]
/-- a word pushed on both sides -/
theorem out_push (h : Pre cp T p s t q row) (kv : KV s p L pl m) (mv : MV t p L pl m) (hl : L.length < 32) : ∃ s' t', EK (w_P_push cp p x s) s' ∧ EK (w_M_push (nI p) x t) t' ∧ Out cp T p s t s' t' := by
  have hp := h.2.2.2.2.1
  obtain ⟨s1, e1, v1, f1⟩ := ek_push (cp := cp) (x := x) kv hl
  obtain ⟨t1, g1, w1, k1⟩ := em_push (x := x) hp mv (by omega)
  exact ⟨s1, t1, e1, g1, out_data h f1 k1 v1 w1 (by rw [List.length_append]; simp; omega)⟩
theorem out_push2 (h : Pre cp T p s t q row) (kv : KV s p L pl m) (mv : MV t p L pl m) (hl : L.length < 31) : ∃ s' t1 t', EK (w_P_pushTwo cp p x y s) s' ∧ EK (w_M_push (nI p) x t) t1 ∧ EK (w_M_push (nI p) y t1) t' ∧ Out cp T p s t s' t' := by
  have hp := h.2.2.2.2.1
  obtain ⟨s1, e1, v1, f1⟩ := ek_push (cp := cp) (x := x) kv (by omega)
  obtain ⟨t1, g1, w1, k1⟩ := em_push (x := x) hp mv (by omega)
  obtain ⟨s2, e2, v2, f2⟩ := ek_push (cp := cp) (x := y) v1 (by rw [List.length_append]; simp; omega)
  obtain ⟨t2, g2, w2, k2⟩ := em_push (x := y) hp w1 (by rw [List.length_append]; simp; omega)
  exact ⟨s2, t1, t2, fun Φ hΦ => e1 _ (e2 _ hΦ), g1, g2, out_data h (f1.trans f2) (k1.trans k2) v2 w2 (by rw [List.length_append, List.length_append]; simp; omega)⟩
theorem c30 (hA : EI (w_P_pop cp p s0) y s) (h : Pre cp T p s t q row) : ∃ s' t', (∀ Φ : KS → Prop, Φ s' → w_P_pop cp p s0 (fun r7 s6 => w_K_end cp p r7 s6 Φ)) ∧ EK (w_M_call (nI p) (nI 30) y y t) t' ∧ Out cp T p s t s' t' := by
  obtain ⟨s', t', e1, e2, o⟩ := out_end (x := y) h
  refine ⟨s', t', fun Φ hΦ => hA _ (e1 Φ hΦ), fun Φ hΦ => ?_, o⟩
  exact ⟨fun _ => e2 _ hΦ, fun g => absurd g (by decide), fun g => absurd g (by decide), fun g => absurd g (by decide), fun g => absurd g (by decide), fun g => absurd g (by decide), fun g => absurd g (by decide), fun g => absurd g (by decide), fun g => absurd g (by decide), fun g => absurd g (by decide), fun g => absurd g (by decide), fun g => absurd g (by decide)⟩
theorem c31 (h : Pre cp T p s t q row) (kv : KV s p L pl m) (mv : MV t p L pl m) (hl : L.length < 32) : ∃ s' t', EK (w_P_push cp p (s 1 p 0) s) s' ∧ EK (w_M_call (nI p) (nI 31) x y t) t' ∧ Out cp T p s t s' t' := by
  obtain ⟨s', t', e1, e2, o⟩ := out_push (x := nI p) h kv mv hl
  refine ⟨s', t', ?_, fun Φ hΦ => ?_, o⟩
  · rw [h.1.1.1 p h.2.2.2.2.1]; exact e1
  · exact ⟨fun g => absurd g (by decide), fun _ => e2 _ hΦ, fun g => absurd g (by decide), fun g => absurd g (by decide), fun g => absurd g (by decide), fun g => absurd g (by decide), fun g => absurd g (by decide), fun g => absurd g (by decide), fun g => absurd g (by decide), fun g => absurd g (by decide), fun g => absurd g (by decide), fun g => absurd g (by decide)⟩
theorem c32 (h : Pre cp T p s t q row) : ∃ s' t', EK (w_K_goToQueueEnd cp p s) s' ∧ EK (w_M_call (nI p) (nI 32) x y t) t' ∧ Out cp T p s t s' t' := by
  obtain ⟨s', t', e1, e2, o⟩ := out_yield h
  refine ⟨s', t', e1, fun Φ hΦ => ?_, o⟩
  exact ⟨fun g => absurd g (by decide), fun g => absurd g (by decide), fun _ => e2 _ hΦ, fun g => absurd g (by decide), fun g => absurd g (by decide), fun g => absurd g (by decide), fun g => absurd g (by decide), fun g => absurd g (by decide), fun g => absurd g (by decide), fun g => absurd g (by decide), fun g => absurd g (by decide), fun g => absurd g (by decide)⟩
/-- WRITE -/
theorem c33 (hA : EI (w_P_pop cp p s0) y sa) (hB : EI (w_P_pop cp p sa) x s) (e4 : sa 4 = s 4) (h : Pre cp T p s t q row) (kv : KV s p L pl m) (mv : MV t p L pl m) (hl : L.length < 32) (hnb : ∀ n, dAt s p y = nI n → n < 28 → ¬ (20 ≤ n ∧ ¬ cnt (t 31 0) (nI (n - 10)) 128 = 0 ∧ t 42 0 (n - 20) = t 20 0 2)) : ∃ s' t', EK (w_K_write cp p s0) s' ∧ EK (w_M_call (nI p) (nI 33) x y t) t' ∧ Out cp T p s t s' t' := by
  have hD := h
  have h1 := h.st1
  obtain ⟨hY, hH, hF, hZ, hp, hq, hb, ⟨nn, hnn, hnT⟩⟩ := h
  obtain ⟨n, hn, hd⟩ := dAt_ok (y := y) hp hY.1
  have dsa : dAt sa p y = nI n := by rw [dAt_cg e4]; exact hn
  have hM : ∀ t', EK (w_M_write (nI p) x y t) t' → EK (w_M_call (nI p) (nI 33) x y t) t' := fun t' e Φ hΦ => by
    have hc := e Φ hΦ
    exact ⟨fun g => absurd g (by decide), fun g => absurd g (by decide), fun g => absurd g (by decide), fun _ => hc, fun g => absurd g (by decide), fun g => absurd g (by decide), fun g => absurd g (by decide), fun g => absurd g (by decide), fun g => absurd g (by decide), fun g => absurd g (by decide), fun g => absurd g (by decide), fun g => absurd g (by decide)⟩
  have oD : EI (w_M_descriptorOf (nI p) y t) (nI n) t := by
    have := em_descOf (y := y) hp hY.1
    rw [hn] at this
    exact this
  have hT : T ≤ 70000 := hH.2.2.2.2.2.2.2.2.1
  by_cases c2 : n = 2
  · subst c2
    obtain ⟨s1, ep, p27, Y1, H1, F1, Z1, q1, q2, q3, q0⟩ := print_pair (x := x) hY hH hF hZ hnn hnT
    have kv1 := KV_cg kv q1 q2 q3
    have mv1 : MV (w3 (w3 t 46 0 (nn % 500) x) 20 0 27 (nI (nn + 1))) p L pl m := mv
    obtain ⟨s2, e2, kv2, kf2⟩ := ek_push (cp := cp) (x := 1) kv1 hl
    obtain ⟨t2, g2, mv2, mf2⟩ := em_push (x := 1) hp mv1 (by omega)
    refine ⟨s2, t2, fun Φ hΦ => ?_, hM t2 (fun Φ hΦ => ?_), out_fin (s := s) (t := t) Y1 H1 F1 Z1 hp hq (by rw [q1]; exact h1) kf2 mf2 kv2 mv2 (by rw [List.length_append]; simp; omega) ⟨q0 6 (by decide), q0 9 (by decide), rfl, rfl, rfl⟩⟩
    · unfold w_K_write
      refine hA _ (ek_descAt _ (hB _ ?_))
      rw [dsa]
      exact ⟨fun g => absurd rfl g, fun _ => ep _ (e2 _ hΦ)⟩
    · unfold w_M_write
      refine oD _ ⟨fun g => absurd rfl g, fun _ => ?_⟩
      have er : nI nn - nI nn / (500 : Int32) * (500 : Int32) = nI (nn % 500) := pk_rem (a := nn) (d := 500) (by omega) (by omega) (by omega)
      have hlt : nn % 500 < 500 := Nat.mod_lt _ (by omega)
      rw [p27, er, cl (n := nn % 500) (by omega)]
      refine ⟨by decide, vin hlt (by omega), fun z1 ez1 z2 ez2 => ?_⟩
      have e27 : z1 20 0 27 = nI nn := by rw [ez1]; exact p27
      rw [e27, nI_1] at ez2
      rw [ez2, ez1]
      exact g2 _ hΦ
  have n2 : ¬ nI n = (2 : Int32) := nI_ne (b := 2) (by omega) (by omega) c2
  by_cases c20 : n < 20
  · obtain ⟨s1, t1, e1, g1, o⟩ := out_push (x := -1) hD kv mv hl
    refine ⟨s1, t1, fun Φ hΦ => ?_, hM t1 (fun Φ hΦ => ?_), o⟩
    · unfold w_K_write
      refine hA _ (ek_descAt _ (hB _ ?_))
      rw [dsa]
      refine ⟨fun _ => ek_isW (by omega) _ ?_, fun g => absurd g n2⟩
      rw [if_neg (by omega)]
      exact ⟨fun g => absurd rfl g, fun _ => e1 _ hΦ⟩
    · unfold w_M_write
      exact oD _ ⟨fun _ => ⟨fun _ => g1 _ hΦ, fun g => absurd (nI_lt (b := 20) c20 (by omega)) g⟩, fun g => absurd g n2⟩
  · have hn20 : 20 ≤ n ∧ n < 28 := by omega
    have e7 : s 7 0 (n - 10) = nI (cnt (t 31 0) (nI (n - 10)) 128) := hH.1 (n - 10) (by omega) (by omega)
    have hcl := cnt_le (t 31 0) (nI (n - 10)) 128
    have eo : (if 20 ≤ n then n - 10 else n + 10) = n - 10 := if_pos hn20.1
    have e10 : nI n - 10 = nI (n - 10) := pk_sub (b := 10) (by omega)
    have e20 : nI n - 20 = nI (n - 20) := pk_sub (b := 20) (by omega)
    by_cases c0 : cnt (t 31 0) (nI (n - 10)) 128 = 0
    · obtain ⟨s1, t1, e1, g1, o⟩ := out_push (x := -2) hD kv mv hl
      refine ⟨s1, t1, fun Φ hΦ => ?_, hM t1 (fun Φ hΦ => ?_), o⟩
      · unfold w_K_write
        refine hA _ (ek_descAt _ (hB _ ?_))
        rw [dsa]
        refine ⟨fun _ => ek_isW (by omega) _ ?_, fun g => absurd g n2⟩
        rw [if_pos hn20]
        refine ⟨fun _ => ek_other (by omega) _ ?_, fun g => absurd g (by decide)⟩
        rw [eo, cl (n := n - 10) (by omega), e7, c0]
        exact ⟨vin (by omega) (by omega), fun g => absurd rfl g, fun _ => e1 _ hΦ⟩
      · unfold w_M_write
        refine oD _ ⟨fun _ => ⟨fun g => absurd g (nI_nlt (b := 20) hn20.1 (by omega)), fun _ => ?_⟩, fun g => absurd g n2⟩
        rw [e10]
        refine em_many _ ?_
        rw [c0]
        refine ⟨fun _ => ?_, fun g => absurd (by decide) g⟩
        unfold w_M_write_71 w_M_write_86
        exact ⟨fun _ => g1 _ ⟨fun _ => hΦ, fun g => absurd rfl g⟩, fun g => absurd rfl g⟩
    · have hr : rc (n - 20) = n - 10 := by unfold rc; rw [if_pos (by omega)]; omega
      obtain ⟨s1, s', t1, t', e1, e2, g1, g2, o⟩ := out_put (w := n - 20) (x := x) hD kv mv hl (by omega) (by rw [show 10 + (n - 20) = n - 10 by omega]; exact c0) (fun e => hnb n hn (by omega) ⟨hn20.1, c0, e⟩)
      rw [hr] at e2
      refine ⟨s', t', fun Φ hΦ => ?_, hM t' (fun Φ hΦ => ?_), o⟩
      · unfold w_K_write
        refine hA _ (ek_descAt _ (hB _ ?_))
        rw [dsa]
        refine ⟨fun _ => ek_isW (by omega) _ ?_, fun g => absurd g n2⟩
        rw [if_pos hn20]
        refine ⟨fun _ => ek_other (by omega) _ ?_, fun g => absurd g (by decide)⟩
        rw [eo, cl (n := n - 10) (by omega), e7, e20, cl (n := n - 20) (by omega)]
        refine ⟨vin (by omega) (by omega), fun _ => ⟨vin (by omega) (by omega), e1 _ (ek_other (by omega) _ ?_)⟩, fun g => absurd g (nI_ne0 (by omega) (by omega))⟩
        rw [eo]
        exact e2 Φ hΦ
      · unfold w_M_write
        refine oD _ ⟨fun _ => ⟨fun g => absurd g (nI_nlt (b := 20) hn20.1 (by omega)), fun _ => ?_⟩, fun g => absurd g n2⟩
        rw [e10]
        refine em_many _ ⟨fun g => absurd g (nI_nle (by omega) (by omega)), fun _ => ?_⟩
        unfold w_M_write_71 w_M_write_86
        rw [e20]
        exact ⟨fun g => absurd g (by decide), fun _ => g1 _ ⟨fun g => absurd g (by decide), fun _ => g2 _ hΦ⟩⟩
/-- KILL -/
theorem c37 (hA : EI (w_P_pop cp p s0) y s) (h : Pre cp T p s t q row) (kv : KV s p L pl m) (mv : MV t p L pl m) (hl : L.length < 32) : ∃ s' t', EK (w_K_kill cp p s0) s' ∧ EK (w_M_call (nI p) (nI 37) y y t) t' ∧ Out cp T p s t s' t' := by
  have h1 := h.st1
  have hp := h.2.2.2.2.1
  have hY := h.1
  have hM : ∀ t', EK (w_M_kill (nI p) y t) t' → EK (w_M_call (nI p) (nI 37) y y t) t' := fun t' e Φ hΦ => by
    have hc := e Φ hΦ
    exact ⟨fun g => absurd g (by decide), fun g => absurd g (by decide), fun g => absurd g (by decide), fun g => absurd g (by decide), fun g => absurd g (by decide), fun g => absurd g (by decide), fun g => absurd g (by decide), fun _ => hc, fun g => absurd g (by decide), fun g => absurd g (by decide), fun g => absurd g (by decide), fun g => absurd g (by decide)⟩
  -- there is none such
  have none : ¬ y = nI p → (∀ Ψ : Int32 → KS → Prop, Ψ 0 s → w_K_isThere cp y s Ψ) ∨ (∃ v, v < 16 ∧ y = nI v ∧ s 1 v 7 = 6) → (∀ Φ : KS → Prop, w_M_kill_34 (nI p) y Φ t → w_M_kill (nI p) y t Φ) → ∃ s' t', EK (w_K_kill cp p s0) s' ∧ EK (w_M_call (nI p) (nI 37) y y t) t' ∧ Out cp T p s t s' t' := by
    intro hne hk hm
    obtain ⟨s1, t1, e1, g1, o⟩ := out_push (x := -1) h kv mv hl
    refine ⟨s1, t1, fun Φ hΦ => ?_, hM t1 (fun Φ hΦ => hm _ ?_), o⟩
    · unfold w_K_kill w_K_kill_27
      refine hA _ ?_
      rcases hk with hk | ⟨v, hv, ev, v6⟩
      · exact hk _ ⟨fun _ => e1 _ hΦ, fun g => absurd rfl g⟩
      · unfold w_K_isThere
        rw [ev, cl (n := v) (by omega), v6]
        exact ⟨fun g => absurd g (nI_pos (by omega)), fun _ => ⟨fun g => absurd g (nI_ge (b := 16) hv (by omega)), fun _ => ⟨vin hv (by omega), fun g => absurd g (by decide), fun _ => ⟨fun g => absurd g (by decide), fun _ => ⟨vin hv (by omega), fun g => absurd v6 g, fun _ => e1 _ hΦ⟩⟩⟩⟩⟩
    · unfold w_M_kill_34 w_M_kill_35 w_M_kill_52 w_M_kill_55
      exact ⟨fun g => absurd g hne, fun _ => ⟨fun _ => g1 _ ⟨fun _ => hΦ, fun g => absurd rfl g⟩, fun g => absurd rfl g⟩⟩
  rcases pk_ix y (n := 16) (by omega) with g | g | ⟨v, hv, ev⟩
  · refine none (fun e => ?_) (Or.inl (fun Ψ hΨ => ?_)) (fun Φ hΦ => ?_)
    · rw [e] at g; exact nI_pos (by omega) g
    · exact ⟨fun _ => hΨ, fun k => absurd g k⟩
    · exact ⟨fun _ => hΦ, fun k => absurd g k⟩
  · have g0 : ¬ y < 0 := fun k => by
      rw [Int32.lt_iff_toInt_lt] at k
      rw [Int32.le_iff_toInt_le] at g
      have : (nI 16).toInt = 16 := nI_toInt (by omega)
      have z : (0 : Int32).toInt = 0 := by decide
      omega
    refine none (fun e => ?_) (Or.inl (fun Ψ hΨ => ?_)) (fun Φ hΦ => ?_)
    · rw [e] at g; exact nI_ge (a := p) (b := 16) hp (by omega) g
    · exact ⟨fun k => absurd k g0, fun _ => ⟨fun _ => hΨ, fun k => absurd g k⟩⟩
    · exact ⟨fun k => absurd k g0, fun _ => ⟨fun _ => hΦ, fun k => absurd g k⟩⟩
  · have cv : y.toNatClampNeg = v := by rw [ev]; exact cl (by omega)
    have g0 : ¬ y < 0 := by rw [ev]; exact nI_pos (by omega)
    have g16 : ¬ (16 : Int32) ≤ y := by rw [ev]; exact nI_ge (b := 16) hv (by omega)
    have vy : vp_in y 16 := by rw [ev]; exact vin hv (by omega)
    have e26 : t 26 0 v = s 1 v 7 := hY.1.2.1 v hv
    by_cases v0 : s 1 v 7 = 0
    · refine none (fun e => ?_) (Or.inl (fun Ψ hΨ => ?_)) (fun Φ hΦ => ?_)
      · have : v = p := nI_inj (by omega) (by omega) (ev.symm.trans e)
        rw [this, h1] at v0; exact absurd v0 (by decide)
      · unfold w_K_isThere
        rw [cv]
        exact ⟨fun k => absurd k g0, fun _ => ⟨fun k => absurd k g16, fun _ => ⟨vy, fun _ => hΨ, fun k => absurd v0 k⟩⟩⟩
      · unfold w_M_kill
        rw [cv, e26]
        exact ⟨fun k => absurd k g0, fun _ => ⟨fun k => absurd k g16, fun _ => ⟨vy, fun _ => hΦ, fun k => absurd v0 k⟩⟩⟩
    by_cases v6 : s 1 v 7 = 6
    · refine none (fun e => ?_) (Or.inr ⟨v, hv, ev, v6⟩) (fun Φ hΦ => ?_)
      · have : v = p := nI_inj (by omega) (by omega) (ev.symm.trans e)
        rw [this, h1] at v6; exact absurd v6 (by decide)
      · unfold w_M_kill
        rw [cv, e26]
        exact ⟨fun k => absurd k g0, fun _ => ⟨fun k => absurd k g16, fun _ => ⟨vy, fun k => absurd k v0, fun _ => ⟨vy, fun _ => hΦ, fun k => absurd v6 k⟩⟩⟩⟩
    · have there : ∀ Ψ : Int32 → KS → Prop, Ψ 1 s → w_K_isThere cp y s Ψ := fun Ψ hΨ => by
        unfold w_K_isThere
        rw [cv]
        exact ⟨fun k => absurd k g0, fun _ => ⟨fun k => absurd k g16, fun _ => ⟨vy, fun k => absurd k v0, fun _ => hΨ⟩⟩⟩
      have hm : ∀ Φ : KS → Prop, w_M_kill_35 (nI p) y Φ 1 t → w_M_kill (nI p) y t Φ := fun Φ hΦ => by
        unfold w_M_kill
        rw [cv, e26]
        exact ⟨fun k => absurd k g0, fun _ => ⟨fun k => absurd k g16, fun _ => ⟨vy, fun k => absurd k v0, fun _ => ⟨vy, fun k => absurd k v6, fun _ => hΦ⟩⟩⟩⟩
      by_cases vp : v = p
      · subst vp
        obtain ⟨s', t', e1, e2, o⟩ := out_end (x := -9) h
        refine ⟨s', t', fun Φ hΦ => ?_, hM t' (fun Φ hΦ => hm _ ?_), o⟩
        · unfold w_K_kill w_K_kill_46
          refine hA _ (there _ ⟨fun k => absurd k (by decide), fun _ => ⟨vy, ?_⟩⟩)
          rw [cv]
          exact ⟨fun _ => ⟨fun _ => ⟨vy, e1 _ hΦ⟩, fun k => absurd (ev.trans (hY.1.1 v hp).symm) k⟩, fun k => absurd k v6⟩
        · unfold w_M_kill_35 w_M_kill_55
          refine ⟨fun _ => ⟨fun k => absurd k (by decide), fun _ => ?_⟩, fun k => absurd ev k⟩
          rw [ev]; exact e2 _ hΦ
      · have yne : ¬ y = nI p := fun e => vp (nI_inj (by omega) (by omega) (ev.symm.trans e))
        obtain ⟨s1, ep, v1, f1⟩ := ek_push (cp := cp) (x := 0) kv hl
        obtain ⟨t1, gp, w1, k1⟩ := em_push (x := 0) hp mv (by omega)
        have hP1 := h.data f1 k1 v1 w1 (by rw [List.length_append]; simp; omega)
        have e7 : s1 1 v 7 = s 1 v 7 := f1.2.1 v 7 (fun g => by rcases g.2 with g | g <;> exact absurd g (by decide))
        obtain ⟨s', t', e1, e2, o⟩ := out_kill (x := -9) hP1 hv vp (by rw [e7]; exact v0)
        refine ⟨s', t', fun Φ hΦ => ?_, hM t' (fun Φ hΦ => hm _ ?_), o.frm f1 k1⟩
        · unfold w_K_kill w_K_kill_46
          refine hA _ (there _ ⟨fun k => absurd k (by decide), fun _ => ⟨vy, ?_⟩⟩)
          rw [cv]
          refine ⟨fun _ => ⟨fun k => absurd (k.trans (hY.1.1 p hp)) yne, fun _ => ep _ ⟨vy, e1 _ hΦ⟩⟩, fun k => absurd k v6⟩
        · unfold w_M_kill_35 w_M_kill_52 w_M_kill_55
          refine ⟨fun k => absurd k yne, fun _ => ⟨fun k => absurd k (by decide), fun _ => gp _ ⟨fun k => absurd k (by decide), fun _ => ?_⟩⟩⟩
          rw [ev]; exact e2 _ hΦ
/-- CLOSE -/
theorem d_ix {n : Nat} (hn : dAt s p y = nI n) (h0 : n ≠ 0) (hn9 : n < 100) : ∃ d, d < 8 ∧ y = nI d ∧ s 4 p d = nI n := by
  unfold dAt at hn
  by_cases c : y < 0
  · rw [if_pos c] at hn; exact absurd (nI_inj (a := 0) (by omega) (by omega) hn).symm h0
  rw [if_neg c] at hn
  by_cases c8 : y < 8
  · rw [if_pos c8] at hn
    obtain ⟨j, hj, e⟩ := nI_of c
    have hj8 : j < 8 := by rw [e] at c8; exact (nI_ltI (b := 8) hj (by omega)).mp c8
    rw [e, cl (by omega)] at hn
    exact ⟨j, hj8, e, hn⟩
  · rw [if_neg c8] at hn; exact absurd (nI_inj (a := 0) (by omega) (by omega) hn).symm h0
theorem c39 (hA : EI (w_P_pop cp p s0) y s) (h : Pre cp T p s t q row) (kv : KV s p L pl m) (mv : MV t p L pl m) (hl : L.length < 32) : ∃ s' t', EK (w_K_close cp p s0) s' ∧ EK (w_M_call (nI p) (nI 39) y y t) t' ∧ Out cp T p s t s' t' := by
  have hD := h
  have h1 := h.st1
  obtain ⟨hY, hH, hF, hZ, hp, hq, hb, hn0⟩ := h
  obtain ⟨n, hn, hd⟩ := dAt_ok (y := y) hp hY.1
  have oD : EI (w_M_descriptorOf (nI p) y t) (nI n) t := by
    have := em_descOf (y := y) hp hY.1
    rw [hn] at this
    exact this
  have hM : ∀ t', (∀ Φ : KS → Prop, Φ t' → ((¬ nI n = 0 → w_M_call_156 (nI p) (nI 39) y y Φ (0 : Int32) t) ∧ (nI n = 0 → w_M_call_156 (nI p) (nI 39) y y Φ (-1 : Int32) t))) → EK (w_M_call (nI p) (nI 39) y y t) t' := fun t' e Φ hΦ => by
    have hc := oD (fun r11 s10 => ((¬ r11 = 0 → w_M_call_156 (nI p) (nI 39) y y Φ (0 : Int32) s10) ∧ (r11 = 0 → w_M_call_156 (nI p) (nI 39) y y Φ (-1 : Int32) s10))) (e Φ hΦ)
    exact ⟨fun g => absurd g (by decide), fun g => absurd g (by decide), fun g => absurd g (by decide), fun g => absurd g (by decide), fun g => absurd g (by decide), fun g => absurd g (by decide), fun g => absurd g (by decide), fun g => absurd g (by decide), fun g => absurd g (by decide), fun _ => hc, fun g => absurd g (by decide), fun g => absurd g (by decide)⟩
  by_cases c0 : n = 0
  · subst c0
    obtain ⟨s1, e1, v1, f1⟩ := ek_push (cp := cp) (x := -1) kv hl
    obtain ⟨t1, g1, w1, k1⟩ := em_push (x := -1) hp mv (by omega)
    have hP1 := hD.data f1 k1 v1 w1 (by rw [List.length_append]; simp; omega)
    have oD1 := em_descOf (y := y) hp hP1.1.1
    rw [dAt_cg (f1.1 4 (by decide) (by decide) (by decide)), hn] at oD1
    refine ⟨s1, t1, fun Φ hΦ => ?_, hM t1 (fun Φ hΦ => ⟨fun g => absurd rfl g, fun _ => ?_⟩), hP1.out.frm f1 k1⟩
    · unfold w_K_close
      refine hA _ (ek_descAt _ ?_)
      rw [hn]
      exact ⟨fun g => absurd rfl g, fun _ => e1 _ hΦ⟩
    · unfold w_M_call_156
      exact g1 _ (oD1 _ ⟨fun _ => hΦ, fun g => absurd rfl g⟩)
  · have nz : ¬ nI n = 0 := nI_ne0 (by omega) (by omega)
    obtain ⟨d, hd8, ey, -⟩ := d_ix hn c0 (by omega)
    obtain ⟨v1, f1⟩ := kPu_v (x := 0) kv
    obtain ⟨t1, g1, w1, k1⟩ := em_push (x := 0) hp mv (by omega)
    have hP1 := hD.data f1 k1 v1 w1 (by rw [List.length_append]; simp; omega)
    have d4 := f1.1 4 (by decide) (by decide) (by decide)
    have oD1 := em_descOf (y := y) hp hP1.1.1
    rw [dAt_cg d4, hn] at oD1
    obtain ⟨u', v', M, row', k2, k3, k4, k5, k6, k7, k8⟩ := cl_pair hP1.1 hP1.2.1 hP1.2.2.1 hp hd8
    have t20 : t1 20 = t 20 := k1.1 20 (by decide) (by decide) (by decide) (by decide)
    obtain ⟨s', l1, l2⟩ := late (cp := cp) (t := t) (W := fun u Φ => w_K_closeDescriptor cp p (nI d) u (fun r s1 => w_K_wakeAll cp r s1 Φ)) (fun A B u Ψ1 Ψ2 hm hh => ck_cd (fun r v hv => ck_wa hm hv) hh) h1 hZ hp hq kv hl k2 k4 k5 k6 k7 (fun i e => by
      rw [k8 i e, d4]
      by_cases c : i = p ∧ e = d
      · rw [if_pos c]; exact Or.inr rfl
      · rw [if_neg c]; exact Or.inl rfl) (fun k => by rw [t20])
    refine ⟨s', v', fun Φ hΦ => ?_, hM v' (fun Φ hΦ => ⟨fun _ => ?_, fun g => absurd g nz⟩), l2⟩
    · unfold w_K_close
      refine hA _ (ek_descAt _ ?_)
      rw [hn]
      refine ⟨fun _ => ?_, fun g => absurd g nz⟩
      rw [ey]
      exact l1 Φ hΦ
    · unfold w_M_call_156
      refine g1 _ (oD1 _ ⟨fun g => absurd g nz, fun _ => ?_⟩)
      rw [ey]
      exact k3 Φ hΦ
/-- SLEEP -/
theorem c41 (hA : EI (w_P_pop cp p s0) y s) (h : Pre cp T p s t q row) (kv : KV s p L pl m) (mv : MV t p L pl m) (hl : L.length < 32) : ∃ s' t', EK (w_K_sleep cp p s0) s' ∧ EK (w_M_call (nI p) (nI 41) y y t) t' ∧ Out cp T p s t s' t' := by
  have hp := h.2.2.2.2.1
  obtain ⟨s1, e1, v1, f1⟩ := ek_push (cp := cp) (x := 0) kv hl
  obtain ⟨t1, g1, w1, k1⟩ := em_push (x := 0) hp mv (by omega)
  have hP1 := h.data f1 k1 v1 w1 (by rw [List.length_append]; simp; omega)
  by_cases c : y ≤ 0
  · refine ⟨s1, t1, fun Φ hΦ => ?_, fun Φ hΦ => ?_, hP1.out.frm f1 k1⟩
    · unfold w_K_sleep
      exact hA _ (e1 _ ⟨fun _ => hΦ, fun g => absurd c g⟩)
    · have hc := g1 (fun s13 => ((y ≤ 0 → Φ s13) ∧ (¬ y ≤ 0 → w_M_leaveQueue (nI p) s13 (fun s14 => vp_in (nI p) 16 ∧ ∀ s15 : KS, s15 = w3 s14 26 0 (nI p).toNatClampNeg (5 : Int32) → ((y ≤ ((2147483647 : Int32) - (s15 20 0 4)) → w_M_call_235 (nI p) (nI 41) y y Φ ((s15 20 0 4) + y) s15) ∧ (¬ y ≤ ((2147483647 : Int32) - (s15 20 0 4)) → w_M_call_235 (nI p) (nI 41) y y Φ (2147483647 : Int32) s15)))))) ⟨fun _ => hΦ, fun g => absurd c g⟩
      exact ⟨fun g => absurd g (by decide), fun g => absurd g (by decide), fun g => absurd g (by decide), fun g => absurd g (by decide), fun g => absurd g (by decide), fun g => absurd g (by decide), fun g => absurd g (by decide), fun g => absurd g (by decide), fun g => absurd g (by decide), fun g => absurd g (by decide), fun g => absurd g (by decide), fun _ => hc⟩
  · have st1 := hP1.st1
    have hO : ∀ s' t', Out cp T p s1 t1 s' t' → Out cp T p s t s' t' := fun s' t' o => o.frm f1 k1
    obtain ⟨hY, hH, hF, hZ, -, hq, hb, hn⟩ := hP1
    obtain ⟨a1, b1, ea, eb, ek, em⟩ := lq_pair (cp := cp) hY hp
    have hS := hH.2.2.2.2
    have hT : T ≤ 70000 := hS.2.2.2.2.1
    have sT : kL s1 a1 q p 0 0 7 = nI T := hS.2.2.1
    have tT : mL t1 b1 q p 20 0 4 = nI T := hS.2.2.2.1
    have y0 : ¬ y < 0 := fun g => c (by rw [Int32.lt_iff_toInt_lt] at g; rw [Int32.le_iff_toInt_le]; omega)
    obtain ⟨j, hj, ej⟩ := nI_of y0
    have j0 : 0 < j := by
      apply Nat.pos_of_ne_zero
      intro e
      apply c
      rw [ej, e]; decide
    have em1 : (2147483647 : Int32) - nI T = nI (2147483647 - T) := pk_sub (a := 2147483647) (by omega)
    -- the time it wakes
    have wt : ∃ w, nI T < w ∧ (∀ A B : Prop, ((w = nI T + y → A) ∧ (w = 2147483647 → B)) → ((y ≤ (2147483647 : Int32) - nI T → A) ∧ (¬ y ≤ (2147483647 : Int32) - nI T → B))) := by
      by_cases c2 : j ≤ 2147483647 - T
      · refine ⟨nI (T + j), nI_lt (by omega) (by omega), fun A B g => ⟨fun _ => g.1 (by rw [ej, nI_add]), fun k => ?_⟩⟩
        rw [em1, ej] at k
        exact absurd (nI_le c2 (by omega)) k
      · refine ⟨2147483647, nI_lt (b := 2147483647) (by omega) (by omega), fun A B g => ⟨fun k => ?_, fun _ => g.2 rfl⟩⟩
        rw [em1, ej] at k
        exact absurd k (nI_ge (by omega) hj)
    obtain ⟨w, hw, wt⟩ := wt
    have Y1 := ls_Y (v := 5) (w := w) (w2 := w) hY hp st1 ea eb (Or.inr ⟨rfl, rfl⟩)
    have Z1 := ls_Z (w := w) (q := q) (a := a1) hZ hp st1 (Or.inr ⟨rfl, hw⟩)
    refine ⟨kS s1 a1 q p 5 w, mS t1 b1 q p 5 w, fun Φ hΦ => ?_, fun Φ hΦ => ?_, hO _ _ ⟨wo q p, row, Y1, hH, hF, Z1, ?_, ?_, Or.inr ⟨?_, ?_, Or.inl ⟨fun g => (wo_mem.mp g).2 rfl, ?_⟩⟩⟩⟩
    · unfold w_K_sleep w_K_sleep_49
      refine hA _ (e1 _ ⟨fun g => absurd g c, fun _ => ek _ (fun s5 e5 => ?_)⟩)
      have e7 : s5 0 0 7 = nI T := by rw [e5]; exact sT
      rw [e7]
      refine wt _ _ ⟨fun ew z ez => ?_, fun ew z ez => ?_⟩
      · rw [ez, ← ew, e5]; exact hΦ
      · rw [ez, ← ew, e5]; exact hΦ
    · have hc := g1 (fun s13 => ((y ≤ 0 → Φ s13) ∧ (¬ y ≤ 0 → w_M_leaveQueue (nI p) s13 (fun s14 => vp_in (nI p) 16 ∧ ∀ s15 : KS, s15 = w3 s14 26 0 (nI p).toNatClampNeg (5 : Int32) → ((y ≤ ((2147483647 : Int32) - (s15 20 0 4)) → w_M_call_235 (nI p) (nI 41) y y Φ ((s15 20 0 4) + y) s15) ∧ (¬ y ≤ ((2147483647 : Int32) - (s15 20 0 4)) → w_M_call_235 (nI p) (nI 41) y y Φ (2147483647 : Int32) s15)))))) ⟨fun g => absurd g c, fun _ => em _ ⟨vin hp (by omega), fun s15 e15 => by
        rw [cl (n := p) (by omega)] at e15
        have e4 : s15 20 0 4 = nI T := by rw [e15]; exact tT
        rw [e4]
        unfold w_M_call_235
        rw [cl (n := p) (by omega)]
        refine wt _ _ ⟨fun ew => ⟨vin hp (by omega), fun z ez => ?_⟩, fun ew => ⟨vin hp (by omega), fun z ez => ?_⟩⟩
        · rw [ez, ← ew, e15]; exact hΦ
        · rw [ez, ← ew, e15]; exact hΦ⟩⟩
      exact ⟨fun g => absurd g (by decide), fun g => absurd g (by decide), fun g => absurd g (by decide), fun g => absurd g (by decide), fun g => absurd g (by decide), fun g => absurd g (by decide), fun g => absurd g (by decide), fun g => absurd g (by decide), fun g => absurd g (by decide), fun g => absurd g (by decide), fun g => absurd g (by decide), fun _ => hc⟩
    · simp [mS, mL, w3_eq, ur_e, upd_e]
    · simp [kS, kL, w3_eq, ur_e, upd_e]
    · simp [kS, kL, w3_eq, ur_e, upd_e, hq]
    · simp [mS, mL, w3_eq, ur_e, upd_e, hq]
    · simp [mS, mL, w3_eq, ur_e, upd_e]
end CA

section IN
variable {cp T p a k : Nat} {s t s5 t4 s' t' : KS} {q : List Nat} {row : Nat → List Nat} {L : List Int32} {pl A x y r : Int32} {m : Nat → Int32}
theorem fin_pl (h : Pre cp T p s t q row) (kf : KF p s s5) (mf : MF p t t4) (g : Pl cp p k A x y s5 t4) : ∃ s' t', EK (w_P_compute cp p (nI k) A s5) s' ∧ EK (w_M_plain (nI p) (nI k) A x y t4) t' ∧ Out cp T p s t s' t' := by
  obtain ⟨s', t', L', pl', m', e1, e2, v, w, f, g, hl⟩ := g
  exact ⟨s', t', e1, e2, out_data h (kf.trans f) (mf.trans g) v w hl⟩
def wkB (cp p : Nat) (r2 r4 : Int32) (s5 : KS) (Φ : KS → Prop) : Prop := ((r2 = 30 → w_P_pop cp p s5 (fun r7 s6 => w_K_end cp p r7 s6 (fun s8 => Φ s8))) ∧ ((r2 = 31 → w_P_push cp p (s5 1 p 0) s5 (fun s9 => Φ s9)) ∧ ((r2 = 32 → w_K_goToQueueEnd cp p s5 (fun s10 => Φ s10)) ∧ ((r2 = 33 → w_K_write cp p s5 (fun s11 => Φ s11)) ∧ ((r2 = 34 → w_K_read cp p s5 (fun s12 => Φ s12)) ∧ ((r2 = 35 → w_K_fork cp p s5 (fun s13 => Φ s13)) ∧ ((r2 = 36 → w_K_takeEndedChild cp p s5 (fun s14 => Φ s14)) ∧ ((r2 = 37 → w_K_kill cp p s5 (fun s15 => Φ s15)) ∧ ((r2 = 38 → w_K_openPipe cp p s5 (fun s16 => Φ s16)) ∧ ((r2 = 39 → w_K_close cp p s5 (fun s17 => Φ s17)) ∧ ((r2 = 40 → w_K_duplicate cp p s5 (fun s18 => Φ s18)) ∧ ((r2 = 41 → w_K_sleep cp p s5 (fun s19 => Φ s19)) ∧ (¬ r2 = 30 ∧ ¬ r2 = 31 ∧ ¬ r2 = 32 ∧ ¬ r2 = 33 ∧ ¬ r2 = 34 ∧ ¬ r2 = 35 ∧ ¬ r2 = 36 ∧ ¬ r2 = 37 ∧ ¬ r2 = 38 ∧ ¬ r2 = 39 ∧ ¬ r2 = 40 ∧ ¬ r2 = 41 → w_P_compute cp p r2 r4 s5 (fun s20 => Φ s20))))))))))))))
theorem pf_front (kv : KV s p L pl m) (ha : a < 128) (hpl : pl = nI a) (hk : m a &&& 255 = nI k) {Φ : KS → Prop} (g : wkB cp p (nI k) (m a >>> ((8 : Int32) &&& 31)) (w3 s 1 p 5 (pl + 1)) Φ) : w_K_perform cp p s Φ := by
  unfold w_K_perform
  refine ek_kind kv ha hpl hk _ (ek_opd kv ha hpl _ (fun s5 e5 => ?_))
  rw [kv.2.2.1] at e5
  rw [e5]
  exact g
theorem lk_v0 : ∀ k, k < 42 → (k = 0 ∨ k = 1 ∨ k = 18 ∨ k = 22 ∨ k = 24 ∨ k = 31 ∨ k = 32 ∨ k = 35 ∨ k = 36 ∨ k = 38) → lkN k = 0 := by decide +kernel
theorem lk_v1 : ∀ k, k < 42 → (k = 2 ∨ k = 3 ∨ k = 17 ∨ k = 19 ∨ k = 20 ∨ k = 23 ∨ k = 25) → lkN k = 1 := by decide +kernel
theorem lk_v1' : ∀ k, k < 42 → (k = 30 ∨ k = 34 ∨ k = 37 ∨ k = 39 ∨ k = 40 ∨ k = 41) → lkN k = 1 := by decide +kernel
theorem lk_v2 : ∀ k, k < 42 → (k = 4 ∨ (5 ≤ k ∧ k ≤ 16) ∨ k = 21 ∨ k = 33) → lkN k = 2 := by decide +kernel
theorem lk_val (k : Nat) (hk : k < 42) : ((k = 0 ∨ k = 1 ∨ k = 18 ∨ k = 22 ∨ k = 24 ∨ k = 31 ∨ k = 32 ∨ k = 35 ∨ k = 36 ∨ k = 38) → lkN k = 0) ∧ ((k = 2 ∨ k = 3 ∨ k = 17 ∨ k = 19 ∨ k = 20 ∨ k = 23 ∨ k = 25 ∨ k = 30 ∨ k = 34 ∨ k = 37 ∨ k = 39 ∨ k = 40 ∨ k = 41) → lkN k = 1) ∧ ((k = 4 ∨ (5 ≤ k ∧ k ≤ 16) ∨ k = 21 ∨ k = 33) → lkN k = 2) := by
  refine ⟨lk_v0 k hk, fun h => ?_, lk_v2 k hk⟩
  by_cases c : k < 26
  · exact lk_v1 k hk (by omega)
  · exact lk_v1' k hk (by omega)
theorem pu_v2 : ∀ k, k < 42 → (k = 3 ∨ k = 4 ∨ k = 34 ∨ k = 36 ∨ k = 38) → puN k = 2 := by decide +kernel
theorem pu_v1 : ∀ k, k < 42 → (k = 1 ∨ (5 ≤ k ∧ k ≤ 18) ∨ k = 20 ∨ k = 24) → puN k = 1 := by decide +kernel
theorem pu_v1' : ∀ k, k < 42 → (k = 31 ∨ k = 33 ∨ k = 35 ∨ k = 37 ∨ k = 39 ∨ k = 40 ∨ k = 41) → puN k = 1 := by decide +kernel
theorem pu_val (k : Nat) (hk : k < 42) : ((k = 3 ∨ k = 4 ∨ k = 34 ∨ k = 36 ∨ k = 38) → puN k = 2) ∧ ((k = 1 ∨ (5 ≤ k ∧ k ≤ 18) ∨ k = 20 ∨ k = 24 ∨ k = 31 ∨ k = 33 ∨ k = 35 ∨ k = 37 ∨ k = 39 ∨ k = 40 ∨ k = 41) → puN k = 1) := by
  refine ⟨pu_v2 k hk, fun h => ?_⟩
  by_cases c : k < 26
  · exact pu_v1 k hk (by omega)
  · exact pu_v1' k hk (by omega)
theorem tl_kinds : ∀ k, k < 42 → ¬ tL k = -1 → k < 26 ∨ 30 ≤ k := by decide +kernel
theorem split2 {L : List Int32} (h : 2 ≤ L.length) : ∃ L0 x y, L = L0 ++ [x] ++ [y] := by
  obtain ⟨L1, y, e⟩ := split1 (L := L) (by omega)
  have : 1 ≤ L1.length := by rw [e, List.length_append] at h; simp at h; omega
  obtain ⟨L0, x, e2⟩ := split1 this
  exact ⟨L0, x, y, by rw [e, e2]⟩
/-- the plain kinds -/
theorem pf_plain (h : Pre cp T p s t q row) (hl : L.length ≤ 32) (kv : KV s p L pl m) (mv : MV t p L pl m) (ha : a < 128) (hpl : pl = nI a) (hk : m a &&& 255 = nI k) (hk9 : k < 26) (h1 : ¬ tL k = -1) (hlk : lkN k ≤ L.length) (hov : L.length - lkN k + puN k ≤ 32) (hf : sfO k L (m a >>> ((8 : Int32) &&& 31)) 0) : ∃ s' t', EK (w_K_perform cp p s) s' ∧ (∀ Φ : KS → Prop, Φ t' → wiT p k (m a >>> ((8 : Int32) &&& 31)) t Φ) ∧ Out cp T p s t s' t' := by
  have hp := h.2.2.2.2.1
  obtain ⟨kv5, kf5⟩ := ek_place (v := pl + 1) kv
  have hlB := lkB_ok (k := k) (by omega) h1
  have fin : ∀ (x y : Int32) (t4 : KS), MF p t t4 → Pl cp p k (m a >>> ((8 : Int32) &&& 31)) x y (w3 s 1 p 5 (pl + 1)) t4 → (∀ Φ : KS → Prop, wiE p k (m a >>> ((8 : Int32) &&& 31)) x y t4 Φ → wiT p k (m a >>> ((8 : Int32) &&& 31)) t Φ) → ∃ s' t', EK (w_K_perform cp p s) s' ∧ (∀ Φ : KS → Prop, Φ t' → wiT p k (m a >>> ((8 : Int32) &&& 31)) t Φ) ∧ Out cp T p s t s' t' := by
    intro x y t4 mf hPl hw
    obtain ⟨s', t', e1, e2, o⟩ := fin_pl h kf5 mf hPl
    refine ⟨s', t', fun Φ hΦ => pf_front kv ha hpl hk ?_, fun Φ hΦ => hw Φ ⟨fun g => absurd g (nI_ge (b := 30) (by omega) (by omega)), fun _ => e2 _ hΦ⟩, o⟩
    have ne : ∀ b, 30 ≤ b → b < 100 → ¬ nI k = nI b := fun b b1 b2 => nI_ne (by omega) (by omega) (by omega)
    exact ⟨fun g => absurd g (ne 30 (by omega) (by omega)), fun g => absurd g (ne 31 (by omega) (by omega)), fun g => absurd g (ne 32 (by omega) (by omega)), fun g => absurd g (ne 33 (by omega) (by omega)), fun g => absurd g (ne 34 (by omega) (by omega)), fun g => absurd g (ne 35 (by omega) (by omega)), fun g => absurd g (ne 36 (by omega) (by omega)), fun g => absurd g (ne 37 (by omega) (by omega)), fun g => absurd g (ne 38 (by omega) (by omega)), fun g => absurd g (ne 39 (by omega) (by omega)), fun g => absurd g (ne 40 (by omega) (by omega)), fun g => absurd g (ne 41 (by omega) (by omega)), fun _ => e1 _ hΦ⟩
  obtain ⟨v0, v1, v2⟩ := lk_val k (by omega)
  obtain ⟨u2, u1⟩ := pu_val k (by omega)
  by_cases z0 : k = 0 ∨ k = 1 ∨ k = 18 ∨ k = 22 ∨ k = 24
  · have lk := v0 (by omega)
    rw [lk] at hlB hov
    obtain ⟨t4, mv4, mf4, him⟩ := im0 (A := m a >>> ((8 : Int32) &&& 31)) hp mv hlB
    refine fin 0 0 t4 mf4 ?_ him
    rcases z0 with e | e | e | e | e
    · subst e; exact pl_0 hp kv5 mv4 hl
    · subst e; rw [u1 (by omega)] at hov; exact pl_1 hp kv5 mv4 (by omega)
    · subst e; rw [u1 (by omega)] at hov
      refine pl_18 hp kv5 mv4 (by omega) ?_
      rcases hf with ⟨c, -⟩ | ⟨-, ⟨-, c⟩ | ⟨c, -⟩⟩ | ⟨c, -⟩ | ⟨c, -⟩
      · omega
      · exact absurd c (by decide)
      · exact c
      · omega
      · omega
    · subst e; exact pl_22 hp kv5 mv4 hl
    · subst e; rw [u1 (by omega)] at hov; exact pl_24 hp kv5 mv4 (by omega)
  by_cases z1 : k = 2 ∨ k = 3 ∨ k = 17 ∨ k = 19 ∨ k = 20 ∨ k = 23 ∨ k = 25
  · have lk := v1 (by omega)
    rw [lk] at hlB hov hlk
    obtain ⟨L0, y, eL⟩ := split1 hlk
    subst eL
    have ll : (L0 ++ [y]).length = L0.length + 1 := by rw [List.length_append]; rfl
    rw [ll] at hl hov
    obtain ⟨t4, mv4, mf4, him⟩ := im1 (A := m a >>> ((8 : Int32) &&& 31)) hp mv (by omega) hlB
    refine fin y y t4 mf4 ?_ him
    rcases z1 with e | e | e | e | e | e | e
    · subst e; exact pl_2 hp kv5 mv4 (by omega)
    · subst e; rw [u2 (by omega)] at hov; exact pl_3 hp kv5 mv4 (by omega)
    · subst e; exact pl_17 hp kv5 mv4 (by omega)
    · subst e
      refine pl_19 hp kv5 mv4 (by omega) ?_
      rcases hf with ⟨c, -⟩ | ⟨-, ⟨-, c⟩ | ⟨c, -⟩⟩ | ⟨c, -⟩ | ⟨c, -⟩
      · omega
      · exact absurd c (by decide)
      · exact c
      · omega
      · omega
    · subst e
      refine pl_20 hp kv5 mv4 (by omega) ?_
      rcases hf with ⟨c, -⟩ | ⟨c, -⟩ | ⟨-, L1, y1, eL, ⟨-, c⟩ | ⟨c, -⟩⟩ | ⟨c, -⟩
      · omega
      · omega
      · exact absurd c (by decide)
      · rw [last_inj eL]; exact c
      · omega
    · subst e; exact pl_23 hp kv5 mv4 (by omega)
    · subst e; exact pl_25 hp kv5 mv4 (by omega)
  · have z2 : k = 4 ∨ (5 ≤ k ∧ k ≤ 16) ∨ k = 21 := by omega
    have lk := v2 (by omega)
    rw [lk] at hlB hov hlk
    obtain ⟨L0, x, y, eL⟩ := split2 hlk
    subst eL
    have ll : (L0 ++ [x] ++ [y]).length = L0.length + 2 := by rw [List.length_append, List.length_append]; rfl
    rw [ll] at hl hov
    obtain ⟨t4, mv4, mf4, him⟩ := im2 (A := m a >>> ((8 : Int32) &&& 31)) hp mv (by omega) hlB
    refine fin x y t4 mf4 ?_ him
    rcases z2 with e | e | e
    · subst e; exact pl_4 hp kv5 mv4 (by omega)
    · refine pl_ar hp e (fun k8 => ?_) kv5 mv4 (by omega)
      rcases hf with ⟨-, L1, y1, eL, ⟨-, c⟩ | ⟨c, -⟩⟩ | ⟨c, -⟩ | ⟨c, -⟩ | ⟨c, -⟩
      · exact absurd c (by decide)
      · rw [last_inj eL]; exact c
      · omega
      · omega
      · omega
    · subst e
      refine pl_21 hp kv5 mv4 (by omega) ?_
      rcases hf with ⟨c, -⟩ | ⟨c, -⟩ | ⟨-, L1, y1, eL, ⟨-, c⟩ | ⟨c, -⟩⟩ | ⟨c, -⟩
      · omega
      · omega
      · exact absurd c (by decide)
      · rw [last_inj eL]; exact c
      · omega

/-- the calls -/
theorem pf_call (h : Pre cp T p s t q row) (hl : L.length ≤ 32) (kv : KV s p L pl m) (mv : MV t p L pl m) (ha : a < 128) (hpl : pl = nI a) (hk : m a &&& 255 = nI k) (hk9 : 30 ≤ k ∧ k < 42) (h1 : ¬ tL k = -1) (hlk : lkN k ≤ L.length) (hov : L.length - lkN k + puN k ≤ 32) (hnb : k = 33 → ∀ L1 y1 n1, L = L1 ++ [y1] → dAt s p y1 = nI n1 → n1 < 28 → ¬ (20 ≤ n1 ∧ ¬ cnt (t 31 0) (nI (n1 - 10)) 128 = 0 ∧ t 42 0 (n1 - 20) = t 20 0 2)) : ∃ s' t', EK (w_K_perform cp p s) s' ∧ (∀ Φ : KS → Prop, Φ t' → wiT p k (m a >>> ((8 : Int32) &&& 31)) t Φ) ∧ Out cp T p s t s' t' := by
  have hp := h.2.2.2.2.1
  obtain ⟨kv5, kf5⟩ := ek_place (v := pl + 1) kv
  have hlB := lkB_ok (k := k) (by omega) h1
  have fin : ∀ (x y : Int32) (s6 t4 : KS), KF p s s6 → MF p t t4 → (∀ Φ : KS → Prop, wiE p k (m a >>> ((8 : Int32) &&& 31)) x y t4 Φ → wiT p k (m a >>> ((8 : Int32) &&& 31)) t Φ) → (∃ s' t', (∀ Φ : KS → Prop, Φ s' → wkB cp p (nI k) (m a >>> ((8 : Int32) &&& 31)) (w3 s 1 p 5 (pl + 1)) Φ) ∧ EK (w_M_call (nI p) (nI k) x y t4) t' ∧ Out cp T p s6 t4 s' t') → ∃ s' t', EK (w_K_perform cp p s) s' ∧ (∀ Φ : KS → Prop, Φ t' → wiT p k (m a >>> ((8 : Int32) &&& 31)) t Φ) ∧ Out cp T p s t s' t' := by
    intro x y s6 t4 kf mf hw ⟨s', t', e1, e2, o⟩
    exact ⟨s', t', fun Φ hΦ => pf_front kv ha hpl hk (e1 Φ hΦ), fun Φ hΦ => hw Φ ⟨fun _ => e2 _ hΦ, fun g => absurd (nI_le (a := 30) (by omega) (by omega)) g⟩, o.frm kf mf⟩
  obtain ⟨v0, v1, v2⟩ := lk_val k (by omega)
  obtain ⟨u2, u1⟩ := pu_val k (by omega)
  by_cases z0 : k = 31 ∨ k = 32 ∨ k = 35 ∨ k = 36 ∨ k = 38
  · have lk := v0 (by omega)
    rw [lk] at hlB hov
    obtain ⟨t4, mv4, mf4, him⟩ := im0 (A := m a >>> ((8 : Int32) &&& 31)) hp mv hlB
    have P5 := h.data kf5 mf4 kv5 mv4 hl
    refine fin 0 0 _ t4 kf5 mf4 him ?_
    rcases z0 with e | e | e | e | e
    · subst e; rw [u1 (by omega)] at hov
      obtain ⟨s', t', e1, e2, o⟩ := c31 P5 kv5 mv4 (by omega)
      exact ⟨s', t', fun Φ hΦ => ⟨fun g => absurd g (by decide), fun _ => e1 _ hΦ, fun g => absurd g (by decide), fun g => absurd g (by decide), fun g => absurd g (by decide), fun g => absurd g (by decide), fun g => absurd g (by decide), fun g => absurd g (by decide), fun g => absurd g (by decide), fun g => absurd g (by decide), fun g => absurd g (by decide), fun g => absurd g (by decide), fun g => absurd g (by decide)⟩, e2, o⟩
    · subst e
      obtain ⟨s', t', e1, e2, o⟩ := c32 P5
      exact ⟨s', t', fun Φ hΦ => ⟨fun g => absurd g (by decide), fun g => absurd g (by decide), fun _ => e1 _ hΦ, fun g => absurd g (by decide), fun g => absurd g (by decide), fun g => absurd g (by decide), fun g => absurd g (by decide), fun g => absurd g (by decide), fun g => absurd g (by decide), fun g => absurd g (by decide), fun g => absurd g (by decide), fun g => absurd g (by decide), fun g => absurd g (by decide)⟩, e2, o⟩
    · subst e; rw [u1 (by omega)] at hov
      obtain ⟨s', t', e1, e2, o⟩ := c35 P5 kv5 mv4 (by omega)
      exact ⟨s', t', fun Φ hΦ => ⟨fun g => absurd g (by decide), fun g => absurd g (by decide), fun g => absurd g (by decide), fun g => absurd g (by decide), fun g => absurd g (by decide), fun _ => e1 _ hΦ, fun g => absurd g (by decide), fun g => absurd g (by decide), fun g => absurd g (by decide), fun g => absurd g (by decide), fun g => absurd g (by decide), fun g => absurd g (by decide), fun g => absurd g (by decide)⟩, e2, o⟩
    · subst e; rw [u2 (by omega)] at hov
      obtain ⟨s', t', e1, e2, o⟩ := c36 P5 kv5 mv4 (by omega)
      exact ⟨s', t', fun Φ hΦ => ⟨fun g => absurd g (by decide), fun g => absurd g (by decide), fun g => absurd g (by decide), fun g => absurd g (by decide), fun g => absurd g (by decide), fun g => absurd g (by decide), fun _ => e1 _ hΦ, fun g => absurd g (by decide), fun g => absurd g (by decide), fun g => absurd g (by decide), fun g => absurd g (by decide), fun g => absurd g (by decide), fun g => absurd g (by decide)⟩, e2, o⟩
    · subst e; rw [u2 (by omega)] at hov
      obtain ⟨s', t', e1, e2, o⟩ := c38 P5 kv5 mv4 (by omega)
      exact ⟨s', t', fun Φ hΦ => ⟨fun g => absurd g (by decide), fun g => absurd g (by decide), fun g => absurd g (by decide), fun g => absurd g (by decide), fun g => absurd g (by decide), fun g => absurd g (by decide), fun g => absurd g (by decide), fun g => absurd g (by decide), fun _ => e1 _ hΦ, fun g => absurd g (by decide), fun g => absurd g (by decide), fun g => absurd g (by decide), fun g => absurd g (by decide)⟩, e2, o⟩
  by_cases z1 : k = 33
  · subst z1
    have lk := v2 (by omega)
    rw [lk] at hlB hov hlk
    rw [u1 (by omega)] at hov
    obtain ⟨L0, x, y, eL⟩ := split2 hlk
    subst eL
    have ll : (L0 ++ [x] ++ [y]).length = L0.length + 2 := by rw [List.length_append, List.length_append]; rfl
    rw [ll] at hl hov
    obtain ⟨t4, mv4, mf4, him⟩ := im2 (A := m a >>> ((8 : Int32) &&& 31)) hp mv (by omega) hlB
    obtain ⟨s6, e6, kv6, f6⟩ := ek_pop (cp := cp) kv5 (by rw [List.length_append]; simp; omega)
    obtain ⟨s7, e7, kv7, f7⟩ := ek_pop (cp := cp) kv6 (by omega)
    have kf7 := (kf5.trans f6).trans f7
    have P7 := h.data kf7 mf4 kv7 mv4 (by omega)
    refine fin x y _ t4 kf7 mf4 him ?_
    obtain ⟨s', t', e1, e2, o⟩ := c33 e6 e7 (f7.1 4 (by decide) (by decide) (by decide)).symm P7 kv7 mv4 (by omega) (fun n hn hn28 => by
      rw [dAt_cg (kf7.1 4 (by decide) (by decide) (by decide))] at hn
      rw [mf4.1 31 (by decide) (by decide) (by decide) (by decide), mf4.1 42 (by decide) (by decide) (by decide) (by decide), mf4.1 20 (by decide) (by decide) (by decide) (by decide)]
      exact hnb rfl _ y n rfl hn hn28)
    exact ⟨s', t', fun Φ hΦ => ⟨fun g => absurd g (by decide), fun g => absurd g (by decide), fun g => absurd g (by decide), fun _ => e1 _ hΦ, fun g => absurd g (by decide), fun g => absurd g (by decide), fun g => absurd g (by decide), fun g => absurd g (by decide), fun g => absurd g (by decide), fun g => absurd g (by decide), fun g => absurd g (by decide), fun g => absurd g (by decide), fun g => absurd g (by decide)⟩, e2, o⟩
  · have z2 : k = 30 ∨ k = 34 ∨ k = 37 ∨ k = 39 ∨ k = 40 ∨ k = 41 := by omega
    have lk := v1 (by omega)
    rw [lk] at hlB hov hlk
    obtain ⟨L0, y, eL⟩ := split1 hlk
    subst eL
    have ll : (L0 ++ [y]).length = L0.length + 1 := by rw [List.length_append]; rfl
    rw [ll] at hl hov
    obtain ⟨t4, mv4, mf4, him⟩ := im1 (A := m a >>> ((8 : Int32) &&& 31)) hp mv (by omega) hlB
    obtain ⟨s6, e6, kv6, f6⟩ := ek_pop (cp := cp) kv5 (by omega)
    have kf6 := kf5.trans f6
    have P6 := h.data kf6 mf4 kv6 mv4 (by omega)
    refine fin y y _ t4 kf6 mf4 him ?_
    rcases z2 with e | e | e | e | e | e
    · subst e
      obtain ⟨s', t', e1, e2, o⟩ := c30 e6 P6
      exact ⟨s', t', fun Φ hΦ => ⟨fun _ => e1 _ hΦ, fun g => absurd g (by decide), fun g => absurd g (by decide), fun g => absurd g (by decide), fun g => absurd g (by decide), fun g => absurd g (by decide), fun g => absurd g (by decide), fun g => absurd g (by decide), fun g => absurd g (by decide), fun g => absurd g (by decide), fun g => absurd g (by decide), fun g => absurd g (by decide), fun g => absurd g (by decide)⟩, e2, o⟩
    · subst e; rw [u2 (by omega)] at hov
      obtain ⟨s', t', e1, e2, o⟩ := c34 e6 P6 kv6 mv4 (by omega)
      exact ⟨s', t', fun Φ hΦ => ⟨fun g => absurd g (by decide), fun g => absurd g (by decide), fun g => absurd g (by decide), fun g => absurd g (by decide), fun _ => e1 _ hΦ, fun g => absurd g (by decide), fun g => absurd g (by decide), fun g => absurd g (by decide), fun g => absurd g (by decide), fun g => absurd g (by decide), fun g => absurd g (by decide), fun g => absurd g (by decide), fun g => absurd g (by decide)⟩, e2, o⟩
    · subst e; rw [u1 (by omega)] at hov
      obtain ⟨s', t', e1, e2, o⟩ := c37 e6 P6 kv6 mv4 (by omega)
      exact ⟨s', t', fun Φ hΦ => ⟨fun g => absurd g (by decide), fun g => absurd g (by decide), fun g => absurd g (by decide), fun g => absurd g (by decide), fun g => absurd g (by decide), fun g => absurd g (by decide), fun g => absurd g (by decide), fun _ => e1 _ hΦ, fun g => absurd g (by decide), fun g => absurd g (by decide), fun g => absurd g (by decide), fun g => absurd g (by decide), fun g => absurd g (by decide)⟩, e2, o⟩
    · subst e; rw [u1 (by omega)] at hov
      obtain ⟨s', t', e1, e2, o⟩ := c39 e6 P6 kv6 mv4 (by omega)
      exact ⟨s', t', fun Φ hΦ => ⟨fun g => absurd g (by decide), fun g => absurd g (by decide), fun g => absurd g (by decide), fun g => absurd g (by decide), fun g => absurd g (by decide), fun g => absurd g (by decide), fun g => absurd g (by decide), fun g => absurd g (by decide), fun g => absurd g (by decide), fun _ => e1 _ hΦ, fun g => absurd g (by decide), fun g => absurd g (by decide), fun g => absurd g (by decide)⟩, e2, o⟩
    · subst e; rw [u1 (by omega)] at hov
      obtain ⟨s', t', e1, e2, o⟩ := c40 e6 P6 kv6 mv4 (by omega)
      exact ⟨s', t', fun Φ hΦ => ⟨fun g => absurd g (by decide), fun g => absurd g (by decide), fun g => absurd g (by decide), fun g => absurd g (by decide), fun g => absurd g (by decide), fun g => absurd g (by decide), fun g => absurd g (by decide), fun g => absurd g (by decide), fun g => absurd g (by decide), fun g => absurd g (by decide), fun _ => e1 _ hΦ, fun g => absurd g (by decide), fun g => absurd g (by decide)⟩, e2, o⟩
    · subst e; rw [u1 (by omega)] at hov
      obtain ⟨s', t', e1, e2, o⟩ := c41 e6 P6 kv6 mv4 (by omega)
      exact ⟨s', t', fun Φ hΦ => ⟨fun g => absurd g (by decide), fun g => absurd g (by decide), fun g => absurd g (by decide), fun g => absurd g (by decide), fun g => absurd g (by decide), fun g => absurd g (by decide), fun g => absurd g (by decide), fun g => absurd g (by decide), fun g => absurd g (by decide), fun g => absurd g (by decide), fun g => absurd g (by decide), fun _ => e1 _ hΦ, fun g => absurd g (by decide)⟩, e2, o⟩
/-- what the class does with the first in the queue, before it looks at its turn -/
def kSt (cp p : Nat) (s : KS) (Ω : KS → Prop) : Prop := w_P_findFault cp p s (fun r6 s5 => ((r6 = 0 → w_K_mustWait cp p s5 (fun r8 s7 => ((r8 = 0 → w_P_wouldOverflow cp p s7 (fun r10 s9 => ((r10 = 0 → w_K_perform cp p s9 (fun s11 => Ω s11)) ∧ (¬ r10 = 0 → w_K_end cp p (-1002 : Int32) s9 (fun s12 => Ω s12))))) ∧ (¬ r8 = 0 → w_K_beginToWait cp p s7 (fun s13 => Ω s13))))) ∧ (¬ r6 = 0 → w_K_end cp p ((-1000 : Int32) - r6) s5 (fun s14 => Ω s14))))
theorem im_rest (hp : p < 16) (mv : MV t p L pl m) (ha : a < 128) (hpl : pl = nI a) (hk : m a &&& 255 = nI k) (hf : EI (w_M_faultOf (nI p) t) 0 t) (hr : EI (w_M_rowFor (nI p) (nI k) t) r t) {Φ : KS → Prop} (g : ((¬ r = (17 : Int32) → ((r < 0 → wiT p k (m a >>> ((8 : Int32) &&& 31)) t Φ) ∧ (¬ r < 0 → ((r < (8 : Int32) → w_M_instruct_108 (nI p) Φ r t) ∧ (¬ r < (8 : Int32) → (((16 : Int32) ≤ r → w_M_instruct_108 (nI p) Φ r t) ∧ (¬ (16 : Int32) ≤ r → w_M_instruct_109 (nI p) Φ (3 : Int32) r t))))))) ∧ (r = (17 : Int32) → w_M_leaveQueue (nI p) t (fun s12 => vp_in (nI p) 16 ∧ ∀ s13 : KS, s13 = w3 s12 26 0 (nI p).toNatClampNeg (4 : Int32) → Φ s13)))) : w_M_instruct (nI p) t Φ := by
  unfold w_M_instruct
  have e1 : (128 : Int32) * nI p + nI a = nI (128 * p + a) := ix 128 p a
  refine hf _ ⟨fun _ => ?_, fun k => absurd (by decide) k⟩
  rw [cl (n := p) (by omega), mv.2.2.1, hpl, e1, cl (n := 128 * p + a) (by omega), mv.2.2.2 a ha]
  refine ⟨vin hp (by omega), vin (by omega) (by omega), fun y3 e3 y4 e4 y5 e5 => ?_⟩
  rw [e3] at e4 e5
  rw [hk] at e4
  rw [e4, e5]
  refine hr _ ?_
  rw [cl (n := p) (by omega)] at g
  exact g
theorem instr (h : Pre cp T p s t q row) : ∃ s' t', (∀ Ω : KS → Prop, Ω s' → kSt cp p s Ω) ∧ EK (w_M_instruct (nI p) t) t' ∧ Out cp T p s t s' t' := by
  have h0 := h.st0
  have hp := h.2.2.2.2.1
  obtain ⟨L, pl, m, hl, kv, mv⟩ := view h.1 hp h0
  have flt : ∀ f : Int32, ¬ f ≤ 0 → EI (w_P_findFault cp p s) f s → EI (w_M_faultOf (nI p) t) f t → ∃ s' t', (∀ Ω : KS → Prop, Ω s' → kSt cp p s Ω) ∧ EK (w_M_instruct (nI p) t) t' ∧ Out cp T p s t s' t' := by
    intro f hf e1 e2
    have f0 : ¬ f = 0 := fun e => hf (by rw [e]; decide)
    obtain ⟨s', t', g1, g2, o⟩ := out_end (x := (-1000 : Int32) - f) h
    refine ⟨s', t', fun Ω hΩ => ?_, fun Φ hΦ => ?_, o⟩
    · unfold kSt
      exact e1 _ ⟨fun g => absurd g f0, fun _ => g1 _ hΩ⟩
    · unfold w_M_instruct
      exact e2 _ ⟨fun g => absurd g hf, fun _ => g2 _ hΦ⟩
  by_cases cM : inM pl
  · obtain ⟨a, ha, hpl⟩ := cM
    obtain ⟨k, hk256, hk⟩ := pk_andE (m a) (m := 255) 8 (by decide)
    have hk256 : k < 256 := hk256
    by_cases ck : 42 ≤ k ∨ tL k = -1
    · exact flt 5 (by decide) (ff_kind kv ha hpl hk hk256 ck) (fm_kind hp mv ha hpl hk hk256 ck)
    have hk42 : k < 42 := by omega
    have h1 : ¬ tL k = -1 := fun g => ck (Or.inr g)
    by_cases cl0 : L.length < lkN k
    · exact flt 1 (by decide) (ff_low kv hl ha hpl hk hk42 h1 cl0) (fm_low hp mv ha hpl hk hk42 h1 cl0)
    have hlk : lkN k ≤ L.length := by omega
    obtain ⟨f, hf⟩ := sf_ex k L (m a >>> ((8 : Int32) &&& 31)) hk42 hlk
    have ek := ff_sf (cp := cp) kv hl ha hpl hk hk42 h1 hlk hf
    by_cases cf : f = 0
    · subst cf
      obtain ⟨r, hr, hw⟩ := wait_pair (cp := cp) h.1 h.2.1 hp h0 hl kv mv ha hpl hk hk256 (fun e => by
        have : 1 ≤ lkN k := by
          rcases e with e | e
          · rw [(lkN_tab k hk42).2 e]; omega
          · exact (lkN_tab k hk42).1 (by omega)
        exact split1 (by omega))
      have fM : ∀ Ψ : Int32 → KS → Prop, (if L.length - lkN k + puN k ≤ 32 then Ψ 0 t else if 0 ≤ r then Ψ 0 t else Ψ 2 t) → w_M_faultOf (nI p) t Ψ := fun Ψ g => fm_sf hp mv hl ha hpl hk hk42 h1 hlk hf (fun k => absurd rfl k) (fun _ => fm_tail hp mv hl hk42 h1 hlk hr g)
      have eo := ek_over (cp := cp) kv hl ha hpl hk hk42 h1 hlk
      rcases hw with ⟨er, mw, hnb⟩ | ⟨mw, hw⟩
      · by_cases co : L.length - lkN k + puN k ≤ 32
        · rw [if_pos co] at eo
          have fM0 : EI (w_M_faultOf (nI p) t) 0 t := fun Ψ g => fM Ψ (by rw [if_pos co]; exact g)
          have perf : ∃ s' t', EK (w_K_perform cp p s) s' ∧ (∀ Φ : KS → Prop, Φ t' → wiT p k (m a >>> ((8 : Int32) &&& 31)) t Φ) ∧ Out cp T p s t s' t' := by
            rcases tl_kinds k hk42 h1 with c | c
            · exact pf_plain h hl kv mv ha hpl hk c h1 hlk co hf
            · exact pf_call h hl kv mv ha hpl hk ⟨c, hk42⟩ h1 hlk co hnb
          obtain ⟨s', t', g1, g2, o⟩ := perf
          refine ⟨s', t', fun Ω hΩ => ?_, fun Φ hΦ => im_rest hp mv ha hpl hk fM0 hr ?_, o⟩
          · unfold kSt
            exact ek _ ⟨fun _ => mw _ ⟨fun _ => eo _ ⟨fun _ => g1 _ hΩ, fun g => absurd rfl g⟩, fun g => absurd rfl g⟩, fun g => absurd rfl g⟩
          · rw [er]
            exact ⟨fun _ => ⟨fun _ => g2 Φ hΦ, fun g => absurd (by decide) g⟩, fun g => absurd g (by decide)⟩
        · rw [if_neg co] at eo
          obtain ⟨s', t', g1, g2, o⟩ := out_end (x := (-1002 : Int32)) h
          refine ⟨s', t', fun Ω hΩ => ?_, fun Φ hΦ => ?_, o⟩
          · unfold kSt
            exact ek _ ⟨fun _ => mw _ ⟨fun _ => eo _ ⟨fun g => absurd g (by decide), fun _ => g1 _ hΩ⟩, fun g => absurd rfl g⟩, fun g => absurd rfl g⟩
          · unfold w_M_instruct
            refine fM _ ?_
            rw [if_neg co, er, if_neg (by decide)]
            exact ⟨fun g => absurd g (by decide), fun _ => g2 _ hΦ⟩
      · have r0 : 0 ≤ r := by
          rcases hw with ⟨-, e, -⟩ | ⟨R, hR, e, -⟩
          · rw [e]; decide
          · rw [e]; exact nI_pos' (by omega)
        have fM0 : EI (w_M_faultOf (nI p) t) 0 t := fun Ψ g => fM Ψ (by
          by_cases c : L.length - lkN k + puN k ≤ 32
          · rw [if_pos c]; exact g
          · rw [if_neg c, if_pos r0]; exact g)
        have kst : ∀ (s' : KS) (Ω : KS → Prop), w_K_beginToWait cp p s (fun s13 => Ω s13) → kSt cp p s Ω := fun s' Ω g => by
          unfold kSt
          exact ek _ ⟨fun _ => mw _ ⟨fun g => absurd g (by decide), fun _ => g⟩, fun g => absurd rfl g⟩
        rcases hw with ⟨k36, er, hno⟩ | ⟨R, hR, er, hkk, h16, L0, y, eL, hd⟩
        · subst k36
          obtain ⟨s', t', g1, g2, o⟩ := out_w4 h kv ha hpl hk hno
          refine ⟨s', t', fun Ω hΩ => kst s' Ω (g1 _ hΩ), fun Φ hΦ => im_rest hp mv ha hpl hk fM0 hr ?_, o⟩
          rw [er]
          exact ⟨fun g => absurd rfl g, fun _ => g2 Φ hΦ⟩
        · rw [eL] at kv
          have hl0 : L0.length < 32 := by rw [eL, List.length_append] at hl; simp at hl; omega
          have n17 : ¬ nI R = (17 : Int32) := nI_ne (b := 17) (by omega) (by omega) (by omega)
          rcases hkk with ⟨k33, R8, R16⟩ | ⟨k34, hR2⟩
          · obtain ⟨s', t', g1, g2, o⟩ := out_row (v := 3) h hl0 kv ha hpl hk (Or.inl ⟨k33, rfl⟩) hR h16 hd
            refine ⟨s', t', fun Ω hΩ => kst s' Ω (g1 _ hΩ), fun Φ hΦ => im_rest hp mv ha hpl hk fM0 hr ?_, o⟩
            rw [er]
            exact ⟨fun _ => ⟨fun g => absurd g (nI_pos (by omega)), fun _ => ⟨fun g => absurd g (nI_nlt (b := 8) R8 (by omega)), fun _ => ⟨fun g => absurd g (nI_ge (b := 16) R16 (by omega)), fun _ => g2 _ hΦ⟩⟩⟩, fun g => absurd g n17⟩
          · obtain ⟨s', t', g1, g2, o⟩ := out_row (v := 2) h hl0 kv ha hpl hk (Or.inr ⟨k34, rfl⟩) hR h16 hd
            refine ⟨s', t', fun Ω hΩ => kst s' Ω (g1 _ hΩ), fun Φ hΦ => im_rest hp mv ha hpl hk fM0 hr ?_, o⟩
            rw [er]
            refine ⟨fun _ => ⟨fun g => absurd g (nI_pos (by omega)), fun _ => ⟨fun _ => g2 _ hΦ, fun g8 => ⟨fun _ => g2 _ hΦ, fun g16 => ?_⟩⟩⟩, fun g => absurd g n17⟩
            exfalso
            rcases hR2 with c | c
            · exact g8 (nI_lt (b := 8) c (by omega))
            · apply g16; rw [c]; decide
    · have fpos : ¬ f ≤ 0 := by
        rcases hf with ⟨-, L1, y1, -, ⟨-, e⟩ | ⟨-, e⟩⟩ | ⟨-, ⟨-, e⟩ | ⟨-, e⟩⟩ | ⟨-, L1, y1, -, ⟨-, e⟩ | ⟨-, e⟩⟩ | ⟨-, e⟩
        · rw [e]; decide
        · exact absurd e cf
        · rw [e]; decide
        · exact absurd e cf
        · rw [e]; decide
        · exact absurd e cf
        · exact absurd e cf
      exact flt f fpos ek (fun Ψ g => fm_sf hp mv hl ha hpl hk hk42 h1 hlk hf (fun _ => g) (fun e => absurd e cf))
  · exact flt 4 (by decide) (ff_place kv cM) (fm_place hp mv cM)
end IN

section RE
variable {cp T p w : Nat} {s0 sa s t s1 t1 s' t' : KS} {q : List Nat} {row : Nat → List Nat} {L : List Int32} {pl x y : Int32} {m : Nat → Int32}
theorem kap_on (s : KS) (p n n2 : Nat) (a b : Int32) : kap (kPu (kPu s p n a) p n2 b 3) (fun i => kPu (kPu s p n a) p n2 b 1 i 4) s = kPu (kPu s p n a) p n2 b := by
  funext i j k
  unfold kap
  by_cases c3 : i = 3
  · rw [if_pos c3, c3]
  · rw [if_neg c3]
    by_cases c1 : i = 1 ∧ k = 4
    · rw [if_pos c1, c1.1, c1.2]
    · rw [if_neg c1]
      unfold kPu
      rw [w3_eq, if_neg (fun g => c1 ⟨g.1, g.2.2⟩), w3_eq, if_neg (fun g => c3 g.1), w3_eq, if_neg (fun g => c1 ⟨g.1, g.2.2⟩), w3_eq, if_neg (fun g => c3 g.1)]
/-- two words pushed before a waking on the one side, behind it on the other -/
theorem early2 {a b : Int32} {W : KS → (KS → Prop) → Prop} (hW : ∀ (A : Nat → Nat → Int32) (B : Nat → Int32) (u : KS) (Ψ1 Ψ2 : KS → Prop), (∀ v, Ψ1 v → Ψ2 (kap A B v)) → W u Ψ1 → W (kap A B u) Ψ2) {u' v' : KS} {M : List Nat} {row' : Nat → List Nat} (h1 : s 1 p 7 = 1) (hZ0 : Z s T) (hp : p < 16) (hq : q.head? = some p) (kv : KV s p L pl m) (hl : L.length < 31) (e1 : EK (W s) u') (hY : XY u' v' (q ++ M) row') (hH : XH cp T u' v') (hF : XF u' v') (hB : FB s u' t v') (hd : ∀ i e, u' 4 i e = s 4 i e ∨ u' 4 i e = 0) : ∃ s2 s' t2 t', EK (w_P_pushTwo cp p a b s) s2 ∧ EK (W s2) s' ∧ EK (w_M_push (nI p) a v') t2 ∧ EK (w_M_push (nI p) b t2) t' ∧ Out cp T p s t s' t' := by
  obtain ⟨kv1, kf1⟩ := kPu_v (x := a) kv
  have l1 : (L ++ [a]).length = L.length + 1 := by rw [List.length_append]; rfl
  obtain ⟨kv2, kf2⟩ := kPu_v (x := b) kv1
  rw [l1] at kv2 kf2
  have ep1 := ek_kPu (cp := cp) (x := a) kv (by omega)
  have ep2 := ek_kPu (cp := cp) (x := b) kv1 (by omega)
  rw [l1] at ep2
  have kf := kf1.trans kf2
  have hZu : Z u' T := FB_Z hB hd hZ0
  obtain ⟨f1, f2, f3, f8, f9, f10, f11, f12, f13, f14⟩ := hB
  have kvu : KV u' p L pl m := by
    refine ⟨?_, ?_, ?_, fun k hk => ?_⟩
    · rw [f1 p 4 (by decide) (by decide)]; exact kv.1
    · rw [f3]; exact kv.2.1
    · rw [f1 p 5 (by decide) (by decide)]; exact kv.2.2.1
    · rw [f2]; exact kv.2.2.2 k hk
  have st : u' 1 p 7 = 1 := by
    rcases f10 p hp with g | ⟨g, -⟩
    · rw [g]; exact h1
    · exact g
  have mvu := mv_of hY hp (by rw [st]; decide) kvu (by omega)
  obtain ⟨t2, g1, w1, k1⟩ := em_push (x := a) hp mvu (by omega)
  obtain ⟨t3, g2, w2, k2⟩ := em_push (x := b) hp w1 (by omega)
  have kfu : KF p u' (kap (kPu (kPu s p L.length a) p (L.length + 1) b 3) (fun i => kPu (kPu s p L.length a) p (L.length + 1) b 1 i 4) u') := by
    refine ⟨fun i a1 a2 a3 => ?_, fun i k c => ?_, fun i e => ⟨rfl, ?_⟩⟩
    · funext b k
      unfold kap
      rw [if_neg a3, if_neg (fun g => a1 g.1)]
    · unfold kap
      rw [if_neg (by decide)]
      by_cases g : k = 4
      · rw [if_pos ⟨rfl, g⟩, g]
        show kPu (kPu s p L.length a) p (L.length + 1) b 1 i 4 = u' 1 i 4
        rw [kf.2.1 i 4 (fun k => c ⟨k.1, Or.inl g⟩), f1 i 4 (by decide) (by decide)]
      · rw [if_neg (fun k => g k.2)]
    · show kPu (kPu s p L.length a) p (L.length + 1) b 3 i = u' 3 i
      rw [f3, (kf.2.2 i e).2]
  have kvf : KV (kap (kPu (kPu s p L.length a) p (L.length + 1) b 3) (fun i => kPu (kPu s p L.length a) p (L.length + 1) b 1 i 4) u') p (L ++ [a] ++ [b]) pl m := by
    refine ⟨kv2.1, kv2.2.1, ?_, fun k hk => ?_⟩
    · show u' 1 p 5 = pl
      rw [f1 p 5 (by decide) (by decide)]; exact kv.2.2.1
    · show u' 2 p k = m k
      rw [f2]; exact kv.2.2.2 k hk
  refine ⟨_, _, t2, t3, fun Φ hΦ => ep1 _ (ep2 _ hΦ), fun Φ hΦ => ?_, g1, g2, out_fin (s := s) (t := t) hY hH hF hZu hp (app_hd hq) st kfu (k1.trans k2) kvf w2 (by rw [List.length_append, l1]; simp; omega) ⟨f8 6 (by decide), f8 9 (by decide), f11 0 (by decide), f11 17 (by decide), f11 18 (by decide)⟩⟩
  have := hW (kPu (kPu s p L.length a) p (L.length + 1) b 3) (fun i => kPu (kPu s p L.length a) p (L.length + 1) b 1 i 4) s (fun u => u = u') Φ (fun v hv => by rw [hv]; exact hΦ) (e1 _ rfl)
  rw [kap_on] at this
  exact this
/-- a word out of a pipe -/
theorem out_get (h : Pre cp T p s t q row) (kv : KV s p L pl m) (hl : L.length < 31) (hw : w < 8) (hcnt : ¬ cnt (t 31 0) (nI (10 + w)) 128 = 0) (hne : ¬ t 42 0 w = 0) : ∃ v s1 s2 s' t1 t2 t', EI (w_W_take cp w s) v s1 ∧ EK (w_P_pushTwo cp p v 1 s1) s2 ∧ EK (w_K_wakeFirst cp (nI (20 + w)) s2) s' ∧ EI (w_M_outOfPipe (nI w) t) v t1 ∧ EK (w_M_push (nI p) v t1) t2 ∧ EK (w_M_push (nI p) 1 t2) t' ∧ Out cp T p s t s' t' := by
  have h1 := h.st1
  obtain ⟨hY, hH, hF, hZ, hp, hq, hb, hn⟩ := h
  obtain ⟨l0, pn1, pn2, pn3, pn4, pn5, pn6, pn7, pn8⟩ := pipe_n hH hw
  obtain ⟨l, r, n1, n2⟩ := hH.2.1.2.2.2 w hw
  cases l with
  | nil => exact absurd n1 hne
  | cons v l =>
    have hlc : l.length + 1 ≤ cp := by obtain ⟨m, -, -, -, g, -⟩ := r; simpa using g
    obtain ⟨s1, et, ⟨j, es1⟩, r1⟩ := ek_take pn6 (by omega) r
    obtain ⟨g, sh, eo⟩ := em_out (t := t) (n := l.length) hw (by rw [n1]; rfl) (by omega)
    have Y1 : XY s1 (w3 (ur t 41 0 g) 42 0 w (nI l.length)) q row := by rw [es1]; exact hY
    have H1 : XH cp T s1 (w3 (ur t 41 0 g) 42 0 w (nI l.length)) := by
      refine H_pipe (w := w) hw (fun a a5 a6 => ?_) (fun i e => ⟨?_, ?_⟩) (fun a a1 a2 => ?_) ⟨l, r1, ?_⟩ (fun i e => ⟨?_, fun k hk => ?_⟩) hH
      · rw [es1]; funext b k; rw [w3_eq, w3_eq, if_neg (fun g => a5 g.1), if_neg (fun g => a5 g.1)]
      · rw [es1]; funext k; rw [w3_eq, w3_eq, if_neg (fun g => e g.2.1), if_neg (fun g => e g.2.1)]
      · rw [es1]; funext k; rw [w3_eq, w3_eq, if_neg (fun g => e g.2.1), if_neg (fun g => e g.2.1)]
      · funext b k; rw [w3_eq, if_neg (fun g => a2 g.1), ur_e, if_neg (fun g => a1 g.1)]
      · have e42 : w3 (ur t 41 0 g) 42 0 w (nI l.length) 42 0 w = nI l.length := by simp [w3_eq]
        rw [e42]
        exact sh.lin n2
      · rw [w3_eq, if_neg (fun g => e g.2.2)]; rfl
      · show g (16 * i + k) = t 41 0 (16 * i + k)
        exact sh.2 _ (by omega)
    have F1 : XF s1 (w3 (ur t 41 0 g) 42 0 w (nI l.length)) := by
      intro i hi c1 c2
      by_cases e : i = w
      · subst e; exact absurd c1 hcnt
      · rw [es1, w3_eq, if_neg (fun g => e g.2.1), w3_eq, if_neg (fun g => e g.2.1)]
        exact hF i hi c1 c2
    have hr : rc (8 + w) = 20 + w := by unfold rc; rw [if_neg (by omega), if_pos (by omega)]; omega
    obtain ⟨u', v', M, row', k1, k2, k3, k4⟩ := wk_one (cp := cp) (r := 8 + w) Y1 (by omega)
    rw [hr] at k1
    obtain ⟨s2, s', t2, t', e1, e2, e3, e4, o⟩ := early2 (a := v) (b := 1) (W := fun u Φ => w_K_wakeFirst cp (nI (20 + w)) u Φ) (fun A B u Ψ1 Ψ2 hm hh => ck_wf hm hh) (by rw [es1]; exact h1) (by rw [es1]; exact hZ) hp hq (by rw [es1]; exact kv) hl k1 k3 (k4.H H1) (k4.F F1) k4.B (fun i e => Or.inl (by rw [k4.2.2.2.1]))
    have ev : t 41 0 (16 * w) = v := by
      have := n2 0 v (by simp)
      simpa using this
    refine ⟨v, s1, s2, s', v', t2, t', et, e1, e2, fun Φ hΦ => ?_, e3, e4, by rw [es1] at o; exact o⟩
    refine eo Φ (k2 _ ?_)
    rw [ev]
    exact hΦ
/-- a word from the console -/
theorem out_in (h : Pre cp T p s t q row) (kv : KV s p L pl m) (mv : MV t p L pl m) (hl : L.length < 31) (hne : ¬ t 20 0 24 = 0) : ∃ v s1 s' t1 t2 t', EI (w_W_take cp 8 s) v s1 ∧ EK (w_P_pushTwo cp p v 1 s1) s' ∧ t 43 0 0 = v ∧ EK (w_M_push (nI p) v t) t1 ∧ EK (w_M_push (nI p) 1 t1) t2 ∧ (∀ (x1 x2 : Int32) (Φ : KS → Prop), Φ t' → ∃ nn : Nat, w_M_read_49 x1 x2 Φ nn (0 : Int32) (w3 t2 20 0 24 ((t2 20 0 24) - 1))) ∧ ¬ t 20 0 24 ≤ 0 ∧ Out cp T p s t s' t' := by
  have h1 := h.st1
  obtain ⟨hY, hH, hF, hZ, hp, hq, hb, hn⟩ := h
  obtain ⟨E, C, ⟨l, r, ⟨n1, n2⟩, I3, I4⟩, O, S⟩ := hH
  cases l with
  | nil => exact absurd n1 hne
  | cons v l =>
    have hlc : l.length + 1 ≤ 100 := by obtain ⟨m, -, -, -, g, -⟩ := r; simpa using g
    have n1' : t 20 0 24 = nI (l.length + 1) := by rw [n1]; rfl
    obtain ⟨s1, et, ⟨j, es1⟩, r1⟩ := ek_take (cp := cp) (w := 8) (N := 100) rfl (by omega) r
    have kv1 : KV s1 p L pl m := by rw [es1]; exact kv
    obtain ⟨s2, e1, v1, f1⟩ := ek_push (cp := cp) (x := v) kv1 (by omega)
    obtain ⟨s3, e2, v2, f2⟩ := ek_push (cp := cp) (x := 1) v1 (by rw [List.length_append]; simp; omega)
    obtain ⟨t1, g1, w1, k1⟩ := em_push (x := v) hp mv (by omega)
    obtain ⟨t2, g2, w2, k2⟩ := em_push (x := 1) hp w1 (by rw [List.length_append]; simp; omega)
    have mf := k1.trans k2
    have t20 : t2 20 = t 20 := mf.1 20 (by decide) (by decide) (by decide) (by decide)
    have t43 : t2 43 = t 43 := mf.1 43 (by decide) (by decide) (by decide) (by decide)
    have n24 : w3 t2 20 0 24 (nI l.length) 20 0 24 = nI l.length := by simp [w3_eq]
    have sh : ∃ g, SH (t 43 0) 0 l.length g ∧ ∀ (x1 x2 : Int32) (Φ : KS → Prop), Φ (ur (w3 t2 20 0 24 (nI l.length)) 43 0 g) → ∃ nn : Nat, w_M_read_49 x1 x2 Φ nn (0 : Int32) (w3 t2 20 0 24 (nI l.length)) := by
      obtain ⟨g, a1, a2⟩ := em_shift (x1 := nI p) (x2 := nI p) n24 (by omega)
      have e43 : w3 t2 20 0 24 (nI l.length) 43 0 = t 43 0 := by
        show t2 43 0 = t 43 0
        rw [t43]
      rw [e43] at a1
      refine ⟨g, a1, fun x1 x2 Φ hΦ => ?_⟩
      obtain ⟨g', b1, b2⟩ := em_shift (x1 := x1) (x2 := x2) n24 (by omega)
      rw [e43] at b1
      have : g' = g := by
        funext k
        by_cases c : k < l.length
        · have q1 := a1.1 k c
          have q2 := b1.1 k c
          rw [Nat.zero_add] at q1 q2
          rw [q1, q2]
        · rw [a1.2 k (by omega), b1.2 k (by omega)]
      rw [this] at b2
      exact b2 Φ hΦ
    obtain ⟨g, sh1, sh2⟩ := sh
    have Y1 : XY s1 (ur (w3 t 20 0 24 (nI l.length)) 43 0 g) q row := by rw [es1]; exact hY
    have H1 : XH cp T s1 (ur (w3 t 20 0 24 (nI l.length)) 43 0 g) := by
      refine ⟨by rw [es1]; exact E, ⟨C.1, C.2.1, C.2.2.1, fun i hi => ?_⟩, ⟨l, r1, ?_, by rw [es1]; exact I3, by rw [es1]; exact I4⟩, by rw [es1]; exact O, by rw [es1]; exact S⟩
      · obtain ⟨l3, r3, w3'⟩ := C.2.2.2 i hi
        refine ⟨l3, ?_, w3'⟩
        have e5 : s1 5 i = s 5 i := by rw [es1]; funext k; rw [w3_eq, w3_eq, if_neg (by omega), if_neg (by omega)]
        have e6 : s1 6 i = s 6 i := by rw [es1]; rfl
        rw [e5, e6]; exact r3
      · have e24 : ur (w3 t 20 0 24 (nI l.length)) 43 0 g 20 0 24 = nI l.length := by
          show w3 t 20 0 24 (nI l.length) 20 0 24 = _
          simp [w3_eq]
        rw [e24]
        have e43 : ur (w3 t 20 0 24 (nI l.length)) 43 0 g 43 0 = g := by rw [ur_at]
        rw [e43]
        exact sh1.lin n2
    have F1 : XF s1 (ur (w3 t 20 0 24 (nI l.length)) 43 0 g) := by
      intro i hi c1 c2
      rw [es1, w3_eq, if_neg (by omega), w3_eq, if_neg (by omega)]
      exact hF i hi c1 c2
    have mf2 : MF p (ur (w3 t 20 0 24 (nI l.length)) 43 0 g) (ur (w3 t2 20 0 24 (nI l.length)) 43 0 g) := by
      refine ⟨fun a a1 a2 a3 a4 => ?_, mf.2.1, mf.2.2.1, mf.2.2.2⟩
      funext b
      rw [ur_e, ur_e, w3_e2, w3_e2, mf.1 a a1 a2 a3 a4, t20]
    refine ⟨v, s1, s3, t1, t2, ur (w3 t2 20 0 24 (nI l.length)) 43 0 g, et, fun Φ hΦ => e1 _ (e2 _ hΦ), ?_, g1, g2, fun x1 x2 Φ hΦ => ?_, ?_, out_fin (s := s) (t := t) Y1 H1 F1 (by rw [es1]; exact hZ) hp hq (by rw [es1]; exact h1) (f1.trans f2) mf2 v2 w2 (by rw [List.length_append, List.length_append]; simp; omega) ⟨by rw [es1]; rfl, by rw [es1]; rfl, rfl, rfl, rfl⟩⟩
    · have := n2 0 v (by simp)
      simpa using this
    · rw [t20, n1', nI_pred]
      exact sh2 x1 x2 Φ hΦ
    · rw [n1']; exact nI_nle (by omega) (by omega)
/-- READ -/
theorem c34 (hA : EI (w_P_pop cp p s0) y s) (h : Pre cp T p s t q row) (kv : KV s p L pl m) (mv : MV t p L pl m) (hl : L.length < 31) : ∃ s' t', EK (w_K_read cp p s0) s' ∧ EK (w_M_call (nI p) (nI 34) y y t) t' ∧ Out cp T p s t s' t' := by
  have hD := h
  obtain ⟨hY, hH, hF, hZ, hp, hq, hb, hn0⟩ := h
  obtain ⟨n, hn, hd⟩ := dAt_ok (y := y) hp hY.1
  have oD : EI (w_M_descriptorOf (nI p) y t) (nI n) t := by
    have := em_descOf (y := y) hp hY.1
    rw [hn] at this
    exact this
  have hM : ∀ t', EK (w_M_read (nI p) y t) t' → EK (w_M_call (nI p) (nI 34) y y t) t' := fun t' e Φ hΦ => by
    have hc := e Φ hΦ
    exact ⟨fun g => absurd g (by decide), fun g => absurd g (by decide), fun g => absurd g (by decide), fun g => absurd g (by decide), fun _ => hc, fun g => absurd g (by decide), fun g => absurd g (by decide), fun g => absurd g (by decide), fun g => absurd g (by decide), fun g => absurd g (by decide), fun g => absurd g (by decide), fun g => absurd g (by decide)⟩
  by_cases c1 : n = 1
  · subst c1
    have e2n : ∃ l, s 5 8 2 = nI l ∧ t 20 0 24 = nI l ∧ l ≤ 100 := by
      obtain ⟨l, ⟨mm, -, -, g, g2, -⟩, ⟨g3, -⟩, -, -⟩ := hH.2.2.1
      exact ⟨l.length, g, g3, g2⟩
    obtain ⟨l, l1, l2, l3⟩ := e2n
    by_cases c0 : l = 0
    · subst c0
      obtain ⟨s', t1, t', e1, e2, e3, o⟩ := out_push2 (x := 0) (y := 0) hD kv mv hl
      refine ⟨s', t', fun Φ hΦ => ?_, hM t' (fun Φ hΦ => ?_), o⟩
      · unfold w_K_read w_K_pushNext w_W_isEmpty
        refine hA _ (ek_descAt _ ?_)
        rw [hn, l1]
        exact ⟨fun g => absurd rfl g, fun _ => ⟨fun g => absurd rfl g, fun _ => ⟨fun g => absurd g (by decide), fun _ => e1 _ hΦ⟩⟩⟩
      · unfold w_M_read
        refine oD _ ⟨fun g => absurd rfl g, fun _ => ?_⟩
        rw [l2]
        refine ⟨fun _ => ?_, fun g => absurd (by decide) g⟩
        unfold w_M_read_83 w_M_read_129 w_M_read_154 w_M_read_159
        exact ⟨fun _ => e2 _ ⟨fun _ => e3 _ hΦ, fun g => absurd rfl g⟩, fun g => absurd (by decide) g⟩
    · obtain ⟨v, s1, s', t1, t2, t', e1, e2, e3, e4, e5, e6, e7, o⟩ := out_in hD kv mv hl (by rw [l2]; exact nI_ne0 (by omega) (by omega))
      refine ⟨s', t', fun Φ hΦ => ?_, hM t' (fun Φ hΦ => ?_), o⟩
      · unfold w_K_read w_K_pushNext w_W_isEmpty
        refine hA _ (ek_descAt _ ?_)
        rw [hn, l1]
        exact ⟨fun g => absurd rfl g, fun _ => ⟨fun _ => ⟨fun _ => e1 _ (e2 _ hΦ), fun g => absurd rfl g⟩, fun g => absurd g (nI_ne0 (by omega) (by omega))⟩⟩
      · unfold w_M_read
        refine oD _ ⟨fun g => absurd rfl g, fun _ => ⟨fun g => absurd g e7, fun _ => ⟨vin (n := 0) (by omega) (by omega), ?_⟩⟩⟩
        have e0 : t 43 0 (0 : Int32).toNatClampNeg = v := e3
        rw [e0]
        refine e4 _ (e5 _ (fun s5 e => ?_))
        rw [e]
        exact e6 _ _ Φ hΦ
  have n1 : ¬ nI n = (1 : Int32) := nI_ne (b := 1) (by omega) (by omega) c1
  by_cases cr : 10 ≤ n ∧ n < 18
  · obtain ⟨d, hd8, ey, e4⟩ := d_ix hn (by omega) (by omega)
    have hcnt : ¬ cnt (t 31 0) (nI (10 + (n - 10))) 128 = 0 := by
      rw [show 10 + (n - 10) = n by omega]
      have := cnt_pos (f := t 31 0) (x := nI n) (k := 8 * p + d) (n := 128) (by omega) (by rw [(hY.1.2.2.2.2.1 p hp d hd8).1]; exact e4)
      omega
    obtain ⟨l, pn1, pn2, pn3, -⟩ := pipe_n hH (w := n - 10) (by omega)
    have e10 : nI n - 10 = nI (n - 10) := pk_sub (b := 10) (by omega)
    have g10 : ¬ nI n < (10 : Int32) := nI_nlt (b := 10) cr.1 (by omega)
    have g20 : ¬ (20 : Int32) ≤ nI n := nI_ge (b := 20) (by omega) (by omega)
    by_cases c0 : l = 0
    · subst c0
      obtain ⟨s', t1, t', e1, e2, e3, o⟩ := out_push2 (x := 0) (y := 0) hD kv mv hl
      refine ⟨s', t', fun Φ hΦ => ?_, hM t' (fun Φ hΦ => ?_), o⟩
      · unfold w_K_read w_K_pushNext w_W_isEmpty
        refine hA _ (ek_descAt _ ?_)
        rw [hn]
        refine ⟨fun _ => ek_isR (by omega) _ ?_, fun g => absurd g n1⟩
        rw [if_pos cr, e10, cl (n := n - 10) (by omega), pn1]
        exact ⟨fun _ => ⟨vin (by omega) (by omega), fun g => absurd rfl g, fun _ => ⟨fun g => absurd g (by decide), fun _ => e1 _ ⟨fun _ => hΦ, fun g => absurd rfl g⟩⟩⟩, fun g => absurd g (by decide)⟩
      · unfold w_M_read
        refine oD _ ⟨fun _ => ?_, fun g => absurd g n1⟩
        unfold w_M_read_83
        rw [e10, cl (n := n - 10) (by omega), pn2]
        refine ⟨fun g => absurd g g10, fun _ => ⟨fun g => absurd g g20, fun _ => ⟨vin (by omega) (by omega), fun _ => ?_, fun g => absurd (by decide) g⟩⟩⟩
        unfold w_M_read_129 w_M_read_154 w_M_read_159
        exact e2 _ ⟨fun g => absurd g n1, fun _ => ⟨fun g => absurd g g10, fun _ => ⟨fun g => absurd g g20, fun _ => e3 _ hΦ⟩⟩⟩
    · obtain ⟨v, s1, s2, s', t1, t2, t', e1, e2, e3, g1, g2, g3, o⟩ := out_get (w := n - 10) hD kv hl (by omega) hcnt (by rw [pn2]; exact nI_ne0 (by omega) (by omega))
      refine ⟨s', t', fun Φ hΦ => ?_, hM t' (fun Φ hΦ => ?_), o⟩
      · unfold w_K_read w_K_pushNext w_W_isEmpty
        refine hA _ (ek_descAt _ ?_)
        rw [hn]
        refine ⟨fun _ => ek_isR (by omega) _ ?_, fun g => absurd g n1⟩
        rw [if_pos cr, e10, cl (n := n - 10) (by omega), pn1]
        refine ⟨fun _ => ⟨vin (by omega) (by omega), fun _ => ⟨fun _ => e1 _ (e2 _ ⟨fun g => absurd g (by decide), fun _ => ek_other (by omega) _ ?_⟩), fun g => absurd rfl g⟩, fun g => absurd g (nI_ne0 (by omega) (by omega))⟩, fun g => absurd g (by decide)⟩
        rw [if_neg (by omega), show n + 10 = 20 + (n - 10) by omega]
        exact e3 _ hΦ
      · unfold w_M_read
        refine oD _ ⟨fun _ => ?_, fun g => absurd g n1⟩
        unfold w_M_read_83
        rw [e10, cl (n := n - 10) (by omega), pn2]
        exact ⟨fun g => absurd g g10, fun _ => ⟨fun g => absurd g g20, fun _ => ⟨vin (by omega) (by omega), fun g => absurd g (nI_nle (by omega) (by omega)), fun _ => g1 _ (g2 _ (g3 _ hΦ))⟩⟩⟩
  · obtain ⟨s', t1, t', e1, e2, e3, o⟩ := out_push2 (x := 0) (y := -1) hD kv mv hl
    refine ⟨s', t', fun Φ hΦ => ?_, hM t' (fun Φ hΦ => ?_), o⟩
    · unfold w_K_read
      refine hA _ (ek_descAt _ ?_)
      rw [hn]
      refine ⟨fun _ => ek_isR (by omega) _ ?_, fun g => absurd g n1⟩
      rw [if_neg cr]
      exact ⟨fun g => absurd rfl g, fun _ => e1 _ hΦ⟩
    · have h158 : ∀ u, (Φ t' → w_M_push (nI p) (-1) u Φ) → w_M_read_158 (nI p) y Φ u := fun u k => k hΦ
      have h129 : w_M_read_129 (nI p) y Φ (nI n) t := by
        unfold w_M_read_129
        refine e2 _ ⟨fun g => absurd g n1, fun _ => pk_lt n 10 (fun _ => h158 _ (fun k => e3 _ k)) (fun c => pk_le 20 n (fun _ => h158 _ (fun k => e3 _ k)) (fun c2 => by omega))⟩
      unfold w_M_read
      refine oD _ ⟨fun _ => ?_, fun g => absurd g n1⟩
      unfold w_M_read_83
      exact pk_lt n 10 (fun _ => h129) (fun c => pk_le 20 n (fun _ => h129) (fun c2 => by omega))
end RE

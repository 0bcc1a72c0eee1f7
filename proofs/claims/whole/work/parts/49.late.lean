/-! a word pushed before a waking, or behind it -/
def kap (A : Nat → Nat → Int32) (B : Nat → Int32) (s : KS) : KS := fun a b k => if a = 3 then A b k else if a = 1 ∧ k = 4 then B b else s a b k
section KA
variable {A : Nat → Nat → Int32} {B : Nat → Int32} {cp p : Nat} {s : KS} {x v : Int32}
theorem kap_w3 {a b k : Nat} (h3 : ¬ a = 3) (h4 : ¬ (a = 1 ∧ k = 4)) : w3 (kap A B s) a b k v = kap A B (w3 s a b k v) := by
  funext x y z
  rw [w3_eq]
  unfold kap
  rw [w3_eq]
  by_cases c : x = a ∧ y = b ∧ z = k
  · rw [if_pos c, if_pos c, if_neg (fun e => h3 (c.1.symm.trans e)), if_neg (fun e => h4 ⟨c.1.symm.trans e.1, c.2.2.symm.trans e.2⟩)]
  · rw [if_neg c, if_neg c]
theorem kap_w {a b k : Nat} (h3 : ¬ a = 3) (h1 : ¬ a = 1) : w3 (kap A B s) a b k v = kap A B (w3 s a b k v) := kap_w3 h3 (fun e => h1 e.1)
theorem ck_long4 {Ψ1 Ψ2 : Option Nat → KS → Prop} (hm : ∀ o, Ψ1 o s → Ψ2 o (kap A B s)) : ∀ (n : Nat) (o : Option Nat) (v : Int32), w_K_longestWaiting_4 cp x Ψ1 n o v s → w_K_longestWaiting_4 cp x Ψ2 n o v (kap A B s) := by
  intro n
  induction n with
  | zero => intro o v h; exact h
  | succ n ih =>
    intro o v h
    unfold w_K_longestWaiting_4 at h ⊢
    refine ⟨fun g => ⟨fun e => hm _ ((h.1 g).1 e), fun z e => hm _ ((h.1 g).2 z e)⟩, fun g => ⟨(h.2 g).1, fun c y ey => ih _ _ ((h.2 g).2.1 c y ey), fun c => ⟨fun e y ey => ih _ _ (((h.2 g).2.2 c).1 e y ey), fun z e => ⟨fun c2 y ey => ih _ _ ((((h.2 g).2.2 c).2 z e).1 c2 y ey), fun c2 y ey => ih _ _ ((((h.2 g).2.2 c).2 z e).2 c2 y ey)⟩⟩⟩⟩
theorem ck_long {Ψ1 Ψ2 : Option Nat → KS → Prop} (hm : ∀ o, Ψ1 o s → Ψ2 o (kap A B s)) (h : w_K_longestWaiting cp x s Ψ1) : w_K_longestWaiting cp x (kap A B s) Ψ2 := by
  obtain ⟨n, h⟩ := h
  exact ⟨n, ck_long4 hm n _ _ h⟩
theorem ck_ready {z : Nat} {Ψ1 Ψ2 : KS → Prop} (hm : ∀ u, Ψ1 u → Ψ2 (kap A B u)) (h : w_K_makeReady cp z s Ψ1) : w_K_makeReady cp z (kap A B s) Ψ2 := by
  intro s1 e1 s2 e2
  rw [kap_w3 (a := 1) (k := 7) (by decide) (by decide)] at e1
  rw [e1, kap_w3 (a := 1) (k := 10) (by decide) (by decide)] at e2
  obtain ⟨h1, h2⟩ := h _ rfl _ rfl
  rw [e2]
  refine ⟨h1, fun s3 e3 s4 e4 => ?_⟩
  rw [kap_w (a := 8) (by decide) (by decide)] at e3
  rw [e3, kap_w (a := 0) (by decide) (by decide)] at e4
  rw [e4]
  exact hm _ (h2 _ rfl _ rfl)
theorem ck_wf {Ψ1 Ψ2 : KS → Prop} (hm : ∀ u, Ψ1 u → Ψ2 (kap A B u)) (h : w_K_wakeFirst cp x s Ψ1) : w_K_wakeFirst cp x (kap A B s) Ψ2 := by
  unfold w_K_wakeFirst at *
  exact ck_long (fun o ho => ⟨fun e => hm _ (ho.1 e), fun z e => ck_ready hm (ho.2 z e)⟩) h
theorem ck_wa2 {Ψ1 Ψ2 : KS → Prop} (hm : ∀ u, Ψ1 u → Ψ2 (kap A B u)) : ∀ (n : Nat) (v : Int32) (s : KS), w_K_wakeAll_2 cp x Ψ1 n v s → w_K_wakeAll_2 cp x Ψ2 n v (kap A B s) := by
  intro n
  induction n with
  | zero => intro v s h; exact h
  | succ n ih =>
    intro v s h
    unfold w_K_wakeAll_2 at h ⊢
    exact ⟨fun g => hm _ (h.1 g), fun g => ck_long (fun o ho => ⟨fun e => hm _ (ho.1 e), fun z e => ck_ready (fun u hu y ey => ih _ _ (hu y ey)) (ho.2 z e)⟩) (h.2 g)⟩
theorem ck_wa {Ψ1 Ψ2 : KS → Prop} (hm : ∀ u, Ψ1 u → Ψ2 (kap A B u)) (h : w_K_wakeAll cp x s Ψ1) : w_K_wakeAll cp x (kap A B s) Ψ2 := by
  obtain ⟨n, h⟩ := h
  exact ⟨n, ck_wa2 hm n _ _ h⟩
theorem kap_a {a : Nat} (h3 : a ≠ 3) (h1 : a ≠ 1) : kap A B s a = s a := by
  funext b k
  unfold kap
  rw [if_neg h3, if_neg (fun g => h1 g.1)]
theorem ck_80 {Ψ1 Ψ2 : Int32 → KS → Prop} (hm : ∀ r u, Ψ1 r u → Ψ2 r (kap A B u)) (v4 t0 : Int32) (u : KS) (k : w_K_closeDescriptor_80 cp p x Ψ1 v4 t0 u) : w_K_closeDescriptor_80 cp p x Ψ2 v4 t0 (kap A B u) := by
  obtain ⟨k1, k2⟩ := k
  refine ⟨k1, fun s1 e => ?_⟩
  rw [kap_w (a := 5) (by decide) (by decide)] at e
  rw [e]
  exact hm _ _ (k2 _ rfl)
def cdT (cp p : Nat) (x y1 : Int32) (Ψ : Int32 → KS → Prop) (r5 : Int32) (s4 : KS) : Prop := vp_in r5 28 ∧ ((¬ (s4 7 0 r5.toNatClampNeg) = 0 → Ψ r5 s4) ∧ ((s4 7 0 r5.toNatClampNeg) = 0 → (((20 : Int32) ≤ y1 → w_K_closeDescriptor_80 cp p x Ψ r5 (y1 - (20 : Int32)) s4) ∧ (¬ (20 : Int32) ≤ y1 → w_K_closeDescriptor_80 cp p x Ψ r5 (y1 - (10 : Int32)) s4))))
theorem ck_T {Ψ1 Ψ2 : Int32 → KS → Prop} (hm : ∀ r u, Ψ1 r u → Ψ2 r (kap A B u)) (y1 r5 : Int32) (u : KS) (h : cdT cp p x y1 Ψ1 r5 u) : cdT cp p x y1 Ψ2 r5 (kap A B u) := by
  obtain ⟨b1, b2, b3⟩ := h
  unfold cdT
  rw [kap_a (a := 7) (by decide) (by decide)]
  exact ⟨b1, fun d => hm _ _ (b2 d), fun d => ⟨fun e => ck_80 hm _ _ _ ((b3 d).1 e), fun e => ck_80 hm _ _ _ ((b3 d).2 e)⟩⟩
theorem ck_oe {Ψ1 Ψ2 : Int32 → KS → Prop} (hm : ∀ r u, Ψ1 r u → Ψ2 r (kap A B u)) (y1 : Int32) (u : KS) (h : w_K_otherEnd cp y1 u (fun r5 s4 => cdT cp p x y1 Ψ1 r5 s4)) : w_K_otherEnd cp y1 (kap A B u) (fun r5 s4 => cdT cp p x y1 Ψ2 r5 s4) := by
  unfold w_K_otherEnd at h ⊢
  exact ⟨fun c => ck_T hm y1 _ u (h.1 c), fun c => ck_T hm y1 _ u (h.2 c)⟩
theorem ck_cd {Ψ1 Ψ2 : Int32 → KS → Prop} (hm : ∀ r u, Ψ1 r u → Ψ2 r (kap A B u)) (h : w_K_closeDescriptor cp p x s Ψ1) : w_K_closeDescriptor cp p x (kap A B s) Ψ2 := by
  obtain ⟨a1, h⟩ := h
  refine ⟨a1, ?_⟩
  rw [kap_a (a := 4) (by decide) (by decide)]
  intro y1 e1
  obtain ⟨a2, h⟩ := h y1 e1
  refine ⟨a2, fun s2 e2 => ?_⟩
  rw [kap_w (a := 4) (by decide) (by decide)] at e2
  have h := h _ rfl
  generalize w3 s 4 p x.toNatClampNeg 0 = u at e2 h
  rw [e2, kap_a (a := 7) (by decide) (by decide)]
  refine ⟨fun g => ?_, fun g => hm _ _ (h.2 g)⟩
  obtain ⟨a3, a4, h⟩ := h.1 g
  refine ⟨a3, a4, fun s3 e3 => ?_⟩
  rw [kap_w (a := 7) (by decide) (by decide)] at e3
  obtain ⟨a5, h⟩ := h _ rfl
  generalize w3 u 7 0 y1.toNatClampNeg (u 7 0 y1.toNatClampNeg - 1) = v at e3 h
  rw [e3, kap_a (a := 7) (by decide) (by decide)]
  exact ⟨a5, fun g2 => ck_oe hm y1 v (h.1 g2), fun g2 => hm _ _ (h.2 g2)⟩
end KA
section LP
variable {cp T p : Nat} {s t s1 t1 s' t' : KS} {q : List Nat} {row : Nat → List Nat} {L : List Int32} {pl x : Int32} {m : Nat → Int32}
/-- the state behind a push -/
def kPu (s : KS) (p n : Nat) (x : Int32) : KS := w3 (w3 s 3 p n x) 1 p 4 (nI (n + 1))
theorem kPu_v (h : KV s p L pl m) : KV (kPu s p L.length x) p (L ++ [x]) pl m ∧ KF p s (kPu s p L.length x) := by
  obtain ⟨h1, h2, h3, h4⟩ := h
  refine ⟨⟨?_, fun k v hk => ?_, ?_, fun k hk => ?_⟩, ⟨fun a a1 a2 a3 => ?_, fun i k c => ?_, fun i e => ⟨rfl, ?_⟩⟩⟩
  · rw [List.length_append]; simp [kPu, w3_eq]
  · rcases snoc_at hk with ⟨g, e⟩ | ⟨g, e⟩
    · have := h2 k v e
      have ne : k ≠ L.length := by omega
      simpa [kPu, w3_eq, ne] using this
    · simp [kPu, w3_eq, g, e]
  · simpa [kPu, w3_eq] using h3
  · exact h4 k hk
  · funext b k
    unfold kPu
    rw [w3_eq, w3_eq, if_neg (fun g => a1 g.1), if_neg (fun g => a3 g.1)]
  · unfold kPu
    rw [w3_eq, if_neg (fun g => c ⟨g.2.1, Or.inl g.2.2⟩)]
    rfl
  · funext k
    show w3 s 3 p L.length x 3 i k = _
    rw [w3_eq, if_neg (fun g => e g.2.1)]
theorem kap_back (s : KS) (p n : Nat) (x : Int32) : kap (s 3) (fun i => s 1 i 4) (kPu s p n x) = s := by
  funext a b k
  unfold kap kPu
  by_cases c3 : a = 3
  · rw [if_pos c3, c3]
  · rw [if_neg c3]
    by_cases c1 : a = 1 ∧ k = 4
    · rw [if_pos c1, c1.1, c1.2]
    · rw [if_neg c1, w3_eq, if_neg (fun g => c1 ⟨g.1, g.2.2⟩), w3_eq, if_neg (fun g => c3 g.1)]
theorem mv_of (h : XY s t q row) (hp : p < 16) (h0 : ¬ s 1 p 7 = 0) (kv : KV s p L pl m) (hl : L.length ≤ 32) : MV t p L pl m := by
  obtain ⟨n, b0, b1, b2, b3, b4, b5, b6⟩ := h.1.2.2.2.2.2 p hp h0
  have e : n = L.length := nI_inj (by omega) (by omega) (b1.symm.trans kv.1)
  subst e
  refine ⟨b2, fun k v hk => ?_, by rw [b3, kv.2.2.1], fun k hk => by rw [b5 k hk, kv.2.2.2 k hk]⟩
  rw [b6 k (List.getElem?_eq_some_iff.mp hk).1]
  exact kv.2.1 k v hk
/-- waking leaves the outer things as they were -/
theorem FB_Z (hf : FB s s' t t') (hd : ∀ i e, s' 4 i e = s 4 i e ∨ s' 4 i e = 0) (hZ : Z s T) : Z s' T := by
  obtain ⟨f1, f2, f3, f8, f9, f10, f11, f12, f13, f14⟩ := hf
  obtain ⟨Z1, Z2, Z3, Z4⟩ := hZ
  have back : ∀ i (v : Int32), i < 16 → s' 1 i 7 = v → v ≠ 1 → s 1 i 7 = v := fun i v hi g hv => by
    rcases f10 i hi with c | ⟨c, -⟩
    · rw [← c]; exact g
    · rw [c] at g; exact absurd g.symm hv
  refine ⟨fun i hi hz d hd' => ?_, fun i hi hz => ?_, fun i hi h4 c hc => ?_, fun i hi h5 => ?_⟩
  · have hz2 : s 1 i 7 = 0 ∨ s 1 i 7 = 6 := by
      rcases hz with hz | hz
      · exact Or.inl (back i 0 hi hz (by decide))
      · exact Or.inr (back i 6 hi hz (by decide))
    rcases hd i d with g | g
    · rw [g]; exact Z1 i hi hz2 d hd'
    · exact g
  · rw [f1 i 6 (by decide) (by decide)]
    have hi0 : ¬ s 1 i 7 = 0 := fun g => by
      rcases f10 i hi with c | ⟨-, c⟩
      · rw [c] at hz; exact hz g
      · rw [g] at c; rcases c with c | c <;> exact absurd c (by decide)
    rcases Z2 i hi hi0 with g | ⟨j, hj, ej, j0, j6⟩
    · exact Or.inl g
    · refine Or.inr ⟨j, hj, ej, ?_⟩
      rcases f10 j hj with c | ⟨c, -⟩
      · rw [c]; exact ⟨j0, j6⟩
      · rw [c]; exact ⟨by decide, by decide⟩
  · rw [f1 c 6 (by decide) (by decide)]
    rintro ⟨c6, cpar⟩
    exact Z3 i hi (back i 4 hi h4 (by decide)) c hc ⟨back c 6 hc c6 (by decide), cpar⟩
  · rw [f1 i 9 (by decide) (by decide)]
    exact Z4 i hi (back i 5 hi h5 (by decide))
/-- what was run behind the push, run before it -/
theorem late {W : KS → (KS → Prop) → Prop} (hW : ∀ (A : Nat → Nat → Int32) (B : Nat → Int32) (u : KS) (Ψ1 Ψ2 : KS → Prop), (∀ v, Ψ1 v → Ψ2 (kap A B v)) → W u Ψ1 → W (kap A B u) Ψ2) {u' v' : KS} {M : List Nat} {row' : Nat → List Nat} (h1 : s 1 p 7 = 1) (hZ0 : Z s T) (hp : p < 16) (hq : q.head? = some p) (kv : KV s p L pl m) (hl : L.length < 32) (e1 : EK (W (kPu s p L.length x)) u') (hY : XY u' v' (q ++ M) row') (hH : XH cp T u' v') (hF : XF u' v') (hB : FB (kPu s p L.length x) u' t1 v') (hd : ∀ i e, u' 4 i e = s 4 i e ∨ u' 4 i e = 0) (m20 : ∀ k, t1 20 0 k = t 20 0 k) : ∃ s', (∀ Φ : KS → Prop, Φ s' → W s (fun u => w_P_push cp p x u Φ)) ∧ Out cp T p s t s' v' := by
  obtain ⟨kv1, kf1⟩ := kPu_v (x := x) kv
  have hZ1 : Z (kPu s p L.length x) T := du_Z kf1 hZ0
  have d4 : kPu s p L.length x 4 = s 4 := kf1.1 4 (by decide) (by decide) (by decide)
  have hZu : Z u' T := FB_Z hB (fun i e => by rw [d4]; exact hd i e) hZ1
  obtain ⟨f1, f2, f3, f8, f9, f10, f11, f12, f13, f14⟩ := hB
  have kv8 : KV (kap (s 3) (fun i => s 1 i 4) u') p L pl m := by
    refine ⟨kv.1, kv.2.1, ?_, fun k hk => ?_⟩
    · show u' 1 p 5 = pl
      rw [f1 p 5 (by decide) (by decide)]
      exact kv1.2.2.1
    · show u' 2 p k = m k
      rw [f2]
      exact kv1.2.2.2 k hk
  have kf8 : KF p u' (kap (s 3) (fun i => s 1 i 4) u') := by
    refine ⟨fun a a1 a2 a3 => ?_, fun i k c => ?_, fun i e => ⟨rfl, ?_⟩⟩
    · funext b k
      unfold kap
      rw [if_neg a3, if_neg (fun g => a1 g.1)]
    · unfold kap
      rw [if_neg (by decide)]
      by_cases g : k = 4
      · rw [if_pos ⟨rfl, g⟩, g, f1 i 4 (by decide) (by decide), kf1.2.1 i 4 (fun k => c ⟨k.1, Or.inl g⟩)]
      · rw [if_neg (fun k => g k.2)]
    · show s 3 i = u' 3 i
      rw [f3, (kf1.2.2 i e).2]
  obtain ⟨s9, e9, kv9, kf9⟩ := ek_push (cp := cp) (x := x) kv8 hl
  have st : u' 1 p 7 = 1 := by
    have e7 := kf1.2.1 p 7 (fun g => by rcases g.2 with g | g <;> exact absurd g (by decide))
    rcases f10 p hp with g | ⟨g, -⟩
    · rw [g, e7]; exact h1
    · exact g
  have hl2 : (L ++ [x]).length ≤ 32 := by rw [List.length_append]; simp; omega
  have kvu : KV u' p (L ++ [x]) pl m := by
    refine ⟨?_, ?_, ?_, fun k hk => ?_⟩
    · rw [f1 p 4 (by decide) (by decide)]; exact kv1.1
    · rw [f3]; exact kv1.2.1
    · rw [f1 p 5 (by decide) (by decide)]; exact kv1.2.2.1
    · rw [f2]; exact kv1.2.2.2 k hk
  have mvu := mv_of hY hp (by rw [st]; decide) kvu hl2
  have kf := kf8.trans kf9
  have z0 : s9 0 = u' 0 := kf.1 0 (by decide) (by decide) (by decide)
  have p0 : kPu s p L.length x 0 = s 0 := kf1.1 0 (by decide) (by decide) (by decide)
  refine ⟨s9, fun Φ hΦ => ?_, q ++ M, row', du_Y hY hp (by rw [st]; decide) kf (MF.refl p v') kv9 mvu hl2, du_H kf (MF.refl p v') hH, du_F kf (MF.refl p v') hF, du_Z kf hZu, ?_, ?_, Or.inl ⟨app_hd hq, ?_, ?_, ?_⟩⟩
  · have := hW (s 3) (fun i => s 1 i 4) (kPu s p L.length x) (fun u => u = u') (fun u => w_P_push cp p x u Φ) (fun v hv => by rw [hv]; exact e9 Φ hΦ) (e1 _ rfl)
    rw [kap_back] at this
    exact this
  · rw [f11 0 (by decide)]; exact m20 0
  · rw [z0, f8 9 (by decide), p0]
  · rw [z0, f8 6 (by decide), p0]
  · rw [f11 17 (by decide)]; exact m20 17
  · rw [f11 18 (by decide)]; exact m20 18
end LP

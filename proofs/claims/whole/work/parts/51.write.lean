section WR
variable {cp T p w : Nat} {s t s1 t1 s' t' : KS} {q : List Nat} {row : Nat → List Nat} {L : List Int32} {pl x y : Int32} {m : Nat → Int32}
theorem Y_cg (h : XY s t q row) (hs : ∀ a, (a = 1 ∨ a = 2 ∨ a = 3 ∨ a = 4 ∨ a = 8) → s1 a = s a) (h5 : s1 0 0 5 = s 0 0 5) (h8 : s1 0 0 8 = s 0 0 8) (h11 : s1 0 0 11 = s 0 0 11) (ht : ∀ a, 26 ≤ a → a ≤ 40 → t1 a = t a) (h16 : t1 20 0 16 = t 20 0 16) : XY s1 t1 q row := by
  unfold XY XP Bo XQ XB XR at *
  rw [hs 1 (by simp), hs 2 (by simp), hs 3 (by simp), hs 4 (by simp), hs 8 (by simp), h5, h8, h11, ht 26 (by decide) (by decide), ht 27 (by decide) (by decide), ht 28 (by decide) (by decide), ht 29 (by decide) (by decide), ht 30 (by decide) (by decide), ht 31 (by decide) (by decide), ht 32 (by decide) (by decide), ht 33 (by decide) (by decide), ht 34 (by decide) (by decide), ht 35 (by decide) (by decide), ht 39 (by decide) (by decide), ht 40 (by decide) (by decide), h16]
  exact h
theorem Z_cg (h : Z s T) (h1 : s1 1 = s 1) (h4 : s1 4 = s 4) : Z s1 T := by
  unfold Z at *
  rw [h1, h4]
  exact h
theorem KV_cg (h : KV s p L pl m) (h1 : s1 1 = s 1) (h2 : s1 2 = s 2) (h3 : s1 3 = s 3) : KV s1 p L pl m := by
  unfold KV at *
  rw [h1, h2, h3]
  exact h
theorem MV_cg (h : MV t p L pl m) (ht : ∀ a, 26 ≤ a → a ≤ 40 → t1 a = t a) : MV t1 p L pl m := by
  unfold MV at *
  rw [ht 27 (by decide) (by decide), ht 28 (by decide) (by decide), ht 29 (by decide) (by decide), ht 30 (by decide) (by decide)]
  exact h
theorem H_pipe (hw : w < 8) (hs : ∀ a, a ≠ 5 → a ≠ 6 → s' a = s a) (h56 : ∀ i, i ≠ w → s' 5 i = s 5 i ∧ s' 6 i = s 6 i) (ht : ∀ a, a ≠ 41 → a ≠ 42 → t' a = t a) (hC : ∃ l, ring (s' 6 w) (s' 5 w 1) (s' 5 w 2) cp l ∧ lin (t' 41 0) (16 * w) (t' 42 0 w) l) (h4 : ∀ i, i ≠ w → t' 42 0 i = t 42 0 i ∧ ∀ k, k < 16 → t' 41 0 (16 * i + k) = t 41 0 (16 * i + k)) (H : XH cp T s t) : XH cp T s' t' := by
  obtain ⟨E, ⟨C1, C2, C3, C4⟩, I, O, S⟩ := H
  have e20 := ht 20 (by decide) (by decide)
  have e0 := hs 0 (by decide) (by decide)
  refine ⟨?_, ⟨?_, C2, C3, fun i hi => ?_⟩, ?_, ?_, ?_⟩
  · unfold XE at *
    rw [hs 7 (by decide) (by decide), ht 31 (by decide) (by decide)]
    exact E
  · rw [e20]; exact C1
  · by_cases e : i = w
    · rw [e]; exact hC
    · obtain ⟨l, r, n1, n2⟩ := C4 i hi
      have hlen : l.length ≤ cp := by obtain ⟨m, -, -, -, g, -⟩ := r; exact g
      refine ⟨l, ?_, ?_, fun k v hk => ?_⟩
      · rw [(h56 i e).1, (h56 i e).2]; exact r
      · rw [(h4 i e).1]; exact n1
      · have hk2 := (List.getElem?_eq_some_iff.mp hk).1
        rw [(h4 i e).2 k (by omega)]
        exact n2 k v hk
  · unfold XI at *
    rw [e20, e0, ht 43 (by decide) (by decide), (h56 8 (by omega)).1, (h56 8 (by omega)).2]
    exact I
  · unfold XO at *
    rw [e20, e0, ht 46 (by decide) (by decide), (h56 9 (by omega)).1, (h56 9 (by omega)).2]
    exact O
  · unfold XS at *
    rw [e20, e0]
    exact S
theorem out_fin (hY : XY s1 t1 q row) (hH : XH cp T s1 t1) (hF : XF s1 t1) (hZ : Z s1 T) (hp : p < 16) (hq : q.head? = some p) (h1 : s1 1 p 7 = 1) (kf : KF p s1 s') (mf : MF p t1 t') (kv : KV s' p L pl m) (mv : MV t' p L pl m) (hl : L.length ≤ 32) (e : s1 0 0 6 = s 0 0 6 ∧ s1 0 0 9 = s 0 0 9 ∧ t1 20 0 0 = t 20 0 0 ∧ t1 20 0 17 = t 20 0 17 ∧ t1 20 0 18 = t 20 0 18) : Out cp T p s t s' t' := by
  obtain ⟨e6, e9, e0, e17, e18⟩ := e
  have z0 : s' 0 = s1 0 := kf.1 0 (by decide) (by decide) (by decide)
  have z20 : t' 20 = t1 20 := mf.1 20 (by decide) (by decide) (by decide) (by decide)
  exact ⟨q, row, du_Y hY hp (by rw [h1]; decide) kf mf kv mv hl, du_H kf mf hH, du_F kf mf hF, du_Z kf hZ, by rw [z20]; exact e0, by rw [z0]; exact e9, Or.inl ⟨hq, by rw [z0]; exact e6, by rw [z20]; exact e17, by rw [z20]; exact e18⟩⟩
theorem w3_sw (f : KS) {a b k a' b' k' : Nat} {v v' : Int32} (h : a ≠ a') : w3 (w3 f a b k v) a' b' k' v' = w3 (w3 f a' b' k' v') a b k v := by
  funext i j l
  rw [w3_eq, w3_eq, w3_eq, w3_eq]
  by_cases c : i = a ∧ j = b ∧ l = k
  · rw [if_pos c, if_pos c, if_neg (fun g => h (c.1.symm.trans g.1))]
  · rw [if_neg c, if_neg c]
theorem kPu_w3 {a b k n : Nat} {v : Int32} (h3 : a ≠ 3) (h1 : a ≠ 1) : kPu (w3 s a b k v) p n x = w3 (kPu s p n x) a b k v := by
  unfold kPu
  rw [w3_sw s h3, w3_sw _ h1]
/-- a word into a pipe with room; the row of its readers; and the writer's word -/
theorem out_put (h : Pre cp T p s t q row) (kv : KV s p L pl m) (mv : MV t p L pl m) (hl : L.length < 32) (hw : w < 8) (hcnt : ¬ cnt (t 31 0) (nI (10 + w)) 128 = 0) (hroom : ¬ t 42 0 w = t 20 0 2) : ∃ s1 s' t1 t', EK (w_W_add cp w x s) s1 ∧ (∀ Φ : KS → Prop, Φ s' → w_K_wakeFirst cp (nI (rc w)) s1 (fun u => w_P_push cp p 1 u Φ)) ∧ EK (w_M_push (nI p) 1 t) t1 ∧ EK (w_M_intoPipe (nI w) x t1) t' ∧ Out cp T p s t s' t' := by
  have h1 := h.st1
  have hD := h
  obtain ⟨hY, hH, hF, hZ, hp, hq, hb, hn⟩ := h
  obtain ⟨l0, pn1, pn2, pn3, pn4, pn5, pn6, pn7, pn8⟩ := pipe_n hH hw
  obtain ⟨l, r, n1, n2⟩ := hH.2.1.2.2.2 w hw
  have hlc : l.length ≤ cp := by obtain ⟨m, -, -, -, g, -⟩ := r; exact g
  have hlt : l.length < cp := by
    apply Nat.lt_of_le_of_ne hlc
    intro e
    apply hroom
    rw [n1, pn4, e]
  obtain ⟨s1, ea, ⟨j, es1⟩, r1⟩ := ek_add (x := x) pn6 (by omega) r hlt
  obtain ⟨kv1, kf1⟩ := kPu_v (x := 1) kv
  obtain ⟨t1, em1, mv1, mf1⟩ := em_push (x := 1) hp mv (by omega)
  have hl2 : (L ++ [1]).length ≤ 32 := by rw [List.length_append]; simp; omega
  have hP1 := hD.data kf1 mf1 kv1 mv1 hl2
  obtain ⟨hY1, hH1, hF1, hZ1, -, -, -, -⟩ := hP1
  have t31 : t1 31 = t 31 := mf1.1 31 (by decide) (by decide) (by decide) (by decide)
  have t42 : t1 42 = t 42 := mf1.1 42 (by decide) (by decide) (by decide) (by decide)
  have t41 : t1 41 = t 41 := mf1.1 41 (by decide) (by decide) (by decide) (by decide)
  have t20 : t1 20 = t 20 := mf1.1 20 (by decide) (by decide) (by decide) (by decide)
  have k6 : kPu s p L.length 1 6 = s 6 := kf1.1 6 (by decide) (by decide) (by decide)
  have k5 : kPu s p L.length 1 5 = s 5 := kf1.1 5 (by decide) (by decide) (by decide)
  have eA : kPu s1 p L.length 1 = w3 (w3 (kPu s p L.length 1) 6 w j x) 5 w 2 (nI (l.length + 1)) := by
    rw [es1, kPu_w3 (by decide) (by decide), kPu_w3 (by decide) (by decide)]
  have YA : XY (w3 (w3 (kPu s p L.length 1) 6 w j x) 5 w 2 (nI (l.length + 1))) (w3 (w3 t1 41 0 (16 * w + l.length) x) 42 0 w (nI (l.length + 1))) q row := hY1
  have HA : XH cp T (w3 (w3 (kPu s p L.length 1) 6 w j x) 5 w 2 (nI (l.length + 1))) (w3 (w3 t1 41 0 (16 * w + l.length) x) 42 0 w (nI (l.length + 1))) := by
    refine H_pipe (w := w) hw (fun a a5 a6 => ?_) (fun i e => ⟨?_, ?_⟩) (fun a a1 a2 => ?_) ⟨l ++ [x], ?_, ?_, fun k v hk => ?_⟩ (fun i e => ⟨?_, fun k hk => ?_⟩) hH1
    · funext b k; rw [w3_eq, w3_eq, if_neg (fun g => a5 g.1), if_neg (fun g => a6 g.1)]
    · funext k; rw [w3_eq, w3_eq, if_neg (fun g => e g.2.1), if_neg (fun g => e g.2.1)]
    · funext k; rw [w3_eq, w3_eq, if_neg (fun g => e g.2.1), if_neg (fun g => e g.2.1)]
    · funext b k; rw [w3_eq, w3_eq, if_neg (fun g => a2 g.1), if_neg (fun g => a1 g.1)]
    · rw [← eA]
      have q6 : kPu s1 p L.length 1 6 = s1 6 := by
        funext b k; unfold kPu; rw [w3_eq, w3_eq, if_neg (fun g => absurd g.1 (by decide)), if_neg (fun g => absurd g.1 (by decide))]
      have q5 : kPu s1 p L.length 1 5 = s1 5 := by
        funext b k; unfold kPu; rw [w3_eq, w3_eq, if_neg (fun g => absurd g.1 (by decide)), if_neg (fun g => absurd g.1 (by decide))]
      rw [q5, q6]; exact r1
    · rw [List.length_append]; simp [w3_eq]
    · rcases snoc_at hk with ⟨g, e⟩ | ⟨g, e⟩
      · have := n2 k v e
        rw [w3_eq, if_neg (fun g => absurd g.1 (by decide)), w3_eq, if_neg (by omega), t41]
        exact this
      · rw [w3_eq, if_neg (fun g => absurd g.1 (by decide)), w3_eq, if_pos ⟨rfl, rfl, by rw [g]⟩, e]
    · rw [w3_eq, if_neg (fun g => e g.2.2), w3_eq, if_neg (fun g => absurd g.1 (by decide))]
    · rw [w3_eq, if_neg (fun g => absurd g.1 (by decide)), w3_eq, if_neg (by omega)]
  have FA : XF (w3 (w3 (kPu s p L.length 1) 6 w j x) 5 w 2 (nI (l.length + 1))) (w3 (w3 t1 41 0 (16 * w + l.length) x) 42 0 w (nI (l.length + 1))) := by
    intro i hi c1 c2
    by_cases e : i = w
    · subst e
      have c3 : cnt (t1 31 0) (nI (10 + i)) 128 = 0 := c1
      rw [t31] at c3
      exact absurd c3 hcnt
    · rw [w3_eq, if_neg (fun g => e g.2.1)]
      exact hF1 i hi c1 c2
  obtain ⟨u', v', M, row', g1, g2, g3, g4⟩ := wk_one (cp := cp) (r := w) YA (by omega)
  have dd : ∀ i e, u' 4 i e = s1 4 i e ∨ u' 4 i e = 0 := fun i e => by
    left
    rw [g4.2.2.2.1, es1]
    show kPu s p L.length 1 4 i e = s 4 i e
    rw [kf1.1 4 (by decide) (by decide) (by decide)]
  have s17 : s1 1 p 7 = 1 := by rw [es1]; exact h1
  have sZ : Z s1 T := by rw [es1]; exact hZ
  have skv : KV s1 p L pl m := by rw [es1]; exact kv
  rw [← eA] at g1 g4
  obtain ⟨s', l1, l2⟩ := late (cp := cp) (t := t) (W := fun u Φ => w_K_wakeFirst cp (nI (rc w)) u Φ) (fun A B u Ψ1 Ψ2 hm hh => ck_wf hm hh) s17 sZ hp hq skv hl g1 g3 (g4.H (by rw [eA]; exact HA)) (g4.F (by rw [eA]; exact FA)) g4.B dd (fun k => by
    show t1 20 0 k = t 20 0 k
    rw [t20])
  refine ⟨s1, s', t1, v', ea, l1, em1, fun Φ hΦ => ?_, by rw [es1] at l2; exact l2⟩
  unfold w_M_intoPipe
  have e16 : (16 : Int32) * nI w + nI l.length = nI (16 * w + l.length) := ix 16 w l.length
  have e42 : t1 42 0 w = nI l.length := by rw [t42]; exact n1
  rw [cl (n := w) (by omega), e42, e16, cl (n := 16 * w + l.length) (by omega)]
  refine ⟨vin hw (by omega), vin (by omega) (by omega), fun z1 ez1 => ⟨vin hw (by omega), vin hw (by omega), fun z2 ez2 => ?_⟩⟩
  have e42' : z1 42 0 w = nI l.length := by rw [ez1]; exact e42
  rw [e42', nI_1] at ez2
  rw [ez2, ez1]
  exact g2 Φ hΦ
/-- a word to the console -/
theorem print_pair (hY : XY s t q row) (hH : XH cp T s t) (hF : XF s t) (hZ : Z s T) {n : Nat} (hn : s 0 0 13 = nI n) (hnT : n < T) : ∃ s1, EK (w_K_print cp x s) s1 ∧ t 20 0 27 = nI n ∧ XY s1 (w3 (w3 t 46 0 (n % 500) x) 20 0 27 (nI (n + 1))) q row ∧ XH cp T s1 (w3 (w3 t 46 0 (n % 500) x) 20 0 27 (nI (n + 1))) ∧ XF s1 (w3 (w3 t 46 0 (n % 500) x) 20 0 27 (nI (n + 1))) ∧ Z s1 T ∧ s1 1 = s 1 ∧ s1 2 = s 2 ∧ s1 3 = s 3 ∧ (∀ k, k ≠ 13 → s1 0 0 k = s 0 0 k) := by
  obtain ⟨E, ⟨C1, C2, C3, C4⟩, I, ⟨n', l, r, o1, o2, o3, o4, o5⟩, S⟩ := hH
  have hT : T ≤ 70000 := S.2.2.2.2.1
  have en : n' = n := nI_inj (by omega) (by omega) (o1.symm.trans hn)
  subst en
  have a9 : aL cp 6 9 = 500 := rfl
  have len : s 5 9 2 = nI l.length := by obtain ⟨m, -, -, g, -, -⟩ := r; exact g
  -- what is left to show, once the ring is known
  have fin : ∀ (s2 : KS) (l2 : List Int32), (∀ a, a ≠ 5 → a ≠ 6 → s2 a = s a) → (∀ i, i ≠ 9 → s2 5 i = s 5 i ∧ s2 6 i = s 6 i) → ring (s2 6 9) (s2 5 9 1) (s2 5 9 2) 500 l2 → l2.length = min (n' + 1) 500 → (∀ k v, l2[k]? = some v → upd (t 46 0) (n' % 500) x ((n' + 1 - l2.length + k) % 500) = v) → XY (w3 s2 0 0 13 (nI (n' + 1))) (w3 (w3 t 46 0 (n' % 500) x) 20 0 27 (nI (n' + 1))) q row ∧ XH cp T (w3 s2 0 0 13 (nI (n' + 1))) (w3 (w3 t 46 0 (n' % 500) x) 20 0 27 (nI (n' + 1))) ∧ XF (w3 s2 0 0 13 (nI (n' + 1))) (w3 (w3 t 46 0 (n' % 500) x) 20 0 27 (nI (n' + 1))) ∧ Z (w3 s2 0 0 13 (nI (n' + 1))) T ∧ w3 s2 0 0 13 (nI (n' + 1)) 1 = s 1 ∧ w3 s2 0 0 13 (nI (n' + 1)) 2 = s 2 ∧ w3 s2 0 0 13 (nI (n' + 1)) 3 = s 3 ∧ (∀ k, k ≠ 13 → w3 s2 0 0 13 (nI (n' + 1)) 0 0 k = s 0 0 k) := by
    intro s2 l2 hs h56 r2 q1 q2
    have z : ∀ a, a ≠ 0 → a ≠ 5 → a ≠ 6 → w3 s2 0 0 13 (nI (n' + 1)) a = s a := fun a a0 a5 a6 => by
      funext b k
      rw [w3_eq, if_neg (fun g => a0 g.1), hs a a5 a6]
    have z0 : ∀ k, k ≠ 13 → w3 s2 0 0 13 (nI (n' + 1)) 0 0 k = s 0 0 k := fun k hk => by
      rw [w3_eq, if_neg (fun g => hk g.2.2), hs 0 (by decide) (by decide)]
    have z5 : ∀ i, w3 s2 0 0 13 (nI (n' + 1)) 5 i = s2 5 i := fun i => rfl
    have z6 : ∀ i, w3 s2 0 0 13 (nI (n' + 1)) 6 i = s2 6 i := fun i => rfl
    refine ⟨Y_cg hY (fun a ha => z a (by omega) (by omega) (by omega)) (z0 5 (by decide)) (z0 8 (by decide)) (z0 11 (by decide)) (fun a a1 a2 => ?_) rfl, ⟨?_, ⟨C1, C2, C3, fun i hi => ?_⟩, ?_, ⟨n' + 1, l2, r2, by simp [w3_eq], by simp [w3_eq], q1, by omega, q2⟩, ?_⟩, fun i hi c1 c2 => ?_, Z_cg hZ (z 1 (by decide) (by decide) (by decide)) (z 4 (by decide) (by decide) (by decide)), z 1 (by decide) (by decide) (by decide), z 2 (by decide) (by decide) (by decide), z 3 (by decide) (by decide) (by decide), z0⟩
    · funext b k
      rw [w3_eq, if_neg (by omega), w3_eq, if_neg (by omega)]
    · unfold XE at *
      rw [z 7 (by decide) (by decide) (by decide)]
      exact E
    · obtain ⟨l3, r3, w3'⟩ := C4 i hi
      refine ⟨l3, ?_, w3'⟩
      rw [z5, z6, (h56 i (by omega)).1, (h56 i (by omega)).2]
      exact r3
    · unfold XI at *
      rw [z5, z6, (h56 8 (by decide)).1, (h56 8 (by decide)).2, z0 11 (by decide)]
      exact I
    · unfold XS at *
      rw [z0 0 (by decide), z0 7 (by decide), z0 8 (by decide), z0 9 (by decide)]
      exact S
    · rw [z5, (h56 i (by omega)).1]
      exact hF i hi c1 c2
  by_cases c : n' < 500
  · have hlen : l.length = n' := by omega
    obtain ⟨s2, ea, ⟨j, es2⟩, r2⟩ := ek_add (x := x) a9 (by omega) r (by omega)
    have := fin s2 (l ++ [x]) (fun a a5 a6 => by rw [es2]; funext b k; rw [w3_eq, w3_eq, if_neg (fun g => a5 g.1), if_neg (fun g => a6 g.1)]) (fun i e => by rw [es2]; exact ⟨by funext k; rw [w3_eq, w3_eq, if_neg (fun g => e g.2.1), if_neg (fun g => e g.2.1)], by funext k; rw [w3_eq, w3_eq, if_neg (fun g => e g.2.1), if_neg (fun g => e g.2.1)]⟩) r2 (by rw [List.length_append]; simp; omega) (fun k v hk => by
      have hk2 := (List.getElem?_eq_some_iff.mp hk).1
      have ll : (l ++ [x]).length = n' + 1 := by rw [List.length_append]; simp; omega
      rw [ll] at hk2 ⊢
      rcases snoc_at hk with ⟨g, e⟩ | ⟨g, e⟩
      · rw [upd_e, if_neg (by omega)]
        have := o5 k v e
        rw [hlen] at this
        have hx : (n' + 1 - (n' + 1) + k) % 500 = (n' - n' + k) % 500 := by omega
        rw [hx]
        exact this
      · rw [upd_e, if_pos (by omega), e])
    refine ⟨_, fun Φ hΦ => ?_, o2, this⟩
    unfold w_K_print w_W_isFull
    rw [a9, len]
    refine ⟨fun _ => ⟨fun _ => ?_, fun g => absurd rfl g⟩, fun g => absurd (nI_inj (b := 500) (by omega) (by omega) g) (by omega)⟩
    unfold w_K_print_18
    refine ea _ (fun z ez => ?_)
    have e13 : s2 0 0 13 = nI n' := by rw [es2]; exact hn
    rw [ez, e13, nI_1]
    exact hΦ
  · have hlen : l.length = 500 := by omega
    cases l with
    | nil => simp at hlen
    | cons y l =>
      simp at hlen
      obtain ⟨s2, et, ⟨j, es2⟩, r2⟩ := ek_take a9 (by omega) r
      obtain ⟨s3, ea, ⟨j3, es3⟩, r3⟩ := ek_add (x := x) a9 (by omega) r2 (by omega)
      have := fin s3 (l ++ [x]) (fun a a5 a6 => by
        rw [es3, es2]; funext b k; rw [w3_eq, w3_eq, w3_eq, w3_eq, if_neg (fun g => a5 g.1), if_neg (fun g => a6 g.1), if_neg (fun g => a5 g.1), if_neg (fun g => a5 g.1)]) (fun i e => by
        rw [es3, es2]
        exact ⟨by funext k; rw [w3_eq, w3_eq, w3_eq, w3_eq, if_neg (fun g => e g.2.1), if_neg (fun g => e g.2.1), if_neg (fun g => e g.2.1), if_neg (fun g => e g.2.1)], by funext k; rw [w3_eq, w3_eq, w3_eq, w3_eq, if_neg (fun g => e g.2.1), if_neg (fun g => e g.2.1), if_neg (fun g => e g.2.1), if_neg (fun g => e g.2.1)]⟩) r3 (by rw [List.length_append]; simp; omega) (fun k v hk => by
        have hk2 := (List.getElem?_eq_some_iff.mp hk).1
        have ll : (l ++ [x]).length = 500 := by rw [List.length_append]; simp; omega
        rw [ll] at hk2 ⊢
        rcases snoc_at hk with ⟨g, e⟩ | ⟨g, e⟩
        · rw [upd_e, if_neg (by omega)]
          have := o5 (k + 1) v (by simpa using e)
          have l5 : (y :: l).length = 500 := by simp; omega
          rw [l5] at this
          have hx : (n' + 1 - 500 + k) % 500 = (n' - 500 + (k + 1)) % 500 := by omega
          rw [hx]
          exact this
        · rw [upd_e, if_pos (by omega), e])
      refine ⟨_, fun Φ hΦ => ?_, o2, this⟩
      unfold w_K_print w_W_isFull
      rw [a9, len]
      have l5 : (y :: l).length = 500 := by simp; omega
      rw [l5]
      refine ⟨fun g => absurd rfl g, fun _ => ⟨fun g => absurd g (by decide), fun _ => et _ ?_⟩⟩
      unfold w_K_print_18
      refine ea _ (fun z ez => ?_)
      have e13 : s3 0 0 13 = nI n' := by rw [es3, es2]; exact hn
      rw [ez, e13, nI_1]
      exact hΦ
end WR

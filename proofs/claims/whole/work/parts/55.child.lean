section WC
variable {cp T p : Nat} {s0 s t s1 t1 s' t' : KS} {q : List Nat} {row : Nat → List Nat} {L : List Int32} {pl x y : Int32} {m : Nat → Int32}
/-- an ended one is taken away -/
theorem ab_Y {c : Nat} (h : XY s t q row) (hc : c < 16) (h6 : s 1 c 7 = 6) : XY (w3 s 1 c 7 0) (w3 t 26 0 c 0) q row := by
  have hw10 : s 1 c 10 = -1 := h.norow hc (by rw [h6]; decide) (by rw [h6]; decide)
  obtain ⟨⟨h1, h2, h3, h4, h5, h6'⟩, hQ, hB, hR⟩ := h
  refine ⟨⟨fun i hi => ?_, fun i hi => ?_, fun i hi => ?_, fun i hi h9 => ?_, h5, fun i hi h9 => ?_⟩, hQ, fun i hi => ?_, fun r hr => ?_, fun i hi => ?_⟩
  · have := h1 i hi
    simpa [w3_eq] using this
  · have := h2 i hi
    by_cases e : i = c
    · simp [w3_eq, e]
    · simpa [w3_eq, e] using this
  · have := h3 i hi
    by_cases e : i = c
    · subst e
      rw [h6, if_neg (by decide)] at this
      simpa [w3_eq] using this
    · simpa [w3_eq, e] using this
  · by_cases e : i = c
    · subst e; simp [w3_eq] at h9
    · have := h4 i hi (by simpa [w3_eq, e] using h9)
      simpa [w3_eq] using this
  · by_cases e : i = c
    · subst e; simp [w3_eq] at h9
    · obtain ⟨m, b0, b1, b2, b3, b4, b5, b6⟩ := h6' i hi (by simpa [w3_eq, e] using h9)
      exact ⟨m, b0, by simpa [w3_eq] using b1, b2, by simpa [w3_eq] using b3, by simpa [w3_eq] using b4, b5, b6⟩
  · rw [hB i hi]
    by_cases e : i = c
    · subst e; rw [h6]; simp [w3_eq]
    · simp [w3_eq, e]
  · obtain ⟨g1, g2, g3, g4, g5⟩ := hR.1 r hr
    refine ⟨g1, g2, ?_, fun i => ?_, fun i hi => ?_⟩
    · refine g3.imp (fun {a b} hab => ?_)
      simpa [w3_eq] using hab
    · have := g4 i
      simpa [w3_eq] using this
    · have := g5 i hi
      simpa [w3_eq] using this
  · by_cases e : i = c
    · subst e; left; simpa [w3_eq] using hw10
    · have := hR.2 i hi
      simpa [w3_eq, e] using this
theorem ab_Z {c : Nat} (hZ : Z s T) (hc : c < 16) (h6 : s 1 c 7 = 6) : Z (w3 s 1 c 7 0) T := by
  obtain ⟨Z1, Z2, Z3, Z4⟩ := hZ
  have st : ∀ i, i ≠ c → w3 s 1 c 7 0 1 i 7 = s 1 i 7 := fun i e => by simp [w3_eq, e]
  have stc : w3 s 1 c 7 0 1 c 7 = 0 := by simp [w3_eq]
  have par : ∀ i, w3 s 1 c 7 0 1 i 6 = s 1 i 6 := fun i => by simp [w3_eq]
  have wt : ∀ i, w3 s 1 c 7 0 1 i 9 = s 1 i 9 := fun i => by simp [w3_eq]
  refine ⟨fun i hi hz d hd => ?_, fun i hi hz => ?_, fun i hi h4 j hj => ?_, fun i hi h5 => ?_⟩
  · show s 4 i d = 0
    by_cases e : i = c
    · rw [e]; exact Z1 c hc (Or.inr h6) d hd
    · rw [st i e] at hz; exact Z1 i hi hz d hd
  · have e : i ≠ c := fun e => hz (by rw [e]; exact stc)
    rw [st i e] at hz
    rw [par i]
    rcases Z2 i hi hz with g | ⟨j, hj, ej, j0, j6⟩
    · exact Or.inl g
    · refine Or.inr ⟨j, hj, ej, ?_⟩
      rw [st j (fun e => j6 (by rw [e]; exact h6))]
      exact ⟨j0, j6⟩
  · have e : i ≠ c := fun e => by rw [e, stc] at h4; exact absurd h4 (by decide)
    rw [st i e] at h4
    rw [par j]
    rintro ⟨c6, cp⟩
    have ej : j ≠ c := fun e => by rw [e, stc] at c6; exact absurd c6 (by decide)
    rw [st j ej] at c6
    exact Z3 i hi h4 j hj ⟨c6, cp⟩
  · have e : i ≠ c := fun e => by rw [e, stc] at h5; exact absurd h5 (by decide)
    rw [st i e] at h5
    rw [wt i]
    exact Z4 i hi h5
theorem em_aw {v : Nat} (hv : v ≤ 16) (hno : ∀ j, j < v → ¬ (t 26 0 j = 6 ∧ t 32 0 j = nI p)) (hy : v < 16 → t 26 0 v = 6 ∧ t 32 0 v = nI p) {Φ : KS → Prop} (g : w_M_await_35 (nI p) Φ (nI v) t) : w_M_await (nI p) t Φ := by
  have key : ∃ n, w_M_await_2 (nI p) Φ n (nI 0) t := by
    refine pk_loop (fun n i (_ : Unit) => w_M_await_2 (nI p) Φ n (nI i) t) (fun _ _ => True) v 0 () (by omega) trivial ?_ ?_
    · intro n _ _
      unfold w_M_await_2
      by_cases c : v < 16
      · rw [cl (n := v) (by omega)]
        exact ⟨fun _ => g, fun _ => ⟨vin c (by omega), fun k => absurd (hy c).1 k, fun _ => ⟨vin c (by omega), fun _ => g, fun k => absurd (hy c).2 k⟩⟩⟩
      · exact ⟨fun _ => g, fun k => absurd (nI_le (a := 16) (by omega) (by omega)) k⟩
    · intro n i _ hi _ hnext
      unfold w_M_await_2
      rw [cl (n := i) (by omega)]
      refine ⟨fun k => absurd k (nI_ge (b := 16) (by omega) (by omega)), fun _ => ⟨vin (by omega) (by omega), fun _ z ez => by rw [ez, nI_1]; exact hnext () trivial, fun k6 => ⟨vin (by omega) (by omega), fun k => absurd ⟨k6, k⟩ (hno i hi), fun _ z ez => by rw [ez, nI_1]; exact hnext () trivial⟩⟩⟩
  obtain ⟨n, h2⟩ := key
  exact ⟨n, h2⟩
/-- WAIT -/
theorem c36 (h : Pre cp T p s t q row) (kv : KV s p L pl m) (mv : MV t p L pl m) (hl : L.length < 31) : ∃ s' t', EK (w_K_takeEndedChild cp p s) s' ∧ EK (w_M_call (nI p) (nI 36) x y t) t' ∧ Out cp T p s t s' t' := by
  have hD := h
  have h1 := h.st1
  obtain ⟨hY, hH, hF, hZ, hp, hq, hb, hn0⟩ := h
  have hM : ∀ t', EK (w_M_await (nI p) t) t' → EK (w_M_call (nI p) (nI 36) x y t) t' := fun t' e Φ hΦ => by
    have hc := e Φ hΦ
    exact ⟨fun g => absurd g (by decide), fun g => absurd g (by decide), fun g => absurd g (by decide), fun g => absurd g (by decide), fun g => absurd g (by decide), fun g => absurd g (by decide), fun _ => hc, fun g => absurd g (by decide), fun g => absurd g (by decide), fun g => absurd g (by decide), fun g => absurd g (by decide), fun g => absurd g (by decide)⟩
  have conv : ∀ c, c < 16 → (t 26 0 c = 6 ∧ t 32 0 c = nI p) → (isC s p c ∧ s 1 c 7 = 6) := fun c hc ⟨g6, gp⟩ => by
    rw [hY.1.2.1 c hc] at g6
    have h0 : ¬ s 1 c 7 = 0 := by rw [g6]; decide
    obtain ⟨mm, b0, b1, b2, b3, b4, b5, b6⟩ := hY.1.2.2.2.2.2 c hc h0
    exact ⟨⟨h0, by rw [← b4]; exact gp⟩, g6⟩
  obtain ⟨o, o1, o2⟩ := ek_endedChild (cp := cp) (hY.1.1 p hp)
  rcases o2 with ⟨eo, hno⟩ | ⟨c, hc, eo, hC, h6, hno⟩
  · subst eo
    obtain ⟨s', t1, t', e1, e2, e3, o⟩ := out_push2 (x := 0) (y := -1) hD kv mv hl
    refine ⟨s', t', fun Φ hΦ => ?_, hM t' (fun Φ hΦ => em_aw (v := 16) (by omega) (fun j hj k => hno j (by omega) (conv j (by omega) k)) (fun k => by omega) ?_), o⟩
    · unfold w_K_takeEndedChild
      exact o1 _ ⟨fun _ => e1 _ hΦ, fun z k => by cases k⟩
    · unfold w_M_await_35
      exact ⟨fun k => absurd rfl k, fun _ => e2 _ (e3 _ hΦ)⟩
  · subst eo
    have cp9 : c ≠ p := fun e => by rw [e, h1] at h6; exact absurd h6 (by decide)
    obtain ⟨mm, b0, b1, b2, b3, b4, b5, b6⟩ := hY.1.2.2.2.2.2 c hc hC.1
    have e33 : t 33 0 c = s 1 c 8 := hY.1.2.2.2.1 c hc h6
    have kv1 : KV (w3 s 1 c 7 0) p L pl m := ⟨by simpa [w3_eq] using kv.1, kv.2.1, by simpa [w3_eq] using kv.2.2.1, kv.2.2.2⟩
    obtain ⟨s2, e2, v2, f2⟩ := ek_push (cp := cp) (x := s 1 c 8) kv1 (by omega)
    obtain ⟨s3, e3, v3, f3⟩ := ek_push (cp := cp) (x := nI c) v2 (by rw [List.length_append]; simp; omega)
    obtain ⟨t2, g2, w2, k2⟩ := em_push (x := s 1 c 8) hp mv (by omega)
    obtain ⟨t3, g3, w3', k3⟩ := em_push (x := nI c) hp w2 (by rw [List.length_append]; simp; omega)
    have mf := k2.trans k3
    have mf2 : MF p (w3 t 26 0 c 0) (w3 t3 26 0 c 0) := by
      refine ⟨fun a a1 a2 a3 a4 => ?_, mf.2.1, mf.2.2.1, mf.2.2.2⟩
      funext b
      rw [w3_e2, w3_e2, mf.1 a a1 a2 a3 a4, mf.1 26 (by decide) (by decide) (by decide) (by decide)]
    refine ⟨s3, w3 t3 26 0 c 0, fun Φ hΦ => ?_, hM _ (fun Φ hΦ => em_aw (v := c) (by omega) (fun j hj k => hno j hj (conv j (by omega) k)) (fun _ => ⟨by rw [hY.1.2.1 c hc]; exact h6, by rw [b4]; exact hC.2⟩) ?_), out_fin (s := s) (t := t) (ab_Y hY hc h6) hH hF (ab_Z hZ hc h6) hp hq (by rw [w3_eq, if_neg (fun g => cp9 g.2.1.symm)]; exact h1) (f2.trans f3) mf2 v3 w3' (by rw [List.length_append, List.length_append]; simp; omega) ⟨rfl, rfl, rfl, rfl, rfl⟩⟩
    · unfold w_K_takeEndedChild
      refine o1 _ ⟨fun k => (by cases k), fun z k => ?_⟩
      cases k
      intro s5 e5
      have q8 : s5 1 c 8 = s 1 c 8 := by rw [e5]; simp [w3_eq]
      have q0 : s5 1 c 0 = nI c := by rw [e5]; simp [w3_eq]; exact hY.1.1 c hc
      rw [q8, q0, e5]
      exact e2 _ (e3 _ hΦ)
    · unfold w_M_await_35
      rw [cl (n := c) (by omega), e33]
      refine ⟨fun _ => ⟨vin hc (by omega), g2 _ (g3 _ ⟨vin hc (by omega), fun z ez => ?_⟩)⟩, fun k => absurd (nI_inj (b := 16) (by omega) (by omega) k) (by omega)⟩
      rw [ez]
      exact hΦ
end WC

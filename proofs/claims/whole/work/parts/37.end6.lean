theorem end_tail {cp T p : Nat} {x : Int32} {s t : KS} {q : List Nat} {row : Nat → List Nat} (h : XY s t q row) (hH : XH cp T s t) (hF : XF s t) (hp : p < 16) (h6 : s 1 p 7 = 6)
    (A1 : ∀ i, i < 16 → (s 1 i 7 = 0 ∨ s 1 i 7 = 6) → ∀ d, d < 8 → s 4 i d = 0) (A2 : ∀ i, i < 16 → ¬ s 1 i 7 = 0 → s 1 i 6 = -1 ∨ ∃ j, j < 16 ∧ s 1 i 6 = nI j ∧ ((¬ s 1 j 7 = 0 ∧ ¬ s 1 j 7 = 6) ∨ j = p)) (A3 : ∀ i, i < 16 → s 1 i 7 = 4 → ∀ c, c < 16 → c ≠ p → ¬ (s 1 c 7 = 6 ∧ s 1 c 6 = nI i)) (A4 : ∀ i, i < 16 → s 1 i 7 = 5 → nI T < s 1 i 9) :
    ∃ s' t' L, (∀ Φ : KS → Prop, Φ s' → w_K_handOverChildren cp p s (kEnd2 cp p x Φ)) ∧ (∀ Φ : KS → Prop, Φ t' → mEnd2 (nI p) x Φ t) ∧ XY s' t' (q ++ L) row ∧ XH cp T s' t' ∧ XF s' t' ∧ Z s' T ∧ (s' 1 p 7 = 0 ∨ s' 1 p 7 = 6) ∧ (∀ k, k ≠ 5 → s' 0 0 k = s 0 0 k) ∧ (∀ k, k ≠ 16 → t' 20 0 k = t 20 0 k) ∧ s' 2 = s 2 := by
  have hP := h.1
  obtain ⟨s3, hk, ek⟩ := ek_hand (cp := cp) hp (hP.1 p hp)
  have hparM : ∀ c, c < 16 → ¬ s 1 c 7 = 0 → t 32 0 c = s 1 c 6 := fun c hc h0 => by
    obtain ⟨m, b0, b1, b2, b3, b4, b5, b6⟩ := hP.2.2.2.2.2 c hc h0
    exact b4
  obtain ⟨n, t3, v, hm, hv, em⟩ := em_ho (s := s) (t := t) (ad := adB s p) (x := x) hp hP.2.1 hparM
  have hY3 := ho_Y h hk hm
  have hH3 : XH cp T s3 t3 := H_cg hk.1 hm.1 hH
  have hF3 : XF s3 t3 := F_cg hk.1 hm.1 hF
  have had : adB s p = true → p ≠ 0 ∧ ¬ s 1 0 7 = 0 ∧ ¬ s 1 0 7 = 6 := fun g => by simpa [adB] using g
  have hadF : adB s p = false → ¬ (p ≠ 0 ∧ ¬ s 1 0 7 = 0 ∧ ¬ s 1 0 7 = 6) := fun g => by unfold adB at g; exact of_decide_eq_false g
  obtain ⟨k1, k2, k3, k4⟩ := hk
  obtain ⟨m1, m3, m4⟩ := hm
  generalize hadg : adB s p = ad at *
  have st3 : ∀ i, i < 16 → (s3 1 i 7 = s 1 i 7 ∨ (s3 1 i 7 = 0 ∧ s 1 i 7 = 6 ∧ isC s p i ∧ ad = false)) := by
    intro i hi
    by_cases c : isC s p i
    · have := (k4 i hi c).2
      by_cases b : ad = false ∧ s 1 i 7 = 6
      · rw [if_pos b] at this; exact Or.inr ⟨this, b.2, c, b.1⟩
      · rw [if_neg b] at this; exact Or.inl this
    · exact Or.inl (k3 i (fun g => c g.2)).2
  have alive : ∀ i, i < 16 → ¬ s 1 i 7 = 6 → s3 1 i 7 = s 1 i 7 := fun i hi h => by
    rcases st3 i hi with g | ⟨-, g, -⟩
    · exact g
    · exact absurd g h
  have P1 : ∀ i, i < 16 → ¬ s3 1 i 7 = 0 → s3 1 i 6 = -1 ∨ ∃ j, j < 16 ∧ s3 1 i 6 = nI j ∧ ¬ s3 1 j 7 = 0 ∧ ¬ s3 1 j 7 = 6 ∧ j ≠ p := by
    intro i hi h0
    by_cases c : isC s p i
    · have e := (k4 i hi c).1
      cases ad with
      | false => left; rw [e]; rfl
      | true =>
        obtain ⟨a1, a2, a3⟩ := had rfl
        right
        refine ⟨0, by omega, by rw [e]; rfl, ?_, ?_, fun e => a1 e.symm⟩
        · rw [alive 0 (by omega) a3]; exact a2
        · rw [alive 0 (by omega) a3]; exact a3
    · have e := k3 i (fun g => c g.2)
      rw [e.2] at h0
      rw [e.1]
      rcases A2 i hi h0 with g | ⟨j, hj, ej, g | g⟩
      · exact Or.inl g
      · right
        refine ⟨j, hj, ej, ?_, ?_, fun e => ?_⟩
        · rw [alive j hj g.2]; exact g.1
        · rw [alive j hj g.2]; exact g.2
        · rw [e] at g; exact g.2 h6
      · rw [g] at ej; exact absurd ⟨h0, ej⟩ c
  have P3 : ∀ i, i < 16 → s3 1 i 7 = 4 → ∀ c, c < 16 → c ≠ p → s3 1 c 7 = 6 → s3 1 c 6 = nI i → i = 0 ∧ gotP s p ad 16 := by
    intro i hi h4 c hc hcp c6 cpar
    have s6 : s 1 c 7 = 6 := by
      rcases st3 c hc with g | ⟨g, -⟩
      · rw [← g]; exact c6
      · rw [g] at c6; exact absurd c6 (by decide)
    by_cases ch : isC s p c
    · have e := k4 c hc ch
      cases ad with
      | false =>
        rw [e.1] at cpar
        exact absurd cpar.symm (nI_m1 (by omega))
      | true =>
        rw [e.1] at cpar
        have : i = 0 := (nI_inj (a := 0) (by omega) (by omega) cpar).symm
        exact ⟨this, c, hc, ch, rfl, s6⟩
    · have e := k3 c (fun g => ch g.2)
      rw [e.1] at cpar
      have s4 : s 1 i 7 = 4 := by
        rcases st3 i hi with g | ⟨g, -⟩
        · rw [← g]; exact h4
        · rw [g] at h4; exact absurd h4 (by decide)
      exact absurd ⟨s6, cpar⟩ (A3 i hi s4 c hc hcp)
  have got3 : gotP s p ad 16 → ∃ c, c < 16 ∧ s3 1 c 7 = 6 ∧ s3 1 c 6 = nI 0 := by
    rintro ⟨c, hc, c1, c2, c3⟩
    have e := k4 c hc c1
    subst c2
    refine ⟨c, hc, ?_, by rw [e.1]; rfl⟩
    rw [e.2, if_neg (fun g => by cases g.1)]
    exact c3
  have hp6 : s3 1 p 7 = 6 ∨ (s3 1 p 7 = 0 ∧ s3 1 p 6 = -1) := by
    rcases st3 p hp with g | ⟨g, -, c, b⟩
    · left; rw [g]; exact h6
    · right
      refine ⟨g, ?_⟩
      rw [(k4 p hp c).1, b]; rfl
  have hm1 : t3 32 0 p = s3 1 p 6 := by
    by_cases c : isC s p p
    · rw [(k4 p hp c).1, (m4 p hp c).1]
    · rw [(k3 p (fun g => c g.2)).1, (m3 p (fun g => c g.2)).1]
      exact hparM p hp (by rw [h6]; decide)
  obtain ⟨s4, t4, L4, e1, e2, hY4, hH4, hF4, f1, f2, f3, f4, f5, f6, f7⟩ := end_par (cp := cp) (T := T) (x := x) hY3 hH3 hF3 hp hp6 hm1 (P1 p hp)
  have heq : s4 1 0 7 = 4 → ((∃ c, c < 16 ∧ isC s4 0 c ∧ s4 1 c 7 = 6) ↔ gotP s p ad 16) := by
    intro z4
    have p0 : p ≠ 0 := fun e => by
      rw [e] at f2
      rcases f2 with ⟨g, -⟩ | ⟨g, -⟩ <;> rw [g] at z4 <;> exact absurd z4 (by decide)
    have z3 : s3 1 0 7 = 4 := by
      rcases f1 0 (by omega) (fun e => p0 e.symm) with g | ⟨g, -⟩
      · rw [← g]; exact z4
      · rw [g] at z4; exact absurd z4 (by decide)
    have notp : s4 1 p 7 = 6 → ¬ s3 1 p 6 = nI 0 := by
      intro g6 g
      rcases f2 with ⟨f, -⟩ | ⟨-, j, hj, ej, j4⟩
      · rw [f] at g6; exact absurd g6 (by decide)
      · rw [g] at ej
        have : 0 = j := nI_inj (by omega) (by omega) ej
        rw [← this] at j4
        exact j4 z4
    constructor
    · rintro ⟨c, hc, c1, c2⟩
      have cpar : s3 1 c 6 = nI 0 := by rw [← f3 c 6 (by decide) (by decide)]; exact c1.2
      by_cases e : c = p
      · subst e; exact absurd cpar (notp c2)
      · have c6 : s3 1 c 7 = 6 := by
          rcases f1 c hc e with g | ⟨g, -⟩
          · rw [← g]; exact c2
          · rw [g] at c2; exact absurd c2 (by decide)
        exact (P3 0 (by omega) z3 c hc e c6 cpar).2
    · intro g
      obtain ⟨c, hc, c6, cpar⟩ := got3 g
      have e : c ≠ p := by
        intro e
        subst e
        rcases f2 with ⟨-, g⟩ | ⟨f, -⟩
        · rw [g] at cpar; exact nI_m1 (n := 0) (by omega) cpar.symm
        · exact notp f cpar
      refine ⟨c, hc, ⟨?_, ?_⟩, ?_⟩
      · rcases f1 c hc e with g | ⟨-, g⟩
        · rw [g, c6]; decide
        · rw [c6] at g; exact absurd g (by decide)
      · rw [f3 c 6 (by decide) (by decide)]; exact cpar
      · rcases f1 c hc e with g | ⟨-, g⟩
        · rw [g, c6]
        · rw [c6] at g; exact absurd g (by decide)
  obtain ⟨s5, t5, L5, d1, d2, hY5, hH5, hF5, g1, g2, g3, g4, g5, g6, g7⟩ := end_95 (cp := cp) (T := T) (p := p) (x := x) hY4 hH4 hF4 hv heq
  have hp5 : s5 1 p 7 = s4 1 p 7 := by
    rcases g1 p hp with g | ⟨-, -, g⟩
    · exact g
    · rcases f2 with ⟨f, -⟩ | ⟨f, -⟩ <;> rw [f] at g <;> exact absurd g (by decide)
  have par5 : ∀ i, s5 1 i 6 = s3 1 i 6 := fun i => by rw [g3 i 6 (by decide) (by decide), f3 i 6 (by decide) (by decide)]
  have st5 : ∀ i, i < 16 → i ≠ p → s5 1 i 7 = s3 1 i 7 ∨ (s5 1 i 7 = 1 ∧ s3 1 i 7 = 4) := by
    intro i hi e
    rcases g1 i hi with g | ⟨-, g, g'⟩
    · rw [g]; exact f1 i hi e
    · rcases f1 i hi e with f | ⟨f, -⟩
      · exact Or.inr ⟨g, by rw [← f]; exact g'⟩
      · rw [f] at g'; exact absurd g' (by decide)
  have alive5 : ∀ j, j < 16 → j ≠ p → ¬ s3 1 j 7 = 0 → ¬ s3 1 j 7 = 6 → ¬ s5 1 j 7 = 0 ∧ ¬ s5 1 j 7 = 6 := by
    intro j hj jp j0 j6
    rcases st5 j hj jp with g | ⟨g, -⟩
    · rw [g]; exact ⟨j0, j6⟩
    · rw [g]; exact ⟨by decide, by decide⟩
  have e5 : s5 4 = s 4 := by rw [g4, f4, k1 4 (by decide)]
  have hst5p : s5 1 p 7 = 0 ∨ s5 1 p 7 = 6 := by
    rw [hp5]
    rcases f2 with ⟨f, -⟩ | ⟨f, -⟩
    · exact Or.inl f
    · exact Or.inr f
  refine ⟨s5, t5, L4 ++ L5, fun Φ hΦ => ek _ (e1 _ (d1 _ hΦ)), fun Φ hΦ => ?_, by rw [← List.append_assoc]; exact hY5, hH5, hF5, ⟨?_, ?_, ?_, ?_⟩, hst5p, fun k hk => ?_, fun k hk => ?_, ?_⟩
  · have hT : mTail (nI p) x Φ v t3 := e2 Φ v (d2 Φ hΦ)
    have h3 := em Φ hT
    have hz : ((0 : Int32).toNatClampNeg) = 0 := by decide
    have v0 : vp_in (0 : Int32) 16 := vin (n := 0) (by omega) (by omega)
    have h26 : t 26 0 0 = s 1 0 7 := hP.2.1 0 (by omega)
    have fin : ∀ w : Int32, w = adI ad → ∃ nn : Nat, w_M_end_103 (nI p) x Φ nn w (0 : Int32) (0 : Int32) t := fun w e => ⟨n, by rw [e]; exact h3⟩
    unfold mEnd2
    rw [hz, h26]
    refine ⟨fun g => fin _ ?_, fun g => ⟨v0, fun g0 => fin _ ?_, fun g0 => ⟨v0, fun g6 => fin _ ?_, fun g6 => fin _ ?_⟩⟩⟩
    · have : p = 0 := nI_inj (b := 0) (by omega) (by omega) g
      rw [← hadg]; simp [adI, adB, this]
    · rw [← hadg]; simp [adI, adB, g0]
    · rw [← hadg]; simp [adI, adB, g6]
    · have hne : p ≠ 0 := fun e => g (by rw [e]; rfl)
      rw [← hadg]; simp [adI, adB, hne, g0, g6]
  · intro i hi hz d hd
    rw [e5]
    refine A1 i hi ?_ d hd
    by_cases e : i = p
    · rw [e]; exact Or.inr h6
    · rcases st5 i hi e with g | ⟨g, -⟩
      · rw [g] at hz
        rcases st3 i hi with c | ⟨-, c, -⟩
        · rw [c] at hz; exact hz
        · exact Or.inr c
      · rw [g] at hz; rcases hz with hz | hz <;> exact absurd hz (by decide)
  · intro i hi h0
    rw [par5 i]
    by_cases e : i = p
    · subst e
      rcases f2 with ⟨f, -⟩ | ⟨f, j0, hj0, ej0, -⟩
      · rw [hp5, f] at h0; exact absurd rfl h0
      · have h30 : ¬ s3 1 i 7 = 0 := by
          intro g0
          rcases hp6 with g | ⟨-, gm⟩
          · rw [g0] at g; exact absurd g (by decide)
          · rw [gm] at ej0; exact nI_m1 (by omega) ej0.symm
        rcases P1 i hi h30 with g | ⟨j, hj, ej, j0, j6, jp⟩
        · exact Or.inl g
        · exact Or.inr ⟨j, hj, ej, alive5 j hj jp j0 j6⟩
    · have h30 : ¬ s3 1 i 7 = 0 := by
        rcases st5 i hi e with g | ⟨-, g⟩
        · rw [g] at h0; exact h0
        · rw [g]; decide
      rcases P1 i hi h30 with g | ⟨j, hj, ej, j0, j6, jp⟩
      · exact Or.inl g
      · exact Or.inr ⟨j, hj, ej, alive5 j hj jp j0 j6⟩
  · intro i hi h4 c hc ⟨c6, cpar⟩
    have ip : i ≠ p := fun e => by
      rw [e] at h4
      rcases hst5p with g | g <;> rw [g] at h4 <;> exact absurd h4 (by decide)
    have h34 : s3 1 i 7 = 4 := by
      rcases st5 i hi ip with g | ⟨g, -⟩
      · rw [← g]; exact h4
      · rw [g] at h4; exact absurd h4 (by decide)
    have h44 : s4 1 i 7 = 4 := by
      rcases g1 i hi with g | ⟨-, g, -⟩
      · rw [← g]; exact h4
      · rw [g] at h4; exact absurd h4 (by decide)
    rw [par5 c] at cpar
    by_cases e : c = p
    · subst e
      rcases f2 with ⟨f, -⟩ | ⟨f, j, hj, ej, j4⟩
      · rw [hp5, f] at c6; exact absurd c6 (by decide)
      · rw [cpar] at ej
        have : i = j := nI_inj (by omega) (by omega) ej
        rw [← this] at j4
        exact j4 h44
    · have c36 : s3 1 c 7 = 6 := by
        rcases st5 c hc e with g | ⟨g, -⟩
        · rw [← g]; exact c6
        · rw [g] at c6; exact absurd c6 (by decide)
      obtain ⟨i0, hg⟩ := P3 i hi h34 c hc e c36 cpar
      rw [i0] at h4
      exact g2 h4 hg
  · intro i hi h5
    have ip : i ≠ p := fun e => by
      rw [e] at h5
      rcases hst5p with g | g <;> rw [g] at h5 <;> exact absurd h5 (by decide)
    rw [g3 i 9 (by decide) (by decide), f3 i 9 (by decide) (by decide), k2 i 9 (by decide) (by decide)]
    refine A4 i hi ?_
    rcases st5 i hi ip with g | ⟨g, -⟩
    · rw [g] at h5
      rcases st3 i hi with c | ⟨c, -⟩
      · rw [← c]; exact h5
      · rw [c] at h5; exact absurd h5 (by decide)
    · rw [g] at h5; exact absurd h5 (by decide)
  · rw [g5 k hk, f5 k hk, k1 0 (by decide)]
  · rw [g6 k hk, f6 k hk, m1 20 (by decide) (by decide)]
  · rw [g7, f7, k1 2 (by decide)]

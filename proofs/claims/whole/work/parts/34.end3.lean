def adI (ad : Bool) : Int32 := if ad then 1 else 0
theorem ek_ho {cp p : Nat} {s : KS} {ad : Bool} (hn : s 1 p 0 = nI p) : ∃ n sf, kHo s p ad 16 sf ∧ ∀ Φ : KS → Prop, Φ sf → w_K_handOverChildren_41 cp p Φ n (adI ad) (nI 0) s := by
  refine pk_loop (fun n i (s' : KS) => ∃ sf, kHo s p ad 16 sf ∧ ∀ Φ : KS → Prop, Φ sf → w_K_handOverChildren_41 cp p Φ n (adI ad) (nI i) s') (fun i s' => kHo s p ad i s') 16 0 s (by omega) ?_ ?_ ?_
  · exact ⟨fun _ _ => rfl, fun _ _ _ _ => rfl, fun _ _ => ⟨rfl, rfl⟩, fun c hc => by omega⟩
  · intro n s' h
    refine ⟨s', h, fun Φ hΦ => ?_⟩
    unfold w_K_handOverChildren_41
    exact ⟨fun _ => hΦ, fun h => absurd (by decide) h⟩
  · intro n i s' hi h hnext
    have h67 := h.2.2.1 i (by omega)
    have hp0 : s' 1 p 0 = nI p := by rw [h.2.1 p 0 (by decide) (by decide)]; exact hn
    have ci : (nI i).toNatClampNeg = i := cl (by omega)
    by_cases hc : isC s p i
    · obtain ⟨sf, f1, f2⟩ := hnext _ (kHo_take h hc _ rfl)
      refine ⟨sf, f1, fun Φ hΦ => ?_⟩
      unfold w_K_handOverChildren_41
      rw [ci]
      refine ⟨fun h => absurd h (nI_ge (b := 16) hi (by omega)), fun _ => ⟨vin hi (by omega), ?_⟩⟩
      unfold w_P_isChildOf
      rw [h67.2, h67.1, hp0]
      refine ⟨fun g => absurd g hc.1, fun _ => ⟨fun g => absurd hc.2 g, fun _ => ⟨fun g => absurd g (by decide), fun _ => ?_⟩⟩⟩
      have e7 : ∀ v : Int32, w3 s' 1 i 6 v 1 i 7 = s 1 i 7 := fun v => by rw [w3_eq, if_neg (by omega)]; exact h67.2
      cases ad with
      | false =>
        refine ⟨fun _ => ?_, fun g => absurd rfl g⟩
        unfold w_K_handOverChildren_75
        intro s1 e1
        refine ⟨fun g => absurd rfl g, fun _ => ⟨fun g y ey => ?_, fun g s4 e4 y ey => ?_⟩⟩
        · rw [e1, e7] at g
          rw [ey, nI_1, e1]
          rw [if_neg (fun k => g k.2)] at f2
          exact f2 Φ hΦ
        · rw [e1, e7] at g
          rw [ey, nI_1, e4, e1]
          rw [if_pos ⟨rfl, g⟩] at f2
          exact f2 Φ hΦ
      | true =>
        refine ⟨fun g => absurd g (by decide), fun _ => ?_⟩
        unfold w_K_handOverChildren_75
        intro s1 e1
        refine ⟨fun _ y ey => ?_, fun g => absurd g (by decide)⟩
        rw [ey, nI_1, e1]
        rw [if_neg (fun k => by cases k.1)] at f2
        exact f2 Φ hΦ
    · obtain ⟨sf, f1, f2⟩ := hnext _ (kHo_skip h hc)
      refine ⟨sf, f1, fun Φ hΦ => ?_⟩
      unfold w_K_handOverChildren_41
      rw [ci]
      refine ⟨fun h => absurd h (nI_ge (b := 16) hi (by omega)), fun _ => ⟨vin hi (by omega), ?_⟩⟩
      unfold w_P_isChildOf
      rw [h67.2, h67.1, hp0]
      refine ⟨fun _ => ⟨fun _ y ey => ?_, fun g => absurd rfl g⟩, fun g0 => ⟨fun _ => ⟨fun _ y ey => ?_, fun g => absurd rfl g⟩, fun g => absurd ⟨g0, g⟩ hc⟩⟩
      · rw [ey, nI_1]; exact f2 Φ hΦ
      · rw [ey, nI_1]; exact f2 Φ hΦ
def adB (s : KS) (p : Nat) : Bool := decide (p ≠ 0 ∧ ¬ s 1 0 7 = 0 ∧ ¬ s 1 0 7 = 6)
theorem ek_hand {cp p : Nat} {s : KS} (hp : p < 16) (hn : s 1 p 0 = nI p) : ∃ sf, kHo s p (adB s p) 16 sf ∧ EK (w_K_handOverChildren cp p s) sf := by
  obtain ⟨n, sf, h1, h2⟩ := ek_ho (cp := cp) (ad := adB s p) hn
  refine ⟨sf, h1, fun Φ hΦ => ?_⟩
  have hz : ((0 : Int32).toNatClampNeg) = 0 := by decide
  unfold w_K_handOverChildren
  rw [hn, hz]
  have fin : ∀ v : Int32, v = adI (adB s p) → ∃ nn : Nat, w_K_handOverChildren_41 cp p Φ nn v (0 : Int32) s := fun v e => ⟨n, by rw [e]; exact h2 Φ hΦ⟩
  refine ⟨fun g => fin _ ?_, fun g => ⟨vin (n := 0) (by omega) (by omega), fun g0 => fin _ ?_, fun g0 => ⟨vin (n := 0) (by omega) (by omega), fun g6 => fin _ ?_, fun g6 => fin _ ?_⟩⟩⟩
  · have : p = 0 := nI_inj (b := 0) (by omega) (by omega) g
    simp [adI, adB, this]
  · simp [adI, adB, g0]
  · simp [adI, adB, g6]
  · have hne : p ≠ 0 := fun e => g (by rw [e]; rfl)
    simp [adI, adB, hne, g0, g6]
def gotP (s : KS) (p : Nat) (ad : Bool) (i : Nat) : Prop := ∃ c, c < i ∧ isC s p c ∧ ad = true ∧ s 1 c 7 = 6
def mTail (x1 x2 : Int32) (Φ : KS → Prop) (v4 : Int32) (s0 : KS) : Prop := vp_in x1 16 ∧ ∀ y1 : Int32, y1 = s0 32 0 x1.toNatClampNeg → ((¬ y1 = (-1 : Int32) → vp_in y1 16 ∧ ((¬ (s0 26 0 y1.toNatClampNeg) = (4 : Int32) → w_M_end_256 x1 x2 Φ v4 s0) ∧ ((s0 26 0 y1.toNatClampNeg) = (4 : Int32) → w_M_ready y1 s0 (fun s2 => w_M_end_256 x1 x2 Φ v4 s2)))) ∧ (y1 = (-1 : Int32) → vp_in x1 16 ∧ ∀ s3 : KS, s3 = w3 s0 26 0 x1.toNatClampNeg (0 : Int32) → w_M_end_256 x1 x2 Φ v4 s3))
theorem em_ho {p : Nat} {s t : KS} {ad : Bool} {x : Int32} (hp : p < 16) (hst : ∀ c, c < 16 → t 26 0 c = s 1 c 7) (hpar : ∀ c, c < 16 → ¬ s 1 c 7 = 0 → t 32 0 c = s 1 c 6) : ∃ n tf v, mHo s t p ad 16 tf ∧ ((v = 0 ∧ ¬ gotP s p ad 16) ∨ (v = 1 ∧ gotP s p ad 16)) ∧ ∀ Φ : KS → Prop, mTail (nI p) x Φ v tf → w_M_end_103 (nI p) x Φ n (adI ad) (nI 0) (nI 0) t := by
  refine lo2 (fun n i (v4 : Int32) (t' : KS) => ∃ tf v, mHo s t p ad 16 tf ∧ ((v = 0 ∧ ¬ gotP s p ad 16) ∨ (v = 1 ∧ gotP s p ad 16)) ∧ ∀ Φ : KS → Prop, mTail (nI p) x Φ v tf → w_M_end_103 (nI p) x Φ n (adI ad) v4 (nI i) t')
    (fun i v4 t' => mHo s t p ad i t' ∧ ((v4 = 0 ∧ ¬ gotP s p ad i) ∨ (v4 = 1 ∧ gotP s p ad i))) 16 0 (nI 0) t (by omega) ?_ ?_ ?_
  · exact ⟨⟨fun _ _ _ => rfl, fun _ _ => ⟨rfl, rfl⟩, fun c hc => by omega⟩, Or.inl ⟨rfl, fun ⟨c, hc, _⟩ => by omega⟩⟩
  · intro n v4 t' ⟨h, hv⟩
    refine ⟨t', v4, h, hv, fun Φ hΦ => ?_⟩
    unfold w_M_end_103
    exact ⟨fun _ => hΦ, fun h => absurd (by decide) h⟩
  · intro n i v4 t' hi ⟨h, hv⟩ hnext
    have h67 := h.2.1 i (by omega)
    have h26 : t' 26 0 i = s 1 i 7 := by rw [h67.2]; exact hst i hi
    have ci : (nI i).toNatClampNeg = i := cl (by omega)
    have gs : ¬ isC s p i → (gotP s p ad (i + 1) ↔ gotP s p ad i) := fun hc => by
      constructor
      · rintro ⟨c, c1, c2, c3⟩
        refine ⟨c, ?_, c2, c3⟩
        apply Nat.lt_of_le_of_ne (by omega)
        intro e
        subst e
        exact hc c2
      · rintro ⟨c, c1, c2⟩
        exact ⟨c, by omega, c2⟩
    by_cases hc : isC s p i
    · have h32 : t' 32 0 i = nI p := by rw [h67.1, hpar i hi hc.1]; exact hc.2
      -- the new 'got'
      obtain ⟨v5, hv5, hstep⟩ : ∃ v5 : Int32, ((v5 = 0 ∧ ¬ gotP s p ad (i + 1)) ∨ (v5 = 1 ∧ gotP s p ad (i + 1))) ∧ ∀ (K : Int32 → Int32 → Int32 → KS → Prop) (Φ : KS → Prop), w_M_end_173 (nI p) x K Φ (adI ad) (nI i) v5 (w3 t' 32 0 i (hoV ad)) → w_M_end_146 (nI p) x K Φ (adI ad) v4 (nI i) (hoV ad) (nI i) t' := by
        have e26 : w3 t' 32 0 i (hoV ad) 26 0 i = s 1 i 7 := h26
        by_cases hg : gotP s p ad i
        · have hv1 : ¬ v4 = 0 := by
            rcases hv with ⟨-, g⟩ | ⟨g, -⟩
            · exact absurd hg g
            · rw [g]; decide
          refine ⟨1, Or.inr ⟨rfl, by obtain ⟨c, c1, c2⟩ := hg; exact ⟨c, by omega, c2⟩⟩, fun K Φ hK => ?_⟩
          unfold w_M_end_146
          rw [ci]
          refine ⟨vin hi (by omega), fun s1 e1 => ⟨fun _ => ?_, fun g => absurd g hv1⟩⟩
          rw [e1]
          exact hK
        · have hv0 : v4 = 0 := by
            rcases hv with ⟨g, -⟩ | ⟨-, g⟩
            · exact g
            · exact absurd g hg
          have gi : gotP s p ad (i + 1) ↔ (ad = true ∧ s 1 i 7 = 6) := by
            constructor
            · rintro ⟨c, c1, c2, c3⟩
              by_cases e : c = i
              · subst e; exact c3
              · exact absurd ⟨c, by omega, c2, c3⟩ hg
            · intro g
              exact ⟨i, by omega, hc, g⟩
          cases ad with
          | false =>
            refine ⟨0, Or.inl ⟨rfl, fun g => by cases (gi.mp g).1⟩, fun K Φ hK => ?_⟩
            unfold w_M_end_146
            rw [ci]
            refine ⟨vin hi (by omega), fun s1 e1 => ⟨fun g => absurd hv0 g, fun _ => ⟨fun _ => ?_, fun g => absurd rfl g⟩⟩⟩
            rw [e1]
            exact hK
          | true =>
            by_cases h6 : s 1 i 7 = 6
            · refine ⟨1, Or.inr ⟨rfl, gi.mpr ⟨rfl, h6⟩⟩, fun K Φ hK => ?_⟩
              unfold w_M_end_146
              rw [ci]
              refine ⟨vin hi (by omega), fun s1 e1 => ⟨fun g => absurd hv0 g, fun _ => ⟨fun g => absurd g (by decide), fun _ => ⟨vin hi (by omega), fun g => absurd (by rw [e1, e26]; exact h6) g, fun _ => ?_⟩⟩⟩⟩
              rw [e1]
              exact hK
            · refine ⟨0, Or.inl ⟨rfl, fun g => h6 (gi.mp g).2⟩, fun K Φ hK => ?_⟩
              unfold w_M_end_146
              rw [ci]
              refine ⟨vin hi (by omega), fun s1 e1 => ⟨fun g => absurd hv0 g, fun _ => ⟨fun g => absurd g (by decide), fun _ => ⟨vin hi (by omega), fun _ => ?_, fun g => absurd (by rw [e1, e26] at g; exact g) h6⟩⟩⟩⟩
              rw [e1]
              exact hK
      obtain ⟨tf, v, f1, f2, f3⟩ := hnext v5 _ ⟨mHo_take h hc _ rfl, hv5⟩
      refine ⟨tf, v, f1, f2, fun Φ hΦ => ?_⟩
      have h3 := f3 Φ hΦ
      have h173 : w_M_end_173 (nI p) x (w_M_end_103 (nI p) x Φ n) Φ (adI ad) (nI i) v5 (w3 t' 32 0 i (hoV ad)) := by
        have e26 : w3 t' 32 0 i (hoV ad) 26 0 i = s 1 i 7 := h26
        unfold w_M_end_173 w_M_end_201 w_M_end_208
        rw [ci, e26]
        cases ad with
        | false =>
          refine ⟨fun g => absurd rfl g, fun _ => ⟨vin hi (by omega), fun g => ⟨vin hi (by omega), vin hi (by omega), fun s1 e1 y ey => ?_⟩, fun g => ⟨vin hi (by omega), fun s1 e1 y ey => ?_⟩⟩⟩
          · rw [if_neg (fun k => g k.2), hst i hi] at h3
            rw [e1, ey, nI_1]; exact h3
          · rw [if_pos ⟨rfl, g⟩] at h3
            rw [e1, ey, nI_1]; exact h3
        | true =>
          refine ⟨fun _ => ⟨vin hi (by omega), vin hi (by omega), fun s1 e1 y ey => ?_⟩, fun g => absurd g (by decide)⟩
          rw [if_neg (fun k => by cases k.1), hst i hi] at h3
          rw [e1, ey, nI_1]; exact h3
      have h146 := hstep _ Φ h173
      unfold w_M_end_103
      rw [ci]
      refine ⟨fun h => absurd h (nI_ge (b := 16) hi (by omega)), fun _ => ⟨vin hi (by omega), fun g => absurd (by rw [h26] at g; exact g) hc.1, fun _ => ⟨vin hi (by omega), fun g => absurd h32 g, fun _ => ?_⟩⟩⟩
      cases ad with
      | false => exact ⟨fun _ => h146, fun g => absurd rfl g⟩
      | true => exact ⟨fun g => absurd g (by decide), fun _ => h146⟩
    · obtain ⟨tf, v, f1, f2, f3⟩ := hnext v4 _ ⟨mHo_skip h hc, by rw [gs hc]; exact hv⟩
      refine ⟨tf, v, f1, f2, fun Φ hΦ => ?_⟩
      unfold w_M_end_103
      rw [ci, h26]
      refine ⟨fun h => absurd h (nI_ge (b := 16) hi (by omega)), fun _ => ⟨vin hi (by omega), fun g y ey => ?_, fun g => ⟨vin hi (by omega), fun _ y ey => ?_, fun g2 => ?_⟩⟩⟩
      · rw [ey, nI_1]; exact f3 Φ hΦ
      · rw [ey, nI_1]; exact f3 Φ hΦ
      · rw [h67.1, hpar i hi g] at g2
        exact absurd ⟨g, g2⟩ hc

theorem ek_hasChild {cp p : Nat} {s : KS} (hn : s 1 p 0 = nI p) : ∃ r, EI (w_K_hasChild cp p s) r s ∧ ((r = 0 ∧ ∀ c, c < 16 → ¬ isC s p c) ∨ (r = 1 ∧ ∃ c, c < 16 ∧ isC s p c)) := by
  have key : ∃ n, ∃ r, ((r = 0 ∧ ∀ c, c < 16 → ¬ isC s p c) ∨ (r = 1 ∧ ∃ c, c < 16 ∧ isC s p c)) ∧ ∀ Φ : Int32 → KS → Prop, Φ r s → w_K_hasChild_2 cp p Φ n (nI 0) s := by
    refine pk_loop (fun n i (_ : Unit) => ∃ r, ((r = 0 ∧ ∀ c, c < 16 → ¬ isC s p c) ∨ (r = 1 ∧ ∃ c, c < 16 ∧ isC s p c)) ∧ ∀ Φ : Int32 → KS → Prop, Φ r s → w_K_hasChild_2 cp p Φ n (nI i) s) (fun i _ => ∀ j, j < i → ¬ isC s p j) 16 0 () (by omega) (fun j hj => by omega) ?_ ?_
    · intro n _ h
      refine ⟨0, Or.inl ⟨rfl, h⟩, fun Φ hΦ => ?_⟩
      unfold w_K_hasChild_2
      exact ⟨fun _ => hΦ, fun h => absurd (by decide) h⟩
    · intro n i _ hi h hnext
      have ci : (nI i).toNatClampNeg = i := cl (by omega)
      by_cases hc : isC s p i
      · refine ⟨1, Or.inr ⟨rfl, i, hi, hc⟩, fun Φ hΦ => ?_⟩
        unfold w_K_hasChild_2 w_P_isChildOf
        rw [ci, hn]
        exact ⟨fun h => absurd h (nI_ge (b := 16) hi (by omega)), fun _ => ⟨vin hi (by omega), fun g => absurd g hc.1, fun _ => ⟨fun g => absurd hc.2 g, fun _ => ⟨fun g => absurd g (by decide), fun _ => hΦ⟩⟩⟩⟩
      · obtain ⟨r, f1, f2⟩ := hnext () (fun j hj => by
          by_cases e : j = i
          · subst e; exact hc
          · exact h j (by omega))
        refine ⟨r, f1, fun Φ hΦ => ?_⟩
        unfold w_K_hasChild_2 w_P_isChildOf
        rw [ci, hn]
        refine ⟨fun h => absurd h (nI_ge (b := 16) hi (by omega)), fun _ => ⟨vin hi (by omega), fun g => ⟨fun _ y ey => ?_, fun g => absurd rfl g⟩, fun g0 => ⟨fun g => ⟨fun _ y ey => ?_, fun g => absurd rfl g⟩, fun g => absurd ⟨g0, g⟩ hc⟩⟩⟩
        · rw [ey, nI_1]; exact f2 Φ hΦ
        · rw [ey, nI_1]; exact f2 Φ hΦ
  obtain ⟨n, o, h1, h2⟩ := key
  exact ⟨o, fun Φ hΦ => ⟨n, h2 Φ hΦ⟩, h1⟩
def so (s : KS) (p i : Nat) (v : Int32) : Prop := (v = 0 ∧ ∀ c, c < i → ¬ isC s p c) ∨ (v = 1 ∧ ∃ c, c < i ∧ isC s p c)
def se (s : KS) (p i : Nat) (v : Int32) : Prop := (v = 0 ∧ ∀ c, c < i → ¬ (isC s p c ∧ s 1 c 7 = 6)) ∨ (v = 1 ∧ ∃ c, c < i ∧ isC s p c ∧ s 1 c 7 = 6)
theorem em_row36 {p : Nat} {s t : KS} {x2 : Int32} (hp : p < 16) (hst : ∀ c, c < 16 → t 26 0 c = s 1 c 7) (hpar : ∀ c, c < 16 → ¬ s 1 c 7 = 0 → t 32 0 c = s 1 c 6) : ∃ n r, ((r = nI 17 ∧ (∃ c, c < 16 ∧ isC s p c) ∧ ∀ c, c < 16 → ¬ (isC s p c ∧ s 1 c 7 = 6)) ∨ (r = -1 ∧ ¬ ((∃ c, c < 16 ∧ isC s p c) ∧ ∀ c, c < 16 → ¬ (isC s p c ∧ s 1 c 7 = 6)))) ∧ ∀ Φ : Int32 → KS → Prop, Φ r t → w_M_rowFor_14 (nI p) x2 Φ n (nI 0) (nI 0) (nI 0) t := by
  refine lo2 (fun n i (v3 v4 : Int32) => ∃ r, ((r = nI 17 ∧ (∃ c, c < 16 ∧ isC s p c) ∧ ∀ c, c < 16 → ¬ (isC s p c ∧ s 1 c 7 = 6)) ∨ (r = -1 ∧ ¬ ((∃ c, c < 16 ∧ isC s p c) ∧ ∀ c, c < 16 → ¬ (isC s p c ∧ s 1 c 7 = 6)))) ∧ ∀ Φ : Int32 → KS → Prop, Φ r t → w_M_rowFor_14 (nI p) x2 Φ n v3 v4 (nI i) t)
    (fun i v3 v4 => so s p i v3 ∧ se s p i v4) 16 0 (nI 0) (nI 0) (by omega) ⟨Or.inl ⟨rfl, fun c hc => by omega⟩, Or.inl ⟨rfl, fun c hc => by omega⟩⟩ ?_ ?_
  · rintro n v3 v4 ⟨h3, h4⟩
    rcases h3 with ⟨e3, g3⟩ | ⟨e3, g3⟩
    · refine ⟨-1, Or.inr ⟨rfl, fun ⟨⟨c, hc, k⟩, _⟩ => g3 c hc k⟩, fun Φ hΦ => ?_⟩
      unfold w_M_rowFor_14
      exact ⟨fun _ => ⟨fun _ => hΦ, fun g => absurd e3 g⟩, fun h => absurd (by decide) h⟩
    · have n3 : ¬ v3 = 0 := by rw [e3]; decide
      rcases h4 with ⟨e4, g4⟩ | ⟨e4, g4⟩
      · refine ⟨nI 17, Or.inl ⟨rfl, g3, g4⟩, fun Φ hΦ => ?_⟩
        unfold w_M_rowFor_14
        exact ⟨fun _ => ⟨fun g => absurd g n3, fun _ => ⟨fun g => absurd e4 g, fun _ => hΦ⟩⟩, fun h => absurd (by decide) h⟩
      · have n4 : ¬ v4 = 0 := by rw [e4]; decide
        refine ⟨-1, Or.inr ⟨rfl, fun ⟨_, k⟩ => by obtain ⟨c, hc, g⟩ := g4; exact k c hc g⟩, fun Φ hΦ => ?_⟩
        unfold w_M_rowFor_14
        exact ⟨fun _ => ⟨fun g => absurd g n3, fun _ => ⟨fun _ => hΦ, fun g => absurd g n4⟩⟩, fun h => absurd (by decide) h⟩
  · rintro n i v3 v4 hi ⟨h3, h4⟩ hnext
    have ci : (nI i).toNatClampNeg = i := cl (by omega)
    have h26 := hst i hi
    -- some
    obtain ⟨w3', k3, r3⟩ : ∃ w3' : Int32, so s p (i + 1) w3' ∧ ∀ (K : Int32 → Int32 → Int32 → KS → Prop) (Φ : Int32 → KS → Prop), w_M_rowFor_51 (nI p) x2 K Φ v4 (nI i) w3' t → ((¬ v3 = 0 → w_M_rowFor_46 (nI p) x2 K Φ v4 (nI i) t) ∧ (v3 = 0 → vp_in (nI i) 16 ∧ (((t 26 0 i) = 0 → w_M_rowFor_50 (nI p) x2 K Φ v4 (nI i) t) ∧ (¬ (t 26 0 i) = 0 → vp_in (nI i) 16 ∧ ((¬ (t 32 0 i) = nI p → w_M_rowFor_50 (nI p) x2 K Φ v4 (nI i) t) ∧ ((t 32 0 i) = nI p → w_M_rowFor_46 (nI p) x2 K Φ v4 (nI i) t)))))) := by
      rcases h3 with ⟨e3, g3⟩ | ⟨e3, g3⟩
      · by_cases hc : isC s p i
        · refine ⟨1, Or.inr ⟨rfl, i, by omega, hc⟩, fun K Φ g => ⟨fun k => absurd e3 k, fun _ => ⟨vin hi (by omega), fun k => absurd (by rw [← h26]; exact k) hc.1, fun _ => ⟨vin hi (by omega), fun k => absurd (by rw [hpar i hi hc.1]; exact hc.2) k, fun _ => g⟩⟩⟩⟩
        · refine ⟨0, Or.inl ⟨rfl, fun c h => ?_⟩, fun K Φ g => ⟨fun k => absurd e3 k, fun _ => ⟨vin hi (by omega), fun _ => g, fun k => ⟨vin hi (by omega), fun _ => g, fun k2 => ?_⟩⟩⟩⟩
          · by_cases e : c = i
            · subst e; exact hc
            · exact g3 c (by omega)
          · rw [h26] at k
            rw [hpar i hi k] at k2
            exact absurd ⟨k, k2⟩ hc
      · have n3 : ¬ v3 = 0 := by rw [e3]; decide
        obtain ⟨c, hc, g⟩ := g3
        exact ⟨1, Or.inr ⟨rfl, c, by omega, g⟩, fun K Φ g => ⟨fun _ => g, fun k => absurd k n3⟩⟩
    obtain ⟨w4', k4, r4⟩ : ∃ w4' : Int32, se s p (i + 1) w4' ∧ ∀ (K : Int32 → Int32 → Int32 → KS → Prop) (Φ : Int32 → KS → Prop), K w3' w4' (nI (i + 1)) t → w_M_rowFor_51 (nI p) x2 K Φ v4 (nI i) w3' t := by
      rcases h4 with ⟨e4, g4⟩ | ⟨e4, g4⟩
      · by_cases hc : isC s p i ∧ s 1 i 7 = 6
        · refine ⟨1, Or.inr ⟨rfl, i, by omega, hc⟩, fun K Φ g => ?_⟩
          unfold w_M_rowFor_51
          rw [ci, h26]
          exact ⟨fun k => absurd e4 k, fun _ => ⟨vin hi (by omega), fun k => absurd hc.2 k, fun _ => ⟨vin hi (by omega), fun k => absurd (by rw [hpar i hi hc.1.1]; exact hc.1.2) k, fun _ y ey => by rw [ey, nI_1]; exact g⟩⟩⟩
        · refine ⟨0, Or.inl ⟨rfl, fun c h => ?_⟩, fun K Φ g => ?_⟩
          · by_cases e : c = i
            · subst e; exact hc
            · exact g4 c (by omega)
          · unfold w_M_rowFor_51
            rw [ci, h26]
            refine ⟨fun k => absurd e4 k, fun _ => ⟨vin hi (by omega), fun _ y ey => by rw [ey, nI_1]; exact g, fun k6 => ⟨vin hi (by omega), fun _ y ey => by rw [ey, nI_1]; exact g, fun k => ?_⟩⟩⟩
            have k0 : ¬ s 1 i 7 = 0 := by rw [k6]; decide
            rw [hpar i hi k0] at k
            exact absurd ⟨⟨k0, k⟩, k6⟩ hc
      · have n4 : ¬ v4 = 0 := by rw [e4]; decide
        obtain ⟨c, hc, g⟩ := g4
        refine ⟨1, Or.inr ⟨rfl, c, by omega, g⟩, fun K Φ g => ?_⟩
        unfold w_M_rowFor_51
        exact ⟨fun _ y ey => by rw [ey, nI_1]; exact g, fun k => absurd k n4⟩
    obtain ⟨r, f1, f2⟩ := hnext w3' w4' ⟨k3, k4⟩
    refine ⟨r, f1, fun Φ hΦ => ?_⟩
    have := r3 _ Φ (r4 (w_M_rowFor_14 (nI p) x2 Φ n) Φ (f2 Φ hΦ))
    unfold w_M_rowFor_14
    rw [ci]
    exact ⟨fun h => absurd h (nI_ge (b := 16) hi (by omega)), fun _ => this⟩
/-- whether, and where, a process must wait -/
theorem last_inj {L1 L2 : List Int32} {a b : Int32} (h : L1 ++ [a] = L2 ++ [b]) : a = b := by
  have := congrArg List.getLast? h
  simpa using this
theorem wait_pair {cp T p k : Nat} {s t : KS} {q : List Nat} {row : Nat → List Nat} {L : List Int32} {pl : Int32} {m : Nat → Int32} (h : XY s t q row) (hH : XH cp T s t) (hp : p < 16) (h0 : ¬ s 1 p 7 = 0) (hl : L.length ≤ 32) (kv : KV s p L pl m) (mv : MV t p L pl m) {a : Nat} (ha : a < 128) (hpl : pl = nI a) (hk : m a &&& 255 = nI k) (hk9 : k < 256) (hL : k = 33 ∨ k = 34 → ∃ L0 y, L = L0 ++ [y]) :
    ∃ r, EI (w_M_rowFor (nI p) (nI k) t) r t ∧ ((r = -1 ∧ EI (w_K_mustWait cp p s) 0 s ∧ (k = 33 → ∀ L1 y1 n1, L = L1 ++ [y1] → dAt s p y1 = nI n1 → n1 < 28 → ¬ (20 ≤ n1 ∧ ¬ cnt (t 31 0) (nI (n1 - 10)) 128 = 0 ∧ t 42 0 (n1 - 20) = t 20 0 2))) ∨ (EI (w_K_mustWait cp p s) 1 s ∧ ((k = 36 ∧ r = nI 17 ∧ ∀ c, c < 16 → ¬ (isC s p c ∧ s 1 c 7 = 6)) ∨ ∃ R, R < 17 ∧ r = nI R ∧ ((k = 33 ∧ 8 ≤ R ∧ R < 16) ∨ (k = 34 ∧ (R < 8 ∨ R = 16))) ∧ (R = 16 → t 20 0 25 = 0) ∧ ∃ L0 y, L = L0 ++ [y] ∧ dAt s p y = nI (rc R)))) := by
  have hP := h.1
  have hparM : ∀ c, c < 16 → ¬ s 1 c 7 = 0 → t 32 0 c = s 1 c 6 := fun c hc h0 => by
    obtain ⟨m, b0, b1, b2, b3, b4, b5, b6⟩ := hP.2.2.2.2.2 c hc h0
    exact b4
  have hkind : EI (w_P_kind cp p s) (nI k) s := by
    intro Φ hΦ
    unfold w_P_kind
    rw [kv.2.2.1, hpl, cl (by omega), kv.2.2.2 a ha, hk]
    exact ⟨vin ha (by omega), hΦ⟩
  by_cases k36 : k = 36
  · subst k36
    obtain ⟨n, r, hr, hM⟩ := em_row36 (x2 := nI 36) hp hP.2.1 hparM
    have eM : EI (w_M_rowFor (nI p) (nI 36) t) r t := fun Φ hΦ => by
      unfold w_M_rowFor
      exact ⟨fun g => absurd rfl g, fun _ => ⟨n, hM Φ hΦ⟩⟩
    obtain ⟨rc1, c1, c2⟩ := ek_hasChild (cp := cp) (hP.1 p hp)
    obtain ⟨o, o1, o2⟩ := ek_endedChild (cp := cp) (hP.1 p hp)
    have eK : ∀ b : Int32, (∀ Φ : Int32 → KS → Prop, Φ b s → ((rc1 = 0 → Φ (0 : Int32) s) ∧ (¬ rc1 = 0 → ((o = none → Φ (1 : Int32) s) ∧ (∀ z19 : Nat, o = some z19 → Φ (0 : Int32) s))))) → EI (w_K_mustWait cp p s) b s := fun b g Φ hΦ => by
      unfold w_K_mustWait
      refine hkind _ ⟨fun e => absurd e (by decide), fun e => absurd e (by decide), fun _ => c1 _ ?_, fun e => absurd rfl e.2.2⟩
      exact ⟨(g Φ hΦ).1, fun e => o1 _ ((g Φ hΦ).2 e)⟩
    refine ⟨r, eM, ?_⟩
    rcases hr with ⟨r1, r2, r3⟩ | ⟨r1, r2⟩
    · right
      refine ⟨eK 1 (fun Φ hΦ => ⟨fun e => ?_, fun _ => ⟨fun _ => hΦ, fun z e => ?_⟩⟩), Or.inl ⟨rfl, r1, r3⟩⟩
      · rcases c2 with ⟨-, g⟩ | ⟨g, -⟩
        · obtain ⟨c, hc, k⟩ := r2; exact absurd k (g c hc)
        · rw [g] at e; exact absurd e (by decide)
      · rcases o2 with ⟨g, -⟩ | ⟨c, hc, -, g1, g2, -⟩
        · rw [g] at e; cases e
        · exact absurd ⟨g1, g2⟩ (r3 c hc)
    · left
      refine ⟨r1, eK 0 (fun Φ hΦ => ⟨fun _ => hΦ, fun e => ⟨fun e2 => ?_, fun _ _ => hΦ⟩⟩), fun e => absurd e (by decide)⟩
      rcases c2 with ⟨g, -⟩ | ⟨-, g⟩
      · exact absurd g e
      · rcases o2 with ⟨-, g2⟩ | ⟨c, -, g2, -⟩
        · exact absurd ⟨g, g2⟩ r2
        · rw [g2] at e2; cases e2
  · have n36 : ¬ nI k = (36 : Int32) := nI_ne (b := 36) (by omega) (by omega) k36
    by_cases k33 : k = 33
    · subst k33
      obtain ⟨L0, y, hLy⟩ := hL (Or.inl rfl)
      have hl0 : L0.length < 32 := by rw [hLy, List.length_append] at hl; simp at hl; omega
      rw [hLy] at kv mv
      obtain ⟨n, hn, hd⟩ := dAt_ok (y := y) hp hP
      obtain ⟨b, b1, b2⟩ := ek_wB (n := n) hH (by omega) (by omega)
      have eK : EI (w_K_mustWait cp p s) b s := fun Φ hΦ => by
        unfold w_K_mustWait
        refine hkind _ ⟨fun _ => ek_top kv hl0 _ (ek_descAt _ ?_), fun e => absurd e (by decide), fun e => absurd e (by decide), fun e => absurd rfl e.1⟩
        rw [hn]
        refine b1 _ ⟨?_, hΦ⟩
        rcases b2 with ⟨g, -⟩ | ⟨g, -⟩
        · exact Or.inl g
        · exact Or.inr g
      have eM : ∀ r : Int32, (∀ Φ : Int32 → KS → Prop, Φ r t → w_M_rowFor_136 (nI p) (nI 33) Φ (nI n) t) → EI (w_M_rowFor (nI p) (nI 33) t) r t := fun r g Φ hΦ => by
        unfold w_M_rowFor w_M_rowFor_121
        refine ⟨fun _ => ⟨fun _ => em_top0 hp mv (by omega) _ (em_descOf hp hP _ ?_), fun e => absurd rfl e⟩, fun e => absurd e (by decide)⟩
        rw [hn]
        exact g Φ hΦ
      rcases b2 with ⟨g, g2⟩ | ⟨g, g20, g3, g4⟩
      · refine ⟨-1, eM _ (fun Φ hΦ => ?_), Or.inl ⟨rfl, by rw [g] at eK; exact eK, fun _ L1 y1 n1 e1 e2 e3 => by
          have ey : y1 = y := (last_inj (hLy.symm.trans e1)).symm
          rw [ey, hn] at e2
          have en : n = n1 := nI_inj (by omega) (by omega) e2
          rw [← en]
          exact g2⟩⟩
        unfold w_M_rowFor_136
        refine ⟨fun e => absurd rfl e, fun _ => pk_lt n 20 (fun c => ?_) (fun c => ?_)⟩
        · unfold w_M_rowFor_191 w_M_rowFor_223
          exact ⟨fun _ => ⟨fun _ => hΦ, fun e => absurd e (by decide)⟩, fun e => absurd e (by decide)⟩
        · intro y1 ey
          have e1 : y1 = nI (n - 20) := by rw [ey]; exact pk_sub (b := 20) c
          have e2 : (10 : Int32) + y1 = nI (n - 10) := by
            rw [e1]
            have : nI 10 + nI (n - 20) = nI (10 + (n - 20)) := nI_add _ _
            rw [show 10 + (n - 20) = n - 10 by omega] at this
            exact this
          have hb := cnt_le (t 31 0) (nI (n - 10)) 128
          rw [e2, e1, cl (by omega)]
          refine em_many _ (pk_le (cnt (t 31 0) (nI (n - 10)) 128) 0 (fun _ => hΦ) (fun c2 => ⟨vin (by omega) (by omega), fun _ => hΦ, fun e => ?_⟩))
          exact absurd ⟨c, by omega, e⟩ g2
      · refine ⟨nI (8 + (n - 20)), eM _ (fun Φ hΦ => ?_), Or.inr ⟨by rw [g] at eK; exact eK, Or.inr ⟨8 + (n - 20), by omega, rfl, Or.inl ⟨rfl, by omega, by omega⟩, fun e => by omega, L0, y, hLy, ?_⟩⟩⟩
        · unfold w_M_rowFor_136
          refine ⟨fun e => absurd rfl e, fun _ => pk_lt n 20 (fun c => by omega) (fun c => ?_)⟩
          intro y1 ey
          have e1 : y1 = nI (n - 20) := by rw [ey]; exact pk_sub (b := 20) c
          have e2 : (10 : Int32) + y1 = nI (n - 10) := by
            rw [e1]
            have : nI 10 + nI (n - 20) = nI (10 + (n - 20)) := nI_add _ _
            rw [show 10 + (n - 20) = n - 10 by omega] at this
            exact this
          have e3 : (8 : Int32) + nI (n - 20) = nI (8 + (n - 20)) := nI_add 8 _
          have hb := cnt_le (t 31 0) (nI (n - 10)) 128
          rw [e2, e1, cl (by omega), e3]
          exact em_many _ (pk_le (cnt (t 31 0) (nI (n - 10)) 128) 0 (fun c0 => by omega) (fun c2 => ⟨vin (by omega) (by omega), fun e => absurd g4 e, fun _ => hΦ⟩))
        · rw [hn]
          congr 1
          unfold rc
          rw [if_neg (by omega), if_pos (by omega)]
          omega
    · have n33 : ¬ nI k = (33 : Int32) := nI_ne (b := 33) (by omega) (by omega) k33
      by_cases k34 : k = 34
      · subst k34
        obtain ⟨L0, y, hLy⟩ := hL (Or.inr rfl)
        have hl0 : L0.length < 32 := by rw [hLy, List.length_append] at hl; simp at hl; omega
        rw [hLy] at kv mv
        obtain ⟨n, hn, hd⟩ := dAt_ok (y := y) hp hP
        obtain ⟨b, b1, b2⟩ := ek_rB (n := n) hH (by omega)
        have eK : EI (w_K_mustWait cp p s) b s := fun Φ hΦ => by
          unfold w_K_mustWait
          refine hkind _ ⟨fun e => absurd e (by decide), fun _ => ek_top kv hl0 _ (ek_descAt _ ?_), fun e => absurd e (by decide), fun e => absurd rfl e.2.1⟩
          rw [hn]
          refine b1 _ ⟨?_, hΦ⟩
          rcases b2 with ⟨g, -⟩ | ⟨g, -⟩
          · exact Or.inl g
          · exact Or.inr g
        have eM : ∀ r : Int32, (∀ Φ : Int32 → KS → Prop, Φ r t → w_M_rowFor_191 (nI p) (nI 34) Φ (nI n) t) → EI (w_M_rowFor (nI p) (nI 34) t) r t := fun r g Φ hΦ => by
          unfold w_M_rowFor w_M_rowFor_121 w_M_rowFor_136
          refine ⟨fun _ => ⟨fun e => absurd e (by decide), fun _ => ⟨fun e => absurd rfl e, fun _ => em_top0 hp mv (by omega) _ (em_descOf hp hP _ ?_)⟩⟩, fun e => absurd e (by decide)⟩
          rw [hn]
          exact ⟨fun _ => g Φ hΦ, fun e => absurd e (by decide)⟩
        have e2 : ∀ y1 : Int32, 10 ≤ n → y1 = nI n - 10 → y1 = nI (n - 10) ∧ (20 : Int32) + y1 = nI (n + 10) := fun y1 c ey => by
          have e1 : y1 = nI (n - 10) := by rw [ey]; exact pk_sub (b := 10) c
          refine ⟨e1, ?_⟩
          rw [e1]
          have : nI 20 + nI (n - 10) = nI (20 + (n - 10)) := nI_add _ _
          rw [show 20 + (n - 10) = n + 10 by omega] at this
          exact this
        have hb := cnt_le (t 31 0) (nI (n + 10)) 128
        rcases b2 with ⟨g, g2⟩ | ⟨g, g2⟩
        · refine ⟨-1, eM _ (fun Φ hΦ => ?_), Or.inl ⟨rfl, by rw [g] at eK; exact eK, fun e => absurd e (by decide)⟩⟩
          have h223 : w_M_rowFor_223 (nI p) (nI 34) Φ (nI n) t := by
            unfold w_M_rowFor_223
            refine ⟨fun e => absurd rfl e, fun _ => pk_lt n 10 (fun _ => hΦ) (fun c => pk_le 20 n (fun _ => hΦ) (fun c2 y1 ey => ?_))⟩
            obtain ⟨e1, e3⟩ := e2 y1 c ey
            rw [e3, e1, cl (by omega)]
            refine ⟨vin (by omega) (by omega), fun _ => hΦ, fun e => em_many _ (pk_le (cnt (t 31 0) (nI (n + 10)) 128) 0 (fun _ => hΦ) (fun c3 => ?_))⟩
            exact absurd (Or.inr ⟨c, by omega, e, by omega⟩) g2
          unfold w_M_rowFor_191
          refine ⟨fun e => absurd rfl e, fun _ => ⟨fun _ => h223, fun e => ⟨fun _ => hΦ, fun e3 => ⟨fun _ => hΦ, fun e4 => ?_⟩⟩⟩⟩
          have hn1 : n = 1 := nI_inj (b := 1) (by omega) (by omega) e
          exact absurd (Or.inl ⟨hn1, e3, e4⟩) g2
        · rcases g2 with ⟨g1, g3, g4⟩ | ⟨g1, g3, g4, g5⟩
          · refine ⟨nI 16, eM _ (fun Φ hΦ => ?_), Or.inr ⟨by rw [g] at eK; exact eK, Or.inr ⟨16, by omega, rfl, Or.inr ⟨rfl, Or.inr rfl⟩, fun _ => g4, L0, y, hLy, ?_⟩⟩⟩
            · unfold w_M_rowFor_191
              rw [g1]
              exact ⟨fun e => absurd rfl e, fun _ => ⟨fun e => absurd rfl e, fun _ => ⟨fun e => absurd g3 e, fun _ => ⟨fun e => absurd g4 e, fun _ => hΦ⟩⟩⟩⟩
            · rw [hn, g1]; rfl
          · refine ⟨nI (n - 10), eM _ (fun Φ hΦ => ?_), Or.inr ⟨by rw [g] at eK; exact eK, Or.inr ⟨n - 10, by omega, rfl, Or.inr ⟨rfl, Or.inl (by omega)⟩, fun e => by omega, L0, y, hLy, ?_⟩⟩⟩
            · unfold w_M_rowFor_191
              refine ⟨fun e => absurd rfl e, fun _ => ⟨fun _ => ?_, fun e => absurd (nI_inj (b := 1) (by omega) (by omega) e) (by omega)⟩⟩
              unfold w_M_rowFor_223
              refine ⟨fun e => absurd rfl e, fun _ => pk_lt n 10 (fun c => by omega) (fun c => pk_le 20 n (fun c => by omega) (fun c2 y1 ey => ?_))⟩
              obtain ⟨e1, e3⟩ := e2 y1 c ey
              rw [e3, e1, cl (by omega)]
              exact ⟨vin (by omega) (by omega), fun e => absurd g4 e, fun _ => em_many _ (pk_le (cnt (t 31 0) (nI (n + 10)) 128) 0 (fun c => by omega) (fun _ => hΦ))⟩
            · rw [hn]
              congr 1
              unfold rc
              rw [if_pos (by omega)]
              omega
      · have n34 : ¬ nI k = (34 : Int32) := nI_ne (b := 34) (by omega) (by omega) k34
        refine ⟨-1, fun Φ hΦ => ?_, Or.inl ⟨rfl, fun Φ hΦ => ?_, fun e => absurd e k33⟩⟩
        · unfold w_M_rowFor w_M_rowFor_136 w_M_rowFor_191 w_M_rowFor_223
          exact ⟨fun _ => ⟨fun e => absurd e n33, fun _ => ⟨fun _ => ⟨fun _ => ⟨fun _ => ⟨fun _ => hΦ, fun e => absurd e n34⟩, fun e => absurd e n34⟩, fun e => absurd e n33⟩, fun e => absurd e n34⟩⟩, fun e => absurd e n36⟩
        · unfold w_K_mustWait
          exact hkind _ ⟨fun e => absurd e n33, fun e => absurd e n34, fun e => absurd e n36, fun _ => hΦ⟩

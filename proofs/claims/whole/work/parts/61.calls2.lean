section AB
variable {cp j : Nat} {s t : KS} {b c : Int32}
def abF (i : Nat) (x2 v : Int32) (Φ : Int32 → KS → Prop) (u : KS) : Prop := ((¬ x2 = 0 → ((¬ x2 = (1 : Int32) → ((¬ x2 = (2 : Int32) → ((¬ x2 = (3 : Int32) → ((¬ x2 = (4 : Int32) → Φ v u) ∧ (x2 = (4 : Int32) → vp_in (nI i) 16 ∧ Φ (u 34 0 (nI i).toNatClampNeg) u))) ∧ (x2 = (3 : Int32) → vp_in (nI i) 16 ∧ ((¬ (u 26 0 (nI i).toNatClampNeg) = (6 : Int32) → Φ (0 : Int32) u) ∧ ((u 26 0 (nI i).toNatClampNeg) = (6 : Int32) → vp_in (nI i) 16 ∧ Φ (u 33 0 (nI i).toNatClampNeg) u))))) ∧ (x2 = (2 : Int32) → vp_in (nI i) 16 ∧ Φ (u 32 0 (nI i).toNatClampNeg) u))) ∧ (x2 = (1 : Int32) → vp_in (nI i) 16 ∧ Φ (u 29 0 (nI i).toNatClampNeg) u))) ∧ (x2 = 0 → vp_in (nI i) 16 ∧ Φ (u 30 0 (nI i).toNatClampNeg) u))
theorem em_ab {i : Nat} {x2 : Int32} {u : KS} {f : Nat → Int32} (hi : i < 16) (hf : ∀ d, d < 8 → u 31 0 (8 * i + d) = f d) {Φ : Int32 → KS → Prop} (g : abF i x2 (mk f 8) Φ u) : ∃ nn : Nat, w_M_about_55 (nI i) x2 Φ nn (0 : Int32) (0 : Int32) u := by
  have key : ∃ n, w_M_about_55 (nI i) x2 Φ n 0 (nI 0) u := by
    refine pk_loop (fun n d (v : Int32) => w_M_about_55 (nI i) x2 Φ n v (nI d) u) (fun d v => v = mk f d) 8 0 0 (by omega) rfl ?_ ?_
    · intro n v hv
      unfold w_M_about_55
      rw [hv]
      exact ⟨fun _ => g, fun k => absurd (by decide) k⟩
    · intro n d v hd hv hnext
      unfold w_M_about_55
      have e1 : (8 : Int32) * nI i + nI d = nI (8 * i + d) := ix 8 i d
      rw [e1, cl (n := 8 * i + d) (by omega), hf d hd]
      refine ⟨fun k => absurd k (nI_ge (b := 8) hd (by omega)), fun _ => ⟨vin (by omega) (by omega), fun c z ez => ?_, fun c z ez z2 ez2 => ?_⟩⟩
      · rw [ez, nI_1]
        refine hnext _ ?_
        rw [hv]
        unfold mk
        show _ = if decide (f d = 0) = true then _ else _
        rw [if_pos (by simpa using c)]
      · rw [ez2, nI_1]
        refine hnext _ ?_
        rw [ez, hv]
        unfold mk
        show _ = if decide (f d = 0) = true then _ else _
        rw [if_neg (by simpa using c)]
  exact key
theorem k_about (h : Inv cp j s t) : w_L_about cp b c s (fun k s1 => w_M_about b c t (fun r t1 => w_M_thrown t1 (fun th t2 => th = k ∧ (k = 0 → s1 50 0 0 = r) ∧ Inv cp (j + 3) s1 t2))) := by
  obtain ⟨q, row, T, hY, hH⟩ := h.y
  have bad : (b < 0 ∨ (¬ b < 0 ∧ ¬ b < 16)) → w_M_about b c t (fun r t1 => w_M_thrown t1 (fun th t2 => th = 1 ∧ ((1 : Int32) = 0 → s 50 0 0 = r) ∧ Inv cp (j + 3) s t2)) := fun g => em_np0 g _ ⟨fun k => absurd k (by decide), fun _ => ⟨rfl, fun k => absurd k (by decide), h.rk 1⟩⟩
  unfold w_L_about w_K_about
  rcases pk_ix b (n := 16) (by omega) with g | g | ⟨i, hi, e⟩
  · exact ⟨fun _ => ⟨fun _ => bad (Or.inl g), fun k => absurd k (by decide), fun k => absurd k (by decide)⟩, fun k => absurd g k⟩
  · have g0 := le_nneg (by omega) g
    exact ⟨fun k => absurd k g0, fun _ => ⟨fun k => absurd k (le_nlt g), fun _ => ⟨fun _ => bad (Or.inr ⟨g0, le_nlt g⟩), fun k => absurd k (by decide), fun k => absurd k (by decide)⟩⟩⟩
  · subst e
    have e26 : t 26 0 i = s 1 i 7 := hY.1.2.1 i hi
    -- what is none of the six
    have bad2 : (c < 0 ∨ (¬ c < 0 ∧ ¬ c ≤ 5)) → w_M_about (nI i) c t (fun r t1 => w_M_thrown t1 (fun th t2 => th = 2 ∧ ((2 : Int32) = 0 → s 50 0 0 = r) ∧ Inv cp (j + 3) s t2)) := fun g => em_np1 hi _ ⟨fun _ => by
      have h20 : w_M_about_20 (nI i) c (fun r t1 => w_M_thrown t1 (fun th t2 => th = 2 ∧ ((2 : Int32) = 0 → s 50 0 0 = r) ∧ Inv cp (j + 3) s t2)) (w3 t 20 0 0 0) := by
        unfold w_M_about_20 w_M_about_38
        intro s1 e1
        rw [e1]
        exact ⟨fun k => absurd k (th_n _ (by decide)), fun _ => ⟨rfl, fun k => absurd k (by decide), (h.m 0).rk 2⟩⟩
      rcases g with g | ⟨g1, g2⟩
      · exact ⟨fun _ => h20, fun k => absurd g k⟩
      · exact ⟨fun k => absurd k g1, fun _ => ⟨fun k => absurd k g2, fun _ => h20⟩⟩, fun k => absurd rfl k⟩
    refine ⟨fun k => absurd k (nI_pos (by omega)), fun _ => ⟨fun _ => ?_, fun k => absurd (nI_lt (b := 16) hi (by omega)) k⟩⟩
    rcases pk_ix c (n := 6) (by omega) with g | g | ⟨n, hn, e⟩
    · exact ⟨fun _ => ⟨fun k => absurd k (by decide), fun k => absurd k (by decide), fun _ => bad2 (Or.inl g)⟩, fun k => absurd g k⟩
    · have g0 := le_nneg (by omega) g
      have g5 : ¬ c ≤ 5 := fun k => by
        rw [Int32.le_iff_toInt_le] at k g
        have z : (5 : Int32).toInt = 5 := by decide
        have z6 : (nI 6).toInt = 6 := nI_toInt (by omega)
        omega
      exact ⟨fun k => absurd k g0, fun _ => ⟨fun k => absurd k g5, fun _ => ⟨fun k => absurd k (by decide), fun k => absurd k (by decide), fun _ => bad2 (Or.inr ⟨g0, g5⟩)⟩⟩⟩
    · subst e
      have n5 : nI n ≤ (5 : Int32) := nI_le (b := 5) (by omega) (by omega)
      have n0 : ¬ nI n < 0 := nI_pos (by omega)
      rw [cl (n := i) (by omega)]
      refine ⟨fun k => absurd k n0, fun _ => ⟨fun _ => ⟨vin hi (by omega), fun st => ?_, fun st => ⟨fun k => absurd k (by decide), fun _ => ?_, fun k => absurd k (by decide)⟩⟩, fun k => absurd n5 k⟩⟩
      · obtain ⟨nn, b0, b1, b2, b3, b4, b5, b6⟩ := hY.1.2.2.2.2.2 i hi st
        have go : ∀ v : Int32, (∀ Ψ : Int32 → KS → Prop, Ψ v (w3 (w3 t 20 0 0 0) 20 0 0 0) → abF i (nI n) (mk (s 4 i) 8) Ψ (w3 (w3 t 20 0 0 0) 20 0 0 0)) → ∀ s2 : KS, s2 = w3 s 50 0 0 v → w_M_about (nI i) (nI n) t (fun r t1 => w_M_thrown t1 (fun th t2 => th = 0 ∧ ((0 : Int32) = 0 → s2 50 0 0 = r) ∧ Inv cp (j + 3) s2 t2)) := fun v g s2 e2 => by
          refine em_np1 hi _ ⟨fun _ => ⟨fun k => absurd k n0, fun _ => ⟨fun _ => ⟨vin hi (by omega), fun _ s3 e3 => ?_, fun k => ?_⟩, fun k => absurd n5 k⟩⟩, fun k => absurd rfl k⟩
          · rw [e3]
            refine ⟨fun _ => em_ab (f := s 4 i) (u := w3 (w3 t 20 0 0 0) 20 0 0 0) hi (fun d hd => (hY.1.2.2.2.2.1 i hi d hd).1) (g (fun r t1 => w_M_thrown t1 (fun th t2 => th = 0 ∧ ((0 : Int32) = 0 → s2 50 0 0 = r) ∧ Inv cp (j + 3) s2 t2)) ⟨rfl, fun _ => by rw [e2]; rfl, by rw [e2]; exact (h.m 0).ro _ _⟩), fun k => absurd (th_le _) k⟩
          · rw [cl (n := i) (by omega)] at k
            have k2 : t 26 0 i = 0 := k
            rw [e26] at k2
            exact absurd k2 st
        have ci : (nI i).toNatClampNeg = i := cl (by omega)
        have vi : vp_in (nI i) 16 := vin hi (by omega)
        have hc : n = 0 ∨ n = 1 ∨ n = 2 ∨ n = 3 ∨ n = 4 ∨ n = 5 := by omega
        rcases hc with e | e | e | e | e | e
        · subst e
          refine ⟨fun _ => go _ (fun Ψ hΨ => ⟨fun k => absurd rfl k, fun _ => ⟨vi, ?_⟩⟩), fun k => absurd k (by decide), fun k => absurd k (by decide), fun k => absurd k (by decide), fun k => absurd k (by decide), fun k => absurd k (by decide)⟩
          have ea : w3 (w3 t 20 0 0 0) 20 0 0 0 30 0 (nI i).toNatClampNeg = s 1 i 5 := by rw [ci]; exact b3
          rw [ea]; exact hΨ
        · subst e
          refine ⟨fun k => absurd k (by decide), fun _ => go _ (fun Ψ hΨ => ⟨fun _ => ⟨fun k => absurd rfl k, fun _ => ⟨vi, ?_⟩⟩, fun k => absurd k (by decide)⟩), fun k => absurd k (by decide), fun k => absurd k (by decide), fun k => absurd k (by decide), fun k => absurd k (by decide)⟩
          have ea : w3 (w3 t 20 0 0 0) 20 0 0 0 29 0 (nI i).toNatClampNeg = s 1 i 4 := by rw [ci, b1]; exact b2
          rw [ea]; exact hΨ
        · subst e
          refine ⟨fun k => absurd k (by decide), fun k => absurd k (by decide), fun _ => go _ (fun Ψ hΨ => ⟨fun _ => ⟨fun _ => ⟨fun k => absurd rfl k, fun _ => ⟨vi, ?_⟩⟩, fun k => absurd k (by decide)⟩, fun k => absurd k (by decide)⟩), fun k => absurd k (by decide), fun k => absurd k (by decide), fun k => absurd k (by decide)⟩
          have ea : w3 (w3 t 20 0 0 0) 20 0 0 0 32 0 (nI i).toNatClampNeg = s 1 i 6 := by rw [ci]; exact b4
          rw [ea]; exact hΨ
        · subst e
          have ea : w3 (w3 t 20 0 0 0) 20 0 0 0 26 0 (nI i).toNatClampNeg = s 1 i 7 := by rw [ci]; exact e26
          refine ⟨fun k => absurd k (by decide), fun k => absurd k (by decide), fun k => absurd k (by decide), fun _ => ⟨fun n6 => go _ (fun Ψ hΨ => ?_), fun n6 => go _ (fun Ψ hΨ => ?_)⟩, fun k => absurd k (by decide), fun k => absurd k (by decide)⟩
          · refine ⟨fun _ => ⟨fun _ => ⟨fun _ => ⟨fun k => absurd rfl k, fun _ => ⟨vi, fun _ => hΨ, fun k => ?_⟩⟩, fun k => absurd k (by decide)⟩, fun k => absurd k (by decide)⟩, fun k => absurd k (by decide)⟩
            rw [ea] at k; exact absurd k n6
          · refine ⟨fun _ => ⟨fun _ => ⟨fun _ => ⟨fun k => absurd rfl k, fun _ => ⟨vi, fun k => ?_, fun _ => ⟨vi, ?_⟩⟩⟩, fun k => absurd k (by decide)⟩, fun k => absurd k (by decide)⟩, fun k => absurd k (by decide)⟩
            · rw [ea] at k; exact absurd n6 k
            · have eb : w3 (w3 t 20 0 0 0) 20 0 0 0 33 0 (nI i).toNatClampNeg = s 1 i 8 := by rw [ci]; exact hY.1.2.2.2.1 i hi n6
              rw [eb]; exact hΨ
        · subst e
          have ea : w3 (w3 t 20 0 0 0) 20 0 0 0 34 0 (nI i).toNatClampNeg = if s 1 i 7 = 5 then s 1 i 9 else 0 := by rw [ci]; exact hY.1.2.2.1 i hi
          have fin : ∀ Ψ : Int32 → KS → Prop, Ψ (if s 1 i 7 = 5 then s 1 i 9 else 0) (w3 (w3 t 20 0 0 0) 20 0 0 0) → abF i (nI 4) (mk (s 4 i) 8) Ψ (w3 (w3 t 20 0 0 0) 20 0 0 0) := fun Ψ hΨ => by
            refine ⟨fun _ => ⟨fun _ => ⟨fun _ => ⟨fun _ => ⟨fun k => absurd rfl k, fun _ => ⟨vi, ?_⟩⟩, fun k => absurd k (by decide)⟩, fun k => absurd k (by decide)⟩, fun k => absurd k (by decide)⟩, fun k => absurd k (by decide)⟩
            rw [ea]; exact hΨ
          refine ⟨fun k => absurd k (by decide), fun k => absurd k (by decide), fun k => absurd k (by decide), fun k => absurd k (by decide), fun _ => ⟨fun n5 => go _ (fun Ψ hΨ => fin Ψ (by rw [if_neg n5]; exact hΨ)), fun n5 => go _ (fun Ψ hΨ => fin Ψ (by rw [if_pos n5]; exact hΨ))⟩, fun k => absurd k (by decide)⟩
        · subst e
          refine ⟨fun k => absurd k (by decide), fun k => absurd k (by decide), fun k => absurd k (by decide), fun k => absurd k (by decide), fun k => absurd k (by decide), fun _ => ek_mask _ (go _ (fun Ψ hΨ => ⟨fun _ => ⟨fun _ => ⟨fun _ => ⟨fun _ => ⟨fun _ => hΨ, fun k => absurd k (by decide)⟩, fun k => absurd k (by decide)⟩, fun k => absurd k (by decide)⟩, fun k => absurd k (by decide)⟩, fun k => absurd k (by decide)⟩))⟩
      · refine em_np1 hi _ ⟨fun _ => ⟨fun k => absurd k n0, fun _ => ⟨fun _ => ⟨vin hi (by omega), fun k => ?_, fun _ s3 e3 => ?_⟩, fun k => absurd n5 k⟩⟩, fun k => absurd rfl k⟩
        · rw [cl (n := i) (by omega)] at k
          exact absurd (by show t 26 0 i = 0; rw [e26]; exact st) k
        · rw [e3]
          exact ⟨fun k => absurd k (th_n _ (by decide)), fun _ => ⟨rfl, fun k => absurd k (by decide), (h.m 0).rk 3⟩⟩
/-! how many wait -/
theorem wo_len {l : List Nat} {n : Nat} (hd : l.Nodup) (hm : n ∈ l) : l.length = (wo l n).length + 1 := by
  have h1 := nd_aux n l hd
  have h2 : (wo l n).length < l.length := by
    unfold wo
    rw [List.length_filter_lt_length_iff_exists]
    exact ⟨n, hm, by simp⟩
  unfold wo at *
  omega
theorem len_cnt {f : Nat → Int32} {x : Int32} : ∀ (n : Nat) (l : List Nat), l.Nodup → (∀ i, i ∈ l ↔ i < n ∧ f i = x) → l.length = cnt f x n := by
  intro n
  induction n with
  | zero =>
    intro l _ h
    cases l with
    | nil => rfl
    | cons a l => have := (h a).mp (by simp); omega
  | succ n ih =>
    intro l hd h
    have h2 := ih (wo l n) (wo_nd hd) (fun i => by
      rw [wo_mem, h i]
      constructor
      · rintro ⟨⟨a, b⟩, c⟩; exact ⟨by omega, b⟩
      · rintro ⟨a, b⟩; exact ⟨⟨by omega, b⟩, by omega⟩)
    unfold cnt
    by_cases c : f n = x
    · rw [if_pos c, wo_len hd ((h n).mpr ⟨by omega, c⟩), h2]
    · rw [if_neg c, ← h2, wo_not (fun g => c ((h n).mp g).2)]
      omega
theorem ek_cw {x : Int32} : EI (w_K_countWaiting cp x s) (nI (cnt (fun i => s 1 i 10) x 16)) s := by
  have key : ∃ n, ∀ Φ : Int32 → KS → Prop, Φ (nI (cnt (fun i => s 1 i 10) x 16)) s → w_K_countWaiting_4 cp x Φ n 0 (nI 0) s := by
    refine pk_loop (fun n i (v : Int32) => ∀ Φ : Int32 → KS → Prop, Φ (nI (cnt (fun i => s 1 i 10) x 16)) s → w_K_countWaiting_4 cp x Φ n v (nI i) s) (fun i v => v = nI (cnt (fun i => s 1 i 10) x i)) 16 0 0 (by omega) rfl ?_ ?_
    · intro n v hv Φ hΦ
      unfold w_K_countWaiting_4
      rw [hv]
      exact ⟨fun _ => hΦ, fun g => absurd (by decide) g⟩
    · intro n i v hi hv hnext Φ hΦ
      unfold w_K_countWaiting_4
      rw [cl (n := i) (by omega)]
      refine ⟨fun g => absurd g (nI_ge (b := 16) hi (by omega)), fun _ => ⟨vin hi (by omega), fun c z ez => ?_, fun c z ez z2 ez2 => ?_⟩⟩
      · rw [ez, nI_1]
        refine hnext _ ?_ Φ hΦ
        rw [hv]
        show _ = nI (cnt (fun i => s 1 i 10) x i + if s 1 i 10 = x then 1 else 0)
        rw [if_neg c]
        rfl
      · rw [ez2, nI_1]
        refine hnext _ ?_ Φ hΦ
        rw [ez, hv, nI_1]
        show _ = nI (cnt (fun i => s 1 i 10) x i + if s 1 i 10 = x then 1 else 0)
        rw [if_pos c]
  obtain ⟨n, h2⟩ := key
  exact fun Φ hΦ => ⟨n, h2 Φ hΦ⟩
theorem k_pipe (h : Inv cp j s t) : w_L_pipe cp b c s (fun k s1 => w_M_pipe b c t (fun r t1 => w_M_thrown t1 (fun th t2 => th = k ∧ (k = 0 → s1 50 0 0 = r) ∧ Inv cp (j + 3) s1 t2))) := by
  obtain ⟨q, row, T, hY, hH⟩ := h.y
  have bad : (b < 0 ∨ (¬ b < 0 ∧ ¬ b ≤ 7)) → w_M_pipe b c t (fun r t1 => w_M_thrown t1 (fun th t2 => th = 1 ∧ ((1 : Int32) = 0 → s 50 0 0 = r) ∧ Inv cp (j + 3) s t2)) := fun g => by
    have h11 : w_M_pipe_11 b c (fun r t1 => w_M_thrown t1 (fun th t2 => th = 1 ∧ ((1 : Int32) = 0 → s 50 0 0 = r) ∧ Inv cp (j + 3) s t2)) t := by
      unfold w_M_pipe_11 w_M_pipe_29
      intro s1 e1
      rw [e1]
      exact ⟨fun k => absurd k (th_n _ (by decide)), fun _ => ⟨rfl, fun k => absurd k (by decide), h.rk 1⟩⟩
    unfold w_M_pipe
    rcases g with g | ⟨g1, g2⟩
    · exact ⟨fun _ => h11, fun k => absurd g k⟩
    · exact ⟨fun k => absurd k g1, fun _ => ⟨fun k => absurd k g2, fun _ => h11⟩⟩
  unfold w_L_pipe w_K_pipe
  rcases pk_ix b (n := 8) (by omega) with g | g | ⟨w, hw, e⟩
  · exact ⟨fun _ => ⟨fun _ => bad (Or.inl g), fun k => absurd k (by decide), fun k => absurd k (by decide)⟩, fun k => absurd g k⟩
  · have g0 := le_nneg (by omega) g
    have g7 : ¬ b ≤ 7 := fun k => by
      rw [Int32.le_iff_toInt_le] at k g
      have z : (7 : Int32).toInt = 7 := by decide
      have z6 : (nI 8).toInt = 8 := nI_toInt (by omega)
      omega
    exact ⟨fun k => absurd k g0, fun _ => ⟨fun k => absurd k (le_nlt g), fun _ => ⟨fun _ => bad (Or.inr ⟨g0, g7⟩), fun k => absurd k (by decide), fun k => absurd k (by decide)⟩⟩⟩
  · subst e
    have w0 : ¬ nI w < 0 := nI_pos (by omega)
    have w7 : nI w ≤ (7 : Int32) := nI_le (b := 7) (by omega) (by omega)
    have e10 : (10 : Int32) + nI w = nI (10 + w) := nI_add 10 w
    have e20 : (20 : Int32) + nI w = nI (20 + w) := nI_add 20 w
    have e8 : (8 : Int32) + nI w = nI (8 + w) := nI_add 8 w
    have bad2 : (c < 0 ∨ (¬ c < 0 ∧ ¬ c ≤ 4)) → w_M_pipe (nI w) c t (fun r t1 => w_M_thrown t1 (fun th t2 => th = 2 ∧ ((2 : Int32) = 0 → s 50 0 0 = r) ∧ Inv cp (j + 3) s t2)) := fun g => by
      have h24 : w_M_pipe_24 (nI w) c (fun r t1 => w_M_thrown t1 (fun th t2 => th = 2 ∧ ((2 : Int32) = 0 → s 50 0 0 = r) ∧ Inv cp (j + 3) s t2)) t := by
        unfold w_M_pipe_24 w_M_pipe_29
        intro s1 e1
        rw [e1]
        exact ⟨fun k => absurd k (th_n _ (by decide)), fun _ => ⟨rfl, fun k => absurd k (by decide), h.rk 2⟩⟩
      unfold w_M_pipe
      rcases g with g | ⟨g1, g2⟩
      · exact ⟨fun k => absurd k w0, fun _ => ⟨fun _ => ⟨fun _ => h24, fun k => absurd g k⟩, fun k => absurd w7 k⟩⟩
      · exact ⟨fun k => absurd k w0, fun _ => ⟨fun _ => ⟨fun k => absurd k g1, fun _ => ⟨fun k => absurd k g2, fun _ => h24⟩⟩, fun k => absurd w7 k⟩⟩
    refine ⟨fun k => absurd k w0, fun _ => ⟨fun _ => ?_, fun k => absurd (nI_lt (b := 8) hw (by omega)) k⟩⟩
    rw [e10, e20, cl (n := 10 + w) (by omega), cl (n := 20 + w) (by omega), cl (n := w) (by omega)]
    rcases pk_ix c (n := 5) (by omega) with g | g | ⟨n, hn, e⟩
    · have ne : ∀ k : Nat, k < 5 → ¬ c = nI k := fun k hk e => by rw [e] at g; exact nI_pos (by omega) g
      exact ⟨fun k => absurd k (ne 0 (by omega)), fun k => absurd k (ne 1 (by omega)), fun k => absurd k (ne 2 (by omega)), fun k => absurd k (ne 3 (by omega)), fun k => absurd k (ne 4 (by omega)), fun _ => ⟨fun k => absurd k (by decide), fun k => absurd k (by decide), fun _ => bad2 (Or.inl g)⟩⟩
    · have g0 := le_nneg (by omega) g
      have ne : ∀ k : Nat, k < 5 → ¬ c = nI k := fun k hk e => by rw [e] at g; exact nI_ge hk (by omega) g
      have g4 : ¬ c ≤ 4 := fun k => by
        rw [Int32.le_iff_toInt_le] at k g
        have z : (4 : Int32).toInt = 4 := by decide
        have z6 : (nI 5).toInt = 5 := nI_toInt (by omega)
        omega
      exact ⟨fun k => absurd k (ne 0 (by omega)), fun k => absurd k (ne 1 (by omega)), fun k => absurd k (ne 2 (by omega)), fun k => absurd k (ne 3 (by omega)), fun k => absurd k (ne 4 (by omega)), fun _ => ⟨fun k => absurd k (by decide), fun k => absurd k (by decide), fun _ => bad2 (Or.inr ⟨g0, g4⟩)⟩⟩
    · subst e
      have n4 : nI n ≤ (4 : Int32) := nI_le (b := 4) (by omega) (by omega)
      have n0 : ¬ nI n < 0 := nI_pos (by omega)
      have go : ∀ v : Int32, (∀ Ψ : Int32 → KS → Prop, Ψ v (w3 t 20 0 0 0) → ((¬ nI n = 0 → ((¬ nI n = (1 : Int32) → ((¬ nI n = (2 : Int32) → ((¬ nI n = (3 : Int32) → vp_in (nI (8 + w)) 17 ∧ Ψ (w3 t 20 0 0 0 40 0 (nI (8 + w)).toNatClampNeg) (w3 t 20 0 0 0)) ∧ (nI n = (3 : Int32) → vp_in (nI w) 17 ∧ Ψ (w3 t 20 0 0 0 40 0 (nI w).toNatClampNeg) (w3 t 20 0 0 0)))) ∧ (nI n = (2 : Int32) → w_M_many (nI (20 + w)) (w3 t 20 0 0 0) (fun r3 s2 => Ψ r3 s2)))) ∧ (nI n = (1 : Int32) → w_M_many (nI (10 + w)) (w3 t 20 0 0 0) (fun r5 s4 => Ψ r5 s4)))) ∧ (nI n = 0 → vp_in (nI w) 8 ∧ Ψ (w3 t 20 0 0 0 42 0 (nI w).toNatClampNeg) (w3 t 20 0 0 0)))) → ∀ s2 : KS, s2 = w3 s 50 0 0 v → w_M_pipe (nI w) (nI n) t (fun r t1 => w_M_thrown t1 (fun th t2 => th = 0 ∧ ((0 : Int32) = 0 → s2 50 0 0 = r) ∧ Inv cp (j + 3) s2 t2)) := fun v g s2 e2 => by
        unfold w_M_pipe w_M_pipe_29
        refine ⟨fun k => absurd k w0, fun _ => ⟨fun _ => ⟨fun k => absurd k n0, fun _ => ⟨fun _ s1 e1 => ?_, fun k => absurd n4 k⟩⟩, fun k => absurd w7 k⟩⟩
        rw [e1, e10, e20, e8]
        exact ⟨fun _ => g (fun r t1 => w_M_thrown t1 (fun th t2 => th = 0 ∧ ((0 : Int32) = 0 → s2 50 0 0 = r) ∧ Inv cp (j + 3) s2 t2)) ⟨rfl, fun _ => by rw [e2]; rfl, by rw [e2]; exact h.ro _ _⟩, fun k => absurd (th_le _) k⟩
      obtain ⟨l, pn1, pn2, -⟩ := pipe_n hH hw
      have hc : n = 0 ∨ n = 1 ∨ n = 2 ∨ n = 3 ∨ n = 4 := by omega
      rcases hc with e | e | e | e | e
      · subst e
        refine ⟨fun _ => ⟨vin hw (by omega), go _ (fun Ψ hΨ => ⟨fun k => absurd rfl k, fun _ => ⟨vin hw (by omega), ?_⟩⟩)⟩, fun k => absurd k (by decide), fun k => absurd k (by decide), fun k => absurd k (by decide), fun k => absurd k (by decide), fun k => absurd k (by decide)⟩
        have ea : w3 t 20 0 0 0 42 0 (nI w).toNatClampNeg = s 5 w 2 := by rw [cl (n := w) (by omega), pn1]; exact pn2
        rw [ea]; exact hΨ
      · subst e
        refine ⟨fun k => absurd k (by decide), fun _ => ⟨vin (by omega) (by omega), go _ (fun Ψ hΨ => ⟨fun _ => ⟨fun k => absurd rfl k, fun _ => em_many _ ?_⟩, fun k => absurd k (by decide)⟩)⟩, fun k => absurd k (by decide), fun k => absurd k (by decide), fun k => absurd k (by decide), fun k => absurd k (by decide)⟩
        have ea : s 7 0 (10 + w) = nI (cnt (w3 t 20 0 0 0 31 0) (nI (10 + w)) 128) := hH.1 (10 + w) (by omega) (by omega)
        rw [← ea]; exact hΨ
      · subst e
        refine ⟨fun k => absurd k (by decide), fun k => absurd k (by decide), fun _ => ⟨vin (by omega) (by omega), go _ (fun Ψ hΨ => ⟨fun _ => ⟨fun _ => ⟨fun k => absurd rfl k, fun _ => em_many _ ?_⟩, fun k => absurd k (by decide)⟩, fun k => absurd k (by decide)⟩)⟩, fun k => absurd k (by decide), fun k => absurd k (by decide), fun k => absurd k (by decide)⟩
        have ea : s 7 0 (20 + w) = nI (cnt (w3 t 20 0 0 0 31 0) (nI (20 + w)) 128) := hH.1 (20 + w) (by omega) (by omega)
        rw [← ea]; exact hΨ
      · subst e
        refine ⟨fun k => absurd k (by decide), fun k => absurd k (by decide), fun k => absurd k (by decide), fun _ => ek_cw _ (go _ (fun Ψ hΨ => ⟨fun _ => ⟨fun _ => ⟨fun _ => ⟨fun k => absurd rfl k, fun _ => ⟨vin (by omega) (by omega), ?_⟩⟩, fun k => absurd k (by decide)⟩, fun k => absurd k (by decide)⟩, fun k => absurd k (by decide)⟩)), fun k => absurd k (by decide), fun k => absurd k (by decide)⟩
        obtain ⟨r1, r2, r3, r4, r5⟩ := hY.2.2.2.1 w (by omega)
        have hr : rc w = 10 + w := by unfold rc; rw [if_pos hw]
        have ea : w3 t 20 0 0 0 40 0 (nI w).toNatClampNeg = nI (cnt (fun i => s 1 i 10) (nI (10 + w)) 16) := by
          rw [cl (n := w) (by omega), ← len_cnt (f := fun i => s 1 i 10) (x := nI (10 + w)) 16 (row w) (hY.2.2.2.len (by omega)).2.1 (fun i => by rw [r4 i, hr])]
          exact r1
        rw [ea]; exact hΨ
      · subst e
        refine ⟨fun k => absurd k (by decide), fun k => absurd k (by decide), fun k => absurd k (by decide), fun k => absurd k (by decide), fun _ => ek_cw _ (go _ (fun Ψ hΨ => ⟨fun _ => ⟨fun _ => ⟨fun _ => ⟨fun _ => ⟨vin (by omega) (by omega), ?_⟩, fun k => absurd k (by decide)⟩, fun k => absurd k (by decide)⟩, fun k => absurd k (by decide)⟩, fun k => absurd k (by decide)⟩)), fun k => absurd k (by decide)⟩
        obtain ⟨r1, r2, r3, r4, r5⟩ := hY.2.2.2.1 (8 + w) (by omega)
        have hr : rc (8 + w) = 20 + w := by unfold rc; rw [if_neg (by omega), if_pos (by omega)]; omega
        have ea : w3 t 20 0 0 0 40 0 (nI (8 + w)).toNatClampNeg = nI (cnt (fun i => s 1 i 10) (nI (20 + w)) 16) := by
          rw [cl (n := 8 + w) (by omega), ← len_cnt (f := fun i => s 1 i 10) (x := nI (20 + w)) 16 (row (8 + w)) (hY.2.2.2.len (by omega)).2.1 (fun i => by rw [r4 i, hr])]
          exact r1
        rw [ea]; exact hΨ
end AB

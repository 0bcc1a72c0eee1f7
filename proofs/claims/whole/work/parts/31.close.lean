theorem em_many {t : KS} {x : Int32} : EI (w_M_many x t) (nI (cnt (t 31 0) x 128)) t := by
  have key : ∃ n, ∀ Φ : Int32 → KS → Prop, Φ (nI (cnt (t 31 0) x 128)) t → w_M_many_4 x Φ n (nI 0) (nI 0) t := by
    refine pk_loop (fun n i (v : Int32) => ∀ Φ : Int32 → KS → Prop, Φ (nI (cnt (t 31 0) x 128)) t → w_M_many_4 x Φ n v (nI i) t) (fun i v => v = nI (cnt (t 31 0) x i)) 128 0 (nI 0) (by omega) rfl ?_ ?_
    · intro n v hv Φ hΦ
      unfold w_M_many_4
      exact ⟨fun _ => by rw [hv]; exact hΦ, fun h => absurd (by decide) h⟩
    · intro n i v hi hv hnext Φ hΦ
      have ci : (nI i).toNatClampNeg = i := cl (by omega)
      unfold w_M_many_4
      rw [ci]
      refine ⟨fun h => absurd h (nI_ge (b := 128) hi (by omega)), fun _ => ⟨vin hi (by omega), fun hx y ey => ?_, fun hx y ey y2 ey2 => ?_⟩⟩
      · rw [ey, nI_1]
        refine hnext v ?_ Φ hΦ
        rw [hv]
        show _ = nI (cnt _ _ i + _)
        rw [if_neg hx]; rfl
      · rw [ey, ey2, nI_1]
        refine hnext _ ?_ Φ hΦ
        rw [hv, nI_1]
        show _ = nI (cnt _ _ i + _)
        rw [if_pos hx]
  obtain ⟨n, h⟩ := key
  exact fun Φ hΦ => ⟨n, h Φ hΦ⟩
theorem em_isPipe {t : KS} {w : Nat} : EI (w_M_isPipe (nI w) t) (if cnt (t 31 0) (nI (10 + w)) 128 = 0 ∧ cnt (t 31 0) (nI (20 + w)) 128 = 0 then 0 else 1) t := by
  intro Φ hΦ
  have b1 := cnt_le (t 31 0) (nI (10 + w)) 128
  have b2 := cnt_le (t 31 0) (nI (20 + w)) 128
  unfold w_M_isPipe
  have e1 : (10 : Int32) + nI w = nI (10 + w) := nI_add 10 w
  have e2 : (20 : Int32) + nI w = nI (20 + w) := nI_add 20 w
  rw [e1, e2]
  refine em_many _ (pk_lt 0 (cnt (t 31 0) (nI (10 + w)) 128) (fun h => ?_) (fun h => ?_))
  · rw [if_neg (by omega)] at hΦ; exact hΦ
  · refine em_many _ (pk_le (cnt (t 31 0) (nI (20 + w)) 128) 0 (fun h => ?_) (fun h => ?_))
    · rw [if_pos (by omega)] at hΦ; exact hΦ
    · rw [if_neg (by omega)] at hΦ; exact hΦ
/-- what closing leaves as it was -/
def FB (s s' t t' : KS) : Prop := (∀ i k, k ≠ 7 → k ≠ 10 → s' 1 i k = s 1 i k) ∧ s' 2 = s 2 ∧ s' 3 = s 3 ∧ (∀ k, k ≠ 5 → s' 0 0 k = s 0 0 k) ∧ s' 50 = s 50 ∧ (∀ i, i < 16 → s' 1 i 7 = s 1 i 7 ∨ (s' 1 i 7 = 1 ∧ (s 1 i 7 = 2 ∨ s 1 i 7 = 3))) ∧ (∀ k, k ≠ 16 → t' 20 0 k = t 20 0 k) ∧ t' 25 = t 25 ∧ t' 29 = t 29 ∧ t' 30 = t 30
theorem FB.trans {s s' s'' t t' t'' : KS} (h : FB s s' t t') (g : FB s' s'' t' t'') : FB s s'' t t'' := by
  obtain ⟨h1, h2, h3, h8, h9, h10, h11, h12, h13, h14⟩ := h
  obtain ⟨g1, g2, g3, g8, g9, g10, g11, g12, g13, g14⟩ := g
  refine ⟨fun i k a b => (g1 i k a b).trans (h1 i k a b), g2.trans h2, g3.trans h3, fun k a => (g8 k a).trans (h8 k a), g9.trans h9, fun i hi => ?_, fun k a => (g11 k a).trans (h11 k a), g12.trans h12, g13.trans h13, g14.trans h14⟩
  rcases g10 i hi with g | ⟨g, e⟩
  · rcases h10 i hi with h | ⟨h, e⟩
    · exact Or.inl (g.trans h)
    · exact Or.inr ⟨g.trans h, e⟩
  · rcases h10 i hi with h | ⟨h, e'⟩
    · rw [h] at e; exact Or.inr ⟨g, e⟩
    · rw [h] at e
      rcases e with e | e <;> exact absurd e (by decide)
theorem Fr.B {s s' t t' : KS} (h : Fr s s' t t') : FB s s' t t' := by
  obtain ⟨h1, h2, h3, h4, h5, h6, h7, h8, h9, h10, h11, h12, h13, h14, h15, h16, h17, h18, h19⟩ := h
  exact ⟨h1, h2, h3, h8, h9, h10, h11, h12, h13, h14⟩
theorem de_P {s t : KS} {p d : Nat} {v : Int32} (hp : p < 16) (hd : d < 8) (hv : dOk v) (h : XP s t) : XP (w3 s 4 p d v) (w3 t 31 0 (8 * p + d) v) := by
  obtain ⟨h1, h2, h3, h4, h5, h6⟩ := h
  refine ⟨h1, h2, h3, h4, fun i hi e he => ?_, h6⟩
  have := h5 i hi e he
  by_cases c : i = p ∧ e = d
  · obtain ⟨rfl, rfl⟩ := c
    simpa [w3_eq] using hv
  · have c2 : ¬ 8 * i + e = 8 * p + d := fun g => c (by omega)
    have e1 : w3 t 31 0 (8 * p + d) v 31 0 (8 * i + e) = t 31 0 (8 * i + e) := by rw [w3_eq, if_neg (by omega)]
    have e2 : w3 s 4 p d v 4 i e = s 4 i e := by rw [w3_eq, if_neg (fun g => c g.2)]
    rw [e1, e2]
    exact this
theorem de_cnt {f : Nat → Int32} {k n y : Nat} (hk : k < 128) (hf : f k = nI n) (hn : n < 100) (hy : 1 ≤ y) (hy2 : y < 100) : cnt (upd f k 0) (nI y) 128 + (if n = y then 1 else 0) = cnt f (nI y) 128 := by
  have h := cnt_upd (f := f) (x := nI y) (v := 0) (k := k) hk
  rw [hf, if_neg (c := (0 : Int32) = nI y) (nI_ne (a := 0) (by omega) (by omega) (by omega))] at h
  by_cases e : n = y
  · subst e; rw [if_pos rfl] at h ⊢; omega
  · rw [if_neg (nI_ne (by omega) (by omega) e)] at h
    rw [if_neg e]; omega
theorem cl_low {cp T p d n : Nat} {s t : KS} {q : List Nat} {row : Nat → List Nat} (h : XY s t q row) (hH : XH cp T s t) (hF : XF s t) (hp : p < 16) (hd : d < 8) (hx : s 4 p d = nI n) (hn : n < 10) : (∀ Φ : KS → Prop, Φ (w3 s 4 p d 0) → w_K_closeDescriptor cp p (nI d) s (fun r s1 => w_K_wakeAll cp r s1 Φ)) ∧ EK (w_M_shutEnd (nI p) (nI d) t) (w3 t 31 0 (8 * p + d) 0) ∧ XY (w3 s 4 p d 0) (w3 t 31 0 (8 * p + d) 0) q row ∧ XH cp T (w3 s 4 p d 0) (w3 t 31 0 (8 * p + d) 0) ∧ XF (w3 s 4 p d 0) (w3 t 31 0 (8 * p + d) 0) := by
  have hY : XY (w3 s 4 p d 0) (w3 t 31 0 (8 * p + d) 0) q row := ⟨de_P hp hd ⟨0, rfl, Or.inl rfl⟩ h.1, h.2.1, h.2.2.1, h.2.2.2⟩
  have ht : t 31 0 (8 * p + d) = nI n := by rw [(h.1.2.2.2.2.1 p hp d hd).1, hx]
  have hc : ∀ y, 10 ≤ y → y < 28 → cnt (upd (t 31 0) (8 * p + d) 0) (nI y) 128 = cnt (t 31 0) (nI y) 128 := by
    intro y h1 h2
    have := de_cnt (f := t 31 0) (k := 8 * p + d) (n := n) (y := y) (by omega) ht (by omega) (by omega) (by omega)
    rw [if_neg (by omega)] at this
    omega
  have cd : (nI d).toNatClampNeg = d := cl (by omega)
  have hno : ¬ (10 : Int32) ≤ nI n := nI_ge (b := 10) hn (by omega)
  refine ⟨fun Φ hΦ => ?_, fun Φ hΦ => ?_, hY, ⟨fun y h1 h2 => ?_, hH.2.1, hH.2.2.1, hH.2.2.2.1, hH.2.2.2.2⟩, fun w hw h1 h2 => ?_⟩
  · unfold w_K_closeDescriptor
    rw [cd]
    refine ⟨vin hd (by omega), fun y1 ey => ⟨vin hd (by omega), fun s2 e2 => ⟨fun h => ?_, fun _ => ?_⟩⟩⟩
    · rw [ey, hx] at h; exact absurd h hno
    · rw [e2]; exact wk_none hY Φ hΦ
  · unfold w_M_shutEnd
    have e1 : (8 : Int32) * nI p + nI d = nI (8 * p + d) := ix 8 p d
    rw [e1, cl (by omega)]
    refine ⟨vin (by omega) (by omega), fun y1 ey => ⟨vin (by omega) (by omega), fun s2 e2 => ⟨fun h => ?_, fun _ => ?_⟩⟩⟩
    · rw [ey, ht] at h; exact absurd h hno
    · rw [e2]; exact hΦ
  · show s 7 0 y = nI (cnt (upd (t 31 0) (8 * p + d) 0) (nI y) 128)
    rw [hc y h1 h2]; exact hH.1 y h1 h2
  · have h1 : cnt (upd (t 31 0) (8 * p + d) 0) (nI (10 + w)) 128 = 0 := h1
    have h2 : cnt (upd (t 31 0) (8 * p + d) 0) (nI (20 + w)) 128 = 0 := h2
    rw [hc _ (by omega) (by omega)] at h1 h2
    exact hF w hw h1 h2
theorem cl_high {cp T p d n o w ro : Nat} {s t : KS} {q : List Nat} {row : Nat → List Nat} (h : XY s t q row) (hH : XH cp T s t) (hF : XF s t) (hp : p < 16) (hd : d < 8) (hx : s 4 p d = nI n) (hw : w < 8) (hn : (n = 10 + w ∧ o = 20 + w ∧ ro = 8 + w) ∨ (n = 20 + w ∧ o = 10 + w ∧ ro = w)) : ∃ s' t' L row', (∀ Φ : KS → Prop, Φ s' → w_K_closeDescriptor cp p (nI d) s (fun r s1 => w_K_wakeAll cp r s1 Φ)) ∧ EK (w_M_shutEnd (nI p) (nI d) t) t' ∧ XY s' t' (q ++ L) row' ∧ XH cp T s' t' ∧ XF s' t' ∧ FB s s' t t' ∧ (∀ i e, s' 4 i e = if i = p ∧ e = d then 0 else s 4 i e) := by
  have hn28 : 10 ≤ n ∧ n < 28 := by omega
  have ho28 : 10 ≤ o ∧ o < 28 ∧ o ≠ n := by omega
  have hro : ro < 17 := by omega
  have hrc : rc ro = o := by
    unfold rc
    rcases hn with ⟨-, a, b⟩ | ⟨-, a, b⟩
    · rw [if_neg (by omega), if_pos (by omega)]; omega
    · rw [if_pos (by omega)]; omega
  have ht : t 31 0 (8 * p + d) = nI n := by rw [(h.1.2.2.2.2.1 p hp d hd).1, hx]
  have hcn : ∀ y, 10 ≤ y → y < 28 → cnt (upd (t 31 0) (8 * p + d) 0) (nI y) 128 + (if n = y then 1 else 0) = cnt (t 31 0) (nI y) 128 := fun y h1 h2 => de_cnt (by omega) ht (by omega) (by omega) (by omega)
  obtain ⟨c2, hc2⟩ : ∃ c2, cnt (upd (t 31 0) (8 * p + d) 0) (nI n) 128 = c2 := ⟨_, rfl⟩
  have hcc : cnt (t 31 0) (nI n) 128 = c2 + 1 := by have := hcn n hn28.1 hn28.2; rw [if_pos rfl] at this; omega
  have hc2b : c2 ≤ 128 := by rw [← hc2]; exact cnt_le _ _ _
  have hcy : ∀ y, 10 ≤ y → y < 28 → y ≠ n → cnt (upd (t 31 0) (8 * p + d) 0) (nI y) 128 = cnt (t 31 0) (nI y) 128 := fun y h1 h2 h3 => by
    have := hcn y h1 h2; rw [if_neg (fun e => h3 e.symm)] at this; omega
  obtain ⟨co, hco⟩ : ∃ co, cnt (upd (t 31 0) (8 * p + d) 0) (nI o) 128 = co := ⟨_, rfl⟩
  have hcob : co ≤ 128 := by rw [← hco]; exact cnt_le _ _ _
  have cd : (nI d).toNatClampNeg = d := cl (by omega)
  have cn : (nI n).toNatClampNeg = n := cl (by omega)
  have h10 : (10 : Int32) ≤ nI n := nI_le (a := 10) hn28.1 (by omega)
  have em1 : (8 : Int32) * nI p + nI d = nI (8 * p + d) := ix 8 p d
  have ck : (nI (8 * p + d)).toNatClampNeg = 8 * p + d := cl (by omega)
  -- the states
  have hY3 : XY (w3 (w3 s 4 p d 0) 7 0 n (nI c2)) (w3 t 31 0 (8 * p + d) 0) q row := ⟨de_P hp hd ⟨0, rfl, Or.inl rfl⟩ h.1, h.2.1, h.2.2.1, h.2.2.2⟩
  have hE3 : XE (w3 (w3 s 4 p d 0) 7 0 n (nI c2)) (w3 t 31 0 (8 * p + d) 0) := by
    intro y h1 h2
    show upd (s 7 0) n (nI c2) y = nI (cnt (upd (t 31 0) (8 * p + d) 0) (nI y) 128)
    rw [upd_e]
    by_cases e : y = n
    · rw [if_pos e, e, hc2]
    · rw [if_neg e, hcy y h1 h2 e]; exact hH.1 y h1 h2
  have hH3 : XH cp T (w3 (w3 s 4 p d 0) 7 0 n (nI c2)) (w3 t 31 0 (8 * p + d) 0) := ⟨hE3, hH.2.1, hH.2.2.1, hH.2.2.2.1, hH.2.2.2.2⟩
  have hFB3 : FB s (w3 (w3 s 4 p d 0) 7 0 n (nI c2)) t (w3 t 31 0 (8 * p + d) 0) := ⟨fun _ _ _ _ => rfl, rfl, rfl, fun _ _ => rfl, rfl, fun _ _ => Or.inl rfl, fun _ _ => rfl, rfl, rfl, rfl⟩
  have h43 : ∀ i e, w3 (w3 s 4 p d 0) 7 0 n (nI c2) 4 i e = if i = p ∧ e = d then 0 else s 4 i e := by
    intro i e
    show w3 s 4 p d 0 4 i e = _
    rw [w3_eq]
    simp
  have hs37 : w3 (w3 s 4 p d 0) 7 0 n (nI c2) 7 0 n = nI c2 := by
    show upd (s 7 0) n (nI c2) n = _
    rw [upd_e, if_pos rfl]
  have hs7o : w3 (w3 s 4 p d 0) 7 0 n (nI c2) 7 0 o = nI co := by rw [← hco]; exact hE3 o ho28.1 ho28.2.1
  -- the class up to the question
  have hK : ∀ Ψ : Int32 → KS → Prop, ((nI c2 ≤ 0 → ((¬ nI co = 0 → Ψ (nI o) (w3 (w3 s 4 p d 0) 7 0 n (nI c2))) ∧ (nI co = 0 → Ψ (nI o) (w3 (w3 (w3 s 4 p d 0) 7 0 n (nI c2)) 5 w 2 0)))) ∧ (¬ nI c2 ≤ 0 → Ψ 0 (w3 (w3 s 4 p d 0) 7 0 n (nI c2)))) → w_K_closeDescriptor cp p (nI d) s Ψ := by
    intro Ψ hΨ
    unfold w_K_closeDescriptor
    rw [cd]
    refine ⟨vin hd (by omega), fun y1 ey => ⟨vin hd (by omega), fun s2 e2 => ⟨fun _ => ?_, fun h => absurd (by rw [ey, hx]; exact h10) h⟩⟩⟩
    rw [ey, hx, cn]
    have e7 : s2 7 0 n - 1 = nI c2 := by
      rw [e2]
      show s 7 0 n - 1 = _
      rw [hH.1 n hn28.1 hn28.2, hcc, nI_pred]
    refine ⟨vin hn28.2 (by omega), vin hn28.2 (by omega), fun s3 e3 => ⟨vin hn28.2 (by omega), ?_⟩⟩
    have e3 : s3 = w3 (w3 s 4 p d 0) 7 0 n (nI c2) := by rw [e3, e7, e2]
    rw [e3, hs37]
    refine ⟨fun hle => ?_, fun hgt => hΨ.2 hgt⟩
    have hΨ1 := hΨ.1 hle
    unfold w_K_otherEnd
    have fin : ∀ r5 : Int32, r5 = nI o → (vp_in r5 28 ∧ ((¬ (w3 (w3 s 4 p d 0) 7 0 n (nI c2) 7 0 r5.toNatClampNeg) = 0 → Ψ r5 (w3 (w3 s 4 p d 0) 7 0 n (nI c2))) ∧ ((w3 (w3 s 4 p d 0) 7 0 n (nI c2) 7 0 r5.toNatClampNeg) = 0 → (((20 : Int32) ≤ nI n → w_K_closeDescriptor_80 cp p (nI d) Ψ r5 (nI n - (20 : Int32)) (w3 (w3 s 4 p d 0) 7 0 n (nI c2))) ∧ (¬ (20 : Int32) ≤ nI n → w_K_closeDescriptor_80 cp p (nI d) Ψ r5 (nI n - (10 : Int32)) (w3 (w3 s 4 p d 0) 7 0 n (nI c2))))))) := by
      intro r5 e5
      rw [e5, cl (by omega), hs7o]
      refine ⟨vin ho28.2.1 (by omega), hΨ1.1, fun h0 => ⟨fun h20 => ?_, fun h20 => ?_⟩⟩
      · have h20n : 20 ≤ n := by
          apply Nat.le_of_not_lt
          intro hlt
          exact nI_ge (b := 20) hlt (by omega) h20
        have ew : nI n - (20 : Int32) = nI w := by
          have : nI n - nI 20 = nI (n - 20) := pk_sub h20n
          rw [show n - 20 = w by omega] at this
          exact this
        unfold w_K_closeDescriptor_80
        rw [ew, cl (by omega)]
        refine ⟨vin hw (by omega), ?_⟩
        unfold w_W_clear
        intro s9 e9
        rw [e9]
        exact hΨ1.2 h0
      · have h20n : n < 20 := by
          apply Nat.lt_of_not_le
          intro hlt
          exact h20 (nI_le (a := 20) hlt (by omega))
        have ew : nI n - (10 : Int32) = nI w := by
          have : nI n - nI 10 = nI (n - 10) := pk_sub (by omega)
          rw [show n - 10 = w by omega] at this
          exact this
        unfold w_K_closeDescriptor_80
        rw [ew, cl (by omega)]
        refine ⟨vin hw (by omega), ?_⟩
        unfold w_W_clear
        intro s9 e9
        rw [e9]
        exact hΨ1.2 h0
    refine ⟨fun h20 => fin _ ?_, fun h20 => fin _ ?_⟩
    · have h20n : 20 ≤ n := by
        apply Nat.le_of_not_lt
        intro hlt
        exact nI_ge (b := 20) hlt (by omega) h20
      have h1 : nI n - nI 20 = nI (n - 20) := pk_sub h20n
      have h2 : nI (n - 20) + nI 10 = nI (n - 20 + 10) := nI_add _ _
      show nI n - nI 20 + nI 10 = nI o
      rw [h1, h2]
      congr 1
      omega
    · have h20n : n < 20 := by
        apply Nat.lt_of_not_le
        intro hlt
        exact h20 (nI_le (a := 20) hlt (by omega))
      have h1 : nI n - nI 10 = nI (n - 10) := pk_sub (by omega)
      have h2 : nI (n - 10) + nI 20 = nI (n - 10 + 20) := nI_add _ _
      show nI n - nI 10 + nI 20 = nI o
      rw [h1, h2]
      congr 1
      omega
  -- the reference up to the question
  have hM : ∀ Ψ : KS → Prop, ((¬ nI c2 = 0 → w_M_shutEnd_65 (nI p) (nI d) Ψ (nI w) (w3 t 31 0 (8 * p + d) 0)) ∧ (nI c2 = 0 → w_M_shutEnd_62 (nI p) (nI d) Ψ (nI w) (nI ro) (w3 t 31 0 (8 * p + d) 0))) → w_M_shutEnd (nI p) (nI d) t Ψ := by
    intro Ψ hΨ
    unfold w_M_shutEnd
    rw [em1, ck, ht]
    refine ⟨vin (by omega) (by omega), fun y1 ey => ⟨vin (by omega) (by omega), fun s2 e2 => ⟨fun _ => ⟨by decide, fun y3 ey3 => ?_⟩, fun h => absurd (by rw [ey]; exact h10) h⟩⟩⟩
    have e3 : y3 = nI w := by
      have h1 : nI n - nI n / nI 10 * nI 10 = nI (n % 10) := pk_rem (by omega) (by omega) (by omega)
      rw [ey3, ey]
      show nI n - nI n / nI 10 * nI 10 = nI w
      rw [h1]
      congr 1
      omega
    rw [ey, e2, e3]
    refine em_many _ ?_
    show (¬ nI (cnt (upd (t 31 0) (8 * p + d) 0) (nI n) 128) = 0 → _) ∧ (nI (cnt (upd (t 31 0) (8 * p + d) 0) (nI n) 128) = 0 → _)
    rw [hc2]
    refine ⟨hΨ.1, fun h0 => ⟨fun h20 => ?_, fun h20 => ?_⟩⟩
    · have h20n : 20 ≤ n := by
        apply Nat.le_of_not_lt
        intro hlt
        exact nI_ge (b := 20) hlt (by omega) h20
      have : ro = w := by omega
      have h9 := hΨ.2 h0
      rw [this] at h9
      exact h9
    · have h20n : n < 20 := by
        apply Nat.lt_of_not_le
        intro hlt
        exact h20 (nI_le (a := 20) hlt (by omega))
      have e8 : (8 : Int32) + nI w = nI ro := by
        have : nI 8 + nI w = nI (8 + w) := nI_add 8 w
        rw [show 8 + w = ro by omega] at this
        exact this
      rw [e8]
      exact hΨ.2 h0
  have hends : ∀ f : Nat → Int32, f = upd (t 31 0) (8 * p + d) 0 → ((cnt f (nI (10 + w)) 128 = 0 ∧ cnt f (nI (20 + w)) 128 = 0) ↔ (c2 = 0 ∧ co = 0)) := by
    intro f hf
    rw [hf]
    rcases hn with ⟨a, b, -⟩ | ⟨a, b, -⟩
    · rw [← a, ← b, hc2, hco]
    · rw [← a, ← b, hc2, hco]; exact And.comm
  have hF3 : ¬ (c2 = 0 ∧ co = 0) → XF (w3 (w3 s 4 p d 0) 7 0 n (nI c2)) (w3 t 31 0 (8 * p + d) 0) := by
    intro hnz w' hw' h1 h2
    have h1 : cnt (upd (t 31 0) (8 * p + d) 0) (nI (10 + w')) 128 = 0 := h1
    have h2 : cnt (upd (t 31 0) (8 * p + d) 0) (nI (20 + w')) 128 = 0 := h2
    by_cases e : w' = w
    · subst e
      exact absurd ((hends _ rfl).mp ⟨h1, h2⟩) hnz
    · rw [hcy _ (by omega) (by omega) (by omega)] at h1 h2
      exact hF w' hw' h1 h2
  by_cases hz : c2 = 0
  · obtain ⟨s0', hs0'⟩ : ∃ s0' : KS, s0' = if co = 0 then (w3 (w3 (w3 s 4 p d 0) 7 0 n (nI c2)) 5 w 2 0) else (w3 (w3 s 4 p d 0) 7 0 n (nI c2)) := ⟨_, rfl⟩
    by_cases hoz : co = 0
    · have hY4 : XY (w3 (w3 (w3 s 4 p d 0) 7 0 n (nI c2)) 5 w 2 0) (w3 t 31 0 (8 * p + d) 0) q row := hY3
      obtain ⟨s', t1, k1, k2, k3, k4⟩ := wk_all (cp := cp) hY4 hro
      rw [hrc] at k1
      have kB := k4.B
      obtain ⟨f1, f2, f3, f4, f5, f6, f7, f8, f9, f10, f11, f12, f13, f14, f15, f16, f17, f18, f19⟩ := k4
      have ft31 : t1 31 0 = upd (t 31 0) (8 * p + d) 0 := by rw [f15]; rfl
      have g5 : ∀ a b, w3 (w3 (w3 s 4 p d 0) 7 0 n (nI c2)) 5 w 2 0 5 a b = if a = w ∧ b = 2 then 0 else s 5 a b := fun a b => by
        rw [w3_eq]
        simp only [true_and]
        rfl
      refine ⟨s', w3 t1 42 0 w 0, row ro, _, fun Φ hΦ => ?_, fun Φ hΦ => ?_, k3, ?_, ?_, ?_, ?_⟩
      · refine hK _ ⟨fun _ => ⟨fun h => absurd (by rw [hoz]; rfl) h, fun _ => k1 Φ hΦ⟩, fun h => absurd (by rw [hz]; decide) h⟩
      · refine hM _ ⟨fun h => absurd (by rw [hz]; rfl) h, fun _ => ?_⟩
        unfold w_M_shutEnd_62
        refine k2 _ ?_
        unfold w_M_shutEnd_65
        refine em_isPipe _ ?_
        rw [if_pos ((hends _ ft31).mpr ⟨hz, hoz⟩)]
        refine ⟨fun h => absurd rfl h, fun _ => ⟨vin hw (by omega), fun s9 e9 => ?_⟩⟩
        rw [e9, cl (by omega)]
        exact hΦ
      · refine ⟨?_, ?_, ?_, ?_, ?_⟩
        · intro y h1 h2
          show s' 7 0 y = nI (cnt (t1 31 0) (nI y) 128)
          rw [f7, ft31]
          exact hE3 y h1 h2
        · obtain ⟨C1, C2, C3, C4⟩ := hH.2.1
          refine ⟨by show t1 20 0 2 = _; rw [f11 2 (by decide)]; exact C1, C2, C3, fun w' hw' => ?_⟩
          obtain ⟨l, r1, r2⟩ := C4 w' hw'
          by_cases e : w' = w
          · subst e
            obtain ⟨m, m1, m2, m3, m4, m5⟩ := r1
            refine ⟨[], ⟨m, m1, ?_, ?_, by simp, fun k x hk => by simp at hk⟩, ?_, fun k x hk => by simp at hk⟩
            · rw [f5, g5, if_neg (by omega)]; exact m2
            · rw [f5, g5, if_pos ⟨rfl, rfl⟩]; rfl
            · show upd (t1 42 0) w' 0 w' = _
              rw [upd_e, if_pos rfl]; rfl
          · refine ⟨l, ?_, ?_⟩
            · rw [f5, f6, g5, g5, if_neg (fun g => e g.1), if_neg (fun g => e g.1)]
              exact r1
            · show lin (t1 41 0) (16 * w') (upd (t1 42 0) w 0 w') l
              rw [upd_e, if_neg e, f16, f17]
              exact r2
        · have := hH.2.2.1
          unfold XI at this ⊢
          rw [f5, f6, f8 11 (by decide), g5, g5, if_neg (by omega), if_neg (by omega)]
          show ∃ l, ring _ _ _ 100 l ∧ lin (t1 43 0) 0 (t1 20 0 24) l ∧ t1 20 0 25 = _ ∧ _
          rw [f18, f11 24 (by decide), f11 25 (by decide)]
          exact this
        · have := hH.2.2.2.1
          unfold XO at this ⊢
          rw [f5, f6, f8 13 (by decide), g5, g5, if_neg (by omega), if_neg (by omega)]
          show ∃ n0 l, ring _ _ _ 500 l ∧ _ ∧ t1 20 0 27 = nI n0 ∧ _ ∧ _ ∧ ∀ k x, l[k]? = some x → t1 46 0 _ = x
          rw [f19, f11 27 (by decide)]
          exact this
        · have := hH.2.2.2.2
          unfold XS at this ⊢
          rw [f8 0 (by decide), f8 7 (by decide), f8 8 (by decide), f8 9 (by decide)]
          show _ = t1 20 0 1 ∧ _ ∧ _ ∧ t1 20 0 4 = _ ∧ _ ∧ t1 20 0 3 = _ ∧ _
          rw [f11 1 (by decide), f11 3 (by decide), f11 4 (by decide)]
          exact this
      · intro w' hw' h1 h2
        have h1 : cnt (t1 31 0) (nI (10 + w')) 128 = 0 := h1
        have h2 : cnt (t1 31 0) (nI (20 + w')) 128 = 0 := h2
        rw [ft31] at h1 h2
        rw [f5, g5]
        by_cases e : w' = w
        · rw [if_pos ⟨e, rfl⟩]
        · rw [hcy _ (by omega) (by omega) (by omega)] at h1 h2
          rw [if_neg (fun g => e g.1)]
          exact hF w' hw' h1 h2
      · exact FB.trans (s' := (w3 (w3 (w3 s 4 p d 0) 7 0 n (nI c2)) 5 w 2 0)) (t' := w3 t 31 0 (8 * p + d) 0) hFB3 kB
      · intro i e
        rw [f4]
        exact h43 i e
    · obtain ⟨s', t1, k1, k2, k3, k4⟩ := wk_all (cp := cp) hY3 hro
      rw [hrc] at k1
      have ft31 : t1 31 0 = upd (t 31 0) (8 * p + d) 0 := by rw [k4.2.2.2.2.2.2.2.2.2.2.2.2.2.2.1]; rfl
      refine ⟨s', t1, row ro, _, fun Φ hΦ => ?_, fun Φ hΦ => ?_, k3, k4.H hH3, k4.F (hF3 (fun g => hoz g.2)), hFB3.trans k4.B, fun i e => ?_⟩
      · refine hK _ ⟨fun _ => ⟨fun _ => k1 Φ hΦ, fun h => absurd h (nI_ne (b := 0) (by omega) (by omega) hoz)⟩, fun h => absurd (by rw [hz]; decide) h⟩
      · refine hM _ ⟨fun h => absurd (by rw [hz]; rfl) h, fun _ => ?_⟩
        unfold w_M_shutEnd_62
        refine k2 _ ?_
        unfold w_M_shutEnd_65
        refine em_isPipe _ ?_
        rw [if_neg (fun g => hoz ((hends _ ft31).mp g).2)]
        exact ⟨fun _ => hΦ, fun h => absurd h (by decide)⟩
      · rw [k4.2.2.2.1]
        exact h43 i e
  · refine ⟨_, _, [], row, fun Φ hΦ => ?_, fun Φ hΦ => ?_, by rw [List.append_nil]; exact hY3, hH3, hF3 (fun g => hz g.1), hFB3, h43⟩
    · exact hK _ ⟨fun h => absurd h (nI_nle (by omega) (by omega)), fun _ => wk_none hY3 Φ hΦ⟩
    · refine hM _ ⟨fun _ => ?_, fun h => absurd h (nI_ne (b := 0) (by omega) (by omega) hz)⟩
      unfold w_M_shutEnd_65
      refine em_isPipe _ ?_
      rw [if_neg (fun g => hz ((hends (w3 t 31 0 (8 * p + d) 0 31 0) rfl).mp g).1)]
      exact ⟨fun _ => hΦ, fun h => absurd h (by decide)⟩
theorem cl_pair {cp T p d : Nat} {s t : KS} {q : List Nat} {row : Nat → List Nat} (h : XY s t q row) (hH : XH cp T s t) (hF : XF s t) (hp : p < 16) (hd : d < 8) : ∃ s' t' L row', (∀ Φ : KS → Prop, Φ s' → w_K_closeDescriptor cp p (nI d) s (fun r s1 => w_K_wakeAll cp r s1 Φ)) ∧ EK (w_M_shutEnd (nI p) (nI d) t) t' ∧ XY s' t' (q ++ L) row' ∧ XH cp T s' t' ∧ XF s' t' ∧ FB s s' t t' ∧ (∀ i e, s' 4 i e = if i = p ∧ e = d then 0 else s 4 i e) := by
  obtain ⟨n, hx, hn⟩ := (h.1.2.2.2.2.1 p hp d hd).2
  by_cases h10 : n < 10
  · obtain ⟨k1, k2, k3, k4, k5⟩ := cl_low h hH hF hp hd hx h10
    refine ⟨_, _, [], row, k1, k2, by rw [List.append_nil]; exact k3, k4, k5, ⟨fun _ _ _ _ => rfl, rfl, rfl, fun _ _ => rfl, rfl, fun _ _ => Or.inl rfl, fun _ _ => rfl, rfl, rfl, rfl⟩, fun i e => ?_⟩
    rw [w3_eq]
    simp
  · rcases hn with g | g | g | g | g
    · omega
    · omega
    · omega
    · exact cl_high (n := n) (o := n + 10) (w := n - 10) (ro := 8 + (n - 10)) h hH hF hp hd hx (by omega) (Or.inl ⟨by omega, by omega, rfl⟩)
    · exact cl_high (n := n) (o := n - 10) (w := n - 20) (ro := n - 20) h hH hF hp hd hx (by omega) (Or.inr ⟨by omega, by omega, rfl⟩)

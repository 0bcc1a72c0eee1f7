/-! a process by its own: stack, place, memory; the class and the reference -/
def KV (s : KS) (p : Nat) (L : List Int32) (pl : Int32) (m : Nat → Int32) : Prop := s 1 p 4 = nI L.length ∧ (∀ k v, L[k]? = some v → s 3 p k = v) ∧ s 1 p 5 = pl ∧ ∀ k, k < 128 → s 2 p k = m k
def MV (t : KS) (p : Nat) (L : List Int32) (pl : Int32) (m : Nat → Int32) : Prop := t 29 0 p = nI L.length ∧ (∀ k v, L[k]? = some v → t 28 0 (64 * p + k) = v) ∧ t 30 0 p = pl ∧ ∀ k, k < 128 → t 27 0 (128 * p + k) = m k
/-- nothing but its own place, height, memory and words changed -/
def KF (p : Nat) (s s' : KS) : Prop := (∀ a, a ≠ 1 → a ≠ 2 → a ≠ 3 → s' a = s a) ∧ (∀ i k, ¬ (i = p ∧ (k = 4 ∨ k = 5)) → s' 1 i k = s 1 i k) ∧ (∀ i, i ≠ p → s' 2 i = s 2 i ∧ s' 3 i = s 3 i)
def MF (p : Nat) (t t' : KS) : Prop := (∀ a, a ≠ 27 → a ≠ 28 → a ≠ 29 → a ≠ 30 → t' a = t a) ∧ (∀ k, ¬ (128 * p ≤ k ∧ k < 128 * p + 128) → t' 27 0 k = t 27 0 k) ∧ (∀ k, ¬ (64 * p ≤ k ∧ k < 64 * p + 64) → t' 28 0 k = t 28 0 k) ∧ (∀ i, i ≠ p → t' 29 0 i = t 29 0 i ∧ t' 30 0 i = t 30 0 i)
theorem KF.refl (p : Nat) (s : KS) : KF p s s := ⟨fun _ _ _ _ => rfl, fun _ _ _ => rfl, fun _ _ => ⟨rfl, rfl⟩⟩
theorem KF.trans {p : Nat} {s s' s'' : KS} (h : KF p s s') (g : KF p s' s'') : KF p s s'' := ⟨fun a a1 a2 a3 => (g.1 a a1 a2 a3).trans (h.1 a a1 a2 a3), fun i k c => (g.2.1 i k c).trans (h.2.1 i k c), fun i e => ⟨(g.2.2 i e).1.trans (h.2.2 i e).1, (g.2.2 i e).2.trans (h.2.2 i e).2⟩⟩
theorem MF.refl (p : Nat) (t : KS) : MF p t t := ⟨fun _ _ _ _ _ => rfl, fun _ _ => rfl, fun _ _ => rfl, fun _ _ => ⟨rfl, rfl⟩⟩
theorem MF.trans {p : Nat} {t t' t'' : KS} (h : MF p t t') (g : MF p t' t'') : MF p t t'' := ⟨fun a a1 a2 a3 a4 => (g.1 a a1 a2 a3 a4).trans (h.1 a a1 a2 a3 a4), fun k c => (g.2.1 k c).trans (h.2.1 k c), fun k c => (g.2.2.1 k c).trans (h.2.2.1 k c), fun i e => ⟨(g.2.2.2 i e).1.trans (h.2.2.2 i e).1, (g.2.2.2 i e).2.trans (h.2.2.2 i e).2⟩⟩
theorem snoc_at {L : List Int32} {x v : Int32} {k : Nat} (h : (L ++ [x])[k]? = some v) : (k < L.length ∧ L[k]? = some v) ∨ (k = L.length ∧ v = x) := by
  have hl : k < (L ++ [x]).length := (List.getElem?_eq_some_iff.mp h).1
  rw [List.length_append] at hl
  simp at hl
  by_cases e : k = L.length
  · subst e
    simp at h
    exact Or.inr ⟨rfl, h.symm⟩
  · rw [List.getElem?_append_left (by omega)] at h
    exact Or.inl ⟨by omega, h⟩
theorem snoc_lo {L : List Int32} {x v : Int32} {k : Nat} (h : L[k]? = some v) : (L ++ [x])[k]? = some v := by
  rw [List.getElem?_append_left (List.getElem?_eq_some_iff.mp h).1]
  exact h
theorem ek_push {cp p : Nat} {x pl : Int32} {s : KS} {L : List Int32} {m : Nat → Int32} (h : KV s p L pl m) (hl : L.length < 32) : ∃ s', EK (w_P_push cp p x s) s' ∧ KV s' p (L ++ [x]) pl m ∧ KF p s s' := by
  obtain ⟨h1, h2, h3, h4⟩ := h
  refine ⟨w3 (w3 s 3 p L.length x) 1 p 4 (nI (L.length + 1)), fun Φ hΦ => ?_, ⟨?_, fun k v hk => ?_, ?_, fun k hk => ?_⟩, ⟨fun a a1 a2 a3 => ?_, fun i k c => ?_, fun i e => ⟨rfl, ?_⟩⟩⟩
  · unfold w_P_push
    rw [h1, cl (by omega)]
    refine ⟨vin hl (by omega), fun s1 e1 s2 e2 => ?_⟩
    have e4 : s1 1 p 4 = nI L.length := by rw [e1]; exact h1
    rw [e2, e4, nI_1, e1]
    exact hΦ
  · rw [List.length_append]; simp [w3_eq]
  · rcases snoc_at hk with ⟨g, e⟩ | ⟨g, e⟩
    · have := h2 k v e
      have ne : k ≠ L.length := by omega
      simpa [w3_eq, ne] using this
    · simp [w3_eq, g, e]
  · simpa [w3_eq] using h3
  · exact h4 k hk
  · funext b k
    rw [w3_eq, w3_eq, if_neg (fun g => a1 g.1), if_neg (fun g => a3 g.1)]
  · rw [w3_eq, if_neg (fun g => c ⟨g.2.1, Or.inl g.2.2⟩)]
    rfl
  · funext k
    show w3 s 3 p L.length x 3 i k = _
    rw [w3_eq, if_neg (fun g => e g.2.1)]
theorem ek_pop {cp p : Nat} {x pl : Int32} {s : KS} {L : List Int32} {m : Nat → Int32} (h : KV s p (L ++ [x]) pl m) (hl : L.length < 32) : ∃ s', EI (w_P_pop cp p s) x s' ∧ KV s' p L pl m ∧ KF p s s' := by
  obtain ⟨h1, h2, h3, h4⟩ := h
  have h1' : s 1 p 4 = nI (L.length + 1) := by rw [h1, List.length_append]; rfl
  refine ⟨w3 s 1 p 4 (nI L.length), fun Φ hΦ => ?_, ⟨by simp [w3_eq], fun k v hk => ?_, by simpa [w3_eq] using h3, h4⟩, ⟨fun a a1 a2 a3 => ?_, fun i k c => ?_, fun i e => ⟨rfl, rfl⟩⟩⟩
  · unfold w_P_pop
    rw [h1', nI_pred]
    intro s1 e1
    have e4 : s1 1 p 4 = nI L.length := by rw [e1]; simp [w3_eq]
    have e3 : s1 3 p L.length = x := by
      rw [e1]
      exact h2 L.length x (by simp)
    rw [e4, cl (by omega), e3, e1]
    exact ⟨vin hl (by omega), hΦ⟩
  · exact h2 k v (snoc_lo hk)
  · funext b k
    rw [w3_eq, if_neg (fun g => a1 g.1)]
  · rw [w3_eq, if_neg (fun g => c ⟨g.2.1, Or.inl g.2.2⟩)]
theorem ek_top {cp p : Nat} {x pl : Int32} {s : KS} {L : List Int32} {m : Nat → Int32} (h : KV s p (L ++ [x]) pl m) (hl : L.length < 32) : EI (w_P_top cp p s) x s := by
  obtain ⟨h1, h2, h3, h4⟩ := h
  have h1' : s 1 p 4 = nI (L.length + 1) := by rw [h1, List.length_append]; rfl
  intro Φ hΦ
  unfold w_P_top
  rw [h1', nI_pred, cl (by omega), h2 L.length x (by simp)]
  exact ⟨vin hl (by omega), hΦ⟩
theorem ek_place {p : Nat} {pl v : Int32} {s : KS} {L : List Int32} {m : Nat → Int32} (h : KV s p L pl m) : KV (w3 s 1 p 5 v) p L v m ∧ KF p s (w3 s 1 p 5 v) := by
  obtain ⟨h1, h2, h3, h4⟩ := h
  refine ⟨⟨by simpa [w3_eq] using h1, h2, by simp [w3_eq], h4⟩, ⟨fun a a1 a2 a3 => ?_, fun i k c => ?_, fun i e => ⟨rfl, rfl⟩⟩⟩
  · funext b k
    rw [w3_eq, if_neg (fun g => a1 g.1)]
  · rw [w3_eq, if_neg (fun g => c ⟨g.2.1, Or.inr g.2.2⟩)]
theorem ek_mem {p a : Nat} {pl v : Int32} {s : KS} {L : List Int32} {m : Nat → Int32} (h : KV s p L pl m) : KV (w3 s 2 p a v) p L pl (upd m a v) ∧ KF p s (w3 s 2 p a v) := by
  obtain ⟨h1, h2, h3, h4⟩ := h
  refine ⟨⟨h1, h2, h3, fun k hk => ?_⟩, ⟨fun a a1 a2 a3 => ?_, fun i k c => rfl, fun i e => ⟨?_, rfl⟩⟩⟩
  · rw [w3_eq, upd_e, h4 k hk]
    simp
  · funext b k
    rw [w3_eq, if_neg (fun g => a2 g.1)]
  · funext k
    rw [w3_eq, if_neg (fun g => e g.2.1)]
theorem em_push {p : Nat} {x pl : Int32} {t : KS} {L : List Int32} {m : Nat → Int32} (hp : p < 16) (h : MV t p L pl m) (hl : L.length < 64) : ∃ t', EK (w_M_push (nI p) x t) t' ∧ MV t' p (L ++ [x]) pl m ∧ MF p t t' := by
  obtain ⟨h1, h2, h3, h4⟩ := h
  have e64 : (64 : Int32) * nI p + nI L.length = nI (64 * p + L.length) := ix 64 p L.length
  refine ⟨w3 (w3 t 28 0 (64 * p + L.length) x) 29 0 p (nI (L.length + 1)), fun Φ hΦ => ?_, ⟨?_, fun k v hk => ?_, h3, h4⟩, ⟨fun a a1 a2 a3 a4 => ?_, fun k c => rfl, fun k c => ?_, fun i e => ⟨?_, rfl⟩⟩⟩
  · unfold w_M_push
    rw [cl (n := p) (by omega), h1, e64, cl (n := 64 * p + L.length) (by omega)]
    refine ⟨vin hp (by omega), vin (by omega) (by omega), fun s1 e1 => ⟨vin hp (by omega), vin hp (by omega), fun s2 e2 => ?_⟩⟩
    have e4 : s1 29 0 p = nI L.length := by rw [e1]; exact h1
    rw [e2, e4, nI_1, e1]
    exact hΦ
  · rw [List.length_append]; simp [w3_eq]
  · rcases snoc_at hk with ⟨g, e⟩ | ⟨g, e⟩
    · have := h2 k v e
      have ne : k ≠ L.length := by omega
      simpa [w3_eq, ne] using this
    · simp [w3_eq, g, e]
  · funext b k
    rw [w3_eq, w3_eq, if_neg (fun g => a3 g.1), if_neg (fun g => a2 g.1)]
  · show w3 t 28 0 (64 * p + L.length) x 28 0 k = _
    rw [w3_eq, if_neg (fun g => c (by omega))]
  · rw [w3_eq, if_neg (fun g => e g.2.2)]
    rfl
theorem em_size {p : Nat} {pl : Int32} {t : KS} {L L2 : List Int32} {m : Nat → Int32} (h : MV t p (L ++ L2) pl m) : MV (w3 t 29 0 p (nI L.length)) p L pl m ∧ MF p t (w3 t 29 0 p (nI L.length)) := by
  obtain ⟨h1, h2, h3, h4⟩ := h
  refine ⟨⟨by simp [w3_eq], fun k v hk => ?_, h3, h4⟩, ⟨fun a a1 a2 a3 a4 => ?_, fun k c => rfl, fun k c => rfl, fun i e => ⟨?_, rfl⟩⟩⟩
  · refine h2 k v ?_
    rw [List.getElem?_append_left (List.getElem?_eq_some_iff.mp hk).1]
    exact hk
  · funext b k
    rw [w3_eq, if_neg (fun g => a3 g.1)]
  · rw [w3_eq, if_neg (fun g => e g.2.2)]
theorem em_place {p : Nat} {pl v : Int32} {t : KS} {L : List Int32} {m : Nat → Int32} (h : MV t p L pl m) : MV (w3 t 30 0 p v) p L v m ∧ MF p t (w3 t 30 0 p v) := by
  obtain ⟨h1, h2, h3, h4⟩ := h
  refine ⟨⟨h1, h2, by simp [w3_eq], h4⟩, ⟨fun a a1 a2 a3 a4 => ?_, fun k c => rfl, fun k c => rfl, fun i e => ⟨rfl, ?_⟩⟩⟩
  · funext b k
    rw [w3_eq, if_neg (fun g => a4 g.1)]
  · rw [w3_eq, if_neg (fun g => e g.2.2)]
theorem em_mem {p a : Nat} {pl v : Int32} {t : KS} {L : List Int32} {m : Nat → Int32} (ha : a < 128) (h : MV t p L pl m) : MV (w3 t 27 0 (128 * p + a) v) p L pl (upd m a v) ∧ MF p t (w3 t 27 0 (128 * p + a) v) := by
  obtain ⟨h1, h2, h3, h4⟩ := h
  refine ⟨⟨h1, h2, h3, fun k hk => ?_⟩, ⟨fun a' a1 a2 a3 a4 => ?_, fun k c => ?_, fun k c => rfl, fun i e => ⟨rfl, rfl⟩⟩⟩
  · rw [w3_eq, upd_e, h4 k hk]
    simp
  · funext b k
    rw [w3_eq, if_neg (fun g => a1 g.1)]
  · rw [w3_eq, if_neg (fun g => c (by omega))]
theorem em_top0 {p : Nat} {x pl : Int32} {t : KS} {L : List Int32} {m : Nat → Int32} (hp : p < 16) (h : MV t p (L ++ [x]) pl m) (hl : L.length < 63) : EI (w_M_top (nI p) 0 t) x t := by
  obtain ⟨h1, h2, h3, h4⟩ := h
  have h1' : t 29 0 p = nI (L.length + 1) := by rw [h1, List.length_append]; rfl
  have e1 : (64 : Int32) * nI p + nI (L.length + 1) = nI (64 * p + L.length + 1) := by
    have := ix 64 p (L.length + 1)
    exact this
  have e2 : nI (64 * p + L.length) - 0 = nI (64 * p + L.length) := by
    have := pk_sub (a := 64 * p + L.length) (b := 0) (by omega)
    exact this
  intro Φ hΦ
  unfold w_M_top
  rw [cl (n := p) (by omega), h1', e1, nI_pred, e2, cl (n := 64 * p + L.length) (by omega), h2 L.length x (by simp)]
  exact ⟨vin hp (by omega), vin (by omega) (by omega), hΦ⟩
theorem em_top1 {p : Nat} {x y pl : Int32} {t : KS} {L : List Int32} {m : Nat → Int32} (hp : p < 16) (h : MV t p (L ++ [x] ++ [y]) pl m) (hl : L.length < 62) : EI (w_M_top (nI p) 1 t) x t := by
  obtain ⟨h1, h2, h3, h4⟩ := h
  have h1' : t 29 0 p = nI (L.length + 1 + 1) := by rw [h1, List.length_append, List.length_append]; rfl
  have e1 : (64 : Int32) * nI p + nI (L.length + 1 + 1) = nI (64 * p + L.length + 1 + 1) := by
    have := ix 64 p (L.length + 1 + 1)
    exact this
  intro Φ hΦ
  unfold w_M_top
  rw [cl (n := p) (by omega), h1', e1, nI_pred, nI_pred, cl (n := 64 * p + L.length) (by omega), h2 L.length x (snoc_lo (by simp))]
  exact ⟨vin hp (by omega), vin (by omega) (by omega), hΦ⟩

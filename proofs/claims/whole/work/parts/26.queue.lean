theorem lo2 {A B : Type} (W : Nat → Nat → A → B → Prop) (I : Nat → A → B → Prop) (e i0 : Nat) (a : A) (b : B) (hi : i0 ≤ e) (h0 : I i0 a b) (hx : ∀ n a b, I e a b → W (n + 1) e a b) (hs : ∀ n i a b, i < e → I i a b → (∀ a' b', I (i + 1) a' b' → W n (i + 1) a' b') → W (n + 1) i a b) : ∃ n, W n i0 a b :=
  pk_loop (σ := A × B) (fun n i σ => W n i σ.1 σ.2) (fun i σ => I i σ.1 σ.2) e i0 (a, b) hi h0 (fun n σ h => hx n _ _ h) (fun n i σ hi h hn => hs n i _ _ hi h (fun a' b' h' => hn (a', b') h'))
theorem lo3 {A B C : Type} (W : Nat → Nat → A → B → C → Prop) (I : Nat → A → B → C → Prop) (e i0 : Nat) (a : A) (b : B) (c : C) (hi : i0 ≤ e) (h0 : I i0 a b c) (hx : ∀ n a b c, I e a b c → W (n + 1) e a b c) (hs : ∀ n i a b c, i < e → I i a b c → (∀ a' b' c', I (i + 1) a' b' c' → W n (i + 1) a' b' c') → W (n + 1) i a b c) : ∃ n, W n i0 a b c :=
  pk_loop (σ := A × B × C) (fun n i σ => W n i σ.1 σ.2.1 σ.2.2) (fun i σ => I i σ.1 σ.2.1 σ.2.2) e i0 (a, b, c) hi h0 (fun n σ h => hx n _ _ _ h) (fun n i σ hi h hn => hs n i _ _ _ hi h (fun a' b' c' h' => hn (a', b', c') h'))
theorem upd_upd (f : Nat → Int32) (k : Nat) (v w : Int32) : upd (upd f k v) k w = upd f k w := by
  funext j
  rw [upd_e, upd_e, upd_e]
  by_cases h : j = k
  · rw [if_pos h, if_pos h]
  · rw [if_neg h, if_neg h, if_neg h]
theorem upd_same (f : Nat → Int32) (k : Nat) : upd f k (f k) = f := by
  funext j
  rw [upd_e]
  by_cases h : j = k
  · rw [if_pos h, h]
  · rw [if_neg h]
theorem nI_ne {a b : Nat} (ha : a < 100000) (hb : b < 100000) (h : a ≠ b) : ¬ nI a = nI b := fun e => h ((nI_eq (by omega) (by omega)).mp e)
theorem nI_inj {a b : Nat} (ha : a < 100000) (hb : b < 100000) (h : nI a = nI b) : a = b := (nI_eq (by omega) (by omega)).mp h
def wo (q : List Nat) (p : Nat) : List Nat := q.filter (fun x => decide (x ≠ p))
theorem wo_le (q : List Nat) (p : Nat) : (wo q p).length ≤ q.length := List.length_filter_le _ _
theorem wo_mem {q : List Nat} {p i : Nat} : i ∈ wo q p ↔ i ∈ q ∧ i ≠ p := by unfold wo; rw [List.mem_filter]; simp
theorem wo_not {q : List Nat} {p : Nat} (h : p ∉ q) : wo q p = q := by
  unfold wo
  rw [List.filter_eq_self]
  intro x hx
  simp
  intro e
  exact h (e ▸ hx)
theorem wo_cons {q : List Nat} {p : Nat} (h : p ∉ q) : wo (p :: q) p = q := by
  have := wo_not h
  unfold wo at this ⊢
  simp only [List.filter_cons, ne_eq, not_true_eq_false, decide_false]
  simpa using this
theorem hd_eq {q : List Nat} {p : Nat} (h : q[0]? = some p) : q.head? = some p := by rw [List.head?_eq_getElem?]; exact h
theorem hd_ne {q : List Nat} {p x : Nat} (h : q[0]? = some x) (hn : x ≠ p) : ¬ q.head? = some p := by
  rw [List.head?_eq_getElem?, h]
  intro e
  exact hn (Option.some.inj e)
theorem el {q : List Nat} {i : Nat} (h : i < q.length) : ∃ x, q[i]? = some x ∧ x ∈ q := ⟨q[i], List.getElem?_eq_getElem h, List.getElem_mem h⟩
theorem ek_leaveQueue {cp p : Nat} {s : KS} {q : List Nat} (hn : s 0 0 5 = nI q.length) (ha : AL (s 8 0) 0 q) (hl : q.length ≤ 16) (hp : s 1 p 0 = nI p) (hp9 : p < 16) (hq : ∀ i ∈ q, i < 16) :
    ∃ arr, AL arr 0 (wo q p) ∧ EK (w_K_leaveQueue cp p s) (ur (ur s 8 0 arr) 0 0 (upd (upd (s 0 0) 6 (if q.head? = some p then 0 else s 0 0 6)) 5 (nI (wo q p).length))) := by
  have key : ∃ n, ∃ arr, AL arr 0 (wo q p) ∧ ∀ Φ : KS → Prop, Φ (ur (ur s 8 0 arr) 0 0 (upd (upd (s 0 0) 6 (if q.head? = some p then 0 else s 0 0 6)) 5 (nI (wo q p).length))) → w_K_leaveQueue_4 cp p Φ n (nI 0) (nI 0) s := by
    refine lo2 (fun n i (v : Int32) (s' : KS) => ∃ arr, AL arr 0 (wo q p) ∧ ∀ Φ : KS → Prop, Φ (ur (ur s 8 0 arr) 0 0 (upd (upd (s 0 0) 6 (if q.head? = some p then 0 else s 0 0 6)) 5 (nI (wo q p).length))) → w_K_leaveQueue_4 cp p Φ n v (nI i) s')
      (fun i v s' => ∃ l arr, FI arr 0 q p i l ∧ v = nI l.length ∧ s' = ur (ur s 8 0 arr) 0 0 (upd (s 0 0) 6 (if 0 < i ∧ q.head? = some p then 0 else s 0 0 6)))
      q.length 0 (nI 0) s (Nat.zero_le _) ?_ ?_ ?_
    · refine ⟨[], s 8 0, FI.init ha, rfl, ?_⟩
      show s = _
      rw [if_neg (by omega), upd_same, ur_same, ur_same]
    · rintro n v s' ⟨l, arr, hF, hv, hs⟩
      obtain ⟨h1, h2⟩ := hF.done
      have h1 : l = wo q p := h1
      subst h1
      refine ⟨arr, h2, fun Φ hΦ => ?_⟩
      have e5 : s' 0 0 5 = nI q.length := by rw [hs]; simp [ur_e, upd_e, hn]
      unfold w_K_leaveQueue_4
      refine ⟨fun _ s1 e1 => ?_, fun h => absurd (by rw [e5]; exact nI_le (Nat.le_refl _) (by omega)) h⟩
      have : s1 = (ur (ur s 8 0 arr) 0 0 (upd (upd (s 0 0) 6 (if q.head? = some p then 0 else s 0 0 6)) 5 (nI (wo q p).length))) := by
        rw [e1, hs, w3_ur, ur_ur, ur_e, if_pos ⟨rfl, rfl⟩]
        show ur _ 0 0 (upd _ 5 v) = _
        rw [hv]
        by_cases h0 : 0 < q.length
        · simp only [h0, true_and]
        · have : q = [] := List.eq_nil_of_length_eq_zero (by omega)
          subst this
          simp
      rw [this]
      exact hΦ
    · rintro n i v s' hi ⟨l, arr, hF, hv, hs⟩ hnext
      obtain ⟨x, hx, hxm⟩ := el hi
      have hx9 := hq x hxm
      have hlen := hF.len
      have e5 : s' 0 0 5 = nI q.length := by rw [hs]; simp [ur_e, upd_e, hn]
      have e8 : s' 8 0 i = nI x := by
        rw [hs]
        have := hF.2.2 i x (Nat.le_refl _) hx
        simpa [ur_e] using this
      have e1 : s' 1 p 0 = nI p := by rw [hs]; simp [ur_e, hp]
      have ci : (nI i).toNatClampNeg = i := cl (by omega)
      have cv : v.toNatClampNeg = l.length := by rw [hv]; exact cl (by omega)
      have hno : ¬ s' 0 0 5 ≤ nI i := by rw [e5]; exact nI_ge hi (by omega)
      by_cases hxp : x = p
      · subst hxp
        by_cases hi0 : i = 0
        · subst hi0
          obtain ⟨arr2, h1, h2⟩ := hnext v (w3 s' 0 0 6 0) ⟨l, arr, hF.skip hx, hv, by
            show w3 s' 0 0 6 0 = _
            rw [hs, w3_ur, ur_ur, ur_e, if_pos ⟨rfl, rfl⟩, upd_upd, if_pos ⟨by omega, hd_eq hx⟩]⟩
          refine ⟨arr2, h1, fun Φ hΦ => ?_⟩
          unfold w_K_leaveQueue_4
          refine ⟨fun h => absurd h hno, fun _ => ⟨vin (by omega) (by omega), ⟨fun _ => ⟨fun h => absurd rfl h, fun _ s3 e3 y4 ey => ?_⟩, fun h => absurd ?_ h⟩⟩⟩
          · rw [e3, ey, nI_1]
            exact h2 Φ hΦ
          · show s' 8 0 (nI 0).toNatClampNeg = _
            rw [ci, e8, e1]
        · obtain ⟨arr2, h1, h2⟩ := hnext v s' ⟨l, arr, hF.skip hx, hv, by
            show s' = _
            rw [hs]
            have : (0 < i + 1 ∧ q.head? = some x) ↔ (0 < i ∧ q.head? = some x) := by constructor <;> (rintro ⟨_, h⟩; exact ⟨by omega, h⟩)
            simp only [this]⟩
          refine ⟨arr2, h1, fun Φ hΦ => ?_⟩
          unfold w_K_leaveQueue_4
          refine ⟨fun h => absurd h hno, fun _ => ⟨vin (by omega) (by omega), ⟨fun _ => ⟨fun _ y2 ey => ?_, fun h => absurd h (nI_ne (b := 0) (by omega) (by omega) hi0)⟩, fun h => absurd ?_ h⟩⟩⟩
          · rw [ey, nI_1]
            exact h2 Φ hΦ
          · rw [ci, e8, e1]
      · obtain ⟨arr2, h1, h2⟩ := hnext (nI (l.length + 1)) (w3 s' 8 0 l.length (nI x)) ⟨l ++ [x], upd arr (0 + l.length) (nI x), hF.keep hx hxp, by rw [List.length_append]; rfl, by
          show w3 s' 8 0 l.length (nI x) = _
          have e8a : s' 8 0 = arr := by rw [hs]; simp [ur_e]
          rw [w3_ur, e8a, hs, ur_com _ _ _ (by decide), ur_ur, Nat.zero_add]
          have : (0 < i + 1 ∧ q.head? = some p) ↔ (0 < i ∧ q.head? = some p) := by
            constructor
            · rintro ⟨_, h⟩
              refine ⟨?_, h⟩
              apply Nat.pos_of_ne_zero
              intro h0
              subst h0
              exact hd_ne hx hxp h
            · rintro ⟨_, h⟩
              exact ⟨by omega, h⟩
          simp only [this]⟩
        refine ⟨arr2, h1, fun Φ hΦ => ?_⟩
        unfold w_K_leaveQueue_4
        refine ⟨fun h => absurd h hno, fun _ => ⟨vin (by omega) (by omega), ⟨fun h => absurd ?_ hxp, fun _ => ⟨vin (by omega) (by omega), by rw [hv]; exact vin (by omega) (by omega), fun s5 e5 y6 ey6 y7 ey7 => ?_⟩⟩⟩⟩
        · rw [ci, e8, e1] at h
          exact nI_inj (by omega) (by omega) h
        · rw [e5, ey6, ey7, ci, cv, e8, hv, nI_1, nI_1]
          exact h2 Φ hΦ
  obtain ⟨n, arr, h1, h2⟩ := key
  exact ⟨arr, h1, fun Φ hΦ => ⟨n, h2 Φ hΦ⟩⟩

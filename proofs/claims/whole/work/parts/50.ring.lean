/-! words in turn: in a ring, and in a row -/
theorem mod_wr {N m j : Nat} (hm : m < N) (hj : j ≤ N) : (m + j) % N = if N ≤ m + j then m + j - N else m + j := by
  by_cases c : N ≤ m + j
  · rw [if_pos c, Nat.mod_eq_sub_mod c, Nat.mod_eq_of_lt (by omega)]
  · rw [if_neg c, Nat.mod_eq_of_lt (by omega)]
theorem ek_wrap {cp w N m j : Nat} {s : KS} (ha : aL cp 6 w = N) (hN : N ≤ 500) (hm : m < N) (hj : j ≤ N) : EI (w_W_wrap cp w (nI (m + j)) s) (nI ((m + j) % N)) s := by
  intro Φ hΦ
  unfold w_W_wrap
  rw [ha]
  rw [mod_wr hm hj] at hΦ
  refine pk_le N (m + j) (fun c => ?_) (fun c => ?_)
  · rw [if_pos c] at hΦ
    rw [pk_sub c]
    exact hΦ
  · rw [if_neg (by omega)] at hΦ
    exact hΦ
theorem ring.add {a : Nat → Int32} {f c x : Int32} {N m : Nat} {l : List Int32} (hm : m < N) (hf : f = nI m) (hl : l.length < N) (hN : N ≤ 500) (h : ∀ k x, l[k]? = some x → a ((m + k) % N) = x) : ring (upd a ((m + l.length) % N) x) f (nI (l.length + 1)) N (l ++ [x]) := by
  refine ⟨m, hm, hf, by rw [List.length_append]; rfl, by rw [List.length_append]; simp; omega, fun k v hk => ?_⟩
  rcases snoc_at hk with ⟨g, e⟩ | ⟨g, e⟩
  · rw [upd_e, if_neg ?_]
    · exact h k v e
    · rw [mod_wr hm (by omega), mod_wr hm (by omega)]
      split <;> split <;> omega
  · rw [g, upd_e, if_pos rfl, e]
theorem ring.take {a : Nat → Int32} {x : Int32} {N m : Nat} {l : List Int32} (hm : m < N) (hl : l.length + 1 ≤ N) (hN : N ≤ 500) (h : ∀ k v, (x :: l)[k]? = some v → a ((m + k) % N) = v) : ring a (nI ((m + 1) % N)) (nI l.length) N l := by
  refine ⟨(m + 1) % N, Nat.mod_lt _ (by omega), rfl, rfl, by omega, fun k v hk => ?_⟩
  rw [Nat.mod_add_mod]
  have := h (k + 1) v (by simpa using hk)
  rw [← this]
  congr 2
  omega
theorem ek_add {cp w N : Nat} {x : Int32} {s : KS} {l : List Int32} (ha : aL cp 6 w = N) (hN : N ≤ 500) (h : ring (s 6 w) (s 5 w 1) (s 5 w 2) N l) (hl : l.length < N) : ∃ s', EK (w_W_add cp w x s) s' ∧ (∃ j, s' = w3 (w3 s 6 w j x) 5 w 2 (nI (l.length + 1))) ∧ ring (s' 6 w) (s' 5 w 1) (s' 5 w 2) N (l ++ [x]) := by
  obtain ⟨m, hm, hf, hc, hl2, hget⟩ := h
  refine ⟨w3 (w3 s 6 w ((m + l.length) % N) x) 5 w 2 (nI (l.length + 1)), fun Φ hΦ => ?_, ⟨_, rfl⟩, ?_⟩
  · unfold w_W_add
    rw [hf, hc, nI_add]
    have hlt : (m + l.length) % N < N := Nat.mod_lt _ (by omega)
    refine ek_wrap ha hN hm (by omega) _ ⟨by rw [ha]; exact vin hlt (by omega), fun s3 e3 s4 e4 => ?_⟩
    rw [cl (by omega)] at e3
    have e5 : s3 5 w 2 = nI l.length := by rw [e3]; exact hc
    rw [e5, nI_1] at e4
    rw [e4, e3]
    exact hΦ
  · have r := ring.add (c := s 5 w 2) (x := x) hm hf hl hN hget
    have e1 : w3 (w3 s 6 w ((m + l.length) % N) x) 5 w 2 (nI (l.length + 1)) 6 w = upd (s 6 w) ((m + l.length) % N) x := by
      funext k
      simp [w3_eq, upd_e]
    have e2 : w3 (w3 s 6 w ((m + l.length) % N) x) 5 w 2 (nI (l.length + 1)) 5 w 1 = s 5 w 1 := by simp [w3_eq]
    have e3 : w3 (w3 s 6 w ((m + l.length) % N) x) 5 w 2 (nI (l.length + 1)) 5 w 2 = nI (l.length + 1) := by simp [w3_eq]
    rw [e1, e2, e3]
    exact r
theorem ek_take {cp w N : Nat} {x : Int32} {s : KS} {l : List Int32} (ha : aL cp 6 w = N) (hN : N ≤ 500) (h : ring (s 6 w) (s 5 w 1) (s 5 w 2) N (x :: l)) : ∃ s', EI (w_W_take cp w s) x s' ∧ (∃ j, s' = w3 (w3 s 5 w 1 j) 5 w 2 (nI l.length)) ∧ ring (s' 6 w) (s' 5 w 1) (s' 5 w 2) N l := by
  obtain ⟨m, hm, hf, hc, hl2, hget⟩ := h
  have hl3 : l.length + 1 ≤ N := by simpa using hl2
  have hc2 : s 5 w 2 = nI (l.length + 1) := by rw [hc]; rfl
  refine ⟨w3 (w3 s 5 w 1 (nI ((m + 1) % N))) 5 w 2 (nI l.length), fun Φ hΦ => ?_, ⟨_, rfl⟩, ?_⟩
  · unfold w_W_take
    rw [hf, ha, cl (by omega), nI_1]
    refine ⟨vin hm (by omega), fun y e => ek_wrap ha hN hm (by omega) _ (fun s4 e4 s5 e5 => ?_)⟩
    have ex : s 6 w m = x := by
      have := hget 0 x (by simp)
      rw [Nat.add_zero, Nat.mod_eq_of_lt hm] at this
      exact this
    have e6 : s4 5 w 2 = nI (l.length + 1) := by rw [e4]; simpa [w3_eq] using hc2
    rw [e6, nI_pred] at e5
    rw [e, ex, e5, e4]
    exact hΦ
  · have r := ring.take hm hl3 hN hget
    have e2 : w3 (w3 s 5 w 1 (nI ((m + 1) % N))) 5 w 2 (nI l.length) 5 w 1 = nI ((m + 1) % N) := by simp [w3_eq]
    have e3 : w3 (w3 s 5 w 1 (nI ((m + 1) % N))) 5 w 2 (nI l.length) 5 w 2 = nI l.length := by simp [w3_eq]
    have e1 : w3 (w3 s 5 w 1 (nI ((m + 1) % N))) 5 w 2 (nI l.length) 6 w = s 6 w := by
      funext k
      simp [w3_eq]
    rw [e1, e2, e3]
    exact r
/-- a row moved down by one -/
def SH (f : Nat → Int32) (b i : Nat) (g : Nat → Int32) : Prop := (∀ k, k < i → g (b + k) = f (b + k + 1)) ∧ ∀ j, (j < b ∨ b + i ≤ j) → g j = f j
theorem SH.init (f : Nat → Int32) (b : Nat) : SH f b 0 f := ⟨fun k h => by omega, fun _ _ => rfl⟩
theorem SH.step {f g : Nat → Int32} {b i : Nat} (h : SH f b i g) : SH f b (i + 1) (upd g (b + i) (g (b + i + 1))) := by
  refine ⟨fun k hk => ?_, fun j hj => ?_⟩
  · by_cases e : k = i
    · rw [e, upd_e, if_pos rfl, h.2 _ (by omega)]
    · rw [upd_e, if_neg (by omega), h.1 k (by omega)]
  · rw [upd_e, if_neg (by omega), h.2 j (by omega)]
theorem SH.lin {f g : Nat → Int32} {b : Nat} {x : Int32} {l : List Int32} (h : SH f b l.length g) (hf : ∀ k v, (x :: l)[k]? = some v → f (b + k) = v) : lin g b (nI l.length) l := by
  refine ⟨rfl, fun k v hk => ?_⟩
  rw [h.1 k (List.getElem?_eq_some_iff.mp hk).1]
  have := hf (k + 1) v (by simpa using hk)
  rw [← this]
  rfl
theorem ur_w3 (f : KS) (a b k : Nat) (v : Int32) (g : Nat → Int32) : w3 (ur f a b g) a b k v = ur f a b (upd g k v) := by
  rw [w3_ur, ur_ur, ur_at]
/-- the reference's input moves down -/
theorem em_shift {x1 x2 : Int32} {n : Nat} {t : KS} (hn : t 20 0 24 = nI n) (hn9 : n < 100) : ∃ g, SH (t 43 0) 0 n g ∧ EK (fun Φ => ∃ nn : Nat, w_M_read_49 x1 x2 Φ nn (0 : Int32) t) (ur t 43 0 g) := by
  have key : ∃ nn, ∃ g, SH (t 43 0) 0 n g ∧ ∀ Φ : KS → Prop, Φ (ur t 43 0 g) → w_M_read_49 x1 x2 Φ nn (nI 0) (ur t 43 0 (t 43 0)) := by
    refine pk_loop (fun nn i (g0 : Nat → Int32) => ∃ g, SH (t 43 0) 0 n g ∧ ∀ Φ : KS → Prop, Φ (ur t 43 0 g) → w_M_read_49 x1 x2 Φ nn (nI i) (ur t 43 0 g0)) (fun i g0 => SH (t 43 0) 0 i g0) n 0 (t 43 0) (by omega) (SH.init _ _) ?_ ?_
    · intro nn g0 h
      refine ⟨g0, h, fun Φ hΦ => ?_⟩
      unfold w_M_read_49
      have e : ur t 43 0 g0 20 0 24 = nI n := hn
      rw [e]
      exact ⟨fun _ => hΦ, fun g => absurd (nI_le (Nat.le_refl n) (by omega)) g⟩
    · intro nn i g0 hi h hnext
      obtain ⟨g, k1, k2⟩ := hnext _ h.step
      refine ⟨g, k1, fun Φ hΦ => ?_⟩
      unfold w_M_read_49
      have e : ur t 43 0 g0 20 0 24 = nI n := hn
      rw [e, nI_1, cl (n := i) (by omega), cl (n := i + 1) (by omega)]
      refine ⟨fun g => absurd g (nI_ge hi (by omega)), fun _ => ⟨vin (by omega) (by omega), vin (by omega) (by omega), fun s1 e1 y ey => ?_⟩⟩
      rw [ur_w3] at e1
      rw [ey, e1]
      have e2 : ur t 43 0 g0 43 0 (i + 1) = g0 (0 + i + 1) := by rw [ur_at, Nat.zero_add]
      rw [e2]
      have := k2 Φ hΦ
      rw [Nat.zero_add] at this ⊢
      exact this
  obtain ⟨nn, g, h1, h2⟩ := key
  rw [ur_same] at h2
  exact ⟨g, h1, fun Φ hΦ => ⟨nn, h2 Φ hΦ⟩⟩
/-- the reference takes the first word out of a pipe -/
theorem em_out {w n : Nat} {t : KS} (hw : w < 8) (hn : t 42 0 w = nI (n + 1)) (hn9 : n < 16) : ∃ g, SH (t 41 0) (16 * w) n g ∧ ∀ Φ : Int32 → KS → Prop, w_M_wakeFirst (nI (8 + w)) (w3 (ur t 41 0 g) 42 0 w (nI n)) (fun s1 => Φ (t 41 0 (16 * w)) s1) → w_M_outOfPipe (nI w) t Φ := by
  have e8 : (8 : Int32) + nI w = nI (8 + w) := nI_add 8 w
  have ci : (nI w).toNatClampNeg = w := cl (by omega)
  have key : ∃ nn, ∃ g, SH (t 41 0) (16 * w) n g ∧ ∀ (Φ : Int32 → KS → Prop) (v : Int32), w_M_wakeFirst (nI (8 + w)) (ur (w3 t 42 0 w (nI n)) 41 0 g) (fun s1 => Φ v s1) → w_M_outOfPipe_22 (nI w) Φ nn v (nI 0) (ur (w3 t 42 0 w (nI n)) 41 0 (t 41 0)) := by
    refine pk_loop (fun nn i (g0 : Nat → Int32) => ∃ g, SH (t 41 0) (16 * w) n g ∧ ∀ (Φ : Int32 → KS → Prop) (v : Int32), w_M_wakeFirst (nI (8 + w)) (ur (w3 t 42 0 w (nI n)) 41 0 g) (fun s1 => Φ v s1) → w_M_outOfPipe_22 (nI w) Φ nn v (nI i) (ur (w3 t 42 0 w (nI n)) 41 0 g0)) (fun i g0 => SH (t 41 0) (16 * w) i g0) n 0 (t 41 0) (by omega) (SH.init _ _) ?_ ?_
    · intro nn g0 h
      refine ⟨g0, h, fun Φ v hΦ => ?_⟩
      unfold w_M_outOfPipe_22
      have e : ur (w3 t 42 0 w (nI n)) 41 0 g0 42 0 w = nI n := by rw [ur_e, if_neg (by decide)]; simp [w3_eq]
      rw [ci, e, e8]
      exact ⟨vin hw (by omega), fun _ => hΦ, fun g => absurd (nI_le (Nat.le_refl n) (by omega)) g⟩
    · intro nn i g0 hi h hnext
      obtain ⟨g, k1, k2⟩ := hnext _ h.step
      refine ⟨g, k1, fun Φ v hΦ => ?_⟩
      unfold w_M_outOfPipe_22
      have e : ur (w3 t 42 0 w (nI n)) 41 0 g0 42 0 w = nI n := by rw [ur_e, if_neg (by decide)]; simp [w3_eq]
      have e16 : (16 : Int32) * nI w + nI i = nI (16 * w + i) := ix 16 w i
      rw [ci, e, e16, nI_1, nI_1, cl (n := 16 * w + i) (by omega), cl (n := 16 * w + i + 1) (by omega)]
      refine ⟨vin hw (by omega), fun g => absurd g (nI_ge hi (by omega)), fun _ => ⟨vin (by omega) (by omega), vin (by omega) (by omega), fun s2 e2 y ey => ?_⟩⟩
      rw [ur_w3, ur_at] at e2
      rw [ey, e2]
      exact k2 Φ v hΦ
  obtain ⟨nn, g, h1, h2⟩ := key
  refine ⟨g, h1, fun Φ hΦ => ?_⟩
  unfold w_M_outOfPipe
  have e16 : (16 : Int32) * nI w = nI (16 * w) := pk_mul 16 w
  rw [ci, e16, cl (n := 16 * w) (by omega), hn, nI_pred]
  refine ⟨vin (by omega) (by omega), fun y ey => ⟨vin hw (by omega), vin hw (by omega), fun s2 e2 => ⟨nn, ?_⟩⟩⟩
  have es : ur (w3 t 42 0 w (nI n)) 41 0 (t 41 0) = w3 t 42 0 w (nI n) := by
    have : t 41 0 = w3 t 42 0 w (nI n) 41 0 := by funext k; simp [w3_eq]
    rw [this, ur_same]
  have ec : ur (w3 t 42 0 w (nI n)) 41 0 g = w3 (ur t 41 0 g) 42 0 w (nI n) := by
    rw [w3_ur, w3_ur]
    have : ur t 41 0 g 42 0 = t 42 0 := by rw [ur_e, if_neg (by decide)]
    rw [this]
    exact ur_com t _ _ (by decide)
  rw [es] at h2
  rw [e2, ey]
  refine h2 Φ _ ?_
  rw [ec]
  exact hΦ

/-! what holds between two calls of the law, and the calls that only ask -/
def Un (s t : KS) : Prop := (∀ i, i < 16 → s 1 i 7 = 0) ∧ s 1 0 4 = 0 ∧ s 1 0 5 = 0 ∧ s 1 0 6 = -1 ∧ t 29 0 0 = 0 ∧ t 30 0 0 = 0 ∧ (∀ k, k < 128 → t 25 0 k = s 2 0 k)
def Inv (cp j : Nat) (s t : KS) : Prop := ∃ T, Rl cp T s t ∧ 3 * T ≤ 40 * j ∧ (s 0 0 9 = 0 → Un s t)
theorem le_nlt {b x : Int32} (h : x ≤ b) : ¬ b < x := by
  rw [Int32.le_iff_toInt_le] at h
  rw [Int32.lt_iff_toInt_lt]
  omega
theorem le_nneg {b : Int32} {n : Nat} (hn : n < 2 ^ 31) (h : nI n ≤ b) : ¬ b < 0 := by
  rw [Int32.le_iff_toInt_le, nI_toInt hn] at h
  rw [Int32.lt_iff_toInt_lt]
  have z : (0 : Int32).toInt = 0 := by decide
  omega
theorem th_le (t : KS) : w3 t 20 0 0 0 20 0 0 ≤ 0 := by
  have : w3 t 20 0 0 0 20 0 0 = 0 := by simp [w3_eq]
  rw [this]; decide
theorem th_n (t : KS) {v : Int32} (h : ¬ v ≤ 0) : ¬ w3 t 20 0 0 v 20 0 0 ≤ 0 := by
  have : w3 t 20 0 0 v 20 0 0 = v := by simp [w3_eq]
  rw [this]; exact h
section AS
variable {cp j : Nat} {s t : KS} {b c : Int32}
theorem Inv.ro (h : Inv cp j s t) (r v : Int32) : Inv cp (j + 3) (w3 s 50 0 0 r) (w3 t 20 0 0 v) := by
  obtain ⟨T, h1, h2, h3⟩ := h
  exact ⟨T, h1, by omega, h3⟩
theorem Inv.rk (h : Inv cp j s t) (v : Int32) : Inv cp (j + 3) s (w3 t 20 0 0 v) := by
  obtain ⟨T, h1, h2, h3⟩ := h
  exact ⟨T, h1, by omega, h3⟩
theorem Inv.m (h : Inv cp j s t) (v : Int32) : Inv cp j s (w3 t 20 0 0 v) := by
  obtain ⟨T, h1, h2, h3⟩ := h
  exact ⟨T, h1, by omega, h3⟩
theorem Inv.y (h : Inv cp j s t) : ∃ q row T, XY s t q row ∧ XH cp T s t := by
  obtain ⟨T, ⟨q, row, D, hY, hH, -⟩, -⟩ := h
  exact ⟨q, row, T, hY, hH⟩
theorem em_np1 {i : Nat} (hi : i < 16) : EI (w_M_noProcess (nI i) t) 0 (w3 t 20 0 0 0) := by
  intro Φ hΦ
  unfold w_M_noProcess w_M_noProcess_16
  refine ⟨fun k => absurd k (nI_pos (by omega)), fun _ => ⟨fun _ s1 e1 => ?_, fun k => absurd (nI_lt (b := 16) hi (by omega)) k⟩⟩
  rw [e1]
  exact ⟨fun _ => hΦ, fun k => absurd (th_le _) k⟩
theorem em_np0 (g : b < 0 ∨ (¬ b < 0 ∧ ¬ b < 16)) : EI (w_M_noProcess b t) 1 (w3 t 20 0 0 1) := by
  intro Φ hΦ
  have h11 : w_M_noProcess_11 b Φ t := by
    unfold w_M_noProcess_11 w_M_noProcess_16
    intro s1 e1
    rw [e1]
    exact ⟨fun k => absurd k (th_n _ (by decide)), fun _ => hΦ⟩
  unfold w_M_noProcess
  rcases g with g | ⟨g1, g2⟩
  · exact ⟨fun _ => h11, fun k => absurd g k⟩
  · exact ⟨fun k => absurd k g1, fun _ => ⟨fun k => absurd k g2, fun _ => h11⟩⟩
theorem em_nt1 {i : Nat} (hi : i < 16) (h0 : ¬ t 26 0 i = 0) : EI (w_M_notThere (nI i) t) 0 (w3 t 20 0 0 0) := by
  intro Φ hΦ
  unfold w_M_notThere w_M_notThere_25
  rw [cl (n := i) (by omega)]
  refine ⟨fun k => absurd k (nI_pos (by omega)), fun _ => ⟨fun k => absurd k (nI_ge (b := 16) hi (by omega)), fun _ => ⟨vin hi (by omega), fun _ s1 e1 => ?_, fun k => absurd k h0⟩⟩⟩
  rw [e1]
  exact ⟨fun _ => hΦ, fun k => absurd (th_le _) k⟩
theorem em_nt0 (g : b < 0 ∨ (¬ b < 0 ∧ (16 : Int32) ≤ b) ∨ ∃ i, i < 16 ∧ b = nI i ∧ t 26 0 i = 0) : EI (w_M_notThere b t) 1 (w3 t 20 0 0 1) := by
  intro Φ hΦ
  have h20 : w_M_notThere_20 b Φ t := by
    unfold w_M_notThere_20 w_M_notThere_25
    intro s1 e1
    rw [e1]
    exact ⟨fun k => absurd k (th_n _ (by decide)), fun _ => hΦ⟩
  unfold w_M_notThere
  rcases g with g | ⟨g1, g2⟩ | ⟨i, hi, e, h0⟩
  · exact ⟨fun _ => h20, fun k => absurd g k⟩
  · exact ⟨fun k => absurd k g1, fun _ => ⟨fun _ => h20, fun k => absurd g2 k⟩⟩
  · rw [e, cl (n := i) (by omega)]
    rw [e] at h20
    exact ⟨fun k => absurd k (nI_pos (by omega)), fun _ => ⟨fun k => absurd k (nI_ge (b := 16) hi (by omega)), fun _ => ⟨vin hi (by omega), fun k => absurd h0 k, fun _ => h20⟩⟩⟩
theorem ek_th1 {i : Nat} (hi : i < 16) (h0 : ¬ s 1 i 7 = 0) : EI (w_K_isThere cp (nI i) s) 1 s := by
  intro Φ hΦ
  unfold w_K_isThere
  rw [cl (n := i) (by omega)]
  exact ⟨fun k => absurd k (nI_pos (by omega)), fun _ => ⟨fun k => absurd k (nI_ge (b := 16) hi (by omega)), fun _ => ⟨vin hi (by omega), fun k => absurd k h0, fun _ => hΦ⟩⟩⟩
theorem ek_th0 (g : b < 0 ∨ (¬ b < 0 ∧ (16 : Int32) ≤ b) ∨ ∃ i, i < 16 ∧ b = nI i ∧ s 1 i 7 = 0) : EI (w_K_isThere cp b s) 0 s := by
  intro Φ hΦ
  unfold w_K_isThere
  rcases g with g | ⟨g1, g2⟩ | ⟨i, hi, e, h0⟩
  · exact ⟨fun _ => hΦ, fun k => absurd g k⟩
  · exact ⟨fun k => absurd k g1, fun _ => ⟨fun _ => hΦ, fun k => absurd g2 k⟩⟩
  · rw [e, cl (n := i) (by omega)]
    exact ⟨fun k => absurd k (nI_pos (by omega)), fun _ => ⟨fun k => absurd k (nI_ge (b := 16) hi (by omega)), fun _ => ⟨vin hi (by omega), fun _ => hΦ, fun k => absurd h0 k⟩⟩⟩
theorem there_or (h : Inv cp j s t) : (∃ i, i < 16 ∧ b = nI i ∧ ¬ s 1 i 7 = 0 ∧ ¬ t 26 0 i = 0) ∨ ((b < 0 ∨ (¬ b < 0 ∧ (16 : Int32) ≤ b) ∨ ∃ i, i < 16 ∧ b = nI i ∧ s 1 i 7 = 0) ∧ (b < 0 ∨ (¬ b < 0 ∧ (16 : Int32) ≤ b) ∨ ∃ i, i < 16 ∧ b = nI i ∧ t 26 0 i = 0)) := by
  obtain ⟨q, row, T, hY, hH⟩ := h.y
  rcases pk_ix b (n := 16) (by omega) with g | g | ⟨i, hi, e⟩
  · exact Or.inr ⟨Or.inl g, Or.inl g⟩
  · exact Or.inr ⟨Or.inr (Or.inl ⟨le_nneg (by omega) g, g⟩), Or.inr (Or.inl ⟨le_nneg (by omega) g, g⟩)⟩
  · by_cases c : s 1 i 7 = 0
    · exact Or.inr ⟨Or.inr (Or.inr ⟨i, hi, e, c⟩), Or.inr (Or.inr ⟨i, hi, e, by rw [hY.1.2.1 i hi]; exact c⟩)⟩
    · exact Or.inl ⟨i, hi, e, c, by rw [hY.1.2.1 i hi]; exact c⟩
theorem k_time (h : Inv cp j s t) : w_K_time cp s (fun r s1 => w_M_time t (fun r2 t1 => r = r2 ∧ Inv cp (j + 3) s1 t1)) := by
  obtain ⟨q, row, T, hY, hH⟩ := h.y
  intro s1 e1
  rw [e1]
  refine ⟨?_, h.rk 0⟩
  show s 0 0 7 = t 20 0 4
  rw [hH.2.2.2.2.2.2.1, hH.2.2.2.2.2.2.2.1]
theorem k_outs (h : Inv cp j s t) : w_K_outs cp s (fun r s1 => w_M_outs t (fun r2 t1 => r = r2 ∧ Inv cp (j + 3) s1 t1)) := by
  obtain ⟨q, row, T, hY, hH⟩ := h.y
  obtain ⟨n, l, -, o1, o2, -⟩ := hH.2.2.2.1
  intro s1 e1
  rw [e1]
  refine ⟨?_, h.rk 0⟩
  show s 0 0 13 = t 20 0 27
  rw [o1, o2]
theorem k_state (h : Inv cp j s t) : w_L_state cp b s (fun k s1 => w_M_state b t (fun r t1 => w_M_thrown t1 (fun th t2 => th = k ∧ (k = 0 → s1 50 0 0 = r) ∧ Inv cp (j + 3) s1 t2))) := by
  obtain ⟨q, row, T, hY, hH⟩ := h.y
  have bad : (b < 0 ∨ (¬ b < 0 ∧ ¬ b < 16)) → w_M_state b t (fun r t1 => w_M_thrown t1 (fun th t2 => th = 1 ∧ ((1 : Int32) = 0 → s 50 0 0 = r) ∧ Inv cp (j + 3) s t2)) := fun g => em_np0 g _ ⟨fun k => absurd k (by decide), fun _ => ⟨rfl, fun k => absurd k (by decide), h.rk 1⟩⟩
  unfold w_L_state w_K_state
  rcases pk_ix b (n := 16) (by omega) with g | g | ⟨i, hi, e⟩
  · exact ⟨fun _ => ⟨fun _ => bad (Or.inl g), fun k => absurd k (by decide), fun k => absurd k (by decide)⟩, fun k => absurd g k⟩
  · have g0 := le_nneg (by omega) g
    exact ⟨fun k => absurd k g0, fun _ => ⟨fun k => absurd k (le_nlt g), fun _ => ⟨fun _ => bad (Or.inr ⟨g0, le_nlt g⟩), fun k => absurd k (by decide), fun k => absurd k (by decide)⟩⟩⟩
  · subst e
    refine ⟨fun k => absurd k (nI_pos (by omega)), fun _ => ⟨fun _ => ⟨vin hi (by omega), fun s2 e2 => ?_⟩, fun k => absurd (nI_lt (b := 16) hi (by omega)) k⟩⟩
    rw [cl (n := i) (by omega)] at e2
    refine em_np1 hi _ ⟨fun _ => ⟨vin hi (by omega), rfl, fun _ => ?_, by rw [e2]; exact h.ro _ _⟩, fun k => absurd rfl k⟩
    rw [e2, cl (n := i) (by omega)]
    exact (hY.1.2.1 i hi).symm
theorem k_memory (h : Inv cp j s t) : w_L_memory cp b c s (fun k s1 => w_M_memory b c t (fun r t1 => w_M_thrown t1 (fun th t2 => th = k ∧ (k = 0 → s1 50 0 0 = r) ∧ Inv cp (j + 3) s1 t2))) := by
  obtain ⟨q, row, T, hY, hH⟩ := h.y
  unfold w_L_memory w_K_memory
  rcases there_or (b := b) h with ⟨i, hi, e, h0, h0'⟩ | ⟨gk, gm⟩
  · subst e
    have bad : ¬ inM c → w_M_memory (nI i) c t (fun r t1 => w_M_thrown t1 (fun th t2 => th = 1 ∧ ((1 : Int32) = 0 → s 50 0 0 = r) ∧ Inv cp (j + 3) s t2)) := fun g => em_nt1 hi h0' _ ⟨fun _ => em_in0 g _ ⟨fun _ s1 e1 => by
      rw [e1]
      exact ⟨fun k => absurd k (th_n _ (by decide)), fun _ => ⟨rfl, fun k => absurd k (by decide), (h.m 0).rk 1⟩⟩, fun k => absurd rfl k⟩, fun k => absurd rfl k⟩
    refine ek_th1 hi h0 _ ⟨fun k => absurd k (by decide), fun _ => ?_⟩
    rcases pk_ix c (n := 128) (by omega) with g | g | ⟨a, ha, e⟩
    · exact ⟨fun _ => ⟨fun _ => bad (fun ⟨a, ha, e⟩ => by rw [e] at g; exact nI_pos (by omega) g), fun k => absurd k (by decide), fun k => absurd k (by decide)⟩, fun k => absurd g k⟩
    · exact ⟨fun k => absurd k (le_nneg (by omega) g), fun _ => ⟨fun k => absurd k (le_nlt g), fun _ => ⟨fun _ => bad (fun ⟨a, ha, e⟩ => by rw [e] at g; exact nI_ge ha (by omega) g), fun k => absurd k (by decide), fun k => absurd k (by decide)⟩⟩⟩
    · subst e
      refine ⟨fun k => absurd k (nI_pos (by omega)), fun _ => ⟨fun _ => ⟨vin hi (by omega), vin ha (by omega), fun s2 e2 => ?_⟩, fun k => absurd (nI_lt (b := 128) ha (by omega)) k⟩⟩
      rw [cl (n := i) (by omega), cl (n := a) (by omega)] at e2
      have e1 : (128 : Int32) * nI i + nI a = nI (128 * i + a) := ix 128 i a
      refine em_nt1 hi h0' _ ⟨fun _ => em_in1 ⟨a, ha, rfl⟩ _ ⟨fun k => absurd k (by decide), fun _ s3 e3 => ?_⟩, fun k => absurd rfl k⟩
      rw [e3, e1, cl (n := 128 * i + a) (by omega)]
      refine ⟨fun _ => ⟨vin (by omega) (by omega), rfl, fun _ => ?_, by rw [e2]; exact (h.m 0).ro _ _⟩, fun k => absurd (th_le _) k⟩
      obtain ⟨n, b0, b1, b2, b3, b4, b5, b6⟩ := hY.1.2.2.2.2.2 i hi h0
      rw [e2]
      exact (b5 a ha).symm
  · refine ek_th0 gk _ ⟨fun _ => ⟨fun _ => em_nt0 gm _ ⟨fun k => absurd k (by decide), fun _ => ⟨rfl, fun k => absurd k (by decide), h.rk 1⟩⟩, fun k => absurd k (by decide), fun k => absurd k (by decide)⟩, fun k => absurd rfl k⟩
theorem k_descriptor (h : Inv cp j s t) : w_L_descriptor cp b c s (fun k s1 => w_M_descriptor b c t (fun r t1 => w_M_thrown t1 (fun th t2 => th = k ∧ (k = 0 → s1 50 0 0 = r) ∧ Inv cp (j + 3) s1 t2))) := by
  obtain ⟨q, row, T, hY, hH⟩ := h.y
  unfold w_L_descriptor w_K_descriptor
  rcases there_or (b := b) h with ⟨i, hi, e, h0, h0'⟩ | ⟨gk, gm⟩
  · subst e
    have bad : (c < 0 ∨ (¬ c < 0 ∧ ¬ c < 8)) → w_M_descriptor (nI i) c t (fun r t1 => w_M_thrown t1 (fun th t2 => th = 1 ∧ ((1 : Int32) = 0 → s 50 0 0 = r) ∧ Inv cp (j + 3) s t2)) := fun g => em_nt1 hi h0' _ ⟨fun _ => by
      have h21 : w_M_descriptor_21 (nI i) c (fun r t1 => w_M_thrown t1 (fun th t2 => th = 1 ∧ ((1 : Int32) = 0 → s 50 0 0 = r) ∧ Inv cp (j + 3) s t2)) (w3 t 20 0 0 0) := by
        unfold w_M_descriptor_21 w_M_descriptor_26
        intro s1 e1
        rw [e1]
        exact ⟨fun k => absurd k (th_n _ (by decide)), fun _ => ⟨rfl, fun k => absurd k (by decide), (h.m 0).rk 1⟩⟩
      rcases g with g | ⟨g1, g2⟩
      · exact ⟨fun _ => h21, fun k => absurd g k⟩
      · exact ⟨fun k => absurd k g1, fun _ => ⟨fun k => absurd k g2, fun _ => h21⟩⟩, fun k => absurd rfl k⟩
    refine ek_th1 hi h0 _ ⟨fun k => absurd k (by decide), fun _ => ?_⟩
    rcases pk_ix c (n := 8) (by omega) with g | g | ⟨a, ha, e⟩
    · exact ⟨fun _ => ⟨fun _ => bad (Or.inl g), fun k => absurd k (by decide), fun k => absurd k (by decide)⟩, fun k => absurd g k⟩
    · have g0 := le_nneg (by omega) g
      exact ⟨fun k => absurd k g0, fun _ => ⟨fun k => absurd k (le_nlt g), fun _ => ⟨fun _ => bad (Or.inr ⟨g0, le_nlt g⟩), fun k => absurd k (by decide), fun k => absurd k (by decide)⟩⟩⟩
    · subst e
      refine ⟨fun k => absurd k (nI_pos (by omega)), fun _ => ⟨fun _ => ⟨vin hi (by omega), vin ha (by omega), fun s2 e2 => ?_⟩, fun k => absurd (nI_lt (b := 8) ha (by omega)) k⟩⟩
      rw [cl (n := i) (by omega), cl (n := a) (by omega)] at e2
      have e1 : (8 : Int32) * nI i + nI a = nI (8 * i + a) := ix 8 i a
      refine em_nt1 hi h0' _ ⟨fun _ => ⟨fun k => absurd k (nI_pos (by omega)), fun _ => ⟨fun _ s3 e3 => ?_, fun k => absurd (nI_lt (b := 8) ha (by omega)) k⟩⟩, fun k => absurd rfl k⟩
      rw [e3, e1, cl (n := 8 * i + a) (by omega)]
      refine ⟨fun _ => ⟨vin (by omega) (by omega), rfl, fun _ => ?_, by rw [e2]; exact (h.m 0).ro _ _⟩, fun k => absurd (th_le _) k⟩
      rw [e2]
      exact (hY.1.2.2.2.2.1 i hi a ha).1.symm
  · refine ek_th0 gk _ ⟨fun _ => ⟨fun _ => em_nt0 gm _ ⟨fun k => absurd k (by decide), fun _ => ⟨rfl, fun k => absurd k (by decide), h.rk 1⟩⟩, fun k => absurd k (by decide), fun k => absurd k (by decide)⟩, fun k => absurd rfl k⟩
theorem k_stack (h : Inv cp j s t) : w_L_stack cp b c s (fun k s1 => w_M_stack b c t (fun r t1 => w_M_thrown t1 (fun th t2 => th = k ∧ (k = 0 → s1 50 0 0 = r) ∧ Inv cp (j + 3) s1 t2))) := by
  obtain ⟨q, row, T, hY, hH⟩ := h.y
  unfold w_L_stack w_K_stack
  rcases there_or (b := b) h with ⟨i, hi, e, h0, h0'⟩ | ⟨gk, gm⟩
  · subst e
    obtain ⟨n, b0, b1, b2, b3, b4, b5, b6⟩ := hY.1.2.2.2.2.2 i hi h0
    have bad : (c < 0 ∨ (¬ c < 0 ∧ ¬ c < nI n)) → w_M_stack (nI i) c t (fun r t1 => w_M_thrown t1 (fun th t2 => th = 1 ∧ ((1 : Int32) = 0 → s 50 0 0 = r) ∧ Inv cp (j + 3) s t2)) := fun g => em_nt1 hi h0' _ ⟨fun _ => by
      have h25 : w_M_stack_25 (nI i) c (fun r t1 => w_M_thrown t1 (fun th t2 => th = 1 ∧ ((1 : Int32) = 0 → s 50 0 0 = r) ∧ Inv cp (j + 3) s t2)) (w3 t 20 0 0 0) := by
        unfold w_M_stack_25 w_M_stack_30
        intro s1 e1
        rw [e1]
        exact ⟨fun k => absurd k (th_n _ (by decide)), fun _ => ⟨rfl, fun k => absurd k (by decide), (h.m 0).rk 1⟩⟩
      have e29 : w3 t 20 0 0 0 29 0 (nI i).toNatClampNeg = nI n := by rw [cl (n := i) (by omega)]; exact b2
      rw [e29]
      rcases g with g | ⟨g1, g2⟩
      · exact ⟨fun _ => h25, fun k => absurd g k⟩
      · exact ⟨fun k => absurd k g1, fun _ => ⟨vin hi (by omega), fun k => absurd k g2, fun _ => h25⟩⟩, fun k => absurd rfl k⟩
    refine ek_th1 hi h0 _ ⟨fun k => absurd k (by decide), fun _ => ?_⟩
    rw [cl (n := i) (by omega), b1]
    rcases pk_ix c (n := n) (by omega) with g | g | ⟨a, ha, e⟩
    · exact ⟨fun _ => ⟨fun _ => bad (Or.inl g), fun k => absurd k (by decide), fun k => absurd k (by decide)⟩, fun k => absurd g k⟩
    · have g0 := le_nneg (by omega) g
      exact ⟨fun k => absurd k g0, fun _ => ⟨vin hi (by omega), fun k => absurd k (le_nlt g), fun _ => ⟨fun _ => bad (Or.inr ⟨g0, le_nlt g⟩), fun k => absurd k (by decide), fun k => absurd k (by decide)⟩⟩⟩
    · subst e
      obtain ⟨n, rfl⟩ : ∃ n', n = n' + 1 := ⟨n - 1, by omega⟩
      have ei : nI (n + 1) - 1 - nI a = nI (n - a) := by rw [nI_pred, pk_sub (by omega)]
      have em : (64 : Int32) * nI i + nI (n + 1) - 1 - nI a = nI (64 * i + (n - a)) := by
        have e1 : (64 : Int32) * nI i + nI (n + 1) = nI (64 * i + n + 1) := ix 64 i (n + 1)
        rw [e1, nI_pred, pk_sub (by omega)]
        congr 1
        omega
      refine ⟨fun k => absurd k (nI_pos (by omega)), fun _ => ⟨vin hi (by omega), fun _ => ⟨vin hi (by omega), by rw [ei]; exact vin (by omega) (by omega), fun s2 e2 => ?_⟩, fun k => absurd (nI_lt ha (by omega)) k⟩⟩
      rw [ei, cl (n := n - a) (by omega)] at e2
      refine em_nt1 hi h0' _ ⟨fun _ => ⟨fun k => absurd k (nI_pos (by omega)), fun _ => ⟨vin hi (by omega), fun _ s3 e3 => ?_, fun k => ?_⟩⟩, fun k => absurd rfl k⟩
      · rw [e3]
        refine ⟨fun _ => ?_, fun k => absurd (th_le _) k⟩
        unfold w_M_top
        have e29 : w3 (w3 t 20 0 0 0) 20 0 0 0 29 0 (nI i).toNatClampNeg = nI (n + 1) := by rw [cl (n := i) (by omega)]; exact b2
        rw [e29, em, cl (n := 64 * i + (n - a)) (by omega)]
        refine ⟨vin hi (by omega), vin (by omega) (by omega), rfl, fun _ => ?_, by rw [e2]; exact (h.m 0).ro _ _⟩
        rw [e2]
        exact (b6 (n - a) (by omega)).symm
      · have e29 : w3 t 20 0 0 0 29 0 (nI i).toNatClampNeg = nI (n + 1) := by rw [cl (n := i) (by omega)]; exact b2
        rw [e29] at k
        exact absurd (nI_lt ha (by omega)) k
  · refine ek_th0 gk _ ⟨fun _ => ⟨fun _ => em_nt0 gm _ ⟨fun k => absurd k (by decide), fun _ => ⟨rfl, fun k => absurd k (by decide), h.rk 1⟩⟩, fun k => absurd k (by decide), fun k => absurd k (by decide)⟩, fun k => absurd rfl k⟩
theorem k_queue (h : Inv cp j s t) : w_L_queue cp b s (fun k s1 => w_M_queue b t (fun r t1 => w_M_thrown t1 (fun th t2 => th = k ∧ (k = 0 → s1 50 0 0 = r) ∧ Inv cp (j + 3) s1 t2))) := by
  obtain ⟨q, row, T, hY, hH⟩ := h.y
  have hl := hY.2.1.len
  unfold w_L_queue w_K_queue
  by_cases c0 : 0 ≤ b
  · obtain ⟨i, hi, e⟩ := nI_of (le_nlt c0)
    subst e
    refine ⟨fun _ => ?_, fun k => absurd c0 k⟩
    rw [hY.2.1.1]
    have go : ∀ (r : Int32), (((nI q.length ≤ nI i → r = -1) ∧ (¬ nI q.length ≤ nI i → vp_in (nI i) 16 ∧ r = t 35 0 (nI i).toNatClampNeg))) → w_M_queue (nI i) t (fun r' t1 => w_M_thrown t1 (fun th t2 => th = 0 ∧ ((0 : Int32) = 0 → w3 s 50 0 0 r 50 0 0 = r') ∧ Inv cp (j + 3) (w3 s 50 0 0 r) t2)) := fun r g => by
      refine ⟨fun _ s3 e3 => ?_, fun k => absurd c0 k⟩
      rw [e3]
      have e16 : w3 t 20 0 0 0 20 0 16 = nI q.length := hY.2.1.2.1
      rw [e16]
      exact ⟨fun _ => ⟨fun k => ⟨rfl, fun _ => g.1 k, h.ro _ _⟩, fun k => ⟨(g.2 k).1, rfl, fun _ => (g.2 k).2, h.ro _ _⟩⟩, fun k => absurd (th_le _) k⟩
    by_cases c : q.length ≤ i
    · have cI : nI q.length ≤ nI i := nI_le c hi
      refine ⟨fun _ s2 e2 => ?_, fun k => absurd cI k⟩
      rw [e2]
      exact go (-1) ⟨fun _ => rfl, fun k => absurd cI k⟩
    · have cI : ¬ nI q.length ≤ nI i := nI_ge (by omega) (by omega)
      refine ⟨fun k => absurd k cI, fun _ => ⟨vin (by omega) (by omega), fun s2 e2 => ?_⟩⟩
      rw [e2]
      refine go _ ⟨fun k => absurd k cI, fun _ => ⟨vin (by omega) (by omega), ?_⟩⟩
      rw [cl (n := i) (by omega)]
      obtain ⟨x, hx, -⟩ := el (q := q) (i := i) (by omega)
      have a1 := hY.2.1.2.2.1 i x hx
      have a2 := hY.2.1.2.2.2.1 i x hx
      rw [Nat.zero_add] at a1 a2
      rw [a1, a2]
  · refine ⟨fun k => absurd k c0, fun _ => ⟨fun _ => ⟨fun k => absurd k c0, fun _ s3 e3 => ?_⟩, fun k => absurd k (by decide), fun k => absurd k (by decide)⟩⟩
    rw [e3]
    exact ⟨fun k => absurd k (th_n _ (by decide)), fun _ => ⟨rfl, fun k => absurd k (by decide), h.rk 1⟩⟩
theorem k_out (h : Inv cp j s t) : w_L_out cp b s (fun k s1 => w_M_out b t (fun r t1 => w_M_thrown t1 (fun th t2 => th = k ∧ (k = 0 → s1 50 0 0 = r) ∧ Inv cp (j + 3) s1 t2))) := by
  obtain ⟨q, row, T, hY, hH⟩ := h.y
  obtain ⟨n, l, ⟨m0, r1, r2, r3, r4, r5⟩, o1, o2, o3, o4, o5⟩ := hH.2.2.2.1
  have hT : T ≤ 70000 := hH.2.2.2.2.2.2.2.2.1
  have front : ∀ Φ : Int32 → KS → Prop, w_M_out_20 b Φ (nI l.length) t → w_M_out b t Φ := fun Φ g => by
    unfold w_M_out
    rw [o2]
    refine pk_le 500 n (fun c => ?_) (fun c => ?_)
    · have : l.length = 500 := by omega
      rw [this] at g; exact g
    · have : l.length = n := by omega
      rw [this] at g; exact g
  have bad : (b < 0 ∨ (¬ b < 0 ∧ ¬ b < nI l.length)) → w_M_out b t (fun r t1 => w_M_thrown t1 (fun th t2 => th = 1 ∧ ((1 : Int32) = 0 → s 50 0 0 = r) ∧ Inv cp (j + 3) s t2)) := fun g => front _ (by
    have h31 : w_M_out_31 b (fun r t1 => w_M_thrown t1 (fun th t2 => th = 1 ∧ ((1 : Int32) = 0 → s 50 0 0 = r) ∧ Inv cp (j + 3) s t2)) (nI l.length) t := by
      unfold w_M_out_31 w_M_out_36
      intro s1 e1
      rw [e1]
      exact ⟨fun k => absurd k (th_n _ (by decide)), fun _ => ⟨rfl, fun k => absurd k (by decide), h.rk 1⟩⟩
    unfold w_M_out_20
    rcases g with g | ⟨g1, g2⟩
    · exact ⟨fun _ => h31, fun k => absurd g k⟩
    · exact ⟨fun k => absurd k g1, fun _ => ⟨fun k => absurd k g2, fun _ => h31⟩⟩)
  unfold w_L_out w_K_out
  rw [r3]
  rcases pk_ix b (n := l.length) (by omega) with g | g | ⟨a, ha, e⟩
  · exact ⟨fun _ => ⟨fun _ => bad (Or.inl g), fun k => absurd k (by decide), fun k => absurd k (by decide)⟩, fun k => absurd g k⟩
  · have g0 := le_nneg (by omega) g
    exact ⟨fun k => absurd k g0, fun _ => ⟨fun k => absurd k (le_nlt g), fun _ => ⟨fun _ => bad (Or.inr ⟨g0, le_nlt g⟩), fun k => absurd k (by decide), fun k => absurd k (by decide)⟩⟩⟩
  · subst e
    have a9 : aL cp 6 9 = 500 := rfl
    have hlt : (m0 + a) % 500 < 500 := Nat.mod_lt _ (by omega)
    have hget := List.getElem?_eq_getElem ha
    refine ⟨fun k => absurd k (nI_pos (by omega)), fun _ => ⟨fun _ => ?_, fun k => absurd (nI_lt ha (by omega)) k⟩⟩
    unfold w_W_at
    rw [r2, nI_add]
    refine ek_wrap a9 (by omega) r1 (by omega) _ ⟨by rw [a9]; exact vin hlt (by omega), fun s2 e2 => front _ ?_⟩
    rw [cl (n := (m0 + a) % 500) (by omega), r5 a _ hget] at e2
    unfold w_M_out_20 w_M_out_36
    refine ⟨fun k => absurd k (nI_pos (by omega)), fun _ => ⟨fun _ s3 e3 => ?_, fun k => absurd (nI_lt ha (by omega)) k⟩⟩
    have e27 : s3 20 0 27 = nI n := by rw [e3]; exact o2
    have es : nI n - nI l.length + nI a = nI (n - l.length + a) := by rw [pk_sub (by omega), nI_add]
    have er : nI (n - l.length + a) - nI (n - l.length + a) / (500 : Int32) * (500 : Int32) = nI ((n - l.length + a) % 500) := pk_rem (d := 500) (by omega) (by omega) (by omega)
    have hlt2 : (n - l.length + a) % 500 < 500 := Nat.mod_lt _ (by omega)
    rw [e27, es, er, cl (n := (n - l.length + a) % 500) (by omega), e3]
    refine ⟨fun _ => ⟨by decide, vin hlt2 (by omega), rfl, fun _ => ?_, by rw [e2]; exact h.ro _ _⟩, fun k => absurd (th_le _) k⟩
    rw [e2]
    exact (o5 a _ hget).symm
end AS

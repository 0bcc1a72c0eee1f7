def dAt (s : KS) (p : Nat) (y : Int32) : Int32 := if y < 0 then 0 else if y < 8 then s 4 p y.toNatClampNeg else 0
theorem ek_descAt {cp p : Nat} {y : Int32} {s : KS} : EI (w_P_descriptorAt cp p y s) (dAt s p y) s := by
  intro Φ h
  unfold dAt at h
  unfold w_P_descriptorAt
  by_cases c : y < 0
  · rw [if_pos c] at h; exact ⟨fun _ => h, fun g => absurd c g⟩
  rw [if_neg c] at h
  refine ⟨fun g => absurd g c, fun _ => ?_⟩
  obtain ⟨j, hj, e⟩ := nI_of c
  by_cases c8 : y < 8
  · rw [if_pos c8] at h
    have hj8 : j < 8 := by rw [e] at c8; exact (nI_ltI (b := 8) hj (by omega)).mp c8
    refine ⟨fun g => ?_, fun _ => ⟨by rw [e]; exact vin hj8 (by omega), h⟩⟩
    rw [e] at g
    have := (nI_leI (a := 8) (by omega) hj).mp g
    omega
  · rw [if_neg c8] at h
    refine ⟨fun _ => h, fun g => ?_⟩
    exfalso
    apply g
    rw [e] at c8 ⊢
    apply (nI_leI (a := 8) (by omega) hj).mpr
    apply Nat.le_of_not_lt
    intro k
    exact c8 ((nI_ltI (b := 8) hj (by omega)).mpr k)
theorem em_descOf {p : Nat} {y : Int32} {s t : KS} (hp : p < 16) (hP : XP s t) : EI (w_M_descriptorOf (nI p) y t) (dAt s p y) t := by
  intro Φ h
  unfold dAt at h
  unfold w_M_descriptorOf
  by_cases c : y < 0
  · rw [if_pos c] at h; exact ⟨fun _ => h, fun g => absurd c g⟩
  rw [if_neg c] at h
  refine ⟨fun g => absurd g c, fun _ => ?_⟩
  obtain ⟨j, hj, e⟩ := nI_of c
  by_cases c8 : y < 8
  · rw [if_pos c8] at h
    have hj8 : j < 8 := by rw [e] at c8; exact (nI_ltI (b := 8) hj (by omega)).mp c8
    have e1 : (8 : Int32) * nI p + nI j = nI (8 * p + j) := ix 8 p j
    rw [e, cl (by omega)] at h
    rw [e, e1, cl (by omega), (hP.2.2.2.2.1 p hp j hj8).1]
    exact ⟨fun _ => ⟨vin (by omega) (by omega), h⟩, fun g => absurd ((nI_ltI (b := 8) hj (by omega)).mpr hj8) g⟩
  · rw [if_neg c8] at h
    exact ⟨fun g => absurd g c8, fun _ => h⟩
theorem dAt_ok {p : Nat} {y : Int32} {s t : KS} (hp : p < 16) (hP : XP s t) : dOk (dAt s p y) := by
  unfold dAt
  by_cases c : y < 0
  · rw [if_pos c]; exact ⟨0, rfl, Or.inl rfl⟩
  rw [if_neg c]
  by_cases c8 : y < 8
  · rw [if_pos c8]
    obtain ⟨j, hj, e⟩ := nI_of c
    have hj8 : j < 8 := by rw [e] at c8; exact (nI_ltI (b := 8) hj (by omega)).mp c8
    rw [e, cl (by omega)]
    exact (hP.2.2.2.2.1 p hp j hj8).2
  · rw [if_neg c8]; exact ⟨0, rfl, Or.inl rfl⟩
theorem ek_isW {cp n : Nat} {s : KS} (hn : n < 100) : EI (w_K_isWritingEnd cp (nI n) s) (if 20 ≤ n ∧ n < 28 then 1 else 0) s := by
  intro Φ h
  unfold w_K_isWritingEnd
  refine pk_lt n 20 (fun g => ?_) (fun g => ?_)
  · rw [if_neg (by omega)] at h; exact h
  · refine pk_le 28 n (fun g2 => ?_) (fun g2 => ?_)
    · rw [if_neg (by omega)] at h; exact h
    · rw [if_pos (by omega)] at h; exact h
theorem ek_isR {cp n : Nat} {s : KS} (hn : n < 100) : EI (w_K_isReadingEnd cp (nI n) s) (if 10 ≤ n ∧ n < 18 then 1 else 0) s := by
  intro Φ h
  unfold w_K_isReadingEnd
  refine pk_lt n 10 (fun g => ?_) (fun g => ?_)
  · rw [if_neg (by omega)] at h; exact h
  · refine pk_le 18 n (fun g2 => ?_) (fun g2 => ?_)
    · rw [if_neg (by omega)] at h; exact h
    · rw [if_pos (by omega)] at h; exact h
theorem ek_other {cp n : Nat} {s : KS} (hn : 10 ≤ n ∧ n < 100) : EI (w_K_otherEnd cp (nI n) s) (nI (if 20 ≤ n then n - 10 else n + 10)) s := by
  intro Φ h
  unfold w_K_otherEnd
  refine pk_le 20 n (fun g => ?_) (fun g => ?_)
  · rw [if_pos g] at h
    have h1 : nI n - nI 20 = nI (n - 20) := pk_sub g
    have h2 : nI (n - 20) + nI 10 = nI (n - 20 + 10) := nI_add _ _
    have e : nI n - (20 : Int32) + (10 : Int32) = nI (n - 10) := by
      show nI n - nI 20 + nI 10 = _
      rw [h1, h2]; congr 1; omega
    rw [e]; exact h
  · rw [if_neg (by omega)] at h
    have h1 : nI n - nI 10 = nI (n - 10) := pk_sub hn.1
    have h2 : nI (n - 10) + nI 20 = nI (n - 10 + 20) := nI_add _ _
    have e : nI n - (10 : Int32) + (20 : Int32) = nI (n + 10) := by
      show nI n - nI 10 + nI 20 = _
      rw [h1, h2]; congr 1; omega
    rw [e]; exact h
theorem pipe_n {cp T w : Nat} {s t : KS} (hH : XH cp T s t) (hw : w < 8) : ∃ l, s 5 w 2 = nI l ∧ t 42 0 w = nI l ∧ l ≤ 16 ∧ t 20 0 2 = nI cp ∧ cp ≤ 16 ∧ aL cp 6 w = cp ∧ 1 ≤ cp ∧ l ≤ cp := by
  obtain ⟨c1, c2, c3, c4⟩ := hH.2.1
  obtain ⟨l, ⟨m, m1, m2, m3, m4, m5⟩, r2, -⟩ := c4 w hw
  refine ⟨l.length, m3, r2, by omega, c1, c3, ?_, c2, m4⟩
  unfold aL
  rw [if_pos hw]
  rfl
/-- does a word to write wait? -/
theorem ek_wB {cp T n : Nat} {s t : KS} (hH : XH cp T s t) (hn : n < 28) (hn2 : n < 18 ∨ 20 ≤ n) : ∃ b, EI (w_K_writeBlocks cp (nI n) s) b s ∧ ((b = 0 ∧ ¬ (20 ≤ n ∧ ¬ cnt (t 31 0) (nI (n - 10)) 128 = 0 ∧ t 42 0 (n - 20) = t 20 0 2)) ∨ (b = 1 ∧ 20 ≤ n ∧ ¬ cnt (t 31 0) (nI (n - 10)) 128 = 0 ∧ t 42 0 (n - 20) = t 20 0 2)) := by
  by_cases h20 : 20 ≤ n
  · obtain ⟨l, p1, p2, p3, p4, p5, p6, p7, p8⟩ := pipe_n hH (w := n - 20) (by omega)
    have hb := cnt_le (t 31 0) (nI (n - 10)) 128
    have he := hH.1 (n - 10) (by omega) (by omega)
    have ew : nI n - (20 : Int32) = nI (n - 20) := pk_sub (b := 20) h20
    by_cases c0 : cnt (t 31 0) (nI (n - 10)) 128 = 0
    · refine ⟨0, fun Φ h => ?_, Or.inl ⟨rfl, fun g => g.2.1 c0⟩⟩
      unfold w_K_writeBlocks
      refine ek_isW (by omega) _ ?_
      rw [if_pos ⟨h20, hn⟩]
      refine ⟨fun g => absurd g (by decide), fun _ => ek_other ⟨by omega, by omega⟩ _ ?_⟩
      rw [if_pos h20, cl (by omega), he, c0]
      exact ⟨vin (by omega) (by omega), fun _ => h, fun g => absurd (by decide) g⟩
    · by_cases cf : l = cp
      · refine ⟨1, fun Φ h => ?_, Or.inr ⟨rfl, h20, c0, by rw [p2, p4, cf]⟩⟩
        unfold w_K_writeBlocks
        refine ek_isW (by omega) _ ?_
        rw [if_pos ⟨h20, hn⟩]
        refine ⟨fun g => absurd g (by decide), fun _ => ek_other ⟨by omega, by omega⟩ _ ?_⟩
        rw [if_pos h20, cl (by omega), he]
        refine ⟨vin (by omega) (by omega), fun g => absurd g (nI_nle (by omega) (by omega)), fun _ => ?_⟩
        rw [ew, cl (by omega)]
        refine ⟨vin (by omega) (by omega), ?_⟩
        unfold w_W_isFull
        rw [p6, p1, cf]
        exact ⟨fun g => absurd rfl g, fun _ => ⟨fun g => absurd g (by decide), fun _ => h⟩⟩
      · refine ⟨0, fun Φ h => ?_, Or.inl ⟨rfl, fun g => cf (nI_inj (by omega) (by omega) (by rw [← p2, ← p4]; exact g.2.2))⟩⟩
        unfold w_K_writeBlocks
        refine ek_isW (by omega) _ ?_
        rw [if_pos ⟨h20, hn⟩]
        refine ⟨fun g => absurd g (by decide), fun _ => ek_other ⟨by omega, by omega⟩ _ ?_⟩
        rw [if_pos h20, cl (by omega), he]
        refine ⟨vin (by omega) (by omega), fun g => absurd g (nI_nle (by omega) (by omega)), fun _ => ?_⟩
        rw [ew, cl (by omega)]
        refine ⟨vin (by omega) (by omega), ?_⟩
        unfold w_W_isFull
        rw [p6, p1]
        exact ⟨fun _ => ⟨fun _ => h, fun g => absurd rfl g⟩, fun g => absurd (nI_inj (by omega) (by omega) g) cf⟩
  · refine ⟨0, fun Φ h => ?_, Or.inl ⟨rfl, fun g => h20 g.1⟩⟩
    unfold w_K_writeBlocks
    refine ek_isW (by omega) _ ?_
    rw [if_neg (fun g => h20 g.1)]
    exact ⟨fun _ => h, fun g => absurd rfl g⟩
/-- does a read wait? -/
theorem ek_rB {cp T n : Nat} {s t : KS} (hH : XH cp T s t) (hn : n < 28) : ∃ b, EI (w_K_readBlocks cp (nI n) s) b s ∧ ((b = 0 ∧ ¬ ((n = 1 ∧ t 20 0 24 = 0 ∧ t 20 0 25 = 0) ∨ (10 ≤ n ∧ n < 18 ∧ t 42 0 (n - 10) = 0 ∧ ¬ cnt (t 31 0) (nI (n + 10)) 128 = 0))) ∨ (b = 1 ∧ ((n = 1 ∧ t 20 0 24 = 0 ∧ t 20 0 25 = 0) ∨ (10 ≤ n ∧ n < 18 ∧ t 42 0 (n - 10) = 0 ∧ ¬ cnt (t 31 0) (nI (n + 10)) 128 = 0)))) := by
  by_cases h1 : n = 1
  · subst h1
    obtain ⟨l, ⟨m, m1, m2, m3, m4, m5⟩, ⟨r1, r2⟩, r3, r4⟩ := hH.2.2.1
    have k1 : w_K_readBlocks cp (nI 1) s = w_K_readBlocks cp (nI 1) s := rfl
    by_cases c : l.length = 0
    · have e5 : s 5 8 2 = 0 := by rw [m3, c]; rfl
      have e24 : t 20 0 24 = 0 := by rw [r1, c]; rfl
      by_cases c2 : s 0 0 11 = 0
      · refine ⟨1, fun Φ h => ?_, Or.inr ⟨rfl, Or.inl ⟨rfl, e24, by rw [r3, c2]⟩⟩⟩
        unfold w_K_readBlocks w_W_isEmpty
        rw [e5]
        exact ⟨fun g => absurd rfl g, fun _ => ⟨fun g => absurd rfl g, fun _ => ⟨fun g => absurd g (by decide), fun _ => ⟨fun g => absurd c2 g, fun _ => h⟩⟩⟩⟩
      · refine ⟨0, fun Φ h => ?_, Or.inl ⟨rfl, fun g => ?_⟩⟩
        · unfold w_K_readBlocks w_W_isEmpty
          rw [e5]
          exact ⟨fun g => absurd rfl g, fun _ => ⟨fun g => absurd rfl g, fun _ => ⟨fun g => absurd g (by decide), fun _ => ⟨fun _ => h, fun g => absurd g c2⟩⟩⟩⟩
        · rcases g with ⟨-, -, g⟩ | ⟨g, -⟩
          · rw [r3] at g; exact c2 g
          · omega
    · have e5 : ¬ s 5 8 2 = 0 := by rw [m3]; exact nI_ne (b := 0) (by omega) (by omega) c
      refine ⟨0, fun Φ h => ?_, Or.inl ⟨rfl, fun g => ?_⟩⟩
      · unfold w_K_readBlocks w_W_isEmpty
        exact ⟨fun g => absurd rfl g, fun _ => ⟨fun _ => ⟨fun _ => h, fun g => absurd rfl g⟩, fun g => absurd g e5⟩⟩
      · rcases g with ⟨-, g, -⟩ | ⟨g, -⟩
        · rw [r1] at g; exact c (nI_inj (b := 0) (by omega) (by omega) g)
        · omega
  · have hne : ¬ nI n = (1 : Int32) := nI_ne (b := 1) (by omega) (by omega) h1
    by_cases h10 : 10 ≤ n ∧ n < 18
    · obtain ⟨l, p1, p2, p3, p4, p5, p6, p7, p8⟩ := pipe_n hH (w := n - 10) (by omega)
      have hb := cnt_le (t 31 0) (nI (n + 10)) 128
      have he := hH.1 (n + 10) (by omega) (by omega)
      have ew : nI n - (10 : Int32) = nI (n - 10) := pk_sub (b := 10) h10.1
      have head : ∀ (Φ : Int32 → KS → Prop), (vp_in (nI (n + 10)) 28 ∧ ((nI (cnt (t 31 0) (nI (n + 10)) 128) ≤ 0 → Φ 0 s) ∧ (¬ nI (cnt (t 31 0) (nI (n + 10)) 128) ≤ 0 → vp_in (nI (n - 10)) 8 ∧ w_W_isEmpty cp (n - 10) s (fun r7 s6 => ((r7 = 0 → Φ (0 : Int32) s6) ∧ (¬ r7 = 0 → Φ (1 : Int32) s6)))))) → w_K_readBlocks cp (nI n) s Φ := by
        intro Φ g
        unfold w_K_readBlocks
        refine ⟨fun _ => ek_isR (by omega) _ ?_, fun g => absurd g hne⟩
        rw [if_pos h10]
        refine ⟨fun g => absurd g (by decide), fun _ => ek_other ⟨by omega, by omega⟩ _ ?_⟩
        rw [if_neg (by omega), cl (by omega), he, ew, cl (n := n - 10) (by omega)]
        exact g
      by_cases c0 : cnt (t 31 0) (nI (n + 10)) 128 = 0
      · refine ⟨0, fun Φ h => head Φ ⟨vin (by omega) (by omega), fun _ => h, fun g => absurd (by rw [c0]; decide) g⟩, Or.inl ⟨rfl, fun g => ?_⟩⟩
        rcases g with ⟨g, -⟩ | ⟨-, -, -, g⟩
        · exact h1 g
        · exact g c0
      · by_cases cf : l = 0
        · refine ⟨1, fun Φ h => head Φ ⟨vin (by omega) (by omega), fun g => absurd g (nI_nle (by omega) (by omega)), fun _ => ⟨vin (by omega) (by omega), ?_⟩⟩, Or.inr ⟨rfl, Or.inr ⟨h10.1, h10.2, by rw [p2, cf]; rfl, c0⟩⟩⟩
          unfold w_W_isEmpty
          rw [p1, cf]
          exact ⟨fun g => absurd rfl g, fun _ => ⟨fun g => absurd g (by decide), fun _ => h⟩⟩
        · refine ⟨0, fun Φ h => head Φ ⟨vin (by omega) (by omega), fun g => absurd g (nI_nle (by omega) (by omega)), fun _ => ⟨vin (by omega) (by omega), ?_⟩⟩, Or.inl ⟨rfl, fun g => ?_⟩⟩
          · unfold w_W_isEmpty
            rw [p1]
            exact ⟨fun _ => ⟨fun _ => h, fun g => absurd rfl g⟩, fun g => absurd (nI_inj (b := 0) (by omega) (by omega) g) cf⟩
          · rcases g with ⟨g, -⟩ | ⟨-, -, g, -⟩
            · exact h1 g
            · rw [p2] at g; exact cf (nI_inj (b := 0) (by omega) (by omega) g)
    · refine ⟨0, fun Φ h => ?_, Or.inl ⟨rfl, fun g => ?_⟩⟩
      · unfold w_K_readBlocks
        refine ⟨fun _ => ek_isR (by omega) _ ?_, fun g => absurd g hne⟩
        rw [if_neg h10]
        exact ⟨fun _ => h, fun g => absurd rfl g⟩
      · rcases g with ⟨g, -⟩ | ⟨g, g2, -⟩
        · exact h1 g
        · exact h10 ⟨g, g2⟩

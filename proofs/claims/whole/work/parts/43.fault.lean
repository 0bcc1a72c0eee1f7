def inM (x : Int32) : Prop := ∃ j, j < 128 ∧ x = nI j
theorem inM_or (x : Int32) : x < 0 ∨ (¬ x < 0 ∧ (128 : Int32) ≤ x) ∨ inM x := by
  by_cases c : x < 0
  · exact Or.inl c
  · rcases pk_ix x (n := 128) (by omega) with g | g | g
    · exact absurd g c
    · exact Or.inr (Or.inl ⟨c, g⟩)
    · exact Or.inr (Or.inr g)
theorem ek_in1 {cp : Nat} {x : Int32} {s : KS} (h : inM x) : EI (w_P_isInMemory cp x s) 1 s := by
  obtain ⟨j, hj, e⟩ := h
  intro Φ hΦ
  unfold w_P_isInMemory
  rw [e]
  exact ⟨fun g => absurd g (nI_pos (by omega)), fun _ => ⟨fun g => absurd g (nI_ge (b := 128) hj (by omega)), fun _ => hΦ⟩⟩
theorem ek_in0 {cp : Nat} {x : Int32} {s : KS} (h : ¬ inM x) : EI (w_P_isInMemory cp x s) 0 s := by
  intro Φ hΦ
  unfold w_P_isInMemory
  refine ⟨fun _ => hΦ, fun g => ⟨fun _ => hΦ, fun g2 => ?_⟩⟩
  rcases inM_or x with c | ⟨-, c⟩ | c
  · exact absurd c g
  · exact absurd c g2
  · exact absurd c h
theorem em_in1 {x : Int32} {s : KS} (h : inM x) : EI (w_M_isWord x s) 1 s := by
  obtain ⟨j, hj, e⟩ := h
  intro Φ hΦ
  unfold w_M_isWord
  rw [e]
  exact ⟨fun g => absurd g (nI_pos (by omega)), fun _ => ⟨fun g => absurd g (nI_ge (b := 128) hj (by omega)), fun _ => hΦ⟩⟩
theorem em_in0 {x : Int32} {s : KS} (h : ¬ inM x) : EI (w_M_isWord x s) 0 s := by
  intro Φ hΦ
  unfold w_M_isWord
  refine ⟨fun _ => hΦ, fun g => ⟨fun _ => hΦ, fun g2 => ?_⟩⟩
  rcases inM_or x with c | ⟨-, c⟩ | c
  · exact absurd c g
  · exact absurd c g2
  · exact absurd c h
theorem tl_nat : ∀ k, k < 42 → tL k = -1 ∨ (tL k = nI 0 ∨ tL k = nI 1 ∨ tL k = nI 2) := by decide +kernel
def lkN (k : Nat) : Nat := (tL k).toNatClampNeg
theorem lkN_eq {k : Nat} (hk : k < 42) (h : ¬ tL k = -1) : tL k = nI (lkN k) ∧ lkN k ≤ 2 := by
  unfold lkN
  rcases tl_nat k hk with g | g | g | g
  · exact absurd g h
  · rw [g]; decide
  · rw [g]; decide
  · rw [g]; decide
def puN (k : Nat) : Nat := (puB (nI k)).toNatClampNeg
theorem puN_eq : ∀ k, k < 42 → puB (nI k) = nI (puN k) ∧ puN k ≤ 2 := by decide +kernel
theorem lkN_tab : ∀ k, k < 42 → ((k = 8 ∨ k = 9 ∨ k = 20 ∨ k = 21 ∨ k = 34) → 1 ≤ lkN k) ∧ (k = 33 → lkN k = 2) := by decide +kernel
/-- the fault of a kind by its own -/
def sfO (k : Nat) (L : List Int32) (A : Int32) (f : Int32) : Prop := ((k = 8 ∨ k = 9) ∧ ∃ L0 y, L = L0 ++ [y] ∧ ((y = 0 ∧ f = 6) ∨ (¬ y = 0 ∧ f = 0))) ∨ ((k = 18 ∨ k = 19) ∧ ((¬ inM A ∧ f = 3) ∨ (inM A ∧ f = 0))) ∨ ((k = 20 ∨ k = 21) ∧ ∃ L0 y, L = L0 ++ [y] ∧ ((¬ inM y ∧ f = 3) ∨ (inM y ∧ f = 0))) ∨ (¬ (k = 8 ∨ k = 9 ∨ k = 18 ∨ k = 19 ∨ k = 20 ∨ k = 21) ∧ f = 0)
theorem split1 {L : List Int32} (h : 1 ≤ L.length) : ∃ L0 y, L = L0 ++ [y] := by
  refine ⟨L.dropLast, L.getLast (by intro e; rw [e] at h; simp at h), ?_⟩
  exact (List.dropLast_concat_getLast _).symm
theorem sf_ex (k : Nat) (L : List Int32) (A : Int32) (h : k < 42) (hl : lkN k ≤ L.length) : ∃ f, sfO k L A f := by
  have ht := (lkN_tab k h).1
  by_cases c1 : k = 8 ∨ k = 9
  · obtain ⟨L0, y, e⟩ := split1 (L := L) (by have := ht (by omega); omega)
    by_cases c : y = 0
    · exact ⟨6, Or.inl ⟨c1, L0, y, e, Or.inl ⟨c, rfl⟩⟩⟩
    · exact ⟨0, Or.inl ⟨c1, L0, y, e, Or.inr ⟨c, rfl⟩⟩⟩
  by_cases c2 : k = 18 ∨ k = 19
  · by_cases c : inM A
    · exact ⟨0, Or.inr (Or.inl ⟨c2, Or.inr ⟨c, rfl⟩⟩)⟩
    · exact ⟨3, Or.inr (Or.inl ⟨c2, Or.inl ⟨c, rfl⟩⟩)⟩
  by_cases c3 : k = 20 ∨ k = 21
  · obtain ⟨L0, y, e⟩ := split1 (L := L) (by have := ht (by omega); omega)
    by_cases c : inM y
    · exact ⟨0, Or.inr (Or.inr (Or.inl ⟨c3, L0, y, e, Or.inr ⟨c, rfl⟩⟩))⟩
    · exact ⟨3, Or.inr (Or.inr (Or.inl ⟨c3, L0, y, e, Or.inl ⟨c, rfl⟩⟩))⟩
  · exact ⟨0, Or.inr (Or.inr (Or.inr ⟨by omega, rfl⟩))⟩
section FT
variable {cp p a k : Nat} {s t : KS} {L : List Int32} {pl : Int32} {m : Nat → Int32}
theorem ek_kind (kv : KV s p L pl m) (ha : a < 128) (hpl : pl = nI a) (hk : m a &&& 255 = nI k) : EI (w_P_kind cp p s) (nI k) s := by
  intro Φ hΦ
  unfold w_P_kind
  rw [kv.2.2.1, hpl, cl (by omega), kv.2.2.2 a ha, hk]
  exact ⟨vin ha (by omega), hΦ⟩
theorem ek_opd (kv : KV s p L pl m) (ha : a < 128) (hpl : pl = nI a) : EI (w_P_operand cp p s) (m a >>> ((8 : Int32) &&& 31)) s := by
  intro Φ hΦ
  unfold w_P_operand
  rw [kv.2.2.1, hpl, cl (by omega), kv.2.2.2 a ha]
  exact ⟨vin ha (by omega), hΦ⟩
theorem ff_place (kv : KV s p L pl m) (h : ¬ inM pl) : EI (w_P_findFault cp p s) 4 s := by
  intro Φ hΦ
  unfold w_P_findFault
  rw [kv.2.2.1]
  exact ek_in0 h _ ⟨fun g => absurd rfl g, fun _ => hΦ⟩
theorem ff_kind (kv : KV s p L pl m) (ha : a < 128) (hpl : pl = nI a) (hk : m a &&& 255 = nI k) (hk9 : k < 256) (h : 42 ≤ k ∨ tL k = -1) : EI (w_P_findFault cp p s) 5 s := by
  intro Φ hΦ
  unfold w_P_findFault
  rw [kv.2.2.1]
  refine ek_in1 ⟨a, ha, hpl⟩ _ ⟨fun _ => ek_kind kv ha hpl hk _ (pk_le 42 k (fun _ => hΦ) (fun g => ⟨vin (by omega) (by omega), fun g2 => ?_, fun _ => hΦ⟩)), fun g => absurd g (by decide)⟩
  rw [cl (by omega)] at g2
  rcases h with h | h
  · omega
  · exact absurd h g2
theorem ff_low (kv : KV s p L pl m) (hl : L.length ≤ 32) (ha : a < 128) (hpl : pl = nI a) (hk : m a &&& 255 = nI k) (hk9 : k < 42) (h1 : ¬ tL k = -1) (h : L.length < lkN k) : EI (w_P_findFault cp p s) 1 s := by
  obtain ⟨e, e2⟩ := lkN_eq hk9 h1
  intro Φ hΦ
  unfold w_P_findFault
  rw [kv.2.2.1]
  refine ek_in1 ⟨a, ha, hpl⟩ _ ⟨fun _ => ek_kind kv ha hpl hk _ (pk_le 42 k (fun g => by omega) (fun g => ⟨vin (by omega) (by omega), fun g2 => ⟨vin (by omega) (by omega), ?_⟩, fun g2 => ?_⟩)), fun g => absurd g (by decide)⟩
  · rw [cl (by omega), e, kv.1]
    exact ⟨fun g => absurd g (nI_ge h (by omega)), fun _ => hΦ⟩
  · rw [cl (by omega)] at g2; exact absurd g2 h1
theorem ff_sf {f : Int32} (kv : KV s p L pl m) (hl : L.length ≤ 32) (ha : a < 128) (hpl : pl = nI a) (hk : m a &&& 255 = nI k) (hk9 : k < 42) (h1 : ¬ tL k = -1) (h : lkN k ≤ L.length) (hf : sfO k L (m a >>> ((8 : Int32) &&& 31)) f) : EI (w_P_findFault cp p s) f s := by
  obtain ⟨e, e2⟩ := lkN_eq hk9 h1
  intro Φ hΦ
  unfold w_P_findFault
  rw [kv.2.2.1]
  refine ek_in1 ⟨a, ha, hpl⟩ _ ⟨fun _ => ek_kind kv ha hpl hk _ (pk_le 42 k (fun g => by omega) (fun g => ⟨vin (by omega) (by omega), fun g2 => ⟨vin (by omega) (by omega), ?_⟩, fun g2 => ?_⟩)), fun g => absurd g (by decide)⟩
  · rw [cl (by omega), e, kv.1]
    refine ⟨fun _ => ?_, fun g => absurd (nI_le h (by omega)) g⟩
    have ne : ∀ {a b : Nat}, a < 256 → b < 256 → a ≠ b → ¬ nI a = nI b := fun x y z => nI_ne (by omega) (by omega) z
    rcases hf with ⟨c, L0, y, eL, hy⟩ | ⟨c, hy⟩ | ⟨c, L0, y, eL, hy⟩ | ⟨c, hy⟩
    · have hl0 : L0.length < 32 := by rw [eL, List.length_append] at hl; simp at hl; omega
      rw [eL] at kv
      have fin : w_P_top cp p s (fun r6 s5 => ((¬ r6 = 0 → Φ (0 : Int32) s5) ∧ (r6 = 0 → Φ (6 : Int32) s5))) := ek_top kv hl0 _ (by
        rcases hy with ⟨y0, ef⟩ | ⟨y0, ef⟩
        · rw [ef] at hΦ; exact ⟨fun g => absurd y0 g, fun _ => hΦ⟩
        · rw [ef] at hΦ; exact ⟨fun _ => hΦ, fun g => absurd g y0⟩)
      refine ⟨fun _ => fin, fun _ => fin, fun g => absurd g (ne (b := 18) (by omega) (by omega) (by omega)), fun g => absurd g (ne (b := 19) (by omega) (by omega) (by omega)), fun g => absurd g (ne (b := 20) (by omega) (by omega) (by omega)), fun g => absurd g (ne (b := 21) (by omega) (by omega) (by omega)), fun g => ?_⟩
      rcases c with c | c
      · rw [c] at g; exact absurd rfl g.1
      · rw [c] at g; exact absurd rfl g.2.1
    · have fin : w_P_operand cp p s (fun r10 s9 => w_P_isInMemory cp r10 s9 (fun r12 s11 => ((r12 = 0 → Φ (3 : Int32) s11) ∧ (¬ r12 = 0 → Φ (0 : Int32) s11)))) := ek_opd kv ha hpl _ (by
        rcases hy with ⟨y0, ef⟩ | ⟨y0, ef⟩
        · rw [ef] at hΦ; exact ek_in0 y0 _ ⟨fun _ => hΦ, fun g => absurd rfl g⟩
        · rw [ef] at hΦ; exact ek_in1 y0 _ ⟨fun g => absurd g (by decide), fun _ => hΦ⟩)
      refine ⟨fun g => absurd g (ne (b := 8) (by omega) (by omega) (by omega)), fun g => absurd g (ne (b := 9) (by omega) (by omega) (by omega)), fun _ => fin, fun _ => fin, fun g => absurd g (ne (b := 20) (by omega) (by omega) (by omega)), fun g => absurd g (ne (b := 21) (by omega) (by omega) (by omega)), fun g => ?_⟩
      rcases c with c | c
      · rw [c] at g; exact absurd rfl g.2.2.1
      · rw [c] at g; exact absurd rfl g.2.2.2.1
    · have hl0 : L0.length < 32 := by rw [eL, List.length_append] at hl; simp at hl; omega
      rw [eL] at kv
      have fin : w_P_top cp p s (fun r18 s17 => w_P_isInMemory cp r18 s17 (fun r20 s19 => ((r20 = 0 → Φ (3 : Int32) s19) ∧ (¬ r20 = 0 → Φ (0 : Int32) s19)))) := ek_top kv hl0 _ (by
        rcases hy with ⟨y0, ef⟩ | ⟨y0, ef⟩
        · rw [ef] at hΦ; exact ek_in0 y0 _ ⟨fun _ => hΦ, fun g => absurd rfl g⟩
        · rw [ef] at hΦ; exact ek_in1 y0 _ ⟨fun g => absurd g (by decide), fun _ => hΦ⟩)
      refine ⟨fun g => absurd g (ne (b := 8) (by omega) (by omega) (by omega)), fun g => absurd g (ne (b := 9) (by omega) (by omega) (by omega)), fun g => absurd g (ne (b := 18) (by omega) (by omega) (by omega)), fun g => absurd g (ne (b := 19) (by omega) (by omega) (by omega)), fun _ => fin, fun _ => fin, fun g => ?_⟩
      rcases c with c | c
      · rw [c] at g; exact absurd rfl g.2.2.2.2.1
      · rw [c] at g; exact absurd rfl g.2.2.2.2.2
    · rw [hy] at hΦ
      exact ⟨fun g => absurd g (ne (b := 8) (by omega) (by omega) (by omega)), fun g => absurd g (ne (b := 9) (by omega) (by omega) (by omega)), fun g => absurd g (ne (b := 18) (by omega) (by omega) (by omega)), fun g => absurd g (ne (b := 19) (by omega) (by omega) (by omega)), fun g => absurd g (ne (b := 20) (by omega) (by omega) (by omega)), fun g => absurd g (ne (b := 21) (by omega) (by omega) (by omega)), fun _ => hΦ⟩
  · rw [cl (by omega)] at g2; exact absurd g2 h1
end FT

section FM
variable {cp p a k : Nat} {s t : KS} {L : List Int32} {pl : Int32} {m : Nat → Int32}
theorem lkB_ok (hk9 : k < 42) (h1 : ¬ tL k = -1) : lkB (nI k) = nI (lkN k) := by
  rw [lk_tab k (by omega), if_pos hk9]
  exact (lkN_eq hk9 h1).1
theorem fm_head (hp : p < 16) (mv : MV t p L pl m) (ha : a < 128) (hpl : pl = nI a) (hk : m a &&& 255 = nI k) {Φ : Int32 → KS → Prop}
    (g : ((0 ≤ lkB (nI k) → ((lkB (nI k) ≤ nI L.length → ((nI k = (8 : Int32) → w_M_faultOf_80 (nI p) Φ (nI k) (m a >>> ((8 : Int32) &&& 31)) t) ∧ (¬ nI k = (8 : Int32) → ((¬ nI k = (9 : Int32) → w_M_faultOf_92 (nI p) Φ (nI k) (m a >>> ((8 : Int32) &&& 31)) t) ∧ (nI k = (9 : Int32) → w_M_faultOf_80 (nI p) Φ (nI k) (m a >>> ((8 : Int32) &&& 31)) t))))) ∧ (¬ lkB (nI k) ≤ nI L.length → Φ (1 : Int32) t))) ∧ (¬ 0 ≤ lkB (nI k) → Φ (5 : Int32) t))) : w_M_faultOf (nI p) t Φ := by
  unfold w_M_faultOf
  have e1 : (128 : Int32) * nI p + nI a = nI (128 * p + a) := ix 128 p a
  rw [cl (n := p) (by omega), mv.2.2.1, hpl]
  refine ⟨vin hp (by omega), em_in1 ⟨a, ha, rfl⟩ _ ⟨fun _ => ⟨vin hp (by omega), ?_⟩, fun g => absurd g (by decide)⟩⟩
  rw [mv.2.2.1, hpl, e1, cl (n := 128 * p + a) (by omega), mv.2.2.2 a ha]
  refine ⟨vin (by omega) (by omega), fun y3 e3 y4 e4 y5 e5 => ?_⟩
  rw [e5, e4, e3, hk]
  refine em_looks _ ⟨fun h0 => ⟨vin hp (by omega), em_looks _ ?_⟩, g.2⟩
  rw [mv.1]
  exact g.1 h0
theorem fm_place (hp : p < 16) (mv : MV t p L pl m) (h : ¬ inM pl) : EI (w_M_faultOf (nI p) t) 4 t := by
  intro Φ hΦ
  unfold w_M_faultOf
  rw [cl (n := p) (by omega), mv.2.2.1]
  exact ⟨vin hp (by omega), em_in0 h _ ⟨fun g => absurd rfl g, fun _ => hΦ⟩⟩
theorem fm_kind (hp : p < 16) (mv : MV t p L pl m) (ha : a < 128) (hpl : pl = nI a) (hk : m a &&& 255 = nI k) (hk9 : k < 256) (h : 42 ≤ k ∨ tL k = -1) : EI (w_M_faultOf (nI p) t) 5 t := by
  have e : lkB (nI k) = -1 := by
    rw [lk_tab k hk9]
    by_cases c : k < 42
    · rw [if_pos c]
      rcases h with h | h
      · omega
      · exact h
    · rw [if_neg c]
  intro Φ hΦ
  refine fm_head hp mv ha hpl hk ⟨fun g => ?_, fun _ => hΦ⟩
  rw [e] at g
  exact absurd g (by decide)
theorem fm_low (hp : p < 16) (mv : MV t p L pl m) (ha : a < 128) (hpl : pl = nI a) (hk : m a &&& 255 = nI k) (hk9 : k < 42) (h1 : ¬ tL k = -1) (h : L.length < lkN k) : EI (w_M_faultOf (nI p) t) 1 t := by
  have e2 := (lkN_eq hk9 h1).2
  intro Φ hΦ
  refine fm_head hp mv ha hpl hk ?_
  rw [lkB_ok hk9 h1]
  exact ⟨fun _ => ⟨fun g => absurd g (nI_ge h (by omega)), fun _ => hΦ⟩, fun g => absurd (nI_pos' (by omega)) g⟩
theorem fm_sf {f : Int32} (hp : p < 16) (mv : MV t p L pl m) (hl : L.length ≤ 32) (ha : a < 128) (hpl : pl = nI a) (hk : m a &&& 255 = nI k) (hk9 : k < 42) (h1 : ¬ tL k = -1) (h : lkN k ≤ L.length) (hf : sfO k L (m a >>> ((8 : Int32) &&& 31)) f) {Φ : Int32 → KS → Prop} (g1 : ¬ f = 0 → Φ f t) (g2 : f = 0 → w_M_faultOf_140 (nI p) Φ (nI k) t) : w_M_faultOf (nI p) t Φ := by
  have e2 := (lkN_eq hk9 h1).2
  refine fm_head hp mv ha hpl hk ?_
  rw [lkB_ok hk9 h1]
  refine ⟨fun _ => ⟨fun _ => ?_, fun g => absurd (nI_le h (by omega)) g⟩, fun g => absurd (nI_pos' (by omega)) g⟩
  have ne : ∀ {a b : Nat}, a < 256 → b < 256 → a ≠ b → ¬ nI a = nI b := fun x y z => nI_ne (by omega) (by omega) z
  have no92 : ¬ (k = 18 ∨ k = 19) → w_M_faultOf_112 (nI p) Φ (nI k) t → w_M_faultOf_92 (nI p) Φ (nI k) (m a >>> ((8 : Int32) &&& 31)) t := fun c g => by
    unfold w_M_faultOf_92
    exact ⟨fun e => absurd e (ne (b := 18) (by omega) (by omega) (by omega)), fun _ => ⟨fun _ => g, fun e => absurd e (ne (b := 19) (by omega) (by omega) (by omega))⟩⟩
  have no112 : ¬ (k = 20 ∨ k = 21) → w_M_faultOf_140 (nI p) Φ (nI k) t → w_M_faultOf_112 (nI p) Φ (nI k) t := fun c g => by
    unfold w_M_faultOf_112
    exact ⟨fun e => absurd e (ne (b := 20) (by omega) (by omega) (by omega)), fun _ => ⟨fun _ => g, fun e => absurd e (ne (b := 21) (by omega) (by omega) (by omega))⟩⟩
  have bad : Φ 3 t → w_M_faultOf_136 (nI p) Φ (nI k) t := fun g => ⟨fun e => absurd e (by decide), fun _ => g⟩
  rcases hf with ⟨c, L0, y, eL, hy⟩ | ⟨c, hy⟩ | ⟨c, L0, y, eL, hy⟩ | ⟨c, hy⟩
  · have hl0 : L0.length < 32 := by rw [eL, List.length_append] at hl; simp at hl; omega
    rw [eL] at mv
    have fin : w_M_faultOf_80 (nI p) Φ (nI k) (m a >>> ((8 : Int32) &&& 31)) t := by
      unfold w_M_faultOf_80
      refine em_top0 hp mv (by omega) _ ?_
      rcases hy with ⟨y0, ef⟩ | ⟨y0, ef⟩
      · exact ⟨fun e => absurd y0 e, fun _ => by rw [ef] at g1; exact g1 (by decide)⟩
      · exact ⟨fun _ => no92 (by omega) (no112 (by omega) (g2 ef)), fun e => absurd e y0⟩
    refine ⟨fun _ => fin, fun e8 => ⟨fun e9 => ?_, fun _ => fin⟩⟩
    rcases c with c | c
    · rw [c] at e8; exact absurd rfl e8
    · rw [c] at e9; exact absurd rfl e9
  · have fin : w_M_faultOf_92 (nI p) Φ (nI k) (m a >>> ((8 : Int32) &&& 31)) t := by
      have f104 : w_M_faultOf_104 (nI p) Φ (nI k) (m a >>> ((8 : Int32) &&& 31)) t := by
        unfold w_M_faultOf_104
        rcases hy with ⟨y0, ef⟩ | ⟨y0, ef⟩
        · exact em_in0 y0 _ ⟨fun _ => bad (by rw [ef] at g1; exact g1 (by decide)), fun e => absurd rfl e⟩
        · exact em_in1 y0 _ ⟨fun e => absurd e (by decide), fun _ => no112 (by omega) (g2 ef)⟩
      unfold w_M_faultOf_92
      refine ⟨fun _ => f104, fun e18 => ⟨fun e19 => ?_, fun _ => f104⟩⟩
      rcases c with c | c
      · rw [c] at e18; exact absurd rfl e18
      · rw [c] at e19; exact absurd rfl e19
    exact ⟨fun e => absurd e (ne (b := 8) (by omega) (by omega) (by omega)), fun _ => ⟨fun _ => fin, fun e => absurd e (ne (b := 9) (by omega) (by omega) (by omega))⟩⟩
  · have hl0 : L0.length < 32 := by rw [eL, List.length_append] at hl; simp at hl; omega
    rw [eL] at mv
    have fin : w_M_faultOf_112 (nI p) Φ (nI k) t := by
      have f124 : w_M_faultOf_124 (nI p) Φ (nI k) t := by
        unfold w_M_faultOf_124
        refine em_top0 hp mv (by omega) _ ?_
        rcases hy with ⟨y0, ef⟩ | ⟨y0, ef⟩
        · exact em_in0 y0 _ ⟨fun e => absurd rfl e, fun _ => bad (by rw [ef] at g1; exact g1 (by decide))⟩
        · exact em_in1 y0 _ ⟨fun _ => g2 ef, fun e => absurd e (by decide)⟩
      unfold w_M_faultOf_112
      refine ⟨fun _ => f124, fun e18 => ⟨fun e19 => ?_, fun _ => f124⟩⟩
      rcases c with c | c
      · rw [c] at e18; exact absurd rfl e18
      · rw [c] at e19; exact absurd rfl e19
    have f92 := no92 (by omega) fin
    exact ⟨fun e => absurd e (ne (b := 8) (by omega) (by omega) (by omega)), fun _ => ⟨fun _ => f92, fun e => absurd e (ne (b := 9) (by omega) (by omega) (by omega))⟩⟩
  · have f92 := no92 (by omega) (no112 (by omega) (g2 hy))
    exact ⟨fun e => absurd e (ne (b := 8) (by omega) (by omega) (by omega)), fun _ => ⟨fun _ => f92, fun e => absurd e (ne (b := 9) (by omega) (by omega) (by omega))⟩⟩
theorem fm_tail {r : Int32} (hp : p < 16) (mv : MV t p L pl m) (hl : L.length ≤ 32) (hk9 : k < 42) (h1 : ¬ tL k = -1) (h : lkN k ≤ L.length) (hr : EI (w_M_rowFor (nI p) (nI k) t) r t) {Φ : Int32 → KS → Prop} (g : if L.length - lkN k + puN k ≤ 32 then Φ 0 t else if 0 ≤ r then Φ 0 t else Φ 2 t) : w_M_faultOf_140 (nI p) Φ (nI k) t := by
  have e2 := (lkN_eq hk9 h1).2
  obtain ⟨p1, p2⟩ := puN_eq k hk9
  have es : nI L.length - nI (lkN k) + nI (puN k) = nI (L.length - lkN k + puN k) := by rw [pk_sub h, nI_add]
  unfold w_M_faultOf_140 w_M_faultOf_141
  refine ⟨fun _ => ⟨vin hp (by omega), em_looks _ (em_pushes _ ?_)⟩, fun e => absurd rfl e⟩
  rw [cl (n := p) (by omega), mv.1, lkB_ok hk9 h1, p1, es]
  refine pk_le _ 32 (fun c => ?_) (fun c => ?_)
  · rw [if_pos c] at g
    unfold w_M_faultOf_176
    exact ⟨fun _ => g, fun e => absurd rfl e⟩
  · rw [if_neg (by omega)] at g
    unfold w_M_faultOf_176
    refine ⟨fun e => absurd e (by decide), fun _ => hr _ ⟨fun e => ?_, fun e => ?_⟩⟩
    · rw [if_pos e] at g; exact g
    · rw [if_neg e] at g; exact g
/-- the class's own look at the stack's height -/
theorem ek_over (kv : KV s p L pl m) (hl : L.length ≤ 32) (ha : a < 128) (hpl : pl = nI a) (hk : m a &&& 255 = nI k) (hk9 : k < 42) (h1 : ¬ tL k = -1) (h : lkN k ≤ L.length) : EI (w_P_wouldOverflow cp p s) (if L.length - lkN k + puN k ≤ 32 then 0 else 1) s := by
  have e2 := lkN_eq hk9 h1
  obtain ⟨p1, p2⟩ := puN_eq k hk9
  have eg : nI L.length + tG k = nI (L.length - lkN k + puN k) := by
    have hs := pu_tab k hk9 h1
    rw [p1, e2.1] at hs
    have : tG k = nI (puN k) - nI (lkN k) := by rw [← hs]; rw [Int32.add_comm, Int32.add_sub_cancel]
    have e3 : nI L.length = nI (L.length - lkN k) + nI (lkN k) := by rw [nI_add]; congr 1; omega
    rw [this, e3, ← nI_add]
    rw [Int32.add_assoc, Int32.add_comm (nI (lkN k)), Int32.sub_add_cancel]
  intro Φ hΦ
  unfold w_P_wouldOverflow
  refine ek_kind kv ha hpl hk _ ⟨vin hk9 (by omega), ?_⟩
  rw [cl (by omega), kv.1, eg]
  refine pk_le _ 32 (fun c => ?_) (fun c => ?_)
  · rw [if_pos c] at hΦ; exact hΦ
  · rw [if_neg (by omega)] at hΦ; exact hΦ
end FM

/-! descriptors: the least closed one, how many are closed, one is opened -/
def FD (f : Nat → Int32) (i d : Nat) : Prop := i ≤ d ∧ d ≤ 8 ∧ (∀ j, i ≤ j → j < d → ¬ f j = 0) ∧ (d < 8 → f d = 0)
theorem fd_ex (f : Nat → Int32) (i : Nat) (hi : i ≤ 8) : ∃ d, FD f i d := by
  obtain ⟨d, ⟨h1, h2⟩, h3⟩ := pk_least (fun k => i ≤ k ∧ (k = 8 ∨ f k = 0)) ⟨8, hi, Or.inl rfl⟩
  have d8 : d ≤ 8 := by
    apply Nat.le_of_not_lt
    intro g
    exact h3 8 g ⟨hi, Or.inl rfl⟩
  refine ⟨d, h1, d8, fun j hj hjd e => h3 j hjd ⟨hj, Or.inr e⟩, fun g => ?_⟩
  rcases h2 with h2 | h2
  · omega
  · exact h2
def mkB (g : Nat → Bool) : Nat → Int32
  | 0 => 0
  | i + 1 => if g i = true then mkB g i else mkB g i ||| ((1 : Int32) <<< (nI i &&& 31))
def mk (f : Nat → Int32) (i : Nat) : Int32 := mkB (fun j => decide (f j = 0)) i
def ctB (g : Nat → Bool) : Nat → Nat
  | 0 => 0
  | i + 1 => ctB g i + if g i = true then 1 else 0
theorem ct_eq (f : Nat → Int32) : ∀ i, ctB (fun j => decide (f j = 0)) i = cnt f 0 i := by
  intro i
  induction i with
  | zero => rfl
  | succ i ih =>
    unfold ctB cnt
    rw [ih]
    by_cases c : f i = 0
    · simp [c]
    · simp [c]
def bcF (x0 : Int32) : Int32 :=
  let y1 := x0 - (((x0.toUInt32 >>> ((1 : Int32).toUInt32 &&& Int32.toUInt32 31)).toInt32) &&& (1431655765 : Int32))
  let y2 := (y1 &&& (858993459 : Int32)) + (((y1.toUInt32 >>> ((2 : Int32).toUInt32 &&& Int32.toUInt32 31)).toInt32) &&& (858993459 : Int32))
  let y3 := (y2 + ((y2.toUInt32 >>> ((4 : Int32).toUInt32 &&& Int32.toUInt32 31)).toInt32)) &&& (252645135 : Int32)
  let y4 := y3 + ((y3.toUInt32 >>> ((8 : Int32).toUInt32 &&& Int32.toUInt32 31)).toInt32)
  let y5 := y4 + ((y4.toUInt32 >>> ((16 : Int32).toUInt32 &&& Int32.toUInt32 31)).toInt32)
  y5 &&& (63 : Int32)
def ch (b0 b1 b2 b3 b4 b5 b6 b7 : Bool) : Nat → Bool
  | 0 => b0 | 1 => b1 | 2 => b2 | 3 => b3 | 4 => b4 | 5 => b5 | 6 => b6 | 7 => b7 | _ => false
theorem bc_tab : ∀ b0 b1 b2 b3 b4 b5 b6 b7 : Bool, 8 - bcF (mkB (ch b0 b1 b2 b3 b4 b5 b6 b7) 8) = nI (ctB (ch b0 b1 b2 b3 b4 b5 b6 b7) 8) := by decide +kernel
theorem mkB_cg {g g' : Nat → Bool} : ∀ i, (∀ j, j < i → g j = g' j) → mkB g i = mkB g' i ∧ ctB g i = ctB g' i := by
  intro i
  induction i with
  | zero => intro _; exact ⟨rfl, rfl⟩
  | succ i ih =>
    intro h
    obtain ⟨a, b⟩ := ih (fun j hj => h j (by omega))
    unfold mkB ctB
    rw [a, b, h i (by omega)]
    exact ⟨rfl, rfl⟩
theorem bc8 (f : Nat → Int32) : 8 - bcF (mk f 8) = nI (cnt f 0 8) := by
  have e : ∀ j, j < 8 → (fun j => decide (f j = 0)) j = ch (decide (f 0 = 0)) (decide (f 1 = 0)) (decide (f 2 = 0)) (decide (f 3 = 0)) (decide (f 4 = 0)) (decide (f 5 = 0)) (decide (f 6 = 0)) (decide (f 7 = 0)) j := fun j hj => by
    have : j = 0 ∨ j = 1 ∨ j = 2 ∨ j = 3 ∨ j = 4 ∨ j = 5 ∨ j = 6 ∨ j = 7 := by omega
    rcases this with e | e | e | e | e | e | e | e <;> subst e <;> rfl
  obtain ⟨a, b⟩ := mkB_cg 8 e
  unfold mk
  rw [← ct_eq, a, b]
  exact bc_tab _ _ _ _ _ _ _ _
theorem cnt_0 {f : Nat → Int32} {x : Int32} : ∀ {n : Nat}, (∀ j, j < n → ¬ f j = x) → cnt f x n = 0 := by
  intro n
  induction n with
  | zero => intro _; rfl
  | succ n ih => intro h; unfold cnt; rw [ih (fun j hj => h j (by omega)), if_neg (h n (by omega))]
theorem fd_two {f : Nat → Int32} {d1 d2 : Nat} (h1 : FD f 0 d1) (h8 : d1 < 8) (h2 : FD f (d1 + 1) d2) : d2 < 8 ↔ 2 ≤ cnt f 0 8 := by
  have hu := cnt_upd (f := f) (x := 0) (v := 1) (k := d1) (n := 8) h8
  rw [if_pos (h1.2.2.2 h8), if_neg (by decide)] at hu
  constructor
  · intro g
    have hne : d2 ≠ d1 := by have := h2.1; omega
    have := cnt_pos (f := upd f d1 1) (x := 0) (k := d2) (n := 8) g (by rw [upd_e, if_neg hne]; exact h2.2.2.2 g)
    omega
  · intro g
    apply Nat.lt_of_not_le
    intro k
    have := cnt_0 (f := upd f d1 1) (x := 0) (n := 8) (fun j hj e => by
      rw [upd_e] at e
      by_cases c : j = d1
      · rw [if_pos c] at e; exact absurd e (by decide)
      · rw [if_neg c] at e
        by_cases c2 : j < d1
        · exact h1.2.2.1 j (by omega) c2 e
        · exact h2.2.2.1 j (by omega) (by omega) e)
    omega
section OP
variable {cp T p : Nat} {s0 s t s1 t1 s' t' : KS} {q : List Nat} {row : Nat → List Nat} {L : List Int32} {pl x y : Int32} {m : Nat → Int32}
theorem ek_lc {d : Nat} (h : FD (s 4 p) 0 d) : EI (w_P_leastClosed cp p s) (if d < 8 then nI d else -1) s := by
  have hd8 := h.2.1
  have key : ∃ n, ∀ Φ : Int32 → KS → Prop, Φ (if d < 8 then nI d else -1) s → w_P_leastClosed_2 cp p Φ n (nI 0) s := by
    refine pk_loop (fun n i (_ : Unit) => ∀ Φ : Int32 → KS → Prop, Φ (if d < 8 then nI d else -1) s → w_P_leastClosed_2 cp p Φ n (nI i) s) (fun _ _ => True) d 0 () (by omega) trivial ?_ ?_
    · intro n _ _ Φ hΦ
      unfold w_P_leastClosed_2
      by_cases c : d < 8
      · rw [if_pos c] at hΦ
        rw [cl (n := d) (by omega)]
        exact ⟨fun g => absurd g (nI_ge (b := 8) c (by omega)), fun _ => ⟨vin c (by omega), fun g => absurd (h.2.2.2 c) g, fun _ => hΦ⟩⟩
      · rw [if_neg c] at hΦ
        exact ⟨fun _ => hΦ, fun g => absurd (nI_le (a := 8) (by omega) (by omega)) g⟩
    · intro n i _ hi _ hnext Φ hΦ
      unfold w_P_leastClosed_2
      rw [cl (n := i) (by omega)]
      exact ⟨fun g => absurd g (nI_ge (b := 8) (by omega) (by omega)), fun _ => ⟨vin (by omega) (by omega), fun _ z ez => by rw [ez, nI_1]; exact hnext () trivial Φ hΦ, fun g => absurd g (h.2.2.1 i (by omega) hi)⟩⟩
  obtain ⟨n, h2⟩ := key
  exact fun Φ hΦ => ⟨n, h2 Φ hΦ⟩
theorem em_fd {i d : Nat} (hp : p < 16) (hf : ∀ j, j < 8 → t 31 0 (8 * p + j) = s 4 p j) (h : FD (s 4 p) i d) : EI (w_M_freeDescriptor (nI p) (nI i) t) (nI d) t := by
  have hd8 := h.2.1
  have key : ∃ n, ∀ Φ : Int32 → KS → Prop, Φ (nI d) t → w_M_freeDescriptor_2 (nI p) (nI i) Φ n (nI i) t := by
    refine pk_loop (fun n j (_ : Unit) => ∀ Φ : Int32 → KS → Prop, Φ (nI d) t → w_M_freeDescriptor_2 (nI p) (nI i) Φ n (nI j) t) (fun j _ => i ≤ j) d i () h.1 (Nat.le_refl i) ?_ ?_
    · intro n _ _ Φ hΦ
      have e1 : (8 : Int32) * nI p + nI d = nI (8 * p + d) := ix 8 p d
      unfold w_M_freeDescriptor_2
      by_cases c : d < 8
      · rw [e1, cl (n := 8 * p + d) (by omega), hf d c]
        exact ⟨fun g => absurd g (nI_ge (b := 8) c (by omega)), fun _ => ⟨vin (by omega) (by omega), fun _ => hΦ, fun g => absurd (h.2.2.2 c) g⟩⟩
      · exact ⟨fun _ => hΦ, fun g => absurd (nI_le (a := 8) (by omega) (by omega)) g⟩
    · intro n j _ hj hij hnext Φ hΦ
      have e1 : (8 : Int32) * nI p + nI j = nI (8 * p + j) := ix 8 p j
      unfold w_M_freeDescriptor_2
      rw [e1, cl (n := 8 * p + j) (by omega), hf j (by omega)]
      exact ⟨fun g => absurd g (nI_ge (b := 8) (by omega) (by omega)), fun _ => ⟨vin (by omega) (by omega), fun g => absurd g (h.2.2.1 j hij hj), fun _ z ez => by rw [ez, nI_1]; exact hnext () (by omega) Φ hΦ⟩⟩
  obtain ⟨n, h2⟩ := key
  exact fun Φ hΦ => ⟨n, h2 Φ hΦ⟩
theorem em_fd9 : EI (w_M_freeDescriptor (nI p) (nI 9) t) (nI 9) t := by
  intro Φ hΦ
  refine ⟨1, ?_⟩
  unfold w_M_freeDescriptor_2
  exact ⟨fun _ => hΦ, fun g => absurd (by decide) g⟩
theorem ek_mask : EI (w_P_openDescriptors cp p s) (mk (s 4 p) 8) s := by
  have key : ∃ n, ∀ Φ : Int32 → KS → Prop, Φ (mk (s 4 p) 8) s → w_P_openDescriptors_4 cp p Φ n 0 (nI 0) s := by
    refine pk_loop (fun n i (v : Int32) => ∀ Φ : Int32 → KS → Prop, Φ (mk (s 4 p) 8) s → w_P_openDescriptors_4 cp p Φ n v (nI i) s) (fun i v => v = mk (s 4 p) i) 8 0 0 (by omega) rfl ?_ ?_
    · intro n v hv Φ hΦ
      unfold w_P_openDescriptors_4
      rw [hv]
      exact ⟨fun _ => hΦ, fun g => absurd (by decide) g⟩
    · intro n i v hi hv hnext Φ hΦ
      unfold w_P_openDescriptors_4
      rw [cl (n := i) (by omega)]
      refine ⟨fun g => absurd g (nI_ge (b := 8) hi (by omega)), fun _ => ⟨vin hi (by omega), fun c z ez => ?_, fun c z ez z2 ez2 => ?_⟩⟩
      · rw [ez, nI_1]
        refine hnext _ ?_ Φ hΦ
        rw [hv]
        unfold mk
        show _ = if decide (s 4 p i = 0) = true then _ else _
        rw [if_pos (by simpa using c)]
      · rw [ez2, nI_1]
        refine hnext _ ?_ Φ hΦ
        rw [ez, hv]
        unfold mk
        show _ = if decide (s 4 p i = 0) = true then _ else _
        rw [if_neg (by simpa using c)]
  obtain ⟨n, h2⟩ := key
  exact fun Φ hΦ => ⟨n, h2 Φ hΦ⟩
theorem ek_closed : EI (w_P_countClosed cp p s) (nI (cnt (s 4 p) 0 8)) s := by
  intro Φ hΦ
  unfold w_P_countClosed
  refine ek_mask _ ?_
  rw [← bc8] at hΦ
  unfold w_I_bitCount
  intro y1 e1 y2 e2 y3 e3 y4 e4 y5 e5
  rw [e5, e4, e3, e2, e1]
  exact hΦ
theorem op_cnt {f : Nat → Int32} {k n z : Nat} (hk : k < 128) (hf : f k = 0) (hn : n < 100) (hz : 1 ≤ z) (hz2 : z < 100) : cnt (upd f k (nI n)) (nI z) 128 = cnt f (nI z) 128 + if n = z then 1 else 0 := by
  have h := cnt_upd (f := f) (x := nI z) (v := nI n) (k := k) (n := 128) hk
  rw [hf, if_neg (fun e => nI_ne0 (n := z) (by omega) (by omega) e.symm)] at h
  by_cases c : n = z
  · rw [if_pos c]
    rw [c, if_pos rfl] at h
    rw [c]; omega
  · rw [if_neg c]
    rw [if_neg (nI_ne (by omega) (by omega) c)] at h
    omega
/-- one is opened -/
theorem op_pair {d n : Nat} (hY : XY s t q row) (hH : XH cp T s t) (hF : XF s t) (hZ : Z s T) (hp : p < 16) (h1 : s 1 p 7 = 1) (hd : d < 8) (h0 : s 4 p d = 0) (hn : n = 0 ∨ n = 1 ∨ n = 2 ∨ (10 ≤ n ∧ n < 18) ∨ (20 ≤ n ∧ n < 28)) : ∃ s1, EK (w_K_addEnd cp (nI n) (w3 s 4 p d (nI n))) s1 ∧ XY s1 (w3 t 31 0 (8 * p + d) (nI n)) q row ∧ XH cp T s1 (w3 t 31 0 (8 * p + d) (nI n)) ∧ XF s1 (w3 t 31 0 (8 * p + d) (nI n)) ∧ Z s1 T ∧ s1 1 = s 1 ∧ s1 2 = s 2 ∧ s1 3 = s 3 ∧ s1 0 = s 0 ∧ (∀ i e, s1 4 i e = if i = p ∧ e = d then nI n else s 4 i e) := by
  have hP1 := de_P (v := nI n) hp hd ⟨n, rfl, hn⟩ hY.1
  have t0 : t 31 0 (8 * p + d) = 0 := by rw [(hY.1.2.2.2.2.1 p hp d hd).1]; exact h0
  have ct : ∀ z, 1 ≤ z → z < 100 → cnt (w3 t 31 0 (8 * p + d) (nI n) 31 0) (nI z) 128 = cnt (t 31 0) (nI z) 128 + if n = z then 1 else 0 := fun z z1 z2 => op_cnt (f := t 31 0) (by omega) t0 (by omega) z1 z2
  have hdd : ∀ i e, w3 s 4 p d (nI n) 4 i e = if i = p ∧ e = d then nI n else s 4 i e := fun i e => by rw [w3_eq]; simp
  have hZ1 : Z (w3 s 4 p d (nI n)) T := by
    obtain ⟨Z1, Z2, Z3, Z4⟩ := hZ
    refine ⟨fun i hi hz e he => ?_, Z2, Z3, Z4⟩
    have ne : i ≠ p := fun g => by
      have hz' : s 1 i 7 = 0 ∨ s 1 i 7 = 6 := hz
      rw [g, h1] at hz'
      rcases hz' with k | k <;> exact absurd k (by decide)
    rw [hdd, if_neg (fun g => ne g.1)]
    exact Z1 i hi hz e he
  have hF1 : XF (w3 s 4 p d (nI n)) (w3 t 31 0 (8 * p + d) (nI n)) := by
    intro w hw c1 c2
    rw [ct _ (by omega) (by omega)] at c1 c2
    exact hF w hw (by omega) (by omega)
  by_cases c : n < 10
  · refine ⟨w3 s 4 p d (nI n), fun Φ hΦ => ?_, ⟨hP1, hY.2⟩, ⟨fun z z1 z2 => ?_, hH.2⟩, hF1, hZ1, rfl, rfl, rfl, rfl, hdd⟩
    · unfold w_K_addEnd
      exact ⟨fun _ => hΦ, fun g => absurd (nI_lt (b := 10) c (by omega)) g⟩
    · rw [ct z (by omega) (by omega), if_neg (by omega), Nat.add_zero]
      exact hH.1 z z1 z2
  · have e7 : s 7 0 n = nI (cnt (t 31 0) (nI n) 128) := hH.1 n (by omega) (by omega)
    have hb := cnt_le (t 31 0) (nI n) 128
    refine ⟨w3 (w3 s 4 p d (nI n)) 7 0 n (nI (cnt (t 31 0) (nI n) 128 + 1)), fun Φ hΦ => ?_, ⟨hP1, hY.2⟩, ⟨fun z z1 z2 => ?_, hH.2⟩, hF1, hZ1, rfl, rfl, rfl, rfl, hdd⟩
    · unfold w_K_addEnd
      rw [cl (n := n) (by omega)]
      refine ⟨fun g => absurd g (nI_nlt (b := 10) (by omega) (by omega)), fun _ => ⟨vin (by omega) (by omega), vin (by omega) (by omega), fun z ez => ?_⟩⟩
      have e7' : w3 s 4 p d (nI n) 7 0 n = nI (cnt (t 31 0) (nI n) 128) := e7
      rw [e7', nI_1] at ez
      rw [ez]
      exact hΦ
    · rw [ct z (by omega) (by omega), w3_eq]
      by_cases g : z = n
      · rw [if_pos ⟨rfl, rfl, g⟩, if_pos g.symm, g]
      · rw [if_neg (fun k => g k.2.2), if_neg (fun k => g k.symm), Nat.add_zero]
        exact hH.1 z z1 z2
theorem ek_open {d n : Nat} (h : FD (s 4 p) 0 d) (hd : d < 8) (e : EK (w_K_addEnd cp (nI n) (w3 s 4 p d (nI n))) s1) : EI (w_K_openDescriptor cp p (nI n) s) (nI d) s1 := by
  intro Φ hΦ
  unfold w_K_openDescriptor
  have hl := ek_lc (cp := cp) h
  rw [if_pos hd] at hl
  refine hl _ ⟨fun g => absurd g (nI_m1 (by omega)), fun _ => ⟨vin hd (by omega), fun z ez => ?_⟩⟩
  rw [cl (n := d) (by omega)] at ez
  rw [ez]
  exact e _ hΦ
/-- DUPLICATE -/
theorem c40 (hA : EI (w_P_pop cp p s0) y s) (h : Pre cp T p s t q row) (kv : KV s p L pl m) (mv : MV t p L pl m) (hl : L.length < 32) : ∃ s' t', EK (w_K_duplicate cp p s0) s' ∧ EK (w_M_call (nI p) (nI 40) y y t) t' ∧ Out cp T p s t s' t' := by
  have hD := h
  have h1 := h.st1
  obtain ⟨hY, hH, hF, hZ, hp, hq, hb, hn0⟩ := h
  obtain ⟨n, hn, hd⟩ := dAt_ok (y := y) hp hY.1
  have oD : EI (w_M_descriptorOf (nI p) y t) (nI n) t := by
    have := em_descOf (y := y) hp hY.1
    rw [hn] at this
    exact this
  have hM : ∀ t', EK (w_M_dup (nI p) y t) t' → EK (w_M_call (nI p) (nI 40) y y t) t' := fun t' e Φ hΦ => by
    have hc := e Φ hΦ
    exact ⟨fun g => absurd g (by decide), fun g => absurd g (by decide), fun g => absurd g (by decide), fun g => absurd g (by decide), fun g => absurd g (by decide), fun g => absurd g (by decide), fun g => absurd g (by decide), fun g => absurd g (by decide), fun g => absurd g (by decide), fun g => absurd g (by decide), fun _ => hc, fun g => absurd g (by decide)⟩
  obtain ⟨d, fd⟩ := fd_ex (s 4 p) 0 (by omega)
  have ff := em_fd (i := 0) hp (fun j hj => (hY.1.2.2.2.2.1 p hp j hj).1) fd
  have fk := ek_lc (cp := cp) fd
  by_cases c0 : n = 0
  · subst c0
    obtain ⟨s', t', e1, e2, o⟩ := out_push (x := -1) hD kv mv hl
    refine ⟨s', t', fun Φ hΦ => ?_, hM t' (fun Φ hΦ => ?_), o⟩
    · unfold w_K_duplicate w_K_duplicate_24
      refine hA _ (ek_descAt _ ?_)
      rw [hn]
      exact ⟨fun g => absurd rfl g, fun _ => e1 _ hΦ⟩
    · unfold w_M_dup w_M_dup_22
      exact ff _ (oD _ ⟨fun _ => e2 _ hΦ, fun g => absurd rfl g⟩)
  have nz : ¬ nI n = 0 := nI_ne0 (by omega) (by omega)
  by_cases c8 : d < 8
  · obtain ⟨s1, ea, Y1, H1, F1, Z1, q1, q2, q3, q0, q4⟩ := op_pair (cp := cp) (n := n) hY hH hF hZ hp h1 c8 (fd.2.2.2 c8) hd
    have eo := ek_open fd c8 ea
    have kv1 := KV_cg kv q1 q2 q3
    have mv1 : MV (w3 t 31 0 (8 * p + d) (nI n)) p L pl m := mv
    obtain ⟨s2, e2, v2, f2⟩ := ek_push (cp := cp) (x := nI d) kv1 hl
    obtain ⟨t2, g2, w2, k2⟩ := em_push (x := nI d) hp mv1 (by omega)
    have e8 : (8 : Int32) * nI p + nI d = nI (8 * p + d) := ix 8 p d
    refine ⟨s2, t2, fun Φ hΦ => ?_, hM t2 (fun Φ hΦ => ?_), out_fin (s := s) (t := t) Y1 H1 F1 Z1 hp hq (by rw [q1]; exact h1) f2 k2 v2 w2 (by rw [List.length_append]; simp; omega) ⟨by rw [q0], by rw [q0], rfl, rfl, rfl⟩⟩
    · unfold w_K_duplicate w_K_duplicate_24
      refine hA _ (ek_descAt _ ?_)
      rw [hn]
      exact ⟨fun _ => eo _ (e2 _ hΦ), fun g => absurd g nz⟩
    · unfold w_M_dup w_M_dup_22
      refine ff _ (oD _ ⟨fun g => absurd g nz, fun _ => ⟨fun _ => oD _ ?_, fun g => absurd (nI_lt (b := 8) c8 (by omega)) g⟩⟩)
      rw [e8, cl (n := 8 * p + d) (by omega)]
      refine ⟨vin (by omega) (by omega), fun z ez => ?_⟩
      rw [ez]
      exact g2 _ hΦ
  · have d8 : d = 8 := by have := fd.2.1; omega
    subst d8
    rw [if_neg (by omega)] at fk
    obtain ⟨s', t', e1, e2, o⟩ := out_push (x := -1) hD kv mv hl
    refine ⟨s', t', fun Φ hΦ => ?_, hM t' (fun Φ hΦ => ?_), o⟩
    · unfold w_K_duplicate w_K_duplicate_24
      refine hA _ (ek_descAt _ ?_)
      rw [hn]
      refine ⟨fun _ => ?_, fun g => absurd g nz⟩
      unfold w_K_openDescriptor
      exact fk _ ⟨fun _ => e1 _ hΦ, fun g => absurd rfl g⟩
    · unfold w_M_dup w_M_dup_22
      exact ff _ (oD _ ⟨fun g => absurd g nz, fun _ => ⟨fun g => absurd g (by decide), fun _ => e2 _ hΦ⟩⟩)
/-- the least pipe that is none -/
def FP (t : KS) (w : Nat) : Prop := w ≤ 8 ∧ (∀ j, j < w → ¬ (cnt (t 31 0) (nI (10 + j)) 128 = 0 ∧ cnt (t 31 0) (nI (20 + j)) 128 = 0)) ∧ (w < 8 → cnt (t 31 0) (nI (10 + w)) 128 = 0 ∧ cnt (t 31 0) (nI (20 + w)) 128 = 0)
theorem fp_ex (t : KS) : ∃ w, FP t w := by
  obtain ⟨d, h2, h3⟩ := pk_least (fun k => k = 8 ∨ (cnt (t 31 0) (nI (10 + k)) 128 = 0 ∧ cnt (t 31 0) (nI (20 + k)) 128 = 0)) ⟨8, Or.inl rfl⟩
  have d8 : d ≤ 8 := by
    apply Nat.le_of_not_lt
    intro g
    exact h3 8 g (Or.inl rfl)
  refine ⟨d, d8, fun j hjd e => h3 j hjd (Or.inr e), fun g => ?_⟩
  rcases h2 with h2 | h2
  · omega
  · exact h2
theorem ek_fp {w : Nat} (hH : XH cp T s t) (h : FP t w) : EI (w_K_freePipe cp s) (if w < 8 then nI w else -1) s := by
  have hw8 := h.1
  have key : ∃ n, ∀ Φ : Int32 → KS → Prop, Φ (if w < 8 then nI w else -1) s → w_K_freePipe_2 cp Φ n (nI 0) s := by
    refine pk_loop (fun n i (_ : Unit) => ∀ Φ : Int32 → KS → Prop, Φ (if w < 8 then nI w else -1) s → w_K_freePipe_2 cp Φ n (nI i) s) (fun _ _ => True) w 0 () (by omega) trivial ?_ ?_
    · intro n _ _ Φ hΦ
      unfold w_K_freePipe_2
      by_cases c : w < 8
      · rw [if_pos c] at hΦ
        have e10 : (10 : Int32) + nI w = nI (10 + w) := nI_add 10 w
        have e20 : (20 : Int32) + nI w = nI (20 + w) := nI_add 20 w
        have f10 : s 7 0 (10 + w) = 0 := by rw [hH.1 (10 + w) (by omega) (by omega), (h.2.2 c).1]; rfl
        have f20 : s 7 0 (20 + w) = 0 := by rw [hH.1 (20 + w) (by omega) (by omega), (h.2.2 c).2]; rfl
        rw [e10, e20, cl (n := 10 + w) (by omega), cl (n := 20 + w) (by omega)]
        exact ⟨fun g => absurd g (nI_ge (b := 8) c (by omega)), fun _ => ⟨vin (by omega) (by omega), fun g => absurd f10 g, fun _ => ⟨vin (by omega) (by omega), fun g => absurd f20 g, fun _ => hΦ⟩⟩⟩
      · rw [if_neg c] at hΦ
        exact ⟨fun _ => hΦ, fun g => absurd (nI_le (a := 8) (by omega) (by omega)) g⟩
    · intro n i _ hi _ hnext Φ hΦ
      unfold w_K_freePipe_2
      have e10 : (10 : Int32) + nI i = nI (10 + i) := nI_add 10 i
      have e20 : (20 : Int32) + nI i = nI (20 + i) := nI_add 20 i
      rw [e10, e20, cl (n := 10 + i) (by omega), cl (n := 20 + i) (by omega)]
      refine ⟨fun g => absurd g (nI_ge (b := 8) (by omega) (by omega)), fun _ => ⟨vin (by omega) (by omega), fun _ z ez => by rw [ez, nI_1]; exact hnext () trivial Φ hΦ, fun g1 => ⟨vin (by omega) (by omega), fun _ z ez => by rw [ez, nI_1]; exact hnext () trivial Φ hΦ, fun g2 => ?_⟩⟩⟩
      exfalso
      rw [hH.1 (10 + i) (by omega) (by omega)] at g1
      rw [hH.1 (20 + i) (by omega) (by omega)] at g2
      have b1 := cnt_le (t 31 0) (nI (10 + i)) 128
      have b2 := cnt_le (t 31 0) (nI (20 + i)) 128
      exact h.2.1 i hi ⟨nI_inj (b := 0) (by omega) (by omega) g1, nI_inj (b := 0) (by omega) (by omega) g2⟩
  obtain ⟨n, h2⟩ := key
  exact fun Φ hΦ => ⟨n, h2 Φ hΦ⟩
theorem em_fp {w : Nat} {x1 : Int32} (h : FP t w) {Φ : KS → Prop} (g : w_M_makePipe_22 x1 Φ (nI w) t) : w_M_makePipe x1 t Φ := by
  have hw8 := h.1
  have key : ∃ n, w_M_makePipe_2 x1 Φ n (nI 0) t := by
    refine pk_loop (fun n i (_ : Unit) => w_M_makePipe_2 x1 Φ n (nI i) t) (fun _ _ => True) w 0 () (by omega) trivial ?_ ?_
    · intro n _ _
      unfold w_M_makePipe_2
      refine ⟨fun _ => g, fun _ => em_isPipe _ ?_⟩
      refine ⟨fun _ => g, fun k => ?_⟩
      by_cases c : w < 8
      · rw [if_pos (h.2.2 c)] at k; exact absurd rfl k
      · exfalso
        have w8 : w = 8 := by omega
        rename_i k8
        rw [w8] at k8
        exact k8 (by decide)
    · intro n i _ hi _ hnext
      unfold w_M_makePipe_2
      refine ⟨fun k => absurd k (nI_ge (b := 8) (by omega) (by omega)), fun _ => em_isPipe _ ?_⟩
      rw [if_neg (h.2.1 i hi)]
      exact ⟨fun k => absurd k (by decide), fun _ z ez => by rw [ez, nI_1]; exact hnext () trivial⟩
  obtain ⟨n, h2⟩ := key
  exact ⟨n, h2⟩
/-- PIPE -/
theorem c38 (h : Pre cp T p s t q row) (kv : KV s p L pl m) (mv : MV t p L pl m) (hl : L.length < 31) : ∃ s' t', EK (w_K_openPipe cp p s) s' ∧ EK (w_M_call (nI p) (nI 38) x y t) t' ∧ Out cp T p s t s' t' := by
  have hD := h
  have h1 := h.st1
  obtain ⟨hY, hH, hF, hZ, hp, hq, hb, hn0⟩ := h
  have hM : ∀ t', EK (w_M_makePipe (nI p) t) t' → EK (w_M_call (nI p) (nI 38) x y t) t' := fun t' e Φ hΦ => by
    have hc := e Φ hΦ
    exact ⟨fun g => absurd g (by decide), fun g => absurd g (by decide), fun g => absurd g (by decide), fun g => absurd g (by decide), fun g => absurd g (by decide), fun g => absurd g (by decide), fun g => absurd g (by decide), fun g => absurd g (by decide), fun _ => hc, fun g => absurd g (by decide), fun g => absurd g (by decide), fun g => absurd g (by decide)⟩
  obtain ⟨w, fp⟩ := fp_ex t
  have hw8 := fp.1
  have fpk := ek_fp (cp := cp) hH fp
  have hf : ∀ j, j < 8 → t 31 0 (8 * p + j) = s 4 p j := fun j hj => (hY.1.2.2.2.2.1 p hp j hj).1
  obtain ⟨d1, fd1⟩ := fd_ex (s 4 p) 0 (by omega)
  have ff1 := em_fd (i := 0) hp hf fd1
  have hd8 := fd1.2.1
  have hcl := cnt_le (s 4 p) 0 8
  -- it can't be
  have no : (w = 8 ∨ cnt (s 4 p) 0 8 < 2) → (∀ Φ : KS → Prop, w_M_makePipe_52 (nI p) Φ t → w_M_makePipe_22 (nI p) Φ (nI w) t) → ∃ s' t', EK (w_K_openPipe cp p s) s' ∧ EK (w_M_call (nI p) (nI 38) x y t) t' ∧ Out cp T p s t s' t' := by
    intro hk hm
    obtain ⟨s', t1, t', e1, e2, e3, o⟩ := out_push2 (x := -1) (y := -1) hD kv mv hl
    refine ⟨s', t', fun Φ hΦ => ?_, hM t' (fun Φ hΦ => em_fp fp (hm _ ?_)), o⟩
    · unfold w_K_openPipe w_K_openPipe_18
      refine fpk _ ⟨fun _ => e1 _ hΦ, fun k => ek_closed _ (pk_le 2 (cnt (s 4 p) 0 8) (fun c2 => ?_) (fun _ => e1 _ hΦ))⟩
      rcases hk with hk | hk
      · rw [if_neg (by omega)] at k; exact absurd rfl k
      · omega
    · unfold w_M_makePipe_52
      exact e2 _ (e3 _ hΦ)
  by_cases c8 : d1 < 8
  · obtain ⟨d2, fd2⟩ := fd_ex (s 4 p) (d1 + 1) (by omega)
    have ff2 := em_fd (i := d1 + 1) hp hf fd2
    have hd2 := fd2.2.1
    have hlt := fd2.1
    have two := fd_two fd1 c8 fd2
    by_cases cw : w = 8
    · refine no (Or.inl cw) (fun Φ k => ?_)
      unfold w_M_makePipe_22
      refine ff1 _ ?_
      rw [nI_1]
      refine ff2 _ ?_
      rw [cw]
      exact ⟨fun _ => k, fun g => absurd rfl g⟩
    by_cases c2 : d2 < 8
    · obtain ⟨s1, ea, Y1, H1, F1, Z1, q1, q2, q3, q0, q4⟩ := op_pair (cp := cp) (n := 10 + w) hY hH hF hZ hp h1 c8 (fd1.2.2.2 c8) (by omega)
      have eo1 := ek_open fd1 c8 ea
      have s14 : ∀ j, s1 4 p j = if j = d1 then nI (10 + w) else s 4 p j := fun j => by rw [q4]; simp
      have fd1' : FD (s1 4 p) 0 d2 := by
        refine ⟨by omega, hd2, fun j _ hj => ?_, fun g => ?_⟩
        · rw [s14]
          by_cases c : j = d1
          · rw [if_pos c]; exact nI_ne0 (by omega) (by omega)
          · rw [if_neg c]
            by_cases c3 : j < d1
            · exact fd1.2.2.1 j (by omega) c3
            · exact fd2.2.2.1 j (by omega) hj
        · rw [s14, if_neg (by omega)]; exact fd2.2.2.2 g
      obtain ⟨s2, ea2, Y2, H2, F2, Z2, r1, r2, r3, r0, r4⟩ := op_pair (cp := cp) (n := 20 + w) Y1 H1 F1 Z1 hp (by rw [q1]; exact h1) c2 (fd1'.2.2.2 c2) (by omega)
      have eo2 := ek_open fd1' c2 ea2
      have kv2 := KV_cg (KV_cg kv q1 q2 q3) r1 r2 r3
      -- the pipe is empty already
      obtain ⟨l, r, n1, n2⟩ := hH.2.1.2.2.2 w (by omega)
      have pe : t 42 0 w = 0 := by
        have := hF w (by omega) (fp.2.2 (by omega)).1 (fp.2.2 (by omega)).2
        obtain ⟨mm, -, -, g, -, -⟩ := r
        rw [n1, ← g]; exact this
      have e42 : w3 (w3 (w3 t 31 0 (8 * p + d1) (nI (10 + w))) 31 0 (8 * p + d2) (nI (20 + w))) 42 0 w 0 = w3 (w3 t 31 0 (8 * p + d1) (nI (10 + w))) 31 0 (8 * p + d2) (nI (20 + w)) := w3_id _ _ _ _ _ pe
      have mv2 : MV (w3 (w3 t 31 0 (8 * p + d1) (nI (10 + w))) 31 0 (8 * p + d2) (nI (20 + w))) p L pl m := mv
      obtain ⟨s3, e3, v3, f3⟩ := ek_push (cp := cp) (x := nI d1) kv2 (by omega)
      obtain ⟨s4, e4, v4, f4⟩ := ek_push (cp := cp) (x := nI d2) v3 (by rw [List.length_append]; simp; omega)
      obtain ⟨t3, g3, w3', k3⟩ := em_push (x := nI d1) hp mv2 (by omega)
      obtain ⟨t4, g4, w4, k4⟩ := em_push (x := nI d2) hp w3' (by rw [List.length_append]; simp; omega)
      refine ⟨s4, t4, fun Φ hΦ => ?_, hM t4 (fun Φ hΦ => em_fp fp ?_), out_fin (s := s) (t := t) Y2 H2 F2 Z2 hp hq (by rw [r1, q1]; exact h1) (f3.trans f4) (k3.trans k4) v4 w4 (by rw [List.length_append, List.length_append]; simp; omega) ⟨by rw [r0, q0], by rw [r0, q0], rfl, rfl, rfl⟩⟩
      · unfold w_K_openPipe
        rw [if_pos (by omega)] at fpk
        have e10 : (10 : Int32) + nI w = nI (10 + w) := nI_add 10 w
        have e20 : (20 : Int32) + nI w = nI (20 + w) := nI_add 20 w
        refine fpk _ ⟨fun k => absurd k (nI_m1 (by omega)), fun _ => ek_closed _ ?_⟩
        rw [e10, e20]
        exact pk_le 2 (cnt (s 4 p) 0 8) (fun _ => eo1 _ (eo2 _ (e3 _ (e4 _ hΦ)))) (fun c => by have := two.mp c2; omega)
      · unfold w_M_makePipe_22
        refine ff1 _ ?_
        rw [nI_1]
        refine ff2 _ ⟨fun k => absurd (nI_inj (b := 8) (by omega) (by omega) k) cw, fun _ => ⟨fun _ => ?_, fun k => absurd (nI_lt (b := 8) c2 (by omega)) k⟩⟩
        have e8 : (8 : Int32) * nI p + nI d1 = nI (8 * p + d1) := ix 8 p d1
        have e8' : (8 : Int32) * nI p + nI d2 = nI (8 * p + d2) := ix 8 p d2
        have e10 : (10 : Int32) + nI w = nI (10 + w) := nI_add 10 w
        have e20 : (20 : Int32) + nI w = nI (20 + w) := nI_add 20 w
        rw [e8, e8', e10, e20, cl (n := 8 * p + d1) (by omega), cl (n := 8 * p + d2) (by omega), cl (n := w) (by omega)]
        refine ⟨vin (by omega) (by omega), fun z1 ez1 => ⟨vin (by omega) (by omega), fun z2 ez2 => ⟨vin (by omega) (by omega), fun z3 ez3 => ?_⟩⟩⟩
        rw [ez2, ez1, e42] at ez3
        rw [ez3]
        exact g3 _ (g4 _ hΦ)
    · refine no (Or.inr (by
        apply Nat.lt_of_not_le
        intro g
        exact c2 (two.mpr g))) (fun Φ k => ?_)
      unfold w_M_makePipe_22
      refine ff1 _ ?_
      rw [nI_1]
      exact ff2 _ ⟨fun _ => k, fun _ => ⟨fun g => absurd g (nI_nlt (b := 8) (by omega) (by omega)), fun _ => k⟩⟩
  · have d8 : d1 = 8 := by omega
    subst d8
    refine no (Or.inr ?_) (fun Φ k => ?_)
    · have := cnt_0 (f := s 4 p) (x := 0) (n := 8) (fun j hj => fd1.2.2.1 j (by omega) hj)
      omega
    · unfold w_M_makePipe_22
      refine ff1 _ ?_
      rw [nI_1]
      exact em_fd9 _ ⟨fun _ => k, fun _ => ⟨fun g => absurd g (by decide), fun _ => k⟩⟩
end OP

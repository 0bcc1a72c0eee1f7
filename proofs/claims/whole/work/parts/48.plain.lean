/-! the kinds that touch the process alone -/
def wiT (p k : Nat) (A : Int32) (t : KS) (Φ : KS → Prop) : Prop := w_M_looks (nI k) t (fun r9 s8 => ((r9 ≤ 0 → w_M_instruct_131 (nI p) Φ (nI k) A (0 : Int32) s8) ∧ (¬ r9 ≤ 0 → w_M_top (nI p) (0 : Int32) s8 (fun r11 s10 => w_M_instruct_131 (nI p) Φ (nI k) A r11 s10))))
def wiE (p k : Nat) (A x y : Int32) (t : KS) (Φ : KS → Prop) : Prop := ((30 : Int32) ≤ nI k → w_M_call (nI p) (nI k) x y t Φ) ∧ (¬ (30 : Int32) ≤ nI k → w_M_plain (nI p) (nI k) A x y t Φ)
def Pl (cp p k : Nat) (A x y : Int32) (s t : KS) : Prop := ∃ s' t' L' pl' m', EK (w_P_compute cp p (nI k) A s) s' ∧ EK (w_M_plain (nI p) (nI k) A x y t) t' ∧ KV s' p L' pl' m' ∧ MV t' p L' pl' m' ∧ KF p s s' ∧ MF p t t' ∧ L'.length ≤ 32
section PL
variable {cp p k : Nat} {s t : KS} {L L0 W : List Int32} {pl A x y : Int32} {m : Nat → Int32}
theorem im_153 (hp : p < 16) (mv : MV t p (L0 ++ W) pl m) (hk : lkB (nI k) = nI W.length) : ∃ t4, MV t4 p L0 (pl + 1) m ∧ MF p t t4 ∧ ∀ (Φ : KS → Prop) (x y : Int32), wiE p k A x y t4 Φ → w_M_instruct_153 (nI p) Φ (nI k) A y x t := by
  obtain ⟨v1, f1⟩ := em_size mv
  obtain ⟨v2, f2⟩ := em_place (v := pl + 1) v1
  refine ⟨_, v2, f1.trans f2, fun Φ x y h => ?_⟩
  unfold w_M_instruct_153
  refine ⟨vin hp (by omega), em_looks _ ⟨vin hp (by omega), fun s3 e3 => ⟨vin hp (by omega), vin hp (by omega), fun s4 e4 => ?_⟩⟩⟩
  have el : nI (L0 ++ W).length - nI W.length = nI L0.length := by
    rw [pk_sub (by rw [List.length_append]; omega)]
    congr 1
    rw [List.length_append]; omega
  rw [cl (n := p) (by omega)] at e3 e4
  rw [hk, mv.1, el] at e3
  have e30 : s3 30 0 p = pl := by rw [e3]; exact mv.2.2.1
  rw [e30] at e4
  rw [e4, e3]
  exact h
theorem im0 (hp : p < 16) (mv : MV t p L pl m) (hk : lkB (nI k) = nI 0) : ∃ t4, MV t4 p L (pl + 1) m ∧ MF p t t4 ∧ ∀ Φ : KS → Prop, wiE p k A 0 0 t4 Φ → wiT p k A t Φ := by
  have mv' : MV t p (L ++ []) pl m := by rw [List.append_nil]; exact mv
  obtain ⟨t4, v, f, g⟩ := im_153 (A := A) hp mv' hk
  refine ⟨t4, v, f, fun Φ h => ?_⟩
  unfold wiT
  refine em_looks _ ?_
  rw [hk]
  refine ⟨fun _ => ?_, fun g => absurd (by decide) g⟩
  unfold w_M_instruct_131
  refine em_looks _ ?_
  rw [hk]
  exact ⟨fun _ => g Φ 0 0 h, fun g => absurd (by decide) g⟩
theorem im1 (hp : p < 16) (mv : MV t p (L0 ++ [y]) pl m) (hl : L0.length < 32) (hk : lkB (nI k) = nI 1) : ∃ t4, MV t4 p L0 (pl + 1) m ∧ MF p t t4 ∧ ∀ Φ : KS → Prop, wiE p k A y y t4 Φ → wiT p k A t Φ := by
  obtain ⟨t4, v, f, g⟩ := im_153 (A := A) hp mv hk
  refine ⟨t4, v, f, fun Φ h => ?_⟩
  unfold wiT
  refine em_looks _ ?_
  rw [hk]
  refine ⟨fun g => absurd g (by decide), fun _ => em_top0 hp mv (by omega) _ ?_⟩
  unfold w_M_instruct_131
  refine em_looks _ ?_
  rw [hk]
  exact ⟨fun _ => g Φ y y h, fun g => absurd (by decide) g⟩
theorem im2 (hp : p < 16) (mv : MV t p (L0 ++ [x] ++ [y]) pl m) (hl : L0.length < 31) (hk : lkB (nI k) = nI 2) : ∃ t4, MV t4 p L0 (pl + 1) m ∧ MF p t t4 ∧ ∀ Φ : KS → Prop, wiE p k A x y t4 Φ → wiT p k A t Φ := by
  have mv' : MV t p (L0 ++ ([x] ++ [y])) pl m := by rw [← List.append_assoc]; exact mv
  obtain ⟨t4, v, f, g⟩ := im_153 (A := A) hp mv' hk
  refine ⟨t4, v, f, fun Φ h => ?_⟩
  unfold wiT
  refine em_looks _ ?_
  rw [hk]
  refine ⟨fun g => absurd g (by decide), fun _ => em_top0 hp mv (by rw [List.length_append]; simp; omega) _ ?_⟩
  unfold w_M_instruct_131
  refine em_looks _ ?_
  rw [hk]
  exact ⟨fun g => absurd g (by decide), fun _ => em_top1 hp mv (by omega) _ (g Φ x y h)⟩

theorem pl_0 (hp : p < 16) (kv : KV s p L pl m) (mv : MV t p L pl m) (hl : L.length ≤ 32) : Pl cp p 0 A x y s t := by
  refine ⟨s, t, L, pl, m, fun Φ h => ?_, fun Φ h => ?_, kv, mv, KF.refl p s, MF.refl p t, hl⟩
  · exact ⟨fun _ => h, fun g => absurd g (by decide), fun g => absurd g (by decide), fun g => absurd g (by decide), fun g => absurd g (by decide), fun g => absurd g (by decide), fun g => absurd g (by decide), fun g => absurd g (by decide), fun g => absurd g (by decide), fun g => absurd g (by decide), fun g => absurd g (by decide), fun g => absurd g (by decide), fun g => absurd g (by decide), fun g => absurd g (by decide), fun g => absurd g (by decide)⟩
  · have h1 : w_M_plain_231 (nI p) (nI 0) A x y Φ t := ⟨fun _ => ⟨fun _ => h, fun g => absurd g (by decide)⟩, fun g => absurd g (by decide)⟩
    have h2 : w_M_plain_92 (nI p) (nI 0) A x y Φ (128 * nI p) t := ⟨fun _ => ⟨fun _ => ⟨fun _ => ⟨fun _ => ⟨fun _ => ⟨fun g => absurd g (by decide), fun _ => ⟨fun _ => h1, fun g => absurd g (by decide)⟩⟩, fun g => absurd g (by decide)⟩, fun g => absurd g (by decide)⟩, fun g => absurd g (by decide)⟩, fun g => absurd g (by decide)⟩, fun g => absurd g (by decide)⟩
    intro y1 e1
    rw [e1]
    exact ⟨fun _ => ⟨fun _ => ⟨fun _ => ⟨fun _ => h2, fun g => absurd (by decide) g⟩, fun g => absurd g (by decide)⟩, fun g => absurd g (by decide)⟩, fun g => absurd g (by decide)⟩
theorem pl_1 (hp : p < 16) (kv : KV s p L pl m) (mv : MV t p L pl m) (hl : L.length < 32) : Pl cp p 1 A x y s t := by
  obtain ⟨s1, e1, v1, f1⟩ := ek_push (cp := cp) (x := A) kv hl
  obtain ⟨t1, g1, w1, k1⟩ := em_push (x := A) hp mv (by omega)
  refine ⟨s1, t1, _, pl, m, fun Φ h => ?_, fun Φ h => ?_, v1, w1, f1, k1, by rw [List.length_append]; simp; omega⟩
  · exact ⟨fun g => absurd g (by decide), fun _ => e1 _ h, fun g => absurd g (by decide), fun g => absurd g (by decide), fun g => absurd g (by decide), fun g => absurd g (by decide), fun g => absurd g (by decide), fun g => absurd g (by decide), fun g => absurd g (by decide), fun g => absurd g (by decide), fun g => absurd g (by decide), fun g => absurd g (by decide), fun g => absurd g (by decide), fun g => absurd g (by decide), fun g => absurd g (by decide)⟩
  · intro y1 ey
    exact ⟨fun g => absurd (by decide) g, fun _ => g1 _ h⟩
theorem pl_2 (hp : p < 16) (kv : KV s p (L0 ++ [y]) pl m) (mv : MV t p L0 pl m) (hl : L0.length < 32) : Pl cp p 2 A y y s t := by
  obtain ⟨s1, e1, v1, f1⟩ := ek_pop (cp := cp) kv hl
  refine ⟨s1, t, L0, pl, m, fun Φ h => ?_, fun Φ h => ?_, v1, mv, f1, MF.refl p t, by omega⟩
  · exact ⟨fun g => absurd g (by decide), fun g => absurd g (by decide), fun _ => e1 _ h, fun g => absurd g (by decide), fun g => absurd g (by decide), fun g => absurd g (by decide), fun g => absurd g (by decide), fun g => absurd g (by decide), fun g => absurd g (by decide), fun g => absurd g (by decide), fun g => absurd g (by decide), fun g => absurd g (by decide), fun g => absurd g (by decide), fun g => absurd g (by decide), fun g => absurd g (by decide)⟩
  · have h1 : w_M_plain_231 (nI p) (nI 2) A y y Φ t := ⟨fun _ => ⟨fun _ => h, fun g => absurd g (by decide)⟩, fun g => absurd g (by decide)⟩
    have h2 : w_M_plain_92 (nI p) (nI 2) A y y Φ (128 * nI p) t := ⟨fun _ => ⟨fun _ => ⟨fun _ => ⟨fun _ => ⟨fun _ => ⟨fun g => absurd g (by decide), fun _ => ⟨fun _ => h1, fun g => absurd g (by decide)⟩⟩, fun g => absurd g (by decide)⟩, fun g => absurd g (by decide)⟩, fun g => absurd g (by decide)⟩, fun g => absurd g (by decide)⟩, fun g => absurd g (by decide)⟩
    intro y1 e1
    rw [e1]
    exact ⟨fun _ => ⟨fun _ => ⟨fun _ => ⟨fun _ => h2, fun g => absurd (by decide) g⟩, fun g => absurd g (by decide)⟩, fun g => absurd g (by decide)⟩, fun g => absurd g (by decide)⟩
theorem pl_3 (hp : p < 16) (kv : KV s p (L0 ++ [y]) pl m) (mv : MV t p L0 pl m) (hl : L0.length < 31) : Pl cp p 3 A y y s t := by
  have e0 := ek_top (cp := cp) kv (by omega)
  obtain ⟨s1, e1, v1, f1⟩ := ek_push (cp := cp) (x := y) kv (by rw [List.length_append]; simp; omega)
  obtain ⟨t1, g1, w1, k1⟩ := em_push (x := y) hp mv (by omega)
  obtain ⟨t2, g2, w2, k2⟩ := em_push (x := y) hp w1 (by rw [List.length_append]; simp; omega)
  refine ⟨s1, t2, _, pl, m, fun Φ h => ?_, fun Φ h => ?_, v1, w2, f1, k1.trans k2, by rw [List.length_append, List.length_append]; simp; omega⟩
  · exact ⟨fun g => absurd g (by decide), fun g => absurd g (by decide), fun g => absurd g (by decide), fun _ => e0 _ (e1 _ h), fun g => absurd g (by decide), fun g => absurd g (by decide), fun g => absurd g (by decide), fun g => absurd g (by decide), fun g => absurd g (by decide), fun g => absurd g (by decide), fun g => absurd g (by decide), fun g => absurd g (by decide), fun g => absurd g (by decide), fun g => absurd g (by decide), fun g => absurd g (by decide)⟩
  · intro y1 ey
    exact ⟨fun _ => ⟨fun g => absurd (by decide) g, fun _ => g1 _ (g2 _ h)⟩, fun g => absurd g (by decide)⟩
theorem pl_4 (hp : p < 16) (kv : KV s p (L0 ++ [x] ++ [y]) pl m) (mv : MV t p L0 pl m) (hl : L0.length < 31) : Pl cp p 4 A x y s t := by
  obtain ⟨s1, e1, v1, f1⟩ := ek_pop (cp := cp) kv (by rw [List.length_append]; simp; omega)
  obtain ⟨s2, e2, v2, f2⟩ := ek_pop (cp := cp) v1 (by omega)
  obtain ⟨s3, e3, v3, f3⟩ := ek_push (cp := cp) (x := y) v2 (by omega)
  obtain ⟨s4, e4, v4, f4⟩ := ek_push (cp := cp) (x := x) v3 (by rw [List.length_append]; simp; omega)
  obtain ⟨t1, g1, w1, k1⟩ := em_push (x := y) hp mv (by omega)
  obtain ⟨t2, g2, w2, k2⟩ := em_push (x := x) hp w1 (by rw [List.length_append]; simp; omega)
  refine ⟨s4, t2, _, pl, m, fun Φ h => ?_, fun Φ h => ?_, v4, w2, ((f1.trans f2).trans f3).trans f4, k1.trans k2, by rw [List.length_append, List.length_append]; simp; omega⟩
  · exact ⟨fun g => absurd g (by decide), fun g => absurd g (by decide), fun g => absurd g (by decide), fun g => absurd g (by decide), fun _ => e1 _ (e2 _ (e3 _ (e4 _ h))), fun g => absurd g (by decide), fun g => absurd g (by decide), fun g => absurd g (by decide), fun g => absurd g (by decide), fun g => absurd g (by decide), fun g => absurd g (by decide), fun g => absurd g (by decide), fun g => absurd g (by decide), fun g => absurd g (by decide), fun g => absurd g (by decide)⟩
  · intro y1 ey
    exact ⟨fun _ => ⟨fun _ => ⟨fun g => absurd (by decide) g, fun _ => g1 _ (g2 _ h)⟩, fun g => absurd g (by decide)⟩, fun g => absurd g (by decide)⟩
theorem rk_ex (h : 5 ≤ k ∧ k ≤ 16) (hy : k = 8 ∨ k = 9 → ¬ y = 0) : ∃ r, (∀ (s : KS) (Φ : Int32 → KS → Prop), Φ r s → w_P_result cp (nI k) x y s Φ) ∧ (∀ (t : KS) (Φ : Int32 → KS → Prop), Φ r t → w_M_reckon (nI k) x y t Φ) := by
  have hc : k = 5 ∨ k = 6 ∨ k = 7 ∨ k = 8 ∨ k = 9 ∨ k = 10 ∨ k = 11 ∨ k = 12 ∨ k = 13 ∨ k = 14 ∨ k = 15 ∨ k = 16 := by omega
  rcases hc with e | e | e | e | e | e | e | e | e | e | e | e
  · subst e
    exact ⟨x + y, fun s Φ h => ⟨fun _ => h, fun g => absurd g (by decide), fun g => absurd g (by decide), fun g => absurd g (by decide), fun g => absurd g (by decide), fun g => absurd g (by decide), fun g => absurd g (by decide), fun g => absurd g (by decide), fun g => absurd g (by decide), fun g => absurd g (by decide), fun g => absurd g (by decide), fun g => absurd g (by decide)⟩, fun s Φ h => ⟨fun _ => h, fun g => absurd g (by decide), fun g => absurd g (by decide), fun g => absurd g (by decide), fun g => absurd g (by decide), fun g => absurd g (by decide), fun g => absurd g (by decide), fun g => absurd g (by decide), fun g => absurd g (by decide), fun g => absurd g (by decide), fun g => absurd g (by decide), fun g => absurd g (by decide)⟩⟩
  · subst e
    exact ⟨x - y, fun s Φ h => ⟨fun g => absurd g (by decide), fun _ => h, fun g => absurd g (by decide), fun g => absurd g (by decide), fun g => absurd g (by decide), fun g => absurd g (by decide), fun g => absurd g (by decide), fun g => absurd g (by decide), fun g => absurd g (by decide), fun g => absurd g (by decide), fun g => absurd g (by decide), fun g => absurd g (by decide)⟩, fun s Φ h => ⟨fun g => absurd g (by decide), fun _ => h, fun g => absurd g (by decide), fun g => absurd g (by decide), fun g => absurd g (by decide), fun g => absurd g (by decide), fun g => absurd g (by decide), fun g => absurd g (by decide), fun g => absurd g (by decide), fun g => absurd g (by decide), fun g => absurd g (by decide), fun g => absurd g (by decide)⟩⟩
  · subst e
    exact ⟨x * y, fun s Φ h => ⟨fun g => absurd g (by decide), fun g => absurd g (by decide), fun _ => h, fun g => absurd g (by decide), fun g => absurd g (by decide), fun g => absurd g (by decide), fun g => absurd g (by decide), fun g => absurd g (by decide), fun g => absurd g (by decide), fun g => absurd g (by decide), fun g => absurd g (by decide), fun g => absurd g (by decide)⟩, fun s Φ h => ⟨fun g => absurd g (by decide), fun g => absurd g (by decide), fun _ => h, fun g => absurd g (by decide), fun g => absurd g (by decide), fun g => absurd g (by decide), fun g => absurd g (by decide), fun g => absurd g (by decide), fun g => absurd g (by decide), fun g => absurd g (by decide), fun g => absurd g (by decide), fun g => absurd g (by decide)⟩⟩
  · subst e
    exact ⟨x / y, fun s Φ h => ⟨fun g => absurd g (by decide), fun g => absurd g (by decide), fun g => absurd g (by decide), fun _ => ⟨hy (by omega), h⟩, fun g => absurd g (by decide), fun g => absurd g (by decide), fun g => absurd g (by decide), fun g => absurd g (by decide), fun g => absurd g (by decide), fun g => absurd g (by decide), fun g => absurd g (by decide), fun g => absurd g (by decide)⟩, fun s Φ h => ⟨fun g => absurd g (by decide), fun g => absurd g (by decide), fun g => absurd g (by decide), fun _ => ⟨hy (by omega), h⟩, fun g => absurd g (by decide), fun g => absurd g (by decide), fun g => absurd g (by decide), fun g => absurd g (by decide), fun g => absurd g (by decide), fun g => absurd g (by decide), fun g => absurd g (by decide), fun g => absurd g (by decide)⟩⟩
  · subst e
    exact ⟨x - x / y * y, fun s Φ h => ⟨fun g => absurd g (by decide), fun g => absurd g (by decide), fun g => absurd g (by decide), fun g => absurd g (by decide), fun _ => ⟨hy (by omega), h⟩, fun g => absurd g (by decide), fun g => absurd g (by decide), fun g => absurd g (by decide), fun g => absurd g (by decide), fun g => absurd g (by decide), fun g => absurd g (by decide), fun g => absurd g (by decide)⟩, fun s Φ h => ⟨fun g => absurd g (by decide), fun g => absurd g (by decide), fun g => absurd g (by decide), fun g => absurd g (by decide), fun _ => ⟨hy (by omega), h⟩, fun g => absurd g (by decide), fun g => absurd g (by decide), fun g => absurd g (by decide), fun g => absurd g (by decide), fun g => absurd g (by decide), fun g => absurd g (by decide), fun g => absurd g (by decide)⟩⟩
  · subst e
    exact ⟨x &&& y, fun s Φ h => ⟨fun g => absurd g (by decide), fun g => absurd g (by decide), fun g => absurd g (by decide), fun g => absurd g (by decide), fun g => absurd g (by decide), fun _ => h, fun g => absurd g (by decide), fun g => absurd g (by decide), fun g => absurd g (by decide), fun g => absurd g (by decide), fun g => absurd g (by decide), fun g => absurd g (by decide)⟩, fun s Φ h => ⟨fun g => absurd g (by decide), fun g => absurd g (by decide), fun g => absurd g (by decide), fun g => absurd g (by decide), fun g => absurd g (by decide), fun _ => h, fun g => absurd g (by decide), fun g => absurd g (by decide), fun g => absurd g (by decide), fun g => absurd g (by decide), fun g => absurd g (by decide), fun g => absurd g (by decide)⟩⟩
  · subst e
    exact ⟨x ||| y, fun s Φ h => ⟨fun g => absurd g (by decide), fun g => absurd g (by decide), fun g => absurd g (by decide), fun g => absurd g (by decide), fun g => absurd g (by decide), fun g => absurd g (by decide), fun _ => h, fun g => absurd g (by decide), fun g => absurd g (by decide), fun g => absurd g (by decide), fun g => absurd g (by decide), fun g => absurd g (by decide)⟩, fun s Φ h => ⟨fun g => absurd g (by decide), fun g => absurd g (by decide), fun g => absurd g (by decide), fun g => absurd g (by decide), fun g => absurd g (by decide), fun g => absurd g (by decide), fun _ => h, fun g => absurd g (by decide), fun g => absurd g (by decide), fun g => absurd g (by decide), fun g => absurd g (by decide), fun g => absurd g (by decide)⟩⟩
  · subst e
    exact ⟨x ^^^ y, fun s Φ h => ⟨fun g => absurd g (by decide), fun g => absurd g (by decide), fun g => absurd g (by decide), fun g => absurd g (by decide), fun g => absurd g (by decide), fun g => absurd g (by decide), fun g => absurd g (by decide), fun _ => h, fun g => absurd g (by decide), fun g => absurd g (by decide), fun g => absurd g (by decide), fun g => absurd g (by decide)⟩, fun s Φ h => ⟨fun g => absurd g (by decide), fun g => absurd g (by decide), fun g => absurd g (by decide), fun g => absurd g (by decide), fun g => absurd g (by decide), fun g => absurd g (by decide), fun g => absurd g (by decide), fun _ => h, fun g => absurd g (by decide), fun g => absurd g (by decide), fun g => absurd g (by decide), fun g => absurd g (by decide)⟩⟩
  · subst e
    exact ⟨x <<< ((y &&& (31 : Int32)) &&& 31), fun s Φ h => ⟨fun g => absurd g (by decide), fun g => absurd g (by decide), fun g => absurd g (by decide), fun g => absurd g (by decide), fun g => absurd g (by decide), fun g => absurd g (by decide), fun g => absurd g (by decide), fun g => absurd g (by decide), fun _ => h, fun g => absurd g (by decide), fun g => absurd g (by decide), fun g => absurd g (by decide)⟩, fun s Φ h => ⟨fun g => absurd g (by decide), fun g => absurd g (by decide), fun g => absurd g (by decide), fun g => absurd g (by decide), fun g => absurd g (by decide), fun g => absurd g (by decide), fun g => absurd g (by decide), fun g => absurd g (by decide), fun _ => h, fun g => absurd g (by decide), fun g => absurd g (by decide), fun g => absurd g (by decide)⟩⟩
  · subst e
    exact ⟨x >>> ((y &&& (31 : Int32)) &&& 31), fun s Φ h => ⟨fun g => absurd g (by decide), fun g => absurd g (by decide), fun g => absurd g (by decide), fun g => absurd g (by decide), fun g => absurd g (by decide), fun g => absurd g (by decide), fun g => absurd g (by decide), fun g => absurd g (by decide), fun g => absurd g (by decide), fun _ => h, fun g => absurd g (by decide), fun g => absurd g (by decide)⟩, fun s Φ h => ⟨fun g => absurd g (by decide), fun g => absurd g (by decide), fun g => absurd g (by decide), fun g => absurd g (by decide), fun g => absurd g (by decide), fun g => absurd g (by decide), fun g => absurd g (by decide), fun g => absurd g (by decide), fun g => absurd g (by decide), fun _ => h, fun g => absurd g (by decide), fun g => absurd g (by decide)⟩⟩
  · subst e
    by_cases c : y ≤ x
    · exact ⟨0, fun s Φ h => ⟨fun g => absurd g (by decide), fun g => absurd g (by decide), fun g => absurd g (by decide), fun g => absurd g (by decide), fun g => absurd g (by decide), fun g => absurd g (by decide), fun g => absurd g (by decide), fun g => absurd g (by decide), fun g => absurd g (by decide), fun g => absurd g (by decide), fun _ => ⟨fun _ => h, fun g => absurd c g⟩, fun g => absurd g (by decide)⟩, fun s Φ h => ⟨fun g => absurd g (by decide), fun g => absurd g (by decide), fun g => absurd g (by decide), fun g => absurd g (by decide), fun g => absurd g (by decide), fun g => absurd g (by decide), fun g => absurd g (by decide), fun g => absurd g (by decide), fun g => absurd g (by decide), fun g => absurd g (by decide), fun _ => ⟨fun _ => h, fun g => absurd c g⟩, fun g => absurd g (by decide)⟩⟩
    · exact ⟨1, fun s Φ h => ⟨fun g => absurd g (by decide), fun g => absurd g (by decide), fun g => absurd g (by decide), fun g => absurd g (by decide), fun g => absurd g (by decide), fun g => absurd g (by decide), fun g => absurd g (by decide), fun g => absurd g (by decide), fun g => absurd g (by decide), fun g => absurd g (by decide), fun _ => ⟨fun g => absurd g c, fun _ => h⟩, fun g => absurd g (by decide)⟩, fun s Φ h => ⟨fun g => absurd g (by decide), fun g => absurd g (by decide), fun g => absurd g (by decide), fun g => absurd g (by decide), fun g => absurd g (by decide), fun g => absurd g (by decide), fun g => absurd g (by decide), fun g => absurd g (by decide), fun g => absurd g (by decide), fun g => absurd g (by decide), fun _ => ⟨fun g => absurd g c, fun _ => h⟩, fun g => absurd g (by decide)⟩⟩
  · subst e
    by_cases c : x = y
    · exact ⟨1, fun s Φ h => ⟨fun g => absurd g (by decide), fun g => absurd g (by decide), fun g => absurd g (by decide), fun g => absurd g (by decide), fun g => absurd g (by decide), fun g => absurd g (by decide), fun g => absurd g (by decide), fun g => absurd g (by decide), fun g => absurd g (by decide), fun g => absurd g (by decide), fun g => absurd g (by decide), fun _ => ⟨fun g => absurd c g, fun _ => h⟩⟩, fun s Φ h => ⟨fun g => absurd g (by decide), fun g => absurd g (by decide), fun g => absurd g (by decide), fun g => absurd g (by decide), fun g => absurd g (by decide), fun g => absurd g (by decide), fun g => absurd g (by decide), fun g => absurd g (by decide), fun g => absurd g (by decide), fun g => absurd g (by decide), fun g => absurd g (by decide), fun _ => ⟨fun g => absurd c g, fun _ => h⟩⟩⟩
    · exact ⟨0, fun s Φ h => ⟨fun g => absurd g (by decide), fun g => absurd g (by decide), fun g => absurd g (by decide), fun g => absurd g (by decide), fun g => absurd g (by decide), fun g => absurd g (by decide), fun g => absurd g (by decide), fun g => absurd g (by decide), fun g => absurd g (by decide), fun g => absurd g (by decide), fun g => absurd g (by decide), fun _ => ⟨fun _ => h, fun g => absurd g c⟩⟩, fun s Φ h => ⟨fun g => absurd g (by decide), fun g => absurd g (by decide), fun g => absurd g (by decide), fun g => absurd g (by decide), fun g => absurd g (by decide), fun g => absurd g (by decide), fun g => absurd g (by decide), fun g => absurd g (by decide), fun g => absurd g (by decide), fun g => absurd g (by decide), fun g => absurd g (by decide), fun _ => ⟨fun _ => h, fun g => absurd g c⟩⟩⟩
theorem pl_ar (hp : p < 16) (h5 : 5 ≤ k ∧ k ≤ 16) (hy : k = 8 ∨ k = 9 → ¬ y = 0) (kv : KV s p (L0 ++ [x] ++ [y]) pl m) (mv : MV t p L0 pl m) (hl : L0.length < 31) : Pl cp p k A x y s t := by
  obtain ⟨r, r1, r2⟩ := rk_ex (cp := cp) (x := x) h5 hy
  obtain ⟨s1, e1, v1, f1⟩ := ek_pop (cp := cp) kv (by rw [List.length_append]; simp; omega)
  obtain ⟨s2, e2, v2, f2⟩ := ek_pop (cp := cp) v1 (by omega)
  obtain ⟨s3, e3, v3, f3⟩ := ek_push (cp := cp) (x := r) v2 (by omega)
  obtain ⟨t1, g1, w1, k1⟩ := em_push (x := r) hp mv (by omega)
  refine ⟨s3, t1, _, pl, m, fun Φ h => ?_, fun Φ h => ?_, v3, w1, (f1.trans f2).trans f3, k1, by rw [List.length_append]; simp; omega⟩
  · have hc : w_P_combine cp p (nI k) s (fun s28 => Φ s28) := e1 _ (e2 _ (r1 _ _ (e3 _ h)))
    have hk : k = 5 ∨ k = 6 ∨ k = 7 ∨ k = 8 ∨ k = 9 ∨ k = 10 ∨ k = 11 ∨ k = 12 ∨ k = 13 ∨ k = 14 ∨ k = 15 ∨ k = 16 := by omega
    rcases hk with e | e | e | e | e | e | e | e | e | e | e | e <;> subst e
    · exact ⟨fun g => absurd g (by decide), fun g => absurd g (by decide), fun g => absurd g (by decide), fun g => absurd g (by decide), fun g => absurd g (by decide), fun g => absurd g (by decide), fun g => absurd g (by decide), fun g => absurd g (by decide), fun g => absurd g (by decide), fun g => absurd g (by decide), fun g => absurd g (by decide), fun g => absurd g (by decide), fun g => absurd g (by decide), fun g => absurd g (by decide), fun _ => hc⟩
    · exact ⟨fun g => absurd g (by decide), fun g => absurd g (by decide), fun g => absurd g (by decide), fun g => absurd g (by decide), fun g => absurd g (by decide), fun g => absurd g (by decide), fun g => absurd g (by decide), fun g => absurd g (by decide), fun g => absurd g (by decide), fun g => absurd g (by decide), fun g => absurd g (by decide), fun g => absurd g (by decide), fun g => absurd g (by decide), fun g => absurd g (by decide), fun _ => hc⟩
    · exact ⟨fun g => absurd g (by decide), fun g => absurd g (by decide), fun g => absurd g (by decide), fun g => absurd g (by decide), fun g => absurd g (by decide), fun g => absurd g (by decide), fun g => absurd g (by decide), fun g => absurd g (by decide), fun g => absurd g (by decide), fun g => absurd g (by decide), fun g => absurd g (by decide), fun g => absurd g (by decide), fun g => absurd g (by decide), fun g => absurd g (by decide), fun _ => hc⟩
    · exact ⟨fun g => absurd g (by decide), fun g => absurd g (by decide), fun g => absurd g (by decide), fun g => absurd g (by decide), fun g => absurd g (by decide), fun g => absurd g (by decide), fun g => absurd g (by decide), fun g => absurd g (by decide), fun g => absurd g (by decide), fun g => absurd g (by decide), fun g => absurd g (by decide), fun g => absurd g (by decide), fun g => absurd g (by decide), fun g => absurd g (by decide), fun _ => hc⟩
    · exact ⟨fun g => absurd g (by decide), fun g => absurd g (by decide), fun g => absurd g (by decide), fun g => absurd g (by decide), fun g => absurd g (by decide), fun g => absurd g (by decide), fun g => absurd g (by decide), fun g => absurd g (by decide), fun g => absurd g (by decide), fun g => absurd g (by decide), fun g => absurd g (by decide), fun g => absurd g (by decide), fun g => absurd g (by decide), fun g => absurd g (by decide), fun _ => hc⟩
    · exact ⟨fun g => absurd g (by decide), fun g => absurd g (by decide), fun g => absurd g (by decide), fun g => absurd g (by decide), fun g => absurd g (by decide), fun g => absurd g (by decide), fun g => absurd g (by decide), fun g => absurd g (by decide), fun g => absurd g (by decide), fun g => absurd g (by decide), fun g => absurd g (by decide), fun g => absurd g (by decide), fun g => absurd g (by decide), fun g => absurd g (by decide), fun _ => hc⟩
    · exact ⟨fun g => absurd g (by decide), fun g => absurd g (by decide), fun g => absurd g (by decide), fun g => absurd g (by decide), fun g => absurd g (by decide), fun g => absurd g (by decide), fun g => absurd g (by decide), fun g => absurd g (by decide), fun g => absurd g (by decide), fun g => absurd g (by decide), fun g => absurd g (by decide), fun g => absurd g (by decide), fun g => absurd g (by decide), fun g => absurd g (by decide), fun _ => hc⟩
    · exact ⟨fun g => absurd g (by decide), fun g => absurd g (by decide), fun g => absurd g (by decide), fun g => absurd g (by decide), fun g => absurd g (by decide), fun g => absurd g (by decide), fun g => absurd g (by decide), fun g => absurd g (by decide), fun g => absurd g (by decide), fun g => absurd g (by decide), fun g => absurd g (by decide), fun g => absurd g (by decide), fun g => absurd g (by decide), fun g => absurd g (by decide), fun _ => hc⟩
    · exact ⟨fun g => absurd g (by decide), fun g => absurd g (by decide), fun g => absurd g (by decide), fun g => absurd g (by decide), fun g => absurd g (by decide), fun g => absurd g (by decide), fun g => absurd g (by decide), fun g => absurd g (by decide), fun g => absurd g (by decide), fun g => absurd g (by decide), fun g => absurd g (by decide), fun g => absurd g (by decide), fun g => absurd g (by decide), fun g => absurd g (by decide), fun _ => hc⟩
    · exact ⟨fun g => absurd g (by decide), fun g => absurd g (by decide), fun g => absurd g (by decide), fun g => absurd g (by decide), fun g => absurd g (by decide), fun g => absurd g (by decide), fun g => absurd g (by decide), fun g => absurd g (by decide), fun g => absurd g (by decide), fun g => absurd g (by decide), fun g => absurd g (by decide), fun g => absurd g (by decide), fun g => absurd g (by decide), fun g => absurd g (by decide), fun _ => hc⟩
    · exact ⟨fun g => absurd g (by decide), fun g => absurd g (by decide), fun g => absurd g (by decide), fun g => absurd g (by decide), fun g => absurd g (by decide), fun g => absurd g (by decide), fun g => absurd g (by decide), fun g => absurd g (by decide), fun g => absurd g (by decide), fun g => absurd g (by decide), fun g => absurd g (by decide), fun g => absurd g (by decide), fun g => absurd g (by decide), fun g => absurd g (by decide), fun _ => hc⟩
    · exact ⟨fun g => absurd g (by decide), fun g => absurd g (by decide), fun g => absurd g (by decide), fun g => absurd g (by decide), fun g => absurd g (by decide), fun g => absurd g (by decide), fun g => absurd g (by decide), fun g => absurd g (by decide), fun g => absurd g (by decide), fun g => absurd g (by decide), fun g => absurd g (by decide), fun g => absurd g (by decide), fun g => absurd g (by decide), fun g => absurd g (by decide), fun _ => hc⟩
  · have hc : w_M_reckon (nI k) x y t (fun r3 s2 => w_M_push (nI p) r3 s2 (fun s4 => Φ s4)) := r2 _ _ (g1 _ h)
    intro y1 ey
    have hk : k = 5 ∨ k = 6 ∨ k = 7 ∨ k = 8 ∨ k = 9 ∨ k = 10 ∨ k = 11 ∨ k = 12 ∨ k = 13 ∨ k = 14 ∨ k = 15 ∨ k = 16 := by omega
    rcases hk with e | e | e | e | e | e | e | e | e | e | e | e <;> subst e
    · exact ⟨fun _ => ⟨fun _ => ⟨fun _ => ⟨fun g => absurd g (by decide), fun _ => ⟨fun g => absurd g (by decide), fun _ => hc⟩⟩, fun g => absurd g (by decide)⟩, fun g => absurd g (by decide)⟩, fun g => absurd g (by decide)⟩
    · exact ⟨fun _ => ⟨fun _ => ⟨fun _ => ⟨fun g => absurd g (by decide), fun _ => ⟨fun g => absurd g (by decide), fun _ => hc⟩⟩, fun g => absurd g (by decide)⟩, fun g => absurd g (by decide)⟩, fun g => absurd g (by decide)⟩
    · exact ⟨fun _ => ⟨fun _ => ⟨fun _ => ⟨fun g => absurd g (by decide), fun _ => ⟨fun g => absurd g (by decide), fun _ => hc⟩⟩, fun g => absurd g (by decide)⟩, fun g => absurd g (by decide)⟩, fun g => absurd g (by decide)⟩
    · exact ⟨fun _ => ⟨fun _ => ⟨fun _ => ⟨fun g => absurd g (by decide), fun _ => ⟨fun g => absurd g (by decide), fun _ => hc⟩⟩, fun g => absurd g (by decide)⟩, fun g => absurd g (by decide)⟩, fun g => absurd g (by decide)⟩
    · exact ⟨fun _ => ⟨fun _ => ⟨fun _ => ⟨fun g => absurd g (by decide), fun _ => ⟨fun g => absurd g (by decide), fun _ => hc⟩⟩, fun g => absurd g (by decide)⟩, fun g => absurd g (by decide)⟩, fun g => absurd g (by decide)⟩
    · exact ⟨fun _ => ⟨fun _ => ⟨fun _ => ⟨fun g => absurd g (by decide), fun _ => ⟨fun g => absurd g (by decide), fun _ => hc⟩⟩, fun g => absurd g (by decide)⟩, fun g => absurd g (by decide)⟩, fun g => absurd g (by decide)⟩
    · exact ⟨fun _ => ⟨fun _ => ⟨fun _ => ⟨fun g => absurd g (by decide), fun _ => ⟨fun g => absurd g (by decide), fun _ => hc⟩⟩, fun g => absurd g (by decide)⟩, fun g => absurd g (by decide)⟩, fun g => absurd g (by decide)⟩
    · exact ⟨fun _ => ⟨fun _ => ⟨fun _ => ⟨fun g => absurd g (by decide), fun _ => ⟨fun g => absurd g (by decide), fun _ => hc⟩⟩, fun g => absurd g (by decide)⟩, fun g => absurd g (by decide)⟩, fun g => absurd g (by decide)⟩
    · exact ⟨fun _ => ⟨fun _ => ⟨fun _ => ⟨fun g => absurd g (by decide), fun _ => ⟨fun g => absurd g (by decide), fun _ => hc⟩⟩, fun g => absurd g (by decide)⟩, fun g => absurd g (by decide)⟩, fun g => absurd g (by decide)⟩
    · exact ⟨fun _ => ⟨fun _ => ⟨fun _ => ⟨fun g => absurd g (by decide), fun _ => ⟨fun g => absurd g (by decide), fun _ => hc⟩⟩, fun g => absurd g (by decide)⟩, fun g => absurd g (by decide)⟩, fun g => absurd g (by decide)⟩
    · exact ⟨fun _ => ⟨fun _ => ⟨fun _ => ⟨fun g => absurd g (by decide), fun _ => ⟨fun g => absurd g (by decide), fun _ => hc⟩⟩, fun g => absurd g (by decide)⟩, fun g => absurd g (by decide)⟩, fun g => absurd g (by decide)⟩
    · exact ⟨fun _ => ⟨fun _ => ⟨fun _ => ⟨fun g => absurd g (by decide), fun _ => ⟨fun g => absurd g (by decide), fun _ => hc⟩⟩, fun g => absurd g (by decide)⟩, fun g => absurd g (by decide)⟩, fun g => absurd g (by decide)⟩
theorem pl_17 (hp : p < 16) (kv : KV s p (L0 ++ [y]) pl m) (mv : MV t p L0 pl m) (hl : L0.length < 32) : Pl cp p 17 A y y s t := by
  obtain ⟨s1, e1, v1, f1⟩ := ek_pop (cp := cp) kv hl
  obtain ⟨s2, e2, v2, f2⟩ := ek_push (cp := cp) (x := if y = 0 then 1 else 0) v1 hl
  obtain ⟨t1, g1, w1, k1⟩ := em_push (x := if y = 0 then 1 else 0) hp mv (by omega)
  refine ⟨s2, t1, _, pl, m, fun Φ h => ?_, fun Φ h => ?_, v2, w1, f1.trans f2, k1, by rw [List.length_append]; simp; omega⟩
  · have h2 := e2 Φ h
    have hc : ((¬ y = 0 → w_P_compute_170 cp p (nI 17) A Φ (0 : Int32) s1) ∧ (y = 0 → w_P_compute_170 cp p (nI 17) A Φ (1 : Int32) s1)) := by
      refine ⟨fun c => ?_, fun c => ?_⟩
      · rw [if_neg c] at h2; exact h2
      · rw [if_pos c] at h2; exact h2
    exact ⟨fun g => absurd g (by decide), fun g => absurd g (by decide), fun g => absurd g (by decide), fun g => absurd g (by decide), fun g => absurd g (by decide), fun _ => e1 _ hc, fun g => absurd g (by decide), fun g => absurd g (by decide), fun g => absurd g (by decide), fun g => absurd g (by decide), fun g => absurd g (by decide), fun g => absurd g (by decide), fun g => absurd g (by decide), fun g => absurd g (by decide), fun g => absurd g (by decide)⟩
  · have h2 := g1 Φ h
    have hc : ((¬ y = 0 → w_M_plain_110 (nI p) (nI 17) A y y Φ (0 : Int32) t) ∧ (y = 0 → w_M_plain_110 (nI p) (nI 17) A y y Φ (1 : Int32) t)) := by
      refine ⟨fun c => ?_, fun c => ?_⟩
      · rw [if_neg c] at h2; exact h2
      · rw [if_pos c] at h2; exact h2
    have h3 : w_M_plain_92 (nI p) (nI 17) A y y Φ (128 * nI p) t := ⟨fun g => absurd (by decide) g, fun _ => hc⟩
    intro y1 ey
    rw [ey]
    exact ⟨fun _ => ⟨fun _ => ⟨fun _ => ⟨fun g => absurd g (by decide), fun _ => ⟨fun _ => h3, fun g => absurd (by decide) g⟩⟩, fun g => absurd g (by decide)⟩, fun g => absurd g (by decide)⟩, fun g => absurd g (by decide)⟩
theorem pl_18 (hp : p < 16) (kv : KV s p L pl m) (mv : MV t p L pl m) (hl : L.length < 32) (hA : inM A) : Pl cp p 18 A x y s t := by
  obtain ⟨j, hj, eA⟩ := hA
  subst eA
  have ei : (128 : Int32) * nI p + nI j = nI (128 * p + j) := ix 128 p j
  obtain ⟨s1, e1, v1, f1⟩ := ek_push (cp := cp) (x := m j) kv hl
  obtain ⟨t1, g1, w1, k1⟩ := em_push (x := m j) hp mv (by omega)
  refine ⟨s1, t1, _, pl, m, fun Φ h => ?_, fun Φ h => ?_, v1, w1, f1, k1, by rw [List.length_append]; simp; omega⟩
  · have hc : vp_in (nI j) 128 ∧ w_P_push cp p (s 2 p (nI j).toNatClampNeg) s (fun s10 => Φ s10) := by
      rw [cl (n := j) (by omega), kv.2.2.2 j hj]
      exact ⟨vin hj (by omega), e1 _ h⟩
    exact ⟨fun g => absurd g (by decide), fun g => absurd g (by decide), fun g => absurd g (by decide), fun g => absurd g (by decide), fun g => absurd g (by decide), fun g => absurd g (by decide), fun _ => hc, fun g => absurd g (by decide), fun g => absurd g (by decide), fun g => absurd g (by decide), fun g => absurd g (by decide), fun g => absurd g (by decide), fun g => absurd g (by decide), fun g => absurd g (by decide), fun g => absurd g (by decide)⟩
  · have hc : vp_in (128 * nI p + nI j) 2048 ∧ w_M_push (nI p) (t 27 0 (128 * nI p + nI j).toNatClampNeg) t (fun s4 => Φ s4) := by
      rw [ei, cl (n := 128 * p + j) (by omega), mv.2.2.2 j hj]
      exact ⟨vin (by omega) (by omega), g1 _ h⟩
    have h3 : w_M_plain_92 (nI p) (nI 18) (nI j) x y Φ (128 * nI p) t := ⟨fun _ => ⟨fun g => absurd (by decide) g, fun _ => hc⟩, fun g => absurd g (by decide)⟩
    intro y1 ey
    rw [ey]
    exact ⟨fun _ => ⟨fun _ => ⟨fun _ => ⟨fun g => absurd g (by decide), fun _ => ⟨fun _ => h3, fun g => absurd (by decide) g⟩⟩, fun g => absurd g (by decide)⟩, fun g => absurd g (by decide)⟩, fun g => absurd g (by decide)⟩
theorem pl_19 (hp : p < 16) (kv : KV s p (L0 ++ [y]) pl m) (mv : MV t p L0 pl m) (hl : L0.length < 32) (hA : inM A) : Pl cp p 19 A y y s t := by
  obtain ⟨j, hj, eA⟩ := hA
  subst eA
  have ei : (128 : Int32) * nI p + nI j = nI (128 * p + j) := ix 128 p j
  obtain ⟨s1, e1, v1, f1⟩ := ek_pop (cp := cp) kv hl
  obtain ⟨v2, f2⟩ := ek_mem (a := j) (v := y) v1
  obtain ⟨w1, k1⟩ := em_mem (v := y) hj mv
  refine ⟨_, _, _, pl, _, fun Φ h => ?_, fun Φ h => ?_, v2, w1, f1.trans f2, k1, by omega⟩
  · have hc : vp_in (nI j) 128 ∧ ∀ s13 : KS, s13 = w3 s1 2 p (nI j).toNatClampNeg y → Φ s13 := by
      rw [cl (n := j) (by omega)]
      exact ⟨vin hj (by omega), fun u e => by rw [e]; exact h⟩
    exact ⟨fun g => absurd g (by decide), fun g => absurd g (by decide), fun g => absurd g (by decide), fun g => absurd g (by decide), fun g => absurd g (by decide), fun g => absurd g (by decide), fun g => absurd g (by decide), fun _ => e1 _ hc, fun g => absurd g (by decide), fun g => absurd g (by decide), fun g => absurd g (by decide), fun g => absurd g (by decide), fun g => absurd g (by decide), fun g => absurd g (by decide), fun g => absurd g (by decide)⟩
  · have hc : vp_in (128 * nI p + nI j) 2048 ∧ ∀ s3 : KS, s3 = w3 t 27 0 (128 * nI p + nI j).toNatClampNeg y → Φ s3 := by
      rw [ei, cl (n := 128 * p + j) (by omega)]
      exact ⟨vin (by omega) (by omega), fun u e => by rw [e]; exact h⟩
    have h3 : w_M_plain_92 (nI p) (nI 19) (nI j) y y Φ (128 * nI p) t := ⟨fun _ => ⟨fun _ => ⟨fun g => absurd (by decide) g, fun _ => hc⟩, fun g => absurd g (by decide)⟩, fun g => absurd g (by decide)⟩
    intro y1 ey
    rw [ey]
    exact ⟨fun _ => ⟨fun _ => ⟨fun _ => ⟨fun g => absurd g (by decide), fun _ => ⟨fun _ => h3, fun g => absurd (by decide) g⟩⟩, fun g => absurd g (by decide)⟩, fun g => absurd g (by decide)⟩, fun g => absurd g (by decide)⟩
theorem pl_20 (hp : p < 16) (kv : KV s p (L0 ++ [y]) pl m) (mv : MV t p L0 pl m) (hl : L0.length < 32) (hA : inM y) : Pl cp p 20 A y y s t := by
  obtain ⟨j, hj, eA⟩ := hA
  subst eA
  have ei : (128 : Int32) * nI p + nI j = nI (128 * p + j) := ix 128 p j
  obtain ⟨s1, e1, v1, f1⟩ := ek_pop (cp := cp) kv hl
  obtain ⟨s2, e2, v2, f2⟩ := ek_push (cp := cp) (x := m j) v1 hl
  obtain ⟨t1, g1, w1, k1⟩ := em_push (x := m j) hp mv (by omega)
  refine ⟨s2, t1, _, pl, m, fun Φ h => ?_, fun Φ h => ?_, v2, w1, f1.trans f2, k1, by rw [List.length_append]; simp; omega⟩
  · have hc : vp_in (nI j) 128 ∧ w_P_push cp p (s1 2 p (nI j).toNatClampNeg) s1 (fun s16 => Φ s16) := by
      rw [cl (n := j) (by omega), v1.2.2.2 j hj]
      exact ⟨vin hj (by omega), e2 _ h⟩
    exact ⟨fun g => absurd g (by decide), fun g => absurd g (by decide), fun g => absurd g (by decide), fun g => absurd g (by decide), fun g => absurd g (by decide), fun g => absurd g (by decide), fun g => absurd g (by decide), fun g => absurd g (by decide), fun _ => e1 _ hc, fun g => absurd g (by decide), fun g => absurd g (by decide), fun g => absurd g (by decide), fun g => absurd g (by decide), fun g => absurd g (by decide), fun g => absurd g (by decide)⟩
  · have hc : vp_in (128 * nI p + nI j) 2048 ∧ w_M_push (nI p) (t 27 0 (128 * nI p + nI j).toNatClampNeg) t (fun s4 => Φ s4) := by
      rw [ei, cl (n := 128 * p + j) (by omega), mv.2.2.2 j hj]
      exact ⟨vin (by omega) (by omega), g1 _ h⟩
    have h3 : w_M_plain_92 (nI p) (nI 20) A (nI j) (nI j) Φ (128 * nI p) t := ⟨fun _ => ⟨fun _ => ⟨fun _ => ⟨fun g => absurd (by decide) g, fun _ => hc⟩, fun g => absurd g (by decide)⟩, fun g => absurd g (by decide)⟩, fun g => absurd g (by decide)⟩
    intro y1 ey
    rw [ey]
    exact ⟨fun _ => ⟨fun _ => ⟨fun _ => ⟨fun g => absurd g (by decide), fun _ => ⟨fun _ => h3, fun g => absurd (by decide) g⟩⟩, fun g => absurd g (by decide)⟩, fun g => absurd g (by decide)⟩, fun g => absurd g (by decide)⟩
theorem pl_21 (hp : p < 16) (kv : KV s p (L0 ++ [x] ++ [y]) pl m) (mv : MV t p L0 pl m) (hl : L0.length < 31) (hA : inM y) : Pl cp p 21 A x y s t := by
  obtain ⟨j, hj, eA⟩ := hA
  subst eA
  have ei : (128 : Int32) * nI p + nI j = nI (128 * p + j) := ix 128 p j
  obtain ⟨s1, e1, v1, f1⟩ := ek_pop (cp := cp) kv (by rw [List.length_append]; simp; omega)
  obtain ⟨s2, e2, v2, f2⟩ := ek_pop (cp := cp) v1 (by omega)
  obtain ⟨v3, f3⟩ := ek_mem (a := j) (v := x) v2
  obtain ⟨w1, k1⟩ := em_mem (v := x) hj mv
  refine ⟨_, _, _, pl, _, fun Φ h => ?_, fun Φ h => ?_, v3, w1, (f1.trans f2).trans f3, k1, by omega⟩
  · have hc : w_P_storeAt cp p (nI j) s1 (fun s19 => Φ s19) := by
      unfold w_P_storeAt
      refine e2 _ ?_
      rw [cl (n := j) (by omega)]
      exact ⟨vin hj (by omega), fun u e => by rw [e]; exact h⟩
    exact ⟨fun g => absurd g (by decide), fun g => absurd g (by decide), fun g => absurd g (by decide), fun g => absurd g (by decide), fun g => absurd g (by decide), fun g => absurd g (by decide), fun g => absurd g (by decide), fun g => absurd g (by decide), fun g => absurd g (by decide), fun _ => e1 _ hc, fun g => absurd g (by decide), fun g => absurd g (by decide), fun g => absurd g (by decide), fun g => absurd g (by decide), fun g => absurd g (by decide)⟩
  · have hc : vp_in (128 * nI p + nI j) 2048 ∧ ∀ s3 : KS, s3 = w3 t 27 0 (128 * nI p + nI j).toNatClampNeg x → Φ s3 := by
      rw [ei, cl (n := 128 * p + j) (by omega)]
      exact ⟨vin (by omega) (by omega), fun u e => by rw [e]; exact h⟩
    have h3 : w_M_plain_92 (nI p) (nI 21) A x (nI j) Φ (128 * nI p) t := ⟨fun _ => ⟨fun _ => ⟨fun _ => ⟨fun _ => ⟨fun g => absurd (by decide) g, fun _ => hc⟩, fun g => absurd g (by decide)⟩, fun g => absurd g (by decide)⟩, fun g => absurd g (by decide)⟩, fun g => absurd g (by decide)⟩
    intro y1 ey
    rw [ey]
    exact ⟨fun _ => ⟨fun _ => ⟨fun _ => ⟨fun g => absurd g (by decide), fun _ => ⟨fun _ => h3, fun g => absurd (by decide) g⟩⟩, fun g => absurd g (by decide)⟩, fun g => absurd g (by decide)⟩, fun g => absurd g (by decide)⟩
theorem pl_22 (hp : p < 16) (kv : KV s p L pl m) (mv : MV t p L pl m) (hl : L.length ≤ 32) : Pl cp p 22 A x y s t := by
  obtain ⟨v1, f1⟩ := ek_place (v := A) kv
  obtain ⟨w1, k1⟩ := em_place (v := A) mv
  refine ⟨_, _, L, A, m, fun Φ h => ?_, fun Φ h => ?_, v1, w1, f1, k1, hl⟩
  · have hc : ∀ s20 : KS, s20 = w3 s 1 p 5 A → Φ s20 := fun u e => by rw [e]; exact h
    exact ⟨fun g => absurd g (by decide), fun g => absurd g (by decide), fun g => absurd g (by decide), fun g => absurd g (by decide), fun g => absurd g (by decide), fun g => absurd g (by decide), fun g => absurd g (by decide), fun g => absurd g (by decide), fun g => absurd g (by decide), fun g => absurd g (by decide), fun _ => hc, fun g => absurd g (by decide), fun g => absurd g (by decide), fun g => absurd g (by decide), fun g => absurd g (by decide)⟩
  · have hc : w_M_plain_221 (nI p) (nI 22) A x y Φ t := by
      unfold w_M_plain_221
      rw [cl (n := p) (by omega)]
      exact ⟨vin hp (by omega), fun u e => by rw [e]; exact h⟩
    have h3 : w_M_plain_92 (nI p) (nI 22) A x y Φ (128 * nI p) t := ⟨fun _ => ⟨fun _ => ⟨fun _ => ⟨fun _ => ⟨fun _ => ⟨fun _ => hc, fun g => absurd (by decide) g⟩, fun g => absurd g (by decide)⟩, fun g => absurd g (by decide)⟩, fun g => absurd g (by decide)⟩, fun g => absurd g (by decide)⟩, fun g => absurd g (by decide)⟩
    intro y1 ey
    rw [ey]
    exact ⟨fun _ => ⟨fun _ => ⟨fun _ => ⟨fun g => absurd g (by decide), fun _ => ⟨fun _ => h3, fun g => absurd (by decide) g⟩⟩, fun g => absurd g (by decide)⟩, fun g => absurd g (by decide)⟩, fun g => absurd g (by decide)⟩
theorem pl_23 (hp : p < 16) (kv : KV s p (L0 ++ [y]) pl m) (mv : MV t p L0 pl m) (hl : L0.length < 32) : Pl cp p 23 A y y s t := by
  obtain ⟨s1, e1, v1, f1⟩ := ek_pop (cp := cp) kv hl
  by_cases c : y = 0
  · obtain ⟨v2, f2⟩ := ek_place (v := A) v1
    obtain ⟨w1, k1⟩ := em_place (v := A) mv
    refine ⟨_, _, L0, A, m, fun Φ h => ?_, fun Φ h => ?_, v2, w1, f1.trans f2, k1, by omega⟩
    · have hc : ((¬ y = 0 → w_P_compute_253 cp p (nI 23) A Φ (s1 1 p 5) s1) ∧ (y = 0 → w_P_compute_253 cp p (nI 23) A Φ A s1)) := ⟨fun g => absurd c g, fun _ u e => by rw [e]; exact h⟩
      exact ⟨fun g => absurd g (by decide), fun g => absurd g (by decide), fun g => absurd g (by decide), fun g => absurd g (by decide), fun g => absurd g (by decide), fun g => absurd g (by decide), fun g => absurd g (by decide), fun g => absurd g (by decide), fun g => absurd g (by decide), fun g => absurd g (by decide), fun g => absurd g (by decide), fun _ => e1 _ hc, fun g => absurd g (by decide), fun g => absurd g (by decide), fun g => absurd g (by decide)⟩
    · have hd : w_M_plain_221 (nI p) (nI 23) A y y Φ t := by
        unfold w_M_plain_221
        rw [cl (n := p) (by omega)]
        exact ⟨vin hp (by omega), fun u e => by rw [e]; exact h⟩
      have hc : ((¬ y = 0 → w_M_plain_231 (nI p) (nI 23) A y y Φ t) ∧ (y = 0 → w_M_plain_221 (nI p) (nI 23) A y y Φ t)) := ⟨fun g => absurd c g, fun _ => hd⟩
      have h3 : w_M_plain_92 (nI p) (nI 23) A y y Φ (128 * nI p) t := ⟨fun _ => ⟨fun _ => ⟨fun _ => ⟨fun _ => ⟨fun _ => ⟨fun g => absurd g (by decide), fun _ => ⟨fun g => absurd (by decide) g, fun _ => hc⟩⟩, fun g => absurd g (by decide)⟩, fun g => absurd g (by decide)⟩, fun g => absurd g (by decide)⟩, fun g => absurd g (by decide)⟩, fun g => absurd g (by decide)⟩
      intro y1 ey
      rw [ey]
      exact ⟨fun _ => ⟨fun _ => ⟨fun _ => ⟨fun g => absurd g (by decide), fun _ => ⟨fun _ => h3, fun g => absurd (by decide) g⟩⟩, fun g => absurd g (by decide)⟩, fun g => absurd g (by decide)⟩, fun g => absurd g (by decide)⟩
  · obtain ⟨v2, f2⟩ := ek_place (v := pl) v1
    refine ⟨_, t, L0, pl, m, fun Φ h => ?_, fun Φ h => ?_, v2, mv, f1.trans f2, MF.refl p t, by omega⟩
    · have hc : ((¬ y = 0 → w_P_compute_253 cp p (nI 23) A Φ (s1 1 p 5) s1) ∧ (y = 0 → w_P_compute_253 cp p (nI 23) A Φ A s1)) := ⟨fun _ u e => by rw [e, v1.2.2.1]; exact h, fun g => absurd g c⟩
      exact ⟨fun g => absurd g (by decide), fun g => absurd g (by decide), fun g => absurd g (by decide), fun g => absurd g (by decide), fun g => absurd g (by decide), fun g => absurd g (by decide), fun g => absurd g (by decide), fun g => absurd g (by decide), fun g => absurd g (by decide), fun g => absurd g (by decide), fun g => absurd g (by decide), fun _ => e1 _ hc, fun g => absurd g (by decide), fun g => absurd g (by decide), fun g => absurd g (by decide)⟩
    · have h1 : w_M_plain_231 (nI p) (nI 23) A y y Φ t := ⟨fun _ => ⟨fun _ => h, fun g => absurd g (by decide)⟩, fun g => absurd g (by decide)⟩
      have hc : ((¬ y = 0 → w_M_plain_231 (nI p) (nI 23) A y y Φ t) ∧ (y = 0 → w_M_plain_221 (nI p) (nI 23) A y y Φ t)) := ⟨fun _ => h1, fun g => absurd g c⟩
      have h3 : w_M_plain_92 (nI p) (nI 23) A y y Φ (128 * nI p) t := ⟨fun _ => ⟨fun _ => ⟨fun _ => ⟨fun _ => ⟨fun _ => ⟨fun g => absurd g (by decide), fun _ => ⟨fun g => absurd (by decide) g, fun _ => hc⟩⟩, fun g => absurd g (by decide)⟩, fun g => absurd g (by decide)⟩, fun g => absurd g (by decide)⟩, fun g => absurd g (by decide)⟩, fun g => absurd g (by decide)⟩
      intro y1 ey
      rw [ey]
      exact ⟨fun _ => ⟨fun _ => ⟨fun _ => ⟨fun g => absurd g (by decide), fun _ => ⟨fun _ => h3, fun g => absurd (by decide) g⟩⟩, fun g => absurd g (by decide)⟩, fun g => absurd g (by decide)⟩, fun g => absurd g (by decide)⟩
theorem pl_24 (hp : p < 16) (kv : KV s p L pl m) (mv : MV t p L pl m) (hl : L.length < 32) : Pl cp p 24 A x y s t := by
  obtain ⟨s1, e1, v1, f1⟩ := ek_push (cp := cp) (x := pl) kv hl
  obtain ⟨t1, g1, w1, k1⟩ := em_push (x := pl) hp mv (by omega)
  obtain ⟨v2, f2⟩ := ek_place (v := A) v1
  obtain ⟨w2, k2⟩ := em_place (v := A) w1
  refine ⟨_, _, _, A, m, fun Φ h => ?_, fun Φ h => ?_, v2, w2, f1.trans f2, k1.trans k2, by rw [List.length_append]; simp; omega⟩
  · have hc : w_P_push cp p (s 1 p 5) s (fun s23 => ∀ s24 : KS, s24 = w3 s23 1 p 5 A → Φ s24) := by
      rw [kv.2.2.1]
      exact e1 _ (fun u e => by rw [e]; exact h)
    exact ⟨fun g => absurd g (by decide), fun g => absurd g (by decide), fun g => absurd g (by decide), fun g => absurd g (by decide), fun g => absurd g (by decide), fun g => absurd g (by decide), fun g => absurd g (by decide), fun g => absurd g (by decide), fun g => absurd g (by decide), fun g => absurd g (by decide), fun g => absurd g (by decide), fun g => absurd g (by decide), fun _ => hc, fun g => absurd g (by decide), fun g => absurd g (by decide)⟩
  · have h1 : w_M_plain_231 (nI p) (nI 24) A x y Φ t := by
      have hc : vp_in (nI p) 16 ∧ w_M_push (nI p) (t 30 0 (nI p).toNatClampNeg) t (fun s2 => vp_in (nI p) 16 ∧ ∀ s3 : KS, s3 = w3 s2 30 0 (nI p).toNatClampNeg A → Φ s3) := by
        rw [cl (n := p) (by omega), mv.2.2.1]
        exact ⟨vin hp (by omega), g1 _ ⟨vin hp (by omega), fun u e => by rw [e]; exact h⟩⟩
      exact ⟨fun g => absurd (by decide) g, fun _ => hc⟩
    have h2 : w_M_plain_92 (nI p) (nI 24) A x y Φ (128 * nI p) t := ⟨fun _ => ⟨fun _ => ⟨fun _ => ⟨fun _ => ⟨fun _ => ⟨fun g => absurd g (by decide), fun _ => ⟨fun _ => h1, fun g => absurd g (by decide)⟩⟩, fun g => absurd g (by decide)⟩, fun g => absurd g (by decide)⟩, fun g => absurd g (by decide)⟩, fun g => absurd g (by decide)⟩, fun g => absurd g (by decide)⟩
    intro y1 ey
    rw [ey]
    exact ⟨fun _ => ⟨fun _ => ⟨fun _ => ⟨fun g => absurd g (by decide), fun _ => ⟨fun _ => h2, fun g => absurd (by decide) g⟩⟩, fun g => absurd g (by decide)⟩, fun g => absurd g (by decide)⟩, fun g => absurd g (by decide)⟩
theorem pl_25 (hp : p < 16) (kv : KV s p (L0 ++ [y]) pl m) (mv : MV t p L0 pl m) (hl : L0.length < 32) : Pl cp p 25 A y y s t := by
  obtain ⟨s1, e1, v1, f1⟩ := ek_pop (cp := cp) kv hl
  obtain ⟨v2, f2⟩ := ek_place (v := y) v1
  obtain ⟨w1, k1⟩ := em_place (v := y) mv
  refine ⟨_, _, L0, y, m, fun Φ h => ?_, fun Φ h => ?_, v2, w1, f1.trans f2, k1, by omega⟩
  · have hc : ∀ s27 : KS, s27 = w3 s1 1 p 5 y → Φ s27 := fun u e => by rw [e]; exact h
    exact ⟨fun g => absurd g (by decide), fun g => absurd g (by decide), fun g => absurd g (by decide), fun g => absurd g (by decide), fun g => absurd g (by decide), fun g => absurd g (by decide), fun g => absurd g (by decide), fun g => absurd g (by decide), fun g => absurd g (by decide), fun g => absurd g (by decide), fun g => absurd g (by decide), fun g => absurd g (by decide), fun g => absurd g (by decide), fun _ => e1 _ hc, fun g => absurd g (by decide)⟩
  · have h1 : w_M_plain_231 (nI p) (nI 25) A y y Φ t := by
      have hc : vp_in (nI p) 16 ∧ ∀ s1 : KS, s1 = w3 t 30 0 (nI p).toNatClampNeg y → Φ s1 := by
        rw [cl (n := p) (by omega)]
        exact ⟨vin hp (by omega), fun u e => by rw [e]; exact h⟩
      exact ⟨fun _ => ⟨fun g => absurd (by decide) g, fun _ => hc⟩, fun g => absurd g (by decide)⟩
    have h2 : w_M_plain_92 (nI p) (nI 25) A y y Φ (128 * nI p) t := ⟨fun _ => ⟨fun _ => ⟨fun _ => ⟨fun _ => ⟨fun _ => ⟨fun g => absurd g (by decide), fun _ => ⟨fun _ => h1, fun g => absurd g (by decide)⟩⟩, fun g => absurd g (by decide)⟩, fun g => absurd g (by decide)⟩, fun g => absurd g (by decide)⟩, fun g => absurd g (by decide)⟩, fun g => absurd g (by decide)⟩
    intro y1 ey
    rw [ey]
    exact ⟨fun _ => ⟨fun _ => ⟨fun _ => ⟨fun g => absurd g (by decide), fun _ => ⟨fun _ => h2, fun g => absurd (by decide) g⟩⟩, fun g => absurd g (by decide)⟩, fun g => absurd g (by decide)⟩, fun g => absurd g (by decide)⟩
end PL

theorem em_lq {p : Nat} {t : KS} {q : List Nat} {fl : Int32} (hn : t 20 0 16 = nI q.length) (ha : AL (t 35 0) 0 q) (hl : q.length ≤ 16) (hp9 : p < 16) (hq : ∀ i ∈ q, i < 16) :
    ∃ n, ∃ arr, AL arr 0 (wo q p) ∧ ∀ Φ : KS → Prop, Φ (ur (ur t 35 0 arr) 20 0 (upd (upd (t 20 0) 16 (nI (wo q p).length)) 17 (if fl = 0 then t 20 0 17 else 0))) → w_M_leaveQueue_28 (nI p) Φ n (nI 0) fl (nI 0) t := by
  refine lo2 (fun n i (v : Int32) (t' : KS) => ∃ arr, AL arr 0 (wo q p) ∧ ∀ Φ : KS → Prop, Φ (ur (ur t 35 0 arr) 20 0 (upd (upd (t 20 0) 16 (nI (wo q p).length)) 17 (if fl = 0 then t 20 0 17 else 0))) → w_M_leaveQueue_28 (nI p) Φ n v fl (nI i) t')
    (fun i v t' => ∃ l arr, FI arr 0 q p i l ∧ v = nI l.length ∧ t' = ur t 35 0 arr)
    q.length 0 (nI 0) t (Nat.zero_le _) ?_ ?_ ?_
  · exact ⟨[], t 35 0, FI.init ha, rfl, (ur_same _ _ _).symm⟩
  · rintro n v t' ⟨l, arr, hF, hv, hs⟩
    obtain ⟨h1, h2⟩ := hF.done
    have h1 : l = wo q p := h1
    subst h1
    refine ⟨arr, h2, fun Φ hΦ => ?_⟩
    have e5 : t' 20 0 16 = nI q.length := by rw [hs]; simp [ur_e, hn]
    have er : t' 20 0 = t 20 0 := by rw [hs]; simp [ur_e]
    unfold w_M_leaveQueue_28
    refine ⟨fun _ s1 e1 => ?_, fun h => absurd (by rw [e5]; exact nI_le (Nat.le_refl _) (by omega)) h⟩
    have e1' : s1 = ur (ur t 35 0 arr) 20 0 (upd (t 20 0) 16 (nI (wo q p).length)) := by rw [e1, w3_ur, er, hs, hv]
    have e17 : s1 20 0 17 = t 20 0 17 := by rw [e1']; simp [ur_e, upd_e]
    have eF : ∀ x : Int32, w3 s1 20 0 17 x = ur (ur t 35 0 arr) 20 0 (upd (upd (t 20 0) 16 (nI (wo q p).length)) 17 x) := by
      intro x
      rw [e1', w3_ur, ur_ur, ur_e, if_pos ⟨rfl, rfl⟩]
    refine ⟨fun h0 s2 e2 => ?_, fun h0 s2 e2 => ?_⟩
    · rw [e2, e17, eF]
      rw [if_pos h0] at hΦ
      exact hΦ
    · rw [e2, eF]
      rw [if_neg h0] at hΦ
      exact hΦ
  · rintro n i v t' hi ⟨l, arr, hF, hv, hs⟩ hnext
    obtain ⟨x, hx, hxm⟩ := el hi
    have hx9 := hq x hxm
    have hlen := hF.len
    have e5 : t' 20 0 16 = nI q.length := by rw [hs]; simp [ur_e, hn]
    have e8 : t' 35 0 i = nI x := by
      rw [hs]
      have := hF.2.2 i x (Nat.le_refl _) hx
      simpa [ur_e] using this
    have ci : (nI i).toNatClampNeg = i := cl (by omega)
    have cv : v.toNatClampNeg = l.length := by rw [hv]; exact cl (by omega)
    have hno : ¬ t' 20 0 16 ≤ nI i := by rw [e5]; exact nI_ge hi (by omega)
    by_cases hxp : x = p
    · subst hxp
      obtain ⟨arr2, h1, h2⟩ := hnext v t' ⟨l, arr, hF.skip hx, hv, hs⟩
      refine ⟨arr2, h1, fun Φ hΦ => ?_⟩
      unfold w_M_leaveQueue_28
      refine ⟨fun h => absurd h hno, fun _ => ⟨vin (by omega) (by omega), ⟨fun _ y2 ey => ?_, fun h => absurd ?_ h⟩⟩⟩
      · rw [ey, nI_1]
        exact h2 Φ hΦ
      · rw [ci, e8]
    · obtain ⟨arr2, h1, h2⟩ := hnext (nI (l.length + 1)) (w3 t' 35 0 l.length (nI x)) ⟨l ++ [x], upd arr (0 + l.length) (nI x), hF.keep hx hxp, by rw [List.length_append]; rfl, by
        have e8a : t' 35 0 = arr := by rw [hs]; simp [ur_e]
        rw [w3_ur, e8a, hs, ur_ur, Nat.zero_add]⟩
      refine ⟨arr2, h1, fun Φ hΦ => ?_⟩
      unfold w_M_leaveQueue_28
      refine ⟨fun h => absurd h hno, fun _ => ⟨vin (by omega) (by omega), ⟨fun h => absurd ?_ hxp, fun _ => ⟨vin (by omega) (by omega), by rw [hv]; exact vin (by omega) (by omega), fun s5 e5 y6 ey6 y7 ey7 => ?_⟩⟩⟩⟩
      · rw [ci, e8] at h
        exact nI_inj (by omega) (by omega) h
      · rw [e5, ey6, ey7, ci, cv, e8, hv, nI_1, nI_1]
        exact h2 Φ hΦ
theorem em_leaveQueue {p : Nat} {t : KS} {q : List Nat} (hn : t 20 0 16 = nI q.length) (ha : AL (t 35 0) 0 q) (hl : q.length ≤ 16) (hp9 : p < 16) (hq : ∀ i ∈ q, i < 16) :
    ∃ arr, AL arr 0 (wo q p) ∧ EK (w_M_leaveQueue (nI p) t) (ur (ur t 35 0 arr) 20 0 (upd (upd (t 20 0) 16 (nI (wo q p).length)) 17 (if q.head? = some p then 0 else t 20 0 17))) := by
  cases hq0 : q with
  | nil =>
    have hqe := hq0
    obtain ⟨n, arr, h1, h2⟩ := em_lq (fl := 0) hn ha hl hp9 hq
    subst hq0
    refine ⟨arr, h1, fun Φ hΦ => ?_⟩
    unfold w_M_leaveQueue
    refine ⟨fun _ => ⟨n, h2 Φ (by simpa using hΦ)⟩, fun h => absurd (by rw [hn]; decide) h⟩
  | cons a l =>
    have ha9 : a < 16 := hq a (by rw [hq0]; simp)
    have hpos : ¬ t 20 0 16 ≤ 0 := by rw [hn]; exact nI_nle (by rw [hq0]; simp) (by omega)
    have e0 : t 35 0 (nI 0).toNatClampNeg = nI a := by
      rw [cl (by omega)]
      have := ha 0 a (by rw [hq0]; rfl)
      simpa using this
    by_cases hp : a = p
    · obtain ⟨n, arr, h1, h2⟩ := em_lq (fl := 1) hn ha hl hp9 hq
      subst hq0
      refine ⟨arr, h1, fun Φ hΦ => ?_⟩
      unfold w_M_leaveQueue
      refine ⟨fun h => absurd h hpos, fun _ => ⟨vin (n := 0) (by omega) (by omega), fun h => absurd ?_ h, fun _ => ⟨n, h2 Φ ?_⟩⟩⟩
      · show t 35 0 (nI 0).toNatClampNeg = _
        rw [e0, hp]
      · rw [if_pos (by simp [hp])] at hΦ
        rw [if_neg (by decide)]
        exact hΦ
    · obtain ⟨n, arr, h1, h2⟩ := em_lq (fl := 0) hn ha hl hp9 hq
      subst hq0
      refine ⟨arr, h1, fun Φ hΦ => ?_⟩
      unfold w_M_leaveQueue
      refine ⟨fun h => absurd h hpos, fun _ => ⟨vin (n := 0) (by omega) (by omega), fun _ => ⟨n, h2 Φ ?_⟩, fun h => absurd ?_ hp⟩⟩
      · have : ¬ (a :: l).head? = some p := by simpa using hp
        rw [if_neg this] at hΦ
        rw [if_pos rfl]
        exact hΦ
      · have h : t 35 0 (nI 0).toNatClampNeg = nI p := h
        rw [e0] at h
        exact nI_inj (by omega) (by omega) h
theorem ek_makeReady {cp p n : Nat} {s : KS} (hn : s 0 0 5 = nI n) (hl : n < 16) (hp : s 1 p 0 = nI p) : EK (w_K_makeReady cp p s) (w3 (w3 (w3 (w3 s 1 p 7 1) 1 p 10 (-1)) 8 0 n (nI p)) 0 0 5 (nI (n + 1))) := by
  intro Φ hΦ
  unfold w_K_makeReady
  intro s1 e1 s2 e2
  have h5 : s2 0 0 5 = nI n := by rw [e2, e1]; simp [w3_eq, hn]
  have h0 : s2 1 p 0 = nI p := by rw [e2, e1]; simp [w3_eq, hp]
  refine ⟨by rw [h5]; exact vin hl (by omega), fun s3 e3 s4 e4 => ?_⟩
  have h35 : s3 0 0 5 = nI n := by rw [e3]; simp [w3_eq, h5]
  rw [e4, h35, nI_1, e3, h5, h0, cl (by omega), e2, e1]
  exact hΦ
theorem em_ready {p n : Nat} {t : KS} (hn : t 20 0 16 = nI n) (hl : n < 16) (hp : p < 16) : EK (w_M_ready (nI p) t) (w3 (w3 (w3 (w3 t 26 0 p 1) 34 0 p 0) 35 0 n (nI p)) 20 0 16 (nI (n + 1))) := by
  intro Φ hΦ
  unfold w_M_ready
  have cpn : (nI p).toNatClampNeg = p := cl (by omega)
  rw [cpn]
  refine ⟨vin hp (by omega), fun s1 e1 => ⟨vin hp (by omega), fun s2 e2 => ?_⟩⟩
  have h5 : s2 20 0 16 = nI n := by rw [e2, e1]; simp [w3_eq, hn]
  refine ⟨by rw [h5]; exact vin hl (by omega), fun s3 e3 s4 e4 => ?_⟩
  have h35 : s3 20 0 16 = nI n := by rw [e3]; simp [w3_eq, h5]
  rw [e4, h35, nI_1, e3, h5, cl (by omega), e2, e1]
  exact hΦ

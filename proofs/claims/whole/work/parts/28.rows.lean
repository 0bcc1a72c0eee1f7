/-! who waits longest -/
theorem ek_longest {cp : Nat} {x : Int32} {s : KS} {L : List Nat} (hp : L.Pairwise (fun i j => s 1 i 11 < s 1 j 11)) (hm : ∀ i, i ∈ L ↔ i < 16 ∧ s 1 i 10 = x) : EO (w_K_longestWaiting cp x s) L.head? s := by
  have key : ∃ n, ∀ Φ : Option Nat → KS → Prop, Φ L.head? s → w_K_longestWaiting_4 cp x Φ n none (nI 0) s := by
    refine pk_loop (fun n i (o : Option Nat) => ∀ Φ : Option Nat → KS → Prop, Φ L.head? s → w_K_longestWaiting_4 cp x Φ n o (nI i) s)
      (fun i o => (o = none ∧ ∀ j, j < i → ¬ s 1 j 10 = x) ∨ ∃ z, z < i ∧ o = some z ∧ s 1 z 10 = x ∧ ∀ j, j < i → s 1 j 10 = x → s 1 z 11 ≤ s 1 j 11) 16 0 none (by omega) ?_ ?_ ?_
    · exact Or.inl ⟨rfl, fun j h => by omega⟩
    · intro n o hI Φ hΦ
      have hh : o = L.head? := by
        rcases hI with ⟨ho, hno⟩ | ⟨z, hz, ho, hzx, hmin⟩
        · cases L with
          | nil => rw [ho]; rfl
          | cons a l =>
            have := (hm a).mp (by simp)
            exact absurd this.2 (hno a this.1)
        · have hzL : z ∈ L := (hm z).mpr ⟨hz, hzx⟩
          cases L with
          | nil => simp at hzL
          | cons a l =>
            rw [ho]
            have ha := (hm a).mp (by simp)
            by_cases e : z = a
            · rw [e]; rfl
            · have hzl : z ∈ l := by simpa [e] using hzL
              have h1 := (List.pairwise_cons.mp hp).1 z hzl
              have h2 := hmin a ha.1 ha.2
              rw [Int32.lt_iff_toInt_lt] at h1
              rw [Int32.le_iff_toInt_le] at h2
              omega
      unfold w_K_longestWaiting_4
      refine ⟨fun _ => ⟨fun h => ?_, fun z h => ?_⟩, fun h => absurd (by decide) h⟩
      · rw [← hh, h] at hΦ; exact hΦ
      · rw [← hh, h] at hΦ; exact hΦ
    · intro n i o hi hI hnext Φ hΦ
      have ci : (nI i).toNatClampNeg = i := cl (by omega)
      have hno : ¬ (16 : Int32) ≤ nI i := nI_ge (b := 16) hi (by omega)
      unfold w_K_longestWaiting_4
      refine ⟨fun h => absurd h hno, fun _ => ⟨vin hi (by omega), ?_⟩⟩
      rw [ci]
      refine ⟨fun hx y ey => ?_, fun hx => ⟨fun ho y ey => ?_, fun z4 ho => ⟨fun hle y ey => ?_, fun hle y ey => ?_⟩⟩⟩
      · rw [ey, nI_1]
        refine hnext o ?_ Φ hΦ
        rcases hI with ⟨ho, hno⟩ | ⟨z, hz, ho, hzx, hmin⟩
        · exact Or.inl ⟨ho, fun j hj e => by
            by_cases h : j = i
            · exact hx (h ▸ e)
            · exact hno j (by omega) e⟩
        · exact Or.inr ⟨z, by omega, ho, hzx, fun j hj e => by
            by_cases h : j = i
            · exact absurd (h ▸ e) hx
            · exact hmin j (by omega) e⟩
      · rw [ey, nI_1]
        refine hnext (some i) ?_ Φ hΦ
        rcases hI with ⟨ho2, hno⟩ | ⟨z, hz, ho2, hzx, hmin⟩
        · exact Or.inr ⟨i, by omega, rfl, hx, fun j hj e => by
            by_cases h : j = i
            · subst h; rw [Int32.le_iff_toInt_le]; omega
            · exact absurd e (hno j (by omega))⟩
        · rw [ho] at ho2; cases ho2
      · rw [ey, nI_1]
        refine hnext (some z4) ?_ Φ hΦ
        rcases hI with ⟨ho2, hno⟩ | ⟨z, hz, ho2, hzx, hmin⟩
        · rw [ho] at ho2; cases ho2
        · rw [ho] at ho2
          cases ho2
          exact Or.inr ⟨z4, by omega, rfl, hzx, fun j hj e => by
            by_cases h : j = i
            · subst h; exact hle
            · exact hmin j (by omega) e⟩
      · rw [ey, nI_1]
        refine hnext (some i) ?_ Φ hΦ
        rcases hI with ⟨ho2, hno⟩ | ⟨z, hz, ho2, hzx, hmin⟩
        · rw [ho] at ho2; cases ho2
        · rw [ho] at ho2
          cases ho2
          refine Or.inr ⟨i, by omega, rfl, hx, fun j hj e => ?_⟩
          by_cases h : j = i
          · subst h; rw [Int32.le_iff_toInt_le]; omega
          · have := hmin j (by omega) e
            rw [Int32.le_iff_toInt_le] at this hle ⊢
            omega
  obtain ⟨n, h⟩ := key
  exact fun Φ hΦ => ⟨n, h Φ hΦ⟩
theorem em_leaveRow {r p : Nat} {t : KS} {L : List Nat} (hr : r < 17) (hn : t 40 0 r = nI L.length) (ha : AL (t 39 0) (16 * r) L) (hl : L.length ≤ 16) (hp9 : p < 16) (hq : ∀ i ∈ L, i < 16) :
    ∃ arr, AL arr (16 * r) (wo L p) ∧ (∀ j, j < 16 * r ∨ 16 * r + 16 ≤ j → arr j = t 39 0 j) ∧ EK (w_M_leaveRow (nI r) (nI p) t) (w3 (ur t 39 0 arr) 40 0 r (nI (wo L p).length)) := by
  have cr : (nI r).toNatClampNeg = r := cl (by omega)
  have key : ∃ n, ∃ arr, AL arr (16 * r) (wo L p) ∧ (∀ j, j < 16 * r ∨ 16 * r + 16 ≤ j → arr j = t 39 0 j) ∧ ∀ Φ : KS → Prop, Φ (w3 (ur t 39 0 arr) 40 0 r (nI (wo L p).length)) → w_M_leaveRow_5 (nI r) (nI p) Φ n (nI 0) (nI 0) t := by
    refine lo2 (fun n i (v : Int32) (t' : KS) => ∃ arr, AL arr (16 * r) (wo L p) ∧ (∀ j, j < 16 * r ∨ 16 * r + 16 ≤ j → arr j = t 39 0 j) ∧ ∀ Φ : KS → Prop, Φ (w3 (ur t 39 0 arr) 40 0 r (nI (wo L p).length)) → w_M_leaveRow_5 (nI r) (nI p) Φ n v (nI i) t')
      (fun i v t' => ∃ l arr, FI arr (16 * r) L p i l ∧ (∀ j, j < 16 * r ∨ 16 * r + 16 ≤ j → arr j = t 39 0 j) ∧ v = nI l.length ∧ t' = ur t 39 0 arr)
      L.length 0 (nI 0) t (Nat.zero_le _) ?_ ?_ ?_
    · exact ⟨[], t 39 0, FI.init ha, fun _ _ => rfl, rfl, (ur_same _ _ _).symm⟩
    · rintro n v t' ⟨l, arr, hF, hout, hv, hs⟩
      obtain ⟨h1, h2⟩ := hF.done
      have h1 : l = wo L p := h1
      subst h1
      refine ⟨arr, h2, hout, fun Φ hΦ => ?_⟩
      have e5 : t' 40 0 r = nI L.length := by rw [hs]; simp [ur_e, hn]
      unfold w_M_leaveRow_5
      rw [cr]
      refine ⟨vin hr (by omega), fun _ => ⟨vin hr (by omega), fun s1 e1 => ?_⟩, fun h => absurd (by rw [e5]; exact nI_le (Nat.le_refl _) (by omega)) h⟩
      rw [e1, hs, hv]
      exact hΦ
    · rintro n i v t' hi ⟨l, arr, hF, hout, hv, hs⟩ hnext
      obtain ⟨x, hx, hxm⟩ := el hi
      have hx9 := hq x hxm
      have hlen := hF.len
      have e5 : t' 40 0 r = nI L.length := by rw [hs]; simp [ur_e, hn]
      have e8 : t' 39 0 (16 * r + i) = nI x := by
        rw [hs]
        have := hF.2.2 i x (Nat.le_refl _) hx
        simpa [ur_e] using this
      have i1 : (16 : Int32) * nI r + nI i = nI (16 * r + i) := ix 16 r i
      have i2 : (16 : Int32) * nI r + v = nI (16 * r + l.length) := by rw [hv]; exact ix 16 r l.length
      have ci : (nI (16 * r + i)).toNatClampNeg = 16 * r + i := cl (by omega)
      have cv : (nI (16 * r + l.length)).toNatClampNeg = 16 * r + l.length := cl (by omega)
      have hno : ¬ t' 40 0 r ≤ nI i := by rw [e5]; exact nI_ge hi (by omega)
      by_cases hxp : x = p
      · subst hxp
        obtain ⟨arr2, h1, h3, h2⟩ := hnext v t' ⟨l, arr, hF.skip hx, hout, hv, hs⟩
        refine ⟨arr2, h1, h3, fun Φ hΦ => ?_⟩
        unfold w_M_leaveRow_5
        rw [cr, i1, ci]
        refine ⟨vin hr (by omega), fun h => absurd h hno, fun _ => ⟨vin (by omega) (by omega), ⟨fun _ y2 ey => ?_, fun h => absurd e8 h⟩⟩⟩
        rw [ey, nI_1]
        exact h2 Φ hΦ
      · obtain ⟨arr2, h1, h3, h2⟩ := hnext (nI (l.length + 1)) (w3 t' 39 0 (16 * r + l.length) (nI x)) ⟨l ++ [x], upd arr (16 * r + l.length) (nI x), hF.keep hx hxp, fun j hj => by rw [upd_e, if_neg (by omega)]; exact hout j hj, by rw [List.length_append]; rfl, by
          have e8a : t' 39 0 = arr := by rw [hs]; simp [ur_e]
          rw [w3_ur, e8a, hs, ur_ur]⟩
        refine ⟨arr2, h1, h3, fun Φ hΦ => ?_⟩
        unfold w_M_leaveRow_5
        rw [cr, i1, ci, i2, cv]
        refine ⟨vin hr (by omega), fun h => absurd h hno, fun _ => ⟨vin (by omega) (by omega), ⟨fun h => absurd ?_ hxp, fun _ => ⟨vin (by omega) (by omega), vin (by omega) (by omega), fun s5 e5 y6 ey6 y7 ey7 => ?_⟩⟩⟩⟩
        · rw [e8] at h
          exact nI_inj (by omega) (by omega) h
        · rw [e5, ey6, ey7, e8, hv, nI_1, nI_1]
          exact h2 Φ hΦ
  obtain ⟨n, arr, h1, h3, h2⟩ := key
  exact ⟨arr, h1, h3, fun Φ hΦ => ⟨n, h2 Φ hΦ⟩⟩

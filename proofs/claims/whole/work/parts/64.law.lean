/-! the beginning, and the law -/
theorem kq_mq (x : Int32) (h : Nat) (h1 : 1 ≤ h) (h2 : h < 1000) : kq x (nI h) = mq x (nI h) ∧ ∃ n, 1 ≤ n ∧ n ≤ h ∧ kq x (nI h) = nI n := by
  have z1 : (1 : Int32) = nI 1 := rfl
  rcases pk_ix x (n := h + 1) (by omega) with g | g | ⟨k, hk, e⟩
  · have a1 : ¬ nI h < x := fun k => by
      rw [Int32.lt_iff_toInt_lt] at k g
      rw [nI_toInt (by omega)] at k
      have z : (0 : Int32).toInt = 0 := by decide
      omega
    have a2 : ¬ 1 < x := fun k => by
      rw [Int32.lt_iff_toInt_lt] at k g
      have z : (0 : Int32).toInt = 0 := by decide
      have zz : (1 : Int32).toInt = 1 := by decide
      omega
    have a3 : ¬ 1 ≤ x := fun k => by
      rw [Int32.lt_iff_toInt_lt] at g
      rw [Int32.le_iff_toInt_le] at k
      have z : (0 : Int32).toInt = 0 := by decide
      have zz : (1 : Int32).toInt = 1 := by decide
      omega
    unfold kq mq
    rw [if_neg a1, if_neg a2, if_neg a3]
    exact ⟨rfl, 1, by omega, h1, rfl⟩
  · have a1 : nI h < x := by
      rw [Int32.le_iff_toInt_le, nI_toInt (by omega)] at g
      rw [Int32.lt_iff_toInt_lt, nI_toInt (by omega)]
      omega
    have a3 : 1 ≤ x := by
      rw [Int32.le_iff_toInt_le, nI_toInt (by omega)] at g
      rw [Int32.le_iff_toInt_le]
      have zz : (1 : Int32).toInt = 1 := by decide
      omega
    have a4 : ¬ x ≤ nI h := fun k => by
      rw [Int32.le_iff_toInt_le] at k
      rw [Int32.lt_iff_toInt_lt] at a1
      omega
    unfold kq mq
    rw [if_pos a1, if_pos a3, if_neg a4]
    by_cases c : 1 < h
    · have a5 : (1 : Int32) < nI h := nI_lt (a := 1) c (by omega)
      rw [if_pos a5]
      exact ⟨rfl, h, h1, by omega, rfl⟩
    · have e1 : h = 1 := by omega
      subst e1
      rw [if_neg (by decide)]
      exact ⟨rfl, 1, by omega, by omega, rfl⟩
  · subst e
    have a1 : ¬ nI h < nI k := nI_nlt (by omega) (by omega)
    have a4 : nI k ≤ nI h := nI_le (by omega) (by omega)
    unfold kq mq
    rw [if_neg a1, if_pos a4]
    by_cases c : 1 < k
    · have a5 : (1 : Int32) < nI k := nI_lt (a := 1) c (by omega)
      have a6 : (1 : Int32) ≤ nI k := nI_le (a := 1) (by omega) (by omega)
      rw [if_pos a5, if_pos a6]
      exact ⟨rfl, k, by omega, by omega, rfl⟩
    · have a5 : ¬ (1 : Int32) < nI k := nI_nlt (b := k) (a := 1) (by omega) (by omega)
      rw [if_neg a5]
      by_cases c1 : k = 1
      · subst c1
        rw [if_pos (by decide)]
        exact ⟨rfl, 1, by omega, h1, rfl⟩
      · have e0 : k = 0 := by omega
        subst e0
        rw [if_neg (by decide)]
        exact ⟨rfl, 1, by omega, h1, rfl⟩
theorem inv0 (x0 x1 : Int32) : Inv (kq x1 16).toNatClampNeg 2 (fK0 (kq x0 100)) (fM0 (mq x0 100) (mq x1 16)) := by
  obtain ⟨e0, Q, Q1, Q2, eQ⟩ := kq_mq x0 100 (by omega) (by omega)
  obtain ⟨e1, n, n1, n2, en⟩ := kq_mq x1 16 (by omega) (by omega)
  have e0' : kq x0 100 = mq x0 100 := e0
  have e1' : kq x1 16 = mq x1 16 := e1
  have eQ' : kq x0 100 = nI Q := eQ
  have en' : kq x1 16 = nI n := en
  rw [← e0', ← e1', eQ', en', cl (n := n) (by omega)]
  refine ⟨0, ⟨[], fun _ => [], 0, ⟨⟨fun i hi => rfl, fun i hi => rfl, fun i hi => rfl, fun i hi h6 => absurd (show (0 : Int32) = 6 from h6) (by decide), fun i hi d hd => ⟨rfl, 0, rfl, Or.inl rfl⟩, fun i hi h0 => absurd rfl h0⟩, ⟨rfl, rfl, AL.nil, AL.nil, List.nodup_nil, fun i hi => by simp at hi⟩, fun i hi => ⟨fun h => by simp at h, fun h => absurd (show (0 : Int32) = 1 from h) (by decide)⟩, fun r hr => ⟨rfl, AL.nil, List.Pairwise.nil, fun i => ⟨fun h => by simp at h, fun h => ?_⟩, fun i h => by simp at h⟩, fun i hi => Or.inl rfl⟩, ⟨fun z z1 z2 => ?_, ⟨rfl, n1, n2, fun w hw => ⟨[], ⟨0, by omega, rfl, rfl, by simp, fun k x h => by simp at h⟩, rfl, fun k x h => by simp at h⟩⟩, ⟨[], ⟨0, by omega, rfl, rfl, by simp, fun k x h => by simp at h⟩, ⟨rfl, fun k x h => by simp at h⟩, rfl, Or.inl rfl⟩, ⟨0, [], ⟨0, by omega, rfl, rfl, by simp, fun k x h => by simp at h⟩, rfl, rfl, rfl, by omega, fun k x h => by simp at h⟩, rfl, ⟨Q, rfl, Q1, Q2⟩, rfl, rfl, by omega, rfl, Or.inl rfl, ⟨0, rfl, by omega⟩⟩, fun w hw c1 c2 => rfl, ⟨fun i hi h d hd => rfl, fun i hi h => absurd rfl h, fun i hi h => absurd (show (0 : Int32) = 4 from h) (by decide), fun i hi h => absurd (show (0 : Int32) = 5 from h) (by decide)⟩, rfl, rfl, by omega⟩, by omega, fun _ => ⟨fun i hi => rfl, rfl, rfl, rfl, rfl, rfl, fun k hk => rfl⟩⟩
  · exfalso
    exact nI_m1 (n := rc r) (by have := rc_lt hr; omega) h.2.symm
  · have hc : cnt (fM0 (nI Q) (nI n) 31 0) (nI z) 128 = 0 := cnt_0 (fun k hk h => nI_ne0 (n := z) (by omega) (by omega) h.symm)
    rw [hc]
    rfl
theorem law_step {cp j : Nat} {s t : KS} {a b c : Int32} (h : Inv cp j s t) (hj : j ≤ 1536) : lawStep cp a b c s t (Inv cp (j + 3)) := by
  have up : Inv cp (j + 3) s t := by
    obtain ⟨T, h1, h2, h3⟩ := h
    exact ⟨T, h1, by omega, h3⟩
  exact ⟨fun _ => k_load h, fun _ => k_boot h, fun _ => k_run h hj, fun _ => k_feed h, fun _ => k_shut h, fun _ => k_time h, fun _ => k_state h, fun _ => k_about h, fun _ => k_stack h, fun _ => k_memory h, fun _ => k_queue h, fun _ => k_descriptor h, fun _ => k_pipe h, fun _ => k_outs h, fun _ => k_out h, fun _ => up⟩
theorem whole_start {p : Program} {e : Env} {s : State} {m : MethodId} {below : List Frame} {meth : Method} {c : Code} (l : Launch) (hl0 : l.stackTraces = false) {b L : Nat} {xs : Nat → Int32} (hL : L ≤ 1538) (C0 : lw_At p s m meth c b L xs) : W p l e room_1 s m #[Value.ref b] below meth c s.heap [] 0 0 (lw_Z below #[Value.ref b] s) (entryFrame m ([Value.ref b] : List Value).toArray 7) :=
  law_start l hl0 hL C0 (Inv (kq (cv L xs 1) 16).toNatClampNeg) (inv0 _ _) (fun j f t h hj => law_step h (by omega))

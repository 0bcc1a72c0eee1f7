/-! those whose time has come -/
def dueM (t : KS) (j : Nat) : Prop := t 26 0 j = 5 ∧ ¬ t 20 0 4 < t 34 0 j
theorem em_scan {t : KS} {d : Nat} {X : Int32} (hd : d ≤ 16) (hlow : ∀ j, j < d → ¬ dueM t j) (hat : d < 16 → dueM t d) (hall : ∀ j, j < 16 → dueM t j → t 34 0 j = X) (K2 : Int32 → KS → Prop) (Φ : KS → Prop) (g : w_M_wakeSleepers_75 K2 Φ (if d < 16 then nI d else -1) (if d < 16 then 1 else 0) t) : ∃ nn : Nat, w_M_wakeSleepers_10 K2 Φ nn (-1 : Int32) (0 : Int32) t := by
  have key : ∃ n, w_M_wakeSleepers_10 K2 Φ n (-1 : Int32) (nI 0) t := by
    refine pk_loop (fun n j (v : Int32) => w_M_wakeSleepers_10 K2 Φ n v (nI j) t) (fun j v => (j ≤ d ∧ v = -1) ∨ (d < j ∧ v = nI d)) 16 0 (-1) (by omega) (Or.inl ⟨by omega, rfl⟩) ?_ ?_
    · intro n v hv
      unfold w_M_wakeSleepers_10
      refine ⟨fun _ => ?_, fun k => absurd (by decide) k⟩
      rcases hv with ⟨h1, e⟩ | ⟨h1, e⟩
      · rw [if_neg (by omega), if_neg (by omega)] at g
        rw [e]
        exact ⟨fun _ => g, fun k => absurd (by decide) k⟩
      · rw [if_pos h1, if_pos h1] at g
        rw [e]
        exact ⟨fun k => absurd k (nI_pos (by omega)), fun _ => g⟩
    · intro n j v hj hv hnext
      unfold w_M_wakeSleepers_10
      rw [cl (n := j) (by omega)]
      have stay : ¬ (j = d) → (∀ z : Int32, z = nI j + 1 → w_M_wakeSleepers_10 K2 Φ n v z t) := fun hne z ez => by
        rw [ez, nI_1]
        refine hnext v ?_
        rcases hv with ⟨h1, e⟩ | ⟨h1, e⟩
        · exact Or.inl ⟨by omega, e⟩
        · exact Or.inr ⟨by omega, e⟩
      refine ⟨fun k => absurd k (nI_ge (b := 16) hj (by omega)), fun _ => ⟨vin hj (by omega), fun k5 => stay (fun e => ?_), fun k5 => ⟨vin hj (by omega), fun kt => stay (fun e => ?_), fun kt => ?_⟩⟩⟩
      · rw [e] at k5; exact absurd (hat (by omega)).1 k5
      · rw [e] at kt; exact absurd kt (hat (by omega)).2
      · have hdue : dueM t j := ⟨k5, kt⟩
        have hdj : d ≤ j := by
          apply Nat.le_of_not_lt
          intro c
          exact hlow j c hdue
        rcases hv with ⟨h1, e⟩ | ⟨h1, e⟩
        · have ej : j = d := by omega
          rw [e]
          refine ⟨fun _ z ez => ?_, fun k => absurd (by decide) k⟩
          rw [ez, nI_1]
          exact hnext _ (Or.inr ⟨by omega, by rw [ej]⟩)
        · have e34 : t 34 0 d = t 34 0 j := (hall d (by omega) (hat (by omega))).trans (hall j hj hdue).symm
          rw [e, cl (n := d) (by omega), e34]
          refine ⟨fun k => absurd k (nI_pos (by omega)), fun _ => ⟨vin hj (by omega), vin (by omega) (by omega), fun _ z ez => ?_, fun k => ?_⟩⟩
          · rw [ez, nI_1]
            exact hnext _ (Or.inr ⟨by omega, rfl⟩)
          · exfalso; apply k; rw [Int32.le_iff_toInt_le]; omega
  exact key
/-- what holds among the others while the sleepers wake -/
def Zw (s : KS) (T i : Nat) : Prop := (∀ i, i < 16 → (s 1 i 7 = 0 ∨ s 1 i 7 = 6) → ∀ d, d < 8 → s 4 i d = 0) ∧ (∀ i, i < 16 → ¬ s 1 i 7 = 0 → s 1 i 6 = -1 ∨ ∃ j, j < 16 ∧ s 1 i 6 = nI j ∧ ¬ s 1 j 7 = 0 ∧ ¬ s 1 j 7 = 6) ∧ (∀ i, i < 16 → s 1 i 7 = 4 → ∀ c, c < 16 → ¬ (s 1 c 7 = 6 ∧ s 1 c 6 = nI i)) ∧ (∀ j, j < 16 → s 1 j 7 = 5 → nI T ≤ s 1 j 9) ∧ (∀ j, j < i → s 1 j 7 = 5 → nI T < s 1 j 9)
theorem rd_Zw {s : KS} {T i n : Nat} (hi : i < 16) (h5 : s 1 i 7 = 5) (h : Zw s T i) : Zw (kRd s i n) T (i + 1) := by
  obtain ⟨Z1, Z2, Z3, Z4, Z5⟩ := h
  have st : ∀ j, j ≠ i → kRd s i n 1 j 7 = s 1 j 7 := fun j g => by simp [kRd, w3_eq, g]
  have sti : kRd s i n 1 i 7 = 1 := by simp [kRd, w3_eq]
  have p6 : ∀ j, kRd s i n 1 j 6 = s 1 j 6 := fun j => by simp [kRd, w3_eq]
  have p9 : ∀ j, kRd s i n 1 j 9 = s 1 j 9 := fun j => by simp [kRd, w3_eq]
  refine ⟨fun j hj hz d hd => ?_, fun j hj hz => ?_, fun j hj h4 c hc => ?_, fun j hj h9 => ?_, fun j hj h9 => ?_⟩
  · have g : j ≠ i := fun g => by rw [g, sti] at hz; rcases hz with k | k <;> exact absurd k (by decide)
    rw [st j g] at hz
    exact Z1 j hj hz d hd
  · rw [p6 j]
    have hz0 : ¬ s 1 j 7 = 0 := by
      by_cases g : j = i
      · rw [g, h5]; decide
      · rw [st j g] at hz; exact hz
    rcases Z2 j hj hz0 with k | ⟨j', hj', ej, j0, j6⟩
    · exact Or.inl k
    · refine Or.inr ⟨j', hj', ej, ?_⟩
      by_cases g : j' = i
      · rw [g, sti]; exact ⟨by decide, by decide⟩
      · rw [st j' g]; exact ⟨j0, j6⟩
  · have g : j ≠ i := fun g => by rw [g, sti] at h4; exact absurd h4 (by decide)
    rw [st j g] at h4
    rw [p6 c]
    rintro ⟨c6, cp⟩
    have gc : c ≠ i := fun g => by rw [g, sti] at c6; exact absurd c6 (by decide)
    rw [st c gc] at c6
    exact Z3 j hj h4 c hc ⟨c6, cp⟩
  · have g : j ≠ i := fun g => by rw [g, sti] at h9; exact absurd h9 (by decide)
    rw [st j g] at h9
    rw [p9 j]
    exact Z4 j hj h9
  · have g : j ≠ i := fun g => by rw [g, sti] at h9; exact absurd h9 (by decide)
    rw [st j g] at h9
    rw [p9 j]
    exact Z5 j (by omega) h9
theorem ws_loop {cp T : Nat} {row : Nat → List Nat} : ∀ (k i : Nat) (s t : KS) (q : List Nat), i + k = 16 → XY s t q row → XH cp T s t → XF s t → Zw s T i → ∃ s' t' L, (∀ Φ : KS → Prop, Φ s' → w_K_wakeSleepers_2 cp Φ (k + 1) (nI i) s) ∧ (∃ n, ∀ Φ : KS → Prop, Φ t' → w_M_wakeSleepers_2 Φ n 1 t) ∧ XY s' t' (q ++ L) row ∧ XH cp T s' t' ∧ XF s' t' ∧ Z s' T ∧ (∀ j, j ≠ 5 → s' 0 0 j = s 0 0 j) ∧ (∀ j, j ≠ 16 → t' 20 0 j = t 20 0 j) := by
  intro k
  induction k with
  | zero =>
    intro i s t q hi hY hH hF hZ
    have e16 : i = 16 := by omega
    subst e16
    have hnone : ∀ j, j < 16 → ¬ dueM t j := fun j hj ⟨g5, gt⟩ => by
      rw [hY.1.2.1 j hj] at g5
      rw [hY.1.2.2.1 j hj, if_pos g5] at gt
      have := hZ.2.2.2.2 j hj g5
      rw [hH.2.2.2.2.2.2.2.1] at gt
      exact gt this
    refine ⟨s, t, [], fun Φ hΦ => ?_, ⟨2, fun Φ hΦ => ?_⟩, by rw [List.append_nil]; exact hY, hH, hF, ⟨hZ.1, hZ.2.1, hZ.2.2.1, fun j hj h5 => hZ.2.2.2.2 j hj h5⟩, fun _ _ => rfl, fun _ _ => rfl⟩
    · unfold w_K_wakeSleepers_2
      exact ⟨fun _ => hΦ, fun g => absurd (by decide) g⟩
    · unfold w_M_wakeSleepers_2
      refine ⟨fun g => absurd g (by decide), fun _ => em_scan (d := 16) (X := 0) (by omega) hnone (fun g => by omega) (fun j hj g => absurd g (hnone j hj)) _ _ ?_⟩
      rw [if_neg (by omega), if_neg (by omega)]
      unfold w_M_wakeSleepers_75
      refine ⟨fun _ => ?_, fun g => absurd rfl g⟩
      unfold w_M_wakeSleepers_2
      exact ⟨fun _ => hΦ, fun g => absurd rfl g⟩
  | succ k ih =>
    intro i s t q hi hY hH hF hZ
    have hi16 : i < 16 := by omega
    have e7 : s 0 0 7 = nI T := hH.2.2.2.2.2.2.1
    have e4 : t 20 0 4 = nI T := hH.2.2.2.2.2.2.2.1
    have hT : T ≤ 70000 := hH.2.2.2.2.2.2.2.2.1
    by_cases c5 : s 1 i 7 = 5
    · by_cases ct : nI T < s 1 i 9
      · obtain ⟨s', t', L, a1, a2, a3⟩ := ih (i + 1) s t q (by omega) hY hH hF ⟨hZ.1, hZ.2.1, hZ.2.2.1, hZ.2.2.2.1, fun j hj h5 => by
          by_cases e : j = i
          · rw [e]; exact ct
          · exact hZ.2.2.2.2 j (by omega) h5⟩
        refine ⟨s', t', L, fun Φ hΦ => ?_, a2, a3⟩
        unfold w_K_wakeSleepers_2
        rw [cl (n := i) (by omega), e7]
        exact ⟨fun g => absurd g (nI_ge (b := 16) hi16 (by omega)), fun _ => ⟨vin hi16 (by omega), fun g => absurd c5 g, fun _ => ⟨vin hi16 (by omega), fun _ y ey => by rw [ey, nI_1]; exact a1 Φ hΦ, fun g => absurd ct g⟩⟩⟩
      · obtain ⟨r1, r2, r3, r4, r5⟩ := rd_pair (cp := cp) hY hH hF hi16 (by rw [c5]; decide) (by rw [c5]; decide) (by rw [c5]; decide) (by rw [c5]; decide)
        obtain ⟨s', t', L, a1, ⟨n, a2⟩, a3, a4, a5, a6, a7, a8⟩ := ih (i + 1) _ _ _ (by omega) r3 r4 r5 (rd_Zw hi16 c5 hZ)
        have duei : dueM t i := by
          refine ⟨by rw [hY.1.2.1 i hi16]; exact c5, ?_⟩
          rw [hY.1.2.2.1 i hi16, if_pos c5, e4]
          exact ct
        have low : ∀ j, j < i → ¬ dueM t j := fun j hj ⟨g5, gt⟩ => by
          rw [hY.1.2.1 j (by omega)] at g5
          rw [hY.1.2.2.1 j (by omega), if_pos g5, e4] at gt
          exact gt (hZ.2.2.2.2 j hj g5)
        have all : ∀ j, j < 16 → dueM t j → t 34 0 j = nI T := fun j hj ⟨g5, gt⟩ => by
          rw [hY.1.2.1 j hj] at g5
          rw [hY.1.2.2.1 j hj, if_pos g5, e4] at gt
          have h4 := hZ.2.2.2.1 j hj g5
          rw [hY.1.2.2.1 j hj, if_pos g5]
          apply Int32.toInt_inj.mp
          rw [Int32.le_iff_toInt_le] at h4
          rw [Int32.lt_iff_toInt_lt] at gt
          omega
        refine ⟨s', t', [i] ++ L, fun Φ hΦ => ?_, ⟨n + 1, fun Φ hΦ => ?_⟩, by rw [← List.append_assoc]; exact a3, a4, a5, a6, fun j hj => ?_, fun j hj => ?_⟩
        · unfold w_K_wakeSleepers_2
          rw [cl (n := i) (by omega), e7]
          exact ⟨fun g => absurd g (nI_ge (b := 16) hi16 (by omega)), fun _ => ⟨vin hi16 (by omega), fun g => absurd c5 g, fun _ => ⟨vin hi16 (by omega), fun g => absurd g ct, fun _ => ⟨vin hi16 (by omega), r1 _ (fun y ey => by rw [ey, nI_1]; exact a1 Φ hΦ)⟩⟩⟩⟩
        · unfold w_M_wakeSleepers_2
          refine ⟨fun g => absurd g (by decide), fun _ => em_scan (d := i) (X := nI T) (by omega) low (fun _ => duei) all _ _ ?_⟩
          rw [if_pos hi16, if_pos hi16]
          unfold w_M_wakeSleepers_75
          exact ⟨fun g => absurd g (by decide), fun _ => r2 _ (a2 Φ hΦ)⟩
        · rw [a7 j hj]; simp [kRd, w3_eq, hj]
        · rw [a8 j hj]; simp [mRd, w3_eq, hj]
    · obtain ⟨s', t', L, a1, a2, a3⟩ := ih (i + 1) s t q (by omega) hY hH hF ⟨hZ.1, hZ.2.1, hZ.2.2.1, hZ.2.2.2.1, fun j hj h5 => by
        by_cases e : j = i
        · rw [e] at h5; exact absurd h5 c5
        · exact hZ.2.2.2.2 j (by omega) h5⟩
      refine ⟨s', t', L, fun Φ hΦ => ?_, a2, a3⟩
      unfold w_K_wakeSleepers_2
      rw [cl (n := i) (by omega)]
      exact ⟨fun g => absurd g (nI_ge (b := 16) hi16 (by omega)), fun _ => ⟨vin hi16 (by omega), fun _ y ey => by rw [ey, nI_1]; exact a1 Φ hΦ, fun g => absurd g c5⟩⟩
/-- is there a step to do -/
theorem go_pair {cp T : Nat} {s t : KS} {q : List Nat} {row : Nat → List Nat} (hY : XY s t q row) : ∃ g : Int32, (g = 0 ∨ g = 1) ∧ EI (w_K_goesOn cp s) g s ∧ EI (w_M_goesOn t) g t ∧ (g = 1 → ¬ ∀ i, i < 16 → s 1 i 7 = 0) := by
  have hq := hY.2.1.len
  obtain ⟨d, h2, h3⟩ := pk_least (fun k => k = 16 ∨ s 1 k 7 = 5) ⟨16, Or.inl rfl⟩
  have d8 : d ≤ 16 := by
    apply Nat.le_of_not_lt
    intro g
    exact h3 16 g (Or.inl rfl)
  have h5 : d < 16 → s 1 d 7 = 5 := fun g => by
    rcases h2 with h2 | h2
    · omega
    · exact h2
  have low : ∀ j, j < d → ¬ s 1 j 7 = 5 := fun j hj k => h3 j hj (Or.inr k)
  -- the class's loop
  have kl : ∃ n, ∀ Φ : Int32 → KS → Prop, Φ (if d < 16 then 1 else 0) s → w_K_goesOn_11 cp Φ n (nI 0) s := by
    refine pk_loop (fun n i (_ : Unit) => ∀ Φ : Int32 → KS → Prop, Φ (if d < 16 then 1 else 0) s → w_K_goesOn_11 cp Φ n (nI i) s) (fun _ _ => True) d 0 () (by omega) trivial ?_ ?_
    · intro n _ _ Φ hΦ
      unfold w_K_goesOn_11
      by_cases c : d < 16
      · rw [if_pos c] at hΦ
        rw [cl (n := d) (by omega)]
        exact ⟨fun g => absurd g (nI_ge (b := 16) c (by omega)), fun _ => ⟨vin c (by omega), fun g => absurd (h5 c) g, fun _ => hΦ⟩⟩
      · rw [if_neg c] at hΦ
        exact ⟨fun _ => hΦ, fun g => absurd (nI_le (a := 16) (by omega) (by omega)) g⟩
    · intro n i _ hi _ hnext Φ hΦ
      unfold w_K_goesOn_11
      rw [cl (n := i) (by omega)]
      exact ⟨fun g => absurd g (nI_ge (b := 16) (by omega) (by omega)), fun _ => ⟨vin (by omega) (by omega), fun _ z ez => by rw [ez, nI_1]; exact hnext () trivial Φ hΦ, fun g => absurd g (low i hi)⟩⟩
  -- the reference's
  have ml : ∃ n, ∀ Φ : Int32 → KS → Prop, Φ (if d < 16 then 1 else if q.length = 0 then 0 else 1) t → w_M_goesOn_4 Φ n 0 (nI 0) t := by
    refine pk_loop (fun n i (v : Int32) => ∀ Φ : Int32 → KS → Prop, Φ (if d < 16 then 1 else if q.length = 0 then 0 else 1) t → w_M_goesOn_4 Φ n v (nI i) t) (fun i v => (i ≤ d ∧ v = 0) ∨ (d < i ∧ v = 1)) 16 0 0 (by omega) (Or.inl ⟨by omega, rfl⟩) ?_ ?_
    · intro n v hv Φ hΦ
      unfold w_M_goesOn_4
      refine ⟨fun _ => ?_, fun g => absurd (by decide) g⟩
      rcases hv with ⟨h1, e⟩ | ⟨h1, e⟩
      · rw [if_neg (by omega)] at hΦ
        rw [e, hY.2.1.2.1]
        refine ⟨fun g => absurd rfl g, fun _ => ?_⟩
        by_cases c0 : q.length = 0
        · rw [if_pos c0] at hΦ
          rw [c0]
          exact ⟨fun _ => hΦ, fun g => absurd (by decide) g⟩
        · rw [if_neg c0] at hΦ
          exact ⟨fun g => absurd g (nI_nle (by omega) (by omega)), fun _ => hΦ⟩
      · rw [if_pos (by omega)] at hΦ
        rw [e]
        exact ⟨fun _ => hΦ, fun g => absurd g (by decide)⟩
    · intro n i v hi hv hnext Φ hΦ
      unfold w_M_goesOn_4
      rw [cl (n := i) (by omega), hY.1.2.1 i hi]
      refine ⟨fun g => absurd g (nI_ge (b := 16) (by omega) (by omega)), fun _ => ?_⟩
      rcases hv with ⟨h1, e⟩ | ⟨h1, e⟩
      · rw [e]
        refine ⟨fun g => absurd rfl g, fun _ => ⟨vin hi (by omega), fun g z ez => ?_, fun g z ez => ?_⟩⟩
        · rw [ez, nI_1]
          refine hnext _ (Or.inl ⟨?_, rfl⟩) Φ hΦ
          have : i ≠ d := fun e => g (by rw [e]; exact h5 (by omega))
          omega
        · rw [ez, nI_1]
          refine hnext _ (Or.inr ⟨?_, rfl⟩) Φ hΦ
          have : ¬ i < d := fun c => low i c g
          omega
      · rw [e]
        refine ⟨fun _ z ez => ?_, fun g => absurd g (by decide)⟩
        rw [ez, nI_1]
        exact hnext _ (Or.inr ⟨by omega, rfl⟩) Φ hΦ
  obtain ⟨n1, kl⟩ := kl
  obtain ⟨n2, ml⟩ := ml
  by_cases c0 : q.length = 0
  · refine ⟨if d < 16 then 1 else 0, ?_, fun Φ hΦ => ?_, fun Φ hΦ => ⟨n2, ml Φ ?_⟩, fun g1 ha => ?_⟩
    · by_cases c : d < 16
      · rw [if_pos c]; exact Or.inr rfl
      · rw [if_neg c]; exact Or.inl rfl
    · unfold w_K_goesOn
      rw [hY.2.1.1, c0]
      exact ⟨fun _ => ⟨n1, kl Φ hΦ⟩, fun g => absurd (by decide) g⟩
    · rw [if_pos c0]; exact hΦ
    · by_cases c : d < 16
      · have := h5 c
        rw [ha d c] at this
        exact absurd this (by decide)
      · rw [if_neg c] at g1; exact absurd g1 (by decide)
  · refine ⟨1, Or.inr rfl, fun Φ hΦ => ?_, fun Φ hΦ => ⟨n2, ml Φ ?_⟩, fun _ ha => ?_⟩
    · unfold w_K_goesOn
      rw [hY.2.1.1]
      exact ⟨fun g => absurd g (nI_nle (by omega) (by omega)), fun _ => hΦ⟩
    · rw [if_neg c0]
      by_cases c : d < 16
      · rw [if_pos c]; exact hΦ
      · rw [if_neg c]; exact hΦ
    · cases q with
      | nil => exact c0 rfl
      | cons a l =>
        have a16 := hY.2.1.2.2.2.2.2 a (by simp)
        have := (hY.2.2.1 a a16).mp (by simp)
        rw [ha a a16] at this
        exact absurd this (by decide)

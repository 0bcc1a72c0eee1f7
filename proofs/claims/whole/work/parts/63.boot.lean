section BO
variable {cp j : Nat} {s t s' t' : KS} {b c : Int32}
theorem k_feed (h : Inv cp j s t) : w_L_feed cp b s (fun k s1 => w_M_feed b t (fun r t1 => w_M_thrown t1 (fun th t2 => th = k ∧ (k = 0 → s1 50 0 0 = r) ∧ Inv cp (j + 3) s1 t2))) := by
  have hI := h
  obtain ⟨T, ⟨q, row, D, hY, hH, hF, hZ, d1, d2, d3⟩, hT, hU⟩ := h
  obtain ⟨E, C, ⟨l, I1, ⟨I2, I2'⟩, I3, I4⟩, O, S⟩ := hH
  have h17 : w_M_feed_17 b (fun r t1 => w_M_thrown t1 (fun th t2 => th = 1 ∧ ((1 : Int32) = 0 → s 50 0 0 = r) ∧ Inv cp (j + 3) s t2)) t := by
    unfold w_M_feed_17 w_M_feed_22
    intro s1 e1
    rw [e1]
    exact ⟨fun k => absurd k (th_n _ (by decide)), fun _ => ⟨th_v t 1, fun k => absurd k (by decide), hI.rk 1⟩⟩
  have a8 : aL cp 6 8 = 100 := rfl
  have len : s 5 8 2 = nI l.length ∧ l.length ≤ 100 := by obtain ⟨m, -, -, g, g2, -⟩ := I1; exact ⟨g, g2⟩
  unfold w_L_feed w_K_feed w_W_isFull
  rw [a8, len.1]
  by_cases c11 : s 0 0 11 = 0
  · refine ⟨fun k => absurd c11 k, fun _ => ?_⟩
    have c25 : t 20 0 25 = 0 := I3.trans c11
    by_cases cl0 : l.length = 100
    · rw [cl0] at I2 ⊢
      refine ⟨fun k => absurd rfl k, fun _ => ⟨fun k => absurd k (by decide), fun _ => ⟨fun k => absurd k (by decide), fun _ => ?_, fun k => absurd k (by decide)⟩⟩⟩
      unfold w_M_feed
      exact ⟨fun k => absurd c25 k, fun _ => ⟨fun k => absurd I2 k, fun _ => h17⟩⟩
    · have ln : ¬ nI l.length = nI 100 := nI_ne (by omega) (by omega) cl0
      refine ⟨fun _ => ⟨fun _ => ?_, fun k => absurd rfl k⟩, fun k => absurd k ln⟩
      obtain ⟨s1, ea, ⟨i, es1⟩, r1⟩ := ek_add (cp := cp) (w := 8) (N := 100) (x := b) a8 (by omega) I1 (by omega)
      have Y1 : XY s1 (w3 (w3 (w3 t 20 0 0 0) 43 0 l.length b) 20 0 24 (nI (l.length + 1))) q row := by rw [es1]; exact hY
      have H1 : XH cp T s1 (w3 (w3 (w3 t 20 0 0 0) 43 0 l.length b) 20 0 24 (nI (l.length + 1))) := by
        refine ⟨by rw [es1]; exact E, ⟨C.1, C.2.1, C.2.2.1, fun w hw => ?_⟩, ⟨l ++ [b], r1, ⟨?_, fun k v hk => ?_⟩, by rw [es1]; exact I3, by rw [es1]; exact I4⟩, by rw [es1]; exact O, by rw [es1]; exact S⟩
        · obtain ⟨l3, r3, w3'⟩ := C.2.2.2 w hw
          refine ⟨l3, ?_, w3'⟩
          have e5 : s1 5 w = s 5 w := by rw [es1]; funext k; rw [w3_eq, w3_eq, if_neg (by omega), if_neg (by omega)]
          have e6 : s1 6 w = s 6 w := by rw [es1]; funext k; rw [w3_eq, w3_eq, if_neg (by omega), if_neg (by omega)]
          rw [e5, e6]; exact r3
        · rw [List.length_append]; simp [w3_eq]
        · have e43 : ∀ k, w3 (w3 (w3 t 20 0 0 0) 43 0 l.length b) 20 0 24 (nI (l.length + 1)) 43 0 k = if k = l.length then b else t 43 0 k := fun k => by
            simp [w3_eq]
          rw [e43, Nat.zero_add]
          rcases snoc_at hk with ⟨g, e⟩ | ⟨g, e⟩
          · rw [if_neg (by omega)]
            have := I2' k v e
            rw [Nat.zero_add] at this
            exact this
          · rw [if_pos g, e]
      have F1 : XF s1 (w3 (w3 (w3 t 20 0 0 0) 43 0 l.length b) 20 0 24 (nI (l.length + 1))) := by
        intro w hw c1 c2
        rw [es1, w3_eq, if_neg (by omega), w3_eq, if_neg (by omega)]
        exact hF w hw c1 c2
      have Z1 : Z s1 T := by rw [es1]; exact hZ
      have U1 : s 0 0 9 = 0 → Un s1 (w3 (w3 (w3 t 20 0 0 0) 43 0 l.length b) 20 0 24 (nI (l.length + 1))) := fun h9 => by rw [es1]; exact hU h9
      obtain ⟨u, v, M, row', k1, k2, k3, k4⟩ := wk_one (cp := cp) (r := 16) Y1 (by omega)
      have hr16 : nI (rc 16) = 1 := by decide
      rw [hr16] at k1
      have H2 := k4.H H1
      have F2 := k4.F F1
      have Z2 : Z u T := FB_Z k4.B (fun i e => Or.inl (by rw [k4.2.2.2.1])) Z1
      have U2 : s 0 0 9 = 0 → Un u v := fun h9 => (U1 h9).fr k4
      obtain ⟨f1, f2, f3, f4, f5, f6, f7, f8, f9, f10, f11, f12, f13, f14, f15, f16, f17, f18, f19⟩ := k4
      have u2 : u 5 8 2 = nI (l.length + 1) := by rw [f5, es1]; simp [w3_eq]
      have v24 : v 20 0 24 = nI (l.length + 1) := by rw [f11 24 (by decide)]; simp [w3_eq]
      have fin : Inv cp (j + 3) (w3 u 50 0 0 (nI (l.length + 1))) v := by
        refine ⟨T, ⟨q ++ M, row', D, k3, H2, F2, Z2, ?_, ?_, d3⟩, by omega, fun h9 => U2 ?_⟩
        · show u 0 0 6 = nI D
          rw [f8 6 (by decide), es1]; exact d1
        · rw [f11 17 (by decide)]; exact d2
        · have : u 0 0 9 = s 0 0 9 := by rw [f8 9 (by decide), es1]; rfl
          rw [← this]; exact h9
      have v0 : v 20 0 0 = 0 := by rw [f11 0 (by decide)]; exact th_v t 0
      refine ea _ (k1 _ (fun s2 e2 => ?_))
      rw [u2] at e2
      unfold w_M_feed w_M_feed_22
      refine ⟨fun k => absurd c25 k, fun _ => ⟨fun _ z1 ez1 => ?_, fun k => absurd (I2.symm.trans k) ln⟩⟩
      have z24 : z1 20 0 24 = nI l.length := by rw [ez1]; exact I2
      rw [z24, cl (n := l.length) (by omega)]
      refine ⟨fun _ => ⟨vin (by omega) (by omega), fun z2 ez2 z3 ez3 => ?_⟩, fun k => absurd (by rw [ez1]; exact th_le t) k⟩
      have z24' : z2 20 0 24 = nI l.length := by rw [ez2]; exact z24
      rw [z24', nI_1] at ez3
      rw [ez3, ez2, ez1]
      refine k2 _ ⟨v0, fun _ => ?_, by rw [e2]; exact fin⟩
      rw [e2, v24]; rfl
  · refine ⟨fun _ => ⟨fun k => absurd k (by decide), fun _ => ?_, fun k => absurd k (by decide)⟩, fun k => absurd k c11⟩
    unfold w_M_feed
    exact ⟨fun _ => h17, fun k => absurd (I3.symm.trans k) c11⟩
/-! the first process -/
def BC (f g : Nat → Int32) (i : Nat) : Nat → Int32 := fun k => if k < i then f k else g k
theorem bc_0 (f g : Nat → Int32) : BC f g 0 = g := by
  funext k
  unfold BC
  rw [if_neg (by omega)]
theorem bc_s (f g : Nat → Int32) (i : Nat) : upd (BC f g i) i (f i) = BC f g (i + 1) := by
  funext k
  rw [upd_e]
  unfold BC
  by_cases c : k = i
  · rw [if_pos c, if_pos (by omega), c]
  · rw [if_neg c]
    by_cases g' : k < i
    · rw [if_pos g', if_pos (by omega)]
    · rw [if_neg g', if_neg (by omega)]
theorem em_bt {Φ : KS → Prop} {u : KS} (g : w_M_ready (nI 0) (w3 (w3 (w3 (ur u 27 0 (BC (u 25 0) (u 27 0) 128)) 32 0 0 (-1)) 31 0 0 (nI 1)) 31 0 1 (nI 2)) (fun s4 => Φ s4)) : ∃ nn : Nat, w_M_boot_31 Φ nn (0 : Int32) u := by
  have key : ∃ n, w_M_boot_31 Φ n (nI 0) (ur u 27 0 (BC (u 25 0) (u 27 0) 0)) := by
    refine pk_loop (fun n i (_ : Unit) => w_M_boot_31 Φ n (nI i) (ur u 27 0 (BC (u 25 0) (u 27 0) i))) (fun _ _ => True) 128 0 () (by omega) trivial ?_ ?_
    · intro n _ _
      unfold w_M_boot_31
      have v0 : (0 : Int32).toNatClampNeg = 0 := by decide
      have v1 : (1 : Int32).toNatClampNeg = 1 := by decide
      rw [v0, v1]
      refine ⟨fun _ => ⟨vin (n := 0) (by omega) (by omega), fun s1 e1 => ⟨vin (n := 0) (by omega) (by omega), fun s2 e2 => ⟨vin (n := 1) (by omega) (by omega), fun s3 e3 => ?_⟩⟩⟩, fun k => absurd (by decide) k⟩
      rw [e3, e2, e1]
      exact g
    · intro n i _ hi _ hnext
      unfold w_M_boot_31
      rw [cl (n := i) (by omega)]
      refine ⟨fun k => absurd k (nI_ge (b := 128) hi (by omega)), fun _ => ⟨vin hi (by omega), vin (by omega) (by omega), fun z ez z2 ez2 => ?_⟩⟩
      have ea : ur u 27 0 (BC (u 25 0) (u 27 0) i) 25 0 i = u 25 0 i := rfl
      rw [ea, ur_w3, bc_s] at ez
      rw [ez2, nI_1, ez]
      exact hnext () trivial
  rw [bc_0, ur_same] at key
  exact key
theorem k_boot (h : Inv cp j s t) : w_L_boot cp s (fun k s1 => w_M_boot t (fun t1 => w_M_thrown t1 (fun th t2 => th = k ∧ Inv cp (j + 3) s1 t2))) := by
  have hI := h
  obtain ⟨T, ⟨q, row, D, hY, hH, hF, hZ, d1, d2, d3⟩, hT, hU⟩ := h
  obtain ⟨E, C, I, O, S1, S2, S3, S4, S5, S6, S7, S8⟩ := hH
  unfold w_L_boot w_K_boot
  by_cases h9 : s 0 0 9 = 0
  · obtain ⟨U1, U2, U3, U4, U5, U6, U7⟩ := hU h9
    have e3 : t 20 0 3 = 0 := S6.trans h9
    -- the two states before it is made ready
    have P0 : XP (w3 s 0 0 9 1) (w3 (ur (w3 (w3 t 20 0 0 0) 20 0 3 1) 27 0 (BC (t 25 0) (t 27 0) 128)) 32 0 0 (-1)) := ⟨hY.1.1, hY.1.2.1, hY.1.2.2.1, hY.1.2.2.2.1, hY.1.2.2.2.2.1, fun k hk h9 => absurd (U1 k hk) h9⟩
    have P1 := de_P (p := 0) (d := 0) (v := nI 1) (by omega) (by omega) ⟨1, rfl, by omega⟩ P0
    have P2 := de_P (p := 0) (d := 1) (v := nI 2) (by omega) (by omega) ⟨2, rfl, by omega⟩ P1
    generalize hsB : w3 (w3 (w3 s 0 0 9 1) 4 0 0 (nI 1)) 4 0 1 (nI 2) = sB at P2
    generalize htB : w3 (w3 (w3 (ur (w3 (w3 t 20 0 0 0) 20 0 3 1) 27 0 (BC (t 25 0) (t 27 0) 128)) 32 0 0 (-1)) 31 0 (8 * 0 + 0) (nI 1)) 31 0 (8 * 0 + 1) (nI 2) = tB at P2
    have YB : XY sB tB q row := by
      refine ⟨P2, ?_⟩
      rw [← hsB, ← htB]
      exact hY.2
    have t31 : tB 31 0 = upd (upd (t 31 0) 0 (nI 1)) 1 (nI 2) := by rw [← htB]; rfl
    have z0 : t 31 0 0 = 0 := by
      have := (hY.1.2.2.2.2.1 0 (by omega) 0 (by omega)).1
      rw [hZ.1 0 (by omega) (Or.inl (U1 0 (by omega))) 0 (by omega)] at this
      exact this
    have z1 : upd (t 31 0) 0 (nI 1) 1 = 0 := by
      have := (hY.1.2.2.2.2.1 0 (by omega) 1 (by omega)).1
      rw [hZ.1 0 (by omega) (Or.inl (U1 0 (by omega))) 1 (by omega)] at this
      exact this
    have ct : ∀ z, 10 ≤ z → z < 28 → cnt (tB 31 0) (nI z) 128 = cnt (t 31 0) (nI z) 128 := fun z a1 a2 => by
      rw [t31, op_cnt (f := upd (t 31 0) 0 (nI 1)) (k := 1) (n := 2) (by omega) z1 (by omega) (by omega) (by omega), if_neg (by omega), op_cnt (f := t 31 0) (k := 0) (n := 1) (by omega) z0 (by omega) (by omega) (by omega), if_neg (by omega)]
      omega
    have HB : XH cp T sB tB := by
      refine ⟨fun z a1 a2 => ?_, ?_⟩
      · rw [ct z a1 a2, ← hsB]
        exact E z a1 a2
      · rw [← hsB, ← htB]
        exact ⟨C, I, O, S1, S2, S3, S4, S5, rfl, Or.inr rfl, S8⟩
    have FB0 : XF sB tB := by
      intro w hw c1 c2
      rw [ct _ (by omega) (by omega)] at c1 c2
      rw [← hsB]
      exact hF w hw c1 c2
    have st : ∀ i, i < 16 → sB 1 i 7 = 0 := fun i hi => by rw [← hsB]; exact U1 i hi
    have hq0 : 0 ∉ q := YB.free (by omega) (by rw [st 0 (by omega)]; decide)
    have h10 : sB 1 0 10 = -1 := YB.norow (by omega) (by rw [st 0 (by omega)]; decide) (by rw [st 0 (by omega)]; decide)
    have kv : KV sB 0 [] 0 (s 2 0) := by
      refine ⟨by rw [← hsB]; exact U2, fun k v hk => by simp at hk, by rw [← hsB]; exact U3, fun k hk => by rw [← hsB]; rfl⟩
    have mv : MV tB 0 [] 0 (s 2 0) := by
      refine ⟨by rw [← htB]; exact U5, fun k v hk => by simp at hk, by rw [← htB]; exact U6, fun k hk => ?_⟩
      have e27 : tB 27 0 = BC (t 25 0) (t 27 0) 128 := by rw [← htB]; rfl
      rw [e27]
      unfold BC
      rw [if_pos (by omega)]
      have := U7 k hk
      rw [show 128 * 0 + k = k by omega]
      exact this
    have hbo : Bo sB tB 0 := bo_of kv mv (by simp) (by rw [← hsB, ← htB]; exact U4.symm)
    have hlen := YB.2.1.lt (p := 0) (by omega) hq0
    have Y4 := rd_Y YB (by omega) hq0 h10 hbo
    have er := ek_makeReady (cp := cp) YB.2.1.1 hlen (YB.1.1 0 (by omega))
    have em := em_ready YB.2.1.2.1 hlen (p := 0) (by omega)
    have st4 : ∀ i, i < 16 → i ≠ 0 → kRd sB 0 q.length 1 i 7 = 0 := fun i hi g => by
      have := st i hi
      simpa [kRd, w3_eq, g] using this
    have st0 : kRd sB 0 q.length 1 0 7 = 1 := by simp [kRd, w3_eq]
    have Z4 : Z (kRd sB 0 q.length) T := by
      refine ⟨fun i hi hz d hd => ?_, fun i hi hz => ?_, fun i hi h4 c hc => ?_, fun i hi h5 => ?_⟩
      · have g : i ≠ 0 := fun g => by rw [g, st0] at hz; rcases hz with k | k <;> exact absurd k (by decide)
        have : sB 4 i d = s 4 i d := by
          rw [← hsB, w3_eq, if_neg (fun k => g k.2.1), w3_eq, if_neg (fun k => g k.2.1)]; rfl
        show sB 4 i d = 0
        rw [this]
        exact hZ.1 i hi (Or.inl (U1 i hi)) d hd
      · left
        have g : i = 0 := by
          apply Classical.byContradiction
          intro g
          exact hz (st4 i hi g)
        have : sB 1 0 6 = -1 := by rw [← hsB]; exact U4
        rw [g]
        simpa [kRd, w3_eq] using this
      · by_cases g : i = 0
        · rw [g, st0] at h4; exact absurd h4 (by decide)
        · rw [st4 i hi g] at h4; exact absurd h4 (by decide)
      · by_cases g : i = 0
        · rw [g, st0] at h5; exact absurd h5 (by decide)
        · rw [st4 i hi g] at h5; exact absurd h5 (by decide)
    have fin : Inv cp (j + 3) (kRd sB 0 q.length) (mRd tB 0 q.length) := by
      refine ⟨T, ⟨q ++ [0], row, D, Y4, HB, FB0, Z4, ?_, ?_, d3⟩, by omega, fun h => ?_⟩
      · show sB 0 0 6 = nI D
        rw [← hsB]; exact d1
      · show tB 20 0 17 = nI D
        rw [← htB]; exact d2
      · have : kRd sB 0 q.length 0 0 9 = 1 := by
          show sB 0 0 9 = 1
          rw [← hsB]; rfl
        rw [this] at h
        exact absurd h (by decide)
    have thr : mRd tB 0 q.length 20 0 0 = 0 := by
      show tB 20 0 0 = 0
      rw [← htB]; rfl
    have v0 : (0 : Int32).toNatClampNeg = 0 := by decide
    have v1 : (1 : Int32).toNatClampNeg = 1 := by decide
    rw [v0, v1]
    refine ⟨fun _ s1 e1 => ⟨vin (n := 0) (by omega) (by omega), vin (n := 0) (by omega) (by omega), fun s3 e3' => ⟨vin (n := 0) (by omega) (by omega), vin (n := 1) (by omega) (by omega), fun s5 e5 => ⟨vin (n := 0) (by omega) (by omega), ?_⟩⟩⟩, fun k => absurd h9 k⟩
    have es5 : s5 = sB := by rw [e5, e3', e1, ← hsB]; rfl
    rw [es5]
    refine er _ ?_
    unfold w_M_boot w_M_boot_13
    refine ⟨fun _ z1 ez1 => ⟨fun _ z2 ez2 => em_bt ?_, fun k => absurd (by rw [ez1]; exact th_le t) k⟩, fun k => absurd e3 k⟩
    rw [ez1] at ez2
    rw [ez2]
    have := em (fun s4 => w_M_thrown s4 (fun th t2 => th = 0 ∧ Inv cp (j + 3) (kRd sB 0 q.length) t2)) ⟨thr, fin⟩
    rw [← htB] at this
    exact this
  · refine ⟨fun k => absurd k h9, fun _ => ⟨fun k => absurd k (by decide), fun _ => ?_, fun k => absurd k (by decide)⟩⟩
    unfold w_M_boot w_M_boot_13
    refine ⟨fun k => absurd (S6.symm.trans k) h9, fun _ z1 ez1 => ?_⟩
    rw [ez1]
    exact ⟨fun k => absurd k (th_n _ (by decide)), fun _ => ⟨th_v t 1, hI.rk 1⟩⟩
end BO

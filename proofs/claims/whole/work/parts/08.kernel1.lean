theorem d_K_makeReady_0 : decode b_K_makeReady 0 = .ok (.aload_n 1, 1) := by decide +kernel
theorem d_K_makeReady_1 : decode b_K_makeReady 1 = .ok (.iconst 1, 1) := by decide +kernel
theorem d_K_makeReady_2 : decode b_K_makeReady 2 = .ok (.putfield 127, 3) := by decide +kernel
theorem d_K_makeReady_5 : decode b_K_makeReady 5 = .ok (.aload_n 1, 1) := by decide +kernel
theorem d_K_makeReady_6 : decode b_K_makeReady 6 = .ok (.iconst (-1), 1) := by decide +kernel
theorem d_K_makeReady_7 : decode b_K_makeReady 7 = .ok (.putfield 232, 3) := by decide +kernel
theorem d_K_makeReady_10 : decode b_K_makeReady 10 = .ok (.aload_n 0, 1) := by decide +kernel
theorem d_K_makeReady_11 : decode b_K_makeReady 11 = .ok (.getfield 25, 3) := by decide +kernel
theorem d_K_makeReady_14 : decode b_K_makeReady 14 = .ok (.aload_n 0, 1) := by decide +kernel
theorem d_K_makeReady_15 : decode b_K_makeReady 15 = .ok (.getfield 28, 3) := by decide +kernel
theorem d_K_makeReady_18 : decode b_K_makeReady 18 = .ok (.aload_n 1, 1) := by decide +kernel
theorem d_K_makeReady_19 : decode b_K_makeReady 19 = .ok (.getfield 256, 3) := by decide +kernel
theorem d_K_makeReady_22 : decode b_K_makeReady 22 = .ok (.iastore, 1) := by decide +kernel
theorem d_K_makeReady_23 : decode b_K_makeReady 23 = .ok (.aload_n 0, 1) := by decide +kernel
theorem d_K_makeReady_24 : decode b_K_makeReady 24 = .ok (.dup, 1) := by decide +kernel
theorem d_K_makeReady_25 : decode b_K_makeReady 25 = .ok (.getfield 28, 3) := by decide +kernel
theorem d_K_makeReady_28 : decode b_K_makeReady 28 = .ok (.iconst 1, 1) := by decide +kernel
theorem d_K_makeReady_29 : decode b_K_makeReady 29 = .ok (.iadd, 1) := by decide +kernel
theorem d_K_makeReady_30 : decode b_K_makeReady 30 = .ok (.putfield 28, 3) := by decide +kernel
theorem d_K_makeReady_33 : decode b_K_makeReady 33 = .ok (.return_, 1) := by decide +kernel
def w_K_makeReady (cp : Nat) (p1 : Nat) (s0 : KS) (Φ : KS → Prop) : Prop := ∀ s1 : KS, s1 = w3 s0 1 p1 7 (1 : Int32) → ∀ s2 : KS, s2 = w3 s1 1 p1 10 (-1 : Int32) → vp_in (s2 0 0 5) 16 ∧ ∀ s3 : KS, s3 = w3 s2 8 0 (s2 0 0 5).toNatClampNeg (s2 1 p1 0) → ∀ s4 : KS, s4 = w3 s3 0 0 5 ((s3 0 0 5) + (1 : Int32)) → Φ s4
set_option maxHeartbeats 4000000 in
set_option maxRecDepth 100000 in
theorem c_K_makeReady (l : Launch) (E : gE) (s0 : KS) (p1 : Nat) (hp1 : p1 < 16) (Φ : KS → Prop) (hw : w_K_makeReady (eN E) p1 s0 Φ) : gMv l y_K_makeReady v_K_makeReady m_K_makeReady E KK [.ref (ea E 0 0), .ref (ea E 1 p1)] s0 Φ := by
  intro sz
  refine Met.ofW (cc := b_K_makeReady) (maxL := 2) (ret := none) (by decide) rfl ?_
  intro p e s m args below meth c s₁ B hml hv
  obtain ⟨rfl, hsz, hP, hK, hD, hX⟩ := hv
  have hx := B.exec
  have hb := B.bytes
  have hr := B.returns
  have hts := atoms_spec (ws := v_K_makeReady) B.pre
  have hG : ∀ w ∈ gG, w.before _ s = true := fun w h => hts w (List.mem_cons_of_mem _ h)
  have hown : s.vm.findClass R_K = some m.cls := findClass_of_methodNamed B.named
  have hlocks := B.notSynchronized
  subst hsz
  obtain ⟨A, hAe⟩ : ∃ A, A = gA E KK s.heap.size := ⟨_, rfl⟩
  rw [← hAe] at hD hX ⊢
  have hV : gV E KK A s0 s s.heap [] := ⟨hP, hD, va_S.rf⟩
  have hl := lv_entry ([.ref (ea E 0 0), .ref (ea E 1 p1)] : List Value) (n := 2) (Nat.le_of_ble_eq_true rfl)
  rw [lg_entry_eq]
  generalize (lg_sl ([.ref (ea E 0 0), .ref (ea E 1 p1)] : List Value) ++ List.replicate (2 - (lg_sl ([.ref (ea E 0 0), .ref (ea E 1 p1)] : List Value)).length) Slot.unset).toArray = ls at hl ⊢
  have hl : lv_has ls 2 [(0, .ref (ea E 0 0)), (1, .ref (ea E 1 p1))] := hl
  unfold w_K_makeReady at hw
  refine lv_aload_n hx hb d_K_makeReady_0 rfl (lv_at hl 1 rfl) ?_
  refine lv_iconst (v := 1) hx hb d_K_makeReady_1 (by decide) ?_
  refine kp_K_P_state hx hb hG hown hK hV hp1 d_K_makeReady_2 (fun s1 H locs es1 hV => ?_)
  have hw := hw s1 es1
  refine lv_aload_n hx hb d_K_makeReady_5 rfl (lv_at hl 1 rfl) ?_
  refine lv_iconst (v := -1) hx hb d_K_makeReady_6 (by decide) ?_
  refine kp_K_P_waitsOn hx hb hG hown hK hV hp1 d_K_makeReady_7 (fun s2 H locs es2 hV => ?_)
  have hw := hw s2 es2
  refine lv_aload_n hx hb d_K_makeReady_10 rfl (lv_at hl 0 rfl) ?_
  refine kg_K_K_ready hx hb hG hown hK hV d_K_makeReady_11 ?_
  refine lv_aload_n hx hb d_K_makeReady_14 rfl (lv_at hl 0 rfl) ?_
  refine kg_K_K_readyCount hx hb hG hown hK hV d_K_makeReady_15 ?_
  refine lv_aload_n hx hb d_K_makeReady_18 rfl (lv_at hl 1 rfl) ?_
  refine kg_K_P_number hx hb hG hown hK hV hp1 d_K_makeReady_19 ?_
  refine ks_8 hx hb hK hV hw.1 d_K_makeReady_22 (fun s3 H locs es3 hV => ?_)
  have hw := hw.2 s3 es3
  refine lv_aload_n hx hb d_K_makeReady_23 rfl (lv_at hl 0 rfl) ?_
  refine lv_dup hx hb d_K_makeReady_24 rfl ?_
  refine kg_K_K_readyCount hx hb hG hown hK hV d_K_makeReady_25 ?_
  refine lv_iconst (v := 1) hx hb d_K_makeReady_28 (by decide) ?_
  refine lv_iadd hx hb d_K_makeReady_29 ?_
  refine kp_K_K_readyCount hx hb hG hown hK hV d_K_makeReady_30 (fun s4 H locs es4 hV => ?_)
  have hw := hw s4 es4
  exact kr_v hx hb hr hV hK hX hAe hw d_K_makeReady_33
theorem d_K_goesOn_0 : decode b_K_goesOn 0 = .ok (.aload_n 0, 1) := by decide +kernel
theorem d_K_goesOn_1 : decode b_K_goesOn 1 = .ok (.getfield 28, 3) := by decide +kernel
theorem d_K_goesOn_4 : decode b_K_goesOn 4 = .ok (.ifCond .le 5, 3) := by decide +kernel
theorem d_K_goesOn_7 : decode b_K_goesOn 7 = .ok (.iconst 1, 1) := by decide +kernel
theorem d_K_goesOn_8 : decode b_K_goesOn 8 = .ok (.ireturn, 1) := by decide +kernel
theorem d_K_goesOn_9 : decode b_K_goesOn 9 = .ok (.iconst 0, 1) := by decide +kernel
theorem d_K_goesOn_10 : decode b_K_goesOn 10 = .ok (.istore_n 1, 1) := by decide +kernel
theorem d_K_goesOn_11 : decode b_K_goesOn 11 = .ok (.iload_n 1, 1) := by decide +kernel
theorem d_K_goesOn_12 : decode b_K_goesOn 12 = .ok (.bipush 16, 2) := by decide +kernel
theorem d_K_goesOn_14 : decode b_K_goesOn 14 = .ok (.if_icmp .ge 24, 3) := by decide +kernel
theorem d_K_goesOn_17 : decode b_K_goesOn 17 = .ok (.aload_n 0, 1) := by decide +kernel
theorem d_K_goesOn_18 : decode b_K_goesOn 18 = .ok (.getfield 11, 3) := by decide +kernel
theorem d_K_goesOn_21 : decode b_K_goesOn 21 = .ok (.iload_n 1, 1) := by decide +kernel
theorem d_K_goesOn_22 : decode b_K_goesOn 22 = .ok (.aaload, 1) := by decide +kernel
theorem d_K_goesOn_23 : decode b_K_goesOn 23 = .ok (.getfield 127, 3) := by decide +kernel
theorem d_K_goesOn_26 : decode b_K_goesOn 26 = .ok (.iconst 5, 1) := by decide +kernel
theorem d_K_goesOn_27 : decode b_K_goesOn 27 = .ok (.if_icmp .ne 5, 3) := by decide +kernel
theorem d_K_goesOn_30 : decode b_K_goesOn 30 = .ok (.iconst 1, 1) := by decide +kernel
theorem d_K_goesOn_31 : decode b_K_goesOn 31 = .ok (.ireturn, 1) := by decide +kernel
theorem d_K_goesOn_32 : decode b_K_goesOn 32 = .ok (.iinc 1 1, 3) := by decide +kernel
theorem d_K_goesOn_35 : decode b_K_goesOn 35 = .ok (.goto (-24), 3) := by decide +kernel
theorem d_K_goesOn_38 : decode b_K_goesOn 38 = .ok (.iconst 0, 1) := by decide +kernel
theorem d_K_goesOn_39 : decode b_K_goesOn 39 = .ok (.ireturn, 1) := by decide +kernel
def w_K_goesOn_11 (cp : Nat) (Φ : Int32 → KS → Prop) : Nat → Int32 → KS → Prop
  | 0, _, _ => False
  | n + 1, v1, s0 => (((16 : Int32) ≤ v1 → Φ (0 : Int32) s0) ∧ (¬ (16 : Int32) ≤ v1 → vp_in v1 16 ∧ ((¬ (s0 1 v1.toNatClampNeg 7) = (5 : Int32) → ∀ y2 : Int32, y2 = v1 + (1 : Int32) → w_K_goesOn_11 cp Φ n y2 s0) ∧ ((s0 1 v1.toNatClampNeg 7) = (5 : Int32) → Φ (1 : Int32) s0))))
def w_K_goesOn (cp : Nat) (s0 : KS) (Φ : Int32 → KS → Prop) : Prop := (((s0 0 0 5) ≤ 0 → ∃ nn : Nat, w_K_goesOn_11 cp Φ nn (0 : Int32) s0) ∧ (¬ (s0 0 0 5) ≤ 0 → Φ (1 : Int32) s0))
set_option maxHeartbeats 4000000 in
set_option maxRecDepth 100000 in
theorem c_K_goesOn (l : Launch) (E : gE) (s0 : KS)  (Φ : Int32 → KS → Prop) (hw : w_K_goesOn (eN E) s0 Φ) : gMi l y_K_goesOn v_K_goesOn m_K_goesOn E KK [.ref (ea E 0 0)] s0 Φ := by
  intro sz
  refine Met.ofW (cc := b_K_goesOn) (maxL := 2) (ret := (some .boolean)) (by decide) rfl ?_
  intro p e s m args below meth c s₁ B hml hv
  obtain ⟨rfl, hsz, hP, hK, hD, hX⟩ := hv
  have hx := B.exec
  have hb := B.bytes
  have hr := B.returns
  have hts := atoms_spec (ws := v_K_goesOn) B.pre
  have hG : ∀ w ∈ gG, w.before _ s = true := fun w h => hts w (List.mem_cons_of_mem _ h)
  have hown : s.vm.findClass R_K = some m.cls := findClass_of_methodNamed B.named
  have hlocks := B.notSynchronized
  subst hsz
  obtain ⟨A, hAe⟩ : ∃ A, A = gA E KK s.heap.size := ⟨_, rfl⟩
  rw [← hAe] at hD hX ⊢
  have hV : gV E KK A s0 s s.heap [] := ⟨hP, hD, va_S.rf⟩
  have hl := lv_entry ([.ref (ea E 0 0)] : List Value) (n := 2) (Nat.le_of_ble_eq_true rfl)
  rw [lg_entry_eq]
  generalize (lg_sl ([.ref (ea E 0 0)] : List Value) ++ List.replicate (2 - (lg_sl ([.ref (ea E 0 0)] : List Value)).length) Slot.unset).toArray = ls at hl ⊢
  have hl : lv_has ls 2 [(0, .ref (ea E 0 0))] := hl
  have L11 : ∀ (n : Nat), ∀ (ls : Array Slot) (H : Heap) (locs : List Loc) (s0 : KS) (v1 : Int32), lv_has ls 2 [(0, .ref (ea E 0 0)), (1, .int v1)] → gV E KK A s0 s H locs → w_K_goesOn_11 (eN E) Φ n v1 s0 → W p l e m_K_goesOn s m ([.ref (ea E 0 0)] : List Value).toArray below meth c H locs 0 0 (MQ below (gQi E KK A Φ) ([.ref (ea E 0 0)] : List Value).toArray s 0 0 A) (F0 m 11 ls []) := by
    intro n
    induction n with
    | zero =>
      intro ls H locs s0 v1 hl hV hw
      exact False.elim hw
    | succ n ih =>
      intro ls H locs s0 v1 hl hV hw
      unfold w_K_goesOn_11 at hw
      refine lv_iload_n hx hb d_K_goesOn_11 rfl (lv_at hl 1 rfl) ?_
      refine lv_bipush (v := 16) hx hb d_K_goesOn_12 (by decide) ?_
      refine lv_icmp_ge (tgt := 38) hx hb d_K_goesOn_14 rfl (fun hc => ?_) (fun hc => ?_)
      · have hw := hw.1 hc
        refine lv_iconst (v := 0) hx hb d_K_goesOn_38 (by decide) ?_
        exact kr_z hx hb hr hV hK hX hAe (by decide) hw d_K_goesOn_39
      · have hw := hw.2 hc
        refine lv_aload_n hx hb d_K_goesOn_17 rfl (lv_at hl 0 rfl) ?_
        refine kg_K_K_procs hx hb hG hown hK hV d_K_goesOn_18 ?_
        refine lv_iload_n hx hb d_K_goesOn_21 rfl (lv_at hl 1 rfl) ?_
        have hj1 := vp_lt hw.1
        refine kl_9 hx hb hK hV hw.1 d_K_goesOn_22 ?_
        have hw := hw.2
        refine kg_K_P_state hx hb hG hown hK hV hj1 d_K_goesOn_23 ?_
        refine lv_iconst (v := 5) hx hb d_K_goesOn_26 (by decide) ?_
        refine lv_icmp_ne (tgt := 32) hx hb d_K_goesOn_27 rfl (fun hc => ?_) (fun hc => ?_)
        · have hw := hw.1 hc
          obtain ⟨y2, ey2⟩ : ∃ z : Int32, z = v1 + (1 : Int32) := ⟨_, rfl⟩
          have hw := hw y2 ey2
          refine lv_iinc (k := 1) (v := y2) (lv' := [(1, .int y2), (0, .ref (ea E 0 0))]) hx hb d_K_goesOn_32 hl rfl (by rw [ey2]; rfl) (by decide) rfl (fun ls hl => ?_)
          refine lv_goto (tgt := 11) hx hb d_K_goesOn_35 rfl ?_
          exact ih _ _ _ s0 y2 (lv_sub hl [1, 0] rfl) hV hw
        · have hw := hw.2 hc
          refine lv_iconst (v := 1) hx hb d_K_goesOn_30 (by decide) ?_
          exact kr_z hx hb hr hV hK hX hAe (by decide) hw d_K_goesOn_31
  unfold w_K_goesOn at hw
  refine lv_aload_n hx hb d_K_goesOn_0 rfl (lv_at hl 0 rfl) ?_
  refine kg_K_K_readyCount hx hb hG hown hK hV d_K_goesOn_1 ?_
  refine lv_if_le (tgt := 9) hx hb d_K_goesOn_4 rfl (fun hc => ?_) (fun hc => ?_)
  · have hw := hw.1 hc
    refine lv_iconst (v := 0) hx hb d_K_goesOn_9 (by decide) ?_
    refine lv_istore_n (lv' := [(1, .int (0 : Int32)), (0, .ref (ea E 0 0))]) hx hb d_K_goesOn_10 rfl hl (by decide) rfl (fun ls hl => ?_)
    obtain ⟨nn, hw⟩ := hw
    exact L11 nn _ _ _ s0 (0 : Int32) (lv_sub hl [1, 0] rfl) hV hw
  · have hw := hw.2 hc
    refine lv_iconst (v := 1) hx hb d_K_goesOn_7 (by decide) ?_
    exact kr_z hx hb hr hV hK hX hAe (by decide) hw d_K_goesOn_8
theorem d_K_leaveQueue_0 : decode b_K_leaveQueue 0 = .ok (.iconst 0, 1) := by decide +kernel
theorem d_K_leaveQueue_1 : decode b_K_leaveQueue 1 = .ok (.istore_n 2, 1) := by decide +kernel
theorem d_K_leaveQueue_2 : decode b_K_leaveQueue 2 = .ok (.iconst 0, 1) := by decide +kernel
theorem d_K_leaveQueue_3 : decode b_K_leaveQueue 3 = .ok (.istore_n 3, 1) := by decide +kernel
theorem d_K_leaveQueue_4 : decode b_K_leaveQueue 4 = .ok (.iload_n 3, 1) := by decide +kernel
theorem d_K_leaveQueue_5 : decode b_K_leaveQueue 5 = .ok (.aload_n 0, 1) := by decide +kernel
theorem d_K_leaveQueue_6 : decode b_K_leaveQueue 6 = .ok (.getfield 28, 3) := by decide +kernel
theorem d_K_leaveQueue_9 : decode b_K_leaveQueue 9 = .ok (.if_icmp .ge 49, 3) := by decide +kernel
theorem d_K_leaveQueue_12 : decode b_K_leaveQueue 12 = .ok (.aload_n 0, 1) := by decide +kernel
theorem d_K_leaveQueue_13 : decode b_K_leaveQueue 13 = .ok (.getfield 25, 3) := by decide +kernel
theorem d_K_leaveQueue_16 : decode b_K_leaveQueue 16 = .ok (.iload_n 3, 1) := by decide +kernel
theorem d_K_leaveQueue_17 : decode b_K_leaveQueue 17 = .ok (.iaload, 1) := by decide +kernel
theorem d_K_leaveQueue_18 : decode b_K_leaveQueue 18 = .ok (.aload_n 1, 1) := by decide +kernel
theorem d_K_leaveQueue_19 : decode b_K_leaveQueue 19 = .ok (.getfield 256, 3) := by decide +kernel
theorem d_K_leaveQueue_22 : decode b_K_leaveQueue 22 = .ok (.if_icmp .eq 21, 3) := by decide +kernel
theorem d_K_leaveQueue_25 : decode b_K_leaveQueue 25 = .ok (.aload_n 0, 1) := by decide +kernel
theorem d_K_leaveQueue_26 : decode b_K_leaveQueue 26 = .ok (.getfield 25, 3) := by decide +kernel
theorem d_K_leaveQueue_29 : decode b_K_leaveQueue 29 = .ok (.iload_n 2, 1) := by decide +kernel
theorem d_K_leaveQueue_30 : decode b_K_leaveQueue 30 = .ok (.aload_n 0, 1) := by decide +kernel
theorem d_K_leaveQueue_31 : decode b_K_leaveQueue 31 = .ok (.getfield 25, 3) := by decide +kernel
theorem d_K_leaveQueue_34 : decode b_K_leaveQueue 34 = .ok (.iload_n 3, 1) := by decide +kernel
theorem d_K_leaveQueue_35 : decode b_K_leaveQueue 35 = .ok (.iaload, 1) := by decide +kernel
theorem d_K_leaveQueue_36 : decode b_K_leaveQueue 36 = .ok (.iastore, 1) := by decide +kernel
theorem d_K_leaveQueue_37 : decode b_K_leaveQueue 37 = .ok (.iinc 2 1, 3) := by decide +kernel
theorem d_K_leaveQueue_40 : decode b_K_leaveQueue 40 = .ok (.goto 12, 3) := by decide +kernel
theorem d_K_leaveQueue_43 : decode b_K_leaveQueue 43 = .ok (.iload_n 3, 1) := by decide +kernel
theorem d_K_leaveQueue_44 : decode b_K_leaveQueue 44 = .ok (.ifCond .ne 8, 3) := by decide +kernel
theorem d_K_leaveQueue_47 : decode b_K_leaveQueue 47 = .ok (.aload_n 0, 1) := by decide +kernel
theorem d_K_leaveQueue_48 : decode b_K_leaveQueue 48 = .ok (.iconst 0, 1) := by decide +kernel
theorem d_K_leaveQueue_49 : decode b_K_leaveQueue 49 = .ok (.putfield 32, 3) := by decide +kernel
theorem d_K_leaveQueue_52 : decode b_K_leaveQueue 52 = .ok (.iinc 3 1, 3) := by decide +kernel
theorem d_K_leaveQueue_55 : decode b_K_leaveQueue 55 = .ok (.goto (-51), 3) := by decide +kernel
theorem d_K_leaveQueue_58 : decode b_K_leaveQueue 58 = .ok (.aload_n 0, 1) := by decide +kernel
theorem d_K_leaveQueue_59 : decode b_K_leaveQueue 59 = .ok (.iload_n 2, 1) := by decide +kernel
theorem d_K_leaveQueue_60 : decode b_K_leaveQueue 60 = .ok (.putfield 28, 3) := by decide +kernel
theorem d_K_leaveQueue_63 : decode b_K_leaveQueue 63 = .ok (.return_, 1) := by decide +kernel
def w_K_leaveQueue_4 (cp : Nat) (p1 : Nat) (Φ : KS → Prop) : Nat → Int32 → Int32 → KS → Prop
  | 0, _, _, _ => False
  | n + 1, v2, v3, s0 => (((s0 0 0 5) ≤ v3 → ∀ s1 : KS, s1 = w3 s0 0 0 5 v2 → Φ s1) ∧ (¬ (s0 0 0 5) ≤ v3 → vp_in v3 16 ∧ (((s0 8 0 v3.toNatClampNeg) = (s0 1 p1 0) → ((¬ v3 = 0 → ∀ y2 : Int32, y2 = v3 + (1 : Int32) → w_K_leaveQueue_4 cp p1 Φ n v2 y2 s0) ∧ (v3 = 0 → ∀ s3 : KS, s3 = w3 s0 0 0 6 (0 : Int32) → ∀ y4 : Int32, y4 = v3 + (1 : Int32) → w_K_leaveQueue_4 cp p1 Φ n v2 y4 s3))) ∧ (¬ (s0 8 0 v3.toNatClampNeg) = (s0 1 p1 0) → vp_in v3 16 ∧ vp_in v2 16 ∧ ∀ s5 : KS, s5 = w3 s0 8 0 v2.toNatClampNeg (s0 8 0 v3.toNatClampNeg) → ∀ y6 : Int32, y6 = v2 + (1 : Int32) → ∀ y7 : Int32, y7 = v3 + (1 : Int32) → w_K_leaveQueue_4 cp p1 Φ n y6 y7 s5))))
def w_K_leaveQueue (cp : Nat) (p1 : Nat) (s0 : KS) (Φ : KS → Prop) : Prop := ∃ nn : Nat, w_K_leaveQueue_4 cp p1 Φ nn (0 : Int32) (0 : Int32) s0
set_option maxHeartbeats 4000000 in
set_option maxRecDepth 100000 in
theorem c_K_leaveQueue (l : Launch) (E : gE) (s0 : KS) (p1 : Nat) (hp1 : p1 < 16) (Φ : KS → Prop) (hw : w_K_leaveQueue (eN E) p1 s0 Φ) : gMv l y_K_leaveQueue v_K_leaveQueue m_K_leaveQueue E KK [.ref (ea E 0 0), .ref (ea E 1 p1)] s0 Φ := by
  intro sz
  refine Met.ofW (cc := b_K_leaveQueue) (maxL := 4) (ret := none) (by decide) rfl ?_
  intro p e s m args below meth c s₁ B hml hv
  obtain ⟨rfl, hsz, hP, hK, hD, hX⟩ := hv
  have hx := B.exec
  have hb := B.bytes
  have hr := B.returns
  have hts := atoms_spec (ws := v_K_leaveQueue) B.pre
  have hG : ∀ w ∈ gG, w.before _ s = true := fun w h => hts w (List.mem_cons_of_mem _ h)
  have hown : s.vm.findClass R_K = some m.cls := findClass_of_methodNamed B.named
  have hlocks := B.notSynchronized
  subst hsz
  obtain ⟨A, hAe⟩ : ∃ A, A = gA E KK s.heap.size := ⟨_, rfl⟩
  rw [← hAe] at hD hX ⊢
  have hV : gV E KK A s0 s s.heap [] := ⟨hP, hD, va_S.rf⟩
  have hl := lv_entry ([.ref (ea E 0 0), .ref (ea E 1 p1)] : List Value) (n := 4) (Nat.le_of_ble_eq_true rfl)
  rw [lg_entry_eq]
  generalize (lg_sl ([.ref (ea E 0 0), .ref (ea E 1 p1)] : List Value) ++ List.replicate (4 - (lg_sl ([.ref (ea E 0 0), .ref (ea E 1 p1)] : List Value)).length) Slot.unset).toArray = ls at hl ⊢
  have hl : lv_has ls 4 [(0, .ref (ea E 0 0)), (1, .ref (ea E 1 p1))] := hl
  have L4 : ∀ (n : Nat), ∀ (ls : Array Slot) (H : Heap) (locs : List Loc) (s0 : KS) (v2 : Int32) (v3 : Int32), lv_has ls 4 [(0, .ref (ea E 0 0)), (1, .ref (ea E 1 p1)), (2, .int v2), (3, .int v3)] → gV E KK A s0 s H locs → w_K_leaveQueue_4 (eN E) p1 Φ n v2 v3 s0 → W p l e m_K_leaveQueue s m ([.ref (ea E 0 0), .ref (ea E 1 p1)] : List Value).toArray below meth c H locs 0 0 (MQ below (gQv E KK A Φ) ([.ref (ea E 0 0), .ref (ea E 1 p1)] : List Value).toArray s 0 0 A) (F0 m 4 ls []) := by
    intro n
    induction n with
    | zero =>
      intro ls H locs s0 v2 v3 hl hV hw
      exact False.elim hw
    | succ n ih =>
      intro ls H locs s0 v2 v3 hl hV hw
      unfold w_K_leaveQueue_4 at hw
      refine lv_iload_n hx hb d_K_leaveQueue_4 rfl (lv_at hl 3 rfl) ?_
      refine lv_aload_n hx hb d_K_leaveQueue_5 rfl (lv_at hl 0 rfl) ?_
      refine kg_K_K_readyCount hx hb hG hown hK hV d_K_leaveQueue_6 ?_
      refine lv_icmp_ge (tgt := 58) hx hb d_K_leaveQueue_9 rfl (fun hc => ?_) (fun hc => ?_)
      · have hw := hw.1 hc
        refine lv_aload_n hx hb d_K_leaveQueue_58 rfl (lv_at hl 0 rfl) ?_
        refine lv_iload_n hx hb d_K_leaveQueue_59 rfl (lv_at hl 2 rfl) ?_
        refine kp_K_K_readyCount hx hb hG hown hK hV d_K_leaveQueue_60 (fun s1 H locs es1 hV => ?_)
        have hw := hw s1 es1
        exact kr_v hx hb hr hV hK hX hAe hw d_K_leaveQueue_63
      · have hw := hw.2 hc
        refine lv_aload_n hx hb d_K_leaveQueue_12 rfl (lv_at hl 0 rfl) ?_
        refine kg_K_K_ready hx hb hG hown hK hV d_K_leaveQueue_13 ?_
        refine lv_iload_n hx hb d_K_leaveQueue_16 rfl (lv_at hl 3 rfl) ?_
        refine kl_8 hx hb hK hV hw.1 d_K_leaveQueue_17 ?_
        have hw := hw.2
        refine lv_aload_n hx hb d_K_leaveQueue_18 rfl (lv_at hl 1 rfl) ?_
        refine kg_K_P_number hx hb hG hown hK hV hp1 d_K_leaveQueue_19 ?_
        refine lv_icmp_eq (tgt := 43) hx hb d_K_leaveQueue_22 rfl (fun hc => ?_) (fun hc => ?_)
        · have hw := hw.1 hc
          refine lv_iload_n hx hb d_K_leaveQueue_43 rfl (lv_at hl 3 rfl) ?_
          refine lv_if_ne (tgt := 52) hx hb d_K_leaveQueue_44 rfl (fun hc => ?_) (fun hc => ?_)
          · have hw := hw.1 hc
            obtain ⟨y2, ey2⟩ : ∃ z : Int32, z = v3 + (1 : Int32) := ⟨_, rfl⟩
            have hw := hw y2 ey2
            refine lv_iinc (k := 3) (v := y2) (lv' := [(3, .int y2), (0, .ref (ea E 0 0)), (1, .ref (ea E 1 p1)), (2, .int v2)]) hx hb d_K_leaveQueue_52 hl rfl (by rw [ey2]; rfl) (by decide) rfl (fun ls hl => ?_)
            refine lv_goto (tgt := 4) hx hb d_K_leaveQueue_55 rfl ?_
            exact ih _ _ _ s0 v2 y2 (lv_sub hl [1, 2, 3, 0] rfl) hV hw
          · have hw := hw.2 hc
            refine lv_aload_n hx hb d_K_leaveQueue_47 rfl (lv_at hl 0 rfl) ?_
            refine lv_iconst (v := 0) hx hb d_K_leaveQueue_48 (by decide) ?_
            refine kp_K_K_doneByFirst hx hb hG hown hK hV d_K_leaveQueue_49 (fun s3 H locs es3 hV => ?_)
            have hw := hw s3 es3
            obtain ⟨y4, ey4⟩ : ∃ z : Int32, z = v3 + (1 : Int32) := ⟨_, rfl⟩
            have hw := hw y4 ey4
            refine lv_iinc (k := 3) (v := y4) (lv' := [(3, .int y4), (0, .ref (ea E 0 0)), (1, .ref (ea E 1 p1)), (2, .int v2)]) hx hb d_K_leaveQueue_52 hl rfl (by rw [ey4]; rfl) (by decide) rfl (fun ls hl => ?_)
            refine lv_goto (tgt := 4) hx hb d_K_leaveQueue_55 rfl ?_
            exact ih _ _ _ s3 v2 y4 (lv_sub hl [1, 2, 3, 0] rfl) hV hw
        · have hw := hw.2 hc
          refine lv_aload_n hx hb d_K_leaveQueue_25 rfl (lv_at hl 0 rfl) ?_
          refine kg_K_K_ready hx hb hG hown hK hV d_K_leaveQueue_26 ?_
          refine lv_iload_n hx hb d_K_leaveQueue_29 rfl (lv_at hl 2 rfl) ?_
          refine lv_aload_n hx hb d_K_leaveQueue_30 rfl (lv_at hl 0 rfl) ?_
          refine kg_K_K_ready hx hb hG hown hK hV d_K_leaveQueue_31 ?_
          refine lv_iload_n hx hb d_K_leaveQueue_34 rfl (lv_at hl 3 rfl) ?_
          refine kl_8 hx hb hK hV hw.1 d_K_leaveQueue_35 ?_
          have hw := hw.2
          refine ks_8 hx hb hK hV hw.1 d_K_leaveQueue_36 (fun s5 H locs es5 hV => ?_)
          have hw := hw.2 s5 es5
          obtain ⟨y6, ey6⟩ : ∃ z : Int32, z = v2 + (1 : Int32) := ⟨_, rfl⟩
          have hw := hw y6 ey6
          refine lv_iinc (k := 2) (v := y6) (lv' := [(2, .int y6), (0, .ref (ea E 0 0)), (1, .ref (ea E 1 p1)), (3, .int v3)]) hx hb d_K_leaveQueue_37 hl rfl (by rw [ey6]; rfl) (by decide) rfl (fun ls hl => ?_)
          refine lv_goto (tgt := 52) hx hb d_K_leaveQueue_40 rfl ?_
          obtain ⟨y7, ey7⟩ : ∃ z : Int32, z = v3 + (1 : Int32) := ⟨_, rfl⟩
          have hw := hw y7 ey7
          refine lv_iinc (k := 3) (v := y7) (lv' := [(3, .int y7), (2, .int y6), (0, .ref (ea E 0 0)), (1, .ref (ea E 1 p1))]) hx hb d_K_leaveQueue_52 hl rfl (by rw [ey7]; rfl) (by decide) rfl (fun ls hl => ?_)
          refine lv_goto (tgt := 4) hx hb d_K_leaveQueue_55 rfl ?_
          exact ih _ _ _ s5 y6 y7 (lv_sub hl [2, 3, 1, 0] rfl) hV hw
  unfold w_K_leaveQueue at hw
  refine lv_iconst (v := 0) hx hb d_K_leaveQueue_0 (by decide) ?_
  refine lv_istore_n (lv' := [(2, .int (0 : Int32)), (0, .ref (ea E 0 0)), (1, .ref (ea E 1 p1))]) hx hb d_K_leaveQueue_1 rfl hl (by decide) rfl (fun ls hl => ?_)
  refine lv_iconst (v := 0) hx hb d_K_leaveQueue_2 (by decide) ?_
  refine lv_istore_n (lv' := [(3, .int (0 : Int32)), (2, .int (0 : Int32)), (0, .ref (ea E 0 0)), (1, .ref (ea E 1 p1))]) hx hb d_K_leaveQueue_3 rfl hl (by decide) rfl (fun ls hl => ?_)
  obtain ⟨nn, hw⟩ := hw
  exact L4 nn _ _ _ s0 (0 : Int32) (0 : Int32) (lv_sub hl [2, 3, 1, 0] rfl) hV hw
theorem d_K_beginToWait_0 : decode b_K_beginToWait 0 = .ok (.aload_n 0, 1) := by decide +kernel
theorem d_K_beginToWait_1 : decode b_K_beginToWait 1 = .ok (.aload_n 1, 1) := by decide +kernel
theorem d_K_beginToWait_2 : decode b_K_beginToWait 2 = .ok (.invokevirtual 229, 3) := by decide +kernel
theorem d_K_beginToWait_5 : decode b_K_beginToWait 5 = .ok (.aload_n 1, 1) := by decide +kernel
theorem d_K_beginToWait_6 : decode b_K_beginToWait 6 = .ok (.invokevirtual 207, 3) := by decide +kernel
theorem d_K_beginToWait_9 : decode b_K_beginToWait 9 = .ok (.istore_n 2, 1) := by decide +kernel
theorem d_K_beginToWait_10 : decode b_K_beginToWait 10 = .ok (.iload_n 2, 1) := by decide +kernel
theorem d_K_beginToWait_11 : decode b_K_beginToWait 11 = .ok (.bipush 36, 2) := by decide +kernel
theorem d_K_beginToWait_13 : decode b_K_beginToWait 13 = .ok (.if_icmp .ne 9, 3) := by decide +kernel
theorem d_K_beginToWait_16 : decode b_K_beginToWait 16 = .ok (.aload_n 1, 1) := by decide +kernel
theorem d_K_beginToWait_17 : decode b_K_beginToWait 17 = .ok (.iconst 4, 1) := by decide +kernel
theorem d_K_beginToWait_18 : decode b_K_beginToWait 18 = .ok (.putfield 127, 3) := by decide +kernel
theorem d_K_beginToWait_21 : decode b_K_beginToWait 21 = .ok (.return_, 1) := by decide +kernel
theorem d_K_beginToWait_22 : decode b_K_beginToWait 22 = .ok (.aload_n 1, 1) := by decide +kernel
theorem d_K_beginToWait_23 : decode b_K_beginToWait 23 = .ok (.iload_n 2, 1) := by decide +kernel
theorem d_K_beginToWait_24 : decode b_K_beginToWait 24 = .ok (.bipush 34, 2) := by decide +kernel
theorem d_K_beginToWait_26 : decode b_K_beginToWait 26 = .ok (.if_icmp .ne 7, 3) := by decide +kernel
theorem d_K_beginToWait_29 : decode b_K_beginToWait 29 = .ok (.iconst 2, 1) := by decide +kernel
theorem d_K_beginToWait_30 : decode b_K_beginToWait 30 = .ok (.goto 4, 3) := by decide +kernel
theorem d_K_beginToWait_33 : decode b_K_beginToWait 33 = .ok (.iconst 3, 1) := by decide +kernel
theorem d_K_beginToWait_34 : decode b_K_beginToWait 34 = .ok (.putfield 127, 3) := by decide +kernel
theorem d_K_beginToWait_37 : decode b_K_beginToWait 37 = .ok (.aload_n 1, 1) := by decide +kernel
theorem d_K_beginToWait_38 : decode b_K_beginToWait 38 = .ok (.aload_n 1, 1) := by decide +kernel
theorem d_K_beginToWait_39 : decode b_K_beginToWait 39 = .ok (.aload_n 1, 1) := by decide +kernel
theorem d_K_beginToWait_40 : decode b_K_beginToWait 40 = .ok (.invokevirtual 210, 3) := by decide +kernel
theorem d_K_beginToWait_43 : decode b_K_beginToWait 43 = .ok (.invokevirtual 213, 3) := by decide +kernel
theorem d_K_beginToWait_46 : decode b_K_beginToWait 46 = .ok (.putfield 232, 3) := by decide +kernel
theorem d_K_beginToWait_49 : decode b_K_beginToWait 49 = .ok (.aload_n 1, 1) := by decide +kernel
theorem d_K_beginToWait_50 : decode b_K_beginToWait 50 = .ok (.aload_n 0, 1) := by decide +kernel
theorem d_K_beginToWait_51 : decode b_K_beginToWait 51 = .ok (.getfield 38, 3) := by decide +kernel
theorem d_K_beginToWait_54 : decode b_K_beginToWait 54 = .ok (.putfield 235, 3) := by decide +kernel
theorem d_K_beginToWait_57 : decode b_K_beginToWait 57 = .ok (.aload_n 0, 1) := by decide +kernel
theorem d_K_beginToWait_58 : decode b_K_beginToWait 58 = .ok (.dup, 1) := by decide +kernel
theorem d_K_beginToWait_59 : decode b_K_beginToWait 59 = .ok (.getfield 38, 3) := by decide +kernel
theorem d_K_beginToWait_62 : decode b_K_beginToWait 62 = .ok (.iconst 1, 1) := by decide +kernel
theorem d_K_beginToWait_63 : decode b_K_beginToWait 63 = .ok (.iadd, 1) := by decide +kernel
theorem d_K_beginToWait_64 : decode b_K_beginToWait 64 = .ok (.putfield 38, 3) := by decide +kernel
theorem d_K_beginToWait_67 : decode b_K_beginToWait 67 = .ok (.return_, 1) := by decide +kernel
def w_K_beginToWait_34 (cp : Nat) (p1 : Nat) (Φ : KS → Prop) (t0 : Int32) (s0 : KS) : Prop := ∀ s1 : KS, s1 = w3 s0 1 p1 7 t0 → w_P_top cp p1 s1 (fun r3 s2 => w_P_descriptorAt cp p1 r3 s2 (fun r5 s4 => ∀ s6 : KS, s6 = w3 s4 1 p1 10 r5 → ∀ s7 : KS, s7 = w3 s6 1 p1 11 (s6 0 0 8) → ∀ s8 : KS, s8 = w3 s7 0 0 8 ((s7 0 0 8) + (1 : Int32)) → Φ s8))
def w_K_beginToWait (cp : Nat) (p1 : Nat) (s0 : KS) (Φ : KS → Prop) : Prop := w_K_leaveQueue cp p1 s0 (fun s1 => w_P_kind cp p1 s1 (fun r3 s2 => ((¬ r3 = (36 : Int32) → ((¬ r3 = (34 : Int32) → w_K_beginToWait_34 cp p1 Φ (3 : Int32) s2) ∧ (r3 = (34 : Int32) → w_K_beginToWait_34 cp p1 Φ (2 : Int32) s2))) ∧ (r3 = (36 : Int32) → ∀ s4 : KS, s4 = w3 s2 1 p1 7 (4 : Int32) → Φ s4))))
set_option maxHeartbeats 4000000 in
set_option maxRecDepth 100000 in
theorem c_K_beginToWait (l : Launch) (E : gE) (s0 : KS) (p1 : Nat) (hp1 : p1 < 16) (Φ : KS → Prop) (hw : w_K_beginToWait (eN E) p1 s0 Φ) : gMv l y_K_beginToWait v_K_beginToWait m_K_beginToWait E KK [.ref (ea E 0 0), .ref (ea E 1 p1)] s0 Φ := by
  intro sz
  refine Met.ofW (cc := b_K_beginToWait) (maxL := 3) (ret := none) (by decide) rfl ?_
  intro p e s m args below meth c s₁ B hml hv
  obtain ⟨rfl, hsz, hP, hK, hD, hX⟩ := hv
  have hx := B.exec
  have hb := B.bytes
  have hr := B.returns
  have hts := atoms_spec (ws := v_K_beginToWait) B.pre
  have hG : ∀ w ∈ gG, w.before _ s = true := fun w h => hts w (List.mem_cons_of_mem _ h)
  have hown : s.vm.findClass R_K = some m.cls := findClass_of_methodNamed B.named
  have hlocks := B.notSynchronized
  subst hsz
  obtain ⟨A, hAe⟩ : ∃ A, A = gA E KK s.heap.size := ⟨_, rfl⟩
  rw [← hAe] at hD hX ⊢
  have hV : gV E KK A s0 s s.heap [] := ⟨hP, hD, va_S.rf⟩
  have hl := lv_entry ([.ref (ea E 0 0), .ref (ea E 1 p1)] : List Value) (n := 3) (Nat.le_of_ble_eq_true rfl)
  rw [lg_entry_eq]
  generalize (lg_sl ([.ref (ea E 0 0), .ref (ea E 1 p1)] : List Value) ++ List.replicate (3 - (lg_sl ([.ref (ea E 0 0), .ref (ea E 1 p1)] : List Value)).length) Slot.unset).toArray = ls at hl ⊢
  have hl : lv_has ls 3 [(0, .ref (ea E 0 0)), (1, .ref (ea E 1 p1))] := hl
  have J34 : ∀ (ls : Array Slot) (H : Heap) (locs : List Loc) (s0 : KS) (t0 : Int32), lv_has ls 3 [(0, .ref (ea E 0 0)), (1, .ref (ea E 1 p1))] → gV E KK A s0 s H locs → w_K_beginToWait_34 (eN E) p1 Φ t0 s0 → W p l e m_K_beginToWait s m ([.ref (ea E 0 0), .ref (ea E 1 p1)] : List Value).toArray below meth c H locs 0 0 (MQ below (gQv E KK A Φ) ([.ref (ea E 0 0), .ref (ea E 1 p1)] : List Value).toArray s 0 0 A) (F0 m 34 ls [.int t0, .ref (ea E 1 p1)]) := by
    intro  ls H locs s0 t0 hl hV hw
    unfold w_K_beginToWait_34 at hw
    refine kp_K_P_state hx hb hG hown hK hV hp1 d_K_beginToWait_34 (fun s1 H locs es1 hV => ?_)
    have hw := hw s1 es1
    refine lv_aload_n hx hb d_K_beginToWait_37 rfl (lv_at hl 1 rfl) ?_
    refine lv_aload_n hx hb d_K_beginToWait_38 rfl (lv_at hl 1 rfl) ?_
    refine lv_aload_n hx hb d_K_beginToWait_39 rfl (lv_at hl 1 rfl) ?_
    refine kc_K_P_top hx hb hml hown hts hV hK hX hAe (c_P_top l E s1 p1 hp1 _ hw) hp1 hl.1 (Nat.le_of_ble_eq_true rfl) d_K_beginToWait_40 (Nat.le_of_ble_eq_true rfl) (Nat.le_of_ble_eq_true rfl) (fun r3 s2 H locs hw hV => ?_)
    refine kc_K_P_descriptorAt hx hb hml hown hts hV hK hX hAe (c_P_descriptorAt l E s2 p1 hp1 r3 _ hw) hp1 hl.1 (Nat.le_of_ble_eq_true rfl) d_K_beginToWait_43 (Nat.le_of_ble_eq_true rfl) (Nat.le_of_ble_eq_true rfl) (fun r5 s4 H locs hw hV => ?_)
    refine kp_K_P_waitsOn hx hb hG hown hK hV hp1 d_K_beginToWait_46 (fun s6 H locs es6 hV => ?_)
    have hw := hw s6 es6
    refine lv_aload_n hx hb d_K_beginToWait_49 rfl (lv_at hl 1 rfl) ?_
    refine lv_aload_n hx hb d_K_beginToWait_50 rfl (lv_at hl 0 rfl) ?_
    refine kg_K_K_waitsBegun hx hb hG hown hK hV d_K_beginToWait_51 ?_
    refine kp_K_P_waitsSince hx hb hG hown hK hV hp1 d_K_beginToWait_54 (fun s7 H locs es7 hV => ?_)
    have hw := hw s7 es7
    refine lv_aload_n hx hb d_K_beginToWait_57 rfl (lv_at hl 0 rfl) ?_
    refine lv_dup hx hb d_K_beginToWait_58 rfl ?_
    refine kg_K_K_waitsBegun hx hb hG hown hK hV d_K_beginToWait_59 ?_
    refine lv_iconst (v := 1) hx hb d_K_beginToWait_62 (by decide) ?_
    refine lv_iadd hx hb d_K_beginToWait_63 ?_
    refine kp_K_K_waitsBegun hx hb hG hown hK hV d_K_beginToWait_64 (fun s8 H locs es8 hV => ?_)
    have hw := hw s8 es8
    exact kr_v hx hb hr hV hK hX hAe hw d_K_beginToWait_67
  unfold w_K_beginToWait at hw
  refine lv_aload_n hx hb d_K_beginToWait_0 rfl (lv_at hl 0 rfl) ?_
  refine lv_aload_n hx hb d_K_beginToWait_1 rfl (lv_at hl 1 rfl) ?_
  refine kc_K_K_leaveQueue hx hb hml hown hts hV hK hX hAe (c_K_leaveQueue l E s0 p1 hp1 _ hw) hl.1 (Nat.le_of_ble_eq_true rfl) d_K_beginToWait_2 (Nat.le_of_ble_eq_true rfl) (Nat.le_of_ble_eq_true rfl) (fun s1 H locs hw hV => ?_)
  refine lv_aload_n hx hb d_K_beginToWait_5 rfl (lv_at hl 1 rfl) ?_
  refine kc_K_P_kind hx hb hml hown hts hV hK hX hAe (c_P_kind l E s1 p1 hp1 _ hw) hp1 hl.1 (Nat.le_of_ble_eq_true rfl) d_K_beginToWait_6 (Nat.le_of_ble_eq_true rfl) (Nat.le_of_ble_eq_true rfl) (fun r3 s2 H locs hw hV => ?_)
  refine lv_istore_n (lv' := [(2, .int r3), (0, .ref (ea E 0 0)), (1, .ref (ea E 1 p1))]) hx hb d_K_beginToWait_9 rfl hl (by decide) rfl (fun ls hl => ?_)
  refine lv_iload_n hx hb d_K_beginToWait_10 rfl (lv_at hl 0 rfl) ?_
  refine lv_bipush (v := 36) hx hb d_K_beginToWait_11 (by decide) ?_
  refine lv_icmp_ne (tgt := 22) hx hb d_K_beginToWait_13 rfl (fun hc => ?_) (fun hc => ?_)
  · have hw := hw.1 hc
    refine lv_aload_n hx hb d_K_beginToWait_22 rfl (lv_at hl 2 rfl) ?_
    refine lv_iload_n hx hb d_K_beginToWait_23 rfl (lv_at hl 0 rfl) ?_
    refine lv_bipush (v := 34) hx hb d_K_beginToWait_24 (by decide) ?_
    refine lv_icmp_ne (tgt := 33) hx hb d_K_beginToWait_26 rfl (fun hc => ?_) (fun hc => ?_)
    · have hw := hw.1 hc
      refine lv_iconst (v := 3) hx hb d_K_beginToWait_33 (by decide) ?_
      exact J34 _ _ _ s2 (3 : Int32) (lv_sub hl [1, 2] rfl) hV hw
    · have hw := hw.2 hc
      refine lv_iconst (v := 2) hx hb d_K_beginToWait_29 (by decide) ?_
      refine lv_goto (tgt := 34) hx hb d_K_beginToWait_30 rfl ?_
      exact J34 _ _ _ s2 (2 : Int32) (lv_sub hl [1, 2] rfl) hV hw
  · have hw := hw.2 hc
    refine lv_aload_n hx hb d_K_beginToWait_16 rfl (lv_at hl 2 rfl) ?_
    refine lv_iconst (v := 4) hx hb d_K_beginToWait_17 (by decide) ?_
    refine kp_K_P_state hx hb hG hown hK hV hp1 d_K_beginToWait_18 (fun s4 H locs es4 hV => ?_)
    have hw := hw s4 es4
    exact kr_v hx hb hr hV hK hX hAe hw d_K_beginToWait_21
theorem d_K_otherEnd_0 : decode b_K_otherEnd 0 = .ok (.iload_n 0, 1) := by decide +kernel
theorem d_K_otherEnd_1 : decode b_K_otherEnd 1 = .ok (.bipush 20, 2) := by decide +kernel
theorem d_K_otherEnd_3 : decode b_K_otherEnd 3 = .ok (.if_icmp .ge 13, 3) := by decide +kernel
theorem d_K_otherEnd_6 : decode b_K_otherEnd 6 = .ok (.iload_n 0, 1) := by decide +kernel
theorem d_K_otherEnd_7 : decode b_K_otherEnd 7 = .ok (.bipush 10, 2) := by decide +kernel
theorem d_K_otherEnd_9 : decode b_K_otherEnd 9 = .ok (.isub, 1) := by decide +kernel
theorem d_K_otherEnd_10 : decode b_K_otherEnd 10 = .ok (.bipush 20, 2) := by decide +kernel
theorem d_K_otherEnd_12 : decode b_K_otherEnd 12 = .ok (.iadd, 1) := by decide +kernel
theorem d_K_otherEnd_13 : decode b_K_otherEnd 13 = .ok (.goto 10, 3) := by decide +kernel
theorem d_K_otherEnd_16 : decode b_K_otherEnd 16 = .ok (.iload_n 0, 1) := by decide +kernel
theorem d_K_otherEnd_17 : decode b_K_otherEnd 17 = .ok (.bipush 20, 2) := by decide +kernel
theorem d_K_otherEnd_19 : decode b_K_otherEnd 19 = .ok (.isub, 1) := by decide +kernel
theorem d_K_otherEnd_20 : decode b_K_otherEnd 20 = .ok (.bipush 10, 2) := by decide +kernel
theorem d_K_otherEnd_22 : decode b_K_otherEnd 22 = .ok (.iadd, 1) := by decide +kernel
theorem d_K_otherEnd_23 : decode b_K_otherEnd 23 = .ok (.ireturn, 1) := by decide +kernel
def w_K_otherEnd (cp : Nat) (x0 : Int32) (s0 : KS) (Φ : Int32 → KS → Prop) : Prop := (((20 : Int32) ≤ x0 → Φ ((x0 - (20 : Int32)) + (10 : Int32)) s0) ∧ (¬ (20 : Int32) ≤ x0 → Φ ((x0 - (10 : Int32)) + (20 : Int32)) s0))
set_option maxHeartbeats 4000000 in
set_option maxRecDepth 100000 in
theorem c_K_otherEnd (l : Launch) (E : gE) (s0 : KS) (x0 : Int32) (Φ : Int32 → KS → Prop) (hw : w_K_otherEnd (eN E) x0 s0 Φ) : gMi l y_K_otherEnd v_K_otherEnd m_K_otherEnd E KK [.int x0] s0 Φ := by
  intro sz
  refine Met.ofW (cc := b_K_otherEnd) (maxL := 1) (ret := (some .int)) (by decide) rfl ?_
  intro p e s m args below meth c s₁ B hml hv
  obtain ⟨rfl, hsz, hP, hK, hD, hX⟩ := hv
  have hx := B.exec
  have hb := B.bytes
  have hr := B.returns
  have hts := atoms_spec (ws := v_K_otherEnd) B.pre
  have hG : ∀ w ∈ gG, w.before _ s = true := fun w h => hts w (List.mem_cons_of_mem _ h)
  have hown : s.vm.findClass R_K = some m.cls := findClass_of_methodNamed B.named
  have hlocks := B.notSynchronized
  subst hsz
  obtain ⟨A, hAe⟩ : ∃ A, A = gA E KK s.heap.size := ⟨_, rfl⟩
  rw [← hAe] at hD hX ⊢
  have hV : gV E KK A s0 s s.heap [] := ⟨hP, hD, va_S.rf⟩
  have hl := lv_entry ([.int x0] : List Value) (n := 1) (Nat.le_of_ble_eq_true rfl)
  rw [lg_entry_eq]
  generalize (lg_sl ([.int x0] : List Value) ++ List.replicate (1 - (lg_sl ([.int x0] : List Value)).length) Slot.unset).toArray = ls at hl ⊢
  have hl : lv_has ls 1 [(0, .int x0)] := hl
  unfold w_K_otherEnd at hw
  refine lv_iload_n hx hb d_K_otherEnd_0 rfl (lv_at hl 0 rfl) ?_
  refine lv_bipush (v := 20) hx hb d_K_otherEnd_1 (by decide) ?_
  refine lv_icmp_ge (tgt := 16) hx hb d_K_otherEnd_3 rfl (fun hc => ?_) (fun hc => ?_)
  · have hw := hw.1 hc
    refine lv_iload_n hx hb d_K_otherEnd_16 rfl (lv_at hl 0 rfl) ?_
    refine lv_bipush (v := 20) hx hb d_K_otherEnd_17 (by decide) ?_
    refine lv_isub hx hb d_K_otherEnd_19 ?_
    refine lv_bipush (v := 10) hx hb d_K_otherEnd_20 (by decide) ?_
    refine lv_iadd hx hb d_K_otherEnd_22 ?_
    exact kr_i hx hb hr hV hK hX hAe hw d_K_otherEnd_23
  · have hw := hw.2 hc
    refine lv_iload_n hx hb d_K_otherEnd_6 rfl (lv_at hl 0 rfl) ?_
    refine lv_bipush (v := 10) hx hb d_K_otherEnd_7 (by decide) ?_
    refine lv_isub hx hb d_K_otherEnd_9 ?_
    refine lv_bipush (v := 20) hx hb d_K_otherEnd_10 (by decide) ?_
    refine lv_iadd hx hb d_K_otherEnd_12 ?_
    refine lv_goto (tgt := 23) hx hb d_K_otherEnd_13 rfl ?_
    exact kr_i hx hb hr hV hK hX hAe hw d_K_otherEnd_23
theorem d_K_closeDescriptor_0 : decode b_K_closeDescriptor 0 = .ok (.aload_n 1, 1) := by decide +kernel
theorem d_K_closeDescriptor_1 : decode b_K_closeDescriptor 1 = .ok (.getfield 89, 3) := by decide +kernel
theorem d_K_closeDescriptor_4 : decode b_K_closeDescriptor 4 = .ok (.iload_n 2, 1) := by decide +kernel
theorem d_K_closeDescriptor_5 : decode b_K_closeDescriptor 5 = .ok (.iaload, 1) := by decide +kernel
theorem d_K_closeDescriptor_6 : decode b_K_closeDescriptor 6 = .ok (.istore_n 3, 1) := by decide +kernel
theorem d_K_closeDescriptor_7 : decode b_K_closeDescriptor 7 = .ok (.aload_n 1, 1) := by decide +kernel
theorem d_K_closeDescriptor_8 : decode b_K_closeDescriptor 8 = .ok (.getfield 89, 3) := by decide +kernel
theorem d_K_closeDescriptor_11 : decode b_K_closeDescriptor 11 = .ok (.iload_n 2, 1) := by decide +kernel
theorem d_K_closeDescriptor_12 : decode b_K_closeDescriptor 12 = .ok (.iconst 0, 1) := by decide +kernel
theorem d_K_closeDescriptor_13 : decode b_K_closeDescriptor 13 = .ok (.iastore, 1) := by decide +kernel
theorem d_K_closeDescriptor_14 : decode b_K_closeDescriptor 14 = .ok (.iload_n 3, 1) := by decide +kernel
theorem d_K_closeDescriptor_15 : decode b_K_closeDescriptor 15 = .ok (.bipush 10, 2) := by decide +kernel
theorem d_K_closeDescriptor_17 : decode b_K_closeDescriptor 17 = .ok (.if_icmp .ge 5, 3) := by decide +kernel
theorem d_K_closeDescriptor_20 : decode b_K_closeDescriptor 20 = .ok (.iconst 0, 1) := by decide +kernel
theorem d_K_closeDescriptor_21 : decode b_K_closeDescriptor 21 = .ok (.ireturn, 1) := by decide +kernel
theorem d_K_closeDescriptor_22 : decode b_K_closeDescriptor 22 = .ok (.aload_n 0, 1) := by decide +kernel
theorem d_K_closeDescriptor_23 : decode b_K_closeDescriptor 23 = .ok (.getfield 21, 3) := by decide +kernel
theorem d_K_closeDescriptor_26 : decode b_K_closeDescriptor 26 = .ok (.iload_n 3, 1) := by decide +kernel
theorem d_K_closeDescriptor_27 : decode b_K_closeDescriptor 27 = .ok (.dup2, 1) := by decide +kernel
theorem d_K_closeDescriptor_28 : decode b_K_closeDescriptor 28 = .ok (.iaload, 1) := by decide +kernel
theorem d_K_closeDescriptor_29 : decode b_K_closeDescriptor 29 = .ok (.iconst 1, 1) := by decide +kernel
theorem d_K_closeDescriptor_30 : decode b_K_closeDescriptor 30 = .ok (.isub, 1) := by decide +kernel
theorem d_K_closeDescriptor_31 : decode b_K_closeDescriptor 31 = .ok (.iastore, 1) := by decide +kernel
theorem d_K_closeDescriptor_32 : decode b_K_closeDescriptor 32 = .ok (.aload_n 0, 1) := by decide +kernel
theorem d_K_closeDescriptor_33 : decode b_K_closeDescriptor 33 = .ok (.getfield 21, 3) := by decide +kernel
theorem d_K_closeDescriptor_36 : decode b_K_closeDescriptor 36 = .ok (.iload_n 3, 1) := by decide +kernel
theorem d_K_closeDescriptor_37 : decode b_K_closeDescriptor 37 = .ok (.iaload, 1) := by decide +kernel
theorem d_K_closeDescriptor_38 : decode b_K_closeDescriptor 38 = .ok (.ifCond .le 5, 3) := by decide +kernel
theorem d_K_closeDescriptor_41 : decode b_K_closeDescriptor 41 = .ok (.iconst 0, 1) := by decide +kernel
theorem d_K_closeDescriptor_42 : decode b_K_closeDescriptor 42 = .ok (.ireturn, 1) := by decide +kernel
theorem d_K_closeDescriptor_43 : decode b_K_closeDescriptor 43 = .ok (.iload_n 3, 1) := by decide +kernel
theorem d_K_closeDescriptor_44 : decode b_K_closeDescriptor 44 = .ok (.invokestatic 241, 3) := by decide +kernel
theorem d_K_closeDescriptor_47 : decode b_K_closeDescriptor 47 = .ok (.istore 4, 2) := by decide +kernel
theorem d_K_closeDescriptor_49 : decode b_K_closeDescriptor 49 = .ok (.aload_n 0, 1) := by decide +kernel
theorem d_K_closeDescriptor_50 : decode b_K_closeDescriptor 50 = .ok (.getfield 21, 3) := by decide +kernel
theorem d_K_closeDescriptor_53 : decode b_K_closeDescriptor 53 = .ok (.iload 4, 2) := by decide +kernel
theorem d_K_closeDescriptor_55 : decode b_K_closeDescriptor 55 = .ok (.iaload, 1) := by decide +kernel
theorem d_K_closeDescriptor_56 : decode b_K_closeDescriptor 56 = .ok (.ifCond .ne 28, 3) := by decide +kernel
theorem d_K_closeDescriptor_59 : decode b_K_closeDescriptor 59 = .ok (.aload_n 0, 1) := by decide +kernel
theorem d_K_closeDescriptor_60 : decode b_K_closeDescriptor 60 = .ok (.getfield 17, 3) := by decide +kernel
theorem d_K_closeDescriptor_63 : decode b_K_closeDescriptor 63 = .ok (.iload_n 3, 1) := by decide +kernel
theorem d_K_closeDescriptor_64 : decode b_K_closeDescriptor 64 = .ok (.bipush 20, 2) := by decide +kernel
theorem d_K_closeDescriptor_66 : decode b_K_closeDescriptor 66 = .ok (.if_icmp .ge 10, 3) := by decide +kernel
theorem d_K_closeDescriptor_69 : decode b_K_closeDescriptor 69 = .ok (.iload_n 3, 1) := by decide +kernel
theorem d_K_closeDescriptor_70 : decode b_K_closeDescriptor 70 = .ok (.bipush 10, 2) := by decide +kernel
theorem d_K_closeDescriptor_72 : decode b_K_closeDescriptor 72 = .ok (.isub, 1) := by decide +kernel
theorem d_K_closeDescriptor_73 : decode b_K_closeDescriptor 73 = .ok (.goto 7, 3) := by decide +kernel
theorem d_K_closeDescriptor_76 : decode b_K_closeDescriptor 76 = .ok (.iload_n 3, 1) := by decide +kernel
theorem d_K_closeDescriptor_77 : decode b_K_closeDescriptor 77 = .ok (.bipush 20, 2) := by decide +kernel
theorem d_K_closeDescriptor_79 : decode b_K_closeDescriptor 79 = .ok (.isub, 1) := by decide +kernel
theorem d_K_closeDescriptor_80 : decode b_K_closeDescriptor 80 = .ok (.aaload, 1) := by decide +kernel
theorem d_K_closeDescriptor_81 : decode b_K_closeDescriptor 81 = .ok (.invokevirtual 335, 3) := by decide +kernel
theorem d_K_closeDescriptor_84 : decode b_K_closeDescriptor 84 = .ok (.iload 4, 2) := by decide +kernel
theorem d_K_closeDescriptor_86 : decode b_K_closeDescriptor 86 = .ok (.ireturn, 1) := by decide +kernel
def w_K_closeDescriptor_80 (cp : Nat) (p1 : Nat) (x2 : Int32) (Φ : Int32 → KS → Prop) (v4 : Int32) (t0 : Int32) (s0 : KS) : Prop := vp_in t0 8 ∧ w_W_clear cp t0.toNatClampNeg s0 (fun s2 => Φ v4 s2)
def w_K_closeDescriptor (cp : Nat) (p1 : Nat) (x2 : Int32) (s0 : KS) (Φ : Int32 → KS → Prop) : Prop := vp_in x2 8 ∧ ∀ y1 : Int32, y1 = s0 4 p1 x2.toNatClampNeg → vp_in x2 8 ∧ ∀ s2 : KS, s2 = w3 s0 4 p1 x2.toNatClampNeg (0 : Int32) → (((10 : Int32) ≤ y1 → vp_in y1 28 ∧ vp_in y1 28 ∧ ∀ s3 : KS, s3 = w3 s2 7 0 y1.toNatClampNeg ((s2 7 0 y1.toNatClampNeg) - (1 : Int32)) → vp_in y1 28 ∧ (((s3 7 0 y1.toNatClampNeg) ≤ 0 → w_K_otherEnd cp y1 s3 (fun r5 s4 => vp_in r5 28 ∧ ((¬ (s4 7 0 r5.toNatClampNeg) = 0 → Φ r5 s4) ∧ ((s4 7 0 r5.toNatClampNeg) = 0 → (((20 : Int32) ≤ y1 → w_K_closeDescriptor_80 cp p1 x2 Φ r5 (y1 - (20 : Int32)) s4) ∧ (¬ (20 : Int32) ≤ y1 → w_K_closeDescriptor_80 cp p1 x2 Φ r5 (y1 - (10 : Int32)) s4)))))) ∧ (¬ (s3 7 0 y1.toNatClampNeg) ≤ 0 → Φ (0 : Int32) s3))) ∧ (¬ (10 : Int32) ≤ y1 → Φ (0 : Int32) s2))
set_option maxHeartbeats 4000000 in
set_option maxRecDepth 100000 in
theorem c_K_closeDescriptor (l : Launch) (E : gE) (s0 : KS) (p1 : Nat) (hp1 : p1 < 16) (x2 : Int32) (Φ : Int32 → KS → Prop) (hw : w_K_closeDescriptor (eN E) p1 x2 s0 Φ) : gMi l y_K_closeDescriptor v_K_closeDescriptor m_K_closeDescriptor E KK [.ref (ea E 0 0), .ref (ea E 1 p1), .int x2] s0 Φ := by
  intro sz
  refine Met.ofW (cc := b_K_closeDescriptor) (maxL := 5) (ret := (some .int)) (by decide) rfl ?_
  intro p e s m args below meth c s₁ B hml hv
  obtain ⟨rfl, hsz, hP, hK, hD, hX⟩ := hv
  have hx := B.exec
  have hb := B.bytes
  have hr := B.returns
  have hts := atoms_spec (ws := v_K_closeDescriptor) B.pre
  have hG : ∀ w ∈ gG, w.before _ s = true := fun w h => hts w (List.mem_cons_of_mem _ h)
  have hown : s.vm.findClass R_K = some m.cls := findClass_of_methodNamed B.named
  have hlocks := B.notSynchronized
  subst hsz
  obtain ⟨A, hAe⟩ : ∃ A, A = gA E KK s.heap.size := ⟨_, rfl⟩
  rw [← hAe] at hD hX ⊢
  have hV : gV E KK A s0 s s.heap [] := ⟨hP, hD, va_S.rf⟩
  have hl := lv_entry ([.ref (ea E 0 0), .ref (ea E 1 p1), .int x2] : List Value) (n := 5) (Nat.le_of_ble_eq_true rfl)
  rw [lg_entry_eq]
  generalize (lg_sl ([.ref (ea E 0 0), .ref (ea E 1 p1), .int x2] : List Value) ++ List.replicate (5 - (lg_sl ([.ref (ea E 0 0), .ref (ea E 1 p1), .int x2] : List Value)).length) Slot.unset).toArray = ls at hl ⊢
  have hl : lv_has ls 5 [(0, .ref (ea E 0 0)), (1, .ref (ea E 1 p1)), (2, .int x2)] := hl
  have J80 : ∀ (ls : Array Slot) (H : Heap) (locs : List Loc) (s0 : KS) (v4 : Int32) (t0 : Int32), lv_has ls 5 [(4, .int v4)] → gV E KK A s0 s H locs → w_K_closeDescriptor_80 (eN E) p1 x2 Φ v4 t0 s0 → W p l e m_K_closeDescriptor s m ([.ref (ea E 0 0), .ref (ea E 1 p1), .int x2] : List Value).toArray below meth c H locs 0 0 (MQ below (gQi E KK A Φ) ([.ref (ea E 0 0), .ref (ea E 1 p1), .int x2] : List Value).toArray s 0 0 A) (F0 m 80 ls [.int t0, .ref (ea E 10 0)]) := by
    intro  ls H locs s0 v4 t0 hl hV hw
    unfold w_K_closeDescriptor_80 at hw
    have hj1 := Nat.lt_trans (vp_lt hw.1) (by decide : 8 < 10)
    refine kl_10 hx hb hK hV hw.1 d_K_closeDescriptor_80 ?_
    have hw := hw.2
    refine kc_K_W_clear hx hb hml hown hts hV hK hX hAe (c_W_clear l E s0 t0.toNatClampNeg hj1 _ hw) hj1 hl.1 (Nat.le_of_ble_eq_true rfl) d_K_closeDescriptor_81 (Nat.le_of_ble_eq_true rfl) (Nat.le_of_ble_eq_true rfl) (fun s2 H locs hw hV => ?_)
    refine lv_iload hx hb d_K_closeDescriptor_84 (lv_at hl 0 rfl) ?_
    exact kr_i hx hb hr hV hK hX hAe hw d_K_closeDescriptor_86
  unfold w_K_closeDescriptor at hw
  refine lv_aload_n hx hb d_K_closeDescriptor_0 rfl (lv_at hl 1 rfl) ?_
  refine kg_K_P_descriptors hx hb hG hown hK hV hp1 d_K_closeDescriptor_1 ?_
  refine lv_iload_n hx hb d_K_closeDescriptor_4 rfl (lv_at hl 2 rfl) ?_
  refine kl_4 hx hb hK hV hp1 hw.1 d_K_closeDescriptor_5 ?_
  have hw := hw.2
  refine lv_topi (fun y1 ey1 => ?_)
  have hw := hw y1 ey1
  refine lv_istore_n (lv' := [(3, .int y1), (0, .ref (ea E 0 0)), (1, .ref (ea E 1 p1)), (2, .int x2)]) hx hb d_K_closeDescriptor_6 rfl hl (by decide) rfl (fun ls hl => ?_)
  refine lv_aload_n hx hb d_K_closeDescriptor_7 rfl (lv_at hl 2 rfl) ?_
  refine kg_K_P_descriptors hx hb hG hown hK hV hp1 d_K_closeDescriptor_8 ?_
  refine lv_iload_n hx hb d_K_closeDescriptor_11 rfl (lv_at hl 3 rfl) ?_
  refine lv_iconst (v := 0) hx hb d_K_closeDescriptor_12 (by decide) ?_
  refine ks_4 hx hb hK hV hp1 hw.1 d_K_closeDescriptor_13 (fun s2 H locs es2 hV => ?_)
  have hw := hw.2 s2 es2
  refine lv_iload_n hx hb d_K_closeDescriptor_14 rfl (lv_at hl 0 rfl) ?_
  refine lv_bipush (v := 10) hx hb d_K_closeDescriptor_15 (by decide) ?_
  refine lv_icmp_ge (tgt := 22) hx hb d_K_closeDescriptor_17 rfl (fun hc => ?_) (fun hc => ?_)
  · have hw := hw.1 hc
    refine lv_aload_n hx hb d_K_closeDescriptor_22 rfl (lv_at hl 1 rfl) ?_
    refine kg_K_K_ends hx hb hG hown hK hV d_K_closeDescriptor_23 ?_
    refine lv_iload_n hx hb d_K_closeDescriptor_26 rfl (lv_at hl 0 rfl) ?_
    refine lv_dup2_11 hx hb d_K_closeDescriptor_27 rfl rfl ?_
    refine kl_7 hx hb hK hV hw.1 d_K_closeDescriptor_28 ?_
    have hw := hw.2
    refine lv_iconst (v := 1) hx hb d_K_closeDescriptor_29 (by decide) ?_
    refine lv_isub hx hb d_K_closeDescriptor_30 ?_
    refine ks_7 hx hb hK hV hw.1 d_K_closeDescriptor_31 (fun s3 H locs es3 hV => ?_)
    have hw := hw.2 s3 es3
    refine lv_aload_n hx hb d_K_closeDescriptor_32 rfl (lv_at hl 1 rfl) ?_
    refine kg_K_K_ends hx hb hG hown hK hV d_K_closeDescriptor_33 ?_
    refine lv_iload_n hx hb d_K_closeDescriptor_36 rfl (lv_at hl 0 rfl) ?_
    refine kl_7 hx hb hK hV hw.1 d_K_closeDescriptor_37 ?_
    have hw := hw.2
    refine lv_if_le (tgt := 43) hx hb d_K_closeDescriptor_38 rfl (fun hc => ?_) (fun hc => ?_)
    · have hw := hw.1 hc
      refine lv_iload_n hx hb d_K_closeDescriptor_43 rfl (lv_at hl 0 rfl) ?_
      refine kc_K_K_otherEnd hx hb hml hown hts hV hK hX hAe (c_K_otherEnd l E s3 y1 _ hw) hl.1 (Nat.le_of_ble_eq_true rfl) d_K_closeDescriptor_44 (Nat.le_of_ble_eq_true rfl) (Nat.le_of_ble_eq_true rfl) (fun r5 s4 H locs hw hV => ?_)
      refine lv_istore (lv' := [(4, .int r5), (3, .int y1), (0, .ref (ea E 0 0)), (1, .ref (ea E 1 p1)), (2, .int x2)]) hx hb d_K_closeDescriptor_47 hl (by decide) rfl (fun ls hl => ?_)
      refine lv_aload_n hx hb d_K_closeDescriptor_49 rfl (lv_at hl 2 rfl) ?_
      refine kg_K_K_ends hx hb hG hown hK hV d_K_closeDescriptor_50 ?_
      refine lv_iload hx hb d_K_closeDescriptor_53 (lv_at hl 0 rfl) ?_
      refine kl_7 hx hb hK hV hw.1 d_K_closeDescriptor_55 ?_
      have hw := hw.2
      refine lv_if_ne (tgt := 84) hx hb d_K_closeDescriptor_56 rfl (fun hc => ?_) (fun hc => ?_)
      · have hw := hw.1 hc
        refine lv_iload hx hb d_K_closeDescriptor_84 (lv_at hl 0 rfl) ?_
        exact kr_i hx hb hr hV hK hX hAe hw d_K_closeDescriptor_86
      · have hw := hw.2 hc
        refine lv_aload_n hx hb d_K_closeDescriptor_59 rfl (lv_at hl 2 rfl) ?_
        refine kg_K_K_pipes hx hb hG hown hK hV d_K_closeDescriptor_60 ?_
        refine lv_iload_n hx hb d_K_closeDescriptor_63 rfl (lv_at hl 1 rfl) ?_
        refine lv_bipush (v := 20) hx hb d_K_closeDescriptor_64 (by decide) ?_
        refine lv_icmp_ge (tgt := 76) hx hb d_K_closeDescriptor_66 rfl (fun hc => ?_) (fun hc => ?_)
        · have hw := hw.1 hc
          refine lv_iload_n hx hb d_K_closeDescriptor_76 rfl (lv_at hl 1 rfl) ?_
          refine lv_bipush (v := 20) hx hb d_K_closeDescriptor_77 (by decide) ?_
          refine lv_isub hx hb d_K_closeDescriptor_79 ?_
          exact J80 _ _ _ s4 r5 (y1 - (20 : Int32)) (lv_sub hl [0] rfl) hV hw
        · have hw := hw.2 hc
          refine lv_iload_n hx hb d_K_closeDescriptor_69 rfl (lv_at hl 1 rfl) ?_
          refine lv_bipush (v := 10) hx hb d_K_closeDescriptor_70 (by decide) ?_
          refine lv_isub hx hb d_K_closeDescriptor_72 ?_
          refine lv_goto (tgt := 80) hx hb d_K_closeDescriptor_73 rfl ?_
          exact J80 _ _ _ s4 r5 (y1 - (10 : Int32)) (lv_sub hl [0] rfl) hV hw
    · have hw := hw.2 hc
      refine lv_iconst (v := 0) hx hb d_K_closeDescriptor_41 (by decide) ?_
      exact kr_i hx hb hr hV hK hX hAe hw d_K_closeDescriptor_42
  · have hw := hw.2 hc
    refine lv_iconst (v := 0) hx hb d_K_closeDescriptor_20 (by decide) ?_
    exact kr_i hx hb hr hV hK hX hAe hw d_K_closeDescriptor_21
theorem d_K_endedChild_0 : decode b_K_endedChild 0 = .ok (.iconst 0, 1) := by decide +kernel
theorem d_K_endedChild_1 : decode b_K_endedChild 1 = .ok (.istore_n 2, 1) := by decide +kernel
theorem d_K_endedChild_2 : decode b_K_endedChild 2 = .ok (.iload_n 2, 1) := by decide +kernel
theorem d_K_endedChild_3 : decode b_K_endedChild 3 = .ok (.bipush 16, 2) := by decide +kernel
theorem d_K_endedChild_5 : decode b_K_endedChild 5 = .ok (.if_icmp .ge 43, 3) := by decide +kernel
theorem d_K_endedChild_8 : decode b_K_endedChild 8 = .ok (.aload_n 0, 1) := by decide +kernel
theorem d_K_endedChild_9 : decode b_K_endedChild 9 = .ok (.getfield 11, 3) := by decide +kernel
theorem d_K_endedChild_12 : decode b_K_endedChild 12 = .ok (.iload_n 2, 1) := by decide +kernel
theorem d_K_endedChild_13 : decode b_K_endedChild 13 = .ok (.aaload, 1) := by decide +kernel
theorem d_K_endedChild_14 : decode b_K_endedChild 14 = .ok (.aload_n 1, 1) := by decide +kernel
theorem d_K_endedChild_15 : decode b_K_endedChild 15 = .ok (.invokevirtual 316, 3) := by decide +kernel
theorem d_K_endedChild_18 : decode b_K_endedChild 18 = .ok (.ifCond .eq 24, 3) := by decide +kernel
theorem d_K_endedChild_21 : decode b_K_endedChild 21 = .ok (.aload_n 0, 1) := by decide +kernel
theorem d_K_endedChild_22 : decode b_K_endedChild 22 = .ok (.getfield 11, 3) := by decide +kernel
theorem d_K_endedChild_25 : decode b_K_endedChild 25 = .ok (.iload_n 2, 1) := by decide +kernel
theorem d_K_endedChild_26 : decode b_K_endedChild 26 = .ok (.aaload, 1) := by decide +kernel
theorem d_K_endedChild_27 : decode b_K_endedChild 27 = .ok (.getfield 127, 3) := by decide +kernel
theorem d_K_endedChild_30 : decode b_K_endedChild 30 = .ok (.bipush 6, 2) := by decide +kernel
theorem d_K_endedChild_32 : decode b_K_endedChild 32 = .ok (.if_icmp .ne 10, 3) := by decide +kernel
theorem d_K_endedChild_35 : decode b_K_endedChild 35 = .ok (.aload_n 0, 1) := by decide +kernel
theorem d_K_endedChild_36 : decode b_K_endedChild 36 = .ok (.getfield 11, 3) := by decide +kernel
theorem d_K_endedChild_39 : decode b_K_endedChild 39 = .ok (.iload_n 2, 1) := by decide +kernel
theorem d_K_endedChild_40 : decode b_K_endedChild 40 = .ok (.aaload, 1) := by decide +kernel
theorem d_K_endedChild_41 : decode b_K_endedChild 41 = .ok (.areturn, 1) := by decide +kernel
theorem d_K_endedChild_42 : decode b_K_endedChild 42 = .ok (.iinc 2 1, 3) := by decide +kernel
theorem d_K_endedChild_45 : decode b_K_endedChild 45 = .ok (.goto (-43), 3) := by decide +kernel
theorem d_K_endedChild_48 : decode b_K_endedChild 48 = .ok (.aconst_null, 1) := by decide +kernel
theorem d_K_endedChild_49 : decode b_K_endedChild 49 = .ok (.areturn, 1) := by decide +kernel
def w_K_endedChild_2 (cp : Nat) (p1 : Nat) (Φ : Option Nat → KS → Prop) : Nat → Int32 → KS → Prop
  | 0, _, _ => False
  | n + 1, v2, s0 => (((16 : Int32) ≤ v2 → Φ none s0) ∧ (¬ (16 : Int32) ≤ v2 → vp_in v2 16 ∧ w_P_isChildOf cp v2.toNatClampNeg p1 s0 (fun r3 s2 => ((r3 = 0 → ∀ y4 : Int32, y4 = v2 + (1 : Int32) → w_K_endedChild_2 cp p1 Φ n y4 s2) ∧ (¬ r3 = 0 → vp_in v2 16 ∧ ((¬ (s2 1 v2.toNatClampNeg 7) = (6 : Int32) → ∀ y6 : Int32, y6 = v2 + (1 : Int32) → w_K_endedChild_2 cp p1 Φ n y6 s2) ∧ ((s2 1 v2.toNatClampNeg 7) = (6 : Int32) → vp_in v2 16 ∧ Φ (some v2.toNatClampNeg) s2)))))))
def w_K_endedChild (cp : Nat) (p1 : Nat) (s0 : KS) (Φ : Option Nat → KS → Prop) : Prop := ∃ nn : Nat, w_K_endedChild_2 cp p1 Φ nn (0 : Int32) s0
set_option maxHeartbeats 4000000 in
set_option maxRecDepth 100000 in
theorem c_K_endedChild (l : Launch) (E : gE) (s0 : KS) (p1 : Nat) (hp1 : p1 < 16) (Φ : Option Nat → KS → Prop) (hw : w_K_endedChild (eN E) p1 s0 Φ) : gMq l y_K_endedChild v_K_endedChild m_K_endedChild E KK [.ref (ea E 0 0), .ref (ea E 1 p1)] s0 Φ := by
  intro sz
  refine Met.ofW (cc := b_K_endedChild) (maxL := 3) (ret := (some (.object "PipeKernel$Proc"))) (by decide) rfl ?_
  intro p e s m args below meth c s₁ B hml hv
  obtain ⟨rfl, hsz, hP, hK, hD, hX⟩ := hv
  have hx := B.exec
  have hb := B.bytes
  have hr := B.returns
  have hts := atoms_spec (ws := v_K_endedChild) B.pre
  have hG : ∀ w ∈ gG, w.before _ s = true := fun w h => hts w (List.mem_cons_of_mem _ h)
  have hown : s.vm.findClass R_K = some m.cls := findClass_of_methodNamed B.named
  have hlocks := B.notSynchronized
  subst hsz
  obtain ⟨A, hAe⟩ : ∃ A, A = gA E KK s.heap.size := ⟨_, rfl⟩
  rw [← hAe] at hD hX ⊢
  have hV : gV E KK A s0 s s.heap [] := ⟨hP, hD, va_S.rf⟩
  have hl := lv_entry ([.ref (ea E 0 0), .ref (ea E 1 p1)] : List Value) (n := 3) (Nat.le_of_ble_eq_true rfl)
  rw [lg_entry_eq]
  generalize (lg_sl ([.ref (ea E 0 0), .ref (ea E 1 p1)] : List Value) ++ List.replicate (3 - (lg_sl ([.ref (ea E 0 0), .ref (ea E 1 p1)] : List Value)).length) Slot.unset).toArray = ls at hl ⊢
  have hl : lv_has ls 3 [(0, .ref (ea E 0 0)), (1, .ref (ea E 1 p1))] := hl
  have L2 : ∀ (n : Nat), ∀ (ls : Array Slot) (H : Heap) (locs : List Loc) (s0 : KS) (v2 : Int32), lv_has ls 3 [(0, .ref (ea E 0 0)), (1, .ref (ea E 1 p1)), (2, .int v2)] → gV E KK A s0 s H locs → w_K_endedChild_2 (eN E) p1 Φ n v2 s0 → W p l e m_K_endedChild s m ([.ref (ea E 0 0), .ref (ea E 1 p1)] : List Value).toArray below meth c H locs 0 0 (MQ below (gQq E KK A Φ) ([.ref (ea E 0 0), .ref (ea E 1 p1)] : List Value).toArray s 0 0 A) (F0 m 2 ls []) := by
    intro n
    induction n with
    | zero =>
      intro ls H locs s0 v2 hl hV hw
      exact False.elim hw
    | succ n ih =>
      intro ls H locs s0 v2 hl hV hw
      unfold w_K_endedChild_2 at hw
      refine lv_iload_n hx hb d_K_endedChild_2 rfl (lv_at hl 2 rfl) ?_
      refine lv_bipush (v := 16) hx hb d_K_endedChild_3 (by decide) ?_
      refine lv_icmp_ge (tgt := 48) hx hb d_K_endedChild_5 rfl (fun hc => ?_) (fun hc => ?_)
      · have hw := hw.1 hc
        refine lv_null hx hb d_K_endedChild_48 ?_
        exact kr_q (o := none) hx hb hr hV hK hX hAe (fun _ h => by cases h) hw d_K_endedChild_49
      · have hw := hw.2 hc
        refine lv_aload_n hx hb d_K_endedChild_8 rfl (lv_at hl 0 rfl) ?_
        refine kg_K_K_procs hx hb hG hown hK hV d_K_endedChild_9 ?_
        refine lv_iload_n hx hb d_K_endedChild_12 rfl (lv_at hl 2 rfl) ?_
        have hj1 := vp_lt hw.1
        refine kl_9 hx hb hK hV hw.1 d_K_endedChild_13 ?_
        have hw := hw.2
        refine lv_aload_n hx hb d_K_endedChild_14 rfl (lv_at hl 1 rfl) ?_
        refine kc_K_P_isChildOf hx hb hml hown hts hV hK hX hAe (c_P_isChildOf l E s0 v2.toNatClampNeg hj1 p1 hp1 _ hw) hj1 hl.1 (Nat.le_of_ble_eq_true rfl) d_K_endedChild_15 (Nat.le_of_ble_eq_true rfl) (Nat.le_of_ble_eq_true rfl) (fun r3 s2 H locs hw hV => ?_)
        refine lv_if_eq (tgt := 42) hx hb d_K_endedChild_18 rfl (fun hc => ?_) (fun hc => ?_)
        · have hw := hw.1 hc
          obtain ⟨y4, ey4⟩ : ∃ z : Int32, z = v2 + (1 : Int32) := ⟨_, rfl⟩
          have hw := hw y4 ey4
          refine lv_iinc (k := 2) (v := y4) (lv' := [(2, .int y4), (0, .ref (ea E 0 0)), (1, .ref (ea E 1 p1))]) hx hb d_K_endedChild_42 hl rfl (by rw [ey4]; rfl) (by decide) rfl (fun ls hl => ?_)
          refine lv_goto (tgt := 2) hx hb d_K_endedChild_45 rfl ?_
          exact ih _ _ _ s2 y4 (lv_sub hl [1, 2, 0] rfl) hV hw
        · have hw := hw.2 hc
          refine lv_aload_n hx hb d_K_endedChild_21 rfl (lv_at hl 0 rfl) ?_
          refine kg_K_K_procs hx hb hG hown hK hV d_K_endedChild_22 ?_
          refine lv_iload_n hx hb d_K_endedChild_25 rfl (lv_at hl 2 rfl) ?_
          have hj5 := vp_lt hw.1
          refine kl_9 hx hb hK hV hw.1 d_K_endedChild_26 ?_
          have hw := hw.2
          refine kg_K_P_state hx hb hG hown hK hV hj5 d_K_endedChild_27 ?_
          refine lv_bipush (v := 6) hx hb d_K_endedChild_30 (by decide) ?_
          refine lv_icmp_ne (tgt := 42) hx hb d_K_endedChild_32 rfl (fun hc => ?_) (fun hc => ?_)
          · have hw := hw.1 hc
            obtain ⟨y6, ey6⟩ : ∃ z : Int32, z = v2 + (1 : Int32) := ⟨_, rfl⟩
            have hw := hw y6 ey6
            refine lv_iinc (k := 2) (v := y6) (lv' := [(2, .int y6), (0, .ref (ea E 0 0)), (1, .ref (ea E 1 p1))]) hx hb d_K_endedChild_42 hl rfl (by rw [ey6]; rfl) (by decide) rfl (fun ls hl => ?_)
            refine lv_goto (tgt := 2) hx hb d_K_endedChild_45 rfl ?_
            exact ih _ _ _ s2 y6 (lv_sub hl [1, 2, 0] rfl) hV hw
          · have hw := hw.2 hc
            refine lv_aload_n hx hb d_K_endedChild_35 rfl (lv_at hl 0 rfl) ?_
            refine kg_K_K_procs hx hb hG hown hK hV d_K_endedChild_36 ?_
            refine lv_iload_n hx hb d_K_endedChild_39 rfl (lv_at hl 2 rfl) ?_
            have hj7 := vp_lt hw.1
            refine kl_9 hx hb hK hV hw.1 d_K_endedChild_40 ?_
            have hw := hw.2
            exact kr_q (o := (some v2.toNatClampNeg)) hx hb hr hV hK hX hAe (fun z h => by cases h; exact hj7) hw d_K_endedChild_41
  unfold w_K_endedChild at hw
  refine lv_iconst (v := 0) hx hb d_K_endedChild_0 (by decide) ?_
  refine lv_istore_n (lv' := [(2, .int (0 : Int32)), (0, .ref (ea E 0 0)), (1, .ref (ea E 1 p1))]) hx hb d_K_endedChild_1 rfl hl (by decide) rfl (fun ls hl => ?_)
  obtain ⟨nn, hw⟩ := hw
  exact L2 nn _ _ _ s0 (0 : Int32) (lv_sub hl [1, 2, 0] rfl) hV hw
theorem d_K_handOverChildren_0 : decode b_K_handOverChildren 0 = .ok (.aload_n 1, 1) := by decide +kernel
theorem d_K_handOverChildren_1 : decode b_K_handOverChildren 1 = .ok (.getfield 256, 3) := by decide +kernel
theorem d_K_handOverChildren_4 : decode b_K_handOverChildren 4 = .ok (.ifCond .eq 33, 3) := by decide +kernel
theorem d_K_handOverChildren_7 : decode b_K_handOverChildren 7 = .ok (.aload_n 0, 1) := by decide +kernel
theorem d_K_handOverChildren_8 : decode b_K_handOverChildren 8 = .ok (.getfield 11, 3) := by decide +kernel
theorem d_K_handOverChildren_11 : decode b_K_handOverChildren 11 = .ok (.iconst 0, 1) := by decide +kernel
theorem d_K_handOverChildren_12 : decode b_K_handOverChildren 12 = .ok (.aaload, 1) := by decide +kernel
theorem d_K_handOverChildren_13 : decode b_K_handOverChildren 13 = .ok (.getfield 127, 3) := by decide +kernel
theorem d_K_handOverChildren_16 : decode b_K_handOverChildren 16 = .ok (.ifCond .eq 21, 3) := by decide +kernel
theorem d_K_handOverChildren_19 : decode b_K_handOverChildren 19 = .ok (.aload_n 0, 1) := by decide +kernel
theorem d_K_handOverChildren_20 : decode b_K_handOverChildren 20 = .ok (.getfield 11, 3) := by decide +kernel
theorem d_K_handOverChildren_23 : decode b_K_handOverChildren 23 = .ok (.iconst 0, 1) := by decide +kernel
theorem d_K_handOverChildren_24 : decode b_K_handOverChildren 24 = .ok (.aaload, 1) := by decide +kernel
theorem d_K_handOverChildren_25 : decode b_K_handOverChildren 25 = .ok (.getfield 127, 3) := by decide +kernel
theorem d_K_handOverChildren_28 : decode b_K_handOverChildren 28 = .ok (.bipush 6, 2) := by decide +kernel
theorem d_K_handOverChildren_30 : decode b_K_handOverChildren 30 = .ok (.if_icmp .eq 7, 3) := by decide +kernel
theorem d_K_handOverChildren_33 : decode b_K_handOverChildren 33 = .ok (.iconst 1, 1) := by decide +kernel
theorem d_K_handOverChildren_34 : decode b_K_handOverChildren 34 = .ok (.goto 4, 3) := by decide +kernel
theorem d_K_handOverChildren_37 : decode b_K_handOverChildren 37 = .ok (.iconst 0, 1) := by decide +kernel
theorem d_K_handOverChildren_38 : decode b_K_handOverChildren 38 = .ok (.istore_n 2, 1) := by decide +kernel
theorem d_K_handOverChildren_39 : decode b_K_handOverChildren 39 = .ok (.iconst 0, 1) := by decide +kernel
theorem d_K_handOverChildren_40 : decode b_K_handOverChildren 40 = .ok (.istore_n 3, 1) := by decide +kernel
theorem d_K_handOverChildren_41 : decode b_K_handOverChildren 41 = .ok (.iload_n 3, 1) := by decide +kernel
theorem d_K_handOverChildren_42 : decode b_K_handOverChildren 42 = .ok (.bipush 16, 2) := by decide +kernel
theorem d_K_handOverChildren_44 : decode b_K_handOverChildren 44 = .ok (.if_icmp .ge 60, 3) := by decide +kernel
theorem d_K_handOverChildren_47 : decode b_K_handOverChildren 47 = .ok (.aload_n 0, 1) := by decide +kernel
theorem d_K_handOverChildren_48 : decode b_K_handOverChildren 48 = .ok (.getfield 11, 3) := by decide +kernel
theorem d_K_handOverChildren_51 : decode b_K_handOverChildren 51 = .ok (.iload_n 3, 1) := by decide +kernel
theorem d_K_handOverChildren_52 : decode b_K_handOverChildren 52 = .ok (.aaload, 1) := by decide +kernel
theorem d_K_handOverChildren_53 : decode b_K_handOverChildren 53 = .ok (.astore 4, 2) := by decide +kernel
theorem d_K_handOverChildren_55 : decode b_K_handOverChildren 55 = .ok (.aload 4, 2) := by decide +kernel
theorem d_K_handOverChildren_57 : decode b_K_handOverChildren 57 = .ok (.aload_n 1, 1) := by decide +kernel
theorem d_K_handOverChildren_58 : decode b_K_handOverChildren 58 = .ok (.invokevirtual 316, 3) := by decide +kernel
theorem d_K_handOverChildren_61 : decode b_K_handOverChildren 61 = .ok (.ifCond .eq 37, 3) := by decide +kernel
theorem d_K_handOverChildren_64 : decode b_K_handOverChildren 64 = .ok (.aload 4, 2) := by decide +kernel
theorem d_K_handOverChildren_66 : decode b_K_handOverChildren 66 = .ok (.iload_n 2, 1) := by decide +kernel
theorem d_K_handOverChildren_67 : decode b_K_handOverChildren 67 = .ok (.ifCond .eq 7, 3) := by decide +kernel
theorem d_K_handOverChildren_70 : decode b_K_handOverChildren 70 = .ok (.iconst 0, 1) := by decide +kernel
theorem d_K_handOverChildren_71 : decode b_K_handOverChildren 71 = .ok (.goto 4, 3) := by decide +kernel
theorem d_K_handOverChildren_74 : decode b_K_handOverChildren 74 = .ok (.iconst (-1), 1) := by decide +kernel
theorem d_K_handOverChildren_75 : decode b_K_handOverChildren 75 = .ok (.putfield 140, 3) := by decide +kernel
theorem d_K_handOverChildren_78 : decode b_K_handOverChildren 78 = .ok (.iload_n 2, 1) := by decide +kernel
theorem d_K_handOverChildren_79 : decode b_K_handOverChildren 79 = .ok (.ifCond .ne 19, 3) := by decide +kernel
theorem d_K_handOverChildren_82 : decode b_K_handOverChildren 82 = .ok (.aload 4, 2) := by decide +kernel
theorem d_K_handOverChildren_84 : decode b_K_handOverChildren 84 = .ok (.getfield 127, 3) := by decide +kernel
theorem d_K_handOverChildren_87 : decode b_K_handOverChildren 87 = .ok (.bipush 6, 2) := by decide +kernel
theorem d_K_handOverChildren_89 : decode b_K_handOverChildren 89 = .ok (.if_icmp .ne 9, 3) := by decide +kernel
theorem d_K_handOverChildren_92 : decode b_K_handOverChildren 92 = .ok (.aload 4, 2) := by decide +kernel
theorem d_K_handOverChildren_94 : decode b_K_handOverChildren 94 = .ok (.iconst 0, 1) := by decide +kernel
theorem d_K_handOverChildren_95 : decode b_K_handOverChildren 95 = .ok (.putfield 127, 3) := by decide +kernel
theorem d_K_handOverChildren_98 : decode b_K_handOverChildren 98 = .ok (.iinc 3 1, 3) := by decide +kernel
theorem d_K_handOverChildren_101 : decode b_K_handOverChildren 101 = .ok (.goto (-60), 3) := by decide +kernel
theorem d_K_handOverChildren_104 : decode b_K_handOverChildren 104 = .ok (.return_, 1) := by decide +kernel
def w_K_handOverChildren_75 (cp : Nat) (p1 : Nat) (K41 : Int32 → Int32 → KS → Prop) (Φ : KS → Prop) (v2 : Int32) (v3 : Int32) (b4 : Nat) (t0 : Int32) (c1 : Nat) (s0 : KS) : Prop := ∀ s1 : KS, s1 = w3 s0 1 c1 6 t0 → ((¬ v2 = 0 → ∀ y2 : Int32, y2 = v3 + (1 : Int32) → K41 v2 y2 s1) ∧ (v2 = 0 → ((¬ (s1 1 b4 7) = (6 : Int32) → ∀ y3 : Int32, y3 = v3 + (1 : Int32) → K41 v2 y3 s1) ∧ ((s1 1 b4 7) = (6 : Int32) → ∀ s4 : KS, s4 = w3 s1 1 b4 7 (0 : Int32) → ∀ y5 : Int32, y5 = v3 + (1 : Int32) → K41 v2 y5 s4))))
def w_K_handOverChildren_41 (cp : Nat) (p1 : Nat) (Φ : KS → Prop) : Nat → Int32 → Int32 → KS → Prop
  | 0, _, _, _ => False
  | n + 1, v2, v3, s0 => (((16 : Int32) ≤ v3 → Φ s0) ∧ (¬ (16 : Int32) ≤ v3 → vp_in v3 16 ∧ w_P_isChildOf cp v3.toNatClampNeg p1 s0 (fun r3 s2 => ((r3 = 0 → ∀ y4 : Int32, y4 = v3 + (1 : Int32) → w_K_handOverChildren_41 cp p1 Φ n v2 y4 s2) ∧ (¬ r3 = 0 → ((v2 = 0 → w_K_handOverChildren_75 cp p1 (w_K_handOverChildren_41 cp p1 Φ n) Φ v2 v3 v3.toNatClampNeg (-1 : Int32) v3.toNatClampNeg s2) ∧ (¬ v2 = 0 → w_K_handOverChildren_75 cp p1 (w_K_handOverChildren_41 cp p1 Φ n) Φ v2 v3 v3.toNatClampNeg (0 : Int32) v3.toNatClampNeg s2)))))))
def w_K_handOverChildren (cp : Nat) (p1 : Nat) (s0 : KS) (Φ : KS → Prop) : Prop := (((s0 1 p1 0) = 0 → ∃ nn : Nat, w_K_handOverChildren_41 cp p1 Φ nn (0 : Int32) (0 : Int32) s0) ∧ (¬ (s0 1 p1 0) = 0 → vp_in (0 : Int32) 16 ∧ (((s0 1 ((0 : Int32).toNatClampNeg) 7) = 0 → ∃ nn : Nat, w_K_handOverChildren_41 cp p1 Φ nn (0 : Int32) (0 : Int32) s0) ∧ (¬ (s0 1 ((0 : Int32).toNatClampNeg) 7) = 0 → vp_in (0 : Int32) 16 ∧ (((s0 1 ((0 : Int32).toNatClampNeg) 7) = (6 : Int32) → ∃ nn : Nat, w_K_handOverChildren_41 cp p1 Φ nn (0 : Int32) (0 : Int32) s0) ∧ (¬ (s0 1 ((0 : Int32).toNatClampNeg) 7) = (6 : Int32) → ∃ nn : Nat, w_K_handOverChildren_41 cp p1 Φ nn (1 : Int32) (0 : Int32) s0))))))
set_option maxHeartbeats 4000000 in
set_option maxRecDepth 100000 in
theorem c_K_handOverChildren (l : Launch) (E : gE) (s0 : KS) (p1 : Nat) (hp1 : p1 < 16) (Φ : KS → Prop) (hw : w_K_handOverChildren (eN E) p1 s0 Φ) : gMv l y_K_handOverChildren v_K_handOverChildren m_K_handOverChildren E KK [.ref (ea E 0 0), .ref (ea E 1 p1)] s0 Φ := by
  intro sz
  refine Met.ofW (cc := b_K_handOverChildren) (maxL := 5) (ret := none) (by decide) rfl ?_
  intro p e s m args below meth c s₁ B hml hv
  obtain ⟨rfl, hsz, hP, hK, hD, hX⟩ := hv
  have hx := B.exec
  have hb := B.bytes
  have hr := B.returns
  have hts := atoms_spec (ws := v_K_handOverChildren) B.pre
  have hG : ∀ w ∈ gG, w.before _ s = true := fun w h => hts w (List.mem_cons_of_mem _ h)
  have hown : s.vm.findClass R_K = some m.cls := findClass_of_methodNamed B.named
  have hlocks := B.notSynchronized
  subst hsz
  obtain ⟨A, hAe⟩ : ∃ A, A = gA E KK s.heap.size := ⟨_, rfl⟩
  rw [← hAe] at hD hX ⊢
  have hV : gV E KK A s0 s s.heap [] := ⟨hP, hD, va_S.rf⟩
  have hl := lv_entry ([.ref (ea E 0 0), .ref (ea E 1 p1)] : List Value) (n := 5) (Nat.le_of_ble_eq_true rfl)
  rw [lg_entry_eq]
  generalize (lg_sl ([.ref (ea E 0 0), .ref (ea E 1 p1)] : List Value) ++ List.replicate (5 - (lg_sl ([.ref (ea E 0 0), .ref (ea E 1 p1)] : List Value)).length) Slot.unset).toArray = ls at hl ⊢
  have hl : lv_has ls 5 [(0, .ref (ea E 0 0)), (1, .ref (ea E 1 p1))] := hl
  have J75 : ∀ (K41 : Int32 → Int32 → KS → Prop) (hK41 : ∀ (ls : Array Slot) (H : Heap) (locs : List Loc) (s0 : KS) (v2 : Int32) (v3 : Int32), lv_has ls 5 [(0, .ref (ea E 0 0)), (1, .ref (ea E 1 p1)), (2, .int v2), (3, .int v3)] → gV E KK A s0 s H locs → K41 v2 v3 s0 → W p l e m_K_handOverChildren s m ([.ref (ea E 0 0), .ref (ea E 1 p1)] : List Value).toArray below meth c H locs 0 0 (MQ below (gQv E KK A Φ) ([.ref (ea E 0 0), .ref (ea E 1 p1)] : List Value).toArray s 0 0 A) (F0 m 41 ls [])), ∀ (ls : Array Slot) (H : Heap) (locs : List Loc) (s0 : KS) (v2 : Int32) (v3 : Int32) (b4 : Nat) (hb4 : b4 < 16) (t0 : Int32) (c1 : Nat) (hc1 : c1 < 16), lv_has ls 5 [(0, .ref (ea E 0 0)), (1, .ref (ea E 1 p1)), (2, .int v2), (3, .int v3), (4, .ref (ea E 1 b4))] → gV E KK A s0 s H locs → w_K_handOverChildren_75 (eN E) p1 K41 Φ v2 v3 b4 t0 c1 s0 → W p l e m_K_handOverChildren s m ([.ref (ea E 0 0), .ref (ea E 1 p1)] : List Value).toArray below meth c H locs 0 0 (MQ below (gQv E KK A Φ) ([.ref (ea E 0 0), .ref (ea E 1 p1)] : List Value).toArray s 0 0 A) (F0 m 75 ls [.int t0, .ref (ea E 1 c1)]) := by
    intro K41 hK41 ls H locs s0 v2 v3 b4 hb4 t0 c1 hc1 hl hV hw
    unfold w_K_handOverChildren_75 at hw
    refine kp_K_P_parent hx hb hG hown hK hV hc1 d_K_handOverChildren_75 (fun s1 H locs es1 hV => ?_)
    have hw := hw s1 es1
    refine lv_iload_n hx hb d_K_handOverChildren_78 rfl (lv_at hl 2 rfl) ?_
    refine lv_if_ne (tgt := 98) hx hb d_K_handOverChildren_79 rfl (fun hc => ?_) (fun hc => ?_)
    · have hw := hw.1 hc
      obtain ⟨y2, ey2⟩ : ∃ z : Int32, z = v3 + (1 : Int32) := ⟨_, rfl⟩
      have hw := hw y2 ey2
      refine lv_iinc (k := 3) (v := y2) (lv' := [(3, .int y2), (0, .ref (ea E 0 0)), (1, .ref (ea E 1 p1)), (2, .int v2), (4, .ref (ea E 1 b4))]) hx hb d_K_handOverChildren_98 hl rfl (by rw [ey2]; rfl) (by decide) rfl (fun ls hl => ?_)
      refine lv_goto (tgt := 41) hx hb d_K_handOverChildren_101 rfl ?_
      exact hK41 _ _ _ s1 v2 y2 (lv_sub hl [1, 2, 3, 0] rfl) hV hw
    · have hw := hw.2 hc
      refine lv_aload hx hb d_K_handOverChildren_82 (lv_at hl 4 rfl) ?_
      refine kg_K_P_state hx hb hG hown hK hV hb4 d_K_handOverChildren_84 ?_
      refine lv_bipush (v := 6) hx hb d_K_handOverChildren_87 (by decide) ?_
      refine lv_icmp_ne (tgt := 98) hx hb d_K_handOverChildren_89 rfl (fun hc => ?_) (fun hc => ?_)
      · have hw := hw.1 hc
        obtain ⟨y3, ey3⟩ : ∃ z : Int32, z = v3 + (1 : Int32) := ⟨_, rfl⟩
        have hw := hw y3 ey3
        refine lv_iinc (k := 3) (v := y3) (lv' := [(3, .int y3), (0, .ref (ea E 0 0)), (1, .ref (ea E 1 p1)), (2, .int v2), (4, .ref (ea E 1 b4))]) hx hb d_K_handOverChildren_98 hl rfl (by rw [ey3]; rfl) (by decide) rfl (fun ls hl => ?_)
        refine lv_goto (tgt := 41) hx hb d_K_handOverChildren_101 rfl ?_
        exact hK41 _ _ _ s1 v2 y3 (lv_sub hl [1, 2, 3, 0] rfl) hV hw
      · have hw := hw.2 hc
        refine lv_aload hx hb d_K_handOverChildren_92 (lv_at hl 4 rfl) ?_
        refine lv_iconst (v := 0) hx hb d_K_handOverChildren_94 (by decide) ?_
        refine kp_K_P_state hx hb hG hown hK hV hb4 d_K_handOverChildren_95 (fun s4 H locs es4 hV => ?_)
        have hw := hw s4 es4
        obtain ⟨y5, ey5⟩ : ∃ z : Int32, z = v3 + (1 : Int32) := ⟨_, rfl⟩
        have hw := hw y5 ey5
        refine lv_iinc (k := 3) (v := y5) (lv' := [(3, .int y5), (0, .ref (ea E 0 0)), (1, .ref (ea E 1 p1)), (2, .int v2), (4, .ref (ea E 1 b4))]) hx hb d_K_handOverChildren_98 hl rfl (by rw [ey5]; rfl) (by decide) rfl (fun ls hl => ?_)
        refine lv_goto (tgt := 41) hx hb d_K_handOverChildren_101 rfl ?_
        exact hK41 _ _ _ s4 v2 y5 (lv_sub hl [1, 2, 3, 0] rfl) hV hw
  have L41 : ∀ (n : Nat), ∀ (ls : Array Slot) (H : Heap) (locs : List Loc) (s0 : KS) (v2 : Int32) (v3 : Int32), lv_has ls 5 [(0, .ref (ea E 0 0)), (1, .ref (ea E 1 p1)), (2, .int v2), (3, .int v3)] → gV E KK A s0 s H locs → w_K_handOverChildren_41 (eN E) p1 Φ n v2 v3 s0 → W p l e m_K_handOverChildren s m ([.ref (ea E 0 0), .ref (ea E 1 p1)] : List Value).toArray below meth c H locs 0 0 (MQ below (gQv E KK A Φ) ([.ref (ea E 0 0), .ref (ea E 1 p1)] : List Value).toArray s 0 0 A) (F0 m 41 ls []) := by
    intro n
    induction n with
    | zero =>
      intro ls H locs s0 v2 v3 hl hV hw
      exact False.elim hw
    | succ n ih =>
      intro ls H locs s0 v2 v3 hl hV hw
      unfold w_K_handOverChildren_41 at hw
      refine lv_iload_n hx hb d_K_handOverChildren_41 rfl (lv_at hl 3 rfl) ?_
      refine lv_bipush (v := 16) hx hb d_K_handOverChildren_42 (by decide) ?_
      refine lv_icmp_ge (tgt := 104) hx hb d_K_handOverChildren_44 rfl (fun hc => ?_) (fun hc => ?_)
      · have hw := hw.1 hc
        exact kr_v hx hb hr hV hK hX hAe hw d_K_handOverChildren_104
      · have hw := hw.2 hc
        refine lv_aload_n hx hb d_K_handOverChildren_47 rfl (lv_at hl 0 rfl) ?_
        refine kg_K_K_procs hx hb hG hown hK hV d_K_handOverChildren_48 ?_
        refine lv_iload_n hx hb d_K_handOverChildren_51 rfl (lv_at hl 3 rfl) ?_
        have hj1 := vp_lt hw.1
        refine kl_9 hx hb hK hV hw.1 d_K_handOverChildren_52 ?_
        have hw := hw.2
        refine lv_astore (lv' := [(4, .ref (ea E 1 v3.toNatClampNeg)), (0, .ref (ea E 0 0)), (1, .ref (ea E 1 p1)), (2, .int v2), (3, .int v3)]) hx hb d_K_handOverChildren_53 hl (by decide) rfl (fun ls hl => ?_)
        refine lv_aload hx hb d_K_handOverChildren_55 (lv_at hl 0 rfl) ?_
        refine lv_aload_n hx hb d_K_handOverChildren_57 rfl (lv_at hl 2 rfl) ?_
        refine kc_K_P_isChildOf hx hb hml hown hts hV hK hX hAe (c_P_isChildOf l E s0 v3.toNatClampNeg hj1 p1 hp1 _ hw) hj1 hl.1 (Nat.le_of_ble_eq_true rfl) d_K_handOverChildren_58 (Nat.le_of_ble_eq_true rfl) (Nat.le_of_ble_eq_true rfl) (fun r3 s2 H locs hw hV => ?_)
        refine lv_if_eq (tgt := 98) hx hb d_K_handOverChildren_61 rfl (fun hc => ?_) (fun hc => ?_)
        · have hw := hw.1 hc
          obtain ⟨y4, ey4⟩ : ∃ z : Int32, z = v3 + (1 : Int32) := ⟨_, rfl⟩
          have hw := hw y4 ey4
          refine lv_iinc (k := 4) (v := y4) (lv' := [(3, .int y4), (4, .ref (ea E 1 v3.toNatClampNeg)), (0, .ref (ea E 0 0)), (1, .ref (ea E 1 p1)), (2, .int v2)]) hx hb d_K_handOverChildren_98 hl rfl (by rw [ey4]; rfl) (by decide) rfl (fun ls hl => ?_)
          refine lv_goto (tgt := 41) hx hb d_K_handOverChildren_101 rfl ?_
          exact ih _ _ _ s2 v2 y4 (lv_sub hl [2, 3, 4, 0] rfl) hV hw
        · have hw := hw.2 hc
          refine lv_aload hx hb d_K_handOverChildren_64 (lv_at hl 0 rfl) ?_
          refine lv_iload_n hx hb d_K_handOverChildren_66 rfl (lv_at hl 3 rfl) ?_
          refine lv_if_eq (tgt := 74) hx hb d_K_handOverChildren_67 rfl (fun hc => ?_) (fun hc => ?_)
          · have hw := hw.1 hc
            refine lv_iconst (v := -1) hx hb d_K_handOverChildren_74 (by decide) ?_
            exact J75 _ ih _ _ _ s2 v2 v3 v3.toNatClampNeg hj1 (-1 : Int32) v3.toNatClampNeg hj1 (lv_sub hl [1, 2, 3, 4, 0] rfl) hV hw
          · have hw := hw.2 hc
            refine lv_iconst (v := 0) hx hb d_K_handOverChildren_70 (by decide) ?_
            refine lv_goto (tgt := 75) hx hb d_K_handOverChildren_71 rfl ?_
            exact J75 _ ih _ _ _ s2 v2 v3 v3.toNatClampNeg hj1 (0 : Int32) v3.toNatClampNeg hj1 (lv_sub hl [1, 2, 3, 4, 0] rfl) hV hw
  unfold w_K_handOverChildren at hw
  refine lv_aload_n hx hb d_K_handOverChildren_0 rfl (lv_at hl 1 rfl) ?_
  refine kg_K_P_number hx hb hG hown hK hV hp1 d_K_handOverChildren_1 ?_
  refine lv_if_eq (tgt := 37) hx hb d_K_handOverChildren_4 rfl (fun hc => ?_) (fun hc => ?_)
  · have hw := hw.1 hc
    refine lv_iconst (v := 0) hx hb d_K_handOverChildren_37 (by decide) ?_
    refine lv_istore_n (lv' := [(2, .int (0 : Int32)), (0, .ref (ea E 0 0)), (1, .ref (ea E 1 p1))]) hx hb d_K_handOverChildren_38 rfl hl (by decide) rfl (fun ls hl => ?_)
    refine lv_iconst (v := 0) hx hb d_K_handOverChildren_39 (by decide) ?_
    refine lv_istore_n (lv' := [(3, .int (0 : Int32)), (2, .int (0 : Int32)), (0, .ref (ea E 0 0)), (1, .ref (ea E 1 p1))]) hx hb d_K_handOverChildren_40 rfl hl (by decide) rfl (fun ls hl => ?_)
    obtain ⟨nn, hw⟩ := hw
    exact L41 nn _ _ _ s0 (0 : Int32) (0 : Int32) (lv_sub hl [2, 3, 1, 0] rfl) hV hw
  · have hw := hw.2 hc
    refine lv_aload_n hx hb d_K_handOverChildren_7 rfl (lv_at hl 0 rfl) ?_
    refine kg_K_K_procs hx hb hG hown hK hV d_K_handOverChildren_8 ?_
    refine lv_iconst (v := 0) hx hb d_K_handOverChildren_11 (by decide) ?_
    have hj1 := vp_lt hw.1
    refine kl_9 hx hb hK hV hw.1 d_K_handOverChildren_12 ?_
    have hw := hw.2
    refine kg_K_P_state hx hb hG hown hK hV hj1 d_K_handOverChildren_13 ?_
    refine lv_if_eq (tgt := 37) hx hb d_K_handOverChildren_16 rfl (fun hc => ?_) (fun hc => ?_)
    · have hw := hw.1 hc
      refine lv_iconst (v := 0) hx hb d_K_handOverChildren_37 (by decide) ?_
      refine lv_istore_n (lv' := [(2, .int (0 : Int32)), (0, .ref (ea E 0 0)), (1, .ref (ea E 1 p1))]) hx hb d_K_handOverChildren_38 rfl hl (by decide) rfl (fun ls hl => ?_)
      refine lv_iconst (v := 0) hx hb d_K_handOverChildren_39 (by decide) ?_
      refine lv_istore_n (lv' := [(3, .int (0 : Int32)), (2, .int (0 : Int32)), (0, .ref (ea E 0 0)), (1, .ref (ea E 1 p1))]) hx hb d_K_handOverChildren_40 rfl hl (by decide) rfl (fun ls hl => ?_)
      obtain ⟨nn, hw⟩ := hw
      exact L41 nn _ _ _ s0 (0 : Int32) (0 : Int32) (lv_sub hl [2, 3, 1, 0] rfl) hV hw
    · have hw := hw.2 hc
      refine lv_aload_n hx hb d_K_handOverChildren_19 rfl (lv_at hl 0 rfl) ?_
      refine kg_K_K_procs hx hb hG hown hK hV d_K_handOverChildren_20 ?_
      refine lv_iconst (v := 0) hx hb d_K_handOverChildren_23 (by decide) ?_
      have hj2 := vp_lt hw.1
      refine kl_9 hx hb hK hV hw.1 d_K_handOverChildren_24 ?_
      have hw := hw.2
      refine kg_K_P_state hx hb hG hown hK hV hj2 d_K_handOverChildren_25 ?_
      refine lv_bipush (v := 6) hx hb d_K_handOverChildren_28 (by decide) ?_
      refine lv_icmp_eq (tgt := 37) hx hb d_K_handOverChildren_30 rfl (fun hc => ?_) (fun hc => ?_)
      · have hw := hw.1 hc
        refine lv_iconst (v := 0) hx hb d_K_handOverChildren_37 (by decide) ?_
        refine lv_istore_n (lv' := [(2, .int (0 : Int32)), (0, .ref (ea E 0 0)), (1, .ref (ea E 1 p1))]) hx hb d_K_handOverChildren_38 rfl hl (by decide) rfl (fun ls hl => ?_)
        refine lv_iconst (v := 0) hx hb d_K_handOverChildren_39 (by decide) ?_
        refine lv_istore_n (lv' := [(3, .int (0 : Int32)), (2, .int (0 : Int32)), (0, .ref (ea E 0 0)), (1, .ref (ea E 1 p1))]) hx hb d_K_handOverChildren_40 rfl hl (by decide) rfl (fun ls hl => ?_)
        obtain ⟨nn, hw⟩ := hw
        exact L41 nn _ _ _ s0 (0 : Int32) (0 : Int32) (lv_sub hl [2, 3, 1, 0] rfl) hV hw
      · have hw := hw.2 hc
        refine lv_iconst (v := 1) hx hb d_K_handOverChildren_33 (by decide) ?_
        refine lv_goto (tgt := 38) hx hb d_K_handOverChildren_34 rfl ?_
        refine lv_istore_n (lv' := [(2, .int (1 : Int32)), (0, .ref (ea E 0 0)), (1, .ref (ea E 1 p1))]) hx hb d_K_handOverChildren_38 rfl hl (by decide) rfl (fun ls hl => ?_)
        refine lv_iconst (v := 0) hx hb d_K_handOverChildren_39 (by decide) ?_
        refine lv_istore_n (lv' := [(3, .int (0 : Int32)), (2, .int (1 : Int32)), (0, .ref (ea E 0 0)), (1, .ref (ea E 1 p1))]) hx hb d_K_handOverChildren_40 rfl hl (by decide) rfl (fun ls hl => ?_)
        obtain ⟨nn, hw⟩ := hw
        exact L41 nn _ _ _ s0 (1 : Int32) (0 : Int32) (lv_sub hl [2, 3, 1, 0] rfl) hV hw
theorem d_K_longestWaiting_0 : decode b_K_longestWaiting 0 = .ok (.aconst_null, 1) := by decide +kernel
theorem d_K_longestWaiting_1 : decode b_K_longestWaiting 1 = .ok (.astore_n 2, 1) := by decide +kernel
theorem d_K_longestWaiting_2 : decode b_K_longestWaiting 2 = .ok (.iconst 0, 1) := by decide +kernel
theorem d_K_longestWaiting_3 : decode b_K_longestWaiting 3 = .ok (.istore_n 3, 1) := by decide +kernel
theorem d_K_longestWaiting_4 : decode b_K_longestWaiting 4 = .ok (.iload_n 3, 1) := by decide +kernel
theorem d_K_longestWaiting_5 : decode b_K_longestWaiting 5 = .ok (.bipush 16, 2) := by decide +kernel
theorem d_K_longestWaiting_7 : decode b_K_longestWaiting 7 = .ok (.if_icmp .ge 45, 3) := by decide +kernel
theorem d_K_longestWaiting_10 : decode b_K_longestWaiting 10 = .ok (.aload_n 0, 1) := by decide +kernel
theorem d_K_longestWaiting_11 : decode b_K_longestWaiting 11 = .ok (.getfield 11, 3) := by decide +kernel
theorem d_K_longestWaiting_14 : decode b_K_longestWaiting 14 = .ok (.iload_n 3, 1) := by decide +kernel
theorem d_K_longestWaiting_15 : decode b_K_longestWaiting 15 = .ok (.aaload, 1) := by decide +kernel
theorem d_K_longestWaiting_16 : decode b_K_longestWaiting 16 = .ok (.astore 4, 2) := by decide +kernel
theorem d_K_longestWaiting_18 : decode b_K_longestWaiting 18 = .ok (.aload 4, 2) := by decide +kernel
theorem d_K_longestWaiting_20 : decode b_K_longestWaiting 20 = .ok (.getfield 232, 3) := by decide +kernel
theorem d_K_longestWaiting_23 : decode b_K_longestWaiting 23 = .ok (.iload_n 1, 1) := by decide +kernel
theorem d_K_longestWaiting_24 : decode b_K_longestWaiting 24 = .ok (.if_icmp .ne 22, 3) := by decide +kernel
theorem d_K_longestWaiting_27 : decode b_K_longestWaiting 27 = .ok (.aload_n 2, 1) := by decide +kernel
theorem d_K_longestWaiting_28 : decode b_K_longestWaiting 28 = .ok (.ifnull 15, 3) := by decide +kernel
theorem d_K_longestWaiting_31 : decode b_K_longestWaiting 31 = .ok (.aload 4, 2) := by decide +kernel
theorem d_K_longestWaiting_33 : decode b_K_longestWaiting 33 = .ok (.getfield 235, 3) := by decide +kernel
theorem d_K_longestWaiting_36 : decode b_K_longestWaiting 36 = .ok (.aload_n 2, 1) := by decide +kernel
theorem d_K_longestWaiting_37 : decode b_K_longestWaiting 37 = .ok (.getfield 235, 3) := by decide +kernel
theorem d_K_longestWaiting_40 : decode b_K_longestWaiting 40 = .ok (.if_icmp .ge 6, 3) := by decide +kernel
theorem d_K_longestWaiting_43 : decode b_K_longestWaiting 43 = .ok (.aload 4, 2) := by decide +kernel
theorem d_K_longestWaiting_45 : decode b_K_longestWaiting 45 = .ok (.astore_n 2, 1) := by decide +kernel
theorem d_K_longestWaiting_46 : decode b_K_longestWaiting 46 = .ok (.iinc 3 1, 3) := by decide +kernel
theorem d_K_longestWaiting_49 : decode b_K_longestWaiting 49 = .ok (.goto (-45), 3) := by decide +kernel
theorem d_K_longestWaiting_52 : decode b_K_longestWaiting 52 = .ok (.aload_n 2, 1) := by decide +kernel
theorem d_K_longestWaiting_53 : decode b_K_longestWaiting 53 = .ok (.areturn, 1) := by decide +kernel
def w_K_longestWaiting_4 (cp : Nat) (x1 : Int32) (Φ : Option Nat → KS → Prop) : Nat → Option Nat → Int32 → KS → Prop
  | 0, _, _, _ => False
  | n + 1, o2, v3, s0 => (((16 : Int32) ≤ v3 → ((o2 = none → Φ none s0) ∧ (∀ z1 : Nat, o2 = some z1 → Φ (some z1) s0))) ∧ (¬ (16 : Int32) ≤ v3 → vp_in v3 16 ∧ ((¬ (s0 1 v3.toNatClampNeg 10) = x1 → ∀ y3 : Int32, y3 = v3 + (1 : Int32) → w_K_longestWaiting_4 cp x1 Φ n o2 y3 s0) ∧ ((s0 1 v3.toNatClampNeg 10) = x1 → ((o2 = none → ∀ y5 : Int32, y5 = v3 + (1 : Int32) → w_K_longestWaiting_4 cp x1 Φ n (some v3.toNatClampNeg) y5 s0) ∧ (∀ z4 : Nat, o2 = some z4 → (((s0 1 z4 11) ≤ (s0 1 v3.toNatClampNeg 11) → ∀ y6 : Int32, y6 = v3 + (1 : Int32) → w_K_longestWaiting_4 cp x1 Φ n (some z4) y6 s0) ∧ (¬ (s0 1 z4 11) ≤ (s0 1 v3.toNatClampNeg 11) → ∀ y7 : Int32, y7 = v3 + (1 : Int32) → w_K_longestWaiting_4 cp x1 Φ n (some v3.toNatClampNeg) y7 s0))))))))
def w_K_longestWaiting (cp : Nat) (x1 : Int32) (s0 : KS) (Φ : Option Nat → KS → Prop) : Prop := ∃ nn : Nat, w_K_longestWaiting_4 cp x1 Φ nn none (0 : Int32) s0
set_option maxHeartbeats 4000000 in
set_option maxRecDepth 100000 in
theorem c_K_longestWaiting (l : Launch) (E : gE) (s0 : KS) (x1 : Int32) (Φ : Option Nat → KS → Prop) (hw : w_K_longestWaiting (eN E) x1 s0 Φ) : gMq l y_K_longestWaiting v_K_longestWaiting m_K_longestWaiting E KK [.ref (ea E 0 0), .int x1] s0 Φ := by
  intro sz
  refine Met.ofW (cc := b_K_longestWaiting) (maxL := 5) (ret := (some (.object "PipeKernel$Proc"))) (by decide) rfl ?_
  intro p e s m args below meth c s₁ B hml hv
  obtain ⟨rfl, hsz, hP, hK, hD, hX⟩ := hv
  have hx := B.exec
  have hb := B.bytes
  have hr := B.returns
  have hts := atoms_spec (ws := v_K_longestWaiting) B.pre
  have hG : ∀ w ∈ gG, w.before _ s = true := fun w h => hts w (List.mem_cons_of_mem _ h)
  have hown : s.vm.findClass R_K = some m.cls := findClass_of_methodNamed B.named
  have hlocks := B.notSynchronized
  subst hsz
  obtain ⟨A, hAe⟩ : ∃ A, A = gA E KK s.heap.size := ⟨_, rfl⟩
  rw [← hAe] at hD hX ⊢
  have hV : gV E KK A s0 s s.heap [] := ⟨hP, hD, va_S.rf⟩
  have hl := lv_entry ([.ref (ea E 0 0), .int x1] : List Value) (n := 5) (Nat.le_of_ble_eq_true rfl)
  rw [lg_entry_eq]
  generalize (lg_sl ([.ref (ea E 0 0), .int x1] : List Value) ++ List.replicate (5 - (lg_sl ([.ref (ea E 0 0), .int x1] : List Value)).length) Slot.unset).toArray = ls at hl ⊢
  have hl : lv_has ls 5 [(0, .ref (ea E 0 0)), (1, .int x1)] := hl
  have L4 : ∀ (n : Nat), ∀ (ls : Array Slot) (H : Heap) (locs : List Loc) (s0 : KS) (o2 : Option Nat) (ho2 : ∀ z : Nat, o2 = some z → z < 16) (v3 : Int32), lv_has ls 5 [(0, .ref (ea E 0 0)), (1, .int x1), (2, va_rf (Option.map (ea E 1) o2)), (3, .int v3)] → gV E KK A s0 s H locs → w_K_longestWaiting_4 (eN E) x1 Φ n o2 v3 s0 → W p l e m_K_longestWaiting s m ([.ref (ea E 0 0), .int x1] : List Value).toArray below meth c H locs 0 0 (MQ below (gQq E KK A Φ) ([.ref (ea E 0 0), .int x1] : List Value).toArray s 0 0 A) (F0 m 4 ls []) := by
    intro n
    induction n with
    | zero =>
      intro ls H locs s0 o2 ho2 v3 hl hV hw
      exact False.elim hw
    | succ n ih =>
      intro ls H locs s0 o2 ho2 v3 hl hV hw
      unfold w_K_longestWaiting_4 at hw
      refine lv_iload_n hx hb d_K_longestWaiting_4 rfl (lv_at hl 3 rfl) ?_
      refine lv_bipush (v := 16) hx hb d_K_longestWaiting_5 (by decide) ?_
      refine lv_icmp_ge (tgt := 52) hx hb d_K_longestWaiting_7 rfl (fun hc => ?_) (fun hc => ?_)
      · have hw := hw.1 hc
        rcases o2 with _ | z1
        · have hw := hw.1 rfl
          have hl : lv_has ls 5 [(0, .ref (ea E 0 0)), (1, .int x1), (2, .null), (3, .int v3)] := hl
          refine lv_aload_nN hx hb d_K_longestWaiting_52 rfl (lv_at hl 2 rfl) ?_
          exact kr_q (o := none) hx hb hr hV hK hX hAe (fun _ h => by cases h) hw d_K_longestWaiting_53
        · have hw := hw.2 z1 rfl
          have hl : lv_has ls 5 [(0, .ref (ea E 0 0)), (1, .int x1), (2, .ref (ea E 1 z1)), (3, .int v3)] := hl
          refine lv_aload_n hx hb d_K_longestWaiting_52 rfl (lv_at hl 2 rfl) ?_
          exact kr_q (o := (some z1)) hx hb hr hV hK hX hAe (fun z h => by cases h; exact (ho2 z1 rfl)) hw d_K_longestWaiting_53
      · have hw := hw.2 hc
        refine lv_aload_n hx hb d_K_longestWaiting_10 rfl (lv_at hl 0 rfl) ?_
        refine kg_K_K_procs hx hb hG hown hK hV d_K_longestWaiting_11 ?_
        refine lv_iload_n hx hb d_K_longestWaiting_14 rfl (lv_at hl 3 rfl) ?_
        have hj2 := vp_lt hw.1
        refine kl_9 hx hb hK hV hw.1 d_K_longestWaiting_15 ?_
        have hw := hw.2
        refine lv_astore (lv' := [(4, .ref (ea E 1 v3.toNatClampNeg)), (0, .ref (ea E 0 0)), (1, .int x1), (2, va_rf (Option.map (ea E 1) o2)), (3, .int v3)]) hx hb d_K_longestWaiting_16 hl (by decide) rfl (fun ls hl => ?_)
        refine lv_aload hx hb d_K_longestWaiting_18 (lv_at hl 0 rfl) ?_
        refine kg_K_P_waitsOn hx hb hG hown hK hV hj2 d_K_longestWaiting_20 ?_
        refine lv_iload_n hx hb d_K_longestWaiting_23 rfl (lv_at hl 2 rfl) ?_
        refine lv_icmp_ne (tgt := 46) hx hb d_K_longestWaiting_24 rfl (fun hc => ?_) (fun hc => ?_)
        · have hw := hw.1 hc
          obtain ⟨y3, ey3⟩ : ∃ z : Int32, z = v3 + (1 : Int32) := ⟨_, rfl⟩
          have hw := hw y3 ey3
          refine lv_iinc (k := 4) (v := y3) (lv' := [(3, .int y3), (4, .ref (ea E 1 v3.toNatClampNeg)), (0, .ref (ea E 0 0)), (1, .int x1), (2, va_rf (Option.map (ea E 1) o2))]) hx hb d_K_longestWaiting_46 hl rfl (by rw [ey3]; rfl) (by decide) (by rcases o2 with _ | z <;> rfl) (fun ls hl => ?_)
          refine lv_goto (tgt := 4) hx hb d_K_longestWaiting_49 rfl ?_
          exact ih _ _ _ s0 o2 ho2 y3 (lv_sub hl [2, 3, 4, 0] rfl) hV hw
        · have hw := hw.2 hc
          rcases o2 with _ | z4
          · have hw := hw.1 rfl
            have hl : lv_has ls 5 [(4, .ref (ea E 1 v3.toNatClampNeg)), (0, .ref (ea E 0 0)), (1, .int x1), (2, .null), (3, .int v3)] := hl
            refine lv_aload_nN hx hb d_K_longestWaiting_27 rfl (lv_at hl 3 rfl) ?_
            refine lv_ifnullN (tgt := 43) hx hb d_K_longestWaiting_28 rfl ?_
            refine lv_aload hx hb d_K_longestWaiting_43 (lv_at hl 0 rfl) ?_
            refine lv_astore_n (lv' := [(2, .ref (ea E 1 v3.toNatClampNeg)), (4, .ref (ea E 1 v3.toNatClampNeg)), (0, .ref (ea E 0 0)), (1, .int x1), (3, .int v3)]) hx hb d_K_longestWaiting_45 rfl hl (by decide) rfl (fun ls hl => ?_)
            obtain ⟨y5, ey5⟩ : ∃ z : Int32, z = v3 + (1 : Int32) := ⟨_, rfl⟩
            have hw := hw y5 ey5
            refine lv_iinc (k := 4) (v := y5) (lv' := [(3, .int y5), (2, .ref (ea E 1 v3.toNatClampNeg)), (4, .ref (ea E 1 v3.toNatClampNeg)), (0, .ref (ea E 0 0)), (1, .int x1)]) hx hb d_K_longestWaiting_46 hl rfl (by rw [ey5]; rfl) (by decide) rfl (fun ls hl => ?_)
            refine lv_goto (tgt := 4) hx hb d_K_longestWaiting_49 rfl ?_
            exact ih _ _ _ s0 (some v3.toNatClampNeg) (fun z h => by cases h; exact hj2) y5 (lv_sub hl [3, 4, 1, 0] rfl) hV hw
          · have hw := hw.2 z4 rfl
            have hl : lv_has ls 5 [(4, .ref (ea E 1 v3.toNatClampNeg)), (0, .ref (ea E 0 0)), (1, .int x1), (2, .ref (ea E 1 z4)), (3, .int v3)] := hl
            refine lv_aload_n hx hb d_K_longestWaiting_27 rfl (lv_at hl 3 rfl) ?_
            refine lv_ifnull hx hb d_K_longestWaiting_28 ?_
            refine lv_aload hx hb d_K_longestWaiting_31 (lv_at hl 0 rfl) ?_
            refine kg_K_P_waitsSince hx hb hG hown hK hV hj2 d_K_longestWaiting_33 ?_
            refine lv_aload_n hx hb d_K_longestWaiting_36 rfl (lv_at hl 3 rfl) ?_
            refine kg_K_P_waitsSince hx hb hG hown hK hV (ho2 z4 rfl) d_K_longestWaiting_37 ?_
            refine lv_icmp_ge (tgt := 46) hx hb d_K_longestWaiting_40 rfl (fun hc => ?_) (fun hc => ?_)
            · have hw := hw.1 hc
              obtain ⟨y6, ey6⟩ : ∃ z : Int32, z = v3 + (1 : Int32) := ⟨_, rfl⟩
              have hw := hw y6 ey6
              refine lv_iinc (k := 4) (v := y6) (lv' := [(3, .int y6), (4, .ref (ea E 1 v3.toNatClampNeg)), (0, .ref (ea E 0 0)), (1, .int x1), (2, .ref (ea E 1 z4))]) hx hb d_K_longestWaiting_46 hl rfl (by rw [ey6]; rfl) (by decide) rfl (fun ls hl => ?_)
              refine lv_goto (tgt := 4) hx hb d_K_longestWaiting_49 rfl ?_
              exact ih _ _ _ s0 (some z4) (fun z h => by cases h; exact (ho2 z4 rfl)) y6 (lv_sub hl [2, 3, 4, 0] rfl) hV hw
            · have hw := hw.2 hc
              refine lv_aload hx hb d_K_longestWaiting_43 (lv_at hl 0 rfl) ?_
              refine lv_astore_n (lv' := [(2, .ref (ea E 1 v3.toNatClampNeg)), (4, .ref (ea E 1 v3.toNatClampNeg)), (0, .ref (ea E 0 0)), (1, .int x1), (3, .int v3)]) hx hb d_K_longestWaiting_45 rfl hl (by decide) rfl (fun ls hl => ?_)
              obtain ⟨y7, ey7⟩ : ∃ z : Int32, z = v3 + (1 : Int32) := ⟨_, rfl⟩
              have hw := hw y7 ey7
              refine lv_iinc (k := 4) (v := y7) (lv' := [(3, .int y7), (2, .ref (ea E 1 v3.toNatClampNeg)), (4, .ref (ea E 1 v3.toNatClampNeg)), (0, .ref (ea E 0 0)), (1, .int x1)]) hx hb d_K_longestWaiting_46 hl rfl (by rw [ey7]; rfl) (by decide) rfl (fun ls hl => ?_)
              refine lv_goto (tgt := 4) hx hb d_K_longestWaiting_49 rfl ?_
              exact ih _ _ _ s0 (some v3.toNatClampNeg) (fun z h => by cases h; exact hj2) y7 (lv_sub hl [3, 4, 1, 0] rfl) hV hw
  unfold w_K_longestWaiting at hw
  refine lv_null hx hb d_K_longestWaiting_0 ?_
  refine lv_astore_nN (lv' := [(2, .null), (0, .ref (ea E 0 0)), (1, .int x1)]) hx hb d_K_longestWaiting_1 rfl hl (by decide) rfl (fun ls hl => ?_)
  refine lv_iconst (v := 0) hx hb d_K_longestWaiting_2 (by decide) ?_
  refine lv_istore_n (lv' := [(3, .int (0 : Int32)), (2, .null), (0, .ref (ea E 0 0)), (1, .int x1)]) hx hb d_K_longestWaiting_3 rfl hl (by decide) rfl (fun ls hl => ?_)
  obtain ⟨nn, hw⟩ := hw
  exact L4 nn _ _ _ s0 none (fun _ h => by cases h) (0 : Int32) (lv_sub hl [2, 3, 1, 0] rfl) hV hw
theorem d_K_wakeAll_0 : decode b_K_wakeAll 0 = .ok (.iconst 0, 1) := by decide +kernel
theorem d_K_wakeAll_1 : decode b_K_wakeAll 1 = .ok (.istore_n 2, 1) := by decide +kernel
theorem d_K_wakeAll_2 : decode b_K_wakeAll 2 = .ok (.iload_n 2, 1) := by decide +kernel
theorem d_K_wakeAll_3 : decode b_K_wakeAll 3 = .ok (.bipush 16, 2) := by decide +kernel
theorem d_K_wakeAll_5 : decode b_K_wakeAll 5 = .ok (.if_icmp .ge 25, 3) := by decide +kernel
theorem d_K_wakeAll_8 : decode b_K_wakeAll 8 = .ok (.aload_n 0, 1) := by decide +kernel
theorem d_K_wakeAll_9 : decode b_K_wakeAll 9 = .ok (.iload_n 1, 1) := by decide +kernel
theorem d_K_wakeAll_10 : decode b_K_wakeAll 10 = .ok (.invokevirtual 342, 3) := by decide +kernel
theorem d_K_wakeAll_13 : decode b_K_wakeAll 13 = .ok (.astore_n 3, 1) := by decide +kernel
theorem d_K_wakeAll_14 : decode b_K_wakeAll 14 = .ok (.aload_n 3, 1) := by decide +kernel
theorem d_K_wakeAll_15 : decode b_K_wakeAll 15 = .ok (.ifnonnull 4, 3) := by decide +kernel
theorem d_K_wakeAll_18 : decode b_K_wakeAll 18 = .ok (.return_, 1) := by decide +kernel
theorem d_K_wakeAll_19 : decode b_K_wakeAll 19 = .ok (.aload_n 0, 1) := by decide +kernel
theorem d_K_wakeAll_20 : decode b_K_wakeAll 20 = .ok (.aload_n 3, 1) := by decide +kernel
theorem d_K_wakeAll_21 : decode b_K_wakeAll 21 = .ok (.invokevirtual 92, 3) := by decide +kernel
theorem d_K_wakeAll_24 : decode b_K_wakeAll 24 = .ok (.iinc 2 1, 3) := by decide +kernel
theorem d_K_wakeAll_27 : decode b_K_wakeAll 27 = .ok (.goto (-25), 3) := by decide +kernel
theorem d_K_wakeAll_30 : decode b_K_wakeAll 30 = .ok (.return_, 1) := by decide +kernel
def w_K_wakeAll_2 (cp : Nat) (x1 : Int32) (Φ : KS → Prop) : Nat → Int32 → KS → Prop
  | 0, _, _ => False
  | n + 1, v2, s0 => (((16 : Int32) ≤ v2 → Φ s0) ∧ (¬ (16 : Int32) ≤ v2 → w_K_longestWaiting cp x1 s0 (fun o2 s1 => ((o2 = none → Φ s1) ∧ (∀ z3 : Nat, o2 = some z3 → w_K_makeReady cp z3 s1 (fun s4 => ∀ y5 : Int32, y5 = v2 + (1 : Int32) → w_K_wakeAll_2 cp x1 Φ n y5 s4))))))
def w_K_wakeAll (cp : Nat) (x1 : Int32) (s0 : KS) (Φ : KS → Prop) : Prop := ∃ nn : Nat, w_K_wakeAll_2 cp x1 Φ nn (0 : Int32) s0
set_option maxHeartbeats 4000000 in
set_option maxRecDepth 100000 in
theorem c_K_wakeAll (l : Launch) (E : gE) (s0 : KS) (x1 : Int32) (Φ : KS → Prop) (hw : w_K_wakeAll (eN E) x1 s0 Φ) : gMv l y_K_wakeAll v_K_wakeAll m_K_wakeAll E KK [.ref (ea E 0 0), .int x1] s0 Φ := by
  intro sz
  refine Met.ofW (cc := b_K_wakeAll) (maxL := 4) (ret := none) (by decide) rfl ?_
  intro p e s m args below meth c s₁ B hml hv
  obtain ⟨rfl, hsz, hP, hK, hD, hX⟩ := hv
  have hx := B.exec
  have hb := B.bytes
  have hr := B.returns
  have hts := atoms_spec (ws := v_K_wakeAll) B.pre
  have hG : ∀ w ∈ gG, w.before _ s = true := fun w h => hts w (List.mem_cons_of_mem _ h)
  have hown : s.vm.findClass R_K = some m.cls := findClass_of_methodNamed B.named
  have hlocks := B.notSynchronized
  subst hsz
  obtain ⟨A, hAe⟩ : ∃ A, A = gA E KK s.heap.size := ⟨_, rfl⟩
  rw [← hAe] at hD hX ⊢
  have hV : gV E KK A s0 s s.heap [] := ⟨hP, hD, va_S.rf⟩
  have hl := lv_entry ([.ref (ea E 0 0), .int x1] : List Value) (n := 4) (Nat.le_of_ble_eq_true rfl)
  rw [lg_entry_eq]
  generalize (lg_sl ([.ref (ea E 0 0), .int x1] : List Value) ++ List.replicate (4 - (lg_sl ([.ref (ea E 0 0), .int x1] : List Value)).length) Slot.unset).toArray = ls at hl ⊢
  have hl : lv_has ls 4 [(0, .ref (ea E 0 0)), (1, .int x1)] := hl
  have L2 : ∀ (n : Nat), ∀ (ls : Array Slot) (H : Heap) (locs : List Loc) (s0 : KS) (v2 : Int32), lv_has ls 4 [(0, .ref (ea E 0 0)), (1, .int x1), (2, .int v2)] → gV E KK A s0 s H locs → w_K_wakeAll_2 (eN E) x1 Φ n v2 s0 → W p l e m_K_wakeAll s m ([.ref (ea E 0 0), .int x1] : List Value).toArray below meth c H locs 0 0 (MQ below (gQv E KK A Φ) ([.ref (ea E 0 0), .int x1] : List Value).toArray s 0 0 A) (F0 m 2 ls []) := by
    intro n
    induction n with
    | zero =>
      intro ls H locs s0 v2 hl hV hw
      exact False.elim hw
    | succ n ih =>
      intro ls H locs s0 v2 hl hV hw
      unfold w_K_wakeAll_2 at hw
      refine lv_iload_n hx hb d_K_wakeAll_2 rfl (lv_at hl 2 rfl) ?_
      refine lv_bipush (v := 16) hx hb d_K_wakeAll_3 (by decide) ?_
      refine lv_icmp_ge (tgt := 30) hx hb d_K_wakeAll_5 rfl (fun hc => ?_) (fun hc => ?_)
      · have hw := hw.1 hc
        exact kr_v hx hb hr hV hK hX hAe hw d_K_wakeAll_30
      · have hw := hw.2 hc
        refine lv_aload_n hx hb d_K_wakeAll_8 rfl (lv_at hl 0 rfl) ?_
        refine lv_iload_n hx hb d_K_wakeAll_9 rfl (lv_at hl 1 rfl) ?_
        refine kc_K_K_longestWaiting hx hb hml hown hts hV hK hX hAe (c_K_longestWaiting l E s0 x1 _ hw) hl.1 (Nat.le_of_ble_eq_true rfl) d_K_wakeAll_10 (Nat.le_of_ble_eq_true rfl) (Nat.le_of_ble_eq_true rfl) (fun o2 s1 H locs ho2 hw hV => ?_)
        rcases o2 with _ | z3
        · have hw := hw.1 rfl
          have hl : lv_has ls 4 [(0, .ref (ea E 0 0)), (1, .int x1), (2, .int v2)] := hl
          show W _ _ _ _ _ _ _ _ _ _ _ _ _ _ _ (F0 m 13 ls [.null])
          refine lv_astore_nN (lv' := [(3, .null), (0, .ref (ea E 0 0)), (1, .int x1), (2, .int v2)]) hx hb d_K_wakeAll_13 rfl hl (by decide) rfl (fun ls hl => ?_)
          refine lv_aload_nN hx hb d_K_wakeAll_14 rfl (lv_at hl 0 rfl) ?_
          refine lv_ifnonnullN hx hb d_K_wakeAll_15 ?_
          exact kr_v hx hb hr hV hK hX hAe hw d_K_wakeAll_18
        · have hw := hw.2 z3 rfl
          have hl : lv_has ls 4 [(0, .ref (ea E 0 0)), (1, .int x1), (2, .int v2)] := hl
          show W _ _ _ _ _ _ _ _ _ _ _ _ _ _ _ (F0 m 13 ls [.ref (ea E 1 z3)])
          refine lv_astore_n (lv' := [(3, .ref (ea E 1 z3)), (0, .ref (ea E 0 0)), (1, .int x1), (2, .int v2)]) hx hb d_K_wakeAll_13 rfl hl (by decide) rfl (fun ls hl => ?_)
          refine lv_aload_n hx hb d_K_wakeAll_14 rfl (lv_at hl 0 rfl) ?_
          refine lv_ifnonnull (tgt := 19) hx hb d_K_wakeAll_15 rfl ?_
          refine lv_aload_n hx hb d_K_wakeAll_19 rfl (lv_at hl 1 rfl) ?_
          refine lv_aload_n hx hb d_K_wakeAll_20 rfl (lv_at hl 0 rfl) ?_
          refine kc_K_K_makeReady hx hb hml hown hts hV hK hX hAe (c_K_makeReady l E s1 z3 (ho2 z3 rfl) _ hw) hl.1 (Nat.le_of_ble_eq_true rfl) d_K_wakeAll_21 (Nat.le_of_ble_eq_true rfl) (Nat.le_of_ble_eq_true rfl) (fun s4 H locs hw hV => ?_)
          obtain ⟨y5, ey5⟩ : ∃ z : Int32, z = v2 + (1 : Int32) := ⟨_, rfl⟩
          have hw := hw y5 ey5
          refine lv_iinc (k := 3) (v := y5) (lv' := [(2, .int y5), (3, .ref (ea E 1 z3)), (0, .ref (ea E 0 0)), (1, .int x1)]) hx hb d_K_wakeAll_24 hl rfl (by rw [ey5]; rfl) (by decide) rfl (fun ls hl => ?_)
          refine lv_goto (tgt := 2) hx hb d_K_wakeAll_27 rfl ?_
          exact ih _ _ _ s4 y5 (lv_sub hl [2, 3, 0] rfl) hV hw
  unfold w_K_wakeAll at hw
  refine lv_iconst (v := 0) hx hb d_K_wakeAll_0 (by decide) ?_
  refine lv_istore_n (lv' := [(2, .int (0 : Int32)), (0, .ref (ea E 0 0)), (1, .int x1)]) hx hb d_K_wakeAll_1 rfl hl (by decide) rfl (fun ls hl => ?_)
  obtain ⟨nn, hw⟩ := hw
  exact L2 nn _ _ _ s0 (0 : Int32) (lv_sub hl [1, 2, 0] rfl) hV hw
theorem d_K_end_0 : decode b_K_end 0 = .ok (.aload_n 0, 1) := by decide +kernel
theorem d_K_end_1 : decode b_K_end 1 = .ok (.aload_n 1, 1) := by decide +kernel
theorem d_K_end_2 : decode b_K_end 2 = .ok (.invokevirtual 229, 3) := by decide +kernel
theorem d_K_end_5 : decode b_K_end 5 = .ok (.aload_n 1, 1) := by decide +kernel
theorem d_K_end_6 : decode b_K_end 6 = .ok (.iconst (-1), 1) := by decide +kernel
theorem d_K_end_7 : decode b_K_end 7 = .ok (.putfield 232, 3) := by decide +kernel
theorem d_K_end_10 : decode b_K_end 10 = .ok (.aload_n 1, 1) := by decide +kernel
theorem d_K_end_11 : decode b_K_end 11 = .ok (.bipush 6, 2) := by decide +kernel
theorem d_K_end_13 : decode b_K_end 13 = .ok (.putfield 127, 3) := by decide +kernel
theorem d_K_end_16 : decode b_K_end 16 = .ok (.aload_n 1, 1) := by decide +kernel
theorem d_K_end_17 : decode b_K_end 17 = .ok (.iload_n 2, 1) := by decide +kernel
theorem d_K_end_18 : decode b_K_end 18 = .ok (.putfield 143, 3) := by decide +kernel
theorem d_K_end_21 : decode b_K_end 21 = .ok (.iconst 0, 1) := by decide +kernel
theorem d_K_end_22 : decode b_K_end 22 = .ok (.istore_n 3, 1) := by decide +kernel
theorem d_K_end_23 : decode b_K_end 23 = .ok (.iload_n 3, 1) := by decide +kernel
theorem d_K_end_24 : decode b_K_end 24 = .ok (.bipush 8, 2) := by decide +kernel
theorem d_K_end_26 : decode b_K_end 26 = .ok (.if_icmp .ge 19, 3) := by decide +kernel
theorem d_K_end_29 : decode b_K_end 29 = .ok (.aload_n 0, 1) := by decide +kernel
theorem d_K_end_30 : decode b_K_end 30 = .ok (.aload_n 0, 1) := by decide +kernel
theorem d_K_end_31 : decode b_K_end 31 = .ok (.aload_n 1, 1) := by decide +kernel
theorem d_K_end_32 : decode b_K_end 32 = .ok (.iload_n 3, 1) := by decide +kernel
theorem d_K_end_33 : decode b_K_end 33 = .ok (.invokevirtual 332, 3) := by decide +kernel
theorem d_K_end_36 : decode b_K_end 36 = .ok (.invokevirtual 122, 3) := by decide +kernel
theorem d_K_end_39 : decode b_K_end 39 = .ok (.iinc 3 1, 3) := by decide +kernel
theorem d_K_end_42 : decode b_K_end 42 = .ok (.goto (-19), 3) := by decide +kernel
theorem d_K_end_45 : decode b_K_end 45 = .ok (.aload_n 0, 1) := by decide +kernel
theorem d_K_end_46 : decode b_K_end 46 = .ok (.aload_n 1, 1) := by decide +kernel
theorem d_K_end_47 : decode b_K_end 47 = .ok (.invokevirtual 339, 3) := by decide +kernel
theorem d_K_end_50 : decode b_K_end 50 = .ok (.aload_n 1, 1) := by decide +kernel
theorem d_K_end_51 : decode b_K_end 51 = .ok (.getfield 140, 3) := by decide +kernel
theorem d_K_end_54 : decode b_K_end 54 = .ok (.iconst (-1), 1) := by decide +kernel
theorem d_K_end_55 : decode b_K_end 55 = .ok (.if_icmp .ne 11, 3) := by decide +kernel
theorem d_K_end_58 : decode b_K_end 58 = .ok (.aload_n 1, 1) := by decide +kernel
theorem d_K_end_59 : decode b_K_end 59 = .ok (.iconst 0, 1) := by decide +kernel
theorem d_K_end_60 : decode b_K_end 60 = .ok (.putfield 127, 3) := by decide +kernel
theorem d_K_end_63 : decode b_K_end 63 = .ok (.goto 32, 3) := by decide +kernel
theorem d_K_end_66 : decode b_K_end 66 = .ok (.aload_n 0, 1) := by decide +kernel
theorem d_K_end_67 : decode b_K_end 67 = .ok (.getfield 11, 3) := by decide +kernel
theorem d_K_end_70 : decode b_K_end 70 = .ok (.aload_n 1, 1) := by decide +kernel
theorem d_K_end_71 : decode b_K_end 71 = .ok (.getfield 140, 3) := by decide +kernel
theorem d_K_end_74 : decode b_K_end 74 = .ok (.aaload, 1) := by decide +kernel
theorem d_K_end_75 : decode b_K_end 75 = .ok (.getfield 127, 3) := by decide +kernel
theorem d_K_end_78 : decode b_K_end 78 = .ok (.iconst 4, 1) := by decide +kernel
theorem d_K_end_79 : decode b_K_end 79 = .ok (.if_icmp .ne 16, 3) := by decide +kernel
theorem d_K_end_82 : decode b_K_end 82 = .ok (.aload_n 0, 1) := by decide +kernel
theorem d_K_end_83 : decode b_K_end 83 = .ok (.aload_n 0, 1) := by decide +kernel
theorem d_K_end_84 : decode b_K_end 84 = .ok (.getfield 11, 3) := by decide +kernel
theorem d_K_end_87 : decode b_K_end 87 = .ok (.aload_n 1, 1) := by decide +kernel
theorem d_K_end_88 : decode b_K_end 88 = .ok (.getfield 140, 3) := by decide +kernel
theorem d_K_end_91 : decode b_K_end 91 = .ok (.aaload, 1) := by decide +kernel
theorem d_K_end_92 : decode b_K_end 92 = .ok (.invokevirtual 92, 3) := by decide +kernel
theorem d_K_end_95 : decode b_K_end 95 = .ok (.aload_n 0, 1) := by decide +kernel
theorem d_K_end_96 : decode b_K_end 96 = .ok (.getfield 11, 3) := by decide +kernel
theorem d_K_end_99 : decode b_K_end 99 = .ok (.iconst 0, 1) := by decide +kernel
theorem d_K_end_100 : decode b_K_end 100 = .ok (.aaload, 1) := by decide +kernel
theorem d_K_end_101 : decode b_K_end 101 = .ok (.getfield 127, 3) := by decide +kernel
theorem d_K_end_104 : decode b_K_end 104 = .ok (.iconst 4, 1) := by decide +kernel
theorem d_K_end_105 : decode b_K_end 105 = .ok (.if_icmp .ne 26, 3) := by decide +kernel
theorem d_K_end_108 : decode b_K_end 108 = .ok (.aload_n 0, 1) := by decide +kernel
theorem d_K_end_109 : decode b_K_end 109 = .ok (.aload_n 0, 1) := by decide +kernel
theorem d_K_end_110 : decode b_K_end 110 = .ok (.getfield 11, 3) := by decide +kernel
theorem d_K_end_113 : decode b_K_end 113 = .ok (.iconst 0, 1) := by decide +kernel
theorem d_K_end_114 : decode b_K_end 114 = .ok (.aaload, 1) := by decide +kernel
theorem d_K_end_115 : decode b_K_end 115 = .ok (.invokevirtual 225, 3) := by decide +kernel
theorem d_K_end_118 : decode b_K_end 118 = .ok (.ifnull 13, 3) := by decide +kernel
theorem d_K_end_121 : decode b_K_end 121 = .ok (.aload_n 0, 1) := by decide +kernel
theorem d_K_end_122 : decode b_K_end 122 = .ok (.aload_n 0, 1) := by decide +kernel
theorem d_K_end_123 : decode b_K_end 123 = .ok (.getfield 11, 3) := by decide +kernel
theorem d_K_end_126 : decode b_K_end 126 = .ok (.iconst 0, 1) := by decide +kernel
theorem d_K_end_127 : decode b_K_end 127 = .ok (.aaload, 1) := by decide +kernel
theorem d_K_end_128 : decode b_K_end 128 = .ok (.invokevirtual 92, 3) := by decide +kernel
theorem d_K_end_131 : decode b_K_end 131 = .ok (.return_, 1) := by decide +kernel
def w_K_end_95 (cp : Nat) (p1 : Nat) (x2 : Int32) (Φ : KS → Prop) (s0 : KS) : Prop := vp_in (0 : Int32) 16 ∧ ((¬ (s0 1 ((0 : Int32).toNatClampNeg) 7) = (4 : Int32) → Φ s0) ∧ ((s0 1 ((0 : Int32).toNatClampNeg) 7) = (4 : Int32) → vp_in (0 : Int32) 16 ∧ w_K_endedChild cp ((0 : Int32).toNatClampNeg) s0 (fun o4 s3 => ((o4 = none → Φ s3) ∧ (∀ z5 : Nat, o4 = some z5 → vp_in (0 : Int32) 16 ∧ w_K_makeReady cp ((0 : Int32).toNatClampNeg) s3 (fun s7 => Φ s7))))))
def w_K_end_23 (cp : Nat) (p1 : Nat) (x2 : Int32) (Φ : KS → Prop) : Nat → Int32 → KS → Prop
  | 0, _, _ => False
  | n + 1, v3, s0 => (((8 : Int32) ≤ v3 → w_K_handOverChildren cp p1 s0 (fun s1 => ((¬ (s1 1 p1 6) = (-1 : Int32) → vp_in (s1 1 p1 6) 16 ∧ ((¬ (s1 1 ((s1 1 p1 6).toNatClampNeg) 7) = (4 : Int32) → w_K_end_95 cp p1 x2 Φ s1) ∧ ((s1 1 ((s1 1 p1 6).toNatClampNeg) 7) = (4 : Int32) → vp_in (s1 1 p1 6) 16 ∧ w_K_makeReady cp ((s1 1 p1 6).toNatClampNeg) s1 (fun s4 => w_K_end_95 cp p1 x2 Φ s4)))) ∧ ((s1 1 p1 6) = (-1 : Int32) → ∀ s5 : KS, s5 = w3 s1 1 p1 7 (0 : Int32) → w_K_end_95 cp p1 x2 Φ s5)))) ∧ (¬ (8 : Int32) ≤ v3 → w_K_closeDescriptor cp p1 v3 s0 (fun r7 s6 => w_K_wakeAll cp r7 s6 (fun s8 => ∀ y9 : Int32, y9 = v3 + (1 : Int32) → w_K_end_23 cp p1 x2 Φ n y9 s8))))
def w_K_end (cp : Nat) (p1 : Nat) (x2 : Int32) (s0 : KS) (Φ : KS → Prop) : Prop := w_K_leaveQueue cp p1 s0 (fun s1 => ∀ s2 : KS, s2 = w3 s1 1 p1 10 (-1 : Int32) → ∀ s3 : KS, s3 = w3 s2 1 p1 7 (6 : Int32) → ∀ s4 : KS, s4 = w3 s3 1 p1 8 x2 → ∃ nn : Nat, w_K_end_23 cp p1 x2 Φ nn (0 : Int32) s4)
set_option maxHeartbeats 4000000 in
set_option maxRecDepth 100000 in
theorem c_K_end (l : Launch) (E : gE) (s0 : KS) (p1 : Nat) (hp1 : p1 < 16) (x2 : Int32) (Φ : KS → Prop) (hw : w_K_end (eN E) p1 x2 s0 Φ) : gMv l y_K_end v_K_end m_K_end E KK [.ref (ea E 0 0), .ref (ea E 1 p1), .int x2] s0 Φ := by
  intro sz
  refine Met.ofW (cc := b_K_end) (maxL := 4) (ret := none) (by decide) rfl ?_
  intro p e s m args below meth c s₁ B hml hv
  obtain ⟨rfl, hsz, hP, hK, hD, hX⟩ := hv
  have hx := B.exec
  have hb := B.bytes
  have hr := B.returns
  have hts := atoms_spec (ws := v_K_end) B.pre
  have hG : ∀ w ∈ gG, w.before _ s = true := fun w h => hts w (List.mem_cons_of_mem _ h)
  have hown : s.vm.findClass R_K = some m.cls := findClass_of_methodNamed B.named
  have hlocks := B.notSynchronized
  subst hsz
  obtain ⟨A, hAe⟩ : ∃ A, A = gA E KK s.heap.size := ⟨_, rfl⟩
  rw [← hAe] at hD hX ⊢
  have hV : gV E KK A s0 s s.heap [] := ⟨hP, hD, va_S.rf⟩
  have hl := lv_entry ([.ref (ea E 0 0), .ref (ea E 1 p1), .int x2] : List Value) (n := 4) (Nat.le_of_ble_eq_true rfl)
  rw [lg_entry_eq]
  generalize (lg_sl ([.ref (ea E 0 0), .ref (ea E 1 p1), .int x2] : List Value) ++ List.replicate (4 - (lg_sl ([.ref (ea E 0 0), .ref (ea E 1 p1), .int x2] : List Value)).length) Slot.unset).toArray = ls at hl ⊢
  have hl : lv_has ls 4 [(0, .ref (ea E 0 0)), (1, .ref (ea E 1 p1)), (2, .int x2)] := hl
  have J95 : ∀ (ls : Array Slot) (H : Heap) (locs : List Loc) (s0 : KS), lv_has ls 4 [(0, .ref (ea E 0 0))] → gV E KK A s0 s H locs → w_K_end_95 (eN E) p1 x2 Φ s0 → W p l e m_K_end s m ([.ref (ea E 0 0), .ref (ea E 1 p1), .int x2] : List Value).toArray below meth c H locs 0 0 (MQ below (gQv E KK A Φ) ([.ref (ea E 0 0), .ref (ea E 1 p1), .int x2] : List Value).toArray s 0 0 A) (F0 m 95 ls []) := by
    intro  ls H locs s0 hl hV hw
    unfold w_K_end_95 at hw
    refine lv_aload_n hx hb d_K_end_95 rfl (lv_at hl 0 rfl) ?_
    refine kg_K_K_procs hx hb hG hown hK hV d_K_end_96 ?_
    refine lv_iconst (v := 0) hx hb d_K_end_99 (by decide) ?_
    have hj1 := vp_lt hw.1
    refine kl_9 hx hb hK hV hw.1 d_K_end_100 ?_
    have hw := hw.2
    refine kg_K_P_state hx hb hG hown hK hV hj1 d_K_end_101 ?_
    refine lv_iconst (v := 4) hx hb d_K_end_104 (by decide) ?_
    refine lv_icmp_ne (tgt := 131) hx hb d_K_end_105 rfl (fun hc => ?_) (fun hc => ?_)
    · have hw := hw.1 hc
      exact kr_v hx hb hr hV hK hX hAe hw d_K_end_131
    · have hw := hw.2 hc
      refine lv_aload_n hx hb d_K_end_108 rfl (lv_at hl 0 rfl) ?_
      refine lv_aload_n hx hb d_K_end_109 rfl (lv_at hl 0 rfl) ?_
      refine kg_K_K_procs hx hb hG hown hK hV d_K_end_110 ?_
      refine lv_iconst (v := 0) hx hb d_K_end_113 (by decide) ?_
      have hj2 := vp_lt hw.1
      refine kl_9 hx hb hK hV hw.1 d_K_end_114 ?_
      have hw := hw.2
      refine kc_K_K_endedChild hx hb hml hown hts hV hK hX hAe (c_K_endedChild l E s0 ((0 : Int32).toNatClampNeg) hj2 _ hw) hl.1 (Nat.le_of_ble_eq_true rfl) d_K_end_115 (Nat.le_of_ble_eq_true rfl) (Nat.le_of_ble_eq_true rfl) (fun o4 s3 H locs ho4 hw hV => ?_)
      rcases o4 with _ | z5
      · have hw := hw.1 rfl
        have hl : lv_has ls 4 [(0, .ref (ea E 0 0))] := hl
        show W _ _ _ _ _ _ _ _ _ _ _ _ _ _ _ (F0 m 118 ls [.null])
        refine lv_ifnullN (tgt := 131) hx hb d_K_end_118 rfl ?_
        exact kr_v hx hb hr hV hK hX hAe hw d_K_end_131
      · have hw := hw.2 z5 rfl
        have hl : lv_has ls 4 [(0, .ref (ea E 0 0))] := hl
        show W _ _ _ _ _ _ _ _ _ _ _ _ _ _ _ (F0 m 118 ls [.ref (ea E 1 z5)])
        refine lv_ifnull hx hb d_K_end_118 ?_
        refine lv_aload_n hx hb d_K_end_121 rfl (lv_at hl 0 rfl) ?_
        refine lv_aload_n hx hb d_K_end_122 rfl (lv_at hl 0 rfl) ?_
        refine kg_K_K_procs hx hb hG hown hK hV d_K_end_123 ?_
        refine lv_iconst (v := 0) hx hb d_K_end_126 (by decide) ?_
        have hj6 := vp_lt hw.1
        refine kl_9 hx hb hK hV hw.1 d_K_end_127 ?_
        have hw := hw.2
        refine kc_K_K_makeReady hx hb hml hown hts hV hK hX hAe (c_K_makeReady l E s3 ((0 : Int32).toNatClampNeg) hj6 _ hw) hl.1 (Nat.le_of_ble_eq_true rfl) d_K_end_128 (Nat.le_of_ble_eq_true rfl) (Nat.le_of_ble_eq_true rfl) (fun s7 H locs hw hV => ?_)
        exact kr_v hx hb hr hV hK hX hAe hw d_K_end_131
  have L23 : ∀ (n : Nat), ∀ (ls : Array Slot) (H : Heap) (locs : List Loc) (s0 : KS) (v3 : Int32), lv_has ls 4 [(0, .ref (ea E 0 0)), (1, .ref (ea E 1 p1)), (3, .int v3)] → gV E KK A s0 s H locs → w_K_end_23 (eN E) p1 x2 Φ n v3 s0 → W p l e m_K_end s m ([.ref (ea E 0 0), .ref (ea E 1 p1), .int x2] : List Value).toArray below meth c H locs 0 0 (MQ below (gQv E KK A Φ) ([.ref (ea E 0 0), .ref (ea E 1 p1), .int x2] : List Value).toArray s 0 0 A) (F0 m 23 ls []) := by
    intro n
    induction n with
    | zero =>
      intro ls H locs s0 v3 hl hV hw
      exact False.elim hw
    | succ n ih =>
      intro ls H locs s0 v3 hl hV hw
      unfold w_K_end_23 at hw
      refine lv_iload_n hx hb d_K_end_23 rfl (lv_at hl 2 rfl) ?_
      refine lv_bipush (v := 8) hx hb d_K_end_24 (by decide) ?_
      refine lv_icmp_ge (tgt := 45) hx hb d_K_end_26 rfl (fun hc => ?_) (fun hc => ?_)
      · have hw := hw.1 hc
        refine lv_aload_n hx hb d_K_end_45 rfl (lv_at hl 0 rfl) ?_
        refine lv_aload_n hx hb d_K_end_46 rfl (lv_at hl 1 rfl) ?_
        refine kc_K_K_handOverChildren hx hb hml hown hts hV hK hX hAe (c_K_handOverChildren l E s0 p1 hp1 _ hw) hl.1 (Nat.le_of_ble_eq_true rfl) d_K_end_47 (Nat.le_of_ble_eq_true rfl) (Nat.le_of_ble_eq_true rfl) (fun s1 H locs hw hV => ?_)
        refine lv_aload_n hx hb d_K_end_50 rfl (lv_at hl 1 rfl) ?_
        refine kg_K_P_parent hx hb hG hown hK hV hp1 d_K_end_51 ?_
        refine lv_iconst (v := -1) hx hb d_K_end_54 (by decide) ?_
        refine lv_icmp_ne (tgt := 66) hx hb d_K_end_55 rfl (fun hc => ?_) (fun hc => ?_)
        · have hw := hw.1 hc
          refine lv_aload_n hx hb d_K_end_66 rfl (lv_at hl 0 rfl) ?_
          refine kg_K_K_procs hx hb hG hown hK hV d_K_end_67 ?_
          refine lv_aload_n hx hb d_K_end_70 rfl (lv_at hl 1 rfl) ?_
          refine kg_K_P_parent hx hb hG hown hK hV hp1 d_K_end_71 ?_
          have hj2 := vp_lt hw.1
          refine kl_9 hx hb hK hV hw.1 d_K_end_74 ?_
          have hw := hw.2
          refine kg_K_P_state hx hb hG hown hK hV hj2 d_K_end_75 ?_
          refine lv_iconst (v := 4) hx hb d_K_end_78 (by decide) ?_
          refine lv_icmp_ne (tgt := 95) hx hb d_K_end_79 rfl (fun hc => ?_) (fun hc => ?_)
          · have hw := hw.1 hc
            exact J95 _ _ _ s1 (lv_sub hl [0] rfl) hV hw
          · have hw := hw.2 hc
            refine lv_aload_n hx hb d_K_end_82 rfl (lv_at hl 0 rfl) ?_
            refine lv_aload_n hx hb d_K_end_83 rfl (lv_at hl 0 rfl) ?_
            refine kg_K_K_procs hx hb hG hown hK hV d_K_end_84 ?_
            refine lv_aload_n hx hb d_K_end_87 rfl (lv_at hl 1 rfl) ?_
            refine kg_K_P_parent hx hb hG hown hK hV hp1 d_K_end_88 ?_
            have hj3 := vp_lt hw.1
            refine kl_9 hx hb hK hV hw.1 d_K_end_91 ?_
            have hw := hw.2
            refine kc_K_K_makeReady hx hb hml hown hts hV hK hX hAe (c_K_makeReady l E s1 ((s1 1 p1 6).toNatClampNeg) hj3 _ hw) hl.1 (Nat.le_of_ble_eq_true rfl) d_K_end_92 (Nat.le_of_ble_eq_true rfl) (Nat.le_of_ble_eq_true rfl) (fun s4 H locs hw hV => ?_)
            exact J95 _ _ _ s4 (lv_sub hl [0] rfl) hV hw
        · have hw := hw.2 hc
          refine lv_aload_n hx hb d_K_end_58 rfl (lv_at hl 1 rfl) ?_
          refine lv_iconst (v := 0) hx hb d_K_end_59 (by decide) ?_
          refine kp_K_P_state hx hb hG hown hK hV hp1 d_K_end_60 (fun s5 H locs es5 hV => ?_)
          have hw := hw s5 es5
          refine lv_goto (tgt := 95) hx hb d_K_end_63 rfl ?_
          exact J95 _ _ _ s5 (lv_sub hl [0] rfl) hV hw
      · have hw := hw.2 hc
        refine lv_aload_n hx hb d_K_end_29 rfl (lv_at hl 0 rfl) ?_
        refine lv_aload_n hx hb d_K_end_30 rfl (lv_at hl 0 rfl) ?_
        refine lv_aload_n hx hb d_K_end_31 rfl (lv_at hl 1 rfl) ?_
        refine lv_iload_n hx hb d_K_end_32 rfl (lv_at hl 2 rfl) ?_
        refine kc_K_K_closeDescriptor hx hb hml hown hts hV hK hX hAe (c_K_closeDescriptor l E s0 p1 hp1 v3 _ hw) hl.1 (Nat.le_of_ble_eq_true rfl) d_K_end_33 (Nat.le_of_ble_eq_true rfl) (Nat.le_of_ble_eq_true rfl) (fun r7 s6 H locs hw hV => ?_)
        refine kc_K_K_wakeAll hx hb hml hown hts hV hK hX hAe (c_K_wakeAll l E s6 r7 _ hw) hl.1 (Nat.le_of_ble_eq_true rfl) d_K_end_36 (Nat.le_of_ble_eq_true rfl) (Nat.le_of_ble_eq_true rfl) (fun s8 H locs hw hV => ?_)
        obtain ⟨y9, ey9⟩ : ∃ z : Int32, z = v3 + (1 : Int32) := ⟨_, rfl⟩
        have hw := hw y9 ey9
        refine lv_iinc (k := 2) (v := y9) (lv' := [(3, .int y9), (0, .ref (ea E 0 0)), (1, .ref (ea E 1 p1))]) hx hb d_K_end_39 hl rfl (by rw [ey9]; rfl) (by decide) rfl (fun ls hl => ?_)
        refine lv_goto (tgt := 23) hx hb d_K_end_42 rfl ?_
        exact ih _ _ _ s8 y9 (lv_sub hl [1, 2, 0] rfl) hV hw
  unfold w_K_end at hw
  refine lv_aload_n hx hb d_K_end_0 rfl (lv_at hl 0 rfl) ?_
  refine lv_aload_n hx hb d_K_end_1 rfl (lv_at hl 1 rfl) ?_
  refine kc_K_K_leaveQueue hx hb hml hown hts hV hK hX hAe (c_K_leaveQueue l E s0 p1 hp1 _ hw) hl.1 (Nat.le_of_ble_eq_true rfl) d_K_end_2 (Nat.le_of_ble_eq_true rfl) (Nat.le_of_ble_eq_true rfl) (fun s1 H locs hw hV => ?_)
  refine lv_aload_n hx hb d_K_end_5 rfl (lv_at hl 1 rfl) ?_
  refine lv_iconst (v := -1) hx hb d_K_end_6 (by decide) ?_
  refine kp_K_P_waitsOn hx hb hG hown hK hV hp1 d_K_end_7 (fun s2 H locs es2 hV => ?_)
  have hw := hw s2 es2
  refine lv_aload_n hx hb d_K_end_10 rfl (lv_at hl 1 rfl) ?_
  refine lv_bipush (v := 6) hx hb d_K_end_11 (by decide) ?_
  refine kp_K_P_state hx hb hG hown hK hV hp1 d_K_end_13 (fun s3 H locs es3 hV => ?_)
  have hw := hw s3 es3
  refine lv_aload_n hx hb d_K_end_16 rfl (lv_at hl 1 rfl) ?_
  refine lv_iload_n hx hb d_K_end_17 rfl (lv_at hl 2 rfl) ?_
  refine kp_K_P_code hx hb hG hown hK hV hp1 d_K_end_18 (fun s4 H locs es4 hV => ?_)
  have hw := hw s4 es4
  refine lv_iconst (v := 0) hx hb d_K_end_21 (by decide) ?_
  refine lv_istore_n (lv' := [(3, .int (0 : Int32)), (0, .ref (ea E 0 0)), (1, .ref (ea E 1 p1)), (2, .int x2)]) hx hb d_K_end_22 rfl hl (by decide) rfl (fun ls hl => ?_)
  obtain ⟨nn, hw⟩ := hw
  exact L23 nn _ _ _ s4 (0 : Int32) (lv_sub hl [1, 2, 0] rfl) hV hw
theorem d_K_goToQueueEnd_0 : decode b_K_goToQueueEnd 0 = .ok (.aload_n 0, 1) := by decide +kernel
theorem d_K_goToQueueEnd_1 : decode b_K_goToQueueEnd 1 = .ok (.aload_n 1, 1) := by decide +kernel
theorem d_K_goToQueueEnd_2 : decode b_K_goToQueueEnd 2 = .ok (.invokevirtual 229, 3) := by decide +kernel
theorem d_K_goToQueueEnd_5 : decode b_K_goToQueueEnd 5 = .ok (.aload_n 0, 1) := by decide +kernel
theorem d_K_goToQueueEnd_6 : decode b_K_goToQueueEnd 6 = .ok (.aload_n 1, 1) := by decide +kernel
theorem d_K_goToQueueEnd_7 : decode b_K_goToQueueEnd 7 = .ok (.invokevirtual 92, 3) := by decide +kernel
theorem d_K_goToQueueEnd_10 : decode b_K_goToQueueEnd 10 = .ok (.return_, 1) := by decide +kernel
def w_K_goToQueueEnd (cp : Nat) (p1 : Nat) (s0 : KS) (Φ : KS → Prop) : Prop := w_K_leaveQueue cp p1 s0 (fun s1 => w_K_makeReady cp p1 s1 (fun s2 => Φ s2))
set_option maxHeartbeats 4000000 in
set_option maxRecDepth 100000 in
theorem c_K_goToQueueEnd (l : Launch) (E : gE) (s0 : KS) (p1 : Nat) (hp1 : p1 < 16) (Φ : KS → Prop) (hw : w_K_goToQueueEnd (eN E) p1 s0 Φ) : gMv l y_K_goToQueueEnd v_K_goToQueueEnd m_K_goToQueueEnd E KK [.ref (ea E 0 0), .ref (ea E 1 p1)] s0 Φ := by
  intro sz
  refine Met.ofW (cc := b_K_goToQueueEnd) (maxL := 2) (ret := none) (by decide) rfl ?_
  intro p e s m args below meth c s₁ B hml hv
  obtain ⟨rfl, hsz, hP, hK, hD, hX⟩ := hv
  have hx := B.exec
  have hb := B.bytes
  have hr := B.returns
  have hts := atoms_spec (ws := v_K_goToQueueEnd) B.pre
  have hG : ∀ w ∈ gG, w.before _ s = true := fun w h => hts w (List.mem_cons_of_mem _ h)
  have hown : s.vm.findClass R_K = some m.cls := findClass_of_methodNamed B.named
  have hlocks := B.notSynchronized
  subst hsz
  obtain ⟨A, hAe⟩ : ∃ A, A = gA E KK s.heap.size := ⟨_, rfl⟩
  rw [← hAe] at hD hX ⊢
  have hV : gV E KK A s0 s s.heap [] := ⟨hP, hD, va_S.rf⟩
  have hl := lv_entry ([.ref (ea E 0 0), .ref (ea E 1 p1)] : List Value) (n := 2) (Nat.le_of_ble_eq_true rfl)
  rw [lg_entry_eq]
  generalize (lg_sl ([.ref (ea E 0 0), .ref (ea E 1 p1)] : List Value) ++ List.replicate (2 - (lg_sl ([.ref (ea E 0 0), .ref (ea E 1 p1)] : List Value)).length) Slot.unset).toArray = ls at hl ⊢
  have hl : lv_has ls 2 [(0, .ref (ea E 0 0)), (1, .ref (ea E 1 p1))] := hl
  unfold w_K_goToQueueEnd at hw
  refine lv_aload_n hx hb d_K_goToQueueEnd_0 rfl (lv_at hl 0 rfl) ?_
  refine lv_aload_n hx hb d_K_goToQueueEnd_1 rfl (lv_at hl 1 rfl) ?_
  refine kc_K_K_leaveQueue hx hb hml hown hts hV hK hX hAe (c_K_leaveQueue l E s0 p1 hp1 _ hw) hl.1 (Nat.le_of_ble_eq_true rfl) d_K_goToQueueEnd_2 (Nat.le_of_ble_eq_true rfl) (Nat.le_of_ble_eq_true rfl) (fun s1 H locs hw hV => ?_)
  refine lv_aload_n hx hb d_K_goToQueueEnd_5 rfl (lv_at hl 0 rfl) ?_
  refine lv_aload_n hx hb d_K_goToQueueEnd_6 rfl (lv_at hl 1 rfl) ?_
  refine kc_K_K_makeReady hx hb hml hown hts hV hK hX hAe (c_K_makeReady l E s1 p1 hp1 _ hw) hl.1 (Nat.le_of_ble_eq_true rfl) d_K_goToQueueEnd_7 (Nat.le_of_ble_eq_true rfl) (Nat.le_of_ble_eq_true rfl) (fun s2 H locs hw hV => ?_)
  exact kr_v hx hb hr hV hK hX hAe hw d_K_goToQueueEnd_10
theorem d_K_hasChild_0 : decode b_K_hasChild 0 = .ok (.iconst 0, 1) := by decide +kernel
theorem d_K_hasChild_1 : decode b_K_hasChild 1 = .ok (.istore_n 2, 1) := by decide +kernel
theorem d_K_hasChild_2 : decode b_K_hasChild 2 = .ok (.iload_n 2, 1) := by decide +kernel
theorem d_K_hasChild_3 : decode b_K_hasChild 3 = .ok (.bipush 16, 2) := by decide +kernel
theorem d_K_hasChild_5 : decode b_K_hasChild 5 = .ok (.if_icmp .ge 24, 3) := by decide +kernel
theorem d_K_hasChild_8 : decode b_K_hasChild 8 = .ok (.aload_n 0, 1) := by decide +kernel
theorem d_K_hasChild_9 : decode b_K_hasChild 9 = .ok (.getfield 11, 3) := by decide +kernel
theorem d_K_hasChild_12 : decode b_K_hasChild 12 = .ok (.iload_n 2, 1) := by decide +kernel
theorem d_K_hasChild_13 : decode b_K_hasChild 13 = .ok (.aaload, 1) := by decide +kernel
theorem d_K_hasChild_14 : decode b_K_hasChild 14 = .ok (.aload_n 1, 1) := by decide +kernel
theorem d_K_hasChild_15 : decode b_K_hasChild 15 = .ok (.invokevirtual 316, 3) := by decide +kernel
theorem d_K_hasChild_18 : decode b_K_hasChild 18 = .ok (.ifCond .eq 5, 3) := by decide +kernel
theorem d_K_hasChild_21 : decode b_K_hasChild 21 = .ok (.iconst 1, 1) := by decide +kernel
theorem d_K_hasChild_22 : decode b_K_hasChild 22 = .ok (.ireturn, 1) := by decide +kernel
theorem d_K_hasChild_23 : decode b_K_hasChild 23 = .ok (.iinc 2 1, 3) := by decide +kernel
theorem d_K_hasChild_26 : decode b_K_hasChild 26 = .ok (.goto (-24), 3) := by decide +kernel
theorem d_K_hasChild_29 : decode b_K_hasChild 29 = .ok (.iconst 0, 1) := by decide +kernel
theorem d_K_hasChild_30 : decode b_K_hasChild 30 = .ok (.ireturn, 1) := by decide +kernel
def w_K_hasChild_2 (cp : Nat) (p1 : Nat) (Φ : Int32 → KS → Prop) : Nat → Int32 → KS → Prop
  | 0, _, _ => False
  | n + 1, v2, s0 => (((16 : Int32) ≤ v2 → Φ (0 : Int32) s0) ∧ (¬ (16 : Int32) ≤ v2 → vp_in v2 16 ∧ w_P_isChildOf cp v2.toNatClampNeg p1 s0 (fun r3 s2 => ((r3 = 0 → ∀ y4 : Int32, y4 = v2 + (1 : Int32) → w_K_hasChild_2 cp p1 Φ n y4 s2) ∧ (¬ r3 = 0 → Φ (1 : Int32) s2)))))
def w_K_hasChild (cp : Nat) (p1 : Nat) (s0 : KS) (Φ : Int32 → KS → Prop) : Prop := ∃ nn : Nat, w_K_hasChild_2 cp p1 Φ nn (0 : Int32) s0
set_option maxHeartbeats 4000000 in
set_option maxRecDepth 100000 in
theorem c_K_hasChild (l : Launch) (E : gE) (s0 : KS) (p1 : Nat) (hp1 : p1 < 16) (Φ : Int32 → KS → Prop) (hw : w_K_hasChild (eN E) p1 s0 Φ) : gMi l y_K_hasChild v_K_hasChild m_K_hasChild E KK [.ref (ea E 0 0), .ref (ea E 1 p1)] s0 Φ := by
  intro sz
  refine Met.ofW (cc := b_K_hasChild) (maxL := 3) (ret := (some .boolean)) (by decide) rfl ?_
  intro p e s m args below meth c s₁ B hml hv
  obtain ⟨rfl, hsz, hP, hK, hD, hX⟩ := hv
  have hx := B.exec
  have hb := B.bytes
  have hr := B.returns
  have hts := atoms_spec (ws := v_K_hasChild) B.pre
  have hG : ∀ w ∈ gG, w.before _ s = true := fun w h => hts w (List.mem_cons_of_mem _ h)
  have hown : s.vm.findClass R_K = some m.cls := findClass_of_methodNamed B.named
  have hlocks := B.notSynchronized
  subst hsz
  obtain ⟨A, hAe⟩ : ∃ A, A = gA E KK s.heap.size := ⟨_, rfl⟩
  rw [← hAe] at hD hX ⊢
  have hV : gV E KK A s0 s s.heap [] := ⟨hP, hD, va_S.rf⟩
  have hl := lv_entry ([.ref (ea E 0 0), .ref (ea E 1 p1)] : List Value) (n := 3) (Nat.le_of_ble_eq_true rfl)
  rw [lg_entry_eq]
  generalize (lg_sl ([.ref (ea E 0 0), .ref (ea E 1 p1)] : List Value) ++ List.replicate (3 - (lg_sl ([.ref (ea E 0 0), .ref (ea E 1 p1)] : List Value)).length) Slot.unset).toArray = ls at hl ⊢
  have hl : lv_has ls 3 [(0, .ref (ea E 0 0)), (1, .ref (ea E 1 p1))] := hl
  have L2 : ∀ (n : Nat), ∀ (ls : Array Slot) (H : Heap) (locs : List Loc) (s0 : KS) (v2 : Int32), lv_has ls 3 [(0, .ref (ea E 0 0)), (1, .ref (ea E 1 p1)), (2, .int v2)] → gV E KK A s0 s H locs → w_K_hasChild_2 (eN E) p1 Φ n v2 s0 → W p l e m_K_hasChild s m ([.ref (ea E 0 0), .ref (ea E 1 p1)] : List Value).toArray below meth c H locs 0 0 (MQ below (gQi E KK A Φ) ([.ref (ea E 0 0), .ref (ea E 1 p1)] : List Value).toArray s 0 0 A) (F0 m 2 ls []) := by
    intro n
    induction n with
    | zero =>
      intro ls H locs s0 v2 hl hV hw
      exact False.elim hw
    | succ n ih =>
      intro ls H locs s0 v2 hl hV hw
      unfold w_K_hasChild_2 at hw
      refine lv_iload_n hx hb d_K_hasChild_2 rfl (lv_at hl 2 rfl) ?_
      refine lv_bipush (v := 16) hx hb d_K_hasChild_3 (by decide) ?_
      refine lv_icmp_ge (tgt := 29) hx hb d_K_hasChild_5 rfl (fun hc => ?_) (fun hc => ?_)
      · have hw := hw.1 hc
        refine lv_iconst (v := 0) hx hb d_K_hasChild_29 (by decide) ?_
        exact kr_z hx hb hr hV hK hX hAe (by decide) hw d_K_hasChild_30
      · have hw := hw.2 hc
        refine lv_aload_n hx hb d_K_hasChild_8 rfl (lv_at hl 0 rfl) ?_
        refine kg_K_K_procs hx hb hG hown hK hV d_K_hasChild_9 ?_
        refine lv_iload_n hx hb d_K_hasChild_12 rfl (lv_at hl 2 rfl) ?_
        have hj1 := vp_lt hw.1
        refine kl_9 hx hb hK hV hw.1 d_K_hasChild_13 ?_
        have hw := hw.2
        refine lv_aload_n hx hb d_K_hasChild_14 rfl (lv_at hl 1 rfl) ?_
        refine kc_K_P_isChildOf hx hb hml hown hts hV hK hX hAe (c_P_isChildOf l E s0 v2.toNatClampNeg hj1 p1 hp1 _ hw) hj1 hl.1 (Nat.le_of_ble_eq_true rfl) d_K_hasChild_15 (Nat.le_of_ble_eq_true rfl) (Nat.le_of_ble_eq_true rfl) (fun r3 s2 H locs hw hV => ?_)
        refine lv_if_eq (tgt := 23) hx hb d_K_hasChild_18 rfl (fun hc => ?_) (fun hc => ?_)
        · have hw := hw.1 hc
          obtain ⟨y4, ey4⟩ : ∃ z : Int32, z = v2 + (1 : Int32) := ⟨_, rfl⟩
          have hw := hw y4 ey4
          refine lv_iinc (k := 2) (v := y4) (lv' := [(2, .int y4), (0, .ref (ea E 0 0)), (1, .ref (ea E 1 p1))]) hx hb d_K_hasChild_23 hl rfl (by rw [ey4]; rfl) (by decide) rfl (fun ls hl => ?_)
          refine lv_goto (tgt := 2) hx hb d_K_hasChild_26 rfl ?_
          exact ih _ _ _ s2 y4 (lv_sub hl [1, 2, 0] rfl) hV hw
        · have hw := hw.2 hc
          refine lv_iconst (v := 1) hx hb d_K_hasChild_21 (by decide) ?_
          exact kr_z hx hb hr hV hK hX hAe (by decide) hw d_K_hasChild_22
  unfold w_K_hasChild at hw
  refine lv_iconst (v := 0) hx hb d_K_hasChild_0 (by decide) ?_
  refine lv_istore_n (lv' := [(2, .int (0 : Int32)), (0, .ref (ea E 0 0)), (1, .ref (ea E 1 p1))]) hx hb d_K_hasChild_1 rfl hl (by decide) rfl (fun ls hl => ?_)
  obtain ⟨nn, hw⟩ := hw
  exact L2 nn _ _ _ s0 (0 : Int32) (lv_sub hl [1, 2, 0] rfl) hV hw
theorem d_K_isReadingEnd_0 : decode b_K_isReadingEnd 0 = .ok (.iload_n 0, 1) := by decide +kernel
theorem d_K_isReadingEnd_1 : decode b_K_isReadingEnd 1 = .ok (.bipush 10, 2) := by decide +kernel
theorem d_K_isReadingEnd_3 : decode b_K_isReadingEnd 3 = .ok (.if_icmp .lt 13, 3) := by decide +kernel
theorem d_K_isReadingEnd_6 : decode b_K_isReadingEnd 6 = .ok (.iload_n 0, 1) := by decide +kernel
theorem d_K_isReadingEnd_7 : decode b_K_isReadingEnd 7 = .ok (.bipush 18, 2) := by decide +kernel
theorem d_K_isReadingEnd_9 : decode b_K_isReadingEnd 9 = .ok (.if_icmp .ge 7, 3) := by decide +kernel
theorem d_K_isReadingEnd_12 : decode b_K_isReadingEnd 12 = .ok (.iconst 1, 1) := by decide +kernel
theorem d_K_isReadingEnd_13 : decode b_K_isReadingEnd 13 = .ok (.goto 4, 3) := by decide +kernel
theorem d_K_isReadingEnd_16 : decode b_K_isReadingEnd 16 = .ok (.iconst 0, 1) := by decide +kernel
theorem d_K_isReadingEnd_17 : decode b_K_isReadingEnd 17 = .ok (.ireturn, 1) := by decide +kernel
def w_K_isReadingEnd (cp : Nat) (x0 : Int32) (s0 : KS) (Φ : Int32 → KS → Prop) : Prop := ((x0 < (10 : Int32) → Φ (0 : Int32) s0) ∧ (¬ x0 < (10 : Int32) → (((18 : Int32) ≤ x0 → Φ (0 : Int32) s0) ∧ (¬ (18 : Int32) ≤ x0 → Φ (1 : Int32) s0))))
set_option maxHeartbeats 4000000 in
set_option maxRecDepth 100000 in
theorem c_K_isReadingEnd (l : Launch) (E : gE) (s0 : KS) (x0 : Int32) (Φ : Int32 → KS → Prop) (hw : w_K_isReadingEnd (eN E) x0 s0 Φ) : gMi l y_K_isReadingEnd v_K_isReadingEnd m_K_isReadingEnd E KK [.int x0] s0 Φ := by
  intro sz
  refine Met.ofW (cc := b_K_isReadingEnd) (maxL := 1) (ret := (some .boolean)) (by decide) rfl ?_
  intro p e s m args below meth c s₁ B hml hv
  obtain ⟨rfl, hsz, hP, hK, hD, hX⟩ := hv
  have hx := B.exec
  have hb := B.bytes
  have hr := B.returns
  have hts := atoms_spec (ws := v_K_isReadingEnd) B.pre
  have hG : ∀ w ∈ gG, w.before _ s = true := fun w h => hts w (List.mem_cons_of_mem _ h)
  have hown : s.vm.findClass R_K = some m.cls := findClass_of_methodNamed B.named
  have hlocks := B.notSynchronized
  subst hsz
  obtain ⟨A, hAe⟩ : ∃ A, A = gA E KK s.heap.size := ⟨_, rfl⟩
  rw [← hAe] at hD hX ⊢
  have hV : gV E KK A s0 s s.heap [] := ⟨hP, hD, va_S.rf⟩
  have hl := lv_entry ([.int x0] : List Value) (n := 1) (Nat.le_of_ble_eq_true rfl)
  rw [lg_entry_eq]
  generalize (lg_sl ([.int x0] : List Value) ++ List.replicate (1 - (lg_sl ([.int x0] : List Value)).length) Slot.unset).toArray = ls at hl ⊢
  have hl : lv_has ls 1 [(0, .int x0)] := hl
  unfold w_K_isReadingEnd at hw
  refine lv_iload_n hx hb d_K_isReadingEnd_0 rfl (lv_at hl 0 rfl) ?_
  refine lv_bipush (v := 10) hx hb d_K_isReadingEnd_1 (by decide) ?_
  refine lv_icmp_lt (tgt := 16) hx hb d_K_isReadingEnd_3 rfl (fun hc => ?_) (fun hc => ?_)
  · have hw := hw.1 hc
    refine lv_iconst (v := 0) hx hb d_K_isReadingEnd_16 (by decide) ?_
    exact kr_z hx hb hr hV hK hX hAe (by decide) hw d_K_isReadingEnd_17
  · have hw := hw.2 hc
    refine lv_iload_n hx hb d_K_isReadingEnd_6 rfl (lv_at hl 0 rfl) ?_
    refine lv_bipush (v := 18) hx hb d_K_isReadingEnd_7 (by decide) ?_
    refine lv_icmp_ge (tgt := 16) hx hb d_K_isReadingEnd_9 rfl (fun hc => ?_) (fun hc => ?_)
    · have hw := hw.1 hc
      refine lv_iconst (v := 0) hx hb d_K_isReadingEnd_16 (by decide) ?_
      exact kr_z hx hb hr hV hK hX hAe (by decide) hw d_K_isReadingEnd_17
    · have hw := hw.2 hc
      refine lv_iconst (v := 1) hx hb d_K_isReadingEnd_12 (by decide) ?_
      refine lv_goto (tgt := 17) hx hb d_K_isReadingEnd_13 rfl ?_
      exact kr_z hx hb hr hV hK hX hAe (by decide) hw d_K_isReadingEnd_17
theorem d_K_readBlocks_0 : decode b_K_readBlocks 0 = .ok (.iload_n 1, 1) := by decide +kernel
theorem d_K_readBlocks_1 : decode b_K_readBlocks 1 = .ok (.iconst 1, 1) := by decide +kernel
theorem d_K_readBlocks_2 : decode b_K_readBlocks 2 = .ok (.if_icmp .ne 26, 3) := by decide +kernel
theorem d_K_readBlocks_5 : decode b_K_readBlocks 5 = .ok (.aload_n 0, 1) := by decide +kernel
theorem d_K_readBlocks_6 : decode b_K_readBlocks 6 = .ok (.getfield 48, 3) := by decide +kernel
theorem d_K_readBlocks_9 : decode b_K_readBlocks 9 = .ok (.invokevirtual 244, 3) := by decide +kernel
theorem d_K_readBlocks_12 : decode b_K_readBlocks 12 = .ok (.ifCond .eq 14, 3) := by decide +kernel
theorem d_K_readBlocks_15 : decode b_K_readBlocks 15 = .ok (.aload_n 0, 1) := by decide +kernel
theorem d_K_readBlocks_16 : decode b_K_readBlocks 16 = .ok (.getfield 52, 3) := by decide +kernel
theorem d_K_readBlocks_19 : decode b_K_readBlocks 19 = .ok (.ifCond .ne 7, 3) := by decide +kernel
theorem d_K_readBlocks_22 : decode b_K_readBlocks 22 = .ok (.iconst 1, 1) := by decide +kernel
theorem d_K_readBlocks_23 : decode b_K_readBlocks 23 = .ok (.goto 4, 3) := by decide +kernel
theorem d_K_readBlocks_26 : decode b_K_readBlocks 26 = .ok (.iconst 0, 1) := by decide +kernel
theorem d_K_readBlocks_27 : decode b_K_readBlocks 27 = .ok (.ireturn, 1) := by decide +kernel
theorem d_K_readBlocks_28 : decode b_K_readBlocks 28 = .ok (.iload_n 1, 1) := by decide +kernel
theorem d_K_readBlocks_29 : decode b_K_readBlocks 29 = .ok (.invokestatic 247, 3) := by decide +kernel
theorem d_K_readBlocks_32 : decode b_K_readBlocks 32 = .ok (.ifCond .eq 34, 3) := by decide +kernel
theorem d_K_readBlocks_35 : decode b_K_readBlocks 35 = .ok (.aload_n 0, 1) := by decide +kernel
theorem d_K_readBlocks_36 : decode b_K_readBlocks 36 = .ok (.getfield 21, 3) := by decide +kernel
theorem d_K_readBlocks_39 : decode b_K_readBlocks 39 = .ok (.iload_n 1, 1) := by decide +kernel
theorem d_K_readBlocks_40 : decode b_K_readBlocks 40 = .ok (.invokestatic 241, 3) := by decide +kernel
theorem d_K_readBlocks_43 : decode b_K_readBlocks 43 = .ok (.iaload, 1) := by decide +kernel
theorem d_K_readBlocks_44 : decode b_K_readBlocks 44 = .ok (.ifCond .le 22, 3) := by decide +kernel
theorem d_K_readBlocks_47 : decode b_K_readBlocks 47 = .ok (.aload_n 0, 1) := by decide +kernel
theorem d_K_readBlocks_48 : decode b_K_readBlocks 48 = .ok (.getfield 17, 3) := by decide +kernel
theorem d_K_readBlocks_51 : decode b_K_readBlocks 51 = .ok (.iload_n 1, 1) := by decide +kernel
theorem d_K_readBlocks_52 : decode b_K_readBlocks 52 = .ok (.bipush 10, 2) := by decide +kernel
theorem d_K_readBlocks_54 : decode b_K_readBlocks 54 = .ok (.isub, 1) := by decide +kernel
theorem d_K_readBlocks_55 : decode b_K_readBlocks 55 = .ok (.aaload, 1) := by decide +kernel
theorem d_K_readBlocks_56 : decode b_K_readBlocks 56 = .ok (.invokevirtual 244, 3) := by decide +kernel
theorem d_K_readBlocks_59 : decode b_K_readBlocks 59 = .ok (.ifCond .eq 7, 3) := by decide +kernel
theorem d_K_readBlocks_62 : decode b_K_readBlocks 62 = .ok (.iconst 1, 1) := by decide +kernel
theorem d_K_readBlocks_63 : decode b_K_readBlocks 63 = .ok (.goto 4, 3) := by decide +kernel
theorem d_K_readBlocks_66 : decode b_K_readBlocks 66 = .ok (.iconst 0, 1) := by decide +kernel
theorem d_K_readBlocks_67 : decode b_K_readBlocks 67 = .ok (.ireturn, 1) := by decide +kernel
def w_K_readBlocks (cp : Nat) (x1 : Int32) (s0 : KS) (Φ : Int32 → KS → Prop) : Prop := ((¬ x1 = (1 : Int32) → w_K_isReadingEnd cp x1 s0 (fun r2 s1 => ((r2 = 0 → Φ (0 : Int32) s1) ∧ (¬ r2 = 0 → w_K_otherEnd cp x1 s1 (fun r4 s3 => vp_in r4 28 ∧ (((s3 7 0 r4.toNatClampNeg) ≤ 0 → Φ (0 : Int32) s3) ∧ (¬ (s3 7 0 r4.toNatClampNeg) ≤ 0 → vp_in (x1 - (10 : Int32)) 8 ∧ w_W_isEmpty cp ((x1 - (10 : Int32)).toNatClampNeg) s3 (fun r7 s6 => ((r7 = 0 → Φ (0 : Int32) s6) ∧ (¬ r7 = 0 → Φ (1 : Int32) s6)))))))))) ∧ (x1 = (1 : Int32) → w_W_isEmpty cp 8 s0 (fun r9 s8 => ((r9 = 0 → Φ (0 : Int32) s8) ∧ (¬ r9 = 0 → ((¬ (s8 0 0 11) = 0 → Φ (0 : Int32) s8) ∧ ((s8 0 0 11) = 0 → Φ (1 : Int32) s8)))))))
set_option maxHeartbeats 4000000 in
set_option maxRecDepth 100000 in
theorem c_K_readBlocks (l : Launch) (E : gE) (s0 : KS) (x1 : Int32) (Φ : Int32 → KS → Prop) (hw : w_K_readBlocks (eN E) x1 s0 Φ) : gMi l y_K_readBlocks v_K_readBlocks m_K_readBlocks E KK [.ref (ea E 0 0), .int x1] s0 Φ := by
  intro sz
  refine Met.ofW (cc := b_K_readBlocks) (maxL := 2) (ret := (some .boolean)) (by decide) rfl ?_
  intro p e s m args below meth c s₁ B hml hv
  obtain ⟨rfl, hsz, hP, hK, hD, hX⟩ := hv
  have hx := B.exec
  have hb := B.bytes
  have hr := B.returns
  have hts := atoms_spec (ws := v_K_readBlocks) B.pre
  have hG : ∀ w ∈ gG, w.before _ s = true := fun w h => hts w (List.mem_cons_of_mem _ h)
  have hown : s.vm.findClass R_K = some m.cls := findClass_of_methodNamed B.named
  have hlocks := B.notSynchronized
  subst hsz
  obtain ⟨A, hAe⟩ : ∃ A, A = gA E KK s.heap.size := ⟨_, rfl⟩
  rw [← hAe] at hD hX ⊢
  have hV : gV E KK A s0 s s.heap [] := ⟨hP, hD, va_S.rf⟩
  have hl := lv_entry ([.ref (ea E 0 0), .int x1] : List Value) (n := 2) (Nat.le_of_ble_eq_true rfl)
  rw [lg_entry_eq]
  generalize (lg_sl ([.ref (ea E 0 0), .int x1] : List Value) ++ List.replicate (2 - (lg_sl ([.ref (ea E 0 0), .int x1] : List Value)).length) Slot.unset).toArray = ls at hl ⊢
  have hl : lv_has ls 2 [(0, .ref (ea E 0 0)), (1, .int x1)] := hl
  unfold w_K_readBlocks at hw
  refine lv_iload_n hx hb d_K_readBlocks_0 rfl (lv_at hl 1 rfl) ?_
  refine lv_iconst (v := 1) hx hb d_K_readBlocks_1 (by decide) ?_
  refine lv_icmp_ne (tgt := 28) hx hb d_K_readBlocks_2 rfl (fun hc => ?_) (fun hc => ?_)
  · have hw := hw.1 hc
    refine lv_iload_n hx hb d_K_readBlocks_28 rfl (lv_at hl 1 rfl) ?_
    refine kc_K_K_isReadingEnd hx hb hml hown hts hV hK hX hAe (c_K_isReadingEnd l E s0 x1 _ hw) hl.1 (Nat.le_of_ble_eq_true rfl) d_K_readBlocks_29 (Nat.le_of_ble_eq_true rfl) (Nat.le_of_ble_eq_true rfl) (fun r2 s1 H locs hw hV => ?_)
    refine lv_if_eq (tgt := 66) hx hb d_K_readBlocks_32 rfl (fun hc => ?_) (fun hc => ?_)
    · have hw := hw.1 hc
      refine lv_iconst (v := 0) hx hb d_K_readBlocks_66 (by decide) ?_
      exact kr_z hx hb hr hV hK hX hAe (by decide) hw d_K_readBlocks_67
    · have hw := hw.2 hc
      refine lv_aload_n hx hb d_K_readBlocks_35 rfl (lv_at hl 0 rfl) ?_
      refine kg_K_K_ends hx hb hG hown hK hV d_K_readBlocks_36 ?_
      refine lv_iload_n hx hb d_K_readBlocks_39 rfl (lv_at hl 1 rfl) ?_
      refine kc_K_K_otherEnd hx hb hml hown hts hV hK hX hAe (c_K_otherEnd l E s1 x1 _ hw) hl.1 (Nat.le_of_ble_eq_true rfl) d_K_readBlocks_40 (Nat.le_of_ble_eq_true rfl) (Nat.le_of_ble_eq_true rfl) (fun r4 s3 H locs hw hV => ?_)
      refine kl_7 hx hb hK hV hw.1 d_K_readBlocks_43 ?_
      have hw := hw.2
      refine lv_if_le (tgt := 66) hx hb d_K_readBlocks_44 rfl (fun hc => ?_) (fun hc => ?_)
      · have hw := hw.1 hc
        refine lv_iconst (v := 0) hx hb d_K_readBlocks_66 (by decide) ?_
        exact kr_z hx hb hr hV hK hX hAe (by decide) hw d_K_readBlocks_67
      · have hw := hw.2 hc
        refine lv_aload_n hx hb d_K_readBlocks_47 rfl (lv_at hl 0 rfl) ?_
        refine kg_K_K_pipes hx hb hG hown hK hV d_K_readBlocks_48 ?_
        refine lv_iload_n hx hb d_K_readBlocks_51 rfl (lv_at hl 1 rfl) ?_
        refine lv_bipush (v := 10) hx hb d_K_readBlocks_52 (by decide) ?_
        refine lv_isub hx hb d_K_readBlocks_54 ?_
        have hj5 := Nat.lt_trans (vp_lt hw.1) (by decide : 8 < 10)
        refine kl_10 hx hb hK hV hw.1 d_K_readBlocks_55 ?_
        have hw := hw.2
        refine kc_K_W_isEmpty hx hb hml hown hts hV hK hX hAe (c_W_isEmpty l E s3 ((x1 - (10 : Int32)).toNatClampNeg) hj5 _ hw) hj5 hl.1 (Nat.le_of_ble_eq_true rfl) d_K_readBlocks_56 (Nat.le_of_ble_eq_true rfl) (Nat.le_of_ble_eq_true rfl) (fun r7 s6 H locs hw hV => ?_)
        refine lv_if_eq (tgt := 66) hx hb d_K_readBlocks_59 rfl (fun hc => ?_) (fun hc => ?_)
        · have hw := hw.1 hc
          refine lv_iconst (v := 0) hx hb d_K_readBlocks_66 (by decide) ?_
          exact kr_z hx hb hr hV hK hX hAe (by decide) hw d_K_readBlocks_67
        · have hw := hw.2 hc
          refine lv_iconst (v := 1) hx hb d_K_readBlocks_62 (by decide) ?_
          refine lv_goto (tgt := 67) hx hb d_K_readBlocks_63 rfl ?_
          exact kr_z hx hb hr hV hK hX hAe (by decide) hw d_K_readBlocks_67
  · have hw := hw.2 hc
    refine lv_aload_n hx hb d_K_readBlocks_5 rfl (lv_at hl 0 rfl) ?_
    refine kg_K_K_input hx hb hG hown hK hV d_K_readBlocks_6 ?_
    refine kc_K_W_isEmpty hx hb hml hown hts hV hK hX hAe (c_W_isEmpty l E s0 8 (by decide) _ hw) (by decide) hl.1 (Nat.le_of_ble_eq_true rfl) d_K_readBlocks_9 (Nat.le_of_ble_eq_true rfl) (Nat.le_of_ble_eq_true rfl) (fun r9 s8 H locs hw hV => ?_)
    refine lv_if_eq (tgt := 26) hx hb d_K_readBlocks_12 rfl (fun hc => ?_) (fun hc => ?_)
    · have hw := hw.1 hc
      refine lv_iconst (v := 0) hx hb d_K_readBlocks_26 (by decide) ?_
      exact kr_z hx hb hr hV hK hX hAe (by decide) hw d_K_readBlocks_27
    · have hw := hw.2 hc
      refine lv_aload_n hx hb d_K_readBlocks_15 rfl (lv_at hl 0 rfl) ?_
      refine kg_K_K_inputShut hx hb hG hown hK hV d_K_readBlocks_16 ?_
      refine lv_if_ne (tgt := 26) hx hb d_K_readBlocks_19 rfl (fun hc => ?_) (fun hc => ?_)
      · have hw := hw.1 hc
        refine lv_iconst (v := 0) hx hb d_K_readBlocks_26 (by decide) ?_
        exact kr_z hx hb hr hV hK hX hAe (by decide) hw d_K_readBlocks_27
      · have hw := hw.2 hc
        refine lv_iconst (v := 1) hx hb d_K_readBlocks_22 (by decide) ?_
        refine lv_goto (tgt := 27) hx hb d_K_readBlocks_23 rfl ?_
        exact kr_z hx hb hr hV hK hX hAe (by decide) hw d_K_readBlocks_27
theorem d_K_isWritingEnd_0 : decode b_K_isWritingEnd 0 = .ok (.iload_n 0, 1) := by decide +kernel
theorem d_K_isWritingEnd_1 : decode b_K_isWritingEnd 1 = .ok (.bipush 20, 2) := by decide +kernel
theorem d_K_isWritingEnd_3 : decode b_K_isWritingEnd 3 = .ok (.if_icmp .lt 13, 3) := by decide +kernel
theorem d_K_isWritingEnd_6 : decode b_K_isWritingEnd 6 = .ok (.iload_n 0, 1) := by decide +kernel
theorem d_K_isWritingEnd_7 : decode b_K_isWritingEnd 7 = .ok (.bipush 28, 2) := by decide +kernel
theorem d_K_isWritingEnd_9 : decode b_K_isWritingEnd 9 = .ok (.if_icmp .ge 7, 3) := by decide +kernel
theorem d_K_isWritingEnd_12 : decode b_K_isWritingEnd 12 = .ok (.iconst 1, 1) := by decide +kernel
theorem d_K_isWritingEnd_13 : decode b_K_isWritingEnd 13 = .ok (.goto 4, 3) := by decide +kernel
theorem d_K_isWritingEnd_16 : decode b_K_isWritingEnd 16 = .ok (.iconst 0, 1) := by decide +kernel
theorem d_K_isWritingEnd_17 : decode b_K_isWritingEnd 17 = .ok (.ireturn, 1) := by decide +kernel
def w_K_isWritingEnd (cp : Nat) (x0 : Int32) (s0 : KS) (Φ : Int32 → KS → Prop) : Prop := ((x0 < (20 : Int32) → Φ (0 : Int32) s0) ∧ (¬ x0 < (20 : Int32) → (((28 : Int32) ≤ x0 → Φ (0 : Int32) s0) ∧ (¬ (28 : Int32) ≤ x0 → Φ (1 : Int32) s0))))
set_option maxHeartbeats 4000000 in
set_option maxRecDepth 100000 in
theorem c_K_isWritingEnd (l : Launch) (E : gE) (s0 : KS) (x0 : Int32) (Φ : Int32 → KS → Prop) (hw : w_K_isWritingEnd (eN E) x0 s0 Φ) : gMi l y_K_isWritingEnd v_K_isWritingEnd m_K_isWritingEnd E KK [.int x0] s0 Φ := by
  intro sz
  refine Met.ofW (cc := b_K_isWritingEnd) (maxL := 1) (ret := (some .boolean)) (by decide) rfl ?_
  intro p e s m args below meth c s₁ B hml hv
  obtain ⟨rfl, hsz, hP, hK, hD, hX⟩ := hv
  have hx := B.exec
  have hb := B.bytes
  have hr := B.returns
  have hts := atoms_spec (ws := v_K_isWritingEnd) B.pre
  have hG : ∀ w ∈ gG, w.before _ s = true := fun w h => hts w (List.mem_cons_of_mem _ h)
  have hown : s.vm.findClass R_K = some m.cls := findClass_of_methodNamed B.named
  have hlocks := B.notSynchronized
  subst hsz
  obtain ⟨A, hAe⟩ : ∃ A, A = gA E KK s.heap.size := ⟨_, rfl⟩
  rw [← hAe] at hD hX ⊢
  have hV : gV E KK A s0 s s.heap [] := ⟨hP, hD, va_S.rf⟩
  have hl := lv_entry ([.int x0] : List Value) (n := 1) (Nat.le_of_ble_eq_true rfl)
  rw [lg_entry_eq]
  generalize (lg_sl ([.int x0] : List Value) ++ List.replicate (1 - (lg_sl ([.int x0] : List Value)).length) Slot.unset).toArray = ls at hl ⊢
  have hl : lv_has ls 1 [(0, .int x0)] := hl
  unfold w_K_isWritingEnd at hw
  refine lv_iload_n hx hb d_K_isWritingEnd_0 rfl (lv_at hl 0 rfl) ?_
  refine lv_bipush (v := 20) hx hb d_K_isWritingEnd_1 (by decide) ?_
  refine lv_icmp_lt (tgt := 16) hx hb d_K_isWritingEnd_3 rfl (fun hc => ?_) (fun hc => ?_)
  · have hw := hw.1 hc
    refine lv_iconst (v := 0) hx hb d_K_isWritingEnd_16 (by decide) ?_
    exact kr_z hx hb hr hV hK hX hAe (by decide) hw d_K_isWritingEnd_17
  · have hw := hw.2 hc
    refine lv_iload_n hx hb d_K_isWritingEnd_6 rfl (lv_at hl 0 rfl) ?_
    refine lv_bipush (v := 28) hx hb d_K_isWritingEnd_7 (by decide) ?_
    refine lv_icmp_ge (tgt := 16) hx hb d_K_isWritingEnd_9 rfl (fun hc => ?_) (fun hc => ?_)
    · have hw := hw.1 hc
      refine lv_iconst (v := 0) hx hb d_K_isWritingEnd_16 (by decide) ?_
      exact kr_z hx hb hr hV hK hX hAe (by decide) hw d_K_isWritingEnd_17
    · have hw := hw.2 hc
      refine lv_iconst (v := 1) hx hb d_K_isWritingEnd_12 (by decide) ?_
      refine lv_goto (tgt := 17) hx hb d_K_isWritingEnd_13 rfl ?_
      exact kr_z hx hb hr hV hK hX hAe (by decide) hw d_K_isWritingEnd_17
theorem d_K_writeBlocks_0 : decode b_K_writeBlocks 0 = .ok (.iload_n 1, 1) := by decide +kernel
theorem d_K_writeBlocks_1 : decode b_K_writeBlocks 1 = .ok (.invokestatic 238, 3) := by decide +kernel
theorem d_K_writeBlocks_4 : decode b_K_writeBlocks 4 = .ok (.ifCond .eq 34, 3) := by decide +kernel
theorem d_K_writeBlocks_7 : decode b_K_writeBlocks 7 = .ok (.aload_n 0, 1) := by decide +kernel
theorem d_K_writeBlocks_8 : decode b_K_writeBlocks 8 = .ok (.getfield 21, 3) := by decide +kernel
theorem d_K_writeBlocks_11 : decode b_K_writeBlocks 11 = .ok (.iload_n 1, 1) := by decide +kernel
theorem d_K_writeBlocks_12 : decode b_K_writeBlocks 12 = .ok (.invokestatic 241, 3) := by decide +kernel
theorem d_K_writeBlocks_15 : decode b_K_writeBlocks 15 = .ok (.iaload, 1) := by decide +kernel
theorem d_K_writeBlocks_16 : decode b_K_writeBlocks 16 = .ok (.ifCond .le 22, 3) := by decide +kernel
theorem d_K_writeBlocks_19 : decode b_K_writeBlocks 19 = .ok (.aload_n 0, 1) := by decide +kernel
theorem d_K_writeBlocks_20 : decode b_K_writeBlocks 20 = .ok (.getfield 17, 3) := by decide +kernel
theorem d_K_writeBlocks_23 : decode b_K_writeBlocks 23 = .ok (.iload_n 1, 1) := by decide +kernel
theorem d_K_writeBlocks_24 : decode b_K_writeBlocks 24 = .ok (.bipush 20, 2) := by decide +kernel
theorem d_K_writeBlocks_26 : decode b_K_writeBlocks 26 = .ok (.isub, 1) := by decide +kernel
theorem d_K_writeBlocks_27 : decode b_K_writeBlocks 27 = .ok (.aaload, 1) := by decide +kernel
theorem d_K_writeBlocks_28 : decode b_K_writeBlocks 28 = .ok (.invokevirtual 108, 3) := by decide +kernel
theorem d_K_writeBlocks_31 : decode b_K_writeBlocks 31 = .ok (.ifCond .eq 7, 3) := by decide +kernel
theorem d_K_writeBlocks_34 : decode b_K_writeBlocks 34 = .ok (.iconst 1, 1) := by decide +kernel
theorem d_K_writeBlocks_35 : decode b_K_writeBlocks 35 = .ok (.goto 4, 3) := by decide +kernel
theorem d_K_writeBlocks_38 : decode b_K_writeBlocks 38 = .ok (.iconst 0, 1) := by decide +kernel
theorem d_K_writeBlocks_39 : decode b_K_writeBlocks 39 = .ok (.ireturn, 1) := by decide +kernel
def w_K_writeBlocks (cp : Nat) (x1 : Int32) (s0 : KS) (Φ : Int32 → KS → Prop) : Prop := w_K_isWritingEnd cp x1 s0 (fun r2 s1 => ((r2 = 0 → Φ (0 : Int32) s1) ∧ (¬ r2 = 0 → w_K_otherEnd cp x1 s1 (fun r4 s3 => vp_in r4 28 ∧ (((s3 7 0 r4.toNatClampNeg) ≤ 0 → Φ (0 : Int32) s3) ∧ (¬ (s3 7 0 r4.toNatClampNeg) ≤ 0 → vp_in (x1 - (20 : Int32)) 8 ∧ w_W_isFull cp ((x1 - (20 : Int32)).toNatClampNeg) s3 (fun r7 s6 => ((r7 = 0 → Φ (0 : Int32) s6) ∧ (¬ r7 = 0 → Φ (1 : Int32) s6)))))))))
set_option maxHeartbeats 4000000 in
set_option maxRecDepth 100000 in
theorem c_K_writeBlocks (l : Launch) (E : gE) (s0 : KS) (x1 : Int32) (Φ : Int32 → KS → Prop) (hw : w_K_writeBlocks (eN E) x1 s0 Φ) : gMi l y_K_writeBlocks v_K_writeBlocks m_K_writeBlocks E KK [.ref (ea E 0 0), .int x1] s0 Φ := by
  intro sz
  refine Met.ofW (cc := b_K_writeBlocks) (maxL := 2) (ret := (some .boolean)) (by decide) rfl ?_
  intro p e s m args below meth c s₁ B hml hv
  obtain ⟨rfl, hsz, hP, hK, hD, hX⟩ := hv
  have hx := B.exec
  have hb := B.bytes
  have hr := B.returns
  have hts := atoms_spec (ws := v_K_writeBlocks) B.pre
  have hG : ∀ w ∈ gG, w.before _ s = true := fun w h => hts w (List.mem_cons_of_mem _ h)
  have hown : s.vm.findClass R_K = some m.cls := findClass_of_methodNamed B.named
  have hlocks := B.notSynchronized
  subst hsz
  obtain ⟨A, hAe⟩ : ∃ A, A = gA E KK s.heap.size := ⟨_, rfl⟩
  rw [← hAe] at hD hX ⊢
  have hV : gV E KK A s0 s s.heap [] := ⟨hP, hD, va_S.rf⟩
  have hl := lv_entry ([.ref (ea E 0 0), .int x1] : List Value) (n := 2) (Nat.le_of_ble_eq_true rfl)
  rw [lg_entry_eq]
  generalize (lg_sl ([.ref (ea E 0 0), .int x1] : List Value) ++ List.replicate (2 - (lg_sl ([.ref (ea E 0 0), .int x1] : List Value)).length) Slot.unset).toArray = ls at hl ⊢
  have hl : lv_has ls 2 [(0, .ref (ea E 0 0)), (1, .int x1)] := hl
  unfold w_K_writeBlocks at hw
  refine lv_iload_n hx hb d_K_writeBlocks_0 rfl (lv_at hl 1 rfl) ?_
  refine kc_K_K_isWritingEnd hx hb hml hown hts hV hK hX hAe (c_K_isWritingEnd l E s0 x1 _ hw) hl.1 (Nat.le_of_ble_eq_true rfl) d_K_writeBlocks_1 (Nat.le_of_ble_eq_true rfl) (Nat.le_of_ble_eq_true rfl) (fun r2 s1 H locs hw hV => ?_)
  refine lv_if_eq (tgt := 38) hx hb d_K_writeBlocks_4 rfl (fun hc => ?_) (fun hc => ?_)
  · have hw := hw.1 hc
    refine lv_iconst (v := 0) hx hb d_K_writeBlocks_38 (by decide) ?_
    exact kr_z hx hb hr hV hK hX hAe (by decide) hw d_K_writeBlocks_39
  · have hw := hw.2 hc
    refine lv_aload_n hx hb d_K_writeBlocks_7 rfl (lv_at hl 0 rfl) ?_
    refine kg_K_K_ends hx hb hG hown hK hV d_K_writeBlocks_8 ?_
    refine lv_iload_n hx hb d_K_writeBlocks_11 rfl (lv_at hl 1 rfl) ?_
    refine kc_K_K_otherEnd hx hb hml hown hts hV hK hX hAe (c_K_otherEnd l E s1 x1 _ hw) hl.1 (Nat.le_of_ble_eq_true rfl) d_K_writeBlocks_12 (Nat.le_of_ble_eq_true rfl) (Nat.le_of_ble_eq_true rfl) (fun r4 s3 H locs hw hV => ?_)
    refine kl_7 hx hb hK hV hw.1 d_K_writeBlocks_15 ?_
    have hw := hw.2
    refine lv_if_le (tgt := 38) hx hb d_K_writeBlocks_16 rfl (fun hc => ?_) (fun hc => ?_)
    · have hw := hw.1 hc
      refine lv_iconst (v := 0) hx hb d_K_writeBlocks_38 (by decide) ?_
      exact kr_z hx hb hr hV hK hX hAe (by decide) hw d_K_writeBlocks_39
    · have hw := hw.2 hc
      refine lv_aload_n hx hb d_K_writeBlocks_19 rfl (lv_at hl 0 rfl) ?_
      refine kg_K_K_pipes hx hb hG hown hK hV d_K_writeBlocks_20 ?_
      refine lv_iload_n hx hb d_K_writeBlocks_23 rfl (lv_at hl 1 rfl) ?_
      refine lv_bipush (v := 20) hx hb d_K_writeBlocks_24 (by decide) ?_
      refine lv_isub hx hb d_K_writeBlocks_26 ?_
      have hj5 := Nat.lt_trans (vp_lt hw.1) (by decide : 8 < 10)
      refine kl_10 hx hb hK hV hw.1 d_K_writeBlocks_27 ?_
      have hw := hw.2
      refine kc_K_W_isFull hx hb hml hown hts hV hK hX hAe (c_W_isFull l E s3 ((x1 - (20 : Int32)).toNatClampNeg) hj5 _ hw) hj5 hl.1 (Nat.le_of_ble_eq_true rfl) d_K_writeBlocks_28 (Nat.le_of_ble_eq_true rfl) (Nat.le_of_ble_eq_true rfl) (fun r7 s6 H locs hw hV => ?_)
      refine lv_if_eq (tgt := 38) hx hb d_K_writeBlocks_31 rfl (fun hc => ?_) (fun hc => ?_)
      · have hw := hw.1 hc
        refine lv_iconst (v := 0) hx hb d_K_writeBlocks_38 (by decide) ?_
        exact kr_z hx hb hr hV hK hX hAe (by decide) hw d_K_writeBlocks_39
      · have hw := hw.2 hc
        refine lv_iconst (v := 1) hx hb d_K_writeBlocks_34 (by decide) ?_
        refine lv_goto (tgt := 39) hx hb d_K_writeBlocks_35 rfl ?_
        exact kr_z hx hb hr hV hK hX hAe (by decide) hw d_K_writeBlocks_39
theorem d_K_mustWait_0 : decode b_K_mustWait 0 = .ok (.aload_n 1, 1) := by decide +kernel
theorem d_K_mustWait_1 : decode b_K_mustWait 1 = .ok (.invokevirtual 207, 3) := by decide +kernel
theorem d_K_mustWait_4 : decode b_K_mustWait 4 = .ok (.tableswitch 80 33 36 #[32, 45, 80, 58], 32) := by decide +kernel
theorem d_K_mustWait_36 : decode b_K_mustWait 36 = .ok (.aload_n 0, 1) := by decide +kernel
theorem d_K_mustWait_37 : decode b_K_mustWait 37 = .ok (.aload_n 1, 1) := by decide +kernel
theorem d_K_mustWait_38 : decode b_K_mustWait 38 = .ok (.aload_n 1, 1) := by decide +kernel
theorem d_K_mustWait_39 : decode b_K_mustWait 39 = .ok (.invokevirtual 210, 3) := by decide +kernel
theorem d_K_mustWait_42 : decode b_K_mustWait 42 = .ok (.invokevirtual 213, 3) := by decide +kernel
theorem d_K_mustWait_45 : decode b_K_mustWait 45 = .ok (.invokevirtual 216, 3) := by decide +kernel
theorem d_K_mustWait_48 : decode b_K_mustWait 48 = .ok (.ireturn, 1) := by decide +kernel
theorem d_K_mustWait_49 : decode b_K_mustWait 49 = .ok (.aload_n 0, 1) := by decide +kernel
theorem d_K_mustWait_50 : decode b_K_mustWait 50 = .ok (.aload_n 1, 1) := by decide +kernel
theorem d_K_mustWait_51 : decode b_K_mustWait 51 = .ok (.aload_n 1, 1) := by decide +kernel
theorem d_K_mustWait_52 : decode b_K_mustWait 52 = .ok (.invokevirtual 210, 3) := by decide +kernel
theorem d_K_mustWait_55 : decode b_K_mustWait 55 = .ok (.invokevirtual 213, 3) := by decide +kernel
theorem d_K_mustWait_58 : decode b_K_mustWait 58 = .ok (.invokevirtual 219, 3) := by decide +kernel
theorem d_K_mustWait_61 : decode b_K_mustWait 61 = .ok (.ireturn, 1) := by decide +kernel
theorem d_K_mustWait_62 : decode b_K_mustWait 62 = .ok (.aload_n 0, 1) := by decide +kernel
theorem d_K_mustWait_63 : decode b_K_mustWait 63 = .ok (.aload_n 1, 1) := by decide +kernel
theorem d_K_mustWait_64 : decode b_K_mustWait 64 = .ok (.invokevirtual 222, 3) := by decide +kernel
theorem d_K_mustWait_67 : decode b_K_mustWait 67 = .ok (.ifCond .eq 15, 3) := by decide +kernel
theorem d_K_mustWait_70 : decode b_K_mustWait 70 = .ok (.aload_n 0, 1) := by decide +kernel
theorem d_K_mustWait_71 : decode b_K_mustWait 71 = .ok (.aload_n 1, 1) := by decide +kernel
theorem d_K_mustWait_72 : decode b_K_mustWait 72 = .ok (.invokevirtual 225, 3) := by decide +kernel
theorem d_K_mustWait_75 : decode b_K_mustWait 75 = .ok (.ifnonnull 7, 3) := by decide +kernel
theorem d_K_mustWait_78 : decode b_K_mustWait 78 = .ok (.iconst 1, 1) := by decide +kernel
theorem d_K_mustWait_79 : decode b_K_mustWait 79 = .ok (.goto 4, 3) := by decide +kernel
theorem d_K_mustWait_82 : decode b_K_mustWait 82 = .ok (.iconst 0, 1) := by decide +kernel
theorem d_K_mustWait_83 : decode b_K_mustWait 83 = .ok (.ireturn, 1) := by decide +kernel
theorem d_K_mustWait_84 : decode b_K_mustWait 84 = .ok (.iconst 0, 1) := by decide +kernel
theorem d_K_mustWait_85 : decode b_K_mustWait 85 = .ok (.ireturn, 1) := by decide +kernel
def w_K_mustWait (cp : Nat) (p1 : Nat) (s0 : KS) (Φ : Int32 → KS → Prop) : Prop := w_P_kind cp p1 s0 (fun r2 s1 => ((r2 = 33 → w_P_top cp p1 s1 (fun r4 s3 => w_P_descriptorAt cp p1 r4 s3 (fun r6 s5 => w_K_writeBlocks cp r6 s5 (fun r8 s7 => (r8 = 0 ∨ r8 = 1) ∧ Φ r8 s7)))) ∧ ((r2 = 34 → w_P_top cp p1 s1 (fun r10 s9 => w_P_descriptorAt cp p1 r10 s9 (fun r12 s11 => w_K_readBlocks cp r12 s11 (fun r14 s13 => (r14 = 0 ∨ r14 = 1) ∧ Φ r14 s13)))) ∧ ((r2 = 36 → w_K_hasChild cp p1 s1 (fun r16 s15 => ((r16 = 0 → Φ (0 : Int32) s15) ∧ (¬ r16 = 0 → w_K_endedChild cp p1 s15 (fun o18 s17 => ((o18 = none → Φ (1 : Int32) s17) ∧ (∀ z19 : Nat, o18 = some z19 → Φ (0 : Int32) s17))))))) ∧ (¬ r2 = 33 ∧ ¬ r2 = 34 ∧ ¬ r2 = 36 → Φ (0 : Int32) s1)))))
set_option maxHeartbeats 4000000 in
set_option maxRecDepth 100000 in
theorem c_K_mustWait (l : Launch) (E : gE) (s0 : KS) (p1 : Nat) (hp1 : p1 < 16) (Φ : Int32 → KS → Prop) (hw : w_K_mustWait (eN E) p1 s0 Φ) : gMi l y_K_mustWait v_K_mustWait m_K_mustWait E KK [.ref (ea E 0 0), .ref (ea E 1 p1)] s0 Φ := by
  intro sz
  refine Met.ofW (cc := b_K_mustWait) (maxL := 2) (ret := (some .boolean)) (by decide) rfl ?_
  intro p e s m args below meth c s₁ B hml hv
  obtain ⟨rfl, hsz, hP, hK, hD, hX⟩ := hv
  have hx := B.exec
  have hb := B.bytes
  have hr := B.returns
  have hts := atoms_spec (ws := v_K_mustWait) B.pre
  have hG : ∀ w ∈ gG, w.before _ s = true := fun w h => hts w (List.mem_cons_of_mem _ h)
  have hown : s.vm.findClass R_K = some m.cls := findClass_of_methodNamed B.named
  have hlocks := B.notSynchronized
  subst hsz
  obtain ⟨A, hAe⟩ : ∃ A, A = gA E KK s.heap.size := ⟨_, rfl⟩
  rw [← hAe] at hD hX ⊢
  have hV : gV E KK A s0 s s.heap [] := ⟨hP, hD, va_S.rf⟩
  have hl := lv_entry ([.ref (ea E 0 0), .ref (ea E 1 p1)] : List Value) (n := 2) (Nat.le_of_ble_eq_true rfl)
  rw [lg_entry_eq]
  generalize (lg_sl ([.ref (ea E 0 0), .ref (ea E 1 p1)] : List Value) ++ List.replicate (2 - (lg_sl ([.ref (ea E 0 0), .ref (ea E 1 p1)] : List Value)).length) Slot.unset).toArray = ls at hl ⊢
  have hl : lv_has ls 2 [(0, .ref (ea E 0 0)), (1, .ref (ea E 1 p1))] := hl
  unfold w_K_mustWait at hw
  refine lv_aload_n hx hb d_K_mustWait_0 rfl (lv_at hl 1 rfl) ?_
  refine kc_K_P_kind hx hb hml hown hts hV hK hX hAe (c_P_kind l E s0 p1 hp1 _ hw) hp1 hl.1 (Nat.le_of_ble_eq_true rfl) d_K_mustWait_1 (Nat.le_of_ble_eq_true rfl) (Nat.le_of_ble_eq_true rfl) (fun r2 s1 H locs hw hV => ?_)
  have hsw := hw
  by_cases hc33 : r2 = 33
  · have hw := hsw.1 hc33
    refine lv_tableIn (off := 32) (tgt := 36) hx hb d_K_mustWait_4 (by rw [hc33]; decide) (by rw [hc33]; decide) (by rw [hc33]; decide) rfl ?_
    refine lv_aload_n hx hb d_K_mustWait_36 rfl (lv_at hl 0 rfl) ?_
    refine lv_aload_n hx hb d_K_mustWait_37 rfl (lv_at hl 1 rfl) ?_
    refine lv_aload_n hx hb d_K_mustWait_38 rfl (lv_at hl 1 rfl) ?_
    refine kc_K_P_top hx hb hml hown hts hV hK hX hAe (c_P_top l E s1 p1 hp1 _ hw) hp1 hl.1 (Nat.le_of_ble_eq_true rfl) d_K_mustWait_39 (Nat.le_of_ble_eq_true rfl) (Nat.le_of_ble_eq_true rfl) (fun r4 s3 H locs hw hV => ?_)
    refine kc_K_P_descriptorAt hx hb hml hown hts hV hK hX hAe (c_P_descriptorAt l E s3 p1 hp1 r4 _ hw) hp1 hl.1 (Nat.le_of_ble_eq_true rfl) d_K_mustWait_42 (Nat.le_of_ble_eq_true rfl) (Nat.le_of_ble_eq_true rfl) (fun r6 s5 H locs hw hV => ?_)
    refine kc_K_K_writeBlocks hx hb hml hown hts hV hK hX hAe (c_K_writeBlocks l E s5 r6 _ hw) hl.1 (Nat.le_of_ble_eq_true rfl) d_K_mustWait_45 (Nat.le_of_ble_eq_true rfl) (Nat.le_of_ble_eq_true rfl) (fun r8 s7 H locs hw hV => ?_)
    exact kr_z hx hb hr hV hK hX hAe hw.1 hw.2 d_K_mustWait_48
  have hsw := hsw.2
  by_cases hc34 : r2 = 34
  · have hw := hsw.1 hc34
    refine lv_tableIn (off := 45) (tgt := 49) hx hb d_K_mustWait_4 (by rw [hc34]; decide) (by rw [hc34]; decide) (by rw [hc34]; decide) rfl ?_
    refine lv_aload_n hx hb d_K_mustWait_49 rfl (lv_at hl 0 rfl) ?_
    refine lv_aload_n hx hb d_K_mustWait_50 rfl (lv_at hl 1 rfl) ?_
    refine lv_aload_n hx hb d_K_mustWait_51 rfl (lv_at hl 1 rfl) ?_
    refine kc_K_P_top hx hb hml hown hts hV hK hX hAe (c_P_top l E s1 p1 hp1 _ hw) hp1 hl.1 (Nat.le_of_ble_eq_true rfl) d_K_mustWait_52 (Nat.le_of_ble_eq_true rfl) (Nat.le_of_ble_eq_true rfl) (fun r10 s9 H locs hw hV => ?_)
    refine kc_K_P_descriptorAt hx hb hml hown hts hV hK hX hAe (c_P_descriptorAt l E s9 p1 hp1 r10 _ hw) hp1 hl.1 (Nat.le_of_ble_eq_true rfl) d_K_mustWait_55 (Nat.le_of_ble_eq_true rfl) (Nat.le_of_ble_eq_true rfl) (fun r12 s11 H locs hw hV => ?_)
    refine kc_K_K_readBlocks hx hb hml hown hts hV hK hX hAe (c_K_readBlocks l E s11 r12 _ hw) hl.1 (Nat.le_of_ble_eq_true rfl) d_K_mustWait_58 (Nat.le_of_ble_eq_true rfl) (Nat.le_of_ble_eq_true rfl) (fun r14 s13 H locs hw hV => ?_)
    exact kr_z hx hb hr hV hK hX hAe hw.1 hw.2 d_K_mustWait_61
  have hsw := hsw.2
  by_cases hc36 : r2 = 36
  · have hw := hsw.1 hc36
    refine lv_tableIn (off := 58) (tgt := 62) hx hb d_K_mustWait_4 (by rw [hc36]; decide) (by rw [hc36]; decide) (by rw [hc36]; decide) rfl ?_
    refine lv_aload_n hx hb d_K_mustWait_62 rfl (lv_at hl 0 rfl) ?_
    refine lv_aload_n hx hb d_K_mustWait_63 rfl (lv_at hl 1 rfl) ?_
    refine kc_K_K_hasChild hx hb hml hown hts hV hK hX hAe (c_K_hasChild l E s1 p1 hp1 _ hw) hl.1 (Nat.le_of_ble_eq_true rfl) d_K_mustWait_64 (Nat.le_of_ble_eq_true rfl) (Nat.le_of_ble_eq_true rfl) (fun r16 s15 H locs hw hV => ?_)
    refine lv_if_eq (tgt := 82) hx hb d_K_mustWait_67 rfl (fun hc => ?_) (fun hc => ?_)
    · have hw := hw.1 hc
      refine lv_iconst (v := 0) hx hb d_K_mustWait_82 (by decide) ?_
      exact kr_z hx hb hr hV hK hX hAe (by decide) hw d_K_mustWait_83
    · have hw := hw.2 hc
      refine lv_aload_n hx hb d_K_mustWait_70 rfl (lv_at hl 0 rfl) ?_
      refine lv_aload_n hx hb d_K_mustWait_71 rfl (lv_at hl 1 rfl) ?_
      refine kc_K_K_endedChild hx hb hml hown hts hV hK hX hAe (c_K_endedChild l E s15 p1 hp1 _ hw) hl.1 (Nat.le_of_ble_eq_true rfl) d_K_mustWait_72 (Nat.le_of_ble_eq_true rfl) (Nat.le_of_ble_eq_true rfl) (fun o18 s17 H locs ho18 hw hV => ?_)
      rcases o18 with _ | z19
      · have hw := hw.1 rfl
        have hl : lv_has ls 2 [(0, .ref (ea E 0 0)), (1, .ref (ea E 1 p1))] := hl
        show W _ _ _ _ _ _ _ _ _ _ _ _ _ _ _ (F0 m 75 ls [.null])
        refine lv_ifnonnullN hx hb d_K_mustWait_75 ?_
        refine lv_iconst (v := 1) hx hb d_K_mustWait_78 (by decide) ?_
        refine lv_goto (tgt := 83) hx hb d_K_mustWait_79 rfl ?_
        exact kr_z hx hb hr hV hK hX hAe (by decide) hw d_K_mustWait_83
      · have hw := hw.2 z19 rfl
        have hl : lv_has ls 2 [(0, .ref (ea E 0 0)), (1, .ref (ea E 1 p1))] := hl
        show W _ _ _ _ _ _ _ _ _ _ _ _ _ _ _ (F0 m 75 ls [.ref (ea E 1 z19)])
        refine lv_ifnonnull (tgt := 82) hx hb d_K_mustWait_75 rfl ?_
        refine lv_iconst (v := 0) hx hb d_K_mustWait_82 (by decide) ?_
        exact kr_z hx hb hr hV hK hX hAe (by decide) hw d_K_mustWait_83
  have hsw := hsw.2
  have hw := hsw ⟨hc33, hc34, hc36⟩
  refine kr_dflt (g2 := F0 m 84 ls []) ?_ (fun kd => ?_)
  · refine lv_iconst (v := 0) hx hb d_K_mustWait_84 (by decide) ?_
    exact kr_z hx hb hr hV hK hX hAe (by decide) hw d_K_mustWait_85
  by_cases hc35 : r2 = 35
  · exact lv_tableIn (off := 80) (tgt := 84) hx hb d_K_mustWait_4 (by rw [hc35]; decide) (by rw [hc35]; decide) (by rw [hc35]; decide) rfl kd
  have hn33 : ¬ r2.toInt = 33 := lv_neT hc33 (by decide)
  have hn34 : ¬ r2.toInt = 34 := lv_neT hc34 (by decide)
  have hn35 : ¬ r2.toInt = 35 := lv_neT hc35 (by decide)
  have hn36 : ¬ r2.toInt = 36 := lv_neT hc36 (by decide)
  exact lv_tableOut (tgt := 84) hx hb d_K_mustWait_4 (by omega) rfl kd
theorem d_K_close_0 : decode b_K_close 0 = .ok (.aload_n 1, 1) := by decide +kernel
theorem d_K_close_1 : decode b_K_close 1 = .ok (.invokevirtual 253, 3) := by decide +kernel
theorem d_K_close_4 : decode b_K_close 4 = .ok (.istore_n 2, 1) := by decide +kernel
theorem d_K_close_5 : decode b_K_close 5 = .ok (.aload_n 1, 1) := by decide +kernel
theorem d_K_close_6 : decode b_K_close 6 = .ok (.iload_n 2, 1) := by decide +kernel
theorem d_K_close_7 : decode b_K_close 7 = .ok (.invokevirtual 213, 3) := by decide +kernel
theorem d_K_close_10 : decode b_K_close 10 = .ok (.ifCond .ne 9, 3) := by decide +kernel
theorem d_K_close_13 : decode b_K_close 13 = .ok (.aload_n 1, 1) := by decide +kernel
theorem d_K_close_14 : decode b_K_close 14 = .ok (.iconst (-1), 1) := by decide +kernel
theorem d_K_close_15 : decode b_K_close 15 = .ok (.invokevirtual 259, 3) := by decide +kernel
theorem d_K_close_18 : decode b_K_close 18 = .ok (.return_, 1) := by decide +kernel
theorem d_K_close_19 : decode b_K_close 19 = .ok (.aload_n 0, 1) := by decide +kernel
theorem d_K_close_20 : decode b_K_close 20 = .ok (.aload_n 0, 1) := by decide +kernel
theorem d_K_close_21 : decode b_K_close 21 = .ok (.aload_n 1, 1) := by decide +kernel
theorem d_K_close_22 : decode b_K_close 22 = .ok (.iload_n 2, 1) := by decide +kernel
theorem d_K_close_23 : decode b_K_close 23 = .ok (.invokevirtual 332, 3) := by decide +kernel
theorem d_K_close_26 : decode b_K_close 26 = .ok (.invokevirtual 122, 3) := by decide +kernel
theorem d_K_close_29 : decode b_K_close 29 = .ok (.aload_n 1, 1) := by decide +kernel
theorem d_K_close_30 : decode b_K_close 30 = .ok (.iconst 0, 1) := by decide +kernel
theorem d_K_close_31 : decode b_K_close 31 = .ok (.invokevirtual 259, 3) := by decide +kernel
theorem d_K_close_34 : decode b_K_close 34 = .ok (.return_, 1) := by decide +kernel
def w_K_close (cp : Nat) (p1 : Nat) (s0 : KS) (Φ : KS → Prop) : Prop := w_P_pop cp p1 s0 (fun r2 s1 => w_P_descriptorAt cp p1 r2 s1 (fun r4 s3 => ((¬ r4 = 0 → w_K_closeDescriptor cp p1 r2 s3 (fun r6 s5 => w_K_wakeAll cp r6 s5 (fun s7 => w_P_push cp p1 (0 : Int32) s7 (fun s8 => Φ s8)))) ∧ (r4 = 0 → w_P_push cp p1 (-1 : Int32) s3 (fun s9 => Φ s9)))))
set_option maxHeartbeats 4000000 in
set_option maxRecDepth 100000 in
theorem c_K_close (l : Launch) (E : gE) (s0 : KS) (p1 : Nat) (hp1 : p1 < 16) (Φ : KS → Prop) (hw : w_K_close (eN E) p1 s0 Φ) : gMv l y_K_close v_K_close m_K_close E KK [.ref (ea E 0 0), .ref (ea E 1 p1)] s0 Φ := by
  intro sz
  refine Met.ofW (cc := b_K_close) (maxL := 3) (ret := none) (by decide) rfl ?_
  intro p e s m args below meth c s₁ B hml hv
  obtain ⟨rfl, hsz, hP, hK, hD, hX⟩ := hv
  have hx := B.exec
  have hb := B.bytes
  have hr := B.returns
  have hts := atoms_spec (ws := v_K_close) B.pre
  have hG : ∀ w ∈ gG, w.before _ s = true := fun w h => hts w (List.mem_cons_of_mem _ h)
  have hown : s.vm.findClass R_K = some m.cls := findClass_of_methodNamed B.named
  have hlocks := B.notSynchronized
  subst hsz
  obtain ⟨A, hAe⟩ : ∃ A, A = gA E KK s.heap.size := ⟨_, rfl⟩
  rw [← hAe] at hD hX ⊢
  have hV : gV E KK A s0 s s.heap [] := ⟨hP, hD, va_S.rf⟩
  have hl := lv_entry ([.ref (ea E 0 0), .ref (ea E 1 p1)] : List Value) (n := 3) (Nat.le_of_ble_eq_true rfl)
  rw [lg_entry_eq]
  generalize (lg_sl ([.ref (ea E 0 0), .ref (ea E 1 p1)] : List Value) ++ List.replicate (3 - (lg_sl ([.ref (ea E 0 0), .ref (ea E 1 p1)] : List Value)).length) Slot.unset).toArray = ls at hl ⊢
  have hl : lv_has ls 3 [(0, .ref (ea E 0 0)), (1, .ref (ea E 1 p1))] := hl
  unfold w_K_close at hw
  refine lv_aload_n hx hb d_K_close_0 rfl (lv_at hl 1 rfl) ?_
  refine kc_K_P_pop hx hb hml hown hts hV hK hX hAe (c_P_pop l E s0 p1 hp1 _ hw) hp1 hl.1 (Nat.le_of_ble_eq_true rfl) d_K_close_1 (Nat.le_of_ble_eq_true rfl) (Nat.le_of_ble_eq_true rfl) (fun r2 s1 H locs hw hV => ?_)
  refine lv_istore_n (lv' := [(2, .int r2), (0, .ref (ea E 0 0)), (1, .ref (ea E 1 p1))]) hx hb d_K_close_4 rfl hl (by decide) rfl (fun ls hl => ?_)
  refine lv_aload_n hx hb d_K_close_5 rfl (lv_at hl 2 rfl) ?_
  refine lv_iload_n hx hb d_K_close_6 rfl (lv_at hl 0 rfl) ?_
  refine kc_K_P_descriptorAt hx hb hml hown hts hV hK hX hAe (c_P_descriptorAt l E s1 p1 hp1 r2 _ hw) hp1 hl.1 (Nat.le_of_ble_eq_true rfl) d_K_close_7 (Nat.le_of_ble_eq_true rfl) (Nat.le_of_ble_eq_true rfl) (fun r4 s3 H locs hw hV => ?_)
  refine lv_if_ne (tgt := 19) hx hb d_K_close_10 rfl (fun hc => ?_) (fun hc => ?_)
  · have hw := hw.1 hc
    refine lv_aload_n hx hb d_K_close_19 rfl (lv_at hl 1 rfl) ?_
    refine lv_aload_n hx hb d_K_close_20 rfl (lv_at hl 1 rfl) ?_
    refine lv_aload_n hx hb d_K_close_21 rfl (lv_at hl 2 rfl) ?_
    refine lv_iload_n hx hb d_K_close_22 rfl (lv_at hl 0 rfl) ?_
    refine kc_K_K_closeDescriptor hx hb hml hown hts hV hK hX hAe (c_K_closeDescriptor l E s3 p1 hp1 r2 _ hw) hl.1 (Nat.le_of_ble_eq_true rfl) d_K_close_23 (Nat.le_of_ble_eq_true rfl) (Nat.le_of_ble_eq_true rfl) (fun r6 s5 H locs hw hV => ?_)
    refine kc_K_K_wakeAll hx hb hml hown hts hV hK hX hAe (c_K_wakeAll l E s5 r6 _ hw) hl.1 (Nat.le_of_ble_eq_true rfl) d_K_close_26 (Nat.le_of_ble_eq_true rfl) (Nat.le_of_ble_eq_true rfl) (fun s7 H locs hw hV => ?_)
    refine lv_aload_n hx hb d_K_close_29 rfl (lv_at hl 2 rfl) ?_
    refine lv_iconst (v := 0) hx hb d_K_close_30 (by decide) ?_
    refine kc_K_P_push hx hb hml hown hts hV hK hX hAe (c_P_push l E s7 p1 hp1 (0 : Int32) _ hw) hp1 hl.1 (Nat.le_of_ble_eq_true rfl) d_K_close_31 (Nat.le_of_ble_eq_true rfl) (Nat.le_of_ble_eq_true rfl) (fun s8 H locs hw hV => ?_)
    exact kr_v hx hb hr hV hK hX hAe hw d_K_close_34
  · have hw := hw.2 hc
    refine lv_aload_n hx hb d_K_close_13 rfl (lv_at hl 2 rfl) ?_
    refine lv_iconst (v := -1) hx hb d_K_close_14 (by decide) ?_
    refine kc_K_P_push hx hb hml hown hts hV hK hX hAe (c_P_push l E s3 p1 hp1 (-1 : Int32) _ hw) hp1 hl.1 (Nat.le_of_ble_eq_true rfl) d_K_close_15 (Nat.le_of_ble_eq_true rfl) (Nat.le_of_ble_eq_true rfl) (fun s9 H locs hw hV => ?_)
    exact kr_v hx hb hr hV hK hX hAe hw d_K_close_18
theorem d_K_addEnd_0 : decode b_K_addEnd 0 = .ok (.iload_n 1, 1) := by decide +kernel
theorem d_K_addEnd_1 : decode b_K_addEnd 1 = .ok (.bipush 10, 2) := by decide +kernel
theorem d_K_addEnd_3 : decode b_K_addEnd 3 = .ok (.if_icmp .lt 13, 3) := by decide +kernel
theorem d_K_addEnd_6 : decode b_K_addEnd 6 = .ok (.aload_n 0, 1) := by decide +kernel
theorem d_K_addEnd_7 : decode b_K_addEnd 7 = .ok (.getfield 21, 3) := by decide +kernel
theorem d_K_addEnd_10 : decode b_K_addEnd 10 = .ok (.iload_n 1, 1) := by decide +kernel
theorem d_K_addEnd_11 : decode b_K_addEnd 11 = .ok (.dup2, 1) := by decide +kernel
theorem d_K_addEnd_12 : decode b_K_addEnd 12 = .ok (.iaload, 1) := by decide +kernel
theorem d_K_addEnd_13 : decode b_K_addEnd 13 = .ok (.iconst 1, 1) := by decide +kernel
theorem d_K_addEnd_14 : decode b_K_addEnd 14 = .ok (.iadd, 1) := by decide +kernel
theorem d_K_addEnd_15 : decode b_K_addEnd 15 = .ok (.iastore, 1) := by decide +kernel
theorem d_K_addEnd_16 : decode b_K_addEnd 16 = .ok (.return_, 1) := by decide +kernel
def w_K_addEnd (cp : Nat) (x1 : Int32) (s0 : KS) (Φ : KS → Prop) : Prop := ((x1 < (10 : Int32) → Φ s0) ∧ (¬ x1 < (10 : Int32) → vp_in x1 28 ∧ vp_in x1 28 ∧ ∀ s1 : KS, s1 = w3 s0 7 0 x1.toNatClampNeg ((s0 7 0 x1.toNatClampNeg) + (1 : Int32)) → Φ s1))
set_option maxHeartbeats 4000000 in
set_option maxRecDepth 100000 in
theorem c_K_addEnd (l : Launch) (E : gE) (s0 : KS) (x1 : Int32) (Φ : KS → Prop) (hw : w_K_addEnd (eN E) x1 s0 Φ) : gMv l y_K_addEnd v_K_addEnd m_K_addEnd E KK [.ref (ea E 0 0), .int x1] s0 Φ := by
  intro sz
  refine Met.ofW (cc := b_K_addEnd) (maxL := 2) (ret := none) (by decide) rfl ?_
  intro p e s m args below meth c s₁ B hml hv
  obtain ⟨rfl, hsz, hP, hK, hD, hX⟩ := hv
  have hx := B.exec
  have hb := B.bytes
  have hr := B.returns
  have hts := atoms_spec (ws := v_K_addEnd) B.pre
  have hG : ∀ w ∈ gG, w.before _ s = true := fun w h => hts w (List.mem_cons_of_mem _ h)
  have hown : s.vm.findClass R_K = some m.cls := findClass_of_methodNamed B.named
  have hlocks := B.notSynchronized
  subst hsz
  obtain ⟨A, hAe⟩ : ∃ A, A = gA E KK s.heap.size := ⟨_, rfl⟩
  rw [← hAe] at hD hX ⊢
  have hV : gV E KK A s0 s s.heap [] := ⟨hP, hD, va_S.rf⟩
  have hl := lv_entry ([.ref (ea E 0 0), .int x1] : List Value) (n := 2) (Nat.le_of_ble_eq_true rfl)
  rw [lg_entry_eq]
  generalize (lg_sl ([.ref (ea E 0 0), .int x1] : List Value) ++ List.replicate (2 - (lg_sl ([.ref (ea E 0 0), .int x1] : List Value)).length) Slot.unset).toArray = ls at hl ⊢
  have hl : lv_has ls 2 [(0, .ref (ea E 0 0)), (1, .int x1)] := hl
  unfold w_K_addEnd at hw
  refine lv_iload_n hx hb d_K_addEnd_0 rfl (lv_at hl 1 rfl) ?_
  refine lv_bipush (v := 10) hx hb d_K_addEnd_1 (by decide) ?_
  refine lv_icmp_lt (tgt := 16) hx hb d_K_addEnd_3 rfl (fun hc => ?_) (fun hc => ?_)
  · have hw := hw.1 hc
    exact kr_v hx hb hr hV hK hX hAe hw d_K_addEnd_16
  · have hw := hw.2 hc
    refine lv_aload_n hx hb d_K_addEnd_6 rfl (lv_at hl 0 rfl) ?_
    refine kg_K_K_ends hx hb hG hown hK hV d_K_addEnd_7 ?_
    refine lv_iload_n hx hb d_K_addEnd_10 rfl (lv_at hl 1 rfl) ?_
    refine lv_dup2_11 hx hb d_K_addEnd_11 rfl rfl ?_
    refine kl_7 hx hb hK hV hw.1 d_K_addEnd_12 ?_
    have hw := hw.2
    refine lv_iconst (v := 1) hx hb d_K_addEnd_13 (by decide) ?_
    refine lv_iadd hx hb d_K_addEnd_14 ?_
    refine ks_7 hx hb hK hV hw.1 d_K_addEnd_15 (fun s1 H locs es1 hV => ?_)
    have hw := hw.2 s1 es1
    exact kr_v hx hb hr hV hK hX hAe hw d_K_addEnd_16
theorem d_K_openDescriptor_0 : decode b_K_openDescriptor 0 = .ok (.aload_n 1, 1) := by decide +kernel
theorem d_K_openDescriptor_1 : decode b_K_openDescriptor 1 = .ok (.invokevirtual 329, 3) := by decide +kernel
theorem d_K_openDescriptor_4 : decode b_K_openDescriptor 4 = .ok (.istore_n 3, 1) := by decide +kernel
theorem d_K_openDescriptor_5 : decode b_K_openDescriptor 5 = .ok (.iload_n 3, 1) := by decide +kernel
theorem d_K_openDescriptor_6 : decode b_K_openDescriptor 6 = .ok (.iconst (-1), 1) := by decide +kernel
theorem d_K_openDescriptor_7 : decode b_K_openDescriptor 7 = .ok (.if_icmp .eq 15, 3) := by decide +kernel
theorem d_K_openDescriptor_10 : decode b_K_openDescriptor 10 = .ok (.aload_n 1, 1) := by decide +kernel
theorem d_K_openDescriptor_11 : decode b_K_openDescriptor 11 = .ok (.getfield 89, 3) := by decide +kernel
theorem d_K_openDescriptor_14 : decode b_K_openDescriptor 14 = .ok (.iload_n 3, 1) := by decide +kernel
theorem d_K_openDescriptor_15 : decode b_K_openDescriptor 15 = .ok (.iload_n 2, 1) := by decide +kernel
theorem d_K_openDescriptor_16 : decode b_K_openDescriptor 16 = .ok (.iastore, 1) := by decide +kernel
theorem d_K_openDescriptor_17 : decode b_K_openDescriptor 17 = .ok (.aload_n 0, 1) := by decide +kernel
theorem d_K_openDescriptor_18 : decode b_K_openDescriptor 18 = .ok (.iload_n 2, 1) := by decide +kernel
theorem d_K_openDescriptor_19 : decode b_K_openDescriptor 19 = .ok (.invokevirtual 313, 3) := by decide +kernel
theorem d_K_openDescriptor_22 : decode b_K_openDescriptor 22 = .ok (.iload_n 3, 1) := by decide +kernel
theorem d_K_openDescriptor_23 : decode b_K_openDescriptor 23 = .ok (.ireturn, 1) := by decide +kernel
def w_K_openDescriptor (cp : Nat) (p1 : Nat) (x2 : Int32) (s0 : KS) (Φ : Int32 → KS → Prop) : Prop := w_P_leastClosed cp p1 s0 (fun r2 s1 => ((r2 = (-1 : Int32) → Φ r2 s1) ∧ (¬ r2 = (-1 : Int32) → vp_in r2 8 ∧ ∀ s3 : KS, s3 = w3 s1 4 p1 r2.toNatClampNeg x2 → w_K_addEnd cp x2 s3 (fun s4 => Φ r2 s4))))
set_option maxHeartbeats 4000000 in
set_option maxRecDepth 100000 in
theorem c_K_openDescriptor (l : Launch) (E : gE) (s0 : KS) (p1 : Nat) (hp1 : p1 < 16) (x2 : Int32) (Φ : Int32 → KS → Prop) (hw : w_K_openDescriptor (eN E) p1 x2 s0 Φ) : gMi l y_K_openDescriptor v_K_openDescriptor m_K_openDescriptor E KK [.ref (ea E 0 0), .ref (ea E 1 p1), .int x2] s0 Φ := by
  intro sz
  refine Met.ofW (cc := b_K_openDescriptor) (maxL := 4) (ret := (some .int)) (by decide) rfl ?_
  intro p e s m args below meth c s₁ B hml hv
  obtain ⟨rfl, hsz, hP, hK, hD, hX⟩ := hv
  have hx := B.exec
  have hb := B.bytes
  have hr := B.returns
  have hts := atoms_spec (ws := v_K_openDescriptor) B.pre
  have hG : ∀ w ∈ gG, w.before _ s = true := fun w h => hts w (List.mem_cons_of_mem _ h)
  have hown : s.vm.findClass R_K = some m.cls := findClass_of_methodNamed B.named
  have hlocks := B.notSynchronized
  subst hsz
  obtain ⟨A, hAe⟩ : ∃ A, A = gA E KK s.heap.size := ⟨_, rfl⟩
  rw [← hAe] at hD hX ⊢
  have hV : gV E KK A s0 s s.heap [] := ⟨hP, hD, va_S.rf⟩
  have hl := lv_entry ([.ref (ea E 0 0), .ref (ea E 1 p1), .int x2] : List Value) (n := 4) (Nat.le_of_ble_eq_true rfl)
  rw [lg_entry_eq]
  generalize (lg_sl ([.ref (ea E 0 0), .ref (ea E 1 p1), .int x2] : List Value) ++ List.replicate (4 - (lg_sl ([.ref (ea E 0 0), .ref (ea E 1 p1), .int x2] : List Value)).length) Slot.unset).toArray = ls at hl ⊢
  have hl : lv_has ls 4 [(0, .ref (ea E 0 0)), (1, .ref (ea E 1 p1)), (2, .int x2)] := hl
  unfold w_K_openDescriptor at hw
  refine lv_aload_n hx hb d_K_openDescriptor_0 rfl (lv_at hl 1 rfl) ?_
  refine kc_K_P_leastClosed hx hb hml hown hts hV hK hX hAe (c_P_leastClosed l E s0 p1 hp1 _ hw) hp1 hl.1 (Nat.le_of_ble_eq_true rfl) d_K_openDescriptor_1 (Nat.le_of_ble_eq_true rfl) (Nat.le_of_ble_eq_true rfl) (fun r2 s1 H locs hw hV => ?_)
  refine lv_istore_n (lv' := [(3, .int r2), (0, .ref (ea E 0 0)), (1, .ref (ea E 1 p1)), (2, .int x2)]) hx hb d_K_openDescriptor_4 rfl hl (by decide) rfl (fun ls hl => ?_)
  refine lv_iload_n hx hb d_K_openDescriptor_5 rfl (lv_at hl 0 rfl) ?_
  refine lv_iconst (v := -1) hx hb d_K_openDescriptor_6 (by decide) ?_
  refine lv_icmp_eq (tgt := 22) hx hb d_K_openDescriptor_7 rfl (fun hc => ?_) (fun hc => ?_)
  · have hw := hw.1 hc
    refine lv_iload_n hx hb d_K_openDescriptor_22 rfl (lv_at hl 0 rfl) ?_
    exact kr_i hx hb hr hV hK hX hAe hw d_K_openDescriptor_23
  · have hw := hw.2 hc
    refine lv_aload_n hx hb d_K_openDescriptor_10 rfl (lv_at hl 2 rfl) ?_
    refine kg_K_P_descriptors hx hb hG hown hK hV hp1 d_K_openDescriptor_11 ?_
    refine lv_iload_n hx hb d_K_openDescriptor_14 rfl (lv_at hl 0 rfl) ?_
    refine lv_iload_n hx hb d_K_openDescriptor_15 rfl (lv_at hl 3 rfl) ?_
    refine ks_4 hx hb hK hV hp1 hw.1 d_K_openDescriptor_16 (fun s3 H locs es3 hV => ?_)
    have hw := hw.2 s3 es3
    refine lv_aload_n hx hb d_K_openDescriptor_17 rfl (lv_at hl 1 rfl) ?_
    refine lv_iload_n hx hb d_K_openDescriptor_18 rfl (lv_at hl 3 rfl) ?_
    refine kc_K_K_addEnd hx hb hml hown hts hV hK hX hAe (c_K_addEnd l E s3 x2 _ hw) hl.1 (Nat.le_of_ble_eq_true rfl) d_K_openDescriptor_19 (Nat.le_of_ble_eq_true rfl) (Nat.le_of_ble_eq_true rfl) (fun s4 H locs hw hV => ?_)
    refine lv_iload_n hx hb d_K_openDescriptor_22 rfl (lv_at hl 0 rfl) ?_
    exact kr_i hx hb hr hV hK hX hAe hw d_K_openDescriptor_23

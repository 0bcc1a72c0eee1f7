theorem d_M_thrown_0 : decode b_M_thrown 0 = .ok (.aload_n 0, 1) := by decide +kernel
theorem d_M_thrown_1 : decode b_M_thrown 1 = .ok (.getfield 68, 3) := by decide +kernel
theorem d_M_thrown_4 : decode b_M_thrown 4 = .ok (.ireturn, 1) := by decide +kernel
def w_M_thrown (s0 : KS) (Φ : Int32 → KS → Prop) : Prop := Φ (s0 20 0 0) s0
set_option maxHeartbeats 4000000 in
set_option maxRecDepth 100000 in
theorem c_M_thrown (l : Launch) (E : gE) (s0 : KS)  (Φ : Int32 → KS → Prop) (hw : w_M_thrown s0 Φ) : gMi l y_M_thrown v_M_thrown m_M_thrown E MM [.ref (ea E 20 0)] s0 Φ := by
  intro sz
  refine Met.ofW (cc := b_M_thrown) (maxL := 1) (ret := (some .int)) (by decide) rfl ?_
  intro p e s m args below meth c s₁ B hml hv
  obtain ⟨rfl, hsz, hP, hK, hD, hX⟩ := hv
  have hx := B.exec
  have hb := B.bytes
  have hr := B.returns
  have hts := atoms_spec (ws := v_M_thrown) B.pre
  have hG : ∀ w ∈ gG, w.before _ s = true := fun w h => hts w (List.mem_cons_of_mem _ h)
  have hown : s.vm.findClass R_M = some m.cls := findClass_of_methodNamed B.named
  have hlocks := B.notSynchronized
  subst hsz
  obtain ⟨A, hAe⟩ : ∃ A, A = gA E MM s.heap.size := ⟨_, rfl⟩
  rw [← hAe] at hD hX ⊢
  have hV : gV E MM A s0 s s.heap [] := ⟨hP, hD, va_S.rf⟩
  have hl := lv_entry ([.ref (ea E 20 0)] : List Value) (n := 1) (Nat.le_of_ble_eq_true rfl)
  rw [lg_entry_eq]
  generalize (lg_sl ([.ref (ea E 20 0)] : List Value) ++ List.replicate (1 - (lg_sl ([.ref (ea E 20 0)] : List Value)).length) Slot.unset).toArray = ls at hl ⊢
  have hl : lv_has ls 1 [(0, .ref (ea E 20 0))] := hl
  unfold w_M_thrown at hw
  refine lv_aload_n hx hb d_M_thrown_0 rfl (lv_at hl 0 rfl) ?_
  refine kg_M_M_code hx hb hG hown hK hV d_M_thrown_1 ?_
  exact kr_i hx hb hr hV hK hX hAe hw d_M_thrown_4
theorem d_M_load_0 : decode b_M_load 0 = .ok (.aload_n 0, 1) := by decide +kernel
theorem d_M_load_1 : decode b_M_load 1 = .ok (.iload_n 1, 1) := by decide +kernel
theorem d_M_load_2 : decode b_M_load 2 = .ok (.ifCond .lt 10, 3) := by decide +kernel
theorem d_M_load_5 : decode b_M_load 5 = .ok (.iload_n 1, 1) := by decide +kernel
theorem d_M_load_6 : decode b_M_load 6 = .ok (.sipush 128, 3) := by decide +kernel
theorem d_M_load_9 : decode b_M_load 9 = .ok (.if_icmp .lt 7, 3) := by decide +kernel
theorem d_M_load_12 : decode b_M_load 12 = .ok (.iconst 1, 1) := by decide +kernel
theorem d_M_load_13 : decode b_M_load 13 = .ok (.goto 15, 3) := by decide +kernel
theorem d_M_load_16 : decode b_M_load 16 = .ok (.aload_n 0, 1) := by decide +kernel
theorem d_M_load_17 : decode b_M_load 17 = .ok (.getfield 71, 3) := by decide +kernel
theorem d_M_load_20 : decode b_M_load 20 = .ok (.ifCond .eq 7, 3) := by decide +kernel
theorem d_M_load_23 : decode b_M_load 23 = .ok (.iconst 2, 1) := by decide +kernel
theorem d_M_load_24 : decode b_M_load 24 = .ok (.goto 4, 3) := by decide +kernel
theorem d_M_load_27 : decode b_M_load 27 = .ok (.iconst 0, 1) := by decide +kernel
theorem d_M_load_28 : decode b_M_load 28 = .ok (.putfield 68, 3) := by decide +kernel
theorem d_M_load_31 : decode b_M_load 31 = .ok (.aload_n 0, 1) := by decide +kernel
theorem d_M_load_32 : decode b_M_load 32 = .ok (.getfield 68, 3) := by decide +kernel
theorem d_M_load_35 : decode b_M_load 35 = .ok (.ifCond .ne 10, 3) := by decide +kernel
theorem d_M_load_38 : decode b_M_load 38 = .ok (.aload_n 0, 1) := by decide +kernel
theorem d_M_load_39 : decode b_M_load 39 = .ok (.getfield 7, 3) := by decide +kernel
theorem d_M_load_42 : decode b_M_load 42 = .ok (.iload_n 1, 1) := by decide +kernel
theorem d_M_load_43 : decode b_M_load 43 = .ok (.iload_n 2, 1) := by decide +kernel
theorem d_M_load_44 : decode b_M_load 44 = .ok (.iastore, 1) := by decide +kernel
theorem d_M_load_45 : decode b_M_load 45 = .ok (.return_, 1) := by decide +kernel
def w_M_load_28 (x1 : Int32) (x2 : Int32) (Φ : KS → Prop) (t0 : Int32) (s0 : KS) : Prop := ∀ s1 : KS, s1 = w3 s0 20 0 0 t0 → ((¬ (s1 20 0 0) = 0 → Φ s1) ∧ ((s1 20 0 0) = 0 → vp_in x1 128 ∧ ∀ s2 : KS, s2 = w3 s1 25 0 x1.toNatClampNeg x2 → Φ s2))
def w_M_load_12 (x1 : Int32) (x2 : Int32) (Φ : KS → Prop) (s0 : KS) : Prop := w_M_load_28 x1 x2 Φ (1 : Int32) s0
def w_M_load (x1 : Int32) (x2 : Int32) (s0 : KS) (Φ : KS → Prop) : Prop := ((x1 < 0 → w_M_load_12 x1 x2 Φ s0) ∧ (¬ x1 < 0 → ((x1 < (128 : Int32) → (((s0 20 0 3) = 0 → w_M_load_28 x1 x2 Φ (0 : Int32) s0) ∧ (¬ (s0 20 0 3) = 0 → w_M_load_28 x1 x2 Φ (2 : Int32) s0))) ∧ (¬ x1 < (128 : Int32) → w_M_load_12 x1 x2 Φ s0))))
set_option maxHeartbeats 4000000 in
set_option maxRecDepth 100000 in
theorem c_M_load (l : Launch) (E : gE) (s0 : KS) (x1 : Int32) (x2 : Int32) (Φ : KS → Prop) (hw : w_M_load x1 x2 s0 Φ) : gMv l y_M_load v_M_load m_M_load E MM [.ref (ea E 20 0), .int x1, .int x2] s0 Φ := by
  intro sz
  refine Met.ofW (cc := b_M_load) (maxL := 3) (ret := none) (by decide) rfl ?_
  intro p e s m args below meth c s₁ B hml hv
  obtain ⟨rfl, hsz, hP, hK, hD, hX⟩ := hv
  have hx := B.exec
  have hb := B.bytes
  have hr := B.returns
  have hts := atoms_spec (ws := v_M_load) B.pre
  have hG : ∀ w ∈ gG, w.before _ s = true := fun w h => hts w (List.mem_cons_of_mem _ h)
  have hown : s.vm.findClass R_M = some m.cls := findClass_of_methodNamed B.named
  have hlocks := B.notSynchronized
  subst hsz
  obtain ⟨A, hAe⟩ : ∃ A, A = gA E MM s.heap.size := ⟨_, rfl⟩
  rw [← hAe] at hD hX ⊢
  have hV : gV E MM A s0 s s.heap [] := ⟨hP, hD, va_S.rf⟩
  have hl := lv_entry ([.ref (ea E 20 0), .int x1, .int x2] : List Value) (n := 3) (Nat.le_of_ble_eq_true rfl)
  rw [lg_entry_eq]
  generalize (lg_sl ([.ref (ea E 20 0), .int x1, .int x2] : List Value) ++ List.replicate (3 - (lg_sl ([.ref (ea E 20 0), .int x1, .int x2] : List Value)).length) Slot.unset).toArray = ls at hl ⊢
  have hl : lv_has ls 3 [(0, .ref (ea E 20 0)), (1, .int x1), (2, .int x2)] := hl
  have J28 : ∀ (ls : Array Slot) (H : Heap) (locs : List Loc) (s0 : KS) (t0 : Int32), lv_has ls 3 [(0, .ref (ea E 20 0)), (1, .int x1), (2, .int x2)] → gV E MM A s0 s H locs → w_M_load_28 x1 x2 Φ t0 s0 → W p l e m_M_load s m ([.ref (ea E 20 0), .int x1, .int x2] : List Value).toArray below meth c H locs 0 0 (MQ below (gQv E MM A Φ) ([.ref (ea E 20 0), .int x1, .int x2] : List Value).toArray s 0 0 A) (F0 m 28 ls [.int t0, .ref (ea E 20 0)]) := by
    intro  ls H locs s0 t0 hl hV hw
    unfold w_M_load_28 at hw
    refine kp_M_M_code hx hb hG hown hK hV d_M_load_28 (fun s1 H locs es1 hV => ?_)
    have hw := hw s1 es1
    refine lv_aload_n hx hb d_M_load_31 rfl (lv_at hl 0 rfl) ?_
    refine kg_M_M_code hx hb hG hown hK hV d_M_load_32 ?_
    refine lv_if_ne (tgt := 45) hx hb d_M_load_35 rfl (fun hc => ?_) (fun hc => ?_)
    · have hw := hw.1 hc
      exact kr_v hx hb hr hV hK hX hAe hw d_M_load_45
    · have hw := hw.2 hc
      refine lv_aload_n hx hb d_M_load_38 rfl (lv_at hl 0 rfl) ?_
      refine kg_M_M_image hx hb hG hown hK hV d_M_load_39 ?_
      refine lv_iload_n hx hb d_M_load_42 rfl (lv_at hl 1 rfl) ?_
      refine lv_iload_n hx hb d_M_load_43 rfl (lv_at hl 2 rfl) ?_
      refine ks_25 hx hb hK hV hw.1 d_M_load_44 (fun s2 H locs es2 hV => ?_)
      have hw := hw.2 s2 es2
      exact kr_v hx hb hr hV hK hX hAe hw d_M_load_45
  have J12 : ∀ (ls : Array Slot) (H : Heap) (locs : List Loc) (s0 : KS), lv_has ls 3 [(0, .ref (ea E 20 0)), (1, .int x1), (2, .int x2)] → gV E MM A s0 s H locs → w_M_load_12 x1 x2 Φ s0 → W p l e m_M_load s m ([.ref (ea E 20 0), .int x1, .int x2] : List Value).toArray below meth c H locs 0 0 (MQ below (gQv E MM A Φ) ([.ref (ea E 20 0), .int x1, .int x2] : List Value).toArray s 0 0 A) (F0 m 12 ls [.ref (ea E 20 0)]) := by
    intro  ls H locs s0 hl hV hw
    unfold w_M_load_12 at hw
    refine lv_iconst (v := 1) hx hb d_M_load_12 (by decide) ?_
    refine lv_goto (tgt := 28) hx hb d_M_load_13 rfl ?_
    exact J28 _ _ _ s0 (1 : Int32) (lv_sub hl [0, 1, 2] rfl) hV hw
  unfold w_M_load at hw
  refine lv_aload_n hx hb d_M_load_0 rfl (lv_at hl 0 rfl) ?_
  refine lv_iload_n hx hb d_M_load_1 rfl (lv_at hl 1 rfl) ?_
  refine lv_if_lt (tgt := 12) hx hb d_M_load_2 rfl (fun hc => ?_) (fun hc => ?_)
  · have hw := hw.1 hc
    exact J12 _ _ _ s0 (lv_sub hl [0, 1, 2] rfl) hV hw
  · have hw := hw.2 hc
    refine lv_iload_n hx hb d_M_load_5 rfl (lv_at hl 1 rfl) ?_
    refine lv_sipush (v := 128) hx hb d_M_load_6 (by decide) ?_
    refine lv_icmp_lt (tgt := 16) hx hb d_M_load_9 rfl (fun hc => ?_) (fun hc => ?_)
    · have hw := hw.1 hc
      refine lv_aload_n hx hb d_M_load_16 rfl (lv_at hl 0 rfl) ?_
      refine kg_M_M_booted hx hb hG hown hK hV d_M_load_17 ?_
      refine lv_if_eq (tgt := 27) hx hb d_M_load_20 rfl (fun hc => ?_) (fun hc => ?_)
      · have hw := hw.1 hc
        refine lv_iconst (v := 0) hx hb d_M_load_27 (by decide) ?_
        exact J28 _ _ _ s0 (0 : Int32) (lv_sub hl [0, 1, 2] rfl) hV hw
      · have hw := hw.2 hc
        refine lv_iconst (v := 2) hx hb d_M_load_23 (by decide) ?_
        refine lv_goto (tgt := 28) hx hb d_M_load_24 rfl ?_
        exact J28 _ _ _ s0 (2 : Int32) (lv_sub hl [0, 1, 2] rfl) hV hw
    · have hw := hw.2 hc
      exact J12 _ _ _ s0 (lv_sub hl [0, 1, 2] rfl) hV hw
theorem d_M_ready_0 : decode b_M_ready 0 = .ok (.aload_n 0, 1) := by decide +kernel
theorem d_M_ready_1 : decode b_M_ready 1 = .ok (.getfield 13, 3) := by decide +kernel
theorem d_M_ready_4 : decode b_M_ready 4 = .ok (.iload_n 1, 1) := by decide +kernel
theorem d_M_ready_5 : decode b_M_ready 5 = .ok (.iconst 1, 1) := by decide +kernel
theorem d_M_ready_6 : decode b_M_ready 6 = .ok (.iastore, 1) := by decide +kernel
theorem d_M_ready_7 : decode b_M_ready 7 = .ok (.aload_n 0, 1) := by decide +kernel
theorem d_M_ready_8 : decode b_M_ready 8 = .ok (.getfield 37, 3) := by decide +kernel
theorem d_M_ready_11 : decode b_M_ready 11 = .ok (.iload_n 1, 1) := by decide +kernel
theorem d_M_ready_12 : decode b_M_ready 12 = .ok (.iconst 0, 1) := by decide +kernel
theorem d_M_ready_13 : decode b_M_ready 13 = .ok (.iastore, 1) := by decide +kernel
theorem d_M_ready_14 : decode b_M_ready 14 = .ok (.aload_n 0, 1) := by decide +kernel
theorem d_M_ready_15 : decode b_M_ready 15 = .ok (.getfield 40, 3) := by decide +kernel
theorem d_M_ready_18 : decode b_M_ready 18 = .ok (.aload_n 0, 1) := by decide +kernel
theorem d_M_ready_19 : decode b_M_ready 19 = .ok (.getfield 79, 3) := by decide +kernel
theorem d_M_ready_22 : decode b_M_ready 22 = .ok (.iload_n 1, 1) := by decide +kernel
theorem d_M_ready_23 : decode b_M_ready 23 = .ok (.iastore, 1) := by decide +kernel
theorem d_M_ready_24 : decode b_M_ready 24 = .ok (.aload_n 0, 1) := by decide +kernel
theorem d_M_ready_25 : decode b_M_ready 25 = .ok (.dup, 1) := by decide +kernel
theorem d_M_ready_26 : decode b_M_ready 26 = .ok (.getfield 79, 3) := by decide +kernel
theorem d_M_ready_29 : decode b_M_ready 29 = .ok (.iconst 1, 1) := by decide +kernel
theorem d_M_ready_30 : decode b_M_ready 30 = .ok (.iadd, 1) := by decide +kernel
theorem d_M_ready_31 : decode b_M_ready 31 = .ok (.putfield 79, 3) := by decide +kernel
theorem d_M_ready_34 : decode b_M_ready 34 = .ok (.return_, 1) := by decide +kernel
def w_M_ready (x1 : Int32) (s0 : KS) (Φ : KS → Prop) : Prop := vp_in x1 16 ∧ ∀ s1 : KS, s1 = w3 s0 26 0 x1.toNatClampNeg (1 : Int32) → vp_in x1 16 ∧ ∀ s2 : KS, s2 = w3 s1 34 0 x1.toNatClampNeg (0 : Int32) → vp_in (s2 20 0 16) 16 ∧ ∀ s3 : KS, s3 = w3 s2 35 0 (s2 20 0 16).toNatClampNeg x1 → ∀ s4 : KS, s4 = w3 s3 20 0 16 ((s3 20 0 16) + (1 : Int32)) → Φ s4
set_option maxHeartbeats 4000000 in
set_option maxRecDepth 100000 in
theorem c_M_ready (l : Launch) (E : gE) (s0 : KS) (x1 : Int32) (Φ : KS → Prop) (hw : w_M_ready x1 s0 Φ) : gMv l y_M_ready v_M_ready m_M_ready E MM [.ref (ea E 20 0), .int x1] s0 Φ := by
  intro sz
  refine Met.ofW (cc := b_M_ready) (maxL := 2) (ret := none) (by decide) rfl ?_
  intro p e s m args below meth c s₁ B hml hv
  obtain ⟨rfl, hsz, hP, hK, hD, hX⟩ := hv
  have hx := B.exec
  have hb := B.bytes
  have hr := B.returns
  have hts := atoms_spec (ws := v_M_ready) B.pre
  have hG : ∀ w ∈ gG, w.before _ s = true := fun w h => hts w (List.mem_cons_of_mem _ h)
  have hown : s.vm.findClass R_M = some m.cls := findClass_of_methodNamed B.named
  have hlocks := B.notSynchronized
  subst hsz
  obtain ⟨A, hAe⟩ : ∃ A, A = gA E MM s.heap.size := ⟨_, rfl⟩
  rw [← hAe] at hD hX ⊢
  have hV : gV E MM A s0 s s.heap [] := ⟨hP, hD, va_S.rf⟩
  have hl := lv_entry ([.ref (ea E 20 0), .int x1] : List Value) (n := 2) (Nat.le_of_ble_eq_true rfl)
  rw [lg_entry_eq]
  generalize (lg_sl ([.ref (ea E 20 0), .int x1] : List Value) ++ List.replicate (2 - (lg_sl ([.ref (ea E 20 0), .int x1] : List Value)).length) Slot.unset).toArray = ls at hl ⊢
  have hl : lv_has ls 2 [(0, .ref (ea E 20 0)), (1, .int x1)] := hl
  unfold w_M_ready at hw
  refine lv_aload_n hx hb d_M_ready_0 rfl (lv_at hl 0 rfl) ?_
  refine kg_M_M_state hx hb hG hown hK hV d_M_ready_1 ?_
  refine lv_iload_n hx hb d_M_ready_4 rfl (lv_at hl 1 rfl) ?_
  refine lv_iconst (v := 1) hx hb d_M_ready_5 (by decide) ?_
  refine ks_26 hx hb hK hV hw.1 d_M_ready_6 (fun s1 H locs es1 hV => ?_)
  have hw := hw.2 s1 es1
  refine lv_aload_n hx hb d_M_ready_7 rfl (lv_at hl 0 rfl) ?_
  refine kg_M_M_until hx hb hG hown hK hV d_M_ready_8 ?_
  refine lv_iload_n hx hb d_M_ready_11 rfl (lv_at hl 1 rfl) ?_
  refine lv_iconst (v := 0) hx hb d_M_ready_12 (by decide) ?_
  refine ks_34 hx hb hK hV hw.1 d_M_ready_13 (fun s2 H locs es2 hV => ?_)
  have hw := hw.2 s2 es2
  refine lv_aload_n hx hb d_M_ready_14 rfl (lv_at hl 0 rfl) ?_
  refine kg_M_M_queue hx hb hG hown hK hV d_M_ready_15 ?_
  refine lv_aload_n hx hb d_M_ready_18 rfl (lv_at hl 0 rfl) ?_
  refine kg_M_M_queued hx hb hG hown hK hV d_M_ready_19 ?_
  refine lv_iload_n hx hb d_M_ready_22 rfl (lv_at hl 1 rfl) ?_
  refine ks_35 hx hb hK hV hw.1 d_M_ready_23 (fun s3 H locs es3 hV => ?_)
  have hw := hw.2 s3 es3
  refine lv_aload_n hx hb d_M_ready_24 rfl (lv_at hl 0 rfl) ?_
  refine lv_dup hx hb d_M_ready_25 rfl ?_
  refine kg_M_M_queued hx hb hG hown hK hV d_M_ready_26 ?_
  refine lv_iconst (v := 1) hx hb d_M_ready_29 (by decide) ?_
  refine lv_iadd hx hb d_M_ready_30 ?_
  refine kp_M_M_queued hx hb hG hown hK hV d_M_ready_31 (fun s4 H locs es4 hV => ?_)
  have hw := hw s4 es4
  exact kr_v hx hb hr hV hK hX hAe hw d_M_ready_34
theorem d_M_boot_0 : decode b_M_boot 0 = .ok (.aload_n 0, 1) := by decide +kernel
theorem d_M_boot_1 : decode b_M_boot 1 = .ok (.aload_n 0, 1) := by decide +kernel
theorem d_M_boot_2 : decode b_M_boot 2 = .ok (.getfield 71, 3) := by decide +kernel
theorem d_M_boot_5 : decode b_M_boot 5 = .ok (.ifCond .eq 7, 3) := by decide +kernel
theorem d_M_boot_8 : decode b_M_boot 8 = .ok (.iconst 1, 1) := by decide +kernel
theorem d_M_boot_9 : decode b_M_boot 9 = .ok (.goto 4, 3) := by decide +kernel
theorem d_M_boot_12 : decode b_M_boot 12 = .ok (.iconst 0, 1) := by decide +kernel
theorem d_M_boot_13 : decode b_M_boot 13 = .ok (.putfield 68, 3) := by decide +kernel
theorem d_M_boot_16 : decode b_M_boot 16 = .ok (.aload_n 0, 1) := by decide +kernel
theorem d_M_boot_17 : decode b_M_boot 17 = .ok (.getfield 68, 3) := by decide +kernel
theorem d_M_boot_20 : decode b_M_boot 20 = .ok (.ifCond .le 4, 3) := by decide +kernel
theorem d_M_boot_23 : decode b_M_boot 23 = .ok (.return_, 1) := by decide +kernel
theorem d_M_boot_24 : decode b_M_boot 24 = .ok (.aload_n 0, 1) := by decide +kernel
theorem d_M_boot_25 : decode b_M_boot 25 = .ok (.iconst 1, 1) := by decide +kernel
theorem d_M_boot_26 : decode b_M_boot 26 = .ok (.putfield 71, 3) := by decide +kernel
theorem d_M_boot_29 : decode b_M_boot 29 = .ok (.iconst 0, 1) := by decide +kernel
theorem d_M_boot_30 : decode b_M_boot 30 = .ok (.istore_n 1, 1) := by decide +kernel
theorem d_M_boot_31 : decode b_M_boot 31 = .ok (.iload_n 1, 1) := by decide +kernel
theorem d_M_boot_32 : decode b_M_boot 32 = .ok (.sipush 128, 3) := by decide +kernel
theorem d_M_boot_35 : decode b_M_boot 35 = .ok (.if_icmp .ge 21, 3) := by decide +kernel
theorem d_M_boot_38 : decode b_M_boot 38 = .ok (.aload_n 0, 1) := by decide +kernel
theorem d_M_boot_39 : decode b_M_boot 39 = .ok (.getfield 16, 3) := by decide +kernel
theorem d_M_boot_42 : decode b_M_boot 42 = .ok (.iload_n 1, 1) := by decide +kernel
theorem d_M_boot_43 : decode b_M_boot 43 = .ok (.aload_n 0, 1) := by decide +kernel
theorem d_M_boot_44 : decode b_M_boot 44 = .ok (.getfield 7, 3) := by decide +kernel
theorem d_M_boot_47 : decode b_M_boot 47 = .ok (.iload_n 1, 1) := by decide +kernel
theorem d_M_boot_48 : decode b_M_boot 48 = .ok (.iaload, 1) := by decide +kernel
theorem d_M_boot_49 : decode b_M_boot 49 = .ok (.iastore, 1) := by decide +kernel
theorem d_M_boot_50 : decode b_M_boot 50 = .ok (.iinc 1 1, 3) := by decide +kernel
theorem d_M_boot_53 : decode b_M_boot 53 = .ok (.goto (-22), 3) := by decide +kernel
theorem d_M_boot_56 : decode b_M_boot 56 = .ok (.aload_n 0, 1) := by decide +kernel
theorem d_M_boot_57 : decode b_M_boot 57 = .ok (.getfield 31, 3) := by decide +kernel
theorem d_M_boot_60 : decode b_M_boot 60 = .ok (.iconst 0, 1) := by decide +kernel
theorem d_M_boot_61 : decode b_M_boot 61 = .ok (.iconst (-1), 1) := by decide +kernel
theorem d_M_boot_62 : decode b_M_boot 62 = .ok (.iastore, 1) := by decide +kernel
theorem d_M_boot_63 : decode b_M_boot 63 = .ok (.aload_n 0, 1) := by decide +kernel
theorem d_M_boot_64 : decode b_M_boot 64 = .ok (.getfield 28, 3) := by decide +kernel
theorem d_M_boot_67 : decode b_M_boot 67 = .ok (.iconst 0, 1) := by decide +kernel
theorem d_M_boot_68 : decode b_M_boot 68 = .ok (.iconst 1, 1) := by decide +kernel
theorem d_M_boot_69 : decode b_M_boot 69 = .ok (.iastore, 1) := by decide +kernel
theorem d_M_boot_70 : decode b_M_boot 70 = .ok (.aload_n 0, 1) := by decide +kernel
theorem d_M_boot_71 : decode b_M_boot 71 = .ok (.getfield 28, 3) := by decide +kernel
theorem d_M_boot_74 : decode b_M_boot 74 = .ok (.iconst 1, 1) := by decide +kernel
theorem d_M_boot_75 : decode b_M_boot 75 = .ok (.iconst 2, 1) := by decide +kernel
theorem d_M_boot_76 : decode b_M_boot 76 = .ok (.iastore, 1) := by decide +kernel
theorem d_M_boot_77 : decode b_M_boot 77 = .ok (.aload_n 0, 1) := by decide +kernel
theorem d_M_boot_78 : decode b_M_boot 78 = .ok (.iconst 0, 1) := by decide +kernel
theorem d_M_boot_79 : decode b_M_boot 79 = .ok (.invokevirtual 75, 3) := by decide +kernel
theorem d_M_boot_82 : decode b_M_boot 82 = .ok (.return_, 1) := by decide +kernel
def w_M_boot_31 (Φ : KS → Prop) : Nat → Int32 → KS → Prop
  | 0, _, _ => False
  | n + 1, v1, s0 => (((128 : Int32) ≤ v1 → vp_in (0 : Int32) 16 ∧ ∀ s1 : KS, s1 = w3 s0 32 0 (0 : Int32).toNatClampNeg (-1 : Int32) → vp_in (0 : Int32) 128 ∧ ∀ s2 : KS, s2 = w3 s1 31 0 (0 : Int32).toNatClampNeg (1 : Int32) → vp_in (1 : Int32) 128 ∧ ∀ s3 : KS, s3 = w3 s2 31 0 (1 : Int32).toNatClampNeg (2 : Int32) → w_M_ready (0 : Int32) s3 (fun s4 => Φ s4)) ∧ (¬ (128 : Int32) ≤ v1 → vp_in v1 128 ∧ vp_in v1 2048 ∧ ∀ s5 : KS, s5 = w3 s0 27 0 v1.toNatClampNeg (s0 25 0 v1.toNatClampNeg) → ∀ y6 : Int32, y6 = v1 + (1 : Int32) → w_M_boot_31 Φ n y6 s5))
def w_M_boot_13 (Φ : KS → Prop) (t0 : Int32) (s0 : KS) : Prop := ∀ s1 : KS, s1 = w3 s0 20 0 0 t0 → (((s1 20 0 0) ≤ 0 → ∀ s2 : KS, s2 = w3 s1 20 0 3 (1 : Int32) → ∃ nn : Nat, w_M_boot_31 Φ nn (0 : Int32) s2) ∧ (¬ (s1 20 0 0) ≤ 0 → Φ s1))
def w_M_boot (s0 : KS) (Φ : KS → Prop) : Prop := (((s0 20 0 3) = 0 → w_M_boot_13 Φ (0 : Int32) s0) ∧ (¬ (s0 20 0 3) = 0 → w_M_boot_13 Φ (1 : Int32) s0))
set_option maxHeartbeats 4000000 in
set_option maxRecDepth 100000 in
theorem c_M_boot (l : Launch) (E : gE) (s0 : KS)  (Φ : KS → Prop) (hw : w_M_boot s0 Φ) : gMv l y_M_boot v_M_boot m_M_boot E MM [.ref (ea E 20 0)] s0 Φ := by
  intro sz
  refine Met.ofW (cc := b_M_boot) (maxL := 2) (ret := none) (by decide) rfl ?_
  intro p e s m args below meth c s₁ B hml hv
  obtain ⟨rfl, hsz, hP, hK, hD, hX⟩ := hv
  have hx := B.exec
  have hb := B.bytes
  have hr := B.returns
  have hts := atoms_spec (ws := v_M_boot) B.pre
  have hG : ∀ w ∈ gG, w.before _ s = true := fun w h => hts w (List.mem_cons_of_mem _ h)
  have hown : s.vm.findClass R_M = some m.cls := findClass_of_methodNamed B.named
  have hlocks := B.notSynchronized
  subst hsz
  obtain ⟨A, hAe⟩ : ∃ A, A = gA E MM s.heap.size := ⟨_, rfl⟩
  rw [← hAe] at hD hX ⊢
  have hV : gV E MM A s0 s s.heap [] := ⟨hP, hD, va_S.rf⟩
  have hl := lv_entry ([.ref (ea E 20 0)] : List Value) (n := 2) (Nat.le_of_ble_eq_true rfl)
  rw [lg_entry_eq]
  generalize (lg_sl ([.ref (ea E 20 0)] : List Value) ++ List.replicate (2 - (lg_sl ([.ref (ea E 20 0)] : List Value)).length) Slot.unset).toArray = ls at hl ⊢
  have hl : lv_has ls 2 [(0, .ref (ea E 20 0))] := hl
  have L31 : ∀ (n : Nat), ∀ (ls : Array Slot) (H : Heap) (locs : List Loc) (s0 : KS) (v1 : Int32), lv_has ls 2 [(0, .ref (ea E 20 0)), (1, .int v1)] → gV E MM A s0 s H locs → w_M_boot_31 Φ n v1 s0 → W p l e m_M_boot s m ([.ref (ea E 20 0)] : List Value).toArray below meth c H locs 0 0 (MQ below (gQv E MM A Φ) ([.ref (ea E 20 0)] : List Value).toArray s 0 0 A) (F0 m 31 ls []) := by
    intro n
    induction n with
    | zero =>
      intro ls H locs s0 v1 hl hV hw
      exact False.elim hw
    | succ n ih =>
      intro ls H locs s0 v1 hl hV hw
      unfold w_M_boot_31 at hw
      refine lv_iload_n hx hb d_M_boot_31 rfl (lv_at hl 1 rfl) ?_
      refine lv_sipush (v := 128) hx hb d_M_boot_32 (by decide) ?_
      refine lv_icmp_ge (tgt := 56) hx hb d_M_boot_35 rfl (fun hc => ?_) (fun hc => ?_)
      · have hw := hw.1 hc
        refine lv_aload_n hx hb d_M_boot_56 rfl (lv_at hl 0 rfl) ?_
        refine kg_M_M_parent hx hb hG hown hK hV d_M_boot_57 ?_
        refine lv_iconst (v := 0) hx hb d_M_boot_60 (by decide) ?_
        refine lv_iconst (v := -1) hx hb d_M_boot_61 (by decide) ?_
        refine ks_32 hx hb hK hV hw.1 d_M_boot_62 (fun s1 H locs es1 hV => ?_)
        have hw := hw.2 s1 es1
        refine lv_aload_n hx hb d_M_boot_63 rfl (lv_at hl 0 rfl) ?_
        refine kg_M_M_descriptors hx hb hG hown hK hV d_M_boot_64 ?_
        refine lv_iconst (v := 0) hx hb d_M_boot_67 (by decide) ?_
        refine lv_iconst (v := 1) hx hb d_M_boot_68 (by decide) ?_
        refine ks_31 hx hb hK hV hw.1 d_M_boot_69 (fun s2 H locs es2 hV => ?_)
        have hw := hw.2 s2 es2
        refine lv_aload_n hx hb d_M_boot_70 rfl (lv_at hl 0 rfl) ?_
        refine kg_M_M_descriptors hx hb hG hown hK hV d_M_boot_71 ?_
        refine lv_iconst (v := 1) hx hb d_M_boot_74 (by decide) ?_
        refine lv_iconst (v := 2) hx hb d_M_boot_75 (by decide) ?_
        refine ks_31 hx hb hK hV hw.1 d_M_boot_76 (fun s3 H locs es3 hV => ?_)
        have hw := hw.2 s3 es3
        refine lv_aload_n hx hb d_M_boot_77 rfl (lv_at hl 0 rfl) ?_
        refine lv_iconst (v := 0) hx hb d_M_boot_78 (by decide) ?_
        refine kc_M_M_ready hx hb hml hown hts hV hK hX hAe (c_M_ready l E s3 (0 : Int32) _ hw) hl.1 (Nat.le_of_ble_eq_true rfl) d_M_boot_79 (Nat.le_of_ble_eq_true rfl) (Nat.le_of_ble_eq_true rfl) (fun s4 H locs hw hV => ?_)
        exact kr_v hx hb hr hV hK hX hAe hw d_M_boot_82
      · have hw := hw.2 hc
        refine lv_aload_n hx hb d_M_boot_38 rfl (lv_at hl 0 rfl) ?_
        refine kg_M_M_memory hx hb hG hown hK hV d_M_boot_39 ?_
        refine lv_iload_n hx hb d_M_boot_42 rfl (lv_at hl 1 rfl) ?_
        refine lv_aload_n hx hb d_M_boot_43 rfl (lv_at hl 0 rfl) ?_
        refine kg_M_M_image hx hb hG hown hK hV d_M_boot_44 ?_
        refine lv_iload_n hx hb d_M_boot_47 rfl (lv_at hl 1 rfl) ?_
        refine kl_25 hx hb hK hV hw.1 d_M_boot_48 ?_
        have hw := hw.2
        refine ks_27 hx hb hK hV hw.1 d_M_boot_49 (fun s5 H locs es5 hV => ?_)
        have hw := hw.2 s5 es5
        obtain ⟨y6, ey6⟩ : ∃ z : Int32, z = v1 + (1 : Int32) := ⟨_, rfl⟩
        have hw := hw y6 ey6
        refine lv_iinc (k := 1) (v := y6) (lv' := [(1, .int y6), (0, .ref (ea E 20 0))]) hx hb d_M_boot_50 hl rfl (by rw [ey6]; rfl) (by decide) rfl (fun ls hl => ?_)
        refine lv_goto (tgt := 31) hx hb d_M_boot_53 rfl ?_
        exact ih _ _ _ s5 y6 (lv_sub hl [1, 0] rfl) hV hw
  have J13 : ∀ (ls : Array Slot) (H : Heap) (locs : List Loc) (s0 : KS) (t0 : Int32), lv_has ls 2 [(0, .ref (ea E 20 0))] → gV E MM A s0 s H locs → w_M_boot_13 Φ t0 s0 → W p l e m_M_boot s m ([.ref (ea E 20 0)] : List Value).toArray below meth c H locs 0 0 (MQ below (gQv E MM A Φ) ([.ref (ea E 20 0)] : List Value).toArray s 0 0 A) (F0 m 13 ls [.int t0, .ref (ea E 20 0)]) := by
    intro  ls H locs s0 t0 hl hV hw
    unfold w_M_boot_13 at hw
    refine kp_M_M_code hx hb hG hown hK hV d_M_boot_13 (fun s1 H locs es1 hV => ?_)
    have hw := hw s1 es1
    refine lv_aload_n hx hb d_M_boot_16 rfl (lv_at hl 0 rfl) ?_
    refine kg_M_M_code hx hb hG hown hK hV d_M_boot_17 ?_
    refine lv_if_le (tgt := 24) hx hb d_M_boot_20 rfl (fun hc => ?_) (fun hc => ?_)
    · have hw := hw.1 hc
      refine lv_aload_n hx hb d_M_boot_24 rfl (lv_at hl 0 rfl) ?_
      refine lv_iconst (v := 1) hx hb d_M_boot_25 (by decide) ?_
      refine kp_M_M_booted hx hb hG hown hK hV (by decide) (by decide) d_M_boot_26 (fun s2 H locs es2 hV => ?_)
      have hw := hw s2 es2
      refine lv_iconst (v := 0) hx hb d_M_boot_29 (by decide) ?_
      refine lv_istore_n (lv' := [(1, .int (0 : Int32)), (0, .ref (ea E 20 0))]) hx hb d_M_boot_30 rfl hl (by decide) rfl (fun ls hl => ?_)
      obtain ⟨nn, hw⟩ := hw
      exact L31 nn _ _ _ s2 (0 : Int32) (lv_sub hl [1, 0] rfl) hV hw
    · have hw := hw.2 hc
      exact kr_v hx hb hr hV hK hX hAe hw d_M_boot_23
  unfold w_M_boot at hw
  refine lv_aload_n hx hb d_M_boot_0 rfl (lv_at hl 0 rfl) ?_
  refine lv_aload_n hx hb d_M_boot_1 rfl (lv_at hl 0 rfl) ?_
  refine kg_M_M_booted hx hb hG hown hK hV d_M_boot_2 ?_
  refine lv_if_eq (tgt := 12) hx hb d_M_boot_5 rfl (fun hc => ?_) (fun hc => ?_)
  · have hw := hw.1 hc
    refine lv_iconst (v := 0) hx hb d_M_boot_12 (by decide) ?_
    exact J13 _ _ _ s0 (0 : Int32) (lv_sub hl [0] rfl) hV hw
  · have hw := hw.2 hc
    refine lv_iconst (v := 1) hx hb d_M_boot_8 (by decide) ?_
    refine lv_goto (tgt := 13) hx hb d_M_boot_9 rfl ?_
    exact J13 _ _ _ s0 (1 : Int32) (lv_sub hl [0] rfl) hV hw
theorem d_M_leaveQueue_0 : decode b_M_leaveQueue 0 = .ok (.iconst 0, 1) := by decide +kernel
theorem d_M_leaveQueue_1 : decode b_M_leaveQueue 1 = .ok (.istore_n 2, 1) := by decide +kernel
theorem d_M_leaveQueue_2 : decode b_M_leaveQueue 2 = .ok (.aload_n 0, 1) := by decide +kernel
theorem d_M_leaveQueue_3 : decode b_M_leaveQueue 3 = .ok (.getfield 79, 3) := by decide +kernel
theorem d_M_leaveQueue_6 : decode b_M_leaveQueue 6 = .ok (.ifCond .le 17, 3) := by decide +kernel
theorem d_M_leaveQueue_9 : decode b_M_leaveQueue 9 = .ok (.aload_n 0, 1) := by decide +kernel
theorem d_M_leaveQueue_10 : decode b_M_leaveQueue 10 = .ok (.getfield 40, 3) := by decide +kernel
theorem d_M_leaveQueue_13 : decode b_M_leaveQueue 13 = .ok (.iconst 0, 1) := by decide +kernel
theorem d_M_leaveQueue_14 : decode b_M_leaveQueue 14 = .ok (.iaload, 1) := by decide +kernel
theorem d_M_leaveQueue_15 : decode b_M_leaveQueue 15 = .ok (.iload_n 1, 1) := by decide +kernel
theorem d_M_leaveQueue_16 : decode b_M_leaveQueue 16 = .ok (.if_icmp .ne 7, 3) := by decide +kernel
theorem d_M_leaveQueue_19 : decode b_M_leaveQueue 19 = .ok (.iconst 1, 1) := by decide +kernel
theorem d_M_leaveQueue_20 : decode b_M_leaveQueue 20 = .ok (.goto 4, 3) := by decide +kernel
theorem d_M_leaveQueue_23 : decode b_M_leaveQueue 23 = .ok (.iconst 0, 1) := by decide +kernel
theorem d_M_leaveQueue_24 : decode b_M_leaveQueue 24 = .ok (.istore_n 3, 1) := by decide +kernel
theorem d_M_leaveQueue_25 : decode b_M_leaveQueue 25 = .ok (.iconst 0, 1) := by decide +kernel
theorem d_M_leaveQueue_26 : decode b_M_leaveQueue 26 = .ok (.istore 4, 2) := by decide +kernel
theorem d_M_leaveQueue_28 : decode b_M_leaveQueue 28 = .ok (.iload 4, 2) := by decide +kernel
theorem d_M_leaveQueue_30 : decode b_M_leaveQueue 30 = .ok (.aload_n 0, 1) := by decide +kernel
theorem d_M_leaveQueue_31 : decode b_M_leaveQueue 31 = .ok (.getfield 79, 3) := by decide +kernel
theorem d_M_leaveQueue_34 : decode b_M_leaveQueue 34 = .ok (.if_icmp .ge 36, 3) := by decide +kernel
theorem d_M_leaveQueue_37 : decode b_M_leaveQueue 37 = .ok (.aload_n 0, 1) := by decide +kernel
theorem d_M_leaveQueue_38 : decode b_M_leaveQueue 38 = .ok (.getfield 40, 3) := by decide +kernel
theorem d_M_leaveQueue_41 : decode b_M_leaveQueue 41 = .ok (.iload 4, 2) := by decide +kernel
theorem d_M_leaveQueue_43 : decode b_M_leaveQueue 43 = .ok (.iaload, 1) := by decide +kernel
theorem d_M_leaveQueue_44 : decode b_M_leaveQueue 44 = .ok (.iload_n 1, 1) := by decide +kernel
theorem d_M_leaveQueue_45 : decode b_M_leaveQueue 45 = .ok (.if_icmp .eq 19, 3) := by decide +kernel
theorem d_M_leaveQueue_48 : decode b_M_leaveQueue 48 = .ok (.aload_n 0, 1) := by decide +kernel
theorem d_M_leaveQueue_49 : decode b_M_leaveQueue 49 = .ok (.getfield 40, 3) := by decide +kernel
theorem d_M_leaveQueue_52 : decode b_M_leaveQueue 52 = .ok (.iload_n 2, 1) := by decide +kernel
theorem d_M_leaveQueue_53 : decode b_M_leaveQueue 53 = .ok (.aload_n 0, 1) := by decide +kernel
theorem d_M_leaveQueue_54 : decode b_M_leaveQueue 54 = .ok (.getfield 40, 3) := by decide +kernel
theorem d_M_leaveQueue_57 : decode b_M_leaveQueue 57 = .ok (.iload 4, 2) := by decide +kernel
theorem d_M_leaveQueue_59 : decode b_M_leaveQueue 59 = .ok (.iaload, 1) := by decide +kernel
theorem d_M_leaveQueue_60 : decode b_M_leaveQueue 60 = .ok (.iastore, 1) := by decide +kernel
theorem d_M_leaveQueue_61 : decode b_M_leaveQueue 61 = .ok (.iinc 2 1, 3) := by decide +kernel
theorem d_M_leaveQueue_64 : decode b_M_leaveQueue 64 = .ok (.iinc 4 1, 3) := by decide +kernel
theorem d_M_leaveQueue_67 : decode b_M_leaveQueue 67 = .ok (.goto (-39), 3) := by decide +kernel
theorem d_M_leaveQueue_70 : decode b_M_leaveQueue 70 = .ok (.aload_n 0, 1) := by decide +kernel
theorem d_M_leaveQueue_71 : decode b_M_leaveQueue 71 = .ok (.iload_n 2, 1) := by decide +kernel
theorem d_M_leaveQueue_72 : decode b_M_leaveQueue 72 = .ok (.putfield 79, 3) := by decide +kernel
theorem d_M_leaveQueue_75 : decode b_M_leaveQueue 75 = .ok (.aload_n 0, 1) := by decide +kernel
theorem d_M_leaveQueue_76 : decode b_M_leaveQueue 76 = .ok (.iload_n 3, 1) := by decide +kernel
theorem d_M_leaveQueue_77 : decode b_M_leaveQueue 77 = .ok (.ifCond .eq 7, 3) := by decide +kernel
theorem d_M_leaveQueue_80 : decode b_M_leaveQueue 80 = .ok (.iconst 0, 1) := by decide +kernel
theorem d_M_leaveQueue_81 : decode b_M_leaveQueue 81 = .ok (.goto 7, 3) := by decide +kernel
theorem d_M_leaveQueue_84 : decode b_M_leaveQueue 84 = .ok (.aload_n 0, 1) := by decide +kernel
theorem d_M_leaveQueue_85 : decode b_M_leaveQueue 85 = .ok (.getfield 82, 3) := by decide +kernel
theorem d_M_leaveQueue_88 : decode b_M_leaveQueue 88 = .ok (.putfield 82, 3) := by decide +kernel
theorem d_M_leaveQueue_91 : decode b_M_leaveQueue 91 = .ok (.return_, 1) := by decide +kernel
def w_M_leaveQueue_88 (x1 : Int32) (Φ : KS → Prop) (t0 : Int32) (s0 : KS) : Prop := ∀ s1 : KS, s1 = w3 s0 20 0 17 t0 → Φ s1
def w_M_leaveQueue_28 (x1 : Int32) (Φ : KS → Prop) : Nat → Int32 → Int32 → Int32 → KS → Prop
  | 0, _, _, _, _ => False
  | n + 1, v2, v3, v4, s0 => (((s0 20 0 16) ≤ v4 → ∀ s1 : KS, s1 = w3 s0 20 0 16 v2 → ((v3 = 0 → w_M_leaveQueue_88 x1 Φ (s1 20 0 17) s1) ∧ (¬ v3 = 0 → w_M_leaveQueue_88 x1 Φ (0 : Int32) s1))) ∧ (¬ (s0 20 0 16) ≤ v4 → vp_in v4 16 ∧ (((s0 35 0 v4.toNatClampNeg) = x1 → ∀ y2 : Int32, y2 = v4 + (1 : Int32) → w_M_leaveQueue_28 x1 Φ n v2 v3 y2 s0) ∧ (¬ (s0 35 0 v4.toNatClampNeg) = x1 → vp_in v4 16 ∧ vp_in v2 16 ∧ ∀ s3 : KS, s3 = w3 s0 35 0 v2.toNatClampNeg (s0 35 0 v4.toNatClampNeg) → ∀ y4 : Int32, y4 = v2 + (1 : Int32) → ∀ y5 : Int32, y5 = v4 + (1 : Int32) → w_M_leaveQueue_28 x1 Φ n y4 v3 y5 s3))))
def w_M_leaveQueue (x1 : Int32) (s0 : KS) (Φ : KS → Prop) : Prop := (((s0 20 0 16) ≤ 0 → ∃ nn : Nat, w_M_leaveQueue_28 x1 Φ nn (0 : Int32) (0 : Int32) (0 : Int32) s0) ∧ (¬ (s0 20 0 16) ≤ 0 → vp_in (0 : Int32) 16 ∧ ((¬ (s0 35 0 (0 : Int32).toNatClampNeg) = x1 → ∃ nn : Nat, w_M_leaveQueue_28 x1 Φ nn (0 : Int32) (0 : Int32) (0 : Int32) s0) ∧ ((s0 35 0 (0 : Int32).toNatClampNeg) = x1 → ∃ nn : Nat, w_M_leaveQueue_28 x1 Φ nn (0 : Int32) (1 : Int32) (0 : Int32) s0))))
set_option maxHeartbeats 4000000 in
set_option maxRecDepth 100000 in
theorem c_M_leaveQueue (l : Launch) (E : gE) (s0 : KS) (x1 : Int32) (Φ : KS → Prop) (hw : w_M_leaveQueue x1 s0 Φ) : gMv l y_M_leaveQueue v_M_leaveQueue m_M_leaveQueue E MM [.ref (ea E 20 0), .int x1] s0 Φ := by
  intro sz
  refine Met.ofW (cc := b_M_leaveQueue) (maxL := 5) (ret := none) (by decide) rfl ?_
  intro p e s m args below meth c s₁ B hml hv
  obtain ⟨rfl, hsz, hP, hK, hD, hX⟩ := hv
  have hx := B.exec
  have hb := B.bytes
  have hr := B.returns
  have hts := atoms_spec (ws := v_M_leaveQueue) B.pre
  have hG : ∀ w ∈ gG, w.before _ s = true := fun w h => hts w (List.mem_cons_of_mem _ h)
  have hown : s.vm.findClass R_M = some m.cls := findClass_of_methodNamed B.named
  have hlocks := B.notSynchronized
  subst hsz
  obtain ⟨A, hAe⟩ : ∃ A, A = gA E MM s.heap.size := ⟨_, rfl⟩
  rw [← hAe] at hD hX ⊢
  have hV : gV E MM A s0 s s.heap [] := ⟨hP, hD, va_S.rf⟩
  have hl := lv_entry ([.ref (ea E 20 0), .int x1] : List Value) (n := 5) (Nat.le_of_ble_eq_true rfl)
  rw [lg_entry_eq]
  generalize (lg_sl ([.ref (ea E 20 0), .int x1] : List Value) ++ List.replicate (5 - (lg_sl ([.ref (ea E 20 0), .int x1] : List Value)).length) Slot.unset).toArray = ls at hl ⊢
  have hl : lv_has ls 5 [(0, .ref (ea E 20 0)), (1, .int x1)] := hl
  have J88 : ∀ (ls : Array Slot) (H : Heap) (locs : List Loc) (s0 : KS) (t0 : Int32), lv_has ls 5 [] → gV E MM A s0 s H locs → w_M_leaveQueue_88 x1 Φ t0 s0 → W p l e m_M_leaveQueue s m ([.ref (ea E 20 0), .int x1] : List Value).toArray below meth c H locs 0 0 (MQ below (gQv E MM A Φ) ([.ref (ea E 20 0), .int x1] : List Value).toArray s 0 0 A) (F0 m 88 ls [.int t0, .ref (ea E 20 0)]) := by
    intro  ls H locs s0 t0 hl hV hw
    unfold w_M_leaveQueue_88 at hw
    refine kp_M_M_done hx hb hG hown hK hV d_M_leaveQueue_88 (fun s1 H locs es1 hV => ?_)
    have hw := hw s1 es1
    exact kr_v hx hb hr hV hK hX hAe hw d_M_leaveQueue_91
  have L28 : ∀ (n : Nat), ∀ (ls : Array Slot) (H : Heap) (locs : List Loc) (s0 : KS) (v2 : Int32) (v3 : Int32) (v4 : Int32), lv_has ls 5 [(0, .ref (ea E 20 0)), (1, .int x1), (2, .int v2), (3, .int v3), (4, .int v4)] → gV E MM A s0 s H locs → w_M_leaveQueue_28 x1 Φ n v2 v3 v4 s0 → W p l e m_M_leaveQueue s m ([.ref (ea E 20 0), .int x1] : List Value).toArray below meth c H locs 0 0 (MQ below (gQv E MM A Φ) ([.ref (ea E 20 0), .int x1] : List Value).toArray s 0 0 A) (F0 m 28 ls []) := by
    intro n
    induction n with
    | zero =>
      intro ls H locs s0 v2 v3 v4 hl hV hw
      exact False.elim hw
    | succ n ih =>
      intro ls H locs s0 v2 v3 v4 hl hV hw
      unfold w_M_leaveQueue_28 at hw
      refine lv_iload hx hb d_M_leaveQueue_28 (lv_at hl 4 rfl) ?_
      refine lv_aload_n hx hb d_M_leaveQueue_30 rfl (lv_at hl 0 rfl) ?_
      refine kg_M_M_queued hx hb hG hown hK hV d_M_leaveQueue_31 ?_
      refine lv_icmp_ge (tgt := 70) hx hb d_M_leaveQueue_34 rfl (fun hc => ?_) (fun hc => ?_)
      · have hw := hw.1 hc
        refine lv_aload_n hx hb d_M_leaveQueue_70 rfl (lv_at hl 0 rfl) ?_
        refine lv_iload_n hx hb d_M_leaveQueue_71 rfl (lv_at hl 2 rfl) ?_
        refine kp_M_M_queued hx hb hG hown hK hV d_M_leaveQueue_72 (fun s1 H locs es1 hV => ?_)
        have hw := hw s1 es1
        refine lv_aload_n hx hb d_M_leaveQueue_75 rfl (lv_at hl 0 rfl) ?_
        refine lv_iload_n hx hb d_M_leaveQueue_76 rfl (lv_at hl 3 rfl) ?_
        refine lv_if_eq (tgt := 84) hx hb d_M_leaveQueue_77 rfl (fun hc => ?_) (fun hc => ?_)
        · have hw := hw.1 hc
          refine lv_aload_n hx hb d_M_leaveQueue_84 rfl (lv_at hl 0 rfl) ?_
          refine kg_M_M_done hx hb hG hown hK hV d_M_leaveQueue_85 ?_
          exact J88 _ _ _ s1 (s1 20 0 17) (lv_sub hl [] rfl) hV hw
        · have hw := hw.2 hc
          refine lv_iconst (v := 0) hx hb d_M_leaveQueue_80 (by decide) ?_
          refine lv_goto (tgt := 88) hx hb d_M_leaveQueue_81 rfl ?_
          exact J88 _ _ _ s1 (0 : Int32) (lv_sub hl [] rfl) hV hw
      · have hw := hw.2 hc
        refine lv_aload_n hx hb d_M_leaveQueue_37 rfl (lv_at hl 0 rfl) ?_
        refine kg_M_M_queue hx hb hG hown hK hV d_M_leaveQueue_38 ?_
        refine lv_iload hx hb d_M_leaveQueue_41 (lv_at hl 4 rfl) ?_
        refine kl_35 hx hb hK hV hw.1 d_M_leaveQueue_43 ?_
        have hw := hw.2
        refine lv_iload_n hx hb d_M_leaveQueue_44 rfl (lv_at hl 1 rfl) ?_
        refine lv_icmp_eq (tgt := 64) hx hb d_M_leaveQueue_45 rfl (fun hc => ?_) (fun hc => ?_)
        · have hw := hw.1 hc
          obtain ⟨y2, ey2⟩ : ∃ z : Int32, z = v4 + (1 : Int32) := ⟨_, rfl⟩
          have hw := hw y2 ey2
          refine lv_iinc (k := 4) (v := y2) (lv' := [(4, .int y2), (0, .ref (ea E 20 0)), (1, .int x1), (2, .int v2), (3, .int v3)]) hx hb d_M_leaveQueue_64 hl rfl (by rw [ey2]; rfl) (by decide) rfl (fun ls hl => ?_)
          refine lv_goto (tgt := 28) hx hb d_M_leaveQueue_67 rfl ?_
          exact ih _ _ _ s0 v2 v3 y2 (lv_sub hl [1, 2, 3, 4, 0] rfl) hV hw
        · have hw := hw.2 hc
          refine lv_aload_n hx hb d_M_leaveQueue_48 rfl (lv_at hl 0 rfl) ?_
          refine kg_M_M_queue hx hb hG hown hK hV d_M_leaveQueue_49 ?_
          refine lv_iload_n hx hb d_M_leaveQueue_52 rfl (lv_at hl 2 rfl) ?_
          refine lv_aload_n hx hb d_M_leaveQueue_53 rfl (lv_at hl 0 rfl) ?_
          refine kg_M_M_queue hx hb hG hown hK hV d_M_leaveQueue_54 ?_
          refine lv_iload hx hb d_M_leaveQueue_57 (lv_at hl 4 rfl) ?_
          refine kl_35 hx hb hK hV hw.1 d_M_leaveQueue_59 ?_
          have hw := hw.2
          refine ks_35 hx hb hK hV hw.1 d_M_leaveQueue_60 (fun s3 H locs es3 hV => ?_)
          have hw := hw.2 s3 es3
          obtain ⟨y4, ey4⟩ : ∃ z : Int32, z = v2 + (1 : Int32) := ⟨_, rfl⟩
          have hw := hw y4 ey4
          refine lv_iinc (k := 2) (v := y4) (lv' := [(2, .int y4), (0, .ref (ea E 20 0)), (1, .int x1), (3, .int v3), (4, .int v4)]) hx hb d_M_leaveQueue_61 hl rfl (by rw [ey4]; rfl) (by decide) rfl (fun ls hl => ?_)
          obtain ⟨y5, ey5⟩ : ∃ z : Int32, z = v4 + (1 : Int32) := ⟨_, rfl⟩
          have hw := hw y5 ey5
          refine lv_iinc (k := 4) (v := y5) (lv' := [(4, .int y5), (2, .int y4), (0, .ref (ea E 20 0)), (1, .int x1), (3, .int v3)]) hx hb d_M_leaveQueue_64 hl rfl (by rw [ey5]; rfl) (by decide) rfl (fun ls hl => ?_)
          refine lv_goto (tgt := 28) hx hb d_M_leaveQueue_67 rfl ?_
          exact ih _ _ _ s3 y4 v3 y5 (lv_sub hl [2, 3, 1, 4, 0] rfl) hV hw
  unfold w_M_leaveQueue at hw
  refine lv_iconst (v := 0) hx hb d_M_leaveQueue_0 (by decide) ?_
  refine lv_istore_n (lv' := [(2, .int (0 : Int32)), (0, .ref (ea E 20 0)), (1, .int x1)]) hx hb d_M_leaveQueue_1 rfl hl (by decide) rfl (fun ls hl => ?_)
  refine lv_aload_n hx hb d_M_leaveQueue_2 rfl (lv_at hl 1 rfl) ?_
  refine kg_M_M_queued hx hb hG hown hK hV d_M_leaveQueue_3 ?_
  refine lv_if_le (tgt := 23) hx hb d_M_leaveQueue_6 rfl (fun hc => ?_) (fun hc => ?_)
  · have hw := hw.1 hc
    refine lv_iconst (v := 0) hx hb d_M_leaveQueue_23 (by decide) ?_
    refine lv_istore_n (lv' := [(3, .int (0 : Int32)), (2, .int (0 : Int32)), (0, .ref (ea E 20 0)), (1, .int x1)]) hx hb d_M_leaveQueue_24 rfl hl (by decide) rfl (fun ls hl => ?_)
    refine lv_iconst (v := 0) hx hb d_M_leaveQueue_25 (by decide) ?_
    refine lv_istore (lv' := [(4, .int (0 : Int32)), (3, .int (0 : Int32)), (2, .int (0 : Int32)), (0, .ref (ea E 20 0)), (1, .int x1)]) hx hb d_M_leaveQueue_26 hl (by decide) rfl (fun ls hl => ?_)
    obtain ⟨nn, hw⟩ := hw
    exact L28 nn _ _ _ s0 (0 : Int32) (0 : Int32) (0 : Int32) (lv_sub hl [3, 4, 2, 1, 0] rfl) hV hw
  · have hw := hw.2 hc
    refine lv_aload_n hx hb d_M_leaveQueue_9 rfl (lv_at hl 1 rfl) ?_
    refine kg_M_M_queue hx hb hG hown hK hV d_M_leaveQueue_10 ?_
    refine lv_iconst (v := 0) hx hb d_M_leaveQueue_13 (by decide) ?_
    refine kl_35 hx hb hK hV hw.1 d_M_leaveQueue_14 ?_
    have hw := hw.2
    refine lv_iload_n hx hb d_M_leaveQueue_15 rfl (lv_at hl 2 rfl) ?_
    refine lv_icmp_ne (tgt := 23) hx hb d_M_leaveQueue_16 rfl (fun hc => ?_) (fun hc => ?_)
    · have hw := hw.1 hc
      refine lv_iconst (v := 0) hx hb d_M_leaveQueue_23 (by decide) ?_
      refine lv_istore_n (lv' := [(3, .int (0 : Int32)), (2, .int (0 : Int32)), (0, .ref (ea E 20 0)), (1, .int x1)]) hx hb d_M_leaveQueue_24 rfl hl (by decide) rfl (fun ls hl => ?_)
      refine lv_iconst (v := 0) hx hb d_M_leaveQueue_25 (by decide) ?_
      refine lv_istore (lv' := [(4, .int (0 : Int32)), (3, .int (0 : Int32)), (2, .int (0 : Int32)), (0, .ref (ea E 20 0)), (1, .int x1)]) hx hb d_M_leaveQueue_26 hl (by decide) rfl (fun ls hl => ?_)
      obtain ⟨nn, hw⟩ := hw
      exact L28 nn _ _ _ s0 (0 : Int32) (0 : Int32) (0 : Int32) (lv_sub hl [3, 4, 2, 1, 0] rfl) hV hw
    · have hw := hw.2 hc
      refine lv_iconst (v := 1) hx hb d_M_leaveQueue_19 (by decide) ?_
      refine lv_goto (tgt := 24) hx hb d_M_leaveQueue_20 rfl ?_
      refine lv_istore_n (lv' := [(3, .int (1 : Int32)), (2, .int (0 : Int32)), (0, .ref (ea E 20 0)), (1, .int x1)]) hx hb d_M_leaveQueue_24 rfl hl (by decide) rfl (fun ls hl => ?_)
      refine lv_iconst (v := 0) hx hb d_M_leaveQueue_25 (by decide) ?_
      refine lv_istore (lv' := [(4, .int (0 : Int32)), (3, .int (1 : Int32)), (2, .int (0 : Int32)), (0, .ref (ea E 20 0)), (1, .int x1)]) hx hb d_M_leaveQueue_26 hl (by decide) rfl (fun ls hl => ?_)
      obtain ⟨nn, hw⟩ := hw
      exact L28 nn _ _ _ s0 (0 : Int32) (1 : Int32) (0 : Int32) (lv_sub hl [3, 4, 2, 1, 0] rfl) hV hw
theorem d_M_toEnd_0 : decode b_M_toEnd 0 = .ok (.aload_n 0, 1) := by decide +kernel
theorem d_M_toEnd_1 : decode b_M_toEnd 1 = .ok (.iload_n 1, 1) := by decide +kernel
theorem d_M_toEnd_2 : decode b_M_toEnd 2 = .ok (.invokevirtual 85, 3) := by decide +kernel
theorem d_M_toEnd_5 : decode b_M_toEnd 5 = .ok (.aload_n 0, 1) := by decide +kernel
theorem d_M_toEnd_6 : decode b_M_toEnd 6 = .ok (.getfield 40, 3) := by decide +kernel
theorem d_M_toEnd_9 : decode b_M_toEnd 9 = .ok (.aload_n 0, 1) := by decide +kernel
theorem d_M_toEnd_10 : decode b_M_toEnd 10 = .ok (.getfield 79, 3) := by decide +kernel
theorem d_M_toEnd_13 : decode b_M_toEnd 13 = .ok (.iload_n 1, 1) := by decide +kernel
theorem d_M_toEnd_14 : decode b_M_toEnd 14 = .ok (.iastore, 1) := by decide +kernel
theorem d_M_toEnd_15 : decode b_M_toEnd 15 = .ok (.aload_n 0, 1) := by decide +kernel
theorem d_M_toEnd_16 : decode b_M_toEnd 16 = .ok (.dup, 1) := by decide +kernel
theorem d_M_toEnd_17 : decode b_M_toEnd 17 = .ok (.getfield 79, 3) := by decide +kernel
theorem d_M_toEnd_20 : decode b_M_toEnd 20 = .ok (.iconst 1, 1) := by decide +kernel
theorem d_M_toEnd_21 : decode b_M_toEnd 21 = .ok (.iadd, 1) := by decide +kernel
theorem d_M_toEnd_22 : decode b_M_toEnd 22 = .ok (.putfield 79, 3) := by decide +kernel
theorem d_M_toEnd_25 : decode b_M_toEnd 25 = .ok (.aload_n 0, 1) := by decide +kernel
theorem d_M_toEnd_26 : decode b_M_toEnd 26 = .ok (.iconst 0, 1) := by decide +kernel
theorem d_M_toEnd_27 : decode b_M_toEnd 27 = .ok (.putfield 82, 3) := by decide +kernel
theorem d_M_toEnd_30 : decode b_M_toEnd 30 = .ok (.aload_n 0, 1) := by decide +kernel
theorem d_M_toEnd_31 : decode b_M_toEnd 31 = .ok (.iconst 1, 1) := by decide +kernel
theorem d_M_toEnd_32 : decode b_M_toEnd 32 = .ok (.putfield 88, 3) := by decide +kernel
theorem d_M_toEnd_35 : decode b_M_toEnd 35 = .ok (.return_, 1) := by decide +kernel
def w_M_toEnd (x1 : Int32) (s0 : KS) (Φ : KS → Prop) : Prop := w_M_leaveQueue x1 s0 (fun s1 => vp_in (s1 20 0 16) 16 ∧ ∀ s2 : KS, s2 = w3 s1 35 0 (s1 20 0 16).toNatClampNeg x1 → ∀ s3 : KS, s3 = w3 s2 20 0 16 ((s2 20 0 16) + (1 : Int32)) → ∀ s4 : KS, s4 = w3 s3 20 0 17 (0 : Int32) → ∀ s5 : KS, s5 = w3 s4 20 0 18 (1 : Int32) → Φ s5)
set_option maxHeartbeats 4000000 in
set_option maxRecDepth 100000 in
theorem c_M_toEnd (l : Launch) (E : gE) (s0 : KS) (x1 : Int32) (Φ : KS → Prop) (hw : w_M_toEnd x1 s0 Φ) : gMv l y_M_toEnd v_M_toEnd m_M_toEnd E MM [.ref (ea E 20 0), .int x1] s0 Φ := by
  intro sz
  refine Met.ofW (cc := b_M_toEnd) (maxL := 2) (ret := none) (by decide) rfl ?_
  intro p e s m args below meth c s₁ B hml hv
  obtain ⟨rfl, hsz, hP, hK, hD, hX⟩ := hv
  have hx := B.exec
  have hb := B.bytes
  have hr := B.returns
  have hts := atoms_spec (ws := v_M_toEnd) B.pre
  have hG : ∀ w ∈ gG, w.before _ s = true := fun w h => hts w (List.mem_cons_of_mem _ h)
  have hown : s.vm.findClass R_M = some m.cls := findClass_of_methodNamed B.named
  have hlocks := B.notSynchronized
  subst hsz
  obtain ⟨A, hAe⟩ : ∃ A, A = gA E MM s.heap.size := ⟨_, rfl⟩
  rw [← hAe] at hD hX ⊢
  have hV : gV E MM A s0 s s.heap [] := ⟨hP, hD, va_S.rf⟩
  have hl := lv_entry ([.ref (ea E 20 0), .int x1] : List Value) (n := 2) (Nat.le_of_ble_eq_true rfl)
  rw [lg_entry_eq]
  generalize (lg_sl ([.ref (ea E 20 0), .int x1] : List Value) ++ List.replicate (2 - (lg_sl ([.ref (ea E 20 0), .int x1] : List Value)).length) Slot.unset).toArray = ls at hl ⊢
  have hl : lv_has ls 2 [(0, .ref (ea E 20 0)), (1, .int x1)] := hl
  unfold w_M_toEnd at hw
  refine lv_aload_n hx hb d_M_toEnd_0 rfl (lv_at hl 0 rfl) ?_
  refine lv_iload_n hx hb d_M_toEnd_1 rfl (lv_at hl 1 rfl) ?_
  refine kc_M_M_leaveQueue hx hb hml hown hts hV hK hX hAe (c_M_leaveQueue l E s0 x1 _ hw) hl.1 (Nat.le_of_ble_eq_true rfl) d_M_toEnd_2 (Nat.le_of_ble_eq_true rfl) (Nat.le_of_ble_eq_true rfl) (fun s1 H locs hw hV => ?_)
  refine lv_aload_n hx hb d_M_toEnd_5 rfl (lv_at hl 0 rfl) ?_
  refine kg_M_M_queue hx hb hG hown hK hV d_M_toEnd_6 ?_
  refine lv_aload_n hx hb d_M_toEnd_9 rfl (lv_at hl 0 rfl) ?_
  refine kg_M_M_queued hx hb hG hown hK hV d_M_toEnd_10 ?_
  refine lv_iload_n hx hb d_M_toEnd_13 rfl (lv_at hl 1 rfl) ?_
  refine ks_35 hx hb hK hV hw.1 d_M_toEnd_14 (fun s2 H locs es2 hV => ?_)
  have hw := hw.2 s2 es2
  refine lv_aload_n hx hb d_M_toEnd_15 rfl (lv_at hl 0 rfl) ?_
  refine lv_dup hx hb d_M_toEnd_16 rfl ?_
  refine kg_M_M_queued hx hb hG hown hK hV d_M_toEnd_17 ?_
  refine lv_iconst (v := 1) hx hb d_M_toEnd_20 (by decide) ?_
  refine lv_iadd hx hb d_M_toEnd_21 ?_
  refine kp_M_M_queued hx hb hG hown hK hV d_M_toEnd_22 (fun s3 H locs es3 hV => ?_)
  have hw := hw s3 es3
  refine lv_aload_n hx hb d_M_toEnd_25 rfl (lv_at hl 0 rfl) ?_
  refine lv_iconst (v := 0) hx hb d_M_toEnd_26 (by decide) ?_
  refine kp_M_M_done hx hb hG hown hK hV d_M_toEnd_27 (fun s4 H locs es4 hV => ?_)
  have hw := hw s4 es4
  refine lv_aload_n hx hb d_M_toEnd_30 rfl (lv_at hl 0 rfl) ?_
  refine lv_iconst (v := 1) hx hb d_M_toEnd_31 (by decide) ?_
  refine kp_M_M_moved hx hb hG hown hK hV (by decide) (by decide) d_M_toEnd_32 (fun s5 H locs es5 hV => ?_)
  have hw := hw s5 es5
  exact kr_v hx hb hr hV hK hX hAe hw d_M_toEnd_35
theorem d_M_stand_0 : decode b_M_stand 0 = .ok (.aload_n 0, 1) := by decide +kernel
theorem d_M_stand_1 : decode b_M_stand 1 = .ok (.iload_n 2, 1) := by decide +kernel
theorem d_M_stand_2 : decode b_M_stand 2 = .ok (.invokevirtual 85, 3) := by decide +kernel
theorem d_M_stand_5 : decode b_M_stand 5 = .ok (.aload_n 0, 1) := by decide +kernel
theorem d_M_stand_6 : decode b_M_stand 6 = .ok (.getfield 13, 3) := by decide +kernel
theorem d_M_stand_9 : decode b_M_stand 9 = .ok (.iload_n 2, 1) := by decide +kernel
theorem d_M_stand_10 : decode b_M_stand 10 = .ok (.iload_n 3, 1) := by decide +kernel
theorem d_M_stand_11 : decode b_M_stand 11 = .ok (.iastore, 1) := by decide +kernel
theorem d_M_stand_12 : decode b_M_stand 12 = .ok (.aload_n 0, 1) := by decide +kernel
theorem d_M_stand_13 : decode b_M_stand 13 = .ok (.getfield 43, 3) := by decide +kernel
theorem d_M_stand_16 : decode b_M_stand 16 = .ok (.bipush 16, 2) := by decide +kernel
theorem d_M_stand_18 : decode b_M_stand 18 = .ok (.iload_n 1, 1) := by decide +kernel
theorem d_M_stand_19 : decode b_M_stand 19 = .ok (.imul, 1) := by decide +kernel
theorem d_M_stand_20 : decode b_M_stand 20 = .ok (.aload_n 0, 1) := by decide +kernel
theorem d_M_stand_21 : decode b_M_stand 21 = .ok (.getfield 46, 3) := by decide +kernel
theorem d_M_stand_24 : decode b_M_stand 24 = .ok (.iload_n 1, 1) := by decide +kernel
theorem d_M_stand_25 : decode b_M_stand 25 = .ok (.iaload, 1) := by decide +kernel
theorem d_M_stand_26 : decode b_M_stand 26 = .ok (.iadd, 1) := by decide +kernel
theorem d_M_stand_27 : decode b_M_stand 27 = .ok (.iload_n 2, 1) := by decide +kernel
theorem d_M_stand_28 : decode b_M_stand 28 = .ok (.iastore, 1) := by decide +kernel
theorem d_M_stand_29 : decode b_M_stand 29 = .ok (.aload_n 0, 1) := by decide +kernel
theorem d_M_stand_30 : decode b_M_stand 30 = .ok (.getfield 46, 3) := by decide +kernel
theorem d_M_stand_33 : decode b_M_stand 33 = .ok (.iload_n 1, 1) := by decide +kernel
theorem d_M_stand_34 : decode b_M_stand 34 = .ok (.dup2, 1) := by decide +kernel
theorem d_M_stand_35 : decode b_M_stand 35 = .ok (.iaload, 1) := by decide +kernel
theorem d_M_stand_36 : decode b_M_stand 36 = .ok (.iconst 1, 1) := by decide +kernel
theorem d_M_stand_37 : decode b_M_stand 37 = .ok (.iadd, 1) := by decide +kernel
theorem d_M_stand_38 : decode b_M_stand 38 = .ok (.iastore, 1) := by decide +kernel
theorem d_M_stand_39 : decode b_M_stand 39 = .ok (.return_, 1) := by decide +kernel
def w_M_stand (x1 : Int32) (x2 : Int32) (x3 : Int32) (s0 : KS) (Φ : KS → Prop) : Prop := w_M_leaveQueue x2 s0 (fun s1 => vp_in x2 16 ∧ ∀ s2 : KS, s2 = w3 s1 26 0 x2.toNatClampNeg x3 → vp_in x1 17 ∧ vp_in (((16 : Int32) * x1) + (s2 40 0 x1.toNatClampNeg)) 272 ∧ ∀ s3 : KS, s3 = w3 s2 39 0 (((16 : Int32) * x1) + (s2 40 0 x1.toNatClampNeg)).toNatClampNeg x2 → vp_in x1 17 ∧ vp_in x1 17 ∧ ∀ s4 : KS, s4 = w3 s3 40 0 x1.toNatClampNeg ((s3 40 0 x1.toNatClampNeg) + (1 : Int32)) → Φ s4)
set_option maxHeartbeats 4000000 in
set_option maxRecDepth 100000 in
theorem c_M_stand (l : Launch) (E : gE) (s0 : KS) (x1 : Int32) (x2 : Int32) (x3 : Int32) (Φ : KS → Prop) (hw : w_M_stand x1 x2 x3 s0 Φ) : gMv l y_M_stand v_M_stand m_M_stand E MM [.ref (ea E 20 0), .int x1, .int x2, .int x3] s0 Φ := by
  intro sz
  refine Met.ofW (cc := b_M_stand) (maxL := 4) (ret := none) (by decide) rfl ?_
  intro p e s m args below meth c s₁ B hml hv
  obtain ⟨rfl, hsz, hP, hK, hD, hX⟩ := hv
  have hx := B.exec
  have hb := B.bytes
  have hr := B.returns
  have hts := atoms_spec (ws := v_M_stand) B.pre
  have hG : ∀ w ∈ gG, w.before _ s = true := fun w h => hts w (List.mem_cons_of_mem _ h)
  have hown : s.vm.findClass R_M = some m.cls := findClass_of_methodNamed B.named
  have hlocks := B.notSynchronized
  subst hsz
  obtain ⟨A, hAe⟩ : ∃ A, A = gA E MM s.heap.size := ⟨_, rfl⟩
  rw [← hAe] at hD hX ⊢
  have hV : gV E MM A s0 s s.heap [] := ⟨hP, hD, va_S.rf⟩
  have hl := lv_entry ([.ref (ea E 20 0), .int x1, .int x2, .int x3] : List Value) (n := 4) (Nat.le_of_ble_eq_true rfl)
  rw [lg_entry_eq]
  generalize (lg_sl ([.ref (ea E 20 0), .int x1, .int x2, .int x3] : List Value) ++ List.replicate (4 - (lg_sl ([.ref (ea E 20 0), .int x1, .int x2, .int x3] : List Value)).length) Slot.unset).toArray = ls at hl ⊢
  have hl : lv_has ls 4 [(0, .ref (ea E 20 0)), (1, .int x1), (2, .int x2), (3, .int x3)] := hl
  unfold w_M_stand at hw
  refine lv_aload_n hx hb d_M_stand_0 rfl (lv_at hl 0 rfl) ?_
  refine lv_iload_n hx hb d_M_stand_1 rfl (lv_at hl 2 rfl) ?_
  refine kc_M_M_leaveQueue hx hb hml hown hts hV hK hX hAe (c_M_leaveQueue l E s0 x2 _ hw) hl.1 (Nat.le_of_ble_eq_true rfl) d_M_stand_2 (Nat.le_of_ble_eq_true rfl) (Nat.le_of_ble_eq_true rfl) (fun s1 H locs hw hV => ?_)
  refine lv_aload_n hx hb d_M_stand_5 rfl (lv_at hl 0 rfl) ?_
  refine kg_M_M_state hx hb hG hown hK hV d_M_stand_6 ?_
  refine lv_iload_n hx hb d_M_stand_9 rfl (lv_at hl 2 rfl) ?_
  refine lv_iload_n hx hb d_M_stand_10 rfl (lv_at hl 3 rfl) ?_
  refine ks_26 hx hb hK hV hw.1 d_M_stand_11 (fun s2 H locs es2 hV => ?_)
  have hw := hw.2 s2 es2
  refine lv_aload_n hx hb d_M_stand_12 rfl (lv_at hl 0 rfl) ?_
  refine kg_M_M_waiting hx hb hG hown hK hV d_M_stand_13 ?_
  refine lv_bipush (v := 16) hx hb d_M_stand_16 (by decide) ?_
  refine lv_iload_n hx hb d_M_stand_18 rfl (lv_at hl 1 rfl) ?_
  refine lv_imul hx hb d_M_stand_19 ?_
  refine lv_aload_n hx hb d_M_stand_20 rfl (lv_at hl 0 rfl) ?_
  refine kg_M_M_waits hx hb hG hown hK hV d_M_stand_21 ?_
  refine lv_iload_n hx hb d_M_stand_24 rfl (lv_at hl 1 rfl) ?_
  refine kl_40 hx hb hK hV hw.1 d_M_stand_25 ?_
  have hw := hw.2
  refine lv_iadd hx hb d_M_stand_26 ?_
  refine lv_iload_n hx hb d_M_stand_27 rfl (lv_at hl 2 rfl) ?_
  refine ks_39 hx hb hK hV hw.1 d_M_stand_28 (fun s3 H locs es3 hV => ?_)
  have hw := hw.2 s3 es3
  refine lv_aload_n hx hb d_M_stand_29 rfl (lv_at hl 0 rfl) ?_
  refine kg_M_M_waits hx hb hG hown hK hV d_M_stand_30 ?_
  refine lv_iload_n hx hb d_M_stand_33 rfl (lv_at hl 1 rfl) ?_
  refine lv_dup2_11 hx hb d_M_stand_34 rfl rfl ?_
  refine kl_40 hx hb hK hV hw.1 d_M_stand_35 ?_
  have hw := hw.2
  refine lv_iconst (v := 1) hx hb d_M_stand_36 (by decide) ?_
  refine lv_iadd hx hb d_M_stand_37 ?_
  refine ks_40 hx hb hK hV hw.1 d_M_stand_38 (fun s4 H locs es4 hV => ?_)
  have hw := hw.2 s4 es4
  exact kr_v hx hb hr hV hK hX hAe hw d_M_stand_39
theorem d_M_leaveRow_0 : decode b_M_leaveRow 0 = .ok (.iconst 0, 1) := by decide +kernel
theorem d_M_leaveRow_1 : decode b_M_leaveRow 1 = .ok (.istore_n 3, 1) := by decide +kernel
theorem d_M_leaveRow_2 : decode b_M_leaveRow 2 = .ok (.iconst 0, 1) := by decide +kernel
theorem d_M_leaveRow_3 : decode b_M_leaveRow 3 = .ok (.istore 4, 2) := by decide +kernel
theorem d_M_leaveRow_5 : decode b_M_leaveRow 5 = .ok (.iload 4, 2) := by decide +kernel
theorem d_M_leaveRow_7 : decode b_M_leaveRow 7 = .ok (.aload_n 0, 1) := by decide +kernel
theorem d_M_leaveRow_8 : decode b_M_leaveRow 8 = .ok (.getfield 46, 3) := by decide +kernel
theorem d_M_leaveRow_11 : decode b_M_leaveRow 11 = .ok (.iload_n 1, 1) := by decide +kernel
theorem d_M_leaveRow_12 : decode b_M_leaveRow 12 = .ok (.iaload, 1) := by decide +kernel
theorem d_M_leaveRow_13 : decode b_M_leaveRow 13 = .ok (.if_icmp .ge 51, 3) := by decide +kernel
theorem d_M_leaveRow_16 : decode b_M_leaveRow 16 = .ok (.aload_n 0, 1) := by decide +kernel
theorem d_M_leaveRow_17 : decode b_M_leaveRow 17 = .ok (.getfield 43, 3) := by decide +kernel
theorem d_M_leaveRow_20 : decode b_M_leaveRow 20 = .ok (.bipush 16, 2) := by decide +kernel
theorem d_M_leaveRow_22 : decode b_M_leaveRow 22 = .ok (.iload_n 1, 1) := by decide +kernel
theorem d_M_leaveRow_23 : decode b_M_leaveRow 23 = .ok (.imul, 1) := by decide +kernel
theorem d_M_leaveRow_24 : decode b_M_leaveRow 24 = .ok (.iload 4, 2) := by decide +kernel
theorem d_M_leaveRow_26 : decode b_M_leaveRow 26 = .ok (.iadd, 1) := by decide +kernel
theorem d_M_leaveRow_27 : decode b_M_leaveRow 27 = .ok (.iaload, 1) := by decide +kernel
theorem d_M_leaveRow_28 : decode b_M_leaveRow 28 = .ok (.iload_n 2, 1) := by decide +kernel
theorem d_M_leaveRow_29 : decode b_M_leaveRow 29 = .ok (.if_icmp .eq 29, 3) := by decide +kernel
theorem d_M_leaveRow_32 : decode b_M_leaveRow 32 = .ok (.aload_n 0, 1) := by decide +kernel
theorem d_M_leaveRow_33 : decode b_M_leaveRow 33 = .ok (.getfield 43, 3) := by decide +kernel
theorem d_M_leaveRow_36 : decode b_M_leaveRow 36 = .ok (.bipush 16, 2) := by decide +kernel
theorem d_M_leaveRow_38 : decode b_M_leaveRow 38 = .ok (.iload_n 1, 1) := by decide +kernel
theorem d_M_leaveRow_39 : decode b_M_leaveRow 39 = .ok (.imul, 1) := by decide +kernel
theorem d_M_leaveRow_40 : decode b_M_leaveRow 40 = .ok (.iload_n 3, 1) := by decide +kernel
theorem d_M_leaveRow_41 : decode b_M_leaveRow 41 = .ok (.iadd, 1) := by decide +kernel
theorem d_M_leaveRow_42 : decode b_M_leaveRow 42 = .ok (.aload_n 0, 1) := by decide +kernel
theorem d_M_leaveRow_43 : decode b_M_leaveRow 43 = .ok (.getfield 43, 3) := by decide +kernel
theorem d_M_leaveRow_46 : decode b_M_leaveRow 46 = .ok (.bipush 16, 2) := by decide +kernel
theorem d_M_leaveRow_48 : decode b_M_leaveRow 48 = .ok (.iload_n 1, 1) := by decide +kernel
theorem d_M_leaveRow_49 : decode b_M_leaveRow 49 = .ok (.imul, 1) := by decide +kernel
theorem d_M_leaveRow_50 : decode b_M_leaveRow 50 = .ok (.iload 4, 2) := by decide +kernel
theorem d_M_leaveRow_52 : decode b_M_leaveRow 52 = .ok (.iadd, 1) := by decide +kernel
theorem d_M_leaveRow_53 : decode b_M_leaveRow 53 = .ok (.iaload, 1) := by decide +kernel
theorem d_M_leaveRow_54 : decode b_M_leaveRow 54 = .ok (.iastore, 1) := by decide +kernel
theorem d_M_leaveRow_55 : decode b_M_leaveRow 55 = .ok (.iinc 3 1, 3) := by decide +kernel
theorem d_M_leaveRow_58 : decode b_M_leaveRow 58 = .ok (.iinc 4 1, 3) := by decide +kernel
theorem d_M_leaveRow_61 : decode b_M_leaveRow 61 = .ok (.goto (-56), 3) := by decide +kernel
theorem d_M_leaveRow_64 : decode b_M_leaveRow 64 = .ok (.aload_n 0, 1) := by decide +kernel
theorem d_M_leaveRow_65 : decode b_M_leaveRow 65 = .ok (.getfield 46, 3) := by decide +kernel
theorem d_M_leaveRow_68 : decode b_M_leaveRow 68 = .ok (.iload_n 1, 1) := by decide +kernel
theorem d_M_leaveRow_69 : decode b_M_leaveRow 69 = .ok (.iload_n 3, 1) := by decide +kernel
theorem d_M_leaveRow_70 : decode b_M_leaveRow 70 = .ok (.iastore, 1) := by decide +kernel
theorem d_M_leaveRow_71 : decode b_M_leaveRow 71 = .ok (.return_, 1) := by decide +kernel
def w_M_leaveRow_5 (x1 : Int32) (x2 : Int32) (Φ : KS → Prop) : Nat → Int32 → Int32 → KS → Prop
  | 0, _, _, _ => False
  | n + 1, v3, v4, s0 => vp_in x1 17 ∧ (((s0 40 0 x1.toNatClampNeg) ≤ v4 → vp_in x1 17 ∧ ∀ s1 : KS, s1 = w3 s0 40 0 x1.toNatClampNeg v3 → Φ s1) ∧ (¬ (s0 40 0 x1.toNatClampNeg) ≤ v4 → vp_in (((16 : Int32) * x1) + v4) 272 ∧ (((s0 39 0 (((16 : Int32) * x1) + v4).toNatClampNeg) = x2 → ∀ y2 : Int32, y2 = v4 + (1 : Int32) → w_M_leaveRow_5 x1 x2 Φ n v3 y2 s0) ∧ (¬ (s0 39 0 (((16 : Int32) * x1) + v4).toNatClampNeg) = x2 → vp_in (((16 : Int32) * x1) + v4) 272 ∧ vp_in (((16 : Int32) * x1) + v3) 272 ∧ ∀ s3 : KS, s3 = w3 s0 39 0 (((16 : Int32) * x1) + v3).toNatClampNeg (s0 39 0 (((16 : Int32) * x1) + v4).toNatClampNeg) → ∀ y4 : Int32, y4 = v3 + (1 : Int32) → ∀ y5 : Int32, y5 = v4 + (1 : Int32) → w_M_leaveRow_5 x1 x2 Φ n y4 y5 s3))))
def w_M_leaveRow (x1 : Int32) (x2 : Int32) (s0 : KS) (Φ : KS → Prop) : Prop := ∃ nn : Nat, w_M_leaveRow_5 x1 x2 Φ nn (0 : Int32) (0 : Int32) s0
set_option maxHeartbeats 4000000 in
set_option maxRecDepth 100000 in
theorem c_M_leaveRow (l : Launch) (E : gE) (s0 : KS) (x1 : Int32) (x2 : Int32) (Φ : KS → Prop) (hw : w_M_leaveRow x1 x2 s0 Φ) : gMv l y_M_leaveRow v_M_leaveRow m_M_leaveRow E MM [.ref (ea E 20 0), .int x1, .int x2] s0 Φ := by
  intro sz
  refine Met.ofW (cc := b_M_leaveRow) (maxL := 5) (ret := none) (by decide) rfl ?_
  intro p e s m args below meth c s₁ B hml hv
  obtain ⟨rfl, hsz, hP, hK, hD, hX⟩ := hv
  have hx := B.exec
  have hb := B.bytes
  have hr := B.returns
  have hts := atoms_spec (ws := v_M_leaveRow) B.pre
  have hG : ∀ w ∈ gG, w.before _ s = true := fun w h => hts w (List.mem_cons_of_mem _ h)
  have hown : s.vm.findClass R_M = some m.cls := findClass_of_methodNamed B.named
  have hlocks := B.notSynchronized
  subst hsz
  obtain ⟨A, hAe⟩ : ∃ A, A = gA E MM s.heap.size := ⟨_, rfl⟩
  rw [← hAe] at hD hX ⊢
  have hV : gV E MM A s0 s s.heap [] := ⟨hP, hD, va_S.rf⟩
  have hl := lv_entry ([.ref (ea E 20 0), .int x1, .int x2] : List Value) (n := 5) (Nat.le_of_ble_eq_true rfl)
  rw [lg_entry_eq]
  generalize (lg_sl ([.ref (ea E 20 0), .int x1, .int x2] : List Value) ++ List.replicate (5 - (lg_sl ([.ref (ea E 20 0), .int x1, .int x2] : List Value)).length) Slot.unset).toArray = ls at hl ⊢
  have hl : lv_has ls 5 [(0, .ref (ea E 20 0)), (1, .int x1), (2, .int x2)] := hl
  have L5 : ∀ (n : Nat), ∀ (ls : Array Slot) (H : Heap) (locs : List Loc) (s0 : KS) (v3 : Int32) (v4 : Int32), lv_has ls 5 [(0, .ref (ea E 20 0)), (1, .int x1), (2, .int x2), (3, .int v3), (4, .int v4)] → gV E MM A s0 s H locs → w_M_leaveRow_5 x1 x2 Φ n v3 v4 s0 → W p l e m_M_leaveRow s m ([.ref (ea E 20 0), .int x1, .int x2] : List Value).toArray below meth c H locs 0 0 (MQ below (gQv E MM A Φ) ([.ref (ea E 20 0), .int x1, .int x2] : List Value).toArray s 0 0 A) (F0 m 5 ls []) := by
    intro n
    induction n with
    | zero =>
      intro ls H locs s0 v3 v4 hl hV hw
      exact False.elim hw
    | succ n ih =>
      intro ls H locs s0 v3 v4 hl hV hw
      unfold w_M_leaveRow_5 at hw
      refine lv_iload hx hb d_M_leaveRow_5 (lv_at hl 4 rfl) ?_
      refine lv_aload_n hx hb d_M_leaveRow_7 rfl (lv_at hl 0 rfl) ?_
      refine kg_M_M_waits hx hb hG hown hK hV d_M_leaveRow_8 ?_
      refine lv_iload_n hx hb d_M_leaveRow_11 rfl (lv_at hl 1 rfl) ?_
      refine kl_40 hx hb hK hV hw.1 d_M_leaveRow_12 ?_
      have hw := hw.2
      refine lv_icmp_ge (tgt := 64) hx hb d_M_leaveRow_13 rfl (fun hc => ?_) (fun hc => ?_)
      · have hw := hw.1 hc
        refine lv_aload_n hx hb d_M_leaveRow_64 rfl (lv_at hl 0 rfl) ?_
        refine kg_M_M_waits hx hb hG hown hK hV d_M_leaveRow_65 ?_
        refine lv_iload_n hx hb d_M_leaveRow_68 rfl (lv_at hl 1 rfl) ?_
        refine lv_iload_n hx hb d_M_leaveRow_69 rfl (lv_at hl 3 rfl) ?_
        refine ks_40 hx hb hK hV hw.1 d_M_leaveRow_70 (fun s1 H locs es1 hV => ?_)
        have hw := hw.2 s1 es1
        exact kr_v hx hb hr hV hK hX hAe hw d_M_leaveRow_71
      · have hw := hw.2 hc
        refine lv_aload_n hx hb d_M_leaveRow_16 rfl (lv_at hl 0 rfl) ?_
        refine kg_M_M_waiting hx hb hG hown hK hV d_M_leaveRow_17 ?_
        refine lv_bipush (v := 16) hx hb d_M_leaveRow_20 (by decide) ?_
        refine lv_iload_n hx hb d_M_leaveRow_22 rfl (lv_at hl 1 rfl) ?_
        refine lv_imul hx hb d_M_leaveRow_23 ?_
        refine lv_iload hx hb d_M_leaveRow_24 (lv_at hl 4 rfl) ?_
        refine lv_iadd hx hb d_M_leaveRow_26 ?_
        refine kl_39 hx hb hK hV hw.1 d_M_leaveRow_27 ?_
        have hw := hw.2
        refine lv_iload_n hx hb d_M_leaveRow_28 rfl (lv_at hl 2 rfl) ?_
        refine lv_icmp_eq (tgt := 58) hx hb d_M_leaveRow_29 rfl (fun hc => ?_) (fun hc => ?_)
        · have hw := hw.1 hc
          obtain ⟨y2, ey2⟩ : ∃ z : Int32, z = v4 + (1 : Int32) := ⟨_, rfl⟩
          have hw := hw y2 ey2
          refine lv_iinc (k := 4) (v := y2) (lv' := [(4, .int y2), (0, .ref (ea E 20 0)), (1, .int x1), (2, .int x2), (3, .int v3)]) hx hb d_M_leaveRow_58 hl rfl (by rw [ey2]; rfl) (by decide) rfl (fun ls hl => ?_)
          refine lv_goto (tgt := 5) hx hb d_M_leaveRow_61 rfl ?_
          exact ih _ _ _ s0 v3 y2 (lv_sub hl [1, 2, 3, 4, 0] rfl) hV hw
        · have hw := hw.2 hc
          refine lv_aload_n hx hb d_M_leaveRow_32 rfl (lv_at hl 0 rfl) ?_
          refine kg_M_M_waiting hx hb hG hown hK hV d_M_leaveRow_33 ?_
          refine lv_bipush (v := 16) hx hb d_M_leaveRow_36 (by decide) ?_
          refine lv_iload_n hx hb d_M_leaveRow_38 rfl (lv_at hl 1 rfl) ?_
          refine lv_imul hx hb d_M_leaveRow_39 ?_
          refine lv_iload_n hx hb d_M_leaveRow_40 rfl (lv_at hl 3 rfl) ?_
          refine lv_iadd hx hb d_M_leaveRow_41 ?_
          refine lv_aload_n hx hb d_M_leaveRow_42 rfl (lv_at hl 0 rfl) ?_
          refine kg_M_M_waiting hx hb hG hown hK hV d_M_leaveRow_43 ?_
          refine lv_bipush (v := 16) hx hb d_M_leaveRow_46 (by decide) ?_
          refine lv_iload_n hx hb d_M_leaveRow_48 rfl (lv_at hl 1 rfl) ?_
          refine lv_imul hx hb d_M_leaveRow_49 ?_
          refine lv_iload hx hb d_M_leaveRow_50 (lv_at hl 4 rfl) ?_
          refine lv_iadd hx hb d_M_leaveRow_52 ?_
          refine kl_39 hx hb hK hV hw.1 d_M_leaveRow_53 ?_
          have hw := hw.2
          refine ks_39 hx hb hK hV hw.1 d_M_leaveRow_54 (fun s3 H locs es3 hV => ?_)
          have hw := hw.2 s3 es3
          obtain ⟨y4, ey4⟩ : ∃ z : Int32, z = v3 + (1 : Int32) := ⟨_, rfl⟩
          have hw := hw y4 ey4
          refine lv_iinc (k := 3) (v := y4) (lv' := [(3, .int y4), (0, .ref (ea E 20 0)), (1, .int x1), (2, .int x2), (4, .int v4)]) hx hb d_M_leaveRow_55 hl rfl (by rw [ey4]; rfl) (by decide) rfl (fun ls hl => ?_)
          obtain ⟨y5, ey5⟩ : ∃ z : Int32, z = v4 + (1 : Int32) := ⟨_, rfl⟩
          have hw := hw y5 ey5
          refine lv_iinc (k := 4) (v := y5) (lv' := [(4, .int y5), (3, .int y4), (0, .ref (ea E 20 0)), (1, .int x1), (2, .int x2)]) hx hb d_M_leaveRow_58 hl rfl (by rw [ey5]; rfl) (by decide) rfl (fun ls hl => ?_)
          refine lv_goto (tgt := 5) hx hb d_M_leaveRow_61 rfl ?_
          exact ih _ _ _ s3 y4 y5 (lv_sub hl [2, 3, 4, 1, 0] rfl) hV hw
  unfold w_M_leaveRow at hw
  refine lv_iconst (v := 0) hx hb d_M_leaveRow_0 (by decide) ?_
  refine lv_istore_n (lv' := [(3, .int (0 : Int32)), (0, .ref (ea E 20 0)), (1, .int x1), (2, .int x2)]) hx hb d_M_leaveRow_1 rfl hl (by decide) rfl (fun ls hl => ?_)
  refine lv_iconst (v := 0) hx hb d_M_leaveRow_2 (by decide) ?_
  refine lv_istore (lv' := [(4, .int (0 : Int32)), (3, .int (0 : Int32)), (0, .ref (ea E 20 0)), (1, .int x1), (2, .int x2)]) hx hb d_M_leaveRow_3 hl (by decide) rfl (fun ls hl => ?_)
  obtain ⟨nn, hw⟩ := hw
  exact L5 nn _ _ _ s0 (0 : Int32) (0 : Int32) (lv_sub hl [2, 3, 4, 1, 0] rfl) hV hw
theorem d_M_wakeFirst_0 : decode b_M_wakeFirst 0 = .ok (.aload_n 0, 1) := by decide +kernel
theorem d_M_wakeFirst_1 : decode b_M_wakeFirst 1 = .ok (.getfield 46, 3) := by decide +kernel
theorem d_M_wakeFirst_4 : decode b_M_wakeFirst 4 = .ok (.iload_n 1, 1) := by decide +kernel
theorem d_M_wakeFirst_5 : decode b_M_wakeFirst 5 = .ok (.iaload, 1) := by decide +kernel
theorem d_M_wakeFirst_6 : decode b_M_wakeFirst 6 = .ok (.ifCond .le 24, 3) := by decide +kernel
theorem d_M_wakeFirst_9 : decode b_M_wakeFirst 9 = .ok (.aload_n 0, 1) := by decide +kernel
theorem d_M_wakeFirst_10 : decode b_M_wakeFirst 10 = .ok (.getfield 43, 3) := by decide +kernel
theorem d_M_wakeFirst_13 : decode b_M_wakeFirst 13 = .ok (.bipush 16, 2) := by decide +kernel
theorem d_M_wakeFirst_15 : decode b_M_wakeFirst 15 = .ok (.iload_n 1, 1) := by decide +kernel
theorem d_M_wakeFirst_16 : decode b_M_wakeFirst 16 = .ok (.imul, 1) := by decide +kernel
theorem d_M_wakeFirst_17 : decode b_M_wakeFirst 17 = .ok (.iaload, 1) := by decide +kernel
theorem d_M_wakeFirst_18 : decode b_M_wakeFirst 18 = .ok (.istore_n 2, 1) := by decide +kernel
theorem d_M_wakeFirst_19 : decode b_M_wakeFirst 19 = .ok (.aload_n 0, 1) := by decide +kernel
theorem d_M_wakeFirst_20 : decode b_M_wakeFirst 20 = .ok (.iload_n 1, 1) := by decide +kernel
theorem d_M_wakeFirst_21 : decode b_M_wakeFirst 21 = .ok (.iload_n 2, 1) := by decide +kernel
theorem d_M_wakeFirst_22 : decode b_M_wakeFirst 22 = .ok (.invokevirtual 91, 3) := by decide +kernel
theorem d_M_wakeFirst_25 : decode b_M_wakeFirst 25 = .ok (.aload_n 0, 1) := by decide +kernel
theorem d_M_wakeFirst_26 : decode b_M_wakeFirst 26 = .ok (.iload_n 2, 1) := by decide +kernel
theorem d_M_wakeFirst_27 : decode b_M_wakeFirst 27 = .ok (.invokevirtual 75, 3) := by decide +kernel
theorem d_M_wakeFirst_30 : decode b_M_wakeFirst 30 = .ok (.return_, 1) := by decide +kernel
def w_M_wakeFirst (x1 : Int32) (s0 : KS) (Φ : KS → Prop) : Prop := vp_in x1 17 ∧ (((s0 40 0 x1.toNatClampNeg) ≤ 0 → Φ s0) ∧ (¬ (s0 40 0 x1.toNatClampNeg) ≤ 0 → vp_in ((16 : Int32) * x1) 272 ∧ ∀ y1 : Int32, y1 = s0 39 0 ((16 : Int32) * x1).toNatClampNeg → w_M_leaveRow x1 y1 s0 (fun s2 => w_M_ready y1 s2 (fun s3 => Φ s3))))
set_option maxHeartbeats 4000000 in
set_option maxRecDepth 100000 in
theorem c_M_wakeFirst (l : Launch) (E : gE) (s0 : KS) (x1 : Int32) (Φ : KS → Prop) (hw : w_M_wakeFirst x1 s0 Φ) : gMv l y_M_wakeFirst v_M_wakeFirst m_M_wakeFirst E MM [.ref (ea E 20 0), .int x1] s0 Φ := by
  intro sz
  refine Met.ofW (cc := b_M_wakeFirst) (maxL := 3) (ret := none) (by decide) rfl ?_
  intro p e s m args below meth c s₁ B hml hv
  obtain ⟨rfl, hsz, hP, hK, hD, hX⟩ := hv
  have hx := B.exec
  have hb := B.bytes
  have hr := B.returns
  have hts := atoms_spec (ws := v_M_wakeFirst) B.pre
  have hG : ∀ w ∈ gG, w.before _ s = true := fun w h => hts w (List.mem_cons_of_mem _ h)
  have hown : s.vm.findClass R_M = some m.cls := findClass_of_methodNamed B.named
  have hlocks := B.notSynchronized
  subst hsz
  obtain ⟨A, hAe⟩ : ∃ A, A = gA E MM s.heap.size := ⟨_, rfl⟩
  rw [← hAe] at hD hX ⊢
  have hV : gV E MM A s0 s s.heap [] := ⟨hP, hD, va_S.rf⟩
  have hl := lv_entry ([.ref (ea E 20 0), .int x1] : List Value) (n := 3) (Nat.le_of_ble_eq_true rfl)
  rw [lg_entry_eq]
  generalize (lg_sl ([.ref (ea E 20 0), .int x1] : List Value) ++ List.replicate (3 - (lg_sl ([.ref (ea E 20 0), .int x1] : List Value)).length) Slot.unset).toArray = ls at hl ⊢
  have hl : lv_has ls 3 [(0, .ref (ea E 20 0)), (1, .int x1)] := hl
  unfold w_M_wakeFirst at hw
  refine lv_aload_n hx hb d_M_wakeFirst_0 rfl (lv_at hl 0 rfl) ?_
  refine kg_M_M_waits hx hb hG hown hK hV d_M_wakeFirst_1 ?_
  refine lv_iload_n hx hb d_M_wakeFirst_4 rfl (lv_at hl 1 rfl) ?_
  refine kl_40 hx hb hK hV hw.1 d_M_wakeFirst_5 ?_
  have hw := hw.2
  refine lv_if_le (tgt := 30) hx hb d_M_wakeFirst_6 rfl (fun hc => ?_) (fun hc => ?_)
  · have hw := hw.1 hc
    exact kr_v hx hb hr hV hK hX hAe hw d_M_wakeFirst_30
  · have hw := hw.2 hc
    refine lv_aload_n hx hb d_M_wakeFirst_9 rfl (lv_at hl 0 rfl) ?_
    refine kg_M_M_waiting hx hb hG hown hK hV d_M_wakeFirst_10 ?_
    refine lv_bipush (v := 16) hx hb d_M_wakeFirst_13 (by decide) ?_
    refine lv_iload_n hx hb d_M_wakeFirst_15 rfl (lv_at hl 1 rfl) ?_
    refine lv_imul hx hb d_M_wakeFirst_16 ?_
    refine kl_39 hx hb hK hV hw.1 d_M_wakeFirst_17 ?_
    have hw := hw.2
    refine lv_topi (fun y1 ey1 => ?_)
    have hw := hw y1 ey1
    refine lv_istore_n (lv' := [(2, .int y1), (0, .ref (ea E 20 0)), (1, .int x1)]) hx hb d_M_wakeFirst_18 rfl hl (by decide) rfl (fun ls hl => ?_)
    refine lv_aload_n hx hb d_M_wakeFirst_19 rfl (lv_at hl 1 rfl) ?_
    refine lv_iload_n hx hb d_M_wakeFirst_20 rfl (lv_at hl 2 rfl) ?_
    refine lv_iload_n hx hb d_M_wakeFirst_21 rfl (lv_at hl 0 rfl) ?_
    refine kc_M_M_leaveRow hx hb hml hown hts hV hK hX hAe (c_M_leaveRow l E s0 x1 y1 _ hw) hl.1 (Nat.le_of_ble_eq_true rfl) d_M_wakeFirst_22 (Nat.le_of_ble_eq_true rfl) (Nat.le_of_ble_eq_true rfl) (fun s2 H locs hw hV => ?_)
    refine lv_aload_n hx hb d_M_wakeFirst_25 rfl (lv_at hl 1 rfl) ?_
    refine lv_iload_n hx hb d_M_wakeFirst_26 rfl (lv_at hl 0 rfl) ?_
    refine kc_M_M_ready hx hb hml hown hts hV hK hX hAe (c_M_ready l E s2 y1 _ hw) hl.1 (Nat.le_of_ble_eq_true rfl) d_M_wakeFirst_27 (Nat.le_of_ble_eq_true rfl) (Nat.le_of_ble_eq_true rfl) (fun s3 H locs hw hV => ?_)
    exact kr_v hx hb hr hV hK hX hAe hw d_M_wakeFirst_30
theorem d_M_wakeAll_0 : decode b_M_wakeAll 0 = .ok (.aload_n 0, 1) := by decide +kernel
theorem d_M_wakeAll_1 : decode b_M_wakeAll 1 = .ok (.getfield 46, 3) := by decide +kernel
theorem d_M_wakeAll_4 : decode b_M_wakeAll 4 = .ok (.iload_n 1, 1) := by decide +kernel
theorem d_M_wakeAll_5 : decode b_M_wakeAll 5 = .ok (.iaload, 1) := by decide +kernel
theorem d_M_wakeAll_6 : decode b_M_wakeAll 6 = .ok (.ifCond .le 11, 3) := by decide +kernel
theorem d_M_wakeAll_9 : decode b_M_wakeAll 9 = .ok (.aload_n 0, 1) := by decide +kernel
theorem d_M_wakeAll_10 : decode b_M_wakeAll 10 = .ok (.iload_n 1, 1) := by decide +kernel
theorem d_M_wakeAll_11 : decode b_M_wakeAll 11 = .ok (.invokevirtual 95, 3) := by decide +kernel
theorem d_M_wakeAll_14 : decode b_M_wakeAll 14 = .ok (.goto (-14), 3) := by decide +kernel
theorem d_M_wakeAll_17 : decode b_M_wakeAll 17 = .ok (.return_, 1) := by decide +kernel
def w_M_wakeAll_0 (x1 : Int32) (Φ : KS → Prop) : Nat → KS → Prop
  | 0, _ => False
  | n + 1, s0 => vp_in x1 17 ∧ (((s0 40 0 x1.toNatClampNeg) ≤ 0 → Φ s0) ∧ (¬ (s0 40 0 x1.toNatClampNeg) ≤ 0 → w_M_wakeFirst x1 s0 (fun s1 => w_M_wakeAll_0 x1 Φ n s1)))
def w_M_wakeAll (x1 : Int32) (s0 : KS) (Φ : KS → Prop) : Prop := ∃ nn : Nat, w_M_wakeAll_0 x1 Φ nn s0
set_option maxHeartbeats 4000000 in
set_option maxRecDepth 100000 in
theorem c_M_wakeAll (l : Launch) (E : gE) (s0 : KS) (x1 : Int32) (Φ : KS → Prop) (hw : w_M_wakeAll x1 s0 Φ) : gMv l y_M_wakeAll v_M_wakeAll m_M_wakeAll E MM [.ref (ea E 20 0), .int x1] s0 Φ := by
  intro sz
  refine Met.ofW (cc := b_M_wakeAll) (maxL := 2) (ret := none) (by decide) rfl ?_
  intro p e s m args below meth c s₁ B hml hv
  obtain ⟨rfl, hsz, hP, hK, hD, hX⟩ := hv
  have hx := B.exec
  have hb := B.bytes
  have hr := B.returns
  have hts := atoms_spec (ws := v_M_wakeAll) B.pre
  have hG : ∀ w ∈ gG, w.before _ s = true := fun w h => hts w (List.mem_cons_of_mem _ h)
  have hown : s.vm.findClass R_M = some m.cls := findClass_of_methodNamed B.named
  have hlocks := B.notSynchronized
  subst hsz
  obtain ⟨A, hAe⟩ : ∃ A, A = gA E MM s.heap.size := ⟨_, rfl⟩
  rw [← hAe] at hD hX ⊢
  have hV : gV E MM A s0 s s.heap [] := ⟨hP, hD, va_S.rf⟩
  have hl := lv_entry ([.ref (ea E 20 0), .int x1] : List Value) (n := 2) (Nat.le_of_ble_eq_true rfl)
  rw [lg_entry_eq]
  generalize (lg_sl ([.ref (ea E 20 0), .int x1] : List Value) ++ List.replicate (2 - (lg_sl ([.ref (ea E 20 0), .int x1] : List Value)).length) Slot.unset).toArray = ls at hl ⊢
  have hl : lv_has ls 2 [(0, .ref (ea E 20 0)), (1, .int x1)] := hl
  have L0 : ∀ (n : Nat), ∀ (ls : Array Slot) (H : Heap) (locs : List Loc) (s0 : KS), lv_has ls 2 [(0, .ref (ea E 20 0)), (1, .int x1)] → gV E MM A s0 s H locs → w_M_wakeAll_0 x1 Φ n s0 → W p l e m_M_wakeAll s m ([.ref (ea E 20 0), .int x1] : List Value).toArray below meth c H locs 0 0 (MQ below (gQv E MM A Φ) ([.ref (ea E 20 0), .int x1] : List Value).toArray s 0 0 A) (F0 m 0 ls []) := by
    intro n
    induction n with
    | zero =>
      intro ls H locs s0 hl hV hw
      exact False.elim hw
    | succ n ih =>
      intro ls H locs s0 hl hV hw
      unfold w_M_wakeAll_0 at hw
      refine lv_aload_n hx hb d_M_wakeAll_0 rfl (lv_at hl 0 rfl) ?_
      refine kg_M_M_waits hx hb hG hown hK hV d_M_wakeAll_1 ?_
      refine lv_iload_n hx hb d_M_wakeAll_4 rfl (lv_at hl 1 rfl) ?_
      refine kl_40 hx hb hK hV hw.1 d_M_wakeAll_5 ?_
      have hw := hw.2
      refine lv_if_le (tgt := 17) hx hb d_M_wakeAll_6 rfl (fun hc => ?_) (fun hc => ?_)
      · have hw := hw.1 hc
        exact kr_v hx hb hr hV hK hX hAe hw d_M_wakeAll_17
      · have hw := hw.2 hc
        refine lv_aload_n hx hb d_M_wakeAll_9 rfl (lv_at hl 0 rfl) ?_
        refine lv_iload_n hx hb d_M_wakeAll_10 rfl (lv_at hl 1 rfl) ?_
        refine kc_M_M_wakeFirst hx hb hml hown hts hV hK hX hAe (c_M_wakeFirst l E s0 x1 _ hw) hl.1 (Nat.le_of_ble_eq_true rfl) d_M_wakeAll_11 (Nat.le_of_ble_eq_true rfl) (Nat.le_of_ble_eq_true rfl) (fun s1 H locs hw hV => ?_)
        refine lv_goto (tgt := 0) hx hb d_M_wakeAll_14 rfl ?_
        exact ih _ _ _ s1 (lv_sub hl [0, 1] rfl) hV hw
  unfold w_M_wakeAll at hw
  obtain ⟨nn, hw⟩ := hw
  exact L0 nn _ _ _ s0 (lv_sub hl [0, 1] rfl) hV hw
theorem d_M_many_0 : decode b_M_many 0 = .ok (.iconst 0, 1) := by decide +kernel
theorem d_M_many_1 : decode b_M_many 1 = .ok (.istore_n 2, 1) := by decide +kernel
theorem d_M_many_2 : decode b_M_many 2 = .ok (.iconst 0, 1) := by decide +kernel
theorem d_M_many_3 : decode b_M_many 3 = .ok (.istore_n 3, 1) := by decide +kernel
theorem d_M_many_4 : decode b_M_many 4 = .ok (.iload_n 3, 1) := by decide +kernel
theorem d_M_many_5 : decode b_M_many 5 = .ok (.sipush 128, 3) := by decide +kernel
theorem d_M_many_8 : decode b_M_many 8 = .ok (.if_icmp .ge 27, 3) := by decide +kernel
theorem d_M_many_11 : decode b_M_many 11 = .ok (.aload_n 0, 1) := by decide +kernel
theorem d_M_many_12 : decode b_M_many 12 = .ok (.getfield 28, 3) := by decide +kernel
theorem d_M_many_15 : decode b_M_many 15 = .ok (.iload_n 3, 1) := by decide +kernel
theorem d_M_many_16 : decode b_M_many 16 = .ok (.iaload, 1) := by decide +kernel
theorem d_M_many_17 : decode b_M_many 17 = .ok (.iload_n 1, 1) := by decide +kernel
theorem d_M_many_18 : decode b_M_many 18 = .ok (.if_icmp .ne 9, 3) := by decide +kernel
theorem d_M_many_21 : decode b_M_many 21 = .ok (.iload_n 2, 1) := by decide +kernel
theorem d_M_many_22 : decode b_M_many 22 = .ok (.iconst 1, 1) := by decide +kernel
theorem d_M_many_23 : decode b_M_many 23 = .ok (.iadd, 1) := by decide +kernel
theorem d_M_many_24 : decode b_M_many 24 = .ok (.goto 4, 3) := by decide +kernel
theorem d_M_many_27 : decode b_M_many 27 = .ok (.iload_n 2, 1) := by decide +kernel
theorem d_M_many_28 : decode b_M_many 28 = .ok (.istore_n 2, 1) := by decide +kernel
theorem d_M_many_29 : decode b_M_many 29 = .ok (.iinc 3 1, 3) := by decide +kernel
theorem d_M_many_32 : decode b_M_many 32 = .ok (.goto (-28), 3) := by decide +kernel
theorem d_M_many_35 : decode b_M_many 35 = .ok (.iload_n 2, 1) := by decide +kernel
theorem d_M_many_36 : decode b_M_many 36 = .ok (.ireturn, 1) := by decide +kernel
def w_M_many_4 (x1 : Int32) (Φ : Int32 → KS → Prop) : Nat → Int32 → Int32 → KS → Prop
  | 0, _, _, _ => False
  | n + 1, v2, v3, s0 => (((128 : Int32) ≤ v3 → Φ v2 s0) ∧ (¬ (128 : Int32) ≤ v3 → vp_in v3 128 ∧ ((¬ (s0 31 0 v3.toNatClampNeg) = x1 → ∀ y1 : Int32, y1 = v3 + (1 : Int32) → w_M_many_4 x1 Φ n v2 y1 s0) ∧ ((s0 31 0 v3.toNatClampNeg) = x1 → ∀ y2 : Int32, y2 = v2 + (1 : Int32) → ∀ y3 : Int32, y3 = v3 + (1 : Int32) → w_M_many_4 x1 Φ n y2 y3 s0))))
def w_M_many (x1 : Int32) (s0 : KS) (Φ : Int32 → KS → Prop) : Prop := ∃ nn : Nat, w_M_many_4 x1 Φ nn (0 : Int32) (0 : Int32) s0
set_option maxHeartbeats 4000000 in
set_option maxRecDepth 100000 in
theorem c_M_many (l : Launch) (E : gE) (s0 : KS) (x1 : Int32) (Φ : Int32 → KS → Prop) (hw : w_M_many x1 s0 Φ) : gMi l y_M_many v_M_many m_M_many E MM [.ref (ea E 20 0), .int x1] s0 Φ := by
  intro sz
  refine Met.ofW (cc := b_M_many) (maxL := 4) (ret := (some .int)) (by decide) rfl ?_
  intro p e s m args below meth c s₁ B hml hv
  obtain ⟨rfl, hsz, hP, hK, hD, hX⟩ := hv
  have hx := B.exec
  have hb := B.bytes
  have hr := B.returns
  have hts := atoms_spec (ws := v_M_many) B.pre
  have hG : ∀ w ∈ gG, w.before _ s = true := fun w h => hts w (List.mem_cons_of_mem _ h)
  have hown : s.vm.findClass R_M = some m.cls := findClass_of_methodNamed B.named
  have hlocks := B.notSynchronized
  subst hsz
  obtain ⟨A, hAe⟩ : ∃ A, A = gA E MM s.heap.size := ⟨_, rfl⟩
  rw [← hAe] at hD hX ⊢
  have hV : gV E MM A s0 s s.heap [] := ⟨hP, hD, va_S.rf⟩
  have hl := lv_entry ([.ref (ea E 20 0), .int x1] : List Value) (n := 4) (Nat.le_of_ble_eq_true rfl)
  rw [lg_entry_eq]
  generalize (lg_sl ([.ref (ea E 20 0), .int x1] : List Value) ++ List.replicate (4 - (lg_sl ([.ref (ea E 20 0), .int x1] : List Value)).length) Slot.unset).toArray = ls at hl ⊢
  have hl : lv_has ls 4 [(0, .ref (ea E 20 0)), (1, .int x1)] := hl
  have L4 : ∀ (n : Nat), ∀ (ls : Array Slot) (H : Heap) (locs : List Loc) (s0 : KS) (v2 : Int32) (v3 : Int32), lv_has ls 4 [(0, .ref (ea E 20 0)), (1, .int x1), (2, .int v2), (3, .int v3)] → gV E MM A s0 s H locs → w_M_many_4 x1 Φ n v2 v3 s0 → W p l e m_M_many s m ([.ref (ea E 20 0), .int x1] : List Value).toArray below meth c H locs 0 0 (MQ below (gQi E MM A Φ) ([.ref (ea E 20 0), .int x1] : List Value).toArray s 0 0 A) (F0 m 4 ls []) := by
    intro n
    induction n with
    | zero =>
      intro ls H locs s0 v2 v3 hl hV hw
      exact False.elim hw
    | succ n ih =>
      intro ls H locs s0 v2 v3 hl hV hw
      unfold w_M_many_4 at hw
      refine lv_iload_n hx hb d_M_many_4 rfl (lv_at hl 3 rfl) ?_
      refine lv_sipush (v := 128) hx hb d_M_many_5 (by decide) ?_
      refine lv_icmp_ge (tgt := 35) hx hb d_M_many_8 rfl (fun hc => ?_) (fun hc => ?_)
      · have hw := hw.1 hc
        refine lv_iload_n hx hb d_M_many_35 rfl (lv_at hl 2 rfl) ?_
        exact kr_i hx hb hr hV hK hX hAe hw d_M_many_36
      · have hw := hw.2 hc
        refine lv_aload_n hx hb d_M_many_11 rfl (lv_at hl 0 rfl) ?_
        refine kg_M_M_descriptors hx hb hG hown hK hV d_M_many_12 ?_
        refine lv_iload_n hx hb d_M_many_15 rfl (lv_at hl 3 rfl) ?_
        refine kl_31 hx hb hK hV hw.1 d_M_many_16 ?_
        have hw := hw.2
        refine lv_iload_n hx hb d_M_many_17 rfl (lv_at hl 1 rfl) ?_
        refine lv_icmp_ne (tgt := 27) hx hb d_M_many_18 rfl (fun hc => ?_) (fun hc => ?_)
        · have hw := hw.1 hc
          refine lv_iload_n hx hb d_M_many_27 rfl (lv_at hl 2 rfl) ?_
          refine lv_istore_n (lv' := [(2, .int v2), (0, .ref (ea E 20 0)), (1, .int x1), (3, .int v3)]) hx hb d_M_many_28 rfl hl (by decide) rfl (fun ls hl => ?_)
          obtain ⟨y1, ey1⟩ : ∃ z : Int32, z = v3 + (1 : Int32) := ⟨_, rfl⟩
          have hw := hw y1 ey1
          refine lv_iinc (k := 3) (v := y1) (lv' := [(3, .int y1), (2, .int v2), (0, .ref (ea E 20 0)), (1, .int x1)]) hx hb d_M_many_29 hl rfl (by rw [ey1]; rfl) (by decide) rfl (fun ls hl => ?_)
          refine lv_goto (tgt := 4) hx hb d_M_many_32 rfl ?_
          exact ih _ _ _ s0 v2 y1 (lv_sub hl [2, 3, 1, 0] rfl) hV hw
        · have hw := hw.2 hc
          refine lv_iload_n hx hb d_M_many_21 rfl (lv_at hl 2 rfl) ?_
          refine lv_iconst (v := 1) hx hb d_M_many_22 (by decide) ?_
          refine lv_iadd hx hb d_M_many_23 ?_
          refine lv_goto (tgt := 28) hx hb d_M_many_24 rfl ?_
          refine lv_topi (fun y2 ey2 => ?_)
          have hw := hw y2 ey2
          refine lv_istore_n (lv' := [(2, .int y2), (0, .ref (ea E 20 0)), (1, .int x1), (3, .int v3)]) hx hb d_M_many_28 rfl hl (by decide) rfl (fun ls hl => ?_)
          obtain ⟨y3, ey3⟩ : ∃ z : Int32, z = v3 + (1 : Int32) := ⟨_, rfl⟩
          have hw := hw y3 ey3
          refine lv_iinc (k := 3) (v := y3) (lv' := [(3, .int y3), (2, .int y2), (0, .ref (ea E 20 0)), (1, .int x1)]) hx hb d_M_many_29 hl rfl (by rw [ey3]; rfl) (by decide) rfl (fun ls hl => ?_)
          refine lv_goto (tgt := 4) hx hb d_M_many_32 rfl ?_
          exact ih _ _ _ s0 y2 y3 (lv_sub hl [2, 3, 1, 0] rfl) hV hw
  unfold w_M_many at hw
  refine lv_iconst (v := 0) hx hb d_M_many_0 (by decide) ?_
  refine lv_istore_n (lv' := [(2, .int (0 : Int32)), (0, .ref (ea E 20 0)), (1, .int x1)]) hx hb d_M_many_1 rfl hl (by decide) rfl (fun ls hl => ?_)
  refine lv_iconst (v := 0) hx hb d_M_many_2 (by decide) ?_
  refine lv_istore_n (lv' := [(3, .int (0 : Int32)), (2, .int (0 : Int32)), (0, .ref (ea E 20 0)), (1, .int x1)]) hx hb d_M_many_3 rfl hl (by decide) rfl (fun ls hl => ?_)
  obtain ⟨nn, hw⟩ := hw
  exact L4 nn _ _ _ s0 (0 : Int32) (0 : Int32) (lv_sub hl [2, 3, 1, 0] rfl) hV hw
theorem d_M_isPipe_0 : decode b_M_isPipe 0 = .ok (.aload_n 0, 1) := by decide +kernel
theorem d_M_isPipe_1 : decode b_M_isPipe 1 = .ok (.bipush 10, 2) := by decide +kernel
theorem d_M_isPipe_3 : decode b_M_isPipe 3 = .ok (.iload_n 1, 1) := by decide +kernel
theorem d_M_isPipe_4 : decode b_M_isPipe 4 = .ok (.iadd, 1) := by decide +kernel
theorem d_M_isPipe_5 : decode b_M_isPipe 5 = .ok (.invokevirtual 98, 3) := by decide +kernel
theorem d_M_isPipe_8 : decode b_M_isPipe 8 = .ok (.ifCond .gt 14, 3) := by decide +kernel
theorem d_M_isPipe_11 : decode b_M_isPipe 11 = .ok (.aload_n 0, 1) := by decide +kernel
theorem d_M_isPipe_12 : decode b_M_isPipe 12 = .ok (.bipush 20, 2) := by decide +kernel
theorem d_M_isPipe_14 : decode b_M_isPipe 14 = .ok (.iload_n 1, 1) := by decide +kernel
theorem d_M_isPipe_15 : decode b_M_isPipe 15 = .ok (.iadd, 1) := by decide +kernel
theorem d_M_isPipe_16 : decode b_M_isPipe 16 = .ok (.invokevirtual 98, 3) := by decide +kernel
theorem d_M_isPipe_19 : decode b_M_isPipe 19 = .ok (.ifCond .le 7, 3) := by decide +kernel
theorem d_M_isPipe_22 : decode b_M_isPipe 22 = .ok (.iconst 1, 1) := by decide +kernel
theorem d_M_isPipe_23 : decode b_M_isPipe 23 = .ok (.goto 4, 3) := by decide +kernel
theorem d_M_isPipe_26 : decode b_M_isPipe 26 = .ok (.iconst 0, 1) := by decide +kernel
theorem d_M_isPipe_27 : decode b_M_isPipe 27 = .ok (.ireturn, 1) := by decide +kernel
def w_M_isPipe (x1 : Int32) (s0 : KS) (Φ : Int32 → KS → Prop) : Prop := w_M_many ((10 : Int32) + x1) s0 (fun r2 s1 => ((0 < r2 → Φ (1 : Int32) s1) ∧ (¬ 0 < r2 → w_M_many ((20 : Int32) + x1) s1 (fun r4 s3 => ((r4 ≤ 0 → Φ (0 : Int32) s3) ∧ (¬ r4 ≤ 0 → Φ (1 : Int32) s3))))))
set_option maxHeartbeats 4000000 in
set_option maxRecDepth 100000 in
theorem c_M_isPipe (l : Launch) (E : gE) (s0 : KS) (x1 : Int32) (Φ : Int32 → KS → Prop) (hw : w_M_isPipe x1 s0 Φ) : gMi l y_M_isPipe v_M_isPipe m_M_isPipe E MM [.ref (ea E 20 0), .int x1] s0 Φ := by
  intro sz
  refine Met.ofW (cc := b_M_isPipe) (maxL := 2) (ret := (some .boolean)) (by decide) rfl ?_
  intro p e s m args below meth c s₁ B hml hv
  obtain ⟨rfl, hsz, hP, hK, hD, hX⟩ := hv
  have hx := B.exec
  have hb := B.bytes
  have hr := B.returns
  have hts := atoms_spec (ws := v_M_isPipe) B.pre
  have hG : ∀ w ∈ gG, w.before _ s = true := fun w h => hts w (List.mem_cons_of_mem _ h)
  have hown : s.vm.findClass R_M = some m.cls := findClass_of_methodNamed B.named
  have hlocks := B.notSynchronized
  subst hsz
  obtain ⟨A, hAe⟩ : ∃ A, A = gA E MM s.heap.size := ⟨_, rfl⟩
  rw [← hAe] at hD hX ⊢
  have hV : gV E MM A s0 s s.heap [] := ⟨hP, hD, va_S.rf⟩
  have hl := lv_entry ([.ref (ea E 20 0), .int x1] : List Value) (n := 2) (Nat.le_of_ble_eq_true rfl)
  rw [lg_entry_eq]
  generalize (lg_sl ([.ref (ea E 20 0), .int x1] : List Value) ++ List.replicate (2 - (lg_sl ([.ref (ea E 20 0), .int x1] : List Value)).length) Slot.unset).toArray = ls at hl ⊢
  have hl : lv_has ls 2 [(0, .ref (ea E 20 0)), (1, .int x1)] := hl
  unfold w_M_isPipe at hw
  refine lv_aload_n hx hb d_M_isPipe_0 rfl (lv_at hl 0 rfl) ?_
  refine lv_bipush (v := 10) hx hb d_M_isPipe_1 (by decide) ?_
  refine lv_iload_n hx hb d_M_isPipe_3 rfl (lv_at hl 1 rfl) ?_
  refine lv_iadd hx hb d_M_isPipe_4 ?_
  refine kc_M_M_many hx hb hml hown hts hV hK hX hAe (c_M_many l E s0 ((10 : Int32) + x1) _ hw) hl.1 (Nat.le_of_ble_eq_true rfl) d_M_isPipe_5 (Nat.le_of_ble_eq_true rfl) (Nat.le_of_ble_eq_true rfl) (fun r2 s1 H locs hw hV => ?_)
  refine lv_if_gt (tgt := 22) hx hb d_M_isPipe_8 rfl (fun hc => ?_) (fun hc => ?_)
  · have hw := hw.1 hc
    refine lv_iconst (v := 1) hx hb d_M_isPipe_22 (by decide) ?_
    refine lv_goto (tgt := 27) hx hb d_M_isPipe_23 rfl ?_
    exact kr_z hx hb hr hV hK hX hAe (by decide) hw d_M_isPipe_27
  · have hw := hw.2 hc
    refine lv_aload_n hx hb d_M_isPipe_11 rfl (lv_at hl 0 rfl) ?_
    refine lv_bipush (v := 20) hx hb d_M_isPipe_12 (by decide) ?_
    refine lv_iload_n hx hb d_M_isPipe_14 rfl (lv_at hl 1 rfl) ?_
    refine lv_iadd hx hb d_M_isPipe_15 ?_
    refine kc_M_M_many hx hb hml hown hts hV hK hX hAe (c_M_many l E s1 ((20 : Int32) + x1) _ hw) hl.1 (Nat.le_of_ble_eq_true rfl) d_M_isPipe_16 (Nat.le_of_ble_eq_true rfl) (Nat.le_of_ble_eq_true rfl) (fun r4 s3 H locs hw hV => ?_)
    refine lv_if_le (tgt := 26) hx hb d_M_isPipe_19 rfl (fun hc => ?_) (fun hc => ?_)
    · have hw := hw.1 hc
      refine lv_iconst (v := 0) hx hb d_M_isPipe_26 (by decide) ?_
      exact kr_z hx hb hr hV hK hX hAe (by decide) hw d_M_isPipe_27
    · have hw := hw.2 hc
      refine lv_iconst (v := 1) hx hb d_M_isPipe_22 (by decide) ?_
      refine lv_goto (tgt := 27) hx hb d_M_isPipe_23 rfl ?_
      exact kr_z hx hb hr hV hK hX hAe (by decide) hw d_M_isPipe_27
theorem d_M_descriptorOf_0 : decode b_M_descriptorOf 0 = .ok (.iload_n 2, 1) := by decide +kernel
theorem d_M_descriptorOf_1 : decode b_M_descriptorOf 1 = .ok (.ifCond .lt 9, 3) := by decide +kernel
theorem d_M_descriptorOf_4 : decode b_M_descriptorOf 4 = .ok (.iload_n 2, 1) := by decide +kernel
theorem d_M_descriptorOf_5 : decode b_M_descriptorOf 5 = .ok (.bipush 8, 2) := by decide +kernel
theorem d_M_descriptorOf_7 : decode b_M_descriptorOf 7 = .ok (.if_icmp .lt 7, 3) := by decide +kernel
theorem d_M_descriptorOf_10 : decode b_M_descriptorOf 10 = .ok (.iconst 0, 1) := by decide +kernel
theorem d_M_descriptorOf_11 : decode b_M_descriptorOf 11 = .ok (.goto 14, 3) := by decide +kernel
theorem d_M_descriptorOf_14 : decode b_M_descriptorOf 14 = .ok (.aload_n 0, 1) := by decide +kernel
theorem d_M_descriptorOf_15 : decode b_M_descriptorOf 15 = .ok (.getfield 28, 3) := by decide +kernel
theorem d_M_descriptorOf_18 : decode b_M_descriptorOf 18 = .ok (.bipush 8, 2) := by decide +kernel
theorem d_M_descriptorOf_20 : decode b_M_descriptorOf 20 = .ok (.iload_n 1, 1) := by decide +kernel
theorem d_M_descriptorOf_21 : decode b_M_descriptorOf 21 = .ok (.imul, 1) := by decide +kernel
theorem d_M_descriptorOf_22 : decode b_M_descriptorOf 22 = .ok (.iload_n 2, 1) := by decide +kernel
theorem d_M_descriptorOf_23 : decode b_M_descriptorOf 23 = .ok (.iadd, 1) := by decide +kernel
theorem d_M_descriptorOf_24 : decode b_M_descriptorOf 24 = .ok (.iaload, 1) := by decide +kernel
theorem d_M_descriptorOf_25 : decode b_M_descriptorOf 25 = .ok (.ireturn, 1) := by decide +kernel
def w_M_descriptorOf (x1 : Int32) (x2 : Int32) (s0 : KS) (Φ : Int32 → KS → Prop) : Prop := ((x2 < 0 → Φ (0 : Int32) s0) ∧ (¬ x2 < 0 → ((x2 < (8 : Int32) → vp_in (((8 : Int32) * x1) + x2) 128 ∧ Φ (s0 31 0 (((8 : Int32) * x1) + x2).toNatClampNeg) s0) ∧ (¬ x2 < (8 : Int32) → Φ (0 : Int32) s0))))
set_option maxHeartbeats 4000000 in
set_option maxRecDepth 100000 in
theorem c_M_descriptorOf (l : Launch) (E : gE) (s0 : KS) (x1 : Int32) (x2 : Int32) (Φ : Int32 → KS → Prop) (hw : w_M_descriptorOf x1 x2 s0 Φ) : gMi l y_M_descriptorOf v_M_descriptorOf m_M_descriptorOf E MM [.ref (ea E 20 0), .int x1, .int x2] s0 Φ := by
  intro sz
  refine Met.ofW (cc := b_M_descriptorOf) (maxL := 3) (ret := (some .int)) (by decide) rfl ?_
  intro p e s m args below meth c s₁ B hml hv
  obtain ⟨rfl, hsz, hP, hK, hD, hX⟩ := hv
  have hx := B.exec
  have hb := B.bytes
  have hr := B.returns
  have hts := atoms_spec (ws := v_M_descriptorOf) B.pre
  have hG : ∀ w ∈ gG, w.before _ s = true := fun w h => hts w (List.mem_cons_of_mem _ h)
  have hown : s.vm.findClass R_M = some m.cls := findClass_of_methodNamed B.named
  have hlocks := B.notSynchronized
  subst hsz
  obtain ⟨A, hAe⟩ : ∃ A, A = gA E MM s.heap.size := ⟨_, rfl⟩
  rw [← hAe] at hD hX ⊢
  have hV : gV E MM A s0 s s.heap [] := ⟨hP, hD, va_S.rf⟩
  have hl := lv_entry ([.ref (ea E 20 0), .int x1, .int x2] : List Value) (n := 3) (Nat.le_of_ble_eq_true rfl)
  rw [lg_entry_eq]
  generalize (lg_sl ([.ref (ea E 20 0), .int x1, .int x2] : List Value) ++ List.replicate (3 - (lg_sl ([.ref (ea E 20 0), .int x1, .int x2] : List Value)).length) Slot.unset).toArray = ls at hl ⊢
  have hl : lv_has ls 3 [(0, .ref (ea E 20 0)), (1, .int x1), (2, .int x2)] := hl
  unfold w_M_descriptorOf at hw
  refine lv_iload_n hx hb d_M_descriptorOf_0 rfl (lv_at hl 2 rfl) ?_
  refine lv_if_lt (tgt := 10) hx hb d_M_descriptorOf_1 rfl (fun hc => ?_) (fun hc => ?_)
  · have hw := hw.1 hc
    refine lv_iconst (v := 0) hx hb d_M_descriptorOf_10 (by decide) ?_
    refine lv_goto (tgt := 25) hx hb d_M_descriptorOf_11 rfl ?_
    exact kr_i hx hb hr hV hK hX hAe hw d_M_descriptorOf_25
  · have hw := hw.2 hc
    refine lv_iload_n hx hb d_M_descriptorOf_4 rfl (lv_at hl 2 rfl) ?_
    refine lv_bipush (v := 8) hx hb d_M_descriptorOf_5 (by decide) ?_
    refine lv_icmp_lt (tgt := 14) hx hb d_M_descriptorOf_7 rfl (fun hc => ?_) (fun hc => ?_)
    · have hw := hw.1 hc
      refine lv_aload_n hx hb d_M_descriptorOf_14 rfl (lv_at hl 0 rfl) ?_
      refine kg_M_M_descriptors hx hb hG hown hK hV d_M_descriptorOf_15 ?_
      refine lv_bipush (v := 8) hx hb d_M_descriptorOf_18 (by decide) ?_
      refine lv_iload_n hx hb d_M_descriptorOf_20 rfl (lv_at hl 1 rfl) ?_
      refine lv_imul hx hb d_M_descriptorOf_21 ?_
      refine lv_iload_n hx hb d_M_descriptorOf_22 rfl (lv_at hl 2 rfl) ?_
      refine lv_iadd hx hb d_M_descriptorOf_23 ?_
      refine kl_31 hx hb hK hV hw.1 d_M_descriptorOf_24 ?_
      have hw := hw.2
      exact kr_i hx hb hr hV hK hX hAe hw d_M_descriptorOf_25
    · have hw := hw.2 hc
      refine lv_iconst (v := 0) hx hb d_M_descriptorOf_10 (by decide) ?_
      refine lv_goto (tgt := 25) hx hb d_M_descriptorOf_11 rfl ?_
      exact kr_i hx hb hr hV hK hX hAe hw d_M_descriptorOf_25
theorem d_M_shutEnd_0 : decode b_M_shutEnd 0 = .ok (.aload_n 0, 1) := by decide +kernel
theorem d_M_shutEnd_1 : decode b_M_shutEnd 1 = .ok (.getfield 28, 3) := by decide +kernel
theorem d_M_shutEnd_4 : decode b_M_shutEnd 4 = .ok (.bipush 8, 2) := by decide +kernel
theorem d_M_shutEnd_6 : decode b_M_shutEnd 6 = .ok (.iload_n 1, 1) := by decide +kernel
theorem d_M_shutEnd_7 : decode b_M_shutEnd 7 = .ok (.imul, 1) := by decide +kernel
theorem d_M_shutEnd_8 : decode b_M_shutEnd 8 = .ok (.iload_n 2, 1) := by decide +kernel
theorem d_M_shutEnd_9 : decode b_M_shutEnd 9 = .ok (.iadd, 1) := by decide +kernel
theorem d_M_shutEnd_10 : decode b_M_shutEnd 10 = .ok (.iaload, 1) := by decide +kernel
theorem d_M_shutEnd_11 : decode b_M_shutEnd 11 = .ok (.istore_n 3, 1) := by decide +kernel
theorem d_M_shutEnd_12 : decode b_M_shutEnd 12 = .ok (.aload_n 0, 1) := by decide +kernel
theorem d_M_shutEnd_13 : decode b_M_shutEnd 13 = .ok (.getfield 28, 3) := by decide +kernel
theorem d_M_shutEnd_16 : decode b_M_shutEnd 16 = .ok (.bipush 8, 2) := by decide +kernel
theorem d_M_shutEnd_18 : decode b_M_shutEnd 18 = .ok (.iload_n 1, 1) := by decide +kernel
theorem d_M_shutEnd_19 : decode b_M_shutEnd 19 = .ok (.imul, 1) := by decide +kernel
theorem d_M_shutEnd_20 : decode b_M_shutEnd 20 = .ok (.iload_n 2, 1) := by decide +kernel
theorem d_M_shutEnd_21 : decode b_M_shutEnd 21 = .ok (.iadd, 1) := by decide +kernel
theorem d_M_shutEnd_22 : decode b_M_shutEnd 22 = .ok (.iconst 0, 1) := by decide +kernel
theorem d_M_shutEnd_23 : decode b_M_shutEnd 23 = .ok (.iastore, 1) := by decide +kernel
theorem d_M_shutEnd_24 : decode b_M_shutEnd 24 = .ok (.iload_n 3, 1) := by decide +kernel
theorem d_M_shutEnd_25 : decode b_M_shutEnd 25 = .ok (.bipush 10, 2) := by decide +kernel
theorem d_M_shutEnd_27 : decode b_M_shutEnd 27 = .ok (.if_icmp .ge 4, 3) := by decide +kernel
theorem d_M_shutEnd_30 : decode b_M_shutEnd 30 = .ok (.return_, 1) := by decide +kernel
theorem d_M_shutEnd_31 : decode b_M_shutEnd 31 = .ok (.iload_n 3, 1) := by decide +kernel
theorem d_M_shutEnd_32 : decode b_M_shutEnd 32 = .ok (.bipush 10, 2) := by decide +kernel
theorem d_M_shutEnd_34 : decode b_M_shutEnd 34 = .ok (.irem, 1) := by decide +kernel
theorem d_M_shutEnd_35 : decode b_M_shutEnd 35 = .ok (.istore 4, 2) := by decide +kernel
theorem d_M_shutEnd_37 : decode b_M_shutEnd 37 = .ok (.aload_n 0, 1) := by decide +kernel
theorem d_M_shutEnd_38 : decode b_M_shutEnd 38 = .ok (.iload_n 3, 1) := by decide +kernel
theorem d_M_shutEnd_39 : decode b_M_shutEnd 39 = .ok (.invokevirtual 98, 3) := by decide +kernel
theorem d_M_shutEnd_42 : decode b_M_shutEnd 42 = .ok (.ifCond .ne 23, 3) := by decide +kernel
theorem d_M_shutEnd_45 : decode b_M_shutEnd 45 = .ok (.aload_n 0, 1) := by decide +kernel
theorem d_M_shutEnd_46 : decode b_M_shutEnd 46 = .ok (.iload_n 3, 1) := by decide +kernel
theorem d_M_shutEnd_47 : decode b_M_shutEnd 47 = .ok (.bipush 20, 2) := by decide +kernel
theorem d_M_shutEnd_49 : decode b_M_shutEnd 49 = .ok (.if_icmp .ge 11, 3) := by decide +kernel
theorem d_M_shutEnd_52 : decode b_M_shutEnd 52 = .ok (.bipush 8, 2) := by decide +kernel
theorem d_M_shutEnd_54 : decode b_M_shutEnd 54 = .ok (.iload 4, 2) := by decide +kernel
theorem d_M_shutEnd_56 : decode b_M_shutEnd 56 = .ok (.iadd, 1) := by decide +kernel
theorem d_M_shutEnd_57 : decode b_M_shutEnd 57 = .ok (.goto 5, 3) := by decide +kernel
theorem d_M_shutEnd_60 : decode b_M_shutEnd 60 = .ok (.iload 4, 2) := by decide +kernel
theorem d_M_shutEnd_62 : decode b_M_shutEnd 62 = .ok (.invokevirtual 102, 3) := by decide +kernel
theorem d_M_shutEnd_65 : decode b_M_shutEnd 65 = .ok (.aload_n 0, 1) := by decide +kernel
theorem d_M_shutEnd_66 : decode b_M_shutEnd 66 = .ok (.iload 4, 2) := by decide +kernel
theorem d_M_shutEnd_68 : decode b_M_shutEnd 68 = .ok (.invokevirtual 105, 3) := by decide +kernel
theorem d_M_shutEnd_71 : decode b_M_shutEnd 71 = .ok (.ifCond .ne 11, 3) := by decide +kernel
theorem d_M_shutEnd_74 : decode b_M_shutEnd 74 = .ok (.aload_n 0, 1) := by decide +kernel
theorem d_M_shutEnd_75 : decode b_M_shutEnd 75 = .ok (.getfield 52, 3) := by decide +kernel
theorem d_M_shutEnd_78 : decode b_M_shutEnd 78 = .ok (.iload 4, 2) := by decide +kernel
theorem d_M_shutEnd_80 : decode b_M_shutEnd 80 = .ok (.iconst 0, 1) := by decide +kernel
theorem d_M_shutEnd_81 : decode b_M_shutEnd 81 = .ok (.iastore, 1) := by decide +kernel
theorem d_M_shutEnd_82 : decode b_M_shutEnd 82 = .ok (.return_, 1) := by decide +kernel
def w_M_shutEnd_65 (x1 : Int32) (x2 : Int32) (Φ : KS → Prop) (v4 : Int32) (s0 : KS) : Prop := w_M_isPipe v4 s0 (fun r2 s1 => ((¬ r2 = 0 → Φ s1) ∧ (r2 = 0 → vp_in v4 8 ∧ ∀ s3 : KS, s3 = w3 s1 42 0 v4.toNatClampNeg (0 : Int32) → Φ s3)))
def w_M_shutEnd_62 (x1 : Int32) (x2 : Int32) (Φ : KS → Prop) (v4 : Int32) (t0 : Int32) (s0 : KS) : Prop := w_M_wakeAll t0 s0 (fun s1 => w_M_shutEnd_65 x1 x2 Φ v4 s1)
def w_M_shutEnd (x1 : Int32) (x2 : Int32) (s0 : KS) (Φ : KS → Prop) : Prop := vp_in (((8 : Int32) * x1) + x2) 128 ∧ ∀ y1 : Int32, y1 = s0 31 0 (((8 : Int32) * x1) + x2).toNatClampNeg → vp_in (((8 : Int32) * x1) + x2) 128 ∧ ∀ s2 : KS, s2 = w3 s0 31 0 (((8 : Int32) * x1) + x2).toNatClampNeg (0 : Int32) → (((10 : Int32) ≤ y1 → ¬ (10 : Int32) = 0 ∧ ∀ y3 : Int32, y3 = y1 - y1 / (10 : Int32) * (10 : Int32) → w_M_many y1 s2 (fun r5 s4 => ((¬ r5 = 0 → w_M_shutEnd_65 x1 x2 Φ y3 s4) ∧ (r5 = 0 → (((20 : Int32) ≤ y1 → w_M_shutEnd_62 x1 x2 Φ y3 y3 s4) ∧ (¬ (20 : Int32) ≤ y1 → w_M_shutEnd_62 x1 x2 Φ y3 ((8 : Int32) + y3) s4)))))) ∧ (¬ (10 : Int32) ≤ y1 → Φ s2))
set_option maxHeartbeats 4000000 in
set_option maxRecDepth 100000 in
theorem c_M_shutEnd (l : Launch) (E : gE) (s0 : KS) (x1 : Int32) (x2 : Int32) (Φ : KS → Prop) (hw : w_M_shutEnd x1 x2 s0 Φ) : gMv l y_M_shutEnd v_M_shutEnd m_M_shutEnd E MM [.ref (ea E 20 0), .int x1, .int x2] s0 Φ := by
  intro sz
  refine Met.ofW (cc := b_M_shutEnd) (maxL := 5) (ret := none) (by decide) rfl ?_
  intro p e s m args below meth c s₁ B hml hv
  obtain ⟨rfl, hsz, hP, hK, hD, hX⟩ := hv
  have hx := B.exec
  have hb := B.bytes
  have hr := B.returns
  have hts := atoms_spec (ws := v_M_shutEnd) B.pre
  have hG : ∀ w ∈ gG, w.before _ s = true := fun w h => hts w (List.mem_cons_of_mem _ h)
  have hown : s.vm.findClass R_M = some m.cls := findClass_of_methodNamed B.named
  have hlocks := B.notSynchronized
  subst hsz
  obtain ⟨A, hAe⟩ : ∃ A, A = gA E MM s.heap.size := ⟨_, rfl⟩
  rw [← hAe] at hD hX ⊢
  have hV : gV E MM A s0 s s.heap [] := ⟨hP, hD, va_S.rf⟩
  have hl := lv_entry ([.ref (ea E 20 0), .int x1, .int x2] : List Value) (n := 5) (Nat.le_of_ble_eq_true rfl)
  rw [lg_entry_eq]
  generalize (lg_sl ([.ref (ea E 20 0), .int x1, .int x2] : List Value) ++ List.replicate (5 - (lg_sl ([.ref (ea E 20 0), .int x1, .int x2] : List Value)).length) Slot.unset).toArray = ls at hl ⊢
  have hl : lv_has ls 5 [(0, .ref (ea E 20 0)), (1, .int x1), (2, .int x2)] := hl
  have J65 : ∀ (ls : Array Slot) (H : Heap) (locs : List Loc) (s0 : KS) (v4 : Int32), lv_has ls 5 [(0, .ref (ea E 20 0)), (4, .int v4)] → gV E MM A s0 s H locs → w_M_shutEnd_65 x1 x2 Φ v4 s0 → W p l e m_M_shutEnd s m ([.ref (ea E 20 0), .int x1, .int x2] : List Value).toArray below meth c H locs 0 0 (MQ below (gQv E MM A Φ) ([.ref (ea E 20 0), .int x1, .int x2] : List Value).toArray s 0 0 A) (F0 m 65 ls []) := by
    intro  ls H locs s0 v4 hl hV hw
    unfold w_M_shutEnd_65 at hw
    refine lv_aload_n hx hb d_M_shutEnd_65 rfl (lv_at hl 0 rfl) ?_
    refine lv_iload hx hb d_M_shutEnd_66 (lv_at hl 1 rfl) ?_
    refine kc_M_M_isPipe hx hb hml hown hts hV hK hX hAe (c_M_isPipe l E s0 v4 _ hw) hl.1 (Nat.le_of_ble_eq_true rfl) d_M_shutEnd_68 (Nat.le_of_ble_eq_true rfl) (Nat.le_of_ble_eq_true rfl) (fun r2 s1 H locs hw hV => ?_)
    refine lv_if_ne (tgt := 82) hx hb d_M_shutEnd_71 rfl (fun hc => ?_) (fun hc => ?_)
    · have hw := hw.1 hc
      exact kr_v hx hb hr hV hK hX hAe hw d_M_shutEnd_82
    · have hw := hw.2 hc
      refine lv_aload_n hx hb d_M_shutEnd_74 rfl (lv_at hl 0 rfl) ?_
      refine kg_M_M_filled hx hb hG hown hK hV d_M_shutEnd_75 ?_
      refine lv_iload hx hb d_M_shutEnd_78 (lv_at hl 1 rfl) ?_
      refine lv_iconst (v := 0) hx hb d_M_shutEnd_80 (by decide) ?_
      refine ks_42 hx hb hK hV hw.1 d_M_shutEnd_81 (fun s3 H locs es3 hV => ?_)
      have hw := hw.2 s3 es3
      exact kr_v hx hb hr hV hK hX hAe hw d_M_shutEnd_82
  have J62 : ∀ (ls : Array Slot) (H : Heap) (locs : List Loc) (s0 : KS) (v4 : Int32) (t0 : Int32), lv_has ls 5 [(0, .ref (ea E 20 0)), (4, .int v4)] → gV E MM A s0 s H locs → w_M_shutEnd_62 x1 x2 Φ v4 t0 s0 → W p l e m_M_shutEnd s m ([.ref (ea E 20 0), .int x1, .int x2] : List Value).toArray below meth c H locs 0 0 (MQ below (gQv E MM A Φ) ([.ref (ea E 20 0), .int x1, .int x2] : List Value).toArray s 0 0 A) (F0 m 62 ls [.int t0, .ref (ea E 20 0)]) := by
    intro  ls H locs s0 v4 t0 hl hV hw
    unfold w_M_shutEnd_62 at hw
    refine kc_M_M_wakeAll hx hb hml hown hts hV hK hX hAe (c_M_wakeAll l E s0 t0 _ hw) hl.1 (Nat.le_of_ble_eq_true rfl) d_M_shutEnd_62 (Nat.le_of_ble_eq_true rfl) (Nat.le_of_ble_eq_true rfl) (fun s1 H locs hw hV => ?_)
    exact J65 _ _ _ s1 v4 (lv_sub hl [0, 1] rfl) hV hw
  unfold w_M_shutEnd at hw
  refine lv_aload_n hx hb d_M_shutEnd_0 rfl (lv_at hl 0 rfl) ?_
  refine kg_M_M_descriptors hx hb hG hown hK hV d_M_shutEnd_1 ?_
  refine lv_bipush (v := 8) hx hb d_M_shutEnd_4 (by decide) ?_
  refine lv_iload_n hx hb d_M_shutEnd_6 rfl (lv_at hl 1 rfl) ?_
  refine lv_imul hx hb d_M_shutEnd_7 ?_
  refine lv_iload_n hx hb d_M_shutEnd_8 rfl (lv_at hl 2 rfl) ?_
  refine lv_iadd hx hb d_M_shutEnd_9 ?_
  refine kl_31 hx hb hK hV hw.1 d_M_shutEnd_10 ?_
  have hw := hw.2
  refine lv_topi (fun y1 ey1 => ?_)
  have hw := hw y1 ey1
  refine lv_istore_n (lv' := [(3, .int y1), (0, .ref (ea E 20 0)), (1, .int x1), (2, .int x2)]) hx hb d_M_shutEnd_11 rfl hl (by decide) rfl (fun ls hl => ?_)
  refine lv_aload_n hx hb d_M_shutEnd_12 rfl (lv_at hl 1 rfl) ?_
  refine kg_M_M_descriptors hx hb hG hown hK hV d_M_shutEnd_13 ?_
  refine lv_bipush (v := 8) hx hb d_M_shutEnd_16 (by decide) ?_
  refine lv_iload_n hx hb d_M_shutEnd_18 rfl (lv_at hl 2 rfl) ?_
  refine lv_imul hx hb d_M_shutEnd_19 ?_
  refine lv_iload_n hx hb d_M_shutEnd_20 rfl (lv_at hl 3 rfl) ?_
  refine lv_iadd hx hb d_M_shutEnd_21 ?_
  refine lv_iconst (v := 0) hx hb d_M_shutEnd_22 (by decide) ?_
  refine ks_31 hx hb hK hV hw.1 d_M_shutEnd_23 (fun s2 H locs es2 hV => ?_)
  have hw := hw.2 s2 es2
  refine lv_iload_n hx hb d_M_shutEnd_24 rfl (lv_at hl 0 rfl) ?_
  refine lv_bipush (v := 10) hx hb d_M_shutEnd_25 (by decide) ?_
  refine lv_icmp_ge (tgt := 31) hx hb d_M_shutEnd_27 rfl (fun hc => ?_) (fun hc => ?_)
  · have hw := hw.1 hc
    refine lv_iload_n hx hb d_M_shutEnd_31 rfl (lv_at hl 0 rfl) ?_
    refine lv_bipush (v := 10) hx hb d_M_shutEnd_32 (by decide) ?_
    refine lv_irem hx hb d_M_shutEnd_34 hw.1 ?_
    have hw := hw.2
    refine lv_topi (fun y3 ey3 => ?_)
    have hw := hw y3 ey3
    refine lv_istore (lv' := [(4, .int y3), (3, .int y1), (0, .ref (ea E 20 0)), (1, .int x1), (2, .int x2)]) hx hb d_M_shutEnd_35 hl (by decide) rfl (fun ls hl => ?_)
    refine lv_aload_n hx hb d_M_shutEnd_37 rfl (lv_at hl 2 rfl) ?_
    refine lv_iload_n hx hb d_M_shutEnd_38 rfl (lv_at hl 1 rfl) ?_
    refine kc_M_M_many hx hb hml hown hts hV hK hX hAe (c_M_many l E s2 y1 _ hw) hl.1 (Nat.le_of_ble_eq_true rfl) d_M_shutEnd_39 (Nat.le_of_ble_eq_true rfl) (Nat.le_of_ble_eq_true rfl) (fun r5 s4 H locs hw hV => ?_)
    refine lv_if_ne (tgt := 65) hx hb d_M_shutEnd_42 rfl (fun hc => ?_) (fun hc => ?_)
    · have hw := hw.1 hc
      exact J65 _ _ _ s4 y3 (lv_sub hl [2, 0] rfl) hV hw
    · have hw := hw.2 hc
      refine lv_aload_n hx hb d_M_shutEnd_45 rfl (lv_at hl 2 rfl) ?_
      refine lv_iload_n hx hb d_M_shutEnd_46 rfl (lv_at hl 1 rfl) ?_
      refine lv_bipush (v := 20) hx hb d_M_shutEnd_47 (by decide) ?_
      refine lv_icmp_ge (tgt := 60) hx hb d_M_shutEnd_49 rfl (fun hc => ?_) (fun hc => ?_)
      · have hw := hw.1 hc
        refine lv_iload hx hb d_M_shutEnd_60 (lv_at hl 0 rfl) ?_
        exact J62 _ _ _ s4 y3 y3 (lv_sub hl [2, 0] rfl) hV hw
      · have hw := hw.2 hc
        refine lv_bipush (v := 8) hx hb d_M_shutEnd_52 (by decide) ?_
        refine lv_iload hx hb d_M_shutEnd_54 (lv_at hl 0 rfl) ?_
        refine lv_iadd hx hb d_M_shutEnd_56 ?_
        refine lv_goto (tgt := 62) hx hb d_M_shutEnd_57 rfl ?_
        exact J62 _ _ _ s4 y3 ((8 : Int32) + y3) (lv_sub hl [2, 0] rfl) hV hw
  · have hw := hw.2 hc
    exact kr_v hx hb hr hV hK hX hAe hw d_M_shutEnd_30
theorem d_M_intoPipe_0 : decode b_M_intoPipe 0 = .ok (.aload_n 0, 1) := by decide +kernel
theorem d_M_intoPipe_1 : decode b_M_intoPipe 1 = .ok (.getfield 49, 3) := by decide +kernel
theorem d_M_intoPipe_4 : decode b_M_intoPipe 4 = .ok (.bipush 16, 2) := by decide +kernel
theorem d_M_intoPipe_6 : decode b_M_intoPipe 6 = .ok (.iload_n 1, 1) := by decide +kernel
theorem d_M_intoPipe_7 : decode b_M_intoPipe 7 = .ok (.imul, 1) := by decide +kernel
theorem d_M_intoPipe_8 : decode b_M_intoPipe 8 = .ok (.aload_n 0, 1) := by decide +kernel
theorem d_M_intoPipe_9 : decode b_M_intoPipe 9 = .ok (.getfield 52, 3) := by decide +kernel
theorem d_M_intoPipe_12 : decode b_M_intoPipe 12 = .ok (.iload_n 1, 1) := by decide +kernel
theorem d_M_intoPipe_13 : decode b_M_intoPipe 13 = .ok (.iaload, 1) := by decide +kernel
theorem d_M_intoPipe_14 : decode b_M_intoPipe 14 = .ok (.iadd, 1) := by decide +kernel
theorem d_M_intoPipe_15 : decode b_M_intoPipe 15 = .ok (.iload_n 2, 1) := by decide +kernel
theorem d_M_intoPipe_16 : decode b_M_intoPipe 16 = .ok (.iastore, 1) := by decide +kernel
theorem d_M_intoPipe_17 : decode b_M_intoPipe 17 = .ok (.aload_n 0, 1) := by decide +kernel
theorem d_M_intoPipe_18 : decode b_M_intoPipe 18 = .ok (.getfield 52, 3) := by decide +kernel
theorem d_M_intoPipe_21 : decode b_M_intoPipe 21 = .ok (.iload_n 1, 1) := by decide +kernel
theorem d_M_intoPipe_22 : decode b_M_intoPipe 22 = .ok (.dup2, 1) := by decide +kernel
theorem d_M_intoPipe_23 : decode b_M_intoPipe 23 = .ok (.iaload, 1) := by decide +kernel
theorem d_M_intoPipe_24 : decode b_M_intoPipe 24 = .ok (.iconst 1, 1) := by decide +kernel
theorem d_M_intoPipe_25 : decode b_M_intoPipe 25 = .ok (.iadd, 1) := by decide +kernel
theorem d_M_intoPipe_26 : decode b_M_intoPipe 26 = .ok (.iastore, 1) := by decide +kernel
theorem d_M_intoPipe_27 : decode b_M_intoPipe 27 = .ok (.aload_n 0, 1) := by decide +kernel
theorem d_M_intoPipe_28 : decode b_M_intoPipe 28 = .ok (.iload_n 1, 1) := by decide +kernel
theorem d_M_intoPipe_29 : decode b_M_intoPipe 29 = .ok (.invokevirtual 95, 3) := by decide +kernel
theorem d_M_intoPipe_32 : decode b_M_intoPipe 32 = .ok (.return_, 1) := by decide +kernel
def w_M_intoPipe (x1 : Int32) (x2 : Int32) (s0 : KS) (Φ : KS → Prop) : Prop := vp_in x1 8 ∧ vp_in (((16 : Int32) * x1) + (s0 42 0 x1.toNatClampNeg)) 128 ∧ ∀ s1 : KS, s1 = w3 s0 41 0 (((16 : Int32) * x1) + (s0 42 0 x1.toNatClampNeg)).toNatClampNeg x2 → vp_in x1 8 ∧ vp_in x1 8 ∧ ∀ s2 : KS, s2 = w3 s1 42 0 x1.toNatClampNeg ((s1 42 0 x1.toNatClampNeg) + (1 : Int32)) → w_M_wakeFirst x1 s2 (fun s3 => Φ s3)
set_option maxHeartbeats 4000000 in
set_option maxRecDepth 100000 in
theorem c_M_intoPipe (l : Launch) (E : gE) (s0 : KS) (x1 : Int32) (x2 : Int32) (Φ : KS → Prop) (hw : w_M_intoPipe x1 x2 s0 Φ) : gMv l y_M_intoPipe v_M_intoPipe m_M_intoPipe E MM [.ref (ea E 20 0), .int x1, .int x2] s0 Φ := by
  intro sz
  refine Met.ofW (cc := b_M_intoPipe) (maxL := 3) (ret := none) (by decide) rfl ?_
  intro p e s m args below meth c s₁ B hml hv
  obtain ⟨rfl, hsz, hP, hK, hD, hX⟩ := hv
  have hx := B.exec
  have hb := B.bytes
  have hr := B.returns
  have hts := atoms_spec (ws := v_M_intoPipe) B.pre
  have hG : ∀ w ∈ gG, w.before _ s = true := fun w h => hts w (List.mem_cons_of_mem _ h)
  have hown : s.vm.findClass R_M = some m.cls := findClass_of_methodNamed B.named
  have hlocks := B.notSynchronized
  subst hsz
  obtain ⟨A, hAe⟩ : ∃ A, A = gA E MM s.heap.size := ⟨_, rfl⟩
  rw [← hAe] at hD hX ⊢
  have hV : gV E MM A s0 s s.heap [] := ⟨hP, hD, va_S.rf⟩
  have hl := lv_entry ([.ref (ea E 20 0), .int x1, .int x2] : List Value) (n := 3) (Nat.le_of_ble_eq_true rfl)
  rw [lg_entry_eq]
  generalize (lg_sl ([.ref (ea E 20 0), .int x1, .int x2] : List Value) ++ List.replicate (3 - (lg_sl ([.ref (ea E 20 0), .int x1, .int x2] : List Value)).length) Slot.unset).toArray = ls at hl ⊢
  have hl : lv_has ls 3 [(0, .ref (ea E 20 0)), (1, .int x1), (2, .int x2)] := hl
  unfold w_M_intoPipe at hw
  refine lv_aload_n hx hb d_M_intoPipe_0 rfl (lv_at hl 0 rfl) ?_
  refine kg_M_M_words hx hb hG hown hK hV d_M_intoPipe_1 ?_
  refine lv_bipush (v := 16) hx hb d_M_intoPipe_4 (by decide) ?_
  refine lv_iload_n hx hb d_M_intoPipe_6 rfl (lv_at hl 1 rfl) ?_
  refine lv_imul hx hb d_M_intoPipe_7 ?_
  refine lv_aload_n hx hb d_M_intoPipe_8 rfl (lv_at hl 0 rfl) ?_
  refine kg_M_M_filled hx hb hG hown hK hV d_M_intoPipe_9 ?_
  refine lv_iload_n hx hb d_M_intoPipe_12 rfl (lv_at hl 1 rfl) ?_
  refine kl_42 hx hb hK hV hw.1 d_M_intoPipe_13 ?_
  have hw := hw.2
  refine lv_iadd hx hb d_M_intoPipe_14 ?_
  refine lv_iload_n hx hb d_M_intoPipe_15 rfl (lv_at hl 2 rfl) ?_
  refine ks_41 hx hb hK hV hw.1 d_M_intoPipe_16 (fun s1 H locs es1 hV => ?_)
  have hw := hw.2 s1 es1
  refine lv_aload_n hx hb d_M_intoPipe_17 rfl (lv_at hl 0 rfl) ?_
  refine kg_M_M_filled hx hb hG hown hK hV d_M_intoPipe_18 ?_
  refine lv_iload_n hx hb d_M_intoPipe_21 rfl (lv_at hl 1 rfl) ?_
  refine lv_dup2_11 hx hb d_M_intoPipe_22 rfl rfl ?_
  refine kl_42 hx hb hK hV hw.1 d_M_intoPipe_23 ?_
  have hw := hw.2
  refine lv_iconst (v := 1) hx hb d_M_intoPipe_24 (by decide) ?_
  refine lv_iadd hx hb d_M_intoPipe_25 ?_
  refine ks_42 hx hb hK hV hw.1 d_M_intoPipe_26 (fun s2 H locs es2 hV => ?_)
  have hw := hw.2 s2 es2
  refine lv_aload_n hx hb d_M_intoPipe_27 rfl (lv_at hl 0 rfl) ?_
  refine lv_iload_n hx hb d_M_intoPipe_28 rfl (lv_at hl 1 rfl) ?_
  refine kc_M_M_wakeFirst hx hb hml hown hts hV hK hX hAe (c_M_wakeFirst l E s2 x1 _ hw) hl.1 (Nat.le_of_ble_eq_true rfl) d_M_intoPipe_29 (Nat.le_of_ble_eq_true rfl) (Nat.le_of_ble_eq_true rfl) (fun s3 H locs hw hV => ?_)
  exact kr_v hx hb hr hV hK hX hAe hw d_M_intoPipe_32
theorem d_M_outOfPipe_0 : decode b_M_outOfPipe 0 = .ok (.aload_n 0, 1) := by decide +kernel
theorem d_M_outOfPipe_1 : decode b_M_outOfPipe 1 = .ok (.getfield 49, 3) := by decide +kernel
theorem d_M_outOfPipe_4 : decode b_M_outOfPipe 4 = .ok (.bipush 16, 2) := by decide +kernel
theorem d_M_outOfPipe_6 : decode b_M_outOfPipe 6 = .ok (.iload_n 1, 1) := by decide +kernel
theorem d_M_outOfPipe_7 : decode b_M_outOfPipe 7 = .ok (.imul, 1) := by decide +kernel
theorem d_M_outOfPipe_8 : decode b_M_outOfPipe 8 = .ok (.iaload, 1) := by decide +kernel
theorem d_M_outOfPipe_9 : decode b_M_outOfPipe 9 = .ok (.istore_n 2, 1) := by decide +kernel
theorem d_M_outOfPipe_10 : decode b_M_outOfPipe 10 = .ok (.aload_n 0, 1) := by decide +kernel
theorem d_M_outOfPipe_11 : decode b_M_outOfPipe 11 = .ok (.getfield 52, 3) := by decide +kernel
theorem d_M_outOfPipe_14 : decode b_M_outOfPipe 14 = .ok (.iload_n 1, 1) := by decide +kernel
theorem d_M_outOfPipe_15 : decode b_M_outOfPipe 15 = .ok (.dup2, 1) := by decide +kernel
theorem d_M_outOfPipe_16 : decode b_M_outOfPipe 16 = .ok (.iaload, 1) := by decide +kernel
theorem d_M_outOfPipe_17 : decode b_M_outOfPipe 17 = .ok (.iconst 1, 1) := by decide +kernel
theorem d_M_outOfPipe_18 : decode b_M_outOfPipe 18 = .ok (.isub, 1) := by decide +kernel
theorem d_M_outOfPipe_19 : decode b_M_outOfPipe 19 = .ok (.iastore, 1) := by decide +kernel
theorem d_M_outOfPipe_20 : decode b_M_outOfPipe 20 = .ok (.iconst 0, 1) := by decide +kernel
theorem d_M_outOfPipe_21 : decode b_M_outOfPipe 21 = .ok (.istore_n 3, 1) := by decide +kernel
theorem d_M_outOfPipe_22 : decode b_M_outOfPipe 22 = .ok (.iload_n 3, 1) := by decide +kernel
theorem d_M_outOfPipe_23 : decode b_M_outOfPipe 23 = .ok (.aload_n 0, 1) := by decide +kernel
theorem d_M_outOfPipe_24 : decode b_M_outOfPipe 24 = .ok (.getfield 52, 3) := by decide +kernel
theorem d_M_outOfPipe_27 : decode b_M_outOfPipe 27 = .ok (.iload_n 1, 1) := by decide +kernel
theorem d_M_outOfPipe_28 : decode b_M_outOfPipe 28 = .ok (.iaload, 1) := by decide +kernel
theorem d_M_outOfPipe_29 : decode b_M_outOfPipe 29 = .ok (.if_icmp .ge 33, 3) := by decide +kernel
theorem d_M_outOfPipe_32 : decode b_M_outOfPipe 32 = .ok (.aload_n 0, 1) := by decide +kernel
theorem d_M_outOfPipe_33 : decode b_M_outOfPipe 33 = .ok (.getfield 49, 3) := by decide +kernel
theorem d_M_outOfPipe_36 : decode b_M_outOfPipe 36 = .ok (.bipush 16, 2) := by decide +kernel
theorem d_M_outOfPipe_38 : decode b_M_outOfPipe 38 = .ok (.iload_n 1, 1) := by decide +kernel
theorem d_M_outOfPipe_39 : decode b_M_outOfPipe 39 = .ok (.imul, 1) := by decide +kernel
theorem d_M_outOfPipe_40 : decode b_M_outOfPipe 40 = .ok (.iload_n 3, 1) := by decide +kernel
theorem d_M_outOfPipe_41 : decode b_M_outOfPipe 41 = .ok (.iadd, 1) := by decide +kernel
theorem d_M_outOfPipe_42 : decode b_M_outOfPipe 42 = .ok (.aload_n 0, 1) := by decide +kernel
theorem d_M_outOfPipe_43 : decode b_M_outOfPipe 43 = .ok (.getfield 49, 3) := by decide +kernel
theorem d_M_outOfPipe_46 : decode b_M_outOfPipe 46 = .ok (.bipush 16, 2) := by decide +kernel
theorem d_M_outOfPipe_48 : decode b_M_outOfPipe 48 = .ok (.iload_n 1, 1) := by decide +kernel
theorem d_M_outOfPipe_49 : decode b_M_outOfPipe 49 = .ok (.imul, 1) := by decide +kernel
theorem d_M_outOfPipe_50 : decode b_M_outOfPipe 50 = .ok (.iload_n 3, 1) := by decide +kernel
theorem d_M_outOfPipe_51 : decode b_M_outOfPipe 51 = .ok (.iadd, 1) := by decide +kernel
theorem d_M_outOfPipe_52 : decode b_M_outOfPipe 52 = .ok (.iconst 1, 1) := by decide +kernel
theorem d_M_outOfPipe_53 : decode b_M_outOfPipe 53 = .ok (.iadd, 1) := by decide +kernel
theorem d_M_outOfPipe_54 : decode b_M_outOfPipe 54 = .ok (.iaload, 1) := by decide +kernel
theorem d_M_outOfPipe_55 : decode b_M_outOfPipe 55 = .ok (.iastore, 1) := by decide +kernel
theorem d_M_outOfPipe_56 : decode b_M_outOfPipe 56 = .ok (.iinc 3 1, 3) := by decide +kernel
theorem d_M_outOfPipe_59 : decode b_M_outOfPipe 59 = .ok (.goto (-37), 3) := by decide +kernel
theorem d_M_outOfPipe_62 : decode b_M_outOfPipe 62 = .ok (.aload_n 0, 1) := by decide +kernel
theorem d_M_outOfPipe_63 : decode b_M_outOfPipe 63 = .ok (.bipush 8, 2) := by decide +kernel
theorem d_M_outOfPipe_65 : decode b_M_outOfPipe 65 = .ok (.iload_n 1, 1) := by decide +kernel
theorem d_M_outOfPipe_66 : decode b_M_outOfPipe 66 = .ok (.iadd, 1) := by decide +kernel
theorem d_M_outOfPipe_67 : decode b_M_outOfPipe 67 = .ok (.invokevirtual 95, 3) := by decide +kernel
theorem d_M_outOfPipe_70 : decode b_M_outOfPipe 70 = .ok (.iload_n 2, 1) := by decide +kernel
theorem d_M_outOfPipe_71 : decode b_M_outOfPipe 71 = .ok (.ireturn, 1) := by decide +kernel
def w_M_outOfPipe_22 (x1 : Int32) (Φ : Int32 → KS → Prop) : Nat → Int32 → Int32 → KS → Prop
  | 0, _, _, _ => False
  | n + 1, v2, v3, s0 => vp_in x1 8 ∧ (((s0 42 0 x1.toNatClampNeg) ≤ v3 → w_M_wakeFirst ((8 : Int32) + x1) s0 (fun s1 => Φ v2 s1)) ∧ (¬ (s0 42 0 x1.toNatClampNeg) ≤ v3 → vp_in ((((16 : Int32) * x1) + v3) + (1 : Int32)) 128 ∧ vp_in (((16 : Int32) * x1) + v3) 128 ∧ ∀ s2 : KS, s2 = w3 s0 41 0 (((16 : Int32) * x1) + v3).toNatClampNeg (s0 41 0 ((((16 : Int32) * x1) + v3) + (1 : Int32)).toNatClampNeg) → ∀ y3 : Int32, y3 = v3 + (1 : Int32) → w_M_outOfPipe_22 x1 Φ n v2 y3 s2))
def w_M_outOfPipe (x1 : Int32) (s0 : KS) (Φ : Int32 → KS → Prop) : Prop := vp_in ((16 : Int32) * x1) 128 ∧ ∀ y1 : Int32, y1 = s0 41 0 ((16 : Int32) * x1).toNatClampNeg → vp_in x1 8 ∧ vp_in x1 8 ∧ ∀ s2 : KS, s2 = w3 s0 42 0 x1.toNatClampNeg ((s0 42 0 x1.toNatClampNeg) - (1 : Int32)) → ∃ nn : Nat, w_M_outOfPipe_22 x1 Φ nn y1 (0 : Int32) s2
set_option maxHeartbeats 4000000 in
set_option maxRecDepth 100000 in
theorem c_M_outOfPipe (l : Launch) (E : gE) (s0 : KS) (x1 : Int32) (Φ : Int32 → KS → Prop) (hw : w_M_outOfPipe x1 s0 Φ) : gMi l y_M_outOfPipe v_M_outOfPipe m_M_outOfPipe E MM [.ref (ea E 20 0), .int x1] s0 Φ := by
  intro sz
  refine Met.ofW (cc := b_M_outOfPipe) (maxL := 4) (ret := (some .int)) (by decide) rfl ?_
  intro p e s m args below meth c s₁ B hml hv
  obtain ⟨rfl, hsz, hP, hK, hD, hX⟩ := hv
  have hx := B.exec
  have hb := B.bytes
  have hr := B.returns
  have hts := atoms_spec (ws := v_M_outOfPipe) B.pre
  have hG : ∀ w ∈ gG, w.before _ s = true := fun w h => hts w (List.mem_cons_of_mem _ h)
  have hown : s.vm.findClass R_M = some m.cls := findClass_of_methodNamed B.named
  have hlocks := B.notSynchronized
  subst hsz
  obtain ⟨A, hAe⟩ : ∃ A, A = gA E MM s.heap.size := ⟨_, rfl⟩
  rw [← hAe] at hD hX ⊢
  have hV : gV E MM A s0 s s.heap [] := ⟨hP, hD, va_S.rf⟩
  have hl := lv_entry ([.ref (ea E 20 0), .int x1] : List Value) (n := 4) (Nat.le_of_ble_eq_true rfl)
  rw [lg_entry_eq]
  generalize (lg_sl ([.ref (ea E 20 0), .int x1] : List Value) ++ List.replicate (4 - (lg_sl ([.ref (ea E 20 0), .int x1] : List Value)).length) Slot.unset).toArray = ls at hl ⊢
  have hl : lv_has ls 4 [(0, .ref (ea E 20 0)), (1, .int x1)] := hl
  have L22 : ∀ (n : Nat), ∀ (ls : Array Slot) (H : Heap) (locs : List Loc) (s0 : KS) (v2 : Int32) (v3 : Int32), lv_has ls 4 [(0, .ref (ea E 20 0)), (1, .int x1), (2, .int v2), (3, .int v3)] → gV E MM A s0 s H locs → w_M_outOfPipe_22 x1 Φ n v2 v3 s0 → W p l e m_M_outOfPipe s m ([.ref (ea E 20 0), .int x1] : List Value).toArray below meth c H locs 0 0 (MQ below (gQi E MM A Φ) ([.ref (ea E 20 0), .int x1] : List Value).toArray s 0 0 A) (F0 m 22 ls []) := by
    intro n
    induction n with
    | zero =>
      intro ls H locs s0 v2 v3 hl hV hw
      exact False.elim hw
    | succ n ih =>
      intro ls H locs s0 v2 v3 hl hV hw
      unfold w_M_outOfPipe_22 at hw
      refine lv_iload_n hx hb d_M_outOfPipe_22 rfl (lv_at hl 3 rfl) ?_
      refine lv_aload_n hx hb d_M_outOfPipe_23 rfl (lv_at hl 0 rfl) ?_
      refine kg_M_M_filled hx hb hG hown hK hV d_M_outOfPipe_24 ?_
      refine lv_iload_n hx hb d_M_outOfPipe_27 rfl (lv_at hl 1 rfl) ?_
      refine kl_42 hx hb hK hV hw.1 d_M_outOfPipe_28 ?_
      have hw := hw.2
      refine lv_icmp_ge (tgt := 62) hx hb d_M_outOfPipe_29 rfl (fun hc => ?_) (fun hc => ?_)
      · have hw := hw.1 hc
        refine lv_aload_n hx hb d_M_outOfPipe_62 rfl (lv_at hl 0 rfl) ?_
        refine lv_bipush (v := 8) hx hb d_M_outOfPipe_63 (by decide) ?_
        refine lv_iload_n hx hb d_M_outOfPipe_65 rfl (lv_at hl 1 rfl) ?_
        refine lv_iadd hx hb d_M_outOfPipe_66 ?_
        refine kc_M_M_wakeFirst hx hb hml hown hts hV hK hX hAe (c_M_wakeFirst l E s0 ((8 : Int32) + x1) _ hw) hl.1 (Nat.le_of_ble_eq_true rfl) d_M_outOfPipe_67 (Nat.le_of_ble_eq_true rfl) (Nat.le_of_ble_eq_true rfl) (fun s1 H locs hw hV => ?_)
        refine lv_iload_n hx hb d_M_outOfPipe_70 rfl (lv_at hl 2 rfl) ?_
        exact kr_i hx hb hr hV hK hX hAe hw d_M_outOfPipe_71
      · have hw := hw.2 hc
        refine lv_aload_n hx hb d_M_outOfPipe_32 rfl (lv_at hl 0 rfl) ?_
        refine kg_M_M_words hx hb hG hown hK hV d_M_outOfPipe_33 ?_
        refine lv_bipush (v := 16) hx hb d_M_outOfPipe_36 (by decide) ?_
        refine lv_iload_n hx hb d_M_outOfPipe_38 rfl (lv_at hl 1 rfl) ?_
        refine lv_imul hx hb d_M_outOfPipe_39 ?_
        refine lv_iload_n hx hb d_M_outOfPipe_40 rfl (lv_at hl 3 rfl) ?_
        refine lv_iadd hx hb d_M_outOfPipe_41 ?_
        refine lv_aload_n hx hb d_M_outOfPipe_42 rfl (lv_at hl 0 rfl) ?_
        refine kg_M_M_words hx hb hG hown hK hV d_M_outOfPipe_43 ?_
        refine lv_bipush (v := 16) hx hb d_M_outOfPipe_46 (by decide) ?_
        refine lv_iload_n hx hb d_M_outOfPipe_48 rfl (lv_at hl 1 rfl) ?_
        refine lv_imul hx hb d_M_outOfPipe_49 ?_
        refine lv_iload_n hx hb d_M_outOfPipe_50 rfl (lv_at hl 3 rfl) ?_
        refine lv_iadd hx hb d_M_outOfPipe_51 ?_
        refine lv_iconst (v := 1) hx hb d_M_outOfPipe_52 (by decide) ?_
        refine lv_iadd hx hb d_M_outOfPipe_53 ?_
        refine kl_41 hx hb hK hV hw.1 d_M_outOfPipe_54 ?_
        have hw := hw.2
        refine ks_41 hx hb hK hV hw.1 d_M_outOfPipe_55 (fun s2 H locs es2 hV => ?_)
        have hw := hw.2 s2 es2
        obtain ⟨y3, ey3⟩ : ∃ z : Int32, z = v3 + (1 : Int32) := ⟨_, rfl⟩
        have hw := hw y3 ey3
        refine lv_iinc (k := 3) (v := y3) (lv' := [(3, .int y3), (0, .ref (ea E 20 0)), (1, .int x1), (2, .int v2)]) hx hb d_M_outOfPipe_56 hl rfl (by rw [ey3]; rfl) (by decide) rfl (fun ls hl => ?_)
        refine lv_goto (tgt := 22) hx hb d_M_outOfPipe_59 rfl ?_
        exact ih _ _ _ s2 v2 y3 (lv_sub hl [1, 2, 3, 0] rfl) hV hw
  unfold w_M_outOfPipe at hw
  refine lv_aload_n hx hb d_M_outOfPipe_0 rfl (lv_at hl 0 rfl) ?_
  refine kg_M_M_words hx hb hG hown hK hV d_M_outOfPipe_1 ?_
  refine lv_bipush (v := 16) hx hb d_M_outOfPipe_4 (by decide) ?_
  refine lv_iload_n hx hb d_M_outOfPipe_6 rfl (lv_at hl 1 rfl) ?_
  refine lv_imul hx hb d_M_outOfPipe_7 ?_
  refine kl_41 hx hb hK hV hw.1 d_M_outOfPipe_8 ?_
  have hw := hw.2
  refine lv_topi (fun y1 ey1 => ?_)
  have hw := hw y1 ey1
  refine lv_istore_n (lv' := [(2, .int y1), (0, .ref (ea E 20 0)), (1, .int x1)]) hx hb d_M_outOfPipe_9 rfl hl (by decide) rfl (fun ls hl => ?_)
  refine lv_aload_n hx hb d_M_outOfPipe_10 rfl (lv_at hl 1 rfl) ?_
  refine kg_M_M_filled hx hb hG hown hK hV d_M_outOfPipe_11 ?_
  refine lv_iload_n hx hb d_M_outOfPipe_14 rfl (lv_at hl 2 rfl) ?_
  refine lv_dup2_11 hx hb d_M_outOfPipe_15 rfl rfl ?_
  refine kl_42 hx hb hK hV hw.1 d_M_outOfPipe_16 ?_
  have hw := hw.2
  refine lv_iconst (v := 1) hx hb d_M_outOfPipe_17 (by decide) ?_
  refine lv_isub hx hb d_M_outOfPipe_18 ?_
  refine ks_42 hx hb hK hV hw.1 d_M_outOfPipe_19 (fun s2 H locs es2 hV => ?_)
  have hw := hw.2 s2 es2
  refine lv_iconst (v := 0) hx hb d_M_outOfPipe_20 (by decide) ?_
  refine lv_istore_n (lv' := [(3, .int (0 : Int32)), (2, .int y1), (0, .ref (ea E 20 0)), (1, .int x1)]) hx hb d_M_outOfPipe_21 rfl hl (by decide) rfl (fun ls hl => ?_)
  obtain ⟨nn, hw⟩ := hw
  exact L22 nn _ _ _ s2 y1 (0 : Int32) (lv_sub hl [2, 3, 1, 0] rfl) hV hw
theorem d_M_end_0 : decode b_M_end 0 = .ok (.aload_n 0, 1) := by decide +kernel
theorem d_M_end_1 : decode b_M_end 1 = .ok (.iload_n 1, 1) := by decide +kernel
theorem d_M_end_2 : decode b_M_end 2 = .ok (.invokevirtual 85, 3) := by decide +kernel
theorem d_M_end_5 : decode b_M_end 5 = .ok (.iconst 0, 1) := by decide +kernel
theorem d_M_end_6 : decode b_M_end 6 = .ok (.istore_n 3, 1) := by decide +kernel
theorem d_M_end_7 : decode b_M_end 7 = .ok (.iload_n 3, 1) := by decide +kernel
theorem d_M_end_8 : decode b_M_end 8 = .ok (.bipush 17, 2) := by decide +kernel
theorem d_M_end_10 : decode b_M_end 10 = .ok (.if_icmp .ge 15, 3) := by decide +kernel
theorem d_M_end_13 : decode b_M_end 13 = .ok (.aload_n 0, 1) := by decide +kernel
theorem d_M_end_14 : decode b_M_end 14 = .ok (.iload_n 3, 1) := by decide +kernel
theorem d_M_end_15 : decode b_M_end 15 = .ok (.iload_n 1, 1) := by decide +kernel
theorem d_M_end_16 : decode b_M_end 16 = .ok (.invokevirtual 91, 3) := by decide +kernel
theorem d_M_end_19 : decode b_M_end 19 = .ok (.iinc 3 1, 3) := by decide +kernel
theorem d_M_end_22 : decode b_M_end 22 = .ok (.goto (-15), 3) := by decide +kernel
theorem d_M_end_25 : decode b_M_end 25 = .ok (.aload_n 0, 1) := by decide +kernel
theorem d_M_end_26 : decode b_M_end 26 = .ok (.getfield 13, 3) := by decide +kernel
theorem d_M_end_29 : decode b_M_end 29 = .ok (.iload_n 1, 1) := by decide +kernel
theorem d_M_end_30 : decode b_M_end 30 = .ok (.bipush 6, 2) := by decide +kernel
theorem d_M_end_32 : decode b_M_end 32 = .ok (.iastore, 1) := by decide +kernel
theorem d_M_end_33 : decode b_M_end 33 = .ok (.aload_n 0, 1) := by decide +kernel
theorem d_M_end_34 : decode b_M_end 34 = .ok (.getfield 34, 3) := by decide +kernel
theorem d_M_end_37 : decode b_M_end 37 = .ok (.iload_n 1, 1) := by decide +kernel
theorem d_M_end_38 : decode b_M_end 38 = .ok (.iload_n 2, 1) := by decide +kernel
theorem d_M_end_39 : decode b_M_end 39 = .ok (.iastore, 1) := by decide +kernel
theorem d_M_end_40 : decode b_M_end 40 = .ok (.aload_n 0, 1) := by decide +kernel
theorem d_M_end_41 : decode b_M_end 41 = .ok (.getfield 37, 3) := by decide +kernel
theorem d_M_end_44 : decode b_M_end 44 = .ok (.iload_n 1, 1) := by decide +kernel
theorem d_M_end_45 : decode b_M_end 45 = .ok (.iconst 0, 1) := by decide +kernel
theorem d_M_end_46 : decode b_M_end 46 = .ok (.iastore, 1) := by decide +kernel
theorem d_M_end_47 : decode b_M_end 47 = .ok (.iconst 0, 1) := by decide +kernel
theorem d_M_end_48 : decode b_M_end 48 = .ok (.istore_n 3, 1) := by decide +kernel
theorem d_M_end_49 : decode b_M_end 49 = .ok (.iload_n 3, 1) := by decide +kernel
theorem d_M_end_50 : decode b_M_end 50 = .ok (.bipush 8, 2) := by decide +kernel
theorem d_M_end_52 : decode b_M_end 52 = .ok (.if_icmp .ge 15, 3) := by decide +kernel
theorem d_M_end_55 : decode b_M_end 55 = .ok (.aload_n 0, 1) := by decide +kernel
theorem d_M_end_56 : decode b_M_end 56 = .ok (.iload_n 1, 1) := by decide +kernel
theorem d_M_end_57 : decode b_M_end 57 = .ok (.iload_n 3, 1) := by decide +kernel
theorem d_M_end_58 : decode b_M_end 58 = .ok (.invokevirtual 109, 3) := by decide +kernel
theorem d_M_end_61 : decode b_M_end 61 = .ok (.iinc 3 1, 3) := by decide +kernel
theorem d_M_end_64 : decode b_M_end 64 = .ok (.goto (-15), 3) := by decide +kernel
theorem d_M_end_67 : decode b_M_end 67 = .ok (.iload_n 1, 1) := by decide +kernel
theorem d_M_end_68 : decode b_M_end 68 = .ok (.ifCond .eq 27, 3) := by decide +kernel
theorem d_M_end_71 : decode b_M_end 71 = .ok (.aload_n 0, 1) := by decide +kernel
theorem d_M_end_72 : decode b_M_end 72 = .ok (.getfield 13, 3) := by decide +kernel
theorem d_M_end_75 : decode b_M_end 75 = .ok (.iconst 0, 1) := by decide +kernel
theorem d_M_end_76 : decode b_M_end 76 = .ok (.iaload, 1) := by decide +kernel
theorem d_M_end_77 : decode b_M_end 77 = .ok (.ifCond .eq 18, 3) := by decide +kernel
theorem d_M_end_80 : decode b_M_end 80 = .ok (.aload_n 0, 1) := by decide +kernel
theorem d_M_end_81 : decode b_M_end 81 = .ok (.getfield 13, 3) := by decide +kernel
theorem d_M_end_84 : decode b_M_end 84 = .ok (.iconst 0, 1) := by decide +kernel
theorem d_M_end_85 : decode b_M_end 85 = .ok (.iaload, 1) := by decide +kernel
theorem d_M_end_86 : decode b_M_end 86 = .ok (.bipush 6, 2) := by decide +kernel
theorem d_M_end_88 : decode b_M_end 88 = .ok (.if_icmp .eq 7, 3) := by decide +kernel
theorem d_M_end_91 : decode b_M_end 91 = .ok (.iconst 1, 1) := by decide +kernel
theorem d_M_end_92 : decode b_M_end 92 = .ok (.goto 4, 3) := by decide +kernel
theorem d_M_end_95 : decode b_M_end 95 = .ok (.iconst 0, 1) := by decide +kernel
theorem d_M_end_96 : decode b_M_end 96 = .ok (.istore_n 3, 1) := by decide +kernel
theorem d_M_end_97 : decode b_M_end 97 = .ok (.iconst 0, 1) := by decide +kernel
theorem d_M_end_98 : decode b_M_end 98 = .ok (.istore 4, 2) := by decide +kernel
theorem d_M_end_100 : decode b_M_end 100 = .ok (.iconst 0, 1) := by decide +kernel
theorem d_M_end_101 : decode b_M_end 101 = .ok (.istore 5, 2) := by decide +kernel
theorem d_M_end_103 : decode b_M_end 103 = .ok (.iload 5, 2) := by decide +kernel
theorem d_M_end_105 : decode b_M_end 105 = .ok (.bipush 16, 2) := by decide +kernel
theorem d_M_end_107 : decode b_M_end 107 = .ok (.if_icmp .ge 108, 3) := by decide +kernel
theorem d_M_end_110 : decode b_M_end 110 = .ok (.aload_n 0, 1) := by decide +kernel
theorem d_M_end_111 : decode b_M_end 111 = .ok (.getfield 13, 3) := by decide +kernel
theorem d_M_end_114 : decode b_M_end 114 = .ok (.iload 5, 2) := by decide +kernel
theorem d_M_end_116 : decode b_M_end 116 = .ok (.iaload, 1) := by decide +kernel
theorem d_M_end_117 : decode b_M_end 117 = .ok (.ifCond .eq 92, 3) := by decide +kernel
theorem d_M_end_120 : decode b_M_end 120 = .ok (.aload_n 0, 1) := by decide +kernel
theorem d_M_end_121 : decode b_M_end 121 = .ok (.getfield 31, 3) := by decide +kernel
theorem d_M_end_124 : decode b_M_end 124 = .ok (.iload 5, 2) := by decide +kernel
theorem d_M_end_126 : decode b_M_end 126 = .ok (.iaload, 1) := by decide +kernel
theorem d_M_end_127 : decode b_M_end 127 = .ok (.iload_n 1, 1) := by decide +kernel
theorem d_M_end_128 : decode b_M_end 128 = .ok (.if_icmp .ne 81, 3) := by decide +kernel
theorem d_M_end_131 : decode b_M_end 131 = .ok (.aload_n 0, 1) := by decide +kernel
theorem d_M_end_132 : decode b_M_end 132 = .ok (.getfield 31, 3) := by decide +kernel
theorem d_M_end_135 : decode b_M_end 135 = .ok (.iload 5, 2) := by decide +kernel
theorem d_M_end_137 : decode b_M_end 137 = .ok (.iload_n 3, 1) := by decide +kernel
theorem d_M_end_138 : decode b_M_end 138 = .ok (.ifCond .eq 7, 3) := by decide +kernel
theorem d_M_end_141 : decode b_M_end 141 = .ok (.iconst 0, 1) := by decide +kernel
theorem d_M_end_142 : decode b_M_end 142 = .ok (.goto 4, 3) := by decide +kernel
theorem d_M_end_145 : decode b_M_end 145 = .ok (.iconst (-1), 1) := by decide +kernel
theorem d_M_end_146 : decode b_M_end 146 = .ok (.iastore, 1) := by decide +kernel
theorem d_M_end_147 : decode b_M_end 147 = .ok (.iload 4, 2) := by decide +kernel
theorem d_M_end_149 : decode b_M_end 149 = .ok (.ifCond .ne 19, 3) := by decide +kernel
theorem d_M_end_152 : decode b_M_end 152 = .ok (.iload_n 3, 1) := by decide +kernel
theorem d_M_end_153 : decode b_M_end 153 = .ok (.ifCond .eq 19, 3) := by decide +kernel
theorem d_M_end_156 : decode b_M_end 156 = .ok (.aload_n 0, 1) := by decide +kernel
theorem d_M_end_157 : decode b_M_end 157 = .ok (.getfield 13, 3) := by decide +kernel
theorem d_M_end_160 : decode b_M_end 160 = .ok (.iload 5, 2) := by decide +kernel
theorem d_M_end_162 : decode b_M_end 162 = .ok (.iaload, 1) := by decide +kernel
theorem d_M_end_163 : decode b_M_end 163 = .ok (.bipush 6, 2) := by decide +kernel
theorem d_M_end_165 : decode b_M_end 165 = .ok (.if_icmp .ne 7, 3) := by decide +kernel
theorem d_M_end_168 : decode b_M_end 168 = .ok (.iconst 1, 1) := by decide +kernel
theorem d_M_end_169 : decode b_M_end 169 = .ok (.goto 4, 3) := by decide +kernel
theorem d_M_end_172 : decode b_M_end 172 = .ok (.iconst 0, 1) := by decide +kernel
theorem d_M_end_173 : decode b_M_end 173 = .ok (.istore 4, 2) := by decide +kernel
theorem d_M_end_175 : decode b_M_end 175 = .ok (.aload_n 0, 1) := by decide +kernel
theorem d_M_end_176 : decode b_M_end 176 = .ok (.getfield 13, 3) := by decide +kernel
theorem d_M_end_179 : decode b_M_end 179 = .ok (.iload 5, 2) := by decide +kernel
theorem d_M_end_181 : decode b_M_end 181 = .ok (.iload_n 3, 1) := by decide +kernel
theorem d_M_end_182 : decode b_M_end 182 = .ok (.ifCond .ne 19, 3) := by decide +kernel
theorem d_M_end_185 : decode b_M_end 185 = .ok (.aload_n 0, 1) := by decide +kernel
theorem d_M_end_186 : decode b_M_end 186 = .ok (.getfield 13, 3) := by decide +kernel
theorem d_M_end_189 : decode b_M_end 189 = .ok (.iload 5, 2) := by decide +kernel
theorem d_M_end_191 : decode b_M_end 191 = .ok (.iaload, 1) := by decide +kernel
theorem d_M_end_192 : decode b_M_end 192 = .ok (.bipush 6, 2) := by decide +kernel
theorem d_M_end_194 : decode b_M_end 194 = .ok (.if_icmp .ne 7, 3) := by decide +kernel
theorem d_M_end_197 : decode b_M_end 197 = .ok (.iconst 0, 1) := by decide +kernel
theorem d_M_end_198 : decode b_M_end 198 = .ok (.goto 10, 3) := by decide +kernel
theorem d_M_end_201 : decode b_M_end 201 = .ok (.aload_n 0, 1) := by decide +kernel
theorem d_M_end_202 : decode b_M_end 202 = .ok (.getfield 13, 3) := by decide +kernel
theorem d_M_end_205 : decode b_M_end 205 = .ok (.iload 5, 2) := by decide +kernel
theorem d_M_end_207 : decode b_M_end 207 = .ok (.iaload, 1) := by decide +kernel
theorem d_M_end_208 : decode b_M_end 208 = .ok (.iastore, 1) := by decide +kernel
theorem d_M_end_209 : decode b_M_end 209 = .ok (.iinc 5 1, 3) := by decide +kernel
theorem d_M_end_212 : decode b_M_end 212 = .ok (.goto (-109), 3) := by decide +kernel
theorem d_M_end_215 : decode b_M_end 215 = .ok (.aload_n 0, 1) := by decide +kernel
theorem d_M_end_216 : decode b_M_end 216 = .ok (.getfield 31, 3) := by decide +kernel
theorem d_M_end_219 : decode b_M_end 219 = .ok (.iload_n 1, 1) := by decide +kernel
theorem d_M_end_220 : decode b_M_end 220 = .ok (.iaload, 1) := by decide +kernel
theorem d_M_end_221 : decode b_M_end 221 = .ok (.istore 5, 2) := by decide +kernel
theorem d_M_end_223 : decode b_M_end 223 = .ok (.iload 5, 2) := by decide +kernel
theorem d_M_end_225 : decode b_M_end 225 = .ok (.iconst (-1), 1) := by decide +kernel
theorem d_M_end_226 : decode b_M_end 226 = .ok (.if_icmp .ne 13, 3) := by decide +kernel
theorem d_M_end_229 : decode b_M_end 229 = .ok (.aload_n 0, 1) := by decide +kernel
theorem d_M_end_230 : decode b_M_end 230 = .ok (.getfield 13, 3) := by decide +kernel
theorem d_M_end_233 : decode b_M_end 233 = .ok (.iload_n 1, 1) := by decide +kernel
theorem d_M_end_234 : decode b_M_end 234 = .ok (.iconst 0, 1) := by decide +kernel
theorem d_M_end_235 : decode b_M_end 235 = .ok (.iastore, 1) := by decide +kernel
theorem d_M_end_236 : decode b_M_end 236 = .ok (.goto 20, 3) := by decide +kernel
theorem d_M_end_239 : decode b_M_end 239 = .ok (.aload_n 0, 1) := by decide +kernel
theorem d_M_end_240 : decode b_M_end 240 = .ok (.getfield 13, 3) := by decide +kernel
theorem d_M_end_243 : decode b_M_end 243 = .ok (.iload 5, 2) := by decide +kernel
theorem d_M_end_245 : decode b_M_end 245 = .ok (.iaload, 1) := by decide +kernel
theorem d_M_end_246 : decode b_M_end 246 = .ok (.iconst 4, 1) := by decide +kernel
theorem d_M_end_247 : decode b_M_end 247 = .ok (.if_icmp .ne 9, 3) := by decide +kernel
theorem d_M_end_250 : decode b_M_end 250 = .ok (.aload_n 0, 1) := by decide +kernel
theorem d_M_end_251 : decode b_M_end 251 = .ok (.iload 5, 2) := by decide +kernel
theorem d_M_end_253 : decode b_M_end 253 = .ok (.invokevirtual 75, 3) := by decide +kernel
theorem d_M_end_256 : decode b_M_end 256 = .ok (.iload 4, 2) := by decide +kernel
theorem d_M_end_258 : decode b_M_end 258 = .ok (.ifCond .eq 18, 3) := by decide +kernel
theorem d_M_end_261 : decode b_M_end 261 = .ok (.aload_n 0, 1) := by decide +kernel
theorem d_M_end_262 : decode b_M_end 262 = .ok (.getfield 13, 3) := by decide +kernel
theorem d_M_end_265 : decode b_M_end 265 = .ok (.iconst 0, 1) := by decide +kernel
theorem d_M_end_266 : decode b_M_end 266 = .ok (.iaload, 1) := by decide +kernel
theorem d_M_end_267 : decode b_M_end 267 = .ok (.iconst 4, 1) := by decide +kernel
theorem d_M_end_268 : decode b_M_end 268 = .ok (.if_icmp .ne 8, 3) := by decide +kernel
theorem d_M_end_271 : decode b_M_end 271 = .ok (.aload_n 0, 1) := by decide +kernel
theorem d_M_end_272 : decode b_M_end 272 = .ok (.iconst 0, 1) := by decide +kernel
theorem d_M_end_273 : decode b_M_end 273 = .ok (.invokevirtual 75, 3) := by decide +kernel
theorem d_M_end_276 : decode b_M_end 276 = .ok (.return_, 1) := by decide +kernel
def w_M_end_256 (x1 : Int32) (x2 : Int32) (Φ : KS → Prop) (v4 : Int32) (s0 : KS) : Prop := ((v4 = 0 → Φ s0) ∧ (¬ v4 = 0 → vp_in (0 : Int32) 16 ∧ ((¬ (s0 26 0 (0 : Int32).toNatClampNeg) = (4 : Int32) → Φ s0) ∧ ((s0 26 0 (0 : Int32).toNatClampNeg) = (4 : Int32) → w_M_ready (0 : Int32) s0 (fun s1 => Φ s1)))))
def w_M_end_208 (x1 : Int32) (x2 : Int32) (K103 : Int32 → Int32 → Int32 → KS → Prop) (Φ : KS → Prop) (v3 : Int32) (v4 : Int32) (v5 : Int32) (t0 : Int32) (t1 : Int32) (s0 : KS) : Prop := vp_in t1 16 ∧ ∀ s1 : KS, s1 = w3 s0 26 0 t1.toNatClampNeg t0 → ∀ y2 : Int32, y2 = v5 + (1 : Int32) → K103 v3 v4 y2 s1
def w_M_end_201 (x1 : Int32) (x2 : Int32) (K103 : Int32 → Int32 → Int32 → KS → Prop) (Φ : KS → Prop) (v3 : Int32) (v4 : Int32) (v5 : Int32) (t0 : Int32) (s0 : KS) : Prop := vp_in v5 16 ∧ w_M_end_208 x1 x2 K103 Φ v3 v4 v5 (s0 26 0 v5.toNatClampNeg) t0 s0
def w_M_end_173 (x1 : Int32) (x2 : Int32) (K103 : Int32 → Int32 → Int32 → KS → Prop) (Φ : KS → Prop) (v3 : Int32) (v5 : Int32) (t0 : Int32) (s0 : KS) : Prop := ((¬ v3 = 0 → w_M_end_201 x1 x2 K103 Φ v3 t0 v5 v5 s0) ∧ (v3 = 0 → vp_in v5 16 ∧ ((¬ (s0 26 0 v5.toNatClampNeg) = (6 : Int32) → w_M_end_201 x1 x2 K103 Φ v3 t0 v5 v5 s0) ∧ ((s0 26 0 v5.toNatClampNeg) = (6 : Int32) → w_M_end_208 x1 x2 K103 Φ v3 t0 v5 (0 : Int32) v5 s0))))
def w_M_end_172 (x1 : Int32) (x2 : Int32) (K103 : Int32 → Int32 → Int32 → KS → Prop) (Φ : KS → Prop) (v3 : Int32) (v5 : Int32) (s0 : KS) : Prop := w_M_end_173 x1 x2 K103 Φ v3 v5 (0 : Int32) s0
def w_M_end_168 (x1 : Int32) (x2 : Int32) (K103 : Int32 → Int32 → Int32 → KS → Prop) (Φ : KS → Prop) (v3 : Int32) (v5 : Int32) (s0 : KS) : Prop := w_M_end_173 x1 x2 K103 Φ v3 v5 (1 : Int32) s0
def w_M_end_146 (x1 : Int32) (x2 : Int32) (K103 : Int32 → Int32 → Int32 → KS → Prop) (Φ : KS → Prop) (v3 : Int32) (v4 : Int32) (v5 : Int32) (t0 : Int32) (t1 : Int32) (s0 : KS) : Prop := vp_in t1 16 ∧ ∀ s1 : KS, s1 = w3 s0 32 0 t1.toNatClampNeg t0 → ((¬ v4 = 0 → w_M_end_168 x1 x2 K103 Φ v3 v5 s1) ∧ (v4 = 0 → ((v3 = 0 → w_M_end_172 x1 x2 K103 Φ v3 v5 s1) ∧ (¬ v3 = 0 → vp_in v5 16 ∧ ((¬ (s1 26 0 v5.toNatClampNeg) = (6 : Int32) → w_M_end_172 x1 x2 K103 Φ v3 v5 s1) ∧ ((s1 26 0 v5.toNatClampNeg) = (6 : Int32) → w_M_end_168 x1 x2 K103 Φ v3 v5 s1))))))
def w_M_end_103 (x1 : Int32) (x2 : Int32) (Φ : KS → Prop) : Nat → Int32 → Int32 → Int32 → KS → Prop
  | 0, _, _, _, _ => False
  | n + 1, v3, v4, v5, s0 => (((16 : Int32) ≤ v5 → vp_in x1 16 ∧ ∀ y1 : Int32, y1 = s0 32 0 x1.toNatClampNeg → ((¬ y1 = (-1 : Int32) → vp_in y1 16 ∧ ((¬ (s0 26 0 y1.toNatClampNeg) = (4 : Int32) → w_M_end_256 x1 x2 Φ v4 s0) ∧ ((s0 26 0 y1.toNatClampNeg) = (4 : Int32) → w_M_ready y1 s0 (fun s2 => w_M_end_256 x1 x2 Φ v4 s2)))) ∧ (y1 = (-1 : Int32) → vp_in x1 16 ∧ ∀ s3 : KS, s3 = w3 s0 26 0 x1.toNatClampNeg (0 : Int32) → w_M_end_256 x1 x2 Φ v4 s3))) ∧ (¬ (16 : Int32) ≤ v5 → vp_in v5 16 ∧ (((s0 26 0 v5.toNatClampNeg) = 0 → ∀ y4 : Int32, y4 = v5 + (1 : Int32) → w_M_end_103 x1 x2 Φ n v3 v4 y4 s0) ∧ (¬ (s0 26 0 v5.toNatClampNeg) = 0 → vp_in v5 16 ∧ ((¬ (s0 32 0 v5.toNatClampNeg) = x1 → ∀ y5 : Int32, y5 = v5 + (1 : Int32) → w_M_end_103 x1 x2 Φ n v3 v4 y5 s0) ∧ ((s0 32 0 v5.toNatClampNeg) = x1 → ((v3 = 0 → w_M_end_146 x1 x2 (w_M_end_103 x1 x2 Φ n) Φ v3 v4 v5 (-1 : Int32) v5 s0) ∧ (¬ v3 = 0 → w_M_end_146 x1 x2 (w_M_end_103 x1 x2 Φ n) Φ v3 v4 v5 (0 : Int32) v5 s0))))))))
def w_M_end_49 (x1 : Int32) (x2 : Int32) (Φ : KS → Prop) : Nat → Int32 → KS → Prop
  | 0, _, _ => False
  | n + 1, v3, s0 => (((8 : Int32) ≤ v3 → ((x1 = 0 → ∃ nn : Nat, w_M_end_103 x1 x2 Φ nn (0 : Int32) (0 : Int32) (0 : Int32) s0) ∧ (¬ x1 = 0 → vp_in (0 : Int32) 16 ∧ (((s0 26 0 (0 : Int32).toNatClampNeg) = 0 → ∃ nn : Nat, w_M_end_103 x1 x2 Φ nn (0 : Int32) (0 : Int32) (0 : Int32) s0) ∧ (¬ (s0 26 0 (0 : Int32).toNatClampNeg) = 0 → vp_in (0 : Int32) 16 ∧ (((s0 26 0 (0 : Int32).toNatClampNeg) = (6 : Int32) → ∃ nn : Nat, w_M_end_103 x1 x2 Φ nn (0 : Int32) (0 : Int32) (0 : Int32) s0) ∧ (¬ (s0 26 0 (0 : Int32).toNatClampNeg) = (6 : Int32) → ∃ nn : Nat, w_M_end_103 x1 x2 Φ nn (1 : Int32) (0 : Int32) (0 : Int32) s0))))))) ∧ (¬ (8 : Int32) ≤ v3 → w_M_shutEnd x1 v3 s0 (fun s1 => ∀ y2 : Int32, y2 = v3 + (1 : Int32) → w_M_end_49 x1 x2 Φ n y2 s1)))
def w_M_end_7 (x1 : Int32) (x2 : Int32) (Φ : KS → Prop) : Nat → Int32 → KS → Prop
  | 0, _, _ => False
  | n + 1, v3, s0 => (((17 : Int32) ≤ v3 → vp_in x1 16 ∧ ∀ s1 : KS, s1 = w3 s0 26 0 x1.toNatClampNeg (6 : Int32) → vp_in x1 16 ∧ ∀ s2 : KS, s2 = w3 s1 33 0 x1.toNatClampNeg x2 → vp_in x1 16 ∧ ∀ s3 : KS, s3 = w3 s2 34 0 x1.toNatClampNeg (0 : Int32) → ∃ nn : Nat, w_M_end_49 x1 x2 Φ nn (0 : Int32) s3) ∧ (¬ (17 : Int32) ≤ v3 → w_M_leaveRow v3 x1 s0 (fun s4 => ∀ y5 : Int32, y5 = v3 + (1 : Int32) → w_M_end_7 x1 x2 Φ n y5 s4)))
def w_M_end (x1 : Int32) (x2 : Int32) (s0 : KS) (Φ : KS → Prop) : Prop := w_M_leaveQueue x1 s0 (fun s1 => ∃ nn : Nat, w_M_end_7 x1 x2 Φ nn (0 : Int32) s1)
set_option maxHeartbeats 4000000 in
set_option maxRecDepth 100000 in
theorem c_M_end (l : Launch) (E : gE) (s0 : KS) (x1 : Int32) (x2 : Int32) (Φ : KS → Prop) (hw : w_M_end x1 x2 s0 Φ) : gMv l y_M_end v_M_end m_M_end E MM [.ref (ea E 20 0), .int x1, .int x2] s0 Φ := by
  intro sz
  refine Met.ofW (cc := b_M_end) (maxL := 6) (ret := none) (by decide) rfl ?_
  intro p e s m args below meth c s₁ B hml hv
  obtain ⟨rfl, hsz, hP, hK, hD, hX⟩ := hv
  have hx := B.exec
  have hb := B.bytes
  have hr := B.returns
  have hts := atoms_spec (ws := v_M_end) B.pre
  have hG : ∀ w ∈ gG, w.before _ s = true := fun w h => hts w (List.mem_cons_of_mem _ h)
  have hown : s.vm.findClass R_M = some m.cls := findClass_of_methodNamed B.named
  have hlocks := B.notSynchronized
  subst hsz
  obtain ⟨A, hAe⟩ : ∃ A, A = gA E MM s.heap.size := ⟨_, rfl⟩
  rw [← hAe] at hD hX ⊢
  have hV : gV E MM A s0 s s.heap [] := ⟨hP, hD, va_S.rf⟩
  have hl := lv_entry ([.ref (ea E 20 0), .int x1, .int x2] : List Value) (n := 6) (Nat.le_of_ble_eq_true rfl)
  rw [lg_entry_eq]
  generalize (lg_sl ([.ref (ea E 20 0), .int x1, .int x2] : List Value) ++ List.replicate (6 - (lg_sl ([.ref (ea E 20 0), .int x1, .int x2] : List Value)).length) Slot.unset).toArray = ls at hl ⊢
  have hl : lv_has ls 6 [(0, .ref (ea E 20 0)), (1, .int x1), (2, .int x2)] := hl
  have J256 : ∀ (ls : Array Slot) (H : Heap) (locs : List Loc) (s0 : KS) (v4 : Int32), lv_has ls 6 [(0, .ref (ea E 20 0)), (4, .int v4)] → gV E MM A s0 s H locs → w_M_end_256 x1 x2 Φ v4 s0 → W p l e m_M_end s m ([.ref (ea E 20 0), .int x1, .int x2] : List Value).toArray below meth c H locs 0 0 (MQ below (gQv E MM A Φ) ([.ref (ea E 20 0), .int x1, .int x2] : List Value).toArray s 0 0 A) (F0 m 256 ls []) := by
    intro  ls H locs s0 v4 hl hV hw
    unfold w_M_end_256 at hw
    refine lv_iload hx hb d_M_end_256 (lv_at hl 1 rfl) ?_
    refine lv_if_eq (tgt := 276) hx hb d_M_end_258 rfl (fun hc => ?_) (fun hc => ?_)
    · have hw := hw.1 hc
      exact kr_v hx hb hr hV hK hX hAe hw d_M_end_276
    · have hw := hw.2 hc
      refine lv_aload_n hx hb d_M_end_261 rfl (lv_at hl 0 rfl) ?_
      refine kg_M_M_state hx hb hG hown hK hV d_M_end_262 ?_
      refine lv_iconst (v := 0) hx hb d_M_end_265 (by decide) ?_
      refine kl_26 hx hb hK hV hw.1 d_M_end_266 ?_
      have hw := hw.2
      refine lv_iconst (v := 4) hx hb d_M_end_267 (by decide) ?_
      refine lv_icmp_ne (tgt := 276) hx hb d_M_end_268 rfl (fun hc => ?_) (fun hc => ?_)
      · have hw := hw.1 hc
        exact kr_v hx hb hr hV hK hX hAe hw d_M_end_276
      · have hw := hw.2 hc
        refine lv_aload_n hx hb d_M_end_271 rfl (lv_at hl 0 rfl) ?_
        refine lv_iconst (v := 0) hx hb d_M_end_272 (by decide) ?_
        refine kc_M_M_ready hx hb hml hown hts hV hK hX hAe (c_M_ready l E s0 (0 : Int32) _ hw) hl.1 (Nat.le_of_ble_eq_true rfl) d_M_end_273 (Nat.le_of_ble_eq_true rfl) (Nat.le_of_ble_eq_true rfl) (fun s1 H locs hw hV => ?_)
        exact kr_v hx hb hr hV hK hX hAe hw d_M_end_276
  have J208 : ∀ (K103 : Int32 → Int32 → Int32 → KS → Prop) (hK103 : ∀ (ls : Array Slot) (H : Heap) (locs : List Loc) (s0 : KS) (v3 : Int32) (v4 : Int32) (v5 : Int32), lv_has ls 6 [(0, .ref (ea E 20 0)), (1, .int x1), (3, .int v3), (4, .int v4), (5, .int v5)] → gV E MM A s0 s H locs → K103 v3 v4 v5 s0 → W p l e m_M_end s m ([.ref (ea E 20 0), .int x1, .int x2] : List Value).toArray below meth c H locs 0 0 (MQ below (gQv E MM A Φ) ([.ref (ea E 20 0), .int x1, .int x2] : List Value).toArray s 0 0 A) (F0 m 103 ls [])), ∀ (ls : Array Slot) (H : Heap) (locs : List Loc) (s0 : KS) (v3 : Int32) (v4 : Int32) (v5 : Int32) (t0 : Int32) (t1 : Int32), lv_has ls 6 [(0, .ref (ea E 20 0)), (1, .int x1), (3, .int v3), (4, .int v4), (5, .int v5)] → gV E MM A s0 s H locs → w_M_end_208 x1 x2 K103 Φ v3 v4 v5 t0 t1 s0 → W p l e m_M_end s m ([.ref (ea E 20 0), .int x1, .int x2] : List Value).toArray below meth c H locs 0 0 (MQ below (gQv E MM A Φ) ([.ref (ea E 20 0), .int x1, .int x2] : List Value).toArray s 0 0 A) (F0 m 208 ls [.int t0, .int t1, .ref (ea E 26 0)]) := by
    intro K103 hK103 ls H locs s0 v3 v4 v5 t0 t1 hl hV hw
    unfold w_M_end_208 at hw
    refine ks_26 hx hb hK hV hw.1 d_M_end_208 (fun s1 H locs es1 hV => ?_)
    have hw := hw.2 s1 es1
    obtain ⟨y2, ey2⟩ : ∃ z : Int32, z = v5 + (1 : Int32) := ⟨_, rfl⟩
    have hw := hw y2 ey2
    refine lv_iinc (k := 4) (v := y2) (lv' := [(5, .int y2), (0, .ref (ea E 20 0)), (1, .int x1), (3, .int v3), (4, .int v4)]) hx hb d_M_end_209 hl rfl (by rw [ey2]; rfl) (by decide) rfl (fun ls hl => ?_)
    refine lv_goto (tgt := 103) hx hb d_M_end_212 rfl ?_
    exact hK103 _ _ _ s1 v3 v4 y2 (lv_sub hl [1, 2, 3, 4, 0] rfl) hV hw
  have J201 : ∀ (K103 : Int32 → Int32 → Int32 → KS → Prop) (hK103 : ∀ (ls : Array Slot) (H : Heap) (locs : List Loc) (s0 : KS) (v3 : Int32) (v4 : Int32) (v5 : Int32), lv_has ls 6 [(0, .ref (ea E 20 0)), (1, .int x1), (3, .int v3), (4, .int v4), (5, .int v5)] → gV E MM A s0 s H locs → K103 v3 v4 v5 s0 → W p l e m_M_end s m ([.ref (ea E 20 0), .int x1, .int x2] : List Value).toArray below meth c H locs 0 0 (MQ below (gQv E MM A Φ) ([.ref (ea E 20 0), .int x1, .int x2] : List Value).toArray s 0 0 A) (F0 m 103 ls [])), ∀ (ls : Array Slot) (H : Heap) (locs : List Loc) (s0 : KS) (v3 : Int32) (v4 : Int32) (v5 : Int32) (t0 : Int32), lv_has ls 6 [(0, .ref (ea E 20 0)), (1, .int x1), (3, .int v3), (4, .int v4), (5, .int v5)] → gV E MM A s0 s H locs → w_M_end_201 x1 x2 K103 Φ v3 v4 v5 t0 s0 → W p l e m_M_end s m ([.ref (ea E 20 0), .int x1, .int x2] : List Value).toArray below meth c H locs 0 0 (MQ below (gQv E MM A Φ) ([.ref (ea E 20 0), .int x1, .int x2] : List Value).toArray s 0 0 A) (F0 m 201 ls [.int t0, .ref (ea E 26 0)]) := by
    intro K103 hK103 ls H locs s0 v3 v4 v5 t0 hl hV hw
    unfold w_M_end_201 at hw
    refine lv_aload_n hx hb d_M_end_201 rfl (lv_at hl 0 rfl) ?_
    refine kg_M_M_state hx hb hG hown hK hV d_M_end_202 ?_
    refine lv_iload hx hb d_M_end_205 (lv_at hl 4 rfl) ?_
    refine kl_26 hx hb hK hV hw.1 d_M_end_207 ?_
    have hw := hw.2
    exact J208 _ hK103 _ _ _ s0 v3 v4 v5 (s0 26 0 v5.toNatClampNeg) t0 (lv_sub hl [0, 1, 2, 3, 4] rfl) hV hw
  have J173 : ∀ (K103 : Int32 → Int32 → Int32 → KS → Prop) (hK103 : ∀ (ls : Array Slot) (H : Heap) (locs : List Loc) (s0 : KS) (v3 : Int32) (v4 : Int32) (v5 : Int32), lv_has ls 6 [(0, .ref (ea E 20 0)), (1, .int x1), (3, .int v3), (4, .int v4), (5, .int v5)] → gV E MM A s0 s H locs → K103 v3 v4 v5 s0 → W p l e m_M_end s m ([.ref (ea E 20 0), .int x1, .int x2] : List Value).toArray below meth c H locs 0 0 (MQ below (gQv E MM A Φ) ([.ref (ea E 20 0), .int x1, .int x2] : List Value).toArray s 0 0 A) (F0 m 103 ls [])), ∀ (ls : Array Slot) (H : Heap) (locs : List Loc) (s0 : KS) (v3 : Int32) (v5 : Int32) (t0 : Int32), lv_has ls 6 [(0, .ref (ea E 20 0)), (1, .int x1), (3, .int v3), (5, .int v5)] → gV E MM A s0 s H locs → w_M_end_173 x1 x2 K103 Φ v3 v5 t0 s0 → W p l e m_M_end s m ([.ref (ea E 20 0), .int x1, .int x2] : List Value).toArray below meth c H locs 0 0 (MQ below (gQv E MM A Φ) ([.ref (ea E 20 0), .int x1, .int x2] : List Value).toArray s 0 0 A) (F0 m 173 ls [.int t0]) := by
    intro K103 hK103 ls H locs s0 v3 v5 t0 hl hV hw
    unfold w_M_end_173 at hw
    refine lv_istore (lv' := [(4, .int t0), (0, .ref (ea E 20 0)), (1, .int x1), (3, .int v3), (5, .int v5)]) hx hb d_M_end_173 hl (by decide) rfl (fun ls hl => ?_)
    refine lv_aload_n hx hb d_M_end_175 rfl (lv_at hl 1 rfl) ?_
    refine kg_M_M_state hx hb hG hown hK hV d_M_end_176 ?_
    refine lv_iload hx hb d_M_end_179 (lv_at hl 4 rfl) ?_
    refine lv_iload_n hx hb d_M_end_181 rfl (lv_at hl 3 rfl) ?_
    refine lv_if_ne (tgt := 201) hx hb d_M_end_182 rfl (fun hc => ?_) (fun hc => ?_)
    · have hw := hw.1 hc
      exact J201 _ hK103 _ _ _ s0 v3 t0 v5 v5 (lv_sub hl [1, 2, 3, 0, 4] rfl) hV hw
    · have hw := hw.2 hc
      refine lv_aload_n hx hb d_M_end_185 rfl (lv_at hl 1 rfl) ?_
      refine kg_M_M_state hx hb hG hown hK hV d_M_end_186 ?_
      refine lv_iload hx hb d_M_end_189 (lv_at hl 4 rfl) ?_
      refine kl_26 hx hb hK hV hw.1 d_M_end_191 ?_
      have hw := hw.2
      refine lv_bipush (v := 6) hx hb d_M_end_192 (by decide) ?_
      refine lv_icmp_ne (tgt := 201) hx hb d_M_end_194 rfl (fun hc => ?_) (fun hc => ?_)
      · have hw := hw.1 hc
        exact J201 _ hK103 _ _ _ s0 v3 t0 v5 v5 (lv_sub hl [1, 2, 3, 0, 4] rfl) hV hw
      · have hw := hw.2 hc
        refine lv_iconst (v := 0) hx hb d_M_end_197 (by decide) ?_
        refine lv_goto (tgt := 208) hx hb d_M_end_198 rfl ?_
        exact J208 _ hK103 _ _ _ s0 v3 t0 v5 (0 : Int32) v5 (lv_sub hl [1, 2, 3, 0, 4] rfl) hV hw
  have J172 : ∀ (K103 : Int32 → Int32 → Int32 → KS → Prop) (hK103 : ∀ (ls : Array Slot) (H : Heap) (locs : List Loc) (s0 : KS) (v3 : Int32) (v4 : Int32) (v5 : Int32), lv_has ls 6 [(0, .ref (ea E 20 0)), (1, .int x1), (3, .int v3), (4, .int v4), (5, .int v5)] → gV E MM A s0 s H locs → K103 v3 v4 v5 s0 → W p l e m_M_end s m ([.ref (ea E 20 0), .int x1, .int x2] : List Value).toArray below meth c H locs 0 0 (MQ below (gQv E MM A Φ) ([.ref (ea E 20 0), .int x1, .int x2] : List Value).toArray s 0 0 A) (F0 m 103 ls [])), ∀ (ls : Array Slot) (H : Heap) (locs : List Loc) (s0 : KS) (v3 : Int32) (v5 : Int32), lv_has ls 6 [(0, .ref (ea E 20 0)), (1, .int x1), (3, .int v3), (5, .int v5)] → gV E MM A s0 s H locs → w_M_end_172 x1 x2 K103 Φ v3 v5 s0 → W p l e m_M_end s m ([.ref (ea E 20 0), .int x1, .int x2] : List Value).toArray below meth c H locs 0 0 (MQ below (gQv E MM A Φ) ([.ref (ea E 20 0), .int x1, .int x2] : List Value).toArray s 0 0 A) (F0 m 172 ls []) := by
    intro K103 hK103 ls H locs s0 v3 v5 hl hV hw
    unfold w_M_end_172 at hw
    refine lv_iconst (v := 0) hx hb d_M_end_172 (by decide) ?_
    exact J173 _ hK103 _ _ _ s0 v3 v5 (0 : Int32) (lv_sub hl [0, 1, 2, 3] rfl) hV hw
  have J168 : ∀ (K103 : Int32 → Int32 → Int32 → KS → Prop) (hK103 : ∀ (ls : Array Slot) (H : Heap) (locs : List Loc) (s0 : KS) (v3 : Int32) (v4 : Int32) (v5 : Int32), lv_has ls 6 [(0, .ref (ea E 20 0)), (1, .int x1), (3, .int v3), (4, .int v4), (5, .int v5)] → gV E MM A s0 s H locs → K103 v3 v4 v5 s0 → W p l e m_M_end s m ([.ref (ea E 20 0), .int x1, .int x2] : List Value).toArray below meth c H locs 0 0 (MQ below (gQv E MM A Φ) ([.ref (ea E 20 0), .int x1, .int x2] : List Value).toArray s 0 0 A) (F0 m 103 ls [])), ∀ (ls : Array Slot) (H : Heap) (locs : List Loc) (s0 : KS) (v3 : Int32) (v5 : Int32), lv_has ls 6 [(0, .ref (ea E 20 0)), (1, .int x1), (3, .int v3), (5, .int v5)] → gV E MM A s0 s H locs → w_M_end_168 x1 x2 K103 Φ v3 v5 s0 → W p l e m_M_end s m ([.ref (ea E 20 0), .int x1, .int x2] : List Value).toArray below meth c H locs 0 0 (MQ below (gQv E MM A Φ) ([.ref (ea E 20 0), .int x1, .int x2] : List Value).toArray s 0 0 A) (F0 m 168 ls []) := by
    intro K103 hK103 ls H locs s0 v3 v5 hl hV hw
    unfold w_M_end_168 at hw
    refine lv_iconst (v := 1) hx hb d_M_end_168 (by decide) ?_
    refine lv_goto (tgt := 173) hx hb d_M_end_169 rfl ?_
    exact J173 _ hK103 _ _ _ s0 v3 v5 (1 : Int32) (lv_sub hl [0, 1, 2, 3] rfl) hV hw
  have J146 : ∀ (K103 : Int32 → Int32 → Int32 → KS → Prop) (hK103 : ∀ (ls : Array Slot) (H : Heap) (locs : List Loc) (s0 : KS) (v3 : Int32) (v4 : Int32) (v5 : Int32), lv_has ls 6 [(0, .ref (ea E 20 0)), (1, .int x1), (3, .int v3), (4, .int v4), (5, .int v5)] → gV E MM A s0 s H locs → K103 v3 v4 v5 s0 → W p l e m_M_end s m ([.ref (ea E 20 0), .int x1, .int x2] : List Value).toArray below meth c H locs 0 0 (MQ below (gQv E MM A Φ) ([.ref (ea E 20 0), .int x1, .int x2] : List Value).toArray s 0 0 A) (F0 m 103 ls [])), ∀ (ls : Array Slot) (H : Heap) (locs : List Loc) (s0 : KS) (v3 : Int32) (v4 : Int32) (v5 : Int32) (t0 : Int32) (t1 : Int32), lv_has ls 6 [(0, .ref (ea E 20 0)), (1, .int x1), (3, .int v3), (4, .int v4), (5, .int v5)] → gV E MM A s0 s H locs → w_M_end_146 x1 x2 K103 Φ v3 v4 v5 t0 t1 s0 → W p l e m_M_end s m ([.ref (ea E 20 0), .int x1, .int x2] : List Value).toArray below meth c H locs 0 0 (MQ below (gQv E MM A Φ) ([.ref (ea E 20 0), .int x1, .int x2] : List Value).toArray s 0 0 A) (F0 m 146 ls [.int t0, .int t1, .ref (ea E 32 0)]) := by
    intro K103 hK103 ls H locs s0 v3 v4 v5 t0 t1 hl hV hw
    unfold w_M_end_146 at hw
    refine ks_32 hx hb hK hV hw.1 d_M_end_146 (fun s1 H locs es1 hV => ?_)
    have hw := hw.2 s1 es1
    refine lv_iload hx hb d_M_end_147 (lv_at hl 3 rfl) ?_
    refine lv_if_ne (tgt := 168) hx hb d_M_end_149 rfl (fun hc => ?_) (fun hc => ?_)
    · have hw := hw.1 hc
      exact J168 _ hK103 _ _ _ s1 v3 v5 (lv_sub hl [0, 1, 2, 4] rfl) hV hw
    · have hw := hw.2 hc
      refine lv_iload_n hx hb d_M_end_152 rfl (lv_at hl 2 rfl) ?_
      refine lv_if_eq (tgt := 172) hx hb d_M_end_153 rfl (fun hc => ?_) (fun hc => ?_)
      · have hw := hw.1 hc
        exact J172 _ hK103 _ _ _ s1 v3 v5 (lv_sub hl [0, 1, 2, 4] rfl) hV hw
      · have hw := hw.2 hc
        refine lv_aload_n hx hb d_M_end_156 rfl (lv_at hl 0 rfl) ?_
        refine kg_M_M_state hx hb hG hown hK hV d_M_end_157 ?_
        refine lv_iload hx hb d_M_end_160 (lv_at hl 4 rfl) ?_
        refine kl_26 hx hb hK hV hw.1 d_M_end_162 ?_
        have hw := hw.2
        refine lv_bipush (v := 6) hx hb d_M_end_163 (by decide) ?_
        refine lv_icmp_ne (tgt := 172) hx hb d_M_end_165 rfl (fun hc => ?_) (fun hc => ?_)
        · have hw := hw.1 hc
          exact J172 _ hK103 _ _ _ s1 v3 v5 (lv_sub hl [0, 1, 2, 4] rfl) hV hw
        · have hw := hw.2 hc
          exact J168 _ hK103 _ _ _ s1 v3 v5 (lv_sub hl [0, 1, 2, 4] rfl) hV hw
  have L103 : ∀ (n : Nat), ∀ (ls : Array Slot) (H : Heap) (locs : List Loc) (s0 : KS) (v3 : Int32) (v4 : Int32) (v5 : Int32), lv_has ls 6 [(0, .ref (ea E 20 0)), (1, .int x1), (3, .int v3), (4, .int v4), (5, .int v5)] → gV E MM A s0 s H locs → w_M_end_103 x1 x2 Φ n v3 v4 v5 s0 → W p l e m_M_end s m ([.ref (ea E 20 0), .int x1, .int x2] : List Value).toArray below meth c H locs 0 0 (MQ below (gQv E MM A Φ) ([.ref (ea E 20 0), .int x1, .int x2] : List Value).toArray s 0 0 A) (F0 m 103 ls []) := by
    intro n
    induction n with
    | zero =>
      intro ls H locs s0 v3 v4 v5 hl hV hw
      exact False.elim hw
    | succ n ih =>
      intro ls H locs s0 v3 v4 v5 hl hV hw
      unfold w_M_end_103 at hw
      refine lv_iload hx hb d_M_end_103 (lv_at hl 4 rfl) ?_
      refine lv_bipush (v := 16) hx hb d_M_end_105 (by decide) ?_
      refine lv_icmp_ge (tgt := 215) hx hb d_M_end_107 rfl (fun hc => ?_) (fun hc => ?_)
      · have hw := hw.1 hc
        refine lv_aload_n hx hb d_M_end_215 rfl (lv_at hl 0 rfl) ?_
        refine kg_M_M_parent hx hb hG hown hK hV d_M_end_216 ?_
        refine lv_iload_n hx hb d_M_end_219 rfl (lv_at hl 1 rfl) ?_
        refine kl_32 hx hb hK hV hw.1 d_M_end_220 ?_
        have hw := hw.2
        refine lv_topi (fun y1 ey1 => ?_)
        have hw := hw y1 ey1
        refine lv_istore (lv' := [(5, .int y1), (0, .ref (ea E 20 0)), (1, .int x1), (3, .int v3), (4, .int v4)]) hx hb d_M_end_221 hl (by decide) rfl (fun ls hl => ?_)
        refine lv_iload hx hb d_M_end_223 (lv_at hl 0 rfl) ?_
        refine lv_iconst (v := -1) hx hb d_M_end_225 (by decide) ?_
        refine lv_icmp_ne (tgt := 239) hx hb d_M_end_226 rfl (fun hc => ?_) (fun hc => ?_)
        · have hw := hw.1 hc
          refine lv_aload_n hx hb d_M_end_239 rfl (lv_at hl 1 rfl) ?_
          refine kg_M_M_state hx hb hG hown hK hV d_M_end_240 ?_
          refine lv_iload hx hb d_M_end_243 (lv_at hl 0 rfl) ?_
          refine kl_26 hx hb hK hV hw.1 d_M_end_245 ?_
          have hw := hw.2
          refine lv_iconst (v := 4) hx hb d_M_end_246 (by decide) ?_
          refine lv_icmp_ne (tgt := 256) hx hb d_M_end_247 rfl (fun hc => ?_) (fun hc => ?_)
          · have hw := hw.1 hc
            exact J256 _ _ _ s0 v4 (lv_sub hl [1, 4] rfl) hV hw
          · have hw := hw.2 hc
            refine lv_aload_n hx hb d_M_end_250 rfl (lv_at hl 1 rfl) ?_
            refine lv_iload hx hb d_M_end_251 (lv_at hl 0 rfl) ?_
            refine kc_M_M_ready hx hb hml hown hts hV hK hX hAe (c_M_ready l E s0 y1 _ hw) hl.1 (Nat.le_of_ble_eq_true rfl) d_M_end_253 (Nat.le_of_ble_eq_true rfl) (Nat.le_of_ble_eq_true rfl) (fun s2 H locs hw hV => ?_)
            exact J256 _ _ _ s2 v4 (lv_sub hl [1, 4] rfl) hV hw
        · have hw := hw.2 hc
          refine lv_aload_n hx hb d_M_end_229 rfl (lv_at hl 1 rfl) ?_
          refine kg_M_M_state hx hb hG hown hK hV d_M_end_230 ?_
          refine lv_iload_n hx hb d_M_end_233 rfl (lv_at hl 2 rfl) ?_
          refine lv_iconst (v := 0) hx hb d_M_end_234 (by decide) ?_
          refine ks_26 hx hb hK hV hw.1 d_M_end_235 (fun s3 H locs es3 hV => ?_)
          have hw := hw.2 s3 es3
          refine lv_goto (tgt := 256) hx hb d_M_end_236 rfl ?_
          exact J256 _ _ _ s3 v4 (lv_sub hl [1, 4] rfl) hV hw
      · have hw := hw.2 hc
        refine lv_aload_n hx hb d_M_end_110 rfl (lv_at hl 0 rfl) ?_
        refine kg_M_M_state hx hb hG hown hK hV d_M_end_111 ?_
        refine lv_iload hx hb d_M_end_114 (lv_at hl 4 rfl) ?_
        refine kl_26 hx hb hK hV hw.1 d_M_end_116 ?_
        have hw := hw.2
        refine lv_if_eq (tgt := 209) hx hb d_M_end_117 rfl (fun hc => ?_) (fun hc => ?_)
        · have hw := hw.1 hc
          obtain ⟨y4, ey4⟩ : ∃ z : Int32, z = v5 + (1 : Int32) := ⟨_, rfl⟩
          have hw := hw y4 ey4
          refine lv_iinc (k := 4) (v := y4) (lv' := [(5, .int y4), (0, .ref (ea E 20 0)), (1, .int x1), (3, .int v3), (4, .int v4)]) hx hb d_M_end_209 hl rfl (by rw [ey4]; rfl) (by decide) rfl (fun ls hl => ?_)
          refine lv_goto (tgt := 103) hx hb d_M_end_212 rfl ?_
          exact ih _ _ _ s0 v3 v4 y4 (lv_sub hl [1, 2, 3, 4, 0] rfl) hV hw
        · have hw := hw.2 hc
          refine lv_aload_n hx hb d_M_end_120 rfl (lv_at hl 0 rfl) ?_
          refine kg_M_M_parent hx hb hG hown hK hV d_M_end_121 ?_
          refine lv_iload hx hb d_M_end_124 (lv_at hl 4 rfl) ?_
          refine kl_32 hx hb hK hV hw.1 d_M_end_126 ?_
          have hw := hw.2
          refine lv_iload_n hx hb d_M_end_127 rfl (lv_at hl 1 rfl) ?_
          refine lv_icmp_ne (tgt := 209) hx hb d_M_end_128 rfl (fun hc => ?_) (fun hc => ?_)
          · have hw := hw.1 hc
            obtain ⟨y5, ey5⟩ : ∃ z : Int32, z = v5 + (1 : Int32) := ⟨_, rfl⟩
            have hw := hw y5 ey5
            refine lv_iinc (k := 4) (v := y5) (lv' := [(5, .int y5), (0, .ref (ea E 20 0)), (1, .int x1), (3, .int v3), (4, .int v4)]) hx hb d_M_end_209 hl rfl (by rw [ey5]; rfl) (by decide) rfl (fun ls hl => ?_)
            refine lv_goto (tgt := 103) hx hb d_M_end_212 rfl ?_
            exact ih _ _ _ s0 v3 v4 y5 (lv_sub hl [1, 2, 3, 4, 0] rfl) hV hw
          · have hw := hw.2 hc
            refine lv_aload_n hx hb d_M_end_131 rfl (lv_at hl 0 rfl) ?_
            refine kg_M_M_parent hx hb hG hown hK hV d_M_end_132 ?_
            refine lv_iload hx hb d_M_end_135 (lv_at hl 4 rfl) ?_
            refine lv_iload_n hx hb d_M_end_137 rfl (lv_at hl 2 rfl) ?_
            refine lv_if_eq (tgt := 145) hx hb d_M_end_138 rfl (fun hc => ?_) (fun hc => ?_)
            · have hw := hw.1 hc
              refine lv_iconst (v := -1) hx hb d_M_end_145 (by decide) ?_
              exact J146 _ ih _ _ _ s0 v3 v4 v5 (-1 : Int32) v5 (lv_sub hl [0, 1, 2, 3, 4] rfl) hV hw
            · have hw := hw.2 hc
              refine lv_iconst (v := 0) hx hb d_M_end_141 (by decide) ?_
              refine lv_goto (tgt := 146) hx hb d_M_end_142 rfl ?_
              exact J146 _ ih _ _ _ s0 v3 v4 v5 (0 : Int32) v5 (lv_sub hl [0, 1, 2, 3, 4] rfl) hV hw
  have L49 : ∀ (n : Nat), ∀ (ls : Array Slot) (H : Heap) (locs : List Loc) (s0 : KS) (v3 : Int32), lv_has ls 6 [(0, .ref (ea E 20 0)), (1, .int x1), (3, .int v3)] → gV E MM A s0 s H locs → w_M_end_49 x1 x2 Φ n v3 s0 → W p l e m_M_end s m ([.ref (ea E 20 0), .int x1, .int x2] : List Value).toArray below meth c H locs 0 0 (MQ below (gQv E MM A Φ) ([.ref (ea E 20 0), .int x1, .int x2] : List Value).toArray s 0 0 A) (F0 m 49 ls []) := by
    intro n
    induction n with
    | zero =>
      intro ls H locs s0 v3 hl hV hw
      exact False.elim hw
    | succ n ih =>
      intro ls H locs s0 v3 hl hV hw
      unfold w_M_end_49 at hw
      refine lv_iload_n hx hb d_M_end_49 rfl (lv_at hl 2 rfl) ?_
      refine lv_bipush (v := 8) hx hb d_M_end_50 (by decide) ?_
      refine lv_icmp_ge (tgt := 67) hx hb d_M_end_52 rfl (fun hc => ?_) (fun hc => ?_)
      · have hw := hw.1 hc
        refine lv_iload_n hx hb d_M_end_67 rfl (lv_at hl 1 rfl) ?_
        refine lv_if_eq (tgt := 95) hx hb d_M_end_68 rfl (fun hc => ?_) (fun hc => ?_)
        · have hw := hw.1 hc
          refine lv_iconst (v := 0) hx hb d_M_end_95 (by decide) ?_
          refine lv_istore_n (lv' := [(3, .int (0 : Int32)), (0, .ref (ea E 20 0)), (1, .int x1)]) hx hb d_M_end_96 rfl hl (by decide) rfl (fun ls hl => ?_)
          refine lv_iconst (v := 0) hx hb d_M_end_97 (by decide) ?_
          refine lv_istore (lv' := [(4, .int (0 : Int32)), (3, .int (0 : Int32)), (0, .ref (ea E 20 0)), (1, .int x1)]) hx hb d_M_end_98 hl (by decide) rfl (fun ls hl => ?_)
          refine lv_iconst (v := 0) hx hb d_M_end_100 (by decide) ?_
          refine lv_istore (lv' := [(5, .int (0 : Int32)), (4, .int (0 : Int32)), (3, .int (0 : Int32)), (0, .ref (ea E 20 0)), (1, .int x1)]) hx hb d_M_end_101 hl (by decide) rfl (fun ls hl => ?_)
          obtain ⟨nn, hw⟩ := hw
          exact L103 nn _ _ _ s0 (0 : Int32) (0 : Int32) (0 : Int32) (lv_sub hl [3, 4, 2, 1, 0] rfl) hV hw
        · have hw := hw.2 hc
          refine lv_aload_n hx hb d_M_end_71 rfl (lv_at hl 0 rfl) ?_
          refine kg_M_M_state hx hb hG hown hK hV d_M_end_72 ?_
          refine lv_iconst (v := 0) hx hb d_M_end_75 (by decide) ?_
          refine kl_26 hx hb hK hV hw.1 d_M_end_76 ?_
          have hw := hw.2
          refine lv_if_eq (tgt := 95) hx hb d_M_end_77 rfl (fun hc => ?_) (fun hc => ?_)
          · have hw := hw.1 hc
            refine lv_iconst (v := 0) hx hb d_M_end_95 (by decide) ?_
            refine lv_istore_n (lv' := [(3, .int (0 : Int32)), (0, .ref (ea E 20 0)), (1, .int x1)]) hx hb d_M_end_96 rfl hl (by decide) rfl (fun ls hl => ?_)
            refine lv_iconst (v := 0) hx hb d_M_end_97 (by decide) ?_
            refine lv_istore (lv' := [(4, .int (0 : Int32)), (3, .int (0 : Int32)), (0, .ref (ea E 20 0)), (1, .int x1)]) hx hb d_M_end_98 hl (by decide) rfl (fun ls hl => ?_)
            refine lv_iconst (v := 0) hx hb d_M_end_100 (by decide) ?_
            refine lv_istore (lv' := [(5, .int (0 : Int32)), (4, .int (0 : Int32)), (3, .int (0 : Int32)), (0, .ref (ea E 20 0)), (1, .int x1)]) hx hb d_M_end_101 hl (by decide) rfl (fun ls hl => ?_)
            obtain ⟨nn, hw⟩ := hw
            exact L103 nn _ _ _ s0 (0 : Int32) (0 : Int32) (0 : Int32) (lv_sub hl [3, 4, 2, 1, 0] rfl) hV hw
          · have hw := hw.2 hc
            refine lv_aload_n hx hb d_M_end_80 rfl (lv_at hl 0 rfl) ?_
            refine kg_M_M_state hx hb hG hown hK hV d_M_end_81 ?_
            refine lv_iconst (v := 0) hx hb d_M_end_84 (by decide) ?_
            refine kl_26 hx hb hK hV hw.1 d_M_end_85 ?_
            have hw := hw.2
            refine lv_bipush (v := 6) hx hb d_M_end_86 (by decide) ?_
            refine lv_icmp_eq (tgt := 95) hx hb d_M_end_88 rfl (fun hc => ?_) (fun hc => ?_)
            · have hw := hw.1 hc
              refine lv_iconst (v := 0) hx hb d_M_end_95 (by decide) ?_
              refine lv_istore_n (lv' := [(3, .int (0 : Int32)), (0, .ref (ea E 20 0)), (1, .int x1)]) hx hb d_M_end_96 rfl hl (by decide) rfl (fun ls hl => ?_)
              refine lv_iconst (v := 0) hx hb d_M_end_97 (by decide) ?_
              refine lv_istore (lv' := [(4, .int (0 : Int32)), (3, .int (0 : Int32)), (0, .ref (ea E 20 0)), (1, .int x1)]) hx hb d_M_end_98 hl (by decide) rfl (fun ls hl => ?_)
              refine lv_iconst (v := 0) hx hb d_M_end_100 (by decide) ?_
              refine lv_istore (lv' := [(5, .int (0 : Int32)), (4, .int (0 : Int32)), (3, .int (0 : Int32)), (0, .ref (ea E 20 0)), (1, .int x1)]) hx hb d_M_end_101 hl (by decide) rfl (fun ls hl => ?_)
              obtain ⟨nn, hw⟩ := hw
              exact L103 nn _ _ _ s0 (0 : Int32) (0 : Int32) (0 : Int32) (lv_sub hl [3, 4, 2, 1, 0] rfl) hV hw
            · have hw := hw.2 hc
              refine lv_iconst (v := 1) hx hb d_M_end_91 (by decide) ?_
              refine lv_goto (tgt := 96) hx hb d_M_end_92 rfl ?_
              refine lv_istore_n (lv' := [(3, .int (1 : Int32)), (0, .ref (ea E 20 0)), (1, .int x1)]) hx hb d_M_end_96 rfl hl (by decide) rfl (fun ls hl => ?_)
              refine lv_iconst (v := 0) hx hb d_M_end_97 (by decide) ?_
              refine lv_istore (lv' := [(4, .int (0 : Int32)), (3, .int (1 : Int32)), (0, .ref (ea E 20 0)), (1, .int x1)]) hx hb d_M_end_98 hl (by decide) rfl (fun ls hl => ?_)
              refine lv_iconst (v := 0) hx hb d_M_end_100 (by decide) ?_
              refine lv_istore (lv' := [(5, .int (0 : Int32)), (4, .int (0 : Int32)), (3, .int (1 : Int32)), (0, .ref (ea E 20 0)), (1, .int x1)]) hx hb d_M_end_101 hl (by decide) rfl (fun ls hl => ?_)
              obtain ⟨nn, hw⟩ := hw
              exact L103 nn _ _ _ s0 (1 : Int32) (0 : Int32) (0 : Int32) (lv_sub hl [3, 4, 2, 1, 0] rfl) hV hw
      · have hw := hw.2 hc
        refine lv_aload_n hx hb d_M_end_55 rfl (lv_at hl 0 rfl) ?_
        refine lv_iload_n hx hb d_M_end_56 rfl (lv_at hl 1 rfl) ?_
        refine lv_iload_n hx hb d_M_end_57 rfl (lv_at hl 2 rfl) ?_
        refine kc_M_M_shutEnd hx hb hml hown hts hV hK hX hAe (c_M_shutEnd l E s0 x1 v3 _ hw) hl.1 (Nat.le_of_ble_eq_true rfl) d_M_end_58 (Nat.le_of_ble_eq_true rfl) (Nat.le_of_ble_eq_true rfl) (fun s1 H locs hw hV => ?_)
        obtain ⟨y2, ey2⟩ : ∃ z : Int32, z = v3 + (1 : Int32) := ⟨_, rfl⟩
        have hw := hw y2 ey2
        refine lv_iinc (k := 2) (v := y2) (lv' := [(3, .int y2), (0, .ref (ea E 20 0)), (1, .int x1)]) hx hb d_M_end_61 hl rfl (by rw [ey2]; rfl) (by decide) rfl (fun ls hl => ?_)
        refine lv_goto (tgt := 49) hx hb d_M_end_64 rfl ?_
        exact ih _ _ _ s1 y2 (lv_sub hl [1, 2, 0] rfl) hV hw
  have L7 : ∀ (n : Nat), ∀ (ls : Array Slot) (H : Heap) (locs : List Loc) (s0 : KS) (v3 : Int32), lv_has ls 6 [(0, .ref (ea E 20 0)), (1, .int x1), (2, .int x2), (3, .int v3)] → gV E MM A s0 s H locs → w_M_end_7 x1 x2 Φ n v3 s0 → W p l e m_M_end s m ([.ref (ea E 20 0), .int x1, .int x2] : List Value).toArray below meth c H locs 0 0 (MQ below (gQv E MM A Φ) ([.ref (ea E 20 0), .int x1, .int x2] : List Value).toArray s 0 0 A) (F0 m 7 ls []) := by
    intro n
    induction n with
    | zero =>
      intro ls H locs s0 v3 hl hV hw
      exact False.elim hw
    | succ n ih =>
      intro ls H locs s0 v3 hl hV hw
      unfold w_M_end_7 at hw
      refine lv_iload_n hx hb d_M_end_7 rfl (lv_at hl 3 rfl) ?_
      refine lv_bipush (v := 17) hx hb d_M_end_8 (by decide) ?_
      refine lv_icmp_ge (tgt := 25) hx hb d_M_end_10 rfl (fun hc => ?_) (fun hc => ?_)
      · have hw := hw.1 hc
        refine lv_aload_n hx hb d_M_end_25 rfl (lv_at hl 0 rfl) ?_
        refine kg_M_M_state hx hb hG hown hK hV d_M_end_26 ?_
        refine lv_iload_n hx hb d_M_end_29 rfl (lv_at hl 1 rfl) ?_
        refine lv_bipush (v := 6) hx hb d_M_end_30 (by decide) ?_
        refine ks_26 hx hb hK hV hw.1 d_M_end_32 (fun s1 H locs es1 hV => ?_)
        have hw := hw.2 s1 es1
        refine lv_aload_n hx hb d_M_end_33 rfl (lv_at hl 0 rfl) ?_
        refine kg_M_M_codes hx hb hG hown hK hV d_M_end_34 ?_
        refine lv_iload_n hx hb d_M_end_37 rfl (lv_at hl 1 rfl) ?_
        refine lv_iload_n hx hb d_M_end_38 rfl (lv_at hl 2 rfl) ?_
        refine ks_33 hx hb hK hV hw.1 d_M_end_39 (fun s2 H locs es2 hV => ?_)
        have hw := hw.2 s2 es2
        refine lv_aload_n hx hb d_M_end_40 rfl (lv_at hl 0 rfl) ?_
        refine kg_M_M_until hx hb hG hown hK hV d_M_end_41 ?_
        refine lv_iload_n hx hb d_M_end_44 rfl (lv_at hl 1 rfl) ?_
        refine lv_iconst (v := 0) hx hb d_M_end_45 (by decide) ?_
        refine ks_34 hx hb hK hV hw.1 d_M_end_46 (fun s3 H locs es3 hV => ?_)
        have hw := hw.2 s3 es3
        refine lv_iconst (v := 0) hx hb d_M_end_47 (by decide) ?_
        refine lv_istore_n (lv' := [(3, .int (0 : Int32)), (0, .ref (ea E 20 0)), (1, .int x1), (2, .int x2)]) hx hb d_M_end_48 rfl hl (by decide) rfl (fun ls hl => ?_)
        obtain ⟨nn, hw⟩ := hw
        exact L49 nn _ _ _ s3 (0 : Int32) (lv_sub hl [1, 2, 0] rfl) hV hw
      · have hw := hw.2 hc
        refine lv_aload_n hx hb d_M_end_13 rfl (lv_at hl 0 rfl) ?_
        refine lv_iload_n hx hb d_M_end_14 rfl (lv_at hl 3 rfl) ?_
        refine lv_iload_n hx hb d_M_end_15 rfl (lv_at hl 1 rfl) ?_
        refine kc_M_M_leaveRow hx hb hml hown hts hV hK hX hAe (c_M_leaveRow l E s0 v3 x1 _ hw) hl.1 (Nat.le_of_ble_eq_true rfl) d_M_end_16 (Nat.le_of_ble_eq_true rfl) (Nat.le_of_ble_eq_true rfl) (fun s4 H locs hw hV => ?_)
        obtain ⟨y5, ey5⟩ : ∃ z : Int32, z = v3 + (1 : Int32) := ⟨_, rfl⟩
        have hw := hw y5 ey5
        refine lv_iinc (k := 3) (v := y5) (lv' := [(3, .int y5), (0, .ref (ea E 20 0)), (1, .int x1), (2, .int x2)]) hx hb d_M_end_19 hl rfl (by rw [ey5]; rfl) (by decide) rfl (fun ls hl => ?_)
        refine lv_goto (tgt := 7) hx hb d_M_end_22 rfl ?_
        exact ih _ _ _ s4 y5 (lv_sub hl [1, 2, 3, 0] rfl) hV hw
  unfold w_M_end at hw
  refine lv_aload_n hx hb d_M_end_0 rfl (lv_at hl 0 rfl) ?_
  refine lv_iload_n hx hb d_M_end_1 rfl (lv_at hl 1 rfl) ?_
  refine kc_M_M_leaveQueue hx hb hml hown hts hV hK hX hAe (c_M_leaveQueue l E s0 x1 _ hw) hl.1 (Nat.le_of_ble_eq_true rfl) d_M_end_2 (Nat.le_of_ble_eq_true rfl) (Nat.le_of_ble_eq_true rfl) (fun s1 H locs hw hV => ?_)
  refine lv_iconst (v := 0) hx hb d_M_end_5 (by decide) ?_
  refine lv_istore_n (lv' := [(3, .int (0 : Int32)), (0, .ref (ea E 20 0)), (1, .int x1), (2, .int x2)]) hx hb d_M_end_6 rfl hl (by decide) rfl (fun ls hl => ?_)
  obtain ⟨nn, hw⟩ := hw
  exact L7 nn _ _ _ s1 (0 : Int32) (lv_sub hl [1, 2, 3, 0] rfl) hV hw
theorem d_M_top_0 : decode b_M_top 0 = .ok (.aload_n 0, 1) := by decide +kernel
theorem d_M_top_1 : decode b_M_top 1 = .ok (.getfield 19, 3) := by decide +kernel
theorem d_M_top_4 : decode b_M_top 4 = .ok (.bipush 64, 2) := by decide +kernel
theorem d_M_top_6 : decode b_M_top 6 = .ok (.iload_n 1, 1) := by decide +kernel
theorem d_M_top_7 : decode b_M_top 7 = .ok (.imul, 1) := by decide +kernel
theorem d_M_top_8 : decode b_M_top 8 = .ok (.aload_n 0, 1) := by decide +kernel
theorem d_M_top_9 : decode b_M_top 9 = .ok (.getfield 22, 3) := by decide +kernel
theorem d_M_top_12 : decode b_M_top 12 = .ok (.iload_n 1, 1) := by decide +kernel
theorem d_M_top_13 : decode b_M_top 13 = .ok (.iaload, 1) := by decide +kernel
theorem d_M_top_14 : decode b_M_top 14 = .ok (.iadd, 1) := by decide +kernel
theorem d_M_top_15 : decode b_M_top 15 = .ok (.iconst 1, 1) := by decide +kernel
theorem d_M_top_16 : decode b_M_top 16 = .ok (.isub, 1) := by decide +kernel
theorem d_M_top_17 : decode b_M_top 17 = .ok (.iload_n 2, 1) := by decide +kernel
theorem d_M_top_18 : decode b_M_top 18 = .ok (.isub, 1) := by decide +kernel
theorem d_M_top_19 : decode b_M_top 19 = .ok (.iaload, 1) := by decide +kernel
theorem d_M_top_20 : decode b_M_top 20 = .ok (.ireturn, 1) := by decide +kernel
def w_M_top (x1 : Int32) (x2 : Int32) (s0 : KS) (Φ : Int32 → KS → Prop) : Prop := vp_in x1 16 ∧ vp_in (((((64 : Int32) * x1) + (s0 29 0 x1.toNatClampNeg)) - (1 : Int32)) - x2) 1024 ∧ Φ (s0 28 0 (((((64 : Int32) * x1) + (s0 29 0 x1.toNatClampNeg)) - (1 : Int32)) - x2).toNatClampNeg) s0
set_option maxHeartbeats 4000000 in
set_option maxRecDepth 100000 in
theorem c_M_top (l : Launch) (E : gE) (s0 : KS) (x1 : Int32) (x2 : Int32) (Φ : Int32 → KS → Prop) (hw : w_M_top x1 x2 s0 Φ) : gMi l y_M_top v_M_top m_M_top E MM [.ref (ea E 20 0), .int x1, .int x2] s0 Φ := by
  intro sz
  refine Met.ofW (cc := b_M_top) (maxL := 3) (ret := (some .int)) (by decide) rfl ?_
  intro p e s m args below meth c s₁ B hml hv
  obtain ⟨rfl, hsz, hP, hK, hD, hX⟩ := hv
  have hx := B.exec
  have hb := B.bytes
  have hr := B.returns
  have hts := atoms_spec (ws := v_M_top) B.pre
  have hG : ∀ w ∈ gG, w.before _ s = true := fun w h => hts w (List.mem_cons_of_mem _ h)
  have hown : s.vm.findClass R_M = some m.cls := findClass_of_methodNamed B.named
  have hlocks := B.notSynchronized
  subst hsz
  obtain ⟨A, hAe⟩ : ∃ A, A = gA E MM s.heap.size := ⟨_, rfl⟩
  rw [← hAe] at hD hX ⊢
  have hV : gV E MM A s0 s s.heap [] := ⟨hP, hD, va_S.rf⟩
  have hl := lv_entry ([.ref (ea E 20 0), .int x1, .int x2] : List Value) (n := 3) (Nat.le_of_ble_eq_true rfl)
  rw [lg_entry_eq]
  generalize (lg_sl ([.ref (ea E 20 0), .int x1, .int x2] : List Value) ++ List.replicate (3 - (lg_sl ([.ref (ea E 20 0), .int x1, .int x2] : List Value)).length) Slot.unset).toArray = ls at hl ⊢
  have hl : lv_has ls 3 [(0, .ref (ea E 20 0)), (1, .int x1), (2, .int x2)] := hl
  unfold w_M_top at hw
  refine lv_aload_n hx hb d_M_top_0 rfl (lv_at hl 0 rfl) ?_
  refine kg_M_M_stack hx hb hG hown hK hV d_M_top_1 ?_
  refine lv_bipush (v := 64) hx hb d_M_top_4 (by decide) ?_
  refine lv_iload_n hx hb d_M_top_6 rfl (lv_at hl 1 rfl) ?_
  refine lv_imul hx hb d_M_top_7 ?_
  refine lv_aload_n hx hb d_M_top_8 rfl (lv_at hl 0 rfl) ?_
  refine kg_M_M_size hx hb hG hown hK hV d_M_top_9 ?_
  refine lv_iload_n hx hb d_M_top_12 rfl (lv_at hl 1 rfl) ?_
  refine kl_29 hx hb hK hV hw.1 d_M_top_13 ?_
  have hw := hw.2
  refine lv_iadd hx hb d_M_top_14 ?_
  refine lv_iconst (v := 1) hx hb d_M_top_15 (by decide) ?_
  refine lv_isub hx hb d_M_top_16 ?_
  refine lv_iload_n hx hb d_M_top_17 rfl (lv_at hl 2 rfl) ?_
  refine lv_isub hx hb d_M_top_18 ?_
  refine kl_28 hx hb hK hV hw.1 d_M_top_19 ?_
  have hw := hw.2
  exact kr_i hx hb hr hV hK hX hAe hw d_M_top_20

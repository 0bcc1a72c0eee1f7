theorem d_I_bitCount_0 : decode b_I_bitCount 0 = .ok (.iload_n 0, 1) := by decide +kernel
theorem d_I_bitCount_1 : decode b_I_bitCount 1 = .ok (.iload_n 0, 1) := by decide +kernel
theorem d_I_bitCount_2 : decode b_I_bitCount 2 = .ok (.iconst 1, 1) := by decide +kernel
theorem d_I_bitCount_3 : decode b_I_bitCount 3 = .ok (.iushr, 1) := by decide +kernel
theorem d_I_bitCount_4 : decode b_I_bitCount 4 = .ok (.ldc_w 265, 3) := by decide +kernel
theorem d_I_bitCount_7 : decode b_I_bitCount 7 = .ok (.iand, 1) := by decide +kernel
theorem d_I_bitCount_8 : decode b_I_bitCount 8 = .ok (.isub, 1) := by decide +kernel
theorem d_I_bitCount_9 : decode b_I_bitCount 9 = .ok (.istore_n 0, 1) := by decide +kernel
theorem d_I_bitCount_10 : decode b_I_bitCount 10 = .ok (.iload_n 0, 1) := by decide +kernel
theorem d_I_bitCount_11 : decode b_I_bitCount 11 = .ok (.ldc_w 266, 3) := by decide +kernel
theorem d_I_bitCount_14 : decode b_I_bitCount 14 = .ok (.iand, 1) := by decide +kernel
theorem d_I_bitCount_15 : decode b_I_bitCount 15 = .ok (.iload_n 0, 1) := by decide +kernel
theorem d_I_bitCount_16 : decode b_I_bitCount 16 = .ok (.iconst 2, 1) := by decide +kernel
theorem d_I_bitCount_17 : decode b_I_bitCount 17 = .ok (.iushr, 1) := by decide +kernel
theorem d_I_bitCount_18 : decode b_I_bitCount 18 = .ok (.ldc_w 266, 3) := by decide +kernel
theorem d_I_bitCount_21 : decode b_I_bitCount 21 = .ok (.iand, 1) := by decide +kernel
theorem d_I_bitCount_22 : decode b_I_bitCount 22 = .ok (.iadd, 1) := by decide +kernel
theorem d_I_bitCount_23 : decode b_I_bitCount 23 = .ok (.istore_n 0, 1) := by decide +kernel
theorem d_I_bitCount_24 : decode b_I_bitCount 24 = .ok (.iload_n 0, 1) := by decide +kernel
theorem d_I_bitCount_25 : decode b_I_bitCount 25 = .ok (.iload_n 0, 1) := by decide +kernel
theorem d_I_bitCount_26 : decode b_I_bitCount 26 = .ok (.iconst 4, 1) := by decide +kernel
theorem d_I_bitCount_27 : decode b_I_bitCount 27 = .ok (.iushr, 1) := by decide +kernel
theorem d_I_bitCount_28 : decode b_I_bitCount 28 = .ok (.iadd, 1) := by decide +kernel
theorem d_I_bitCount_29 : decode b_I_bitCount 29 = .ok (.ldc_w 267, 3) := by decide +kernel
theorem d_I_bitCount_32 : decode b_I_bitCount 32 = .ok (.iand, 1) := by decide +kernel
theorem d_I_bitCount_33 : decode b_I_bitCount 33 = .ok (.istore_n 0, 1) := by decide +kernel
theorem d_I_bitCount_34 : decode b_I_bitCount 34 = .ok (.iload_n 0, 1) := by decide +kernel
theorem d_I_bitCount_35 : decode b_I_bitCount 35 = .ok (.iload_n 0, 1) := by decide +kernel
theorem d_I_bitCount_36 : decode b_I_bitCount 36 = .ok (.bipush 8, 2) := by decide +kernel
theorem d_I_bitCount_38 : decode b_I_bitCount 38 = .ok (.iushr, 1) := by decide +kernel
theorem d_I_bitCount_39 : decode b_I_bitCount 39 = .ok (.iadd, 1) := by decide +kernel
theorem d_I_bitCount_40 : decode b_I_bitCount 40 = .ok (.istore_n 0, 1) := by decide +kernel
theorem d_I_bitCount_41 : decode b_I_bitCount 41 = .ok (.iload_n 0, 1) := by decide +kernel
theorem d_I_bitCount_42 : decode b_I_bitCount 42 = .ok (.iload_n 0, 1) := by decide +kernel
theorem d_I_bitCount_43 : decode b_I_bitCount 43 = .ok (.bipush 16, 2) := by decide +kernel
theorem d_I_bitCount_45 : decode b_I_bitCount 45 = .ok (.iushr, 1) := by decide +kernel
theorem d_I_bitCount_46 : decode b_I_bitCount 46 = .ok (.iadd, 1) := by decide +kernel
theorem d_I_bitCount_47 : decode b_I_bitCount 47 = .ok (.istore_n 0, 1) := by decide +kernel
theorem d_I_bitCount_48 : decode b_I_bitCount 48 = .ok (.iload_n 0, 1) := by decide +kernel
theorem d_I_bitCount_49 : decode b_I_bitCount 49 = .ok (.bipush 63, 2) := by decide +kernel
theorem d_I_bitCount_51 : decode b_I_bitCount 51 = .ok (.iand, 1) := by decide +kernel
theorem d_I_bitCount_52 : decode b_I_bitCount 52 = .ok (.ireturn, 1) := by decide +kernel
def w_I_bitCount (cp : Nat) (x0 : Int32) (s0 : KS) (Φ : Int32 → KS → Prop) : Prop := ∀ y1 : Int32, y1 = x0 - (((x0.toUInt32 >>> ((1 : Int32).toUInt32 &&& Int32.toUInt32 31)).toInt32) &&& (1431655765 : Int32)) → ∀ y2 : Int32, y2 = (y1 &&& (858993459 : Int32)) + (((y1.toUInt32 >>> ((2 : Int32).toUInt32 &&& Int32.toUInt32 31)).toInt32) &&& (858993459 : Int32)) → ∀ y3 : Int32, y3 = (y2 + ((y2.toUInt32 >>> ((4 : Int32).toUInt32 &&& Int32.toUInt32 31)).toInt32)) &&& (252645135 : Int32) → ∀ y4 : Int32, y4 = y3 + ((y3.toUInt32 >>> ((8 : Int32).toUInt32 &&& Int32.toUInt32 31)).toInt32) → ∀ y5 : Int32, y5 = y4 + ((y4.toUInt32 >>> ((16 : Int32).toUInt32 &&& Int32.toUInt32 31)).toInt32) → Φ (y5 &&& (63 : Int32)) s0
set_option maxHeartbeats 4000000 in
set_option maxRecDepth 100000 in
theorem c_I_bitCount (l : Launch) (E : gE) (s0 : KS) (x0 : Int32) (Φ : Int32 → KS → Prop) (hw : w_I_bitCount (eN E) x0 s0 Φ) : gMi l y_I_bitCount v_I_bitCount m_I_bitCount E KK [.int x0] s0 Φ := by
  intro sz
  refine Met.ofW (cc := b_I_bitCount) (maxL := 1) (ret := (some .int)) (by decide) rfl ?_
  intro p e s m args below meth c s₁ B hml hv
  obtain ⟨rfl, hsz, hP, hK, hD, hX⟩ := hv
  have hx := B.exec
  have hb := B.bytes
  have hr := B.returns
  have hts := atoms_spec (ws := v_I_bitCount) B.pre
  have hG : ∀ w ∈ gG, w.before _ s = true := fun w h => hts w (List.mem_cons_of_mem _ h)
  have hown : s.vm.findClass R_I = some m.cls := findClass_of_methodNamed B.named
  have hlocks := B.notSynchronized
  subst hsz
  obtain ⟨A, hAe⟩ : ∃ A, A = gA E KK s.heap.size := ⟨_, rfl⟩
  rw [← hAe] at hD hX ⊢
  have hV : gV E KK A s0 s s.heap [] := ⟨hP, hD, va_S.rf⟩
  have hl := lv_entry ([.int x0] : List Value) (n := 1) (Nat.le_of_ble_eq_true rfl)
  rw [lg_entry_eq]
  generalize (lg_sl ([.int x0] : List Value) ++ List.replicate (1 - (lg_sl ([.int x0] : List Value)).length) Slot.unset).toArray = ls at hl ⊢
  have hl : lv_has ls 1 [(0, .int x0)] := hl
  unfold w_I_bitCount at hw
  refine lv_iload_n hx hb d_I_bitCount_0 rfl (lv_at hl 0 rfl) ?_
  refine lv_iload_n hx hb d_I_bitCount_1 rfl (lv_at hl 0 rfl) ?_
  refine lv_iconst (v := 1) hx hb d_I_bitCount_2 (by decide) ?_
  refine lv_iushr hx hb d_I_bitCount_3 rfl ?_
  refine lv_ldcw hx hb hown (hG _ gm_582) d_I_bitCount_4 ?_
  refine lv_iand hx hb d_I_bitCount_7 ?_
  refine lv_isub hx hb d_I_bitCount_8 ?_
  refine lv_topi (fun y1 ey1 => ?_)
  have hw := hw y1 ey1
  refine lv_istore_n (lv' := [(0, .int y1)]) hx hb d_I_bitCount_9 rfl hl (by decide) rfl (fun ls hl => ?_)
  refine lv_iload_n hx hb d_I_bitCount_10 rfl (lv_at hl 0 rfl) ?_
  refine lv_ldcw hx hb hown (hG _ gm_583) d_I_bitCount_11 ?_
  refine lv_iand hx hb d_I_bitCount_14 ?_
  refine lv_iload_n hx hb d_I_bitCount_15 rfl (lv_at hl 0 rfl) ?_
  refine lv_iconst (v := 2) hx hb d_I_bitCount_16 (by decide) ?_
  refine lv_iushr hx hb d_I_bitCount_17 rfl ?_
  refine lv_ldcw hx hb hown (hG _ gm_583) d_I_bitCount_18 ?_
  refine lv_iand hx hb d_I_bitCount_21 ?_
  refine lv_iadd hx hb d_I_bitCount_22 ?_
  refine lv_topi (fun y2 ey2 => ?_)
  have hw := hw y2 ey2
  refine lv_istore_n (lv' := [(0, .int y2)]) hx hb d_I_bitCount_23 rfl hl (by decide) rfl (fun ls hl => ?_)
  refine lv_iload_n hx hb d_I_bitCount_24 rfl (lv_at hl 0 rfl) ?_
  refine lv_iload_n hx hb d_I_bitCount_25 rfl (lv_at hl 0 rfl) ?_
  refine lv_iconst (v := 4) hx hb d_I_bitCount_26 (by decide) ?_
  refine lv_iushr hx hb d_I_bitCount_27 rfl ?_
  refine lv_iadd hx hb d_I_bitCount_28 ?_
  refine lv_ldcw hx hb hown (hG _ gm_584) d_I_bitCount_29 ?_
  refine lv_iand hx hb d_I_bitCount_32 ?_
  refine lv_topi (fun y3 ey3 => ?_)
  have hw := hw y3 ey3
  refine lv_istore_n (lv' := [(0, .int y3)]) hx hb d_I_bitCount_33 rfl hl (by decide) rfl (fun ls hl => ?_)
  refine lv_iload_n hx hb d_I_bitCount_34 rfl (lv_at hl 0 rfl) ?_
  refine lv_iload_n hx hb d_I_bitCount_35 rfl (lv_at hl 0 rfl) ?_
  refine lv_bipush (v := 8) hx hb d_I_bitCount_36 (by decide) ?_
  refine lv_iushr hx hb d_I_bitCount_38 rfl ?_
  refine lv_iadd hx hb d_I_bitCount_39 ?_
  refine lv_topi (fun y4 ey4 => ?_)
  have hw := hw y4 ey4
  refine lv_istore_n (lv' := [(0, .int y4)]) hx hb d_I_bitCount_40 rfl hl (by decide) rfl (fun ls hl => ?_)
  refine lv_iload_n hx hb d_I_bitCount_41 rfl (lv_at hl 0 rfl) ?_
  refine lv_iload_n hx hb d_I_bitCount_42 rfl (lv_at hl 0 rfl) ?_
  refine lv_bipush (v := 16) hx hb d_I_bitCount_43 (by decide) ?_
  refine lv_iushr hx hb d_I_bitCount_45 rfl ?_
  refine lv_iadd hx hb d_I_bitCount_46 ?_
  refine lv_topi (fun y5 ey5 => ?_)
  have hw := hw y5 ey5
  refine lv_istore_n (lv' := [(0, .int y5)]) hx hb d_I_bitCount_47 rfl hl (by decide) rfl (fun ls hl => ?_)
  refine lv_iload_n hx hb d_I_bitCount_48 rfl (lv_at hl 0 rfl) ?_
  refine lv_bipush (v := 63) hx hb d_I_bitCount_49 (by decide) ?_
  refine lv_iand hx hb d_I_bitCount_51 ?_
  exact kr_i hx hb hr hV hK hX hAe hw d_I_bitCount_52
theorem d_W_isEmpty_0 : decode b_W_isEmpty 0 = .ok (.aload_n 0, 1) := by decide +kernel
theorem d_W_isEmpty_1 : decode b_W_isEmpty 1 = .ok (.getfield 13, 3) := by decide +kernel
theorem d_W_isEmpty_4 : decode b_W_isEmpty 4 = .ok (.ifCond .ne 7, 3) := by decide +kernel
theorem d_W_isEmpty_7 : decode b_W_isEmpty 7 = .ok (.iconst 1, 1) := by decide +kernel
theorem d_W_isEmpty_8 : decode b_W_isEmpty 8 = .ok (.goto 4, 3) := by decide +kernel
theorem d_W_isEmpty_11 : decode b_W_isEmpty 11 = .ok (.iconst 0, 1) := by decide +kernel
theorem d_W_isEmpty_12 : decode b_W_isEmpty 12 = .ok (.ireturn, 1) := by decide +kernel
def w_W_isEmpty (cp : Nat) (wi : Nat) (s0 : KS) (Φ : Int32 → KS → Prop) : Prop := ((¬ (s0 5 wi 2) = 0 → Φ (0 : Int32) s0) ∧ ((s0 5 wi 2) = 0 → Φ (1 : Int32) s0))
set_option maxHeartbeats 4000000 in
set_option maxRecDepth 100000 in
theorem c_W_isEmpty (l : Launch) (E : gE) (s0 : KS) (wi : Nat) (hwi : wi < 10) (Φ : Int32 → KS → Prop) (hw : w_W_isEmpty (eN E) wi s0 Φ) : gMi l y_W_isEmpty v_W_isEmpty m_W_isEmpty E KK [.ref (ea E 5 wi)] s0 Φ := by
  intro sz
  refine Met.ofW (cc := b_W_isEmpty) (maxL := 1) (ret := (some .boolean)) (by decide) rfl ?_
  intro p e s m args below meth c s₁ B hml hv
  obtain ⟨rfl, hsz, hP, hK, hD, hX⟩ := hv
  have hx := B.exec
  have hb := B.bytes
  have hr := B.returns
  have hts := atoms_spec (ws := v_W_isEmpty) B.pre
  have hG : ∀ w ∈ gG, w.before _ s = true := fun w h => hts w (List.mem_cons_of_mem _ h)
  have hown : s.vm.findClass R_W = some m.cls := findClass_of_methodNamed B.named
  have hlocks := B.notSynchronized
  subst hsz
  obtain ⟨A, hAe⟩ : ∃ A, A = gA E KK s.heap.size := ⟨_, rfl⟩
  rw [← hAe] at hD hX ⊢
  have hV : gV E KK A s0 s s.heap [] := ⟨hP, hD, va_S.rf⟩
  have hl := lv_entry ([.ref (ea E 5 wi)] : List Value) (n := 1) (Nat.le_of_ble_eq_true rfl)
  rw [lg_entry_eq]
  generalize (lg_sl ([.ref (ea E 5 wi)] : List Value) ++ List.replicate (1 - (lg_sl ([.ref (ea E 5 wi)] : List Value)).length) Slot.unset).toArray = ls at hl ⊢
  have hl : lv_has ls 1 [(0, .ref (ea E 5 wi))] := hl
  unfold w_W_isEmpty at hw
  refine lv_aload_n hx hb d_W_isEmpty_0 rfl (lv_at hl 0 rfl) ?_
  refine kg_W_W_count hx hb hG hown hK hV hwi d_W_isEmpty_1 ?_
  refine lv_if_ne (tgt := 11) hx hb d_W_isEmpty_4 rfl (fun hc => ?_) (fun hc => ?_)
  · have hw := hw.1 hc
    refine lv_iconst (v := 0) hx hb d_W_isEmpty_11 (by decide) ?_
    exact kr_z hx hb hr hV hK hX hAe (by decide) hw d_W_isEmpty_12
  · have hw := hw.2 hc
    refine lv_iconst (v := 1) hx hb d_W_isEmpty_7 (by decide) ?_
    refine lv_goto (tgt := 12) hx hb d_W_isEmpty_8 rfl ?_
    exact kr_z hx hb hr hV hK hX hAe (by decide) hw d_W_isEmpty_12
theorem d_W_isFull_0 : decode b_W_isFull 0 = .ok (.aload_n 0, 1) := by decide +kernel
theorem d_W_isFull_1 : decode b_W_isFull 1 = .ok (.getfield 13, 3) := by decide +kernel
theorem d_W_isFull_4 : decode b_W_isFull 4 = .ok (.aload_n 0, 1) := by decide +kernel
theorem d_W_isFull_5 : decode b_W_isFull 5 = .ok (.getfield 16, 3) := by decide +kernel
theorem d_W_isFull_8 : decode b_W_isFull 8 = .ok (.arraylength, 1) := by decide +kernel
theorem d_W_isFull_9 : decode b_W_isFull 9 = .ok (.if_icmp .ne 7, 3) := by decide +kernel
theorem d_W_isFull_12 : decode b_W_isFull 12 = .ok (.iconst 1, 1) := by decide +kernel
theorem d_W_isFull_13 : decode b_W_isFull 13 = .ok (.goto 4, 3) := by decide +kernel
theorem d_W_isFull_16 : decode b_W_isFull 16 = .ok (.iconst 0, 1) := by decide +kernel
theorem d_W_isFull_17 : decode b_W_isFull 17 = .ok (.ireturn, 1) := by decide +kernel
def w_W_isFull (cp : Nat) (wi : Nat) (s0 : KS) (Φ : Int32 → KS → Prop) : Prop := ((¬ (s0 5 wi 2) = (nI (aL cp 6 wi)) → Φ (0 : Int32) s0) ∧ ((s0 5 wi 2) = (nI (aL cp 6 wi)) → Φ (1 : Int32) s0))
set_option maxHeartbeats 4000000 in
set_option maxRecDepth 100000 in
theorem c_W_isFull (l : Launch) (E : gE) (s0 : KS) (wi : Nat) (hwi : wi < 10) (Φ : Int32 → KS → Prop) (hw : w_W_isFull (eN E) wi s0 Φ) : gMi l y_W_isFull v_W_isFull m_W_isFull E KK [.ref (ea E 5 wi)] s0 Φ := by
  intro sz
  refine Met.ofW (cc := b_W_isFull) (maxL := 1) (ret := (some .boolean)) (by decide) rfl ?_
  intro p e s m args below meth c s₁ B hml hv
  obtain ⟨rfl, hsz, hP, hK, hD, hX⟩ := hv
  have hx := B.exec
  have hb := B.bytes
  have hr := B.returns
  have hts := atoms_spec (ws := v_W_isFull) B.pre
  have hG : ∀ w ∈ gG, w.before _ s = true := fun w h => hts w (List.mem_cons_of_mem _ h)
  have hown : s.vm.findClass R_W = some m.cls := findClass_of_methodNamed B.named
  have hlocks := B.notSynchronized
  subst hsz
  obtain ⟨A, hAe⟩ : ∃ A, A = gA E KK s.heap.size := ⟨_, rfl⟩
  rw [← hAe] at hD hX ⊢
  have hV : gV E KK A s0 s s.heap [] := ⟨hP, hD, va_S.rf⟩
  have hl := lv_entry ([.ref (ea E 5 wi)] : List Value) (n := 1) (Nat.le_of_ble_eq_true rfl)
  rw [lg_entry_eq]
  generalize (lg_sl ([.ref (ea E 5 wi)] : List Value) ++ List.replicate (1 - (lg_sl ([.ref (ea E 5 wi)] : List Value)).length) Slot.unset).toArray = ls at hl ⊢
  have hl : lv_has ls 1 [(0, .ref (ea E 5 wi))] := hl
  unfold w_W_isFull at hw
  refine lv_aload_n hx hb d_W_isFull_0 rfl (lv_at hl 0 rfl) ?_
  refine kg_W_W_count hx hb hG hown hK hV hwi d_W_isFull_1 ?_
  refine lv_aload_n hx hb d_W_isFull_4 rfl (lv_at hl 0 rfl) ?_
  refine kg_W_W_words hx hb hG hown hK hV hwi d_W_isFull_5 ?_
  refine kn_6 hx hb hK hV hwi d_W_isFull_8 ?_
  refine lv_icmp_ne (tgt := 16) hx hb d_W_isFull_9 rfl (fun hc => ?_) (fun hc => ?_)
  · have hw := hw.1 hc
    refine lv_iconst (v := 0) hx hb d_W_isFull_16 (by decide) ?_
    exact kr_z hx hb hr hV hK hX hAe (by decide) hw d_W_isFull_17
  · have hw := hw.2 hc
    refine lv_iconst (v := 1) hx hb d_W_isFull_12 (by decide) ?_
    refine lv_goto (tgt := 17) hx hb d_W_isFull_13 rfl ?_
    exact kr_z hx hb hr hV hK hX hAe (by decide) hw d_W_isFull_17
theorem d_W_wrap_0 : decode b_W_wrap 0 = .ok (.iload_n 1, 1) := by decide +kernel
theorem d_W_wrap_1 : decode b_W_wrap 1 = .ok (.aload_n 0, 1) := by decide +kernel
theorem d_W_wrap_2 : decode b_W_wrap 2 = .ok (.getfield 16, 3) := by decide +kernel
theorem d_W_wrap_5 : decode b_W_wrap 5 = .ok (.arraylength, 1) := by decide +kernel
theorem d_W_wrap_6 : decode b_W_wrap 6 = .ok (.if_icmp .ge 7, 3) := by decide +kernel
theorem d_W_wrap_9 : decode b_W_wrap 9 = .ok (.iload_n 1, 1) := by decide +kernel
theorem d_W_wrap_10 : decode b_W_wrap 10 = .ok (.goto 10, 3) := by decide +kernel
theorem d_W_wrap_13 : decode b_W_wrap 13 = .ok (.iload_n 1, 1) := by decide +kernel
theorem d_W_wrap_14 : decode b_W_wrap 14 = .ok (.aload_n 0, 1) := by decide +kernel
theorem d_W_wrap_15 : decode b_W_wrap 15 = .ok (.getfield 16, 3) := by decide +kernel
theorem d_W_wrap_18 : decode b_W_wrap 18 = .ok (.arraylength, 1) := by decide +kernel
theorem d_W_wrap_19 : decode b_W_wrap 19 = .ok (.isub, 1) := by decide +kernel
theorem d_W_wrap_20 : decode b_W_wrap 20 = .ok (.ireturn, 1) := by decide +kernel
def w_W_wrap (cp : Nat) (wi : Nat) (x1 : Int32) (s0 : KS) (Φ : Int32 → KS → Prop) : Prop := (((nI (aL cp 6 wi)) ≤ x1 → Φ (x1 - (nI (aL cp 6 wi))) s0) ∧ (¬ (nI (aL cp 6 wi)) ≤ x1 → Φ x1 s0))
set_option maxHeartbeats 4000000 in
set_option maxRecDepth 100000 in
theorem c_W_wrap (l : Launch) (E : gE) (s0 : KS) (wi : Nat) (hwi : wi < 10) (x1 : Int32) (Φ : Int32 → KS → Prop) (hw : w_W_wrap (eN E) wi x1 s0 Φ) : gMi l y_W_wrap v_W_wrap m_W_wrap E KK [.ref (ea E 5 wi), .int x1] s0 Φ := by
  intro sz
  refine Met.ofW (cc := b_W_wrap) (maxL := 2) (ret := (some .int)) (by decide) rfl ?_
  intro p e s m args below meth c s₁ B hml hv
  obtain ⟨rfl, hsz, hP, hK, hD, hX⟩ := hv
  have hx := B.exec
  have hb := B.bytes
  have hr := B.returns
  have hts := atoms_spec (ws := v_W_wrap) B.pre
  have hG : ∀ w ∈ gG, w.before _ s = true := fun w h => hts w (List.mem_cons_of_mem _ h)
  have hown : s.vm.findClass R_W = some m.cls := findClass_of_methodNamed B.named
  have hlocks := B.notSynchronized
  subst hsz
  obtain ⟨A, hAe⟩ : ∃ A, A = gA E KK s.heap.size := ⟨_, rfl⟩
  rw [← hAe] at hD hX ⊢
  have hV : gV E KK A s0 s s.heap [] := ⟨hP, hD, va_S.rf⟩
  have hl := lv_entry ([.ref (ea E 5 wi), .int x1] : List Value) (n := 2) (Nat.le_of_ble_eq_true rfl)
  rw [lg_entry_eq]
  generalize (lg_sl ([.ref (ea E 5 wi), .int x1] : List Value) ++ List.replicate (2 - (lg_sl ([.ref (ea E 5 wi), .int x1] : List Value)).length) Slot.unset).toArray = ls at hl ⊢
  have hl : lv_has ls 2 [(0, .ref (ea E 5 wi)), (1, .int x1)] := hl
  unfold w_W_wrap at hw
  refine lv_iload_n hx hb d_W_wrap_0 rfl (lv_at hl 1 rfl) ?_
  refine lv_aload_n hx hb d_W_wrap_1 rfl (lv_at hl 0 rfl) ?_
  refine kg_W_W_words hx hb hG hown hK hV hwi d_W_wrap_2 ?_
  refine kn_6 hx hb hK hV hwi d_W_wrap_5 ?_
  refine lv_icmp_ge (tgt := 13) hx hb d_W_wrap_6 rfl (fun hc => ?_) (fun hc => ?_)
  · have hw := hw.1 hc
    refine lv_iload_n hx hb d_W_wrap_13 rfl (lv_at hl 1 rfl) ?_
    refine lv_aload_n hx hb d_W_wrap_14 rfl (lv_at hl 0 rfl) ?_
    refine kg_W_W_words hx hb hG hown hK hV hwi d_W_wrap_15 ?_
    refine kn_6 hx hb hK hV hwi d_W_wrap_18 ?_
    refine lv_isub hx hb d_W_wrap_19 ?_
    exact kr_i hx hb hr hV hK hX hAe hw d_W_wrap_20
  · have hw := hw.2 hc
    refine lv_iload_n hx hb d_W_wrap_9 rfl (lv_at hl 1 rfl) ?_
    refine lv_goto (tgt := 20) hx hb d_W_wrap_10 rfl ?_
    exact kr_i hx hb hr hV hK hX hAe hw d_W_wrap_20
theorem d_W_at_0 : decode b_W_at 0 = .ok (.aload_n 0, 1) := by decide +kernel
theorem d_W_at_1 : decode b_W_at 1 = .ok (.getfield 16, 3) := by decide +kernel
theorem d_W_at_4 : decode b_W_at 4 = .ok (.aload_n 0, 1) := by decide +kernel
theorem d_W_at_5 : decode b_W_at 5 = .ok (.aload_n 0, 1) := by decide +kernel
theorem d_W_at_6 : decode b_W_at 6 = .ok (.getfield 7, 3) := by decide +kernel
theorem d_W_at_9 : decode b_W_at 9 = .ok (.iload_n 1, 1) := by decide +kernel
theorem d_W_at_10 : decode b_W_at 10 = .ok (.iadd, 1) := by decide +kernel
theorem d_W_at_11 : decode b_W_at 11 = .ok (.invokevirtual 20, 3) := by decide +kernel
theorem d_W_at_14 : decode b_W_at 14 = .ok (.iaload, 1) := by decide +kernel
theorem d_W_at_15 : decode b_W_at 15 = .ok (.ireturn, 1) := by decide +kernel
def w_W_at (cp : Nat) (wi : Nat) (x1 : Int32) (s0 : KS) (Φ : Int32 → KS → Prop) : Prop := w_W_wrap cp wi ((s0 5 wi 1) + x1) s0 (fun r2 s1 => vp_in r2 (aL cp 6 wi) ∧ Φ (s1 6 wi r2.toNatClampNeg) s1)
set_option maxHeartbeats 4000000 in
set_option maxRecDepth 100000 in
theorem c_W_at (l : Launch) (E : gE) (s0 : KS) (wi : Nat) (hwi : wi < 10) (x1 : Int32) (Φ : Int32 → KS → Prop) (hw : w_W_at (eN E) wi x1 s0 Φ) : gMi l y_W_at v_W_at m_W_at E KK [.ref (ea E 5 wi), .int x1] s0 Φ := by
  intro sz
  refine Met.ofW (cc := b_W_at) (maxL := 2) (ret := (some .int)) (by decide) rfl ?_
  intro p e s m args below meth c s₁ B hml hv
  obtain ⟨rfl, hsz, hP, hK, hD, hX⟩ := hv
  have hx := B.exec
  have hb := B.bytes
  have hr := B.returns
  have hts := atoms_spec (ws := v_W_at) B.pre
  have hG : ∀ w ∈ gG, w.before _ s = true := fun w h => hts w (List.mem_cons_of_mem _ h)
  have hown : s.vm.findClass R_W = some m.cls := findClass_of_methodNamed B.named
  have hlocks := B.notSynchronized
  subst hsz
  obtain ⟨A, hAe⟩ : ∃ A, A = gA E KK s.heap.size := ⟨_, rfl⟩
  rw [← hAe] at hD hX ⊢
  have hV : gV E KK A s0 s s.heap [] := ⟨hP, hD, va_S.rf⟩
  have hl := lv_entry ([.ref (ea E 5 wi), .int x1] : List Value) (n := 2) (Nat.le_of_ble_eq_true rfl)
  rw [lg_entry_eq]
  generalize (lg_sl ([.ref (ea E 5 wi), .int x1] : List Value) ++ List.replicate (2 - (lg_sl ([.ref (ea E 5 wi), .int x1] : List Value)).length) Slot.unset).toArray = ls at hl ⊢
  have hl : lv_has ls 2 [(0, .ref (ea E 5 wi)), (1, .int x1)] := hl
  unfold w_W_at at hw
  refine lv_aload_n hx hb d_W_at_0 rfl (lv_at hl 0 rfl) ?_
  refine kg_W_W_words hx hb hG hown hK hV hwi d_W_at_1 ?_
  refine lv_aload_n hx hb d_W_at_4 rfl (lv_at hl 0 rfl) ?_
  refine lv_aload_n hx hb d_W_at_5 rfl (lv_at hl 0 rfl) ?_
  refine kg_W_W_first hx hb hG hown hK hV hwi d_W_at_6 ?_
  refine lv_iload_n hx hb d_W_at_9 rfl (lv_at hl 1 rfl) ?_
  refine lv_iadd hx hb d_W_at_10 ?_
  refine kc_W_W_wrap hx hb hml hown hts hV hK hX hAe (c_W_wrap l E s0 wi hwi ((s0 5 wi 1) + x1) _ hw) hwi hl.1 (Nat.le_of_ble_eq_true rfl) d_W_at_11 (Nat.le_of_ble_eq_true rfl) (Nat.le_of_ble_eq_true rfl) (fun r2 s1 H locs hw hV => ?_)
  refine kl_6 hx hb hK hV hwi hw.1 d_W_at_14 ?_
  have hw := hw.2
  exact kr_i hx hb hr hV hK hX hAe hw d_W_at_15
theorem d_W_add_0 : decode b_W_add 0 = .ok (.aload_n 0, 1) := by decide +kernel
theorem d_W_add_1 : decode b_W_add 1 = .ok (.getfield 16, 3) := by decide +kernel
theorem d_W_add_4 : decode b_W_add 4 = .ok (.aload_n 0, 1) := by decide +kernel
theorem d_W_add_5 : decode b_W_add 5 = .ok (.aload_n 0, 1) := by decide +kernel
theorem d_W_add_6 : decode b_W_add 6 = .ok (.getfield 7, 3) := by decide +kernel
theorem d_W_add_9 : decode b_W_add 9 = .ok (.aload_n 0, 1) := by decide +kernel
theorem d_W_add_10 : decode b_W_add 10 = .ok (.getfield 13, 3) := by decide +kernel
theorem d_W_add_13 : decode b_W_add 13 = .ok (.iadd, 1) := by decide +kernel
theorem d_W_add_14 : decode b_W_add 14 = .ok (.invokevirtual 20, 3) := by decide +kernel
theorem d_W_add_17 : decode b_W_add 17 = .ok (.iload_n 1, 1) := by decide +kernel
theorem d_W_add_18 : decode b_W_add 18 = .ok (.iastore, 1) := by decide +kernel
theorem d_W_add_19 : decode b_W_add 19 = .ok (.aload_n 0, 1) := by decide +kernel
theorem d_W_add_20 : decode b_W_add 20 = .ok (.dup, 1) := by decide +kernel
theorem d_W_add_21 : decode b_W_add 21 = .ok (.getfield 13, 3) := by decide +kernel
theorem d_W_add_24 : decode b_W_add 24 = .ok (.iconst 1, 1) := by decide +kernel
theorem d_W_add_25 : decode b_W_add 25 = .ok (.iadd, 1) := by decide +kernel
theorem d_W_add_26 : decode b_W_add 26 = .ok (.putfield 13, 3) := by decide +kernel
theorem d_W_add_29 : decode b_W_add 29 = .ok (.return_, 1) := by decide +kernel
def w_W_add (cp : Nat) (wi : Nat) (x1 : Int32) (s0 : KS) (Φ : KS → Prop) : Prop := w_W_wrap cp wi ((s0 5 wi 1) + (s0 5 wi 2)) s0 (fun r2 s1 => vp_in r2 (aL cp 6 wi) ∧ ∀ s3 : KS, s3 = w3 s1 6 wi r2.toNatClampNeg x1 → ∀ s4 : KS, s4 = w3 s3 5 wi 2 ((s3 5 wi 2) + (1 : Int32)) → Φ s4)
set_option maxHeartbeats 4000000 in
set_option maxRecDepth 100000 in
theorem c_W_add (l : Launch) (E : gE) (s0 : KS) (wi : Nat) (hwi : wi < 10) (x1 : Int32) (Φ : KS → Prop) (hw : w_W_add (eN E) wi x1 s0 Φ) : gMv l y_W_add v_W_add m_W_add E KK [.ref (ea E 5 wi), .int x1] s0 Φ := by
  intro sz
  refine Met.ofW (cc := b_W_add) (maxL := 2) (ret := none) (by decide) rfl ?_
  intro p e s m args below meth c s₁ B hml hv
  obtain ⟨rfl, hsz, hP, hK, hD, hX⟩ := hv
  have hx := B.exec
  have hb := B.bytes
  have hr := B.returns
  have hts := atoms_spec (ws := v_W_add) B.pre
  have hG : ∀ w ∈ gG, w.before _ s = true := fun w h => hts w (List.mem_cons_of_mem _ h)
  have hown : s.vm.findClass R_W = some m.cls := findClass_of_methodNamed B.named
  have hlocks := B.notSynchronized
  subst hsz
  obtain ⟨A, hAe⟩ : ∃ A, A = gA E KK s.heap.size := ⟨_, rfl⟩
  rw [← hAe] at hD hX ⊢
  have hV : gV E KK A s0 s s.heap [] := ⟨hP, hD, va_S.rf⟩
  have hl := lv_entry ([.ref (ea E 5 wi), .int x1] : List Value) (n := 2) (Nat.le_of_ble_eq_true rfl)
  rw [lg_entry_eq]
  generalize (lg_sl ([.ref (ea E 5 wi), .int x1] : List Value) ++ List.replicate (2 - (lg_sl ([.ref (ea E 5 wi), .int x1] : List Value)).length) Slot.unset).toArray = ls at hl ⊢
  have hl : lv_has ls 2 [(0, .ref (ea E 5 wi)), (1, .int x1)] := hl
  unfold w_W_add at hw
  refine lv_aload_n hx hb d_W_add_0 rfl (lv_at hl 0 rfl) ?_
  refine kg_W_W_words hx hb hG hown hK hV hwi d_W_add_1 ?_
  refine lv_aload_n hx hb d_W_add_4 rfl (lv_at hl 0 rfl) ?_
  refine lv_aload_n hx hb d_W_add_5 rfl (lv_at hl 0 rfl) ?_
  refine kg_W_W_first hx hb hG hown hK hV hwi d_W_add_6 ?_
  refine lv_aload_n hx hb d_W_add_9 rfl (lv_at hl 0 rfl) ?_
  refine kg_W_W_count hx hb hG hown hK hV hwi d_W_add_10 ?_
  refine lv_iadd hx hb d_W_add_13 ?_
  refine kc_W_W_wrap hx hb hml hown hts hV hK hX hAe (c_W_wrap l E s0 wi hwi ((s0 5 wi 1) + (s0 5 wi 2)) _ hw) hwi hl.1 (Nat.le_of_ble_eq_true rfl) d_W_add_14 (Nat.le_of_ble_eq_true rfl) (Nat.le_of_ble_eq_true rfl) (fun r2 s1 H locs hw hV => ?_)
  refine lv_iload_n hx hb d_W_add_17 rfl (lv_at hl 1 rfl) ?_
  refine ks_6 hx hb hK hV hwi hw.1 d_W_add_18 (fun s3 H locs es3 hV => ?_)
  have hw := hw.2 s3 es3
  refine lv_aload_n hx hb d_W_add_19 rfl (lv_at hl 0 rfl) ?_
  refine lv_dup hx hb d_W_add_20 rfl ?_
  refine kg_W_W_count hx hb hG hown hK hV hwi d_W_add_21 ?_
  refine lv_iconst (v := 1) hx hb d_W_add_24 (by decide) ?_
  refine lv_iadd hx hb d_W_add_25 ?_
  refine kp_W_W_count hx hb hG hown hK hV hwi d_W_add_26 (fun s4 H locs es4 hV => ?_)
  have hw := hw s4 es4
  exact kr_v hx hb hr hV hK hX hAe hw d_W_add_29
theorem d_W_take_0 : decode b_W_take 0 = .ok (.aload_n 0, 1) := by decide +kernel
theorem d_W_take_1 : decode b_W_take 1 = .ok (.getfield 16, 3) := by decide +kernel
theorem d_W_take_4 : decode b_W_take 4 = .ok (.aload_n 0, 1) := by decide +kernel
theorem d_W_take_5 : decode b_W_take 5 = .ok (.getfield 7, 3) := by decide +kernel
theorem d_W_take_8 : decode b_W_take 8 = .ok (.iaload, 1) := by decide +kernel
theorem d_W_take_9 : decode b_W_take 9 = .ok (.istore_n 1, 1) := by decide +kernel
theorem d_W_take_10 : decode b_W_take 10 = .ok (.aload_n 0, 1) := by decide +kernel
theorem d_W_take_11 : decode b_W_take 11 = .ok (.aload_n 0, 1) := by decide +kernel
theorem d_W_take_12 : decode b_W_take 12 = .ok (.aload_n 0, 1) := by decide +kernel
theorem d_W_take_13 : decode b_W_take 13 = .ok (.getfield 7, 3) := by decide +kernel
theorem d_W_take_16 : decode b_W_take 16 = .ok (.iconst 1, 1) := by decide +kernel
theorem d_W_take_17 : decode b_W_take 17 = .ok (.iadd, 1) := by decide +kernel
theorem d_W_take_18 : decode b_W_take 18 = .ok (.invokevirtual 20, 3) := by decide +kernel
theorem d_W_take_21 : decode b_W_take 21 = .ok (.putfield 7, 3) := by decide +kernel
theorem d_W_take_24 : decode b_W_take 24 = .ok (.aload_n 0, 1) := by decide +kernel
theorem d_W_take_25 : decode b_W_take 25 = .ok (.dup, 1) := by decide +kernel
theorem d_W_take_26 : decode b_W_take 26 = .ok (.getfield 13, 3) := by decide +kernel
theorem d_W_take_29 : decode b_W_take 29 = .ok (.iconst 1, 1) := by decide +kernel
theorem d_W_take_30 : decode b_W_take 30 = .ok (.isub, 1) := by decide +kernel
theorem d_W_take_31 : decode b_W_take 31 = .ok (.putfield 13, 3) := by decide +kernel
theorem d_W_take_34 : decode b_W_take 34 = .ok (.iload_n 1, 1) := by decide +kernel
theorem d_W_take_35 : decode b_W_take 35 = .ok (.ireturn, 1) := by decide +kernel
def w_W_take (cp : Nat) (wi : Nat) (s0 : KS) (Φ : Int32 → KS → Prop) : Prop := vp_in (s0 5 wi 1) (aL cp 6 wi) ∧ ∀ y1 : Int32, y1 = s0 6 wi (s0 5 wi 1).toNatClampNeg → w_W_wrap cp wi ((s0 5 wi 1) + (1 : Int32)) s0 (fun r3 s2 => ∀ s4 : KS, s4 = w3 s2 5 wi 1 r3 → ∀ s5 : KS, s5 = w3 s4 5 wi 2 ((s4 5 wi 2) - (1 : Int32)) → Φ y1 s5)
set_option maxHeartbeats 4000000 in
set_option maxRecDepth 100000 in
theorem c_W_take (l : Launch) (E : gE) (s0 : KS) (wi : Nat) (hwi : wi < 10) (Φ : Int32 → KS → Prop) (hw : w_W_take (eN E) wi s0 Φ) : gMi l y_W_take v_W_take m_W_take E KK [.ref (ea E 5 wi)] s0 Φ := by
  intro sz
  refine Met.ofW (cc := b_W_take) (maxL := 2) (ret := (some .int)) (by decide) rfl ?_
  intro p e s m args below meth c s₁ B hml hv
  obtain ⟨rfl, hsz, hP, hK, hD, hX⟩ := hv
  have hx := B.exec
  have hb := B.bytes
  have hr := B.returns
  have hts := atoms_spec (ws := v_W_take) B.pre
  have hG : ∀ w ∈ gG, w.before _ s = true := fun w h => hts w (List.mem_cons_of_mem _ h)
  have hown : s.vm.findClass R_W = some m.cls := findClass_of_methodNamed B.named
  have hlocks := B.notSynchronized
  subst hsz
  obtain ⟨A, hAe⟩ : ∃ A, A = gA E KK s.heap.size := ⟨_, rfl⟩
  rw [← hAe] at hD hX ⊢
  have hV : gV E KK A s0 s s.heap [] := ⟨hP, hD, va_S.rf⟩
  have hl := lv_entry ([.ref (ea E 5 wi)] : List Value) (n := 2) (Nat.le_of_ble_eq_true rfl)
  rw [lg_entry_eq]
  generalize (lg_sl ([.ref (ea E 5 wi)] : List Value) ++ List.replicate (2 - (lg_sl ([.ref (ea E 5 wi)] : List Value)).length) Slot.unset).toArray = ls at hl ⊢
  have hl : lv_has ls 2 [(0, .ref (ea E 5 wi))] := hl
  unfold w_W_take at hw
  refine lv_aload_n hx hb d_W_take_0 rfl (lv_at hl 0 rfl) ?_
  refine kg_W_W_words hx hb hG hown hK hV hwi d_W_take_1 ?_
  refine lv_aload_n hx hb d_W_take_4 rfl (lv_at hl 0 rfl) ?_
  refine kg_W_W_first hx hb hG hown hK hV hwi d_W_take_5 ?_
  refine kl_6 hx hb hK hV hwi hw.1 d_W_take_8 ?_
  have hw := hw.2
  refine lv_topi (fun y1 ey1 => ?_)
  have hw := hw y1 ey1
  refine lv_istore_n (lv' := [(1, .int y1), (0, .ref (ea E 5 wi))]) hx hb d_W_take_9 rfl hl (by decide) rfl (fun ls hl => ?_)
  refine lv_aload_n hx hb d_W_take_10 rfl (lv_at hl 1 rfl) ?_
  refine lv_aload_n hx hb d_W_take_11 rfl (lv_at hl 1 rfl) ?_
  refine lv_aload_n hx hb d_W_take_12 rfl (lv_at hl 1 rfl) ?_
  refine kg_W_W_first hx hb hG hown hK hV hwi d_W_take_13 ?_
  refine lv_iconst (v := 1) hx hb d_W_take_16 (by decide) ?_
  refine lv_iadd hx hb d_W_take_17 ?_
  refine kc_W_W_wrap hx hb hml hown hts hV hK hX hAe (c_W_wrap l E s0 wi hwi ((s0 5 wi 1) + (1 : Int32)) _ hw) hwi hl.1 (Nat.le_of_ble_eq_true rfl) d_W_take_18 (Nat.le_of_ble_eq_true rfl) (Nat.le_of_ble_eq_true rfl) (fun r3 s2 H locs hw hV => ?_)
  refine kp_W_W_first hx hb hG hown hK hV hwi d_W_take_21 (fun s4 H locs es4 hV => ?_)
  have hw := hw s4 es4
  refine lv_aload_n hx hb d_W_take_24 rfl (lv_at hl 1 rfl) ?_
  refine lv_dup hx hb d_W_take_25 rfl ?_
  refine kg_W_W_count hx hb hG hown hK hV hwi d_W_take_26 ?_
  refine lv_iconst (v := 1) hx hb d_W_take_29 (by decide) ?_
  refine lv_isub hx hb d_W_take_30 ?_
  refine kp_W_W_count hx hb hG hown hK hV hwi d_W_take_31 (fun s5 H locs es5 hV => ?_)
  have hw := hw s5 es5
  refine lv_iload_n hx hb d_W_take_34 rfl (lv_at hl 0 rfl) ?_
  exact kr_i hx hb hr hV hK hX hAe hw d_W_take_35
theorem d_W_clear_0 : decode b_W_clear 0 = .ok (.aload_n 0, 1) := by decide +kernel
theorem d_W_clear_1 : decode b_W_clear 1 = .ok (.iconst 0, 1) := by decide +kernel
theorem d_W_clear_2 : decode b_W_clear 2 = .ok (.putfield 13, 3) := by decide +kernel
theorem d_W_clear_5 : decode b_W_clear 5 = .ok (.return_, 1) := by decide +kernel
def w_W_clear (cp : Nat) (wi : Nat) (s0 : KS) (Φ : KS → Prop) : Prop := ∀ s1 : KS, s1 = w3 s0 5 wi 2 (0 : Int32) → Φ s1
set_option maxHeartbeats 4000000 in
set_option maxRecDepth 100000 in
theorem c_W_clear (l : Launch) (E : gE) (s0 : KS) (wi : Nat) (hwi : wi < 10) (Φ : KS → Prop) (hw : w_W_clear (eN E) wi s0 Φ) : gMv l y_W_clear v_W_clear m_W_clear E KK [.ref (ea E 5 wi)] s0 Φ := by
  intro sz
  refine Met.ofW (cc := b_W_clear) (maxL := 1) (ret := none) (by decide) rfl ?_
  intro p e s m args below meth c s₁ B hml hv
  obtain ⟨rfl, hsz, hP, hK, hD, hX⟩ := hv
  have hx := B.exec
  have hb := B.bytes
  have hr := B.returns
  have hts := atoms_spec (ws := v_W_clear) B.pre
  have hG : ∀ w ∈ gG, w.before _ s = true := fun w h => hts w (List.mem_cons_of_mem _ h)
  have hown : s.vm.findClass R_W = some m.cls := findClass_of_methodNamed B.named
  have hlocks := B.notSynchronized
  subst hsz
  obtain ⟨A, hAe⟩ : ∃ A, A = gA E KK s.heap.size := ⟨_, rfl⟩
  rw [← hAe] at hD hX ⊢
  have hV : gV E KK A s0 s s.heap [] := ⟨hP, hD, va_S.rf⟩
  have hl := lv_entry ([.ref (ea E 5 wi)] : List Value) (n := 1) (Nat.le_of_ble_eq_true rfl)
  rw [lg_entry_eq]
  generalize (lg_sl ([.ref (ea E 5 wi)] : List Value) ++ List.replicate (1 - (lg_sl ([.ref (ea E 5 wi)] : List Value)).length) Slot.unset).toArray = ls at hl ⊢
  have hl : lv_has ls 1 [(0, .ref (ea E 5 wi))] := hl
  unfold w_W_clear at hw
  refine lv_aload_n hx hb d_W_clear_0 rfl (lv_at hl 0 rfl) ?_
  refine lv_iconst (v := 0) hx hb d_W_clear_1 (by decide) ?_
  refine kp_W_W_count hx hb hG hown hK hV hwi d_W_clear_2 (fun s1 H locs es1 hV => ?_)
  have hw := hw s1 es1
  exact kr_v hx hb hr hV hK hX hAe hw d_W_clear_5

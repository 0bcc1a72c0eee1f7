theorem d_P_copy_0 : decode b_P_copy 0 = .ok (.aload_n 1, 1) := by decide +kernel
theorem d_P_copy_1 : decode b_P_copy 1 = .ok (.getfield 9, 3) := by decide +kernel
theorem d_P_copy_4 : decode b_P_copy 4 = .ok (.iconst 0, 1) := by decide +kernel
theorem d_P_copy_5 : decode b_P_copy 5 = .ok (.aload_n 0, 1) := by decide +kernel
theorem d_P_copy_6 : decode b_P_copy 6 = .ok (.getfield 9, 3) := by decide +kernel
theorem d_P_copy_9 : decode b_P_copy 9 = .ok (.iconst 0, 1) := by decide +kernel
theorem d_P_copy_10 : decode b_P_copy 10 = .ok (.sipush 128, 3) := by decide +kernel
theorem d_P_copy_13 : decode b_P_copy 13 = .ok (.invokestatic 49, 3) := by decide +kernel
theorem d_P_copy_16 : decode b_P_copy 16 = .ok (.aload_n 1, 1) := by decide +kernel
theorem d_P_copy_17 : decode b_P_copy 17 = .ok (.getfield 15, 3) := by decide +kernel
theorem d_P_copy_20 : decode b_P_copy 20 = .ok (.iconst 0, 1) := by decide +kernel
theorem d_P_copy_21 : decode b_P_copy 21 = .ok (.aload_n 0, 1) := by decide +kernel
theorem d_P_copy_22 : decode b_P_copy 22 = .ok (.getfield 15, 3) := by decide +kernel
theorem d_P_copy_25 : decode b_P_copy 25 = .ok (.iconst 0, 1) := by decide +kernel
theorem d_P_copy_26 : decode b_P_copy 26 = .ok (.bipush 32, 2) := by decide +kernel
theorem d_P_copy_28 : decode b_P_copy 28 = .ok (.invokestatic 49, 3) := by decide +kernel
theorem d_P_copy_31 : decode b_P_copy 31 = .ok (.aload_n 1, 1) := by decide +kernel
theorem d_P_copy_32 : decode b_P_copy 32 = .ok (.getfield 18, 3) := by decide +kernel
theorem d_P_copy_35 : decode b_P_copy 35 = .ok (.iconst 0, 1) := by decide +kernel
theorem d_P_copy_36 : decode b_P_copy 36 = .ok (.aload_n 0, 1) := by decide +kernel
theorem d_P_copy_37 : decode b_P_copy 37 = .ok (.getfield 18, 3) := by decide +kernel
theorem d_P_copy_40 : decode b_P_copy 40 = .ok (.iconst 0, 1) := by decide +kernel
theorem d_P_copy_41 : decode b_P_copy 41 = .ok (.bipush 8, 2) := by decide +kernel
theorem d_P_copy_43 : decode b_P_copy 43 = .ok (.invokestatic 49, 3) := by decide +kernel
theorem d_P_copy_46 : decode b_P_copy 46 = .ok (.aload_n 0, 1) := by decide +kernel
theorem d_P_copy_47 : decode b_P_copy 47 = .ok (.aload_n 1, 1) := by decide +kernel
theorem d_P_copy_48 : decode b_P_copy 48 = .ok (.getfield 21, 3) := by decide +kernel
theorem d_P_copy_51 : decode b_P_copy 51 = .ok (.putfield 21, 3) := by decide +kernel
theorem d_P_copy_54 : decode b_P_copy 54 = .ok (.aload_n 0, 1) := by decide +kernel
theorem d_P_copy_55 : decode b_P_copy 55 = .ok (.aload_n 1, 1) := by decide +kernel
theorem d_P_copy_56 : decode b_P_copy 56 = .ok (.getfield 25, 3) := by decide +kernel
theorem d_P_copy_59 : decode b_P_copy 59 = .ok (.putfield 25, 3) := by decide +kernel
theorem d_P_copy_62 : decode b_P_copy 62 = .ok (.aload_n 0, 1) := by decide +kernel
theorem d_P_copy_63 : decode b_P_copy 63 = .ok (.aload_n 1, 1) := by decide +kernel
theorem d_P_copy_64 : decode b_P_copy 64 = .ok (.getfield 46, 3) := by decide +kernel
theorem d_P_copy_67 : decode b_P_copy 67 = .ok (.putfield 28, 3) := by decide +kernel
theorem d_P_copy_70 : decode b_P_copy 70 = .ok (.return_, 1) := by decide +kernel
def w_P_copy (cp : Nat) (i : Nat) (p1 : Nat) (s0 : KS) (Φ : KS → Prop) : Prop := ∀ s1 : KS, s1 = ur s0 2 i (va_cpy (s0 2 p1) (s0 2 i) 0 0 128) → ∀ s2 : KS, s2 = ur s1 3 i (va_cpy (s1 3 p1) (s1 3 i) 0 0 32) → ∀ s3 : KS, s3 = ur s2 4 i (va_cpy (s2 4 p1) (s2 4 i) 0 0 8) → ∀ s4 : KS, s4 = w3 s3 1 i 4 (s3 1 p1 4) → ∀ s5 : KS, s5 = w3 s4 1 i 5 (s4 1 p1 5) → ∀ s6 : KS, s6 = w3 s5 1 i 6 (s5 1 p1 0) → Φ s6
set_option maxHeartbeats 4000000 in
set_option maxRecDepth 100000 in
theorem c_P_copy (l : Launch) (E : gE) (s0 : KS) (i : Nat) (hi : i < 16) (p1 : Nat) (hp1 : p1 < 16) (Φ : KS → Prop) (hw : w_P_copy (eN E) i p1 s0 Φ) : gMv l y_P_copy v_P_copy m_P_copy E KK [.ref (ea E 1 i), .ref (ea E 1 p1)] s0 Φ := by
  intro sz
  refine Met.ofW (cc := b_P_copy) (maxL := 2) (ret := none) (by decide) rfl ?_
  intro p e s m args below meth c s₁ B hml hv
  obtain ⟨rfl, hsz, hP, hK, hD, hX⟩ := hv
  have hx := B.exec
  have hb := B.bytes
  have hr := B.returns
  have hts := atoms_spec (ws := v_P_copy) B.pre
  have hG : ∀ w ∈ gG, w.before _ s = true := fun w h => hts w (List.mem_cons_of_mem _ h)
  have hown : s.vm.findClass R_P = some m.cls := findClass_of_methodNamed B.named
  have hlocks := B.notSynchronized
  subst hsz
  obtain ⟨A, hAe⟩ : ∃ A, A = gA E KK s.heap.size := ⟨_, rfl⟩
  rw [← hAe] at hD hX ⊢
  have hV : gV E KK A s0 s s.heap [] := ⟨hP, hD, va_S.rf⟩
  have hl := lv_entry ([.ref (ea E 1 i), .ref (ea E 1 p1)] : List Value) (n := 2) (Nat.le_of_ble_eq_true rfl)
  rw [lg_entry_eq]
  generalize (lg_sl ([.ref (ea E 1 i), .ref (ea E 1 p1)] : List Value) ++ List.replicate (2 - (lg_sl ([.ref (ea E 1 i), .ref (ea E 1 p1)] : List Value)).length) Slot.unset).toArray = ls at hl ⊢
  have hl : lv_has ls 2 [(0, .ref (ea E 1 i)), (1, .ref (ea E 1 p1))] := hl
  unfold w_P_copy at hw
  refine lv_aload_n hx hb d_P_copy_0 rfl (lv_at hl 1 rfl) ?_
  refine kg_P_P_memory hx hb hG hown hK hV hp1 d_P_copy_1 ?_
  refine lv_iconst (v := 0) hx hb d_P_copy_4 (by decide) ?_
  refine lv_aload_n hx hb d_P_copy_5 rfl (lv_at hl 0 rfl) ?_
  refine kg_P_P_memory hx hb hG hown hK hV hi d_P_copy_6 ?_
  refine lv_iconst (v := 0) hx hb d_P_copy_9 (by decide) ?_
  refine lv_sipush (v := 128) hx hb d_P_copy_10 (by decide) ?_
  refine kcp_2 hx hb hml hl.1 hG hown hK hV hp1 hi d_P_copy_13 (Nat.le_of_ble_eq_true rfl) (Nat.le_of_ble_eq_true rfl) (fun s1 H locs es1 hV => ?_)
  have hw := hw s1 es1
  refine lv_aload_n hx hb d_P_copy_16 rfl (lv_at hl 1 rfl) ?_
  refine kg_P_P_words hx hb hG hown hK hV hp1 d_P_copy_17 ?_
  refine lv_iconst (v := 0) hx hb d_P_copy_20 (by decide) ?_
  refine lv_aload_n hx hb d_P_copy_21 rfl (lv_at hl 0 rfl) ?_
  refine kg_P_P_words hx hb hG hown hK hV hi d_P_copy_22 ?_
  refine lv_iconst (v := 0) hx hb d_P_copy_25 (by decide) ?_
  refine lv_bipush (v := 32) hx hb d_P_copy_26 (by decide) ?_
  refine kcp_3 hx hb hml hl.1 hG hown hK hV hp1 hi d_P_copy_28 (Nat.le_of_ble_eq_true rfl) (Nat.le_of_ble_eq_true rfl) (fun s2 H locs es2 hV => ?_)
  have hw := hw s2 es2
  refine lv_aload_n hx hb d_P_copy_31 rfl (lv_at hl 1 rfl) ?_
  refine kg_P_P_descriptors hx hb hG hown hK hV hp1 d_P_copy_32 ?_
  refine lv_iconst (v := 0) hx hb d_P_copy_35 (by decide) ?_
  refine lv_aload_n hx hb d_P_copy_36 rfl (lv_at hl 0 rfl) ?_
  refine kg_P_P_descriptors hx hb hG hown hK hV hi d_P_copy_37 ?_
  refine lv_iconst (v := 0) hx hb d_P_copy_40 (by decide) ?_
  refine lv_bipush (v := 8) hx hb d_P_copy_41 (by decide) ?_
  refine kcp_4 hx hb hml hl.1 hG hown hK hV hp1 hi d_P_copy_43 (Nat.le_of_ble_eq_true rfl) (Nat.le_of_ble_eq_true rfl) (fun s3 H locs es3 hV => ?_)
  have hw := hw s3 es3
  refine lv_aload_n hx hb d_P_copy_46 rfl (lv_at hl 0 rfl) ?_
  refine lv_aload_n hx hb d_P_copy_47 rfl (lv_at hl 1 rfl) ?_
  refine kg_P_P_height hx hb hG hown hK hV hp1 d_P_copy_48 ?_
  refine kp_P_P_height hx hb hG hown hK hV hi d_P_copy_51 (fun s4 H locs es4 hV => ?_)
  have hw := hw s4 es4
  refine lv_aload_n hx hb d_P_copy_54 rfl (lv_at hl 0 rfl) ?_
  refine lv_aload_n hx hb d_P_copy_55 rfl (lv_at hl 1 rfl) ?_
  refine kg_P_P_place hx hb hG hown hK hV hp1 d_P_copy_56 ?_
  refine kp_P_P_place hx hb hG hown hK hV hi d_P_copy_59 (fun s5 H locs es5 hV => ?_)
  have hw := hw s5 es5
  refine lv_aload_n hx hb d_P_copy_62 rfl (lv_at hl 0 rfl) ?_
  refine lv_aload_n hx hb d_P_copy_63 rfl (lv_at hl 1 rfl) ?_
  refine kg_P_P_number hx hb hG hown hK hV hp1 d_P_copy_64 ?_
  refine kp_P_P_parent hx hb hG hown hK hV hi d_P_copy_67 (fun s6 H locs es6 hV => ?_)
  have hw := hw s6 es6
  exact kr_v hx hb hr hV hK hX hAe hw d_P_copy_70
theorem d_P_isChildOf_0 : decode b_P_isChildOf 0 = .ok (.aload_n 0, 1) := by decide +kernel
theorem d_P_isChildOf_1 : decode b_P_isChildOf 1 = .ok (.getfield 31, 3) := by decide +kernel
theorem d_P_isChildOf_4 : decode b_P_isChildOf 4 = .ok (.ifCond .eq 18, 3) := by decide +kernel
theorem d_P_isChildOf_7 : decode b_P_isChildOf 7 = .ok (.aload_n 0, 1) := by decide +kernel
theorem d_P_isChildOf_8 : decode b_P_isChildOf 8 = .ok (.getfield 28, 3) := by decide +kernel
theorem d_P_isChildOf_11 : decode b_P_isChildOf 11 = .ok (.aload_n 1, 1) := by decide +kernel
theorem d_P_isChildOf_12 : decode b_P_isChildOf 12 = .ok (.getfield 46, 3) := by decide +kernel
theorem d_P_isChildOf_15 : decode b_P_isChildOf 15 = .ok (.if_icmp .ne 7, 3) := by decide +kernel
theorem d_P_isChildOf_18 : decode b_P_isChildOf 18 = .ok (.iconst 1, 1) := by decide +kernel
theorem d_P_isChildOf_19 : decode b_P_isChildOf 19 = .ok (.goto 4, 3) := by decide +kernel
theorem d_P_isChildOf_22 : decode b_P_isChildOf 22 = .ok (.iconst 0, 1) := by decide +kernel
theorem d_P_isChildOf_23 : decode b_P_isChildOf 23 = .ok (.ireturn, 1) := by decide +kernel
def w_P_isChildOf (cp : Nat) (i : Nat) (p1 : Nat) (s0 : KS) (Φ : Int32 → KS → Prop) : Prop := (((s0 1 i 7) = 0 → Φ (0 : Int32) s0) ∧ (¬ (s0 1 i 7) = 0 → ((¬ (s0 1 i 6) = (s0 1 p1 0) → Φ (0 : Int32) s0) ∧ ((s0 1 i 6) = (s0 1 p1 0) → Φ (1 : Int32) s0))))
set_option maxHeartbeats 4000000 in
set_option maxRecDepth 100000 in
theorem c_P_isChildOf (l : Launch) (E : gE) (s0 : KS) (i : Nat) (hi : i < 16) (p1 : Nat) (hp1 : p1 < 16) (Φ : Int32 → KS → Prop) (hw : w_P_isChildOf (eN E) i p1 s0 Φ) : gMi l y_P_isChildOf v_P_isChildOf m_P_isChildOf E KK [.ref (ea E 1 i), .ref (ea E 1 p1)] s0 Φ := by
  intro sz
  refine Met.ofW (cc := b_P_isChildOf) (maxL := 2) (ret := (some .boolean)) (by decide) rfl ?_
  intro p e s m args below meth c s₁ B hml hv
  obtain ⟨rfl, hsz, hP, hK, hD, hX⟩ := hv
  have hx := B.exec
  have hb := B.bytes
  have hr := B.returns
  have hts := atoms_spec (ws := v_P_isChildOf) B.pre
  have hG : ∀ w ∈ gG, w.before _ s = true := fun w h => hts w (List.mem_cons_of_mem _ h)
  have hown : s.vm.findClass R_P = some m.cls := findClass_of_methodNamed B.named
  have hlocks := B.notSynchronized
  subst hsz
  obtain ⟨A, hAe⟩ : ∃ A, A = gA E KK s.heap.size := ⟨_, rfl⟩
  rw [← hAe] at hD hX ⊢
  have hV : gV E KK A s0 s s.heap [] := ⟨hP, hD, va_S.rf⟩
  have hl := lv_entry ([.ref (ea E 1 i), .ref (ea E 1 p1)] : List Value) (n := 2) (Nat.le_of_ble_eq_true rfl)
  rw [lg_entry_eq]
  generalize (lg_sl ([.ref (ea E 1 i), .ref (ea E 1 p1)] : List Value) ++ List.replicate (2 - (lg_sl ([.ref (ea E 1 i), .ref (ea E 1 p1)] : List Value)).length) Slot.unset).toArray = ls at hl ⊢
  have hl : lv_has ls 2 [(0, .ref (ea E 1 i)), (1, .ref (ea E 1 p1))] := hl
  unfold w_P_isChildOf at hw
  refine lv_aload_n hx hb d_P_isChildOf_0 rfl (lv_at hl 0 rfl) ?_
  refine kg_P_P_state hx hb hG hown hK hV hi d_P_isChildOf_1 ?_
  refine lv_if_eq (tgt := 22) hx hb d_P_isChildOf_4 rfl (fun hc => ?_) (fun hc => ?_)
  · have hw := hw.1 hc
    refine lv_iconst (v := 0) hx hb d_P_isChildOf_22 (by decide) ?_
    exact kr_z hx hb hr hV hK hX hAe (by decide) hw d_P_isChildOf_23
  · have hw := hw.2 hc
    refine lv_aload_n hx hb d_P_isChildOf_7 rfl (lv_at hl 0 rfl) ?_
    refine kg_P_P_parent hx hb hG hown hK hV hi d_P_isChildOf_8 ?_
    refine lv_aload_n hx hb d_P_isChildOf_11 rfl (lv_at hl 1 rfl) ?_
    refine kg_P_P_number hx hb hG hown hK hV hp1 d_P_isChildOf_12 ?_
    refine lv_icmp_ne (tgt := 22) hx hb d_P_isChildOf_15 rfl (fun hc => ?_) (fun hc => ?_)
    · have hw := hw.1 hc
      refine lv_iconst (v := 0) hx hb d_P_isChildOf_22 (by decide) ?_
      exact kr_z hx hb hr hV hK hX hAe (by decide) hw d_P_isChildOf_23
    · have hw := hw.2 hc
      refine lv_iconst (v := 1) hx hb d_P_isChildOf_18 (by decide) ?_
      refine lv_goto (tgt := 23) hx hb d_P_isChildOf_19 rfl ?_
      exact kr_z hx hb hr hV hK hX hAe (by decide) hw d_P_isChildOf_23
theorem d_P_descriptorAt_0 : decode b_P_descriptorAt 0 = .ok (.iload_n 1, 1) := by decide +kernel
theorem d_P_descriptorAt_1 : decode b_P_descriptorAt 1 = .ok (.ifCond .lt 18, 3) := by decide +kernel
theorem d_P_descriptorAt_4 : decode b_P_descriptorAt 4 = .ok (.iload_n 1, 1) := by decide +kernel
theorem d_P_descriptorAt_5 : decode b_P_descriptorAt 5 = .ok (.bipush 8, 2) := by decide +kernel
theorem d_P_descriptorAt_7 : decode b_P_descriptorAt 7 = .ok (.if_icmp .ge 12, 3) := by decide +kernel
theorem d_P_descriptorAt_10 : decode b_P_descriptorAt 10 = .ok (.aload_n 0, 1) := by decide +kernel
theorem d_P_descriptorAt_11 : decode b_P_descriptorAt 11 = .ok (.getfield 18, 3) := by decide +kernel
theorem d_P_descriptorAt_14 : decode b_P_descriptorAt 14 = .ok (.iload_n 1, 1) := by decide +kernel
theorem d_P_descriptorAt_15 : decode b_P_descriptorAt 15 = .ok (.iaload, 1) := by decide +kernel
theorem d_P_descriptorAt_16 : decode b_P_descriptorAt 16 = .ok (.goto 4, 3) := by decide +kernel
theorem d_P_descriptorAt_19 : decode b_P_descriptorAt 19 = .ok (.iconst 0, 1) := by decide +kernel
theorem d_P_descriptorAt_20 : decode b_P_descriptorAt 20 = .ok (.ireturn, 1) := by decide +kernel
def w_P_descriptorAt (cp : Nat) (i : Nat) (x1 : Int32) (s0 : KS) (Φ : Int32 → KS → Prop) : Prop := ((x1 < 0 → Φ (0 : Int32) s0) ∧ (¬ x1 < 0 → (((8 : Int32) ≤ x1 → Φ (0 : Int32) s0) ∧ (¬ (8 : Int32) ≤ x1 → vp_in x1 8 ∧ Φ (s0 4 i x1.toNatClampNeg) s0))))
set_option maxHeartbeats 4000000 in
set_option maxRecDepth 100000 in
theorem c_P_descriptorAt (l : Launch) (E : gE) (s0 : KS) (i : Nat) (hi : i < 16) (x1 : Int32) (Φ : Int32 → KS → Prop) (hw : w_P_descriptorAt (eN E) i x1 s0 Φ) : gMi l y_P_descriptorAt v_P_descriptorAt m_P_descriptorAt E KK [.ref (ea E 1 i), .int x1] s0 Φ := by
  intro sz
  refine Met.ofW (cc := b_P_descriptorAt) (maxL := 2) (ret := (some .int)) (by decide) rfl ?_
  intro p e s m args below meth c s₁ B hml hv
  obtain ⟨rfl, hsz, hP, hK, hD, hX⟩ := hv
  have hx := B.exec
  have hb := B.bytes
  have hr := B.returns
  have hts := atoms_spec (ws := v_P_descriptorAt) B.pre
  have hG : ∀ w ∈ gG, w.before _ s = true := fun w h => hts w (List.mem_cons_of_mem _ h)
  have hown : s.vm.findClass R_P = some m.cls := findClass_of_methodNamed B.named
  have hlocks := B.notSynchronized
  subst hsz
  obtain ⟨A, hAe⟩ : ∃ A, A = gA E KK s.heap.size := ⟨_, rfl⟩
  rw [← hAe] at hD hX ⊢
  have hV : gV E KK A s0 s s.heap [] := ⟨hP, hD, va_S.rf⟩
  have hl := lv_entry ([.ref (ea E 1 i), .int x1] : List Value) (n := 2) (Nat.le_of_ble_eq_true rfl)
  rw [lg_entry_eq]
  generalize (lg_sl ([.ref (ea E 1 i), .int x1] : List Value) ++ List.replicate (2 - (lg_sl ([.ref (ea E 1 i), .int x1] : List Value)).length) Slot.unset).toArray = ls at hl ⊢
  have hl : lv_has ls 2 [(0, .ref (ea E 1 i)), (1, .int x1)] := hl
  unfold w_P_descriptorAt at hw
  refine lv_iload_n hx hb d_P_descriptorAt_0 rfl (lv_at hl 1 rfl) ?_
  refine lv_if_lt (tgt := 19) hx hb d_P_descriptorAt_1 rfl (fun hc => ?_) (fun hc => ?_)
  · have hw := hw.1 hc
    refine lv_iconst (v := 0) hx hb d_P_descriptorAt_19 (by decide) ?_
    exact kr_i hx hb hr hV hK hX hAe hw d_P_descriptorAt_20
  · have hw := hw.2 hc
    refine lv_iload_n hx hb d_P_descriptorAt_4 rfl (lv_at hl 1 rfl) ?_
    refine lv_bipush (v := 8) hx hb d_P_descriptorAt_5 (by decide) ?_
    refine lv_icmp_ge (tgt := 19) hx hb d_P_descriptorAt_7 rfl (fun hc => ?_) (fun hc => ?_)
    · have hw := hw.1 hc
      refine lv_iconst (v := 0) hx hb d_P_descriptorAt_19 (by decide) ?_
      exact kr_i hx hb hr hV hK hX hAe hw d_P_descriptorAt_20
    · have hw := hw.2 hc
      refine lv_aload_n hx hb d_P_descriptorAt_10 rfl (lv_at hl 0 rfl) ?_
      refine kg_P_P_descriptors hx hb hG hown hK hV hi d_P_descriptorAt_11 ?_
      refine lv_iload_n hx hb d_P_descriptorAt_14 rfl (lv_at hl 1 rfl) ?_
      refine kl_4 hx hb hK hV hi hw.1 d_P_descriptorAt_15 ?_
      have hw := hw.2
      refine lv_goto (tgt := 20) hx hb d_P_descriptorAt_16 rfl ?_
      exact kr_i hx hb hr hV hK hX hAe hw d_P_descriptorAt_20
theorem d_P_leastClosed_0 : decode b_P_leastClosed 0 = .ok (.iconst 0, 1) := by decide +kernel
theorem d_P_leastClosed_1 : decode b_P_leastClosed 1 = .ok (.istore_n 1, 1) := by decide +kernel
theorem d_P_leastClosed_2 : decode b_P_leastClosed 2 = .ok (.iload_n 1, 1) := by decide +kernel
theorem d_P_leastClosed_3 : decode b_P_leastClosed 3 = .ok (.bipush 8, 2) := by decide +kernel
theorem d_P_leastClosed_5 : decode b_P_leastClosed 5 = .ok (.if_icmp .ge 20, 3) := by decide +kernel
theorem d_P_leastClosed_8 : decode b_P_leastClosed 8 = .ok (.aload_n 0, 1) := by decide +kernel
theorem d_P_leastClosed_9 : decode b_P_leastClosed 9 = .ok (.getfield 18, 3) := by decide +kernel
theorem d_P_leastClosed_12 : decode b_P_leastClosed 12 = .ok (.iload_n 1, 1) := by decide +kernel
theorem d_P_leastClosed_13 : decode b_P_leastClosed 13 = .ok (.iaload, 1) := by decide +kernel
theorem d_P_leastClosed_14 : decode b_P_leastClosed 14 = .ok (.ifCond .ne 5, 3) := by decide +kernel
theorem d_P_leastClosed_17 : decode b_P_leastClosed 17 = .ok (.iload_n 1, 1) := by decide +kernel
theorem d_P_leastClosed_18 : decode b_P_leastClosed 18 = .ok (.ireturn, 1) := by decide +kernel
theorem d_P_leastClosed_19 : decode b_P_leastClosed 19 = .ok (.iinc 1 1, 3) := by decide +kernel
theorem d_P_leastClosed_22 : decode b_P_leastClosed 22 = .ok (.goto (-20), 3) := by decide +kernel
theorem d_P_leastClosed_25 : decode b_P_leastClosed 25 = .ok (.iconst (-1), 1) := by decide +kernel
theorem d_P_leastClosed_26 : decode b_P_leastClosed 26 = .ok (.ireturn, 1) := by decide +kernel
def w_P_leastClosed_2 (cp : Nat) (i : Nat) (Φ : Int32 → KS → Prop) : Nat → Int32 → KS → Prop
  | 0, _, _ => False
  | n + 1, v1, s0 => (((8 : Int32) ≤ v1 → Φ (-1 : Int32) s0) ∧ (¬ (8 : Int32) ≤ v1 → vp_in v1 8 ∧ ((¬ (s0 4 i v1.toNatClampNeg) = 0 → ∀ y1 : Int32, y1 = v1 + (1 : Int32) → w_P_leastClosed_2 cp i Φ n y1 s0) ∧ ((s0 4 i v1.toNatClampNeg) = 0 → Φ v1 s0))))
def w_P_leastClosed (cp : Nat) (i : Nat) (s0 : KS) (Φ : Int32 → KS → Prop) : Prop := ∃ nn : Nat, w_P_leastClosed_2 cp i Φ nn (0 : Int32) s0
set_option maxHeartbeats 4000000 in
set_option maxRecDepth 100000 in
theorem c_P_leastClosed (l : Launch) (E : gE) (s0 : KS) (i : Nat) (hi : i < 16) (Φ : Int32 → KS → Prop) (hw : w_P_leastClosed (eN E) i s0 Φ) : gMi l y_P_leastClosed v_P_leastClosed m_P_leastClosed E KK [.ref (ea E 1 i)] s0 Φ := by
  intro sz
  refine Met.ofW (cc := b_P_leastClosed) (maxL := 2) (ret := (some .int)) (by decide) rfl ?_
  intro p e s m args below meth c s₁ B hml hv
  obtain ⟨rfl, hsz, hP, hK, hD, hX⟩ := hv
  have hx := B.exec
  have hb := B.bytes
  have hr := B.returns
  have hts := atoms_spec (ws := v_P_leastClosed) B.pre
  have hG : ∀ w ∈ gG, w.before _ s = true := fun w h => hts w (List.mem_cons_of_mem _ h)
  have hown : s.vm.findClass R_P = some m.cls := findClass_of_methodNamed B.named
  have hlocks := B.notSynchronized
  subst hsz
  obtain ⟨A, hAe⟩ : ∃ A, A = gA E KK s.heap.size := ⟨_, rfl⟩
  rw [← hAe] at hD hX ⊢
  have hV : gV E KK A s0 s s.heap [] := ⟨hP, hD, va_S.rf⟩
  have hl := lv_entry ([.ref (ea E 1 i)] : List Value) (n := 2) (Nat.le_of_ble_eq_true rfl)
  rw [lg_entry_eq]
  generalize (lg_sl ([.ref (ea E 1 i)] : List Value) ++ List.replicate (2 - (lg_sl ([.ref (ea E 1 i)] : List Value)).length) Slot.unset).toArray = ls at hl ⊢
  have hl : lv_has ls 2 [(0, .ref (ea E 1 i))] := hl
  have L2 : ∀ (n : Nat), ∀ (ls : Array Slot) (H : Heap) (locs : List Loc) (s0 : KS) (v1 : Int32), lv_has ls 2 [(0, .ref (ea E 1 i)), (1, .int v1)] → gV E KK A s0 s H locs → w_P_leastClosed_2 (eN E) i Φ n v1 s0 → W p l e m_P_leastClosed s m ([.ref (ea E 1 i)] : List Value).toArray below meth c H locs 0 0 (MQ below (gQi E KK A Φ) ([.ref (ea E 1 i)] : List Value).toArray s 0 0 A) (F0 m 2 ls []) := by
    intro n
    induction n with
    | zero =>
      intro ls H locs s0 v1 hl hV hw
      exact False.elim hw
    | succ n ih =>
      intro ls H locs s0 v1 hl hV hw
      unfold w_P_leastClosed_2 at hw
      refine lv_iload_n hx hb d_P_leastClosed_2 rfl (lv_at hl 1 rfl) ?_
      refine lv_bipush (v := 8) hx hb d_P_leastClosed_3 (by decide) ?_
      refine lv_icmp_ge (tgt := 25) hx hb d_P_leastClosed_5 rfl (fun hc => ?_) (fun hc => ?_)
      · have hw := hw.1 hc
        refine lv_iconst (v := -1) hx hb d_P_leastClosed_25 (by decide) ?_
        exact kr_i hx hb hr hV hK hX hAe hw d_P_leastClosed_26
      · have hw := hw.2 hc
        refine lv_aload_n hx hb d_P_leastClosed_8 rfl (lv_at hl 0 rfl) ?_
        refine kg_P_P_descriptors hx hb hG hown hK hV hi d_P_leastClosed_9 ?_
        refine lv_iload_n hx hb d_P_leastClosed_12 rfl (lv_at hl 1 rfl) ?_
        refine kl_4 hx hb hK hV hi hw.1 d_P_leastClosed_13 ?_
        have hw := hw.2
        refine lv_if_ne (tgt := 19) hx hb d_P_leastClosed_14 rfl (fun hc => ?_) (fun hc => ?_)
        · have hw := hw.1 hc
          obtain ⟨y1, ey1⟩ : ∃ z : Int32, z = v1 + (1 : Int32) := ⟨_, rfl⟩
          have hw := hw y1 ey1
          refine lv_iinc (k := 1) (v := y1) (lv' := [(1, .int y1), (0, .ref (ea E 1 i))]) hx hb d_P_leastClosed_19 hl rfl (by rw [ey1]; rfl) (by decide) rfl (fun ls hl => ?_)
          refine lv_goto (tgt := 2) hx hb d_P_leastClosed_22 rfl ?_
          exact ih _ _ _ s0 y1 (lv_sub hl [1, 0] rfl) hV hw
        · have hw := hw.2 hc
          refine lv_iload_n hx hb d_P_leastClosed_17 rfl (lv_at hl 1 rfl) ?_
          exact kr_i hx hb hr hV hK hX hAe hw d_P_leastClosed_18
  unfold w_P_leastClosed at hw
  refine lv_iconst (v := 0) hx hb d_P_leastClosed_0 (by decide) ?_
  refine lv_istore_n (lv' := [(1, .int (0 : Int32)), (0, .ref (ea E 1 i))]) hx hb d_P_leastClosed_1 rfl hl (by decide) rfl (fun ls hl => ?_)
  obtain ⟨nn, hw⟩ := hw
  exact L2 nn _ _ _ s0 (0 : Int32) (lv_sub hl [1, 0] rfl) hV hw
theorem d_P_openDescriptors_0 : decode b_P_openDescriptors 0 = .ok (.iconst 0, 1) := by decide +kernel
theorem d_P_openDescriptors_1 : decode b_P_openDescriptors 1 = .ok (.istore_n 1, 1) := by decide +kernel
theorem d_P_openDescriptors_2 : decode b_P_openDescriptors 2 = .ok (.iconst 0, 1) := by decide +kernel
theorem d_P_openDescriptors_3 : decode b_P_openDescriptors 3 = .ok (.istore_n 2, 1) := by decide +kernel
theorem d_P_openDescriptors_4 : decode b_P_openDescriptors 4 = .ok (.iload_n 2, 1) := by decide +kernel
theorem d_P_openDescriptors_5 : decode b_P_openDescriptors 5 = .ok (.bipush 8, 2) := by decide +kernel
theorem d_P_openDescriptors_7 : decode b_P_openDescriptors 7 = .ok (.if_icmp .ge 24, 3) := by decide +kernel
theorem d_P_openDescriptors_10 : decode b_P_openDescriptors 10 = .ok (.aload_n 0, 1) := by decide +kernel
theorem d_P_openDescriptors_11 : decode b_P_openDescriptors 11 = .ok (.getfield 18, 3) := by decide +kernel
theorem d_P_openDescriptors_14 : decode b_P_openDescriptors 14 = .ok (.iload_n 2, 1) := by decide +kernel
theorem d_P_openDescriptors_15 : decode b_P_openDescriptors 15 = .ok (.iaload, 1) := by decide +kernel
theorem d_P_openDescriptors_16 : decode b_P_openDescriptors 16 = .ok (.ifCond .eq 9, 3) := by decide +kernel
theorem d_P_openDescriptors_19 : decode b_P_openDescriptors 19 = .ok (.iload_n 1, 1) := by decide +kernel
theorem d_P_openDescriptors_20 : decode b_P_openDescriptors 20 = .ok (.iconst 1, 1) := by decide +kernel
theorem d_P_openDescriptors_21 : decode b_P_openDescriptors 21 = .ok (.iload_n 2, 1) := by decide +kernel
theorem d_P_openDescriptors_22 : decode b_P_openDescriptors 22 = .ok (.ishl, 1) := by decide +kernel
theorem d_P_openDescriptors_23 : decode b_P_openDescriptors 23 = .ok (.ior, 1) := by decide +kernel
theorem d_P_openDescriptors_24 : decode b_P_openDescriptors 24 = .ok (.istore_n 1, 1) := by decide +kernel
theorem d_P_openDescriptors_25 : decode b_P_openDescriptors 25 = .ok (.iinc 2 1, 3) := by decide +kernel
theorem d_P_openDescriptors_28 : decode b_P_openDescriptors 28 = .ok (.goto (-24), 3) := by decide +kernel
theorem d_P_openDescriptors_31 : decode b_P_openDescriptors 31 = .ok (.iload_n 1, 1) := by decide +kernel
theorem d_P_openDescriptors_32 : decode b_P_openDescriptors 32 = .ok (.ireturn, 1) := by decide +kernel
def w_P_openDescriptors_4 (cp : Nat) (i : Nat) (Φ : Int32 → KS → Prop) : Nat → Int32 → Int32 → KS → Prop
  | 0, _, _, _ => False
  | n + 1, v1, v2, s0 => (((8 : Int32) ≤ v2 → Φ v1 s0) ∧ (¬ (8 : Int32) ≤ v2 → vp_in v2 8 ∧ (((s0 4 i v2.toNatClampNeg) = 0 → ∀ y1 : Int32, y1 = v2 + (1 : Int32) → w_P_openDescriptors_4 cp i Φ n v1 y1 s0) ∧ (¬ (s0 4 i v2.toNatClampNeg) = 0 → ∀ y2 : Int32, y2 = v1 ||| ((1 : Int32) <<< (v2 &&& 31)) → ∀ y3 : Int32, y3 = v2 + (1 : Int32) → w_P_openDescriptors_4 cp i Φ n y2 y3 s0))))
def w_P_openDescriptors (cp : Nat) (i : Nat) (s0 : KS) (Φ : Int32 → KS → Prop) : Prop := ∃ nn : Nat, w_P_openDescriptors_4 cp i Φ nn (0 : Int32) (0 : Int32) s0
set_option maxHeartbeats 4000000 in
set_option maxRecDepth 100000 in
theorem c_P_openDescriptors (l : Launch) (E : gE) (s0 : KS) (i : Nat) (hi : i < 16) (Φ : Int32 → KS → Prop) (hw : w_P_openDescriptors (eN E) i s0 Φ) : gMi l y_P_openDescriptors v_P_openDescriptors m_P_openDescriptors E KK [.ref (ea E 1 i)] s0 Φ := by
  intro sz
  refine Met.ofW (cc := b_P_openDescriptors) (maxL := 3) (ret := (some .int)) (by decide) rfl ?_
  intro p e s m args below meth c s₁ B hml hv
  obtain ⟨rfl, hsz, hP, hK, hD, hX⟩ := hv
  have hx := B.exec
  have hb := B.bytes
  have hr := B.returns
  have hts := atoms_spec (ws := v_P_openDescriptors) B.pre
  have hG : ∀ w ∈ gG, w.before _ s = true := fun w h => hts w (List.mem_cons_of_mem _ h)
  have hown : s.vm.findClass R_P = some m.cls := findClass_of_methodNamed B.named
  have hlocks := B.notSynchronized
  subst hsz
  obtain ⟨A, hAe⟩ : ∃ A, A = gA E KK s.heap.size := ⟨_, rfl⟩
  rw [← hAe] at hD hX ⊢
  have hV : gV E KK A s0 s s.heap [] := ⟨hP, hD, va_S.rf⟩
  have hl := lv_entry ([.ref (ea E 1 i)] : List Value) (n := 3) (Nat.le_of_ble_eq_true rfl)
  rw [lg_entry_eq]
  generalize (lg_sl ([.ref (ea E 1 i)] : List Value) ++ List.replicate (3 - (lg_sl ([.ref (ea E 1 i)] : List Value)).length) Slot.unset).toArray = ls at hl ⊢
  have hl : lv_has ls 3 [(0, .ref (ea E 1 i))] := hl
  have L4 : ∀ (n : Nat), ∀ (ls : Array Slot) (H : Heap) (locs : List Loc) (s0 : KS) (v1 : Int32) (v2 : Int32), lv_has ls 3 [(0, .ref (ea E 1 i)), (1, .int v1), (2, .int v2)] → gV E KK A s0 s H locs → w_P_openDescriptors_4 (eN E) i Φ n v1 v2 s0 → W p l e m_P_openDescriptors s m ([.ref (ea E 1 i)] : List Value).toArray below meth c H locs 0 0 (MQ below (gQi E KK A Φ) ([.ref (ea E 1 i)] : List Value).toArray s 0 0 A) (F0 m 4 ls []) := by
    intro n
    induction n with
    | zero =>
      intro ls H locs s0 v1 v2 hl hV hw
      exact False.elim hw
    | succ n ih =>
      intro ls H locs s0 v1 v2 hl hV hw
      unfold w_P_openDescriptors_4 at hw
      refine lv_iload_n hx hb d_P_openDescriptors_4 rfl (lv_at hl 2 rfl) ?_
      refine lv_bipush (v := 8) hx hb d_P_openDescriptors_5 (by decide) ?_
      refine lv_icmp_ge (tgt := 31) hx hb d_P_openDescriptors_7 rfl (fun hc => ?_) (fun hc => ?_)
      · have hw := hw.1 hc
        refine lv_iload_n hx hb d_P_openDescriptors_31 rfl (lv_at hl 1 rfl) ?_
        exact kr_i hx hb hr hV hK hX hAe hw d_P_openDescriptors_32
      · have hw := hw.2 hc
        refine lv_aload_n hx hb d_P_openDescriptors_10 rfl (lv_at hl 0 rfl) ?_
        refine kg_P_P_descriptors hx hb hG hown hK hV hi d_P_openDescriptors_11 ?_
        refine lv_iload_n hx hb d_P_openDescriptors_14 rfl (lv_at hl 2 rfl) ?_
        refine kl_4 hx hb hK hV hi hw.1 d_P_openDescriptors_15 ?_
        have hw := hw.2
        refine lv_if_eq (tgt := 25) hx hb d_P_openDescriptors_16 rfl (fun hc => ?_) (fun hc => ?_)
        · have hw := hw.1 hc
          obtain ⟨y1, ey1⟩ : ∃ z : Int32, z = v2 + (1 : Int32) := ⟨_, rfl⟩
          have hw := hw y1 ey1
          refine lv_iinc (k := 2) (v := y1) (lv' := [(2, .int y1), (0, .ref (ea E 1 i)), (1, .int v1)]) hx hb d_P_openDescriptors_25 hl rfl (by rw [ey1]; rfl) (by decide) rfl (fun ls hl => ?_)
          refine lv_goto (tgt := 4) hx hb d_P_openDescriptors_28 rfl ?_
          exact ih _ _ _ s0 v1 y1 (lv_sub hl [1, 2, 0] rfl) hV hw
        · have hw := hw.2 hc
          refine lv_iload_n hx hb d_P_openDescriptors_19 rfl (lv_at hl 1 rfl) ?_
          refine lv_iconst (v := 1) hx hb d_P_openDescriptors_20 (by decide) ?_
          refine lv_iload_n hx hb d_P_openDescriptors_21 rfl (lv_at hl 2 rfl) ?_
          refine lv_ishl hx hb d_P_openDescriptors_22 ?_
          refine lv_ior hx hb d_P_openDescriptors_23 ?_
          refine lv_topi (fun y2 ey2 => ?_)
          have hw := hw y2 ey2
          refine lv_istore_n (lv' := [(1, .int y2), (0, .ref (ea E 1 i)), (2, .int v2)]) hx hb d_P_openDescriptors_24 rfl hl (by decide) rfl (fun ls hl => ?_)
          obtain ⟨y3, ey3⟩ : ∃ z : Int32, z = v2 + (1 : Int32) := ⟨_, rfl⟩
          have hw := hw y3 ey3
          refine lv_iinc (k := 2) (v := y3) (lv' := [(2, .int y3), (1, .int y2), (0, .ref (ea E 1 i))]) hx hb d_P_openDescriptors_25 hl rfl (by rw [ey3]; rfl) (by decide) rfl (fun ls hl => ?_)
          refine lv_goto (tgt := 4) hx hb d_P_openDescriptors_28 rfl ?_
          exact ih _ _ _ s0 y2 y3 (lv_sub hl [2, 1, 0] rfl) hV hw
  unfold w_P_openDescriptors at hw
  refine lv_iconst (v := 0) hx hb d_P_openDescriptors_0 (by decide) ?_
  refine lv_istore_n (lv' := [(1, .int (0 : Int32)), (0, .ref (ea E 1 i))]) hx hb d_P_openDescriptors_1 rfl hl (by decide) rfl (fun ls hl => ?_)
  refine lv_iconst (v := 0) hx hb d_P_openDescriptors_2 (by decide) ?_
  refine lv_istore_n (lv' := [(2, .int (0 : Int32)), (1, .int (0 : Int32)), (0, .ref (ea E 1 i))]) hx hb d_P_openDescriptors_3 rfl hl (by decide) rfl (fun ls hl => ?_)
  obtain ⟨nn, hw⟩ := hw
  exact L4 nn _ _ _ s0 (0 : Int32) (0 : Int32) (lv_sub hl [2, 1, 0] rfl) hV hw
theorem d_P_countClosed_0 : decode b_P_countClosed 0 = .ok (.bipush 8, 2) := by decide +kernel
theorem d_P_countClosed_2 : decode b_P_countClosed 2 = .ok (.aload_n 0, 1) := by decide +kernel
theorem d_P_countClosed_3 : decode b_P_countClosed 3 = .ok (.invokevirtual 55, 3) := by decide +kernel
theorem d_P_countClosed_6 : decode b_P_countClosed 6 = .ok (.invokestatic 59, 3) := by decide +kernel
theorem d_P_countClosed_9 : decode b_P_countClosed 9 = .ok (.isub, 1) := by decide +kernel
theorem d_P_countClosed_10 : decode b_P_countClosed 10 = .ok (.ireturn, 1) := by decide +kernel
def w_P_countClosed (cp : Nat) (i : Nat) (s0 : KS) (Φ : Int32 → KS → Prop) : Prop := w_P_openDescriptors cp i s0 (fun r2 s1 => w_I_bitCount cp r2 s1 (fun r4 s3 => Φ ((8 : Int32) - r4) s3))
set_option maxHeartbeats 4000000 in
set_option maxRecDepth 100000 in
theorem c_P_countClosed (l : Launch) (E : gE) (s0 : KS) (i : Nat) (hi : i < 16) (Φ : Int32 → KS → Prop) (hw : w_P_countClosed (eN E) i s0 Φ) : gMi l y_P_countClosed v_P_countClosed m_P_countClosed E KK [.ref (ea E 1 i)] s0 Φ := by
  intro sz
  refine Met.ofW (cc := b_P_countClosed) (maxL := 1) (ret := (some .int)) (by decide) rfl ?_
  intro p e s m args below meth c s₁ B hml hv
  obtain ⟨rfl, hsz, hP, hK, hD, hX⟩ := hv
  have hx := B.exec
  have hb := B.bytes
  have hr := B.returns
  have hts := atoms_spec (ws := v_P_countClosed) B.pre
  have hG : ∀ w ∈ gG, w.before _ s = true := fun w h => hts w (List.mem_cons_of_mem _ h)
  have hown : s.vm.findClass R_P = some m.cls := findClass_of_methodNamed B.named
  have hlocks := B.notSynchronized
  subst hsz
  obtain ⟨A, hAe⟩ : ∃ A, A = gA E KK s.heap.size := ⟨_, rfl⟩
  rw [← hAe] at hD hX ⊢
  have hV : gV E KK A s0 s s.heap [] := ⟨hP, hD, va_S.rf⟩
  have hl := lv_entry ([.ref (ea E 1 i)] : List Value) (n := 1) (Nat.le_of_ble_eq_true rfl)
  rw [lg_entry_eq]
  generalize (lg_sl ([.ref (ea E 1 i)] : List Value) ++ List.replicate (1 - (lg_sl ([.ref (ea E 1 i)] : List Value)).length) Slot.unset).toArray = ls at hl ⊢
  have hl : lv_has ls 1 [(0, .ref (ea E 1 i))] := hl
  unfold w_P_countClosed at hw
  refine lv_bipush (v := 8) hx hb d_P_countClosed_0 (by decide) ?_
  refine lv_aload_n hx hb d_P_countClosed_2 rfl (lv_at hl 0 rfl) ?_
  refine kc_P_P_openDescriptors hx hb hml hown hts hV hK hX hAe (c_P_openDescriptors l E s0 i hi _ hw) hi hl.1 (Nat.le_of_ble_eq_true rfl) d_P_countClosed_3 (Nat.le_of_ble_eq_true rfl) (Nat.le_of_ble_eq_true rfl) (fun r2 s1 H locs hw hV => ?_)
  refine kc_P_I_bitCount hx hb hml hown hts hV hK hX hAe (c_I_bitCount l E s1 r2 _ hw) hl.1 (Nat.le_of_ble_eq_true rfl) d_P_countClosed_6 (Nat.le_of_ble_eq_true rfl) (Nat.le_of_ble_eq_true rfl) (fun r4 s3 H locs hw hV => ?_)
  refine lv_isub hx hb d_P_countClosed_9 ?_
  exact kr_i hx hb hr hV hK hX hAe hw d_P_countClosed_10
theorem d_P_top_0 : decode b_P_top 0 = .ok (.aload_n 0, 1) := by decide +kernel
theorem d_P_top_1 : decode b_P_top 1 = .ok (.getfield 15, 3) := by decide +kernel
theorem d_P_top_4 : decode b_P_top 4 = .ok (.aload_n 0, 1) := by decide +kernel
theorem d_P_top_5 : decode b_P_top 5 = .ok (.getfield 21, 3) := by decide +kernel
theorem d_P_top_8 : decode b_P_top 8 = .ok (.iconst 1, 1) := by decide +kernel
theorem d_P_top_9 : decode b_P_top 9 = .ok (.isub, 1) := by decide +kernel
theorem d_P_top_10 : decode b_P_top 10 = .ok (.iaload, 1) := by decide +kernel
theorem d_P_top_11 : decode b_P_top 11 = .ok (.ireturn, 1) := by decide +kernel
def w_P_top (cp : Nat) (i : Nat) (s0 : KS) (Φ : Int32 → KS → Prop) : Prop := vp_in ((s0 1 i 4) - (1 : Int32)) 32 ∧ Φ (s0 3 i ((s0 1 i 4) - (1 : Int32)).toNatClampNeg) s0
set_option maxHeartbeats 4000000 in
set_option maxRecDepth 100000 in
theorem c_P_top (l : Launch) (E : gE) (s0 : KS) (i : Nat) (hi : i < 16) (Φ : Int32 → KS → Prop) (hw : w_P_top (eN E) i s0 Φ) : gMi l y_P_top v_P_top m_P_top E KK [.ref (ea E 1 i)] s0 Φ := by
  intro sz
  refine Met.ofW (cc := b_P_top) (maxL := 1) (ret := (some .int)) (by decide) rfl ?_
  intro p e s m args below meth c s₁ B hml hv
  obtain ⟨rfl, hsz, hP, hK, hD, hX⟩ := hv
  have hx := B.exec
  have hb := B.bytes
  have hr := B.returns
  have hts := atoms_spec (ws := v_P_top) B.pre
  have hG : ∀ w ∈ gG, w.before _ s = true := fun w h => hts w (List.mem_cons_of_mem _ h)
  have hown : s.vm.findClass R_P = some m.cls := findClass_of_methodNamed B.named
  have hlocks := B.notSynchronized
  subst hsz
  obtain ⟨A, hAe⟩ : ∃ A, A = gA E KK s.heap.size := ⟨_, rfl⟩
  rw [← hAe] at hD hX ⊢
  have hV : gV E KK A s0 s s.heap [] := ⟨hP, hD, va_S.rf⟩
  have hl := lv_entry ([.ref (ea E 1 i)] : List Value) (n := 1) (Nat.le_of_ble_eq_true rfl)
  rw [lg_entry_eq]
  generalize (lg_sl ([.ref (ea E 1 i)] : List Value) ++ List.replicate (1 - (lg_sl ([.ref (ea E 1 i)] : List Value)).length) Slot.unset).toArray = ls at hl ⊢
  have hl : lv_has ls 1 [(0, .ref (ea E 1 i))] := hl
  unfold w_P_top at hw
  refine lv_aload_n hx hb d_P_top_0 rfl (lv_at hl 0 rfl) ?_
  refine kg_P_P_words hx hb hG hown hK hV hi d_P_top_1 ?_
  refine lv_aload_n hx hb d_P_top_4 rfl (lv_at hl 0 rfl) ?_
  refine kg_P_P_height hx hb hG hown hK hV hi d_P_top_5 ?_
  refine lv_iconst (v := 1) hx hb d_P_top_8 (by decide) ?_
  refine lv_isub hx hb d_P_top_9 ?_
  refine kl_3 hx hb hK hV hi hw.1 d_P_top_10 ?_
  have hw := hw.2
  exact kr_i hx hb hr hV hK hX hAe hw d_P_top_11
theorem d_P_pop_0 : decode b_P_pop 0 = .ok (.aload_n 0, 1) := by decide +kernel
theorem d_P_pop_1 : decode b_P_pop 1 = .ok (.dup, 1) := by decide +kernel
theorem d_P_pop_2 : decode b_P_pop 2 = .ok (.getfield 21, 3) := by decide +kernel
theorem d_P_pop_5 : decode b_P_pop 5 = .ok (.iconst 1, 1) := by decide +kernel
theorem d_P_pop_6 : decode b_P_pop 6 = .ok (.isub, 1) := by decide +kernel
theorem d_P_pop_7 : decode b_P_pop 7 = .ok (.putfield 21, 3) := by decide +kernel
theorem d_P_pop_10 : decode b_P_pop 10 = .ok (.aload_n 0, 1) := by decide +kernel
theorem d_P_pop_11 : decode b_P_pop 11 = .ok (.getfield 15, 3) := by decide +kernel
theorem d_P_pop_14 : decode b_P_pop 14 = .ok (.aload_n 0, 1) := by decide +kernel
theorem d_P_pop_15 : decode b_P_pop 15 = .ok (.getfield 21, 3) := by decide +kernel
theorem d_P_pop_18 : decode b_P_pop 18 = .ok (.iaload, 1) := by decide +kernel
theorem d_P_pop_19 : decode b_P_pop 19 = .ok (.ireturn, 1) := by decide +kernel
def w_P_pop (cp : Nat) (i : Nat) (s0 : KS) (Φ : Int32 → KS → Prop) : Prop := ∀ s1 : KS, s1 = w3 s0 1 i 4 ((s0 1 i 4) - (1 : Int32)) → vp_in (s1 1 i 4) 32 ∧ Φ (s1 3 i (s1 1 i 4).toNatClampNeg) s1
set_option maxHeartbeats 4000000 in
set_option maxRecDepth 100000 in
theorem c_P_pop (l : Launch) (E : gE) (s0 : KS) (i : Nat) (hi : i < 16) (Φ : Int32 → KS → Prop) (hw : w_P_pop (eN E) i s0 Φ) : gMi l y_P_pop v_P_pop m_P_pop E KK [.ref (ea E 1 i)] s0 Φ := by
  intro sz
  refine Met.ofW (cc := b_P_pop) (maxL := 1) (ret := (some .int)) (by decide) rfl ?_
  intro p e s m args below meth c s₁ B hml hv
  obtain ⟨rfl, hsz, hP, hK, hD, hX⟩ := hv
  have hx := B.exec
  have hb := B.bytes
  have hr := B.returns
  have hts := atoms_spec (ws := v_P_pop) B.pre
  have hG : ∀ w ∈ gG, w.before _ s = true := fun w h => hts w (List.mem_cons_of_mem _ h)
  have hown : s.vm.findClass R_P = some m.cls := findClass_of_methodNamed B.named
  have hlocks := B.notSynchronized
  subst hsz
  obtain ⟨A, hAe⟩ : ∃ A, A = gA E KK s.heap.size := ⟨_, rfl⟩
  rw [← hAe] at hD hX ⊢
  have hV : gV E KK A s0 s s.heap [] := ⟨hP, hD, va_S.rf⟩
  have hl := lv_entry ([.ref (ea E 1 i)] : List Value) (n := 1) (Nat.le_of_ble_eq_true rfl)
  rw [lg_entry_eq]
  generalize (lg_sl ([.ref (ea E 1 i)] : List Value) ++ List.replicate (1 - (lg_sl ([.ref (ea E 1 i)] : List Value)).length) Slot.unset).toArray = ls at hl ⊢
  have hl : lv_has ls 1 [(0, .ref (ea E 1 i))] := hl
  unfold w_P_pop at hw
  refine lv_aload_n hx hb d_P_pop_0 rfl (lv_at hl 0 rfl) ?_
  refine lv_dup hx hb d_P_pop_1 rfl ?_
  refine kg_P_P_height hx hb hG hown hK hV hi d_P_pop_2 ?_
  refine lv_iconst (v := 1) hx hb d_P_pop_5 (by decide) ?_
  refine lv_isub hx hb d_P_pop_6 ?_
  refine kp_P_P_height hx hb hG hown hK hV hi d_P_pop_7 (fun s1 H locs es1 hV => ?_)
  have hw := hw s1 es1
  refine lv_aload_n hx hb d_P_pop_10 rfl (lv_at hl 0 rfl) ?_
  refine kg_P_P_words hx hb hG hown hK hV hi d_P_pop_11 ?_
  refine lv_aload_n hx hb d_P_pop_14 rfl (lv_at hl 0 rfl) ?_
  refine kg_P_P_height hx hb hG hown hK hV hi d_P_pop_15 ?_
  refine kl_3 hx hb hK hV hi hw.1 d_P_pop_18 ?_
  have hw := hw.2
  exact kr_i hx hb hr hV hK hX hAe hw d_P_pop_19
theorem d_P_push_0 : decode b_P_push 0 = .ok (.aload_n 0, 1) := by decide +kernel
theorem d_P_push_1 : decode b_P_push 1 = .ok (.getfield 15, 3) := by decide +kernel
theorem d_P_push_4 : decode b_P_push 4 = .ok (.aload_n 0, 1) := by decide +kernel
theorem d_P_push_5 : decode b_P_push 5 = .ok (.getfield 21, 3) := by decide +kernel
theorem d_P_push_8 : decode b_P_push 8 = .ok (.iload_n 1, 1) := by decide +kernel
theorem d_P_push_9 : decode b_P_push 9 = .ok (.iastore, 1) := by decide +kernel
theorem d_P_push_10 : decode b_P_push 10 = .ok (.aload_n 0, 1) := by decide +kernel
theorem d_P_push_11 : decode b_P_push 11 = .ok (.dup, 1) := by decide +kernel
theorem d_P_push_12 : decode b_P_push 12 = .ok (.getfield 21, 3) := by decide +kernel
theorem d_P_push_15 : decode b_P_push 15 = .ok (.iconst 1, 1) := by decide +kernel
theorem d_P_push_16 : decode b_P_push 16 = .ok (.iadd, 1) := by decide +kernel
theorem d_P_push_17 : decode b_P_push 17 = .ok (.putfield 21, 3) := by decide +kernel
theorem d_P_push_20 : decode b_P_push 20 = .ok (.return_, 1) := by decide +kernel
def w_P_push (cp : Nat) (i : Nat) (x1 : Int32) (s0 : KS) (Φ : KS → Prop) : Prop := vp_in (s0 1 i 4) 32 ∧ ∀ s1 : KS, s1 = w3 s0 3 i (s0 1 i 4).toNatClampNeg x1 → ∀ s2 : KS, s2 = w3 s1 1 i 4 ((s1 1 i 4) + (1 : Int32)) → Φ s2
set_option maxHeartbeats 4000000 in
set_option maxRecDepth 100000 in
theorem c_P_push (l : Launch) (E : gE) (s0 : KS) (i : Nat) (hi : i < 16) (x1 : Int32) (Φ : KS → Prop) (hw : w_P_push (eN E) i x1 s0 Φ) : gMv l y_P_push v_P_push m_P_push E KK [.ref (ea E 1 i), .int x1] s0 Φ := by
  intro sz
  refine Met.ofW (cc := b_P_push) (maxL := 2) (ret := none) (by decide) rfl ?_
  intro p e s m args below meth c s₁ B hml hv
  obtain ⟨rfl, hsz, hP, hK, hD, hX⟩ := hv
  have hx := B.exec
  have hb := B.bytes
  have hr := B.returns
  have hts := atoms_spec (ws := v_P_push) B.pre
  have hG : ∀ w ∈ gG, w.before _ s = true := fun w h => hts w (List.mem_cons_of_mem _ h)
  have hown : s.vm.findClass R_P = some m.cls := findClass_of_methodNamed B.named
  have hlocks := B.notSynchronized
  subst hsz
  obtain ⟨A, hAe⟩ : ∃ A, A = gA E KK s.heap.size := ⟨_, rfl⟩
  rw [← hAe] at hD hX ⊢
  have hV : gV E KK A s0 s s.heap [] := ⟨hP, hD, va_S.rf⟩
  have hl := lv_entry ([.ref (ea E 1 i), .int x1] : List Value) (n := 2) (Nat.le_of_ble_eq_true rfl)
  rw [lg_entry_eq]
  generalize (lg_sl ([.ref (ea E 1 i), .int x1] : List Value) ++ List.replicate (2 - (lg_sl ([.ref (ea E 1 i), .int x1] : List Value)).length) Slot.unset).toArray = ls at hl ⊢
  have hl : lv_has ls 2 [(0, .ref (ea E 1 i)), (1, .int x1)] := hl
  unfold w_P_push at hw
  refine lv_aload_n hx hb d_P_push_0 rfl (lv_at hl 0 rfl) ?_
  refine kg_P_P_words hx hb hG hown hK hV hi d_P_push_1 ?_
  refine lv_aload_n hx hb d_P_push_4 rfl (lv_at hl 0 rfl) ?_
  refine kg_P_P_height hx hb hG hown hK hV hi d_P_push_5 ?_
  refine lv_iload_n hx hb d_P_push_8 rfl (lv_at hl 1 rfl) ?_
  refine ks_3 hx hb hK hV hi hw.1 d_P_push_9 (fun s1 H locs es1 hV => ?_)
  have hw := hw.2 s1 es1
  refine lv_aload_n hx hb d_P_push_10 rfl (lv_at hl 0 rfl) ?_
  refine lv_dup hx hb d_P_push_11 rfl ?_
  refine kg_P_P_height hx hb hG hown hK hV hi d_P_push_12 ?_
  refine lv_iconst (v := 1) hx hb d_P_push_15 (by decide) ?_
  refine lv_iadd hx hb d_P_push_16 ?_
  refine kp_P_P_height hx hb hG hown hK hV hi d_P_push_17 (fun s2 H locs es2 hV => ?_)
  have hw := hw s2 es2
  exact kr_v hx hb hr hV hK hX hAe hw d_P_push_20
theorem d_P_pushTwo_0 : decode b_P_pushTwo 0 = .ok (.aload_n 0, 1) := by decide +kernel
theorem d_P_pushTwo_1 : decode b_P_pushTwo 1 = .ok (.iload_n 1, 1) := by decide +kernel
theorem d_P_pushTwo_2 : decode b_P_pushTwo 2 = .ok (.invokevirtual 65, 3) := by decide +kernel
theorem d_P_pushTwo_5 : decode b_P_pushTwo 5 = .ok (.aload_n 0, 1) := by decide +kernel
theorem d_P_pushTwo_6 : decode b_P_pushTwo 6 = .ok (.iload_n 2, 1) := by decide +kernel
theorem d_P_pushTwo_7 : decode b_P_pushTwo 7 = .ok (.invokevirtual 65, 3) := by decide +kernel
theorem d_P_pushTwo_10 : decode b_P_pushTwo 10 = .ok (.return_, 1) := by decide +kernel
def w_P_pushTwo (cp : Nat) (i : Nat) (x1 : Int32) (x2 : Int32) (s0 : KS) (Φ : KS → Prop) : Prop := w_P_push cp i x1 s0 (fun s1 => w_P_push cp i x2 s1 (fun s2 => Φ s2))
set_option maxHeartbeats 4000000 in
set_option maxRecDepth 100000 in
theorem c_P_pushTwo (l : Launch) (E : gE) (s0 : KS) (i : Nat) (hi : i < 16) (x1 : Int32) (x2 : Int32) (Φ : KS → Prop) (hw : w_P_pushTwo (eN E) i x1 x2 s0 Φ) : gMv l y_P_pushTwo v_P_pushTwo m_P_pushTwo E KK [.ref (ea E 1 i), .int x1, .int x2] s0 Φ := by
  intro sz
  refine Met.ofW (cc := b_P_pushTwo) (maxL := 3) (ret := none) (by decide) rfl ?_
  intro p e s m args below meth c s₁ B hml hv
  obtain ⟨rfl, hsz, hP, hK, hD, hX⟩ := hv
  have hx := B.exec
  have hb := B.bytes
  have hr := B.returns
  have hts := atoms_spec (ws := v_P_pushTwo) B.pre
  have hG : ∀ w ∈ gG, w.before _ s = true := fun w h => hts w (List.mem_cons_of_mem _ h)
  have hown : s.vm.findClass R_P = some m.cls := findClass_of_methodNamed B.named
  have hlocks := B.notSynchronized
  subst hsz
  obtain ⟨A, hAe⟩ : ∃ A, A = gA E KK s.heap.size := ⟨_, rfl⟩
  rw [← hAe] at hD hX ⊢
  have hV : gV E KK A s0 s s.heap [] := ⟨hP, hD, va_S.rf⟩
  have hl := lv_entry ([.ref (ea E 1 i), .int x1, .int x2] : List Value) (n := 3) (Nat.le_of_ble_eq_true rfl)
  rw [lg_entry_eq]
  generalize (lg_sl ([.ref (ea E 1 i), .int x1, .int x2] : List Value) ++ List.replicate (3 - (lg_sl ([.ref (ea E 1 i), .int x1, .int x2] : List Value)).length) Slot.unset).toArray = ls at hl ⊢
  have hl : lv_has ls 3 [(0, .ref (ea E 1 i)), (1, .int x1), (2, .int x2)] := hl
  unfold w_P_pushTwo at hw
  refine lv_aload_n hx hb d_P_pushTwo_0 rfl (lv_at hl 0 rfl) ?_
  refine lv_iload_n hx hb d_P_pushTwo_1 rfl (lv_at hl 1 rfl) ?_
  refine kc_P_P_push hx hb hml hown hts hV hK hX hAe (c_P_push l E s0 i hi x1 _ hw) hi hl.1 (Nat.le_of_ble_eq_true rfl) d_P_pushTwo_2 (Nat.le_of_ble_eq_true rfl) (Nat.le_of_ble_eq_true rfl) (fun s1 H locs hw hV => ?_)
  refine lv_aload_n hx hb d_P_pushTwo_5 rfl (lv_at hl 0 rfl) ?_
  refine lv_iload_n hx hb d_P_pushTwo_6 rfl (lv_at hl 2 rfl) ?_
  refine kc_P_P_push hx hb hml hown hts hV hK hX hAe (c_P_push l E s1 i hi x2 _ hw) hi hl.1 (Nat.le_of_ble_eq_true rfl) d_P_pushTwo_7 (Nat.le_of_ble_eq_true rfl) (Nat.le_of_ble_eq_true rfl) (fun s2 H locs hw hV => ?_)
  exact kr_v hx hb hr hV hK hX hAe hw d_P_pushTwo_10
theorem d_P_kind_0 : decode b_P_kind 0 = .ok (.aload_n 0, 1) := by decide +kernel
theorem d_P_kind_1 : decode b_P_kind 1 = .ok (.getfield 9, 3) := by decide +kernel
theorem d_P_kind_4 : decode b_P_kind 4 = .ok (.aload_n 0, 1) := by decide +kernel
theorem d_P_kind_5 : decode b_P_kind 5 = .ok (.getfield 25, 3) := by decide +kernel
theorem d_P_kind_8 : decode b_P_kind 8 = .ok (.iaload, 1) := by decide +kernel
theorem d_P_kind_9 : decode b_P_kind 9 = .ok (.sipush 255, 3) := by decide +kernel
theorem d_P_kind_12 : decode b_P_kind 12 = .ok (.iand, 1) := by decide +kernel
theorem d_P_kind_13 : decode b_P_kind 13 = .ok (.ireturn, 1) := by decide +kernel
def w_P_kind (cp : Nat) (i : Nat) (s0 : KS) (Φ : Int32 → KS → Prop) : Prop := vp_in (s0 1 i 5) 128 ∧ Φ ((s0 2 i (s0 1 i 5).toNatClampNeg) &&& (255 : Int32)) s0
set_option maxHeartbeats 4000000 in
set_option maxRecDepth 100000 in
theorem c_P_kind (l : Launch) (E : gE) (s0 : KS) (i : Nat) (hi : i < 16) (Φ : Int32 → KS → Prop) (hw : w_P_kind (eN E) i s0 Φ) : gMi l y_P_kind v_P_kind m_P_kind E KK [.ref (ea E 1 i)] s0 Φ := by
  intro sz
  refine Met.ofW (cc := b_P_kind) (maxL := 1) (ret := (some .int)) (by decide) rfl ?_
  intro p e s m args below meth c s₁ B hml hv
  obtain ⟨rfl, hsz, hP, hK, hD, hX⟩ := hv
  have hx := B.exec
  have hb := B.bytes
  have hr := B.returns
  have hts := atoms_spec (ws := v_P_kind) B.pre
  have hG : ∀ w ∈ gG, w.before _ s = true := fun w h => hts w (List.mem_cons_of_mem _ h)
  have hown : s.vm.findClass R_P = some m.cls := findClass_of_methodNamed B.named
  have hlocks := B.notSynchronized
  subst hsz
  obtain ⟨A, hAe⟩ : ∃ A, A = gA E KK s.heap.size := ⟨_, rfl⟩
  rw [← hAe] at hD hX ⊢
  have hV : gV E KK A s0 s s.heap [] := ⟨hP, hD, va_S.rf⟩
  have hl := lv_entry ([.ref (ea E 1 i)] : List Value) (n := 1) (Nat.le_of_ble_eq_true rfl)
  rw [lg_entry_eq]
  generalize (lg_sl ([.ref (ea E 1 i)] : List Value) ++ List.replicate (1 - (lg_sl ([.ref (ea E 1 i)] : List Value)).length) Slot.unset).toArray = ls at hl ⊢
  have hl : lv_has ls 1 [(0, .ref (ea E 1 i))] := hl
  unfold w_P_kind at hw
  refine lv_aload_n hx hb d_P_kind_0 rfl (lv_at hl 0 rfl) ?_
  refine kg_P_P_memory hx hb hG hown hK hV hi d_P_kind_1 ?_
  refine lv_aload_n hx hb d_P_kind_4 rfl (lv_at hl 0 rfl) ?_
  refine kg_P_P_place hx hb hG hown hK hV hi d_P_kind_5 ?_
  refine kl_2 hx hb hK hV hi hw.1 d_P_kind_8 ?_
  have hw := hw.2
  refine lv_sipush (v := 255) hx hb d_P_kind_9 (by decide) ?_
  refine lv_iand hx hb d_P_kind_12 ?_
  exact kr_i hx hb hr hV hK hX hAe hw d_P_kind_13
theorem d_P_operand_0 : decode b_P_operand 0 = .ok (.aload_n 0, 1) := by decide +kernel
theorem d_P_operand_1 : decode b_P_operand 1 = .ok (.getfield 9, 3) := by decide +kernel
theorem d_P_operand_4 : decode b_P_operand 4 = .ok (.aload_n 0, 1) := by decide +kernel
theorem d_P_operand_5 : decode b_P_operand 5 = .ok (.getfield 25, 3) := by decide +kernel
theorem d_P_operand_8 : decode b_P_operand 8 = .ok (.iaload, 1) := by decide +kernel
theorem d_P_operand_9 : decode b_P_operand 9 = .ok (.bipush 8, 2) := by decide +kernel
theorem d_P_operand_11 : decode b_P_operand 11 = .ok (.ishr, 1) := by decide +kernel
theorem d_P_operand_12 : decode b_P_operand 12 = .ok (.ireturn, 1) := by decide +kernel
def w_P_operand (cp : Nat) (i : Nat) (s0 : KS) (Φ : Int32 → KS → Prop) : Prop := vp_in (s0 1 i 5) 128 ∧ Φ ((s0 2 i (s0 1 i 5).toNatClampNeg) >>> ((8 : Int32) &&& 31)) s0
set_option maxHeartbeats 4000000 in
set_option maxRecDepth 100000 in
theorem c_P_operand (l : Launch) (E : gE) (s0 : KS) (i : Nat) (hi : i < 16) (Φ : Int32 → KS → Prop) (hw : w_P_operand (eN E) i s0 Φ) : gMi l y_P_operand v_P_operand m_P_operand E KK [.ref (ea E 1 i)] s0 Φ := by
  intro sz
  refine Met.ofW (cc := b_P_operand) (maxL := 1) (ret := (some .int)) (by decide) rfl ?_
  intro p e s m args below meth c s₁ B hml hv
  obtain ⟨rfl, hsz, hP, hK, hD, hX⟩ := hv
  have hx := B.exec
  have hb := B.bytes
  have hr := B.returns
  have hts := atoms_spec (ws := v_P_operand) B.pre
  have hG : ∀ w ∈ gG, w.before _ s = true := fun w h => hts w (List.mem_cons_of_mem _ h)
  have hown : s.vm.findClass R_P = some m.cls := findClass_of_methodNamed B.named
  have hlocks := B.notSynchronized
  subst hsz
  obtain ⟨A, hAe⟩ : ∃ A, A = gA E KK s.heap.size := ⟨_, rfl⟩
  rw [← hAe] at hD hX ⊢
  have hV : gV E KK A s0 s s.heap [] := ⟨hP, hD, va_S.rf⟩
  have hl := lv_entry ([.ref (ea E 1 i)] : List Value) (n := 1) (Nat.le_of_ble_eq_true rfl)
  rw [lg_entry_eq]
  generalize (lg_sl ([.ref (ea E 1 i)] : List Value) ++ List.replicate (1 - (lg_sl ([.ref (ea E 1 i)] : List Value)).length) Slot.unset).toArray = ls at hl ⊢
  have hl : lv_has ls 1 [(0, .ref (ea E 1 i))] := hl
  unfold w_P_operand at hw
  refine lv_aload_n hx hb d_P_operand_0 rfl (lv_at hl 0 rfl) ?_
  refine kg_P_P_memory hx hb hG hown hK hV hi d_P_operand_1 ?_
  refine lv_aload_n hx hb d_P_operand_4 rfl (lv_at hl 0 rfl) ?_
  refine kg_P_P_place hx hb hG hown hK hV hi d_P_operand_5 ?_
  refine kl_2 hx hb hK hV hi hw.1 d_P_operand_8 ?_
  have hw := hw.2
  refine lv_bipush (v := 8) hx hb d_P_operand_9 (by decide) ?_
  refine lv_ishr hx hb d_P_operand_11 ?_
  exact kr_i hx hb hr hV hK hX hAe hw d_P_operand_12
theorem d_P_isInMemory_0 : decode b_P_isInMemory 0 = .ok (.iload_n 0, 1) := by decide +kernel
theorem d_P_isInMemory_1 : decode b_P_isInMemory 1 = .ok (.ifCond .lt 14, 3) := by decide +kernel
theorem d_P_isInMemory_4 : decode b_P_isInMemory 4 = .ok (.iload_n 0, 1) := by decide +kernel
theorem d_P_isInMemory_5 : decode b_P_isInMemory 5 = .ok (.sipush 128, 3) := by decide +kernel
theorem d_P_isInMemory_8 : decode b_P_isInMemory 8 = .ok (.if_icmp .ge 7, 3) := by decide +kernel
theorem d_P_isInMemory_11 : decode b_P_isInMemory 11 = .ok (.iconst 1, 1) := by decide +kernel
theorem d_P_isInMemory_12 : decode b_P_isInMemory 12 = .ok (.goto 4, 3) := by decide +kernel
theorem d_P_isInMemory_15 : decode b_P_isInMemory 15 = .ok (.iconst 0, 1) := by decide +kernel
theorem d_P_isInMemory_16 : decode b_P_isInMemory 16 = .ok (.ireturn, 1) := by decide +kernel
def w_P_isInMemory (cp : Nat) (x0 : Int32) (s0 : KS) (Φ : Int32 → KS → Prop) : Prop := ((x0 < 0 → Φ (0 : Int32) s0) ∧ (¬ x0 < 0 → (((128 : Int32) ≤ x0 → Φ (0 : Int32) s0) ∧ (¬ (128 : Int32) ≤ x0 → Φ (1 : Int32) s0))))
set_option maxHeartbeats 4000000 in
set_option maxRecDepth 100000 in
theorem c_P_isInMemory (l : Launch) (E : gE) (s0 : KS) (x0 : Int32) (Φ : Int32 → KS → Prop) (hw : w_P_isInMemory (eN E) x0 s0 Φ) : gMi l y_P_isInMemory v_P_isInMemory m_P_isInMemory E KK [.int x0] s0 Φ := by
  intro sz
  refine Met.ofW (cc := b_P_isInMemory) (maxL := 1) (ret := (some .boolean)) (by decide) rfl ?_
  intro p e s m args below meth c s₁ B hml hv
  obtain ⟨rfl, hsz, hP, hK, hD, hX⟩ := hv
  have hx := B.exec
  have hb := B.bytes
  have hr := B.returns
  have hts := atoms_spec (ws := v_P_isInMemory) B.pre
  have hG : ∀ w ∈ gG, w.before _ s = true := fun w h => hts w (List.mem_cons_of_mem _ h)
  have hown : s.vm.findClass R_P = some m.cls := findClass_of_methodNamed B.named
  have hlocks := B.notSynchronized
  subst hsz
  obtain ⟨A, hAe⟩ : ∃ A, A = gA E KK s.heap.size := ⟨_, rfl⟩
  rw [← hAe] at hD hX ⊢
  have hV : gV E KK A s0 s s.heap [] := ⟨hP, hD, va_S.rf⟩
  have hl := lv_entry ([.int x0] : List Value) (n := 1) (Nat.le_of_ble_eq_true rfl)
  rw [lg_entry_eq]
  generalize (lg_sl ([.int x0] : List Value) ++ List.replicate (1 - (lg_sl ([.int x0] : List Value)).length) Slot.unset).toArray = ls at hl ⊢
  have hl : lv_has ls 1 [(0, .int x0)] := hl
  unfold w_P_isInMemory at hw
  refine lv_iload_n hx hb d_P_isInMemory_0 rfl (lv_at hl 0 rfl) ?_
  refine lv_if_lt (tgt := 15) hx hb d_P_isInMemory_1 rfl (fun hc => ?_) (fun hc => ?_)
  · have hw := hw.1 hc
    refine lv_iconst (v := 0) hx hb d_P_isInMemory_15 (by decide) ?_
    exact kr_z hx hb hr hV hK hX hAe (by decide) hw d_P_isInMemory_16
  · have hw := hw.2 hc
    refine lv_iload_n hx hb d_P_isInMemory_4 rfl (lv_at hl 0 rfl) ?_
    refine lv_sipush (v := 128) hx hb d_P_isInMemory_5 (by decide) ?_
    refine lv_icmp_ge (tgt := 15) hx hb d_P_isInMemory_8 rfl (fun hc => ?_) (fun hc => ?_)
    · have hw := hw.1 hc
      refine lv_iconst (v := 0) hx hb d_P_isInMemory_15 (by decide) ?_
      exact kr_z hx hb hr hV hK hX hAe (by decide) hw d_P_isInMemory_16
    · have hw := hw.2 hc
      refine lv_iconst (v := 1) hx hb d_P_isInMemory_11 (by decide) ?_
      refine lv_goto (tgt := 16) hx hb d_P_isInMemory_12 rfl ?_
      exact kr_z hx hb hr hV hK hX hAe (by decide) hw d_P_isInMemory_16
theorem d_P_findFault_0 : decode b_P_findFault 0 = .ok (.aload_n 0, 1) := by decide +kernel
theorem d_P_findFault_1 : decode b_P_findFault 1 = .ok (.getfield 25, 3) := by decide +kernel
theorem d_P_findFault_4 : decode b_P_findFault 4 = .ok (.invokestatic 69, 3) := by decide +kernel
theorem d_P_findFault_7 : decode b_P_findFault 7 = .ok (.ifCond .ne 5, 3) := by decide +kernel
theorem d_P_findFault_10 : decode b_P_findFault 10 = .ok (.iconst 4, 1) := by decide +kernel
theorem d_P_findFault_11 : decode b_P_findFault 11 = .ok (.ireturn, 1) := by decide +kernel
theorem d_P_findFault_12 : decode b_P_findFault 12 = .ok (.aload_n 0, 1) := by decide +kernel
theorem d_P_findFault_13 : decode b_P_findFault 13 = .ok (.invokevirtual 73, 3) := by decide +kernel
theorem d_P_findFault_16 : decode b_P_findFault 16 = .ok (.istore_n 1, 1) := by decide +kernel
theorem d_P_findFault_17 : decode b_P_findFault 17 = .ok (.iload_n 1, 1) := by decide +kernel
theorem d_P_findFault_18 : decode b_P_findFault 18 = .ok (.getstatic 76, 3) := by decide +kernel
theorem d_P_findFault_21 : decode b_P_findFault 21 = .ok (.arraylength, 1) := by decide +kernel
theorem d_P_findFault_22 : decode b_P_findFault 22 = .ok (.if_icmp .ge 12, 3) := by decide +kernel
theorem d_P_findFault_25 : decode b_P_findFault 25 = .ok (.getstatic 76, 3) := by decide +kernel
theorem d_P_findFault_28 : decode b_P_findFault 28 = .ok (.iload_n 1, 1) := by decide +kernel
theorem d_P_findFault_29 : decode b_P_findFault 29 = .ok (.iaload, 1) := by decide +kernel
theorem d_P_findFault_30 : decode b_P_findFault 30 = .ok (.iconst (-1), 1) := by decide +kernel
theorem d_P_findFault_31 : decode b_P_findFault 31 = .ok (.if_icmp .ne 5, 3) := by decide +kernel
theorem d_P_findFault_34 : decode b_P_findFault 34 = .ok (.iconst 5, 1) := by decide +kernel
theorem d_P_findFault_35 : decode b_P_findFault 35 = .ok (.ireturn, 1) := by decide +kernel
theorem d_P_findFault_36 : decode b_P_findFault 36 = .ok (.aload_n 0, 1) := by decide +kernel
theorem d_P_findFault_37 : decode b_P_findFault 37 = .ok (.getfield 21, 3) := by decide +kernel
theorem d_P_findFault_40 : decode b_P_findFault 40 = .ok (.getstatic 76, 3) := by decide +kernel
theorem d_P_findFault_43 : decode b_P_findFault 43 = .ok (.iload_n 1, 1) := by decide +kernel
theorem d_P_findFault_44 : decode b_P_findFault 44 = .ok (.iaload, 1) := by decide +kernel
theorem d_P_findFault_45 : decode b_P_findFault 45 = .ok (.if_icmp .ge 5, 3) := by decide +kernel
theorem d_P_findFault_48 : decode b_P_findFault 48 = .ok (.iconst 1, 1) := by decide +kernel
theorem d_P_findFault_49 : decode b_P_findFault 49 = .ok (.ireturn, 1) := by decide +kernel
theorem d_P_findFault_50 : decode b_P_findFault 50 = .ok (.iload_n 1, 1) := by decide +kernel
theorem d_P_findFault_51 : decode b_P_findFault 51 = .ok (.tableswitch 115 8 21 #[69, 69, 115, 115, 115, 115, 115, 115, 115, 115, 83, 83, 99, 99], 69) := by decide +kernel
theorem d_P_findFault_120 : decode b_P_findFault 120 = .ok (.aload_n 0, 1) := by decide +kernel
theorem d_P_findFault_121 : decode b_P_findFault 121 = .ok (.invokevirtual 79, 3) := by decide +kernel
theorem d_P_findFault_124 : decode b_P_findFault 124 = .ok (.ifCond .ne 8, 3) := by decide +kernel
theorem d_P_findFault_127 : decode b_P_findFault 127 = .ok (.bipush 6, 2) := by decide +kernel
theorem d_P_findFault_129 : decode b_P_findFault 129 = .ok (.goto 4, 3) := by decide +kernel
theorem d_P_findFault_132 : decode b_P_findFault 132 = .ok (.iconst 0, 1) := by decide +kernel
theorem d_P_findFault_133 : decode b_P_findFault 133 = .ok (.ireturn, 1) := by decide +kernel
theorem d_P_findFault_134 : decode b_P_findFault 134 = .ok (.aload_n 0, 1) := by decide +kernel
theorem d_P_findFault_135 : decode b_P_findFault 135 = .ok (.invokevirtual 82, 3) := by decide +kernel
theorem d_P_findFault_138 : decode b_P_findFault 138 = .ok (.invokestatic 69, 3) := by decide +kernel
theorem d_P_findFault_141 : decode b_P_findFault 141 = .ok (.ifCond .eq 7, 3) := by decide +kernel
theorem d_P_findFault_144 : decode b_P_findFault 144 = .ok (.iconst 0, 1) := by decide +kernel
theorem d_P_findFault_145 : decode b_P_findFault 145 = .ok (.goto 4, 3) := by decide +kernel
theorem d_P_findFault_148 : decode b_P_findFault 148 = .ok (.iconst 3, 1) := by decide +kernel
theorem d_P_findFault_149 : decode b_P_findFault 149 = .ok (.ireturn, 1) := by decide +kernel
theorem d_P_findFault_150 : decode b_P_findFault 150 = .ok (.aload_n 0, 1) := by decide +kernel
theorem d_P_findFault_151 : decode b_P_findFault 151 = .ok (.invokevirtual 79, 3) := by decide +kernel
theorem d_P_findFault_154 : decode b_P_findFault 154 = .ok (.invokestatic 69, 3) := by decide +kernel
theorem d_P_findFault_157 : decode b_P_findFault 157 = .ok (.ifCond .eq 7, 3) := by decide +kernel
theorem d_P_findFault_160 : decode b_P_findFault 160 = .ok (.iconst 0, 1) := by decide +kernel
theorem d_P_findFault_161 : decode b_P_findFault 161 = .ok (.goto 4, 3) := by decide +kernel
theorem d_P_findFault_164 : decode b_P_findFault 164 = .ok (.iconst 3, 1) := by decide +kernel
theorem d_P_findFault_165 : decode b_P_findFault 165 = .ok (.ireturn, 1) := by decide +kernel
theorem d_P_findFault_166 : decode b_P_findFault 166 = .ok (.iconst 0, 1) := by decide +kernel
theorem d_P_findFault_167 : decode b_P_findFault 167 = .ok (.ireturn, 1) := by decide +kernel
def w_P_findFault (cp : Nat) (i : Nat) (s0 : KS) (Φ : Int32 → KS → Prop) : Prop := w_P_isInMemory cp (s0 1 i 5) s0 (fun r2 s1 => ((¬ r2 = 0 → w_P_kind cp i s1 (fun r4 s3 => (((42 : Int32) ≤ r4 → Φ (5 : Int32) s3) ∧ (¬ (42 : Int32) ≤ r4 → vp_in r4 42 ∧ ((¬ (tL r4.toNatClampNeg) = (-1 : Int32) → vp_in r4 42 ∧ (((tL r4.toNatClampNeg) ≤ (s3 1 i 4) → ((r4 = 8 → w_P_top cp i s3 (fun r6 s5 => ((¬ r6 = 0 → Φ (0 : Int32) s5) ∧ (r6 = 0 → Φ (6 : Int32) s5)))) ∧ ((r4 = 9 → w_P_top cp i s3 (fun r8 s7 => ((¬ r8 = 0 → Φ (0 : Int32) s7) ∧ (r8 = 0 → Φ (6 : Int32) s7)))) ∧ ((r4 = 18 → w_P_operand cp i s3 (fun r10 s9 => w_P_isInMemory cp r10 s9 (fun r12 s11 => ((r12 = 0 → Φ (3 : Int32) s11) ∧ (¬ r12 = 0 → Φ (0 : Int32) s11))))) ∧ ((r4 = 19 → w_P_operand cp i s3 (fun r14 s13 => w_P_isInMemory cp r14 s13 (fun r16 s15 => ((r16 = 0 → Φ (3 : Int32) s15) ∧ (¬ r16 = 0 → Φ (0 : Int32) s15))))) ∧ ((r4 = 20 → w_P_top cp i s3 (fun r18 s17 => w_P_isInMemory cp r18 s17 (fun r20 s19 => ((r20 = 0 → Φ (3 : Int32) s19) ∧ (¬ r20 = 0 → Φ (0 : Int32) s19))))) ∧ ((r4 = 21 → w_P_top cp i s3 (fun r22 s21 => w_P_isInMemory cp r22 s21 (fun r24 s23 => ((r24 = 0 → Φ (3 : Int32) s23) ∧ (¬ r24 = 0 → Φ (0 : Int32) s23))))) ∧ (¬ r4 = 8 ∧ ¬ r4 = 9 ∧ ¬ r4 = 18 ∧ ¬ r4 = 19 ∧ ¬ r4 = 20 ∧ ¬ r4 = 21 → Φ (0 : Int32) s3)))))))) ∧ (¬ (tL r4.toNatClampNeg) ≤ (s3 1 i 4) → Φ (1 : Int32) s3))) ∧ ((tL r4.toNatClampNeg) = (-1 : Int32) → Φ (5 : Int32) s3)))))) ∧ (r2 = 0 → Φ (4 : Int32) s1)))
set_option maxHeartbeats 4000000 in
set_option maxRecDepth 100000 in
theorem c_P_findFault (l : Launch) (E : gE) (s0 : KS) (i : Nat) (hi : i < 16) (Φ : Int32 → KS → Prop) (hw : w_P_findFault (eN E) i s0 Φ) : gMi l y_P_findFault v_P_findFault m_P_findFault E KK [.ref (ea E 1 i)] s0 Φ := by
  intro sz
  refine Met.ofW (cc := b_P_findFault) (maxL := 2) (ret := (some .int)) (by decide) rfl ?_
  intro p e s m args below meth c s₁ B hml hv
  obtain ⟨rfl, hsz, hP, hK, hD, hX⟩ := hv
  have hx := B.exec
  have hb := B.bytes
  have hr := B.returns
  have hts := atoms_spec (ws := v_P_findFault) B.pre
  have hG : ∀ w ∈ gG, w.before _ s = true := fun w h => hts w (List.mem_cons_of_mem _ h)
  have hown : s.vm.findClass R_P = some m.cls := findClass_of_methodNamed B.named
  have hlocks := B.notSynchronized
  subst hsz
  obtain ⟨A, hAe⟩ : ∃ A, A = gA E KK s.heap.size := ⟨_, rfl⟩
  rw [← hAe] at hD hX ⊢
  have hV : gV E KK A s0 s s.heap [] := ⟨hP, hD, va_S.rf⟩
  have hl := lv_entry ([.ref (ea E 1 i)] : List Value) (n := 2) (Nat.le_of_ble_eq_true rfl)
  rw [lg_entry_eq]
  generalize (lg_sl ([.ref (ea E 1 i)] : List Value) ++ List.replicate (2 - (lg_sl ([.ref (ea E 1 i)] : List Value)).length) Slot.unset).toArray = ls at hl ⊢
  have hl : lv_has ls 2 [(0, .ref (ea E 1 i))] := hl
  unfold w_P_findFault at hw
  refine lv_aload_n hx hb d_P_findFault_0 rfl (lv_at hl 0 rfl) ?_
  refine kg_P_P_place hx hb hG hown hK hV hi d_P_findFault_1 ?_
  refine kc_P_P_isInMemory hx hb hml hown hts hV hK hX hAe (c_P_isInMemory l E s0 (s0 1 i 5) _ hw) hl.1 (Nat.le_of_ble_eq_true rfl) d_P_findFault_4 (Nat.le_of_ble_eq_true rfl) (Nat.le_of_ble_eq_true rfl) (fun r2 s1 H locs hw hV => ?_)
  refine lv_if_ne (tgt := 12) hx hb d_P_findFault_7 rfl (fun hc => ?_) (fun hc => ?_)
  · have hw := hw.1 hc
    refine lv_aload_n hx hb d_P_findFault_12 rfl (lv_at hl 0 rfl) ?_
    refine kc_P_P_kind hx hb hml hown hts hV hK hX hAe (c_P_kind l E s1 i hi _ hw) hi hl.1 (Nat.le_of_ble_eq_true rfl) d_P_findFault_13 (Nat.le_of_ble_eq_true rfl) (Nat.le_of_ble_eq_true rfl) (fun r4 s3 H locs hw hV => ?_)
    refine lv_istore_n (lv' := [(1, .int r4), (0, .ref (ea E 1 i))]) hx hb d_P_findFault_16 rfl hl (by decide) rfl (fun ls hl => ?_)
    refine lv_iload_n hx hb d_P_findFault_17 rfl (lv_at hl 0 rfl) ?_
    refine kt_LOOKS_AT hx hb hX hV hown d_P_findFault_18 ?_
    refine ktn_LOOKS_AT hx hb hX hV d_P_findFault_21 ?_
    refine lv_icmp_ge (tgt := 34) hx hb d_P_findFault_22 rfl (fun hc => ?_) (fun hc => ?_)
    · have hw := hw.1 hc
      refine lv_iconst (v := 5) hx hb d_P_findFault_34 (by decide) ?_
      exact kr_i hx hb hr hV hK hX hAe hw d_P_findFault_35
    · have hw := hw.2 hc
      refine kt_LOOKS_AT hx hb hX hV hown d_P_findFault_25 ?_
      refine lv_iload_n hx hb d_P_findFault_28 rfl (lv_at hl 0 rfl) ?_
      refine ktl_LOOKS_AT hx hb hX hV hw.1 d_P_findFault_29 ?_
      have hw := hw.2
      refine lv_iconst (v := -1) hx hb d_P_findFault_30 (by decide) ?_
      refine lv_icmp_ne (tgt := 36) hx hb d_P_findFault_31 rfl (fun hc => ?_) (fun hc => ?_)
      · have hw := hw.1 hc
        refine lv_aload_n hx hb d_P_findFault_36 rfl (lv_at hl 1 rfl) ?_
        refine kg_P_P_height hx hb hG hown hK hV hi d_P_findFault_37 ?_
        refine kt_LOOKS_AT hx hb hX hV hown d_P_findFault_40 ?_
        refine lv_iload_n hx hb d_P_findFault_43 rfl (lv_at hl 0 rfl) ?_
        refine ktl_LOOKS_AT hx hb hX hV hw.1 d_P_findFault_44 ?_
        have hw := hw.2
        refine lv_icmp_ge (tgt := 50) hx hb d_P_findFault_45 rfl (fun hc => ?_) (fun hc => ?_)
        · have hw := hw.1 hc
          refine lv_iload_n hx hb d_P_findFault_50 rfl (lv_at hl 0 rfl) ?_
          have hsw := hw
          by_cases hc8 : r4 = 8
          · have hw := hsw.1 hc8
            refine lv_tableIn (off := 69) (tgt := 120) hx hb d_P_findFault_51 (by rw [hc8]; decide) (by rw [hc8]; decide) (by rw [hc8]; decide) rfl ?_
            refine lv_aload_n hx hb d_P_findFault_120 rfl (lv_at hl 1 rfl) ?_
            refine kc_P_P_top hx hb hml hown hts hV hK hX hAe (c_P_top l E s3 i hi _ hw) hi hl.1 (Nat.le_of_ble_eq_true rfl) d_P_findFault_121 (Nat.le_of_ble_eq_true rfl) (Nat.le_of_ble_eq_true rfl) (fun r6 s5 H locs hw hV => ?_)
            refine lv_if_ne (tgt := 132) hx hb d_P_findFault_124 rfl (fun hc => ?_) (fun hc => ?_)
            · have hw := hw.1 hc
              refine lv_iconst (v := 0) hx hb d_P_findFault_132 (by decide) ?_
              exact kr_i hx hb hr hV hK hX hAe hw d_P_findFault_133
            · have hw := hw.2 hc
              refine lv_bipush (v := 6) hx hb d_P_findFault_127 (by decide) ?_
              refine lv_goto (tgt := 133) hx hb d_P_findFault_129 rfl ?_
              exact kr_i hx hb hr hV hK hX hAe hw d_P_findFault_133
          have hsw := hsw.2
          by_cases hc9 : r4 = 9
          · have hw := hsw.1 hc9
            refine lv_tableIn (off := 69) (tgt := 120) hx hb d_P_findFault_51 (by rw [hc9]; decide) (by rw [hc9]; decide) (by rw [hc9]; decide) rfl ?_
            refine lv_aload_n hx hb d_P_findFault_120 rfl (lv_at hl 1 rfl) ?_
            refine kc_P_P_top hx hb hml hown hts hV hK hX hAe (c_P_top l E s3 i hi _ hw) hi hl.1 (Nat.le_of_ble_eq_true rfl) d_P_findFault_121 (Nat.le_of_ble_eq_true rfl) (Nat.le_of_ble_eq_true rfl) (fun r8 s7 H locs hw hV => ?_)
            refine lv_if_ne (tgt := 132) hx hb d_P_findFault_124 rfl (fun hc => ?_) (fun hc => ?_)
            · have hw := hw.1 hc
              refine lv_iconst (v := 0) hx hb d_P_findFault_132 (by decide) ?_
              exact kr_i hx hb hr hV hK hX hAe hw d_P_findFault_133
            · have hw := hw.2 hc
              refine lv_bipush (v := 6) hx hb d_P_findFault_127 (by decide) ?_
              refine lv_goto (tgt := 133) hx hb d_P_findFault_129 rfl ?_
              exact kr_i hx hb hr hV hK hX hAe hw d_P_findFault_133
          have hsw := hsw.2
          by_cases hc18 : r4 = 18
          · have hw := hsw.1 hc18
            refine lv_tableIn (off := 83) (tgt := 134) hx hb d_P_findFault_51 (by rw [hc18]; decide) (by rw [hc18]; decide) (by rw [hc18]; decide) rfl ?_
            refine lv_aload_n hx hb d_P_findFault_134 rfl (lv_at hl 1 rfl) ?_
            refine kc_P_P_operand hx hb hml hown hts hV hK hX hAe (c_P_operand l E s3 i hi _ hw) hi hl.1 (Nat.le_of_ble_eq_true rfl) d_P_findFault_135 (Nat.le_of_ble_eq_true rfl) (Nat.le_of_ble_eq_true rfl) (fun r10 s9 H locs hw hV => ?_)
            refine kc_P_P_isInMemory hx hb hml hown hts hV hK hX hAe (c_P_isInMemory l E s9 r10 _ hw) hl.1 (Nat.le_of_ble_eq_true rfl) d_P_findFault_138 (Nat.le_of_ble_eq_true rfl) (Nat.le_of_ble_eq_true rfl) (fun r12 s11 H locs hw hV => ?_)
            refine lv_if_eq (tgt := 148) hx hb d_P_findFault_141 rfl (fun hc => ?_) (fun hc => ?_)
            · have hw := hw.1 hc
              refine lv_iconst (v := 3) hx hb d_P_findFault_148 (by decide) ?_
              exact kr_i hx hb hr hV hK hX hAe hw d_P_findFault_149
            · have hw := hw.2 hc
              refine lv_iconst (v := 0) hx hb d_P_findFault_144 (by decide) ?_
              refine lv_goto (tgt := 149) hx hb d_P_findFault_145 rfl ?_
              exact kr_i hx hb hr hV hK hX hAe hw d_P_findFault_149
          have hsw := hsw.2
          by_cases hc19 : r4 = 19
          · have hw := hsw.1 hc19
            refine lv_tableIn (off := 83) (tgt := 134) hx hb d_P_findFault_51 (by rw [hc19]; decide) (by rw [hc19]; decide) (by rw [hc19]; decide) rfl ?_
            refine lv_aload_n hx hb d_P_findFault_134 rfl (lv_at hl 1 rfl) ?_
            refine kc_P_P_operand hx hb hml hown hts hV hK hX hAe (c_P_operand l E s3 i hi _ hw) hi hl.1 (Nat.le_of_ble_eq_true rfl) d_P_findFault_135 (Nat.le_of_ble_eq_true rfl) (Nat.le_of_ble_eq_true rfl) (fun r14 s13 H locs hw hV => ?_)
            refine kc_P_P_isInMemory hx hb hml hown hts hV hK hX hAe (c_P_isInMemory l E s13 r14 _ hw) hl.1 (Nat.le_of_ble_eq_true rfl) d_P_findFault_138 (Nat.le_of_ble_eq_true rfl) (Nat.le_of_ble_eq_true rfl) (fun r16 s15 H locs hw hV => ?_)
            refine lv_if_eq (tgt := 148) hx hb d_P_findFault_141 rfl (fun hc => ?_) (fun hc => ?_)
            · have hw := hw.1 hc
              refine lv_iconst (v := 3) hx hb d_P_findFault_148 (by decide) ?_
              exact kr_i hx hb hr hV hK hX hAe hw d_P_findFault_149
            · have hw := hw.2 hc
              refine lv_iconst (v := 0) hx hb d_P_findFault_144 (by decide) ?_
              refine lv_goto (tgt := 149) hx hb d_P_findFault_145 rfl ?_
              exact kr_i hx hb hr hV hK hX hAe hw d_P_findFault_149
          have hsw := hsw.2
          by_cases hc20 : r4 = 20
          · have hw := hsw.1 hc20
            refine lv_tableIn (off := 99) (tgt := 150) hx hb d_P_findFault_51 (by rw [hc20]; decide) (by rw [hc20]; decide) (by rw [hc20]; decide) rfl ?_
            refine lv_aload_n hx hb d_P_findFault_150 rfl (lv_at hl 1 rfl) ?_
            refine kc_P_P_top hx hb hml hown hts hV hK hX hAe (c_P_top l E s3 i hi _ hw) hi hl.1 (Nat.le_of_ble_eq_true rfl) d_P_findFault_151 (Nat.le_of_ble_eq_true rfl) (Nat.le_of_ble_eq_true rfl) (fun r18 s17 H locs hw hV => ?_)
            refine kc_P_P_isInMemory hx hb hml hown hts hV hK hX hAe (c_P_isInMemory l E s17 r18 _ hw) hl.1 (Nat.le_of_ble_eq_true rfl) d_P_findFault_154 (Nat.le_of_ble_eq_true rfl) (Nat.le_of_ble_eq_true rfl) (fun r20 s19 H locs hw hV => ?_)
            refine lv_if_eq (tgt := 164) hx hb d_P_findFault_157 rfl (fun hc => ?_) (fun hc => ?_)
            · have hw := hw.1 hc
              refine lv_iconst (v := 3) hx hb d_P_findFault_164 (by decide) ?_
              exact kr_i hx hb hr hV hK hX hAe hw d_P_findFault_165
            · have hw := hw.2 hc
              refine lv_iconst (v := 0) hx hb d_P_findFault_160 (by decide) ?_
              refine lv_goto (tgt := 165) hx hb d_P_findFault_161 rfl ?_
              exact kr_i hx hb hr hV hK hX hAe hw d_P_findFault_165
          have hsw := hsw.2
          by_cases hc21 : r4 = 21
          · have hw := hsw.1 hc21
            refine lv_tableIn (off := 99) (tgt := 150) hx hb d_P_findFault_51 (by rw [hc21]; decide) (by rw [hc21]; decide) (by rw [hc21]; decide) rfl ?_
            refine lv_aload_n hx hb d_P_findFault_150 rfl (lv_at hl 1 rfl) ?_
            refine kc_P_P_top hx hb hml hown hts hV hK hX hAe (c_P_top l E s3 i hi _ hw) hi hl.1 (Nat.le_of_ble_eq_true rfl) d_P_findFault_151 (Nat.le_of_ble_eq_true rfl) (Nat.le_of_ble_eq_true rfl) (fun r22 s21 H locs hw hV => ?_)
            refine kc_P_P_isInMemory hx hb hml hown hts hV hK hX hAe (c_P_isInMemory l E s21 r22 _ hw) hl.1 (Nat.le_of_ble_eq_true rfl) d_P_findFault_154 (Nat.le_of_ble_eq_true rfl) (Nat.le_of_ble_eq_true rfl) (fun r24 s23 H locs hw hV => ?_)
            refine lv_if_eq (tgt := 164) hx hb d_P_findFault_157 rfl (fun hc => ?_) (fun hc => ?_)
            · have hw := hw.1 hc
              refine lv_iconst (v := 3) hx hb d_P_findFault_164 (by decide) ?_
              exact kr_i hx hb hr hV hK hX hAe hw d_P_findFault_165
            · have hw := hw.2 hc
              refine lv_iconst (v := 0) hx hb d_P_findFault_160 (by decide) ?_
              refine lv_goto (tgt := 165) hx hb d_P_findFault_161 rfl ?_
              exact kr_i hx hb hr hV hK hX hAe hw d_P_findFault_165
          have hsw := hsw.2
          have hw := hsw ⟨hc8, hc9, hc18, hc19, hc20, hc21⟩
          refine kr_dflt (g2 := F0 m 166 ls []) ?_ (fun kd => ?_)
          · refine lv_iconst (v := 0) hx hb d_P_findFault_166 (by decide) ?_
            exact kr_i hx hb hr hV hK hX hAe hw d_P_findFault_167
          by_cases hc10 : r4 = 10
          · exact lv_tableIn (off := 115) (tgt := 166) hx hb d_P_findFault_51 (by rw [hc10]; decide) (by rw [hc10]; decide) (by rw [hc10]; decide) rfl kd
          by_cases hc11 : r4 = 11
          · exact lv_tableIn (off := 115) (tgt := 166) hx hb d_P_findFault_51 (by rw [hc11]; decide) (by rw [hc11]; decide) (by rw [hc11]; decide) rfl kd
          by_cases hc12 : r4 = 12
          · exact lv_tableIn (off := 115) (tgt := 166) hx hb d_P_findFault_51 (by rw [hc12]; decide) (by rw [hc12]; decide) (by rw [hc12]; decide) rfl kd
          by_cases hc13 : r4 = 13
          · exact lv_tableIn (off := 115) (tgt := 166) hx hb d_P_findFault_51 (by rw [hc13]; decide) (by rw [hc13]; decide) (by rw [hc13]; decide) rfl kd
          by_cases hc14 : r4 = 14
          · exact lv_tableIn (off := 115) (tgt := 166) hx hb d_P_findFault_51 (by rw [hc14]; decide) (by rw [hc14]; decide) (by rw [hc14]; decide) rfl kd
          by_cases hc15 : r4 = 15
          · exact lv_tableIn (off := 115) (tgt := 166) hx hb d_P_findFault_51 (by rw [hc15]; decide) (by rw [hc15]; decide) (by rw [hc15]; decide) rfl kd
          by_cases hc16 : r4 = 16
          · exact lv_tableIn (off := 115) (tgt := 166) hx hb d_P_findFault_51 (by rw [hc16]; decide) (by rw [hc16]; decide) (by rw [hc16]; decide) rfl kd
          by_cases hc17 : r4 = 17
          · exact lv_tableIn (off := 115) (tgt := 166) hx hb d_P_findFault_51 (by rw [hc17]; decide) (by rw [hc17]; decide) (by rw [hc17]; decide) rfl kd
          have hn8 : ¬ r4.toInt = 8 := lv_neT hc8 (by decide)
          have hn9 : ¬ r4.toInt = 9 := lv_neT hc9 (by decide)
          have hn10 : ¬ r4.toInt = 10 := lv_neT hc10 (by decide)
          have hn11 : ¬ r4.toInt = 11 := lv_neT hc11 (by decide)
          have hn12 : ¬ r4.toInt = 12 := lv_neT hc12 (by decide)
          have hn13 : ¬ r4.toInt = 13 := lv_neT hc13 (by decide)
          have hn14 : ¬ r4.toInt = 14 := lv_neT hc14 (by decide)
          have hn15 : ¬ r4.toInt = 15 := lv_neT hc15 (by decide)
          have hn16 : ¬ r4.toInt = 16 := lv_neT hc16 (by decide)
          have hn17 : ¬ r4.toInt = 17 := lv_neT hc17 (by decide)
          have hn18 : ¬ r4.toInt = 18 := lv_neT hc18 (by decide)
          have hn19 : ¬ r4.toInt = 19 := lv_neT hc19 (by decide)
          have hn20 : ¬ r4.toInt = 20 := lv_neT hc20 (by decide)
          have hn21 : ¬ r4.toInt = 21 := lv_neT hc21 (by decide)
          exact lv_tableOut (tgt := 166) hx hb d_P_findFault_51 (by omega) rfl kd
        · have hw := hw.2 hc
          refine lv_iconst (v := 1) hx hb d_P_findFault_48 (by decide) ?_
          exact kr_i hx hb hr hV hK hX hAe hw d_P_findFault_49
      · have hw := hw.2 hc
        refine lv_iconst (v := 5) hx hb d_P_findFault_34 (by decide) ?_
        exact kr_i hx hb hr hV hK hX hAe hw d_P_findFault_35
  · have hw := hw.2 hc
    refine lv_iconst (v := 4) hx hb d_P_findFault_10 (by decide) ?_
    exact kr_i hx hb hr hV hK hX hAe hw d_P_findFault_11
theorem d_P_wouldOverflow_0 : decode b_P_wouldOverflow 0 = .ok (.aload_n 0, 1) := by decide +kernel
theorem d_P_wouldOverflow_1 : decode b_P_wouldOverflow 1 = .ok (.getfield 21, 3) := by decide +kernel
theorem d_P_wouldOverflow_4 : decode b_P_wouldOverflow 4 = .ok (.getstatic 85, 3) := by decide +kernel
theorem d_P_wouldOverflow_7 : decode b_P_wouldOverflow 7 = .ok (.aload_n 0, 1) := by decide +kernel
theorem d_P_wouldOverflow_8 : decode b_P_wouldOverflow 8 = .ok (.invokevirtual 73, 3) := by decide +kernel
theorem d_P_wouldOverflow_11 : decode b_P_wouldOverflow 11 = .ok (.iaload, 1) := by decide +kernel
theorem d_P_wouldOverflow_12 : decode b_P_wouldOverflow 12 = .ok (.iadd, 1) := by decide +kernel
theorem d_P_wouldOverflow_13 : decode b_P_wouldOverflow 13 = .ok (.bipush 32, 2) := by decide +kernel
theorem d_P_wouldOverflow_15 : decode b_P_wouldOverflow 15 = .ok (.if_icmp .le 7, 3) := by decide +kernel
theorem d_P_wouldOverflow_18 : decode b_P_wouldOverflow 18 = .ok (.iconst 1, 1) := by decide +kernel
theorem d_P_wouldOverflow_19 : decode b_P_wouldOverflow 19 = .ok (.goto 4, 3) := by decide +kernel
theorem d_P_wouldOverflow_22 : decode b_P_wouldOverflow 22 = .ok (.iconst 0, 1) := by decide +kernel
theorem d_P_wouldOverflow_23 : decode b_P_wouldOverflow 23 = .ok (.ireturn, 1) := by decide +kernel
def w_P_wouldOverflow (cp : Nat) (i : Nat) (s0 : KS) (Φ : Int32 → KS → Prop) : Prop := w_P_kind cp i s0 (fun r2 s1 => vp_in r2 42 ∧ ((((s0 1 i 4) + (tG r2.toNatClampNeg)) ≤ (32 : Int32) → Φ (0 : Int32) s1) ∧ (¬ ((s0 1 i 4) + (tG r2.toNatClampNeg)) ≤ (32 : Int32) → Φ (1 : Int32) s1)))
set_option maxHeartbeats 4000000 in
set_option maxRecDepth 100000 in
theorem c_P_wouldOverflow (l : Launch) (E : gE) (s0 : KS) (i : Nat) (hi : i < 16) (Φ : Int32 → KS → Prop) (hw : w_P_wouldOverflow (eN E) i s0 Φ) : gMi l y_P_wouldOverflow v_P_wouldOverflow m_P_wouldOverflow E KK [.ref (ea E 1 i)] s0 Φ := by
  intro sz
  refine Met.ofW (cc := b_P_wouldOverflow) (maxL := 1) (ret := (some .boolean)) (by decide) rfl ?_
  intro p e s m args below meth c s₁ B hml hv
  obtain ⟨rfl, hsz, hP, hK, hD, hX⟩ := hv
  have hx := B.exec
  have hb := B.bytes
  have hr := B.returns
  have hts := atoms_spec (ws := v_P_wouldOverflow) B.pre
  have hG : ∀ w ∈ gG, w.before _ s = true := fun w h => hts w (List.mem_cons_of_mem _ h)
  have hown : s.vm.findClass R_P = some m.cls := findClass_of_methodNamed B.named
  have hlocks := B.notSynchronized
  subst hsz
  obtain ⟨A, hAe⟩ : ∃ A, A = gA E KK s.heap.size := ⟨_, rfl⟩
  rw [← hAe] at hD hX ⊢
  have hV : gV E KK A s0 s s.heap [] := ⟨hP, hD, va_S.rf⟩
  have hl := lv_entry ([.ref (ea E 1 i)] : List Value) (n := 1) (Nat.le_of_ble_eq_true rfl)
  rw [lg_entry_eq]
  generalize (lg_sl ([.ref (ea E 1 i)] : List Value) ++ List.replicate (1 - (lg_sl ([.ref (ea E 1 i)] : List Value)).length) Slot.unset).toArray = ls at hl ⊢
  have hl : lv_has ls 1 [(0, .ref (ea E 1 i))] := hl
  unfold w_P_wouldOverflow at hw
  refine lv_aload_n hx hb d_P_wouldOverflow_0 rfl (lv_at hl 0 rfl) ?_
  refine kg_P_P_height hx hb hG hown hK hV hi d_P_wouldOverflow_1 ?_
  refine kt_GROWS_BY hx hb hX hV hown d_P_wouldOverflow_4 ?_
  refine lv_aload_n hx hb d_P_wouldOverflow_7 rfl (lv_at hl 0 rfl) ?_
  refine kc_P_P_kind hx hb hml hown hts hV hK hX hAe (c_P_kind l E s0 i hi _ hw) hi hl.1 (Nat.le_of_ble_eq_true rfl) d_P_wouldOverflow_8 (Nat.le_of_ble_eq_true rfl) (Nat.le_of_ble_eq_true rfl) (fun r2 s1 H locs hw hV => ?_)
  refine ktl_GROWS_BY hx hb hX hV hw.1 d_P_wouldOverflow_11 ?_
  have hw := hw.2
  refine lv_iadd hx hb d_P_wouldOverflow_12 ?_
  refine lv_bipush (v := 32) hx hb d_P_wouldOverflow_13 (by decide) ?_
  refine lv_icmp_le (tgt := 22) hx hb d_P_wouldOverflow_15 rfl (fun hc => ?_) (fun hc => ?_)
  · have hw := hw.1 hc
    refine lv_iconst (v := 0) hx hb d_P_wouldOverflow_22 (by decide) ?_
    exact kr_z hx hb hr hV hK hX hAe (by decide) hw d_P_wouldOverflow_23
  · have hw := hw.2 hc
    refine lv_iconst (v := 1) hx hb d_P_wouldOverflow_18 (by decide) ?_
    refine lv_goto (tgt := 23) hx hb d_P_wouldOverflow_19 rfl ?_
    exact kr_z hx hb hr hV hK hX hAe (by decide) hw d_P_wouldOverflow_23
theorem d_P_result_0 : decode b_P_result 0 = .ok (.iload_n 0, 1) := by decide +kernel
theorem d_P_result_1 : decode b_P_result 1 = .ok (.tableswitch 116 5 15 #[59, 63, 67, 71, 75, 79, 83, 87, 91, 98, 105], 59) := by decide +kernel
theorem d_P_result_60 : decode b_P_result 60 = .ok (.iload_n 1, 1) := by decide +kernel
theorem d_P_result_61 : decode b_P_result 61 = .ok (.iload_n 2, 1) := by decide +kernel
theorem d_P_result_62 : decode b_P_result 62 = .ok (.iadd, 1) := by decide +kernel
theorem d_P_result_63 : decode b_P_result 63 = .ok (.ireturn, 1) := by decide +kernel
theorem d_P_result_64 : decode b_P_result 64 = .ok (.iload_n 1, 1) := by decide +kernel
theorem d_P_result_65 : decode b_P_result 65 = .ok (.iload_n 2, 1) := by decide +kernel
theorem d_P_result_66 : decode b_P_result 66 = .ok (.isub, 1) := by decide +kernel
theorem d_P_result_67 : decode b_P_result 67 = .ok (.ireturn, 1) := by decide +kernel
theorem d_P_result_68 : decode b_P_result 68 = .ok (.iload_n 1, 1) := by decide +kernel
theorem d_P_result_69 : decode b_P_result 69 = .ok (.iload_n 2, 1) := by decide +kernel
theorem d_P_result_70 : decode b_P_result 70 = .ok (.imul, 1) := by decide +kernel
theorem d_P_result_71 : decode b_P_result 71 = .ok (.ireturn, 1) := by decide +kernel
theorem d_P_result_72 : decode b_P_result 72 = .ok (.iload_n 1, 1) := by decide +kernel
theorem d_P_result_73 : decode b_P_result 73 = .ok (.iload_n 2, 1) := by decide +kernel
theorem d_P_result_74 : decode b_P_result 74 = .ok (.idiv, 1) := by decide +kernel
theorem d_P_result_75 : decode b_P_result 75 = .ok (.ireturn, 1) := by decide +kernel
theorem d_P_result_76 : decode b_P_result 76 = .ok (.iload_n 1, 1) := by decide +kernel
theorem d_P_result_77 : decode b_P_result 77 = .ok (.iload_n 2, 1) := by decide +kernel
theorem d_P_result_78 : decode b_P_result 78 = .ok (.irem, 1) := by decide +kernel
theorem d_P_result_79 : decode b_P_result 79 = .ok (.ireturn, 1) := by decide +kernel
theorem d_P_result_80 : decode b_P_result 80 = .ok (.iload_n 1, 1) := by decide +kernel
theorem d_P_result_81 : decode b_P_result 81 = .ok (.iload_n 2, 1) := by decide +kernel
theorem d_P_result_82 : decode b_P_result 82 = .ok (.iand, 1) := by decide +kernel
theorem d_P_result_83 : decode b_P_result 83 = .ok (.ireturn, 1) := by decide +kernel
theorem d_P_result_84 : decode b_P_result 84 = .ok (.iload_n 1, 1) := by decide +kernel
theorem d_P_result_85 : decode b_P_result 85 = .ok (.iload_n 2, 1) := by decide +kernel
theorem d_P_result_86 : decode b_P_result 86 = .ok (.ior, 1) := by decide +kernel
theorem d_P_result_87 : decode b_P_result 87 = .ok (.ireturn, 1) := by decide +kernel
theorem d_P_result_88 : decode b_P_result 88 = .ok (.iload_n 1, 1) := by decide +kernel
theorem d_P_result_89 : decode b_P_result 89 = .ok (.iload_n 2, 1) := by decide +kernel
theorem d_P_result_90 : decode b_P_result 90 = .ok (.ixor, 1) := by decide +kernel
theorem d_P_result_91 : decode b_P_result 91 = .ok (.ireturn, 1) := by decide +kernel
theorem d_P_result_92 : decode b_P_result 92 = .ok (.iload_n 1, 1) := by decide +kernel
theorem d_P_result_93 : decode b_P_result 93 = .ok (.iload_n 2, 1) := by decide +kernel
theorem d_P_result_94 : decode b_P_result 94 = .ok (.bipush 31, 2) := by decide +kernel
theorem d_P_result_96 : decode b_P_result 96 = .ok (.iand, 1) := by decide +kernel
theorem d_P_result_97 : decode b_P_result 97 = .ok (.ishl, 1) := by decide +kernel
theorem d_P_result_98 : decode b_P_result 98 = .ok (.ireturn, 1) := by decide +kernel
theorem d_P_result_99 : decode b_P_result 99 = .ok (.iload_n 1, 1) := by decide +kernel
theorem d_P_result_100 : decode b_P_result 100 = .ok (.iload_n 2, 1) := by decide +kernel
theorem d_P_result_101 : decode b_P_result 101 = .ok (.bipush 31, 2) := by decide +kernel
theorem d_P_result_103 : decode b_P_result 103 = .ok (.iand, 1) := by decide +kernel
theorem d_P_result_104 : decode b_P_result 104 = .ok (.ishr, 1) := by decide +kernel
theorem d_P_result_105 : decode b_P_result 105 = .ok (.ireturn, 1) := by decide +kernel
theorem d_P_result_106 : decode b_P_result 106 = .ok (.iload_n 1, 1) := by decide +kernel
theorem d_P_result_107 : decode b_P_result 107 = .ok (.iload_n 2, 1) := by decide +kernel
theorem d_P_result_108 : decode b_P_result 108 = .ok (.if_icmp .ge 7, 3) := by decide +kernel
theorem d_P_result_111 : decode b_P_result 111 = .ok (.iconst 1, 1) := by decide +kernel
theorem d_P_result_112 : decode b_P_result 112 = .ok (.goto 4, 3) := by decide +kernel
theorem d_P_result_115 : decode b_P_result 115 = .ok (.iconst 0, 1) := by decide +kernel
theorem d_P_result_116 : decode b_P_result 116 = .ok (.ireturn, 1) := by decide +kernel
theorem d_P_result_117 : decode b_P_result 117 = .ok (.iload_n 1, 1) := by decide +kernel
theorem d_P_result_118 : decode b_P_result 118 = .ok (.iload_n 2, 1) := by decide +kernel
theorem d_P_result_119 : decode b_P_result 119 = .ok (.if_icmp .ne 7, 3) := by decide +kernel
theorem d_P_result_122 : decode b_P_result 122 = .ok (.iconst 1, 1) := by decide +kernel
theorem d_P_result_123 : decode b_P_result 123 = .ok (.goto 4, 3) := by decide +kernel
theorem d_P_result_126 : decode b_P_result 126 = .ok (.iconst 0, 1) := by decide +kernel
theorem d_P_result_127 : decode b_P_result 127 = .ok (.ireturn, 1) := by decide +kernel
def w_P_result (cp : Nat) (x0 : Int32) (x1 : Int32) (x2 : Int32) (s0 : KS) (Φ : Int32 → KS → Prop) : Prop := ((x0 = 5 → Φ (x1 + x2) s0) ∧ ((x0 = 6 → Φ (x1 - x2) s0) ∧ ((x0 = 7 → Φ (x1 * x2) s0) ∧ ((x0 = 8 → ¬ x2 = 0 ∧ Φ (x1 / x2) s0) ∧ ((x0 = 9 → ¬ x2 = 0 ∧ Φ (x1 - x1 / x2 * x2) s0) ∧ ((x0 = 10 → Φ (x1 &&& x2) s0) ∧ ((x0 = 11 → Φ (x1 ||| x2) s0) ∧ ((x0 = 12 → Φ (x1 ^^^ x2) s0) ∧ ((x0 = 13 → Φ (x1 <<< ((x2 &&& (31 : Int32)) &&& 31)) s0) ∧ ((x0 = 14 → Φ (x1 >>> ((x2 &&& (31 : Int32)) &&& 31)) s0) ∧ ((x0 = 15 → ((x2 ≤ x1 → Φ (0 : Int32) s0) ∧ (¬ x2 ≤ x1 → Φ (1 : Int32) s0))) ∧ (¬ x0 = 5 ∧ ¬ x0 = 6 ∧ ¬ x0 = 7 ∧ ¬ x0 = 8 ∧ ¬ x0 = 9 ∧ ¬ x0 = 10 ∧ ¬ x0 = 11 ∧ ¬ x0 = 12 ∧ ¬ x0 = 13 ∧ ¬ x0 = 14 ∧ ¬ x0 = 15 → ((¬ x1 = x2 → Φ (0 : Int32) s0) ∧ (x1 = x2 → Φ (1 : Int32) s0))))))))))))))
set_option maxHeartbeats 4000000 in
set_option maxRecDepth 100000 in
theorem c_P_result (l : Launch) (E : gE) (s0 : KS) (x0 : Int32) (x1 : Int32) (x2 : Int32) (Φ : Int32 → KS → Prop) (hw : w_P_result (eN E) x0 x1 x2 s0 Φ) : gMi l y_P_result v_P_result m_P_result E KK [.int x0, .int x1, .int x2] s0 Φ := by
  intro sz
  refine Met.ofW (cc := b_P_result) (maxL := 3) (ret := (some .int)) (by decide) rfl ?_
  intro p e s m args below meth c s₁ B hml hv
  obtain ⟨rfl, hsz, hP, hK, hD, hX⟩ := hv
  have hx := B.exec
  have hb := B.bytes
  have hr := B.returns
  have hts := atoms_spec (ws := v_P_result) B.pre
  have hG : ∀ w ∈ gG, w.before _ s = true := fun w h => hts w (List.mem_cons_of_mem _ h)
  have hown : s.vm.findClass R_P = some m.cls := findClass_of_methodNamed B.named
  have hlocks := B.notSynchronized
  subst hsz
  obtain ⟨A, hAe⟩ : ∃ A, A = gA E KK s.heap.size := ⟨_, rfl⟩
  rw [← hAe] at hD hX ⊢
  have hV : gV E KK A s0 s s.heap [] := ⟨hP, hD, va_S.rf⟩
  have hl := lv_entry ([.int x0, .int x1, .int x2] : List Value) (n := 3) (Nat.le_of_ble_eq_true rfl)
  rw [lg_entry_eq]
  generalize (lg_sl ([.int x0, .int x1, .int x2] : List Value) ++ List.replicate (3 - (lg_sl ([.int x0, .int x1, .int x2] : List Value)).length) Slot.unset).toArray = ls at hl ⊢
  have hl : lv_has ls 3 [(0, .int x0), (1, .int x1), (2, .int x2)] := hl
  unfold w_P_result at hw
  refine lv_iload_n hx hb d_P_result_0 rfl (lv_at hl 0 rfl) ?_
  have hsw := hw
  by_cases hc5 : x0 = 5
  · have hw := hsw.1 hc5
    refine lv_tableIn (off := 59) (tgt := 60) hx hb d_P_result_1 (by rw [hc5]; decide) (by rw [hc5]; decide) (by rw [hc5]; decide) rfl ?_
    refine lv_iload_n hx hb d_P_result_60 rfl (lv_at hl 1 rfl) ?_
    refine lv_iload_n hx hb d_P_result_61 rfl (lv_at hl 2 rfl) ?_
    refine lv_iadd hx hb d_P_result_62 ?_
    exact kr_i hx hb hr hV hK hX hAe hw d_P_result_63
  have hsw := hsw.2
  by_cases hc6 : x0 = 6
  · have hw := hsw.1 hc6
    refine lv_tableIn (off := 63) (tgt := 64) hx hb d_P_result_1 (by rw [hc6]; decide) (by rw [hc6]; decide) (by rw [hc6]; decide) rfl ?_
    refine lv_iload_n hx hb d_P_result_64 rfl (lv_at hl 1 rfl) ?_
    refine lv_iload_n hx hb d_P_result_65 rfl (lv_at hl 2 rfl) ?_
    refine lv_isub hx hb d_P_result_66 ?_
    exact kr_i hx hb hr hV hK hX hAe hw d_P_result_67
  have hsw := hsw.2
  by_cases hc7 : x0 = 7
  · have hw := hsw.1 hc7
    refine lv_tableIn (off := 67) (tgt := 68) hx hb d_P_result_1 (by rw [hc7]; decide) (by rw [hc7]; decide) (by rw [hc7]; decide) rfl ?_
    refine lv_iload_n hx hb d_P_result_68 rfl (lv_at hl 1 rfl) ?_
    refine lv_iload_n hx hb d_P_result_69 rfl (lv_at hl 2 rfl) ?_
    refine lv_imul hx hb d_P_result_70 ?_
    exact kr_i hx hb hr hV hK hX hAe hw d_P_result_71
  have hsw := hsw.2
  by_cases hc8 : x0 = 8
  · have hw := hsw.1 hc8
    refine lv_tableIn (off := 71) (tgt := 72) hx hb d_P_result_1 (by rw [hc8]; decide) (by rw [hc8]; decide) (by rw [hc8]; decide) rfl ?_
    refine lv_iload_n hx hb d_P_result_72 rfl (lv_at hl 1 rfl) ?_
    refine lv_iload_n hx hb d_P_result_73 rfl (lv_at hl 2 rfl) ?_
    refine lv_idiv hx hb d_P_result_74 hw.1 ?_
    have hw := hw.2
    exact kr_i hx hb hr hV hK hX hAe hw d_P_result_75
  have hsw := hsw.2
  by_cases hc9 : x0 = 9
  · have hw := hsw.1 hc9
    refine lv_tableIn (off := 75) (tgt := 76) hx hb d_P_result_1 (by rw [hc9]; decide) (by rw [hc9]; decide) (by rw [hc9]; decide) rfl ?_
    refine lv_iload_n hx hb d_P_result_76 rfl (lv_at hl 1 rfl) ?_
    refine lv_iload_n hx hb d_P_result_77 rfl (lv_at hl 2 rfl) ?_
    refine lv_irem hx hb d_P_result_78 hw.1 ?_
    have hw := hw.2
    exact kr_i hx hb hr hV hK hX hAe hw d_P_result_79
  have hsw := hsw.2
  by_cases hc10 : x0 = 10
  · have hw := hsw.1 hc10
    refine lv_tableIn (off := 79) (tgt := 80) hx hb d_P_result_1 (by rw [hc10]; decide) (by rw [hc10]; decide) (by rw [hc10]; decide) rfl ?_
    refine lv_iload_n hx hb d_P_result_80 rfl (lv_at hl 1 rfl) ?_
    refine lv_iload_n hx hb d_P_result_81 rfl (lv_at hl 2 rfl) ?_
    refine lv_iand hx hb d_P_result_82 ?_
    exact kr_i hx hb hr hV hK hX hAe hw d_P_result_83
  have hsw := hsw.2
  by_cases hc11 : x0 = 11
  · have hw := hsw.1 hc11
    refine lv_tableIn (off := 83) (tgt := 84) hx hb d_P_result_1 (by rw [hc11]; decide) (by rw [hc11]; decide) (by rw [hc11]; decide) rfl ?_
    refine lv_iload_n hx hb d_P_result_84 rfl (lv_at hl 1 rfl) ?_
    refine lv_iload_n hx hb d_P_result_85 rfl (lv_at hl 2 rfl) ?_
    refine lv_ior hx hb d_P_result_86 ?_
    exact kr_i hx hb hr hV hK hX hAe hw d_P_result_87
  have hsw := hsw.2
  by_cases hc12 : x0 = 12
  · have hw := hsw.1 hc12
    refine lv_tableIn (off := 87) (tgt := 88) hx hb d_P_result_1 (by rw [hc12]; decide) (by rw [hc12]; decide) (by rw [hc12]; decide) rfl ?_
    refine lv_iload_n hx hb d_P_result_88 rfl (lv_at hl 1 rfl) ?_
    refine lv_iload_n hx hb d_P_result_89 rfl (lv_at hl 2 rfl) ?_
    refine lv_ixor hx hb d_P_result_90 ?_
    exact kr_i hx hb hr hV hK hX hAe hw d_P_result_91
  have hsw := hsw.2
  by_cases hc13 : x0 = 13
  · have hw := hsw.1 hc13
    refine lv_tableIn (off := 91) (tgt := 92) hx hb d_P_result_1 (by rw [hc13]; decide) (by rw [hc13]; decide) (by rw [hc13]; decide) rfl ?_
    refine lv_iload_n hx hb d_P_result_92 rfl (lv_at hl 1 rfl) ?_
    refine lv_iload_n hx hb d_P_result_93 rfl (lv_at hl 2 rfl) ?_
    refine lv_bipush (v := 31) hx hb d_P_result_94 (by decide) ?_
    refine lv_iand hx hb d_P_result_96 ?_
    refine lv_ishl hx hb d_P_result_97 ?_
    exact kr_i hx hb hr hV hK hX hAe hw d_P_result_98
  have hsw := hsw.2
  by_cases hc14 : x0 = 14
  · have hw := hsw.1 hc14
    refine lv_tableIn (off := 98) (tgt := 99) hx hb d_P_result_1 (by rw [hc14]; decide) (by rw [hc14]; decide) (by rw [hc14]; decide) rfl ?_
    refine lv_iload_n hx hb d_P_result_99 rfl (lv_at hl 1 rfl) ?_
    refine lv_iload_n hx hb d_P_result_100 rfl (lv_at hl 2 rfl) ?_
    refine lv_bipush (v := 31) hx hb d_P_result_101 (by decide) ?_
    refine lv_iand hx hb d_P_result_103 ?_
    refine lv_ishr hx hb d_P_result_104 ?_
    exact kr_i hx hb hr hV hK hX hAe hw d_P_result_105
  have hsw := hsw.2
  by_cases hc15 : x0 = 15
  · have hw := hsw.1 hc15
    refine lv_tableIn (off := 105) (tgt := 106) hx hb d_P_result_1 (by rw [hc15]; decide) (by rw [hc15]; decide) (by rw [hc15]; decide) rfl ?_
    refine lv_iload_n hx hb d_P_result_106 rfl (lv_at hl 1 rfl) ?_
    refine lv_iload_n hx hb d_P_result_107 rfl (lv_at hl 2 rfl) ?_
    refine lv_icmp_ge (tgt := 115) hx hb d_P_result_108 rfl (fun hc => ?_) (fun hc => ?_)
    · have hw := hw.1 hc
      refine lv_iconst (v := 0) hx hb d_P_result_115 (by decide) ?_
      exact kr_i hx hb hr hV hK hX hAe hw d_P_result_116
    · have hw := hw.2 hc
      refine lv_iconst (v := 1) hx hb d_P_result_111 (by decide) ?_
      refine lv_goto (tgt := 116) hx hb d_P_result_112 rfl ?_
      exact kr_i hx hb hr hV hK hX hAe hw d_P_result_116
  have hsw := hsw.2
  have hw := hsw ⟨hc5, hc6, hc7, hc8, hc9, hc10, hc11, hc12, hc13, hc14, hc15⟩
  refine kr_dflt (g2 := F0 m 117 ls []) ?_ (fun kd => ?_)
  · refine lv_iload_n hx hb d_P_result_117 rfl (lv_at hl 1 rfl) ?_
    refine lv_iload_n hx hb d_P_result_118 rfl (lv_at hl 2 rfl) ?_
    refine lv_icmp_ne (tgt := 126) hx hb d_P_result_119 rfl (fun hc => ?_) (fun hc => ?_)
    · have hw := hw.1 hc
      refine lv_iconst (v := 0) hx hb d_P_result_126 (by decide) ?_
      exact kr_i hx hb hr hV hK hX hAe hw d_P_result_127
    · have hw := hw.2 hc
      refine lv_iconst (v := 1) hx hb d_P_result_122 (by decide) ?_
      refine lv_goto (tgt := 127) hx hb d_P_result_123 rfl ?_
      exact kr_i hx hb hr hV hK hX hAe hw d_P_result_127
  have hn5 : ¬ x0.toInt = 5 := lv_neT hc5 (by decide)
  have hn6 : ¬ x0.toInt = 6 := lv_neT hc6 (by decide)
  have hn7 : ¬ x0.toInt = 7 := lv_neT hc7 (by decide)
  have hn8 : ¬ x0.toInt = 8 := lv_neT hc8 (by decide)
  have hn9 : ¬ x0.toInt = 9 := lv_neT hc9 (by decide)
  have hn10 : ¬ x0.toInt = 10 := lv_neT hc10 (by decide)
  have hn11 : ¬ x0.toInt = 11 := lv_neT hc11 (by decide)
  have hn12 : ¬ x0.toInt = 12 := lv_neT hc12 (by decide)
  have hn13 : ¬ x0.toInt = 13 := lv_neT hc13 (by decide)
  have hn14 : ¬ x0.toInt = 14 := lv_neT hc14 (by decide)
  have hn15 : ¬ x0.toInt = 15 := lv_neT hc15 (by decide)
  exact lv_tableOut (tgt := 117) hx hb d_P_result_1 (by omega) rfl kd
theorem d_P_combine_0 : decode b_P_combine 0 = .ok (.aload_n 0, 1) := by decide +kernel
theorem d_P_combine_1 : decode b_P_combine 1 = .ok (.invokevirtual 88, 3) := by decide +kernel
theorem d_P_combine_4 : decode b_P_combine 4 = .ok (.istore_n 2, 1) := by decide +kernel
theorem d_P_combine_5 : decode b_P_combine 5 = .ok (.aload_n 0, 1) := by decide +kernel
theorem d_P_combine_6 : decode b_P_combine 6 = .ok (.invokevirtual 88, 3) := by decide +kernel
theorem d_P_combine_9 : decode b_P_combine 9 = .ok (.istore_n 3, 1) := by decide +kernel
theorem d_P_combine_10 : decode b_P_combine 10 = .ok (.aload_n 0, 1) := by decide +kernel
theorem d_P_combine_11 : decode b_P_combine 11 = .ok (.iload_n 1, 1) := by decide +kernel
theorem d_P_combine_12 : decode b_P_combine 12 = .ok (.iload_n 3, 1) := by decide +kernel
theorem d_P_combine_13 : decode b_P_combine 13 = .ok (.iload_n 2, 1) := by decide +kernel
theorem d_P_combine_14 : decode b_P_combine 14 = .ok (.invokestatic 104, 3) := by decide +kernel
theorem d_P_combine_17 : decode b_P_combine 17 = .ok (.invokevirtual 65, 3) := by decide +kernel
theorem d_P_combine_20 : decode b_P_combine 20 = .ok (.return_, 1) := by decide +kernel
def w_P_combine (cp : Nat) (i : Nat) (x1 : Int32) (s0 : KS) (Φ : KS → Prop) : Prop := w_P_pop cp i s0 (fun r2 s1 => w_P_pop cp i s1 (fun r4 s3 => w_P_result cp x1 r4 r2 s3 (fun r6 s5 => w_P_push cp i r6 s5 (fun s7 => Φ s7))))
set_option maxHeartbeats 4000000 in
set_option maxRecDepth 100000 in
theorem c_P_combine (l : Launch) (E : gE) (s0 : KS) (i : Nat) (hi : i < 16) (x1 : Int32) (Φ : KS → Prop) (hw : w_P_combine (eN E) i x1 s0 Φ) : gMv l y_P_combine v_P_combine m_P_combine E KK [.ref (ea E 1 i), .int x1] s0 Φ := by
  intro sz
  refine Met.ofW (cc := b_P_combine) (maxL := 4) (ret := none) (by decide) rfl ?_
  intro p e s m args below meth c s₁ B hml hv
  obtain ⟨rfl, hsz, hP, hK, hD, hX⟩ := hv
  have hx := B.exec
  have hb := B.bytes
  have hr := B.returns
  have hts := atoms_spec (ws := v_P_combine) B.pre
  have hG : ∀ w ∈ gG, w.before _ s = true := fun w h => hts w (List.mem_cons_of_mem _ h)
  have hown : s.vm.findClass R_P = some m.cls := findClass_of_methodNamed B.named
  have hlocks := B.notSynchronized
  subst hsz
  obtain ⟨A, hAe⟩ : ∃ A, A = gA E KK s.heap.size := ⟨_, rfl⟩
  rw [← hAe] at hD hX ⊢
  have hV : gV E KK A s0 s s.heap [] := ⟨hP, hD, va_S.rf⟩
  have hl := lv_entry ([.ref (ea E 1 i), .int x1] : List Value) (n := 4) (Nat.le_of_ble_eq_true rfl)
  rw [lg_entry_eq]
  generalize (lg_sl ([.ref (ea E 1 i), .int x1] : List Value) ++ List.replicate (4 - (lg_sl ([.ref (ea E 1 i), .int x1] : List Value)).length) Slot.unset).toArray = ls at hl ⊢
  have hl : lv_has ls 4 [(0, .ref (ea E 1 i)), (1, .int x1)] := hl
  unfold w_P_combine at hw
  refine lv_aload_n hx hb d_P_combine_0 rfl (lv_at hl 0 rfl) ?_
  refine kc_P_P_pop hx hb hml hown hts hV hK hX hAe (c_P_pop l E s0 i hi _ hw) hi hl.1 (Nat.le_of_ble_eq_true rfl) d_P_combine_1 (Nat.le_of_ble_eq_true rfl) (Nat.le_of_ble_eq_true rfl) (fun r2 s1 H locs hw hV => ?_)
  refine lv_istore_n (lv' := [(2, .int r2), (0, .ref (ea E 1 i)), (1, .int x1)]) hx hb d_P_combine_4 rfl hl (by decide) rfl (fun ls hl => ?_)
  refine lv_aload_n hx hb d_P_combine_5 rfl (lv_at hl 1 rfl) ?_
  refine kc_P_P_pop hx hb hml hown hts hV hK hX hAe (c_P_pop l E s1 i hi _ hw) hi hl.1 (Nat.le_of_ble_eq_true rfl) d_P_combine_6 (Nat.le_of_ble_eq_true rfl) (Nat.le_of_ble_eq_true rfl) (fun r4 s3 H locs hw hV => ?_)
  refine lv_istore_n (lv' := [(3, .int r4), (2, .int r2), (0, .ref (ea E 1 i)), (1, .int x1)]) hx hb d_P_combine_9 rfl hl (by decide) rfl (fun ls hl => ?_)
  refine lv_aload_n hx hb d_P_combine_10 rfl (lv_at hl 2 rfl) ?_
  refine lv_iload_n hx hb d_P_combine_11 rfl (lv_at hl 3 rfl) ?_
  refine lv_iload_n hx hb d_P_combine_12 rfl (lv_at hl 0 rfl) ?_
  refine lv_iload_n hx hb d_P_combine_13 rfl (lv_at hl 1 rfl) ?_
  refine kc_P_P_result hx hb hml hown hts hV hK hX hAe (c_P_result l E s3 x1 r4 r2 _ hw) hl.1 (Nat.le_of_ble_eq_true rfl) d_P_combine_14 (Nat.le_of_ble_eq_true rfl) (Nat.le_of_ble_eq_true rfl) (fun r6 s5 H locs hw hV => ?_)
  refine kc_P_P_push hx hb hml hown hts hV hK hX hAe (c_P_push l E s5 i hi r6 _ hw) hi hl.1 (Nat.le_of_ble_eq_true rfl) d_P_combine_17 (Nat.le_of_ble_eq_true rfl) (Nat.le_of_ble_eq_true rfl) (fun s7 H locs hw hV => ?_)
  exact kr_v hx hb hr hV hK hX hAe hw d_P_combine_20
theorem d_P_storeAt_0 : decode b_P_storeAt 0 = .ok (.aload_n 0, 1) := by decide +kernel
theorem d_P_storeAt_1 : decode b_P_storeAt 1 = .ok (.getfield 9, 3) := by decide +kernel
theorem d_P_storeAt_4 : decode b_P_storeAt 4 = .ok (.iload_n 1, 1) := by decide +kernel
theorem d_P_storeAt_5 : decode b_P_storeAt 5 = .ok (.aload_n 0, 1) := by decide +kernel
theorem d_P_storeAt_6 : decode b_P_storeAt 6 = .ok (.invokevirtual 88, 3) := by decide +kernel
theorem d_P_storeAt_9 : decode b_P_storeAt 9 = .ok (.iastore, 1) := by decide +kernel
theorem d_P_storeAt_10 : decode b_P_storeAt 10 = .ok (.return_, 1) := by decide +kernel
def w_P_storeAt (cp : Nat) (i : Nat) (x1 : Int32) (s0 : KS) (Φ : KS → Prop) : Prop := w_P_pop cp i s0 (fun r2 s1 => vp_in x1 128 ∧ ∀ s3 : KS, s3 = w3 s1 2 i x1.toNatClampNeg r2 → Φ s3)
set_option maxHeartbeats 4000000 in
set_option maxRecDepth 100000 in
theorem c_P_storeAt (l : Launch) (E : gE) (s0 : KS) (i : Nat) (hi : i < 16) (x1 : Int32) (Φ : KS → Prop) (hw : w_P_storeAt (eN E) i x1 s0 Φ) : gMv l y_P_storeAt v_P_storeAt m_P_storeAt E KK [.ref (ea E 1 i), .int x1] s0 Φ := by
  intro sz
  refine Met.ofW (cc := b_P_storeAt) (maxL := 2) (ret := none) (by decide) rfl ?_
  intro p e s m args below meth c s₁ B hml hv
  obtain ⟨rfl, hsz, hP, hK, hD, hX⟩ := hv
  have hx := B.exec
  have hb := B.bytes
  have hr := B.returns
  have hts := atoms_spec (ws := v_P_storeAt) B.pre
  have hG : ∀ w ∈ gG, w.before _ s = true := fun w h => hts w (List.mem_cons_of_mem _ h)
  have hown : s.vm.findClass R_P = some m.cls := findClass_of_methodNamed B.named
  have hlocks := B.notSynchronized
  subst hsz
  obtain ⟨A, hAe⟩ : ∃ A, A = gA E KK s.heap.size := ⟨_, rfl⟩
  rw [← hAe] at hD hX ⊢
  have hV : gV E KK A s0 s s.heap [] := ⟨hP, hD, va_S.rf⟩
  have hl := lv_entry ([.ref (ea E 1 i), .int x1] : List Value) (n := 2) (Nat.le_of_ble_eq_true rfl)
  rw [lg_entry_eq]
  generalize (lg_sl ([.ref (ea E 1 i), .int x1] : List Value) ++ List.replicate (2 - (lg_sl ([.ref (ea E 1 i), .int x1] : List Value)).length) Slot.unset).toArray = ls at hl ⊢
  have hl : lv_has ls 2 [(0, .ref (ea E 1 i)), (1, .int x1)] := hl
  unfold w_P_storeAt at hw
  refine lv_aload_n hx hb d_P_storeAt_0 rfl (lv_at hl 0 rfl) ?_
  refine kg_P_P_memory hx hb hG hown hK hV hi d_P_storeAt_1 ?_
  refine lv_iload_n hx hb d_P_storeAt_4 rfl (lv_at hl 1 rfl) ?_
  refine lv_aload_n hx hb d_P_storeAt_5 rfl (lv_at hl 0 rfl) ?_
  refine kc_P_P_pop hx hb hml hown hts hV hK hX hAe (c_P_pop l E s0 i hi _ hw) hi hl.1 (Nat.le_of_ble_eq_true rfl) d_P_storeAt_6 (Nat.le_of_ble_eq_true rfl) (Nat.le_of_ble_eq_true rfl) (fun r2 s1 H locs hw hV => ?_)
  refine ks_2 hx hb hK hV hi hw.1 d_P_storeAt_9 (fun s3 H locs es3 hV => ?_)
  have hw := hw.2 s3 es3
  exact kr_v hx hb hr hV hK hX hAe hw d_P_storeAt_10
theorem d_P_swap_0 : decode b_P_swap 0 = .ok (.aload_n 0, 1) := by decide +kernel
theorem d_P_swap_1 : decode b_P_swap 1 = .ok (.invokevirtual 88, 3) := by decide +kernel
theorem d_P_swap_4 : decode b_P_swap 4 = .ok (.istore_n 1, 1) := by decide +kernel
theorem d_P_swap_5 : decode b_P_swap 5 = .ok (.aload_n 0, 1) := by decide +kernel
theorem d_P_swap_6 : decode b_P_swap 6 = .ok (.invokevirtual 88, 3) := by decide +kernel
theorem d_P_swap_9 : decode b_P_swap 9 = .ok (.istore_n 2, 1) := by decide +kernel
theorem d_P_swap_10 : decode b_P_swap 10 = .ok (.aload_n 0, 1) := by decide +kernel
theorem d_P_swap_11 : decode b_P_swap 11 = .ok (.iload_n 1, 1) := by decide +kernel
theorem d_P_swap_12 : decode b_P_swap 12 = .ok (.iload_n 2, 1) := by decide +kernel
theorem d_P_swap_13 : decode b_P_swap 13 = .ok (.invokevirtual 100, 3) := by decide +kernel
theorem d_P_swap_16 : decode b_P_swap 16 = .ok (.return_, 1) := by decide +kernel
def w_P_swap (cp : Nat) (i : Nat) (s0 : KS) (Φ : KS → Prop) : Prop := w_P_pop cp i s0 (fun r2 s1 => w_P_pop cp i s1 (fun r4 s3 => w_P_pushTwo cp i r2 r4 s3 (fun s5 => Φ s5)))
set_option maxHeartbeats 4000000 in
set_option maxRecDepth 100000 in
theorem c_P_swap (l : Launch) (E : gE) (s0 : KS) (i : Nat) (hi : i < 16) (Φ : KS → Prop) (hw : w_P_swap (eN E) i s0 Φ) : gMv l y_P_swap v_P_swap m_P_swap E KK [.ref (ea E 1 i)] s0 Φ := by
  intro sz
  refine Met.ofW (cc := b_P_swap) (maxL := 3) (ret := none) (by decide) rfl ?_
  intro p e s m args below meth c s₁ B hml hv
  obtain ⟨rfl, hsz, hP, hK, hD, hX⟩ := hv
  have hx := B.exec
  have hb := B.bytes
  have hr := B.returns
  have hts := atoms_spec (ws := v_P_swap) B.pre
  have hG : ∀ w ∈ gG, w.before _ s = true := fun w h => hts w (List.mem_cons_of_mem _ h)
  have hown : s.vm.findClass R_P = some m.cls := findClass_of_methodNamed B.named
  have hlocks := B.notSynchronized
  subst hsz
  obtain ⟨A, hAe⟩ : ∃ A, A = gA E KK s.heap.size := ⟨_, rfl⟩
  rw [← hAe] at hD hX ⊢
  have hV : gV E KK A s0 s s.heap [] := ⟨hP, hD, va_S.rf⟩
  have hl := lv_entry ([.ref (ea E 1 i)] : List Value) (n := 3) (Nat.le_of_ble_eq_true rfl)
  rw [lg_entry_eq]
  generalize (lg_sl ([.ref (ea E 1 i)] : List Value) ++ List.replicate (3 - (lg_sl ([.ref (ea E 1 i)] : List Value)).length) Slot.unset).toArray = ls at hl ⊢
  have hl : lv_has ls 3 [(0, .ref (ea E 1 i))] := hl
  unfold w_P_swap at hw
  refine lv_aload_n hx hb d_P_swap_0 rfl (lv_at hl 0 rfl) ?_
  refine kc_P_P_pop hx hb hml hown hts hV hK hX hAe (c_P_pop l E s0 i hi _ hw) hi hl.1 (Nat.le_of_ble_eq_true rfl) d_P_swap_1 (Nat.le_of_ble_eq_true rfl) (Nat.le_of_ble_eq_true rfl) (fun r2 s1 H locs hw hV => ?_)
  refine lv_istore_n (lv' := [(1, .int r2), (0, .ref (ea E 1 i))]) hx hb d_P_swap_4 rfl hl (by decide) rfl (fun ls hl => ?_)
  refine lv_aload_n hx hb d_P_swap_5 rfl (lv_at hl 1 rfl) ?_
  refine kc_P_P_pop hx hb hml hown hts hV hK hX hAe (c_P_pop l E s1 i hi _ hw) hi hl.1 (Nat.le_of_ble_eq_true rfl) d_P_swap_6 (Nat.le_of_ble_eq_true rfl) (Nat.le_of_ble_eq_true rfl) (fun r4 s3 H locs hw hV => ?_)
  refine lv_istore_n (lv' := [(2, .int r4), (1, .int r2), (0, .ref (ea E 1 i))]) hx hb d_P_swap_9 rfl hl (by decide) rfl (fun ls hl => ?_)
  refine lv_aload_n hx hb d_P_swap_10 rfl (lv_at hl 2 rfl) ?_
  refine lv_iload_n hx hb d_P_swap_11 rfl (lv_at hl 1 rfl) ?_
  refine lv_iload_n hx hb d_P_swap_12 rfl (lv_at hl 0 rfl) ?_
  refine kc_P_P_pushTwo hx hb hml hown hts hV hK hX hAe (c_P_pushTwo l E s3 i hi r2 r4 _ hw) hi hl.1 (Nat.le_of_ble_eq_true rfl) d_P_swap_13 (Nat.le_of_ble_eq_true rfl) (Nat.le_of_ble_eq_true rfl) (fun s5 H locs hw hV => ?_)
  exact kr_v hx hb hr hV hK hX hAe hw d_P_swap_16
theorem d_P_compute_0 : decode b_P_compute 0 = .ok (.iload_n 1, 1) := by decide +kernel
theorem d_P_compute_1 : decode b_P_compute 1 = .ok (.tableswitch 285 0 25 #[119, 122, 130, 138, 149, 285, 285, 285, 285, 285, 285, 285, 285, 285, 285, 285, 285, 156, 175, 188, 201, 217, 228, 236, 258, 274], 119) := by decide +kernel
theorem d_P_compute_120 : decode b_P_compute 120 = .ok (.goto 171, 3) := by decide +kernel
theorem d_P_compute_123 : decode b_P_compute 123 = .ok (.aload_n 0, 1) := by decide +kernel
theorem d_P_compute_124 : decode b_P_compute 124 = .ok (.iload_n 2, 1) := by decide +kernel
theorem d_P_compute_125 : decode b_P_compute 125 = .ok (.invokevirtual 65, 3) := by decide +kernel
theorem d_P_compute_128 : decode b_P_compute 128 = .ok (.goto 163, 3) := by decide +kernel
theorem d_P_compute_131 : decode b_P_compute 131 = .ok (.aload_n 0, 1) := by decide +kernel
theorem d_P_compute_132 : decode b_P_compute 132 = .ok (.invokevirtual 88, 3) := by decide +kernel
theorem d_P_compute_135 : decode b_P_compute 135 = .ok (.pop, 1) := by decide +kernel
theorem d_P_compute_136 : decode b_P_compute 136 = .ok (.goto 155, 3) := by decide +kernel
theorem d_P_compute_139 : decode b_P_compute 139 = .ok (.aload_n 0, 1) := by decide +kernel
theorem d_P_compute_140 : decode b_P_compute 140 = .ok (.aload_n 0, 1) := by decide +kernel
theorem d_P_compute_141 : decode b_P_compute 141 = .ok (.invokevirtual 79, 3) := by decide +kernel
theorem d_P_compute_144 : decode b_P_compute 144 = .ok (.invokevirtual 65, 3) := by decide +kernel
theorem d_P_compute_147 : decode b_P_compute 147 = .ok (.goto 144, 3) := by decide +kernel
theorem d_P_compute_150 : decode b_P_compute 150 = .ok (.aload_n 0, 1) := by decide +kernel
theorem d_P_compute_151 : decode b_P_compute 151 = .ok (.invokevirtual 91, 3) := by decide +kernel
theorem d_P_compute_154 : decode b_P_compute 154 = .ok (.goto 137, 3) := by decide +kernel
theorem d_P_compute_157 : decode b_P_compute 157 = .ok (.aload_n 0, 1) := by decide +kernel
theorem d_P_compute_158 : decode b_P_compute 158 = .ok (.aload_n 0, 1) := by decide +kernel
theorem d_P_compute_159 : decode b_P_compute 159 = .ok (.invokevirtual 88, 3) := by decide +kernel
theorem d_P_compute_162 : decode b_P_compute 162 = .ok (.ifCond .ne 7, 3) := by decide +kernel
theorem d_P_compute_165 : decode b_P_compute 165 = .ok (.iconst 1, 1) := by decide +kernel
theorem d_P_compute_166 : decode b_P_compute 166 = .ok (.goto 4, 3) := by decide +kernel
theorem d_P_compute_169 : decode b_P_compute 169 = .ok (.iconst 0, 1) := by decide +kernel
theorem d_P_compute_170 : decode b_P_compute 170 = .ok (.invokevirtual 65, 3) := by decide +kernel
theorem d_P_compute_173 : decode b_P_compute 173 = .ok (.goto 118, 3) := by decide +kernel
theorem d_P_compute_176 : decode b_P_compute 176 = .ok (.aload_n 0, 1) := by decide +kernel
theorem d_P_compute_177 : decode b_P_compute 177 = .ok (.aload_n 0, 1) := by decide +kernel
theorem d_P_compute_178 : decode b_P_compute 178 = .ok (.getfield 9, 3) := by decide +kernel
theorem d_P_compute_181 : decode b_P_compute 181 = .ok (.iload_n 2, 1) := by decide +kernel
theorem d_P_compute_182 : decode b_P_compute 182 = .ok (.iaload, 1) := by decide +kernel
theorem d_P_compute_183 : decode b_P_compute 183 = .ok (.invokevirtual 65, 3) := by decide +kernel
theorem d_P_compute_186 : decode b_P_compute 186 = .ok (.goto 105, 3) := by decide +kernel
theorem d_P_compute_189 : decode b_P_compute 189 = .ok (.aload_n 0, 1) := by decide +kernel
theorem d_P_compute_190 : decode b_P_compute 190 = .ok (.getfield 9, 3) := by decide +kernel
theorem d_P_compute_193 : decode b_P_compute 193 = .ok (.iload_n 2, 1) := by decide +kernel
theorem d_P_compute_194 : decode b_P_compute 194 = .ok (.aload_n 0, 1) := by decide +kernel
theorem d_P_compute_195 : decode b_P_compute 195 = .ok (.invokevirtual 88, 3) := by decide +kernel
theorem d_P_compute_198 : decode b_P_compute 198 = .ok (.iastore, 1) := by decide +kernel
theorem d_P_compute_199 : decode b_P_compute 199 = .ok (.goto 92, 3) := by decide +kernel
theorem d_P_compute_202 : decode b_P_compute 202 = .ok (.aload_n 0, 1) := by decide +kernel
theorem d_P_compute_203 : decode b_P_compute 203 = .ok (.aload_n 0, 1) := by decide +kernel
theorem d_P_compute_204 : decode b_P_compute 204 = .ok (.getfield 9, 3) := by decide +kernel
theorem d_P_compute_207 : decode b_P_compute 207 = .ok (.aload_n 0, 1) := by decide +kernel
theorem d_P_compute_208 : decode b_P_compute 208 = .ok (.invokevirtual 88, 3) := by decide +kernel
theorem d_P_compute_211 : decode b_P_compute 211 = .ok (.iaload, 1) := by decide +kernel
theorem d_P_compute_212 : decode b_P_compute 212 = .ok (.invokevirtual 65, 3) := by decide +kernel
theorem d_P_compute_215 : decode b_P_compute 215 = .ok (.goto 76, 3) := by decide +kernel
theorem d_P_compute_218 : decode b_P_compute 218 = .ok (.aload_n 0, 1) := by decide +kernel
theorem d_P_compute_219 : decode b_P_compute 219 = .ok (.aload_n 0, 1) := by decide +kernel
theorem d_P_compute_220 : decode b_P_compute 220 = .ok (.invokevirtual 88, 3) := by decide +kernel
theorem d_P_compute_223 : decode b_P_compute 223 = .ok (.invokevirtual 94, 3) := by decide +kernel
theorem d_P_compute_226 : decode b_P_compute 226 = .ok (.goto 65, 3) := by decide +kernel
theorem d_P_compute_229 : decode b_P_compute 229 = .ok (.aload_n 0, 1) := by decide +kernel
theorem d_P_compute_230 : decode b_P_compute 230 = .ok (.iload_n 2, 1) := by decide +kernel
theorem d_P_compute_231 : decode b_P_compute 231 = .ok (.putfield 25, 3) := by decide +kernel
theorem d_P_compute_234 : decode b_P_compute 234 = .ok (.goto 57, 3) := by decide +kernel
theorem d_P_compute_237 : decode b_P_compute 237 = .ok (.aload_n 0, 1) := by decide +kernel
theorem d_P_compute_238 : decode b_P_compute 238 = .ok (.aload_n 0, 1) := by decide +kernel
theorem d_P_compute_239 : decode b_P_compute 239 = .ok (.invokevirtual 88, 3) := by decide +kernel
theorem d_P_compute_242 : decode b_P_compute 242 = .ok (.ifCond .ne 7, 3) := by decide +kernel
theorem d_P_compute_245 : decode b_P_compute 245 = .ok (.iload_n 2, 1) := by decide +kernel
theorem d_P_compute_246 : decode b_P_compute 246 = .ok (.goto 7, 3) := by decide +kernel
theorem d_P_compute_249 : decode b_P_compute 249 = .ok (.aload_n 0, 1) := by decide +kernel
theorem d_P_compute_250 : decode b_P_compute 250 = .ok (.getfield 25, 3) := by decide +kernel
theorem d_P_compute_253 : decode b_P_compute 253 = .ok (.putfield 25, 3) := by decide +kernel
theorem d_P_compute_256 : decode b_P_compute 256 = .ok (.goto 35, 3) := by decide +kernel
theorem d_P_compute_259 : decode b_P_compute 259 = .ok (.aload_n 0, 1) := by decide +kernel
theorem d_P_compute_260 : decode b_P_compute 260 = .ok (.aload_n 0, 1) := by decide +kernel
theorem d_P_compute_261 : decode b_P_compute 261 = .ok (.getfield 25, 3) := by decide +kernel
theorem d_P_compute_264 : decode b_P_compute 264 = .ok (.invokevirtual 65, 3) := by decide +kernel
theorem d_P_compute_267 : decode b_P_compute 267 = .ok (.aload_n 0, 1) := by decide +kernel
theorem d_P_compute_268 : decode b_P_compute 268 = .ok (.iload_n 2, 1) := by decide +kernel
theorem d_P_compute_269 : decode b_P_compute 269 = .ok (.putfield 25, 3) := by decide +kernel
theorem d_P_compute_272 : decode b_P_compute 272 = .ok (.goto 19, 3) := by decide +kernel
theorem d_P_compute_275 : decode b_P_compute 275 = .ok (.aload_n 0, 1) := by decide +kernel
theorem d_P_compute_276 : decode b_P_compute 276 = .ok (.aload_n 0, 1) := by decide +kernel
theorem d_P_compute_277 : decode b_P_compute 277 = .ok (.invokevirtual 88, 3) := by decide +kernel
theorem d_P_compute_280 : decode b_P_compute 280 = .ok (.putfield 25, 3) := by decide +kernel
theorem d_P_compute_283 : decode b_P_compute 283 = .ok (.goto 8, 3) := by decide +kernel
theorem d_P_compute_286 : decode b_P_compute 286 = .ok (.aload_n 0, 1) := by decide +kernel
theorem d_P_compute_287 : decode b_P_compute 287 = .ok (.iload_n 1, 1) := by decide +kernel
theorem d_P_compute_288 : decode b_P_compute 288 = .ok (.invokevirtual 97, 3) := by decide +kernel
theorem d_P_compute_291 : decode b_P_compute 291 = .ok (.return_, 1) := by decide +kernel
def w_P_compute_253 (cp : Nat) (i : Nat) (x1 : Int32) (x2 : Int32) (Φ : KS → Prop) (t0 : Int32) (s0 : KS) : Prop := ∀ s1 : KS, s1 = w3 s0 1 i 5 t0 → Φ s1
def w_P_compute_170 (cp : Nat) (i : Nat) (x1 : Int32) (x2 : Int32) (Φ : KS → Prop) (t0 : Int32) (s0 : KS) : Prop := w_P_push cp i t0 s0 (fun s1 => Φ s1)
def w_P_compute (cp : Nat) (i : Nat) (x1 : Int32) (x2 : Int32) (s0 : KS) (Φ : KS → Prop) : Prop := ((x1 = 0 → Φ s0) ∧ ((x1 = 1 → w_P_push cp i x2 s0 (fun s1 => Φ s1)) ∧ ((x1 = 2 → w_P_pop cp i s0 (fun r3 s2 => Φ s2)) ∧ ((x1 = 3 → w_P_top cp i s0 (fun r5 s4 => w_P_push cp i r5 s4 (fun s6 => Φ s6))) ∧ ((x1 = 4 → w_P_swap cp i s0 (fun s7 => Φ s7)) ∧ ((x1 = 17 → w_P_pop cp i s0 (fun r9 s8 => ((¬ r9 = 0 → w_P_compute_170 cp i x1 x2 Φ (0 : Int32) s8) ∧ (r9 = 0 → w_P_compute_170 cp i x1 x2 Φ (1 : Int32) s8)))) ∧ ((x1 = 18 → vp_in x2 128 ∧ w_P_push cp i (s0 2 i x2.toNatClampNeg) s0 (fun s10 => Φ s10)) ∧ ((x1 = 19 → w_P_pop cp i s0 (fun r12 s11 => vp_in x2 128 ∧ ∀ s13 : KS, s13 = w3 s11 2 i x2.toNatClampNeg r12 → Φ s13)) ∧ ((x1 = 20 → w_P_pop cp i s0 (fun r15 s14 => vp_in r15 128 ∧ w_P_push cp i (s14 2 i r15.toNatClampNeg) s14 (fun s16 => Φ s16))) ∧ ((x1 = 21 → w_P_pop cp i s0 (fun r18 s17 => w_P_storeAt cp i r18 s17 (fun s19 => Φ s19))) ∧ ((x1 = 22 → ∀ s20 : KS, s20 = w3 s0 1 i 5 x2 → Φ s20) ∧ ((x1 = 23 → w_P_pop cp i s0 (fun r22 s21 => ((¬ r22 = 0 → w_P_compute_253 cp i x1 x2 Φ (s21 1 i 5) s21) ∧ (r22 = 0 → w_P_compute_253 cp i x1 x2 Φ x2 s21)))) ∧ ((x1 = 24 → w_P_push cp i (s0 1 i 5) s0 (fun s23 => ∀ s24 : KS, s24 = w3 s23 1 i 5 x2 → Φ s24)) ∧ ((x1 = 25 → w_P_pop cp i s0 (fun r26 s25 => ∀ s27 : KS, s27 = w3 s25 1 i 5 r26 → Φ s27)) ∧ (¬ x1 = 0 ∧ ¬ x1 = 1 ∧ ¬ x1 = 2 ∧ ¬ x1 = 3 ∧ ¬ x1 = 4 ∧ ¬ x1 = 17 ∧ ¬ x1 = 18 ∧ ¬ x1 = 19 ∧ ¬ x1 = 20 ∧ ¬ x1 = 21 ∧ ¬ x1 = 22 ∧ ¬ x1 = 23 ∧ ¬ x1 = 24 ∧ ¬ x1 = 25 → w_P_combine cp i x1 s0 (fun s28 => Φ s28))))))))))))))))
set_option maxHeartbeats 4000000 in
set_option maxRecDepth 100000 in
theorem c_P_compute (l : Launch) (E : gE) (s0 : KS) (i : Nat) (hi : i < 16) (x1 : Int32) (x2 : Int32) (Φ : KS → Prop) (hw : w_P_compute (eN E) i x1 x2 s0 Φ) : gMv l y_P_compute v_P_compute m_P_compute E KK [.ref (ea E 1 i), .int x1, .int x2] s0 Φ := by
  intro sz
  refine Met.ofW (cc := b_P_compute) (maxL := 3) (ret := none) (by decide) rfl ?_
  intro p e s m args below meth c s₁ B hml hv
  obtain ⟨rfl, hsz, hP, hK, hD, hX⟩ := hv
  have hx := B.exec
  have hb := B.bytes
  have hr := B.returns
  have hts := atoms_spec (ws := v_P_compute) B.pre
  have hG : ∀ w ∈ gG, w.before _ s = true := fun w h => hts w (List.mem_cons_of_mem _ h)
  have hown : s.vm.findClass R_P = some m.cls := findClass_of_methodNamed B.named
  have hlocks := B.notSynchronized
  subst hsz
  obtain ⟨A, hAe⟩ : ∃ A, A = gA E KK s.heap.size := ⟨_, rfl⟩
  rw [← hAe] at hD hX ⊢
  have hV : gV E KK A s0 s s.heap [] := ⟨hP, hD, va_S.rf⟩
  have hl := lv_entry ([.ref (ea E 1 i), .int x1, .int x2] : List Value) (n := 3) (Nat.le_of_ble_eq_true rfl)
  rw [lg_entry_eq]
  generalize (lg_sl ([.ref (ea E 1 i), .int x1, .int x2] : List Value) ++ List.replicate (3 - (lg_sl ([.ref (ea E 1 i), .int x1, .int x2] : List Value)).length) Slot.unset).toArray = ls at hl ⊢
  have hl : lv_has ls 3 [(0, .ref (ea E 1 i)), (1, .int x1), (2, .int x2)] := hl
  have J253 : ∀ (ls : Array Slot) (H : Heap) (locs : List Loc) (s0 : KS) (t0 : Int32), lv_has ls 3 [] → gV E KK A s0 s H locs → w_P_compute_253 (eN E) i x1 x2 Φ t0 s0 → W p l e m_P_compute s m ([.ref (ea E 1 i), .int x1, .int x2] : List Value).toArray below meth c H locs 0 0 (MQ below (gQv E KK A Φ) ([.ref (ea E 1 i), .int x1, .int x2] : List Value).toArray s 0 0 A) (F0 m 253 ls [.int t0, .ref (ea E 1 i)]) := by
    intro  ls H locs s0 t0 hl hV hw
    unfold w_P_compute_253 at hw
    refine kp_P_P_place hx hb hG hown hK hV hi d_P_compute_253 (fun s1 H locs es1 hV => ?_)
    have hw := hw s1 es1
    refine lv_goto (tgt := 291) hx hb d_P_compute_256 rfl ?_
    exact kr_v hx hb hr hV hK hX hAe hw d_P_compute_291
  have J170 : ∀ (ls : Array Slot) (H : Heap) (locs : List Loc) (s0 : KS) (t0 : Int32), lv_has ls 3 [] → gV E KK A s0 s H locs → w_P_compute_170 (eN E) i x1 x2 Φ t0 s0 → W p l e m_P_compute s m ([.ref (ea E 1 i), .int x1, .int x2] : List Value).toArray below meth c H locs 0 0 (MQ below (gQv E KK A Φ) ([.ref (ea E 1 i), .int x1, .int x2] : List Value).toArray s 0 0 A) (F0 m 170 ls [.int t0, .ref (ea E 1 i)]) := by
    intro  ls H locs s0 t0 hl hV hw
    unfold w_P_compute_170 at hw
    refine kc_P_P_push hx hb hml hown hts hV hK hX hAe (c_P_push l E s0 i hi t0 _ hw) hi hl.1 (Nat.le_of_ble_eq_true rfl) d_P_compute_170 (Nat.le_of_ble_eq_true rfl) (Nat.le_of_ble_eq_true rfl) (fun s1 H locs hw hV => ?_)
    refine lv_goto (tgt := 291) hx hb d_P_compute_173 rfl ?_
    exact kr_v hx hb hr hV hK hX hAe hw d_P_compute_291
  unfold w_P_compute at hw
  refine lv_iload_n hx hb d_P_compute_0 rfl (lv_at hl 1 rfl) ?_
  have hsw := hw
  by_cases hc0 : x1 = 0
  · have hw := hsw.1 hc0
    refine lv_tableIn (off := 119) (tgt := 120) hx hb d_P_compute_1 (by rw [hc0]; decide) (by rw [hc0]; decide) (by rw [hc0]; decide) rfl ?_
    refine lv_goto (tgt := 291) hx hb d_P_compute_120 rfl ?_
    exact kr_v hx hb hr hV hK hX hAe hw d_P_compute_291
  have hsw := hsw.2
  by_cases hc1 : x1 = 1
  · have hw := hsw.1 hc1
    refine lv_tableIn (off := 122) (tgt := 123) hx hb d_P_compute_1 (by rw [hc1]; decide) (by rw [hc1]; decide) (by rw [hc1]; decide) rfl ?_
    refine lv_aload_n hx hb d_P_compute_123 rfl (lv_at hl 0 rfl) ?_
    refine lv_iload_n hx hb d_P_compute_124 rfl (lv_at hl 2 rfl) ?_
    refine kc_P_P_push hx hb hml hown hts hV hK hX hAe (c_P_push l E s0 i hi x2 _ hw) hi hl.1 (Nat.le_of_ble_eq_true rfl) d_P_compute_125 (Nat.le_of_ble_eq_true rfl) (Nat.le_of_ble_eq_true rfl) (fun s1 H locs hw hV => ?_)
    refine lv_goto (tgt := 291) hx hb d_P_compute_128 rfl ?_
    exact kr_v hx hb hr hV hK hX hAe hw d_P_compute_291
  have hsw := hsw.2
  by_cases hc2 : x1 = 2
  · have hw := hsw.1 hc2
    refine lv_tableIn (off := 130) (tgt := 131) hx hb d_P_compute_1 (by rw [hc2]; decide) (by rw [hc2]; decide) (by rw [hc2]; decide) rfl ?_
    refine lv_aload_n hx hb d_P_compute_131 rfl (lv_at hl 0 rfl) ?_
    refine kc_P_P_pop hx hb hml hown hts hV hK hX hAe (c_P_pop l E s0 i hi _ hw) hi hl.1 (Nat.le_of_ble_eq_true rfl) d_P_compute_132 (Nat.le_of_ble_eq_true rfl) (Nat.le_of_ble_eq_true rfl) (fun r3 s2 H locs hw hV => ?_)
    refine lv_pop hx hb d_P_compute_135 rfl ?_
    refine lv_goto (tgt := 291) hx hb d_P_compute_136 rfl ?_
    exact kr_v hx hb hr hV hK hX hAe hw d_P_compute_291
  have hsw := hsw.2
  by_cases hc3 : x1 = 3
  · have hw := hsw.1 hc3
    refine lv_tableIn (off := 138) (tgt := 139) hx hb d_P_compute_1 (by rw [hc3]; decide) (by rw [hc3]; decide) (by rw [hc3]; decide) rfl ?_
    refine lv_aload_n hx hb d_P_compute_139 rfl (lv_at hl 0 rfl) ?_
    refine lv_aload_n hx hb d_P_compute_140 rfl (lv_at hl 0 rfl) ?_
    refine kc_P_P_top hx hb hml hown hts hV hK hX hAe (c_P_top l E s0 i hi _ hw) hi hl.1 (Nat.le_of_ble_eq_true rfl) d_P_compute_141 (Nat.le_of_ble_eq_true rfl) (Nat.le_of_ble_eq_true rfl) (fun r5 s4 H locs hw hV => ?_)
    refine kc_P_P_push hx hb hml hown hts hV hK hX hAe (c_P_push l E s4 i hi r5 _ hw) hi hl.1 (Nat.le_of_ble_eq_true rfl) d_P_compute_144 (Nat.le_of_ble_eq_true rfl) (Nat.le_of_ble_eq_true rfl) (fun s6 H locs hw hV => ?_)
    refine lv_goto (tgt := 291) hx hb d_P_compute_147 rfl ?_
    exact kr_v hx hb hr hV hK hX hAe hw d_P_compute_291
  have hsw := hsw.2
  by_cases hc4 : x1 = 4
  · have hw := hsw.1 hc4
    refine lv_tableIn (off := 149) (tgt := 150) hx hb d_P_compute_1 (by rw [hc4]; decide) (by rw [hc4]; decide) (by rw [hc4]; decide) rfl ?_
    refine lv_aload_n hx hb d_P_compute_150 rfl (lv_at hl 0 rfl) ?_
    refine kc_P_P_swap hx hb hml hown hts hV hK hX hAe (c_P_swap l E s0 i hi _ hw) hi hl.1 (Nat.le_of_ble_eq_true rfl) d_P_compute_151 (Nat.le_of_ble_eq_true rfl) (Nat.le_of_ble_eq_true rfl) (fun s7 H locs hw hV => ?_)
    refine lv_goto (tgt := 291) hx hb d_P_compute_154 rfl ?_
    exact kr_v hx hb hr hV hK hX hAe hw d_P_compute_291
  have hsw := hsw.2
  by_cases hc17 : x1 = 17
  · have hw := hsw.1 hc17
    refine lv_tableIn (off := 156) (tgt := 157) hx hb d_P_compute_1 (by rw [hc17]; decide) (by rw [hc17]; decide) (by rw [hc17]; decide) rfl ?_
    refine lv_aload_n hx hb d_P_compute_157 rfl (lv_at hl 0 rfl) ?_
    refine lv_aload_n hx hb d_P_compute_158 rfl (lv_at hl 0 rfl) ?_
    refine kc_P_P_pop hx hb hml hown hts hV hK hX hAe (c_P_pop l E s0 i hi _ hw) hi hl.1 (Nat.le_of_ble_eq_true rfl) d_P_compute_159 (Nat.le_of_ble_eq_true rfl) (Nat.le_of_ble_eq_true rfl) (fun r9 s8 H locs hw hV => ?_)
    refine lv_if_ne (tgt := 169) hx hb d_P_compute_162 rfl (fun hc => ?_) (fun hc => ?_)
    · have hw := hw.1 hc
      refine lv_iconst (v := 0) hx hb d_P_compute_169 (by decide) ?_
      exact J170 _ _ _ s8 (0 : Int32) (lv_sub hl [] rfl) hV hw
    · have hw := hw.2 hc
      refine lv_iconst (v := 1) hx hb d_P_compute_165 (by decide) ?_
      refine lv_goto (tgt := 170) hx hb d_P_compute_166 rfl ?_
      exact J170 _ _ _ s8 (1 : Int32) (lv_sub hl [] rfl) hV hw
  have hsw := hsw.2
  by_cases hc18 : x1 = 18
  · have hw := hsw.1 hc18
    refine lv_tableIn (off := 175) (tgt := 176) hx hb d_P_compute_1 (by rw [hc18]; decide) (by rw [hc18]; decide) (by rw [hc18]; decide) rfl ?_
    refine lv_aload_n hx hb d_P_compute_176 rfl (lv_at hl 0 rfl) ?_
    refine lv_aload_n hx hb d_P_compute_177 rfl (lv_at hl 0 rfl) ?_
    refine kg_P_P_memory hx hb hG hown hK hV hi d_P_compute_178 ?_
    refine lv_iload_n hx hb d_P_compute_181 rfl (lv_at hl 2 rfl) ?_
    refine kl_2 hx hb hK hV hi hw.1 d_P_compute_182 ?_
    have hw := hw.2
    refine kc_P_P_push hx hb hml hown hts hV hK hX hAe (c_P_push l E s0 i hi (s0 2 i x2.toNatClampNeg) _ hw) hi hl.1 (Nat.le_of_ble_eq_true rfl) d_P_compute_183 (Nat.le_of_ble_eq_true rfl) (Nat.le_of_ble_eq_true rfl) (fun s10 H locs hw hV => ?_)
    refine lv_goto (tgt := 291) hx hb d_P_compute_186 rfl ?_
    exact kr_v hx hb hr hV hK hX hAe hw d_P_compute_291
  have hsw := hsw.2
  by_cases hc19 : x1 = 19
  · have hw := hsw.1 hc19
    refine lv_tableIn (off := 188) (tgt := 189) hx hb d_P_compute_1 (by rw [hc19]; decide) (by rw [hc19]; decide) (by rw [hc19]; decide) rfl ?_
    refine lv_aload_n hx hb d_P_compute_189 rfl (lv_at hl 0 rfl) ?_
    refine kg_P_P_memory hx hb hG hown hK hV hi d_P_compute_190 ?_
    refine lv_iload_n hx hb d_P_compute_193 rfl (lv_at hl 2 rfl) ?_
    refine lv_aload_n hx hb d_P_compute_194 rfl (lv_at hl 0 rfl) ?_
    refine kc_P_P_pop hx hb hml hown hts hV hK hX hAe (c_P_pop l E s0 i hi _ hw) hi hl.1 (Nat.le_of_ble_eq_true rfl) d_P_compute_195 (Nat.le_of_ble_eq_true rfl) (Nat.le_of_ble_eq_true rfl) (fun r12 s11 H locs hw hV => ?_)
    refine ks_2 hx hb hK hV hi hw.1 d_P_compute_198 (fun s13 H locs es13 hV => ?_)
    have hw := hw.2 s13 es13
    refine lv_goto (tgt := 291) hx hb d_P_compute_199 rfl ?_
    exact kr_v hx hb hr hV hK hX hAe hw d_P_compute_291
  have hsw := hsw.2
  by_cases hc20 : x1 = 20
  · have hw := hsw.1 hc20
    refine lv_tableIn (off := 201) (tgt := 202) hx hb d_P_compute_1 (by rw [hc20]; decide) (by rw [hc20]; decide) (by rw [hc20]; decide) rfl ?_
    refine lv_aload_n hx hb d_P_compute_202 rfl (lv_at hl 0 rfl) ?_
    refine lv_aload_n hx hb d_P_compute_203 rfl (lv_at hl 0 rfl) ?_
    refine kg_P_P_memory hx hb hG hown hK hV hi d_P_compute_204 ?_
    refine lv_aload_n hx hb d_P_compute_207 rfl (lv_at hl 0 rfl) ?_
    refine kc_P_P_pop hx hb hml hown hts hV hK hX hAe (c_P_pop l E s0 i hi _ hw) hi hl.1 (Nat.le_of_ble_eq_true rfl) d_P_compute_208 (Nat.le_of_ble_eq_true rfl) (Nat.le_of_ble_eq_true rfl) (fun r15 s14 H locs hw hV => ?_)
    refine kl_2 hx hb hK hV hi hw.1 d_P_compute_211 ?_
    have hw := hw.2
    refine kc_P_P_push hx hb hml hown hts hV hK hX hAe (c_P_push l E s14 i hi (s14 2 i r15.toNatClampNeg) _ hw) hi hl.1 (Nat.le_of_ble_eq_true rfl) d_P_compute_212 (Nat.le_of_ble_eq_true rfl) (Nat.le_of_ble_eq_true rfl) (fun s16 H locs hw hV => ?_)
    refine lv_goto (tgt := 291) hx hb d_P_compute_215 rfl ?_
    exact kr_v hx hb hr hV hK hX hAe hw d_P_compute_291
  have hsw := hsw.2
  by_cases hc21 : x1 = 21
  · have hw := hsw.1 hc21
    refine lv_tableIn (off := 217) (tgt := 218) hx hb d_P_compute_1 (by rw [hc21]; decide) (by rw [hc21]; decide) (by rw [hc21]; decide) rfl ?_
    refine lv_aload_n hx hb d_P_compute_218 rfl (lv_at hl 0 rfl) ?_
    refine lv_aload_n hx hb d_P_compute_219 rfl (lv_at hl 0 rfl) ?_
    refine kc_P_P_pop hx hb hml hown hts hV hK hX hAe (c_P_pop l E s0 i hi _ hw) hi hl.1 (Nat.le_of_ble_eq_true rfl) d_P_compute_220 (Nat.le_of_ble_eq_true rfl) (Nat.le_of_ble_eq_true rfl) (fun r18 s17 H locs hw hV => ?_)
    refine kc_P_P_storeAt hx hb hml hown hts hV hK hX hAe (c_P_storeAt l E s17 i hi r18 _ hw) hi hl.1 (Nat.le_of_ble_eq_true rfl) d_P_compute_223 (Nat.le_of_ble_eq_true rfl) (Nat.le_of_ble_eq_true rfl) (fun s19 H locs hw hV => ?_)
    refine lv_goto (tgt := 291) hx hb d_P_compute_226 rfl ?_
    exact kr_v hx hb hr hV hK hX hAe hw d_P_compute_291
  have hsw := hsw.2
  by_cases hc22 : x1 = 22
  · have hw := hsw.1 hc22
    refine lv_tableIn (off := 228) (tgt := 229) hx hb d_P_compute_1 (by rw [hc22]; decide) (by rw [hc22]; decide) (by rw [hc22]; decide) rfl ?_
    refine lv_aload_n hx hb d_P_compute_229 rfl (lv_at hl 0 rfl) ?_
    refine lv_iload_n hx hb d_P_compute_230 rfl (lv_at hl 2 rfl) ?_
    refine kp_P_P_place hx hb hG hown hK hV hi d_P_compute_231 (fun s20 H locs es20 hV => ?_)
    have hw := hw s20 es20
    refine lv_goto (tgt := 291) hx hb d_P_compute_234 rfl ?_
    exact kr_v hx hb hr hV hK hX hAe hw d_P_compute_291
  have hsw := hsw.2
  by_cases hc23 : x1 = 23
  · have hw := hsw.1 hc23
    refine lv_tableIn (off := 236) (tgt := 237) hx hb d_P_compute_1 (by rw [hc23]; decide) (by rw [hc23]; decide) (by rw [hc23]; decide) rfl ?_
    refine lv_aload_n hx hb d_P_compute_237 rfl (lv_at hl 0 rfl) ?_
    refine lv_aload_n hx hb d_P_compute_238 rfl (lv_at hl 0 rfl) ?_
    refine kc_P_P_pop hx hb hml hown hts hV hK hX hAe (c_P_pop l E s0 i hi _ hw) hi hl.1 (Nat.le_of_ble_eq_true rfl) d_P_compute_239 (Nat.le_of_ble_eq_true rfl) (Nat.le_of_ble_eq_true rfl) (fun r22 s21 H locs hw hV => ?_)
    refine lv_if_ne (tgt := 249) hx hb d_P_compute_242 rfl (fun hc => ?_) (fun hc => ?_)
    · have hw := hw.1 hc
      refine lv_aload_n hx hb d_P_compute_249 rfl (lv_at hl 0 rfl) ?_
      refine kg_P_P_place hx hb hG hown hK hV hi d_P_compute_250 ?_
      exact J253 _ _ _ s21 (s21 1 i 5) (lv_sub hl [] rfl) hV hw
    · have hw := hw.2 hc
      refine lv_iload_n hx hb d_P_compute_245 rfl (lv_at hl 2 rfl) ?_
      refine lv_goto (tgt := 253) hx hb d_P_compute_246 rfl ?_
      exact J253 _ _ _ s21 x2 (lv_sub hl [] rfl) hV hw
  have hsw := hsw.2
  by_cases hc24 : x1 = 24
  · have hw := hsw.1 hc24
    refine lv_tableIn (off := 258) (tgt := 259) hx hb d_P_compute_1 (by rw [hc24]; decide) (by rw [hc24]; decide) (by rw [hc24]; decide) rfl ?_
    refine lv_aload_n hx hb d_P_compute_259 rfl (lv_at hl 0 rfl) ?_
    refine lv_aload_n hx hb d_P_compute_260 rfl (lv_at hl 0 rfl) ?_
    refine kg_P_P_place hx hb hG hown hK hV hi d_P_compute_261 ?_
    refine kc_P_P_push hx hb hml hown hts hV hK hX hAe (c_P_push l E s0 i hi (s0 1 i 5) _ hw) hi hl.1 (Nat.le_of_ble_eq_true rfl) d_P_compute_264 (Nat.le_of_ble_eq_true rfl) (Nat.le_of_ble_eq_true rfl) (fun s23 H locs hw hV => ?_)
    refine lv_aload_n hx hb d_P_compute_267 rfl (lv_at hl 0 rfl) ?_
    refine lv_iload_n hx hb d_P_compute_268 rfl (lv_at hl 2 rfl) ?_
    refine kp_P_P_place hx hb hG hown hK hV hi d_P_compute_269 (fun s24 H locs es24 hV => ?_)
    have hw := hw s24 es24
    refine lv_goto (tgt := 291) hx hb d_P_compute_272 rfl ?_
    exact kr_v hx hb hr hV hK hX hAe hw d_P_compute_291
  have hsw := hsw.2
  by_cases hc25 : x1 = 25
  · have hw := hsw.1 hc25
    refine lv_tableIn (off := 274) (tgt := 275) hx hb d_P_compute_1 (by rw [hc25]; decide) (by rw [hc25]; decide) (by rw [hc25]; decide) rfl ?_
    refine lv_aload_n hx hb d_P_compute_275 rfl (lv_at hl 0 rfl) ?_
    refine lv_aload_n hx hb d_P_compute_276 rfl (lv_at hl 0 rfl) ?_
    refine kc_P_P_pop hx hb hml hown hts hV hK hX hAe (c_P_pop l E s0 i hi _ hw) hi hl.1 (Nat.le_of_ble_eq_true rfl) d_P_compute_277 (Nat.le_of_ble_eq_true rfl) (Nat.le_of_ble_eq_true rfl) (fun r26 s25 H locs hw hV => ?_)
    refine kp_P_P_place hx hb hG hown hK hV hi d_P_compute_280 (fun s27 H locs es27 hV => ?_)
    have hw := hw s27 es27
    refine lv_goto (tgt := 291) hx hb d_P_compute_283 rfl ?_
    exact kr_v hx hb hr hV hK hX hAe hw d_P_compute_291
  have hsw := hsw.2
  have hw := hsw ⟨hc0, hc1, hc2, hc3, hc4, hc17, hc18, hc19, hc20, hc21, hc22, hc23, hc24, hc25⟩
  refine kr_dflt (g2 := F0 m 286 ls []) ?_ (fun kd => ?_)
  · refine lv_aload_n hx hb d_P_compute_286 rfl (lv_at hl 0 rfl) ?_
    refine lv_iload_n hx hb d_P_compute_287 rfl (lv_at hl 1 rfl) ?_
    refine kc_P_P_combine hx hb hml hown hts hV hK hX hAe (c_P_combine l E s0 i hi x1 _ hw) hi hl.1 (Nat.le_of_ble_eq_true rfl) d_P_compute_288 (Nat.le_of_ble_eq_true rfl) (Nat.le_of_ble_eq_true rfl) (fun s28 H locs hw hV => ?_)
    exact kr_v hx hb hr hV hK hX hAe hw d_P_compute_291
  by_cases hc5 : x1 = 5
  · exact lv_tableIn (off := 285) (tgt := 286) hx hb d_P_compute_1 (by rw [hc5]; decide) (by rw [hc5]; decide) (by rw [hc5]; decide) rfl kd
  by_cases hc6 : x1 = 6
  · exact lv_tableIn (off := 285) (tgt := 286) hx hb d_P_compute_1 (by rw [hc6]; decide) (by rw [hc6]; decide) (by rw [hc6]; decide) rfl kd
  by_cases hc7 : x1 = 7
  · exact lv_tableIn (off := 285) (tgt := 286) hx hb d_P_compute_1 (by rw [hc7]; decide) (by rw [hc7]; decide) (by rw [hc7]; decide) rfl kd
  by_cases hc8 : x1 = 8
  · exact lv_tableIn (off := 285) (tgt := 286) hx hb d_P_compute_1 (by rw [hc8]; decide) (by rw [hc8]; decide) (by rw [hc8]; decide) rfl kd
  by_cases hc9 : x1 = 9
  · exact lv_tableIn (off := 285) (tgt := 286) hx hb d_P_compute_1 (by rw [hc9]; decide) (by rw [hc9]; decide) (by rw [hc9]; decide) rfl kd
  by_cases hc10 : x1 = 10
  · exact lv_tableIn (off := 285) (tgt := 286) hx hb d_P_compute_1 (by rw [hc10]; decide) (by rw [hc10]; decide) (by rw [hc10]; decide) rfl kd
  by_cases hc11 : x1 = 11
  · exact lv_tableIn (off := 285) (tgt := 286) hx hb d_P_compute_1 (by rw [hc11]; decide) (by rw [hc11]; decide) (by rw [hc11]; decide) rfl kd
  by_cases hc12 : x1 = 12
  · exact lv_tableIn (off := 285) (tgt := 286) hx hb d_P_compute_1 (by rw [hc12]; decide) (by rw [hc12]; decide) (by rw [hc12]; decide) rfl kd
  by_cases hc13 : x1 = 13
  · exact lv_tableIn (off := 285) (tgt := 286) hx hb d_P_compute_1 (by rw [hc13]; decide) (by rw [hc13]; decide) (by rw [hc13]; decide) rfl kd
  by_cases hc14 : x1 = 14
  · exact lv_tableIn (off := 285) (tgt := 286) hx hb d_P_compute_1 (by rw [hc14]; decide) (by rw [hc14]; decide) (by rw [hc14]; decide) rfl kd
  by_cases hc15 : x1 = 15
  · exact lv_tableIn (off := 285) (tgt := 286) hx hb d_P_compute_1 (by rw [hc15]; decide) (by rw [hc15]; decide) (by rw [hc15]; decide) rfl kd
  by_cases hc16 : x1 = 16
  · exact lv_tableIn (off := 285) (tgt := 286) hx hb d_P_compute_1 (by rw [hc16]; decide) (by rw [hc16]; decide) (by rw [hc16]; decide) rfl kd
  have hn0 : ¬ x1.toInt = 0 := lv_neT hc0 (by decide)
  have hn1 : ¬ x1.toInt = 1 := lv_neT hc1 (by decide)
  have hn2 : ¬ x1.toInt = 2 := lv_neT hc2 (by decide)
  have hn3 : ¬ x1.toInt = 3 := lv_neT hc3 (by decide)
  have hn4 : ¬ x1.toInt = 4 := lv_neT hc4 (by decide)
  have hn5 : ¬ x1.toInt = 5 := lv_neT hc5 (by decide)
  have hn6 : ¬ x1.toInt = 6 := lv_neT hc6 (by decide)
  have hn7 : ¬ x1.toInt = 7 := lv_neT hc7 (by decide)
  have hn8 : ¬ x1.toInt = 8 := lv_neT hc8 (by decide)
  have hn9 : ¬ x1.toInt = 9 := lv_neT hc9 (by decide)
  have hn10 : ¬ x1.toInt = 10 := lv_neT hc10 (by decide)
  have hn11 : ¬ x1.toInt = 11 := lv_neT hc11 (by decide)
  have hn12 : ¬ x1.toInt = 12 := lv_neT hc12 (by decide)
  have hn13 : ¬ x1.toInt = 13 := lv_neT hc13 (by decide)
  have hn14 : ¬ x1.toInt = 14 := lv_neT hc14 (by decide)
  have hn15 : ¬ x1.toInt = 15 := lv_neT hc15 (by decide)
  have hn16 : ¬ x1.toInt = 16 := lv_neT hc16 (by decide)
  have hn17 : ¬ x1.toInt = 17 := lv_neT hc17 (by decide)
  have hn18 : ¬ x1.toInt = 18 := lv_neT hc18 (by decide)
  have hn19 : ¬ x1.toInt = 19 := lv_neT hc19 (by decide)
  have hn20 : ¬ x1.toInt = 20 := lv_neT hc20 (by decide)
  have hn21 : ¬ x1.toInt = 21 := lv_neT hc21 (by decide)
  have hn22 : ¬ x1.toInt = 22 := lv_neT hc22 (by decide)
  have hn23 : ¬ x1.toInt = 23 := lv_neT hc23 (by decide)
  have hn24 : ¬ x1.toInt = 24 := lv_neT hc24 (by decide)
  have hn25 : ¬ x1.toInt = 25 := lv_neT hc25 (by decide)
  exact lv_tableOut (tgt := 286) hx hb d_P_compute_1 (by omega) rfl kd

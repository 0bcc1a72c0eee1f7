theorem d_K_load_0 : decode b_K_load 0 = .ok (.iload_n 1, 1) := by decide +kernel
theorem d_K_load_1 : decode b_K_load 1 = .ok (.ifCond .lt 10, 3) := by decide +kernel
theorem d_K_load_4 : decode b_K_load 4 = .ok (.iload_n 1, 1) := by decide +kernel
theorem d_K_load_5 : decode b_K_load 5 = .ok (.sipush 128, 3) := by decide +kernel
theorem d_K_load_8 : decode b_K_load 8 = .ok (.if_icmp .lt 13, 3) := by decide +kernel
theorem d_K_load_11 : decode b_K_load 11 = .ok (.new 74, 3) := by decide +kernel
theorem d_K_load_14 : decode b_K_load 14 = .ok (.dup, 1) := by decide +kernel
theorem d_K_load_15 : decode b_K_load 15 = .ok (.ldc 76, 2) := by decide +kernel
theorem d_K_load_17 : decode b_K_load 17 = .ok (.invokespecial 78, 3) := by decide +kernel
theorem d_K_load_20 : decode b_K_load 20 = .ok (.athrow, 1) := by decide +kernel
theorem d_K_load_21 : decode b_K_load 21 = .ok (.aload_n 0, 1) := by decide +kernel
theorem d_K_load_22 : decode b_K_load 22 = .ok (.getfield 41, 3) := by decide +kernel
theorem d_K_load_25 : decode b_K_load 25 = .ok (.ifCond .eq 13, 3) := by decide +kernel
theorem d_K_load_28 : decode b_K_load 28 = .ok (.new 81, 3) := by decide +kernel
theorem d_K_load_31 : decode b_K_load 31 = .ok (.dup, 1) := by decide +kernel
theorem d_K_load_32 : decode b_K_load 32 = .ok (.ldc 83, 2) := by decide +kernel
theorem d_K_load_34 : decode b_K_load 34 = .ok (.invokespecial 85, 3) := by decide +kernel
theorem d_K_load_37 : decode b_K_load 37 = .ok (.athrow, 1) := by decide +kernel
theorem d_K_load_38 : decode b_K_load 38 = .ok (.aload_n 0, 1) := by decide +kernel
theorem d_K_load_39 : decode b_K_load 39 = .ok (.getfield 11, 3) := by decide +kernel
theorem d_K_load_42 : decode b_K_load 42 = .ok (.iconst 0, 1) := by decide +kernel
theorem d_K_load_43 : decode b_K_load 43 = .ok (.aaload, 1) := by decide +kernel
theorem d_K_load_44 : decode b_K_load 44 = .ok (.getfield 86, 3) := by decide +kernel
theorem d_K_load_47 : decode b_K_load 47 = .ok (.iload_n 1, 1) := by decide +kernel
theorem d_K_load_48 : decode b_K_load 48 = .ok (.iload_n 2, 1) := by decide +kernel
theorem d_K_load_49 : decode b_K_load 49 = .ok (.iastore, 1) := by decide +kernel
theorem d_K_load_50 : decode b_K_load 50 = .ok (.return_, 1) := by decide +kernel
def w_K_load (cp : Nat) (x1 : Int32) (x2 : Int32) (s0 : KS) (Φ : KS → Prop) (Ψ : Nat → KS → Prop) : Prop := ((x1 < 0 → Ψ 0 s0) ∧ (¬ x1 < 0 → ((x1 < (128 : Int32) → (((s0 0 0 9) = 0 → vp_in (0 : Int32) 16 ∧ vp_in x1 128 ∧ ∀ s2 : KS, s2 = w3 s0 2 ((0 : Int32).toNatClampNeg) x1.toNatClampNeg x2 → Φ s2) ∧ (¬ (s0 0 0 9) = 0 → Ψ 1 s0))) ∧ (¬ x1 < (128 : Int32) → Ψ 0 s0))))
set_option maxHeartbeats 4000000 in
set_option maxRecDepth 100000 in
theorem c_K_load (l : Launch) (hl0 : l.stackTraces = false) (E : gE) (s0 : KS) (x1 : Int32) (x2 : Int32) (Φ : KS → Prop) (Ψ : Nat → KS → Prop) (hw : w_K_load (eN E) x1 x2 s0 Φ Ψ) : gXv l y_K_load v_K_load m_K_load E KK [.ref (ea E 0 0), .int x1, .int x2] s0 Φ Ψ := by
  intro sz
  refine vx_ofW (cc := b_K_load) (maxL := 3) (ret := none) (by decide) rfl ?_
  intro p e s m args below meth c s₁ B hml hex hv
  obtain ⟨rfl, hsz, ⟨hP, hK, hD, hX⟩, hY⟩ := hv
  have hx := B.exec
  have hb := B.bytes
  have hr := B.returns
  have hts := atoms_spec (ws := v_K_load) B.pre
  have hG : ∀ w ∈ gG, w.before _ s = true := fun w h => hts w (List.mem_cons_of_mem _ h)
  have hown : s.vm.findClass R_K = some m.cls := findClass_of_methodNamed B.named
  have hlocks := B.notSynchronized
  subst hsz
  obtain ⟨A, hAe⟩ : ∃ A, A = gA E KK s.heap.size := ⟨_, rfl⟩
  rw [← hAe] at hD hX hY ⊢
  have hV : gV E KK A s0 s s.heap [] := ⟨hP, hD, va_S.rf⟩
  have hl := lv_entry ([.ref (ea E 0 0), .int x1, .int x2] : List Value) (n := 3) (Nat.le_of_ble_eq_true rfl)
  rw [lg_entry_eq]
  generalize (lg_sl ([.ref (ea E 0 0), .int x1, .int x2] : List Value) ++ List.replicate (3 - (lg_sl ([.ref (ea E 0 0), .int x1, .int x2] : List Value)).length) Slot.unset).toArray = ls at hl ⊢
  have hl : lv_has ls 3 [(0, .ref (ea E 0 0)), (1, .int x1), (2, .int x2)] := hl
  unfold w_K_load at hw
  refine lv_iload_n hx hb d_K_load_0 rfl (lv_at hl 1 rfl) ?_
  refine lv_if_lt (tgt := 11) hx hb d_K_load_1 rfl (fun hc => ?_) (fun hc => ?_)
  · have hw := hw.1 hc
    exact kx_K_74_76 hl0 hx hb hml hl.1 hex hts hown hV hY hAe hw d_K_load_11 d_K_load_14 d_K_load_15 d_K_load_17 d_K_load_20 (Nat.le_of_ble_eq_true rfl) (Nat.le_of_ble_eq_true rfl) (Nat.le_of_ble_eq_true rfl) (Nat.le_of_ble_eq_true rfl)
  · have hw := hw.2 hc
    refine lv_iload_n hx hb d_K_load_4 rfl (lv_at hl 1 rfl) ?_
    refine lv_sipush (v := 128) hx hb d_K_load_5 (by decide) ?_
    refine lv_icmp_lt (tgt := 21) hx hb d_K_load_8 rfl (fun hc => ?_) (fun hc => ?_)
    · have hw := hw.1 hc
      refine lv_aload_n hx hb d_K_load_21 rfl (lv_at hl 0 rfl) ?_
      refine kg_K_K_booted hx hb hG hown hK hV d_K_load_22 ?_
      refine lv_if_eq (tgt := 38) hx hb d_K_load_25 rfl (fun hc => ?_) (fun hc => ?_)
      · have hw := hw.1 hc
        refine lv_aload_n hx hb d_K_load_38 rfl (lv_at hl 0 rfl) ?_
        refine kg_K_K_procs hx hb hG hown hK hV d_K_load_39 ?_
        refine lv_iconst (v := 0) hx hb d_K_load_42 (by decide) ?_
        have hj1 := vp_lt hw.1
        refine kl_9 hx hb hK hV hw.1 d_K_load_43 ?_
        have hw := hw.2
        refine kg_K_P_memory hx hb hG hown hK hV hj1 d_K_load_44 ?_
        refine lv_iload_n hx hb d_K_load_47 rfl (lv_at hl 1 rfl) ?_
        refine lv_iload_n hx hb d_K_load_48 rfl (lv_at hl 2 rfl) ?_
        refine ks_2 hx hb hK hV hj1 hw.1 d_K_load_49 (fun s2 H locs es2 hV => ?_)
        have hw := hw.2 s2 es2
        exact kxr_v hx hb hr hV hK hX hAe hw d_K_load_50
      · have hw := hw.2 hc
        exact kx_K_81_83 hl0 hx hb hml hl.1 hex hts hown hV hY hAe hw d_K_load_28 d_K_load_31 d_K_load_32 d_K_load_34 d_K_load_37 (Nat.le_of_ble_eq_true rfl) (Nat.le_of_ble_eq_true rfl) (Nat.le_of_ble_eq_true rfl) (Nat.le_of_ble_eq_true rfl)
    · have hw := hw.2 hc
      exact kx_K_74_76 hl0 hx hb hml hl.1 hex hts hown hV hY hAe hw d_K_load_11 d_K_load_14 d_K_load_15 d_K_load_17 d_K_load_20 (Nat.le_of_ble_eq_true rfl) (Nat.le_of_ble_eq_true rfl) (Nat.le_of_ble_eq_true rfl) (Nat.le_of_ble_eq_true rfl)
theorem d_K_boot_0 : decode b_K_boot 0 = .ok (.aload_n 0, 1) := by decide +kernel
theorem d_K_boot_1 : decode b_K_boot 1 = .ok (.getfield 41, 3) := by decide +kernel
theorem d_K_boot_4 : decode b_K_boot 4 = .ok (.ifCond .eq 13, 3) := by decide +kernel
theorem d_K_boot_7 : decode b_K_boot 7 = .ok (.new 81, 3) := by decide +kernel
theorem d_K_boot_10 : decode b_K_boot 10 = .ok (.dup, 1) := by decide +kernel
theorem d_K_boot_11 : decode b_K_boot 11 = .ok (.ldc 83, 2) := by decide +kernel
theorem d_K_boot_13 : decode b_K_boot 13 = .ok (.invokespecial 85, 3) := by decide +kernel
theorem d_K_boot_16 : decode b_K_boot 16 = .ok (.athrow, 1) := by decide +kernel
theorem d_K_boot_17 : decode b_K_boot 17 = .ok (.aload_n 0, 1) := by decide +kernel
theorem d_K_boot_18 : decode b_K_boot 18 = .ok (.iconst 1, 1) := by decide +kernel
theorem d_K_boot_19 : decode b_K_boot 19 = .ok (.putfield 41, 3) := by decide +kernel
theorem d_K_boot_22 : decode b_K_boot 22 = .ok (.aload_n 0, 1) := by decide +kernel
theorem d_K_boot_23 : decode b_K_boot 23 = .ok (.getfield 11, 3) := by decide +kernel
theorem d_K_boot_26 : decode b_K_boot 26 = .ok (.iconst 0, 1) := by decide +kernel
theorem d_K_boot_27 : decode b_K_boot 27 = .ok (.aaload, 1) := by decide +kernel
theorem d_K_boot_28 : decode b_K_boot 28 = .ok (.getfield 89, 3) := by decide +kernel
theorem d_K_boot_31 : decode b_K_boot 31 = .ok (.iconst 0, 1) := by decide +kernel
theorem d_K_boot_32 : decode b_K_boot 32 = .ok (.iconst 1, 1) := by decide +kernel
theorem d_K_boot_33 : decode b_K_boot 33 = .ok (.iastore, 1) := by decide +kernel
theorem d_K_boot_34 : decode b_K_boot 34 = .ok (.aload_n 0, 1) := by decide +kernel
theorem d_K_boot_35 : decode b_K_boot 35 = .ok (.getfield 11, 3) := by decide +kernel
theorem d_K_boot_38 : decode b_K_boot 38 = .ok (.iconst 0, 1) := by decide +kernel
theorem d_K_boot_39 : decode b_K_boot 39 = .ok (.aaload, 1) := by decide +kernel
theorem d_K_boot_40 : decode b_K_boot 40 = .ok (.getfield 89, 3) := by decide +kernel
theorem d_K_boot_43 : decode b_K_boot 43 = .ok (.iconst 1, 1) := by decide +kernel
theorem d_K_boot_44 : decode b_K_boot 44 = .ok (.iconst 2, 1) := by decide +kernel
theorem d_K_boot_45 : decode b_K_boot 45 = .ok (.iastore, 1) := by decide +kernel
theorem d_K_boot_46 : decode b_K_boot 46 = .ok (.aload_n 0, 1) := by decide +kernel
theorem d_K_boot_47 : decode b_K_boot 47 = .ok (.aload_n 0, 1) := by decide +kernel
theorem d_K_boot_48 : decode b_K_boot 48 = .ok (.getfield 11, 3) := by decide +kernel
theorem d_K_boot_51 : decode b_K_boot 51 = .ok (.iconst 0, 1) := by decide +kernel
theorem d_K_boot_52 : decode b_K_boot 52 = .ok (.aaload, 1) := by decide +kernel
theorem d_K_boot_53 : decode b_K_boot 53 = .ok (.invokevirtual 92, 3) := by decide +kernel
theorem d_K_boot_56 : decode b_K_boot 56 = .ok (.return_, 1) := by decide +kernel
def w_K_boot (cp : Nat) (s0 : KS) (Φ : KS → Prop) (Ψ : Nat → KS → Prop) : Prop := (((s0 0 0 9) = 0 → ∀ s1 : KS, s1 = w3 s0 0 0 9 (1 : Int32) → vp_in (0 : Int32) 16 ∧ vp_in (0 : Int32) 8 ∧ ∀ s3 : KS, s3 = w3 s1 4 ((0 : Int32).toNatClampNeg) (0 : Int32).toNatClampNeg (1 : Int32) → vp_in (0 : Int32) 16 ∧ vp_in (1 : Int32) 8 ∧ ∀ s5 : KS, s5 = w3 s3 4 ((0 : Int32).toNatClampNeg) (1 : Int32).toNatClampNeg (2 : Int32) → vp_in (0 : Int32) 16 ∧ w_K_makeReady cp ((0 : Int32).toNatClampNeg) s5 (fun s7 => Φ s7)) ∧ (¬ (s0 0 0 9) = 0 → Ψ 1 s0))
set_option maxHeartbeats 4000000 in
set_option maxRecDepth 100000 in
theorem c_K_boot (l : Launch) (hl0 : l.stackTraces = false) (E : gE) (s0 : KS)  (Φ : KS → Prop) (Ψ : Nat → KS → Prop) (hw : w_K_boot (eN E) s0 Φ Ψ) : gXv l y_K_boot v_K_boot m_K_boot E KK [.ref (ea E 0 0)] s0 Φ Ψ := by
  intro sz
  refine vx_ofW (cc := b_K_boot) (maxL := 1) (ret := none) (by decide) rfl ?_
  intro p e s m args below meth c s₁ B hml hex hv
  obtain ⟨rfl, hsz, ⟨hP, hK, hD, hX⟩, hY⟩ := hv
  have hx := B.exec
  have hb := B.bytes
  have hr := B.returns
  have hts := atoms_spec (ws := v_K_boot) B.pre
  have hG : ∀ w ∈ gG, w.before _ s = true := fun w h => hts w (List.mem_cons_of_mem _ h)
  have hown : s.vm.findClass R_K = some m.cls := findClass_of_methodNamed B.named
  have hlocks := B.notSynchronized
  subst hsz
  obtain ⟨A, hAe⟩ : ∃ A, A = gA E KK s.heap.size := ⟨_, rfl⟩
  rw [← hAe] at hD hX hY ⊢
  have hV : gV E KK A s0 s s.heap [] := ⟨hP, hD, va_S.rf⟩
  have hl := lv_entry ([.ref (ea E 0 0)] : List Value) (n := 1) (Nat.le_of_ble_eq_true rfl)
  rw [lg_entry_eq]
  generalize (lg_sl ([.ref (ea E 0 0)] : List Value) ++ List.replicate (1 - (lg_sl ([.ref (ea E 0 0)] : List Value)).length) Slot.unset).toArray = ls at hl ⊢
  have hl : lv_has ls 1 [(0, .ref (ea E 0 0))] := hl
  unfold w_K_boot at hw
  refine lv_aload_n hx hb d_K_boot_0 rfl (lv_at hl 0 rfl) ?_
  refine kg_K_K_booted hx hb hG hown hK hV d_K_boot_1 ?_
  refine lv_if_eq (tgt := 17) hx hb d_K_boot_4 rfl (fun hc => ?_) (fun hc => ?_)
  · have hw := hw.1 hc
    refine lv_aload_n hx hb d_K_boot_17 rfl (lv_at hl 0 rfl) ?_
    refine lv_iconst (v := 1) hx hb d_K_boot_18 (by decide) ?_
    refine kp_K_K_booted hx hb hG hown hK hV (by decide) (by decide) d_K_boot_19 (fun s1 H locs es1 hV => ?_)
    have hw := hw s1 es1
    refine lv_aload_n hx hb d_K_boot_22 rfl (lv_at hl 0 rfl) ?_
    refine kg_K_K_procs hx hb hG hown hK hV d_K_boot_23 ?_
    refine lv_iconst (v := 0) hx hb d_K_boot_26 (by decide) ?_
    have hj2 := vp_lt hw.1
    refine kl_9 hx hb hK hV hw.1 d_K_boot_27 ?_
    have hw := hw.2
    refine kg_K_P_descriptors hx hb hG hown hK hV hj2 d_K_boot_28 ?_
    refine lv_iconst (v := 0) hx hb d_K_boot_31 (by decide) ?_
    refine lv_iconst (v := 1) hx hb d_K_boot_32 (by decide) ?_
    refine ks_4 hx hb hK hV hj2 hw.1 d_K_boot_33 (fun s3 H locs es3 hV => ?_)
    have hw := hw.2 s3 es3
    refine lv_aload_n hx hb d_K_boot_34 rfl (lv_at hl 0 rfl) ?_
    refine kg_K_K_procs hx hb hG hown hK hV d_K_boot_35 ?_
    refine lv_iconst (v := 0) hx hb d_K_boot_38 (by decide) ?_
    have hj4 := vp_lt hw.1
    refine kl_9 hx hb hK hV hw.1 d_K_boot_39 ?_
    have hw := hw.2
    refine kg_K_P_descriptors hx hb hG hown hK hV hj4 d_K_boot_40 ?_
    refine lv_iconst (v := 1) hx hb d_K_boot_43 (by decide) ?_
    refine lv_iconst (v := 2) hx hb d_K_boot_44 (by decide) ?_
    refine ks_4 hx hb hK hV hj4 hw.1 d_K_boot_45 (fun s5 H locs es5 hV => ?_)
    have hw := hw.2 s5 es5
    refine lv_aload_n hx hb d_K_boot_46 rfl (lv_at hl 0 rfl) ?_
    refine lv_aload_n hx hb d_K_boot_47 rfl (lv_at hl 0 rfl) ?_
    refine kg_K_K_procs hx hb hG hown hK hV d_K_boot_48 ?_
    refine lv_iconst (v := 0) hx hb d_K_boot_51 (by decide) ?_
    have hj6 := vp_lt hw.1
    refine kl_9 hx hb hK hV hw.1 d_K_boot_52 ?_
    have hw := hw.2
    refine kc_K_K_makeReady hx hb hml hown hts hV hK hX hAe (c_K_makeReady l E s5 ((0 : Int32).toNatClampNeg) hj6 _ hw) hl.1 (Nat.le_of_ble_eq_true rfl) d_K_boot_53 (Nat.le_of_ble_eq_true rfl) (Nat.le_of_ble_eq_true rfl) (fun s7 H locs hw hV => ?_)
    exact kxr_v hx hb hr hV hK hX hAe hw d_K_boot_56
  · have hw := hw.2 hc
    exact kx_K_81_83 hl0 hx hb hml hl.1 hex hts hown hV hY hAe hw d_K_boot_7 d_K_boot_10 d_K_boot_11 d_K_boot_13 d_K_boot_16 (Nat.le_of_ble_eq_true rfl) (Nat.le_of_ble_eq_true rfl) (Nat.le_of_ble_eq_true rfl) (Nat.le_of_ble_eq_true rfl)
theorem d_K_run_0 : decode b_K_run 0 = .ok (.iload_n 1, 1) := by decide +kernel
theorem d_K_run_1 : decode b_K_run 1 = .ok (.ifCond .lt 9, 3) := by decide +kernel
theorem d_K_run_4 : decode b_K_run 4 = .ok (.iload_n 1, 1) := by decide +kernel
theorem d_K_run_5 : decode b_K_run 5 = .ok (.bipush 40, 2) := by decide +kernel
theorem d_K_run_7 : decode b_K_run 7 = .ok (.if_icmp .le 13, 3) := by decide +kernel
theorem d_K_run_10 : decode b_K_run 10 = .ok (.new 96, 3) := by decide +kernel
theorem d_K_run_13 : decode b_K_run 13 = .ok (.dup, 1) := by decide +kernel
theorem d_K_run_14 : decode b_K_run 14 = .ok (.ldc 98, 2) := by decide +kernel
theorem d_K_run_16 : decode b_K_run 16 = .ok (.invokespecial 100, 3) := by decide +kernel
theorem d_K_run_19 : decode b_K_run 19 = .ok (.athrow, 1) := by decide +kernel
theorem d_K_run_20 : decode b_K_run 20 = .ok (.iconst 0, 1) := by decide +kernel
theorem d_K_run_21 : decode b_K_run 21 = .ok (.istore_n 2, 1) := by decide +kernel
theorem d_K_run_22 : decode b_K_run 22 = .ok (.iload_n 2, 1) := by decide +kernel
theorem d_K_run_23 : decode b_K_run 23 = .ok (.iload_n 1, 1) := by decide +kernel
theorem d_K_run_24 : decode b_K_run 24 = .ok (.if_icmp .ge 20, 3) := by decide +kernel
theorem d_K_run_27 : decode b_K_run 27 = .ok (.aload_n 0, 1) := by decide +kernel
theorem d_K_run_28 : decode b_K_run 28 = .ok (.invokevirtual 101, 3) := by decide +kernel
theorem d_K_run_31 : decode b_K_run 31 = .ok (.ifCond .eq 13, 3) := by decide +kernel
theorem d_K_run_34 : decode b_K_run 34 = .ok (.aload_n 0, 1) := by decide +kernel
theorem d_K_run_35 : decode b_K_run 35 = .ok (.invokevirtual 105, 3) := by decide +kernel
theorem d_K_run_38 : decode b_K_run 38 = .ok (.iinc 2 1, 3) := by decide +kernel
theorem d_K_run_41 : decode b_K_run 41 = .ok (.goto (-19), 3) := by decide +kernel
theorem d_K_run_44 : decode b_K_run 44 = .ok (.iload_n 2, 1) := by decide +kernel
theorem d_K_run_45 : decode b_K_run 45 = .ok (.ireturn, 1) := by decide +kernel
def w_K_run_22 (cp : Nat) (x1 : Int32) (Φ : Int32 → KS → Prop) (Ψ : Nat → KS → Prop) : Nat → Int32 → KS → Prop
  | 0, _, _ => False
  | n + 1, v2, s0 => ((x1 ≤ v2 → Φ v2 s0) ∧ (¬ x1 ≤ v2 → w_K_goesOn cp s0 (fun r2 s1 => ((r2 = 0 → Φ v2 s1) ∧ (¬ r2 = 0 → w_K_step cp s1 (fun s3 => ∀ y4 : Int32, y4 = v2 + (1 : Int32) → w_K_run_22 cp x1 Φ Ψ n y4 s3))))))
def w_K_run (cp : Nat) (x1 : Int32) (s0 : KS) (Φ : Int32 → KS → Prop) (Ψ : Nat → KS → Prop) : Prop := ((x1 < 0 → Ψ 2 s0) ∧ (¬ x1 < 0 → ((x1 ≤ (40 : Int32) → ∃ nn : Nat, w_K_run_22 cp x1 Φ Ψ nn (0 : Int32) s0) ∧ (¬ x1 ≤ (40 : Int32) → Ψ 2 s0))))
set_option maxHeartbeats 4000000 in
set_option maxRecDepth 100000 in
theorem c_K_run (l : Launch) (hl0 : l.stackTraces = false) (E : gE) (s0 : KS) (x1 : Int32) (Φ : Int32 → KS → Prop) (Ψ : Nat → KS → Prop) (hw : w_K_run (eN E) x1 s0 Φ Ψ) : gXi l y_K_run v_K_run m_K_run E KK [.ref (ea E 0 0), .int x1] s0 Φ Ψ := by
  intro sz
  refine vx_ofW (cc := b_K_run) (maxL := 3) (ret := (some .int)) (by decide) rfl ?_
  intro p e s m args below meth c s₁ B hml hex hv
  obtain ⟨rfl, hsz, ⟨hP, hK, hD, hX⟩, hY⟩ := hv
  have hx := B.exec
  have hb := B.bytes
  have hr := B.returns
  have hts := atoms_spec (ws := v_K_run) B.pre
  have hG : ∀ w ∈ gG, w.before _ s = true := fun w h => hts w (List.mem_cons_of_mem _ h)
  have hown : s.vm.findClass R_K = some m.cls := findClass_of_methodNamed B.named
  have hlocks := B.notSynchronized
  subst hsz
  obtain ⟨A, hAe⟩ : ∃ A, A = gA E KK s.heap.size := ⟨_, rfl⟩
  rw [← hAe] at hD hX hY ⊢
  have hV : gV E KK A s0 s s.heap [] := ⟨hP, hD, va_S.rf⟩
  have hl := lv_entry ([.ref (ea E 0 0), .int x1] : List Value) (n := 3) (Nat.le_of_ble_eq_true rfl)
  rw [lg_entry_eq]
  generalize (lg_sl ([.ref (ea E 0 0), .int x1] : List Value) ++ List.replicate (3 - (lg_sl ([.ref (ea E 0 0), .int x1] : List Value)).length) Slot.unset).toArray = ls at hl ⊢
  have hl : lv_has ls 3 [(0, .ref (ea E 0 0)), (1, .int x1)] := hl
  have L22 : ∀ (n : Nat), ∀ (ls : Array Slot) (H : Heap) (locs : List Loc) (s0 : KS) (v2 : Int32), lv_has ls 3 [(0, .ref (ea E 0 0)), (1, .int x1), (2, .int v2)] → gV E KK A s0 s H locs → w_K_run_22 (eN E) x1 Φ Ψ n v2 s0 → W p l e m_K_run s m ([.ref (ea E 0 0), .int x1] : List Value).toArray below meth c H locs 0 0 (vx_MQ below (gQi E KK A Φ) (gXC E KK A Ψ) ([.ref (ea E 0 0), .int x1] : List Value).toArray s 1 6 A) (F0 m 22 ls []) := by
    intro n
    induction n with
    | zero =>
      intro ls H locs s0 v2 hl hV hw
      exact False.elim hw
    | succ n ih =>
      intro ls H locs s0 v2 hl hV hw
      unfold w_K_run_22 at hw
      refine lv_iload_n hx hb d_K_run_22 rfl (lv_at hl 2 rfl) ?_
      refine lv_iload_n hx hb d_K_run_23 rfl (lv_at hl 1 rfl) ?_
      refine lv_icmp_ge (tgt := 44) hx hb d_K_run_24 rfl (fun hc => ?_) (fun hc => ?_)
      · have hw := hw.1 hc
        refine lv_iload_n hx hb d_K_run_44 rfl (lv_at hl 2 rfl) ?_
        exact kxr_i hx hb hr hV hK hX hAe hw d_K_run_45
      · have hw := hw.2 hc
        refine lv_aload_n hx hb d_K_run_27 rfl (lv_at hl 0 rfl) ?_
        refine kc_K_K_goesOn hx hb hml hown hts hV hK hX hAe (c_K_goesOn l E s0 _ hw) hl.1 (Nat.le_of_ble_eq_true rfl) d_K_run_28 (Nat.le_of_ble_eq_true rfl) (Nat.le_of_ble_eq_true rfl) (fun r2 s1 H locs hw hV => ?_)
        refine lv_if_eq (tgt := 44) hx hb d_K_run_31 rfl (fun hc => ?_) (fun hc => ?_)
        · have hw := hw.1 hc
          refine lv_iload_n hx hb d_K_run_44 rfl (lv_at hl 2 rfl) ?_
          exact kxr_i hx hb hr hV hK hX hAe hw d_K_run_45
        · have hw := hw.2 hc
          refine lv_aload_n hx hb d_K_run_34 rfl (lv_at hl 0 rfl) ?_
          refine kc_K_K_step hx hb hml hown hts hV hK hX hAe (c_K_step l E s1 _ hw) hl.1 (Nat.le_of_ble_eq_true rfl) d_K_run_35 (Nat.le_of_ble_eq_true rfl) (Nat.le_of_ble_eq_true rfl) (fun s3 H locs hw hV => ?_)
          obtain ⟨y4, ey4⟩ : ∃ z : Int32, z = v2 + (1 : Int32) := ⟨_, rfl⟩
          have hw := hw y4 ey4
          refine lv_iinc (k := 2) (v := y4) (lv' := [(2, .int y4), (0, .ref (ea E 0 0)), (1, .int x1)]) hx hb d_K_run_38 hl rfl (by rw [ey4]; rfl) (by decide) rfl (fun ls hl => ?_)
          refine lv_goto (tgt := 22) hx hb d_K_run_41 rfl ?_
          exact ih _ _ _ s3 y4 (lv_sub hl [1, 2, 0] rfl) hV hw
  unfold w_K_run at hw
  refine lv_iload_n hx hb d_K_run_0 rfl (lv_at hl 1 rfl) ?_
  refine lv_if_lt (tgt := 10) hx hb d_K_run_1 rfl (fun hc => ?_) (fun hc => ?_)
  · have hw := hw.1 hc
    exact kx_K_96_98 hl0 hx hb hml hl.1 hex hts hown hV hY hAe hw d_K_run_10 d_K_run_13 d_K_run_14 d_K_run_16 d_K_run_19 (Nat.le_of_ble_eq_true rfl) (Nat.le_of_ble_eq_true rfl) (Nat.le_of_ble_eq_true rfl) (Nat.le_of_ble_eq_true rfl)
  · have hw := hw.2 hc
    refine lv_iload_n hx hb d_K_run_4 rfl (lv_at hl 1 rfl) ?_
    refine lv_bipush (v := 40) hx hb d_K_run_5 (by decide) ?_
    refine lv_icmp_le (tgt := 20) hx hb d_K_run_7 rfl (fun hc => ?_) (fun hc => ?_)
    · have hw := hw.1 hc
      refine lv_iconst (v := 0) hx hb d_K_run_20 (by decide) ?_
      refine lv_istore_n (lv' := [(2, .int (0 : Int32)), (0, .ref (ea E 0 0)), (1, .int x1)]) hx hb d_K_run_21 rfl hl (by decide) rfl (fun ls hl => ?_)
      obtain ⟨nn, hw⟩ := hw
      exact L22 nn _ _ _ s0 (0 : Int32) (lv_sub hl [1, 2, 0] rfl) hV hw
    · have hw := hw.2 hc
      exact kx_K_96_98 hl0 hx hb hml hl.1 hex hts hown hV hY hAe hw d_K_run_10 d_K_run_13 d_K_run_14 d_K_run_16 d_K_run_19 (Nat.le_of_ble_eq_true rfl) (Nat.le_of_ble_eq_true rfl) (Nat.le_of_ble_eq_true rfl) (Nat.le_of_ble_eq_true rfl)
theorem d_K_feed_0 : decode b_K_feed 0 = .ok (.aload_n 0, 1) := by decide +kernel
theorem d_K_feed_1 : decode b_K_feed 1 = .ok (.getfield 52, 3) := by decide +kernel
theorem d_K_feed_4 : decode b_K_feed 4 = .ok (.ifCond .ne 13, 3) := by decide +kernel
theorem d_K_feed_7 : decode b_K_feed 7 = .ok (.aload_n 0, 1) := by decide +kernel
theorem d_K_feed_8 : decode b_K_feed 8 = .ok (.getfield 48, 3) := by decide +kernel
theorem d_K_feed_11 : decode b_K_feed 11 = .ok (.invokevirtual 108, 3) := by decide +kernel
theorem d_K_feed_14 : decode b_K_feed 14 = .ok (.ifCond .eq 13, 3) := by decide +kernel
theorem d_K_feed_17 : decode b_K_feed 17 = .ok (.new 81, 3) := by decide +kernel
theorem d_K_feed_20 : decode b_K_feed 20 = .ok (.dup, 1) := by decide +kernel
theorem d_K_feed_21 : decode b_K_feed 21 = .ok (.ldc 111, 2) := by decide +kernel
theorem d_K_feed_23 : decode b_K_feed 23 = .ok (.invokespecial 85, 3) := by decide +kernel
theorem d_K_feed_26 : decode b_K_feed 26 = .ok (.athrow, 1) := by decide +kernel
theorem d_K_feed_27 : decode b_K_feed 27 = .ok (.aload_n 0, 1) := by decide +kernel
theorem d_K_feed_28 : decode b_K_feed 28 = .ok (.getfield 48, 3) := by decide +kernel
theorem d_K_feed_31 : decode b_K_feed 31 = .ok (.iload_n 1, 1) := by decide +kernel
theorem d_K_feed_32 : decode b_K_feed 32 = .ok (.invokevirtual 113, 3) := by decide +kernel
theorem d_K_feed_35 : decode b_K_feed 35 = .ok (.aload_n 0, 1) := by decide +kernel
theorem d_K_feed_36 : decode b_K_feed 36 = .ok (.iconst 1, 1) := by decide +kernel
theorem d_K_feed_37 : decode b_K_feed 37 = .ok (.invokevirtual 116, 3) := by decide +kernel
theorem d_K_feed_40 : decode b_K_feed 40 = .ok (.aload_n 0, 1) := by decide +kernel
theorem d_K_feed_41 : decode b_K_feed 41 = .ok (.getfield 48, 3) := by decide +kernel
theorem d_K_feed_44 : decode b_K_feed 44 = .ok (.getfield 119, 3) := by decide +kernel
theorem d_K_feed_47 : decode b_K_feed 47 = .ok (.ireturn, 1) := by decide +kernel
def w_K_feed (cp : Nat) (x1 : Int32) (s0 : KS) (Φ : Int32 → KS → Prop) (Ψ : Nat → KS → Prop) : Prop := ((¬ (s0 0 0 11) = 0 → Ψ 1 s0) ∧ ((s0 0 0 11) = 0 → w_W_isFull cp 8 s0 (fun r2 s1 => ((r2 = 0 → w_W_add cp 8 x1 s1 (fun s3 => w_K_wakeFirst cp (1 : Int32) s3 (fun s4 => Φ (s4 5 8 2) s4))) ∧ (¬ r2 = 0 → Ψ 1 s1)))))
set_option maxHeartbeats 4000000 in
set_option maxRecDepth 100000 in
theorem c_K_feed (l : Launch) (hl0 : l.stackTraces = false) (E : gE) (s0 : KS) (x1 : Int32) (Φ : Int32 → KS → Prop) (Ψ : Nat → KS → Prop) (hw : w_K_feed (eN E) x1 s0 Φ Ψ) : gXi l y_K_feed v_K_feed m_K_feed E KK [.ref (ea E 0 0), .int x1] s0 Φ Ψ := by
  intro sz
  refine vx_ofW (cc := b_K_feed) (maxL := 2) (ret := (some .int)) (by decide) rfl ?_
  intro p e s m args below meth c s₁ B hml hex hv
  obtain ⟨rfl, hsz, ⟨hP, hK, hD, hX⟩, hY⟩ := hv
  have hx := B.exec
  have hb := B.bytes
  have hr := B.returns
  have hts := atoms_spec (ws := v_K_feed) B.pre
  have hG : ∀ w ∈ gG, w.before _ s = true := fun w h => hts w (List.mem_cons_of_mem _ h)
  have hown : s.vm.findClass R_K = some m.cls := findClass_of_methodNamed B.named
  have hlocks := B.notSynchronized
  subst hsz
  obtain ⟨A, hAe⟩ : ∃ A, A = gA E KK s.heap.size := ⟨_, rfl⟩
  rw [← hAe] at hD hX hY ⊢
  have hV : gV E KK A s0 s s.heap [] := ⟨hP, hD, va_S.rf⟩
  have hl := lv_entry ([.ref (ea E 0 0), .int x1] : List Value) (n := 2) (Nat.le_of_ble_eq_true rfl)
  rw [lg_entry_eq]
  generalize (lg_sl ([.ref (ea E 0 0), .int x1] : List Value) ++ List.replicate (2 - (lg_sl ([.ref (ea E 0 0), .int x1] : List Value)).length) Slot.unset).toArray = ls at hl ⊢
  have hl : lv_has ls 2 [(0, .ref (ea E 0 0)), (1, .int x1)] := hl
  unfold w_K_feed at hw
  refine lv_aload_n hx hb d_K_feed_0 rfl (lv_at hl 0 rfl) ?_
  refine kg_K_K_inputShut hx hb hG hown hK hV d_K_feed_1 ?_
  refine lv_if_ne (tgt := 17) hx hb d_K_feed_4 rfl (fun hc => ?_) (fun hc => ?_)
  · have hw := hw.1 hc
    exact kx_K_81_111 hl0 hx hb hml hl.1 hex hts hown hV hY hAe hw d_K_feed_17 d_K_feed_20 d_K_feed_21 d_K_feed_23 d_K_feed_26 (Nat.le_of_ble_eq_true rfl) (Nat.le_of_ble_eq_true rfl) (Nat.le_of_ble_eq_true rfl) (Nat.le_of_ble_eq_true rfl)
  · have hw := hw.2 hc
    refine lv_aload_n hx hb d_K_feed_7 rfl (lv_at hl 0 rfl) ?_
    refine kg_K_K_input hx hb hG hown hK hV d_K_feed_8 ?_
    refine kc_K_W_isFull hx hb hml hown hts hV hK hX hAe (c_W_isFull l E s0 8 (by decide) _ hw) (by decide) hl.1 (Nat.le_of_ble_eq_true rfl) d_K_feed_11 (Nat.le_of_ble_eq_true rfl) (Nat.le_of_ble_eq_true rfl) (fun r2 s1 H locs hw hV => ?_)
    refine lv_if_eq (tgt := 27) hx hb d_K_feed_14 rfl (fun hc => ?_) (fun hc => ?_)
    · have hw := hw.1 hc
      refine lv_aload_n hx hb d_K_feed_27 rfl (lv_at hl 0 rfl) ?_
      refine kg_K_K_input hx hb hG hown hK hV d_K_feed_28 ?_
      refine lv_iload_n hx hb d_K_feed_31 rfl (lv_at hl 1 rfl) ?_
      refine kc_K_W_add hx hb hml hown hts hV hK hX hAe (c_W_add l E s1 8 (by decide) x1 _ hw) (by decide) hl.1 (Nat.le_of_ble_eq_true rfl) d_K_feed_32 (Nat.le_of_ble_eq_true rfl) (Nat.le_of_ble_eq_true rfl) (fun s3 H locs hw hV => ?_)
      refine lv_aload_n hx hb d_K_feed_35 rfl (lv_at hl 0 rfl) ?_
      refine lv_iconst (v := 1) hx hb d_K_feed_36 (by decide) ?_
      refine kc_K_K_wakeFirst hx hb hml hown hts hV hK hX hAe (c_K_wakeFirst l E s3 (1 : Int32) _ hw) hl.1 (Nat.le_of_ble_eq_true rfl) d_K_feed_37 (Nat.le_of_ble_eq_true rfl) (Nat.le_of_ble_eq_true rfl) (fun s4 H locs hw hV => ?_)
      refine lv_aload_n hx hb d_K_feed_40 rfl (lv_at hl 0 rfl) ?_
      refine kg_K_K_input hx hb hG hown hK hV d_K_feed_41 ?_
      refine kg_K_W_count hx hb hG hown hK hV (by decide) d_K_feed_44 ?_
      exact kxr_i hx hb hr hV hK hX hAe hw d_K_feed_47
    · have hw := hw.2 hc
      exact kx_K_81_111 hl0 hx hb hml hl.1 hex hts hown hV hY hAe hw d_K_feed_17 d_K_feed_20 d_K_feed_21 d_K_feed_23 d_K_feed_26 (Nat.le_of_ble_eq_true rfl) (Nat.le_of_ble_eq_true rfl) (Nat.le_of_ble_eq_true rfl) (Nat.le_of_ble_eq_true rfl)
theorem d_K_state_0 : decode b_K_state 0 = .ok (.iload_n 1, 1) := by decide +kernel
theorem d_K_state_1 : decode b_K_state 1 = .ok (.ifCond .lt 9, 3) := by decide +kernel
theorem d_K_state_4 : decode b_K_state 4 = .ok (.iload_n 1, 1) := by decide +kernel
theorem d_K_state_5 : decode b_K_state 5 = .ok (.bipush 16, 2) := by decide +kernel
theorem d_K_state_7 : decode b_K_state 7 = .ok (.if_icmp .lt 13, 3) := by decide +kernel
theorem d_K_state_10 : decode b_K_state 10 = .ok (.new 74, 3) := by decide +kernel
theorem d_K_state_13 : decode b_K_state 13 = .ok (.dup, 1) := by decide +kernel
theorem d_K_state_14 : decode b_K_state 14 = .ok (.ldc 125, 2) := by decide +kernel
theorem d_K_state_16 : decode b_K_state 16 = .ok (.invokespecial 78, 3) := by decide +kernel
theorem d_K_state_19 : decode b_K_state 19 = .ok (.athrow, 1) := by decide +kernel
theorem d_K_state_20 : decode b_K_state 20 = .ok (.aload_n 0, 1) := by decide +kernel
theorem d_K_state_21 : decode b_K_state 21 = .ok (.getfield 11, 3) := by decide +kernel
theorem d_K_state_24 : decode b_K_state 24 = .ok (.iload_n 1, 1) := by decide +kernel
theorem d_K_state_25 : decode b_K_state 25 = .ok (.aaload, 1) := by decide +kernel
theorem d_K_state_26 : decode b_K_state 26 = .ok (.getfield 127, 3) := by decide +kernel
theorem d_K_state_29 : decode b_K_state 29 = .ok (.ireturn, 1) := by decide +kernel
def w_K_state (cp : Nat) (x1 : Int32) (s0 : KS) (Φ : Int32 → KS → Prop) (Ψ : Nat → KS → Prop) : Prop := ((x1 < 0 → Ψ 0 s0) ∧ (¬ x1 < 0 → ((x1 < (16 : Int32) → vp_in x1 16 ∧ Φ (s0 1 x1.toNatClampNeg 7) s0) ∧ (¬ x1 < (16 : Int32) → Ψ 0 s0))))
set_option maxHeartbeats 4000000 in
set_option maxRecDepth 100000 in
theorem c_K_state (l : Launch) (hl0 : l.stackTraces = false) (E : gE) (s0 : KS) (x1 : Int32) (Φ : Int32 → KS → Prop) (Ψ : Nat → KS → Prop) (hw : w_K_state (eN E) x1 s0 Φ Ψ) : gXi l y_K_state v_K_state m_K_state E KK [.ref (ea E 0 0), .int x1] s0 Φ Ψ := by
  intro sz
  refine vx_ofW (cc := b_K_state) (maxL := 2) (ret := (some .int)) (by decide) rfl ?_
  intro p e s m args below meth c s₁ B hml hex hv
  obtain ⟨rfl, hsz, ⟨hP, hK, hD, hX⟩, hY⟩ := hv
  have hx := B.exec
  have hb := B.bytes
  have hr := B.returns
  have hts := atoms_spec (ws := v_K_state) B.pre
  have hG : ∀ w ∈ gG, w.before _ s = true := fun w h => hts w (List.mem_cons_of_mem _ h)
  have hown : s.vm.findClass R_K = some m.cls := findClass_of_methodNamed B.named
  have hlocks := B.notSynchronized
  subst hsz
  obtain ⟨A, hAe⟩ : ∃ A, A = gA E KK s.heap.size := ⟨_, rfl⟩
  rw [← hAe] at hD hX hY ⊢
  have hV : gV E KK A s0 s s.heap [] := ⟨hP, hD, va_S.rf⟩
  have hl := lv_entry ([.ref (ea E 0 0), .int x1] : List Value) (n := 2) (Nat.le_of_ble_eq_true rfl)
  rw [lg_entry_eq]
  generalize (lg_sl ([.ref (ea E 0 0), .int x1] : List Value) ++ List.replicate (2 - (lg_sl ([.ref (ea E 0 0), .int x1] : List Value)).length) Slot.unset).toArray = ls at hl ⊢
  have hl : lv_has ls 2 [(0, .ref (ea E 0 0)), (1, .int x1)] := hl
  unfold w_K_state at hw
  refine lv_iload_n hx hb d_K_state_0 rfl (lv_at hl 1 rfl) ?_
  refine lv_if_lt (tgt := 10) hx hb d_K_state_1 rfl (fun hc => ?_) (fun hc => ?_)
  · have hw := hw.1 hc
    exact kx_K_74_125 hl0 hx hb hml hl.1 hex hts hown hV hY hAe hw d_K_state_10 d_K_state_13 d_K_state_14 d_K_state_16 d_K_state_19 (Nat.le_of_ble_eq_true rfl) (Nat.le_of_ble_eq_true rfl) (Nat.le_of_ble_eq_true rfl) (Nat.le_of_ble_eq_true rfl)
  · have hw := hw.2 hc
    refine lv_iload_n hx hb d_K_state_4 rfl (lv_at hl 1 rfl) ?_
    refine lv_bipush (v := 16) hx hb d_K_state_5 (by decide) ?_
    refine lv_icmp_lt (tgt := 20) hx hb d_K_state_7 rfl (fun hc => ?_) (fun hc => ?_)
    · have hw := hw.1 hc
      refine lv_aload_n hx hb d_K_state_20 rfl (lv_at hl 0 rfl) ?_
      refine kg_K_K_procs hx hb hG hown hK hV d_K_state_21 ?_
      refine lv_iload_n hx hb d_K_state_24 rfl (lv_at hl 1 rfl) ?_
      have hj1 := vp_lt hw.1
      refine kl_9 hx hb hK hV hw.1 d_K_state_25 ?_
      have hw := hw.2
      refine kg_K_P_state hx hb hG hown hK hV hj1 d_K_state_26 ?_
      exact kxr_i hx hb hr hV hK hX hAe hw d_K_state_29
    · have hw := hw.2 hc
      exact kx_K_74_125 hl0 hx hb hml hl.1 hex hts hown hV hY hAe hw d_K_state_10 d_K_state_13 d_K_state_14 d_K_state_16 d_K_state_19 (Nat.le_of_ble_eq_true rfl) (Nat.le_of_ble_eq_true rfl) (Nat.le_of_ble_eq_true rfl) (Nat.le_of_ble_eq_true rfl)
theorem d_K_about_0 : decode b_K_about 0 = .ok (.iload_n 1, 1) := by decide +kernel
theorem d_K_about_1 : decode b_K_about 1 = .ok (.ifCond .lt 9, 3) := by decide +kernel
theorem d_K_about_4 : decode b_K_about 4 = .ok (.iload_n 1, 1) := by decide +kernel
theorem d_K_about_5 : decode b_K_about 5 = .ok (.bipush 16, 2) := by decide +kernel
theorem d_K_about_7 : decode b_K_about 7 = .ok (.if_icmp .lt 13, 3) := by decide +kernel
theorem d_K_about_10 : decode b_K_about 10 = .ok (.new 74, 3) := by decide +kernel
theorem d_K_about_13 : decode b_K_about 13 = .ok (.dup, 1) := by decide +kernel
theorem d_K_about_14 : decode b_K_about 14 = .ok (.ldc 125, 2) := by decide +kernel
theorem d_K_about_16 : decode b_K_about 16 = .ok (.invokespecial 78, 3) := by decide +kernel
theorem d_K_about_19 : decode b_K_about 19 = .ok (.athrow, 1) := by decide +kernel
theorem d_K_about_20 : decode b_K_about 20 = .ok (.iload_n 2, 1) := by decide +kernel
theorem d_K_about_21 : decode b_K_about 21 = .ok (.ifCond .lt 8, 3) := by decide +kernel
theorem d_K_about_24 : decode b_K_about 24 = .ok (.iload_n 2, 1) := by decide +kernel
theorem d_K_about_25 : decode b_K_about 25 = .ok (.iconst 5, 1) := by decide +kernel
theorem d_K_about_26 : decode b_K_about 26 = .ok (.if_icmp .le 13, 3) := by decide +kernel
theorem d_K_about_29 : decode b_K_about 29 = .ok (.new 96, 3) := by decide +kernel
theorem d_K_about_32 : decode b_K_about 32 = .ok (.dup, 1) := by decide +kernel
theorem d_K_about_33 : decode b_K_about 33 = .ok (.ldc 130, 2) := by decide +kernel
theorem d_K_about_35 : decode b_K_about 35 = .ok (.invokespecial 100, 3) := by decide +kernel
theorem d_K_about_38 : decode b_K_about 38 = .ok (.athrow, 1) := by decide +kernel
theorem d_K_about_39 : decode b_K_about 39 = .ok (.aload_n 0, 1) := by decide +kernel
theorem d_K_about_40 : decode b_K_about 40 = .ok (.getfield 11, 3) := by decide +kernel
theorem d_K_about_43 : decode b_K_about 43 = .ok (.iload_n 1, 1) := by decide +kernel
theorem d_K_about_44 : decode b_K_about 44 = .ok (.aaload, 1) := by decide +kernel
theorem d_K_about_45 : decode b_K_about 45 = .ok (.astore_n 3, 1) := by decide +kernel
theorem d_K_about_46 : decode b_K_about 46 = .ok (.aload_n 3, 1) := by decide +kernel
theorem d_K_about_47 : decode b_K_about 47 = .ok (.getfield 127, 3) := by decide +kernel
theorem d_K_about_50 : decode b_K_about 50 = .ok (.ifCond .ne 13, 3) := by decide +kernel
theorem d_K_about_53 : decode b_K_about 53 = .ok (.new 81, 3) := by decide +kernel
theorem d_K_about_56 : decode b_K_about 56 = .ok (.dup, 1) := by decide +kernel
theorem d_K_about_57 : decode b_K_about 57 = .ok (.ldc 132, 2) := by decide +kernel
theorem d_K_about_59 : decode b_K_about 59 = .ok (.invokespecial 85, 3) := by decide +kernel
theorem d_K_about_62 : decode b_K_about 62 = .ok (.athrow, 1) := by decide +kernel
theorem d_K_about_63 : decode b_K_about 63 = .ok (.iload_n 2, 1) := by decide +kernel
theorem d_K_about_64 : decode b_K_about 64 = .ok (.tableswitch 86 0 4 #[36, 41, 46, 51, 69], 36) := by decide +kernel
theorem d_K_about_100 : decode b_K_about 100 = .ok (.aload_n 3, 1) := by decide +kernel
theorem d_K_about_101 : decode b_K_about 101 = .ok (.getfield 134, 3) := by decide +kernel
theorem d_K_about_104 : decode b_K_about 104 = .ok (.ireturn, 1) := by decide +kernel
theorem d_K_about_105 : decode b_K_about 105 = .ok (.aload_n 3, 1) := by decide +kernel
theorem d_K_about_106 : decode b_K_about 106 = .ok (.getfield 137, 3) := by decide +kernel
theorem d_K_about_109 : decode b_K_about 109 = .ok (.ireturn, 1) := by decide +kernel
theorem d_K_about_110 : decode b_K_about 110 = .ok (.aload_n 3, 1) := by decide +kernel
theorem d_K_about_111 : decode b_K_about 111 = .ok (.getfield 140, 3) := by decide +kernel
theorem d_K_about_114 : decode b_K_about 114 = .ok (.ireturn, 1) := by decide +kernel
theorem d_K_about_115 : decode b_K_about 115 = .ok (.aload_n 3, 1) := by decide +kernel
theorem d_K_about_116 : decode b_K_about 116 = .ok (.getfield 127, 3) := by decide +kernel
theorem d_K_about_119 : decode b_K_about 119 = .ok (.bipush 6, 2) := by decide +kernel
theorem d_K_about_121 : decode b_K_about 121 = .ok (.if_icmp .ne 10, 3) := by decide +kernel
theorem d_K_about_124 : decode b_K_about 124 = .ok (.aload_n 3, 1) := by decide +kernel
theorem d_K_about_125 : decode b_K_about 125 = .ok (.getfield 143, 3) := by decide +kernel
theorem d_K_about_128 : decode b_K_about 128 = .ok (.goto 4, 3) := by decide +kernel
theorem d_K_about_131 : decode b_K_about 131 = .ok (.iconst 0, 1) := by decide +kernel
theorem d_K_about_132 : decode b_K_about 132 = .ok (.ireturn, 1) := by decide +kernel
theorem d_K_about_133 : decode b_K_about 133 = .ok (.aload_n 3, 1) := by decide +kernel
theorem d_K_about_134 : decode b_K_about 134 = .ok (.getfield 127, 3) := by decide +kernel
theorem d_K_about_137 : decode b_K_about 137 = .ok (.iconst 5, 1) := by decide +kernel
theorem d_K_about_138 : decode b_K_about 138 = .ok (.if_icmp .ne 10, 3) := by decide +kernel
theorem d_K_about_141 : decode b_K_about 141 = .ok (.aload_n 3, 1) := by decide +kernel
theorem d_K_about_142 : decode b_K_about 142 = .ok (.getfield 146, 3) := by decide +kernel
theorem d_K_about_145 : decode b_K_about 145 = .ok (.goto 4, 3) := by decide +kernel
theorem d_K_about_148 : decode b_K_about 148 = .ok (.iconst 0, 1) := by decide +kernel
theorem d_K_about_149 : decode b_K_about 149 = .ok (.ireturn, 1) := by decide +kernel
theorem d_K_about_150 : decode b_K_about 150 = .ok (.aload_n 3, 1) := by decide +kernel
theorem d_K_about_151 : decode b_K_about 151 = .ok (.invokevirtual 149, 3) := by decide +kernel
theorem d_K_about_154 : decode b_K_about 154 = .ok (.ireturn, 1) := by decide +kernel
def w_K_about (cp : Nat) (x1 : Int32) (x2 : Int32) (s0 : KS) (Φ : Int32 → KS → Prop) (Ψ : Nat → KS → Prop) : Prop := ((x1 < 0 → Ψ 0 s0) ∧ (¬ x1 < 0 → ((x1 < (16 : Int32) → ((x2 < 0 → Ψ 2 s0) ∧ (¬ x2 < 0 → ((x2 ≤ (5 : Int32) → vp_in x1 16 ∧ ((¬ (s0 1 x1.toNatClampNeg 7) = 0 → ((x2 = 0 → Φ (s0 1 x1.toNatClampNeg 5) s0) ∧ ((x2 = 1 → Φ (s0 1 x1.toNatClampNeg 4) s0) ∧ ((x2 = 2 → Φ (s0 1 x1.toNatClampNeg 6) s0) ∧ ((x2 = 3 → ((¬ (s0 1 x1.toNatClampNeg 7) = (6 : Int32) → Φ (0 : Int32) s0) ∧ ((s0 1 x1.toNatClampNeg 7) = (6 : Int32) → Φ (s0 1 x1.toNatClampNeg 8) s0))) ∧ ((x2 = 4 → ((¬ (s0 1 x1.toNatClampNeg 7) = (5 : Int32) → Φ (0 : Int32) s0) ∧ ((s0 1 x1.toNatClampNeg 7) = (5 : Int32) → Φ (s0 1 x1.toNatClampNeg 9) s0))) ∧ (¬ x2 = 0 ∧ ¬ x2 = 1 ∧ ¬ x2 = 2 ∧ ¬ x2 = 3 ∧ ¬ x2 = 4 → w_P_openDescriptors cp x1.toNatClampNeg s0 (fun r3 s2 => Φ r3 s2)))))))) ∧ ((s0 1 x1.toNatClampNeg 7) = 0 → Ψ 1 s0))) ∧ (¬ x2 ≤ (5 : Int32) → Ψ 2 s0))))) ∧ (¬ x1 < (16 : Int32) → Ψ 0 s0))))
set_option maxHeartbeats 4000000 in
set_option maxRecDepth 100000 in
theorem c_K_about (l : Launch) (hl0 : l.stackTraces = false) (E : gE) (s0 : KS) (x1 : Int32) (x2 : Int32) (Φ : Int32 → KS → Prop) (Ψ : Nat → KS → Prop) (hw : w_K_about (eN E) x1 x2 s0 Φ Ψ) : gXi l y_K_about v_K_about m_K_about E KK [.ref (ea E 0 0), .int x1, .int x2] s0 Φ Ψ := by
  intro sz
  refine vx_ofW (cc := b_K_about) (maxL := 4) (ret := (some .int)) (by decide) rfl ?_
  intro p e s m args below meth c s₁ B hml hex hv
  obtain ⟨rfl, hsz, ⟨hP, hK, hD, hX⟩, hY⟩ := hv
  have hx := B.exec
  have hb := B.bytes
  have hr := B.returns
  have hts := atoms_spec (ws := v_K_about) B.pre
  have hG : ∀ w ∈ gG, w.before _ s = true := fun w h => hts w (List.mem_cons_of_mem _ h)
  have hown : s.vm.findClass R_K = some m.cls := findClass_of_methodNamed B.named
  have hlocks := B.notSynchronized
  subst hsz
  obtain ⟨A, hAe⟩ : ∃ A, A = gA E KK s.heap.size := ⟨_, rfl⟩
  rw [← hAe] at hD hX hY ⊢
  have hV : gV E KK A s0 s s.heap [] := ⟨hP, hD, va_S.rf⟩
  have hl := lv_entry ([.ref (ea E 0 0), .int x1, .int x2] : List Value) (n := 4) (Nat.le_of_ble_eq_true rfl)
  rw [lg_entry_eq]
  generalize (lg_sl ([.ref (ea E 0 0), .int x1, .int x2] : List Value) ++ List.replicate (4 - (lg_sl ([.ref (ea E 0 0), .int x1, .int x2] : List Value)).length) Slot.unset).toArray = ls at hl ⊢
  have hl : lv_has ls 4 [(0, .ref (ea E 0 0)), (1, .int x1), (2, .int x2)] := hl
  unfold w_K_about at hw
  refine lv_iload_n hx hb d_K_about_0 rfl (lv_at hl 1 rfl) ?_
  refine lv_if_lt (tgt := 10) hx hb d_K_about_1 rfl (fun hc => ?_) (fun hc => ?_)
  · have hw := hw.1 hc
    exact kx_K_74_125 hl0 hx hb hml hl.1 hex hts hown hV hY hAe hw d_K_about_10 d_K_about_13 d_K_about_14 d_K_about_16 d_K_about_19 (Nat.le_of_ble_eq_true rfl) (Nat.le_of_ble_eq_true rfl) (Nat.le_of_ble_eq_true rfl) (Nat.le_of_ble_eq_true rfl)
  · have hw := hw.2 hc
    refine lv_iload_n hx hb d_K_about_4 rfl (lv_at hl 1 rfl) ?_
    refine lv_bipush (v := 16) hx hb d_K_about_5 (by decide) ?_
    refine lv_icmp_lt (tgt := 20) hx hb d_K_about_7 rfl (fun hc => ?_) (fun hc => ?_)
    · have hw := hw.1 hc
      refine lv_iload_n hx hb d_K_about_20 rfl (lv_at hl 2 rfl) ?_
      refine lv_if_lt (tgt := 29) hx hb d_K_about_21 rfl (fun hc => ?_) (fun hc => ?_)
      · have hw := hw.1 hc
        exact kx_K_96_130 hl0 hx hb hml hl.1 hex hts hown hV hY hAe hw d_K_about_29 d_K_about_32 d_K_about_33 d_K_about_35 d_K_about_38 (Nat.le_of_ble_eq_true rfl) (Nat.le_of_ble_eq_true rfl) (Nat.le_of_ble_eq_true rfl) (Nat.le_of_ble_eq_true rfl)
      · have hw := hw.2 hc
        refine lv_iload_n hx hb d_K_about_24 rfl (lv_at hl 2 rfl) ?_
        refine lv_iconst (v := 5) hx hb d_K_about_25 (by decide) ?_
        refine lv_icmp_le (tgt := 39) hx hb d_K_about_26 rfl (fun hc => ?_) (fun hc => ?_)
        · have hw := hw.1 hc
          refine lv_aload_n hx hb d_K_about_39 rfl (lv_at hl 0 rfl) ?_
          refine kg_K_K_procs hx hb hG hown hK hV d_K_about_40 ?_
          refine lv_iload_n hx hb d_K_about_43 rfl (lv_at hl 1 rfl) ?_
          have hj1 := vp_lt hw.1
          refine kl_9 hx hb hK hV hw.1 d_K_about_44 ?_
          have hw := hw.2
          refine lv_astore_n (lv' := [(3, .ref (ea E 1 x1.toNatClampNeg)), (0, .ref (ea E 0 0)), (1, .int x1), (2, .int x2)]) hx hb d_K_about_45 rfl hl (by decide) rfl (fun ls hl => ?_)
          refine lv_aload_n hx hb d_K_about_46 rfl (lv_at hl 0 rfl) ?_
          refine kg_K_P_state hx hb hG hown hK hV hj1 d_K_about_47 ?_
          refine lv_if_ne (tgt := 63) hx hb d_K_about_50 rfl (fun hc => ?_) (fun hc => ?_)
          · have hw := hw.1 hc
            refine lv_iload_n hx hb d_K_about_63 rfl (lv_at hl 3 rfl) ?_
            have hsw := hw
            by_cases hc0 : x2 = 0
            · have hw := hsw.1 hc0
              refine lv_tableIn (off := 36) (tgt := 100) hx hb d_K_about_64 (by rw [hc0]; decide) (by rw [hc0]; decide) (by rw [hc0]; decide) rfl ?_
              refine lv_aload_n hx hb d_K_about_100 rfl (lv_at hl 0 rfl) ?_
              refine kg_K_P_place hx hb hG hown hK hV hj1 d_K_about_101 ?_
              exact kxr_i hx hb hr hV hK hX hAe hw d_K_about_104
            have hsw := hsw.2
            by_cases hc1 : x2 = 1
            · have hw := hsw.1 hc1
              refine lv_tableIn (off := 41) (tgt := 105) hx hb d_K_about_64 (by rw [hc1]; decide) (by rw [hc1]; decide) (by rw [hc1]; decide) rfl ?_
              refine lv_aload_n hx hb d_K_about_105 rfl (lv_at hl 0 rfl) ?_
              refine kg_K_P_height hx hb hG hown hK hV hj1 d_K_about_106 ?_
              exact kxr_i hx hb hr hV hK hX hAe hw d_K_about_109
            have hsw := hsw.2
            by_cases hc2 : x2 = 2
            · have hw := hsw.1 hc2
              refine lv_tableIn (off := 46) (tgt := 110) hx hb d_K_about_64 (by rw [hc2]; decide) (by rw [hc2]; decide) (by rw [hc2]; decide) rfl ?_
              refine lv_aload_n hx hb d_K_about_110 rfl (lv_at hl 0 rfl) ?_
              refine kg_K_P_parent hx hb hG hown hK hV hj1 d_K_about_111 ?_
              exact kxr_i hx hb hr hV hK hX hAe hw d_K_about_114
            have hsw := hsw.2
            by_cases hc3 : x2 = 3
            · have hw := hsw.1 hc3
              refine lv_tableIn (off := 51) (tgt := 115) hx hb d_K_about_64 (by rw [hc3]; decide) (by rw [hc3]; decide) (by rw [hc3]; decide) rfl ?_
              refine lv_aload_n hx hb d_K_about_115 rfl (lv_at hl 0 rfl) ?_
              refine kg_K_P_state hx hb hG hown hK hV hj1 d_K_about_116 ?_
              refine lv_bipush (v := 6) hx hb d_K_about_119 (by decide) ?_
              refine lv_icmp_ne (tgt := 131) hx hb d_K_about_121 rfl (fun hc => ?_) (fun hc => ?_)
              · have hw := hw.1 hc
                refine lv_iconst (v := 0) hx hb d_K_about_131 (by decide) ?_
                exact kxr_i hx hb hr hV hK hX hAe hw d_K_about_132
              · have hw := hw.2 hc
                refine lv_aload_n hx hb d_K_about_124 rfl (lv_at hl 0 rfl) ?_
                refine kg_K_P_code hx hb hG hown hK hV hj1 d_K_about_125 ?_
                refine lv_goto (tgt := 132) hx hb d_K_about_128 rfl ?_
                exact kxr_i hx hb hr hV hK hX hAe hw d_K_about_132
            have hsw := hsw.2
            by_cases hc4 : x2 = 4
            · have hw := hsw.1 hc4
              refine lv_tableIn (off := 69) (tgt := 133) hx hb d_K_about_64 (by rw [hc4]; decide) (by rw [hc4]; decide) (by rw [hc4]; decide) rfl ?_
              refine lv_aload_n hx hb d_K_about_133 rfl (lv_at hl 0 rfl) ?_
              refine kg_K_P_state hx hb hG hown hK hV hj1 d_K_about_134 ?_
              refine lv_iconst (v := 5) hx hb d_K_about_137 (by decide) ?_
              refine lv_icmp_ne (tgt := 148) hx hb d_K_about_138 rfl (fun hc => ?_) (fun hc => ?_)
              · have hw := hw.1 hc
                refine lv_iconst (v := 0) hx hb d_K_about_148 (by decide) ?_
                exact kxr_i hx hb hr hV hK hX hAe hw d_K_about_149
              · have hw := hw.2 hc
                refine lv_aload_n hx hb d_K_about_141 rfl (lv_at hl 0 rfl) ?_
                refine kg_K_P_wakeTime hx hb hG hown hK hV hj1 d_K_about_142 ?_
                refine lv_goto (tgt := 149) hx hb d_K_about_145 rfl ?_
                exact kxr_i hx hb hr hV hK hX hAe hw d_K_about_149
            have hsw := hsw.2
            have hw := hsw ⟨hc0, hc1, hc2, hc3, hc4⟩
            refine kr_dflt (g2 := F0 m 150 ls []) ?_ (fun kd => ?_)
            · refine lv_aload_n hx hb d_K_about_150 rfl (lv_at hl 0 rfl) ?_
              refine kc_K_P_openDescriptors hx hb hml hown hts hV hK hX hAe (c_P_openDescriptors l E s0 x1.toNatClampNeg hj1 _ hw) hj1 hl.1 (Nat.le_of_ble_eq_true rfl) d_K_about_151 (Nat.le_of_ble_eq_true rfl) (Nat.le_of_ble_eq_true rfl) (fun r3 s2 H locs hw hV => ?_)
              exact kxr_i hx hb hr hV hK hX hAe hw d_K_about_154
            have hn0 : ¬ x2.toInt = 0 := lv_neT hc0 (by decide)
            have hn1 : ¬ x2.toInt = 1 := lv_neT hc1 (by decide)
            have hn2 : ¬ x2.toInt = 2 := lv_neT hc2 (by decide)
            have hn3 : ¬ x2.toInt = 3 := lv_neT hc3 (by decide)
            have hn4 : ¬ x2.toInt = 4 := lv_neT hc4 (by decide)
            exact lv_tableOut (tgt := 150) hx hb d_K_about_64 (by omega) rfl kd
          · have hw := hw.2 hc
            exact kx_K_81_132 hl0 hx hb hml hl.1 hex hts hown hV hY hAe hw d_K_about_53 d_K_about_56 d_K_about_57 d_K_about_59 d_K_about_62 (Nat.le_of_ble_eq_true rfl) (Nat.le_of_ble_eq_true rfl) (Nat.le_of_ble_eq_true rfl) (Nat.le_of_ble_eq_true rfl)
        · have hw := hw.2 hc
          exact kx_K_96_130 hl0 hx hb hml hl.1 hex hts hown hV hY hAe hw d_K_about_29 d_K_about_32 d_K_about_33 d_K_about_35 d_K_about_38 (Nat.le_of_ble_eq_true rfl) (Nat.le_of_ble_eq_true rfl) (Nat.le_of_ble_eq_true rfl) (Nat.le_of_ble_eq_true rfl)
    · have hw := hw.2 hc
      exact kx_K_74_125 hl0 hx hb hml hl.1 hex hts hown hV hY hAe hw d_K_about_10 d_K_about_13 d_K_about_14 d_K_about_16 d_K_about_19 (Nat.le_of_ble_eq_true rfl) (Nat.le_of_ble_eq_true rfl) (Nat.le_of_ble_eq_true rfl) (Nat.le_of_ble_eq_true rfl)
theorem d_K_stack_0 : decode b_K_stack 0 = .ok (.aload_n 0, 1) := by decide +kernel
theorem d_K_stack_1 : decode b_K_stack 1 = .ok (.iload_n 1, 1) := by decide +kernel
theorem d_K_stack_2 : decode b_K_stack 2 = .ok (.invokevirtual 153, 3) := by decide +kernel
theorem d_K_stack_5 : decode b_K_stack 5 = .ok (.ifCond .eq 20, 3) := by decide +kernel
theorem d_K_stack_8 : decode b_K_stack 8 = .ok (.iload_n 2, 1) := by decide +kernel
theorem d_K_stack_9 : decode b_K_stack 9 = .ok (.ifCond .lt 16, 3) := by decide +kernel
theorem d_K_stack_12 : decode b_K_stack 12 = .ok (.iload_n 2, 1) := by decide +kernel
theorem d_K_stack_13 : decode b_K_stack 13 = .ok (.aload_n 0, 1) := by decide +kernel
theorem d_K_stack_14 : decode b_K_stack 14 = .ok (.getfield 11, 3) := by decide +kernel
theorem d_K_stack_17 : decode b_K_stack 17 = .ok (.iload_n 1, 1) := by decide +kernel
theorem d_K_stack_18 : decode b_K_stack 18 = .ok (.aaload, 1) := by decide +kernel
theorem d_K_stack_19 : decode b_K_stack 19 = .ok (.getfield 137, 3) := by decide +kernel
theorem d_K_stack_22 : decode b_K_stack 22 = .ok (.if_icmp .lt 13, 3) := by decide +kernel
theorem d_K_stack_25 : decode b_K_stack 25 = .ok (.new 74, 3) := by decide +kernel
theorem d_K_stack_28 : decode b_K_stack 28 = .ok (.dup, 1) := by decide +kernel
theorem d_K_stack_29 : decode b_K_stack 29 = .ok (.ldc 157, 2) := by decide +kernel
theorem d_K_stack_31 : decode b_K_stack 31 = .ok (.invokespecial 78, 3) := by decide +kernel
theorem d_K_stack_34 : decode b_K_stack 34 = .ok (.athrow, 1) := by decide +kernel
theorem d_K_stack_35 : decode b_K_stack 35 = .ok (.aload_n 0, 1) := by decide +kernel
theorem d_K_stack_36 : decode b_K_stack 36 = .ok (.getfield 11, 3) := by decide +kernel
theorem d_K_stack_39 : decode b_K_stack 39 = .ok (.iload_n 1, 1) := by decide +kernel
theorem d_K_stack_40 : decode b_K_stack 40 = .ok (.aaload, 1) := by decide +kernel
theorem d_K_stack_41 : decode b_K_stack 41 = .ok (.astore_n 3, 1) := by decide +kernel
theorem d_K_stack_42 : decode b_K_stack 42 = .ok (.aload_n 3, 1) := by decide +kernel
theorem d_K_stack_43 : decode b_K_stack 43 = .ok (.getfield 159, 3) := by decide +kernel
theorem d_K_stack_46 : decode b_K_stack 46 = .ok (.aload_n 3, 1) := by decide +kernel
theorem d_K_stack_47 : decode b_K_stack 47 = .ok (.getfield 137, 3) := by decide +kernel
theorem d_K_stack_50 : decode b_K_stack 50 = .ok (.iconst 1, 1) := by decide +kernel
theorem d_K_stack_51 : decode b_K_stack 51 = .ok (.isub, 1) := by decide +kernel
theorem d_K_stack_52 : decode b_K_stack 52 = .ok (.iload_n 2, 1) := by decide +kernel
theorem d_K_stack_53 : decode b_K_stack 53 = .ok (.isub, 1) := by decide +kernel
theorem d_K_stack_54 : decode b_K_stack 54 = .ok (.iaload, 1) := by decide +kernel
theorem d_K_stack_55 : decode b_K_stack 55 = .ok (.ireturn, 1) := by decide +kernel
def w_K_stack (cp : Nat) (x1 : Int32) (x2 : Int32) (s0 : KS) (Φ : Int32 → KS → Prop) (Ψ : Nat → KS → Prop) : Prop := w_K_isThere cp x1 s0 (fun r2 s1 => ((r2 = 0 → Ψ 0 s1) ∧ (¬ r2 = 0 → ((x2 < 0 → Ψ 0 s1) ∧ (¬ x2 < 0 → vp_in x1 16 ∧ ((x2 < (s1 1 x1.toNatClampNeg 4) → vp_in x1 16 ∧ vp_in (((s1 1 x1.toNatClampNeg 4) - (1 : Int32)) - x2) 32 ∧ Φ (s1 3 x1.toNatClampNeg (((s1 1 x1.toNatClampNeg 4) - (1 : Int32)) - x2).toNatClampNeg) s1) ∧ (¬ x2 < (s1 1 x1.toNatClampNeg 4) → Ψ 0 s1)))))))
set_option maxHeartbeats 4000000 in
set_option maxRecDepth 100000 in
theorem c_K_stack (l : Launch) (hl0 : l.stackTraces = false) (E : gE) (s0 : KS) (x1 : Int32) (x2 : Int32) (Φ : Int32 → KS → Prop) (Ψ : Nat → KS → Prop) (hw : w_K_stack (eN E) x1 x2 s0 Φ Ψ) : gXi l y_K_stack v_K_stack m_K_stack E KK [.ref (ea E 0 0), .int x1, .int x2] s0 Φ Ψ := by
  intro sz
  refine vx_ofW (cc := b_K_stack) (maxL := 4) (ret := (some .int)) (by decide) rfl ?_
  intro p e s m args below meth c s₁ B hml hex hv
  obtain ⟨rfl, hsz, ⟨hP, hK, hD, hX⟩, hY⟩ := hv
  have hx := B.exec
  have hb := B.bytes
  have hr := B.returns
  have hts := atoms_spec (ws := v_K_stack) B.pre
  have hG : ∀ w ∈ gG, w.before _ s = true := fun w h => hts w (List.mem_cons_of_mem _ h)
  have hown : s.vm.findClass R_K = some m.cls := findClass_of_methodNamed B.named
  have hlocks := B.notSynchronized
  subst hsz
  obtain ⟨A, hAe⟩ : ∃ A, A = gA E KK s.heap.size := ⟨_, rfl⟩
  rw [← hAe] at hD hX hY ⊢
  have hV : gV E KK A s0 s s.heap [] := ⟨hP, hD, va_S.rf⟩
  have hl := lv_entry ([.ref (ea E 0 0), .int x1, .int x2] : List Value) (n := 4) (Nat.le_of_ble_eq_true rfl)
  rw [lg_entry_eq]
  generalize (lg_sl ([.ref (ea E 0 0), .int x1, .int x2] : List Value) ++ List.replicate (4 - (lg_sl ([.ref (ea E 0 0), .int x1, .int x2] : List Value)).length) Slot.unset).toArray = ls at hl ⊢
  have hl : lv_has ls 4 [(0, .ref (ea E 0 0)), (1, .int x1), (2, .int x2)] := hl
  unfold w_K_stack at hw
  refine lv_aload_n hx hb d_K_stack_0 rfl (lv_at hl 0 rfl) ?_
  refine lv_iload_n hx hb d_K_stack_1 rfl (lv_at hl 1 rfl) ?_
  refine kc_K_K_isThere hx hb hml hown hts hV hK hX hAe (c_K_isThere l E s0 x1 _ hw) hl.1 (Nat.le_of_ble_eq_true rfl) d_K_stack_2 (Nat.le_of_ble_eq_true rfl) (Nat.le_of_ble_eq_true rfl) (fun r2 s1 H locs hw hV => ?_)
  refine lv_if_eq (tgt := 25) hx hb d_K_stack_5 rfl (fun hc => ?_) (fun hc => ?_)
  · have hw := hw.1 hc
    exact kx_K_74_157 hl0 hx hb hml hl.1 hex hts hown hV hY hAe hw d_K_stack_25 d_K_stack_28 d_K_stack_29 d_K_stack_31 d_K_stack_34 (Nat.le_of_ble_eq_true rfl) (Nat.le_of_ble_eq_true rfl) (Nat.le_of_ble_eq_true rfl) (Nat.le_of_ble_eq_true rfl)
  · have hw := hw.2 hc
    refine lv_iload_n hx hb d_K_stack_8 rfl (lv_at hl 2 rfl) ?_
    refine lv_if_lt (tgt := 25) hx hb d_K_stack_9 rfl (fun hc => ?_) (fun hc => ?_)
    · have hw := hw.1 hc
      exact kx_K_74_157 hl0 hx hb hml hl.1 hex hts hown hV hY hAe hw d_K_stack_25 d_K_stack_28 d_K_stack_29 d_K_stack_31 d_K_stack_34 (Nat.le_of_ble_eq_true rfl) (Nat.le_of_ble_eq_true rfl) (Nat.le_of_ble_eq_true rfl) (Nat.le_of_ble_eq_true rfl)
    · have hw := hw.2 hc
      refine lv_iload_n hx hb d_K_stack_12 rfl (lv_at hl 2 rfl) ?_
      refine lv_aload_n hx hb d_K_stack_13 rfl (lv_at hl 0 rfl) ?_
      refine kg_K_K_procs hx hb hG hown hK hV d_K_stack_14 ?_
      refine lv_iload_n hx hb d_K_stack_17 rfl (lv_at hl 1 rfl) ?_
      have hj3 := vp_lt hw.1
      refine kl_9 hx hb hK hV hw.1 d_K_stack_18 ?_
      have hw := hw.2
      refine kg_K_P_height hx hb hG hown hK hV hj3 d_K_stack_19 ?_
      refine lv_icmp_lt (tgt := 35) hx hb d_K_stack_22 rfl (fun hc => ?_) (fun hc => ?_)
      · have hw := hw.1 hc
        refine lv_aload_n hx hb d_K_stack_35 rfl (lv_at hl 0 rfl) ?_
        refine kg_K_K_procs hx hb hG hown hK hV d_K_stack_36 ?_
        refine lv_iload_n hx hb d_K_stack_39 rfl (lv_at hl 1 rfl) ?_
        have hj4 := vp_lt hw.1
        refine kl_9 hx hb hK hV hw.1 d_K_stack_40 ?_
        have hw := hw.2
        refine lv_astore_n (lv' := [(3, .ref (ea E 1 x1.toNatClampNeg)), (0, .ref (ea E 0 0)), (1, .int x1), (2, .int x2)]) hx hb d_K_stack_41 rfl hl (by decide) rfl (fun ls hl => ?_)
        refine lv_aload_n hx hb d_K_stack_42 rfl (lv_at hl 0 rfl) ?_
        refine kg_K_P_words hx hb hG hown hK hV hj4 d_K_stack_43 ?_
        refine lv_aload_n hx hb d_K_stack_46 rfl (lv_at hl 0 rfl) ?_
        refine kg_K_P_height hx hb hG hown hK hV hj4 d_K_stack_47 ?_
        refine lv_iconst (v := 1) hx hb d_K_stack_50 (by decide) ?_
        refine lv_isub hx hb d_K_stack_51 ?_
        refine lv_iload_n hx hb d_K_stack_52 rfl (lv_at hl 3 rfl) ?_
        refine lv_isub hx hb d_K_stack_53 ?_
        refine kl_3 hx hb hK hV hj4 hw.1 d_K_stack_54 ?_
        have hw := hw.2
        exact kxr_i hx hb hr hV hK hX hAe hw d_K_stack_55
      · have hw := hw.2 hc
        exact kx_K_74_157 hl0 hx hb hml hl.1 hex hts hown hV hY hAe hw d_K_stack_25 d_K_stack_28 d_K_stack_29 d_K_stack_31 d_K_stack_34 (Nat.le_of_ble_eq_true rfl) (Nat.le_of_ble_eq_true rfl) (Nat.le_of_ble_eq_true rfl) (Nat.le_of_ble_eq_true rfl)
theorem d_K_memory_0 : decode b_K_memory 0 = .ok (.aload_n 0, 1) := by decide +kernel
theorem d_K_memory_1 : decode b_K_memory 1 = .ok (.iload_n 1, 1) := by decide +kernel
theorem d_K_memory_2 : decode b_K_memory 2 = .ok (.invokevirtual 153, 3) := by decide +kernel
theorem d_K_memory_5 : decode b_K_memory 5 = .ok (.ifCond .eq 14, 3) := by decide +kernel
theorem d_K_memory_8 : decode b_K_memory 8 = .ok (.iload_n 2, 1) := by decide +kernel
theorem d_K_memory_9 : decode b_K_memory 9 = .ok (.ifCond .lt 10, 3) := by decide +kernel
theorem d_K_memory_12 : decode b_K_memory 12 = .ok (.iload_n 2, 1) := by decide +kernel
theorem d_K_memory_13 : decode b_K_memory 13 = .ok (.sipush 128, 3) := by decide +kernel
theorem d_K_memory_16 : decode b_K_memory 16 = .ok (.if_icmp .lt 13, 3) := by decide +kernel
theorem d_K_memory_19 : decode b_K_memory 19 = .ok (.new 74, 3) := by decide +kernel
theorem d_K_memory_22 : decode b_K_memory 22 = .ok (.dup, 1) := by decide +kernel
theorem d_K_memory_23 : decode b_K_memory 23 = .ok (.ldc 162, 2) := by decide +kernel
theorem d_K_memory_25 : decode b_K_memory 25 = .ok (.invokespecial 78, 3) := by decide +kernel
theorem d_K_memory_28 : decode b_K_memory 28 = .ok (.athrow, 1) := by decide +kernel
theorem d_K_memory_29 : decode b_K_memory 29 = .ok (.aload_n 0, 1) := by decide +kernel
theorem d_K_memory_30 : decode b_K_memory 30 = .ok (.getfield 11, 3) := by decide +kernel
theorem d_K_memory_33 : decode b_K_memory 33 = .ok (.iload_n 1, 1) := by decide +kernel
theorem d_K_memory_34 : decode b_K_memory 34 = .ok (.aaload, 1) := by decide +kernel
theorem d_K_memory_35 : decode b_K_memory 35 = .ok (.getfield 86, 3) := by decide +kernel
theorem d_K_memory_38 : decode b_K_memory 38 = .ok (.iload_n 2, 1) := by decide +kernel
theorem d_K_memory_39 : decode b_K_memory 39 = .ok (.iaload, 1) := by decide +kernel
theorem d_K_memory_40 : decode b_K_memory 40 = .ok (.ireturn, 1) := by decide +kernel
def w_K_memory (cp : Nat) (x1 : Int32) (x2 : Int32) (s0 : KS) (Φ : Int32 → KS → Prop) (Ψ : Nat → KS → Prop) : Prop := w_K_isThere cp x1 s0 (fun r2 s1 => ((r2 = 0 → Ψ 0 s1) ∧ (¬ r2 = 0 → ((x2 < 0 → Ψ 0 s1) ∧ (¬ x2 < 0 → ((x2 < (128 : Int32) → vp_in x1 16 ∧ vp_in x2 128 ∧ Φ (s1 2 x1.toNatClampNeg x2.toNatClampNeg) s1) ∧ (¬ x2 < (128 : Int32) → Ψ 0 s1)))))))
set_option maxHeartbeats 4000000 in
set_option maxRecDepth 100000 in
theorem c_K_memory (l : Launch) (hl0 : l.stackTraces = false) (E : gE) (s0 : KS) (x1 : Int32) (x2 : Int32) (Φ : Int32 → KS → Prop) (Ψ : Nat → KS → Prop) (hw : w_K_memory (eN E) x1 x2 s0 Φ Ψ) : gXi l y_K_memory v_K_memory m_K_memory E KK [.ref (ea E 0 0), .int x1, .int x2] s0 Φ Ψ := by
  intro sz
  refine vx_ofW (cc := b_K_memory) (maxL := 3) (ret := (some .int)) (by decide) rfl ?_
  intro p e s m args below meth c s₁ B hml hex hv
  obtain ⟨rfl, hsz, ⟨hP, hK, hD, hX⟩, hY⟩ := hv
  have hx := B.exec
  have hb := B.bytes
  have hr := B.returns
  have hts := atoms_spec (ws := v_K_memory) B.pre
  have hG : ∀ w ∈ gG, w.before _ s = true := fun w h => hts w (List.mem_cons_of_mem _ h)
  have hown : s.vm.findClass R_K = some m.cls := findClass_of_methodNamed B.named
  have hlocks := B.notSynchronized
  subst hsz
  obtain ⟨A, hAe⟩ : ∃ A, A = gA E KK s.heap.size := ⟨_, rfl⟩
  rw [← hAe] at hD hX hY ⊢
  have hV : gV E KK A s0 s s.heap [] := ⟨hP, hD, va_S.rf⟩
  have hl := lv_entry ([.ref (ea E 0 0), .int x1, .int x2] : List Value) (n := 3) (Nat.le_of_ble_eq_true rfl)
  rw [lg_entry_eq]
  generalize (lg_sl ([.ref (ea E 0 0), .int x1, .int x2] : List Value) ++ List.replicate (3 - (lg_sl ([.ref (ea E 0 0), .int x1, .int x2] : List Value)).length) Slot.unset).toArray = ls at hl ⊢
  have hl : lv_has ls 3 [(0, .ref (ea E 0 0)), (1, .int x1), (2, .int x2)] := hl
  unfold w_K_memory at hw
  refine lv_aload_n hx hb d_K_memory_0 rfl (lv_at hl 0 rfl) ?_
  refine lv_iload_n hx hb d_K_memory_1 rfl (lv_at hl 1 rfl) ?_
  refine kc_K_K_isThere hx hb hml hown hts hV hK hX hAe (c_K_isThere l E s0 x1 _ hw) hl.1 (Nat.le_of_ble_eq_true rfl) d_K_memory_2 (Nat.le_of_ble_eq_true rfl) (Nat.le_of_ble_eq_true rfl) (fun r2 s1 H locs hw hV => ?_)
  refine lv_if_eq (tgt := 19) hx hb d_K_memory_5 rfl (fun hc => ?_) (fun hc => ?_)
  · have hw := hw.1 hc
    exact kx_K_74_162 hl0 hx hb hml hl.1 hex hts hown hV hY hAe hw d_K_memory_19 d_K_memory_22 d_K_memory_23 d_K_memory_25 d_K_memory_28 (Nat.le_of_ble_eq_true rfl) (Nat.le_of_ble_eq_true rfl) (Nat.le_of_ble_eq_true rfl) (Nat.le_of_ble_eq_true rfl)
  · have hw := hw.2 hc
    refine lv_iload_n hx hb d_K_memory_8 rfl (lv_at hl 2 rfl) ?_
    refine lv_if_lt (tgt := 19) hx hb d_K_memory_9 rfl (fun hc => ?_) (fun hc => ?_)
    · have hw := hw.1 hc
      exact kx_K_74_162 hl0 hx hb hml hl.1 hex hts hown hV hY hAe hw d_K_memory_19 d_K_memory_22 d_K_memory_23 d_K_memory_25 d_K_memory_28 (Nat.le_of_ble_eq_true rfl) (Nat.le_of_ble_eq_true rfl) (Nat.le_of_ble_eq_true rfl) (Nat.le_of_ble_eq_true rfl)
    · have hw := hw.2 hc
      refine lv_iload_n hx hb d_K_memory_12 rfl (lv_at hl 2 rfl) ?_
      refine lv_sipush (v := 128) hx hb d_K_memory_13 (by decide) ?_
      refine lv_icmp_lt (tgt := 29) hx hb d_K_memory_16 rfl (fun hc => ?_) (fun hc => ?_)
      · have hw := hw.1 hc
        refine lv_aload_n hx hb d_K_memory_29 rfl (lv_at hl 0 rfl) ?_
        refine kg_K_K_procs hx hb hG hown hK hV d_K_memory_30 ?_
        refine lv_iload_n hx hb d_K_memory_33 rfl (lv_at hl 1 rfl) ?_
        have hj3 := vp_lt hw.1
        refine kl_9 hx hb hK hV hw.1 d_K_memory_34 ?_
        have hw := hw.2
        refine kg_K_P_memory hx hb hG hown hK hV hj3 d_K_memory_35 ?_
        refine lv_iload_n hx hb d_K_memory_38 rfl (lv_at hl 2 rfl) ?_
        refine kl_2 hx hb hK hV hj3 hw.1 d_K_memory_39 ?_
        have hw := hw.2
        exact kxr_i hx hb hr hV hK hX hAe hw d_K_memory_40
      · have hw := hw.2 hc
        exact kx_K_74_162 hl0 hx hb hml hl.1 hex hts hown hV hY hAe hw d_K_memory_19 d_K_memory_22 d_K_memory_23 d_K_memory_25 d_K_memory_28 (Nat.le_of_ble_eq_true rfl) (Nat.le_of_ble_eq_true rfl) (Nat.le_of_ble_eq_true rfl) (Nat.le_of_ble_eq_true rfl)
theorem d_K_queue_0 : decode b_K_queue 0 = .ok (.iload_n 1, 1) := by decide +kernel
theorem d_K_queue_1 : decode b_K_queue 1 = .ok (.ifCond .ge 13, 3) := by decide +kernel
theorem d_K_queue_4 : decode b_K_queue 4 = .ok (.new 74, 3) := by decide +kernel
theorem d_K_queue_7 : decode b_K_queue 7 = .ok (.dup, 1) := by decide +kernel
theorem d_K_queue_8 : decode b_K_queue 8 = .ok (.ldc 164, 2) := by decide +kernel
theorem d_K_queue_10 : decode b_K_queue 10 = .ok (.invokespecial 78, 3) := by decide +kernel
theorem d_K_queue_13 : decode b_K_queue 13 = .ok (.athrow, 1) := by decide +kernel
theorem d_K_queue_14 : decode b_K_queue 14 = .ok (.iload_n 1, 1) := by decide +kernel
theorem d_K_queue_15 : decode b_K_queue 15 = .ok (.aload_n 0, 1) := by decide +kernel
theorem d_K_queue_16 : decode b_K_queue 16 = .ok (.getfield 28, 3) := by decide +kernel
theorem d_K_queue_19 : decode b_K_queue 19 = .ok (.if_icmp .ge 12, 3) := by decide +kernel
theorem d_K_queue_22 : decode b_K_queue 22 = .ok (.aload_n 0, 1) := by decide +kernel
theorem d_K_queue_23 : decode b_K_queue 23 = .ok (.getfield 25, 3) := by decide +kernel
theorem d_K_queue_26 : decode b_K_queue 26 = .ok (.iload_n 1, 1) := by decide +kernel
theorem d_K_queue_27 : decode b_K_queue 27 = .ok (.iaload, 1) := by decide +kernel
theorem d_K_queue_28 : decode b_K_queue 28 = .ok (.goto 4, 3) := by decide +kernel
theorem d_K_queue_31 : decode b_K_queue 31 = .ok (.iconst (-1), 1) := by decide +kernel
theorem d_K_queue_32 : decode b_K_queue 32 = .ok (.ireturn, 1) := by decide +kernel
def w_K_queue (cp : Nat) (x1 : Int32) (s0 : KS) (Φ : Int32 → KS → Prop) (Ψ : Nat → KS → Prop) : Prop := ((0 ≤ x1 → (((s0 0 0 5) ≤ x1 → Φ (-1 : Int32) s0) ∧ (¬ (s0 0 0 5) ≤ x1 → vp_in x1 16 ∧ Φ (s0 8 0 x1.toNatClampNeg) s0))) ∧ (¬ 0 ≤ x1 → Ψ 0 s0))
set_option maxHeartbeats 4000000 in
set_option maxRecDepth 100000 in
theorem c_K_queue (l : Launch) (hl0 : l.stackTraces = false) (E : gE) (s0 : KS) (x1 : Int32) (Φ : Int32 → KS → Prop) (Ψ : Nat → KS → Prop) (hw : w_K_queue (eN E) x1 s0 Φ Ψ) : gXi l y_K_queue v_K_queue m_K_queue E KK [.ref (ea E 0 0), .int x1] s0 Φ Ψ := by
  intro sz
  refine vx_ofW (cc := b_K_queue) (maxL := 2) (ret := (some .int)) (by decide) rfl ?_
  intro p e s m args below meth c s₁ B hml hex hv
  obtain ⟨rfl, hsz, ⟨hP, hK, hD, hX⟩, hY⟩ := hv
  have hx := B.exec
  have hb := B.bytes
  have hr := B.returns
  have hts := atoms_spec (ws := v_K_queue) B.pre
  have hG : ∀ w ∈ gG, w.before _ s = true := fun w h => hts w (List.mem_cons_of_mem _ h)
  have hown : s.vm.findClass R_K = some m.cls := findClass_of_methodNamed B.named
  have hlocks := B.notSynchronized
  subst hsz
  obtain ⟨A, hAe⟩ : ∃ A, A = gA E KK s.heap.size := ⟨_, rfl⟩
  rw [← hAe] at hD hX hY ⊢
  have hV : gV E KK A s0 s s.heap [] := ⟨hP, hD, va_S.rf⟩
  have hl := lv_entry ([.ref (ea E 0 0), .int x1] : List Value) (n := 2) (Nat.le_of_ble_eq_true rfl)
  rw [lg_entry_eq]
  generalize (lg_sl ([.ref (ea E 0 0), .int x1] : List Value) ++ List.replicate (2 - (lg_sl ([.ref (ea E 0 0), .int x1] : List Value)).length) Slot.unset).toArray = ls at hl ⊢
  have hl : lv_has ls 2 [(0, .ref (ea E 0 0)), (1, .int x1)] := hl
  unfold w_K_queue at hw
  refine lv_iload_n hx hb d_K_queue_0 rfl (lv_at hl 1 rfl) ?_
  refine lv_if_ge (tgt := 14) hx hb d_K_queue_1 rfl (fun hc => ?_) (fun hc => ?_)
  · have hw := hw.1 hc
    refine lv_iload_n hx hb d_K_queue_14 rfl (lv_at hl 1 rfl) ?_
    refine lv_aload_n hx hb d_K_queue_15 rfl (lv_at hl 0 rfl) ?_
    refine kg_K_K_readyCount hx hb hG hown hK hV d_K_queue_16 ?_
    refine lv_icmp_ge (tgt := 31) hx hb d_K_queue_19 rfl (fun hc => ?_) (fun hc => ?_)
    · have hw := hw.1 hc
      refine lv_iconst (v := -1) hx hb d_K_queue_31 (by decide) ?_
      exact kxr_i hx hb hr hV hK hX hAe hw d_K_queue_32
    · have hw := hw.2 hc
      refine lv_aload_n hx hb d_K_queue_22 rfl (lv_at hl 0 rfl) ?_
      refine kg_K_K_ready hx hb hG hown hK hV d_K_queue_23 ?_
      refine lv_iload_n hx hb d_K_queue_26 rfl (lv_at hl 1 rfl) ?_
      refine kl_8 hx hb hK hV hw.1 d_K_queue_27 ?_
      have hw := hw.2
      refine lv_goto (tgt := 32) hx hb d_K_queue_28 rfl ?_
      exact kxr_i hx hb hr hV hK hX hAe hw d_K_queue_32
  · have hw := hw.2 hc
    exact kx_K_74_164 hl0 hx hb hml hl.1 hex hts hown hV hY hAe hw d_K_queue_4 d_K_queue_7 d_K_queue_8 d_K_queue_10 d_K_queue_13 (Nat.le_of_ble_eq_true rfl) (Nat.le_of_ble_eq_true rfl) (Nat.le_of_ble_eq_true rfl) (Nat.le_of_ble_eq_true rfl)
theorem d_K_descriptor_0 : decode b_K_descriptor 0 = .ok (.aload_n 0, 1) := by decide +kernel
theorem d_K_descriptor_1 : decode b_K_descriptor 1 = .ok (.iload_n 1, 1) := by decide +kernel
theorem d_K_descriptor_2 : decode b_K_descriptor 2 = .ok (.invokevirtual 153, 3) := by decide +kernel
theorem d_K_descriptor_5 : decode b_K_descriptor 5 = .ok (.ifCond .eq 13, 3) := by decide +kernel
theorem d_K_descriptor_8 : decode b_K_descriptor 8 = .ok (.iload_n 2, 1) := by decide +kernel
theorem d_K_descriptor_9 : decode b_K_descriptor 9 = .ok (.ifCond .lt 9, 3) := by decide +kernel
theorem d_K_descriptor_12 : decode b_K_descriptor 12 = .ok (.iload_n 2, 1) := by decide +kernel
theorem d_K_descriptor_13 : decode b_K_descriptor 13 = .ok (.bipush 8, 2) := by decide +kernel
theorem d_K_descriptor_15 : decode b_K_descriptor 15 = .ok (.if_icmp .lt 13, 3) := by decide +kernel
theorem d_K_descriptor_18 : decode b_K_descriptor 18 = .ok (.new 74, 3) := by decide +kernel
theorem d_K_descriptor_21 : decode b_K_descriptor 21 = .ok (.dup, 1) := by decide +kernel
theorem d_K_descriptor_22 : decode b_K_descriptor 22 = .ok (.ldc 166, 2) := by decide +kernel
theorem d_K_descriptor_24 : decode b_K_descriptor 24 = .ok (.invokespecial 78, 3) := by decide +kernel
theorem d_K_descriptor_27 : decode b_K_descriptor 27 = .ok (.athrow, 1) := by decide +kernel
theorem d_K_descriptor_28 : decode b_K_descriptor 28 = .ok (.aload_n 0, 1) := by decide +kernel
theorem d_K_descriptor_29 : decode b_K_descriptor 29 = .ok (.getfield 11, 3) := by decide +kernel
theorem d_K_descriptor_32 : decode b_K_descriptor 32 = .ok (.iload_n 1, 1) := by decide +kernel
theorem d_K_descriptor_33 : decode b_K_descriptor 33 = .ok (.aaload, 1) := by decide +kernel
theorem d_K_descriptor_34 : decode b_K_descriptor 34 = .ok (.getfield 89, 3) := by decide +kernel
theorem d_K_descriptor_37 : decode b_K_descriptor 37 = .ok (.iload_n 2, 1) := by decide +kernel
theorem d_K_descriptor_38 : decode b_K_descriptor 38 = .ok (.iaload, 1) := by decide +kernel
theorem d_K_descriptor_39 : decode b_K_descriptor 39 = .ok (.ireturn, 1) := by decide +kernel
def w_K_descriptor (cp : Nat) (x1 : Int32) (x2 : Int32) (s0 : KS) (Φ : Int32 → KS → Prop) (Ψ : Nat → KS → Prop) : Prop := w_K_isThere cp x1 s0 (fun r2 s1 => ((r2 = 0 → Ψ 0 s1) ∧ (¬ r2 = 0 → ((x2 < 0 → Ψ 0 s1) ∧ (¬ x2 < 0 → ((x2 < (8 : Int32) → vp_in x1 16 ∧ vp_in x2 8 ∧ Φ (s1 4 x1.toNatClampNeg x2.toNatClampNeg) s1) ∧ (¬ x2 < (8 : Int32) → Ψ 0 s1)))))))
set_option maxHeartbeats 4000000 in
set_option maxRecDepth 100000 in
theorem c_K_descriptor (l : Launch) (hl0 : l.stackTraces = false) (E : gE) (s0 : KS) (x1 : Int32) (x2 : Int32) (Φ : Int32 → KS → Prop) (Ψ : Nat → KS → Prop) (hw : w_K_descriptor (eN E) x1 x2 s0 Φ Ψ) : gXi l y_K_descriptor v_K_descriptor m_K_descriptor E KK [.ref (ea E 0 0), .int x1, .int x2] s0 Φ Ψ := by
  intro sz
  refine vx_ofW (cc := b_K_descriptor) (maxL := 3) (ret := (some .int)) (by decide) rfl ?_
  intro p e s m args below meth c s₁ B hml hex hv
  obtain ⟨rfl, hsz, ⟨hP, hK, hD, hX⟩, hY⟩ := hv
  have hx := B.exec
  have hb := B.bytes
  have hr := B.returns
  have hts := atoms_spec (ws := v_K_descriptor) B.pre
  have hG : ∀ w ∈ gG, w.before _ s = true := fun w h => hts w (List.mem_cons_of_mem _ h)
  have hown : s.vm.findClass R_K = some m.cls := findClass_of_methodNamed B.named
  have hlocks := B.notSynchronized
  subst hsz
  obtain ⟨A, hAe⟩ : ∃ A, A = gA E KK s.heap.size := ⟨_, rfl⟩
  rw [← hAe] at hD hX hY ⊢
  have hV : gV E KK A s0 s s.heap [] := ⟨hP, hD, va_S.rf⟩
  have hl := lv_entry ([.ref (ea E 0 0), .int x1, .int x2] : List Value) (n := 3) (Nat.le_of_ble_eq_true rfl)
  rw [lg_entry_eq]
  generalize (lg_sl ([.ref (ea E 0 0), .int x1, .int x2] : List Value) ++ List.replicate (3 - (lg_sl ([.ref (ea E 0 0), .int x1, .int x2] : List Value)).length) Slot.unset).toArray = ls at hl ⊢
  have hl : lv_has ls 3 [(0, .ref (ea E 0 0)), (1, .int x1), (2, .int x2)] := hl
  unfold w_K_descriptor at hw
  refine lv_aload_n hx hb d_K_descriptor_0 rfl (lv_at hl 0 rfl) ?_
  refine lv_iload_n hx hb d_K_descriptor_1 rfl (lv_at hl 1 rfl) ?_
  refine kc_K_K_isThere hx hb hml hown hts hV hK hX hAe (c_K_isThere l E s0 x1 _ hw) hl.1 (Nat.le_of_ble_eq_true rfl) d_K_descriptor_2 (Nat.le_of_ble_eq_true rfl) (Nat.le_of_ble_eq_true rfl) (fun r2 s1 H locs hw hV => ?_)
  refine lv_if_eq (tgt := 18) hx hb d_K_descriptor_5 rfl (fun hc => ?_) (fun hc => ?_)
  · have hw := hw.1 hc
    exact kx_K_74_166 hl0 hx hb hml hl.1 hex hts hown hV hY hAe hw d_K_descriptor_18 d_K_descriptor_21 d_K_descriptor_22 d_K_descriptor_24 d_K_descriptor_27 (Nat.le_of_ble_eq_true rfl) (Nat.le_of_ble_eq_true rfl) (Nat.le_of_ble_eq_true rfl) (Nat.le_of_ble_eq_true rfl)
  · have hw := hw.2 hc
    refine lv_iload_n hx hb d_K_descriptor_8 rfl (lv_at hl 2 rfl) ?_
    refine lv_if_lt (tgt := 18) hx hb d_K_descriptor_9 rfl (fun hc => ?_) (fun hc => ?_)
    · have hw := hw.1 hc
      exact kx_K_74_166 hl0 hx hb hml hl.1 hex hts hown hV hY hAe hw d_K_descriptor_18 d_K_descriptor_21 d_K_descriptor_22 d_K_descriptor_24 d_K_descriptor_27 (Nat.le_of_ble_eq_true rfl) (Nat.le_of_ble_eq_true rfl) (Nat.le_of_ble_eq_true rfl) (Nat.le_of_ble_eq_true rfl)
    · have hw := hw.2 hc
      refine lv_iload_n hx hb d_K_descriptor_12 rfl (lv_at hl 2 rfl) ?_
      refine lv_bipush (v := 8) hx hb d_K_descriptor_13 (by decide) ?_
      refine lv_icmp_lt (tgt := 28) hx hb d_K_descriptor_15 rfl (fun hc => ?_) (fun hc => ?_)
      · have hw := hw.1 hc
        refine lv_aload_n hx hb d_K_descriptor_28 rfl (lv_at hl 0 rfl) ?_
        refine kg_K_K_procs hx hb hG hown hK hV d_K_descriptor_29 ?_
        refine lv_iload_n hx hb d_K_descriptor_32 rfl (lv_at hl 1 rfl) ?_
        have hj3 := vp_lt hw.1
        refine kl_9 hx hb hK hV hw.1 d_K_descriptor_33 ?_
        have hw := hw.2
        refine kg_K_P_descriptors hx hb hG hown hK hV hj3 d_K_descriptor_34 ?_
        refine lv_iload_n hx hb d_K_descriptor_37 rfl (lv_at hl 2 rfl) ?_
        refine kl_4 hx hb hK hV hj3 hw.1 d_K_descriptor_38 ?_
        have hw := hw.2
        exact kxr_i hx hb hr hV hK hX hAe hw d_K_descriptor_39
      · have hw := hw.2 hc
        exact kx_K_74_166 hl0 hx hb hml hl.1 hex hts hown hV hY hAe hw d_K_descriptor_18 d_K_descriptor_21 d_K_descriptor_22 d_K_descriptor_24 d_K_descriptor_27 (Nat.le_of_ble_eq_true rfl) (Nat.le_of_ble_eq_true rfl) (Nat.le_of_ble_eq_true rfl) (Nat.le_of_ble_eq_true rfl)
theorem d_K_pipe_0 : decode b_K_pipe 0 = .ok (.iload_n 1, 1) := by decide +kernel
theorem d_K_pipe_1 : decode b_K_pipe 1 = .ok (.ifCond .lt 9, 3) := by decide +kernel
theorem d_K_pipe_4 : decode b_K_pipe 4 = .ok (.iload_n 1, 1) := by decide +kernel
theorem d_K_pipe_5 : decode b_K_pipe 5 = .ok (.bipush 8, 2) := by decide +kernel
theorem d_K_pipe_7 : decode b_K_pipe 7 = .ok (.if_icmp .lt 13, 3) := by decide +kernel
theorem d_K_pipe_10 : decode b_K_pipe 10 = .ok (.new 74, 3) := by decide +kernel
theorem d_K_pipe_13 : decode b_K_pipe 13 = .ok (.dup, 1) := by decide +kernel
theorem d_K_pipe_14 : decode b_K_pipe 14 = .ok (.ldc 168, 2) := by decide +kernel
theorem d_K_pipe_16 : decode b_K_pipe 16 = .ok (.invokespecial 78, 3) := by decide +kernel
theorem d_K_pipe_19 : decode b_K_pipe 19 = .ok (.athrow, 1) := by decide +kernel
theorem d_K_pipe_20 : decode b_K_pipe 20 = .ok (.iload_n 2, 1) := by decide +kernel
theorem d_K_pipe_21 : decode b_K_pipe 21 = .ok (.tableswitch 83 0 4 #[35, 45, 55, 65, 74], 35) := by decide +kernel
theorem d_K_pipe_56 : decode b_K_pipe 56 = .ok (.aload_n 0, 1) := by decide +kernel
theorem d_K_pipe_57 : decode b_K_pipe 57 = .ok (.getfield 17, 3) := by decide +kernel
theorem d_K_pipe_60 : decode b_K_pipe 60 = .ok (.iload_n 1, 1) := by decide +kernel
theorem d_K_pipe_61 : decode b_K_pipe 61 = .ok (.aaload, 1) := by decide +kernel
theorem d_K_pipe_62 : decode b_K_pipe 62 = .ok (.getfield 119, 3) := by decide +kernel
theorem d_K_pipe_65 : decode b_K_pipe 65 = .ok (.ireturn, 1) := by decide +kernel
theorem d_K_pipe_66 : decode b_K_pipe 66 = .ok (.aload_n 0, 1) := by decide +kernel
theorem d_K_pipe_67 : decode b_K_pipe 67 = .ok (.getfield 21, 3) := by decide +kernel
theorem d_K_pipe_70 : decode b_K_pipe 70 = .ok (.bipush 10, 2) := by decide +kernel
theorem d_K_pipe_72 : decode b_K_pipe 72 = .ok (.iload_n 1, 1) := by decide +kernel
theorem d_K_pipe_73 : decode b_K_pipe 73 = .ok (.iadd, 1) := by decide +kernel
theorem d_K_pipe_74 : decode b_K_pipe 74 = .ok (.iaload, 1) := by decide +kernel
theorem d_K_pipe_75 : decode b_K_pipe 75 = .ok (.ireturn, 1) := by decide +kernel
theorem d_K_pipe_76 : decode b_K_pipe 76 = .ok (.aload_n 0, 1) := by decide +kernel
theorem d_K_pipe_77 : decode b_K_pipe 77 = .ok (.getfield 21, 3) := by decide +kernel
theorem d_K_pipe_80 : decode b_K_pipe 80 = .ok (.bipush 20, 2) := by decide +kernel
theorem d_K_pipe_82 : decode b_K_pipe 82 = .ok (.iload_n 1, 1) := by decide +kernel
theorem d_K_pipe_83 : decode b_K_pipe 83 = .ok (.iadd, 1) := by decide +kernel
theorem d_K_pipe_84 : decode b_K_pipe 84 = .ok (.iaload, 1) := by decide +kernel
theorem d_K_pipe_85 : decode b_K_pipe 85 = .ok (.ireturn, 1) := by decide +kernel
theorem d_K_pipe_86 : decode b_K_pipe 86 = .ok (.aload_n 0, 1) := by decide +kernel
theorem d_K_pipe_87 : decode b_K_pipe 87 = .ok (.bipush 10, 2) := by decide +kernel
theorem d_K_pipe_89 : decode b_K_pipe 89 = .ok (.iload_n 1, 1) := by decide +kernel
theorem d_K_pipe_90 : decode b_K_pipe 90 = .ok (.iadd, 1) := by decide +kernel
theorem d_K_pipe_91 : decode b_K_pipe 91 = .ok (.invokevirtual 170, 3) := by decide +kernel
theorem d_K_pipe_94 : decode b_K_pipe 94 = .ok (.ireturn, 1) := by decide +kernel
theorem d_K_pipe_95 : decode b_K_pipe 95 = .ok (.aload_n 0, 1) := by decide +kernel
theorem d_K_pipe_96 : decode b_K_pipe 96 = .ok (.bipush 20, 2) := by decide +kernel
theorem d_K_pipe_98 : decode b_K_pipe 98 = .ok (.iload_n 1, 1) := by decide +kernel
theorem d_K_pipe_99 : decode b_K_pipe 99 = .ok (.iadd, 1) := by decide +kernel
theorem d_K_pipe_100 : decode b_K_pipe 100 = .ok (.invokevirtual 170, 3) := by decide +kernel
theorem d_K_pipe_103 : decode b_K_pipe 103 = .ok (.ireturn, 1) := by decide +kernel
theorem d_K_pipe_104 : decode b_K_pipe 104 = .ok (.new 96, 3) := by decide +kernel
theorem d_K_pipe_107 : decode b_K_pipe 107 = .ok (.dup, 1) := by decide +kernel
theorem d_K_pipe_108 : decode b_K_pipe 108 = .ok (.ldc 174, 2) := by decide +kernel
theorem d_K_pipe_110 : decode b_K_pipe 110 = .ok (.invokespecial 100, 3) := by decide +kernel
theorem d_K_pipe_113 : decode b_K_pipe 113 = .ok (.athrow, 1) := by decide +kernel
def w_K_pipe (cp : Nat) (x1 : Int32) (x2 : Int32) (s0 : KS) (Φ : Int32 → KS → Prop) (Ψ : Nat → KS → Prop) : Prop := ((x1 < 0 → Ψ 0 s0) ∧ (¬ x1 < 0 → ((x1 < (8 : Int32) → ((x2 = 0 → vp_in x1 8 ∧ Φ (s0 5 x1.toNatClampNeg 2) s0) ∧ ((x2 = 1 → vp_in ((10 : Int32) + x1) 28 ∧ Φ (s0 7 0 ((10 : Int32) + x1).toNatClampNeg) s0) ∧ ((x2 = 2 → vp_in ((20 : Int32) + x1) 28 ∧ Φ (s0 7 0 ((20 : Int32) + x1).toNatClampNeg) s0) ∧ ((x2 = 3 → w_K_countWaiting cp ((10 : Int32) + x1) s0 (fun r3 s2 => Φ r3 s2)) ∧ ((x2 = 4 → w_K_countWaiting cp ((20 : Int32) + x1) s0 (fun r5 s4 => Φ r5 s4)) ∧ (¬ x2 = 0 ∧ ¬ x2 = 1 ∧ ¬ x2 = 2 ∧ ¬ x2 = 3 ∧ ¬ x2 = 4 → Ψ 2 s0))))))) ∧ (¬ x1 < (8 : Int32) → Ψ 0 s0))))
set_option maxHeartbeats 4000000 in
set_option maxRecDepth 100000 in
theorem c_K_pipe (l : Launch) (hl0 : l.stackTraces = false) (E : gE) (s0 : KS) (x1 : Int32) (x2 : Int32) (Φ : Int32 → KS → Prop) (Ψ : Nat → KS → Prop) (hw : w_K_pipe (eN E) x1 x2 s0 Φ Ψ) : gXi l y_K_pipe v_K_pipe m_K_pipe E KK [.ref (ea E 0 0), .int x1, .int x2] s0 Φ Ψ := by
  intro sz
  refine vx_ofW (cc := b_K_pipe) (maxL := 3) (ret := (some .int)) (by decide) rfl ?_
  intro p e s m args below meth c s₁ B hml hex hv
  obtain ⟨rfl, hsz, ⟨hP, hK, hD, hX⟩, hY⟩ := hv
  have hx := B.exec
  have hb := B.bytes
  have hr := B.returns
  have hts := atoms_spec (ws := v_K_pipe) B.pre
  have hG : ∀ w ∈ gG, w.before _ s = true := fun w h => hts w (List.mem_cons_of_mem _ h)
  have hown : s.vm.findClass R_K = some m.cls := findClass_of_methodNamed B.named
  have hlocks := B.notSynchronized
  subst hsz
  obtain ⟨A, hAe⟩ : ∃ A, A = gA E KK s.heap.size := ⟨_, rfl⟩
  rw [← hAe] at hD hX hY ⊢
  have hV : gV E KK A s0 s s.heap [] := ⟨hP, hD, va_S.rf⟩
  have hl := lv_entry ([.ref (ea E 0 0), .int x1, .int x2] : List Value) (n := 3) (Nat.le_of_ble_eq_true rfl)
  rw [lg_entry_eq]
  generalize (lg_sl ([.ref (ea E 0 0), .int x1, .int x2] : List Value) ++ List.replicate (3 - (lg_sl ([.ref (ea E 0 0), .int x1, .int x2] : List Value)).length) Slot.unset).toArray = ls at hl ⊢
  have hl : lv_has ls 3 [(0, .ref (ea E 0 0)), (1, .int x1), (2, .int x2)] := hl
  unfold w_K_pipe at hw
  refine lv_iload_n hx hb d_K_pipe_0 rfl (lv_at hl 1 rfl) ?_
  refine lv_if_lt (tgt := 10) hx hb d_K_pipe_1 rfl (fun hc => ?_) (fun hc => ?_)
  · have hw := hw.1 hc
    exact kx_K_74_168 hl0 hx hb hml hl.1 hex hts hown hV hY hAe hw d_K_pipe_10 d_K_pipe_13 d_K_pipe_14 d_K_pipe_16 d_K_pipe_19 (Nat.le_of_ble_eq_true rfl) (Nat.le_of_ble_eq_true rfl) (Nat.le_of_ble_eq_true rfl) (Nat.le_of_ble_eq_true rfl)
  · have hw := hw.2 hc
    refine lv_iload_n hx hb d_K_pipe_4 rfl (lv_at hl 1 rfl) ?_
    refine lv_bipush (v := 8) hx hb d_K_pipe_5 (by decide) ?_
    refine lv_icmp_lt (tgt := 20) hx hb d_K_pipe_7 rfl (fun hc => ?_) (fun hc => ?_)
    · have hw := hw.1 hc
      refine lv_iload_n hx hb d_K_pipe_20 rfl (lv_at hl 2 rfl) ?_
      have hsw := hw
      by_cases hc0 : x2 = 0
      · have hw := hsw.1 hc0
        refine lv_tableIn (off := 35) (tgt := 56) hx hb d_K_pipe_21 (by rw [hc0]; decide) (by rw [hc0]; decide) (by rw [hc0]; decide) rfl ?_
        refine lv_aload_n hx hb d_K_pipe_56 rfl (lv_at hl 0 rfl) ?_
        refine kg_K_K_pipes hx hb hG hown hK hV d_K_pipe_57 ?_
        refine lv_iload_n hx hb d_K_pipe_60 rfl (lv_at hl 1 rfl) ?_
        have hj1 := Nat.lt_trans (vp_lt hw.1) (by decide : 8 < 10)
        refine kl_10 hx hb hK hV hw.1 d_K_pipe_61 ?_
        have hw := hw.2
        refine kg_K_W_count hx hb hG hown hK hV hj1 d_K_pipe_62 ?_
        exact kxr_i hx hb hr hV hK hX hAe hw d_K_pipe_65
      have hsw := hsw.2
      by_cases hc1 : x2 = 1
      · have hw := hsw.1 hc1
        refine lv_tableIn (off := 45) (tgt := 66) hx hb d_K_pipe_21 (by rw [hc1]; decide) (by rw [hc1]; decide) (by rw [hc1]; decide) rfl ?_
        refine lv_aload_n hx hb d_K_pipe_66 rfl (lv_at hl 0 rfl) ?_
        refine kg_K_K_ends hx hb hG hown hK hV d_K_pipe_67 ?_
        refine lv_bipush (v := 10) hx hb d_K_pipe_70 (by decide) ?_
        refine lv_iload_n hx hb d_K_pipe_72 rfl (lv_at hl 1 rfl) ?_
        refine lv_iadd hx hb d_K_pipe_73 ?_
        refine kl_7 hx hb hK hV hw.1 d_K_pipe_74 ?_
        have hw := hw.2
        exact kxr_i hx hb hr hV hK hX hAe hw d_K_pipe_75
      have hsw := hsw.2
      by_cases hc2 : x2 = 2
      · have hw := hsw.1 hc2
        refine lv_tableIn (off := 55) (tgt := 76) hx hb d_K_pipe_21 (by rw [hc2]; decide) (by rw [hc2]; decide) (by rw [hc2]; decide) rfl ?_
        refine lv_aload_n hx hb d_K_pipe_76 rfl (lv_at hl 0 rfl) ?_
        refine kg_K_K_ends hx hb hG hown hK hV d_K_pipe_77 ?_
        refine lv_bipush (v := 20) hx hb d_K_pipe_80 (by decide) ?_
        refine lv_iload_n hx hb d_K_pipe_82 rfl (lv_at hl 1 rfl) ?_
        refine lv_iadd hx hb d_K_pipe_83 ?_
        refine kl_7 hx hb hK hV hw.1 d_K_pipe_84 ?_
        have hw := hw.2
        exact kxr_i hx hb hr hV hK hX hAe hw d_K_pipe_85
      have hsw := hsw.2
      by_cases hc3 : x2 = 3
      · have hw := hsw.1 hc3
        refine lv_tableIn (off := 65) (tgt := 86) hx hb d_K_pipe_21 (by rw [hc3]; decide) (by rw [hc3]; decide) (by rw [hc3]; decide) rfl ?_
        refine lv_aload_n hx hb d_K_pipe_86 rfl (lv_at hl 0 rfl) ?_
        refine lv_bipush (v := 10) hx hb d_K_pipe_87 (by decide) ?_
        refine lv_iload_n hx hb d_K_pipe_89 rfl (lv_at hl 1 rfl) ?_
        refine lv_iadd hx hb d_K_pipe_90 ?_
        refine kc_K_K_countWaiting hx hb hml hown hts hV hK hX hAe (c_K_countWaiting l E s0 ((10 : Int32) + x1) _ hw) hl.1 (Nat.le_of_ble_eq_true rfl) d_K_pipe_91 (Nat.le_of_ble_eq_true rfl) (Nat.le_of_ble_eq_true rfl) (fun r3 s2 H locs hw hV => ?_)
        exact kxr_i hx hb hr hV hK hX hAe hw d_K_pipe_94
      have hsw := hsw.2
      by_cases hc4 : x2 = 4
      · have hw := hsw.1 hc4
        refine lv_tableIn (off := 74) (tgt := 95) hx hb d_K_pipe_21 (by rw [hc4]; decide) (by rw [hc4]; decide) (by rw [hc4]; decide) rfl ?_
        refine lv_aload_n hx hb d_K_pipe_95 rfl (lv_at hl 0 rfl) ?_
        refine lv_bipush (v := 20) hx hb d_K_pipe_96 (by decide) ?_
        refine lv_iload_n hx hb d_K_pipe_98 rfl (lv_at hl 1 rfl) ?_
        refine lv_iadd hx hb d_K_pipe_99 ?_
        refine kc_K_K_countWaiting hx hb hml hown hts hV hK hX hAe (c_K_countWaiting l E s0 ((20 : Int32) + x1) _ hw) hl.1 (Nat.le_of_ble_eq_true rfl) d_K_pipe_100 (Nat.le_of_ble_eq_true rfl) (Nat.le_of_ble_eq_true rfl) (fun r5 s4 H locs hw hV => ?_)
        exact kxr_i hx hb hr hV hK hX hAe hw d_K_pipe_103
      have hsw := hsw.2
      have hw := hsw ⟨hc0, hc1, hc2, hc3, hc4⟩
      refine kr_dflt (g2 := F0 m 104 ls []) ?_ (fun kd => ?_)
      · exact kx_K_96_174 hl0 hx hb hml hl.1 hex hts hown hV hY hAe hw d_K_pipe_104 d_K_pipe_107 d_K_pipe_108 d_K_pipe_110 d_K_pipe_113 (Nat.le_of_ble_eq_true rfl) (Nat.le_of_ble_eq_true rfl) (Nat.le_of_ble_eq_true rfl) (Nat.le_of_ble_eq_true rfl)
      have hn0 : ¬ x2.toInt = 0 := lv_neT hc0 (by decide)
      have hn1 : ¬ x2.toInt = 1 := lv_neT hc1 (by decide)
      have hn2 : ¬ x2.toInt = 2 := lv_neT hc2 (by decide)
      have hn3 : ¬ x2.toInt = 3 := lv_neT hc3 (by decide)
      have hn4 : ¬ x2.toInt = 4 := lv_neT hc4 (by decide)
      exact lv_tableOut (tgt := 104) hx hb d_K_pipe_21 (by omega) rfl kd
    · have hw := hw.2 hc
      exact kx_K_74_168 hl0 hx hb hml hl.1 hex hts hown hV hY hAe hw d_K_pipe_10 d_K_pipe_13 d_K_pipe_14 d_K_pipe_16 d_K_pipe_19 (Nat.le_of_ble_eq_true rfl) (Nat.le_of_ble_eq_true rfl) (Nat.le_of_ble_eq_true rfl) (Nat.le_of_ble_eq_true rfl)
theorem d_K_out_0 : decode b_K_out 0 = .ok (.iload_n 1, 1) := by decide +kernel
theorem d_K_out_1 : decode b_K_out 1 = .ok (.ifCond .lt 14, 3) := by decide +kernel
theorem d_K_out_4 : decode b_K_out 4 = .ok (.iload_n 1, 1) := by decide +kernel
theorem d_K_out_5 : decode b_K_out 5 = .ok (.aload_n 0, 1) := by decide +kernel
theorem d_K_out_6 : decode b_K_out 6 = .ok (.getfield 55, 3) := by decide +kernel
theorem d_K_out_9 : decode b_K_out 9 = .ok (.getfield 119, 3) := by decide +kernel
theorem d_K_out_12 : decode b_K_out 12 = .ok (.if_icmp .lt 13, 3) := by decide +kernel
theorem d_K_out_15 : decode b_K_out 15 = .ok (.new 74, 3) := by decide +kernel
theorem d_K_out_18 : decode b_K_out 18 = .ok (.dup, 1) := by decide +kernel
theorem d_K_out_19 : decode b_K_out 19 = .ok (.ldc 176, 2) := by decide +kernel
theorem d_K_out_21 : decode b_K_out 21 = .ok (.invokespecial 78, 3) := by decide +kernel
theorem d_K_out_24 : decode b_K_out 24 = .ok (.athrow, 1) := by decide +kernel
theorem d_K_out_25 : decode b_K_out 25 = .ok (.aload_n 0, 1) := by decide +kernel
theorem d_K_out_26 : decode b_K_out 26 = .ok (.getfield 55, 3) := by decide +kernel
theorem d_K_out_29 : decode b_K_out 29 = .ok (.iload_n 1, 1) := by decide +kernel
theorem d_K_out_30 : decode b_K_out 30 = .ok (.invokevirtual 178, 3) := by decide +kernel
theorem d_K_out_33 : decode b_K_out 33 = .ok (.ireturn, 1) := by decide +kernel
def w_K_out (cp : Nat) (x1 : Int32) (s0 : KS) (Φ : Int32 → KS → Prop) (Ψ : Nat → KS → Prop) : Prop := ((x1 < 0 → Ψ 0 s0) ∧ (¬ x1 < 0 → ((x1 < (s0 5 9 2) → w_W_at cp 9 x1 s0 (fun r2 s1 => Φ r2 s1)) ∧ (¬ x1 < (s0 5 9 2) → Ψ 0 s0))))
set_option maxHeartbeats 4000000 in
set_option maxRecDepth 100000 in
theorem c_K_out (l : Launch) (hl0 : l.stackTraces = false) (E : gE) (s0 : KS) (x1 : Int32) (Φ : Int32 → KS → Prop) (Ψ : Nat → KS → Prop) (hw : w_K_out (eN E) x1 s0 Φ Ψ) : gXi l y_K_out v_K_out m_K_out E KK [.ref (ea E 0 0), .int x1] s0 Φ Ψ := by
  intro sz
  refine vx_ofW (cc := b_K_out) (maxL := 2) (ret := (some .int)) (by decide) rfl ?_
  intro p e s m args below meth c s₁ B hml hex hv
  obtain ⟨rfl, hsz, ⟨hP, hK, hD, hX⟩, hY⟩ := hv
  have hx := B.exec
  have hb := B.bytes
  have hr := B.returns
  have hts := atoms_spec (ws := v_K_out) B.pre
  have hG : ∀ w ∈ gG, w.before _ s = true := fun w h => hts w (List.mem_cons_of_mem _ h)
  have hown : s.vm.findClass R_K = some m.cls := findClass_of_methodNamed B.named
  have hlocks := B.notSynchronized
  subst hsz
  obtain ⟨A, hAe⟩ : ∃ A, A = gA E KK s.heap.size := ⟨_, rfl⟩
  rw [← hAe] at hD hX hY ⊢
  have hV : gV E KK A s0 s s.heap [] := ⟨hP, hD, va_S.rf⟩
  have hl := lv_entry ([.ref (ea E 0 0), .int x1] : List Value) (n := 2) (Nat.le_of_ble_eq_true rfl)
  rw [lg_entry_eq]
  generalize (lg_sl ([.ref (ea E 0 0), .int x1] : List Value) ++ List.replicate (2 - (lg_sl ([.ref (ea E 0 0), .int x1] : List Value)).length) Slot.unset).toArray = ls at hl ⊢
  have hl : lv_has ls 2 [(0, .ref (ea E 0 0)), (1, .int x1)] := hl
  unfold w_K_out at hw
  refine lv_iload_n hx hb d_K_out_0 rfl (lv_at hl 1 rfl) ?_
  refine lv_if_lt (tgt := 15) hx hb d_K_out_1 rfl (fun hc => ?_) (fun hc => ?_)
  · have hw := hw.1 hc
    exact kx_K_74_176 hl0 hx hb hml hl.1 hex hts hown hV hY hAe hw d_K_out_15 d_K_out_18 d_K_out_19 d_K_out_21 d_K_out_24 (Nat.le_of_ble_eq_true rfl) (Nat.le_of_ble_eq_true rfl) (Nat.le_of_ble_eq_true rfl) (Nat.le_of_ble_eq_true rfl)
  · have hw := hw.2 hc
    refine lv_iload_n hx hb d_K_out_4 rfl (lv_at hl 1 rfl) ?_
    refine lv_aload_n hx hb d_K_out_5 rfl (lv_at hl 0 rfl) ?_
    refine kg_K_K_output hx hb hG hown hK hV d_K_out_6 ?_
    refine kg_K_W_count hx hb hG hown hK hV (by decide) d_K_out_9 ?_
    refine lv_icmp_lt (tgt := 25) hx hb d_K_out_12 rfl (fun hc => ?_) (fun hc => ?_)
    · have hw := hw.1 hc
      refine lv_aload_n hx hb d_K_out_25 rfl (lv_at hl 0 rfl) ?_
      refine kg_K_K_output hx hb hG hown hK hV d_K_out_26 ?_
      refine lv_iload_n hx hb d_K_out_29 rfl (lv_at hl 1 rfl) ?_
      refine kc_K_W_at hx hb hml hown hts hV hK hX hAe (c_W_at l E s0 9 (by decide) x1 _ hw) (by decide) hl.1 (Nat.le_of_ble_eq_true rfl) d_K_out_30 (Nat.le_of_ble_eq_true rfl) (Nat.le_of_ble_eq_true rfl) (fun r2 s1 H locs hw hV => ?_)
      exact kxr_i hx hb hr hV hK hX hAe hw d_K_out_33
    · have hw := hw.2 hc
      exact kx_K_74_176 hl0 hx hb hml hl.1 hex hts hown hV hY hAe hw d_K_out_15 d_K_out_18 d_K_out_19 d_K_out_21 d_K_out_24 (Nat.le_of_ble_eq_true rfl) (Nat.le_of_ble_eq_true rfl) (Nat.le_of_ble_eq_true rfl) (Nat.le_of_ble_eq_true rfl)

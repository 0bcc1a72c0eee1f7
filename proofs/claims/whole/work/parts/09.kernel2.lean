theorem d_K_duplicate_0 : decode b_K_duplicate 0 = .ok (.aload_n 1, 1) := by decide +kernel
theorem d_K_duplicate_1 : decode b_K_duplicate 1 = .ok (.aload_n 1, 1) := by decide +kernel
theorem d_K_duplicate_2 : decode b_K_duplicate 2 = .ok (.invokevirtual 253, 3) := by decide +kernel
theorem d_K_duplicate_5 : decode b_K_duplicate 5 = .ok (.invokevirtual 213, 3) := by decide +kernel
theorem d_K_duplicate_8 : decode b_K_duplicate 8 = .ok (.istore_n 2, 1) := by decide +kernel
theorem d_K_duplicate_9 : decode b_K_duplicate 9 = .ok (.aload_n 1, 1) := by decide +kernel
theorem d_K_duplicate_10 : decode b_K_duplicate 10 = .ok (.iload_n 2, 1) := by decide +kernel
theorem d_K_duplicate_11 : decode b_K_duplicate 11 = .ok (.ifCond .ne 7, 3) := by decide +kernel
theorem d_K_duplicate_14 : decode b_K_duplicate 14 = .ok (.iconst (-1), 1) := by decide +kernel
theorem d_K_duplicate_15 : decode b_K_duplicate 15 = .ok (.goto 9, 3) := by decide +kernel
theorem d_K_duplicate_18 : decode b_K_duplicate 18 = .ok (.aload_n 0, 1) := by decide +kernel
theorem d_K_duplicate_19 : decode b_K_duplicate 19 = .ok (.aload_n 1, 1) := by decide +kernel
theorem d_K_duplicate_20 : decode b_K_duplicate 20 = .ok (.iload_n 2, 1) := by decide +kernel
theorem d_K_duplicate_21 : decode b_K_duplicate 21 = .ok (.invokevirtual 325, 3) := by decide +kernel
theorem d_K_duplicate_24 : decode b_K_duplicate 24 = .ok (.invokevirtual 259, 3) := by decide +kernel
theorem d_K_duplicate_27 : decode b_K_duplicate 27 = .ok (.return_, 1) := by decide +kernel
def w_K_duplicate_24 (cp : Nat) (p1 : Nat) (Φ : KS → Prop) (t0 : Int32) (s0 : KS) : Prop := w_P_push cp p1 t0 s0 (fun s1 => Φ s1)
def w_K_duplicate (cp : Nat) (p1 : Nat) (s0 : KS) (Φ : KS → Prop) : Prop := w_P_pop cp p1 s0 (fun r2 s1 => w_P_descriptorAt cp p1 r2 s1 (fun r4 s3 => ((¬ r4 = 0 → w_K_openDescriptor cp p1 r4 s3 (fun r6 s5 => w_K_duplicate_24 cp p1 Φ r6 s5)) ∧ (r4 = 0 → w_K_duplicate_24 cp p1 Φ (-1 : Int32) s3))))
set_option maxHeartbeats 4000000 in
set_option maxRecDepth 100000 in
theorem c_K_duplicate (l : Launch) (E : gE) (s0 : KS) (p1 : Nat) (hp1 : p1 < 16) (Φ : KS → Prop) (hw : w_K_duplicate (eN E) p1 s0 Φ) : gMv l y_K_duplicate v_K_duplicate m_K_duplicate E KK [.ref (ea E 0 0), .ref (ea E 1 p1)] s0 Φ := by
  intro sz
  refine Met.ofW (cc := b_K_duplicate) (maxL := 3) (ret := none) (by decide) rfl ?_
  intro p e s m args below meth c s₁ B hml hv
  obtain ⟨rfl, hsz, hP, hK, hD, hX⟩ := hv
  have hx := B.exec
  have hb := B.bytes
  have hr := B.returns
  have hts := atoms_spec (ws := v_K_duplicate) B.pre
  have hG : ∀ w ∈ gG, w.before _ s = true := fun w h => hts w (List.mem_cons_of_mem _ h)
  have hown : s.vm.findClass R_K = some m.cls := findClass_of_methodNamed B.named
  have hlocks := B.notSynchronized
  subst hsz
  obtain ⟨A, hAe⟩ : ∃ A, A = gA E KK s.heap.size := ⟨_, rfl⟩
  rw [← hAe] at hD hX ⊢
  have hV : gV E KK A s0 s s.heap [] := ⟨hP, hD, va_S.rf⟩
  have hl := lv_entry ([.ref (ea E 0 0), .ref (ea E 1 p1)] : List Value) (n := 3) (Nat.le_of_ble_eq_true rfl)
  rw [lg_entry_eq]
  generalize (lg_sl ([.ref (ea E 0 0), .ref (ea E 1 p1)] : List Value) ++ List.replicate (3 - (lg_sl ([.ref (ea E 0 0), .ref (ea E 1 p1)] : List Value)).length) Slot.unset).toArray = ls at hl ⊢
  have hl : lv_has ls 3 [(0, .ref (ea E 0 0)), (1, .ref (ea E 1 p1))] := hl
  have J24 : ∀ (ls : Array Slot) (H : Heap) (locs : List Loc) (s0 : KS) (t0 : Int32), lv_has ls 3 [] → gV E KK A s0 s H locs → w_K_duplicate_24 (eN E) p1 Φ t0 s0 → W p l e m_K_duplicate s m ([.ref (ea E 0 0), .ref (ea E 1 p1)] : List Value).toArray below meth c H locs 0 0 (MQ below (gQv E KK A Φ) ([.ref (ea E 0 0), .ref (ea E 1 p1)] : List Value).toArray s 0 0 A) (F0 m 24 ls [.int t0, .ref (ea E 1 p1)]) := by
    intro  ls H locs s0 t0 hl hV hw
    unfold w_K_duplicate_24 at hw
    refine kc_K_P_push hx hb hml hown hts hV hK hX hAe (c_P_push l E s0 p1 hp1 t0 _ hw) hp1 hl.1 (Nat.le_of_ble_eq_true rfl) d_K_duplicate_24 (Nat.le_of_ble_eq_true rfl) (Nat.le_of_ble_eq_true rfl) (fun s1 H locs hw hV => ?_)
    exact kr_v hx hb hr hV hK hX hAe hw d_K_duplicate_27
  unfold w_K_duplicate at hw
  refine lv_aload_n hx hb d_K_duplicate_0 rfl (lv_at hl 1 rfl) ?_
  refine lv_aload_n hx hb d_K_duplicate_1 rfl (lv_at hl 1 rfl) ?_
  refine kc_K_P_pop hx hb hml hown hts hV hK hX hAe (c_P_pop l E s0 p1 hp1 _ hw) hp1 hl.1 (Nat.le_of_ble_eq_true rfl) d_K_duplicate_2 (Nat.le_of_ble_eq_true rfl) (Nat.le_of_ble_eq_true rfl) (fun r2 s1 H locs hw hV => ?_)
  refine kc_K_P_descriptorAt hx hb hml hown hts hV hK hX hAe (c_P_descriptorAt l E s1 p1 hp1 r2 _ hw) hp1 hl.1 (Nat.le_of_ble_eq_true rfl) d_K_duplicate_5 (Nat.le_of_ble_eq_true rfl) (Nat.le_of_ble_eq_true rfl) (fun r4 s3 H locs hw hV => ?_)
  refine lv_istore_n (lv' := [(2, .int r4), (0, .ref (ea E 0 0)), (1, .ref (ea E 1 p1))]) hx hb d_K_duplicate_8 rfl hl (by decide) rfl (fun ls hl => ?_)
  refine lv_aload_n hx hb d_K_duplicate_9 rfl (lv_at hl 2 rfl) ?_
  refine lv_iload_n hx hb d_K_duplicate_10 rfl (lv_at hl 0 rfl) ?_
  refine lv_if_ne (tgt := 18) hx hb d_K_duplicate_11 rfl (fun hc => ?_) (fun hc => ?_)
  · have hw := hw.1 hc
    refine lv_aload_n hx hb d_K_duplicate_18 rfl (lv_at hl 1 rfl) ?_
    refine lv_aload_n hx hb d_K_duplicate_19 rfl (lv_at hl 2 rfl) ?_
    refine lv_iload_n hx hb d_K_duplicate_20 rfl (lv_at hl 0 rfl) ?_
    refine kc_K_K_openDescriptor hx hb hml hown hts hV hK hX hAe (c_K_openDescriptor l E s3 p1 hp1 r4 _ hw) hl.1 (Nat.le_of_ble_eq_true rfl) d_K_duplicate_21 (Nat.le_of_ble_eq_true rfl) (Nat.le_of_ble_eq_true rfl) (fun r6 s5 H locs hw hV => ?_)
    exact J24 _ _ _ s5 r6 (lv_sub hl [] rfl) hV hw
  · have hw := hw.2 hc
    refine lv_iconst (v := -1) hx hb d_K_duplicate_14 (by decide) ?_
    refine lv_goto (tgt := 24) hx hb d_K_duplicate_15 rfl ?_
    exact J24 _ _ _ s3 (-1 : Int32) (lv_sub hl [] rfl) hV hw
theorem d_K_freeProc_0 : decode b_K_freeProc 0 = .ok (.iconst 0, 1) := by decide +kernel
theorem d_K_freeProc_1 : decode b_K_freeProc 1 = .ok (.istore_n 1, 1) := by decide +kernel
theorem d_K_freeProc_2 : decode b_K_freeProc 2 = .ok (.iload_n 1, 1) := by decide +kernel
theorem d_K_freeProc_3 : decode b_K_freeProc 3 = .ok (.bipush 16, 2) := by decide +kernel
theorem d_K_freeProc_5 : decode b_K_freeProc 5 = .ok (.if_icmp .ge 28, 3) := by decide +kernel
theorem d_K_freeProc_8 : decode b_K_freeProc 8 = .ok (.aload_n 0, 1) := by decide +kernel
theorem d_K_freeProc_9 : decode b_K_freeProc 9 = .ok (.getfield 11, 3) := by decide +kernel
theorem d_K_freeProc_12 : decode b_K_freeProc 12 = .ok (.iload_n 1, 1) := by decide +kernel
theorem d_K_freeProc_13 : decode b_K_freeProc 13 = .ok (.aaload, 1) := by decide +kernel
theorem d_K_freeProc_14 : decode b_K_freeProc 14 = .ok (.getfield 127, 3) := by decide +kernel
theorem d_K_freeProc_17 : decode b_K_freeProc 17 = .ok (.ifCond .ne 10, 3) := by decide +kernel
theorem d_K_freeProc_20 : decode b_K_freeProc 20 = .ok (.aload_n 0, 1) := by decide +kernel
theorem d_K_freeProc_21 : decode b_K_freeProc 21 = .ok (.getfield 11, 3) := by decide +kernel
theorem d_K_freeProc_24 : decode b_K_freeProc 24 = .ok (.iload_n 1, 1) := by decide +kernel
theorem d_K_freeProc_25 : decode b_K_freeProc 25 = .ok (.aaload, 1) := by decide +kernel
theorem d_K_freeProc_26 : decode b_K_freeProc 26 = .ok (.areturn, 1) := by decide +kernel
theorem d_K_freeProc_27 : decode b_K_freeProc 27 = .ok (.iinc 1 1, 3) := by decide +kernel
theorem d_K_freeProc_30 : decode b_K_freeProc 30 = .ok (.goto (-28), 3) := by decide +kernel
theorem d_K_freeProc_33 : decode b_K_freeProc 33 = .ok (.aconst_null, 1) := by decide +kernel
theorem d_K_freeProc_34 : decode b_K_freeProc 34 = .ok (.areturn, 1) := by decide +kernel
def w_K_freeProc_2 (cp : Nat) (Φ : Option Nat → KS → Prop) : Nat → Int32 → KS → Prop
  | 0, _, _ => False
  | n + 1, v1, s0 => (((16 : Int32) ≤ v1 → Φ none s0) ∧ (¬ (16 : Int32) ≤ v1 → vp_in v1 16 ∧ ((¬ (s0 1 v1.toNatClampNeg 7) = 0 → ∀ y2 : Int32, y2 = v1 + (1 : Int32) → w_K_freeProc_2 cp Φ n y2 s0) ∧ ((s0 1 v1.toNatClampNeg 7) = 0 → vp_in v1 16 ∧ Φ (some v1.toNatClampNeg) s0))))
def w_K_freeProc (cp : Nat) (s0 : KS) (Φ : Option Nat → KS → Prop) : Prop := ∃ nn : Nat, w_K_freeProc_2 cp Φ nn (0 : Int32) s0
set_option maxHeartbeats 4000000 in
set_option maxRecDepth 100000 in
theorem c_K_freeProc (l : Launch) (E : gE) (s0 : KS)  (Φ : Option Nat → KS → Prop) (hw : w_K_freeProc (eN E) s0 Φ) : gMq l y_K_freeProc v_K_freeProc m_K_freeProc E KK [.ref (ea E 0 0)] s0 Φ := by
  intro sz
  refine Met.ofW (cc := b_K_freeProc) (maxL := 2) (ret := (some (.object "PipeKernel$Proc"))) (by decide) rfl ?_
  intro p e s m args below meth c s₁ B hml hv
  obtain ⟨rfl, hsz, hP, hK, hD, hX⟩ := hv
  have hx := B.exec
  have hb := B.bytes
  have hr := B.returns
  have hts := atoms_spec (ws := v_K_freeProc) B.pre
  have hG : ∀ w ∈ gG, w.before _ s = true := fun w h => hts w (List.mem_cons_of_mem _ h)
  have hown : s.vm.findClass R_K = some m.cls := findClass_of_methodNamed B.named
  have hlocks := B.notSynchronized
  subst hsz
  obtain ⟨A, hAe⟩ : ∃ A, A = gA E KK s.heap.size := ⟨_, rfl⟩
  rw [← hAe] at hD hX ⊢
  have hV : gV E KK A s0 s s.heap [] := ⟨hP, hD, va_S.rf⟩
  have hl := lv_entry ([.ref (ea E 0 0)] : List Value) (n := 2) (Nat.le_of_ble_eq_true rfl)
  rw [lg_entry_eq]
  generalize (lg_sl ([.ref (ea E 0 0)] : List Value) ++ List.replicate (2 - (lg_sl ([.ref (ea E 0 0)] : List Value)).length) Slot.unset).toArray = ls at hl ⊢
  have hl : lv_has ls 2 [(0, .ref (ea E 0 0))] := hl
  have L2 : ∀ (n : Nat), ∀ (ls : Array Slot) (H : Heap) (locs : List Loc) (s0 : KS) (v1 : Int32), lv_has ls 2 [(0, .ref (ea E 0 0)), (1, .int v1)] → gV E KK A s0 s H locs → w_K_freeProc_2 (eN E) Φ n v1 s0 → W p l e m_K_freeProc s m ([.ref (ea E 0 0)] : List Value).toArray below meth c H locs 0 0 (MQ below (gQq E KK A Φ) ([.ref (ea E 0 0)] : List Value).toArray s 0 0 A) (F0 m 2 ls []) := by
    intro n
    induction n with
    | zero =>
      intro ls H locs s0 v1 hl hV hw
      exact False.elim hw
    | succ n ih =>
      intro ls H locs s0 v1 hl hV hw
      unfold w_K_freeProc_2 at hw
      refine lv_iload_n hx hb d_K_freeProc_2 rfl (lv_at hl 1 rfl) ?_
      refine lv_bipush (v := 16) hx hb d_K_freeProc_3 (by decide) ?_
      refine lv_icmp_ge (tgt := 33) hx hb d_K_freeProc_5 rfl (fun hc => ?_) (fun hc => ?_)
      · have hw := hw.1 hc
        refine lv_null hx hb d_K_freeProc_33 ?_
        exact kr_q (o := none) hx hb hr hV hK hX hAe (fun _ h => by cases h) hw d_K_freeProc_34
      · have hw := hw.2 hc
        refine lv_aload_n hx hb d_K_freeProc_8 rfl (lv_at hl 0 rfl) ?_
        refine kg_K_K_procs hx hb hG hown hK hV d_K_freeProc_9 ?_
        refine lv_iload_n hx hb d_K_freeProc_12 rfl (lv_at hl 1 rfl) ?_
        have hj1 := vp_lt hw.1
        refine kl_9 hx hb hK hV hw.1 d_K_freeProc_13 ?_
        have hw := hw.2
        refine kg_K_P_state hx hb hG hown hK hV hj1 d_K_freeProc_14 ?_
        refine lv_if_ne (tgt := 27) hx hb d_K_freeProc_17 rfl (fun hc => ?_) (fun hc => ?_)
        · have hw := hw.1 hc
          obtain ⟨y2, ey2⟩ : ∃ z : Int32, z = v1 + (1 : Int32) := ⟨_, rfl⟩
          have hw := hw y2 ey2
          refine lv_iinc (k := 1) (v := y2) (lv' := [(1, .int y2), (0, .ref (ea E 0 0))]) hx hb d_K_freeProc_27 hl rfl (by rw [ey2]; rfl) (by decide) rfl (fun ls hl => ?_)
          refine lv_goto (tgt := 2) hx hb d_K_freeProc_30 rfl ?_
          exact ih _ _ _ s0 y2 (lv_sub hl [1, 0] rfl) hV hw
        · have hw := hw.2 hc
          refine lv_aload_n hx hb d_K_freeProc_20 rfl (lv_at hl 0 rfl) ?_
          refine kg_K_K_procs hx hb hG hown hK hV d_K_freeProc_21 ?_
          refine lv_iload_n hx hb d_K_freeProc_24 rfl (lv_at hl 1 rfl) ?_
          have hj3 := vp_lt hw.1
          refine kl_9 hx hb hK hV hw.1 d_K_freeProc_25 ?_
          have hw := hw.2
          exact kr_q (o := (some v1.toNatClampNeg)) hx hb hr hV hK hX hAe (fun z h => by cases h; exact hj3) hw d_K_freeProc_26
  unfold w_K_freeProc at hw
  refine lv_iconst (v := 0) hx hb d_K_freeProc_0 (by decide) ?_
  refine lv_istore_n (lv' := [(1, .int (0 : Int32)), (0, .ref (ea E 0 0))]) hx hb d_K_freeProc_1 rfl hl (by decide) rfl (fun ls hl => ?_)
  obtain ⟨nn, hw⟩ := hw
  exact L2 nn _ _ _ s0 (0 : Int32) (lv_sub hl [1, 0] rfl) hV hw
theorem d_K_fork_0 : decode b_K_fork 0 = .ok (.aload_n 0, 1) := by decide +kernel
theorem d_K_fork_1 : decode b_K_fork 1 = .ok (.invokevirtual 306, 3) := by decide +kernel
theorem d_K_fork_4 : decode b_K_fork 4 = .ok (.astore_n 2, 1) := by decide +kernel
theorem d_K_fork_5 : decode b_K_fork 5 = .ok (.aload_n 2, 1) := by decide +kernel
theorem d_K_fork_6 : decode b_K_fork 6 = .ok (.ifnonnull 9, 3) := by decide +kernel
theorem d_K_fork_9 : decode b_K_fork 9 = .ok (.aload_n 1, 1) := by decide +kernel
theorem d_K_fork_10 : decode b_K_fork 10 = .ok (.iconst (-1), 1) := by decide +kernel
theorem d_K_fork_11 : decode b_K_fork 11 = .ok (.invokevirtual 259, 3) := by decide +kernel
theorem d_K_fork_14 : decode b_K_fork 14 = .ok (.return_, 1) := by decide +kernel
theorem d_K_fork_15 : decode b_K_fork 15 = .ok (.aload_n 2, 1) := by decide +kernel
theorem d_K_fork_16 : decode b_K_fork 16 = .ok (.aload_n 1, 1) := by decide +kernel
theorem d_K_fork_17 : decode b_K_fork 17 = .ok (.invokevirtual 310, 3) := by decide +kernel
theorem d_K_fork_20 : decode b_K_fork 20 = .ok (.iconst 0, 1) := by decide +kernel
theorem d_K_fork_21 : decode b_K_fork 21 = .ok (.istore_n 3, 1) := by decide +kernel
theorem d_K_fork_22 : decode b_K_fork 22 = .ok (.iload_n 3, 1) := by decide +kernel
theorem d_K_fork_23 : decode b_K_fork 23 = .ok (.bipush 8, 2) := by decide +kernel
theorem d_K_fork_25 : decode b_K_fork 25 = .ok (.if_icmp .ge 19, 3) := by decide +kernel
theorem d_K_fork_28 : decode b_K_fork 28 = .ok (.aload_n 0, 1) := by decide +kernel
theorem d_K_fork_29 : decode b_K_fork 29 = .ok (.aload_n 2, 1) := by decide +kernel
theorem d_K_fork_30 : decode b_K_fork 30 = .ok (.getfield 89, 3) := by decide +kernel
theorem d_K_fork_33 : decode b_K_fork 33 = .ok (.iload_n 3, 1) := by decide +kernel
theorem d_K_fork_34 : decode b_K_fork 34 = .ok (.iaload, 1) := by decide +kernel
theorem d_K_fork_35 : decode b_K_fork 35 = .ok (.invokevirtual 313, 3) := by decide +kernel
theorem d_K_fork_38 : decode b_K_fork 38 = .ok (.iinc 3 1, 3) := by decide +kernel
theorem d_K_fork_41 : decode b_K_fork 41 = .ok (.goto (-19), 3) := by decide +kernel
theorem d_K_fork_44 : decode b_K_fork 44 = .ok (.aload_n 1, 1) := by decide +kernel
theorem d_K_fork_45 : decode b_K_fork 45 = .ok (.aload_n 2, 1) := by decide +kernel
theorem d_K_fork_46 : decode b_K_fork 46 = .ok (.getfield 256, 3) := by decide +kernel
theorem d_K_fork_49 : decode b_K_fork 49 = .ok (.invokevirtual 259, 3) := by decide +kernel
theorem d_K_fork_52 : decode b_K_fork 52 = .ok (.aload_n 2, 1) := by decide +kernel
theorem d_K_fork_53 : decode b_K_fork 53 = .ok (.iconst 0, 1) := by decide +kernel
theorem d_K_fork_54 : decode b_K_fork 54 = .ok (.invokevirtual 259, 3) := by decide +kernel
theorem d_K_fork_57 : decode b_K_fork 57 = .ok (.aload_n 0, 1) := by decide +kernel
theorem d_K_fork_58 : decode b_K_fork 58 = .ok (.aload_n 2, 1) := by decide +kernel
theorem d_K_fork_59 : decode b_K_fork 59 = .ok (.invokevirtual 92, 3) := by decide +kernel
theorem d_K_fork_62 : decode b_K_fork 62 = .ok (.return_, 1) := by decide +kernel
def w_K_fork_22 (cp : Nat) (p1 : Nat) (Φ : KS → Prop) : Nat → Nat → Int32 → KS → Prop
  | 0, _, _, _ => False
  | n + 1, b2, v3, s0 => (((8 : Int32) ≤ v3 → w_P_push cp p1 (s0 1 b2 0) s0 (fun s1 => w_P_push cp b2 (0 : Int32) s1 (fun s2 => w_K_makeReady cp b2 s2 (fun s3 => Φ s3)))) ∧ (¬ (8 : Int32) ≤ v3 → vp_in v3 8 ∧ w_K_addEnd cp (s0 4 b2 v3.toNatClampNeg) s0 (fun s4 => ∀ y5 : Int32, y5 = v3 + (1 : Int32) → w_K_fork_22 cp p1 Φ n b2 y5 s4)))
def w_K_fork (cp : Nat) (p1 : Nat) (s0 : KS) (Φ : KS → Prop) : Prop := w_K_freeProc cp s0 (fun o2 s1 => ((o2 = none → w_P_push cp p1 (-1 : Int32) s1 (fun s4 => Φ s4)) ∧ (∀ z3 : Nat, o2 = some z3 → w_P_copy cp z3 p1 s1 (fun s5 => ∃ nn : Nat, w_K_fork_22 cp p1 Φ nn z3 (0 : Int32) s5))))
set_option maxHeartbeats 4000000 in
set_option maxRecDepth 100000 in
theorem c_K_fork (l : Launch) (E : gE) (s0 : KS) (p1 : Nat) (hp1 : p1 < 16) (Φ : KS → Prop) (hw : w_K_fork (eN E) p1 s0 Φ) : gMv l y_K_fork v_K_fork m_K_fork E KK [.ref (ea E 0 0), .ref (ea E 1 p1)] s0 Φ := by
  intro sz
  refine Met.ofW (cc := b_K_fork) (maxL := 4) (ret := none) (by decide) rfl ?_
  intro p e s m args below meth c s₁ B hml hv
  obtain ⟨rfl, hsz, hP, hK, hD, hX⟩ := hv
  have hx := B.exec
  have hb := B.bytes
  have hr := B.returns
  have hts := atoms_spec (ws := v_K_fork) B.pre
  have hG : ∀ w ∈ gG, w.before _ s = true := fun w h => hts w (List.mem_cons_of_mem _ h)
  have hown : s.vm.findClass R_K = some m.cls := findClass_of_methodNamed B.named
  have hlocks := B.notSynchronized
  subst hsz
  obtain ⟨A, hAe⟩ : ∃ A, A = gA E KK s.heap.size := ⟨_, rfl⟩
  rw [← hAe] at hD hX ⊢
  have hV : gV E KK A s0 s s.heap [] := ⟨hP, hD, va_S.rf⟩
  have hl := lv_entry ([.ref (ea E 0 0), .ref (ea E 1 p1)] : List Value) (n := 4) (Nat.le_of_ble_eq_true rfl)
  rw [lg_entry_eq]
  generalize (lg_sl ([.ref (ea E 0 0), .ref (ea E 1 p1)] : List Value) ++ List.replicate (4 - (lg_sl ([.ref (ea E 0 0), .ref (ea E 1 p1)] : List Value)).length) Slot.unset).toArray = ls at hl ⊢
  have hl : lv_has ls 4 [(0, .ref (ea E 0 0)), (1, .ref (ea E 1 p1))] := hl
  have L22 : ∀ (n : Nat), ∀ (ls : Array Slot) (H : Heap) (locs : List Loc) (s0 : KS) (b2 : Nat) (hb2 : b2 < 16) (v3 : Int32), lv_has ls 4 [(0, .ref (ea E 0 0)), (1, .ref (ea E 1 p1)), (2, .ref (ea E 1 b2)), (3, .int v3)] → gV E KK A s0 s H locs → w_K_fork_22 (eN E) p1 Φ n b2 v3 s0 → W p l e m_K_fork s m ([.ref (ea E 0 0), .ref (ea E 1 p1)] : List Value).toArray below meth c H locs 0 0 (MQ below (gQv E KK A Φ) ([.ref (ea E 0 0), .ref (ea E 1 p1)] : List Value).toArray s 0 0 A) (F0 m 22 ls []) := by
    intro n
    induction n with
    | zero =>
      intro ls H locs s0 b2 hb2 v3 hl hV hw
      exact False.elim hw
    | succ n ih =>
      intro ls H locs s0 b2 hb2 v3 hl hV hw
      unfold w_K_fork_22 at hw
      refine lv_iload_n hx hb d_K_fork_22 rfl (lv_at hl 3 rfl) ?_
      refine lv_bipush (v := 8) hx hb d_K_fork_23 (by decide) ?_
      refine lv_icmp_ge (tgt := 44) hx hb d_K_fork_25 rfl (fun hc => ?_) (fun hc => ?_)
      · have hw := hw.1 hc
        refine lv_aload_n hx hb d_K_fork_44 rfl (lv_at hl 1 rfl) ?_
        refine lv_aload_n hx hb d_K_fork_45 rfl (lv_at hl 2 rfl) ?_
        refine kg_K_P_number hx hb hG hown hK hV hb2 d_K_fork_46 ?_
        refine kc_K_P_push hx hb hml hown hts hV hK hX hAe (c_P_push l E s0 p1 hp1 (s0 1 b2 0) _ hw) hp1 hl.1 (Nat.le_of_ble_eq_true rfl) d_K_fork_49 (Nat.le_of_ble_eq_true rfl) (Nat.le_of_ble_eq_true rfl) (fun s1 H locs hw hV => ?_)
        refine lv_aload_n hx hb d_K_fork_52 rfl (lv_at hl 2 rfl) ?_
        refine lv_iconst (v := 0) hx hb d_K_fork_53 (by decide) ?_
        refine kc_K_P_push hx hb hml hown hts hV hK hX hAe (c_P_push l E s1 b2 hb2 (0 : Int32) _ hw) hb2 hl.1 (Nat.le_of_ble_eq_true rfl) d_K_fork_54 (Nat.le_of_ble_eq_true rfl) (Nat.le_of_ble_eq_true rfl) (fun s2 H locs hw hV => ?_)
        refine lv_aload_n hx hb d_K_fork_57 rfl (lv_at hl 0 rfl) ?_
        refine lv_aload_n hx hb d_K_fork_58 rfl (lv_at hl 2 rfl) ?_
        refine kc_K_K_makeReady hx hb hml hown hts hV hK hX hAe (c_K_makeReady l E s2 b2 hb2 _ hw) hl.1 (Nat.le_of_ble_eq_true rfl) d_K_fork_59 (Nat.le_of_ble_eq_true rfl) (Nat.le_of_ble_eq_true rfl) (fun s3 H locs hw hV => ?_)
        exact kr_v hx hb hr hV hK hX hAe hw d_K_fork_62
      · have hw := hw.2 hc
        refine lv_aload_n hx hb d_K_fork_28 rfl (lv_at hl 0 rfl) ?_
        refine lv_aload_n hx hb d_K_fork_29 rfl (lv_at hl 2 rfl) ?_
        refine kg_K_P_descriptors hx hb hG hown hK hV hb2 d_K_fork_30 ?_
        refine lv_iload_n hx hb d_K_fork_33 rfl (lv_at hl 3 rfl) ?_
        refine kl_4 hx hb hK hV hb2 hw.1 d_K_fork_34 ?_
        have hw := hw.2
        refine kc_K_K_addEnd hx hb hml hown hts hV hK hX hAe (c_K_addEnd l E s0 (s0 4 b2 v3.toNatClampNeg) _ hw) hl.1 (Nat.le_of_ble_eq_true rfl) d_K_fork_35 (Nat.le_of_ble_eq_true rfl) (Nat.le_of_ble_eq_true rfl) (fun s4 H locs hw hV => ?_)
        obtain ⟨y5, ey5⟩ : ∃ z : Int32, z = v3 + (1 : Int32) := ⟨_, rfl⟩
        have hw := hw y5 ey5
        refine lv_iinc (k := 3) (v := y5) (lv' := [(3, .int y5), (0, .ref (ea E 0 0)), (1, .ref (ea E 1 p1)), (2, .ref (ea E 1 b2))]) hx hb d_K_fork_38 hl rfl (by rw [ey5]; rfl) (by decide) rfl (fun ls hl => ?_)
        refine lv_goto (tgt := 22) hx hb d_K_fork_41 rfl ?_
        exact ih _ _ _ s4 b2 hb2 y5 (lv_sub hl [1, 2, 3, 0] rfl) hV hw
  unfold w_K_fork at hw
  refine lv_aload_n hx hb d_K_fork_0 rfl (lv_at hl 0 rfl) ?_
  refine kc_K_K_freeProc hx hb hml hown hts hV hK hX hAe (c_K_freeProc l E s0 _ hw) hl.1 (Nat.le_of_ble_eq_true rfl) d_K_fork_1 (Nat.le_of_ble_eq_true rfl) (Nat.le_of_ble_eq_true rfl) (fun o2 s1 H locs ho2 hw hV => ?_)
  rcases o2 with _ | z3
  · have hw := hw.1 rfl
    have hl : lv_has ls 4 [(0, .ref (ea E 0 0)), (1, .ref (ea E 1 p1))] := hl
    show W _ _ _ _ _ _ _ _ _ _ _ _ _ _ _ (F0 m 4 ls [.null])
    refine lv_astore_nN (lv' := [(2, .null), (0, .ref (ea E 0 0)), (1, .ref (ea E 1 p1))]) hx hb d_K_fork_4 rfl hl (by decide) rfl (fun ls hl => ?_)
    refine lv_aload_nN hx hb d_K_fork_5 rfl (lv_at hl 0 rfl) ?_
    refine lv_ifnonnullN hx hb d_K_fork_6 ?_
    refine lv_aload_n hx hb d_K_fork_9 rfl (lv_at hl 2 rfl) ?_
    refine lv_iconst (v := -1) hx hb d_K_fork_10 (by decide) ?_
    refine kc_K_P_push hx hb hml hown hts hV hK hX hAe (c_P_push l E s1 p1 hp1 (-1 : Int32) _ hw) hp1 hl.1 (Nat.le_of_ble_eq_true rfl) d_K_fork_11 (Nat.le_of_ble_eq_true rfl) (Nat.le_of_ble_eq_true rfl) (fun s4 H locs hw hV => ?_)
    exact kr_v hx hb hr hV hK hX hAe hw d_K_fork_14
  · have hw := hw.2 z3 rfl
    have hl : lv_has ls 4 [(0, .ref (ea E 0 0)), (1, .ref (ea E 1 p1))] := hl
    show W _ _ _ _ _ _ _ _ _ _ _ _ _ _ _ (F0 m 4 ls [.ref (ea E 1 z3)])
    refine lv_astore_n (lv' := [(2, .ref (ea E 1 z3)), (0, .ref (ea E 0 0)), (1, .ref (ea E 1 p1))]) hx hb d_K_fork_4 rfl hl (by decide) rfl (fun ls hl => ?_)
    refine lv_aload_n hx hb d_K_fork_5 rfl (lv_at hl 0 rfl) ?_
    refine lv_ifnonnull (tgt := 15) hx hb d_K_fork_6 rfl ?_
    refine lv_aload_n hx hb d_K_fork_15 rfl (lv_at hl 0 rfl) ?_
    refine lv_aload_n hx hb d_K_fork_16 rfl (lv_at hl 2 rfl) ?_
    refine kc_K_P_copy hx hb hml hown hts hV hK hX hAe (c_P_copy l E s1 z3 (ho2 z3 rfl) p1 hp1 _ hw) (ho2 z3 rfl) hl.1 (Nat.le_of_ble_eq_true rfl) d_K_fork_17 (Nat.le_of_ble_eq_true rfl) (Nat.le_of_ble_eq_true rfl) (fun s5 H locs hw hV => ?_)
    refine lv_iconst (v := 0) hx hb d_K_fork_20 (by decide) ?_
    refine lv_istore_n (lv' := [(3, .int (0 : Int32)), (2, .ref (ea E 1 z3)), (0, .ref (ea E 0 0)), (1, .ref (ea E 1 p1))]) hx hb d_K_fork_21 rfl hl (by decide) rfl (fun ls hl => ?_)
    obtain ⟨nn, hw⟩ := hw
    exact L22 nn _ _ _ s5 z3 (ho2 z3 rfl) (0 : Int32) (lv_sub hl [2, 3, 1, 0] rfl) hV hw
theorem d_K_isThere_0 : decode b_K_isThere 0 = .ok (.iload_n 1, 1) := by decide +kernel
theorem d_K_isThere_1 : decode b_K_isThere 1 = .ok (.ifCond .lt 25, 3) := by decide +kernel
theorem d_K_isThere_4 : decode b_K_isThere 4 = .ok (.iload_n 1, 1) := by decide +kernel
theorem d_K_isThere_5 : decode b_K_isThere 5 = .ok (.bipush 16, 2) := by decide +kernel
theorem d_K_isThere_7 : decode b_K_isThere 7 = .ok (.if_icmp .ge 19, 3) := by decide +kernel
theorem d_K_isThere_10 : decode b_K_isThere 10 = .ok (.aload_n 0, 1) := by decide +kernel
theorem d_K_isThere_11 : decode b_K_isThere 11 = .ok (.getfield 11, 3) := by decide +kernel
theorem d_K_isThere_14 : decode b_K_isThere 14 = .ok (.iload_n 1, 1) := by decide +kernel
theorem d_K_isThere_15 : decode b_K_isThere 15 = .ok (.aaload, 1) := by decide +kernel
theorem d_K_isThere_16 : decode b_K_isThere 16 = .ok (.getfield 127, 3) := by decide +kernel
theorem d_K_isThere_19 : decode b_K_isThere 19 = .ok (.ifCond .eq 7, 3) := by decide +kernel
theorem d_K_isThere_22 : decode b_K_isThere 22 = .ok (.iconst 1, 1) := by decide +kernel
theorem d_K_isThere_23 : decode b_K_isThere 23 = .ok (.goto 4, 3) := by decide +kernel
theorem d_K_isThere_26 : decode b_K_isThere 26 = .ok (.iconst 0, 1) := by decide +kernel
theorem d_K_isThere_27 : decode b_K_isThere 27 = .ok (.ireturn, 1) := by decide +kernel
def w_K_isThere (cp : Nat) (x1 : Int32) (s0 : KS) (Φ : Int32 → KS → Prop) : Prop := ((x1 < 0 → Φ (0 : Int32) s0) ∧ (¬ x1 < 0 → (((16 : Int32) ≤ x1 → Φ (0 : Int32) s0) ∧ (¬ (16 : Int32) ≤ x1 → vp_in x1 16 ∧ (((s0 1 x1.toNatClampNeg 7) = 0 → Φ (0 : Int32) s0) ∧ (¬ (s0 1 x1.toNatClampNeg 7) = 0 → Φ (1 : Int32) s0))))))
set_option maxHeartbeats 4000000 in
set_option maxRecDepth 100000 in
theorem c_K_isThere (l : Launch) (E : gE) (s0 : KS) (x1 : Int32) (Φ : Int32 → KS → Prop) (hw : w_K_isThere (eN E) x1 s0 Φ) : gMi l y_K_isThere v_K_isThere m_K_isThere E KK [.ref (ea E 0 0), .int x1] s0 Φ := by
  intro sz
  refine Met.ofW (cc := b_K_isThere) (maxL := 2) (ret := (some .boolean)) (by decide) rfl ?_
  intro p e s m args below meth c s₁ B hml hv
  obtain ⟨rfl, hsz, hP, hK, hD, hX⟩ := hv
  have hx := B.exec
  have hb := B.bytes
  have hr := B.returns
  have hts := atoms_spec (ws := v_K_isThere) B.pre
  have hG : ∀ w ∈ gG, w.before _ s = true := fun w h => hts w (List.mem_cons_of_mem _ h)
  have hown : s.vm.findClass R_K = some m.cls := findClass_of_methodNamed B.named
  have hlocks := B.notSynchronized
  subst hsz
  obtain ⟨A, hAe⟩ : ∃ A, A = gA E KK s.heap.size := ⟨_, rfl⟩
  rw [← hAe] at hD hX ⊢
  have hV : gV E KK A s0 s s.heap [] := ⟨hP, hD, va_S.rf⟩
  have hl := lv_entry ([.ref (ea E 0 0), .int x1] : List Value) (n := 2) (Nat.le_of_ble_eq_true rfl)
  rw [lg_entry_eq]
  generalize (lg_sl ([.ref (ea E 0 0), .int x1] : List Value) ++ List.replicate (2 - (lg_sl ([.ref (ea E 0 0), .int x1] : List Value)).length) Slot.unset).toArray = ls at hl ⊢
  have hl : lv_has ls 2 [(0, .ref (ea E 0 0)), (1, .int x1)] := hl
  unfold w_K_isThere at hw
  refine lv_iload_n hx hb d_K_isThere_0 rfl (lv_at hl 1 rfl) ?_
  refine lv_if_lt (tgt := 26) hx hb d_K_isThere_1 rfl (fun hc => ?_) (fun hc => ?_)
  · have hw := hw.1 hc
    refine lv_iconst (v := 0) hx hb d_K_isThere_26 (by decide) ?_
    exact kr_z hx hb hr hV hK hX hAe (by decide) hw d_K_isThere_27
  · have hw := hw.2 hc
    refine lv_iload_n hx hb d_K_isThere_4 rfl (lv_at hl 1 rfl) ?_
    refine lv_bipush (v := 16) hx hb d_K_isThere_5 (by decide) ?_
    refine lv_icmp_ge (tgt := 26) hx hb d_K_isThere_7 rfl (fun hc => ?_) (fun hc => ?_)
    · have hw := hw.1 hc
      refine lv_iconst (v := 0) hx hb d_K_isThere_26 (by decide) ?_
      exact kr_z hx hb hr hV hK hX hAe (by decide) hw d_K_isThere_27
    · have hw := hw.2 hc
      refine lv_aload_n hx hb d_K_isThere_10 rfl (lv_at hl 0 rfl) ?_
      refine kg_K_K_procs hx hb hG hown hK hV d_K_isThere_11 ?_
      refine lv_iload_n hx hb d_K_isThere_14 rfl (lv_at hl 1 rfl) ?_
      have hj1 := vp_lt hw.1
      refine kl_9 hx hb hK hV hw.1 d_K_isThere_15 ?_
      have hw := hw.2
      refine kg_K_P_state hx hb hG hown hK hV hj1 d_K_isThere_16 ?_
      refine lv_if_eq (tgt := 26) hx hb d_K_isThere_19 rfl (fun hc => ?_) (fun hc => ?_)
      · have hw := hw.1 hc
        refine lv_iconst (v := 0) hx hb d_K_isThere_26 (by decide) ?_
        exact kr_z hx hb hr hV hK hX hAe (by decide) hw d_K_isThere_27
      · have hw := hw.2 hc
        refine lv_iconst (v := 1) hx hb d_K_isThere_22 (by decide) ?_
        refine lv_goto (tgt := 27) hx hb d_K_isThere_23 rfl ?_
        exact kr_z hx hb hr hV hK hX hAe (by decide) hw d_K_isThere_27
theorem d_K_kill_0 : decode b_K_kill 0 = .ok (.aload_n 1, 1) := by decide +kernel
theorem d_K_kill_1 : decode b_K_kill 1 = .ok (.invokevirtual 253, 3) := by decide +kernel
theorem d_K_kill_4 : decode b_K_kill 4 = .ok (.istore_n 2, 1) := by decide +kernel
theorem d_K_kill_5 : decode b_K_kill 5 = .ok (.aload_n 0, 1) := by decide +kernel
theorem d_K_kill_6 : decode b_K_kill 6 = .ok (.iload_n 2, 1) := by decide +kernel
theorem d_K_kill_7 : decode b_K_kill 7 = .ok (.invokevirtual 153, 3) := by decide +kernel
theorem d_K_kill_10 : decode b_K_kill 10 = .ok (.ifCond .eq 17, 3) := by decide +kernel
theorem d_K_kill_13 : decode b_K_kill 13 = .ok (.aload_n 0, 1) := by decide +kernel
theorem d_K_kill_14 : decode b_K_kill 14 = .ok (.getfield 11, 3) := by decide +kernel
theorem d_K_kill_17 : decode b_K_kill 17 = .ok (.iload_n 2, 1) := by decide +kernel
theorem d_K_kill_18 : decode b_K_kill 18 = .ok (.aaload, 1) := by decide +kernel
theorem d_K_kill_19 : decode b_K_kill 19 = .ok (.getfield 127, 3) := by decide +kernel
theorem d_K_kill_22 : decode b_K_kill 22 = .ok (.bipush 6, 2) := by decide +kernel
theorem d_K_kill_24 : decode b_K_kill 24 = .ok (.if_icmp .ne 9, 3) := by decide +kernel
theorem d_K_kill_27 : decode b_K_kill 27 = .ok (.aload_n 1, 1) := by decide +kernel
theorem d_K_kill_28 : decode b_K_kill 28 = .ok (.iconst (-1), 1) := by decide +kernel
theorem d_K_kill_29 : decode b_K_kill 29 = .ok (.invokevirtual 259, 3) := by decide +kernel
theorem d_K_kill_32 : decode b_K_kill 32 = .ok (.return_, 1) := by decide +kernel
theorem d_K_kill_33 : decode b_K_kill 33 = .ok (.iload_n 2, 1) := by decide +kernel
theorem d_K_kill_34 : decode b_K_kill 34 = .ok (.aload_n 1, 1) := by decide +kernel
theorem d_K_kill_35 : decode b_K_kill 35 = .ok (.getfield 256, 3) := by decide +kernel
theorem d_K_kill_38 : decode b_K_kill 38 = .ok (.if_icmp .eq 8, 3) := by decide +kernel
theorem d_K_kill_41 : decode b_K_kill 41 = .ok (.aload_n 1, 1) := by decide +kernel
theorem d_K_kill_42 : decode b_K_kill 42 = .ok (.iconst 0, 1) := by decide +kernel
theorem d_K_kill_43 : decode b_K_kill 43 = .ok (.invokevirtual 259, 3) := by decide +kernel
theorem d_K_kill_46 : decode b_K_kill 46 = .ok (.aload_n 0, 1) := by decide +kernel
theorem d_K_kill_47 : decode b_K_kill 47 = .ok (.aload_n 0, 1) := by decide +kernel
theorem d_K_kill_48 : decode b_K_kill 48 = .ok (.getfield 11, 3) := by decide +kernel
theorem d_K_kill_51 : decode b_K_kill 51 = .ok (.iload_n 2, 1) := by decide +kernel
theorem d_K_kill_52 : decode b_K_kill 52 = .ok (.aaload, 1) := by decide +kernel
theorem d_K_kill_53 : decode b_K_kill 53 = .ok (.bipush (-9), 2) := by decide +kernel
theorem d_K_kill_55 : decode b_K_kill 55 = .ok (.invokevirtual 187, 3) := by decide +kernel
theorem d_K_kill_58 : decode b_K_kill 58 = .ok (.return_, 1) := by decide +kernel
def w_K_kill_46 (cp : Nat) (p1 : Nat) (Φ : KS → Prop) (v2 : Int32) (s0 : KS) : Prop := vp_in v2 16 ∧ w_K_end cp v2.toNatClampNeg (-9 : Int32) s0 (fun s2 => Φ s2)
def w_K_kill_27 (cp : Nat) (p1 : Nat) (Φ : KS → Prop) (s0 : KS) : Prop := w_P_push cp p1 (-1 : Int32) s0 (fun s1 => Φ s1)
def w_K_kill (cp : Nat) (p1 : Nat) (s0 : KS) (Φ : KS → Prop) : Prop := w_P_pop cp p1 s0 (fun r2 s1 => w_K_isThere cp r2 s1 (fun r4 s3 => ((r4 = 0 → w_K_kill_27 cp p1 Φ s3) ∧ (¬ r4 = 0 → vp_in r2 16 ∧ ((¬ (s3 1 r2.toNatClampNeg 7) = (6 : Int32) → ((r2 = (s3 1 p1 0) → w_K_kill_46 cp p1 Φ r2 s3) ∧ (¬ r2 = (s3 1 p1 0) → w_P_push cp p1 (0 : Int32) s3 (fun s6 => w_K_kill_46 cp p1 Φ r2 s6)))) ∧ ((s3 1 r2.toNatClampNeg 7) = (6 : Int32) → w_K_kill_27 cp p1 Φ s3))))))
set_option maxHeartbeats 4000000 in
set_option maxRecDepth 100000 in
theorem c_K_kill (l : Launch) (E : gE) (s0 : KS) (p1 : Nat) (hp1 : p1 < 16) (Φ : KS → Prop) (hw : w_K_kill (eN E) p1 s0 Φ) : gMv l y_K_kill v_K_kill m_K_kill E KK [.ref (ea E 0 0), .ref (ea E 1 p1)] s0 Φ := by
  intro sz
  refine Met.ofW (cc := b_K_kill) (maxL := 3) (ret := none) (by decide) rfl ?_
  intro p e s m args below meth c s₁ B hml hv
  obtain ⟨rfl, hsz, hP, hK, hD, hX⟩ := hv
  have hx := B.exec
  have hb := B.bytes
  have hr := B.returns
  have hts := atoms_spec (ws := v_K_kill) B.pre
  have hG : ∀ w ∈ gG, w.before _ s = true := fun w h => hts w (List.mem_cons_of_mem _ h)
  have hown : s.vm.findClass R_K = some m.cls := findClass_of_methodNamed B.named
  have hlocks := B.notSynchronized
  subst hsz
  obtain ⟨A, hAe⟩ : ∃ A, A = gA E KK s.heap.size := ⟨_, rfl⟩
  rw [← hAe] at hD hX ⊢
  have hV : gV E KK A s0 s s.heap [] := ⟨hP, hD, va_S.rf⟩
  have hl := lv_entry ([.ref (ea E 0 0), .ref (ea E 1 p1)] : List Value) (n := 3) (Nat.le_of_ble_eq_true rfl)
  rw [lg_entry_eq]
  generalize (lg_sl ([.ref (ea E 0 0), .ref (ea E 1 p1)] : List Value) ++ List.replicate (3 - (lg_sl ([.ref (ea E 0 0), .ref (ea E 1 p1)] : List Value)).length) Slot.unset).toArray = ls at hl ⊢
  have hl : lv_has ls 3 [(0, .ref (ea E 0 0)), (1, .ref (ea E 1 p1))] := hl
  have J46 : ∀ (ls : Array Slot) (H : Heap) (locs : List Loc) (s0 : KS) (v2 : Int32), lv_has ls 3 [(0, .ref (ea E 0 0)), (2, .int v2)] → gV E KK A s0 s H locs → w_K_kill_46 (eN E) p1 Φ v2 s0 → W p l e m_K_kill s m ([.ref (ea E 0 0), .ref (ea E 1 p1)] : List Value).toArray below meth c H locs 0 0 (MQ below (gQv E KK A Φ) ([.ref (ea E 0 0), .ref (ea E 1 p1)] : List Value).toArray s 0 0 A) (F0 m 46 ls []) := by
    intro  ls H locs s0 v2 hl hV hw
    unfold w_K_kill_46 at hw
    refine lv_aload_n hx hb d_K_kill_46 rfl (lv_at hl 0 rfl) ?_
    refine lv_aload_n hx hb d_K_kill_47 rfl (lv_at hl 0 rfl) ?_
    refine kg_K_K_procs hx hb hG hown hK hV d_K_kill_48 ?_
    refine lv_iload_n hx hb d_K_kill_51 rfl (lv_at hl 1 rfl) ?_
    have hj1 := vp_lt hw.1
    refine kl_9 hx hb hK hV hw.1 d_K_kill_52 ?_
    have hw := hw.2
    refine lv_bipush (v := -9) hx hb d_K_kill_53 (by decide) ?_
    refine kc_K_K_end hx hb hml hown hts hV hK hX hAe (c_K_end l E s0 v2.toNatClampNeg hj1 (-9 : Int32) _ hw) hl.1 (Nat.le_of_ble_eq_true rfl) d_K_kill_55 (Nat.le_of_ble_eq_true rfl) (Nat.le_of_ble_eq_true rfl) (fun s2 H locs hw hV => ?_)
    exact kr_v hx hb hr hV hK hX hAe hw d_K_kill_58
  have J27 : ∀ (ls : Array Slot) (H : Heap) (locs : List Loc) (s0 : KS), lv_has ls 3 [(1, .ref (ea E 1 p1))] → gV E KK A s0 s H locs → w_K_kill_27 (eN E) p1 Φ s0 → W p l e m_K_kill s m ([.ref (ea E 0 0), .ref (ea E 1 p1)] : List Value).toArray below meth c H locs 0 0 (MQ below (gQv E KK A Φ) ([.ref (ea E 0 0), .ref (ea E 1 p1)] : List Value).toArray s 0 0 A) (F0 m 27 ls []) := by
    intro  ls H locs s0 hl hV hw
    unfold w_K_kill_27 at hw
    refine lv_aload_n hx hb d_K_kill_27 rfl (lv_at hl 0 rfl) ?_
    refine lv_iconst (v := -1) hx hb d_K_kill_28 (by decide) ?_
    refine kc_K_P_push hx hb hml hown hts hV hK hX hAe (c_P_push l E s0 p1 hp1 (-1 : Int32) _ hw) hp1 hl.1 (Nat.le_of_ble_eq_true rfl) d_K_kill_29 (Nat.le_of_ble_eq_true rfl) (Nat.le_of_ble_eq_true rfl) (fun s1 H locs hw hV => ?_)
    exact kr_v hx hb hr hV hK hX hAe hw d_K_kill_32
  unfold w_K_kill at hw
  refine lv_aload_n hx hb d_K_kill_0 rfl (lv_at hl 1 rfl) ?_
  refine kc_K_P_pop hx hb hml hown hts hV hK hX hAe (c_P_pop l E s0 p1 hp1 _ hw) hp1 hl.1 (Nat.le_of_ble_eq_true rfl) d_K_kill_1 (Nat.le_of_ble_eq_true rfl) (Nat.le_of_ble_eq_true rfl) (fun r2 s1 H locs hw hV => ?_)
  refine lv_istore_n (lv' := [(2, .int r2), (0, .ref (ea E 0 0)), (1, .ref (ea E 1 p1))]) hx hb d_K_kill_4 rfl hl (by decide) rfl (fun ls hl => ?_)
  refine lv_aload_n hx hb d_K_kill_5 rfl (lv_at hl 1 rfl) ?_
  refine lv_iload_n hx hb d_K_kill_6 rfl (lv_at hl 0 rfl) ?_
  refine kc_K_K_isThere hx hb hml hown hts hV hK hX hAe (c_K_isThere l E s1 r2 _ hw) hl.1 (Nat.le_of_ble_eq_true rfl) d_K_kill_7 (Nat.le_of_ble_eq_true rfl) (Nat.le_of_ble_eq_true rfl) (fun r4 s3 H locs hw hV => ?_)
  refine lv_if_eq (tgt := 27) hx hb d_K_kill_10 rfl (fun hc => ?_) (fun hc => ?_)
  · have hw := hw.1 hc
    exact J27 _ _ _ s3 (lv_sub hl [2] rfl) hV hw
  · have hw := hw.2 hc
    refine lv_aload_n hx hb d_K_kill_13 rfl (lv_at hl 1 rfl) ?_
    refine kg_K_K_procs hx hb hG hown hK hV d_K_kill_14 ?_
    refine lv_iload_n hx hb d_K_kill_17 rfl (lv_at hl 0 rfl) ?_
    have hj5 := vp_lt hw.1
    refine kl_9 hx hb hK hV hw.1 d_K_kill_18 ?_
    have hw := hw.2
    refine kg_K_P_state hx hb hG hown hK hV hj5 d_K_kill_19 ?_
    refine lv_bipush (v := 6) hx hb d_K_kill_22 (by decide) ?_
    refine lv_icmp_ne (tgt := 33) hx hb d_K_kill_24 rfl (fun hc => ?_) (fun hc => ?_)
    · have hw := hw.1 hc
      refine lv_iload_n hx hb d_K_kill_33 rfl (lv_at hl 0 rfl) ?_
      refine lv_aload_n hx hb d_K_kill_34 rfl (lv_at hl 2 rfl) ?_
      refine kg_K_P_number hx hb hG hown hK hV hp1 d_K_kill_35 ?_
      refine lv_icmp_eq (tgt := 46) hx hb d_K_kill_38 rfl (fun hc => ?_) (fun hc => ?_)
      · have hw := hw.1 hc
        exact J46 _ _ _ s3 r2 (lv_sub hl [1, 0] rfl) hV hw
      · have hw := hw.2 hc
        refine lv_aload_n hx hb d_K_kill_41 rfl (lv_at hl 2 rfl) ?_
        refine lv_iconst (v := 0) hx hb d_K_kill_42 (by decide) ?_
        refine kc_K_P_push hx hb hml hown hts hV hK hX hAe (c_P_push l E s3 p1 hp1 (0 : Int32) _ hw) hp1 hl.1 (Nat.le_of_ble_eq_true rfl) d_K_kill_43 (Nat.le_of_ble_eq_true rfl) (Nat.le_of_ble_eq_true rfl) (fun s6 H locs hw hV => ?_)
        exact J46 _ _ _ s6 r2 (lv_sub hl [1, 0] rfl) hV hw
    · have hw := hw.2 hc
      exact J27 _ _ _ s3 (lv_sub hl [2] rfl) hV hw
theorem d_K_freePipe_0 : decode b_K_freePipe 0 = .ok (.iconst 0, 1) := by decide +kernel
theorem d_K_freePipe_1 : decode b_K_freePipe 1 = .ok (.istore_n 1, 1) := by decide +kernel
theorem d_K_freePipe_2 : decode b_K_freePipe 2 = .ok (.iload_n 1, 1) := by decide +kernel
theorem d_K_freePipe_3 : decode b_K_freePipe 3 = .ok (.bipush 8, 2) := by decide +kernel
theorem d_K_freePipe_5 : decode b_K_freePipe 5 = .ok (.if_icmp .ge 35, 3) := by decide +kernel
theorem d_K_freePipe_8 : decode b_K_freePipe 8 = .ok (.aload_n 0, 1) := by decide +kernel
theorem d_K_freePipe_9 : decode b_K_freePipe 9 = .ok (.getfield 21, 3) := by decide +kernel
theorem d_K_freePipe_12 : decode b_K_freePipe 12 = .ok (.bipush 10, 2) := by decide +kernel
theorem d_K_freePipe_14 : decode b_K_freePipe 14 = .ok (.iload_n 1, 1) := by decide +kernel
theorem d_K_freePipe_15 : decode b_K_freePipe 15 = .ok (.iadd, 1) := by decide +kernel
theorem d_K_freePipe_16 : decode b_K_freePipe 16 = .ok (.iaload, 1) := by decide +kernel
theorem d_K_freePipe_17 : decode b_K_freePipe 17 = .ok (.ifCond .ne 17, 3) := by decide +kernel
theorem d_K_freePipe_20 : decode b_K_freePipe 20 = .ok (.aload_n 0, 1) := by decide +kernel
theorem d_K_freePipe_21 : decode b_K_freePipe 21 = .ok (.getfield 21, 3) := by decide +kernel
theorem d_K_freePipe_24 : decode b_K_freePipe 24 = .ok (.bipush 20, 2) := by decide +kernel
theorem d_K_freePipe_26 : decode b_K_freePipe 26 = .ok (.iload_n 1, 1) := by decide +kernel
theorem d_K_freePipe_27 : decode b_K_freePipe 27 = .ok (.iadd, 1) := by decide +kernel
theorem d_K_freePipe_28 : decode b_K_freePipe 28 = .ok (.iaload, 1) := by decide +kernel
theorem d_K_freePipe_29 : decode b_K_freePipe 29 = .ok (.ifCond .ne 5, 3) := by decide +kernel
theorem d_K_freePipe_32 : decode b_K_freePipe 32 = .ok (.iload_n 1, 1) := by decide +kernel
theorem d_K_freePipe_33 : decode b_K_freePipe 33 = .ok (.ireturn, 1) := by decide +kernel
theorem d_K_freePipe_34 : decode b_K_freePipe 34 = .ok (.iinc 1 1, 3) := by decide +kernel
theorem d_K_freePipe_37 : decode b_K_freePipe 37 = .ok (.goto (-35), 3) := by decide +kernel
theorem d_K_freePipe_40 : decode b_K_freePipe 40 = .ok (.iconst (-1), 1) := by decide +kernel
theorem d_K_freePipe_41 : decode b_K_freePipe 41 = .ok (.ireturn, 1) := by decide +kernel
def w_K_freePipe_2 (cp : Nat) (Φ : Int32 → KS → Prop) : Nat → Int32 → KS → Prop
  | 0, _, _ => False
  | n + 1, v1, s0 => (((8 : Int32) ≤ v1 → Φ (-1 : Int32) s0) ∧ (¬ (8 : Int32) ≤ v1 → vp_in ((10 : Int32) + v1) 28 ∧ ((¬ (s0 7 0 ((10 : Int32) + v1).toNatClampNeg) = 0 → ∀ y1 : Int32, y1 = v1 + (1 : Int32) → w_K_freePipe_2 cp Φ n y1 s0) ∧ ((s0 7 0 ((10 : Int32) + v1).toNatClampNeg) = 0 → vp_in ((20 : Int32) + v1) 28 ∧ ((¬ (s0 7 0 ((20 : Int32) + v1).toNatClampNeg) = 0 → ∀ y2 : Int32, y2 = v1 + (1 : Int32) → w_K_freePipe_2 cp Φ n y2 s0) ∧ ((s0 7 0 ((20 : Int32) + v1).toNatClampNeg) = 0 → Φ v1 s0))))))
def w_K_freePipe (cp : Nat) (s0 : KS) (Φ : Int32 → KS → Prop) : Prop := ∃ nn : Nat, w_K_freePipe_2 cp Φ nn (0 : Int32) s0
set_option maxHeartbeats 4000000 in
set_option maxRecDepth 100000 in
theorem c_K_freePipe (l : Launch) (E : gE) (s0 : KS)  (Φ : Int32 → KS → Prop) (hw : w_K_freePipe (eN E) s0 Φ) : gMi l y_K_freePipe v_K_freePipe m_K_freePipe E KK [.ref (ea E 0 0)] s0 Φ := by
  intro sz
  refine Met.ofW (cc := b_K_freePipe) (maxL := 2) (ret := (some .int)) (by decide) rfl ?_
  intro p e s m args below meth c s₁ B hml hv
  obtain ⟨rfl, hsz, hP, hK, hD, hX⟩ := hv
  have hx := B.exec
  have hb := B.bytes
  have hr := B.returns
  have hts := atoms_spec (ws := v_K_freePipe) B.pre
  have hG : ∀ w ∈ gG, w.before _ s = true := fun w h => hts w (List.mem_cons_of_mem _ h)
  have hown : s.vm.findClass R_K = some m.cls := findClass_of_methodNamed B.named
  have hlocks := B.notSynchronized
  subst hsz
  obtain ⟨A, hAe⟩ : ∃ A, A = gA E KK s.heap.size := ⟨_, rfl⟩
  rw [← hAe] at hD hX ⊢
  have hV : gV E KK A s0 s s.heap [] := ⟨hP, hD, va_S.rf⟩
  have hl := lv_entry ([.ref (ea E 0 0)] : List Value) (n := 2) (Nat.le_of_ble_eq_true rfl)
  rw [lg_entry_eq]
  generalize (lg_sl ([.ref (ea E 0 0)] : List Value) ++ List.replicate (2 - (lg_sl ([.ref (ea E 0 0)] : List Value)).length) Slot.unset).toArray = ls at hl ⊢
  have hl : lv_has ls 2 [(0, .ref (ea E 0 0))] := hl
  have L2 : ∀ (n : Nat), ∀ (ls : Array Slot) (H : Heap) (locs : List Loc) (s0 : KS) (v1 : Int32), lv_has ls 2 [(0, .ref (ea E 0 0)), (1, .int v1)] → gV E KK A s0 s H locs → w_K_freePipe_2 (eN E) Φ n v1 s0 → W p l e m_K_freePipe s m ([.ref (ea E 0 0)] : List Value).toArray below meth c H locs 0 0 (MQ below (gQi E KK A Φ) ([.ref (ea E 0 0)] : List Value).toArray s 0 0 A) (F0 m 2 ls []) := by
    intro n
    induction n with
    | zero =>
      intro ls H locs s0 v1 hl hV hw
      exact False.elim hw
    | succ n ih =>
      intro ls H locs s0 v1 hl hV hw
      unfold w_K_freePipe_2 at hw
      refine lv_iload_n hx hb d_K_freePipe_2 rfl (lv_at hl 1 rfl) ?_
      refine lv_bipush (v := 8) hx hb d_K_freePipe_3 (by decide) ?_
      refine lv_icmp_ge (tgt := 40) hx hb d_K_freePipe_5 rfl (fun hc => ?_) (fun hc => ?_)
      · have hw := hw.1 hc
        refine lv_iconst (v := -1) hx hb d_K_freePipe_40 (by decide) ?_
        exact kr_i hx hb hr hV hK hX hAe hw d_K_freePipe_41
      · have hw := hw.2 hc
        refine lv_aload_n hx hb d_K_freePipe_8 rfl (lv_at hl 0 rfl) ?_
        refine kg_K_K_ends hx hb hG hown hK hV d_K_freePipe_9 ?_
        refine lv_bipush (v := 10) hx hb d_K_freePipe_12 (by decide) ?_
        refine lv_iload_n hx hb d_K_freePipe_14 rfl (lv_at hl 1 rfl) ?_
        refine lv_iadd hx hb d_K_freePipe_15 ?_
        refine kl_7 hx hb hK hV hw.1 d_K_freePipe_16 ?_
        have hw := hw.2
        refine lv_if_ne (tgt := 34) hx hb d_K_freePipe_17 rfl (fun hc => ?_) (fun hc => ?_)
        · have hw := hw.1 hc
          obtain ⟨y1, ey1⟩ : ∃ z : Int32, z = v1 + (1 : Int32) := ⟨_, rfl⟩
          have hw := hw y1 ey1
          refine lv_iinc (k := 1) (v := y1) (lv' := [(1, .int y1), (0, .ref (ea E 0 0))]) hx hb d_K_freePipe_34 hl rfl (by rw [ey1]; rfl) (by decide) rfl (fun ls hl => ?_)
          refine lv_goto (tgt := 2) hx hb d_K_freePipe_37 rfl ?_
          exact ih _ _ _ s0 y1 (lv_sub hl [1, 0] rfl) hV hw
        · have hw := hw.2 hc
          refine lv_aload_n hx hb d_K_freePipe_20 rfl (lv_at hl 0 rfl) ?_
          refine kg_K_K_ends hx hb hG hown hK hV d_K_freePipe_21 ?_
          refine lv_bipush (v := 20) hx hb d_K_freePipe_24 (by decide) ?_
          refine lv_iload_n hx hb d_K_freePipe_26 rfl (lv_at hl 1 rfl) ?_
          refine lv_iadd hx hb d_K_freePipe_27 ?_
          refine kl_7 hx hb hK hV hw.1 d_K_freePipe_28 ?_
          have hw := hw.2
          refine lv_if_ne (tgt := 34) hx hb d_K_freePipe_29 rfl (fun hc => ?_) (fun hc => ?_)
          · have hw := hw.1 hc
            obtain ⟨y2, ey2⟩ : ∃ z : Int32, z = v1 + (1 : Int32) := ⟨_, rfl⟩
            have hw := hw y2 ey2
            refine lv_iinc (k := 1) (v := y2) (lv' := [(1, .int y2), (0, .ref (ea E 0 0))]) hx hb d_K_freePipe_34 hl rfl (by rw [ey2]; rfl) (by decide) rfl (fun ls hl => ?_)
            refine lv_goto (tgt := 2) hx hb d_K_freePipe_37 rfl ?_
            exact ih _ _ _ s0 y2 (lv_sub hl [1, 0] rfl) hV hw
          · have hw := hw.2 hc
            refine lv_iload_n hx hb d_K_freePipe_32 rfl (lv_at hl 1 rfl) ?_
            exact kr_i hx hb hr hV hK hX hAe hw d_K_freePipe_33
  unfold w_K_freePipe at hw
  refine lv_iconst (v := 0) hx hb d_K_freePipe_0 (by decide) ?_
  refine lv_istore_n (lv' := [(1, .int (0 : Int32)), (0, .ref (ea E 0 0))]) hx hb d_K_freePipe_1 rfl hl (by decide) rfl (fun ls hl => ?_)
  obtain ⟨nn, hw⟩ := hw
  exact L2 nn _ _ _ s0 (0 : Int32) (lv_sub hl [1, 0] rfl) hV hw
theorem d_K_openPipe_0 : decode b_K_openPipe 0 = .ok (.aload_n 0, 1) := by decide +kernel
theorem d_K_openPipe_1 : decode b_K_openPipe 1 = .ok (.invokevirtual 319, 3) := by decide +kernel
theorem d_K_openPipe_4 : decode b_K_openPipe 4 = .ok (.istore_n 2, 1) := by decide +kernel
theorem d_K_openPipe_5 : decode b_K_openPipe 5 = .ok (.iload_n 2, 1) := by decide +kernel
theorem d_K_openPipe_6 : decode b_K_openPipe 6 = .ok (.iconst (-1), 1) := by decide +kernel
theorem d_K_openPipe_7 : decode b_K_openPipe 7 = .ok (.if_icmp .eq 11, 3) := by decide +kernel
theorem d_K_openPipe_10 : decode b_K_openPipe 10 = .ok (.aload_n 1, 1) := by decide +kernel
theorem d_K_openPipe_11 : decode b_K_openPipe 11 = .ok (.invokevirtual 322, 3) := by decide +kernel
theorem d_K_openPipe_14 : decode b_K_openPipe 14 = .ok (.iconst 2, 1) := by decide +kernel
theorem d_K_openPipe_15 : decode b_K_openPipe 15 = .ok (.if_icmp .ge 10, 3) := by decide +kernel
theorem d_K_openPipe_18 : decode b_K_openPipe 18 = .ok (.aload_n 1, 1) := by decide +kernel
theorem d_K_openPipe_19 : decode b_K_openPipe 19 = .ok (.iconst (-1), 1) := by decide +kernel
theorem d_K_openPipe_20 : decode b_K_openPipe 20 = .ok (.iconst (-1), 1) := by decide +kernel
theorem d_K_openPipe_21 : decode b_K_openPipe 21 = .ok (.invokevirtual 303, 3) := by decide +kernel
theorem d_K_openPipe_24 : decode b_K_openPipe 24 = .ok (.return_, 1) := by decide +kernel
theorem d_K_openPipe_25 : decode b_K_openPipe 25 = .ok (.aload_n 0, 1) := by decide +kernel
theorem d_K_openPipe_26 : decode b_K_openPipe 26 = .ok (.aload_n 1, 1) := by decide +kernel
theorem d_K_openPipe_27 : decode b_K_openPipe 27 = .ok (.bipush 10, 2) := by decide +kernel
theorem d_K_openPipe_29 : decode b_K_openPipe 29 = .ok (.iload_n 2, 1) := by decide +kernel
theorem d_K_openPipe_30 : decode b_K_openPipe 30 = .ok (.iadd, 1) := by decide +kernel
theorem d_K_openPipe_31 : decode b_K_openPipe 31 = .ok (.invokevirtual 325, 3) := by decide +kernel
theorem d_K_openPipe_34 : decode b_K_openPipe 34 = .ok (.istore_n 3, 1) := by decide +kernel
theorem d_K_openPipe_35 : decode b_K_openPipe 35 = .ok (.aload_n 0, 1) := by decide +kernel
theorem d_K_openPipe_36 : decode b_K_openPipe 36 = .ok (.aload_n 1, 1) := by decide +kernel
theorem d_K_openPipe_37 : decode b_K_openPipe 37 = .ok (.bipush 20, 2) := by decide +kernel
theorem d_K_openPipe_39 : decode b_K_openPipe 39 = .ok (.iload_n 2, 1) := by decide +kernel
theorem d_K_openPipe_40 : decode b_K_openPipe 40 = .ok (.iadd, 1) := by decide +kernel
theorem d_K_openPipe_41 : decode b_K_openPipe 41 = .ok (.invokevirtual 325, 3) := by decide +kernel
theorem d_K_openPipe_44 : decode b_K_openPipe 44 = .ok (.istore 4, 2) := by decide +kernel
theorem d_K_openPipe_46 : decode b_K_openPipe 46 = .ok (.aload_n 1, 1) := by decide +kernel
theorem d_K_openPipe_47 : decode b_K_openPipe 47 = .ok (.iload_n 3, 1) := by decide +kernel
theorem d_K_openPipe_48 : decode b_K_openPipe 48 = .ok (.iload 4, 2) := by decide +kernel
theorem d_K_openPipe_50 : decode b_K_openPipe 50 = .ok (.invokevirtual 303, 3) := by decide +kernel
theorem d_K_openPipe_53 : decode b_K_openPipe 53 = .ok (.return_, 1) := by decide +kernel
def w_K_openPipe_18 (cp : Nat) (p1 : Nat) (Φ : KS → Prop) (s0 : KS) : Prop := w_P_pushTwo cp p1 (-1 : Int32) (-1 : Int32) s0 (fun s1 => Φ s1)
def w_K_openPipe (cp : Nat) (p1 : Nat) (s0 : KS) (Φ : KS → Prop) : Prop := w_K_freePipe cp s0 (fun r2 s1 => ((r2 = (-1 : Int32) → w_K_openPipe_18 cp p1 Φ s1) ∧ (¬ r2 = (-1 : Int32) → w_P_countClosed cp p1 s1 (fun r4 s3 => (((2 : Int32) ≤ r4 → w_K_openDescriptor cp p1 ((10 : Int32) + r2) s3 (fun r6 s5 => w_K_openDescriptor cp p1 ((20 : Int32) + r2) s5 (fun r8 s7 => w_P_pushTwo cp p1 r6 r8 s7 (fun s9 => Φ s9)))) ∧ (¬ (2 : Int32) ≤ r4 → w_K_openPipe_18 cp p1 Φ s3))))))
set_option maxHeartbeats 4000000 in
set_option maxRecDepth 100000 in
theorem c_K_openPipe (l : Launch) (E : gE) (s0 : KS) (p1 : Nat) (hp1 : p1 < 16) (Φ : KS → Prop) (hw : w_K_openPipe (eN E) p1 s0 Φ) : gMv l y_K_openPipe v_K_openPipe m_K_openPipe E KK [.ref (ea E 0 0), .ref (ea E 1 p1)] s0 Φ := by
  intro sz
  refine Met.ofW (cc := b_K_openPipe) (maxL := 5) (ret := none) (by decide) rfl ?_
  intro p e s m args below meth c s₁ B hml hv
  obtain ⟨rfl, hsz, hP, hK, hD, hX⟩ := hv
  have hx := B.exec
  have hb := B.bytes
  have hr := B.returns
  have hts := atoms_spec (ws := v_K_openPipe) B.pre
  have hG : ∀ w ∈ gG, w.before _ s = true := fun w h => hts w (List.mem_cons_of_mem _ h)
  have hown : s.vm.findClass R_K = some m.cls := findClass_of_methodNamed B.named
  have hlocks := B.notSynchronized
  subst hsz
  obtain ⟨A, hAe⟩ : ∃ A, A = gA E KK s.heap.size := ⟨_, rfl⟩
  rw [← hAe] at hD hX ⊢
  have hV : gV E KK A s0 s s.heap [] := ⟨hP, hD, va_S.rf⟩
  have hl := lv_entry ([.ref (ea E 0 0), .ref (ea E 1 p1)] : List Value) (n := 5) (Nat.le_of_ble_eq_true rfl)
  rw [lg_entry_eq]
  generalize (lg_sl ([.ref (ea E 0 0), .ref (ea E 1 p1)] : List Value) ++ List.replicate (5 - (lg_sl ([.ref (ea E 0 0), .ref (ea E 1 p1)] : List Value)).length) Slot.unset).toArray = ls at hl ⊢
  have hl : lv_has ls 5 [(0, .ref (ea E 0 0)), (1, .ref (ea E 1 p1))] := hl
  have J18 : ∀ (ls : Array Slot) (H : Heap) (locs : List Loc) (s0 : KS), lv_has ls 5 [(1, .ref (ea E 1 p1))] → gV E KK A s0 s H locs → w_K_openPipe_18 (eN E) p1 Φ s0 → W p l e m_K_openPipe s m ([.ref (ea E 0 0), .ref (ea E 1 p1)] : List Value).toArray below meth c H locs 0 0 (MQ below (gQv E KK A Φ) ([.ref (ea E 0 0), .ref (ea E 1 p1)] : List Value).toArray s 0 0 A) (F0 m 18 ls []) := by
    intro  ls H locs s0 hl hV hw
    unfold w_K_openPipe_18 at hw
    refine lv_aload_n hx hb d_K_openPipe_18 rfl (lv_at hl 0 rfl) ?_
    refine lv_iconst (v := -1) hx hb d_K_openPipe_19 (by decide) ?_
    refine lv_iconst (v := -1) hx hb d_K_openPipe_20 (by decide) ?_
    refine kc_K_P_pushTwo hx hb hml hown hts hV hK hX hAe (c_P_pushTwo l E s0 p1 hp1 (-1 : Int32) (-1 : Int32) _ hw) hp1 hl.1 (Nat.le_of_ble_eq_true rfl) d_K_openPipe_21 (Nat.le_of_ble_eq_true rfl) (Nat.le_of_ble_eq_true rfl) (fun s1 H locs hw hV => ?_)
    exact kr_v hx hb hr hV hK hX hAe hw d_K_openPipe_24
  unfold w_K_openPipe at hw
  refine lv_aload_n hx hb d_K_openPipe_0 rfl (lv_at hl 0 rfl) ?_
  refine kc_K_K_freePipe hx hb hml hown hts hV hK hX hAe (c_K_freePipe l E s0 _ hw) hl.1 (Nat.le_of_ble_eq_true rfl) d_K_openPipe_1 (Nat.le_of_ble_eq_true rfl) (Nat.le_of_ble_eq_true rfl) (fun r2 s1 H locs hw hV => ?_)
  refine lv_istore_n (lv' := [(2, .int r2), (0, .ref (ea E 0 0)), (1, .ref (ea E 1 p1))]) hx hb d_K_openPipe_4 rfl hl (by decide) rfl (fun ls hl => ?_)
  refine lv_iload_n hx hb d_K_openPipe_5 rfl (lv_at hl 0 rfl) ?_
  refine lv_iconst (v := -1) hx hb d_K_openPipe_6 (by decide) ?_
  refine lv_icmp_eq (tgt := 18) hx hb d_K_openPipe_7 rfl (fun hc => ?_) (fun hc => ?_)
  · have hw := hw.1 hc
    exact J18 _ _ _ s1 (lv_sub hl [2] rfl) hV hw
  · have hw := hw.2 hc
    refine lv_aload_n hx hb d_K_openPipe_10 rfl (lv_at hl 2 rfl) ?_
    refine kc_K_P_countClosed hx hb hml hown hts hV hK hX hAe (c_P_countClosed l E s1 p1 hp1 _ hw) hp1 hl.1 (Nat.le_of_ble_eq_true rfl) d_K_openPipe_11 (Nat.le_of_ble_eq_true rfl) (Nat.le_of_ble_eq_true rfl) (fun r4 s3 H locs hw hV => ?_)
    refine lv_iconst (v := 2) hx hb d_K_openPipe_14 (by decide) ?_
    refine lv_icmp_ge (tgt := 25) hx hb d_K_openPipe_15 rfl (fun hc => ?_) (fun hc => ?_)
    · have hw := hw.1 hc
      refine lv_aload_n hx hb d_K_openPipe_25 rfl (lv_at hl 1 rfl) ?_
      refine lv_aload_n hx hb d_K_openPipe_26 rfl (lv_at hl 2 rfl) ?_
      refine lv_bipush (v := 10) hx hb d_K_openPipe_27 (by decide) ?_
      refine lv_iload_n hx hb d_K_openPipe_29 rfl (lv_at hl 0 rfl) ?_
      refine lv_iadd hx hb d_K_openPipe_30 ?_
      refine kc_K_K_openDescriptor hx hb hml hown hts hV hK hX hAe (c_K_openDescriptor l E s3 p1 hp1 ((10 : Int32) + r2) _ hw) hl.1 (Nat.le_of_ble_eq_true rfl) d_K_openPipe_31 (Nat.le_of_ble_eq_true rfl) (Nat.le_of_ble_eq_true rfl) (fun r6 s5 H locs hw hV => ?_)
      refine lv_istore_n (lv' := [(3, .int r6), (2, .int r2), (0, .ref (ea E 0 0)), (1, .ref (ea E 1 p1))]) hx hb d_K_openPipe_34 rfl hl (by decide) rfl (fun ls hl => ?_)
      refine lv_aload_n hx hb d_K_openPipe_35 rfl (lv_at hl 2 rfl) ?_
      refine lv_aload_n hx hb d_K_openPipe_36 rfl (lv_at hl 3 rfl) ?_
      refine lv_bipush (v := 20) hx hb d_K_openPipe_37 (by decide) ?_
      refine lv_iload_n hx hb d_K_openPipe_39 rfl (lv_at hl 1 rfl) ?_
      refine lv_iadd hx hb d_K_openPipe_40 ?_
      refine kc_K_K_openDescriptor hx hb hml hown hts hV hK hX hAe (c_K_openDescriptor l E s5 p1 hp1 ((20 : Int32) + r2) _ hw) hl.1 (Nat.le_of_ble_eq_true rfl) d_K_openPipe_41 (Nat.le_of_ble_eq_true rfl) (Nat.le_of_ble_eq_true rfl) (fun r8 s7 H locs hw hV => ?_)
      refine lv_istore (lv' := [(4, .int r8), (3, .int r6), (2, .int r2), (0, .ref (ea E 0 0)), (1, .ref (ea E 1 p1))]) hx hb d_K_openPipe_44 hl (by decide) rfl (fun ls hl => ?_)
      refine lv_aload_n hx hb d_K_openPipe_46 rfl (lv_at hl 4 rfl) ?_
      refine lv_iload_n hx hb d_K_openPipe_47 rfl (lv_at hl 1 rfl) ?_
      refine lv_iload hx hb d_K_openPipe_48 (lv_at hl 0 rfl) ?_
      refine kc_K_P_pushTwo hx hb hml hown hts hV hK hX hAe (c_P_pushTwo l E s7 p1 hp1 r6 r8 _ hw) hp1 hl.1 (Nat.le_of_ble_eq_true rfl) d_K_openPipe_50 (Nat.le_of_ble_eq_true rfl) (Nat.le_of_ble_eq_true rfl) (fun s9 H locs hw hV => ?_)
      exact kr_v hx hb hr hV hK hX hAe hw d_K_openPipe_53
    · have hw := hw.2 hc
      exact J18 _ _ _ s3 (lv_sub hl [2] rfl) hV hw
theorem d_K_pushNext_0 : decode b_K_pushNext 0 = .ok (.aload_n 2, 1) := by decide +kernel
theorem d_K_pushNext_1 : decode b_K_pushNext 1 = .ok (.invokevirtual 244, 3) := by decide +kernel
theorem d_K_pushNext_4 : decode b_K_pushNext 4 = .ok (.ifCond .eq 11, 3) := by decide +kernel
theorem d_K_pushNext_7 : decode b_K_pushNext 7 = .ok (.aload_n 1, 1) := by decide +kernel
theorem d_K_pushNext_8 : decode b_K_pushNext 8 = .ok (.iconst 0, 1) := by decide +kernel
theorem d_K_pushNext_9 : decode b_K_pushNext 9 = .ok (.iconst 0, 1) := by decide +kernel
theorem d_K_pushNext_10 : decode b_K_pushNext 10 = .ok (.invokevirtual 303, 3) := by decide +kernel
theorem d_K_pushNext_13 : decode b_K_pushNext 13 = .ok (.iconst 0, 1) := by decide +kernel
theorem d_K_pushNext_14 : decode b_K_pushNext 14 = .ok (.ireturn, 1) := by decide +kernel
theorem d_K_pushNext_15 : decode b_K_pushNext 15 = .ok (.aload_n 1, 1) := by decide +kernel
theorem d_K_pushNext_16 : decode b_K_pushNext 16 = .ok (.aload_n 2, 1) := by decide +kernel
theorem d_K_pushNext_17 : decode b_K_pushNext 17 = .ok (.invokevirtual 296, 3) := by decide +kernel
theorem d_K_pushNext_20 : decode b_K_pushNext 20 = .ok (.iconst 1, 1) := by decide +kernel
theorem d_K_pushNext_21 : decode b_K_pushNext 21 = .ok (.invokevirtual 303, 3) := by decide +kernel
theorem d_K_pushNext_24 : decode b_K_pushNext 24 = .ok (.iconst 1, 1) := by decide +kernel
theorem d_K_pushNext_25 : decode b_K_pushNext 25 = .ok (.ireturn, 1) := by decide +kernel
def w_K_pushNext (cp : Nat) (p1 : Nat) (q2 : Nat) (s0 : KS) (Φ : Int32 → KS → Prop) : Prop := w_W_isEmpty cp q2 s0 (fun r2 s1 => ((r2 = 0 → w_W_take cp q2 s1 (fun r4 s3 => w_P_pushTwo cp p1 r4 (1 : Int32) s3 (fun s5 => Φ (1 : Int32) s5))) ∧ (¬ r2 = 0 → w_P_pushTwo cp p1 (0 : Int32) (0 : Int32) s1 (fun s6 => Φ (0 : Int32) s6))))
set_option maxHeartbeats 4000000 in
set_option maxRecDepth 100000 in
theorem c_K_pushNext (l : Launch) (E : gE) (s0 : KS) (p1 : Nat) (hp1 : p1 < 16) (q2 : Nat) (hq2 : q2 < 10) (Φ : Int32 → KS → Prop) (hw : w_K_pushNext (eN E) p1 q2 s0 Φ) : gMi l y_K_pushNext v_K_pushNext m_K_pushNext E KK [.ref (ea E 0 0), .ref (ea E 1 p1), .ref (ea E 5 q2)] s0 Φ := by
  intro sz
  refine Met.ofW (cc := b_K_pushNext) (maxL := 3) (ret := (some .boolean)) (by decide) rfl ?_
  intro p e s m args below meth c s₁ B hml hv
  obtain ⟨rfl, hsz, hP, hK, hD, hX⟩ := hv
  have hx := B.exec
  have hb := B.bytes
  have hr := B.returns
  have hts := atoms_spec (ws := v_K_pushNext) B.pre
  have hG : ∀ w ∈ gG, w.before _ s = true := fun w h => hts w (List.mem_cons_of_mem _ h)
  have hown : s.vm.findClass R_K = some m.cls := findClass_of_methodNamed B.named
  have hlocks := B.notSynchronized
  subst hsz
  obtain ⟨A, hAe⟩ : ∃ A, A = gA E KK s.heap.size := ⟨_, rfl⟩
  rw [← hAe] at hD hX ⊢
  have hV : gV E KK A s0 s s.heap [] := ⟨hP, hD, va_S.rf⟩
  have hl := lv_entry ([.ref (ea E 0 0), .ref (ea E 1 p1), .ref (ea E 5 q2)] : List Value) (n := 3) (Nat.le_of_ble_eq_true rfl)
  rw [lg_entry_eq]
  generalize (lg_sl ([.ref (ea E 0 0), .ref (ea E 1 p1), .ref (ea E 5 q2)] : List Value) ++ List.replicate (3 - (lg_sl ([.ref (ea E 0 0), .ref (ea E 1 p1), .ref (ea E 5 q2)] : List Value)).length) Slot.unset).toArray = ls at hl ⊢
  have hl : lv_has ls 3 [(0, .ref (ea E 0 0)), (1, .ref (ea E 1 p1)), (2, .ref (ea E 5 q2))] := hl
  unfold w_K_pushNext at hw
  refine lv_aload_n hx hb d_K_pushNext_0 rfl (lv_at hl 2 rfl) ?_
  refine kc_K_W_isEmpty hx hb hml hown hts hV hK hX hAe (c_W_isEmpty l E s0 q2 hq2 _ hw) hq2 hl.1 (Nat.le_of_ble_eq_true rfl) d_K_pushNext_1 (Nat.le_of_ble_eq_true rfl) (Nat.le_of_ble_eq_true rfl) (fun r2 s1 H locs hw hV => ?_)
  refine lv_if_eq (tgt := 15) hx hb d_K_pushNext_4 rfl (fun hc => ?_) (fun hc => ?_)
  · have hw := hw.1 hc
    refine lv_aload_n hx hb d_K_pushNext_15 rfl (lv_at hl 1 rfl) ?_
    refine lv_aload_n hx hb d_K_pushNext_16 rfl (lv_at hl 2 rfl) ?_
    refine kc_K_W_take hx hb hml hown hts hV hK hX hAe (c_W_take l E s1 q2 hq2 _ hw) hq2 hl.1 (Nat.le_of_ble_eq_true rfl) d_K_pushNext_17 (Nat.le_of_ble_eq_true rfl) (Nat.le_of_ble_eq_true rfl) (fun r4 s3 H locs hw hV => ?_)
    refine lv_iconst (v := 1) hx hb d_K_pushNext_20 (by decide) ?_
    refine kc_K_P_pushTwo hx hb hml hown hts hV hK hX hAe (c_P_pushTwo l E s3 p1 hp1 r4 (1 : Int32) _ hw) hp1 hl.1 (Nat.le_of_ble_eq_true rfl) d_K_pushNext_21 (Nat.le_of_ble_eq_true rfl) (Nat.le_of_ble_eq_true rfl) (fun s5 H locs hw hV => ?_)
    refine lv_iconst (v := 1) hx hb d_K_pushNext_24 (by decide) ?_
    exact kr_z hx hb hr hV hK hX hAe (by decide) hw d_K_pushNext_25
  · have hw := hw.2 hc
    refine lv_aload_n hx hb d_K_pushNext_7 rfl (lv_at hl 1 rfl) ?_
    refine lv_iconst (v := 0) hx hb d_K_pushNext_8 (by decide) ?_
    refine lv_iconst (v := 0) hx hb d_K_pushNext_9 (by decide) ?_
    refine kc_K_P_pushTwo hx hb hml hown hts hV hK hX hAe (c_P_pushTwo l E s1 p1 hp1 (0 : Int32) (0 : Int32) _ hw) hp1 hl.1 (Nat.le_of_ble_eq_true rfl) d_K_pushNext_10 (Nat.le_of_ble_eq_true rfl) (Nat.le_of_ble_eq_true rfl) (fun s6 H locs hw hV => ?_)
    refine lv_iconst (v := 0) hx hb d_K_pushNext_13 (by decide) ?_
    exact kr_z hx hb hr hV hK hX hAe (by decide) hw d_K_pushNext_14
theorem d_K_wakeFirst_0 : decode b_K_wakeFirst 0 = .ok (.aload_n 0, 1) := by decide +kernel
theorem d_K_wakeFirst_1 : decode b_K_wakeFirst 1 = .ok (.iload_n 1, 1) := by decide +kernel
theorem d_K_wakeFirst_2 : decode b_K_wakeFirst 2 = .ok (.invokevirtual 342, 3) := by decide +kernel
theorem d_K_wakeFirst_5 : decode b_K_wakeFirst 5 = .ok (.astore_n 2, 1) := by decide +kernel
theorem d_K_wakeFirst_6 : decode b_K_wakeFirst 6 = .ok (.aload_n 2, 1) := by decide +kernel
theorem d_K_wakeFirst_7 : decode b_K_wakeFirst 7 = .ok (.ifnull 8, 3) := by decide +kernel
theorem d_K_wakeFirst_10 : decode b_K_wakeFirst 10 = .ok (.aload_n 0, 1) := by decide +kernel
theorem d_K_wakeFirst_11 : decode b_K_wakeFirst 11 = .ok (.aload_n 2, 1) := by decide +kernel
theorem d_K_wakeFirst_12 : decode b_K_wakeFirst 12 = .ok (.invokevirtual 92, 3) := by decide +kernel
theorem d_K_wakeFirst_15 : decode b_K_wakeFirst 15 = .ok (.return_, 1) := by decide +kernel
def w_K_wakeFirst (cp : Nat) (x1 : Int32) (s0 : KS) (Φ : KS → Prop) : Prop := w_K_longestWaiting cp x1 s0 (fun o2 s1 => ((o2 = none → Φ s1) ∧ (∀ z3 : Nat, o2 = some z3 → w_K_makeReady cp z3 s1 (fun s4 => Φ s4))))
set_option maxHeartbeats 4000000 in
set_option maxRecDepth 100000 in
theorem c_K_wakeFirst (l : Launch) (E : gE) (s0 : KS) (x1 : Int32) (Φ : KS → Prop) (hw : w_K_wakeFirst (eN E) x1 s0 Φ) : gMv l y_K_wakeFirst v_K_wakeFirst m_K_wakeFirst E KK [.ref (ea E 0 0), .int x1] s0 Φ := by
  intro sz
  refine Met.ofW (cc := b_K_wakeFirst) (maxL := 3) (ret := none) (by decide) rfl ?_
  intro p e s m args below meth c s₁ B hml hv
  obtain ⟨rfl, hsz, hP, hK, hD, hX⟩ := hv
  have hx := B.exec
  have hb := B.bytes
  have hr := B.returns
  have hts := atoms_spec (ws := v_K_wakeFirst) B.pre
  have hG : ∀ w ∈ gG, w.before _ s = true := fun w h => hts w (List.mem_cons_of_mem _ h)
  have hown : s.vm.findClass R_K = some m.cls := findClass_of_methodNamed B.named
  have hlocks := B.notSynchronized
  subst hsz
  obtain ⟨A, hAe⟩ : ∃ A, A = gA E KK s.heap.size := ⟨_, rfl⟩
  rw [← hAe] at hD hX ⊢
  have hV : gV E KK A s0 s s.heap [] := ⟨hP, hD, va_S.rf⟩
  have hl := lv_entry ([.ref (ea E 0 0), .int x1] : List Value) (n := 3) (Nat.le_of_ble_eq_true rfl)
  rw [lg_entry_eq]
  generalize (lg_sl ([.ref (ea E 0 0), .int x1] : List Value) ++ List.replicate (3 - (lg_sl ([.ref (ea E 0 0), .int x1] : List Value)).length) Slot.unset).toArray = ls at hl ⊢
  have hl : lv_has ls 3 [(0, .ref (ea E 0 0)), (1, .int x1)] := hl
  unfold w_K_wakeFirst at hw
  refine lv_aload_n hx hb d_K_wakeFirst_0 rfl (lv_at hl 0 rfl) ?_
  refine lv_iload_n hx hb d_K_wakeFirst_1 rfl (lv_at hl 1 rfl) ?_
  refine kc_K_K_longestWaiting hx hb hml hown hts hV hK hX hAe (c_K_longestWaiting l E s0 x1 _ hw) hl.1 (Nat.le_of_ble_eq_true rfl) d_K_wakeFirst_2 (Nat.le_of_ble_eq_true rfl) (Nat.le_of_ble_eq_true rfl) (fun o2 s1 H locs ho2 hw hV => ?_)
  rcases o2 with _ | z3
  · have hw := hw.1 rfl
    have hl : lv_has ls 3 [(0, .ref (ea E 0 0)), (1, .int x1)] := hl
    show W _ _ _ _ _ _ _ _ _ _ _ _ _ _ _ (F0 m 5 ls [.null])
    refine lv_astore_nN (lv' := [(2, .null), (0, .ref (ea E 0 0)), (1, .int x1)]) hx hb d_K_wakeFirst_5 rfl hl (by decide) rfl (fun ls hl => ?_)
    refine lv_aload_nN hx hb d_K_wakeFirst_6 rfl (lv_at hl 0 rfl) ?_
    refine lv_ifnullN (tgt := 15) hx hb d_K_wakeFirst_7 rfl ?_
    exact kr_v hx hb hr hV hK hX hAe hw d_K_wakeFirst_15
  · have hw := hw.2 z3 rfl
    have hl : lv_has ls 3 [(0, .ref (ea E 0 0)), (1, .int x1)] := hl
    show W _ _ _ _ _ _ _ _ _ _ _ _ _ _ _ (F0 m 5 ls [.ref (ea E 1 z3)])
    refine lv_astore_n (lv' := [(2, .ref (ea E 1 z3)), (0, .ref (ea E 0 0)), (1, .int x1)]) hx hb d_K_wakeFirst_5 rfl hl (by decide) rfl (fun ls hl => ?_)
    refine lv_aload_n hx hb d_K_wakeFirst_6 rfl (lv_at hl 0 rfl) ?_
    refine lv_ifnull hx hb d_K_wakeFirst_7 ?_
    refine lv_aload_n hx hb d_K_wakeFirst_10 rfl (lv_at hl 1 rfl) ?_
    refine lv_aload_n hx hb d_K_wakeFirst_11 rfl (lv_at hl 0 rfl) ?_
    refine kc_K_K_makeReady hx hb hml hown hts hV hK hX hAe (c_K_makeReady l E s1 z3 (ho2 z3 rfl) _ hw) hl.1 (Nat.le_of_ble_eq_true rfl) d_K_wakeFirst_12 (Nat.le_of_ble_eq_true rfl) (Nat.le_of_ble_eq_true rfl) (fun s4 H locs hw hV => ?_)
    exact kr_v hx hb hr hV hK hX hAe hw d_K_wakeFirst_15
theorem d_K_read_0 : decode b_K_read 0 = .ok (.aload_n 1, 1) := by decide +kernel
theorem d_K_read_1 : decode b_K_read 1 = .ok (.aload_n 1, 1) := by decide +kernel
theorem d_K_read_2 : decode b_K_read 2 = .ok (.invokevirtual 253, 3) := by decide +kernel
theorem d_K_read_5 : decode b_K_read 5 = .ok (.invokevirtual 213, 3) := by decide +kernel
theorem d_K_read_8 : decode b_K_read 8 = .ok (.istore_n 2, 1) := by decide +kernel
theorem d_K_read_9 : decode b_K_read 9 = .ok (.iload_n 2, 1) := by decide +kernel
theorem d_K_read_10 : decode b_K_read 10 = .ok (.iconst 1, 1) := by decide +kernel
theorem d_K_read_11 : decode b_K_read 11 = .ok (.if_icmp .ne 16, 3) := by decide +kernel
theorem d_K_read_14 : decode b_K_read 14 = .ok (.aload_n 0, 1) := by decide +kernel
theorem d_K_read_15 : decode b_K_read 15 = .ok (.aload_n 1, 1) := by decide +kernel
theorem d_K_read_16 : decode b_K_read 16 = .ok (.aload_n 0, 1) := by decide +kernel
theorem d_K_read_17 : decode b_K_read 17 = .ok (.getfield 48, 3) := by decide +kernel
theorem d_K_read_20 : decode b_K_read 20 = .ok (.invokevirtual 299, 3) := by decide +kernel
theorem d_K_read_23 : decode b_K_read 23 = .ok (.pop, 1) := by decide +kernel
theorem d_K_read_24 : decode b_K_read 24 = .ok (.goto 44, 3) := by decide +kernel
theorem d_K_read_27 : decode b_K_read 27 = .ok (.iload_n 2, 1) := by decide +kernel
theorem d_K_read_28 : decode b_K_read 28 = .ok (.invokestatic 247, 3) := by decide +kernel
theorem d_K_read_31 : decode b_K_read 31 = .ok (.ifCond .ne 12, 3) := by decide +kernel
theorem d_K_read_34 : decode b_K_read 34 = .ok (.aload_n 1, 1) := by decide +kernel
theorem d_K_read_35 : decode b_K_read 35 = .ok (.iconst 0, 1) := by decide +kernel
theorem d_K_read_36 : decode b_K_read 36 = .ok (.iconst (-1), 1) := by decide +kernel
theorem d_K_read_37 : decode b_K_read 37 = .ok (.invokevirtual 303, 3) := by decide +kernel
theorem d_K_read_40 : decode b_K_read 40 = .ok (.goto 28, 3) := by decide +kernel
theorem d_K_read_43 : decode b_K_read 43 = .ok (.aload_n 0, 1) := by decide +kernel
theorem d_K_read_44 : decode b_K_read 44 = .ok (.aload_n 1, 1) := by decide +kernel
theorem d_K_read_45 : decode b_K_read 45 = .ok (.aload_n 0, 1) := by decide +kernel
theorem d_K_read_46 : decode b_K_read 46 = .ok (.getfield 17, 3) := by decide +kernel
theorem d_K_read_49 : decode b_K_read 49 = .ok (.iload_n 2, 1) := by decide +kernel
theorem d_K_read_50 : decode b_K_read 50 = .ok (.bipush 10, 2) := by decide +kernel
theorem d_K_read_52 : decode b_K_read 52 = .ok (.isub, 1) := by decide +kernel
theorem d_K_read_53 : decode b_K_read 53 = .ok (.aaload, 1) := by decide +kernel
theorem d_K_read_54 : decode b_K_read 54 = .ok (.invokevirtual 299, 3) := by decide +kernel
theorem d_K_read_57 : decode b_K_read 57 = .ok (.ifCond .eq 11, 3) := by decide +kernel
theorem d_K_read_60 : decode b_K_read 60 = .ok (.aload_n 0, 1) := by decide +kernel
theorem d_K_read_61 : decode b_K_read 61 = .ok (.iload_n 2, 1) := by decide +kernel
theorem d_K_read_62 : decode b_K_read 62 = .ok (.invokestatic 241, 3) := by decide +kernel
theorem d_K_read_65 : decode b_K_read 65 = .ok (.invokevirtual 116, 3) := by decide +kernel
theorem d_K_read_68 : decode b_K_read 68 = .ok (.return_, 1) := by decide +kernel
def w_K_read (cp : Nat) (p1 : Nat) (s0 : KS) (Φ : KS → Prop) : Prop := w_P_pop cp p1 s0 (fun r2 s1 => w_P_descriptorAt cp p1 r2 s1 (fun r4 s3 => ((¬ r4 = (1 : Int32) → w_K_isReadingEnd cp r4 s3 (fun r6 s5 => ((¬ r6 = 0 → vp_in (r4 - (10 : Int32)) 8 ∧ w_K_pushNext cp p1 ((r4 - (10 : Int32)).toNatClampNeg) s5 (fun r9 s8 => ((r9 = 0 → Φ s8) ∧ (¬ r9 = 0 → w_K_otherEnd cp r4 s8 (fun r11 s10 => w_K_wakeFirst cp r11 s10 (fun s12 => Φ s12)))))) ∧ (r6 = 0 → w_P_pushTwo cp p1 (0 : Int32) (-1 : Int32) s5 (fun s13 => Φ s13))))) ∧ (r4 = (1 : Int32) → w_K_pushNext cp p1 8 s3 (fun r15 s14 => Φ s14)))))
set_option maxHeartbeats 4000000 in
set_option maxRecDepth 100000 in
theorem c_K_read (l : Launch) (E : gE) (s0 : KS) (p1 : Nat) (hp1 : p1 < 16) (Φ : KS → Prop) (hw : w_K_read (eN E) p1 s0 Φ) : gMv l y_K_read v_K_read m_K_read E KK [.ref (ea E 0 0), .ref (ea E 1 p1)] s0 Φ := by
  intro sz
  refine Met.ofW (cc := b_K_read) (maxL := 3) (ret := none) (by decide) rfl ?_
  intro p e s m args below meth c s₁ B hml hv
  obtain ⟨rfl, hsz, hP, hK, hD, hX⟩ := hv
  have hx := B.exec
  have hb := B.bytes
  have hr := B.returns
  have hts := atoms_spec (ws := v_K_read) B.pre
  have hG : ∀ w ∈ gG, w.before _ s = true := fun w h => hts w (List.mem_cons_of_mem _ h)
  have hown : s.vm.findClass R_K = some m.cls := findClass_of_methodNamed B.named
  have hlocks := B.notSynchronized
  subst hsz
  obtain ⟨A, hAe⟩ : ∃ A, A = gA E KK s.heap.size := ⟨_, rfl⟩
  rw [← hAe] at hD hX ⊢
  have hV : gV E KK A s0 s s.heap [] := ⟨hP, hD, va_S.rf⟩
  have hl := lv_entry ([.ref (ea E 0 0), .ref (ea E 1 p1)] : List Value) (n := 3) (Nat.le_of_ble_eq_true rfl)
  rw [lg_entry_eq]
  generalize (lg_sl ([.ref (ea E 0 0), .ref (ea E 1 p1)] : List Value) ++ List.replicate (3 - (lg_sl ([.ref (ea E 0 0), .ref (ea E 1 p1)] : List Value)).length) Slot.unset).toArray = ls at hl ⊢
  have hl : lv_has ls 3 [(0, .ref (ea E 0 0)), (1, .ref (ea E 1 p1))] := hl
  unfold w_K_read at hw
  refine lv_aload_n hx hb d_K_read_0 rfl (lv_at hl 1 rfl) ?_
  refine lv_aload_n hx hb d_K_read_1 rfl (lv_at hl 1 rfl) ?_
  refine kc_K_P_pop hx hb hml hown hts hV hK hX hAe (c_P_pop l E s0 p1 hp1 _ hw) hp1 hl.1 (Nat.le_of_ble_eq_true rfl) d_K_read_2 (Nat.le_of_ble_eq_true rfl) (Nat.le_of_ble_eq_true rfl) (fun r2 s1 H locs hw hV => ?_)
  refine kc_K_P_descriptorAt hx hb hml hown hts hV hK hX hAe (c_P_descriptorAt l E s1 p1 hp1 r2 _ hw) hp1 hl.1 (Nat.le_of_ble_eq_true rfl) d_K_read_5 (Nat.le_of_ble_eq_true rfl) (Nat.le_of_ble_eq_true rfl) (fun r4 s3 H locs hw hV => ?_)
  refine lv_istore_n (lv' := [(2, .int r4), (0, .ref (ea E 0 0)), (1, .ref (ea E 1 p1))]) hx hb d_K_read_8 rfl hl (by decide) rfl (fun ls hl => ?_)
  refine lv_iload_n hx hb d_K_read_9 rfl (lv_at hl 0 rfl) ?_
  refine lv_iconst (v := 1) hx hb d_K_read_10 (by decide) ?_
  refine lv_icmp_ne (tgt := 27) hx hb d_K_read_11 rfl (fun hc => ?_) (fun hc => ?_)
  · have hw := hw.1 hc
    refine lv_iload_n hx hb d_K_read_27 rfl (lv_at hl 0 rfl) ?_
    refine kc_K_K_isReadingEnd hx hb hml hown hts hV hK hX hAe (c_K_isReadingEnd l E s3 r4 _ hw) hl.1 (Nat.le_of_ble_eq_true rfl) d_K_read_28 (Nat.le_of_ble_eq_true rfl) (Nat.le_of_ble_eq_true rfl) (fun r6 s5 H locs hw hV => ?_)
    refine lv_if_ne (tgt := 43) hx hb d_K_read_31 rfl (fun hc => ?_) (fun hc => ?_)
    · have hw := hw.1 hc
      refine lv_aload_n hx hb d_K_read_43 rfl (lv_at hl 1 rfl) ?_
      refine lv_aload_n hx hb d_K_read_44 rfl (lv_at hl 2 rfl) ?_
      refine lv_aload_n hx hb d_K_read_45 rfl (lv_at hl 1 rfl) ?_
      refine kg_K_K_pipes hx hb hG hown hK hV d_K_read_46 ?_
      refine lv_iload_n hx hb d_K_read_49 rfl (lv_at hl 0 rfl) ?_
      refine lv_bipush (v := 10) hx hb d_K_read_50 (by decide) ?_
      refine lv_isub hx hb d_K_read_52 ?_
      have hj7 := Nat.lt_trans (vp_lt hw.1) (by decide : 8 < 10)
      refine kl_10 hx hb hK hV hw.1 d_K_read_53 ?_
      have hw := hw.2
      refine kc_K_K_pushNext hx hb hml hown hts hV hK hX hAe (c_K_pushNext l E s5 p1 hp1 ((r4 - (10 : Int32)).toNatClampNeg) hj7 _ hw) hl.1 (Nat.le_of_ble_eq_true rfl) d_K_read_54 (Nat.le_of_ble_eq_true rfl) (Nat.le_of_ble_eq_true rfl) (fun r9 s8 H locs hw hV => ?_)
      refine lv_if_eq (tgt := 68) hx hb d_K_read_57 rfl (fun hc => ?_) (fun hc => ?_)
      · have hw := hw.1 hc
        exact kr_v hx hb hr hV hK hX hAe hw d_K_read_68
      · have hw := hw.2 hc
        refine lv_aload_n hx hb d_K_read_60 rfl (lv_at hl 1 rfl) ?_
        refine lv_iload_n hx hb d_K_read_61 rfl (lv_at hl 0 rfl) ?_
        refine kc_K_K_otherEnd hx hb hml hown hts hV hK hX hAe (c_K_otherEnd l E s8 r4 _ hw) hl.1 (Nat.le_of_ble_eq_true rfl) d_K_read_62 (Nat.le_of_ble_eq_true rfl) (Nat.le_of_ble_eq_true rfl) (fun r11 s10 H locs hw hV => ?_)
        refine kc_K_K_wakeFirst hx hb hml hown hts hV hK hX hAe (c_K_wakeFirst l E s10 r11 _ hw) hl.1 (Nat.le_of_ble_eq_true rfl) d_K_read_65 (Nat.le_of_ble_eq_true rfl) (Nat.le_of_ble_eq_true rfl) (fun s12 H locs hw hV => ?_)
        exact kr_v hx hb hr hV hK hX hAe hw d_K_read_68
    · have hw := hw.2 hc
      refine lv_aload_n hx hb d_K_read_34 rfl (lv_at hl 2 rfl) ?_
      refine lv_iconst (v := 0) hx hb d_K_read_35 (by decide) ?_
      refine lv_iconst (v := -1) hx hb d_K_read_36 (by decide) ?_
      refine kc_K_P_pushTwo hx hb hml hown hts hV hK hX hAe (c_P_pushTwo l E s5 p1 hp1 (0 : Int32) (-1 : Int32) _ hw) hp1 hl.1 (Nat.le_of_ble_eq_true rfl) d_K_read_37 (Nat.le_of_ble_eq_true rfl) (Nat.le_of_ble_eq_true rfl) (fun s13 H locs hw hV => ?_)
      refine lv_goto (tgt := 68) hx hb d_K_read_40 rfl ?_
      exact kr_v hx hb hr hV hK hX hAe hw d_K_read_68
  · have hw := hw.2 hc
    refine lv_aload_n hx hb d_K_read_14 rfl (lv_at hl 1 rfl) ?_
    refine lv_aload_n hx hb d_K_read_15 rfl (lv_at hl 2 rfl) ?_
    refine lv_aload_n hx hb d_K_read_16 rfl (lv_at hl 1 rfl) ?_
    refine kg_K_K_input hx hb hG hown hK hV d_K_read_17 ?_
    refine kc_K_K_pushNext hx hb hml hown hts hV hK hX hAe (c_K_pushNext l E s3 p1 hp1 8 (by decide) _ hw) hl.1 (Nat.le_of_ble_eq_true rfl) d_K_read_20 (Nat.le_of_ble_eq_true rfl) (Nat.le_of_ble_eq_true rfl) (fun r15 s14 H locs hw hV => ?_)
    refine lv_pop hx hb d_K_read_23 rfl ?_
    refine lv_goto (tgt := 68) hx hb d_K_read_24 rfl ?_
    exact kr_v hx hb hr hV hK hX hAe hw d_K_read_68
theorem d_K_sleep_0 : decode b_K_sleep 0 = .ok (.aload_n 1, 1) := by decide +kernel
theorem d_K_sleep_1 : decode b_K_sleep 1 = .ok (.invokevirtual 253, 3) := by decide +kernel
theorem d_K_sleep_4 : decode b_K_sleep 4 = .ok (.istore_n 2, 1) := by decide +kernel
theorem d_K_sleep_5 : decode b_K_sleep 5 = .ok (.aload_n 1, 1) := by decide +kernel
theorem d_K_sleep_6 : decode b_K_sleep 6 = .ok (.iconst 0, 1) := by decide +kernel
theorem d_K_sleep_7 : decode b_K_sleep 7 = .ok (.invokevirtual 259, 3) := by decide +kernel
theorem d_K_sleep_10 : decode b_K_sleep 10 = .ok (.iload_n 2, 1) := by decide +kernel
theorem d_K_sleep_11 : decode b_K_sleep 11 = .ok (.ifCond .le 41, 3) := by decide +kernel
theorem d_K_sleep_14 : decode b_K_sleep 14 = .ok (.aload_n 0, 1) := by decide +kernel
theorem d_K_sleep_15 : decode b_K_sleep 15 = .ok (.aload_n 1, 1) := by decide +kernel
theorem d_K_sleep_16 : decode b_K_sleep 16 = .ok (.invokevirtual 229, 3) := by decide +kernel
theorem d_K_sleep_19 : decode b_K_sleep 19 = .ok (.aload_n 1, 1) := by decide +kernel
theorem d_K_sleep_20 : decode b_K_sleep 20 = .ok (.iconst 5, 1) := by decide +kernel
theorem d_K_sleep_21 : decode b_K_sleep 21 = .ok (.putfield 127, 3) := by decide +kernel
theorem d_K_sleep_24 : decode b_K_sleep 24 = .ok (.aload_n 1, 1) := by decide +kernel
theorem d_K_sleep_25 : decode b_K_sleep 25 = .ok (.iload_n 2, 1) := by decide +kernel
theorem d_K_sleep_26 : decode b_K_sleep 26 = .ok (.ldc_w 338, 3) := by decide +kernel
theorem d_K_sleep_29 : decode b_K_sleep 29 = .ok (.aload_n 0, 1) := by decide +kernel
theorem d_K_sleep_30 : decode b_K_sleep 30 = .ok (.getfield 35, 3) := by decide +kernel
theorem d_K_sleep_33 : decode b_K_sleep 33 = .ok (.isub, 1) := by decide +kernel
theorem d_K_sleep_34 : decode b_K_sleep 34 = .ok (.if_icmp .le 9, 3) := by decide +kernel
theorem d_K_sleep_37 : decode b_K_sleep 37 = .ok (.ldc_w 338, 3) := by decide +kernel
theorem d_K_sleep_40 : decode b_K_sleep 40 = .ok (.goto 9, 3) := by decide +kernel
theorem d_K_sleep_43 : decode b_K_sleep 43 = .ok (.aload_n 0, 1) := by decide +kernel
theorem d_K_sleep_44 : decode b_K_sleep 44 = .ok (.getfield 35, 3) := by decide +kernel
theorem d_K_sleep_47 : decode b_K_sleep 47 = .ok (.iload_n 2, 1) := by decide +kernel
theorem d_K_sleep_48 : decode b_K_sleep 48 = .ok (.iadd, 1) := by decide +kernel
theorem d_K_sleep_49 : decode b_K_sleep 49 = .ok (.putfield 146, 3) := by decide +kernel
theorem d_K_sleep_52 : decode b_K_sleep 52 = .ok (.return_, 1) := by decide +kernel
def w_K_sleep_49 (cp : Nat) (p1 : Nat) (Φ : KS → Prop) (t0 : Int32) (s0 : KS) : Prop := ∀ s1 : KS, s1 = w3 s0 1 p1 9 t0 → Φ s1
def w_K_sleep (cp : Nat) (p1 : Nat) (s0 : KS) (Φ : KS → Prop) : Prop := w_P_pop cp p1 s0 (fun r2 s1 => w_P_push cp p1 (0 : Int32) s1 (fun s3 => ((r2 ≤ 0 → Φ s3) ∧ (¬ r2 ≤ 0 → w_K_leaveQueue cp p1 s3 (fun s4 => ∀ s5 : KS, s5 = w3 s4 1 p1 7 (5 : Int32) → ((r2 ≤ ((2147483647 : Int32) - (s5 0 0 7)) → w_K_sleep_49 cp p1 Φ ((s5 0 0 7) + r2) s5) ∧ (¬ r2 ≤ ((2147483647 : Int32) - (s5 0 0 7)) → w_K_sleep_49 cp p1 Φ (2147483647 : Int32) s5)))))))
set_option maxHeartbeats 4000000 in
set_option maxRecDepth 100000 in
theorem c_K_sleep (l : Launch) (E : gE) (s0 : KS) (p1 : Nat) (hp1 : p1 < 16) (Φ : KS → Prop) (hw : w_K_sleep (eN E) p1 s0 Φ) : gMv l y_K_sleep v_K_sleep m_K_sleep E KK [.ref (ea E 0 0), .ref (ea E 1 p1)] s0 Φ := by
  intro sz
  refine Met.ofW (cc := b_K_sleep) (maxL := 3) (ret := none) (by decide) rfl ?_
  intro p e s m args below meth c s₁ B hml hv
  obtain ⟨rfl, hsz, hP, hK, hD, hX⟩ := hv
  have hx := B.exec
  have hb := B.bytes
  have hr := B.returns
  have hts := atoms_spec (ws := v_K_sleep) B.pre
  have hG : ∀ w ∈ gG, w.before _ s = true := fun w h => hts w (List.mem_cons_of_mem _ h)
  have hown : s.vm.findClass R_K = some m.cls := findClass_of_methodNamed B.named
  have hlocks := B.notSynchronized
  subst hsz
  obtain ⟨A, hAe⟩ : ∃ A, A = gA E KK s.heap.size := ⟨_, rfl⟩
  rw [← hAe] at hD hX ⊢
  have hV : gV E KK A s0 s s.heap [] := ⟨hP, hD, va_S.rf⟩
  have hl := lv_entry ([.ref (ea E 0 0), .ref (ea E 1 p1)] : List Value) (n := 3) (Nat.le_of_ble_eq_true rfl)
  rw [lg_entry_eq]
  generalize (lg_sl ([.ref (ea E 0 0), .ref (ea E 1 p1)] : List Value) ++ List.replicate (3 - (lg_sl ([.ref (ea E 0 0), .ref (ea E 1 p1)] : List Value)).length) Slot.unset).toArray = ls at hl ⊢
  have hl : lv_has ls 3 [(0, .ref (ea E 0 0)), (1, .ref (ea E 1 p1))] := hl
  have J49 : ∀ (ls : Array Slot) (H : Heap) (locs : List Loc) (s0 : KS) (t0 : Int32), lv_has ls 3 [] → gV E KK A s0 s H locs → w_K_sleep_49 (eN E) p1 Φ t0 s0 → W p l e m_K_sleep s m ([.ref (ea E 0 0), .ref (ea E 1 p1)] : List Value).toArray below meth c H locs 0 0 (MQ below (gQv E KK A Φ) ([.ref (ea E 0 0), .ref (ea E 1 p1)] : List Value).toArray s 0 0 A) (F0 m 49 ls [.int t0, .ref (ea E 1 p1)]) := by
    intro  ls H locs s0 t0 hl hV hw
    unfold w_K_sleep_49 at hw
    refine kp_K_P_wakeTime hx hb hG hown hK hV hp1 d_K_sleep_49 (fun s1 H locs es1 hV => ?_)
    have hw := hw s1 es1
    exact kr_v hx hb hr hV hK hX hAe hw d_K_sleep_52
  unfold w_K_sleep at hw
  refine lv_aload_n hx hb d_K_sleep_0 rfl (lv_at hl 1 rfl) ?_
  refine kc_K_P_pop hx hb hml hown hts hV hK hX hAe (c_P_pop l E s0 p1 hp1 _ hw) hp1 hl.1 (Nat.le_of_ble_eq_true rfl) d_K_sleep_1 (Nat.le_of_ble_eq_true rfl) (Nat.le_of_ble_eq_true rfl) (fun r2 s1 H locs hw hV => ?_)
  refine lv_istore_n (lv' := [(2, .int r2), (0, .ref (ea E 0 0)), (1, .ref (ea E 1 p1))]) hx hb d_K_sleep_4 rfl hl (by decide) rfl (fun ls hl => ?_)
  refine lv_aload_n hx hb d_K_sleep_5 rfl (lv_at hl 2 rfl) ?_
  refine lv_iconst (v := 0) hx hb d_K_sleep_6 (by decide) ?_
  refine kc_K_P_push hx hb hml hown hts hV hK hX hAe (c_P_push l E s1 p1 hp1 (0 : Int32) _ hw) hp1 hl.1 (Nat.le_of_ble_eq_true rfl) d_K_sleep_7 (Nat.le_of_ble_eq_true rfl) (Nat.le_of_ble_eq_true rfl) (fun s3 H locs hw hV => ?_)
  refine lv_iload_n hx hb d_K_sleep_10 rfl (lv_at hl 0 rfl) ?_
  refine lv_if_le (tgt := 52) hx hb d_K_sleep_11 rfl (fun hc => ?_) (fun hc => ?_)
  · have hw := hw.1 hc
    exact kr_v hx hb hr hV hK hX hAe hw d_K_sleep_52
  · have hw := hw.2 hc
    refine lv_aload_n hx hb d_K_sleep_14 rfl (lv_at hl 1 rfl) ?_
    refine lv_aload_n hx hb d_K_sleep_15 rfl (lv_at hl 2 rfl) ?_
    refine kc_K_K_leaveQueue hx hb hml hown hts hV hK hX hAe (c_K_leaveQueue l E s3 p1 hp1 _ hw) hl.1 (Nat.le_of_ble_eq_true rfl) d_K_sleep_16 (Nat.le_of_ble_eq_true rfl) (Nat.le_of_ble_eq_true rfl) (fun s4 H locs hw hV => ?_)
    refine lv_aload_n hx hb d_K_sleep_19 rfl (lv_at hl 2 rfl) ?_
    refine lv_iconst (v := 5) hx hb d_K_sleep_20 (by decide) ?_
    refine kp_K_P_state hx hb hG hown hK hV hp1 d_K_sleep_21 (fun s5 H locs es5 hV => ?_)
    have hw := hw s5 es5
    refine lv_aload_n hx hb d_K_sleep_24 rfl (lv_at hl 2 rfl) ?_
    refine lv_iload_n hx hb d_K_sleep_25 rfl (lv_at hl 0 rfl) ?_
    refine lv_ldcw hx hb hown (hG _ gm_605) d_K_sleep_26 ?_
    refine lv_aload_n hx hb d_K_sleep_29 rfl (lv_at hl 1 rfl) ?_
    refine kg_K_K_now hx hb hG hown hK hV d_K_sleep_30 ?_
    refine lv_isub hx hb d_K_sleep_33 ?_
    refine lv_icmp_le (tgt := 43) hx hb d_K_sleep_34 rfl (fun hc => ?_) (fun hc => ?_)
    · have hw := hw.1 hc
      refine lv_aload_n hx hb d_K_sleep_43 rfl (lv_at hl 1 rfl) ?_
      refine kg_K_K_now hx hb hG hown hK hV d_K_sleep_44 ?_
      refine lv_iload_n hx hb d_K_sleep_47 rfl (lv_at hl 0 rfl) ?_
      refine lv_iadd hx hb d_K_sleep_48 ?_
      exact J49 _ _ _ s5 ((s5 0 0 7) + r2) (lv_sub hl [] rfl) hV hw
    · have hw := hw.2 hc
      refine lv_ldcw hx hb hown (hG _ gm_605) d_K_sleep_37 ?_
      refine lv_goto (tgt := 49) hx hb d_K_sleep_40 rfl ?_
      exact J49 _ _ _ s5 (2147483647 : Int32) (lv_sub hl [] rfl) hV hw
theorem d_K_takeEndedChild_0 : decode b_K_takeEndedChild 0 = .ok (.aload_n 0, 1) := by decide +kernel
theorem d_K_takeEndedChild_1 : decode b_K_takeEndedChild 1 = .ok (.aload_n 1, 1) := by decide +kernel
theorem d_K_takeEndedChild_2 : decode b_K_takeEndedChild 2 = .ok (.invokevirtual 225, 3) := by decide +kernel
theorem d_K_takeEndedChild_5 : decode b_K_takeEndedChild 5 = .ok (.astore_n 2, 1) := by decide +kernel
theorem d_K_takeEndedChild_6 : decode b_K_takeEndedChild 6 = .ok (.aload_n 2, 1) := by decide +kernel
theorem d_K_takeEndedChild_7 : decode b_K_takeEndedChild 7 = .ok (.ifnonnull 10, 3) := by decide +kernel
theorem d_K_takeEndedChild_10 : decode b_K_takeEndedChild 10 = .ok (.aload_n 1, 1) := by decide +kernel
theorem d_K_takeEndedChild_11 : decode b_K_takeEndedChild 11 = .ok (.iconst 0, 1) := by decide +kernel
theorem d_K_takeEndedChild_12 : decode b_K_takeEndedChild 12 = .ok (.iconst (-1), 1) := by decide +kernel
theorem d_K_takeEndedChild_13 : decode b_K_takeEndedChild 13 = .ok (.invokevirtual 303, 3) := by decide +kernel
theorem d_K_takeEndedChild_16 : decode b_K_takeEndedChild 16 = .ok (.return_, 1) := by decide +kernel
theorem d_K_takeEndedChild_17 : decode b_K_takeEndedChild 17 = .ok (.aload_n 2, 1) := by decide +kernel
theorem d_K_takeEndedChild_18 : decode b_K_takeEndedChild 18 = .ok (.iconst 0, 1) := by decide +kernel
theorem d_K_takeEndedChild_19 : decode b_K_takeEndedChild 19 = .ok (.putfield 127, 3) := by decide +kernel
theorem d_K_takeEndedChild_22 : decode b_K_takeEndedChild 22 = .ok (.aload_n 1, 1) := by decide +kernel
theorem d_K_takeEndedChild_23 : decode b_K_takeEndedChild 23 = .ok (.aload_n 2, 1) := by decide +kernel
theorem d_K_takeEndedChild_24 : decode b_K_takeEndedChild 24 = .ok (.getfield 143, 3) := by decide +kernel
theorem d_K_takeEndedChild_27 : decode b_K_takeEndedChild 27 = .ok (.aload_n 2, 1) := by decide +kernel
theorem d_K_takeEndedChild_28 : decode b_K_takeEndedChild 28 = .ok (.getfield 256, 3) := by decide +kernel
theorem d_K_takeEndedChild_31 : decode b_K_takeEndedChild 31 = .ok (.invokevirtual 303, 3) := by decide +kernel
theorem d_K_takeEndedChild_34 : decode b_K_takeEndedChild 34 = .ok (.return_, 1) := by decide +kernel
def w_K_takeEndedChild (cp : Nat) (p1 : Nat) (s0 : KS) (Φ : KS → Prop) : Prop := w_K_endedChild cp p1 s0 (fun o2 s1 => ((o2 = none → w_P_pushTwo cp p1 (0 : Int32) (-1 : Int32) s1 (fun s4 => Φ s4)) ∧ (∀ z3 : Nat, o2 = some z3 → ∀ s5 : KS, s5 = w3 s1 1 z3 7 (0 : Int32) → w_P_pushTwo cp p1 (s5 1 z3 8) (s5 1 z3 0) s5 (fun s6 => Φ s6))))
set_option maxHeartbeats 4000000 in
set_option maxRecDepth 100000 in
theorem c_K_takeEndedChild (l : Launch) (E : gE) (s0 : KS) (p1 : Nat) (hp1 : p1 < 16) (Φ : KS → Prop) (hw : w_K_takeEndedChild (eN E) p1 s0 Φ) : gMv l y_K_takeEndedChild v_K_takeEndedChild m_K_takeEndedChild E KK [.ref (ea E 0 0), .ref (ea E 1 p1)] s0 Φ := by
  intro sz
  refine Met.ofW (cc := b_K_takeEndedChild) (maxL := 3) (ret := none) (by decide) rfl ?_
  intro p e s m args below meth c s₁ B hml hv
  obtain ⟨rfl, hsz, hP, hK, hD, hX⟩ := hv
  have hx := B.exec
  have hb := B.bytes
  have hr := B.returns
  have hts := atoms_spec (ws := v_K_takeEndedChild) B.pre
  have hG : ∀ w ∈ gG, w.before _ s = true := fun w h => hts w (List.mem_cons_of_mem _ h)
  have hown : s.vm.findClass R_K = some m.cls := findClass_of_methodNamed B.named
  have hlocks := B.notSynchronized
  subst hsz
  obtain ⟨A, hAe⟩ : ∃ A, A = gA E KK s.heap.size := ⟨_, rfl⟩
  rw [← hAe] at hD hX ⊢
  have hV : gV E KK A s0 s s.heap [] := ⟨hP, hD, va_S.rf⟩
  have hl := lv_entry ([.ref (ea E 0 0), .ref (ea E 1 p1)] : List Value) (n := 3) (Nat.le_of_ble_eq_true rfl)
  rw [lg_entry_eq]
  generalize (lg_sl ([.ref (ea E 0 0), .ref (ea E 1 p1)] : List Value) ++ List.replicate (3 - (lg_sl ([.ref (ea E 0 0), .ref (ea E 1 p1)] : List Value)).length) Slot.unset).toArray = ls at hl ⊢
  have hl : lv_has ls 3 [(0, .ref (ea E 0 0)), (1, .ref (ea E 1 p1))] := hl
  unfold w_K_takeEndedChild at hw
  refine lv_aload_n hx hb d_K_takeEndedChild_0 rfl (lv_at hl 0 rfl) ?_
  refine lv_aload_n hx hb d_K_takeEndedChild_1 rfl (lv_at hl 1 rfl) ?_
  refine kc_K_K_endedChild hx hb hml hown hts hV hK hX hAe (c_K_endedChild l E s0 p1 hp1 _ hw) hl.1 (Nat.le_of_ble_eq_true rfl) d_K_takeEndedChild_2 (Nat.le_of_ble_eq_true rfl) (Nat.le_of_ble_eq_true rfl) (fun o2 s1 H locs ho2 hw hV => ?_)
  rcases o2 with _ | z3
  · have hw := hw.1 rfl
    have hl : lv_has ls 3 [(0, .ref (ea E 0 0)), (1, .ref (ea E 1 p1))] := hl
    show W _ _ _ _ _ _ _ _ _ _ _ _ _ _ _ (F0 m 5 ls [.null])
    refine lv_astore_nN (lv' := [(2, .null), (0, .ref (ea E 0 0)), (1, .ref (ea E 1 p1))]) hx hb d_K_takeEndedChild_5 rfl hl (by decide) rfl (fun ls hl => ?_)
    refine lv_aload_nN hx hb d_K_takeEndedChild_6 rfl (lv_at hl 0 rfl) ?_
    refine lv_ifnonnullN hx hb d_K_takeEndedChild_7 ?_
    refine lv_aload_n hx hb d_K_takeEndedChild_10 rfl (lv_at hl 2 rfl) ?_
    refine lv_iconst (v := 0) hx hb d_K_takeEndedChild_11 (by decide) ?_
    refine lv_iconst (v := -1) hx hb d_K_takeEndedChild_12 (by decide) ?_
    refine kc_K_P_pushTwo hx hb hml hown hts hV hK hX hAe (c_P_pushTwo l E s1 p1 hp1 (0 : Int32) (-1 : Int32) _ hw) hp1 hl.1 (Nat.le_of_ble_eq_true rfl) d_K_takeEndedChild_13 (Nat.le_of_ble_eq_true rfl) (Nat.le_of_ble_eq_true rfl) (fun s4 H locs hw hV => ?_)
    exact kr_v hx hb hr hV hK hX hAe hw d_K_takeEndedChild_16
  · have hw := hw.2 z3 rfl
    have hl : lv_has ls 3 [(0, .ref (ea E 0 0)), (1, .ref (ea E 1 p1))] := hl
    show W _ _ _ _ _ _ _ _ _ _ _ _ _ _ _ (F0 m 5 ls [.ref (ea E 1 z3)])
    refine lv_astore_n (lv' := [(2, .ref (ea E 1 z3)), (0, .ref (ea E 0 0)), (1, .ref (ea E 1 p1))]) hx hb d_K_takeEndedChild_5 rfl hl (by decide) rfl (fun ls hl => ?_)
    refine lv_aload_n hx hb d_K_takeEndedChild_6 rfl (lv_at hl 0 rfl) ?_
    refine lv_ifnonnull (tgt := 17) hx hb d_K_takeEndedChild_7 rfl ?_
    refine lv_aload_n hx hb d_K_takeEndedChild_17 rfl (lv_at hl 0 rfl) ?_
    refine lv_iconst (v := 0) hx hb d_K_takeEndedChild_18 (by decide) ?_
    refine kp_K_P_state hx hb hG hown hK hV (ho2 z3 rfl) d_K_takeEndedChild_19 (fun s5 H locs es5 hV => ?_)
    have hw := hw s5 es5
    refine lv_aload_n hx hb d_K_takeEndedChild_22 rfl (lv_at hl 2 rfl) ?_
    refine lv_aload_n hx hb d_K_takeEndedChild_23 rfl (lv_at hl 0 rfl) ?_
    refine kg_K_P_code hx hb hG hown hK hV (ho2 z3 rfl) d_K_takeEndedChild_24 ?_
    refine lv_aload_n hx hb d_K_takeEndedChild_27 rfl (lv_at hl 0 rfl) ?_
    refine kg_K_P_number hx hb hG hown hK hV (ho2 z3 rfl) d_K_takeEndedChild_28 ?_
    refine kc_K_P_pushTwo hx hb hml hown hts hV hK hX hAe (c_P_pushTwo l E s5 p1 hp1 (s5 1 z3 8) (s5 1 z3 0) _ hw) hp1 hl.1 (Nat.le_of_ble_eq_true rfl) d_K_takeEndedChild_31 (Nat.le_of_ble_eq_true rfl) (Nat.le_of_ble_eq_true rfl) (fun s6 H locs hw hV => ?_)
    exact kr_v hx hb hr hV hK hX hAe hw d_K_takeEndedChild_34
theorem d_K_print_0 : decode b_K_print 0 = .ok (.aload_n 0, 1) := by decide +kernel
theorem d_K_print_1 : decode b_K_print 1 = .ok (.getfield 55, 3) := by decide +kernel
theorem d_K_print_4 : decode b_K_print 4 = .ok (.invokevirtual 108, 3) := by decide +kernel
theorem d_K_print_7 : decode b_K_print 7 = .ok (.ifCond .eq 11, 3) := by decide +kernel
theorem d_K_print_10 : decode b_K_print 10 = .ok (.aload_n 0, 1) := by decide +kernel
theorem d_K_print_11 : decode b_K_print 11 = .ok (.getfield 55, 3) := by decide +kernel
theorem d_K_print_14 : decode b_K_print 14 = .ok (.invokevirtual 296, 3) := by decide +kernel
theorem d_K_print_17 : decode b_K_print 17 = .ok (.pop, 1) := by decide +kernel
theorem d_K_print_18 : decode b_K_print 18 = .ok (.aload_n 0, 1) := by decide +kernel
theorem d_K_print_19 : decode b_K_print 19 = .ok (.getfield 55, 3) := by decide +kernel
theorem d_K_print_22 : decode b_K_print 22 = .ok (.iload_n 1, 1) := by decide +kernel
theorem d_K_print_23 : decode b_K_print 23 = .ok (.invokevirtual 113, 3) := by decide +kernel
theorem d_K_print_26 : decode b_K_print 26 = .ok (.aload_n 0, 1) := by decide +kernel
theorem d_K_print_27 : decode b_K_print 27 = .ok (.dup, 1) := by decide +kernel
theorem d_K_print_28 : decode b_K_print 28 = .ok (.getfield 58, 3) := by decide +kernel
theorem d_K_print_31 : decode b_K_print 31 = .ok (.iconst 1, 1) := by decide +kernel
theorem d_K_print_32 : decode b_K_print 32 = .ok (.iadd, 1) := by decide +kernel
theorem d_K_print_33 : decode b_K_print 33 = .ok (.putfield 58, 3) := by decide +kernel
theorem d_K_print_36 : decode b_K_print 36 = .ok (.return_, 1) := by decide +kernel
def w_K_print_18 (cp : Nat) (x1 : Int32) (Φ : KS → Prop) (s0 : KS) : Prop := w_W_add cp 9 x1 s0 (fun s1 => ∀ s2 : KS, s2 = w3 s1 0 0 13 ((s1 0 0 13) + (1 : Int32)) → Φ s2)
def w_K_print (cp : Nat) (x1 : Int32) (s0 : KS) (Φ : KS → Prop) : Prop := w_W_isFull cp 9 s0 (fun r2 s1 => ((r2 = 0 → w_K_print_18 cp x1 Φ s1) ∧ (¬ r2 = 0 → w_W_take cp 9 s1 (fun r4 s3 => w_K_print_18 cp x1 Φ s3))))
set_option maxHeartbeats 4000000 in
set_option maxRecDepth 100000 in
theorem c_K_print (l : Launch) (E : gE) (s0 : KS) (x1 : Int32) (Φ : KS → Prop) (hw : w_K_print (eN E) x1 s0 Φ) : gMv l y_K_print v_K_print m_K_print E KK [.ref (ea E 0 0), .int x1] s0 Φ := by
  intro sz
  refine Met.ofW (cc := b_K_print) (maxL := 2) (ret := none) (by decide) rfl ?_
  intro p e s m args below meth c s₁ B hml hv
  obtain ⟨rfl, hsz, hP, hK, hD, hX⟩ := hv
  have hx := B.exec
  have hb := B.bytes
  have hr := B.returns
  have hts := atoms_spec (ws := v_K_print) B.pre
  have hG : ∀ w ∈ gG, w.before _ s = true := fun w h => hts w (List.mem_cons_of_mem _ h)
  have hown : s.vm.findClass R_K = some m.cls := findClass_of_methodNamed B.named
  have hlocks := B.notSynchronized
  subst hsz
  obtain ⟨A, hAe⟩ : ∃ A, A = gA E KK s.heap.size := ⟨_, rfl⟩
  rw [← hAe] at hD hX ⊢
  have hV : gV E KK A s0 s s.heap [] := ⟨hP, hD, va_S.rf⟩
  have hl := lv_entry ([.ref (ea E 0 0), .int x1] : List Value) (n := 2) (Nat.le_of_ble_eq_true rfl)
  rw [lg_entry_eq]
  generalize (lg_sl ([.ref (ea E 0 0), .int x1] : List Value) ++ List.replicate (2 - (lg_sl ([.ref (ea E 0 0), .int x1] : List Value)).length) Slot.unset).toArray = ls at hl ⊢
  have hl : lv_has ls 2 [(0, .ref (ea E 0 0)), (1, .int x1)] := hl
  have J18 : ∀ (ls : Array Slot) (H : Heap) (locs : List Loc) (s0 : KS), lv_has ls 2 [(0, .ref (ea E 0 0)), (1, .int x1)] → gV E KK A s0 s H locs → w_K_print_18 (eN E) x1 Φ s0 → W p l e m_K_print s m ([.ref (ea E 0 0), .int x1] : List Value).toArray below meth c H locs 0 0 (MQ below (gQv E KK A Φ) ([.ref (ea E 0 0), .int x1] : List Value).toArray s 0 0 A) (F0 m 18 ls []) := by
    intro  ls H locs s0 hl hV hw
    unfold w_K_print_18 at hw
    refine lv_aload_n hx hb d_K_print_18 rfl (lv_at hl 0 rfl) ?_
    refine kg_K_K_output hx hb hG hown hK hV d_K_print_19 ?_
    refine lv_iload_n hx hb d_K_print_22 rfl (lv_at hl 1 rfl) ?_
    refine kc_K_W_add hx hb hml hown hts hV hK hX hAe (c_W_add l E s0 9 (by decide) x1 _ hw) (by decide) hl.1 (Nat.le_of_ble_eq_true rfl) d_K_print_23 (Nat.le_of_ble_eq_true rfl) (Nat.le_of_ble_eq_true rfl) (fun s1 H locs hw hV => ?_)
    refine lv_aload_n hx hb d_K_print_26 rfl (lv_at hl 0 rfl) ?_
    refine lv_dup hx hb d_K_print_27 rfl ?_
    refine kg_K_K_outputCount hx hb hG hown hK hV d_K_print_28 ?_
    refine lv_iconst (v := 1) hx hb d_K_print_31 (by decide) ?_
    refine lv_iadd hx hb d_K_print_32 ?_
    refine kp_K_K_outputCount hx hb hG hown hK hV d_K_print_33 (fun s2 H locs es2 hV => ?_)
    have hw := hw s2 es2
    exact kr_v hx hb hr hV hK hX hAe hw d_K_print_36
  unfold w_K_print at hw
  refine lv_aload_n hx hb d_K_print_0 rfl (lv_at hl 0 rfl) ?_
  refine kg_K_K_output hx hb hG hown hK hV d_K_print_1 ?_
  refine kc_K_W_isFull hx hb hml hown hts hV hK hX hAe (c_W_isFull l E s0 9 (by decide) _ hw) (by decide) hl.1 (Nat.le_of_ble_eq_true rfl) d_K_print_4 (Nat.le_of_ble_eq_true rfl) (Nat.le_of_ble_eq_true rfl) (fun r2 s1 H locs hw hV => ?_)
  refine lv_if_eq (tgt := 18) hx hb d_K_print_7 rfl (fun hc => ?_) (fun hc => ?_)
  · have hw := hw.1 hc
    exact J18 _ _ _ s1 (lv_sub hl [0, 1] rfl) hV hw
  · have hw := hw.2 hc
    refine lv_aload_n hx hb d_K_print_10 rfl (lv_at hl 0 rfl) ?_
    refine kg_K_K_output hx hb hG hown hK hV d_K_print_11 ?_
    refine kc_K_W_take hx hb hml hown hts hV hK hX hAe (c_W_take l E s1 9 (by decide) _ hw) (by decide) hl.1 (Nat.le_of_ble_eq_true rfl) d_K_print_14 (Nat.le_of_ble_eq_true rfl) (Nat.le_of_ble_eq_true rfl) (fun r4 s3 H locs hw hV => ?_)
    refine lv_pop hx hb d_K_print_17 rfl ?_
    exact J18 _ _ _ s3 (lv_sub hl [0, 1] rfl) hV hw
theorem d_K_write_0 : decode b_K_write 0 = .ok (.aload_n 1, 1) := by decide +kernel
theorem d_K_write_1 : decode b_K_write 1 = .ok (.aload_n 1, 1) := by decide +kernel
theorem d_K_write_2 : decode b_K_write 2 = .ok (.invokevirtual 253, 3) := by decide +kernel
theorem d_K_write_5 : decode b_K_write 5 = .ok (.invokevirtual 213, 3) := by decide +kernel
theorem d_K_write_8 : decode b_K_write 8 = .ok (.istore_n 2, 1) := by decide +kernel
theorem d_K_write_9 : decode b_K_write 9 = .ok (.aload_n 1, 1) := by decide +kernel
theorem d_K_write_10 : decode b_K_write 10 = .ok (.invokevirtual 253, 3) := by decide +kernel
theorem d_K_write_13 : decode b_K_write 13 = .ok (.istore_n 3, 1) := by decide +kernel
theorem d_K_write_14 : decode b_K_write 14 = .ok (.iload_n 2, 1) := by decide +kernel
theorem d_K_write_15 : decode b_K_write 15 = .ok (.iconst 2, 1) := by decide +kernel
theorem d_K_write_16 : decode b_K_write 16 = .ok (.if_icmp .ne 16, 3) := by decide +kernel
theorem d_K_write_19 : decode b_K_write 19 = .ok (.aload_n 0, 1) := by decide +kernel
theorem d_K_write_20 : decode b_K_write 20 = .ok (.iload_n 3, 1) := by decide +kernel
theorem d_K_write_21 : decode b_K_write 21 = .ok (.invokevirtual 293, 3) := by decide +kernel
theorem d_K_write_24 : decode b_K_write 24 = .ok (.aload_n 1, 1) := by decide +kernel
theorem d_K_write_25 : decode b_K_write 25 = .ok (.iconst 1, 1) := by decide +kernel
theorem d_K_write_26 : decode b_K_write 26 = .ok (.invokevirtual 259, 3) := by decide +kernel
theorem d_K_write_29 : decode b_K_write 29 = .ok (.goto 65, 3) := by decide +kernel
theorem d_K_write_32 : decode b_K_write 32 = .ok (.iload_n 2, 1) := by decide +kernel
theorem d_K_write_33 : decode b_K_write 33 = .ok (.invokestatic 238, 3) := by decide +kernel
theorem d_K_write_36 : decode b_K_write 36 = .ok (.ifCond .ne 11, 3) := by decide +kernel
theorem d_K_write_39 : decode b_K_write 39 = .ok (.aload_n 1, 1) := by decide +kernel
theorem d_K_write_40 : decode b_K_write 40 = .ok (.iconst (-1), 1) := by decide +kernel
theorem d_K_write_41 : decode b_K_write 41 = .ok (.invokevirtual 259, 3) := by decide +kernel
theorem d_K_write_44 : decode b_K_write 44 = .ok (.goto 50, 3) := by decide +kernel
theorem d_K_write_47 : decode b_K_write 47 = .ok (.aload_n 0, 1) := by decide +kernel
theorem d_K_write_48 : decode b_K_write 48 = .ok (.getfield 21, 3) := by decide +kernel
theorem d_K_write_51 : decode b_K_write 51 = .ok (.iload_n 2, 1) := by decide +kernel
theorem d_K_write_52 : decode b_K_write 52 = .ok (.invokestatic 241, 3) := by decide +kernel
theorem d_K_write_55 : decode b_K_write 55 = .ok (.iaload, 1) := by decide +kernel
theorem d_K_write_56 : decode b_K_write 56 = .ok (.ifCond .ne 12, 3) := by decide +kernel
theorem d_K_write_59 : decode b_K_write 59 = .ok (.aload_n 1, 1) := by decide +kernel
theorem d_K_write_60 : decode b_K_write 60 = .ok (.bipush (-2), 2) := by decide +kernel
theorem d_K_write_62 : decode b_K_write 62 = .ok (.invokevirtual 259, 3) := by decide +kernel
theorem d_K_write_65 : decode b_K_write 65 = .ok (.goto 29, 3) := by decide +kernel
theorem d_K_write_68 : decode b_K_write 68 = .ok (.aload_n 0, 1) := by decide +kernel
theorem d_K_write_69 : decode b_K_write 69 = .ok (.getfield 17, 3) := by decide +kernel
theorem d_K_write_72 : decode b_K_write 72 = .ok (.iload_n 2, 1) := by decide +kernel
theorem d_K_write_73 : decode b_K_write 73 = .ok (.bipush 20, 2) := by decide +kernel
theorem d_K_write_75 : decode b_K_write 75 = .ok (.isub, 1) := by decide +kernel
theorem d_K_write_76 : decode b_K_write 76 = .ok (.aaload, 1) := by decide +kernel
theorem d_K_write_77 : decode b_K_write 77 = .ok (.iload_n 3, 1) := by decide +kernel
theorem d_K_write_78 : decode b_K_write 78 = .ok (.invokevirtual 113, 3) := by decide +kernel
theorem d_K_write_81 : decode b_K_write 81 = .ok (.aload_n 0, 1) := by decide +kernel
theorem d_K_write_82 : decode b_K_write 82 = .ok (.iload_n 2, 1) := by decide +kernel
theorem d_K_write_83 : decode b_K_write 83 = .ok (.invokestatic 241, 3) := by decide +kernel
theorem d_K_write_86 : decode b_K_write 86 = .ok (.invokevirtual 116, 3) := by decide +kernel
theorem d_K_write_89 : decode b_K_write 89 = .ok (.aload_n 1, 1) := by decide +kernel
theorem d_K_write_90 : decode b_K_write 90 = .ok (.iconst 1, 1) := by decide +kernel
theorem d_K_write_91 : decode b_K_write 91 = .ok (.invokevirtual 259, 3) := by decide +kernel
theorem d_K_write_94 : decode b_K_write 94 = .ok (.return_, 1) := by decide +kernel
def w_K_write (cp : Nat) (p1 : Nat) (s0 : KS) (Φ : KS → Prop) : Prop := w_P_pop cp p1 s0 (fun r2 s1 => w_P_descriptorAt cp p1 r2 s1 (fun r4 s3 => w_P_pop cp p1 s3 (fun r6 s5 => ((¬ r4 = (2 : Int32) → w_K_isWritingEnd cp r4 s5 (fun r8 s7 => ((¬ r8 = 0 → w_K_otherEnd cp r4 s7 (fun r10 s9 => vp_in r10 28 ∧ ((¬ (s9 7 0 r10.toNatClampNeg) = 0 → vp_in (r4 - (20 : Int32)) 8 ∧ w_W_add cp ((r4 - (20 : Int32)).toNatClampNeg) r6 s9 (fun s12 => w_K_otherEnd cp r4 s12 (fun r14 s13 => w_K_wakeFirst cp r14 s13 (fun s15 => w_P_push cp p1 (1 : Int32) s15 (fun s16 => Φ s16))))) ∧ ((s9 7 0 r10.toNatClampNeg) = 0 → w_P_push cp p1 (-2 : Int32) s9 (fun s17 => Φ s17))))) ∧ (r8 = 0 → w_P_push cp p1 (-1 : Int32) s7 (fun s18 => Φ s18))))) ∧ (r4 = (2 : Int32) → w_K_print cp r6 s5 (fun s19 => w_P_push cp p1 (1 : Int32) s19 (fun s20 => Φ s20)))))))
set_option maxHeartbeats 4000000 in
set_option maxRecDepth 100000 in
theorem c_K_write (l : Launch) (E : gE) (s0 : KS) (p1 : Nat) (hp1 : p1 < 16) (Φ : KS → Prop) (hw : w_K_write (eN E) p1 s0 Φ) : gMv l y_K_write v_K_write m_K_write E KK [.ref (ea E 0 0), .ref (ea E 1 p1)] s0 Φ := by
  intro sz
  refine Met.ofW (cc := b_K_write) (maxL := 4) (ret := none) (by decide) rfl ?_
  intro p e s m args below meth c s₁ B hml hv
  obtain ⟨rfl, hsz, hP, hK, hD, hX⟩ := hv
  have hx := B.exec
  have hb := B.bytes
  have hr := B.returns
  have hts := atoms_spec (ws := v_K_write) B.pre
  have hG : ∀ w ∈ gG, w.before _ s = true := fun w h => hts w (List.mem_cons_of_mem _ h)
  have hown : s.vm.findClass R_K = some m.cls := findClass_of_methodNamed B.named
  have hlocks := B.notSynchronized
  subst hsz
  obtain ⟨A, hAe⟩ : ∃ A, A = gA E KK s.heap.size := ⟨_, rfl⟩
  rw [← hAe] at hD hX ⊢
  have hV : gV E KK A s0 s s.heap [] := ⟨hP, hD, va_S.rf⟩
  have hl := lv_entry ([.ref (ea E 0 0), .ref (ea E 1 p1)] : List Value) (n := 4) (Nat.le_of_ble_eq_true rfl)
  rw [lg_entry_eq]
  generalize (lg_sl ([.ref (ea E 0 0), .ref (ea E 1 p1)] : List Value) ++ List.replicate (4 - (lg_sl ([.ref (ea E 0 0), .ref (ea E 1 p1)] : List Value)).length) Slot.unset).toArray = ls at hl ⊢
  have hl : lv_has ls 4 [(0, .ref (ea E 0 0)), (1, .ref (ea E 1 p1))] := hl
  unfold w_K_write at hw
  refine lv_aload_n hx hb d_K_write_0 rfl (lv_at hl 1 rfl) ?_
  refine lv_aload_n hx hb d_K_write_1 rfl (lv_at hl 1 rfl) ?_
  refine kc_K_P_pop hx hb hml hown hts hV hK hX hAe (c_P_pop l E s0 p1 hp1 _ hw) hp1 hl.1 (Nat.le_of_ble_eq_true rfl) d_K_write_2 (Nat.le_of_ble_eq_true rfl) (Nat.le_of_ble_eq_true rfl) (fun r2 s1 H locs hw hV => ?_)
  refine kc_K_P_descriptorAt hx hb hml hown hts hV hK hX hAe (c_P_descriptorAt l E s1 p1 hp1 r2 _ hw) hp1 hl.1 (Nat.le_of_ble_eq_true rfl) d_K_write_5 (Nat.le_of_ble_eq_true rfl) (Nat.le_of_ble_eq_true rfl) (fun r4 s3 H locs hw hV => ?_)
  refine lv_istore_n (lv' := [(2, .int r4), (0, .ref (ea E 0 0)), (1, .ref (ea E 1 p1))]) hx hb d_K_write_8 rfl hl (by decide) rfl (fun ls hl => ?_)
  refine lv_aload_n hx hb d_K_write_9 rfl (lv_at hl 2 rfl) ?_
  refine kc_K_P_pop hx hb hml hown hts hV hK hX hAe (c_P_pop l E s3 p1 hp1 _ hw) hp1 hl.1 (Nat.le_of_ble_eq_true rfl) d_K_write_10 (Nat.le_of_ble_eq_true rfl) (Nat.le_of_ble_eq_true rfl) (fun r6 s5 H locs hw hV => ?_)
  refine lv_istore_n (lv' := [(3, .int r6), (2, .int r4), (0, .ref (ea E 0 0)), (1, .ref (ea E 1 p1))]) hx hb d_K_write_13 rfl hl (by decide) rfl (fun ls hl => ?_)
  refine lv_iload_n hx hb d_K_write_14 rfl (lv_at hl 1 rfl) ?_
  refine lv_iconst (v := 2) hx hb d_K_write_15 (by decide) ?_
  refine lv_icmp_ne (tgt := 32) hx hb d_K_write_16 rfl (fun hc => ?_) (fun hc => ?_)
  · have hw := hw.1 hc
    refine lv_iload_n hx hb d_K_write_32 rfl (lv_at hl 1 rfl) ?_
    refine kc_K_K_isWritingEnd hx hb hml hown hts hV hK hX hAe (c_K_isWritingEnd l E s5 r4 _ hw) hl.1 (Nat.le_of_ble_eq_true rfl) d_K_write_33 (Nat.le_of_ble_eq_true rfl) (Nat.le_of_ble_eq_true rfl) (fun r8 s7 H locs hw hV => ?_)
    refine lv_if_ne (tgt := 47) hx hb d_K_write_36 rfl (fun hc => ?_) (fun hc => ?_)
    · have hw := hw.1 hc
      refine lv_aload_n hx hb d_K_write_47 rfl (lv_at hl 2 rfl) ?_
      refine kg_K_K_ends hx hb hG hown hK hV d_K_write_48 ?_
      refine lv_iload_n hx hb d_K_write_51 rfl (lv_at hl 1 rfl) ?_
      refine kc_K_K_otherEnd hx hb hml hown hts hV hK hX hAe (c_K_otherEnd l E s7 r4 _ hw) hl.1 (Nat.le_of_ble_eq_true rfl) d_K_write_52 (Nat.le_of_ble_eq_true rfl) (Nat.le_of_ble_eq_true rfl) (fun r10 s9 H locs hw hV => ?_)
      refine kl_7 hx hb hK hV hw.1 d_K_write_55 ?_
      have hw := hw.2
      refine lv_if_ne (tgt := 68) hx hb d_K_write_56 rfl (fun hc => ?_) (fun hc => ?_)
      · have hw := hw.1 hc
        refine lv_aload_n hx hb d_K_write_68 rfl (lv_at hl 2 rfl) ?_
        refine kg_K_K_pipes hx hb hG hown hK hV d_K_write_69 ?_
        refine lv_iload_n hx hb d_K_write_72 rfl (lv_at hl 1 rfl) ?_
        refine lv_bipush (v := 20) hx hb d_K_write_73 (by decide) ?_
        refine lv_isub hx hb d_K_write_75 ?_
        have hj11 := Nat.lt_trans (vp_lt hw.1) (by decide : 8 < 10)
        refine kl_10 hx hb hK hV hw.1 d_K_write_76 ?_
        have hw := hw.2
        refine lv_iload_n hx hb d_K_write_77 rfl (lv_at hl 0 rfl) ?_
        refine kc_K_W_add hx hb hml hown hts hV hK hX hAe (c_W_add l E s9 ((r4 - (20 : Int32)).toNatClampNeg) hj11 r6 _ hw) hj11 hl.1 (Nat.le_of_ble_eq_true rfl) d_K_write_78 (Nat.le_of_ble_eq_true rfl) (Nat.le_of_ble_eq_true rfl) (fun s12 H locs hw hV => ?_)
        refine lv_aload_n hx hb d_K_write_81 rfl (lv_at hl 2 rfl) ?_
        refine lv_iload_n hx hb d_K_write_82 rfl (lv_at hl 1 rfl) ?_
        refine kc_K_K_otherEnd hx hb hml hown hts hV hK hX hAe (c_K_otherEnd l E s12 r4 _ hw) hl.1 (Nat.le_of_ble_eq_true rfl) d_K_write_83 (Nat.le_of_ble_eq_true rfl) (Nat.le_of_ble_eq_true rfl) (fun r14 s13 H locs hw hV => ?_)
        refine kc_K_K_wakeFirst hx hb hml hown hts hV hK hX hAe (c_K_wakeFirst l E s13 r14 _ hw) hl.1 (Nat.le_of_ble_eq_true rfl) d_K_write_86 (Nat.le_of_ble_eq_true rfl) (Nat.le_of_ble_eq_true rfl) (fun s15 H locs hw hV => ?_)
        refine lv_aload_n hx hb d_K_write_89 rfl (lv_at hl 3 rfl) ?_
        refine lv_iconst (v := 1) hx hb d_K_write_90 (by decide) ?_
        refine kc_K_P_push hx hb hml hown hts hV hK hX hAe (c_P_push l E s15 p1 hp1 (1 : Int32) _ hw) hp1 hl.1 (Nat.le_of_ble_eq_true rfl) d_K_write_91 (Nat.le_of_ble_eq_true rfl) (Nat.le_of_ble_eq_true rfl) (fun s16 H locs hw hV => ?_)
        exact kr_v hx hb hr hV hK hX hAe hw d_K_write_94
      · have hw := hw.2 hc
        refine lv_aload_n hx hb d_K_write_59 rfl (lv_at hl 3 rfl) ?_
        refine lv_bipush (v := -2) hx hb d_K_write_60 (by decide) ?_
        refine kc_K_P_push hx hb hml hown hts hV hK hX hAe (c_P_push l E s9 p1 hp1 (-2 : Int32) _ hw) hp1 hl.1 (Nat.le_of_ble_eq_true rfl) d_K_write_62 (Nat.le_of_ble_eq_true rfl) (Nat.le_of_ble_eq_true rfl) (fun s17 H locs hw hV => ?_)
        refine lv_goto (tgt := 94) hx hb d_K_write_65 rfl ?_
        exact kr_v hx hb hr hV hK hX hAe hw d_K_write_94
    · have hw := hw.2 hc
      refine lv_aload_n hx hb d_K_write_39 rfl (lv_at hl 3 rfl) ?_
      refine lv_iconst (v := -1) hx hb d_K_write_40 (by decide) ?_
      refine kc_K_P_push hx hb hml hown hts hV hK hX hAe (c_P_push l E s7 p1 hp1 (-1 : Int32) _ hw) hp1 hl.1 (Nat.le_of_ble_eq_true rfl) d_K_write_41 (Nat.le_of_ble_eq_true rfl) (Nat.le_of_ble_eq_true rfl) (fun s18 H locs hw hV => ?_)
      refine lv_goto (tgt := 94) hx hb d_K_write_44 rfl ?_
      exact kr_v hx hb hr hV hK hX hAe hw d_K_write_94
  · have hw := hw.2 hc
    refine lv_aload_n hx hb d_K_write_19 rfl (lv_at hl 2 rfl) ?_
    refine lv_iload_n hx hb d_K_write_20 rfl (lv_at hl 0 rfl) ?_
    refine kc_K_K_print hx hb hml hown hts hV hK hX hAe (c_K_print l E s5 r6 _ hw) hl.1 (Nat.le_of_ble_eq_true rfl) d_K_write_21 (Nat.le_of_ble_eq_true rfl) (Nat.le_of_ble_eq_true rfl) (fun s19 H locs hw hV => ?_)
    refine lv_aload_n hx hb d_K_write_24 rfl (lv_at hl 3 rfl) ?_
    refine lv_iconst (v := 1) hx hb d_K_write_25 (by decide) ?_
    refine kc_K_P_push hx hb hml hown hts hV hK hX hAe (c_P_push l E s19 p1 hp1 (1 : Int32) _ hw) hp1 hl.1 (Nat.le_of_ble_eq_true rfl) d_K_write_26 (Nat.le_of_ble_eq_true rfl) (Nat.le_of_ble_eq_true rfl) (fun s20 H locs hw hV => ?_)
    refine lv_goto (tgt := 94) hx hb d_K_write_29 rfl ?_
    exact kr_v hx hb hr hV hK hX hAe hw d_K_write_94
theorem d_K_perform_0 : decode b_K_perform 0 = .ok (.aload_n 1, 1) := by decide +kernel
theorem d_K_perform_1 : decode b_K_perform 1 = .ok (.invokevirtual 207, 3) := by decide +kernel
theorem d_K_perform_4 : decode b_K_perform 4 = .ok (.istore_n 2, 1) := by decide +kernel
theorem d_K_perform_5 : decode b_K_perform 5 = .ok (.aload_n 1, 1) := by decide +kernel
theorem d_K_perform_6 : decode b_K_perform 6 = .ok (.invokevirtual 250, 3) := by decide +kernel
theorem d_K_perform_9 : decode b_K_perform 9 = .ok (.istore_n 3, 1) := by decide +kernel
theorem d_K_perform_10 : decode b_K_perform 10 = .ok (.aload_n 1, 1) := by decide +kernel
theorem d_K_perform_11 : decode b_K_perform 11 = .ok (.dup, 1) := by decide +kernel
theorem d_K_perform_12 : decode b_K_perform 12 = .ok (.getfield 134, 3) := by decide +kernel
theorem d_K_perform_15 : decode b_K_perform 15 = .ok (.iconst 1, 1) := by decide +kernel
theorem d_K_perform_16 : decode b_K_perform 16 = .ok (.iadd, 1) := by decide +kernel
theorem d_K_perform_17 : decode b_K_perform 17 = .ok (.putfield 134, 3) := by decide +kernel
theorem d_K_perform_20 : decode b_K_perform 20 = .ok (.iload_n 2, 1) := by decide +kernel
theorem d_K_perform_21 : decode b_K_perform 21 = .ok (.tableswitch 166 30 41 #[63, 75, 86, 94, 102, 110, 118, 126, 134, 142, 150, 158], 63) := by decide +kernel
theorem d_K_perform_84 : decode b_K_perform 84 = .ok (.aload_n 0, 1) := by decide +kernel
theorem d_K_perform_85 : decode b_K_perform 85 = .ok (.aload_n 1, 1) := by decide +kernel
theorem d_K_perform_86 : decode b_K_perform 86 = .ok (.aload_n 1, 1) := by decide +kernel
theorem d_K_perform_87 : decode b_K_perform 87 = .ok (.invokevirtual 253, 3) := by decide +kernel
theorem d_K_perform_90 : decode b_K_perform 90 = .ok (.invokevirtual 187, 3) := by decide +kernel
theorem d_K_perform_93 : decode b_K_perform 93 = .ok (.goto 100, 3) := by decide +kernel
theorem d_K_perform_96 : decode b_K_perform 96 = .ok (.aload_n 1, 1) := by decide +kernel
theorem d_K_perform_97 : decode b_K_perform 97 = .ok (.aload_n 1, 1) := by decide +kernel
theorem d_K_perform_98 : decode b_K_perform 98 = .ok (.getfield 256, 3) := by decide +kernel
theorem d_K_perform_101 : decode b_K_perform 101 = .ok (.invokevirtual 259, 3) := by decide +kernel
theorem d_K_perform_104 : decode b_K_perform 104 = .ok (.goto 89, 3) := by decide +kernel
theorem d_K_perform_107 : decode b_K_perform 107 = .ok (.aload_n 0, 1) := by decide +kernel
theorem d_K_perform_108 : decode b_K_perform 108 = .ok (.aload_n 1, 1) := by decide +kernel
theorem d_K_perform_109 : decode b_K_perform 109 = .ok (.invokevirtual 204, 3) := by decide +kernel
theorem d_K_perform_112 : decode b_K_perform 112 = .ok (.goto 81, 3) := by decide +kernel
theorem d_K_perform_115 : decode b_K_perform 115 = .ok (.aload_n 0, 1) := by decide +kernel
theorem d_K_perform_116 : decode b_K_perform 116 = .ok (.aload_n 1, 1) := by decide +kernel
theorem d_K_perform_117 : decode b_K_perform 117 = .ok (.invokevirtual 262, 3) := by decide +kernel
theorem d_K_perform_120 : decode b_K_perform 120 = .ok (.goto 73, 3) := by decide +kernel
theorem d_K_perform_123 : decode b_K_perform 123 = .ok (.aload_n 0, 1) := by decide +kernel
theorem d_K_perform_124 : decode b_K_perform 124 = .ok (.aload_n 1, 1) := by decide +kernel
theorem d_K_perform_125 : decode b_K_perform 125 = .ok (.invokevirtual 265, 3) := by decide +kernel
theorem d_K_perform_128 : decode b_K_perform 128 = .ok (.goto 65, 3) := by decide +kernel
theorem d_K_perform_131 : decode b_K_perform 131 = .ok (.aload_n 0, 1) := by decide +kernel
theorem d_K_perform_132 : decode b_K_perform 132 = .ok (.aload_n 1, 1) := by decide +kernel
theorem d_K_perform_133 : decode b_K_perform 133 = .ok (.invokevirtual 268, 3) := by decide +kernel
theorem d_K_perform_136 : decode b_K_perform 136 = .ok (.goto 57, 3) := by decide +kernel
theorem d_K_perform_139 : decode b_K_perform 139 = .ok (.aload_n 0, 1) := by decide +kernel
theorem d_K_perform_140 : decode b_K_perform 140 = .ok (.aload_n 1, 1) := by decide +kernel
theorem d_K_perform_141 : decode b_K_perform 141 = .ok (.invokevirtual 271, 3) := by decide +kernel
theorem d_K_perform_144 : decode b_K_perform 144 = .ok (.goto 49, 3) := by decide +kernel
theorem d_K_perform_147 : decode b_K_perform 147 = .ok (.aload_n 0, 1) := by decide +kernel
theorem d_K_perform_148 : decode b_K_perform 148 = .ok (.aload_n 1, 1) := by decide +kernel
theorem d_K_perform_149 : decode b_K_perform 149 = .ok (.invokevirtual 274, 3) := by decide +kernel
theorem d_K_perform_152 : decode b_K_perform 152 = .ok (.goto 41, 3) := by decide +kernel
theorem d_K_perform_155 : decode b_K_perform 155 = .ok (.aload_n 0, 1) := by decide +kernel
theorem d_K_perform_156 : decode b_K_perform 156 = .ok (.aload_n 1, 1) := by decide +kernel
theorem d_K_perform_157 : decode b_K_perform 157 = .ok (.invokevirtual 277, 3) := by decide +kernel
theorem d_K_perform_160 : decode b_K_perform 160 = .ok (.goto 33, 3) := by decide +kernel
theorem d_K_perform_163 : decode b_K_perform 163 = .ok (.aload_n 0, 1) := by decide +kernel
theorem d_K_perform_164 : decode b_K_perform 164 = .ok (.aload_n 1, 1) := by decide +kernel
theorem d_K_perform_165 : decode b_K_perform 165 = .ok (.invokevirtual 280, 3) := by decide +kernel
theorem d_K_perform_168 : decode b_K_perform 168 = .ok (.goto 25, 3) := by decide +kernel
theorem d_K_perform_171 : decode b_K_perform 171 = .ok (.aload_n 0, 1) := by decide +kernel
theorem d_K_perform_172 : decode b_K_perform 172 = .ok (.aload_n 1, 1) := by decide +kernel
theorem d_K_perform_173 : decode b_K_perform 173 = .ok (.invokevirtual 283, 3) := by decide +kernel
theorem d_K_perform_176 : decode b_K_perform 176 = .ok (.goto 17, 3) := by decide +kernel
theorem d_K_perform_179 : decode b_K_perform 179 = .ok (.aload_n 0, 1) := by decide +kernel
theorem d_K_perform_180 : decode b_K_perform 180 = .ok (.aload_n 1, 1) := by decide +kernel
theorem d_K_perform_181 : decode b_K_perform 181 = .ok (.invokevirtual 286, 3) := by decide +kernel
theorem d_K_perform_184 : decode b_K_perform 184 = .ok (.goto 9, 3) := by decide +kernel
theorem d_K_perform_187 : decode b_K_perform 187 = .ok (.aload_n 1, 1) := by decide +kernel
theorem d_K_perform_188 : decode b_K_perform 188 = .ok (.iload_n 2, 1) := by decide +kernel
theorem d_K_perform_189 : decode b_K_perform 189 = .ok (.iload_n 3, 1) := by decide +kernel
theorem d_K_perform_190 : decode b_K_perform 190 = .ok (.invokevirtual 289, 3) := by decide +kernel
theorem d_K_perform_193 : decode b_K_perform 193 = .ok (.return_, 1) := by decide +kernel
def w_K_perform (cp : Nat) (p1 : Nat) (s0 : KS) (Φ : KS → Prop) : Prop := w_P_kind cp p1 s0 (fun r2 s1 => w_P_operand cp p1 s1 (fun r4 s3 => ∀ s5 : KS, s5 = w3 s3 1 p1 5 ((s3 1 p1 5) + (1 : Int32)) → ((r2 = 30 → w_P_pop cp p1 s5 (fun r7 s6 => w_K_end cp p1 r7 s6 (fun s8 => Φ s8))) ∧ ((r2 = 31 → w_P_push cp p1 (s5 1 p1 0) s5 (fun s9 => Φ s9)) ∧ ((r2 = 32 → w_K_goToQueueEnd cp p1 s5 (fun s10 => Φ s10)) ∧ ((r2 = 33 → w_K_write cp p1 s5 (fun s11 => Φ s11)) ∧ ((r2 = 34 → w_K_read cp p1 s5 (fun s12 => Φ s12)) ∧ ((r2 = 35 → w_K_fork cp p1 s5 (fun s13 => Φ s13)) ∧ ((r2 = 36 → w_K_takeEndedChild cp p1 s5 (fun s14 => Φ s14)) ∧ ((r2 = 37 → w_K_kill cp p1 s5 (fun s15 => Φ s15)) ∧ ((r2 = 38 → w_K_openPipe cp p1 s5 (fun s16 => Φ s16)) ∧ ((r2 = 39 → w_K_close cp p1 s5 (fun s17 => Φ s17)) ∧ ((r2 = 40 → w_K_duplicate cp p1 s5 (fun s18 => Φ s18)) ∧ ((r2 = 41 → w_K_sleep cp p1 s5 (fun s19 => Φ s19)) ∧ (¬ r2 = 30 ∧ ¬ r2 = 31 ∧ ¬ r2 = 32 ∧ ¬ r2 = 33 ∧ ¬ r2 = 34 ∧ ¬ r2 = 35 ∧ ¬ r2 = 36 ∧ ¬ r2 = 37 ∧ ¬ r2 = 38 ∧ ¬ r2 = 39 ∧ ¬ r2 = 40 ∧ ¬ r2 = 41 → w_P_compute cp p1 r2 r4 s5 (fun s20 => Φ s20))))))))))))))))
set_option maxHeartbeats 4000000 in
set_option maxRecDepth 100000 in
theorem c_K_perform (l : Launch) (E : gE) (s0 : KS) (p1 : Nat) (hp1 : p1 < 16) (Φ : KS → Prop) (hw : w_K_perform (eN E) p1 s0 Φ) : gMv l y_K_perform v_K_perform m_K_perform E KK [.ref (ea E 0 0), .ref (ea E 1 p1)] s0 Φ := by
  intro sz
  refine Met.ofW (cc := b_K_perform) (maxL := 4) (ret := none) (by decide) rfl ?_
  intro p e s m args below meth c s₁ B hml hv
  obtain ⟨rfl, hsz, hP, hK, hD, hX⟩ := hv
  have hx := B.exec
  have hb := B.bytes
  have hr := B.returns
  have hts := atoms_spec (ws := v_K_perform) B.pre
  have hG : ∀ w ∈ gG, w.before _ s = true := fun w h => hts w (List.mem_cons_of_mem _ h)
  have hown : s.vm.findClass R_K = some m.cls := findClass_of_methodNamed B.named
  have hlocks := B.notSynchronized
  subst hsz
  obtain ⟨A, hAe⟩ : ∃ A, A = gA E KK s.heap.size := ⟨_, rfl⟩
  rw [← hAe] at hD hX ⊢
  have hV : gV E KK A s0 s s.heap [] := ⟨hP, hD, va_S.rf⟩
  have hl := lv_entry ([.ref (ea E 0 0), .ref (ea E 1 p1)] : List Value) (n := 4) (Nat.le_of_ble_eq_true rfl)
  rw [lg_entry_eq]
  generalize (lg_sl ([.ref (ea E 0 0), .ref (ea E 1 p1)] : List Value) ++ List.replicate (4 - (lg_sl ([.ref (ea E 0 0), .ref (ea E 1 p1)] : List Value)).length) Slot.unset).toArray = ls at hl ⊢
  have hl : lv_has ls 4 [(0, .ref (ea E 0 0)), (1, .ref (ea E 1 p1))] := hl
  unfold w_K_perform at hw
  refine lv_aload_n hx hb d_K_perform_0 rfl (lv_at hl 1 rfl) ?_
  refine kc_K_P_kind hx hb hml hown hts hV hK hX hAe (c_P_kind l E s0 p1 hp1 _ hw) hp1 hl.1 (Nat.le_of_ble_eq_true rfl) d_K_perform_1 (Nat.le_of_ble_eq_true rfl) (Nat.le_of_ble_eq_true rfl) (fun r2 s1 H locs hw hV => ?_)
  refine lv_istore_n (lv' := [(2, .int r2), (0, .ref (ea E 0 0)), (1, .ref (ea E 1 p1))]) hx hb d_K_perform_4 rfl hl (by decide) rfl (fun ls hl => ?_)
  refine lv_aload_n hx hb d_K_perform_5 rfl (lv_at hl 2 rfl) ?_
  refine kc_K_P_operand hx hb hml hown hts hV hK hX hAe (c_P_operand l E s1 p1 hp1 _ hw) hp1 hl.1 (Nat.le_of_ble_eq_true rfl) d_K_perform_6 (Nat.le_of_ble_eq_true rfl) (Nat.le_of_ble_eq_true rfl) (fun r4 s3 H locs hw hV => ?_)
  refine lv_istore_n (lv' := [(3, .int r4), (2, .int r2), (0, .ref (ea E 0 0)), (1, .ref (ea E 1 p1))]) hx hb d_K_perform_9 rfl hl (by decide) rfl (fun ls hl => ?_)
  refine lv_aload_n hx hb d_K_perform_10 rfl (lv_at hl 3 rfl) ?_
  refine lv_dup hx hb d_K_perform_11 rfl ?_
  refine kg_K_P_place hx hb hG hown hK hV hp1 d_K_perform_12 ?_
  refine lv_iconst (v := 1) hx hb d_K_perform_15 (by decide) ?_
  refine lv_iadd hx hb d_K_perform_16 ?_
  refine kp_K_P_place hx hb hG hown hK hV hp1 d_K_perform_17 (fun s5 H locs es5 hV => ?_)
  have hw := hw s5 es5
  refine lv_iload_n hx hb d_K_perform_20 rfl (lv_at hl 1 rfl) ?_
  have hsw := hw
  by_cases hc30 : r2 = 30
  · have hw := hsw.1 hc30
    refine lv_tableIn (off := 63) (tgt := 84) hx hb d_K_perform_21 (by rw [hc30]; decide) (by rw [hc30]; decide) (by rw [hc30]; decide) rfl ?_
    refine lv_aload_n hx hb d_K_perform_84 rfl (lv_at hl 2 rfl) ?_
    refine lv_aload_n hx hb d_K_perform_85 rfl (lv_at hl 3 rfl) ?_
    refine lv_aload_n hx hb d_K_perform_86 rfl (lv_at hl 3 rfl) ?_
    refine kc_K_P_pop hx hb hml hown hts hV hK hX hAe (c_P_pop l E s5 p1 hp1 _ hw) hp1 hl.1 (Nat.le_of_ble_eq_true rfl) d_K_perform_87 (Nat.le_of_ble_eq_true rfl) (Nat.le_of_ble_eq_true rfl) (fun r7 s6 H locs hw hV => ?_)
    refine kc_K_K_end hx hb hml hown hts hV hK hX hAe (c_K_end l E s6 p1 hp1 r7 _ hw) hl.1 (Nat.le_of_ble_eq_true rfl) d_K_perform_90 (Nat.le_of_ble_eq_true rfl) (Nat.le_of_ble_eq_true rfl) (fun s8 H locs hw hV => ?_)
    refine lv_goto (tgt := 193) hx hb d_K_perform_93 rfl ?_
    exact kr_v hx hb hr hV hK hX hAe hw d_K_perform_193
  have hsw := hsw.2
  by_cases hc31 : r2 = 31
  · have hw := hsw.1 hc31
    refine lv_tableIn (off := 75) (tgt := 96) hx hb d_K_perform_21 (by rw [hc31]; decide) (by rw [hc31]; decide) (by rw [hc31]; decide) rfl ?_
    refine lv_aload_n hx hb d_K_perform_96 rfl (lv_at hl 3 rfl) ?_
    refine lv_aload_n hx hb d_K_perform_97 rfl (lv_at hl 3 rfl) ?_
    refine kg_K_P_number hx hb hG hown hK hV hp1 d_K_perform_98 ?_
    refine kc_K_P_push hx hb hml hown hts hV hK hX hAe (c_P_push l E s5 p1 hp1 (s5 1 p1 0) _ hw) hp1 hl.1 (Nat.le_of_ble_eq_true rfl) d_K_perform_101 (Nat.le_of_ble_eq_true rfl) (Nat.le_of_ble_eq_true rfl) (fun s9 H locs hw hV => ?_)
    refine lv_goto (tgt := 193) hx hb d_K_perform_104 rfl ?_
    exact kr_v hx hb hr hV hK hX hAe hw d_K_perform_193
  have hsw := hsw.2
  by_cases hc32 : r2 = 32
  · have hw := hsw.1 hc32
    refine lv_tableIn (off := 86) (tgt := 107) hx hb d_K_perform_21 (by rw [hc32]; decide) (by rw [hc32]; decide) (by rw [hc32]; decide) rfl ?_
    refine lv_aload_n hx hb d_K_perform_107 rfl (lv_at hl 2 rfl) ?_
    refine lv_aload_n hx hb d_K_perform_108 rfl (lv_at hl 3 rfl) ?_
    refine kc_K_K_goToQueueEnd hx hb hml hown hts hV hK hX hAe (c_K_goToQueueEnd l E s5 p1 hp1 _ hw) hl.1 (Nat.le_of_ble_eq_true rfl) d_K_perform_109 (Nat.le_of_ble_eq_true rfl) (Nat.le_of_ble_eq_true rfl) (fun s10 H locs hw hV => ?_)
    refine lv_goto (tgt := 193) hx hb d_K_perform_112 rfl ?_
    exact kr_v hx hb hr hV hK hX hAe hw d_K_perform_193
  have hsw := hsw.2
  by_cases hc33 : r2 = 33
  · have hw := hsw.1 hc33
    refine lv_tableIn (off := 94) (tgt := 115) hx hb d_K_perform_21 (by rw [hc33]; decide) (by rw [hc33]; decide) (by rw [hc33]; decide) rfl ?_
    refine lv_aload_n hx hb d_K_perform_115 rfl (lv_at hl 2 rfl) ?_
    refine lv_aload_n hx hb d_K_perform_116 rfl (lv_at hl 3 rfl) ?_
    refine kc_K_K_write hx hb hml hown hts hV hK hX hAe (c_K_write l E s5 p1 hp1 _ hw) hl.1 (Nat.le_of_ble_eq_true rfl) d_K_perform_117 (Nat.le_of_ble_eq_true rfl) (Nat.le_of_ble_eq_true rfl) (fun s11 H locs hw hV => ?_)
    refine lv_goto (tgt := 193) hx hb d_K_perform_120 rfl ?_
    exact kr_v hx hb hr hV hK hX hAe hw d_K_perform_193
  have hsw := hsw.2
  by_cases hc34 : r2 = 34
  · have hw := hsw.1 hc34
    refine lv_tableIn (off := 102) (tgt := 123) hx hb d_K_perform_21 (by rw [hc34]; decide) (by rw [hc34]; decide) (by rw [hc34]; decide) rfl ?_
    refine lv_aload_n hx hb d_K_perform_123 rfl (lv_at hl 2 rfl) ?_
    refine lv_aload_n hx hb d_K_perform_124 rfl (lv_at hl 3 rfl) ?_
    refine kc_K_K_read hx hb hml hown hts hV hK hX hAe (c_K_read l E s5 p1 hp1 _ hw) hl.1 (Nat.le_of_ble_eq_true rfl) d_K_perform_125 (Nat.le_of_ble_eq_true rfl) (Nat.le_of_ble_eq_true rfl) (fun s12 H locs hw hV => ?_)
    refine lv_goto (tgt := 193) hx hb d_K_perform_128 rfl ?_
    exact kr_v hx hb hr hV hK hX hAe hw d_K_perform_193
  have hsw := hsw.2
  by_cases hc35 : r2 = 35
  · have hw := hsw.1 hc35
    refine lv_tableIn (off := 110) (tgt := 131) hx hb d_K_perform_21 (by rw [hc35]; decide) (by rw [hc35]; decide) (by rw [hc35]; decide) rfl ?_
    refine lv_aload_n hx hb d_K_perform_131 rfl (lv_at hl 2 rfl) ?_
    refine lv_aload_n hx hb d_K_perform_132 rfl (lv_at hl 3 rfl) ?_
    refine kc_K_K_fork hx hb hml hown hts hV hK hX hAe (c_K_fork l E s5 p1 hp1 _ hw) hl.1 (Nat.le_of_ble_eq_true rfl) d_K_perform_133 (Nat.le_of_ble_eq_true rfl) (Nat.le_of_ble_eq_true rfl) (fun s13 H locs hw hV => ?_)
    refine lv_goto (tgt := 193) hx hb d_K_perform_136 rfl ?_
    exact kr_v hx hb hr hV hK hX hAe hw d_K_perform_193
  have hsw := hsw.2
  by_cases hc36 : r2 = 36
  · have hw := hsw.1 hc36
    refine lv_tableIn (off := 118) (tgt := 139) hx hb d_K_perform_21 (by rw [hc36]; decide) (by rw [hc36]; decide) (by rw [hc36]; decide) rfl ?_
    refine lv_aload_n hx hb d_K_perform_139 rfl (lv_at hl 2 rfl) ?_
    refine lv_aload_n hx hb d_K_perform_140 rfl (lv_at hl 3 rfl) ?_
    refine kc_K_K_takeEndedChild hx hb hml hown hts hV hK hX hAe (c_K_takeEndedChild l E s5 p1 hp1 _ hw) hl.1 (Nat.le_of_ble_eq_true rfl) d_K_perform_141 (Nat.le_of_ble_eq_true rfl) (Nat.le_of_ble_eq_true rfl) (fun s14 H locs hw hV => ?_)
    refine lv_goto (tgt := 193) hx hb d_K_perform_144 rfl ?_
    exact kr_v hx hb hr hV hK hX hAe hw d_K_perform_193
  have hsw := hsw.2
  by_cases hc37 : r2 = 37
  · have hw := hsw.1 hc37
    refine lv_tableIn (off := 126) (tgt := 147) hx hb d_K_perform_21 (by rw [hc37]; decide) (by rw [hc37]; decide) (by rw [hc37]; decide) rfl ?_
    refine lv_aload_n hx hb d_K_perform_147 rfl (lv_at hl 2 rfl) ?_
    refine lv_aload_n hx hb d_K_perform_148 rfl (lv_at hl 3 rfl) ?_
    refine kc_K_K_kill hx hb hml hown hts hV hK hX hAe (c_K_kill l E s5 p1 hp1 _ hw) hl.1 (Nat.le_of_ble_eq_true rfl) d_K_perform_149 (Nat.le_of_ble_eq_true rfl) (Nat.le_of_ble_eq_true rfl) (fun s15 H locs hw hV => ?_)
    refine lv_goto (tgt := 193) hx hb d_K_perform_152 rfl ?_
    exact kr_v hx hb hr hV hK hX hAe hw d_K_perform_193
  have hsw := hsw.2
  by_cases hc38 : r2 = 38
  · have hw := hsw.1 hc38
    refine lv_tableIn (off := 134) (tgt := 155) hx hb d_K_perform_21 (by rw [hc38]; decide) (by rw [hc38]; decide) (by rw [hc38]; decide) rfl ?_
    refine lv_aload_n hx hb d_K_perform_155 rfl (lv_at hl 2 rfl) ?_
    refine lv_aload_n hx hb d_K_perform_156 rfl (lv_at hl 3 rfl) ?_
    refine kc_K_K_openPipe hx hb hml hown hts hV hK hX hAe (c_K_openPipe l E s5 p1 hp1 _ hw) hl.1 (Nat.le_of_ble_eq_true rfl) d_K_perform_157 (Nat.le_of_ble_eq_true rfl) (Nat.le_of_ble_eq_true rfl) (fun s16 H locs hw hV => ?_)
    refine lv_goto (tgt := 193) hx hb d_K_perform_160 rfl ?_
    exact kr_v hx hb hr hV hK hX hAe hw d_K_perform_193
  have hsw := hsw.2
  by_cases hc39 : r2 = 39
  · have hw := hsw.1 hc39
    refine lv_tableIn (off := 142) (tgt := 163) hx hb d_K_perform_21 (by rw [hc39]; decide) (by rw [hc39]; decide) (by rw [hc39]; decide) rfl ?_
    refine lv_aload_n hx hb d_K_perform_163 rfl (lv_at hl 2 rfl) ?_
    refine lv_aload_n hx hb d_K_perform_164 rfl (lv_at hl 3 rfl) ?_
    refine kc_K_K_close hx hb hml hown hts hV hK hX hAe (c_K_close l E s5 p1 hp1 _ hw) hl.1 (Nat.le_of_ble_eq_true rfl) d_K_perform_165 (Nat.le_of_ble_eq_true rfl) (Nat.le_of_ble_eq_true rfl) (fun s17 H locs hw hV => ?_)
    refine lv_goto (tgt := 193) hx hb d_K_perform_168 rfl ?_
    exact kr_v hx hb hr hV hK hX hAe hw d_K_perform_193
  have hsw := hsw.2
  by_cases hc40 : r2 = 40
  · have hw := hsw.1 hc40
    refine lv_tableIn (off := 150) (tgt := 171) hx hb d_K_perform_21 (by rw [hc40]; decide) (by rw [hc40]; decide) (by rw [hc40]; decide) rfl ?_
    refine lv_aload_n hx hb d_K_perform_171 rfl (lv_at hl 2 rfl) ?_
    refine lv_aload_n hx hb d_K_perform_172 rfl (lv_at hl 3 rfl) ?_
    refine kc_K_K_duplicate hx hb hml hown hts hV hK hX hAe (c_K_duplicate l E s5 p1 hp1 _ hw) hl.1 (Nat.le_of_ble_eq_true rfl) d_K_perform_173 (Nat.le_of_ble_eq_true rfl) (Nat.le_of_ble_eq_true rfl) (fun s18 H locs hw hV => ?_)
    refine lv_goto (tgt := 193) hx hb d_K_perform_176 rfl ?_
    exact kr_v hx hb hr hV hK hX hAe hw d_K_perform_193
  have hsw := hsw.2
  by_cases hc41 : r2 = 41
  · have hw := hsw.1 hc41
    refine lv_tableIn (off := 158) (tgt := 179) hx hb d_K_perform_21 (by rw [hc41]; decide) (by rw [hc41]; decide) (by rw [hc41]; decide) rfl ?_
    refine lv_aload_n hx hb d_K_perform_179 rfl (lv_at hl 2 rfl) ?_
    refine lv_aload_n hx hb d_K_perform_180 rfl (lv_at hl 3 rfl) ?_
    refine kc_K_K_sleep hx hb hml hown hts hV hK hX hAe (c_K_sleep l E s5 p1 hp1 _ hw) hl.1 (Nat.le_of_ble_eq_true rfl) d_K_perform_181 (Nat.le_of_ble_eq_true rfl) (Nat.le_of_ble_eq_true rfl) (fun s19 H locs hw hV => ?_)
    refine lv_goto (tgt := 193) hx hb d_K_perform_184 rfl ?_
    exact kr_v hx hb hr hV hK hX hAe hw d_K_perform_193
  have hsw := hsw.2
  have hw := hsw ⟨hc30, hc31, hc32, hc33, hc34, hc35, hc36, hc37, hc38, hc39, hc40, hc41⟩
  refine kr_dflt (g2 := F0 m 187 ls []) ?_ (fun kd => ?_)
  · refine lv_aload_n hx hb d_K_perform_187 rfl (lv_at hl 3 rfl) ?_
    refine lv_iload_n hx hb d_K_perform_188 rfl (lv_at hl 1 rfl) ?_
    refine lv_iload_n hx hb d_K_perform_189 rfl (lv_at hl 0 rfl) ?_
    refine kc_K_P_compute hx hb hml hown hts hV hK hX hAe (c_P_compute l E s5 p1 hp1 r2 r4 _ hw) hp1 hl.1 (Nat.le_of_ble_eq_true rfl) d_K_perform_190 (Nat.le_of_ble_eq_true rfl) (Nat.le_of_ble_eq_true rfl) (fun s20 H locs hw hV => ?_)
    exact kr_v hx hb hr hV hK hX hAe hw d_K_perform_193
  have hn30 : ¬ r2.toInt = 30 := lv_neT hc30 (by decide)
  have hn31 : ¬ r2.toInt = 31 := lv_neT hc31 (by decide)
  have hn32 : ¬ r2.toInt = 32 := lv_neT hc32 (by decide)
  have hn33 : ¬ r2.toInt = 33 := lv_neT hc33 (by decide)
  have hn34 : ¬ r2.toInt = 34 := lv_neT hc34 (by decide)
  have hn35 : ¬ r2.toInt = 35 := lv_neT hc35 (by decide)
  have hn36 : ¬ r2.toInt = 36 := lv_neT hc36 (by decide)
  have hn37 : ¬ r2.toInt = 37 := lv_neT hc37 (by decide)
  have hn38 : ¬ r2.toInt = 38 := lv_neT hc38 (by decide)
  have hn39 : ¬ r2.toInt = 39 := lv_neT hc39 (by decide)
  have hn40 : ¬ r2.toInt = 40 := lv_neT hc40 (by decide)
  have hn41 : ¬ r2.toInt = 41 := lv_neT hc41 (by decide)
  exact lv_tableOut (tgt := 187) hx hb d_K_perform_21 (by omega) rfl kd
theorem d_K_wakeSleepers_0 : decode b_K_wakeSleepers 0 = .ok (.iconst 0, 1) := by decide +kernel
theorem d_K_wakeSleepers_1 : decode b_K_wakeSleepers 1 = .ok (.istore_n 1, 1) := by decide +kernel
theorem d_K_wakeSleepers_2 : decode b_K_wakeSleepers 2 = .ok (.iload_n 1, 1) := by decide +kernel
theorem d_K_wakeSleepers_3 : decode b_K_wakeSleepers 3 = .ok (.bipush 16, 2) := by decide +kernel
theorem d_K_wakeSleepers_5 : decode b_K_wakeSleepers 5 = .ok (.if_icmp .ge 48, 3) := by decide +kernel
theorem d_K_wakeSleepers_8 : decode b_K_wakeSleepers 8 = .ok (.aload_n 0, 1) := by decide +kernel
theorem d_K_wakeSleepers_9 : decode b_K_wakeSleepers 9 = .ok (.getfield 11, 3) := by decide +kernel
theorem d_K_wakeSleepers_12 : decode b_K_wakeSleepers 12 = .ok (.iload_n 1, 1) := by decide +kernel
theorem d_K_wakeSleepers_13 : decode b_K_wakeSleepers 13 = .ok (.aaload, 1) := by decide +kernel
theorem d_K_wakeSleepers_14 : decode b_K_wakeSleepers 14 = .ok (.getfield 127, 3) := by decide +kernel
theorem d_K_wakeSleepers_17 : decode b_K_wakeSleepers 17 = .ok (.iconst 5, 1) := by decide +kernel
theorem d_K_wakeSleepers_18 : decode b_K_wakeSleepers 18 = .ok (.if_icmp .ne 29, 3) := by decide +kernel
theorem d_K_wakeSleepers_21 : decode b_K_wakeSleepers 21 = .ok (.aload_n 0, 1) := by decide +kernel
theorem d_K_wakeSleepers_22 : decode b_K_wakeSleepers 22 = .ok (.getfield 11, 3) := by decide +kernel
theorem d_K_wakeSleepers_25 : decode b_K_wakeSleepers 25 = .ok (.iload_n 1, 1) := by decide +kernel
theorem d_K_wakeSleepers_26 : decode b_K_wakeSleepers 26 = .ok (.aaload, 1) := by decide +kernel
theorem d_K_wakeSleepers_27 : decode b_K_wakeSleepers 27 = .ok (.getfield 146, 3) := by decide +kernel
theorem d_K_wakeSleepers_30 : decode b_K_wakeSleepers 30 = .ok (.aload_n 0, 1) := by decide +kernel
theorem d_K_wakeSleepers_31 : decode b_K_wakeSleepers 31 = .ok (.getfield 35, 3) := by decide +kernel
theorem d_K_wakeSleepers_34 : decode b_K_wakeSleepers 34 = .ok (.if_icmp .gt 13, 3) := by decide +kernel
theorem d_K_wakeSleepers_37 : decode b_K_wakeSleepers 37 = .ok (.aload_n 0, 1) := by decide +kernel
theorem d_K_wakeSleepers_38 : decode b_K_wakeSleepers 38 = .ok (.aload_n 0, 1) := by decide +kernel
theorem d_K_wakeSleepers_39 : decode b_K_wakeSleepers 39 = .ok (.getfield 11, 3) := by decide +kernel
theorem d_K_wakeSleepers_42 : decode b_K_wakeSleepers 42 = .ok (.iload_n 1, 1) := by decide +kernel
theorem d_K_wakeSleepers_43 : decode b_K_wakeSleepers 43 = .ok (.aaload, 1) := by decide +kernel
theorem d_K_wakeSleepers_44 : decode b_K_wakeSleepers 44 = .ok (.invokevirtual 92, 3) := by decide +kernel
theorem d_K_wakeSleepers_47 : decode b_K_wakeSleepers 47 = .ok (.iinc 1 1, 3) := by decide +kernel
theorem d_K_wakeSleepers_50 : decode b_K_wakeSleepers 50 = .ok (.goto (-48), 3) := by decide +kernel
theorem d_K_wakeSleepers_53 : decode b_K_wakeSleepers 53 = .ok (.return_, 1) := by decide +kernel
def w_K_wakeSleepers_2 (cp : Nat) (Φ : KS → Prop) : Nat → Int32 → KS → Prop
  | 0, _, _ => False
  | n + 1, v1, s0 => (((16 : Int32) ≤ v1 → Φ s0) ∧ (¬ (16 : Int32) ≤ v1 → vp_in v1 16 ∧ ((¬ (s0 1 v1.toNatClampNeg 7) = (5 : Int32) → ∀ y2 : Int32, y2 = v1 + (1 : Int32) → w_K_wakeSleepers_2 cp Φ n y2 s0) ∧ ((s0 1 v1.toNatClampNeg 7) = (5 : Int32) → vp_in v1 16 ∧ (((s0 0 0 7) < (s0 1 v1.toNatClampNeg 9) → ∀ y4 : Int32, y4 = v1 + (1 : Int32) → w_K_wakeSleepers_2 cp Φ n y4 s0) ∧ (¬ (s0 0 0 7) < (s0 1 v1.toNatClampNeg 9) → vp_in v1 16 ∧ w_K_makeReady cp v1.toNatClampNeg s0 (fun s6 => ∀ y7 : Int32, y7 = v1 + (1 : Int32) → w_K_wakeSleepers_2 cp Φ n y7 s6)))))))
def w_K_wakeSleepers (cp : Nat) (s0 : KS) (Φ : KS → Prop) : Prop := ∃ nn : Nat, w_K_wakeSleepers_2 cp Φ nn (0 : Int32) s0
set_option maxHeartbeats 4000000 in
set_option maxRecDepth 100000 in
theorem c_K_wakeSleepers (l : Launch) (E : gE) (s0 : KS)  (Φ : KS → Prop) (hw : w_K_wakeSleepers (eN E) s0 Φ) : gMv l y_K_wakeSleepers v_K_wakeSleepers m_K_wakeSleepers E KK [.ref (ea E 0 0)] s0 Φ := by
  intro sz
  refine Met.ofW (cc := b_K_wakeSleepers) (maxL := 2) (ret := none) (by decide) rfl ?_
  intro p e s m args below meth c s₁ B hml hv
  obtain ⟨rfl, hsz, hP, hK, hD, hX⟩ := hv
  have hx := B.exec
  have hb := B.bytes
  have hr := B.returns
  have hts := atoms_spec (ws := v_K_wakeSleepers) B.pre
  have hG : ∀ w ∈ gG, w.before _ s = true := fun w h => hts w (List.mem_cons_of_mem _ h)
  have hown : s.vm.findClass R_K = some m.cls := findClass_of_methodNamed B.named
  have hlocks := B.notSynchronized
  subst hsz
  obtain ⟨A, hAe⟩ : ∃ A, A = gA E KK s.heap.size := ⟨_, rfl⟩
  rw [← hAe] at hD hX ⊢
  have hV : gV E KK A s0 s s.heap [] := ⟨hP, hD, va_S.rf⟩
  have hl := lv_entry ([.ref (ea E 0 0)] : List Value) (n := 2) (Nat.le_of_ble_eq_true rfl)
  rw [lg_entry_eq]
  generalize (lg_sl ([.ref (ea E 0 0)] : List Value) ++ List.replicate (2 - (lg_sl ([.ref (ea E 0 0)] : List Value)).length) Slot.unset).toArray = ls at hl ⊢
  have hl : lv_has ls 2 [(0, .ref (ea E 0 0))] := hl
  have L2 : ∀ (n : Nat), ∀ (ls : Array Slot) (H : Heap) (locs : List Loc) (s0 : KS) (v1 : Int32), lv_has ls 2 [(0, .ref (ea E 0 0)), (1, .int v1)] → gV E KK A s0 s H locs → w_K_wakeSleepers_2 (eN E) Φ n v1 s0 → W p l e m_K_wakeSleepers s m ([.ref (ea E 0 0)] : List Value).toArray below meth c H locs 0 0 (MQ below (gQv E KK A Φ) ([.ref (ea E 0 0)] : List Value).toArray s 0 0 A) (F0 m 2 ls []) := by
    intro n
    induction n with
    | zero =>
      intro ls H locs s0 v1 hl hV hw
      exact False.elim hw
    | succ n ih =>
      intro ls H locs s0 v1 hl hV hw
      unfold w_K_wakeSleepers_2 at hw
      refine lv_iload_n hx hb d_K_wakeSleepers_2 rfl (lv_at hl 1 rfl) ?_
      refine lv_bipush (v := 16) hx hb d_K_wakeSleepers_3 (by decide) ?_
      refine lv_icmp_ge (tgt := 53) hx hb d_K_wakeSleepers_5 rfl (fun hc => ?_) (fun hc => ?_)
      · have hw := hw.1 hc
        exact kr_v hx hb hr hV hK hX hAe hw d_K_wakeSleepers_53
      · have hw := hw.2 hc
        refine lv_aload_n hx hb d_K_wakeSleepers_8 rfl (lv_at hl 0 rfl) ?_
        refine kg_K_K_procs hx hb hG hown hK hV d_K_wakeSleepers_9 ?_
        refine lv_iload_n hx hb d_K_wakeSleepers_12 rfl (lv_at hl 1 rfl) ?_
        have hj1 := vp_lt hw.1
        refine kl_9 hx hb hK hV hw.1 d_K_wakeSleepers_13 ?_
        have hw := hw.2
        refine kg_K_P_state hx hb hG hown hK hV hj1 d_K_wakeSleepers_14 ?_
        refine lv_iconst (v := 5) hx hb d_K_wakeSleepers_17 (by decide) ?_
        refine lv_icmp_ne (tgt := 47) hx hb d_K_wakeSleepers_18 rfl (fun hc => ?_) (fun hc => ?_)
        · have hw := hw.1 hc
          obtain ⟨y2, ey2⟩ : ∃ z : Int32, z = v1 + (1 : Int32) := ⟨_, rfl⟩
          have hw := hw y2 ey2
          refine lv_iinc (k := 1) (v := y2) (lv' := [(1, .int y2), (0, .ref (ea E 0 0))]) hx hb d_K_wakeSleepers_47 hl rfl (by rw [ey2]; rfl) (by decide) rfl (fun ls hl => ?_)
          refine lv_goto (tgt := 2) hx hb d_K_wakeSleepers_50 rfl ?_
          exact ih _ _ _ s0 y2 (lv_sub hl [1, 0] rfl) hV hw
        · have hw := hw.2 hc
          refine lv_aload_n hx hb d_K_wakeSleepers_21 rfl (lv_at hl 0 rfl) ?_
          refine kg_K_K_procs hx hb hG hown hK hV d_K_wakeSleepers_22 ?_
          refine lv_iload_n hx hb d_K_wakeSleepers_25 rfl (lv_at hl 1 rfl) ?_
          have hj3 := vp_lt hw.1
          refine kl_9 hx hb hK hV hw.1 d_K_wakeSleepers_26 ?_
          have hw := hw.2
          refine kg_K_P_wakeTime hx hb hG hown hK hV hj3 d_K_wakeSleepers_27 ?_
          refine lv_aload_n hx hb d_K_wakeSleepers_30 rfl (lv_at hl 0 rfl) ?_
          refine kg_K_K_now hx hb hG hown hK hV d_K_wakeSleepers_31 ?_
          refine lv_icmp_gt (tgt := 47) hx hb d_K_wakeSleepers_34 rfl (fun hc => ?_) (fun hc => ?_)
          · have hw := hw.1 hc
            obtain ⟨y4, ey4⟩ : ∃ z : Int32, z = v1 + (1 : Int32) := ⟨_, rfl⟩
            have hw := hw y4 ey4
            refine lv_iinc (k := 1) (v := y4) (lv' := [(1, .int y4), (0, .ref (ea E 0 0))]) hx hb d_K_wakeSleepers_47 hl rfl (by rw [ey4]; rfl) (by decide) rfl (fun ls hl => ?_)
            refine lv_goto (tgt := 2) hx hb d_K_wakeSleepers_50 rfl ?_
            exact ih _ _ _ s0 y4 (lv_sub hl [1, 0] rfl) hV hw
          · have hw := hw.2 hc
            refine lv_aload_n hx hb d_K_wakeSleepers_37 rfl (lv_at hl 0 rfl) ?_
            refine lv_aload_n hx hb d_K_wakeSleepers_38 rfl (lv_at hl 0 rfl) ?_
            refine kg_K_K_procs hx hb hG hown hK hV d_K_wakeSleepers_39 ?_
            refine lv_iload_n hx hb d_K_wakeSleepers_42 rfl (lv_at hl 1 rfl) ?_
            have hj5 := vp_lt hw.1
            refine kl_9 hx hb hK hV hw.1 d_K_wakeSleepers_43 ?_
            have hw := hw.2
            refine kc_K_K_makeReady hx hb hml hown hts hV hK hX hAe (c_K_makeReady l E s0 v1.toNatClampNeg hj5 _ hw) hl.1 (Nat.le_of_ble_eq_true rfl) d_K_wakeSleepers_44 (Nat.le_of_ble_eq_true rfl) (Nat.le_of_ble_eq_true rfl) (fun s6 H locs hw hV => ?_)
            obtain ⟨y7, ey7⟩ : ∃ z : Int32, z = v1 + (1 : Int32) := ⟨_, rfl⟩
            have hw := hw y7 ey7
            refine lv_iinc (k := 1) (v := y7) (lv' := [(1, .int y7), (0, .ref (ea E 0 0))]) hx hb d_K_wakeSleepers_47 hl rfl (by rw [ey7]; rfl) (by decide) rfl (fun ls hl => ?_)
            refine lv_goto (tgt := 2) hx hb d_K_wakeSleepers_50 rfl ?_
            exact ih _ _ _ s6 y7 (lv_sub hl [1, 0] rfl) hV hw
  unfold w_K_wakeSleepers at hw
  refine lv_iconst (v := 0) hx hb d_K_wakeSleepers_0 (by decide) ?_
  refine lv_istore_n (lv' := [(1, .int (0 : Int32)), (0, .ref (ea E 0 0))]) hx hb d_K_wakeSleepers_1 rfl hl (by decide) rfl (fun ls hl => ?_)
  obtain ⟨nn, hw⟩ := hw
  exact L2 nn _ _ _ s0 (0 : Int32) (lv_sub hl [1, 0] rfl) hV hw
theorem d_K_step_0 : decode b_K_step 0 = .ok (.aload_n 0, 1) := by decide +kernel
theorem d_K_step_1 : decode b_K_step 1 = .ok (.dup, 1) := by decide +kernel
theorem d_K_step_2 : decode b_K_step 2 = .ok (.getfield 35, 3) := by decide +kernel
theorem d_K_step_5 : decode b_K_step 5 = .ok (.iconst 1, 1) := by decide +kernel
theorem d_K_step_6 : decode b_K_step 6 = .ok (.iadd, 1) := by decide +kernel
theorem d_K_step_7 : decode b_K_step 7 = .ok (.putfield 35, 3) := by decide +kernel
theorem d_K_step_10 : decode b_K_step 10 = .ok (.aload_n 0, 1) := by decide +kernel
theorem d_K_step_11 : decode b_K_step 11 = .ok (.invokevirtual 181, 3) := by decide +kernel
theorem d_K_step_14 : decode b_K_step 14 = .ok (.aload_n 0, 1) := by decide +kernel
theorem d_K_step_15 : decode b_K_step 15 = .ok (.getfield 28, 3) := by decide +kernel
theorem d_K_step_18 : decode b_K_step 18 = .ok (.ifCond .ne 4, 3) := by decide +kernel
theorem d_K_step_21 : decode b_K_step 21 = .ok (.return_, 1) := by decide +kernel
theorem d_K_step_22 : decode b_K_step 22 = .ok (.aload_n 0, 1) := by decide +kernel
theorem d_K_step_23 : decode b_K_step 23 = .ok (.getfield 11, 3) := by decide +kernel
theorem d_K_step_26 : decode b_K_step 26 = .ok (.aload_n 0, 1) := by decide +kernel
theorem d_K_step_27 : decode b_K_step 27 = .ok (.getfield 25, 3) := by decide +kernel
theorem d_K_step_30 : decode b_K_step 30 = .ok (.iconst 0, 1) := by decide +kernel
theorem d_K_step_31 : decode b_K_step 31 = .ok (.iaload, 1) := by decide +kernel
theorem d_K_step_32 : decode b_K_step 32 = .ok (.aaload, 1) := by decide +kernel
theorem d_K_step_33 : decode b_K_step 33 = .ok (.astore_n 1, 1) := by decide +kernel
theorem d_K_step_34 : decode b_K_step 34 = .ok (.aload_n 0, 1) := by decide +kernel
theorem d_K_step_35 : decode b_K_step 35 = .ok (.dup, 1) := by decide +kernel
theorem d_K_step_36 : decode b_K_step 36 = .ok (.getfield 32, 3) := by decide +kernel
theorem d_K_step_39 : decode b_K_step 39 = .ok (.iconst 1, 1) := by decide +kernel
theorem d_K_step_40 : decode b_K_step 40 = .ok (.iadd, 1) := by decide +kernel
theorem d_K_step_41 : decode b_K_step 41 = .ok (.putfield 32, 3) := by decide +kernel
theorem d_K_step_44 : decode b_K_step 44 = .ok (.aload_n 1, 1) := by decide +kernel
theorem d_K_step_45 : decode b_K_step 45 = .ok (.invokevirtual 184, 3) := by decide +kernel
theorem d_K_step_48 : decode b_K_step 48 = .ok (.istore_n 2, 1) := by decide +kernel
theorem d_K_step_49 : decode b_K_step 49 = .ok (.iload_n 2, 1) := by decide +kernel
theorem d_K_step_50 : decode b_K_step 50 = .ok (.ifCond .eq 16, 3) := by decide +kernel
theorem d_K_step_53 : decode b_K_step 53 = .ok (.aload_n 0, 1) := by decide +kernel
theorem d_K_step_54 : decode b_K_step 54 = .ok (.aload_n 1, 1) := by decide +kernel
theorem d_K_step_55 : decode b_K_step 55 = .ok (.sipush (-1000), 3) := by decide +kernel
theorem d_K_step_58 : decode b_K_step 58 = .ok (.iload_n 2, 1) := by decide +kernel
theorem d_K_step_59 : decode b_K_step 59 = .ok (.isub, 1) := by decide +kernel
theorem d_K_step_60 : decode b_K_step 60 = .ok (.invokevirtual 187, 3) := by decide +kernel
theorem d_K_step_63 : decode b_K_step 63 = .ok (.goto 42, 3) := by decide +kernel
theorem d_K_step_66 : decode b_K_step 66 = .ok (.aload_n 0, 1) := by decide +kernel
theorem d_K_step_67 : decode b_K_step 67 = .ok (.aload_n 1, 1) := by decide +kernel
theorem d_K_step_68 : decode b_K_step 68 = .ok (.invokevirtual 191, 3) := by decide +kernel
theorem d_K_step_71 : decode b_K_step 71 = .ok (.ifCond .eq 11, 3) := by decide +kernel
theorem d_K_step_74 : decode b_K_step 74 = .ok (.aload_n 0, 1) := by decide +kernel
theorem d_K_step_75 : decode b_K_step 75 = .ok (.aload_n 1, 1) := by decide +kernel
theorem d_K_step_76 : decode b_K_step 76 = .ok (.invokevirtual 195, 3) := by decide +kernel
theorem d_K_step_79 : decode b_K_step 79 = .ok (.goto 26, 3) := by decide +kernel
theorem d_K_step_82 : decode b_K_step 82 = .ok (.aload_n 1, 1) := by decide +kernel
theorem d_K_step_83 : decode b_K_step 83 = .ok (.invokevirtual 198, 3) := by decide +kernel
theorem d_K_step_86 : decode b_K_step 86 = .ok (.ifCond .eq 14, 3) := by decide +kernel
theorem d_K_step_89 : decode b_K_step 89 = .ok (.aload_n 0, 1) := by decide +kernel
theorem d_K_step_90 : decode b_K_step 90 = .ok (.aload_n 1, 1) := by decide +kernel
theorem d_K_step_91 : decode b_K_step 91 = .ok (.sipush (-1002), 3) := by decide +kernel
theorem d_K_step_94 : decode b_K_step 94 = .ok (.invokevirtual 187, 3) := by decide +kernel
theorem d_K_step_97 : decode b_K_step 97 = .ok (.goto 8, 3) := by decide +kernel
theorem d_K_step_100 : decode b_K_step 100 = .ok (.aload_n 0, 1) := by decide +kernel
theorem d_K_step_101 : decode b_K_step 101 = .ok (.aload_n 1, 1) := by decide +kernel
theorem d_K_step_102 : decode b_K_step 102 = .ok (.invokevirtual 201, 3) := by decide +kernel
theorem d_K_step_105 : decode b_K_step 105 = .ok (.aload_n 1, 1) := by decide +kernel
theorem d_K_step_106 : decode b_K_step 106 = .ok (.getfield 127, 3) := by decide +kernel
theorem d_K_step_109 : decode b_K_step 109 = .ok (.iconst 1, 1) := by decide +kernel
theorem d_K_step_110 : decode b_K_step 110 = .ok (.if_icmp .ne 19, 3) := by decide +kernel
theorem d_K_step_113 : decode b_K_step 113 = .ok (.aload_n 0, 1) := by decide +kernel
theorem d_K_step_114 : decode b_K_step 114 = .ok (.getfield 32, 3) := by decide +kernel
theorem d_K_step_117 : decode b_K_step 117 = .ok (.aload_n 0, 1) := by decide +kernel
theorem d_K_step_118 : decode b_K_step 118 = .ok (.getfield 70, 3) := by decide +kernel
theorem d_K_step_121 : decode b_K_step 121 = .ok (.if_icmp .lt 8, 3) := by decide +kernel
theorem d_K_step_124 : decode b_K_step 124 = .ok (.aload_n 0, 1) := by decide +kernel
theorem d_K_step_125 : decode b_K_step 125 = .ok (.aload_n 1, 1) := by decide +kernel
theorem d_K_step_126 : decode b_K_step 126 = .ok (.invokevirtual 204, 3) := by decide +kernel
theorem d_K_step_129 : decode b_K_step 129 = .ok (.return_, 1) := by decide +kernel
def w_K_step_105 (cp : Nat) (Φ : KS → Prop) (b1 : Nat) (s0 : KS) : Prop := ((¬ (s0 1 b1 7) = (1 : Int32) → Φ s0) ∧ ((s0 1 b1 7) = (1 : Int32) → (((s0 0 0 6) < (s0 0 0 0) → Φ s0) ∧ (¬ (s0 0 0 6) < (s0 0 0 0) → w_K_goToQueueEnd cp b1 s0 (fun s1 => Φ s1)))))
def w_K_step (cp : Nat) (s0 : KS) (Φ : KS → Prop) : Prop := ∀ s1 : KS, s1 = w3 s0 0 0 7 ((s0 0 0 7) + (1 : Int32)) → w_K_wakeSleepers cp s1 (fun s2 => ((¬ (s2 0 0 5) = 0 → vp_in (0 : Int32) 16 ∧ vp_in (s2 8 0 (0 : Int32).toNatClampNeg) 16 ∧ ∀ s4 : KS, s4 = w3 s2 0 0 6 ((s2 0 0 6) + (1 : Int32)) → w_P_findFault cp ((s2 8 0 (0 : Int32).toNatClampNeg).toNatClampNeg) s4 (fun r6 s5 => ((r6 = 0 → w_K_mustWait cp ((s2 8 0 (0 : Int32).toNatClampNeg).toNatClampNeg) s5 (fun r8 s7 => ((r8 = 0 → w_P_wouldOverflow cp ((s2 8 0 (0 : Int32).toNatClampNeg).toNatClampNeg) s7 (fun r10 s9 => ((r10 = 0 → w_K_perform cp ((s2 8 0 (0 : Int32).toNatClampNeg).toNatClampNeg) s9 (fun s11 => w_K_step_105 cp Φ ((s2 8 0 (0 : Int32).toNatClampNeg).toNatClampNeg) s11)) ∧ (¬ r10 = 0 → w_K_end cp ((s2 8 0 (0 : Int32).toNatClampNeg).toNatClampNeg) (-1002 : Int32) s9 (fun s12 => w_K_step_105 cp Φ ((s2 8 0 (0 : Int32).toNatClampNeg).toNatClampNeg) s12))))) ∧ (¬ r8 = 0 → w_K_beginToWait cp ((s2 8 0 (0 : Int32).toNatClampNeg).toNatClampNeg) s7 (fun s13 => w_K_step_105 cp Φ ((s2 8 0 (0 : Int32).toNatClampNeg).toNatClampNeg) s13))))) ∧ (¬ r6 = 0 → w_K_end cp ((s2 8 0 (0 : Int32).toNatClampNeg).toNatClampNeg) ((-1000 : Int32) - r6) s5 (fun s14 => w_K_step_105 cp Φ ((s2 8 0 (0 : Int32).toNatClampNeg).toNatClampNeg) s14))))) ∧ ((s2 0 0 5) = 0 → Φ s2)))
set_option maxHeartbeats 4000000 in
set_option maxRecDepth 100000 in
theorem c_K_step (l : Launch) (E : gE) (s0 : KS)  (Φ : KS → Prop) (hw : w_K_step (eN E) s0 Φ) : gMv l y_K_step v_K_step m_K_step E KK [.ref (ea E 0 0)] s0 Φ := by
  intro sz
  refine Met.ofW (cc := b_K_step) (maxL := 3) (ret := none) (by decide) rfl ?_
  intro p e s m args below meth c s₁ B hml hv
  obtain ⟨rfl, hsz, hP, hK, hD, hX⟩ := hv
  have hx := B.exec
  have hb := B.bytes
  have hr := B.returns
  have hts := atoms_spec (ws := v_K_step) B.pre
  have hG : ∀ w ∈ gG, w.before _ s = true := fun w h => hts w (List.mem_cons_of_mem _ h)
  have hown : s.vm.findClass R_K = some m.cls := findClass_of_methodNamed B.named
  have hlocks := B.notSynchronized
  subst hsz
  obtain ⟨A, hAe⟩ : ∃ A, A = gA E KK s.heap.size := ⟨_, rfl⟩
  rw [← hAe] at hD hX ⊢
  have hV : gV E KK A s0 s s.heap [] := ⟨hP, hD, va_S.rf⟩
  have hl := lv_entry ([.ref (ea E 0 0)] : List Value) (n := 3) (Nat.le_of_ble_eq_true rfl)
  rw [lg_entry_eq]
  generalize (lg_sl ([.ref (ea E 0 0)] : List Value) ++ List.replicate (3 - (lg_sl ([.ref (ea E 0 0)] : List Value)).length) Slot.unset).toArray = ls at hl ⊢
  have hl : lv_has ls 3 [(0, .ref (ea E 0 0))] := hl
  have J105 : ∀ (ls : Array Slot) (H : Heap) (locs : List Loc) (s0 : KS) (b1 : Nat) (hb1 : b1 < 16), lv_has ls 3 [(0, .ref (ea E 0 0)), (1, .ref (ea E 1 b1))] → gV E KK A s0 s H locs → w_K_step_105 (eN E) Φ b1 s0 → W p l e m_K_step s m ([.ref (ea E 0 0)] : List Value).toArray below meth c H locs 0 0 (MQ below (gQv E KK A Φ) ([.ref (ea E 0 0)] : List Value).toArray s 0 0 A) (F0 m 105 ls []) := by
    intro  ls H locs s0 b1 hb1 hl hV hw
    unfold w_K_step_105 at hw
    refine lv_aload_n hx hb d_K_step_105 rfl (lv_at hl 1 rfl) ?_
    refine kg_K_P_state hx hb hG hown hK hV hb1 d_K_step_106 ?_
    refine lv_iconst (v := 1) hx hb d_K_step_109 (by decide) ?_
    refine lv_icmp_ne (tgt := 129) hx hb d_K_step_110 rfl (fun hc => ?_) (fun hc => ?_)
    · have hw := hw.1 hc
      exact kr_v hx hb hr hV hK hX hAe hw d_K_step_129
    · have hw := hw.2 hc
      refine lv_aload_n hx hb d_K_step_113 rfl (lv_at hl 0 rfl) ?_
      refine kg_K_K_doneByFirst hx hb hG hown hK hV d_K_step_114 ?_
      refine lv_aload_n hx hb d_K_step_117 rfl (lv_at hl 0 rfl) ?_
      refine kg_K_K_quantum hx hb hG hown hK hV d_K_step_118 ?_
      refine lv_icmp_lt (tgt := 129) hx hb d_K_step_121 rfl (fun hc => ?_) (fun hc => ?_)
      · have hw := hw.1 hc
        exact kr_v hx hb hr hV hK hX hAe hw d_K_step_129
      · have hw := hw.2 hc
        refine lv_aload_n hx hb d_K_step_124 rfl (lv_at hl 0 rfl) ?_
        refine lv_aload_n hx hb d_K_step_125 rfl (lv_at hl 1 rfl) ?_
        refine kc_K_K_goToQueueEnd hx hb hml hown hts hV hK hX hAe (c_K_goToQueueEnd l E s0 b1 hb1 _ hw) hl.1 (Nat.le_of_ble_eq_true rfl) d_K_step_126 (Nat.le_of_ble_eq_true rfl) (Nat.le_of_ble_eq_true rfl) (fun s1 H locs hw hV => ?_)
        exact kr_v hx hb hr hV hK hX hAe hw d_K_step_129
  unfold w_K_step at hw
  refine lv_aload_n hx hb d_K_step_0 rfl (lv_at hl 0 rfl) ?_
  refine lv_dup hx hb d_K_step_1 rfl ?_
  refine kg_K_K_now hx hb hG hown hK hV d_K_step_2 ?_
  refine lv_iconst (v := 1) hx hb d_K_step_5 (by decide) ?_
  refine lv_iadd hx hb d_K_step_6 ?_
  refine kp_K_K_now hx hb hG hown hK hV d_K_step_7 (fun s1 H locs es1 hV => ?_)
  have hw := hw s1 es1
  refine lv_aload_n hx hb d_K_step_10 rfl (lv_at hl 0 rfl) ?_
  refine kc_K_K_wakeSleepers hx hb hml hown hts hV hK hX hAe (c_K_wakeSleepers l E s1 _ hw) hl.1 (Nat.le_of_ble_eq_true rfl) d_K_step_11 (Nat.le_of_ble_eq_true rfl) (Nat.le_of_ble_eq_true rfl) (fun s2 H locs hw hV => ?_)
  refine lv_aload_n hx hb d_K_step_14 rfl (lv_at hl 0 rfl) ?_
  refine kg_K_K_readyCount hx hb hG hown hK hV d_K_step_15 ?_
  refine lv_if_ne (tgt := 22) hx hb d_K_step_18 rfl (fun hc => ?_) (fun hc => ?_)
  · have hw := hw.1 hc
    refine lv_aload_n hx hb d_K_step_22 rfl (lv_at hl 0 rfl) ?_
    refine kg_K_K_procs hx hb hG hown hK hV d_K_step_23 ?_
    refine lv_aload_n hx hb d_K_step_26 rfl (lv_at hl 0 rfl) ?_
    refine kg_K_K_ready hx hb hG hown hK hV d_K_step_27 ?_
    refine lv_iconst (v := 0) hx hb d_K_step_30 (by decide) ?_
    refine kl_8 hx hb hK hV hw.1 d_K_step_31 ?_
    have hw := hw.2
    have hj3 := vp_lt hw.1
    refine kl_9 hx hb hK hV hw.1 d_K_step_32 ?_
    have hw := hw.2
    refine lv_astore_n (lv' := [(1, .ref (ea E 1 ((s2 8 0 (0 : Int32).toNatClampNeg).toNatClampNeg))), (0, .ref (ea E 0 0))]) hx hb d_K_step_33 rfl hl (by decide) rfl (fun ls hl => ?_)
    refine lv_aload_n hx hb d_K_step_34 rfl (lv_at hl 1 rfl) ?_
    refine lv_dup hx hb d_K_step_35 rfl ?_
    refine kg_K_K_doneByFirst hx hb hG hown hK hV d_K_step_36 ?_
    refine lv_iconst (v := 1) hx hb d_K_step_39 (by decide) ?_
    refine lv_iadd hx hb d_K_step_40 ?_
    refine kp_K_K_doneByFirst hx hb hG hown hK hV d_K_step_41 (fun s4 H locs es4 hV => ?_)
    have hw := hw s4 es4
    refine lv_aload_n hx hb d_K_step_44 rfl (lv_at hl 0 rfl) ?_
    refine kc_K_P_findFault hx hb hml hown hts hV hK hX hAe (c_P_findFault l E s4 ((s2 8 0 (0 : Int32).toNatClampNeg).toNatClampNeg) hj3 _ hw) hj3 hl.1 (Nat.le_of_ble_eq_true rfl) d_K_step_45 (Nat.le_of_ble_eq_true rfl) (Nat.le_of_ble_eq_true rfl) (fun r6 s5 H locs hw hV => ?_)
    refine lv_istore_n (lv' := [(2, .int r6), (1, .ref (ea E 1 ((s2 8 0 (0 : Int32).toNatClampNeg).toNatClampNeg))), (0, .ref (ea E 0 0))]) hx hb d_K_step_48 rfl hl (by decide) rfl (fun ls hl => ?_)
    refine lv_iload_n hx hb d_K_step_49 rfl (lv_at hl 0 rfl) ?_
    refine lv_if_eq (tgt := 66) hx hb d_K_step_50 rfl (fun hc => ?_) (fun hc => ?_)
    · have hw := hw.1 hc
      refine lv_aload_n hx hb d_K_step_66 rfl (lv_at hl 2 rfl) ?_
      refine lv_aload_n hx hb d_K_step_67 rfl (lv_at hl 1 rfl) ?_
      refine kc_K_K_mustWait hx hb hml hown hts hV hK hX hAe (c_K_mustWait l E s5 ((s2 8 0 (0 : Int32).toNatClampNeg).toNatClampNeg) hj3 _ hw) hl.1 (Nat.le_of_ble_eq_true rfl) d_K_step_68 (Nat.le_of_ble_eq_true rfl) (Nat.le_of_ble_eq_true rfl) (fun r8 s7 H locs hw hV => ?_)
      refine lv_if_eq (tgt := 82) hx hb d_K_step_71 rfl (fun hc => ?_) (fun hc => ?_)
      · have hw := hw.1 hc
        refine lv_aload_n hx hb d_K_step_82 rfl (lv_at hl 1 rfl) ?_
        refine kc_K_P_wouldOverflow hx hb hml hown hts hV hK hX hAe (c_P_wouldOverflow l E s7 ((s2 8 0 (0 : Int32).toNatClampNeg).toNatClampNeg) hj3 _ hw) hj3 hl.1 (Nat.le_of_ble_eq_true rfl) d_K_step_83 (Nat.le_of_ble_eq_true rfl) (Nat.le_of_ble_eq_true rfl) (fun r10 s9 H locs hw hV => ?_)
        refine lv_if_eq (tgt := 100) hx hb d_K_step_86 rfl (fun hc => ?_) (fun hc => ?_)
        · have hw := hw.1 hc
          refine lv_aload_n hx hb d_K_step_100 rfl (lv_at hl 2 rfl) ?_
          refine lv_aload_n hx hb d_K_step_101 rfl (lv_at hl 1 rfl) ?_
          refine kc_K_K_perform hx hb hml hown hts hV hK hX hAe (c_K_perform l E s9 ((s2 8 0 (0 : Int32).toNatClampNeg).toNatClampNeg) hj3 _ hw) hl.1 (Nat.le_of_ble_eq_true rfl) d_K_step_102 (Nat.le_of_ble_eq_true rfl) (Nat.le_of_ble_eq_true rfl) (fun s11 H locs hw hV => ?_)
          exact J105 _ _ _ s11 ((s2 8 0 (0 : Int32).toNatClampNeg).toNatClampNeg) hj3 (lv_sub hl [2, 1] rfl) hV hw
        · have hw := hw.2 hc
          refine lv_aload_n hx hb d_K_step_89 rfl (lv_at hl 2 rfl) ?_
          refine lv_aload_n hx hb d_K_step_90 rfl (lv_at hl 1 rfl) ?_
          refine lv_sipush (v := -1002) hx hb d_K_step_91 (by decide) ?_
          refine kc_K_K_end hx hb hml hown hts hV hK hX hAe (c_K_end l E s9 ((s2 8 0 (0 : Int32).toNatClampNeg).toNatClampNeg) hj3 (-1002 : Int32) _ hw) hl.1 (Nat.le_of_ble_eq_true rfl) d_K_step_94 (Nat.le_of_ble_eq_true rfl) (Nat.le_of_ble_eq_true rfl) (fun s12 H locs hw hV => ?_)
          refine lv_goto (tgt := 105) hx hb d_K_step_97 rfl ?_
          exact J105 _ _ _ s12 ((s2 8 0 (0 : Int32).toNatClampNeg).toNatClampNeg) hj3 (lv_sub hl [2, 1] rfl) hV hw
      · have hw := hw.2 hc
        refine lv_aload_n hx hb d_K_step_74 rfl (lv_at hl 2 rfl) ?_
        refine lv_aload_n hx hb d_K_step_75 rfl (lv_at hl 1 rfl) ?_
        refine kc_K_K_beginToWait hx hb hml hown hts hV hK hX hAe (c_K_beginToWait l E s7 ((s2 8 0 (0 : Int32).toNatClampNeg).toNatClampNeg) hj3 _ hw) hl.1 (Nat.le_of_ble_eq_true rfl) d_K_step_76 (Nat.le_of_ble_eq_true rfl) (Nat.le_of_ble_eq_true rfl) (fun s13 H locs hw hV => ?_)
        refine lv_goto (tgt := 105) hx hb d_K_step_79 rfl ?_
        exact J105 _ _ _ s13 ((s2 8 0 (0 : Int32).toNatClampNeg).toNatClampNeg) hj3 (lv_sub hl [2, 1] rfl) hV hw
    · have hw := hw.2 hc
      refine lv_aload_n hx hb d_K_step_53 rfl (lv_at hl 2 rfl) ?_
      refine lv_aload_n hx hb d_K_step_54 rfl (lv_at hl 1 rfl) ?_
      refine lv_sipush (v := -1000) hx hb d_K_step_55 (by decide) ?_
      refine lv_iload_n hx hb d_K_step_58 rfl (lv_at hl 0 rfl) ?_
      refine lv_isub hx hb d_K_step_59 ?_
      refine kc_K_K_end hx hb hml hown hts hV hK hX hAe (c_K_end l E s5 ((s2 8 0 (0 : Int32).toNatClampNeg).toNatClampNeg) hj3 ((-1000 : Int32) - r6) _ hw) hl.1 (Nat.le_of_ble_eq_true rfl) d_K_step_60 (Nat.le_of_ble_eq_true rfl) (Nat.le_of_ble_eq_true rfl) (fun s14 H locs hw hV => ?_)
      refine lv_goto (tgt := 105) hx hb d_K_step_63 rfl ?_
      exact J105 _ _ _ s14 ((s2 8 0 (0 : Int32).toNatClampNeg).toNatClampNeg) hj3 (lv_sub hl [2, 1] rfl) hV hw
  · have hw := hw.2 hc
    exact kr_v hx hb hr hV hK hX hAe hw d_K_step_21
theorem d_K_shut_0 : decode b_K_shut 0 = .ok (.aload_n 0, 1) := by decide +kernel
theorem d_K_shut_1 : decode b_K_shut 1 = .ok (.getfield 52, 3) := by decide +kernel
theorem d_K_shut_4 : decode b_K_shut 4 = .ok (.ifCond .eq 5, 3) := by decide +kernel
theorem d_K_shut_7 : decode b_K_shut 7 = .ok (.iconst 0, 1) := by decide +kernel
theorem d_K_shut_8 : decode b_K_shut 8 = .ok (.ireturn, 1) := by decide +kernel
theorem d_K_shut_9 : decode b_K_shut 9 = .ok (.aload_n 0, 1) := by decide +kernel
theorem d_K_shut_10 : decode b_K_shut 10 = .ok (.iconst 1, 1) := by decide +kernel
theorem d_K_shut_11 : decode b_K_shut 11 = .ok (.putfield 52, 3) := by decide +kernel
theorem d_K_shut_14 : decode b_K_shut 14 = .ok (.aload_n 0, 1) := by decide +kernel
theorem d_K_shut_15 : decode b_K_shut 15 = .ok (.iconst 1, 1) := by decide +kernel
theorem d_K_shut_16 : decode b_K_shut 16 = .ok (.invokevirtual 122, 3) := by decide +kernel
theorem d_K_shut_19 : decode b_K_shut 19 = .ok (.iconst 1, 1) := by decide +kernel
theorem d_K_shut_20 : decode b_K_shut 20 = .ok (.ireturn, 1) := by decide +kernel
def w_K_shut (cp : Nat) (s0 : KS) (Φ : Int32 → KS → Prop) : Prop := (((s0 0 0 11) = 0 → ∀ s1 : KS, s1 = w3 s0 0 0 11 (1 : Int32) → w_K_wakeAll cp (1 : Int32) s1 (fun s2 => Φ (1 : Int32) s2)) ∧ (¬ (s0 0 0 11) = 0 → Φ (0 : Int32) s0))
set_option maxHeartbeats 4000000 in
set_option maxRecDepth 100000 in
theorem c_K_shut (l : Launch) (E : gE) (s0 : KS)  (Φ : Int32 → KS → Prop) (hw : w_K_shut (eN E) s0 Φ) : gMi l y_K_shut v_K_shut m_K_shut E KK [.ref (ea E 0 0)] s0 Φ := by
  intro sz
  refine Met.ofW (cc := b_K_shut) (maxL := 1) (ret := (some .boolean)) (by decide) rfl ?_
  intro p e s m args below meth c s₁ B hml hv
  obtain ⟨rfl, hsz, hP, hK, hD, hX⟩ := hv
  have hx := B.exec
  have hb := B.bytes
  have hr := B.returns
  have hts := atoms_spec (ws := v_K_shut) B.pre
  have hG : ∀ w ∈ gG, w.before _ s = true := fun w h => hts w (List.mem_cons_of_mem _ h)
  have hown : s.vm.findClass R_K = some m.cls := findClass_of_methodNamed B.named
  have hlocks := B.notSynchronized
  subst hsz
  obtain ⟨A, hAe⟩ : ∃ A, A = gA E KK s.heap.size := ⟨_, rfl⟩
  rw [← hAe] at hD hX ⊢
  have hV : gV E KK A s0 s s.heap [] := ⟨hP, hD, va_S.rf⟩
  have hl := lv_entry ([.ref (ea E 0 0)] : List Value) (n := 1) (Nat.le_of_ble_eq_true rfl)
  rw [lg_entry_eq]
  generalize (lg_sl ([.ref (ea E 0 0)] : List Value) ++ List.replicate (1 - (lg_sl ([.ref (ea E 0 0)] : List Value)).length) Slot.unset).toArray = ls at hl ⊢
  have hl : lv_has ls 1 [(0, .ref (ea E 0 0))] := hl
  unfold w_K_shut at hw
  refine lv_aload_n hx hb d_K_shut_0 rfl (lv_at hl 0 rfl) ?_
  refine kg_K_K_inputShut hx hb hG hown hK hV d_K_shut_1 ?_
  refine lv_if_eq (tgt := 9) hx hb d_K_shut_4 rfl (fun hc => ?_) (fun hc => ?_)
  · have hw := hw.1 hc
    refine lv_aload_n hx hb d_K_shut_9 rfl (lv_at hl 0 rfl) ?_
    refine lv_iconst (v := 1) hx hb d_K_shut_10 (by decide) ?_
    refine kp_K_K_inputShut hx hb hG hown hK hV (by decide) (by decide) d_K_shut_11 (fun s1 H locs es1 hV => ?_)
    have hw := hw s1 es1
    refine lv_aload_n hx hb d_K_shut_14 rfl (lv_at hl 0 rfl) ?_
    refine lv_iconst (v := 1) hx hb d_K_shut_15 (by decide) ?_
    refine kc_K_K_wakeAll hx hb hml hown hts hV hK hX hAe (c_K_wakeAll l E s1 (1 : Int32) _ hw) hl.1 (Nat.le_of_ble_eq_true rfl) d_K_shut_16 (Nat.le_of_ble_eq_true rfl) (Nat.le_of_ble_eq_true rfl) (fun s2 H locs hw hV => ?_)
    refine lv_iconst (v := 1) hx hb d_K_shut_19 (by decide) ?_
    exact kr_z hx hb hr hV hK hX hAe (by decide) hw d_K_shut_20
  · have hw := hw.2 hc
    refine lv_iconst (v := 0) hx hb d_K_shut_7 (by decide) ?_
    exact kr_z hx hb hr hV hK hX hAe (by decide) hw d_K_shut_8
theorem d_K_time_0 : decode b_K_time 0 = .ok (.aload_n 0, 1) := by decide +kernel
theorem d_K_time_1 : decode b_K_time 1 = .ok (.getfield 35, 3) := by decide +kernel
theorem d_K_time_4 : decode b_K_time 4 = .ok (.ireturn, 1) := by decide +kernel
def w_K_time (cp : Nat) (s0 : KS) (Φ : Int32 → KS → Prop) : Prop := Φ (s0 0 0 7) s0
set_option maxHeartbeats 4000000 in
set_option maxRecDepth 100000 in
theorem c_K_time (l : Launch) (E : gE) (s0 : KS)  (Φ : Int32 → KS → Prop) (hw : w_K_time (eN E) s0 Φ) : gMi l y_K_time v_K_time m_K_time E KK [.ref (ea E 0 0)] s0 Φ := by
  intro sz
  refine Met.ofW (cc := b_K_time) (maxL := 1) (ret := (some .int)) (by decide) rfl ?_
  intro p e s m args below meth c s₁ B hml hv
  obtain ⟨rfl, hsz, hP, hK, hD, hX⟩ := hv
  have hx := B.exec
  have hb := B.bytes
  have hr := B.returns
  have hts := atoms_spec (ws := v_K_time) B.pre
  have hG : ∀ w ∈ gG, w.before _ s = true := fun w h => hts w (List.mem_cons_of_mem _ h)
  have hown : s.vm.findClass R_K = some m.cls := findClass_of_methodNamed B.named
  have hlocks := B.notSynchronized
  subst hsz
  obtain ⟨A, hAe⟩ : ∃ A, A = gA E KK s.heap.size := ⟨_, rfl⟩
  rw [← hAe] at hD hX ⊢
  have hV : gV E KK A s0 s s.heap [] := ⟨hP, hD, va_S.rf⟩
  have hl := lv_entry ([.ref (ea E 0 0)] : List Value) (n := 1) (Nat.le_of_ble_eq_true rfl)
  rw [lg_entry_eq]
  generalize (lg_sl ([.ref (ea E 0 0)] : List Value) ++ List.replicate (1 - (lg_sl ([.ref (ea E 0 0)] : List Value)).length) Slot.unset).toArray = ls at hl ⊢
  have hl : lv_has ls 1 [(0, .ref (ea E 0 0))] := hl
  unfold w_K_time at hw
  refine lv_aload_n hx hb d_K_time_0 rfl (lv_at hl 0 rfl) ?_
  refine kg_K_K_now hx hb hG hown hK hV d_K_time_1 ?_
  exact kr_i hx hb hr hV hK hX hAe hw d_K_time_4
theorem d_K_countWaiting_0 : decode b_K_countWaiting 0 = .ok (.iconst 0, 1) := by decide +kernel
theorem d_K_countWaiting_1 : decode b_K_countWaiting 1 = .ok (.istore_n 2, 1) := by decide +kernel
theorem d_K_countWaiting_2 : decode b_K_countWaiting 2 = .ok (.iconst 0, 1) := by decide +kernel
theorem d_K_countWaiting_3 : decode b_K_countWaiting 3 = .ok (.istore_n 3, 1) := by decide +kernel
theorem d_K_countWaiting_4 : decode b_K_countWaiting 4 = .ok (.iload_n 3, 1) := by decide +kernel
theorem d_K_countWaiting_5 : decode b_K_countWaiting 5 = .ok (.bipush 16, 2) := by decide +kernel
theorem d_K_countWaiting_7 : decode b_K_countWaiting 7 = .ok (.if_icmp .ge 25, 3) := by decide +kernel
theorem d_K_countWaiting_10 : decode b_K_countWaiting 10 = .ok (.aload_n 0, 1) := by decide +kernel
theorem d_K_countWaiting_11 : decode b_K_countWaiting 11 = .ok (.getfield 11, 3) := by decide +kernel
theorem d_K_countWaiting_14 : decode b_K_countWaiting 14 = .ok (.iload_n 3, 1) := by decide +kernel
theorem d_K_countWaiting_15 : decode b_K_countWaiting 15 = .ok (.aaload, 1) := by decide +kernel
theorem d_K_countWaiting_16 : decode b_K_countWaiting 16 = .ok (.getfield 232, 3) := by decide +kernel
theorem d_K_countWaiting_19 : decode b_K_countWaiting 19 = .ok (.iload_n 1, 1) := by decide +kernel
theorem d_K_countWaiting_20 : decode b_K_countWaiting 20 = .ok (.if_icmp .ne 6, 3) := by decide +kernel
theorem d_K_countWaiting_23 : decode b_K_countWaiting 23 = .ok (.iinc 2 1, 3) := by decide +kernel
theorem d_K_countWaiting_26 : decode b_K_countWaiting 26 = .ok (.iinc 3 1, 3) := by decide +kernel
theorem d_K_countWaiting_29 : decode b_K_countWaiting 29 = .ok (.goto (-25), 3) := by decide +kernel
theorem d_K_countWaiting_32 : decode b_K_countWaiting 32 = .ok (.iload_n 2, 1) := by decide +kernel
theorem d_K_countWaiting_33 : decode b_K_countWaiting 33 = .ok (.ireturn, 1) := by decide +kernel
def w_K_countWaiting_4 (cp : Nat) (x1 : Int32) (Φ : Int32 → KS → Prop) : Nat → Int32 → Int32 → KS → Prop
  | 0, _, _, _ => False
  | n + 1, v2, v3, s0 => (((16 : Int32) ≤ v3 → Φ v2 s0) ∧ (¬ (16 : Int32) ≤ v3 → vp_in v3 16 ∧ ((¬ (s0 1 v3.toNatClampNeg 10) = x1 → ∀ y2 : Int32, y2 = v3 + (1 : Int32) → w_K_countWaiting_4 cp x1 Φ n v2 y2 s0) ∧ ((s0 1 v3.toNatClampNeg 10) = x1 → ∀ y3 : Int32, y3 = v2 + (1 : Int32) → ∀ y4 : Int32, y4 = v3 + (1 : Int32) → w_K_countWaiting_4 cp x1 Φ n y3 y4 s0))))
def w_K_countWaiting (cp : Nat) (x1 : Int32) (s0 : KS) (Φ : Int32 → KS → Prop) : Prop := ∃ nn : Nat, w_K_countWaiting_4 cp x1 Φ nn (0 : Int32) (0 : Int32) s0
set_option maxHeartbeats 4000000 in
set_option maxRecDepth 100000 in
theorem c_K_countWaiting (l : Launch) (E : gE) (s0 : KS) (x1 : Int32) (Φ : Int32 → KS → Prop) (hw : w_K_countWaiting (eN E) x1 s0 Φ) : gMi l y_K_countWaiting v_K_countWaiting m_K_countWaiting E KK [.ref (ea E 0 0), .int x1] s0 Φ := by
  intro sz
  refine Met.ofW (cc := b_K_countWaiting) (maxL := 4) (ret := (some .int)) (by decide) rfl ?_
  intro p e s m args below meth c s₁ B hml hv
  obtain ⟨rfl, hsz, hP, hK, hD, hX⟩ := hv
  have hx := B.exec
  have hb := B.bytes
  have hr := B.returns
  have hts := atoms_spec (ws := v_K_countWaiting) B.pre
  have hG : ∀ w ∈ gG, w.before _ s = true := fun w h => hts w (List.mem_cons_of_mem _ h)
  have hown : s.vm.findClass R_K = some m.cls := findClass_of_methodNamed B.named
  have hlocks := B.notSynchronized
  subst hsz
  obtain ⟨A, hAe⟩ : ∃ A, A = gA E KK s.heap.size := ⟨_, rfl⟩
  rw [← hAe] at hD hX ⊢
  have hV : gV E KK A s0 s s.heap [] := ⟨hP, hD, va_S.rf⟩
  have hl := lv_entry ([.ref (ea E 0 0), .int x1] : List Value) (n := 4) (Nat.le_of_ble_eq_true rfl)
  rw [lg_entry_eq]
  generalize (lg_sl ([.ref (ea E 0 0), .int x1] : List Value) ++ List.replicate (4 - (lg_sl ([.ref (ea E 0 0), .int x1] : List Value)).length) Slot.unset).toArray = ls at hl ⊢
  have hl : lv_has ls 4 [(0, .ref (ea E 0 0)), (1, .int x1)] := hl
  have L4 : ∀ (n : Nat), ∀ (ls : Array Slot) (H : Heap) (locs : List Loc) (s0 : KS) (v2 : Int32) (v3 : Int32), lv_has ls 4 [(0, .ref (ea E 0 0)), (1, .int x1), (2, .int v2), (3, .int v3)] → gV E KK A s0 s H locs → w_K_countWaiting_4 (eN E) x1 Φ n v2 v3 s0 → W p l e m_K_countWaiting s m ([.ref (ea E 0 0), .int x1] : List Value).toArray below meth c H locs 0 0 (MQ below (gQi E KK A Φ) ([.ref (ea E 0 0), .int x1] : List Value).toArray s 0 0 A) (F0 m 4 ls []) := by
    intro n
    induction n with
    | zero =>
      intro ls H locs s0 v2 v3 hl hV hw
      exact False.elim hw
    | succ n ih =>
      intro ls H locs s0 v2 v3 hl hV hw
      unfold w_K_countWaiting_4 at hw
      refine lv_iload_n hx hb d_K_countWaiting_4 rfl (lv_at hl 3 rfl) ?_
      refine lv_bipush (v := 16) hx hb d_K_countWaiting_5 (by decide) ?_
      refine lv_icmp_ge (tgt := 32) hx hb d_K_countWaiting_7 rfl (fun hc => ?_) (fun hc => ?_)
      · have hw := hw.1 hc
        refine lv_iload_n hx hb d_K_countWaiting_32 rfl (lv_at hl 2 rfl) ?_
        exact kr_i hx hb hr hV hK hX hAe hw d_K_countWaiting_33
      · have hw := hw.2 hc
        refine lv_aload_n hx hb d_K_countWaiting_10 rfl (lv_at hl 0 rfl) ?_
        refine kg_K_K_procs hx hb hG hown hK hV d_K_countWaiting_11 ?_
        refine lv_iload_n hx hb d_K_countWaiting_14 rfl (lv_at hl 3 rfl) ?_
        have hj1 := vp_lt hw.1
        refine kl_9 hx hb hK hV hw.1 d_K_countWaiting_15 ?_
        have hw := hw.2
        refine kg_K_P_waitsOn hx hb hG hown hK hV hj1 d_K_countWaiting_16 ?_
        refine lv_iload_n hx hb d_K_countWaiting_19 rfl (lv_at hl 1 rfl) ?_
        refine lv_icmp_ne (tgt := 26) hx hb d_K_countWaiting_20 rfl (fun hc => ?_) (fun hc => ?_)
        · have hw := hw.1 hc
          obtain ⟨y2, ey2⟩ : ∃ z : Int32, z = v3 + (1 : Int32) := ⟨_, rfl⟩
          have hw := hw y2 ey2
          refine lv_iinc (k := 3) (v := y2) (lv' := [(3, .int y2), (0, .ref (ea E 0 0)), (1, .int x1), (2, .int v2)]) hx hb d_K_countWaiting_26 hl rfl (by rw [ey2]; rfl) (by decide) rfl (fun ls hl => ?_)
          refine lv_goto (tgt := 4) hx hb d_K_countWaiting_29 rfl ?_
          exact ih _ _ _ s0 v2 y2 (lv_sub hl [1, 2, 3, 0] rfl) hV hw
        · have hw := hw.2 hc
          obtain ⟨y3, ey3⟩ : ∃ z : Int32, z = v2 + (1 : Int32) := ⟨_, rfl⟩
          have hw := hw y3 ey3
          refine lv_iinc (k := 2) (v := y3) (lv' := [(2, .int y3), (0, .ref (ea E 0 0)), (1, .int x1), (3, .int v3)]) hx hb d_K_countWaiting_23 hl rfl (by rw [ey3]; rfl) (by decide) rfl (fun ls hl => ?_)
          obtain ⟨y4, ey4⟩ : ∃ z : Int32, z = v3 + (1 : Int32) := ⟨_, rfl⟩
          have hw := hw y4 ey4
          refine lv_iinc (k := 3) (v := y4) (lv' := [(3, .int y4), (2, .int y3), (0, .ref (ea E 0 0)), (1, .int x1)]) hx hb d_K_countWaiting_26 hl rfl (by rw [ey4]; rfl) (by decide) rfl (fun ls hl => ?_)
          refine lv_goto (tgt := 4) hx hb d_K_countWaiting_29 rfl ?_
          exact ih _ _ _ s0 y3 y4 (lv_sub hl [2, 3, 1, 0] rfl) hV hw
  unfold w_K_countWaiting at hw
  refine lv_iconst (v := 0) hx hb d_K_countWaiting_0 (by decide) ?_
  refine lv_istore_n (lv' := [(2, .int (0 : Int32)), (0, .ref (ea E 0 0)), (1, .int x1)]) hx hb d_K_countWaiting_1 rfl hl (by decide) rfl (fun ls hl => ?_)
  refine lv_iconst (v := 0) hx hb d_K_countWaiting_2 (by decide) ?_
  refine lv_istore_n (lv' := [(3, .int (0 : Int32)), (2, .int (0 : Int32)), (0, .ref (ea E 0 0)), (1, .int x1)]) hx hb d_K_countWaiting_3 rfl hl (by decide) rfl (fun ls hl => ?_)
  obtain ⟨nn, hw⟩ := hw
  exact L4 nn _ _ _ s0 (0 : Int32) (0 : Int32) (lv_sub hl [2, 3, 1, 0] rfl) hV hw
theorem d_K_outs_0 : decode b_K_outs 0 = .ok (.aload_n 0, 1) := by decide +kernel
theorem d_K_outs_1 : decode b_K_outs 1 = .ok (.getfield 58, 3) := by decide +kernel
theorem d_K_outs_4 : decode b_K_outs 4 = .ok (.ireturn, 1) := by decide +kernel
def w_K_outs (cp : Nat) (s0 : KS) (Φ : Int32 → KS → Prop) : Prop := Φ (s0 0 0 13) s0
set_option maxHeartbeats 4000000 in
set_option maxRecDepth 100000 in
theorem c_K_outs (l : Launch) (E : gE) (s0 : KS)  (Φ : Int32 → KS → Prop) (hw : w_K_outs (eN E) s0 Φ) : gMi l y_K_outs v_K_outs m_K_outs E KK [.ref (ea E 0 0)] s0 Φ := by
  intro sz
  refine Met.ofW (cc := b_K_outs) (maxL := 1) (ret := (some .int)) (by decide) rfl ?_
  intro p e s m args below meth c s₁ B hml hv
  obtain ⟨rfl, hsz, hP, hK, hD, hX⟩ := hv
  have hx := B.exec
  have hb := B.bytes
  have hr := B.returns
  have hts := atoms_spec (ws := v_K_outs) B.pre
  have hG : ∀ w ∈ gG, w.before _ s = true := fun w h => hts w (List.mem_cons_of_mem _ h)
  have hown : s.vm.findClass R_K = some m.cls := findClass_of_methodNamed B.named
  have hlocks := B.notSynchronized
  subst hsz
  obtain ⟨A, hAe⟩ : ∃ A, A = gA E KK s.heap.size := ⟨_, rfl⟩
  rw [← hAe] at hD hX ⊢
  have hV : gV E KK A s0 s s.heap [] := ⟨hP, hD, va_S.rf⟩
  have hl := lv_entry ([.ref (ea E 0 0)] : List Value) (n := 1) (Nat.le_of_ble_eq_true rfl)
  rw [lg_entry_eq]
  generalize (lg_sl ([.ref (ea E 0 0)] : List Value) ++ List.replicate (1 - (lg_sl ([.ref (ea E 0 0)] : List Value)).length) Slot.unset).toArray = ls at hl ⊢
  have hl : lv_has ls 1 [(0, .ref (ea E 0 0))] := hl
  unfold w_K_outs at hw
  refine lv_aload_n hx hb d_K_outs_0 rfl (lv_at hl 0 rfl) ?_
  refine kg_K_K_outputCount hx hb hG hown hK hV d_K_outs_1 ?_
  exact kr_i hx hb hr hV hK hX hAe hw d_K_outs_4

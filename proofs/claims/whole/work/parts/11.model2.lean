theorem d_M_push_0 : decode b_M_push 0 = .ok (.aload_n 0, 1) := by decide +kernel
theorem d_M_push_1 : decode b_M_push 1 = .ok (.getfield 19, 3) := by decide +kernel
theorem d_M_push_4 : decode b_M_push 4 = .ok (.bipush 64, 2) := by decide +kernel
theorem d_M_push_6 : decode b_M_push 6 = .ok (.iload_n 1, 1) := by decide +kernel
theorem d_M_push_7 : decode b_M_push 7 = .ok (.imul, 1) := by decide +kernel
theorem d_M_push_8 : decode b_M_push 8 = .ok (.aload_n 0, 1) := by decide +kernel
theorem d_M_push_9 : decode b_M_push 9 = .ok (.getfield 22, 3) := by decide +kernel
theorem d_M_push_12 : decode b_M_push 12 = .ok (.iload_n 1, 1) := by decide +kernel
theorem d_M_push_13 : decode b_M_push 13 = .ok (.iaload, 1) := by decide +kernel
theorem d_M_push_14 : decode b_M_push 14 = .ok (.iadd, 1) := by decide +kernel
theorem d_M_push_15 : decode b_M_push 15 = .ok (.iload_n 2, 1) := by decide +kernel
theorem d_M_push_16 : decode b_M_push 16 = .ok (.iastore, 1) := by decide +kernel
theorem d_M_push_17 : decode b_M_push 17 = .ok (.aload_n 0, 1) := by decide +kernel
theorem d_M_push_18 : decode b_M_push 18 = .ok (.getfield 22, 3) := by decide +kernel
theorem d_M_push_21 : decode b_M_push 21 = .ok (.iload_n 1, 1) := by decide +kernel
theorem d_M_push_22 : decode b_M_push 22 = .ok (.dup2, 1) := by decide +kernel
theorem d_M_push_23 : decode b_M_push 23 = .ok (.iaload, 1) := by decide +kernel
theorem d_M_push_24 : decode b_M_push 24 = .ok (.iconst 1, 1) := by decide +kernel
theorem d_M_push_25 : decode b_M_push 25 = .ok (.iadd, 1) := by decide +kernel
theorem d_M_push_26 : decode b_M_push 26 = .ok (.iastore, 1) := by decide +kernel
theorem d_M_push_27 : decode b_M_push 27 = .ok (.return_, 1) := by decide +kernel
def w_M_push (x1 : Int32) (x2 : Int32) (s0 : KS) (Φ : KS → Prop) : Prop := vp_in x1 16 ∧ vp_in (((64 : Int32) * x1) + (s0 29 0 x1.toNatClampNeg)) 1024 ∧ ∀ s1 : KS, s1 = w3 s0 28 0 (((64 : Int32) * x1) + (s0 29 0 x1.toNatClampNeg)).toNatClampNeg x2 → vp_in x1 16 ∧ vp_in x1 16 ∧ ∀ s2 : KS, s2 = w3 s1 29 0 x1.toNatClampNeg ((s1 29 0 x1.toNatClampNeg) + (1 : Int32)) → Φ s2
set_option maxHeartbeats 4000000 in
set_option maxRecDepth 100000 in
theorem c_M_push (l : Launch) (E : gE) (s0 : KS) (x1 : Int32) (x2 : Int32) (Φ : KS → Prop) (hw : w_M_push x1 x2 s0 Φ) : gMv l y_M_push v_M_push m_M_push E MM [.ref (ea E 20 0), .int x1, .int x2] s0 Φ := by
  intro sz
  refine Met.ofW (cc := b_M_push) (maxL := 3) (ret := none) (by decide) rfl ?_
  intro p e s m args below meth c s₁ B hml hv
  obtain ⟨rfl, hsz, hP, hK, hD, hX⟩ := hv
  have hx := B.exec
  have hb := B.bytes
  have hr := B.returns
  have hts := atoms_spec (ws := v_M_push) B.pre
  have hG : ∀ w ∈ gG, w.before _ s = true := fun w h => hts w (List.mem_cons_of_mem _ h)
  have hown : s.vm.findClass R_M = some m.cls := findClass_of_methodNamed B.named
  have hlocks := B.notSynchronized
  subst hsz
  obtain ⟨A, hAe⟩ : ∃ A, A = gA E MM s.heap.size := ⟨_, rfl⟩
  rw [← hAe] at hD hX ⊢
  have hV : gV E MM A s0 s s.heap [] := ⟨hP, hD, va_S.rf⟩
  have hl := lv_entry ([.ref (ea E 20 0), .int x1, .int x2] : List Value) (n := 3) (Nat.le_of_ble_eq_true rfl)
  rw [lg_entry_eq]
  generalize (lg_sl ([.ref (ea E 20 0), .int x1, .int x2] : List Value) ++ List.replicate (3 - (lg_sl ([.ref (ea E 20 0), .int x1, .int x2] : List Value)).length) Slot.unset).toArray = ls at hl ⊢
  have hl : lv_has ls 3 [(0, .ref (ea E 20 0)), (1, .int x1), (2, .int x2)] := hl
  unfold w_M_push at hw
  refine lv_aload_n hx hb d_M_push_0 rfl (lv_at hl 0 rfl) ?_
  refine kg_M_M_stack hx hb hG hown hK hV d_M_push_1 ?_
  refine lv_bipush (v := 64) hx hb d_M_push_4 (by decide) ?_
  refine lv_iload_n hx hb d_M_push_6 rfl (lv_at hl 1 rfl) ?_
  refine lv_imul hx hb d_M_push_7 ?_
  refine lv_aload_n hx hb d_M_push_8 rfl (lv_at hl 0 rfl) ?_
  refine kg_M_M_size hx hb hG hown hK hV d_M_push_9 ?_
  refine lv_iload_n hx hb d_M_push_12 rfl (lv_at hl 1 rfl) ?_
  refine kl_29 hx hb hK hV hw.1 d_M_push_13 ?_
  have hw := hw.2
  refine lv_iadd hx hb d_M_push_14 ?_
  refine lv_iload_n hx hb d_M_push_15 rfl (lv_at hl 2 rfl) ?_
  refine ks_28 hx hb hK hV hw.1 d_M_push_16 (fun s1 H locs es1 hV => ?_)
  have hw := hw.2 s1 es1
  refine lv_aload_n hx hb d_M_push_17 rfl (lv_at hl 0 rfl) ?_
  refine kg_M_M_size hx hb hG hown hK hV d_M_push_18 ?_
  refine lv_iload_n hx hb d_M_push_21 rfl (lv_at hl 1 rfl) ?_
  refine lv_dup2_11 hx hb d_M_push_22 rfl rfl ?_
  refine kl_29 hx hb hK hV hw.1 d_M_push_23 ?_
  have hw := hw.2
  refine lv_iconst (v := 1) hx hb d_M_push_24 (by decide) ?_
  refine lv_iadd hx hb d_M_push_25 ?_
  refine ks_29 hx hb hK hV hw.1 d_M_push_26 (fun s2 H locs es2 hV => ?_)
  have hw := hw.2 s2 es2
  exact kr_v hx hb hr hV hK hX hAe hw d_M_push_27
theorem d_M_looks_0 : decode b_M_looks 0 = .ok (.iload_n 0, 1) := by decide +kernel
theorem d_M_looks_1 : decode b_M_looks 1 = .ok (.iconst 4, 1) := by decide +kernel
theorem d_M_looks_2 : decode b_M_looks 2 = .ok (.if_icmp .eq 26, 3) := by decide +kernel
theorem d_M_looks_5 : decode b_M_looks 5 = .ok (.iload_n 0, 1) := by decide +kernel
theorem d_M_looks_6 : decode b_M_looks 6 = .ok (.iconst 5, 1) := by decide +kernel
theorem d_M_looks_7 : decode b_M_looks 7 = .ok (.if_icmp .lt 9, 3) := by decide +kernel
theorem d_M_looks_10 : decode b_M_looks 10 = .ok (.iload_n 0, 1) := by decide +kernel
theorem d_M_looks_11 : decode b_M_looks 11 = .ok (.bipush 16, 2) := by decide +kernel
theorem d_M_looks_13 : decode b_M_looks 13 = .ok (.if_icmp .le 15, 3) := by decide +kernel
theorem d_M_looks_16 : decode b_M_looks 16 = .ok (.iload_n 0, 1) := by decide +kernel
theorem d_M_looks_17 : decode b_M_looks 17 = .ok (.bipush 21, 2) := by decide +kernel
theorem d_M_looks_19 : decode b_M_looks 19 = .ok (.if_icmp .eq 9, 3) := by decide +kernel
theorem d_M_looks_22 : decode b_M_looks 22 = .ok (.iload_n 0, 1) := by decide +kernel
theorem d_M_looks_23 : decode b_M_looks 23 = .ok (.bipush 33, 2) := by decide +kernel
theorem d_M_looks_25 : decode b_M_looks 25 = .ok (.if_icmp .ne 5, 3) := by decide +kernel
theorem d_M_looks_28 : decode b_M_looks 28 = .ok (.iconst 2, 1) := by decide +kernel
theorem d_M_looks_29 : decode b_M_looks 29 = .ok (.ireturn, 1) := by decide +kernel
theorem d_M_looks_30 : decode b_M_looks 30 = .ok (.iload_n 0, 1) := by decide +kernel
theorem d_M_looks_31 : decode b_M_looks 31 = .ok (.iconst 2, 1) := by decide +kernel
theorem d_M_looks_32 : decode b_M_looks 32 = .ok (.if_icmp .eq 74, 3) := by decide +kernel
theorem d_M_looks_35 : decode b_M_looks 35 = .ok (.iload_n 0, 1) := by decide +kernel
theorem d_M_looks_36 : decode b_M_looks 36 = .ok (.iconst 3, 1) := by decide +kernel
theorem d_M_looks_37 : decode b_M_looks 37 = .ok (.if_icmp .eq 69, 3) := by decide +kernel
theorem d_M_looks_40 : decode b_M_looks 40 = .ok (.iload_n 0, 1) := by decide +kernel
theorem d_M_looks_41 : decode b_M_looks 41 = .ok (.bipush 17, 2) := by decide +kernel
theorem d_M_looks_43 : decode b_M_looks 43 = .ok (.if_icmp .eq 63, 3) := by decide +kernel
theorem d_M_looks_46 : decode b_M_looks 46 = .ok (.iload_n 0, 1) := by decide +kernel
theorem d_M_looks_47 : decode b_M_looks 47 = .ok (.bipush 19, 2) := by decide +kernel
theorem d_M_looks_49 : decode b_M_looks 49 = .ok (.if_icmp .eq 57, 3) := by decide +kernel
theorem d_M_looks_52 : decode b_M_looks 52 = .ok (.iload_n 0, 1) := by decide +kernel
theorem d_M_looks_53 : decode b_M_looks 53 = .ok (.bipush 20, 2) := by decide +kernel
theorem d_M_looks_55 : decode b_M_looks 55 = .ok (.if_icmp .eq 51, 3) := by decide +kernel
theorem d_M_looks_58 : decode b_M_looks 58 = .ok (.iload_n 0, 1) := by decide +kernel
theorem d_M_looks_59 : decode b_M_looks 59 = .ok (.bipush 23, 2) := by decide +kernel
theorem d_M_looks_61 : decode b_M_looks 61 = .ok (.if_icmp .eq 45, 3) := by decide +kernel
theorem d_M_looks_64 : decode b_M_looks 64 = .ok (.iload_n 0, 1) := by decide +kernel
theorem d_M_looks_65 : decode b_M_looks 65 = .ok (.bipush 25, 2) := by decide +kernel
theorem d_M_looks_67 : decode b_M_looks 67 = .ok (.if_icmp .eq 39, 3) := by decide +kernel
theorem d_M_looks_70 : decode b_M_looks 70 = .ok (.iload_n 0, 1) := by decide +kernel
theorem d_M_looks_71 : decode b_M_looks 71 = .ok (.bipush 30, 2) := by decide +kernel
theorem d_M_looks_73 : decode b_M_looks 73 = .ok (.if_icmp .eq 33, 3) := by decide +kernel
theorem d_M_looks_76 : decode b_M_looks 76 = .ok (.iload_n 0, 1) := by decide +kernel
theorem d_M_looks_77 : decode b_M_looks 77 = .ok (.bipush 34, 2) := by decide +kernel
theorem d_M_looks_79 : decode b_M_looks 79 = .ok (.if_icmp .eq 27, 3) := by decide +kernel
theorem d_M_looks_82 : decode b_M_looks 82 = .ok (.iload_n 0, 1) := by decide +kernel
theorem d_M_looks_83 : decode b_M_looks 83 = .ok (.bipush 37, 2) := by decide +kernel
theorem d_M_looks_85 : decode b_M_looks 85 = .ok (.if_icmp .eq 21, 3) := by decide +kernel
theorem d_M_looks_88 : decode b_M_looks 88 = .ok (.iload_n 0, 1) := by decide +kernel
theorem d_M_looks_89 : decode b_M_looks 89 = .ok (.bipush 39, 2) := by decide +kernel
theorem d_M_looks_91 : decode b_M_looks 91 = .ok (.if_icmp .eq 15, 3) := by decide +kernel
theorem d_M_looks_94 : decode b_M_looks 94 = .ok (.iload_n 0, 1) := by decide +kernel
theorem d_M_looks_95 : decode b_M_looks 95 = .ok (.bipush 40, 2) := by decide +kernel
theorem d_M_looks_97 : decode b_M_looks 97 = .ok (.if_icmp .eq 9, 3) := by decide +kernel
theorem d_M_looks_100 : decode b_M_looks 100 = .ok (.iload_n 0, 1) := by decide +kernel
theorem d_M_looks_101 : decode b_M_looks 101 = .ok (.bipush 41, 2) := by decide +kernel
theorem d_M_looks_103 : decode b_M_looks 103 = .ok (.if_icmp .ne 5, 3) := by decide +kernel
theorem d_M_looks_106 : decode b_M_looks 106 = .ok (.iconst 1, 1) := by decide +kernel
theorem d_M_looks_107 : decode b_M_looks 107 = .ok (.ireturn, 1) := by decide +kernel
theorem d_M_looks_108 : decode b_M_looks 108 = .ok (.iload_n 0, 1) := by decide +kernel
theorem d_M_looks_109 : decode b_M_looks 109 = .ok (.bipush 25, 2) := by decide +kernel
theorem d_M_looks_111 : decode b_M_looks 111 = .ok (.if_icmp .le 15, 3) := by decide +kernel
theorem d_M_looks_114 : decode b_M_looks 114 = .ok (.iload_n 0, 1) := by decide +kernel
theorem d_M_looks_115 : decode b_M_looks 115 = .ok (.bipush 30, 2) := by decide +kernel
theorem d_M_looks_117 : decode b_M_looks 117 = .ok (.if_icmp .lt 13, 3) := by decide +kernel
theorem d_M_looks_120 : decode b_M_looks 120 = .ok (.iload_n 0, 1) := by decide +kernel
theorem d_M_looks_121 : decode b_M_looks 121 = .ok (.bipush 41, 2) := by decide +kernel
theorem d_M_looks_123 : decode b_M_looks 123 = .ok (.if_icmp .gt 7, 3) := by decide +kernel
theorem d_M_looks_126 : decode b_M_looks 126 = .ok (.iconst 0, 1) := by decide +kernel
theorem d_M_looks_127 : decode b_M_looks 127 = .ok (.goto 4, 3) := by decide +kernel
theorem d_M_looks_130 : decode b_M_looks 130 = .ok (.iconst (-1), 1) := by decide +kernel
theorem d_M_looks_131 : decode b_M_looks 131 = .ok (.ireturn, 1) := by decide +kernel
def w_M_looks_16 (x0 : Int32) (Φ : Int32 → KS → Prop) (s0 : KS) : Prop := ((x0 = (21 : Int32) → Φ (2 : Int32) s0) ∧ (¬ x0 = (21 : Int32) → ((¬ x0 = (33 : Int32) → ((x0 = (2 : Int32) → Φ (1 : Int32) s0) ∧ (¬ x0 = (2 : Int32) → ((x0 = (3 : Int32) → Φ (1 : Int32) s0) ∧ (¬ x0 = (3 : Int32) → ((x0 = (17 : Int32) → Φ (1 : Int32) s0) ∧ (¬ x0 = (17 : Int32) → ((x0 = (19 : Int32) → Φ (1 : Int32) s0) ∧ (¬ x0 = (19 : Int32) → ((x0 = (20 : Int32) → Φ (1 : Int32) s0) ∧ (¬ x0 = (20 : Int32) → ((x0 = (23 : Int32) → Φ (1 : Int32) s0) ∧ (¬ x0 = (23 : Int32) → ((x0 = (25 : Int32) → Φ (1 : Int32) s0) ∧ (¬ x0 = (25 : Int32) → ((x0 = (30 : Int32) → Φ (1 : Int32) s0) ∧ (¬ x0 = (30 : Int32) → ((x0 = (34 : Int32) → Φ (1 : Int32) s0) ∧ (¬ x0 = (34 : Int32) → ((x0 = (37 : Int32) → Φ (1 : Int32) s0) ∧ (¬ x0 = (37 : Int32) → ((x0 = (39 : Int32) → Φ (1 : Int32) s0) ∧ (¬ x0 = (39 : Int32) → ((x0 = (40 : Int32) → Φ (1 : Int32) s0) ∧ (¬ x0 = (40 : Int32) → ((¬ x0 = (41 : Int32) → ((x0 ≤ (25 : Int32) → Φ (0 : Int32) s0) ∧ (¬ x0 ≤ (25 : Int32) → ((x0 < (30 : Int32) → Φ (-1 : Int32) s0) ∧ (¬ x0 < (30 : Int32) → (((41 : Int32) < x0 → Φ (-1 : Int32) s0) ∧ (¬ (41 : Int32) < x0 → Φ (0 : Int32) s0))))))) ∧ (x0 = (41 : Int32) → Φ (1 : Int32) s0))))))))))))))))))))))))))) ∧ (x0 = (33 : Int32) → Φ (2 : Int32) s0))))
def w_M_looks (x0 : Int32) (s0 : KS) (Φ : Int32 → KS → Prop) : Prop := ((x0 = (4 : Int32) → Φ (2 : Int32) s0) ∧ (¬ x0 = (4 : Int32) → ((x0 < (5 : Int32) → w_M_looks_16 x0 Φ s0) ∧ (¬ x0 < (5 : Int32) → ((x0 ≤ (16 : Int32) → Φ (2 : Int32) s0) ∧ (¬ x0 ≤ (16 : Int32) → w_M_looks_16 x0 Φ s0))))))
set_option maxHeartbeats 4000000 in
set_option maxRecDepth 100000 in
theorem c_M_looks (l : Launch) (E : gE) (s0 : KS) (x0 : Int32) (Φ : Int32 → KS → Prop) (hw : w_M_looks x0 s0 Φ) : gMi l y_M_looks v_M_looks m_M_looks E MM [.int x0] s0 Φ := by
  intro sz
  refine Met.ofW (cc := b_M_looks) (maxL := 1) (ret := (some .int)) (by decide) rfl ?_
  intro p e s m args below meth c s₁ B hml hv
  obtain ⟨rfl, hsz, hP, hK, hD, hX⟩ := hv
  have hx := B.exec
  have hb := B.bytes
  have hr := B.returns
  have hts := atoms_spec (ws := v_M_looks) B.pre
  have hG : ∀ w ∈ gG, w.before _ s = true := fun w h => hts w (List.mem_cons_of_mem _ h)
  have hown : s.vm.findClass R_M = some m.cls := findClass_of_methodNamed B.named
  have hlocks := B.notSynchronized
  subst hsz
  obtain ⟨A, hAe⟩ : ∃ A, A = gA E MM s.heap.size := ⟨_, rfl⟩
  rw [← hAe] at hD hX ⊢
  have hV : gV E MM A s0 s s.heap [] := ⟨hP, hD, va_S.rf⟩
  have hl := lv_entry ([.int x0] : List Value) (n := 1) (Nat.le_of_ble_eq_true rfl)
  rw [lg_entry_eq]
  generalize (lg_sl ([.int x0] : List Value) ++ List.replicate (1 - (lg_sl ([.int x0] : List Value)).length) Slot.unset).toArray = ls at hl ⊢
  have hl : lv_has ls 1 [(0, .int x0)] := hl
  have J16 : ∀ (ls : Array Slot) (H : Heap) (locs : List Loc) (s0 : KS), lv_has ls 1 [(0, .int x0)] → gV E MM A s0 s H locs → w_M_looks_16 x0 Φ s0 → W p l e m_M_looks s m ([.int x0] : List Value).toArray below meth c H locs 0 0 (MQ below (gQi E MM A Φ) ([.int x0] : List Value).toArray s 0 0 A) (F0 m 16 ls []) := by
    intro  ls H locs s0 hl hV hw
    unfold w_M_looks_16 at hw
    refine lv_iload_n hx hb d_M_looks_16 rfl (lv_at hl 0 rfl) ?_
    refine lv_bipush (v := 21) hx hb d_M_looks_17 (by decide) ?_
    refine lv_icmp_eq (tgt := 28) hx hb d_M_looks_19 rfl (fun hc => ?_) (fun hc => ?_)
    · have hw := hw.1 hc
      refine lv_iconst (v := 2) hx hb d_M_looks_28 (by decide) ?_
      exact kr_i hx hb hr hV hK hX hAe hw d_M_looks_29
    · have hw := hw.2 hc
      refine lv_iload_n hx hb d_M_looks_22 rfl (lv_at hl 0 rfl) ?_
      refine lv_bipush (v := 33) hx hb d_M_looks_23 (by decide) ?_
      refine lv_icmp_ne (tgt := 30) hx hb d_M_looks_25 rfl (fun hc => ?_) (fun hc => ?_)
      · have hw := hw.1 hc
        refine lv_iload_n hx hb d_M_looks_30 rfl (lv_at hl 0 rfl) ?_
        refine lv_iconst (v := 2) hx hb d_M_looks_31 (by decide) ?_
        refine lv_icmp_eq (tgt := 106) hx hb d_M_looks_32 rfl (fun hc => ?_) (fun hc => ?_)
        · have hw := hw.1 hc
          refine lv_iconst (v := 1) hx hb d_M_looks_106 (by decide) ?_
          exact kr_i hx hb hr hV hK hX hAe hw d_M_looks_107
        · have hw := hw.2 hc
          refine lv_iload_n hx hb d_M_looks_35 rfl (lv_at hl 0 rfl) ?_
          refine lv_iconst (v := 3) hx hb d_M_looks_36 (by decide) ?_
          refine lv_icmp_eq (tgt := 106) hx hb d_M_looks_37 rfl (fun hc => ?_) (fun hc => ?_)
          · have hw := hw.1 hc
            refine lv_iconst (v := 1) hx hb d_M_looks_106 (by decide) ?_
            exact kr_i hx hb hr hV hK hX hAe hw d_M_looks_107
          · have hw := hw.2 hc
            refine lv_iload_n hx hb d_M_looks_40 rfl (lv_at hl 0 rfl) ?_
            refine lv_bipush (v := 17) hx hb d_M_looks_41 (by decide) ?_
            refine lv_icmp_eq (tgt := 106) hx hb d_M_looks_43 rfl (fun hc => ?_) (fun hc => ?_)
            · have hw := hw.1 hc
              refine lv_iconst (v := 1) hx hb d_M_looks_106 (by decide) ?_
              exact kr_i hx hb hr hV hK hX hAe hw d_M_looks_107
            · have hw := hw.2 hc
              refine lv_iload_n hx hb d_M_looks_46 rfl (lv_at hl 0 rfl) ?_
              refine lv_bipush (v := 19) hx hb d_M_looks_47 (by decide) ?_
              refine lv_icmp_eq (tgt := 106) hx hb d_M_looks_49 rfl (fun hc => ?_) (fun hc => ?_)
              · have hw := hw.1 hc
                refine lv_iconst (v := 1) hx hb d_M_looks_106 (by decide) ?_
                exact kr_i hx hb hr hV hK hX hAe hw d_M_looks_107
              · have hw := hw.2 hc
                refine lv_iload_n hx hb d_M_looks_52 rfl (lv_at hl 0 rfl) ?_
                refine lv_bipush (v := 20) hx hb d_M_looks_53 (by decide) ?_
                refine lv_icmp_eq (tgt := 106) hx hb d_M_looks_55 rfl (fun hc => ?_) (fun hc => ?_)
                · have hw := hw.1 hc
                  refine lv_iconst (v := 1) hx hb d_M_looks_106 (by decide) ?_
                  exact kr_i hx hb hr hV hK hX hAe hw d_M_looks_107
                · have hw := hw.2 hc
                  refine lv_iload_n hx hb d_M_looks_58 rfl (lv_at hl 0 rfl) ?_
                  refine lv_bipush (v := 23) hx hb d_M_looks_59 (by decide) ?_
                  refine lv_icmp_eq (tgt := 106) hx hb d_M_looks_61 rfl (fun hc => ?_) (fun hc => ?_)
                  · have hw := hw.1 hc
                    refine lv_iconst (v := 1) hx hb d_M_looks_106 (by decide) ?_
                    exact kr_i hx hb hr hV hK hX hAe hw d_M_looks_107
                  · have hw := hw.2 hc
                    refine lv_iload_n hx hb d_M_looks_64 rfl (lv_at hl 0 rfl) ?_
                    refine lv_bipush (v := 25) hx hb d_M_looks_65 (by decide) ?_
                    refine lv_icmp_eq (tgt := 106) hx hb d_M_looks_67 rfl (fun hc => ?_) (fun hc => ?_)
                    · have hw := hw.1 hc
                      refine lv_iconst (v := 1) hx hb d_M_looks_106 (by decide) ?_
                      exact kr_i hx hb hr hV hK hX hAe hw d_M_looks_107
                    · have hw := hw.2 hc
                      refine lv_iload_n hx hb d_M_looks_70 rfl (lv_at hl 0 rfl) ?_
                      refine lv_bipush (v := 30) hx hb d_M_looks_71 (by decide) ?_
                      refine lv_icmp_eq (tgt := 106) hx hb d_M_looks_73 rfl (fun hc => ?_) (fun hc => ?_)
                      · have hw := hw.1 hc
                        refine lv_iconst (v := 1) hx hb d_M_looks_106 (by decide) ?_
                        exact kr_i hx hb hr hV hK hX hAe hw d_M_looks_107
                      · have hw := hw.2 hc
                        refine lv_iload_n hx hb d_M_looks_76 rfl (lv_at hl 0 rfl) ?_
                        refine lv_bipush (v := 34) hx hb d_M_looks_77 (by decide) ?_
                        refine lv_icmp_eq (tgt := 106) hx hb d_M_looks_79 rfl (fun hc => ?_) (fun hc => ?_)
                        · have hw := hw.1 hc
                          refine lv_iconst (v := 1) hx hb d_M_looks_106 (by decide) ?_
                          exact kr_i hx hb hr hV hK hX hAe hw d_M_looks_107
                        · have hw := hw.2 hc
                          refine lv_iload_n hx hb d_M_looks_82 rfl (lv_at hl 0 rfl) ?_
                          refine lv_bipush (v := 37) hx hb d_M_looks_83 (by decide) ?_
                          refine lv_icmp_eq (tgt := 106) hx hb d_M_looks_85 rfl (fun hc => ?_) (fun hc => ?_)
                          · have hw := hw.1 hc
                            refine lv_iconst (v := 1) hx hb d_M_looks_106 (by decide) ?_
                            exact kr_i hx hb hr hV hK hX hAe hw d_M_looks_107
                          · have hw := hw.2 hc
                            refine lv_iload_n hx hb d_M_looks_88 rfl (lv_at hl 0 rfl) ?_
                            refine lv_bipush (v := 39) hx hb d_M_looks_89 (by decide) ?_
                            refine lv_icmp_eq (tgt := 106) hx hb d_M_looks_91 rfl (fun hc => ?_) (fun hc => ?_)
                            · have hw := hw.1 hc
                              refine lv_iconst (v := 1) hx hb d_M_looks_106 (by decide) ?_
                              exact kr_i hx hb hr hV hK hX hAe hw d_M_looks_107
                            · have hw := hw.2 hc
                              refine lv_iload_n hx hb d_M_looks_94 rfl (lv_at hl 0 rfl) ?_
                              refine lv_bipush (v := 40) hx hb d_M_looks_95 (by decide) ?_
                              refine lv_icmp_eq (tgt := 106) hx hb d_M_looks_97 rfl (fun hc => ?_) (fun hc => ?_)
                              · have hw := hw.1 hc
                                refine lv_iconst (v := 1) hx hb d_M_looks_106 (by decide) ?_
                                exact kr_i hx hb hr hV hK hX hAe hw d_M_looks_107
                              · have hw := hw.2 hc
                                refine lv_iload_n hx hb d_M_looks_100 rfl (lv_at hl 0 rfl) ?_
                                refine lv_bipush (v := 41) hx hb d_M_looks_101 (by decide) ?_
                                refine lv_icmp_ne (tgt := 108) hx hb d_M_looks_103 rfl (fun hc => ?_) (fun hc => ?_)
                                · have hw := hw.1 hc
                                  refine lv_iload_n hx hb d_M_looks_108 rfl (lv_at hl 0 rfl) ?_
                                  refine lv_bipush (v := 25) hx hb d_M_looks_109 (by decide) ?_
                                  refine lv_icmp_le (tgt := 126) hx hb d_M_looks_111 rfl (fun hc => ?_) (fun hc => ?_)
                                  · have hw := hw.1 hc
                                    refine lv_iconst (v := 0) hx hb d_M_looks_126 (by decide) ?_
                                    refine lv_goto (tgt := 131) hx hb d_M_looks_127 rfl ?_
                                    exact kr_i hx hb hr hV hK hX hAe hw d_M_looks_131
                                  · have hw := hw.2 hc
                                    refine lv_iload_n hx hb d_M_looks_114 rfl (lv_at hl 0 rfl) ?_
                                    refine lv_bipush (v := 30) hx hb d_M_looks_115 (by decide) ?_
                                    refine lv_icmp_lt (tgt := 130) hx hb d_M_looks_117 rfl (fun hc => ?_) (fun hc => ?_)
                                    · have hw := hw.1 hc
                                      refine lv_iconst (v := -1) hx hb d_M_looks_130 (by decide) ?_
                                      exact kr_i hx hb hr hV hK hX hAe hw d_M_looks_131
                                    · have hw := hw.2 hc
                                      refine lv_iload_n hx hb d_M_looks_120 rfl (lv_at hl 0 rfl) ?_
                                      refine lv_bipush (v := 41) hx hb d_M_looks_121 (by decide) ?_
                                      refine lv_icmp_gt (tgt := 130) hx hb d_M_looks_123 rfl (fun hc => ?_) (fun hc => ?_)
                                      · have hw := hw.1 hc
                                        refine lv_iconst (v := -1) hx hb d_M_looks_130 (by decide) ?_
                                        exact kr_i hx hb hr hV hK hX hAe hw d_M_looks_131
                                      · have hw := hw.2 hc
                                        refine lv_iconst (v := 0) hx hb d_M_looks_126 (by decide) ?_
                                        refine lv_goto (tgt := 131) hx hb d_M_looks_127 rfl ?_
                                        exact kr_i hx hb hr hV hK hX hAe hw d_M_looks_131
                                · have hw := hw.2 hc
                                  refine lv_iconst (v := 1) hx hb d_M_looks_106 (by decide) ?_
                                  exact kr_i hx hb hr hV hK hX hAe hw d_M_looks_107
      · have hw := hw.2 hc
        refine lv_iconst (v := 2) hx hb d_M_looks_28 (by decide) ?_
        exact kr_i hx hb hr hV hK hX hAe hw d_M_looks_29
  unfold w_M_looks at hw
  refine lv_iload_n hx hb d_M_looks_0 rfl (lv_at hl 0 rfl) ?_
  refine lv_iconst (v := 4) hx hb d_M_looks_1 (by decide) ?_
  refine lv_icmp_eq (tgt := 28) hx hb d_M_looks_2 rfl (fun hc => ?_) (fun hc => ?_)
  · have hw := hw.1 hc
    refine lv_iconst (v := 2) hx hb d_M_looks_28 (by decide) ?_
    exact kr_i hx hb hr hV hK hX hAe hw d_M_looks_29
  · have hw := hw.2 hc
    refine lv_iload_n hx hb d_M_looks_5 rfl (lv_at hl 0 rfl) ?_
    refine lv_iconst (v := 5) hx hb d_M_looks_6 (by decide) ?_
    refine lv_icmp_lt (tgt := 16) hx hb d_M_looks_7 rfl (fun hc => ?_) (fun hc => ?_)
    · have hw := hw.1 hc
      exact J16 _ _ _ s0 (lv_sub hl [0] rfl) hV hw
    · have hw := hw.2 hc
      refine lv_iload_n hx hb d_M_looks_10 rfl (lv_at hl 0 rfl) ?_
      refine lv_bipush (v := 16) hx hb d_M_looks_11 (by decide) ?_
      refine lv_icmp_le (tgt := 28) hx hb d_M_looks_13 rfl (fun hc => ?_) (fun hc => ?_)
      · have hw := hw.1 hc
        refine lv_iconst (v := 2) hx hb d_M_looks_28 (by decide) ?_
        exact kr_i hx hb hr hV hK hX hAe hw d_M_looks_29
      · have hw := hw.2 hc
        exact J16 _ _ _ s0 (lv_sub hl [0] rfl) hV hw
theorem d_M_pushes_0 : decode b_M_pushes 0 = .ok (.iload_n 0, 1) := by decide +kernel
theorem d_M_pushes_1 : decode b_M_pushes 1 = .ok (.iconst 3, 1) := by decide +kernel
theorem d_M_pushes_2 : decode b_M_pushes 2 = .ok (.if_icmp .eq 26, 3) := by decide +kernel
theorem d_M_pushes_5 : decode b_M_pushes 5 = .ok (.iload_n 0, 1) := by decide +kernel
theorem d_M_pushes_6 : decode b_M_pushes 6 = .ok (.iconst 4, 1) := by decide +kernel
theorem d_M_pushes_7 : decode b_M_pushes 7 = .ok (.if_icmp .eq 21, 3) := by decide +kernel
theorem d_M_pushes_10 : decode b_M_pushes 10 = .ok (.iload_n 0, 1) := by decide +kernel
theorem d_M_pushes_11 : decode b_M_pushes 11 = .ok (.bipush 34, 2) := by decide +kernel
theorem d_M_pushes_13 : decode b_M_pushes 13 = .ok (.if_icmp .eq 15, 3) := by decide +kernel
theorem d_M_pushes_16 : decode b_M_pushes 16 = .ok (.iload_n 0, 1) := by decide +kernel
theorem d_M_pushes_17 : decode b_M_pushes 17 = .ok (.bipush 36, 2) := by decide +kernel
theorem d_M_pushes_19 : decode b_M_pushes 19 = .ok (.if_icmp .eq 9, 3) := by decide +kernel
theorem d_M_pushes_22 : decode b_M_pushes 22 = .ok (.iload_n 0, 1) := by decide +kernel
theorem d_M_pushes_23 : decode b_M_pushes 23 = .ok (.bipush 38, 2) := by decide +kernel
theorem d_M_pushes_25 : decode b_M_pushes 25 = .ok (.if_icmp .ne 5, 3) := by decide +kernel
theorem d_M_pushes_28 : decode b_M_pushes 28 = .ok (.iconst 2, 1) := by decide +kernel
theorem d_M_pushes_29 : decode b_M_pushes 29 = .ok (.ireturn, 1) := by decide +kernel
theorem d_M_pushes_30 : decode b_M_pushes 30 = .ok (.iload_n 0, 1) := by decide +kernel
theorem d_M_pushes_31 : decode b_M_pushes 31 = .ok (.ifCond .eq 44, 3) := by decide +kernel
theorem d_M_pushes_34 : decode b_M_pushes 34 = .ok (.iload_n 0, 1) := by decide +kernel
theorem d_M_pushes_35 : decode b_M_pushes 35 = .ok (.iconst 2, 1) := by decide +kernel
theorem d_M_pushes_36 : decode b_M_pushes 36 = .ok (.if_icmp .eq 39, 3) := by decide +kernel
theorem d_M_pushes_39 : decode b_M_pushes 39 = .ok (.iload_n 0, 1) := by decide +kernel
theorem d_M_pushes_40 : decode b_M_pushes 40 = .ok (.bipush 19, 2) := by decide +kernel
theorem d_M_pushes_42 : decode b_M_pushes 42 = .ok (.if_icmp .eq 33, 3) := by decide +kernel
theorem d_M_pushes_45 : decode b_M_pushes 45 = .ok (.iload_n 0, 1) := by decide +kernel
theorem d_M_pushes_46 : decode b_M_pushes 46 = .ok (.bipush 21, 2) := by decide +kernel
theorem d_M_pushes_48 : decode b_M_pushes 48 = .ok (.if_icmp .lt 9, 3) := by decide +kernel
theorem d_M_pushes_51 : decode b_M_pushes 51 = .ok (.iload_n 0, 1) := by decide +kernel
theorem d_M_pushes_52 : decode b_M_pushes 52 = .ok (.bipush 23, 2) := by decide +kernel
theorem d_M_pushes_54 : decode b_M_pushes 54 = .ok (.if_icmp .le 21, 3) := by decide +kernel
theorem d_M_pushes_57 : decode b_M_pushes 57 = .ok (.iload_n 0, 1) := by decide +kernel
theorem d_M_pushes_58 : decode b_M_pushes 58 = .ok (.bipush 25, 2) := by decide +kernel
theorem d_M_pushes_60 : decode b_M_pushes 60 = .ok (.if_icmp .eq 15, 3) := by decide +kernel
theorem d_M_pushes_63 : decode b_M_pushes 63 = .ok (.iload_n 0, 1) := by decide +kernel
theorem d_M_pushes_64 : decode b_M_pushes 64 = .ok (.bipush 30, 2) := by decide +kernel
theorem d_M_pushes_66 : decode b_M_pushes 66 = .ok (.if_icmp .eq 9, 3) := by decide +kernel
theorem d_M_pushes_69 : decode b_M_pushes 69 = .ok (.iload_n 0, 1) := by decide +kernel
theorem d_M_pushes_70 : decode b_M_pushes 70 = .ok (.bipush 32, 2) := by decide +kernel
theorem d_M_pushes_72 : decode b_M_pushes 72 = .ok (.if_icmp .ne 7, 3) := by decide +kernel
theorem d_M_pushes_75 : decode b_M_pushes 75 = .ok (.iconst 1, 1) := by decide +kernel
theorem d_M_pushes_76 : decode b_M_pushes 76 = .ok (.goto 4, 3) := by decide +kernel
theorem d_M_pushes_79 : decode b_M_pushes 79 = .ok (.iconst 0, 1) := by decide +kernel
theorem d_M_pushes_80 : decode b_M_pushes 80 = .ok (.istore_n 1, 1) := by decide +kernel
theorem d_M_pushes_81 : decode b_M_pushes 81 = .ok (.iload_n 1, 1) := by decide +kernel
theorem d_M_pushes_82 : decode b_M_pushes 82 = .ok (.ifCond .eq 7, 3) := by decide +kernel
theorem d_M_pushes_85 : decode b_M_pushes 85 = .ok (.iconst 0, 1) := by decide +kernel
theorem d_M_pushes_86 : decode b_M_pushes 86 = .ok (.goto 4, 3) := by decide +kernel
theorem d_M_pushes_89 : decode b_M_pushes 89 = .ok (.iconst 1, 1) := by decide +kernel
theorem d_M_pushes_90 : decode b_M_pushes 90 = .ok (.ireturn, 1) := by decide +kernel
def w_M_pushes_80 (x0 : Int32) (Φ : Int32 → KS → Prop) (t0 : Int32) (s0 : KS) : Prop := ((t0 = 0 → Φ (1 : Int32) s0) ∧ (¬ t0 = 0 → Φ (0 : Int32) s0))
def w_M_pushes_75 (x0 : Int32) (Φ : Int32 → KS → Prop) (s0 : KS) : Prop := w_M_pushes_80 x0 Φ (1 : Int32) s0
def w_M_pushes_57 (x0 : Int32) (Φ : Int32 → KS → Prop) (s0 : KS) : Prop := ((x0 = (25 : Int32) → w_M_pushes_75 x0 Φ s0) ∧ (¬ x0 = (25 : Int32) → ((x0 = (30 : Int32) → w_M_pushes_75 x0 Φ s0) ∧ (¬ x0 = (30 : Int32) → ((¬ x0 = (32 : Int32) → w_M_pushes_80 x0 Φ (0 : Int32) s0) ∧ (x0 = (32 : Int32) → w_M_pushes_75 x0 Φ s0))))))
def w_M_pushes (x0 : Int32) (s0 : KS) (Φ : Int32 → KS → Prop) : Prop := ((x0 = (3 : Int32) → Φ (2 : Int32) s0) ∧ (¬ x0 = (3 : Int32) → ((x0 = (4 : Int32) → Φ (2 : Int32) s0) ∧ (¬ x0 = (4 : Int32) → ((x0 = (34 : Int32) → Φ (2 : Int32) s0) ∧ (¬ x0 = (34 : Int32) → ((x0 = (36 : Int32) → Φ (2 : Int32) s0) ∧ (¬ x0 = (36 : Int32) → ((¬ x0 = (38 : Int32) → ((x0 = 0 → w_M_pushes_75 x0 Φ s0) ∧ (¬ x0 = 0 → ((x0 = (2 : Int32) → w_M_pushes_75 x0 Φ s0) ∧ (¬ x0 = (2 : Int32) → ((x0 = (19 : Int32) → w_M_pushes_75 x0 Φ s0) ∧ (¬ x0 = (19 : Int32) → ((x0 < (21 : Int32) → w_M_pushes_57 x0 Φ s0) ∧ (¬ x0 < (21 : Int32) → ((x0 ≤ (23 : Int32) → w_M_pushes_75 x0 Φ s0) ∧ (¬ x0 ≤ (23 : Int32) → w_M_pushes_57 x0 Φ s0))))))))))) ∧ (x0 = (38 : Int32) → Φ (2 : Int32) s0))))))))))
set_option maxHeartbeats 4000000 in
set_option maxRecDepth 100000 in
theorem c_M_pushes (l : Launch) (E : gE) (s0 : KS) (x0 : Int32) (Φ : Int32 → KS → Prop) (hw : w_M_pushes x0 s0 Φ) : gMi l y_M_pushes v_M_pushes m_M_pushes E MM [.int x0] s0 Φ := by
  intro sz
  refine Met.ofW (cc := b_M_pushes) (maxL := 2) (ret := (some .int)) (by decide) rfl ?_
  intro p e s m args below meth c s₁ B hml hv
  obtain ⟨rfl, hsz, hP, hK, hD, hX⟩ := hv
  have hx := B.exec
  have hb := B.bytes
  have hr := B.returns
  have hts := atoms_spec (ws := v_M_pushes) B.pre
  have hG : ∀ w ∈ gG, w.before _ s = true := fun w h => hts w (List.mem_cons_of_mem _ h)
  have hown : s.vm.findClass R_M = some m.cls := findClass_of_methodNamed B.named
  have hlocks := B.notSynchronized
  subst hsz
  obtain ⟨A, hAe⟩ : ∃ A, A = gA E MM s.heap.size := ⟨_, rfl⟩
  rw [← hAe] at hD hX ⊢
  have hV : gV E MM A s0 s s.heap [] := ⟨hP, hD, va_S.rf⟩
  have hl := lv_entry ([.int x0] : List Value) (n := 2) (Nat.le_of_ble_eq_true rfl)
  rw [lg_entry_eq]
  generalize (lg_sl ([.int x0] : List Value) ++ List.replicate (2 - (lg_sl ([.int x0] : List Value)).length) Slot.unset).toArray = ls at hl ⊢
  have hl : lv_has ls 2 [(0, .int x0)] := hl
  have J80 : ∀ (ls : Array Slot) (H : Heap) (locs : List Loc) (s0 : KS) (t0 : Int32), lv_has ls 2 [] → gV E MM A s0 s H locs → w_M_pushes_80 x0 Φ t0 s0 → W p l e m_M_pushes s m ([.int x0] : List Value).toArray below meth c H locs 0 0 (MQ below (gQi E MM A Φ) ([.int x0] : List Value).toArray s 0 0 A) (F0 m 80 ls [.int t0]) := by
    intro  ls H locs s0 t0 hl hV hw
    unfold w_M_pushes_80 at hw
    refine lv_istore_n (lv' := [(1, .int t0)]) hx hb d_M_pushes_80 rfl hl (by decide) rfl (fun ls hl => ?_)
    refine lv_iload_n hx hb d_M_pushes_81 rfl (lv_at hl 0 rfl) ?_
    refine lv_if_eq (tgt := 89) hx hb d_M_pushes_82 rfl (fun hc => ?_) (fun hc => ?_)
    · have hw := hw.1 hc
      refine lv_iconst (v := 1) hx hb d_M_pushes_89 (by decide) ?_
      exact kr_i hx hb hr hV hK hX hAe hw d_M_pushes_90
    · have hw := hw.2 hc
      refine lv_iconst (v := 0) hx hb d_M_pushes_85 (by decide) ?_
      refine lv_goto (tgt := 90) hx hb d_M_pushes_86 rfl ?_
      exact kr_i hx hb hr hV hK hX hAe hw d_M_pushes_90
  have J75 : ∀ (ls : Array Slot) (H : Heap) (locs : List Loc) (s0 : KS), lv_has ls 2 [] → gV E MM A s0 s H locs → w_M_pushes_75 x0 Φ s0 → W p l e m_M_pushes s m ([.int x0] : List Value).toArray below meth c H locs 0 0 (MQ below (gQi E MM A Φ) ([.int x0] : List Value).toArray s 0 0 A) (F0 m 75 ls []) := by
    intro  ls H locs s0 hl hV hw
    unfold w_M_pushes_75 at hw
    refine lv_iconst (v := 1) hx hb d_M_pushes_75 (by decide) ?_
    refine lv_goto (tgt := 80) hx hb d_M_pushes_76 rfl ?_
    exact J80 _ _ _ s0 (1 : Int32) (lv_sub hl [] rfl) hV hw
  have J57 : ∀ (ls : Array Slot) (H : Heap) (locs : List Loc) (s0 : KS), lv_has ls 2 [(0, .int x0)] → gV E MM A s0 s H locs → w_M_pushes_57 x0 Φ s0 → W p l e m_M_pushes s m ([.int x0] : List Value).toArray below meth c H locs 0 0 (MQ below (gQi E MM A Φ) ([.int x0] : List Value).toArray s 0 0 A) (F0 m 57 ls []) := by
    intro  ls H locs s0 hl hV hw
    unfold w_M_pushes_57 at hw
    refine lv_iload_n hx hb d_M_pushes_57 rfl (lv_at hl 0 rfl) ?_
    refine lv_bipush (v := 25) hx hb d_M_pushes_58 (by decide) ?_
    refine lv_icmp_eq (tgt := 75) hx hb d_M_pushes_60 rfl (fun hc => ?_) (fun hc => ?_)
    · have hw := hw.1 hc
      exact J75 _ _ _ s0 (lv_sub hl [] rfl) hV hw
    · have hw := hw.2 hc
      refine lv_iload_n hx hb d_M_pushes_63 rfl (lv_at hl 0 rfl) ?_
      refine lv_bipush (v := 30) hx hb d_M_pushes_64 (by decide) ?_
      refine lv_icmp_eq (tgt := 75) hx hb d_M_pushes_66 rfl (fun hc => ?_) (fun hc => ?_)
      · have hw := hw.1 hc
        exact J75 _ _ _ s0 (lv_sub hl [] rfl) hV hw
      · have hw := hw.2 hc
        refine lv_iload_n hx hb d_M_pushes_69 rfl (lv_at hl 0 rfl) ?_
        refine lv_bipush (v := 32) hx hb d_M_pushes_70 (by decide) ?_
        refine lv_icmp_ne (tgt := 79) hx hb d_M_pushes_72 rfl (fun hc => ?_) (fun hc => ?_)
        · have hw := hw.1 hc
          refine lv_iconst (v := 0) hx hb d_M_pushes_79 (by decide) ?_
          exact J80 _ _ _ s0 (0 : Int32) (lv_sub hl [] rfl) hV hw
        · have hw := hw.2 hc
          exact J75 _ _ _ s0 (lv_sub hl [] rfl) hV hw
  unfold w_M_pushes at hw
  refine lv_iload_n hx hb d_M_pushes_0 rfl (lv_at hl 0 rfl) ?_
  refine lv_iconst (v := 3) hx hb d_M_pushes_1 (by decide) ?_
  refine lv_icmp_eq (tgt := 28) hx hb d_M_pushes_2 rfl (fun hc => ?_) (fun hc => ?_)
  · have hw := hw.1 hc
    refine lv_iconst (v := 2) hx hb d_M_pushes_28 (by decide) ?_
    exact kr_i hx hb hr hV hK hX hAe hw d_M_pushes_29
  · have hw := hw.2 hc
    refine lv_iload_n hx hb d_M_pushes_5 rfl (lv_at hl 0 rfl) ?_
    refine lv_iconst (v := 4) hx hb d_M_pushes_6 (by decide) ?_
    refine lv_icmp_eq (tgt := 28) hx hb d_M_pushes_7 rfl (fun hc => ?_) (fun hc => ?_)
    · have hw := hw.1 hc
      refine lv_iconst (v := 2) hx hb d_M_pushes_28 (by decide) ?_
      exact kr_i hx hb hr hV hK hX hAe hw d_M_pushes_29
    · have hw := hw.2 hc
      refine lv_iload_n hx hb d_M_pushes_10 rfl (lv_at hl 0 rfl) ?_
      refine lv_bipush (v := 34) hx hb d_M_pushes_11 (by decide) ?_
      refine lv_icmp_eq (tgt := 28) hx hb d_M_pushes_13 rfl (fun hc => ?_) (fun hc => ?_)
      · have hw := hw.1 hc
        refine lv_iconst (v := 2) hx hb d_M_pushes_28 (by decide) ?_
        exact kr_i hx hb hr hV hK hX hAe hw d_M_pushes_29
      · have hw := hw.2 hc
        refine lv_iload_n hx hb d_M_pushes_16 rfl (lv_at hl 0 rfl) ?_
        refine lv_bipush (v := 36) hx hb d_M_pushes_17 (by decide) ?_
        refine lv_icmp_eq (tgt := 28) hx hb d_M_pushes_19 rfl (fun hc => ?_) (fun hc => ?_)
        · have hw := hw.1 hc
          refine lv_iconst (v := 2) hx hb d_M_pushes_28 (by decide) ?_
          exact kr_i hx hb hr hV hK hX hAe hw d_M_pushes_29
        · have hw := hw.2 hc
          refine lv_iload_n hx hb d_M_pushes_22 rfl (lv_at hl 0 rfl) ?_
          refine lv_bipush (v := 38) hx hb d_M_pushes_23 (by decide) ?_
          refine lv_icmp_ne (tgt := 30) hx hb d_M_pushes_25 rfl (fun hc => ?_) (fun hc => ?_)
          · have hw := hw.1 hc
            refine lv_iload_n hx hb d_M_pushes_30 rfl (lv_at hl 0 rfl) ?_
            refine lv_if_eq (tgt := 75) hx hb d_M_pushes_31 rfl (fun hc => ?_) (fun hc => ?_)
            · have hw := hw.1 hc
              exact J75 _ _ _ s0 (lv_sub hl [] rfl) hV hw
            · have hw := hw.2 hc
              refine lv_iload_n hx hb d_M_pushes_34 rfl (lv_at hl 0 rfl) ?_
              refine lv_iconst (v := 2) hx hb d_M_pushes_35 (by decide) ?_
              refine lv_icmp_eq (tgt := 75) hx hb d_M_pushes_36 rfl (fun hc => ?_) (fun hc => ?_)
              · have hw := hw.1 hc
                exact J75 _ _ _ s0 (lv_sub hl [] rfl) hV hw
              · have hw := hw.2 hc
                refine lv_iload_n hx hb d_M_pushes_39 rfl (lv_at hl 0 rfl) ?_
                refine lv_bipush (v := 19) hx hb d_M_pushes_40 (by decide) ?_
                refine lv_icmp_eq (tgt := 75) hx hb d_M_pushes_42 rfl (fun hc => ?_) (fun hc => ?_)
                · have hw := hw.1 hc
                  exact J75 _ _ _ s0 (lv_sub hl [] rfl) hV hw
                · have hw := hw.2 hc
                  refine lv_iload_n hx hb d_M_pushes_45 rfl (lv_at hl 0 rfl) ?_
                  refine lv_bipush (v := 21) hx hb d_M_pushes_46 (by decide) ?_
                  refine lv_icmp_lt (tgt := 57) hx hb d_M_pushes_48 rfl (fun hc => ?_) (fun hc => ?_)
                  · have hw := hw.1 hc
                    exact J57 _ _ _ s0 (lv_sub hl [0] rfl) hV hw
                  · have hw := hw.2 hc
                    refine lv_iload_n hx hb d_M_pushes_51 rfl (lv_at hl 0 rfl) ?_
                    refine lv_bipush (v := 23) hx hb d_M_pushes_52 (by decide) ?_
                    refine lv_icmp_le (tgt := 75) hx hb d_M_pushes_54 rfl (fun hc => ?_) (fun hc => ?_)
                    · have hw := hw.1 hc
                      exact J75 _ _ _ s0 (lv_sub hl [] rfl) hV hw
                    · have hw := hw.2 hc
                      exact J57 _ _ _ s0 (lv_sub hl [0] rfl) hV hw
          · have hw := hw.2 hc
            refine lv_iconst (v := 2) hx hb d_M_pushes_28 (by decide) ?_
            exact kr_i hx hb hr hV hK hX hAe hw d_M_pushes_29
theorem d_M_rowFor_0 : decode b_M_rowFor 0 = .ok (.iload_n 2, 1) := by decide +kernel
theorem d_M_rowFor_1 : decode b_M_rowFor 1 = .ok (.bipush 36, 2) := by decide +kernel
theorem d_M_rowFor_3 : decode b_M_rowFor 3 = .ok (.if_icmp .ne 106, 3) := by decide +kernel
theorem d_M_rowFor_6 : decode b_M_rowFor 6 = .ok (.iconst 0, 1) := by decide +kernel
theorem d_M_rowFor_7 : decode b_M_rowFor 7 = .ok (.istore_n 3, 1) := by decide +kernel
theorem d_M_rowFor_8 : decode b_M_rowFor 8 = .ok (.iconst 0, 1) := by decide +kernel
theorem d_M_rowFor_9 : decode b_M_rowFor 9 = .ok (.istore 4, 2) := by decide +kernel
theorem d_M_rowFor_11 : decode b_M_rowFor 11 = .ok (.iconst 0, 1) := by decide +kernel
theorem d_M_rowFor_12 : decode b_M_rowFor 12 = .ok (.istore 5, 2) := by decide +kernel
theorem d_M_rowFor_14 : decode b_M_rowFor 14 = .ok (.iload 5, 2) := by decide +kernel
theorem d_M_rowFor_16 : decode b_M_rowFor 16 = .ok (.bipush 16, 2) := by decide +kernel
theorem d_M_rowFor_18 : decode b_M_rowFor 18 = .ok (.if_icmp .ge 75, 3) := by decide +kernel
theorem d_M_rowFor_21 : decode b_M_rowFor 21 = .ok (.iload_n 3, 1) := by decide +kernel
theorem d_M_rowFor_22 : decode b_M_rowFor 22 = .ok (.ifCond .ne 24, 3) := by decide +kernel
theorem d_M_rowFor_25 : decode b_M_rowFor 25 = .ok (.aload_n 0, 1) := by decide +kernel
theorem d_M_rowFor_26 : decode b_M_rowFor 26 = .ok (.getfield 13, 3) := by decide +kernel
theorem d_M_rowFor_29 : decode b_M_rowFor 29 = .ok (.iload 5, 2) := by decide +kernel
theorem d_M_rowFor_31 : decode b_M_rowFor 31 = .ok (.iaload, 1) := by decide +kernel
theorem d_M_rowFor_32 : decode b_M_rowFor 32 = .ok (.ifCond .eq 18, 3) := by decide +kernel
theorem d_M_rowFor_35 : decode b_M_rowFor 35 = .ok (.aload_n 0, 1) := by decide +kernel
theorem d_M_rowFor_36 : decode b_M_rowFor 36 = .ok (.getfield 31, 3) := by decide +kernel
theorem d_M_rowFor_39 : decode b_M_rowFor 39 = .ok (.iload 5, 2) := by decide +kernel
theorem d_M_rowFor_41 : decode b_M_rowFor 41 = .ok (.iaload, 1) := by decide +kernel
theorem d_M_rowFor_42 : decode b_M_rowFor 42 = .ok (.iload_n 1, 1) := by decide +kernel
theorem d_M_rowFor_43 : decode b_M_rowFor 43 = .ok (.if_icmp .ne 7, 3) := by decide +kernel
theorem d_M_rowFor_46 : decode b_M_rowFor 46 = .ok (.iconst 1, 1) := by decide +kernel
theorem d_M_rowFor_47 : decode b_M_rowFor 47 = .ok (.goto 4, 3) := by decide +kernel
theorem d_M_rowFor_50 : decode b_M_rowFor 50 = .ok (.iconst 0, 1) := by decide +kernel
theorem d_M_rowFor_51 : decode b_M_rowFor 51 = .ok (.istore_n 3, 1) := by decide +kernel
theorem d_M_rowFor_52 : decode b_M_rowFor 52 = .ok (.iload 4, 2) := by decide +kernel
theorem d_M_rowFor_54 : decode b_M_rowFor 54 = .ok (.ifCond .ne 26, 3) := by decide +kernel
theorem d_M_rowFor_57 : decode b_M_rowFor 57 = .ok (.aload_n 0, 1) := by decide +kernel
theorem d_M_rowFor_58 : decode b_M_rowFor 58 = .ok (.getfield 13, 3) := by decide +kernel
theorem d_M_rowFor_61 : decode b_M_rowFor 61 = .ok (.iload 5, 2) := by decide +kernel
theorem d_M_rowFor_63 : decode b_M_rowFor 63 = .ok (.iaload, 1) := by decide +kernel
theorem d_M_rowFor_64 : decode b_M_rowFor 64 = .ok (.bipush 6, 2) := by decide +kernel
theorem d_M_rowFor_66 : decode b_M_rowFor 66 = .ok (.if_icmp .ne 18, 3) := by decide +kernel
theorem d_M_rowFor_69 : decode b_M_rowFor 69 = .ok (.aload_n 0, 1) := by decide +kernel
theorem d_M_rowFor_70 : decode b_M_rowFor 70 = .ok (.getfield 31, 3) := by decide +kernel
theorem d_M_rowFor_73 : decode b_M_rowFor 73 = .ok (.iload 5, 2) := by decide +kernel
theorem d_M_rowFor_75 : decode b_M_rowFor 75 = .ok (.iaload, 1) := by decide +kernel
theorem d_M_rowFor_76 : decode b_M_rowFor 76 = .ok (.iload_n 1, 1) := by decide +kernel
theorem d_M_rowFor_77 : decode b_M_rowFor 77 = .ok (.if_icmp .ne 7, 3) := by decide +kernel
theorem d_M_rowFor_80 : decode b_M_rowFor 80 = .ok (.iconst 1, 1) := by decide +kernel
theorem d_M_rowFor_81 : decode b_M_rowFor 81 = .ok (.goto 4, 3) := by decide +kernel
theorem d_M_rowFor_84 : decode b_M_rowFor 84 = .ok (.iconst 0, 1) := by decide +kernel
theorem d_M_rowFor_85 : decode b_M_rowFor 85 = .ok (.istore 4, 2) := by decide +kernel
theorem d_M_rowFor_87 : decode b_M_rowFor 87 = .ok (.iinc 5 1, 3) := by decide +kernel
theorem d_M_rowFor_90 : decode b_M_rowFor 90 = .ok (.goto (-76), 3) := by decide +kernel
theorem d_M_rowFor_93 : decode b_M_rowFor 93 = .ok (.iload_n 3, 1) := by decide +kernel
theorem d_M_rowFor_94 : decode b_M_rowFor 94 = .ok (.ifCond .eq 13, 3) := by decide +kernel
theorem d_M_rowFor_97 : decode b_M_rowFor 97 = .ok (.iload 4, 2) := by decide +kernel
theorem d_M_rowFor_99 : decode b_M_rowFor 99 = .ok (.ifCond .ne 8, 3) := by decide +kernel
theorem d_M_rowFor_102 : decode b_M_rowFor 102 = .ok (.bipush 17, 2) := by decide +kernel
theorem d_M_rowFor_104 : decode b_M_rowFor 104 = .ok (.goto 4, 3) := by decide +kernel
theorem d_M_rowFor_107 : decode b_M_rowFor 107 = .ok (.iconst (-1), 1) := by decide +kernel
theorem d_M_rowFor_108 : decode b_M_rowFor 108 = .ok (.ireturn, 1) := by decide +kernel
theorem d_M_rowFor_109 : decode b_M_rowFor 109 = .ok (.iload_n 2, 1) := by decide +kernel
theorem d_M_rowFor_110 : decode b_M_rowFor 110 = .ok (.bipush 33, 2) := by decide +kernel
theorem d_M_rowFor_112 : decode b_M_rowFor 112 = .ok (.if_icmp .eq 9, 3) := by decide +kernel
theorem d_M_rowFor_115 : decode b_M_rowFor 115 = .ok (.iload_n 2, 1) := by decide +kernel
theorem d_M_rowFor_116 : decode b_M_rowFor 116 = .ok (.bipush 34, 2) := by decide +kernel
theorem d_M_rowFor_118 : decode b_M_rowFor 118 = .ok (.if_icmp .ne 17, 3) := by decide +kernel
theorem d_M_rowFor_121 : decode b_M_rowFor 121 = .ok (.aload_n 0, 1) := by decide +kernel
theorem d_M_rowFor_122 : decode b_M_rowFor 122 = .ok (.iload_n 1, 1) := by decide +kernel
theorem d_M_rowFor_123 : decode b_M_rowFor 123 = .ok (.aload_n 0, 1) := by decide +kernel
theorem d_M_rowFor_124 : decode b_M_rowFor 124 = .ok (.iload_n 1, 1) := by decide +kernel
theorem d_M_rowFor_125 : decode b_M_rowFor 125 = .ok (.iconst 0, 1) := by decide +kernel
theorem d_M_rowFor_126 : decode b_M_rowFor 126 = .ok (.invokevirtual 112, 3) := by decide +kernel
theorem d_M_rowFor_129 : decode b_M_rowFor 129 = .ok (.invokevirtual 116, 3) := by decide +kernel
theorem d_M_rowFor_132 : decode b_M_rowFor 132 = .ok (.goto 4, 3) := by decide +kernel
theorem d_M_rowFor_135 : decode b_M_rowFor 135 = .ok (.iconst 0, 1) := by decide +kernel
theorem d_M_rowFor_136 : decode b_M_rowFor 136 = .ok (.istore_n 3, 1) := by decide +kernel
theorem d_M_rowFor_137 : decode b_M_rowFor 137 = .ok (.iload_n 2, 1) := by decide +kernel
theorem d_M_rowFor_138 : decode b_M_rowFor 138 = .ok (.bipush 33, 2) := by decide +kernel
theorem d_M_rowFor_140 : decode b_M_rowFor 140 = .ok (.if_icmp .ne 51, 3) := by decide +kernel
theorem d_M_rowFor_143 : decode b_M_rowFor 143 = .ok (.iload_n 3, 1) := by decide +kernel
theorem d_M_rowFor_144 : decode b_M_rowFor 144 = .ok (.bipush 20, 2) := by decide +kernel
theorem d_M_rowFor_146 : decode b_M_rowFor 146 = .ok (.if_icmp .lt 45, 3) := by decide +kernel
theorem d_M_rowFor_149 : decode b_M_rowFor 149 = .ok (.iload_n 3, 1) := by decide +kernel
theorem d_M_rowFor_150 : decode b_M_rowFor 150 = .ok (.bipush 20, 2) := by decide +kernel
theorem d_M_rowFor_152 : decode b_M_rowFor 152 = .ok (.isub, 1) := by decide +kernel
theorem d_M_rowFor_153 : decode b_M_rowFor 153 = .ok (.istore 4, 2) := by decide +kernel
theorem d_M_rowFor_155 : decode b_M_rowFor 155 = .ok (.aload_n 0, 1) := by decide +kernel
theorem d_M_rowFor_156 : decode b_M_rowFor 156 = .ok (.bipush 10, 2) := by decide +kernel
theorem d_M_rowFor_158 : decode b_M_rowFor 158 = .ok (.iload 4, 2) := by decide +kernel
theorem d_M_rowFor_160 : decode b_M_rowFor 160 = .ok (.iadd, 1) := by decide +kernel
theorem d_M_rowFor_161 : decode b_M_rowFor 161 = .ok (.invokevirtual 98, 3) := by decide +kernel
theorem d_M_rowFor_164 : decode b_M_rowFor 164 = .ok (.ifCond .le 25, 3) := by decide +kernel
theorem d_M_rowFor_167 : decode b_M_rowFor 167 = .ok (.aload_n 0, 1) := by decide +kernel
theorem d_M_rowFor_168 : decode b_M_rowFor 168 = .ok (.getfield 52, 3) := by decide +kernel
theorem d_M_rowFor_171 : decode b_M_rowFor 171 = .ok (.iload 4, 2) := by decide +kernel
theorem d_M_rowFor_173 : decode b_M_rowFor 173 = .ok (.iaload, 1) := by decide +kernel
theorem d_M_rowFor_174 : decode b_M_rowFor 174 = .ok (.aload_n 0, 1) := by decide +kernel
theorem d_M_rowFor_175 : decode b_M_rowFor 175 = .ok (.getfield 65, 3) := by decide +kernel
theorem d_M_rowFor_178 : decode b_M_rowFor 178 = .ok (.if_icmp .ne 11, 3) := by decide +kernel
theorem d_M_rowFor_181 : decode b_M_rowFor 181 = .ok (.bipush 8, 2) := by decide +kernel
theorem d_M_rowFor_183 : decode b_M_rowFor 183 = .ok (.iload 4, 2) := by decide +kernel
theorem d_M_rowFor_185 : decode b_M_rowFor 185 = .ok (.iadd, 1) := by decide +kernel
theorem d_M_rowFor_186 : decode b_M_rowFor 186 = .ok (.goto 4, 3) := by decide +kernel
theorem d_M_rowFor_189 : decode b_M_rowFor 189 = .ok (.iconst (-1), 1) := by decide +kernel
theorem d_M_rowFor_190 : decode b_M_rowFor 190 = .ok (.ireturn, 1) := by decide +kernel
theorem d_M_rowFor_191 : decode b_M_rowFor 191 = .ok (.iload_n 2, 1) := by decide +kernel
theorem d_M_rowFor_192 : decode b_M_rowFor 192 = .ok (.bipush 34, 2) := by decide +kernel
theorem d_M_rowFor_194 : decode b_M_rowFor 194 = .ok (.if_icmp .ne 29, 3) := by decide +kernel
theorem d_M_rowFor_197 : decode b_M_rowFor 197 = .ok (.iload_n 3, 1) := by decide +kernel
theorem d_M_rowFor_198 : decode b_M_rowFor 198 = .ok (.iconst 1, 1) := by decide +kernel
theorem d_M_rowFor_199 : decode b_M_rowFor 199 = .ok (.if_icmp .ne 24, 3) := by decide +kernel
theorem d_M_rowFor_202 : decode b_M_rowFor 202 = .ok (.aload_n 0, 1) := by decide +kernel
theorem d_M_rowFor_203 : decode b_M_rowFor 203 = .ok (.getfield 119, 3) := by decide +kernel
theorem d_M_rowFor_206 : decode b_M_rowFor 206 = .ok (.ifCond .ne 15, 3) := by decide +kernel
theorem d_M_rowFor_209 : decode b_M_rowFor 209 = .ok (.aload_n 0, 1) := by decide +kernel
theorem d_M_rowFor_210 : decode b_M_rowFor 210 = .ok (.getfield 122, 3) := by decide +kernel
theorem d_M_rowFor_213 : decode b_M_rowFor 213 = .ok (.ifCond .ne 8, 3) := by decide +kernel
theorem d_M_rowFor_216 : decode b_M_rowFor 216 = .ok (.bipush 16, 2) := by decide +kernel
theorem d_M_rowFor_218 : decode b_M_rowFor 218 = .ok (.goto 4, 3) := by decide +kernel
theorem d_M_rowFor_221 : decode b_M_rowFor 221 = .ok (.iconst (-1), 1) := by decide +kernel
theorem d_M_rowFor_222 : decode b_M_rowFor 222 = .ok (.ireturn, 1) := by decide +kernel
theorem d_M_rowFor_223 : decode b_M_rowFor 223 = .ok (.iload_n 2, 1) := by decide +kernel
theorem d_M_rowFor_224 : decode b_M_rowFor 224 = .ok (.bipush 34, 2) := by decide +kernel
theorem d_M_rowFor_226 : decode b_M_rowFor 226 = .ok (.if_icmp .ne 50, 3) := by decide +kernel
theorem d_M_rowFor_229 : decode b_M_rowFor 229 = .ok (.iload_n 3, 1) := by decide +kernel
theorem d_M_rowFor_230 : decode b_M_rowFor 230 = .ok (.bipush 10, 2) := by decide +kernel
theorem d_M_rowFor_232 : decode b_M_rowFor 232 = .ok (.if_icmp .lt 44, 3) := by decide +kernel
theorem d_M_rowFor_235 : decode b_M_rowFor 235 = .ok (.iload_n 3, 1) := by decide +kernel
theorem d_M_rowFor_236 : decode b_M_rowFor 236 = .ok (.bipush 20, 2) := by decide +kernel
theorem d_M_rowFor_238 : decode b_M_rowFor 238 = .ok (.if_icmp .ge 38, 3) := by decide +kernel
theorem d_M_rowFor_241 : decode b_M_rowFor 241 = .ok (.iload_n 3, 1) := by decide +kernel
theorem d_M_rowFor_242 : decode b_M_rowFor 242 = .ok (.bipush 10, 2) := by decide +kernel
theorem d_M_rowFor_244 : decode b_M_rowFor 244 = .ok (.isub, 1) := by decide +kernel
theorem d_M_rowFor_245 : decode b_M_rowFor 245 = .ok (.istore 4, 2) := by decide +kernel
theorem d_M_rowFor_247 : decode b_M_rowFor 247 = .ok (.aload_n 0, 1) := by decide +kernel
theorem d_M_rowFor_248 : decode b_M_rowFor 248 = .ok (.getfield 52, 3) := by decide +kernel
theorem d_M_rowFor_251 : decode b_M_rowFor 251 = .ok (.iload 4, 2) := by decide +kernel
theorem d_M_rowFor_253 : decode b_M_rowFor 253 = .ok (.iaload, 1) := by decide +kernel
theorem d_M_rowFor_254 : decode b_M_rowFor 254 = .ok (.ifCond .ne 20, 3) := by decide +kernel
theorem d_M_rowFor_257 : decode b_M_rowFor 257 = .ok (.aload_n 0, 1) := by decide +kernel
theorem d_M_rowFor_258 : decode b_M_rowFor 258 = .ok (.bipush 20, 2) := by decide +kernel
theorem d_M_rowFor_260 : decode b_M_rowFor 260 = .ok (.iload 4, 2) := by decide +kernel
theorem d_M_rowFor_262 : decode b_M_rowFor 262 = .ok (.iadd, 1) := by decide +kernel
theorem d_M_rowFor_263 : decode b_M_rowFor 263 = .ok (.invokevirtual 98, 3) := by decide +kernel
theorem d_M_rowFor_266 : decode b_M_rowFor 266 = .ok (.ifCond .le 8, 3) := by decide +kernel
theorem d_M_rowFor_269 : decode b_M_rowFor 269 = .ok (.iload 4, 2) := by decide +kernel
theorem d_M_rowFor_271 : decode b_M_rowFor 271 = .ok (.goto 4, 3) := by decide +kernel
theorem d_M_rowFor_274 : decode b_M_rowFor 274 = .ok (.iconst (-1), 1) := by decide +kernel
theorem d_M_rowFor_275 : decode b_M_rowFor 275 = .ok (.ireturn, 1) := by decide +kernel
theorem d_M_rowFor_276 : decode b_M_rowFor 276 = .ok (.iconst (-1), 1) := by decide +kernel
theorem d_M_rowFor_277 : decode b_M_rowFor 277 = .ok (.ireturn, 1) := by decide +kernel
def w_M_rowFor_223 (x1 : Int32) (x2 : Int32) (Φ : Int32 → KS → Prop) (v3 : Int32) (s0 : KS) : Prop := ((¬ x2 = (34 : Int32) → Φ (-1 : Int32) s0) ∧ (x2 = (34 : Int32) → ((v3 < (10 : Int32) → Φ (-1 : Int32) s0) ∧ (¬ v3 < (10 : Int32) → (((20 : Int32) ≤ v3 → Φ (-1 : Int32) s0) ∧ (¬ (20 : Int32) ≤ v3 → ∀ y1 : Int32, y1 = v3 - (10 : Int32) → vp_in y1 8 ∧ ((¬ (s0 42 0 y1.toNatClampNeg) = 0 → Φ (-1 : Int32) s0) ∧ ((s0 42 0 y1.toNatClampNeg) = 0 → w_M_many ((20 : Int32) + y1) s0 (fun r3 s2 => ((r3 ≤ 0 → Φ (-1 : Int32) s2) ∧ (¬ r3 ≤ 0 → Φ y1 s2)))))))))))
def w_M_rowFor_191 (x1 : Int32) (x2 : Int32) (Φ : Int32 → KS → Prop) (v3 : Int32) (s0 : KS) : Prop := ((¬ x2 = (34 : Int32) → w_M_rowFor_223 x1 x2 Φ v3 s0) ∧ (x2 = (34 : Int32) → ((¬ v3 = (1 : Int32) → w_M_rowFor_223 x1 x2 Φ v3 s0) ∧ (v3 = (1 : Int32) → ((¬ (s0 20 0 24) = 0 → Φ (-1 : Int32) s0) ∧ ((s0 20 0 24) = 0 → ((¬ (s0 20 0 25) = 0 → Φ (-1 : Int32) s0) ∧ ((s0 20 0 25) = 0 → Φ (16 : Int32) s0))))))))
def w_M_rowFor_136 (x1 : Int32) (x2 : Int32) (Φ : Int32 → KS → Prop) (t0 : Int32) (s0 : KS) : Prop := ((¬ x2 = (33 : Int32) → w_M_rowFor_191 x1 x2 Φ t0 s0) ∧ (x2 = (33 : Int32) → ((t0 < (20 : Int32) → w_M_rowFor_191 x1 x2 Φ t0 s0) ∧ (¬ t0 < (20 : Int32) → ∀ y1 : Int32, y1 = t0 - (20 : Int32) → w_M_many ((10 : Int32) + y1) s0 (fun r3 s2 => ((r3 ≤ 0 → Φ (-1 : Int32) s2) ∧ (¬ r3 ≤ 0 → vp_in y1 8 ∧ ((¬ (s2 42 0 y1.toNatClampNeg) = (s2 20 0 2) → Φ (-1 : Int32) s2) ∧ ((s2 42 0 y1.toNatClampNeg) = (s2 20 0 2) → Φ ((8 : Int32) + y1) s2)))))))))
def w_M_rowFor_121 (x1 : Int32) (x2 : Int32) (Φ : Int32 → KS → Prop) (s0 : KS) : Prop := w_M_top x1 (0 : Int32) s0 (fun r2 s1 => w_M_descriptorOf x1 r2 s1 (fun r4 s3 => w_M_rowFor_136 x1 x2 Φ r4 s3))
def w_M_rowFor_51 (x1 : Int32) (x2 : Int32) (K14 : Int32 → Int32 → Int32 → KS → Prop) (Φ : Int32 → KS → Prop) (v4 : Int32) (v5 : Int32) (t0 : Int32) (s0 : KS) : Prop := ((¬ v4 = 0 → ∀ y1 : Int32, y1 = v5 + (1 : Int32) → K14 t0 (1 : Int32) y1 s0) ∧ (v4 = 0 → vp_in v5 16 ∧ ((¬ (s0 26 0 v5.toNatClampNeg) = (6 : Int32) → ∀ y2 : Int32, y2 = v5 + (1 : Int32) → K14 t0 (0 : Int32) y2 s0) ∧ ((s0 26 0 v5.toNatClampNeg) = (6 : Int32) → vp_in v5 16 ∧ ((¬ (s0 32 0 v5.toNatClampNeg) = x1 → ∀ y3 : Int32, y3 = v5 + (1 : Int32) → K14 t0 (0 : Int32) y3 s0) ∧ ((s0 32 0 v5.toNatClampNeg) = x1 → ∀ y4 : Int32, y4 = v5 + (1 : Int32) → K14 t0 (1 : Int32) y4 s0))))))
def w_M_rowFor_50 (x1 : Int32) (x2 : Int32) (K14 : Int32 → Int32 → Int32 → KS → Prop) (Φ : Int32 → KS → Prop) (v4 : Int32) (v5 : Int32) (s0 : KS) : Prop := w_M_rowFor_51 x1 x2 K14 Φ v4 v5 (0 : Int32) s0
def w_M_rowFor_46 (x1 : Int32) (x2 : Int32) (K14 : Int32 → Int32 → Int32 → KS → Prop) (Φ : Int32 → KS → Prop) (v4 : Int32) (v5 : Int32) (s0 : KS) : Prop := w_M_rowFor_51 x1 x2 K14 Φ v4 v5 (1 : Int32) s0
def w_M_rowFor_14 (x1 : Int32) (x2 : Int32) (Φ : Int32 → KS → Prop) : Nat → Int32 → Int32 → Int32 → KS → Prop
  | 0, _, _, _, _ => False
  | n + 1, v3, v4, v5, s0 => (((16 : Int32) ≤ v5 → ((v3 = 0 → Φ (-1 : Int32) s0) ∧ (¬ v3 = 0 → ((¬ v4 = 0 → Φ (-1 : Int32) s0) ∧ (v4 = 0 → Φ (17 : Int32) s0))))) ∧ (¬ (16 : Int32) ≤ v5 → ((¬ v3 = 0 → w_M_rowFor_46 x1 x2 (w_M_rowFor_14 x1 x2 Φ n) Φ v4 v5 s0) ∧ (v3 = 0 → vp_in v5 16 ∧ (((s0 26 0 v5.toNatClampNeg) = 0 → w_M_rowFor_50 x1 x2 (w_M_rowFor_14 x1 x2 Φ n) Φ v4 v5 s0) ∧ (¬ (s0 26 0 v5.toNatClampNeg) = 0 → vp_in v5 16 ∧ ((¬ (s0 32 0 v5.toNatClampNeg) = x1 → w_M_rowFor_50 x1 x2 (w_M_rowFor_14 x1 x2 Φ n) Φ v4 v5 s0) ∧ ((s0 32 0 v5.toNatClampNeg) = x1 → w_M_rowFor_46 x1 x2 (w_M_rowFor_14 x1 x2 Φ n) Φ v4 v5 s0))))))))
def w_M_rowFor (x1 : Int32) (x2 : Int32) (s0 : KS) (Φ : Int32 → KS → Prop) : Prop := ((¬ x2 = (36 : Int32) → ((x2 = (33 : Int32) → w_M_rowFor_121 x1 x2 Φ s0) ∧ (¬ x2 = (33 : Int32) → ((¬ x2 = (34 : Int32) → w_M_rowFor_136 x1 x2 Φ (0 : Int32) s0) ∧ (x2 = (34 : Int32) → w_M_rowFor_121 x1 x2 Φ s0))))) ∧ (x2 = (36 : Int32) → ∃ nn : Nat, w_M_rowFor_14 x1 x2 Φ nn (0 : Int32) (0 : Int32) (0 : Int32) s0))
set_option maxHeartbeats 4000000 in
set_option maxRecDepth 100000 in
theorem c_M_rowFor (l : Launch) (E : gE) (s0 : KS) (x1 : Int32) (x2 : Int32) (Φ : Int32 → KS → Prop) (hw : w_M_rowFor x1 x2 s0 Φ) : gMi l y_M_rowFor v_M_rowFor m_M_rowFor E MM [.ref (ea E 20 0), .int x1, .int x2] s0 Φ := by
  intro sz
  refine Met.ofW (cc := b_M_rowFor) (maxL := 6) (ret := (some .int)) (by decide) rfl ?_
  intro p e s m args below meth c s₁ B hml hv
  obtain ⟨rfl, hsz, hP, hK, hD, hX⟩ := hv
  have hx := B.exec
  have hb := B.bytes
  have hr := B.returns
  have hts := atoms_spec (ws := v_M_rowFor) B.pre
  have hG : ∀ w ∈ gG, w.before _ s = true := fun w h => hts w (List.mem_cons_of_mem _ h)
  have hown : s.vm.findClass R_M = some m.cls := findClass_of_methodNamed B.named
  have hlocks := B.notSynchronized
  subst hsz
  obtain ⟨A, hAe⟩ : ∃ A, A = gA E MM s.heap.size := ⟨_, rfl⟩
  rw [← hAe] at hD hX ⊢
  have hV : gV E MM A s0 s s.heap [] := ⟨hP, hD, va_S.rf⟩
  have hl := lv_entry ([.ref (ea E 20 0), .int x1, .int x2] : List Value) (n := 6) (Nat.le_of_ble_eq_true rfl)
  rw [lg_entry_eq]
  generalize (lg_sl ([.ref (ea E 20 0), .int x1, .int x2] : List Value) ++ List.replicate (6 - (lg_sl ([.ref (ea E 20 0), .int x1, .int x2] : List Value)).length) Slot.unset).toArray = ls at hl ⊢
  have hl : lv_has ls 6 [(0, .ref (ea E 20 0)), (1, .int x1), (2, .int x2)] := hl
  have J223 : ∀ (ls : Array Slot) (H : Heap) (locs : List Loc) (s0 : KS) (v3 : Int32), lv_has ls 6 [(0, .ref (ea E 20 0)), (2, .int x2), (3, .int v3)] → gV E MM A s0 s H locs → w_M_rowFor_223 x1 x2 Φ v3 s0 → W p l e m_M_rowFor s m ([.ref (ea E 20 0), .int x1, .int x2] : List Value).toArray below meth c H locs 0 0 (MQ below (gQi E MM A Φ) ([.ref (ea E 20 0), .int x1, .int x2] : List Value).toArray s 0 0 A) (F0 m 223 ls []) := by
    intro  ls H locs s0 v3 hl hV hw
    unfold w_M_rowFor_223 at hw
    refine lv_iload_n hx hb d_M_rowFor_223 rfl (lv_at hl 1 rfl) ?_
    refine lv_bipush (v := 34) hx hb d_M_rowFor_224 (by decide) ?_
    refine lv_icmp_ne (tgt := 276) hx hb d_M_rowFor_226 rfl (fun hc => ?_) (fun hc => ?_)
    · have hw := hw.1 hc
      refine lv_iconst (v := -1) hx hb d_M_rowFor_276 (by decide) ?_
      exact kr_i hx hb hr hV hK hX hAe hw d_M_rowFor_277
    · have hw := hw.2 hc
      refine lv_iload_n hx hb d_M_rowFor_229 rfl (lv_at hl 2 rfl) ?_
      refine lv_bipush (v := 10) hx hb d_M_rowFor_230 (by decide) ?_
      refine lv_icmp_lt (tgt := 276) hx hb d_M_rowFor_232 rfl (fun hc => ?_) (fun hc => ?_)
      · have hw := hw.1 hc
        refine lv_iconst (v := -1) hx hb d_M_rowFor_276 (by decide) ?_
        exact kr_i hx hb hr hV hK hX hAe hw d_M_rowFor_277
      · have hw := hw.2 hc
        refine lv_iload_n hx hb d_M_rowFor_235 rfl (lv_at hl 2 rfl) ?_
        refine lv_bipush (v := 20) hx hb d_M_rowFor_236 (by decide) ?_
        refine lv_icmp_ge (tgt := 276) hx hb d_M_rowFor_238 rfl (fun hc => ?_) (fun hc => ?_)
        · have hw := hw.1 hc
          refine lv_iconst (v := -1) hx hb d_M_rowFor_276 (by decide) ?_
          exact kr_i hx hb hr hV hK hX hAe hw d_M_rowFor_277
        · have hw := hw.2 hc
          refine lv_iload_n hx hb d_M_rowFor_241 rfl (lv_at hl 2 rfl) ?_
          refine lv_bipush (v := 10) hx hb d_M_rowFor_242 (by decide) ?_
          refine lv_isub hx hb d_M_rowFor_244 ?_
          refine lv_topi (fun y1 ey1 => ?_)
          have hw := hw y1 ey1
          refine lv_istore (lv' := [(4, .int y1), (0, .ref (ea E 20 0)), (2, .int x2), (3, .int v3)]) hx hb d_M_rowFor_245 hl (by decide) rfl (fun ls hl => ?_)
          refine lv_aload_n hx hb d_M_rowFor_247 rfl (lv_at hl 1 rfl) ?_
          refine kg_M_M_filled hx hb hG hown hK hV d_M_rowFor_248 ?_
          refine lv_iload hx hb d_M_rowFor_251 (lv_at hl 0 rfl) ?_
          refine kl_42 hx hb hK hV hw.1 d_M_rowFor_253 ?_
          have hw := hw.2
          refine lv_if_ne (tgt := 274) hx hb d_M_rowFor_254 rfl (fun hc => ?_) (fun hc => ?_)
          · have hw := hw.1 hc
            refine lv_iconst (v := -1) hx hb d_M_rowFor_274 (by decide) ?_
            exact kr_i hx hb hr hV hK hX hAe hw d_M_rowFor_275
          · have hw := hw.2 hc
            refine lv_aload_n hx hb d_M_rowFor_257 rfl (lv_at hl 1 rfl) ?_
            refine lv_bipush (v := 20) hx hb d_M_rowFor_258 (by decide) ?_
            refine lv_iload hx hb d_M_rowFor_260 (lv_at hl 0 rfl) ?_
            refine lv_iadd hx hb d_M_rowFor_262 ?_
            refine kc_M_M_many hx hb hml hown hts hV hK hX hAe (c_M_many l E s0 ((20 : Int32) + y1) _ hw) hl.1 (Nat.le_of_ble_eq_true rfl) d_M_rowFor_263 (Nat.le_of_ble_eq_true rfl) (Nat.le_of_ble_eq_true rfl) (fun r3 s2 H locs hw hV => ?_)
            refine lv_if_le (tgt := 274) hx hb d_M_rowFor_266 rfl (fun hc => ?_) (fun hc => ?_)
            · have hw := hw.1 hc
              refine lv_iconst (v := -1) hx hb d_M_rowFor_274 (by decide) ?_
              exact kr_i hx hb hr hV hK hX hAe hw d_M_rowFor_275
            · have hw := hw.2 hc
              refine lv_iload hx hb d_M_rowFor_269 (lv_at hl 0 rfl) ?_
              refine lv_goto (tgt := 275) hx hb d_M_rowFor_271 rfl ?_
              exact kr_i hx hb hr hV hK hX hAe hw d_M_rowFor_275
  have J191 : ∀ (ls : Array Slot) (H : Heap) (locs : List Loc) (s0 : KS) (v3 : Int32), lv_has ls 6 [(0, .ref (ea E 20 0)), (2, .int x2), (3, .int v3)] → gV E MM A s0 s H locs → w_M_rowFor_191 x1 x2 Φ v3 s0 → W p l e m_M_rowFor s m ([.ref (ea E 20 0), .int x1, .int x2] : List Value).toArray below meth c H locs 0 0 (MQ below (gQi E MM A Φ) ([.ref (ea E 20 0), .int x1, .int x2] : List Value).toArray s 0 0 A) (F0 m 191 ls []) := by
    intro  ls H locs s0 v3 hl hV hw
    unfold w_M_rowFor_191 at hw
    refine lv_iload_n hx hb d_M_rowFor_191 rfl (lv_at hl 1 rfl) ?_
    refine lv_bipush (v := 34) hx hb d_M_rowFor_192 (by decide) ?_
    refine lv_icmp_ne (tgt := 223) hx hb d_M_rowFor_194 rfl (fun hc => ?_) (fun hc => ?_)
    · have hw := hw.1 hc
      exact J223 _ _ _ s0 v3 (lv_sub hl [0, 1, 2] rfl) hV hw
    · have hw := hw.2 hc
      refine lv_iload_n hx hb d_M_rowFor_197 rfl (lv_at hl 2 rfl) ?_
      refine lv_iconst (v := 1) hx hb d_M_rowFor_198 (by decide) ?_
      refine lv_icmp_ne (tgt := 223) hx hb d_M_rowFor_199 rfl (fun hc => ?_) (fun hc => ?_)
      · have hw := hw.1 hc
        exact J223 _ _ _ s0 v3 (lv_sub hl [0, 1, 2] rfl) hV hw
      · have hw := hw.2 hc
        refine lv_aload_n hx hb d_M_rowFor_202 rfl (lv_at hl 0 rfl) ?_
        refine kg_M_M_inputs hx hb hG hown hK hV d_M_rowFor_203 ?_
        refine lv_if_ne (tgt := 221) hx hb d_M_rowFor_206 rfl (fun hc => ?_) (fun hc => ?_)
        · have hw := hw.1 hc
          refine lv_iconst (v := -1) hx hb d_M_rowFor_221 (by decide) ?_
          exact kr_i hx hb hr hV hK hX hAe hw d_M_rowFor_222
        · have hw := hw.2 hc
          refine lv_aload_n hx hb d_M_rowFor_209 rfl (lv_at hl 0 rfl) ?_
          refine kg_M_M_isShut hx hb hG hown hK hV d_M_rowFor_210 ?_
          refine lv_if_ne (tgt := 221) hx hb d_M_rowFor_213 rfl (fun hc => ?_) (fun hc => ?_)
          · have hw := hw.1 hc
            refine lv_iconst (v := -1) hx hb d_M_rowFor_221 (by decide) ?_
            exact kr_i hx hb hr hV hK hX hAe hw d_M_rowFor_222
          · have hw := hw.2 hc
            refine lv_bipush (v := 16) hx hb d_M_rowFor_216 (by decide) ?_
            refine lv_goto (tgt := 222) hx hb d_M_rowFor_218 rfl ?_
            exact kr_i hx hb hr hV hK hX hAe hw d_M_rowFor_222
  have J136 : ∀ (ls : Array Slot) (H : Heap) (locs : List Loc) (s0 : KS) (t0 : Int32), lv_has ls 6 [(0, .ref (ea E 20 0)), (2, .int x2)] → gV E MM A s0 s H locs → w_M_rowFor_136 x1 x2 Φ t0 s0 → W p l e m_M_rowFor s m ([.ref (ea E 20 0), .int x1, .int x2] : List Value).toArray below meth c H locs 0 0 (MQ below (gQi E MM A Φ) ([.ref (ea E 20 0), .int x1, .int x2] : List Value).toArray s 0 0 A) (F0 m 136 ls [.int t0]) := by
    intro  ls H locs s0 t0 hl hV hw
    unfold w_M_rowFor_136 at hw
    refine lv_istore_n (lv' := [(3, .int t0), (0, .ref (ea E 20 0)), (2, .int x2)]) hx hb d_M_rowFor_136 rfl hl (by decide) rfl (fun ls hl => ?_)
    refine lv_iload_n hx hb d_M_rowFor_137 rfl (lv_at hl 2 rfl) ?_
    refine lv_bipush (v := 33) hx hb d_M_rowFor_138 (by decide) ?_
    refine lv_icmp_ne (tgt := 191) hx hb d_M_rowFor_140 rfl (fun hc => ?_) (fun hc => ?_)
    · have hw := hw.1 hc
      exact J191 _ _ _ s0 t0 (lv_sub hl [1, 2, 0] rfl) hV hw
    · have hw := hw.2 hc
      refine lv_iload_n hx hb d_M_rowFor_143 rfl (lv_at hl 0 rfl) ?_
      refine lv_bipush (v := 20) hx hb d_M_rowFor_144 (by decide) ?_
      refine lv_icmp_lt (tgt := 191) hx hb d_M_rowFor_146 rfl (fun hc => ?_) (fun hc => ?_)
      · have hw := hw.1 hc
        exact J191 _ _ _ s0 t0 (lv_sub hl [1, 2, 0] rfl) hV hw
      · have hw := hw.2 hc
        refine lv_iload_n hx hb d_M_rowFor_149 rfl (lv_at hl 0 rfl) ?_
        refine lv_bipush (v := 20) hx hb d_M_rowFor_150 (by decide) ?_
        refine lv_isub hx hb d_M_rowFor_152 ?_
        refine lv_topi (fun y1 ey1 => ?_)
        have hw := hw y1 ey1
        refine lv_istore (lv' := [(4, .int y1), (3, .int t0), (0, .ref (ea E 20 0)), (2, .int x2)]) hx hb d_M_rowFor_153 hl (by decide) rfl (fun ls hl => ?_)
        refine lv_aload_n hx hb d_M_rowFor_155 rfl (lv_at hl 2 rfl) ?_
        refine lv_bipush (v := 10) hx hb d_M_rowFor_156 (by decide) ?_
        refine lv_iload hx hb d_M_rowFor_158 (lv_at hl 0 rfl) ?_
        refine lv_iadd hx hb d_M_rowFor_160 ?_
        refine kc_M_M_many hx hb hml hown hts hV hK hX hAe (c_M_many l E s0 ((10 : Int32) + y1) _ hw) hl.1 (Nat.le_of_ble_eq_true rfl) d_M_rowFor_161 (Nat.le_of_ble_eq_true rfl) (Nat.le_of_ble_eq_true rfl) (fun r3 s2 H locs hw hV => ?_)
        refine lv_if_le (tgt := 189) hx hb d_M_rowFor_164 rfl (fun hc => ?_) (fun hc => ?_)
        · have hw := hw.1 hc
          refine lv_iconst (v := -1) hx hb d_M_rowFor_189 (by decide) ?_
          exact kr_i hx hb hr hV hK hX hAe hw d_M_rowFor_190
        · have hw := hw.2 hc
          refine lv_aload_n hx hb d_M_rowFor_167 rfl (lv_at hl 2 rfl) ?_
          refine kg_M_M_filled hx hb hG hown hK hV d_M_rowFor_168 ?_
          refine lv_iload hx hb d_M_rowFor_171 (lv_at hl 0 rfl) ?_
          refine kl_42 hx hb hK hV hw.1 d_M_rowFor_173 ?_
          have hw := hw.2
          refine lv_aload_n hx hb d_M_rowFor_174 rfl (lv_at hl 2 rfl) ?_
          refine kg_M_M_capacity hx hb hG hown hK hV d_M_rowFor_175 ?_
          refine lv_icmp_ne (tgt := 189) hx hb d_M_rowFor_178 rfl (fun hc => ?_) (fun hc => ?_)
          · have hw := hw.1 hc
            refine lv_iconst (v := -1) hx hb d_M_rowFor_189 (by decide) ?_
            exact kr_i hx hb hr hV hK hX hAe hw d_M_rowFor_190
          · have hw := hw.2 hc
            refine lv_bipush (v := 8) hx hb d_M_rowFor_181 (by decide) ?_
            refine lv_iload hx hb d_M_rowFor_183 (lv_at hl 0 rfl) ?_
            refine lv_iadd hx hb d_M_rowFor_185 ?_
            refine lv_goto (tgt := 190) hx hb d_M_rowFor_186 rfl ?_
            exact kr_i hx hb hr hV hK hX hAe hw d_M_rowFor_190
  have J121 : ∀ (ls : Array Slot) (H : Heap) (locs : List Loc) (s0 : KS), lv_has ls 6 [(0, .ref (ea E 20 0)), (1, .int x1), (2, .int x2)] → gV E MM A s0 s H locs → w_M_rowFor_121 x1 x2 Φ s0 → W p l e m_M_rowFor s m ([.ref (ea E 20 0), .int x1, .int x2] : List Value).toArray below meth c H locs 0 0 (MQ below (gQi E MM A Φ) ([.ref (ea E 20 0), .int x1, .int x2] : List Value).toArray s 0 0 A) (F0 m 121 ls []) := by
    intro  ls H locs s0 hl hV hw
    unfold w_M_rowFor_121 at hw
    refine lv_aload_n hx hb d_M_rowFor_121 rfl (lv_at hl 0 rfl) ?_
    refine lv_iload_n hx hb d_M_rowFor_122 rfl (lv_at hl 1 rfl) ?_
    refine lv_aload_n hx hb d_M_rowFor_123 rfl (lv_at hl 0 rfl) ?_
    refine lv_iload_n hx hb d_M_rowFor_124 rfl (lv_at hl 1 rfl) ?_
    refine lv_iconst (v := 0) hx hb d_M_rowFor_125 (by decide) ?_
    refine kc_M_M_top hx hb hml hown hts hV hK hX hAe (c_M_top l E s0 x1 (0 : Int32) _ hw) hl.1 (Nat.le_of_ble_eq_true rfl) d_M_rowFor_126 (Nat.le_of_ble_eq_true rfl) (Nat.le_of_ble_eq_true rfl) (fun r2 s1 H locs hw hV => ?_)
    refine kc_M_M_descriptorOf hx hb hml hown hts hV hK hX hAe (c_M_descriptorOf l E s1 x1 r2 _ hw) hl.1 (Nat.le_of_ble_eq_true rfl) d_M_rowFor_129 (Nat.le_of_ble_eq_true rfl) (Nat.le_of_ble_eq_true rfl) (fun r4 s3 H locs hw hV => ?_)
    refine lv_goto (tgt := 136) hx hb d_M_rowFor_132 rfl ?_
    exact J136 _ _ _ s3 r4 (lv_sub hl [0, 2] rfl) hV hw
  have J51 : ∀ (K14 : Int32 → Int32 → Int32 → KS → Prop) (hK14 : ∀ (ls : Array Slot) (H : Heap) (locs : List Loc) (s0 : KS) (v3 : Int32) (v4 : Int32) (v5 : Int32), lv_has ls 6 [(0, .ref (ea E 20 0)), (1, .int x1), (3, .int v3), (4, .int v4), (5, .int v5)] → gV E MM A s0 s H locs → K14 v3 v4 v5 s0 → W p l e m_M_rowFor s m ([.ref (ea E 20 0), .int x1, .int x2] : List Value).toArray below meth c H locs 0 0 (MQ below (gQi E MM A Φ) ([.ref (ea E 20 0), .int x1, .int x2] : List Value).toArray s 0 0 A) (F0 m 14 ls [])), ∀ (ls : Array Slot) (H : Heap) (locs : List Loc) (s0 : KS) (v4 : Int32) (v5 : Int32) (t0 : Int32), lv_has ls 6 [(0, .ref (ea E 20 0)), (1, .int x1), (4, .int v4), (5, .int v5)] → gV E MM A s0 s H locs → w_M_rowFor_51 x1 x2 K14 Φ v4 v5 t0 s0 → W p l e m_M_rowFor s m ([.ref (ea E 20 0), .int x1, .int x2] : List Value).toArray below meth c H locs 0 0 (MQ below (gQi E MM A Φ) ([.ref (ea E 20 0), .int x1, .int x2] : List Value).toArray s 0 0 A) (F0 m 51 ls [.int t0]) := by
    intro K14 hK14 ls H locs s0 v4 v5 t0 hl hV hw
    unfold w_M_rowFor_51 at hw
    refine lv_istore_n (lv' := [(3, .int t0), (0, .ref (ea E 20 0)), (1, .int x1), (4, .int v4), (5, .int v5)]) hx hb d_M_rowFor_51 rfl hl (by decide) rfl (fun ls hl => ?_)
    refine lv_iload hx hb d_M_rowFor_52 (lv_at hl 3 rfl) ?_
    refine lv_if_ne (tgt := 80) hx hb d_M_rowFor_54 rfl (fun hc => ?_) (fun hc => ?_)
    · have hw := hw.1 hc
      refine lv_iconst (v := 1) hx hb d_M_rowFor_80 (by decide) ?_
      refine lv_goto (tgt := 85) hx hb d_M_rowFor_81 rfl ?_
      refine lv_istore (lv' := [(4, .int (1 : Int32)), (3, .int t0), (0, .ref (ea E 20 0)), (1, .int x1), (5, .int v5)]) hx hb d_M_rowFor_85 hl (by decide) rfl (fun ls hl => ?_)
      obtain ⟨y1, ey1⟩ : ∃ z : Int32, z = v5 + (1 : Int32) := ⟨_, rfl⟩
      have hw := hw y1 ey1
      refine lv_iinc (k := 4) (v := y1) (lv' := [(5, .int y1), (4, .int (1 : Int32)), (3, .int t0), (0, .ref (ea E 20 0)), (1, .int x1)]) hx hb d_M_rowFor_87 hl rfl (by rw [ey1]; rfl) (by decide) rfl (fun ls hl => ?_)
      refine lv_goto (tgt := 14) hx hb d_M_rowFor_90 rfl ?_
      exact hK14 _ _ _ s0 t0 (1 : Int32) y1 (lv_sub hl [3, 4, 2, 1, 0] rfl) hV hw
    · have hw := hw.2 hc
      refine lv_aload_n hx hb d_M_rowFor_57 rfl (lv_at hl 1 rfl) ?_
      refine kg_M_M_state hx hb hG hown hK hV d_M_rowFor_58 ?_
      refine lv_iload hx hb d_M_rowFor_61 (lv_at hl 4 rfl) ?_
      refine kl_26 hx hb hK hV hw.1 d_M_rowFor_63 ?_
      have hw := hw.2
      refine lv_bipush (v := 6) hx hb d_M_rowFor_64 (by decide) ?_
      refine lv_icmp_ne (tgt := 84) hx hb d_M_rowFor_66 rfl (fun hc => ?_) (fun hc => ?_)
      · have hw := hw.1 hc
        refine lv_iconst (v := 0) hx hb d_M_rowFor_84 (by decide) ?_
        refine lv_istore (lv' := [(4, .int (0 : Int32)), (3, .int t0), (0, .ref (ea E 20 0)), (1, .int x1), (5, .int v5)]) hx hb d_M_rowFor_85 hl (by decide) rfl (fun ls hl => ?_)
        obtain ⟨y2, ey2⟩ : ∃ z : Int32, z = v5 + (1 : Int32) := ⟨_, rfl⟩
        have hw := hw y2 ey2
        refine lv_iinc (k := 4) (v := y2) (lv' := [(5, .int y2), (4, .int (0 : Int32)), (3, .int t0), (0, .ref (ea E 20 0)), (1, .int x1)]) hx hb d_M_rowFor_87 hl rfl (by rw [ey2]; rfl) (by decide) rfl (fun ls hl => ?_)
        refine lv_goto (tgt := 14) hx hb d_M_rowFor_90 rfl ?_
        exact hK14 _ _ _ s0 t0 (0 : Int32) y2 (lv_sub hl [3, 4, 2, 1, 0] rfl) hV hw
      · have hw := hw.2 hc
        refine lv_aload_n hx hb d_M_rowFor_69 rfl (lv_at hl 1 rfl) ?_
        refine kg_M_M_parent hx hb hG hown hK hV d_M_rowFor_70 ?_
        refine lv_iload hx hb d_M_rowFor_73 (lv_at hl 4 rfl) ?_
        refine kl_32 hx hb hK hV hw.1 d_M_rowFor_75 ?_
        have hw := hw.2
        refine lv_iload_n hx hb d_M_rowFor_76 rfl (lv_at hl 2 rfl) ?_
        refine lv_icmp_ne (tgt := 84) hx hb d_M_rowFor_77 rfl (fun hc => ?_) (fun hc => ?_)
        · have hw := hw.1 hc
          refine lv_iconst (v := 0) hx hb d_M_rowFor_84 (by decide) ?_
          refine lv_istore (lv' := [(4, .int (0 : Int32)), (3, .int t0), (0, .ref (ea E 20 0)), (1, .int x1), (5, .int v5)]) hx hb d_M_rowFor_85 hl (by decide) rfl (fun ls hl => ?_)
          obtain ⟨y3, ey3⟩ : ∃ z : Int32, z = v5 + (1 : Int32) := ⟨_, rfl⟩
          have hw := hw y3 ey3
          refine lv_iinc (k := 4) (v := y3) (lv' := [(5, .int y3), (4, .int (0 : Int32)), (3, .int t0), (0, .ref (ea E 20 0)), (1, .int x1)]) hx hb d_M_rowFor_87 hl rfl (by rw [ey3]; rfl) (by decide) rfl (fun ls hl => ?_)
          refine lv_goto (tgt := 14) hx hb d_M_rowFor_90 rfl ?_
          exact hK14 _ _ _ s0 t0 (0 : Int32) y3 (lv_sub hl [3, 4, 2, 1, 0] rfl) hV hw
        · have hw := hw.2 hc
          refine lv_iconst (v := 1) hx hb d_M_rowFor_80 (by decide) ?_
          refine lv_goto (tgt := 85) hx hb d_M_rowFor_81 rfl ?_
          refine lv_istore (lv' := [(4, .int (1 : Int32)), (3, .int t0), (0, .ref (ea E 20 0)), (1, .int x1), (5, .int v5)]) hx hb d_M_rowFor_85 hl (by decide) rfl (fun ls hl => ?_)
          obtain ⟨y4, ey4⟩ : ∃ z : Int32, z = v5 + (1 : Int32) := ⟨_, rfl⟩
          have hw := hw y4 ey4
          refine lv_iinc (k := 4) (v := y4) (lv' := [(5, .int y4), (4, .int (1 : Int32)), (3, .int t0), (0, .ref (ea E 20 0)), (1, .int x1)]) hx hb d_M_rowFor_87 hl rfl (by rw [ey4]; rfl) (by decide) rfl (fun ls hl => ?_)
          refine lv_goto (tgt := 14) hx hb d_M_rowFor_90 rfl ?_
          exact hK14 _ _ _ s0 t0 (1 : Int32) y4 (lv_sub hl [3, 4, 2, 1, 0] rfl) hV hw
  have J50 : ∀ (K14 : Int32 → Int32 → Int32 → KS → Prop) (hK14 : ∀ (ls : Array Slot) (H : Heap) (locs : List Loc) (s0 : KS) (v3 : Int32) (v4 : Int32) (v5 : Int32), lv_has ls 6 [(0, .ref (ea E 20 0)), (1, .int x1), (3, .int v3), (4, .int v4), (5, .int v5)] → gV E MM A s0 s H locs → K14 v3 v4 v5 s0 → W p l e m_M_rowFor s m ([.ref (ea E 20 0), .int x1, .int x2] : List Value).toArray below meth c H locs 0 0 (MQ below (gQi E MM A Φ) ([.ref (ea E 20 0), .int x1, .int x2] : List Value).toArray s 0 0 A) (F0 m 14 ls [])), ∀ (ls : Array Slot) (H : Heap) (locs : List Loc) (s0 : KS) (v4 : Int32) (v5 : Int32), lv_has ls 6 [(0, .ref (ea E 20 0)), (1, .int x1), (4, .int v4), (5, .int v5)] → gV E MM A s0 s H locs → w_M_rowFor_50 x1 x2 K14 Φ v4 v5 s0 → W p l e m_M_rowFor s m ([.ref (ea E 20 0), .int x1, .int x2] : List Value).toArray below meth c H locs 0 0 (MQ below (gQi E MM A Φ) ([.ref (ea E 20 0), .int x1, .int x2] : List Value).toArray s 0 0 A) (F0 m 50 ls []) := by
    intro K14 hK14 ls H locs s0 v4 v5 hl hV hw
    unfold w_M_rowFor_50 at hw
    refine lv_iconst (v := 0) hx hb d_M_rowFor_50 (by decide) ?_
    exact J51 _ hK14 _ _ _ s0 v4 v5 (0 : Int32) (lv_sub hl [0, 1, 2, 3] rfl) hV hw
  have J46 : ∀ (K14 : Int32 → Int32 → Int32 → KS → Prop) (hK14 : ∀ (ls : Array Slot) (H : Heap) (locs : List Loc) (s0 : KS) (v3 : Int32) (v4 : Int32) (v5 : Int32), lv_has ls 6 [(0, .ref (ea E 20 0)), (1, .int x1), (3, .int v3), (4, .int v4), (5, .int v5)] → gV E MM A s0 s H locs → K14 v3 v4 v5 s0 → W p l e m_M_rowFor s m ([.ref (ea E 20 0), .int x1, .int x2] : List Value).toArray below meth c H locs 0 0 (MQ below (gQi E MM A Φ) ([.ref (ea E 20 0), .int x1, .int x2] : List Value).toArray s 0 0 A) (F0 m 14 ls [])), ∀ (ls : Array Slot) (H : Heap) (locs : List Loc) (s0 : KS) (v4 : Int32) (v5 : Int32), lv_has ls 6 [(0, .ref (ea E 20 0)), (1, .int x1), (4, .int v4), (5, .int v5)] → gV E MM A s0 s H locs → w_M_rowFor_46 x1 x2 K14 Φ v4 v5 s0 → W p l e m_M_rowFor s m ([.ref (ea E 20 0), .int x1, .int x2] : List Value).toArray below meth c H locs 0 0 (MQ below (gQi E MM A Φ) ([.ref (ea E 20 0), .int x1, .int x2] : List Value).toArray s 0 0 A) (F0 m 46 ls []) := by
    intro K14 hK14 ls H locs s0 v4 v5 hl hV hw
    unfold w_M_rowFor_46 at hw
    refine lv_iconst (v := 1) hx hb d_M_rowFor_46 (by decide) ?_
    refine lv_goto (tgt := 51) hx hb d_M_rowFor_47 rfl ?_
    exact J51 _ hK14 _ _ _ s0 v4 v5 (1 : Int32) (lv_sub hl [0, 1, 2, 3] rfl) hV hw
  have L14 : ∀ (n : Nat), ∀ (ls : Array Slot) (H : Heap) (locs : List Loc) (s0 : KS) (v3 : Int32) (v4 : Int32) (v5 : Int32), lv_has ls 6 [(0, .ref (ea E 20 0)), (1, .int x1), (3, .int v3), (4, .int v4), (5, .int v5)] → gV E MM A s0 s H locs → w_M_rowFor_14 x1 x2 Φ n v3 v4 v5 s0 → W p l e m_M_rowFor s m ([.ref (ea E 20 0), .int x1, .int x2] : List Value).toArray below meth c H locs 0 0 (MQ below (gQi E MM A Φ) ([.ref (ea E 20 0), .int x1, .int x2] : List Value).toArray s 0 0 A) (F0 m 14 ls []) := by
    intro n
    induction n with
    | zero =>
      intro ls H locs s0 v3 v4 v5 hl hV hw
      exact False.elim hw
    | succ n ih =>
      intro ls H locs s0 v3 v4 v5 hl hV hw
      unfold w_M_rowFor_14 at hw
      refine lv_iload hx hb d_M_rowFor_14 (lv_at hl 4 rfl) ?_
      refine lv_bipush (v := 16) hx hb d_M_rowFor_16 (by decide) ?_
      refine lv_icmp_ge (tgt := 93) hx hb d_M_rowFor_18 rfl (fun hc => ?_) (fun hc => ?_)
      · have hw := hw.1 hc
        refine lv_iload_n hx hb d_M_rowFor_93 rfl (lv_at hl 2 rfl) ?_
        refine lv_if_eq (tgt := 107) hx hb d_M_rowFor_94 rfl (fun hc => ?_) (fun hc => ?_)
        · have hw := hw.1 hc
          refine lv_iconst (v := -1) hx hb d_M_rowFor_107 (by decide) ?_
          exact kr_i hx hb hr hV hK hX hAe hw d_M_rowFor_108
        · have hw := hw.2 hc
          refine lv_iload hx hb d_M_rowFor_97 (lv_at hl 3 rfl) ?_
          refine lv_if_ne (tgt := 107) hx hb d_M_rowFor_99 rfl (fun hc => ?_) (fun hc => ?_)
          · have hw := hw.1 hc
            refine lv_iconst (v := -1) hx hb d_M_rowFor_107 (by decide) ?_
            exact kr_i hx hb hr hV hK hX hAe hw d_M_rowFor_108
          · have hw := hw.2 hc
            refine lv_bipush (v := 17) hx hb d_M_rowFor_102 (by decide) ?_
            refine lv_goto (tgt := 108) hx hb d_M_rowFor_104 rfl ?_
            exact kr_i hx hb hr hV hK hX hAe hw d_M_rowFor_108
      · have hw := hw.2 hc
        refine lv_iload_n hx hb d_M_rowFor_21 rfl (lv_at hl 2 rfl) ?_
        refine lv_if_ne (tgt := 46) hx hb d_M_rowFor_22 rfl (fun hc => ?_) (fun hc => ?_)
        · have hw := hw.1 hc
          exact J46 _ ih _ _ _ s0 v4 v5 (lv_sub hl [0, 1, 3, 4] rfl) hV hw
        · have hw := hw.2 hc
          refine lv_aload_n hx hb d_M_rowFor_25 rfl (lv_at hl 0 rfl) ?_
          refine kg_M_M_state hx hb hG hown hK hV d_M_rowFor_26 ?_
          refine lv_iload hx hb d_M_rowFor_29 (lv_at hl 4 rfl) ?_
          refine kl_26 hx hb hK hV hw.1 d_M_rowFor_31 ?_
          have hw := hw.2
          refine lv_if_eq (tgt := 50) hx hb d_M_rowFor_32 rfl (fun hc => ?_) (fun hc => ?_)
          · have hw := hw.1 hc
            exact J50 _ ih _ _ _ s0 v4 v5 (lv_sub hl [0, 1, 3, 4] rfl) hV hw
          · have hw := hw.2 hc
            refine lv_aload_n hx hb d_M_rowFor_35 rfl (lv_at hl 0 rfl) ?_
            refine kg_M_M_parent hx hb hG hown hK hV d_M_rowFor_36 ?_
            refine lv_iload hx hb d_M_rowFor_39 (lv_at hl 4 rfl) ?_
            refine kl_32 hx hb hK hV hw.1 d_M_rowFor_41 ?_
            have hw := hw.2
            refine lv_iload_n hx hb d_M_rowFor_42 rfl (lv_at hl 1 rfl) ?_
            refine lv_icmp_ne (tgt := 50) hx hb d_M_rowFor_43 rfl (fun hc => ?_) (fun hc => ?_)
            · have hw := hw.1 hc
              exact J50 _ ih _ _ _ s0 v4 v5 (lv_sub hl [0, 1, 3, 4] rfl) hV hw
            · have hw := hw.2 hc
              exact J46 _ ih _ _ _ s0 v4 v5 (lv_sub hl [0, 1, 3, 4] rfl) hV hw
  unfold w_M_rowFor at hw
  refine lv_iload_n hx hb d_M_rowFor_0 rfl (lv_at hl 2 rfl) ?_
  refine lv_bipush (v := 36) hx hb d_M_rowFor_1 (by decide) ?_
  refine lv_icmp_ne (tgt := 109) hx hb d_M_rowFor_3 rfl (fun hc => ?_) (fun hc => ?_)
  · have hw := hw.1 hc
    refine lv_iload_n hx hb d_M_rowFor_109 rfl (lv_at hl 2 rfl) ?_
    refine lv_bipush (v := 33) hx hb d_M_rowFor_110 (by decide) ?_
    refine lv_icmp_eq (tgt := 121) hx hb d_M_rowFor_112 rfl (fun hc => ?_) (fun hc => ?_)
    · have hw := hw.1 hc
      exact J121 _ _ _ s0 (lv_sub hl [0, 1, 2] rfl) hV hw
    · have hw := hw.2 hc
      refine lv_iload_n hx hb d_M_rowFor_115 rfl (lv_at hl 2 rfl) ?_
      refine lv_bipush (v := 34) hx hb d_M_rowFor_116 (by decide) ?_
      refine lv_icmp_ne (tgt := 135) hx hb d_M_rowFor_118 rfl (fun hc => ?_) (fun hc => ?_)
      · have hw := hw.1 hc
        refine lv_iconst (v := 0) hx hb d_M_rowFor_135 (by decide) ?_
        exact J136 _ _ _ s0 (0 : Int32) (lv_sub hl [0, 2] rfl) hV hw
      · have hw := hw.2 hc
        exact J121 _ _ _ s0 (lv_sub hl [0, 1, 2] rfl) hV hw
  · have hw := hw.2 hc
    refine lv_iconst (v := 0) hx hb d_M_rowFor_6 (by decide) ?_
    refine lv_istore_n (lv' := [(3, .int (0 : Int32)), (0, .ref (ea E 20 0)), (1, .int x1), (2, .int x2)]) hx hb d_M_rowFor_7 rfl hl (by decide) rfl (fun ls hl => ?_)
    refine lv_iconst (v := 0) hx hb d_M_rowFor_8 (by decide) ?_
    refine lv_istore (lv' := [(4, .int (0 : Int32)), (3, .int (0 : Int32)), (0, .ref (ea E 20 0)), (1, .int x1), (2, .int x2)]) hx hb d_M_rowFor_9 hl (by decide) rfl (fun ls hl => ?_)
    refine lv_iconst (v := 0) hx hb d_M_rowFor_11 (by decide) ?_
    refine lv_istore (lv' := [(5, .int (0 : Int32)), (4, .int (0 : Int32)), (3, .int (0 : Int32)), (0, .ref (ea E 20 0)), (1, .int x1), (2, .int x2)]) hx hb d_M_rowFor_12 hl (by decide) rfl (fun ls hl => ?_)
    obtain ⟨nn, hw⟩ := hw
    exact L14 nn _ _ _ s0 (0 : Int32) (0 : Int32) (0 : Int32) (lv_sub hl [3, 4, 2, 1, 0] rfl) hV hw
theorem d_M_isWord_0 : decode b_M_isWord 0 = .ok (.iload_n 0, 1) := by decide +kernel
theorem d_M_isWord_1 : decode b_M_isWord 1 = .ok (.ifCond .lt 14, 3) := by decide +kernel
theorem d_M_isWord_4 : decode b_M_isWord 4 = .ok (.iload_n 0, 1) := by decide +kernel
theorem d_M_isWord_5 : decode b_M_isWord 5 = .ok (.sipush 128, 3) := by decide +kernel
theorem d_M_isWord_8 : decode b_M_isWord 8 = .ok (.if_icmp .ge 7, 3) := by decide +kernel
theorem d_M_isWord_11 : decode b_M_isWord 11 = .ok (.iconst 1, 1) := by decide +kernel
theorem d_M_isWord_12 : decode b_M_isWord 12 = .ok (.goto 4, 3) := by decide +kernel
theorem d_M_isWord_15 : decode b_M_isWord 15 = .ok (.iconst 0, 1) := by decide +kernel
theorem d_M_isWord_16 : decode b_M_isWord 16 = .ok (.ireturn, 1) := by decide +kernel
def w_M_isWord (x0 : Int32) (s0 : KS) (Φ : Int32 → KS → Prop) : Prop := ((x0 < 0 → Φ (0 : Int32) s0) ∧ (¬ x0 < 0 → (((128 : Int32) ≤ x0 → Φ (0 : Int32) s0) ∧ (¬ (128 : Int32) ≤ x0 → Φ (1 : Int32) s0))))
set_option maxHeartbeats 4000000 in
set_option maxRecDepth 100000 in
theorem c_M_isWord (l : Launch) (E : gE) (s0 : KS) (x0 : Int32) (Φ : Int32 → KS → Prop) (hw : w_M_isWord x0 s0 Φ) : gMi l y_M_isWord v_M_isWord m_M_isWord E MM [.int x0] s0 Φ := by
  intro sz
  refine Met.ofW (cc := b_M_isWord) (maxL := 1) (ret := (some .boolean)) (by decide) rfl ?_
  intro p e s m args below meth c s₁ B hml hv
  obtain ⟨rfl, hsz, hP, hK, hD, hX⟩ := hv
  have hx := B.exec
  have hb := B.bytes
  have hr := B.returns
  have hts := atoms_spec (ws := v_M_isWord) B.pre
  have hG : ∀ w ∈ gG, w.before _ s = true := fun w h => hts w (List.mem_cons_of_mem _ h)
  have hown : s.vm.findClass R_M = some m.cls := findClass_of_methodNamed B.named
  have hlocks := B.notSynchronized
  subst hsz
  obtain ⟨A, hAe⟩ : ∃ A, A = gA E MM s.heap.size := ⟨_, rfl⟩
  rw [← hAe] at hD hX ⊢
  have hV : gV E MM A s0 s s.heap [] := ⟨hP, hD, va_S.rf⟩
  have hl := lv_entry ([.int x0] : List Value) (n := 1) (Nat.le_of_ble_eq_true rfl)
  rw [lg_entry_eq]
  generalize (lg_sl ([.int x0] : List Value) ++ List.replicate (1 - (lg_sl ([.int x0] : List Value)).length) Slot.unset).toArray = ls at hl ⊢
  have hl : lv_has ls 1 [(0, .int x0)] := hl
  unfold w_M_isWord at hw
  refine lv_iload_n hx hb d_M_isWord_0 rfl (lv_at hl 0 rfl) ?_
  refine lv_if_lt (tgt := 15) hx hb d_M_isWord_1 rfl (fun hc => ?_) (fun hc => ?_)
  · have hw := hw.1 hc
    refine lv_iconst (v := 0) hx hb d_M_isWord_15 (by decide) ?_
    exact kr_z hx hb hr hV hK hX hAe (by decide) hw d_M_isWord_16
  · have hw := hw.2 hc
    refine lv_iload_n hx hb d_M_isWord_4 rfl (lv_at hl 0 rfl) ?_
    refine lv_sipush (v := 128) hx hb d_M_isWord_5 (by decide) ?_
    refine lv_icmp_ge (tgt := 15) hx hb d_M_isWord_8 rfl (fun hc => ?_) (fun hc => ?_)
    · have hw := hw.1 hc
      refine lv_iconst (v := 0) hx hb d_M_isWord_15 (by decide) ?_
      exact kr_z hx hb hr hV hK hX hAe (by decide) hw d_M_isWord_16
    · have hw := hw.2 hc
      refine lv_iconst (v := 1) hx hb d_M_isWord_11 (by decide) ?_
      refine lv_goto (tgt := 16) hx hb d_M_isWord_12 rfl ?_
      exact kr_z hx hb hr hV hK hX hAe (by decide) hw d_M_isWord_16
theorem d_M_faultOf_0 : decode b_M_faultOf 0 = .ok (.aload_n 0, 1) := by decide +kernel
theorem d_M_faultOf_1 : decode b_M_faultOf 1 = .ok (.getfield 25, 3) := by decide +kernel
theorem d_M_faultOf_4 : decode b_M_faultOf 4 = .ok (.iload_n 1, 1) := by decide +kernel
theorem d_M_faultOf_5 : decode b_M_faultOf 5 = .ok (.iaload, 1) := by decide +kernel
theorem d_M_faultOf_6 : decode b_M_faultOf 6 = .ok (.invokestatic 125, 3) := by decide +kernel
theorem d_M_faultOf_9 : decode b_M_faultOf 9 = .ok (.ifCond .ne 5, 3) := by decide +kernel
theorem d_M_faultOf_12 : decode b_M_faultOf 12 = .ok (.iconst 4, 1) := by decide +kernel
theorem d_M_faultOf_13 : decode b_M_faultOf 13 = .ok (.ireturn, 1) := by decide +kernel
theorem d_M_faultOf_14 : decode b_M_faultOf 14 = .ok (.aload_n 0, 1) := by decide +kernel
theorem d_M_faultOf_15 : decode b_M_faultOf 15 = .ok (.getfield 16, 3) := by decide +kernel
theorem d_M_faultOf_18 : decode b_M_faultOf 18 = .ok (.sipush 128, 3) := by decide +kernel
theorem d_M_faultOf_21 : decode b_M_faultOf 21 = .ok (.iload_n 1, 1) := by decide +kernel
theorem d_M_faultOf_22 : decode b_M_faultOf 22 = .ok (.imul, 1) := by decide +kernel
theorem d_M_faultOf_23 : decode b_M_faultOf 23 = .ok (.aload_n 0, 1) := by decide +kernel
theorem d_M_faultOf_24 : decode b_M_faultOf 24 = .ok (.getfield 25, 3) := by decide +kernel
theorem d_M_faultOf_27 : decode b_M_faultOf 27 = .ok (.iload_n 1, 1) := by decide +kernel
theorem d_M_faultOf_28 : decode b_M_faultOf 28 = .ok (.iaload, 1) := by decide +kernel
theorem d_M_faultOf_29 : decode b_M_faultOf 29 = .ok (.iadd, 1) := by decide +kernel
theorem d_M_faultOf_30 : decode b_M_faultOf 30 = .ok (.iaload, 1) := by decide +kernel
theorem d_M_faultOf_31 : decode b_M_faultOf 31 = .ok (.istore_n 2, 1) := by decide +kernel
theorem d_M_faultOf_32 : decode b_M_faultOf 32 = .ok (.iload_n 2, 1) := by decide +kernel
theorem d_M_faultOf_33 : decode b_M_faultOf 33 = .ok (.sipush 255, 3) := by decide +kernel
theorem d_M_faultOf_36 : decode b_M_faultOf 36 = .ok (.iand, 1) := by decide +kernel
theorem d_M_faultOf_37 : decode b_M_faultOf 37 = .ok (.istore_n 3, 1) := by decide +kernel
theorem d_M_faultOf_38 : decode b_M_faultOf 38 = .ok (.iload_n 2, 1) := by decide +kernel
theorem d_M_faultOf_39 : decode b_M_faultOf 39 = .ok (.bipush 8, 2) := by decide +kernel
theorem d_M_faultOf_41 : decode b_M_faultOf 41 = .ok (.ishr, 1) := by decide +kernel
theorem d_M_faultOf_42 : decode b_M_faultOf 42 = .ok (.istore 4, 2) := by decide +kernel
theorem d_M_faultOf_44 : decode b_M_faultOf 44 = .ok (.iload_n 3, 1) := by decide +kernel
theorem d_M_faultOf_45 : decode b_M_faultOf 45 = .ok (.invokestatic 128, 3) := by decide +kernel
theorem d_M_faultOf_48 : decode b_M_faultOf 48 = .ok (.ifCond .ge 5, 3) := by decide +kernel
theorem d_M_faultOf_51 : decode b_M_faultOf 51 = .ok (.iconst 5, 1) := by decide +kernel
theorem d_M_faultOf_52 : decode b_M_faultOf 52 = .ok (.ireturn, 1) := by decide +kernel
theorem d_M_faultOf_53 : decode b_M_faultOf 53 = .ok (.aload_n 0, 1) := by decide +kernel
theorem d_M_faultOf_54 : decode b_M_faultOf 54 = .ok (.getfield 22, 3) := by decide +kernel
theorem d_M_faultOf_57 : decode b_M_faultOf 57 = .ok (.iload_n 1, 1) := by decide +kernel
theorem d_M_faultOf_58 : decode b_M_faultOf 58 = .ok (.iaload, 1) := by decide +kernel
theorem d_M_faultOf_59 : decode b_M_faultOf 59 = .ok (.iload_n 3, 1) := by decide +kernel
theorem d_M_faultOf_60 : decode b_M_faultOf 60 = .ok (.invokestatic 128, 3) := by decide +kernel
theorem d_M_faultOf_63 : decode b_M_faultOf 63 = .ok (.if_icmp .ge 5, 3) := by decide +kernel
theorem d_M_faultOf_66 : decode b_M_faultOf 66 = .ok (.iconst 1, 1) := by decide +kernel
theorem d_M_faultOf_67 : decode b_M_faultOf 67 = .ok (.ireturn, 1) := by decide +kernel
theorem d_M_faultOf_68 : decode b_M_faultOf 68 = .ok (.iload_n 3, 1) := by decide +kernel
theorem d_M_faultOf_69 : decode b_M_faultOf 69 = .ok (.bipush 8, 2) := by decide +kernel
theorem d_M_faultOf_71 : decode b_M_faultOf 71 = .ok (.if_icmp .eq 9, 3) := by decide +kernel
theorem d_M_faultOf_74 : decode b_M_faultOf 74 = .ok (.iload_n 3, 1) := by decide +kernel
theorem d_M_faultOf_75 : decode b_M_faultOf 75 = .ok (.bipush 9, 2) := by decide +kernel
theorem d_M_faultOf_77 : decode b_M_faultOf 77 = .ok (.if_icmp .ne 15, 3) := by decide +kernel
theorem d_M_faultOf_80 : decode b_M_faultOf 80 = .ok (.aload_n 0, 1) := by decide +kernel
theorem d_M_faultOf_81 : decode b_M_faultOf 81 = .ok (.iload_n 1, 1) := by decide +kernel
theorem d_M_faultOf_82 : decode b_M_faultOf 82 = .ok (.iconst 0, 1) := by decide +kernel
theorem d_M_faultOf_83 : decode b_M_faultOf 83 = .ok (.invokevirtual 112, 3) := by decide +kernel
theorem d_M_faultOf_86 : decode b_M_faultOf 86 = .ok (.ifCond .ne 6, 3) := by decide +kernel
theorem d_M_faultOf_89 : decode b_M_faultOf 89 = .ok (.bipush 6, 2) := by decide +kernel
theorem d_M_faultOf_91 : decode b_M_faultOf 91 = .ok (.ireturn, 1) := by decide +kernel
theorem d_M_faultOf_92 : decode b_M_faultOf 92 = .ok (.iload_n 3, 1) := by decide +kernel
theorem d_M_faultOf_93 : decode b_M_faultOf 93 = .ok (.bipush 18, 2) := by decide +kernel
theorem d_M_faultOf_95 : decode b_M_faultOf 95 = .ok (.if_icmp .eq 9, 3) := by decide +kernel
theorem d_M_faultOf_98 : decode b_M_faultOf 98 = .ok (.iload_n 3, 1) := by decide +kernel
theorem d_M_faultOf_99 : decode b_M_faultOf 99 = .ok (.bipush 19, 2) := by decide +kernel
theorem d_M_faultOf_101 : decode b_M_faultOf 101 = .ok (.if_icmp .ne 11, 3) := by decide +kernel
theorem d_M_faultOf_104 : decode b_M_faultOf 104 = .ok (.iload 4, 2) := by decide +kernel
theorem d_M_faultOf_106 : decode b_M_faultOf 106 = .ok (.invokestatic 125, 3) := by decide +kernel
theorem d_M_faultOf_109 : decode b_M_faultOf 109 = .ok (.ifCond .eq 27, 3) := by decide +kernel
theorem d_M_faultOf_112 : decode b_M_faultOf 112 = .ok (.iload_n 3, 1) := by decide +kernel
theorem d_M_faultOf_113 : decode b_M_faultOf 113 = .ok (.bipush 20, 2) := by decide +kernel
theorem d_M_faultOf_115 : decode b_M_faultOf 115 = .ok (.if_icmp .eq 9, 3) := by decide +kernel
theorem d_M_faultOf_118 : decode b_M_faultOf 118 = .ok (.iload_n 3, 1) := by decide +kernel
theorem d_M_faultOf_119 : decode b_M_faultOf 119 = .ok (.bipush 21, 2) := by decide +kernel
theorem d_M_faultOf_121 : decode b_M_faultOf 121 = .ok (.if_icmp .ne 19, 3) := by decide +kernel
theorem d_M_faultOf_124 : decode b_M_faultOf 124 = .ok (.aload_n 0, 1) := by decide +kernel
theorem d_M_faultOf_125 : decode b_M_faultOf 125 = .ok (.iload_n 1, 1) := by decide +kernel
theorem d_M_faultOf_126 : decode b_M_faultOf 126 = .ok (.iconst 0, 1) := by decide +kernel
theorem d_M_faultOf_127 : decode b_M_faultOf 127 = .ok (.invokevirtual 112, 3) := by decide +kernel
theorem d_M_faultOf_130 : decode b_M_faultOf 130 = .ok (.invokestatic 125, 3) := by decide +kernel
theorem d_M_faultOf_133 : decode b_M_faultOf 133 = .ok (.ifCond .ne 7, 3) := by decide +kernel
theorem d_M_faultOf_136 : decode b_M_faultOf 136 = .ok (.iconst 1, 1) := by decide +kernel
theorem d_M_faultOf_137 : decode b_M_faultOf 137 = .ok (.goto 4, 3) := by decide +kernel
theorem d_M_faultOf_140 : decode b_M_faultOf 140 = .ok (.iconst 0, 1) := by decide +kernel
theorem d_M_faultOf_141 : decode b_M_faultOf 141 = .ok (.istore 5, 2) := by decide +kernel
theorem d_M_faultOf_143 : decode b_M_faultOf 143 = .ok (.iload 5, 2) := by decide +kernel
theorem d_M_faultOf_145 : decode b_M_faultOf 145 = .ok (.ifCond .eq 5, 3) := by decide +kernel
theorem d_M_faultOf_148 : decode b_M_faultOf 148 = .ok (.iconst 3, 1) := by decide +kernel
theorem d_M_faultOf_149 : decode b_M_faultOf 149 = .ok (.ireturn, 1) := by decide +kernel
theorem d_M_faultOf_150 : decode b_M_faultOf 150 = .ok (.aload_n 0, 1) := by decide +kernel
theorem d_M_faultOf_151 : decode b_M_faultOf 151 = .ok (.getfield 22, 3) := by decide +kernel
theorem d_M_faultOf_154 : decode b_M_faultOf 154 = .ok (.iload_n 1, 1) := by decide +kernel
theorem d_M_faultOf_155 : decode b_M_faultOf 155 = .ok (.iaload, 1) := by decide +kernel
theorem d_M_faultOf_156 : decode b_M_faultOf 156 = .ok (.iload_n 3, 1) := by decide +kernel
theorem d_M_faultOf_157 : decode b_M_faultOf 157 = .ok (.invokestatic 128, 3) := by decide +kernel
theorem d_M_faultOf_160 : decode b_M_faultOf 160 = .ok (.isub, 1) := by decide +kernel
theorem d_M_faultOf_161 : decode b_M_faultOf 161 = .ok (.iload_n 3, 1) := by decide +kernel
theorem d_M_faultOf_162 : decode b_M_faultOf 162 = .ok (.invokestatic 131, 3) := by decide +kernel
theorem d_M_faultOf_165 : decode b_M_faultOf 165 = .ok (.iadd, 1) := by decide +kernel
theorem d_M_faultOf_166 : decode b_M_faultOf 166 = .ok (.bipush 32, 2) := by decide +kernel
theorem d_M_faultOf_168 : decode b_M_faultOf 168 = .ok (.if_icmp .le 7, 3) := by decide +kernel
theorem d_M_faultOf_171 : decode b_M_faultOf 171 = .ok (.iconst 1, 1) := by decide +kernel
theorem d_M_faultOf_172 : decode b_M_faultOf 172 = .ok (.goto 4, 3) := by decide +kernel
theorem d_M_faultOf_175 : decode b_M_faultOf 175 = .ok (.iconst 0, 1) := by decide +kernel
theorem d_M_faultOf_176 : decode b_M_faultOf 176 = .ok (.istore 6, 2) := by decide +kernel
theorem d_M_faultOf_178 : decode b_M_faultOf 178 = .ok (.iload 6, 2) := by decide +kernel
theorem d_M_faultOf_180 : decode b_M_faultOf 180 = .ok (.ifCond .eq 16, 3) := by decide +kernel
theorem d_M_faultOf_183 : decode b_M_faultOf 183 = .ok (.aload_n 0, 1) := by decide +kernel
theorem d_M_faultOf_184 : decode b_M_faultOf 184 = .ok (.iload_n 1, 1) := by decide +kernel
theorem d_M_faultOf_185 : decode b_M_faultOf 185 = .ok (.iload_n 3, 1) := by decide +kernel
theorem d_M_faultOf_186 : decode b_M_faultOf 186 = .ok (.invokevirtual 134, 3) := by decide +kernel
theorem d_M_faultOf_189 : decode b_M_faultOf 189 = .ok (.ifCond .ge 7, 3) := by decide +kernel
theorem d_M_faultOf_192 : decode b_M_faultOf 192 = .ok (.iconst 2, 1) := by decide +kernel
theorem d_M_faultOf_193 : decode b_M_faultOf 193 = .ok (.goto 4, 3) := by decide +kernel
theorem d_M_faultOf_196 : decode b_M_faultOf 196 = .ok (.iconst 0, 1) := by decide +kernel
theorem d_M_faultOf_197 : decode b_M_faultOf 197 = .ok (.ireturn, 1) := by decide +kernel
def w_M_faultOf_176 (x1 : Int32) (Φ : Int32 → KS → Prop) (v3 : Int32) (t0 : Int32) (s0 : KS) : Prop := ((t0 = 0 → Φ (0 : Int32) s0) ∧ (¬ t0 = 0 → w_M_rowFor x1 v3 s0 (fun r2 s1 => ((0 ≤ r2 → Φ (0 : Int32) s1) ∧ (¬ 0 ≤ r2 → Φ (2 : Int32) s1)))))
def w_M_faultOf_141 (x1 : Int32) (Φ : Int32 → KS → Prop) (v3 : Int32) (t0 : Int32) (s0 : KS) : Prop := ((t0 = 0 → vp_in x1 16 ∧ w_M_looks v3 s0 (fun r2 s1 => w_M_pushes v3 s1 (fun r4 s3 => (((((s0 29 0 x1.toNatClampNeg) - r2) + r4) ≤ (32 : Int32) → w_M_faultOf_176 x1 Φ v3 (0 : Int32) s3) ∧ (¬ (((s0 29 0 x1.toNatClampNeg) - r2) + r4) ≤ (32 : Int32) → w_M_faultOf_176 x1 Φ v3 (1 : Int32) s3))))) ∧ (¬ t0 = 0 → Φ (3 : Int32) s0))
def w_M_faultOf_140 (x1 : Int32) (Φ : Int32 → KS → Prop) (v3 : Int32) (s0 : KS) : Prop := w_M_faultOf_141 x1 Φ v3 (0 : Int32) s0
def w_M_faultOf_136 (x1 : Int32) (Φ : Int32 → KS → Prop) (v3 : Int32) (s0 : KS) : Prop := w_M_faultOf_141 x1 Φ v3 (1 : Int32) s0
def w_M_faultOf_124 (x1 : Int32) (Φ : Int32 → KS → Prop) (v3 : Int32) (s0 : KS) : Prop := w_M_top x1 (0 : Int32) s0 (fun r2 s1 => w_M_isWord r2 s1 (fun r4 s3 => ((¬ r4 = 0 → w_M_faultOf_140 x1 Φ v3 s3) ∧ (r4 = 0 → w_M_faultOf_136 x1 Φ v3 s3))))
def w_M_faultOf_112 (x1 : Int32) (Φ : Int32 → KS → Prop) (v3 : Int32) (s0 : KS) : Prop := ((v3 = (20 : Int32) → w_M_faultOf_124 x1 Φ v3 s0) ∧ (¬ v3 = (20 : Int32) → ((¬ v3 = (21 : Int32) → w_M_faultOf_140 x1 Φ v3 s0) ∧ (v3 = (21 : Int32) → w_M_faultOf_124 x1 Φ v3 s0))))
def w_M_faultOf_104 (x1 : Int32) (Φ : Int32 → KS → Prop) (v3 : Int32) (v4 : Int32) (s0 : KS) : Prop := w_M_isWord v4 s0 (fun r2 s1 => ((r2 = 0 → w_M_faultOf_136 x1 Φ v3 s1) ∧ (¬ r2 = 0 → w_M_faultOf_112 x1 Φ v3 s1)))
def w_M_faultOf_92 (x1 : Int32) (Φ : Int32 → KS → Prop) (v3 : Int32) (v4 : Int32) (s0 : KS) : Prop := ((v3 = (18 : Int32) → w_M_faultOf_104 x1 Φ v3 v4 s0) ∧ (¬ v3 = (18 : Int32) → ((¬ v3 = (19 : Int32) → w_M_faultOf_112 x1 Φ v3 s0) ∧ (v3 = (19 : Int32) → w_M_faultOf_104 x1 Φ v3 v4 s0))))
def w_M_faultOf_80 (x1 : Int32) (Φ : Int32 → KS → Prop) (v3 : Int32) (v4 : Int32) (s0 : KS) : Prop := w_M_top x1 (0 : Int32) s0 (fun r2 s1 => ((¬ r2 = 0 → w_M_faultOf_92 x1 Φ v3 v4 s1) ∧ (r2 = 0 → Φ (6 : Int32) s1)))
def w_M_faultOf (x1 : Int32) (s0 : KS) (Φ : Int32 → KS → Prop) : Prop := vp_in x1 16 ∧ w_M_isWord (s0 30 0 x1.toNatClampNeg) s0 (fun r2 s1 => ((¬ r2 = 0 → vp_in x1 16 ∧ vp_in (((128 : Int32) * x1) + (s1 30 0 x1.toNatClampNeg)) 2048 ∧ ∀ y3 : Int32, y3 = s1 27 0 (((128 : Int32) * x1) + (s1 30 0 x1.toNatClampNeg)).toNatClampNeg → ∀ y4 : Int32, y4 = y3 &&& (255 : Int32) → ∀ y5 : Int32, y5 = y3 >>> ((8 : Int32) &&& 31) → w_M_looks y4 s1 (fun r7 s6 => ((0 ≤ r7 → vp_in x1 16 ∧ w_M_looks y4 s6 (fun r9 s8 => ((r9 ≤ (s6 29 0 x1.toNatClampNeg) → ((y4 = (8 : Int32) → w_M_faultOf_80 x1 Φ y4 y5 s8) ∧ (¬ y4 = (8 : Int32) → ((¬ y4 = (9 : Int32) → w_M_faultOf_92 x1 Φ y4 y5 s8) ∧ (y4 = (9 : Int32) → w_M_faultOf_80 x1 Φ y4 y5 s8))))) ∧ (¬ r9 ≤ (s6 29 0 x1.toNatClampNeg) → Φ (1 : Int32) s8)))) ∧ (¬ 0 ≤ r7 → Φ (5 : Int32) s6)))) ∧ (r2 = 0 → Φ (4 : Int32) s1)))
set_option maxHeartbeats 4000000 in
set_option maxRecDepth 100000 in
theorem c_M_faultOf (l : Launch) (E : gE) (s0 : KS) (x1 : Int32) (Φ : Int32 → KS → Prop) (hw : w_M_faultOf x1 s0 Φ) : gMi l y_M_faultOf v_M_faultOf m_M_faultOf E MM [.ref (ea E 20 0), .int x1] s0 Φ := by
  intro sz
  refine Met.ofW (cc := b_M_faultOf) (maxL := 7) (ret := (some .int)) (by decide) rfl ?_
  intro p e s m args below meth c s₁ B hml hv
  obtain ⟨rfl, hsz, hP, hK, hD, hX⟩ := hv
  have hx := B.exec
  have hb := B.bytes
  have hr := B.returns
  have hts := atoms_spec (ws := v_M_faultOf) B.pre
  have hG : ∀ w ∈ gG, w.before _ s = true := fun w h => hts w (List.mem_cons_of_mem _ h)
  have hown : s.vm.findClass R_M = some m.cls := findClass_of_methodNamed B.named
  have hlocks := B.notSynchronized
  subst hsz
  obtain ⟨A, hAe⟩ : ∃ A, A = gA E MM s.heap.size := ⟨_, rfl⟩
  rw [← hAe] at hD hX ⊢
  have hV : gV E MM A s0 s s.heap [] := ⟨hP, hD, va_S.rf⟩
  have hl := lv_entry ([.ref (ea E 20 0), .int x1] : List Value) (n := 7) (Nat.le_of_ble_eq_true rfl)
  rw [lg_entry_eq]
  generalize (lg_sl ([.ref (ea E 20 0), .int x1] : List Value) ++ List.replicate (7 - (lg_sl ([.ref (ea E 20 0), .int x1] : List Value)).length) Slot.unset).toArray = ls at hl ⊢
  have hl : lv_has ls 7 [(0, .ref (ea E 20 0)), (1, .int x1)] := hl
  have J176 : ∀ (ls : Array Slot) (H : Heap) (locs : List Loc) (s0 : KS) (v3 : Int32) (t0 : Int32), lv_has ls 7 [(0, .ref (ea E 20 0)), (1, .int x1), (3, .int v3)] → gV E MM A s0 s H locs → w_M_faultOf_176 x1 Φ v3 t0 s0 → W p l e m_M_faultOf s m ([.ref (ea E 20 0), .int x1] : List Value).toArray below meth c H locs 0 0 (MQ below (gQi E MM A Φ) ([.ref (ea E 20 0), .int x1] : List Value).toArray s 0 0 A) (F0 m 176 ls [.int t0]) := by
    intro  ls H locs s0 v3 t0 hl hV hw
    unfold w_M_faultOf_176 at hw
    refine lv_istore (lv' := [(6, .int t0), (0, .ref (ea E 20 0)), (1, .int x1), (3, .int v3)]) hx hb d_M_faultOf_176 hl (by decide) rfl (fun ls hl => ?_)
    refine lv_iload hx hb d_M_faultOf_178 (lv_at hl 0 rfl) ?_
    refine lv_if_eq (tgt := 196) hx hb d_M_faultOf_180 rfl (fun hc => ?_) (fun hc => ?_)
    · have hw := hw.1 hc
      refine lv_iconst (v := 0) hx hb d_M_faultOf_196 (by decide) ?_
      exact kr_i hx hb hr hV hK hX hAe hw d_M_faultOf_197
    · have hw := hw.2 hc
      refine lv_aload_n hx hb d_M_faultOf_183 rfl (lv_at hl 1 rfl) ?_
      refine lv_iload_n hx hb d_M_faultOf_184 rfl (lv_at hl 2 rfl) ?_
      refine lv_iload_n hx hb d_M_faultOf_185 rfl (lv_at hl 3 rfl) ?_
      refine kc_M_M_rowFor hx hb hml hown hts hV hK hX hAe (c_M_rowFor l E s0 x1 v3 _ hw) hl.1 (Nat.le_of_ble_eq_true rfl) d_M_faultOf_186 (Nat.le_of_ble_eq_true rfl) (Nat.le_of_ble_eq_true rfl) (fun r2 s1 H locs hw hV => ?_)
      refine lv_if_ge (tgt := 196) hx hb d_M_faultOf_189 rfl (fun hc => ?_) (fun hc => ?_)
      · have hw := hw.1 hc
        refine lv_iconst (v := 0) hx hb d_M_faultOf_196 (by decide) ?_
        exact kr_i hx hb hr hV hK hX hAe hw d_M_faultOf_197
      · have hw := hw.2 hc
        refine lv_iconst (v := 2) hx hb d_M_faultOf_192 (by decide) ?_
        refine lv_goto (tgt := 197) hx hb d_M_faultOf_193 rfl ?_
        exact kr_i hx hb hr hV hK hX hAe hw d_M_faultOf_197
  have J141 : ∀ (ls : Array Slot) (H : Heap) (locs : List Loc) (s0 : KS) (v3 : Int32) (t0 : Int32), lv_has ls 7 [(0, .ref (ea E 20 0)), (1, .int x1), (3, .int v3)] → gV E MM A s0 s H locs → w_M_faultOf_141 x1 Φ v3 t0 s0 → W p l e m_M_faultOf s m ([.ref (ea E 20 0), .int x1] : List Value).toArray below meth c H locs 0 0 (MQ below (gQi E MM A Φ) ([.ref (ea E 20 0), .int x1] : List Value).toArray s 0 0 A) (F0 m 141 ls [.int t0]) := by
    intro  ls H locs s0 v3 t0 hl hV hw
    unfold w_M_faultOf_141 at hw
    refine lv_istore (lv' := [(5, .int t0), (0, .ref (ea E 20 0)), (1, .int x1), (3, .int v3)]) hx hb d_M_faultOf_141 hl (by decide) rfl (fun ls hl => ?_)
    refine lv_iload hx hb d_M_faultOf_143 (lv_at hl 0 rfl) ?_
    refine lv_if_eq (tgt := 150) hx hb d_M_faultOf_145 rfl (fun hc => ?_) (fun hc => ?_)
    · have hw := hw.1 hc
      refine lv_aload_n hx hb d_M_faultOf_150 rfl (lv_at hl 1 rfl) ?_
      refine kg_M_M_size hx hb hG hown hK hV d_M_faultOf_151 ?_
      refine lv_iload_n hx hb d_M_faultOf_154 rfl (lv_at hl 2 rfl) ?_
      refine kl_29 hx hb hK hV hw.1 d_M_faultOf_155 ?_
      have hw := hw.2
      refine lv_iload_n hx hb d_M_faultOf_156 rfl (lv_at hl 3 rfl) ?_
      refine kc_M_M_looks hx hb hml hown hts hV hK hX hAe (c_M_looks l E s0 v3 _ hw) hl.1 (Nat.le_of_ble_eq_true rfl) d_M_faultOf_157 (Nat.le_of_ble_eq_true rfl) (Nat.le_of_ble_eq_true rfl) (fun r2 s1 H locs hw hV => ?_)
      refine lv_isub hx hb d_M_faultOf_160 ?_
      refine lv_iload_n hx hb d_M_faultOf_161 rfl (lv_at hl 3 rfl) ?_
      refine kc_M_M_pushes hx hb hml hown hts hV hK hX hAe (c_M_pushes l E s1 v3 _ hw) hl.1 (Nat.le_of_ble_eq_true rfl) d_M_faultOf_162 (Nat.le_of_ble_eq_true rfl) (Nat.le_of_ble_eq_true rfl) (fun r4 s3 H locs hw hV => ?_)
      refine lv_iadd hx hb d_M_faultOf_165 ?_
      refine lv_bipush (v := 32) hx hb d_M_faultOf_166 (by decide) ?_
      refine lv_icmp_le (tgt := 175) hx hb d_M_faultOf_168 rfl (fun hc => ?_) (fun hc => ?_)
      · have hw := hw.1 hc
        refine lv_iconst (v := 0) hx hb d_M_faultOf_175 (by decide) ?_
        exact J176 _ _ _ s3 v3 (0 : Int32) (lv_sub hl [1, 2, 3] rfl) hV hw
      · have hw := hw.2 hc
        refine lv_iconst (v := 1) hx hb d_M_faultOf_171 (by decide) ?_
        refine lv_goto (tgt := 176) hx hb d_M_faultOf_172 rfl ?_
        exact J176 _ _ _ s3 v3 (1 : Int32) (lv_sub hl [1, 2, 3] rfl) hV hw
    · have hw := hw.2 hc
      refine lv_iconst (v := 3) hx hb d_M_faultOf_148 (by decide) ?_
      exact kr_i hx hb hr hV hK hX hAe hw d_M_faultOf_149
  have J140 : ∀ (ls : Array Slot) (H : Heap) (locs : List Loc) (s0 : KS) (v3 : Int32), lv_has ls 7 [(0, .ref (ea E 20 0)), (1, .int x1), (3, .int v3)] → gV E MM A s0 s H locs → w_M_faultOf_140 x1 Φ v3 s0 → W p l e m_M_faultOf s m ([.ref (ea E 20 0), .int x1] : List Value).toArray below meth c H locs 0 0 (MQ below (gQi E MM A Φ) ([.ref (ea E 20 0), .int x1] : List Value).toArray s 0 0 A) (F0 m 140 ls []) := by
    intro  ls H locs s0 v3 hl hV hw
    unfold w_M_faultOf_140 at hw
    refine lv_iconst (v := 0) hx hb d_M_faultOf_140 (by decide) ?_
    exact J141 _ _ _ s0 v3 (0 : Int32) (lv_sub hl [0, 1, 2] rfl) hV hw
  have J136 : ∀ (ls : Array Slot) (H : Heap) (locs : List Loc) (s0 : KS) (v3 : Int32), lv_has ls 7 [(0, .ref (ea E 20 0)), (1, .int x1), (3, .int v3)] → gV E MM A s0 s H locs → w_M_faultOf_136 x1 Φ v3 s0 → W p l e m_M_faultOf s m ([.ref (ea E 20 0), .int x1] : List Value).toArray below meth c H locs 0 0 (MQ below (gQi E MM A Φ) ([.ref (ea E 20 0), .int x1] : List Value).toArray s 0 0 A) (F0 m 136 ls []) := by
    intro  ls H locs s0 v3 hl hV hw
    unfold w_M_faultOf_136 at hw
    refine lv_iconst (v := 1) hx hb d_M_faultOf_136 (by decide) ?_
    refine lv_goto (tgt := 141) hx hb d_M_faultOf_137 rfl ?_
    exact J141 _ _ _ s0 v3 (1 : Int32) (lv_sub hl [0, 1, 2] rfl) hV hw
  have J124 : ∀ (ls : Array Slot) (H : Heap) (locs : List Loc) (s0 : KS) (v3 : Int32), lv_has ls 7 [(0, .ref (ea E 20 0)), (1, .int x1), (3, .int v3)] → gV E MM A s0 s H locs → w_M_faultOf_124 x1 Φ v3 s0 → W p l e m_M_faultOf s m ([.ref (ea E 20 0), .int x1] : List Value).toArray below meth c H locs 0 0 (MQ below (gQi E MM A Φ) ([.ref (ea E 20 0), .int x1] : List Value).toArray s 0 0 A) (F0 m 124 ls []) := by
    intro  ls H locs s0 v3 hl hV hw
    unfold w_M_faultOf_124 at hw
    refine lv_aload_n hx hb d_M_faultOf_124 rfl (lv_at hl 0 rfl) ?_
    refine lv_iload_n hx hb d_M_faultOf_125 rfl (lv_at hl 1 rfl) ?_
    refine lv_iconst (v := 0) hx hb d_M_faultOf_126 (by decide) ?_
    refine kc_M_M_top hx hb hml hown hts hV hK hX hAe (c_M_top l E s0 x1 (0 : Int32) _ hw) hl.1 (Nat.le_of_ble_eq_true rfl) d_M_faultOf_127 (Nat.le_of_ble_eq_true rfl) (Nat.le_of_ble_eq_true rfl) (fun r2 s1 H locs hw hV => ?_)
    refine kc_M_M_isWord hx hb hml hown hts hV hK hX hAe (c_M_isWord l E s1 r2 _ hw) hl.1 (Nat.le_of_ble_eq_true rfl) d_M_faultOf_130 (Nat.le_of_ble_eq_true rfl) (Nat.le_of_ble_eq_true rfl) (fun r4 s3 H locs hw hV => ?_)
    refine lv_if_ne (tgt := 140) hx hb d_M_faultOf_133 rfl (fun hc => ?_) (fun hc => ?_)
    · have hw := hw.1 hc
      exact J140 _ _ _ s3 v3 (lv_sub hl [0, 1, 2] rfl) hV hw
    · have hw := hw.2 hc
      exact J136 _ _ _ s3 v3 (lv_sub hl [0, 1, 2] rfl) hV hw
  have J112 : ∀ (ls : Array Slot) (H : Heap) (locs : List Loc) (s0 : KS) (v3 : Int32), lv_has ls 7 [(0, .ref (ea E 20 0)), (1, .int x1), (3, .int v3)] → gV E MM A s0 s H locs → w_M_faultOf_112 x1 Φ v3 s0 → W p l e m_M_faultOf s m ([.ref (ea E 20 0), .int x1] : List Value).toArray below meth c H locs 0 0 (MQ below (gQi E MM A Φ) ([.ref (ea E 20 0), .int x1] : List Value).toArray s 0 0 A) (F0 m 112 ls []) := by
    intro  ls H locs s0 v3 hl hV hw
    unfold w_M_faultOf_112 at hw
    refine lv_iload_n hx hb d_M_faultOf_112 rfl (lv_at hl 2 rfl) ?_
    refine lv_bipush (v := 20) hx hb d_M_faultOf_113 (by decide) ?_
    refine lv_icmp_eq (tgt := 124) hx hb d_M_faultOf_115 rfl (fun hc => ?_) (fun hc => ?_)
    · have hw := hw.1 hc
      exact J124 _ _ _ s0 v3 (lv_sub hl [0, 1, 2] rfl) hV hw
    · have hw := hw.2 hc
      refine lv_iload_n hx hb d_M_faultOf_118 rfl (lv_at hl 2 rfl) ?_
      refine lv_bipush (v := 21) hx hb d_M_faultOf_119 (by decide) ?_
      refine lv_icmp_ne (tgt := 140) hx hb d_M_faultOf_121 rfl (fun hc => ?_) (fun hc => ?_)
      · have hw := hw.1 hc
        exact J140 _ _ _ s0 v3 (lv_sub hl [0, 1, 2] rfl) hV hw
      · have hw := hw.2 hc
        exact J124 _ _ _ s0 v3 (lv_sub hl [0, 1, 2] rfl) hV hw
  have J104 : ∀ (ls : Array Slot) (H : Heap) (locs : List Loc) (s0 : KS) (v3 : Int32) (v4 : Int32), lv_has ls 7 [(0, .ref (ea E 20 0)), (1, .int x1), (3, .int v3), (4, .int v4)] → gV E MM A s0 s H locs → w_M_faultOf_104 x1 Φ v3 v4 s0 → W p l e m_M_faultOf s m ([.ref (ea E 20 0), .int x1] : List Value).toArray below meth c H locs 0 0 (MQ below (gQi E MM A Φ) ([.ref (ea E 20 0), .int x1] : List Value).toArray s 0 0 A) (F0 m 104 ls []) := by
    intro  ls H locs s0 v3 v4 hl hV hw
    unfold w_M_faultOf_104 at hw
    refine lv_iload hx hb d_M_faultOf_104 (lv_at hl 3 rfl) ?_
    refine kc_M_M_isWord hx hb hml hown hts hV hK hX hAe (c_M_isWord l E s0 v4 _ hw) hl.1 (Nat.le_of_ble_eq_true rfl) d_M_faultOf_106 (Nat.le_of_ble_eq_true rfl) (Nat.le_of_ble_eq_true rfl) (fun r2 s1 H locs hw hV => ?_)
    refine lv_if_eq (tgt := 136) hx hb d_M_faultOf_109 rfl (fun hc => ?_) (fun hc => ?_)
    · have hw := hw.1 hc
      exact J136 _ _ _ s1 v3 (lv_sub hl [0, 1, 2] rfl) hV hw
    · have hw := hw.2 hc
      exact J112 _ _ _ s1 v3 (lv_sub hl [0, 1, 2] rfl) hV hw
  have J92 : ∀ (ls : Array Slot) (H : Heap) (locs : List Loc) (s0 : KS) (v3 : Int32) (v4 : Int32), lv_has ls 7 [(0, .ref (ea E 20 0)), (1, .int x1), (3, .int v3), (4, .int v4)] → gV E MM A s0 s H locs → w_M_faultOf_92 x1 Φ v3 v4 s0 → W p l e m_M_faultOf s m ([.ref (ea E 20 0), .int x1] : List Value).toArray below meth c H locs 0 0 (MQ below (gQi E MM A Φ) ([.ref (ea E 20 0), .int x1] : List Value).toArray s 0 0 A) (F0 m 92 ls []) := by
    intro  ls H locs s0 v3 v4 hl hV hw
    unfold w_M_faultOf_92 at hw
    refine lv_iload_n hx hb d_M_faultOf_92 rfl (lv_at hl 2 rfl) ?_
    refine lv_bipush (v := 18) hx hb d_M_faultOf_93 (by decide) ?_
    refine lv_icmp_eq (tgt := 104) hx hb d_M_faultOf_95 rfl (fun hc => ?_) (fun hc => ?_)
    · have hw := hw.1 hc
      exact J104 _ _ _ s0 v3 v4 (lv_sub hl [0, 1, 2, 3] rfl) hV hw
    · have hw := hw.2 hc
      refine lv_iload_n hx hb d_M_faultOf_98 rfl (lv_at hl 2 rfl) ?_
      refine lv_bipush (v := 19) hx hb d_M_faultOf_99 (by decide) ?_
      refine lv_icmp_ne (tgt := 112) hx hb d_M_faultOf_101 rfl (fun hc => ?_) (fun hc => ?_)
      · have hw := hw.1 hc
        exact J112 _ _ _ s0 v3 (lv_sub hl [0, 1, 2] rfl) hV hw
      · have hw := hw.2 hc
        exact J104 _ _ _ s0 v3 v4 (lv_sub hl [0, 1, 2, 3] rfl) hV hw
  have J80 : ∀ (ls : Array Slot) (H : Heap) (locs : List Loc) (s0 : KS) (v3 : Int32) (v4 : Int32), lv_has ls 7 [(0, .ref (ea E 20 0)), (1, .int x1), (3, .int v3), (4, .int v4)] → gV E MM A s0 s H locs → w_M_faultOf_80 x1 Φ v3 v4 s0 → W p l e m_M_faultOf s m ([.ref (ea E 20 0), .int x1] : List Value).toArray below meth c H locs 0 0 (MQ below (gQi E MM A Φ) ([.ref (ea E 20 0), .int x1] : List Value).toArray s 0 0 A) (F0 m 80 ls []) := by
    intro  ls H locs s0 v3 v4 hl hV hw
    unfold w_M_faultOf_80 at hw
    refine lv_aload_n hx hb d_M_faultOf_80 rfl (lv_at hl 0 rfl) ?_
    refine lv_iload_n hx hb d_M_faultOf_81 rfl (lv_at hl 1 rfl) ?_
    refine lv_iconst (v := 0) hx hb d_M_faultOf_82 (by decide) ?_
    refine kc_M_M_top hx hb hml hown hts hV hK hX hAe (c_M_top l E s0 x1 (0 : Int32) _ hw) hl.1 (Nat.le_of_ble_eq_true rfl) d_M_faultOf_83 (Nat.le_of_ble_eq_true rfl) (Nat.le_of_ble_eq_true rfl) (fun r2 s1 H locs hw hV => ?_)
    refine lv_if_ne (tgt := 92) hx hb d_M_faultOf_86 rfl (fun hc => ?_) (fun hc => ?_)
    · have hw := hw.1 hc
      exact J92 _ _ _ s1 v3 v4 (lv_sub hl [0, 1, 2, 3] rfl) hV hw
    · have hw := hw.2 hc
      refine lv_bipush (v := 6) hx hb d_M_faultOf_89 (by decide) ?_
      exact kr_i hx hb hr hV hK hX hAe hw d_M_faultOf_91
  unfold w_M_faultOf at hw
  refine lv_aload_n hx hb d_M_faultOf_0 rfl (lv_at hl 0 rfl) ?_
  refine kg_M_M_place hx hb hG hown hK hV d_M_faultOf_1 ?_
  refine lv_iload_n hx hb d_M_faultOf_4 rfl (lv_at hl 1 rfl) ?_
  refine kl_30 hx hb hK hV hw.1 d_M_faultOf_5 ?_
  have hw := hw.2
  refine kc_M_M_isWord hx hb hml hown hts hV hK hX hAe (c_M_isWord l E s0 (s0 30 0 x1.toNatClampNeg) _ hw) hl.1 (Nat.le_of_ble_eq_true rfl) d_M_faultOf_6 (Nat.le_of_ble_eq_true rfl) (Nat.le_of_ble_eq_true rfl) (fun r2 s1 H locs hw hV => ?_)
  refine lv_if_ne (tgt := 14) hx hb d_M_faultOf_9 rfl (fun hc => ?_) (fun hc => ?_)
  · have hw := hw.1 hc
    refine lv_aload_n hx hb d_M_faultOf_14 rfl (lv_at hl 0 rfl) ?_
    refine kg_M_M_memory hx hb hG hown hK hV d_M_faultOf_15 ?_
    refine lv_sipush (v := 128) hx hb d_M_faultOf_18 (by decide) ?_
    refine lv_iload_n hx hb d_M_faultOf_21 rfl (lv_at hl 1 rfl) ?_
    refine lv_imul hx hb d_M_faultOf_22 ?_
    refine lv_aload_n hx hb d_M_faultOf_23 rfl (lv_at hl 0 rfl) ?_
    refine kg_M_M_place hx hb hG hown hK hV d_M_faultOf_24 ?_
    refine lv_iload_n hx hb d_M_faultOf_27 rfl (lv_at hl 1 rfl) ?_
    refine kl_30 hx hb hK hV hw.1 d_M_faultOf_28 ?_
    have hw := hw.2
    refine lv_iadd hx hb d_M_faultOf_29 ?_
    refine kl_27 hx hb hK hV hw.1 d_M_faultOf_30 ?_
    have hw := hw.2
    refine lv_topi (fun y3 ey3 => ?_)
    have hw := hw y3 ey3
    refine lv_istore_n (lv' := [(2, .int y3), (0, .ref (ea E 20 0)), (1, .int x1)]) hx hb d_M_faultOf_31 rfl hl (by decide) rfl (fun ls hl => ?_)
    refine lv_iload_n hx hb d_M_faultOf_32 rfl (lv_at hl 0 rfl) ?_
    refine lv_sipush (v := 255) hx hb d_M_faultOf_33 (by decide) ?_
    refine lv_iand hx hb d_M_faultOf_36 ?_
    refine lv_topi (fun y4 ey4 => ?_)
    have hw := hw y4 ey4
    refine lv_istore_n (lv' := [(3, .int y4), (2, .int y3), (0, .ref (ea E 20 0)), (1, .int x1)]) hx hb d_M_faultOf_37 rfl hl (by decide) rfl (fun ls hl => ?_)
    refine lv_iload_n hx hb d_M_faultOf_38 rfl (lv_at hl 1 rfl) ?_
    refine lv_bipush (v := 8) hx hb d_M_faultOf_39 (by decide) ?_
    refine lv_ishr hx hb d_M_faultOf_41 ?_
    refine lv_topi (fun y5 ey5 => ?_)
    have hw := hw y5 ey5
    refine lv_istore (lv' := [(4, .int y5), (3, .int y4), (2, .int y3), (0, .ref (ea E 20 0)), (1, .int x1)]) hx hb d_M_faultOf_42 hl (by decide) rfl (fun ls hl => ?_)
    refine lv_iload_n hx hb d_M_faultOf_44 rfl (lv_at hl 1 rfl) ?_
    refine kc_M_M_looks hx hb hml hown hts hV hK hX hAe (c_M_looks l E s1 y4 _ hw) hl.1 (Nat.le_of_ble_eq_true rfl) d_M_faultOf_45 (Nat.le_of_ble_eq_true rfl) (Nat.le_of_ble_eq_true rfl) (fun r7 s6 H locs hw hV => ?_)
    refine lv_if_ge (tgt := 53) hx hb d_M_faultOf_48 rfl (fun hc => ?_) (fun hc => ?_)
    · have hw := hw.1 hc
      refine lv_aload_n hx hb d_M_faultOf_53 rfl (lv_at hl 3 rfl) ?_
      refine kg_M_M_size hx hb hG hown hK hV d_M_faultOf_54 ?_
      refine lv_iload_n hx hb d_M_faultOf_57 rfl (lv_at hl 4 rfl) ?_
      refine kl_29 hx hb hK hV hw.1 d_M_faultOf_58 ?_
      have hw := hw.2
      refine lv_iload_n hx hb d_M_faultOf_59 rfl (lv_at hl 1 rfl) ?_
      refine kc_M_M_looks hx hb hml hown hts hV hK hX hAe (c_M_looks l E s6 y4 _ hw) hl.1 (Nat.le_of_ble_eq_true rfl) d_M_faultOf_60 (Nat.le_of_ble_eq_true rfl) (Nat.le_of_ble_eq_true rfl) (fun r9 s8 H locs hw hV => ?_)
      refine lv_icmp_ge (tgt := 68) hx hb d_M_faultOf_63 rfl (fun hc => ?_) (fun hc => ?_)
      · have hw := hw.1 hc
        refine lv_iload_n hx hb d_M_faultOf_68 rfl (lv_at hl 1 rfl) ?_
        refine lv_bipush (v := 8) hx hb d_M_faultOf_69 (by decide) ?_
        refine lv_icmp_eq (tgt := 80) hx hb d_M_faultOf_71 rfl (fun hc => ?_) (fun hc => ?_)
        · have hw := hw.1 hc
          exact J80 _ _ _ s8 y4 y5 (lv_sub hl [3, 4, 1, 0] rfl) hV hw
        · have hw := hw.2 hc
          refine lv_iload_n hx hb d_M_faultOf_74 rfl (lv_at hl 1 rfl) ?_
          refine lv_bipush (v := 9) hx hb d_M_faultOf_75 (by decide) ?_
          refine lv_icmp_ne (tgt := 92) hx hb d_M_faultOf_77 rfl (fun hc => ?_) (fun hc => ?_)
          · have hw := hw.1 hc
            exact J92 _ _ _ s8 y4 y5 (lv_sub hl [3, 4, 1, 0] rfl) hV hw
          · have hw := hw.2 hc
            exact J80 _ _ _ s8 y4 y5 (lv_sub hl [3, 4, 1, 0] rfl) hV hw
      · have hw := hw.2 hc
        refine lv_iconst (v := 1) hx hb d_M_faultOf_66 (by decide) ?_
        exact kr_i hx hb hr hV hK hX hAe hw d_M_faultOf_67
    · have hw := hw.2 hc
      refine lv_iconst (v := 5) hx hb d_M_faultOf_51 (by decide) ?_
      exact kr_i hx hb hr hV hK hX hAe hw d_M_faultOf_52
  · have hw := hw.2 hc
    refine lv_iconst (v := 4) hx hb d_M_faultOf_12 (by decide) ?_
    exact kr_i hx hb hr hV hK hX hAe hw d_M_faultOf_13
theorem d_M_reckon_0 : decode b_M_reckon 0 = .ok (.iload_n 0, 1) := by decide +kernel
theorem d_M_reckon_1 : decode b_M_reckon 1 = .ok (.tableswitch 116 5 15 #[59, 63, 67, 71, 75, 79, 83, 87, 91, 98, 105], 59) := by decide +kernel
theorem d_M_reckon_60 : decode b_M_reckon 60 = .ok (.iload_n 1, 1) := by decide +kernel
theorem d_M_reckon_61 : decode b_M_reckon 61 = .ok (.iload_n 2, 1) := by decide +kernel
theorem d_M_reckon_62 : decode b_M_reckon 62 = .ok (.iadd, 1) := by decide +kernel
theorem d_M_reckon_63 : decode b_M_reckon 63 = .ok (.ireturn, 1) := by decide +kernel
theorem d_M_reckon_64 : decode b_M_reckon 64 = .ok (.iload_n 1, 1) := by decide +kernel
theorem d_M_reckon_65 : decode b_M_reckon 65 = .ok (.iload_n 2, 1) := by decide +kernel
theorem d_M_reckon_66 : decode b_M_reckon 66 = .ok (.isub, 1) := by decide +kernel
theorem d_M_reckon_67 : decode b_M_reckon 67 = .ok (.ireturn, 1) := by decide +kernel
theorem d_M_reckon_68 : decode b_M_reckon 68 = .ok (.iload_n 1, 1) := by decide +kernel
theorem d_M_reckon_69 : decode b_M_reckon 69 = .ok (.iload_n 2, 1) := by decide +kernel
theorem d_M_reckon_70 : decode b_M_reckon 70 = .ok (.imul, 1) := by decide +kernel
theorem d_M_reckon_71 : decode b_M_reckon 71 = .ok (.ireturn, 1) := by decide +kernel
theorem d_M_reckon_72 : decode b_M_reckon 72 = .ok (.iload_n 1, 1) := by decide +kernel
theorem d_M_reckon_73 : decode b_M_reckon 73 = .ok (.iload_n 2, 1) := by decide +kernel
theorem d_M_reckon_74 : decode b_M_reckon 74 = .ok (.idiv, 1) := by decide +kernel
theorem d_M_reckon_75 : decode b_M_reckon 75 = .ok (.ireturn, 1) := by decide +kernel
theorem d_M_reckon_76 : decode b_M_reckon 76 = .ok (.iload_n 1, 1) := by decide +kernel
theorem d_M_reckon_77 : decode b_M_reckon 77 = .ok (.iload_n 2, 1) := by decide +kernel
theorem d_M_reckon_78 : decode b_M_reckon 78 = .ok (.irem, 1) := by decide +kernel
theorem d_M_reckon_79 : decode b_M_reckon 79 = .ok (.ireturn, 1) := by decide +kernel
theorem d_M_reckon_80 : decode b_M_reckon 80 = .ok (.iload_n 1, 1) := by decide +kernel
theorem d_M_reckon_81 : decode b_M_reckon 81 = .ok (.iload_n 2, 1) := by decide +kernel
theorem d_M_reckon_82 : decode b_M_reckon 82 = .ok (.iand, 1) := by decide +kernel
theorem d_M_reckon_83 : decode b_M_reckon 83 = .ok (.ireturn, 1) := by decide +kernel
theorem d_M_reckon_84 : decode b_M_reckon 84 = .ok (.iload_n 1, 1) := by decide +kernel
theorem d_M_reckon_85 : decode b_M_reckon 85 = .ok (.iload_n 2, 1) := by decide +kernel
theorem d_M_reckon_86 : decode b_M_reckon 86 = .ok (.ior, 1) := by decide +kernel
theorem d_M_reckon_87 : decode b_M_reckon 87 = .ok (.ireturn, 1) := by decide +kernel
theorem d_M_reckon_88 : decode b_M_reckon 88 = .ok (.iload_n 1, 1) := by decide +kernel
theorem d_M_reckon_89 : decode b_M_reckon 89 = .ok (.iload_n 2, 1) := by decide +kernel
theorem d_M_reckon_90 : decode b_M_reckon 90 = .ok (.ixor, 1) := by decide +kernel
theorem d_M_reckon_91 : decode b_M_reckon 91 = .ok (.ireturn, 1) := by decide +kernel
theorem d_M_reckon_92 : decode b_M_reckon 92 = .ok (.iload_n 1, 1) := by decide +kernel
theorem d_M_reckon_93 : decode b_M_reckon 93 = .ok (.iload_n 2, 1) := by decide +kernel
theorem d_M_reckon_94 : decode b_M_reckon 94 = .ok (.bipush 31, 2) := by decide +kernel
theorem d_M_reckon_96 : decode b_M_reckon 96 = .ok (.iand, 1) := by decide +kernel
theorem d_M_reckon_97 : decode b_M_reckon 97 = .ok (.ishl, 1) := by decide +kernel
theorem d_M_reckon_98 : decode b_M_reckon 98 = .ok (.ireturn, 1) := by decide +kernel
theorem d_M_reckon_99 : decode b_M_reckon 99 = .ok (.iload_n 1, 1) := by decide +kernel
theorem d_M_reckon_100 : decode b_M_reckon 100 = .ok (.iload_n 2, 1) := by decide +kernel
theorem d_M_reckon_101 : decode b_M_reckon 101 = .ok (.bipush 31, 2) := by decide +kernel
theorem d_M_reckon_103 : decode b_M_reckon 103 = .ok (.iand, 1) := by decide +kernel
theorem d_M_reckon_104 : decode b_M_reckon 104 = .ok (.ishr, 1) := by decide +kernel
theorem d_M_reckon_105 : decode b_M_reckon 105 = .ok (.ireturn, 1) := by decide +kernel
theorem d_M_reckon_106 : decode b_M_reckon 106 = .ok (.iload_n 1, 1) := by decide +kernel
theorem d_M_reckon_107 : decode b_M_reckon 107 = .ok (.iload_n 2, 1) := by decide +kernel
theorem d_M_reckon_108 : decode b_M_reckon 108 = .ok (.if_icmp .ge 7, 3) := by decide +kernel
theorem d_M_reckon_111 : decode b_M_reckon 111 = .ok (.iconst 1, 1) := by decide +kernel
theorem d_M_reckon_112 : decode b_M_reckon 112 = .ok (.goto 4, 3) := by decide +kernel
theorem d_M_reckon_115 : decode b_M_reckon 115 = .ok (.iconst 0, 1) := by decide +kernel
theorem d_M_reckon_116 : decode b_M_reckon 116 = .ok (.ireturn, 1) := by decide +kernel
theorem d_M_reckon_117 : decode b_M_reckon 117 = .ok (.iload_n 1, 1) := by decide +kernel
theorem d_M_reckon_118 : decode b_M_reckon 118 = .ok (.iload_n 2, 1) := by decide +kernel
theorem d_M_reckon_119 : decode b_M_reckon 119 = .ok (.if_icmp .ne 7, 3) := by decide +kernel
theorem d_M_reckon_122 : decode b_M_reckon 122 = .ok (.iconst 1, 1) := by decide +kernel
theorem d_M_reckon_123 : decode b_M_reckon 123 = .ok (.goto 4, 3) := by decide +kernel
theorem d_M_reckon_126 : decode b_M_reckon 126 = .ok (.iconst 0, 1) := by decide +kernel
theorem d_M_reckon_127 : decode b_M_reckon 127 = .ok (.ireturn, 1) := by decide +kernel
def w_M_reckon (x0 : Int32) (x1 : Int32) (x2 : Int32) (s0 : KS) (Φ : Int32 → KS → Prop) : Prop := ((x0 = 5 → Φ (x1 + x2) s0) ∧ ((x0 = 6 → Φ (x1 - x2) s0) ∧ ((x0 = 7 → Φ (x1 * x2) s0) ∧ ((x0 = 8 → ¬ x2 = 0 ∧ Φ (x1 / x2) s0) ∧ ((x0 = 9 → ¬ x2 = 0 ∧ Φ (x1 - x1 / x2 * x2) s0) ∧ ((x0 = 10 → Φ (x1 &&& x2) s0) ∧ ((x0 = 11 → Φ (x1 ||| x2) s0) ∧ ((x0 = 12 → Φ (x1 ^^^ x2) s0) ∧ ((x0 = 13 → Φ (x1 <<< ((x2 &&& (31 : Int32)) &&& 31)) s0) ∧ ((x0 = 14 → Φ (x1 >>> ((x2 &&& (31 : Int32)) &&& 31)) s0) ∧ ((x0 = 15 → ((x2 ≤ x1 → Φ (0 : Int32) s0) ∧ (¬ x2 ≤ x1 → Φ (1 : Int32) s0))) ∧ (¬ x0 = 5 ∧ ¬ x0 = 6 ∧ ¬ x0 = 7 ∧ ¬ x0 = 8 ∧ ¬ x0 = 9 ∧ ¬ x0 = 10 ∧ ¬ x0 = 11 ∧ ¬ x0 = 12 ∧ ¬ x0 = 13 ∧ ¬ x0 = 14 ∧ ¬ x0 = 15 → ((¬ x1 = x2 → Φ (0 : Int32) s0) ∧ (x1 = x2 → Φ (1 : Int32) s0))))))))))))))
set_option maxHeartbeats 4000000 in
set_option maxRecDepth 100000 in
theorem c_M_reckon (l : Launch) (E : gE) (s0 : KS) (x0 : Int32) (x1 : Int32) (x2 : Int32) (Φ : Int32 → KS → Prop) (hw : w_M_reckon x0 x1 x2 s0 Φ) : gMi l y_M_reckon v_M_reckon m_M_reckon E MM [.int x0, .int x1, .int x2] s0 Φ := by
  intro sz
  refine Met.ofW (cc := b_M_reckon) (maxL := 3) (ret := (some .int)) (by decide) rfl ?_
  intro p e s m args below meth c s₁ B hml hv
  obtain ⟨rfl, hsz, hP, hK, hD, hX⟩ := hv
  have hx := B.exec
  have hb := B.bytes
  have hr := B.returns
  have hts := atoms_spec (ws := v_M_reckon) B.pre
  have hG : ∀ w ∈ gG, w.before _ s = true := fun w h => hts w (List.mem_cons_of_mem _ h)
  have hown : s.vm.findClass R_M = some m.cls := findClass_of_methodNamed B.named
  have hlocks := B.notSynchronized
  subst hsz
  obtain ⟨A, hAe⟩ : ∃ A, A = gA E MM s.heap.size := ⟨_, rfl⟩
  rw [← hAe] at hD hX ⊢
  have hV : gV E MM A s0 s s.heap [] := ⟨hP, hD, va_S.rf⟩
  have hl := lv_entry ([.int x0, .int x1, .int x2] : List Value) (n := 3) (Nat.le_of_ble_eq_true rfl)
  rw [lg_entry_eq]
  generalize (lg_sl ([.int x0, .int x1, .int x2] : List Value) ++ List.replicate (3 - (lg_sl ([.int x0, .int x1, .int x2] : List Value)).length) Slot.unset).toArray = ls at hl ⊢
  have hl : lv_has ls 3 [(0, .int x0), (1, .int x1), (2, .int x2)] := hl
  unfold w_M_reckon at hw
  refine lv_iload_n hx hb d_M_reckon_0 rfl (lv_at hl 0 rfl) ?_
  have hsw := hw
  by_cases hc5 : x0 = 5
  · have hw := hsw.1 hc5
    refine lv_tableIn (off := 59) (tgt := 60) hx hb d_M_reckon_1 (by rw [hc5]; decide) (by rw [hc5]; decide) (by rw [hc5]; decide) rfl ?_
    refine lv_iload_n hx hb d_M_reckon_60 rfl (lv_at hl 1 rfl) ?_
    refine lv_iload_n hx hb d_M_reckon_61 rfl (lv_at hl 2 rfl) ?_
    refine lv_iadd hx hb d_M_reckon_62 ?_
    exact kr_i hx hb hr hV hK hX hAe hw d_M_reckon_63
  have hsw := hsw.2
  by_cases hc6 : x0 = 6
  · have hw := hsw.1 hc6
    refine lv_tableIn (off := 63) (tgt := 64) hx hb d_M_reckon_1 (by rw [hc6]; decide) (by rw [hc6]; decide) (by rw [hc6]; decide) rfl ?_
    refine lv_iload_n hx hb d_M_reckon_64 rfl (lv_at hl 1 rfl) ?_
    refine lv_iload_n hx hb d_M_reckon_65 rfl (lv_at hl 2 rfl) ?_
    refine lv_isub hx hb d_M_reckon_66 ?_
    exact kr_i hx hb hr hV hK hX hAe hw d_M_reckon_67
  have hsw := hsw.2
  by_cases hc7 : x0 = 7
  · have hw := hsw.1 hc7
    refine lv_tableIn (off := 67) (tgt := 68) hx hb d_M_reckon_1 (by rw [hc7]; decide) (by rw [hc7]; decide) (by rw [hc7]; decide) rfl ?_
    refine lv_iload_n hx hb d_M_reckon_68 rfl (lv_at hl 1 rfl) ?_
    refine lv_iload_n hx hb d_M_reckon_69 rfl (lv_at hl 2 rfl) ?_
    refine lv_imul hx hb d_M_reckon_70 ?_
    exact kr_i hx hb hr hV hK hX hAe hw d_M_reckon_71
  have hsw := hsw.2
  by_cases hc8 : x0 = 8
  · have hw := hsw.1 hc8
    refine lv_tableIn (off := 71) (tgt := 72) hx hb d_M_reckon_1 (by rw [hc8]; decide) (by rw [hc8]; decide) (by rw [hc8]; decide) rfl ?_
    refine lv_iload_n hx hb d_M_reckon_72 rfl (lv_at hl 1 rfl) ?_
    refine lv_iload_n hx hb d_M_reckon_73 rfl (lv_at hl 2 rfl) ?_
    refine lv_idiv hx hb d_M_reckon_74 hw.1 ?_
    have hw := hw.2
    exact kr_i hx hb hr hV hK hX hAe hw d_M_reckon_75
  have hsw := hsw.2
  by_cases hc9 : x0 = 9
  · have hw := hsw.1 hc9
    refine lv_tableIn (off := 75) (tgt := 76) hx hb d_M_reckon_1 (by rw [hc9]; decide) (by rw [hc9]; decide) (by rw [hc9]; decide) rfl ?_
    refine lv_iload_n hx hb d_M_reckon_76 rfl (lv_at hl 1 rfl) ?_
    refine lv_iload_n hx hb d_M_reckon_77 rfl (lv_at hl 2 rfl) ?_
    refine lv_irem hx hb d_M_reckon_78 hw.1 ?_
    have hw := hw.2
    exact kr_i hx hb hr hV hK hX hAe hw d_M_reckon_79
  have hsw := hsw.2
  by_cases hc10 : x0 = 10
  · have hw := hsw.1 hc10
    refine lv_tableIn (off := 79) (tgt := 80) hx hb d_M_reckon_1 (by rw [hc10]; decide) (by rw [hc10]; decide) (by rw [hc10]; decide) rfl ?_
    refine lv_iload_n hx hb d_M_reckon_80 rfl (lv_at hl 1 rfl) ?_
    refine lv_iload_n hx hb d_M_reckon_81 rfl (lv_at hl 2 rfl) ?_
    refine lv_iand hx hb d_M_reckon_82 ?_
    exact kr_i hx hb hr hV hK hX hAe hw d_M_reckon_83
  have hsw := hsw.2
  by_cases hc11 : x0 = 11
  · have hw := hsw.1 hc11
    refine lv_tableIn (off := 83) (tgt := 84) hx hb d_M_reckon_1 (by rw [hc11]; decide) (by rw [hc11]; decide) (by rw [hc11]; decide) rfl ?_
    refine lv_iload_n hx hb d_M_reckon_84 rfl (lv_at hl 1 rfl) ?_
    refine lv_iload_n hx hb d_M_reckon_85 rfl (lv_at hl 2 rfl) ?_
    refine lv_ior hx hb d_M_reckon_86 ?_
    exact kr_i hx hb hr hV hK hX hAe hw d_M_reckon_87
  have hsw := hsw.2
  by_cases hc12 : x0 = 12
  · have hw := hsw.1 hc12
    refine lv_tableIn (off := 87) (tgt := 88) hx hb d_M_reckon_1 (by rw [hc12]; decide) (by rw [hc12]; decide) (by rw [hc12]; decide) rfl ?_
    refine lv_iload_n hx hb d_M_reckon_88 rfl (lv_at hl 1 rfl) ?_
    refine lv_iload_n hx hb d_M_reckon_89 rfl (lv_at hl 2 rfl) ?_
    refine lv_ixor hx hb d_M_reckon_90 ?_
    exact kr_i hx hb hr hV hK hX hAe hw d_M_reckon_91
  have hsw := hsw.2
  by_cases hc13 : x0 = 13
  · have hw := hsw.1 hc13
    refine lv_tableIn (off := 91) (tgt := 92) hx hb d_M_reckon_1 (by rw [hc13]; decide) (by rw [hc13]; decide) (by rw [hc13]; decide) rfl ?_
    refine lv_iload_n hx hb d_M_reckon_92 rfl (lv_at hl 1 rfl) ?_
    refine lv_iload_n hx hb d_M_reckon_93 rfl (lv_at hl 2 rfl) ?_
    refine lv_bipush (v := 31) hx hb d_M_reckon_94 (by decide) ?_
    refine lv_iand hx hb d_M_reckon_96 ?_
    refine lv_ishl hx hb d_M_reckon_97 ?_
    exact kr_i hx hb hr hV hK hX hAe hw d_M_reckon_98
  have hsw := hsw.2
  by_cases hc14 : x0 = 14
  · have hw := hsw.1 hc14
    refine lv_tableIn (off := 98) (tgt := 99) hx hb d_M_reckon_1 (by rw [hc14]; decide) (by rw [hc14]; decide) (by rw [hc14]; decide) rfl ?_
    refine lv_iload_n hx hb d_M_reckon_99 rfl (lv_at hl 1 rfl) ?_
    refine lv_iload_n hx hb d_M_reckon_100 rfl (lv_at hl 2 rfl) ?_
    refine lv_bipush (v := 31) hx hb d_M_reckon_101 (by decide) ?_
    refine lv_iand hx hb d_M_reckon_103 ?_
    refine lv_ishr hx hb d_M_reckon_104 ?_
    exact kr_i hx hb hr hV hK hX hAe hw d_M_reckon_105
  have hsw := hsw.2
  by_cases hc15 : x0 = 15
  · have hw := hsw.1 hc15
    refine lv_tableIn (off := 105) (tgt := 106) hx hb d_M_reckon_1 (by rw [hc15]; decide) (by rw [hc15]; decide) (by rw [hc15]; decide) rfl ?_
    refine lv_iload_n hx hb d_M_reckon_106 rfl (lv_at hl 1 rfl) ?_
    refine lv_iload_n hx hb d_M_reckon_107 rfl (lv_at hl 2 rfl) ?_
    refine lv_icmp_ge (tgt := 115) hx hb d_M_reckon_108 rfl (fun hc => ?_) (fun hc => ?_)
    · have hw := hw.1 hc
      refine lv_iconst (v := 0) hx hb d_M_reckon_115 (by decide) ?_
      exact kr_i hx hb hr hV hK hX hAe hw d_M_reckon_116
    · have hw := hw.2 hc
      refine lv_iconst (v := 1) hx hb d_M_reckon_111 (by decide) ?_
      refine lv_goto (tgt := 116) hx hb d_M_reckon_112 rfl ?_
      exact kr_i hx hb hr hV hK hX hAe hw d_M_reckon_116
  have hsw := hsw.2
  have hw := hsw ⟨hc5, hc6, hc7, hc8, hc9, hc10, hc11, hc12, hc13, hc14, hc15⟩
  refine kr_dflt (g2 := F0 m 117 ls []) ?_ (fun kd => ?_)
  · refine lv_iload_n hx hb d_M_reckon_117 rfl (lv_at hl 1 rfl) ?_
    refine lv_iload_n hx hb d_M_reckon_118 rfl (lv_at hl 2 rfl) ?_
    refine lv_icmp_ne (tgt := 126) hx hb d_M_reckon_119 rfl (fun hc => ?_) (fun hc => ?_)
    · have hw := hw.1 hc
      refine lv_iconst (v := 0) hx hb d_M_reckon_126 (by decide) ?_
      exact kr_i hx hb hr hV hK hX hAe hw d_M_reckon_127
    · have hw := hw.2 hc
      refine lv_iconst (v := 1) hx hb d_M_reckon_122 (by decide) ?_
      refine lv_goto (tgt := 127) hx hb d_M_reckon_123 rfl ?_
      exact kr_i hx hb hr hV hK hX hAe hw d_M_reckon_127
  have hn5 : ¬ x0.toInt = 5 := lv_neT hc5 (by decide)
  have hn6 : ¬ x0.toInt = 6 := lv_neT hc6 (by decide)
  have hn7 : ¬ x0.toInt = 7 := lv_neT hc7 (by decide)
  have hn8 : ¬ x0.toInt = 8 := lv_neT hc8 (by decide)
  have hn9 : ¬ x0.toInt = 9 := lv_neT hc9 (by decide)
  have hn10 : ¬ x0.toInt = 10 := lv_neT hc10 (by decide)
  have hn11 : ¬ x0.toInt = 11 := lv_neT hc11 (by decide)
  have hn12 : ¬ x0.toInt = 12 := lv_neT hc12 (by decide)
  have hn13 : ¬ x0.toInt = 13 := lv_neT hc13 (by decide)
  have hn14 : ¬ x0.toInt = 14 := lv_neT hc14 (by decide)
  have hn15 : ¬ x0.toInt = 15 := lv_neT hc15 (by decide)
  exact lv_tableOut (tgt := 117) hx hb d_M_reckon_1 (by omega) rfl kd
theorem d_M_await_0 : decode b_M_await 0 = .ok (.iconst 0, 1) := by decide +kernel
theorem d_M_await_1 : decode b_M_await 1 = .ok (.istore_n 2, 1) := by decide +kernel
theorem d_M_await_2 : decode b_M_await 2 = .ok (.iload_n 2, 1) := by decide +kernel
theorem d_M_await_3 : decode b_M_await 3 = .ok (.bipush 16, 2) := by decide +kernel
theorem d_M_await_5 : decode b_M_await 5 = .ok (.if_icmp .ge 30, 3) := by decide +kernel
theorem d_M_await_8 : decode b_M_await 8 = .ok (.aload_n 0, 1) := by decide +kernel
theorem d_M_await_9 : decode b_M_await 9 = .ok (.getfield 13, 3) := by decide +kernel
theorem d_M_await_12 : decode b_M_await 12 = .ok (.iload_n 2, 1) := by decide +kernel
theorem d_M_await_13 : decode b_M_await 13 = .ok (.iaload, 1) := by decide +kernel
theorem d_M_await_14 : decode b_M_await 14 = .ok (.bipush 6, 2) := by decide +kernel
theorem d_M_await_16 : decode b_M_await 16 = .ok (.if_icmp .ne 13, 3) := by decide +kernel
theorem d_M_await_19 : decode b_M_await 19 = .ok (.aload_n 0, 1) := by decide +kernel
theorem d_M_await_20 : decode b_M_await 20 = .ok (.getfield 31, 3) := by decide +kernel
theorem d_M_await_23 : decode b_M_await 23 = .ok (.iload_n 2, 1) := by decide +kernel
theorem d_M_await_24 : decode b_M_await 24 = .ok (.iaload, 1) := by decide +kernel
theorem d_M_await_25 : decode b_M_await 25 = .ok (.iload_n 1, 1) := by decide +kernel
theorem d_M_await_26 : decode b_M_await 26 = .ok (.if_icmp .eq 9, 3) := by decide +kernel
theorem d_M_await_29 : decode b_M_await 29 = .ok (.iinc 2 1, 3) := by decide +kernel
theorem d_M_await_32 : decode b_M_await 32 = .ok (.goto (-30), 3) := by decide +kernel
theorem d_M_await_35 : decode b_M_await 35 = .ok (.iload_n 2, 1) := by decide +kernel
theorem d_M_await_36 : decode b_M_await 36 = .ok (.bipush 16, 2) := by decide +kernel
theorem d_M_await_38 : decode b_M_await 38 = .ok (.if_icmp .ne 16, 3) := by decide +kernel
theorem d_M_await_41 : decode b_M_await 41 = .ok (.aload_n 0, 1) := by decide +kernel
theorem d_M_await_42 : decode b_M_await 42 = .ok (.iload_n 1, 1) := by decide +kernel
theorem d_M_await_43 : decode b_M_await 43 = .ok (.iconst 0, 1) := by decide +kernel
theorem d_M_await_44 : decode b_M_await 44 = .ok (.invokevirtual 155, 3) := by decide +kernel
theorem d_M_await_47 : decode b_M_await 47 = .ok (.aload_n 0, 1) := by decide +kernel
theorem d_M_await_48 : decode b_M_await 48 = .ok (.iload_n 1, 1) := by decide +kernel
theorem d_M_await_49 : decode b_M_await 49 = .ok (.iconst (-1), 1) := by decide +kernel
theorem d_M_await_50 : decode b_M_await 50 = .ok (.invokevirtual 155, 3) := by decide +kernel
theorem d_M_await_53 : decode b_M_await 53 = .ok (.return_, 1) := by decide +kernel
theorem d_M_await_54 : decode b_M_await 54 = .ok (.aload_n 0, 1) := by decide +kernel
theorem d_M_await_55 : decode b_M_await 55 = .ok (.iload_n 1, 1) := by decide +kernel
theorem d_M_await_56 : decode b_M_await 56 = .ok (.aload_n 0, 1) := by decide +kernel
theorem d_M_await_57 : decode b_M_await 57 = .ok (.getfield 34, 3) := by decide +kernel
theorem d_M_await_60 : decode b_M_await 60 = .ok (.iload_n 2, 1) := by decide +kernel
theorem d_M_await_61 : decode b_M_await 61 = .ok (.iaload, 1) := by decide +kernel
theorem d_M_await_62 : decode b_M_await 62 = .ok (.invokevirtual 155, 3) := by decide +kernel
theorem d_M_await_65 : decode b_M_await 65 = .ok (.aload_n 0, 1) := by decide +kernel
theorem d_M_await_66 : decode b_M_await 66 = .ok (.iload_n 1, 1) := by decide +kernel
theorem d_M_await_67 : decode b_M_await 67 = .ok (.iload_n 2, 1) := by decide +kernel
theorem d_M_await_68 : decode b_M_await 68 = .ok (.invokevirtual 155, 3) := by decide +kernel
theorem d_M_await_71 : decode b_M_await 71 = .ok (.aload_n 0, 1) := by decide +kernel
theorem d_M_await_72 : decode b_M_await 72 = .ok (.getfield 13, 3) := by decide +kernel
theorem d_M_await_75 : decode b_M_await 75 = .ok (.iload_n 2, 1) := by decide +kernel
theorem d_M_await_76 : decode b_M_await 76 = .ok (.iconst 0, 1) := by decide +kernel
theorem d_M_await_77 : decode b_M_await 77 = .ok (.iastore, 1) := by decide +kernel
theorem d_M_await_78 : decode b_M_await 78 = .ok (.return_, 1) := by decide +kernel
def w_M_await_35 (x1 : Int32) (Φ : KS → Prop) (v2 : Int32) (s0 : KS) : Prop := ((¬ v2 = (16 : Int32) → vp_in v2 16 ∧ w_M_push x1 (s0 33 0 v2.toNatClampNeg) s0 (fun s1 => w_M_push x1 v2 s1 (fun s2 => vp_in v2 16 ∧ ∀ s3 : KS, s3 = w3 s2 26 0 v2.toNatClampNeg (0 : Int32) → Φ s3))) ∧ (v2 = (16 : Int32) → w_M_push x1 (0 : Int32) s0 (fun s4 => w_M_push x1 (-1 : Int32) s4 (fun s5 => Φ s5))))
def w_M_await_2 (x1 : Int32) (Φ : KS → Prop) : Nat → Int32 → KS → Prop
  | 0, _, _ => False
  | n + 1, v2, s0 => (((16 : Int32) ≤ v2 → w_M_await_35 x1 Φ v2 s0) ∧ (¬ (16 : Int32) ≤ v2 → vp_in v2 16 ∧ ((¬ (s0 26 0 v2.toNatClampNeg) = (6 : Int32) → ∀ y1 : Int32, y1 = v2 + (1 : Int32) → w_M_await_2 x1 Φ n y1 s0) ∧ ((s0 26 0 v2.toNatClampNeg) = (6 : Int32) → vp_in v2 16 ∧ (((s0 32 0 v2.toNatClampNeg) = x1 → w_M_await_35 x1 Φ v2 s0) ∧ (¬ (s0 32 0 v2.toNatClampNeg) = x1 → ∀ y2 : Int32, y2 = v2 + (1 : Int32) → w_M_await_2 x1 Φ n y2 s0))))))
def w_M_await (x1 : Int32) (s0 : KS) (Φ : KS → Prop) : Prop := ∃ nn : Nat, w_M_await_2 x1 Φ nn (0 : Int32) s0
set_option maxHeartbeats 4000000 in
set_option maxRecDepth 100000 in
theorem c_M_await (l : Launch) (E : gE) (s0 : KS) (x1 : Int32) (Φ : KS → Prop) (hw : w_M_await x1 s0 Φ) : gMv l y_M_await v_M_await m_M_await E MM [.ref (ea E 20 0), .int x1] s0 Φ := by
  intro sz
  refine Met.ofW (cc := b_M_await) (maxL := 3) (ret := none) (by decide) rfl ?_
  intro p e s m args below meth c s₁ B hml hv
  obtain ⟨rfl, hsz, hP, hK, hD, hX⟩ := hv
  have hx := B.exec
  have hb := B.bytes
  have hr := B.returns
  have hts := atoms_spec (ws := v_M_await) B.pre
  have hG : ∀ w ∈ gG, w.before _ s = true := fun w h => hts w (List.mem_cons_of_mem _ h)
  have hown : s.vm.findClass R_M = some m.cls := findClass_of_methodNamed B.named
  have hlocks := B.notSynchronized
  subst hsz
  obtain ⟨A, hAe⟩ : ∃ A, A = gA E MM s.heap.size := ⟨_, rfl⟩
  rw [← hAe] at hD hX ⊢
  have hV : gV E MM A s0 s s.heap [] := ⟨hP, hD, va_S.rf⟩
  have hl := lv_entry ([.ref (ea E 20 0), .int x1] : List Value) (n := 3) (Nat.le_of_ble_eq_true rfl)
  rw [lg_entry_eq]
  generalize (lg_sl ([.ref (ea E 20 0), .int x1] : List Value) ++ List.replicate (3 - (lg_sl ([.ref (ea E 20 0), .int x1] : List Value)).length) Slot.unset).toArray = ls at hl ⊢
  have hl : lv_has ls 3 [(0, .ref (ea E 20 0)), (1, .int x1)] := hl
  have J35 : ∀ (ls : Array Slot) (H : Heap) (locs : List Loc) (s0 : KS) (v2 : Int32), lv_has ls 3 [(0, .ref (ea E 20 0)), (1, .int x1), (2, .int v2)] → gV E MM A s0 s H locs → w_M_await_35 x1 Φ v2 s0 → W p l e m_M_await s m ([.ref (ea E 20 0), .int x1] : List Value).toArray below meth c H locs 0 0 (MQ below (gQv E MM A Φ) ([.ref (ea E 20 0), .int x1] : List Value).toArray s 0 0 A) (F0 m 35 ls []) := by
    intro  ls H locs s0 v2 hl hV hw
    unfold w_M_await_35 at hw
    refine lv_iload_n hx hb d_M_await_35 rfl (lv_at hl 2 rfl) ?_
    refine lv_bipush (v := 16) hx hb d_M_await_36 (by decide) ?_
    refine lv_icmp_ne (tgt := 54) hx hb d_M_await_38 rfl (fun hc => ?_) (fun hc => ?_)
    · have hw := hw.1 hc
      refine lv_aload_n hx hb d_M_await_54 rfl (lv_at hl 0 rfl) ?_
      refine lv_iload_n hx hb d_M_await_55 rfl (lv_at hl 1 rfl) ?_
      refine lv_aload_n hx hb d_M_await_56 rfl (lv_at hl 0 rfl) ?_
      refine kg_M_M_codes hx hb hG hown hK hV d_M_await_57 ?_
      refine lv_iload_n hx hb d_M_await_60 rfl (lv_at hl 2 rfl) ?_
      refine kl_33 hx hb hK hV hw.1 d_M_await_61 ?_
      have hw := hw.2
      refine kc_M_M_push hx hb hml hown hts hV hK hX hAe (c_M_push l E s0 x1 (s0 33 0 v2.toNatClampNeg) _ hw) hl.1 (Nat.le_of_ble_eq_true rfl) d_M_await_62 (Nat.le_of_ble_eq_true rfl) (Nat.le_of_ble_eq_true rfl) (fun s1 H locs hw hV => ?_)
      refine lv_aload_n hx hb d_M_await_65 rfl (lv_at hl 0 rfl) ?_
      refine lv_iload_n hx hb d_M_await_66 rfl (lv_at hl 1 rfl) ?_
      refine lv_iload_n hx hb d_M_await_67 rfl (lv_at hl 2 rfl) ?_
      refine kc_M_M_push hx hb hml hown hts hV hK hX hAe (c_M_push l E s1 x1 v2 _ hw) hl.1 (Nat.le_of_ble_eq_true rfl) d_M_await_68 (Nat.le_of_ble_eq_true rfl) (Nat.le_of_ble_eq_true rfl) (fun s2 H locs hw hV => ?_)
      refine lv_aload_n hx hb d_M_await_71 rfl (lv_at hl 0 rfl) ?_
      refine kg_M_M_state hx hb hG hown hK hV d_M_await_72 ?_
      refine lv_iload_n hx hb d_M_await_75 rfl (lv_at hl 2 rfl) ?_
      refine lv_iconst (v := 0) hx hb d_M_await_76 (by decide) ?_
      refine ks_26 hx hb hK hV hw.1 d_M_await_77 (fun s3 H locs es3 hV => ?_)
      have hw := hw.2 s3 es3
      exact kr_v hx hb hr hV hK hX hAe hw d_M_await_78
    · have hw := hw.2 hc
      refine lv_aload_n hx hb d_M_await_41 rfl (lv_at hl 0 rfl) ?_
      refine lv_iload_n hx hb d_M_await_42 rfl (lv_at hl 1 rfl) ?_
      refine lv_iconst (v := 0) hx hb d_M_await_43 (by decide) ?_
      refine kc_M_M_push hx hb hml hown hts hV hK hX hAe (c_M_push l E s0 x1 (0 : Int32) _ hw) hl.1 (Nat.le_of_ble_eq_true rfl) d_M_await_44 (Nat.le_of_ble_eq_true rfl) (Nat.le_of_ble_eq_true rfl) (fun s4 H locs hw hV => ?_)
      refine lv_aload_n hx hb d_M_await_47 rfl (lv_at hl 0 rfl) ?_
      refine lv_iload_n hx hb d_M_await_48 rfl (lv_at hl 1 rfl) ?_
      refine lv_iconst (v := -1) hx hb d_M_await_49 (by decide) ?_
      refine kc_M_M_push hx hb hml hown hts hV hK hX hAe (c_M_push l E s4 x1 (-1 : Int32) _ hw) hl.1 (Nat.le_of_ble_eq_true rfl) d_M_await_50 (Nat.le_of_ble_eq_true rfl) (Nat.le_of_ble_eq_true rfl) (fun s5 H locs hw hV => ?_)
      exact kr_v hx hb hr hV hK hX hAe hw d_M_await_53
  have L2 : ∀ (n : Nat), ∀ (ls : Array Slot) (H : Heap) (locs : List Loc) (s0 : KS) (v2 : Int32), lv_has ls 3 [(0, .ref (ea E 20 0)), (1, .int x1), (2, .int v2)] → gV E MM A s0 s H locs → w_M_await_2 x1 Φ n v2 s0 → W p l e m_M_await s m ([.ref (ea E 20 0), .int x1] : List Value).toArray below meth c H locs 0 0 (MQ below (gQv E MM A Φ) ([.ref (ea E 20 0), .int x1] : List Value).toArray s 0 0 A) (F0 m 2 ls []) := by
    intro n
    induction n with
    | zero =>
      intro ls H locs s0 v2 hl hV hw
      exact False.elim hw
    | succ n ih =>
      intro ls H locs s0 v2 hl hV hw
      unfold w_M_await_2 at hw
      refine lv_iload_n hx hb d_M_await_2 rfl (lv_at hl 2 rfl) ?_
      refine lv_bipush (v := 16) hx hb d_M_await_3 (by decide) ?_
      refine lv_icmp_ge (tgt := 35) hx hb d_M_await_5 rfl (fun hc => ?_) (fun hc => ?_)
      · have hw := hw.1 hc
        exact J35 _ _ _ s0 v2 (lv_sub hl [0, 1, 2] rfl) hV hw
      · have hw := hw.2 hc
        refine lv_aload_n hx hb d_M_await_8 rfl (lv_at hl 0 rfl) ?_
        refine kg_M_M_state hx hb hG hown hK hV d_M_await_9 ?_
        refine lv_iload_n hx hb d_M_await_12 rfl (lv_at hl 2 rfl) ?_
        refine kl_26 hx hb hK hV hw.1 d_M_await_13 ?_
        have hw := hw.2
        refine lv_bipush (v := 6) hx hb d_M_await_14 (by decide) ?_
        refine lv_icmp_ne (tgt := 29) hx hb d_M_await_16 rfl (fun hc => ?_) (fun hc => ?_)
        · have hw := hw.1 hc
          obtain ⟨y1, ey1⟩ : ∃ z : Int32, z = v2 + (1 : Int32) := ⟨_, rfl⟩
          have hw := hw y1 ey1
          refine lv_iinc (k := 2) (v := y1) (lv' := [(2, .int y1), (0, .ref (ea E 20 0)), (1, .int x1)]) hx hb d_M_await_29 hl rfl (by rw [ey1]; rfl) (by decide) rfl (fun ls hl => ?_)
          refine lv_goto (tgt := 2) hx hb d_M_await_32 rfl ?_
          exact ih _ _ _ s0 y1 (lv_sub hl [1, 2, 0] rfl) hV hw
        · have hw := hw.2 hc
          refine lv_aload_n hx hb d_M_await_19 rfl (lv_at hl 0 rfl) ?_
          refine kg_M_M_parent hx hb hG hown hK hV d_M_await_20 ?_
          refine lv_iload_n hx hb d_M_await_23 rfl (lv_at hl 2 rfl) ?_
          refine kl_32 hx hb hK hV hw.1 d_M_await_24 ?_
          have hw := hw.2
          refine lv_iload_n hx hb d_M_await_25 rfl (lv_at hl 1 rfl) ?_
          refine lv_icmp_eq (tgt := 35) hx hb d_M_await_26 rfl (fun hc => ?_) (fun hc => ?_)
          · have hw := hw.1 hc
            exact J35 _ _ _ s0 v2 (lv_sub hl [0, 1, 2] rfl) hV hw
          · have hw := hw.2 hc
            obtain ⟨y2, ey2⟩ : ∃ z : Int32, z = v2 + (1 : Int32) := ⟨_, rfl⟩
            have hw := hw y2 ey2
            refine lv_iinc (k := 2) (v := y2) (lv' := [(2, .int y2), (0, .ref (ea E 20 0)), (1, .int x1)]) hx hb d_M_await_29 hl rfl (by rw [ey2]; rfl) (by decide) rfl (fun ls hl => ?_)
            refine lv_goto (tgt := 2) hx hb d_M_await_32 rfl ?_
            exact ih _ _ _ s0 y2 (lv_sub hl [1, 2, 0] rfl) hV hw
  unfold w_M_await at hw
  refine lv_iconst (v := 0) hx hb d_M_await_0 (by decide) ?_
  refine lv_istore_n (lv' := [(2, .int (0 : Int32)), (0, .ref (ea E 20 0)), (1, .int x1)]) hx hb d_M_await_1 rfl hl (by decide) rfl (fun ls hl => ?_)
  obtain ⟨nn, hw⟩ := hw
  exact L2 nn _ _ _ s0 (0 : Int32) (lv_sub hl [1, 2, 0] rfl) hV hw
theorem d_M_freeDescriptor_0 : decode b_M_freeDescriptor 0 = .ok (.iload_n 2, 1) := by decide +kernel
theorem d_M_freeDescriptor_1 : decode b_M_freeDescriptor 1 = .ok (.istore_n 3, 1) := by decide +kernel
theorem d_M_freeDescriptor_2 : decode b_M_freeDescriptor 2 = .ok (.iload_n 3, 1) := by decide +kernel
theorem d_M_freeDescriptor_3 : decode b_M_freeDescriptor 3 = .ok (.bipush 8, 2) := by decide +kernel
theorem d_M_freeDescriptor_5 : decode b_M_freeDescriptor 5 = .ok (.if_icmp .ge 23, 3) := by decide +kernel
theorem d_M_freeDescriptor_8 : decode b_M_freeDescriptor 8 = .ok (.aload_n 0, 1) := by decide +kernel
theorem d_M_freeDescriptor_9 : decode b_M_freeDescriptor 9 = .ok (.getfield 28, 3) := by decide +kernel
theorem d_M_freeDescriptor_12 : decode b_M_freeDescriptor 12 = .ok (.bipush 8, 2) := by decide +kernel
theorem d_M_freeDescriptor_14 : decode b_M_freeDescriptor 14 = .ok (.iload_n 1, 1) := by decide +kernel
theorem d_M_freeDescriptor_15 : decode b_M_freeDescriptor 15 = .ok (.imul, 1) := by decide +kernel
theorem d_M_freeDescriptor_16 : decode b_M_freeDescriptor 16 = .ok (.iload_n 3, 1) := by decide +kernel
theorem d_M_freeDescriptor_17 : decode b_M_freeDescriptor 17 = .ok (.iadd, 1) := by decide +kernel
theorem d_M_freeDescriptor_18 : decode b_M_freeDescriptor 18 = .ok (.iaload, 1) := by decide +kernel
theorem d_M_freeDescriptor_19 : decode b_M_freeDescriptor 19 = .ok (.ifCond .eq 9, 3) := by decide +kernel
theorem d_M_freeDescriptor_22 : decode b_M_freeDescriptor 22 = .ok (.iinc 3 1, 3) := by decide +kernel
theorem d_M_freeDescriptor_25 : decode b_M_freeDescriptor 25 = .ok (.goto (-23), 3) := by decide +kernel
theorem d_M_freeDescriptor_28 : decode b_M_freeDescriptor 28 = .ok (.iload_n 3, 1) := by decide +kernel
theorem d_M_freeDescriptor_29 : decode b_M_freeDescriptor 29 = .ok (.ireturn, 1) := by decide +kernel
def w_M_freeDescriptor_2 (x1 : Int32) (x2 : Int32) (Φ : Int32 → KS → Prop) : Nat → Int32 → KS → Prop
  | 0, _, _ => False
  | n + 1, v3, s0 => (((8 : Int32) ≤ v3 → Φ v3 s0) ∧ (¬ (8 : Int32) ≤ v3 → vp_in (((8 : Int32) * x1) + v3) 128 ∧ (((s0 31 0 (((8 : Int32) * x1) + v3).toNatClampNeg) = 0 → Φ v3 s0) ∧ (¬ (s0 31 0 (((8 : Int32) * x1) + v3).toNatClampNeg) = 0 → ∀ y1 : Int32, y1 = v3 + (1 : Int32) → w_M_freeDescriptor_2 x1 x2 Φ n y1 s0))))
def w_M_freeDescriptor (x1 : Int32) (x2 : Int32) (s0 : KS) (Φ : Int32 → KS → Prop) : Prop := ∃ nn : Nat, w_M_freeDescriptor_2 x1 x2 Φ nn x2 s0
set_option maxHeartbeats 4000000 in
set_option maxRecDepth 100000 in
theorem c_M_freeDescriptor (l : Launch) (E : gE) (s0 : KS) (x1 : Int32) (x2 : Int32) (Φ : Int32 → KS → Prop) (hw : w_M_freeDescriptor x1 x2 s0 Φ) : gMi l y_M_freeDescriptor v_M_freeDescriptor m_M_freeDescriptor E MM [.ref (ea E 20 0), .int x1, .int x2] s0 Φ := by
  intro sz
  refine Met.ofW (cc := b_M_freeDescriptor) (maxL := 4) (ret := (some .int)) (by decide) rfl ?_
  intro p e s m args below meth c s₁ B hml hv
  obtain ⟨rfl, hsz, hP, hK, hD, hX⟩ := hv
  have hx := B.exec
  have hb := B.bytes
  have hr := B.returns
  have hts := atoms_spec (ws := v_M_freeDescriptor) B.pre
  have hG : ∀ w ∈ gG, w.before _ s = true := fun w h => hts w (List.mem_cons_of_mem _ h)
  have hown : s.vm.findClass R_M = some m.cls := findClass_of_methodNamed B.named
  have hlocks := B.notSynchronized
  subst hsz
  obtain ⟨A, hAe⟩ : ∃ A, A = gA E MM s.heap.size := ⟨_, rfl⟩
  rw [← hAe] at hD hX ⊢
  have hV : gV E MM A s0 s s.heap [] := ⟨hP, hD, va_S.rf⟩
  have hl := lv_entry ([.ref (ea E 20 0), .int x1, .int x2] : List Value) (n := 4) (Nat.le_of_ble_eq_true rfl)
  rw [lg_entry_eq]
  generalize (lg_sl ([.ref (ea E 20 0), .int x1, .int x2] : List Value) ++ List.replicate (4 - (lg_sl ([.ref (ea E 20 0), .int x1, .int x2] : List Value)).length) Slot.unset).toArray = ls at hl ⊢
  have hl : lv_has ls 4 [(0, .ref (ea E 20 0)), (1, .int x1), (2, .int x2)] := hl
  have L2 : ∀ (n : Nat), ∀ (ls : Array Slot) (H : Heap) (locs : List Loc) (s0 : KS) (v3 : Int32), lv_has ls 4 [(0, .ref (ea E 20 0)), (1, .int x1), (3, .int v3)] → gV E MM A s0 s H locs → w_M_freeDescriptor_2 x1 x2 Φ n v3 s0 → W p l e m_M_freeDescriptor s m ([.ref (ea E 20 0), .int x1, .int x2] : List Value).toArray below meth c H locs 0 0 (MQ below (gQi E MM A Φ) ([.ref (ea E 20 0), .int x1, .int x2] : List Value).toArray s 0 0 A) (F0 m 2 ls []) := by
    intro n
    induction n with
    | zero =>
      intro ls H locs s0 v3 hl hV hw
      exact False.elim hw
    | succ n ih =>
      intro ls H locs s0 v3 hl hV hw
      unfold w_M_freeDescriptor_2 at hw
      refine lv_iload_n hx hb d_M_freeDescriptor_2 rfl (lv_at hl 2 rfl) ?_
      refine lv_bipush (v := 8) hx hb d_M_freeDescriptor_3 (by decide) ?_
      refine lv_icmp_ge (tgt := 28) hx hb d_M_freeDescriptor_5 rfl (fun hc => ?_) (fun hc => ?_)
      · have hw := hw.1 hc
        refine lv_iload_n hx hb d_M_freeDescriptor_28 rfl (lv_at hl 2 rfl) ?_
        exact kr_i hx hb hr hV hK hX hAe hw d_M_freeDescriptor_29
      · have hw := hw.2 hc
        refine lv_aload_n hx hb d_M_freeDescriptor_8 rfl (lv_at hl 0 rfl) ?_
        refine kg_M_M_descriptors hx hb hG hown hK hV d_M_freeDescriptor_9 ?_
        refine lv_bipush (v := 8) hx hb d_M_freeDescriptor_12 (by decide) ?_
        refine lv_iload_n hx hb d_M_freeDescriptor_14 rfl (lv_at hl 1 rfl) ?_
        refine lv_imul hx hb d_M_freeDescriptor_15 ?_
        refine lv_iload_n hx hb d_M_freeDescriptor_16 rfl (lv_at hl 2 rfl) ?_
        refine lv_iadd hx hb d_M_freeDescriptor_17 ?_
        refine kl_31 hx hb hK hV hw.1 d_M_freeDescriptor_18 ?_
        have hw := hw.2
        refine lv_if_eq (tgt := 28) hx hb d_M_freeDescriptor_19 rfl (fun hc => ?_) (fun hc => ?_)
        · have hw := hw.1 hc
          refine lv_iload_n hx hb d_M_freeDescriptor_28 rfl (lv_at hl 2 rfl) ?_
          exact kr_i hx hb hr hV hK hX hAe hw d_M_freeDescriptor_29
        · have hw := hw.2 hc
          obtain ⟨y1, ey1⟩ : ∃ z : Int32, z = v3 + (1 : Int32) := ⟨_, rfl⟩
          have hw := hw y1 ey1
          refine lv_iinc (k := 2) (v := y1) (lv' := [(3, .int y1), (0, .ref (ea E 20 0)), (1, .int x1)]) hx hb d_M_freeDescriptor_22 hl rfl (by rw [ey1]; rfl) (by decide) rfl (fun ls hl => ?_)
          refine lv_goto (tgt := 2) hx hb d_M_freeDescriptor_25 rfl ?_
          exact ih _ _ _ s0 y1 (lv_sub hl [1, 2, 0] rfl) hV hw
  unfold w_M_freeDescriptor at hw
  refine lv_iload_n hx hb d_M_freeDescriptor_0 rfl (lv_at hl 2 rfl) ?_
  refine lv_istore_n (lv' := [(3, .int x2), (0, .ref (ea E 20 0)), (1, .int x1), (2, .int x2)]) hx hb d_M_freeDescriptor_1 rfl hl (by decide) rfl (fun ls hl => ?_)
  obtain ⟨nn, hw⟩ := hw
  exact L2 nn _ _ _ s0 x2 (lv_sub hl [1, 2, 0] rfl) hV hw
theorem d_M_dup_0 : decode b_M_dup 0 = .ok (.aload_n 0, 1) := by decide +kernel
theorem d_M_dup_1 : decode b_M_dup 1 = .ok (.iload_n 1, 1) := by decide +kernel
theorem d_M_dup_2 : decode b_M_dup 2 = .ok (.iconst 0, 1) := by decide +kernel
theorem d_M_dup_3 : decode b_M_dup 3 = .ok (.invokevirtual 199, 3) := by decide +kernel
theorem d_M_dup_6 : decode b_M_dup 6 = .ok (.istore_n 3, 1) := by decide +kernel
theorem d_M_dup_7 : decode b_M_dup 7 = .ok (.aload_n 0, 1) := by decide +kernel
theorem d_M_dup_8 : decode b_M_dup 8 = .ok (.iload_n 1, 1) := by decide +kernel
theorem d_M_dup_9 : decode b_M_dup 9 = .ok (.iload_n 2, 1) := by decide +kernel
theorem d_M_dup_10 : decode b_M_dup 10 = .ok (.invokevirtual 116, 3) := by decide +kernel
theorem d_M_dup_13 : decode b_M_dup 13 = .ok (.ifCond .eq 9, 3) := by decide +kernel
theorem d_M_dup_16 : decode b_M_dup 16 = .ok (.iload_n 3, 1) := by decide +kernel
theorem d_M_dup_17 : decode b_M_dup 17 = .ok (.bipush 8, 2) := by decide +kernel
theorem d_M_dup_19 : decode b_M_dup 19 = .ok (.if_icmp .lt 10, 3) := by decide +kernel
theorem d_M_dup_22 : decode b_M_dup 22 = .ok (.aload_n 0, 1) := by decide +kernel
theorem d_M_dup_23 : decode b_M_dup 23 = .ok (.iload_n 1, 1) := by decide +kernel
theorem d_M_dup_24 : decode b_M_dup 24 = .ok (.iconst (-1), 1) := by decide +kernel
theorem d_M_dup_25 : decode b_M_dup 25 = .ok (.invokevirtual 155, 3) := by decide +kernel
theorem d_M_dup_28 : decode b_M_dup 28 = .ok (.return_, 1) := by decide +kernel
theorem d_M_dup_29 : decode b_M_dup 29 = .ok (.aload_n 0, 1) := by decide +kernel
theorem d_M_dup_30 : decode b_M_dup 30 = .ok (.getfield 28, 3) := by decide +kernel
theorem d_M_dup_33 : decode b_M_dup 33 = .ok (.bipush 8, 2) := by decide +kernel
theorem d_M_dup_35 : decode b_M_dup 35 = .ok (.iload_n 1, 1) := by decide +kernel
theorem d_M_dup_36 : decode b_M_dup 36 = .ok (.imul, 1) := by decide +kernel
theorem d_M_dup_37 : decode b_M_dup 37 = .ok (.iload_n 3, 1) := by decide +kernel
theorem d_M_dup_38 : decode b_M_dup 38 = .ok (.iadd, 1) := by decide +kernel
theorem d_M_dup_39 : decode b_M_dup 39 = .ok (.aload_n 0, 1) := by decide +kernel
theorem d_M_dup_40 : decode b_M_dup 40 = .ok (.iload_n 1, 1) := by decide +kernel
theorem d_M_dup_41 : decode b_M_dup 41 = .ok (.iload_n 2, 1) := by decide +kernel
theorem d_M_dup_42 : decode b_M_dup 42 = .ok (.invokevirtual 116, 3) := by decide +kernel
theorem d_M_dup_45 : decode b_M_dup 45 = .ok (.iastore, 1) := by decide +kernel
theorem d_M_dup_46 : decode b_M_dup 46 = .ok (.aload_n 0, 1) := by decide +kernel
theorem d_M_dup_47 : decode b_M_dup 47 = .ok (.iload_n 1, 1) := by decide +kernel
theorem d_M_dup_48 : decode b_M_dup 48 = .ok (.iload_n 3, 1) := by decide +kernel
theorem d_M_dup_49 : decode b_M_dup 49 = .ok (.invokevirtual 155, 3) := by decide +kernel
theorem d_M_dup_52 : decode b_M_dup 52 = .ok (.return_, 1) := by decide +kernel
def w_M_dup_22 (x1 : Int32) (x2 : Int32) (Φ : KS → Prop) (s0 : KS) : Prop := w_M_push x1 (-1 : Int32) s0 (fun s1 => Φ s1)
def w_M_dup (x1 : Int32) (x2 : Int32) (s0 : KS) (Φ : KS → Prop) : Prop := w_M_freeDescriptor x1 (0 : Int32) s0 (fun r2 s1 => w_M_descriptorOf x1 x2 s1 (fun r4 s3 => ((r4 = 0 → w_M_dup_22 x1 x2 Φ s3) ∧ (¬ r4 = 0 → ((r2 < (8 : Int32) → w_M_descriptorOf x1 x2 s3 (fun r6 s5 => vp_in (((8 : Int32) * x1) + r2) 128 ∧ ∀ s7 : KS, s7 = w3 s5 31 0 (((8 : Int32) * x1) + r2).toNatClampNeg r6 → w_M_push x1 r2 s7 (fun s8 => Φ s8))) ∧ (¬ r2 < (8 : Int32) → w_M_dup_22 x1 x2 Φ s3))))))
set_option maxHeartbeats 4000000 in
set_option maxRecDepth 100000 in
theorem c_M_dup (l : Launch) (E : gE) (s0 : KS) (x1 : Int32) (x2 : Int32) (Φ : KS → Prop) (hw : w_M_dup x1 x2 s0 Φ) : gMv l y_M_dup v_M_dup m_M_dup E MM [.ref (ea E 20 0), .int x1, .int x2] s0 Φ := by
  intro sz
  refine Met.ofW (cc := b_M_dup) (maxL := 4) (ret := none) (by decide) rfl ?_
  intro p e s m args below meth c s₁ B hml hv
  obtain ⟨rfl, hsz, hP, hK, hD, hX⟩ := hv
  have hx := B.exec
  have hb := B.bytes
  have hr := B.returns
  have hts := atoms_spec (ws := v_M_dup) B.pre
  have hG : ∀ w ∈ gG, w.before _ s = true := fun w h => hts w (List.mem_cons_of_mem _ h)
  have hown : s.vm.findClass R_M = some m.cls := findClass_of_methodNamed B.named
  have hlocks := B.notSynchronized
  subst hsz
  obtain ⟨A, hAe⟩ : ∃ A, A = gA E MM s.heap.size := ⟨_, rfl⟩
  rw [← hAe] at hD hX ⊢
  have hV : gV E MM A s0 s s.heap [] := ⟨hP, hD, va_S.rf⟩
  have hl := lv_entry ([.ref (ea E 20 0), .int x1, .int x2] : List Value) (n := 4) (Nat.le_of_ble_eq_true rfl)
  rw [lg_entry_eq]
  generalize (lg_sl ([.ref (ea E 20 0), .int x1, .int x2] : List Value) ++ List.replicate (4 - (lg_sl ([.ref (ea E 20 0), .int x1, .int x2] : List Value)).length) Slot.unset).toArray = ls at hl ⊢
  have hl : lv_has ls 4 [(0, .ref (ea E 20 0)), (1, .int x1), (2, .int x2)] := hl
  have J22 : ∀ (ls : Array Slot) (H : Heap) (locs : List Loc) (s0 : KS), lv_has ls 4 [(0, .ref (ea E 20 0)), (1, .int x1)] → gV E MM A s0 s H locs → w_M_dup_22 x1 x2 Φ s0 → W p l e m_M_dup s m ([.ref (ea E 20 0), .int x1, .int x2] : List Value).toArray below meth c H locs 0 0 (MQ below (gQv E MM A Φ) ([.ref (ea E 20 0), .int x1, .int x2] : List Value).toArray s 0 0 A) (F0 m 22 ls []) := by
    intro  ls H locs s0 hl hV hw
    unfold w_M_dup_22 at hw
    refine lv_aload_n hx hb d_M_dup_22 rfl (lv_at hl 0 rfl) ?_
    refine lv_iload_n hx hb d_M_dup_23 rfl (lv_at hl 1 rfl) ?_
    refine lv_iconst (v := -1) hx hb d_M_dup_24 (by decide) ?_
    refine kc_M_M_push hx hb hml hown hts hV hK hX hAe (c_M_push l E s0 x1 (-1 : Int32) _ hw) hl.1 (Nat.le_of_ble_eq_true rfl) d_M_dup_25 (Nat.le_of_ble_eq_true rfl) (Nat.le_of_ble_eq_true rfl) (fun s1 H locs hw hV => ?_)
    exact kr_v hx hb hr hV hK hX hAe hw d_M_dup_28
  unfold w_M_dup at hw
  refine lv_aload_n hx hb d_M_dup_0 rfl (lv_at hl 0 rfl) ?_
  refine lv_iload_n hx hb d_M_dup_1 rfl (lv_at hl 1 rfl) ?_
  refine lv_iconst (v := 0) hx hb d_M_dup_2 (by decide) ?_
  refine kc_M_M_freeDescriptor hx hb hml hown hts hV hK hX hAe (c_M_freeDescriptor l E s0 x1 (0 : Int32) _ hw) hl.1 (Nat.le_of_ble_eq_true rfl) d_M_dup_3 (Nat.le_of_ble_eq_true rfl) (Nat.le_of_ble_eq_true rfl) (fun r2 s1 H locs hw hV => ?_)
  refine lv_istore_n (lv' := [(3, .int r2), (0, .ref (ea E 20 0)), (1, .int x1), (2, .int x2)]) hx hb d_M_dup_6 rfl hl (by decide) rfl (fun ls hl => ?_)
  refine lv_aload_n hx hb d_M_dup_7 rfl (lv_at hl 1 rfl) ?_
  refine lv_iload_n hx hb d_M_dup_8 rfl (lv_at hl 2 rfl) ?_
  refine lv_iload_n hx hb d_M_dup_9 rfl (lv_at hl 3 rfl) ?_
  refine kc_M_M_descriptorOf hx hb hml hown hts hV hK hX hAe (c_M_descriptorOf l E s1 x1 x2 _ hw) hl.1 (Nat.le_of_ble_eq_true rfl) d_M_dup_10 (Nat.le_of_ble_eq_true rfl) (Nat.le_of_ble_eq_true rfl) (fun r4 s3 H locs hw hV => ?_)
  refine lv_if_eq (tgt := 22) hx hb d_M_dup_13 rfl (fun hc => ?_) (fun hc => ?_)
  · have hw := hw.1 hc
    exact J22 _ _ _ s3 (lv_sub hl [1, 2] rfl) hV hw
  · have hw := hw.2 hc
    refine lv_iload_n hx hb d_M_dup_16 rfl (lv_at hl 0 rfl) ?_
    refine lv_bipush (v := 8) hx hb d_M_dup_17 (by decide) ?_
    refine lv_icmp_lt (tgt := 29) hx hb d_M_dup_19 rfl (fun hc => ?_) (fun hc => ?_)
    · have hw := hw.1 hc
      refine lv_aload_n hx hb d_M_dup_29 rfl (lv_at hl 1 rfl) ?_
      refine kg_M_M_descriptors hx hb hG hown hK hV d_M_dup_30 ?_
      refine lv_bipush (v := 8) hx hb d_M_dup_33 (by decide) ?_
      refine lv_iload_n hx hb d_M_dup_35 rfl (lv_at hl 2 rfl) ?_
      refine lv_imul hx hb d_M_dup_36 ?_
      refine lv_iload_n hx hb d_M_dup_37 rfl (lv_at hl 0 rfl) ?_
      refine lv_iadd hx hb d_M_dup_38 ?_
      refine lv_aload_n hx hb d_M_dup_39 rfl (lv_at hl 1 rfl) ?_
      refine lv_iload_n hx hb d_M_dup_40 rfl (lv_at hl 2 rfl) ?_
      refine lv_iload_n hx hb d_M_dup_41 rfl (lv_at hl 3 rfl) ?_
      refine kc_M_M_descriptorOf hx hb hml hown hts hV hK hX hAe (c_M_descriptorOf l E s3 x1 x2 _ hw) hl.1 (Nat.le_of_ble_eq_true rfl) d_M_dup_42 (Nat.le_of_ble_eq_true rfl) (Nat.le_of_ble_eq_true rfl) (fun r6 s5 H locs hw hV => ?_)
      refine ks_31 hx hb hK hV hw.1 d_M_dup_45 (fun s7 H locs es7 hV => ?_)
      have hw := hw.2 s7 es7
      refine lv_aload_n hx hb d_M_dup_46 rfl (lv_at hl 1 rfl) ?_
      refine lv_iload_n hx hb d_M_dup_47 rfl (lv_at hl 2 rfl) ?_
      refine lv_iload_n hx hb d_M_dup_48 rfl (lv_at hl 0 rfl) ?_
      refine kc_M_M_push hx hb hml hown hts hV hK hX hAe (c_M_push l E s7 x1 r2 _ hw) hl.1 (Nat.le_of_ble_eq_true rfl) d_M_dup_49 (Nat.le_of_ble_eq_true rfl) (Nat.le_of_ble_eq_true rfl) (fun s8 H locs hw hV => ?_)
      exact kr_v hx hb hr hV hK hX hAe hw d_M_dup_52
    · have hw := hw.2 hc
      exact J22 _ _ _ s3 (lv_sub hl [1, 2] rfl) hV hw
theorem d_M_fork_0 : decode b_M_fork 0 = .ok (.iconst 0, 1) := by decide +kernel
theorem d_M_fork_1 : decode b_M_fork 1 = .ok (.istore_n 2, 1) := by decide +kernel
theorem d_M_fork_2 : decode b_M_fork 2 = .ok (.iload_n 2, 1) := by decide +kernel
theorem d_M_fork_3 : decode b_M_fork 3 = .ok (.bipush 16, 2) := by decide +kernel
theorem d_M_fork_5 : decode b_M_fork 5 = .ok (.if_icmp .ge 18, 3) := by decide +kernel
theorem d_M_fork_8 : decode b_M_fork 8 = .ok (.aload_n 0, 1) := by decide +kernel
theorem d_M_fork_9 : decode b_M_fork 9 = .ok (.getfield 13, 3) := by decide +kernel
theorem d_M_fork_12 : decode b_M_fork 12 = .ok (.iload_n 2, 1) := by decide +kernel
theorem d_M_fork_13 : decode b_M_fork 13 = .ok (.iaload, 1) := by decide +kernel
theorem d_M_fork_14 : decode b_M_fork 14 = .ok (.ifCond .eq 9, 3) := by decide +kernel
theorem d_M_fork_17 : decode b_M_fork 17 = .ok (.iinc 2 1, 3) := by decide +kernel
theorem d_M_fork_20 : decode b_M_fork 20 = .ok (.goto (-18), 3) := by decide +kernel
theorem d_M_fork_23 : decode b_M_fork 23 = .ok (.iload_n 2, 1) := by decide +kernel
theorem d_M_fork_24 : decode b_M_fork 24 = .ok (.bipush 16, 2) := by decide +kernel
theorem d_M_fork_26 : decode b_M_fork 26 = .ok (.if_icmp .ne 10, 3) := by decide +kernel
theorem d_M_fork_29 : decode b_M_fork 29 = .ok (.aload_n 0, 1) := by decide +kernel
theorem d_M_fork_30 : decode b_M_fork 30 = .ok (.iload_n 1, 1) := by decide +kernel
theorem d_M_fork_31 : decode b_M_fork 31 = .ok (.iconst (-1), 1) := by decide +kernel
theorem d_M_fork_32 : decode b_M_fork 32 = .ok (.invokevirtual 155, 3) := by decide +kernel
theorem d_M_fork_35 : decode b_M_fork 35 = .ok (.return_, 1) := by decide +kernel
theorem d_M_fork_36 : decode b_M_fork 36 = .ok (.iconst 0, 1) := by decide +kernel
theorem d_M_fork_37 : decode b_M_fork 37 = .ok (.istore_n 3, 1) := by decide +kernel
theorem d_M_fork_38 : decode b_M_fork 38 = .ok (.iload_n 3, 1) := by decide +kernel
theorem d_M_fork_39 : decode b_M_fork 39 = .ok (.sipush 128, 3) := by decide +kernel
theorem d_M_fork_42 : decode b_M_fork 42 = .ok (.if_icmp .ge 33, 3) := by decide +kernel
theorem d_M_fork_45 : decode b_M_fork 45 = .ok (.aload_n 0, 1) := by decide +kernel
theorem d_M_fork_46 : decode b_M_fork 46 = .ok (.getfield 16, 3) := by decide +kernel
theorem d_M_fork_49 : decode b_M_fork 49 = .ok (.sipush 128, 3) := by decide +kernel
theorem d_M_fork_52 : decode b_M_fork 52 = .ok (.iload_n 2, 1) := by decide +kernel
theorem d_M_fork_53 : decode b_M_fork 53 = .ok (.imul, 1) := by decide +kernel
theorem d_M_fork_54 : decode b_M_fork 54 = .ok (.iload_n 3, 1) := by decide +kernel
theorem d_M_fork_55 : decode b_M_fork 55 = .ok (.iadd, 1) := by decide +kernel
theorem d_M_fork_56 : decode b_M_fork 56 = .ok (.aload_n 0, 1) := by decide +kernel
theorem d_M_fork_57 : decode b_M_fork 57 = .ok (.getfield 16, 3) := by decide +kernel
theorem d_M_fork_60 : decode b_M_fork 60 = .ok (.sipush 128, 3) := by decide +kernel
theorem d_M_fork_63 : decode b_M_fork 63 = .ok (.iload_n 1, 1) := by decide +kernel
theorem d_M_fork_64 : decode b_M_fork 64 = .ok (.imul, 1) := by decide +kernel
theorem d_M_fork_65 : decode b_M_fork 65 = .ok (.iload_n 3, 1) := by decide +kernel
theorem d_M_fork_66 : decode b_M_fork 66 = .ok (.iadd, 1) := by decide +kernel
theorem d_M_fork_67 : decode b_M_fork 67 = .ok (.iaload, 1) := by decide +kernel
theorem d_M_fork_68 : decode b_M_fork 68 = .ok (.iastore, 1) := by decide +kernel
theorem d_M_fork_69 : decode b_M_fork 69 = .ok (.iinc 3 1, 3) := by decide +kernel
theorem d_M_fork_72 : decode b_M_fork 72 = .ok (.goto (-34), 3) := by decide +kernel
theorem d_M_fork_75 : decode b_M_fork 75 = .ok (.iconst 0, 1) := by decide +kernel
theorem d_M_fork_76 : decode b_M_fork 76 = .ok (.istore_n 3, 1) := by decide +kernel
theorem d_M_fork_77 : decode b_M_fork 77 = .ok (.iload_n 3, 1) := by decide +kernel
theorem d_M_fork_78 : decode b_M_fork 78 = .ok (.aload_n 0, 1) := by decide +kernel
theorem d_M_fork_79 : decode b_M_fork 79 = .ok (.getfield 22, 3) := by decide +kernel
theorem d_M_fork_82 : decode b_M_fork 82 = .ok (.iload_n 1, 1) := by decide +kernel
theorem d_M_fork_83 : decode b_M_fork 83 = .ok (.iaload, 1) := by decide +kernel
theorem d_M_fork_84 : decode b_M_fork 84 = .ok (.if_icmp .ge 31, 3) := by decide +kernel
theorem d_M_fork_87 : decode b_M_fork 87 = .ok (.aload_n 0, 1) := by decide +kernel
theorem d_M_fork_88 : decode b_M_fork 88 = .ok (.getfield 19, 3) := by decide +kernel
theorem d_M_fork_91 : decode b_M_fork 91 = .ok (.bipush 64, 2) := by decide +kernel
theorem d_M_fork_93 : decode b_M_fork 93 = .ok (.iload_n 2, 1) := by decide +kernel
theorem d_M_fork_94 : decode b_M_fork 94 = .ok (.imul, 1) := by decide +kernel
theorem d_M_fork_95 : decode b_M_fork 95 = .ok (.iload_n 3, 1) := by decide +kernel
theorem d_M_fork_96 : decode b_M_fork 96 = .ok (.iadd, 1) := by decide +kernel
theorem d_M_fork_97 : decode b_M_fork 97 = .ok (.aload_n 0, 1) := by decide +kernel
theorem d_M_fork_98 : decode b_M_fork 98 = .ok (.getfield 19, 3) := by decide +kernel
theorem d_M_fork_101 : decode b_M_fork 101 = .ok (.bipush 64, 2) := by decide +kernel
theorem d_M_fork_103 : decode b_M_fork 103 = .ok (.iload_n 1, 1) := by decide +kernel
theorem d_M_fork_104 : decode b_M_fork 104 = .ok (.imul, 1) := by decide +kernel
theorem d_M_fork_105 : decode b_M_fork 105 = .ok (.iload_n 3, 1) := by decide +kernel
theorem d_M_fork_106 : decode b_M_fork 106 = .ok (.iadd, 1) := by decide +kernel
theorem d_M_fork_107 : decode b_M_fork 107 = .ok (.iaload, 1) := by decide +kernel
theorem d_M_fork_108 : decode b_M_fork 108 = .ok (.iastore, 1) := by decide +kernel
theorem d_M_fork_109 : decode b_M_fork 109 = .ok (.iinc 3 1, 3) := by decide +kernel
theorem d_M_fork_112 : decode b_M_fork 112 = .ok (.goto (-35), 3) := by decide +kernel
theorem d_M_fork_115 : decode b_M_fork 115 = .ok (.iconst 0, 1) := by decide +kernel
theorem d_M_fork_116 : decode b_M_fork 116 = .ok (.istore_n 3, 1) := by decide +kernel
theorem d_M_fork_117 : decode b_M_fork 117 = .ok (.iload_n 3, 1) := by decide +kernel
theorem d_M_fork_118 : decode b_M_fork 118 = .ok (.bipush 8, 2) := by decide +kernel
theorem d_M_fork_120 : decode b_M_fork 120 = .ok (.if_icmp .ge 31, 3) := by decide +kernel
theorem d_M_fork_123 : decode b_M_fork 123 = .ok (.aload_n 0, 1) := by decide +kernel
theorem d_M_fork_124 : decode b_M_fork 124 = .ok (.getfield 28, 3) := by decide +kernel
theorem d_M_fork_127 : decode b_M_fork 127 = .ok (.bipush 8, 2) := by decide +kernel
theorem d_M_fork_129 : decode b_M_fork 129 = .ok (.iload_n 2, 1) := by decide +kernel
theorem d_M_fork_130 : decode b_M_fork 130 = .ok (.imul, 1) := by decide +kernel
theorem d_M_fork_131 : decode b_M_fork 131 = .ok (.iload_n 3, 1) := by decide +kernel
theorem d_M_fork_132 : decode b_M_fork 132 = .ok (.iadd, 1) := by decide +kernel
theorem d_M_fork_133 : decode b_M_fork 133 = .ok (.aload_n 0, 1) := by decide +kernel
theorem d_M_fork_134 : decode b_M_fork 134 = .ok (.getfield 28, 3) := by decide +kernel
theorem d_M_fork_137 : decode b_M_fork 137 = .ok (.bipush 8, 2) := by decide +kernel
theorem d_M_fork_139 : decode b_M_fork 139 = .ok (.iload_n 1, 1) := by decide +kernel
theorem d_M_fork_140 : decode b_M_fork 140 = .ok (.imul, 1) := by decide +kernel
theorem d_M_fork_141 : decode b_M_fork 141 = .ok (.iload_n 3, 1) := by decide +kernel
theorem d_M_fork_142 : decode b_M_fork 142 = .ok (.iadd, 1) := by decide +kernel
theorem d_M_fork_143 : decode b_M_fork 143 = .ok (.iaload, 1) := by decide +kernel
theorem d_M_fork_144 : decode b_M_fork 144 = .ok (.iastore, 1) := by decide +kernel
theorem d_M_fork_145 : decode b_M_fork 145 = .ok (.iinc 3 1, 3) := by decide +kernel
theorem d_M_fork_148 : decode b_M_fork 148 = .ok (.goto (-31), 3) := by decide +kernel
theorem d_M_fork_151 : decode b_M_fork 151 = .ok (.aload_n 0, 1) := by decide +kernel
theorem d_M_fork_152 : decode b_M_fork 152 = .ok (.getfield 22, 3) := by decide +kernel
theorem d_M_fork_155 : decode b_M_fork 155 = .ok (.iload_n 2, 1) := by decide +kernel
theorem d_M_fork_156 : decode b_M_fork 156 = .ok (.aload_n 0, 1) := by decide +kernel
theorem d_M_fork_157 : decode b_M_fork 157 = .ok (.getfield 22, 3) := by decide +kernel
theorem d_M_fork_160 : decode b_M_fork 160 = .ok (.iload_n 1, 1) := by decide +kernel
theorem d_M_fork_161 : decode b_M_fork 161 = .ok (.iaload, 1) := by decide +kernel
theorem d_M_fork_162 : decode b_M_fork 162 = .ok (.iastore, 1) := by decide +kernel
theorem d_M_fork_163 : decode b_M_fork 163 = .ok (.aload_n 0, 1) := by decide +kernel
theorem d_M_fork_164 : decode b_M_fork 164 = .ok (.getfield 25, 3) := by decide +kernel
theorem d_M_fork_167 : decode b_M_fork 167 = .ok (.iload_n 2, 1) := by decide +kernel
theorem d_M_fork_168 : decode b_M_fork 168 = .ok (.aload_n 0, 1) := by decide +kernel
theorem d_M_fork_169 : decode b_M_fork 169 = .ok (.getfield 25, 3) := by decide +kernel
theorem d_M_fork_172 : decode b_M_fork 172 = .ok (.iload_n 1, 1) := by decide +kernel
theorem d_M_fork_173 : decode b_M_fork 173 = .ok (.iaload, 1) := by decide +kernel
theorem d_M_fork_174 : decode b_M_fork 174 = .ok (.iastore, 1) := by decide +kernel
theorem d_M_fork_175 : decode b_M_fork 175 = .ok (.aload_n 0, 1) := by decide +kernel
theorem d_M_fork_176 : decode b_M_fork 176 = .ok (.getfield 31, 3) := by decide +kernel
theorem d_M_fork_179 : decode b_M_fork 179 = .ok (.iload_n 2, 1) := by decide +kernel
theorem d_M_fork_180 : decode b_M_fork 180 = .ok (.iload_n 1, 1) := by decide +kernel
theorem d_M_fork_181 : decode b_M_fork 181 = .ok (.iastore, 1) := by decide +kernel
theorem d_M_fork_182 : decode b_M_fork 182 = .ok (.aload_n 0, 1) := by decide +kernel
theorem d_M_fork_183 : decode b_M_fork 183 = .ok (.getfield 34, 3) := by decide +kernel
theorem d_M_fork_186 : decode b_M_fork 186 = .ok (.iload_n 2, 1) := by decide +kernel
theorem d_M_fork_187 : decode b_M_fork 187 = .ok (.iconst 0, 1) := by decide +kernel
theorem d_M_fork_188 : decode b_M_fork 188 = .ok (.iastore, 1) := by decide +kernel
theorem d_M_fork_189 : decode b_M_fork 189 = .ok (.aload_n 0, 1) := by decide +kernel
theorem d_M_fork_190 : decode b_M_fork 190 = .ok (.iload_n 1, 1) := by decide +kernel
theorem d_M_fork_191 : decode b_M_fork 191 = .ok (.iload_n 2, 1) := by decide +kernel
theorem d_M_fork_192 : decode b_M_fork 192 = .ok (.invokevirtual 155, 3) := by decide +kernel
theorem d_M_fork_195 : decode b_M_fork 195 = .ok (.aload_n 0, 1) := by decide +kernel
theorem d_M_fork_196 : decode b_M_fork 196 = .ok (.iload_n 2, 1) := by decide +kernel
theorem d_M_fork_197 : decode b_M_fork 197 = .ok (.iconst 0, 1) := by decide +kernel
theorem d_M_fork_198 : decode b_M_fork 198 = .ok (.invokevirtual 155, 3) := by decide +kernel
theorem d_M_fork_201 : decode b_M_fork 201 = .ok (.aload_n 0, 1) := by decide +kernel
theorem d_M_fork_202 : decode b_M_fork 202 = .ok (.iload_n 2, 1) := by decide +kernel
theorem d_M_fork_203 : decode b_M_fork 203 = .ok (.invokevirtual 75, 3) := by decide +kernel
theorem d_M_fork_206 : decode b_M_fork 206 = .ok (.return_, 1) := by decide +kernel
def w_M_fork_117 (x1 : Int32) (Φ : KS → Prop) : Nat → Int32 → Int32 → KS → Prop
  | 0, _, _, _ => False
  | n + 1, v2, v3, s0 => (((8 : Int32) ≤ v3 → vp_in x1 16 ∧ vp_in v2 16 ∧ ∀ s1 : KS, s1 = w3 s0 29 0 v2.toNatClampNeg (s0 29 0 x1.toNatClampNeg) → vp_in x1 16 ∧ vp_in v2 16 ∧ ∀ s2 : KS, s2 = w3 s1 30 0 v2.toNatClampNeg (s1 30 0 x1.toNatClampNeg) → vp_in v2 16 ∧ ∀ s3 : KS, s3 = w3 s2 32 0 v2.toNatClampNeg x1 → vp_in v2 16 ∧ ∀ s4 : KS, s4 = w3 s3 33 0 v2.toNatClampNeg (0 : Int32) → w_M_push x1 v2 s4 (fun s5 => w_M_push v2 (0 : Int32) s5 (fun s6 => w_M_ready v2 s6 (fun s7 => Φ s7)))) ∧ (¬ (8 : Int32) ≤ v3 → vp_in (((8 : Int32) * x1) + v3) 128 ∧ vp_in (((8 : Int32) * v2) + v3) 128 ∧ ∀ s8 : KS, s8 = w3 s0 31 0 (((8 : Int32) * v2) + v3).toNatClampNeg (s0 31 0 (((8 : Int32) * x1) + v3).toNatClampNeg) → ∀ y9 : Int32, y9 = v3 + (1 : Int32) → w_M_fork_117 x1 Φ n v2 y9 s8))
def w_M_fork_77 (x1 : Int32) (Φ : KS → Prop) : Nat → Int32 → Int32 → KS → Prop
  | 0, _, _, _ => False
  | n + 1, v2, v3, s0 => vp_in x1 16 ∧ (((s0 29 0 x1.toNatClampNeg) ≤ v3 → ∃ nn : Nat, w_M_fork_117 x1 Φ nn v2 (0 : Int32) s0) ∧ (¬ (s0 29 0 x1.toNatClampNeg) ≤ v3 → vp_in (((64 : Int32) * x1) + v3) 1024 ∧ vp_in (((64 : Int32) * v2) + v3) 1024 ∧ ∀ s1 : KS, s1 = w3 s0 28 0 (((64 : Int32) * v2) + v3).toNatClampNeg (s0 28 0 (((64 : Int32) * x1) + v3).toNatClampNeg) → ∀ y2 : Int32, y2 = v3 + (1 : Int32) → w_M_fork_77 x1 Φ n v2 y2 s1))
def w_M_fork_38 (x1 : Int32) (Φ : KS → Prop) : Nat → Int32 → Int32 → KS → Prop
  | 0, _, _, _ => False
  | n + 1, v2, v3, s0 => (((128 : Int32) ≤ v3 → ∃ nn : Nat, w_M_fork_77 x1 Φ nn v2 (0 : Int32) s0) ∧ (¬ (128 : Int32) ≤ v3 → vp_in (((128 : Int32) * x1) + v3) 2048 ∧ vp_in (((128 : Int32) * v2) + v3) 2048 ∧ ∀ s1 : KS, s1 = w3 s0 27 0 (((128 : Int32) * v2) + v3).toNatClampNeg (s0 27 0 (((128 : Int32) * x1) + v3).toNatClampNeg) → ∀ y2 : Int32, y2 = v3 + (1 : Int32) → w_M_fork_38 x1 Φ n v2 y2 s1))
def w_M_fork_23 (x1 : Int32) (Φ : KS → Prop) (v2 : Int32) (s0 : KS) : Prop := ((¬ v2 = (16 : Int32) → ∃ nn : Nat, w_M_fork_38 x1 Φ nn v2 (0 : Int32) s0) ∧ (v2 = (16 : Int32) → w_M_push x1 (-1 : Int32) s0 (fun s1 => Φ s1)))
def w_M_fork_2 (x1 : Int32) (Φ : KS → Prop) : Nat → Int32 → KS → Prop
  | 0, _, _ => False
  | n + 1, v2, s0 => (((16 : Int32) ≤ v2 → w_M_fork_23 x1 Φ v2 s0) ∧ (¬ (16 : Int32) ≤ v2 → vp_in v2 16 ∧ (((s0 26 0 v2.toNatClampNeg) = 0 → w_M_fork_23 x1 Φ v2 s0) ∧ (¬ (s0 26 0 v2.toNatClampNeg) = 0 → ∀ y1 : Int32, y1 = v2 + (1 : Int32) → w_M_fork_2 x1 Φ n y1 s0))))
def w_M_fork (x1 : Int32) (s0 : KS) (Φ : KS → Prop) : Prop := ∃ nn : Nat, w_M_fork_2 x1 Φ nn (0 : Int32) s0
set_option maxHeartbeats 4000000 in
set_option maxRecDepth 100000 in
theorem c_M_fork (l : Launch) (E : gE) (s0 : KS) (x1 : Int32) (Φ : KS → Prop) (hw : w_M_fork x1 s0 Φ) : gMv l y_M_fork v_M_fork m_M_fork E MM [.ref (ea E 20 0), .int x1] s0 Φ := by
  intro sz
  refine Met.ofW (cc := b_M_fork) (maxL := 4) (ret := none) (by decide) rfl ?_
  intro p e s m args below meth c s₁ B hml hv
  obtain ⟨rfl, hsz, hP, hK, hD, hX⟩ := hv
  have hx := B.exec
  have hb := B.bytes
  have hr := B.returns
  have hts := atoms_spec (ws := v_M_fork) B.pre
  have hG : ∀ w ∈ gG, w.before _ s = true := fun w h => hts w (List.mem_cons_of_mem _ h)
  have hown : s.vm.findClass R_M = some m.cls := findClass_of_methodNamed B.named
  have hlocks := B.notSynchronized
  subst hsz
  obtain ⟨A, hAe⟩ : ∃ A, A = gA E MM s.heap.size := ⟨_, rfl⟩
  rw [← hAe] at hD hX ⊢
  have hV : gV E MM A s0 s s.heap [] := ⟨hP, hD, va_S.rf⟩
  have hl := lv_entry ([.ref (ea E 20 0), .int x1] : List Value) (n := 4) (Nat.le_of_ble_eq_true rfl)
  rw [lg_entry_eq]
  generalize (lg_sl ([.ref (ea E 20 0), .int x1] : List Value) ++ List.replicate (4 - (lg_sl ([.ref (ea E 20 0), .int x1] : List Value)).length) Slot.unset).toArray = ls at hl ⊢
  have hl : lv_has ls 4 [(0, .ref (ea E 20 0)), (1, .int x1)] := hl
  have L117 : ∀ (n : Nat), ∀ (ls : Array Slot) (H : Heap) (locs : List Loc) (s0 : KS) (v2 : Int32) (v3 : Int32), lv_has ls 4 [(0, .ref (ea E 20 0)), (1, .int x1), (2, .int v2), (3, .int v3)] → gV E MM A s0 s H locs → w_M_fork_117 x1 Φ n v2 v3 s0 → W p l e m_M_fork s m ([.ref (ea E 20 0), .int x1] : List Value).toArray below meth c H locs 0 0 (MQ below (gQv E MM A Φ) ([.ref (ea E 20 0), .int x1] : List Value).toArray s 0 0 A) (F0 m 117 ls []) := by
    intro n
    induction n with
    | zero =>
      intro ls H locs s0 v2 v3 hl hV hw
      exact False.elim hw
    | succ n ih =>
      intro ls H locs s0 v2 v3 hl hV hw
      unfold w_M_fork_117 at hw
      refine lv_iload_n hx hb d_M_fork_117 rfl (lv_at hl 3 rfl) ?_
      refine lv_bipush (v := 8) hx hb d_M_fork_118 (by decide) ?_
      refine lv_icmp_ge (tgt := 151) hx hb d_M_fork_120 rfl (fun hc => ?_) (fun hc => ?_)
      · have hw := hw.1 hc
        refine lv_aload_n hx hb d_M_fork_151 rfl (lv_at hl 0 rfl) ?_
        refine kg_M_M_size hx hb hG hown hK hV d_M_fork_152 ?_
        refine lv_iload_n hx hb d_M_fork_155 rfl (lv_at hl 2 rfl) ?_
        refine lv_aload_n hx hb d_M_fork_156 rfl (lv_at hl 0 rfl) ?_
        refine kg_M_M_size hx hb hG hown hK hV d_M_fork_157 ?_
        refine lv_iload_n hx hb d_M_fork_160 rfl (lv_at hl 1 rfl) ?_
        refine kl_29 hx hb hK hV hw.1 d_M_fork_161 ?_
        have hw := hw.2
        refine ks_29 hx hb hK hV hw.1 d_M_fork_162 (fun s1 H locs es1 hV => ?_)
        have hw := hw.2 s1 es1
        refine lv_aload_n hx hb d_M_fork_163 rfl (lv_at hl 0 rfl) ?_
        refine kg_M_M_place hx hb hG hown hK hV d_M_fork_164 ?_
        refine lv_iload_n hx hb d_M_fork_167 rfl (lv_at hl 2 rfl) ?_
        refine lv_aload_n hx hb d_M_fork_168 rfl (lv_at hl 0 rfl) ?_
        refine kg_M_M_place hx hb hG hown hK hV d_M_fork_169 ?_
        refine lv_iload_n hx hb d_M_fork_172 rfl (lv_at hl 1 rfl) ?_
        refine kl_30 hx hb hK hV hw.1 d_M_fork_173 ?_
        have hw := hw.2
        refine ks_30 hx hb hK hV hw.1 d_M_fork_174 (fun s2 H locs es2 hV => ?_)
        have hw := hw.2 s2 es2
        refine lv_aload_n hx hb d_M_fork_175 rfl (lv_at hl 0 rfl) ?_
        refine kg_M_M_parent hx hb hG hown hK hV d_M_fork_176 ?_
        refine lv_iload_n hx hb d_M_fork_179 rfl (lv_at hl 2 rfl) ?_
        refine lv_iload_n hx hb d_M_fork_180 rfl (lv_at hl 1 rfl) ?_
        refine ks_32 hx hb hK hV hw.1 d_M_fork_181 (fun s3 H locs es3 hV => ?_)
        have hw := hw.2 s3 es3
        refine lv_aload_n hx hb d_M_fork_182 rfl (lv_at hl 0 rfl) ?_
        refine kg_M_M_codes hx hb hG hown hK hV d_M_fork_183 ?_
        refine lv_iload_n hx hb d_M_fork_186 rfl (lv_at hl 2 rfl) ?_
        refine lv_iconst (v := 0) hx hb d_M_fork_187 (by decide) ?_
        refine ks_33 hx hb hK hV hw.1 d_M_fork_188 (fun s4 H locs es4 hV => ?_)
        have hw := hw.2 s4 es4
        refine lv_aload_n hx hb d_M_fork_189 rfl (lv_at hl 0 rfl) ?_
        refine lv_iload_n hx hb d_M_fork_190 rfl (lv_at hl 1 rfl) ?_
        refine lv_iload_n hx hb d_M_fork_191 rfl (lv_at hl 2 rfl) ?_
        refine kc_M_M_push hx hb hml hown hts hV hK hX hAe (c_M_push l E s4 x1 v2 _ hw) hl.1 (Nat.le_of_ble_eq_true rfl) d_M_fork_192 (Nat.le_of_ble_eq_true rfl) (Nat.le_of_ble_eq_true rfl) (fun s5 H locs hw hV => ?_)
        refine lv_aload_n hx hb d_M_fork_195 rfl (lv_at hl 0 rfl) ?_
        refine lv_iload_n hx hb d_M_fork_196 rfl (lv_at hl 2 rfl) ?_
        refine lv_iconst (v := 0) hx hb d_M_fork_197 (by decide) ?_
        refine kc_M_M_push hx hb hml hown hts hV hK hX hAe (c_M_push l E s5 v2 (0 : Int32) _ hw) hl.1 (Nat.le_of_ble_eq_true rfl) d_M_fork_198 (Nat.le_of_ble_eq_true rfl) (Nat.le_of_ble_eq_true rfl) (fun s6 H locs hw hV => ?_)
        refine lv_aload_n hx hb d_M_fork_201 rfl (lv_at hl 0 rfl) ?_
        refine lv_iload_n hx hb d_M_fork_202 rfl (lv_at hl 2 rfl) ?_
        refine kc_M_M_ready hx hb hml hown hts hV hK hX hAe (c_M_ready l E s6 v2 _ hw) hl.1 (Nat.le_of_ble_eq_true rfl) d_M_fork_203 (Nat.le_of_ble_eq_true rfl) (Nat.le_of_ble_eq_true rfl) (fun s7 H locs hw hV => ?_)
        exact kr_v hx hb hr hV hK hX hAe hw d_M_fork_206
      · have hw := hw.2 hc
        refine lv_aload_n hx hb d_M_fork_123 rfl (lv_at hl 0 rfl) ?_
        refine kg_M_M_descriptors hx hb hG hown hK hV d_M_fork_124 ?_
        refine lv_bipush (v := 8) hx hb d_M_fork_127 (by decide) ?_
        refine lv_iload_n hx hb d_M_fork_129 rfl (lv_at hl 2 rfl) ?_
        refine lv_imul hx hb d_M_fork_130 ?_
        refine lv_iload_n hx hb d_M_fork_131 rfl (lv_at hl 3 rfl) ?_
        refine lv_iadd hx hb d_M_fork_132 ?_
        refine lv_aload_n hx hb d_M_fork_133 rfl (lv_at hl 0 rfl) ?_
        refine kg_M_M_descriptors hx hb hG hown hK hV d_M_fork_134 ?_
        refine lv_bipush (v := 8) hx hb d_M_fork_137 (by decide) ?_
        refine lv_iload_n hx hb d_M_fork_139 rfl (lv_at hl 1 rfl) ?_
        refine lv_imul hx hb d_M_fork_140 ?_
        refine lv_iload_n hx hb d_M_fork_141 rfl (lv_at hl 3 rfl) ?_
        refine lv_iadd hx hb d_M_fork_142 ?_
        refine kl_31 hx hb hK hV hw.1 d_M_fork_143 ?_
        have hw := hw.2
        refine ks_31 hx hb hK hV hw.1 d_M_fork_144 (fun s8 H locs es8 hV => ?_)
        have hw := hw.2 s8 es8
        obtain ⟨y9, ey9⟩ : ∃ z : Int32, z = v3 + (1 : Int32) := ⟨_, rfl⟩
        have hw := hw y9 ey9
        refine lv_iinc (k := 3) (v := y9) (lv' := [(3, .int y9), (0, .ref (ea E 20 0)), (1, .int x1), (2, .int v2)]) hx hb d_M_fork_145 hl rfl (by rw [ey9]; rfl) (by decide) rfl (fun ls hl => ?_)
        refine lv_goto (tgt := 117) hx hb d_M_fork_148 rfl ?_
        exact ih _ _ _ s8 v2 y9 (lv_sub hl [1, 2, 3, 0] rfl) hV hw
  have L77 : ∀ (n : Nat), ∀ (ls : Array Slot) (H : Heap) (locs : List Loc) (s0 : KS) (v2 : Int32) (v3 : Int32), lv_has ls 4 [(0, .ref (ea E 20 0)), (1, .int x1), (2, .int v2), (3, .int v3)] → gV E MM A s0 s H locs → w_M_fork_77 x1 Φ n v2 v3 s0 → W p l e m_M_fork s m ([.ref (ea E 20 0), .int x1] : List Value).toArray below meth c H locs 0 0 (MQ below (gQv E MM A Φ) ([.ref (ea E 20 0), .int x1] : List Value).toArray s 0 0 A) (F0 m 77 ls []) := by
    intro n
    induction n with
    | zero =>
      intro ls H locs s0 v2 v3 hl hV hw
      exact False.elim hw
    | succ n ih =>
      intro ls H locs s0 v2 v3 hl hV hw
      unfold w_M_fork_77 at hw
      refine lv_iload_n hx hb d_M_fork_77 rfl (lv_at hl 3 rfl) ?_
      refine lv_aload_n hx hb d_M_fork_78 rfl (lv_at hl 0 rfl) ?_
      refine kg_M_M_size hx hb hG hown hK hV d_M_fork_79 ?_
      refine lv_iload_n hx hb d_M_fork_82 rfl (lv_at hl 1 rfl) ?_
      refine kl_29 hx hb hK hV hw.1 d_M_fork_83 ?_
      have hw := hw.2
      refine lv_icmp_ge (tgt := 115) hx hb d_M_fork_84 rfl (fun hc => ?_) (fun hc => ?_)
      · have hw := hw.1 hc
        refine lv_iconst (v := 0) hx hb d_M_fork_115 (by decide) ?_
        refine lv_istore_n (lv' := [(3, .int (0 : Int32)), (0, .ref (ea E 20 0)), (1, .int x1), (2, .int v2)]) hx hb d_M_fork_116 rfl hl (by decide) rfl (fun ls hl => ?_)
        obtain ⟨nn, hw⟩ := hw
        exact L117 nn _ _ _ s0 v2 (0 : Int32) (lv_sub hl [1, 2, 3, 0] rfl) hV hw
      · have hw := hw.2 hc
        refine lv_aload_n hx hb d_M_fork_87 rfl (lv_at hl 0 rfl) ?_
        refine kg_M_M_stack hx hb hG hown hK hV d_M_fork_88 ?_
        refine lv_bipush (v := 64) hx hb d_M_fork_91 (by decide) ?_
        refine lv_iload_n hx hb d_M_fork_93 rfl (lv_at hl 2 rfl) ?_
        refine lv_imul hx hb d_M_fork_94 ?_
        refine lv_iload_n hx hb d_M_fork_95 rfl (lv_at hl 3 rfl) ?_
        refine lv_iadd hx hb d_M_fork_96 ?_
        refine lv_aload_n hx hb d_M_fork_97 rfl (lv_at hl 0 rfl) ?_
        refine kg_M_M_stack hx hb hG hown hK hV d_M_fork_98 ?_
        refine lv_bipush (v := 64) hx hb d_M_fork_101 (by decide) ?_
        refine lv_iload_n hx hb d_M_fork_103 rfl (lv_at hl 1 rfl) ?_
        refine lv_imul hx hb d_M_fork_104 ?_
        refine lv_iload_n hx hb d_M_fork_105 rfl (lv_at hl 3 rfl) ?_
        refine lv_iadd hx hb d_M_fork_106 ?_
        refine kl_28 hx hb hK hV hw.1 d_M_fork_107 ?_
        have hw := hw.2
        refine ks_28 hx hb hK hV hw.1 d_M_fork_108 (fun s1 H locs es1 hV => ?_)
        have hw := hw.2 s1 es1
        obtain ⟨y2, ey2⟩ : ∃ z : Int32, z = v3 + (1 : Int32) := ⟨_, rfl⟩
        have hw := hw y2 ey2
        refine lv_iinc (k := 3) (v := y2) (lv' := [(3, .int y2), (0, .ref (ea E 20 0)), (1, .int x1), (2, .int v2)]) hx hb d_M_fork_109 hl rfl (by rw [ey2]; rfl) (by decide) rfl (fun ls hl => ?_)
        refine lv_goto (tgt := 77) hx hb d_M_fork_112 rfl ?_
        exact ih _ _ _ s1 v2 y2 (lv_sub hl [1, 2, 3, 0] rfl) hV hw
  have L38 : ∀ (n : Nat), ∀ (ls : Array Slot) (H : Heap) (locs : List Loc) (s0 : KS) (v2 : Int32) (v3 : Int32), lv_has ls 4 [(0, .ref (ea E 20 0)), (1, .int x1), (2, .int v2), (3, .int v3)] → gV E MM A s0 s H locs → w_M_fork_38 x1 Φ n v2 v3 s0 → W p l e m_M_fork s m ([.ref (ea E 20 0), .int x1] : List Value).toArray below meth c H locs 0 0 (MQ below (gQv E MM A Φ) ([.ref (ea E 20 0), .int x1] : List Value).toArray s 0 0 A) (F0 m 38 ls []) := by
    intro n
    induction n with
    | zero =>
      intro ls H locs s0 v2 v3 hl hV hw
      exact False.elim hw
    | succ n ih =>
      intro ls H locs s0 v2 v3 hl hV hw
      unfold w_M_fork_38 at hw
      refine lv_iload_n hx hb d_M_fork_38 rfl (lv_at hl 3 rfl) ?_
      refine lv_sipush (v := 128) hx hb d_M_fork_39 (by decide) ?_
      refine lv_icmp_ge (tgt := 75) hx hb d_M_fork_42 rfl (fun hc => ?_) (fun hc => ?_)
      · have hw := hw.1 hc
        refine lv_iconst (v := 0) hx hb d_M_fork_75 (by decide) ?_
        refine lv_istore_n (lv' := [(3, .int (0 : Int32)), (0, .ref (ea E 20 0)), (1, .int x1), (2, .int v2)]) hx hb d_M_fork_76 rfl hl (by decide) rfl (fun ls hl => ?_)
        obtain ⟨nn, hw⟩ := hw
        exact L77 nn _ _ _ s0 v2 (0 : Int32) (lv_sub hl [1, 2, 3, 0] rfl) hV hw
      · have hw := hw.2 hc
        refine lv_aload_n hx hb d_M_fork_45 rfl (lv_at hl 0 rfl) ?_
        refine kg_M_M_memory hx hb hG hown hK hV d_M_fork_46 ?_
        refine lv_sipush (v := 128) hx hb d_M_fork_49 (by decide) ?_
        refine lv_iload_n hx hb d_M_fork_52 rfl (lv_at hl 2 rfl) ?_
        refine lv_imul hx hb d_M_fork_53 ?_
        refine lv_iload_n hx hb d_M_fork_54 rfl (lv_at hl 3 rfl) ?_
        refine lv_iadd hx hb d_M_fork_55 ?_
        refine lv_aload_n hx hb d_M_fork_56 rfl (lv_at hl 0 rfl) ?_
        refine kg_M_M_memory hx hb hG hown hK hV d_M_fork_57 ?_
        refine lv_sipush (v := 128) hx hb d_M_fork_60 (by decide) ?_
        refine lv_iload_n hx hb d_M_fork_63 rfl (lv_at hl 1 rfl) ?_
        refine lv_imul hx hb d_M_fork_64 ?_
        refine lv_iload_n hx hb d_M_fork_65 rfl (lv_at hl 3 rfl) ?_
        refine lv_iadd hx hb d_M_fork_66 ?_
        refine kl_27 hx hb hK hV hw.1 d_M_fork_67 ?_
        have hw := hw.2
        refine ks_27 hx hb hK hV hw.1 d_M_fork_68 (fun s1 H locs es1 hV => ?_)
        have hw := hw.2 s1 es1
        obtain ⟨y2, ey2⟩ : ∃ z : Int32, z = v3 + (1 : Int32) := ⟨_, rfl⟩
        have hw := hw y2 ey2
        refine lv_iinc (k := 3) (v := y2) (lv' := [(3, .int y2), (0, .ref (ea E 20 0)), (1, .int x1), (2, .int v2)]) hx hb d_M_fork_69 hl rfl (by rw [ey2]; rfl) (by decide) rfl (fun ls hl => ?_)
        refine lv_goto (tgt := 38) hx hb d_M_fork_72 rfl ?_
        exact ih _ _ _ s1 v2 y2 (lv_sub hl [1, 2, 3, 0] rfl) hV hw
  have J23 : ∀ (ls : Array Slot) (H : Heap) (locs : List Loc) (s0 : KS) (v2 : Int32), lv_has ls 4 [(0, .ref (ea E 20 0)), (1, .int x1), (2, .int v2)] → gV E MM A s0 s H locs → w_M_fork_23 x1 Φ v2 s0 → W p l e m_M_fork s m ([.ref (ea E 20 0), .int x1] : List Value).toArray below meth c H locs 0 0 (MQ below (gQv E MM A Φ) ([.ref (ea E 20 0), .int x1] : List Value).toArray s 0 0 A) (F0 m 23 ls []) := by
    intro  ls H locs s0 v2 hl hV hw
    unfold w_M_fork_23 at hw
    refine lv_iload_n hx hb d_M_fork_23 rfl (lv_at hl 2 rfl) ?_
    refine lv_bipush (v := 16) hx hb d_M_fork_24 (by decide) ?_
    refine lv_icmp_ne (tgt := 36) hx hb d_M_fork_26 rfl (fun hc => ?_) (fun hc => ?_)
    · have hw := hw.1 hc
      refine lv_iconst (v := 0) hx hb d_M_fork_36 (by decide) ?_
      refine lv_istore_n (lv' := [(3, .int (0 : Int32)), (0, .ref (ea E 20 0)), (1, .int x1), (2, .int v2)]) hx hb d_M_fork_37 rfl hl (by decide) rfl (fun ls hl => ?_)
      obtain ⟨nn, hw⟩ := hw
      exact L38 nn _ _ _ s0 v2 (0 : Int32) (lv_sub hl [1, 2, 3, 0] rfl) hV hw
    · have hw := hw.2 hc
      refine lv_aload_n hx hb d_M_fork_29 rfl (lv_at hl 0 rfl) ?_
      refine lv_iload_n hx hb d_M_fork_30 rfl (lv_at hl 1 rfl) ?_
      refine lv_iconst (v := -1) hx hb d_M_fork_31 (by decide) ?_
      refine kc_M_M_push hx hb hml hown hts hV hK hX hAe (c_M_push l E s0 x1 (-1 : Int32) _ hw) hl.1 (Nat.le_of_ble_eq_true rfl) d_M_fork_32 (Nat.le_of_ble_eq_true rfl) (Nat.le_of_ble_eq_true rfl) (fun s1 H locs hw hV => ?_)
      exact kr_v hx hb hr hV hK hX hAe hw d_M_fork_35
  have L2 : ∀ (n : Nat), ∀ (ls : Array Slot) (H : Heap) (locs : List Loc) (s0 : KS) (v2 : Int32), lv_has ls 4 [(0, .ref (ea E 20 0)), (1, .int x1), (2, .int v2)] → gV E MM A s0 s H locs → w_M_fork_2 x1 Φ n v2 s0 → W p l e m_M_fork s m ([.ref (ea E 20 0), .int x1] : List Value).toArray below meth c H locs 0 0 (MQ below (gQv E MM A Φ) ([.ref (ea E 20 0), .int x1] : List Value).toArray s 0 0 A) (F0 m 2 ls []) := by
    intro n
    induction n with
    | zero =>
      intro ls H locs s0 v2 hl hV hw
      exact False.elim hw
    | succ n ih =>
      intro ls H locs s0 v2 hl hV hw
      unfold w_M_fork_2 at hw
      refine lv_iload_n hx hb d_M_fork_2 rfl (lv_at hl 2 rfl) ?_
      refine lv_bipush (v := 16) hx hb d_M_fork_3 (by decide) ?_
      refine lv_icmp_ge (tgt := 23) hx hb d_M_fork_5 rfl (fun hc => ?_) (fun hc => ?_)
      · have hw := hw.1 hc
        exact J23 _ _ _ s0 v2 (lv_sub hl [0, 1, 2] rfl) hV hw
      · have hw := hw.2 hc
        refine lv_aload_n hx hb d_M_fork_8 rfl (lv_at hl 0 rfl) ?_
        refine kg_M_M_state hx hb hG hown hK hV d_M_fork_9 ?_
        refine lv_iload_n hx hb d_M_fork_12 rfl (lv_at hl 2 rfl) ?_
        refine kl_26 hx hb hK hV hw.1 d_M_fork_13 ?_
        have hw := hw.2
        refine lv_if_eq (tgt := 23) hx hb d_M_fork_14 rfl (fun hc => ?_) (fun hc => ?_)
        · have hw := hw.1 hc
          exact J23 _ _ _ s0 v2 (lv_sub hl [0, 1, 2] rfl) hV hw
        · have hw := hw.2 hc
          obtain ⟨y1, ey1⟩ : ∃ z : Int32, z = v2 + (1 : Int32) := ⟨_, rfl⟩
          have hw := hw y1 ey1
          refine lv_iinc (k := 2) (v := y1) (lv' := [(2, .int y1), (0, .ref (ea E 20 0)), (1, .int x1)]) hx hb d_M_fork_17 hl rfl (by rw [ey1]; rfl) (by decide) rfl (fun ls hl => ?_)
          refine lv_goto (tgt := 2) hx hb d_M_fork_20 rfl ?_
          exact ih _ _ _ s0 y1 (lv_sub hl [1, 2, 0] rfl) hV hw
  unfold w_M_fork at hw
  refine lv_iconst (v := 0) hx hb d_M_fork_0 (by decide) ?_
  refine lv_istore_n (lv' := [(2, .int (0 : Int32)), (0, .ref (ea E 20 0)), (1, .int x1)]) hx hb d_M_fork_1 rfl hl (by decide) rfl (fun ls hl => ?_)
  obtain ⟨nn, hw⟩ := hw
  exact L2 nn _ _ _ s0 (0 : Int32) (lv_sub hl [1, 2, 0] rfl) hV hw
theorem d_M_kill_0 : decode b_M_kill 0 = .ok (.iload_n 2, 1) := by decide +kernel
theorem d_M_kill_1 : decode b_M_kill 1 = .ok (.ifCond .lt 33, 3) := by decide +kernel
theorem d_M_kill_4 : decode b_M_kill 4 = .ok (.iload_n 2, 1) := by decide +kernel
theorem d_M_kill_5 : decode b_M_kill 5 = .ok (.bipush 16, 2) := by decide +kernel
theorem d_M_kill_7 : decode b_M_kill 7 = .ok (.if_icmp .ge 27, 3) := by decide +kernel
theorem d_M_kill_10 : decode b_M_kill 10 = .ok (.aload_n 0, 1) := by decide +kernel
theorem d_M_kill_11 : decode b_M_kill 11 = .ok (.getfield 13, 3) := by decide +kernel
theorem d_M_kill_14 : decode b_M_kill 14 = .ok (.iload_n 2, 1) := by decide +kernel
theorem d_M_kill_15 : decode b_M_kill 15 = .ok (.iaload, 1) := by decide +kernel
theorem d_M_kill_16 : decode b_M_kill 16 = .ok (.ifCond .eq 18, 3) := by decide +kernel
theorem d_M_kill_19 : decode b_M_kill 19 = .ok (.aload_n 0, 1) := by decide +kernel
theorem d_M_kill_20 : decode b_M_kill 20 = .ok (.getfield 13, 3) := by decide +kernel
theorem d_M_kill_23 : decode b_M_kill 23 = .ok (.iload_n 2, 1) := by decide +kernel
theorem d_M_kill_24 : decode b_M_kill 24 = .ok (.iaload, 1) := by decide +kernel
theorem d_M_kill_25 : decode b_M_kill 25 = .ok (.bipush 6, 2) := by decide +kernel
theorem d_M_kill_27 : decode b_M_kill 27 = .ok (.if_icmp .eq 7, 3) := by decide +kernel
theorem d_M_kill_30 : decode b_M_kill 30 = .ok (.iconst 1, 1) := by decide +kernel
theorem d_M_kill_31 : decode b_M_kill 31 = .ok (.goto 4, 3) := by decide +kernel
theorem d_M_kill_34 : decode b_M_kill 34 = .ok (.iconst 0, 1) := by decide +kernel
theorem d_M_kill_35 : decode b_M_kill 35 = .ok (.istore_n 3, 1) := by decide +kernel
theorem d_M_kill_36 : decode b_M_kill 36 = .ok (.iload_n 2, 1) := by decide +kernel
theorem d_M_kill_37 : decode b_M_kill 37 = .ok (.iload_n 1, 1) := by decide +kernel
theorem d_M_kill_38 : decode b_M_kill 38 = .ok (.if_icmp .eq 17, 3) := by decide +kernel
theorem d_M_kill_41 : decode b_M_kill 41 = .ok (.aload_n 0, 1) := by decide +kernel
theorem d_M_kill_42 : decode b_M_kill 42 = .ok (.iload_n 1, 1) := by decide +kernel
theorem d_M_kill_43 : decode b_M_kill 43 = .ok (.iload_n 3, 1) := by decide +kernel
theorem d_M_kill_44 : decode b_M_kill 44 = .ok (.ifCond .eq 7, 3) := by decide +kernel
theorem d_M_kill_47 : decode b_M_kill 47 = .ok (.iconst 0, 1) := by decide +kernel
theorem d_M_kill_48 : decode b_M_kill 48 = .ok (.goto 4, 3) := by decide +kernel
theorem d_M_kill_51 : decode b_M_kill 51 = .ok (.iconst (-1), 1) := by decide +kernel
theorem d_M_kill_52 : decode b_M_kill 52 = .ok (.invokevirtual 155, 3) := by decide +kernel
theorem d_M_kill_55 : decode b_M_kill 55 = .ok (.iload_n 3, 1) := by decide +kernel
theorem d_M_kill_56 : decode b_M_kill 56 = .ok (.ifCond .eq 10, 3) := by decide +kernel
theorem d_M_kill_59 : decode b_M_kill 59 = .ok (.aload_n 0, 1) := by decide +kernel
theorem d_M_kill_60 : decode b_M_kill 60 = .ok (.iload_n 2, 1) := by decide +kernel
theorem d_M_kill_61 : decode b_M_kill 61 = .ok (.bipush (-9), 2) := by decide +kernel
theorem d_M_kill_63 : decode b_M_kill 63 = .ok (.invokevirtual 140, 3) := by decide +kernel
theorem d_M_kill_66 : decode b_M_kill 66 = .ok (.return_, 1) := by decide +kernel
def w_M_kill_55 (x1 : Int32) (x2 : Int32) (Φ : KS → Prop) (v3 : Int32) (s0 : KS) : Prop := ((v3 = 0 → Φ s0) ∧ (¬ v3 = 0 → w_M_end x2 (-9 : Int32) s0 (fun s1 => Φ s1)))
def w_M_kill_52 (x1 : Int32) (x2 : Int32) (Φ : KS → Prop) (v3 : Int32) (t0 : Int32) (s0 : KS) : Prop := w_M_push x1 t0 s0 (fun s1 => w_M_kill_55 x1 x2 Φ v3 s1)
def w_M_kill_35 (x1 : Int32) (x2 : Int32) (Φ : KS → Prop) (t0 : Int32) (s0 : KS) : Prop := ((x2 = x1 → w_M_kill_55 x1 x2 Φ t0 s0) ∧ (¬ x2 = x1 → ((t0 = 0 → w_M_kill_52 x1 x2 Φ t0 (-1 : Int32) s0) ∧ (¬ t0 = 0 → w_M_kill_52 x1 x2 Φ t0 (0 : Int32) s0))))
def w_M_kill_34 (x1 : Int32) (x2 : Int32) (Φ : KS → Prop) (s0 : KS) : Prop := w_M_kill_35 x1 x2 Φ (0 : Int32) s0
def w_M_kill (x1 : Int32) (x2 : Int32) (s0 : KS) (Φ : KS → Prop) : Prop := ((x2 < 0 → w_M_kill_34 x1 x2 Φ s0) ∧ (¬ x2 < 0 → (((16 : Int32) ≤ x2 → w_M_kill_34 x1 x2 Φ s0) ∧ (¬ (16 : Int32) ≤ x2 → vp_in x2 16 ∧ (((s0 26 0 x2.toNatClampNeg) = 0 → w_M_kill_34 x1 x2 Φ s0) ∧ (¬ (s0 26 0 x2.toNatClampNeg) = 0 → vp_in x2 16 ∧ (((s0 26 0 x2.toNatClampNeg) = (6 : Int32) → w_M_kill_34 x1 x2 Φ s0) ∧ (¬ (s0 26 0 x2.toNatClampNeg) = (6 : Int32) → w_M_kill_35 x1 x2 Φ (1 : Int32) s0))))))))
set_option maxHeartbeats 4000000 in
set_option maxRecDepth 100000 in
theorem c_M_kill (l : Launch) (E : gE) (s0 : KS) (x1 : Int32) (x2 : Int32) (Φ : KS → Prop) (hw : w_M_kill x1 x2 s0 Φ) : gMv l y_M_kill v_M_kill m_M_kill E MM [.ref (ea E 20 0), .int x1, .int x2] s0 Φ := by
  intro sz
  refine Met.ofW (cc := b_M_kill) (maxL := 4) (ret := none) (by decide) rfl ?_
  intro p e s m args below meth c s₁ B hml hv
  obtain ⟨rfl, hsz, hP, hK, hD, hX⟩ := hv
  have hx := B.exec
  have hb := B.bytes
  have hr := B.returns
  have hts := atoms_spec (ws := v_M_kill) B.pre
  have hG : ∀ w ∈ gG, w.before _ s = true := fun w h => hts w (List.mem_cons_of_mem _ h)
  have hown : s.vm.findClass R_M = some m.cls := findClass_of_methodNamed B.named
  have hlocks := B.notSynchronized
  subst hsz
  obtain ⟨A, hAe⟩ : ∃ A, A = gA E MM s.heap.size := ⟨_, rfl⟩
  rw [← hAe] at hD hX ⊢
  have hV : gV E MM A s0 s s.heap [] := ⟨hP, hD, va_S.rf⟩
  have hl := lv_entry ([.ref (ea E 20 0), .int x1, .int x2] : List Value) (n := 4) (Nat.le_of_ble_eq_true rfl)
  rw [lg_entry_eq]
  generalize (lg_sl ([.ref (ea E 20 0), .int x1, .int x2] : List Value) ++ List.replicate (4 - (lg_sl ([.ref (ea E 20 0), .int x1, .int x2] : List Value)).length) Slot.unset).toArray = ls at hl ⊢
  have hl : lv_has ls 4 [(0, .ref (ea E 20 0)), (1, .int x1), (2, .int x2)] := hl
  have J55 : ∀ (ls : Array Slot) (H : Heap) (locs : List Loc) (s0 : KS) (v3 : Int32), lv_has ls 4 [(0, .ref (ea E 20 0)), (2, .int x2), (3, .int v3)] → gV E MM A s0 s H locs → w_M_kill_55 x1 x2 Φ v3 s0 → W p l e m_M_kill s m ([.ref (ea E 20 0), .int x1, .int x2] : List Value).toArray below meth c H locs 0 0 (MQ below (gQv E MM A Φ) ([.ref (ea E 20 0), .int x1, .int x2] : List Value).toArray s 0 0 A) (F0 m 55 ls []) := by
    intro  ls H locs s0 v3 hl hV hw
    unfold w_M_kill_55 at hw
    refine lv_iload_n hx hb d_M_kill_55 rfl (lv_at hl 2 rfl) ?_
    refine lv_if_eq (tgt := 66) hx hb d_M_kill_56 rfl (fun hc => ?_) (fun hc => ?_)
    · have hw := hw.1 hc
      exact kr_v hx hb hr hV hK hX hAe hw d_M_kill_66
    · have hw := hw.2 hc
      refine lv_aload_n hx hb d_M_kill_59 rfl (lv_at hl 0 rfl) ?_
      refine lv_iload_n hx hb d_M_kill_60 rfl (lv_at hl 1 rfl) ?_
      refine lv_bipush (v := -9) hx hb d_M_kill_61 (by decide) ?_
      refine kc_M_M_end hx hb hml hown hts hV hK hX hAe (c_M_end l E s0 x2 (-9 : Int32) _ hw) hl.1 (Nat.le_of_ble_eq_true rfl) d_M_kill_63 (Nat.le_of_ble_eq_true rfl) (Nat.le_of_ble_eq_true rfl) (fun s1 H locs hw hV => ?_)
      exact kr_v hx hb hr hV hK hX hAe hw d_M_kill_66
  have J52 : ∀ (ls : Array Slot) (H : Heap) (locs : List Loc) (s0 : KS) (v3 : Int32) (t0 : Int32), lv_has ls 4 [(0, .ref (ea E 20 0)), (2, .int x2), (3, .int v3)] → gV E MM A s0 s H locs → w_M_kill_52 x1 x2 Φ v3 t0 s0 → W p l e m_M_kill s m ([.ref (ea E 20 0), .int x1, .int x2] : List Value).toArray below meth c H locs 0 0 (MQ below (gQv E MM A Φ) ([.ref (ea E 20 0), .int x1, .int x2] : List Value).toArray s 0 0 A) (F0 m 52 ls [.int t0, .int x1, .ref (ea E 20 0)]) := by
    intro  ls H locs s0 v3 t0 hl hV hw
    unfold w_M_kill_52 at hw
    refine kc_M_M_push hx hb hml hown hts hV hK hX hAe (c_M_push l E s0 x1 t0 _ hw) hl.1 (Nat.le_of_ble_eq_true rfl) d_M_kill_52 (Nat.le_of_ble_eq_true rfl) (Nat.le_of_ble_eq_true rfl) (fun s1 H locs hw hV => ?_)
    exact J55 _ _ _ s1 v3 (lv_sub hl [0, 1, 2] rfl) hV hw
  have J35 : ∀ (ls : Array Slot) (H : Heap) (locs : List Loc) (s0 : KS) (t0 : Int32), lv_has ls 4 [(0, .ref (ea E 20 0)), (1, .int x1), (2, .int x2)] → gV E MM A s0 s H locs → w_M_kill_35 x1 x2 Φ t0 s0 → W p l e m_M_kill s m ([.ref (ea E 20 0), .int x1, .int x2] : List Value).toArray below meth c H locs 0 0 (MQ below (gQv E MM A Φ) ([.ref (ea E 20 0), .int x1, .int x2] : List Value).toArray s 0 0 A) (F0 m 35 ls [.int t0]) := by
    intro  ls H locs s0 t0 hl hV hw
    unfold w_M_kill_35 at hw
    refine lv_istore_n (lv' := [(3, .int t0), (0, .ref (ea E 20 0)), (1, .int x1), (2, .int x2)]) hx hb d_M_kill_35 rfl hl (by decide) rfl (fun ls hl => ?_)
    refine lv_iload_n hx hb d_M_kill_36 rfl (lv_at hl 3 rfl) ?_
    refine lv_iload_n hx hb d_M_kill_37 rfl (lv_at hl 2 rfl) ?_
    refine lv_icmp_eq (tgt := 55) hx hb d_M_kill_38 rfl (fun hc => ?_) (fun hc => ?_)
    · have hw := hw.1 hc
      exact J55 _ _ _ s0 t0 (lv_sub hl [1, 3, 0] rfl) hV hw
    · have hw := hw.2 hc
      refine lv_aload_n hx hb d_M_kill_41 rfl (lv_at hl 1 rfl) ?_
      refine lv_iload_n hx hb d_M_kill_42 rfl (lv_at hl 2 rfl) ?_
      refine lv_iload_n hx hb d_M_kill_43 rfl (lv_at hl 0 rfl) ?_
      refine lv_if_eq (tgt := 51) hx hb d_M_kill_44 rfl (fun hc => ?_) (fun hc => ?_)
      · have hw := hw.1 hc
        refine lv_iconst (v := -1) hx hb d_M_kill_51 (by decide) ?_
        exact J52 _ _ _ s0 t0 (-1 : Int32) (lv_sub hl [1, 3, 0] rfl) hV hw
      · have hw := hw.2 hc
        refine lv_iconst (v := 0) hx hb d_M_kill_47 (by decide) ?_
        refine lv_goto (tgt := 52) hx hb d_M_kill_48 rfl ?_
        exact J52 _ _ _ s0 t0 (0 : Int32) (lv_sub hl [1, 3, 0] rfl) hV hw
  have J34 : ∀ (ls : Array Slot) (H : Heap) (locs : List Loc) (s0 : KS), lv_has ls 4 [(0, .ref (ea E 20 0)), (1, .int x1), (2, .int x2)] → gV E MM A s0 s H locs → w_M_kill_34 x1 x2 Φ s0 → W p l e m_M_kill s m ([.ref (ea E 20 0), .int x1, .int x2] : List Value).toArray below meth c H locs 0 0 (MQ below (gQv E MM A Φ) ([.ref (ea E 20 0), .int x1, .int x2] : List Value).toArray s 0 0 A) (F0 m 34 ls []) := by
    intro  ls H locs s0 hl hV hw
    unfold w_M_kill_34 at hw
    refine lv_iconst (v := 0) hx hb d_M_kill_34 (by decide) ?_
    exact J35 _ _ _ s0 (0 : Int32) (lv_sub hl [0, 1, 2] rfl) hV hw
  unfold w_M_kill at hw
  refine lv_iload_n hx hb d_M_kill_0 rfl (lv_at hl 2 rfl) ?_
  refine lv_if_lt (tgt := 34) hx hb d_M_kill_1 rfl (fun hc => ?_) (fun hc => ?_)
  · have hw := hw.1 hc
    exact J34 _ _ _ s0 (lv_sub hl [0, 1, 2] rfl) hV hw
  · have hw := hw.2 hc
    refine lv_iload_n hx hb d_M_kill_4 rfl (lv_at hl 2 rfl) ?_
    refine lv_bipush (v := 16) hx hb d_M_kill_5 (by decide) ?_
    refine lv_icmp_ge (tgt := 34) hx hb d_M_kill_7 rfl (fun hc => ?_) (fun hc => ?_)
    · have hw := hw.1 hc
      exact J34 _ _ _ s0 (lv_sub hl [0, 1, 2] rfl) hV hw
    · have hw := hw.2 hc
      refine lv_aload_n hx hb d_M_kill_10 rfl (lv_at hl 0 rfl) ?_
      refine kg_M_M_state hx hb hG hown hK hV d_M_kill_11 ?_
      refine lv_iload_n hx hb d_M_kill_14 rfl (lv_at hl 2 rfl) ?_
      refine kl_26 hx hb hK hV hw.1 d_M_kill_15 ?_
      have hw := hw.2
      refine lv_if_eq (tgt := 34) hx hb d_M_kill_16 rfl (fun hc => ?_) (fun hc => ?_)
      · have hw := hw.1 hc
        exact J34 _ _ _ s0 (lv_sub hl [0, 1, 2] rfl) hV hw
      · have hw := hw.2 hc
        refine lv_aload_n hx hb d_M_kill_19 rfl (lv_at hl 0 rfl) ?_
        refine kg_M_M_state hx hb hG hown hK hV d_M_kill_20 ?_
        refine lv_iload_n hx hb d_M_kill_23 rfl (lv_at hl 2 rfl) ?_
        refine kl_26 hx hb hK hV hw.1 d_M_kill_24 ?_
        have hw := hw.2
        refine lv_bipush (v := 6) hx hb d_M_kill_25 (by decide) ?_
        refine lv_icmp_eq (tgt := 34) hx hb d_M_kill_27 rfl (fun hc => ?_) (fun hc => ?_)
        · have hw := hw.1 hc
          exact J34 _ _ _ s0 (lv_sub hl [0, 1, 2] rfl) hV hw
        · have hw := hw.2 hc
          refine lv_iconst (v := 1) hx hb d_M_kill_30 (by decide) ?_
          refine lv_goto (tgt := 35) hx hb d_M_kill_31 rfl ?_
          exact J35 _ _ _ s0 (1 : Int32) (lv_sub hl [0, 1, 2] rfl) hV hw
theorem d_M_makePipe_0 : decode b_M_makePipe 0 = .ok (.iconst 0, 1) := by decide +kernel
theorem d_M_makePipe_1 : decode b_M_makePipe 1 = .ok (.istore_n 2, 1) := by decide +kernel
theorem d_M_makePipe_2 : decode b_M_makePipe 2 = .ok (.iload_n 2, 1) := by decide +kernel
theorem d_M_makePipe_3 : decode b_M_makePipe 3 = .ok (.bipush 8, 2) := by decide +kernel
theorem d_M_makePipe_5 : decode b_M_makePipe 5 = .ok (.if_icmp .ge 17, 3) := by decide +kernel
theorem d_M_makePipe_8 : decode b_M_makePipe 8 = .ok (.aload_n 0, 1) := by decide +kernel
theorem d_M_makePipe_9 : decode b_M_makePipe 9 = .ok (.iload_n 2, 1) := by decide +kernel
theorem d_M_makePipe_10 : decode b_M_makePipe 10 = .ok (.invokevirtual 105, 3) := by decide +kernel
theorem d_M_makePipe_13 : decode b_M_makePipe 13 = .ok (.ifCond .eq 9, 3) := by decide +kernel
theorem d_M_makePipe_16 : decode b_M_makePipe 16 = .ok (.iinc 2 1, 3) := by decide +kernel
theorem d_M_makePipe_19 : decode b_M_makePipe 19 = .ok (.goto (-17), 3) := by decide +kernel
theorem d_M_makePipe_22 : decode b_M_makePipe 22 = .ok (.aload_n 0, 1) := by decide +kernel
theorem d_M_makePipe_23 : decode b_M_makePipe 23 = .ok (.iload_n 1, 1) := by decide +kernel
theorem d_M_makePipe_24 : decode b_M_makePipe 24 = .ok (.iconst 0, 1) := by decide +kernel
theorem d_M_makePipe_25 : decode b_M_makePipe 25 = .ok (.invokevirtual 199, 3) := by decide +kernel
theorem d_M_makePipe_28 : decode b_M_makePipe 28 = .ok (.istore_n 3, 1) := by decide +kernel
theorem d_M_makePipe_29 : decode b_M_makePipe 29 = .ok (.aload_n 0, 1) := by decide +kernel
theorem d_M_makePipe_30 : decode b_M_makePipe 30 = .ok (.iload_n 1, 1) := by decide +kernel
theorem d_M_makePipe_31 : decode b_M_makePipe 31 = .ok (.iload_n 3, 1) := by decide +kernel
theorem d_M_makePipe_32 : decode b_M_makePipe 32 = .ok (.iconst 1, 1) := by decide +kernel
theorem d_M_makePipe_33 : decode b_M_makePipe 33 = .ok (.iadd, 1) := by decide +kernel
theorem d_M_makePipe_34 : decode b_M_makePipe 34 = .ok (.invokevirtual 199, 3) := by decide +kernel
theorem d_M_makePipe_37 : decode b_M_makePipe 37 = .ok (.istore 4, 2) := by decide +kernel
theorem d_M_makePipe_39 : decode b_M_makePipe 39 = .ok (.iload_n 2, 1) := by decide +kernel
theorem d_M_makePipe_40 : decode b_M_makePipe 40 = .ok (.bipush 8, 2) := by decide +kernel
theorem d_M_makePipe_42 : decode b_M_makePipe 42 = .ok (.if_icmp .eq 10, 3) := by decide +kernel
theorem d_M_makePipe_45 : decode b_M_makePipe 45 = .ok (.iload 4, 2) := by decide +kernel
theorem d_M_makePipe_47 : decode b_M_makePipe 47 = .ok (.bipush 8, 2) := by decide +kernel
theorem d_M_makePipe_49 : decode b_M_makePipe 49 = .ok (.if_icmp .lt 16, 3) := by decide +kernel
theorem d_M_makePipe_52 : decode b_M_makePipe 52 = .ok (.aload_n 0, 1) := by decide +kernel
theorem d_M_makePipe_53 : decode b_M_makePipe 53 = .ok (.iload_n 1, 1) := by decide +kernel
theorem d_M_makePipe_54 : decode b_M_makePipe 54 = .ok (.iconst (-1), 1) := by decide +kernel
theorem d_M_makePipe_55 : decode b_M_makePipe 55 = .ok (.invokevirtual 155, 3) := by decide +kernel
theorem d_M_makePipe_58 : decode b_M_makePipe 58 = .ok (.aload_n 0, 1) := by decide +kernel
theorem d_M_makePipe_59 : decode b_M_makePipe 59 = .ok (.iload_n 1, 1) := by decide +kernel
theorem d_M_makePipe_60 : decode b_M_makePipe 60 = .ok (.iconst (-1), 1) := by decide +kernel
theorem d_M_makePipe_61 : decode b_M_makePipe 61 = .ok (.invokevirtual 155, 3) := by decide +kernel
theorem d_M_makePipe_64 : decode b_M_makePipe 64 = .ok (.return_, 1) := by decide +kernel
theorem d_M_makePipe_65 : decode b_M_makePipe 65 = .ok (.aload_n 0, 1) := by decide +kernel
theorem d_M_makePipe_66 : decode b_M_makePipe 66 = .ok (.getfield 28, 3) := by decide +kernel
theorem d_M_makePipe_69 : decode b_M_makePipe 69 = .ok (.bipush 8, 2) := by decide +kernel
theorem d_M_makePipe_71 : decode b_M_makePipe 71 = .ok (.iload_n 1, 1) := by decide +kernel
theorem d_M_makePipe_72 : decode b_M_makePipe 72 = .ok (.imul, 1) := by decide +kernel
theorem d_M_makePipe_73 : decode b_M_makePipe 73 = .ok (.iload_n 3, 1) := by decide +kernel
theorem d_M_makePipe_74 : decode b_M_makePipe 74 = .ok (.iadd, 1) := by decide +kernel
theorem d_M_makePipe_75 : decode b_M_makePipe 75 = .ok (.bipush 10, 2) := by decide +kernel
theorem d_M_makePipe_77 : decode b_M_makePipe 77 = .ok (.iload_n 2, 1) := by decide +kernel
theorem d_M_makePipe_78 : decode b_M_makePipe 78 = .ok (.iadd, 1) := by decide +kernel
theorem d_M_makePipe_79 : decode b_M_makePipe 79 = .ok (.iastore, 1) := by decide +kernel
theorem d_M_makePipe_80 : decode b_M_makePipe 80 = .ok (.aload_n 0, 1) := by decide +kernel
theorem d_M_makePipe_81 : decode b_M_makePipe 81 = .ok (.getfield 28, 3) := by decide +kernel
theorem d_M_makePipe_84 : decode b_M_makePipe 84 = .ok (.bipush 8, 2) := by decide +kernel
theorem d_M_makePipe_86 : decode b_M_makePipe 86 = .ok (.iload_n 1, 1) := by decide +kernel
theorem d_M_makePipe_87 : decode b_M_makePipe 87 = .ok (.imul, 1) := by decide +kernel
theorem d_M_makePipe_88 : decode b_M_makePipe 88 = .ok (.iload 4, 2) := by decide +kernel
theorem d_M_makePipe_90 : decode b_M_makePipe 90 = .ok (.iadd, 1) := by decide +kernel
theorem d_M_makePipe_91 : decode b_M_makePipe 91 = .ok (.bipush 20, 2) := by decide +kernel
theorem d_M_makePipe_93 : decode b_M_makePipe 93 = .ok (.iload_n 2, 1) := by decide +kernel
theorem d_M_makePipe_94 : decode b_M_makePipe 94 = .ok (.iadd, 1) := by decide +kernel
theorem d_M_makePipe_95 : decode b_M_makePipe 95 = .ok (.iastore, 1) := by decide +kernel
theorem d_M_makePipe_96 : decode b_M_makePipe 96 = .ok (.aload_n 0, 1) := by decide +kernel
theorem d_M_makePipe_97 : decode b_M_makePipe 97 = .ok (.getfield 52, 3) := by decide +kernel
theorem d_M_makePipe_100 : decode b_M_makePipe 100 = .ok (.iload_n 2, 1) := by decide +kernel
theorem d_M_makePipe_101 : decode b_M_makePipe 101 = .ok (.iconst 0, 1) := by decide +kernel
theorem d_M_makePipe_102 : decode b_M_makePipe 102 = .ok (.iastore, 1) := by decide +kernel
theorem d_M_makePipe_103 : decode b_M_makePipe 103 = .ok (.aload_n 0, 1) := by decide +kernel
theorem d_M_makePipe_104 : decode b_M_makePipe 104 = .ok (.iload_n 1, 1) := by decide +kernel
theorem d_M_makePipe_105 : decode b_M_makePipe 105 = .ok (.iload_n 3, 1) := by decide +kernel
theorem d_M_makePipe_106 : decode b_M_makePipe 106 = .ok (.invokevirtual 155, 3) := by decide +kernel
theorem d_M_makePipe_109 : decode b_M_makePipe 109 = .ok (.aload_n 0, 1) := by decide +kernel
theorem d_M_makePipe_110 : decode b_M_makePipe 110 = .ok (.iload_n 1, 1) := by decide +kernel
theorem d_M_makePipe_111 : decode b_M_makePipe 111 = .ok (.iload 4, 2) := by decide +kernel
theorem d_M_makePipe_113 : decode b_M_makePipe 113 = .ok (.invokevirtual 155, 3) := by decide +kernel
theorem d_M_makePipe_116 : decode b_M_makePipe 116 = .ok (.return_, 1) := by decide +kernel
def w_M_makePipe_52 (x1 : Int32) (Φ : KS → Prop) (s0 : KS) : Prop := w_M_push x1 (-1 : Int32) s0 (fun s1 => w_M_push x1 (-1 : Int32) s1 (fun s2 => Φ s2))
def w_M_makePipe_22 (x1 : Int32) (Φ : KS → Prop) (v2 : Int32) (s0 : KS) : Prop := w_M_freeDescriptor x1 (0 : Int32) s0 (fun r2 s1 => w_M_freeDescriptor x1 (r2 + (1 : Int32)) s1 (fun r4 s3 => ((v2 = (8 : Int32) → w_M_makePipe_52 x1 Φ s3) ∧ (¬ v2 = (8 : Int32) → ((r4 < (8 : Int32) → vp_in (((8 : Int32) * x1) + r2) 128 ∧ ∀ s5 : KS, s5 = w3 s3 31 0 (((8 : Int32) * x1) + r2).toNatClampNeg ((10 : Int32) + v2) → vp_in (((8 : Int32) * x1) + r4) 128 ∧ ∀ s6 : KS, s6 = w3 s5 31 0 (((8 : Int32) * x1) + r4).toNatClampNeg ((20 : Int32) + v2) → vp_in v2 8 ∧ ∀ s7 : KS, s7 = w3 s6 42 0 v2.toNatClampNeg (0 : Int32) → w_M_push x1 r2 s7 (fun s8 => w_M_push x1 r4 s8 (fun s9 => Φ s9))) ∧ (¬ r4 < (8 : Int32) → w_M_makePipe_52 x1 Φ s3))))))
def w_M_makePipe_2 (x1 : Int32) (Φ : KS → Prop) : Nat → Int32 → KS → Prop
  | 0, _, _ => False
  | n + 1, v2, s0 => (((8 : Int32) ≤ v2 → w_M_makePipe_22 x1 Φ v2 s0) ∧ (¬ (8 : Int32) ≤ v2 → w_M_isPipe v2 s0 (fun r2 s1 => ((r2 = 0 → w_M_makePipe_22 x1 Φ v2 s1) ∧ (¬ r2 = 0 → ∀ y3 : Int32, y3 = v2 + (1 : Int32) → w_M_makePipe_2 x1 Φ n y3 s1)))))
def w_M_makePipe (x1 : Int32) (s0 : KS) (Φ : KS → Prop) : Prop := ∃ nn : Nat, w_M_makePipe_2 x1 Φ nn (0 : Int32) s0
set_option maxHeartbeats 4000000 in
set_option maxRecDepth 100000 in
theorem c_M_makePipe (l : Launch) (E : gE) (s0 : KS) (x1 : Int32) (Φ : KS → Prop) (hw : w_M_makePipe x1 s0 Φ) : gMv l y_M_makePipe v_M_makePipe m_M_makePipe E MM [.ref (ea E 20 0), .int x1] s0 Φ := by
  intro sz
  refine Met.ofW (cc := b_M_makePipe) (maxL := 5) (ret := none) (by decide) rfl ?_
  intro p e s m args below meth c s₁ B hml hv
  obtain ⟨rfl, hsz, hP, hK, hD, hX⟩ := hv
  have hx := B.exec
  have hb := B.bytes
  have hr := B.returns
  have hts := atoms_spec (ws := v_M_makePipe) B.pre
  have hG : ∀ w ∈ gG, w.before _ s = true := fun w h => hts w (List.mem_cons_of_mem _ h)
  have hown : s.vm.findClass R_M = some m.cls := findClass_of_methodNamed B.named
  have hlocks := B.notSynchronized
  subst hsz
  obtain ⟨A, hAe⟩ : ∃ A, A = gA E MM s.heap.size := ⟨_, rfl⟩
  rw [← hAe] at hD hX ⊢
  have hV : gV E MM A s0 s s.heap [] := ⟨hP, hD, va_S.rf⟩
  have hl := lv_entry ([.ref (ea E 20 0), .int x1] : List Value) (n := 5) (Nat.le_of_ble_eq_true rfl)
  rw [lg_entry_eq]
  generalize (lg_sl ([.ref (ea E 20 0), .int x1] : List Value) ++ List.replicate (5 - (lg_sl ([.ref (ea E 20 0), .int x1] : List Value)).length) Slot.unset).toArray = ls at hl ⊢
  have hl : lv_has ls 5 [(0, .ref (ea E 20 0)), (1, .int x1)] := hl
  have J52 : ∀ (ls : Array Slot) (H : Heap) (locs : List Loc) (s0 : KS), lv_has ls 5 [(0, .ref (ea E 20 0)), (1, .int x1)] → gV E MM A s0 s H locs → w_M_makePipe_52 x1 Φ s0 → W p l e m_M_makePipe s m ([.ref (ea E 20 0), .int x1] : List Value).toArray below meth c H locs 0 0 (MQ below (gQv E MM A Φ) ([.ref (ea E 20 0), .int x1] : List Value).toArray s 0 0 A) (F0 m 52 ls []) := by
    intro  ls H locs s0 hl hV hw
    unfold w_M_makePipe_52 at hw
    refine lv_aload_n hx hb d_M_makePipe_52 rfl (lv_at hl 0 rfl) ?_
    refine lv_iload_n hx hb d_M_makePipe_53 rfl (lv_at hl 1 rfl) ?_
    refine lv_iconst (v := -1) hx hb d_M_makePipe_54 (by decide) ?_
    refine kc_M_M_push hx hb hml hown hts hV hK hX hAe (c_M_push l E s0 x1 (-1 : Int32) _ hw) hl.1 (Nat.le_of_ble_eq_true rfl) d_M_makePipe_55 (Nat.le_of_ble_eq_true rfl) (Nat.le_of_ble_eq_true rfl) (fun s1 H locs hw hV => ?_)
    refine lv_aload_n hx hb d_M_makePipe_58 rfl (lv_at hl 0 rfl) ?_
    refine lv_iload_n hx hb d_M_makePipe_59 rfl (lv_at hl 1 rfl) ?_
    refine lv_iconst (v := -1) hx hb d_M_makePipe_60 (by decide) ?_
    refine kc_M_M_push hx hb hml hown hts hV hK hX hAe (c_M_push l E s1 x1 (-1 : Int32) _ hw) hl.1 (Nat.le_of_ble_eq_true rfl) d_M_makePipe_61 (Nat.le_of_ble_eq_true rfl) (Nat.le_of_ble_eq_true rfl) (fun s2 H locs hw hV => ?_)
    exact kr_v hx hb hr hV hK hX hAe hw d_M_makePipe_64
  have J22 : ∀ (ls : Array Slot) (H : Heap) (locs : List Loc) (s0 : KS) (v2 : Int32), lv_has ls 5 [(0, .ref (ea E 20 0)), (1, .int x1), (2, .int v2)] → gV E MM A s0 s H locs → w_M_makePipe_22 x1 Φ v2 s0 → W p l e m_M_makePipe s m ([.ref (ea E 20 0), .int x1] : List Value).toArray below meth c H locs 0 0 (MQ below (gQv E MM A Φ) ([.ref (ea E 20 0), .int x1] : List Value).toArray s 0 0 A) (F0 m 22 ls []) := by
    intro  ls H locs s0 v2 hl hV hw
    unfold w_M_makePipe_22 at hw
    refine lv_aload_n hx hb d_M_makePipe_22 rfl (lv_at hl 0 rfl) ?_
    refine lv_iload_n hx hb d_M_makePipe_23 rfl (lv_at hl 1 rfl) ?_
    refine lv_iconst (v := 0) hx hb d_M_makePipe_24 (by decide) ?_
    refine kc_M_M_freeDescriptor hx hb hml hown hts hV hK hX hAe (c_M_freeDescriptor l E s0 x1 (0 : Int32) _ hw) hl.1 (Nat.le_of_ble_eq_true rfl) d_M_makePipe_25 (Nat.le_of_ble_eq_true rfl) (Nat.le_of_ble_eq_true rfl) (fun r2 s1 H locs hw hV => ?_)
    refine lv_istore_n (lv' := [(3, .int r2), (0, .ref (ea E 20 0)), (1, .int x1), (2, .int v2)]) hx hb d_M_makePipe_28 rfl hl (by decide) rfl (fun ls hl => ?_)
    refine lv_aload_n hx hb d_M_makePipe_29 rfl (lv_at hl 1 rfl) ?_
    refine lv_iload_n hx hb d_M_makePipe_30 rfl (lv_at hl 2 rfl) ?_
    refine lv_iload_n hx hb d_M_makePipe_31 rfl (lv_at hl 0 rfl) ?_
    refine lv_iconst (v := 1) hx hb d_M_makePipe_32 (by decide) ?_
    refine lv_iadd hx hb d_M_makePipe_33 ?_
    refine kc_M_M_freeDescriptor hx hb hml hown hts hV hK hX hAe (c_M_freeDescriptor l E s1 x1 (r2 + (1 : Int32)) _ hw) hl.1 (Nat.le_of_ble_eq_true rfl) d_M_makePipe_34 (Nat.le_of_ble_eq_true rfl) (Nat.le_of_ble_eq_true rfl) (fun r4 s3 H locs hw hV => ?_)
    refine lv_istore (lv' := [(4, .int r4), (3, .int r2), (0, .ref (ea E 20 0)), (1, .int x1), (2, .int v2)]) hx hb d_M_makePipe_37 hl (by decide) rfl (fun ls hl => ?_)
    refine lv_iload_n hx hb d_M_makePipe_39 rfl (lv_at hl 4 rfl) ?_
    refine lv_bipush (v := 8) hx hb d_M_makePipe_40 (by decide) ?_
    refine lv_icmp_eq (tgt := 52) hx hb d_M_makePipe_42 rfl (fun hc => ?_) (fun hc => ?_)
    · have hw := hw.1 hc
      exact J52 _ _ _ s3 (lv_sub hl [2, 3] rfl) hV hw
    · have hw := hw.2 hc
      refine lv_iload hx hb d_M_makePipe_45 (lv_at hl 0 rfl) ?_
      refine lv_bipush (v := 8) hx hb d_M_makePipe_47 (by decide) ?_
      refine lv_icmp_lt (tgt := 65) hx hb d_M_makePipe_49 rfl (fun hc => ?_) (fun hc => ?_)
      · have hw := hw.1 hc
        refine lv_aload_n hx hb d_M_makePipe_65 rfl (lv_at hl 2 rfl) ?_
        refine kg_M_M_descriptors hx hb hG hown hK hV d_M_makePipe_66 ?_
        refine lv_bipush (v := 8) hx hb d_M_makePipe_69 (by decide) ?_
        refine lv_iload_n hx hb d_M_makePipe_71 rfl (lv_at hl 3 rfl) ?_
        refine lv_imul hx hb d_M_makePipe_72 ?_
        refine lv_iload_n hx hb d_M_makePipe_73 rfl (lv_at hl 1 rfl) ?_
        refine lv_iadd hx hb d_M_makePipe_74 ?_
        refine lv_bipush (v := 10) hx hb d_M_makePipe_75 (by decide) ?_
        refine lv_iload_n hx hb d_M_makePipe_77 rfl (lv_at hl 4 rfl) ?_
        refine lv_iadd hx hb d_M_makePipe_78 ?_
        refine ks_31 hx hb hK hV hw.1 d_M_makePipe_79 (fun s5 H locs es5 hV => ?_)
        have hw := hw.2 s5 es5
        refine lv_aload_n hx hb d_M_makePipe_80 rfl (lv_at hl 2 rfl) ?_
        refine kg_M_M_descriptors hx hb hG hown hK hV d_M_makePipe_81 ?_
        refine lv_bipush (v := 8) hx hb d_M_makePipe_84 (by decide) ?_
        refine lv_iload_n hx hb d_M_makePipe_86 rfl (lv_at hl 3 rfl) ?_
        refine lv_imul hx hb d_M_makePipe_87 ?_
        refine lv_iload hx hb d_M_makePipe_88 (lv_at hl 0 rfl) ?_
        refine lv_iadd hx hb d_M_makePipe_90 ?_
        refine lv_bipush (v := 20) hx hb d_M_makePipe_91 (by decide) ?_
        refine lv_iload_n hx hb d_M_makePipe_93 rfl (lv_at hl 4 rfl) ?_
        refine lv_iadd hx hb d_M_makePipe_94 ?_
        refine ks_31 hx hb hK hV hw.1 d_M_makePipe_95 (fun s6 H locs es6 hV => ?_)
        have hw := hw.2 s6 es6
        refine lv_aload_n hx hb d_M_makePipe_96 rfl (lv_at hl 2 rfl) ?_
        refine kg_M_M_filled hx hb hG hown hK hV d_M_makePipe_97 ?_
        refine lv_iload_n hx hb d_M_makePipe_100 rfl (lv_at hl 4 rfl) ?_
        refine lv_iconst (v := 0) hx hb d_M_makePipe_101 (by decide) ?_
        refine ks_42 hx hb hK hV hw.1 d_M_makePipe_102 (fun s7 H locs es7 hV => ?_)
        have hw := hw.2 s7 es7
        refine lv_aload_n hx hb d_M_makePipe_103 rfl (lv_at hl 2 rfl) ?_
        refine lv_iload_n hx hb d_M_makePipe_104 rfl (lv_at hl 3 rfl) ?_
        refine lv_iload_n hx hb d_M_makePipe_105 rfl (lv_at hl 1 rfl) ?_
        refine kc_M_M_push hx hb hml hown hts hV hK hX hAe (c_M_push l E s7 x1 r2 _ hw) hl.1 (Nat.le_of_ble_eq_true rfl) d_M_makePipe_106 (Nat.le_of_ble_eq_true rfl) (Nat.le_of_ble_eq_true rfl) (fun s8 H locs hw hV => ?_)
        refine lv_aload_n hx hb d_M_makePipe_109 rfl (lv_at hl 2 rfl) ?_
        refine lv_iload_n hx hb d_M_makePipe_110 rfl (lv_at hl 3 rfl) ?_
        refine lv_iload hx hb d_M_makePipe_111 (lv_at hl 0 rfl) ?_
        refine kc_M_M_push hx hb hml hown hts hV hK hX hAe (c_M_push l E s8 x1 r4 _ hw) hl.1 (Nat.le_of_ble_eq_true rfl) d_M_makePipe_113 (Nat.le_of_ble_eq_true rfl) (Nat.le_of_ble_eq_true rfl) (fun s9 H locs hw hV => ?_)
        exact kr_v hx hb hr hV hK hX hAe hw d_M_makePipe_116
      · have hw := hw.2 hc
        exact J52 _ _ _ s3 (lv_sub hl [2, 3] rfl) hV hw
  have L2 : ∀ (n : Nat), ∀ (ls : Array Slot) (H : Heap) (locs : List Loc) (s0 : KS) (v2 : Int32), lv_has ls 5 [(0, .ref (ea E 20 0)), (1, .int x1), (2, .int v2)] → gV E MM A s0 s H locs → w_M_makePipe_2 x1 Φ n v2 s0 → W p l e m_M_makePipe s m ([.ref (ea E 20 0), .int x1] : List Value).toArray below meth c H locs 0 0 (MQ below (gQv E MM A Φ) ([.ref (ea E 20 0), .int x1] : List Value).toArray s 0 0 A) (F0 m 2 ls []) := by
    intro n
    induction n with
    | zero =>
      intro ls H locs s0 v2 hl hV hw
      exact False.elim hw
    | succ n ih =>
      intro ls H locs s0 v2 hl hV hw
      unfold w_M_makePipe_2 at hw
      refine lv_iload_n hx hb d_M_makePipe_2 rfl (lv_at hl 2 rfl) ?_
      refine lv_bipush (v := 8) hx hb d_M_makePipe_3 (by decide) ?_
      refine lv_icmp_ge (tgt := 22) hx hb d_M_makePipe_5 rfl (fun hc => ?_) (fun hc => ?_)
      · have hw := hw.1 hc
        exact J22 _ _ _ s0 v2 (lv_sub hl [0, 1, 2] rfl) hV hw
      · have hw := hw.2 hc
        refine lv_aload_n hx hb d_M_makePipe_8 rfl (lv_at hl 0 rfl) ?_
        refine lv_iload_n hx hb d_M_makePipe_9 rfl (lv_at hl 2 rfl) ?_
        refine kc_M_M_isPipe hx hb hml hown hts hV hK hX hAe (c_M_isPipe l E s0 v2 _ hw) hl.1 (Nat.le_of_ble_eq_true rfl) d_M_makePipe_10 (Nat.le_of_ble_eq_true rfl) (Nat.le_of_ble_eq_true rfl) (fun r2 s1 H locs hw hV => ?_)
        refine lv_if_eq (tgt := 22) hx hb d_M_makePipe_13 rfl (fun hc => ?_) (fun hc => ?_)
        · have hw := hw.1 hc
          exact J22 _ _ _ s1 v2 (lv_sub hl [0, 1, 2] rfl) hV hw
        · have hw := hw.2 hc
          obtain ⟨y3, ey3⟩ : ∃ z : Int32, z = v2 + (1 : Int32) := ⟨_, rfl⟩
          have hw := hw y3 ey3
          refine lv_iinc (k := 2) (v := y3) (lv' := [(2, .int y3), (0, .ref (ea E 20 0)), (1, .int x1)]) hx hb d_M_makePipe_16 hl rfl (by rw [ey3]; rfl) (by decide) rfl (fun ls hl => ?_)
          refine lv_goto (tgt := 2) hx hb d_M_makePipe_19 rfl ?_
          exact ih _ _ _ s1 y3 (lv_sub hl [1, 2, 0] rfl) hV hw
  unfold w_M_makePipe at hw
  refine lv_iconst (v := 0) hx hb d_M_makePipe_0 (by decide) ?_
  refine lv_istore_n (lv' := [(2, .int (0 : Int32)), (0, .ref (ea E 20 0)), (1, .int x1)]) hx hb d_M_makePipe_1 rfl hl (by decide) rfl (fun ls hl => ?_)
  obtain ⟨nn, hw⟩ := hw
  exact L2 nn _ _ _ s0 (0 : Int32) (lv_sub hl [1, 2, 0] rfl) hV hw
theorem d_M_read_0 : decode b_M_read 0 = .ok (.aload_n 0, 1) := by decide +kernel
theorem d_M_read_1 : decode b_M_read 1 = .ok (.iload_n 1, 1) := by decide +kernel
theorem d_M_read_2 : decode b_M_read 2 = .ok (.iload_n 2, 1) := by decide +kernel
theorem d_M_read_3 : decode b_M_read 3 = .ok (.invokevirtual 116, 3) := by decide +kernel
theorem d_M_read_6 : decode b_M_read 6 = .ok (.istore_n 3, 1) := by decide +kernel
theorem d_M_read_7 : decode b_M_read 7 = .ok (.iload_n 3, 1) := by decide +kernel
theorem d_M_read_8 : decode b_M_read 8 = .ok (.iconst 1, 1) := by decide +kernel
theorem d_M_read_9 : decode b_M_read 9 = .ok (.if_icmp .ne 74, 3) := by decide +kernel
theorem d_M_read_12 : decode b_M_read 12 = .ok (.aload_n 0, 1) := by decide +kernel
theorem d_M_read_13 : decode b_M_read 13 = .ok (.getfield 119, 3) := by decide +kernel
theorem d_M_read_16 : decode b_M_read 16 = .ok (.ifCond .le 67, 3) := by decide +kernel
theorem d_M_read_19 : decode b_M_read 19 = .ok (.aload_n 0, 1) := by decide +kernel
theorem d_M_read_20 : decode b_M_read 20 = .ok (.iload_n 1, 1) := by decide +kernel
theorem d_M_read_21 : decode b_M_read 21 = .ok (.aload_n 0, 1) := by decide +kernel
theorem d_M_read_22 : decode b_M_read 22 = .ok (.getfield 55, 3) := by decide +kernel
theorem d_M_read_25 : decode b_M_read 25 = .ok (.iconst 0, 1) := by decide +kernel
theorem d_M_read_26 : decode b_M_read 26 = .ok (.iaload, 1) := by decide +kernel
theorem d_M_read_27 : decode b_M_read 27 = .ok (.invokevirtual 155, 3) := by decide +kernel
theorem d_M_read_30 : decode b_M_read 30 = .ok (.aload_n 0, 1) := by decide +kernel
theorem d_M_read_31 : decode b_M_read 31 = .ok (.iload_n 1, 1) := by decide +kernel
theorem d_M_read_32 : decode b_M_read 32 = .ok (.iconst 1, 1) := by decide +kernel
theorem d_M_read_33 : decode b_M_read 33 = .ok (.invokevirtual 155, 3) := by decide +kernel
theorem d_M_read_36 : decode b_M_read 36 = .ok (.aload_n 0, 1) := by decide +kernel
theorem d_M_read_37 : decode b_M_read 37 = .ok (.dup, 1) := by decide +kernel
theorem d_M_read_38 : decode b_M_read 38 = .ok (.getfield 119, 3) := by decide +kernel
theorem d_M_read_41 : decode b_M_read 41 = .ok (.iconst 1, 1) := by decide +kernel
theorem d_M_read_42 : decode b_M_read 42 = .ok (.isub, 1) := by decide +kernel
theorem d_M_read_43 : decode b_M_read 43 = .ok (.putfield 119, 3) := by decide +kernel
theorem d_M_read_46 : decode b_M_read 46 = .ok (.iconst 0, 1) := by decide +kernel
theorem d_M_read_47 : decode b_M_read 47 = .ok (.istore 4, 2) := by decide +kernel
theorem d_M_read_49 : decode b_M_read 49 = .ok (.iload 4, 2) := by decide +kernel
theorem d_M_read_51 : decode b_M_read 51 = .ok (.aload_n 0, 1) := by decide +kernel
theorem d_M_read_52 : decode b_M_read 52 = .ok (.getfield 119, 3) := by decide +kernel
theorem d_M_read_55 : decode b_M_read 55 = .ok (.if_icmp .ge 25, 3) := by decide +kernel
theorem d_M_read_58 : decode b_M_read 58 = .ok (.aload_n 0, 1) := by decide +kernel
theorem d_M_read_59 : decode b_M_read 59 = .ok (.getfield 55, 3) := by decide +kernel
theorem d_M_read_62 : decode b_M_read 62 = .ok (.iload 4, 2) := by decide +kernel
theorem d_M_read_64 : decode b_M_read 64 = .ok (.aload_n 0, 1) := by decide +kernel
theorem d_M_read_65 : decode b_M_read 65 = .ok (.getfield 55, 3) := by decide +kernel
theorem d_M_read_68 : decode b_M_read 68 = .ok (.iload 4, 2) := by decide +kernel
theorem d_M_read_70 : decode b_M_read 70 = .ok (.iconst 1, 1) := by decide +kernel
theorem d_M_read_71 : decode b_M_read 71 = .ok (.iadd, 1) := by decide +kernel
theorem d_M_read_72 : decode b_M_read 72 = .ok (.iaload, 1) := by decide +kernel
theorem d_M_read_73 : decode b_M_read 73 = .ok (.iastore, 1) := by decide +kernel
theorem d_M_read_74 : decode b_M_read 74 = .ok (.iinc 4 1, 3) := by decide +kernel
theorem d_M_read_77 : decode b_M_read 77 = .ok (.goto (-28), 3) := by decide +kernel
theorem d_M_read_80 : decode b_M_read 80 = .ok (.goto 82, 3) := by decide +kernel
theorem d_M_read_83 : decode b_M_read 83 = .ok (.iload_n 3, 1) := by decide +kernel
theorem d_M_read_84 : decode b_M_read 84 = .ok (.bipush 10, 2) := by decide +kernel
theorem d_M_read_86 : decode b_M_read 86 = .ok (.if_icmp .lt 43, 3) := by decide +kernel
theorem d_M_read_89 : decode b_M_read 89 = .ok (.iload_n 3, 1) := by decide +kernel
theorem d_M_read_90 : decode b_M_read 90 = .ok (.bipush 20, 2) := by decide +kernel
theorem d_M_read_92 : decode b_M_read 92 = .ok (.if_icmp .ge 37, 3) := by decide +kernel
theorem d_M_read_95 : decode b_M_read 95 = .ok (.aload_n 0, 1) := by decide +kernel
theorem d_M_read_96 : decode b_M_read 96 = .ok (.getfield 52, 3) := by decide +kernel
theorem d_M_read_99 : decode b_M_read 99 = .ok (.iload_n 3, 1) := by decide +kernel
theorem d_M_read_100 : decode b_M_read 100 = .ok (.bipush 10, 2) := by decide +kernel
theorem d_M_read_102 : decode b_M_read 102 = .ok (.isub, 1) := by decide +kernel
theorem d_M_read_103 : decode b_M_read 103 = .ok (.iaload, 1) := by decide +kernel
theorem d_M_read_104 : decode b_M_read 104 = .ok (.ifCond .le 25, 3) := by decide +kernel
theorem d_M_read_107 : decode b_M_read 107 = .ok (.aload_n 0, 1) := by decide +kernel
theorem d_M_read_108 : decode b_M_read 108 = .ok (.iload_n 1, 1) := by decide +kernel
theorem d_M_read_109 : decode b_M_read 109 = .ok (.aload_n 0, 1) := by decide +kernel
theorem d_M_read_110 : decode b_M_read 110 = .ok (.iload_n 3, 1) := by decide +kernel
theorem d_M_read_111 : decode b_M_read 111 = .ok (.bipush 10, 2) := by decide +kernel
theorem d_M_read_113 : decode b_M_read 113 = .ok (.isub, 1) := by decide +kernel
theorem d_M_read_114 : decode b_M_read 114 = .ok (.invokevirtual 196, 3) := by decide +kernel
theorem d_M_read_117 : decode b_M_read 117 = .ok (.invokevirtual 155, 3) := by decide +kernel
theorem d_M_read_120 : decode b_M_read 120 = .ok (.aload_n 0, 1) := by decide +kernel
theorem d_M_read_121 : decode b_M_read 121 = .ok (.iload_n 1, 1) := by decide +kernel
theorem d_M_read_122 : decode b_M_read 122 = .ok (.iconst 1, 1) := by decide +kernel
theorem d_M_read_123 : decode b_M_read 123 = .ok (.invokevirtual 155, 3) := by decide +kernel
theorem d_M_read_126 : decode b_M_read 126 = .ok (.goto 36, 3) := by decide +kernel
theorem d_M_read_129 : decode b_M_read 129 = .ok (.aload_n 0, 1) := by decide +kernel
theorem d_M_read_130 : decode b_M_read 130 = .ok (.iload_n 1, 1) := by decide +kernel
theorem d_M_read_131 : decode b_M_read 131 = .ok (.iconst 0, 1) := by decide +kernel
theorem d_M_read_132 : decode b_M_read 132 = .ok (.invokevirtual 155, 3) := by decide +kernel
theorem d_M_read_135 : decode b_M_read 135 = .ok (.aload_n 0, 1) := by decide +kernel
theorem d_M_read_136 : decode b_M_read 136 = .ok (.iload_n 1, 1) := by decide +kernel
theorem d_M_read_137 : decode b_M_read 137 = .ok (.iload_n 3, 1) := by decide +kernel
theorem d_M_read_138 : decode b_M_read 138 = .ok (.iconst 1, 1) := by decide +kernel
theorem d_M_read_139 : decode b_M_read 139 = .ok (.if_icmp .eq 15, 3) := by decide +kernel
theorem d_M_read_142 : decode b_M_read 142 = .ok (.iload_n 3, 1) := by decide +kernel
theorem d_M_read_143 : decode b_M_read 143 = .ok (.bipush 10, 2) := by decide +kernel
theorem d_M_read_145 : decode b_M_read 145 = .ok (.if_icmp .lt 13, 3) := by decide +kernel
theorem d_M_read_148 : decode b_M_read 148 = .ok (.iload_n 3, 1) := by decide +kernel
theorem d_M_read_149 : decode b_M_read 149 = .ok (.bipush 20, 2) := by decide +kernel
theorem d_M_read_151 : decode b_M_read 151 = .ok (.if_icmp .ge 7, 3) := by decide +kernel
theorem d_M_read_154 : decode b_M_read 154 = .ok (.iconst 0, 1) := by decide +kernel
theorem d_M_read_155 : decode b_M_read 155 = .ok (.goto 4, 3) := by decide +kernel
theorem d_M_read_158 : decode b_M_read 158 = .ok (.iconst (-1), 1) := by decide +kernel
theorem d_M_read_159 : decode b_M_read 159 = .ok (.invokevirtual 155, 3) := by decide +kernel
theorem d_M_read_162 : decode b_M_read 162 = .ok (.return_, 1) := by decide +kernel
def w_M_read_159 (x1 : Int32) (x2 : Int32) (Φ : KS → Prop) (t0 : Int32) (s0 : KS) : Prop := w_M_push x1 t0 s0 (fun s1 => Φ s1)
def w_M_read_158 (x1 : Int32) (x2 : Int32) (Φ : KS → Prop) (s0 : KS) : Prop := w_M_read_159 x1 x2 Φ (-1 : Int32) s0
def w_M_read_154 (x1 : Int32) (x2 : Int32) (Φ : KS → Prop) (s0 : KS) : Prop := w_M_read_159 x1 x2 Φ (0 : Int32) s0
def w_M_read_129 (x1 : Int32) (x2 : Int32) (Φ : KS → Prop) (v3 : Int32) (s0 : KS) : Prop := w_M_push x1 (0 : Int32) s0 (fun s1 => ((v3 = (1 : Int32) → w_M_read_154 x1 x2 Φ s1) ∧ (¬ v3 = (1 : Int32) → ((v3 < (10 : Int32) → w_M_read_158 x1 x2 Φ s1) ∧ (¬ v3 < (10 : Int32) → (((20 : Int32) ≤ v3 → w_M_read_158 x1 x2 Φ s1) ∧ (¬ (20 : Int32) ≤ v3 → w_M_read_154 x1 x2 Φ s1)))))))
def w_M_read_83 (x1 : Int32) (x2 : Int32) (Φ : KS → Prop) (v3 : Int32) (s0 : KS) : Prop := ((v3 < (10 : Int32) → w_M_read_129 x1 x2 Φ v3 s0) ∧ (¬ v3 < (10 : Int32) → (((20 : Int32) ≤ v3 → w_M_read_129 x1 x2 Φ v3 s0) ∧ (¬ (20 : Int32) ≤ v3 → vp_in (v3 - (10 : Int32)) 8 ∧ (((s0 42 0 (v3 - (10 : Int32)).toNatClampNeg) ≤ 0 → w_M_read_129 x1 x2 Φ v3 s0) ∧ (¬ (s0 42 0 (v3 - (10 : Int32)).toNatClampNeg) ≤ 0 → w_M_outOfPipe (v3 - (10 : Int32)) s0 (fun r2 s1 => w_M_push x1 r2 s1 (fun s3 => w_M_push x1 (1 : Int32) s3 (fun s4 => Φ s4)))))))))
def w_M_read_49 (x1 : Int32) (x2 : Int32) (Φ : KS → Prop) : Nat → Int32 → KS → Prop
  | 0, _, _ => False
  | n + 1, v4, s0 => (((s0 20 0 24) ≤ v4 → Φ s0) ∧ (¬ (s0 20 0 24) ≤ v4 → vp_in (v4 + (1 : Int32)) 100 ∧ vp_in v4 100 ∧ ∀ s1 : KS, s1 = w3 s0 43 0 v4.toNatClampNeg (s0 43 0 (v4 + (1 : Int32)).toNatClampNeg) → ∀ y2 : Int32, y2 = v4 + (1 : Int32) → w_M_read_49 x1 x2 Φ n y2 s1))
def w_M_read (x1 : Int32) (x2 : Int32) (s0 : KS) (Φ : KS → Prop) : Prop := w_M_descriptorOf x1 x2 s0 (fun r2 s1 => ((¬ r2 = (1 : Int32) → w_M_read_83 x1 x2 Φ r2 s1) ∧ (r2 = (1 : Int32) → (((s1 20 0 24) ≤ 0 → w_M_read_83 x1 x2 Φ r2 s1) ∧ (¬ (s1 20 0 24) ≤ 0 → vp_in (0 : Int32) 100 ∧ w_M_push x1 (s1 43 0 (0 : Int32).toNatClampNeg) s1 (fun s3 => w_M_push x1 (1 : Int32) s3 (fun s4 => ∀ s5 : KS, s5 = w3 s4 20 0 24 ((s4 20 0 24) - (1 : Int32)) → ∃ nn : Nat, w_M_read_49 x1 x2 Φ nn (0 : Int32) s5)))))))
set_option maxHeartbeats 4000000 in
set_option maxRecDepth 100000 in
theorem c_M_read (l : Launch) (E : gE) (s0 : KS) (x1 : Int32) (x2 : Int32) (Φ : KS → Prop) (hw : w_M_read x1 x2 s0 Φ) : gMv l y_M_read v_M_read m_M_read E MM [.ref (ea E 20 0), .int x1, .int x2] s0 Φ := by
  intro sz
  refine Met.ofW (cc := b_M_read) (maxL := 5) (ret := none) (by decide) rfl ?_
  intro p e s m args below meth c s₁ B hml hv
  obtain ⟨rfl, hsz, hP, hK, hD, hX⟩ := hv
  have hx := B.exec
  have hb := B.bytes
  have hr := B.returns
  have hts := atoms_spec (ws := v_M_read) B.pre
  have hG : ∀ w ∈ gG, w.before _ s = true := fun w h => hts w (List.mem_cons_of_mem _ h)
  have hown : s.vm.findClass R_M = some m.cls := findClass_of_methodNamed B.named
  have hlocks := B.notSynchronized
  subst hsz
  obtain ⟨A, hAe⟩ : ∃ A, A = gA E MM s.heap.size := ⟨_, rfl⟩
  rw [← hAe] at hD hX ⊢
  have hV : gV E MM A s0 s s.heap [] := ⟨hP, hD, va_S.rf⟩
  have hl := lv_entry ([.ref (ea E 20 0), .int x1, .int x2] : List Value) (n := 5) (Nat.le_of_ble_eq_true rfl)
  rw [lg_entry_eq]
  generalize (lg_sl ([.ref (ea E 20 0), .int x1, .int x2] : List Value) ++ List.replicate (5 - (lg_sl ([.ref (ea E 20 0), .int x1, .int x2] : List Value)).length) Slot.unset).toArray = ls at hl ⊢
  have hl : lv_has ls 5 [(0, .ref (ea E 20 0)), (1, .int x1), (2, .int x2)] := hl
  have J159 : ∀ (ls : Array Slot) (H : Heap) (locs : List Loc) (s0 : KS) (t0 : Int32), lv_has ls 5 [] → gV E MM A s0 s H locs → w_M_read_159 x1 x2 Φ t0 s0 → W p l e m_M_read s m ([.ref (ea E 20 0), .int x1, .int x2] : List Value).toArray below meth c H locs 0 0 (MQ below (gQv E MM A Φ) ([.ref (ea E 20 0), .int x1, .int x2] : List Value).toArray s 0 0 A) (F0 m 159 ls [.int t0, .int x1, .ref (ea E 20 0)]) := by
    intro  ls H locs s0 t0 hl hV hw
    unfold w_M_read_159 at hw
    refine kc_M_M_push hx hb hml hown hts hV hK hX hAe (c_M_push l E s0 x1 t0 _ hw) hl.1 (Nat.le_of_ble_eq_true rfl) d_M_read_159 (Nat.le_of_ble_eq_true rfl) (Nat.le_of_ble_eq_true rfl) (fun s1 H locs hw hV => ?_)
    exact kr_v hx hb hr hV hK hX hAe hw d_M_read_162
  have J158 : ∀ (ls : Array Slot) (H : Heap) (locs : List Loc) (s0 : KS), lv_has ls 5 [] → gV E MM A s0 s H locs → w_M_read_158 x1 x2 Φ s0 → W p l e m_M_read s m ([.ref (ea E 20 0), .int x1, .int x2] : List Value).toArray below meth c H locs 0 0 (MQ below (gQv E MM A Φ) ([.ref (ea E 20 0), .int x1, .int x2] : List Value).toArray s 0 0 A) (F0 m 158 ls [.int x1, .ref (ea E 20 0)]) := by
    intro  ls H locs s0 hl hV hw
    unfold w_M_read_158 at hw
    refine lv_iconst (v := -1) hx hb d_M_read_158 (by decide) ?_
    exact J159 _ _ _ s0 (-1 : Int32) (lv_sub hl [] rfl) hV hw
  have J154 : ∀ (ls : Array Slot) (H : Heap) (locs : List Loc) (s0 : KS), lv_has ls 5 [] → gV E MM A s0 s H locs → w_M_read_154 x1 x2 Φ s0 → W p l e m_M_read s m ([.ref (ea E 20 0), .int x1, .int x2] : List Value).toArray below meth c H locs 0 0 (MQ below (gQv E MM A Φ) ([.ref (ea E 20 0), .int x1, .int x2] : List Value).toArray s 0 0 A) (F0 m 154 ls [.int x1, .ref (ea E 20 0)]) := by
    intro  ls H locs s0 hl hV hw
    unfold w_M_read_154 at hw
    refine lv_iconst (v := 0) hx hb d_M_read_154 (by decide) ?_
    refine lv_goto (tgt := 159) hx hb d_M_read_155 rfl ?_
    exact J159 _ _ _ s0 (0 : Int32) (lv_sub hl [] rfl) hV hw
  have J129 : ∀ (ls : Array Slot) (H : Heap) (locs : List Loc) (s0 : KS) (v3 : Int32), lv_has ls 5 [(0, .ref (ea E 20 0)), (1, .int x1), (3, .int v3)] → gV E MM A s0 s H locs → w_M_read_129 x1 x2 Φ v3 s0 → W p l e m_M_read s m ([.ref (ea E 20 0), .int x1, .int x2] : List Value).toArray below meth c H locs 0 0 (MQ below (gQv E MM A Φ) ([.ref (ea E 20 0), .int x1, .int x2] : List Value).toArray s 0 0 A) (F0 m 129 ls []) := by
    intro  ls H locs s0 v3 hl hV hw
    unfold w_M_read_129 at hw
    refine lv_aload_n hx hb d_M_read_129 rfl (lv_at hl 0 rfl) ?_
    refine lv_iload_n hx hb d_M_read_130 rfl (lv_at hl 1 rfl) ?_
    refine lv_iconst (v := 0) hx hb d_M_read_131 (by decide) ?_
    refine kc_M_M_push hx hb hml hown hts hV hK hX hAe (c_M_push l E s0 x1 (0 : Int32) _ hw) hl.1 (Nat.le_of_ble_eq_true rfl) d_M_read_132 (Nat.le_of_ble_eq_true rfl) (Nat.le_of_ble_eq_true rfl) (fun s1 H locs hw hV => ?_)
    refine lv_aload_n hx hb d_M_read_135 rfl (lv_at hl 0 rfl) ?_
    refine lv_iload_n hx hb d_M_read_136 rfl (lv_at hl 1 rfl) ?_
    refine lv_iload_n hx hb d_M_read_137 rfl (lv_at hl 2 rfl) ?_
    refine lv_iconst (v := 1) hx hb d_M_read_138 (by decide) ?_
    refine lv_icmp_eq (tgt := 154) hx hb d_M_read_139 rfl (fun hc => ?_) (fun hc => ?_)
    · have hw := hw.1 hc
      exact J154 _ _ _ s1 (lv_sub hl [] rfl) hV hw
    · have hw := hw.2 hc
      refine lv_iload_n hx hb d_M_read_142 rfl (lv_at hl 2 rfl) ?_
      refine lv_bipush (v := 10) hx hb d_M_read_143 (by decide) ?_
      refine lv_icmp_lt (tgt := 158) hx hb d_M_read_145 rfl (fun hc => ?_) (fun hc => ?_)
      · have hw := hw.1 hc
        exact J158 _ _ _ s1 (lv_sub hl [] rfl) hV hw
      · have hw := hw.2 hc
        refine lv_iload_n hx hb d_M_read_148 rfl (lv_at hl 2 rfl) ?_
        refine lv_bipush (v := 20) hx hb d_M_read_149 (by decide) ?_
        refine lv_icmp_ge (tgt := 158) hx hb d_M_read_151 rfl (fun hc => ?_) (fun hc => ?_)
        · have hw := hw.1 hc
          exact J158 _ _ _ s1 (lv_sub hl [] rfl) hV hw
        · have hw := hw.2 hc
          exact J154 _ _ _ s1 (lv_sub hl [] rfl) hV hw
  have J83 : ∀ (ls : Array Slot) (H : Heap) (locs : List Loc) (s0 : KS) (v3 : Int32), lv_has ls 5 [(0, .ref (ea E 20 0)), (1, .int x1), (3, .int v3)] → gV E MM A s0 s H locs → w_M_read_83 x1 x2 Φ v3 s0 → W p l e m_M_read s m ([.ref (ea E 20 0), .int x1, .int x2] : List Value).toArray below meth c H locs 0 0 (MQ below (gQv E MM A Φ) ([.ref (ea E 20 0), .int x1, .int x2] : List Value).toArray s 0 0 A) (F0 m 83 ls []) := by
    intro  ls H locs s0 v3 hl hV hw
    unfold w_M_read_83 at hw
    refine lv_iload_n hx hb d_M_read_83 rfl (lv_at hl 2 rfl) ?_
    refine lv_bipush (v := 10) hx hb d_M_read_84 (by decide) ?_
    refine lv_icmp_lt (tgt := 129) hx hb d_M_read_86 rfl (fun hc => ?_) (fun hc => ?_)
    · have hw := hw.1 hc
      exact J129 _ _ _ s0 v3 (lv_sub hl [0, 1, 2] rfl) hV hw
    · have hw := hw.2 hc
      refine lv_iload_n hx hb d_M_read_89 rfl (lv_at hl 2 rfl) ?_
      refine lv_bipush (v := 20) hx hb d_M_read_90 (by decide) ?_
      refine lv_icmp_ge (tgt := 129) hx hb d_M_read_92 rfl (fun hc => ?_) (fun hc => ?_)
      · have hw := hw.1 hc
        exact J129 _ _ _ s0 v3 (lv_sub hl [0, 1, 2] rfl) hV hw
      · have hw := hw.2 hc
        refine lv_aload_n hx hb d_M_read_95 rfl (lv_at hl 0 rfl) ?_
        refine kg_M_M_filled hx hb hG hown hK hV d_M_read_96 ?_
        refine lv_iload_n hx hb d_M_read_99 rfl (lv_at hl 2 rfl) ?_
        refine lv_bipush (v := 10) hx hb d_M_read_100 (by decide) ?_
        refine lv_isub hx hb d_M_read_102 ?_
        refine kl_42 hx hb hK hV hw.1 d_M_read_103 ?_
        have hw := hw.2
        refine lv_if_le (tgt := 129) hx hb d_M_read_104 rfl (fun hc => ?_) (fun hc => ?_)
        · have hw := hw.1 hc
          exact J129 _ _ _ s0 v3 (lv_sub hl [0, 1, 2] rfl) hV hw
        · have hw := hw.2 hc
          refine lv_aload_n hx hb d_M_read_107 rfl (lv_at hl 0 rfl) ?_
          refine lv_iload_n hx hb d_M_read_108 rfl (lv_at hl 1 rfl) ?_
          refine lv_aload_n hx hb d_M_read_109 rfl (lv_at hl 0 rfl) ?_
          refine lv_iload_n hx hb d_M_read_110 rfl (lv_at hl 2 rfl) ?_
          refine lv_bipush (v := 10) hx hb d_M_read_111 (by decide) ?_
          refine lv_isub hx hb d_M_read_113 ?_
          refine kc_M_M_outOfPipe hx hb hml hown hts hV hK hX hAe (c_M_outOfPipe l E s0 (v3 - (10 : Int32)) _ hw) hl.1 (Nat.le_of_ble_eq_true rfl) d_M_read_114 (Nat.le_of_ble_eq_true rfl) (Nat.le_of_ble_eq_true rfl) (fun r2 s1 H locs hw hV => ?_)
          refine kc_M_M_push hx hb hml hown hts hV hK hX hAe (c_M_push l E s1 x1 r2 _ hw) hl.1 (Nat.le_of_ble_eq_true rfl) d_M_read_117 (Nat.le_of_ble_eq_true rfl) (Nat.le_of_ble_eq_true rfl) (fun s3 H locs hw hV => ?_)
          refine lv_aload_n hx hb d_M_read_120 rfl (lv_at hl 0 rfl) ?_
          refine lv_iload_n hx hb d_M_read_121 rfl (lv_at hl 1 rfl) ?_
          refine lv_iconst (v := 1) hx hb d_M_read_122 (by decide) ?_
          refine kc_M_M_push hx hb hml hown hts hV hK hX hAe (c_M_push l E s3 x1 (1 : Int32) _ hw) hl.1 (Nat.le_of_ble_eq_true rfl) d_M_read_123 (Nat.le_of_ble_eq_true rfl) (Nat.le_of_ble_eq_true rfl) (fun s4 H locs hw hV => ?_)
          refine lv_goto (tgt := 162) hx hb d_M_read_126 rfl ?_
          exact kr_v hx hb hr hV hK hX hAe hw d_M_read_162
  have L49 : ∀ (n : Nat), ∀ (ls : Array Slot) (H : Heap) (locs : List Loc) (s0 : KS) (v4 : Int32), lv_has ls 5 [(0, .ref (ea E 20 0)), (4, .int v4)] → gV E MM A s0 s H locs → w_M_read_49 x1 x2 Φ n v4 s0 → W p l e m_M_read s m ([.ref (ea E 20 0), .int x1, .int x2] : List Value).toArray below meth c H locs 0 0 (MQ below (gQv E MM A Φ) ([.ref (ea E 20 0), .int x1, .int x2] : List Value).toArray s 0 0 A) (F0 m 49 ls []) := by
    intro n
    induction n with
    | zero =>
      intro ls H locs s0 v4 hl hV hw
      exact False.elim hw
    | succ n ih =>
      intro ls H locs s0 v4 hl hV hw
      unfold w_M_read_49 at hw
      refine lv_iload hx hb d_M_read_49 (lv_at hl 1 rfl) ?_
      refine lv_aload_n hx hb d_M_read_51 rfl (lv_at hl 0 rfl) ?_
      refine kg_M_M_inputs hx hb hG hown hK hV d_M_read_52 ?_
      refine lv_icmp_ge (tgt := 80) hx hb d_M_read_55 rfl (fun hc => ?_) (fun hc => ?_)
      · have hw := hw.1 hc
        refine lv_goto (tgt := 162) hx hb d_M_read_80 rfl ?_
        exact kr_v hx hb hr hV hK hX hAe hw d_M_read_162
      · have hw := hw.2 hc
        refine lv_aload_n hx hb d_M_read_58 rfl (lv_at hl 0 rfl) ?_
        refine kg_M_M_input hx hb hG hown hK hV d_M_read_59 ?_
        refine lv_iload hx hb d_M_read_62 (lv_at hl 1 rfl) ?_
        refine lv_aload_n hx hb d_M_read_64 rfl (lv_at hl 0 rfl) ?_
        refine kg_M_M_input hx hb hG hown hK hV d_M_read_65 ?_
        refine lv_iload hx hb d_M_read_68 (lv_at hl 1 rfl) ?_
        refine lv_iconst (v := 1) hx hb d_M_read_70 (by decide) ?_
        refine lv_iadd hx hb d_M_read_71 ?_
        refine kl_43 hx hb hK hV hw.1 d_M_read_72 ?_
        have hw := hw.2
        refine ks_43 hx hb hK hV hw.1 d_M_read_73 (fun s1 H locs es1 hV => ?_)
        have hw := hw.2 s1 es1
        obtain ⟨y2, ey2⟩ : ∃ z : Int32, z = v4 + (1 : Int32) := ⟨_, rfl⟩
        have hw := hw y2 ey2
        refine lv_iinc (k := 1) (v := y2) (lv' := [(4, .int y2), (0, .ref (ea E 20 0))]) hx hb d_M_read_74 hl rfl (by rw [ey2]; rfl) (by decide) rfl (fun ls hl => ?_)
        refine lv_goto (tgt := 49) hx hb d_M_read_77 rfl ?_
        exact ih _ _ _ s1 y2 (lv_sub hl [1, 0] rfl) hV hw
  unfold w_M_read at hw
  refine lv_aload_n hx hb d_M_read_0 rfl (lv_at hl 0 rfl) ?_
  refine lv_iload_n hx hb d_M_read_1 rfl (lv_at hl 1 rfl) ?_
  refine lv_iload_n hx hb d_M_read_2 rfl (lv_at hl 2 rfl) ?_
  refine kc_M_M_descriptorOf hx hb hml hown hts hV hK hX hAe (c_M_descriptorOf l E s0 x1 x2 _ hw) hl.1 (Nat.le_of_ble_eq_true rfl) d_M_read_3 (Nat.le_of_ble_eq_true rfl) (Nat.le_of_ble_eq_true rfl) (fun r2 s1 H locs hw hV => ?_)
  refine lv_istore_n (lv' := [(3, .int r2), (0, .ref (ea E 20 0)), (1, .int x1), (2, .int x2)]) hx hb d_M_read_6 rfl hl (by decide) rfl (fun ls hl => ?_)
  refine lv_iload_n hx hb d_M_read_7 rfl (lv_at hl 0 rfl) ?_
  refine lv_iconst (v := 1) hx hb d_M_read_8 (by decide) ?_
  refine lv_icmp_ne (tgt := 83) hx hb d_M_read_9 rfl (fun hc => ?_) (fun hc => ?_)
  · have hw := hw.1 hc
    exact J83 _ _ _ s1 r2 (lv_sub hl [1, 2, 0] rfl) hV hw
  · have hw := hw.2 hc
    refine lv_aload_n hx hb d_M_read_12 rfl (lv_at hl 1 rfl) ?_
    refine kg_M_M_inputs hx hb hG hown hK hV d_M_read_13 ?_
    refine lv_if_le (tgt := 83) hx hb d_M_read_16 rfl (fun hc => ?_) (fun hc => ?_)
    · have hw := hw.1 hc
      exact J83 _ _ _ s1 r2 (lv_sub hl [1, 2, 0] rfl) hV hw
    · have hw := hw.2 hc
      refine lv_aload_n hx hb d_M_read_19 rfl (lv_at hl 1 rfl) ?_
      refine lv_iload_n hx hb d_M_read_20 rfl (lv_at hl 2 rfl) ?_
      refine lv_aload_n hx hb d_M_read_21 rfl (lv_at hl 1 rfl) ?_
      refine kg_M_M_input hx hb hG hown hK hV d_M_read_22 ?_
      refine lv_iconst (v := 0) hx hb d_M_read_25 (by decide) ?_
      refine kl_43 hx hb hK hV hw.1 d_M_read_26 ?_
      have hw := hw.2
      refine kc_M_M_push hx hb hml hown hts hV hK hX hAe (c_M_push l E s1 x1 (s1 43 0 (0 : Int32).toNatClampNeg) _ hw) hl.1 (Nat.le_of_ble_eq_true rfl) d_M_read_27 (Nat.le_of_ble_eq_true rfl) (Nat.le_of_ble_eq_true rfl) (fun s3 H locs hw hV => ?_)
      refine lv_aload_n hx hb d_M_read_30 rfl (lv_at hl 1 rfl) ?_
      refine lv_iload_n hx hb d_M_read_31 rfl (lv_at hl 2 rfl) ?_
      refine lv_iconst (v := 1) hx hb d_M_read_32 (by decide) ?_
      refine kc_M_M_push hx hb hml hown hts hV hK hX hAe (c_M_push l E s3 x1 (1 : Int32) _ hw) hl.1 (Nat.le_of_ble_eq_true rfl) d_M_read_33 (Nat.le_of_ble_eq_true rfl) (Nat.le_of_ble_eq_true rfl) (fun s4 H locs hw hV => ?_)
      refine lv_aload_n hx hb d_M_read_36 rfl (lv_at hl 1 rfl) ?_
      refine lv_dup hx hb d_M_read_37 rfl ?_
      refine kg_M_M_inputs hx hb hG hown hK hV d_M_read_38 ?_
      refine lv_iconst (v := 1) hx hb d_M_read_41 (by decide) ?_
      refine lv_isub hx hb d_M_read_42 ?_
      refine kp_M_M_inputs hx hb hG hown hK hV d_M_read_43 (fun s5 H locs es5 hV => ?_)
      have hw := hw s5 es5
      refine lv_iconst (v := 0) hx hb d_M_read_46 (by decide) ?_
      refine lv_istore (lv' := [(4, .int (0 : Int32)), (3, .int r2), (0, .ref (ea E 20 0)), (1, .int x1), (2, .int x2)]) hx hb d_M_read_47 hl (by decide) rfl (fun ls hl => ?_)
      obtain ⟨nn, hw⟩ := hw
      exact L49 nn _ _ _ s5 (0 : Int32) (lv_sub hl [2, 0] rfl) hV hw
theorem d_M_write_0 : decode b_M_write 0 = .ok (.aload_n 0, 1) := by decide +kernel
theorem d_M_write_1 : decode b_M_write 1 = .ok (.iload_n 1, 1) := by decide +kernel
theorem d_M_write_2 : decode b_M_write 2 = .ok (.iload_n 3, 1) := by decide +kernel
theorem d_M_write_3 : decode b_M_write 3 = .ok (.invokevirtual 116, 3) := by decide +kernel
theorem d_M_write_6 : decode b_M_write 6 = .ok (.istore 4, 2) := by decide +kernel
theorem d_M_write_8 : decode b_M_write 8 = .ok (.iload 4, 2) := by decide +kernel
theorem d_M_write_10 : decode b_M_write 10 = .ok (.iconst 2, 1) := by decide +kernel
theorem d_M_write_11 : decode b_M_write 11 = .ok (.if_icmp .ne 36, 3) := by decide +kernel
theorem d_M_write_14 : decode b_M_write 14 = .ok (.aload_n 0, 1) := by decide +kernel
theorem d_M_write_15 : decode b_M_write 15 = .ok (.getfield 58, 3) := by decide +kernel
theorem d_M_write_18 : decode b_M_write 18 = .ok (.aload_n 0, 1) := by decide +kernel
theorem d_M_write_19 : decode b_M_write 19 = .ok (.getfield 190, 3) := by decide +kernel
theorem d_M_write_22 : decode b_M_write 22 = .ok (.sipush 500, 3) := by decide +kernel
theorem d_M_write_25 : decode b_M_write 25 = .ok (.irem, 1) := by decide +kernel
theorem d_M_write_26 : decode b_M_write 26 = .ok (.iload_n 2, 1) := by decide +kernel
theorem d_M_write_27 : decode b_M_write 27 = .ok (.iastore, 1) := by decide +kernel
theorem d_M_write_28 : decode b_M_write 28 = .ok (.aload_n 0, 1) := by decide +kernel
theorem d_M_write_29 : decode b_M_write 29 = .ok (.dup, 1) := by decide +kernel
theorem d_M_write_30 : decode b_M_write 30 = .ok (.getfield 190, 3) := by decide +kernel
theorem d_M_write_33 : decode b_M_write 33 = .ok (.iconst 1, 1) := by decide +kernel
theorem d_M_write_34 : decode b_M_write 34 = .ok (.iadd, 1) := by decide +kernel
theorem d_M_write_35 : decode b_M_write 35 = .ok (.putfield 190, 3) := by decide +kernel
theorem d_M_write_38 : decode b_M_write 38 = .ok (.aload_n 0, 1) := by decide +kernel
theorem d_M_write_39 : decode b_M_write 39 = .ok (.iload_n 1, 1) := by decide +kernel
theorem d_M_write_40 : decode b_M_write 40 = .ok (.iconst 1, 1) := by decide +kernel
theorem d_M_write_41 : decode b_M_write 41 = .ok (.invokevirtual 155, 3) := by decide +kernel
theorem d_M_write_44 : decode b_M_write 44 = .ok (.goto 69, 3) := by decide +kernel
theorem d_M_write_47 : decode b_M_write 47 = .ok (.iload 4, 2) := by decide +kernel
theorem d_M_write_49 : decode b_M_write 49 = .ok (.bipush 20, 2) := by decide +kernel
theorem d_M_write_51 : decode b_M_write 51 = .ok (.if_icmp .lt 56, 3) := by decide +kernel
theorem d_M_write_54 : decode b_M_write 54 = .ok (.aload_n 0, 1) := by decide +kernel
theorem d_M_write_55 : decode b_M_write 55 = .ok (.iload 4, 2) := by decide +kernel
theorem d_M_write_57 : decode b_M_write 57 = .ok (.bipush 10, 2) := by decide +kernel
theorem d_M_write_59 : decode b_M_write 59 = .ok (.isub, 1) := by decide +kernel
theorem d_M_write_60 : decode b_M_write 60 = .ok (.invokevirtual 98, 3) := by decide +kernel
theorem d_M_write_63 : decode b_M_write 63 = .ok (.ifCond .le 7, 3) := by decide +kernel
theorem d_M_write_66 : decode b_M_write 66 = .ok (.iconst 1, 1) := by decide +kernel
theorem d_M_write_67 : decode b_M_write 67 = .ok (.goto 4, 3) := by decide +kernel
theorem d_M_write_70 : decode b_M_write 70 = .ok (.iconst 0, 1) := by decide +kernel
theorem d_M_write_71 : decode b_M_write 71 = .ok (.istore 5, 2) := by decide +kernel
theorem d_M_write_73 : decode b_M_write 73 = .ok (.aload_n 0, 1) := by decide +kernel
theorem d_M_write_74 : decode b_M_write 74 = .ok (.iload_n 1, 1) := by decide +kernel
theorem d_M_write_75 : decode b_M_write 75 = .ok (.iload 5, 2) := by decide +kernel
theorem d_M_write_77 : decode b_M_write 77 = .ok (.ifCond .eq 7, 3) := by decide +kernel
theorem d_M_write_80 : decode b_M_write 80 = .ok (.iconst 1, 1) := by decide +kernel
theorem d_M_write_81 : decode b_M_write 81 = .ok (.goto 5, 3) := by decide +kernel
theorem d_M_write_84 : decode b_M_write 84 = .ok (.bipush (-2), 2) := by decide +kernel
theorem d_M_write_86 : decode b_M_write 86 = .ok (.invokevirtual 155, 3) := by decide +kernel
theorem d_M_write_89 : decode b_M_write 89 = .ok (.iload 5, 2) := by decide +kernel
theorem d_M_write_91 : decode b_M_write 91 = .ok (.ifCond .eq 13, 3) := by decide +kernel
theorem d_M_write_94 : decode b_M_write 94 = .ok (.aload_n 0, 1) := by decide +kernel
theorem d_M_write_95 : decode b_M_write 95 = .ok (.iload 4, 2) := by decide +kernel
theorem d_M_write_97 : decode b_M_write 97 = .ok (.bipush 20, 2) := by decide +kernel
theorem d_M_write_99 : decode b_M_write 99 = .ok (.isub, 1) := by decide +kernel
theorem d_M_write_100 : decode b_M_write 100 = .ok (.iload_n 2, 1) := by decide +kernel
theorem d_M_write_101 : decode b_M_write 101 = .ok (.invokevirtual 193, 3) := by decide +kernel
theorem d_M_write_104 : decode b_M_write 104 = .ok (.goto 9, 3) := by decide +kernel
theorem d_M_write_107 : decode b_M_write 107 = .ok (.aload_n 0, 1) := by decide +kernel
theorem d_M_write_108 : decode b_M_write 108 = .ok (.iload_n 1, 1) := by decide +kernel
theorem d_M_write_109 : decode b_M_write 109 = .ok (.iconst (-1), 1) := by decide +kernel
theorem d_M_write_110 : decode b_M_write 110 = .ok (.invokevirtual 155, 3) := by decide +kernel
theorem d_M_write_113 : decode b_M_write 113 = .ok (.return_, 1) := by decide +kernel
def w_M_write_86 (x1 : Int32) (x2 : Int32) (x3 : Int32) (Φ : KS → Prop) (v4 : Int32) (v5 : Int32) (t0 : Int32) (s0 : KS) : Prop := w_M_push x1 t0 s0 (fun s1 => ((v5 = 0 → Φ s1) ∧ (¬ v5 = 0 → w_M_intoPipe (v4 - (20 : Int32)) x2 s1 (fun s2 => Φ s2))))
def w_M_write_71 (x1 : Int32) (x2 : Int32) (x3 : Int32) (Φ : KS → Prop) (v4 : Int32) (t0 : Int32) (s0 : KS) : Prop := ((t0 = 0 → w_M_write_86 x1 x2 x3 Φ v4 t0 (-2 : Int32) s0) ∧ (¬ t0 = 0 → w_M_write_86 x1 x2 x3 Φ v4 t0 (1 : Int32) s0))
def w_M_write (x1 : Int32) (x2 : Int32) (x3 : Int32) (s0 : KS) (Φ : KS → Prop) : Prop := w_M_descriptorOf x1 x3 s0 (fun r2 s1 => ((¬ r2 = (2 : Int32) → ((r2 < (20 : Int32) → w_M_push x1 (-1 : Int32) s1 (fun s3 => Φ s3)) ∧ (¬ r2 < (20 : Int32) → w_M_many (r2 - (10 : Int32)) s1 (fun r5 s4 => ((r5 ≤ 0 → w_M_write_71 x1 x2 x3 Φ r2 (0 : Int32) s4) ∧ (¬ r5 ≤ 0 → w_M_write_71 x1 x2 x3 Φ r2 (1 : Int32) s4)))))) ∧ (r2 = (2 : Int32) → ¬ (500 : Int32) = 0 ∧ vp_in ((s1 20 0 27) - (s1 20 0 27) / (500 : Int32) * (500 : Int32)) 500 ∧ ∀ s6 : KS, s6 = w3 s1 46 0 ((s1 20 0 27) - (s1 20 0 27) / (500 : Int32) * (500 : Int32)).toNatClampNeg x2 → ∀ s7 : KS, s7 = w3 s6 20 0 27 ((s6 20 0 27) + (1 : Int32)) → w_M_push x1 (1 : Int32) s7 (fun s8 => Φ s8))))
set_option maxHeartbeats 4000000 in
set_option maxRecDepth 100000 in
theorem c_M_write (l : Launch) (E : gE) (s0 : KS) (x1 : Int32) (x2 : Int32) (x3 : Int32) (Φ : KS → Prop) (hw : w_M_write x1 x2 x3 s0 Φ) : gMv l y_M_write v_M_write m_M_write E MM [.ref (ea E 20 0), .int x1, .int x2, .int x3] s0 Φ := by
  intro sz
  refine Met.ofW (cc := b_M_write) (maxL := 6) (ret := none) (by decide) rfl ?_
  intro p e s m args below meth c s₁ B hml hv
  obtain ⟨rfl, hsz, hP, hK, hD, hX⟩ := hv
  have hx := B.exec
  have hb := B.bytes
  have hr := B.returns
  have hts := atoms_spec (ws := v_M_write) B.pre
  have hG : ∀ w ∈ gG, w.before _ s = true := fun w h => hts w (List.mem_cons_of_mem _ h)
  have hown : s.vm.findClass R_M = some m.cls := findClass_of_methodNamed B.named
  have hlocks := B.notSynchronized
  subst hsz
  obtain ⟨A, hAe⟩ : ∃ A, A = gA E MM s.heap.size := ⟨_, rfl⟩
  rw [← hAe] at hD hX ⊢
  have hV : gV E MM A s0 s s.heap [] := ⟨hP, hD, va_S.rf⟩
  have hl := lv_entry ([.ref (ea E 20 0), .int x1, .int x2, .int x3] : List Value) (n := 6) (Nat.le_of_ble_eq_true rfl)
  rw [lg_entry_eq]
  generalize (lg_sl ([.ref (ea E 20 0), .int x1, .int x2, .int x3] : List Value) ++ List.replicate (6 - (lg_sl ([.ref (ea E 20 0), .int x1, .int x2, .int x3] : List Value)).length) Slot.unset).toArray = ls at hl ⊢
  have hl : lv_has ls 6 [(0, .ref (ea E 20 0)), (1, .int x1), (2, .int x2), (3, .int x3)] := hl
  have J86 : ∀ (ls : Array Slot) (H : Heap) (locs : List Loc) (s0 : KS) (v4 : Int32) (v5 : Int32) (t0 : Int32), lv_has ls 6 [(0, .ref (ea E 20 0)), (2, .int x2), (4, .int v4), (5, .int v5)] → gV E MM A s0 s H locs → w_M_write_86 x1 x2 x3 Φ v4 v5 t0 s0 → W p l e m_M_write s m ([.ref (ea E 20 0), .int x1, .int x2, .int x3] : List Value).toArray below meth c H locs 0 0 (MQ below (gQv E MM A Φ) ([.ref (ea E 20 0), .int x1, .int x2, .int x3] : List Value).toArray s 0 0 A) (F0 m 86 ls [.int t0, .int x1, .ref (ea E 20 0)]) := by
    intro  ls H locs s0 v4 v5 t0 hl hV hw
    unfold w_M_write_86 at hw
    refine kc_M_M_push hx hb hml hown hts hV hK hX hAe (c_M_push l E s0 x1 t0 _ hw) hl.1 (Nat.le_of_ble_eq_true rfl) d_M_write_86 (Nat.le_of_ble_eq_true rfl) (Nat.le_of_ble_eq_true rfl) (fun s1 H locs hw hV => ?_)
    refine lv_iload hx hb d_M_write_89 (lv_at hl 3 rfl) ?_
    refine lv_if_eq (tgt := 104) hx hb d_M_write_91 rfl (fun hc => ?_) (fun hc => ?_)
    · have hw := hw.1 hc
      refine lv_goto (tgt := 113) hx hb d_M_write_104 rfl ?_
      exact kr_v hx hb hr hV hK hX hAe hw d_M_write_113
    · have hw := hw.2 hc
      refine lv_aload_n hx hb d_M_write_94 rfl (lv_at hl 0 rfl) ?_
      refine lv_iload hx hb d_M_write_95 (lv_at hl 2 rfl) ?_
      refine lv_bipush (v := 20) hx hb d_M_write_97 (by decide) ?_
      refine lv_isub hx hb d_M_write_99 ?_
      refine lv_iload_n hx hb d_M_write_100 rfl (lv_at hl 1 rfl) ?_
      refine kc_M_M_intoPipe hx hb hml hown hts hV hK hX hAe (c_M_intoPipe l E s1 (v4 - (20 : Int32)) x2 _ hw) hl.1 (Nat.le_of_ble_eq_true rfl) d_M_write_101 (Nat.le_of_ble_eq_true rfl) (Nat.le_of_ble_eq_true rfl) (fun s2 H locs hw hV => ?_)
      refine lv_goto (tgt := 113) hx hb d_M_write_104 rfl ?_
      exact kr_v hx hb hr hV hK hX hAe hw d_M_write_113
  have J71 : ∀ (ls : Array Slot) (H : Heap) (locs : List Loc) (s0 : KS) (v4 : Int32) (t0 : Int32), lv_has ls 6 [(0, .ref (ea E 20 0)), (1, .int x1), (2, .int x2), (4, .int v4)] → gV E MM A s0 s H locs → w_M_write_71 x1 x2 x3 Φ v4 t0 s0 → W p l e m_M_write s m ([.ref (ea E 20 0), .int x1, .int x2, .int x3] : List Value).toArray below meth c H locs 0 0 (MQ below (gQv E MM A Φ) ([.ref (ea E 20 0), .int x1, .int x2, .int x3] : List Value).toArray s 0 0 A) (F0 m 71 ls [.int t0]) := by
    intro  ls H locs s0 v4 t0 hl hV hw
    unfold w_M_write_71 at hw
    refine lv_istore (lv' := [(5, .int t0), (0, .ref (ea E 20 0)), (1, .int x1), (2, .int x2), (4, .int v4)]) hx hb d_M_write_71 hl (by decide) rfl (fun ls hl => ?_)
    refine lv_aload_n hx hb d_M_write_73 rfl (lv_at hl 1 rfl) ?_
    refine lv_iload_n hx hb d_M_write_74 rfl (lv_at hl 2 rfl) ?_
    refine lv_iload hx hb d_M_write_75 (lv_at hl 0 rfl) ?_
    refine lv_if_eq (tgt := 84) hx hb d_M_write_77 rfl (fun hc => ?_) (fun hc => ?_)
    · have hw := hw.1 hc
      refine lv_bipush (v := -2) hx hb d_M_write_84 (by decide) ?_
      exact J86 _ _ _ s0 v4 t0 (-2 : Int32) (lv_sub hl [1, 3, 4, 0] rfl) hV hw
    · have hw := hw.2 hc
      refine lv_iconst (v := 1) hx hb d_M_write_80 (by decide) ?_
      refine lv_goto (tgt := 86) hx hb d_M_write_81 rfl ?_
      exact J86 _ _ _ s0 v4 t0 (1 : Int32) (lv_sub hl [1, 3, 4, 0] rfl) hV hw
  unfold w_M_write at hw
  refine lv_aload_n hx hb d_M_write_0 rfl (lv_at hl 0 rfl) ?_
  refine lv_iload_n hx hb d_M_write_1 rfl (lv_at hl 1 rfl) ?_
  refine lv_iload_n hx hb d_M_write_2 rfl (lv_at hl 3 rfl) ?_
  refine kc_M_M_descriptorOf hx hb hml hown hts hV hK hX hAe (c_M_descriptorOf l E s0 x1 x3 _ hw) hl.1 (Nat.le_of_ble_eq_true rfl) d_M_write_3 (Nat.le_of_ble_eq_true rfl) (Nat.le_of_ble_eq_true rfl) (fun r2 s1 H locs hw hV => ?_)
  refine lv_istore (lv' := [(4, .int r2), (0, .ref (ea E 20 0)), (1, .int x1), (2, .int x2), (3, .int x3)]) hx hb d_M_write_6 hl (by decide) rfl (fun ls hl => ?_)
  refine lv_iload hx hb d_M_write_8 (lv_at hl 0 rfl) ?_
  refine lv_iconst (v := 2) hx hb d_M_write_10 (by decide) ?_
  refine lv_icmp_ne (tgt := 47) hx hb d_M_write_11 rfl (fun hc => ?_) (fun hc => ?_)
  · have hw := hw.1 hc
    refine lv_iload hx hb d_M_write_47 (lv_at hl 0 rfl) ?_
    refine lv_bipush (v := 20) hx hb d_M_write_49 (by decide) ?_
    refine lv_icmp_lt (tgt := 107) hx hb d_M_write_51 rfl (fun hc => ?_) (fun hc => ?_)
    · have hw := hw.1 hc
      refine lv_aload_n hx hb d_M_write_107 rfl (lv_at hl 1 rfl) ?_
      refine lv_iload_n hx hb d_M_write_108 rfl (lv_at hl 2 rfl) ?_
      refine lv_iconst (v := -1) hx hb d_M_write_109 (by decide) ?_
      refine kc_M_M_push hx hb hml hown hts hV hK hX hAe (c_M_push l E s1 x1 (-1 : Int32) _ hw) hl.1 (Nat.le_of_ble_eq_true rfl) d_M_write_110 (Nat.le_of_ble_eq_true rfl) (Nat.le_of_ble_eq_true rfl) (fun s3 H locs hw hV => ?_)
      exact kr_v hx hb hr hV hK hX hAe hw d_M_write_113
    · have hw := hw.2 hc
      refine lv_aload_n hx hb d_M_write_54 rfl (lv_at hl 1 rfl) ?_
      refine lv_iload hx hb d_M_write_55 (lv_at hl 0 rfl) ?_
      refine lv_bipush (v := 10) hx hb d_M_write_57 (by decide) ?_
      refine lv_isub hx hb d_M_write_59 ?_
      refine kc_M_M_many hx hb hml hown hts hV hK hX hAe (c_M_many l E s1 (r2 - (10 : Int32)) _ hw) hl.1 (Nat.le_of_ble_eq_true rfl) d_M_write_60 (Nat.le_of_ble_eq_true rfl) (Nat.le_of_ble_eq_true rfl) (fun r5 s4 H locs hw hV => ?_)
      refine lv_if_le (tgt := 70) hx hb d_M_write_63 rfl (fun hc => ?_) (fun hc => ?_)
      · have hw := hw.1 hc
        refine lv_iconst (v := 0) hx hb d_M_write_70 (by decide) ?_
        exact J71 _ _ _ s4 r2 (0 : Int32) (lv_sub hl [1, 2, 3, 0] rfl) hV hw
      · have hw := hw.2 hc
        refine lv_iconst (v := 1) hx hb d_M_write_66 (by decide) ?_
        refine lv_goto (tgt := 71) hx hb d_M_write_67 rfl ?_
        exact J71 _ _ _ s4 r2 (1 : Int32) (lv_sub hl [1, 2, 3, 0] rfl) hV hw
  · have hw := hw.2 hc
    refine lv_aload_n hx hb d_M_write_14 rfl (lv_at hl 1 rfl) ?_
    refine kg_M_M_output hx hb hG hown hK hV d_M_write_15 ?_
    refine lv_aload_n hx hb d_M_write_18 rfl (lv_at hl 1 rfl) ?_
    refine kg_M_M_outputs hx hb hG hown hK hV d_M_write_19 ?_
    refine lv_sipush (v := 500) hx hb d_M_write_22 (by decide) ?_
    refine lv_irem hx hb d_M_write_25 hw.1 ?_
    have hw := hw.2
    refine lv_iload_n hx hb d_M_write_26 rfl (lv_at hl 3 rfl) ?_
    refine ks_46 hx hb hK hV hw.1 d_M_write_27 (fun s6 H locs es6 hV => ?_)
    have hw := hw.2 s6 es6
    refine lv_aload_n hx hb d_M_write_28 rfl (lv_at hl 1 rfl) ?_
    refine lv_dup hx hb d_M_write_29 rfl ?_
    refine kg_M_M_outputs hx hb hG hown hK hV d_M_write_30 ?_
    refine lv_iconst (v := 1) hx hb d_M_write_33 (by decide) ?_
    refine lv_iadd hx hb d_M_write_34 ?_
    refine kp_M_M_outputs hx hb hG hown hK hV d_M_write_35 (fun s7 H locs es7 hV => ?_)
    have hw := hw s7 es7
    refine lv_aload_n hx hb d_M_write_38 rfl (lv_at hl 1 rfl) ?_
    refine lv_iload_n hx hb d_M_write_39 rfl (lv_at hl 2 rfl) ?_
    refine lv_iconst (v := 1) hx hb d_M_write_40 (by decide) ?_
    refine kc_M_M_push hx hb hml hown hts hV hK hX hAe (c_M_push l E s7 x1 (1 : Int32) _ hw) hl.1 (Nat.le_of_ble_eq_true rfl) d_M_write_41 (Nat.le_of_ble_eq_true rfl) (Nat.le_of_ble_eq_true rfl) (fun s8 H locs hw hV => ?_)
    refine lv_goto (tgt := 113) hx hb d_M_write_44 rfl ?_
    exact kr_v hx hb hr hV hK hX hAe hw d_M_write_113
theorem d_M_call_0 : decode b_M_call 0 = .ok (.iload_n 2, 1) := by decide +kernel
theorem d_M_call_1 : decode b_M_call 1 = .ok (.tableswitch 185 30 40 #[59, 68, 77, 85, 96, 106, 114, 122, 131, 139, 176], 59) := by decide +kernel
theorem d_M_call_60 : decode b_M_call 60 = .ok (.aload_n 0, 1) := by decide +kernel
theorem d_M_call_61 : decode b_M_call 61 = .ok (.iload_n 1, 1) := by decide +kernel
theorem d_M_call_62 : decode b_M_call 62 = .ok (.iload_n 3, 1) := by decide +kernel
theorem d_M_call_63 : decode b_M_call 63 = .ok (.invokevirtual 140, 3) := by decide +kernel
theorem d_M_call_66 : decode b_M_call 66 = .ok (.goto 170, 3) := by decide +kernel
theorem d_M_call_69 : decode b_M_call 69 = .ok (.aload_n 0, 1) := by decide +kernel
theorem d_M_call_70 : decode b_M_call 70 = .ok (.iload_n 1, 1) := by decide +kernel
theorem d_M_call_71 : decode b_M_call 71 = .ok (.iload_n 1, 1) := by decide +kernel
theorem d_M_call_72 : decode b_M_call 72 = .ok (.invokevirtual 155, 3) := by decide +kernel
theorem d_M_call_75 : decode b_M_call 75 = .ok (.goto 161, 3) := by decide +kernel
theorem d_M_call_78 : decode b_M_call 78 = .ok (.aload_n 0, 1) := by decide +kernel
theorem d_M_call_79 : decode b_M_call 79 = .ok (.iload_n 1, 1) := by decide +kernel
theorem d_M_call_80 : decode b_M_call 80 = .ok (.invokevirtual 162, 3) := by decide +kernel
theorem d_M_call_83 : decode b_M_call 83 = .ok (.goto 153, 3) := by decide +kernel
theorem d_M_call_86 : decode b_M_call 86 = .ok (.aload_n 0, 1) := by decide +kernel
theorem d_M_call_87 : decode b_M_call 87 = .ok (.iload_n 1, 1) := by decide +kernel
theorem d_M_call_88 : decode b_M_call 88 = .ok (.iload_n 3, 1) := by decide +kernel
theorem d_M_call_89 : decode b_M_call 89 = .ok (.iload 4, 2) := by decide +kernel
theorem d_M_call_91 : decode b_M_call 91 = .ok (.invokevirtual 165, 3) := by decide +kernel
theorem d_M_call_94 : decode b_M_call 94 = .ok (.goto 142, 3) := by decide +kernel
theorem d_M_call_97 : decode b_M_call 97 = .ok (.aload_n 0, 1) := by decide +kernel
theorem d_M_call_98 : decode b_M_call 98 = .ok (.iload_n 1, 1) := by decide +kernel
theorem d_M_call_99 : decode b_M_call 99 = .ok (.iload 4, 2) := by decide +kernel
theorem d_M_call_101 : decode b_M_call 101 = .ok (.invokevirtual 168, 3) := by decide +kernel
theorem d_M_call_104 : decode b_M_call 104 = .ok (.goto 132, 3) := by decide +kernel
theorem d_M_call_107 : decode b_M_call 107 = .ok (.aload_n 0, 1) := by decide +kernel
theorem d_M_call_108 : decode b_M_call 108 = .ok (.iload_n 1, 1) := by decide +kernel
theorem d_M_call_109 : decode b_M_call 109 = .ok (.invokevirtual 171, 3) := by decide +kernel
theorem d_M_call_112 : decode b_M_call 112 = .ok (.goto 124, 3) := by decide +kernel
theorem d_M_call_115 : decode b_M_call 115 = .ok (.aload_n 0, 1) := by decide +kernel
theorem d_M_call_116 : decode b_M_call 116 = .ok (.iload_n 1, 1) := by decide +kernel
theorem d_M_call_117 : decode b_M_call 117 = .ok (.invokevirtual 174, 3) := by decide +kernel
theorem d_M_call_120 : decode b_M_call 120 = .ok (.goto 116, 3) := by decide +kernel
theorem d_M_call_123 : decode b_M_call 123 = .ok (.aload_n 0, 1) := by decide +kernel
theorem d_M_call_124 : decode b_M_call 124 = .ok (.iload_n 1, 1) := by decide +kernel
theorem d_M_call_125 : decode b_M_call 125 = .ok (.iload_n 3, 1) := by decide +kernel
theorem d_M_call_126 : decode b_M_call 126 = .ok (.invokevirtual 177, 3) := by decide +kernel
theorem d_M_call_129 : decode b_M_call 129 = .ok (.goto 107, 3) := by decide +kernel
theorem d_M_call_132 : decode b_M_call 132 = .ok (.aload_n 0, 1) := by decide +kernel
theorem d_M_call_133 : decode b_M_call 133 = .ok (.iload_n 1, 1) := by decide +kernel
theorem d_M_call_134 : decode b_M_call 134 = .ok (.invokevirtual 180, 3) := by decide +kernel
theorem d_M_call_137 : decode b_M_call 137 = .ok (.goto 99, 3) := by decide +kernel
theorem d_M_call_140 : decode b_M_call 140 = .ok (.aload_n 0, 1) := by decide +kernel
theorem d_M_call_141 : decode b_M_call 141 = .ok (.iload_n 1, 1) := by decide +kernel
theorem d_M_call_142 : decode b_M_call 142 = .ok (.aload_n 0, 1) := by decide +kernel
theorem d_M_call_143 : decode b_M_call 143 = .ok (.iload_n 1, 1) := by decide +kernel
theorem d_M_call_144 : decode b_M_call 144 = .ok (.iload_n 3, 1) := by decide +kernel
theorem d_M_call_145 : decode b_M_call 145 = .ok (.invokevirtual 116, 3) := by decide +kernel
theorem d_M_call_148 : decode b_M_call 148 = .ok (.ifCond .ne 7, 3) := by decide +kernel
theorem d_M_call_151 : decode b_M_call 151 = .ok (.iconst (-1), 1) := by decide +kernel
theorem d_M_call_152 : decode b_M_call 152 = .ok (.goto 4, 3) := by decide +kernel
theorem d_M_call_155 : decode b_M_call 155 = .ok (.iconst 0, 1) := by decide +kernel
theorem d_M_call_156 : decode b_M_call 156 = .ok (.invokevirtual 155, 3) := by decide +kernel
theorem d_M_call_159 : decode b_M_call 159 = .ok (.aload_n 0, 1) := by decide +kernel
theorem d_M_call_160 : decode b_M_call 160 = .ok (.iload_n 1, 1) := by decide +kernel
theorem d_M_call_161 : decode b_M_call 161 = .ok (.iload_n 3, 1) := by decide +kernel
theorem d_M_call_162 : decode b_M_call 162 = .ok (.invokevirtual 116, 3) := by decide +kernel
theorem d_M_call_165 : decode b_M_call 165 = .ok (.ifCond .eq 71, 3) := by decide +kernel
theorem d_M_call_168 : decode b_M_call 168 = .ok (.aload_n 0, 1) := by decide +kernel
theorem d_M_call_169 : decode b_M_call 169 = .ok (.iload_n 1, 1) := by decide +kernel
theorem d_M_call_170 : decode b_M_call 170 = .ok (.iload_n 3, 1) := by decide +kernel
theorem d_M_call_171 : decode b_M_call 171 = .ok (.invokevirtual 109, 3) := by decide +kernel
theorem d_M_call_174 : decode b_M_call 174 = .ok (.goto 62, 3) := by decide +kernel
theorem d_M_call_177 : decode b_M_call 177 = .ok (.aload_n 0, 1) := by decide +kernel
theorem d_M_call_178 : decode b_M_call 178 = .ok (.iload_n 1, 1) := by decide +kernel
theorem d_M_call_179 : decode b_M_call 179 = .ok (.iload_n 3, 1) := by decide +kernel
theorem d_M_call_180 : decode b_M_call 180 = .ok (.invokevirtual 183, 3) := by decide +kernel
theorem d_M_call_183 : decode b_M_call 183 = .ok (.goto 53, 3) := by decide +kernel
theorem d_M_call_186 : decode b_M_call 186 = .ok (.aload_n 0, 1) := by decide +kernel
theorem d_M_call_187 : decode b_M_call 187 = .ok (.iload_n 1, 1) := by decide +kernel
theorem d_M_call_188 : decode b_M_call 188 = .ok (.iconst 0, 1) := by decide +kernel
theorem d_M_call_189 : decode b_M_call 189 = .ok (.invokevirtual 155, 3) := by decide +kernel
theorem d_M_call_192 : decode b_M_call 192 = .ok (.iload_n 3, 1) := by decide +kernel
theorem d_M_call_193 : decode b_M_call 193 = .ok (.ifCond .le 43, 3) := by decide +kernel
theorem d_M_call_196 : decode b_M_call 196 = .ok (.aload_n 0, 1) := by decide +kernel
theorem d_M_call_197 : decode b_M_call 197 = .ok (.iload_n 1, 1) := by decide +kernel
theorem d_M_call_198 : decode b_M_call 198 = .ok (.invokevirtual 85, 3) := by decide +kernel
theorem d_M_call_201 : decode b_M_call 201 = .ok (.aload_n 0, 1) := by decide +kernel
theorem d_M_call_202 : decode b_M_call 202 = .ok (.getfield 13, 3) := by decide +kernel
theorem d_M_call_205 : decode b_M_call 205 = .ok (.iload_n 1, 1) := by decide +kernel
theorem d_M_call_206 : decode b_M_call 206 = .ok (.iconst 5, 1) := by decide +kernel
theorem d_M_call_207 : decode b_M_call 207 = .ok (.iastore, 1) := by decide +kernel
theorem d_M_call_208 : decode b_M_call 208 = .ok (.aload_n 0, 1) := by decide +kernel
theorem d_M_call_209 : decode b_M_call 209 = .ok (.getfield 37, 3) := by decide +kernel
theorem d_M_call_212 : decode b_M_call 212 = .ok (.iload_n 1, 1) := by decide +kernel
theorem d_M_call_213 : decode b_M_call 213 = .ok (.iload_n 3, 1) := by decide +kernel
theorem d_M_call_214 : decode b_M_call 214 = .ok (.ldc 186, 2) := by decide +kernel
theorem d_M_call_216 : decode b_M_call 216 = .ok (.aload_n 0, 1) := by decide +kernel
theorem d_M_call_217 : decode b_M_call 217 = .ok (.getfield 187, 3) := by decide +kernel
theorem d_M_call_220 : decode b_M_call 220 = .ok (.isub, 1) := by decide +kernel
theorem d_M_call_221 : decode b_M_call 221 = .ok (.if_icmp .le 8, 3) := by decide +kernel
theorem d_M_call_224 : decode b_M_call 224 = .ok (.ldc 186, 2) := by decide +kernel
theorem d_M_call_226 : decode b_M_call 226 = .ok (.goto 9, 3) := by decide +kernel
theorem d_M_call_229 : decode b_M_call 229 = .ok (.aload_n 0, 1) := by decide +kernel
theorem d_M_call_230 : decode b_M_call 230 = .ok (.getfield 187, 3) := by decide +kernel
theorem d_M_call_233 : decode b_M_call 233 = .ok (.iload_n 3, 1) := by decide +kernel
theorem d_M_call_234 : decode b_M_call 234 = .ok (.iadd, 1) := by decide +kernel
theorem d_M_call_235 : decode b_M_call 235 = .ok (.iastore, 1) := by decide +kernel
theorem d_M_call_236 : decode b_M_call 236 = .ok (.return_, 1) := by decide +kernel
def w_M_call_235 (x1 : Int32) (x2 : Int32) (x3 : Int32) (x4 : Int32) (Φ : KS → Prop) (t0 : Int32) (s0 : KS) : Prop := vp_in x1 16 ∧ ∀ s1 : KS, s1 = w3 s0 34 0 x1.toNatClampNeg t0 → Φ s1
def w_M_call_156 (x1 : Int32) (x2 : Int32) (x3 : Int32) (x4 : Int32) (Φ : KS → Prop) (t0 : Int32) (s0 : KS) : Prop := w_M_push x1 t0 s0 (fun s1 => w_M_descriptorOf x1 x3 s1 (fun r3 s2 => ((r3 = 0 → Φ s2) ∧ (¬ r3 = 0 → w_M_shutEnd x1 x3 s2 (fun s4 => Φ s4)))))
def w_M_call (x1 : Int32) (x2 : Int32) (x3 : Int32) (x4 : Int32) (s0 : KS) (Φ : KS → Prop) : Prop := ((x2 = 30 → w_M_end x1 x3 s0 (fun s1 => Φ s1)) ∧ ((x2 = 31 → w_M_push x1 x1 s0 (fun s2 => Φ s2)) ∧ ((x2 = 32 → w_M_toEnd x1 s0 (fun s3 => Φ s3)) ∧ ((x2 = 33 → w_M_write x1 x3 x4 s0 (fun s4 => Φ s4)) ∧ ((x2 = 34 → w_M_read x1 x4 s0 (fun s5 => Φ s5)) ∧ ((x2 = 35 → w_M_fork x1 s0 (fun s6 => Φ s6)) ∧ ((x2 = 36 → w_M_await x1 s0 (fun s7 => Φ s7)) ∧ ((x2 = 37 → w_M_kill x1 x3 s0 (fun s8 => Φ s8)) ∧ ((x2 = 38 → w_M_makePipe x1 s0 (fun s9 => Φ s9)) ∧ ((x2 = 39 → w_M_descriptorOf x1 x3 s0 (fun r11 s10 => ((¬ r11 = 0 → w_M_call_156 x1 x2 x3 x4 Φ (0 : Int32) s10) ∧ (r11 = 0 → w_M_call_156 x1 x2 x3 x4 Φ (-1 : Int32) s10)))) ∧ ((x2 = 40 → w_M_dup x1 x3 s0 (fun s12 => Φ s12)) ∧ (¬ x2 = 30 ∧ ¬ x2 = 31 ∧ ¬ x2 = 32 ∧ ¬ x2 = 33 ∧ ¬ x2 = 34 ∧ ¬ x2 = 35 ∧ ¬ x2 = 36 ∧ ¬ x2 = 37 ∧ ¬ x2 = 38 ∧ ¬ x2 = 39 ∧ ¬ x2 = 40 → w_M_push x1 (0 : Int32) s0 (fun s13 => ((x3 ≤ 0 → Φ s13) ∧ (¬ x3 ≤ 0 → w_M_leaveQueue x1 s13 (fun s14 => vp_in x1 16 ∧ ∀ s15 : KS, s15 = w3 s14 26 0 x1.toNatClampNeg (5 : Int32) → ((x3 ≤ ((2147483647 : Int32) - (s15 20 0 4)) → w_M_call_235 x1 x2 x3 x4 Φ ((s15 20 0 4) + x3) s15) ∧ (¬ x3 ≤ ((2147483647 : Int32) - (s15 20 0 4)) → w_M_call_235 x1 x2 x3 x4 Φ (2147483647 : Int32) s15))))))))))))))))))
set_option maxHeartbeats 4000000 in
set_option maxRecDepth 100000 in
theorem c_M_call (l : Launch) (E : gE) (s0 : KS) (x1 : Int32) (x2 : Int32) (x3 : Int32) (x4 : Int32) (Φ : KS → Prop) (hw : w_M_call x1 x2 x3 x4 s0 Φ) : gMv l y_M_call v_M_call m_M_call E MM [.ref (ea E 20 0), .int x1, .int x2, .int x3, .int x4] s0 Φ := by
  intro sz
  refine Met.ofW (cc := b_M_call) (maxL := 5) (ret := none) (by decide) rfl ?_
  intro p e s m args below meth c s₁ B hml hv
  obtain ⟨rfl, hsz, hP, hK, hD, hX⟩ := hv
  have hx := B.exec
  have hb := B.bytes
  have hr := B.returns
  have hts := atoms_spec (ws := v_M_call) B.pre
  have hG : ∀ w ∈ gG, w.before _ s = true := fun w h => hts w (List.mem_cons_of_mem _ h)
  have hown : s.vm.findClass R_M = some m.cls := findClass_of_methodNamed B.named
  have hlocks := B.notSynchronized
  subst hsz
  obtain ⟨A, hAe⟩ : ∃ A, A = gA E MM s.heap.size := ⟨_, rfl⟩
  rw [← hAe] at hD hX ⊢
  have hV : gV E MM A s0 s s.heap [] := ⟨hP, hD, va_S.rf⟩
  have hl := lv_entry ([.ref (ea E 20 0), .int x1, .int x2, .int x3, .int x4] : List Value) (n := 5) (Nat.le_of_ble_eq_true rfl)
  rw [lg_entry_eq]
  generalize (lg_sl ([.ref (ea E 20 0), .int x1, .int x2, .int x3, .int x4] : List Value) ++ List.replicate (5 - (lg_sl ([.ref (ea E 20 0), .int x1, .int x2, .int x3, .int x4] : List Value)).length) Slot.unset).toArray = ls at hl ⊢
  have hl : lv_has ls 5 [(0, .ref (ea E 20 0)), (1, .int x1), (2, .int x2), (3, .int x3), (4, .int x4)] := hl
  have J235 : ∀ (ls : Array Slot) (H : Heap) (locs : List Loc) (s0 : KS) (t0 : Int32), lv_has ls 5 [] → gV E MM A s0 s H locs → w_M_call_235 x1 x2 x3 x4 Φ t0 s0 → W p l e m_M_call s m ([.ref (ea E 20 0), .int x1, .int x2, .int x3, .int x4] : List Value).toArray below meth c H locs 0 0 (MQ below (gQv E MM A Φ) ([.ref (ea E 20 0), .int x1, .int x2, .int x3, .int x4] : List Value).toArray s 0 0 A) (F0 m 235 ls [.int t0, .int x1, .ref (ea E 34 0)]) := by
    intro  ls H locs s0 t0 hl hV hw
    unfold w_M_call_235 at hw
    refine ks_34 hx hb hK hV hw.1 d_M_call_235 (fun s1 H locs es1 hV => ?_)
    have hw := hw.2 s1 es1
    exact kr_v hx hb hr hV hK hX hAe hw d_M_call_236
  have J156 : ∀ (ls : Array Slot) (H : Heap) (locs : List Loc) (s0 : KS) (t0 : Int32), lv_has ls 5 [(0, .ref (ea E 20 0)), (1, .int x1), (3, .int x3)] → gV E MM A s0 s H locs → w_M_call_156 x1 x2 x3 x4 Φ t0 s0 → W p l e m_M_call s m ([.ref (ea E 20 0), .int x1, .int x2, .int x3, .int x4] : List Value).toArray below meth c H locs 0 0 (MQ below (gQv E MM A Φ) ([.ref (ea E 20 0), .int x1, .int x2, .int x3, .int x4] : List Value).toArray s 0 0 A) (F0 m 156 ls [.int t0, .int x1, .ref (ea E 20 0)]) := by
    intro  ls H locs s0 t0 hl hV hw
    unfold w_M_call_156 at hw
    refine kc_M_M_push hx hb hml hown hts hV hK hX hAe (c_M_push l E s0 x1 t0 _ hw) hl.1 (Nat.le_of_ble_eq_true rfl) d_M_call_156 (Nat.le_of_ble_eq_true rfl) (Nat.le_of_ble_eq_true rfl) (fun s1 H locs hw hV => ?_)
    refine lv_aload_n hx hb d_M_call_159 rfl (lv_at hl 0 rfl) ?_
    refine lv_iload_n hx hb d_M_call_160 rfl (lv_at hl 1 rfl) ?_
    refine lv_iload_n hx hb d_M_call_161 rfl (lv_at hl 2 rfl) ?_
    refine kc_M_M_descriptorOf hx hb hml hown hts hV hK hX hAe (c_M_descriptorOf l E s1 x1 x3 _ hw) hl.1 (Nat.le_of_ble_eq_true rfl) d_M_call_162 (Nat.le_of_ble_eq_true rfl) (Nat.le_of_ble_eq_true rfl) (fun r3 s2 H locs hw hV => ?_)
    refine lv_if_eq (tgt := 236) hx hb d_M_call_165 rfl (fun hc => ?_) (fun hc => ?_)
    · have hw := hw.1 hc
      exact kr_v hx hb hr hV hK hX hAe hw d_M_call_236
    · have hw := hw.2 hc
      refine lv_aload_n hx hb d_M_call_168 rfl (lv_at hl 0 rfl) ?_
      refine lv_iload_n hx hb d_M_call_169 rfl (lv_at hl 1 rfl) ?_
      refine lv_iload_n hx hb d_M_call_170 rfl (lv_at hl 2 rfl) ?_
      refine kc_M_M_shutEnd hx hb hml hown hts hV hK hX hAe (c_M_shutEnd l E s2 x1 x3 _ hw) hl.1 (Nat.le_of_ble_eq_true rfl) d_M_call_171 (Nat.le_of_ble_eq_true rfl) (Nat.le_of_ble_eq_true rfl) (fun s4 H locs hw hV => ?_)
      refine lv_goto (tgt := 236) hx hb d_M_call_174 rfl ?_
      exact kr_v hx hb hr hV hK hX hAe hw d_M_call_236
  unfold w_M_call at hw
  refine lv_iload_n hx hb d_M_call_0 rfl (lv_at hl 2 rfl) ?_
  have hsw := hw
  by_cases hc30 : x2 = 30
  · have hw := hsw.1 hc30
    refine lv_tableIn (off := 59) (tgt := 60) hx hb d_M_call_1 (by rw [hc30]; decide) (by rw [hc30]; decide) (by rw [hc30]; decide) rfl ?_
    refine lv_aload_n hx hb d_M_call_60 rfl (lv_at hl 0 rfl) ?_
    refine lv_iload_n hx hb d_M_call_61 rfl (lv_at hl 1 rfl) ?_
    refine lv_iload_n hx hb d_M_call_62 rfl (lv_at hl 3 rfl) ?_
    refine kc_M_M_end hx hb hml hown hts hV hK hX hAe (c_M_end l E s0 x1 x3 _ hw) hl.1 (Nat.le_of_ble_eq_true rfl) d_M_call_63 (Nat.le_of_ble_eq_true rfl) (Nat.le_of_ble_eq_true rfl) (fun s1 H locs hw hV => ?_)
    refine lv_goto (tgt := 236) hx hb d_M_call_66 rfl ?_
    exact kr_v hx hb hr hV hK hX hAe hw d_M_call_236
  have hsw := hsw.2
  by_cases hc31 : x2 = 31
  · have hw := hsw.1 hc31
    refine lv_tableIn (off := 68) (tgt := 69) hx hb d_M_call_1 (by rw [hc31]; decide) (by rw [hc31]; decide) (by rw [hc31]; decide) rfl ?_
    refine lv_aload_n hx hb d_M_call_69 rfl (lv_at hl 0 rfl) ?_
    refine lv_iload_n hx hb d_M_call_70 rfl (lv_at hl 1 rfl) ?_
    refine lv_iload_n hx hb d_M_call_71 rfl (lv_at hl 1 rfl) ?_
    refine kc_M_M_push hx hb hml hown hts hV hK hX hAe (c_M_push l E s0 x1 x1 _ hw) hl.1 (Nat.le_of_ble_eq_true rfl) d_M_call_72 (Nat.le_of_ble_eq_true rfl) (Nat.le_of_ble_eq_true rfl) (fun s2 H locs hw hV => ?_)
    refine lv_goto (tgt := 236) hx hb d_M_call_75 rfl ?_
    exact kr_v hx hb hr hV hK hX hAe hw d_M_call_236
  have hsw := hsw.2
  by_cases hc32 : x2 = 32
  · have hw := hsw.1 hc32
    refine lv_tableIn (off := 77) (tgt := 78) hx hb d_M_call_1 (by rw [hc32]; decide) (by rw [hc32]; decide) (by rw [hc32]; decide) rfl ?_
    refine lv_aload_n hx hb d_M_call_78 rfl (lv_at hl 0 rfl) ?_
    refine lv_iload_n hx hb d_M_call_79 rfl (lv_at hl 1 rfl) ?_
    refine kc_M_M_toEnd hx hb hml hown hts hV hK hX hAe (c_M_toEnd l E s0 x1 _ hw) hl.1 (Nat.le_of_ble_eq_true rfl) d_M_call_80 (Nat.le_of_ble_eq_true rfl) (Nat.le_of_ble_eq_true rfl) (fun s3 H locs hw hV => ?_)
    refine lv_goto (tgt := 236) hx hb d_M_call_83 rfl ?_
    exact kr_v hx hb hr hV hK hX hAe hw d_M_call_236
  have hsw := hsw.2
  by_cases hc33 : x2 = 33
  · have hw := hsw.1 hc33
    refine lv_tableIn (off := 85) (tgt := 86) hx hb d_M_call_1 (by rw [hc33]; decide) (by rw [hc33]; decide) (by rw [hc33]; decide) rfl ?_
    refine lv_aload_n hx hb d_M_call_86 rfl (lv_at hl 0 rfl) ?_
    refine lv_iload_n hx hb d_M_call_87 rfl (lv_at hl 1 rfl) ?_
    refine lv_iload_n hx hb d_M_call_88 rfl (lv_at hl 3 rfl) ?_
    refine lv_iload hx hb d_M_call_89 (lv_at hl 4 rfl) ?_
    refine kc_M_M_write hx hb hml hown hts hV hK hX hAe (c_M_write l E s0 x1 x3 x4 _ hw) hl.1 (Nat.le_of_ble_eq_true rfl) d_M_call_91 (Nat.le_of_ble_eq_true rfl) (Nat.le_of_ble_eq_true rfl) (fun s4 H locs hw hV => ?_)
    refine lv_goto (tgt := 236) hx hb d_M_call_94 rfl ?_
    exact kr_v hx hb hr hV hK hX hAe hw d_M_call_236
  have hsw := hsw.2
  by_cases hc34 : x2 = 34
  · have hw := hsw.1 hc34
    refine lv_tableIn (off := 96) (tgt := 97) hx hb d_M_call_1 (by rw [hc34]; decide) (by rw [hc34]; decide) (by rw [hc34]; decide) rfl ?_
    refine lv_aload_n hx hb d_M_call_97 rfl (lv_at hl 0 rfl) ?_
    refine lv_iload_n hx hb d_M_call_98 rfl (lv_at hl 1 rfl) ?_
    refine lv_iload hx hb d_M_call_99 (lv_at hl 4 rfl) ?_
    refine kc_M_M_read hx hb hml hown hts hV hK hX hAe (c_M_read l E s0 x1 x4 _ hw) hl.1 (Nat.le_of_ble_eq_true rfl) d_M_call_101 (Nat.le_of_ble_eq_true rfl) (Nat.le_of_ble_eq_true rfl) (fun s5 H locs hw hV => ?_)
    refine lv_goto (tgt := 236) hx hb d_M_call_104 rfl ?_
    exact kr_v hx hb hr hV hK hX hAe hw d_M_call_236
  have hsw := hsw.2
  by_cases hc35 : x2 = 35
  · have hw := hsw.1 hc35
    refine lv_tableIn (off := 106) (tgt := 107) hx hb d_M_call_1 (by rw [hc35]; decide) (by rw [hc35]; decide) (by rw [hc35]; decide) rfl ?_
    refine lv_aload_n hx hb d_M_call_107 rfl (lv_at hl 0 rfl) ?_
    refine lv_iload_n hx hb d_M_call_108 rfl (lv_at hl 1 rfl) ?_
    refine kc_M_M_fork hx hb hml hown hts hV hK hX hAe (c_M_fork l E s0 x1 _ hw) hl.1 (Nat.le_of_ble_eq_true rfl) d_M_call_109 (Nat.le_of_ble_eq_true rfl) (Nat.le_of_ble_eq_true rfl) (fun s6 H locs hw hV => ?_)
    refine lv_goto (tgt := 236) hx hb d_M_call_112 rfl ?_
    exact kr_v hx hb hr hV hK hX hAe hw d_M_call_236
  have hsw := hsw.2
  by_cases hc36 : x2 = 36
  · have hw := hsw.1 hc36
    refine lv_tableIn (off := 114) (tgt := 115) hx hb d_M_call_1 (by rw [hc36]; decide) (by rw [hc36]; decide) (by rw [hc36]; decide) rfl ?_
    refine lv_aload_n hx hb d_M_call_115 rfl (lv_at hl 0 rfl) ?_
    refine lv_iload_n hx hb d_M_call_116 rfl (lv_at hl 1 rfl) ?_
    refine kc_M_M_await hx hb hml hown hts hV hK hX hAe (c_M_await l E s0 x1 _ hw) hl.1 (Nat.le_of_ble_eq_true rfl) d_M_call_117 (Nat.le_of_ble_eq_true rfl) (Nat.le_of_ble_eq_true rfl) (fun s7 H locs hw hV => ?_)
    refine lv_goto (tgt := 236) hx hb d_M_call_120 rfl ?_
    exact kr_v hx hb hr hV hK hX hAe hw d_M_call_236
  have hsw := hsw.2
  by_cases hc37 : x2 = 37
  · have hw := hsw.1 hc37
    refine lv_tableIn (off := 122) (tgt := 123) hx hb d_M_call_1 (by rw [hc37]; decide) (by rw [hc37]; decide) (by rw [hc37]; decide) rfl ?_
    refine lv_aload_n hx hb d_M_call_123 rfl (lv_at hl 0 rfl) ?_
    refine lv_iload_n hx hb d_M_call_124 rfl (lv_at hl 1 rfl) ?_
    refine lv_iload_n hx hb d_M_call_125 rfl (lv_at hl 3 rfl) ?_
    refine kc_M_M_kill hx hb hml hown hts hV hK hX hAe (c_M_kill l E s0 x1 x3 _ hw) hl.1 (Nat.le_of_ble_eq_true rfl) d_M_call_126 (Nat.le_of_ble_eq_true rfl) (Nat.le_of_ble_eq_true rfl) (fun s8 H locs hw hV => ?_)
    refine lv_goto (tgt := 236) hx hb d_M_call_129 rfl ?_
    exact kr_v hx hb hr hV hK hX hAe hw d_M_call_236
  have hsw := hsw.2
  by_cases hc38 : x2 = 38
  · have hw := hsw.1 hc38
    refine lv_tableIn (off := 131) (tgt := 132) hx hb d_M_call_1 (by rw [hc38]; decide) (by rw [hc38]; decide) (by rw [hc38]; decide) rfl ?_
    refine lv_aload_n hx hb d_M_call_132 rfl (lv_at hl 0 rfl) ?_
    refine lv_iload_n hx hb d_M_call_133 rfl (lv_at hl 1 rfl) ?_
    refine kc_M_M_makePipe hx hb hml hown hts hV hK hX hAe (c_M_makePipe l E s0 x1 _ hw) hl.1 (Nat.le_of_ble_eq_true rfl) d_M_call_134 (Nat.le_of_ble_eq_true rfl) (Nat.le_of_ble_eq_true rfl) (fun s9 H locs hw hV => ?_)
    refine lv_goto (tgt := 236) hx hb d_M_call_137 rfl ?_
    exact kr_v hx hb hr hV hK hX hAe hw d_M_call_236
  have hsw := hsw.2
  by_cases hc39 : x2 = 39
  · have hw := hsw.1 hc39
    refine lv_tableIn (off := 139) (tgt := 140) hx hb d_M_call_1 (by rw [hc39]; decide) (by rw [hc39]; decide) (by rw [hc39]; decide) rfl ?_
    refine lv_aload_n hx hb d_M_call_140 rfl (lv_at hl 0 rfl) ?_
    refine lv_iload_n hx hb d_M_call_141 rfl (lv_at hl 1 rfl) ?_
    refine lv_aload_n hx hb d_M_call_142 rfl (lv_at hl 0 rfl) ?_
    refine lv_iload_n hx hb d_M_call_143 rfl (lv_at hl 1 rfl) ?_
    refine lv_iload_n hx hb d_M_call_144 rfl (lv_at hl 3 rfl) ?_
    refine kc_M_M_descriptorOf hx hb hml hown hts hV hK hX hAe (c_M_descriptorOf l E s0 x1 x3 _ hw) hl.1 (Nat.le_of_ble_eq_true rfl) d_M_call_145 (Nat.le_of_ble_eq_true rfl) (Nat.le_of_ble_eq_true rfl) (fun r11 s10 H locs hw hV => ?_)
    refine lv_if_ne (tgt := 155) hx hb d_M_call_148 rfl (fun hc => ?_) (fun hc => ?_)
    · have hw := hw.1 hc
      refine lv_iconst (v := 0) hx hb d_M_call_155 (by decide) ?_
      exact J156 _ _ _ s10 (0 : Int32) (lv_sub hl [0, 1, 3] rfl) hV hw
    · have hw := hw.2 hc
      refine lv_iconst (v := -1) hx hb d_M_call_151 (by decide) ?_
      refine lv_goto (tgt := 156) hx hb d_M_call_152 rfl ?_
      exact J156 _ _ _ s10 (-1 : Int32) (lv_sub hl [0, 1, 3] rfl) hV hw
  have hsw := hsw.2
  by_cases hc40 : x2 = 40
  · have hw := hsw.1 hc40
    refine lv_tableIn (off := 176) (tgt := 177) hx hb d_M_call_1 (by rw [hc40]; decide) (by rw [hc40]; decide) (by rw [hc40]; decide) rfl ?_
    refine lv_aload_n hx hb d_M_call_177 rfl (lv_at hl 0 rfl) ?_
    refine lv_iload_n hx hb d_M_call_178 rfl (lv_at hl 1 rfl) ?_
    refine lv_iload_n hx hb d_M_call_179 rfl (lv_at hl 3 rfl) ?_
    refine kc_M_M_dup hx hb hml hown hts hV hK hX hAe (c_M_dup l E s0 x1 x3 _ hw) hl.1 (Nat.le_of_ble_eq_true rfl) d_M_call_180 (Nat.le_of_ble_eq_true rfl) (Nat.le_of_ble_eq_true rfl) (fun s12 H locs hw hV => ?_)
    refine lv_goto (tgt := 236) hx hb d_M_call_183 rfl ?_
    exact kr_v hx hb hr hV hK hX hAe hw d_M_call_236
  have hsw := hsw.2
  have hw := hsw ⟨hc30, hc31, hc32, hc33, hc34, hc35, hc36, hc37, hc38, hc39, hc40⟩
  refine kr_dflt (g2 := F0 m 186 ls []) ?_ (fun kd => ?_)
  · refine lv_aload_n hx hb d_M_call_186 rfl (lv_at hl 0 rfl) ?_
    refine lv_iload_n hx hb d_M_call_187 rfl (lv_at hl 1 rfl) ?_
    refine lv_iconst (v := 0) hx hb d_M_call_188 (by decide) ?_
    refine kc_M_M_push hx hb hml hown hts hV hK hX hAe (c_M_push l E s0 x1 (0 : Int32) _ hw) hl.1 (Nat.le_of_ble_eq_true rfl) d_M_call_189 (Nat.le_of_ble_eq_true rfl) (Nat.le_of_ble_eq_true rfl) (fun s13 H locs hw hV => ?_)
    refine lv_iload_n hx hb d_M_call_192 rfl (lv_at hl 3 rfl) ?_
    refine lv_if_le (tgt := 236) hx hb d_M_call_193 rfl (fun hc => ?_) (fun hc => ?_)
    · have hw := hw.1 hc
      exact kr_v hx hb hr hV hK hX hAe hw d_M_call_236
    · have hw := hw.2 hc
      refine lv_aload_n hx hb d_M_call_196 rfl (lv_at hl 0 rfl) ?_
      refine lv_iload_n hx hb d_M_call_197 rfl (lv_at hl 1 rfl) ?_
      refine kc_M_M_leaveQueue hx hb hml hown hts hV hK hX hAe (c_M_leaveQueue l E s13 x1 _ hw) hl.1 (Nat.le_of_ble_eq_true rfl) d_M_call_198 (Nat.le_of_ble_eq_true rfl) (Nat.le_of_ble_eq_true rfl) (fun s14 H locs hw hV => ?_)
      refine lv_aload_n hx hb d_M_call_201 rfl (lv_at hl 0 rfl) ?_
      refine kg_M_M_state hx hb hG hown hK hV d_M_call_202 ?_
      refine lv_iload_n hx hb d_M_call_205 rfl (lv_at hl 1 rfl) ?_
      refine lv_iconst (v := 5) hx hb d_M_call_206 (by decide) ?_
      refine ks_26 hx hb hK hV hw.1 d_M_call_207 (fun s15 H locs es15 hV => ?_)
      have hw := hw.2 s15 es15
      refine lv_aload_n hx hb d_M_call_208 rfl (lv_at hl 0 rfl) ?_
      refine kg_M_M_until hx hb hG hown hK hV d_M_call_209 ?_
      refine lv_iload_n hx hb d_M_call_212 rfl (lv_at hl 1 rfl) ?_
      refine lv_iload_n hx hb d_M_call_213 rfl (lv_at hl 3 rfl) ?_
      refine lv_ldc hx hb hown (hG _ gm_957) d_M_call_214 ?_
      refine lv_aload_n hx hb d_M_call_216 rfl (lv_at hl 0 rfl) ?_
      refine kg_M_M_time hx hb hG hown hK hV d_M_call_217 ?_
      refine lv_isub hx hb d_M_call_220 ?_
      refine lv_icmp_le (tgt := 229) hx hb d_M_call_221 rfl (fun hc => ?_) (fun hc => ?_)
      · have hw := hw.1 hc
        refine lv_aload_n hx hb d_M_call_229 rfl (lv_at hl 0 rfl) ?_
        refine kg_M_M_time hx hb hG hown hK hV d_M_call_230 ?_
        refine lv_iload_n hx hb d_M_call_233 rfl (lv_at hl 3 rfl) ?_
        refine lv_iadd hx hb d_M_call_234 ?_
        exact J235 _ _ _ s15 ((s15 20 0 4) + x3) (lv_sub hl [] rfl) hV hw
      · have hw := hw.2 hc
        refine lv_ldc hx hb hown (hG _ gm_957) d_M_call_224 ?_
        refine lv_goto (tgt := 235) hx hb d_M_call_226 rfl ?_
        exact J235 _ _ _ s15 (2147483647 : Int32) (lv_sub hl [] rfl) hV hw
  have hn30 : ¬ x2.toInt = 30 := lv_neT hc30 (by decide)
  have hn31 : ¬ x2.toInt = 31 := lv_neT hc31 (by decide)
  have hn32 : ¬ x2.toInt = 32 := lv_neT hc32 (by decide)
  have hn33 : ¬ x2.toInt = 33 := lv_neT hc33 (by decide)
  have hn34 : ¬ x2.toInt = 34 := lv_neT hc34 (by decide)
  have hn35 : ¬ x2.toInt = 35 := lv_neT hc35 (by decide)
  have hn36 : ¬ x2.toInt = 36 := lv_neT hc36 (by decide)
  have hn37 : ¬ x2.toInt = 37 := lv_neT hc37 (by decide)
  have hn38 : ¬ x2.toInt = 38 := lv_neT hc38 (by decide)
  have hn39 : ¬ x2.toInt = 39 := lv_neT hc39 (by decide)
  have hn40 : ¬ x2.toInt = 40 := lv_neT hc40 (by decide)
  exact lv_tableOut (tgt := 186) hx hb d_M_call_1 (by omega) rfl kd
theorem d_M_plain_0 : decode b_M_plain 0 = .ok (.sipush 128, 3) := by decide +kernel
theorem d_M_plain_3 : decode b_M_plain 3 = .ok (.iload_n 1, 1) := by decide +kernel
theorem d_M_plain_4 : decode b_M_plain 4 = .ok (.imul, 1) := by decide +kernel
theorem d_M_plain_5 : decode b_M_plain 5 = .ok (.istore 6, 2) := by decide +kernel
theorem d_M_plain_7 : decode b_M_plain 7 = .ok (.iload_n 2, 1) := by decide +kernel
theorem d_M_plain_8 : decode b_M_plain 8 = .ok (.iconst 1, 1) := by decide +kernel
theorem d_M_plain_9 : decode b_M_plain 9 = .ok (.if_icmp .ne 12, 3) := by decide +kernel
theorem d_M_plain_12 : decode b_M_plain 12 = .ok (.aload_n 0, 1) := by decide +kernel
theorem d_M_plain_13 : decode b_M_plain 13 = .ok (.iload_n 1, 1) := by decide +kernel
theorem d_M_plain_14 : decode b_M_plain 14 = .ok (.iload_n 3, 1) := by decide +kernel
theorem d_M_plain_15 : decode b_M_plain 15 = .ok (.invokevirtual 155, 3) := by decide +kernel
theorem d_M_plain_18 : decode b_M_plain 18 = .ok (.goto 254, 3) := by decide +kernel
theorem d_M_plain_21 : decode b_M_plain 21 = .ok (.iload_n 2, 1) := by decide +kernel
theorem d_M_plain_22 : decode b_M_plain 22 = .ok (.iconst 3, 1) := by decide +kernel
theorem d_M_plain_23 : decode b_M_plain 23 = .ok (.if_icmp .ne 20, 3) := by decide +kernel
theorem d_M_plain_26 : decode b_M_plain 26 = .ok (.aload_n 0, 1) := by decide +kernel
theorem d_M_plain_27 : decode b_M_plain 27 = .ok (.iload_n 1, 1) := by decide +kernel
theorem d_M_plain_28 : decode b_M_plain 28 = .ok (.iload 4, 2) := by decide +kernel
theorem d_M_plain_30 : decode b_M_plain 30 = .ok (.invokevirtual 155, 3) := by decide +kernel
theorem d_M_plain_33 : decode b_M_plain 33 = .ok (.aload_n 0, 1) := by decide +kernel
theorem d_M_plain_34 : decode b_M_plain 34 = .ok (.iload_n 1, 1) := by decide +kernel
theorem d_M_plain_35 : decode b_M_plain 35 = .ok (.iload 4, 2) := by decide +kernel
theorem d_M_plain_37 : decode b_M_plain 37 = .ok (.invokevirtual 155, 3) := by decide +kernel
theorem d_M_plain_40 : decode b_M_plain 40 = .ok (.goto 232, 3) := by decide +kernel
theorem d_M_plain_43 : decode b_M_plain 43 = .ok (.iload_n 2, 1) := by decide +kernel
theorem d_M_plain_44 : decode b_M_plain 44 = .ok (.iconst 4, 1) := by decide +kernel
theorem d_M_plain_45 : decode b_M_plain 45 = .ok (.if_icmp .ne 20, 3) := by decide +kernel
theorem d_M_plain_48 : decode b_M_plain 48 = .ok (.aload_n 0, 1) := by decide +kernel
theorem d_M_plain_49 : decode b_M_plain 49 = .ok (.iload_n 1, 1) := by decide +kernel
theorem d_M_plain_50 : decode b_M_plain 50 = .ok (.iload 5, 2) := by decide +kernel
theorem d_M_plain_52 : decode b_M_plain 52 = .ok (.invokevirtual 155, 3) := by decide +kernel
theorem d_M_plain_55 : decode b_M_plain 55 = .ok (.aload_n 0, 1) := by decide +kernel
theorem d_M_plain_56 : decode b_M_plain 56 = .ok (.iload_n 1, 1) := by decide +kernel
theorem d_M_plain_57 : decode b_M_plain 57 = .ok (.iload 4, 2) := by decide +kernel
theorem d_M_plain_59 : decode b_M_plain 59 = .ok (.invokevirtual 155, 3) := by decide +kernel
theorem d_M_plain_62 : decode b_M_plain 62 = .ok (.goto 210, 3) := by decide +kernel
theorem d_M_plain_65 : decode b_M_plain 65 = .ok (.iload_n 2, 1) := by decide +kernel
theorem d_M_plain_66 : decode b_M_plain 66 = .ok (.iconst 5, 1) := by decide +kernel
theorem d_M_plain_67 : decode b_M_plain 67 = .ok (.if_icmp .lt 25, 3) := by decide +kernel
theorem d_M_plain_70 : decode b_M_plain 70 = .ok (.iload_n 2, 1) := by decide +kernel
theorem d_M_plain_71 : decode b_M_plain 71 = .ok (.bipush 16, 2) := by decide +kernel
theorem d_M_plain_73 : decode b_M_plain 73 = .ok (.if_icmp .gt 19, 3) := by decide +kernel
theorem d_M_plain_76 : decode b_M_plain 76 = .ok (.aload_n 0, 1) := by decide +kernel
theorem d_M_plain_77 : decode b_M_plain 77 = .ok (.iload_n 1, 1) := by decide +kernel
theorem d_M_plain_78 : decode b_M_plain 78 = .ok (.iload_n 2, 1) := by decide +kernel
theorem d_M_plain_79 : decode b_M_plain 79 = .ok (.iload 4, 2) := by decide +kernel
theorem d_M_plain_81 : decode b_M_plain 81 = .ok (.iload 5, 2) := by decide +kernel
theorem d_M_plain_83 : decode b_M_plain 83 = .ok (.invokestatic 158, 3) := by decide +kernel
theorem d_M_plain_86 : decode b_M_plain 86 = .ok (.invokevirtual 155, 3) := by decide +kernel
theorem d_M_plain_89 : decode b_M_plain 89 = .ok (.goto 183, 3) := by decide +kernel
theorem d_M_plain_92 : decode b_M_plain 92 = .ok (.iload_n 2, 1) := by decide +kernel
theorem d_M_plain_93 : decode b_M_plain 93 = .ok (.bipush 17, 2) := by decide +kernel
theorem d_M_plain_95 : decode b_M_plain 95 = .ok (.if_icmp .ne 21, 3) := by decide +kernel
theorem d_M_plain_98 : decode b_M_plain 98 = .ok (.aload_n 0, 1) := by decide +kernel
theorem d_M_plain_99 : decode b_M_plain 99 = .ok (.iload_n 1, 1) := by decide +kernel
theorem d_M_plain_100 : decode b_M_plain 100 = .ok (.iload 4, 2) := by decide +kernel
theorem d_M_plain_102 : decode b_M_plain 102 = .ok (.ifCond .ne 7, 3) := by decide +kernel
theorem d_M_plain_105 : decode b_M_plain 105 = .ok (.iconst 1, 1) := by decide +kernel
theorem d_M_plain_106 : decode b_M_plain 106 = .ok (.goto 4, 3) := by decide +kernel
theorem d_M_plain_109 : decode b_M_plain 109 = .ok (.iconst 0, 1) := by decide +kernel
theorem d_M_plain_110 : decode b_M_plain 110 = .ok (.invokevirtual 155, 3) := by decide +kernel
theorem d_M_plain_113 : decode b_M_plain 113 = .ok (.goto 159, 3) := by decide +kernel
theorem d_M_plain_116 : decode b_M_plain 116 = .ok (.iload_n 2, 1) := by decide +kernel
theorem d_M_plain_117 : decode b_M_plain 117 = .ok (.bipush 18, 2) := by decide +kernel
theorem d_M_plain_119 : decode b_M_plain 119 = .ok (.if_icmp .ne 20, 3) := by decide +kernel
theorem d_M_plain_122 : decode b_M_plain 122 = .ok (.aload_n 0, 1) := by decide +kernel
theorem d_M_plain_123 : decode b_M_plain 123 = .ok (.iload_n 1, 1) := by decide +kernel
theorem d_M_plain_124 : decode b_M_plain 124 = .ok (.aload_n 0, 1) := by decide +kernel
theorem d_M_plain_125 : decode b_M_plain 125 = .ok (.getfield 16, 3) := by decide +kernel
theorem d_M_plain_128 : decode b_M_plain 128 = .ok (.iload 6, 2) := by decide +kernel
theorem d_M_plain_130 : decode b_M_plain 130 = .ok (.iload_n 3, 1) := by decide +kernel
theorem d_M_plain_131 : decode b_M_plain 131 = .ok (.iadd, 1) := by decide +kernel
theorem d_M_plain_132 : decode b_M_plain 132 = .ok (.iaload, 1) := by decide +kernel
theorem d_M_plain_133 : decode b_M_plain 133 = .ok (.invokevirtual 155, 3) := by decide +kernel
theorem d_M_plain_136 : decode b_M_plain 136 = .ok (.goto 136, 3) := by decide +kernel
theorem d_M_plain_139 : decode b_M_plain 139 = .ok (.iload_n 2, 1) := by decide +kernel
theorem d_M_plain_140 : decode b_M_plain 140 = .ok (.bipush 19, 2) := by decide +kernel
theorem d_M_plain_142 : decode b_M_plain 142 = .ok (.if_icmp .ne 17, 3) := by decide +kernel
theorem d_M_plain_145 : decode b_M_plain 145 = .ok (.aload_n 0, 1) := by decide +kernel
theorem d_M_plain_146 : decode b_M_plain 146 = .ok (.getfield 16, 3) := by decide +kernel
theorem d_M_plain_149 : decode b_M_plain 149 = .ok (.iload 6, 2) := by decide +kernel
theorem d_M_plain_151 : decode b_M_plain 151 = .ok (.iload_n 3, 1) := by decide +kernel
theorem d_M_plain_152 : decode b_M_plain 152 = .ok (.iadd, 1) := by decide +kernel
theorem d_M_plain_153 : decode b_M_plain 153 = .ok (.iload 4, 2) := by decide +kernel
theorem d_M_plain_155 : decode b_M_plain 155 = .ok (.iastore, 1) := by decide +kernel
theorem d_M_plain_156 : decode b_M_plain 156 = .ok (.goto 116, 3) := by decide +kernel
theorem d_M_plain_159 : decode b_M_plain 159 = .ok (.iload_n 2, 1) := by decide +kernel
theorem d_M_plain_160 : decode b_M_plain 160 = .ok (.bipush 20, 2) := by decide +kernel
theorem d_M_plain_162 : decode b_M_plain 162 = .ok (.if_icmp .ne 21, 3) := by decide +kernel
theorem d_M_plain_165 : decode b_M_plain 165 = .ok (.aload_n 0, 1) := by decide +kernel
theorem d_M_plain_166 : decode b_M_plain 166 = .ok (.iload_n 1, 1) := by decide +kernel
theorem d_M_plain_167 : decode b_M_plain 167 = .ok (.aload_n 0, 1) := by decide +kernel
theorem d_M_plain_168 : decode b_M_plain 168 = .ok (.getfield 16, 3) := by decide +kernel
theorem d_M_plain_171 : decode b_M_plain 171 = .ok (.iload 6, 2) := by decide +kernel
theorem d_M_plain_173 : decode b_M_plain 173 = .ok (.iload 4, 2) := by decide +kernel
theorem d_M_plain_175 : decode b_M_plain 175 = .ok (.iadd, 1) := by decide +kernel
theorem d_M_plain_176 : decode b_M_plain 176 = .ok (.iaload, 1) := by decide +kernel
theorem d_M_plain_177 : decode b_M_plain 177 = .ok (.invokevirtual 155, 3) := by decide +kernel
theorem d_M_plain_180 : decode b_M_plain 180 = .ok (.goto 92, 3) := by decide +kernel
theorem d_M_plain_183 : decode b_M_plain 183 = .ok (.iload_n 2, 1) := by decide +kernel
theorem d_M_plain_184 : decode b_M_plain 184 = .ok (.bipush 21, 2) := by decide +kernel
theorem d_M_plain_186 : decode b_M_plain 186 = .ok (.if_icmp .ne 18, 3) := by decide +kernel
theorem d_M_plain_189 : decode b_M_plain 189 = .ok (.aload_n 0, 1) := by decide +kernel
theorem d_M_plain_190 : decode b_M_plain 190 = .ok (.getfield 16, 3) := by decide +kernel
theorem d_M_plain_193 : decode b_M_plain 193 = .ok (.iload 6, 2) := by decide +kernel
theorem d_M_plain_195 : decode b_M_plain 195 = .ok (.iload 5, 2) := by decide +kernel
theorem d_M_plain_197 : decode b_M_plain 197 = .ok (.iadd, 1) := by decide +kernel
theorem d_M_plain_198 : decode b_M_plain 198 = .ok (.iload 4, 2) := by decide +kernel
theorem d_M_plain_200 : decode b_M_plain 200 = .ok (.iastore, 1) := by decide +kernel
theorem d_M_plain_201 : decode b_M_plain 201 = .ok (.goto 71, 3) := by decide +kernel
theorem d_M_plain_204 : decode b_M_plain 204 = .ok (.iload_n 2, 1) := by decide +kernel
theorem d_M_plain_205 : decode b_M_plain 205 = .ok (.bipush 22, 2) := by decide +kernel
theorem d_M_plain_207 : decode b_M_plain 207 = .ok (.if_icmp .eq 14, 3) := by decide +kernel
theorem d_M_plain_210 : decode b_M_plain 210 = .ok (.iload_n 2, 1) := by decide +kernel
theorem d_M_plain_211 : decode b_M_plain 211 = .ok (.bipush 23, 2) := by decide +kernel
theorem d_M_plain_213 : decode b_M_plain 213 = .ok (.if_icmp .ne 18, 3) := by decide +kernel
theorem d_M_plain_216 : decode b_M_plain 216 = .ok (.iload 4, 2) := by decide +kernel
theorem d_M_plain_218 : decode b_M_plain 218 = .ok (.ifCond .ne 13, 3) := by decide +kernel
theorem d_M_plain_221 : decode b_M_plain 221 = .ok (.aload_n 0, 1) := by decide +kernel
theorem d_M_plain_222 : decode b_M_plain 222 = .ok (.getfield 25, 3) := by decide +kernel
theorem d_M_plain_225 : decode b_M_plain 225 = .ok (.iload_n 1, 1) := by decide +kernel
theorem d_M_plain_226 : decode b_M_plain 226 = .ok (.iload_n 3, 1) := by decide +kernel
theorem d_M_plain_227 : decode b_M_plain 227 = .ok (.iastore, 1) := by decide +kernel
theorem d_M_plain_228 : decode b_M_plain 228 = .ok (.goto 44, 3) := by decide +kernel
theorem d_M_plain_231 : decode b_M_plain 231 = .ok (.iload_n 2, 1) := by decide +kernel
theorem d_M_plain_232 : decode b_M_plain 232 = .ok (.bipush 24, 2) := by decide +kernel
theorem d_M_plain_234 : decode b_M_plain 234 = .ok (.if_icmp .ne 24, 3) := by decide +kernel
theorem d_M_plain_237 : decode b_M_plain 237 = .ok (.aload_n 0, 1) := by decide +kernel
theorem d_M_plain_238 : decode b_M_plain 238 = .ok (.iload_n 1, 1) := by decide +kernel
theorem d_M_plain_239 : decode b_M_plain 239 = .ok (.aload_n 0, 1) := by decide +kernel
theorem d_M_plain_240 : decode b_M_plain 240 = .ok (.getfield 25, 3) := by decide +kernel
theorem d_M_plain_243 : decode b_M_plain 243 = .ok (.iload_n 1, 1) := by decide +kernel
theorem d_M_plain_244 : decode b_M_plain 244 = .ok (.iaload, 1) := by decide +kernel
theorem d_M_plain_245 : decode b_M_plain 245 = .ok (.invokevirtual 155, 3) := by decide +kernel
theorem d_M_plain_248 : decode b_M_plain 248 = .ok (.aload_n 0, 1) := by decide +kernel
theorem d_M_plain_249 : decode b_M_plain 249 = .ok (.getfield 25, 3) := by decide +kernel
theorem d_M_plain_252 : decode b_M_plain 252 = .ok (.iload_n 1, 1) := by decide +kernel
theorem d_M_plain_253 : decode b_M_plain 253 = .ok (.iload_n 3, 1) := by decide +kernel
theorem d_M_plain_254 : decode b_M_plain 254 = .ok (.iastore, 1) := by decide +kernel
theorem d_M_plain_255 : decode b_M_plain 255 = .ok (.goto 17, 3) := by decide +kernel
theorem d_M_plain_258 : decode b_M_plain 258 = .ok (.iload_n 2, 1) := by decide +kernel
theorem d_M_plain_259 : decode b_M_plain 259 = .ok (.bipush 25, 2) := by decide +kernel
theorem d_M_plain_261 : decode b_M_plain 261 = .ok (.if_icmp .ne 11, 3) := by decide +kernel
theorem d_M_plain_264 : decode b_M_plain 264 = .ok (.aload_n 0, 1) := by decide +kernel
theorem d_M_plain_265 : decode b_M_plain 265 = .ok (.getfield 25, 3) := by decide +kernel
theorem d_M_plain_268 : decode b_M_plain 268 = .ok (.iload_n 1, 1) := by decide +kernel
theorem d_M_plain_269 : decode b_M_plain 269 = .ok (.iload 4, 2) := by decide +kernel
theorem d_M_plain_271 : decode b_M_plain 271 = .ok (.iastore, 1) := by decide +kernel
theorem d_M_plain_272 : decode b_M_plain 272 = .ok (.return_, 1) := by decide +kernel
def w_M_plain_231 (x1 : Int32) (x2 : Int32) (x3 : Int32) (x4 : Int32) (x5 : Int32) (Φ : KS → Prop) (s0 : KS) : Prop := ((¬ x2 = (24 : Int32) → ((¬ x2 = (25 : Int32) → Φ s0) ∧ (x2 = (25 : Int32) → vp_in x1 16 ∧ ∀ s1 : KS, s1 = w3 s0 30 0 x1.toNatClampNeg x4 → Φ s1))) ∧ (x2 = (24 : Int32) → vp_in x1 16 ∧ w_M_push x1 (s0 30 0 x1.toNatClampNeg) s0 (fun s2 => vp_in x1 16 ∧ ∀ s3 : KS, s3 = w3 s2 30 0 x1.toNatClampNeg x3 → Φ s3)))
def w_M_plain_221 (x1 : Int32) (x2 : Int32) (x3 : Int32) (x4 : Int32) (x5 : Int32) (Φ : KS → Prop) (s0 : KS) : Prop := vp_in x1 16 ∧ ∀ s1 : KS, s1 = w3 s0 30 0 x1.toNatClampNeg x3 → Φ s1
def w_M_plain_110 (x1 : Int32) (x2 : Int32) (x3 : Int32) (x4 : Int32) (x5 : Int32) (Φ : KS → Prop) (t0 : Int32) (s0 : KS) : Prop := w_M_push x1 t0 s0 (fun s1 => Φ s1)
def w_M_plain_92 (x1 : Int32) (x2 : Int32) (x3 : Int32) (x4 : Int32) (x5 : Int32) (Φ : KS → Prop) (v6 : Int32) (s0 : KS) : Prop := ((¬ x2 = (17 : Int32) → ((¬ x2 = (18 : Int32) → ((¬ x2 = (19 : Int32) → ((¬ x2 = (20 : Int32) → ((¬ x2 = (21 : Int32) → ((x2 = (22 : Int32) → w_M_plain_221 x1 x2 x3 x4 x5 Φ s0) ∧ (¬ x2 = (22 : Int32) → ((¬ x2 = (23 : Int32) → w_M_plain_231 x1 x2 x3 x4 x5 Φ s0) ∧ (x2 = (23 : Int32) → ((¬ x4 = 0 → w_M_plain_231 x1 x2 x3 x4 x5 Φ s0) ∧ (x4 = 0 → w_M_plain_221 x1 x2 x3 x4 x5 Φ s0))))))) ∧ (x2 = (21 : Int32) → vp_in (v6 + x5) 2048 ∧ ∀ s1 : KS, s1 = w3 s0 27 0 (v6 + x5).toNatClampNeg x4 → Φ s1))) ∧ (x2 = (20 : Int32) → vp_in (v6 + x4) 2048 ∧ w_M_push x1 (s0 27 0 (v6 + x4).toNatClampNeg) s0 (fun s2 => Φ s2)))) ∧ (x2 = (19 : Int32) → vp_in (v6 + x3) 2048 ∧ ∀ s3 : KS, s3 = w3 s0 27 0 (v6 + x3).toNatClampNeg x4 → Φ s3))) ∧ (x2 = (18 : Int32) → vp_in (v6 + x3) 2048 ∧ w_M_push x1 (s0 27 0 (v6 + x3).toNatClampNeg) s0 (fun s4 => Φ s4)))) ∧ (x2 = (17 : Int32) → ((¬ x4 = 0 → w_M_plain_110 x1 x2 x3 x4 x5 Φ (0 : Int32) s0) ∧ (x4 = 0 → w_M_plain_110 x1 x2 x3 x4 x5 Φ (1 : Int32) s0))))
def w_M_plain (x1 : Int32) (x2 : Int32) (x3 : Int32) (x4 : Int32) (x5 : Int32) (s0 : KS) (Φ : KS → Prop) : Prop := ∀ y1 : Int32, y1 = (128 : Int32) * x1 → ((¬ x2 = (1 : Int32) → ((¬ x2 = (3 : Int32) → ((¬ x2 = (4 : Int32) → ((x2 < (5 : Int32) → w_M_plain_92 x1 x2 x3 x4 x5 Φ y1 s0) ∧ (¬ x2 < (5 : Int32) → (((16 : Int32) < x2 → w_M_plain_92 x1 x2 x3 x4 x5 Φ y1 s0) ∧ (¬ (16 : Int32) < x2 → w_M_reckon x2 x4 x5 s0 (fun r3 s2 => w_M_push x1 r3 s2 (fun s4 => Φ s4))))))) ∧ (x2 = (4 : Int32) → w_M_push x1 x5 s0 (fun s5 => w_M_push x1 x4 s5 (fun s6 => Φ s6))))) ∧ (x2 = (3 : Int32) → w_M_push x1 x4 s0 (fun s7 => w_M_push x1 x4 s7 (fun s8 => Φ s8))))) ∧ (x2 = (1 : Int32) → w_M_push x1 x3 s0 (fun s9 => Φ s9)))
set_option maxHeartbeats 4000000 in
set_option maxRecDepth 100000 in
theorem c_M_plain (l : Launch) (E : gE) (s0 : KS) (x1 : Int32) (x2 : Int32) (x3 : Int32) (x4 : Int32) (x5 : Int32) (Φ : KS → Prop) (hw : w_M_plain x1 x2 x3 x4 x5 s0 Φ) : gMv l y_M_plain v_M_plain m_M_plain E MM [.ref (ea E 20 0), .int x1, .int x2, .int x3, .int x4, .int x5] s0 Φ := by
  intro sz
  refine Met.ofW (cc := b_M_plain) (maxL := 7) (ret := none) (by decide) rfl ?_
  intro p e s m args below meth c s₁ B hml hv
  obtain ⟨rfl, hsz, hP, hK, hD, hX⟩ := hv
  have hx := B.exec
  have hb := B.bytes
  have hr := B.returns
  have hts := atoms_spec (ws := v_M_plain) B.pre
  have hG : ∀ w ∈ gG, w.before _ s = true := fun w h => hts w (List.mem_cons_of_mem _ h)
  have hown : s.vm.findClass R_M = some m.cls := findClass_of_methodNamed B.named
  have hlocks := B.notSynchronized
  subst hsz
  obtain ⟨A, hAe⟩ : ∃ A, A = gA E MM s.heap.size := ⟨_, rfl⟩
  rw [← hAe] at hD hX ⊢
  have hV : gV E MM A s0 s s.heap [] := ⟨hP, hD, va_S.rf⟩
  have hl := lv_entry ([.ref (ea E 20 0), .int x1, .int x2, .int x3, .int x4, .int x5] : List Value) (n := 7) (Nat.le_of_ble_eq_true rfl)
  rw [lg_entry_eq]
  generalize (lg_sl ([.ref (ea E 20 0), .int x1, .int x2, .int x3, .int x4, .int x5] : List Value) ++ List.replicate (7 - (lg_sl ([.ref (ea E 20 0), .int x1, .int x2, .int x3, .int x4, .int x5] : List Value)).length) Slot.unset).toArray = ls at hl ⊢
  have hl : lv_has ls 7 [(0, .ref (ea E 20 0)), (1, .int x1), (2, .int x2), (3, .int x3), (4, .int x4), (5, .int x5)] := hl
  have J231 : ∀ (ls : Array Slot) (H : Heap) (locs : List Loc) (s0 : KS), lv_has ls 7 [(0, .ref (ea E 20 0)), (1, .int x1), (2, .int x2), (3, .int x3), (4, .int x4)] → gV E MM A s0 s H locs → w_M_plain_231 x1 x2 x3 x4 x5 Φ s0 → W p l e m_M_plain s m ([.ref (ea E 20 0), .int x1, .int x2, .int x3, .int x4, .int x5] : List Value).toArray below meth c H locs 0 0 (MQ below (gQv E MM A Φ) ([.ref (ea E 20 0), .int x1, .int x2, .int x3, .int x4, .int x5] : List Value).toArray s 0 0 A) (F0 m 231 ls []) := by
    intro  ls H locs s0 hl hV hw
    unfold w_M_plain_231 at hw
    refine lv_iload_n hx hb d_M_plain_231 rfl (lv_at hl 2 rfl) ?_
    refine lv_bipush (v := 24) hx hb d_M_plain_232 (by decide) ?_
    refine lv_icmp_ne (tgt := 258) hx hb d_M_plain_234 rfl (fun hc => ?_) (fun hc => ?_)
    · have hw := hw.1 hc
      refine lv_iload_n hx hb d_M_plain_258 rfl (lv_at hl 2 rfl) ?_
      refine lv_bipush (v := 25) hx hb d_M_plain_259 (by decide) ?_
      refine lv_icmp_ne (tgt := 272) hx hb d_M_plain_261 rfl (fun hc => ?_) (fun hc => ?_)
      · have hw := hw.1 hc
        exact kr_v hx hb hr hV hK hX hAe hw d_M_plain_272
      · have hw := hw.2 hc
        refine lv_aload_n hx hb d_M_plain_264 rfl (lv_at hl 0 rfl) ?_
        refine kg_M_M_place hx hb hG hown hK hV d_M_plain_265 ?_
        refine lv_iload_n hx hb d_M_plain_268 rfl (lv_at hl 1 rfl) ?_
        refine lv_iload hx hb d_M_plain_269 (lv_at hl 4 rfl) ?_
        refine ks_30 hx hb hK hV hw.1 d_M_plain_271 (fun s1 H locs es1 hV => ?_)
        have hw := hw.2 s1 es1
        exact kr_v hx hb hr hV hK hX hAe hw d_M_plain_272
    · have hw := hw.2 hc
      refine lv_aload_n hx hb d_M_plain_237 rfl (lv_at hl 0 rfl) ?_
      refine lv_iload_n hx hb d_M_plain_238 rfl (lv_at hl 1 rfl) ?_
      refine lv_aload_n hx hb d_M_plain_239 rfl (lv_at hl 0 rfl) ?_
      refine kg_M_M_place hx hb hG hown hK hV d_M_plain_240 ?_
      refine lv_iload_n hx hb d_M_plain_243 rfl (lv_at hl 1 rfl) ?_
      refine kl_30 hx hb hK hV hw.1 d_M_plain_244 ?_
      have hw := hw.2
      refine kc_M_M_push hx hb hml hown hts hV hK hX hAe (c_M_push l E s0 x1 (s0 30 0 x1.toNatClampNeg) _ hw) hl.1 (Nat.le_of_ble_eq_true rfl) d_M_plain_245 (Nat.le_of_ble_eq_true rfl) (Nat.le_of_ble_eq_true rfl) (fun s2 H locs hw hV => ?_)
      refine lv_aload_n hx hb d_M_plain_248 rfl (lv_at hl 0 rfl) ?_
      refine kg_M_M_place hx hb hG hown hK hV d_M_plain_249 ?_
      refine lv_iload_n hx hb d_M_plain_252 rfl (lv_at hl 1 rfl) ?_
      refine lv_iload_n hx hb d_M_plain_253 rfl (lv_at hl 3 rfl) ?_
      refine ks_30 hx hb hK hV hw.1 d_M_plain_254 (fun s3 H locs es3 hV => ?_)
      have hw := hw.2 s3 es3
      refine lv_goto (tgt := 272) hx hb d_M_plain_255 rfl ?_
      exact kr_v hx hb hr hV hK hX hAe hw d_M_plain_272
  have J221 : ∀ (ls : Array Slot) (H : Heap) (locs : List Loc) (s0 : KS), lv_has ls 7 [(0, .ref (ea E 20 0)), (1, .int x1), (3, .int x3)] → gV E MM A s0 s H locs → w_M_plain_221 x1 x2 x3 x4 x5 Φ s0 → W p l e m_M_plain s m ([.ref (ea E 20 0), .int x1, .int x2, .int x3, .int x4, .int x5] : List Value).toArray below meth c H locs 0 0 (MQ below (gQv E MM A Φ) ([.ref (ea E 20 0), .int x1, .int x2, .int x3, .int x4, .int x5] : List Value).toArray s 0 0 A) (F0 m 221 ls []) := by
    intro  ls H locs s0 hl hV hw
    unfold w_M_plain_221 at hw
    refine lv_aload_n hx hb d_M_plain_221 rfl (lv_at hl 0 rfl) ?_
    refine kg_M_M_place hx hb hG hown hK hV d_M_plain_222 ?_
    refine lv_iload_n hx hb d_M_plain_225 rfl (lv_at hl 1 rfl) ?_
    refine lv_iload_n hx hb d_M_plain_226 rfl (lv_at hl 2 rfl) ?_
    refine ks_30 hx hb hK hV hw.1 d_M_plain_227 (fun s1 H locs es1 hV => ?_)
    have hw := hw.2 s1 es1
    refine lv_goto (tgt := 272) hx hb d_M_plain_228 rfl ?_
    exact kr_v hx hb hr hV hK hX hAe hw d_M_plain_272
  have J110 : ∀ (ls : Array Slot) (H : Heap) (locs : List Loc) (s0 : KS) (t0 : Int32), lv_has ls 7 [] → gV E MM A s0 s H locs → w_M_plain_110 x1 x2 x3 x4 x5 Φ t0 s0 → W p l e m_M_plain s m ([.ref (ea E 20 0), .int x1, .int x2, .int x3, .int x4, .int x5] : List Value).toArray below meth c H locs 0 0 (MQ below (gQv E MM A Φ) ([.ref (ea E 20 0), .int x1, .int x2, .int x3, .int x4, .int x5] : List Value).toArray s 0 0 A) (F0 m 110 ls [.int t0, .int x1, .ref (ea E 20 0)]) := by
    intro  ls H locs s0 t0 hl hV hw
    unfold w_M_plain_110 at hw
    refine kc_M_M_push hx hb hml hown hts hV hK hX hAe (c_M_push l E s0 x1 t0 _ hw) hl.1 (Nat.le_of_ble_eq_true rfl) d_M_plain_110 (Nat.le_of_ble_eq_true rfl) (Nat.le_of_ble_eq_true rfl) (fun s1 H locs hw hV => ?_)
    refine lv_goto (tgt := 272) hx hb d_M_plain_113 rfl ?_
    exact kr_v hx hb hr hV hK hX hAe hw d_M_plain_272
  have J92 : ∀ (ls : Array Slot) (H : Heap) (locs : List Loc) (s0 : KS) (v6 : Int32), lv_has ls 7 [(0, .ref (ea E 20 0)), (1, .int x1), (2, .int x2), (3, .int x3), (4, .int x4), (5, .int x5), (6, .int v6)] → gV E MM A s0 s H locs → w_M_plain_92 x1 x2 x3 x4 x5 Φ v6 s0 → W p l e m_M_plain s m ([.ref (ea E 20 0), .int x1, .int x2, .int x3, .int x4, .int x5] : List Value).toArray below meth c H locs 0 0 (MQ below (gQv E MM A Φ) ([.ref (ea E 20 0), .int x1, .int x2, .int x3, .int x4, .int x5] : List Value).toArray s 0 0 A) (F0 m 92 ls []) := by
    intro  ls H locs s0 v6 hl hV hw
    unfold w_M_plain_92 at hw
    refine lv_iload_n hx hb d_M_plain_92 rfl (lv_at hl 2 rfl) ?_
    refine lv_bipush (v := 17) hx hb d_M_plain_93 (by decide) ?_
    refine lv_icmp_ne (tgt := 116) hx hb d_M_plain_95 rfl (fun hc => ?_) (fun hc => ?_)
    · have hw := hw.1 hc
      refine lv_iload_n hx hb d_M_plain_116 rfl (lv_at hl 2 rfl) ?_
      refine lv_bipush (v := 18) hx hb d_M_plain_117 (by decide) ?_
      refine lv_icmp_ne (tgt := 139) hx hb d_M_plain_119 rfl (fun hc => ?_) (fun hc => ?_)
      · have hw := hw.1 hc
        refine lv_iload_n hx hb d_M_plain_139 rfl (lv_at hl 2 rfl) ?_
        refine lv_bipush (v := 19) hx hb d_M_plain_140 (by decide) ?_
        refine lv_icmp_ne (tgt := 159) hx hb d_M_plain_142 rfl (fun hc => ?_) (fun hc => ?_)
        · have hw := hw.1 hc
          refine lv_iload_n hx hb d_M_plain_159 rfl (lv_at hl 2 rfl) ?_
          refine lv_bipush (v := 20) hx hb d_M_plain_160 (by decide) ?_
          refine lv_icmp_ne (tgt := 183) hx hb d_M_plain_162 rfl (fun hc => ?_) (fun hc => ?_)
          · have hw := hw.1 hc
            refine lv_iload_n hx hb d_M_plain_183 rfl (lv_at hl 2 rfl) ?_
            refine lv_bipush (v := 21) hx hb d_M_plain_184 (by decide) ?_
            refine lv_icmp_ne (tgt := 204) hx hb d_M_plain_186 rfl (fun hc => ?_) (fun hc => ?_)
            · have hw := hw.1 hc
              refine lv_iload_n hx hb d_M_plain_204 rfl (lv_at hl 2 rfl) ?_
              refine lv_bipush (v := 22) hx hb d_M_plain_205 (by decide) ?_
              refine lv_icmp_eq (tgt := 221) hx hb d_M_plain_207 rfl (fun hc => ?_) (fun hc => ?_)
              · have hw := hw.1 hc
                exact J221 _ _ _ s0 (lv_sub hl [0, 1, 3] rfl) hV hw
              · have hw := hw.2 hc
                refine lv_iload_n hx hb d_M_plain_210 rfl (lv_at hl 2 rfl) ?_
                refine lv_bipush (v := 23) hx hb d_M_plain_211 (by decide) ?_
                refine lv_icmp_ne (tgt := 231) hx hb d_M_plain_213 rfl (fun hc => ?_) (fun hc => ?_)
                · have hw := hw.1 hc
                  exact J231 _ _ _ s0 (lv_sub hl [0, 1, 2, 3, 4] rfl) hV hw
                · have hw := hw.2 hc
                  refine lv_iload hx hb d_M_plain_216 (lv_at hl 4 rfl) ?_
                  refine lv_if_ne (tgt := 231) hx hb d_M_plain_218 rfl (fun hc => ?_) (fun hc => ?_)
                  · have hw := hw.1 hc
                    exact J231 _ _ _ s0 (lv_sub hl [0, 1, 2, 3, 4] rfl) hV hw
                  · have hw := hw.2 hc
                    exact J221 _ _ _ s0 (lv_sub hl [0, 1, 3] rfl) hV hw
            · have hw := hw.2 hc
              refine lv_aload_n hx hb d_M_plain_189 rfl (lv_at hl 0 rfl) ?_
              refine kg_M_M_memory hx hb hG hown hK hV d_M_plain_190 ?_
              refine lv_iload hx hb d_M_plain_193 (lv_at hl 6 rfl) ?_
              refine lv_iload hx hb d_M_plain_195 (lv_at hl 5 rfl) ?_
              refine lv_iadd hx hb d_M_plain_197 ?_
              refine lv_iload hx hb d_M_plain_198 (lv_at hl 4 rfl) ?_
              refine ks_27 hx hb hK hV hw.1 d_M_plain_200 (fun s1 H locs es1 hV => ?_)
              have hw := hw.2 s1 es1
              refine lv_goto (tgt := 272) hx hb d_M_plain_201 rfl ?_
              exact kr_v hx hb hr hV hK hX hAe hw d_M_plain_272
          · have hw := hw.2 hc
            refine lv_aload_n hx hb d_M_plain_165 rfl (lv_at hl 0 rfl) ?_
            refine lv_iload_n hx hb d_M_plain_166 rfl (lv_at hl 1 rfl) ?_
            refine lv_aload_n hx hb d_M_plain_167 rfl (lv_at hl 0 rfl) ?_
            refine kg_M_M_memory hx hb hG hown hK hV d_M_plain_168 ?_
            refine lv_iload hx hb d_M_plain_171 (lv_at hl 6 rfl) ?_
            refine lv_iload hx hb d_M_plain_173 (lv_at hl 4 rfl) ?_
            refine lv_iadd hx hb d_M_plain_175 ?_
            refine kl_27 hx hb hK hV hw.1 d_M_plain_176 ?_
            have hw := hw.2
            refine kc_M_M_push hx hb hml hown hts hV hK hX hAe (c_M_push l E s0 x1 (s0 27 0 (v6 + x4).toNatClampNeg) _ hw) hl.1 (Nat.le_of_ble_eq_true rfl) d_M_plain_177 (Nat.le_of_ble_eq_true rfl) (Nat.le_of_ble_eq_true rfl) (fun s2 H locs hw hV => ?_)
            refine lv_goto (tgt := 272) hx hb d_M_plain_180 rfl ?_
            exact kr_v hx hb hr hV hK hX hAe hw d_M_plain_272
        · have hw := hw.2 hc
          refine lv_aload_n hx hb d_M_plain_145 rfl (lv_at hl 0 rfl) ?_
          refine kg_M_M_memory hx hb hG hown hK hV d_M_plain_146 ?_
          refine lv_iload hx hb d_M_plain_149 (lv_at hl 6 rfl) ?_
          refine lv_iload_n hx hb d_M_plain_151 rfl (lv_at hl 3 rfl) ?_
          refine lv_iadd hx hb d_M_plain_152 ?_
          refine lv_iload hx hb d_M_plain_153 (lv_at hl 4 rfl) ?_
          refine ks_27 hx hb hK hV hw.1 d_M_plain_155 (fun s3 H locs es3 hV => ?_)
          have hw := hw.2 s3 es3
          refine lv_goto (tgt := 272) hx hb d_M_plain_156 rfl ?_
          exact kr_v hx hb hr hV hK hX hAe hw d_M_plain_272
      · have hw := hw.2 hc
        refine lv_aload_n hx hb d_M_plain_122 rfl (lv_at hl 0 rfl) ?_
        refine lv_iload_n hx hb d_M_plain_123 rfl (lv_at hl 1 rfl) ?_
        refine lv_aload_n hx hb d_M_plain_124 rfl (lv_at hl 0 rfl) ?_
        refine kg_M_M_memory hx hb hG hown hK hV d_M_plain_125 ?_
        refine lv_iload hx hb d_M_plain_128 (lv_at hl 6 rfl) ?_
        refine lv_iload_n hx hb d_M_plain_130 rfl (lv_at hl 3 rfl) ?_
        refine lv_iadd hx hb d_M_plain_131 ?_
        refine kl_27 hx hb hK hV hw.1 d_M_plain_132 ?_
        have hw := hw.2
        refine kc_M_M_push hx hb hml hown hts hV hK hX hAe (c_M_push l E s0 x1 (s0 27 0 (v6 + x3).toNatClampNeg) _ hw) hl.1 (Nat.le_of_ble_eq_true rfl) d_M_plain_133 (Nat.le_of_ble_eq_true rfl) (Nat.le_of_ble_eq_true rfl) (fun s4 H locs hw hV => ?_)
        refine lv_goto (tgt := 272) hx hb d_M_plain_136 rfl ?_
        exact kr_v hx hb hr hV hK hX hAe hw d_M_plain_272
    · have hw := hw.2 hc
      refine lv_aload_n hx hb d_M_plain_98 rfl (lv_at hl 0 rfl) ?_
      refine lv_iload_n hx hb d_M_plain_99 rfl (lv_at hl 1 rfl) ?_
      refine lv_iload hx hb d_M_plain_100 (lv_at hl 4 rfl) ?_
      refine lv_if_ne (tgt := 109) hx hb d_M_plain_102 rfl (fun hc => ?_) (fun hc => ?_)
      · have hw := hw.1 hc
        refine lv_iconst (v := 0) hx hb d_M_plain_109 (by decide) ?_
        exact J110 _ _ _ s0 (0 : Int32) (lv_sub hl [] rfl) hV hw
      · have hw := hw.2 hc
        refine lv_iconst (v := 1) hx hb d_M_plain_105 (by decide) ?_
        refine lv_goto (tgt := 110) hx hb d_M_plain_106 rfl ?_
        exact J110 _ _ _ s0 (1 : Int32) (lv_sub hl [] rfl) hV hw
  unfold w_M_plain at hw
  refine lv_sipush (v := 128) hx hb d_M_plain_0 (by decide) ?_
  refine lv_iload_n hx hb d_M_plain_3 rfl (lv_at hl 1 rfl) ?_
  refine lv_imul hx hb d_M_plain_4 ?_
  refine lv_topi (fun y1 ey1 => ?_)
  have hw := hw y1 ey1
  refine lv_istore (lv' := [(6, .int y1), (0, .ref (ea E 20 0)), (1, .int x1), (2, .int x2), (3, .int x3), (4, .int x4), (5, .int x5)]) hx hb d_M_plain_5 hl (by decide) rfl (fun ls hl => ?_)
  refine lv_iload_n hx hb d_M_plain_7 rfl (lv_at hl 3 rfl) ?_
  refine lv_iconst (v := 1) hx hb d_M_plain_8 (by decide) ?_
  refine lv_icmp_ne (tgt := 21) hx hb d_M_plain_9 rfl (fun hc => ?_) (fun hc => ?_)
  · have hw := hw.1 hc
    refine lv_iload_n hx hb d_M_plain_21 rfl (lv_at hl 3 rfl) ?_
    refine lv_iconst (v := 3) hx hb d_M_plain_22 (by decide) ?_
    refine lv_icmp_ne (tgt := 43) hx hb d_M_plain_23 rfl (fun hc => ?_) (fun hc => ?_)
    · have hw := hw.1 hc
      refine lv_iload_n hx hb d_M_plain_43 rfl (lv_at hl 3 rfl) ?_
      refine lv_iconst (v := 4) hx hb d_M_plain_44 (by decide) ?_
      refine lv_icmp_ne (tgt := 65) hx hb d_M_plain_45 rfl (fun hc => ?_) (fun hc => ?_)
      · have hw := hw.1 hc
        refine lv_iload_n hx hb d_M_plain_65 rfl (lv_at hl 3 rfl) ?_
        refine lv_iconst (v := 5) hx hb d_M_plain_66 (by decide) ?_
        refine lv_icmp_lt (tgt := 92) hx hb d_M_plain_67 rfl (fun hc => ?_) (fun hc => ?_)
        · have hw := hw.1 hc
          exact J92 _ _ _ s0 y1 (lv_sub hl [1, 2, 3, 4, 5, 6, 0] rfl) hV hw
        · have hw := hw.2 hc
          refine lv_iload_n hx hb d_M_plain_70 rfl (lv_at hl 3 rfl) ?_
          refine lv_bipush (v := 16) hx hb d_M_plain_71 (by decide) ?_
          refine lv_icmp_gt (tgt := 92) hx hb d_M_plain_73 rfl (fun hc => ?_) (fun hc => ?_)
          · have hw := hw.1 hc
            exact J92 _ _ _ s0 y1 (lv_sub hl [1, 2, 3, 4, 5, 6, 0] rfl) hV hw
          · have hw := hw.2 hc
            refine lv_aload_n hx hb d_M_plain_76 rfl (lv_at hl 1 rfl) ?_
            refine lv_iload_n hx hb d_M_plain_77 rfl (lv_at hl 2 rfl) ?_
            refine lv_iload_n hx hb d_M_plain_78 rfl (lv_at hl 3 rfl) ?_
            refine lv_iload hx hb d_M_plain_79 (lv_at hl 5 rfl) ?_
            refine lv_iload hx hb d_M_plain_81 (lv_at hl 6 rfl) ?_
            refine kc_M_M_reckon hx hb hml hown hts hV hK hX hAe (c_M_reckon l E s0 x2 x4 x5 _ hw) hl.1 (Nat.le_of_ble_eq_true rfl) d_M_plain_83 (Nat.le_of_ble_eq_true rfl) (Nat.le_of_ble_eq_true rfl) (fun r3 s2 H locs hw hV => ?_)
            refine kc_M_M_push hx hb hml hown hts hV hK hX hAe (c_M_push l E s2 x1 r3 _ hw) hl.1 (Nat.le_of_ble_eq_true rfl) d_M_plain_86 (Nat.le_of_ble_eq_true rfl) (Nat.le_of_ble_eq_true rfl) (fun s4 H locs hw hV => ?_)
            refine lv_goto (tgt := 272) hx hb d_M_plain_89 rfl ?_
            exact kr_v hx hb hr hV hK hX hAe hw d_M_plain_272
      · have hw := hw.2 hc
        refine lv_aload_n hx hb d_M_plain_48 rfl (lv_at hl 1 rfl) ?_
        refine lv_iload_n hx hb d_M_plain_49 rfl (lv_at hl 2 rfl) ?_
        refine lv_iload hx hb d_M_plain_50 (lv_at hl 6 rfl) ?_
        refine kc_M_M_push hx hb hml hown hts hV hK hX hAe (c_M_push l E s0 x1 x5 _ hw) hl.1 (Nat.le_of_ble_eq_true rfl) d_M_plain_52 (Nat.le_of_ble_eq_true rfl) (Nat.le_of_ble_eq_true rfl) (fun s5 H locs hw hV => ?_)
        refine lv_aload_n hx hb d_M_plain_55 rfl (lv_at hl 1 rfl) ?_
        refine lv_iload_n hx hb d_M_plain_56 rfl (lv_at hl 2 rfl) ?_
        refine lv_iload hx hb d_M_plain_57 (lv_at hl 5 rfl) ?_
        refine kc_M_M_push hx hb hml hown hts hV hK hX hAe (c_M_push l E s5 x1 x4 _ hw) hl.1 (Nat.le_of_ble_eq_true rfl) d_M_plain_59 (Nat.le_of_ble_eq_true rfl) (Nat.le_of_ble_eq_true rfl) (fun s6 H locs hw hV => ?_)
        refine lv_goto (tgt := 272) hx hb d_M_plain_62 rfl ?_
        exact kr_v hx hb hr hV hK hX hAe hw d_M_plain_272
    · have hw := hw.2 hc
      refine lv_aload_n hx hb d_M_plain_26 rfl (lv_at hl 1 rfl) ?_
      refine lv_iload_n hx hb d_M_plain_27 rfl (lv_at hl 2 rfl) ?_
      refine lv_iload hx hb d_M_plain_28 (lv_at hl 5 rfl) ?_
      refine kc_M_M_push hx hb hml hown hts hV hK hX hAe (c_M_push l E s0 x1 x4 _ hw) hl.1 (Nat.le_of_ble_eq_true rfl) d_M_plain_30 (Nat.le_of_ble_eq_true rfl) (Nat.le_of_ble_eq_true rfl) (fun s7 H locs hw hV => ?_)
      refine lv_aload_n hx hb d_M_plain_33 rfl (lv_at hl 1 rfl) ?_
      refine lv_iload_n hx hb d_M_plain_34 rfl (lv_at hl 2 rfl) ?_
      refine lv_iload hx hb d_M_plain_35 (lv_at hl 5 rfl) ?_
      refine kc_M_M_push hx hb hml hown hts hV hK hX hAe (c_M_push l E s7 x1 x4 _ hw) hl.1 (Nat.le_of_ble_eq_true rfl) d_M_plain_37 (Nat.le_of_ble_eq_true rfl) (Nat.le_of_ble_eq_true rfl) (fun s8 H locs hw hV => ?_)
      refine lv_goto (tgt := 272) hx hb d_M_plain_40 rfl ?_
      exact kr_v hx hb hr hV hK hX hAe hw d_M_plain_272
  · have hw := hw.2 hc
    refine lv_aload_n hx hb d_M_plain_12 rfl (lv_at hl 1 rfl) ?_
    refine lv_iload_n hx hb d_M_plain_13 rfl (lv_at hl 2 rfl) ?_
    refine lv_iload_n hx hb d_M_plain_14 rfl (lv_at hl 4 rfl) ?_
    refine kc_M_M_push hx hb hml hown hts hV hK hX hAe (c_M_push l E s0 x1 x3 _ hw) hl.1 (Nat.le_of_ble_eq_true rfl) d_M_plain_15 (Nat.le_of_ble_eq_true rfl) (Nat.le_of_ble_eq_true rfl) (fun s9 H locs hw hV => ?_)
    refine lv_goto (tgt := 272) hx hb d_M_plain_18 rfl ?_
    exact kr_v hx hb hr hV hK hX hAe hw d_M_plain_272
theorem d_M_instruct_0 : decode b_M_instruct 0 = .ok (.aload_n 0, 1) := by decide +kernel
theorem d_M_instruct_1 : decode b_M_instruct 1 = .ok (.iload_n 1, 1) := by decide +kernel
theorem d_M_instruct_2 : decode b_M_instruct 2 = .ok (.invokevirtual 137, 3) := by decide +kernel
theorem d_M_instruct_5 : decode b_M_instruct 5 = .ok (.istore_n 2, 1) := by decide +kernel
theorem d_M_instruct_6 : decode b_M_instruct 6 = .ok (.iload_n 2, 1) := by decide +kernel
theorem d_M_instruct_7 : decode b_M_instruct 7 = .ok (.ifCond .le 14, 3) := by decide +kernel
theorem d_M_instruct_10 : decode b_M_instruct 10 = .ok (.aload_n 0, 1) := by decide +kernel
theorem d_M_instruct_11 : decode b_M_instruct 11 = .ok (.iload_n 1, 1) := by decide +kernel
theorem d_M_instruct_12 : decode b_M_instruct 12 = .ok (.sipush (-1000), 3) := by decide +kernel
theorem d_M_instruct_15 : decode b_M_instruct 15 = .ok (.iload_n 2, 1) := by decide +kernel
theorem d_M_instruct_16 : decode b_M_instruct 16 = .ok (.isub, 1) := by decide +kernel
theorem d_M_instruct_17 : decode b_M_instruct 17 = .ok (.invokevirtual 140, 3) := by decide +kernel
theorem d_M_instruct_20 : decode b_M_instruct 20 = .ok (.return_, 1) := by decide +kernel
theorem d_M_instruct_21 : decode b_M_instruct 21 = .ok (.aload_n 0, 1) := by decide +kernel
theorem d_M_instruct_22 : decode b_M_instruct 22 = .ok (.getfield 16, 3) := by decide +kernel
theorem d_M_instruct_25 : decode b_M_instruct 25 = .ok (.sipush 128, 3) := by decide +kernel
theorem d_M_instruct_28 : decode b_M_instruct 28 = .ok (.iload_n 1, 1) := by decide +kernel
theorem d_M_instruct_29 : decode b_M_instruct 29 = .ok (.imul, 1) := by decide +kernel
theorem d_M_instruct_30 : decode b_M_instruct 30 = .ok (.aload_n 0, 1) := by decide +kernel
theorem d_M_instruct_31 : decode b_M_instruct 31 = .ok (.getfield 25, 3) := by decide +kernel
theorem d_M_instruct_34 : decode b_M_instruct 34 = .ok (.iload_n 1, 1) := by decide +kernel
theorem d_M_instruct_35 : decode b_M_instruct 35 = .ok (.iaload, 1) := by decide +kernel
theorem d_M_instruct_36 : decode b_M_instruct 36 = .ok (.iadd, 1) := by decide +kernel
theorem d_M_instruct_37 : decode b_M_instruct 37 = .ok (.iaload, 1) := by decide +kernel
theorem d_M_instruct_38 : decode b_M_instruct 38 = .ok (.istore_n 3, 1) := by decide +kernel
theorem d_M_instruct_39 : decode b_M_instruct 39 = .ok (.iload_n 3, 1) := by decide +kernel
theorem d_M_instruct_40 : decode b_M_instruct 40 = .ok (.sipush 255, 3) := by decide +kernel
theorem d_M_instruct_43 : decode b_M_instruct 43 = .ok (.iand, 1) := by decide +kernel
theorem d_M_instruct_44 : decode b_M_instruct 44 = .ok (.istore 4, 2) := by decide +kernel
theorem d_M_instruct_46 : decode b_M_instruct 46 = .ok (.iload_n 3, 1) := by decide +kernel
theorem d_M_instruct_47 : decode b_M_instruct 47 = .ok (.bipush 8, 2) := by decide +kernel
theorem d_M_instruct_49 : decode b_M_instruct 49 = .ok (.ishr, 1) := by decide +kernel
theorem d_M_instruct_50 : decode b_M_instruct 50 = .ok (.istore 5, 2) := by decide +kernel
theorem d_M_instruct_52 : decode b_M_instruct 52 = .ok (.aload_n 0, 1) := by decide +kernel
theorem d_M_instruct_53 : decode b_M_instruct 53 = .ok (.iload_n 1, 1) := by decide +kernel
theorem d_M_instruct_54 : decode b_M_instruct 54 = .ok (.iload 4, 2) := by decide +kernel
theorem d_M_instruct_56 : decode b_M_instruct 56 = .ok (.invokevirtual 134, 3) := by decide +kernel
theorem d_M_instruct_59 : decode b_M_instruct 59 = .ok (.istore 6, 2) := by decide +kernel
theorem d_M_instruct_61 : decode b_M_instruct 61 = .ok (.iload 6, 2) := by decide +kernel
theorem d_M_instruct_63 : decode b_M_instruct 63 = .ok (.bipush 17, 2) := by decide +kernel
theorem d_M_instruct_65 : decode b_M_instruct 65 = .ok (.if_icmp .ne 16, 3) := by decide +kernel
theorem d_M_instruct_68 : decode b_M_instruct 68 = .ok (.aload_n 0, 1) := by decide +kernel
theorem d_M_instruct_69 : decode b_M_instruct 69 = .ok (.iload_n 1, 1) := by decide +kernel
theorem d_M_instruct_70 : decode b_M_instruct 70 = .ok (.invokevirtual 85, 3) := by decide +kernel
theorem d_M_instruct_73 : decode b_M_instruct 73 = .ok (.aload_n 0, 1) := by decide +kernel
theorem d_M_instruct_74 : decode b_M_instruct 74 = .ok (.getfield 13, 3) := by decide +kernel
theorem d_M_instruct_77 : decode b_M_instruct 77 = .ok (.iload_n 1, 1) := by decide +kernel
theorem d_M_instruct_78 : decode b_M_instruct 78 = .ok (.iconst 4, 1) := by decide +kernel
theorem d_M_instruct_79 : decode b_M_instruct 79 = .ok (.iastore, 1) := by decide +kernel
theorem d_M_instruct_80 : decode b_M_instruct 80 = .ok (.return_, 1) := by decide +kernel
theorem d_M_instruct_81 : decode b_M_instruct 81 = .ok (.iload 6, 2) := by decide +kernel
theorem d_M_instruct_83 : decode b_M_instruct 83 = .ok (.ifCond .lt 30, 3) := by decide +kernel
theorem d_M_instruct_86 : decode b_M_instruct 86 = .ok (.aload_n 0, 1) := by decide +kernel
theorem d_M_instruct_87 : decode b_M_instruct 87 = .ok (.iload 6, 2) := by decide +kernel
theorem d_M_instruct_89 : decode b_M_instruct 89 = .ok (.iload_n 1, 1) := by decide +kernel
theorem d_M_instruct_90 : decode b_M_instruct 90 = .ok (.iload 6, 2) := by decide +kernel
theorem d_M_instruct_92 : decode b_M_instruct 92 = .ok (.bipush 8, 2) := by decide +kernel
theorem d_M_instruct_94 : decode b_M_instruct 94 = .ok (.if_icmp .lt 14, 3) := by decide +kernel
theorem d_M_instruct_97 : decode b_M_instruct 97 = .ok (.iload 6, 2) := by decide +kernel
theorem d_M_instruct_99 : decode b_M_instruct 99 = .ok (.bipush 16, 2) := by decide +kernel
theorem d_M_instruct_101 : decode b_M_instruct 101 = .ok (.if_icmp .ge 7, 3) := by decide +kernel
theorem d_M_instruct_104 : decode b_M_instruct 104 = .ok (.iconst 3, 1) := by decide +kernel
theorem d_M_instruct_105 : decode b_M_instruct 105 = .ok (.goto 4, 3) := by decide +kernel
theorem d_M_instruct_108 : decode b_M_instruct 108 = .ok (.iconst 2, 1) := by decide +kernel
theorem d_M_instruct_109 : decode b_M_instruct 109 = .ok (.invokevirtual 143, 3) := by decide +kernel
theorem d_M_instruct_112 : decode b_M_instruct 112 = .ok (.return_, 1) := by decide +kernel
theorem d_M_instruct_113 : decode b_M_instruct 113 = .ok (.iload 4, 2) := by decide +kernel
theorem d_M_instruct_115 : decode b_M_instruct 115 = .ok (.invokestatic 128, 3) := by decide +kernel
theorem d_M_instruct_118 : decode b_M_instruct 118 = .ok (.ifCond .le 12, 3) := by decide +kernel
theorem d_M_instruct_121 : decode b_M_instruct 121 = .ok (.aload_n 0, 1) := by decide +kernel
theorem d_M_instruct_122 : decode b_M_instruct 122 = .ok (.iload_n 1, 1) := by decide +kernel
theorem d_M_instruct_123 : decode b_M_instruct 123 = .ok (.iconst 0, 1) := by decide +kernel
theorem d_M_instruct_124 : decode b_M_instruct 124 = .ok (.invokevirtual 112, 3) := by decide +kernel
theorem d_M_instruct_127 : decode b_M_instruct 127 = .ok (.goto 4, 3) := by decide +kernel
theorem d_M_instruct_130 : decode b_M_instruct 130 = .ok (.iconst 0, 1) := by decide +kernel
theorem d_M_instruct_131 : decode b_M_instruct 131 = .ok (.istore 7, 2) := by decide +kernel
theorem d_M_instruct_133 : decode b_M_instruct 133 = .ok (.iload 4, 2) := by decide +kernel
theorem d_M_instruct_135 : decode b_M_instruct 135 = .ok (.invokestatic 128, 3) := by decide +kernel
theorem d_M_instruct_138 : decode b_M_instruct 138 = .ok (.iconst 1, 1) := by decide +kernel
theorem d_M_instruct_139 : decode b_M_instruct 139 = .ok (.if_icmp .le 12, 3) := by decide +kernel
theorem d_M_instruct_142 : decode b_M_instruct 142 = .ok (.aload_n 0, 1) := by decide +kernel
theorem d_M_instruct_143 : decode b_M_instruct 143 = .ok (.iload_n 1, 1) := by decide +kernel
theorem d_M_instruct_144 : decode b_M_instruct 144 = .ok (.iconst 1, 1) := by decide +kernel
theorem d_M_instruct_145 : decode b_M_instruct 145 = .ok (.invokevirtual 112, 3) := by decide +kernel
theorem d_M_instruct_148 : decode b_M_instruct 148 = .ok (.goto 5, 3) := by decide +kernel
theorem d_M_instruct_151 : decode b_M_instruct 151 = .ok (.iload 7, 2) := by decide +kernel
theorem d_M_instruct_153 : decode b_M_instruct 153 = .ok (.istore 8, 2) := by decide +kernel
theorem d_M_instruct_155 : decode b_M_instruct 155 = .ok (.aload_n 0, 1) := by decide +kernel
theorem d_M_instruct_156 : decode b_M_instruct 156 = .ok (.getfield 22, 3) := by decide +kernel
theorem d_M_instruct_159 : decode b_M_instruct 159 = .ok (.iload_n 1, 1) := by decide +kernel
theorem d_M_instruct_160 : decode b_M_instruct 160 = .ok (.dup2, 1) := by decide +kernel
theorem d_M_instruct_161 : decode b_M_instruct 161 = .ok (.iaload, 1) := by decide +kernel
theorem d_M_instruct_162 : decode b_M_instruct 162 = .ok (.iload 4, 2) := by decide +kernel
theorem d_M_instruct_164 : decode b_M_instruct 164 = .ok (.invokestatic 128, 3) := by decide +kernel
theorem d_M_instruct_167 : decode b_M_instruct 167 = .ok (.isub, 1) := by decide +kernel
theorem d_M_instruct_168 : decode b_M_instruct 168 = .ok (.iastore, 1) := by decide +kernel
theorem d_M_instruct_169 : decode b_M_instruct 169 = .ok (.aload_n 0, 1) := by decide +kernel
theorem d_M_instruct_170 : decode b_M_instruct 170 = .ok (.getfield 25, 3) := by decide +kernel
theorem d_M_instruct_173 : decode b_M_instruct 173 = .ok (.iload_n 1, 1) := by decide +kernel
theorem d_M_instruct_174 : decode b_M_instruct 174 = .ok (.dup2, 1) := by decide +kernel
theorem d_M_instruct_175 : decode b_M_instruct 175 = .ok (.iaload, 1) := by decide +kernel
theorem d_M_instruct_176 : decode b_M_instruct 176 = .ok (.iconst 1, 1) := by decide +kernel
theorem d_M_instruct_177 : decode b_M_instruct 177 = .ok (.iadd, 1) := by decide +kernel
theorem d_M_instruct_178 : decode b_M_instruct 178 = .ok (.iastore, 1) := by decide +kernel
theorem d_M_instruct_179 : decode b_M_instruct 179 = .ok (.iload 4, 2) := by decide +kernel
theorem d_M_instruct_181 : decode b_M_instruct 181 = .ok (.bipush 30, 2) := by decide +kernel
theorem d_M_instruct_183 : decode b_M_instruct 183 = .ok (.if_icmp .ge 19, 3) := by decide +kernel
theorem d_M_instruct_186 : decode b_M_instruct 186 = .ok (.aload_n 0, 1) := by decide +kernel
theorem d_M_instruct_187 : decode b_M_instruct 187 = .ok (.iload_n 1, 1) := by decide +kernel
theorem d_M_instruct_188 : decode b_M_instruct 188 = .ok (.iload 4, 2) := by decide +kernel
theorem d_M_instruct_190 : decode b_M_instruct 190 = .ok (.iload 5, 2) := by decide +kernel
theorem d_M_instruct_192 : decode b_M_instruct 192 = .ok (.iload 8, 2) := by decide +kernel
theorem d_M_instruct_194 : decode b_M_instruct 194 = .ok (.iload 7, 2) := by decide +kernel
theorem d_M_instruct_196 : decode b_M_instruct 196 = .ok (.invokevirtual 147, 3) := by decide +kernel
theorem d_M_instruct_199 : decode b_M_instruct 199 = .ok (.goto 14, 3) := by decide +kernel
theorem d_M_instruct_202 : decode b_M_instruct 202 = .ok (.aload_n 0, 1) := by decide +kernel
theorem d_M_instruct_203 : decode b_M_instruct 203 = .ok (.iload_n 1, 1) := by decide +kernel
theorem d_M_instruct_204 : decode b_M_instruct 204 = .ok (.iload 4, 2) := by decide +kernel
theorem d_M_instruct_206 : decode b_M_instruct 206 = .ok (.iload 8, 2) := by decide +kernel
theorem d_M_instruct_208 : decode b_M_instruct 208 = .ok (.iload 7, 2) := by decide +kernel
theorem d_M_instruct_210 : decode b_M_instruct 210 = .ok (.invokevirtual 151, 3) := by decide +kernel
theorem d_M_instruct_213 : decode b_M_instruct 213 = .ok (.return_, 1) := by decide +kernel
def w_M_instruct_153 (x1 : Int32) (Φ : KS → Prop) (v4 : Int32) (v5 : Int32) (v7 : Int32) (t0 : Int32) (s0 : KS) : Prop := vp_in x1 16 ∧ w_M_looks v4 s0 (fun r2 s1 => vp_in x1 16 ∧ ∀ s3 : KS, s3 = w3 s1 29 0 x1.toNatClampNeg ((s0 29 0 x1.toNatClampNeg) - r2) → vp_in x1 16 ∧ vp_in x1 16 ∧ ∀ s4 : KS, s4 = w3 s3 30 0 x1.toNatClampNeg ((s3 30 0 x1.toNatClampNeg) + (1 : Int32)) → (((30 : Int32) ≤ v4 → w_M_call x1 v4 t0 v7 s4 (fun s5 => Φ s5)) ∧ (¬ (30 : Int32) ≤ v4 → w_M_plain x1 v4 v5 t0 v7 s4 (fun s6 => Φ s6))))
def w_M_instruct_131 (x1 : Int32) (Φ : KS → Prop) (v4 : Int32) (v5 : Int32) (t0 : Int32) (s0 : KS) : Prop := w_M_looks v4 s0 (fun r2 s1 => ((r2 ≤ (1 : Int32) → w_M_instruct_153 x1 Φ v4 v5 t0 t0 s1) ∧ (¬ r2 ≤ (1 : Int32) → w_M_top x1 (1 : Int32) s1 (fun r4 s3 => w_M_instruct_153 x1 Φ v4 v5 t0 r4 s3))))
def w_M_instruct_109 (x1 : Int32) (Φ : KS → Prop) (t0 : Int32) (t2 : Int32) (s0 : KS) : Prop := w_M_stand t2 x1 t0 s0 (fun s1 => Φ s1)
def w_M_instruct_108 (x1 : Int32) (Φ : KS → Prop) (t1 : Int32) (s0 : KS) : Prop := w_M_instruct_109 x1 Φ (2 : Int32) t1 s0
def w_M_instruct (x1 : Int32) (s0 : KS) (Φ : KS → Prop) : Prop := w_M_faultOf x1 s0 (fun r2 s1 => ((r2 ≤ 0 → vp_in x1 16 ∧ vp_in (((128 : Int32) * x1) + (s1 30 0 x1.toNatClampNeg)) 2048 ∧ ∀ y3 : Int32, y3 = s1 27 0 (((128 : Int32) * x1) + (s1 30 0 x1.toNatClampNeg)).toNatClampNeg → ∀ y4 : Int32, y4 = y3 &&& (255 : Int32) → ∀ y5 : Int32, y5 = y3 >>> ((8 : Int32) &&& 31) → w_M_rowFor x1 y4 s1 (fun r7 s6 => ((¬ r7 = (17 : Int32) → ((r7 < 0 → w_M_looks y4 s6 (fun r9 s8 => ((r9 ≤ 0 → w_M_instruct_131 x1 Φ y4 y5 (0 : Int32) s8) ∧ (¬ r9 ≤ 0 → w_M_top x1 (0 : Int32) s8 (fun r11 s10 => w_M_instruct_131 x1 Φ y4 y5 r11 s10))))) ∧ (¬ r7 < 0 → ((r7 < (8 : Int32) → w_M_instruct_108 x1 Φ r7 s6) ∧ (¬ r7 < (8 : Int32) → (((16 : Int32) ≤ r7 → w_M_instruct_108 x1 Φ r7 s6) ∧ (¬ (16 : Int32) ≤ r7 → w_M_instruct_109 x1 Φ (3 : Int32) r7 s6))))))) ∧ (r7 = (17 : Int32) → w_M_leaveQueue x1 s6 (fun s12 => vp_in x1 16 ∧ ∀ s13 : KS, s13 = w3 s12 26 0 x1.toNatClampNeg (4 : Int32) → Φ s13))))) ∧ (¬ r2 ≤ 0 → w_M_end x1 ((-1000 : Int32) - r2) s1 (fun s14 => Φ s14))))
set_option maxHeartbeats 4000000 in
set_option maxRecDepth 100000 in
theorem c_M_instruct (l : Launch) (E : gE) (s0 : KS) (x1 : Int32) (Φ : KS → Prop) (hw : w_M_instruct x1 s0 Φ) : gMv l y_M_instruct v_M_instruct m_M_instruct E MM [.ref (ea E 20 0), .int x1] s0 Φ := by
  intro sz
  refine Met.ofW (cc := b_M_instruct) (maxL := 9) (ret := none) (by decide) rfl ?_
  intro p e s m args below meth c s₁ B hml hv
  obtain ⟨rfl, hsz, hP, hK, hD, hX⟩ := hv
  have hx := B.exec
  have hb := B.bytes
  have hr := B.returns
  have hts := atoms_spec (ws := v_M_instruct) B.pre
  have hG : ∀ w ∈ gG, w.before _ s = true := fun w h => hts w (List.mem_cons_of_mem _ h)
  have hown : s.vm.findClass R_M = some m.cls := findClass_of_methodNamed B.named
  have hlocks := B.notSynchronized
  subst hsz
  obtain ⟨A, hAe⟩ : ∃ A, A = gA E MM s.heap.size := ⟨_, rfl⟩
  rw [← hAe] at hD hX ⊢
  have hV : gV E MM A s0 s s.heap [] := ⟨hP, hD, va_S.rf⟩
  have hl := lv_entry ([.ref (ea E 20 0), .int x1] : List Value) (n := 9) (Nat.le_of_ble_eq_true rfl)
  rw [lg_entry_eq]
  generalize (lg_sl ([.ref (ea E 20 0), .int x1] : List Value) ++ List.replicate (9 - (lg_sl ([.ref (ea E 20 0), .int x1] : List Value)).length) Slot.unset).toArray = ls at hl ⊢
  have hl : lv_has ls 9 [(0, .ref (ea E 20 0)), (1, .int x1)] := hl
  have J153 : ∀ (ls : Array Slot) (H : Heap) (locs : List Loc) (s0 : KS) (v4 : Int32) (v5 : Int32) (v7 : Int32) (t0 : Int32), lv_has ls 9 [(0, .ref (ea E 20 0)), (1, .int x1), (4, .int v4), (5, .int v5), (7, .int v7)] → gV E MM A s0 s H locs → w_M_instruct_153 x1 Φ v4 v5 v7 t0 s0 → W p l e m_M_instruct s m ([.ref (ea E 20 0), .int x1] : List Value).toArray below meth c H locs 0 0 (MQ below (gQv E MM A Φ) ([.ref (ea E 20 0), .int x1] : List Value).toArray s 0 0 A) (F0 m 153 ls [.int t0]) := by
    intro  ls H locs s0 v4 v5 v7 t0 hl hV hw
    unfold w_M_instruct_153 at hw
    refine lv_istore (lv' := [(8, .int t0), (0, .ref (ea E 20 0)), (1, .int x1), (4, .int v4), (5, .int v5), (7, .int v7)]) hx hb d_M_instruct_153 hl (by decide) rfl (fun ls hl => ?_)
    refine lv_aload_n hx hb d_M_instruct_155 rfl (lv_at hl 1 rfl) ?_
    refine kg_M_M_size hx hb hG hown hK hV d_M_instruct_156 ?_
    refine lv_iload_n hx hb d_M_instruct_159 rfl (lv_at hl 2 rfl) ?_
    refine lv_dup2_11 hx hb d_M_instruct_160 rfl rfl ?_
    refine kl_29 hx hb hK hV hw.1 d_M_instruct_161 ?_
    have hw := hw.2
    refine lv_iload hx hb d_M_instruct_162 (lv_at hl 3 rfl) ?_
    refine kc_M_M_looks hx hb hml hown hts hV hK hX hAe (c_M_looks l E s0 v4 _ hw) hl.1 (Nat.le_of_ble_eq_true rfl) d_M_instruct_164 (Nat.le_of_ble_eq_true rfl) (Nat.le_of_ble_eq_true rfl) (fun r2 s1 H locs hw hV => ?_)
    refine lv_isub hx hb d_M_instruct_167 ?_
    refine ks_29 hx hb hK hV hw.1 d_M_instruct_168 (fun s3 H locs es3 hV => ?_)
    have hw := hw.2 s3 es3
    refine lv_aload_n hx hb d_M_instruct_169 rfl (lv_at hl 1 rfl) ?_
    refine kg_M_M_place hx hb hG hown hK hV d_M_instruct_170 ?_
    refine lv_iload_n hx hb d_M_instruct_173 rfl (lv_at hl 2 rfl) ?_
    refine lv_dup2_11 hx hb d_M_instruct_174 rfl rfl ?_
    refine kl_30 hx hb hK hV hw.1 d_M_instruct_175 ?_
    have hw := hw.2
    refine lv_iconst (v := 1) hx hb d_M_instruct_176 (by decide) ?_
    refine lv_iadd hx hb d_M_instruct_177 ?_
    refine ks_30 hx hb hK hV hw.1 d_M_instruct_178 (fun s4 H locs es4 hV => ?_)
    have hw := hw.2 s4 es4
    refine lv_iload hx hb d_M_instruct_179 (lv_at hl 3 rfl) ?_
    refine lv_bipush (v := 30) hx hb d_M_instruct_181 (by decide) ?_
    refine lv_icmp_ge (tgt := 202) hx hb d_M_instruct_183 rfl (fun hc => ?_) (fun hc => ?_)
    · have hw := hw.1 hc
      refine lv_aload_n hx hb d_M_instruct_202 rfl (lv_at hl 1 rfl) ?_
      refine lv_iload_n hx hb d_M_instruct_203 rfl (lv_at hl 2 rfl) ?_
      refine lv_iload hx hb d_M_instruct_204 (lv_at hl 3 rfl) ?_
      refine lv_iload hx hb d_M_instruct_206 (lv_at hl 0 rfl) ?_
      refine lv_iload hx hb d_M_instruct_208 (lv_at hl 5 rfl) ?_
      refine kc_M_M_call hx hb hml hown hts hV hK hX hAe (c_M_call l E s4 x1 v4 t0 v7 _ hw) hl.1 (Nat.le_of_ble_eq_true rfl) d_M_instruct_210 (Nat.le_of_ble_eq_true rfl) (Nat.le_of_ble_eq_true rfl) (fun s5 H locs hw hV => ?_)
      exact kr_v hx hb hr hV hK hX hAe hw d_M_instruct_213
    · have hw := hw.2 hc
      refine lv_aload_n hx hb d_M_instruct_186 rfl (lv_at hl 1 rfl) ?_
      refine lv_iload_n hx hb d_M_instruct_187 rfl (lv_at hl 2 rfl) ?_
      refine lv_iload hx hb d_M_instruct_188 (lv_at hl 3 rfl) ?_
      refine lv_iload hx hb d_M_instruct_190 (lv_at hl 4 rfl) ?_
      refine lv_iload hx hb d_M_instruct_192 (lv_at hl 0 rfl) ?_
      refine lv_iload hx hb d_M_instruct_194 (lv_at hl 5 rfl) ?_
      refine kc_M_M_plain hx hb hml hown hts hV hK hX hAe (c_M_plain l E s4 x1 v4 v5 t0 v7 _ hw) hl.1 (Nat.le_of_ble_eq_true rfl) d_M_instruct_196 (Nat.le_of_ble_eq_true rfl) (Nat.le_of_ble_eq_true rfl) (fun s6 H locs hw hV => ?_)
      refine lv_goto (tgt := 213) hx hb d_M_instruct_199 rfl ?_
      exact kr_v hx hb hr hV hK hX hAe hw d_M_instruct_213
  have J131 : ∀ (ls : Array Slot) (H : Heap) (locs : List Loc) (s0 : KS) (v4 : Int32) (v5 : Int32) (t0 : Int32), lv_has ls 9 [(0, .ref (ea E 20 0)), (1, .int x1), (4, .int v4), (5, .int v5)] → gV E MM A s0 s H locs → w_M_instruct_131 x1 Φ v4 v5 t0 s0 → W p l e m_M_instruct s m ([.ref (ea E 20 0), .int x1] : List Value).toArray below meth c H locs 0 0 (MQ below (gQv E MM A Φ) ([.ref (ea E 20 0), .int x1] : List Value).toArray s 0 0 A) (F0 m 131 ls [.int t0]) := by
    intro  ls H locs s0 v4 v5 t0 hl hV hw
    unfold w_M_instruct_131 at hw
    refine lv_istore (lv' := [(7, .int t0), (0, .ref (ea E 20 0)), (1, .int x1), (4, .int v4), (5, .int v5)]) hx hb d_M_instruct_131 hl (by decide) rfl (fun ls hl => ?_)
    refine lv_iload hx hb d_M_instruct_133 (lv_at hl 3 rfl) ?_
    refine kc_M_M_looks hx hb hml hown hts hV hK hX hAe (c_M_looks l E s0 v4 _ hw) hl.1 (Nat.le_of_ble_eq_true rfl) d_M_instruct_135 (Nat.le_of_ble_eq_true rfl) (Nat.le_of_ble_eq_true rfl) (fun r2 s1 H locs hw hV => ?_)
    refine lv_iconst (v := 1) hx hb d_M_instruct_138 (by decide) ?_
    refine lv_icmp_le (tgt := 151) hx hb d_M_instruct_139 rfl (fun hc => ?_) (fun hc => ?_)
    · have hw := hw.1 hc
      refine lv_iload hx hb d_M_instruct_151 (lv_at hl 0 rfl) ?_
      exact J153 _ _ _ s1 v4 v5 t0 t0 (lv_sub hl [1, 2, 3, 4, 0] rfl) hV hw
    · have hw := hw.2 hc
      refine lv_aload_n hx hb d_M_instruct_142 rfl (lv_at hl 1 rfl) ?_
      refine lv_iload_n hx hb d_M_instruct_143 rfl (lv_at hl 2 rfl) ?_
      refine lv_iconst (v := 1) hx hb d_M_instruct_144 (by decide) ?_
      refine kc_M_M_top hx hb hml hown hts hV hK hX hAe (c_M_top l E s1 x1 (1 : Int32) _ hw) hl.1 (Nat.le_of_ble_eq_true rfl) d_M_instruct_145 (Nat.le_of_ble_eq_true rfl) (Nat.le_of_ble_eq_true rfl) (fun r4 s3 H locs hw hV => ?_)
      refine lv_goto (tgt := 153) hx hb d_M_instruct_148 rfl ?_
      exact J153 _ _ _ s3 v4 v5 t0 r4 (lv_sub hl [1, 2, 3, 4, 0] rfl) hV hw
  have J109 : ∀ (ls : Array Slot) (H : Heap) (locs : List Loc) (s0 : KS) (t0 : Int32) (t2 : Int32), lv_has ls 9 [] → gV E MM A s0 s H locs → w_M_instruct_109 x1 Φ t0 t2 s0 → W p l e m_M_instruct s m ([.ref (ea E 20 0), .int x1] : List Value).toArray below meth c H locs 0 0 (MQ below (gQv E MM A Φ) ([.ref (ea E 20 0), .int x1] : List Value).toArray s 0 0 A) (F0 m 109 ls [.int t0, .int x1, .int t2, .ref (ea E 20 0)]) := by
    intro  ls H locs s0 t0 t2 hl hV hw
    unfold w_M_instruct_109 at hw
    refine kc_M_M_stand hx hb hml hown hts hV hK hX hAe (c_M_stand l E s0 t2 x1 t0 _ hw) hl.1 (Nat.le_of_ble_eq_true rfl) d_M_instruct_109 (Nat.le_of_ble_eq_true rfl) (Nat.le_of_ble_eq_true rfl) (fun s1 H locs hw hV => ?_)
    exact kr_v hx hb hr hV hK hX hAe hw d_M_instruct_112
  have J108 : ∀ (ls : Array Slot) (H : Heap) (locs : List Loc) (s0 : KS) (t1 : Int32), lv_has ls 9 [] → gV E MM A s0 s H locs → w_M_instruct_108 x1 Φ t1 s0 → W p l e m_M_instruct s m ([.ref (ea E 20 0), .int x1] : List Value).toArray below meth c H locs 0 0 (MQ below (gQv E MM A Φ) ([.ref (ea E 20 0), .int x1] : List Value).toArray s 0 0 A) (F0 m 108 ls [.int x1, .int t1, .ref (ea E 20 0)]) := by
    intro  ls H locs s0 t1 hl hV hw
    unfold w_M_instruct_108 at hw
    refine lv_iconst (v := 2) hx hb d_M_instruct_108 (by decide) ?_
    exact J109 _ _ _ s0 (2 : Int32) t1 (lv_sub hl [] rfl) hV hw
  unfold w_M_instruct at hw
  refine lv_aload_n hx hb d_M_instruct_0 rfl (lv_at hl 0 rfl) ?_
  refine lv_iload_n hx hb d_M_instruct_1 rfl (lv_at hl 1 rfl) ?_
  refine kc_M_M_faultOf hx hb hml hown hts hV hK hX hAe (c_M_faultOf l E s0 x1 _ hw) hl.1 (Nat.le_of_ble_eq_true rfl) d_M_instruct_2 (Nat.le_of_ble_eq_true rfl) (Nat.le_of_ble_eq_true rfl) (fun r2 s1 H locs hw hV => ?_)
  refine lv_istore_n (lv' := [(2, .int r2), (0, .ref (ea E 20 0)), (1, .int x1)]) hx hb d_M_instruct_5 rfl hl (by decide) rfl (fun ls hl => ?_)
  refine lv_iload_n hx hb d_M_instruct_6 rfl (lv_at hl 0 rfl) ?_
  refine lv_if_le (tgt := 21) hx hb d_M_instruct_7 rfl (fun hc => ?_) (fun hc => ?_)
  · have hw := hw.1 hc
    refine lv_aload_n hx hb d_M_instruct_21 rfl (lv_at hl 1 rfl) ?_
    refine kg_M_M_memory hx hb hG hown hK hV d_M_instruct_22 ?_
    refine lv_sipush (v := 128) hx hb d_M_instruct_25 (by decide) ?_
    refine lv_iload_n hx hb d_M_instruct_28 rfl (lv_at hl 2 rfl) ?_
    refine lv_imul hx hb d_M_instruct_29 ?_
    refine lv_aload_n hx hb d_M_instruct_30 rfl (lv_at hl 1 rfl) ?_
    refine kg_M_M_place hx hb hG hown hK hV d_M_instruct_31 ?_
    refine lv_iload_n hx hb d_M_instruct_34 rfl (lv_at hl 2 rfl) ?_
    refine kl_30 hx hb hK hV hw.1 d_M_instruct_35 ?_
    have hw := hw.2
    refine lv_iadd hx hb d_M_instruct_36 ?_
    refine kl_27 hx hb hK hV hw.1 d_M_instruct_37 ?_
    have hw := hw.2
    refine lv_topi (fun y3 ey3 => ?_)
    have hw := hw y3 ey3
    refine lv_istore_n (lv' := [(3, .int y3), (2, .int r2), (0, .ref (ea E 20 0)), (1, .int x1)]) hx hb d_M_instruct_38 rfl hl (by decide) rfl (fun ls hl => ?_)
    refine lv_iload_n hx hb d_M_instruct_39 rfl (lv_at hl 0 rfl) ?_
    refine lv_sipush (v := 255) hx hb d_M_instruct_40 (by decide) ?_
    refine lv_iand hx hb d_M_instruct_43 ?_
    refine lv_topi (fun y4 ey4 => ?_)
    have hw := hw y4 ey4
    refine lv_istore (lv' := [(4, .int y4), (3, .int y3), (2, .int r2), (0, .ref (ea E 20 0)), (1, .int x1)]) hx hb d_M_instruct_44 hl (by decide) rfl (fun ls hl => ?_)
    refine lv_iload_n hx hb d_M_instruct_46 rfl (lv_at hl 1 rfl) ?_
    refine lv_bipush (v := 8) hx hb d_M_instruct_47 (by decide) ?_
    refine lv_ishr hx hb d_M_instruct_49 ?_
    refine lv_topi (fun y5 ey5 => ?_)
    have hw := hw y5 ey5
    refine lv_istore (lv' := [(5, .int y5), (4, .int y4), (3, .int y3), (2, .int r2), (0, .ref (ea E 20 0)), (1, .int x1)]) hx hb d_M_instruct_50 hl (by decide) rfl (fun ls hl => ?_)
    refine lv_aload_n hx hb d_M_instruct_52 rfl (lv_at hl 4 rfl) ?_
    refine lv_iload_n hx hb d_M_instruct_53 rfl (lv_at hl 5 rfl) ?_
    refine lv_iload hx hb d_M_instruct_54 (lv_at hl 1 rfl) ?_
    refine kc_M_M_rowFor hx hb hml hown hts hV hK hX hAe (c_M_rowFor l E s1 x1 y4 _ hw) hl.1 (Nat.le_of_ble_eq_true rfl) d_M_instruct_56 (Nat.le_of_ble_eq_true rfl) (Nat.le_of_ble_eq_true rfl) (fun r7 s6 H locs hw hV => ?_)
    refine lv_istore (lv' := [(6, .int r7), (5, .int y5), (4, .int y4), (3, .int y3), (2, .int r2), (0, .ref (ea E 20 0)), (1, .int x1)]) hx hb d_M_instruct_59 hl (by decide) rfl (fun ls hl => ?_)
    refine lv_iload hx hb d_M_instruct_61 (lv_at hl 0 rfl) ?_
    refine lv_bipush (v := 17) hx hb d_M_instruct_63 (by decide) ?_
    refine lv_icmp_ne (tgt := 81) hx hb d_M_instruct_65 rfl (fun hc => ?_) (fun hc => ?_)
    · have hw := hw.1 hc
      refine lv_iload hx hb d_M_instruct_81 (lv_at hl 0 rfl) ?_
      refine lv_if_lt (tgt := 113) hx hb d_M_instruct_83 rfl (fun hc => ?_) (fun hc => ?_)
      · have hw := hw.1 hc
        refine lv_iload hx hb d_M_instruct_113 (lv_at hl 2 rfl) ?_
        refine kc_M_M_looks hx hb hml hown hts hV hK hX hAe (c_M_looks l E s6 y4 _ hw) hl.1 (Nat.le_of_ble_eq_true rfl) d_M_instruct_115 (Nat.le_of_ble_eq_true rfl) (Nat.le_of_ble_eq_true rfl) (fun r9 s8 H locs hw hV => ?_)
        refine lv_if_le (tgt := 130) hx hb d_M_instruct_118 rfl (fun hc => ?_) (fun hc => ?_)
        · have hw := hw.1 hc
          refine lv_iconst (v := 0) hx hb d_M_instruct_130 (by decide) ?_
          exact J131 _ _ _ s8 y4 y5 (0 : Int32) (lv_sub hl [5, 6, 2, 1] rfl) hV hw
        · have hw := hw.2 hc
          refine lv_aload_n hx hb d_M_instruct_121 rfl (lv_at hl 5 rfl) ?_
          refine lv_iload_n hx hb d_M_instruct_122 rfl (lv_at hl 6 rfl) ?_
          refine lv_iconst (v := 0) hx hb d_M_instruct_123 (by decide) ?_
          refine kc_M_M_top hx hb hml hown hts hV hK hX hAe (c_M_top l E s8 x1 (0 : Int32) _ hw) hl.1 (Nat.le_of_ble_eq_true rfl) d_M_instruct_124 (Nat.le_of_ble_eq_true rfl) (Nat.le_of_ble_eq_true rfl) (fun r11 s10 H locs hw hV => ?_)
          refine lv_goto (tgt := 131) hx hb d_M_instruct_127 rfl ?_
          exact J131 _ _ _ s10 y4 y5 r11 (lv_sub hl [5, 6, 2, 1] rfl) hV hw
      · have hw := hw.2 hc
        refine lv_aload_n hx hb d_M_instruct_86 rfl (lv_at hl 5 rfl) ?_
        refine lv_iload hx hb d_M_instruct_87 (lv_at hl 0 rfl) ?_
        refine lv_iload_n hx hb d_M_instruct_89 rfl (lv_at hl 6 rfl) ?_
        refine lv_iload hx hb d_M_instruct_90 (lv_at hl 0 rfl) ?_
        refine lv_bipush (v := 8) hx hb d_M_instruct_92 (by decide) ?_
        refine lv_icmp_lt (tgt := 108) hx hb d_M_instruct_94 rfl (fun hc => ?_) (fun hc => ?_)
        · have hw := hw.1 hc
          exact J108 _ _ _ s6 r7 (lv_sub hl [] rfl) hV hw
        · have hw := hw.2 hc
          refine lv_iload hx hb d_M_instruct_97 (lv_at hl 0 rfl) ?_
          refine lv_bipush (v := 16) hx hb d_M_instruct_99 (by decide) ?_
          refine lv_icmp_ge (tgt := 108) hx hb d_M_instruct_101 rfl (fun hc => ?_) (fun hc => ?_)
          · have hw := hw.1 hc
            exact J108 _ _ _ s6 r7 (lv_sub hl [] rfl) hV hw
          · have hw := hw.2 hc
            refine lv_iconst (v := 3) hx hb d_M_instruct_104 (by decide) ?_
            refine lv_goto (tgt := 109) hx hb d_M_instruct_105 rfl ?_
            exact J109 _ _ _ s6 (3 : Int32) r7 (lv_sub hl [] rfl) hV hw
    · have hw := hw.2 hc
      refine lv_aload_n hx hb d_M_instruct_68 rfl (lv_at hl 5 rfl) ?_
      refine lv_iload_n hx hb d_M_instruct_69 rfl (lv_at hl 6 rfl) ?_
      refine kc_M_M_leaveQueue hx hb hml hown hts hV hK hX hAe (c_M_leaveQueue l E s6 x1 _ hw) hl.1 (Nat.le_of_ble_eq_true rfl) d_M_instruct_70 (Nat.le_of_ble_eq_true rfl) (Nat.le_of_ble_eq_true rfl) (fun s12 H locs hw hV => ?_)
      refine lv_aload_n hx hb d_M_instruct_73 rfl (lv_at hl 5 rfl) ?_
      refine kg_M_M_state hx hb hG hown hK hV d_M_instruct_74 ?_
      refine lv_iload_n hx hb d_M_instruct_77 rfl (lv_at hl 6 rfl) ?_
      refine lv_iconst (v := 4) hx hb d_M_instruct_78 (by decide) ?_
      refine ks_26 hx hb hK hV hw.1 d_M_instruct_79 (fun s13 H locs es13 hV => ?_)
      have hw := hw.2 s13 es13
      exact kr_v hx hb hr hV hK hX hAe hw d_M_instruct_80
  · have hw := hw.2 hc
    refine lv_aload_n hx hb d_M_instruct_10 rfl (lv_at hl 1 rfl) ?_
    refine lv_iload_n hx hb d_M_instruct_11 rfl (lv_at hl 2 rfl) ?_
    refine lv_sipush (v := -1000) hx hb d_M_instruct_12 (by decide) ?_
    refine lv_iload_n hx hb d_M_instruct_15 rfl (lv_at hl 0 rfl) ?_
    refine lv_isub hx hb d_M_instruct_16 ?_
    refine kc_M_M_end hx hb hml hown hts hV hK hX hAe (c_M_end l E s1 x1 ((-1000 : Int32) - r2) _ hw) hl.1 (Nat.le_of_ble_eq_true rfl) d_M_instruct_17 (Nat.le_of_ble_eq_true rfl) (Nat.le_of_ble_eq_true rfl) (fun s14 H locs hw hV => ?_)
    exact kr_v hx hb hr hV hK hX hAe hw d_M_instruct_20

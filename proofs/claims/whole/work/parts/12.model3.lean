theorem d_M_wakeSleepers_0 : decode b_M_wakeSleepers 0 = .ok (.iconst 1, 1) := by decide +kernel
theorem d_M_wakeSleepers_1 : decode b_M_wakeSleepers 1 = .ok (.istore_n 1, 1) := by decide +kernel
theorem d_M_wakeSleepers_2 : decode b_M_wakeSleepers 2 = .ok (.iload_n 1, 1) := by decide +kernel
theorem d_M_wakeSleepers_3 : decode b_M_wakeSleepers 3 = .ok (.ifCond .eq 85, 3) := by decide +kernel
theorem d_M_wakeSleepers_6 : decode b_M_wakeSleepers 6 = .ok (.iconst (-1), 1) := by decide +kernel
theorem d_M_wakeSleepers_7 : decode b_M_wakeSleepers 7 = .ok (.istore_n 2, 1) := by decide +kernel
theorem d_M_wakeSleepers_8 : decode b_M_wakeSleepers 8 = .ok (.iconst 0, 1) := by decide +kernel
theorem d_M_wakeSleepers_9 : decode b_M_wakeSleepers 9 = .ok (.istore_n 3, 1) := by decide +kernel
theorem d_M_wakeSleepers_10 : decode b_M_wakeSleepers 10 = .ok (.iload_n 3, 1) := by decide +kernel
theorem d_M_wakeSleepers_11 : decode b_M_wakeSleepers 11 = .ok (.bipush 16, 2) := by decide +kernel
theorem d_M_wakeSleepers_13 : decode b_M_wakeSleepers 13 = .ok (.if_icmp .ge 53, 3) := by decide +kernel
theorem d_M_wakeSleepers_16 : decode b_M_wakeSleepers 16 = .ok (.aload_n 0, 1) := by decide +kernel
theorem d_M_wakeSleepers_17 : decode b_M_wakeSleepers 17 = .ok (.getfield 13, 3) := by decide +kernel
theorem d_M_wakeSleepers_20 : decode b_M_wakeSleepers 20 = .ok (.iload_n 3, 1) := by decide +kernel
theorem d_M_wakeSleepers_21 : decode b_M_wakeSleepers 21 = .ok (.iaload, 1) := by decide +kernel
theorem d_M_wakeSleepers_22 : decode b_M_wakeSleepers 22 = .ok (.iconst 5, 1) := by decide +kernel
theorem d_M_wakeSleepers_23 : decode b_M_wakeSleepers 23 = .ok (.if_icmp .ne 37, 3) := by decide +kernel
theorem d_M_wakeSleepers_26 : decode b_M_wakeSleepers 26 = .ok (.aload_n 0, 1) := by decide +kernel
theorem d_M_wakeSleepers_27 : decode b_M_wakeSleepers 27 = .ok (.getfield 37, 3) := by decide +kernel
theorem d_M_wakeSleepers_30 : decode b_M_wakeSleepers 30 = .ok (.iload_n 3, 1) := by decide +kernel
theorem d_M_wakeSleepers_31 : decode b_M_wakeSleepers 31 = .ok (.iaload, 1) := by decide +kernel
theorem d_M_wakeSleepers_32 : decode b_M_wakeSleepers 32 = .ok (.aload_n 0, 1) := by decide +kernel
theorem d_M_wakeSleepers_33 : decode b_M_wakeSleepers 33 = .ok (.getfield 187, 3) := by decide +kernel
theorem d_M_wakeSleepers_36 : decode b_M_wakeSleepers 36 = .ok (.if_icmp .gt 24, 3) := by decide +kernel
theorem d_M_wakeSleepers_39 : decode b_M_wakeSleepers 39 = .ok (.iload_n 2, 1) := by decide +kernel
theorem d_M_wakeSleepers_40 : decode b_M_wakeSleepers 40 = .ok (.ifCond .lt 18, 3) := by decide +kernel
theorem d_M_wakeSleepers_43 : decode b_M_wakeSleepers 43 = .ok (.aload_n 0, 1) := by decide +kernel
theorem d_M_wakeSleepers_44 : decode b_M_wakeSleepers 44 = .ok (.getfield 37, 3) := by decide +kernel
theorem d_M_wakeSleepers_47 : decode b_M_wakeSleepers 47 = .ok (.iload_n 3, 1) := by decide +kernel
theorem d_M_wakeSleepers_48 : decode b_M_wakeSleepers 48 = .ok (.iaload, 1) := by decide +kernel
theorem d_M_wakeSleepers_49 : decode b_M_wakeSleepers 49 = .ok (.aload_n 0, 1) := by decide +kernel
theorem d_M_wakeSleepers_50 : decode b_M_wakeSleepers 50 = .ok (.getfield 37, 3) := by decide +kernel
theorem d_M_wakeSleepers_53 : decode b_M_wakeSleepers 53 = .ok (.iload_n 2, 1) := by decide +kernel
theorem d_M_wakeSleepers_54 : decode b_M_wakeSleepers 54 = .ok (.iaload, 1) := by decide +kernel
theorem d_M_wakeSleepers_55 : decode b_M_wakeSleepers 55 = .ok (.if_icmp .ge 5, 3) := by decide +kernel
theorem d_M_wakeSleepers_58 : decode b_M_wakeSleepers 58 = .ok (.iload_n 3, 1) := by decide +kernel
theorem d_M_wakeSleepers_59 : decode b_M_wakeSleepers 59 = .ok (.istore_n 2, 1) := by decide +kernel
theorem d_M_wakeSleepers_60 : decode b_M_wakeSleepers 60 = .ok (.iinc 3 1, 3) := by decide +kernel
theorem d_M_wakeSleepers_63 : decode b_M_wakeSleepers 63 = .ok (.goto (-53), 3) := by decide +kernel
theorem d_M_wakeSleepers_66 : decode b_M_wakeSleepers 66 = .ok (.iload_n 2, 1) := by decide +kernel
theorem d_M_wakeSleepers_67 : decode b_M_wakeSleepers 67 = .ok (.ifCond .lt 7, 3) := by decide +kernel
theorem d_M_wakeSleepers_70 : decode b_M_wakeSleepers 70 = .ok (.iconst 1, 1) := by decide +kernel
theorem d_M_wakeSleepers_71 : decode b_M_wakeSleepers 71 = .ok (.goto 4, 3) := by decide +kernel
theorem d_M_wakeSleepers_74 : decode b_M_wakeSleepers 74 = .ok (.iconst 0, 1) := by decide +kernel
theorem d_M_wakeSleepers_75 : decode b_M_wakeSleepers 75 = .ok (.istore_n 1, 1) := by decide +kernel
theorem d_M_wakeSleepers_76 : decode b_M_wakeSleepers 76 = .ok (.iload_n 1, 1) := by decide +kernel
theorem d_M_wakeSleepers_77 : decode b_M_wakeSleepers 77 = .ok (.ifCond .eq 8, 3) := by decide +kernel
theorem d_M_wakeSleepers_80 : decode b_M_wakeSleepers 80 = .ok (.aload_n 0, 1) := by decide +kernel
theorem d_M_wakeSleepers_81 : decode b_M_wakeSleepers 81 = .ok (.iload_n 2, 1) := by decide +kernel
theorem d_M_wakeSleepers_82 : decode b_M_wakeSleepers 82 = .ok (.invokevirtual 75, 3) := by decide +kernel
theorem d_M_wakeSleepers_85 : decode b_M_wakeSleepers 85 = .ok (.goto (-83), 3) := by decide +kernel
theorem d_M_wakeSleepers_88 : decode b_M_wakeSleepers 88 = .ok (.return_, 1) := by decide +kernel
def w_M_wakeSleepers_75 (K2 : Int32 → KS → Prop) (Φ : KS → Prop) (v2 : Int32) (t0 : Int32) (s0 : KS) : Prop := ((t0 = 0 → K2 t0 s0) ∧ (¬ t0 = 0 → w_M_ready v2 s0 (fun s1 => K2 t0 s1)))
def w_M_wakeSleepers_10 (K2 : Int32 → KS → Prop) (Φ : KS → Prop) : Nat → Int32 → Int32 → KS → Prop
  | 0, _, _, _ => False
  | n + 1, v2, v3, s0 => (((16 : Int32) ≤ v3 → ((v2 < 0 → w_M_wakeSleepers_75 K2 Φ v2 (0 : Int32) s0) ∧ (¬ v2 < 0 → w_M_wakeSleepers_75 K2 Φ v2 (1 : Int32) s0))) ∧ (¬ (16 : Int32) ≤ v3 → vp_in v3 16 ∧ ((¬ (s0 26 0 v3.toNatClampNeg) = (5 : Int32) → ∀ y1 : Int32, y1 = v3 + (1 : Int32) → w_M_wakeSleepers_10 K2 Φ n v2 y1 s0) ∧ ((s0 26 0 v3.toNatClampNeg) = (5 : Int32) → vp_in v3 16 ∧ (((s0 20 0 4) < (s0 34 0 v3.toNatClampNeg) → ∀ y2 : Int32, y2 = v3 + (1 : Int32) → w_M_wakeSleepers_10 K2 Φ n v2 y2 s0) ∧ (¬ (s0 20 0 4) < (s0 34 0 v3.toNatClampNeg) → ((v2 < 0 → ∀ y3 : Int32, y3 = v3 + (1 : Int32) → w_M_wakeSleepers_10 K2 Φ n v3 y3 s0) ∧ (¬ v2 < 0 → vp_in v3 16 ∧ vp_in v2 16 ∧ (((s0 34 0 v2.toNatClampNeg) ≤ (s0 34 0 v3.toNatClampNeg) → ∀ y4 : Int32, y4 = v3 + (1 : Int32) → w_M_wakeSleepers_10 K2 Φ n v2 y4 s0) ∧ (¬ (s0 34 0 v2.toNatClampNeg) ≤ (s0 34 0 v3.toNatClampNeg) → ∀ y5 : Int32, y5 = v3 + (1 : Int32) → w_M_wakeSleepers_10 K2 Φ n v3 y5 s0))))))))))
def w_M_wakeSleepers_2 (Φ : KS → Prop) : Nat → Int32 → KS → Prop
  | 0, _, _ => False
  | n + 1, v1, s0 => ((v1 = 0 → Φ s0) ∧ (¬ v1 = 0 → ∃ nn : Nat, w_M_wakeSleepers_10 (w_M_wakeSleepers_2 Φ n) Φ nn (-1 : Int32) (0 : Int32) s0))
def w_M_wakeSleepers (s0 : KS) (Φ : KS → Prop) : Prop := ∃ nn : Nat, w_M_wakeSleepers_2 Φ nn (1 : Int32) s0
set_option maxHeartbeats 4000000 in
set_option maxRecDepth 100000 in
theorem c_M_wakeSleepers (l : Launch) (E : gE) (s0 : KS)  (Φ : KS → Prop) (hw : w_M_wakeSleepers s0 Φ) : gMv l y_M_wakeSleepers v_M_wakeSleepers m_M_wakeSleepers E MM [.ref (ea E 20 0)] s0 Φ := by
  intro sz
  refine Met.ofW (cc := b_M_wakeSleepers) (maxL := 4) (ret := none) (by decide) rfl ?_
  intro p e s m args below meth c s₁ B hml hv
  obtain ⟨rfl, hsz, hP, hK, hD, hX⟩ := hv
  have hx := B.exec
  have hb := B.bytes
  have hr := B.returns
  have hts := atoms_spec (ws := v_M_wakeSleepers) B.pre
  have hG : ∀ w ∈ gG, w.before _ s = true := fun w h => hts w (List.mem_cons_of_mem _ h)
  have hown : s.vm.findClass R_M = some m.cls := findClass_of_methodNamed B.named
  have hlocks := B.notSynchronized
  subst hsz
  obtain ⟨A, hAe⟩ : ∃ A, A = gA E MM s.heap.size := ⟨_, rfl⟩
  rw [← hAe] at hD hX ⊢
  have hV : gV E MM A s0 s s.heap [] := ⟨hP, hD, va_S.rf⟩
  have hl := lv_entry ([.ref (ea E 20 0)] : List Value) (n := 4) (Nat.le_of_ble_eq_true rfl)
  rw [lg_entry_eq]
  generalize (lg_sl ([.ref (ea E 20 0)] : List Value) ++ List.replicate (4 - (lg_sl ([.ref (ea E 20 0)] : List Value)).length) Slot.unset).toArray = ls at hl ⊢
  have hl : lv_has ls 4 [(0, .ref (ea E 20 0))] := hl
  have J75 : ∀ (K2 : Int32 → KS → Prop) (hK2 : ∀ (ls : Array Slot) (H : Heap) (locs : List Loc) (s0 : KS) (v1 : Int32), lv_has ls 4 [(0, .ref (ea E 20 0)), (1, .int v1)] → gV E MM A s0 s H locs → K2 v1 s0 → W p l e m_M_wakeSleepers s m ([.ref (ea E 20 0)] : List Value).toArray below meth c H locs 0 0 (MQ below (gQv E MM A Φ) ([.ref (ea E 20 0)] : List Value).toArray s 0 0 A) (F0 m 2 ls [])), ∀ (ls : Array Slot) (H : Heap) (locs : List Loc) (s0 : KS) (v2 : Int32) (t0 : Int32), lv_has ls 4 [(0, .ref (ea E 20 0)), (2, .int v2)] → gV E MM A s0 s H locs → w_M_wakeSleepers_75 K2 Φ v2 t0 s0 → W p l e m_M_wakeSleepers s m ([.ref (ea E 20 0)] : List Value).toArray below meth c H locs 0 0 (MQ below (gQv E MM A Φ) ([.ref (ea E 20 0)] : List Value).toArray s 0 0 A) (F0 m 75 ls [.int t0]) := by
    intro K2 hK2 ls H locs s0 v2 t0 hl hV hw
    unfold w_M_wakeSleepers_75 at hw
    refine lv_istore_n (lv' := [(1, .int t0), (0, .ref (ea E 20 0)), (2, .int v2)]) hx hb d_M_wakeSleepers_75 rfl hl (by decide) rfl (fun ls hl => ?_)
    refine lv_iload_n hx hb d_M_wakeSleepers_76 rfl (lv_at hl 0 rfl) ?_
    refine lv_if_eq (tgt := 85) hx hb d_M_wakeSleepers_77 rfl (fun hc => ?_) (fun hc => ?_)
    · have hw := hw.1 hc
      refine lv_goto (tgt := 2) hx hb d_M_wakeSleepers_85 rfl ?_
      exact hK2 _ _ _ s0 t0 (lv_sub hl [1, 0] rfl) hV hw
    · have hw := hw.2 hc
      refine lv_aload_n hx hb d_M_wakeSleepers_80 rfl (lv_at hl 1 rfl) ?_
      refine lv_iload_n hx hb d_M_wakeSleepers_81 rfl (lv_at hl 2 rfl) ?_
      refine kc_M_M_ready hx hb hml hown hts hV hK hX hAe (c_M_ready l E s0 v2 _ hw) hl.1 (Nat.le_of_ble_eq_true rfl) d_M_wakeSleepers_82 (Nat.le_of_ble_eq_true rfl) (Nat.le_of_ble_eq_true rfl) (fun s1 H locs hw hV => ?_)
      refine lv_goto (tgt := 2) hx hb d_M_wakeSleepers_85 rfl ?_
      exact hK2 _ _ _ s1 t0 (lv_sub hl [1, 0] rfl) hV hw
  have L10 : ∀ (K2 : Int32 → KS → Prop) (hK2 : ∀ (ls : Array Slot) (H : Heap) (locs : List Loc) (s0 : KS) (v1 : Int32), lv_has ls 4 [(0, .ref (ea E 20 0)), (1, .int v1)] → gV E MM A s0 s H locs → K2 v1 s0 → W p l e m_M_wakeSleepers s m ([.ref (ea E 20 0)] : List Value).toArray below meth c H locs 0 0 (MQ below (gQv E MM A Φ) ([.ref (ea E 20 0)] : List Value).toArray s 0 0 A) (F0 m 2 ls [])) (n : Nat), ∀ (ls : Array Slot) (H : Heap) (locs : List Loc) (s0 : KS) (v2 : Int32) (v3 : Int32), lv_has ls 4 [(0, .ref (ea E 20 0)), (2, .int v2), (3, .int v3)] → gV E MM A s0 s H locs → w_M_wakeSleepers_10 K2 Φ n v2 v3 s0 → W p l e m_M_wakeSleepers s m ([.ref (ea E 20 0)] : List Value).toArray below meth c H locs 0 0 (MQ below (gQv E MM A Φ) ([.ref (ea E 20 0)] : List Value).toArray s 0 0 A) (F0 m 10 ls []) := by
    intro K2 hK2 n
    induction n with
    | zero =>
      intro ls H locs s0 v2 v3 hl hV hw
      exact False.elim hw
    | succ n ih =>
      intro ls H locs s0 v2 v3 hl hV hw
      unfold w_M_wakeSleepers_10 at hw
      refine lv_iload_n hx hb d_M_wakeSleepers_10 rfl (lv_at hl 2 rfl) ?_
      refine lv_bipush (v := 16) hx hb d_M_wakeSleepers_11 (by decide) ?_
      refine lv_icmp_ge (tgt := 66) hx hb d_M_wakeSleepers_13 rfl (fun hc => ?_) (fun hc => ?_)
      · have hw := hw.1 hc
        refine lv_iload_n hx hb d_M_wakeSleepers_66 rfl (lv_at hl 1 rfl) ?_
        refine lv_if_lt (tgt := 74) hx hb d_M_wakeSleepers_67 rfl (fun hc => ?_) (fun hc => ?_)
        · have hw := hw.1 hc
          refine lv_iconst (v := 0) hx hb d_M_wakeSleepers_74 (by decide) ?_
          exact J75 _ hK2 _ _ _ s0 v2 (0 : Int32) (lv_sub hl [0, 1] rfl) hV hw
        · have hw := hw.2 hc
          refine lv_iconst (v := 1) hx hb d_M_wakeSleepers_70 (by decide) ?_
          refine lv_goto (tgt := 75) hx hb d_M_wakeSleepers_71 rfl ?_
          exact J75 _ hK2 _ _ _ s0 v2 (1 : Int32) (lv_sub hl [0, 1] rfl) hV hw
      · have hw := hw.2 hc
        refine lv_aload_n hx hb d_M_wakeSleepers_16 rfl (lv_at hl 0 rfl) ?_
        refine kg_M_M_state hx hb hG hown hK hV d_M_wakeSleepers_17 ?_
        refine lv_iload_n hx hb d_M_wakeSleepers_20 rfl (lv_at hl 2 rfl) ?_
        refine kl_26 hx hb hK hV hw.1 d_M_wakeSleepers_21 ?_
        have hw := hw.2
        refine lv_iconst (v := 5) hx hb d_M_wakeSleepers_22 (by decide) ?_
        refine lv_icmp_ne (tgt := 60) hx hb d_M_wakeSleepers_23 rfl (fun hc => ?_) (fun hc => ?_)
        · have hw := hw.1 hc
          obtain ⟨y1, ey1⟩ : ∃ z : Int32, z = v3 + (1 : Int32) := ⟨_, rfl⟩
          have hw := hw y1 ey1
          refine lv_iinc (k := 2) (v := y1) (lv' := [(3, .int y1), (0, .ref (ea E 20 0)), (2, .int v2)]) hx hb d_M_wakeSleepers_60 hl rfl (by rw [ey1]; rfl) (by decide) rfl (fun ls hl => ?_)
          refine lv_goto (tgt := 10) hx hb d_M_wakeSleepers_63 rfl ?_
          exact ih _ _ _ s0 v2 y1 (lv_sub hl [1, 2, 0] rfl) hV hw
        · have hw := hw.2 hc
          refine lv_aload_n hx hb d_M_wakeSleepers_26 rfl (lv_at hl 0 rfl) ?_
          refine kg_M_M_until hx hb hG hown hK hV d_M_wakeSleepers_27 ?_
          refine lv_iload_n hx hb d_M_wakeSleepers_30 rfl (lv_at hl 2 rfl) ?_
          refine kl_34 hx hb hK hV hw.1 d_M_wakeSleepers_31 ?_
          have hw := hw.2
          refine lv_aload_n hx hb d_M_wakeSleepers_32 rfl (lv_at hl 0 rfl) ?_
          refine kg_M_M_time hx hb hG hown hK hV d_M_wakeSleepers_33 ?_
          refine lv_icmp_gt (tgt := 60) hx hb d_M_wakeSleepers_36 rfl (fun hc => ?_) (fun hc => ?_)
          · have hw := hw.1 hc
            obtain ⟨y2, ey2⟩ : ∃ z : Int32, z = v3 + (1 : Int32) := ⟨_, rfl⟩
            have hw := hw y2 ey2
            refine lv_iinc (k := 2) (v := y2) (lv' := [(3, .int y2), (0, .ref (ea E 20 0)), (2, .int v2)]) hx hb d_M_wakeSleepers_60 hl rfl (by rw [ey2]; rfl) (by decide) rfl (fun ls hl => ?_)
            refine lv_goto (tgt := 10) hx hb d_M_wakeSleepers_63 rfl ?_
            exact ih _ _ _ s0 v2 y2 (lv_sub hl [1, 2, 0] rfl) hV hw
          · have hw := hw.2 hc
            refine lv_iload_n hx hb d_M_wakeSleepers_39 rfl (lv_at hl 1 rfl) ?_
            refine lv_if_lt (tgt := 58) hx hb d_M_wakeSleepers_40 rfl (fun hc => ?_) (fun hc => ?_)
            · have hw := hw.1 hc
              refine lv_iload_n hx hb d_M_wakeSleepers_58 rfl (lv_at hl 2 rfl) ?_
              refine lv_istore_n (lv' := [(2, .int v3), (0, .ref (ea E 20 0)), (3, .int v3)]) hx hb d_M_wakeSleepers_59 rfl hl (by decide) rfl (fun ls hl => ?_)
              obtain ⟨y3, ey3⟩ : ∃ z : Int32, z = v3 + (1 : Int32) := ⟨_, rfl⟩
              have hw := hw y3 ey3
              refine lv_iinc (k := 2) (v := y3) (lv' := [(3, .int y3), (2, .int v3), (0, .ref (ea E 20 0))]) hx hb d_M_wakeSleepers_60 hl rfl (by rw [ey3]; rfl) (by decide) rfl (fun ls hl => ?_)
              refine lv_goto (tgt := 10) hx hb d_M_wakeSleepers_63 rfl ?_
              exact ih _ _ _ s0 v3 y3 (lv_sub hl [2, 1, 0] rfl) hV hw
            · have hw := hw.2 hc
              refine lv_aload_n hx hb d_M_wakeSleepers_43 rfl (lv_at hl 0 rfl) ?_
              refine kg_M_M_until hx hb hG hown hK hV d_M_wakeSleepers_44 ?_
              refine lv_iload_n hx hb d_M_wakeSleepers_47 rfl (lv_at hl 2 rfl) ?_
              refine kl_34 hx hb hK hV hw.1 d_M_wakeSleepers_48 ?_
              have hw := hw.2
              refine lv_aload_n hx hb d_M_wakeSleepers_49 rfl (lv_at hl 0 rfl) ?_
              refine kg_M_M_until hx hb hG hown hK hV d_M_wakeSleepers_50 ?_
              refine lv_iload_n hx hb d_M_wakeSleepers_53 rfl (lv_at hl 1 rfl) ?_
              refine kl_34 hx hb hK hV hw.1 d_M_wakeSleepers_54 ?_
              have hw := hw.2
              refine lv_icmp_ge (tgt := 60) hx hb d_M_wakeSleepers_55 rfl (fun hc => ?_) (fun hc => ?_)
              · have hw := hw.1 hc
                obtain ⟨y4, ey4⟩ : ∃ z : Int32, z = v3 + (1 : Int32) := ⟨_, rfl⟩
                have hw := hw y4 ey4
                refine lv_iinc (k := 2) (v := y4) (lv' := [(3, .int y4), (0, .ref (ea E 20 0)), (2, .int v2)]) hx hb d_M_wakeSleepers_60 hl rfl (by rw [ey4]; rfl) (by decide) rfl (fun ls hl => ?_)
                refine lv_goto (tgt := 10) hx hb d_M_wakeSleepers_63 rfl ?_
                exact ih _ _ _ s0 v2 y4 (lv_sub hl [1, 2, 0] rfl) hV hw
              · have hw := hw.2 hc
                refine lv_iload_n hx hb d_M_wakeSleepers_58 rfl (lv_at hl 2 rfl) ?_
                refine lv_istore_n (lv' := [(2, .int v3), (0, .ref (ea E 20 0)), (3, .int v3)]) hx hb d_M_wakeSleepers_59 rfl hl (by decide) rfl (fun ls hl => ?_)
                obtain ⟨y5, ey5⟩ : ∃ z : Int32, z = v3 + (1 : Int32) := ⟨_, rfl⟩
                have hw := hw y5 ey5
                refine lv_iinc (k := 2) (v := y5) (lv' := [(3, .int y5), (2, .int v3), (0, .ref (ea E 20 0))]) hx hb d_M_wakeSleepers_60 hl rfl (by rw [ey5]; rfl) (by decide) rfl (fun ls hl => ?_)
                refine lv_goto (tgt := 10) hx hb d_M_wakeSleepers_63 rfl ?_
                exact ih _ _ _ s0 v3 y5 (lv_sub hl [2, 1, 0] rfl) hV hw
  have L2 : ∀ (n : Nat), ∀ (ls : Array Slot) (H : Heap) (locs : List Loc) (s0 : KS) (v1 : Int32), lv_has ls 4 [(0, .ref (ea E 20 0)), (1, .int v1)] → gV E MM A s0 s H locs → w_M_wakeSleepers_2 Φ n v1 s0 → W p l e m_M_wakeSleepers s m ([.ref (ea E 20 0)] : List Value).toArray below meth c H locs 0 0 (MQ below (gQv E MM A Φ) ([.ref (ea E 20 0)] : List Value).toArray s 0 0 A) (F0 m 2 ls []) := by
    intro n
    induction n with
    | zero =>
      intro ls H locs s0 v1 hl hV hw
      exact False.elim hw
    | succ n ih =>
      intro ls H locs s0 v1 hl hV hw
      unfold w_M_wakeSleepers_2 at hw
      refine lv_iload_n hx hb d_M_wakeSleepers_2 rfl (lv_at hl 1 rfl) ?_
      refine lv_if_eq (tgt := 88) hx hb d_M_wakeSleepers_3 rfl (fun hc => ?_) (fun hc => ?_)
      · have hw := hw.1 hc
        exact kr_v hx hb hr hV hK hX hAe hw d_M_wakeSleepers_88
      · have hw := hw.2 hc
        refine lv_iconst (v := -1) hx hb d_M_wakeSleepers_6 (by decide) ?_
        refine lv_istore_n (lv' := [(2, .int (-1 : Int32)), (0, .ref (ea E 20 0)), (1, .int v1)]) hx hb d_M_wakeSleepers_7 rfl hl (by decide) rfl (fun ls hl => ?_)
        refine lv_iconst (v := 0) hx hb d_M_wakeSleepers_8 (by decide) ?_
        refine lv_istore_n (lv' := [(3, .int (0 : Int32)), (2, .int (-1 : Int32)), (0, .ref (ea E 20 0)), (1, .int v1)]) hx hb d_M_wakeSleepers_9 rfl hl (by decide) rfl (fun ls hl => ?_)
        obtain ⟨nn, hw⟩ := hw
        exact L10 _ ih nn _ _ _ s0 (-1 : Int32) (0 : Int32) (lv_sub hl [2, 1, 0] rfl) hV hw
  unfold w_M_wakeSleepers at hw
  refine lv_iconst (v := 1) hx hb d_M_wakeSleepers_0 (by decide) ?_
  refine lv_istore_n (lv' := [(1, .int (1 : Int32)), (0, .ref (ea E 20 0))]) hx hb d_M_wakeSleepers_1 rfl hl (by decide) rfl (fun ls hl => ?_)
  obtain ⟨nn, hw⟩ := hw
  exact L2 nn _ _ _ s0 (1 : Int32) (lv_sub hl [1, 0] rfl) hV hw
theorem d_M_step_0 : decode b_M_step 0 = .ok (.aload_n 0, 1) := by decide +kernel
theorem d_M_step_1 : decode b_M_step 1 = .ok (.dup, 1) := by decide +kernel
theorem d_M_step_2 : decode b_M_step 2 = .ok (.getfield 187, 3) := by decide +kernel
theorem d_M_step_5 : decode b_M_step 5 = .ok (.iconst 1, 1) := by decide +kernel
theorem d_M_step_6 : decode b_M_step 6 = .ok (.iadd, 1) := by decide +kernel
theorem d_M_step_7 : decode b_M_step 7 = .ok (.putfield 187, 3) := by decide +kernel
theorem d_M_step_10 : decode b_M_step 10 = .ok (.aload_n 0, 1) := by decide +kernel
theorem d_M_step_11 : decode b_M_step 11 = .ok (.invokevirtual 202, 3) := by decide +kernel
theorem d_M_step_14 : decode b_M_step 14 = .ok (.aload_n 0, 1) := by decide +kernel
theorem d_M_step_15 : decode b_M_step 15 = .ok (.getfield 79, 3) := by decide +kernel
theorem d_M_step_18 : decode b_M_step 18 = .ok (.ifCond .ne 4, 3) := by decide +kernel
theorem d_M_step_21 : decode b_M_step 21 = .ok (.return_, 1) := by decide +kernel
theorem d_M_step_22 : decode b_M_step 22 = .ok (.aload_n 0, 1) := by decide +kernel
theorem d_M_step_23 : decode b_M_step 23 = .ok (.getfield 40, 3) := by decide +kernel
theorem d_M_step_26 : decode b_M_step 26 = .ok (.iconst 0, 1) := by decide +kernel
theorem d_M_step_27 : decode b_M_step 27 = .ok (.iaload, 1) := by decide +kernel
theorem d_M_step_28 : decode b_M_step 28 = .ok (.istore_n 1, 1) := by decide +kernel
theorem d_M_step_29 : decode b_M_step 29 = .ok (.aload_n 0, 1) := by decide +kernel
theorem d_M_step_30 : decode b_M_step 30 = .ok (.iconst 0, 1) := by decide +kernel
theorem d_M_step_31 : decode b_M_step 31 = .ok (.putfield 88, 3) := by decide +kernel
theorem d_M_step_34 : decode b_M_step 34 = .ok (.aload_n 0, 1) := by decide +kernel
theorem d_M_step_35 : decode b_M_step 35 = .ok (.iload_n 1, 1) := by decide +kernel
theorem d_M_step_36 : decode b_M_step 36 = .ok (.invokevirtual 205, 3) := by decide +kernel
theorem d_M_step_39 : decode b_M_step 39 = .ok (.aload_n 0, 1) := by decide +kernel
theorem d_M_step_40 : decode b_M_step 40 = .ok (.getfield 88, 3) := by decide +kernel
theorem d_M_step_43 : decode b_M_step 43 = .ok (.ifCond .ne 56, 3) := by decide +kernel
theorem d_M_step_46 : decode b_M_step 46 = .ok (.aload_n 0, 1) := by decide +kernel
theorem d_M_step_47 : decode b_M_step 47 = .ok (.getfield 79, 3) := by decide +kernel
theorem d_M_step_50 : decode b_M_step 50 = .ok (.ifCond .le 49, 3) := by decide +kernel
theorem d_M_step_53 : decode b_M_step 53 = .ok (.aload_n 0, 1) := by decide +kernel
theorem d_M_step_54 : decode b_M_step 54 = .ok (.getfield 40, 3) := by decide +kernel
theorem d_M_step_57 : decode b_M_step 57 = .ok (.iconst 0, 1) := by decide +kernel
theorem d_M_step_58 : decode b_M_step 58 = .ok (.iaload, 1) := by decide +kernel
theorem d_M_step_59 : decode b_M_step 59 = .ok (.iload_n 1, 1) := by decide +kernel
theorem d_M_step_60 : decode b_M_step 60 = .ok (.if_icmp .ne 39, 3) := by decide +kernel
theorem d_M_step_63 : decode b_M_step 63 = .ok (.aload_n 0, 1) := by decide +kernel
theorem d_M_step_64 : decode b_M_step 64 = .ok (.getfield 13, 3) := by decide +kernel
theorem d_M_step_67 : decode b_M_step 67 = .ok (.iload_n 1, 1) := by decide +kernel
theorem d_M_step_68 : decode b_M_step 68 = .ok (.iaload, 1) := by decide +kernel
theorem d_M_step_69 : decode b_M_step 69 = .ok (.iconst 1, 1) := by decide +kernel
theorem d_M_step_70 : decode b_M_step 70 = .ok (.if_icmp .ne 29, 3) := by decide +kernel
theorem d_M_step_73 : decode b_M_step 73 = .ok (.aload_n 0, 1) := by decide +kernel
theorem d_M_step_74 : decode b_M_step 74 = .ok (.dup, 1) := by decide +kernel
theorem d_M_step_75 : decode b_M_step 75 = .ok (.getfield 82, 3) := by decide +kernel
theorem d_M_step_78 : decode b_M_step 78 = .ok (.iconst 1, 1) := by decide +kernel
theorem d_M_step_79 : decode b_M_step 79 = .ok (.iadd, 1) := by decide +kernel
theorem d_M_step_80 : decode b_M_step 80 = .ok (.putfield 82, 3) := by decide +kernel
theorem d_M_step_83 : decode b_M_step 83 = .ok (.aload_n 0, 1) := by decide +kernel
theorem d_M_step_84 : decode b_M_step 84 = .ok (.getfield 82, 3) := by decide +kernel
theorem d_M_step_87 : decode b_M_step 87 = .ok (.aload_n 0, 1) := by decide +kernel
theorem d_M_step_88 : decode b_M_step 88 = .ok (.getfield 61, 3) := by decide +kernel
theorem d_M_step_91 : decode b_M_step 91 = .ok (.if_icmp .lt 8, 3) := by decide +kernel
theorem d_M_step_94 : decode b_M_step 94 = .ok (.aload_n 0, 1) := by decide +kernel
theorem d_M_step_95 : decode b_M_step 95 = .ok (.iload_n 1, 1) := by decide +kernel
theorem d_M_step_96 : decode b_M_step 96 = .ok (.invokevirtual 162, 3) := by decide +kernel
theorem d_M_step_99 : decode b_M_step 99 = .ok (.return_, 1) := by decide +kernel
def w_M_step (s0 : KS) (Φ : KS → Prop) : Prop := ∀ s1 : KS, s1 = w3 s0 20 0 4 ((s0 20 0 4) + (1 : Int32)) → w_M_wakeSleepers  s1 (fun s2 => ((¬ (s2 20 0 16) = 0 → vp_in (0 : Int32) 16 ∧ ∀ y3 : Int32, y3 = s2 35 0 (0 : Int32).toNatClampNeg → ∀ s4 : KS, s4 = w3 s2 20 0 18 (0 : Int32) → w_M_instruct y3 s4 (fun s5 => ((¬ (s5 20 0 18) = 0 → Φ s5) ∧ ((s5 20 0 18) = 0 → (((s5 20 0 16) ≤ 0 → Φ s5) ∧ (¬ (s5 20 0 16) ≤ 0 → vp_in (0 : Int32) 16 ∧ ((¬ (s5 35 0 (0 : Int32).toNatClampNeg) = y3 → Φ s5) ∧ ((s5 35 0 (0 : Int32).toNatClampNeg) = y3 → vp_in y3 16 ∧ ((¬ (s5 26 0 y3.toNatClampNeg) = (1 : Int32) → Φ s5) ∧ ((s5 26 0 y3.toNatClampNeg) = (1 : Int32) → ∀ s6 : KS, s6 = w3 s5 20 0 17 ((s5 20 0 17) + (1 : Int32)) → (((s6 20 0 17) < (s6 20 0 1) → Φ s6) ∧ (¬ (s6 20 0 17) < (s6 20 0 1) → w_M_toEnd y3 s6 (fun s7 => Φ s7))))))))))))) ∧ ((s2 20 0 16) = 0 → Φ s2)))
set_option maxHeartbeats 4000000 in
set_option maxRecDepth 100000 in
theorem c_M_step (l : Launch) (E : gE) (s0 : KS)  (Φ : KS → Prop) (hw : w_M_step s0 Φ) : gMv l y_M_step v_M_step m_M_step E MM [.ref (ea E 20 0)] s0 Φ := by
  intro sz
  refine Met.ofW (cc := b_M_step) (maxL := 2) (ret := none) (by decide) rfl ?_
  intro p e s m args below meth c s₁ B hml hv
  obtain ⟨rfl, hsz, hP, hK, hD, hX⟩ := hv
  have hx := B.exec
  have hb := B.bytes
  have hr := B.returns
  have hts := atoms_spec (ws := v_M_step) B.pre
  have hG : ∀ w ∈ gG, w.before _ s = true := fun w h => hts w (List.mem_cons_of_mem _ h)
  have hown : s.vm.findClass R_M = some m.cls := findClass_of_methodNamed B.named
  have hlocks := B.notSynchronized
  subst hsz
  obtain ⟨A, hAe⟩ : ∃ A, A = gA E MM s.heap.size := ⟨_, rfl⟩
  rw [← hAe] at hD hX ⊢
  have hV : gV E MM A s0 s s.heap [] := ⟨hP, hD, va_S.rf⟩
  have hl := lv_entry ([.ref (ea E 20 0)] : List Value) (n := 2) (Nat.le_of_ble_eq_true rfl)
  rw [lg_entry_eq]
  generalize (lg_sl ([.ref (ea E 20 0)] : List Value) ++ List.replicate (2 - (lg_sl ([.ref (ea E 20 0)] : List Value)).length) Slot.unset).toArray = ls at hl ⊢
  have hl : lv_has ls 2 [(0, .ref (ea E 20 0))] := hl
  unfold w_M_step at hw
  refine lv_aload_n hx hb d_M_step_0 rfl (lv_at hl 0 rfl) ?_
  refine lv_dup hx hb d_M_step_1 rfl ?_
  refine kg_M_M_time hx hb hG hown hK hV d_M_step_2 ?_
  refine lv_iconst (v := 1) hx hb d_M_step_5 (by decide) ?_
  refine lv_iadd hx hb d_M_step_6 ?_
  refine kp_M_M_time hx hb hG hown hK hV d_M_step_7 (fun s1 H locs es1 hV => ?_)
  have hw := hw s1 es1
  refine lv_aload_n hx hb d_M_step_10 rfl (lv_at hl 0 rfl) ?_
  refine kc_M_M_wakeSleepers hx hb hml hown hts hV hK hX hAe (c_M_wakeSleepers l E s1 _ hw) hl.1 (Nat.le_of_ble_eq_true rfl) d_M_step_11 (Nat.le_of_ble_eq_true rfl) (Nat.le_of_ble_eq_true rfl) (fun s2 H locs hw hV => ?_)
  refine lv_aload_n hx hb d_M_step_14 rfl (lv_at hl 0 rfl) ?_
  refine kg_M_M_queued hx hb hG hown hK hV d_M_step_15 ?_
  refine lv_if_ne (tgt := 22) hx hb d_M_step_18 rfl (fun hc => ?_) (fun hc => ?_)
  · have hw := hw.1 hc
    refine lv_aload_n hx hb d_M_step_22 rfl (lv_at hl 0 rfl) ?_
    refine kg_M_M_queue hx hb hG hown hK hV d_M_step_23 ?_
    refine lv_iconst (v := 0) hx hb d_M_step_26 (by decide) ?_
    refine kl_35 hx hb hK hV hw.1 d_M_step_27 ?_
    have hw := hw.2
    refine lv_topi (fun y3 ey3 => ?_)
    have hw := hw y3 ey3
    refine lv_istore_n (lv' := [(1, .int y3), (0, .ref (ea E 20 0))]) hx hb d_M_step_28 rfl hl (by decide) rfl (fun ls hl => ?_)
    refine lv_aload_n hx hb d_M_step_29 rfl (lv_at hl 1 rfl) ?_
    refine lv_iconst (v := 0) hx hb d_M_step_30 (by decide) ?_
    refine kp_M_M_moved hx hb hG hown hK hV (by decide) (by decide) d_M_step_31 (fun s4 H locs es4 hV => ?_)
    have hw := hw s4 es4
    refine lv_aload_n hx hb d_M_step_34 rfl (lv_at hl 1 rfl) ?_
    refine lv_iload_n hx hb d_M_step_35 rfl (lv_at hl 0 rfl) ?_
    refine kc_M_M_instruct hx hb hml hown hts hV hK hX hAe (c_M_instruct l E s4 y3 _ hw) hl.1 (Nat.le_of_ble_eq_true rfl) d_M_step_36 (Nat.le_of_ble_eq_true rfl) (Nat.le_of_ble_eq_true rfl) (fun s5 H locs hw hV => ?_)
    refine lv_aload_n hx hb d_M_step_39 rfl (lv_at hl 1 rfl) ?_
    refine kg_M_M_moved hx hb hG hown hK hV d_M_step_40 ?_
    refine lv_if_ne (tgt := 99) hx hb d_M_step_43 rfl (fun hc => ?_) (fun hc => ?_)
    · have hw := hw.1 hc
      exact kr_v hx hb hr hV hK hX hAe hw d_M_step_99
    · have hw := hw.2 hc
      refine lv_aload_n hx hb d_M_step_46 rfl (lv_at hl 1 rfl) ?_
      refine kg_M_M_queued hx hb hG hown hK hV d_M_step_47 ?_
      refine lv_if_le (tgt := 99) hx hb d_M_step_50 rfl (fun hc => ?_) (fun hc => ?_)
      · have hw := hw.1 hc
        exact kr_v hx hb hr hV hK hX hAe hw d_M_step_99
      · have hw := hw.2 hc
        refine lv_aload_n hx hb d_M_step_53 rfl (lv_at hl 1 rfl) ?_
        refine kg_M_M_queue hx hb hG hown hK hV d_M_step_54 ?_
        refine lv_iconst (v := 0) hx hb d_M_step_57 (by decide) ?_
        refine kl_35 hx hb hK hV hw.1 d_M_step_58 ?_
        have hw := hw.2
        refine lv_iload_n hx hb d_M_step_59 rfl (lv_at hl 0 rfl) ?_
        refine lv_icmp_ne (tgt := 99) hx hb d_M_step_60 rfl (fun hc => ?_) (fun hc => ?_)
        · have hw := hw.1 hc
          exact kr_v hx hb hr hV hK hX hAe hw d_M_step_99
        · have hw := hw.2 hc
          refine lv_aload_n hx hb d_M_step_63 rfl (lv_at hl 1 rfl) ?_
          refine kg_M_M_state hx hb hG hown hK hV d_M_step_64 ?_
          refine lv_iload_n hx hb d_M_step_67 rfl (lv_at hl 0 rfl) ?_
          refine kl_26 hx hb hK hV hw.1 d_M_step_68 ?_
          have hw := hw.2
          refine lv_iconst (v := 1) hx hb d_M_step_69 (by decide) ?_
          refine lv_icmp_ne (tgt := 99) hx hb d_M_step_70 rfl (fun hc => ?_) (fun hc => ?_)
          · have hw := hw.1 hc
            exact kr_v hx hb hr hV hK hX hAe hw d_M_step_99
          · have hw := hw.2 hc
            refine lv_aload_n hx hb d_M_step_73 rfl (lv_at hl 1 rfl) ?_
            refine lv_dup hx hb d_M_step_74 rfl ?_
            refine kg_M_M_done hx hb hG hown hK hV d_M_step_75 ?_
            refine lv_iconst (v := 1) hx hb d_M_step_78 (by decide) ?_
            refine lv_iadd hx hb d_M_step_79 ?_
            refine kp_M_M_done hx hb hG hown hK hV d_M_step_80 (fun s6 H locs es6 hV => ?_)
            have hw := hw s6 es6
            refine lv_aload_n hx hb d_M_step_83 rfl (lv_at hl 1 rfl) ?_
            refine kg_M_M_done hx hb hG hown hK hV d_M_step_84 ?_
            refine lv_aload_n hx hb d_M_step_87 rfl (lv_at hl 1 rfl) ?_
            refine kg_M_M_quantum hx hb hG hown hK hV d_M_step_88 ?_
            refine lv_icmp_lt (tgt := 99) hx hb d_M_step_91 rfl (fun hc => ?_) (fun hc => ?_)
            · have hw := hw.1 hc
              exact kr_v hx hb hr hV hK hX hAe hw d_M_step_99
            · have hw := hw.2 hc
              refine lv_aload_n hx hb d_M_step_94 rfl (lv_at hl 1 rfl) ?_
              refine lv_iload_n hx hb d_M_step_95 rfl (lv_at hl 0 rfl) ?_
              refine kc_M_M_toEnd hx hb hml hown hts hV hK hX hAe (c_M_toEnd l E s6 y3 _ hw) hl.1 (Nat.le_of_ble_eq_true rfl) d_M_step_96 (Nat.le_of_ble_eq_true rfl) (Nat.le_of_ble_eq_true rfl) (fun s7 H locs hw hV => ?_)
              exact kr_v hx hb hr hV hK hX hAe hw d_M_step_99
  · have hw := hw.2 hc
    exact kr_v hx hb hr hV hK hX hAe hw d_M_step_21
theorem d_M_goesOn_0 : decode b_M_goesOn 0 = .ok (.iconst 0, 1) := by decide +kernel
theorem d_M_goesOn_1 : decode b_M_goesOn 1 = .ok (.istore_n 1, 1) := by decide +kernel
theorem d_M_goesOn_2 : decode b_M_goesOn 2 = .ok (.iconst 0, 1) := by decide +kernel
theorem d_M_goesOn_3 : decode b_M_goesOn 3 = .ok (.istore_n 2, 1) := by decide +kernel
theorem d_M_goesOn_4 : decode b_M_goesOn 4 = .ok (.iload_n 2, 1) := by decide +kernel
theorem d_M_goesOn_5 : decode b_M_goesOn 5 = .ok (.bipush 16, 2) := by decide +kernel
theorem d_M_goesOn_7 : decode b_M_goesOn 7 = .ok (.if_icmp .ge 29, 3) := by decide +kernel
theorem d_M_goesOn_10 : decode b_M_goesOn 10 = .ok (.iload_n 1, 1) := by decide +kernel
theorem d_M_goesOn_11 : decode b_M_goesOn 11 = .ok (.ifCond .ne 13, 3) := by decide +kernel
theorem d_M_goesOn_14 : decode b_M_goesOn 14 = .ok (.aload_n 0, 1) := by decide +kernel
theorem d_M_goesOn_15 : decode b_M_goesOn 15 = .ok (.getfield 13, 3) := by decide +kernel
theorem d_M_goesOn_18 : decode b_M_goesOn 18 = .ok (.iload_n 2, 1) := by decide +kernel
theorem d_M_goesOn_19 : decode b_M_goesOn 19 = .ok (.iaload, 1) := by decide +kernel
theorem d_M_goesOn_20 : decode b_M_goesOn 20 = .ok (.iconst 5, 1) := by decide +kernel
theorem d_M_goesOn_21 : decode b_M_goesOn 21 = .ok (.if_icmp .ne 7, 3) := by decide +kernel
theorem d_M_goesOn_24 : decode b_M_goesOn 24 = .ok (.iconst 1, 1) := by decide +kernel
theorem d_M_goesOn_25 : decode b_M_goesOn 25 = .ok (.goto 4, 3) := by decide +kernel
theorem d_M_goesOn_28 : decode b_M_goesOn 28 = .ok (.iconst 0, 1) := by decide +kernel
theorem d_M_goesOn_29 : decode b_M_goesOn 29 = .ok (.istore_n 1, 1) := by decide +kernel
theorem d_M_goesOn_30 : decode b_M_goesOn 30 = .ok (.iinc 2 1, 3) := by decide +kernel
theorem d_M_goesOn_33 : decode b_M_goesOn 33 = .ok (.goto (-29), 3) := by decide +kernel
theorem d_M_goesOn_36 : decode b_M_goesOn 36 = .ok (.iload_n 1, 1) := by decide +kernel
theorem d_M_goesOn_37 : decode b_M_goesOn 37 = .ok (.ifCond .ne 10, 3) := by decide +kernel
theorem d_M_goesOn_40 : decode b_M_goesOn 40 = .ok (.aload_n 0, 1) := by decide +kernel
theorem d_M_goesOn_41 : decode b_M_goesOn 41 = .ok (.getfield 79, 3) := by decide +kernel
theorem d_M_goesOn_44 : decode b_M_goesOn 44 = .ok (.ifCond .le 7, 3) := by decide +kernel
theorem d_M_goesOn_47 : decode b_M_goesOn 47 = .ok (.iconst 1, 1) := by decide +kernel
theorem d_M_goesOn_48 : decode b_M_goesOn 48 = .ok (.goto 4, 3) := by decide +kernel
theorem d_M_goesOn_51 : decode b_M_goesOn 51 = .ok (.iconst 0, 1) := by decide +kernel
theorem d_M_goesOn_52 : decode b_M_goesOn 52 = .ok (.ireturn, 1) := by decide +kernel
def w_M_goesOn_4 (Φ : Int32 → KS → Prop) : Nat → Int32 → Int32 → KS → Prop
  | 0, _, _, _ => False
  | n + 1, v1, v2, s0 => (((16 : Int32) ≤ v2 → ((¬ v1 = 0 → Φ (1 : Int32) s0) ∧ (v1 = 0 → (((s0 20 0 16) ≤ 0 → Φ (0 : Int32) s0) ∧ (¬ (s0 20 0 16) ≤ 0 → Φ (1 : Int32) s0))))) ∧ (¬ (16 : Int32) ≤ v2 → ((¬ v1 = 0 → ∀ y1 : Int32, y1 = v2 + (1 : Int32) → w_M_goesOn_4 Φ n (1 : Int32) y1 s0) ∧ (v1 = 0 → vp_in v2 16 ∧ ((¬ (s0 26 0 v2.toNatClampNeg) = (5 : Int32) → ∀ y2 : Int32, y2 = v2 + (1 : Int32) → w_M_goesOn_4 Φ n (0 : Int32) y2 s0) ∧ ((s0 26 0 v2.toNatClampNeg) = (5 : Int32) → ∀ y3 : Int32, y3 = v2 + (1 : Int32) → w_M_goesOn_4 Φ n (1 : Int32) y3 s0))))))
def w_M_goesOn (s0 : KS) (Φ : Int32 → KS → Prop) : Prop := ∃ nn : Nat, w_M_goesOn_4 Φ nn (0 : Int32) (0 : Int32) s0
set_option maxHeartbeats 4000000 in
set_option maxRecDepth 100000 in
theorem c_M_goesOn (l : Launch) (E : gE) (s0 : KS)  (Φ : Int32 → KS → Prop) (hw : w_M_goesOn s0 Φ) : gMi l y_M_goesOn v_M_goesOn m_M_goesOn E MM [.ref (ea E 20 0)] s0 Φ := by
  intro sz
  refine Met.ofW (cc := b_M_goesOn) (maxL := 3) (ret := (some .boolean)) (by decide) rfl ?_
  intro p e s m args below meth c s₁ B hml hv
  obtain ⟨rfl, hsz, hP, hK, hD, hX⟩ := hv
  have hx := B.exec
  have hb := B.bytes
  have hr := B.returns
  have hts := atoms_spec (ws := v_M_goesOn) B.pre
  have hG : ∀ w ∈ gG, w.before _ s = true := fun w h => hts w (List.mem_cons_of_mem _ h)
  have hown : s.vm.findClass R_M = some m.cls := findClass_of_methodNamed B.named
  have hlocks := B.notSynchronized
  subst hsz
  obtain ⟨A, hAe⟩ : ∃ A, A = gA E MM s.heap.size := ⟨_, rfl⟩
  rw [← hAe] at hD hX ⊢
  have hV : gV E MM A s0 s s.heap [] := ⟨hP, hD, va_S.rf⟩
  have hl := lv_entry ([.ref (ea E 20 0)] : List Value) (n := 3) (Nat.le_of_ble_eq_true rfl)
  rw [lg_entry_eq]
  generalize (lg_sl ([.ref (ea E 20 0)] : List Value) ++ List.replicate (3 - (lg_sl ([.ref (ea E 20 0)] : List Value)).length) Slot.unset).toArray = ls at hl ⊢
  have hl : lv_has ls 3 [(0, .ref (ea E 20 0))] := hl
  have L4 : ∀ (n : Nat), ∀ (ls : Array Slot) (H : Heap) (locs : List Loc) (s0 : KS) (v1 : Int32) (v2 : Int32), lv_has ls 3 [(0, .ref (ea E 20 0)), (1, .int v1), (2, .int v2)] → gV E MM A s0 s H locs → w_M_goesOn_4 Φ n v1 v2 s0 → W p l e m_M_goesOn s m ([.ref (ea E 20 0)] : List Value).toArray below meth c H locs 0 0 (MQ below (gQi E MM A Φ) ([.ref (ea E 20 0)] : List Value).toArray s 0 0 A) (F0 m 4 ls []) := by
    intro n
    induction n with
    | zero =>
      intro ls H locs s0 v1 v2 hl hV hw
      exact False.elim hw
    | succ n ih =>
      intro ls H locs s0 v1 v2 hl hV hw
      unfold w_M_goesOn_4 at hw
      refine lv_iload_n hx hb d_M_goesOn_4 rfl (lv_at hl 2 rfl) ?_
      refine lv_bipush (v := 16) hx hb d_M_goesOn_5 (by decide) ?_
      refine lv_icmp_ge (tgt := 36) hx hb d_M_goesOn_7 rfl (fun hc => ?_) (fun hc => ?_)
      · have hw := hw.1 hc
        refine lv_iload_n hx hb d_M_goesOn_36 rfl (lv_at hl 1 rfl) ?_
        refine lv_if_ne (tgt := 47) hx hb d_M_goesOn_37 rfl (fun hc => ?_) (fun hc => ?_)
        · have hw := hw.1 hc
          refine lv_iconst (v := 1) hx hb d_M_goesOn_47 (by decide) ?_
          refine lv_goto (tgt := 52) hx hb d_M_goesOn_48 rfl ?_
          exact kr_z hx hb hr hV hK hX hAe (by decide) hw d_M_goesOn_52
        · have hw := hw.2 hc
          refine lv_aload_n hx hb d_M_goesOn_40 rfl (lv_at hl 0 rfl) ?_
          refine kg_M_M_queued hx hb hG hown hK hV d_M_goesOn_41 ?_
          refine lv_if_le (tgt := 51) hx hb d_M_goesOn_44 rfl (fun hc => ?_) (fun hc => ?_)
          · have hw := hw.1 hc
            refine lv_iconst (v := 0) hx hb d_M_goesOn_51 (by decide) ?_
            exact kr_z hx hb hr hV hK hX hAe (by decide) hw d_M_goesOn_52
          · have hw := hw.2 hc
            refine lv_iconst (v := 1) hx hb d_M_goesOn_47 (by decide) ?_
            refine lv_goto (tgt := 52) hx hb d_M_goesOn_48 rfl ?_
            exact kr_z hx hb hr hV hK hX hAe (by decide) hw d_M_goesOn_52
      · have hw := hw.2 hc
        refine lv_iload_n hx hb d_M_goesOn_10 rfl (lv_at hl 1 rfl) ?_
        refine lv_if_ne (tgt := 24) hx hb d_M_goesOn_11 rfl (fun hc => ?_) (fun hc => ?_)
        · have hw := hw.1 hc
          refine lv_iconst (v := 1) hx hb d_M_goesOn_24 (by decide) ?_
          refine lv_goto (tgt := 29) hx hb d_M_goesOn_25 rfl ?_
          refine lv_istore_n (lv' := [(1, .int (1 : Int32)), (0, .ref (ea E 20 0)), (2, .int v2)]) hx hb d_M_goesOn_29 rfl hl (by decide) rfl (fun ls hl => ?_)
          obtain ⟨y1, ey1⟩ : ∃ z : Int32, z = v2 + (1 : Int32) := ⟨_, rfl⟩
          have hw := hw y1 ey1
          refine lv_iinc (k := 2) (v := y1) (lv' := [(2, .int y1), (1, .int (1 : Int32)), (0, .ref (ea E 20 0))]) hx hb d_M_goesOn_30 hl rfl (by rw [ey1]; rfl) (by decide) rfl (fun ls hl => ?_)
          refine lv_goto (tgt := 4) hx hb d_M_goesOn_33 rfl ?_
          exact ih _ _ _ s0 (1 : Int32) y1 (lv_sub hl [2, 1, 0] rfl) hV hw
        · have hw := hw.2 hc
          refine lv_aload_n hx hb d_M_goesOn_14 rfl (lv_at hl 0 rfl) ?_
          refine kg_M_M_state hx hb hG hown hK hV d_M_goesOn_15 ?_
          refine lv_iload_n hx hb d_M_goesOn_18 rfl (lv_at hl 2 rfl) ?_
          refine kl_26 hx hb hK hV hw.1 d_M_goesOn_19 ?_
          have hw := hw.2
          refine lv_iconst (v := 5) hx hb d_M_goesOn_20 (by decide) ?_
          refine lv_icmp_ne (tgt := 28) hx hb d_M_goesOn_21 rfl (fun hc => ?_) (fun hc => ?_)
          · have hw := hw.1 hc
            refine lv_iconst (v := 0) hx hb d_M_goesOn_28 (by decide) ?_
            refine lv_istore_n (lv' := [(1, .int (0 : Int32)), (0, .ref (ea E 20 0)), (2, .int v2)]) hx hb d_M_goesOn_29 rfl hl (by decide) rfl (fun ls hl => ?_)
            obtain ⟨y2, ey2⟩ : ∃ z : Int32, z = v2 + (1 : Int32) := ⟨_, rfl⟩
            have hw := hw y2 ey2
            refine lv_iinc (k := 2) (v := y2) (lv' := [(2, .int y2), (1, .int (0 : Int32)), (0, .ref (ea E 20 0))]) hx hb d_M_goesOn_30 hl rfl (by rw [ey2]; rfl) (by decide) rfl (fun ls hl => ?_)
            refine lv_goto (tgt := 4) hx hb d_M_goesOn_33 rfl ?_
            exact ih _ _ _ s0 (0 : Int32) y2 (lv_sub hl [2, 1, 0] rfl) hV hw
          · have hw := hw.2 hc
            refine lv_iconst (v := 1) hx hb d_M_goesOn_24 (by decide) ?_
            refine lv_goto (tgt := 29) hx hb d_M_goesOn_25 rfl ?_
            refine lv_istore_n (lv' := [(1, .int (1 : Int32)), (0, .ref (ea E 20 0)), (2, .int v2)]) hx hb d_M_goesOn_29 rfl hl (by decide) rfl (fun ls hl => ?_)
            obtain ⟨y3, ey3⟩ : ∃ z : Int32, z = v2 + (1 : Int32) := ⟨_, rfl⟩
            have hw := hw y3 ey3
            refine lv_iinc (k := 2) (v := y3) (lv' := [(2, .int y3), (1, .int (1 : Int32)), (0, .ref (ea E 20 0))]) hx hb d_M_goesOn_30 hl rfl (by rw [ey3]; rfl) (by decide) rfl (fun ls hl => ?_)
            refine lv_goto (tgt := 4) hx hb d_M_goesOn_33 rfl ?_
            exact ih _ _ _ s0 (1 : Int32) y3 (lv_sub hl [2, 1, 0] rfl) hV hw
  unfold w_M_goesOn at hw
  refine lv_iconst (v := 0) hx hb d_M_goesOn_0 (by decide) ?_
  refine lv_istore_n (lv' := [(1, .int (0 : Int32)), (0, .ref (ea E 20 0))]) hx hb d_M_goesOn_1 rfl hl (by decide) rfl (fun ls hl => ?_)
  refine lv_iconst (v := 0) hx hb d_M_goesOn_2 (by decide) ?_
  refine lv_istore_n (lv' := [(2, .int (0 : Int32)), (1, .int (0 : Int32)), (0, .ref (ea E 20 0))]) hx hb d_M_goesOn_3 rfl hl (by decide) rfl (fun ls hl => ?_)
  obtain ⟨nn, hw⟩ := hw
  exact L4 nn _ _ _ s0 (0 : Int32) (0 : Int32) (lv_sub hl [2, 1, 0] rfl) hV hw
theorem d_M_run_0 : decode b_M_run 0 = .ok (.aload_n 0, 1) := by decide +kernel
theorem d_M_run_1 : decode b_M_run 1 = .ok (.iload_n 1, 1) := by decide +kernel
theorem d_M_run_2 : decode b_M_run 2 = .ok (.ifCond .lt 9, 3) := by decide +kernel
theorem d_M_run_5 : decode b_M_run 5 = .ok (.iload_n 1, 1) := by decide +kernel
theorem d_M_run_6 : decode b_M_run 6 = .ok (.bipush 40, 2) := by decide +kernel
theorem d_M_run_8 : decode b_M_run 8 = .ok (.if_icmp .le 7, 3) := by decide +kernel
theorem d_M_run_11 : decode b_M_run 11 = .ok (.iconst 1, 1) := by decide +kernel
theorem d_M_run_12 : decode b_M_run 12 = .ok (.goto 4, 3) := by decide +kernel
theorem d_M_run_15 : decode b_M_run 15 = .ok (.iconst 0, 1) := by decide +kernel
theorem d_M_run_16 : decode b_M_run 16 = .ok (.putfield 68, 3) := by decide +kernel
theorem d_M_run_19 : decode b_M_run 19 = .ok (.iconst 0, 1) := by decide +kernel
theorem d_M_run_20 : decode b_M_run 20 = .ok (.istore_n 2, 1) := by decide +kernel
theorem d_M_run_21 : decode b_M_run 21 = .ok (.aload_n 0, 1) := by decide +kernel
theorem d_M_run_22 : decode b_M_run 22 = .ok (.getfield 68, 3) := by decide +kernel
theorem d_M_run_25 : decode b_M_run 25 = .ok (.ifCond .ne 25, 3) := by decide +kernel
theorem d_M_run_28 : decode b_M_run 28 = .ok (.iload_n 2, 1) := by decide +kernel
theorem d_M_run_29 : decode b_M_run 29 = .ok (.iload_n 1, 1) := by decide +kernel
theorem d_M_run_30 : decode b_M_run 30 = .ok (.if_icmp .ge 20, 3) := by decide +kernel
theorem d_M_run_33 : decode b_M_run 33 = .ok (.aload_n 0, 1) := by decide +kernel
theorem d_M_run_34 : decode b_M_run 34 = .ok (.invokevirtual 208, 3) := by decide +kernel
theorem d_M_run_37 : decode b_M_run 37 = .ok (.ifCond .eq 13, 3) := by decide +kernel
theorem d_M_run_40 : decode b_M_run 40 = .ok (.aload_n 0, 1) := by decide +kernel
theorem d_M_run_41 : decode b_M_run 41 = .ok (.invokevirtual 212, 3) := by decide +kernel
theorem d_M_run_44 : decode b_M_run 44 = .ok (.iinc 2 1, 3) := by decide +kernel
theorem d_M_run_47 : decode b_M_run 47 = .ok (.goto (-26), 3) := by decide +kernel
theorem d_M_run_50 : decode b_M_run 50 = .ok (.iload_n 2, 1) := by decide +kernel
theorem d_M_run_51 : decode b_M_run 51 = .ok (.ireturn, 1) := by decide +kernel
def w_M_run_21 (x1 : Int32) (Φ : Int32 → KS → Prop) : Nat → Int32 → KS → Prop
  | 0, _, _ => False
  | n + 1, v2, s0 => ((¬ (s0 20 0 0) = 0 → Φ v2 s0) ∧ ((s0 20 0 0) = 0 → ((x1 ≤ v2 → Φ v2 s0) ∧ (¬ x1 ≤ v2 → w_M_goesOn  s0 (fun r2 s1 => ((r2 = 0 → Φ v2 s1) ∧ (¬ r2 = 0 → w_M_step  s1 (fun s3 => ∀ y4 : Int32, y4 = v2 + (1 : Int32) → w_M_run_21 x1 Φ n y4 s3))))))))
def w_M_run_16 (x1 : Int32) (Φ : Int32 → KS → Prop) (t0 : Int32) (s0 : KS) : Prop := ∀ s1 : KS, s1 = w3 s0 20 0 0 t0 → ∃ nn : Nat, w_M_run_21 x1 Φ nn (0 : Int32) s1
def w_M_run_11 (x1 : Int32) (Φ : Int32 → KS → Prop) (s0 : KS) : Prop := w_M_run_16 x1 Φ (1 : Int32) s0
def w_M_run (x1 : Int32) (s0 : KS) (Φ : Int32 → KS → Prop) : Prop := ((x1 < 0 → w_M_run_11 x1 Φ s0) ∧ (¬ x1 < 0 → ((x1 ≤ (40 : Int32) → w_M_run_16 x1 Φ (0 : Int32) s0) ∧ (¬ x1 ≤ (40 : Int32) → w_M_run_11 x1 Φ s0))))
set_option maxHeartbeats 4000000 in
set_option maxRecDepth 100000 in
theorem c_M_run (l : Launch) (E : gE) (s0 : KS) (x1 : Int32) (Φ : Int32 → KS → Prop) (hw : w_M_run x1 s0 Φ) : gMi l y_M_run v_M_run m_M_run E MM [.ref (ea E 20 0), .int x1] s0 Φ := by
  intro sz
  refine Met.ofW (cc := b_M_run) (maxL := 3) (ret := (some .int)) (by decide) rfl ?_
  intro p e s m args below meth c s₁ B hml hv
  obtain ⟨rfl, hsz, hP, hK, hD, hX⟩ := hv
  have hx := B.exec
  have hb := B.bytes
  have hr := B.returns
  have hts := atoms_spec (ws := v_M_run) B.pre
  have hG : ∀ w ∈ gG, w.before _ s = true := fun w h => hts w (List.mem_cons_of_mem _ h)
  have hown : s.vm.findClass R_M = some m.cls := findClass_of_methodNamed B.named
  have hlocks := B.notSynchronized
  subst hsz
  obtain ⟨A, hAe⟩ : ∃ A, A = gA E MM s.heap.size := ⟨_, rfl⟩
  rw [← hAe] at hD hX ⊢
  have hV : gV E MM A s0 s s.heap [] := ⟨hP, hD, va_S.rf⟩
  have hl := lv_entry ([.ref (ea E 20 0), .int x1] : List Value) (n := 3) (Nat.le_of_ble_eq_true rfl)
  rw [lg_entry_eq]
  generalize (lg_sl ([.ref (ea E 20 0), .int x1] : List Value) ++ List.replicate (3 - (lg_sl ([.ref (ea E 20 0), .int x1] : List Value)).length) Slot.unset).toArray = ls at hl ⊢
  have hl : lv_has ls 3 [(0, .ref (ea E 20 0)), (1, .int x1)] := hl
  have L21 : ∀ (n : Nat), ∀ (ls : Array Slot) (H : Heap) (locs : List Loc) (s0 : KS) (v2 : Int32), lv_has ls 3 [(0, .ref (ea E 20 0)), (1, .int x1), (2, .int v2)] → gV E MM A s0 s H locs → w_M_run_21 x1 Φ n v2 s0 → W p l e m_M_run s m ([.ref (ea E 20 0), .int x1] : List Value).toArray below meth c H locs 0 0 (MQ below (gQi E MM A Φ) ([.ref (ea E 20 0), .int x1] : List Value).toArray s 0 0 A) (F0 m 21 ls []) := by
    intro n
    induction n with
    | zero =>
      intro ls H locs s0 v2 hl hV hw
      exact False.elim hw
    | succ n ih =>
      intro ls H locs s0 v2 hl hV hw
      unfold w_M_run_21 at hw
      refine lv_aload_n hx hb d_M_run_21 rfl (lv_at hl 0 rfl) ?_
      refine kg_M_M_code hx hb hG hown hK hV d_M_run_22 ?_
      refine lv_if_ne (tgt := 50) hx hb d_M_run_25 rfl (fun hc => ?_) (fun hc => ?_)
      · have hw := hw.1 hc
        refine lv_iload_n hx hb d_M_run_50 rfl (lv_at hl 2 rfl) ?_
        exact kr_i hx hb hr hV hK hX hAe hw d_M_run_51
      · have hw := hw.2 hc
        refine lv_iload_n hx hb d_M_run_28 rfl (lv_at hl 2 rfl) ?_
        refine lv_iload_n hx hb d_M_run_29 rfl (lv_at hl 1 rfl) ?_
        refine lv_icmp_ge (tgt := 50) hx hb d_M_run_30 rfl (fun hc => ?_) (fun hc => ?_)
        · have hw := hw.1 hc
          refine lv_iload_n hx hb d_M_run_50 rfl (lv_at hl 2 rfl) ?_
          exact kr_i hx hb hr hV hK hX hAe hw d_M_run_51
        · have hw := hw.2 hc
          refine lv_aload_n hx hb d_M_run_33 rfl (lv_at hl 0 rfl) ?_
          refine kc_M_M_goesOn hx hb hml hown hts hV hK hX hAe (c_M_goesOn l E s0 _ hw) hl.1 (Nat.le_of_ble_eq_true rfl) d_M_run_34 (Nat.le_of_ble_eq_true rfl) (Nat.le_of_ble_eq_true rfl) (fun r2 s1 H locs hw hV => ?_)
          refine lv_if_eq (tgt := 50) hx hb d_M_run_37 rfl (fun hc => ?_) (fun hc => ?_)
          · have hw := hw.1 hc
            refine lv_iload_n hx hb d_M_run_50 rfl (lv_at hl 2 rfl) ?_
            exact kr_i hx hb hr hV hK hX hAe hw d_M_run_51
          · have hw := hw.2 hc
            refine lv_aload_n hx hb d_M_run_40 rfl (lv_at hl 0 rfl) ?_
            refine kc_M_M_step hx hb hml hown hts hV hK hX hAe (c_M_step l E s1 _ hw) hl.1 (Nat.le_of_ble_eq_true rfl) d_M_run_41 (Nat.le_of_ble_eq_true rfl) (Nat.le_of_ble_eq_true rfl) (fun s3 H locs hw hV => ?_)
            obtain ⟨y4, ey4⟩ : ∃ z : Int32, z = v2 + (1 : Int32) := ⟨_, rfl⟩
            have hw := hw y4 ey4
            refine lv_iinc (k := 2) (v := y4) (lv' := [(2, .int y4), (0, .ref (ea E 20 0)), (1, .int x1)]) hx hb d_M_run_44 hl rfl (by rw [ey4]; rfl) (by decide) rfl (fun ls hl => ?_)
            refine lv_goto (tgt := 21) hx hb d_M_run_47 rfl ?_
            exact ih _ _ _ s3 y4 (lv_sub hl [1, 2, 0] rfl) hV hw
  have J16 : ∀ (ls : Array Slot) (H : Heap) (locs : List Loc) (s0 : KS) (t0 : Int32), lv_has ls 3 [(0, .ref (ea E 20 0)), (1, .int x1)] → gV E MM A s0 s H locs → w_M_run_16 x1 Φ t0 s0 → W p l e m_M_run s m ([.ref (ea E 20 0), .int x1] : List Value).toArray below meth c H locs 0 0 (MQ below (gQi E MM A Φ) ([.ref (ea E 20 0), .int x1] : List Value).toArray s 0 0 A) (F0 m 16 ls [.int t0, .ref (ea E 20 0)]) := by
    intro  ls H locs s0 t0 hl hV hw
    unfold w_M_run_16 at hw
    refine kp_M_M_code hx hb hG hown hK hV d_M_run_16 (fun s1 H locs es1 hV => ?_)
    have hw := hw s1 es1
    refine lv_iconst (v := 0) hx hb d_M_run_19 (by decide) ?_
    refine lv_istore_n (lv' := [(2, .int (0 : Int32)), (0, .ref (ea E 20 0)), (1, .int x1)]) hx hb d_M_run_20 rfl hl (by decide) rfl (fun ls hl => ?_)
    obtain ⟨nn, hw⟩ := hw
    exact L21 nn _ _ _ s1 (0 : Int32) (lv_sub hl [1, 2, 0] rfl) hV hw
  have J11 : ∀ (ls : Array Slot) (H : Heap) (locs : List Loc) (s0 : KS), lv_has ls 3 [(0, .ref (ea E 20 0)), (1, .int x1)] → gV E MM A s0 s H locs → w_M_run_11 x1 Φ s0 → W p l e m_M_run s m ([.ref (ea E 20 0), .int x1] : List Value).toArray below meth c H locs 0 0 (MQ below (gQi E MM A Φ) ([.ref (ea E 20 0), .int x1] : List Value).toArray s 0 0 A) (F0 m 11 ls [.ref (ea E 20 0)]) := by
    intro  ls H locs s0 hl hV hw
    unfold w_M_run_11 at hw
    refine lv_iconst (v := 1) hx hb d_M_run_11 (by decide) ?_
    refine lv_goto (tgt := 16) hx hb d_M_run_12 rfl ?_
    exact J16 _ _ _ s0 (1 : Int32) (lv_sub hl [0, 1] rfl) hV hw
  unfold w_M_run at hw
  refine lv_aload_n hx hb d_M_run_0 rfl (lv_at hl 0 rfl) ?_
  refine lv_iload_n hx hb d_M_run_1 rfl (lv_at hl 1 rfl) ?_
  refine lv_if_lt (tgt := 11) hx hb d_M_run_2 rfl (fun hc => ?_) (fun hc => ?_)
  · have hw := hw.1 hc
    exact J11 _ _ _ s0 (lv_sub hl [0, 1] rfl) hV hw
  · have hw := hw.2 hc
    refine lv_iload_n hx hb d_M_run_5 rfl (lv_at hl 1 rfl) ?_
    refine lv_bipush (v := 40) hx hb d_M_run_6 (by decide) ?_
    refine lv_icmp_le (tgt := 15) hx hb d_M_run_8 rfl (fun hc => ?_) (fun hc => ?_)
    · have hw := hw.1 hc
      refine lv_iconst (v := 0) hx hb d_M_run_15 (by decide) ?_
      exact J16 _ _ _ s0 (0 : Int32) (lv_sub hl [0, 1] rfl) hV hw
    · have hw := hw.2 hc
      exact J11 _ _ _ s0 (lv_sub hl [0, 1] rfl) hV hw
theorem d_M_feed_0 : decode b_M_feed 0 = .ok (.aload_n 0, 1) := by decide +kernel
theorem d_M_feed_1 : decode b_M_feed 1 = .ok (.aload_n 0, 1) := by decide +kernel
theorem d_M_feed_2 : decode b_M_feed 2 = .ok (.getfield 122, 3) := by decide +kernel
theorem d_M_feed_5 : decode b_M_feed 5 = .ok (.ifCond .ne 12, 3) := by decide +kernel
theorem d_M_feed_8 : decode b_M_feed 8 = .ok (.aload_n 0, 1) := by decide +kernel
theorem d_M_feed_9 : decode b_M_feed 9 = .ok (.getfield 119, 3) := by decide +kernel
theorem d_M_feed_12 : decode b_M_feed 12 = .ok (.bipush 100, 2) := by decide +kernel
theorem d_M_feed_14 : decode b_M_feed 14 = .ok (.if_icmp .ne 7, 3) := by decide +kernel
theorem d_M_feed_17 : decode b_M_feed 17 = .ok (.iconst 1, 1) := by decide +kernel
theorem d_M_feed_18 : decode b_M_feed 18 = .ok (.goto 4, 3) := by decide +kernel
theorem d_M_feed_21 : decode b_M_feed 21 = .ok (.iconst 0, 1) := by decide +kernel
theorem d_M_feed_22 : decode b_M_feed 22 = .ok (.putfield 68, 3) := by decide +kernel
theorem d_M_feed_25 : decode b_M_feed 25 = .ok (.aload_n 0, 1) := by decide +kernel
theorem d_M_feed_26 : decode b_M_feed 26 = .ok (.getfield 68, 3) := by decide +kernel
theorem d_M_feed_29 : decode b_M_feed 29 = .ok (.ifCond .le 5, 3) := by decide +kernel
theorem d_M_feed_32 : decode b_M_feed 32 = .ok (.iconst 0, 1) := by decide +kernel
theorem d_M_feed_33 : decode b_M_feed 33 = .ok (.ireturn, 1) := by decide +kernel
theorem d_M_feed_34 : decode b_M_feed 34 = .ok (.aload_n 0, 1) := by decide +kernel
theorem d_M_feed_35 : decode b_M_feed 35 = .ok (.getfield 55, 3) := by decide +kernel
theorem d_M_feed_38 : decode b_M_feed 38 = .ok (.aload_n 0, 1) := by decide +kernel
theorem d_M_feed_39 : decode b_M_feed 39 = .ok (.getfield 119, 3) := by decide +kernel
theorem d_M_feed_42 : decode b_M_feed 42 = .ok (.iload_n 1, 1) := by decide +kernel
theorem d_M_feed_43 : decode b_M_feed 43 = .ok (.iastore, 1) := by decide +kernel
theorem d_M_feed_44 : decode b_M_feed 44 = .ok (.aload_n 0, 1) := by decide +kernel
theorem d_M_feed_45 : decode b_M_feed 45 = .ok (.dup, 1) := by decide +kernel
theorem d_M_feed_46 : decode b_M_feed 46 = .ok (.getfield 119, 3) := by decide +kernel
theorem d_M_feed_49 : decode b_M_feed 49 = .ok (.iconst 1, 1) := by decide +kernel
theorem d_M_feed_50 : decode b_M_feed 50 = .ok (.iadd, 1) := by decide +kernel
theorem d_M_feed_51 : decode b_M_feed 51 = .ok (.putfield 119, 3) := by decide +kernel
theorem d_M_feed_54 : decode b_M_feed 54 = .ok (.aload_n 0, 1) := by decide +kernel
theorem d_M_feed_55 : decode b_M_feed 55 = .ok (.bipush 16, 2) := by decide +kernel
theorem d_M_feed_57 : decode b_M_feed 57 = .ok (.invokevirtual 95, 3) := by decide +kernel
theorem d_M_feed_60 : decode b_M_feed 60 = .ok (.aload_n 0, 1) := by decide +kernel
theorem d_M_feed_61 : decode b_M_feed 61 = .ok (.getfield 119, 3) := by decide +kernel
theorem d_M_feed_64 : decode b_M_feed 64 = .ok (.ireturn, 1) := by decide +kernel
def w_M_feed_22 (x1 : Int32) (Φ : Int32 → KS → Prop) (t0 : Int32) (s0 : KS) : Prop := ∀ s1 : KS, s1 = w3 s0 20 0 0 t0 → (((s1 20 0 0) ≤ 0 → vp_in (s1 20 0 24) 100 ∧ ∀ s2 : KS, s2 = w3 s1 43 0 (s1 20 0 24).toNatClampNeg x1 → ∀ s3 : KS, s3 = w3 s2 20 0 24 ((s2 20 0 24) + (1 : Int32)) → w_M_wakeFirst (16 : Int32) s3 (fun s4 => Φ (s4 20 0 24) s4)) ∧ (¬ (s1 20 0 0) ≤ 0 → Φ (0 : Int32) s1))
def w_M_feed_17 (x1 : Int32) (Φ : Int32 → KS → Prop) (s0 : KS) : Prop := w_M_feed_22 x1 Φ (1 : Int32) s0
def w_M_feed (x1 : Int32) (s0 : KS) (Φ : Int32 → KS → Prop) : Prop := ((¬ (s0 20 0 25) = 0 → w_M_feed_17 x1 Φ s0) ∧ ((s0 20 0 25) = 0 → ((¬ (s0 20 0 24) = (100 : Int32) → w_M_feed_22 x1 Φ (0 : Int32) s0) ∧ ((s0 20 0 24) = (100 : Int32) → w_M_feed_17 x1 Φ s0))))
set_option maxHeartbeats 4000000 in
set_option maxRecDepth 100000 in
theorem c_M_feed (l : Launch) (E : gE) (s0 : KS) (x1 : Int32) (Φ : Int32 → KS → Prop) (hw : w_M_feed x1 s0 Φ) : gMi l y_M_feed v_M_feed m_M_feed E MM [.ref (ea E 20 0), .int x1] s0 Φ := by
  intro sz
  refine Met.ofW (cc := b_M_feed) (maxL := 2) (ret := (some .int)) (by decide) rfl ?_
  intro p e s m args below meth c s₁ B hml hv
  obtain ⟨rfl, hsz, hP, hK, hD, hX⟩ := hv
  have hx := B.exec
  have hb := B.bytes
  have hr := B.returns
  have hts := atoms_spec (ws := v_M_feed) B.pre
  have hG : ∀ w ∈ gG, w.before _ s = true := fun w h => hts w (List.mem_cons_of_mem _ h)
  have hown : s.vm.findClass R_M = some m.cls := findClass_of_methodNamed B.named
  have hlocks := B.notSynchronized
  subst hsz
  obtain ⟨A, hAe⟩ : ∃ A, A = gA E MM s.heap.size := ⟨_, rfl⟩
  rw [← hAe] at hD hX ⊢
  have hV : gV E MM A s0 s s.heap [] := ⟨hP, hD, va_S.rf⟩
  have hl := lv_entry ([.ref (ea E 20 0), .int x1] : List Value) (n := 2) (Nat.le_of_ble_eq_true rfl)
  rw [lg_entry_eq]
  generalize (lg_sl ([.ref (ea E 20 0), .int x1] : List Value) ++ List.replicate (2 - (lg_sl ([.ref (ea E 20 0), .int x1] : List Value)).length) Slot.unset).toArray = ls at hl ⊢
  have hl : lv_has ls 2 [(0, .ref (ea E 20 0)), (1, .int x1)] := hl
  have J22 : ∀ (ls : Array Slot) (H : Heap) (locs : List Loc) (s0 : KS) (t0 : Int32), lv_has ls 2 [(0, .ref (ea E 20 0)), (1, .int x1)] → gV E MM A s0 s H locs → w_M_feed_22 x1 Φ t0 s0 → W p l e m_M_feed s m ([.ref (ea E 20 0), .int x1] : List Value).toArray below meth c H locs 0 0 (MQ below (gQi E MM A Φ) ([.ref (ea E 20 0), .int x1] : List Value).toArray s 0 0 A) (F0 m 22 ls [.int t0, .ref (ea E 20 0)]) := by
    intro  ls H locs s0 t0 hl hV hw
    unfold w_M_feed_22 at hw
    refine kp_M_M_code hx hb hG hown hK hV d_M_feed_22 (fun s1 H locs es1 hV => ?_)
    have hw := hw s1 es1
    refine lv_aload_n hx hb d_M_feed_25 rfl (lv_at hl 0 rfl) ?_
    refine kg_M_M_code hx hb hG hown hK hV d_M_feed_26 ?_
    refine lv_if_le (tgt := 34) hx hb d_M_feed_29 rfl (fun hc => ?_) (fun hc => ?_)
    · have hw := hw.1 hc
      refine lv_aload_n hx hb d_M_feed_34 rfl (lv_at hl 0 rfl) ?_
      refine kg_M_M_input hx hb hG hown hK hV d_M_feed_35 ?_
      refine lv_aload_n hx hb d_M_feed_38 rfl (lv_at hl 0 rfl) ?_
      refine kg_M_M_inputs hx hb hG hown hK hV d_M_feed_39 ?_
      refine lv_iload_n hx hb d_M_feed_42 rfl (lv_at hl 1 rfl) ?_
      refine ks_43 hx hb hK hV hw.1 d_M_feed_43 (fun s2 H locs es2 hV => ?_)
      have hw := hw.2 s2 es2
      refine lv_aload_n hx hb d_M_feed_44 rfl (lv_at hl 0 rfl) ?_
      refine lv_dup hx hb d_M_feed_45 rfl ?_
      refine kg_M_M_inputs hx hb hG hown hK hV d_M_feed_46 ?_
      refine lv_iconst (v := 1) hx hb d_M_feed_49 (by decide) ?_
      refine lv_iadd hx hb d_M_feed_50 ?_
      refine kp_M_M_inputs hx hb hG hown hK hV d_M_feed_51 (fun s3 H locs es3 hV => ?_)
      have hw := hw s3 es3
      refine lv_aload_n hx hb d_M_feed_54 rfl (lv_at hl 0 rfl) ?_
      refine lv_bipush (v := 16) hx hb d_M_feed_55 (by decide) ?_
      refine kc_M_M_wakeFirst hx hb hml hown hts hV hK hX hAe (c_M_wakeFirst l E s3 (16 : Int32) _ hw) hl.1 (Nat.le_of_ble_eq_true rfl) d_M_feed_57 (Nat.le_of_ble_eq_true rfl) (Nat.le_of_ble_eq_true rfl) (fun s4 H locs hw hV => ?_)
      refine lv_aload_n hx hb d_M_feed_60 rfl (lv_at hl 0 rfl) ?_
      refine kg_M_M_inputs hx hb hG hown hK hV d_M_feed_61 ?_
      exact kr_i hx hb hr hV hK hX hAe hw d_M_feed_64
    · have hw := hw.2 hc
      refine lv_iconst (v := 0) hx hb d_M_feed_32 (by decide) ?_
      exact kr_i hx hb hr hV hK hX hAe hw d_M_feed_33
  have J17 : ∀ (ls : Array Slot) (H : Heap) (locs : List Loc) (s0 : KS), lv_has ls 2 [(0, .ref (ea E 20 0)), (1, .int x1)] → gV E MM A s0 s H locs → w_M_feed_17 x1 Φ s0 → W p l e m_M_feed s m ([.ref (ea E 20 0), .int x1] : List Value).toArray below meth c H locs 0 0 (MQ below (gQi E MM A Φ) ([.ref (ea E 20 0), .int x1] : List Value).toArray s 0 0 A) (F0 m 17 ls [.ref (ea E 20 0)]) := by
    intro  ls H locs s0 hl hV hw
    unfold w_M_feed_17 at hw
    refine lv_iconst (v := 1) hx hb d_M_feed_17 (by decide) ?_
    refine lv_goto (tgt := 22) hx hb d_M_feed_18 rfl ?_
    exact J22 _ _ _ s0 (1 : Int32) (lv_sub hl [0, 1] rfl) hV hw
  unfold w_M_feed at hw
  refine lv_aload_n hx hb d_M_feed_0 rfl (lv_at hl 0 rfl) ?_
  refine lv_aload_n hx hb d_M_feed_1 rfl (lv_at hl 0 rfl) ?_
  refine kg_M_M_isShut hx hb hG hown hK hV d_M_feed_2 ?_
  refine lv_if_ne (tgt := 17) hx hb d_M_feed_5 rfl (fun hc => ?_) (fun hc => ?_)
  · have hw := hw.1 hc
    exact J17 _ _ _ s0 (lv_sub hl [0, 1] rfl) hV hw
  · have hw := hw.2 hc
    refine lv_aload_n hx hb d_M_feed_8 rfl (lv_at hl 0 rfl) ?_
    refine kg_M_M_inputs hx hb hG hown hK hV d_M_feed_9 ?_
    refine lv_bipush (v := 100) hx hb d_M_feed_12 (by decide) ?_
    refine lv_icmp_ne (tgt := 21) hx hb d_M_feed_14 rfl (fun hc => ?_) (fun hc => ?_)
    · have hw := hw.1 hc
      refine lv_iconst (v := 0) hx hb d_M_feed_21 (by decide) ?_
      exact J22 _ _ _ s0 (0 : Int32) (lv_sub hl [0, 1] rfl) hV hw
    · have hw := hw.2 hc
      exact J17 _ _ _ s0 (lv_sub hl [0, 1] rfl) hV hw
theorem d_M_shut_0 : decode b_M_shut 0 = .ok (.aload_n 0, 1) := by decide +kernel
theorem d_M_shut_1 : decode b_M_shut 1 = .ok (.iconst 0, 1) := by decide +kernel
theorem d_M_shut_2 : decode b_M_shut 2 = .ok (.putfield 68, 3) := by decide +kernel
theorem d_M_shut_5 : decode b_M_shut 5 = .ok (.aload_n 0, 1) := by decide +kernel
theorem d_M_shut_6 : decode b_M_shut 6 = .ok (.getfield 122, 3) := by decide +kernel
theorem d_M_shut_9 : decode b_M_shut 9 = .ok (.istore_n 1, 1) := by decide +kernel
theorem d_M_shut_10 : decode b_M_shut 10 = .ok (.aload_n 0, 1) := by decide +kernel
theorem d_M_shut_11 : decode b_M_shut 11 = .ok (.iconst 1, 1) := by decide +kernel
theorem d_M_shut_12 : decode b_M_shut 12 = .ok (.putfield 122, 3) := by decide +kernel
theorem d_M_shut_15 : decode b_M_shut 15 = .ok (.aload_n 0, 1) := by decide +kernel
theorem d_M_shut_16 : decode b_M_shut 16 = .ok (.bipush 16, 2) := by decide +kernel
theorem d_M_shut_18 : decode b_M_shut 18 = .ok (.invokevirtual 102, 3) := by decide +kernel
theorem d_M_shut_21 : decode b_M_shut 21 = .ok (.iload_n 1, 1) := by decide +kernel
theorem d_M_shut_22 : decode b_M_shut 22 = .ok (.ifCond .ne 7, 3) := by decide +kernel
theorem d_M_shut_25 : decode b_M_shut 25 = .ok (.iconst 1, 1) := by decide +kernel
theorem d_M_shut_26 : decode b_M_shut 26 = .ok (.goto 4, 3) := by decide +kernel
theorem d_M_shut_29 : decode b_M_shut 29 = .ok (.iconst 0, 1) := by decide +kernel
theorem d_M_shut_30 : decode b_M_shut 30 = .ok (.ireturn, 1) := by decide +kernel
def w_M_shut (s0 : KS) (Φ : Int32 → KS → Prop) : Prop := ∀ s1 : KS, s1 = w3 s0 20 0 0 (0 : Int32) → ∀ y2 : Int32, y2 = s1 20 0 25 → ∀ s3 : KS, s3 = w3 s1 20 0 25 (1 : Int32) → w_M_wakeAll (16 : Int32) s3 (fun s4 => ((¬ y2 = 0 → Φ (0 : Int32) s4) ∧ (y2 = 0 → Φ (1 : Int32) s4)))
set_option maxHeartbeats 4000000 in
set_option maxRecDepth 100000 in
theorem c_M_shut (l : Launch) (E : gE) (s0 : KS)  (Φ : Int32 → KS → Prop) (hw : w_M_shut s0 Φ) : gMi l y_M_shut v_M_shut m_M_shut E MM [.ref (ea E 20 0)] s0 Φ := by
  intro sz
  refine Met.ofW (cc := b_M_shut) (maxL := 2) (ret := (some .boolean)) (by decide) rfl ?_
  intro p e s m args below meth c s₁ B hml hv
  obtain ⟨rfl, hsz, hP, hK, hD, hX⟩ := hv
  have hx := B.exec
  have hb := B.bytes
  have hr := B.returns
  have hts := atoms_spec (ws := v_M_shut) B.pre
  have hG : ∀ w ∈ gG, w.before _ s = true := fun w h => hts w (List.mem_cons_of_mem _ h)
  have hown : s.vm.findClass R_M = some m.cls := findClass_of_methodNamed B.named
  have hlocks := B.notSynchronized
  subst hsz
  obtain ⟨A, hAe⟩ : ∃ A, A = gA E MM s.heap.size := ⟨_, rfl⟩
  rw [← hAe] at hD hX ⊢
  have hV : gV E MM A s0 s s.heap [] := ⟨hP, hD, va_S.rf⟩
  have hl := lv_entry ([.ref (ea E 20 0)] : List Value) (n := 2) (Nat.le_of_ble_eq_true rfl)
  rw [lg_entry_eq]
  generalize (lg_sl ([.ref (ea E 20 0)] : List Value) ++ List.replicate (2 - (lg_sl ([.ref (ea E 20 0)] : List Value)).length) Slot.unset).toArray = ls at hl ⊢
  have hl : lv_has ls 2 [(0, .ref (ea E 20 0))] := hl
  unfold w_M_shut at hw
  refine lv_aload_n hx hb d_M_shut_0 rfl (lv_at hl 0 rfl) ?_
  refine lv_iconst (v := 0) hx hb d_M_shut_1 (by decide) ?_
  refine kp_M_M_code hx hb hG hown hK hV d_M_shut_2 (fun s1 H locs es1 hV => ?_)
  have hw := hw s1 es1
  refine lv_aload_n hx hb d_M_shut_5 rfl (lv_at hl 0 rfl) ?_
  refine kg_M_M_isShut hx hb hG hown hK hV d_M_shut_6 ?_
  refine lv_topi (fun y2 ey2 => ?_)
  have hw := hw y2 ey2
  refine lv_istore_n (lv' := [(1, .int y2), (0, .ref (ea E 20 0))]) hx hb d_M_shut_9 rfl hl (by decide) rfl (fun ls hl => ?_)
  refine lv_aload_n hx hb d_M_shut_10 rfl (lv_at hl 1 rfl) ?_
  refine lv_iconst (v := 1) hx hb d_M_shut_11 (by decide) ?_
  refine kp_M_M_isShut hx hb hG hown hK hV (by decide) (by decide) d_M_shut_12 (fun s3 H locs es3 hV => ?_)
  have hw := hw s3 es3
  refine lv_aload_n hx hb d_M_shut_15 rfl (lv_at hl 1 rfl) ?_
  refine lv_bipush (v := 16) hx hb d_M_shut_16 (by decide) ?_
  refine kc_M_M_wakeAll hx hb hml hown hts hV hK hX hAe (c_M_wakeAll l E s3 (16 : Int32) _ hw) hl.1 (Nat.le_of_ble_eq_true rfl) d_M_shut_18 (Nat.le_of_ble_eq_true rfl) (Nat.le_of_ble_eq_true rfl) (fun s4 H locs hw hV => ?_)
  refine lv_iload_n hx hb d_M_shut_21 rfl (lv_at hl 0 rfl) ?_
  refine lv_if_ne (tgt := 29) hx hb d_M_shut_22 rfl (fun hc => ?_) (fun hc => ?_)
  · have hw := hw.1 hc
    refine lv_iconst (v := 0) hx hb d_M_shut_29 (by decide) ?_
    exact kr_z hx hb hr hV hK hX hAe (by decide) hw d_M_shut_30
  · have hw := hw.2 hc
    refine lv_iconst (v := 1) hx hb d_M_shut_25 (by decide) ?_
    refine lv_goto (tgt := 30) hx hb d_M_shut_26 rfl ?_
    exact kr_z hx hb hr hV hK hX hAe (by decide) hw d_M_shut_30
theorem d_M_time_0 : decode b_M_time 0 = .ok (.aload_n 0, 1) := by decide +kernel
theorem d_M_time_1 : decode b_M_time 1 = .ok (.iconst 0, 1) := by decide +kernel
theorem d_M_time_2 : decode b_M_time 2 = .ok (.putfield 68, 3) := by decide +kernel
theorem d_M_time_5 : decode b_M_time 5 = .ok (.aload_n 0, 1) := by decide +kernel
theorem d_M_time_6 : decode b_M_time 6 = .ok (.getfield 187, 3) := by decide +kernel
theorem d_M_time_9 : decode b_M_time 9 = .ok (.ireturn, 1) := by decide +kernel
def w_M_time (s0 : KS) (Φ : Int32 → KS → Prop) : Prop := ∀ s1 : KS, s1 = w3 s0 20 0 0 (0 : Int32) → Φ (s1 20 0 4) s1
set_option maxHeartbeats 4000000 in
set_option maxRecDepth 100000 in
theorem c_M_time (l : Launch) (E : gE) (s0 : KS)  (Φ : Int32 → KS → Prop) (hw : w_M_time s0 Φ) : gMi l y_M_time v_M_time m_M_time E MM [.ref (ea E 20 0)] s0 Φ := by
  intro sz
  refine Met.ofW (cc := b_M_time) (maxL := 1) (ret := (some .int)) (by decide) rfl ?_
  intro p e s m args below meth c s₁ B hml hv
  obtain ⟨rfl, hsz, hP, hK, hD, hX⟩ := hv
  have hx := B.exec
  have hb := B.bytes
  have hr := B.returns
  have hts := atoms_spec (ws := v_M_time) B.pre
  have hG : ∀ w ∈ gG, w.before _ s = true := fun w h => hts w (List.mem_cons_of_mem _ h)
  have hown : s.vm.findClass R_M = some m.cls := findClass_of_methodNamed B.named
  have hlocks := B.notSynchronized
  subst hsz
  obtain ⟨A, hAe⟩ : ∃ A, A = gA E MM s.heap.size := ⟨_, rfl⟩
  rw [← hAe] at hD hX ⊢
  have hV : gV E MM A s0 s s.heap [] := ⟨hP, hD, va_S.rf⟩
  have hl := lv_entry ([.ref (ea E 20 0)] : List Value) (n := 1) (Nat.le_of_ble_eq_true rfl)
  rw [lg_entry_eq]
  generalize (lg_sl ([.ref (ea E 20 0)] : List Value) ++ List.replicate (1 - (lg_sl ([.ref (ea E 20 0)] : List Value)).length) Slot.unset).toArray = ls at hl ⊢
  have hl : lv_has ls 1 [(0, .ref (ea E 20 0))] := hl
  unfold w_M_time at hw
  refine lv_aload_n hx hb d_M_time_0 rfl (lv_at hl 0 rfl) ?_
  refine lv_iconst (v := 0) hx hb d_M_time_1 (by decide) ?_
  refine kp_M_M_code hx hb hG hown hK hV d_M_time_2 (fun s1 H locs es1 hV => ?_)
  have hw := hw s1 es1
  refine lv_aload_n hx hb d_M_time_5 rfl (lv_at hl 0 rfl) ?_
  refine kg_M_M_time hx hb hG hown hK hV d_M_time_6 ?_
  exact kr_i hx hb hr hV hK hX hAe hw d_M_time_9
theorem d_M_noProcess_0 : decode b_M_noProcess 0 = .ok (.aload_n 0, 1) := by decide +kernel
theorem d_M_noProcess_1 : decode b_M_noProcess 1 = .ok (.iload_n 1, 1) := by decide +kernel
theorem d_M_noProcess_2 : decode b_M_noProcess 2 = .ok (.ifCond .lt 9, 3) := by decide +kernel
theorem d_M_noProcess_5 : decode b_M_noProcess 5 = .ok (.iload_n 1, 1) := by decide +kernel
theorem d_M_noProcess_6 : decode b_M_noProcess 6 = .ok (.bipush 16, 2) := by decide +kernel
theorem d_M_noProcess_8 : decode b_M_noProcess 8 = .ok (.if_icmp .lt 7, 3) := by decide +kernel
theorem d_M_noProcess_11 : decode b_M_noProcess 11 = .ok (.iconst 1, 1) := by decide +kernel
theorem d_M_noProcess_12 : decode b_M_noProcess 12 = .ok (.goto 4, 3) := by decide +kernel
theorem d_M_noProcess_15 : decode b_M_noProcess 15 = .ok (.iconst 0, 1) := by decide +kernel
theorem d_M_noProcess_16 : decode b_M_noProcess 16 = .ok (.putfield 68, 3) := by decide +kernel
theorem d_M_noProcess_19 : decode b_M_noProcess 19 = .ok (.aload_n 0, 1) := by decide +kernel
theorem d_M_noProcess_20 : decode b_M_noProcess 20 = .ok (.getfield 68, 3) := by decide +kernel
theorem d_M_noProcess_23 : decode b_M_noProcess 23 = .ok (.ifCond .le 7, 3) := by decide +kernel
theorem d_M_noProcess_26 : decode b_M_noProcess 26 = .ok (.iconst 1, 1) := by decide +kernel
theorem d_M_noProcess_27 : decode b_M_noProcess 27 = .ok (.goto 4, 3) := by decide +kernel
theorem d_M_noProcess_30 : decode b_M_noProcess 30 = .ok (.iconst 0, 1) := by decide +kernel
theorem d_M_noProcess_31 : decode b_M_noProcess 31 = .ok (.ireturn, 1) := by decide +kernel
def w_M_noProcess_16 (x1 : Int32) (Φ : Int32 → KS → Prop) (t0 : Int32) (s0 : KS) : Prop := ∀ s1 : KS, s1 = w3 s0 20 0 0 t0 → (((s1 20 0 0) ≤ 0 → Φ (0 : Int32) s1) ∧ (¬ (s1 20 0 0) ≤ 0 → Φ (1 : Int32) s1))
def w_M_noProcess_11 (x1 : Int32) (Φ : Int32 → KS → Prop) (s0 : KS) : Prop := w_M_noProcess_16 x1 Φ (1 : Int32) s0
def w_M_noProcess (x1 : Int32) (s0 : KS) (Φ : Int32 → KS → Prop) : Prop := ((x1 < 0 → w_M_noProcess_11 x1 Φ s0) ∧ (¬ x1 < 0 → ((x1 < (16 : Int32) → w_M_noProcess_16 x1 Φ (0 : Int32) s0) ∧ (¬ x1 < (16 : Int32) → w_M_noProcess_11 x1 Φ s0))))
set_option maxHeartbeats 4000000 in
set_option maxRecDepth 100000 in
theorem c_M_noProcess (l : Launch) (E : gE) (s0 : KS) (x1 : Int32) (Φ : Int32 → KS → Prop) (hw : w_M_noProcess x1 s0 Φ) : gMi l y_M_noProcess v_M_noProcess m_M_noProcess E MM [.ref (ea E 20 0), .int x1] s0 Φ := by
  intro sz
  refine Met.ofW (cc := b_M_noProcess) (maxL := 2) (ret := (some .boolean)) (by decide) rfl ?_
  intro p e s m args below meth c s₁ B hml hv
  obtain ⟨rfl, hsz, hP, hK, hD, hX⟩ := hv
  have hx := B.exec
  have hb := B.bytes
  have hr := B.returns
  have hts := atoms_spec (ws := v_M_noProcess) B.pre
  have hG : ∀ w ∈ gG, w.before _ s = true := fun w h => hts w (List.mem_cons_of_mem _ h)
  have hown : s.vm.findClass R_M = some m.cls := findClass_of_methodNamed B.named
  have hlocks := B.notSynchronized
  subst hsz
  obtain ⟨A, hAe⟩ : ∃ A, A = gA E MM s.heap.size := ⟨_, rfl⟩
  rw [← hAe] at hD hX ⊢
  have hV : gV E MM A s0 s s.heap [] := ⟨hP, hD, va_S.rf⟩
  have hl := lv_entry ([.ref (ea E 20 0), .int x1] : List Value) (n := 2) (Nat.le_of_ble_eq_true rfl)
  rw [lg_entry_eq]
  generalize (lg_sl ([.ref (ea E 20 0), .int x1] : List Value) ++ List.replicate (2 - (lg_sl ([.ref (ea E 20 0), .int x1] : List Value)).length) Slot.unset).toArray = ls at hl ⊢
  have hl : lv_has ls 2 [(0, .ref (ea E 20 0)), (1, .int x1)] := hl
  have J16 : ∀ (ls : Array Slot) (H : Heap) (locs : List Loc) (s0 : KS) (t0 : Int32), lv_has ls 2 [(0, .ref (ea E 20 0))] → gV E MM A s0 s H locs → w_M_noProcess_16 x1 Φ t0 s0 → W p l e m_M_noProcess s m ([.ref (ea E 20 0), .int x1] : List Value).toArray below meth c H locs 0 0 (MQ below (gQi E MM A Φ) ([.ref (ea E 20 0), .int x1] : List Value).toArray s 0 0 A) (F0 m 16 ls [.int t0, .ref (ea E 20 0)]) := by
    intro  ls H locs s0 t0 hl hV hw
    unfold w_M_noProcess_16 at hw
    refine kp_M_M_code hx hb hG hown hK hV d_M_noProcess_16 (fun s1 H locs es1 hV => ?_)
    have hw := hw s1 es1
    refine lv_aload_n hx hb d_M_noProcess_19 rfl (lv_at hl 0 rfl) ?_
    refine kg_M_M_code hx hb hG hown hK hV d_M_noProcess_20 ?_
    refine lv_if_le (tgt := 30) hx hb d_M_noProcess_23 rfl (fun hc => ?_) (fun hc => ?_)
    · have hw := hw.1 hc
      refine lv_iconst (v := 0) hx hb d_M_noProcess_30 (by decide) ?_
      exact kr_z hx hb hr hV hK hX hAe (by decide) hw d_M_noProcess_31
    · have hw := hw.2 hc
      refine lv_iconst (v := 1) hx hb d_M_noProcess_26 (by decide) ?_
      refine lv_goto (tgt := 31) hx hb d_M_noProcess_27 rfl ?_
      exact kr_z hx hb hr hV hK hX hAe (by decide) hw d_M_noProcess_31
  have J11 : ∀ (ls : Array Slot) (H : Heap) (locs : List Loc) (s0 : KS), lv_has ls 2 [(0, .ref (ea E 20 0))] → gV E MM A s0 s H locs → w_M_noProcess_11 x1 Φ s0 → W p l e m_M_noProcess s m ([.ref (ea E 20 0), .int x1] : List Value).toArray below meth c H locs 0 0 (MQ below (gQi E MM A Φ) ([.ref (ea E 20 0), .int x1] : List Value).toArray s 0 0 A) (F0 m 11 ls [.ref (ea E 20 0)]) := by
    intro  ls H locs s0 hl hV hw
    unfold w_M_noProcess_11 at hw
    refine lv_iconst (v := 1) hx hb d_M_noProcess_11 (by decide) ?_
    refine lv_goto (tgt := 16) hx hb d_M_noProcess_12 rfl ?_
    exact J16 _ _ _ s0 (1 : Int32) (lv_sub hl [0] rfl) hV hw
  unfold w_M_noProcess at hw
  refine lv_aload_n hx hb d_M_noProcess_0 rfl (lv_at hl 0 rfl) ?_
  refine lv_iload_n hx hb d_M_noProcess_1 rfl (lv_at hl 1 rfl) ?_
  refine lv_if_lt (tgt := 11) hx hb d_M_noProcess_2 rfl (fun hc => ?_) (fun hc => ?_)
  · have hw := hw.1 hc
    exact J11 _ _ _ s0 (lv_sub hl [0] rfl) hV hw
  · have hw := hw.2 hc
    refine lv_iload_n hx hb d_M_noProcess_5 rfl (lv_at hl 1 rfl) ?_
    refine lv_bipush (v := 16) hx hb d_M_noProcess_6 (by decide) ?_
    refine lv_icmp_lt (tgt := 15) hx hb d_M_noProcess_8 rfl (fun hc => ?_) (fun hc => ?_)
    · have hw := hw.1 hc
      refine lv_iconst (v := 0) hx hb d_M_noProcess_15 (by decide) ?_
      exact J16 _ _ _ s0 (0 : Int32) (lv_sub hl [0] rfl) hV hw
    · have hw := hw.2 hc
      exact J11 _ _ _ s0 (lv_sub hl [0] rfl) hV hw
theorem d_M_state_0 : decode b_M_state 0 = .ok (.aload_n 0, 1) := by decide +kernel
theorem d_M_state_1 : decode b_M_state 1 = .ok (.iload_n 1, 1) := by decide +kernel
theorem d_M_state_2 : decode b_M_state 2 = .ok (.invokevirtual 215, 3) := by decide +kernel
theorem d_M_state_5 : decode b_M_state 5 = .ok (.ifCond .eq 7, 3) := by decide +kernel
theorem d_M_state_8 : decode b_M_state 8 = .ok (.iconst 0, 1) := by decide +kernel
theorem d_M_state_9 : decode b_M_state 9 = .ok (.goto 9, 3) := by decide +kernel
theorem d_M_state_12 : decode b_M_state 12 = .ok (.aload_n 0, 1) := by decide +kernel
theorem d_M_state_13 : decode b_M_state 13 = .ok (.getfield 13, 3) := by decide +kernel
theorem d_M_state_16 : decode b_M_state 16 = .ok (.iload_n 1, 1) := by decide +kernel
theorem d_M_state_17 : decode b_M_state 17 = .ok (.iaload, 1) := by decide +kernel
theorem d_M_state_18 : decode b_M_state 18 = .ok (.ireturn, 1) := by decide +kernel
def w_M_state (x1 : Int32) (s0 : KS) (Φ : Int32 → KS → Prop) : Prop := w_M_noProcess x1 s0 (fun r2 s1 => ((r2 = 0 → vp_in x1 16 ∧ Φ (s1 26 0 x1.toNatClampNeg) s1) ∧ (¬ r2 = 0 → Φ (0 : Int32) s1)))
set_option maxHeartbeats 4000000 in
set_option maxRecDepth 100000 in
theorem c_M_state (l : Launch) (E : gE) (s0 : KS) (x1 : Int32) (Φ : Int32 → KS → Prop) (hw : w_M_state x1 s0 Φ) : gMi l y_M_state v_M_state m_M_state E MM [.ref (ea E 20 0), .int x1] s0 Φ := by
  intro sz
  refine Met.ofW (cc := b_M_state) (maxL := 2) (ret := (some .int)) (by decide) rfl ?_
  intro p e s m args below meth c s₁ B hml hv
  obtain ⟨rfl, hsz, hP, hK, hD, hX⟩ := hv
  have hx := B.exec
  have hb := B.bytes
  have hr := B.returns
  have hts := atoms_spec (ws := v_M_state) B.pre
  have hG : ∀ w ∈ gG, w.before _ s = true := fun w h => hts w (List.mem_cons_of_mem _ h)
  have hown : s.vm.findClass R_M = some m.cls := findClass_of_methodNamed B.named
  have hlocks := B.notSynchronized
  subst hsz
  obtain ⟨A, hAe⟩ : ∃ A, A = gA E MM s.heap.size := ⟨_, rfl⟩
  rw [← hAe] at hD hX ⊢
  have hV : gV E MM A s0 s s.heap [] := ⟨hP, hD, va_S.rf⟩
  have hl := lv_entry ([.ref (ea E 20 0), .int x1] : List Value) (n := 2) (Nat.le_of_ble_eq_true rfl)
  rw [lg_entry_eq]
  generalize (lg_sl ([.ref (ea E 20 0), .int x1] : List Value) ++ List.replicate (2 - (lg_sl ([.ref (ea E 20 0), .int x1] : List Value)).length) Slot.unset).toArray = ls at hl ⊢
  have hl : lv_has ls 2 [(0, .ref (ea E 20 0)), (1, .int x1)] := hl
  unfold w_M_state at hw
  refine lv_aload_n hx hb d_M_state_0 rfl (lv_at hl 0 rfl) ?_
  refine lv_iload_n hx hb d_M_state_1 rfl (lv_at hl 1 rfl) ?_
  refine kc_M_M_noProcess hx hb hml hown hts hV hK hX hAe (c_M_noProcess l E s0 x1 _ hw) hl.1 (Nat.le_of_ble_eq_true rfl) d_M_state_2 (Nat.le_of_ble_eq_true rfl) (Nat.le_of_ble_eq_true rfl) (fun r2 s1 H locs hw hV => ?_)
  refine lv_if_eq (tgt := 12) hx hb d_M_state_5 rfl (fun hc => ?_) (fun hc => ?_)
  · have hw := hw.1 hc
    refine lv_aload_n hx hb d_M_state_12 rfl (lv_at hl 0 rfl) ?_
    refine kg_M_M_state hx hb hG hown hK hV d_M_state_13 ?_
    refine lv_iload_n hx hb d_M_state_16 rfl (lv_at hl 1 rfl) ?_
    refine kl_26 hx hb hK hV hw.1 d_M_state_17 ?_
    have hw := hw.2
    exact kr_i hx hb hr hV hK hX hAe hw d_M_state_18
  · have hw := hw.2 hc
    refine lv_iconst (v := 0) hx hb d_M_state_8 (by decide) ?_
    refine lv_goto (tgt := 18) hx hb d_M_state_9 rfl ?_
    exact kr_i hx hb hr hV hK hX hAe hw d_M_state_18
theorem d_M_about_0 : decode b_M_about 0 = .ok (.aload_n 0, 1) := by decide +kernel
theorem d_M_about_1 : decode b_M_about 1 = .ok (.iload_n 1, 1) := by decide +kernel
theorem d_M_about_2 : decode b_M_about 2 = .ok (.invokevirtual 215, 3) := by decide +kernel
theorem d_M_about_5 : decode b_M_about 5 = .ok (.ifCond .eq 5, 3) := by decide +kernel
theorem d_M_about_8 : decode b_M_about 8 = .ok (.iconst 0, 1) := by decide +kernel
theorem d_M_about_9 : decode b_M_about 9 = .ok (.ireturn, 1) := by decide +kernel
theorem d_M_about_10 : decode b_M_about 10 = .ok (.aload_n 0, 1) := by decide +kernel
theorem d_M_about_11 : decode b_M_about 11 = .ok (.iload_n 2, 1) := by decide +kernel
theorem d_M_about_12 : decode b_M_about 12 = .ok (.ifCond .lt 8, 3) := by decide +kernel
theorem d_M_about_15 : decode b_M_about 15 = .ok (.iload_n 2, 1) := by decide +kernel
theorem d_M_about_16 : decode b_M_about 16 = .ok (.iconst 5, 1) := by decide +kernel
theorem d_M_about_17 : decode b_M_about 17 = .ok (.if_icmp .le 7, 3) := by decide +kernel
theorem d_M_about_20 : decode b_M_about 20 = .ok (.iconst 2, 1) := by decide +kernel
theorem d_M_about_21 : decode b_M_about 21 = .ok (.goto 17, 3) := by decide +kernel
theorem d_M_about_24 : decode b_M_about 24 = .ok (.aload_n 0, 1) := by decide +kernel
theorem d_M_about_25 : decode b_M_about 25 = .ok (.getfield 13, 3) := by decide +kernel
theorem d_M_about_28 : decode b_M_about 28 = .ok (.iload_n 1, 1) := by decide +kernel
theorem d_M_about_29 : decode b_M_about 29 = .ok (.iaload, 1) := by decide +kernel
theorem d_M_about_30 : decode b_M_about 30 = .ok (.ifCond .ne 7, 3) := by decide +kernel
theorem d_M_about_33 : decode b_M_about 33 = .ok (.iconst 3, 1) := by decide +kernel
theorem d_M_about_34 : decode b_M_about 34 = .ok (.goto 4, 3) := by decide +kernel
theorem d_M_about_37 : decode b_M_about 37 = .ok (.iconst 0, 1) := by decide +kernel
theorem d_M_about_38 : decode b_M_about 38 = .ok (.putfield 68, 3) := by decide +kernel
theorem d_M_about_41 : decode b_M_about 41 = .ok (.aload_n 0, 1) := by decide +kernel
theorem d_M_about_42 : decode b_M_about 42 = .ok (.getfield 68, 3) := by decide +kernel
theorem d_M_about_45 : decode b_M_about 45 = .ok (.ifCond .le 5, 3) := by decide +kernel
theorem d_M_about_48 : decode b_M_about 48 = .ok (.iconst 0, 1) := by decide +kernel
theorem d_M_about_49 : decode b_M_about 49 = .ok (.ireturn, 1) := by decide +kernel
theorem d_M_about_50 : decode b_M_about 50 = .ok (.iconst 0, 1) := by decide +kernel
theorem d_M_about_51 : decode b_M_about 51 = .ok (.istore_n 3, 1) := by decide +kernel
theorem d_M_about_52 : decode b_M_about 52 = .ok (.iconst 0, 1) := by decide +kernel
theorem d_M_about_53 : decode b_M_about 53 = .ok (.istore 4, 2) := by decide +kernel
theorem d_M_about_55 : decode b_M_about 55 = .ok (.iload 4, 2) := by decide +kernel
theorem d_M_about_57 : decode b_M_about 57 = .ok (.bipush 8, 2) := by decide +kernel
theorem d_M_about_59 : decode b_M_about 59 = .ok (.if_icmp .ge 35, 3) := by decide +kernel
theorem d_M_about_62 : decode b_M_about 62 = .ok (.aload_n 0, 1) := by decide +kernel
theorem d_M_about_63 : decode b_M_about 63 = .ok (.getfield 28, 3) := by decide +kernel
theorem d_M_about_66 : decode b_M_about 66 = .ok (.bipush 8, 2) := by decide +kernel
theorem d_M_about_68 : decode b_M_about 68 = .ok (.iload_n 1, 1) := by decide +kernel
theorem d_M_about_69 : decode b_M_about 69 = .ok (.imul, 1) := by decide +kernel
theorem d_M_about_70 : decode b_M_about 70 = .ok (.iload 4, 2) := by decide +kernel
theorem d_M_about_72 : decode b_M_about 72 = .ok (.iadd, 1) := by decide +kernel
theorem d_M_about_73 : decode b_M_about 73 = .ok (.iaload, 1) := by decide +kernel
theorem d_M_about_74 : decode b_M_about 74 = .ok (.ifCond .eq 12, 3) := by decide +kernel
theorem d_M_about_77 : decode b_M_about 77 = .ok (.iload_n 3, 1) := by decide +kernel
theorem d_M_about_78 : decode b_M_about 78 = .ok (.iconst 1, 1) := by decide +kernel
theorem d_M_about_79 : decode b_M_about 79 = .ok (.iload 4, 2) := by decide +kernel
theorem d_M_about_81 : decode b_M_about 81 = .ok (.ishl, 1) := by decide +kernel
theorem d_M_about_82 : decode b_M_about 82 = .ok (.ior, 1) := by decide +kernel
theorem d_M_about_83 : decode b_M_about 83 = .ok (.goto 4, 3) := by decide +kernel
theorem d_M_about_86 : decode b_M_about 86 = .ok (.iload_n 3, 1) := by decide +kernel
theorem d_M_about_87 : decode b_M_about 87 = .ok (.istore_n 3, 1) := by decide +kernel
theorem d_M_about_88 : decode b_M_about 88 = .ok (.iinc 4 1, 3) := by decide +kernel
theorem d_M_about_91 : decode b_M_about 91 = .ok (.goto (-36), 3) := by decide +kernel
theorem d_M_about_94 : decode b_M_about 94 = .ok (.iload_n 2, 1) := by decide +kernel
theorem d_M_about_95 : decode b_M_about 95 = .ok (.ifCond .ne 12, 3) := by decide +kernel
theorem d_M_about_98 : decode b_M_about 98 = .ok (.aload_n 0, 1) := by decide +kernel
theorem d_M_about_99 : decode b_M_about 99 = .ok (.getfield 25, 3) := by decide +kernel
theorem d_M_about_102 : decode b_M_about 102 = .ok (.iload_n 1, 1) := by decide +kernel
theorem d_M_about_103 : decode b_M_about 103 = .ok (.iaload, 1) := by decide +kernel
theorem d_M_about_104 : decode b_M_about 104 = .ok (.goto 75, 3) := by decide +kernel
theorem d_M_about_107 : decode b_M_about 107 = .ok (.iload_n 2, 1) := by decide +kernel
theorem d_M_about_108 : decode b_M_about 108 = .ok (.iconst 1, 1) := by decide +kernel
theorem d_M_about_109 : decode b_M_about 109 = .ok (.if_icmp .ne 12, 3) := by decide +kernel
theorem d_M_about_112 : decode b_M_about 112 = .ok (.aload_n 0, 1) := by decide +kernel
theorem d_M_about_113 : decode b_M_about 113 = .ok (.getfield 22, 3) := by decide +kernel
theorem d_M_about_116 : decode b_M_about 116 = .ok (.iload_n 1, 1) := by decide +kernel
theorem d_M_about_117 : decode b_M_about 117 = .ok (.iaload, 1) := by decide +kernel
theorem d_M_about_118 : decode b_M_about 118 = .ok (.goto 61, 3) := by decide +kernel
theorem d_M_about_121 : decode b_M_about 121 = .ok (.iload_n 2, 1) := by decide +kernel
theorem d_M_about_122 : decode b_M_about 122 = .ok (.iconst 2, 1) := by decide +kernel
theorem d_M_about_123 : decode b_M_about 123 = .ok (.if_icmp .ne 12, 3) := by decide +kernel
theorem d_M_about_126 : decode b_M_about 126 = .ok (.aload_n 0, 1) := by decide +kernel
theorem d_M_about_127 : decode b_M_about 127 = .ok (.getfield 31, 3) := by decide +kernel
theorem d_M_about_130 : decode b_M_about 130 = .ok (.iload_n 1, 1) := by decide +kernel
theorem d_M_about_131 : decode b_M_about 131 = .ok (.iaload, 1) := by decide +kernel
theorem d_M_about_132 : decode b_M_about 132 = .ok (.goto 47, 3) := by decide +kernel
theorem d_M_about_135 : decode b_M_about 135 = .ok (.iload_n 2, 1) := by decide +kernel
theorem d_M_about_136 : decode b_M_about 136 = .ok (.iconst 3, 1) := by decide +kernel
theorem d_M_about_137 : decode b_M_about 137 = .ok (.if_icmp .ne 27, 3) := by decide +kernel
theorem d_M_about_140 : decode b_M_about 140 = .ok (.aload_n 0, 1) := by decide +kernel
theorem d_M_about_141 : decode b_M_about 141 = .ok (.getfield 13, 3) := by decide +kernel
theorem d_M_about_144 : decode b_M_about 144 = .ok (.iload_n 1, 1) := by decide +kernel
theorem d_M_about_145 : decode b_M_about 145 = .ok (.iaload, 1) := by decide +kernel
theorem d_M_about_146 : decode b_M_about 146 = .ok (.bipush 6, 2) := by decide +kernel
theorem d_M_about_148 : decode b_M_about 148 = .ok (.if_icmp .ne 12, 3) := by decide +kernel
theorem d_M_about_151 : decode b_M_about 151 = .ok (.aload_n 0, 1) := by decide +kernel
theorem d_M_about_152 : decode b_M_about 152 = .ok (.getfield 34, 3) := by decide +kernel
theorem d_M_about_155 : decode b_M_about 155 = .ok (.iload_n 1, 1) := by decide +kernel
theorem d_M_about_156 : decode b_M_about 156 = .ok (.iaload, 1) := by decide +kernel
theorem d_M_about_157 : decode b_M_about 157 = .ok (.goto 22, 3) := by decide +kernel
theorem d_M_about_160 : decode b_M_about 160 = .ok (.iconst 0, 1) := by decide +kernel
theorem d_M_about_161 : decode b_M_about 161 = .ok (.goto 18, 3) := by decide +kernel
theorem d_M_about_164 : decode b_M_about 164 = .ok (.iload_n 2, 1) := by decide +kernel
theorem d_M_about_165 : decode b_M_about 165 = .ok (.iconst 4, 1) := by decide +kernel
theorem d_M_about_166 : decode b_M_about 166 = .ok (.if_icmp .ne 12, 3) := by decide +kernel
theorem d_M_about_169 : decode b_M_about 169 = .ok (.aload_n 0, 1) := by decide +kernel
theorem d_M_about_170 : decode b_M_about 170 = .ok (.getfield 37, 3) := by decide +kernel
theorem d_M_about_173 : decode b_M_about 173 = .ok (.iload_n 1, 1) := by decide +kernel
theorem d_M_about_174 : decode b_M_about 174 = .ok (.iaload, 1) := by decide +kernel
theorem d_M_about_175 : decode b_M_about 175 = .ok (.goto 4, 3) := by decide +kernel
theorem d_M_about_178 : decode b_M_about 178 = .ok (.iload_n 3, 1) := by decide +kernel
theorem d_M_about_179 : decode b_M_about 179 = .ok (.ireturn, 1) := by decide +kernel
def w_M_about_55 (x1 : Int32) (x2 : Int32) (Φ : Int32 → KS → Prop) : Nat → Int32 → Int32 → KS → Prop
  | 0, _, _, _ => False
  | n + 1, v3, v4, s0 => (((8 : Int32) ≤ v4 → ((¬ x2 = 0 → ((¬ x2 = (1 : Int32) → ((¬ x2 = (2 : Int32) → ((¬ x2 = (3 : Int32) → ((¬ x2 = (4 : Int32) → Φ v3 s0) ∧ (x2 = (4 : Int32) → vp_in x1 16 ∧ Φ (s0 34 0 x1.toNatClampNeg) s0))) ∧ (x2 = (3 : Int32) → vp_in x1 16 ∧ ((¬ (s0 26 0 x1.toNatClampNeg) = (6 : Int32) → Φ (0 : Int32) s0) ∧ ((s0 26 0 x1.toNatClampNeg) = (6 : Int32) → vp_in x1 16 ∧ Φ (s0 33 0 x1.toNatClampNeg) s0))))) ∧ (x2 = (2 : Int32) → vp_in x1 16 ∧ Φ (s0 32 0 x1.toNatClampNeg) s0))) ∧ (x2 = (1 : Int32) → vp_in x1 16 ∧ Φ (s0 29 0 x1.toNatClampNeg) s0))) ∧ (x2 = 0 → vp_in x1 16 ∧ Φ (s0 30 0 x1.toNatClampNeg) s0))) ∧ (¬ (8 : Int32) ≤ v4 → vp_in (((8 : Int32) * x1) + v4) 128 ∧ (((s0 31 0 (((8 : Int32) * x1) + v4).toNatClampNeg) = 0 → ∀ y1 : Int32, y1 = v4 + (1 : Int32) → w_M_about_55 x1 x2 Φ n v3 y1 s0) ∧ (¬ (s0 31 0 (((8 : Int32) * x1) + v4).toNatClampNeg) = 0 → ∀ y2 : Int32, y2 = v3 ||| ((1 : Int32) <<< (v4 &&& 31)) → ∀ y3 : Int32, y3 = v4 + (1 : Int32) → w_M_about_55 x1 x2 Φ n y2 y3 s0))))
def w_M_about_38 (x1 : Int32) (x2 : Int32) (Φ : Int32 → KS → Prop) (t0 : Int32) (s0 : KS) : Prop := ∀ s1 : KS, s1 = w3 s0 20 0 0 t0 → (((s1 20 0 0) ≤ 0 → ∃ nn : Nat, w_M_about_55 x1 x2 Φ nn (0 : Int32) (0 : Int32) s1) ∧ (¬ (s1 20 0 0) ≤ 0 → Φ (0 : Int32) s1))
def w_M_about_20 (x1 : Int32) (x2 : Int32) (Φ : Int32 → KS → Prop) (s0 : KS) : Prop := w_M_about_38 x1 x2 Φ (2 : Int32) s0
def w_M_about (x1 : Int32) (x2 : Int32) (s0 : KS) (Φ : Int32 → KS → Prop) : Prop := w_M_noProcess x1 s0 (fun r2 s1 => ((r2 = 0 → ((x2 < 0 → w_M_about_20 x1 x2 Φ s1) ∧ (¬ x2 < 0 → ((x2 ≤ (5 : Int32) → vp_in x1 16 ∧ ((¬ (s1 26 0 x1.toNatClampNeg) = 0 → w_M_about_38 x1 x2 Φ (0 : Int32) s1) ∧ ((s1 26 0 x1.toNatClampNeg) = 0 → w_M_about_38 x1 x2 Φ (3 : Int32) s1))) ∧ (¬ x2 ≤ (5 : Int32) → w_M_about_20 x1 x2 Φ s1))))) ∧ (¬ r2 = 0 → Φ (0 : Int32) s1)))
set_option maxHeartbeats 4000000 in
set_option maxRecDepth 100000 in
theorem c_M_about (l : Launch) (E : gE) (s0 : KS) (x1 : Int32) (x2 : Int32) (Φ : Int32 → KS → Prop) (hw : w_M_about x1 x2 s0 Φ) : gMi l y_M_about v_M_about m_M_about E MM [.ref (ea E 20 0), .int x1, .int x2] s0 Φ := by
  intro sz
  refine Met.ofW (cc := b_M_about) (maxL := 5) (ret := (some .int)) (by decide) rfl ?_
  intro p e s m args below meth c s₁ B hml hv
  obtain ⟨rfl, hsz, hP, hK, hD, hX⟩ := hv
  have hx := B.exec
  have hb := B.bytes
  have hr := B.returns
  have hts := atoms_spec (ws := v_M_about) B.pre
  have hG : ∀ w ∈ gG, w.before _ s = true := fun w h => hts w (List.mem_cons_of_mem _ h)
  have hown : s.vm.findClass R_M = some m.cls := findClass_of_methodNamed B.named
  have hlocks := B.notSynchronized
  subst hsz
  obtain ⟨A, hAe⟩ : ∃ A, A = gA E MM s.heap.size := ⟨_, rfl⟩
  rw [← hAe] at hD hX ⊢
  have hV : gV E MM A s0 s s.heap [] := ⟨hP, hD, va_S.rf⟩
  have hl := lv_entry ([.ref (ea E 20 0), .int x1, .int x2] : List Value) (n := 5) (Nat.le_of_ble_eq_true rfl)
  rw [lg_entry_eq]
  generalize (lg_sl ([.ref (ea E 20 0), .int x1, .int x2] : List Value) ++ List.replicate (5 - (lg_sl ([.ref (ea E 20 0), .int x1, .int x2] : List Value)).length) Slot.unset).toArray = ls at hl ⊢
  have hl : lv_has ls 5 [(0, .ref (ea E 20 0)), (1, .int x1), (2, .int x2)] := hl
  have L55 : ∀ (n : Nat), ∀ (ls : Array Slot) (H : Heap) (locs : List Loc) (s0 : KS) (v3 : Int32) (v4 : Int32), lv_has ls 5 [(0, .ref (ea E 20 0)), (1, .int x1), (2, .int x2), (3, .int v3), (4, .int v4)] → gV E MM A s0 s H locs → w_M_about_55 x1 x2 Φ n v3 v4 s0 → W p l e m_M_about s m ([.ref (ea E 20 0), .int x1, .int x2] : List Value).toArray below meth c H locs 0 0 (MQ below (gQi E MM A Φ) ([.ref (ea E 20 0), .int x1, .int x2] : List Value).toArray s 0 0 A) (F0 m 55 ls []) := by
    intro n
    induction n with
    | zero =>
      intro ls H locs s0 v3 v4 hl hV hw
      exact False.elim hw
    | succ n ih =>
      intro ls H locs s0 v3 v4 hl hV hw
      unfold w_M_about_55 at hw
      refine lv_iload hx hb d_M_about_55 (lv_at hl 4 rfl) ?_
      refine lv_bipush (v := 8) hx hb d_M_about_57 (by decide) ?_
      refine lv_icmp_ge (tgt := 94) hx hb d_M_about_59 rfl (fun hc => ?_) (fun hc => ?_)
      · have hw := hw.1 hc
        refine lv_iload_n hx hb d_M_about_94 rfl (lv_at hl 2 rfl) ?_
        refine lv_if_ne (tgt := 107) hx hb d_M_about_95 rfl (fun hc => ?_) (fun hc => ?_)
        · have hw := hw.1 hc
          refine lv_iload_n hx hb d_M_about_107 rfl (lv_at hl 2 rfl) ?_
          refine lv_iconst (v := 1) hx hb d_M_about_108 (by decide) ?_
          refine lv_icmp_ne (tgt := 121) hx hb d_M_about_109 rfl (fun hc => ?_) (fun hc => ?_)
          · have hw := hw.1 hc
            refine lv_iload_n hx hb d_M_about_121 rfl (lv_at hl 2 rfl) ?_
            refine lv_iconst (v := 2) hx hb d_M_about_122 (by decide) ?_
            refine lv_icmp_ne (tgt := 135) hx hb d_M_about_123 rfl (fun hc => ?_) (fun hc => ?_)
            · have hw := hw.1 hc
              refine lv_iload_n hx hb d_M_about_135 rfl (lv_at hl 2 rfl) ?_
              refine lv_iconst (v := 3) hx hb d_M_about_136 (by decide) ?_
              refine lv_icmp_ne (tgt := 164) hx hb d_M_about_137 rfl (fun hc => ?_) (fun hc => ?_)
              · have hw := hw.1 hc
                refine lv_iload_n hx hb d_M_about_164 rfl (lv_at hl 2 rfl) ?_
                refine lv_iconst (v := 4) hx hb d_M_about_165 (by decide) ?_
                refine lv_icmp_ne (tgt := 178) hx hb d_M_about_166 rfl (fun hc => ?_) (fun hc => ?_)
                · have hw := hw.1 hc
                  refine lv_iload_n hx hb d_M_about_178 rfl (lv_at hl 3 rfl) ?_
                  exact kr_i hx hb hr hV hK hX hAe hw d_M_about_179
                · have hw := hw.2 hc
                  refine lv_aload_n hx hb d_M_about_169 rfl (lv_at hl 0 rfl) ?_
                  refine kg_M_M_until hx hb hG hown hK hV d_M_about_170 ?_
                  refine lv_iload_n hx hb d_M_about_173 rfl (lv_at hl 1 rfl) ?_
                  refine kl_34 hx hb hK hV hw.1 d_M_about_174 ?_
                  have hw := hw.2
                  refine lv_goto (tgt := 179) hx hb d_M_about_175 rfl ?_
                  exact kr_i hx hb hr hV hK hX hAe hw d_M_about_179
              · have hw := hw.2 hc
                refine lv_aload_n hx hb d_M_about_140 rfl (lv_at hl 0 rfl) ?_
                refine kg_M_M_state hx hb hG hown hK hV d_M_about_141 ?_
                refine lv_iload_n hx hb d_M_about_144 rfl (lv_at hl 1 rfl) ?_
                refine kl_26 hx hb hK hV hw.1 d_M_about_145 ?_
                have hw := hw.2
                refine lv_bipush (v := 6) hx hb d_M_about_146 (by decide) ?_
                refine lv_icmp_ne (tgt := 160) hx hb d_M_about_148 rfl (fun hc => ?_) (fun hc => ?_)
                · have hw := hw.1 hc
                  refine lv_iconst (v := 0) hx hb d_M_about_160 (by decide) ?_
                  refine lv_goto (tgt := 179) hx hb d_M_about_161 rfl ?_
                  exact kr_i hx hb hr hV hK hX hAe hw d_M_about_179
                · have hw := hw.2 hc
                  refine lv_aload_n hx hb d_M_about_151 rfl (lv_at hl 0 rfl) ?_
                  refine kg_M_M_codes hx hb hG hown hK hV d_M_about_152 ?_
                  refine lv_iload_n hx hb d_M_about_155 rfl (lv_at hl 1 rfl) ?_
                  refine kl_33 hx hb hK hV hw.1 d_M_about_156 ?_
                  have hw := hw.2
                  refine lv_goto (tgt := 179) hx hb d_M_about_157 rfl ?_
                  exact kr_i hx hb hr hV hK hX hAe hw d_M_about_179
            · have hw := hw.2 hc
              refine lv_aload_n hx hb d_M_about_126 rfl (lv_at hl 0 rfl) ?_
              refine kg_M_M_parent hx hb hG hown hK hV d_M_about_127 ?_
              refine lv_iload_n hx hb d_M_about_130 rfl (lv_at hl 1 rfl) ?_
              refine kl_32 hx hb hK hV hw.1 d_M_about_131 ?_
              have hw := hw.2
              refine lv_goto (tgt := 179) hx hb d_M_about_132 rfl ?_
              exact kr_i hx hb hr hV hK hX hAe hw d_M_about_179
          · have hw := hw.2 hc
            refine lv_aload_n hx hb d_M_about_112 rfl (lv_at hl 0 rfl) ?_
            refine kg_M_M_size hx hb hG hown hK hV d_M_about_113 ?_
            refine lv_iload_n hx hb d_M_about_116 rfl (lv_at hl 1 rfl) ?_
            refine kl_29 hx hb hK hV hw.1 d_M_about_117 ?_
            have hw := hw.2
            refine lv_goto (tgt := 179) hx hb d_M_about_118 rfl ?_
            exact kr_i hx hb hr hV hK hX hAe hw d_M_about_179
        · have hw := hw.2 hc
          refine lv_aload_n hx hb d_M_about_98 rfl (lv_at hl 0 rfl) ?_
          refine kg_M_M_place hx hb hG hown hK hV d_M_about_99 ?_
          refine lv_iload_n hx hb d_M_about_102 rfl (lv_at hl 1 rfl) ?_
          refine kl_30 hx hb hK hV hw.1 d_M_about_103 ?_
          have hw := hw.2
          refine lv_goto (tgt := 179) hx hb d_M_about_104 rfl ?_
          exact kr_i hx hb hr hV hK hX hAe hw d_M_about_179
      · have hw := hw.2 hc
        refine lv_aload_n hx hb d_M_about_62 rfl (lv_at hl 0 rfl) ?_
        refine kg_M_M_descriptors hx hb hG hown hK hV d_M_about_63 ?_
        refine lv_bipush (v := 8) hx hb d_M_about_66 (by decide) ?_
        refine lv_iload_n hx hb d_M_about_68 rfl (lv_at hl 1 rfl) ?_
        refine lv_imul hx hb d_M_about_69 ?_
        refine lv_iload hx hb d_M_about_70 (lv_at hl 4 rfl) ?_
        refine lv_iadd hx hb d_M_about_72 ?_
        refine kl_31 hx hb hK hV hw.1 d_M_about_73 ?_
        have hw := hw.2
        refine lv_if_eq (tgt := 86) hx hb d_M_about_74 rfl (fun hc => ?_) (fun hc => ?_)
        · have hw := hw.1 hc
          refine lv_iload_n hx hb d_M_about_86 rfl (lv_at hl 3 rfl) ?_
          refine lv_istore_n (lv' := [(3, .int v3), (0, .ref (ea E 20 0)), (1, .int x1), (2, .int x2), (4, .int v4)]) hx hb d_M_about_87 rfl hl (by decide) rfl (fun ls hl => ?_)
          obtain ⟨y1, ey1⟩ : ∃ z : Int32, z = v4 + (1 : Int32) := ⟨_, rfl⟩
          have hw := hw y1 ey1
          refine lv_iinc (k := 4) (v := y1) (lv' := [(4, .int y1), (3, .int v3), (0, .ref (ea E 20 0)), (1, .int x1), (2, .int x2)]) hx hb d_M_about_88 hl rfl (by rw [ey1]; rfl) (by decide) rfl (fun ls hl => ?_)
          refine lv_goto (tgt := 55) hx hb d_M_about_91 rfl ?_
          exact ih _ _ _ s0 v3 y1 (lv_sub hl [2, 3, 4, 1, 0] rfl) hV hw
        · have hw := hw.2 hc
          refine lv_iload_n hx hb d_M_about_77 rfl (lv_at hl 3 rfl) ?_
          refine lv_iconst (v := 1) hx hb d_M_about_78 (by decide) ?_
          refine lv_iload hx hb d_M_about_79 (lv_at hl 4 rfl) ?_
          refine lv_ishl hx hb d_M_about_81 ?_
          refine lv_ior hx hb d_M_about_82 ?_
          refine lv_goto (tgt := 87) hx hb d_M_about_83 rfl ?_
          refine lv_topi (fun y2 ey2 => ?_)
          have hw := hw y2 ey2
          refine lv_istore_n (lv' := [(3, .int y2), (0, .ref (ea E 20 0)), (1, .int x1), (2, .int x2), (4, .int v4)]) hx hb d_M_about_87 rfl hl (by decide) rfl (fun ls hl => ?_)
          obtain ⟨y3, ey3⟩ : ∃ z : Int32, z = v4 + (1 : Int32) := ⟨_, rfl⟩
          have hw := hw y3 ey3
          refine lv_iinc (k := 4) (v := y3) (lv' := [(4, .int y3), (3, .int y2), (0, .ref (ea E 20 0)), (1, .int x1), (2, .int x2)]) hx hb d_M_about_88 hl rfl (by rw [ey3]; rfl) (by decide) rfl (fun ls hl => ?_)
          refine lv_goto (tgt := 55) hx hb d_M_about_91 rfl ?_
          exact ih _ _ _ s0 y2 y3 (lv_sub hl [2, 3, 4, 1, 0] rfl) hV hw
  have J38 : ∀ (ls : Array Slot) (H : Heap) (locs : List Loc) (s0 : KS) (t0 : Int32), lv_has ls 5 [(0, .ref (ea E 20 0)), (1, .int x1), (2, .int x2)] → gV E MM A s0 s H locs → w_M_about_38 x1 x2 Φ t0 s0 → W p l e m_M_about s m ([.ref (ea E 20 0), .int x1, .int x2] : List Value).toArray below meth c H locs 0 0 (MQ below (gQi E MM A Φ) ([.ref (ea E 20 0), .int x1, .int x2] : List Value).toArray s 0 0 A) (F0 m 38 ls [.int t0, .ref (ea E 20 0)]) := by
    intro  ls H locs s0 t0 hl hV hw
    unfold w_M_about_38 at hw
    refine kp_M_M_code hx hb hG hown hK hV d_M_about_38 (fun s1 H locs es1 hV => ?_)
    have hw := hw s1 es1
    refine lv_aload_n hx hb d_M_about_41 rfl (lv_at hl 0 rfl) ?_
    refine kg_M_M_code hx hb hG hown hK hV d_M_about_42 ?_
    refine lv_if_le (tgt := 50) hx hb d_M_about_45 rfl (fun hc => ?_) (fun hc => ?_)
    · have hw := hw.1 hc
      refine lv_iconst (v := 0) hx hb d_M_about_50 (by decide) ?_
      refine lv_istore_n (lv' := [(3, .int (0 : Int32)), (0, .ref (ea E 20 0)), (1, .int x1), (2, .int x2)]) hx hb d_M_about_51 rfl hl (by decide) rfl (fun ls hl => ?_)
      refine lv_iconst (v := 0) hx hb d_M_about_52 (by decide) ?_
      refine lv_istore (lv' := [(4, .int (0 : Int32)), (3, .int (0 : Int32)), (0, .ref (ea E 20 0)), (1, .int x1), (2, .int x2)]) hx hb d_M_about_53 hl (by decide) rfl (fun ls hl => ?_)
      obtain ⟨nn, hw⟩ := hw
      exact L55 nn _ _ _ s1 (0 : Int32) (0 : Int32) (lv_sub hl [2, 3, 4, 1, 0] rfl) hV hw
    · have hw := hw.2 hc
      refine lv_iconst (v := 0) hx hb d_M_about_48 (by decide) ?_
      exact kr_i hx hb hr hV hK hX hAe hw d_M_about_49
  have J20 : ∀ (ls : Array Slot) (H : Heap) (locs : List Loc) (s0 : KS), lv_has ls 5 [(0, .ref (ea E 20 0)), (1, .int x1), (2, .int x2)] → gV E MM A s0 s H locs → w_M_about_20 x1 x2 Φ s0 → W p l e m_M_about s m ([.ref (ea E 20 0), .int x1, .int x2] : List Value).toArray below meth c H locs 0 0 (MQ below (gQi E MM A Φ) ([.ref (ea E 20 0), .int x1, .int x2] : List Value).toArray s 0 0 A) (F0 m 20 ls [.ref (ea E 20 0)]) := by
    intro  ls H locs s0 hl hV hw
    unfold w_M_about_20 at hw
    refine lv_iconst (v := 2) hx hb d_M_about_20 (by decide) ?_
    refine lv_goto (tgt := 38) hx hb d_M_about_21 rfl ?_
    exact J38 _ _ _ s0 (2 : Int32) (lv_sub hl [0, 1, 2] rfl) hV hw
  unfold w_M_about at hw
  refine lv_aload_n hx hb d_M_about_0 rfl (lv_at hl 0 rfl) ?_
  refine lv_iload_n hx hb d_M_about_1 rfl (lv_at hl 1 rfl) ?_
  refine kc_M_M_noProcess hx hb hml hown hts hV hK hX hAe (c_M_noProcess l E s0 x1 _ hw) hl.1 (Nat.le_of_ble_eq_true rfl) d_M_about_2 (Nat.le_of_ble_eq_true rfl) (Nat.le_of_ble_eq_true rfl) (fun r2 s1 H locs hw hV => ?_)
  refine lv_if_eq (tgt := 10) hx hb d_M_about_5 rfl (fun hc => ?_) (fun hc => ?_)
  · have hw := hw.1 hc
    refine lv_aload_n hx hb d_M_about_10 rfl (lv_at hl 0 rfl) ?_
    refine lv_iload_n hx hb d_M_about_11 rfl (lv_at hl 2 rfl) ?_
    refine lv_if_lt (tgt := 20) hx hb d_M_about_12 rfl (fun hc => ?_) (fun hc => ?_)
    · have hw := hw.1 hc
      exact J20 _ _ _ s1 (lv_sub hl [0, 1, 2] rfl) hV hw
    · have hw := hw.2 hc
      refine lv_iload_n hx hb d_M_about_15 rfl (lv_at hl 2 rfl) ?_
      refine lv_iconst (v := 5) hx hb d_M_about_16 (by decide) ?_
      refine lv_icmp_le (tgt := 24) hx hb d_M_about_17 rfl (fun hc => ?_) (fun hc => ?_)
      · have hw := hw.1 hc
        refine lv_aload_n hx hb d_M_about_24 rfl (lv_at hl 0 rfl) ?_
        refine kg_M_M_state hx hb hG hown hK hV d_M_about_25 ?_
        refine lv_iload_n hx hb d_M_about_28 rfl (lv_at hl 1 rfl) ?_
        refine kl_26 hx hb hK hV hw.1 d_M_about_29 ?_
        have hw := hw.2
        refine lv_if_ne (tgt := 37) hx hb d_M_about_30 rfl (fun hc => ?_) (fun hc => ?_)
        · have hw := hw.1 hc
          refine lv_iconst (v := 0) hx hb d_M_about_37 (by decide) ?_
          exact J38 _ _ _ s1 (0 : Int32) (lv_sub hl [0, 1, 2] rfl) hV hw
        · have hw := hw.2 hc
          refine lv_iconst (v := 3) hx hb d_M_about_33 (by decide) ?_
          refine lv_goto (tgt := 38) hx hb d_M_about_34 rfl ?_
          exact J38 _ _ _ s1 (3 : Int32) (lv_sub hl [0, 1, 2] rfl) hV hw
      · have hw := hw.2 hc
        exact J20 _ _ _ s1 (lv_sub hl [0, 1, 2] rfl) hV hw
  · have hw := hw.2 hc
    refine lv_iconst (v := 0) hx hb d_M_about_8 (by decide) ?_
    exact kr_i hx hb hr hV hK hX hAe hw d_M_about_9
theorem d_M_notThere_0 : decode b_M_notThere 0 = .ok (.aload_n 0, 1) := by decide +kernel
theorem d_M_notThere_1 : decode b_M_notThere 1 = .ok (.iload_n 1, 1) := by decide +kernel
theorem d_M_notThere_2 : decode b_M_notThere 2 = .ok (.ifCond .lt 18, 3) := by decide +kernel
theorem d_M_notThere_5 : decode b_M_notThere 5 = .ok (.iload_n 1, 1) := by decide +kernel
theorem d_M_notThere_6 : decode b_M_notThere 6 = .ok (.bipush 16, 2) := by decide +kernel
theorem d_M_notThere_8 : decode b_M_notThere 8 = .ok (.if_icmp .ge 12, 3) := by decide +kernel
theorem d_M_notThere_11 : decode b_M_notThere 11 = .ok (.aload_n 0, 1) := by decide +kernel
theorem d_M_notThere_12 : decode b_M_notThere 12 = .ok (.getfield 13, 3) := by decide +kernel
theorem d_M_notThere_15 : decode b_M_notThere 15 = .ok (.iload_n 1, 1) := by decide +kernel
theorem d_M_notThere_16 : decode b_M_notThere 16 = .ok (.iaload, 1) := by decide +kernel
theorem d_M_notThere_17 : decode b_M_notThere 17 = .ok (.ifCond .ne 7, 3) := by decide +kernel
theorem d_M_notThere_20 : decode b_M_notThere 20 = .ok (.iconst 1, 1) := by decide +kernel
theorem d_M_notThere_21 : decode b_M_notThere 21 = .ok (.goto 4, 3) := by decide +kernel
theorem d_M_notThere_24 : decode b_M_notThere 24 = .ok (.iconst 0, 1) := by decide +kernel
theorem d_M_notThere_25 : decode b_M_notThere 25 = .ok (.putfield 68, 3) := by decide +kernel
theorem d_M_notThere_28 : decode b_M_notThere 28 = .ok (.aload_n 0, 1) := by decide +kernel
theorem d_M_notThere_29 : decode b_M_notThere 29 = .ok (.getfield 68, 3) := by decide +kernel
theorem d_M_notThere_32 : decode b_M_notThere 32 = .ok (.ifCond .le 7, 3) := by decide +kernel
theorem d_M_notThere_35 : decode b_M_notThere 35 = .ok (.iconst 1, 1) := by decide +kernel
theorem d_M_notThere_36 : decode b_M_notThere 36 = .ok (.goto 4, 3) := by decide +kernel
theorem d_M_notThere_39 : decode b_M_notThere 39 = .ok (.iconst 0, 1) := by decide +kernel
theorem d_M_notThere_40 : decode b_M_notThere 40 = .ok (.ireturn, 1) := by decide +kernel
def w_M_notThere_25 (x1 : Int32) (Φ : Int32 → KS → Prop) (t0 : Int32) (s0 : KS) : Prop := ∀ s1 : KS, s1 = w3 s0 20 0 0 t0 → (((s1 20 0 0) ≤ 0 → Φ (0 : Int32) s1) ∧ (¬ (s1 20 0 0) ≤ 0 → Φ (1 : Int32) s1))
def w_M_notThere_20 (x1 : Int32) (Φ : Int32 → KS → Prop) (s0 : KS) : Prop := w_M_notThere_25 x1 Φ (1 : Int32) s0
def w_M_notThere (x1 : Int32) (s0 : KS) (Φ : Int32 → KS → Prop) : Prop := ((x1 < 0 → w_M_notThere_20 x1 Φ s0) ∧ (¬ x1 < 0 → (((16 : Int32) ≤ x1 → w_M_notThere_20 x1 Φ s0) ∧ (¬ (16 : Int32) ≤ x1 → vp_in x1 16 ∧ ((¬ (s0 26 0 x1.toNatClampNeg) = 0 → w_M_notThere_25 x1 Φ (0 : Int32) s0) ∧ ((s0 26 0 x1.toNatClampNeg) = 0 → w_M_notThere_20 x1 Φ s0))))))
set_option maxHeartbeats 4000000 in
set_option maxRecDepth 100000 in
theorem c_M_notThere (l : Launch) (E : gE) (s0 : KS) (x1 : Int32) (Φ : Int32 → KS → Prop) (hw : w_M_notThere x1 s0 Φ) : gMi l y_M_notThere v_M_notThere m_M_notThere E MM [.ref (ea E 20 0), .int x1] s0 Φ := by
  intro sz
  refine Met.ofW (cc := b_M_notThere) (maxL := 2) (ret := (some .boolean)) (by decide) rfl ?_
  intro p e s m args below meth c s₁ B hml hv
  obtain ⟨rfl, hsz, hP, hK, hD, hX⟩ := hv
  have hx := B.exec
  have hb := B.bytes
  have hr := B.returns
  have hts := atoms_spec (ws := v_M_notThere) B.pre
  have hG : ∀ w ∈ gG, w.before _ s = true := fun w h => hts w (List.mem_cons_of_mem _ h)
  have hown : s.vm.findClass R_M = some m.cls := findClass_of_methodNamed B.named
  have hlocks := B.notSynchronized
  subst hsz
  obtain ⟨A, hAe⟩ : ∃ A, A = gA E MM s.heap.size := ⟨_, rfl⟩
  rw [← hAe] at hD hX ⊢
  have hV : gV E MM A s0 s s.heap [] := ⟨hP, hD, va_S.rf⟩
  have hl := lv_entry ([.ref (ea E 20 0), .int x1] : List Value) (n := 2) (Nat.le_of_ble_eq_true rfl)
  rw [lg_entry_eq]
  generalize (lg_sl ([.ref (ea E 20 0), .int x1] : List Value) ++ List.replicate (2 - (lg_sl ([.ref (ea E 20 0), .int x1] : List Value)).length) Slot.unset).toArray = ls at hl ⊢
  have hl : lv_has ls 2 [(0, .ref (ea E 20 0)), (1, .int x1)] := hl
  have J25 : ∀ (ls : Array Slot) (H : Heap) (locs : List Loc) (s0 : KS) (t0 : Int32), lv_has ls 2 [(0, .ref (ea E 20 0))] → gV E MM A s0 s H locs → w_M_notThere_25 x1 Φ t0 s0 → W p l e m_M_notThere s m ([.ref (ea E 20 0), .int x1] : List Value).toArray below meth c H locs 0 0 (MQ below (gQi E MM A Φ) ([.ref (ea E 20 0), .int x1] : List Value).toArray s 0 0 A) (F0 m 25 ls [.int t0, .ref (ea E 20 0)]) := by
    intro  ls H locs s0 t0 hl hV hw
    unfold w_M_notThere_25 at hw
    refine kp_M_M_code hx hb hG hown hK hV d_M_notThere_25 (fun s1 H locs es1 hV => ?_)
    have hw := hw s1 es1
    refine lv_aload_n hx hb d_M_notThere_28 rfl (lv_at hl 0 rfl) ?_
    refine kg_M_M_code hx hb hG hown hK hV d_M_notThere_29 ?_
    refine lv_if_le (tgt := 39) hx hb d_M_notThere_32 rfl (fun hc => ?_) (fun hc => ?_)
    · have hw := hw.1 hc
      refine lv_iconst (v := 0) hx hb d_M_notThere_39 (by decide) ?_
      exact kr_z hx hb hr hV hK hX hAe (by decide) hw d_M_notThere_40
    · have hw := hw.2 hc
      refine lv_iconst (v := 1) hx hb d_M_notThere_35 (by decide) ?_
      refine lv_goto (tgt := 40) hx hb d_M_notThere_36 rfl ?_
      exact kr_z hx hb hr hV hK hX hAe (by decide) hw d_M_notThere_40
  have J20 : ∀ (ls : Array Slot) (H : Heap) (locs : List Loc) (s0 : KS), lv_has ls 2 [(0, .ref (ea E 20 0))] → gV E MM A s0 s H locs → w_M_notThere_20 x1 Φ s0 → W p l e m_M_notThere s m ([.ref (ea E 20 0), .int x1] : List Value).toArray below meth c H locs 0 0 (MQ below (gQi E MM A Φ) ([.ref (ea E 20 0), .int x1] : List Value).toArray s 0 0 A) (F0 m 20 ls [.ref (ea E 20 0)]) := by
    intro  ls H locs s0 hl hV hw
    unfold w_M_notThere_20 at hw
    refine lv_iconst (v := 1) hx hb d_M_notThere_20 (by decide) ?_
    refine lv_goto (tgt := 25) hx hb d_M_notThere_21 rfl ?_
    exact J25 _ _ _ s0 (1 : Int32) (lv_sub hl [0] rfl) hV hw
  unfold w_M_notThere at hw
  refine lv_aload_n hx hb d_M_notThere_0 rfl (lv_at hl 0 rfl) ?_
  refine lv_iload_n hx hb d_M_notThere_1 rfl (lv_at hl 1 rfl) ?_
  refine lv_if_lt (tgt := 20) hx hb d_M_notThere_2 rfl (fun hc => ?_) (fun hc => ?_)
  · have hw := hw.1 hc
    exact J20 _ _ _ s0 (lv_sub hl [0] rfl) hV hw
  · have hw := hw.2 hc
    refine lv_iload_n hx hb d_M_notThere_5 rfl (lv_at hl 1 rfl) ?_
    refine lv_bipush (v := 16) hx hb d_M_notThere_6 (by decide) ?_
    refine lv_icmp_ge (tgt := 20) hx hb d_M_notThere_8 rfl (fun hc => ?_) (fun hc => ?_)
    · have hw := hw.1 hc
      exact J20 _ _ _ s0 (lv_sub hl [0] rfl) hV hw
    · have hw := hw.2 hc
      refine lv_aload_n hx hb d_M_notThere_11 rfl (lv_at hl 0 rfl) ?_
      refine kg_M_M_state hx hb hG hown hK hV d_M_notThere_12 ?_
      refine lv_iload_n hx hb d_M_notThere_15 rfl (lv_at hl 1 rfl) ?_
      refine kl_26 hx hb hK hV hw.1 d_M_notThere_16 ?_
      have hw := hw.2
      refine lv_if_ne (tgt := 24) hx hb d_M_notThere_17 rfl (fun hc => ?_) (fun hc => ?_)
      · have hw := hw.1 hc
        refine lv_iconst (v := 0) hx hb d_M_notThere_24 (by decide) ?_
        exact J25 _ _ _ s0 (0 : Int32) (lv_sub hl [0] rfl) hV hw
      · have hw := hw.2 hc
        exact J20 _ _ _ s0 (lv_sub hl [0] rfl) hV hw
theorem d_M_stack_0 : decode b_M_stack 0 = .ok (.aload_n 0, 1) := by decide +kernel
theorem d_M_stack_1 : decode b_M_stack 1 = .ok (.iload_n 1, 1) := by decide +kernel
theorem d_M_stack_2 : decode b_M_stack 2 = .ok (.invokevirtual 218, 3) := by decide +kernel
theorem d_M_stack_5 : decode b_M_stack 5 = .ok (.ifCond .eq 5, 3) := by decide +kernel
theorem d_M_stack_8 : decode b_M_stack 8 = .ok (.iconst 0, 1) := by decide +kernel
theorem d_M_stack_9 : decode b_M_stack 9 = .ok (.ireturn, 1) := by decide +kernel
theorem d_M_stack_10 : decode b_M_stack 10 = .ok (.aload_n 0, 1) := by decide +kernel
theorem d_M_stack_11 : decode b_M_stack 11 = .ok (.iload_n 2, 1) := by decide +kernel
theorem d_M_stack_12 : decode b_M_stack 12 = .ok (.ifCond .lt 13, 3) := by decide +kernel
theorem d_M_stack_15 : decode b_M_stack 15 = .ok (.iload_n 2, 1) := by decide +kernel
theorem d_M_stack_16 : decode b_M_stack 16 = .ok (.aload_n 0, 1) := by decide +kernel
theorem d_M_stack_17 : decode b_M_stack 17 = .ok (.getfield 22, 3) := by decide +kernel
theorem d_M_stack_20 : decode b_M_stack 20 = .ok (.iload_n 1, 1) := by decide +kernel
theorem d_M_stack_21 : decode b_M_stack 21 = .ok (.iaload, 1) := by decide +kernel
theorem d_M_stack_22 : decode b_M_stack 22 = .ok (.if_icmp .lt 7, 3) := by decide +kernel
theorem d_M_stack_25 : decode b_M_stack 25 = .ok (.iconst 1, 1) := by decide +kernel
theorem d_M_stack_26 : decode b_M_stack 26 = .ok (.goto 4, 3) := by decide +kernel
theorem d_M_stack_29 : decode b_M_stack 29 = .ok (.iconst 0, 1) := by decide +kernel
theorem d_M_stack_30 : decode b_M_stack 30 = .ok (.putfield 68, 3) := by decide +kernel
theorem d_M_stack_33 : decode b_M_stack 33 = .ok (.aload_n 0, 1) := by decide +kernel
theorem d_M_stack_34 : decode b_M_stack 34 = .ok (.getfield 68, 3) := by decide +kernel
theorem d_M_stack_37 : decode b_M_stack 37 = .ok (.ifCond .le 7, 3) := by decide +kernel
theorem d_M_stack_40 : decode b_M_stack 40 = .ok (.iconst 0, 1) := by decide +kernel
theorem d_M_stack_41 : decode b_M_stack 41 = .ok (.goto 9, 3) := by decide +kernel
theorem d_M_stack_44 : decode b_M_stack 44 = .ok (.aload_n 0, 1) := by decide +kernel
theorem d_M_stack_45 : decode b_M_stack 45 = .ok (.iload_n 1, 1) := by decide +kernel
theorem d_M_stack_46 : decode b_M_stack 46 = .ok (.iload_n 2, 1) := by decide +kernel
theorem d_M_stack_47 : decode b_M_stack 47 = .ok (.invokevirtual 112, 3) := by decide +kernel
theorem d_M_stack_50 : decode b_M_stack 50 = .ok (.ireturn, 1) := by decide +kernel
def w_M_stack_30 (x1 : Int32) (x2 : Int32) (Φ : Int32 → KS → Prop) (t0 : Int32) (s0 : KS) : Prop := ∀ s1 : KS, s1 = w3 s0 20 0 0 t0 → (((s1 20 0 0) ≤ 0 → w_M_top x1 x2 s1 (fun r3 s2 => Φ r3 s2)) ∧ (¬ (s1 20 0 0) ≤ 0 → Φ (0 : Int32) s1))
def w_M_stack_25 (x1 : Int32) (x2 : Int32) (Φ : Int32 → KS → Prop) (s0 : KS) : Prop := w_M_stack_30 x1 x2 Φ (1 : Int32) s0
def w_M_stack (x1 : Int32) (x2 : Int32) (s0 : KS) (Φ : Int32 → KS → Prop) : Prop := w_M_notThere x1 s0 (fun r2 s1 => ((r2 = 0 → ((x2 < 0 → w_M_stack_25 x1 x2 Φ s1) ∧ (¬ x2 < 0 → vp_in x1 16 ∧ ((x2 < (s1 29 0 x1.toNatClampNeg) → w_M_stack_30 x1 x2 Φ (0 : Int32) s1) ∧ (¬ x2 < (s1 29 0 x1.toNatClampNeg) → w_M_stack_25 x1 x2 Φ s1))))) ∧ (¬ r2 = 0 → Φ (0 : Int32) s1)))
set_option maxHeartbeats 4000000 in
set_option maxRecDepth 100000 in
theorem c_M_stack (l : Launch) (E : gE) (s0 : KS) (x1 : Int32) (x2 : Int32) (Φ : Int32 → KS → Prop) (hw : w_M_stack x1 x2 s0 Φ) : gMi l y_M_stack v_M_stack m_M_stack E MM [.ref (ea E 20 0), .int x1, .int x2] s0 Φ := by
  intro sz
  refine Met.ofW (cc := b_M_stack) (maxL := 3) (ret := (some .int)) (by decide) rfl ?_
  intro p e s m args below meth c s₁ B hml hv
  obtain ⟨rfl, hsz, hP, hK, hD, hX⟩ := hv
  have hx := B.exec
  have hb := B.bytes
  have hr := B.returns
  have hts := atoms_spec (ws := v_M_stack) B.pre
  have hG : ∀ w ∈ gG, w.before _ s = true := fun w h => hts w (List.mem_cons_of_mem _ h)
  have hown : s.vm.findClass R_M = some m.cls := findClass_of_methodNamed B.named
  have hlocks := B.notSynchronized
  subst hsz
  obtain ⟨A, hAe⟩ : ∃ A, A = gA E MM s.heap.size := ⟨_, rfl⟩
  rw [← hAe] at hD hX ⊢
  have hV : gV E MM A s0 s s.heap [] := ⟨hP, hD, va_S.rf⟩
  have hl := lv_entry ([.ref (ea E 20 0), .int x1, .int x2] : List Value) (n := 3) (Nat.le_of_ble_eq_true rfl)
  rw [lg_entry_eq]
  generalize (lg_sl ([.ref (ea E 20 0), .int x1, .int x2] : List Value) ++ List.replicate (3 - (lg_sl ([.ref (ea E 20 0), .int x1, .int x2] : List Value)).length) Slot.unset).toArray = ls at hl ⊢
  have hl : lv_has ls 3 [(0, .ref (ea E 20 0)), (1, .int x1), (2, .int x2)] := hl
  have J30 : ∀ (ls : Array Slot) (H : Heap) (locs : List Loc) (s0 : KS) (t0 : Int32), lv_has ls 3 [(0, .ref (ea E 20 0)), (1, .int x1), (2, .int x2)] → gV E MM A s0 s H locs → w_M_stack_30 x1 x2 Φ t0 s0 → W p l e m_M_stack s m ([.ref (ea E 20 0), .int x1, .int x2] : List Value).toArray below meth c H locs 0 0 (MQ below (gQi E MM A Φ) ([.ref (ea E 20 0), .int x1, .int x2] : List Value).toArray s 0 0 A) (F0 m 30 ls [.int t0, .ref (ea E 20 0)]) := by
    intro  ls H locs s0 t0 hl hV hw
    unfold w_M_stack_30 at hw
    refine kp_M_M_code hx hb hG hown hK hV d_M_stack_30 (fun s1 H locs es1 hV => ?_)
    have hw := hw s1 es1
    refine lv_aload_n hx hb d_M_stack_33 rfl (lv_at hl 0 rfl) ?_
    refine kg_M_M_code hx hb hG hown hK hV d_M_stack_34 ?_
    refine lv_if_le (tgt := 44) hx hb d_M_stack_37 rfl (fun hc => ?_) (fun hc => ?_)
    · have hw := hw.1 hc
      refine lv_aload_n hx hb d_M_stack_44 rfl (lv_at hl 0 rfl) ?_
      refine lv_iload_n hx hb d_M_stack_45 rfl (lv_at hl 1 rfl) ?_
      refine lv_iload_n hx hb d_M_stack_46 rfl (lv_at hl 2 rfl) ?_
      refine kc_M_M_top hx hb hml hown hts hV hK hX hAe (c_M_top l E s1 x1 x2 _ hw) hl.1 (Nat.le_of_ble_eq_true rfl) d_M_stack_47 (Nat.le_of_ble_eq_true rfl) (Nat.le_of_ble_eq_true rfl) (fun r3 s2 H locs hw hV => ?_)
      exact kr_i hx hb hr hV hK hX hAe hw d_M_stack_50
    · have hw := hw.2 hc
      refine lv_iconst (v := 0) hx hb d_M_stack_40 (by decide) ?_
      refine lv_goto (tgt := 50) hx hb d_M_stack_41 rfl ?_
      exact kr_i hx hb hr hV hK hX hAe hw d_M_stack_50
  have J25 : ∀ (ls : Array Slot) (H : Heap) (locs : List Loc) (s0 : KS), lv_has ls 3 [(0, .ref (ea E 20 0)), (1, .int x1), (2, .int x2)] → gV E MM A s0 s H locs → w_M_stack_25 x1 x2 Φ s0 → W p l e m_M_stack s m ([.ref (ea E 20 0), .int x1, .int x2] : List Value).toArray below meth c H locs 0 0 (MQ below (gQi E MM A Φ) ([.ref (ea E 20 0), .int x1, .int x2] : List Value).toArray s 0 0 A) (F0 m 25 ls [.ref (ea E 20 0)]) := by
    intro  ls H locs s0 hl hV hw
    unfold w_M_stack_25 at hw
    refine lv_iconst (v := 1) hx hb d_M_stack_25 (by decide) ?_
    refine lv_goto (tgt := 30) hx hb d_M_stack_26 rfl ?_
    exact J30 _ _ _ s0 (1 : Int32) (lv_sub hl [0, 1, 2] rfl) hV hw
  unfold w_M_stack at hw
  refine lv_aload_n hx hb d_M_stack_0 rfl (lv_at hl 0 rfl) ?_
  refine lv_iload_n hx hb d_M_stack_1 rfl (lv_at hl 1 rfl) ?_
  refine kc_M_M_notThere hx hb hml hown hts hV hK hX hAe (c_M_notThere l E s0 x1 _ hw) hl.1 (Nat.le_of_ble_eq_true rfl) d_M_stack_2 (Nat.le_of_ble_eq_true rfl) (Nat.le_of_ble_eq_true rfl) (fun r2 s1 H locs hw hV => ?_)
  refine lv_if_eq (tgt := 10) hx hb d_M_stack_5 rfl (fun hc => ?_) (fun hc => ?_)
  · have hw := hw.1 hc
    refine lv_aload_n hx hb d_M_stack_10 rfl (lv_at hl 0 rfl) ?_
    refine lv_iload_n hx hb d_M_stack_11 rfl (lv_at hl 2 rfl) ?_
    refine lv_if_lt (tgt := 25) hx hb d_M_stack_12 rfl (fun hc => ?_) (fun hc => ?_)
    · have hw := hw.1 hc
      exact J25 _ _ _ s1 (lv_sub hl [0, 1, 2] rfl) hV hw
    · have hw := hw.2 hc
      refine lv_iload_n hx hb d_M_stack_15 rfl (lv_at hl 2 rfl) ?_
      refine lv_aload_n hx hb d_M_stack_16 rfl (lv_at hl 0 rfl) ?_
      refine kg_M_M_size hx hb hG hown hK hV d_M_stack_17 ?_
      refine lv_iload_n hx hb d_M_stack_20 rfl (lv_at hl 1 rfl) ?_
      refine kl_29 hx hb hK hV hw.1 d_M_stack_21 ?_
      have hw := hw.2
      refine lv_icmp_lt (tgt := 29) hx hb d_M_stack_22 rfl (fun hc => ?_) (fun hc => ?_)
      · have hw := hw.1 hc
        refine lv_iconst (v := 0) hx hb d_M_stack_29 (by decide) ?_
        exact J30 _ _ _ s1 (0 : Int32) (lv_sub hl [0, 1, 2] rfl) hV hw
      · have hw := hw.2 hc
        exact J25 _ _ _ s1 (lv_sub hl [0, 1, 2] rfl) hV hw
  · have hw := hw.2 hc
    refine lv_iconst (v := 0) hx hb d_M_stack_8 (by decide) ?_
    exact kr_i hx hb hr hV hK hX hAe hw d_M_stack_9
theorem d_M_memory_0 : decode b_M_memory 0 = .ok (.aload_n 0, 1) := by decide +kernel
theorem d_M_memory_1 : decode b_M_memory 1 = .ok (.iload_n 1, 1) := by decide +kernel
theorem d_M_memory_2 : decode b_M_memory 2 = .ok (.invokevirtual 218, 3) := by decide +kernel
theorem d_M_memory_5 : decode b_M_memory 5 = .ok (.ifCond .eq 5, 3) := by decide +kernel
theorem d_M_memory_8 : decode b_M_memory 8 = .ok (.iconst 0, 1) := by decide +kernel
theorem d_M_memory_9 : decode b_M_memory 9 = .ok (.ireturn, 1) := by decide +kernel
theorem d_M_memory_10 : decode b_M_memory 10 = .ok (.aload_n 0, 1) := by decide +kernel
theorem d_M_memory_11 : decode b_M_memory 11 = .ok (.iload_n 2, 1) := by decide +kernel
theorem d_M_memory_12 : decode b_M_memory 12 = .ok (.invokestatic 125, 3) := by decide +kernel
theorem d_M_memory_15 : decode b_M_memory 15 = .ok (.ifCond .eq 7, 3) := by decide +kernel
theorem d_M_memory_18 : decode b_M_memory 18 = .ok (.iconst 0, 1) := by decide +kernel
theorem d_M_memory_19 : decode b_M_memory 19 = .ok (.goto 4, 3) := by decide +kernel
theorem d_M_memory_22 : decode b_M_memory 22 = .ok (.iconst 1, 1) := by decide +kernel
theorem d_M_memory_23 : decode b_M_memory 23 = .ok (.putfield 68, 3) := by decide +kernel
theorem d_M_memory_26 : decode b_M_memory 26 = .ok (.aload_n 0, 1) := by decide +kernel
theorem d_M_memory_27 : decode b_M_memory 27 = .ok (.getfield 68, 3) := by decide +kernel
theorem d_M_memory_30 : decode b_M_memory 30 = .ok (.ifCond .le 7, 3) := by decide +kernel
theorem d_M_memory_33 : decode b_M_memory 33 = .ok (.iconst 0, 1) := by decide +kernel
theorem d_M_memory_34 : decode b_M_memory 34 = .ok (.goto 15, 3) := by decide +kernel
theorem d_M_memory_37 : decode b_M_memory 37 = .ok (.aload_n 0, 1) := by decide +kernel
theorem d_M_memory_38 : decode b_M_memory 38 = .ok (.getfield 16, 3) := by decide +kernel
theorem d_M_memory_41 : decode b_M_memory 41 = .ok (.sipush 128, 3) := by decide +kernel
theorem d_M_memory_44 : decode b_M_memory 44 = .ok (.iload_n 1, 1) := by decide +kernel
theorem d_M_memory_45 : decode b_M_memory 45 = .ok (.imul, 1) := by decide +kernel
theorem d_M_memory_46 : decode b_M_memory 46 = .ok (.iload_n 2, 1) := by decide +kernel
theorem d_M_memory_47 : decode b_M_memory 47 = .ok (.iadd, 1) := by decide +kernel
theorem d_M_memory_48 : decode b_M_memory 48 = .ok (.iaload, 1) := by decide +kernel
theorem d_M_memory_49 : decode b_M_memory 49 = .ok (.ireturn, 1) := by decide +kernel
def w_M_memory_23 (x1 : Int32) (x2 : Int32) (Φ : Int32 → KS → Prop) (t0 : Int32) (s0 : KS) : Prop := ∀ s1 : KS, s1 = w3 s0 20 0 0 t0 → (((s1 20 0 0) ≤ 0 → vp_in (((128 : Int32) * x1) + x2) 2048 ∧ Φ (s1 27 0 (((128 : Int32) * x1) + x2).toNatClampNeg) s1) ∧ (¬ (s1 20 0 0) ≤ 0 → Φ (0 : Int32) s1))
def w_M_memory (x1 : Int32) (x2 : Int32) (s0 : KS) (Φ : Int32 → KS → Prop) : Prop := w_M_notThere x1 s0 (fun r2 s1 => ((r2 = 0 → w_M_isWord x2 s1 (fun r4 s3 => ((r4 = 0 → w_M_memory_23 x1 x2 Φ (1 : Int32) s3) ∧ (¬ r4 = 0 → w_M_memory_23 x1 x2 Φ (0 : Int32) s3)))) ∧ (¬ r2 = 0 → Φ (0 : Int32) s1)))
set_option maxHeartbeats 4000000 in
set_option maxRecDepth 100000 in
theorem c_M_memory (l : Launch) (E : gE) (s0 : KS) (x1 : Int32) (x2 : Int32) (Φ : Int32 → KS → Prop) (hw : w_M_memory x1 x2 s0 Φ) : gMi l y_M_memory v_M_memory m_M_memory E MM [.ref (ea E 20 0), .int x1, .int x2] s0 Φ := by
  intro sz
  refine Met.ofW (cc := b_M_memory) (maxL := 3) (ret := (some .int)) (by decide) rfl ?_
  intro p e s m args below meth c s₁ B hml hv
  obtain ⟨rfl, hsz, hP, hK, hD, hX⟩ := hv
  have hx := B.exec
  have hb := B.bytes
  have hr := B.returns
  have hts := atoms_spec (ws := v_M_memory) B.pre
  have hG : ∀ w ∈ gG, w.before _ s = true := fun w h => hts w (List.mem_cons_of_mem _ h)
  have hown : s.vm.findClass R_M = some m.cls := findClass_of_methodNamed B.named
  have hlocks := B.notSynchronized
  subst hsz
  obtain ⟨A, hAe⟩ : ∃ A, A = gA E MM s.heap.size := ⟨_, rfl⟩
  rw [← hAe] at hD hX ⊢
  have hV : gV E MM A s0 s s.heap [] := ⟨hP, hD, va_S.rf⟩
  have hl := lv_entry ([.ref (ea E 20 0), .int x1, .int x2] : List Value) (n := 3) (Nat.le_of_ble_eq_true rfl)
  rw [lg_entry_eq]
  generalize (lg_sl ([.ref (ea E 20 0), .int x1, .int x2] : List Value) ++ List.replicate (3 - (lg_sl ([.ref (ea E 20 0), .int x1, .int x2] : List Value)).length) Slot.unset).toArray = ls at hl ⊢
  have hl : lv_has ls 3 [(0, .ref (ea E 20 0)), (1, .int x1), (2, .int x2)] := hl
  have J23 : ∀ (ls : Array Slot) (H : Heap) (locs : List Loc) (s0 : KS) (t0 : Int32), lv_has ls 3 [(0, .ref (ea E 20 0)), (1, .int x1), (2, .int x2)] → gV E MM A s0 s H locs → w_M_memory_23 x1 x2 Φ t0 s0 → W p l e m_M_memory s m ([.ref (ea E 20 0), .int x1, .int x2] : List Value).toArray below meth c H locs 0 0 (MQ below (gQi E MM A Φ) ([.ref (ea E 20 0), .int x1, .int x2] : List Value).toArray s 0 0 A) (F0 m 23 ls [.int t0, .ref (ea E 20 0)]) := by
    intro  ls H locs s0 t0 hl hV hw
    unfold w_M_memory_23 at hw
    refine kp_M_M_code hx hb hG hown hK hV d_M_memory_23 (fun s1 H locs es1 hV => ?_)
    have hw := hw s1 es1
    refine lv_aload_n hx hb d_M_memory_26 rfl (lv_at hl 0 rfl) ?_
    refine kg_M_M_code hx hb hG hown hK hV d_M_memory_27 ?_
    refine lv_if_le (tgt := 37) hx hb d_M_memory_30 rfl (fun hc => ?_) (fun hc => ?_)
    · have hw := hw.1 hc
      refine lv_aload_n hx hb d_M_memory_37 rfl (lv_at hl 0 rfl) ?_
      refine kg_M_M_memory hx hb hG hown hK hV d_M_memory_38 ?_
      refine lv_sipush (v := 128) hx hb d_M_memory_41 (by decide) ?_
      refine lv_iload_n hx hb d_M_memory_44 rfl (lv_at hl 1 rfl) ?_
      refine lv_imul hx hb d_M_memory_45 ?_
      refine lv_iload_n hx hb d_M_memory_46 rfl (lv_at hl 2 rfl) ?_
      refine lv_iadd hx hb d_M_memory_47 ?_
      refine kl_27 hx hb hK hV hw.1 d_M_memory_48 ?_
      have hw := hw.2
      exact kr_i hx hb hr hV hK hX hAe hw d_M_memory_49
    · have hw := hw.2 hc
      refine lv_iconst (v := 0) hx hb d_M_memory_33 (by decide) ?_
      refine lv_goto (tgt := 49) hx hb d_M_memory_34 rfl ?_
      exact kr_i hx hb hr hV hK hX hAe hw d_M_memory_49
  unfold w_M_memory at hw
  refine lv_aload_n hx hb d_M_memory_0 rfl (lv_at hl 0 rfl) ?_
  refine lv_iload_n hx hb d_M_memory_1 rfl (lv_at hl 1 rfl) ?_
  refine kc_M_M_notThere hx hb hml hown hts hV hK hX hAe (c_M_notThere l E s0 x1 _ hw) hl.1 (Nat.le_of_ble_eq_true rfl) d_M_memory_2 (Nat.le_of_ble_eq_true rfl) (Nat.le_of_ble_eq_true rfl) (fun r2 s1 H locs hw hV => ?_)
  refine lv_if_eq (tgt := 10) hx hb d_M_memory_5 rfl (fun hc => ?_) (fun hc => ?_)
  · have hw := hw.1 hc
    refine lv_aload_n hx hb d_M_memory_10 rfl (lv_at hl 0 rfl) ?_
    refine lv_iload_n hx hb d_M_memory_11 rfl (lv_at hl 2 rfl) ?_
    refine kc_M_M_isWord hx hb hml hown hts hV hK hX hAe (c_M_isWord l E s1 x2 _ hw) hl.1 (Nat.le_of_ble_eq_true rfl) d_M_memory_12 (Nat.le_of_ble_eq_true rfl) (Nat.le_of_ble_eq_true rfl) (fun r4 s3 H locs hw hV => ?_)
    refine lv_if_eq (tgt := 22) hx hb d_M_memory_15 rfl (fun hc => ?_) (fun hc => ?_)
    · have hw := hw.1 hc
      refine lv_iconst (v := 1) hx hb d_M_memory_22 (by decide) ?_
      exact J23 _ _ _ s3 (1 : Int32) (lv_sub hl [0, 1, 2] rfl) hV hw
    · have hw := hw.2 hc
      refine lv_iconst (v := 0) hx hb d_M_memory_18 (by decide) ?_
      refine lv_goto (tgt := 23) hx hb d_M_memory_19 rfl ?_
      exact J23 _ _ _ s3 (0 : Int32) (lv_sub hl [0, 1, 2] rfl) hV hw
  · have hw := hw.2 hc
    refine lv_iconst (v := 0) hx hb d_M_memory_8 (by decide) ?_
    exact kr_i hx hb hr hV hK hX hAe hw d_M_memory_9
theorem d_M_queue_0 : decode b_M_queue 0 = .ok (.aload_n 0, 1) := by decide +kernel
theorem d_M_queue_1 : decode b_M_queue 1 = .ok (.iload_n 1, 1) := by decide +kernel
theorem d_M_queue_2 : decode b_M_queue 2 = .ok (.ifCond .ge 7, 3) := by decide +kernel
theorem d_M_queue_5 : decode b_M_queue 5 = .ok (.iconst 1, 1) := by decide +kernel
theorem d_M_queue_6 : decode b_M_queue 6 = .ok (.goto 4, 3) := by decide +kernel
theorem d_M_queue_9 : decode b_M_queue 9 = .ok (.iconst 0, 1) := by decide +kernel
theorem d_M_queue_10 : decode b_M_queue 10 = .ok (.putfield 68, 3) := by decide +kernel
theorem d_M_queue_13 : decode b_M_queue 13 = .ok (.aload_n 0, 1) := by decide +kernel
theorem d_M_queue_14 : decode b_M_queue 14 = .ok (.getfield 68, 3) := by decide +kernel
theorem d_M_queue_17 : decode b_M_queue 17 = .ok (.ifCond .le 7, 3) := by decide +kernel
theorem d_M_queue_20 : decode b_M_queue 20 = .ok (.iconst 0, 1) := by decide +kernel
theorem d_M_queue_21 : decode b_M_queue 21 = .ok (.goto 21, 3) := by decide +kernel
theorem d_M_queue_24 : decode b_M_queue 24 = .ok (.iload_n 1, 1) := by decide +kernel
theorem d_M_queue_25 : decode b_M_queue 25 = .ok (.aload_n 0, 1) := by decide +kernel
theorem d_M_queue_26 : decode b_M_queue 26 = .ok (.getfield 79, 3) := by decide +kernel
theorem d_M_queue_29 : decode b_M_queue 29 = .ok (.if_icmp .ge 12, 3) := by decide +kernel
theorem d_M_queue_32 : decode b_M_queue 32 = .ok (.aload_n 0, 1) := by decide +kernel
theorem d_M_queue_33 : decode b_M_queue 33 = .ok (.getfield 40, 3) := by decide +kernel
theorem d_M_queue_36 : decode b_M_queue 36 = .ok (.iload_n 1, 1) := by decide +kernel
theorem d_M_queue_37 : decode b_M_queue 37 = .ok (.iaload, 1) := by decide +kernel
theorem d_M_queue_38 : decode b_M_queue 38 = .ok (.goto 4, 3) := by decide +kernel
theorem d_M_queue_41 : decode b_M_queue 41 = .ok (.iconst (-1), 1) := by decide +kernel
theorem d_M_queue_42 : decode b_M_queue 42 = .ok (.ireturn, 1) := by decide +kernel
def w_M_queue_10 (x1 : Int32) (Φ : Int32 → KS → Prop) (t0 : Int32) (s0 : KS) : Prop := ∀ s1 : KS, s1 = w3 s0 20 0 0 t0 → (((s1 20 0 0) ≤ 0 → (((s1 20 0 16) ≤ x1 → Φ (-1 : Int32) s1) ∧ (¬ (s1 20 0 16) ≤ x1 → vp_in x1 16 ∧ Φ (s1 35 0 x1.toNatClampNeg) s1))) ∧ (¬ (s1 20 0 0) ≤ 0 → Φ (0 : Int32) s1))
def w_M_queue (x1 : Int32) (s0 : KS) (Φ : Int32 → KS → Prop) : Prop := ((0 ≤ x1 → w_M_queue_10 x1 Φ (0 : Int32) s0) ∧ (¬ 0 ≤ x1 → w_M_queue_10 x1 Φ (1 : Int32) s0))
set_option maxHeartbeats 4000000 in
set_option maxRecDepth 100000 in
theorem c_M_queue (l : Launch) (E : gE) (s0 : KS) (x1 : Int32) (Φ : Int32 → KS → Prop) (hw : w_M_queue x1 s0 Φ) : gMi l y_M_queue v_M_queue m_M_queue E MM [.ref (ea E 20 0), .int x1] s0 Φ := by
  intro sz
  refine Met.ofW (cc := b_M_queue) (maxL := 2) (ret := (some .int)) (by decide) rfl ?_
  intro p e s m args below meth c s₁ B hml hv
  obtain ⟨rfl, hsz, hP, hK, hD, hX⟩ := hv
  have hx := B.exec
  have hb := B.bytes
  have hr := B.returns
  have hts := atoms_spec (ws := v_M_queue) B.pre
  have hG : ∀ w ∈ gG, w.before _ s = true := fun w h => hts w (List.mem_cons_of_mem _ h)
  have hown : s.vm.findClass R_M = some m.cls := findClass_of_methodNamed B.named
  have hlocks := B.notSynchronized
  subst hsz
  obtain ⟨A, hAe⟩ : ∃ A, A = gA E MM s.heap.size := ⟨_, rfl⟩
  rw [← hAe] at hD hX ⊢
  have hV : gV E MM A s0 s s.heap [] := ⟨hP, hD, va_S.rf⟩
  have hl := lv_entry ([.ref (ea E 20 0), .int x1] : List Value) (n := 2) (Nat.le_of_ble_eq_true rfl)
  rw [lg_entry_eq]
  generalize (lg_sl ([.ref (ea E 20 0), .int x1] : List Value) ++ List.replicate (2 - (lg_sl ([.ref (ea E 20 0), .int x1] : List Value)).length) Slot.unset).toArray = ls at hl ⊢
  have hl : lv_has ls 2 [(0, .ref (ea E 20 0)), (1, .int x1)] := hl
  have J10 : ∀ (ls : Array Slot) (H : Heap) (locs : List Loc) (s0 : KS) (t0 : Int32), lv_has ls 2 [(0, .ref (ea E 20 0)), (1, .int x1)] → gV E MM A s0 s H locs → w_M_queue_10 x1 Φ t0 s0 → W p l e m_M_queue s m ([.ref (ea E 20 0), .int x1] : List Value).toArray below meth c H locs 0 0 (MQ below (gQi E MM A Φ) ([.ref (ea E 20 0), .int x1] : List Value).toArray s 0 0 A) (F0 m 10 ls [.int t0, .ref (ea E 20 0)]) := by
    intro  ls H locs s0 t0 hl hV hw
    unfold w_M_queue_10 at hw
    refine kp_M_M_code hx hb hG hown hK hV d_M_queue_10 (fun s1 H locs es1 hV => ?_)
    have hw := hw s1 es1
    refine lv_aload_n hx hb d_M_queue_13 rfl (lv_at hl 0 rfl) ?_
    refine kg_M_M_code hx hb hG hown hK hV d_M_queue_14 ?_
    refine lv_if_le (tgt := 24) hx hb d_M_queue_17 rfl (fun hc => ?_) (fun hc => ?_)
    · have hw := hw.1 hc
      refine lv_iload_n hx hb d_M_queue_24 rfl (lv_at hl 1 rfl) ?_
      refine lv_aload_n hx hb d_M_queue_25 rfl (lv_at hl 0 rfl) ?_
      refine kg_M_M_queued hx hb hG hown hK hV d_M_queue_26 ?_
      refine lv_icmp_ge (tgt := 41) hx hb d_M_queue_29 rfl (fun hc => ?_) (fun hc => ?_)
      · have hw := hw.1 hc
        refine lv_iconst (v := -1) hx hb d_M_queue_41 (by decide) ?_
        exact kr_i hx hb hr hV hK hX hAe hw d_M_queue_42
      · have hw := hw.2 hc
        refine lv_aload_n hx hb d_M_queue_32 rfl (lv_at hl 0 rfl) ?_
        refine kg_M_M_queue hx hb hG hown hK hV d_M_queue_33 ?_
        refine lv_iload_n hx hb d_M_queue_36 rfl (lv_at hl 1 rfl) ?_
        refine kl_35 hx hb hK hV hw.1 d_M_queue_37 ?_
        have hw := hw.2
        refine lv_goto (tgt := 42) hx hb d_M_queue_38 rfl ?_
        exact kr_i hx hb hr hV hK hX hAe hw d_M_queue_42
    · have hw := hw.2 hc
      refine lv_iconst (v := 0) hx hb d_M_queue_20 (by decide) ?_
      refine lv_goto (tgt := 42) hx hb d_M_queue_21 rfl ?_
      exact kr_i hx hb hr hV hK hX hAe hw d_M_queue_42
  unfold w_M_queue at hw
  refine lv_aload_n hx hb d_M_queue_0 rfl (lv_at hl 0 rfl) ?_
  refine lv_iload_n hx hb d_M_queue_1 rfl (lv_at hl 1 rfl) ?_
  refine lv_if_ge (tgt := 9) hx hb d_M_queue_2 rfl (fun hc => ?_) (fun hc => ?_)
  · have hw := hw.1 hc
    refine lv_iconst (v := 0) hx hb d_M_queue_9 (by decide) ?_
    exact J10 _ _ _ s0 (0 : Int32) (lv_sub hl [0, 1] rfl) hV hw
  · have hw := hw.2 hc
    refine lv_iconst (v := 1) hx hb d_M_queue_5 (by decide) ?_
    refine lv_goto (tgt := 10) hx hb d_M_queue_6 rfl ?_
    exact J10 _ _ _ s0 (1 : Int32) (lv_sub hl [0, 1] rfl) hV hw
theorem d_M_descriptor_0 : decode b_M_descriptor 0 = .ok (.aload_n 0, 1) := by decide +kernel
theorem d_M_descriptor_1 : decode b_M_descriptor 1 = .ok (.iload_n 1, 1) := by decide +kernel
theorem d_M_descriptor_2 : decode b_M_descriptor 2 = .ok (.invokevirtual 218, 3) := by decide +kernel
theorem d_M_descriptor_5 : decode b_M_descriptor 5 = .ok (.ifCond .eq 5, 3) := by decide +kernel
theorem d_M_descriptor_8 : decode b_M_descriptor 8 = .ok (.iconst 0, 1) := by decide +kernel
theorem d_M_descriptor_9 : decode b_M_descriptor 9 = .ok (.ireturn, 1) := by decide +kernel
theorem d_M_descriptor_10 : decode b_M_descriptor 10 = .ok (.aload_n 0, 1) := by decide +kernel
theorem d_M_descriptor_11 : decode b_M_descriptor 11 = .ok (.iload_n 2, 1) := by decide +kernel
theorem d_M_descriptor_12 : decode b_M_descriptor 12 = .ok (.ifCond .lt 9, 3) := by decide +kernel
theorem d_M_descriptor_15 : decode b_M_descriptor 15 = .ok (.iload_n 2, 1) := by decide +kernel
theorem d_M_descriptor_16 : decode b_M_descriptor 16 = .ok (.bipush 8, 2) := by decide +kernel
theorem d_M_descriptor_18 : decode b_M_descriptor 18 = .ok (.if_icmp .lt 7, 3) := by decide +kernel
theorem d_M_descriptor_21 : decode b_M_descriptor 21 = .ok (.iconst 1, 1) := by decide +kernel
theorem d_M_descriptor_22 : decode b_M_descriptor 22 = .ok (.goto 4, 3) := by decide +kernel
theorem d_M_descriptor_25 : decode b_M_descriptor 25 = .ok (.iconst 0, 1) := by decide +kernel
theorem d_M_descriptor_26 : decode b_M_descriptor 26 = .ok (.putfield 68, 3) := by decide +kernel
theorem d_M_descriptor_29 : decode b_M_descriptor 29 = .ok (.aload_n 0, 1) := by decide +kernel
theorem d_M_descriptor_30 : decode b_M_descriptor 30 = .ok (.getfield 68, 3) := by decide +kernel
theorem d_M_descriptor_33 : decode b_M_descriptor 33 = .ok (.ifCond .le 7, 3) := by decide +kernel
theorem d_M_descriptor_36 : decode b_M_descriptor 36 = .ok (.iconst 0, 1) := by decide +kernel
theorem d_M_descriptor_37 : decode b_M_descriptor 37 = .ok (.goto 14, 3) := by decide +kernel
theorem d_M_descriptor_40 : decode b_M_descriptor 40 = .ok (.aload_n 0, 1) := by decide +kernel
theorem d_M_descriptor_41 : decode b_M_descriptor 41 = .ok (.getfield 28, 3) := by decide +kernel
theorem d_M_descriptor_44 : decode b_M_descriptor 44 = .ok (.bipush 8, 2) := by decide +kernel
theorem d_M_descriptor_46 : decode b_M_descriptor 46 = .ok (.iload_n 1, 1) := by decide +kernel
theorem d_M_descriptor_47 : decode b_M_descriptor 47 = .ok (.imul, 1) := by decide +kernel
theorem d_M_descriptor_48 : decode b_M_descriptor 48 = .ok (.iload_n 2, 1) := by decide +kernel
theorem d_M_descriptor_49 : decode b_M_descriptor 49 = .ok (.iadd, 1) := by decide +kernel
theorem d_M_descriptor_50 : decode b_M_descriptor 50 = .ok (.iaload, 1) := by decide +kernel
theorem d_M_descriptor_51 : decode b_M_descriptor 51 = .ok (.ireturn, 1) := by decide +kernel
def w_M_descriptor_26 (x1 : Int32) (x2 : Int32) (Φ : Int32 → KS → Prop) (t0 : Int32) (s0 : KS) : Prop := ∀ s1 : KS, s1 = w3 s0 20 0 0 t0 → (((s1 20 0 0) ≤ 0 → vp_in (((8 : Int32) * x1) + x2) 128 ∧ Φ (s1 31 0 (((8 : Int32) * x1) + x2).toNatClampNeg) s1) ∧ (¬ (s1 20 0 0) ≤ 0 → Φ (0 : Int32) s1))
def w_M_descriptor_21 (x1 : Int32) (x2 : Int32) (Φ : Int32 → KS → Prop) (s0 : KS) : Prop := w_M_descriptor_26 x1 x2 Φ (1 : Int32) s0
def w_M_descriptor (x1 : Int32) (x2 : Int32) (s0 : KS) (Φ : Int32 → KS → Prop) : Prop := w_M_notThere x1 s0 (fun r2 s1 => ((r2 = 0 → ((x2 < 0 → w_M_descriptor_21 x1 x2 Φ s1) ∧ (¬ x2 < 0 → ((x2 < (8 : Int32) → w_M_descriptor_26 x1 x2 Φ (0 : Int32) s1) ∧ (¬ x2 < (8 : Int32) → w_M_descriptor_21 x1 x2 Φ s1))))) ∧ (¬ r2 = 0 → Φ (0 : Int32) s1)))
set_option maxHeartbeats 4000000 in
set_option maxRecDepth 100000 in
theorem c_M_descriptor (l : Launch) (E : gE) (s0 : KS) (x1 : Int32) (x2 : Int32) (Φ : Int32 → KS → Prop) (hw : w_M_descriptor x1 x2 s0 Φ) : gMi l y_M_descriptor v_M_descriptor m_M_descriptor E MM [.ref (ea E 20 0), .int x1, .int x2] s0 Φ := by
  intro sz
  refine Met.ofW (cc := b_M_descriptor) (maxL := 3) (ret := (some .int)) (by decide) rfl ?_
  intro p e s m args below meth c s₁ B hml hv
  obtain ⟨rfl, hsz, hP, hK, hD, hX⟩ := hv
  have hx := B.exec
  have hb := B.bytes
  have hr := B.returns
  have hts := atoms_spec (ws := v_M_descriptor) B.pre
  have hG : ∀ w ∈ gG, w.before _ s = true := fun w h => hts w (List.mem_cons_of_mem _ h)
  have hown : s.vm.findClass R_M = some m.cls := findClass_of_methodNamed B.named
  have hlocks := B.notSynchronized
  subst hsz
  obtain ⟨A, hAe⟩ : ∃ A, A = gA E MM s.heap.size := ⟨_, rfl⟩
  rw [← hAe] at hD hX ⊢
  have hV : gV E MM A s0 s s.heap [] := ⟨hP, hD, va_S.rf⟩
  have hl := lv_entry ([.ref (ea E 20 0), .int x1, .int x2] : List Value) (n := 3) (Nat.le_of_ble_eq_true rfl)
  rw [lg_entry_eq]
  generalize (lg_sl ([.ref (ea E 20 0), .int x1, .int x2] : List Value) ++ List.replicate (3 - (lg_sl ([.ref (ea E 20 0), .int x1, .int x2] : List Value)).length) Slot.unset).toArray = ls at hl ⊢
  have hl : lv_has ls 3 [(0, .ref (ea E 20 0)), (1, .int x1), (2, .int x2)] := hl
  have J26 : ∀ (ls : Array Slot) (H : Heap) (locs : List Loc) (s0 : KS) (t0 : Int32), lv_has ls 3 [(0, .ref (ea E 20 0)), (1, .int x1), (2, .int x2)] → gV E MM A s0 s H locs → w_M_descriptor_26 x1 x2 Φ t0 s0 → W p l e m_M_descriptor s m ([.ref (ea E 20 0), .int x1, .int x2] : List Value).toArray below meth c H locs 0 0 (MQ below (gQi E MM A Φ) ([.ref (ea E 20 0), .int x1, .int x2] : List Value).toArray s 0 0 A) (F0 m 26 ls [.int t0, .ref (ea E 20 0)]) := by
    intro  ls H locs s0 t0 hl hV hw
    unfold w_M_descriptor_26 at hw
    refine kp_M_M_code hx hb hG hown hK hV d_M_descriptor_26 (fun s1 H locs es1 hV => ?_)
    have hw := hw s1 es1
    refine lv_aload_n hx hb d_M_descriptor_29 rfl (lv_at hl 0 rfl) ?_
    refine kg_M_M_code hx hb hG hown hK hV d_M_descriptor_30 ?_
    refine lv_if_le (tgt := 40) hx hb d_M_descriptor_33 rfl (fun hc => ?_) (fun hc => ?_)
    · have hw := hw.1 hc
      refine lv_aload_n hx hb d_M_descriptor_40 rfl (lv_at hl 0 rfl) ?_
      refine kg_M_M_descriptors hx hb hG hown hK hV d_M_descriptor_41 ?_
      refine lv_bipush (v := 8) hx hb d_M_descriptor_44 (by decide) ?_
      refine lv_iload_n hx hb d_M_descriptor_46 rfl (lv_at hl 1 rfl) ?_
      refine lv_imul hx hb d_M_descriptor_47 ?_
      refine lv_iload_n hx hb d_M_descriptor_48 rfl (lv_at hl 2 rfl) ?_
      refine lv_iadd hx hb d_M_descriptor_49 ?_
      refine kl_31 hx hb hK hV hw.1 d_M_descriptor_50 ?_
      have hw := hw.2
      exact kr_i hx hb hr hV hK hX hAe hw d_M_descriptor_51
    · have hw := hw.2 hc
      refine lv_iconst (v := 0) hx hb d_M_descriptor_36 (by decide) ?_
      refine lv_goto (tgt := 51) hx hb d_M_descriptor_37 rfl ?_
      exact kr_i hx hb hr hV hK hX hAe hw d_M_descriptor_51
  have J21 : ∀ (ls : Array Slot) (H : Heap) (locs : List Loc) (s0 : KS), lv_has ls 3 [(0, .ref (ea E 20 0)), (1, .int x1), (2, .int x2)] → gV E MM A s0 s H locs → w_M_descriptor_21 x1 x2 Φ s0 → W p l e m_M_descriptor s m ([.ref (ea E 20 0), .int x1, .int x2] : List Value).toArray below meth c H locs 0 0 (MQ below (gQi E MM A Φ) ([.ref (ea E 20 0), .int x1, .int x2] : List Value).toArray s 0 0 A) (F0 m 21 ls [.ref (ea E 20 0)]) := by
    intro  ls H locs s0 hl hV hw
    unfold w_M_descriptor_21 at hw
    refine lv_iconst (v := 1) hx hb d_M_descriptor_21 (by decide) ?_
    refine lv_goto (tgt := 26) hx hb d_M_descriptor_22 rfl ?_
    exact J26 _ _ _ s0 (1 : Int32) (lv_sub hl [0, 1, 2] rfl) hV hw
  unfold w_M_descriptor at hw
  refine lv_aload_n hx hb d_M_descriptor_0 rfl (lv_at hl 0 rfl) ?_
  refine lv_iload_n hx hb d_M_descriptor_1 rfl (lv_at hl 1 rfl) ?_
  refine kc_M_M_notThere hx hb hml hown hts hV hK hX hAe (c_M_notThere l E s0 x1 _ hw) hl.1 (Nat.le_of_ble_eq_true rfl) d_M_descriptor_2 (Nat.le_of_ble_eq_true rfl) (Nat.le_of_ble_eq_true rfl) (fun r2 s1 H locs hw hV => ?_)
  refine lv_if_eq (tgt := 10) hx hb d_M_descriptor_5 rfl (fun hc => ?_) (fun hc => ?_)
  · have hw := hw.1 hc
    refine lv_aload_n hx hb d_M_descriptor_10 rfl (lv_at hl 0 rfl) ?_
    refine lv_iload_n hx hb d_M_descriptor_11 rfl (lv_at hl 2 rfl) ?_
    refine lv_if_lt (tgt := 21) hx hb d_M_descriptor_12 rfl (fun hc => ?_) (fun hc => ?_)
    · have hw := hw.1 hc
      exact J21 _ _ _ s1 (lv_sub hl [0, 1, 2] rfl) hV hw
    · have hw := hw.2 hc
      refine lv_iload_n hx hb d_M_descriptor_15 rfl (lv_at hl 2 rfl) ?_
      refine lv_bipush (v := 8) hx hb d_M_descriptor_16 (by decide) ?_
      refine lv_icmp_lt (tgt := 25) hx hb d_M_descriptor_18 rfl (fun hc => ?_) (fun hc => ?_)
      · have hw := hw.1 hc
        refine lv_iconst (v := 0) hx hb d_M_descriptor_25 (by decide) ?_
        exact J26 _ _ _ s1 (0 : Int32) (lv_sub hl [0, 1, 2] rfl) hV hw
      · have hw := hw.2 hc
        exact J21 _ _ _ s1 (lv_sub hl [0, 1, 2] rfl) hV hw
  · have hw := hw.2 hc
    refine lv_iconst (v := 0) hx hb d_M_descriptor_8 (by decide) ?_
    exact kr_i hx hb hr hV hK hX hAe hw d_M_descriptor_9
theorem d_M_pipe_0 : decode b_M_pipe 0 = .ok (.aload_n 0, 1) := by decide +kernel
theorem d_M_pipe_1 : decode b_M_pipe 1 = .ok (.iload_n 1, 1) := by decide +kernel
theorem d_M_pipe_2 : decode b_M_pipe 2 = .ok (.ifCond .lt 9, 3) := by decide +kernel
theorem d_M_pipe_5 : decode b_M_pipe 5 = .ok (.iload_n 1, 1) := by decide +kernel
theorem d_M_pipe_6 : decode b_M_pipe 6 = .ok (.bipush 7, 2) := by decide +kernel
theorem d_M_pipe_8 : decode b_M_pipe 8 = .ok (.if_icmp .le 7, 3) := by decide +kernel
theorem d_M_pipe_11 : decode b_M_pipe 11 = .ok (.iconst 1, 1) := by decide +kernel
theorem d_M_pipe_12 : decode b_M_pipe 12 = .ok (.goto 17, 3) := by decide +kernel
theorem d_M_pipe_15 : decode b_M_pipe 15 = .ok (.iload_n 2, 1) := by decide +kernel
theorem d_M_pipe_16 : decode b_M_pipe 16 = .ok (.ifCond .lt 8, 3) := by decide +kernel
theorem d_M_pipe_19 : decode b_M_pipe 19 = .ok (.iload_n 2, 1) := by decide +kernel
theorem d_M_pipe_20 : decode b_M_pipe 20 = .ok (.iconst 4, 1) := by decide +kernel
theorem d_M_pipe_21 : decode b_M_pipe 21 = .ok (.if_icmp .le 7, 3) := by decide +kernel
theorem d_M_pipe_24 : decode b_M_pipe 24 = .ok (.iconst 2, 1) := by decide +kernel
theorem d_M_pipe_25 : decode b_M_pipe 25 = .ok (.goto 4, 3) := by decide +kernel
theorem d_M_pipe_28 : decode b_M_pipe 28 = .ok (.iconst 0, 1) := by decide +kernel
theorem d_M_pipe_29 : decode b_M_pipe 29 = .ok (.putfield 68, 3) := by decide +kernel
theorem d_M_pipe_32 : decode b_M_pipe 32 = .ok (.aload_n 0, 1) := by decide +kernel
theorem d_M_pipe_33 : decode b_M_pipe 33 = .ok (.getfield 68, 3) := by decide +kernel
theorem d_M_pipe_36 : decode b_M_pipe 36 = .ok (.ifCond .le 5, 3) := by decide +kernel
theorem d_M_pipe_39 : decode b_M_pipe 39 = .ok (.iconst 0, 1) := by decide +kernel
theorem d_M_pipe_40 : decode b_M_pipe 40 = .ok (.ireturn, 1) := by decide +kernel
theorem d_M_pipe_41 : decode b_M_pipe 41 = .ok (.iload_n 2, 1) := by decide +kernel
theorem d_M_pipe_42 : decode b_M_pipe 42 = .ok (.ifCond .ne 12, 3) := by decide +kernel
theorem d_M_pipe_45 : decode b_M_pipe 45 = .ok (.aload_n 0, 1) := by decide +kernel
theorem d_M_pipe_46 : decode b_M_pipe 46 = .ok (.getfield 52, 3) := by decide +kernel
theorem d_M_pipe_49 : decode b_M_pipe 49 = .ok (.iload_n 1, 1) := by decide +kernel
theorem d_M_pipe_50 : decode b_M_pipe 50 = .ok (.iaload, 1) := by decide +kernel
theorem d_M_pipe_51 : decode b_M_pipe 51 = .ok (.goto 58, 3) := by decide +kernel
theorem d_M_pipe_54 : decode b_M_pipe 54 = .ok (.iload_n 2, 1) := by decide +kernel
theorem d_M_pipe_55 : decode b_M_pipe 55 = .ok (.iconst 1, 1) := by decide +kernel
theorem d_M_pipe_56 : decode b_M_pipe 56 = .ok (.if_icmp .ne 14, 3) := by decide +kernel
theorem d_M_pipe_59 : decode b_M_pipe 59 = .ok (.aload_n 0, 1) := by decide +kernel
theorem d_M_pipe_60 : decode b_M_pipe 60 = .ok (.bipush 10, 2) := by decide +kernel
theorem d_M_pipe_62 : decode b_M_pipe 62 = .ok (.iload_n 1, 1) := by decide +kernel
theorem d_M_pipe_63 : decode b_M_pipe 63 = .ok (.iadd, 1) := by decide +kernel
theorem d_M_pipe_64 : decode b_M_pipe 64 = .ok (.invokevirtual 98, 3) := by decide +kernel
theorem d_M_pipe_67 : decode b_M_pipe 67 = .ok (.goto 42, 3) := by decide +kernel
theorem d_M_pipe_70 : decode b_M_pipe 70 = .ok (.iload_n 2, 1) := by decide +kernel
theorem d_M_pipe_71 : decode b_M_pipe 71 = .ok (.iconst 2, 1) := by decide +kernel
theorem d_M_pipe_72 : decode b_M_pipe 72 = .ok (.if_icmp .ne 14, 3) := by decide +kernel
theorem d_M_pipe_75 : decode b_M_pipe 75 = .ok (.aload_n 0, 1) := by decide +kernel
theorem d_M_pipe_76 : decode b_M_pipe 76 = .ok (.bipush 20, 2) := by decide +kernel
theorem d_M_pipe_78 : decode b_M_pipe 78 = .ok (.iload_n 1, 1) := by decide +kernel
theorem d_M_pipe_79 : decode b_M_pipe 79 = .ok (.iadd, 1) := by decide +kernel
theorem d_M_pipe_80 : decode b_M_pipe 80 = .ok (.invokevirtual 98, 3) := by decide +kernel
theorem d_M_pipe_83 : decode b_M_pipe 83 = .ok (.goto 26, 3) := by decide +kernel
theorem d_M_pipe_86 : decode b_M_pipe 86 = .ok (.iload_n 2, 1) := by decide +kernel
theorem d_M_pipe_87 : decode b_M_pipe 87 = .ok (.iconst 3, 1) := by decide +kernel
theorem d_M_pipe_88 : decode b_M_pipe 88 = .ok (.if_icmp .ne 12, 3) := by decide +kernel
theorem d_M_pipe_91 : decode b_M_pipe 91 = .ok (.aload_n 0, 1) := by decide +kernel
theorem d_M_pipe_92 : decode b_M_pipe 92 = .ok (.getfield 46, 3) := by decide +kernel
theorem d_M_pipe_95 : decode b_M_pipe 95 = .ok (.iload_n 1, 1) := by decide +kernel
theorem d_M_pipe_96 : decode b_M_pipe 96 = .ok (.iaload, 1) := by decide +kernel
theorem d_M_pipe_97 : decode b_M_pipe 97 = .ok (.goto 12, 3) := by decide +kernel
theorem d_M_pipe_100 : decode b_M_pipe 100 = .ok (.aload_n 0, 1) := by decide +kernel
theorem d_M_pipe_101 : decode b_M_pipe 101 = .ok (.getfield 46, 3) := by decide +kernel
theorem d_M_pipe_104 : decode b_M_pipe 104 = .ok (.bipush 8, 2) := by decide +kernel
theorem d_M_pipe_106 : decode b_M_pipe 106 = .ok (.iload_n 1, 1) := by decide +kernel
theorem d_M_pipe_107 : decode b_M_pipe 107 = .ok (.iadd, 1) := by decide +kernel
theorem d_M_pipe_108 : decode b_M_pipe 108 = .ok (.iaload, 1) := by decide +kernel
theorem d_M_pipe_109 : decode b_M_pipe 109 = .ok (.ireturn, 1) := by decide +kernel
def w_M_pipe_29 (x1 : Int32) (x2 : Int32) (Φ : Int32 → KS → Prop) (t0 : Int32) (s0 : KS) : Prop := ∀ s1 : KS, s1 = w3 s0 20 0 0 t0 → (((s1 20 0 0) ≤ 0 → ((¬ x2 = 0 → ((¬ x2 = (1 : Int32) → ((¬ x2 = (2 : Int32) → ((¬ x2 = (3 : Int32) → vp_in ((8 : Int32) + x1) 17 ∧ Φ (s1 40 0 ((8 : Int32) + x1).toNatClampNeg) s1) ∧ (x2 = (3 : Int32) → vp_in x1 17 ∧ Φ (s1 40 0 x1.toNatClampNeg) s1))) ∧ (x2 = (2 : Int32) → w_M_many ((20 : Int32) + x1) s1 (fun r3 s2 => Φ r3 s2)))) ∧ (x2 = (1 : Int32) → w_M_many ((10 : Int32) + x1) s1 (fun r5 s4 => Φ r5 s4)))) ∧ (x2 = 0 → vp_in x1 8 ∧ Φ (s1 42 0 x1.toNatClampNeg) s1))) ∧ (¬ (s1 20 0 0) ≤ 0 → Φ (0 : Int32) s1))
def w_M_pipe_24 (x1 : Int32) (x2 : Int32) (Φ : Int32 → KS → Prop) (s0 : KS) : Prop := w_M_pipe_29 x1 x2 Φ (2 : Int32) s0
def w_M_pipe_11 (x1 : Int32) (x2 : Int32) (Φ : Int32 → KS → Prop) (s0 : KS) : Prop := w_M_pipe_29 x1 x2 Φ (1 : Int32) s0
def w_M_pipe (x1 : Int32) (x2 : Int32) (s0 : KS) (Φ : Int32 → KS → Prop) : Prop := ((x1 < 0 → w_M_pipe_11 x1 x2 Φ s0) ∧ (¬ x1 < 0 → ((x1 ≤ (7 : Int32) → ((x2 < 0 → w_M_pipe_24 x1 x2 Φ s0) ∧ (¬ x2 < 0 → ((x2 ≤ (4 : Int32) → w_M_pipe_29 x1 x2 Φ (0 : Int32) s0) ∧ (¬ x2 ≤ (4 : Int32) → w_M_pipe_24 x1 x2 Φ s0))))) ∧ (¬ x1 ≤ (7 : Int32) → w_M_pipe_11 x1 x2 Φ s0))))
set_option maxHeartbeats 4000000 in
set_option maxRecDepth 100000 in
theorem c_M_pipe (l : Launch) (E : gE) (s0 : KS) (x1 : Int32) (x2 : Int32) (Φ : Int32 → KS → Prop) (hw : w_M_pipe x1 x2 s0 Φ) : gMi l y_M_pipe v_M_pipe m_M_pipe E MM [.ref (ea E 20 0), .int x1, .int x2] s0 Φ := by
  intro sz
  refine Met.ofW (cc := b_M_pipe) (maxL := 3) (ret := (some .int)) (by decide) rfl ?_
  intro p e s m args below meth c s₁ B hml hv
  obtain ⟨rfl, hsz, hP, hK, hD, hX⟩ := hv
  have hx := B.exec
  have hb := B.bytes
  have hr := B.returns
  have hts := atoms_spec (ws := v_M_pipe) B.pre
  have hG : ∀ w ∈ gG, w.before _ s = true := fun w h => hts w (List.mem_cons_of_mem _ h)
  have hown : s.vm.findClass R_M = some m.cls := findClass_of_methodNamed B.named
  have hlocks := B.notSynchronized
  subst hsz
  obtain ⟨A, hAe⟩ : ∃ A, A = gA E MM s.heap.size := ⟨_, rfl⟩
  rw [← hAe] at hD hX ⊢
  have hV : gV E MM A s0 s s.heap [] := ⟨hP, hD, va_S.rf⟩
  have hl := lv_entry ([.ref (ea E 20 0), .int x1, .int x2] : List Value) (n := 3) (Nat.le_of_ble_eq_true rfl)
  rw [lg_entry_eq]
  generalize (lg_sl ([.ref (ea E 20 0), .int x1, .int x2] : List Value) ++ List.replicate (3 - (lg_sl ([.ref (ea E 20 0), .int x1, .int x2] : List Value)).length) Slot.unset).toArray = ls at hl ⊢
  have hl : lv_has ls 3 [(0, .ref (ea E 20 0)), (1, .int x1), (2, .int x2)] := hl
  have J29 : ∀ (ls : Array Slot) (H : Heap) (locs : List Loc) (s0 : KS) (t0 : Int32), lv_has ls 3 [(0, .ref (ea E 20 0)), (1, .int x1), (2, .int x2)] → gV E MM A s0 s H locs → w_M_pipe_29 x1 x2 Φ t0 s0 → W p l e m_M_pipe s m ([.ref (ea E 20 0), .int x1, .int x2] : List Value).toArray below meth c H locs 0 0 (MQ below (gQi E MM A Φ) ([.ref (ea E 20 0), .int x1, .int x2] : List Value).toArray s 0 0 A) (F0 m 29 ls [.int t0, .ref (ea E 20 0)]) := by
    intro  ls H locs s0 t0 hl hV hw
    unfold w_M_pipe_29 at hw
    refine kp_M_M_code hx hb hG hown hK hV d_M_pipe_29 (fun s1 H locs es1 hV => ?_)
    have hw := hw s1 es1
    refine lv_aload_n hx hb d_M_pipe_32 rfl (lv_at hl 0 rfl) ?_
    refine kg_M_M_code hx hb hG hown hK hV d_M_pipe_33 ?_
    refine lv_if_le (tgt := 41) hx hb d_M_pipe_36 rfl (fun hc => ?_) (fun hc => ?_)
    · have hw := hw.1 hc
      refine lv_iload_n hx hb d_M_pipe_41 rfl (lv_at hl 2 rfl) ?_
      refine lv_if_ne (tgt := 54) hx hb d_M_pipe_42 rfl (fun hc => ?_) (fun hc => ?_)
      · have hw := hw.1 hc
        refine lv_iload_n hx hb d_M_pipe_54 rfl (lv_at hl 2 rfl) ?_
        refine lv_iconst (v := 1) hx hb d_M_pipe_55 (by decide) ?_
        refine lv_icmp_ne (tgt := 70) hx hb d_M_pipe_56 rfl (fun hc => ?_) (fun hc => ?_)
        · have hw := hw.1 hc
          refine lv_iload_n hx hb d_M_pipe_70 rfl (lv_at hl 2 rfl) ?_
          refine lv_iconst (v := 2) hx hb d_M_pipe_71 (by decide) ?_
          refine lv_icmp_ne (tgt := 86) hx hb d_M_pipe_72 rfl (fun hc => ?_) (fun hc => ?_)
          · have hw := hw.1 hc
            refine lv_iload_n hx hb d_M_pipe_86 rfl (lv_at hl 2 rfl) ?_
            refine lv_iconst (v := 3) hx hb d_M_pipe_87 (by decide) ?_
            refine lv_icmp_ne (tgt := 100) hx hb d_M_pipe_88 rfl (fun hc => ?_) (fun hc => ?_)
            · have hw := hw.1 hc
              refine lv_aload_n hx hb d_M_pipe_100 rfl (lv_at hl 0 rfl) ?_
              refine kg_M_M_waits hx hb hG hown hK hV d_M_pipe_101 ?_
              refine lv_bipush (v := 8) hx hb d_M_pipe_104 (by decide) ?_
              refine lv_iload_n hx hb d_M_pipe_106 rfl (lv_at hl 1 rfl) ?_
              refine lv_iadd hx hb d_M_pipe_107 ?_
              refine kl_40 hx hb hK hV hw.1 d_M_pipe_108 ?_
              have hw := hw.2
              exact kr_i hx hb hr hV hK hX hAe hw d_M_pipe_109
            · have hw := hw.2 hc
              refine lv_aload_n hx hb d_M_pipe_91 rfl (lv_at hl 0 rfl) ?_
              refine kg_M_M_waits hx hb hG hown hK hV d_M_pipe_92 ?_
              refine lv_iload_n hx hb d_M_pipe_95 rfl (lv_at hl 1 rfl) ?_
              refine kl_40 hx hb hK hV hw.1 d_M_pipe_96 ?_
              have hw := hw.2
              refine lv_goto (tgt := 109) hx hb d_M_pipe_97 rfl ?_
              exact kr_i hx hb hr hV hK hX hAe hw d_M_pipe_109
          · have hw := hw.2 hc
            refine lv_aload_n hx hb d_M_pipe_75 rfl (lv_at hl 0 rfl) ?_
            refine lv_bipush (v := 20) hx hb d_M_pipe_76 (by decide) ?_
            refine lv_iload_n hx hb d_M_pipe_78 rfl (lv_at hl 1 rfl) ?_
            refine lv_iadd hx hb d_M_pipe_79 ?_
            refine kc_M_M_many hx hb hml hown hts hV hK hX hAe (c_M_many l E s1 ((20 : Int32) + x1) _ hw) hl.1 (Nat.le_of_ble_eq_true rfl) d_M_pipe_80 (Nat.le_of_ble_eq_true rfl) (Nat.le_of_ble_eq_true rfl) (fun r3 s2 H locs hw hV => ?_)
            refine lv_goto (tgt := 109) hx hb d_M_pipe_83 rfl ?_
            exact kr_i hx hb hr hV hK hX hAe hw d_M_pipe_109
        · have hw := hw.2 hc
          refine lv_aload_n hx hb d_M_pipe_59 rfl (lv_at hl 0 rfl) ?_
          refine lv_bipush (v := 10) hx hb d_M_pipe_60 (by decide) ?_
          refine lv_iload_n hx hb d_M_pipe_62 rfl (lv_at hl 1 rfl) ?_
          refine lv_iadd hx hb d_M_pipe_63 ?_
          refine kc_M_M_many hx hb hml hown hts hV hK hX hAe (c_M_many l E s1 ((10 : Int32) + x1) _ hw) hl.1 (Nat.le_of_ble_eq_true rfl) d_M_pipe_64 (Nat.le_of_ble_eq_true rfl) (Nat.le_of_ble_eq_true rfl) (fun r5 s4 H locs hw hV => ?_)
          refine lv_goto (tgt := 109) hx hb d_M_pipe_67 rfl ?_
          exact kr_i hx hb hr hV hK hX hAe hw d_M_pipe_109
      · have hw := hw.2 hc
        refine lv_aload_n hx hb d_M_pipe_45 rfl (lv_at hl 0 rfl) ?_
        refine kg_M_M_filled hx hb hG hown hK hV d_M_pipe_46 ?_
        refine lv_iload_n hx hb d_M_pipe_49 rfl (lv_at hl 1 rfl) ?_
        refine kl_42 hx hb hK hV hw.1 d_M_pipe_50 ?_
        have hw := hw.2
        refine lv_goto (tgt := 109) hx hb d_M_pipe_51 rfl ?_
        exact kr_i hx hb hr hV hK hX hAe hw d_M_pipe_109
    · have hw := hw.2 hc
      refine lv_iconst (v := 0) hx hb d_M_pipe_39 (by decide) ?_
      exact kr_i hx hb hr hV hK hX hAe hw d_M_pipe_40
  have J24 : ∀ (ls : Array Slot) (H : Heap) (locs : List Loc) (s0 : KS), lv_has ls 3 [(0, .ref (ea E 20 0)), (1, .int x1), (2, .int x2)] → gV E MM A s0 s H locs → w_M_pipe_24 x1 x2 Φ s0 → W p l e m_M_pipe s m ([.ref (ea E 20 0), .int x1, .int x2] : List Value).toArray below meth c H locs 0 0 (MQ below (gQi E MM A Φ) ([.ref (ea E 20 0), .int x1, .int x2] : List Value).toArray s 0 0 A) (F0 m 24 ls [.ref (ea E 20 0)]) := by
    intro  ls H locs s0 hl hV hw
    unfold w_M_pipe_24 at hw
    refine lv_iconst (v := 2) hx hb d_M_pipe_24 (by decide) ?_
    refine lv_goto (tgt := 29) hx hb d_M_pipe_25 rfl ?_
    exact J29 _ _ _ s0 (2 : Int32) (lv_sub hl [0, 1, 2] rfl) hV hw
  have J11 : ∀ (ls : Array Slot) (H : Heap) (locs : List Loc) (s0 : KS), lv_has ls 3 [(0, .ref (ea E 20 0)), (1, .int x1), (2, .int x2)] → gV E MM A s0 s H locs → w_M_pipe_11 x1 x2 Φ s0 → W p l e m_M_pipe s m ([.ref (ea E 20 0), .int x1, .int x2] : List Value).toArray below meth c H locs 0 0 (MQ below (gQi E MM A Φ) ([.ref (ea E 20 0), .int x1, .int x2] : List Value).toArray s 0 0 A) (F0 m 11 ls [.ref (ea E 20 0)]) := by
    intro  ls H locs s0 hl hV hw
    unfold w_M_pipe_11 at hw
    refine lv_iconst (v := 1) hx hb d_M_pipe_11 (by decide) ?_
    refine lv_goto (tgt := 29) hx hb d_M_pipe_12 rfl ?_
    exact J29 _ _ _ s0 (1 : Int32) (lv_sub hl [0, 1, 2] rfl) hV hw
  unfold w_M_pipe at hw
  refine lv_aload_n hx hb d_M_pipe_0 rfl (lv_at hl 0 rfl) ?_
  refine lv_iload_n hx hb d_M_pipe_1 rfl (lv_at hl 1 rfl) ?_
  refine lv_if_lt (tgt := 11) hx hb d_M_pipe_2 rfl (fun hc => ?_) (fun hc => ?_)
  · have hw := hw.1 hc
    exact J11 _ _ _ s0 (lv_sub hl [0, 1, 2] rfl) hV hw
  · have hw := hw.2 hc
    refine lv_iload_n hx hb d_M_pipe_5 rfl (lv_at hl 1 rfl) ?_
    refine lv_bipush (v := 7) hx hb d_M_pipe_6 (by decide) ?_
    refine lv_icmp_le (tgt := 15) hx hb d_M_pipe_8 rfl (fun hc => ?_) (fun hc => ?_)
    · have hw := hw.1 hc
      refine lv_iload_n hx hb d_M_pipe_15 rfl (lv_at hl 2 rfl) ?_
      refine lv_if_lt (tgt := 24) hx hb d_M_pipe_16 rfl (fun hc => ?_) (fun hc => ?_)
      · have hw := hw.1 hc
        exact J24 _ _ _ s0 (lv_sub hl [0, 1, 2] rfl) hV hw
      · have hw := hw.2 hc
        refine lv_iload_n hx hb d_M_pipe_19 rfl (lv_at hl 2 rfl) ?_
        refine lv_iconst (v := 4) hx hb d_M_pipe_20 (by decide) ?_
        refine lv_icmp_le (tgt := 28) hx hb d_M_pipe_21 rfl (fun hc => ?_) (fun hc => ?_)
        · have hw := hw.1 hc
          refine lv_iconst (v := 0) hx hb d_M_pipe_28 (by decide) ?_
          exact J29 _ _ _ s0 (0 : Int32) (lv_sub hl [0, 1, 2] rfl) hV hw
        · have hw := hw.2 hc
          exact J24 _ _ _ s0 (lv_sub hl [0, 1, 2] rfl) hV hw
    · have hw := hw.2 hc
      exact J11 _ _ _ s0 (lv_sub hl [0, 1, 2] rfl) hV hw
theorem d_M_outs_0 : decode b_M_outs 0 = .ok (.aload_n 0, 1) := by decide +kernel
theorem d_M_outs_1 : decode b_M_outs 1 = .ok (.iconst 0, 1) := by decide +kernel
theorem d_M_outs_2 : decode b_M_outs 2 = .ok (.putfield 68, 3) := by decide +kernel
theorem d_M_outs_5 : decode b_M_outs 5 = .ok (.aload_n 0, 1) := by decide +kernel
theorem d_M_outs_6 : decode b_M_outs 6 = .ok (.getfield 190, 3) := by decide +kernel
theorem d_M_outs_9 : decode b_M_outs 9 = .ok (.ireturn, 1) := by decide +kernel
def w_M_outs (s0 : KS) (Φ : Int32 → KS → Prop) : Prop := ∀ s1 : KS, s1 = w3 s0 20 0 0 (0 : Int32) → Φ (s1 20 0 27) s1
set_option maxHeartbeats 4000000 in
set_option maxRecDepth 100000 in
theorem c_M_outs (l : Launch) (E : gE) (s0 : KS)  (Φ : Int32 → KS → Prop) (hw : w_M_outs s0 Φ) : gMi l y_M_outs v_M_outs m_M_outs E MM [.ref (ea E 20 0)] s0 Φ := by
  intro sz
  refine Met.ofW (cc := b_M_outs) (maxL := 1) (ret := (some .int)) (by decide) rfl ?_
  intro p e s m args below meth c s₁ B hml hv
  obtain ⟨rfl, hsz, hP, hK, hD, hX⟩ := hv
  have hx := B.exec
  have hb := B.bytes
  have hr := B.returns
  have hts := atoms_spec (ws := v_M_outs) B.pre
  have hG : ∀ w ∈ gG, w.before _ s = true := fun w h => hts w (List.mem_cons_of_mem _ h)
  have hown : s.vm.findClass R_M = some m.cls := findClass_of_methodNamed B.named
  have hlocks := B.notSynchronized
  subst hsz
  obtain ⟨A, hAe⟩ : ∃ A, A = gA E MM s.heap.size := ⟨_, rfl⟩
  rw [← hAe] at hD hX ⊢
  have hV : gV E MM A s0 s s.heap [] := ⟨hP, hD, va_S.rf⟩
  have hl := lv_entry ([.ref (ea E 20 0)] : List Value) (n := 1) (Nat.le_of_ble_eq_true rfl)
  rw [lg_entry_eq]
  generalize (lg_sl ([.ref (ea E 20 0)] : List Value) ++ List.replicate (1 - (lg_sl ([.ref (ea E 20 0)] : List Value)).length) Slot.unset).toArray = ls at hl ⊢
  have hl : lv_has ls 1 [(0, .ref (ea E 20 0))] := hl
  unfold w_M_outs at hw
  refine lv_aload_n hx hb d_M_outs_0 rfl (lv_at hl 0 rfl) ?_
  refine lv_iconst (v := 0) hx hb d_M_outs_1 (by decide) ?_
  refine kp_M_M_code hx hb hG hown hK hV d_M_outs_2 (fun s1 H locs es1 hV => ?_)
  have hw := hw s1 es1
  refine lv_aload_n hx hb d_M_outs_5 rfl (lv_at hl 0 rfl) ?_
  refine kg_M_M_outputs hx hb hG hown hK hV d_M_outs_6 ?_
  exact kr_i hx hb hr hV hK hX hAe hw d_M_outs_9
theorem d_M_out_0 : decode b_M_out 0 = .ok (.aload_n 0, 1) := by decide +kernel
theorem d_M_out_1 : decode b_M_out 1 = .ok (.getfield 190, 3) := by decide +kernel
theorem d_M_out_4 : decode b_M_out 4 = .ok (.sipush 500, 3) := by decide +kernel
theorem d_M_out_7 : decode b_M_out 7 = .ok (.if_icmp .ge 10, 3) := by decide +kernel
theorem d_M_out_10 : decode b_M_out 10 = .ok (.aload_n 0, 1) := by decide +kernel
theorem d_M_out_11 : decode b_M_out 11 = .ok (.getfield 190, 3) := by decide +kernel
theorem d_M_out_14 : decode b_M_out 14 = .ok (.goto 6, 3) := by decide +kernel
theorem d_M_out_17 : decode b_M_out 17 = .ok (.sipush 500, 3) := by decide +kernel
theorem d_M_out_20 : decode b_M_out 20 = .ok (.istore_n 2, 1) := by decide +kernel
theorem d_M_out_21 : decode b_M_out 21 = .ok (.aload_n 0, 1) := by decide +kernel
theorem d_M_out_22 : decode b_M_out 22 = .ok (.iload_n 1, 1) := by decide +kernel
theorem d_M_out_23 : decode b_M_out 23 = .ok (.ifCond .lt 8, 3) := by decide +kernel
theorem d_M_out_26 : decode b_M_out 26 = .ok (.iload_n 1, 1) := by decide +kernel
theorem d_M_out_27 : decode b_M_out 27 = .ok (.iload_n 2, 1) := by decide +kernel
theorem d_M_out_28 : decode b_M_out 28 = .ok (.if_icmp .lt 7, 3) := by decide +kernel
theorem d_M_out_31 : decode b_M_out 31 = .ok (.iconst 1, 1) := by decide +kernel
theorem d_M_out_32 : decode b_M_out 32 = .ok (.goto 4, 3) := by decide +kernel
theorem d_M_out_35 : decode b_M_out 35 = .ok (.iconst 0, 1) := by decide +kernel
theorem d_M_out_36 : decode b_M_out 36 = .ok (.putfield 68, 3) := by decide +kernel
theorem d_M_out_39 : decode b_M_out 39 = .ok (.aload_n 0, 1) := by decide +kernel
theorem d_M_out_40 : decode b_M_out 40 = .ok (.getfield 68, 3) := by decide +kernel
theorem d_M_out_43 : decode b_M_out 43 = .ok (.ifCond .le 7, 3) := by decide +kernel
theorem d_M_out_46 : decode b_M_out 46 = .ok (.iconst 0, 1) := by decide +kernel
theorem d_M_out_47 : decode b_M_out 47 = .ok (.goto 20, 3) := by decide +kernel
theorem d_M_out_50 : decode b_M_out 50 = .ok (.aload_n 0, 1) := by decide +kernel
theorem d_M_out_51 : decode b_M_out 51 = .ok (.getfield 58, 3) := by decide +kernel
theorem d_M_out_54 : decode b_M_out 54 = .ok (.aload_n 0, 1) := by decide +kernel
theorem d_M_out_55 : decode b_M_out 55 = .ok (.getfield 190, 3) := by decide +kernel
theorem d_M_out_58 : decode b_M_out 58 = .ok (.iload_n 2, 1) := by decide +kernel
theorem d_M_out_59 : decode b_M_out 59 = .ok (.isub, 1) := by decide +kernel
theorem d_M_out_60 : decode b_M_out 60 = .ok (.iload_n 1, 1) := by decide +kernel
theorem d_M_out_61 : decode b_M_out 61 = .ok (.iadd, 1) := by decide +kernel
theorem d_M_out_62 : decode b_M_out 62 = .ok (.sipush 500, 3) := by decide +kernel
theorem d_M_out_65 : decode b_M_out 65 = .ok (.irem, 1) := by decide +kernel
theorem d_M_out_66 : decode b_M_out 66 = .ok (.iaload, 1) := by decide +kernel
theorem d_M_out_67 : decode b_M_out 67 = .ok (.ireturn, 1) := by decide +kernel
def w_M_out_36 (x1 : Int32) (Φ : Int32 → KS → Prop) (v2 : Int32) (t0 : Int32) (s0 : KS) : Prop := ∀ s1 : KS, s1 = w3 s0 20 0 0 t0 → (((s1 20 0 0) ≤ 0 → ¬ (500 : Int32) = 0 ∧ vp_in ((((s1 20 0 27) - v2) + x1) - (((s1 20 0 27) - v2) + x1) / (500 : Int32) * (500 : Int32)) 500 ∧ Φ (s1 46 0 ((((s1 20 0 27) - v2) + x1) - (((s1 20 0 27) - v2) + x1) / (500 : Int32) * (500 : Int32)).toNatClampNeg) s1) ∧ (¬ (s1 20 0 0) ≤ 0 → Φ (0 : Int32) s1))
def w_M_out_31 (x1 : Int32) (Φ : Int32 → KS → Prop) (v2 : Int32) (s0 : KS) : Prop := w_M_out_36 x1 Φ v2 (1 : Int32) s0
def w_M_out_20 (x1 : Int32) (Φ : Int32 → KS → Prop) (t0 : Int32) (s0 : KS) : Prop := ((x1 < 0 → w_M_out_31 x1 Φ t0 s0) ∧ (¬ x1 < 0 → ((x1 < t0 → w_M_out_36 x1 Φ t0 (0 : Int32) s0) ∧ (¬ x1 < t0 → w_M_out_31 x1 Φ t0 s0))))
def w_M_out (x1 : Int32) (s0 : KS) (Φ : Int32 → KS → Prop) : Prop := (((500 : Int32) ≤ (s0 20 0 27) → w_M_out_20 x1 Φ (500 : Int32) s0) ∧ (¬ (500 : Int32) ≤ (s0 20 0 27) → w_M_out_20 x1 Φ (s0 20 0 27) s0))
set_option maxHeartbeats 4000000 in
set_option maxRecDepth 100000 in
theorem c_M_out (l : Launch) (E : gE) (s0 : KS) (x1 : Int32) (Φ : Int32 → KS → Prop) (hw : w_M_out x1 s0 Φ) : gMi l y_M_out v_M_out m_M_out E MM [.ref (ea E 20 0), .int x1] s0 Φ := by
  intro sz
  refine Met.ofW (cc := b_M_out) (maxL := 3) (ret := (some .int)) (by decide) rfl ?_
  intro p e s m args below meth c s₁ B hml hv
  obtain ⟨rfl, hsz, hP, hK, hD, hX⟩ := hv
  have hx := B.exec
  have hb := B.bytes
  have hr := B.returns
  have hts := atoms_spec (ws := v_M_out) B.pre
  have hG : ∀ w ∈ gG, w.before _ s = true := fun w h => hts w (List.mem_cons_of_mem _ h)
  have hown : s.vm.findClass R_M = some m.cls := findClass_of_methodNamed B.named
  have hlocks := B.notSynchronized
  subst hsz
  obtain ⟨A, hAe⟩ : ∃ A, A = gA E MM s.heap.size := ⟨_, rfl⟩
  rw [← hAe] at hD hX ⊢
  have hV : gV E MM A s0 s s.heap [] := ⟨hP, hD, va_S.rf⟩
  have hl := lv_entry ([.ref (ea E 20 0), .int x1] : List Value) (n := 3) (Nat.le_of_ble_eq_true rfl)
  rw [lg_entry_eq]
  generalize (lg_sl ([.ref (ea E 20 0), .int x1] : List Value) ++ List.replicate (3 - (lg_sl ([.ref (ea E 20 0), .int x1] : List Value)).length) Slot.unset).toArray = ls at hl ⊢
  have hl : lv_has ls 3 [(0, .ref (ea E 20 0)), (1, .int x1)] := hl
  have J36 : ∀ (ls : Array Slot) (H : Heap) (locs : List Loc) (s0 : KS) (v2 : Int32) (t0 : Int32), lv_has ls 3 [(0, .ref (ea E 20 0)), (1, .int x1), (2, .int v2)] → gV E MM A s0 s H locs → w_M_out_36 x1 Φ v2 t0 s0 → W p l e m_M_out s m ([.ref (ea E 20 0), .int x1] : List Value).toArray below meth c H locs 0 0 (MQ below (gQi E MM A Φ) ([.ref (ea E 20 0), .int x1] : List Value).toArray s 0 0 A) (F0 m 36 ls [.int t0, .ref (ea E 20 0)]) := by
    intro  ls H locs s0 v2 t0 hl hV hw
    unfold w_M_out_36 at hw
    refine kp_M_M_code hx hb hG hown hK hV d_M_out_36 (fun s1 H locs es1 hV => ?_)
    have hw := hw s1 es1
    refine lv_aload_n hx hb d_M_out_39 rfl (lv_at hl 0 rfl) ?_
    refine kg_M_M_code hx hb hG hown hK hV d_M_out_40 ?_
    refine lv_if_le (tgt := 50) hx hb d_M_out_43 rfl (fun hc => ?_) (fun hc => ?_)
    · have hw := hw.1 hc
      refine lv_aload_n hx hb d_M_out_50 rfl (lv_at hl 0 rfl) ?_
      refine kg_M_M_output hx hb hG hown hK hV d_M_out_51 ?_
      refine lv_aload_n hx hb d_M_out_54 rfl (lv_at hl 0 rfl) ?_
      refine kg_M_M_outputs hx hb hG hown hK hV d_M_out_55 ?_
      refine lv_iload_n hx hb d_M_out_58 rfl (lv_at hl 2 rfl) ?_
      refine lv_isub hx hb d_M_out_59 ?_
      refine lv_iload_n hx hb d_M_out_60 rfl (lv_at hl 1 rfl) ?_
      refine lv_iadd hx hb d_M_out_61 ?_
      refine lv_sipush (v := 500) hx hb d_M_out_62 (by decide) ?_
      refine lv_irem hx hb d_M_out_65 hw.1 ?_
      have hw := hw.2
      refine kl_46 hx hb hK hV hw.1 d_M_out_66 ?_
      have hw := hw.2
      exact kr_i hx hb hr hV hK hX hAe hw d_M_out_67
    · have hw := hw.2 hc
      refine lv_iconst (v := 0) hx hb d_M_out_46 (by decide) ?_
      refine lv_goto (tgt := 67) hx hb d_M_out_47 rfl ?_
      exact kr_i hx hb hr hV hK hX hAe hw d_M_out_67
  have J31 : ∀ (ls : Array Slot) (H : Heap) (locs : List Loc) (s0 : KS) (v2 : Int32), lv_has ls 3 [(0, .ref (ea E 20 0)), (1, .int x1), (2, .int v2)] → gV E MM A s0 s H locs → w_M_out_31 x1 Φ v2 s0 → W p l e m_M_out s m ([.ref (ea E 20 0), .int x1] : List Value).toArray below meth c H locs 0 0 (MQ below (gQi E MM A Φ) ([.ref (ea E 20 0), .int x1] : List Value).toArray s 0 0 A) (F0 m 31 ls [.ref (ea E 20 0)]) := by
    intro  ls H locs s0 v2 hl hV hw
    unfold w_M_out_31 at hw
    refine lv_iconst (v := 1) hx hb d_M_out_31 (by decide) ?_
    refine lv_goto (tgt := 36) hx hb d_M_out_32 rfl ?_
    exact J36 _ _ _ s0 v2 (1 : Int32) (lv_sub hl [0, 1, 2] rfl) hV hw
  have J20 : ∀ (ls : Array Slot) (H : Heap) (locs : List Loc) (s0 : KS) (t0 : Int32), lv_has ls 3 [(0, .ref (ea E 20 0)), (1, .int x1)] → gV E MM A s0 s H locs → w_M_out_20 x1 Φ t0 s0 → W p l e m_M_out s m ([.ref (ea E 20 0), .int x1] : List Value).toArray below meth c H locs 0 0 (MQ below (gQi E MM A Φ) ([.ref (ea E 20 0), .int x1] : List Value).toArray s 0 0 A) (F0 m 20 ls [.int t0]) := by
    intro  ls H locs s0 t0 hl hV hw
    unfold w_M_out_20 at hw
    refine lv_istore_n (lv' := [(2, .int t0), (0, .ref (ea E 20 0)), (1, .int x1)]) hx hb d_M_out_20 rfl hl (by decide) rfl (fun ls hl => ?_)
    refine lv_aload_n hx hb d_M_out_21 rfl (lv_at hl 1 rfl) ?_
    refine lv_iload_n hx hb d_M_out_22 rfl (lv_at hl 2 rfl) ?_
    refine lv_if_lt (tgt := 31) hx hb d_M_out_23 rfl (fun hc => ?_) (fun hc => ?_)
    · have hw := hw.1 hc
      exact J31 _ _ _ s0 t0 (lv_sub hl [1, 2, 0] rfl) hV hw
    · have hw := hw.2 hc
      refine lv_iload_n hx hb d_M_out_26 rfl (lv_at hl 2 rfl) ?_
      refine lv_iload_n hx hb d_M_out_27 rfl (lv_at hl 0 rfl) ?_
      refine lv_icmp_lt (tgt := 35) hx hb d_M_out_28 rfl (fun hc => ?_) (fun hc => ?_)
      · have hw := hw.1 hc
        refine lv_iconst (v := 0) hx hb d_M_out_35 (by decide) ?_
        exact J36 _ _ _ s0 t0 (0 : Int32) (lv_sub hl [1, 2, 0] rfl) hV hw
      · have hw := hw.2 hc
        exact J31 _ _ _ s0 t0 (lv_sub hl [1, 2, 0] rfl) hV hw
  unfold w_M_out at hw
  refine lv_aload_n hx hb d_M_out_0 rfl (lv_at hl 0 rfl) ?_
  refine kg_M_M_outputs hx hb hG hown hK hV d_M_out_1 ?_
  refine lv_sipush (v := 500) hx hb d_M_out_4 (by decide) ?_
  refine lv_icmp_ge (tgt := 17) hx hb d_M_out_7 rfl (fun hc => ?_) (fun hc => ?_)
  · have hw := hw.1 hc
    refine lv_sipush (v := 500) hx hb d_M_out_17 (by decide) ?_
    exact J20 _ _ _ s0 (500 : Int32) (lv_sub hl [0, 1] rfl) hV hw
  · have hw := hw.2 hc
    refine lv_aload_n hx hb d_M_out_10 rfl (lv_at hl 0 rfl) ?_
    refine kg_M_M_outputs hx hb hG hown hK hV d_M_out_11 ?_
    refine lv_goto (tgt := 20) hx hb d_M_out_14 rfl ?_
    exact J20 _ _ _ s0 (s0 20 0 27) (lv_sub hl [0, 1] rfl) hV hw

def lawStep (cp : Nat) (a b c : Int32) (s t : KS) (K : KS → KS → Prop) : Prop := ((a = 0 → (w_L_load cp b c s (fun k s1 => w_M_load b c t (fun t1 => w_M_thrown t1 (fun th t2 => th = k ∧ K s1 t2))))) ∧ ((a = 1 → (w_L_boot cp  s (fun k s1 => w_M_boot  t (fun t1 => w_M_thrown t1 (fun th t2 => th = k ∧ K s1 t2))))) ∧ ((a = 2 → (w_L_run cp b s (fun k s1 => w_M_run b t (fun r t1 => w_M_thrown t1 (fun th t2 => th = k ∧ (k = 0 → s1 50 0 0 = r) ∧ K s1 t2))))) ∧ ((a = 3 → (w_L_feed cp b s (fun k s1 => w_M_feed b t (fun r t1 => w_M_thrown t1 (fun th t2 => th = k ∧ (k = 0 → s1 50 0 0 = r) ∧ K s1 t2))))) ∧ ((a = 4 → (w_K_shut cp s (fun r s1 => w_M_shut t (fun r2 t1 => r = r2 ∧ K s1 t1)))) ∧ ((a = 5 → (w_K_time cp s (fun r s1 => w_M_time t (fun r2 t1 => r = r2 ∧ K s1 t1)))) ∧ ((a = 6 → (w_L_state cp b s (fun k s1 => w_M_state b t (fun r t1 => w_M_thrown t1 (fun th t2 => th = k ∧ (k = 0 → s1 50 0 0 = r) ∧ K s1 t2))))) ∧ ((a = 7 → (w_L_about cp b c s (fun k s1 => w_M_about b c t (fun r t1 => w_M_thrown t1 (fun th t2 => th = k ∧ (k = 0 → s1 50 0 0 = r) ∧ K s1 t2))))) ∧ ((a = 8 → (w_L_stack cp b c s (fun k s1 => w_M_stack b c t (fun r t1 => w_M_thrown t1 (fun th t2 => th = k ∧ (k = 0 → s1 50 0 0 = r) ∧ K s1 t2))))) ∧ ((a = 9 → (w_L_memory cp b c s (fun k s1 => w_M_memory b c t (fun r t1 => w_M_thrown t1 (fun th t2 => th = k ∧ (k = 0 → s1 50 0 0 = r) ∧ K s1 t2))))) ∧ ((a = 10 → (w_L_queue cp b s (fun k s1 => w_M_queue b t (fun r t1 => w_M_thrown t1 (fun th t2 => th = k ∧ (k = 0 → s1 50 0 0 = r) ∧ K s1 t2))))) ∧ ((a = 11 → (w_L_descriptor cp b c s (fun k s1 => w_M_descriptor b c t (fun r t1 => w_M_thrown t1 (fun th t2 => th = k ∧ (k = 0 → s1 50 0 0 = r) ∧ K s1 t2))))) ∧ ((a = 12 → (w_L_pipe cp b c s (fun k s1 => w_M_pipe b c t (fun r t1 => w_M_thrown t1 (fun th t2 => th = k ∧ (k = 0 → s1 50 0 0 = r) ∧ K s1 t2))))) ∧ ((a = 13 → (w_K_outs cp s (fun r s1 => w_M_outs t (fun r2 t1 => r = r2 ∧ K s1 t1)))) ∧ ((a = 14 → (w_L_out cp b s (fun k s1 => w_M_out b t (fun r t1 => w_M_thrown t1 (fun th t2 => th = k ∧ (k = 0 → s1 50 0 0 = r) ∧ K s1 t2))))) ∧ (¬ a = 0 ∧ ¬ a = 1 ∧ ¬ a = 2 ∧ ¬ a = 3 ∧ ¬ a = 4 ∧ ¬ a = 5 ∧ ¬ a = 6 ∧ ¬ a = 7 ∧ ¬ a = 8 ∧ ¬ a = 9 ∧ ¬ a = 10 ∧ ¬ a = 11 ∧ ¬ a = 12 ∧ ¬ a = 13 ∧ ¬ a = 14 → K s t))))))))))))))))
set_option maxHeartbeats 16000000 in
set_option maxRecDepth 100000 in
theorem law_loop {p : Program} {e : Env} {s : State} {m : MethodId} {below : List Frame} {meth : Method} {c : Code} (l : Launch) (hl0 : l.stackTraces = false) {b L : Nat} {xs : Nat → Int32} (hL : L ≤ 1538) (hx : p.tables.exec = Jvm.exec) (hb : c.code = code) (hr : meth.sig.returnType = ret) (hml : c.maxLocals = 7) (hown : s.vm.findClass R_L = some m.cls) (hts0 : ∀ w ∈ lw_tbl, w.before #[Value.ref b] s = true) (hXs : va_X b L xs s s.heap) (hbl : b < s.heap.size) (hlocks : meth.locks = false)
    (E : gE) (A : Nat → Prop) (hAd : A = fun q => s.heap.size ≤ q) (hap : lAp E KK MM) (hK : va_K (eD E) classes (eT E) s) (hX : kX E A s s.heap) (hY : kY A s s.heap) (Inv : Nat → KS → KS → Prop) (hstep : ∀ (j : Nat) (f t : KS), Inv j f t → j + 2 < L → lawStep (eN E) (xs j &&& 15) (xs (j + 1)) (xs (j + 2)) f t (Inv (j + 3))) :
    ∀ (n j : Nat) (f t : KS) (ls : Array Slot) (H : Heap) (locs : List Loc), L < j + n → j ≤ L + 3 → Inv j f t → lv_has ls 7 [(4, .int (nI j)), (3, .ref (ea E 50 0)), (2, .ref (ea E 20 0)), (1, .ref (ea E 0 0)), (0, .ref b)] → gV E KK A f s H locs → gV E MM A t s H locs → W p l e room_1 s m #[Value.ref b] below meth c H locs (109 + j) (8215 + 6 * j) (lw_Z below #[Value.ref b] s) (F0 m 43 ls []) := by
  have hA : ∀ q, s.heap.size ≤ q → A q := fun q h => by rw [hAd]; exact h
  have hbA : ¬ A b := by rw [hAd]; exact Nat.not_le.mpr hbl
  have hG : ∀ w ∈ gG, w.before #[Value.ref b] s = true := fun w h => hts0 w (List.mem_filter.mp h).1
  have hts : ∀ w ∈ (Cond.tt :: gG), w.before #[Value.ref b] s = true := fun w h => (List.mem_cons.mp h).elim (fun e => by rw [e]; rfl) (hG w)
  intro n
  induction n with
  | zero =>
    intro j f t ls H locs hn hj hI hl hV hT
    refine lv_iload hx hb d_L_law_43 (lv_at hl 0 rfl) ?_
    refine lv_aload_n hx hb d_L_law_45 rfl (lv_at hl 4 rfl) ?_
    refine va_slen hx hb hXs hbl hbA hV.2.2 d_L_law_46 ?_
    refine lv_iconst (v := 3) hx hb d_L_law_47 (by decide) ?_
    refine lv_isub hx hb d_L_law_48 ?_
    have hi : (nI L - 3).toInt = (L : Int) - 3 := pk_sub_toInt (b := 3) (by omega) (by omega)
    refine lv_icmp_gt (tgt := 869) hx hb d_L_law_49 rfl (fun hc => ?_) (fun hc => absurd ?_ hc)
    · refine lv_iconst (v := 1) hx hb d_L_law_869 (by decide) ?_
      refine va_forget (fun q hq => by have := hV.2.2.2.2 q hq; rw [hAd] at this; exact this) ?_
      refine W.widen (k := 601024) (n := 7293000) (by omega) (by omega) ?_
      exact lw_ret hx hb hr hlocks d_L_law_870
    · show nI L - 3 < nI j
      rw [Int32.lt_iff_toInt_lt, hi, nI_toInt (by omega)]
      omega
  | succ n ih =>
    intro j f t ls H locs hn hj hI hl hV hT
    have hi : (nI L - 3).toInt = (L : Int) - 3 := pk_sub_toInt (b := 3) (by omega) (by omega)
    refine lv_iload hx hb d_L_law_43 (lv_at hl 0 rfl) ?_
    refine lv_aload_n hx hb d_L_law_45 rfl (lv_at hl 4 rfl) ?_
    refine va_slen hx hb hXs hbl hbA hV.2.2 d_L_law_46 ?_
    refine lv_iconst (v := 3) hx hb d_L_law_47 (by decide) ?_
    refine lv_isub hx hb d_L_law_48 ?_
    refine lv_icmp_gt (tgt := 869) hx hb d_L_law_49 rfl (fun hc => ?_) (fun hc => ?_)
    · refine lv_iconst (v := 1) hx hb d_L_law_869 (by decide) ?_
      refine va_forget (fun q hq => by have := hV.2.2.2.2 q hq; rw [hAd] at this; exact this) ?_
      refine W.widen (k := 601024) (n := 7293000) (by omega) (by omega) ?_
      exact lw_ret hx hb hr hlocks d_L_law_870
    have hj2 : j + 2 < L := by
      have h1 : ¬ (nI L - 3 < nI j) := hc
      rw [Int32.lt_iff_toInt_lt, hi, nI_toInt (by omega)] at h1
      omega
    have hw := hstep j f t hI hj2
    unfold lawStep at hw
    have K863 : ∀ (c9 s9 : Nat) (ls : Array Slot) (H : Heap) (locs : List Loc) (f t : KS), c9 ≤ 109 + (j + 3) → s9 ≤ 8215 + 6 * (j + 3) → Inv (j + 3) f t → lv_has ls 7 [(4, .int (nI j)), (3, .ref (ea E 50 0)), (2, .ref (ea E 20 0)), (1, .ref (ea E 0 0)), (0, .ref b)] → gV E KK A f s H locs → gV E MM A t s H locs → W p l e room_1 s m #[Value.ref b] below meth c H locs c9 s9 (lw_Z below #[Value.ref b] s) (F0 m 863 ls []) := by
      intro c9 s9 ls H locs f t hc9 hs9 hI hl hV hT
      refine lv_iinc (k := 0) (v := nI (j + 3)) (lv' := [(4, .int (nI (j + 3))), (3, .ref (ea E 50 0)), (2, .ref (ea E 20 0)), (1, .ref (ea E 0 0)), (0, .ref b)]) hx hb d_L_law_863 hl rfl (nI_add j 3) (by decide) rfl (fun ls hl => ?_)
      refine lv_goto (tgt := 43) hx hb d_L_law_866 rfl ?_
      refine W.widen (k := 109 + (j + 3)) (n := 8215 + 6 * (j + 3)) hc9 hs9 ?_
      exact ih (j + 3) f t ls H locs (by omega) (by omega) hI hl hV hT
    refine lv_aload_n hx hb d_L_law_52 rfl (lv_at hl 4 rfl) ?_
    refine lv_iload hx hb d_L_law_53 (lv_at hl 0 rfl) ?_
    refine va_sld hx hb hXs hbl hbA hV.2.2 (vp_in_nI (by omega) (by omega)) d_L_law_55 ?_
    rw [nI_clamp (by omega)]
    refine lv_bipush (v := 15) hx hb d_L_law_56 (by decide) ?_
    refine lv_iand hx hb d_L_law_58 ?_
    have hrc : 109 + j + 1 ≤ 601024 ∧ 8215 + 6 * j + 6 ≤ 7293000 := by omega
    have hrd : 109 + j ≤ 601024 ∧ 8215 + 6 * j ≤ 7293000 := by omega
    generalize hop : (xs j &&& 15) = op at hw ⊢
    have hsw := hw
    by_cases hc0 : op = 0
    · have hw := hsw.1 hc0
      refine lv_tableIn (off := 73) (tgt := 132) hx hb d_L_law_59 (by rw [hc0]; decide) (by rw [hc0]; decide) (by rw [hc0]; decide) rfl ?_
      refine lv_aload_n hx hb d_L_law_132 rfl (lv_at hl 3 rfl) ?_
      refine lv_aload_n hx hb d_L_law_133 rfl (lv_at hl 4 rfl) ?_
      refine lv_iload hx hb d_L_law_134 (lv_at hl 0 rfl) ?_
      refine lv_iconst (v := 1) hx hb d_L_law_136 (by decide) ?_
      refine lv_iadd hx hb d_L_law_137 ?_
      rw [nI_1 j]
      refine va_sld hx hb hXs hbl hbA hV.2.2 (vp_in_nI (by omega) (by omega)) d_L_law_138 ?_
      rw [nI_clamp (by omega)]
      refine lv_aload_n hx hb d_L_law_139 rfl (lv_at hl 4 rfl) ?_
      refine lv_iload hx hb d_L_law_140 (lv_at hl 0 rfl) ?_
      refine lv_iconst (v := 2) hx hb d_L_law_142 (by decide) ?_
      refine lv_iadd hx hb d_L_law_143 ?_
      rw [lw_n2 j]
      refine va_sld hx hb hXs hbl hbA hV.2.2 (vp_in_nI (by omega) (by omega)) d_L_law_144 ?_
      rw [nI_clamp (by omega)]
      refine lc_H (cc := code) (As := [.ref (ea E 0 0), .int (xs (j + 1)), .int (xs (j + 2))]) (rest := []) (hh := [(0, 6, 9, 13), (0, 6, 12, 15)]) ⟨hx, hb, hml, hown, hts⟩ (c_L_load l hl0 E f (xs (j + 1)) (xs (j + 2)) _ hw) (vx_cwSW 3 hts (gi_S gm_244 gm_245 gm_71 gm_246) rfl rfl rfl (by decide +kernel) ⟨Nat.le_of_ble_eq_true rfl, Nat.le_of_ble_eq_true rfl⟩) hap hA hV hT hK hX hY rfl hl.1 rfl (Nat.le_of_ble_eq_true rfl) d_L_law_145 hrc (fun k5 f1 H locs hw hV hT => ?_)
      refine lv_istore (lv' := [(5, .int k5), (4, .int (nI j)), (3, .ref (ea E 50 0)), (2, .ref (ea E 20 0)), (1, .ref (ea E 0 0)), (0, .ref b)]) hx hb d_L_law_148 hl (by decide) rfl (fun ls hl => ?_)
      refine lv_aload_n hx hb d_L_law_150 rfl (lv_at hl 3 rfl) ?_
      refine lv_aload_n hx hb d_L_law_151 rfl (lv_at hl 5 rfl) ?_
      refine lv_iload hx hb d_L_law_152 (lv_at hl 1 rfl) ?_
      refine lv_iconst (v := 1) hx hb d_L_law_154 (by decide) ?_
      refine lv_iadd hx hb d_L_law_155 ?_
      rw [nI_1 j]
      refine va_sld hx hb hXs hbl hbA hV.2.2 (vp_in_nI (by omega) (by omega)) d_L_law_156 ?_
      rw [nI_clamp (by omega)]
      refine lv_aload_n hx hb d_L_law_157 rfl (lv_at hl 5 rfl) ?_
      refine lv_iload hx hb d_L_law_158 (lv_at hl 1 rfl) ?_
      refine lv_iconst (v := 2) hx hb d_L_law_160 (by decide) ?_
      refine lv_iadd hx hb d_L_law_161 ?_
      rw [lw_n2 j]
      refine va_sld hx hb hXs hbl hbA hV.2.2 (vp_in_nI (by omega) (by omega)) d_L_law_162 ?_
      rw [nI_clamp (by omega)]
      refine lc_Vv (cc := code) (C := R_M) (As := [.int (xs (j + 1)), .int (xs (j + 2))]) (rest := []) ⟨hx, hb, hml, hown, hts⟩ (c_M_load l E t (xs (j + 1)) (xs (j + 2)) _ hw) (cwV 2 hts (gi_V gm_805 gm_806 gm_807 gm_76 gm_808) rfl rfl rfl (by decide +kernel) ⟨Nat.le_of_ble_eq_true rfl, Nat.le_of_ble_eq_true rfl⟩) hap.symm hA hT hV hK hX (g_recv hK hT mm_20 rfl rfl) rfl hl.1 rfl (Nat.le_of_ble_eq_true rfl) d_L_law_163 ⟨Nat.le_trans (by omega) hrc.1, Nat.le_trans (by omega) hrc.2⟩ (fun t2 H locs hw hT hV => ?_)
      refine lv_aload_n hx hb d_L_law_166 rfl (lv_at hl 3 rfl) ?_
      refine lc_Vi (cc := code) (C := R_M) (As := []) (rest := []) ⟨hx, hb, hml, hown, hts⟩ (c_M_thrown l E t2 _ hw) (cwV 0 hts (gi_V gm_801 gm_802 gm_803 gm_76 gm_804) rfl rfl rfl (by decide +kernel) ⟨Nat.le_of_ble_eq_true rfl, Nat.le_of_ble_eq_true rfl⟩) hap.symm hA hT hV hK hX (g_recv hK hT mm_20 rfl rfl) rfl hl.1 rfl (Nat.le_of_ble_eq_true rfl) d_L_law_167 ⟨Nat.le_trans (by omega) hrc.1, Nat.le_trans (by omega) hrc.2⟩ (fun r2 t3 H locs hw hT hV => ?_)
      refine lv_iload hx hb d_L_law_170 (lv_at hl 0 rfl) ?_
      refine lv_icmp_eq (tgt := 177) hx hb d_L_law_172 rfl (fun hq => ?_) (fun hq => absurd hw.1 hq)
      have hw := hw.2
      refine lv_goto (tgt := 863) hx hb d_L_law_177 rfl ?_
      exact K863 (109 + j + 1) (8215 + 6 * j + 6) ls H _ f1 t3 (by omega) (by omega) hw (lv_sub hl [1, 2, 3, 4, 5] rfl) hV hT
    have hsw := hsw.2
    by_cases hc1 : op = 1
    · have hw := hsw.1 hc1
      refine lv_tableIn (off := 121) (tgt := 180) hx hb d_L_law_59 (by rw [hc1]; decide) (by rw [hc1]; decide) (by rw [hc1]; decide) rfl ?_
      refine lv_aload_n hx hb d_L_law_180 rfl (lv_at hl 3 rfl) ?_
      refine lc_H (cc := code) (As := [.ref (ea E 0 0)]) (rest := []) (hh := [(0, 4, 7, 15)]) ⟨hx, hb, hml, hown, hts⟩ (c_L_boot l hl0 E f  _ hw) (vx_cwSW 1 hts (gi_S gm_337 gm_338 gm_71 gm_339) rfl rfl rfl (by decide +kernel) ⟨Nat.le_of_ble_eq_true rfl, Nat.le_of_ble_eq_true rfl⟩) hap hA hV hT hK hX hY rfl hl.1 rfl (Nat.le_of_ble_eq_true rfl) d_L_law_181 hrc (fun k5 f1 H locs hw hV hT => ?_)
      refine lv_istore (lv' := [(5, .int k5), (4, .int (nI j)), (3, .ref (ea E 50 0)), (2, .ref (ea E 20 0)), (1, .ref (ea E 0 0)), (0, .ref b)]) hx hb d_L_law_184 hl (by decide) rfl (fun ls hl => ?_)
      refine lv_aload_n hx hb d_L_law_186 rfl (lv_at hl 3 rfl) ?_
      refine lc_Vv (cc := code) (C := R_M) (As := []) (rest := []) ⟨hx, hb, hml, hown, hts⟩ (c_M_boot l E t _ hw) (cwV 0 hts (gi_V gm_809 gm_810 gm_811 gm_76 gm_812) rfl rfl rfl (by decide +kernel) ⟨Nat.le_of_ble_eq_true rfl, Nat.le_of_ble_eq_true rfl⟩) hap.symm hA hT hV hK hX (g_recv hK hT mm_20 rfl rfl) rfl hl.1 rfl (Nat.le_of_ble_eq_true rfl) d_L_law_187 ⟨Nat.le_trans (by omega) hrc.1, Nat.le_trans (by omega) hrc.2⟩ (fun t2 H locs hw hT hV => ?_)
      refine lv_aload_n hx hb d_L_law_190 rfl (lv_at hl 3 rfl) ?_
      refine lc_Vi (cc := code) (C := R_M) (As := []) (rest := []) ⟨hx, hb, hml, hown, hts⟩ (c_M_thrown l E t2 _ hw) (cwV 0 hts (gi_V gm_801 gm_802 gm_803 gm_76 gm_804) rfl rfl rfl (by decide +kernel) ⟨Nat.le_of_ble_eq_true rfl, Nat.le_of_ble_eq_true rfl⟩) hap.symm hA hT hV hK hX (g_recv hK hT mm_20 rfl rfl) rfl hl.1 rfl (Nat.le_of_ble_eq_true rfl) d_L_law_191 ⟨Nat.le_trans (by omega) hrc.1, Nat.le_trans (by omega) hrc.2⟩ (fun r2 t3 H locs hw hT hV => ?_)
      refine lv_iload hx hb d_L_law_194 (lv_at hl 0 rfl) ?_
      refine lv_icmp_eq (tgt := 201) hx hb d_L_law_196 rfl (fun hq => ?_) (fun hq => absurd hw.1 hq)
      have hw := hw.2
      refine lv_goto (tgt := 863) hx hb d_L_law_201 rfl ?_
      exact K863 (109 + j + 1) (8215 + 6 * j + 6) ls H _ f1 t3 (by omega) (by omega) hw (lv_sub hl [1, 2, 3, 4, 5] rfl) hV hT
    have hsw := hsw.2
    by_cases hc2 : op = 2
    · have hw := hsw.1 hc2
      refine lv_tableIn (off := 145) (tgt := 204) hx hb d_L_law_59 (by rw [hc2]; decide) (by rw [hc2]; decide) (by rw [hc2]; decide) rfl ?_
      refine lv_aload_n hx hb d_L_law_204 rfl (lv_at hl 3 rfl) ?_
      refine lv_aload_n hx hb d_L_law_205 rfl (lv_at hl 4 rfl) ?_
      refine lv_iload hx hb d_L_law_206 (lv_at hl 0 rfl) ?_
      refine lv_iconst (v := 1) hx hb d_L_law_208 (by decide) ?_
      refine lv_iadd hx hb d_L_law_209 ?_
      rw [nI_1 j]
      refine va_sld hx hb hXs hbl hbA hV.2.2 (vp_in_nI (by omega) (by omega)) d_L_law_210 ?_
      rw [nI_clamp (by omega)]
      refine lv_aload_n hx hb d_L_law_211 rfl (lv_at hl 1 rfl) ?_
      refine lc_H (cc := code) (As := [.ref (ea E 0 0), .int (xs (j + 1)), .ref (ea E 50 0)]) (rest := []) (hh := [(0, 9, 12, 24)]) ⟨hx, hb, hml, hown, hts⟩ (c_L_run l hl0 E f (xs (j + 1)) _ hw) (vx_cwSW 3 hts (gi_S gm_344 gm_345 gm_71 gm_346) rfl rfl rfl (by decide +kernel) ⟨Nat.le_of_ble_eq_true rfl, Nat.le_of_ble_eq_true rfl⟩) hap hA hV hT hK hX hY rfl hl.1 rfl (Nat.le_of_ble_eq_true rfl) d_L_law_212 hrc (fun k5 f1 H locs hw hV hT => ?_)
      refine lv_istore (lv' := [(5, .int k5), (4, .int (nI j)), (3, .ref (ea E 50 0)), (2, .ref (ea E 20 0)), (1, .ref (ea E 0 0)), (0, .ref b)]) hx hb d_L_law_215 hl (by decide) rfl (fun ls hl => ?_)
      refine lv_aload_n hx hb d_L_law_217 rfl (lv_at hl 3 rfl) ?_
      refine lv_aload_n hx hb d_L_law_218 rfl (lv_at hl 5 rfl) ?_
      refine lv_iload hx hb d_L_law_219 (lv_at hl 1 rfl) ?_
      refine lv_iconst (v := 1) hx hb d_L_law_221 (by decide) ?_
      refine lv_iadd hx hb d_L_law_222 ?_
      rw [nI_1 j]
      refine va_sld hx hb hXs hbl hbA hV.2.2 (vp_in_nI (by omega) (by omega)) d_L_law_223 ?_
      rw [nI_clamp (by omega)]
      refine lc_Vi (cc := code) (C := R_M) (As := [.int (xs (j + 1))]) (rest := []) ⟨hx, hb, hml, hown, hts⟩ (c_M_run l E t (xs (j + 1)) _ hw) (cwV 1 hts (gi_V gm_817 gm_818 gm_819 gm_76 gm_820) rfl rfl rfl (by decide +kernel) ⟨Nat.le_of_ble_eq_true rfl, Nat.le_of_ble_eq_true rfl⟩) hap.symm hA hT hV hK hX (g_recv hK hT mm_20 rfl rfl) rfl hl.1 rfl (Nat.le_of_ble_eq_true rfl) d_L_law_224 ⟨Nat.le_trans (by omega) hrc.1, Nat.le_trans (by omega) hrc.2⟩ (fun r1 t2 H locs hw hT hV => ?_)
      refine lv_istore (lv' := [(6, .int r1), (5, .int k5), (4, .int (nI j)), (3, .ref (ea E 50 0)), (2, .ref (ea E 20 0)), (1, .ref (ea E 0 0)), (0, .ref b)]) hx hb d_L_law_227 hl (by decide) rfl (fun ls hl => ?_)
      refine lv_aload_n hx hb d_L_law_229 rfl (lv_at hl 4 rfl) ?_
      refine lc_Vi (cc := code) (C := R_M) (As := []) (rest := []) ⟨hx, hb, hml, hown, hts⟩ (c_M_thrown l E t2 _ hw) (cwV 0 hts (gi_V gm_801 gm_802 gm_803 gm_76 gm_804) rfl rfl rfl (by decide +kernel) ⟨Nat.le_of_ble_eq_true rfl, Nat.le_of_ble_eq_true rfl⟩) hap.symm hA hT hV hK hX (g_recv hK hT mm_20 rfl rfl) rfl hl.1 rfl (Nat.le_of_ble_eq_true rfl) d_L_law_230 ⟨Nat.le_trans (by omega) hrc.1, Nat.le_trans (by omega) hrc.2⟩ (fun r2 t3 H locs hw hT hV => ?_)
      refine lv_iload hx hb d_L_law_233 (lv_at hl 1 rfl) ?_
      refine lv_icmp_eq (tgt := 240) hx hb d_L_law_235 rfl (fun hq => ?_) (fun hq => absurd hw.1 hq)
      have hw := hw.2
      refine lv_iload hx hb d_L_law_240 (lv_at hl 1 rfl) ?_
      refine lv_if_ne (tgt := 257) hx hb d_L_law_242 rfl (fun hq => ?_) (fun hq => ?_)
      · refine lv_goto (tgt := 863) hx hb d_L_law_257 rfl ?_
        exact K863 (109 + j + 1) (8215 + 6 * j + 6) ls H _ f1 t3 (by omega) (by omega) hw.2 (lv_sub hl [2, 3, 4, 5, 6] rfl) hV hT
      · refine lv_aload_n hx hb d_L_law_245 rfl (lv_at hl 3 rfl) ?_
        refine lv_iconst (v := 0) hx hb d_L_law_246 (by decide) ?_
        refine kl_50 hx hb hK hV d_L_law_247 ?_
        refine lv_iload hx hb d_L_law_248 (lv_at hl 0 rfl) ?_
        refine lv_i2l hx hb d_L_law_250 rfl ?_
        refine W.lcmp hx hb d_L_law_251 ?_
        refine lv_if_eq (tgt := 257) hx hb d_L_law_252 rfl (fun _ => ?_) (fun hz => absurd (lg_cmp0 (by rw [hw.1 hq])) hz)
        refine lv_goto (tgt := 863) hx hb d_L_law_257 rfl ?_
        exact K863 (109 + j + 1) (8215 + 6 * j + 6) ls H _ f1 t3 (by omega) (by omega) hw.2 (lv_sub hl [2, 3, 4, 5, 6] rfl) hV hT
    have hsw := hsw.2
    by_cases hc3 : op = 3
    · have hw := hsw.1 hc3
      refine lv_tableIn (off := 201) (tgt := 260) hx hb d_L_law_59 (by rw [hc3]; decide) (by rw [hc3]; decide) (by rw [hc3]; decide) rfl ?_
      refine lv_aload_n hx hb d_L_law_260 rfl (lv_at hl 3 rfl) ?_
      refine lv_aload_n hx hb d_L_law_261 rfl (lv_at hl 4 rfl) ?_
      refine lv_iload hx hb d_L_law_262 (lv_at hl 0 rfl) ?_
      refine lv_iconst (v := 1) hx hb d_L_law_264 (by decide) ?_
      refine lv_iadd hx hb d_L_law_265 ?_
      rw [nI_1 j]
      refine va_sld hx hb hXs hbl hbA hV.2.2 (vp_in_nI (by omega) (by omega)) d_L_law_266 ?_
      rw [nI_clamp (by omega)]
      refine lv_aload_n hx hb d_L_law_267 rfl (lv_at hl 1 rfl) ?_
      refine lc_H (cc := code) (As := [.ref (ea E 0 0), .int (xs (j + 1)), .ref (ea E 50 0)]) (rest := []) (hh := [(0, 9, 12, 15)]) ⟨hx, hb, hml, hown, hts⟩ (c_L_feed l hl0 E f (xs (j + 1)) _ hw) (vx_cwSW 3 hts (gi_S gm_627 gm_628 gm_71 gm_629) rfl rfl rfl (by decide +kernel) ⟨Nat.le_of_ble_eq_true rfl, Nat.le_of_ble_eq_true rfl⟩) hap hA hV hT hK hX hY rfl hl.1 rfl (Nat.le_of_ble_eq_true rfl) d_L_law_268 hrc (fun k5 f1 H locs hw hV hT => ?_)
      refine lv_istore (lv' := [(5, .int k5), (4, .int (nI j)), (3, .ref (ea E 50 0)), (2, .ref (ea E 20 0)), (1, .ref (ea E 0 0)), (0, .ref b)]) hx hb d_L_law_271 hl (by decide) rfl (fun ls hl => ?_)
      refine lv_aload_n hx hb d_L_law_273 rfl (lv_at hl 3 rfl) ?_
      refine lv_aload_n hx hb d_L_law_274 rfl (lv_at hl 5 rfl) ?_
      refine lv_iload hx hb d_L_law_275 (lv_at hl 1 rfl) ?_
      refine lv_iconst (v := 1) hx hb d_L_law_277 (by decide) ?_
      refine lv_iadd hx hb d_L_law_278 ?_
      rw [nI_1 j]
      refine va_sld hx hb hXs hbl hbA hV.2.2 (vp_in_nI (by omega) (by omega)) d_L_law_279 ?_
      rw [nI_clamp (by omega)]
      refine lc_Vi (cc := code) (C := R_M) (As := [.int (xs (j + 1))]) (rest := []) ⟨hx, hb, hml, hown, hts⟩ (c_M_feed l E t (xs (j + 1)) _ hw) (cwV 1 hts (gi_V gm_958 gm_959 gm_960 gm_76 gm_961) rfl rfl rfl (by decide +kernel) ⟨Nat.le_of_ble_eq_true rfl, Nat.le_of_ble_eq_true rfl⟩) hap.symm hA hT hV hK hX (g_recv hK hT mm_20 rfl rfl) rfl hl.1 rfl (Nat.le_of_ble_eq_true rfl) d_L_law_280 ⟨Nat.le_trans (by omega) hrc.1, Nat.le_trans (by omega) hrc.2⟩ (fun r1 t2 H locs hw hT hV => ?_)
      refine lv_istore (lv' := [(6, .int r1), (5, .int k5), (4, .int (nI j)), (3, .ref (ea E 50 0)), (2, .ref (ea E 20 0)), (1, .ref (ea E 0 0)), (0, .ref b)]) hx hb d_L_law_283 hl (by decide) rfl (fun ls hl => ?_)
      refine lv_aload_n hx hb d_L_law_285 rfl (lv_at hl 4 rfl) ?_
      refine lc_Vi (cc := code) (C := R_M) (As := []) (rest := []) ⟨hx, hb, hml, hown, hts⟩ (c_M_thrown l E t2 _ hw) (cwV 0 hts (gi_V gm_801 gm_802 gm_803 gm_76 gm_804) rfl rfl rfl (by decide +kernel) ⟨Nat.le_of_ble_eq_true rfl, Nat.le_of_ble_eq_true rfl⟩) hap.symm hA hT hV hK hX (g_recv hK hT mm_20 rfl rfl) rfl hl.1 rfl (Nat.le_of_ble_eq_true rfl) d_L_law_286 ⟨Nat.le_trans (by omega) hrc.1, Nat.le_trans (by omega) hrc.2⟩ (fun r2 t3 H locs hw hT hV => ?_)
      refine lv_iload hx hb d_L_law_289 (lv_at hl 1 rfl) ?_
      refine lv_icmp_eq (tgt := 296) hx hb d_L_law_291 rfl (fun hq => ?_) (fun hq => absurd hw.1 hq)
      have hw := hw.2
      refine lv_iload hx hb d_L_law_296 (lv_at hl 1 rfl) ?_
      refine lv_if_ne (tgt := 313) hx hb d_L_law_298 rfl (fun hq => ?_) (fun hq => ?_)
      · refine lv_goto (tgt := 863) hx hb d_L_law_313 rfl ?_
        exact K863 (109 + j + 1) (8215 + 6 * j + 6) ls H _ f1 t3 (by omega) (by omega) hw.2 (lv_sub hl [2, 3, 4, 5, 6] rfl) hV hT
      · refine lv_aload_n hx hb d_L_law_301 rfl (lv_at hl 3 rfl) ?_
        refine lv_iconst (v := 0) hx hb d_L_law_302 (by decide) ?_
        refine kl_50 hx hb hK hV d_L_law_303 ?_
        refine lv_iload hx hb d_L_law_304 (lv_at hl 0 rfl) ?_
        refine lv_i2l hx hb d_L_law_306 rfl ?_
        refine W.lcmp hx hb d_L_law_307 ?_
        refine lv_if_eq (tgt := 313) hx hb d_L_law_308 rfl (fun _ => ?_) (fun hz => absurd (lg_cmp0 (by rw [hw.1 hq])) hz)
        refine lv_goto (tgt := 863) hx hb d_L_law_313 rfl ?_
        exact K863 (109 + j + 1) (8215 + 6 * j + 6) ls H _ f1 t3 (by omega) (by omega) hw.2 (lv_sub hl [2, 3, 4, 5, 6] rfl) hV hT
    have hsw := hsw.2
    by_cases hc4 : op = 4
    · have hw := hsw.1 hc4
      refine lv_tableIn (off := 257) (tgt := 316) hx hb d_L_law_59 (by rw [hc4]; decide) (by rw [hc4]; decide) (by rw [hc4]; decide) rfl ?_
      refine lv_aload_n hx hb d_L_law_316 rfl (lv_at hl 3 rfl) ?_
      refine lc_Vi (cc := code) (C := R_K) (As := []) (rest := []) ⟨hx, hb, hml, hown, hts⟩ (c_K_shut l E f _ hw) (cwV 0 hts (gi_V gm_217 gm_218 gm_219 gm_72 gm_220) rfl rfl rfl (by decide +kernel) ⟨Nat.le_of_ble_eq_true rfl, Nat.le_of_ble_eq_true rfl⟩) hap hA hV hT hK hX (g_recv hK hV kk_0 rfl rfl) rfl hl.1 rfl (Nat.le_of_ble_eq_true rfl) d_L_law_317 ⟨Nat.le_trans (by omega) hrc.1, Nat.le_trans (by omega) hrc.2⟩ (fun r1 f2 H locs hw hV hT => ?_)
      refine lv_aload_n hx hb d_L_law_320 rfl (lv_at hl 2 rfl) ?_
      refine lc_Vi (cc := code) (C := R_M) (As := []) (rest := [.int r1]) ⟨hx, hb, hml, hown, hts⟩ (c_M_shut l E t _ hw) (cwV 0 hts (gi_V gm_962 gm_963 gm_964 gm_76 gm_965) rfl rfl rfl (by decide +kernel) ⟨Nat.le_of_ble_eq_true rfl, Nat.le_of_ble_eq_true rfl⟩) hap.symm hA hT hV hK hX (g_recv hK hT mm_20 rfl rfl) rfl hl.1 rfl (Nat.le_of_ble_eq_true rfl) d_L_law_321 ⟨Nat.le_trans (by omega) hrc.1, Nat.le_trans (by omega) hrc.2⟩ (fun r2 t3 H locs hw hT hV => ?_)
      refine lv_icmp_eq (tgt := 863) hx hb d_L_law_324 rfl (fun hq => ?_) (fun hq => absurd hw.1 hq)
      have hw := hw.2
      exact K863 (109 + j) (8215 + 6 * j) ls H _ f2 t3 (by omega) (by omega) hw (lv_sub hl [0, 1, 2, 3, 4] rfl) hV hT
    have hsw := hsw.2
    by_cases hc5 : op = 5
    · have hw := hsw.1 hc5
      refine lv_tableIn (off := 270) (tgt := 329) hx hb d_L_law_59 (by rw [hc5]; decide) (by rw [hc5]; decide) (by rw [hc5]; decide) rfl ?_
      refine lv_aload_n hx hb d_L_law_329 rfl (lv_at hl 3 rfl) ?_
      refine lc_Vi (cc := code) (C := R_K) (As := []) (rest := []) ⟨hx, hb, hml, hown, hts⟩ (c_K_time l E f _ hw) (cwV 0 hts (gi_V gm_233 gm_234 gm_235 gm_72 gm_236) rfl rfl rfl (by decide +kernel) ⟨Nat.le_of_ble_eq_true rfl, Nat.le_of_ble_eq_true rfl⟩) hap hA hV hT hK hX (g_recv hK hV kk_0 rfl rfl) rfl hl.1 rfl (Nat.le_of_ble_eq_true rfl) d_L_law_330 ⟨Nat.le_trans (by omega) hrc.1, Nat.le_trans (by omega) hrc.2⟩ (fun r1 f2 H locs hw hV hT => ?_)
      refine lv_aload_n hx hb d_L_law_333 rfl (lv_at hl 2 rfl) ?_
      refine lc_Vi (cc := code) (C := R_M) (As := []) (rest := [.int r1]) ⟨hx, hb, hml, hown, hts⟩ (c_M_time l E t _ hw) (cwV 0 hts (gi_V gm_966 gm_967 gm_968 gm_76 gm_969) rfl rfl rfl (by decide +kernel) ⟨Nat.le_of_ble_eq_true rfl, Nat.le_of_ble_eq_true rfl⟩) hap.symm hA hT hV hK hX (g_recv hK hT mm_20 rfl rfl) rfl hl.1 rfl (Nat.le_of_ble_eq_true rfl) d_L_law_334 ⟨Nat.le_trans (by omega) hrc.1, Nat.le_trans (by omega) hrc.2⟩ (fun r2 t3 H locs hw hT hV => ?_)
      refine lv_icmp_eq (tgt := 863) hx hb d_L_law_337 rfl (fun hq => ?_) (fun hq => absurd hw.1 hq)
      have hw := hw.2
      exact K863 (109 + j) (8215 + 6 * j) ls H _ f2 t3 (by omega) (by omega) hw (lv_sub hl [0, 1, 2, 3, 4] rfl) hV hT
    have hsw := hsw.2
    by_cases hc6 : op = 6
    · have hw := hsw.1 hc6
      refine lv_tableIn (off := 283) (tgt := 342) hx hb d_L_law_59 (by rw [hc6]; decide) (by rw [hc6]; decide) (by rw [hc6]; decide) rfl ?_
      refine lv_aload_n hx hb d_L_law_342 rfl (lv_at hl 3 rfl) ?_
      refine lv_aload_n hx hb d_L_law_343 rfl (lv_at hl 4 rfl) ?_
      refine lv_iload hx hb d_L_law_344 (lv_at hl 0 rfl) ?_
      refine lv_iconst (v := 1) hx hb d_L_law_346 (by decide) ?_
      refine lv_iadd hx hb d_L_law_347 ?_
      rw [nI_1 j]
      refine va_sld hx hb hXs hbl hbA hV.2.2 (vp_in_nI (by omega) (by omega)) d_L_law_348 ?_
      rw [nI_clamp (by omega)]
      refine lv_aload_n hx hb d_L_law_349 rfl (lv_at hl 1 rfl) ?_
      refine lc_H (cc := code) (As := [.ref (ea E 0 0), .int (xs (j + 1)), .ref (ea E 50 0)]) (rest := []) (hh := [(0, 9, 12, 13)]) ⟨hx, hb, hml, hown, hts⟩ (c_L_state l hl0 E f (xs (j + 1)) _ hw) (vx_cwSW 3 hts (gi_S gm_635 gm_636 gm_71 gm_637) rfl rfl rfl (by decide +kernel) ⟨Nat.le_of_ble_eq_true rfl, Nat.le_of_ble_eq_true rfl⟩) hap hA hV hT hK hX hY rfl hl.1 rfl (Nat.le_of_ble_eq_true rfl) d_L_law_350 hrc (fun k5 f1 H locs hw hV hT => ?_)
      refine lv_istore (lv' := [(5, .int k5), (4, .int (nI j)), (3, .ref (ea E 50 0)), (2, .ref (ea E 20 0)), (1, .ref (ea E 0 0)), (0, .ref b)]) hx hb d_L_law_353 hl (by decide) rfl (fun ls hl => ?_)
      refine lv_aload_n hx hb d_L_law_355 rfl (lv_at hl 3 rfl) ?_
      refine lv_aload_n hx hb d_L_law_356 rfl (lv_at hl 5 rfl) ?_
      refine lv_iload hx hb d_L_law_357 (lv_at hl 1 rfl) ?_
      refine lv_iconst (v := 1) hx hb d_L_law_359 (by decide) ?_
      refine lv_iadd hx hb d_L_law_360 ?_
      rw [nI_1 j]
      refine va_sld hx hb hXs hbl hbA hV.2.2 (vp_in_nI (by omega) (by omega)) d_L_law_361 ?_
      rw [nI_clamp (by omega)]
      refine lc_Vi (cc := code) (C := R_M) (As := [.int (xs (j + 1))]) (rest := []) ⟨hx, hb, hml, hown, hts⟩ (c_M_state l E t (xs (j + 1)) _ hw) (cwV 1 hts (gi_V gm_970 gm_971 gm_972 gm_76 gm_973) rfl rfl rfl (by decide +kernel) ⟨Nat.le_of_ble_eq_true rfl, Nat.le_of_ble_eq_true rfl⟩) hap.symm hA hT hV hK hX (g_recv hK hT mm_20 rfl rfl) rfl hl.1 rfl (Nat.le_of_ble_eq_true rfl) d_L_law_362 ⟨Nat.le_trans (by omega) hrc.1, Nat.le_trans (by omega) hrc.2⟩ (fun r1 t2 H locs hw hT hV => ?_)
      refine lv_istore (lv' := [(6, .int r1), (5, .int k5), (4, .int (nI j)), (3, .ref (ea E 50 0)), (2, .ref (ea E 20 0)), (1, .ref (ea E 0 0)), (0, .ref b)]) hx hb d_L_law_365 hl (by decide) rfl (fun ls hl => ?_)
      refine lv_aload_n hx hb d_L_law_367 rfl (lv_at hl 4 rfl) ?_
      refine lc_Vi (cc := code) (C := R_M) (As := []) (rest := []) ⟨hx, hb, hml, hown, hts⟩ (c_M_thrown l E t2 _ hw) (cwV 0 hts (gi_V gm_801 gm_802 gm_803 gm_76 gm_804) rfl rfl rfl (by decide +kernel) ⟨Nat.le_of_ble_eq_true rfl, Nat.le_of_ble_eq_true rfl⟩) hap.symm hA hT hV hK hX (g_recv hK hT mm_20 rfl rfl) rfl hl.1 rfl (Nat.le_of_ble_eq_true rfl) d_L_law_368 ⟨Nat.le_trans (by omega) hrc.1, Nat.le_trans (by omega) hrc.2⟩ (fun r2 t3 H locs hw hT hV => ?_)
      refine lv_iload hx hb d_L_law_371 (lv_at hl 1 rfl) ?_
      refine lv_icmp_eq (tgt := 378) hx hb d_L_law_373 rfl (fun hq => ?_) (fun hq => absurd hw.1 hq)
      have hw := hw.2
      refine lv_iload hx hb d_L_law_378 (lv_at hl 1 rfl) ?_
      refine lv_if_ne (tgt := 395) hx hb d_L_law_380 rfl (fun hq => ?_) (fun hq => ?_)
      · refine lv_goto (tgt := 863) hx hb d_L_law_395 rfl ?_
        exact K863 (109 + j + 1) (8215 + 6 * j + 6) ls H _ f1 t3 (by omega) (by omega) hw.2 (lv_sub hl [2, 3, 4, 5, 6] rfl) hV hT
      · refine lv_aload_n hx hb d_L_law_383 rfl (lv_at hl 3 rfl) ?_
        refine lv_iconst (v := 0) hx hb d_L_law_384 (by decide) ?_
        refine kl_50 hx hb hK hV d_L_law_385 ?_
        refine lv_iload hx hb d_L_law_386 (lv_at hl 0 rfl) ?_
        refine lv_i2l hx hb d_L_law_388 rfl ?_
        refine W.lcmp hx hb d_L_law_389 ?_
        refine lv_if_eq (tgt := 395) hx hb d_L_law_390 rfl (fun _ => ?_) (fun hz => absurd (lg_cmp0 (by rw [hw.1 hq])) hz)
        refine lv_goto (tgt := 863) hx hb d_L_law_395 rfl ?_
        exact K863 (109 + j + 1) (8215 + 6 * j + 6) ls H _ f1 t3 (by omega) (by omega) hw.2 (lv_sub hl [2, 3, 4, 5, 6] rfl) hV hT
    have hsw := hsw.2
    by_cases hc7 : op = 7
    · have hw := hsw.1 hc7
      refine lv_tableIn (off := 339) (tgt := 398) hx hb d_L_law_59 (by rw [hc7]; decide) (by rw [hc7]; decide) (by rw [hc7]; decide) rfl ?_
      refine lv_aload_n hx hb d_L_law_398 rfl (lv_at hl 3 rfl) ?_
      refine lv_aload_n hx hb d_L_law_399 rfl (lv_at hl 4 rfl) ?_
      refine lv_iload hx hb d_L_law_400 (lv_at hl 0 rfl) ?_
      refine lv_iconst (v := 1) hx hb d_L_law_402 (by decide) ?_
      refine lv_iadd hx hb d_L_law_403 ?_
      rw [nI_1 j]
      refine va_sld hx hb hXs hbl hbA hV.2.2 (vp_in_nI (by omega) (by omega)) d_L_law_404 ?_
      rw [nI_clamp (by omega)]
      refine lv_aload_n hx hb d_L_law_405 rfl (lv_at hl 4 rfl) ?_
      refine lv_iload hx hb d_L_law_406 (lv_at hl 0 rfl) ?_
      refine lv_iconst (v := 2) hx hb d_L_law_408 (by decide) ?_
      refine lv_iadd hx hb d_L_law_409 ?_
      rw [lw_n2 j]
      refine va_sld hx hb hXs hbl hbA hV.2.2 (vp_in_nI (by omega) (by omega)) d_L_law_410 ?_
      rw [nI_clamp (by omega)]
      refine lv_aload_n hx hb d_L_law_411 rfl (lv_at hl 1 rfl) ?_
      refine lc_H (cc := code) (As := [.ref (ea E 0 0), .int (xs (j + 1)), .int (xs (j + 2)), .ref (ea E 50 0)]) (rest := []) (hh := [(0, 10, 13, 13), (0, 10, 17, 24), (0, 10, 21, 15)]) ⟨hx, hb, hml, hown, hts⟩ (c_L_about l hl0 E f (xs (j + 1)) (xs (j + 2)) _ hw) (vx_cwSW 4 hts (gi_S gm_643 gm_644 gm_71 gm_645) rfl rfl rfl (by decide +kernel) ⟨Nat.le_of_ble_eq_true rfl, Nat.le_of_ble_eq_true rfl⟩) hap hA hV hT hK hX hY rfl hl.1 rfl (Nat.le_of_ble_eq_true rfl) d_L_law_412 hrc (fun k5 f1 H locs hw hV hT => ?_)
      refine lv_istore (lv' := [(5, .int k5), (4, .int (nI j)), (3, .ref (ea E 50 0)), (2, .ref (ea E 20 0)), (1, .ref (ea E 0 0)), (0, .ref b)]) hx hb d_L_law_415 hl (by decide) rfl (fun ls hl => ?_)
      refine lv_aload_n hx hb d_L_law_417 rfl (lv_at hl 3 rfl) ?_
      refine lv_aload_n hx hb d_L_law_418 rfl (lv_at hl 5 rfl) ?_
      refine lv_iload hx hb d_L_law_419 (lv_at hl 1 rfl) ?_
      refine lv_iconst (v := 1) hx hb d_L_law_421 (by decide) ?_
      refine lv_iadd hx hb d_L_law_422 ?_
      rw [nI_1 j]
      refine va_sld hx hb hXs hbl hbA hV.2.2 (vp_in_nI (by omega) (by omega)) d_L_law_423 ?_
      rw [nI_clamp (by omega)]
      refine lv_aload_n hx hb d_L_law_424 rfl (lv_at hl 5 rfl) ?_
      refine lv_iload hx hb d_L_law_425 (lv_at hl 1 rfl) ?_
      refine lv_iconst (v := 2) hx hb d_L_law_427 (by decide) ?_
      refine lv_iadd hx hb d_L_law_428 ?_
      rw [lw_n2 j]
      refine va_sld hx hb hXs hbl hbA hV.2.2 (vp_in_nI (by omega) (by omega)) d_L_law_429 ?_
      rw [nI_clamp (by omega)]
      refine lc_Vi (cc := code) (C := R_M) (As := [.int (xs (j + 1)), .int (xs (j + 2))]) (rest := []) ⟨hx, hb, hml, hown, hts⟩ (c_M_about l E t (xs (j + 1)) (xs (j + 2)) _ hw) (cwV 2 hts (gi_V gm_978 gm_979 gm_980 gm_76 gm_981) rfl rfl rfl (by decide +kernel) ⟨Nat.le_of_ble_eq_true rfl, Nat.le_of_ble_eq_true rfl⟩) hap.symm hA hT hV hK hX (g_recv hK hT mm_20 rfl rfl) rfl hl.1 rfl (Nat.le_of_ble_eq_true rfl) d_L_law_430 ⟨Nat.le_trans (by omega) hrc.1, Nat.le_trans (by omega) hrc.2⟩ (fun r1 t2 H locs hw hT hV => ?_)
      refine lv_istore (lv' := [(6, .int r1), (5, .int k5), (4, .int (nI j)), (3, .ref (ea E 50 0)), (2, .ref (ea E 20 0)), (1, .ref (ea E 0 0)), (0, .ref b)]) hx hb d_L_law_433 hl (by decide) rfl (fun ls hl => ?_)
      refine lv_aload_n hx hb d_L_law_435 rfl (lv_at hl 4 rfl) ?_
      refine lc_Vi (cc := code) (C := R_M) (As := []) (rest := []) ⟨hx, hb, hml, hown, hts⟩ (c_M_thrown l E t2 _ hw) (cwV 0 hts (gi_V gm_801 gm_802 gm_803 gm_76 gm_804) rfl rfl rfl (by decide +kernel) ⟨Nat.le_of_ble_eq_true rfl, Nat.le_of_ble_eq_true rfl⟩) hap.symm hA hT hV hK hX (g_recv hK hT mm_20 rfl rfl) rfl hl.1 rfl (Nat.le_of_ble_eq_true rfl) d_L_law_436 ⟨Nat.le_trans (by omega) hrc.1, Nat.le_trans (by omega) hrc.2⟩ (fun r2 t3 H locs hw hT hV => ?_)
      refine lv_iload hx hb d_L_law_439 (lv_at hl 1 rfl) ?_
      refine lv_icmp_eq (tgt := 446) hx hb d_L_law_441 rfl (fun hq => ?_) (fun hq => absurd hw.1 hq)
      have hw := hw.2
      refine lv_iload hx hb d_L_law_446 (lv_at hl 1 rfl) ?_
      refine lv_if_ne (tgt := 463) hx hb d_L_law_448 rfl (fun hq => ?_) (fun hq => ?_)
      · refine lv_goto (tgt := 863) hx hb d_L_law_463 rfl ?_
        exact K863 (109 + j + 1) (8215 + 6 * j + 6) ls H _ f1 t3 (by omega) (by omega) hw.2 (lv_sub hl [2, 3, 4, 5, 6] rfl) hV hT
      · refine lv_aload_n hx hb d_L_law_451 rfl (lv_at hl 3 rfl) ?_
        refine lv_iconst (v := 0) hx hb d_L_law_452 (by decide) ?_
        refine kl_50 hx hb hK hV d_L_law_453 ?_
        refine lv_iload hx hb d_L_law_454 (lv_at hl 0 rfl) ?_
        refine lv_i2l hx hb d_L_law_456 rfl ?_
        refine W.lcmp hx hb d_L_law_457 ?_
        refine lv_if_eq (tgt := 463) hx hb d_L_law_458 rfl (fun _ => ?_) (fun hz => absurd (lg_cmp0 (by rw [hw.1 hq])) hz)
        refine lv_goto (tgt := 863) hx hb d_L_law_463 rfl ?_
        exact K863 (109 + j + 1) (8215 + 6 * j + 6) ls H _ f1 t3 (by omega) (by omega) hw.2 (lv_sub hl [2, 3, 4, 5, 6] rfl) hV hT
    have hsw := hsw.2
    by_cases hc8 : op = 8
    · have hw := hsw.1 hc8
      refine lv_tableIn (off := 407) (tgt := 466) hx hb d_L_law_59 (by rw [hc8]; decide) (by rw [hc8]; decide) (by rw [hc8]; decide) rfl ?_
      refine lv_aload_n hx hb d_L_law_466 rfl (lv_at hl 3 rfl) ?_
      refine lv_aload_n hx hb d_L_law_467 rfl (lv_at hl 4 rfl) ?_
      refine lv_iload hx hb d_L_law_468 (lv_at hl 0 rfl) ?_
      refine lv_iconst (v := 1) hx hb d_L_law_470 (by decide) ?_
      refine lv_iadd hx hb d_L_law_471 ?_
      rw [nI_1 j]
      refine va_sld hx hb hXs hbl hbA hV.2.2 (vp_in_nI (by omega) (by omega)) d_L_law_472 ?_
      rw [nI_clamp (by omega)]
      refine lv_aload_n hx hb d_L_law_473 rfl (lv_at hl 4 rfl) ?_
      refine lv_iload hx hb d_L_law_474 (lv_at hl 0 rfl) ?_
      refine lv_iconst (v := 2) hx hb d_L_law_476 (by decide) ?_
      refine lv_iadd hx hb d_L_law_477 ?_
      rw [lw_n2 j]
      refine va_sld hx hb hXs hbl hbA hV.2.2 (vp_in_nI (by omega) (by omega)) d_L_law_478 ?_
      rw [nI_clamp (by omega)]
      refine lv_aload_n hx hb d_L_law_479 rfl (lv_at hl 1 rfl) ?_
      refine lc_H (cc := code) (As := [.ref (ea E 0 0), .int (xs (j + 1)), .int (xs (j + 2)), .ref (ea E 50 0)]) (rest := []) (hh := [(0, 10, 13, 13)]) ⟨hx, hb, hml, hown, hts⟩ (c_L_stack l hl0 E f (xs (j + 1)) (xs (j + 2)) _ hw) (vx_cwSW 4 hts (gi_S gm_653 gm_654 gm_71 gm_655) rfl rfl rfl (by decide +kernel) ⟨Nat.le_of_ble_eq_true rfl, Nat.le_of_ble_eq_true rfl⟩) hap hA hV hT hK hX hY rfl hl.1 rfl (Nat.le_of_ble_eq_true rfl) d_L_law_480 hrc (fun k5 f1 H locs hw hV hT => ?_)
      refine lv_istore (lv' := [(5, .int k5), (4, .int (nI j)), (3, .ref (ea E 50 0)), (2, .ref (ea E 20 0)), (1, .ref (ea E 0 0)), (0, .ref b)]) hx hb d_L_law_483 hl (by decide) rfl (fun ls hl => ?_)
      refine lv_aload_n hx hb d_L_law_485 rfl (lv_at hl 3 rfl) ?_
      refine lv_aload_n hx hb d_L_law_486 rfl (lv_at hl 5 rfl) ?_
      refine lv_iload hx hb d_L_law_487 (lv_at hl 1 rfl) ?_
      refine lv_iconst (v := 1) hx hb d_L_law_489 (by decide) ?_
      refine lv_iadd hx hb d_L_law_490 ?_
      rw [nI_1 j]
      refine va_sld hx hb hXs hbl hbA hV.2.2 (vp_in_nI (by omega) (by omega)) d_L_law_491 ?_
      rw [nI_clamp (by omega)]
      refine lv_aload_n hx hb d_L_law_492 rfl (lv_at hl 5 rfl) ?_
      refine lv_iload hx hb d_L_law_493 (lv_at hl 1 rfl) ?_
      refine lv_iconst (v := 2) hx hb d_L_law_495 (by decide) ?_
      refine lv_iadd hx hb d_L_law_496 ?_
      rw [lw_n2 j]
      refine va_sld hx hb hXs hbl hbA hV.2.2 (vp_in_nI (by omega) (by omega)) d_L_law_497 ?_
      rw [nI_clamp (by omega)]
      refine lc_Vi (cc := code) (C := R_M) (As := [.int (xs (j + 1)), .int (xs (j + 2))]) (rest := []) ⟨hx, hb, hml, hown, hts⟩ (c_M_stack l E t (xs (j + 1)) (xs (j + 2)) _ hw) (cwV 2 hts (gi_V gm_982 gm_983 gm_984 gm_76 gm_985) rfl rfl rfl (by decide +kernel) ⟨Nat.le_of_ble_eq_true rfl, Nat.le_of_ble_eq_true rfl⟩) hap.symm hA hT hV hK hX (g_recv hK hT mm_20 rfl rfl) rfl hl.1 rfl (Nat.le_of_ble_eq_true rfl) d_L_law_498 ⟨Nat.le_trans (by omega) hrc.1, Nat.le_trans (by omega) hrc.2⟩ (fun r1 t2 H locs hw hT hV => ?_)
      refine lv_istore (lv' := [(6, .int r1), (5, .int k5), (4, .int (nI j)), (3, .ref (ea E 50 0)), (2, .ref (ea E 20 0)), (1, .ref (ea E 0 0)), (0, .ref b)]) hx hb d_L_law_501 hl (by decide) rfl (fun ls hl => ?_)
      refine lv_aload_n hx hb d_L_law_503 rfl (lv_at hl 4 rfl) ?_
      refine lc_Vi (cc := code) (C := R_M) (As := []) (rest := []) ⟨hx, hb, hml, hown, hts⟩ (c_M_thrown l E t2 _ hw) (cwV 0 hts (gi_V gm_801 gm_802 gm_803 gm_76 gm_804) rfl rfl rfl (by decide +kernel) ⟨Nat.le_of_ble_eq_true rfl, Nat.le_of_ble_eq_true rfl⟩) hap.symm hA hT hV hK hX (g_recv hK hT mm_20 rfl rfl) rfl hl.1 rfl (Nat.le_of_ble_eq_true rfl) d_L_law_504 ⟨Nat.le_trans (by omega) hrc.1, Nat.le_trans (by omega) hrc.2⟩ (fun r2 t3 H locs hw hT hV => ?_)
      refine lv_iload hx hb d_L_law_507 (lv_at hl 1 rfl) ?_
      refine lv_icmp_eq (tgt := 514) hx hb d_L_law_509 rfl (fun hq => ?_) (fun hq => absurd hw.1 hq)
      have hw := hw.2
      refine lv_iload hx hb d_L_law_514 (lv_at hl 1 rfl) ?_
      refine lv_if_ne (tgt := 531) hx hb d_L_law_516 rfl (fun hq => ?_) (fun hq => ?_)
      · refine lv_goto (tgt := 863) hx hb d_L_law_531 rfl ?_
        exact K863 (109 + j + 1) (8215 + 6 * j + 6) ls H _ f1 t3 (by omega) (by omega) hw.2 (lv_sub hl [2, 3, 4, 5, 6] rfl) hV hT
      · refine lv_aload_n hx hb d_L_law_519 rfl (lv_at hl 3 rfl) ?_
        refine lv_iconst (v := 0) hx hb d_L_law_520 (by decide) ?_
        refine kl_50 hx hb hK hV d_L_law_521 ?_
        refine lv_iload hx hb d_L_law_522 (lv_at hl 0 rfl) ?_
        refine lv_i2l hx hb d_L_law_524 rfl ?_
        refine W.lcmp hx hb d_L_law_525 ?_
        refine lv_if_eq (tgt := 531) hx hb d_L_law_526 rfl (fun _ => ?_) (fun hz => absurd (lg_cmp0 (by rw [hw.1 hq])) hz)
        refine lv_goto (tgt := 863) hx hb d_L_law_531 rfl ?_
        exact K863 (109 + j + 1) (8215 + 6 * j + 6) ls H _ f1 t3 (by omega) (by omega) hw.2 (lv_sub hl [2, 3, 4, 5, 6] rfl) hV hT
    have hsw := hsw.2
    by_cases hc9 : op = 9
    · have hw := hsw.1 hc9
      refine lv_tableIn (off := 475) (tgt := 534) hx hb d_L_law_59 (by rw [hc9]; decide) (by rw [hc9]; decide) (by rw [hc9]; decide) rfl ?_
      refine lv_aload_n hx hb d_L_law_534 rfl (lv_at hl 3 rfl) ?_
      refine lv_aload_n hx hb d_L_law_535 rfl (lv_at hl 4 rfl) ?_
      refine lv_iload hx hb d_L_law_536 (lv_at hl 0 rfl) ?_
      refine lv_iconst (v := 1) hx hb d_L_law_538 (by decide) ?_
      refine lv_iadd hx hb d_L_law_539 ?_
      rw [nI_1 j]
      refine va_sld hx hb hXs hbl hbA hV.2.2 (vp_in_nI (by omega) (by omega)) d_L_law_540 ?_
      rw [nI_clamp (by omega)]
      refine lv_aload_n hx hb d_L_law_541 rfl (lv_at hl 4 rfl) ?_
      refine lv_iload hx hb d_L_law_542 (lv_at hl 0 rfl) ?_
      refine lv_iconst (v := 2) hx hb d_L_law_544 (by decide) ?_
      refine lv_iadd hx hb d_L_law_545 ?_
      rw [lw_n2 j]
      refine va_sld hx hb hXs hbl hbA hV.2.2 (vp_in_nI (by omega) (by omega)) d_L_law_546 ?_
      rw [nI_clamp (by omega)]
      refine lv_aload_n hx hb d_L_law_547 rfl (lv_at hl 1 rfl) ?_
      refine lc_H (cc := code) (As := [.ref (ea E 0 0), .int (xs (j + 1)), .int (xs (j + 2)), .ref (ea E 50 0)]) (rest := []) (hh := [(0, 10, 13, 13)]) ⟨hx, hb, hml, hown, hts⟩ (c_L_memory l hl0 E f (xs (j + 1)) (xs (j + 2)) _ hw) (vx_cwSW 4 hts (gi_S gm_661 gm_662 gm_71 gm_663) rfl rfl rfl (by decide +kernel) ⟨Nat.le_of_ble_eq_true rfl, Nat.le_of_ble_eq_true rfl⟩) hap hA hV hT hK hX hY rfl hl.1 rfl (Nat.le_of_ble_eq_true rfl) d_L_law_548 hrc (fun k5 f1 H locs hw hV hT => ?_)
      refine lv_istore (lv' := [(5, .int k5), (4, .int (nI j)), (3, .ref (ea E 50 0)), (2, .ref (ea E 20 0)), (1, .ref (ea E 0 0)), (0, .ref b)]) hx hb d_L_law_551 hl (by decide) rfl (fun ls hl => ?_)
      refine lv_aload_n hx hb d_L_law_553 rfl (lv_at hl 3 rfl) ?_
      refine lv_aload_n hx hb d_L_law_554 rfl (lv_at hl 5 rfl) ?_
      refine lv_iload hx hb d_L_law_555 (lv_at hl 1 rfl) ?_
      refine lv_iconst (v := 1) hx hb d_L_law_557 (by decide) ?_
      refine lv_iadd hx hb d_L_law_558 ?_
      rw [nI_1 j]
      refine va_sld hx hb hXs hbl hbA hV.2.2 (vp_in_nI (by omega) (by omega)) d_L_law_559 ?_
      rw [nI_clamp (by omega)]
      refine lv_aload_n hx hb d_L_law_560 rfl (lv_at hl 5 rfl) ?_
      refine lv_iload hx hb d_L_law_561 (lv_at hl 1 rfl) ?_
      refine lv_iconst (v := 2) hx hb d_L_law_563 (by decide) ?_
      refine lv_iadd hx hb d_L_law_564 ?_
      rw [lw_n2 j]
      refine va_sld hx hb hXs hbl hbA hV.2.2 (vp_in_nI (by omega) (by omega)) d_L_law_565 ?_
      rw [nI_clamp (by omega)]
      refine lc_Vi (cc := code) (C := R_M) (As := [.int (xs (j + 1)), .int (xs (j + 2))]) (rest := []) ⟨hx, hb, hml, hown, hts⟩ (c_M_memory l E t (xs (j + 1)) (xs (j + 2)) _ hw) (cwV 2 hts (gi_V gm_990 gm_991 gm_992 gm_76 gm_993) rfl rfl rfl (by decide +kernel) ⟨Nat.le_of_ble_eq_true rfl, Nat.le_of_ble_eq_true rfl⟩) hap.symm hA hT hV hK hX (g_recv hK hT mm_20 rfl rfl) rfl hl.1 rfl (Nat.le_of_ble_eq_true rfl) d_L_law_566 ⟨Nat.le_trans (by omega) hrc.1, Nat.le_trans (by omega) hrc.2⟩ (fun r1 t2 H locs hw hT hV => ?_)
      refine lv_istore (lv' := [(6, .int r1), (5, .int k5), (4, .int (nI j)), (3, .ref (ea E 50 0)), (2, .ref (ea E 20 0)), (1, .ref (ea E 0 0)), (0, .ref b)]) hx hb d_L_law_569 hl (by decide) rfl (fun ls hl => ?_)
      refine lv_aload_n hx hb d_L_law_571 rfl (lv_at hl 4 rfl) ?_
      refine lc_Vi (cc := code) (C := R_M) (As := []) (rest := []) ⟨hx, hb, hml, hown, hts⟩ (c_M_thrown l E t2 _ hw) (cwV 0 hts (gi_V gm_801 gm_802 gm_803 gm_76 gm_804) rfl rfl rfl (by decide +kernel) ⟨Nat.le_of_ble_eq_true rfl, Nat.le_of_ble_eq_true rfl⟩) hap.symm hA hT hV hK hX (g_recv hK hT mm_20 rfl rfl) rfl hl.1 rfl (Nat.le_of_ble_eq_true rfl) d_L_law_572 ⟨Nat.le_trans (by omega) hrc.1, Nat.le_trans (by omega) hrc.2⟩ (fun r2 t3 H locs hw hT hV => ?_)
      refine lv_iload hx hb d_L_law_575 (lv_at hl 1 rfl) ?_
      refine lv_icmp_eq (tgt := 582) hx hb d_L_law_577 rfl (fun hq => ?_) (fun hq => absurd hw.1 hq)
      have hw := hw.2
      refine lv_iload hx hb d_L_law_582 (lv_at hl 1 rfl) ?_
      refine lv_if_ne (tgt := 599) hx hb d_L_law_584 rfl (fun hq => ?_) (fun hq => ?_)
      · refine lv_goto (tgt := 863) hx hb d_L_law_599 rfl ?_
        exact K863 (109 + j + 1) (8215 + 6 * j + 6) ls H _ f1 t3 (by omega) (by omega) hw.2 (lv_sub hl [2, 3, 4, 5, 6] rfl) hV hT
      · refine lv_aload_n hx hb d_L_law_587 rfl (lv_at hl 3 rfl) ?_
        refine lv_iconst (v := 0) hx hb d_L_law_588 (by decide) ?_
        refine kl_50 hx hb hK hV d_L_law_589 ?_
        refine lv_iload hx hb d_L_law_590 (lv_at hl 0 rfl) ?_
        refine lv_i2l hx hb d_L_law_592 rfl ?_
        refine W.lcmp hx hb d_L_law_593 ?_
        refine lv_if_eq (tgt := 599) hx hb d_L_law_594 rfl (fun _ => ?_) (fun hz => absurd (lg_cmp0 (by rw [hw.1 hq])) hz)
        refine lv_goto (tgt := 863) hx hb d_L_law_599 rfl ?_
        exact K863 (109 + j + 1) (8215 + 6 * j + 6) ls H _ f1 t3 (by omega) (by omega) hw.2 (lv_sub hl [2, 3, 4, 5, 6] rfl) hV hT
    have hsw := hsw.2
    by_cases hc10 : op = 10
    · have hw := hsw.1 hc10
      refine lv_tableIn (off := 543) (tgt := 602) hx hb d_L_law_59 (by rw [hc10]; decide) (by rw [hc10]; decide) (by rw [hc10]; decide) rfl ?_
      refine lv_aload_n hx hb d_L_law_602 rfl (lv_at hl 3 rfl) ?_
      refine lv_aload_n hx hb d_L_law_603 rfl (lv_at hl 4 rfl) ?_
      refine lv_iload hx hb d_L_law_604 (lv_at hl 0 rfl) ?_
      refine lv_iconst (v := 1) hx hb d_L_law_606 (by decide) ?_
      refine lv_iadd hx hb d_L_law_607 ?_
      rw [nI_1 j]
      refine va_sld hx hb hXs hbl hbA hV.2.2 (vp_in_nI (by omega) (by omega)) d_L_law_608 ?_
      rw [nI_clamp (by omega)]
      refine lv_aload_n hx hb d_L_law_609 rfl (lv_at hl 1 rfl) ?_
      refine lc_H (cc := code) (As := [.ref (ea E 0 0), .int (xs (j + 1)), .ref (ea E 50 0)]) (rest := []) (hh := [(0, 9, 12, 13)]) ⟨hx, hb, hml, hown, hts⟩ (c_L_queue l hl0 E f (xs (j + 1)) _ hw) (vx_cwSW 3 hts (gi_S gm_669 gm_670 gm_71 gm_671) rfl rfl rfl (by decide +kernel) ⟨Nat.le_of_ble_eq_true rfl, Nat.le_of_ble_eq_true rfl⟩) hap hA hV hT hK hX hY rfl hl.1 rfl (Nat.le_of_ble_eq_true rfl) d_L_law_610 hrc (fun k5 f1 H locs hw hV hT => ?_)
      refine lv_istore (lv' := [(5, .int k5), (4, .int (nI j)), (3, .ref (ea E 50 0)), (2, .ref (ea E 20 0)), (1, .ref (ea E 0 0)), (0, .ref b)]) hx hb d_L_law_613 hl (by decide) rfl (fun ls hl => ?_)
      refine lv_aload_n hx hb d_L_law_615 rfl (lv_at hl 3 rfl) ?_
      refine lv_aload_n hx hb d_L_law_616 rfl (lv_at hl 5 rfl) ?_
      refine lv_iload hx hb d_L_law_617 (lv_at hl 1 rfl) ?_
      refine lv_iconst (v := 1) hx hb d_L_law_619 (by decide) ?_
      refine lv_iadd hx hb d_L_law_620 ?_
      rw [nI_1 j]
      refine va_sld hx hb hXs hbl hbA hV.2.2 (vp_in_nI (by omega) (by omega)) d_L_law_621 ?_
      rw [nI_clamp (by omega)]
      refine lc_Vi (cc := code) (C := R_M) (As := [.int (xs (j + 1))]) (rest := []) ⟨hx, hb, hml, hown, hts⟩ (c_M_queue l E t (xs (j + 1)) _ hw) (cwV 1 hts (gi_V gm_994 gm_995 gm_996 gm_76 gm_997) rfl rfl rfl (by decide +kernel) ⟨Nat.le_of_ble_eq_true rfl, Nat.le_of_ble_eq_true rfl⟩) hap.symm hA hT hV hK hX (g_recv hK hT mm_20 rfl rfl) rfl hl.1 rfl (Nat.le_of_ble_eq_true rfl) d_L_law_622 ⟨Nat.le_trans (by omega) hrc.1, Nat.le_trans (by omega) hrc.2⟩ (fun r1 t2 H locs hw hT hV => ?_)
      refine lv_istore (lv' := [(6, .int r1), (5, .int k5), (4, .int (nI j)), (3, .ref (ea E 50 0)), (2, .ref (ea E 20 0)), (1, .ref (ea E 0 0)), (0, .ref b)]) hx hb d_L_law_625 hl (by decide) rfl (fun ls hl => ?_)
      refine lv_aload_n hx hb d_L_law_627 rfl (lv_at hl 4 rfl) ?_
      refine lc_Vi (cc := code) (C := R_M) (As := []) (rest := []) ⟨hx, hb, hml, hown, hts⟩ (c_M_thrown l E t2 _ hw) (cwV 0 hts (gi_V gm_801 gm_802 gm_803 gm_76 gm_804) rfl rfl rfl (by decide +kernel) ⟨Nat.le_of_ble_eq_true rfl, Nat.le_of_ble_eq_true rfl⟩) hap.symm hA hT hV hK hX (g_recv hK hT mm_20 rfl rfl) rfl hl.1 rfl (Nat.le_of_ble_eq_true rfl) d_L_law_628 ⟨Nat.le_trans (by omega) hrc.1, Nat.le_trans (by omega) hrc.2⟩ (fun r2 t3 H locs hw hT hV => ?_)
      refine lv_iload hx hb d_L_law_631 (lv_at hl 1 rfl) ?_
      refine lv_icmp_eq (tgt := 638) hx hb d_L_law_633 rfl (fun hq => ?_) (fun hq => absurd hw.1 hq)
      have hw := hw.2
      refine lv_iload hx hb d_L_law_638 (lv_at hl 1 rfl) ?_
      refine lv_if_ne (tgt := 655) hx hb d_L_law_640 rfl (fun hq => ?_) (fun hq => ?_)
      · refine lv_goto (tgt := 863) hx hb d_L_law_655 rfl ?_
        exact K863 (109 + j + 1) (8215 + 6 * j + 6) ls H _ f1 t3 (by omega) (by omega) hw.2 (lv_sub hl [2, 3, 4, 5, 6] rfl) hV hT
      · refine lv_aload_n hx hb d_L_law_643 rfl (lv_at hl 3 rfl) ?_
        refine lv_iconst (v := 0) hx hb d_L_law_644 (by decide) ?_
        refine kl_50 hx hb hK hV d_L_law_645 ?_
        refine lv_iload hx hb d_L_law_646 (lv_at hl 0 rfl) ?_
        refine lv_i2l hx hb d_L_law_648 rfl ?_
        refine W.lcmp hx hb d_L_law_649 ?_
        refine lv_if_eq (tgt := 655) hx hb d_L_law_650 rfl (fun _ => ?_) (fun hz => absurd (lg_cmp0 (by rw [hw.1 hq])) hz)
        refine lv_goto (tgt := 863) hx hb d_L_law_655 rfl ?_
        exact K863 (109 + j + 1) (8215 + 6 * j + 6) ls H _ f1 t3 (by omega) (by omega) hw.2 (lv_sub hl [2, 3, 4, 5, 6] rfl) hV hT
    have hsw := hsw.2
    by_cases hc11 : op = 11
    · have hw := hsw.1 hc11
      refine lv_tableIn (off := 599) (tgt := 658) hx hb d_L_law_59 (by rw [hc11]; decide) (by rw [hc11]; decide) (by rw [hc11]; decide) rfl ?_
      refine lv_aload_n hx hb d_L_law_658 rfl (lv_at hl 3 rfl) ?_
      refine lv_aload_n hx hb d_L_law_659 rfl (lv_at hl 4 rfl) ?_
      refine lv_iload hx hb d_L_law_660 (lv_at hl 0 rfl) ?_
      refine lv_iconst (v := 1) hx hb d_L_law_662 (by decide) ?_
      refine lv_iadd hx hb d_L_law_663 ?_
      rw [nI_1 j]
      refine va_sld hx hb hXs hbl hbA hV.2.2 (vp_in_nI (by omega) (by omega)) d_L_law_664 ?_
      rw [nI_clamp (by omega)]
      refine lv_aload_n hx hb d_L_law_665 rfl (lv_at hl 4 rfl) ?_
      refine lv_iload hx hb d_L_law_666 (lv_at hl 0 rfl) ?_
      refine lv_iconst (v := 2) hx hb d_L_law_668 (by decide) ?_
      refine lv_iadd hx hb d_L_law_669 ?_
      rw [lw_n2 j]
      refine va_sld hx hb hXs hbl hbA hV.2.2 (vp_in_nI (by omega) (by omega)) d_L_law_670 ?_
      rw [nI_clamp (by omega)]
      refine lv_aload_n hx hb d_L_law_671 rfl (lv_at hl 1 rfl) ?_
      refine lc_H (cc := code) (As := [.ref (ea E 0 0), .int (xs (j + 1)), .int (xs (j + 2)), .ref (ea E 50 0)]) (rest := []) (hh := [(0, 10, 13, 13)]) ⟨hx, hb, hml, hown, hts⟩ (c_L_descriptor l hl0 E f (xs (j + 1)) (xs (j + 2)) _ hw) (vx_cwSW 4 hts (gi_S gm_677 gm_678 gm_71 gm_679) rfl rfl rfl (by decide +kernel) ⟨Nat.le_of_ble_eq_true rfl, Nat.le_of_ble_eq_true rfl⟩) hap hA hV hT hK hX hY rfl hl.1 rfl (Nat.le_of_ble_eq_true rfl) d_L_law_672 hrc (fun k5 f1 H locs hw hV hT => ?_)
      refine lv_istore (lv' := [(5, .int k5), (4, .int (nI j)), (3, .ref (ea E 50 0)), (2, .ref (ea E 20 0)), (1, .ref (ea E 0 0)), (0, .ref b)]) hx hb d_L_law_675 hl (by decide) rfl (fun ls hl => ?_)
      refine lv_aload_n hx hb d_L_law_677 rfl (lv_at hl 3 rfl) ?_
      refine lv_aload_n hx hb d_L_law_678 rfl (lv_at hl 5 rfl) ?_
      refine lv_iload hx hb d_L_law_679 (lv_at hl 1 rfl) ?_
      refine lv_iconst (v := 1) hx hb d_L_law_681 (by decide) ?_
      refine lv_iadd hx hb d_L_law_682 ?_
      rw [nI_1 j]
      refine va_sld hx hb hXs hbl hbA hV.2.2 (vp_in_nI (by omega) (by omega)) d_L_law_683 ?_
      rw [nI_clamp (by omega)]
      refine lv_aload_n hx hb d_L_law_684 rfl (lv_at hl 5 rfl) ?_
      refine lv_iload hx hb d_L_law_685 (lv_at hl 1 rfl) ?_
      refine lv_iconst (v := 2) hx hb d_L_law_687 (by decide) ?_
      refine lv_iadd hx hb d_L_law_688 ?_
      rw [lw_n2 j]
      refine va_sld hx hb hXs hbl hbA hV.2.2 (vp_in_nI (by omega) (by omega)) d_L_law_689 ?_
      rw [nI_clamp (by omega)]
      refine lc_Vi (cc := code) (C := R_M) (As := [.int (xs (j + 1)), .int (xs (j + 2))]) (rest := []) ⟨hx, hb, hml, hown, hts⟩ (c_M_descriptor l E t (xs (j + 1)) (xs (j + 2)) _ hw) (cwV 2 hts (gi_V gm_998 gm_999 gm_1000 gm_76 gm_1001) rfl rfl rfl (by decide +kernel) ⟨Nat.le_of_ble_eq_true rfl, Nat.le_of_ble_eq_true rfl⟩) hap.symm hA hT hV hK hX (g_recv hK hT mm_20 rfl rfl) rfl hl.1 rfl (Nat.le_of_ble_eq_true rfl) d_L_law_690 ⟨Nat.le_trans (by omega) hrc.1, Nat.le_trans (by omega) hrc.2⟩ (fun r1 t2 H locs hw hT hV => ?_)
      refine lv_istore (lv' := [(6, .int r1), (5, .int k5), (4, .int (nI j)), (3, .ref (ea E 50 0)), (2, .ref (ea E 20 0)), (1, .ref (ea E 0 0)), (0, .ref b)]) hx hb d_L_law_693 hl (by decide) rfl (fun ls hl => ?_)
      refine lv_aload_n hx hb d_L_law_695 rfl (lv_at hl 4 rfl) ?_
      refine lc_Vi (cc := code) (C := R_M) (As := []) (rest := []) ⟨hx, hb, hml, hown, hts⟩ (c_M_thrown l E t2 _ hw) (cwV 0 hts (gi_V gm_801 gm_802 gm_803 gm_76 gm_804) rfl rfl rfl (by decide +kernel) ⟨Nat.le_of_ble_eq_true rfl, Nat.le_of_ble_eq_true rfl⟩) hap.symm hA hT hV hK hX (g_recv hK hT mm_20 rfl rfl) rfl hl.1 rfl (Nat.le_of_ble_eq_true rfl) d_L_law_696 ⟨Nat.le_trans (by omega) hrc.1, Nat.le_trans (by omega) hrc.2⟩ (fun r2 t3 H locs hw hT hV => ?_)
      refine lv_iload hx hb d_L_law_699 (lv_at hl 1 rfl) ?_
      refine lv_icmp_eq (tgt := 706) hx hb d_L_law_701 rfl (fun hq => ?_) (fun hq => absurd hw.1 hq)
      have hw := hw.2
      refine lv_iload hx hb d_L_law_706 (lv_at hl 1 rfl) ?_
      refine lv_if_ne (tgt := 723) hx hb d_L_law_708 rfl (fun hq => ?_) (fun hq => ?_)
      · refine lv_goto (tgt := 863) hx hb d_L_law_723 rfl ?_
        exact K863 (109 + j + 1) (8215 + 6 * j + 6) ls H _ f1 t3 (by omega) (by omega) hw.2 (lv_sub hl [2, 3, 4, 5, 6] rfl) hV hT
      · refine lv_aload_n hx hb d_L_law_711 rfl (lv_at hl 3 rfl) ?_
        refine lv_iconst (v := 0) hx hb d_L_law_712 (by decide) ?_
        refine kl_50 hx hb hK hV d_L_law_713 ?_
        refine lv_iload hx hb d_L_law_714 (lv_at hl 0 rfl) ?_
        refine lv_i2l hx hb d_L_law_716 rfl ?_
        refine W.lcmp hx hb d_L_law_717 ?_
        refine lv_if_eq (tgt := 723) hx hb d_L_law_718 rfl (fun _ => ?_) (fun hz => absurd (lg_cmp0 (by rw [hw.1 hq])) hz)
        refine lv_goto (tgt := 863) hx hb d_L_law_723 rfl ?_
        exact K863 (109 + j + 1) (8215 + 6 * j + 6) ls H _ f1 t3 (by omega) (by omega) hw.2 (lv_sub hl [2, 3, 4, 5, 6] rfl) hV hT
    have hsw := hsw.2
    by_cases hc12 : op = 12
    · have hw := hsw.1 hc12
      refine lv_tableIn (off := 667) (tgt := 726) hx hb d_L_law_59 (by rw [hc12]; decide) (by rw [hc12]; decide) (by rw [hc12]; decide) rfl ?_
      refine lv_aload_n hx hb d_L_law_726 rfl (lv_at hl 3 rfl) ?_
      refine lv_aload_n hx hb d_L_law_727 rfl (lv_at hl 4 rfl) ?_
      refine lv_iload hx hb d_L_law_728 (lv_at hl 0 rfl) ?_
      refine lv_iconst (v := 1) hx hb d_L_law_730 (by decide) ?_
      refine lv_iadd hx hb d_L_law_731 ?_
      rw [nI_1 j]
      refine va_sld hx hb hXs hbl hbA hV.2.2 (vp_in_nI (by omega) (by omega)) d_L_law_732 ?_
      rw [nI_clamp (by omega)]
      refine lv_aload_n hx hb d_L_law_733 rfl (lv_at hl 4 rfl) ?_
      refine lv_iload hx hb d_L_law_734 (lv_at hl 0 rfl) ?_
      refine lv_iconst (v := 2) hx hb d_L_law_736 (by decide) ?_
      refine lv_iadd hx hb d_L_law_737 ?_
      rw [lw_n2 j]
      refine va_sld hx hb hXs hbl hbA hV.2.2 (vp_in_nI (by omega) (by omega)) d_L_law_738 ?_
      rw [nI_clamp (by omega)]
      refine lv_aload_n hx hb d_L_law_739 rfl (lv_at hl 1 rfl) ?_
      refine lc_H (cc := code) (As := [.ref (ea E 0 0), .int (xs (j + 1)), .int (xs (j + 2)), .ref (ea E 50 0)]) (rest := []) (hh := [(0, 10, 13, 13), (0, 10, 17, 24)]) ⟨hx, hb, hml, hown, hts⟩ (c_L_pipe l hl0 E f (xs (j + 1)) (xs (j + 2)) _ hw) (vx_cwSW 4 hts (gi_S gm_685 gm_686 gm_71 gm_687) rfl rfl rfl (by decide +kernel) ⟨Nat.le_of_ble_eq_true rfl, Nat.le_of_ble_eq_true rfl⟩) hap hA hV hT hK hX hY rfl hl.1 rfl (Nat.le_of_ble_eq_true rfl) d_L_law_740 hrc (fun k5 f1 H locs hw hV hT => ?_)
      refine lv_istore (lv' := [(5, .int k5), (4, .int (nI j)), (3, .ref (ea E 50 0)), (2, .ref (ea E 20 0)), (1, .ref (ea E 0 0)), (0, .ref b)]) hx hb d_L_law_743 hl (by decide) rfl (fun ls hl => ?_)
      refine lv_aload_n hx hb d_L_law_745 rfl (lv_at hl 3 rfl) ?_
      refine lv_aload_n hx hb d_L_law_746 rfl (lv_at hl 5 rfl) ?_
      refine lv_iload hx hb d_L_law_747 (lv_at hl 1 rfl) ?_
      refine lv_iconst (v := 1) hx hb d_L_law_749 (by decide) ?_
      refine lv_iadd hx hb d_L_law_750 ?_
      rw [nI_1 j]
      refine va_sld hx hb hXs hbl hbA hV.2.2 (vp_in_nI (by omega) (by omega)) d_L_law_751 ?_
      rw [nI_clamp (by omega)]
      refine lv_aload_n hx hb d_L_law_752 rfl (lv_at hl 5 rfl) ?_
      refine lv_iload hx hb d_L_law_753 (lv_at hl 1 rfl) ?_
      refine lv_iconst (v := 2) hx hb d_L_law_755 (by decide) ?_
      refine lv_iadd hx hb d_L_law_756 ?_
      rw [lw_n2 j]
      refine va_sld hx hb hXs hbl hbA hV.2.2 (vp_in_nI (by omega) (by omega)) d_L_law_757 ?_
      rw [nI_clamp (by omega)]
      refine lc_Vi (cc := code) (C := R_M) (As := [.int (xs (j + 1)), .int (xs (j + 2))]) (rest := []) ⟨hx, hb, hml, hown, hts⟩ (c_M_pipe l E t (xs (j + 1)) (xs (j + 2)) _ hw) (cwV 2 hts (gi_V gm_1002 gm_1003 gm_1004 gm_76 gm_1005) rfl rfl rfl (by decide +kernel) ⟨Nat.le_of_ble_eq_true rfl, Nat.le_of_ble_eq_true rfl⟩) hap.symm hA hT hV hK hX (g_recv hK hT mm_20 rfl rfl) rfl hl.1 rfl (Nat.le_of_ble_eq_true rfl) d_L_law_758 ⟨Nat.le_trans (by omega) hrc.1, Nat.le_trans (by omega) hrc.2⟩ (fun r1 t2 H locs hw hT hV => ?_)
      refine lv_istore (lv' := [(6, .int r1), (5, .int k5), (4, .int (nI j)), (3, .ref (ea E 50 0)), (2, .ref (ea E 20 0)), (1, .ref (ea E 0 0)), (0, .ref b)]) hx hb d_L_law_761 hl (by decide) rfl (fun ls hl => ?_)
      refine lv_aload_n hx hb d_L_law_763 rfl (lv_at hl 4 rfl) ?_
      refine lc_Vi (cc := code) (C := R_M) (As := []) (rest := []) ⟨hx, hb, hml, hown, hts⟩ (c_M_thrown l E t2 _ hw) (cwV 0 hts (gi_V gm_801 gm_802 gm_803 gm_76 gm_804) rfl rfl rfl (by decide +kernel) ⟨Nat.le_of_ble_eq_true rfl, Nat.le_of_ble_eq_true rfl⟩) hap.symm hA hT hV hK hX (g_recv hK hT mm_20 rfl rfl) rfl hl.1 rfl (Nat.le_of_ble_eq_true rfl) d_L_law_764 ⟨Nat.le_trans (by omega) hrc.1, Nat.le_trans (by omega) hrc.2⟩ (fun r2 t3 H locs hw hT hV => ?_)
      refine lv_iload hx hb d_L_law_767 (lv_at hl 1 rfl) ?_
      refine lv_icmp_eq (tgt := 774) hx hb d_L_law_769 rfl (fun hq => ?_) (fun hq => absurd hw.1 hq)
      have hw := hw.2
      refine lv_iload hx hb d_L_law_774 (lv_at hl 1 rfl) ?_
      refine lv_if_ne (tgt := 791) hx hb d_L_law_776 rfl (fun hq => ?_) (fun hq => ?_)
      · refine lv_goto (tgt := 863) hx hb d_L_law_791 rfl ?_
        exact K863 (109 + j + 1) (8215 + 6 * j + 6) ls H _ f1 t3 (by omega) (by omega) hw.2 (lv_sub hl [2, 3, 4, 5, 6] rfl) hV hT
      · refine lv_aload_n hx hb d_L_law_779 rfl (lv_at hl 3 rfl) ?_
        refine lv_iconst (v := 0) hx hb d_L_law_780 (by decide) ?_
        refine kl_50 hx hb hK hV d_L_law_781 ?_
        refine lv_iload hx hb d_L_law_782 (lv_at hl 0 rfl) ?_
        refine lv_i2l hx hb d_L_law_784 rfl ?_
        refine W.lcmp hx hb d_L_law_785 ?_
        refine lv_if_eq (tgt := 791) hx hb d_L_law_786 rfl (fun _ => ?_) (fun hz => absurd (lg_cmp0 (by rw [hw.1 hq])) hz)
        refine lv_goto (tgt := 863) hx hb d_L_law_791 rfl ?_
        exact K863 (109 + j + 1) (8215 + 6 * j + 6) ls H _ f1 t3 (by omega) (by omega) hw.2 (lv_sub hl [2, 3, 4, 5, 6] rfl) hV hT
    have hsw := hsw.2
    by_cases hc13 : op = 13
    · have hw := hsw.1 hc13
      refine lv_tableIn (off := 735) (tgt := 794) hx hb d_L_law_59 (by rw [hc13]; decide) (by rw [hc13]; decide) (by rw [hc13]; decide) rfl ?_
      refine lv_aload_n hx hb d_L_law_794 rfl (lv_at hl 3 rfl) ?_
      refine lc_Vi (cc := code) (C := R_K) (As := []) (rest := []) ⟨hx, hb, hml, hown, hts⟩ (c_K_outs l E f _ hw) (cwV 0 hts (gi_V gm_237 gm_238 gm_239 gm_72 gm_240) rfl rfl rfl (by decide +kernel) ⟨Nat.le_of_ble_eq_true rfl, Nat.le_of_ble_eq_true rfl⟩) hap hA hV hT hK hX (g_recv hK hV kk_0 rfl rfl) rfl hl.1 rfl (Nat.le_of_ble_eq_true rfl) d_L_law_795 ⟨Nat.le_trans (by omega) hrc.1, Nat.le_trans (by omega) hrc.2⟩ (fun r1 f2 H locs hw hV hT => ?_)
      refine lv_aload_n hx hb d_L_law_798 rfl (lv_at hl 2 rfl) ?_
      refine lc_Vi (cc := code) (C := R_M) (As := []) (rest := [.int r1]) ⟨hx, hb, hml, hown, hts⟩ (c_M_outs l E t _ hw) (cwV 0 hts (gi_V gm_1006 gm_1007 gm_1008 gm_76 gm_1009) rfl rfl rfl (by decide +kernel) ⟨Nat.le_of_ble_eq_true rfl, Nat.le_of_ble_eq_true rfl⟩) hap.symm hA hT hV hK hX (g_recv hK hT mm_20 rfl rfl) rfl hl.1 rfl (Nat.le_of_ble_eq_true rfl) d_L_law_799 ⟨Nat.le_trans (by omega) hrc.1, Nat.le_trans (by omega) hrc.2⟩ (fun r2 t3 H locs hw hT hV => ?_)
      refine lv_icmp_eq (tgt := 863) hx hb d_L_law_802 rfl (fun hq => ?_) (fun hq => absurd hw.1 hq)
      have hw := hw.2
      exact K863 (109 + j) (8215 + 6 * j) ls H _ f2 t3 (by omega) (by omega) hw (lv_sub hl [0, 1, 2, 3, 4] rfl) hV hT
    have hsw := hsw.2
    by_cases hc14 : op = 14
    · have hw := hsw.1 hc14
      refine lv_tableIn (off := 748) (tgt := 807) hx hb d_L_law_59 (by rw [hc14]; decide) (by rw [hc14]; decide) (by rw [hc14]; decide) rfl ?_
      refine lv_aload_n hx hb d_L_law_807 rfl (lv_at hl 3 rfl) ?_
      refine lv_aload_n hx hb d_L_law_808 rfl (lv_at hl 4 rfl) ?_
      refine lv_iload hx hb d_L_law_809 (lv_at hl 0 rfl) ?_
      refine lv_iconst (v := 1) hx hb d_L_law_811 (by decide) ?_
      refine lv_iadd hx hb d_L_law_812 ?_
      rw [nI_1 j]
      refine va_sld hx hb hXs hbl hbA hV.2.2 (vp_in_nI (by omega) (by omega)) d_L_law_813 ?_
      rw [nI_clamp (by omega)]
      refine lv_aload_n hx hb d_L_law_814 rfl (lv_at hl 1 rfl) ?_
      refine lc_H (cc := code) (As := [.ref (ea E 0 0), .int (xs (j + 1)), .ref (ea E 50 0)]) (rest := []) (hh := [(0, 9, 12, 13)]) ⟨hx, hb, hml, hown, hts⟩ (c_L_out l hl0 E f (xs (j + 1)) _ hw) (vx_cwSW 3 hts (gi_S gm_698 gm_699 gm_71 gm_700) rfl rfl rfl (by decide +kernel) ⟨Nat.le_of_ble_eq_true rfl, Nat.le_of_ble_eq_true rfl⟩) hap hA hV hT hK hX hY rfl hl.1 rfl (Nat.le_of_ble_eq_true rfl) d_L_law_815 hrc (fun k5 f1 H locs hw hV hT => ?_)
      refine lv_istore (lv' := [(5, .int k5), (4, .int (nI j)), (3, .ref (ea E 50 0)), (2, .ref (ea E 20 0)), (1, .ref (ea E 0 0)), (0, .ref b)]) hx hb d_L_law_818 hl (by decide) rfl (fun ls hl => ?_)
      refine lv_aload_n hx hb d_L_law_820 rfl (lv_at hl 3 rfl) ?_
      refine lv_aload_n hx hb d_L_law_821 rfl (lv_at hl 5 rfl) ?_
      refine lv_iload hx hb d_L_law_822 (lv_at hl 1 rfl) ?_
      refine lv_iconst (v := 1) hx hb d_L_law_824 (by decide) ?_
      refine lv_iadd hx hb d_L_law_825 ?_
      rw [nI_1 j]
      refine va_sld hx hb hXs hbl hbA hV.2.2 (vp_in_nI (by omega) (by omega)) d_L_law_826 ?_
      rw [nI_clamp (by omega)]
      refine lc_Vi (cc := code) (C := R_M) (As := [.int (xs (j + 1))]) (rest := []) ⟨hx, hb, hml, hown, hts⟩ (c_M_out l E t (xs (j + 1)) _ hw) (cwV 1 hts (gi_V gm_1010 gm_1011 gm_1012 gm_76 gm_1013) rfl rfl rfl (by decide +kernel) ⟨Nat.le_of_ble_eq_true rfl, Nat.le_of_ble_eq_true rfl⟩) hap.symm hA hT hV hK hX (g_recv hK hT mm_20 rfl rfl) rfl hl.1 rfl (Nat.le_of_ble_eq_true rfl) d_L_law_827 ⟨Nat.le_trans (by omega) hrc.1, Nat.le_trans (by omega) hrc.2⟩ (fun r1 t2 H locs hw hT hV => ?_)
      refine lv_istore (lv' := [(6, .int r1), (5, .int k5), (4, .int (nI j)), (3, .ref (ea E 50 0)), (2, .ref (ea E 20 0)), (1, .ref (ea E 0 0)), (0, .ref b)]) hx hb d_L_law_830 hl (by decide) rfl (fun ls hl => ?_)
      refine lv_aload_n hx hb d_L_law_832 rfl (lv_at hl 4 rfl) ?_
      refine lc_Vi (cc := code) (C := R_M) (As := []) (rest := []) ⟨hx, hb, hml, hown, hts⟩ (c_M_thrown l E t2 _ hw) (cwV 0 hts (gi_V gm_801 gm_802 gm_803 gm_76 gm_804) rfl rfl rfl (by decide +kernel) ⟨Nat.le_of_ble_eq_true rfl, Nat.le_of_ble_eq_true rfl⟩) hap.symm hA hT hV hK hX (g_recv hK hT mm_20 rfl rfl) rfl hl.1 rfl (Nat.le_of_ble_eq_true rfl) d_L_law_833 ⟨Nat.le_trans (by omega) hrc.1, Nat.le_trans (by omega) hrc.2⟩ (fun r2 t3 H locs hw hT hV => ?_)
      refine lv_iload hx hb d_L_law_836 (lv_at hl 1 rfl) ?_
      refine lv_icmp_eq (tgt := 843) hx hb d_L_law_838 rfl (fun hq => ?_) (fun hq => absurd hw.1 hq)
      have hw := hw.2
      refine lv_iload hx hb d_L_law_843 (lv_at hl 1 rfl) ?_
      refine lv_if_ne (tgt := 860) hx hb d_L_law_845 rfl (fun hq => ?_) (fun hq => ?_)
      · refine lv_goto (tgt := 863) hx hb d_L_law_860 rfl ?_
        exact K863 (109 + j + 1) (8215 + 6 * j + 6) ls H _ f1 t3 (by omega) (by omega) hw.2 (lv_sub hl [2, 3, 4, 5, 6] rfl) hV hT
      · refine lv_aload_n hx hb d_L_law_848 rfl (lv_at hl 3 rfl) ?_
        refine lv_iconst (v := 0) hx hb d_L_law_849 (by decide) ?_
        refine kl_50 hx hb hK hV d_L_law_850 ?_
        refine lv_iload hx hb d_L_law_851 (lv_at hl 0 rfl) ?_
        refine lv_i2l hx hb d_L_law_853 rfl ?_
        refine W.lcmp hx hb d_L_law_854 ?_
        refine lv_if_eq (tgt := 860) hx hb d_L_law_855 rfl (fun _ => ?_) (fun hz => absurd (lg_cmp0 (by rw [hw.1 hq])) hz)
        refine lv_goto (tgt := 863) hx hb d_L_law_860 rfl ?_
        exact K863 (109 + j + 1) (8215 + 6 * j + 6) ls H _ f1 t3 (by omega) (by omega) hw.2 (lv_sub hl [2, 3, 4, 5, 6] rfl) hV hT
    have hsw := hsw.2
    have hw := hsw ⟨hc0, hc1, hc2, hc3, hc4, hc5, hc6, hc7, hc8, hc9, hc10, hc11, hc12, hc13, hc14⟩
    have hn0 : ¬ op.toInt = 0 := lv_neT hc0 (by decide)
    have hn1 : ¬ op.toInt = 1 := lv_neT hc1 (by decide)
    have hn2 : ¬ op.toInt = 2 := lv_neT hc2 (by decide)
    have hn3 : ¬ op.toInt = 3 := lv_neT hc3 (by decide)
    have hn4 : ¬ op.toInt = 4 := lv_neT hc4 (by decide)
    have hn5 : ¬ op.toInt = 5 := lv_neT hc5 (by decide)
    have hn6 : ¬ op.toInt = 6 := lv_neT hc6 (by decide)
    have hn7 : ¬ op.toInt = 7 := lv_neT hc7 (by decide)
    have hn8 : ¬ op.toInt = 8 := lv_neT hc8 (by decide)
    have hn9 : ¬ op.toInt = 9 := lv_neT hc9 (by decide)
    have hn10 : ¬ op.toInt = 10 := lv_neT hc10 (by decide)
    have hn11 : ¬ op.toInt = 11 := lv_neT hc11 (by decide)
    have hn12 : ¬ op.toInt = 12 := lv_neT hc12 (by decide)
    have hn13 : ¬ op.toInt = 13 := lv_neT hc13 (by decide)
    have hn14 : ¬ op.toInt = 14 := lv_neT hc14 (by decide)
    refine lv_tableOut (tgt := 863) hx hb d_L_law_59 (by omega) rfl ?_
    exact K863 (109 + j) (8215 + 6 * j) ls H locs f t (by omega) (by omega) hw hl hV hT

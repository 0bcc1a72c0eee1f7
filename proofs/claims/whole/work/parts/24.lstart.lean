theorem gm_85 : (.classLink R_L 8 R_K : Cond) ∈ gG := tb_tables_1_1 (List.mem_of_getElem? (i := 14) rfl) rfl
theorem gm_87 : (.methodLink R_L 60 y_K_init : Cond) ∈ gG := tb_tables_1_1 (List.mem_of_getElem? (i := 16) rfl) rfl
theorem gm_88 : (.instanceMethod y_K_init : Cond) ∈ gG := tb_tables_1_1 (List.mem_of_getElem? (i := 17) rfl) rfl
theorem gm_89 : (.code y_K_init b_K_init 5 none : Cond) ∈ gG := tb_tables_1_1 (List.mem_of_getElem? (i := 18) rfl) rfl
theorem gm_710 : (.classLink R_L 62 R_M : Cond) ∈ gG := tb_tables_1_3 (List.mem_of_getElem? (i := 159) rfl) rfl
theorem gm_712 : (.methodLink R_L 64 y_M_init : Cond) ∈ gG := tb_tables_1_3 (List.mem_of_getElem? (i := 161) rfl) rfl
theorem gm_713 : (.instanceMethod y_M_init : Cond) ∈ gG := tb_tables_1_3 (List.mem_of_getElem? (i := 162) rfl) rfl
theorem gm_714 : (.code y_M_init b_M_init 3 none : Cond) ∈ gG := tb_tables_1_3 (List.mem_of_getElem? (i := 163) rfl) rfl
theorem vd_swap {A : Nat → Prop} {a b c : va_W} (h : va_D A ((a ++ b) ++ c)) : va_D A ((a ++ c) ++ b) := by
  have hab := vd_left h
  have ha := vd_left hab
  have hb := vd_right hab
  have hc := vd_right h
  have xab := vd_cross hab
  have xabc := vd_cross h
  have xac : ∀ (i j : Nat) (p q : Nat × va_E), a[i]? = some p → c[j]? = some q → p.1 ≠ q.1 := fun i j p q hi hj => xabc i j p q (by rw [List.getElem?_append_left (List.getElem?_eq_some_iff.mp hi).1]; exact hi) hj
  have xbc : ∀ (i j : Nat) (p q : Nat × va_E), b[i]? = some p → c[j]? = some q → p.1 ≠ q.1 := fun i j p q hi hj => xabc (a.length + i) j p q ((ap_get a b i).trans hi) hj
  refine va_D.app (va_D.app ha hc xac) hb (fun i j p q hi hj => ?_)
  rcases List.mem_append.mp (List.mem_of_getElem? hi) with h1 | h1
  · obtain ⟨k, hk⟩ := List.getElem?_of_mem h1
    exact xab k j p q hk hj
  · obtain ⟨k, hk⟩ := List.getElem?_of_mem h1
    exact (xbc j k q p hj hk).symm
theorem vp_swap {D : va_G} {cl : List vw_C} {a b c : va_W} {H : Heap} (h : va_P D cl ((a ++ b) ++ c) H) : va_P D cl ((a ++ c) ++ b) H := va_P.app (va_P.app (vp_left (vp_left h)) (vp_right h)) (vp_right (vp_left h))
theorem lAp_of {E : gE} {A : Nat → Prop} {ks kt : List (Nat × Nat)} {f t : KS} (h : va_D A (gw ks E f ++ gw kt E t)) : lAp E ks kt := by
  intro x hx y hy
  obtain ⟨i, hi⟩ := List.getElem?_of_mem hx
  obtain ⟨j, hj⟩ := List.getElem?_of_mem hy
  exact vd_cross h i j _ _ (gw_pos hi) (gw_pos hj)
theorem gw_M {D : va_G} {C : Nat → ClassId} {g : Nat → Nat → Nat} {o qm tl tg N : Nat} {u : Nat → Nat} {qv cv0 : Int32} : gw MM ((D, C), adr g o qm u, N, tl, tg) (fM0 qv cv0) = [(qm, .inr (3, [.int 0, .int qv, .int cv0, .int 0, .int 0, .ref (u 25), .ref (u 26), .ref (u 27), .ref (u 28), .ref (u 29), .ref (u 30), .ref (u 31), .ref (u 32), .ref (u 33), .ref (u 34), .ref (u 35), .int 0, .int 0, .int 0, .ref (u 39), .ref (u 40), .ref (u 41), .ref (u 42), .ref (u 43), .int 0, .int 0, .ref (u 46), .int 0])), (u 25, .inl (C 0, 128, .inl (fun _ => 0))), (u 26, .inl (C 0, 16, .inl (fun _ => 0))), (u 27, .inl (C 0, 2048, .inl (fun _ => 0))), (u 28, .inl (C 0, 1024, .inl (fun _ => 0))), (u 29, .inl (C 0, 16, .inl (fun _ => 0))), (u 30, .inl (C 0, 16, .inl (fun _ => 0))), (u 31, .inl (C 0, 128, .inl (fun _ => 0))), (u 32, .inl (C 0, 16, .inl (fun _ => 0))), (u 33, .inl (C 0, 16, .inl (fun _ => 0))), (u 34, .inl (C 0, 16, .inl (fun _ => 0))), (u 35, .inl (C 0, 16, .inl (fun _ => 0))), (u 39, .inl (C 0, 272, .inl (fun _ => 0))), (u 40, .inl (C 0, 17, .inl (fun _ => 0))), (u 41, .inl (C 0, 128, .inl (fun _ => 0))), (u 42, .inl (C 0, 8, .inl (fun _ => 0))), (u 43, .inl (C 0, 100, .inl (fun _ => 0))), (u 46, .inl (C 0, 500, .inl (fun _ => 0)))] := rfl
theorem rep2 {D : va_G} {A : Nat → Prop} {ws : va_W} {H : Heap} {k a N : Nat} {cA : ClassId} {f f2 : Nat → Option Nat} (hP : va_P D classes ws H) (hD : va_D A ws) (hk : ws[k]? = some (a, .inl (cA, N, .inr (.inr (.inr (.inr f)))))) (hf : ∀ j, j < N → f j = f2 j) : va_P D classes (ws.set k (a, .inl (cA, N, .inr (.inr (.inr (.inr f2)))))) H ∧ va_D A (ws.set k (a, .inl (cA, N, .inr (.inr (.inr (.inr f2)))))) := by
  refine ⟨vp_rep hP hk ?_, va_D.set hD hk⟩
  have h : H[a]? = some (arrV cA N (fun j => va_rf (f j))) := hP k _ hk
  show H[a]? = some (arrV cA N (fun j => va_rf (f2 j)))
  rw [h, arrV_cg cA (f := fun j => va_rf (f j)) (g := fun j => va_rf (f2 j)) (fun j hj => by show va_rf (f j) = va_rf (f2 j); rw [hf j hj])]
set_option maxHeartbeats 16000000 in
set_option maxRecDepth 100000 in
theorem law_start {p : Program} {e : Env} {s : State} {m : MethodId} {below : List Frame} {meth : Method} {c : Code} (l : Launch) (hl0 : l.stackTraces = false) {b L : Nat} {xs : Nat → Int32} (hL : L ≤ 1538) (C0 : lw_At p s m meth c b L xs) (Inv : Nat → KS → KS → Prop) (hI0 : Inv 2 (fK0 (kq (cv L xs 0) 100)) (fM0 (mq (cv L xs 0) 100) (mq (cv L xs 1) 16))) (hstep : ∀ (j : Nat) (f t : KS), Inv j f t → j + 2 < L → lawStep (kq (cv L xs 1) 16).toNatClampNeg (xs j &&& 15) (xs (j + 1)) (xs (j + 2)) f t (Inv (j + 3))) : W p l e room_1 s m #[Value.ref b] below meth c s.heap [] 0 0 (lw_Z below #[Value.ref b] s) (entryFrame m ([Value.ref b] : List Value).toArray 7) := by
  obtain ⟨hx, hb, hr, hml, hown, hts0, hXs, hbl, hlocks, hgv⟩ := C0
  have hown : s.vm.findClass R_L = some m.cls := hown
  have hG : ∀ w ∈ gG, w.before #[Value.ref b] s = true := fun w h => hts0 w (List.mem_filter.mp h).1
  have hts : ∀ w ∈ (Cond.tt :: gG), w.before #[Value.ref b] s = true := fun w h => (List.mem_cons.mp h).elim (fun e => by rw [e]; rfl) (hG w)
  obtain ⟨A, hAd⟩ : ∃ A : Nat → Prop, A = fun q => s.heap.size ≤ q := ⟨_, rfl⟩
  have hA : ∀ q, s.heap.size ≤ q → A q := fun q h => by rw [hAd]; exact h
  have hbA : ¬ A b := by rw [hAd]; exact Nat.not_le.mpr hbl
  obtain ⟨D, C, tl, tg, hall, hY, hoP, hoW⟩ := le_all (A := A) (fun a h => by rw [hAd]; exact Nat.not_le.mpr h) hts0 hgv
  obtain ⟨N, hN⟩ : ∃ N, (kq (cv L xs 1) 16).toNatClampNeg = N := ⟨_, rfl⟩
  rw [hN] at hstep
  obtain ⟨E0, hE0⟩ : ∃ E0 : gE, E0 = ((D, C), (fun _ _ => 0), 0, tl, tg) := ⟨_, rfl⟩
  have hK0 : va_K (eD E0) classes (eT E0) s := by rw [hE0]; exact (hall _ _).1
  have hS : va_S A s.heap s.heap [] := va_S.rf
  have hP : va_P (eD E0) classes ([] ++ []) s.heap := fun k q hk => by simp at hk
  have hD : va_D A ([] ++ []) := ⟨fun i j p q hi => by simp at hi, fun k q hk => by simp at hk⟩
  have hl := lv_entry ([.ref b] : List Value) (n := 7) (Nat.le_of_ble_eq_true rfl)
  rw [lg_entry_eq]
  generalize (lg_sl ([.ref b] : List Value) ++ List.replicate (7 - (lg_sl ([.ref b] : List Value)).length) Slot.unset).toArray = ls at hl ⊢
  have hl : lv_has ls 7 [(0, .ref b)] := hl
  refine g_newX (E := E0) (X := []) (L := []) (own := R_L) (C := R_K) (T := F_K) (N := 14) (ci := 2) (fs := [.int 0, .null, .null, .null, .null, .int 0, .int 0, .int 0, .int 0, .int 0, .null, .int 0, .null, .int 0]) hx hb hG in_us_K t_K t_K_ok hown gm_85 gm_86 gm_72 hK0 hP hD hS hA rfl (fun j hj => by rcases (show j = 0 ∨ j = 1 ∨ j = 2 ∨ j = 3 ∨ j = 4 ∨ j = 5 ∨ j = 6 ∨ j = 7 ∨ j = 8 ∨ j = 9 ∨ j = 10 ∨ j = 11 ∨ j = 12 ∨ j = 13 by omega) with rfl | rfl | rfl | rfl | rfl | rfl | rfl | rfl | rfl | rfl | rfl | rfl | rfl | rfl <;> rfl) (by decide) (by decide) d_L_law_0 (fun h0 H hP hD hS => ?_)
  have hP : va_P (eD E0) classes ([] ++ [(h0, .inr (2, [.int 0, .null, .null, .null, .null, .int 0, .int 0, .int 0, .int 0, .int 0, .null, .int 0, .null, .int 0]))]) H := hP
  have hD : va_D A ([] ++ [(h0, .inr (2, [.int 0, .null, .null, .null, .null, .int 0, .int 0, .int 0, .int 0, .int 0, .null, .int 0, .null, .int 0]))]) := hD
  refine lv_dup hx hb d_L_law_3 rfl ?_
  refine lv_aload_n hx hb d_L_law_4 rfl (lv_at hl 0 rfl) ?_
  refine lv_iconst (v := 0) hx hb d_L_law_5 (by decide) ?_
  refine lc_cell (E := E0) (j := 0) (rest := [.ref h0, .ref h0]) ⟨hx, hb, hml, hown, hts⟩ hL (by decide) hXs hbl hbA hP hS hl.1 (Nat.le_of_ble_eq_true rfl) d_L_law_6 (Nat.le_of_ble_eq_true rfl) (Nat.le_of_ble_eq_true rfl) ⟨by decide, by decide⟩ (fun H locs hP hS => ?_)
  refine lv_aload_n hx hb d_L_law_9 rfl (lv_at hl 0 rfl) ?_
  refine lv_iconst (v := 1) hx hb d_L_law_10 (by decide) ?_
  refine lc_cell (E := E0) (j := 1) (rest := [.int (cv L xs 0), .ref h0, .ref h0]) ⟨hx, hb, hml, hown, hts⟩ hL (by decide) hXs hbl hbA hP hS hl.1 (Nat.le_of_ble_eq_true rfl) d_L_law_11 (Nat.le_of_ble_eq_true rfl) (Nat.le_of_ble_eq_true rfl) ⟨by decide, by decide⟩ (fun H locs hP hS => ?_)
  refine g_callIk (cc := code) (As := [.int (cv L xs 0), .int (cv L xs 1)]) (rest := [.ref h0]) hoP hoW ⟨hx, hb, hml, hown, hts⟩ (c_K_init l E0 [] h0 (cv L xs 0) (cv L xs 1)) (cwI 2 hts (gi_I gm_89) rfl rfl rfl (hG _ gm_72) (hG _ gm_87) (hG _ gm_88) rfl (by decide +kernel) ⟨Nat.le_of_ble_eq_true rfl, Nat.le_of_ble_eq_true rfl⟩) hK0 hP hD hS hA rfl hl.1 rfl (Nat.le_of_ble_eq_true rfl) d_L_law_14 ⟨by decide, by decide⟩ (fun g H locs hg hP hD hS => ?_)
  rw [hN] at hP hD
  have hP : va_P (eD E0) classes ([] ++ (iL0 E0 g (kq (cv L xs 0) 100) (f9 g 1 16) (f9 g 5 8) ++ (pB E0 g 16 ++ wB E0 g N 8))) H := hP
  have hD : va_D A ([] ++ (iL0 E0 g (kq (cv L xs 0) 100) (f9 g 1 16) (f9 g 5 8) ++ (pB E0 g 16 ++ wB E0 g N 8))) := hD
  refine lv_astore_n (lv' := [(1, .ref h0), (0, .ref b)]) hx hb d_L_law_17 rfl hl (by decide) rfl (fun ls hl => ?_)
  refine g_newX (E := E0) (X := []) (L := (iL0 E0 g (kq (cv L xs 0) 100) (f9 g 1 16) (f9 g 5 8) ++ (pB E0 g 16 ++ wB E0 g N 8))) (own := R_L) (C := R_M) (T := F_M) (N := 28) (ci := 3) (fs := [.int 0, .int 0, .int 0, .int 0, .int 0, .null, .null, .null, .null, .null, .null, .null, .null, .null, .null, .null, .int 0, .int 0, .int 0, .null, .null, .null, .null, .null, .int 0, .int 0, .null, .int 0]) hx hb hG in_us_M t_M t_M_ok hown gm_710 gm_711 gm_76 hK0 hP hD hS hA rfl (fun j hj => by rcases (show j = 0 ∨ j = 1 ∨ j = 2 ∨ j = 3 ∨ j = 4 ∨ j = 5 ∨ j = 6 ∨ j = 7 ∨ j = 8 ∨ j = 9 ∨ j = 10 ∨ j = 11 ∨ j = 12 ∨ j = 13 ∨ j = 14 ∨ j = 15 ∨ j = 16 ∨ j = 17 ∨ j = 18 ∨ j = 19 ∨ j = 20 ∨ j = 21 ∨ j = 22 ∨ j = 23 ∨ j = 24 ∨ j = 25 ∨ j = 26 ∨ j = 27 by omega) with rfl | rfl | rfl | rfl | rfl | rfl | rfl | rfl | rfl | rfl | rfl | rfl | rfl | rfl | rfl | rfl | rfl | rfl | rfl | rfl | rfl | rfl | rfl | rfl | rfl | rfl | rfl | rfl <;> rfl) (by decide) (by decide) d_L_law_18 (fun qm H hP hD hS => ?_)
  have hP : va_P (eD E0) classes ((iL0 E0 g (kq (cv L xs 0) 100) (f9 g 1 16) (f9 g 5 8) ++ (pB E0 g 16 ++ wB E0 g N 8)) ++ [(qm, .inr (3, [.int 0, .int 0, .int 0, .int 0, .int 0, .null, .null, .null, .null, .null, .null, .null, .null, .null, .null, .null, .int 0, .int 0, .int 0, .null, .null, .null, .null, .null, .int 0, .int 0, .null, .int 0]))]) H := hP
  have hD : va_D A ((iL0 E0 g (kq (cv L xs 0) 100) (f9 g 1 16) (f9 g 5 8) ++ (pB E0 g 16 ++ wB E0 g N 8)) ++ [(qm, .inr (3, [.int 0, .int 0, .int 0, .int 0, .int 0, .null, .null, .null, .null, .null, .null, .null, .null, .null, .null, .null, .int 0, .int 0, .int 0, .null, .null, .null, .null, .null, .int 0, .int 0, .null, .int 0]))]) := hD
  refine lv_dup hx hb d_L_law_21 rfl ?_
  refine lv_aload_n hx hb d_L_law_22 rfl (lv_at hl 1 rfl) ?_
  refine lv_iconst (v := 0) hx hb d_L_law_23 (by decide) ?_
  refine lc_cell (E := E0) (j := 0) (rest := [.ref qm, .ref qm]) ⟨hx, hb, hml, hown, hts⟩ hL (by decide) hXs hbl hbA hP hS hl.1 (Nat.le_of_ble_eq_true rfl) d_L_law_24 (Nat.le_of_ble_eq_true rfl) (Nat.le_of_ble_eq_true rfl) ⟨by decide, by decide⟩ (fun H locs hP hS => ?_)
  refine lv_aload_n hx hb d_L_law_27 rfl (lv_at hl 1 rfl) ?_
  refine lv_iconst (v := 1) hx hb d_L_law_28 (by decide) ?_
  refine lc_cell (E := E0) (j := 1) (rest := [.int (cv L xs 0), .ref qm, .ref qm]) ⟨hx, hb, hml, hown, hts⟩ hL (by decide) hXs hbl hbA hP hS hl.1 (Nat.le_of_ble_eq_true rfl) d_L_law_29 (Nat.le_of_ble_eq_true rfl) (Nat.le_of_ble_eq_true rfl) ⟨by decide, by decide⟩ (fun H locs hP hS => ?_)
  refine g_callI (cc := code) (As := [.int (cv L xs 0), .int (cv L xs 1)]) (rest := [.ref qm]) ⟨hx, hb, hml, hown, hts⟩ (c_M_init l E0 (iL0 E0 g (kq (cv L xs 0) 100) (f9 g 1 16) (f9 g 5 8) ++ (pB E0 g 16 ++ wB E0 g N 8)) qm (cv L xs 0) (cv L xs 1)) (cwI 2 hts (gi_I gm_714) rfl rfl rfl (hG _ gm_76) (hG _ gm_712) (hG _ gm_713) rfl (by decide +kernel) ⟨Nat.le_of_ble_eq_true rfl, Nat.le_of_ble_eq_true rfl⟩) hK0 hP hD hS hA rfl hl.1 rfl (Nat.le_of_ble_eq_true rfl) d_L_law_32 ⟨by decide, by decide⟩ (fun u H locs hu hP hD hS => ?_)
  obtain ⟨⟨u1, u2⟩, u⟩ := u
  obtain ⟨hu1, hu2⟩ := hu
  have hu1 : u1 = mq (cv L xs 0) 100 := hu1
  have hu2 : u2 = mq (cv L xs 1) 16 := hu2
  subst hu1 hu2
  have hP : va_P (eD E0) classes ((iL0 E0 g (kq (cv L xs 0) 100) (f9 g 1 16) (f9 g 5 8) ++ (pB E0 g 16 ++ wB E0 g N 8)) ++ [(qm, .inr (3, [.int 0, .int (mq (cv L xs 0) 100), .int (mq (cv L xs 1) 16), .int 0, .int 0, .ref (u 25), .ref (u 26), .ref (u 27), .ref (u 28), .ref (u 29), .ref (u 30), .ref (u 31), .ref (u 32), .ref (u 33), .ref (u 34), .ref (u 35), .int 0, .int 0, .int 0, .ref (u 39), .ref (u 40), .ref (u 41), .ref (u 42), .ref (u 43), .int 0, .int 0, .ref (u 46), .int 0])), (u 25, .inl (eC E0 0, 128, .inl (fun _ => 0))), (u 26, .inl (eC E0 0, 16, .inl (fun _ => 0))), (u 27, .inl (eC E0 0, 2048, .inl (fun _ => 0))), (u 28, .inl (eC E0 0, 1024, .inl (fun _ => 0))), (u 29, .inl (eC E0 0, 16, .inl (fun _ => 0))), (u 30, .inl (eC E0 0, 16, .inl (fun _ => 0))), (u 31, .inl (eC E0 0, 128, .inl (fun _ => 0))), (u 32, .inl (eC E0 0, 16, .inl (fun _ => 0))), (u 33, .inl (eC E0 0, 16, .inl (fun _ => 0))), (u 34, .inl (eC E0 0, 16, .inl (fun _ => 0))), (u 35, .inl (eC E0 0, 16, .inl (fun _ => 0))), (u 39, .inl (eC E0 0, 272, .inl (fun _ => 0))), (u 40, .inl (eC E0 0, 17, .inl (fun _ => 0))), (u 41, .inl (eC E0 0, 128, .inl (fun _ => 0))), (u 42, .inl (eC E0 0, 8, .inl (fun _ => 0))), (u 43, .inl (eC E0 0, 100, .inl (fun _ => 0))), (u 46, .inl (eC E0 0, 500, .inl (fun _ => 0)))]) H := hP
  have hD : va_D A ((iL0 E0 g (kq (cv L xs 0) 100) (f9 g 1 16) (f9 g 5 8) ++ (pB E0 g 16 ++ wB E0 g N 8)) ++ [(qm, .inr (3, [.int 0, .int (mq (cv L xs 0) 100), .int (mq (cv L xs 1) 16), .int 0, .int 0, .ref (u 25), .ref (u 26), .ref (u 27), .ref (u 28), .ref (u 29), .ref (u 30), .ref (u 31), .ref (u 32), .ref (u 33), .ref (u 34), .ref (u 35), .int 0, .int 0, .int 0, .ref (u 39), .ref (u 40), .ref (u 41), .ref (u 42), .ref (u 43), .int 0, .int 0, .ref (u 46), .int 0])), (u 25, .inl (eC E0 0, 128, .inl (fun _ => 0))), (u 26, .inl (eC E0 0, 16, .inl (fun _ => 0))), (u 27, .inl (eC E0 0, 2048, .inl (fun _ => 0))), (u 28, .inl (eC E0 0, 1024, .inl (fun _ => 0))), (u 29, .inl (eC E0 0, 16, .inl (fun _ => 0))), (u 30, .inl (eC E0 0, 16, .inl (fun _ => 0))), (u 31, .inl (eC E0 0, 128, .inl (fun _ => 0))), (u 32, .inl (eC E0 0, 16, .inl (fun _ => 0))), (u 33, .inl (eC E0 0, 16, .inl (fun _ => 0))), (u 34, .inl (eC E0 0, 16, .inl (fun _ => 0))), (u 35, .inl (eC E0 0, 16, .inl (fun _ => 0))), (u 39, .inl (eC E0 0, 272, .inl (fun _ => 0))), (u 40, .inl (eC E0 0, 17, .inl (fun _ => 0))), (u 41, .inl (eC E0 0, 128, .inl (fun _ => 0))), (u 42, .inl (eC E0 0, 8, .inl (fun _ => 0))), (u 43, .inl (eC E0 0, 100, .inl (fun _ => 0))), (u 46, .inl (eC E0 0, 500, .inl (fun _ => 0)))]) := hD
  refine lv_astore_n (lv' := [(2, .ref qm), (1, .ref h0), (0, .ref b)]) hx hb d_L_law_35 rfl hl (by decide) rfl (fun ls hl => ?_)
  refine lv_iconst (v := 1) hx hb d_L_law_36 (by decide) ?_
  refine va_newa (atype := .long) (ty := .long) (N' := 1) (a0 := (1, .inr (.inl (fun _ => 0)))) hx hb (hG _ gm_1014) rfl hK0 hP hD hS hA (fun _ => rfl) (by decide) rfl (by decide) (by decide) (by decide) d_L_law_37 (fun o cA H hK1 hP hD hS => ?_)
  have ec : cA = eC E0 3 := by
    have h1 : s.vm.findClass _ = some (eC E0 3) := (hK0.2 3 _ rfl).2
    have h2 : s.vm.findClass _ = some cA := (hK1.2 4 _ rfl).2
    exact Option.some.inj (h2.symm.trans h1)
  subst ec
  refine lv_astore_n (lv' := [(3, .ref o), (2, .ref qm), (1, .ref h0), (0, .ref b)]) hx hb d_L_law_39 rfl hl (by decide) rfl (fun ls hl => ?_)
  refine lv_iconst (v := 2) hx hb d_L_law_40 (by decide) ?_
  refine lv_istore (lv' := [(4, .int (nI 2)), (3, .ref o), (2, .ref qm), (1, .ref h0), (0, .ref b)]) hx hb d_L_law_41 hl (by decide) rfl (fun ls hl => ?_)
  have hP := vp_swap hP
  have hD := vd_swap hD
  obtain ⟨hP, hD⟩ := rep2 (k := 1) (f2 := fun j => some (g 1 j)) hP hD rfl (fun j hj => by unfold f9; rw [if_pos hj])
  obtain ⟨hP, hD⟩ := rep2 (k := 2) (f2 := fun j => some (g 5 j)) hP hD rfl (fun j hj => by unfold f9; rw [if_pos hj])
  have hP : va_P (eD E0) classes (((iL0 E0 g (kq (cv L xs 0) 100) (fun j => some (g 1 j)) (fun j => some (g 5 j)) ++ (pB E0 g 16 ++ wB E0 g N 8)) ++ [(o, .inl (eC E0 3, 1, .inr (.inl (fun _ => 0))))]) ++ [(qm, .inr (3, [.int 0, .int (mq (cv L xs 0) 100), .int (mq (cv L xs 1) 16), .int 0, .int 0, .ref (u 25), .ref (u 26), .ref (u 27), .ref (u 28), .ref (u 29), .ref (u 30), .ref (u 31), .ref (u 32), .ref (u 33), .ref (u 34), .ref (u 35), .int 0, .int 0, .int 0, .ref (u 39), .ref (u 40), .ref (u 41), .ref (u 42), .ref (u 43), .int 0, .int 0, .ref (u 46), .int 0])), (u 25, .inl (eC E0 0, 128, .inl (fun _ => 0))), (u 26, .inl (eC E0 0, 16, .inl (fun _ => 0))), (u 27, .inl (eC E0 0, 2048, .inl (fun _ => 0))), (u 28, .inl (eC E0 0, 1024, .inl (fun _ => 0))), (u 29, .inl (eC E0 0, 16, .inl (fun _ => 0))), (u 30, .inl (eC E0 0, 16, .inl (fun _ => 0))), (u 31, .inl (eC E0 0, 128, .inl (fun _ => 0))), (u 32, .inl (eC E0 0, 16, .inl (fun _ => 0))), (u 33, .inl (eC E0 0, 16, .inl (fun _ => 0))), (u 34, .inl (eC E0 0, 16, .inl (fun _ => 0))), (u 35, .inl (eC E0 0, 16, .inl (fun _ => 0))), (u 39, .inl (eC E0 0, 272, .inl (fun _ => 0))), (u 40, .inl (eC E0 0, 17, .inl (fun _ => 0))), (u 41, .inl (eC E0 0, 128, .inl (fun _ => 0))), (u 42, .inl (eC E0 0, 8, .inl (fun _ => 0))), (u 43, .inl (eC E0 0, 100, .inl (fun _ => 0))), (u 46, .inl (eC E0 0, 500, .inl (fun _ => 0)))]) H := hP
  have hD : va_D A (((iL0 E0 g (kq (cv L xs 0) 100) (fun j => some (g 1 j)) (fun j => some (g 5 j)) ++ (pB E0 g 16 ++ wB E0 g N 8)) ++ [(o, .inl (eC E0 3, 1, .inr (.inl (fun _ => 0))))]) ++ [(qm, .inr (3, [.int 0, .int (mq (cv L xs 0) 100), .int (mq (cv L xs 1) 16), .int 0, .int 0, .ref (u 25), .ref (u 26), .ref (u 27), .ref (u 28), .ref (u 29), .ref (u 30), .ref (u 31), .ref (u 32), .ref (u 33), .ref (u 34), .ref (u 35), .int 0, .int 0, .int 0, .ref (u 39), .ref (u 40), .ref (u 41), .ref (u 42), .ref (u 43), .int 0, .int 0, .ref (u 46), .int 0])), (u 25, .inl (eC E0 0, 128, .inl (fun _ => 0))), (u 26, .inl (eC E0 0, 16, .inl (fun _ => 0))), (u 27, .inl (eC E0 0, 2048, .inl (fun _ => 0))), (u 28, .inl (eC E0 0, 1024, .inl (fun _ => 0))), (u 29, .inl (eC E0 0, 16, .inl (fun _ => 0))), (u 30, .inl (eC E0 0, 16, .inl (fun _ => 0))), (u 31, .inl (eC E0 0, 128, .inl (fun _ => 0))), (u 32, .inl (eC E0 0, 16, .inl (fun _ => 0))), (u 33, .inl (eC E0 0, 16, .inl (fun _ => 0))), (u 34, .inl (eC E0 0, 16, .inl (fun _ => 0))), (u 35, .inl (eC E0 0, 16, .inl (fun _ => 0))), (u 39, .inl (eC E0 0, 272, .inl (fun _ => 0))), (u 40, .inl (eC E0 0, 17, .inl (fun _ => 0))), (u 41, .inl (eC E0 0, 128, .inl (fun _ => 0))), (u 42, .inl (eC E0 0, 8, .inl (fun _ => 0))), (u 43, .inl (eC E0 0, 100, .inl (fun _ => 0))), (u 46, .inl (eC E0 0, 500, .inl (fun _ => 0)))]) := hD
  subst hE0
  have eK := @gw_K D C g (fun _ _ => 0) o qm tl tg N 0 u (kq (cv L xs 0) 100)
  have eM := @gw_M D C g o qm tl tg N u (mq (cv L xs 0) 100) (mq (cv L xs 1) 16)
  obtain ⟨E, hE⟩ : ∃ E : gE, E = ((D, C), adr g o qm u, N, tl, tg) := ⟨_, rfl⟩
  rw [← hE] at eK eM
  obtain ⟨hK, hX⟩ := hall (adr g o qm u) N
  rw [← hE] at hK hX
  have hP : va_P (eD E) classes (gw KK E (fK0 (kq (cv L xs 0) 100)) ++ gw MM E (fM0 (mq (cv L xs 0) 100) (mq (cv L xs 1) 16))) H := by
    rw [eK, eM, hE]
    exact hP
  have hD : va_D A (gw KK E (fK0 (kq (cv L xs 0) 100)) ++ gw MM E (fM0 (mq (cv L xs 0) 100) (mq (cv L xs 1) 16))) := by
    rw [eK, eM]
    exact hD
  have e0 : ea E 0 0 = h0 := by rw [hE]; exact hg
  have e2 : ea E 20 0 = qm := by rw [hE]; rfl
  have e5 : ea E 50 0 = o := by rw [hE]; rfl
  have eNn : eN E = N := by rw [hE]; rfl
  refine W.widen (k := 109 + 2) (n := 8215 + 6 * 2) (by decide) (by decide) ?_
  exact law_loop l hl0 hL hx hb hr hml hown hts0 hXs hbl hlocks E A hAd (lAp_of hD) hK hX hY Inv (by rw [eNn]; exact hstep) (L + 1) 2 _ _ ls H _ (by omega) (by omega) hI0 (by rw [e0, e2, e5]; exact hl) ⟨vp_left hP, vd_left hD, hS⟩ ⟨vp_right hP, vd_right hD, hS⟩

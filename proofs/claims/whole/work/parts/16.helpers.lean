def R_L : String := "PipeKernelLaw"
theorem gm_247 : (.classLink R_L 13 "java/lang/IndexOutOfBoundsException" : Cond) ∈ gG := tb_tables_1_1 (List.mem_of_getElem? (i := 176) rfl) rfl
theorem gm_248 : (.classLink R_L 15 "java/lang/IllegalStateException" : Cond) ∈ gG := tb_tables_1_1 (List.mem_of_getElem? (i := 177) rfl) rfl
theorem gm_249 : (.methodLink R_L 7 y_K_load : Cond) ∈ gG := tb_tables_1_1 (List.mem_of_getElem? (i := 178) rfl) rfl
theorem gm_250 : (.instanceMethod y_K_load : Cond) ∈ gG := tb_tables_1_1 (List.mem_of_getElem? (i := 179) rfl) rfl
theorem gm_251 : (.selects R_K y_K_load y_K_load : Cond) ∈ gG := tb_tables_1_1 (List.mem_of_getElem? (i := 180) rfl) rfl
theorem gm_252 : (.code y_K_load b_K_load 3 none : Cond) ∈ gG := tb_tables_1_1 (List.mem_of_getElem? (i := 181) rfl) rfl
theorem gm_340 : (.methodLink R_L 17 y_K_boot : Cond) ∈ gG := tb_tables_1_2 (List.mem_of_getElem? (i := 29) rfl) rfl
theorem gm_341 : (.instanceMethod y_K_boot : Cond) ∈ gG := tb_tables_1_2 (List.mem_of_getElem? (i := 30) rfl) rfl
theorem gm_342 : (.selects R_K y_K_boot y_K_boot : Cond) ∈ gG := tb_tables_1_2 (List.mem_of_getElem? (i := 31) rfl) rfl
theorem gm_343 : (.code y_K_boot b_K_boot 1 none : Cond) ∈ gG := tb_tables_1_2 (List.mem_of_getElem? (i := 32) rfl) rfl
theorem gm_347 : (.classLink R_L 24 "java/lang/IllegalArgumentException" : Cond) ∈ gG := tb_tables_1_2 (List.mem_of_getElem? (i := 36) rfl) rfl
theorem gm_348 : (.methodLink R_L 20 y_K_run : Cond) ∈ gG := tb_tables_1_2 (List.mem_of_getElem? (i := 37) rfl) rfl
theorem gm_349 : (.instanceMethod y_K_run : Cond) ∈ gG := tb_tables_1_2 (List.mem_of_getElem? (i := 38) rfl) rfl
theorem gm_350 : (.selects R_K y_K_run y_K_run : Cond) ∈ gG := tb_tables_1_2 (List.mem_of_getElem? (i := 39) rfl) rfl
theorem gm_351 : (.code y_K_run b_K_run 3 (some .int) : Cond) ∈ gG := tb_tables_1_2 (List.mem_of_getElem? (i := 40) rfl) rfl
theorem gm_630 : (.methodLink R_L 26 y_K_feed : Cond) ∈ gG := tb_tables_1_3 (List.mem_of_getElem? (i := 79) rfl) rfl
theorem gm_631 : (.instanceMethod y_K_feed : Cond) ∈ gG := tb_tables_1_3 (List.mem_of_getElem? (i := 80) rfl) rfl
theorem gm_632 : (.selects R_K y_K_feed y_K_feed : Cond) ∈ gG := tb_tables_1_3 (List.mem_of_getElem? (i := 81) rfl) rfl
theorem gm_633 : (.code y_K_feed b_K_feed 2 (some .int) : Cond) ∈ gG := tb_tables_1_3 (List.mem_of_getElem? (i := 82) rfl) rfl
theorem gm_638 : (.methodLink R_L 29 y_K_state : Cond) ∈ gG := tb_tables_1_3 (List.mem_of_getElem? (i := 87) rfl) rfl
theorem gm_639 : (.instanceMethod y_K_state : Cond) ∈ gG := tb_tables_1_3 (List.mem_of_getElem? (i := 88) rfl) rfl
theorem gm_640 : (.selects R_K y_K_state y_K_state : Cond) ∈ gG := tb_tables_1_3 (List.mem_of_getElem? (i := 89) rfl) rfl
theorem gm_641 : (.code y_K_state b_K_state 2 (some .int) : Cond) ∈ gG := tb_tables_1_3 (List.mem_of_getElem? (i := 90) rfl) rfl
theorem gm_646 : (.methodLink R_L 32 y_K_about : Cond) ∈ gG := tb_tables_1_3 (List.mem_of_getElem? (i := 95) rfl) rfl
theorem gm_647 : (.instanceMethod y_K_about : Cond) ∈ gG := tb_tables_1_3 (List.mem_of_getElem? (i := 96) rfl) rfl
theorem gm_648 : (.selects R_K y_K_about y_K_about : Cond) ∈ gG := tb_tables_1_3 (List.mem_of_getElem? (i := 97) rfl) rfl
theorem gm_649 : (.code y_K_about b_K_about 4 (some .int) : Cond) ∈ gG := tb_tables_1_3 (List.mem_of_getElem? (i := 98) rfl) rfl
theorem gm_656 : (.methodLink R_L 36 y_K_stack : Cond) ∈ gG := tb_tables_1_3 (List.mem_of_getElem? (i := 105) rfl) rfl
theorem gm_657 : (.instanceMethod y_K_stack : Cond) ∈ gG := tb_tables_1_3 (List.mem_of_getElem? (i := 106) rfl) rfl
theorem gm_658 : (.selects R_K y_K_stack y_K_stack : Cond) ∈ gG := tb_tables_1_3 (List.mem_of_getElem? (i := 107) rfl) rfl
theorem gm_659 : (.code y_K_stack b_K_stack 4 (some .int) : Cond) ∈ gG := tb_tables_1_3 (List.mem_of_getElem? (i := 108) rfl) rfl
theorem gm_664 : (.methodLink R_L 39 y_K_memory : Cond) ∈ gG := tb_tables_1_3 (List.mem_of_getElem? (i := 113) rfl) rfl
theorem gm_665 : (.instanceMethod y_K_memory : Cond) ∈ gG := tb_tables_1_3 (List.mem_of_getElem? (i := 114) rfl) rfl
theorem gm_666 : (.selects R_K y_K_memory y_K_memory : Cond) ∈ gG := tb_tables_1_3 (List.mem_of_getElem? (i := 115) rfl) rfl
theorem gm_667 : (.code y_K_memory b_K_memory 3 (some .int) : Cond) ∈ gG := tb_tables_1_3 (List.mem_of_getElem? (i := 116) rfl) rfl
theorem gm_672 : (.methodLink R_L 42 y_K_queue : Cond) ∈ gG := tb_tables_1_3 (List.mem_of_getElem? (i := 121) rfl) rfl
theorem gm_673 : (.instanceMethod y_K_queue : Cond) ∈ gG := tb_tables_1_3 (List.mem_of_getElem? (i := 122) rfl) rfl
theorem gm_674 : (.selects R_K y_K_queue y_K_queue : Cond) ∈ gG := tb_tables_1_3 (List.mem_of_getElem? (i := 123) rfl) rfl
theorem gm_675 : (.code y_K_queue b_K_queue 2 (some .int) : Cond) ∈ gG := tb_tables_1_3 (List.mem_of_getElem? (i := 124) rfl) rfl
theorem gm_680 : (.methodLink R_L 45 y_K_descriptor : Cond) ∈ gG := tb_tables_1_3 (List.mem_of_getElem? (i := 129) rfl) rfl
theorem gm_681 : (.instanceMethod y_K_descriptor : Cond) ∈ gG := tb_tables_1_3 (List.mem_of_getElem? (i := 130) rfl) rfl
theorem gm_682 : (.selects R_K y_K_descriptor y_K_descriptor : Cond) ∈ gG := tb_tables_1_3 (List.mem_of_getElem? (i := 131) rfl) rfl
theorem gm_683 : (.code y_K_descriptor b_K_descriptor 3 (some .int) : Cond) ∈ gG := tb_tables_1_3 (List.mem_of_getElem? (i := 132) rfl) rfl
theorem gm_688 : (.methodLink R_L 48 y_K_pipe : Cond) ∈ gG := tb_tables_1_3 (List.mem_of_getElem? (i := 137) rfl) rfl
theorem gm_689 : (.instanceMethod y_K_pipe : Cond) ∈ gG := tb_tables_1_3 (List.mem_of_getElem? (i := 138) rfl) rfl
theorem gm_690 : (.selects R_K y_K_pipe y_K_pipe : Cond) ∈ gG := tb_tables_1_3 (List.mem_of_getElem? (i := 139) rfl) rfl
theorem gm_691 : (.code y_K_pipe b_K_pipe 3 (some .int) : Cond) ∈ gG := tb_tables_1_3 (List.mem_of_getElem? (i := 140) rfl) rfl
theorem gm_701 : (.methodLink R_L 51 y_K_out : Cond) ∈ gG := tb_tables_1_3 (List.mem_of_getElem? (i := 150) rfl) rfl
theorem gm_702 : (.instanceMethod y_K_out : Cond) ∈ gG := tb_tables_1_3 (List.mem_of_getElem? (i := 151) rfl) rfl
theorem gm_703 : (.selects R_K y_K_out y_K_out : Cond) ∈ gG := tb_tables_1_3 (List.mem_of_getElem? (i := 152) rfl) rfl
theorem gm_704 : (.code y_K_out b_K_out 2 (some .int) : Cond) ∈ gG := tb_tables_1_3 (List.mem_of_getElem? (i := 153) rfl) rfl
section KH
variable {p : Program} {l : Launch} {e : Env} {R : Room} {s : State} {m : MethodId} {args : Array Value} {below : List Frame} {meth : Method} {c : Code} {H : Heap} {locs : List Loc} {cells slots : Nat} {Q : State → Prop}
variable {cc : ByteArray} {pc : Nat} {ls : Array Slot} {rest : List Value} {E : gE} {ks : List (Nat × Nat)} {A : Nat → Prop} {f : KS}
theorem g_prex {av : List Value} (hV : gV E ks A f s H locs) (hK : va_K (eD E) classes (eT E) s) (hX : kX E A s s.heap) (hY : kY A s s.heap) (hAe : A = gA E ks s.heap.size) : ∀ U : State, U.heap = H → s.WarmedH U.vm → gPx E ks H.size av f av.toArray U := by
  intro U hU hW
  obtain ⟨h1, h2, h3⟩ := g_pre (av := av) hV hK hX hAe U hU hW
  refine ⟨h1, h2, h3, ?_⟩
  rw [hU]
  exact hY.go hV.2.2 (by rw [hAe]; exact gA_le hV.2.2.1) hW
theorem g_xcallV {own C : String} {index : Nat} {y : MethodName} {bytes : ByteArray} {maxL nL n : Nat} {ret : Option FieldType} {ws Ts : List Cond} {rm : Room} {As st0 : List Value} {bb : Nat} {Qa : Nat → Array Value → State → Outcome → State → Prop} {XC : Nat → String → State → State → Prop}
    (S : CallFix p m c cc nL s args Ts own) (hM : ∀ sz : Nat, vx_Met l y ws rm (gPx E ks sz (.ref bb :: As) f) (Qa sz) (XC sz) 1 6 (gA E ks sz)) (cw : CallW R s args own C index y bytes maxL ret ws rm 1 6 n) (hV : gV E ks A f s H locs) (hK : va_K (eD E) classes (eT E) s) (hX : kX E A s s.heap) (hY : kY A s s.heap) (hAe : A = gA E ks s.heap.size)
    (hr : ∃ cell : Cell, H[bb]? = some cell ∧ cell.vm.isStatics = false ∧ s.vm.findClass C = some cell.cls) (hn : As.length = n) (hsz : ls.size = nL) (hst : st0 = As.reverse ++ .ref bb :: rest) (hW : (rest.map fun v => v.category).sum ≤ 8) (hdg : decode cc pc = .ok (.invokevirtual index, 3)) (h0 : cells + 1 ≤ R.cells ∧ slots + 6 ≤ R.slots) :
    vx_Run p l e R s m args below meth c H locs cells slots 1 6 (F0 m pc ls st0) rest (Qa H.size (Value.ref bb :: As).toArray) (XC H.size) (gA E ks H.size) :=
  vx_runV S (hM H.size) cw ⟨gPx_blind, hr, g_prex hV hK hX hY hAe⟩ rfl hn hsz hst (lv_room hW) hdg h0
theorem g_xgoi {st0 : List Value} {av : Array Value} {Φ : Int32 → KS → Prop} {Ψ : Nat → KS → Prop} (hr : vx_Run p l e R s m args below meth c H locs cells slots 1 6 (F0 m pc ls st0) rest (gQi E ks (gA E ks H.size) Φ av) (gXC E ks (gA E ks H.size) Ψ) (gA E ks H.size)) (hV : gV E ks A f s H locs) (hAe : A = gA E ks s.heap.size)
    (kx : ∀ (n : Nat) (u : KS) (q9 : Nat) (ce : Cell) (H1 : Heap) (locs1 : List Loc), n < 3 → Ψ n u → gV E ks A u s H1 locs1 → H1[q9]? = some ce → ce.vm = .none → s.vm.findClass (xN n) = some ce.cls → vx_W p l e R s m args below meth c H1 locs1 (cells + 1) (slots + 6) Q (F0 m pc ls rest) q9)
    (kk : ∀ (r : Int32) (u : KS) (H1 : Heap) (locs1 : List Loc), Φ r u → gV E ks A u s H1 locs1 → W p l e R s m args below meth c H1 locs1 (cells + 1) (slots + 6) Q (F0 m (pc + 3) ls (.int r :: rest))) : W p l e R s m args below meth c H locs cells slots Q (F0 m pc ls st0) := by
  refine vx_calli hr hV.2.2 (fun q _ h => by rw [hAe]; exact gA_le hV.2.2.1 q h) (fun q h => by rw [hAe]; exact gA_le hV.2.2.1 q h) (fun q _ h => by rw [hAe]; exact gA_le hV.2.2.1 q h) (fun C ce q9 z t H1 locs1 ht hvm hp hB hz hk hS hce hcv hcl => ?_) (fun r u t H1 locs1 ht hvm hp hB hz hk hS => ?_)
  · obtain ⟨rfl, hP, hD⟩ := hB
    rw [ht] at hP
    exact kx z.1 z.2 q9 ce H1 locs1 hp.1 hp.2 ⟨hP, by rw [hAe]; exact gV_D (B := gA E ks H.size) hD, hS⟩ hce hcv hcl
  · exact kk r u H1 locs1 hp (g_back hAe ht hB hV.2.2.1 hS)
theorem g_xgov {st0 : List Value} {av : Array Value} {Φ : KS → Prop} {Ψ : Nat → KS → Prop} (hr : vx_Run p l e R s m args below meth c H locs cells slots 1 6 (F0 m pc ls st0) rest (gQv E ks (gA E ks H.size) Φ av) (gXC E ks (gA E ks H.size) Ψ) (gA E ks H.size)) (hV : gV E ks A f s H locs) (hAe : A = gA E ks s.heap.size)
    (kx : ∀ (n : Nat) (u : KS) (q9 : Nat) (ce : Cell) (H1 : Heap) (locs1 : List Loc), n < 3 → Ψ n u → gV E ks A u s H1 locs1 → H1[q9]? = some ce → ce.vm = .none → s.vm.findClass (xN n) = some ce.cls → vx_W p l e R s m args below meth c H1 locs1 (cells + 1) (slots + 6) Q (F0 m pc ls rest) q9)
    (kk : ∀ (u : KS) (H1 : Heap) (locs1 : List Loc), Φ u → gV E ks A u s H1 locs1 → W p l e R s m args below meth c H1 locs1 (cells + 1) (slots + 6) Q (F0 m (pc + 3) ls rest)) : W p l e R s m args below meth c H locs cells slots Q (F0 m pc ls st0) := by
  refine vx_callv hr hV.2.2 (fun q _ h => by rw [hAe]; exact gA_le hV.2.2.1 q h) (fun q h => by rw [hAe]; exact gA_le hV.2.2.1 q h) (fun q _ h => by rw [hAe]; exact gA_le hV.2.2.1 q h) (fun C ce q9 z t H1 locs1 ht hvm hp hB hz hk hS hce hcv hcl => ?_) (fun u t H1 locs1 ht hvm hp hB hz hk hS => ?_)
  · obtain ⟨rfl, hP, hD⟩ := hB
    rw [ht] at hP
    exact kx z.1 z.2 q9 ce H1 locs1 hp.1 hp.2 ⟨hP, by rw [hAe]; exact gV_D (B := gA E ks H.size) hD, hS⟩ hce hcv hcl
  · exact kk u H1 locs1 hp (g_back hAe ht hB hV.2.2.1 hS)
theorem ks_50 (hexec : p.tables.exec = Jvm.exec) (hb : c.code = cc) (hK : va_K (eD E) classes (eT E) s) (hV : gV E KK A f s H locs) {x : Int32} (hdg : decode cc pc = .ok (.lastore, 1))
    (kk : ∀ (s1 : KS) (H1 : Heap) (locs1 : List Loc), s1 = w3 f 50 0 0 x → gV E KK A s1 s H1 locs1 → W p l e R s m args below meth c H1 locs1 cells slots Q (F0 m (pc + 1) ls rest)) : W p l e R s m args below meth c H locs cells slots Q (F0 m pc ls (.long x.toInt64 :: .int 0 :: .ref (ea E 50 0) :: rest)) := by
  obtain ⟨q, hq⟩ := List.getElem?_of_mem kk_50
  have he : (gw KK E f)[q]? = some (ea E 50 0, .inl (eC E 3, 1, .inr (.inl (fun j => (f 50 0 j).toInt64)))) := gw_pos hq
  refine va_last hexec hb hK hV.1 hV.2.1 hV.2.2 q 3 he rfl (by unfold vp_in; decide) hdg (fun H1 locs1 h1 h2 h3 => ?_)
  have e0 : (0 : Int32).toNatClampNeg = 0 := by decide
  have e1 : vp_updL (fun j => (f 50 0 j).toInt64) (0 : Int32).toNatClampNeg x.toInt64 = fun j => (upd (f 50 0) 0 x j).toInt64 := by
    rw [e0]
    funext j
    unfold vp_updL upd
    by_cases hj : j = 0 <;> simp [hj]
  rw [e1] at h1 h2
  have h1 : va_P (eD E) classes ((gw KK E f).set q (ea E 50 0, ke E 50 0 (upd (f 50 0) 0 x))) H1 := h1
  have h2 : va_D A ((gw KK E f).set q (ea E 50 0, ke E 50 0 (upd (f 50 0) 0 x))) := h2
  rw [gw_set KK_nd hq] at h1 h2
  exact kk _ H1 locs1 rfl ⟨h1, h2, h3⟩
theorem kl_50 (hexec : p.tables.exec = Jvm.exec) (hb : c.code = cc) (hK : va_K (eD E) classes (eT E) s) (hV : gV E KK A f s H locs) (hdg : decode cc pc = .ok (.laload, 1))
    (kk : W p l e R s m args below meth c H locs cells slots Q (F0 m (pc + 1) ls (.long (f 50 0 0).toInt64 :: rest))) : W p l e R s m args below meth c H locs cells slots Q (F0 m pc ls (.int 0 :: .ref (ea E 50 0) :: rest)) := by
  obtain ⟨q, hq⟩ := List.getElem?_of_mem kk_50
  have he : (gw KK E f)[q]? = some (ea E 50 0, .inl (eC E 3, 1, .inr (.inl (fun j => (f 50 0 j).toInt64)))) := gw_pos hq
  exact va_lald hexec hb hK hV.1 q 3 he rfl (by unfold vp_in; decide) hdg kk
theorem kh_i {v : Int32} {Φ : Int32 → KS → Prop} (hexec : p.tables.exec = Jvm.exec) (hb : c.code = cc) (hr : meth.sig.returnType = some .int) (hV : gV E ks A f s H locs) (hK : va_K (eD E) classes (eT E) s) (hX : kX E A s s.heap) (hAe : A = gA E ks s.heap.size) (hΦ : Φ v f) (hdg : decode cc pc = .ok (.ireturn, 1)) (hlocks : meth.locks = false := by assumption) :
    W p l e R s m args below meth c H locs (0 + 1) (0 + 6) (MQ below (gQi E ks A Φ) args s 1 6 A) (F0 m pc ls [.int v]) := kr_i hexec hb hr hV hK hX hAe hΦ hdg hlocks
end KH
def gHi (l : Launch) (y : MethodName) (ws : List Cond) (rm : Room) (E : gE) (av : List Value) (f : KS) (Φ : Int32 → KS → Prop) : Prop := ∀ sz : Nat, Met l y ws rm (gPx E KK sz av f) (gQi E KK (gA E KK sz) Φ) 1 6 (gA E KK sz)
def y_L_load : MethodName := ⟨R_L, "load", "(LPipeKernel;II)I"⟩
abbrev b_L_load : ByteArray := method_3_code
def h_L_load : List (Nat × Nat × Nat × Nat) := [(0, 6, 9, 13), (0, 6, 12, 15)]
def v_L_load : List Cond := .codeWith y_L_load b_L_load 4 (some .int) [(0, 6, 9, 13), (0, 6, 12, 15)] :: gG
def m_L_load : Room := { frames := 7, cells := 1, slots := 6, locals := 132 }
theorem d_L_load_0 : decode b_L_load 0 = .ok (.aload_n 0, 1) := by decide +kernel
theorem d_L_load_1 : decode b_L_load 1 = .ok (.iload_n 1, 1) := by decide +kernel
theorem d_L_load_2 : decode b_L_load 2 = .ok (.iload_n 2, 1) := by decide +kernel
theorem d_L_load_3 : decode b_L_load 3 = .ok (.invokevirtual 7, 3) := by decide +kernel
theorem d_L_load_6 : decode b_L_load 6 = .ok (.goto 9, 3) := by decide +kernel
theorem d_L_load_9 : decode b_L_load 9 = .ok (.astore_n 3, 1) := by decide +kernel
theorem d_L_load_10 : decode b_L_load 10 = .ok (.iconst 1, 1) := by decide +kernel
theorem d_L_load_11 : decode b_L_load 11 = .ok (.ireturn, 1) := by decide +kernel
theorem d_L_load_12 : decode b_L_load 12 = .ok (.astore_n 3, 1) := by decide +kernel
theorem d_L_load_13 : decode b_L_load 13 = .ok (.iconst 2, 1) := by decide +kernel
theorem d_L_load_14 : decode b_L_load 14 = .ok (.ireturn, 1) := by decide +kernel
theorem d_L_load_15 : decode b_L_load 15 = .ok (.iconst 0, 1) := by decide +kernel
theorem d_L_load_16 : decode b_L_load 16 = .ok (.ireturn, 1) := by decide +kernel
def w_L_load (cp : Nat) (x1 : Int32) (x2 : Int32) (s0 : KS) (Φ : Int32 → KS → Prop) : Prop := w_K_load cp x1 x2 s0 (fun s1 => Φ 0 s1) (fun n s1 => (n = 0 → Φ 1 s1) ∧ (n = 1 → Φ 2 s1) ∧ (n = 2 → False))
set_option maxHeartbeats 4000000 in
set_option maxRecDepth 100000 in
theorem c_L_load (l : Launch) (hl0 : l.stackTraces = false) (E : gE) (s0 : KS) (x1 : Int32) (x2 : Int32) (Φ : Int32 → KS → Prop) (hw : w_L_load (eN E) x1 x2 s0 Φ) : gHi l y_L_load v_L_load m_L_load E [.ref (ea E 0 0), .int x1, .int x2] s0 Φ := by
  intro sz
  refine va_MetW (cc := b_L_load) (maxL := 4) (ret := (some .int)) (hh := [(0, 6, 9, 13), (0, 6, 12, 15)]) (by decide) rfl ?_
  intro p e s m args below meth c s₁ B hml hv
  obtain ⟨rfl, hsz, ⟨hP, hK, hD, hX⟩, hY⟩ := hv
  have hx := B.exec
  have hb := B.bytes
  have hr := B.returns
  have hts := atoms_spec (ws := v_L_load) B.pre
  have hG : ∀ w ∈ gG, w.before _ s = true := fun w h => hts w (List.mem_cons_of_mem _ h)
  have htab := vx_table (x := y_L_load) (hh := [(0, 6, 9, 13), (0, 6, 12, 15)]) B (show (Cond.codeWith y_L_load b_L_load 4 (some .int) [(0, 6, 9, 13), (0, 6, 12, 15)]).before _ s = true from hts _ List.mem_cons_self)
  have hown : s.vm.findClass R_L = some m.cls := findClass_of_methodNamed B.named
  have hlocks := B.notSynchronized
  subst hsz
  obtain ⟨A, hAe⟩ : ∃ A, A = gA E KK s.heap.size := ⟨_, rfl⟩
  rw [← hAe] at hD hX hY ⊢
  have hV : gV E KK A s0 s s.heap [] := ⟨hP, hD, va_S.rf⟩
  have hl := lv_entry ([.ref (ea E 0 0), .int x1, .int x2] : List Value) (n := 4) (Nat.le_of_ble_eq_true rfl)
  rw [lg_entry_eq]
  generalize (lg_sl ([.ref (ea E 0 0), .int x1, .int x2] : List Value) ++ List.replicate (4 - (lg_sl ([.ref (ea E 0 0), .int x1, .int x2] : List Value)).length) Slot.unset).toArray = ls at hl ⊢
  have hl : lv_has ls 4 [(0, .ref (ea E 0 0)), (1, .int x1), (2, .int x2)] := hl
  unfold w_L_load at hw
  refine lv_aload_n hx hb d_L_load_0 rfl (lv_at hl 0 rfl) ?_
  refine lv_iload_n hx hb d_L_load_1 rfl (lv_at hl 1 rfl) ?_
  refine lv_iload_n hx hb d_L_load_2 rfl (lv_at hl 2 rfl) ?_
  refine g_xgov (g_xcallV (C := R_K) (cc := b_L_load) (As := [.int x1, .int x2]) (rest := []) ⟨hx, hb, hml, hown, hts⟩ (c_K_load l hl0 E s0 x1 x2 _ _ hw) (cwV 2 hts (gi_V gm_249 gm_250 gm_251 gm_72 gm_252) rfl rfl rfl (by decide +kernel) ⟨Nat.le_of_ble_eq_true rfl, Nat.le_of_ble_eq_true rfl⟩) hV hK hX hY hAe (g_recv hK hV kk_0 rfl rfl) rfl hl.1 rfl (Nat.le_of_ble_eq_true rfl) d_L_load_3 ⟨Nat.le_of_ble_eq_true rfl, Nat.le_of_ble_eq_true rfl⟩) hV hAe (fun n s1 q9 ce H locs hn hw hV hce hcv hcl => ?_) (fun s1 H locs hw hV => ?_)
  · have h3 : n = 0 ∨ n = 1 ∨ n = 2 := by omega
    rcases h3 with rfl | rfl | rfl
    · have hw := hw.1 rfl
      refine vx_catch (own := R_L) (name := "java/lang/IndexOutOfBoundsException") (E := "java/lang/IndexOutOfBoundsException") hown (tableOf []) ⟨0, 6, 9, 13⟩ (tableOf [(0, 6, 12, 15)]) (htab.trans rfl) (fun z hz => by cases hz) (by decide) (by decide) (hG _ gm_247) (va_Nw.use rfl (hY.2.2.2.1 ("java/lang/IndexOutOfBoundsException", "java/lang/IndexOutOfBoundsException") (by decide +kernel))) hce hcv hcl ?_
      refine lv_astore_n (lv' := [(3, .ref q9), (0, .ref (ea E 0 0)), (1, .int x1), (2, .int x2)]) hx hb d_L_load_9 rfl hl (by decide) rfl (fun ls hl => ?_)
      refine lv_iconst (v := 1) hx hb d_L_load_10 (by decide) ?_
      exact kh_i hx hb hr hV hK hX hAe hw d_L_load_11
    · have hw := hw.2.1 rfl
      refine vx_catch (own := R_L) (name := "java/lang/IllegalStateException") (E := "java/lang/IllegalStateException") hown (tableOf [(0, 6, 9, 13)]) ⟨0, 6, 12, 15⟩ (tableOf []) (htab.trans rfl) (fun z hz => by
        rcases List.mem_cons.mp hz with rfl | hz
        · exact Or.inr ⟨by decide, "java/lang/IndexOutOfBoundsException", hG _ gm_247, hY.2.2.2.2.2 ("java/lang/IllegalStateException", "java/lang/IndexOutOfBoundsException") (by decide +kernel)⟩
        cases hz) (by decide) (by decide) (hG _ gm_248) (va_Nw.use rfl (hY.2.2.2.1 ("java/lang/IllegalStateException", "java/lang/IllegalStateException") (by decide +kernel))) hce hcv hcl ?_
      refine lv_astore_n (lv' := [(3, .ref q9), (0, .ref (ea E 0 0)), (1, .int x1), (2, .int x2)]) hx hb d_L_load_12 rfl hl (by decide) rfl (fun ls hl => ?_)
      refine lv_iconst (v := 2) hx hb d_L_load_13 (by decide) ?_
      exact kh_i hx hb hr hV hK hX hAe hw d_L_load_14
    · exact (hw.2.2 rfl).elim
  · refine lv_goto (tgt := 15) hx hb d_L_load_6 rfl ?_
    refine lv_iconst (v := 0) hx hb d_L_load_15 (by decide) ?_
    exact kh_i hx hb hr hV hK hX hAe hw d_L_load_16
def y_L_boot : MethodName := ⟨R_L, "boot", "(LPipeKernel;)I"⟩
abbrev b_L_boot : ByteArray := method_4_code
def h_L_boot : List (Nat × Nat × Nat × Nat) := [(0, 4, 7, 15)]
def v_L_boot : List Cond := .codeWith y_L_boot b_L_boot 2 (some .int) [(0, 4, 7, 15)] :: gG
def m_L_boot : Room := { frames := 7, cells := 1, slots := 6, locals := 130 }
theorem d_L_boot_0 : decode b_L_boot 0 = .ok (.aload_n 0, 1) := by decide +kernel
theorem d_L_boot_1 : decode b_L_boot 1 = .ok (.invokevirtual 17, 3) := by decide +kernel
theorem d_L_boot_4 : decode b_L_boot 4 = .ok (.goto 6, 3) := by decide +kernel
theorem d_L_boot_7 : decode b_L_boot 7 = .ok (.astore_n 1, 1) := by decide +kernel
theorem d_L_boot_8 : decode b_L_boot 8 = .ok (.iconst 1, 1) := by decide +kernel
theorem d_L_boot_9 : decode b_L_boot 9 = .ok (.ireturn, 1) := by decide +kernel
theorem d_L_boot_10 : decode b_L_boot 10 = .ok (.iconst 0, 1) := by decide +kernel
theorem d_L_boot_11 : decode b_L_boot 11 = .ok (.ireturn, 1) := by decide +kernel
def w_L_boot (cp : Nat)  (s0 : KS) (Φ : Int32 → KS → Prop) : Prop := w_K_boot cp  s0 (fun s1 => Φ 0 s1) (fun n s1 => (n = 0 → False) ∧ (n = 1 → Φ 1 s1) ∧ (n = 2 → False))
set_option maxHeartbeats 4000000 in
set_option maxRecDepth 100000 in
theorem c_L_boot (l : Launch) (hl0 : l.stackTraces = false) (E : gE) (s0 : KS)  (Φ : Int32 → KS → Prop) (hw : w_L_boot (eN E)  s0 Φ) : gHi l y_L_boot v_L_boot m_L_boot E [.ref (ea E 0 0)] s0 Φ := by
  intro sz
  refine va_MetW (cc := b_L_boot) (maxL := 2) (ret := (some .int)) (hh := [(0, 4, 7, 15)]) (by decide) rfl ?_
  intro p e s m args below meth c s₁ B hml hv
  obtain ⟨rfl, hsz, ⟨hP, hK, hD, hX⟩, hY⟩ := hv
  have hx := B.exec
  have hb := B.bytes
  have hr := B.returns
  have hts := atoms_spec (ws := v_L_boot) B.pre
  have hG : ∀ w ∈ gG, w.before _ s = true := fun w h => hts w (List.mem_cons_of_mem _ h)
  have htab := vx_table (x := y_L_boot) (hh := [(0, 4, 7, 15)]) B (show (Cond.codeWith y_L_boot b_L_boot 2 (some .int) [(0, 4, 7, 15)]).before _ s = true from hts _ List.mem_cons_self)
  have hown : s.vm.findClass R_L = some m.cls := findClass_of_methodNamed B.named
  have hlocks := B.notSynchronized
  subst hsz
  obtain ⟨A, hAe⟩ : ∃ A, A = gA E KK s.heap.size := ⟨_, rfl⟩
  rw [← hAe] at hD hX hY ⊢
  have hV : gV E KK A s0 s s.heap [] := ⟨hP, hD, va_S.rf⟩
  have hl := lv_entry ([.ref (ea E 0 0)] : List Value) (n := 2) (Nat.le_of_ble_eq_true rfl)
  rw [lg_entry_eq]
  generalize (lg_sl ([.ref (ea E 0 0)] : List Value) ++ List.replicate (2 - (lg_sl ([.ref (ea E 0 0)] : List Value)).length) Slot.unset).toArray = ls at hl ⊢
  have hl : lv_has ls 2 [(0, .ref (ea E 0 0))] := hl
  unfold w_L_boot at hw
  refine lv_aload_n hx hb d_L_boot_0 rfl (lv_at hl 0 rfl) ?_
  refine g_xgov (g_xcallV (C := R_K) (cc := b_L_boot) (As := []) (rest := []) ⟨hx, hb, hml, hown, hts⟩ (c_K_boot l hl0 E s0  _ _ hw) (cwV 0 hts (gi_V gm_340 gm_341 gm_342 gm_72 gm_343) rfl rfl rfl (by decide +kernel) ⟨Nat.le_of_ble_eq_true rfl, Nat.le_of_ble_eq_true rfl⟩) hV hK hX hY hAe (g_recv hK hV kk_0 rfl rfl) rfl hl.1 rfl (Nat.le_of_ble_eq_true rfl) d_L_boot_1 ⟨Nat.le_of_ble_eq_true rfl, Nat.le_of_ble_eq_true rfl⟩) hV hAe (fun n s1 q9 ce H locs hn hw hV hce hcv hcl => ?_) (fun s1 H locs hw hV => ?_)
  · have h3 : n = 0 ∨ n = 1 ∨ n = 2 := by omega
    rcases h3 with rfl | rfl | rfl
    · exact (hw.1 rfl).elim
    · have hw := hw.2.1 rfl
      refine vx_catch (own := R_L) (name := "java/lang/IllegalStateException") (E := "java/lang/IllegalStateException") hown (tableOf []) ⟨0, 4, 7, 15⟩ (tableOf []) (htab.trans rfl) (fun z hz => by cases hz) (by decide) (by decide) (hG _ gm_248) (va_Nw.use rfl (hY.2.2.2.1 ("java/lang/IllegalStateException", "java/lang/IllegalStateException") (by decide +kernel))) hce hcv hcl ?_
      refine lv_astore_n (lv' := [(1, .ref q9), (0, .ref (ea E 0 0))]) hx hb d_L_boot_7 rfl hl (by decide) rfl (fun ls hl => ?_)
      refine lv_iconst (v := 1) hx hb d_L_boot_8 (by decide) ?_
      exact kh_i hx hb hr hV hK hX hAe hw d_L_boot_9
    · exact (hw.2.2 rfl).elim
  · refine lv_goto (tgt := 10) hx hb d_L_boot_4 rfl ?_
    refine lv_iconst (v := 0) hx hb d_L_boot_10 (by decide) ?_
    exact kh_i hx hb hr hV hK hX hAe hw d_L_boot_11
def y_L_run : MethodName := ⟨R_L, "run", "(LPipeKernel;I[J)I"⟩
abbrev b_L_run : ByteArray := method_5_code
def h_L_run : List (Nat × Nat × Nat × Nat) := [(0, 9, 12, 24)]
def v_L_run : List Cond := .codeWith y_L_run b_L_run 4 (some .int) [(0, 9, 12, 24)] :: gG
def m_L_run : Room := { frames := 7, cells := 1, slots := 6, locals := 171 }
theorem d_L_run_0 : decode b_L_run 0 = .ok (.aload_n 2, 1) := by decide +kernel
theorem d_L_run_1 : decode b_L_run 1 = .ok (.iconst 0, 1) := by decide +kernel
theorem d_L_run_2 : decode b_L_run 2 = .ok (.aload_n 0, 1) := by decide +kernel
theorem d_L_run_3 : decode b_L_run 3 = .ok (.iload_n 1, 1) := by decide +kernel
theorem d_L_run_4 : decode b_L_run 4 = .ok (.invokevirtual 20, 3) := by decide +kernel
theorem d_L_run_7 : decode b_L_run 7 = .ok (.i2l, 1) := by decide +kernel
theorem d_L_run_8 : decode b_L_run 8 = .ok (.lastore, 1) := by decide +kernel
theorem d_L_run_9 : decode b_L_run 9 = .ok (.goto 6, 3) := by decide +kernel
theorem d_L_run_12 : decode b_L_run 12 = .ok (.astore_n 3, 1) := by decide +kernel
theorem d_L_run_13 : decode b_L_run 13 = .ok (.iconst 1, 1) := by decide +kernel
theorem d_L_run_14 : decode b_L_run 14 = .ok (.ireturn, 1) := by decide +kernel
theorem d_L_run_15 : decode b_L_run 15 = .ok (.iconst 0, 1) := by decide +kernel
theorem d_L_run_16 : decode b_L_run 16 = .ok (.ireturn, 1) := by decide +kernel
def w_L_run (cp : Nat) (x1 : Int32) (s0 : KS) (Φ : Int32 → KS → Prop) : Prop := w_K_run cp x1 s0 (fun r s1 => ∀ s2 : KS, s2 = w3 s1 50 0 0 r → Φ 0 s2) (fun n s1 => (n = 0 → False) ∧ (n = 1 → False) ∧ (n = 2 → Φ 1 s1))
set_option maxHeartbeats 4000000 in
set_option maxRecDepth 100000 in
theorem c_L_run (l : Launch) (hl0 : l.stackTraces = false) (E : gE) (s0 : KS) (x1 : Int32) (Φ : Int32 → KS → Prop) (hw : w_L_run (eN E) x1 s0 Φ) : gHi l y_L_run v_L_run m_L_run E [.ref (ea E 0 0), .int x1, .ref (ea E 50 0)] s0 Φ := by
  intro sz
  refine va_MetW (cc := b_L_run) (maxL := 4) (ret := (some .int)) (hh := [(0, 9, 12, 24)]) (by decide) rfl ?_
  intro p e s m args below meth c s₁ B hml hv
  obtain ⟨rfl, hsz, ⟨hP, hK, hD, hX⟩, hY⟩ := hv
  have hx := B.exec
  have hb := B.bytes
  have hr := B.returns
  have hts := atoms_spec (ws := v_L_run) B.pre
  have hG : ∀ w ∈ gG, w.before _ s = true := fun w h => hts w (List.mem_cons_of_mem _ h)
  have htab := vx_table (x := y_L_run) (hh := [(0, 9, 12, 24)]) B (show (Cond.codeWith y_L_run b_L_run 4 (some .int) [(0, 9, 12, 24)]).before _ s = true from hts _ List.mem_cons_self)
  have hown : s.vm.findClass R_L = some m.cls := findClass_of_methodNamed B.named
  have hlocks := B.notSynchronized
  subst hsz
  obtain ⟨A, hAe⟩ : ∃ A, A = gA E KK s.heap.size := ⟨_, rfl⟩
  rw [← hAe] at hD hX hY ⊢
  have hV : gV E KK A s0 s s.heap [] := ⟨hP, hD, va_S.rf⟩
  have hl := lv_entry ([.ref (ea E 0 0), .int x1, .ref (ea E 50 0)] : List Value) (n := 4) (Nat.le_of_ble_eq_true rfl)
  rw [lg_entry_eq]
  generalize (lg_sl ([.ref (ea E 0 0), .int x1, .ref (ea E 50 0)] : List Value) ++ List.replicate (4 - (lg_sl ([.ref (ea E 0 0), .int x1, .ref (ea E 50 0)] : List Value)).length) Slot.unset).toArray = ls at hl ⊢
  have hl : lv_has ls 4 [(0, .ref (ea E 0 0)), (1, .int x1), (2, .ref (ea E 50 0))] := hl
  unfold w_L_run at hw
  refine lv_aload_n hx hb d_L_run_0 rfl (lv_at hl 2 rfl) ?_
  refine lv_iconst (v := 0) hx hb d_L_run_1 (by decide) ?_
  refine lv_aload_n hx hb d_L_run_2 rfl (lv_at hl 0 rfl) ?_
  refine lv_iload_n hx hb d_L_run_3 rfl (lv_at hl 1 rfl) ?_
  refine g_xgoi (g_xcallV (C := R_K) (cc := b_L_run) (As := [.int x1]) (rest := [.int 0, .ref (ea E 50 0)]) ⟨hx, hb, hml, hown, hts⟩ (c_K_run l hl0 E s0 x1 _ _ hw) (cwV 1 hts (gi_V gm_348 gm_349 gm_350 gm_72 gm_351) rfl rfl rfl (by decide +kernel) ⟨Nat.le_of_ble_eq_true rfl, Nat.le_of_ble_eq_true rfl⟩) hV hK hX hY hAe (g_recv hK hV kk_0 rfl rfl) rfl hl.1 rfl (Nat.le_of_ble_eq_true rfl) d_L_run_4 ⟨Nat.le_of_ble_eq_true rfl, Nat.le_of_ble_eq_true rfl⟩) hV hAe (fun n s1 q9 ce H locs hn hw hV hce hcv hcl => ?_) (fun r s1 H locs hw hV => ?_)
  · have h3 : n = 0 ∨ n = 1 ∨ n = 2 := by omega
    rcases h3 with rfl | rfl | rfl
    · exact (hw.1 rfl).elim
    · exact (hw.2.1 rfl).elim
    · have hw := hw.2.2 rfl
      refine vx_catch (own := R_L) (name := "java/lang/IllegalArgumentException") (E := "java/lang/IllegalArgumentException") hown (tableOf []) ⟨0, 9, 12, 24⟩ (tableOf []) (htab.trans rfl) (fun z hz => by cases hz) (by decide) (by decide) (hG _ gm_347) (va_Nw.use rfl (hY.2.2.2.1 ("java/lang/IllegalArgumentException", "java/lang/IllegalArgumentException") (by decide +kernel))) hce hcv hcl ?_
      refine lv_astore_n (lv' := [(3, .ref q9), (0, .ref (ea E 0 0)), (1, .int x1), (2, .ref (ea E 50 0))]) hx hb d_L_run_12 rfl hl (by decide) rfl (fun ls hl => ?_)
      refine lv_iconst (v := 1) hx hb d_L_run_13 (by decide) ?_
      exact kh_i hx hb hr hV hK hX hAe hw d_L_run_14
  · refine lv_i2l hx hb d_L_run_7 rfl ?_
    refine ks_50 hx hb hK hV d_L_run_8 (fun s2 H locs es2 hV => ?_)
    have hw := hw s2 es2
    refine lv_goto (tgt := 15) hx hb d_L_run_9 rfl ?_
    refine lv_iconst (v := 0) hx hb d_L_run_15 (by decide) ?_
    exact kh_i hx hb hr hV hK hX hAe hw d_L_run_16
def y_L_feed : MethodName := ⟨R_L, "feed", "(LPipeKernel;I[J)I"⟩
abbrev b_L_feed : ByteArray := method_6_code
def h_L_feed : List (Nat × Nat × Nat × Nat) := [(0, 9, 12, 15)]
def v_L_feed : List Cond := .codeWith y_L_feed b_L_feed 4 (some .int) [(0, 9, 12, 15)] :: gG
def m_L_feed : Room := { frames := 7, cells := 1, slots := 6, locals := 131 }
theorem d_L_feed_0 : decode b_L_feed 0 = .ok (.aload_n 2, 1) := by decide +kernel
theorem d_L_feed_1 : decode b_L_feed 1 = .ok (.iconst 0, 1) := by decide +kernel
theorem d_L_feed_2 : decode b_L_feed 2 = .ok (.aload_n 0, 1) := by decide +kernel
theorem d_L_feed_3 : decode b_L_feed 3 = .ok (.iload_n 1, 1) := by decide +kernel
theorem d_L_feed_4 : decode b_L_feed 4 = .ok (.invokevirtual 26, 3) := by decide +kernel
theorem d_L_feed_7 : decode b_L_feed 7 = .ok (.i2l, 1) := by decide +kernel
theorem d_L_feed_8 : decode b_L_feed 8 = .ok (.lastore, 1) := by decide +kernel
theorem d_L_feed_9 : decode b_L_feed 9 = .ok (.goto 6, 3) := by decide +kernel
theorem d_L_feed_12 : decode b_L_feed 12 = .ok (.astore_n 3, 1) := by decide +kernel
theorem d_L_feed_13 : decode b_L_feed 13 = .ok (.iconst 1, 1) := by decide +kernel
theorem d_L_feed_14 : decode b_L_feed 14 = .ok (.ireturn, 1) := by decide +kernel
theorem d_L_feed_15 : decode b_L_feed 15 = .ok (.iconst 0, 1) := by decide +kernel
theorem d_L_feed_16 : decode b_L_feed 16 = .ok (.ireturn, 1) := by decide +kernel
def w_L_feed (cp : Nat) (x1 : Int32) (s0 : KS) (Φ : Int32 → KS → Prop) : Prop := w_K_feed cp x1 s0 (fun r s1 => ∀ s2 : KS, s2 = w3 s1 50 0 0 r → Φ 0 s2) (fun n s1 => (n = 0 → False) ∧ (n = 1 → Φ 1 s1) ∧ (n = 2 → False))
set_option maxHeartbeats 4000000 in
set_option maxRecDepth 100000 in
theorem c_L_feed (l : Launch) (hl0 : l.stackTraces = false) (E : gE) (s0 : KS) (x1 : Int32) (Φ : Int32 → KS → Prop) (hw : w_L_feed (eN E) x1 s0 Φ) : gHi l y_L_feed v_L_feed m_L_feed E [.ref (ea E 0 0), .int x1, .ref (ea E 50 0)] s0 Φ := by
  intro sz
  refine va_MetW (cc := b_L_feed) (maxL := 4) (ret := (some .int)) (hh := [(0, 9, 12, 15)]) (by decide) rfl ?_
  intro p e s m args below meth c s₁ B hml hv
  obtain ⟨rfl, hsz, ⟨hP, hK, hD, hX⟩, hY⟩ := hv
  have hx := B.exec
  have hb := B.bytes
  have hr := B.returns
  have hts := atoms_spec (ws := v_L_feed) B.pre
  have hG : ∀ w ∈ gG, w.before _ s = true := fun w h => hts w (List.mem_cons_of_mem _ h)
  have htab := vx_table (x := y_L_feed) (hh := [(0, 9, 12, 15)]) B (show (Cond.codeWith y_L_feed b_L_feed 4 (some .int) [(0, 9, 12, 15)]).before _ s = true from hts _ List.mem_cons_self)
  have hown : s.vm.findClass R_L = some m.cls := findClass_of_methodNamed B.named
  have hlocks := B.notSynchronized
  subst hsz
  obtain ⟨A, hAe⟩ : ∃ A, A = gA E KK s.heap.size := ⟨_, rfl⟩
  rw [← hAe] at hD hX hY ⊢
  have hV : gV E KK A s0 s s.heap [] := ⟨hP, hD, va_S.rf⟩
  have hl := lv_entry ([.ref (ea E 0 0), .int x1, .ref (ea E 50 0)] : List Value) (n := 4) (Nat.le_of_ble_eq_true rfl)
  rw [lg_entry_eq]
  generalize (lg_sl ([.ref (ea E 0 0), .int x1, .ref (ea E 50 0)] : List Value) ++ List.replicate (4 - (lg_sl ([.ref (ea E 0 0), .int x1, .ref (ea E 50 0)] : List Value)).length) Slot.unset).toArray = ls at hl ⊢
  have hl : lv_has ls 4 [(0, .ref (ea E 0 0)), (1, .int x1), (2, .ref (ea E 50 0))] := hl
  unfold w_L_feed at hw
  refine lv_aload_n hx hb d_L_feed_0 rfl (lv_at hl 2 rfl) ?_
  refine lv_iconst (v := 0) hx hb d_L_feed_1 (by decide) ?_
  refine lv_aload_n hx hb d_L_feed_2 rfl (lv_at hl 0 rfl) ?_
  refine lv_iload_n hx hb d_L_feed_3 rfl (lv_at hl 1 rfl) ?_
  refine g_xgoi (g_xcallV (C := R_K) (cc := b_L_feed) (As := [.int x1]) (rest := [.int 0, .ref (ea E 50 0)]) ⟨hx, hb, hml, hown, hts⟩ (c_K_feed l hl0 E s0 x1 _ _ hw) (cwV 1 hts (gi_V gm_630 gm_631 gm_632 gm_72 gm_633) rfl rfl rfl (by decide +kernel) ⟨Nat.le_of_ble_eq_true rfl, Nat.le_of_ble_eq_true rfl⟩) hV hK hX hY hAe (g_recv hK hV kk_0 rfl rfl) rfl hl.1 rfl (Nat.le_of_ble_eq_true rfl) d_L_feed_4 ⟨Nat.le_of_ble_eq_true rfl, Nat.le_of_ble_eq_true rfl⟩) hV hAe (fun n s1 q9 ce H locs hn hw hV hce hcv hcl => ?_) (fun r s1 H locs hw hV => ?_)
  · have h3 : n = 0 ∨ n = 1 ∨ n = 2 := by omega
    rcases h3 with rfl | rfl | rfl
    · exact (hw.1 rfl).elim
    · have hw := hw.2.1 rfl
      refine vx_catch (own := R_L) (name := "java/lang/IllegalStateException") (E := "java/lang/IllegalStateException") hown (tableOf []) ⟨0, 9, 12, 15⟩ (tableOf []) (htab.trans rfl) (fun z hz => by cases hz) (by decide) (by decide) (hG _ gm_248) (va_Nw.use rfl (hY.2.2.2.1 ("java/lang/IllegalStateException", "java/lang/IllegalStateException") (by decide +kernel))) hce hcv hcl ?_
      refine lv_astore_n (lv' := [(3, .ref q9), (0, .ref (ea E 0 0)), (1, .int x1), (2, .ref (ea E 50 0))]) hx hb d_L_feed_12 rfl hl (by decide) rfl (fun ls hl => ?_)
      refine lv_iconst (v := 1) hx hb d_L_feed_13 (by decide) ?_
      exact kh_i hx hb hr hV hK hX hAe hw d_L_feed_14
    · exact (hw.2.2 rfl).elim
  · refine lv_i2l hx hb d_L_feed_7 rfl ?_
    refine ks_50 hx hb hK hV d_L_feed_8 (fun s2 H locs es2 hV => ?_)
    have hw := hw s2 es2
    refine lv_goto (tgt := 15) hx hb d_L_feed_9 rfl ?_
    refine lv_iconst (v := 0) hx hb d_L_feed_15 (by decide) ?_
    exact kh_i hx hb hr hV hK hX hAe hw d_L_feed_16
def y_L_state : MethodName := ⟨R_L, "state", "(LPipeKernel;I[J)I"⟩
abbrev b_L_state : ByteArray := method_7_code
def h_L_state : List (Nat × Nat × Nat × Nat) := [(0, 9, 12, 13)]
def v_L_state : List Cond := .codeWith y_L_state b_L_state 4 (some .int) [(0, 9, 12, 13)] :: gG
def m_L_state : Room := { frames := 7, cells := 1, slots := 6, locals := 131 }
theorem d_L_state_0 : decode b_L_state 0 = .ok (.aload_n 2, 1) := by decide +kernel
theorem d_L_state_1 : decode b_L_state 1 = .ok (.iconst 0, 1) := by decide +kernel
theorem d_L_state_2 : decode b_L_state 2 = .ok (.aload_n 0, 1) := by decide +kernel
theorem d_L_state_3 : decode b_L_state 3 = .ok (.iload_n 1, 1) := by decide +kernel
theorem d_L_state_4 : decode b_L_state 4 = .ok (.invokevirtual 29, 3) := by decide +kernel
theorem d_L_state_7 : decode b_L_state 7 = .ok (.i2l, 1) := by decide +kernel
theorem d_L_state_8 : decode b_L_state 8 = .ok (.lastore, 1) := by decide +kernel
theorem d_L_state_9 : decode b_L_state 9 = .ok (.goto 6, 3) := by decide +kernel
theorem d_L_state_12 : decode b_L_state 12 = .ok (.astore_n 3, 1) := by decide +kernel
theorem d_L_state_13 : decode b_L_state 13 = .ok (.iconst 1, 1) := by decide +kernel
theorem d_L_state_14 : decode b_L_state 14 = .ok (.ireturn, 1) := by decide +kernel
theorem d_L_state_15 : decode b_L_state 15 = .ok (.iconst 0, 1) := by decide +kernel
theorem d_L_state_16 : decode b_L_state 16 = .ok (.ireturn, 1) := by decide +kernel
def w_L_state (cp : Nat) (x1 : Int32) (s0 : KS) (Φ : Int32 → KS → Prop) : Prop := w_K_state cp x1 s0 (fun r s1 => ∀ s2 : KS, s2 = w3 s1 50 0 0 r → Φ 0 s2) (fun n s1 => (n = 0 → Φ 1 s1) ∧ (n = 1 → False) ∧ (n = 2 → False))
set_option maxHeartbeats 4000000 in
set_option maxRecDepth 100000 in
theorem c_L_state (l : Launch) (hl0 : l.stackTraces = false) (E : gE) (s0 : KS) (x1 : Int32) (Φ : Int32 → KS → Prop) (hw : w_L_state (eN E) x1 s0 Φ) : gHi l y_L_state v_L_state m_L_state E [.ref (ea E 0 0), .int x1, .ref (ea E 50 0)] s0 Φ := by
  intro sz
  refine va_MetW (cc := b_L_state) (maxL := 4) (ret := (some .int)) (hh := [(0, 9, 12, 13)]) (by decide) rfl ?_
  intro p e s m args below meth c s₁ B hml hv
  obtain ⟨rfl, hsz, ⟨hP, hK, hD, hX⟩, hY⟩ := hv
  have hx := B.exec
  have hb := B.bytes
  have hr := B.returns
  have hts := atoms_spec (ws := v_L_state) B.pre
  have hG : ∀ w ∈ gG, w.before _ s = true := fun w h => hts w (List.mem_cons_of_mem _ h)
  have htab := vx_table (x := y_L_state) (hh := [(0, 9, 12, 13)]) B (show (Cond.codeWith y_L_state b_L_state 4 (some .int) [(0, 9, 12, 13)]).before _ s = true from hts _ List.mem_cons_self)
  have hown : s.vm.findClass R_L = some m.cls := findClass_of_methodNamed B.named
  have hlocks := B.notSynchronized
  subst hsz
  obtain ⟨A, hAe⟩ : ∃ A, A = gA E KK s.heap.size := ⟨_, rfl⟩
  rw [← hAe] at hD hX hY ⊢
  have hV : gV E KK A s0 s s.heap [] := ⟨hP, hD, va_S.rf⟩
  have hl := lv_entry ([.ref (ea E 0 0), .int x1, .ref (ea E 50 0)] : List Value) (n := 4) (Nat.le_of_ble_eq_true rfl)
  rw [lg_entry_eq]
  generalize (lg_sl ([.ref (ea E 0 0), .int x1, .ref (ea E 50 0)] : List Value) ++ List.replicate (4 - (lg_sl ([.ref (ea E 0 0), .int x1, .ref (ea E 50 0)] : List Value)).length) Slot.unset).toArray = ls at hl ⊢
  have hl : lv_has ls 4 [(0, .ref (ea E 0 0)), (1, .int x1), (2, .ref (ea E 50 0))] := hl
  unfold w_L_state at hw
  refine lv_aload_n hx hb d_L_state_0 rfl (lv_at hl 2 rfl) ?_
  refine lv_iconst (v := 0) hx hb d_L_state_1 (by decide) ?_
  refine lv_aload_n hx hb d_L_state_2 rfl (lv_at hl 0 rfl) ?_
  refine lv_iload_n hx hb d_L_state_3 rfl (lv_at hl 1 rfl) ?_
  refine g_xgoi (g_xcallV (C := R_K) (cc := b_L_state) (As := [.int x1]) (rest := [.int 0, .ref (ea E 50 0)]) ⟨hx, hb, hml, hown, hts⟩ (c_K_state l hl0 E s0 x1 _ _ hw) (cwV 1 hts (gi_V gm_638 gm_639 gm_640 gm_72 gm_641) rfl rfl rfl (by decide +kernel) ⟨Nat.le_of_ble_eq_true rfl, Nat.le_of_ble_eq_true rfl⟩) hV hK hX hY hAe (g_recv hK hV kk_0 rfl rfl) rfl hl.1 rfl (Nat.le_of_ble_eq_true rfl) d_L_state_4 ⟨Nat.le_of_ble_eq_true rfl, Nat.le_of_ble_eq_true rfl⟩) hV hAe (fun n s1 q9 ce H locs hn hw hV hce hcv hcl => ?_) (fun r s1 H locs hw hV => ?_)
  · have h3 : n = 0 ∨ n = 1 ∨ n = 2 := by omega
    rcases h3 with rfl | rfl | rfl
    · have hw := hw.1 rfl
      refine vx_catch (own := R_L) (name := "java/lang/IndexOutOfBoundsException") (E := "java/lang/IndexOutOfBoundsException") hown (tableOf []) ⟨0, 9, 12, 13⟩ (tableOf []) (htab.trans rfl) (fun z hz => by cases hz) (by decide) (by decide) (hG _ gm_247) (va_Nw.use rfl (hY.2.2.2.1 ("java/lang/IndexOutOfBoundsException", "java/lang/IndexOutOfBoundsException") (by decide +kernel))) hce hcv hcl ?_
      refine lv_astore_n (lv' := [(3, .ref q9), (0, .ref (ea E 0 0)), (1, .int x1), (2, .ref (ea E 50 0))]) hx hb d_L_state_12 rfl hl (by decide) rfl (fun ls hl => ?_)
      refine lv_iconst (v := 1) hx hb d_L_state_13 (by decide) ?_
      exact kh_i hx hb hr hV hK hX hAe hw d_L_state_14
    · exact (hw.2.1 rfl).elim
    · exact (hw.2.2 rfl).elim
  · refine lv_i2l hx hb d_L_state_7 rfl ?_
    refine ks_50 hx hb hK hV d_L_state_8 (fun s2 H locs es2 hV => ?_)
    have hw := hw s2 es2
    refine lv_goto (tgt := 15) hx hb d_L_state_9 rfl ?_
    refine lv_iconst (v := 0) hx hb d_L_state_15 (by decide) ?_
    exact kh_i hx hb hr hV hK hX hAe hw d_L_state_16
def y_L_about : MethodName := ⟨R_L, "about", "(LPipeKernel;II[J)I"⟩
abbrev b_L_about : ByteArray := method_8_code
def h_L_about : List (Nat × Nat × Nat × Nat) := [(0, 10, 13, 13), (0, 10, 17, 24), (0, 10, 21, 15)]
def v_L_about : List Cond := .codeWith y_L_about b_L_about 5 (some .int) [(0, 10, 13, 13), (0, 10, 17, 24), (0, 10, 21, 15)] :: gG
def m_L_about : Room := { frames := 7, cells := 1, slots := 6, locals := 133 }
theorem d_L_about_0 : decode b_L_about 0 = .ok (.aload_n 3, 1) := by decide +kernel
theorem d_L_about_1 : decode b_L_about 1 = .ok (.iconst 0, 1) := by decide +kernel
theorem d_L_about_2 : decode b_L_about 2 = .ok (.aload_n 0, 1) := by decide +kernel
theorem d_L_about_3 : decode b_L_about 3 = .ok (.iload_n 1, 1) := by decide +kernel
theorem d_L_about_4 : decode b_L_about 4 = .ok (.iload_n 2, 1) := by decide +kernel
theorem d_L_about_5 : decode b_L_about 5 = .ok (.invokevirtual 32, 3) := by decide +kernel
theorem d_L_about_8 : decode b_L_about 8 = .ok (.i2l, 1) := by decide +kernel
theorem d_L_about_9 : decode b_L_about 9 = .ok (.lastore, 1) := by decide +kernel
theorem d_L_about_10 : decode b_L_about 10 = .ok (.goto 15, 3) := by decide +kernel
theorem d_L_about_13 : decode b_L_about 13 = .ok (.astore 4, 2) := by decide +kernel
theorem d_L_about_15 : decode b_L_about 15 = .ok (.iconst 1, 1) := by decide +kernel
theorem d_L_about_16 : decode b_L_about 16 = .ok (.ireturn, 1) := by decide +kernel
theorem d_L_about_17 : decode b_L_about 17 = .ok (.astore 4, 2) := by decide +kernel
theorem d_L_about_19 : decode b_L_about 19 = .ok (.iconst 2, 1) := by decide +kernel
theorem d_L_about_20 : decode b_L_about 20 = .ok (.ireturn, 1) := by decide +kernel
theorem d_L_about_21 : decode b_L_about 21 = .ok (.astore 4, 2) := by decide +kernel
theorem d_L_about_23 : decode b_L_about 23 = .ok (.iconst 3, 1) := by decide +kernel
theorem d_L_about_24 : decode b_L_about 24 = .ok (.ireturn, 1) := by decide +kernel
theorem d_L_about_25 : decode b_L_about 25 = .ok (.iconst 0, 1) := by decide +kernel
theorem d_L_about_26 : decode b_L_about 26 = .ok (.ireturn, 1) := by decide +kernel
def w_L_about (cp : Nat) (x1 : Int32) (x2 : Int32) (s0 : KS) (Φ : Int32 → KS → Prop) : Prop := w_K_about cp x1 x2 s0 (fun r s1 => ∀ s2 : KS, s2 = w3 s1 50 0 0 r → Φ 0 s2) (fun n s1 => (n = 0 → Φ 1 s1) ∧ (n = 1 → Φ 3 s1) ∧ (n = 2 → Φ 2 s1))
set_option maxHeartbeats 4000000 in
set_option maxRecDepth 100000 in
theorem c_L_about (l : Launch) (hl0 : l.stackTraces = false) (E : gE) (s0 : KS) (x1 : Int32) (x2 : Int32) (Φ : Int32 → KS → Prop) (hw : w_L_about (eN E) x1 x2 s0 Φ) : gHi l y_L_about v_L_about m_L_about E [.ref (ea E 0 0), .int x1, .int x2, .ref (ea E 50 0)] s0 Φ := by
  intro sz
  refine va_MetW (cc := b_L_about) (maxL := 5) (ret := (some .int)) (hh := [(0, 10, 13, 13), (0, 10, 17, 24), (0, 10, 21, 15)]) (by decide) rfl ?_
  intro p e s m args below meth c s₁ B hml hv
  obtain ⟨rfl, hsz, ⟨hP, hK, hD, hX⟩, hY⟩ := hv
  have hx := B.exec
  have hb := B.bytes
  have hr := B.returns
  have hts := atoms_spec (ws := v_L_about) B.pre
  have hG : ∀ w ∈ gG, w.before _ s = true := fun w h => hts w (List.mem_cons_of_mem _ h)
  have htab := vx_table (x := y_L_about) (hh := [(0, 10, 13, 13), (0, 10, 17, 24), (0, 10, 21, 15)]) B (show (Cond.codeWith y_L_about b_L_about 5 (some .int) [(0, 10, 13, 13), (0, 10, 17, 24), (0, 10, 21, 15)]).before _ s = true from hts _ List.mem_cons_self)
  have hown : s.vm.findClass R_L = some m.cls := findClass_of_methodNamed B.named
  have hlocks := B.notSynchronized
  subst hsz
  obtain ⟨A, hAe⟩ : ∃ A, A = gA E KK s.heap.size := ⟨_, rfl⟩
  rw [← hAe] at hD hX hY ⊢
  have hV : gV E KK A s0 s s.heap [] := ⟨hP, hD, va_S.rf⟩
  have hl := lv_entry ([.ref (ea E 0 0), .int x1, .int x2, .ref (ea E 50 0)] : List Value) (n := 5) (Nat.le_of_ble_eq_true rfl)
  rw [lg_entry_eq]
  generalize (lg_sl ([.ref (ea E 0 0), .int x1, .int x2, .ref (ea E 50 0)] : List Value) ++ List.replicate (5 - (lg_sl ([.ref (ea E 0 0), .int x1, .int x2, .ref (ea E 50 0)] : List Value)).length) Slot.unset).toArray = ls at hl ⊢
  have hl : lv_has ls 5 [(0, .ref (ea E 0 0)), (1, .int x1), (2, .int x2), (3, .ref (ea E 50 0))] := hl
  unfold w_L_about at hw
  refine lv_aload_n hx hb d_L_about_0 rfl (lv_at hl 3 rfl) ?_
  refine lv_iconst (v := 0) hx hb d_L_about_1 (by decide) ?_
  refine lv_aload_n hx hb d_L_about_2 rfl (lv_at hl 0 rfl) ?_
  refine lv_iload_n hx hb d_L_about_3 rfl (lv_at hl 1 rfl) ?_
  refine lv_iload_n hx hb d_L_about_4 rfl (lv_at hl 2 rfl) ?_
  refine g_xgoi (g_xcallV (C := R_K) (cc := b_L_about) (As := [.int x1, .int x2]) (rest := [.int 0, .ref (ea E 50 0)]) ⟨hx, hb, hml, hown, hts⟩ (c_K_about l hl0 E s0 x1 x2 _ _ hw) (cwV 2 hts (gi_V gm_646 gm_647 gm_648 gm_72 gm_649) rfl rfl rfl (by decide +kernel) ⟨Nat.le_of_ble_eq_true rfl, Nat.le_of_ble_eq_true rfl⟩) hV hK hX hY hAe (g_recv hK hV kk_0 rfl rfl) rfl hl.1 rfl (Nat.le_of_ble_eq_true rfl) d_L_about_5 ⟨Nat.le_of_ble_eq_true rfl, Nat.le_of_ble_eq_true rfl⟩) hV hAe (fun n s1 q9 ce H locs hn hw hV hce hcv hcl => ?_) (fun r s1 H locs hw hV => ?_)
  · have h3 : n = 0 ∨ n = 1 ∨ n = 2 := by omega
    rcases h3 with rfl | rfl | rfl
    · have hw := hw.1 rfl
      refine vx_catch (own := R_L) (name := "java/lang/IndexOutOfBoundsException") (E := "java/lang/IndexOutOfBoundsException") hown (tableOf []) ⟨0, 10, 13, 13⟩ (tableOf [(0, 10, 17, 24), (0, 10, 21, 15)]) (htab.trans rfl) (fun z hz => by cases hz) (by decide) (by decide) (hG _ gm_247) (va_Nw.use rfl (hY.2.2.2.1 ("java/lang/IndexOutOfBoundsException", "java/lang/IndexOutOfBoundsException") (by decide +kernel))) hce hcv hcl ?_
      refine lv_astore (lv' := [(4, .ref q9), (0, .ref (ea E 0 0)), (1, .int x1), (2, .int x2), (3, .ref (ea E 50 0))]) hx hb d_L_about_13 hl (by decide) rfl (fun ls hl => ?_)
      refine lv_iconst (v := 1) hx hb d_L_about_15 (by decide) ?_
      exact kh_i hx hb hr hV hK hX hAe hw d_L_about_16
    · have hw := hw.2.1 rfl
      refine vx_catch (own := R_L) (name := "java/lang/IllegalStateException") (E := "java/lang/IllegalStateException") hown (tableOf [(0, 10, 13, 13), (0, 10, 17, 24)]) ⟨0, 10, 21, 15⟩ (tableOf []) (htab.trans rfl) (fun z hz => by
        rcases List.mem_cons.mp hz with rfl | hz
        · exact Or.inr ⟨by decide, "java/lang/IndexOutOfBoundsException", hG _ gm_247, hY.2.2.2.2.2 ("java/lang/IllegalStateException", "java/lang/IndexOutOfBoundsException") (by decide +kernel)⟩
        rcases List.mem_cons.mp hz with rfl | hz
        · exact Or.inr ⟨by decide, "java/lang/IllegalArgumentException", hG _ gm_347, hY.2.2.2.2.2 ("java/lang/IllegalStateException", "java/lang/IllegalArgumentException") (by decide +kernel)⟩
        cases hz) (by decide) (by decide) (hG _ gm_248) (va_Nw.use rfl (hY.2.2.2.1 ("java/lang/IllegalStateException", "java/lang/IllegalStateException") (by decide +kernel))) hce hcv hcl ?_
      refine lv_astore (lv' := [(4, .ref q9), (0, .ref (ea E 0 0)), (1, .int x1), (2, .int x2), (3, .ref (ea E 50 0))]) hx hb d_L_about_21 hl (by decide) rfl (fun ls hl => ?_)
      refine lv_iconst (v := 3) hx hb d_L_about_23 (by decide) ?_
      exact kh_i hx hb hr hV hK hX hAe hw d_L_about_24
    · have hw := hw.2.2 rfl
      refine vx_catch (own := R_L) (name := "java/lang/IllegalArgumentException") (E := "java/lang/IllegalArgumentException") hown (tableOf [(0, 10, 13, 13)]) ⟨0, 10, 17, 24⟩ (tableOf [(0, 10, 21, 15)]) (htab.trans rfl) (fun z hz => by
        rcases List.mem_cons.mp hz with rfl | hz
        · exact Or.inr ⟨by decide, "java/lang/IndexOutOfBoundsException", hG _ gm_247, hY.2.2.2.2.2 ("java/lang/IllegalArgumentException", "java/lang/IndexOutOfBoundsException") (by decide +kernel)⟩
        cases hz) (by decide) (by decide) (hG _ gm_347) (va_Nw.use rfl (hY.2.2.2.1 ("java/lang/IllegalArgumentException", "java/lang/IllegalArgumentException") (by decide +kernel))) hce hcv hcl ?_
      refine lv_astore (lv' := [(4, .ref q9), (0, .ref (ea E 0 0)), (1, .int x1), (2, .int x2), (3, .ref (ea E 50 0))]) hx hb d_L_about_17 hl (by decide) rfl (fun ls hl => ?_)
      refine lv_iconst (v := 2) hx hb d_L_about_19 (by decide) ?_
      exact kh_i hx hb hr hV hK hX hAe hw d_L_about_20
  · refine lv_i2l hx hb d_L_about_8 rfl ?_
    refine ks_50 hx hb hK hV d_L_about_9 (fun s2 H locs es2 hV => ?_)
    have hw := hw s2 es2
    refine lv_goto (tgt := 25) hx hb d_L_about_10 rfl ?_
    refine lv_iconst (v := 0) hx hb d_L_about_25 (by decide) ?_
    exact kh_i hx hb hr hV hK hX hAe hw d_L_about_26
def y_L_stack : MethodName := ⟨R_L, "stack", "(LPipeKernel;II[J)I"⟩
abbrev b_L_stack : ByteArray := method_9_code
def h_L_stack : List (Nat × Nat × Nat × Nat) := [(0, 10, 13, 13)]
def v_L_stack : List Cond := .codeWith y_L_stack b_L_stack 5 (some .int) [(0, 10, 13, 13)] :: gG
def m_L_stack : Room := { frames := 7, cells := 1, slots := 6, locals := 133 }
theorem d_L_stack_0 : decode b_L_stack 0 = .ok (.aload_n 3, 1) := by decide +kernel
theorem d_L_stack_1 : decode b_L_stack 1 = .ok (.iconst 0, 1) := by decide +kernel
theorem d_L_stack_2 : decode b_L_stack 2 = .ok (.aload_n 0, 1) := by decide +kernel
theorem d_L_stack_3 : decode b_L_stack 3 = .ok (.iload_n 1, 1) := by decide +kernel
theorem d_L_stack_4 : decode b_L_stack 4 = .ok (.iload_n 2, 1) := by decide +kernel
theorem d_L_stack_5 : decode b_L_stack 5 = .ok (.invokevirtual 36, 3) := by decide +kernel
theorem d_L_stack_8 : decode b_L_stack 8 = .ok (.i2l, 1) := by decide +kernel
theorem d_L_stack_9 : decode b_L_stack 9 = .ok (.lastore, 1) := by decide +kernel
theorem d_L_stack_10 : decode b_L_stack 10 = .ok (.goto 7, 3) := by decide +kernel
theorem d_L_stack_13 : decode b_L_stack 13 = .ok (.astore 4, 2) := by decide +kernel
theorem d_L_stack_15 : decode b_L_stack 15 = .ok (.iconst 1, 1) := by decide +kernel
theorem d_L_stack_16 : decode b_L_stack 16 = .ok (.ireturn, 1) := by decide +kernel
theorem d_L_stack_17 : decode b_L_stack 17 = .ok (.iconst 0, 1) := by decide +kernel
theorem d_L_stack_18 : decode b_L_stack 18 = .ok (.ireturn, 1) := by decide +kernel
def w_L_stack (cp : Nat) (x1 : Int32) (x2 : Int32) (s0 : KS) (Φ : Int32 → KS → Prop) : Prop := w_K_stack cp x1 x2 s0 (fun r s1 => ∀ s2 : KS, s2 = w3 s1 50 0 0 r → Φ 0 s2) (fun n s1 => (n = 0 → Φ 1 s1) ∧ (n = 1 → False) ∧ (n = 2 → False))
set_option maxHeartbeats 4000000 in
set_option maxRecDepth 100000 in
theorem c_L_stack (l : Launch) (hl0 : l.stackTraces = false) (E : gE) (s0 : KS) (x1 : Int32) (x2 : Int32) (Φ : Int32 → KS → Prop) (hw : w_L_stack (eN E) x1 x2 s0 Φ) : gHi l y_L_stack v_L_stack m_L_stack E [.ref (ea E 0 0), .int x1, .int x2, .ref (ea E 50 0)] s0 Φ := by
  intro sz
  refine va_MetW (cc := b_L_stack) (maxL := 5) (ret := (some .int)) (hh := [(0, 10, 13, 13)]) (by decide) rfl ?_
  intro p e s m args below meth c s₁ B hml hv
  obtain ⟨rfl, hsz, ⟨hP, hK, hD, hX⟩, hY⟩ := hv
  have hx := B.exec
  have hb := B.bytes
  have hr := B.returns
  have hts := atoms_spec (ws := v_L_stack) B.pre
  have hG : ∀ w ∈ gG, w.before _ s = true := fun w h => hts w (List.mem_cons_of_mem _ h)
  have htab := vx_table (x := y_L_stack) (hh := [(0, 10, 13, 13)]) B (show (Cond.codeWith y_L_stack b_L_stack 5 (some .int) [(0, 10, 13, 13)]).before _ s = true from hts _ List.mem_cons_self)
  have hown : s.vm.findClass R_L = some m.cls := findClass_of_methodNamed B.named
  have hlocks := B.notSynchronized
  subst hsz
  obtain ⟨A, hAe⟩ : ∃ A, A = gA E KK s.heap.size := ⟨_, rfl⟩
  rw [← hAe] at hD hX hY ⊢
  have hV : gV E KK A s0 s s.heap [] := ⟨hP, hD, va_S.rf⟩
  have hl := lv_entry ([.ref (ea E 0 0), .int x1, .int x2, .ref (ea E 50 0)] : List Value) (n := 5) (Nat.le_of_ble_eq_true rfl)
  rw [lg_entry_eq]
  generalize (lg_sl ([.ref (ea E 0 0), .int x1, .int x2, .ref (ea E 50 0)] : List Value) ++ List.replicate (5 - (lg_sl ([.ref (ea E 0 0), .int x1, .int x2, .ref (ea E 50 0)] : List Value)).length) Slot.unset).toArray = ls at hl ⊢
  have hl : lv_has ls 5 [(0, .ref (ea E 0 0)), (1, .int x1), (2, .int x2), (3, .ref (ea E 50 0))] := hl
  unfold w_L_stack at hw
  refine lv_aload_n hx hb d_L_stack_0 rfl (lv_at hl 3 rfl) ?_
  refine lv_iconst (v := 0) hx hb d_L_stack_1 (by decide) ?_
  refine lv_aload_n hx hb d_L_stack_2 rfl (lv_at hl 0 rfl) ?_
  refine lv_iload_n hx hb d_L_stack_3 rfl (lv_at hl 1 rfl) ?_
  refine lv_iload_n hx hb d_L_stack_4 rfl (lv_at hl 2 rfl) ?_
  refine g_xgoi (g_xcallV (C := R_K) (cc := b_L_stack) (As := [.int x1, .int x2]) (rest := [.int 0, .ref (ea E 50 0)]) ⟨hx, hb, hml, hown, hts⟩ (c_K_stack l hl0 E s0 x1 x2 _ _ hw) (cwV 2 hts (gi_V gm_656 gm_657 gm_658 gm_72 gm_659) rfl rfl rfl (by decide +kernel) ⟨Nat.le_of_ble_eq_true rfl, Nat.le_of_ble_eq_true rfl⟩) hV hK hX hY hAe (g_recv hK hV kk_0 rfl rfl) rfl hl.1 rfl (Nat.le_of_ble_eq_true rfl) d_L_stack_5 ⟨Nat.le_of_ble_eq_true rfl, Nat.le_of_ble_eq_true rfl⟩) hV hAe (fun n s1 q9 ce H locs hn hw hV hce hcv hcl => ?_) (fun r s1 H locs hw hV => ?_)
  · have h3 : n = 0 ∨ n = 1 ∨ n = 2 := by omega
    rcases h3 with rfl | rfl | rfl
    · have hw := hw.1 rfl
      refine vx_catch (own := R_L) (name := "java/lang/IndexOutOfBoundsException") (E := "java/lang/IndexOutOfBoundsException") hown (tableOf []) ⟨0, 10, 13, 13⟩ (tableOf []) (htab.trans rfl) (fun z hz => by cases hz) (by decide) (by decide) (hG _ gm_247) (va_Nw.use rfl (hY.2.2.2.1 ("java/lang/IndexOutOfBoundsException", "java/lang/IndexOutOfBoundsException") (by decide +kernel))) hce hcv hcl ?_
      refine lv_astore (lv' := [(4, .ref q9), (0, .ref (ea E 0 0)), (1, .int x1), (2, .int x2), (3, .ref (ea E 50 0))]) hx hb d_L_stack_13 hl (by decide) rfl (fun ls hl => ?_)
      refine lv_iconst (v := 1) hx hb d_L_stack_15 (by decide) ?_
      exact kh_i hx hb hr hV hK hX hAe hw d_L_stack_16
    · exact (hw.2.1 rfl).elim
    · exact (hw.2.2 rfl).elim
  · refine lv_i2l hx hb d_L_stack_8 rfl ?_
    refine ks_50 hx hb hK hV d_L_stack_9 (fun s2 H locs es2 hV => ?_)
    have hw := hw s2 es2
    refine lv_goto (tgt := 17) hx hb d_L_stack_10 rfl ?_
    refine lv_iconst (v := 0) hx hb d_L_stack_17 (by decide) ?_
    exact kh_i hx hb hr hV hK hX hAe hw d_L_stack_18
def y_L_memory : MethodName := ⟨R_L, "memory", "(LPipeKernel;II[J)I"⟩
abbrev b_L_memory : ByteArray := method_10_code
def h_L_memory : List (Nat × Nat × Nat × Nat) := [(0, 10, 13, 13)]
def v_L_memory : List Cond := .codeWith y_L_memory b_L_memory 5 (some .int) [(0, 10, 13, 13)] :: gG
def m_L_memory : Room := { frames := 7, cells := 1, slots := 6, locals := 132 }
theorem d_L_memory_0 : decode b_L_memory 0 = .ok (.aload_n 3, 1) := by decide +kernel
theorem d_L_memory_1 : decode b_L_memory 1 = .ok (.iconst 0, 1) := by decide +kernel
theorem d_L_memory_2 : decode b_L_memory 2 = .ok (.aload_n 0, 1) := by decide +kernel
theorem d_L_memory_3 : decode b_L_memory 3 = .ok (.iload_n 1, 1) := by decide +kernel
theorem d_L_memory_4 : decode b_L_memory 4 = .ok (.iload_n 2, 1) := by decide +kernel
theorem d_L_memory_5 : decode b_L_memory 5 = .ok (.invokevirtual 39, 3) := by decide +kernel
theorem d_L_memory_8 : decode b_L_memory 8 = .ok (.i2l, 1) := by decide +kernel
theorem d_L_memory_9 : decode b_L_memory 9 = .ok (.lastore, 1) := by decide +kernel
theorem d_L_memory_10 : decode b_L_memory 10 = .ok (.goto 7, 3) := by decide +kernel
theorem d_L_memory_13 : decode b_L_memory 13 = .ok (.astore 4, 2) := by decide +kernel
theorem d_L_memory_15 : decode b_L_memory 15 = .ok (.iconst 1, 1) := by decide +kernel
theorem d_L_memory_16 : decode b_L_memory 16 = .ok (.ireturn, 1) := by decide +kernel
theorem d_L_memory_17 : decode b_L_memory 17 = .ok (.iconst 0, 1) := by decide +kernel
theorem d_L_memory_18 : decode b_L_memory 18 = .ok (.ireturn, 1) := by decide +kernel
def w_L_memory (cp : Nat) (x1 : Int32) (x2 : Int32) (s0 : KS) (Φ : Int32 → KS → Prop) : Prop := w_K_memory cp x1 x2 s0 (fun r s1 => ∀ s2 : KS, s2 = w3 s1 50 0 0 r → Φ 0 s2) (fun n s1 => (n = 0 → Φ 1 s1) ∧ (n = 1 → False) ∧ (n = 2 → False))
set_option maxHeartbeats 4000000 in
set_option maxRecDepth 100000 in
theorem c_L_memory (l : Launch) (hl0 : l.stackTraces = false) (E : gE) (s0 : KS) (x1 : Int32) (x2 : Int32) (Φ : Int32 → KS → Prop) (hw : w_L_memory (eN E) x1 x2 s0 Φ) : gHi l y_L_memory v_L_memory m_L_memory E [.ref (ea E 0 0), .int x1, .int x2, .ref (ea E 50 0)] s0 Φ := by
  intro sz
  refine va_MetW (cc := b_L_memory) (maxL := 5) (ret := (some .int)) (hh := [(0, 10, 13, 13)]) (by decide) rfl ?_
  intro p e s m args below meth c s₁ B hml hv
  obtain ⟨rfl, hsz, ⟨hP, hK, hD, hX⟩, hY⟩ := hv
  have hx := B.exec
  have hb := B.bytes
  have hr := B.returns
  have hts := atoms_spec (ws := v_L_memory) B.pre
  have hG : ∀ w ∈ gG, w.before _ s = true := fun w h => hts w (List.mem_cons_of_mem _ h)
  have htab := vx_table (x := y_L_memory) (hh := [(0, 10, 13, 13)]) B (show (Cond.codeWith y_L_memory b_L_memory 5 (some .int) [(0, 10, 13, 13)]).before _ s = true from hts _ List.mem_cons_self)
  have hown : s.vm.findClass R_L = some m.cls := findClass_of_methodNamed B.named
  have hlocks := B.notSynchronized
  subst hsz
  obtain ⟨A, hAe⟩ : ∃ A, A = gA E KK s.heap.size := ⟨_, rfl⟩
  rw [← hAe] at hD hX hY ⊢
  have hV : gV E KK A s0 s s.heap [] := ⟨hP, hD, va_S.rf⟩
  have hl := lv_entry ([.ref (ea E 0 0), .int x1, .int x2, .ref (ea E 50 0)] : List Value) (n := 5) (Nat.le_of_ble_eq_true rfl)
  rw [lg_entry_eq]
  generalize (lg_sl ([.ref (ea E 0 0), .int x1, .int x2, .ref (ea E 50 0)] : List Value) ++ List.replicate (5 - (lg_sl ([.ref (ea E 0 0), .int x1, .int x2, .ref (ea E 50 0)] : List Value)).length) Slot.unset).toArray = ls at hl ⊢
  have hl : lv_has ls 5 [(0, .ref (ea E 0 0)), (1, .int x1), (2, .int x2), (3, .ref (ea E 50 0))] := hl
  unfold w_L_memory at hw
  refine lv_aload_n hx hb d_L_memory_0 rfl (lv_at hl 3 rfl) ?_
  refine lv_iconst (v := 0) hx hb d_L_memory_1 (by decide) ?_
  refine lv_aload_n hx hb d_L_memory_2 rfl (lv_at hl 0 rfl) ?_
  refine lv_iload_n hx hb d_L_memory_3 rfl (lv_at hl 1 rfl) ?_
  refine lv_iload_n hx hb d_L_memory_4 rfl (lv_at hl 2 rfl) ?_
  refine g_xgoi (g_xcallV (C := R_K) (cc := b_L_memory) (As := [.int x1, .int x2]) (rest := [.int 0, .ref (ea E 50 0)]) ⟨hx, hb, hml, hown, hts⟩ (c_K_memory l hl0 E s0 x1 x2 _ _ hw) (cwV 2 hts (gi_V gm_664 gm_665 gm_666 gm_72 gm_667) rfl rfl rfl (by decide +kernel) ⟨Nat.le_of_ble_eq_true rfl, Nat.le_of_ble_eq_true rfl⟩) hV hK hX hY hAe (g_recv hK hV kk_0 rfl rfl) rfl hl.1 rfl (Nat.le_of_ble_eq_true rfl) d_L_memory_5 ⟨Nat.le_of_ble_eq_true rfl, Nat.le_of_ble_eq_true rfl⟩) hV hAe (fun n s1 q9 ce H locs hn hw hV hce hcv hcl => ?_) (fun r s1 H locs hw hV => ?_)
  · have h3 : n = 0 ∨ n = 1 ∨ n = 2 := by omega
    rcases h3 with rfl | rfl | rfl
    · have hw := hw.1 rfl
      refine vx_catch (own := R_L) (name := "java/lang/IndexOutOfBoundsException") (E := "java/lang/IndexOutOfBoundsException") hown (tableOf []) ⟨0, 10, 13, 13⟩ (tableOf []) (htab.trans rfl) (fun z hz => by cases hz) (by decide) (by decide) (hG _ gm_247) (va_Nw.use rfl (hY.2.2.2.1 ("java/lang/IndexOutOfBoundsException", "java/lang/IndexOutOfBoundsException") (by decide +kernel))) hce hcv hcl ?_
      refine lv_astore (lv' := [(4, .ref q9), (0, .ref (ea E 0 0)), (1, .int x1), (2, .int x2), (3, .ref (ea E 50 0))]) hx hb d_L_memory_13 hl (by decide) rfl (fun ls hl => ?_)
      refine lv_iconst (v := 1) hx hb d_L_memory_15 (by decide) ?_
      exact kh_i hx hb hr hV hK hX hAe hw d_L_memory_16
    · exact (hw.2.1 rfl).elim
    · exact (hw.2.2 rfl).elim
  · refine lv_i2l hx hb d_L_memory_8 rfl ?_
    refine ks_50 hx hb hK hV d_L_memory_9 (fun s2 H locs es2 hV => ?_)
    have hw := hw s2 es2
    refine lv_goto (tgt := 17) hx hb d_L_memory_10 rfl ?_
    refine lv_iconst (v := 0) hx hb d_L_memory_17 (by decide) ?_
    exact kh_i hx hb hr hV hK hX hAe hw d_L_memory_18
def y_L_queue : MethodName := ⟨R_L, "queue", "(LPipeKernel;I[J)I"⟩
abbrev b_L_queue : ByteArray := method_11_code
def h_L_queue : List (Nat × Nat × Nat × Nat) := [(0, 9, 12, 13)]
def v_L_queue : List Cond := .codeWith y_L_queue b_L_queue 4 (some .int) [(0, 9, 12, 13)] :: gG
def m_L_queue : Room := { frames := 7, cells := 1, slots := 6, locals := 131 }
theorem d_L_queue_0 : decode b_L_queue 0 = .ok (.aload_n 2, 1) := by decide +kernel
theorem d_L_queue_1 : decode b_L_queue 1 = .ok (.iconst 0, 1) := by decide +kernel
theorem d_L_queue_2 : decode b_L_queue 2 = .ok (.aload_n 0, 1) := by decide +kernel
theorem d_L_queue_3 : decode b_L_queue 3 = .ok (.iload_n 1, 1) := by decide +kernel
theorem d_L_queue_4 : decode b_L_queue 4 = .ok (.invokevirtual 42, 3) := by decide +kernel
theorem d_L_queue_7 : decode b_L_queue 7 = .ok (.i2l, 1) := by decide +kernel
theorem d_L_queue_8 : decode b_L_queue 8 = .ok (.lastore, 1) := by decide +kernel
theorem d_L_queue_9 : decode b_L_queue 9 = .ok (.goto 6, 3) := by decide +kernel
theorem d_L_queue_12 : decode b_L_queue 12 = .ok (.astore_n 3, 1) := by decide +kernel
theorem d_L_queue_13 : decode b_L_queue 13 = .ok (.iconst 1, 1) := by decide +kernel
theorem d_L_queue_14 : decode b_L_queue 14 = .ok (.ireturn, 1) := by decide +kernel
theorem d_L_queue_15 : decode b_L_queue 15 = .ok (.iconst 0, 1) := by decide +kernel
theorem d_L_queue_16 : decode b_L_queue 16 = .ok (.ireturn, 1) := by decide +kernel
def w_L_queue (cp : Nat) (x1 : Int32) (s0 : KS) (Φ : Int32 → KS → Prop) : Prop := w_K_queue cp x1 s0 (fun r s1 => ∀ s2 : KS, s2 = w3 s1 50 0 0 r → Φ 0 s2) (fun n s1 => (n = 0 → Φ 1 s1) ∧ (n = 1 → False) ∧ (n = 2 → False))
set_option maxHeartbeats 4000000 in
set_option maxRecDepth 100000 in
theorem c_L_queue (l : Launch) (hl0 : l.stackTraces = false) (E : gE) (s0 : KS) (x1 : Int32) (Φ : Int32 → KS → Prop) (hw : w_L_queue (eN E) x1 s0 Φ) : gHi l y_L_queue v_L_queue m_L_queue E [.ref (ea E 0 0), .int x1, .ref (ea E 50 0)] s0 Φ := by
  intro sz
  refine va_MetW (cc := b_L_queue) (maxL := 4) (ret := (some .int)) (hh := [(0, 9, 12, 13)]) (by decide) rfl ?_
  intro p e s m args below meth c s₁ B hml hv
  obtain ⟨rfl, hsz, ⟨hP, hK, hD, hX⟩, hY⟩ := hv
  have hx := B.exec
  have hb := B.bytes
  have hr := B.returns
  have hts := atoms_spec (ws := v_L_queue) B.pre
  have hG : ∀ w ∈ gG, w.before _ s = true := fun w h => hts w (List.mem_cons_of_mem _ h)
  have htab := vx_table (x := y_L_queue) (hh := [(0, 9, 12, 13)]) B (show (Cond.codeWith y_L_queue b_L_queue 4 (some .int) [(0, 9, 12, 13)]).before _ s = true from hts _ List.mem_cons_self)
  have hown : s.vm.findClass R_L = some m.cls := findClass_of_methodNamed B.named
  have hlocks := B.notSynchronized
  subst hsz
  obtain ⟨A, hAe⟩ : ∃ A, A = gA E KK s.heap.size := ⟨_, rfl⟩
  rw [← hAe] at hD hX hY ⊢
  have hV : gV E KK A s0 s s.heap [] := ⟨hP, hD, va_S.rf⟩
  have hl := lv_entry ([.ref (ea E 0 0), .int x1, .ref (ea E 50 0)] : List Value) (n := 4) (Nat.le_of_ble_eq_true rfl)
  rw [lg_entry_eq]
  generalize (lg_sl ([.ref (ea E 0 0), .int x1, .ref (ea E 50 0)] : List Value) ++ List.replicate (4 - (lg_sl ([.ref (ea E 0 0), .int x1, .ref (ea E 50 0)] : List Value)).length) Slot.unset).toArray = ls at hl ⊢
  have hl : lv_has ls 4 [(0, .ref (ea E 0 0)), (1, .int x1), (2, .ref (ea E 50 0))] := hl
  unfold w_L_queue at hw
  refine lv_aload_n hx hb d_L_queue_0 rfl (lv_at hl 2 rfl) ?_
  refine lv_iconst (v := 0) hx hb d_L_queue_1 (by decide) ?_
  refine lv_aload_n hx hb d_L_queue_2 rfl (lv_at hl 0 rfl) ?_
  refine lv_iload_n hx hb d_L_queue_3 rfl (lv_at hl 1 rfl) ?_
  refine g_xgoi (g_xcallV (C := R_K) (cc := b_L_queue) (As := [.int x1]) (rest := [.int 0, .ref (ea E 50 0)]) ⟨hx, hb, hml, hown, hts⟩ (c_K_queue l hl0 E s0 x1 _ _ hw) (cwV 1 hts (gi_V gm_672 gm_673 gm_674 gm_72 gm_675) rfl rfl rfl (by decide +kernel) ⟨Nat.le_of_ble_eq_true rfl, Nat.le_of_ble_eq_true rfl⟩) hV hK hX hY hAe (g_recv hK hV kk_0 rfl rfl) rfl hl.1 rfl (Nat.le_of_ble_eq_true rfl) d_L_queue_4 ⟨Nat.le_of_ble_eq_true rfl, Nat.le_of_ble_eq_true rfl⟩) hV hAe (fun n s1 q9 ce H locs hn hw hV hce hcv hcl => ?_) (fun r s1 H locs hw hV => ?_)
  · have h3 : n = 0 ∨ n = 1 ∨ n = 2 := by omega
    rcases h3 with rfl | rfl | rfl
    · have hw := hw.1 rfl
      refine vx_catch (own := R_L) (name := "java/lang/IndexOutOfBoundsException") (E := "java/lang/IndexOutOfBoundsException") hown (tableOf []) ⟨0, 9, 12, 13⟩ (tableOf []) (htab.trans rfl) (fun z hz => by cases hz) (by decide) (by decide) (hG _ gm_247) (va_Nw.use rfl (hY.2.2.2.1 ("java/lang/IndexOutOfBoundsException", "java/lang/IndexOutOfBoundsException") (by decide +kernel))) hce hcv hcl ?_
      refine lv_astore_n (lv' := [(3, .ref q9), (0, .ref (ea E 0 0)), (1, .int x1), (2, .ref (ea E 50 0))]) hx hb d_L_queue_12 rfl hl (by decide) rfl (fun ls hl => ?_)
      refine lv_iconst (v := 1) hx hb d_L_queue_13 (by decide) ?_
      exact kh_i hx hb hr hV hK hX hAe hw d_L_queue_14
    · exact (hw.2.1 rfl).elim
    · exact (hw.2.2 rfl).elim
  · refine lv_i2l hx hb d_L_queue_7 rfl ?_
    refine ks_50 hx hb hK hV d_L_queue_8 (fun s2 H locs es2 hV => ?_)
    have hw := hw s2 es2
    refine lv_goto (tgt := 15) hx hb d_L_queue_9 rfl ?_
    refine lv_iconst (v := 0) hx hb d_L_queue_15 (by decide) ?_
    exact kh_i hx hb hr hV hK hX hAe hw d_L_queue_16
def y_L_descriptor : MethodName := ⟨R_L, "descriptor", "(LPipeKernel;II[J)I"⟩
abbrev b_L_descriptor : ByteArray := method_12_code
def h_L_descriptor : List (Nat × Nat × Nat × Nat) := [(0, 10, 13, 13)]
def v_L_descriptor : List Cond := .codeWith y_L_descriptor b_L_descriptor 5 (some .int) [(0, 10, 13, 13)] :: gG
def m_L_descriptor : Room := { frames := 7, cells := 1, slots := 6, locals := 132 }
theorem d_L_descriptor_0 : decode b_L_descriptor 0 = .ok (.aload_n 3, 1) := by decide +kernel
theorem d_L_descriptor_1 : decode b_L_descriptor 1 = .ok (.iconst 0, 1) := by decide +kernel
theorem d_L_descriptor_2 : decode b_L_descriptor 2 = .ok (.aload_n 0, 1) := by decide +kernel
theorem d_L_descriptor_3 : decode b_L_descriptor 3 = .ok (.iload_n 1, 1) := by decide +kernel
theorem d_L_descriptor_4 : decode b_L_descriptor 4 = .ok (.iload_n 2, 1) := by decide +kernel
theorem d_L_descriptor_5 : decode b_L_descriptor 5 = .ok (.invokevirtual 45, 3) := by decide +kernel
theorem d_L_descriptor_8 : decode b_L_descriptor 8 = .ok (.i2l, 1) := by decide +kernel
theorem d_L_descriptor_9 : decode b_L_descriptor 9 = .ok (.lastore, 1) := by decide +kernel
theorem d_L_descriptor_10 : decode b_L_descriptor 10 = .ok (.goto 7, 3) := by decide +kernel
theorem d_L_descriptor_13 : decode b_L_descriptor 13 = .ok (.astore 4, 2) := by decide +kernel
theorem d_L_descriptor_15 : decode b_L_descriptor 15 = .ok (.iconst 1, 1) := by decide +kernel
theorem d_L_descriptor_16 : decode b_L_descriptor 16 = .ok (.ireturn, 1) := by decide +kernel
theorem d_L_descriptor_17 : decode b_L_descriptor 17 = .ok (.iconst 0, 1) := by decide +kernel
theorem d_L_descriptor_18 : decode b_L_descriptor 18 = .ok (.ireturn, 1) := by decide +kernel
def w_L_descriptor (cp : Nat) (x1 : Int32) (x2 : Int32) (s0 : KS) (Φ : Int32 → KS → Prop) : Prop := w_K_descriptor cp x1 x2 s0 (fun r s1 => ∀ s2 : KS, s2 = w3 s1 50 0 0 r → Φ 0 s2) (fun n s1 => (n = 0 → Φ 1 s1) ∧ (n = 1 → False) ∧ (n = 2 → False))
set_option maxHeartbeats 4000000 in
set_option maxRecDepth 100000 in
theorem c_L_descriptor (l : Launch) (hl0 : l.stackTraces = false) (E : gE) (s0 : KS) (x1 : Int32) (x2 : Int32) (Φ : Int32 → KS → Prop) (hw : w_L_descriptor (eN E) x1 x2 s0 Φ) : gHi l y_L_descriptor v_L_descriptor m_L_descriptor E [.ref (ea E 0 0), .int x1, .int x2, .ref (ea E 50 0)] s0 Φ := by
  intro sz
  refine va_MetW (cc := b_L_descriptor) (maxL := 5) (ret := (some .int)) (hh := [(0, 10, 13, 13)]) (by decide) rfl ?_
  intro p e s m args below meth c s₁ B hml hv
  obtain ⟨rfl, hsz, ⟨hP, hK, hD, hX⟩, hY⟩ := hv
  have hx := B.exec
  have hb := B.bytes
  have hr := B.returns
  have hts := atoms_spec (ws := v_L_descriptor) B.pre
  have hG : ∀ w ∈ gG, w.before _ s = true := fun w h => hts w (List.mem_cons_of_mem _ h)
  have htab := vx_table (x := y_L_descriptor) (hh := [(0, 10, 13, 13)]) B (show (Cond.codeWith y_L_descriptor b_L_descriptor 5 (some .int) [(0, 10, 13, 13)]).before _ s = true from hts _ List.mem_cons_self)
  have hown : s.vm.findClass R_L = some m.cls := findClass_of_methodNamed B.named
  have hlocks := B.notSynchronized
  subst hsz
  obtain ⟨A, hAe⟩ : ∃ A, A = gA E KK s.heap.size := ⟨_, rfl⟩
  rw [← hAe] at hD hX hY ⊢
  have hV : gV E KK A s0 s s.heap [] := ⟨hP, hD, va_S.rf⟩
  have hl := lv_entry ([.ref (ea E 0 0), .int x1, .int x2, .ref (ea E 50 0)] : List Value) (n := 5) (Nat.le_of_ble_eq_true rfl)
  rw [lg_entry_eq]
  generalize (lg_sl ([.ref (ea E 0 0), .int x1, .int x2, .ref (ea E 50 0)] : List Value) ++ List.replicate (5 - (lg_sl ([.ref (ea E 0 0), .int x1, .int x2, .ref (ea E 50 0)] : List Value)).length) Slot.unset).toArray = ls at hl ⊢
  have hl : lv_has ls 5 [(0, .ref (ea E 0 0)), (1, .int x1), (2, .int x2), (3, .ref (ea E 50 0))] := hl
  unfold w_L_descriptor at hw
  refine lv_aload_n hx hb d_L_descriptor_0 rfl (lv_at hl 3 rfl) ?_
  refine lv_iconst (v := 0) hx hb d_L_descriptor_1 (by decide) ?_
  refine lv_aload_n hx hb d_L_descriptor_2 rfl (lv_at hl 0 rfl) ?_
  refine lv_iload_n hx hb d_L_descriptor_3 rfl (lv_at hl 1 rfl) ?_
  refine lv_iload_n hx hb d_L_descriptor_4 rfl (lv_at hl 2 rfl) ?_
  refine g_xgoi (g_xcallV (C := R_K) (cc := b_L_descriptor) (As := [.int x1, .int x2]) (rest := [.int 0, .ref (ea E 50 0)]) ⟨hx, hb, hml, hown, hts⟩ (c_K_descriptor l hl0 E s0 x1 x2 _ _ hw) (cwV 2 hts (gi_V gm_680 gm_681 gm_682 gm_72 gm_683) rfl rfl rfl (by decide +kernel) ⟨Nat.le_of_ble_eq_true rfl, Nat.le_of_ble_eq_true rfl⟩) hV hK hX hY hAe (g_recv hK hV kk_0 rfl rfl) rfl hl.1 rfl (Nat.le_of_ble_eq_true rfl) d_L_descriptor_5 ⟨Nat.le_of_ble_eq_true rfl, Nat.le_of_ble_eq_true rfl⟩) hV hAe (fun n s1 q9 ce H locs hn hw hV hce hcv hcl => ?_) (fun r s1 H locs hw hV => ?_)
  · have h3 : n = 0 ∨ n = 1 ∨ n = 2 := by omega
    rcases h3 with rfl | rfl | rfl
    · have hw := hw.1 rfl
      refine vx_catch (own := R_L) (name := "java/lang/IndexOutOfBoundsException") (E := "java/lang/IndexOutOfBoundsException") hown (tableOf []) ⟨0, 10, 13, 13⟩ (tableOf []) (htab.trans rfl) (fun z hz => by cases hz) (by decide) (by decide) (hG _ gm_247) (va_Nw.use rfl (hY.2.2.2.1 ("java/lang/IndexOutOfBoundsException", "java/lang/IndexOutOfBoundsException") (by decide +kernel))) hce hcv hcl ?_
      refine lv_astore (lv' := [(4, .ref q9), (0, .ref (ea E 0 0)), (1, .int x1), (2, .int x2), (3, .ref (ea E 50 0))]) hx hb d_L_descriptor_13 hl (by decide) rfl (fun ls hl => ?_)
      refine lv_iconst (v := 1) hx hb d_L_descriptor_15 (by decide) ?_
      exact kh_i hx hb hr hV hK hX hAe hw d_L_descriptor_16
    · exact (hw.2.1 rfl).elim
    · exact (hw.2.2 rfl).elim
  · refine lv_i2l hx hb d_L_descriptor_8 rfl ?_
    refine ks_50 hx hb hK hV d_L_descriptor_9 (fun s2 H locs es2 hV => ?_)
    have hw := hw s2 es2
    refine lv_goto (tgt := 17) hx hb d_L_descriptor_10 rfl ?_
    refine lv_iconst (v := 0) hx hb d_L_descriptor_17 (by decide) ?_
    exact kh_i hx hb hr hV hK hX hAe hw d_L_descriptor_18
def y_L_pipe : MethodName := ⟨R_L, "pipe", "(LPipeKernel;II[J)I"⟩
abbrev b_L_pipe : ByteArray := method_13_code
def h_L_pipe : List (Nat × Nat × Nat × Nat) := [(0, 10, 13, 13), (0, 10, 17, 24)]
def v_L_pipe : List Cond := .codeWith y_L_pipe b_L_pipe 5 (some .int) [(0, 10, 13, 13), (0, 10, 17, 24)] :: gG
def m_L_pipe : Room := { frames := 7, cells := 1, slots := 6, locals := 132 }
theorem d_L_pipe_0 : decode b_L_pipe 0 = .ok (.aload_n 3, 1) := by decide +kernel
theorem d_L_pipe_1 : decode b_L_pipe 1 = .ok (.iconst 0, 1) := by decide +kernel
theorem d_L_pipe_2 : decode b_L_pipe 2 = .ok (.aload_n 0, 1) := by decide +kernel
theorem d_L_pipe_3 : decode b_L_pipe 3 = .ok (.iload_n 1, 1) := by decide +kernel
theorem d_L_pipe_4 : decode b_L_pipe 4 = .ok (.iload_n 2, 1) := by decide +kernel
theorem d_L_pipe_5 : decode b_L_pipe 5 = .ok (.invokevirtual 48, 3) := by decide +kernel
theorem d_L_pipe_8 : decode b_L_pipe 8 = .ok (.i2l, 1) := by decide +kernel
theorem d_L_pipe_9 : decode b_L_pipe 9 = .ok (.lastore, 1) := by decide +kernel
theorem d_L_pipe_10 : decode b_L_pipe 10 = .ok (.goto 11, 3) := by decide +kernel
theorem d_L_pipe_13 : decode b_L_pipe 13 = .ok (.astore 4, 2) := by decide +kernel
theorem d_L_pipe_15 : decode b_L_pipe 15 = .ok (.iconst 1, 1) := by decide +kernel
theorem d_L_pipe_16 : decode b_L_pipe 16 = .ok (.ireturn, 1) := by decide +kernel
theorem d_L_pipe_17 : decode b_L_pipe 17 = .ok (.astore 4, 2) := by decide +kernel
theorem d_L_pipe_19 : decode b_L_pipe 19 = .ok (.iconst 2, 1) := by decide +kernel
theorem d_L_pipe_20 : decode b_L_pipe 20 = .ok (.ireturn, 1) := by decide +kernel
theorem d_L_pipe_21 : decode b_L_pipe 21 = .ok (.iconst 0, 1) := by decide +kernel
theorem d_L_pipe_22 : decode b_L_pipe 22 = .ok (.ireturn, 1) := by decide +kernel
def w_L_pipe (cp : Nat) (x1 : Int32) (x2 : Int32) (s0 : KS) (Φ : Int32 → KS → Prop) : Prop := w_K_pipe cp x1 x2 s0 (fun r s1 => ∀ s2 : KS, s2 = w3 s1 50 0 0 r → Φ 0 s2) (fun n s1 => (n = 0 → Φ 1 s1) ∧ (n = 1 → False) ∧ (n = 2 → Φ 2 s1))
set_option maxHeartbeats 4000000 in
set_option maxRecDepth 100000 in
theorem c_L_pipe (l : Launch) (hl0 : l.stackTraces = false) (E : gE) (s0 : KS) (x1 : Int32) (x2 : Int32) (Φ : Int32 → KS → Prop) (hw : w_L_pipe (eN E) x1 x2 s0 Φ) : gHi l y_L_pipe v_L_pipe m_L_pipe E [.ref (ea E 0 0), .int x1, .int x2, .ref (ea E 50 0)] s0 Φ := by
  intro sz
  refine va_MetW (cc := b_L_pipe) (maxL := 5) (ret := (some .int)) (hh := [(0, 10, 13, 13), (0, 10, 17, 24)]) (by decide) rfl ?_
  intro p e s m args below meth c s₁ B hml hv
  obtain ⟨rfl, hsz, ⟨hP, hK, hD, hX⟩, hY⟩ := hv
  have hx := B.exec
  have hb := B.bytes
  have hr := B.returns
  have hts := atoms_spec (ws := v_L_pipe) B.pre
  have hG : ∀ w ∈ gG, w.before _ s = true := fun w h => hts w (List.mem_cons_of_mem _ h)
  have htab := vx_table (x := y_L_pipe) (hh := [(0, 10, 13, 13), (0, 10, 17, 24)]) B (show (Cond.codeWith y_L_pipe b_L_pipe 5 (some .int) [(0, 10, 13, 13), (0, 10, 17, 24)]).before _ s = true from hts _ List.mem_cons_self)
  have hown : s.vm.findClass R_L = some m.cls := findClass_of_methodNamed B.named
  have hlocks := B.notSynchronized
  subst hsz
  obtain ⟨A, hAe⟩ : ∃ A, A = gA E KK s.heap.size := ⟨_, rfl⟩
  rw [← hAe] at hD hX hY ⊢
  have hV : gV E KK A s0 s s.heap [] := ⟨hP, hD, va_S.rf⟩
  have hl := lv_entry ([.ref (ea E 0 0), .int x1, .int x2, .ref (ea E 50 0)] : List Value) (n := 5) (Nat.le_of_ble_eq_true rfl)
  rw [lg_entry_eq]
  generalize (lg_sl ([.ref (ea E 0 0), .int x1, .int x2, .ref (ea E 50 0)] : List Value) ++ List.replicate (5 - (lg_sl ([.ref (ea E 0 0), .int x1, .int x2, .ref (ea E 50 0)] : List Value)).length) Slot.unset).toArray = ls at hl ⊢
  have hl : lv_has ls 5 [(0, .ref (ea E 0 0)), (1, .int x1), (2, .int x2), (3, .ref (ea E 50 0))] := hl
  unfold w_L_pipe at hw
  refine lv_aload_n hx hb d_L_pipe_0 rfl (lv_at hl 3 rfl) ?_
  refine lv_iconst (v := 0) hx hb d_L_pipe_1 (by decide) ?_
  refine lv_aload_n hx hb d_L_pipe_2 rfl (lv_at hl 0 rfl) ?_
  refine lv_iload_n hx hb d_L_pipe_3 rfl (lv_at hl 1 rfl) ?_
  refine lv_iload_n hx hb d_L_pipe_4 rfl (lv_at hl 2 rfl) ?_
  refine g_xgoi (g_xcallV (C := R_K) (cc := b_L_pipe) (As := [.int x1, .int x2]) (rest := [.int 0, .ref (ea E 50 0)]) ⟨hx, hb, hml, hown, hts⟩ (c_K_pipe l hl0 E s0 x1 x2 _ _ hw) (cwV 2 hts (gi_V gm_688 gm_689 gm_690 gm_72 gm_691) rfl rfl rfl (by decide +kernel) ⟨Nat.le_of_ble_eq_true rfl, Nat.le_of_ble_eq_true rfl⟩) hV hK hX hY hAe (g_recv hK hV kk_0 rfl rfl) rfl hl.1 rfl (Nat.le_of_ble_eq_true rfl) d_L_pipe_5 ⟨Nat.le_of_ble_eq_true rfl, Nat.le_of_ble_eq_true rfl⟩) hV hAe (fun n s1 q9 ce H locs hn hw hV hce hcv hcl => ?_) (fun r s1 H locs hw hV => ?_)
  · have h3 : n = 0 ∨ n = 1 ∨ n = 2 := by omega
    rcases h3 with rfl | rfl | rfl
    · have hw := hw.1 rfl
      refine vx_catch (own := R_L) (name := "java/lang/IndexOutOfBoundsException") (E := "java/lang/IndexOutOfBoundsException") hown (tableOf []) ⟨0, 10, 13, 13⟩ (tableOf [(0, 10, 17, 24)]) (htab.trans rfl) (fun z hz => by cases hz) (by decide) (by decide) (hG _ gm_247) (va_Nw.use rfl (hY.2.2.2.1 ("java/lang/IndexOutOfBoundsException", "java/lang/IndexOutOfBoundsException") (by decide +kernel))) hce hcv hcl ?_
      refine lv_astore (lv' := [(4, .ref q9), (0, .ref (ea E 0 0)), (1, .int x1), (2, .int x2), (3, .ref (ea E 50 0))]) hx hb d_L_pipe_13 hl (by decide) rfl (fun ls hl => ?_)
      refine lv_iconst (v := 1) hx hb d_L_pipe_15 (by decide) ?_
      exact kh_i hx hb hr hV hK hX hAe hw d_L_pipe_16
    · exact (hw.2.1 rfl).elim
    · have hw := hw.2.2 rfl
      refine vx_catch (own := R_L) (name := "java/lang/IllegalArgumentException") (E := "java/lang/IllegalArgumentException") hown (tableOf [(0, 10, 13, 13)]) ⟨0, 10, 17, 24⟩ (tableOf []) (htab.trans rfl) (fun z hz => by
        rcases List.mem_cons.mp hz with rfl | hz
        · exact Or.inr ⟨by decide, "java/lang/IndexOutOfBoundsException", hG _ gm_247, hY.2.2.2.2.2 ("java/lang/IllegalArgumentException", "java/lang/IndexOutOfBoundsException") (by decide +kernel)⟩
        cases hz) (by decide) (by decide) (hG _ gm_347) (va_Nw.use rfl (hY.2.2.2.1 ("java/lang/IllegalArgumentException", "java/lang/IllegalArgumentException") (by decide +kernel))) hce hcv hcl ?_
      refine lv_astore (lv' := [(4, .ref q9), (0, .ref (ea E 0 0)), (1, .int x1), (2, .int x2), (3, .ref (ea E 50 0))]) hx hb d_L_pipe_17 hl (by decide) rfl (fun ls hl => ?_)
      refine lv_iconst (v := 2) hx hb d_L_pipe_19 (by decide) ?_
      exact kh_i hx hb hr hV hK hX hAe hw d_L_pipe_20
  · refine lv_i2l hx hb d_L_pipe_8 rfl ?_
    refine ks_50 hx hb hK hV d_L_pipe_9 (fun s2 H locs es2 hV => ?_)
    have hw := hw s2 es2
    refine lv_goto (tgt := 21) hx hb d_L_pipe_10 rfl ?_
    refine lv_iconst (v := 0) hx hb d_L_pipe_21 (by decide) ?_
    exact kh_i hx hb hr hV hK hX hAe hw d_L_pipe_22
def y_L_out : MethodName := ⟨R_L, "out", "(LPipeKernel;I[J)I"⟩
abbrev b_L_out : ByteArray := method_14_code
def h_L_out : List (Nat × Nat × Nat × Nat) := [(0, 9, 12, 13)]
def v_L_out : List Cond := .codeWith y_L_out b_L_out 4 (some .int) [(0, 9, 12, 13)] :: gG
def m_L_out : Room := { frames := 7, cells := 1, slots := 6, locals := 131 }
theorem d_L_out_0 : decode b_L_out 0 = .ok (.aload_n 2, 1) := by decide +kernel
theorem d_L_out_1 : decode b_L_out 1 = .ok (.iconst 0, 1) := by decide +kernel
theorem d_L_out_2 : decode b_L_out 2 = .ok (.aload_n 0, 1) := by decide +kernel
theorem d_L_out_3 : decode b_L_out 3 = .ok (.iload_n 1, 1) := by decide +kernel
theorem d_L_out_4 : decode b_L_out 4 = .ok (.invokevirtual 51, 3) := by decide +kernel
theorem d_L_out_7 : decode b_L_out 7 = .ok (.i2l, 1) := by decide +kernel
theorem d_L_out_8 : decode b_L_out 8 = .ok (.lastore, 1) := by decide +kernel
theorem d_L_out_9 : decode b_L_out 9 = .ok (.goto 6, 3) := by decide +kernel
theorem d_L_out_12 : decode b_L_out 12 = .ok (.astore_n 3, 1) := by decide +kernel
theorem d_L_out_13 : decode b_L_out 13 = .ok (.iconst 1, 1) := by decide +kernel
theorem d_L_out_14 : decode b_L_out 14 = .ok (.ireturn, 1) := by decide +kernel
theorem d_L_out_15 : decode b_L_out 15 = .ok (.iconst 0, 1) := by decide +kernel
theorem d_L_out_16 : decode b_L_out 16 = .ok (.ireturn, 1) := by decide +kernel
def w_L_out (cp : Nat) (x1 : Int32) (s0 : KS) (Φ : Int32 → KS → Prop) : Prop := w_K_out cp x1 s0 (fun r s1 => ∀ s2 : KS, s2 = w3 s1 50 0 0 r → Φ 0 s2) (fun n s1 => (n = 0 → Φ 1 s1) ∧ (n = 1 → False) ∧ (n = 2 → False))
set_option maxHeartbeats 4000000 in
set_option maxRecDepth 100000 in
theorem c_L_out (l : Launch) (hl0 : l.stackTraces = false) (E : gE) (s0 : KS) (x1 : Int32) (Φ : Int32 → KS → Prop) (hw : w_L_out (eN E) x1 s0 Φ) : gHi l y_L_out v_L_out m_L_out E [.ref (ea E 0 0), .int x1, .ref (ea E 50 0)] s0 Φ := by
  intro sz
  refine va_MetW (cc := b_L_out) (maxL := 4) (ret := (some .int)) (hh := [(0, 9, 12, 13)]) (by decide) rfl ?_
  intro p e s m args below meth c s₁ B hml hv
  obtain ⟨rfl, hsz, ⟨hP, hK, hD, hX⟩, hY⟩ := hv
  have hx := B.exec
  have hb := B.bytes
  have hr := B.returns
  have hts := atoms_spec (ws := v_L_out) B.pre
  have hG : ∀ w ∈ gG, w.before _ s = true := fun w h => hts w (List.mem_cons_of_mem _ h)
  have htab := vx_table (x := y_L_out) (hh := [(0, 9, 12, 13)]) B (show (Cond.codeWith y_L_out b_L_out 4 (some .int) [(0, 9, 12, 13)]).before _ s = true from hts _ List.mem_cons_self)
  have hown : s.vm.findClass R_L = some m.cls := findClass_of_methodNamed B.named
  have hlocks := B.notSynchronized
  subst hsz
  obtain ⟨A, hAe⟩ : ∃ A, A = gA E KK s.heap.size := ⟨_, rfl⟩
  rw [← hAe] at hD hX hY ⊢
  have hV : gV E KK A s0 s s.heap [] := ⟨hP, hD, va_S.rf⟩
  have hl := lv_entry ([.ref (ea E 0 0), .int x1, .ref (ea E 50 0)] : List Value) (n := 4) (Nat.le_of_ble_eq_true rfl)
  rw [lg_entry_eq]
  generalize (lg_sl ([.ref (ea E 0 0), .int x1, .ref (ea E 50 0)] : List Value) ++ List.replicate (4 - (lg_sl ([.ref (ea E 0 0), .int x1, .ref (ea E 50 0)] : List Value)).length) Slot.unset).toArray = ls at hl ⊢
  have hl : lv_has ls 4 [(0, .ref (ea E 0 0)), (1, .int x1), (2, .ref (ea E 50 0))] := hl
  unfold w_L_out at hw
  refine lv_aload_n hx hb d_L_out_0 rfl (lv_at hl 2 rfl) ?_
  refine lv_iconst (v := 0) hx hb d_L_out_1 (by decide) ?_
  refine lv_aload_n hx hb d_L_out_2 rfl (lv_at hl 0 rfl) ?_
  refine lv_iload_n hx hb d_L_out_3 rfl (lv_at hl 1 rfl) ?_
  refine g_xgoi (g_xcallV (C := R_K) (cc := b_L_out) (As := [.int x1]) (rest := [.int 0, .ref (ea E 50 0)]) ⟨hx, hb, hml, hown, hts⟩ (c_K_out l hl0 E s0 x1 _ _ hw) (cwV 1 hts (gi_V gm_701 gm_702 gm_703 gm_72 gm_704) rfl rfl rfl (by decide +kernel) ⟨Nat.le_of_ble_eq_true rfl, Nat.le_of_ble_eq_true rfl⟩) hV hK hX hY hAe (g_recv hK hV kk_0 rfl rfl) rfl hl.1 rfl (Nat.le_of_ble_eq_true rfl) d_L_out_4 ⟨Nat.le_of_ble_eq_true rfl, Nat.le_of_ble_eq_true rfl⟩) hV hAe (fun n s1 q9 ce H locs hn hw hV hce hcv hcl => ?_) (fun r s1 H locs hw hV => ?_)
  · have h3 : n = 0 ∨ n = 1 ∨ n = 2 := by omega
    rcases h3 with rfl | rfl | rfl
    · have hw := hw.1 rfl
      refine vx_catch (own := R_L) (name := "java/lang/IndexOutOfBoundsException") (E := "java/lang/IndexOutOfBoundsException") hown (tableOf []) ⟨0, 9, 12, 13⟩ (tableOf []) (htab.trans rfl) (fun z hz => by cases hz) (by decide) (by decide) (hG _ gm_247) (va_Nw.use rfl (hY.2.2.2.1 ("java/lang/IndexOutOfBoundsException", "java/lang/IndexOutOfBoundsException") (by decide +kernel))) hce hcv hcl ?_
      refine lv_astore_n (lv' := [(3, .ref q9), (0, .ref (ea E 0 0)), (1, .int x1), (2, .ref (ea E 50 0))]) hx hb d_L_out_12 rfl hl (by decide) rfl (fun ls hl => ?_)
      refine lv_iconst (v := 1) hx hb d_L_out_13 (by decide) ?_
      exact kh_i hx hb hr hV hK hX hAe hw d_L_out_14
    · exact (hw.2.1 rfl).elim
    · exact (hw.2.2 rfl).elim
  · refine lv_i2l hx hb d_L_out_7 rfl ?_
    refine ks_50 hx hb hK hV d_L_out_8 (fun s2 H locs es2 hV => ?_)
    have hw := hw s2 es2
    refine lv_goto (tgt := 15) hx hb d_L_out_9 rfl ?_
    refine lv_iconst (v := 0) hx hb d_L_out_15 (by decide) ?_
    exact kh_i hx hb hr hV hK hX hAe hw d_L_out_16

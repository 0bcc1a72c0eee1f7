theorem gm_91 : (.instanceMethod objectInit : Cond) ∈ gG := tb_tables_1_1 (List.mem_of_getElem? (i := 20) rfl) rfl
theorem gm_92 : (.code objectInit ⟨#[0xb1]⟩ 1 none : Cond) ∈ gG := tb_tables_1_1 (List.mem_of_getElem? (i := 21) rfl) rfl
theorem gm_101 : (.methodLink R_W 1 objectInit : Cond) ∈ gG := tb_tables_1_1 (List.mem_of_getElem? (i := 30) rfl) rfl
theorem gm_113 : (.arrayClass .int : Cond) ∈ gG := tb_tables_1_1 (List.mem_of_getElem? (i := 42) rfl) rfl
theorem gm_124 : (.methodLink R_P 3 objectInit : Cond) ∈ gG := tb_tables_1_1 (List.mem_of_getElem? (i := 53) rfl) rfl
theorem gm_141 : (.fieldLink R_P 34 R_P "code" "I" : Cond) ∈ gG := tb_tables_1_1 (List.mem_of_getElem? (i := 70) rfl) rfl
theorem gm_143 : (.fieldLink R_P 37 R_P "wakeTime" "I" : Cond) ∈ gG := tb_tables_1_1 (List.mem_of_getElem? (i := 72) rfl) rfl
theorem gm_145 : (.fieldLink R_P 40 R_P "waitsOn" "I" : Cond) ∈ gG := tb_tables_1_1 (List.mem_of_getElem? (i := 74) rfl) rfl
theorem gm_147 : (.fieldLink R_P 43 R_P "waitsSince" "I" : Cond) ∈ gG := tb_tables_1_1 (List.mem_of_getElem? (i := 76) rfl) rfl
theorem ap_get {α : Type} (X L : List α) (k : Nat) : (X ++ L)[X.length + k]? = L[k]? := by rw [List.getElem?_append_right (Nat.le_add_right _ _), Nat.add_sub_cancel_left]
theorem ap_set {α : Type} (X L : List α) (k : Nat) (v : α) : (X ++ L).set (X.length + k) v = X ++ L.set k v := by rw [List.set_append_right _ _ (Nat.le_add_right _ _), Nat.add_sub_cancel_left]
section KI
variable {p : Program} {l : Launch} {e : Env} {R : Room} {s : State} {m : MethodId} {args : Array Value} {below : List Frame} {meth : Method} {c : Code} {H : Heap} {locs : List Loc} {cells slots : Nat} {Q : State → Prop}
variable {cc : ByteArray} {pc : Nat} {ls : Array Slot} {rest : List Value} {E : gE} {A : Nat → Prop} {X L : va_W}
theorem g_newa (hexec : p.tables.exec = Jvm.exec) (hb : c.code = cc) (hG : ∀ w ∈ gG, w.before args s = true) (hK : va_K (eD E) classes (eT E) s) (hP : va_P (eD E) classes (X ++ L) H) (hD : va_D A (X ++ L)) (hS : va_S A s.heap H locs) (hA : ∀ q, s.heap.size ≤ q → A q)
    {n : Int32} {N : Nat} (hn : ¬ n < 0) (hN : n.toNatClampNeg = N) (hbig : N ≤ 100000) (hcells : cells + 1 ≤ R.cells) (hslots : slots + N ≤ R.slots) (hdg : decode cc pc = .ok (.newarray .int, 2))
    (kk : ∀ (q : Nat) (H1 : Heap), va_P (eD E) classes (X ++ (L ++ [(q, .inl (eC E 0, N, .inl (fun _ => 0)))])) H1 → va_D A (X ++ (L ++ [(q, .inl (eC E 0, N, .inl (fun _ => 0)))])) → va_S A s.heap H1 locs → W p l e R s m args below meth c H1 locs (cells + 1) (slots + N) Q (F0 m (pc + 2) ls (.ref q :: rest))) : W p l e R s m args below meth c H locs cells slots Q (F0 m pc ls (.int n :: rest)) := by
  refine va_newa (atype := .int) (ty := .int) (a0 := (N, .inl (fun _ => 0))) hexec hb (hG _ gm_113) rfl hK hP hD hS hA (fun _ => rfl) hn hN (by simp only [componentBytes]; omega) hcells hslots hdg (fun q cA H1 hK1 hP1 hD1 hS1 => ?_)
  have ec : cA = eC E 0 := by
    have h1 : s.vm.findClass _ = some (eC E 0) := (hK.2 0 _ rfl).2
    have h2 : s.vm.findClass _ = some cA := (hK1.2 4 _ rfl).2
    exact Option.some.inj (h2.symm.trans h1)
  subst ec
  rw [List.append_assoc] at hP1 hD1
  exact kk q H1 hP1 hD1 hS1
theorem g_newq {own C : String} {index t0 : Nat} (ht : (eT E)[t0]? = some (eC E t0, .object C)) (hexec : p.tables.exec = Jvm.exec) (hb : c.code = cc) (hown : s.vm.findClass own = some m.cls) (hclink : (Cond.classLink own index C).before args s = true) (hover : va_AO C s) (hK : va_K (eD E) classes (eT E) s) (hP : va_P (eD E) classes (X ++ L) H) (hD : va_D A (X ++ L)) (hS : va_S A s.heap H locs) (hA : ∀ q, s.heap.size ≤ q → A q)
    {n : Int32} {N : Nat} (hn : ¬ n < 0) (hN : n.toNatClampNeg = N) (hbig : N ≤ 100000) (hcells : cells + 1 ≤ R.cells) (hslots : slots + N ≤ R.slots) (hdg : decode cc pc = .ok (.anewarray index, 3))
    (kk : ∀ (q : Nat) (H1 : Heap), va_P (eD E) classes (X ++ (L ++ [(q, .inl (eC E t0, N, .inr (.inr (.inr (.inr (fun _ => none))))))])) H1 → va_D A (X ++ (L ++ [(q, .inl (eC E t0, N, .inr (.inr (.inr (.inr (fun _ => none))))))])) → va_S A s.heap H1 locs → W p l e R s m args below meth c H1 locs (cells + 1) (slots + N) Q (F0 m (pc + 3) ls (.ref q :: rest))) : W p l e R s m args below meth c H locs cells slots Q (F0 m pc ls (.int n :: rest)) := by
  refine va_newq hexec hb hown hclink hover hK hP hD hS hA hn hN (by omega) hcells hslots hdg (fun q cA H1 hK1 hP1 hD1 hS1 => ?_)
  have ec : cA = eC E t0 := by
    obtain ⟨k1, c1, -, -, -, h1⟩ := (hK.2 t0 _ ht).2
    obtain ⟨k2, c2, -, -, -, h2⟩ := (hK1.2 4 (cA, .object C) rfl).2
    exact Option.some.inj (h2.symm.trans h1)
  subst ec
  rw [List.append_assoc] at hP1 hD1
  exact kk q H1 hP1 hD1 hS1
theorem g_putX {own C : String} {T : u_T} {N ci index a : Nat} {v : Value} {fs : List Value} {ty : FieldType} (q0 : Nat) (hexec : p.tables.exec = Jvm.exec) (hb : c.code = cc) (hG : ∀ w ∈ gG, w.before args s = true) (hin : ∀ w ∈ u_ws C T N, w ∈ gG) (ty0 : Nat → FieldType) (hty : ∀ k, k < N → parseFieldDescriptor (T k).2.2.1 = some (ty0 k)) (hnm : ∀ a, a < N → ∀ b, b < N → a ≠ b → (T a).2.1 ≠ (T b).2.1) (hown : s.vm.findClass own = some m.cls) (hK : va_K (eD E) classes (eT E) s) (hP : va_P (eD E) classes (X ++ L) H) (hD : va_D A (X ++ L)) (hS : va_S A s.heap H locs)
    (he : L[q0]? = some (a, .inr (ci, fs))) (hc : classes[ci]? = some (C, T, N)) (k : Nat) (hk : k < N) (hl : Cond.fieldLink own index C (T k).2.1 (T k).2.2.1 ∈ gG) (hd : (T k).1 = C) (hfin : (T k).2.2.2 = false) (hdty : parseFieldDescriptor (T k).2.2.1 = some ty) (hn : narrow ty v = v) (hfit : fits ty v = true) (hlen : k < fs.length) (hdg : decode cc pc = .ok (.putfield index, 3))
    (kk : ∀ (H1 : Heap) (locs1 : List Loc), va_P (eD E) classes (X ++ L.set q0 (a, .inr (ci, fs.set k v))) H1 → va_D A (X ++ L.set q0 (a, .inr (ci, fs.set k v))) → va_S A s.heap H1 locs1 → W p l e R s m args below meth c H1 locs1 cells slots Q (F0 m (pc + 3) ls rest)) : W p l e R s m args below meth c H locs cells slots Q (F0 m pc ls (v :: .ref a :: rest)) := by
  refine va_put hexec hb hG hin ty0 hty hnm hown hK hP hD hS (X.length + q0) ((ap_get X L q0).trans he) hc k hk (hG _ hl) (fun x h => by rw [hd] at h; exact h) hfin hdty hn hfit hlen hdg (fun H1 locs1 h1 h2 h3 => ?_)
  rw [ap_set] at h1 h2
  exact kk H1 locs1 h1 h2 h3
theorem g_putXF {own : String} {T : u_T} {N ci index a : Nat} {v : Value} {fs : List Value} {ty : FieldType} (q0 : Nat) (hexec : p.tables.exec = Jvm.exec) (hb : c.code = cc) (hG : ∀ w ∈ gG, w.before args s = true) (hin : ∀ w ∈ u_ws own T N, w ∈ gG) (ty0 : Nat → FieldType) (hty : ∀ k, k < N → parseFieldDescriptor (T k).2.2.1 = some (ty0 k)) (hnm : ∀ a, a < N → ∀ b, b < N → a ≠ b → (T a).2.1 ≠ (T b).2.1) (hown : s.vm.findClass own = some m.cls) (hK : va_K (eD E) classes (eT E) s) (hP : va_P (eD E) classes (X ++ L) H) (hD : va_D A (X ++ L)) (hS : va_S A s.heap H locs)
    (he : L[q0]? = some (a, .inr (ci, fs))) (hc : classes[ci]? = some (own, T, N)) (k : Nat) (hk : k < N) (hl : Cond.fieldLink own index own (T k).2.1 (T k).2.2.1 ∈ gG) (hd : (T k).1 = own) (hfin : (T k).2.2.2 = true) (hin2 : meth.name = "<init>") (hdty : parseFieldDescriptor (T k).2.2.1 = some ty) (hn : narrow ty v = v) (hfit : fits ty v = true) (hlen : k < fs.length) (hdg : decode cc pc = .ok (.putfield index, 3))
    (kk : ∀ (H1 : Heap) (locs1 : List Loc), va_P (eD E) classes (X ++ L.set q0 (a, .inr (ci, fs.set k v))) H1 → va_D A (X ++ L.set q0 (a, .inr (ci, fs.set k v))) → va_S A s.heap H1 locs1 → W p l e R s m args below meth c H1 locs1 cells slots Q (F0 m (pc + 3) ls rest)) : W p l e R s m args below meth c H locs cells slots Q (F0 m pc ls (v :: .ref a :: rest)) := by
  refine va_putF hexec hb hG hin ty0 hty hnm hown hK hP hD hS (X.length + q0) ((ap_get X L q0).trans he) hc k hk (hG _ hl) (fun x h => by rw [hd] at h; exact h) hfin hin2 hd hdty hn hfit hlen hdg (fun H1 locs1 h1 h2 h3 => ?_)
  rw [ap_set] at h1 h2
  exact kk H1 locs1 h1 h2 h3
end KI
def iPc (E : gE) (sz : Nat) (av : List Value) (ws : va_W) : Array Value → State → Prop := va_Pc av (fun U => U.heap.size = sz ∧ va_P (eD E) classes ws U.heap ∧ va_K (eD E) classes (eT E) U ∧ va_D (va_A ws sz) ws)
theorem iPc_blind {E : gE} {sz : Nat} {av : List Value} {ws : va_W} : FrameBlind (iPc E sz av ws) := by
  intro a U g mk h
  obtain ⟨h1, h2, hP, hK, hD⟩ := h
  exact ⟨h1, h2, hP, va_K.moved (u := U) (U := U.calling g mk a) (Vm.Alike.refl U.vm) hK, hD⟩
/-- a constructor: the world ws before, some world of the kind B behind -/
def iM (l : Launch) (y : MethodName) (vs : List Cond) (rm : Room) (E : gE) (av : List Value) (ws : va_W) (S : Type) (post : S → Prop) (B : S → va_W) (mc ms : Nat) : Prop := ∀ sz : Nat, Met l y vs rm (iPc E sz av ws) (va_Qv post (fun u t => va_P (eD E) classes (B u) t.heap ∧ va_D (va_A ws sz) (B u)) (va_A ws sz)) mc ms (va_A ws sz)
theorem gi_I {c0 cd : Cond} (h : cd ∈ gG) : GoodIn (c0 :: gG) (cd :: gG) := by
  intro w hw
  have h1 : w ∈ gG := (List.mem_cons.mp hw).elim (fun e => by rw [e]; exact h) id
  exact ⟨List.mem_cons_of_mem _ h1, gG_good w h1⟩
theorem iA_of {A : Nat → Prop} {ws : va_W} {sz n : Nat} (hD : va_D A ws) (hA : ∀ q, sz ≤ q → A q) (hz : sz ≤ n) : ∀ q, va_A ws n q → A q := by
  intro q h
  rcases h with ⟨k, e, h⟩ | h
  · exact hD.2 k _ h
  · exact hA q (Nat.le_trans hz h)
section KJ
variable {p : Program} {l : Launch} {e : Env} {R : Room} {s : State} {m : MethodId} {args : Array Value} {below : List Frame} {meth : Method} {c : Code} {H : Heap} {locs : List Loc} {cells slots : Nat} {Q : State → Prop}
variable {cc : ByteArray} {pc : Nat} {ls : Array Slot} {rest : List Value} {E : gE} {A : Nat → Prop} {ws : va_W}
theorem g_callI {own : String} {index : Nat} {y : MethodName} {bytes : ByteArray} {maxL nL n mc ms bb : Nat} {vs Ts : List Cond} {rm : Room} {As st0 : List Value} {S : Type} {post : S → Prop} {B : S → va_W}
    (S0 : CallFix p m c cc nL s args Ts own) (hM : iM l y vs rm E (.ref bb :: As) ws S post B mc ms) (cw : CallB R s args own index y bytes maxL none vs rm mc ms n ∧ y.name = "<init>" ∧ (Cond.instanceMethod y).before args s = true) (hK : va_K (eD E) classes (eT E) s) (hP : va_P (eD E) classes ws H) (hD : va_D A ws) (hS : va_S A s.heap H locs) (hA : ∀ q, s.heap.size ≤ q → A q)
    (hn : As.length = n) (hsz : ls.size = nL) (hst : st0 = As.reverse ++ .ref bb :: rest) (hW : (rest.map fun v => v.category).sum ≤ 8) (hdg : decode cc pc = .ok (.invokespecial index, 3)) (hf : cells + mc ≤ R.cells ∧ slots + ms ≤ R.slots)
    (kk : ∀ (u : S) (H1 : Heap) (locs1 : List Loc), post u → va_P (eD E) classes (B u) H1 → va_D A (B u) → va_S A s.heap H1 locs1 → W p l e R s m args below meth c H1 locs1 (cells + mc) (slots + ms) Q (F0 m (pc + 3) ls rest)) : W p l e R s m args below meth c H locs cells slots Q (F0 m pc ls st0) := by
  have hAw := iA_of hD hA hS.1
  refine va_callv (va_runI S0 (hM H.size) cw ⟨iPc_blind, fun U hU hW => ⟨rfl, by rw [hU], by rw [hU]; exact hP, va_K.moved hW.alike hK, hD.self⟩⟩ rfl hn hsz hst (lv_room hW) hdg hf) hS (fun q _ h => hAw q h) hAw (fun u t H1 locs1 ht hvm hp hB hz hk hS1 => ?_)
  rw [ht] at hB
  exact kk u H1 locs1 hp hB.1 (hB.2.weaken (fun _ q _ h => hAw q.1 h)) hS1
end KJ
def y_W_init : MethodName := ⟨R_W, "<init>", "(I)V"⟩
abbrev b_W_init : ByteArray := prog_3_method_1_code
def v_W_init : List Cond := .code y_W_init b_W_init 2 none :: gG
def m_W_init (N : Nat) : Room := { frames := 1, cells := 1, slots := N, locals := 12 }
theorem d_W_init_0 : decode b_W_init 0 = .ok (.aload_n 0, 1) := by decide +kernel
theorem d_W_init_1 : decode b_W_init 1 = .ok (.invokespecial 1, 3) := by decide +kernel
theorem d_W_init_4 : decode b_W_init 4 = .ok (.aload_n 0, 1) := by decide +kernel
theorem d_W_init_5 : decode b_W_init 5 = .ok (.iconst 0, 1) := by decide +kernel
theorem d_W_init_6 : decode b_W_init 6 = .ok (.putfield 7, 3) := by decide +kernel
theorem d_W_init_9 : decode b_W_init 9 = .ok (.aload_n 0, 1) := by decide +kernel
theorem d_W_init_10 : decode b_W_init 10 = .ok (.iconst 0, 1) := by decide +kernel
theorem d_W_init_11 : decode b_W_init 11 = .ok (.putfield 13, 3) := by decide +kernel
theorem d_W_init_14 : decode b_W_init 14 = .ok (.aload_n 0, 1) := by decide +kernel
theorem d_W_init_15 : decode b_W_init 15 = .ok (.iload_n 1, 1) := by decide +kernel
theorem d_W_init_16 : decode b_W_init 16 = .ok (.newarray .int, 2) := by decide +kernel
theorem d_W_init_18 : decode b_W_init 18 = .ok (.putfield 16, 3) := by decide +kernel
theorem d_W_init_21 : decode b_W_init 21 = .ok (.return_, 1) := by decide +kernel
set_option maxHeartbeats 4000000 in
set_option maxRecDepth 100000 in
theorem c_W_init (l : Launch) (E : gE) (X : va_W) (h0 : Nat) (x1 : Int32) (N : Nat) (hx1 : ¬ x1 < 0) (hxN : x1.toNatClampNeg = N) (hNb : N ≤ 500) : iM l y_W_init v_W_init (m_W_init N) E [.ref h0, .int x1] (X ++ [(h0, .inr (1, [.null, .int 0, .int 0]))]) Nat (fun _ => True) (fun q => X ++ [(h0, .inr (1, [.ref q, .int 0, .int 0])), (q, .inl (eC E 0, N, .inl (fun _ => 0)))]) 1 N := by
  intro sz
  refine Met.ofW (cc := b_W_init) (maxL := 2) (ret := none) (by decide) rfl ?_
  intro p e s m args below meth c s₁ B hml hv
  obtain ⟨rfl, hsz, hP, hK, hD⟩ := hv
  have hx := B.exec
  have hb := B.bytes
  have hr := B.returns
  have hts := atoms_spec (ws := v_W_init) B.pre
  have hG : ∀ w ∈ gG, w.before _ s = true := fun w h => hts w (List.mem_cons_of_mem _ h)
  have hown : s.vm.findClass R_W = some m.cls := findClass_of_methodNamed B.named
  have hlocks := B.notSynchronized
  have hin : meth.name = "<init>" := (name_of_methodNamed B.named B.method).1
  subst hsz
  generalize hAe : va_A (X ++ [(h0, .inr (1, [.null, .int 0, .int 0]))]) s.heap.size = A at hD ⊢
  have hA : ∀ q : Nat, s.heap.size ≤ q → A q := fun q h => by rw [← hAe]; exact Or.inr h
  have hS : va_S A s.heap s.heap [] := va_S.rf
  have hl := lv_entry ([.ref h0, .int x1] : List Value) (n := 2) (Nat.le_of_ble_eq_true rfl)
  rw [lg_entry_eq]
  generalize (lg_sl ([.ref h0, .int x1] : List Value) ++ List.replicate (2 - (lg_sl ([.ref h0, .int x1] : List Value)).length) Slot.unset).toArray = ls at hl ⊢
  have hl : lv_has ls 2 [(0, .ref h0), (1, .int x1)] := hl
  refine lv_aload_n hx hb d_W_init_0 rfl (lv_at hl 0 rfl) ?_
  refine W.objInit hx hb hown (hG _ gm_101) (hG _ gm_91) (hG _ gm_92) rfl (by rw [hml]; exact hl.1) rfl d_W_init_1 (Nat.le_of_ble_eq_true rfl) (Nat.le_of_ble_eq_true rfl) ?_
  refine W.eq (g2 := F0 m 4 ls []) rfl ?_
  refine lv_aload_n hx hb d_W_init_4 rfl (lv_at hl 0 rfl) ?_
  refine lv_iconst (v := 0) hx hb d_W_init_5 (by decide) ?_
  refine g_putX (X := X) (L := [(h0, .inr (1, [.null, .int 0, .int 0]))]) (own := R_W) (C := R_W) (T := F_W) (N := 3) (ci := 1) (v := .int 0) (ty := .int) 0 hx hb hG in_us_W t_W t_W_ok n_W hown hK hP hD hS rfl rfl 1 (by decide) gm_103 rfl rfl (by decide +kernel) rfl rfl (Nat.le_of_ble_eq_true rfl) d_W_init_6 (fun H locs hP hD hS => ?_)
  have hP : va_P (eD E) classes (X ++ [(h0, .inr (1, [.null, .int 0, .int 0]))]) H := hP
  have hD : va_D A (X ++ [(h0, .inr (1, [.null, .int 0, .int 0]))]) := hD
  refine lv_aload_n hx hb d_W_init_9 rfl (lv_at hl 0 rfl) ?_
  refine lv_iconst (v := 0) hx hb d_W_init_10 (by decide) ?_
  refine g_putX (X := X) (L := [(h0, .inr (1, [.null, .int 0, .int 0]))]) (own := R_W) (C := R_W) (T := F_W) (N := 3) (ci := 1) (v := .int 0) (ty := .int) 0 hx hb hG in_us_W t_W t_W_ok n_W hown hK hP hD hS rfl rfl 2 (by decide) gm_104 rfl rfl (by decide +kernel) rfl rfl (Nat.le_of_ble_eq_true rfl) d_W_init_11 (fun H locs hP hD hS => ?_)
  have hP : va_P (eD E) classes (X ++ [(h0, .inr (1, [.null, .int 0, .int 0]))]) H := hP
  have hD : va_D A (X ++ [(h0, .inr (1, [.null, .int 0, .int 0]))]) := hD
  refine lv_aload_n hx hb d_W_init_14 rfl (lv_at hl 0 rfl) ?_
  refine lv_iload_n hx hb d_W_init_15 rfl (lv_at hl 1 rfl) ?_
  refine g_newa (X := X) (L := [(h0, .inr (1, [.null, .int 0, .int 0]))]) (N := N) hx hb hG hK hP hD hS hA hx1 hxN (by omega) (Nat.le_of_ble_eq_true rfl) (by show 0 + N ≤ N; omega) d_W_init_16 (fun q16 H hP hD hS => ?_)
  have hP : va_P (eD E) classes (X ++ [(h0, .inr (1, [.null, .int 0, .int 0])), (q16, .inl (eC E 0, N, .inl (fun _ => 0)))]) H := hP
  have hD : va_D A (X ++ [(h0, .inr (1, [.null, .int 0, .int 0])), (q16, .inl (eC E 0, N, .inl (fun _ => 0)))]) := hD
  refine g_putXF (X := X) (L := [(h0, .inr (1, [.null, .int 0, .int 0])), (q16, .inl (eC E 0, N, .inl (fun _ => 0)))]) (own := R_W) (T := F_W) (N := 3) (ci := 1) (v := .ref q16) (ty := (.array .int)) 0 hx hb hG in_us_W t_W t_W_ok n_W hown hK hP hD hS rfl rfl 0 (by decide) gm_102 rfl rfl hin (by decide +kernel) rfl rfl (Nat.le_of_ble_eq_true rfl) d_W_init_18 (fun H locs hP hD hS => ?_)
  have hP : va_P (eD E) classes (X ++ [(h0, .inr (1, [.ref q16, .int 0, .int 0])), (q16, .inl (eC E 0, N, .inl (fun _ => 0)))]) H := hP
  have hD : va_D A (X ++ [(h0, .inr (1, [.ref q16, .int 0, .int 0])), (q16, .inl (eC E 0, N, .inl (fun _ => 0)))]) := hD
  refine W.widen (k := 1) (n := N) (by omega) (by omega) ?_
  exact W.vret hx hb hr (fun t ht hW => ⟨⟨q16, rfl, trivial, by rw [ht]; exact hP, hD⟩, hS.F ht⟩) hS.2.2 d_W_init_21
def y_P_init : MethodName := ⟨R_P, "<init>", "(I)V"⟩
abbrev b_P_init : ByteArray := prog_2_method_1_code
def v_P_init : List Cond := .code y_P_init b_P_init 2 none :: gG
def m_P_init : Room := { frames := 1, cells := 3, slots := 168, locals := 12 }
theorem d_P_init_0 : decode b_P_init 0 = .ok (.aload_n 0, 1) := by decide +kernel
theorem d_P_init_1 : decode b_P_init 1 = .ok (.invokespecial 3, 3) := by decide +kernel
theorem d_P_init_4 : decode b_P_init 4 = .ok (.aload_n 0, 1) := by decide +kernel
theorem d_P_init_5 : decode b_P_init 5 = .ok (.sipush 128, 3) := by decide +kernel
theorem d_P_init_8 : decode b_P_init 8 = .ok (.newarray .int, 2) := by decide +kernel
theorem d_P_init_10 : decode b_P_init 10 = .ok (.putfield 9, 3) := by decide +kernel
theorem d_P_init_13 : decode b_P_init 13 = .ok (.aload_n 0, 1) := by decide +kernel
theorem d_P_init_14 : decode b_P_init 14 = .ok (.bipush 32, 2) := by decide +kernel
theorem d_P_init_16 : decode b_P_init 16 = .ok (.newarray .int, 2) := by decide +kernel
theorem d_P_init_18 : decode b_P_init 18 = .ok (.putfield 15, 3) := by decide +kernel
theorem d_P_init_21 : decode b_P_init 21 = .ok (.aload_n 0, 1) := by decide +kernel
theorem d_P_init_22 : decode b_P_init 22 = .ok (.bipush 8, 2) := by decide +kernel
theorem d_P_init_24 : decode b_P_init 24 = .ok (.newarray .int, 2) := by decide +kernel
theorem d_P_init_26 : decode b_P_init 26 = .ok (.putfield 18, 3) := by decide +kernel
theorem d_P_init_29 : decode b_P_init 29 = .ok (.aload_n 0, 1) := by decide +kernel
theorem d_P_init_30 : decode b_P_init 30 = .ok (.iconst 0, 1) := by decide +kernel
theorem d_P_init_31 : decode b_P_init 31 = .ok (.putfield 21, 3) := by decide +kernel
theorem d_P_init_34 : decode b_P_init 34 = .ok (.aload_n 0, 1) := by decide +kernel
theorem d_P_init_35 : decode b_P_init 35 = .ok (.iconst 0, 1) := by decide +kernel
theorem d_P_init_36 : decode b_P_init 36 = .ok (.putfield 25, 3) := by decide +kernel
theorem d_P_init_39 : decode b_P_init 39 = .ok (.aload_n 0, 1) := by decide +kernel
theorem d_P_init_40 : decode b_P_init 40 = .ok (.iconst (-1), 1) := by decide +kernel
theorem d_P_init_41 : decode b_P_init 41 = .ok (.putfield 28, 3) := by decide +kernel
theorem d_P_init_44 : decode b_P_init 44 = .ok (.aload_n 0, 1) := by decide +kernel
theorem d_P_init_45 : decode b_P_init 45 = .ok (.iconst 0, 1) := by decide +kernel
theorem d_P_init_46 : decode b_P_init 46 = .ok (.putfield 31, 3) := by decide +kernel
theorem d_P_init_49 : decode b_P_init 49 = .ok (.aload_n 0, 1) := by decide +kernel
theorem d_P_init_50 : decode b_P_init 50 = .ok (.iconst 0, 1) := by decide +kernel
theorem d_P_init_51 : decode b_P_init 51 = .ok (.putfield 34, 3) := by decide +kernel
theorem d_P_init_54 : decode b_P_init 54 = .ok (.aload_n 0, 1) := by decide +kernel
theorem d_P_init_55 : decode b_P_init 55 = .ok (.iconst 0, 1) := by decide +kernel
theorem d_P_init_56 : decode b_P_init 56 = .ok (.putfield 37, 3) := by decide +kernel
theorem d_P_init_59 : decode b_P_init 59 = .ok (.aload_n 0, 1) := by decide +kernel
theorem d_P_init_60 : decode b_P_init 60 = .ok (.iconst (-1), 1) := by decide +kernel
theorem d_P_init_61 : decode b_P_init 61 = .ok (.putfield 40, 3) := by decide +kernel
theorem d_P_init_64 : decode b_P_init 64 = .ok (.aload_n 0, 1) := by decide +kernel
theorem d_P_init_65 : decode b_P_init 65 = .ok (.iconst 0, 1) := by decide +kernel
theorem d_P_init_66 : decode b_P_init 66 = .ok (.putfield 43, 3) := by decide +kernel
theorem d_P_init_69 : decode b_P_init 69 = .ok (.aload_n 0, 1) := by decide +kernel
theorem d_P_init_70 : decode b_P_init 70 = .ok (.iload_n 1, 1) := by decide +kernel
theorem d_P_init_71 : decode b_P_init 71 = .ok (.putfield 46, 3) := by decide +kernel
theorem d_P_init_74 : decode b_P_init 74 = .ok (.return_, 1) := by decide +kernel
set_option maxHeartbeats 4000000 in
set_option maxRecDepth 100000 in
theorem c_P_init (l : Launch) (E : gE) (X : va_W) (h0 : Nat) (x1 : Int32) : iM l y_P_init v_P_init m_P_init E [.ref h0, .int x1] (X ++ [(h0, .inr (0, [.int 0, .null, .null, .null, .int 0, .int 0, .int 0, .int 0, .int 0, .int 0, .int 0, .int 0]))]) (Nat × Nat × Nat) (fun _ => True) (fun u => X ++ [(h0, .inr (0, [.int x1, .ref u.1, .ref u.2.1, .ref u.2.2, .int 0, .int 0, .int (-1), .int 0, .int 0, .int 0, .int (-1), .int 0])), (u.1, .inl (eC E 0, 128, .inl (fun _ => 0))), (u.2.1, .inl (eC E 0, 32, .inl (fun _ => 0))), (u.2.2, .inl (eC E 0, 8, .inl (fun _ => 0)))]) 3 168 := by
  intro sz
  refine Met.ofW (cc := b_P_init) (maxL := 2) (ret := none) (by decide) rfl ?_
  intro p e s m args below meth c s₁ B hml hv
  obtain ⟨rfl, hsz, hP, hK, hD⟩ := hv
  have hx := B.exec
  have hb := B.bytes
  have hr := B.returns
  have hts := atoms_spec (ws := v_P_init) B.pre
  have hG : ∀ w ∈ gG, w.before _ s = true := fun w h => hts w (List.mem_cons_of_mem _ h)
  have hown : s.vm.findClass R_P = some m.cls := findClass_of_methodNamed B.named
  have hlocks := B.notSynchronized
  have hin : meth.name = "<init>" := (name_of_methodNamed B.named B.method).1
  subst hsz
  generalize hAe : va_A (X ++ [(h0, .inr (0, [.int 0, .null, .null, .null, .int 0, .int 0, .int 0, .int 0, .int 0, .int 0, .int 0, .int 0]))]) s.heap.size = A at hD ⊢
  have hA : ∀ q : Nat, s.heap.size ≤ q → A q := fun q h => by rw [← hAe]; exact Or.inr h
  have hS : va_S A s.heap s.heap [] := va_S.rf
  have hl := lv_entry ([.ref h0, .int x1] : List Value) (n := 2) (Nat.le_of_ble_eq_true rfl)
  rw [lg_entry_eq]
  generalize (lg_sl ([.ref h0, .int x1] : List Value) ++ List.replicate (2 - (lg_sl ([.ref h0, .int x1] : List Value)).length) Slot.unset).toArray = ls at hl ⊢
  have hl : lv_has ls 2 [(0, .ref h0), (1, .int x1)] := hl
  refine lv_aload_n hx hb d_P_init_0 rfl (lv_at hl 0 rfl) ?_
  refine W.objInit hx hb hown (hG _ gm_124) (hG _ gm_91) (hG _ gm_92) rfl (by rw [hml]; exact hl.1) rfl d_P_init_1 (Nat.le_of_ble_eq_true rfl) (Nat.le_of_ble_eq_true rfl) ?_
  refine W.eq (g2 := F0 m 4 ls []) rfl ?_
  refine lv_aload_n hx hb d_P_init_4 rfl (lv_at hl 0 rfl) ?_
  refine lv_sipush (v := 128) hx hb d_P_init_5 (by decide) ?_
  refine g_newa (X := X) (L := [(h0, .inr (0, [.int 0, .null, .null, .null, .int 0, .int 0, .int 0, .int 0, .int 0, .int 0, .int 0, .int 0]))]) (N := 128) hx hb hG hK hP hD hS hA (by decide) (by decide) (by decide) (Nat.le_of_ble_eq_true rfl) (by show 0 + 128 ≤ 168; omega) d_P_init_8 (fun q8 H hP hD hS => ?_)
  have hP : va_P (eD E) classes (X ++ [(h0, .inr (0, [.int 0, .null, .null, .null, .int 0, .int 0, .int 0, .int 0, .int 0, .int 0, .int 0, .int 0])), (q8, .inl (eC E 0, 128, .inl (fun _ => 0)))]) H := hP
  have hD : va_D A (X ++ [(h0, .inr (0, [.int 0, .null, .null, .null, .int 0, .int 0, .int 0, .int 0, .int 0, .int 0, .int 0, .int 0])), (q8, .inl (eC E 0, 128, .inl (fun _ => 0)))]) := hD
  refine g_putXF (X := X) (L := [(h0, .inr (0, [.int 0, .null, .null, .null, .int 0, .int 0, .int 0, .int 0, .int 0, .int 0, .int 0, .int 0])), (q8, .inl (eC E 0, 128, .inl (fun _ => 0)))]) (own := R_P) (T := F_P) (N := 12) (ci := 0) (v := .ref q8) (ty := (.array .int)) 0 hx hb hG in_us_P t_P t_P_ok n_P hown hK hP hD hS rfl rfl 1 (by decide) gm_127 rfl rfl hin (by decide +kernel) rfl rfl (Nat.le_of_ble_eq_true rfl) d_P_init_10 (fun H locs hP hD hS => ?_)
  have hP : va_P (eD E) classes (X ++ [(h0, .inr (0, [.int 0, .ref q8, .null, .null, .int 0, .int 0, .int 0, .int 0, .int 0, .int 0, .int 0, .int 0])), (q8, .inl (eC E 0, 128, .inl (fun _ => 0)))]) H := hP
  have hD : va_D A (X ++ [(h0, .inr (0, [.int 0, .ref q8, .null, .null, .int 0, .int 0, .int 0, .int 0, .int 0, .int 0, .int 0, .int 0])), (q8, .inl (eC E 0, 128, .inl (fun _ => 0)))]) := hD
  refine lv_aload_n hx hb d_P_init_13 rfl (lv_at hl 0 rfl) ?_
  refine lv_bipush (v := 32) hx hb d_P_init_14 (by decide) ?_
  refine g_newa (X := X) (L := [(h0, .inr (0, [.int 0, .ref q8, .null, .null, .int 0, .int 0, .int 0, .int 0, .int 0, .int 0, .int 0, .int 0])), (q8, .inl (eC E 0, 128, .inl (fun _ => 0)))]) (N := 32) hx hb hG hK hP hD hS hA (by decide) (by decide) (by decide) (Nat.le_of_ble_eq_true rfl) (by show 0 + 128 + 32 ≤ 168; omega) d_P_init_16 (fun q16 H hP hD hS => ?_)
  have hP : va_P (eD E) classes (X ++ [(h0, .inr (0, [.int 0, .ref q8, .null, .null, .int 0, .int 0, .int 0, .int 0, .int 0, .int 0, .int 0, .int 0])), (q8, .inl (eC E 0, 128, .inl (fun _ => 0))), (q16, .inl (eC E 0, 32, .inl (fun _ => 0)))]) H := hP
  have hD : va_D A (X ++ [(h0, .inr (0, [.int 0, .ref q8, .null, .null, .int 0, .int 0, .int 0, .int 0, .int 0, .int 0, .int 0, .int 0])), (q8, .inl (eC E 0, 128, .inl (fun _ => 0))), (q16, .inl (eC E 0, 32, .inl (fun _ => 0)))]) := hD
  refine g_putXF (X := X) (L := [(h0, .inr (0, [.int 0, .ref q8, .null, .null, .int 0, .int 0, .int 0, .int 0, .int 0, .int 0, .int 0, .int 0])), (q8, .inl (eC E 0, 128, .inl (fun _ => 0))), (q16, .inl (eC E 0, 32, .inl (fun _ => 0)))]) (own := R_P) (T := F_P) (N := 12) (ci := 0) (v := .ref q16) (ty := (.array .int)) 0 hx hb hG in_us_P t_P t_P_ok n_P hown hK hP hD hS rfl rfl 2 (by decide) gm_129 rfl rfl hin (by decide +kernel) rfl rfl (Nat.le_of_ble_eq_true rfl) d_P_init_18 (fun H locs hP hD hS => ?_)
  have hP : va_P (eD E) classes (X ++ [(h0, .inr (0, [.int 0, .ref q8, .ref q16, .null, .int 0, .int 0, .int 0, .int 0, .int 0, .int 0, .int 0, .int 0])), (q8, .inl (eC E 0, 128, .inl (fun _ => 0))), (q16, .inl (eC E 0, 32, .inl (fun _ => 0)))]) H := hP
  have hD : va_D A (X ++ [(h0, .inr (0, [.int 0, .ref q8, .ref q16, .null, .int 0, .int 0, .int 0, .int 0, .int 0, .int 0, .int 0, .int 0])), (q8, .inl (eC E 0, 128, .inl (fun _ => 0))), (q16, .inl (eC E 0, 32, .inl (fun _ => 0)))]) := hD
  refine lv_aload_n hx hb d_P_init_21 rfl (lv_at hl 0 rfl) ?_
  refine lv_bipush (v := 8) hx hb d_P_init_22 (by decide) ?_
  refine g_newa (X := X) (L := [(h0, .inr (0, [.int 0, .ref q8, .ref q16, .null, .int 0, .int 0, .int 0, .int 0, .int 0, .int 0, .int 0, .int 0])), (q8, .inl (eC E 0, 128, .inl (fun _ => 0))), (q16, .inl (eC E 0, 32, .inl (fun _ => 0)))]) (N := 8) hx hb hG hK hP hD hS hA (by decide) (by decide) (by decide) (Nat.le_of_ble_eq_true rfl) (by show 0 + 128 + 32 + 8 ≤ 168; omega) d_P_init_24 (fun q24 H hP hD hS => ?_)
  have hP : va_P (eD E) classes (X ++ [(h0, .inr (0, [.int 0, .ref q8, .ref q16, .null, .int 0, .int 0, .int 0, .int 0, .int 0, .int 0, .int 0, .int 0])), (q8, .inl (eC E 0, 128, .inl (fun _ => 0))), (q16, .inl (eC E 0, 32, .inl (fun _ => 0))), (q24, .inl (eC E 0, 8, .inl (fun _ => 0)))]) H := hP
  have hD : va_D A (X ++ [(h0, .inr (0, [.int 0, .ref q8, .ref q16, .null, .int 0, .int 0, .int 0, .int 0, .int 0, .int 0, .int 0, .int 0])), (q8, .inl (eC E 0, 128, .inl (fun _ => 0))), (q16, .inl (eC E 0, 32, .inl (fun _ => 0))), (q24, .inl (eC E 0, 8, .inl (fun _ => 0)))]) := hD
  refine g_putXF (X := X) (L := [(h0, .inr (0, [.int 0, .ref q8, .ref q16, .null, .int 0, .int 0, .int 0, .int 0, .int 0, .int 0, .int 0, .int 0])), (q8, .inl (eC E 0, 128, .inl (fun _ => 0))), (q16, .inl (eC E 0, 32, .inl (fun _ => 0))), (q24, .inl (eC E 0, 8, .inl (fun _ => 0)))]) (own := R_P) (T := F_P) (N := 12) (ci := 0) (v := .ref q24) (ty := (.array .int)) 0 hx hb hG in_us_P t_P t_P_ok n_P hown hK hP hD hS rfl rfl 3 (by decide) gm_131 rfl rfl hin (by decide +kernel) rfl rfl (Nat.le_of_ble_eq_true rfl) d_P_init_26 (fun H locs hP hD hS => ?_)
  have hP : va_P (eD E) classes (X ++ [(h0, .inr (0, [.int 0, .ref q8, .ref q16, .ref q24, .int 0, .int 0, .int 0, .int 0, .int 0, .int 0, .int 0, .int 0])), (q8, .inl (eC E 0, 128, .inl (fun _ => 0))), (q16, .inl (eC E 0, 32, .inl (fun _ => 0))), (q24, .inl (eC E 0, 8, .inl (fun _ => 0)))]) H := hP
  have hD : va_D A (X ++ [(h0, .inr (0, [.int 0, .ref q8, .ref q16, .ref q24, .int 0, .int 0, .int 0, .int 0, .int 0, .int 0, .int 0, .int 0])), (q8, .inl (eC E 0, 128, .inl (fun _ => 0))), (q16, .inl (eC E 0, 32, .inl (fun _ => 0))), (q24, .inl (eC E 0, 8, .inl (fun _ => 0)))]) := hD
  refine lv_aload_n hx hb d_P_init_29 rfl (lv_at hl 0 rfl) ?_
  refine lv_iconst (v := 0) hx hb d_P_init_30 (by decide) ?_
  refine g_putX (X := X) (L := [(h0, .inr (0, [.int 0, .ref q8, .ref q16, .ref q24, .int 0, .int 0, .int 0, .int 0, .int 0, .int 0, .int 0, .int 0])), (q8, .inl (eC E 0, 128, .inl (fun _ => 0))), (q16, .inl (eC E 0, 32, .inl (fun _ => 0))), (q24, .inl (eC E 0, 8, .inl (fun _ => 0)))]) (own := R_P) (C := R_P) (T := F_P) (N := 12) (ci := 0) (v := .int 0) (ty := .int) 0 hx hb hG in_us_P t_P t_P_ok n_P hown hK hP hD hS rfl rfl 4 (by decide) gm_133 rfl rfl (by decide +kernel) rfl rfl (Nat.le_of_ble_eq_true rfl) d_P_init_31 (fun H locs hP hD hS => ?_)
  have hP : va_P (eD E) classes (X ++ [(h0, .inr (0, [.int 0, .ref q8, .ref q16, .ref q24, .int 0, .int 0, .int 0, .int 0, .int 0, .int 0, .int 0, .int 0])), (q8, .inl (eC E 0, 128, .inl (fun _ => 0))), (q16, .inl (eC E 0, 32, .inl (fun _ => 0))), (q24, .inl (eC E 0, 8, .inl (fun _ => 0)))]) H := hP
  have hD : va_D A (X ++ [(h0, .inr (0, [.int 0, .ref q8, .ref q16, .ref q24, .int 0, .int 0, .int 0, .int 0, .int 0, .int 0, .int 0, .int 0])), (q8, .inl (eC E 0, 128, .inl (fun _ => 0))), (q16, .inl (eC E 0, 32, .inl (fun _ => 0))), (q24, .inl (eC E 0, 8, .inl (fun _ => 0)))]) := hD
  refine lv_aload_n hx hb d_P_init_34 rfl (lv_at hl 0 rfl) ?_
  refine lv_iconst (v := 0) hx hb d_P_init_35 (by decide) ?_
  refine g_putX (X := X) (L := [(h0, .inr (0, [.int 0, .ref q8, .ref q16, .ref q24, .int 0, .int 0, .int 0, .int 0, .int 0, .int 0, .int 0, .int 0])), (q8, .inl (eC E 0, 128, .inl (fun _ => 0))), (q16, .inl (eC E 0, 32, .inl (fun _ => 0))), (q24, .inl (eC E 0, 8, .inl (fun _ => 0)))]) (own := R_P) (C := R_P) (T := F_P) (N := 12) (ci := 0) (v := .int 0) (ty := .int) 0 hx hb hG in_us_P t_P t_P_ok n_P hown hK hP hD hS rfl rfl 5 (by decide) gm_135 rfl rfl (by decide +kernel) rfl rfl (Nat.le_of_ble_eq_true rfl) d_P_init_36 (fun H locs hP hD hS => ?_)
  have hP : va_P (eD E) classes (X ++ [(h0, .inr (0, [.int 0, .ref q8, .ref q16, .ref q24, .int 0, .int 0, .int 0, .int 0, .int 0, .int 0, .int 0, .int 0])), (q8, .inl (eC E 0, 128, .inl (fun _ => 0))), (q16, .inl (eC E 0, 32, .inl (fun _ => 0))), (q24, .inl (eC E 0, 8, .inl (fun _ => 0)))]) H := hP
  have hD : va_D A (X ++ [(h0, .inr (0, [.int 0, .ref q8, .ref q16, .ref q24, .int 0, .int 0, .int 0, .int 0, .int 0, .int 0, .int 0, .int 0])), (q8, .inl (eC E 0, 128, .inl (fun _ => 0))), (q16, .inl (eC E 0, 32, .inl (fun _ => 0))), (q24, .inl (eC E 0, 8, .inl (fun _ => 0)))]) := hD
  refine lv_aload_n hx hb d_P_init_39 rfl (lv_at hl 0 rfl) ?_
  refine lv_iconst (v := -1) hx hb d_P_init_40 (by decide) ?_
  refine g_putX (X := X) (L := [(h0, .inr (0, [.int 0, .ref q8, .ref q16, .ref q24, .int 0, .int 0, .int 0, .int 0, .int 0, .int 0, .int 0, .int 0])), (q8, .inl (eC E 0, 128, .inl (fun _ => 0))), (q16, .inl (eC E 0, 32, .inl (fun _ => 0))), (q24, .inl (eC E 0, 8, .inl (fun _ => 0)))]) (own := R_P) (C := R_P) (T := F_P) (N := 12) (ci := 0) (v := .int (-1)) (ty := .int) 0 hx hb hG in_us_P t_P t_P_ok n_P hown hK hP hD hS rfl rfl 6 (by decide) gm_137 rfl rfl (by decide +kernel) rfl rfl (Nat.le_of_ble_eq_true rfl) d_P_init_41 (fun H locs hP hD hS => ?_)
  have hP : va_P (eD E) classes (X ++ [(h0, .inr (0, [.int 0, .ref q8, .ref q16, .ref q24, .int 0, .int 0, .int (-1), .int 0, .int 0, .int 0, .int 0, .int 0])), (q8, .inl (eC E 0, 128, .inl (fun _ => 0))), (q16, .inl (eC E 0, 32, .inl (fun _ => 0))), (q24, .inl (eC E 0, 8, .inl (fun _ => 0)))]) H := hP
  have hD : va_D A (X ++ [(h0, .inr (0, [.int 0, .ref q8, .ref q16, .ref q24, .int 0, .int 0, .int (-1), .int 0, .int 0, .int 0, .int 0, .int 0])), (q8, .inl (eC E 0, 128, .inl (fun _ => 0))), (q16, .inl (eC E 0, 32, .inl (fun _ => 0))), (q24, .inl (eC E 0, 8, .inl (fun _ => 0)))]) := hD
  refine lv_aload_n hx hb d_P_init_44 rfl (lv_at hl 0 rfl) ?_
  refine lv_iconst (v := 0) hx hb d_P_init_45 (by decide) ?_
  refine g_putX (X := X) (L := [(h0, .inr (0, [.int 0, .ref q8, .ref q16, .ref q24, .int 0, .int 0, .int (-1), .int 0, .int 0, .int 0, .int 0, .int 0])), (q8, .inl (eC E 0, 128, .inl (fun _ => 0))), (q16, .inl (eC E 0, 32, .inl (fun _ => 0))), (q24, .inl (eC E 0, 8, .inl (fun _ => 0)))]) (own := R_P) (C := R_P) (T := F_P) (N := 12) (ci := 0) (v := .int 0) (ty := .int) 0 hx hb hG in_us_P t_P t_P_ok n_P hown hK hP hD hS rfl rfl 7 (by decide) gm_139 rfl rfl (by decide +kernel) rfl rfl (Nat.le_of_ble_eq_true rfl) d_P_init_46 (fun H locs hP hD hS => ?_)
  have hP : va_P (eD E) classes (X ++ [(h0, .inr (0, [.int 0, .ref q8, .ref q16, .ref q24, .int 0, .int 0, .int (-1), .int 0, .int 0, .int 0, .int 0, .int 0])), (q8, .inl (eC E 0, 128, .inl (fun _ => 0))), (q16, .inl (eC E 0, 32, .inl (fun _ => 0))), (q24, .inl (eC E 0, 8, .inl (fun _ => 0)))]) H := hP
  have hD : va_D A (X ++ [(h0, .inr (0, [.int 0, .ref q8, .ref q16, .ref q24, .int 0, .int 0, .int (-1), .int 0, .int 0, .int 0, .int 0, .int 0])), (q8, .inl (eC E 0, 128, .inl (fun _ => 0))), (q16, .inl (eC E 0, 32, .inl (fun _ => 0))), (q24, .inl (eC E 0, 8, .inl (fun _ => 0)))]) := hD
  refine lv_aload_n hx hb d_P_init_49 rfl (lv_at hl 0 rfl) ?_
  refine lv_iconst (v := 0) hx hb d_P_init_50 (by decide) ?_
  refine g_putX (X := X) (L := [(h0, .inr (0, [.int 0, .ref q8, .ref q16, .ref q24, .int 0, .int 0, .int (-1), .int 0, .int 0, .int 0, .int 0, .int 0])), (q8, .inl (eC E 0, 128, .inl (fun _ => 0))), (q16, .inl (eC E 0, 32, .inl (fun _ => 0))), (q24, .inl (eC E 0, 8, .inl (fun _ => 0)))]) (own := R_P) (C := R_P) (T := F_P) (N := 12) (ci := 0) (v := .int 0) (ty := .int) 0 hx hb hG in_us_P t_P t_P_ok n_P hown hK hP hD hS rfl rfl 8 (by decide) gm_141 rfl rfl (by decide +kernel) rfl rfl (Nat.le_of_ble_eq_true rfl) d_P_init_51 (fun H locs hP hD hS => ?_)
  have hP : va_P (eD E) classes (X ++ [(h0, .inr (0, [.int 0, .ref q8, .ref q16, .ref q24, .int 0, .int 0, .int (-1), .int 0, .int 0, .int 0, .int 0, .int 0])), (q8, .inl (eC E 0, 128, .inl (fun _ => 0))), (q16, .inl (eC E 0, 32, .inl (fun _ => 0))), (q24, .inl (eC E 0, 8, .inl (fun _ => 0)))]) H := hP
  have hD : va_D A (X ++ [(h0, .inr (0, [.int 0, .ref q8, .ref q16, .ref q24, .int 0, .int 0, .int (-1), .int 0, .int 0, .int 0, .int 0, .int 0])), (q8, .inl (eC E 0, 128, .inl (fun _ => 0))), (q16, .inl (eC E 0, 32, .inl (fun _ => 0))), (q24, .inl (eC E 0, 8, .inl (fun _ => 0)))]) := hD
  refine lv_aload_n hx hb d_P_init_54 rfl (lv_at hl 0 rfl) ?_
  refine lv_iconst (v := 0) hx hb d_P_init_55 (by decide) ?_
  refine g_putX (X := X) (L := [(h0, .inr (0, [.int 0, .ref q8, .ref q16, .ref q24, .int 0, .int 0, .int (-1), .int 0, .int 0, .int 0, .int 0, .int 0])), (q8, .inl (eC E 0, 128, .inl (fun _ => 0))), (q16, .inl (eC E 0, 32, .inl (fun _ => 0))), (q24, .inl (eC E 0, 8, .inl (fun _ => 0)))]) (own := R_P) (C := R_P) (T := F_P) (N := 12) (ci := 0) (v := .int 0) (ty := .int) 0 hx hb hG in_us_P t_P t_P_ok n_P hown hK hP hD hS rfl rfl 9 (by decide) gm_143 rfl rfl (by decide +kernel) rfl rfl (Nat.le_of_ble_eq_true rfl) d_P_init_56 (fun H locs hP hD hS => ?_)
  have hP : va_P (eD E) classes (X ++ [(h0, .inr (0, [.int 0, .ref q8, .ref q16, .ref q24, .int 0, .int 0, .int (-1), .int 0, .int 0, .int 0, .int 0, .int 0])), (q8, .inl (eC E 0, 128, .inl (fun _ => 0))), (q16, .inl (eC E 0, 32, .inl (fun _ => 0))), (q24, .inl (eC E 0, 8, .inl (fun _ => 0)))]) H := hP
  have hD : va_D A (X ++ [(h0, .inr (0, [.int 0, .ref q8, .ref q16, .ref q24, .int 0, .int 0, .int (-1), .int 0, .int 0, .int 0, .int 0, .int 0])), (q8, .inl (eC E 0, 128, .inl (fun _ => 0))), (q16, .inl (eC E 0, 32, .inl (fun _ => 0))), (q24, .inl (eC E 0, 8, .inl (fun _ => 0)))]) := hD
  refine lv_aload_n hx hb d_P_init_59 rfl (lv_at hl 0 rfl) ?_
  refine lv_iconst (v := -1) hx hb d_P_init_60 (by decide) ?_
  refine g_putX (X := X) (L := [(h0, .inr (0, [.int 0, .ref q8, .ref q16, .ref q24, .int 0, .int 0, .int (-1), .int 0, .int 0, .int 0, .int 0, .int 0])), (q8, .inl (eC E 0, 128, .inl (fun _ => 0))), (q16, .inl (eC E 0, 32, .inl (fun _ => 0))), (q24, .inl (eC E 0, 8, .inl (fun _ => 0)))]) (own := R_P) (C := R_P) (T := F_P) (N := 12) (ci := 0) (v := .int (-1)) (ty := .int) 0 hx hb hG in_us_P t_P t_P_ok n_P hown hK hP hD hS rfl rfl 10 (by decide) gm_145 rfl rfl (by decide +kernel) rfl rfl (Nat.le_of_ble_eq_true rfl) d_P_init_61 (fun H locs hP hD hS => ?_)
  have hP : va_P (eD E) classes (X ++ [(h0, .inr (0, [.int 0, .ref q8, .ref q16, .ref q24, .int 0, .int 0, .int (-1), .int 0, .int 0, .int 0, .int (-1), .int 0])), (q8, .inl (eC E 0, 128, .inl (fun _ => 0))), (q16, .inl (eC E 0, 32, .inl (fun _ => 0))), (q24, .inl (eC E 0, 8, .inl (fun _ => 0)))]) H := hP
  have hD : va_D A (X ++ [(h0, .inr (0, [.int 0, .ref q8, .ref q16, .ref q24, .int 0, .int 0, .int (-1), .int 0, .int 0, .int 0, .int (-1), .int 0])), (q8, .inl (eC E 0, 128, .inl (fun _ => 0))), (q16, .inl (eC E 0, 32, .inl (fun _ => 0))), (q24, .inl (eC E 0, 8, .inl (fun _ => 0)))]) := hD
  refine lv_aload_n hx hb d_P_init_64 rfl (lv_at hl 0 rfl) ?_
  refine lv_iconst (v := 0) hx hb d_P_init_65 (by decide) ?_
  refine g_putX (X := X) (L := [(h0, .inr (0, [.int 0, .ref q8, .ref q16, .ref q24, .int 0, .int 0, .int (-1), .int 0, .int 0, .int 0, .int (-1), .int 0])), (q8, .inl (eC E 0, 128, .inl (fun _ => 0))), (q16, .inl (eC E 0, 32, .inl (fun _ => 0))), (q24, .inl (eC E 0, 8, .inl (fun _ => 0)))]) (own := R_P) (C := R_P) (T := F_P) (N := 12) (ci := 0) (v := .int 0) (ty := .int) 0 hx hb hG in_us_P t_P t_P_ok n_P hown hK hP hD hS rfl rfl 11 (by decide) gm_147 rfl rfl (by decide +kernel) rfl rfl (Nat.le_of_ble_eq_true rfl) d_P_init_66 (fun H locs hP hD hS => ?_)
  have hP : va_P (eD E) classes (X ++ [(h0, .inr (0, [.int 0, .ref q8, .ref q16, .ref q24, .int 0, .int 0, .int (-1), .int 0, .int 0, .int 0, .int (-1), .int 0])), (q8, .inl (eC E 0, 128, .inl (fun _ => 0))), (q16, .inl (eC E 0, 32, .inl (fun _ => 0))), (q24, .inl (eC E 0, 8, .inl (fun _ => 0)))]) H := hP
  have hD : va_D A (X ++ [(h0, .inr (0, [.int 0, .ref q8, .ref q16, .ref q24, .int 0, .int 0, .int (-1), .int 0, .int 0, .int 0, .int (-1), .int 0])), (q8, .inl (eC E 0, 128, .inl (fun _ => 0))), (q16, .inl (eC E 0, 32, .inl (fun _ => 0))), (q24, .inl (eC E 0, 8, .inl (fun _ => 0)))]) := hD
  refine lv_aload_n hx hb d_P_init_69 rfl (lv_at hl 0 rfl) ?_
  refine lv_iload_n hx hb d_P_init_70 rfl (lv_at hl 1 rfl) ?_
  refine g_putXF (X := X) (L := [(h0, .inr (0, [.int 0, .ref q8, .ref q16, .ref q24, .int 0, .int 0, .int (-1), .int 0, .int 0, .int 0, .int (-1), .int 0])), (q8, .inl (eC E 0, 128, .inl (fun _ => 0))), (q16, .inl (eC E 0, 32, .inl (fun _ => 0))), (q24, .inl (eC E 0, 8, .inl (fun _ => 0)))]) (own := R_P) (T := F_P) (N := 12) (ci := 0) (v := .int x1) (ty := .int) 0 hx hb hG in_us_P t_P t_P_ok n_P hown hK hP hD hS rfl rfl 0 (by decide) gm_125 rfl rfl hin (by decide +kernel) rfl rfl (Nat.le_of_ble_eq_true rfl) d_P_init_71 (fun H locs hP hD hS => ?_)
  have hP : va_P (eD E) classes (X ++ [(h0, .inr (0, [.int x1, .ref q8, .ref q16, .ref q24, .int 0, .int 0, .int (-1), .int 0, .int 0, .int 0, .int (-1), .int 0])), (q8, .inl (eC E 0, 128, .inl (fun _ => 0))), (q16, .inl (eC E 0, 32, .inl (fun _ => 0))), (q24, .inl (eC E 0, 8, .inl (fun _ => 0)))]) H := hP
  have hD : va_D A (X ++ [(h0, .inr (0, [.int x1, .ref q8, .ref q16, .ref q24, .int 0, .int 0, .int (-1), .int 0, .int 0, .int 0, .int (-1), .int 0])), (q8, .inl (eC E 0, 128, .inl (fun _ => 0))), (q16, .inl (eC E 0, 32, .inl (fun _ => 0))), (q24, .inl (eC E 0, 8, .inl (fun _ => 0)))]) := hD
  refine W.widen (k := 3) (n := 168) (by omega) (by omega) ?_
  exact W.vret hx hb hr (fun t ht hW => ⟨⟨(q8, q16, q24), rfl, trivial, by rw [ht]; exact hP, hD⟩, hS.F ht⟩) hS.2.2 d_P_init_74

def y_L_cell : MethodName := ⟨R_L, "cell", "([II)I"⟩
abbrev b_L_cell : ByteArray := method_2_code
def v_L_cell : List Cond := .code y_L_cell b_L_cell 2 (some .int) :: gG
def m_L_cell : Room := { frames := 0, cells := 0, slots := 0, locals := 0 }
theorem gm_241 : (.methodLink R_L 54 y_L_cell : Cond) ∈ gG := tb_tables_1_1 (List.mem_of_getElem? (i := 170) rfl) rfl
theorem gm_242 : (.static y_L_cell : Cond) ∈ gG := tb_tables_1_1 (List.mem_of_getElem? (i := 171) rfl) rfl
theorem gm_243 : (.code y_L_cell b_L_cell 2 (some .int) : Cond) ∈ gG := tb_tables_1_1 (List.mem_of_getElem? (i := 172) rfl) rfl
theorem d_L_cell_0 : decode b_L_cell 0 = .ok (.iload_n 1, 1) := by decide +kernel
theorem d_L_cell_1 : decode b_L_cell 1 = .ok (.aload_n 0, 1) := by decide +kernel
theorem d_L_cell_2 : decode b_L_cell 2 = .ok (.arraylength, 1) := by decide +kernel
theorem d_L_cell_3 : decode b_L_cell 3 = .ok (.if_icmp .ge 9, 3) := by decide +kernel
theorem d_L_cell_6 : decode b_L_cell 6 = .ok (.aload_n 0, 1) := by decide +kernel
theorem d_L_cell_7 : decode b_L_cell 7 = .ok (.iload_n 1, 1) := by decide +kernel
theorem d_L_cell_8 : decode b_L_cell 8 = .ok (.iaload, 1) := by decide +kernel
theorem d_L_cell_9 : decode b_L_cell 9 = .ok (.goto 4, 3) := by decide +kernel
theorem d_L_cell_12 : decode b_L_cell 12 = .ok (.iconst 0, 1) := by decide +kernel
theorem d_L_cell_13 : decode b_L_cell 13 = .ok (.ireturn, 1) := by decide +kernel
def cv (L : Nat) (xs : Nat → Int32) (j : Nat) : Int32 := if j < L then xs j else 0
theorem c_L_cell (l : Launch) (b L j : Nat) (xs : Nat → Int32) (hL : L ≤ 1538) (hj : j < 2) : Met l y_L_cell v_L_cell m_L_cell (va_Pc [.ref b, .int (nI j)] (fun U => va_X b L xs U U.heap)) (va_Qi (fun r (_ : Unit) => r = cv L xs j) (fun _ _ => True) (fun _ => False)) 0 0 (fun _ => False) := by
  refine Met.ofW (cc := b_L_cell) (maxL := 2) (ret := (some .int)) (by decide) rfl ?_
  intro p e s m args below meth c s₁ B hml hv
  obtain ⟨rfl, hXs⟩ := hv
  have hx := B.exec
  have hb := B.bytes
  have hr := B.returns
  have hlocks := B.notSynchronized
  have hS : va_S (fun _ : Nat => False) s.heap s.heap [] := va_S.rf
  have hbl : b < s.heap.size := by
    obtain ⟨scr, h1, -⟩ := hXs
    exact (Array.getElem?_eq_some_iff.mp h1).1
  have hl := lv_entry ([.ref b, .int (nI j)] : List Value) (n := 2) (Nat.le_of_ble_eq_true rfl)
  rw [lg_entry_eq]
  generalize (lg_sl ([.ref b, .int (nI j)] : List Value) ++ List.replicate (2 - (lg_sl ([.ref b, .int (nI j)] : List Value)).length) Slot.unset).toArray = ls at hl ⊢
  have hl : lv_has ls 2 [(0, .ref b), (1, .int (nI j))] := hl
  refine lv_iload_n hx hb d_L_cell_0 rfl (lv_at hl 1 rfl) ?_
  refine lv_aload_n hx hb d_L_cell_1 rfl (lv_at hl 0 rfl) ?_
  refine va_slen hx hb hXs hbl (fun h => h) hS d_L_cell_2 ?_
  refine lv_icmp_ge (tgt := 12) hx hb d_L_cell_3 rfl (fun hc => ?_) (fun hc => ?_)
  · have h : ¬ j < L := fun h => nI_ge h (by omega) hc
    refine lv_iconst (v := 0) hx hb d_L_cell_12 (by decide) ?_
    exact W.iret hx hb hr (fun t ht hW => ⟨⟨0, (), rfl, by unfold cv; rw [if_neg h], trivial⟩, hS.F ht⟩) hS.2.2 d_L_cell_13
  · have h : j < L := Nat.not_le.mp (fun h => hc (nI_le h (by omega)))
    refine lv_aload_n hx hb d_L_cell_6 rfl (lv_at hl 0 rfl) ?_
    refine lv_iload_n hx hb d_L_cell_7 rfl (lv_at hl 1 rfl) ?_
    refine va_sld hx hb hXs hbl (fun h => h) hS (vp_in_nI h (by omega)) d_L_cell_8 ?_
    rw [nI_clamp (by omega)]
    refine lv_goto (tgt := 13) hx hb d_L_cell_9 rfl ?_
    exact W.iret hx hb hr (fun t ht hW => ⟨⟨xs j, (), rfl, by unfold cv; rw [if_pos h], trivial⟩, hS.F ht⟩) hS.2.2 d_L_cell_13
section LC
variable {p : Program} {l : Launch} {e : Env} {R : Room} {s : State} {m : MethodId} {args : Array Value} {below : List Frame} {meth : Method} {c : Code} {H : Heap} {locs : List Loc} {cells slots : Nat} {Q : State → Prop}
variable {cc : ByteArray} {pc : Nat} {ls : Array Slot} {rest : List Value} {E : gE} {A : Nat → Prop} {ws : va_W}
theorem lc_cell {nL b L j : Nat} {xs : Nat → Int32} {c0 : Cond} (S : CallFix p m c cc nL s args (c0 :: gG) R_L) (hL : L ≤ 1538) (hj : j < 2) (hXs : va_X b L xs s s.heap) (hbl : b < s.heap.size) (hbA : ¬ A b) (hP : va_P (eD E) classes ws H) (hS : va_S A s.heap H locs) (hsz : ls.size = nL) (hW : (rest.map fun v => v.category).sum ≤ 8) (hdg : decode cc pc = .ok (.invokestatic 54, 3)) (hfr : 1 ≤ R.frames) (hlo : 21 ≤ R.locals) (h0 : cells ≤ R.cells ∧ slots ≤ R.slots)
    (kk : ∀ (H1 : Heap) (locs1 : List Loc), va_P (eD E) classes ws H1 → va_S A s.heap H1 locs1 → W p l e R s m args below meth c H1 locs1 cells slots Q (F0 m (pc + 3) ls (.int (cv L xs j) :: rest))) : W p l e R s m args below meth c H locs cells slots Q (F0 m pc ls (.int (nI j) :: .ref b :: rest)) := by
  refine va_calli (va_runS (As := [.ref b, .int (nI j)]) (rest := rest) S (c_L_cell l b L j xs hL hj) (va_cwS 2 S.2.2.2.2 (gi_S gm_241 gm_242 gm_71 gm_243) rfl rfl rfl (by decide +kernel) ⟨hfr, hlo⟩) ⟨fun a U g mk h => ⟨h.1, va_X.moved (u := U) (U := U.calling g mk a) (Vm.Alike.refl U.vm) h.2⟩, fun U hU hW => ⟨rfl, va_X.moved hW.alike (hXs.kept (by rw [hU]; exact hS.2.1 b hbl hbA))⟩⟩ rfl rfl hsz rfl (lv_room hW) hdg h0) hS (fun q _ h => h.elim) (fun q h => h.elim) (fun r u t H1 locs1 ht hvm hp hB hz hk hS1 => ?_)
  subst hp
  exact kk H1 locs1 (hP.kept (fun k q hq => hk q.1 (hP k q hq).lt (fun h => h))) hS1
theorem g_callIk {own : String} {index : Nat} {y : MethodName} {bytes : ByteArray} {maxL nL n mc ms bb : Nat} {vs Ts : List Cond} {rm : Room} {As st0 : List Value} {S : Type} {post : S → Prop} {B : S → va_W} (hoP : va_AO "PipeKernel$Proc" s) (hoW : va_AO "PipeKernel$Words" s)
    (S0 : CallFix p m c cc nL s args Ts own) (hM : iMk l y vs rm E (.ref bb :: As) ws S post B mc ms) (cw : CallB R s args own index y bytes maxL none vs rm mc ms n ∧ y.name = "<init>" ∧ (Cond.instanceMethod y).before args s = true) (hK : va_K (eD E) classes (eT E) s) (hP : va_P (eD E) classes ws H) (hD : va_D A ws) (hS : va_S A s.heap H locs) (hA : ∀ q, s.heap.size ≤ q → A q)
    (hn : As.length = n) (hsz : ls.size = nL) (hst : st0 = As.reverse ++ .ref bb :: rest) (hW : (rest.map fun v => v.category).sum ≤ 8) (hdg : decode cc pc = .ok (.invokespecial index, 3)) (hf : cells + mc ≤ R.cells ∧ slots + ms ≤ R.slots)
    (kk : ∀ (u : S) (H1 : Heap) (locs1 : List Loc), post u → va_P (eD E) classes (B u) H1 → va_D A (B u) → va_S A s.heap H1 locs1 → W p l e R s m args below meth c H1 locs1 (cells + mc) (slots + ms) Q (F0 m (pc + 3) ls rest)) : W p l e R s m args below meth c H locs cells slots Q (F0 m pc ls st0) := by
  have hAw := iA_of hD hA hS.1
  refine va_callv (va_runI S0 (hM H.size) cw ⟨iPk_blind, fun U hU hW => ⟨rfl, by rw [hU], by rw [hU]; exact hP, va_K.moved hW.alike hK, hD.self, va_AO.moved hW.alike hoP, va_AO.moved hW.alike hoW⟩⟩ rfl hn hsz hst (lv_room hW) hdg hf) hS (fun q _ h => hAw q h) hAw (fun u t H1 locs1 ht hvm hp hB hz hk hS1 => ?_)
  rw [ht] at hB
  exact kk u H1 locs1 hp hB.1 (hB.2.weaken (fun _ q _ h => hAw q.1 h)) hS1
end LC
theorem vp_left {D : va_G} {cl : List vw_C} {a b : va_W} {H : Heap} (h : va_P D cl (a ++ b) H) : va_P D cl a H := fun k q hk => h k q (by rw [List.getElem?_append_left (List.getElem?_eq_some_iff.mp hk).1]; exact hk)
theorem vp_right {D : va_G} {cl : List vw_C} {a b : va_W} {H : Heap} (h : va_P D cl (a ++ b) H) : va_P D cl b H := fun k q hk => h (a.length + k) q ((ap_get a b k).trans hk)
theorem vd_left {A : Nat → Prop} {a b : va_W} (h : va_D A (a ++ b)) : va_D A a := by
  have e : ∀ (k : Nat) (q : Nat × va_E), a[k]? = some q → (a ++ b)[k]? = some q := fun k q hk => by rw [List.getElem?_append_left (List.getElem?_eq_some_iff.mp hk).1]; exact hk
  exact ⟨fun i j p q hi hj hpq => h.1 i j p q (e i p hi) (e j q hj) hpq, fun k q hk => h.2 k q (e k q hk)⟩
theorem vd_right {A : Nat → Prop} {a b : va_W} (h : va_D A (a ++ b)) : va_D A b := by
  refine ⟨fun i j p q hi hj hpq => ?_, fun k q hk => h.2 (a.length + k) q ((ap_get a b k).trans hk)⟩
  have := h.1 (a.length + i) (a.length + j) p q ((ap_get a b i).trans hi) ((ap_get a b j).trans hj) hpq
  omega
theorem vd_cross {A : Nat → Prop} {a b : va_W} (h : va_D A (a ++ b)) : ∀ (i j : Nat) (p q : Nat × va_E), a[i]? = some p → b[j]? = some q → p.1 ≠ q.1 := by
  intro i j p q hi hj hpq
  have hl := (List.getElem?_eq_some_iff.mp hi).1
  have := h.1 i (a.length + j) p q (by rw [List.getElem?_append_left hl]; exact hi) ((ap_get a b j).trans hj) hpq
  omega
theorem vp_rep {D : va_G} {cl : List vw_C} {ws : va_W} {H : Heap} {k a : Nat} {e0 e : va_E} (hP : va_P D cl ws H) (hk : ws[k]? = some (a, e0)) (he : va_at D cl (a, e) H) : va_P D cl (ws.set k (a, e)) H := by
  intro j q hj
  by_cases hjk : j = k
  · subst hjk
    rw [List.getElem?_set_self (List.getElem?_eq_some_iff.mp hk).1] at hj
    cases hj
    exact he
  · rw [List.getElem?_set_ne (Ne.symm hjk)] at hj
    exact hP j q hj
theorem arrV_cg (cI : ClassId) {N : Nat} {f g : Nat → Value} (h : ∀ j, j < N → f j = g j) : arrV cI N f = arrV cI N g := by
  unfold arrV
  congr 1
  congr 1
  funext j
  exact h j.val j.isLt
/-- the addresses of both objects and of the array -/
def adr (g : Nat → Nat → Nat) (o qm : Nat) (u : Nat → Nat) : Nat → Nat → Nat := fun a b => if a = 50 then o else if a = 20 then qm else if 20 < a then u a else g a b
theorem gw_K {D : va_G} {C : Nat → ClassId} {g ad0 : Nat → Nat → Nat} {o qm tl tg N N0 : Nat} {u : Nat → Nat} {qv : Int32} : gw KK ((D, C), adr g o qm u, N, tl, tg) (fK0 qv) = (iL0 ((D, C), ad0, N0, tl, tg) g qv (fun j => some (g 1 j)) (fun j => some (g 5 j)) ++ (pB ((D, C), ad0, N0, tl, tg) g 16 ++ wB ((D, C), ad0, N0, tl, tg) g N 8)) ++ [(o, .inl (C 3, 1, .inr (.inl (fun _ => 0))))] := by
  unfold gw KK
  rw [List.map_append, List.map_append, List.map_append, List.map_flatMap, List.map_flatMap, List.append_assoc, List.append_assoc, List.append_assoc]
  refine congr (congrArg _ rfl) ?_
  rw [List.append_assoc]
  refine congr (congrArg _ (fm_eq (fun j _ => rfl))) ?_
  refine congr (congrArg _ (fm_eq (fun j hj => ?_))) rfl
  have hj : j < 8 := List.mem_range.mp hj
  have e1 : aL N 6 j = N := by unfold aL; rw [if_pos hj]; rfl
  show [(_, _), (_, Sum.inl (_, aL N 6 j, _))] = [(_, _), (_, _)]
  rw [e1]
  rfl

theorem gm_77 : (.initialized "java/lang/Throwable" : Cond) ∈ gG := tb_tables_1_1 (List.mem_of_getElem? (i := 6) rfl) rfl
theorem gm_86 : (.instantiable R_K 14 : Cond) ∈ gG := tb_tables_1_1 (List.mem_of_getElem? (i := 15) rfl) rfl
theorem gm_711 : (.instantiable R_M 28 : Cond) ∈ gG := tb_tables_1_3 (List.mem_of_getElem? (i := 160) rfl) rfl
theorem gm_1014 : (.arrayClass .long : Cond) ∈ gG := tb_tables_1_4 (List.mem_of_getElem? (i := 223) rfl) rfl
def fK0 (qv : Int32) : KS := fun a b => match a with
  | 0 => fun k => match k with
    | 0 => qv
    | _ => 0
  | 1 => fun k => match k with
    | 0 => nI b
    | 6 => -1
    | 10 => -1
    | _ => 0
  | _ => fun _ => 0
def fM0 (qv cv : Int32) : KS := fun a _ => match a with
  | 20 => fun k => match k with
    | 1 => qv
    | 2 => cv
    | _ => 0
  | _ => fun _ => 0
theorem le_cls {args : Array Value} {s : State} (hG : ∀ w ∈ gG, w.before args s = true) : ∃ D : va_G, ∀ (c : Nat) (q : vw_C), classes[c]? = some q → u_Kn s q.1 q.2.1 q.2.2 (D.1 c) (D.2 c) := by
  obtain ⟨c0, i0, h0⟩ := u_known (C := R_P) (T := F_P) (N := 12) hG in_us_P (hG _ gm_120)
  obtain ⟨c1, i1, h1⟩ := u_known (C := R_W) (T := F_W) (N := 3) hG in_us_W (hG _ gm_97)
  obtain ⟨c2, i2, h2⟩ := u_known (C := R_K) (T := F_K) (N := 14) hG in_us_K (hG _ gm_86)
  obtain ⟨c3, i3, h3⟩ := u_known (C := R_M) (T := F_M) (N := 28) hG in_us_M (hG _ gm_711)
  refine ⟨(fun c => match c with | 0 => c0 | 1 => c1 | 2 => c2 | _ => c3, fun c => match c with | 0 => i0 | 1 => i1 | 2 => i2 | _ => i3), ?_⟩
  intro c q hq
  have hc : c < 4 := (List.getElem?_eq_some_iff.mp hq).1
  rcases (show c = 0 ∨ c = 1 ∨ c = 2 ∨ c = 3 by omega) with rfl | rfl | rfl | rfl
  · cases hq; exact h0
  · cases hq; exact h1
  · cases hq; exact h2
  · cases hq; exact h3
theorem le_arrI {args : Array Value} {s : State} (h : (Cond.arrayClass .int).before args s = true) : ∃ cA : ClassId, ArrOfT s cA .int ∧ va_RA s cA .int := by
  obtain ⟨c, k, comp, h1, h2, h3⟩ := Cond.arrayClass_spec h
  exact ⟨c, fun n z => ⟨fun k h => (by cases h), k, h2, comp, h3⟩, h1⟩
theorem le_arrL {args : Array Value} {s : State} (h : (Cond.arrayClass .long).before args s = true) : ∃ cA : ClassId, ArrOfT s cA .long ∧ va_RA s cA .long := by
  obtain ⟨c, k, comp, h1, h2, h3⟩ := Cond.arrayClass_spec h
  exact ⟨c, fun n z => ⟨fun k h => (by cases h), k, h2, comp, h3⟩, h1⟩
theorem le_arrq {args : Array Value} {s : State} {C : String} (h : (Cond.arrayOver (.object C)).before args s = true) : ∃ cA : ClassId, ArrOfT s cA (.object C) ∧ va_RA s cA (.object C) := by
  obtain ⟨comp, c, k, h1, h2, h3, h4, h5⟩ := Cond.arrayOver_spec h
  exact ⟨c, fun n z => ⟨fun k h => (by cases h), k, h3, comp, h4⟩, k, comp, h3, h4, h1, h5⟩
theorem le_tL_1 : ∀ j, j < 42 → (Cond.eq (.elem (.static "PipeKernel" "LOOKS_AT" "[I") (.int (Int32.ofNat j))) (.int (tL j))) ∈ flatC (Jvm.Cond.and given_1 narrow_1) := by decide +kernel
theorem le_tL_2 : (Cond.eq (.length (.static "PipeKernel" "LOOKS_AT" "[I")) (.int 42)) ∈ flatC (Jvm.Cond.and given_1 narrow_1) := by decide +kernel
theorem le_tL_3 : (Cond.arrayOf (.static "PipeKernel" "LOOKS_AT" "[I") .int) ∈ flatC (Jvm.Cond.and given_1 narrow_1) := by decide +kernel
theorem le_tL {args : Array Value} {s : State} {A : Nat → Prop} (hA : ∀ a : Nat, a < s.heap.size → ¬ A a) (hts : ∀ w ∈ lw_tbl, w.before args s = true) (hgv : (Jvm.Cond.and given_1 narrow_1).before args s = true) : ∃ t : Nat, va_Z "PipeKernel" "LOOKS_AT" "[I" (.ref t) A s s.heap ∧ va_T .int t 42 (fun j => .int (tL j)) A s s.heap := by
  have hs := flat_of_before _ hgv
  obtain ⟨t, h1, h2⟩ := va_Tof (tm := .static "PipeKernel" "LOOKS_AT" "[I") (ty := .int) (N := 42) (f := fun j => .int (tL j)) (A := A) (by decide) (hs _ le_tL_3) (va_eqt (hs _ le_tL_2)) (fun j hj => va_eqt (hs _ (le_tL_1 j hj))) hA
  exact ⟨t, va_Zref (hts _ (List.mem_append_right _ (show _ ∈ tables_1 from List.mem_append_right _ (List.mem_append_left _ (List.mem_of_getElem? (i := 81) rfl : (.laysStatic "PipeKernel" "LOOKS_AT" "[I" : Cond) ∈ tables_1_2))))) (hts _ (List.mem_filter.mp gm_72).1) h1 hA, h2⟩
theorem le_tG_1 : ∀ j, j < 42 → (Cond.eq (.elem (.static "PipeKernel" "GROWS_BY" "[I") (.int (Int32.ofNat j))) (.int (tG j))) ∈ flatC (Jvm.Cond.and given_1 narrow_1) := by decide +kernel
theorem le_tG_2 : (Cond.eq (.length (.static "PipeKernel" "GROWS_BY" "[I")) (.int 42)) ∈ flatC (Jvm.Cond.and given_1 narrow_1) := by decide +kernel
theorem le_tG_3 : (Cond.arrayOf (.static "PipeKernel" "GROWS_BY" "[I") .int) ∈ flatC (Jvm.Cond.and given_1 narrow_1) := by decide +kernel
theorem le_tG {args : Array Value} {s : State} {A : Nat → Prop} (hA : ∀ a : Nat, a < s.heap.size → ¬ A a) (hts : ∀ w ∈ lw_tbl, w.before args s = true) (hgv : (Jvm.Cond.and given_1 narrow_1).before args s = true) : ∃ t : Nat, va_Z "PipeKernel" "GROWS_BY" "[I" (.ref t) A s s.heap ∧ va_T .int t 42 (fun j => .int (tG j)) A s s.heap := by
  have hs := flat_of_before _ hgv
  obtain ⟨t, h1, h2⟩ := va_Tof (tm := .static "PipeKernel" "GROWS_BY" "[I") (ty := .int) (N := 42) (f := fun j => .int (tG j)) (A := A) (by decide) (hs _ le_tG_3) (va_eqt (hs _ le_tG_2)) (fun j hj => va_eqt (hs _ (le_tG_1 j hj))) hA
  exact ⟨t, va_Zref (hts _ (List.mem_append_right _ (show _ ∈ tables_1 from List.mem_append_right _ (List.mem_append_left _ (List.mem_of_getElem? (i := 166) rfl : (.laysStatic "PipeKernel" "GROWS_BY" "[I" : Cond) ∈ tables_1_2))))) (hts _ (List.mem_filter.mp gm_72).1) h1 hA, h2⟩
theorem le_U : (Cond.isRef (.static "java/lang/Throwable" "UNASSIGNED_STACK" "[Ljava/lang/StackTraceElement;")) ∈ flatC (Jvm.Cond.and given_1 narrow_1) := by decide +kernel
theorem le_N : (Cond.isRef (.static "java/lang/Throwable" "SUPPRESSED_SENTINEL" "Ljava/util/List;")) ∈ flatC (Jvm.Cond.and given_1 narrow_1) := by decide +kernel
theorem le_Nc : ∀ q ∈ kNc, (Cond.not (.castable q.1 q.2)) ∈ flatC (Jvm.Cond.and given_1 narrow_1) := by decide +kernel
theorem le_Ca : ∀ q ∈ kCa, (Cond.castable q.1 q.2) ∈ lw_tbl := by decide +kernel
theorem le_De : ∀ x ∈ kDe, (Cond.declares x) ∈ lw_tbl := by decide +kernel
theorem le_St : ∀ q ∈ kStr, (Cond.stringRef "PipeKernel" q.1 q.2) ∈ lw_tbl := by decide +kernel
theorem le_kY {args : Array Value} {s : State} {A : Nat → Prop} {cK : ClassId} (hc : s.vm.findClass "PipeKernel" = some cK) (hA : ∀ a : Nat, a < s.heap.size → ¬ A a) (hts : ∀ w ∈ lw_tbl, w.before args s = true) (hgv : (Jvm.Cond.and given_1 narrow_1).before args s = true) : kY A s s.heap := by
  have hs := flat_of_before _ hgv
  refine ⟨fun q hq => ?_, vx_Zqof (hts _ (List.mem_append_right _ (show _ ∈ tables_1 from List.mem_append_left _ (List.mem_of_getElem? (i := 209) rfl : (.laysStatic "java/lang/Throwable" "UNASSIGNED_STACK" "[Ljava/lang/StackTraceElement;" : Cond) ∈ tables_1_1)))) (hts _ (List.mem_filter.mp gm_77).1) (hs _ le_U) hA, vx_Zqof (hts _ (List.mem_append_right _ (show _ ∈ tables_1 from List.mem_append_left _ (List.mem_of_getElem? (i := 211) rfl : (.laysStatic "java/lang/Throwable" "SUPPRESSED_SENTINEL" "Ljava/util/List;" : Cond) ∈ tables_1_1)))) (hts _ (List.mem_filter.mp gm_77).1) (hs _ le_N) hA, fun q hq => va_Nw.of rfl (hts _ (le_Ca q hq)), fun x hx => va_Nw.of rfl (hts _ (le_De x hx)), fun q hq => va_Nc.of (hs _ (le_Nc q hq))⟩
  have h := hts _ (le_St q hq)
  obtain ⟨k, cf, i, a, -, -, -, -, -, hev⟩ := Cond.stringRef_spec hc h
  exact ⟨a, vk_R.of h hev⟩
/-- all that the law's start gives: class numbers, array classes, the tables, what a throw needs -/
theorem le_all {args : Array Value} {s : State} {A : Nat → Prop} (hA : ∀ a : Nat, a < s.heap.size → ¬ A a) (hts : ∀ w ∈ lw_tbl, w.before args s = true) (hgv : (Jvm.Cond.and given_1 narrow_1).before args s = true) : ∃ (D : va_G) (C : Nat → ClassId) (tl tg : Nat), (∀ (ad : Nat → Nat → Nat) (N : Nat), va_K (eD ((D, C), ad, N, tl, tg)) classes (eT ((D, C), ad, N, tl, tg)) s ∧ kX ((D, C), ad, N, tl, tg) A s s.heap) ∧ kY A s s.heap ∧ va_AO "PipeKernel$Proc" s ∧ va_AO "PipeKernel$Words" s := by
  have hG : ∀ w ∈ gG, w.before args s = true := fun w h => hts w (List.mem_filter.mp h).1
  obtain ⟨D, hD⟩ := le_cls hG
  obtain ⟨c0, a0, b0⟩ := le_arrI (hG _ gm_113)
  obtain ⟨c1, a1, b1⟩ := le_arrq (hts _ (List.mem_append_right _ (show _ ∈ tables_1 from List.mem_append_left _ (List.mem_of_getElem? (i := 23) rfl : (.arrayOver (.object "PipeKernel$Proc") : Cond) ∈ tables_1_1))))
  obtain ⟨c2, a2, b2⟩ := le_arrq (hts _ (List.mem_append_right _ (show _ ∈ tables_1 from List.mem_append_left _ (List.mem_of_getElem? (i := 25) rfl : (.arrayOver (.object "PipeKernel$Words") : Cond) ∈ tables_1_1))))
  obtain ⟨c3, a3, b3⟩ := le_arrL (hG _ gm_1014)
  obtain ⟨tl, z1, y1⟩ := le_tL hA hts hgv
  obtain ⟨tg, z2, y2⟩ := le_tG hA hts hgv
  refine ⟨D, fun k => match k with | 0 => c0 | 1 => c1 | 2 => c2 | _ => c3, tl, tg, fun ad N => ⟨⟨hD, fun k q hk => ?_⟩, va_Nw.of rfl (hts _ (List.mem_append_right _ (show _ ∈ tables_1 from List.mem_append_right _ (List.mem_append_left _ (List.mem_of_getElem? (i := 80) rfl : (.fieldLinkNest "PipeKernel$Proc" 76 "PipeKernel" "LOOKS_AT" "[I" "PipeKernel" : Cond) ∈ tables_1_2))))), va_Nw.of rfl (hts _ (List.mem_append_right _ (show _ ∈ tables_1 from List.mem_append_right _ (List.mem_append_left _ (List.mem_of_getElem? (i := 165) rfl : (.fieldLinkNest "PipeKernel$Proc" 85 "PipeKernel" "GROWS_BY" "[I" "PipeKernel" : Cond) ∈ tables_1_2))))), z1, z2, y1, y2⟩, le_kY (hD 2 _ rfl).2.1 hA hts hgv, va_AO.of (hts _ (List.mem_append_right _ (show _ ∈ tables_1 from List.mem_append_left _ (List.mem_of_getElem? (i := 23) rfl : (.arrayOver (.object "PipeKernel$Proc") : Cond) ∈ tables_1_1)))), va_AO.of (hts _ (List.mem_append_right _ (show _ ∈ tables_1 from List.mem_append_left _ (List.mem_of_getElem? (i := 25) rfl : (.arrayOver (.object "PipeKernel$Words") : Cond) ∈ tables_1_1))))⟩
  have hc : k < 4 := (List.getElem?_eq_some_iff.mp hk).1
  rcases (show k = 0 ∨ k = 1 ∨ k = 2 ∨ k = 3 by omega) with rfl | rfl | rfl | rfl
  · cases hk; exact ⟨a0, b0⟩
  · cases hk; exact ⟨a1, b1⟩
  · cases hk; exact ⟨a2, b2⟩
  · cases hk; exact ⟨a3, b3⟩

theorem gm_80 : (.initialized "java/lang/IndexOutOfBoundsException" : Cond) ∈ gG := tb_tables_1_1 (List.mem_of_getElem? (i := 9) rfl) rfl
theorem gm_81 : (.initialized "java/lang/IllegalStateException" : Cond) ∈ gG := tb_tables_1_1 (List.mem_of_getElem? (i := 10) rfl) rfl
theorem gm_82 : (.initialized "java/lang/IllegalArgumentException" : Cond) ∈ gG := tb_tables_1_1 (List.mem_of_getElem? (i := 11) rfl) rfl
theorem gm_253 : (.classLink R_K 74 "java/lang/IndexOutOfBoundsException" : Cond) ∈ gG := tb_tables_1_1 (List.mem_of_getElem? (i := 182) rfl) rfl
theorem gm_321 : (.classLink R_K 81 "java/lang/IllegalStateException" : Cond) ∈ gG := tb_tables_1_2 (List.mem_of_getElem? (i := 10) rfl) rfl
theorem gm_352 : (.classLink R_K 96 "java/lang/IllegalArgumentException" : Cond) ∈ gG := tb_tables_1_2 (List.mem_of_getElem? (i := 41) rfl) rfl
def xN (n : Nat) : String := if n = 0 then "java/lang/IndexOutOfBoundsException" else if n = 1 then "java/lang/IllegalStateException" else "java/lang/IllegalArgumentException"
def kStr : List (Nat × String) := [(76, "no such place"), (83, "it was booted"), (98, "steps are 0 .. 40"), (111, "it is shut or full"), (125, "no such process"), (130, "what is 0 .. 5"), (132, "the process is not there"), (157, "no such process or word"), (162, "no such process or place"), (164, "below the queue\'s beginning"), (166, "no such process or descriptor"), (168, "no such pipe"), (174, "what is 0 .. 4"), (176, "no such word")]
def kCa : List (String × String) := [("java/lang/IndexOutOfBoundsException", "java/lang/IndexOutOfBoundsException"), ("java/lang/IllegalStateException", "java/lang/IllegalStateException"), ("java/lang/IllegalArgumentException", "java/lang/IllegalArgumentException")]
def kDe : List MethodName := [⟨"java/lang/RuntimeException", "<init>", "(Ljava/lang/String;)V"⟩, ⟨"java/lang/Exception", "<init>", "(Ljava/lang/String;)V"⟩, ⟨"java/lang/Throwable", "<init>", "(Ljava/lang/String;)V"⟩]
def kNc : List (String × String) := [("java/lang/IllegalStateException", "java/lang/IndexOutOfBoundsException"), ("java/lang/IllegalArgumentException", "java/lang/IndexOutOfBoundsException"), ("java/lang/IllegalStateException", "java/lang/IllegalArgumentException")]
def kY (A : Nat → Prop) (U : State) (H : Heap) : Prop := (∀ q ∈ kStr, ∃ sa : Nat, vk_R "PipeKernel" q.1 q.2 sa U) ∧ vx_Zq Bundle.tN "UNASSIGNED_STACK" Bundle.steD A U H ∧ vx_Zq Bundle.tN "SUPPRESSED_SENTINEL" Bundle.listD A U H ∧ (∀ q ∈ kCa, va_Nw (.castable q.1 q.2) U) ∧ (∀ x ∈ kDe, va_Nw (.declares x) U) ∧ ∀ q ∈ kNc, va_Nc q.1 q.2 U
theorem kY.go {A B : Nat → Prop} {s U : State} {H : Heap} {locs : List Loc} (h : kY A s s.heap) (hS : va_S A s.heap H locs) (hAB : ∀ q, B q → A q) (hW : s.WarmedH U.vm) : kY B U H := by
  obtain ⟨h1, h2, h3, h4, h5, h6⟩ := h
  exact ⟨fun q hq => by obtain ⟨sa, h⟩ := h1 q hq; exact ⟨sa, vk_R.warm hW h⟩, ((vx_Zq.moved hW.alike h2).kept hS.2.1).narrow hAB, ((vx_Zq.moved hW.alike h3).kept hS.2.1).narrow hAB, fun q hq => va_Nw.warmC hW (h4 q hq), fun x hx => va_Nw.warmD hW (h5 x hx), fun q hq => va_Nc.moved hW.alike (h6 q hq)⟩
theorem kY.vm {A : Nat → Prop} {U V : State} {H : Heap} (hv : U.vm = V.vm) (h : kY A U H) : kY A V H := by
  obtain ⟨h1, h2, h3, h4, h5, h6⟩ := h
  have ha : U.vm.Alike V.vm := by rw [hv]; exact Vm.Alike.refl _
  exact ⟨fun q hq => by obtain ⟨sa, h⟩ := h1 q hq; exact ⟨sa, vk_R.same hv.symm h⟩, vx_Zq.moved ha h2, vx_Zq.moved ha h3, fun q hq => va_Nw.same rfl hv (h4 q hq), fun x hx => va_Nw.same rfl hv (h5 x hx), fun q hq => va_Nc.moved ha (h6 q hq)⟩
def gXC (E : gE) (ks : List (Nat × Nat)) (A : Nat → Prop) (Ψ : Nat → KS → Prop) : String → State → State → Prop := vx_X (fun z : Nat × KS => z.1 < 3 ∧ Ψ z.1 z.2) (fun C z t => C = xN z.1 ∧ va_P (eD E) classes (gw ks E z.2) t.heap ∧ va_D A (gw ks E z.2)) A
def gPx (E : gE) (ks : List (Nat × Nat)) (sz : Nat) (av : List Value) (f : KS) : Array Value → State → Prop := va_Pc av (fun U => U.heap.size = sz ∧ gB E ks (gA E ks sz) f U U.heap ∧ kY (gA E ks sz) U U.heap)
def gXi (l : Launch) (y : MethodName) (ws : List Cond) (rm : Room) (E : gE) (ks : List (Nat × Nat)) (av : List Value) (f : KS) (Φ : Int32 → KS → Prop) (Ψ : Nat → KS → Prop) : Prop := ∀ sz : Nat, vx_Met l y ws rm (gPx E ks sz av f) (gQi E ks (gA E ks sz) Φ) (gXC E ks (gA E ks sz) Ψ) 1 6 (gA E ks sz)
def gXv (l : Launch) (y : MethodName) (ws : List Cond) (rm : Room) (E : gE) (ks : List (Nat × Nat)) (av : List Value) (f : KS) (Φ : KS → Prop) (Ψ : Nat → KS → Prop) : Prop := ∀ sz : Nat, vx_Met l y ws rm (gPx E ks sz av f) (gQv E ks (gA E ks sz) Φ) (gXC E ks (gA E ks sz) Ψ) 1 6 (gA E ks sz)
theorem gPx_blind {E : gE} {ks : List (Nat × Nat)} {sz : Nat} {av : List Value} {f : KS} : FrameBlind (gPx E ks sz av f) := by
  intro a U g mk h
  obtain ⟨h1, h2, ⟨hP, hK, hD, hX⟩, hY⟩ := h
  exact ⟨h1, h2, ⟨hP, va_K.moved (u := U) (U := U.calling g mk a) (Vm.Alike.refl U.vm) hK, hD, hX.vm (V := U.calling g mk a) rfl⟩, hY.vm (V := U.calling g mk a) rfl⟩
section KX
variable {p : Program} {l : Launch} {e : Env} {R : Room} {s : State} {m : MethodId} {args : Array Value} {below : List Frame} {meth : Method} {c : Code} {H : Heap} {locs : List Loc} {cells slots : Nat} {Q : State → Prop}
variable {cc : ByteArray} {pc : Nat} {ls : Array Slot} {rest : List Value} {E : gE} {ks : List (Nat × Nat)} {A : Nat → Prop} {f : KS}
theorem kxr_i {v : Int32} {Φ : Int32 → KS → Prop} {XC : String → State → State → Prop} (hexec : p.tables.exec = Jvm.exec) (hb : c.code = cc) (hr : meth.sig.returnType = some .int) (hV : gV E ks A f s H locs) (hK : va_K (eD E) classes (eT E) s) (hX : kX E A s s.heap) (hAe : A = gA E ks s.heap.size) (hΦ : Φ v f) (hdg : decode cc pc = .ok (.ireturn, 1)) (hlocks : meth.locks = false := by assumption) :
    W p l e R s m args below meth c H locs 0 0 (vx_MQ below (gQi E ks A Φ) XC args s 1 6 A) (F0 m pc ls [.int v]) :=
  vx_ret (W.widen (k := 1) (n := 6) (Nat.zero_le _) (Nat.zero_le _) (kr_i hexec hb hr hV hK hX hAe hΦ hdg hlocks))
theorem kxr_v {Φ : KS → Prop} {XC : String → State → State → Prop} (hexec : p.tables.exec = Jvm.exec) (hb : c.code = cc) (hr : meth.sig.returnType = none) (hV : gV E ks A f s H locs) (hK : va_K (eD E) classes (eT E) s) (hX : kX E A s s.heap) (hAe : A = gA E ks s.heap.size) (hΦ : Φ f) (hdg : decode cc pc = .ok (.return_, 1)) (hlocks : meth.locks = false := by assumption) :
    W p l e R s m args below meth c H locs 0 0 (vx_MQ below (gQv E ks A Φ) XC args s 1 6 A) (F0 m pc ls []) :=
  vx_ret (W.widen (k := 1) (n := 6) (Nat.zero_le _) (Nat.zero_le _) (kr_v hexec hb hr hV hK hX hAe hΦ hdg hlocks))
/-- the end of a throw -/
theorem kx_end {n : Nat} {Ψ : Nat → KS → Prop} (hn : n < 3) (hV : gV E ks A f s H locs) (hAe : A = gA E ks s.heap.size) (hw : Ψ n f) : ∀ t : State, s.vm.Alike t.vm → H.size ≤ t.heap.size → (∀ q : Nat, q < H.size → t.heap[q]? = H[q]?) → gXC E ks A Ψ (xN n) s t := by
  intro t _ hz hq
  refine ⟨(n, f), ⟨hn, hw⟩, ⟨rfl, hV.1.kept (fun k q hk => hq q.1 (hV.1 k q hk).lt), hV.2.1⟩, Nat.le_trans hV.2.2.1 hz, fun q h1 h2 => ?_⟩
  rw [hq q (Nat.lt_of_lt_of_le h1 hV.2.2.1)]
  exact hV.2.2.2.1 q h1 h2
theorem kx_hat {c0 : Cond} {L : List Cond} (hts : ∀ w ∈ c0 :: gG, w.before args s = true) (hY : kY A s s.heap) (h1 : ∀ w ∈ L.filter goodWord, w ∈ lw_tbl) (h2 : ∀ w ∈ L.filter (fun w => !goodWord w), (∃ q ∈ kCa, w = .castable q.1 q.2) ∨ ∃ x ∈ kDe, w = .declares x) : ∀ w ∈ L, w.before args s = true := by
  intro w hw
  by_cases g : goodWord w = true
  · exact hts w (List.mem_cons_of_mem _ (gG_of (h1 w (List.mem_filter.mpr ⟨hw, g⟩)) g))
  · rcases h2 w (List.mem_filter.mpr ⟨hw, by cases hg : goodWord w <;> simp_all⟩) with ⟨q, hq, rfl⟩ | ⟨x, hx, rfl⟩
    · exact va_Nw.use rfl (hY.2.2.2.1 q hq)
    · exact va_Nw.use rfl (hY.2.2.2.2.1 x hx)
end KX
section KZ
variable {p : Program} {l : Launch} {e : Env} {R : Room} {s : State} {m : MethodId} {args : Array Value} {below : List Frame} {meth : Method} {c : Code} {H : Heap} {locs : List Loc} {cells slots : Nat} {Q : State → Prop}
variable {cc : ByteArray} {pc : Nat} {ls : Array Slot} {rest : List Value} {E : gE} {A : Nat → Prop} {f : KS}
theorem xa_100_1 : ∀ w ∈ (vx_atS R_K 100 "java/lang/IllegalArgumentException" ["java/lang/RuntimeException", "java/lang/Exception"]).filter goodWord, w ∈ lw_tbl := by decide +kernel
theorem xa_100_2 : ∀ w ∈ (vx_atS R_K 100 "java/lang/IllegalArgumentException" ["java/lang/RuntimeException", "java/lang/Exception"]).filter (fun w => !goodWord w), (∃ q ∈ kCa, w = .castable q.1 q.2) ∨ ∃ x ∈ kDe, w = .declares x := by decide +kernel
theorem xa_100_3 : ∀ w ∈ (vx_atS R_K 100 "java/lang/IllegalArgumentException" ["java/lang/RuntimeException", "java/lang/Exception"]), vx_ot w = true := by decide +kernel
theorem xa_85_1 : ∀ w ∈ (vx_atS R_K 85 "java/lang/IllegalStateException" ["java/lang/RuntimeException", "java/lang/Exception"]).filter goodWord, w ∈ lw_tbl := by decide +kernel
theorem xa_85_2 : ∀ w ∈ (vx_atS R_K 85 "java/lang/IllegalStateException" ["java/lang/RuntimeException", "java/lang/Exception"]).filter (fun w => !goodWord w), (∃ q ∈ kCa, w = .castable q.1 q.2) ∨ ∃ x ∈ kDe, w = .declares x := by decide +kernel
theorem xa_85_3 : ∀ w ∈ (vx_atS R_K 85 "java/lang/IllegalStateException" ["java/lang/RuntimeException", "java/lang/Exception"]), vx_ot w = true := by decide +kernel
theorem xa_78_1 : ∀ w ∈ (vx_atS R_K 78 "java/lang/IndexOutOfBoundsException" ["java/lang/RuntimeException", "java/lang/Exception"]).filter goodWord, w ∈ lw_tbl := by decide +kernel
theorem xa_78_2 : ∀ w ∈ (vx_atS R_K 78 "java/lang/IndexOutOfBoundsException" ["java/lang/RuntimeException", "java/lang/Exception"]).filter (fun w => !goodWord w), (∃ q ∈ kCa, w = .castable q.1 q.2) ∨ ∃ x ∈ kDe, w = .declares x := by decide +kernel
theorem xa_78_3 : ∀ w ∈ (vx_atS R_K 78 "java/lang/IndexOutOfBoundsException" ["java/lang/RuntimeException", "java/lang/Exception"]), vx_ot w = true := by decide +kernel
theorem kx_K_96_98 {nL : Nat} {c0 : Cond} {Qc : Array Value → State → Outcome → State → Prop} {Ψ : Nat → KS → Prop} (hl0 : l.stackTraces = false) (hexec : p.tables.exec = Jvm.exec) (hb : c.code = cc) (hml : c.maxLocals = nL) (hsz : ls.size = nL) (hex : ∀ x ∈ c.exceptionTable.toList, False) (hts : ∀ w ∈ c0 :: gG, w.before args s = true) (hown : s.vm.findClass R_K = some m.cls) (hV : gV E KK A f s H locs) (hY : kY A s s.heap) (hAe : A = gA E KK s.heap.size) (hw : Ψ 2 f) (d0 : decode cc pc = .ok (.new 96, 3)) (d3 : decode cc (pc + 3) = .ok (.dup, 1)) (d4 : decode cc (pc + 4) = .ok (.ldc 98, 2)) (d6 : decode cc (pc + 6) = .ok (.invokespecial 100, 3)) (d9 : decode cc (pc + 9) = .ok (.athrow, 1)) (hfr : 5 < R.frames) (hlo : (rest.map fun v => v.category).sum + 82 ≤ R.locals) (hrc : 1 ≤ R.cells) (hrs : 6 ≤ R.slots) (hlocks : meth.locks = false := by assumption) :
    W p l e R s m args below meth c H locs 0 0 (vx_MQ below Qc (gXC E KK A Ψ) args s 1 6 A) (F0 m pc ls rest) := by
  obtain ⟨sa, hstr⟩ := hY.1 (98, "steps are 0 .. 40") (by decide +kernel)
  exact vx_throwS (own := R_K) (cls := "java/lang/IllegalArgumentException") (text := "steps are 0 .. 40") (names := ["java/lang/RuntimeException", "java/lang/Exception"]) (A := A) (sa := sa) hexec hb hl0 hown (by decide +kernel) (by decide +kernel) (hts _ (List.mem_cons_of_mem _ gm_352)) (hts _ (List.mem_cons_of_mem _ gm_82)) hstr (kx_hat hts hY xa_100_1 xa_100_2) (fun w hw => by
    rcases List.mem_cons.mp hw with rfl | hw
    · rfl
    · rcases List.mem_cons.mp hw with rfl | hw
      · rfl
      · exact xa_100_3 w hw) hY.2.1 hY.2.2.1 hV.2.2 (hsz.trans hml.symm) d0 d3 d4 d6 d9 (fun x hx => (hex x hx).elim) hfr hlo hrc hrs hlocks (kx_end (n := 2) (by decide) hV hAe hw) hV.2.2.2.2 (Nat.le_refl _) (Nat.le_refl _)
theorem kx_K_96_130 {nL : Nat} {c0 : Cond} {Qc : Array Value → State → Outcome → State → Prop} {Ψ : Nat → KS → Prop} (hl0 : l.stackTraces = false) (hexec : p.tables.exec = Jvm.exec) (hb : c.code = cc) (hml : c.maxLocals = nL) (hsz : ls.size = nL) (hex : ∀ x ∈ c.exceptionTable.toList, False) (hts : ∀ w ∈ c0 :: gG, w.before args s = true) (hown : s.vm.findClass R_K = some m.cls) (hV : gV E KK A f s H locs) (hY : kY A s s.heap) (hAe : A = gA E KK s.heap.size) (hw : Ψ 2 f) (d0 : decode cc pc = .ok (.new 96, 3)) (d3 : decode cc (pc + 3) = .ok (.dup, 1)) (d4 : decode cc (pc + 4) = .ok (.ldc 130, 2)) (d6 : decode cc (pc + 6) = .ok (.invokespecial 100, 3)) (d9 : decode cc (pc + 9) = .ok (.athrow, 1)) (hfr : 5 < R.frames) (hlo : (rest.map fun v => v.category).sum + 82 ≤ R.locals) (hrc : 1 ≤ R.cells) (hrs : 6 ≤ R.slots) (hlocks : meth.locks = false := by assumption) :
    W p l e R s m args below meth c H locs 0 0 (vx_MQ below Qc (gXC E KK A Ψ) args s 1 6 A) (F0 m pc ls rest) := by
  obtain ⟨sa, hstr⟩ := hY.1 (130, "what is 0 .. 5") (by decide +kernel)
  exact vx_throwS (own := R_K) (cls := "java/lang/IllegalArgumentException") (text := "what is 0 .. 5") (names := ["java/lang/RuntimeException", "java/lang/Exception"]) (A := A) (sa := sa) hexec hb hl0 hown (by decide +kernel) (by decide +kernel) (hts _ (List.mem_cons_of_mem _ gm_352)) (hts _ (List.mem_cons_of_mem _ gm_82)) hstr (kx_hat hts hY xa_100_1 xa_100_2) (fun w hw => by
    rcases List.mem_cons.mp hw with rfl | hw
    · rfl
    · rcases List.mem_cons.mp hw with rfl | hw
      · rfl
      · exact xa_100_3 w hw) hY.2.1 hY.2.2.1 hV.2.2 (hsz.trans hml.symm) d0 d3 d4 d6 d9 (fun x hx => (hex x hx).elim) hfr hlo hrc hrs hlocks (kx_end (n := 2) (by decide) hV hAe hw) hV.2.2.2.2 (Nat.le_refl _) (Nat.le_refl _)
theorem kx_K_96_174 {nL : Nat} {c0 : Cond} {Qc : Array Value → State → Outcome → State → Prop} {Ψ : Nat → KS → Prop} (hl0 : l.stackTraces = false) (hexec : p.tables.exec = Jvm.exec) (hb : c.code = cc) (hml : c.maxLocals = nL) (hsz : ls.size = nL) (hex : ∀ x ∈ c.exceptionTable.toList, False) (hts : ∀ w ∈ c0 :: gG, w.before args s = true) (hown : s.vm.findClass R_K = some m.cls) (hV : gV E KK A f s H locs) (hY : kY A s s.heap) (hAe : A = gA E KK s.heap.size) (hw : Ψ 2 f) (d0 : decode cc pc = .ok (.new 96, 3)) (d3 : decode cc (pc + 3) = .ok (.dup, 1)) (d4 : decode cc (pc + 4) = .ok (.ldc 174, 2)) (d6 : decode cc (pc + 6) = .ok (.invokespecial 100, 3)) (d9 : decode cc (pc + 9) = .ok (.athrow, 1)) (hfr : 5 < R.frames) (hlo : (rest.map fun v => v.category).sum + 82 ≤ R.locals) (hrc : 1 ≤ R.cells) (hrs : 6 ≤ R.slots) (hlocks : meth.locks = false := by assumption) :
    W p l e R s m args below meth c H locs 0 0 (vx_MQ below Qc (gXC E KK A Ψ) args s 1 6 A) (F0 m pc ls rest) := by
  obtain ⟨sa, hstr⟩ := hY.1 (174, "what is 0 .. 4") (by decide +kernel)
  exact vx_throwS (own := R_K) (cls := "java/lang/IllegalArgumentException") (text := "what is 0 .. 4") (names := ["java/lang/RuntimeException", "java/lang/Exception"]) (A := A) (sa := sa) hexec hb hl0 hown (by decide +kernel) (by decide +kernel) (hts _ (List.mem_cons_of_mem _ gm_352)) (hts _ (List.mem_cons_of_mem _ gm_82)) hstr (kx_hat hts hY xa_100_1 xa_100_2) (fun w hw => by
    rcases List.mem_cons.mp hw with rfl | hw
    · rfl
    · rcases List.mem_cons.mp hw with rfl | hw
      · rfl
      · exact xa_100_3 w hw) hY.2.1 hY.2.2.1 hV.2.2 (hsz.trans hml.symm) d0 d3 d4 d6 d9 (fun x hx => (hex x hx).elim) hfr hlo hrc hrs hlocks (kx_end (n := 2) (by decide) hV hAe hw) hV.2.2.2.2 (Nat.le_refl _) (Nat.le_refl _)
theorem kx_K_81_83 {nL : Nat} {c0 : Cond} {Qc : Array Value → State → Outcome → State → Prop} {Ψ : Nat → KS → Prop} (hl0 : l.stackTraces = false) (hexec : p.tables.exec = Jvm.exec) (hb : c.code = cc) (hml : c.maxLocals = nL) (hsz : ls.size = nL) (hex : ∀ x ∈ c.exceptionTable.toList, False) (hts : ∀ w ∈ c0 :: gG, w.before args s = true) (hown : s.vm.findClass R_K = some m.cls) (hV : gV E KK A f s H locs) (hY : kY A s s.heap) (hAe : A = gA E KK s.heap.size) (hw : Ψ 1 f) (d0 : decode cc pc = .ok (.new 81, 3)) (d3 : decode cc (pc + 3) = .ok (.dup, 1)) (d4 : decode cc (pc + 4) = .ok (.ldc 83, 2)) (d6 : decode cc (pc + 6) = .ok (.invokespecial 85, 3)) (d9 : decode cc (pc + 9) = .ok (.athrow, 1)) (hfr : 5 < R.frames) (hlo : (rest.map fun v => v.category).sum + 82 ≤ R.locals) (hrc : 1 ≤ R.cells) (hrs : 6 ≤ R.slots) (hlocks : meth.locks = false := by assumption) :
    W p l e R s m args below meth c H locs 0 0 (vx_MQ below Qc (gXC E KK A Ψ) args s 1 6 A) (F0 m pc ls rest) := by
  obtain ⟨sa, hstr⟩ := hY.1 (83, "it was booted") (by decide +kernel)
  exact vx_throwS (own := R_K) (cls := "java/lang/IllegalStateException") (text := "it was booted") (names := ["java/lang/RuntimeException", "java/lang/Exception"]) (A := A) (sa := sa) hexec hb hl0 hown (by decide +kernel) (by decide +kernel) (hts _ (List.mem_cons_of_mem _ gm_321)) (hts _ (List.mem_cons_of_mem _ gm_81)) hstr (kx_hat hts hY xa_85_1 xa_85_2) (fun w hw => by
    rcases List.mem_cons.mp hw with rfl | hw
    · rfl
    · rcases List.mem_cons.mp hw with rfl | hw
      · rfl
      · exact xa_85_3 w hw) hY.2.1 hY.2.2.1 hV.2.2 (hsz.trans hml.symm) d0 d3 d4 d6 d9 (fun x hx => (hex x hx).elim) hfr hlo hrc hrs hlocks (kx_end (n := 1) (by decide) hV hAe hw) hV.2.2.2.2 (Nat.le_refl _) (Nat.le_refl _)
theorem kx_K_81_111 {nL : Nat} {c0 : Cond} {Qc : Array Value → State → Outcome → State → Prop} {Ψ : Nat → KS → Prop} (hl0 : l.stackTraces = false) (hexec : p.tables.exec = Jvm.exec) (hb : c.code = cc) (hml : c.maxLocals = nL) (hsz : ls.size = nL) (hex : ∀ x ∈ c.exceptionTable.toList, False) (hts : ∀ w ∈ c0 :: gG, w.before args s = true) (hown : s.vm.findClass R_K = some m.cls) (hV : gV E KK A f s H locs) (hY : kY A s s.heap) (hAe : A = gA E KK s.heap.size) (hw : Ψ 1 f) (d0 : decode cc pc = .ok (.new 81, 3)) (d3 : decode cc (pc + 3) = .ok (.dup, 1)) (d4 : decode cc (pc + 4) = .ok (.ldc 111, 2)) (d6 : decode cc (pc + 6) = .ok (.invokespecial 85, 3)) (d9 : decode cc (pc + 9) = .ok (.athrow, 1)) (hfr : 5 < R.frames) (hlo : (rest.map fun v => v.category).sum + 82 ≤ R.locals) (hrc : 1 ≤ R.cells) (hrs : 6 ≤ R.slots) (hlocks : meth.locks = false := by assumption) :
    W p l e R s m args below meth c H locs 0 0 (vx_MQ below Qc (gXC E KK A Ψ) args s 1 6 A) (F0 m pc ls rest) := by
  obtain ⟨sa, hstr⟩ := hY.1 (111, "it is shut or full") (by decide +kernel)
  exact vx_throwS (own := R_K) (cls := "java/lang/IllegalStateException") (text := "it is shut or full") (names := ["java/lang/RuntimeException", "java/lang/Exception"]) (A := A) (sa := sa) hexec hb hl0 hown (by decide +kernel) (by decide +kernel) (hts _ (List.mem_cons_of_mem _ gm_321)) (hts _ (List.mem_cons_of_mem _ gm_81)) hstr (kx_hat hts hY xa_85_1 xa_85_2) (fun w hw => by
    rcases List.mem_cons.mp hw with rfl | hw
    · rfl
    · rcases List.mem_cons.mp hw with rfl | hw
      · rfl
      · exact xa_85_3 w hw) hY.2.1 hY.2.2.1 hV.2.2 (hsz.trans hml.symm) d0 d3 d4 d6 d9 (fun x hx => (hex x hx).elim) hfr hlo hrc hrs hlocks (kx_end (n := 1) (by decide) hV hAe hw) hV.2.2.2.2 (Nat.le_refl _) (Nat.le_refl _)
theorem kx_K_81_132 {nL : Nat} {c0 : Cond} {Qc : Array Value → State → Outcome → State → Prop} {Ψ : Nat → KS → Prop} (hl0 : l.stackTraces = false) (hexec : p.tables.exec = Jvm.exec) (hb : c.code = cc) (hml : c.maxLocals = nL) (hsz : ls.size = nL) (hex : ∀ x ∈ c.exceptionTable.toList, False) (hts : ∀ w ∈ c0 :: gG, w.before args s = true) (hown : s.vm.findClass R_K = some m.cls) (hV : gV E KK A f s H locs) (hY : kY A s s.heap) (hAe : A = gA E KK s.heap.size) (hw : Ψ 1 f) (d0 : decode cc pc = .ok (.new 81, 3)) (d3 : decode cc (pc + 3) = .ok (.dup, 1)) (d4 : decode cc (pc + 4) = .ok (.ldc 132, 2)) (d6 : decode cc (pc + 6) = .ok (.invokespecial 85, 3)) (d9 : decode cc (pc + 9) = .ok (.athrow, 1)) (hfr : 5 < R.frames) (hlo : (rest.map fun v => v.category).sum + 82 ≤ R.locals) (hrc : 1 ≤ R.cells) (hrs : 6 ≤ R.slots) (hlocks : meth.locks = false := by assumption) :
    W p l e R s m args below meth c H locs 0 0 (vx_MQ below Qc (gXC E KK A Ψ) args s 1 6 A) (F0 m pc ls rest) := by
  obtain ⟨sa, hstr⟩ := hY.1 (132, "the process is not there") (by decide +kernel)
  exact vx_throwS (own := R_K) (cls := "java/lang/IllegalStateException") (text := "the process is not there") (names := ["java/lang/RuntimeException", "java/lang/Exception"]) (A := A) (sa := sa) hexec hb hl0 hown (by decide +kernel) (by decide +kernel) (hts _ (List.mem_cons_of_mem _ gm_321)) (hts _ (List.mem_cons_of_mem _ gm_81)) hstr (kx_hat hts hY xa_85_1 xa_85_2) (fun w hw => by
    rcases List.mem_cons.mp hw with rfl | hw
    · rfl
    · rcases List.mem_cons.mp hw with rfl | hw
      · rfl
      · exact xa_85_3 w hw) hY.2.1 hY.2.2.1 hV.2.2 (hsz.trans hml.symm) d0 d3 d4 d6 d9 (fun x hx => (hex x hx).elim) hfr hlo hrc hrs hlocks (kx_end (n := 1) (by decide) hV hAe hw) hV.2.2.2.2 (Nat.le_refl _) (Nat.le_refl _)
theorem kx_K_74_76 {nL : Nat} {c0 : Cond} {Qc : Array Value → State → Outcome → State → Prop} {Ψ : Nat → KS → Prop} (hl0 : l.stackTraces = false) (hexec : p.tables.exec = Jvm.exec) (hb : c.code = cc) (hml : c.maxLocals = nL) (hsz : ls.size = nL) (hex : ∀ x ∈ c.exceptionTable.toList, False) (hts : ∀ w ∈ c0 :: gG, w.before args s = true) (hown : s.vm.findClass R_K = some m.cls) (hV : gV E KK A f s H locs) (hY : kY A s s.heap) (hAe : A = gA E KK s.heap.size) (hw : Ψ 0 f) (d0 : decode cc pc = .ok (.new 74, 3)) (d3 : decode cc (pc + 3) = .ok (.dup, 1)) (d4 : decode cc (pc + 4) = .ok (.ldc 76, 2)) (d6 : decode cc (pc + 6) = .ok (.invokespecial 78, 3)) (d9 : decode cc (pc + 9) = .ok (.athrow, 1)) (hfr : 5 < R.frames) (hlo : (rest.map fun v => v.category).sum + 82 ≤ R.locals) (hrc : 1 ≤ R.cells) (hrs : 6 ≤ R.slots) (hlocks : meth.locks = false := by assumption) :
    W p l e R s m args below meth c H locs 0 0 (vx_MQ below Qc (gXC E KK A Ψ) args s 1 6 A) (F0 m pc ls rest) := by
  obtain ⟨sa, hstr⟩ := hY.1 (76, "no such place") (by decide +kernel)
  exact vx_throwS (own := R_K) (cls := "java/lang/IndexOutOfBoundsException") (text := "no such place") (names := ["java/lang/RuntimeException", "java/lang/Exception"]) (A := A) (sa := sa) hexec hb hl0 hown (by decide +kernel) (by decide +kernel) (hts _ (List.mem_cons_of_mem _ gm_253)) (hts _ (List.mem_cons_of_mem _ gm_80)) hstr (kx_hat hts hY xa_78_1 xa_78_2) (fun w hw => by
    rcases List.mem_cons.mp hw with rfl | hw
    · rfl
    · rcases List.mem_cons.mp hw with rfl | hw
      · rfl
      · exact xa_78_3 w hw) hY.2.1 hY.2.2.1 hV.2.2 (hsz.trans hml.symm) d0 d3 d4 d6 d9 (fun x hx => (hex x hx).elim) hfr hlo hrc hrs hlocks (kx_end (n := 0) (by decide) hV hAe hw) hV.2.2.2.2 (Nat.le_refl _) (Nat.le_refl _)
theorem kx_K_74_125 {nL : Nat} {c0 : Cond} {Qc : Array Value → State → Outcome → State → Prop} {Ψ : Nat → KS → Prop} (hl0 : l.stackTraces = false) (hexec : p.tables.exec = Jvm.exec) (hb : c.code = cc) (hml : c.maxLocals = nL) (hsz : ls.size = nL) (hex : ∀ x ∈ c.exceptionTable.toList, False) (hts : ∀ w ∈ c0 :: gG, w.before args s = true) (hown : s.vm.findClass R_K = some m.cls) (hV : gV E KK A f s H locs) (hY : kY A s s.heap) (hAe : A = gA E KK s.heap.size) (hw : Ψ 0 f) (d0 : decode cc pc = .ok (.new 74, 3)) (d3 : decode cc (pc + 3) = .ok (.dup, 1)) (d4 : decode cc (pc + 4) = .ok (.ldc 125, 2)) (d6 : decode cc (pc + 6) = .ok (.invokespecial 78, 3)) (d9 : decode cc (pc + 9) = .ok (.athrow, 1)) (hfr : 5 < R.frames) (hlo : (rest.map fun v => v.category).sum + 82 ≤ R.locals) (hrc : 1 ≤ R.cells) (hrs : 6 ≤ R.slots) (hlocks : meth.locks = false := by assumption) :
    W p l e R s m args below meth c H locs 0 0 (vx_MQ below Qc (gXC E KK A Ψ) args s 1 6 A) (F0 m pc ls rest) := by
  obtain ⟨sa, hstr⟩ := hY.1 (125, "no such process") (by decide +kernel)
  exact vx_throwS (own := R_K) (cls := "java/lang/IndexOutOfBoundsException") (text := "no such process") (names := ["java/lang/RuntimeException", "java/lang/Exception"]) (A := A) (sa := sa) hexec hb hl0 hown (by decide +kernel) (by decide +kernel) (hts _ (List.mem_cons_of_mem _ gm_253)) (hts _ (List.mem_cons_of_mem _ gm_80)) hstr (kx_hat hts hY xa_78_1 xa_78_2) (fun w hw => by
    rcases List.mem_cons.mp hw with rfl | hw
    · rfl
    · rcases List.mem_cons.mp hw with rfl | hw
      · rfl
      · exact xa_78_3 w hw) hY.2.1 hY.2.2.1 hV.2.2 (hsz.trans hml.symm) d0 d3 d4 d6 d9 (fun x hx => (hex x hx).elim) hfr hlo hrc hrs hlocks (kx_end (n := 0) (by decide) hV hAe hw) hV.2.2.2.2 (Nat.le_refl _) (Nat.le_refl _)
theorem kx_K_74_157 {nL : Nat} {c0 : Cond} {Qc : Array Value → State → Outcome → State → Prop} {Ψ : Nat → KS → Prop} (hl0 : l.stackTraces = false) (hexec : p.tables.exec = Jvm.exec) (hb : c.code = cc) (hml : c.maxLocals = nL) (hsz : ls.size = nL) (hex : ∀ x ∈ c.exceptionTable.toList, False) (hts : ∀ w ∈ c0 :: gG, w.before args s = true) (hown : s.vm.findClass R_K = some m.cls) (hV : gV E KK A f s H locs) (hY : kY A s s.heap) (hAe : A = gA E KK s.heap.size) (hw : Ψ 0 f) (d0 : decode cc pc = .ok (.new 74, 3)) (d3 : decode cc (pc + 3) = .ok (.dup, 1)) (d4 : decode cc (pc + 4) = .ok (.ldc 157, 2)) (d6 : decode cc (pc + 6) = .ok (.invokespecial 78, 3)) (d9 : decode cc (pc + 9) = .ok (.athrow, 1)) (hfr : 5 < R.frames) (hlo : (rest.map fun v => v.category).sum + 82 ≤ R.locals) (hrc : 1 ≤ R.cells) (hrs : 6 ≤ R.slots) (hlocks : meth.locks = false := by assumption) :
    W p l e R s m args below meth c H locs 0 0 (vx_MQ below Qc (gXC E KK A Ψ) args s 1 6 A) (F0 m pc ls rest) := by
  obtain ⟨sa, hstr⟩ := hY.1 (157, "no such process or word") (by decide +kernel)
  exact vx_throwS (own := R_K) (cls := "java/lang/IndexOutOfBoundsException") (text := "no such process or word") (names := ["java/lang/RuntimeException", "java/lang/Exception"]) (A := A) (sa := sa) hexec hb hl0 hown (by decide +kernel) (by decide +kernel) (hts _ (List.mem_cons_of_mem _ gm_253)) (hts _ (List.mem_cons_of_mem _ gm_80)) hstr (kx_hat hts hY xa_78_1 xa_78_2) (fun w hw => by
    rcases List.mem_cons.mp hw with rfl | hw
    · rfl
    · rcases List.mem_cons.mp hw with rfl | hw
      · rfl
      · exact xa_78_3 w hw) hY.2.1 hY.2.2.1 hV.2.2 (hsz.trans hml.symm) d0 d3 d4 d6 d9 (fun x hx => (hex x hx).elim) hfr hlo hrc hrs hlocks (kx_end (n := 0) (by decide) hV hAe hw) hV.2.2.2.2 (Nat.le_refl _) (Nat.le_refl _)
theorem kx_K_74_162 {nL : Nat} {c0 : Cond} {Qc : Array Value → State → Outcome → State → Prop} {Ψ : Nat → KS → Prop} (hl0 : l.stackTraces = false) (hexec : p.tables.exec = Jvm.exec) (hb : c.code = cc) (hml : c.maxLocals = nL) (hsz : ls.size = nL) (hex : ∀ x ∈ c.exceptionTable.toList, False) (hts : ∀ w ∈ c0 :: gG, w.before args s = true) (hown : s.vm.findClass R_K = some m.cls) (hV : gV E KK A f s H locs) (hY : kY A s s.heap) (hAe : A = gA E KK s.heap.size) (hw : Ψ 0 f) (d0 : decode cc pc = .ok (.new 74, 3)) (d3 : decode cc (pc + 3) = .ok (.dup, 1)) (d4 : decode cc (pc + 4) = .ok (.ldc 162, 2)) (d6 : decode cc (pc + 6) = .ok (.invokespecial 78, 3)) (d9 : decode cc (pc + 9) = .ok (.athrow, 1)) (hfr : 5 < R.frames) (hlo : (rest.map fun v => v.category).sum + 82 ≤ R.locals) (hrc : 1 ≤ R.cells) (hrs : 6 ≤ R.slots) (hlocks : meth.locks = false := by assumption) :
    W p l e R s m args below meth c H locs 0 0 (vx_MQ below Qc (gXC E KK A Ψ) args s 1 6 A) (F0 m pc ls rest) := by
  obtain ⟨sa, hstr⟩ := hY.1 (162, "no such process or place") (by decide +kernel)
  exact vx_throwS (own := R_K) (cls := "java/lang/IndexOutOfBoundsException") (text := "no such process or place") (names := ["java/lang/RuntimeException", "java/lang/Exception"]) (A := A) (sa := sa) hexec hb hl0 hown (by decide +kernel) (by decide +kernel) (hts _ (List.mem_cons_of_mem _ gm_253)) (hts _ (List.mem_cons_of_mem _ gm_80)) hstr (kx_hat hts hY xa_78_1 xa_78_2) (fun w hw => by
    rcases List.mem_cons.mp hw with rfl | hw
    · rfl
    · rcases List.mem_cons.mp hw with rfl | hw
      · rfl
      · exact xa_78_3 w hw) hY.2.1 hY.2.2.1 hV.2.2 (hsz.trans hml.symm) d0 d3 d4 d6 d9 (fun x hx => (hex x hx).elim) hfr hlo hrc hrs hlocks (kx_end (n := 0) (by decide) hV hAe hw) hV.2.2.2.2 (Nat.le_refl _) (Nat.le_refl _)
theorem kx_K_74_164 {nL : Nat} {c0 : Cond} {Qc : Array Value → State → Outcome → State → Prop} {Ψ : Nat → KS → Prop} (hl0 : l.stackTraces = false) (hexec : p.tables.exec = Jvm.exec) (hb : c.code = cc) (hml : c.maxLocals = nL) (hsz : ls.size = nL) (hex : ∀ x ∈ c.exceptionTable.toList, False) (hts : ∀ w ∈ c0 :: gG, w.before args s = true) (hown : s.vm.findClass R_K = some m.cls) (hV : gV E KK A f s H locs) (hY : kY A s s.heap) (hAe : A = gA E KK s.heap.size) (hw : Ψ 0 f) (d0 : decode cc pc = .ok (.new 74, 3)) (d3 : decode cc (pc + 3) = .ok (.dup, 1)) (d4 : decode cc (pc + 4) = .ok (.ldc 164, 2)) (d6 : decode cc (pc + 6) = .ok (.invokespecial 78, 3)) (d9 : decode cc (pc + 9) = .ok (.athrow, 1)) (hfr : 5 < R.frames) (hlo : (rest.map fun v => v.category).sum + 82 ≤ R.locals) (hrc : 1 ≤ R.cells) (hrs : 6 ≤ R.slots) (hlocks : meth.locks = false := by assumption) :
    W p l e R s m args below meth c H locs 0 0 (vx_MQ below Qc (gXC E KK A Ψ) args s 1 6 A) (F0 m pc ls rest) := by
  obtain ⟨sa, hstr⟩ := hY.1 (164, "below the queue\'s beginning") (by decide +kernel)
  exact vx_throwS (own := R_K) (cls := "java/lang/IndexOutOfBoundsException") (text := "below the queue\'s beginning") (names := ["java/lang/RuntimeException", "java/lang/Exception"]) (A := A) (sa := sa) hexec hb hl0 hown (by decide +kernel) (by decide +kernel) (hts _ (List.mem_cons_of_mem _ gm_253)) (hts _ (List.mem_cons_of_mem _ gm_80)) hstr (kx_hat hts hY xa_78_1 xa_78_2) (fun w hw => by
    rcases List.mem_cons.mp hw with rfl | hw
    · rfl
    · rcases List.mem_cons.mp hw with rfl | hw
      · rfl
      · exact xa_78_3 w hw) hY.2.1 hY.2.2.1 hV.2.2 (hsz.trans hml.symm) d0 d3 d4 d6 d9 (fun x hx => (hex x hx).elim) hfr hlo hrc hrs hlocks (kx_end (n := 0) (by decide) hV hAe hw) hV.2.2.2.2 (Nat.le_refl _) (Nat.le_refl _)
theorem kx_K_74_166 {nL : Nat} {c0 : Cond} {Qc : Array Value → State → Outcome → State → Prop} {Ψ : Nat → KS → Prop} (hl0 : l.stackTraces = false) (hexec : p.tables.exec = Jvm.exec) (hb : c.code = cc) (hml : c.maxLocals = nL) (hsz : ls.size = nL) (hex : ∀ x ∈ c.exceptionTable.toList, False) (hts : ∀ w ∈ c0 :: gG, w.before args s = true) (hown : s.vm.findClass R_K = some m.cls) (hV : gV E KK A f s H locs) (hY : kY A s s.heap) (hAe : A = gA E KK s.heap.size) (hw : Ψ 0 f) (d0 : decode cc pc = .ok (.new 74, 3)) (d3 : decode cc (pc + 3) = .ok (.dup, 1)) (d4 : decode cc (pc + 4) = .ok (.ldc 166, 2)) (d6 : decode cc (pc + 6) = .ok (.invokespecial 78, 3)) (d9 : decode cc (pc + 9) = .ok (.athrow, 1)) (hfr : 5 < R.frames) (hlo : (rest.map fun v => v.category).sum + 82 ≤ R.locals) (hrc : 1 ≤ R.cells) (hrs : 6 ≤ R.slots) (hlocks : meth.locks = false := by assumption) :
    W p l e R s m args below meth c H locs 0 0 (vx_MQ below Qc (gXC E KK A Ψ) args s 1 6 A) (F0 m pc ls rest) := by
  obtain ⟨sa, hstr⟩ := hY.1 (166, "no such process or descriptor") (by decide +kernel)
  exact vx_throwS (own := R_K) (cls := "java/lang/IndexOutOfBoundsException") (text := "no such process or descriptor") (names := ["java/lang/RuntimeException", "java/lang/Exception"]) (A := A) (sa := sa) hexec hb hl0 hown (by decide +kernel) (by decide +kernel) (hts _ (List.mem_cons_of_mem _ gm_253)) (hts _ (List.mem_cons_of_mem _ gm_80)) hstr (kx_hat hts hY xa_78_1 xa_78_2) (fun w hw => by
    rcases List.mem_cons.mp hw with rfl | hw
    · rfl
    · rcases List.mem_cons.mp hw with rfl | hw
      · rfl
      · exact xa_78_3 w hw) hY.2.1 hY.2.2.1 hV.2.2 (hsz.trans hml.symm) d0 d3 d4 d6 d9 (fun x hx => (hex x hx).elim) hfr hlo hrc hrs hlocks (kx_end (n := 0) (by decide) hV hAe hw) hV.2.2.2.2 (Nat.le_refl _) (Nat.le_refl _)
theorem kx_K_74_168 {nL : Nat} {c0 : Cond} {Qc : Array Value → State → Outcome → State → Prop} {Ψ : Nat → KS → Prop} (hl0 : l.stackTraces = false) (hexec : p.tables.exec = Jvm.exec) (hb : c.code = cc) (hml : c.maxLocals = nL) (hsz : ls.size = nL) (hex : ∀ x ∈ c.exceptionTable.toList, False) (hts : ∀ w ∈ c0 :: gG, w.before args s = true) (hown : s.vm.findClass R_K = some m.cls) (hV : gV E KK A f s H locs) (hY : kY A s s.heap) (hAe : A = gA E KK s.heap.size) (hw : Ψ 0 f) (d0 : decode cc pc = .ok (.new 74, 3)) (d3 : decode cc (pc + 3) = .ok (.dup, 1)) (d4 : decode cc (pc + 4) = .ok (.ldc 168, 2)) (d6 : decode cc (pc + 6) = .ok (.invokespecial 78, 3)) (d9 : decode cc (pc + 9) = .ok (.athrow, 1)) (hfr : 5 < R.frames) (hlo : (rest.map fun v => v.category).sum + 82 ≤ R.locals) (hrc : 1 ≤ R.cells) (hrs : 6 ≤ R.slots) (hlocks : meth.locks = false := by assumption) :
    W p l e R s m args below meth c H locs 0 0 (vx_MQ below Qc (gXC E KK A Ψ) args s 1 6 A) (F0 m pc ls rest) := by
  obtain ⟨sa, hstr⟩ := hY.1 (168, "no such pipe") (by decide +kernel)
  exact vx_throwS (own := R_K) (cls := "java/lang/IndexOutOfBoundsException") (text := "no such pipe") (names := ["java/lang/RuntimeException", "java/lang/Exception"]) (A := A) (sa := sa) hexec hb hl0 hown (by decide +kernel) (by decide +kernel) (hts _ (List.mem_cons_of_mem _ gm_253)) (hts _ (List.mem_cons_of_mem _ gm_80)) hstr (kx_hat hts hY xa_78_1 xa_78_2) (fun w hw => by
    rcases List.mem_cons.mp hw with rfl | hw
    · rfl
    · rcases List.mem_cons.mp hw with rfl | hw
      · rfl
      · exact xa_78_3 w hw) hY.2.1 hY.2.2.1 hV.2.2 (hsz.trans hml.symm) d0 d3 d4 d6 d9 (fun x hx => (hex x hx).elim) hfr hlo hrc hrs hlocks (kx_end (n := 0) (by decide) hV hAe hw) hV.2.2.2.2 (Nat.le_refl _) (Nat.le_refl _)
theorem kx_K_74_176 {nL : Nat} {c0 : Cond} {Qc : Array Value → State → Outcome → State → Prop} {Ψ : Nat → KS → Prop} (hl0 : l.stackTraces = false) (hexec : p.tables.exec = Jvm.exec) (hb : c.code = cc) (hml : c.maxLocals = nL) (hsz : ls.size = nL) (hex : ∀ x ∈ c.exceptionTable.toList, False) (hts : ∀ w ∈ c0 :: gG, w.before args s = true) (hown : s.vm.findClass R_K = some m.cls) (hV : gV E KK A f s H locs) (hY : kY A s s.heap) (hAe : A = gA E KK s.heap.size) (hw : Ψ 0 f) (d0 : decode cc pc = .ok (.new 74, 3)) (d3 : decode cc (pc + 3) = .ok (.dup, 1)) (d4 : decode cc (pc + 4) = .ok (.ldc 176, 2)) (d6 : decode cc (pc + 6) = .ok (.invokespecial 78, 3)) (d9 : decode cc (pc + 9) = .ok (.athrow, 1)) (hfr : 5 < R.frames) (hlo : (rest.map fun v => v.category).sum + 82 ≤ R.locals) (hrc : 1 ≤ R.cells) (hrs : 6 ≤ R.slots) (hlocks : meth.locks = false := by assumption) :
    W p l e R s m args below meth c H locs 0 0 (vx_MQ below Qc (gXC E KK A Ψ) args s 1 6 A) (F0 m pc ls rest) := by
  obtain ⟨sa, hstr⟩ := hY.1 (176, "no such word") (by decide +kernel)
  exact vx_throwS (own := R_K) (cls := "java/lang/IndexOutOfBoundsException") (text := "no such word") (names := ["java/lang/RuntimeException", "java/lang/Exception"]) (A := A) (sa := sa) hexec hb hl0 hown (by decide +kernel) (by decide +kernel) (hts _ (List.mem_cons_of_mem _ gm_253)) (hts _ (List.mem_cons_of_mem _ gm_80)) hstr (kx_hat hts hY xa_78_1 xa_78_2) (fun w hw => by
    rcases List.mem_cons.mp hw with rfl | hw
    · rfl
    · rcases List.mem_cons.mp hw with rfl | hw
      · rfl
      · exact xa_78_3 w hw) hY.2.1 hY.2.2.1 hV.2.2 (hsz.trans hml.symm) d0 d3 d4 d6 d9 (fun x hx => (hex x hx).elim) hfr hlo hrc hrs hlocks (kx_end (n := 0) (by decide) hV hAe hw) hV.2.2.2.2 (Nat.le_refl _) (Nat.le_refl _)
end KZ

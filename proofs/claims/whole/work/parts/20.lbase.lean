/-! THE CLAIM OUT OF ONE WALK OF THE LAW'S BODY. Your part is whole_start (and what it stands on); all else here is the same for every law, but numbers. -/
def R_law : String := "PipeKernelLaw"
def lw_P (b : Addr) (xs : List Int32) (args : Array Value) (s : State) : Prop := args = #[.ref b] ∧ s.IntsAt b xs ∧ xs.length ≤ 1538 ∧ (Jvm.Cond.and given_1 narrow_1).before args s = true
def lw_Q (_ : Array Value) (s : State) (o : Outcome) (t : State) : Prop := o = .returned (some (.int 1)) ∧ Framed s o t [] 601024 7293000
def lw_Z (below : List Frame) (a : Array Value) (s : State) : State → Prop := fun t => ∃ o, t.status = .running ∧ Ended t below o ∧ lw_Q a s o t
/-- the law's own end, with 1 on the stack, nothing written that was there before, its room as the claim has it -/
theorem lw_ret {p : Program} {l : Launch} {e : Env} {s : State} {m : MethodId} {below : List Frame} {meth : Method} {c : Code} {b : Nat} (hx : p.tables.exec = Jvm.exec) (hb : c.code = code) (hr : meth.sig.returnType = ret) (hlocks : meth.locks = false) {pc : Nat} {H : Heap} {ls : Array Slot} (hdg : decode code pc = .ok (.ireturn, 1)) : W p l e room_1 s m #[Value.ref b] below meth c H [] 601024 7293000 (lw_Z below #[Value.ref b] s) (F0 m pc ls [.int 1]) := by
  intro T hT X
  obtain ⟨fs, hret, hrun, hended, hW, hframe⟩ := X.leave (v := some (.int 1)) (hlocks := hlocks) (fun h => by rw [hr] at h; cases h)
  have hmeth' : T.vm.method? m = some meth := X.method'
  refine ⟨T.setFrames fs, ?_, .returned (some (.int 1)), hrun, hended, rfl, ⟨_, rfl⟩, hW, hframe⟩
  jvm_step X.here [X.here.top, hx, hb, hdg, hmeth', hr, ret, narrow_b1]
  (try refine ⟨rfl, ?_⟩); (try refine ⟨rfl, ?_⟩)
  first | (intro acts; rw [hret _ acts rfl rfl rfl]) | rw [hret _ _ rfl rfl rfl]
  exact Steps.refl _
/-- what holds at the law's entry: the machine, the code, the tables' words (any of lw_tbl by 'hts w (by decide +kernel)'), the script of L ints xs at the cell b, what the Statement gives of the start (any of its parts by flat_of_before) -/
def lw_At (p : Program) (s : State) (m : MethodId) (meth : Method) (c : Code) (b L : Nat) (xs : Nat → Int32) : Prop :=
  p.tables.exec = Jvm.exec ∧ c.code = code ∧ meth.sig.returnType = ret ∧ c.maxLocals = 7 ∧ s.vm.findClass R_law = some m.cls ∧ (∀ w ∈ lw_tbl, w.before #[Value.ref b] s = true) ∧ va_X b L xs s s.heap ∧ b < s.heap.size ∧ meth.locks = false ∧ (Jvm.Cond.and given_1 narrow_1).before #[Value.ref b] s = true
theorem gm_71 : (.initialized "PipeKernelLaw" : Cond) ∈ gG := tb_tables_1_1 (List.mem_of_getElem? (i := 0) rfl) rfl
theorem gm_217 : (.methodLink R_L 84 y_K_shut : Cond) ∈ gG := tb_tables_1_1 (List.mem_of_getElem? (i := 146) rfl) rfl
theorem gm_218 : (.instanceMethod y_K_shut : Cond) ∈ gG := tb_tables_1_1 (List.mem_of_getElem? (i := 147) rfl) rfl
theorem gm_219 : (.selects R_K y_K_shut y_K_shut : Cond) ∈ gG := tb_tables_1_1 (List.mem_of_getElem? (i := 148) rfl) rfl
theorem gm_220 : (.code y_K_shut b_K_shut 1 (some .boolean) : Cond) ∈ gG := tb_tables_1_1 (List.mem_of_getElem? (i := 149) rfl) rfl
theorem gm_233 : (.methodLink R_L 89 y_K_time : Cond) ∈ gG := tb_tables_1_1 (List.mem_of_getElem? (i := 162) rfl) rfl
theorem gm_234 : (.instanceMethod y_K_time : Cond) ∈ gG := tb_tables_1_1 (List.mem_of_getElem? (i := 163) rfl) rfl
theorem gm_235 : (.selects R_K y_K_time y_K_time : Cond) ∈ gG := tb_tables_1_1 (List.mem_of_getElem? (i := 164) rfl) rfl
theorem gm_236 : (.code y_K_time b_K_time 1 (some .int) : Cond) ∈ gG := tb_tables_1_1 (List.mem_of_getElem? (i := 165) rfl) rfl
theorem gm_237 : (.methodLink R_L 115 y_K_outs : Cond) ∈ gG := tb_tables_1_1 (List.mem_of_getElem? (i := 166) rfl) rfl
theorem gm_238 : (.instanceMethod y_K_outs : Cond) ∈ gG := tb_tables_1_1 (List.mem_of_getElem? (i := 167) rfl) rfl
theorem gm_239 : (.selects R_K y_K_outs y_K_outs : Cond) ∈ gG := tb_tables_1_1 (List.mem_of_getElem? (i := 168) rfl) rfl
theorem gm_240 : (.code y_K_outs b_K_outs 1 (some .int) : Cond) ∈ gG := tb_tables_1_1 (List.mem_of_getElem? (i := 169) rfl) rfl
theorem gm_244 : (.methodLink R_L 65 y_L_load : Cond) ∈ gG := tb_tables_1_1 (List.mem_of_getElem? (i := 173) rfl) rfl
theorem gm_245 : (.static y_L_load : Cond) ∈ gG := tb_tables_1_1 (List.mem_of_getElem? (i := 174) rfl) rfl
theorem gm_246 : (.codeWith y_L_load b_L_load 4 (some .int) [(0, 6, 9, 13), (0, 6, 12, 15)] : Cond) ∈ gG := tb_tables_1_1 (List.mem_of_getElem? (i := 175) rfl) rfl
theorem gm_337 : (.methodLink R_L 73 y_L_boot : Cond) ∈ gG := tb_tables_1_2 (List.mem_of_getElem? (i := 26) rfl) rfl
theorem gm_338 : (.static y_L_boot : Cond) ∈ gG := tb_tables_1_2 (List.mem_of_getElem? (i := 27) rfl) rfl
theorem gm_339 : (.codeWith y_L_boot b_L_boot 2 (some .int) [(0, 4, 7, 15)] : Cond) ∈ gG := tb_tables_1_2 (List.mem_of_getElem? (i := 28) rfl) rfl
theorem gm_344 : (.methodLink R_L 77 y_L_run : Cond) ∈ gG := tb_tables_1_2 (List.mem_of_getElem? (i := 33) rfl) rfl
theorem gm_345 : (.static y_L_run : Cond) ∈ gG := tb_tables_1_2 (List.mem_of_getElem? (i := 34) rfl) rfl
theorem gm_346 : (.codeWith y_L_run b_L_run 4 (some .int) [(0, 9, 12, 24)] : Cond) ∈ gG := tb_tables_1_2 (List.mem_of_getElem? (i := 35) rfl) rfl
theorem gm_627 : (.methodLink R_L 81 y_L_feed : Cond) ∈ gG := tb_tables_1_3 (List.mem_of_getElem? (i := 76) rfl) rfl
theorem gm_628 : (.static y_L_feed : Cond) ∈ gG := tb_tables_1_3 (List.mem_of_getElem? (i := 77) rfl) rfl
theorem gm_629 : (.codeWith y_L_feed b_L_feed 4 (some .int) [(0, 9, 12, 15)] : Cond) ∈ gG := tb_tables_1_3 (List.mem_of_getElem? (i := 78) rfl) rfl
theorem gm_635 : (.methodLink R_L 93 y_L_state : Cond) ∈ gG := tb_tables_1_3 (List.mem_of_getElem? (i := 84) rfl) rfl
theorem gm_636 : (.static y_L_state : Cond) ∈ gG := tb_tables_1_3 (List.mem_of_getElem? (i := 85) rfl) rfl
theorem gm_637 : (.codeWith y_L_state b_L_state 4 (some .int) [(0, 9, 12, 13)] : Cond) ∈ gG := tb_tables_1_3 (List.mem_of_getElem? (i := 86) rfl) rfl
theorem gm_643 : (.methodLink R_L 96 y_L_about : Cond) ∈ gG := tb_tables_1_3 (List.mem_of_getElem? (i := 92) rfl) rfl
theorem gm_644 : (.static y_L_about : Cond) ∈ gG := tb_tables_1_3 (List.mem_of_getElem? (i := 93) rfl) rfl
theorem gm_645 : (.codeWith y_L_about b_L_about 5 (some .int) [(0, 10, 13, 13), (0, 10, 17, 24), (0, 10, 21, 15)] : Cond) ∈ gG := tb_tables_1_3 (List.mem_of_getElem? (i := 94) rfl) rfl
theorem gm_653 : (.methodLink R_L 100 y_L_stack : Cond) ∈ gG := tb_tables_1_3 (List.mem_of_getElem? (i := 102) rfl) rfl
theorem gm_654 : (.static y_L_stack : Cond) ∈ gG := tb_tables_1_3 (List.mem_of_getElem? (i := 103) rfl) rfl
theorem gm_655 : (.codeWith y_L_stack b_L_stack 5 (some .int) [(0, 10, 13, 13)] : Cond) ∈ gG := tb_tables_1_3 (List.mem_of_getElem? (i := 104) rfl) rfl
theorem gm_661 : (.methodLink R_L 103 y_L_memory : Cond) ∈ gG := tb_tables_1_3 (List.mem_of_getElem? (i := 110) rfl) rfl
theorem gm_662 : (.static y_L_memory : Cond) ∈ gG := tb_tables_1_3 (List.mem_of_getElem? (i := 111) rfl) rfl
theorem gm_663 : (.codeWith y_L_memory b_L_memory 5 (some .int) [(0, 10, 13, 13)] : Cond) ∈ gG := tb_tables_1_3 (List.mem_of_getElem? (i := 112) rfl) rfl
theorem gm_669 : (.methodLink R_L 106 y_L_queue : Cond) ∈ gG := tb_tables_1_3 (List.mem_of_getElem? (i := 118) rfl) rfl
theorem gm_670 : (.static y_L_queue : Cond) ∈ gG := tb_tables_1_3 (List.mem_of_getElem? (i := 119) rfl) rfl
theorem gm_671 : (.codeWith y_L_queue b_L_queue 4 (some .int) [(0, 9, 12, 13)] : Cond) ∈ gG := tb_tables_1_3 (List.mem_of_getElem? (i := 120) rfl) rfl
theorem gm_677 : (.methodLink R_L 109 y_L_descriptor : Cond) ∈ gG := tb_tables_1_3 (List.mem_of_getElem? (i := 126) rfl) rfl
theorem gm_678 : (.static y_L_descriptor : Cond) ∈ gG := tb_tables_1_3 (List.mem_of_getElem? (i := 127) rfl) rfl
theorem gm_679 : (.codeWith y_L_descriptor b_L_descriptor 5 (some .int) [(0, 10, 13, 13)] : Cond) ∈ gG := tb_tables_1_3 (List.mem_of_getElem? (i := 128) rfl) rfl
theorem gm_685 : (.methodLink R_L 112 y_L_pipe : Cond) ∈ gG := tb_tables_1_3 (List.mem_of_getElem? (i := 134) rfl) rfl
theorem gm_686 : (.static y_L_pipe : Cond) ∈ gG := tb_tables_1_3 (List.mem_of_getElem? (i := 135) rfl) rfl
theorem gm_687 : (.codeWith y_L_pipe b_L_pipe 5 (some .int) [(0, 10, 13, 13), (0, 10, 17, 24)] : Cond) ∈ gG := tb_tables_1_3 (List.mem_of_getElem? (i := 136) rfl) rfl
theorem gm_698 : (.methodLink R_L 119 y_L_out : Cond) ∈ gG := tb_tables_1_3 (List.mem_of_getElem? (i := 147) rfl) rfl
theorem gm_699 : (.static y_L_out : Cond) ∈ gG := tb_tables_1_3 (List.mem_of_getElem? (i := 148) rfl) rfl
theorem gm_700 : (.codeWith y_L_out b_L_out 4 (some .int) [(0, 9, 12, 13)] : Cond) ∈ gG := tb_tables_1_3 (List.mem_of_getElem? (i := 149) rfl) rfl
theorem gm_801 : (.methodLink R_L 69 y_M_thrown : Cond) ∈ gG := tb_tables_1_4 (List.mem_of_getElem? (i := 10) rfl) rfl
theorem gm_802 : (.instanceMethod y_M_thrown : Cond) ∈ gG := tb_tables_1_4 (List.mem_of_getElem? (i := 11) rfl) rfl
theorem gm_803 : (.selects R_M y_M_thrown y_M_thrown : Cond) ∈ gG := tb_tables_1_4 (List.mem_of_getElem? (i := 12) rfl) rfl
theorem gm_804 : (.code y_M_thrown b_M_thrown 1 (some .int) : Cond) ∈ gG := tb_tables_1_4 (List.mem_of_getElem? (i := 13) rfl) rfl
theorem gm_805 : (.methodLink R_L 68 y_M_load : Cond) ∈ gG := tb_tables_1_4 (List.mem_of_getElem? (i := 14) rfl) rfl
theorem gm_806 : (.instanceMethod y_M_load : Cond) ∈ gG := tb_tables_1_4 (List.mem_of_getElem? (i := 15) rfl) rfl
theorem gm_807 : (.selects R_M y_M_load y_M_load : Cond) ∈ gG := tb_tables_1_4 (List.mem_of_getElem? (i := 16) rfl) rfl
theorem gm_808 : (.code y_M_load b_M_load 3 none : Cond) ∈ gG := tb_tables_1_4 (List.mem_of_getElem? (i := 17) rfl) rfl
theorem gm_809 : (.methodLink R_L 76 y_M_boot : Cond) ∈ gG := tb_tables_1_4 (List.mem_of_getElem? (i := 18) rfl) rfl
theorem gm_810 : (.instanceMethod y_M_boot : Cond) ∈ gG := tb_tables_1_4 (List.mem_of_getElem? (i := 19) rfl) rfl
theorem gm_811 : (.selects R_M y_M_boot y_M_boot : Cond) ∈ gG := tb_tables_1_4 (List.mem_of_getElem? (i := 20) rfl) rfl
theorem gm_812 : (.code y_M_boot b_M_boot 2 none : Cond) ∈ gG := tb_tables_1_4 (List.mem_of_getElem? (i := 21) rfl) rfl
theorem gm_817 : (.methodLink R_L 80 y_M_run : Cond) ∈ gG := tb_tables_1_4 (List.mem_of_getElem? (i := 26) rfl) rfl
theorem gm_818 : (.instanceMethod y_M_run : Cond) ∈ gG := tb_tables_1_4 (List.mem_of_getElem? (i := 27) rfl) rfl
theorem gm_819 : (.selects R_M y_M_run y_M_run : Cond) ∈ gG := tb_tables_1_4 (List.mem_of_getElem? (i := 28) rfl) rfl
theorem gm_820 : (.code y_M_run b_M_run 3 (some .int) : Cond) ∈ gG := tb_tables_1_4 (List.mem_of_getElem? (i := 29) rfl) rfl
theorem gm_958 : (.methodLink R_L 83 y_M_feed : Cond) ∈ gG := tb_tables_1_4 (List.mem_of_getElem? (i := 167) rfl) rfl
theorem gm_959 : (.instanceMethod y_M_feed : Cond) ∈ gG := tb_tables_1_4 (List.mem_of_getElem? (i := 168) rfl) rfl
theorem gm_960 : (.selects R_M y_M_feed y_M_feed : Cond) ∈ gG := tb_tables_1_4 (List.mem_of_getElem? (i := 169) rfl) rfl
theorem gm_961 : (.code y_M_feed b_M_feed 2 (some .int) : Cond) ∈ gG := tb_tables_1_4 (List.mem_of_getElem? (i := 170) rfl) rfl
theorem gm_962 : (.methodLink R_L 88 y_M_shut : Cond) ∈ gG := tb_tables_1_4 (List.mem_of_getElem? (i := 171) rfl) rfl
theorem gm_963 : (.instanceMethod y_M_shut : Cond) ∈ gG := tb_tables_1_4 (List.mem_of_getElem? (i := 172) rfl) rfl
theorem gm_964 : (.selects R_M y_M_shut y_M_shut : Cond) ∈ gG := tb_tables_1_4 (List.mem_of_getElem? (i := 173) rfl) rfl
theorem gm_965 : (.code y_M_shut b_M_shut 2 (some .boolean) : Cond) ∈ gG := tb_tables_1_4 (List.mem_of_getElem? (i := 174) rfl) rfl
theorem gm_966 : (.methodLink R_L 92 y_M_time : Cond) ∈ gG := tb_tables_1_4 (List.mem_of_getElem? (i := 175) rfl) rfl
theorem gm_967 : (.instanceMethod y_M_time : Cond) ∈ gG := tb_tables_1_4 (List.mem_of_getElem? (i := 176) rfl) rfl
theorem gm_968 : (.selects R_M y_M_time y_M_time : Cond) ∈ gG := tb_tables_1_4 (List.mem_of_getElem? (i := 177) rfl) rfl
theorem gm_969 : (.code y_M_time b_M_time 1 (some .int) : Cond) ∈ gG := tb_tables_1_4 (List.mem_of_getElem? (i := 178) rfl) rfl
theorem gm_970 : (.methodLink R_L 95 y_M_state : Cond) ∈ gG := tb_tables_1_4 (List.mem_of_getElem? (i := 179) rfl) rfl
theorem gm_971 : (.instanceMethod y_M_state : Cond) ∈ gG := tb_tables_1_4 (List.mem_of_getElem? (i := 180) rfl) rfl
theorem gm_972 : (.selects R_M y_M_state y_M_state : Cond) ∈ gG := tb_tables_1_4 (List.mem_of_getElem? (i := 181) rfl) rfl
theorem gm_973 : (.code y_M_state b_M_state 2 (some .int) : Cond) ∈ gG := tb_tables_1_4 (List.mem_of_getElem? (i := 182) rfl) rfl
theorem gm_978 : (.methodLink R_L 99 y_M_about : Cond) ∈ gG := tb_tables_1_4 (List.mem_of_getElem? (i := 187) rfl) rfl
theorem gm_979 : (.instanceMethod y_M_about : Cond) ∈ gG := tb_tables_1_4 (List.mem_of_getElem? (i := 188) rfl) rfl
theorem gm_980 : (.selects R_M y_M_about y_M_about : Cond) ∈ gG := tb_tables_1_4 (List.mem_of_getElem? (i := 189) rfl) rfl
theorem gm_981 : (.code y_M_about b_M_about 5 (some .int) : Cond) ∈ gG := tb_tables_1_4 (List.mem_of_getElem? (i := 190) rfl) rfl
theorem gm_982 : (.methodLink R_L 102 y_M_stack : Cond) ∈ gG := tb_tables_1_4 (List.mem_of_getElem? (i := 191) rfl) rfl
theorem gm_983 : (.instanceMethod y_M_stack : Cond) ∈ gG := tb_tables_1_4 (List.mem_of_getElem? (i := 192) rfl) rfl
theorem gm_984 : (.selects R_M y_M_stack y_M_stack : Cond) ∈ gG := tb_tables_1_4 (List.mem_of_getElem? (i := 193) rfl) rfl
theorem gm_985 : (.code y_M_stack b_M_stack 3 (some .int) : Cond) ∈ gG := tb_tables_1_4 (List.mem_of_getElem? (i := 194) rfl) rfl
theorem gm_990 : (.methodLink R_L 105 y_M_memory : Cond) ∈ gG := tb_tables_1_4 (List.mem_of_getElem? (i := 199) rfl) rfl
theorem gm_991 : (.instanceMethod y_M_memory : Cond) ∈ gG := tb_tables_1_4 (List.mem_of_getElem? (i := 200) rfl) rfl
theorem gm_992 : (.selects R_M y_M_memory y_M_memory : Cond) ∈ gG := tb_tables_1_4 (List.mem_of_getElem? (i := 201) rfl) rfl
theorem gm_993 : (.code y_M_memory b_M_memory 3 (some .int) : Cond) ∈ gG := tb_tables_1_4 (List.mem_of_getElem? (i := 202) rfl) rfl
theorem gm_994 : (.methodLink R_L 108 y_M_queue : Cond) ∈ gG := tb_tables_1_4 (List.mem_of_getElem? (i := 203) rfl) rfl
theorem gm_995 : (.instanceMethod y_M_queue : Cond) ∈ gG := tb_tables_1_4 (List.mem_of_getElem? (i := 204) rfl) rfl
theorem gm_996 : (.selects R_M y_M_queue y_M_queue : Cond) ∈ gG := tb_tables_1_4 (List.mem_of_getElem? (i := 205) rfl) rfl
theorem gm_997 : (.code y_M_queue b_M_queue 2 (some .int) : Cond) ∈ gG := tb_tables_1_4 (List.mem_of_getElem? (i := 206) rfl) rfl
theorem gm_998 : (.methodLink R_L 111 y_M_descriptor : Cond) ∈ gG := tb_tables_1_4 (List.mem_of_getElem? (i := 207) rfl) rfl
theorem gm_999 : (.instanceMethod y_M_descriptor : Cond) ∈ gG := tb_tables_1_4 (List.mem_of_getElem? (i := 208) rfl) rfl
theorem gm_1000 : (.selects R_M y_M_descriptor y_M_descriptor : Cond) ∈ gG := tb_tables_1_4 (List.mem_of_getElem? (i := 209) rfl) rfl
theorem gm_1001 : (.code y_M_descriptor b_M_descriptor 3 (some .int) : Cond) ∈ gG := tb_tables_1_4 (List.mem_of_getElem? (i := 210) rfl) rfl
theorem gm_1002 : (.methodLink R_L 114 y_M_pipe : Cond) ∈ gG := tb_tables_1_4 (List.mem_of_getElem? (i := 211) rfl) rfl
theorem gm_1003 : (.instanceMethod y_M_pipe : Cond) ∈ gG := tb_tables_1_4 (List.mem_of_getElem? (i := 212) rfl) rfl
theorem gm_1004 : (.selects R_M y_M_pipe y_M_pipe : Cond) ∈ gG := tb_tables_1_4 (List.mem_of_getElem? (i := 213) rfl) rfl
theorem gm_1005 : (.code y_M_pipe b_M_pipe 3 (some .int) : Cond) ∈ gG := tb_tables_1_4 (List.mem_of_getElem? (i := 214) rfl) rfl
theorem gm_1006 : (.methodLink R_L 118 y_M_outs : Cond) ∈ gG := tb_tables_1_4 (List.mem_of_getElem? (i := 215) rfl) rfl
theorem gm_1007 : (.instanceMethod y_M_outs : Cond) ∈ gG := tb_tables_1_4 (List.mem_of_getElem? (i := 216) rfl) rfl
theorem gm_1008 : (.selects R_M y_M_outs y_M_outs : Cond) ∈ gG := tb_tables_1_4 (List.mem_of_getElem? (i := 217) rfl) rfl
theorem gm_1009 : (.code y_M_outs b_M_outs 1 (some .int) : Cond) ∈ gG := tb_tables_1_4 (List.mem_of_getElem? (i := 218) rfl) rfl
theorem gm_1010 : (.methodLink R_L 121 y_M_out : Cond) ∈ gG := tb_tables_1_4 (List.mem_of_getElem? (i := 219) rfl) rfl
theorem gm_1011 : (.instanceMethod y_M_out : Cond) ∈ gG := tb_tables_1_4 (List.mem_of_getElem? (i := 220) rfl) rfl
theorem gm_1012 : (.selects R_M y_M_out y_M_out : Cond) ∈ gG := tb_tables_1_4 (List.mem_of_getElem? (i := 221) rfl) rfl
theorem gm_1013 : (.code y_M_out b_M_out 3 (some .int) : Cond) ∈ gG := tb_tables_1_4 (List.mem_of_getElem? (i := 222) rfl) rfl
theorem lw_n2 (j : Nat) : nI j + 2 = nI (j + 2) := nI_add j 2
section LB
variable {p : Program} {l : Launch} {e : Env} {R : Room} {s : State} {m : MethodId} {args : Array Value} {below : List Frame} {meth : Method} {c : Code} {H : Heap} {locs : List Loc} {cells slots : Nat} {Q : State → Prop}
variable {cc : ByteArray} {pc : Nat} {ls : Array Slot} {rest : List Value} {E : gE} {ks kt : List (Nat × Nat)} {A : Nat → Prop} {f f2 : KS}
def lAp (E : gE) (ks kt : List (Nat × Nat)) : Prop := ∀ x ∈ ks, ∀ y ∈ kt, ea E x.1 x.2 ≠ ea E y.1 y.2
theorem lAp.symm (h : lAp E ks kt) : lAp E kt ks := fun x hx y hy e => h y hy x hx e.symm
theorem lAg (hA : ∀ q, s.heap.size ≤ q → A q) (hV : gV E ks A f s H locs) : ∀ q, gA E ks H.size q → A q := by
  intro q h
  rcases h with ⟨x, hx, rfl⟩ | h
  · obtain ⟨k, hk⟩ := List.getElem?_of_mem hx
    exact hV.2.1.2 k _ (gw_pos hk)
  · exact hA q (Nat.le_trans hV.2.2.1 h)
theorem lk_keep {H1 : Heap} {locs1 : List Loc} (hap : lAp E ks kt) (hT : gV E kt A f2 s H locs) (hk : ∀ q : Nat, q < H.size → ¬ gA E ks H.size q → H1[q]? = H[q]?) (hS : va_S A s.heap H1 locs1) : gV E kt A f2 s H1 locs1 := by
  refine ⟨hT.1.kept (fun k q hq => ?_), hT.2.1, hS⟩
  have hl := (hT.1 k q hq).lt
  refine hk q.1 hl (fun h => ?_)
  have hq2 := hq
  unfold gw at hq2
  rw [List.getElem?_map] at hq2
  cases hy : kt[k]? with
  | none => rw [hy] at hq2; cases hq2
  | some y =>
    rw [hy] at hq2
    cases hq2
    rcases h with ⟨x, hx, he⟩ | h
    · exact hap x hx y (List.mem_of_getElem? hy) he.symm
    · exact absurd hl (Nat.not_lt.mpr h)
theorem lg_pre {av : List Value} (hA : ∀ q, s.heap.size ≤ q → A q) (hV : gV E ks A f s H locs) (hK : va_K (eD E) classes (eT E) s) (hX : kX E A s s.heap) : ∀ U : State, U.heap = H → s.WarmedH U.vm → gPc E ks H.size av f av.toArray U := by
  intro U hU hW
  refine ⟨rfl, by rw [hU], by rw [hU]; exact hV.1, va_K.moved hW.alike hK, gV_D (B := A) hV.2.1, ?_⟩
  rw [hU]
  exact hX.go hV.2.2 (lAg hA hV) hW
theorem lg_prex {av : List Value} (hA : ∀ q, s.heap.size ≤ q → A q) (hV : gV E ks A f s H locs) (hK : va_K (eD E) classes (eT E) s) (hX : kX E A s s.heap) (hY : kY A s s.heap) : ∀ U : State, U.heap = H → s.WarmedH U.vm → gPx E ks H.size av f av.toArray U := by
  intro U hU hW
  obtain ⟨h1, h2, h3⟩ := lg_pre (av := av) hA hV hK hX U hU hW
  refine ⟨h1, h2, h3, ?_⟩
  rw [hU]
  exact hY.go hV.2.2 (lAg hA hV) hW
theorem lg_back {t : State} {H1 : Heap} {locs1 : List Loc} {u : KS} (hAg : ∀ q, gA E ks H.size q → A q) (ht : t.heap = H1) (hB : gB E ks (gA E ks H.size) u t t.heap) (hS : va_S A s.heap H1 locs1) : gV E ks A u s H1 locs1 := by
  rw [ht] at hB
  exact ⟨hB.1, hB.2.2.1.weaken (fun _ q _ h => hAg q.1 h), hS⟩
theorem lc_H {index : Nat} {y : MethodName} {bytes : ByteArray} {maxL nL n : Nat} {ret : Option FieldType} {hh : List (Nat × Nat × Nat × Nat)} {ws Ts : List Cond} {rm : Room} {As st0 : List Value} {Φ : Int32 → KS → Prop}
    (S : CallFix p m c cc nL s args Ts R_L) (hM : gHi l y ws rm E As f Φ) (cw : vx_CSW R s args R_L index y bytes maxL ret hh ws rm 1 6 n) (hap : lAp E KK kt) (hA : ∀ q, s.heap.size ≤ q → A q) (hV : gV E KK A f s H locs) (hT : gV E kt A f2 s H locs) (hK : va_K (eD E) classes (eT E) s) (hX : kX E A s s.heap) (hY : kY A s s.heap)
    (hn : As.length = n) (hsz : ls.size = nL) (hst : st0 = As.reverse ++ rest) (hW : (rest.map fun v => v.category).sum ≤ 8) (hdg : decode cc pc = .ok (.invokestatic index, 3)) (h0 : cells + 1 ≤ R.cells ∧ slots + 6 ≤ R.slots)
    (kk : ∀ (r : Int32) (u : KS) (H1 : Heap) (locs1 : List Loc), Φ r u → gV E KK A u s H1 locs1 → gV E kt A f2 s H1 locs1 → W p l e R s m args below meth c H1 locs1 (cells + 1) (slots + 6) Q (F0 m (pc + 3) ls (.int r :: rest))) : W p l e R s m args below meth c H locs cells slots Q (F0 m pc ls st0) := by
  have hAg := lAg hA hV
  refine va_calli (vx_runSW S (hM H.size) cw ⟨gPx_blind, lg_prex hA hV hK hX hY⟩ rfl hn hsz hst (lv_room hW) hdg h0) hV.2.2 (fun q _ h => hAg q h) hAg (fun r u t H1 locs1 ht hvm hp hB hz hk hS => ?_)
  exact kk r u H1 locs1 hp (lg_back hAg ht hB hS) (lk_keep hap hT hk hS)
theorem lc_Vi {own C : String} {index : Nat} {y : MethodName} {bytes : ByteArray} {maxL nL n bb : Nat} {ret : Option FieldType} {ws Ts : List Cond} {rm : Room} {As st0 : List Value} {Φ : Int32 → KS → Prop}
    (S : CallFix p m c cc nL s args Ts own) (hM : gMi l y ws rm E ks (.ref bb :: As) f Φ) (cw : CallW R s args own C index y bytes maxL ret ws rm 0 0 n) (hap : lAp E ks kt) (hA : ∀ q, s.heap.size ≤ q → A q) (hV : gV E ks A f s H locs) (hT : gV E kt A f2 s H locs) (hK : va_K (eD E) classes (eT E) s) (hX : kX E A s s.heap)
    (hr : ∃ cell : Cell, H[bb]? = some cell ∧ cell.vm.isStatics = false ∧ s.vm.findClass C = some cell.cls) (hn : As.length = n) (hsz : ls.size = nL) (hst : st0 = As.reverse ++ .ref bb :: rest) (hW : (rest.map fun v => v.category).sum ≤ 8) (hdg : decode cc pc = .ok (.invokevirtual index, 3)) (h0 : cells ≤ R.cells ∧ slots ≤ R.slots)
    (kk : ∀ (r : Int32) (u : KS) (H1 : Heap) (locs1 : List Loc), Φ r u → gV E ks A u s H1 locs1 → gV E kt A f2 s H1 locs1 → W p l e R s m args below meth c H1 locs1 cells slots Q (F0 m (pc + 3) ls (.int r :: rest))) : W p l e R s m args below meth c H locs cells slots Q (F0 m pc ls st0) := by
  have hAg := lAg hA hV
  refine va_calli (va_runV S (hM H.size) cw ⟨gPc_blind, hr, lg_pre hA hV hK hX⟩ rfl hn hsz hst (lv_room hW) hdg h0) hV.2.2 (fun q _ h => hAg q h) hAg (fun r u t H1 locs1 ht hvm hp hB hz hk hS => ?_)
  exact kk r u H1 locs1 hp (lg_back hAg ht hB hS) (lk_keep hap hT hk hS)
theorem lc_Vv {own C : String} {index : Nat} {y : MethodName} {bytes : ByteArray} {maxL nL n bb : Nat} {ret : Option FieldType} {ws Ts : List Cond} {rm : Room} {As st0 : List Value} {Φ : KS → Prop}
    (S : CallFix p m c cc nL s args Ts own) (hM : gMv l y ws rm E ks (.ref bb :: As) f Φ) (cw : CallW R s args own C index y bytes maxL ret ws rm 0 0 n) (hap : lAp E ks kt) (hA : ∀ q, s.heap.size ≤ q → A q) (hV : gV E ks A f s H locs) (hT : gV E kt A f2 s H locs) (hK : va_K (eD E) classes (eT E) s) (hX : kX E A s s.heap)
    (hr : ∃ cell : Cell, H[bb]? = some cell ∧ cell.vm.isStatics = false ∧ s.vm.findClass C = some cell.cls) (hn : As.length = n) (hsz : ls.size = nL) (hst : st0 = As.reverse ++ .ref bb :: rest) (hW : (rest.map fun v => v.category).sum ≤ 8) (hdg : decode cc pc = .ok (.invokevirtual index, 3)) (h0 : cells ≤ R.cells ∧ slots ≤ R.slots)
    (kk : ∀ (u : KS) (H1 : Heap) (locs1 : List Loc), Φ u → gV E ks A u s H1 locs1 → gV E kt A f2 s H1 locs1 → W p l e R s m args below meth c H1 locs1 cells slots Q (F0 m (pc + 3) ls rest)) : W p l e R s m args below meth c H locs cells slots Q (F0 m pc ls st0) := by
  have hAg := lAg hA hV
  refine va_callv (va_runV S (hM H.size) cw ⟨gPc_blind, hr, lg_pre hA hV hK hX⟩ rfl hn hsz hst (lv_room hW) hdg h0) hV.2.2 (fun q _ h => hAg q h) hAg (fun u t H1 locs1 ht hvm hp hB hz hk hS => ?_)
  exact kk u H1 locs1 hp (lg_back hAg ht hB hS) (lk_keep hap hT hk hS)
end LB
theorem lg_cmp0 {x y : Int64} (h : x = y) : lg_cmp x y = 0 := by subst h; unfold lg_cmp; simp
theorem d_L_law_0 : decode code 0 = .ok (.new 8, 3) := by decide +kernel
theorem d_L_law_3 : decode code 3 = .ok (.dup, 1) := by decide +kernel
theorem d_L_law_4 : decode code 4 = .ok (.aload_n 0, 1) := by decide +kernel
theorem d_L_law_5 : decode code 5 = .ok (.iconst 0, 1) := by decide +kernel
theorem d_L_law_6 : decode code 6 = .ok (.invokestatic 54, 3) := by decide +kernel
theorem d_L_law_9 : decode code 9 = .ok (.aload_n 0, 1) := by decide +kernel
theorem d_L_law_10 : decode code 10 = .ok (.iconst 1, 1) := by decide +kernel
theorem d_L_law_11 : decode code 11 = .ok (.invokestatic 54, 3) := by decide +kernel
theorem d_L_law_14 : decode code 14 = .ok (.invokespecial 60, 3) := by decide +kernel
theorem d_L_law_17 : decode code 17 = .ok (.astore_n 1, 1) := by decide +kernel
theorem d_L_law_18 : decode code 18 = .ok (.new 62, 3) := by decide +kernel
theorem d_L_law_21 : decode code 21 = .ok (.dup, 1) := by decide +kernel
theorem d_L_law_22 : decode code 22 = .ok (.aload_n 0, 1) := by decide +kernel
theorem d_L_law_23 : decode code 23 = .ok (.iconst 0, 1) := by decide +kernel
theorem d_L_law_24 : decode code 24 = .ok (.invokestatic 54, 3) := by decide +kernel
theorem d_L_law_27 : decode code 27 = .ok (.aload_n 0, 1) := by decide +kernel
theorem d_L_law_28 : decode code 28 = .ok (.iconst 1, 1) := by decide +kernel
theorem d_L_law_29 : decode code 29 = .ok (.invokestatic 54, 3) := by decide +kernel
theorem d_L_law_32 : decode code 32 = .ok (.invokespecial 64, 3) := by decide +kernel
theorem d_L_law_35 : decode code 35 = .ok (.astore_n 2, 1) := by decide +kernel
theorem d_L_law_36 : decode code 36 = .ok (.iconst 1, 1) := by decide +kernel
theorem d_L_law_37 : decode code 37 = .ok (.newarray .long, 2) := by decide +kernel
theorem d_L_law_39 : decode code 39 = .ok (.astore_n 3, 1) := by decide +kernel
theorem d_L_law_40 : decode code 40 = .ok (.iconst 2, 1) := by decide +kernel
theorem d_L_law_41 : decode code 41 = .ok (.istore 4, 2) := by decide +kernel
theorem d_L_law_43 : decode code 43 = .ok (.iload 4, 2) := by decide +kernel
theorem d_L_law_45 : decode code 45 = .ok (.aload_n 0, 1) := by decide +kernel
theorem d_L_law_46 : decode code 46 = .ok (.arraylength, 1) := by decide +kernel
theorem d_L_law_47 : decode code 47 = .ok (.iconst 3, 1) := by decide +kernel
theorem d_L_law_48 : decode code 48 = .ok (.isub, 1) := by decide +kernel
theorem d_L_law_49 : decode code 49 = .ok (.if_icmp .gt 820, 3) := by decide +kernel
theorem d_L_law_52 : decode code 52 = .ok (.aload_n 0, 1) := by decide +kernel
theorem d_L_law_53 : decode code 53 = .ok (.iload 4, 2) := by decide +kernel
theorem d_L_law_55 : decode code 55 = .ok (.iaload, 1) := by decide +kernel
theorem d_L_law_56 : decode code 56 = .ok (.bipush 15, 2) := by decide +kernel
theorem d_L_law_58 : decode code 58 = .ok (.iand, 1) := by decide +kernel
theorem d_L_law_59 : decode code 59 = .ok (.tableswitch 804 0 14 #[73, 121, 145, 201, 257, 270, 283, 339, 407, 475, 543, 599, 667, 735, 748], 73) := by decide +kernel
theorem d_L_law_132 : decode code 132 = .ok (.aload_n 1, 1) := by decide +kernel
theorem d_L_law_133 : decode code 133 = .ok (.aload_n 0, 1) := by decide +kernel
theorem d_L_law_134 : decode code 134 = .ok (.iload 4, 2) := by decide +kernel
theorem d_L_law_136 : decode code 136 = .ok (.iconst 1, 1) := by decide +kernel
theorem d_L_law_137 : decode code 137 = .ok (.iadd, 1) := by decide +kernel
theorem d_L_law_138 : decode code 138 = .ok (.iaload, 1) := by decide +kernel
theorem d_L_law_139 : decode code 139 = .ok (.aload_n 0, 1) := by decide +kernel
theorem d_L_law_140 : decode code 140 = .ok (.iload 4, 2) := by decide +kernel
theorem d_L_law_142 : decode code 142 = .ok (.iconst 2, 1) := by decide +kernel
theorem d_L_law_143 : decode code 143 = .ok (.iadd, 1) := by decide +kernel
theorem d_L_law_144 : decode code 144 = .ok (.iaload, 1) := by decide +kernel
theorem d_L_law_145 : decode code 145 = .ok (.invokestatic 65, 3) := by decide +kernel
theorem d_L_law_148 : decode code 148 = .ok (.istore 5, 2) := by decide +kernel
theorem d_L_law_150 : decode code 150 = .ok (.aload_n 2, 1) := by decide +kernel
theorem d_L_law_151 : decode code 151 = .ok (.aload_n 0, 1) := by decide +kernel
theorem d_L_law_152 : decode code 152 = .ok (.iload 4, 2) := by decide +kernel
theorem d_L_law_154 : decode code 154 = .ok (.iconst 1, 1) := by decide +kernel
theorem d_L_law_155 : decode code 155 = .ok (.iadd, 1) := by decide +kernel
theorem d_L_law_156 : decode code 156 = .ok (.iaload, 1) := by decide +kernel
theorem d_L_law_157 : decode code 157 = .ok (.aload_n 0, 1) := by decide +kernel
theorem d_L_law_158 : decode code 158 = .ok (.iload 4, 2) := by decide +kernel
theorem d_L_law_160 : decode code 160 = .ok (.iconst 2, 1) := by decide +kernel
theorem d_L_law_161 : decode code 161 = .ok (.iadd, 1) := by decide +kernel
theorem d_L_law_162 : decode code 162 = .ok (.iaload, 1) := by decide +kernel
theorem d_L_law_163 : decode code 163 = .ok (.invokevirtual 68, 3) := by decide +kernel
theorem d_L_law_166 : decode code 166 = .ok (.aload_n 2, 1) := by decide +kernel
theorem d_L_law_167 : decode code 167 = .ok (.invokevirtual 69, 3) := by decide +kernel
theorem d_L_law_170 : decode code 170 = .ok (.iload 5, 2) := by decide +kernel
theorem d_L_law_172 : decode code 172 = .ok (.if_icmp .eq 5, 3) := by decide +kernel
theorem d_L_law_175 : decode code 175 = .ok (.iconst 0, 1) := by decide +kernel
theorem d_L_law_176 : decode code 176 = .ok (.ireturn, 1) := by decide +kernel
theorem d_L_law_177 : decode code 177 = .ok (.goto 686, 3) := by decide +kernel
theorem d_L_law_180 : decode code 180 = .ok (.aload_n 1, 1) := by decide +kernel
theorem d_L_law_181 : decode code 181 = .ok (.invokestatic 73, 3) := by decide +kernel
theorem d_L_law_184 : decode code 184 = .ok (.istore 5, 2) := by decide +kernel
theorem d_L_law_186 : decode code 186 = .ok (.aload_n 2, 1) := by decide +kernel
theorem d_L_law_187 : decode code 187 = .ok (.invokevirtual 76, 3) := by decide +kernel
theorem d_L_law_190 : decode code 190 = .ok (.aload_n 2, 1) := by decide +kernel
theorem d_L_law_191 : decode code 191 = .ok (.invokevirtual 69, 3) := by decide +kernel
theorem d_L_law_194 : decode code 194 = .ok (.iload 5, 2) := by decide +kernel
theorem d_L_law_196 : decode code 196 = .ok (.if_icmp .eq 5, 3) := by decide +kernel
theorem d_L_law_199 : decode code 199 = .ok (.iconst 0, 1) := by decide +kernel
theorem d_L_law_200 : decode code 200 = .ok (.ireturn, 1) := by decide +kernel
theorem d_L_law_201 : decode code 201 = .ok (.goto 662, 3) := by decide +kernel
theorem d_L_law_204 : decode code 204 = .ok (.aload_n 1, 1) := by decide +kernel
theorem d_L_law_205 : decode code 205 = .ok (.aload_n 0, 1) := by decide +kernel
theorem d_L_law_206 : decode code 206 = .ok (.iload 4, 2) := by decide +kernel
theorem d_L_law_208 : decode code 208 = .ok (.iconst 1, 1) := by decide +kernel
theorem d_L_law_209 : decode code 209 = .ok (.iadd, 1) := by decide +kernel
theorem d_L_law_210 : decode code 210 = .ok (.iaload, 1) := by decide +kernel
theorem d_L_law_211 : decode code 211 = .ok (.aload_n 3, 1) := by decide +kernel
theorem d_L_law_212 : decode code 212 = .ok (.invokestatic 77, 3) := by decide +kernel
theorem d_L_law_215 : decode code 215 = .ok (.istore 5, 2) := by decide +kernel
theorem d_L_law_217 : decode code 217 = .ok (.aload_n 2, 1) := by decide +kernel
theorem d_L_law_218 : decode code 218 = .ok (.aload_n 0, 1) := by decide +kernel
theorem d_L_law_219 : decode code 219 = .ok (.iload 4, 2) := by decide +kernel
theorem d_L_law_221 : decode code 221 = .ok (.iconst 1, 1) := by decide +kernel
theorem d_L_law_222 : decode code 222 = .ok (.iadd, 1) := by decide +kernel
theorem d_L_law_223 : decode code 223 = .ok (.iaload, 1) := by decide +kernel
theorem d_L_law_224 : decode code 224 = .ok (.invokevirtual 80, 3) := by decide +kernel
theorem d_L_law_227 : decode code 227 = .ok (.istore 6, 2) := by decide +kernel
theorem d_L_law_229 : decode code 229 = .ok (.aload_n 2, 1) := by decide +kernel
theorem d_L_law_230 : decode code 230 = .ok (.invokevirtual 69, 3) := by decide +kernel
theorem d_L_law_233 : decode code 233 = .ok (.iload 5, 2) := by decide +kernel
theorem d_L_law_235 : decode code 235 = .ok (.if_icmp .eq 5, 3) := by decide +kernel
theorem d_L_law_238 : decode code 238 = .ok (.iconst 0, 1) := by decide +kernel
theorem d_L_law_239 : decode code 239 = .ok (.ireturn, 1) := by decide +kernel
theorem d_L_law_240 : decode code 240 = .ok (.iload 5, 2) := by decide +kernel
theorem d_L_law_242 : decode code 242 = .ok (.ifCond .ne 15, 3) := by decide +kernel
theorem d_L_law_245 : decode code 245 = .ok (.aload_n 3, 1) := by decide +kernel
theorem d_L_law_246 : decode code 246 = .ok (.iconst 0, 1) := by decide +kernel
theorem d_L_law_247 : decode code 247 = .ok (.laload, 1) := by decide +kernel
theorem d_L_law_248 : decode code 248 = .ok (.iload 6, 2) := by decide +kernel
theorem d_L_law_250 : decode code 250 = .ok (.i2l, 1) := by decide +kernel
theorem d_L_law_251 : decode code 251 = .ok (.lcmp, 1) := by decide +kernel
theorem d_L_law_252 : decode code 252 = .ok (.ifCond .eq 5, 3) := by decide +kernel
theorem d_L_law_255 : decode code 255 = .ok (.iconst 0, 1) := by decide +kernel
theorem d_L_law_256 : decode code 256 = .ok (.ireturn, 1) := by decide +kernel
theorem d_L_law_257 : decode code 257 = .ok (.goto 606, 3) := by decide +kernel
theorem d_L_law_260 : decode code 260 = .ok (.aload_n 1, 1) := by decide +kernel
theorem d_L_law_261 : decode code 261 = .ok (.aload_n 0, 1) := by decide +kernel
theorem d_L_law_262 : decode code 262 = .ok (.iload 4, 2) := by decide +kernel
theorem d_L_law_264 : decode code 264 = .ok (.iconst 1, 1) := by decide +kernel
theorem d_L_law_265 : decode code 265 = .ok (.iadd, 1) := by decide +kernel
theorem d_L_law_266 : decode code 266 = .ok (.iaload, 1) := by decide +kernel
theorem d_L_law_267 : decode code 267 = .ok (.aload_n 3, 1) := by decide +kernel
theorem d_L_law_268 : decode code 268 = .ok (.invokestatic 81, 3) := by decide +kernel
theorem d_L_law_271 : decode code 271 = .ok (.istore 5, 2) := by decide +kernel
theorem d_L_law_273 : decode code 273 = .ok (.aload_n 2, 1) := by decide +kernel
theorem d_L_law_274 : decode code 274 = .ok (.aload_n 0, 1) := by decide +kernel
theorem d_L_law_275 : decode code 275 = .ok (.iload 4, 2) := by decide +kernel
theorem d_L_law_277 : decode code 277 = .ok (.iconst 1, 1) := by decide +kernel
theorem d_L_law_278 : decode code 278 = .ok (.iadd, 1) := by decide +kernel
theorem d_L_law_279 : decode code 279 = .ok (.iaload, 1) := by decide +kernel
theorem d_L_law_280 : decode code 280 = .ok (.invokevirtual 83, 3) := by decide +kernel
theorem d_L_law_283 : decode code 283 = .ok (.istore 6, 2) := by decide +kernel
theorem d_L_law_285 : decode code 285 = .ok (.aload_n 2, 1) := by decide +kernel
theorem d_L_law_286 : decode code 286 = .ok (.invokevirtual 69, 3) := by decide +kernel
theorem d_L_law_289 : decode code 289 = .ok (.iload 5, 2) := by decide +kernel
theorem d_L_law_291 : decode code 291 = .ok (.if_icmp .eq 5, 3) := by decide +kernel
theorem d_L_law_294 : decode code 294 = .ok (.iconst 0, 1) := by decide +kernel
theorem d_L_law_295 : decode code 295 = .ok (.ireturn, 1) := by decide +kernel
theorem d_L_law_296 : decode code 296 = .ok (.iload 5, 2) := by decide +kernel
theorem d_L_law_298 : decode code 298 = .ok (.ifCond .ne 15, 3) := by decide +kernel
theorem d_L_law_301 : decode code 301 = .ok (.aload_n 3, 1) := by decide +kernel
theorem d_L_law_302 : decode code 302 = .ok (.iconst 0, 1) := by decide +kernel
theorem d_L_law_303 : decode code 303 = .ok (.laload, 1) := by decide +kernel
theorem d_L_law_304 : decode code 304 = .ok (.iload 6, 2) := by decide +kernel
theorem d_L_law_306 : decode code 306 = .ok (.i2l, 1) := by decide +kernel
theorem d_L_law_307 : decode code 307 = .ok (.lcmp, 1) := by decide +kernel
theorem d_L_law_308 : decode code 308 = .ok (.ifCond .eq 5, 3) := by decide +kernel
theorem d_L_law_311 : decode code 311 = .ok (.iconst 0, 1) := by decide +kernel
theorem d_L_law_312 : decode code 312 = .ok (.ireturn, 1) := by decide +kernel
theorem d_L_law_313 : decode code 313 = .ok (.goto 550, 3) := by decide +kernel
theorem d_L_law_316 : decode code 316 = .ok (.aload_n 1, 1) := by decide +kernel
theorem d_L_law_317 : decode code 317 = .ok (.invokevirtual 84, 3) := by decide +kernel
theorem d_L_law_320 : decode code 320 = .ok (.aload_n 2, 1) := by decide +kernel
theorem d_L_law_321 : decode code 321 = .ok (.invokevirtual 88, 3) := by decide +kernel
theorem d_L_law_324 : decode code 324 = .ok (.if_icmp .eq 539, 3) := by decide +kernel
theorem d_L_law_327 : decode code 327 = .ok (.iconst 0, 1) := by decide +kernel
theorem d_L_law_328 : decode code 328 = .ok (.ireturn, 1) := by decide +kernel
theorem d_L_law_329 : decode code 329 = .ok (.aload_n 1, 1) := by decide +kernel
theorem d_L_law_330 : decode code 330 = .ok (.invokevirtual 89, 3) := by decide +kernel
theorem d_L_law_333 : decode code 333 = .ok (.aload_n 2, 1) := by decide +kernel
theorem d_L_law_334 : decode code 334 = .ok (.invokevirtual 92, 3) := by decide +kernel
theorem d_L_law_337 : decode code 337 = .ok (.if_icmp .eq 526, 3) := by decide +kernel
theorem d_L_law_340 : decode code 340 = .ok (.iconst 0, 1) := by decide +kernel
theorem d_L_law_341 : decode code 341 = .ok (.ireturn, 1) := by decide +kernel
theorem d_L_law_342 : decode code 342 = .ok (.aload_n 1, 1) := by decide +kernel
theorem d_L_law_343 : decode code 343 = .ok (.aload_n 0, 1) := by decide +kernel
theorem d_L_law_344 : decode code 344 = .ok (.iload 4, 2) := by decide +kernel
theorem d_L_law_346 : decode code 346 = .ok (.iconst 1, 1) := by decide +kernel
theorem d_L_law_347 : decode code 347 = .ok (.iadd, 1) := by decide +kernel
theorem d_L_law_348 : decode code 348 = .ok (.iaload, 1) := by decide +kernel
theorem d_L_law_349 : decode code 349 = .ok (.aload_n 3, 1) := by decide +kernel
theorem d_L_law_350 : decode code 350 = .ok (.invokestatic 93, 3) := by decide +kernel
theorem d_L_law_353 : decode code 353 = .ok (.istore 5, 2) := by decide +kernel
theorem d_L_law_355 : decode code 355 = .ok (.aload_n 2, 1) := by decide +kernel
theorem d_L_law_356 : decode code 356 = .ok (.aload_n 0, 1) := by decide +kernel
theorem d_L_law_357 : decode code 357 = .ok (.iload 4, 2) := by decide +kernel
theorem d_L_law_359 : decode code 359 = .ok (.iconst 1, 1) := by decide +kernel
theorem d_L_law_360 : decode code 360 = .ok (.iadd, 1) := by decide +kernel
theorem d_L_law_361 : decode code 361 = .ok (.iaload, 1) := by decide +kernel
theorem d_L_law_362 : decode code 362 = .ok (.invokevirtual 95, 3) := by decide +kernel
theorem d_L_law_365 : decode code 365 = .ok (.istore 6, 2) := by decide +kernel
theorem d_L_law_367 : decode code 367 = .ok (.aload_n 2, 1) := by decide +kernel
theorem d_L_law_368 : decode code 368 = .ok (.invokevirtual 69, 3) := by decide +kernel
theorem d_L_law_371 : decode code 371 = .ok (.iload 5, 2) := by decide +kernel
theorem d_L_law_373 : decode code 373 = .ok (.if_icmp .eq 5, 3) := by decide +kernel
theorem d_L_law_376 : decode code 376 = .ok (.iconst 0, 1) := by decide +kernel
theorem d_L_law_377 : decode code 377 = .ok (.ireturn, 1) := by decide +kernel
theorem d_L_law_378 : decode code 378 = .ok (.iload 5, 2) := by decide +kernel
theorem d_L_law_380 : decode code 380 = .ok (.ifCond .ne 15, 3) := by decide +kernel
theorem d_L_law_383 : decode code 383 = .ok (.aload_n 3, 1) := by decide +kernel
theorem d_L_law_384 : decode code 384 = .ok (.iconst 0, 1) := by decide +kernel
theorem d_L_law_385 : decode code 385 = .ok (.laload, 1) := by decide +kernel
theorem d_L_law_386 : decode code 386 = .ok (.iload 6, 2) := by decide +kernel
theorem d_L_law_388 : decode code 388 = .ok (.i2l, 1) := by decide +kernel
theorem d_L_law_389 : decode code 389 = .ok (.lcmp, 1) := by decide +kernel
theorem d_L_law_390 : decode code 390 = .ok (.ifCond .eq 5, 3) := by decide +kernel
theorem d_L_law_393 : decode code 393 = .ok (.iconst 0, 1) := by decide +kernel
theorem d_L_law_394 : decode code 394 = .ok (.ireturn, 1) := by decide +kernel
theorem d_L_law_395 : decode code 395 = .ok (.goto 468, 3) := by decide +kernel
theorem d_L_law_398 : decode code 398 = .ok (.aload_n 1, 1) := by decide +kernel
theorem d_L_law_399 : decode code 399 = .ok (.aload_n 0, 1) := by decide +kernel
theorem d_L_law_400 : decode code 400 = .ok (.iload 4, 2) := by decide +kernel
theorem d_L_law_402 : decode code 402 = .ok (.iconst 1, 1) := by decide +kernel
theorem d_L_law_403 : decode code 403 = .ok (.iadd, 1) := by decide +kernel
theorem d_L_law_404 : decode code 404 = .ok (.iaload, 1) := by decide +kernel
theorem d_L_law_405 : decode code 405 = .ok (.aload_n 0, 1) := by decide +kernel
theorem d_L_law_406 : decode code 406 = .ok (.iload 4, 2) := by decide +kernel
theorem d_L_law_408 : decode code 408 = .ok (.iconst 2, 1) := by decide +kernel
theorem d_L_law_409 : decode code 409 = .ok (.iadd, 1) := by decide +kernel
theorem d_L_law_410 : decode code 410 = .ok (.iaload, 1) := by decide +kernel
theorem d_L_law_411 : decode code 411 = .ok (.aload_n 3, 1) := by decide +kernel
theorem d_L_law_412 : decode code 412 = .ok (.invokestatic 96, 3) := by decide +kernel
theorem d_L_law_415 : decode code 415 = .ok (.istore 5, 2) := by decide +kernel
theorem d_L_law_417 : decode code 417 = .ok (.aload_n 2, 1) := by decide +kernel
theorem d_L_law_418 : decode code 418 = .ok (.aload_n 0, 1) := by decide +kernel
theorem d_L_law_419 : decode code 419 = .ok (.iload 4, 2) := by decide +kernel
theorem d_L_law_421 : decode code 421 = .ok (.iconst 1, 1) := by decide +kernel
theorem d_L_law_422 : decode code 422 = .ok (.iadd, 1) := by decide +kernel
theorem d_L_law_423 : decode code 423 = .ok (.iaload, 1) := by decide +kernel
theorem d_L_law_424 : decode code 424 = .ok (.aload_n 0, 1) := by decide +kernel
theorem d_L_law_425 : decode code 425 = .ok (.iload 4, 2) := by decide +kernel
theorem d_L_law_427 : decode code 427 = .ok (.iconst 2, 1) := by decide +kernel
theorem d_L_law_428 : decode code 428 = .ok (.iadd, 1) := by decide +kernel
theorem d_L_law_429 : decode code 429 = .ok (.iaload, 1) := by decide +kernel
theorem d_L_law_430 : decode code 430 = .ok (.invokevirtual 99, 3) := by decide +kernel
theorem d_L_law_433 : decode code 433 = .ok (.istore 6, 2) := by decide +kernel
theorem d_L_law_435 : decode code 435 = .ok (.aload_n 2, 1) := by decide +kernel
theorem d_L_law_436 : decode code 436 = .ok (.invokevirtual 69, 3) := by decide +kernel
theorem d_L_law_439 : decode code 439 = .ok (.iload 5, 2) := by decide +kernel
theorem d_L_law_441 : decode code 441 = .ok (.if_icmp .eq 5, 3) := by decide +kernel
theorem d_L_law_444 : decode code 444 = .ok (.iconst 0, 1) := by decide +kernel
theorem d_L_law_445 : decode code 445 = .ok (.ireturn, 1) := by decide +kernel
theorem d_L_law_446 : decode code 446 = .ok (.iload 5, 2) := by decide +kernel
theorem d_L_law_448 : decode code 448 = .ok (.ifCond .ne 15, 3) := by decide +kernel
theorem d_L_law_451 : decode code 451 = .ok (.aload_n 3, 1) := by decide +kernel
theorem d_L_law_452 : decode code 452 = .ok (.iconst 0, 1) := by decide +kernel
theorem d_L_law_453 : decode code 453 = .ok (.laload, 1) := by decide +kernel
theorem d_L_law_454 : decode code 454 = .ok (.iload 6, 2) := by decide +kernel
theorem d_L_law_456 : decode code 456 = .ok (.i2l, 1) := by decide +kernel
theorem d_L_law_457 : decode code 457 = .ok (.lcmp, 1) := by decide +kernel
theorem d_L_law_458 : decode code 458 = .ok (.ifCond .eq 5, 3) := by decide +kernel
theorem d_L_law_461 : decode code 461 = .ok (.iconst 0, 1) := by decide +kernel
theorem d_L_law_462 : decode code 462 = .ok (.ireturn, 1) := by decide +kernel
theorem d_L_law_463 : decode code 463 = .ok (.goto 400, 3) := by decide +kernel
theorem d_L_law_466 : decode code 466 = .ok (.aload_n 1, 1) := by decide +kernel
theorem d_L_law_467 : decode code 467 = .ok (.aload_n 0, 1) := by decide +kernel
theorem d_L_law_468 : decode code 468 = .ok (.iload 4, 2) := by decide +kernel
theorem d_L_law_470 : decode code 470 = .ok (.iconst 1, 1) := by decide +kernel
theorem d_L_law_471 : decode code 471 = .ok (.iadd, 1) := by decide +kernel
theorem d_L_law_472 : decode code 472 = .ok (.iaload, 1) := by decide +kernel
theorem d_L_law_473 : decode code 473 = .ok (.aload_n 0, 1) := by decide +kernel
theorem d_L_law_474 : decode code 474 = .ok (.iload 4, 2) := by decide +kernel
theorem d_L_law_476 : decode code 476 = .ok (.iconst 2, 1) := by decide +kernel
theorem d_L_law_477 : decode code 477 = .ok (.iadd, 1) := by decide +kernel
theorem d_L_law_478 : decode code 478 = .ok (.iaload, 1) := by decide +kernel
theorem d_L_law_479 : decode code 479 = .ok (.aload_n 3, 1) := by decide +kernel
theorem d_L_law_480 : decode code 480 = .ok (.invokestatic 100, 3) := by decide +kernel
theorem d_L_law_483 : decode code 483 = .ok (.istore 5, 2) := by decide +kernel
theorem d_L_law_485 : decode code 485 = .ok (.aload_n 2, 1) := by decide +kernel
theorem d_L_law_486 : decode code 486 = .ok (.aload_n 0, 1) := by decide +kernel
theorem d_L_law_487 : decode code 487 = .ok (.iload 4, 2) := by decide +kernel
theorem d_L_law_489 : decode code 489 = .ok (.iconst 1, 1) := by decide +kernel
theorem d_L_law_490 : decode code 490 = .ok (.iadd, 1) := by decide +kernel
theorem d_L_law_491 : decode code 491 = .ok (.iaload, 1) := by decide +kernel
theorem d_L_law_492 : decode code 492 = .ok (.aload_n 0, 1) := by decide +kernel
theorem d_L_law_493 : decode code 493 = .ok (.iload 4, 2) := by decide +kernel
theorem d_L_law_495 : decode code 495 = .ok (.iconst 2, 1) := by decide +kernel
theorem d_L_law_496 : decode code 496 = .ok (.iadd, 1) := by decide +kernel
theorem d_L_law_497 : decode code 497 = .ok (.iaload, 1) := by decide +kernel
theorem d_L_law_498 : decode code 498 = .ok (.invokevirtual 102, 3) := by decide +kernel
theorem d_L_law_501 : decode code 501 = .ok (.istore 6, 2) := by decide +kernel
theorem d_L_law_503 : decode code 503 = .ok (.aload_n 2, 1) := by decide +kernel
theorem d_L_law_504 : decode code 504 = .ok (.invokevirtual 69, 3) := by decide +kernel
theorem d_L_law_507 : decode code 507 = .ok (.iload 5, 2) := by decide +kernel
theorem d_L_law_509 : decode code 509 = .ok (.if_icmp .eq 5, 3) := by decide +kernel
theorem d_L_law_512 : decode code 512 = .ok (.iconst 0, 1) := by decide +kernel
theorem d_L_law_513 : decode code 513 = .ok (.ireturn, 1) := by decide +kernel
theorem d_L_law_514 : decode code 514 = .ok (.iload 5, 2) := by decide +kernel
theorem d_L_law_516 : decode code 516 = .ok (.ifCond .ne 15, 3) := by decide +kernel
theorem d_L_law_519 : decode code 519 = .ok (.aload_n 3, 1) := by decide +kernel
theorem d_L_law_520 : decode code 520 = .ok (.iconst 0, 1) := by decide +kernel
theorem d_L_law_521 : decode code 521 = .ok (.laload, 1) := by decide +kernel
theorem d_L_law_522 : decode code 522 = .ok (.iload 6, 2) := by decide +kernel
theorem d_L_law_524 : decode code 524 = .ok (.i2l, 1) := by decide +kernel
theorem d_L_law_525 : decode code 525 = .ok (.lcmp, 1) := by decide +kernel
theorem d_L_law_526 : decode code 526 = .ok (.ifCond .eq 5, 3) := by decide +kernel
theorem d_L_law_529 : decode code 529 = .ok (.iconst 0, 1) := by decide +kernel
theorem d_L_law_530 : decode code 530 = .ok (.ireturn, 1) := by decide +kernel
theorem d_L_law_531 : decode code 531 = .ok (.goto 332, 3) := by decide +kernel
theorem d_L_law_534 : decode code 534 = .ok (.aload_n 1, 1) := by decide +kernel
theorem d_L_law_535 : decode code 535 = .ok (.aload_n 0, 1) := by decide +kernel
theorem d_L_law_536 : decode code 536 = .ok (.iload 4, 2) := by decide +kernel
theorem d_L_law_538 : decode code 538 = .ok (.iconst 1, 1) := by decide +kernel
theorem d_L_law_539 : decode code 539 = .ok (.iadd, 1) := by decide +kernel
theorem d_L_law_540 : decode code 540 = .ok (.iaload, 1) := by decide +kernel
theorem d_L_law_541 : decode code 541 = .ok (.aload_n 0, 1) := by decide +kernel
theorem d_L_law_542 : decode code 542 = .ok (.iload 4, 2) := by decide +kernel
theorem d_L_law_544 : decode code 544 = .ok (.iconst 2, 1) := by decide +kernel
theorem d_L_law_545 : decode code 545 = .ok (.iadd, 1) := by decide +kernel
theorem d_L_law_546 : decode code 546 = .ok (.iaload, 1) := by decide +kernel
theorem d_L_law_547 : decode code 547 = .ok (.aload_n 3, 1) := by decide +kernel
theorem d_L_law_548 : decode code 548 = .ok (.invokestatic 103, 3) := by decide +kernel
theorem d_L_law_551 : decode code 551 = .ok (.istore 5, 2) := by decide +kernel
theorem d_L_law_553 : decode code 553 = .ok (.aload_n 2, 1) := by decide +kernel
theorem d_L_law_554 : decode code 554 = .ok (.aload_n 0, 1) := by decide +kernel
theorem d_L_law_555 : decode code 555 = .ok (.iload 4, 2) := by decide +kernel
theorem d_L_law_557 : decode code 557 = .ok (.iconst 1, 1) := by decide +kernel
theorem d_L_law_558 : decode code 558 = .ok (.iadd, 1) := by decide +kernel
theorem d_L_law_559 : decode code 559 = .ok (.iaload, 1) := by decide +kernel
theorem d_L_law_560 : decode code 560 = .ok (.aload_n 0, 1) := by decide +kernel
theorem d_L_law_561 : decode code 561 = .ok (.iload 4, 2) := by decide +kernel
theorem d_L_law_563 : decode code 563 = .ok (.iconst 2, 1) := by decide +kernel
theorem d_L_law_564 : decode code 564 = .ok (.iadd, 1) := by decide +kernel
theorem d_L_law_565 : decode code 565 = .ok (.iaload, 1) := by decide +kernel
theorem d_L_law_566 : decode code 566 = .ok (.invokevirtual 105, 3) := by decide +kernel
theorem d_L_law_569 : decode code 569 = .ok (.istore 6, 2) := by decide +kernel
theorem d_L_law_571 : decode code 571 = .ok (.aload_n 2, 1) := by decide +kernel
theorem d_L_law_572 : decode code 572 = .ok (.invokevirtual 69, 3) := by decide +kernel
theorem d_L_law_575 : decode code 575 = .ok (.iload 5, 2) := by decide +kernel
theorem d_L_law_577 : decode code 577 = .ok (.if_icmp .eq 5, 3) := by decide +kernel
theorem d_L_law_580 : decode code 580 = .ok (.iconst 0, 1) := by decide +kernel
theorem d_L_law_581 : decode code 581 = .ok (.ireturn, 1) := by decide +kernel
theorem d_L_law_582 : decode code 582 = .ok (.iload 5, 2) := by decide +kernel
theorem d_L_law_584 : decode code 584 = .ok (.ifCond .ne 15, 3) := by decide +kernel
theorem d_L_law_587 : decode code 587 = .ok (.aload_n 3, 1) := by decide +kernel
theorem d_L_law_588 : decode code 588 = .ok (.iconst 0, 1) := by decide +kernel
theorem d_L_law_589 : decode code 589 = .ok (.laload, 1) := by decide +kernel
theorem d_L_law_590 : decode code 590 = .ok (.iload 6, 2) := by decide +kernel
theorem d_L_law_592 : decode code 592 = .ok (.i2l, 1) := by decide +kernel
theorem d_L_law_593 : decode code 593 = .ok (.lcmp, 1) := by decide +kernel
theorem d_L_law_594 : decode code 594 = .ok (.ifCond .eq 5, 3) := by decide +kernel
theorem d_L_law_597 : decode code 597 = .ok (.iconst 0, 1) := by decide +kernel
theorem d_L_law_598 : decode code 598 = .ok (.ireturn, 1) := by decide +kernel
theorem d_L_law_599 : decode code 599 = .ok (.goto 264, 3) := by decide +kernel
theorem d_L_law_602 : decode code 602 = .ok (.aload_n 1, 1) := by decide +kernel
theorem d_L_law_603 : decode code 603 = .ok (.aload_n 0, 1) := by decide +kernel
theorem d_L_law_604 : decode code 604 = .ok (.iload 4, 2) := by decide +kernel
theorem d_L_law_606 : decode code 606 = .ok (.iconst 1, 1) := by decide +kernel
theorem d_L_law_607 : decode code 607 = .ok (.iadd, 1) := by decide +kernel
theorem d_L_law_608 : decode code 608 = .ok (.iaload, 1) := by decide +kernel
theorem d_L_law_609 : decode code 609 = .ok (.aload_n 3, 1) := by decide +kernel
theorem d_L_law_610 : decode code 610 = .ok (.invokestatic 106, 3) := by decide +kernel
theorem d_L_law_613 : decode code 613 = .ok (.istore 5, 2) := by decide +kernel
theorem d_L_law_615 : decode code 615 = .ok (.aload_n 2, 1) := by decide +kernel
theorem d_L_law_616 : decode code 616 = .ok (.aload_n 0, 1) := by decide +kernel
theorem d_L_law_617 : decode code 617 = .ok (.iload 4, 2) := by decide +kernel
theorem d_L_law_619 : decode code 619 = .ok (.iconst 1, 1) := by decide +kernel
theorem d_L_law_620 : decode code 620 = .ok (.iadd, 1) := by decide +kernel
theorem d_L_law_621 : decode code 621 = .ok (.iaload, 1) := by decide +kernel
theorem d_L_law_622 : decode code 622 = .ok (.invokevirtual 108, 3) := by decide +kernel
theorem d_L_law_625 : decode code 625 = .ok (.istore 6, 2) := by decide +kernel
theorem d_L_law_627 : decode code 627 = .ok (.aload_n 2, 1) := by decide +kernel
theorem d_L_law_628 : decode code 628 = .ok (.invokevirtual 69, 3) := by decide +kernel
theorem d_L_law_631 : decode code 631 = .ok (.iload 5, 2) := by decide +kernel
theorem d_L_law_633 : decode code 633 = .ok (.if_icmp .eq 5, 3) := by decide +kernel
theorem d_L_law_636 : decode code 636 = .ok (.iconst 0, 1) := by decide +kernel
theorem d_L_law_637 : decode code 637 = .ok (.ireturn, 1) := by decide +kernel
theorem d_L_law_638 : decode code 638 = .ok (.iload 5, 2) := by decide +kernel
theorem d_L_law_640 : decode code 640 = .ok (.ifCond .ne 15, 3) := by decide +kernel
theorem d_L_law_643 : decode code 643 = .ok (.aload_n 3, 1) := by decide +kernel
theorem d_L_law_644 : decode code 644 = .ok (.iconst 0, 1) := by decide +kernel
theorem d_L_law_645 : decode code 645 = .ok (.laload, 1) := by decide +kernel
theorem d_L_law_646 : decode code 646 = .ok (.iload 6, 2) := by decide +kernel
theorem d_L_law_648 : decode code 648 = .ok (.i2l, 1) := by decide +kernel
theorem d_L_law_649 : decode code 649 = .ok (.lcmp, 1) := by decide +kernel
theorem d_L_law_650 : decode code 650 = .ok (.ifCond .eq 5, 3) := by decide +kernel
theorem d_L_law_653 : decode code 653 = .ok (.iconst 0, 1) := by decide +kernel
theorem d_L_law_654 : decode code 654 = .ok (.ireturn, 1) := by decide +kernel
theorem d_L_law_655 : decode code 655 = .ok (.goto 208, 3) := by decide +kernel
theorem d_L_law_658 : decode code 658 = .ok (.aload_n 1, 1) := by decide +kernel
theorem d_L_law_659 : decode code 659 = .ok (.aload_n 0, 1) := by decide +kernel
theorem d_L_law_660 : decode code 660 = .ok (.iload 4, 2) := by decide +kernel
theorem d_L_law_662 : decode code 662 = .ok (.iconst 1, 1) := by decide +kernel
theorem d_L_law_663 : decode code 663 = .ok (.iadd, 1) := by decide +kernel
theorem d_L_law_664 : decode code 664 = .ok (.iaload, 1) := by decide +kernel
theorem d_L_law_665 : decode code 665 = .ok (.aload_n 0, 1) := by decide +kernel
theorem d_L_law_666 : decode code 666 = .ok (.iload 4, 2) := by decide +kernel
theorem d_L_law_668 : decode code 668 = .ok (.iconst 2, 1) := by decide +kernel
theorem d_L_law_669 : decode code 669 = .ok (.iadd, 1) := by decide +kernel
theorem d_L_law_670 : decode code 670 = .ok (.iaload, 1) := by decide +kernel
theorem d_L_law_671 : decode code 671 = .ok (.aload_n 3, 1) := by decide +kernel
theorem d_L_law_672 : decode code 672 = .ok (.invokestatic 109, 3) := by decide +kernel
theorem d_L_law_675 : decode code 675 = .ok (.istore 5, 2) := by decide +kernel
theorem d_L_law_677 : decode code 677 = .ok (.aload_n 2, 1) := by decide +kernel
theorem d_L_law_678 : decode code 678 = .ok (.aload_n 0, 1) := by decide +kernel
theorem d_L_law_679 : decode code 679 = .ok (.iload 4, 2) := by decide +kernel
theorem d_L_law_681 : decode code 681 = .ok (.iconst 1, 1) := by decide +kernel
theorem d_L_law_682 : decode code 682 = .ok (.iadd, 1) := by decide +kernel
theorem d_L_law_683 : decode code 683 = .ok (.iaload, 1) := by decide +kernel
theorem d_L_law_684 : decode code 684 = .ok (.aload_n 0, 1) := by decide +kernel
theorem d_L_law_685 : decode code 685 = .ok (.iload 4, 2) := by decide +kernel
theorem d_L_law_687 : decode code 687 = .ok (.iconst 2, 1) := by decide +kernel
theorem d_L_law_688 : decode code 688 = .ok (.iadd, 1) := by decide +kernel
theorem d_L_law_689 : decode code 689 = .ok (.iaload, 1) := by decide +kernel
theorem d_L_law_690 : decode code 690 = .ok (.invokevirtual 111, 3) := by decide +kernel
theorem d_L_law_693 : decode code 693 = .ok (.istore 6, 2) := by decide +kernel
theorem d_L_law_695 : decode code 695 = .ok (.aload_n 2, 1) := by decide +kernel
theorem d_L_law_696 : decode code 696 = .ok (.invokevirtual 69, 3) := by decide +kernel
theorem d_L_law_699 : decode code 699 = .ok (.iload 5, 2) := by decide +kernel
theorem d_L_law_701 : decode code 701 = .ok (.if_icmp .eq 5, 3) := by decide +kernel
theorem d_L_law_704 : decode code 704 = .ok (.iconst 0, 1) := by decide +kernel
theorem d_L_law_705 : decode code 705 = .ok (.ireturn, 1) := by decide +kernel
theorem d_L_law_706 : decode code 706 = .ok (.iload 5, 2) := by decide +kernel
theorem d_L_law_708 : decode code 708 = .ok (.ifCond .ne 15, 3) := by decide +kernel
theorem d_L_law_711 : decode code 711 = .ok (.aload_n 3, 1) := by decide +kernel
theorem d_L_law_712 : decode code 712 = .ok (.iconst 0, 1) := by decide +kernel
theorem d_L_law_713 : decode code 713 = .ok (.laload, 1) := by decide +kernel
theorem d_L_law_714 : decode code 714 = .ok (.iload 6, 2) := by decide +kernel
theorem d_L_law_716 : decode code 716 = .ok (.i2l, 1) := by decide +kernel
theorem d_L_law_717 : decode code 717 = .ok (.lcmp, 1) := by decide +kernel
theorem d_L_law_718 : decode code 718 = .ok (.ifCond .eq 5, 3) := by decide +kernel
theorem d_L_law_721 : decode code 721 = .ok (.iconst 0, 1) := by decide +kernel
theorem d_L_law_722 : decode code 722 = .ok (.ireturn, 1) := by decide +kernel
theorem d_L_law_723 : decode code 723 = .ok (.goto 140, 3) := by decide +kernel
theorem d_L_law_726 : decode code 726 = .ok (.aload_n 1, 1) := by decide +kernel
theorem d_L_law_727 : decode code 727 = .ok (.aload_n 0, 1) := by decide +kernel
theorem d_L_law_728 : decode code 728 = .ok (.iload 4, 2) := by decide +kernel
theorem d_L_law_730 : decode code 730 = .ok (.iconst 1, 1) := by decide +kernel
theorem d_L_law_731 : decode code 731 = .ok (.iadd, 1) := by decide +kernel
theorem d_L_law_732 : decode code 732 = .ok (.iaload, 1) := by decide +kernel
theorem d_L_law_733 : decode code 733 = .ok (.aload_n 0, 1) := by decide +kernel
theorem d_L_law_734 : decode code 734 = .ok (.iload 4, 2) := by decide +kernel
theorem d_L_law_736 : decode code 736 = .ok (.iconst 2, 1) := by decide +kernel
theorem d_L_law_737 : decode code 737 = .ok (.iadd, 1) := by decide +kernel
theorem d_L_law_738 : decode code 738 = .ok (.iaload, 1) := by decide +kernel
theorem d_L_law_739 : decode code 739 = .ok (.aload_n 3, 1) := by decide +kernel
theorem d_L_law_740 : decode code 740 = .ok (.invokestatic 112, 3) := by decide +kernel
theorem d_L_law_743 : decode code 743 = .ok (.istore 5, 2) := by decide +kernel
theorem d_L_law_745 : decode code 745 = .ok (.aload_n 2, 1) := by decide +kernel
theorem d_L_law_746 : decode code 746 = .ok (.aload_n 0, 1) := by decide +kernel
theorem d_L_law_747 : decode code 747 = .ok (.iload 4, 2) := by decide +kernel
theorem d_L_law_749 : decode code 749 = .ok (.iconst 1, 1) := by decide +kernel
theorem d_L_law_750 : decode code 750 = .ok (.iadd, 1) := by decide +kernel
theorem d_L_law_751 : decode code 751 = .ok (.iaload, 1) := by decide +kernel
theorem d_L_law_752 : decode code 752 = .ok (.aload_n 0, 1) := by decide +kernel
theorem d_L_law_753 : decode code 753 = .ok (.iload 4, 2) := by decide +kernel
theorem d_L_law_755 : decode code 755 = .ok (.iconst 2, 1) := by decide +kernel
theorem d_L_law_756 : decode code 756 = .ok (.iadd, 1) := by decide +kernel
theorem d_L_law_757 : decode code 757 = .ok (.iaload, 1) := by decide +kernel
theorem d_L_law_758 : decode code 758 = .ok (.invokevirtual 114, 3) := by decide +kernel
theorem d_L_law_761 : decode code 761 = .ok (.istore 6, 2) := by decide +kernel
theorem d_L_law_763 : decode code 763 = .ok (.aload_n 2, 1) := by decide +kernel
theorem d_L_law_764 : decode code 764 = .ok (.invokevirtual 69, 3) := by decide +kernel
theorem d_L_law_767 : decode code 767 = .ok (.iload 5, 2) := by decide +kernel
theorem d_L_law_769 : decode code 769 = .ok (.if_icmp .eq 5, 3) := by decide +kernel
theorem d_L_law_772 : decode code 772 = .ok (.iconst 0, 1) := by decide +kernel
theorem d_L_law_773 : decode code 773 = .ok (.ireturn, 1) := by decide +kernel
theorem d_L_law_774 : decode code 774 = .ok (.iload 5, 2) := by decide +kernel
theorem d_L_law_776 : decode code 776 = .ok (.ifCond .ne 15, 3) := by decide +kernel
theorem d_L_law_779 : decode code 779 = .ok (.aload_n 3, 1) := by decide +kernel
theorem d_L_law_780 : decode code 780 = .ok (.iconst 0, 1) := by decide +kernel
theorem d_L_law_781 : decode code 781 = .ok (.laload, 1) := by decide +kernel
theorem d_L_law_782 : decode code 782 = .ok (.iload 6, 2) := by decide +kernel
theorem d_L_law_784 : decode code 784 = .ok (.i2l, 1) := by decide +kernel
theorem d_L_law_785 : decode code 785 = .ok (.lcmp, 1) := by decide +kernel
theorem d_L_law_786 : decode code 786 = .ok (.ifCond .eq 5, 3) := by decide +kernel
theorem d_L_law_789 : decode code 789 = .ok (.iconst 0, 1) := by decide +kernel
theorem d_L_law_790 : decode code 790 = .ok (.ireturn, 1) := by decide +kernel
theorem d_L_law_791 : decode code 791 = .ok (.goto 72, 3) := by decide +kernel
theorem d_L_law_794 : decode code 794 = .ok (.aload_n 1, 1) := by decide +kernel
theorem d_L_law_795 : decode code 795 = .ok (.invokevirtual 115, 3) := by decide +kernel
theorem d_L_law_798 : decode code 798 = .ok (.aload_n 2, 1) := by decide +kernel
theorem d_L_law_799 : decode code 799 = .ok (.invokevirtual 118, 3) := by decide +kernel
theorem d_L_law_802 : decode code 802 = .ok (.if_icmp .eq 61, 3) := by decide +kernel
theorem d_L_law_805 : decode code 805 = .ok (.iconst 0, 1) := by decide +kernel
theorem d_L_law_806 : decode code 806 = .ok (.ireturn, 1) := by decide +kernel
theorem d_L_law_807 : decode code 807 = .ok (.aload_n 1, 1) := by decide +kernel
theorem d_L_law_808 : decode code 808 = .ok (.aload_n 0, 1) := by decide +kernel
theorem d_L_law_809 : decode code 809 = .ok (.iload 4, 2) := by decide +kernel
theorem d_L_law_811 : decode code 811 = .ok (.iconst 1, 1) := by decide +kernel
theorem d_L_law_812 : decode code 812 = .ok (.iadd, 1) := by decide +kernel
theorem d_L_law_813 : decode code 813 = .ok (.iaload, 1) := by decide +kernel
theorem d_L_law_814 : decode code 814 = .ok (.aload_n 3, 1) := by decide +kernel
theorem d_L_law_815 : decode code 815 = .ok (.invokestatic 119, 3) := by decide +kernel
theorem d_L_law_818 : decode code 818 = .ok (.istore 5, 2) := by decide +kernel
theorem d_L_law_820 : decode code 820 = .ok (.aload_n 2, 1) := by decide +kernel
theorem d_L_law_821 : decode code 821 = .ok (.aload_n 0, 1) := by decide +kernel
theorem d_L_law_822 : decode code 822 = .ok (.iload 4, 2) := by decide +kernel
theorem d_L_law_824 : decode code 824 = .ok (.iconst 1, 1) := by decide +kernel
theorem d_L_law_825 : decode code 825 = .ok (.iadd, 1) := by decide +kernel
theorem d_L_law_826 : decode code 826 = .ok (.iaload, 1) := by decide +kernel
theorem d_L_law_827 : decode code 827 = .ok (.invokevirtual 121, 3) := by decide +kernel
theorem d_L_law_830 : decode code 830 = .ok (.istore 6, 2) := by decide +kernel
theorem d_L_law_832 : decode code 832 = .ok (.aload_n 2, 1) := by decide +kernel
theorem d_L_law_833 : decode code 833 = .ok (.invokevirtual 69, 3) := by decide +kernel
theorem d_L_law_836 : decode code 836 = .ok (.iload 5, 2) := by decide +kernel
theorem d_L_law_838 : decode code 838 = .ok (.if_icmp .eq 5, 3) := by decide +kernel
theorem d_L_law_841 : decode code 841 = .ok (.iconst 0, 1) := by decide +kernel
theorem d_L_law_842 : decode code 842 = .ok (.ireturn, 1) := by decide +kernel
theorem d_L_law_843 : decode code 843 = .ok (.iload 5, 2) := by decide +kernel
theorem d_L_law_845 : decode code 845 = .ok (.ifCond .ne 15, 3) := by decide +kernel
theorem d_L_law_848 : decode code 848 = .ok (.aload_n 3, 1) := by decide +kernel
theorem d_L_law_849 : decode code 849 = .ok (.iconst 0, 1) := by decide +kernel
theorem d_L_law_850 : decode code 850 = .ok (.laload, 1) := by decide +kernel
theorem d_L_law_851 : decode code 851 = .ok (.iload 6, 2) := by decide +kernel
theorem d_L_law_853 : decode code 853 = .ok (.i2l, 1) := by decide +kernel
theorem d_L_law_854 : decode code 854 = .ok (.lcmp, 1) := by decide +kernel
theorem d_L_law_855 : decode code 855 = .ok (.ifCond .eq 5, 3) := by decide +kernel
theorem d_L_law_858 : decode code 858 = .ok (.iconst 0, 1) := by decide +kernel
theorem d_L_law_859 : decode code 859 = .ok (.ireturn, 1) := by decide +kernel
theorem d_L_law_860 : decode code 860 = .ok (.goto 3, 3) := by decide +kernel
theorem d_L_law_863 : decode code 863 = .ok (.iinc 4 3, 3) := by decide +kernel
theorem d_L_law_866 : decode code 866 = .ok (.goto (-823), 3) := by decide +kernel
theorem d_L_law_869 : decode code 869 = .ok (.iconst 1, 1) := by decide +kernel
theorem d_L_law_870 : decode code 870 = .ok (.ireturn, 1) := by decide +kernel

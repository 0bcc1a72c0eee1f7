section
/-- a private method of a class that the tables say can be made, by its rows of tables_1 -/
def lw_okq (q : MethodName × Nat) : Prop := (q.1.cls ≠ "java/lang/invoke/MethodHandle" ∧ q.1.cls ≠ "java/lang/invoke/VarHandle") ∧ Cond.instantiable q.1.cls q.2 ∈ tables_1 ∧ Cond.privateMethod q.1 ∈ tables_1 ∧ Cond.instanceMethod q.1 ∈ tables_1
theorem lw_p0 : lw_okq (⟨"PipeKernel", "wakeAll", "(I)V"⟩, 14) := ⟨⟨by decide +kernel, by decide +kernel⟩, List.mem_of_getElem? (i := 15) (by decide +kernel), List.mem_of_getElem? (i := 151) (by decide +kernel), List.mem_of_getElem? (i := 152) (by decide +kernel)⟩
theorem lw_p1 : lw_okq (⟨"PipeKernel", "longestWaiting", "(I)LPipeKernel$Proc;"⟩, 14) := ⟨⟨by decide +kernel, by decide +kernel⟩, List.mem_of_getElem? (i := 15) (by decide +kernel), List.mem_of_getElem? (i := 155) (by decide +kernel), List.mem_of_getElem? (i := 156) (by decide +kernel)⟩
theorem lw_p2 : lw_okq (⟨"PipeKernel", "makeReady", "(LPipeKernel$Proc;)V"⟩, 14) := ⟨⟨by decide +kernel, by decide +kernel⟩, List.mem_of_getElem? (i := 15) (by decide +kernel), List.mem_of_getElem? (i := 159) (by decide +kernel), List.mem_of_getElem? (i := 160) (by decide +kernel)⟩
theorem lw_p3 : lw_okq (⟨"java/lang/Throwable", "fillInStackTrace", "(I)Ljava/lang/Throwable;"⟩, 6) := ⟨⟨by decide +kernel, by decide +kernel⟩, List.mem_of_getElem? (i := 221) (by decide +kernel), List.mem_of_getElem? (i := 219) (by decide +kernel), List.mem_of_getElem? (i := 220) (by decide +kernel)⟩
theorem lw_p4 : lw_okq (⟨"PipeKernel", "goesOn", "()Z"⟩, 14) := ⟨⟨by decide +kernel, by decide +kernel⟩, List.mem_of_getElem? (i := 15) (by decide +kernel), List.mem_of_getElem? (i := 298) (by decide +kernel), List.mem_of_getElem? (i := 299) (by decide +kernel)⟩
theorem lw_p5 : lw_okq (⟨"PipeKernel", "step", "()V"⟩, 14) := ⟨⟨by decide +kernel, by decide +kernel⟩, List.mem_of_getElem? (i := 15) (by decide +kernel), List.mem_of_getElem? (i := 302) (by decide +kernel), List.mem_of_getElem? (i := 303) (by decide +kernel)⟩
theorem lw_p6 : lw_okq (⟨"PipeKernel", "wakeSleepers", "()V"⟩, 14) := ⟨⟨by decide +kernel, by decide +kernel⟩, List.mem_of_getElem? (i := 15) (by decide +kernel), List.mem_of_getElem? (i := 306) (by decide +kernel), List.mem_of_getElem? (i := 307) (by decide +kernel)⟩
theorem lw_p7 : lw_okq (⟨"PipeKernel", "end", "(LPipeKernel$Proc;I)V"⟩, 14) := ⟨⟨by decide +kernel, by decide +kernel⟩, List.mem_of_getElem? (i := 15) (by decide +kernel), List.mem_of_getElem? (i := 331) (by decide +kernel), List.mem_of_getElem? (i := 332) (by decide +kernel)⟩
theorem lw_p8 : lw_okq (⟨"PipeKernel", "leaveQueue", "(LPipeKernel$Proc;)V"⟩, 14) := ⟨⟨by decide +kernel, by decide +kernel⟩, List.mem_of_getElem? (i := 15) (by decide +kernel), List.mem_of_getElem? (i := 335) (by decide +kernel), List.mem_of_getElem? (i := 336) (by decide +kernel)⟩
theorem lw_p9 : lw_okq (⟨"PipeKernel", "closeDescriptor", "(LPipeKernel$Proc;I)I"⟩, 14) := ⟨⟨by decide +kernel, by decide +kernel⟩, List.mem_of_getElem? (i := 15) (by decide +kernel), List.mem_of_getElem? (i := 339) (by decide +kernel), List.mem_of_getElem? (i := 340) (by decide +kernel)⟩
theorem lw_p10 : lw_okq (⟨"PipeKernel", "handOverChildren", "(LPipeKernel$Proc;)V"⟩, 14) := ⟨⟨by decide +kernel, by decide +kernel⟩, List.mem_of_getElem? (i := 15) (by decide +kernel), List.mem_of_getElem? (i := 350) (by decide +kernel), List.mem_of_getElem? (i := 351) (by decide +kernel)⟩
theorem lw_p11 : lw_okq (⟨"PipeKernel", "endedChild", "(LPipeKernel$Proc;)LPipeKernel$Proc;"⟩, 14) := ⟨⟨by decide +kernel, by decide +kernel⟩, List.mem_of_getElem? (i := 15) (by decide +kernel), List.mem_of_getElem? (i := 358) (by decide +kernel), List.mem_of_getElem? (i := 359) (by decide +kernel)⟩
theorem lw_p12 : lw_okq (⟨"PipeKernel", "mustWait", "(LPipeKernel$Proc;)Z"⟩, 14) := ⟨⟨by decide +kernel, by decide +kernel⟩, List.mem_of_getElem? (i := 15) (by decide +kernel), List.mem_of_getElem? (i := 362) (by decide +kernel), List.mem_of_getElem? (i := 363) (by decide +kernel)⟩
theorem lw_p13 : lw_okq (⟨"PipeKernel", "writeBlocks", "(I)Z"⟩, 14) := ⟨⟨by decide +kernel, by decide +kernel⟩, List.mem_of_getElem? (i := 15) (by decide +kernel), List.mem_of_getElem? (i := 372) (by decide +kernel), List.mem_of_getElem? (i := 373) (by decide +kernel)⟩
theorem lw_p14 : lw_okq (⟨"PipeKernel", "readBlocks", "(I)Z"⟩, 14) := ⟨⟨by decide +kernel, by decide +kernel⟩, List.mem_of_getElem? (i := 15) (by decide +kernel), List.mem_of_getElem? (i := 383) (by decide +kernel), List.mem_of_getElem? (i := 384) (by decide +kernel)⟩
theorem lw_p15 : lw_okq (⟨"PipeKernel", "hasChild", "(LPipeKernel$Proc;)Z"⟩, 14) := ⟨⟨by decide +kernel, by decide +kernel⟩, List.mem_of_getElem? (i := 15) (by decide +kernel), List.mem_of_getElem? (i := 394) (by decide +kernel), List.mem_of_getElem? (i := 395) (by decide +kernel)⟩
def lw_privs_1 : List (MethodName × Nat) := [(⟨"PipeKernel", "wakeAll", "(I)V"⟩, 14), (⟨"PipeKernel", "longestWaiting", "(I)LPipeKernel$Proc;"⟩, 14), (⟨"PipeKernel", "makeReady", "(LPipeKernel$Proc;)V"⟩, 14), (⟨"java/lang/Throwable", "fillInStackTrace", "(I)Ljava/lang/Throwable;"⟩, 6), (⟨"PipeKernel", "goesOn", "()Z"⟩, 14), (⟨"PipeKernel", "step", "()V"⟩, 14), (⟨"PipeKernel", "wakeSleepers", "()V"⟩, 14), (⟨"PipeKernel", "end", "(LPipeKernel$Proc;I)V"⟩, 14), (⟨"PipeKernel", "leaveQueue", "(LPipeKernel$Proc;)V"⟩, 14), (⟨"PipeKernel", "closeDescriptor", "(LPipeKernel$Proc;I)I"⟩, 14), (⟨"PipeKernel", "handOverChildren", "(LPipeKernel$Proc;)V"⟩, 14), (⟨"PipeKernel", "endedChild", "(LPipeKernel$Proc;)LPipeKernel$Proc;"⟩, 14), (⟨"PipeKernel", "mustWait", "(LPipeKernel$Proc;)Z"⟩, 14), (⟨"PipeKernel", "writeBlocks", "(I)Z"⟩, 14), (⟨"PipeKernel", "readBlocks", "(I)Z"⟩, 14), (⟨"PipeKernel", "hasChild", "(LPipeKernel$Proc;)Z"⟩, 14)]
theorem lw_r1 : ∀ q ∈ lw_privs_1, lw_okq q := List.forall_mem_cons.mpr ⟨lw_p0, List.forall_mem_cons.mpr ⟨lw_p1, List.forall_mem_cons.mpr ⟨lw_p2, List.forall_mem_cons.mpr ⟨lw_p3, List.forall_mem_cons.mpr ⟨lw_p4, List.forall_mem_cons.mpr ⟨lw_p5, List.forall_mem_cons.mpr ⟨lw_p6, List.forall_mem_cons.mpr ⟨lw_p7, List.forall_mem_cons.mpr ⟨lw_p8, List.forall_mem_cons.mpr ⟨lw_p9, List.forall_mem_cons.mpr ⟨lw_p10, List.forall_mem_cons.mpr ⟨lw_p11, List.forall_mem_cons.mpr ⟨lw_p12, List.forall_mem_cons.mpr ⟨lw_p13, List.forall_mem_cons.mpr ⟨lw_p14, List.forall_mem_cons.mpr ⟨lw_p15, fun _ h => absurd h List.not_mem_nil⟩⟩⟩⟩⟩⟩⟩⟩⟩⟩⟩⟩⟩⟩⟩⟩
theorem lw_p16 : lw_okq (⟨"PipeKernel", "beginToWait", "(LPipeKernel$Proc;)V"⟩, 14) := ⟨⟨by decide +kernel, by decide +kernel⟩, List.mem_of_getElem? (i := 15) (by decide +kernel), List.mem_of_getElem? (i := 398) (by decide +kernel), List.mem_of_getElem? (i := 399) (by decide +kernel)⟩
theorem lw_p17 : lw_okq (⟨"PipeKernel", "perform", "(LPipeKernel$Proc;)V"⟩, 14) := ⟨⟨by decide +kernel, by decide +kernel⟩, List.mem_of_getElem? (i := 15) (by decide +kernel), List.mem_of_getElem? (i := 408) (by decide +kernel), List.mem_of_getElem? (i := 409) (by decide +kernel)⟩
theorem lw_p18 : lw_okq (⟨"PipeKernel", "goToQueueEnd", "(LPipeKernel$Proc;)V"⟩, 14) := ⟨⟨by decide +kernel, by decide +kernel⟩, List.mem_of_getElem? (i := 15) (by decide +kernel), List.mem_of_getElem? (i := 421) (by decide +kernel), List.mem_of_getElem? (i := 422) (by decide +kernel)⟩
theorem lw_p19 : lw_okq (⟨"PipeKernel", "write", "(LPipeKernel$Proc;)V"⟩, 14) := ⟨⟨by decide +kernel, by decide +kernel⟩, List.mem_of_getElem? (i := 15) (by decide +kernel), List.mem_of_getElem? (i := 425) (by decide +kernel), List.mem_of_getElem? (i := 426) (by decide +kernel)⟩
theorem lw_p20 : lw_okq (⟨"PipeKernel", "print", "(I)V"⟩, 14) := ⟨⟨by decide +kernel, by decide +kernel⟩, List.mem_of_getElem? (i := 15) (by decide +kernel), List.mem_of_getElem? (i := 429) (by decide +kernel), List.mem_of_getElem? (i := 430) (by decide +kernel)⟩
theorem lw_p21 : lw_okq (⟨"PipeKernel", "wakeFirst", "(I)V"⟩, 14) := ⟨⟨by decide +kernel, by decide +kernel⟩, List.mem_of_getElem? (i := 15) (by decide +kernel), List.mem_of_getElem? (i := 445) (by decide +kernel), List.mem_of_getElem? (i := 446) (by decide +kernel)⟩
theorem lw_p22 : lw_okq (⟨"PipeKernel", "read", "(LPipeKernel$Proc;)V"⟩, 14) := ⟨⟨by decide +kernel, by decide +kernel⟩, List.mem_of_getElem? (i := 15) (by decide +kernel), List.mem_of_getElem? (i := 449) (by decide +kernel), List.mem_of_getElem? (i := 450) (by decide +kernel)⟩
theorem lw_p23 : lw_okq (⟨"PipeKernel", "pushNext", "(LPipeKernel$Proc;LPipeKernel$Words;)Z"⟩, 14) := ⟨⟨by decide +kernel, by decide +kernel⟩, List.mem_of_getElem? (i := 15) (by decide +kernel), List.mem_of_getElem? (i := 453) (by decide +kernel), List.mem_of_getElem? (i := 454) (by decide +kernel)⟩
theorem lw_p24 : lw_okq (⟨"PipeKernel", "fork", "(LPipeKernel$Proc;)V"⟩, 14) := ⟨⟨by decide +kernel, by decide +kernel⟩, List.mem_of_getElem? (i := 15) (by decide +kernel), List.mem_of_getElem? (i := 462) (by decide +kernel), List.mem_of_getElem? (i := 463) (by decide +kernel)⟩
theorem lw_p25 : lw_okq (⟨"PipeKernel", "freeProc", "()LPipeKernel$Proc;"⟩, 14) := ⟨⟨by decide +kernel, by decide +kernel⟩, List.mem_of_getElem? (i := 15) (by decide +kernel), List.mem_of_getElem? (i := 466) (by decide +kernel), List.mem_of_getElem? (i := 467) (by decide +kernel)⟩
theorem lw_p26 : lw_okq (⟨"PipeKernel", "addEnd", "(I)V"⟩, 14) := ⟨⟨by decide +kernel, by decide +kernel⟩, List.mem_of_getElem? (i := 15) (by decide +kernel), List.mem_of_getElem? (i := 477) (by decide +kernel), List.mem_of_getElem? (i := 478) (by decide +kernel)⟩
theorem lw_p27 : lw_okq (⟨"PipeKernel", "takeEndedChild", "(LPipeKernel$Proc;)V"⟩, 14) := ⟨⟨by decide +kernel, by decide +kernel⟩, List.mem_of_getElem? (i := 15) (by decide +kernel), List.mem_of_getElem? (i := 481) (by decide +kernel), List.mem_of_getElem? (i := 482) (by decide +kernel)⟩
theorem lw_p28 : lw_okq (⟨"PipeKernel", "kill", "(LPipeKernel$Proc;)V"⟩, 14) := ⟨⟨by decide +kernel, by decide +kernel⟩, List.mem_of_getElem? (i := 15) (by decide +kernel), List.mem_of_getElem? (i := 485) (by decide +kernel), List.mem_of_getElem? (i := 486) (by decide +kernel)⟩
theorem lw_p29 : lw_okq (⟨"PipeKernel", "isThere", "(I)Z"⟩, 14) := ⟨⟨by decide +kernel, by decide +kernel⟩, List.mem_of_getElem? (i := 15) (by decide +kernel), List.mem_of_getElem? (i := 489) (by decide +kernel), List.mem_of_getElem? (i := 490) (by decide +kernel)⟩
theorem lw_p30 : lw_okq (⟨"PipeKernel", "openPipe", "(LPipeKernel$Proc;)V"⟩, 14) := ⟨⟨by decide +kernel, by decide +kernel⟩, List.mem_of_getElem? (i := 15) (by decide +kernel), List.mem_of_getElem? (i := 493) (by decide +kernel), List.mem_of_getElem? (i := 494) (by decide +kernel)⟩
theorem lw_p31 : lw_okq (⟨"PipeKernel", "freePipe", "()I"⟩, 14) := ⟨⟨by decide +kernel, by decide +kernel⟩, List.mem_of_getElem? (i := 15) (by decide +kernel), List.mem_of_getElem? (i := 497) (by decide +kernel), List.mem_of_getElem? (i := 498) (by decide +kernel)⟩
def lw_privs_2 : List (MethodName × Nat) := [(⟨"PipeKernel", "beginToWait", "(LPipeKernel$Proc;)V"⟩, 14), (⟨"PipeKernel", "perform", "(LPipeKernel$Proc;)V"⟩, 14), (⟨"PipeKernel", "goToQueueEnd", "(LPipeKernel$Proc;)V"⟩, 14), (⟨"PipeKernel", "write", "(LPipeKernel$Proc;)V"⟩, 14), (⟨"PipeKernel", "print", "(I)V"⟩, 14), (⟨"PipeKernel", "wakeFirst", "(I)V"⟩, 14), (⟨"PipeKernel", "read", "(LPipeKernel$Proc;)V"⟩, 14), (⟨"PipeKernel", "pushNext", "(LPipeKernel$Proc;LPipeKernel$Words;)Z"⟩, 14), (⟨"PipeKernel", "fork", "(LPipeKernel$Proc;)V"⟩, 14), (⟨"PipeKernel", "freeProc", "()LPipeKernel$Proc;"⟩, 14), (⟨"PipeKernel", "addEnd", "(I)V"⟩, 14), (⟨"PipeKernel", "takeEndedChild", "(LPipeKernel$Proc;)V"⟩, 14), (⟨"PipeKernel", "kill", "(LPipeKernel$Proc;)V"⟩, 14), (⟨"PipeKernel", "isThere", "(I)Z"⟩, 14), (⟨"PipeKernel", "openPipe", "(LPipeKernel$Proc;)V"⟩, 14), (⟨"PipeKernel", "freePipe", "()I"⟩, 14)]
theorem lw_r2 : ∀ q ∈ lw_privs_2, lw_okq q := List.forall_mem_cons.mpr ⟨lw_p16, List.forall_mem_cons.mpr ⟨lw_p17, List.forall_mem_cons.mpr ⟨lw_p18, List.forall_mem_cons.mpr ⟨lw_p19, List.forall_mem_cons.mpr ⟨lw_p20, List.forall_mem_cons.mpr ⟨lw_p21, List.forall_mem_cons.mpr ⟨lw_p22, List.forall_mem_cons.mpr ⟨lw_p23, List.forall_mem_cons.mpr ⟨lw_p24, List.forall_mem_cons.mpr ⟨lw_p25, List.forall_mem_cons.mpr ⟨lw_p26, List.forall_mem_cons.mpr ⟨lw_p27, List.forall_mem_cons.mpr ⟨lw_p28, List.forall_mem_cons.mpr ⟨lw_p29, List.forall_mem_cons.mpr ⟨lw_p30, List.forall_mem_cons.mpr ⟨lw_p31, fun _ h => absurd h List.not_mem_nil⟩⟩⟩⟩⟩⟩⟩⟩⟩⟩⟩⟩⟩⟩⟩⟩
theorem lw_p32 : lw_okq (⟨"PipeKernel", "openDescriptor", "(LPipeKernel$Proc;I)I"⟩, 14) := ⟨⟨by decide +kernel, by decide +kernel⟩, List.mem_of_getElem? (i := 15) (by decide +kernel), List.mem_of_getElem? (i := 515) (by decide +kernel), List.mem_of_getElem? (i := 516) (by decide +kernel)⟩
theorem lw_p33 : lw_okq (⟨"PipeKernel", "close", "(LPipeKernel$Proc;)V"⟩, 14) := ⟨⟨by decide +kernel, by decide +kernel⟩, List.mem_of_getElem? (i := 15) (by decide +kernel), List.mem_of_getElem? (i := 523) (by decide +kernel), List.mem_of_getElem? (i := 524) (by decide +kernel)⟩
theorem lw_p34 : lw_okq (⟨"PipeKernel", "duplicate", "(LPipeKernel$Proc;)V"⟩, 14) := ⟨⟨by decide +kernel, by decide +kernel⟩, List.mem_of_getElem? (i := 15) (by decide +kernel), List.mem_of_getElem? (i := 527) (by decide +kernel), List.mem_of_getElem? (i := 528) (by decide +kernel)⟩
theorem lw_p35 : lw_okq (⟨"PipeKernel", "sleep", "(LPipeKernel$Proc;)V"⟩, 14) := ⟨⟨by decide +kernel, by decide +kernel⟩, List.mem_of_getElem? (i := 15) (by decide +kernel), List.mem_of_getElem? (i := 531) (by decide +kernel), List.mem_of_getElem? (i := 532) (by decide +kernel)⟩
theorem lw_p36 : lw_okq (⟨"PipeKernel", "countWaiting", "(I)I"⟩, 14) := ⟨⟨by decide +kernel, by decide +kernel⟩, List.mem_of_getElem? (i := 15) (by decide +kernel), List.mem_of_getElem? (i := 623) (by decide +kernel), List.mem_of_getElem? (i := 624) (by decide +kernel)⟩
theorem lw_p37 : lw_okq (⟨"PipeKernelModel", "ready", "(I)V"⟩, 28) := ⟨⟨by decide +kernel, by decide +kernel⟩, List.mem_of_getElem? (i := 640) (by decide +kernel), List.mem_of_getElem? (i := 743) (by decide +kernel), List.mem_of_getElem? (i := 744) (by decide +kernel)⟩
theorem lw_p38 : lw_okq (⟨"PipeKernelModel", "goesOn", "()Z"⟩, 28) := ⟨⟨by decide +kernel, by decide +kernel⟩, List.mem_of_getElem? (i := 640) (by decide +kernel), List.mem_of_getElem? (i := 751) (by decide +kernel), List.mem_of_getElem? (i := 752) (by decide +kernel)⟩
theorem lw_p39 : lw_okq (⟨"PipeKernelModel", "step", "()V"⟩, 28) := ⟨⟨by decide +kernel, by decide +kernel⟩, List.mem_of_getElem? (i := 640) (by decide +kernel), List.mem_of_getElem? (i := 755) (by decide +kernel), List.mem_of_getElem? (i := 756) (by decide +kernel)⟩
theorem lw_p40 : lw_okq (⟨"PipeKernelModel", "wakeSleepers", "()V"⟩, 28) := ⟨⟨by decide +kernel, by decide +kernel⟩, List.mem_of_getElem? (i := 640) (by decide +kernel), List.mem_of_getElem? (i := 759) (by decide +kernel), List.mem_of_getElem? (i := 760) (by decide +kernel)⟩
theorem lw_p41 : lw_okq (⟨"PipeKernelModel", "instruct", "(I)V"⟩, 28) := ⟨⟨by decide +kernel, by decide +kernel⟩, List.mem_of_getElem? (i := 640) (by decide +kernel), List.mem_of_getElem? (i := 763) (by decide +kernel), List.mem_of_getElem? (i := 764) (by decide +kernel)⟩
theorem lw_p42 : lw_okq (⟨"PipeKernelModel", "faultOf", "(I)I"⟩, 28) := ⟨⟨by decide +kernel, by decide +kernel⟩, List.mem_of_getElem? (i := 640) (by decide +kernel), List.mem_of_getElem? (i := 767) (by decide +kernel), List.mem_of_getElem? (i := 768) (by decide +kernel)⟩
theorem lw_p43 : lw_okq (⟨"PipeKernelModel", "top", "(II)I"⟩, 28) := ⟨⟨by decide +kernel, by decide +kernel⟩, List.mem_of_getElem? (i := 640) (by decide +kernel), List.mem_of_getElem? (i := 777) (by decide +kernel), List.mem_of_getElem? (i := 778) (by decide +kernel)⟩
theorem lw_p44 : lw_okq (⟨"PipeKernelModel", "rowFor", "(II)I"⟩, 28) := ⟨⟨by decide +kernel, by decide +kernel⟩, List.mem_of_getElem? (i := 640) (by decide +kernel), List.mem_of_getElem? (i := 784) (by decide +kernel), List.mem_of_getElem? (i := 785) (by decide +kernel)⟩
theorem lw_p45 : lw_okq (⟨"PipeKernelModel", "descriptorOf", "(II)I"⟩, 28) := ⟨⟨by decide +kernel, by decide +kernel⟩, List.mem_of_getElem? (i := 640) (by decide +kernel), List.mem_of_getElem? (i := 788) (by decide +kernel), List.mem_of_getElem? (i := 789) (by decide +kernel)⟩
theorem lw_p46 : lw_okq (⟨"PipeKernelModel", "many", "(I)I"⟩, 28) := ⟨⟨by decide +kernel, by decide +kernel⟩, List.mem_of_getElem? (i := 640) (by decide +kernel), List.mem_of_getElem? (i := 792) (by decide +kernel), List.mem_of_getElem? (i := 793) (by decide +kernel)⟩
theorem lw_p47 : lw_okq (⟨"PipeKernelModel", "end", "(II)V"⟩, 28) := ⟨⟨by decide +kernel, by decide +kernel⟩, List.mem_of_getElem? (i := 640) (by decide +kernel), List.mem_of_getElem? (i := 796) (by decide +kernel), List.mem_of_getElem? (i := 797) (by decide +kernel)⟩
def lw_privs_3 : List (MethodName × Nat) := [(⟨"PipeKernel", "openDescriptor", "(LPipeKernel$Proc;I)I"⟩, 14), (⟨"PipeKernel", "close", "(LPipeKernel$Proc;)V"⟩, 14), (⟨"PipeKernel", "duplicate", "(LPipeKernel$Proc;)V"⟩, 14), (⟨"PipeKernel", "sleep", "(LPipeKernel$Proc;)V"⟩, 14), (⟨"PipeKernel", "countWaiting", "(I)I"⟩, 14), (⟨"PipeKernelModel", "ready", "(I)V"⟩, 28), (⟨"PipeKernelModel", "goesOn", "()Z"⟩, 28), (⟨"PipeKernelModel", "step", "()V"⟩, 28), (⟨"PipeKernelModel", "wakeSleepers", "()V"⟩, 28), (⟨"PipeKernelModel", "instruct", "(I)V"⟩, 28), (⟨"PipeKernelModel", "faultOf", "(I)I"⟩, 28), (⟨"PipeKernelModel", "top", "(II)I"⟩, 28), (⟨"PipeKernelModel", "rowFor", "(II)I"⟩, 28), (⟨"PipeKernelModel", "descriptorOf", "(II)I"⟩, 28), (⟨"PipeKernelModel", "many", "(I)I"⟩, 28), (⟨"PipeKernelModel", "end", "(II)V"⟩, 28)]
theorem lw_r3 : ∀ q ∈ lw_privs_3, lw_okq q := List.forall_mem_cons.mpr ⟨lw_p32, List.forall_mem_cons.mpr ⟨lw_p33, List.forall_mem_cons.mpr ⟨lw_p34, List.forall_mem_cons.mpr ⟨lw_p35, List.forall_mem_cons.mpr ⟨lw_p36, List.forall_mem_cons.mpr ⟨lw_p37, List.forall_mem_cons.mpr ⟨lw_p38, List.forall_mem_cons.mpr ⟨lw_p39, List.forall_mem_cons.mpr ⟨lw_p40, List.forall_mem_cons.mpr ⟨lw_p41, List.forall_mem_cons.mpr ⟨lw_p42, List.forall_mem_cons.mpr ⟨lw_p43, List.forall_mem_cons.mpr ⟨lw_p44, List.forall_mem_cons.mpr ⟨lw_p45, List.forall_mem_cons.mpr ⟨lw_p46, List.forall_mem_cons.mpr ⟨lw_p47, fun _ h => absurd h List.not_mem_nil⟩⟩⟩⟩⟩⟩⟩⟩⟩⟩⟩⟩⟩⟩⟩⟩
theorem lw_p48 : lw_okq (⟨"PipeKernelModel", "leaveQueue", "(I)V"⟩, 28) := ⟨⟨by decide +kernel, by decide +kernel⟩, List.mem_of_getElem? (i := 640) (by decide +kernel), List.mem_of_getElem? (i := 800) (by decide +kernel), List.mem_of_getElem? (i := 801) (by decide +kernel)⟩
theorem lw_p49 : lw_okq (⟨"PipeKernelModel", "leaveRow", "(II)V"⟩, 28) := ⟨⟨by decide +kernel, by decide +kernel⟩, List.mem_of_getElem? (i := 640) (by decide +kernel), List.mem_of_getElem? (i := 804) (by decide +kernel), List.mem_of_getElem? (i := 805) (by decide +kernel)⟩
theorem lw_p50 : lw_okq (⟨"PipeKernelModel", "shutEnd", "(II)V"⟩, 28) := ⟨⟨by decide +kernel, by decide +kernel⟩, List.mem_of_getElem? (i := 640) (by decide +kernel), List.mem_of_getElem? (i := 808) (by decide +kernel), List.mem_of_getElem? (i := 809) (by decide +kernel)⟩
theorem lw_p51 : lw_okq (⟨"PipeKernelModel", "wakeAll", "(I)V"⟩, 28) := ⟨⟨by decide +kernel, by decide +kernel⟩, List.mem_of_getElem? (i := 640) (by decide +kernel), List.mem_of_getElem? (i := 812) (by decide +kernel), List.mem_of_getElem? (i := 813) (by decide +kernel)⟩
theorem lw_p52 : lw_okq (⟨"PipeKernelModel", "wakeFirst", "(I)V"⟩, 28) := ⟨⟨by decide +kernel, by decide +kernel⟩, List.mem_of_getElem? (i := 640) (by decide +kernel), List.mem_of_getElem? (i := 816) (by decide +kernel), List.mem_of_getElem? (i := 817) (by decide +kernel)⟩
theorem lw_p53 : lw_okq (⟨"PipeKernelModel", "isPipe", "(I)Z"⟩, 28) := ⟨⟨by decide +kernel, by decide +kernel⟩, List.mem_of_getElem? (i := 640) (by decide +kernel), List.mem_of_getElem? (i := 820) (by decide +kernel), List.mem_of_getElem? (i := 821) (by decide +kernel)⟩
theorem lw_p54 : lw_okq (⟨"PipeKernelModel", "stand", "(III)V"⟩, 28) := ⟨⟨by decide +kernel, by decide +kernel⟩, List.mem_of_getElem? (i := 640) (by decide +kernel), List.mem_of_getElem? (i := 824) (by decide +kernel), List.mem_of_getElem? (i := 825) (by decide +kernel)⟩
theorem lw_p55 : lw_okq (⟨"PipeKernelModel", "plain", "(IIIII)V"⟩, 28) := ⟨⟨by decide +kernel, by decide +kernel⟩, List.mem_of_getElem? (i := 640) (by decide +kernel), List.mem_of_getElem? (i := 828) (by decide +kernel), List.mem_of_getElem? (i := 829) (by decide +kernel)⟩
theorem lw_p56 : lw_okq (⟨"PipeKernelModel", "push", "(II)V"⟩, 28) := ⟨⟨by decide +kernel, by decide +kernel⟩, List.mem_of_getElem? (i := 640) (by decide +kernel), List.mem_of_getElem? (i := 832) (by decide +kernel), List.mem_of_getElem? (i := 833) (by decide +kernel)⟩
theorem lw_p57 : lw_okq (⟨"PipeKernelModel", "call", "(IIII)V"⟩, 28) := ⟨⟨by decide +kernel, by decide +kernel⟩, List.mem_of_getElem? (i := 640) (by decide +kernel), List.mem_of_getElem? (i := 839) (by decide +kernel), List.mem_of_getElem? (i := 840) (by decide +kernel)⟩
theorem lw_p58 : lw_okq (⟨"PipeKernelModel", "toEnd", "(I)V"⟩, 28) := ⟨⟨by decide +kernel, by decide +kernel⟩, List.mem_of_getElem? (i := 640) (by decide +kernel), List.mem_of_getElem? (i := 843) (by decide +kernel), List.mem_of_getElem? (i := 844) (by decide +kernel)⟩
theorem lw_p59 : lw_okq (⟨"PipeKernelModel", "write", "(III)V"⟩, 28) := ⟨⟨by decide +kernel, by decide +kernel⟩, List.mem_of_getElem? (i := 640) (by decide +kernel), List.mem_of_getElem? (i := 847) (by decide +kernel), List.mem_of_getElem? (i := 848) (by decide +kernel)⟩
theorem lw_p60 : lw_okq (⟨"PipeKernelModel", "intoPipe", "(II)V"⟩, 28) := ⟨⟨by decide +kernel, by decide +kernel⟩, List.mem_of_getElem? (i := 640) (by decide +kernel), List.mem_of_getElem? (i := 851) (by decide +kernel), List.mem_of_getElem? (i := 852) (by decide +kernel)⟩
theorem lw_p61 : lw_okq (⟨"PipeKernelModel", "read", "(II)V"⟩, 28) := ⟨⟨by decide +kernel, by decide +kernel⟩, List.mem_of_getElem? (i := 640) (by decide +kernel), List.mem_of_getElem? (i := 855) (by decide +kernel), List.mem_of_getElem? (i := 856) (by decide +kernel)⟩
theorem lw_p62 : lw_okq (⟨"PipeKernelModel", "outOfPipe", "(I)I"⟩, 28) := ⟨⟨by decide +kernel, by decide +kernel⟩, List.mem_of_getElem? (i := 640) (by decide +kernel), List.mem_of_getElem? (i := 859) (by decide +kernel), List.mem_of_getElem? (i := 860) (by decide +kernel)⟩
theorem lw_p63 : lw_okq (⟨"PipeKernelModel", "fork", "(I)V"⟩, 28) := ⟨⟨by decide +kernel, by decide +kernel⟩, List.mem_of_getElem? (i := 640) (by decide +kernel), List.mem_of_getElem? (i := 863) (by decide +kernel), List.mem_of_getElem? (i := 864) (by decide +kernel)⟩
def lw_privs_4 : List (MethodName × Nat) := [(⟨"PipeKernelModel", "leaveQueue", "(I)V"⟩, 28), (⟨"PipeKernelModel", "leaveRow", "(II)V"⟩, 28), (⟨"PipeKernelModel", "shutEnd", "(II)V"⟩, 28), (⟨"PipeKernelModel", "wakeAll", "(I)V"⟩, 28), (⟨"PipeKernelModel", "wakeFirst", "(I)V"⟩, 28), (⟨"PipeKernelModel", "isPipe", "(I)Z"⟩, 28), (⟨"PipeKernelModel", "stand", "(III)V"⟩, 28), (⟨"PipeKernelModel", "plain", "(IIIII)V"⟩, 28), (⟨"PipeKernelModel", "push", "(II)V"⟩, 28), (⟨"PipeKernelModel", "call", "(IIII)V"⟩, 28), (⟨"PipeKernelModel", "toEnd", "(I)V"⟩, 28), (⟨"PipeKernelModel", "write", "(III)V"⟩, 28), (⟨"PipeKernelModel", "intoPipe", "(II)V"⟩, 28), (⟨"PipeKernelModel", "read", "(II)V"⟩, 28), (⟨"PipeKernelModel", "outOfPipe", "(I)I"⟩, 28), (⟨"PipeKernelModel", "fork", "(I)V"⟩, 28)]
theorem lw_r4 : ∀ q ∈ lw_privs_4, lw_okq q := List.forall_mem_cons.mpr ⟨lw_p48, List.forall_mem_cons.mpr ⟨lw_p49, List.forall_mem_cons.mpr ⟨lw_p50, List.forall_mem_cons.mpr ⟨lw_p51, List.forall_mem_cons.mpr ⟨lw_p52, List.forall_mem_cons.mpr ⟨lw_p53, List.forall_mem_cons.mpr ⟨lw_p54, List.forall_mem_cons.mpr ⟨lw_p55, List.forall_mem_cons.mpr ⟨lw_p56, List.forall_mem_cons.mpr ⟨lw_p57, List.forall_mem_cons.mpr ⟨lw_p58, List.forall_mem_cons.mpr ⟨lw_p59, List.forall_mem_cons.mpr ⟨lw_p60, List.forall_mem_cons.mpr ⟨lw_p61, List.forall_mem_cons.mpr ⟨lw_p62, List.forall_mem_cons.mpr ⟨lw_p63, fun _ h => absurd h List.not_mem_nil⟩⟩⟩⟩⟩⟩⟩⟩⟩⟩⟩⟩⟩⟩⟩⟩
theorem lw_p64 : lw_okq (⟨"PipeKernelModel", "await", "(I)V"⟩, 28) := ⟨⟨by decide +kernel, by decide +kernel⟩, List.mem_of_getElem? (i := 640) (by decide +kernel), List.mem_of_getElem? (i := 867) (by decide +kernel), List.mem_of_getElem? (i := 868) (by decide +kernel)⟩
theorem lw_p65 : lw_okq (⟨"PipeKernelModel", "kill", "(II)V"⟩, 28) := ⟨⟨by decide +kernel, by decide +kernel⟩, List.mem_of_getElem? (i := 640) (by decide +kernel), List.mem_of_getElem? (i := 871) (by decide +kernel), List.mem_of_getElem? (i := 872) (by decide +kernel)⟩
theorem lw_p66 : lw_okq (⟨"PipeKernelModel", "makePipe", "(I)V"⟩, 28) := ⟨⟨by decide +kernel, by decide +kernel⟩, List.mem_of_getElem? (i := 640) (by decide +kernel), List.mem_of_getElem? (i := 875) (by decide +kernel), List.mem_of_getElem? (i := 876) (by decide +kernel)⟩
theorem lw_p67 : lw_okq (⟨"PipeKernelModel", "freeDescriptor", "(II)I"⟩, 28) := ⟨⟨by decide +kernel, by decide +kernel⟩, List.mem_of_getElem? (i := 640) (by decide +kernel), List.mem_of_getElem? (i := 879) (by decide +kernel), List.mem_of_getElem? (i := 880) (by decide +kernel)⟩
theorem lw_p68 : lw_okq (⟨"PipeKernelModel", "dup", "(II)V"⟩, 28) := ⟨⟨by decide +kernel, by decide +kernel⟩, List.mem_of_getElem? (i := 640) (by decide +kernel), List.mem_of_getElem? (i := 883) (by decide +kernel), List.mem_of_getElem? (i := 884) (by decide +kernel)⟩
theorem lw_p69 : lw_okq (⟨"PipeKernelModel", "noProcess", "(I)Z"⟩, 28) := ⟨⟨by decide +kernel, by decide +kernel⟩, List.mem_of_getElem? (i := 640) (by decide +kernel), List.mem_of_getElem? (i := 904) (by decide +kernel), List.mem_of_getElem? (i := 905) (by decide +kernel)⟩
theorem lw_p70 : lw_okq (⟨"PipeKernelModel", "notThere", "(I)Z"⟩, 28) := ⟨⟨by decide +kernel, by decide +kernel⟩, List.mem_of_getElem? (i := 640) (by decide +kernel), List.mem_of_getElem? (i := 916) (by decide +kernel), List.mem_of_getElem? (i := 917) (by decide +kernel)⟩
def lw_privs_5 : List (MethodName × Nat) := [(⟨"PipeKernelModel", "await", "(I)V"⟩, 28), (⟨"PipeKernelModel", "kill", "(II)V"⟩, 28), (⟨"PipeKernelModel", "makePipe", "(I)V"⟩, 28), (⟨"PipeKernelModel", "freeDescriptor", "(II)I"⟩, 28), (⟨"PipeKernelModel", "dup", "(II)V"⟩, 28), (⟨"PipeKernelModel", "noProcess", "(I)Z"⟩, 28), (⟨"PipeKernelModel", "notThere", "(I)Z"⟩, 28)]
theorem lw_r5 : ∀ q ∈ lw_privs_5, lw_okq q := List.forall_mem_cons.mpr ⟨lw_p64, List.forall_mem_cons.mpr ⟨lw_p65, List.forall_mem_cons.mpr ⟨lw_p66, List.forall_mem_cons.mpr ⟨lw_p67, List.forall_mem_cons.mpr ⟨lw_p68, List.forall_mem_cons.mpr ⟨lw_p69, List.forall_mem_cons.mpr ⟨lw_p70, fun _ h => absurd h List.not_mem_nil⟩⟩⟩⟩⟩⟩⟩
def lw_privs : List (MethodName × Nat) := lw_privs_1 ++ (lw_privs_2 ++ (lw_privs_3 ++ (lw_privs_4 ++ (lw_privs_5))))
def lw_tbl : List Cond := k2_sels lw_privs ++ tables_1
theorem lw_privs_ok : ∀ q ∈ lw_privs, lw_okq q := by
  show ∀ q ∈ lw_privs_1 ++ (lw_privs_2 ++ (lw_privs_3 ++ (lw_privs_4 ++ (lw_privs_5)))), lw_okq q
  exact List.forall_mem_append.mpr ⟨lw_r1, List.forall_mem_append.mpr ⟨lw_r2, List.forall_mem_append.mpr ⟨lw_r3, List.forall_mem_append.mpr ⟨lw_r4, lw_r5⟩⟩⟩⟩
end
section
/-! names, printed by wip/gen/build.py -/
def R_P : String := "PipeKernel$Proc"
def F_P : u_T := fun k => match k with
  | 0 => ("PipeKernel$Proc", "number", "I", true)
  | 1 => ("PipeKernel$Proc", "memory", "[I", true)
  | 2 => ("PipeKernel$Proc", "words", "[I", true)
  | 3 => ("PipeKernel$Proc", "descriptors", "[I", true)
  | 4 => ("PipeKernel$Proc", "height", "I", false)
  | 5 => ("PipeKernel$Proc", "place", "I", false)
  | 6 => ("PipeKernel$Proc", "parent", "I", false)
  | 7 => ("PipeKernel$Proc", "state", "I", false)
  | 8 => ("PipeKernel$Proc", "code", "I", false)
  | 9 => ("PipeKernel$Proc", "wakeTime", "I", false)
  | 10 => ("PipeKernel$Proc", "waitsOn", "I", false)
  | _ => ("PipeKernel$Proc", "waitsSince", "I", false)
def t_P : Nat → FieldType := fun k => match k with
  | 0 => .int
  | 1 => .array .int
  | 2 => .array .int
  | 3 => .array .int
  | 4 => .int
  | 5 => .int
  | 6 => .int
  | 7 => .int
  | 8 => .int
  | 9 => .int
  | 10 => .int
  | _ => .int
theorem n_P : ∀ a, a < 12 → ∀ b, b < 12 → a ≠ b → (F_P a).2.1 ≠ (F_P b).2.1 := by decide +kernel
theorem t_P_ok : ∀ k, k < 12 → parseFieldDescriptor (F_P k).2.2.1 = some (t_P k) := by decide +kernel
def R_W : String := "PipeKernel$Words"
def F_W : u_T := fun k => match k with
  | 0 => ("PipeKernel$Words", "words", "[I", true)
  | 1 => ("PipeKernel$Words", "first", "I", false)
  | _ => ("PipeKernel$Words", "count", "I", false)
def t_W : Nat → FieldType := fun k => match k with
  | 0 => .array .int
  | 1 => .int
  | _ => .int
theorem n_W : ∀ a, a < 3 → ∀ b, b < 3 → a ≠ b → (F_W a).2.1 ≠ (F_W b).2.1 := by decide +kernel
theorem t_W_ok : ∀ k, k < 3 → parseFieldDescriptor (F_W k).2.2.1 = some (t_W k) := by decide +kernel
def R_K : String := "PipeKernel"
def F_K : u_T := fun k => match k with
  | 0 => ("PipeKernel", "quantum", "I", true)
  | 1 => ("PipeKernel", "procs", "[LPipeKernel$Proc;", true)
  | 2 => ("PipeKernel", "pipes", "[LPipeKernel$Words;", true)
  | 3 => ("PipeKernel", "ends", "[I", true)
  | 4 => ("PipeKernel", "ready", "[I", true)
  | 5 => ("PipeKernel", "readyCount", "I", false)
  | 6 => ("PipeKernel", "doneByFirst", "I", false)
  | 7 => ("PipeKernel", "now", "I", false)
  | 8 => ("PipeKernel", "waitsBegun", "I", false)
  | 9 => ("PipeKernel", "booted", "Z", false)
  | 10 => ("PipeKernel", "input", "LPipeKernel$Words;", true)
  | 11 => ("PipeKernel", "inputShut", "Z", false)
  | 12 => ("PipeKernel", "output", "LPipeKernel$Words;", true)
  | _ => ("PipeKernel", "outputCount", "I", false)
def t_K : Nat → FieldType := fun k => match k with
  | 0 => .int
  | 1 => .array (.object "PipeKernel$Proc")
  | 2 => .array (.object "PipeKernel$Words")
  | 3 => .array .int
  | 4 => .array .int
  | 5 => .int
  | 6 => .int
  | 7 => .int
  | 8 => .int
  | 9 => .boolean
  | 10 => .object "PipeKernel$Words"
  | 11 => .boolean
  | 12 => .object "PipeKernel$Words"
  | _ => .int
theorem n_K : ∀ a, a < 14 → ∀ b, b < 14 → a ≠ b → (F_K a).2.1 ≠ (F_K b).2.1 := by decide +kernel
theorem t_K_ok : ∀ k, k < 14 → parseFieldDescriptor (F_K k).2.2.1 = some (t_K k) := by decide +kernel
def R_M : String := "PipeKernelModel"
def F_M : u_T := fun k => match k with
  | 0 => ("PipeKernelModel", "code", "I", false)
  | 1 => ("PipeKernelModel", "quantum", "I", true)
  | 2 => ("PipeKernelModel", "capacity", "I", true)
  | 3 => ("PipeKernelModel", "booted", "Z", false)
  | 4 => ("PipeKernelModel", "time", "I", false)
  | 5 => ("PipeKernelModel", "image", "[I", true)
  | 6 => ("PipeKernelModel", "state", "[I", true)
  | 7 => ("PipeKernelModel", "memory", "[I", true)
  | 8 => ("PipeKernelModel", "stack", "[I", true)
  | 9 => ("PipeKernelModel", "size", "[I", true)
  | 10 => ("PipeKernelModel", "place", "[I", true)
  | 11 => ("PipeKernelModel", "descriptors", "[I", true)
  | 12 => ("PipeKernelModel", "parent", "[I", true)
  | 13 => ("PipeKernelModel", "codes", "[I", true)
  | 14 => ("PipeKernelModel", "until", "[I", true)
  | 15 => ("PipeKernelModel", "queue", "[I", true)
  | 16 => ("PipeKernelModel", "queued", "I", false)
  | 17 => ("PipeKernelModel", "done", "I", false)
  | 18 => ("PipeKernelModel", "moved", "Z", false)
  | 19 => ("PipeKernelModel", "waiting", "[I", true)
  | 20 => ("PipeKernelModel", "waits", "[I", true)
  | 21 => ("PipeKernelModel", "words", "[I", true)
  | 22 => ("PipeKernelModel", "filled", "[I", true)
  | 23 => ("PipeKernelModel", "input", "[I", true)
  | 24 => ("PipeKernelModel", "inputs", "I", false)
  | 25 => ("PipeKernelModel", "isShut", "Z", false)
  | 26 => ("PipeKernelModel", "output", "[I", true)
  | _ => ("PipeKernelModel", "outputs", "I", false)
def t_M : Nat → FieldType := fun k => match k with
  | 0 => .int
  | 1 => .int
  | 2 => .int
  | 3 => .boolean
  | 4 => .int
  | 5 => .array .int
  | 6 => .array .int
  | 7 => .array .int
  | 8 => .array .int
  | 9 => .array .int
  | 10 => .array .int
  | 11 => .array .int
  | 12 => .array .int
  | 13 => .array .int
  | 14 => .array .int
  | 15 => .array .int
  | 16 => .int
  | 17 => .int
  | 18 => .boolean
  | 19 => .array .int
  | 20 => .array .int
  | 21 => .array .int
  | 22 => .array .int
  | 23 => .array .int
  | 24 => .int
  | 25 => .boolean
  | 26 => .array .int
  | _ => .int
theorem n_M : ∀ a, a < 28 → ∀ b, b < 28 → a ≠ b → (F_M a).2.1 ≠ (F_M b).2.1 := by decide +kernel
theorem t_M_ok : ∀ k, k < 28 → parseFieldDescriptor (F_M k).2.2.1 = some (t_M k) := by decide +kernel
def R_I : String := "java/lang/Integer"
abbrev classes : List vw_C := [(R_P, F_P, 12), (R_W, F_W, 3), (R_K, F_K, 14), (R_M, F_M, 28)]
def gG : List Cond := lw_tbl.filter goodWord
theorem gG_of {w : Cond} (h : w ∈ lw_tbl) (hg : goodWord w = true) : w ∈ gG := List.mem_filter.mpr ⟨h, hg⟩
theorem gG_good : ∀ w ∈ gG, (w.onTables && w.keeps) = true ∨ ∃ ty, w = .arrayClass ty := fun w h => good_of_word (List.mem_filter.mp h).2
theorem tb_tables_1_1 {w : Cond} (h : w ∈ tables_1_1) (hg : goodWord w = true) : w ∈ gG := gG_of (List.mem_append_right _ (show w ∈ tables_1 from (List.mem_append_left _ h))) hg
theorem tb_tables_1_2 {w : Cond} (h : w ∈ tables_1_2) (hg : goodWord w = true) : w ∈ gG := gG_of (List.mem_append_right _ (show w ∈ tables_1 from (List.mem_append_right _ (List.mem_append_left _ h)))) hg
theorem tb_tables_1_3 {w : Cond} (h : w ∈ tables_1_3) (hg : goodWord w = true) : w ∈ gG := gG_of (List.mem_append_right _ (show w ∈ tables_1 from (List.mem_append_right _ (List.mem_append_right _ (List.mem_append_left _ h))))) hg
theorem tb_tables_1_4 {w : Cond} (h : w ∈ tables_1_4) (hg : goodWord w = true) : w ∈ gG := gG_of (List.mem_append_right _ (show w ∈ tables_1 from (List.mem_append_right _ (List.mem_append_right _ (List.mem_append_right _ h))))) hg
theorem tb_lw_privs_1 {q : MethodName × Nat} (h : q ∈ lw_privs_1) (hg : goodWord (Cond.selects q.1.cls q.1 q.1) = true) : Cond.selects q.1.cls q.1 q.1 ∈ gG := gG_of (List.mem_append_left _ (List.mem_map.mpr ⟨q, show q ∈ lw_privs from (List.mem_append_left _ h), rfl⟩)) hg
theorem tb_lw_privs_2 {q : MethodName × Nat} (h : q ∈ lw_privs_2) (hg : goodWord (Cond.selects q.1.cls q.1 q.1) = true) : Cond.selects q.1.cls q.1 q.1 ∈ gG := gG_of (List.mem_append_left _ (List.mem_map.mpr ⟨q, show q ∈ lw_privs from (List.mem_append_right _ (List.mem_append_left _ h)), rfl⟩)) hg
theorem tb_lw_privs_3 {q : MethodName × Nat} (h : q ∈ lw_privs_3) (hg : goodWord (Cond.selects q.1.cls q.1 q.1) = true) : Cond.selects q.1.cls q.1 q.1 ∈ gG := gG_of (List.mem_append_left _ (List.mem_map.mpr ⟨q, show q ∈ lw_privs from (List.mem_append_right _ (List.mem_append_right _ (List.mem_append_left _ h))), rfl⟩)) hg
theorem tb_lw_privs_4 {q : MethodName × Nat} (h : q ∈ lw_privs_4) (hg : goodWord (Cond.selects q.1.cls q.1 q.1) = true) : Cond.selects q.1.cls q.1 q.1 ∈ gG := gG_of (List.mem_append_left _ (List.mem_map.mpr ⟨q, show q ∈ lw_privs from (List.mem_append_right _ (List.mem_append_right _ (List.mem_append_right _ (List.mem_append_left _ h)))), rfl⟩)) hg
theorem tb_lw_privs_5 {q : MethodName × Nat} (h : q ∈ lw_privs_5) (hg : goodWord (Cond.selects q.1.cls q.1 q.1) = true) : Cond.selects q.1.cls q.1 q.1 ∈ gG := gG_of (List.mem_append_left _ (List.mem_map.mpr ⟨q, show q ∈ lw_privs from (List.mem_append_right _ (List.mem_append_right _ (List.mem_append_right _ (List.mem_append_right _ h)))), rfl⟩)) hg
def y_I_bitCount : MethodName := ⟨R_I, "bitCount", "(I)I"⟩
abbrev b_I_bitCount : ByteArray := prog_10_method_49_code
def v_I_bitCount : List Cond := .code y_I_bitCount b_I_bitCount 1 (some .int) :: gG
def m_I_bitCount : Room := { frames := 0, cells := 0, slots := 0, locals := 0 }
def y_W_isEmpty : MethodName := ⟨R_W, "isEmpty", "()Z"⟩
abbrev b_W_isEmpty : ByteArray := prog_3_method_2_code
def v_W_isEmpty : List Cond := .code y_W_isEmpty b_W_isEmpty 1 (some .boolean) :: gG
def m_W_isEmpty : Room := { frames := 0, cells := 0, slots := 0, locals := 0 }
def y_W_isFull : MethodName := ⟨R_W, "isFull", "()Z"⟩
abbrev b_W_isFull : ByteArray := prog_3_method_3_code
def v_W_isFull : List Cond := .code y_W_isFull b_W_isFull 1 (some .boolean) :: gG
def m_W_isFull : Room := { frames := 0, cells := 0, slots := 0, locals := 0 }
def y_W_at : MethodName := ⟨R_W, "at", "(I)I"⟩
abbrev b_W_at : ByteArray := prog_3_method_4_code
def v_W_at : List Cond := .code y_W_at b_W_at 2 (some .int) :: gG
def m_W_at : Room := { frames := 1, cells := 0, slots := 0, locals := 21 }
def y_W_add : MethodName := ⟨R_W, "add", "(I)V"⟩
abbrev b_W_add : ByteArray := prog_3_method_5_code
def v_W_add : List Cond := .code y_W_add b_W_add 2 none :: gG
def m_W_add : Room := { frames := 1, cells := 0, slots := 0, locals := 21 }
def y_W_take : MethodName := ⟨R_W, "take", "()I"⟩
abbrev b_W_take : ByteArray := prog_3_method_6_code
def v_W_take : List Cond := .code y_W_take b_W_take 2 (some .int) :: gG
def m_W_take : Room := { frames := 1, cells := 0, slots := 0, locals := 21 }
def y_W_clear : MethodName := ⟨R_W, "clear", "()V"⟩
abbrev b_W_clear : ByteArray := prog_3_method_7_code
def v_W_clear : List Cond := .code y_W_clear b_W_clear 1 none :: gG
def m_W_clear : Room := { frames := 0, cells := 0, slots := 0, locals := 0 }
def y_W_wrap : MethodName := ⟨R_W, "wrap", "(I)I"⟩
abbrev b_W_wrap : ByteArray := prog_3_method_8_code
def v_W_wrap : List Cond := .code y_W_wrap b_W_wrap 2 (some .int) :: gG
def m_W_wrap : Room := { frames := 0, cells := 0, slots := 0, locals := 0 }
def y_P_copy : MethodName := ⟨R_P, "copy", "(LPipeKernel$Proc;)V"⟩
abbrev b_P_copy : ByteArray := prog_2_method_2_code
def v_P_copy : List Cond := .code y_P_copy b_P_copy 2 none :: gG
def m_P_copy : Room := { frames := 1, cells := 0, slots := 0, locals := 60 }
def y_P_isChildOf : MethodName := ⟨R_P, "isChildOf", "(LPipeKernel$Proc;)Z"⟩
abbrev b_P_isChildOf : ByteArray := prog_2_method_3_code
def v_P_isChildOf : List Cond := .code y_P_isChildOf b_P_isChildOf 2 (some .boolean) :: gG
def m_P_isChildOf : Room := { frames := 0, cells := 0, slots := 0, locals := 0 }
def y_P_descriptorAt : MethodName := ⟨R_P, "descriptorAt", "(I)I"⟩
abbrev b_P_descriptorAt : ByteArray := prog_2_method_4_code
def v_P_descriptorAt : List Cond := .code y_P_descriptorAt b_P_descriptorAt 2 (some .int) :: gG
def m_P_descriptorAt : Room := { frames := 0, cells := 0, slots := 0, locals := 0 }
def y_P_leastClosed : MethodName := ⟨R_P, "leastClosed", "()I"⟩
abbrev b_P_leastClosed : ByteArray := prog_2_method_5_code
def v_P_leastClosed : List Cond := .code y_P_leastClosed b_P_leastClosed 2 (some .int) :: gG
def m_P_leastClosed : Room := { frames := 0, cells := 0, slots := 0, locals := 0 }
def y_P_countClosed : MethodName := ⟨R_P, "countClosed", "()I"⟩
abbrev b_P_countClosed : ByteArray := prog_2_method_6_code
def v_P_countClosed : List Cond := .code y_P_countClosed b_P_countClosed 1 (some .int) :: gG
def m_P_countClosed : Room := { frames := 1, cells := 0, slots := 0, locals := 22 }
def y_P_openDescriptors : MethodName := ⟨R_P, "openDescriptors", "()I"⟩
abbrev b_P_openDescriptors : ByteArray := prog_2_method_7_code
def v_P_openDescriptors : List Cond := .code y_P_openDescriptors b_P_openDescriptors 3 (some .int) :: gG
def m_P_openDescriptors : Room := { frames := 0, cells := 0, slots := 0, locals := 0 }
def y_P_top : MethodName := ⟨R_P, "top", "()I"⟩
abbrev b_P_top : ByteArray := prog_2_method_8_code
def v_P_top : List Cond := .code y_P_top b_P_top 1 (some .int) :: gG
def m_P_top : Room := { frames := 0, cells := 0, slots := 0, locals := 0 }
def y_P_pop : MethodName := ⟨R_P, "pop", "()I"⟩
abbrev b_P_pop : ByteArray := prog_2_method_9_code
def v_P_pop : List Cond := .code y_P_pop b_P_pop 1 (some .int) :: gG
def m_P_pop : Room := { frames := 0, cells := 0, slots := 0, locals := 0 }
def y_P_push : MethodName := ⟨R_P, "push", "(I)V"⟩
abbrev b_P_push : ByteArray := prog_2_method_10_code
def v_P_push : List Cond := .code y_P_push b_P_push 2 none :: gG
def m_P_push : Room := { frames := 0, cells := 0, slots := 0, locals := 0 }
def y_P_pushTwo : MethodName := ⟨R_P, "pushTwo", "(II)V"⟩
abbrev b_P_pushTwo : ByteArray := prog_2_method_11_code
def v_P_pushTwo : List Cond := .code y_P_pushTwo b_P_pushTwo 3 none :: gG
def m_P_pushTwo : Room := { frames := 1, cells := 0, slots := 0, locals := 21 }
def y_P_kind : MethodName := ⟨R_P, "kind", "()I"⟩
abbrev b_P_kind : ByteArray := prog_2_method_12_code
def v_P_kind : List Cond := .code y_P_kind b_P_kind 1 (some .int) :: gG
def m_P_kind : Room := { frames := 0, cells := 0, slots := 0, locals := 0 }
def y_P_operand : MethodName := ⟨R_P, "operand", "()I"⟩
abbrev b_P_operand : ByteArray := prog_2_method_13_code
def v_P_operand : List Cond := .code y_P_operand b_P_operand 1 (some .int) :: gG
def m_P_operand : Room := { frames := 0, cells := 0, slots := 0, locals := 0 }
def y_P_findFault : MethodName := ⟨R_P, "findFault", "()I"⟩
abbrev b_P_findFault : ByteArray := prog_2_method_14_code
def v_P_findFault : List Cond := .code y_P_findFault b_P_findFault 2 (some .int) :: gG
def m_P_findFault : Room := { frames := 1, cells := 0, slots := 0, locals := 20 }
def y_P_wouldOverflow : MethodName := ⟨R_P, "wouldOverflow", "()Z"⟩
abbrev b_P_wouldOverflow : ByteArray := prog_2_method_15_code
def v_P_wouldOverflow : List Cond := .code y_P_wouldOverflow b_P_wouldOverflow 1 (some .boolean) :: gG
def m_P_wouldOverflow : Room := { frames := 1, cells := 0, slots := 0, locals := 20 }
def y_P_isInMemory : MethodName := ⟨R_P, "isInMemory", "(I)Z"⟩
abbrev b_P_isInMemory : ByteArray := prog_2_method_16_code
def v_P_isInMemory : List Cond := .code y_P_isInMemory b_P_isInMemory 1 (some .boolean) :: gG
def m_P_isInMemory : Room := { frames := 0, cells := 0, slots := 0, locals := 0 }
def y_P_compute : MethodName := ⟨R_P, "compute", "(II)V"⟩
abbrev b_P_compute : ByteArray := prog_2_method_17_code
def v_P_compute : List Cond := .code y_P_compute b_P_compute 3 none :: gG
def m_P_compute : Room := { frames := 3, cells := 0, slots := 0, locals := 65 }
def y_P_swap : MethodName := ⟨R_P, "swap", "()V"⟩
abbrev b_P_swap : ByteArray := prog_2_method_18_code
def v_P_swap : List Cond := .code y_P_swap b_P_swap 3 none :: gG
def m_P_swap : Room := { frames := 2, cells := 0, slots := 0, locals := 43 }
def y_P_storeAt : MethodName := ⟨R_P, "storeAt", "(I)V"⟩
abbrev b_P_storeAt : ByteArray := prog_2_method_19_code
def v_P_storeAt : List Cond := .code y_P_storeAt b_P_storeAt 2 none :: gG
def m_P_storeAt : Room := { frames := 1, cells := 0, slots := 0, locals := 20 }
def y_P_combine : MethodName := ⟨R_P, "combine", "(I)V"⟩
abbrev b_P_combine : ByteArray := prog_2_method_20_code
def v_P_combine : List Cond := .code y_P_combine b_P_combine 4 none :: gG
def m_P_combine : Room := { frames := 1, cells := 0, slots := 0, locals := 22 }
def y_P_result : MethodName := ⟨R_P, "result", "(III)I"⟩
abbrev b_P_result : ByteArray := prog_2_method_21_code
def v_P_result : List Cond := .code y_P_result b_P_result 3 (some .int) :: gG
def m_P_result : Room := { frames := 0, cells := 0, slots := 0, locals := 0 }
def y_K_load : MethodName := ⟨R_K, "load", "(II)V"⟩
abbrev b_K_load : ByteArray := prog_1_method_2_code
def v_K_load : List Cond := .code y_K_load b_K_load 3 none :: gG
def m_K_load : Room := { frames := 6, cells := 1, slots := 6, locals := 110 }
def y_K_boot : MethodName := ⟨R_K, "boot", "()V"⟩
abbrev b_K_boot : ByteArray := prog_1_method_3_code
def v_K_boot : List Cond := .code y_K_boot b_K_boot 1 none :: gG
def m_K_boot : Room := { frames := 6, cells := 1, slots := 6, locals := 110 }
def y_K_run : MethodName := ⟨R_K, "run", "(I)I"⟩
abbrev b_K_run : ByteArray := prog_1_method_4_code
def v_K_run : List Cond := .code y_K_run b_K_run 3 (some .int) :: gG
def m_K_run : Room := { frames := 6, cells := 1, slots := 6, locals := 149 }
def y_K_feed : MethodName := ⟨R_K, "feed", "(I)I"⟩
abbrev b_K_feed : ByteArray := prog_1_method_5_code
def v_K_feed : List Cond := .code y_K_feed b_K_feed 2 (some .int) :: gG
def m_K_feed : Room := { frames := 6, cells := 1, slots := 6, locals := 110 }
def y_K_shut : MethodName := ⟨R_K, "shut", "()Z"⟩
abbrev b_K_shut : ByteArray := prog_1_method_6_code
def v_K_shut : List Cond := .code y_K_shut b_K_shut 1 (some .boolean) :: gG
def m_K_shut : Room := { frames := 2, cells := 0, slots := 0, locals := 47 }
def y_K_time : MethodName := ⟨R_K, "time", "()I"⟩
abbrev b_K_time : ByteArray := prog_1_method_7_code
def v_K_time : List Cond := .code y_K_time b_K_time 1 (some .int) :: gG
def m_K_time : Room := { frames := 0, cells := 0, slots := 0, locals := 0 }
def y_K_state : MethodName := ⟨R_K, "state", "(I)I"⟩
abbrev b_K_state : ByteArray := prog_1_method_8_code
def v_K_state : List Cond := .code y_K_state b_K_state 2 (some .int) :: gG
def m_K_state : Room := { frames := 6, cells := 1, slots := 6, locals := 110 }
def y_K_about : MethodName := ⟨R_K, "about", "(II)I"⟩
abbrev b_K_about : ByteArray := prog_1_method_9_code
def v_K_about : List Cond := .code y_K_about b_K_about 4 (some .int) :: gG
def m_K_about : Room := { frames := 6, cells := 1, slots := 6, locals := 110 }
def y_K_stack : MethodName := ⟨R_K, "stack", "(II)I"⟩
abbrev b_K_stack : ByteArray := prog_1_method_10_code
def v_K_stack : List Cond := .code y_K_stack b_K_stack 4 (some .int) :: gG
def m_K_stack : Room := { frames := 6, cells := 1, slots := 6, locals := 110 }
def y_K_memory : MethodName := ⟨R_K, "memory", "(II)I"⟩
abbrev b_K_memory : ByteArray := prog_1_method_11_code
def v_K_memory : List Cond := .code y_K_memory b_K_memory 3 (some .int) :: gG
def m_K_memory : Room := { frames := 6, cells := 1, slots := 6, locals := 110 }
def y_K_queue : MethodName := ⟨R_K, "queue", "(I)I"⟩
abbrev b_K_queue : ByteArray := prog_1_method_12_code
def v_K_queue : List Cond := .code y_K_queue b_K_queue 2 (some .int) :: gG
def m_K_queue : Room := { frames := 6, cells := 1, slots := 6, locals := 110 }
def y_K_descriptor : MethodName := ⟨R_K, "descriptor", "(II)I"⟩
abbrev b_K_descriptor : ByteArray := prog_1_method_13_code
def v_K_descriptor : List Cond := .code y_K_descriptor b_K_descriptor 3 (some .int) :: gG
def m_K_descriptor : Room := { frames := 6, cells := 1, slots := 6, locals := 110 }
def y_K_pipe : MethodName := ⟨R_K, "pipe", "(II)I"⟩
abbrev b_K_pipe : ByteArray := prog_1_method_14_code
def v_K_pipe : List Cond := .code y_K_pipe b_K_pipe 3 (some .int) :: gG
def m_K_pipe : Room := { frames := 6, cells := 1, slots := 6, locals := 110 }
def y_K_outs : MethodName := ⟨R_K, "outs", "()I"⟩
abbrev b_K_outs : ByteArray := prog_1_method_15_code
def v_K_outs : List Cond := .code y_K_outs b_K_outs 1 (some .int) :: gG
def m_K_outs : Room := { frames := 0, cells := 0, slots := 0, locals := 0 }
def y_K_out : MethodName := ⟨R_K, "out", "(I)I"⟩
abbrev b_K_out : ByteArray := prog_1_method_16_code
def v_K_out : List Cond := .code y_K_out b_K_out 2 (some .int) :: gG
def m_K_out : Room := { frames := 6, cells := 1, slots := 6, locals := 110 }
def y_K_goesOn : MethodName := ⟨R_K, "goesOn", "()Z"⟩
abbrev b_K_goesOn : ByteArray := prog_1_method_17_code
def v_K_goesOn : List Cond := .code y_K_goesOn b_K_goesOn 2 (some .boolean) :: gG
def m_K_goesOn : Room := { frames := 0, cells := 0, slots := 0, locals := 0 }
def y_K_step : MethodName := ⟨R_K, "step", "()V"⟩
abbrev b_K_step : ByteArray := prog_1_method_18_code
def v_K_step : List Cond := .code y_K_step b_K_step 3 none :: gG
def m_K_step : Room := { frames := 5, cells := 0, slots := 0, locals := 127 }
def y_K_wakeSleepers : MethodName := ⟨R_K, "wakeSleepers", "()V"⟩
abbrev b_K_wakeSleepers : ByteArray := prog_1_method_19_code
def v_K_wakeSleepers : List Cond := .code y_K_wakeSleepers b_K_wakeSleepers 2 none :: gG
def m_K_wakeSleepers : Room := { frames := 1, cells := 0, slots := 0, locals := 21 }
def y_K_mustWait : MethodName := ⟨R_K, "mustWait", "(LPipeKernel$Proc;)Z"⟩
abbrev b_K_mustWait : ByteArray := prog_1_method_20_code
def v_K_mustWait : List Cond := .code y_K_mustWait b_K_mustWait 2 (some .boolean) :: gG
def m_K_mustWait : Room := { frames := 2, cells := 0, slots := 0, locals := 43 }
def y_K_beginToWait : MethodName := ⟨R_K, "beginToWait", "(LPipeKernel$Proc;)V"⟩
abbrev b_K_beginToWait : ByteArray := prog_1_method_21_code
def v_K_beginToWait : List Cond := .code y_K_beginToWait b_K_beginToWait 3 none :: gG
def m_K_beginToWait : Room := { frames := 1, cells := 0, slots := 0, locals := 23 }
def y_K_writeBlocks : MethodName := ⟨R_K, "writeBlocks", "(I)Z"⟩
abbrev b_K_writeBlocks : ByteArray := prog_1_method_22_code
def v_K_writeBlocks : List Cond := .code y_K_writeBlocks b_K_writeBlocks 2 (some .boolean) :: gG
def m_K_writeBlocks : Room := { frames := 1, cells := 0, slots := 0, locals := 20 }
def y_K_readBlocks : MethodName := ⟨R_K, "readBlocks", "(I)Z"⟩
abbrev b_K_readBlocks : ByteArray := prog_1_method_23_code
def v_K_readBlocks : List Cond := .code y_K_readBlocks b_K_readBlocks 2 (some .boolean) :: gG
def m_K_readBlocks : Room := { frames := 1, cells := 0, slots := 0, locals := 20 }
def y_K_perform : MethodName := ⟨R_K, "perform", "(LPipeKernel$Proc;)V"⟩
abbrev b_K_perform : ByteArray := prog_1_method_24_code
def v_K_perform : List Cond := .code y_K_perform b_K_perform 4 none :: gG
def m_K_perform : Room := { frames := 4, cells := 0, slots := 0, locals := 104 }
def y_K_write : MethodName := ⟨R_K, "write", "(LPipeKernel$Proc;)V"⟩
abbrev b_K_write : ByteArray := prog_1_method_25_code
def v_K_write : List Cond := .code y_K_write b_K_write 4 none :: gG
def m_K_write : Room := { frames := 3, cells := 0, slots := 0, locals := 63 }
def y_K_print : MethodName := ⟨R_K, "print", "(I)V"⟩
abbrev b_K_print : ByteArray := prog_1_method_26_code
def v_K_print : List Cond := .code y_K_print b_K_print 2 none :: gG
def m_K_print : Room := { frames := 2, cells := 0, slots := 0, locals := 42 }
def y_K_read : MethodName := ⟨R_K, "read", "(LPipeKernel$Proc;)V"⟩
abbrev b_K_read : ByteArray := prog_1_method_27_code
def v_K_read : List Cond := .code y_K_read b_K_read 3 none :: gG
def m_K_read : Room := { frames := 3, cells := 0, slots := 0, locals := 65 }
def y_K_pushNext : MethodName := ⟨R_K, "pushNext", "(LPipeKernel$Proc;LPipeKernel$Words;)Z"⟩
abbrev b_K_pushNext : ByteArray := prog_1_method_28_code
def v_K_pushNext : List Cond := .code y_K_pushNext b_K_pushNext 3 (some .boolean) :: gG
def m_K_pushNext : Room := { frames := 2, cells := 0, slots := 0, locals := 43 }
def y_K_fork : MethodName := ⟨R_K, "fork", "(LPipeKernel$Proc;)V"⟩
abbrev b_K_fork : ByteArray := prog_1_method_29_code
def v_K_fork : List Cond := .code y_K_fork b_K_fork 4 none :: gG
def m_K_fork : Room := { frames := 2, cells := 0, slots := 0, locals := 81 }
def y_K_freeProc : MethodName := ⟨R_K, "freeProc", "()LPipeKernel$Proc;"⟩
abbrev b_K_freeProc : ByteArray := prog_1_method_30_code
def v_K_freeProc : List Cond := .code y_K_freeProc b_K_freeProc 2 (some (.object "PipeKernel$Proc")) :: gG
def m_K_freeProc : Room := { frames := 0, cells := 0, slots := 0, locals := 0 }
def y_K_takeEndedChild : MethodName := ⟨R_K, "takeEndedChild", "(LPipeKernel$Proc;)V"⟩
abbrev b_K_takeEndedChild : ByteArray := prog_1_method_31_code
def v_K_takeEndedChild : List Cond := .code y_K_takeEndedChild b_K_takeEndedChild 3 none :: gG
def m_K_takeEndedChild : Room := { frames := 2, cells := 0, slots := 0, locals := 43 }
def y_K_hasChild : MethodName := ⟨R_K, "hasChild", "(LPipeKernel$Proc;)Z"⟩
abbrev b_K_hasChild : ByteArray := prog_1_method_32_code
def v_K_hasChild : List Cond := .code y_K_hasChild b_K_hasChild 3 (some .boolean) :: gG
def m_K_hasChild : Room := { frames := 1, cells := 0, slots := 0, locals := 21 }
def y_K_endedChild : MethodName := ⟨R_K, "endedChild", "(LPipeKernel$Proc;)LPipeKernel$Proc;"⟩
abbrev b_K_endedChild : ByteArray := prog_1_method_33_code
def v_K_endedChild : List Cond := .code y_K_endedChild b_K_endedChild 3 (some (.object "PipeKernel$Proc")) :: gG
def m_K_endedChild : Room := { frames := 1, cells := 0, slots := 0, locals := 21 }
def y_K_kill : MethodName := ⟨R_K, "kill", "(LPipeKernel$Proc;)V"⟩
abbrev b_K_kill : ByteArray := prog_1_method_34_code
def v_K_kill : List Cond := .code y_K_kill b_K_kill 3 none :: gG
def m_K_kill : Room := { frames := 3, cells := 0, slots := 0, locals := 70 }
def y_K_openPipe : MethodName := ⟨R_K, "openPipe", "(LPipeKernel$Proc;)V"⟩
abbrev b_K_openPipe : ByteArray := prog_1_method_35_code
def v_K_openPipe : List Cond := .code y_K_openPipe b_K_openPipe 5 none :: gG
def m_K_openPipe : Room := { frames := 2, cells := 0, slots := 0, locals := 44 }
def y_K_freePipe : MethodName := ⟨R_K, "freePipe", "()I"⟩
abbrev b_K_freePipe : ByteArray := prog_1_method_36_code
def v_K_freePipe : List Cond := .code y_K_freePipe b_K_freePipe 2 (some .int) :: gG
def m_K_freePipe : Room := { frames := 0, cells := 0, slots := 0, locals := 0 }
def y_K_openDescriptor : MethodName := ⟨R_K, "openDescriptor", "(LPipeKernel$Proc;I)I"⟩
abbrev b_K_openDescriptor : ByteArray := prog_1_method_37_code
def v_K_openDescriptor : List Cond := .code y_K_openDescriptor b_K_openDescriptor 4 (some .int) :: gG
def m_K_openDescriptor : Room := { frames := 1, cells := 0, slots := 0, locals := 21 }
def y_K_addEnd : MethodName := ⟨R_K, "addEnd", "(I)V"⟩
abbrev b_K_addEnd : ByteArray := prog_1_method_38_code
def v_K_addEnd : List Cond := .code y_K_addEnd b_K_addEnd 2 none :: gG
def m_K_addEnd : Room := { frames := 0, cells := 0, slots := 0, locals := 0 }
def y_K_close : MethodName := ⟨R_K, "close", "(LPipeKernel$Proc;)V"⟩
abbrev b_K_close : ByteArray := prog_1_method_39_code
def v_K_close : List Cond := .code y_K_close b_K_close 3 none :: gG
def m_K_close : Room := { frames := 2, cells := 0, slots := 0, locals := 47 }
def y_K_closeDescriptor : MethodName := ⟨R_K, "closeDescriptor", "(LPipeKernel$Proc;I)I"⟩
abbrev b_K_closeDescriptor : ByteArray := prog_1_method_40_code
def v_K_closeDescriptor : List Cond := .code y_K_closeDescriptor b_K_closeDescriptor 5 (some .int) :: gG
def m_K_closeDescriptor : Room := { frames := 1, cells := 0, slots := 0, locals := 20 }
def y_K_duplicate : MethodName := ⟨R_K, "duplicate", "(LPipeKernel$Proc;)V"⟩
abbrev b_K_duplicate : ByteArray := prog_1_method_41_code
def v_K_duplicate : List Cond := .code y_K_duplicate b_K_duplicate 3 none :: gG
def m_K_duplicate : Room := { frames := 2, cells := 0, slots := 0, locals := 44 }
def y_K_sleep : MethodName := ⟨R_K, "sleep", "(LPipeKernel$Proc;)V"⟩
abbrev b_K_sleep : ByteArray := prog_1_method_42_code
def v_K_sleep : List Cond := .code y_K_sleep b_K_sleep 3 none :: gG
def m_K_sleep : Room := { frames := 1, cells := 0, slots := 0, locals := 23 }
def y_K_end : MethodName := ⟨R_K, "end", "(LPipeKernel$Proc;I)V"⟩
abbrev b_K_end : ByteArray := prog_1_method_43_code
def v_K_end : List Cond := .code y_K_end b_K_end 4 none :: gG
def m_K_end : Room := { frames := 2, cells := 0, slots := 0, locals := 47 }
def y_K_handOverChildren : MethodName := ⟨R_K, "handOverChildren", "(LPipeKernel$Proc;)V"⟩
abbrev b_K_handOverChildren : ByteArray := prog_1_method_44_code
def v_K_handOverChildren : List Cond := .code y_K_handOverChildren b_K_handOverChildren 5 none :: gG
def m_K_handOverChildren : Room := { frames := 1, cells := 0, slots := 0, locals := 21 }
def y_K_isThere : MethodName := ⟨R_K, "isThere", "(I)Z"⟩
abbrev b_K_isThere : ByteArray := prog_1_method_45_code
def v_K_isThere : List Cond := .code y_K_isThere b_K_isThere 2 (some .boolean) :: gG
def m_K_isThere : Room := { frames := 0, cells := 0, slots := 0, locals := 0 }
def y_K_isReadingEnd : MethodName := ⟨R_K, "isReadingEnd", "(I)Z"⟩
abbrev b_K_isReadingEnd : ByteArray := prog_1_method_46_code
def v_K_isReadingEnd : List Cond := .code y_K_isReadingEnd b_K_isReadingEnd 1 (some .boolean) :: gG
def m_K_isReadingEnd : Room := { frames := 0, cells := 0, slots := 0, locals := 0 }
def y_K_isWritingEnd : MethodName := ⟨R_K, "isWritingEnd", "(I)Z"⟩
abbrev b_K_isWritingEnd : ByteArray := prog_1_method_47_code
def v_K_isWritingEnd : List Cond := .code y_K_isWritingEnd b_K_isWritingEnd 1 (some .boolean) :: gG
def m_K_isWritingEnd : Room := { frames := 0, cells := 0, slots := 0, locals := 0 }
def y_K_otherEnd : MethodName := ⟨R_K, "otherEnd", "(I)I"⟩
abbrev b_K_otherEnd : ByteArray := prog_1_method_48_code
def v_K_otherEnd : List Cond := .code y_K_otherEnd b_K_otherEnd 1 (some .int) :: gG
def m_K_otherEnd : Room := { frames := 0, cells := 0, slots := 0, locals := 0 }
def y_K_countWaiting : MethodName := ⟨R_K, "countWaiting", "(I)I"⟩
abbrev b_K_countWaiting : ByteArray := prog_1_method_49_code
def v_K_countWaiting : List Cond := .code y_K_countWaiting b_K_countWaiting 4 (some .int) :: gG
def m_K_countWaiting : Room := { frames := 0, cells := 0, slots := 0, locals := 0 }
def y_K_longestWaiting : MethodName := ⟨R_K, "longestWaiting", "(I)LPipeKernel$Proc;"⟩
abbrev b_K_longestWaiting : ByteArray := prog_1_method_50_code
def v_K_longestWaiting : List Cond := .code y_K_longestWaiting b_K_longestWaiting 5 (some (.object "PipeKernel$Proc")) :: gG
def m_K_longestWaiting : Room := { frames := 0, cells := 0, slots := 0, locals := 0 }
def y_K_wakeFirst : MethodName := ⟨R_K, "wakeFirst", "(I)V"⟩
abbrev b_K_wakeFirst : ByteArray := prog_1_method_51_code
def v_K_wakeFirst : List Cond := .code y_K_wakeFirst b_K_wakeFirst 3 none :: gG
def m_K_wakeFirst : Room := { frames := 1, cells := 0, slots := 0, locals := 24 }
def y_K_wakeAll : MethodName := ⟨R_K, "wakeAll", "(I)V"⟩
abbrev b_K_wakeAll : ByteArray := prog_1_method_52_code
def v_K_wakeAll : List Cond := .code y_K_wakeAll b_K_wakeAll 4 none :: gG
def m_K_wakeAll : Room := { frames := 1, cells := 0, slots := 0, locals := 24 }
def y_K_makeReady : MethodName := ⟨R_K, "makeReady", "(LPipeKernel$Proc;)V"⟩
abbrev b_K_makeReady : ByteArray := prog_1_method_53_code
def v_K_makeReady : List Cond := .code y_K_makeReady b_K_makeReady 2 none :: gG
def m_K_makeReady : Room := { frames := 0, cells := 0, slots := 0, locals := 0 }
def y_K_leaveQueue : MethodName := ⟨R_K, "leaveQueue", "(LPipeKernel$Proc;)V"⟩
abbrev b_K_leaveQueue : ByteArray := prog_1_method_54_code
def v_K_leaveQueue : List Cond := .code y_K_leaveQueue b_K_leaveQueue 4 none :: gG
def m_K_leaveQueue : Room := { frames := 0, cells := 0, slots := 0, locals := 0 }
def y_K_goToQueueEnd : MethodName := ⟨R_K, "goToQueueEnd", "(LPipeKernel$Proc;)V"⟩
abbrev b_K_goToQueueEnd : ByteArray := prog_1_method_55_code
def v_K_goToQueueEnd : List Cond := .code y_K_goToQueueEnd b_K_goToQueueEnd 2 none :: gG
def m_K_goToQueueEnd : Room := { frames := 1, cells := 0, slots := 0, locals := 23 }
def y_M_thrown : MethodName := ⟨R_M, "thrown", "()I"⟩
abbrev b_M_thrown : ByteArray := prog_5_method_2_code
def v_M_thrown : List Cond := .code y_M_thrown b_M_thrown 1 (some .int) :: gG
def m_M_thrown : Room := { frames := 0, cells := 0, slots := 0, locals := 0 }
def y_M_load : MethodName := ⟨R_M, "load", "(II)V"⟩
abbrev b_M_load : ByteArray := prog_5_method_3_code
def v_M_load : List Cond := .code y_M_load b_M_load 3 none :: gG
def m_M_load : Room := { frames := 0, cells := 0, slots := 0, locals := 0 }
def y_M_boot : MethodName := ⟨R_M, "boot", "()V"⟩
abbrev b_M_boot : ByteArray := prog_5_method_4_code
def v_M_boot : List Cond := .code y_M_boot b_M_boot 2 none :: gG
def m_M_boot : Room := { frames := 1, cells := 0, slots := 0, locals := 21 }
def y_M_ready : MethodName := ⟨R_M, "ready", "(I)V"⟩
abbrev b_M_ready : ByteArray := prog_5_method_5_code
def v_M_ready : List Cond := .code y_M_ready b_M_ready 2 none :: gG
def m_M_ready : Room := { frames := 0, cells := 0, slots := 0, locals := 0 }
def y_M_leaveQueue : MethodName := ⟨R_M, "leaveQueue", "(I)V"⟩
abbrev b_M_leaveQueue : ByteArray := prog_5_method_6_code
def v_M_leaveQueue : List Cond := .code y_M_leaveQueue b_M_leaveQueue 5 none :: gG
def m_M_leaveQueue : Room := { frames := 0, cells := 0, slots := 0, locals := 0 }
def y_M_toEnd : MethodName := ⟨R_M, "toEnd", "(I)V"⟩
abbrev b_M_toEnd : ByteArray := prog_5_method_7_code
def v_M_toEnd : List Cond := .code y_M_toEnd b_M_toEnd 2 none :: gG
def m_M_toEnd : Room := { frames := 1, cells := 0, slots := 0, locals := 24 }
def y_M_stand : MethodName := ⟨R_M, "stand", "(III)V"⟩
abbrev b_M_stand : ByteArray := prog_5_method_8_code
def v_M_stand : List Cond := .code y_M_stand b_M_stand 4 none :: gG
def m_M_stand : Room := { frames := 1, cells := 0, slots := 0, locals := 24 }
def y_M_leaveRow : MethodName := ⟨R_M, "leaveRow", "(II)V"⟩
abbrev b_M_leaveRow : ByteArray := prog_5_method_9_code
def v_M_leaveRow : List Cond := .code y_M_leaveRow b_M_leaveRow 5 none :: gG
def m_M_leaveRow : Room := { frames := 0, cells := 0, slots := 0, locals := 0 }
def y_M_wakeFirst : MethodName := ⟨R_M, "wakeFirst", "(I)V"⟩
abbrev b_M_wakeFirst : ByteArray := prog_5_method_10_code
def v_M_wakeFirst : List Cond := .code y_M_wakeFirst b_M_wakeFirst 3 none :: gG
def m_M_wakeFirst : Room := { frames := 1, cells := 0, slots := 0, locals := 24 }
def y_M_wakeAll : MethodName := ⟨R_M, "wakeAll", "(I)V"⟩
abbrev b_M_wakeAll : ByteArray := prog_5_method_11_code
def v_M_wakeAll : List Cond := .code y_M_wakeAll b_M_wakeAll 2 none :: gG
def m_M_wakeAll : Room := { frames := 2, cells := 0, slots := 0, locals := 46 }
def y_M_many : MethodName := ⟨R_M, "many", "(I)I"⟩
abbrev b_M_many : ByteArray := prog_5_method_12_code
def v_M_many : List Cond := .code y_M_many b_M_many 4 (some .int) :: gG
def m_M_many : Room := { frames := 0, cells := 0, slots := 0, locals := 0 }
def y_M_isPipe : MethodName := ⟨R_M, "isPipe", "(I)Z"⟩
abbrev b_M_isPipe : ByteArray := prog_5_method_13_code
def v_M_isPipe : List Cond := .code y_M_isPipe b_M_isPipe 2 (some .boolean) :: gG
def m_M_isPipe : Room := { frames := 1, cells := 0, slots := 0, locals := 23 }
def y_M_descriptorOf : MethodName := ⟨R_M, "descriptorOf", "(II)I"⟩
abbrev b_M_descriptorOf : ByteArray := prog_5_method_14_code
def v_M_descriptorOf : List Cond := .code y_M_descriptorOf b_M_descriptorOf 3 (some .int) :: gG
def m_M_descriptorOf : Room := { frames := 0, cells := 0, slots := 0, locals := 0 }
def y_M_shutEnd : MethodName := ⟨R_M, "shutEnd", "(II)V"⟩
abbrev b_M_shutEnd : ByteArray := prog_5_method_15_code
def v_M_shutEnd : List Cond := .code y_M_shutEnd b_M_shutEnd 5 none :: gG
def m_M_shutEnd : Room := { frames := 3, cells := 0, slots := 0, locals := 67 }
def y_M_intoPipe : MethodName := ⟨R_M, "intoPipe", "(II)V"⟩
abbrev b_M_intoPipe : ByteArray := prog_5_method_16_code
def v_M_intoPipe : List Cond := .code y_M_intoPipe b_M_intoPipe 3 none :: gG
def m_M_intoPipe : Room := { frames := 2, cells := 0, slots := 0, locals := 46 }
def y_M_outOfPipe : MethodName := ⟨R_M, "outOfPipe", "(I)I"⟩
abbrev b_M_outOfPipe : ByteArray := prog_5_method_17_code
def v_M_outOfPipe : List Cond := .code y_M_outOfPipe b_M_outOfPipe 4 (some .int) :: gG
def m_M_outOfPipe : Room := { frames := 2, cells := 0, slots := 0, locals := 46 }
def y_M_end : MethodName := ⟨R_M, "end", "(II)V"⟩
abbrev b_M_end : ByteArray := prog_5_method_18_code
def v_M_end : List Cond := .code y_M_end b_M_end 6 none :: gG
def m_M_end : Room := { frames := 4, cells := 0, slots := 0, locals := 91 }
def y_M_top : MethodName := ⟨R_M, "top", "(II)I"⟩
abbrev b_M_top : ByteArray := prog_5_method_19_code
def v_M_top : List Cond := .code y_M_top b_M_top 3 (some .int) :: gG
def m_M_top : Room := { frames := 0, cells := 0, slots := 0, locals := 0 }
def y_M_push : MethodName := ⟨R_M, "push", "(II)V"⟩
abbrev b_M_push : ByteArray := prog_5_method_20_code
def v_M_push : List Cond := .code y_M_push b_M_push 3 none :: gG
def m_M_push : Room := { frames := 0, cells := 0, slots := 0, locals := 0 }
def y_M_looks : MethodName := ⟨R_M, "looks", "(I)I"⟩
abbrev b_M_looks : ByteArray := prog_5_method_21_code
def v_M_looks : List Cond := .code y_M_looks b_M_looks 1 (some .int) :: gG
def m_M_looks : Room := { frames := 0, cells := 0, slots := 0, locals := 0 }
def y_M_pushes : MethodName := ⟨R_M, "pushes", "(I)I"⟩
abbrev b_M_pushes : ByteArray := prog_5_method_22_code
def v_M_pushes : List Cond := .code y_M_pushes b_M_pushes 2 (some .int) :: gG
def m_M_pushes : Room := { frames := 0, cells := 0, slots := 0, locals := 0 }
def y_M_rowFor : MethodName := ⟨R_M, "rowFor", "(II)I"⟩
abbrev b_M_rowFor : ByteArray := prog_5_method_23_code
def v_M_rowFor : List Cond := .code y_M_rowFor b_M_rowFor 6 (some .int) :: gG
def m_M_rowFor : Room := { frames := 1, cells := 0, slots := 0, locals := 23 }
def y_M_isWord : MethodName := ⟨R_M, "isWord", "(I)Z"⟩
abbrev b_M_isWord : ByteArray := prog_5_method_24_code
def v_M_isWord : List Cond := .code y_M_isWord b_M_isWord 1 (some .boolean) :: gG
def m_M_isWord : Room := { frames := 0, cells := 0, slots := 0, locals := 0 }
def y_M_faultOf : MethodName := ⟨R_M, "faultOf", "(I)I"⟩
abbrev b_M_faultOf : ByteArray := prog_5_method_25_code
def v_M_faultOf : List Cond := .code y_M_faultOf b_M_faultOf 7 (some .int) :: gG
def m_M_faultOf : Room := { frames := 2, cells := 0, slots := 0, locals := 48 }
def y_M_reckon : MethodName := ⟨R_M, "reckon", "(III)I"⟩
abbrev b_M_reckon : ByteArray := prog_5_method_26_code
def v_M_reckon : List Cond := .code y_M_reckon b_M_reckon 3 (some .int) :: gG
def m_M_reckon : Room := { frames := 0, cells := 0, slots := 0, locals := 0 }
def y_M_instruct : MethodName := ⟨R_M, "instruct", "(I)V"⟩
abbrev b_M_instruct : ByteArray := prog_5_method_27_code
def v_M_instruct : List Cond := .code y_M_instruct b_M_instruct 9 none :: gG
def m_M_instruct : Room := { frames := 7, cells := 0, slots := 0, locals := 163 }
def y_M_plain : MethodName := ⟨R_M, "plain", "(IIIII)V"⟩
abbrev b_M_plain : ByteArray := prog_5_method_28_code
def v_M_plain : List Cond := .code y_M_plain b_M_plain 7 none :: gG
def m_M_plain : Room := { frames := 1, cells := 0, slots := 0, locals := 22 }
def y_M_call : MethodName := ⟨R_M, "call", "(IIII)V"⟩
abbrev b_M_call : ByteArray := prog_5_method_29_code
def v_M_call : List Cond := .code y_M_call b_M_call 5 none :: gG
def m_M_call : Room := { frames := 6, cells := 0, slots := 0, locals := 139 }
def y_M_write : MethodName := ⟨R_M, "write", "(III)V"⟩
abbrev b_M_write : ByteArray := prog_5_method_30_code
def v_M_write : List Cond := .code y_M_write b_M_write 6 none :: gG
def m_M_write : Room := { frames := 3, cells := 0, slots := 0, locals := 68 }
def y_M_read : MethodName := ⟨R_M, "read", "(II)V"⟩
abbrev b_M_read : ByteArray := prog_5_method_31_code
def v_M_read : List Cond := .code y_M_read b_M_read 5 none :: gG
def m_M_read : Room := { frames := 3, cells := 0, slots := 0, locals := 69 }
def y_M_fork : MethodName := ⟨R_M, "fork", "(I)V"⟩
abbrev b_M_fork : ByteArray := prog_5_method_32_code
def v_M_fork : List Cond := .code y_M_fork b_M_fork 4 none :: gG
def m_M_fork : Room := { frames := 1, cells := 0, slots := 0, locals := 22 }
def y_M_await : MethodName := ⟨R_M, "await", "(I)V"⟩
abbrev b_M_await : ByteArray := prog_5_method_33_code
def v_M_await : List Cond := .code y_M_await b_M_await 3 none :: gG
def m_M_await : Room := { frames := 1, cells := 0, slots := 0, locals := 22 }
def y_M_kill : MethodName := ⟨R_M, "kill", "(II)V"⟩
abbrev b_M_kill : ByteArray := prog_5_method_34_code
def v_M_kill : List Cond := .code y_M_kill b_M_kill 4 none :: gG
def m_M_kill : Room := { frames := 5, cells := 0, slots := 0, locals := 116 }
def y_M_freeDescriptor : MethodName := ⟨R_M, "freeDescriptor", "(II)I"⟩
abbrev b_M_freeDescriptor : ByteArray := prog_5_method_35_code
def v_M_freeDescriptor : List Cond := .code y_M_freeDescriptor b_M_freeDescriptor 4 (some .int) :: gG
def m_M_freeDescriptor : Room := { frames := 0, cells := 0, slots := 0, locals := 0 }
def y_M_makePipe : MethodName := ⟨R_M, "makePipe", "(I)V"⟩
abbrev b_M_makePipe : ByteArray := prog_5_method_36_code
def v_M_makePipe : List Cond := .code y_M_makePipe b_M_makePipe 5 none :: gG
def m_M_makePipe : Room := { frames := 2, cells := 0, slots := 0, locals := 44 }
def y_M_dup : MethodName := ⟨R_M, "dup", "(II)V"⟩
abbrev b_M_dup : ByteArray := prog_5_method_37_code
def v_M_dup : List Cond := .code y_M_dup b_M_dup 4 none :: gG
def m_M_dup : Room := { frames := 1, cells := 0, slots := 0, locals := 23 }
def y_M_wakeSleepers : MethodName := ⟨R_M, "wakeSleepers", "()V"⟩
abbrev b_M_wakeSleepers : ByteArray := prog_5_method_38_code
def v_M_wakeSleepers : List Cond := .code y_M_wakeSleepers b_M_wakeSleepers 4 none :: gG
def m_M_wakeSleepers : Room := { frames := 1, cells := 0, slots := 0, locals := 21 }
def y_M_step : MethodName := ⟨R_M, "step", "()V"⟩
abbrev b_M_step : ByteArray := prog_5_method_39_code
def v_M_step : List Cond := .code y_M_step b_M_step 2 none :: gG
def m_M_step : Room := { frames := 8, cells := 0, slots := 0, locals := 191 }
def y_M_goesOn : MethodName := ⟨R_M, "goesOn", "()Z"⟩
abbrev b_M_goesOn : ByteArray := prog_5_method_40_code
def v_M_goesOn : List Cond := .code y_M_goesOn b_M_goesOn 3 (some .boolean) :: gG
def m_M_goesOn : Room := { frames := 0, cells := 0, slots := 0, locals := 0 }
def y_M_run : MethodName := ⟨R_M, "run", "(I)I"⟩
abbrev b_M_run : ByteArray := prog_5_method_41_code
def v_M_run : List Cond := .code y_M_run b_M_run 3 (some .int) :: gG
def m_M_run : Room := { frames := 9, cells := 0, slots := 0, locals := 212 }
def y_M_feed : MethodName := ⟨R_M, "feed", "(I)I"⟩
abbrev b_M_feed : ByteArray := prog_5_method_42_code
def v_M_feed : List Cond := .code y_M_feed b_M_feed 2 (some .int) :: gG
def m_M_feed : Room := { frames := 2, cells := 0, slots := 0, locals := 46 }
def y_M_shut : MethodName := ⟨R_M, "shut", "()Z"⟩
abbrev b_M_shut : ByteArray := prog_5_method_43_code
def v_M_shut : List Cond := .code y_M_shut b_M_shut 2 (some .boolean) :: gG
def m_M_shut : Room := { frames := 3, cells := 0, slots := 0, locals := 67 }
def y_M_time : MethodName := ⟨R_M, "time", "()I"⟩
abbrev b_M_time : ByteArray := prog_5_method_44_code
def v_M_time : List Cond := .code y_M_time b_M_time 1 (some .int) :: gG
def m_M_time : Room := { frames := 0, cells := 0, slots := 0, locals := 0 }
def y_M_noProcess : MethodName := ⟨R_M, "noProcess", "(I)Z"⟩
abbrev b_M_noProcess : ByteArray := prog_5_method_45_code
def v_M_noProcess : List Cond := .code y_M_noProcess b_M_noProcess 2 (some .boolean) :: gG
def m_M_noProcess : Room := { frames := 0, cells := 0, slots := 0, locals := 0 }
def y_M_state : MethodName := ⟨R_M, "state", "(I)I"⟩
abbrev b_M_state : ByteArray := prog_5_method_46_code
def v_M_state : List Cond := .code y_M_state b_M_state 2 (some .int) :: gG
def m_M_state : Room := { frames := 1, cells := 0, slots := 0, locals := 21 }
def y_M_about : MethodName := ⟨R_M, "about", "(II)I"⟩
abbrev b_M_about : ByteArray := prog_5_method_47_code
def v_M_about : List Cond := .code y_M_about b_M_about 5 (some .int) :: gG
def m_M_about : Room := { frames := 1, cells := 0, slots := 0, locals := 21 }
def y_M_notThere : MethodName := ⟨R_M, "notThere", "(I)Z"⟩
abbrev b_M_notThere : ByteArray := prog_5_method_48_code
def v_M_notThere : List Cond := .code y_M_notThere b_M_notThere 2 (some .boolean) :: gG
def m_M_notThere : Room := { frames := 0, cells := 0, slots := 0, locals := 0 }
def y_M_stack : MethodName := ⟨R_M, "stack", "(II)I"⟩
abbrev b_M_stack : ByteArray := prog_5_method_49_code
def v_M_stack : List Cond := .code y_M_stack b_M_stack 3 (some .int) :: gG
def m_M_stack : Room := { frames := 1, cells := 0, slots := 0, locals := 22 }
def y_M_memory : MethodName := ⟨R_M, "memory", "(II)I"⟩
abbrev b_M_memory : ByteArray := prog_5_method_50_code
def v_M_memory : List Cond := .code y_M_memory b_M_memory 3 (some .int) :: gG
def m_M_memory : Room := { frames := 1, cells := 0, slots := 0, locals := 21 }
def y_M_queue : MethodName := ⟨R_M, "queue", "(I)I"⟩
abbrev b_M_queue : ByteArray := prog_5_method_51_code
def v_M_queue : List Cond := .code y_M_queue b_M_queue 2 (some .int) :: gG
def m_M_queue : Room := { frames := 0, cells := 0, slots := 0, locals := 0 }
def y_M_descriptor : MethodName := ⟨R_M, "descriptor", "(II)I"⟩
abbrev b_M_descriptor : ByteArray := prog_5_method_52_code
def v_M_descriptor : List Cond := .code y_M_descriptor b_M_descriptor 3 (some .int) :: gG
def m_M_descriptor : Room := { frames := 1, cells := 0, slots := 0, locals := 21 }
def y_M_pipe : MethodName := ⟨R_M, "pipe", "(II)I"⟩
abbrev b_M_pipe : ByteArray := prog_5_method_53_code
def v_M_pipe : List Cond := .code y_M_pipe b_M_pipe 3 (some .int) :: gG
def m_M_pipe : Room := { frames := 1, cells := 0, slots := 0, locals := 23 }
def y_M_outs : MethodName := ⟨R_M, "outs", "()I"⟩
abbrev b_M_outs : ByteArray := prog_5_method_54_code
def v_M_outs : List Cond := .code y_M_outs b_M_outs 1 (some .int) :: gG
def m_M_outs : Room := { frames := 0, cells := 0, slots := 0, locals := 0 }
def y_M_out : MethodName := ⟨R_M, "out", "(I)I"⟩
abbrev b_M_out : ByteArray := prog_5_method_55_code
def v_M_out : List Cond := .code y_M_out b_M_out 3 (some .int) :: gG
def m_M_out : Room := { frames := 0, cells := 0, slots := 0, locals := 0 }
theorem gm_0 : (.selects R_K y_K_wakeAll y_K_wakeAll : Cond) ∈ gG := tb_lw_privs_1 (List.mem_of_getElem? (i := 0) rfl) rfl
theorem gm_1 : (.selects R_K y_K_longestWaiting y_K_longestWaiting : Cond) ∈ gG := tb_lw_privs_1 (List.mem_of_getElem? (i := 1) rfl) rfl
theorem gm_2 : (.selects R_K y_K_makeReady y_K_makeReady : Cond) ∈ gG := tb_lw_privs_1 (List.mem_of_getElem? (i := 2) rfl) rfl
theorem gm_4 : (.selects R_K y_K_goesOn y_K_goesOn : Cond) ∈ gG := tb_lw_privs_1 (List.mem_of_getElem? (i := 4) rfl) rfl
theorem gm_5 : (.selects R_K y_K_step y_K_step : Cond) ∈ gG := tb_lw_privs_1 (List.mem_of_getElem? (i := 5) rfl) rfl
theorem gm_6 : (.selects R_K y_K_wakeSleepers y_K_wakeSleepers : Cond) ∈ gG := tb_lw_privs_1 (List.mem_of_getElem? (i := 6) rfl) rfl
theorem gm_7 : (.selects R_K y_K_end y_K_end : Cond) ∈ gG := tb_lw_privs_1 (List.mem_of_getElem? (i := 7) rfl) rfl
theorem gm_8 : (.selects R_K y_K_leaveQueue y_K_leaveQueue : Cond) ∈ gG := tb_lw_privs_1 (List.mem_of_getElem? (i := 8) rfl) rfl
theorem gm_9 : (.selects R_K y_K_closeDescriptor y_K_closeDescriptor : Cond) ∈ gG := tb_lw_privs_1 (List.mem_of_getElem? (i := 9) rfl) rfl
theorem gm_10 : (.selects R_K y_K_handOverChildren y_K_handOverChildren : Cond) ∈ gG := tb_lw_privs_1 (List.mem_of_getElem? (i := 10) rfl) rfl
theorem gm_11 : (.selects R_K y_K_endedChild y_K_endedChild : Cond) ∈ gG := tb_lw_privs_1 (List.mem_of_getElem? (i := 11) rfl) rfl
theorem gm_12 : (.selects R_K y_K_mustWait y_K_mustWait : Cond) ∈ gG := tb_lw_privs_1 (List.mem_of_getElem? (i := 12) rfl) rfl
theorem gm_13 : (.selects R_K y_K_writeBlocks y_K_writeBlocks : Cond) ∈ gG := tb_lw_privs_1 (List.mem_of_getElem? (i := 13) rfl) rfl
theorem gm_14 : (.selects R_K y_K_readBlocks y_K_readBlocks : Cond) ∈ gG := tb_lw_privs_1 (List.mem_of_getElem? (i := 14) rfl) rfl
theorem gm_15 : (.selects R_K y_K_hasChild y_K_hasChild : Cond) ∈ gG := tb_lw_privs_1 (List.mem_of_getElem? (i := 15) rfl) rfl
theorem gm_16 : (.selects R_K y_K_beginToWait y_K_beginToWait : Cond) ∈ gG := tb_lw_privs_2 (List.mem_of_getElem? (i := 0) rfl) rfl
theorem gm_17 : (.selects R_K y_K_perform y_K_perform : Cond) ∈ gG := tb_lw_privs_2 (List.mem_of_getElem? (i := 1) rfl) rfl
theorem gm_18 : (.selects R_K y_K_goToQueueEnd y_K_goToQueueEnd : Cond) ∈ gG := tb_lw_privs_2 (List.mem_of_getElem? (i := 2) rfl) rfl
theorem gm_19 : (.selects R_K y_K_write y_K_write : Cond) ∈ gG := tb_lw_privs_2 (List.mem_of_getElem? (i := 3) rfl) rfl
theorem gm_20 : (.selects R_K y_K_print y_K_print : Cond) ∈ gG := tb_lw_privs_2 (List.mem_of_getElem? (i := 4) rfl) rfl
theorem gm_21 : (.selects R_K y_K_wakeFirst y_K_wakeFirst : Cond) ∈ gG := tb_lw_privs_2 (List.mem_of_getElem? (i := 5) rfl) rfl
theorem gm_22 : (.selects R_K y_K_read y_K_read : Cond) ∈ gG := tb_lw_privs_2 (List.mem_of_getElem? (i := 6) rfl) rfl
theorem gm_23 : (.selects R_K y_K_pushNext y_K_pushNext : Cond) ∈ gG := tb_lw_privs_2 (List.mem_of_getElem? (i := 7) rfl) rfl
theorem gm_24 : (.selects R_K y_K_fork y_K_fork : Cond) ∈ gG := tb_lw_privs_2 (List.mem_of_getElem? (i := 8) rfl) rfl
theorem gm_25 : (.selects R_K y_K_freeProc y_K_freeProc : Cond) ∈ gG := tb_lw_privs_2 (List.mem_of_getElem? (i := 9) rfl) rfl
theorem gm_26 : (.selects R_K y_K_addEnd y_K_addEnd : Cond) ∈ gG := tb_lw_privs_2 (List.mem_of_getElem? (i := 10) rfl) rfl
theorem gm_27 : (.selects R_K y_K_takeEndedChild y_K_takeEndedChild : Cond) ∈ gG := tb_lw_privs_2 (List.mem_of_getElem? (i := 11) rfl) rfl
theorem gm_28 : (.selects R_K y_K_kill y_K_kill : Cond) ∈ gG := tb_lw_privs_2 (List.mem_of_getElem? (i := 12) rfl) rfl
theorem gm_29 : (.selects R_K y_K_isThere y_K_isThere : Cond) ∈ gG := tb_lw_privs_2 (List.mem_of_getElem? (i := 13) rfl) rfl
theorem gm_30 : (.selects R_K y_K_openPipe y_K_openPipe : Cond) ∈ gG := tb_lw_privs_2 (List.mem_of_getElem? (i := 14) rfl) rfl
theorem gm_31 : (.selects R_K y_K_freePipe y_K_freePipe : Cond) ∈ gG := tb_lw_privs_2 (List.mem_of_getElem? (i := 15) rfl) rfl
theorem gm_32 : (.selects R_K y_K_openDescriptor y_K_openDescriptor : Cond) ∈ gG := tb_lw_privs_3 (List.mem_of_getElem? (i := 0) rfl) rfl
theorem gm_33 : (.selects R_K y_K_close y_K_close : Cond) ∈ gG := tb_lw_privs_3 (List.mem_of_getElem? (i := 1) rfl) rfl
theorem gm_34 : (.selects R_K y_K_duplicate y_K_duplicate : Cond) ∈ gG := tb_lw_privs_3 (List.mem_of_getElem? (i := 2) rfl) rfl
theorem gm_35 : (.selects R_K y_K_sleep y_K_sleep : Cond) ∈ gG := tb_lw_privs_3 (List.mem_of_getElem? (i := 3) rfl) rfl
theorem gm_36 : (.selects R_K y_K_countWaiting y_K_countWaiting : Cond) ∈ gG := tb_lw_privs_3 (List.mem_of_getElem? (i := 4) rfl) rfl
theorem gm_37 : (.selects R_M y_M_ready y_M_ready : Cond) ∈ gG := tb_lw_privs_3 (List.mem_of_getElem? (i := 5) rfl) rfl
theorem gm_38 : (.selects R_M y_M_goesOn y_M_goesOn : Cond) ∈ gG := tb_lw_privs_3 (List.mem_of_getElem? (i := 6) rfl) rfl
theorem gm_39 : (.selects R_M y_M_step y_M_step : Cond) ∈ gG := tb_lw_privs_3 (List.mem_of_getElem? (i := 7) rfl) rfl
theorem gm_40 : (.selects R_M y_M_wakeSleepers y_M_wakeSleepers : Cond) ∈ gG := tb_lw_privs_3 (List.mem_of_getElem? (i := 8) rfl) rfl
theorem gm_41 : (.selects R_M y_M_instruct y_M_instruct : Cond) ∈ gG := tb_lw_privs_3 (List.mem_of_getElem? (i := 9) rfl) rfl
theorem gm_42 : (.selects R_M y_M_faultOf y_M_faultOf : Cond) ∈ gG := tb_lw_privs_3 (List.mem_of_getElem? (i := 10) rfl) rfl
theorem gm_43 : (.selects R_M y_M_top y_M_top : Cond) ∈ gG := tb_lw_privs_3 (List.mem_of_getElem? (i := 11) rfl) rfl
theorem gm_44 : (.selects R_M y_M_rowFor y_M_rowFor : Cond) ∈ gG := tb_lw_privs_3 (List.mem_of_getElem? (i := 12) rfl) rfl
theorem gm_45 : (.selects R_M y_M_descriptorOf y_M_descriptorOf : Cond) ∈ gG := tb_lw_privs_3 (List.mem_of_getElem? (i := 13) rfl) rfl
theorem gm_46 : (.selects R_M y_M_many y_M_many : Cond) ∈ gG := tb_lw_privs_3 (List.mem_of_getElem? (i := 14) rfl) rfl
theorem gm_47 : (.selects R_M y_M_end y_M_end : Cond) ∈ gG := tb_lw_privs_3 (List.mem_of_getElem? (i := 15) rfl) rfl
theorem gm_48 : (.selects R_M y_M_leaveQueue y_M_leaveQueue : Cond) ∈ gG := tb_lw_privs_4 (List.mem_of_getElem? (i := 0) rfl) rfl
theorem gm_49 : (.selects R_M y_M_leaveRow y_M_leaveRow : Cond) ∈ gG := tb_lw_privs_4 (List.mem_of_getElem? (i := 1) rfl) rfl
theorem gm_50 : (.selects R_M y_M_shutEnd y_M_shutEnd : Cond) ∈ gG := tb_lw_privs_4 (List.mem_of_getElem? (i := 2) rfl) rfl
theorem gm_51 : (.selects R_M y_M_wakeAll y_M_wakeAll : Cond) ∈ gG := tb_lw_privs_4 (List.mem_of_getElem? (i := 3) rfl) rfl
theorem gm_52 : (.selects R_M y_M_wakeFirst y_M_wakeFirst : Cond) ∈ gG := tb_lw_privs_4 (List.mem_of_getElem? (i := 4) rfl) rfl
theorem gm_53 : (.selects R_M y_M_isPipe y_M_isPipe : Cond) ∈ gG := tb_lw_privs_4 (List.mem_of_getElem? (i := 5) rfl) rfl
theorem gm_54 : (.selects R_M y_M_stand y_M_stand : Cond) ∈ gG := tb_lw_privs_4 (List.mem_of_getElem? (i := 6) rfl) rfl
theorem gm_55 : (.selects R_M y_M_plain y_M_plain : Cond) ∈ gG := tb_lw_privs_4 (List.mem_of_getElem? (i := 7) rfl) rfl
theorem gm_56 : (.selects R_M y_M_push y_M_push : Cond) ∈ gG := tb_lw_privs_4 (List.mem_of_getElem? (i := 8) rfl) rfl
theorem gm_57 : (.selects R_M y_M_call y_M_call : Cond) ∈ gG := tb_lw_privs_4 (List.mem_of_getElem? (i := 9) rfl) rfl
theorem gm_58 : (.selects R_M y_M_toEnd y_M_toEnd : Cond) ∈ gG := tb_lw_privs_4 (List.mem_of_getElem? (i := 10) rfl) rfl
theorem gm_59 : (.selects R_M y_M_write y_M_write : Cond) ∈ gG := tb_lw_privs_4 (List.mem_of_getElem? (i := 11) rfl) rfl
theorem gm_60 : (.selects R_M y_M_intoPipe y_M_intoPipe : Cond) ∈ gG := tb_lw_privs_4 (List.mem_of_getElem? (i := 12) rfl) rfl
theorem gm_61 : (.selects R_M y_M_read y_M_read : Cond) ∈ gG := tb_lw_privs_4 (List.mem_of_getElem? (i := 13) rfl) rfl
theorem gm_62 : (.selects R_M y_M_outOfPipe y_M_outOfPipe : Cond) ∈ gG := tb_lw_privs_4 (List.mem_of_getElem? (i := 14) rfl) rfl
theorem gm_63 : (.selects R_M y_M_fork y_M_fork : Cond) ∈ gG := tb_lw_privs_4 (List.mem_of_getElem? (i := 15) rfl) rfl
theorem gm_64 : (.selects R_M y_M_await y_M_await : Cond) ∈ gG := tb_lw_privs_5 (List.mem_of_getElem? (i := 0) rfl) rfl
theorem gm_65 : (.selects R_M y_M_kill y_M_kill : Cond) ∈ gG := tb_lw_privs_5 (List.mem_of_getElem? (i := 1) rfl) rfl
theorem gm_66 : (.selects R_M y_M_makePipe y_M_makePipe : Cond) ∈ gG := tb_lw_privs_5 (List.mem_of_getElem? (i := 2) rfl) rfl
theorem gm_67 : (.selects R_M y_M_freeDescriptor y_M_freeDescriptor : Cond) ∈ gG := tb_lw_privs_5 (List.mem_of_getElem? (i := 3) rfl) rfl
theorem gm_68 : (.selects R_M y_M_dup y_M_dup : Cond) ∈ gG := tb_lw_privs_5 (List.mem_of_getElem? (i := 4) rfl) rfl
theorem gm_69 : (.selects R_M y_M_noProcess y_M_noProcess : Cond) ∈ gG := tb_lw_privs_5 (List.mem_of_getElem? (i := 5) rfl) rfl
theorem gm_70 : (.selects R_M y_M_notThere y_M_notThere : Cond) ∈ gG := tb_lw_privs_5 (List.mem_of_getElem? (i := 6) rfl) rfl
theorem gm_72 : (.initialized R_K : Cond) ∈ gG := tb_tables_1_1 (List.mem_of_getElem? (i := 1) rfl) rfl
theorem gm_73 : (.initialized R_W : Cond) ∈ gG := tb_tables_1_1 (List.mem_of_getElem? (i := 2) rfl) rfl
theorem gm_75 : (.initialized R_P : Cond) ∈ gG := tb_tables_1_1 (List.mem_of_getElem? (i := 4) rfl) rfl
theorem gm_76 : (.initialized R_M : Cond) ∈ gG := tb_tables_1_1 (List.mem_of_getElem? (i := 5) rfl) rfl
theorem gm_83 : (.initialized "java/lang/System" : Cond) ∈ gG := tb_tables_1_1 (List.mem_of_getElem? (i := 12) rfl) rfl
theorem gm_84 : (.initialized R_I : Cond) ∈ gG := tb_tables_1_1 (List.mem_of_getElem? (i := 13) rfl) rfl
theorem gm_102 : (.fieldLink R_W 16 R_W "words" "[I" : Cond) ∈ gG := tb_tables_1_1 (List.mem_of_getElem? (i := 31) rfl) rfl
theorem gm_103 : (.fieldLink R_W 7 R_W "first" "I" : Cond) ∈ gG := tb_tables_1_1 (List.mem_of_getElem? (i := 32) rfl) rfl
theorem gm_104 : (.fieldLink R_W 13 R_W "count" "I" : Cond) ∈ gG := tb_tables_1_1 (List.mem_of_getElem? (i := 33) rfl) rfl
theorem gm_105 : (.fieldLink R_K 119 R_W "count" "I" : Cond) ∈ gG := tb_tables_1_1 (List.mem_of_getElem? (i := 34) rfl) rfl
theorem gm_125 : (.fieldLink R_P 46 R_P "number" "I" : Cond) ∈ gG := tb_tables_1_1 (List.mem_of_getElem? (i := 54) rfl) rfl
theorem gm_126 : (.fieldLink R_K 256 R_P "number" "I" : Cond) ∈ gG := tb_tables_1_1 (List.mem_of_getElem? (i := 55) rfl) rfl
theorem gm_127 : (.fieldLink R_P 9 R_P "memory" "[I" : Cond) ∈ gG := tb_tables_1_1 (List.mem_of_getElem? (i := 56) rfl) rfl
theorem gm_128 : (.fieldLink R_K 86 R_P "memory" "[I" : Cond) ∈ gG := tb_tables_1_1 (List.mem_of_getElem? (i := 57) rfl) rfl
theorem gm_129 : (.fieldLink R_P 15 R_P "words" "[I" : Cond) ∈ gG := tb_tables_1_1 (List.mem_of_getElem? (i := 58) rfl) rfl
theorem gm_130 : (.fieldLink R_K 159 R_P "words" "[I" : Cond) ∈ gG := tb_tables_1_1 (List.mem_of_getElem? (i := 59) rfl) rfl
theorem gm_131 : (.fieldLink R_P 18 R_P "descriptors" "[I" : Cond) ∈ gG := tb_tables_1_1 (List.mem_of_getElem? (i := 60) rfl) rfl
theorem gm_132 : (.fieldLink R_K 89 R_P "descriptors" "[I" : Cond) ∈ gG := tb_tables_1_1 (List.mem_of_getElem? (i := 61) rfl) rfl
theorem gm_133 : (.fieldLink R_P 21 R_P "height" "I" : Cond) ∈ gG := tb_tables_1_1 (List.mem_of_getElem? (i := 62) rfl) rfl
theorem gm_134 : (.fieldLink R_K 137 R_P "height" "I" : Cond) ∈ gG := tb_tables_1_1 (List.mem_of_getElem? (i := 63) rfl) rfl
theorem gm_135 : (.fieldLink R_P 25 R_P "place" "I" : Cond) ∈ gG := tb_tables_1_1 (List.mem_of_getElem? (i := 64) rfl) rfl
theorem gm_136 : (.fieldLink R_K 134 R_P "place" "I" : Cond) ∈ gG := tb_tables_1_1 (List.mem_of_getElem? (i := 65) rfl) rfl
theorem gm_137 : (.fieldLink R_P 28 R_P "parent" "I" : Cond) ∈ gG := tb_tables_1_1 (List.mem_of_getElem? (i := 66) rfl) rfl
theorem gm_138 : (.fieldLink R_K 140 R_P "parent" "I" : Cond) ∈ gG := tb_tables_1_1 (List.mem_of_getElem? (i := 67) rfl) rfl
theorem gm_139 : (.fieldLink R_P 31 R_P "state" "I" : Cond) ∈ gG := tb_tables_1_1 (List.mem_of_getElem? (i := 68) rfl) rfl
theorem gm_140 : (.fieldLink R_K 127 R_P "state" "I" : Cond) ∈ gG := tb_tables_1_1 (List.mem_of_getElem? (i := 69) rfl) rfl
theorem gm_142 : (.fieldLink R_K 143 R_P "code" "I" : Cond) ∈ gG := tb_tables_1_1 (List.mem_of_getElem? (i := 71) rfl) rfl
theorem gm_144 : (.fieldLink R_K 146 R_P "wakeTime" "I" : Cond) ∈ gG := tb_tables_1_1 (List.mem_of_getElem? (i := 73) rfl) rfl
theorem gm_146 : (.fieldLink R_K 232 R_P "waitsOn" "I" : Cond) ∈ gG := tb_tables_1_1 (List.mem_of_getElem? (i := 75) rfl) rfl
theorem gm_148 : (.fieldLink R_K 235 R_P "waitsSince" "I" : Cond) ∈ gG := tb_tables_1_1 (List.mem_of_getElem? (i := 77) rfl) rfl
theorem gm_174 : (.fieldLink R_K 70 R_K "quantum" "I" : Cond) ∈ gG := tb_tables_1_1 (List.mem_of_getElem? (i := 103) rfl) rfl
theorem gm_175 : (.fieldLink R_K 11 R_K "procs" "[LPipeKernel$Proc;" : Cond) ∈ gG := tb_tables_1_1 (List.mem_of_getElem? (i := 104) rfl) rfl
theorem gm_176 : (.fieldLink R_K 17 R_K "pipes" "[LPipeKernel$Words;" : Cond) ∈ gG := tb_tables_1_1 (List.mem_of_getElem? (i := 105) rfl) rfl
theorem gm_177 : (.fieldLink R_K 21 R_K "ends" "[I" : Cond) ∈ gG := tb_tables_1_1 (List.mem_of_getElem? (i := 106) rfl) rfl
theorem gm_178 : (.fieldLink R_K 25 R_K "ready" "[I" : Cond) ∈ gG := tb_tables_1_1 (List.mem_of_getElem? (i := 107) rfl) rfl
theorem gm_179 : (.fieldLink R_K 28 R_K "readyCount" "I" : Cond) ∈ gG := tb_tables_1_1 (List.mem_of_getElem? (i := 108) rfl) rfl
theorem gm_180 : (.fieldLink R_K 32 R_K "doneByFirst" "I" : Cond) ∈ gG := tb_tables_1_1 (List.mem_of_getElem? (i := 109) rfl) rfl
theorem gm_181 : (.fieldLink R_K 35 R_K "now" "I" : Cond) ∈ gG := tb_tables_1_1 (List.mem_of_getElem? (i := 110) rfl) rfl
theorem gm_182 : (.fieldLink R_K 38 R_K "waitsBegun" "I" : Cond) ∈ gG := tb_tables_1_1 (List.mem_of_getElem? (i := 111) rfl) rfl
theorem gm_183 : (.fieldLink R_K 41 R_K "booted" "Z" : Cond) ∈ gG := tb_tables_1_1 (List.mem_of_getElem? (i := 112) rfl) rfl
theorem gm_184 : (.fieldLink R_K 48 R_K "input" "LPipeKernel$Words;" : Cond) ∈ gG := tb_tables_1_1 (List.mem_of_getElem? (i := 113) rfl) rfl
theorem gm_185 : (.fieldLink R_K 52 R_K "inputShut" "Z" : Cond) ∈ gG := tb_tables_1_1 (List.mem_of_getElem? (i := 114) rfl) rfl
theorem gm_186 : (.fieldLink R_K 55 R_K "output" "LPipeKernel$Words;" : Cond) ∈ gG := tb_tables_1_1 (List.mem_of_getElem? (i := 115) rfl) rfl
theorem gm_187 : (.fieldLink R_K 58 R_K "outputCount" "I" : Cond) ∈ gG := tb_tables_1_1 (List.mem_of_getElem? (i := 116) rfl) rfl
theorem gm_221 : (.methodLink R_K 122 y_K_wakeAll : Cond) ∈ gG := tb_tables_1_1 (List.mem_of_getElem? (i := 150) rfl) rfl
theorem gm_223 : (.instanceMethod y_K_wakeAll : Cond) ∈ gG := tb_tables_1_1 (List.mem_of_getElem? (i := 152) rfl) rfl
theorem gm_224 : (.code y_K_wakeAll b_K_wakeAll 4 none : Cond) ∈ gG := tb_tables_1_1 (List.mem_of_getElem? (i := 153) rfl) rfl
theorem gm_225 : (.methodLink R_K 342 y_K_longestWaiting : Cond) ∈ gG := tb_tables_1_1 (List.mem_of_getElem? (i := 154) rfl) rfl
theorem gm_227 : (.instanceMethod y_K_longestWaiting : Cond) ∈ gG := tb_tables_1_1 (List.mem_of_getElem? (i := 156) rfl) rfl
theorem gm_228 : (.code y_K_longestWaiting b_K_longestWaiting 5 (some (.object "PipeKernel$Proc")) : Cond) ∈ gG := tb_tables_1_1 (List.mem_of_getElem? (i := 157) rfl) rfl
theorem gm_229 : (.methodLink R_K 92 y_K_makeReady : Cond) ∈ gG := tb_tables_1_1 (List.mem_of_getElem? (i := 158) rfl) rfl
theorem gm_231 : (.instanceMethod y_K_makeReady : Cond) ∈ gG := tb_tables_1_1 (List.mem_of_getElem? (i := 160) rfl) rfl
theorem gm_232 : (.code y_K_makeReady b_K_makeReady 2 none : Cond) ∈ gG := tb_tables_1_1 (List.mem_of_getElem? (i := 161) rfl) rfl
theorem gm_368 : (.methodLink R_K 101 y_K_goesOn : Cond) ∈ gG := tb_tables_1_2 (List.mem_of_getElem? (i := 57) rfl) rfl
theorem gm_370 : (.instanceMethod y_K_goesOn : Cond) ∈ gG := tb_tables_1_2 (List.mem_of_getElem? (i := 59) rfl) rfl
theorem gm_371 : (.code y_K_goesOn b_K_goesOn 2 (some .boolean) : Cond) ∈ gG := tb_tables_1_2 (List.mem_of_getElem? (i := 60) rfl) rfl
theorem gm_372 : (.methodLink R_K 105 y_K_step : Cond) ∈ gG := tb_tables_1_2 (List.mem_of_getElem? (i := 61) rfl) rfl
theorem gm_374 : (.instanceMethod y_K_step : Cond) ∈ gG := tb_tables_1_2 (List.mem_of_getElem? (i := 63) rfl) rfl
theorem gm_375 : (.code y_K_step b_K_step 3 none : Cond) ∈ gG := tb_tables_1_2 (List.mem_of_getElem? (i := 64) rfl) rfl
theorem gm_376 : (.methodLink R_K 181 y_K_wakeSleepers : Cond) ∈ gG := tb_tables_1_2 (List.mem_of_getElem? (i := 65) rfl) rfl
theorem gm_378 : (.instanceMethod y_K_wakeSleepers : Cond) ∈ gG := tb_tables_1_2 (List.mem_of_getElem? (i := 67) rfl) rfl
theorem gm_379 : (.code y_K_wakeSleepers b_K_wakeSleepers 2 none : Cond) ∈ gG := tb_tables_1_2 (List.mem_of_getElem? (i := 68) rfl) rfl
theorem gm_380 : (.methodLink R_K 184 y_P_findFault : Cond) ∈ gG := tb_tables_1_2 (List.mem_of_getElem? (i := 69) rfl) rfl
theorem gm_381 : (.instanceMethod y_P_findFault : Cond) ∈ gG := tb_tables_1_2 (List.mem_of_getElem? (i := 70) rfl) rfl
theorem gm_382 : (.selects R_P y_P_findFault y_P_findFault : Cond) ∈ gG := tb_tables_1_2 (List.mem_of_getElem? (i := 71) rfl) rfl
theorem gm_383 : (.code y_P_findFault b_P_findFault 2 (some .int) : Cond) ∈ gG := tb_tables_1_2 (List.mem_of_getElem? (i := 72) rfl) rfl
theorem gm_384 : (.methodLink R_P 69 y_P_isInMemory : Cond) ∈ gG := tb_tables_1_2 (List.mem_of_getElem? (i := 73) rfl) rfl
theorem gm_385 : (.static y_P_isInMemory : Cond) ∈ gG := tb_tables_1_2 (List.mem_of_getElem? (i := 74) rfl) rfl
theorem gm_386 : (.code y_P_isInMemory b_P_isInMemory 1 (some .boolean) : Cond) ∈ gG := tb_tables_1_2 (List.mem_of_getElem? (i := 75) rfl) rfl
theorem gm_387 : (.methodLink R_P 73 y_P_kind : Cond) ∈ gG := tb_tables_1_2 (List.mem_of_getElem? (i := 76) rfl) rfl
theorem gm_388 : (.instanceMethod y_P_kind : Cond) ∈ gG := tb_tables_1_2 (List.mem_of_getElem? (i := 77) rfl) rfl
theorem gm_389 : (.selects R_P y_P_kind y_P_kind : Cond) ∈ gG := tb_tables_1_2 (List.mem_of_getElem? (i := 78) rfl) rfl
theorem gm_390 : (.code y_P_kind b_P_kind 1 (some .int) : Cond) ∈ gG := tb_tables_1_2 (List.mem_of_getElem? (i := 79) rfl) rfl
theorem gm_393 : (.methodLink R_P 79 y_P_top : Cond) ∈ gG := tb_tables_1_2 (List.mem_of_getElem? (i := 82) rfl) rfl
theorem gm_394 : (.instanceMethod y_P_top : Cond) ∈ gG := tb_tables_1_2 (List.mem_of_getElem? (i := 83) rfl) rfl
theorem gm_395 : (.selects R_P y_P_top y_P_top : Cond) ∈ gG := tb_tables_1_2 (List.mem_of_getElem? (i := 84) rfl) rfl
theorem gm_396 : (.code y_P_top b_P_top 1 (some .int) : Cond) ∈ gG := tb_tables_1_2 (List.mem_of_getElem? (i := 85) rfl) rfl
theorem gm_397 : (.methodLink R_P 82 y_P_operand : Cond) ∈ gG := tb_tables_1_2 (List.mem_of_getElem? (i := 86) rfl) rfl
theorem gm_398 : (.instanceMethod y_P_operand : Cond) ∈ gG := tb_tables_1_2 (List.mem_of_getElem? (i := 87) rfl) rfl
theorem gm_399 : (.selects R_P y_P_operand y_P_operand : Cond) ∈ gG := tb_tables_1_2 (List.mem_of_getElem? (i := 88) rfl) rfl
theorem gm_400 : (.code y_P_operand b_P_operand 1 (some .int) : Cond) ∈ gG := tb_tables_1_2 (List.mem_of_getElem? (i := 89) rfl) rfl
theorem gm_401 : (.methodLink R_K 187 y_K_end : Cond) ∈ gG := tb_tables_1_2 (List.mem_of_getElem? (i := 90) rfl) rfl
theorem gm_403 : (.instanceMethod y_K_end : Cond) ∈ gG := tb_tables_1_2 (List.mem_of_getElem? (i := 92) rfl) rfl
theorem gm_404 : (.code y_K_end b_K_end 4 none : Cond) ∈ gG := tb_tables_1_2 (List.mem_of_getElem? (i := 93) rfl) rfl
theorem gm_405 : (.methodLink R_K 229 y_K_leaveQueue : Cond) ∈ gG := tb_tables_1_2 (List.mem_of_getElem? (i := 94) rfl) rfl
theorem gm_407 : (.instanceMethod y_K_leaveQueue : Cond) ∈ gG := tb_tables_1_2 (List.mem_of_getElem? (i := 96) rfl) rfl
theorem gm_408 : (.code y_K_leaveQueue b_K_leaveQueue 4 none : Cond) ∈ gG := tb_tables_1_2 (List.mem_of_getElem? (i := 97) rfl) rfl
theorem gm_409 : (.methodLink R_K 332 y_K_closeDescriptor : Cond) ∈ gG := tb_tables_1_2 (List.mem_of_getElem? (i := 98) rfl) rfl
theorem gm_411 : (.instanceMethod y_K_closeDescriptor : Cond) ∈ gG := tb_tables_1_2 (List.mem_of_getElem? (i := 100) rfl) rfl
theorem gm_412 : (.code y_K_closeDescriptor b_K_closeDescriptor 5 (some .int) : Cond) ∈ gG := tb_tables_1_2 (List.mem_of_getElem? (i := 101) rfl) rfl
theorem gm_413 : (.methodLink R_K 241 y_K_otherEnd : Cond) ∈ gG := tb_tables_1_2 (List.mem_of_getElem? (i := 102) rfl) rfl
theorem gm_414 : (.static y_K_otherEnd : Cond) ∈ gG := tb_tables_1_2 (List.mem_of_getElem? (i := 103) rfl) rfl
theorem gm_415 : (.code y_K_otherEnd b_K_otherEnd 1 (some .int) : Cond) ∈ gG := tb_tables_1_2 (List.mem_of_getElem? (i := 104) rfl) rfl
theorem gm_416 : (.methodLink R_K 335 y_W_clear : Cond) ∈ gG := tb_tables_1_2 (List.mem_of_getElem? (i := 105) rfl) rfl
theorem gm_417 : (.instanceMethod y_W_clear : Cond) ∈ gG := tb_tables_1_2 (List.mem_of_getElem? (i := 106) rfl) rfl
theorem gm_418 : (.selects R_W y_W_clear y_W_clear : Cond) ∈ gG := tb_tables_1_2 (List.mem_of_getElem? (i := 107) rfl) rfl
theorem gm_419 : (.code y_W_clear b_W_clear 1 none : Cond) ∈ gG := tb_tables_1_2 (List.mem_of_getElem? (i := 108) rfl) rfl
theorem gm_420 : (.methodLink R_K 339 y_K_handOverChildren : Cond) ∈ gG := tb_tables_1_2 (List.mem_of_getElem? (i := 109) rfl) rfl
theorem gm_422 : (.instanceMethod y_K_handOverChildren : Cond) ∈ gG := tb_tables_1_2 (List.mem_of_getElem? (i := 111) rfl) rfl
theorem gm_423 : (.code y_K_handOverChildren b_K_handOverChildren 5 none : Cond) ∈ gG := tb_tables_1_2 (List.mem_of_getElem? (i := 112) rfl) rfl
theorem gm_424 : (.methodLink R_K 316 y_P_isChildOf : Cond) ∈ gG := tb_tables_1_2 (List.mem_of_getElem? (i := 113) rfl) rfl
theorem gm_425 : (.instanceMethod y_P_isChildOf : Cond) ∈ gG := tb_tables_1_2 (List.mem_of_getElem? (i := 114) rfl) rfl
theorem gm_426 : (.selects R_P y_P_isChildOf y_P_isChildOf : Cond) ∈ gG := tb_tables_1_2 (List.mem_of_getElem? (i := 115) rfl) rfl
theorem gm_427 : (.code y_P_isChildOf b_P_isChildOf 2 (some .boolean) : Cond) ∈ gG := tb_tables_1_2 (List.mem_of_getElem? (i := 116) rfl) rfl
theorem gm_428 : (.methodLink R_K 225 y_K_endedChild : Cond) ∈ gG := tb_tables_1_2 (List.mem_of_getElem? (i := 117) rfl) rfl
theorem gm_430 : (.instanceMethod y_K_endedChild : Cond) ∈ gG := tb_tables_1_2 (List.mem_of_getElem? (i := 119) rfl) rfl
theorem gm_431 : (.code y_K_endedChild b_K_endedChild 3 (some (.object "PipeKernel$Proc")) : Cond) ∈ gG := tb_tables_1_2 (List.mem_of_getElem? (i := 120) rfl) rfl
theorem gm_432 : (.methodLink R_K 191 y_K_mustWait : Cond) ∈ gG := tb_tables_1_2 (List.mem_of_getElem? (i := 121) rfl) rfl
theorem gm_434 : (.instanceMethod y_K_mustWait : Cond) ∈ gG := tb_tables_1_2 (List.mem_of_getElem? (i := 123) rfl) rfl
theorem gm_435 : (.code y_K_mustWait b_K_mustWait 2 (some .boolean) : Cond) ∈ gG := tb_tables_1_2 (List.mem_of_getElem? (i := 124) rfl) rfl
theorem gm_436 : (.methodLink R_K 207 y_P_kind : Cond) ∈ gG := tb_tables_1_2 (List.mem_of_getElem? (i := 125) rfl) rfl
theorem gm_437 : (.methodLink R_K 210 y_P_top : Cond) ∈ gG := tb_tables_1_2 (List.mem_of_getElem? (i := 126) rfl) rfl
theorem gm_438 : (.methodLink R_K 213 y_P_descriptorAt : Cond) ∈ gG := tb_tables_1_2 (List.mem_of_getElem? (i := 127) rfl) rfl
theorem gm_439 : (.instanceMethod y_P_descriptorAt : Cond) ∈ gG := tb_tables_1_2 (List.mem_of_getElem? (i := 128) rfl) rfl
theorem gm_440 : (.selects R_P y_P_descriptorAt y_P_descriptorAt : Cond) ∈ gG := tb_tables_1_2 (List.mem_of_getElem? (i := 129) rfl) rfl
theorem gm_441 : (.code y_P_descriptorAt b_P_descriptorAt 2 (some .int) : Cond) ∈ gG := tb_tables_1_2 (List.mem_of_getElem? (i := 130) rfl) rfl
theorem gm_442 : (.methodLink R_K 216 y_K_writeBlocks : Cond) ∈ gG := tb_tables_1_2 (List.mem_of_getElem? (i := 131) rfl) rfl
theorem gm_444 : (.instanceMethod y_K_writeBlocks : Cond) ∈ gG := tb_tables_1_2 (List.mem_of_getElem? (i := 133) rfl) rfl
theorem gm_445 : (.code y_K_writeBlocks b_K_writeBlocks 2 (some .boolean) : Cond) ∈ gG := tb_tables_1_2 (List.mem_of_getElem? (i := 134) rfl) rfl
theorem gm_446 : (.methodLink R_K 238 y_K_isWritingEnd : Cond) ∈ gG := tb_tables_1_2 (List.mem_of_getElem? (i := 135) rfl) rfl
theorem gm_447 : (.static y_K_isWritingEnd : Cond) ∈ gG := tb_tables_1_2 (List.mem_of_getElem? (i := 136) rfl) rfl
theorem gm_448 : (.code y_K_isWritingEnd b_K_isWritingEnd 1 (some .boolean) : Cond) ∈ gG := tb_tables_1_2 (List.mem_of_getElem? (i := 137) rfl) rfl
theorem gm_449 : (.methodLink R_K 108 y_W_isFull : Cond) ∈ gG := tb_tables_1_2 (List.mem_of_getElem? (i := 138) rfl) rfl
theorem gm_450 : (.instanceMethod y_W_isFull : Cond) ∈ gG := tb_tables_1_2 (List.mem_of_getElem? (i := 139) rfl) rfl
theorem gm_451 : (.selects R_W y_W_isFull y_W_isFull : Cond) ∈ gG := tb_tables_1_2 (List.mem_of_getElem? (i := 140) rfl) rfl
theorem gm_452 : (.code y_W_isFull b_W_isFull 1 (some .boolean) : Cond) ∈ gG := tb_tables_1_2 (List.mem_of_getElem? (i := 141) rfl) rfl
theorem gm_453 : (.methodLink R_K 219 y_K_readBlocks : Cond) ∈ gG := tb_tables_1_2 (List.mem_of_getElem? (i := 142) rfl) rfl
theorem gm_455 : (.instanceMethod y_K_readBlocks : Cond) ∈ gG := tb_tables_1_2 (List.mem_of_getElem? (i := 144) rfl) rfl
theorem gm_456 : (.code y_K_readBlocks b_K_readBlocks 2 (some .boolean) : Cond) ∈ gG := tb_tables_1_2 (List.mem_of_getElem? (i := 145) rfl) rfl
theorem gm_457 : (.methodLink R_K 244 y_W_isEmpty : Cond) ∈ gG := tb_tables_1_2 (List.mem_of_getElem? (i := 146) rfl) rfl
theorem gm_458 : (.instanceMethod y_W_isEmpty : Cond) ∈ gG := tb_tables_1_2 (List.mem_of_getElem? (i := 147) rfl) rfl
theorem gm_459 : (.selects R_W y_W_isEmpty y_W_isEmpty : Cond) ∈ gG := tb_tables_1_2 (List.mem_of_getElem? (i := 148) rfl) rfl
theorem gm_460 : (.code y_W_isEmpty b_W_isEmpty 1 (some .boolean) : Cond) ∈ gG := tb_tables_1_2 (List.mem_of_getElem? (i := 149) rfl) rfl
theorem gm_461 : (.methodLink R_K 247 y_K_isReadingEnd : Cond) ∈ gG := tb_tables_1_2 (List.mem_of_getElem? (i := 150) rfl) rfl
theorem gm_462 : (.static y_K_isReadingEnd : Cond) ∈ gG := tb_tables_1_2 (List.mem_of_getElem? (i := 151) rfl) rfl
theorem gm_463 : (.code y_K_isReadingEnd b_K_isReadingEnd 1 (some .boolean) : Cond) ∈ gG := tb_tables_1_2 (List.mem_of_getElem? (i := 152) rfl) rfl
theorem gm_464 : (.methodLink R_K 222 y_K_hasChild : Cond) ∈ gG := tb_tables_1_2 (List.mem_of_getElem? (i := 153) rfl) rfl
theorem gm_466 : (.instanceMethod y_K_hasChild : Cond) ∈ gG := tb_tables_1_2 (List.mem_of_getElem? (i := 155) rfl) rfl
theorem gm_467 : (.code y_K_hasChild b_K_hasChild 3 (some .boolean) : Cond) ∈ gG := tb_tables_1_2 (List.mem_of_getElem? (i := 156) rfl) rfl
theorem gm_468 : (.methodLink R_K 195 y_K_beginToWait : Cond) ∈ gG := tb_tables_1_2 (List.mem_of_getElem? (i := 157) rfl) rfl
theorem gm_470 : (.instanceMethod y_K_beginToWait : Cond) ∈ gG := tb_tables_1_2 (List.mem_of_getElem? (i := 159) rfl) rfl
theorem gm_471 : (.code y_K_beginToWait b_K_beginToWait 3 none : Cond) ∈ gG := tb_tables_1_2 (List.mem_of_getElem? (i := 160) rfl) rfl
theorem gm_472 : (.methodLink R_K 198 y_P_wouldOverflow : Cond) ∈ gG := tb_tables_1_2 (List.mem_of_getElem? (i := 161) rfl) rfl
theorem gm_473 : (.instanceMethod y_P_wouldOverflow : Cond) ∈ gG := tb_tables_1_2 (List.mem_of_getElem? (i := 162) rfl) rfl
theorem gm_474 : (.selects R_P y_P_wouldOverflow y_P_wouldOverflow : Cond) ∈ gG := tb_tables_1_2 (List.mem_of_getElem? (i := 163) rfl) rfl
theorem gm_475 : (.code y_P_wouldOverflow b_P_wouldOverflow 1 (some .boolean) : Cond) ∈ gG := tb_tables_1_2 (List.mem_of_getElem? (i := 164) rfl) rfl
theorem gm_478 : (.methodLink R_K 201 y_K_perform : Cond) ∈ gG := tb_tables_1_2 (List.mem_of_getElem? (i := 167) rfl) rfl
theorem gm_480 : (.instanceMethod y_K_perform : Cond) ∈ gG := tb_tables_1_2 (List.mem_of_getElem? (i := 169) rfl) rfl
theorem gm_481 : (.code y_K_perform b_K_perform 4 none : Cond) ∈ gG := tb_tables_1_2 (List.mem_of_getElem? (i := 170) rfl) rfl
theorem gm_482 : (.methodLink R_K 250 y_P_operand : Cond) ∈ gG := tb_tables_1_2 (List.mem_of_getElem? (i := 171) rfl) rfl
theorem gm_483 : (.methodLink R_K 253 y_P_pop : Cond) ∈ gG := tb_tables_1_2 (List.mem_of_getElem? (i := 172) rfl) rfl
theorem gm_484 : (.instanceMethod y_P_pop : Cond) ∈ gG := tb_tables_1_2 (List.mem_of_getElem? (i := 173) rfl) rfl
theorem gm_485 : (.selects R_P y_P_pop y_P_pop : Cond) ∈ gG := tb_tables_1_2 (List.mem_of_getElem? (i := 174) rfl) rfl
theorem gm_486 : (.code y_P_pop b_P_pop 1 (some .int) : Cond) ∈ gG := tb_tables_1_2 (List.mem_of_getElem? (i := 175) rfl) rfl
theorem gm_487 : (.methodLink R_K 259 y_P_push : Cond) ∈ gG := tb_tables_1_2 (List.mem_of_getElem? (i := 176) rfl) rfl
theorem gm_488 : (.instanceMethod y_P_push : Cond) ∈ gG := tb_tables_1_2 (List.mem_of_getElem? (i := 177) rfl) rfl
theorem gm_489 : (.selects R_P y_P_push y_P_push : Cond) ∈ gG := tb_tables_1_2 (List.mem_of_getElem? (i := 178) rfl) rfl
theorem gm_490 : (.code y_P_push b_P_push 2 none : Cond) ∈ gG := tb_tables_1_2 (List.mem_of_getElem? (i := 179) rfl) rfl
theorem gm_491 : (.methodLink R_K 204 y_K_goToQueueEnd : Cond) ∈ gG := tb_tables_1_2 (List.mem_of_getElem? (i := 180) rfl) rfl
theorem gm_493 : (.instanceMethod y_K_goToQueueEnd : Cond) ∈ gG := tb_tables_1_2 (List.mem_of_getElem? (i := 182) rfl) rfl
theorem gm_494 : (.code y_K_goToQueueEnd b_K_goToQueueEnd 2 none : Cond) ∈ gG := tb_tables_1_2 (List.mem_of_getElem? (i := 183) rfl) rfl
theorem gm_495 : (.methodLink R_K 262 y_K_write : Cond) ∈ gG := tb_tables_1_2 (List.mem_of_getElem? (i := 184) rfl) rfl
theorem gm_497 : (.instanceMethod y_K_write : Cond) ∈ gG := tb_tables_1_2 (List.mem_of_getElem? (i := 186) rfl) rfl
theorem gm_498 : (.code y_K_write b_K_write 4 none : Cond) ∈ gG := tb_tables_1_2 (List.mem_of_getElem? (i := 187) rfl) rfl
theorem gm_499 : (.methodLink R_K 293 y_K_print : Cond) ∈ gG := tb_tables_1_2 (List.mem_of_getElem? (i := 188) rfl) rfl
theorem gm_501 : (.instanceMethod y_K_print : Cond) ∈ gG := tb_tables_1_2 (List.mem_of_getElem? (i := 190) rfl) rfl
theorem gm_502 : (.code y_K_print b_K_print 2 none : Cond) ∈ gG := tb_tables_1_2 (List.mem_of_getElem? (i := 191) rfl) rfl
theorem gm_503 : (.methodLink R_K 296 y_W_take : Cond) ∈ gG := tb_tables_1_2 (List.mem_of_getElem? (i := 192) rfl) rfl
theorem gm_504 : (.instanceMethod y_W_take : Cond) ∈ gG := tb_tables_1_2 (List.mem_of_getElem? (i := 193) rfl) rfl
theorem gm_505 : (.selects R_W y_W_take y_W_take : Cond) ∈ gG := tb_tables_1_2 (List.mem_of_getElem? (i := 194) rfl) rfl
theorem gm_506 : (.code y_W_take b_W_take 2 (some .int) : Cond) ∈ gG := tb_tables_1_2 (List.mem_of_getElem? (i := 195) rfl) rfl
theorem gm_507 : (.methodLink R_W 20 y_W_wrap : Cond) ∈ gG := tb_tables_1_2 (List.mem_of_getElem? (i := 196) rfl) rfl
theorem gm_508 : (.instanceMethod y_W_wrap : Cond) ∈ gG := tb_tables_1_2 (List.mem_of_getElem? (i := 197) rfl) rfl
theorem gm_509 : (.selects R_W y_W_wrap y_W_wrap : Cond) ∈ gG := tb_tables_1_2 (List.mem_of_getElem? (i := 198) rfl) rfl
theorem gm_510 : (.code y_W_wrap b_W_wrap 2 (some .int) : Cond) ∈ gG := tb_tables_1_2 (List.mem_of_getElem? (i := 199) rfl) rfl
theorem gm_511 : (.methodLink R_K 113 y_W_add : Cond) ∈ gG := tb_tables_1_2 (List.mem_of_getElem? (i := 200) rfl) rfl
theorem gm_512 : (.instanceMethod y_W_add : Cond) ∈ gG := tb_tables_1_2 (List.mem_of_getElem? (i := 201) rfl) rfl
theorem gm_513 : (.selects R_W y_W_add y_W_add : Cond) ∈ gG := tb_tables_1_2 (List.mem_of_getElem? (i := 202) rfl) rfl
theorem gm_514 : (.code y_W_add b_W_add 2 none : Cond) ∈ gG := tb_tables_1_2 (List.mem_of_getElem? (i := 203) rfl) rfl
theorem gm_515 : (.methodLink R_K 116 y_K_wakeFirst : Cond) ∈ gG := tb_tables_1_2 (List.mem_of_getElem? (i := 204) rfl) rfl
theorem gm_517 : (.instanceMethod y_K_wakeFirst : Cond) ∈ gG := tb_tables_1_2 (List.mem_of_getElem? (i := 206) rfl) rfl
theorem gm_518 : (.code y_K_wakeFirst b_K_wakeFirst 3 none : Cond) ∈ gG := tb_tables_1_2 (List.mem_of_getElem? (i := 207) rfl) rfl
theorem gm_519 : (.methodLink R_K 265 y_K_read : Cond) ∈ gG := tb_tables_1_2 (List.mem_of_getElem? (i := 208) rfl) rfl
theorem gm_521 : (.instanceMethod y_K_read : Cond) ∈ gG := tb_tables_1_2 (List.mem_of_getElem? (i := 210) rfl) rfl
theorem gm_522 : (.code y_K_read b_K_read 3 none : Cond) ∈ gG := tb_tables_1_2 (List.mem_of_getElem? (i := 211) rfl) rfl
theorem gm_523 : (.methodLink R_K 299 y_K_pushNext : Cond) ∈ gG := tb_tables_1_2 (List.mem_of_getElem? (i := 212) rfl) rfl
theorem gm_525 : (.instanceMethod y_K_pushNext : Cond) ∈ gG := tb_tables_1_2 (List.mem_of_getElem? (i := 214) rfl) rfl
theorem gm_526 : (.code y_K_pushNext b_K_pushNext 3 (some .boolean) : Cond) ∈ gG := tb_tables_1_2 (List.mem_of_getElem? (i := 215) rfl) rfl
theorem gm_527 : (.methodLink R_K 303 y_P_pushTwo : Cond) ∈ gG := tb_tables_1_2 (List.mem_of_getElem? (i := 216) rfl) rfl
theorem gm_528 : (.instanceMethod y_P_pushTwo : Cond) ∈ gG := tb_tables_1_2 (List.mem_of_getElem? (i := 217) rfl) rfl
theorem gm_529 : (.selects R_P y_P_pushTwo y_P_pushTwo : Cond) ∈ gG := tb_tables_1_2 (List.mem_of_getElem? (i := 218) rfl) rfl
theorem gm_530 : (.code y_P_pushTwo b_P_pushTwo 3 none : Cond) ∈ gG := tb_tables_1_2 (List.mem_of_getElem? (i := 219) rfl) rfl
theorem gm_531 : (.methodLink R_P 65 y_P_push : Cond) ∈ gG := tb_tables_1_2 (List.mem_of_getElem? (i := 220) rfl) rfl
theorem gm_532 : (.methodLink R_K 268 y_K_fork : Cond) ∈ gG := tb_tables_1_2 (List.mem_of_getElem? (i := 221) rfl) rfl
theorem gm_534 : (.instanceMethod y_K_fork : Cond) ∈ gG := tb_tables_1_2 (List.mem_of_getElem? (i := 223) rfl) rfl
theorem gm_535 : (.code y_K_fork b_K_fork 4 none : Cond) ∈ gG := tb_tables_1_2 (List.mem_of_getElem? (i := 224) rfl) rfl
theorem gm_536 : (.methodLink R_K 306 y_K_freeProc : Cond) ∈ gG := tb_tables_1_2 (List.mem_of_getElem? (i := 225) rfl) rfl
theorem gm_538 : (.instanceMethod y_K_freeProc : Cond) ∈ gG := tb_tables_1_2 (List.mem_of_getElem? (i := 227) rfl) rfl
theorem gm_539 : (.code y_K_freeProc b_K_freeProc 2 (some (.object "PipeKernel$Proc")) : Cond) ∈ gG := tb_tables_1_2 (List.mem_of_getElem? (i := 228) rfl) rfl
theorem gm_540 : (.methodLink R_K 310 y_P_copy : Cond) ∈ gG := tb_tables_1_2 (List.mem_of_getElem? (i := 229) rfl) rfl
theorem gm_541 : (.instanceMethod y_P_copy : Cond) ∈ gG := tb_tables_1_2 (List.mem_of_getElem? (i := 230) rfl) rfl
theorem gm_542 : (.selects R_P y_P_copy y_P_copy : Cond) ∈ gG := tb_tables_1_2 (List.mem_of_getElem? (i := 231) rfl) rfl
theorem gm_543 : (.code y_P_copy b_P_copy 2 none : Cond) ∈ gG := tb_tables_1_2 (List.mem_of_getElem? (i := 232) rfl) rfl
theorem gm_544 : (.methodLink R_P 49 arraycopyName : Cond) ∈ gG := tb_tables_1_2 (List.mem_of_getElem? (i := 233) rfl) rfl
theorem gm_545 : (.static arraycopyName : Cond) ∈ gG := tb_tables_1_2 (List.mem_of_getElem? (i := 234) rfl) rfl
theorem gm_546 : (.native arraycopyName : Cond) ∈ gG := tb_tables_1_2 (List.mem_of_getElem? (i := 235) rfl) rfl
theorem gm_547 : (.methodLink R_K 313 y_K_addEnd : Cond) ∈ gG := tb_tables_1_2 (List.mem_of_getElem? (i := 236) rfl) rfl
theorem gm_549 : (.instanceMethod y_K_addEnd : Cond) ∈ gG := tb_tables_1_2 (List.mem_of_getElem? (i := 238) rfl) rfl
theorem gm_550 : (.code y_K_addEnd b_K_addEnd 2 none : Cond) ∈ gG := tb_tables_1_2 (List.mem_of_getElem? (i := 239) rfl) rfl
theorem gm_551 : (.methodLink R_K 271 y_K_takeEndedChild : Cond) ∈ gG := tb_tables_1_3 (List.mem_of_getElem? (i := 0) rfl) rfl
theorem gm_553 : (.instanceMethod y_K_takeEndedChild : Cond) ∈ gG := tb_tables_1_3 (List.mem_of_getElem? (i := 2) rfl) rfl
theorem gm_554 : (.code y_K_takeEndedChild b_K_takeEndedChild 3 none : Cond) ∈ gG := tb_tables_1_3 (List.mem_of_getElem? (i := 3) rfl) rfl
theorem gm_555 : (.methodLink R_K 274 y_K_kill : Cond) ∈ gG := tb_tables_1_3 (List.mem_of_getElem? (i := 4) rfl) rfl
theorem gm_557 : (.instanceMethod y_K_kill : Cond) ∈ gG := tb_tables_1_3 (List.mem_of_getElem? (i := 6) rfl) rfl
theorem gm_558 : (.code y_K_kill b_K_kill 3 none : Cond) ∈ gG := tb_tables_1_3 (List.mem_of_getElem? (i := 7) rfl) rfl
theorem gm_559 : (.methodLink R_K 153 y_K_isThere : Cond) ∈ gG := tb_tables_1_3 (List.mem_of_getElem? (i := 8) rfl) rfl
theorem gm_561 : (.instanceMethod y_K_isThere : Cond) ∈ gG := tb_tables_1_3 (List.mem_of_getElem? (i := 10) rfl) rfl
theorem gm_562 : (.code y_K_isThere b_K_isThere 2 (some .boolean) : Cond) ∈ gG := tb_tables_1_3 (List.mem_of_getElem? (i := 11) rfl) rfl
theorem gm_563 : (.methodLink R_K 277 y_K_openPipe : Cond) ∈ gG := tb_tables_1_3 (List.mem_of_getElem? (i := 12) rfl) rfl
theorem gm_565 : (.instanceMethod y_K_openPipe : Cond) ∈ gG := tb_tables_1_3 (List.mem_of_getElem? (i := 14) rfl) rfl
theorem gm_566 : (.code y_K_openPipe b_K_openPipe 5 none : Cond) ∈ gG := tb_tables_1_3 (List.mem_of_getElem? (i := 15) rfl) rfl
theorem gm_567 : (.methodLink R_K 319 y_K_freePipe : Cond) ∈ gG := tb_tables_1_3 (List.mem_of_getElem? (i := 16) rfl) rfl
theorem gm_569 : (.instanceMethod y_K_freePipe : Cond) ∈ gG := tb_tables_1_3 (List.mem_of_getElem? (i := 18) rfl) rfl
theorem gm_570 : (.code y_K_freePipe b_K_freePipe 2 (some .int) : Cond) ∈ gG := tb_tables_1_3 (List.mem_of_getElem? (i := 19) rfl) rfl
theorem gm_571 : (.methodLink R_K 322 y_P_countClosed : Cond) ∈ gG := tb_tables_1_3 (List.mem_of_getElem? (i := 20) rfl) rfl
theorem gm_572 : (.instanceMethod y_P_countClosed : Cond) ∈ gG := tb_tables_1_3 (List.mem_of_getElem? (i := 21) rfl) rfl
theorem gm_573 : (.selects R_P y_P_countClosed y_P_countClosed : Cond) ∈ gG := tb_tables_1_3 (List.mem_of_getElem? (i := 22) rfl) rfl
theorem gm_574 : (.code y_P_countClosed b_P_countClosed 1 (some .int) : Cond) ∈ gG := tb_tables_1_3 (List.mem_of_getElem? (i := 23) rfl) rfl
theorem gm_575 : (.methodLink R_P 55 y_P_openDescriptors : Cond) ∈ gG := tb_tables_1_3 (List.mem_of_getElem? (i := 24) rfl) rfl
theorem gm_576 : (.instanceMethod y_P_openDescriptors : Cond) ∈ gG := tb_tables_1_3 (List.mem_of_getElem? (i := 25) rfl) rfl
theorem gm_577 : (.selects R_P y_P_openDescriptors y_P_openDescriptors : Cond) ∈ gG := tb_tables_1_3 (List.mem_of_getElem? (i := 26) rfl) rfl
theorem gm_578 : (.code y_P_openDescriptors b_P_openDescriptors 3 (some .int) : Cond) ∈ gG := tb_tables_1_3 (List.mem_of_getElem? (i := 27) rfl) rfl
theorem gm_579 : (.methodLink R_P 59 y_I_bitCount : Cond) ∈ gG := tb_tables_1_3 (List.mem_of_getElem? (i := 28) rfl) rfl
theorem gm_580 : (.static y_I_bitCount : Cond) ∈ gG := tb_tables_1_3 (List.mem_of_getElem? (i := 29) rfl) rfl
theorem gm_581 : (.code y_I_bitCount b_I_bitCount 1 (some .int) : Cond) ∈ gG := tb_tables_1_3 (List.mem_of_getElem? (i := 30) rfl) rfl
theorem gm_582 : (.constant R_I 265 (1431655765) : Cond) ∈ gG := tb_tables_1_3 (List.mem_of_getElem? (i := 31) rfl) rfl
theorem gm_583 : (.constant R_I 266 (858993459) : Cond) ∈ gG := tb_tables_1_3 (List.mem_of_getElem? (i := 32) rfl) rfl
theorem gm_584 : (.constant R_I 267 (252645135) : Cond) ∈ gG := tb_tables_1_3 (List.mem_of_getElem? (i := 33) rfl) rfl
theorem gm_585 : (.methodLink R_K 325 y_K_openDescriptor : Cond) ∈ gG := tb_tables_1_3 (List.mem_of_getElem? (i := 34) rfl) rfl
theorem gm_587 : (.instanceMethod y_K_openDescriptor : Cond) ∈ gG := tb_tables_1_3 (List.mem_of_getElem? (i := 36) rfl) rfl
theorem gm_588 : (.code y_K_openDescriptor b_K_openDescriptor 4 (some .int) : Cond) ∈ gG := tb_tables_1_3 (List.mem_of_getElem? (i := 37) rfl) rfl
theorem gm_589 : (.methodLink R_K 329 y_P_leastClosed : Cond) ∈ gG := tb_tables_1_3 (List.mem_of_getElem? (i := 38) rfl) rfl
theorem gm_590 : (.instanceMethod y_P_leastClosed : Cond) ∈ gG := tb_tables_1_3 (List.mem_of_getElem? (i := 39) rfl) rfl
theorem gm_591 : (.selects R_P y_P_leastClosed y_P_leastClosed : Cond) ∈ gG := tb_tables_1_3 (List.mem_of_getElem? (i := 40) rfl) rfl
theorem gm_592 : (.code y_P_leastClosed b_P_leastClosed 2 (some .int) : Cond) ∈ gG := tb_tables_1_3 (List.mem_of_getElem? (i := 41) rfl) rfl
theorem gm_593 : (.methodLink R_K 280 y_K_close : Cond) ∈ gG := tb_tables_1_3 (List.mem_of_getElem? (i := 42) rfl) rfl
theorem gm_595 : (.instanceMethod y_K_close : Cond) ∈ gG := tb_tables_1_3 (List.mem_of_getElem? (i := 44) rfl) rfl
theorem gm_596 : (.code y_K_close b_K_close 3 none : Cond) ∈ gG := tb_tables_1_3 (List.mem_of_getElem? (i := 45) rfl) rfl
theorem gm_597 : (.methodLink R_K 283 y_K_duplicate : Cond) ∈ gG := tb_tables_1_3 (List.mem_of_getElem? (i := 46) rfl) rfl
theorem gm_599 : (.instanceMethod y_K_duplicate : Cond) ∈ gG := tb_tables_1_3 (List.mem_of_getElem? (i := 48) rfl) rfl
theorem gm_600 : (.code y_K_duplicate b_K_duplicate 3 none : Cond) ∈ gG := tb_tables_1_3 (List.mem_of_getElem? (i := 49) rfl) rfl
theorem gm_601 : (.methodLink R_K 286 y_K_sleep : Cond) ∈ gG := tb_tables_1_3 (List.mem_of_getElem? (i := 50) rfl) rfl
theorem gm_603 : (.instanceMethod y_K_sleep : Cond) ∈ gG := tb_tables_1_3 (List.mem_of_getElem? (i := 52) rfl) rfl
theorem gm_604 : (.code y_K_sleep b_K_sleep 3 none : Cond) ∈ gG := tb_tables_1_3 (List.mem_of_getElem? (i := 53) rfl) rfl
theorem gm_605 : (.constant R_K 338 (2147483647) : Cond) ∈ gG := tb_tables_1_3 (List.mem_of_getElem? (i := 54) rfl) rfl
theorem gm_606 : (.methodLink R_K 289 y_P_compute : Cond) ∈ gG := tb_tables_1_3 (List.mem_of_getElem? (i := 55) rfl) rfl
theorem gm_607 : (.instanceMethod y_P_compute : Cond) ∈ gG := tb_tables_1_3 (List.mem_of_getElem? (i := 56) rfl) rfl
theorem gm_608 : (.selects R_P y_P_compute y_P_compute : Cond) ∈ gG := tb_tables_1_3 (List.mem_of_getElem? (i := 57) rfl) rfl
theorem gm_609 : (.code y_P_compute b_P_compute 3 none : Cond) ∈ gG := tb_tables_1_3 (List.mem_of_getElem? (i := 58) rfl) rfl
theorem gm_610 : (.methodLink R_P 88 y_P_pop : Cond) ∈ gG := tb_tables_1_3 (List.mem_of_getElem? (i := 59) rfl) rfl
theorem gm_611 : (.methodLink R_P 91 y_P_swap : Cond) ∈ gG := tb_tables_1_3 (List.mem_of_getElem? (i := 60) rfl) rfl
theorem gm_612 : (.instanceMethod y_P_swap : Cond) ∈ gG := tb_tables_1_3 (List.mem_of_getElem? (i := 61) rfl) rfl
theorem gm_613 : (.selects R_P y_P_swap y_P_swap : Cond) ∈ gG := tb_tables_1_3 (List.mem_of_getElem? (i := 62) rfl) rfl
theorem gm_614 : (.code y_P_swap b_P_swap 3 none : Cond) ∈ gG := tb_tables_1_3 (List.mem_of_getElem? (i := 63) rfl) rfl
theorem gm_615 : (.methodLink R_P 100 y_P_pushTwo : Cond) ∈ gG := tb_tables_1_3 (List.mem_of_getElem? (i := 64) rfl) rfl
theorem gm_616 : (.methodLink R_P 94 y_P_storeAt : Cond) ∈ gG := tb_tables_1_3 (List.mem_of_getElem? (i := 65) rfl) rfl
theorem gm_617 : (.instanceMethod y_P_storeAt : Cond) ∈ gG := tb_tables_1_3 (List.mem_of_getElem? (i := 66) rfl) rfl
theorem gm_618 : (.selects R_P y_P_storeAt y_P_storeAt : Cond) ∈ gG := tb_tables_1_3 (List.mem_of_getElem? (i := 67) rfl) rfl
theorem gm_619 : (.code y_P_storeAt b_P_storeAt 2 none : Cond) ∈ gG := tb_tables_1_3 (List.mem_of_getElem? (i := 68) rfl) rfl
theorem gm_620 : (.methodLink R_P 97 y_P_combine : Cond) ∈ gG := tb_tables_1_3 (List.mem_of_getElem? (i := 69) rfl) rfl
theorem gm_621 : (.instanceMethod y_P_combine : Cond) ∈ gG := tb_tables_1_3 (List.mem_of_getElem? (i := 70) rfl) rfl
theorem gm_622 : (.selects R_P y_P_combine y_P_combine : Cond) ∈ gG := tb_tables_1_3 (List.mem_of_getElem? (i := 71) rfl) rfl
theorem gm_623 : (.code y_P_combine b_P_combine 4 none : Cond) ∈ gG := tb_tables_1_3 (List.mem_of_getElem? (i := 72) rfl) rfl
theorem gm_624 : (.methodLink R_P 104 y_P_result : Cond) ∈ gG := tb_tables_1_3 (List.mem_of_getElem? (i := 73) rfl) rfl
theorem gm_625 : (.static y_P_result : Cond) ∈ gG := tb_tables_1_3 (List.mem_of_getElem? (i := 74) rfl) rfl
theorem gm_626 : (.code y_P_result b_P_result 3 (some .int) : Cond) ∈ gG := tb_tables_1_3 (List.mem_of_getElem? (i := 75) rfl) rfl
theorem gm_652 : (.methodLink R_K 149 y_P_openDescriptors : Cond) ∈ gG := tb_tables_1_3 (List.mem_of_getElem? (i := 101) rfl) rfl
theorem gm_693 : (.methodLink R_K 170 y_K_countWaiting : Cond) ∈ gG := tb_tables_1_3 (List.mem_of_getElem? (i := 142) rfl) rfl
theorem gm_695 : (.instanceMethod y_K_countWaiting : Cond) ∈ gG := tb_tables_1_3 (List.mem_of_getElem? (i := 144) rfl) rfl
theorem gm_696 : (.code y_K_countWaiting b_K_countWaiting 4 (some .int) : Cond) ∈ gG := tb_tables_1_3 (List.mem_of_getElem? (i := 145) rfl) rfl
theorem gm_706 : (.methodLink R_K 178 y_W_at : Cond) ∈ gG := tb_tables_1_3 (List.mem_of_getElem? (i := 155) rfl) rfl
theorem gm_707 : (.instanceMethod y_W_at : Cond) ∈ gG := tb_tables_1_3 (List.mem_of_getElem? (i := 156) rfl) rfl
theorem gm_708 : (.selects R_W y_W_at y_W_at : Cond) ∈ gG := tb_tables_1_3 (List.mem_of_getElem? (i := 157) rfl) rfl
theorem gm_709 : (.code y_W_at b_W_at 2 (some .int) : Cond) ∈ gG := tb_tables_1_3 (List.mem_of_getElem? (i := 158) rfl) rfl
theorem gm_716 : (.fieldLink R_M 68 R_M "code" "I" : Cond) ∈ gG := tb_tables_1_3 (List.mem_of_getElem? (i := 165) rfl) rfl
theorem gm_717 : (.fieldLink R_M 61 R_M "quantum" "I" : Cond) ∈ gG := tb_tables_1_3 (List.mem_of_getElem? (i := 166) rfl) rfl
theorem gm_718 : (.fieldLink R_M 65 R_M "capacity" "I" : Cond) ∈ gG := tb_tables_1_3 (List.mem_of_getElem? (i := 167) rfl) rfl
theorem gm_719 : (.fieldLink R_M 71 R_M "booted" "Z" : Cond) ∈ gG := tb_tables_1_3 (List.mem_of_getElem? (i := 168) rfl) rfl
theorem gm_720 : (.fieldLink R_M 187 R_M "time" "I" : Cond) ∈ gG := tb_tables_1_3 (List.mem_of_getElem? (i := 169) rfl) rfl
theorem gm_721 : (.fieldLink R_M 7 R_M "image" "[I" : Cond) ∈ gG := tb_tables_1_3 (List.mem_of_getElem? (i := 170) rfl) rfl
theorem gm_722 : (.fieldLink R_M 13 R_M "state" "[I" : Cond) ∈ gG := tb_tables_1_3 (List.mem_of_getElem? (i := 171) rfl) rfl
theorem gm_723 : (.fieldLink R_M 16 R_M "memory" "[I" : Cond) ∈ gG := tb_tables_1_3 (List.mem_of_getElem? (i := 172) rfl) rfl
theorem gm_724 : (.fieldLink R_M 19 R_M "stack" "[I" : Cond) ∈ gG := tb_tables_1_3 (List.mem_of_getElem? (i := 173) rfl) rfl
theorem gm_725 : (.fieldLink R_M 22 R_M "size" "[I" : Cond) ∈ gG := tb_tables_1_3 (List.mem_of_getElem? (i := 174) rfl) rfl
theorem gm_726 : (.fieldLink R_M 25 R_M "place" "[I" : Cond) ∈ gG := tb_tables_1_3 (List.mem_of_getElem? (i := 175) rfl) rfl
theorem gm_727 : (.fieldLink R_M 28 R_M "descriptors" "[I" : Cond) ∈ gG := tb_tables_1_3 (List.mem_of_getElem? (i := 176) rfl) rfl
theorem gm_728 : (.fieldLink R_M 31 R_M "parent" "[I" : Cond) ∈ gG := tb_tables_1_3 (List.mem_of_getElem? (i := 177) rfl) rfl
theorem gm_729 : (.fieldLink R_M 34 R_M "codes" "[I" : Cond) ∈ gG := tb_tables_1_3 (List.mem_of_getElem? (i := 178) rfl) rfl
theorem gm_730 : (.fieldLink R_M 37 R_M "until" "[I" : Cond) ∈ gG := tb_tables_1_3 (List.mem_of_getElem? (i := 179) rfl) rfl
theorem gm_731 : (.fieldLink R_M 40 R_M "queue" "[I" : Cond) ∈ gG := tb_tables_1_3 (List.mem_of_getElem? (i := 180) rfl) rfl
theorem gm_732 : (.fieldLink R_M 79 R_M "queued" "I" : Cond) ∈ gG := tb_tables_1_3 (List.mem_of_getElem? (i := 181) rfl) rfl
theorem gm_733 : (.fieldLink R_M 82 R_M "done" "I" : Cond) ∈ gG := tb_tables_1_3 (List.mem_of_getElem? (i := 182) rfl) rfl
theorem gm_734 : (.fieldLink R_M 88 R_M "moved" "Z" : Cond) ∈ gG := tb_tables_1_3 (List.mem_of_getElem? (i := 183) rfl) rfl
theorem gm_735 : (.fieldLink R_M 43 R_M "waiting" "[I" : Cond) ∈ gG := tb_tables_1_3 (List.mem_of_getElem? (i := 184) rfl) rfl
theorem gm_736 : (.fieldLink R_M 46 R_M "waits" "[I" : Cond) ∈ gG := tb_tables_1_3 (List.mem_of_getElem? (i := 185) rfl) rfl
theorem gm_737 : (.fieldLink R_M 49 R_M "words" "[I" : Cond) ∈ gG := tb_tables_1_3 (List.mem_of_getElem? (i := 186) rfl) rfl
theorem gm_738 : (.fieldLink R_M 52 R_M "filled" "[I" : Cond) ∈ gG := tb_tables_1_3 (List.mem_of_getElem? (i := 187) rfl) rfl
theorem gm_739 : (.fieldLink R_M 55 R_M "input" "[I" : Cond) ∈ gG := tb_tables_1_3 (List.mem_of_getElem? (i := 188) rfl) rfl
theorem gm_740 : (.fieldLink R_M 119 R_M "inputs" "I" : Cond) ∈ gG := tb_tables_1_3 (List.mem_of_getElem? (i := 189) rfl) rfl
theorem gm_741 : (.fieldLink R_M 122 R_M "isShut" "Z" : Cond) ∈ gG := tb_tables_1_3 (List.mem_of_getElem? (i := 190) rfl) rfl
theorem gm_742 : (.fieldLink R_M 58 R_M "output" "[I" : Cond) ∈ gG := tb_tables_1_3 (List.mem_of_getElem? (i := 191) rfl) rfl
theorem gm_743 : (.fieldLink R_M 190 R_M "outputs" "I" : Cond) ∈ gG := tb_tables_1_3 (List.mem_of_getElem? (i := 192) rfl) rfl
theorem gm_813 : (.methodLink R_M 75 y_M_ready : Cond) ∈ gG := tb_tables_1_4 (List.mem_of_getElem? (i := 22) rfl) rfl
theorem gm_815 : (.instanceMethod y_M_ready : Cond) ∈ gG := tb_tables_1_4 (List.mem_of_getElem? (i := 24) rfl) rfl
theorem gm_816 : (.code y_M_ready b_M_ready 2 none : Cond) ∈ gG := tb_tables_1_4 (List.mem_of_getElem? (i := 25) rfl) rfl
theorem gm_821 : (.methodLink R_M 208 y_M_goesOn : Cond) ∈ gG := tb_tables_1_4 (List.mem_of_getElem? (i := 30) rfl) rfl
theorem gm_823 : (.instanceMethod y_M_goesOn : Cond) ∈ gG := tb_tables_1_4 (List.mem_of_getElem? (i := 32) rfl) rfl
theorem gm_824 : (.code y_M_goesOn b_M_goesOn 3 (some .boolean) : Cond) ∈ gG := tb_tables_1_4 (List.mem_of_getElem? (i := 33) rfl) rfl
theorem gm_825 : (.methodLink R_M 212 y_M_step : Cond) ∈ gG := tb_tables_1_4 (List.mem_of_getElem? (i := 34) rfl) rfl
theorem gm_827 : (.instanceMethod y_M_step : Cond) ∈ gG := tb_tables_1_4 (List.mem_of_getElem? (i := 36) rfl) rfl
theorem gm_828 : (.code y_M_step b_M_step 2 none : Cond) ∈ gG := tb_tables_1_4 (List.mem_of_getElem? (i := 37) rfl) rfl
theorem gm_829 : (.methodLink R_M 202 y_M_wakeSleepers : Cond) ∈ gG := tb_tables_1_4 (List.mem_of_getElem? (i := 38) rfl) rfl
theorem gm_831 : (.instanceMethod y_M_wakeSleepers : Cond) ∈ gG := tb_tables_1_4 (List.mem_of_getElem? (i := 40) rfl) rfl
theorem gm_832 : (.code y_M_wakeSleepers b_M_wakeSleepers 4 none : Cond) ∈ gG := tb_tables_1_4 (List.mem_of_getElem? (i := 41) rfl) rfl
theorem gm_833 : (.methodLink R_M 205 y_M_instruct : Cond) ∈ gG := tb_tables_1_4 (List.mem_of_getElem? (i := 42) rfl) rfl
theorem gm_835 : (.instanceMethod y_M_instruct : Cond) ∈ gG := tb_tables_1_4 (List.mem_of_getElem? (i := 44) rfl) rfl
theorem gm_836 : (.code y_M_instruct b_M_instruct 9 none : Cond) ∈ gG := tb_tables_1_4 (List.mem_of_getElem? (i := 45) rfl) rfl
theorem gm_837 : (.methodLink R_M 137 y_M_faultOf : Cond) ∈ gG := tb_tables_1_4 (List.mem_of_getElem? (i := 46) rfl) rfl
theorem gm_839 : (.instanceMethod y_M_faultOf : Cond) ∈ gG := tb_tables_1_4 (List.mem_of_getElem? (i := 48) rfl) rfl
theorem gm_840 : (.code y_M_faultOf b_M_faultOf 7 (some .int) : Cond) ∈ gG := tb_tables_1_4 (List.mem_of_getElem? (i := 49) rfl) rfl
theorem gm_841 : (.methodLink R_M 125 y_M_isWord : Cond) ∈ gG := tb_tables_1_4 (List.mem_of_getElem? (i := 50) rfl) rfl
theorem gm_842 : (.static y_M_isWord : Cond) ∈ gG := tb_tables_1_4 (List.mem_of_getElem? (i := 51) rfl) rfl
theorem gm_843 : (.code y_M_isWord b_M_isWord 1 (some .boolean) : Cond) ∈ gG := tb_tables_1_4 (List.mem_of_getElem? (i := 52) rfl) rfl
theorem gm_844 : (.methodLink R_M 128 y_M_looks : Cond) ∈ gG := tb_tables_1_4 (List.mem_of_getElem? (i := 53) rfl) rfl
theorem gm_845 : (.static y_M_looks : Cond) ∈ gG := tb_tables_1_4 (List.mem_of_getElem? (i := 54) rfl) rfl
theorem gm_846 : (.code y_M_looks b_M_looks 1 (some .int) : Cond) ∈ gG := tb_tables_1_4 (List.mem_of_getElem? (i := 55) rfl) rfl
theorem gm_847 : (.methodLink R_M 112 y_M_top : Cond) ∈ gG := tb_tables_1_4 (List.mem_of_getElem? (i := 56) rfl) rfl
theorem gm_849 : (.instanceMethod y_M_top : Cond) ∈ gG := tb_tables_1_4 (List.mem_of_getElem? (i := 58) rfl) rfl
theorem gm_850 : (.code y_M_top b_M_top 3 (some .int) : Cond) ∈ gG := tb_tables_1_4 (List.mem_of_getElem? (i := 59) rfl) rfl
theorem gm_851 : (.methodLink R_M 131 y_M_pushes : Cond) ∈ gG := tb_tables_1_4 (List.mem_of_getElem? (i := 60) rfl) rfl
theorem gm_852 : (.static y_M_pushes : Cond) ∈ gG := tb_tables_1_4 (List.mem_of_getElem? (i := 61) rfl) rfl
theorem gm_853 : (.code y_M_pushes b_M_pushes 2 (some .int) : Cond) ∈ gG := tb_tables_1_4 (List.mem_of_getElem? (i := 62) rfl) rfl
theorem gm_854 : (.methodLink R_M 134 y_M_rowFor : Cond) ∈ gG := tb_tables_1_4 (List.mem_of_getElem? (i := 63) rfl) rfl
theorem gm_856 : (.instanceMethod y_M_rowFor : Cond) ∈ gG := tb_tables_1_4 (List.mem_of_getElem? (i := 65) rfl) rfl
theorem gm_857 : (.code y_M_rowFor b_M_rowFor 6 (some .int) : Cond) ∈ gG := tb_tables_1_4 (List.mem_of_getElem? (i := 66) rfl) rfl
theorem gm_858 : (.methodLink R_M 116 y_M_descriptorOf : Cond) ∈ gG := tb_tables_1_4 (List.mem_of_getElem? (i := 67) rfl) rfl
theorem gm_860 : (.instanceMethod y_M_descriptorOf : Cond) ∈ gG := tb_tables_1_4 (List.mem_of_getElem? (i := 69) rfl) rfl
theorem gm_861 : (.code y_M_descriptorOf b_M_descriptorOf 3 (some .int) : Cond) ∈ gG := tb_tables_1_4 (List.mem_of_getElem? (i := 70) rfl) rfl
theorem gm_862 : (.methodLink R_M 98 y_M_many : Cond) ∈ gG := tb_tables_1_4 (List.mem_of_getElem? (i := 71) rfl) rfl
theorem gm_864 : (.instanceMethod y_M_many : Cond) ∈ gG := tb_tables_1_4 (List.mem_of_getElem? (i := 73) rfl) rfl
theorem gm_865 : (.code y_M_many b_M_many 4 (some .int) : Cond) ∈ gG := tb_tables_1_4 (List.mem_of_getElem? (i := 74) rfl) rfl
theorem gm_866 : (.methodLink R_M 140 y_M_end : Cond) ∈ gG := tb_tables_1_4 (List.mem_of_getElem? (i := 75) rfl) rfl
theorem gm_868 : (.instanceMethod y_M_end : Cond) ∈ gG := tb_tables_1_4 (List.mem_of_getElem? (i := 77) rfl) rfl
theorem gm_869 : (.code y_M_end b_M_end 6 none : Cond) ∈ gG := tb_tables_1_4 (List.mem_of_getElem? (i := 78) rfl) rfl
theorem gm_870 : (.methodLink R_M 85 y_M_leaveQueue : Cond) ∈ gG := tb_tables_1_4 (List.mem_of_getElem? (i := 79) rfl) rfl
theorem gm_872 : (.instanceMethod y_M_leaveQueue : Cond) ∈ gG := tb_tables_1_4 (List.mem_of_getElem? (i := 81) rfl) rfl
theorem gm_873 : (.code y_M_leaveQueue b_M_leaveQueue 5 none : Cond) ∈ gG := tb_tables_1_4 (List.mem_of_getElem? (i := 82) rfl) rfl
theorem gm_874 : (.methodLink R_M 91 y_M_leaveRow : Cond) ∈ gG := tb_tables_1_4 (List.mem_of_getElem? (i := 83) rfl) rfl
theorem gm_876 : (.instanceMethod y_M_leaveRow : Cond) ∈ gG := tb_tables_1_4 (List.mem_of_getElem? (i := 85) rfl) rfl
theorem gm_877 : (.code y_M_leaveRow b_M_leaveRow 5 none : Cond) ∈ gG := tb_tables_1_4 (List.mem_of_getElem? (i := 86) rfl) rfl
theorem gm_878 : (.methodLink R_M 109 y_M_shutEnd : Cond) ∈ gG := tb_tables_1_4 (List.mem_of_getElem? (i := 87) rfl) rfl
theorem gm_880 : (.instanceMethod y_M_shutEnd : Cond) ∈ gG := tb_tables_1_4 (List.mem_of_getElem? (i := 89) rfl) rfl
theorem gm_881 : (.code y_M_shutEnd b_M_shutEnd 5 none : Cond) ∈ gG := tb_tables_1_4 (List.mem_of_getElem? (i := 90) rfl) rfl
theorem gm_882 : (.methodLink R_M 102 y_M_wakeAll : Cond) ∈ gG := tb_tables_1_4 (List.mem_of_getElem? (i := 91) rfl) rfl
theorem gm_884 : (.instanceMethod y_M_wakeAll : Cond) ∈ gG := tb_tables_1_4 (List.mem_of_getElem? (i := 93) rfl) rfl
theorem gm_885 : (.code y_M_wakeAll b_M_wakeAll 2 none : Cond) ∈ gG := tb_tables_1_4 (List.mem_of_getElem? (i := 94) rfl) rfl
theorem gm_886 : (.methodLink R_M 95 y_M_wakeFirst : Cond) ∈ gG := tb_tables_1_4 (List.mem_of_getElem? (i := 95) rfl) rfl
theorem gm_888 : (.instanceMethod y_M_wakeFirst : Cond) ∈ gG := tb_tables_1_4 (List.mem_of_getElem? (i := 97) rfl) rfl
theorem gm_889 : (.code y_M_wakeFirst b_M_wakeFirst 3 none : Cond) ∈ gG := tb_tables_1_4 (List.mem_of_getElem? (i := 98) rfl) rfl
theorem gm_890 : (.methodLink R_M 105 y_M_isPipe : Cond) ∈ gG := tb_tables_1_4 (List.mem_of_getElem? (i := 99) rfl) rfl
theorem gm_892 : (.instanceMethod y_M_isPipe : Cond) ∈ gG := tb_tables_1_4 (List.mem_of_getElem? (i := 101) rfl) rfl
theorem gm_893 : (.code y_M_isPipe b_M_isPipe 2 (some .boolean) : Cond) ∈ gG := tb_tables_1_4 (List.mem_of_getElem? (i := 102) rfl) rfl
theorem gm_894 : (.methodLink R_M 143 y_M_stand : Cond) ∈ gG := tb_tables_1_4 (List.mem_of_getElem? (i := 103) rfl) rfl
theorem gm_896 : (.instanceMethod y_M_stand : Cond) ∈ gG := tb_tables_1_4 (List.mem_of_getElem? (i := 105) rfl) rfl
theorem gm_897 : (.code y_M_stand b_M_stand 4 none : Cond) ∈ gG := tb_tables_1_4 (List.mem_of_getElem? (i := 106) rfl) rfl
theorem gm_898 : (.methodLink R_M 147 y_M_plain : Cond) ∈ gG := tb_tables_1_4 (List.mem_of_getElem? (i := 107) rfl) rfl
theorem gm_900 : (.instanceMethod y_M_plain : Cond) ∈ gG := tb_tables_1_4 (List.mem_of_getElem? (i := 109) rfl) rfl
theorem gm_901 : (.code y_M_plain b_M_plain 7 none : Cond) ∈ gG := tb_tables_1_4 (List.mem_of_getElem? (i := 110) rfl) rfl
theorem gm_902 : (.methodLink R_M 155 y_M_push : Cond) ∈ gG := tb_tables_1_4 (List.mem_of_getElem? (i := 111) rfl) rfl
theorem gm_904 : (.instanceMethod y_M_push : Cond) ∈ gG := tb_tables_1_4 (List.mem_of_getElem? (i := 113) rfl) rfl
theorem gm_905 : (.code y_M_push b_M_push 3 none : Cond) ∈ gG := tb_tables_1_4 (List.mem_of_getElem? (i := 114) rfl) rfl
theorem gm_906 : (.methodLink R_M 158 y_M_reckon : Cond) ∈ gG := tb_tables_1_4 (List.mem_of_getElem? (i := 115) rfl) rfl
theorem gm_907 : (.static y_M_reckon : Cond) ∈ gG := tb_tables_1_4 (List.mem_of_getElem? (i := 116) rfl) rfl
theorem gm_908 : (.code y_M_reckon b_M_reckon 3 (some .int) : Cond) ∈ gG := tb_tables_1_4 (List.mem_of_getElem? (i := 117) rfl) rfl
theorem gm_909 : (.methodLink R_M 151 y_M_call : Cond) ∈ gG := tb_tables_1_4 (List.mem_of_getElem? (i := 118) rfl) rfl
theorem gm_911 : (.instanceMethod y_M_call : Cond) ∈ gG := tb_tables_1_4 (List.mem_of_getElem? (i := 120) rfl) rfl
theorem gm_912 : (.code y_M_call b_M_call 5 none : Cond) ∈ gG := tb_tables_1_4 (List.mem_of_getElem? (i := 121) rfl) rfl
theorem gm_913 : (.methodLink R_M 162 y_M_toEnd : Cond) ∈ gG := tb_tables_1_4 (List.mem_of_getElem? (i := 122) rfl) rfl
theorem gm_915 : (.instanceMethod y_M_toEnd : Cond) ∈ gG := tb_tables_1_4 (List.mem_of_getElem? (i := 124) rfl) rfl
theorem gm_916 : (.code y_M_toEnd b_M_toEnd 2 none : Cond) ∈ gG := tb_tables_1_4 (List.mem_of_getElem? (i := 125) rfl) rfl
theorem gm_917 : (.methodLink R_M 165 y_M_write : Cond) ∈ gG := tb_tables_1_4 (List.mem_of_getElem? (i := 126) rfl) rfl
theorem gm_919 : (.instanceMethod y_M_write : Cond) ∈ gG := tb_tables_1_4 (List.mem_of_getElem? (i := 128) rfl) rfl
theorem gm_920 : (.code y_M_write b_M_write 6 none : Cond) ∈ gG := tb_tables_1_4 (List.mem_of_getElem? (i := 129) rfl) rfl
theorem gm_921 : (.methodLink R_M 193 y_M_intoPipe : Cond) ∈ gG := tb_tables_1_4 (List.mem_of_getElem? (i := 130) rfl) rfl
theorem gm_923 : (.instanceMethod y_M_intoPipe : Cond) ∈ gG := tb_tables_1_4 (List.mem_of_getElem? (i := 132) rfl) rfl
theorem gm_924 : (.code y_M_intoPipe b_M_intoPipe 3 none : Cond) ∈ gG := tb_tables_1_4 (List.mem_of_getElem? (i := 133) rfl) rfl
theorem gm_925 : (.methodLink R_M 168 y_M_read : Cond) ∈ gG := tb_tables_1_4 (List.mem_of_getElem? (i := 134) rfl) rfl
theorem gm_927 : (.instanceMethod y_M_read : Cond) ∈ gG := tb_tables_1_4 (List.mem_of_getElem? (i := 136) rfl) rfl
theorem gm_928 : (.code y_M_read b_M_read 5 none : Cond) ∈ gG := tb_tables_1_4 (List.mem_of_getElem? (i := 137) rfl) rfl
theorem gm_929 : (.methodLink R_M 196 y_M_outOfPipe : Cond) ∈ gG := tb_tables_1_4 (List.mem_of_getElem? (i := 138) rfl) rfl
theorem gm_931 : (.instanceMethod y_M_outOfPipe : Cond) ∈ gG := tb_tables_1_4 (List.mem_of_getElem? (i := 140) rfl) rfl
theorem gm_932 : (.code y_M_outOfPipe b_M_outOfPipe 4 (some .int) : Cond) ∈ gG := tb_tables_1_4 (List.mem_of_getElem? (i := 141) rfl) rfl
theorem gm_933 : (.methodLink R_M 171 y_M_fork : Cond) ∈ gG := tb_tables_1_4 (List.mem_of_getElem? (i := 142) rfl) rfl
theorem gm_935 : (.instanceMethod y_M_fork : Cond) ∈ gG := tb_tables_1_4 (List.mem_of_getElem? (i := 144) rfl) rfl
theorem gm_936 : (.code y_M_fork b_M_fork 4 none : Cond) ∈ gG := tb_tables_1_4 (List.mem_of_getElem? (i := 145) rfl) rfl
theorem gm_937 : (.methodLink R_M 174 y_M_await : Cond) ∈ gG := tb_tables_1_4 (List.mem_of_getElem? (i := 146) rfl) rfl
theorem gm_939 : (.instanceMethod y_M_await : Cond) ∈ gG := tb_tables_1_4 (List.mem_of_getElem? (i := 148) rfl) rfl
theorem gm_940 : (.code y_M_await b_M_await 3 none : Cond) ∈ gG := tb_tables_1_4 (List.mem_of_getElem? (i := 149) rfl) rfl
theorem gm_941 : (.methodLink R_M 177 y_M_kill : Cond) ∈ gG := tb_tables_1_4 (List.mem_of_getElem? (i := 150) rfl) rfl
theorem gm_943 : (.instanceMethod y_M_kill : Cond) ∈ gG := tb_tables_1_4 (List.mem_of_getElem? (i := 152) rfl) rfl
theorem gm_944 : (.code y_M_kill b_M_kill 4 none : Cond) ∈ gG := tb_tables_1_4 (List.mem_of_getElem? (i := 153) rfl) rfl
theorem gm_945 : (.methodLink R_M 180 y_M_makePipe : Cond) ∈ gG := tb_tables_1_4 (List.mem_of_getElem? (i := 154) rfl) rfl
theorem gm_947 : (.instanceMethod y_M_makePipe : Cond) ∈ gG := tb_tables_1_4 (List.mem_of_getElem? (i := 156) rfl) rfl
theorem gm_948 : (.code y_M_makePipe b_M_makePipe 5 none : Cond) ∈ gG := tb_tables_1_4 (List.mem_of_getElem? (i := 157) rfl) rfl
theorem gm_949 : (.methodLink R_M 199 y_M_freeDescriptor : Cond) ∈ gG := tb_tables_1_4 (List.mem_of_getElem? (i := 158) rfl) rfl
theorem gm_951 : (.instanceMethod y_M_freeDescriptor : Cond) ∈ gG := tb_tables_1_4 (List.mem_of_getElem? (i := 160) rfl) rfl
theorem gm_952 : (.code y_M_freeDescriptor b_M_freeDescriptor 4 (some .int) : Cond) ∈ gG := tb_tables_1_4 (List.mem_of_getElem? (i := 161) rfl) rfl
theorem gm_953 : (.methodLink R_M 183 y_M_dup : Cond) ∈ gG := tb_tables_1_4 (List.mem_of_getElem? (i := 162) rfl) rfl
theorem gm_955 : (.instanceMethod y_M_dup : Cond) ∈ gG := tb_tables_1_4 (List.mem_of_getElem? (i := 164) rfl) rfl
theorem gm_956 : (.code y_M_dup b_M_dup 4 none : Cond) ∈ gG := tb_tables_1_4 (List.mem_of_getElem? (i := 165) rfl) rfl
theorem gm_957 : (.constant R_M 186 (2147483647) : Cond) ∈ gG := tb_tables_1_4 (List.mem_of_getElem? (i := 166) rfl) rfl
theorem gm_974 : (.methodLink R_M 215 y_M_noProcess : Cond) ∈ gG := tb_tables_1_4 (List.mem_of_getElem? (i := 183) rfl) rfl
theorem gm_976 : (.instanceMethod y_M_noProcess : Cond) ∈ gG := tb_tables_1_4 (List.mem_of_getElem? (i := 185) rfl) rfl
theorem gm_977 : (.code y_M_noProcess b_M_noProcess 2 (some .boolean) : Cond) ∈ gG := tb_tables_1_4 (List.mem_of_getElem? (i := 186) rfl) rfl
theorem gm_986 : (.methodLink R_M 218 y_M_notThere : Cond) ∈ gG := tb_tables_1_4 (List.mem_of_getElem? (i := 195) rfl) rfl
theorem gm_988 : (.instanceMethod y_M_notThere : Cond) ∈ gG := tb_tables_1_4 (List.mem_of_getElem? (i := 197) rfl) rfl
theorem gm_989 : (.code y_M_notThere b_M_notThere 2 (some .boolean) : Cond) ∈ gG := tb_tables_1_4 (List.mem_of_getElem? (i := 198) rfl) rfl
end
section
/-! the state of both objects as numbers: kind, index, place -/
abbrev KS : Type := Nat → Nat → Nat → Int32
def ur (f : KS) (a b : Nat) (r : Nat → Int32) : KS := fun a' b' => if a' = a ∧ b' = b then r else f a' b'
def w3 (f : KS) (a b k : Nat) (v : Int32) : KS := ur f a b (upd (f a b) k v)
theorem ur_at (f : KS) (a b : Nat) (r : Nat → Int32) : ur f a b r a b = r := by simp [ur]
theorem ur_ne {f : KS} {a b : Nat} {r : Nat → Int32} {a' b' : Nat} (h : ¬ (a' = a ∧ b' = b)) : ur f a b r a' b' = f a' b' := by simp only [ur, if_neg h]
theorem w3_eq (f : KS) (a b k : Nat) (v : Int32) (a' b' k' : Nat) : w3 f a b k v a' b' k' = if a' = a ∧ b' = b ∧ k' = k then v else f a' b' k' := by
  unfold w3 ur upd
  by_cases h : a' = a ∧ b' = b
  · obtain ⟨rfl, rfl⟩ := h
    by_cases hk : k' = k <;> simp [hk]
  · rw [if_neg h, if_neg (fun q => h ⟨q.1, q.2.1⟩)]
theorem vp_lt {j : Int32} {n : Nat} (h : vp_in j n) : j.toNatClampNeg < n := Nat.not_le.mp fun q => h (Or.inr q)
/-! the surroundings: class numbers, array classes, addresses, the pipes' room, the two tables' addresses -/
abbrev gE : Type := (va_G × (Nat → ClassId)) × (Nat → Nat → Nat) × Nat × Nat × Nat
def eD (E : gE) : va_G := E.1.1
def eC (E : gE) : Nat → ClassId := E.1.2
def ea (E : gE) : Nat → Nat → Nat := E.2.1
def eN (E : gE) : Nat := E.2.2.1
def eL (E : gE) : Nat := E.2.2.2.1
def eG (E : gE) : Nat := E.2.2.2.2
def eT (E : gE) : List (ClassId × FieldType) := [(eC E 0, .int), (eC E 1, .object "PipeKernel$Proc"), (eC E 2, .object "PipeKernel$Words")]
def aL (cp a b : Nat) : Nat := match a with
  | 2 => 128
  | 3 => 32
  | 4 => 8
  | 6 => if b < 8 then cp else if b = 8 then 100 else 500
  | 7 => 28
  | 8 => 16
  | 25 => 128
  | 26 => 16
  | 27 => 2048
  | 28 => 1024
  | 29 => 16
  | 30 => 16
  | 31 => 128
  | 32 => 16
  | 33 => 16
  | 34 => 16
  | 35 => 16
  | 39 => 272
  | 40 => 17
  | 41 => 128
  | 42 => 8
  | 43 => 100
  | 46 => 500
  | _ => 0
/-- a cell by its key and its row of numbers -/
def ke (E : gE) (a b : Nat) (r : Nat → Int32) : va_E := match a with
  | 0 => .inr (2, [.int (r 0), .ref (ea E 9 0), .ref (ea E 10 0), .ref (ea E 7 0), .ref (ea E 8 0), .int (r 5), .int (r 6), .int (r 7), .int (r 8), .int (r 9), .ref (ea E 5 8), .int (r 11), .ref (ea E 5 9), .int (r 13)])
  | 1 => .inr (0, [.int (r 0), .ref (ea E 2 b), .ref (ea E 3 b), .ref (ea E 4 b), .int (r 4), .int (r 5), .int (r 6), .int (r 7), .int (r 8), .int (r 9), .int (r 10), .int (r 11)])
  | 5 => .inr (1, [.ref (ea E 6 b), .int (r 1), .int (r 2)])
  | 9 => .inl (eC E 1, 16, .inr (.inr (.inr (.inr (fun j => some (ea E 1 j))))))
  | 10 => .inl (eC E 2, 8, .inr (.inr (.inr (.inr (fun j => some (ea E 5 j))))))
  | 20 => .inr (3, [.int (r 0), .int (r 1), .int (r 2), .int (r 3), .int (r 4), .ref (ea E 25 0), .ref (ea E 26 0), .ref (ea E 27 0), .ref (ea E 28 0), .ref (ea E 29 0), .ref (ea E 30 0), .ref (ea E 31 0), .ref (ea E 32 0), .ref (ea E 33 0), .ref (ea E 34 0), .ref (ea E 35 0), .int (r 16), .int (r 17), .int (r 18), .ref (ea E 39 0), .ref (ea E 40 0), .ref (ea E 41 0), .ref (ea E 42 0), .ref (ea E 43 0), .int (r 24), .int (r 25), .ref (ea E 46 0), .int (r 27)])
  | _ => .inl (eC E 0, aL (eN E) a b, .inl r)
def KK : List (Nat × Nat) := [(0, 0), (9, 0), (10, 0), (7, 0), (8, 0), (5, 8), (6, 8), (5, 9), (6, 9)] ++ (List.range 16).flatMap (fun i => [(1, i), (2, i), (3, i), (4, i)]) ++ (List.range 8).flatMap (fun w => [(5, w), (6, w)])
def MM : List (Nat × Nat) := [(20, 0), (25, 0), (26, 0), (27, 0), (28, 0), (29, 0), (30, 0), (31, 0), (32, 0), (33, 0), (34, 0), (35, 0), (39, 0), (40, 0), (41, 0), (42, 0), (43, 0), (46, 0)]
theorem KK_nd : KK.Nodup := by decide +kernel
theorem MM_nd : MM.Nodup := by decide +kernel
theorem kk_0 : (0, 0) ∈ KK := by decide +kernel
theorem kk_7 : (7, 0) ∈ KK := by decide +kernel
theorem kk_8 : (8, 0) ∈ KK := by decide +kernel
theorem kk_9 : (9, 0) ∈ KK := by decide +kernel
theorem kk_10 : (10, 0) ∈ KK := by decide +kernel
theorem kk_1 : ∀ i, i < 16 → (1, i) ∈ KK := by decide +kernel
theorem kk_2 : ∀ i, i < 16 → (2, i) ∈ KK := by decide +kernel
theorem kk_3 : ∀ i, i < 16 → (3, i) ∈ KK := by decide +kernel
theorem kk_4 : ∀ i, i < 16 → (4, i) ∈ KK := by decide +kernel
theorem kk_5 : ∀ i, i < 10 → (5, i) ∈ KK := by decide +kernel
theorem kk_6 : ∀ i, i < 10 → (6, i) ∈ KK := by decide +kernel
/-! the world -/
def gw (ks : List (Nat × Nat)) (E : gE) (f : KS) : va_W := ks.map (fun q => (ea E q.1 q.2, ke E q.1 q.2 (f q.1 q.2)))
theorem gw_pos {ks : List (Nat × Nat)} {E : gE} {f : KS} {a b q : Nat} (h : ks[q]? = some (a, b)) : (gw ks E f)[q]? = some (ea E a b, ke E a b (f a b)) := by
  unfold gw
  rw [List.getElem?_map, h]
  rfl
theorem gw_set {ks : List (Nat × Nat)} {E : gE} {f : KS} {a b q : Nat} (hn : ks.Nodup) (h : ks[q]? = some (a, b)) (r : Nat → Int32) : (gw ks E f).set q (ea E a b, ke E a b r) = gw ks E (ur f a b r) := by
  have hl : q < ks.length := (List.getElem?_eq_some_iff.mp h).1
  apply List.ext_getElem?
  intro j
  by_cases hj : j = q
  · subst hj
    rw [List.getElem?_set_self (by unfold gw; rw [List.length_map]; exact hl), gw_pos h, ur_at]
  · rw [List.getElem?_set_ne (Ne.symm hj)]
    unfold gw
    rw [List.getElem?_map, List.getElem?_map]
    cases hk : ks[j]? with
    | none => rfl
    | some x =>
      have hx : ¬ (x.1 = a ∧ x.2 = b) := by
        intro z
        have hx2 : ks[j]? = ks[q]? := by rw [hk, h]; obtain ⟨x1, x2⟩ := x; simp only at z; rw [z.1, z.2]
        have hjl : j < ks.length := (List.getElem?_eq_some_iff.mp hk).1
        exact hj ((List.getElem?_inj hjl hn).mp hx2)
      show some (ea E x.1 x.2, ke E x.1 x.2 (f x.1 x.2)) = some (ea E x.1 x.2, ke E x.1 x.2 (ur f a b r x.1 x.2))
      rw [ur_ne hx]
def gA (E : gE) (ks : List (Nat × Nat)) (sz : Nat) : Nat → Prop := fun q => (∃ x, x ∈ ks ∧ q = ea E x.1 x.2) ∨ sz ≤ q
/-- the two tables of the class, that nobody writes -/
def tL (j : Nat) : Int32 := ([0, 0, 1, 1, 2, 2, 2, 2, 2, 2, 2, 2, 2, 2, 2, 2, 2, 1, 0, 1, 1, 2, 0, 1, 0, 1, -1, -1, -1, -1, 1, 0, 0, 2, 1, 0, 0, 1, 0, 1, 1, 1] : List Int32).getD j 0
def tG (j : Nat) : Int32 := ([0, 1, -1, 1, 0, -1, -1, -1, -1, -1, -1, -1, -1, -1, -1, -1, -1, 0, 1, -1, 0, -2, 0, -1, 1, -1, 0, 0, 0, 0, -1, 1, 0, -1, 1, 1, 2, 0, 2, 0, 0, 0] : List Int32).getD j 0
def kX (E : gE) (A : Nat → Prop) (U : State) (H : Heap) : Prop :=
  va_Nw (.fieldLinkNest "PipeKernel$Proc" 76 "PipeKernel" "LOOKS_AT" "[I" "PipeKernel") U ∧ va_Nw (.fieldLinkNest "PipeKernel$Proc" 85 "PipeKernel" "GROWS_BY" "[I" "PipeKernel") U ∧
  va_Z "PipeKernel" "LOOKS_AT" "[I" (.ref (eL E)) A U H ∧ va_Z "PipeKernel" "GROWS_BY" "[I" (.ref (eG E)) A U H ∧
  va_T .int (eL E) 42 (fun j => .int (tL j)) A U H ∧ va_T .int (eG E) 42 (fun j => .int (tG j)) A U H
theorem kX.go {E : gE} {A B : Nat → Prop} {s U : State} {H : Heap} {locs : List Loc} (h : kX E A s s.heap) (hS : va_S A s.heap H locs) (hAB : ∀ q, B q → A q) (hW : s.WarmedH U.vm) : kX E B U H := by
  obtain ⟨h1, h2, h3, h4, h5, h6⟩ := h
  exact ⟨va_Nw.warmF hW h1, va_Nw.warmF hW h2, ((va_Z.moved hW.alike h3).kept hS.2.1).narrow hAB, ((va_Z.moved hW.alike h4).kept hS.2.1).narrow hAB, ((va_T.moved hW.alike h5).kept hS.2.1).narrow hAB, ((va_T.moved hW.alike h6).kept hS.2.1).narrow hAB⟩
theorem kX.vm {E : gE} {A : Nat → Prop} {U V : State} {H : Heap} (hv : U.vm = V.vm) (h : kX E A U H) : kX E A V H := by
  obtain ⟨h1, h2, h3, h4, h5, h6⟩ := h
  have ha : U.vm.Alike V.vm := by rw [hv]; exact Vm.Alike.refl _
  exact ⟨va_Nw.same rfl hv h1, va_Nw.same rfl hv h2, va_Z.moved ha h3, va_Z.moved ha h4, va_T.moved ha h5, va_T.moved ha h6⟩
/-- what a method finds, and what it leaves -/
def gB (E : gE) (ks : List (Nat × Nat)) (A : Nat → Prop) (f : KS) (U : State) (H : Heap) : Prop :=
  va_P (eD E) classes (gw ks E f) H ∧ va_K (eD E) classes (eT E) U ∧ va_D A (gw ks E f) ∧ kX E A U H
def gV (E : gE) (ks : List (Nat × Nat)) (A : Nat → Prop) (f : KS) (s : State) (H : Heap) (locs : List Loc) : Prop :=
  va_P (eD E) classes (gw ks E f) H ∧ va_D A (gw ks E f) ∧ va_S A s.heap H locs
def gQi (E : gE) (ks : List (Nat × Nat)) (A : Nat → Prop) (Φ : Int32 → KS → Prop) : Array Value → State → Outcome → State → Prop := va_Qi Φ (fun u t => gB E ks A u t t.heap) A
def gQv (E : gE) (ks : List (Nat × Nat)) (A : Nat → Prop) (Φ : KS → Prop) : Array Value → State → Outcome → State → Prop := va_Qv Φ (fun u t => gB E ks A u t t.heap) A
def gQq (E : gE) (ks : List (Nat × Nat)) (A : Nat → Prop) (Φ : Option Nat → KS → Prop) : Array Value → State → Outcome → State → Prop := va_Qq (fun r u => ∃ o : Option Nat, r = o.map (ea E 1) ∧ (∀ i, o = some i → i < 16) ∧ Φ o u) (fun u t => gB E ks A u t t.heap) A
def gPc (E : gE) (ks : List (Nat × Nat)) (sz : Nat) (av : List Value) (f : KS) : Array Value → State → Prop := va_Pc av (fun U => U.heap.size = sz ∧ gB E ks (gA E ks sz) f U U.heap)
def gMi (l : Launch) (y : MethodName) (ws : List Cond) (rm : Room) (E : gE) (ks : List (Nat × Nat)) (av : List Value) (f : KS) (Φ : Int32 → KS → Prop) : Prop := ∀ sz : Nat, Met l y ws rm (gPc E ks sz av f) (gQi E ks (gA E ks sz) Φ) 0 0 (gA E ks sz)
def gMv (l : Launch) (y : MethodName) (ws : List Cond) (rm : Room) (E : gE) (ks : List (Nat × Nat)) (av : List Value) (f : KS) (Φ : KS → Prop) : Prop := ∀ sz : Nat, Met l y ws rm (gPc E ks sz av f) (gQv E ks (gA E ks sz) Φ) 0 0 (gA E ks sz)
def gMq (l : Launch) (y : MethodName) (ws : List Cond) (rm : Room) (E : gE) (ks : List (Nat × Nat)) (av : List Value) (f : KS) (Φ : Option Nat → KS → Prop) : Prop := ∀ sz : Nat, Met l y ws rm (gPc E ks sz av f) (gQq E ks (gA E ks sz) Φ) 0 0 (gA E ks sz)
theorem gPc_blind {E : gE} {ks : List (Nat × Nat)} {sz : Nat} {av : List Value} {f : KS} : FrameBlind (gPc E ks sz av f) := by
  intro a U g mk h
  obtain ⟨h1, h2, hP, hK, hD, hX⟩ := h
  exact ⟨h1, h2, hP, va_K.moved (u := U) (U := U.calling g mk a) (Vm.Alike.refl U.vm) hK, hD, hX.vm (V := U.calling g mk a) rfl⟩
theorem gA_ad {E : gE} {ks : List (Nat × Nat)} {sz : Nat} {f : KS} {k : Nat} {q : Nat × va_E} (h : (gw ks E f)[k]? = some q) : gA E ks sz q.1 := by
  unfold gw at h
  rw [List.getElem?_map] at h
  cases hk : ks[k]? with
  | none => rw [hk] at h; cases h
  | some x =>
    rw [hk] at h
    cases h
    exact Or.inl ⟨x, List.mem_of_getElem? hk, rfl⟩
theorem gA_le {E : gE} {ks : List (Nat × Nat)} {a b : Nat} (h : a ≤ b) : ∀ q, gA E ks b q → gA E ks a q := fun q hq => hq.elim Or.inl (fun z => Or.inr (Nat.le_trans h z))
theorem gV_D {E : gE} {ks : List (Nat × Nat)} {A B : Nat → Prop} {f : KS} {sz : Nat} (h : va_D A (gw ks E f)) : va_D (gA E ks sz) (gw ks E f) := ⟨h.1, fun _ _ hk => gA_ad hk⟩
section GR
variable {p : Program} {l : Launch} {e : Env} {R : Room} {s : State} {m : MethodId} {args : Array Value} {below : List Frame} {meth : Method} {c : Code} {H : Heap} {locs : List Loc} {cells slots : Nat} {Q : State → Prop}
variable {cc : ByteArray} {pc : Nat} {ls : Array Slot} {rest : List Value} {E : gE} {ks : List (Nat × Nat)} {A : Nat → Prop} {f : KS} {a b k : Nat}
theorem g_get {own C : String} {T : u_T} {N ci index : Nat} {v : Value} {fs : List Value} (hexec : p.tables.exec = Jvm.exec) (hb : c.code = cc) (hG : ∀ w ∈ gG, w.before args s = true) (hin : ∀ w ∈ u_ws C T N, w ∈ gG) (hown : s.vm.findClass own = some m.cls) (hK : va_K (eD E) classes (eT E) s) (hV : gV E ks A f s H locs)
    (hm : (a, b) ∈ ks) (hke : ke E a b (f a b) = .inr (ci, fs)) (hc : classes[ci]? = some (C, T, N)) (k : Nat) (hk : k < N) (hl : Cond.fieldLink own index C (T k).2.1 (T k).2.2.1 ∈ gG) (hd : (T k).1 = C) (hv : fs[k]? = some v) (hdg : decode cc pc = .ok (.getfield index, 3))
    (kk : W p l e R s m args below meth c H locs cells slots Q (F0 m (pc + 3) ls (v :: rest))) : W p l e R s m args below meth c H locs cells slots Q (F0 m pc ls (.ref (ea E a b) :: rest)) := by
  obtain ⟨q, hq⟩ := List.getElem?_of_mem hm
  have he : (gw ks E f)[q]? = some (ea E a b, .inr (ci, fs)) := by rw [gw_pos hq, hke]
  exact va_get hexec hb hG hin hown hK hV.1 q he hc k hk (hG _ hl) (fun x h => by rw [hd] at h; exact h) hv hdg kk
theorem g_put {own C : String} {T : u_T} {N ci index : Nat} {x : Int32} {fs : List Value} {ty : FieldType} (hnd : ks.Nodup) (hexec : p.tables.exec = Jvm.exec) (hb : c.code = cc) (hG : ∀ w ∈ gG, w.before args s = true) (hin : ∀ w ∈ u_ws C T N, w ∈ gG) (ty0 : Nat → FieldType) (hty : ∀ k, k < N → parseFieldDescriptor (T k).2.2.1 = some (ty0 k)) (hnm : ∀ a, a < N → ∀ b, b < N → a ≠ b → (T a).2.1 ≠ (T b).2.1) (hown : s.vm.findClass own = some m.cls) (hK : va_K (eD E) classes (eT E) s) (hV : gV E ks A f s H locs)
    (hm : (a, b) ∈ ks) (hke : ke E a b (f a b) = .inr (ci, fs)) (hc : classes[ci]? = some (C, T, N)) (k : Nat) (hk : k < N) (hl : Cond.fieldLink own index C (T k).2.1 (T k).2.2.1 ∈ gG) (hd : (T k).1 = C) (hfin : (T k).2.2.2 = false) (hdty : parseFieldDescriptor (T k).2.2.1 = some ty) (hn : narrow ty (.int x) = .int x) (hfit : fits ty (.int x) = true) (hlen : k < fs.length) (hnew : ke E a b (upd (f a b) k x) = .inr (ci, fs.set k (.int x))) (hdg : decode cc pc = .ok (.putfield index, 3))
    (kk : ∀ (s1 : KS) (H1 : Heap) (locs1 : List Loc), s1 = w3 f a b k x → gV E ks A s1 s H1 locs1 → W p l e R s m args below meth c H1 locs1 cells slots Q (F0 m (pc + 3) ls rest)) : W p l e R s m args below meth c H locs cells slots Q (F0 m pc ls (.int x :: .ref (ea E a b) :: rest)) := by
  obtain ⟨q, hq⟩ := List.getElem?_of_mem hm
  have he : (gw ks E f)[q]? = some (ea E a b, .inr (ci, fs)) := by rw [gw_pos hq, hke]
  refine va_put hexec hb hG hin ty0 hty hnm hown hK hV.1 hV.2.1 hV.2.2 q he hc k hk (hG _ hl) (fun x h => by rw [hd] at h; exact h) hfin hdty hn hfit hlen hdg (fun H1 locs1 h1 h2 h3 => ?_)
  rw [← hnew, gw_set hnd hq] at h1 h2
  exact kk _ H1 locs1 rfl ⟨h1, h2, h3⟩
theorem g_ald {n : Nat} (hexec : p.tables.exec = Jvm.exec) (hb : c.code = cc) (hK : va_K (eD E) classes (eT E) s) (hV : gV E ks A f s H locs) (hm : (a, b) ∈ ks) (hke : ke E a b (f a b) = .inl (eC E 0, n, .inl (f a b))) {j : Int32} (hin : vp_in j n) (hdg : decode cc pc = .ok (.iaload, 1))
    (kk : W p l e R s m args below meth c H locs cells slots Q (F0 m (pc + 1) ls (.int (f a b j.toNatClampNeg) :: rest))) : W p l e R s m args below meth c H locs cells slots Q (F0 m pc ls (.int j :: .ref (ea E a b) :: rest)) := by
  obtain ⟨q, hq⟩ := List.getElem?_of_mem hm
  have he : (gw ks E f)[q]? = some (ea E a b, .inl (eC E 0, n, .inl (f a b))) := by rw [gw_pos hq, hke]
  exact va_iald hexec hb hK hV.1 q 0 he rfl hin hdg kk
theorem g_ast {n : Nat} (hnd : ks.Nodup) (hexec : p.tables.exec = Jvm.exec) (hb : c.code = cc) (hK : va_K (eD E) classes (eT E) s) (hV : gV E ks A f s H locs) (hm : (a, b) ∈ ks) (hke : ∀ r, ke E a b r = .inl (eC E 0, n, .inl r)) {j x : Int32} (hin : vp_in j n) (hdg : decode cc pc = .ok (.iastore, 1))
    (kk : ∀ (s1 : KS) (H1 : Heap) (locs1 : List Loc), s1 = w3 f a b j.toNatClampNeg x → gV E ks A s1 s H1 locs1 → W p l e R s m args below meth c H1 locs1 cells slots Q (F0 m (pc + 1) ls rest)) : W p l e R s m args below meth c H locs cells slots Q (F0 m pc ls (.int x :: .int j :: .ref (ea E a b) :: rest)) := by
  obtain ⟨q, hq⟩ := List.getElem?_of_mem hm
  have he : (gw ks E f)[q]? = some (ea E a b, .inl (eC E 0, n, .inl (f a b))) := by rw [gw_pos hq, hke]
  refine va_iast hexec hb hK hV.1 hV.2.1 hV.2.2 q 0 he rfl hin hdg (fun H1 locs1 h1 h2 h3 => ?_)
  rw [← hke, gw_set hnd hq] at h1 h2
  exact kk _ H1 locs1 rfl ⟨h1, h2, h3⟩
theorem g_ald9 {a2 : Nat} {n : Nat} {C : String} {t0 : Nat} {cA : ClassId} (hexec : p.tables.exec = Jvm.exec) (hb : c.code = cc) (hK : va_K (eD E) classes (eT E) s) (hV : gV E ks A f s H locs) (hm : (a, b) ∈ ks) (hke : ke E a b (f a b) = .inl (cA, n, .inr (.inr (.inr (.inr (fun j => some (ea E a2 j))))))) (ht : (eT E)[t0]? = some (cA, .object C)) {j : Int32} (hin : vp_in j n) (hdg : decode cc pc = .ok (.aaload, 1))
    (kk : W p l e R s m args below meth c H locs cells slots Q (F0 m (pc + 1) ls (.ref (ea E a2 j.toNatClampNeg) :: rest))) : W p l e R s m args below meth c H locs cells slots Q (F0 m pc ls (.int j :: .ref (ea E a b) :: rest)) := by
  obtain ⟨q, hq⟩ := List.getElem?_of_mem hm
  have he : (gw ks E f)[q]? = some (ea E a b, .inl (cA, n, .inr (.inr (.inr (.inr (fun j => some (ea E a2 j))))))) := by rw [gw_pos hq, hke]
  exact va_aldq hexec hb hK hV.1 q t0 he ht hin hdg kk
theorem g_len {n : Nat} (hexec : p.tables.exec = Jvm.exec) (hb : c.code = cc) (hK : va_K (eD E) classes (eT E) s) (hV : gV E ks A f s H locs) (hm : (a, b) ∈ ks) (hke : ke E a b (f a b) = .inl (eC E 0, n, .inl (f a b))) (hdg : decode cc pc = .ok (.arraylength, 1))
    (kk : W p l e R s m args below meth c H locs cells slots Q (F0 m (pc + 1) ls (.int (nI n) :: rest))) : W p l e R s m args below meth c H locs cells slots Q (F0 m pc ls (.ref (ea E a b) :: rest)) := by
  obtain ⟨q, hq⟩ := List.getElem?_of_mem hm
  have he : (gw ks E f)[q]? = some (ea E a b, .inl (eC E 0, n, .inl (f a b))) := by rw [gw_pos hq, hke]
  exact va_alen hexec hb hK hV.1 q 0 he rfl rfl hdg kk
theorem g_recv {C : String} {T : u_T} {N ci : Nat} {fs : List Value} (hK : va_K (eD E) classes (eT E) s) (hV : gV E ks A f s H locs) (hm : (a, b) ∈ ks) (hke : ke E a b (f a b) = .inr (ci, fs)) (hc : classes[ci]? = some (C, T, N)) : ∃ cell : Cell, H[ea E a b]? = some cell ∧ cell.vm.isStatics = false ∧ s.vm.findClass C = some cell.cls := by
  obtain ⟨q, hq⟩ := List.getElem?_of_mem hm
  have he : (gw ks E f)[q]? = some (ea E a b, .inr (ci, fs)) := by rw [gw_pos hq, hke]
  exact va_recv hK hV.1 hc he
/-- what a callee is given -/
theorem g_pre {av : List Value} (hV : gV E ks A f s H locs) (hK : va_K (eD E) classes (eT E) s) (hX : kX E A s s.heap) (hAe : A = gA E ks s.heap.size) : ∀ U : State, U.heap = H → s.WarmedH U.vm → gPc E ks H.size av f av.toArray U := by
  intro U hU hW
  refine ⟨rfl, by rw [hU], by rw [hU]; exact hV.1, va_K.moved hW.alike hK, gV_D (B := A) hV.2.1, ?_⟩
  rw [hU]
  exact hX.go hV.2.2 (by rw [hAe]; exact gA_le hV.2.2.1) hW
theorem g_back {t : State} {H1 : Heap} {locs1 : List Loc} {u : KS} (hAe : A = gA E ks s.heap.size) (ht : t.heap = H1) (hB : gB E ks (gA E ks H.size) u t t.heap) (hz : s.heap.size ≤ H.size) (hS : va_S A s.heap H1 locs1) : gV E ks A u s H1 locs1 := by
  rw [ht] at hB
  exact ⟨hB.1, by rw [hAe]; exact gV_D (B := gA E ks H.size) hB.2.2.1, hS⟩
theorem g_callV {own C : String} {index : Nat} {y : MethodName} {bytes : ByteArray} {maxL nL n : Nat} {ret : Option FieldType} {ws Ts : List Cond} {rm : Room} {As st0 : List Value} {bb : Nat} {Qa : Nat → Array Value → State → Outcome → State → Prop}
    (S : CallFix p m c cc nL s args Ts own) (hM : ∀ sz : Nat, Met l y ws rm (gPc E ks sz (.ref bb :: As) f) (Qa sz) 0 0 (gA E ks sz)) (cw : CallW R s args own C index y bytes maxL ret ws rm 0 0 n) (hV : gV E ks A f s H locs) (hK : va_K (eD E) classes (eT E) s) (hX : kX E A s s.heap) (hAe : A = gA E ks s.heap.size)
    (hr : ∃ cell : Cell, H[bb]? = some cell ∧ cell.vm.isStatics = false ∧ s.vm.findClass C = some cell.cls) (hn : As.length = n) (hsz : ls.size = nL) (hst : st0 = As.reverse ++ .ref bb :: rest) (hW : (rest.map fun v => v.category).sum ≤ 8) (hdg : decode cc pc = .ok (.invokevirtual index, 3)) (h0 : cells ≤ R.cells ∧ slots ≤ R.slots) :
    va_Run p l e R s m args below meth c H locs cells slots 0 0 (F0 m pc ls st0) rest (Qa H.size (Value.ref bb :: As).toArray) (gA E ks H.size) :=
  va_runV S (hM H.size) cw ⟨gPc_blind, hr, g_pre hV hK hX hAe⟩ rfl hn hsz hst (lv_room hW) hdg h0
theorem g_callS {own : String} {index : Nat} {y : MethodName} {bytes : ByteArray} {maxL nL n : Nat} {ret : Option FieldType} {ws Ts : List Cond} {rm : Room} {As st0 : List Value} {Qa : Nat → Array Value → State → Outcome → State → Prop}
    (S : CallFix p m c cc nL s args Ts own) (hM : ∀ sz : Nat, Met l y ws rm (gPc E ks sz As f) (Qa sz) 0 0 (gA E ks sz)) (cw : CallB R s args own index y bytes maxL ret ws rm 0 0 n ∧ (Cond.static y).before args s = true) (hV : gV E ks A f s H locs) (hK : va_K (eD E) classes (eT E) s) (hX : kX E A s s.heap) (hAe : A = gA E ks s.heap.size)
    (hn : As.length = n) (hsz : ls.size = nL) (hst : st0 = As.reverse ++ rest) (hW : (rest.map fun v => v.category).sum ≤ 8) (hdg : decode cc pc = .ok (.invokestatic index, 3)) (h0 : cells ≤ R.cells ∧ slots ≤ R.slots) :
    va_Run p l e R s m args below meth c H locs cells slots 0 0 (F0 m pc ls st0) rest (Qa H.size As.toArray) (gA E ks H.size) :=
  va_runS S (hM H.size) cw ⟨gPc_blind, g_pre hV hK hX hAe⟩ rfl hn hsz hst (lv_room hW) hdg h0
theorem g_goi {st0 : List Value} {av : Array Value} {Φ : Int32 → KS → Prop} (hr : va_Run p l e R s m args below meth c H locs cells slots 0 0 (F0 m pc ls st0) rest (gQi E ks (gA E ks H.size) Φ av) (gA E ks H.size)) (hV : gV E ks A f s H locs) (hAe : A = gA E ks s.heap.size)
    (kk : ∀ (r : Int32) (u : KS) (H1 : Heap) (locs1 : List Loc), Φ r u → gV E ks A u s H1 locs1 → W p l e R s m args below meth c H1 locs1 cells slots Q (F0 m (pc + 3) ls (.int r :: rest))) : W p l e R s m args below meth c H locs cells slots Q (F0 m pc ls st0) := by
  refine va_calli hr hV.2.2 (fun q _ h => by rw [hAe]; exact gA_le hV.2.2.1 q h) (fun q h => by rw [hAe]; exact gA_le hV.2.2.1 q h) (fun r u t H1 locs1 ht hvm hp hB hz hk hS => ?_)
  exact kk r u H1 locs1 hp (g_back hAe ht hB hV.2.2.1 hS)
theorem g_gov {st0 : List Value} {av : Array Value} {Φ : KS → Prop} (hr : va_Run p l e R s m args below meth c H locs cells slots 0 0 (F0 m pc ls st0) rest (gQv E ks (gA E ks H.size) Φ av) (gA E ks H.size)) (hV : gV E ks A f s H locs) (hAe : A = gA E ks s.heap.size)
    (kk : ∀ (u : KS) (H1 : Heap) (locs1 : List Loc), Φ u → gV E ks A u s H1 locs1 → W p l e R s m args below meth c H1 locs1 cells slots Q (F0 m (pc + 3) ls rest)) : W p l e R s m args below meth c H locs cells slots Q (F0 m pc ls st0) := by
  refine va_callv hr hV.2.2 (fun q _ h => by rw [hAe]; exact gA_le hV.2.2.1 q h) (fun q h => by rw [hAe]; exact gA_le hV.2.2.1 q h) (fun u t H1 locs1 ht hvm hp hB hz hk hS => ?_)
  exact kk u H1 locs1 hp (g_back hAe ht hB hV.2.2.1 hS)
theorem g_goq {st0 : List Value} {av : Array Value} {Φ : Option Nat → KS → Prop} (hr : va_Run p l e R s m args below meth c H locs cells slots 0 0 (F0 m pc ls st0) rest (gQq E ks (gA E ks H.size) Φ av) (gA E ks H.size)) (hV : gV E ks A f s H locs) (hAe : A = gA E ks s.heap.size)
    (kk : ∀ (o : Option Nat) (u : KS) (H1 : Heap) (locs1 : List Loc), (∀ i, o = some i → i < 16) → Φ o u → gV E ks A u s H1 locs1 → W p l e R s m args below meth c H1 locs1 cells slots Q (F0 m (pc + 3) ls (va_rf (Option.map (ea E 1) o) :: rest))) : W p l e R s m args below meth c H locs cells slots Q (F0 m pc ls st0) := by
  refine va_callq hr hV.2.2 (fun q _ h => by rw [hAe]; exact gA_le hV.2.2.1 q h) (fun q h => by rw [hAe]; exact gA_le hV.2.2.1 q h) (fun r u t H1 locs1 ht hvm hp hB hz hk hS => ?_)
  obtain ⟨o, rfl, h16, hp⟩ := hp
  exact kk o u H1 locs1 h16 hp (g_back hAe ht hB hV.2.2.1 hS)
/-- a method's end -/
theorem g_post {t : State} (hV : gV E ks A f s H locs) (hK : va_K (eD E) classes (eT E) s) (hX : kX E A s s.heap) (ht : t.heap = H) (hW : s.WarmedH t.vm) : gB E ks A f t t.heap := by
  rw [ht]
  exact ⟨hV.1, va_K.moved hW.alike hK, hV.2.1, hX.go hV.2.2 (fun _ h => h) hW⟩
theorem kr_i {v : Int32} {Φ : Int32 → KS → Prop} (hexec : p.tables.exec = Jvm.exec) (hb : c.code = cc) (hr : meth.sig.returnType = some .int) (hV : gV E ks A f s H locs) (hK : va_K (eD E) classes (eT E) s) (hX : kX E A s s.heap) (hAe : A = gA E ks s.heap.size) (hΦ : Φ v f) (hdg : decode cc pc = .ok (.ireturn, 1)) (hlocks : meth.locks = false := by assumption) :
    W p l e R s m args below meth c H locs cells slots (MQ below (gQi E ks A Φ) args s cells slots A) (F0 m pc ls [.int v]) :=
  W.iret hexec hb hr (fun t ht hW => ⟨⟨v, f, rfl, hΦ, g_post hV hK hX ht hW⟩, hV.2.2.F ht⟩) hV.2.2.2.2 hdg hlocks
theorem kr_z {v : Int32} {Φ : Int32 → KS → Prop} (hexec : p.tables.exec = Jvm.exec) (hb : c.code = cc) (hr : meth.sig.returnType = some .boolean) (hV : gV E ks A f s H locs) (hK : va_K (eD E) classes (eT E) s) (hX : kX E A s s.heap) (hAe : A = gA E ks s.heap.size) (hv : v = 0 ∨ v = 1) (hΦ : Φ v f) (hdg : decode cc pc = .ok (.ireturn, 1)) (hlocks : meth.locks = false := by assumption) :
    W p l e R s m args below meth c H locs cells slots (MQ below (gQi E ks A Φ) args s cells slots A) (F0 m pc ls [.int v]) :=
  W.zret hexec hb hr (by rcases hv with rfl | rfl <;> decide) (fun t ht hW => ⟨⟨v, f, rfl, hΦ, g_post hV hK hX ht hW⟩, hV.2.2.F ht⟩) hV.2.2.2.2 hdg hlocks
theorem kr_v {Φ : KS → Prop} (hexec : p.tables.exec = Jvm.exec) (hb : c.code = cc) (hr : meth.sig.returnType = none) (hV : gV E ks A f s H locs) (hK : va_K (eD E) classes (eT E) s) (hX : kX E A s s.heap) (hAe : A = gA E ks s.heap.size) (hΦ : Φ f) (hdg : decode cc pc = .ok (.return_, 1)) (hlocks : meth.locks = false := by assumption) :
    W p l e R s m args below meth c H locs cells slots (MQ below (gQv E ks A Φ) args s cells slots A) (F0 m pc ls []) :=
  W.vret hexec hb hr (fun t ht hW => ⟨⟨f, rfl, hΦ, g_post hV hK hX ht hW⟩, hV.2.2.F ht⟩) hV.2.2.2.2 hdg hlocks
theorem kr_q {o : Option Nat} {C : String} {Φ : Option Nat → KS → Prop} (hexec : p.tables.exec = Jvm.exec) (hb : c.code = cc) (hr : meth.sig.returnType = some (.object C)) (hV : gV E ks A f s H locs) (hK : va_K (eD E) classes (eT E) s) (hX : kX E A s s.heap) (hAe : A = gA E ks s.heap.size) (ho : ∀ i, o = some i → i < 16) (hΦ : Φ o f) (hdg : decode cc pc = .ok (.areturn, 1)) (hlocks : meth.locks = false := by assumption) :
    W p l e R s m args below meth c H locs cells slots (MQ below (gQq E ks A Φ) args s cells slots A) (F0 m pc ls [va_rf (Option.map (ea E 1) o)]) :=
  W.aret hexec hb hr (Or.inl ⟨_, rfl⟩) (va_rf_or _) (fun t ht hW => ⟨⟨_, f, rfl, ⟨o, rfl, ho, hΦ⟩, g_post hV hK hX ht hW⟩, hV.2.2.F ht⟩) hV.2.2.2.2 hdg hlocks
theorem kr_dflt {g g2 : JFrame} (hd : W p l e R s m args below meth c H locs cells slots Q g2) (h : W p l e R s m args below meth c H locs cells slots Q g2 → W p l e R s m args below meth c H locs cells slots Q g) : W p l e R s m args below meth c H locs cells slots Q g := h hd
end GR

theorem gi_V {c0 cd : Cond} {own C : String} {idx : Nat} {y : MethodName} (h1 : Cond.methodLink own idx y ∈ gG) (h2 : Cond.instanceMethod y ∈ gG) (h3 : Cond.selects C y y ∈ gG) (h4 : Cond.initialized C ∈ gG) (h5 : cd ∈ gG) : GoodIn (c0 :: gG) (wsV own idx C y (cd :: gG)) := by
  intro w hw
  have h : w ∈ gG := by
    unfold wsV at hw
    simp only [List.cons_append, List.nil_append, List.mem_cons] at hw
    rcases hw with rfl | rfl | rfl | rfl | rfl | h
    · exact h1
    · exact h2
    · exact h3
    · exact h4
    · exact h5
    · exact h
  exact ⟨List.mem_cons_of_mem _ h, gG_good w h⟩
theorem gi_S {c0 cd : Cond} {own : String} {idx : Nat} {y : MethodName} (h1 : Cond.methodLink own idx y ∈ gG) (h2 : Cond.static y ∈ gG) (h3 : Cond.initialized y.cls ∈ gG) (h5 : cd ∈ gG) : GoodIn (c0 :: gG) (va_wsS own idx y (cd :: gG)) := by
  intro w hw
  have h : w ∈ gG := by
    unfold va_wsS at hw
    simp only [List.cons_append, List.nil_append, List.mem_cons] at hw
    rcases hw with rfl | rfl | rfl | rfl | h
    · exact h1
    · exact h2
    · exact h3
    · exact h5
    · exact h
  exact ⟨List.mem_cons_of_mem _ h, gG_good w h⟩
theorem in_us_P : ∀ w ∈ u_ws R_P F_P 12, w ∈ gG := by
  intro w hw
  obtain ⟨k, hk, rfl⟩ := List.mem_map.mp hw
  have hk : k < 12 := List.mem_range.mp hk
  by_cases h0 : k = 0
  · subst h0; exact tb_tables_1_1 (w := u_lay R_P F_P 0) (List.mem_of_getElem? (i := 78) rfl) rfl
  by_cases h1 : k = 1
  · subst h1; exact tb_tables_1_1 (w := u_lay R_P F_P 1) (List.mem_of_getElem? (i := 80) rfl) rfl
  by_cases h2 : k = 2
  · subst h2; exact tb_tables_1_1 (w := u_lay R_P F_P 2) (List.mem_of_getElem? (i := 82) rfl) rfl
  by_cases h3 : k = 3
  · subst h3; exact tb_tables_1_1 (w := u_lay R_P F_P 3) (List.mem_of_getElem? (i := 84) rfl) rfl
  by_cases h4 : k = 4
  · subst h4; exact tb_tables_1_1 (w := u_lay R_P F_P 4) (List.mem_of_getElem? (i := 86) rfl) rfl
  by_cases h5 : k = 5
  · subst h5; exact tb_tables_1_1 (w := u_lay R_P F_P 5) (List.mem_of_getElem? (i := 88) rfl) rfl
  by_cases h6 : k = 6
  · subst h6; exact tb_tables_1_1 (w := u_lay R_P F_P 6) (List.mem_of_getElem? (i := 90) rfl) rfl
  by_cases h7 : k = 7
  · subst h7; exact tb_tables_1_1 (w := u_lay R_P F_P 7) (List.mem_of_getElem? (i := 92) rfl) rfl
  by_cases h8 : k = 8
  · subst h8; exact tb_tables_1_1 (w := u_lay R_P F_P 8) (List.mem_of_getElem? (i := 94) rfl) rfl
  by_cases h9 : k = 9
  · subst h9; exact tb_tables_1_1 (w := u_lay R_P F_P 9) (List.mem_of_getElem? (i := 96) rfl) rfl
  by_cases h10 : k = 10
  · subst h10; exact tb_tables_1_1 (w := u_lay R_P F_P 10) (List.mem_of_getElem? (i := 98) rfl) rfl
  have h9 : k = 11 := by omega
  subst h9; exact tb_tables_1_1 (w := u_lay R_P F_P 11) (List.mem_of_getElem? (i := 100) rfl) rfl
theorem in_us_W : ∀ w ∈ u_ws R_W F_W 3, w ∈ gG := by
  intro w hw
  obtain ⟨k, hk, rfl⟩ := List.mem_map.mp hw
  have hk : k < 3 := List.mem_range.mp hk
  by_cases h0 : k = 0
  · subst h0; exact tb_tables_1_1 (w := u_lay R_W F_W 0) (List.mem_of_getElem? (i := 35) rfl) rfl
  by_cases h1 : k = 1
  · subst h1; exact tb_tables_1_1 (w := u_lay R_W F_W 1) (List.mem_of_getElem? (i := 37) rfl) rfl
  have h9 : k = 2 := by omega
  subst h9; exact tb_tables_1_1 (w := u_lay R_W F_W 2) (List.mem_of_getElem? (i := 39) rfl) rfl
theorem in_us_K : ∀ w ∈ u_ws R_K F_K 14, w ∈ gG := by
  intro w hw
  obtain ⟨k, hk, rfl⟩ := List.mem_map.mp hw
  have hk : k < 14 := List.mem_range.mp hk
  by_cases h0 : k = 0
  · subst h0; exact tb_tables_1_1 (w := u_lay R_K F_K 0) (List.mem_of_getElem? (i := 117) rfl) rfl
  by_cases h1 : k = 1
  · subst h1; exact tb_tables_1_1 (w := u_lay R_K F_K 1) (List.mem_of_getElem? (i := 119) rfl) rfl
  by_cases h2 : k = 2
  · subst h2; exact tb_tables_1_1 (w := u_lay R_K F_K 2) (List.mem_of_getElem? (i := 121) rfl) rfl
  by_cases h3 : k = 3
  · subst h3; exact tb_tables_1_1 (w := u_lay R_K F_K 3) (List.mem_of_getElem? (i := 123) rfl) rfl
  by_cases h4 : k = 4
  · subst h4; exact tb_tables_1_1 (w := u_lay R_K F_K 4) (List.mem_of_getElem? (i := 125) rfl) rfl
  by_cases h5 : k = 5
  · subst h5; exact tb_tables_1_1 (w := u_lay R_K F_K 5) (List.mem_of_getElem? (i := 127) rfl) rfl
  by_cases h6 : k = 6
  · subst h6; exact tb_tables_1_1 (w := u_lay R_K F_K 6) (List.mem_of_getElem? (i := 129) rfl) rfl
  by_cases h7 : k = 7
  · subst h7; exact tb_tables_1_1 (w := u_lay R_K F_K 7) (List.mem_of_getElem? (i := 131) rfl) rfl
  by_cases h8 : k = 8
  · subst h8; exact tb_tables_1_1 (w := u_lay R_K F_K 8) (List.mem_of_getElem? (i := 133) rfl) rfl
  by_cases h9 : k = 9
  · subst h9; exact tb_tables_1_1 (w := u_lay R_K F_K 9) (List.mem_of_getElem? (i := 135) rfl) rfl
  by_cases h10 : k = 10
  · subst h10; exact tb_tables_1_1 (w := u_lay R_K F_K 10) (List.mem_of_getElem? (i := 137) rfl) rfl
  by_cases h11 : k = 11
  · subst h11; exact tb_tables_1_1 (w := u_lay R_K F_K 11) (List.mem_of_getElem? (i := 139) rfl) rfl
  by_cases h12 : k = 12
  · subst h12; exact tb_tables_1_1 (w := u_lay R_K F_K 12) (List.mem_of_getElem? (i := 141) rfl) rfl
  have h9 : k = 13 := by omega
  subst h9; exact tb_tables_1_1 (w := u_lay R_K F_K 13) (List.mem_of_getElem? (i := 143) rfl) rfl
theorem in_us_M : ∀ w ∈ u_ws R_M F_M 28, w ∈ gG := by
  intro w hw
  obtain ⟨k, hk, rfl⟩ := List.mem_map.mp hw
  have hk : k < 28 := List.mem_range.mp hk
  by_cases h0 : k = 0
  · subst h0; exact tb_tables_1_3 (w := u_lay R_M F_M 0) (List.mem_of_getElem? (i := 193) rfl) rfl
  by_cases h1 : k = 1
  · subst h1; exact tb_tables_1_3 (w := u_lay R_M F_M 1) (List.mem_of_getElem? (i := 195) rfl) rfl
  by_cases h2 : k = 2
  · subst h2; exact tb_tables_1_3 (w := u_lay R_M F_M 2) (List.mem_of_getElem? (i := 197) rfl) rfl
  by_cases h3 : k = 3
  · subst h3; exact tb_tables_1_3 (w := u_lay R_M F_M 3) (List.mem_of_getElem? (i := 199) rfl) rfl
  by_cases h4 : k = 4
  · subst h4; exact tb_tables_1_3 (w := u_lay R_M F_M 4) (List.mem_of_getElem? (i := 201) rfl) rfl
  by_cases h5 : k = 5
  · subst h5; exact tb_tables_1_3 (w := u_lay R_M F_M 5) (List.mem_of_getElem? (i := 203) rfl) rfl
  by_cases h6 : k = 6
  · subst h6; exact tb_tables_1_3 (w := u_lay R_M F_M 6) (List.mem_of_getElem? (i := 205) rfl) rfl
  by_cases h7 : k = 7
  · subst h7; exact tb_tables_1_3 (w := u_lay R_M F_M 7) (List.mem_of_getElem? (i := 207) rfl) rfl
  by_cases h8 : k = 8
  · subst h8; exact tb_tables_1_3 (w := u_lay R_M F_M 8) (List.mem_of_getElem? (i := 209) rfl) rfl
  by_cases h9 : k = 9
  · subst h9; exact tb_tables_1_3 (w := u_lay R_M F_M 9) (List.mem_of_getElem? (i := 211) rfl) rfl
  by_cases h10 : k = 10
  · subst h10; exact tb_tables_1_3 (w := u_lay R_M F_M 10) (List.mem_of_getElem? (i := 213) rfl) rfl
  by_cases h11 : k = 11
  · subst h11; exact tb_tables_1_3 (w := u_lay R_M F_M 11) (List.mem_of_getElem? (i := 215) rfl) rfl
  by_cases h12 : k = 12
  · subst h12; exact tb_tables_1_3 (w := u_lay R_M F_M 12) (List.mem_of_getElem? (i := 217) rfl) rfl
  by_cases h13 : k = 13
  · subst h13; exact tb_tables_1_3 (w := u_lay R_M F_M 13) (List.mem_of_getElem? (i := 219) rfl) rfl
  by_cases h14 : k = 14
  · subst h14; exact tb_tables_1_3 (w := u_lay R_M F_M 14) (List.mem_of_getElem? (i := 221) rfl) rfl
  by_cases h15 : k = 15
  · subst h15; exact tb_tables_1_3 (w := u_lay R_M F_M 15) (List.mem_of_getElem? (i := 223) rfl) rfl
  by_cases h16 : k = 16
  · subst h16; exact tb_tables_1_3 (w := u_lay R_M F_M 16) (List.mem_of_getElem? (i := 225) rfl) rfl
  by_cases h17 : k = 17
  · subst h17; exact tb_tables_1_3 (w := u_lay R_M F_M 17) (List.mem_of_getElem? (i := 227) rfl) rfl
  by_cases h18 : k = 18
  · subst h18; exact tb_tables_1_3 (w := u_lay R_M F_M 18) (List.mem_of_getElem? (i := 229) rfl) rfl
  by_cases h19 : k = 19
  · subst h19; exact tb_tables_1_3 (w := u_lay R_M F_M 19) (List.mem_of_getElem? (i := 231) rfl) rfl
  by_cases h20 : k = 20
  · subst h20; exact tb_tables_1_3 (w := u_lay R_M F_M 20) (List.mem_of_getElem? (i := 233) rfl) rfl
  by_cases h21 : k = 21
  · subst h21; exact tb_tables_1_3 (w := u_lay R_M F_M 21) (List.mem_of_getElem? (i := 235) rfl) rfl
  by_cases h22 : k = 22
  · subst h22; exact tb_tables_1_3 (w := u_lay R_M F_M 22) (List.mem_of_getElem? (i := 237) rfl) rfl
  by_cases h23 : k = 23
  · subst h23; exact tb_tables_1_3 (w := u_lay R_M F_M 23) (List.mem_of_getElem? (i := 239) rfl) rfl
  by_cases h24 : k = 24
  · subst h24; exact tb_tables_1_4 (w := u_lay R_M F_M 24) (List.mem_of_getElem? (i := 1) rfl) rfl
  by_cases h25 : k = 25
  · subst h25; exact tb_tables_1_4 (w := u_lay R_M F_M 25) (List.mem_of_getElem? (i := 3) rfl) rfl
  by_cases h26 : k = 26
  · subst h26; exact tb_tables_1_4 (w := u_lay R_M F_M 26) (List.mem_of_getElem? (i := 5) rfl) rfl
  have h9 : k = 27 := by omega
  subst h9; exact tb_tables_1_4 (w := u_lay R_M F_M 27) (List.mem_of_getElem? (i := 7) rfl) rfl
theorem mm_25 : (25, 0) ∈ MM := by decide +kernel
theorem mm_26 : (26, 0) ∈ MM := by decide +kernel
theorem mm_27 : (27, 0) ∈ MM := by decide +kernel
theorem mm_28 : (28, 0) ∈ MM := by decide +kernel
theorem mm_29 : (29, 0) ∈ MM := by decide +kernel
theorem mm_30 : (30, 0) ∈ MM := by decide +kernel
theorem mm_31 : (31, 0) ∈ MM := by decide +kernel
theorem mm_32 : (32, 0) ∈ MM := by decide +kernel
theorem mm_33 : (33, 0) ∈ MM := by decide +kernel
theorem mm_34 : (34, 0) ∈ MM := by decide +kernel
theorem mm_35 : (35, 0) ∈ MM := by decide +kernel
theorem mm_39 : (39, 0) ∈ MM := by decide +kernel
theorem mm_40 : (40, 0) ∈ MM := by decide +kernel
theorem mm_41 : (41, 0) ∈ MM := by decide +kernel
theorem mm_42 : (42, 0) ∈ MM := by decide +kernel
theorem mm_43 : (43, 0) ∈ MM := by decide +kernel
theorem mm_46 : (46, 0) ∈ MM := by decide +kernel
theorem mm_20 : (20, 0) ∈ MM := by decide +kernel
end
section
section KR
variable {p : Program} {l : Launch} {e : Env} {R : Room} {s : State} {m : MethodId} {args : Array Value} {below : List Frame} {meth : Method} {c : Code} {H : Heap} {locs : List Loc} {cells slots : Nat} {Q : State → Prop}
variable {cc : ByteArray} {pc : Nat} {ls : Array Slot} {rest : List Value} {E : gE} {A : Nat → Prop} {f : KS}
theorem kg_K_K_booted (hexec : p.tables.exec = Jvm.exec) (hb : c.code = cc) (hG : ∀ w ∈ gG, w.before args s = true) (hown : s.vm.findClass R_K = some m.cls) (hK : va_K (eD E) classes (eT E) s) (hV : gV E KK A f s H locs)  (hdg : decode cc pc = .ok (.getfield 41, 3))
    (kk : W p l e R s m args below meth c H locs cells slots Q (F0 m (pc + 3) ls (.int (f 0 0 9) :: rest))) : W p l e R s m args below meth c H locs cells slots Q (F0 m pc ls (.ref (ea E 0 0) :: rest)) :=
  g_get (own := R_K) (C := R_K) (T := F_K) (N := 14) (ci := 2) hexec hb hG in_us_K hown hK hV kk_0 rfl rfl 9 (by decide) gm_183 rfl rfl hdg kk
theorem kg_K_K_doneByFirst (hexec : p.tables.exec = Jvm.exec) (hb : c.code = cc) (hG : ∀ w ∈ gG, w.before args s = true) (hown : s.vm.findClass R_K = some m.cls) (hK : va_K (eD E) classes (eT E) s) (hV : gV E KK A f s H locs)  (hdg : decode cc pc = .ok (.getfield 32, 3))
    (kk : W p l e R s m args below meth c H locs cells slots Q (F0 m (pc + 3) ls (.int (f 0 0 6) :: rest))) : W p l e R s m args below meth c H locs cells slots Q (F0 m pc ls (.ref (ea E 0 0) :: rest)) :=
  g_get (own := R_K) (C := R_K) (T := F_K) (N := 14) (ci := 2) hexec hb hG in_us_K hown hK hV kk_0 rfl rfl 6 (by decide) gm_180 rfl rfl hdg kk
theorem kg_K_K_ends (hexec : p.tables.exec = Jvm.exec) (hb : c.code = cc) (hG : ∀ w ∈ gG, w.before args s = true) (hown : s.vm.findClass R_K = some m.cls) (hK : va_K (eD E) classes (eT E) s) (hV : gV E KK A f s H locs)  (hdg : decode cc pc = .ok (.getfield 21, 3))
    (kk : W p l e R s m args below meth c H locs cells slots Q (F0 m (pc + 3) ls (.ref (ea E 7 0) :: rest))) : W p l e R s m args below meth c H locs cells slots Q (F0 m pc ls (.ref (ea E 0 0) :: rest)) :=
  g_get (own := R_K) (C := R_K) (T := F_K) (N := 14) (ci := 2) hexec hb hG in_us_K hown hK hV kk_0 rfl rfl 3 (by decide) gm_177 rfl rfl hdg kk
theorem kg_K_K_input (hexec : p.tables.exec = Jvm.exec) (hb : c.code = cc) (hG : ∀ w ∈ gG, w.before args s = true) (hown : s.vm.findClass R_K = some m.cls) (hK : va_K (eD E) classes (eT E) s) (hV : gV E KK A f s H locs)  (hdg : decode cc pc = .ok (.getfield 48, 3))
    (kk : W p l e R s m args below meth c H locs cells slots Q (F0 m (pc + 3) ls (.ref (ea E 5 8) :: rest))) : W p l e R s m args below meth c H locs cells slots Q (F0 m pc ls (.ref (ea E 0 0) :: rest)) :=
  g_get (own := R_K) (C := R_K) (T := F_K) (N := 14) (ci := 2) hexec hb hG in_us_K hown hK hV kk_0 rfl rfl 10 (by decide) gm_184 rfl rfl hdg kk
theorem kg_K_K_inputShut (hexec : p.tables.exec = Jvm.exec) (hb : c.code = cc) (hG : ∀ w ∈ gG, w.before args s = true) (hown : s.vm.findClass R_K = some m.cls) (hK : va_K (eD E) classes (eT E) s) (hV : gV E KK A f s H locs)  (hdg : decode cc pc = .ok (.getfield 52, 3))
    (kk : W p l e R s m args below meth c H locs cells slots Q (F0 m (pc + 3) ls (.int (f 0 0 11) :: rest))) : W p l e R s m args below meth c H locs cells slots Q (F0 m pc ls (.ref (ea E 0 0) :: rest)) :=
  g_get (own := R_K) (C := R_K) (T := F_K) (N := 14) (ci := 2) hexec hb hG in_us_K hown hK hV kk_0 rfl rfl 11 (by decide) gm_185 rfl rfl hdg kk
theorem kg_K_K_now (hexec : p.tables.exec = Jvm.exec) (hb : c.code = cc) (hG : ∀ w ∈ gG, w.before args s = true) (hown : s.vm.findClass R_K = some m.cls) (hK : va_K (eD E) classes (eT E) s) (hV : gV E KK A f s H locs)  (hdg : decode cc pc = .ok (.getfield 35, 3))
    (kk : W p l e R s m args below meth c H locs cells slots Q (F0 m (pc + 3) ls (.int (f 0 0 7) :: rest))) : W p l e R s m args below meth c H locs cells slots Q (F0 m pc ls (.ref (ea E 0 0) :: rest)) :=
  g_get (own := R_K) (C := R_K) (T := F_K) (N := 14) (ci := 2) hexec hb hG in_us_K hown hK hV kk_0 rfl rfl 7 (by decide) gm_181 rfl rfl hdg kk
theorem kg_K_K_output (hexec : p.tables.exec = Jvm.exec) (hb : c.code = cc) (hG : ∀ w ∈ gG, w.before args s = true) (hown : s.vm.findClass R_K = some m.cls) (hK : va_K (eD E) classes (eT E) s) (hV : gV E KK A f s H locs)  (hdg : decode cc pc = .ok (.getfield 55, 3))
    (kk : W p l e R s m args below meth c H locs cells slots Q (F0 m (pc + 3) ls (.ref (ea E 5 9) :: rest))) : W p l e R s m args below meth c H locs cells slots Q (F0 m pc ls (.ref (ea E 0 0) :: rest)) :=
  g_get (own := R_K) (C := R_K) (T := F_K) (N := 14) (ci := 2) hexec hb hG in_us_K hown hK hV kk_0 rfl rfl 12 (by decide) gm_186 rfl rfl hdg kk
theorem kg_K_K_outputCount (hexec : p.tables.exec = Jvm.exec) (hb : c.code = cc) (hG : ∀ w ∈ gG, w.before args s = true) (hown : s.vm.findClass R_K = some m.cls) (hK : va_K (eD E) classes (eT E) s) (hV : gV E KK A f s H locs)  (hdg : decode cc pc = .ok (.getfield 58, 3))
    (kk : W p l e R s m args below meth c H locs cells slots Q (F0 m (pc + 3) ls (.int (f 0 0 13) :: rest))) : W p l e R s m args below meth c H locs cells slots Q (F0 m pc ls (.ref (ea E 0 0) :: rest)) :=
  g_get (own := R_K) (C := R_K) (T := F_K) (N := 14) (ci := 2) hexec hb hG in_us_K hown hK hV kk_0 rfl rfl 13 (by decide) gm_187 rfl rfl hdg kk
theorem kg_K_K_pipes (hexec : p.tables.exec = Jvm.exec) (hb : c.code = cc) (hG : ∀ w ∈ gG, w.before args s = true) (hown : s.vm.findClass R_K = some m.cls) (hK : va_K (eD E) classes (eT E) s) (hV : gV E KK A f s H locs)  (hdg : decode cc pc = .ok (.getfield 17, 3))
    (kk : W p l e R s m args below meth c H locs cells slots Q (F0 m (pc + 3) ls (.ref (ea E 10 0) :: rest))) : W p l e R s m args below meth c H locs cells slots Q (F0 m pc ls (.ref (ea E 0 0) :: rest)) :=
  g_get (own := R_K) (C := R_K) (T := F_K) (N := 14) (ci := 2) hexec hb hG in_us_K hown hK hV kk_0 rfl rfl 2 (by decide) gm_176 rfl rfl hdg kk
theorem kg_K_K_procs (hexec : p.tables.exec = Jvm.exec) (hb : c.code = cc) (hG : ∀ w ∈ gG, w.before args s = true) (hown : s.vm.findClass R_K = some m.cls) (hK : va_K (eD E) classes (eT E) s) (hV : gV E KK A f s H locs)  (hdg : decode cc pc = .ok (.getfield 11, 3))
    (kk : W p l e R s m args below meth c H locs cells slots Q (F0 m (pc + 3) ls (.ref (ea E 9 0) :: rest))) : W p l e R s m args below meth c H locs cells slots Q (F0 m pc ls (.ref (ea E 0 0) :: rest)) :=
  g_get (own := R_K) (C := R_K) (T := F_K) (N := 14) (ci := 2) hexec hb hG in_us_K hown hK hV kk_0 rfl rfl 1 (by decide) gm_175 rfl rfl hdg kk
theorem kg_K_K_quantum (hexec : p.tables.exec = Jvm.exec) (hb : c.code = cc) (hG : ∀ w ∈ gG, w.before args s = true) (hown : s.vm.findClass R_K = some m.cls) (hK : va_K (eD E) classes (eT E) s) (hV : gV E KK A f s H locs)  (hdg : decode cc pc = .ok (.getfield 70, 3))
    (kk : W p l e R s m args below meth c H locs cells slots Q (F0 m (pc + 3) ls (.int (f 0 0 0) :: rest))) : W p l e R s m args below meth c H locs cells slots Q (F0 m pc ls (.ref (ea E 0 0) :: rest)) :=
  g_get (own := R_K) (C := R_K) (T := F_K) (N := 14) (ci := 2) hexec hb hG in_us_K hown hK hV kk_0 rfl rfl 0 (by decide) gm_174 rfl rfl hdg kk
theorem kg_K_K_ready (hexec : p.tables.exec = Jvm.exec) (hb : c.code = cc) (hG : ∀ w ∈ gG, w.before args s = true) (hown : s.vm.findClass R_K = some m.cls) (hK : va_K (eD E) classes (eT E) s) (hV : gV E KK A f s H locs)  (hdg : decode cc pc = .ok (.getfield 25, 3))
    (kk : W p l e R s m args below meth c H locs cells slots Q (F0 m (pc + 3) ls (.ref (ea E 8 0) :: rest))) : W p l e R s m args below meth c H locs cells slots Q (F0 m pc ls (.ref (ea E 0 0) :: rest)) :=
  g_get (own := R_K) (C := R_K) (T := F_K) (N := 14) (ci := 2) hexec hb hG in_us_K hown hK hV kk_0 rfl rfl 4 (by decide) gm_178 rfl rfl hdg kk
theorem kg_K_K_readyCount (hexec : p.tables.exec = Jvm.exec) (hb : c.code = cc) (hG : ∀ w ∈ gG, w.before args s = true) (hown : s.vm.findClass R_K = some m.cls) (hK : va_K (eD E) classes (eT E) s) (hV : gV E KK A f s H locs)  (hdg : decode cc pc = .ok (.getfield 28, 3))
    (kk : W p l e R s m args below meth c H locs cells slots Q (F0 m (pc + 3) ls (.int (f 0 0 5) :: rest))) : W p l e R s m args below meth c H locs cells slots Q (F0 m pc ls (.ref (ea E 0 0) :: rest)) :=
  g_get (own := R_K) (C := R_K) (T := F_K) (N := 14) (ci := 2) hexec hb hG in_us_K hown hK hV kk_0 rfl rfl 5 (by decide) gm_179 rfl rfl hdg kk
theorem kg_K_K_waitsBegun (hexec : p.tables.exec = Jvm.exec) (hb : c.code = cc) (hG : ∀ w ∈ gG, w.before args s = true) (hown : s.vm.findClass R_K = some m.cls) (hK : va_K (eD E) classes (eT E) s) (hV : gV E KK A f s H locs)  (hdg : decode cc pc = .ok (.getfield 38, 3))
    (kk : W p l e R s m args below meth c H locs cells slots Q (F0 m (pc + 3) ls (.int (f 0 0 8) :: rest))) : W p l e R s m args below meth c H locs cells slots Q (F0 m pc ls (.ref (ea E 0 0) :: rest)) :=
  g_get (own := R_K) (C := R_K) (T := F_K) (N := 14) (ci := 2) hexec hb hG in_us_K hown hK hV kk_0 rfl rfl 8 (by decide) gm_182 rfl rfl hdg kk
theorem kg_K_P_code (hexec : p.tables.exec = Jvm.exec) (hb : c.code = cc) (hG : ∀ w ∈ gG, w.before args s = true) (hown : s.vm.findClass R_K = some m.cls) (hK : va_K (eD E) classes (eT E) s) (hV : gV E KK A f s H locs) {i : Nat} (hi : i < 16) (hdg : decode cc pc = .ok (.getfield 143, 3))
    (kk : W p l e R s m args below meth c H locs cells slots Q (F0 m (pc + 3) ls (.int (f 1 i 8) :: rest))) : W p l e R s m args below meth c H locs cells slots Q (F0 m pc ls (.ref (ea E 1 i) :: rest)) :=
  g_get (own := R_K) (C := R_P) (T := F_P) (N := 12) (ci := 0) hexec hb hG in_us_P hown hK hV (kk_1 i hi) rfl rfl 8 (by decide) gm_142 rfl rfl hdg kk
theorem kg_K_P_descriptors (hexec : p.tables.exec = Jvm.exec) (hb : c.code = cc) (hG : ∀ w ∈ gG, w.before args s = true) (hown : s.vm.findClass R_K = some m.cls) (hK : va_K (eD E) classes (eT E) s) (hV : gV E KK A f s H locs) {i : Nat} (hi : i < 16) (hdg : decode cc pc = .ok (.getfield 89, 3))
    (kk : W p l e R s m args below meth c H locs cells slots Q (F0 m (pc + 3) ls (.ref (ea E 4 i) :: rest))) : W p l e R s m args below meth c H locs cells slots Q (F0 m pc ls (.ref (ea E 1 i) :: rest)) :=
  g_get (own := R_K) (C := R_P) (T := F_P) (N := 12) (ci := 0) hexec hb hG in_us_P hown hK hV (kk_1 i hi) rfl rfl 3 (by decide) gm_132 rfl rfl hdg kk
theorem kg_K_P_height (hexec : p.tables.exec = Jvm.exec) (hb : c.code = cc) (hG : ∀ w ∈ gG, w.before args s = true) (hown : s.vm.findClass R_K = some m.cls) (hK : va_K (eD E) classes (eT E) s) (hV : gV E KK A f s H locs) {i : Nat} (hi : i < 16) (hdg : decode cc pc = .ok (.getfield 137, 3))
    (kk : W p l e R s m args below meth c H locs cells slots Q (F0 m (pc + 3) ls (.int (f 1 i 4) :: rest))) : W p l e R s m args below meth c H locs cells slots Q (F0 m pc ls (.ref (ea E 1 i) :: rest)) :=
  g_get (own := R_K) (C := R_P) (T := F_P) (N := 12) (ci := 0) hexec hb hG in_us_P hown hK hV (kk_1 i hi) rfl rfl 4 (by decide) gm_134 rfl rfl hdg kk
theorem kg_K_P_memory (hexec : p.tables.exec = Jvm.exec) (hb : c.code = cc) (hG : ∀ w ∈ gG, w.before args s = true) (hown : s.vm.findClass R_K = some m.cls) (hK : va_K (eD E) classes (eT E) s) (hV : gV E KK A f s H locs) {i : Nat} (hi : i < 16) (hdg : decode cc pc = .ok (.getfield 86, 3))
    (kk : W p l e R s m args below meth c H locs cells slots Q (F0 m (pc + 3) ls (.ref (ea E 2 i) :: rest))) : W p l e R s m args below meth c H locs cells slots Q (F0 m pc ls (.ref (ea E 1 i) :: rest)) :=
  g_get (own := R_K) (C := R_P) (T := F_P) (N := 12) (ci := 0) hexec hb hG in_us_P hown hK hV (kk_1 i hi) rfl rfl 1 (by decide) gm_128 rfl rfl hdg kk
theorem kg_K_P_number (hexec : p.tables.exec = Jvm.exec) (hb : c.code = cc) (hG : ∀ w ∈ gG, w.before args s = true) (hown : s.vm.findClass R_K = some m.cls) (hK : va_K (eD E) classes (eT E) s) (hV : gV E KK A f s H locs) {i : Nat} (hi : i < 16) (hdg : decode cc pc = .ok (.getfield 256, 3))
    (kk : W p l e R s m args below meth c H locs cells slots Q (F0 m (pc + 3) ls (.int (f 1 i 0) :: rest))) : W p l e R s m args below meth c H locs cells slots Q (F0 m pc ls (.ref (ea E 1 i) :: rest)) :=
  g_get (own := R_K) (C := R_P) (T := F_P) (N := 12) (ci := 0) hexec hb hG in_us_P hown hK hV (kk_1 i hi) rfl rfl 0 (by decide) gm_126 rfl rfl hdg kk
theorem kg_K_P_parent (hexec : p.tables.exec = Jvm.exec) (hb : c.code = cc) (hG : ∀ w ∈ gG, w.before args s = true) (hown : s.vm.findClass R_K = some m.cls) (hK : va_K (eD E) classes (eT E) s) (hV : gV E KK A f s H locs) {i : Nat} (hi : i < 16) (hdg : decode cc pc = .ok (.getfield 140, 3))
    (kk : W p l e R s m args below meth c H locs cells slots Q (F0 m (pc + 3) ls (.int (f 1 i 6) :: rest))) : W p l e R s m args below meth c H locs cells slots Q (F0 m pc ls (.ref (ea E 1 i) :: rest)) :=
  g_get (own := R_K) (C := R_P) (T := F_P) (N := 12) (ci := 0) hexec hb hG in_us_P hown hK hV (kk_1 i hi) rfl rfl 6 (by decide) gm_138 rfl rfl hdg kk
theorem kg_K_P_place (hexec : p.tables.exec = Jvm.exec) (hb : c.code = cc) (hG : ∀ w ∈ gG, w.before args s = true) (hown : s.vm.findClass R_K = some m.cls) (hK : va_K (eD E) classes (eT E) s) (hV : gV E KK A f s H locs) {i : Nat} (hi : i < 16) (hdg : decode cc pc = .ok (.getfield 134, 3))
    (kk : W p l e R s m args below meth c H locs cells slots Q (F0 m (pc + 3) ls (.int (f 1 i 5) :: rest))) : W p l e R s m args below meth c H locs cells slots Q (F0 m pc ls (.ref (ea E 1 i) :: rest)) :=
  g_get (own := R_K) (C := R_P) (T := F_P) (N := 12) (ci := 0) hexec hb hG in_us_P hown hK hV (kk_1 i hi) rfl rfl 5 (by decide) gm_136 rfl rfl hdg kk
theorem kg_K_P_state (hexec : p.tables.exec = Jvm.exec) (hb : c.code = cc) (hG : ∀ w ∈ gG, w.before args s = true) (hown : s.vm.findClass R_K = some m.cls) (hK : va_K (eD E) classes (eT E) s) (hV : gV E KK A f s H locs) {i : Nat} (hi : i < 16) (hdg : decode cc pc = .ok (.getfield 127, 3))
    (kk : W p l e R s m args below meth c H locs cells slots Q (F0 m (pc + 3) ls (.int (f 1 i 7) :: rest))) : W p l e R s m args below meth c H locs cells slots Q (F0 m pc ls (.ref (ea E 1 i) :: rest)) :=
  g_get (own := R_K) (C := R_P) (T := F_P) (N := 12) (ci := 0) hexec hb hG in_us_P hown hK hV (kk_1 i hi) rfl rfl 7 (by decide) gm_140 rfl rfl hdg kk
theorem kg_K_P_waitsOn (hexec : p.tables.exec = Jvm.exec) (hb : c.code = cc) (hG : ∀ w ∈ gG, w.before args s = true) (hown : s.vm.findClass R_K = some m.cls) (hK : va_K (eD E) classes (eT E) s) (hV : gV E KK A f s H locs) {i : Nat} (hi : i < 16) (hdg : decode cc pc = .ok (.getfield 232, 3))
    (kk : W p l e R s m args below meth c H locs cells slots Q (F0 m (pc + 3) ls (.int (f 1 i 10) :: rest))) : W p l e R s m args below meth c H locs cells slots Q (F0 m pc ls (.ref (ea E 1 i) :: rest)) :=
  g_get (own := R_K) (C := R_P) (T := F_P) (N := 12) (ci := 0) hexec hb hG in_us_P hown hK hV (kk_1 i hi) rfl rfl 10 (by decide) gm_146 rfl rfl hdg kk
theorem kg_K_P_waitsSince (hexec : p.tables.exec = Jvm.exec) (hb : c.code = cc) (hG : ∀ w ∈ gG, w.before args s = true) (hown : s.vm.findClass R_K = some m.cls) (hK : va_K (eD E) classes (eT E) s) (hV : gV E KK A f s H locs) {i : Nat} (hi : i < 16) (hdg : decode cc pc = .ok (.getfield 235, 3))
    (kk : W p l e R s m args below meth c H locs cells slots Q (F0 m (pc + 3) ls (.int (f 1 i 11) :: rest))) : W p l e R s m args below meth c H locs cells slots Q (F0 m pc ls (.ref (ea E 1 i) :: rest)) :=
  g_get (own := R_K) (C := R_P) (T := F_P) (N := 12) (ci := 0) hexec hb hG in_us_P hown hK hV (kk_1 i hi) rfl rfl 11 (by decide) gm_148 rfl rfl hdg kk
theorem kg_K_P_wakeTime (hexec : p.tables.exec = Jvm.exec) (hb : c.code = cc) (hG : ∀ w ∈ gG, w.before args s = true) (hown : s.vm.findClass R_K = some m.cls) (hK : va_K (eD E) classes (eT E) s) (hV : gV E KK A f s H locs) {i : Nat} (hi : i < 16) (hdg : decode cc pc = .ok (.getfield 146, 3))
    (kk : W p l e R s m args below meth c H locs cells slots Q (F0 m (pc + 3) ls (.int (f 1 i 9) :: rest))) : W p l e R s m args below meth c H locs cells slots Q (F0 m pc ls (.ref (ea E 1 i) :: rest)) :=
  g_get (own := R_K) (C := R_P) (T := F_P) (N := 12) (ci := 0) hexec hb hG in_us_P hown hK hV (kk_1 i hi) rfl rfl 9 (by decide) gm_144 rfl rfl hdg kk
theorem kg_K_P_words (hexec : p.tables.exec = Jvm.exec) (hb : c.code = cc) (hG : ∀ w ∈ gG, w.before args s = true) (hown : s.vm.findClass R_K = some m.cls) (hK : va_K (eD E) classes (eT E) s) (hV : gV E KK A f s H locs) {i : Nat} (hi : i < 16) (hdg : decode cc pc = .ok (.getfield 159, 3))
    (kk : W p l e R s m args below meth c H locs cells slots Q (F0 m (pc + 3) ls (.ref (ea E 3 i) :: rest))) : W p l e R s m args below meth c H locs cells slots Q (F0 m pc ls (.ref (ea E 1 i) :: rest)) :=
  g_get (own := R_K) (C := R_P) (T := F_P) (N := 12) (ci := 0) hexec hb hG in_us_P hown hK hV (kk_1 i hi) rfl rfl 2 (by decide) gm_130 rfl rfl hdg kk
theorem kg_K_W_count (hexec : p.tables.exec = Jvm.exec) (hb : c.code = cc) (hG : ∀ w ∈ gG, w.before args s = true) (hown : s.vm.findClass R_K = some m.cls) (hK : va_K (eD E) classes (eT E) s) (hV : gV E KK A f s H locs) {i : Nat} (hi : i < 10) (hdg : decode cc pc = .ok (.getfield 119, 3))
    (kk : W p l e R s m args below meth c H locs cells slots Q (F0 m (pc + 3) ls (.int (f 5 i 2) :: rest))) : W p l e R s m args below meth c H locs cells slots Q (F0 m pc ls (.ref (ea E 5 i) :: rest)) :=
  g_get (own := R_K) (C := R_W) (T := F_W) (N := 3) (ci := 1) hexec hb hG in_us_W hown hK hV (kk_5 i hi) rfl rfl 2 (by decide) gm_105 rfl rfl hdg kk
theorem kg_P_P_descriptors (hexec : p.tables.exec = Jvm.exec) (hb : c.code = cc) (hG : ∀ w ∈ gG, w.before args s = true) (hown : s.vm.findClass R_P = some m.cls) (hK : va_K (eD E) classes (eT E) s) (hV : gV E KK A f s H locs) {i : Nat} (hi : i < 16) (hdg : decode cc pc = .ok (.getfield 18, 3))
    (kk : W p l e R s m args below meth c H locs cells slots Q (F0 m (pc + 3) ls (.ref (ea E 4 i) :: rest))) : W p l e R s m args below meth c H locs cells slots Q (F0 m pc ls (.ref (ea E 1 i) :: rest)) :=
  g_get (own := R_P) (C := R_P) (T := F_P) (N := 12) (ci := 0) hexec hb hG in_us_P hown hK hV (kk_1 i hi) rfl rfl 3 (by decide) gm_131 rfl rfl hdg kk
theorem kg_P_P_height (hexec : p.tables.exec = Jvm.exec) (hb : c.code = cc) (hG : ∀ w ∈ gG, w.before args s = true) (hown : s.vm.findClass R_P = some m.cls) (hK : va_K (eD E) classes (eT E) s) (hV : gV E KK A f s H locs) {i : Nat} (hi : i < 16) (hdg : decode cc pc = .ok (.getfield 21, 3))
    (kk : W p l e R s m args below meth c H locs cells slots Q (F0 m (pc + 3) ls (.int (f 1 i 4) :: rest))) : W p l e R s m args below meth c H locs cells slots Q (F0 m pc ls (.ref (ea E 1 i) :: rest)) :=
  g_get (own := R_P) (C := R_P) (T := F_P) (N := 12) (ci := 0) hexec hb hG in_us_P hown hK hV (kk_1 i hi) rfl rfl 4 (by decide) gm_133 rfl rfl hdg kk
theorem kg_P_P_memory (hexec : p.tables.exec = Jvm.exec) (hb : c.code = cc) (hG : ∀ w ∈ gG, w.before args s = true) (hown : s.vm.findClass R_P = some m.cls) (hK : va_K (eD E) classes (eT E) s) (hV : gV E KK A f s H locs) {i : Nat} (hi : i < 16) (hdg : decode cc pc = .ok (.getfield 9, 3))
    (kk : W p l e R s m args below meth c H locs cells slots Q (F0 m (pc + 3) ls (.ref (ea E 2 i) :: rest))) : W p l e R s m args below meth c H locs cells slots Q (F0 m pc ls (.ref (ea E 1 i) :: rest)) :=
  g_get (own := R_P) (C := R_P) (T := F_P) (N := 12) (ci := 0) hexec hb hG in_us_P hown hK hV (kk_1 i hi) rfl rfl 1 (by decide) gm_127 rfl rfl hdg kk
theorem kg_P_P_number (hexec : p.tables.exec = Jvm.exec) (hb : c.code = cc) (hG : ∀ w ∈ gG, w.before args s = true) (hown : s.vm.findClass R_P = some m.cls) (hK : va_K (eD E) classes (eT E) s) (hV : gV E KK A f s H locs) {i : Nat} (hi : i < 16) (hdg : decode cc pc = .ok (.getfield 46, 3))
    (kk : W p l e R s m args below meth c H locs cells slots Q (F0 m (pc + 3) ls (.int (f 1 i 0) :: rest))) : W p l e R s m args below meth c H locs cells slots Q (F0 m pc ls (.ref (ea E 1 i) :: rest)) :=
  g_get (own := R_P) (C := R_P) (T := F_P) (N := 12) (ci := 0) hexec hb hG in_us_P hown hK hV (kk_1 i hi) rfl rfl 0 (by decide) gm_125 rfl rfl hdg kk
theorem kg_P_P_parent (hexec : p.tables.exec = Jvm.exec) (hb : c.code = cc) (hG : ∀ w ∈ gG, w.before args s = true) (hown : s.vm.findClass R_P = some m.cls) (hK : va_K (eD E) classes (eT E) s) (hV : gV E KK A f s H locs) {i : Nat} (hi : i < 16) (hdg : decode cc pc = .ok (.getfield 28, 3))
    (kk : W p l e R s m args below meth c H locs cells slots Q (F0 m (pc + 3) ls (.int (f 1 i 6) :: rest))) : W p l e R s m args below meth c H locs cells slots Q (F0 m pc ls (.ref (ea E 1 i) :: rest)) :=
  g_get (own := R_P) (C := R_P) (T := F_P) (N := 12) (ci := 0) hexec hb hG in_us_P hown hK hV (kk_1 i hi) rfl rfl 6 (by decide) gm_137 rfl rfl hdg kk
theorem kg_P_P_place (hexec : p.tables.exec = Jvm.exec) (hb : c.code = cc) (hG : ∀ w ∈ gG, w.before args s = true) (hown : s.vm.findClass R_P = some m.cls) (hK : va_K (eD E) classes (eT E) s) (hV : gV E KK A f s H locs) {i : Nat} (hi : i < 16) (hdg : decode cc pc = .ok (.getfield 25, 3))
    (kk : W p l e R s m args below meth c H locs cells slots Q (F0 m (pc + 3) ls (.int (f 1 i 5) :: rest))) : W p l e R s m args below meth c H locs cells slots Q (F0 m pc ls (.ref (ea E 1 i) :: rest)) :=
  g_get (own := R_P) (C := R_P) (T := F_P) (N := 12) (ci := 0) hexec hb hG in_us_P hown hK hV (kk_1 i hi) rfl rfl 5 (by decide) gm_135 rfl rfl hdg kk
theorem kg_P_P_state (hexec : p.tables.exec = Jvm.exec) (hb : c.code = cc) (hG : ∀ w ∈ gG, w.before args s = true) (hown : s.vm.findClass R_P = some m.cls) (hK : va_K (eD E) classes (eT E) s) (hV : gV E KK A f s H locs) {i : Nat} (hi : i < 16) (hdg : decode cc pc = .ok (.getfield 31, 3))
    (kk : W p l e R s m args below meth c H locs cells slots Q (F0 m (pc + 3) ls (.int (f 1 i 7) :: rest))) : W p l e R s m args below meth c H locs cells slots Q (F0 m pc ls (.ref (ea E 1 i) :: rest)) :=
  g_get (own := R_P) (C := R_P) (T := F_P) (N := 12) (ci := 0) hexec hb hG in_us_P hown hK hV (kk_1 i hi) rfl rfl 7 (by decide) gm_139 rfl rfl hdg kk
theorem kg_P_P_words (hexec : p.tables.exec = Jvm.exec) (hb : c.code = cc) (hG : ∀ w ∈ gG, w.before args s = true) (hown : s.vm.findClass R_P = some m.cls) (hK : va_K (eD E) classes (eT E) s) (hV : gV E KK A f s H locs) {i : Nat} (hi : i < 16) (hdg : decode cc pc = .ok (.getfield 15, 3))
    (kk : W p l e R s m args below meth c H locs cells slots Q (F0 m (pc + 3) ls (.ref (ea E 3 i) :: rest))) : W p l e R s m args below meth c H locs cells slots Q (F0 m pc ls (.ref (ea E 1 i) :: rest)) :=
  g_get (own := R_P) (C := R_P) (T := F_P) (N := 12) (ci := 0) hexec hb hG in_us_P hown hK hV (kk_1 i hi) rfl rfl 2 (by decide) gm_129 rfl rfl hdg kk
theorem kg_W_W_count (hexec : p.tables.exec = Jvm.exec) (hb : c.code = cc) (hG : ∀ w ∈ gG, w.before args s = true) (hown : s.vm.findClass R_W = some m.cls) (hK : va_K (eD E) classes (eT E) s) (hV : gV E KK A f s H locs) {i : Nat} (hi : i < 10) (hdg : decode cc pc = .ok (.getfield 13, 3))
    (kk : W p l e R s m args below meth c H locs cells slots Q (F0 m (pc + 3) ls (.int (f 5 i 2) :: rest))) : W p l e R s m args below meth c H locs cells slots Q (F0 m pc ls (.ref (ea E 5 i) :: rest)) :=
  g_get (own := R_W) (C := R_W) (T := F_W) (N := 3) (ci := 1) hexec hb hG in_us_W hown hK hV (kk_5 i hi) rfl rfl 2 (by decide) gm_104 rfl rfl hdg kk
theorem kg_W_W_first (hexec : p.tables.exec = Jvm.exec) (hb : c.code = cc) (hG : ∀ w ∈ gG, w.before args s = true) (hown : s.vm.findClass R_W = some m.cls) (hK : va_K (eD E) classes (eT E) s) (hV : gV E KK A f s H locs) {i : Nat} (hi : i < 10) (hdg : decode cc pc = .ok (.getfield 7, 3))
    (kk : W p l e R s m args below meth c H locs cells slots Q (F0 m (pc + 3) ls (.int (f 5 i 1) :: rest))) : W p l e R s m args below meth c H locs cells slots Q (F0 m pc ls (.ref (ea E 5 i) :: rest)) :=
  g_get (own := R_W) (C := R_W) (T := F_W) (N := 3) (ci := 1) hexec hb hG in_us_W hown hK hV (kk_5 i hi) rfl rfl 1 (by decide) gm_103 rfl rfl hdg kk
theorem kg_W_W_words (hexec : p.tables.exec = Jvm.exec) (hb : c.code = cc) (hG : ∀ w ∈ gG, w.before args s = true) (hown : s.vm.findClass R_W = some m.cls) (hK : va_K (eD E) classes (eT E) s) (hV : gV E KK A f s H locs) {i : Nat} (hi : i < 10) (hdg : decode cc pc = .ok (.getfield 16, 3))
    (kk : W p l e R s m args below meth c H locs cells slots Q (F0 m (pc + 3) ls (.ref (ea E 6 i) :: rest))) : W p l e R s m args below meth c H locs cells slots Q (F0 m pc ls (.ref (ea E 5 i) :: rest)) :=
  g_get (own := R_W) (C := R_W) (T := F_W) (N := 3) (ci := 1) hexec hb hG in_us_W hown hK hV (kk_5 i hi) rfl rfl 0 (by decide) gm_102 rfl rfl hdg kk
theorem kg_M_M_booted (hexec : p.tables.exec = Jvm.exec) (hb : c.code = cc) (hG : ∀ w ∈ gG, w.before args s = true) (hown : s.vm.findClass R_M = some m.cls) (hK : va_K (eD E) classes (eT E) s) (hV : gV E MM A f s H locs)  (hdg : decode cc pc = .ok (.getfield 71, 3))
    (kk : W p l e R s m args below meth c H locs cells slots Q (F0 m (pc + 3) ls (.int (f 20 0 3) :: rest))) : W p l e R s m args below meth c H locs cells slots Q (F0 m pc ls (.ref (ea E 20 0) :: rest)) :=
  g_get (own := R_M) (C := R_M) (T := F_M) (N := 28) (ci := 3) hexec hb hG in_us_M hown hK hV mm_20 rfl rfl 3 (by decide) gm_719 rfl rfl hdg kk
theorem kg_M_M_capacity (hexec : p.tables.exec = Jvm.exec) (hb : c.code = cc) (hG : ∀ w ∈ gG, w.before args s = true) (hown : s.vm.findClass R_M = some m.cls) (hK : va_K (eD E) classes (eT E) s) (hV : gV E MM A f s H locs)  (hdg : decode cc pc = .ok (.getfield 65, 3))
    (kk : W p l e R s m args below meth c H locs cells slots Q (F0 m (pc + 3) ls (.int (f 20 0 2) :: rest))) : W p l e R s m args below meth c H locs cells slots Q (F0 m pc ls (.ref (ea E 20 0) :: rest)) :=
  g_get (own := R_M) (C := R_M) (T := F_M) (N := 28) (ci := 3) hexec hb hG in_us_M hown hK hV mm_20 rfl rfl 2 (by decide) gm_718 rfl rfl hdg kk
theorem kg_M_M_code (hexec : p.tables.exec = Jvm.exec) (hb : c.code = cc) (hG : ∀ w ∈ gG, w.before args s = true) (hown : s.vm.findClass R_M = some m.cls) (hK : va_K (eD E) classes (eT E) s) (hV : gV E MM A f s H locs)  (hdg : decode cc pc = .ok (.getfield 68, 3))
    (kk : W p l e R s m args below meth c H locs cells slots Q (F0 m (pc + 3) ls (.int (f 20 0 0) :: rest))) : W p l e R s m args below meth c H locs cells slots Q (F0 m pc ls (.ref (ea E 20 0) :: rest)) :=
  g_get (own := R_M) (C := R_M) (T := F_M) (N := 28) (ci := 3) hexec hb hG in_us_M hown hK hV mm_20 rfl rfl 0 (by decide) gm_716 rfl rfl hdg kk
theorem kg_M_M_codes (hexec : p.tables.exec = Jvm.exec) (hb : c.code = cc) (hG : ∀ w ∈ gG, w.before args s = true) (hown : s.vm.findClass R_M = some m.cls) (hK : va_K (eD E) classes (eT E) s) (hV : gV E MM A f s H locs)  (hdg : decode cc pc = .ok (.getfield 34, 3))
    (kk : W p l e R s m args below meth c H locs cells slots Q (F0 m (pc + 3) ls (.ref (ea E 33 0) :: rest))) : W p l e R s m args below meth c H locs cells slots Q (F0 m pc ls (.ref (ea E 20 0) :: rest)) :=
  g_get (own := R_M) (C := R_M) (T := F_M) (N := 28) (ci := 3) hexec hb hG in_us_M hown hK hV mm_20 rfl rfl 13 (by decide) gm_729 rfl rfl hdg kk
theorem kg_M_M_descriptors (hexec : p.tables.exec = Jvm.exec) (hb : c.code = cc) (hG : ∀ w ∈ gG, w.before args s = true) (hown : s.vm.findClass R_M = some m.cls) (hK : va_K (eD E) classes (eT E) s) (hV : gV E MM A f s H locs)  (hdg : decode cc pc = .ok (.getfield 28, 3))
    (kk : W p l e R s m args below meth c H locs cells slots Q (F0 m (pc + 3) ls (.ref (ea E 31 0) :: rest))) : W p l e R s m args below meth c H locs cells slots Q (F0 m pc ls (.ref (ea E 20 0) :: rest)) :=
  g_get (own := R_M) (C := R_M) (T := F_M) (N := 28) (ci := 3) hexec hb hG in_us_M hown hK hV mm_20 rfl rfl 11 (by decide) gm_727 rfl rfl hdg kk
theorem kg_M_M_done (hexec : p.tables.exec = Jvm.exec) (hb : c.code = cc) (hG : ∀ w ∈ gG, w.before args s = true) (hown : s.vm.findClass R_M = some m.cls) (hK : va_K (eD E) classes (eT E) s) (hV : gV E MM A f s H locs)  (hdg : decode cc pc = .ok (.getfield 82, 3))
    (kk : W p l e R s m args below meth c H locs cells slots Q (F0 m (pc + 3) ls (.int (f 20 0 17) :: rest))) : W p l e R s m args below meth c H locs cells slots Q (F0 m pc ls (.ref (ea E 20 0) :: rest)) :=
  g_get (own := R_M) (C := R_M) (T := F_M) (N := 28) (ci := 3) hexec hb hG in_us_M hown hK hV mm_20 rfl rfl 17 (by decide) gm_733 rfl rfl hdg kk
theorem kg_M_M_filled (hexec : p.tables.exec = Jvm.exec) (hb : c.code = cc) (hG : ∀ w ∈ gG, w.before args s = true) (hown : s.vm.findClass R_M = some m.cls) (hK : va_K (eD E) classes (eT E) s) (hV : gV E MM A f s H locs)  (hdg : decode cc pc = .ok (.getfield 52, 3))
    (kk : W p l e R s m args below meth c H locs cells slots Q (F0 m (pc + 3) ls (.ref (ea E 42 0) :: rest))) : W p l e R s m args below meth c H locs cells slots Q (F0 m pc ls (.ref (ea E 20 0) :: rest)) :=
  g_get (own := R_M) (C := R_M) (T := F_M) (N := 28) (ci := 3) hexec hb hG in_us_M hown hK hV mm_20 rfl rfl 22 (by decide) gm_738 rfl rfl hdg kk
theorem kg_M_M_image (hexec : p.tables.exec = Jvm.exec) (hb : c.code = cc) (hG : ∀ w ∈ gG, w.before args s = true) (hown : s.vm.findClass R_M = some m.cls) (hK : va_K (eD E) classes (eT E) s) (hV : gV E MM A f s H locs)  (hdg : decode cc pc = .ok (.getfield 7, 3))
    (kk : W p l e R s m args below meth c H locs cells slots Q (F0 m (pc + 3) ls (.ref (ea E 25 0) :: rest))) : W p l e R s m args below meth c H locs cells slots Q (F0 m pc ls (.ref (ea E 20 0) :: rest)) :=
  g_get (own := R_M) (C := R_M) (T := F_M) (N := 28) (ci := 3) hexec hb hG in_us_M hown hK hV mm_20 rfl rfl 5 (by decide) gm_721 rfl rfl hdg kk
theorem kg_M_M_input (hexec : p.tables.exec = Jvm.exec) (hb : c.code = cc) (hG : ∀ w ∈ gG, w.before args s = true) (hown : s.vm.findClass R_M = some m.cls) (hK : va_K (eD E) classes (eT E) s) (hV : gV E MM A f s H locs)  (hdg : decode cc pc = .ok (.getfield 55, 3))
    (kk : W p l e R s m args below meth c H locs cells slots Q (F0 m (pc + 3) ls (.ref (ea E 43 0) :: rest))) : W p l e R s m args below meth c H locs cells slots Q (F0 m pc ls (.ref (ea E 20 0) :: rest)) :=
  g_get (own := R_M) (C := R_M) (T := F_M) (N := 28) (ci := 3) hexec hb hG in_us_M hown hK hV mm_20 rfl rfl 23 (by decide) gm_739 rfl rfl hdg kk
theorem kg_M_M_inputs (hexec : p.tables.exec = Jvm.exec) (hb : c.code = cc) (hG : ∀ w ∈ gG, w.before args s = true) (hown : s.vm.findClass R_M = some m.cls) (hK : va_K (eD E) classes (eT E) s) (hV : gV E MM A f s H locs)  (hdg : decode cc pc = .ok (.getfield 119, 3))
    (kk : W p l e R s m args below meth c H locs cells slots Q (F0 m (pc + 3) ls (.int (f 20 0 24) :: rest))) : W p l e R s m args below meth c H locs cells slots Q (F0 m pc ls (.ref (ea E 20 0) :: rest)) :=
  g_get (own := R_M) (C := R_M) (T := F_M) (N := 28) (ci := 3) hexec hb hG in_us_M hown hK hV mm_20 rfl rfl 24 (by decide) gm_740 rfl rfl hdg kk
theorem kg_M_M_isShut (hexec : p.tables.exec = Jvm.exec) (hb : c.code = cc) (hG : ∀ w ∈ gG, w.before args s = true) (hown : s.vm.findClass R_M = some m.cls) (hK : va_K (eD E) classes (eT E) s) (hV : gV E MM A f s H locs)  (hdg : decode cc pc = .ok (.getfield 122, 3))
    (kk : W p l e R s m args below meth c H locs cells slots Q (F0 m (pc + 3) ls (.int (f 20 0 25) :: rest))) : W p l e R s m args below meth c H locs cells slots Q (F0 m pc ls (.ref (ea E 20 0) :: rest)) :=
  g_get (own := R_M) (C := R_M) (T := F_M) (N := 28) (ci := 3) hexec hb hG in_us_M hown hK hV mm_20 rfl rfl 25 (by decide) gm_741 rfl rfl hdg kk
theorem kg_M_M_memory (hexec : p.tables.exec = Jvm.exec) (hb : c.code = cc) (hG : ∀ w ∈ gG, w.before args s = true) (hown : s.vm.findClass R_M = some m.cls) (hK : va_K (eD E) classes (eT E) s) (hV : gV E MM A f s H locs)  (hdg : decode cc pc = .ok (.getfield 16, 3))
    (kk : W p l e R s m args below meth c H locs cells slots Q (F0 m (pc + 3) ls (.ref (ea E 27 0) :: rest))) : W p l e R s m args below meth c H locs cells slots Q (F0 m pc ls (.ref (ea E 20 0) :: rest)) :=
  g_get (own := R_M) (C := R_M) (T := F_M) (N := 28) (ci := 3) hexec hb hG in_us_M hown hK hV mm_20 rfl rfl 7 (by decide) gm_723 rfl rfl hdg kk
theorem kg_M_M_moved (hexec : p.tables.exec = Jvm.exec) (hb : c.code = cc) (hG : ∀ w ∈ gG, w.before args s = true) (hown : s.vm.findClass R_M = some m.cls) (hK : va_K (eD E) classes (eT E) s) (hV : gV E MM A f s H locs)  (hdg : decode cc pc = .ok (.getfield 88, 3))
    (kk : W p l e R s m args below meth c H locs cells slots Q (F0 m (pc + 3) ls (.int (f 20 0 18) :: rest))) : W p l e R s m args below meth c H locs cells slots Q (F0 m pc ls (.ref (ea E 20 0) :: rest)) :=
  g_get (own := R_M) (C := R_M) (T := F_M) (N := 28) (ci := 3) hexec hb hG in_us_M hown hK hV mm_20 rfl rfl 18 (by decide) gm_734 rfl rfl hdg kk
theorem kg_M_M_output (hexec : p.tables.exec = Jvm.exec) (hb : c.code = cc) (hG : ∀ w ∈ gG, w.before args s = true) (hown : s.vm.findClass R_M = some m.cls) (hK : va_K (eD E) classes (eT E) s) (hV : gV E MM A f s H locs)  (hdg : decode cc pc = .ok (.getfield 58, 3))
    (kk : W p l e R s m args below meth c H locs cells slots Q (F0 m (pc + 3) ls (.ref (ea E 46 0) :: rest))) : W p l e R s m args below meth c H locs cells slots Q (F0 m pc ls (.ref (ea E 20 0) :: rest)) :=
  g_get (own := R_M) (C := R_M) (T := F_M) (N := 28) (ci := 3) hexec hb hG in_us_M hown hK hV mm_20 rfl rfl 26 (by decide) gm_742 rfl rfl hdg kk
theorem kg_M_M_outputs (hexec : p.tables.exec = Jvm.exec) (hb : c.code = cc) (hG : ∀ w ∈ gG, w.before args s = true) (hown : s.vm.findClass R_M = some m.cls) (hK : va_K (eD E) classes (eT E) s) (hV : gV E MM A f s H locs)  (hdg : decode cc pc = .ok (.getfield 190, 3))
    (kk : W p l e R s m args below meth c H locs cells slots Q (F0 m (pc + 3) ls (.int (f 20 0 27) :: rest))) : W p l e R s m args below meth c H locs cells slots Q (F0 m pc ls (.ref (ea E 20 0) :: rest)) :=
  g_get (own := R_M) (C := R_M) (T := F_M) (N := 28) (ci := 3) hexec hb hG in_us_M hown hK hV mm_20 rfl rfl 27 (by decide) gm_743 rfl rfl hdg kk
theorem kg_M_M_parent (hexec : p.tables.exec = Jvm.exec) (hb : c.code = cc) (hG : ∀ w ∈ gG, w.before args s = true) (hown : s.vm.findClass R_M = some m.cls) (hK : va_K (eD E) classes (eT E) s) (hV : gV E MM A f s H locs)  (hdg : decode cc pc = .ok (.getfield 31, 3))
    (kk : W p l e R s m args below meth c H locs cells slots Q (F0 m (pc + 3) ls (.ref (ea E 32 0) :: rest))) : W p l e R s m args below meth c H locs cells slots Q (F0 m pc ls (.ref (ea E 20 0) :: rest)) :=
  g_get (own := R_M) (C := R_M) (T := F_M) (N := 28) (ci := 3) hexec hb hG in_us_M hown hK hV mm_20 rfl rfl 12 (by decide) gm_728 rfl rfl hdg kk
theorem kg_M_M_place (hexec : p.tables.exec = Jvm.exec) (hb : c.code = cc) (hG : ∀ w ∈ gG, w.before args s = true) (hown : s.vm.findClass R_M = some m.cls) (hK : va_K (eD E) classes (eT E) s) (hV : gV E MM A f s H locs)  (hdg : decode cc pc = .ok (.getfield 25, 3))
    (kk : W p l e R s m args below meth c H locs cells slots Q (F0 m (pc + 3) ls (.ref (ea E 30 0) :: rest))) : W p l e R s m args below meth c H locs cells slots Q (F0 m pc ls (.ref (ea E 20 0) :: rest)) :=
  g_get (own := R_M) (C := R_M) (T := F_M) (N := 28) (ci := 3) hexec hb hG in_us_M hown hK hV mm_20 rfl rfl 10 (by decide) gm_726 rfl rfl hdg kk
theorem kg_M_M_quantum (hexec : p.tables.exec = Jvm.exec) (hb : c.code = cc) (hG : ∀ w ∈ gG, w.before args s = true) (hown : s.vm.findClass R_M = some m.cls) (hK : va_K (eD E) classes (eT E) s) (hV : gV E MM A f s H locs)  (hdg : decode cc pc = .ok (.getfield 61, 3))
    (kk : W p l e R s m args below meth c H locs cells slots Q (F0 m (pc + 3) ls (.int (f 20 0 1) :: rest))) : W p l e R s m args below meth c H locs cells slots Q (F0 m pc ls (.ref (ea E 20 0) :: rest)) :=
  g_get (own := R_M) (C := R_M) (T := F_M) (N := 28) (ci := 3) hexec hb hG in_us_M hown hK hV mm_20 rfl rfl 1 (by decide) gm_717 rfl rfl hdg kk
theorem kg_M_M_queue (hexec : p.tables.exec = Jvm.exec) (hb : c.code = cc) (hG : ∀ w ∈ gG, w.before args s = true) (hown : s.vm.findClass R_M = some m.cls) (hK : va_K (eD E) classes (eT E) s) (hV : gV E MM A f s H locs)  (hdg : decode cc pc = .ok (.getfield 40, 3))
    (kk : W p l e R s m args below meth c H locs cells slots Q (F0 m (pc + 3) ls (.ref (ea E 35 0) :: rest))) : W p l e R s m args below meth c H locs cells slots Q (F0 m pc ls (.ref (ea E 20 0) :: rest)) :=
  g_get (own := R_M) (C := R_M) (T := F_M) (N := 28) (ci := 3) hexec hb hG in_us_M hown hK hV mm_20 rfl rfl 15 (by decide) gm_731 rfl rfl hdg kk
theorem kg_M_M_queued (hexec : p.tables.exec = Jvm.exec) (hb : c.code = cc) (hG : ∀ w ∈ gG, w.before args s = true) (hown : s.vm.findClass R_M = some m.cls) (hK : va_K (eD E) classes (eT E) s) (hV : gV E MM A f s H locs)  (hdg : decode cc pc = .ok (.getfield 79, 3))
    (kk : W p l e R s m args below meth c H locs cells slots Q (F0 m (pc + 3) ls (.int (f 20 0 16) :: rest))) : W p l e R s m args below meth c H locs cells slots Q (F0 m pc ls (.ref (ea E 20 0) :: rest)) :=
  g_get (own := R_M) (C := R_M) (T := F_M) (N := 28) (ci := 3) hexec hb hG in_us_M hown hK hV mm_20 rfl rfl 16 (by decide) gm_732 rfl rfl hdg kk
theorem kg_M_M_size (hexec : p.tables.exec = Jvm.exec) (hb : c.code = cc) (hG : ∀ w ∈ gG, w.before args s = true) (hown : s.vm.findClass R_M = some m.cls) (hK : va_K (eD E) classes (eT E) s) (hV : gV E MM A f s H locs)  (hdg : decode cc pc = .ok (.getfield 22, 3))
    (kk : W p l e R s m args below meth c H locs cells slots Q (F0 m (pc + 3) ls (.ref (ea E 29 0) :: rest))) : W p l e R s m args below meth c H locs cells slots Q (F0 m pc ls (.ref (ea E 20 0) :: rest)) :=
  g_get (own := R_M) (C := R_M) (T := F_M) (N := 28) (ci := 3) hexec hb hG in_us_M hown hK hV mm_20 rfl rfl 9 (by decide) gm_725 rfl rfl hdg kk
theorem kg_M_M_stack (hexec : p.tables.exec = Jvm.exec) (hb : c.code = cc) (hG : ∀ w ∈ gG, w.before args s = true) (hown : s.vm.findClass R_M = some m.cls) (hK : va_K (eD E) classes (eT E) s) (hV : gV E MM A f s H locs)  (hdg : decode cc pc = .ok (.getfield 19, 3))
    (kk : W p l e R s m args below meth c H locs cells slots Q (F0 m (pc + 3) ls (.ref (ea E 28 0) :: rest))) : W p l e R s m args below meth c H locs cells slots Q (F0 m pc ls (.ref (ea E 20 0) :: rest)) :=
  g_get (own := R_M) (C := R_M) (T := F_M) (N := 28) (ci := 3) hexec hb hG in_us_M hown hK hV mm_20 rfl rfl 8 (by decide) gm_724 rfl rfl hdg kk
theorem kg_M_M_state (hexec : p.tables.exec = Jvm.exec) (hb : c.code = cc) (hG : ∀ w ∈ gG, w.before args s = true) (hown : s.vm.findClass R_M = some m.cls) (hK : va_K (eD E) classes (eT E) s) (hV : gV E MM A f s H locs)  (hdg : decode cc pc = .ok (.getfield 13, 3))
    (kk : W p l e R s m args below meth c H locs cells slots Q (F0 m (pc + 3) ls (.ref (ea E 26 0) :: rest))) : W p l e R s m args below meth c H locs cells slots Q (F0 m pc ls (.ref (ea E 20 0) :: rest)) :=
  g_get (own := R_M) (C := R_M) (T := F_M) (N := 28) (ci := 3) hexec hb hG in_us_M hown hK hV mm_20 rfl rfl 6 (by decide) gm_722 rfl rfl hdg kk
theorem kg_M_M_time (hexec : p.tables.exec = Jvm.exec) (hb : c.code = cc) (hG : ∀ w ∈ gG, w.before args s = true) (hown : s.vm.findClass R_M = some m.cls) (hK : va_K (eD E) classes (eT E) s) (hV : gV E MM A f s H locs)  (hdg : decode cc pc = .ok (.getfield 187, 3))
    (kk : W p l e R s m args below meth c H locs cells slots Q (F0 m (pc + 3) ls (.int (f 20 0 4) :: rest))) : W p l e R s m args below meth c H locs cells slots Q (F0 m pc ls (.ref (ea E 20 0) :: rest)) :=
  g_get (own := R_M) (C := R_M) (T := F_M) (N := 28) (ci := 3) hexec hb hG in_us_M hown hK hV mm_20 rfl rfl 4 (by decide) gm_720 rfl rfl hdg kk
theorem kg_M_M_until (hexec : p.tables.exec = Jvm.exec) (hb : c.code = cc) (hG : ∀ w ∈ gG, w.before args s = true) (hown : s.vm.findClass R_M = some m.cls) (hK : va_K (eD E) classes (eT E) s) (hV : gV E MM A f s H locs)  (hdg : decode cc pc = .ok (.getfield 37, 3))
    (kk : W p l e R s m args below meth c H locs cells slots Q (F0 m (pc + 3) ls (.ref (ea E 34 0) :: rest))) : W p l e R s m args below meth c H locs cells slots Q (F0 m pc ls (.ref (ea E 20 0) :: rest)) :=
  g_get (own := R_M) (C := R_M) (T := F_M) (N := 28) (ci := 3) hexec hb hG in_us_M hown hK hV mm_20 rfl rfl 14 (by decide) gm_730 rfl rfl hdg kk
theorem kg_M_M_waiting (hexec : p.tables.exec = Jvm.exec) (hb : c.code = cc) (hG : ∀ w ∈ gG, w.before args s = true) (hown : s.vm.findClass R_M = some m.cls) (hK : va_K (eD E) classes (eT E) s) (hV : gV E MM A f s H locs)  (hdg : decode cc pc = .ok (.getfield 43, 3))
    (kk : W p l e R s m args below meth c H locs cells slots Q (F0 m (pc + 3) ls (.ref (ea E 39 0) :: rest))) : W p l e R s m args below meth c H locs cells slots Q (F0 m pc ls (.ref (ea E 20 0) :: rest)) :=
  g_get (own := R_M) (C := R_M) (T := F_M) (N := 28) (ci := 3) hexec hb hG in_us_M hown hK hV mm_20 rfl rfl 19 (by decide) gm_735 rfl rfl hdg kk
theorem kg_M_M_waits (hexec : p.tables.exec = Jvm.exec) (hb : c.code = cc) (hG : ∀ w ∈ gG, w.before args s = true) (hown : s.vm.findClass R_M = some m.cls) (hK : va_K (eD E) classes (eT E) s) (hV : gV E MM A f s H locs)  (hdg : decode cc pc = .ok (.getfield 46, 3))
    (kk : W p l e R s m args below meth c H locs cells slots Q (F0 m (pc + 3) ls (.ref (ea E 40 0) :: rest))) : W p l e R s m args below meth c H locs cells slots Q (F0 m pc ls (.ref (ea E 20 0) :: rest)) :=
  g_get (own := R_M) (C := R_M) (T := F_M) (N := 28) (ci := 3) hexec hb hG in_us_M hown hK hV mm_20 rfl rfl 20 (by decide) gm_736 rfl rfl hdg kk
theorem kg_M_M_words (hexec : p.tables.exec = Jvm.exec) (hb : c.code = cc) (hG : ∀ w ∈ gG, w.before args s = true) (hown : s.vm.findClass R_M = some m.cls) (hK : va_K (eD E) classes (eT E) s) (hV : gV E MM A f s H locs)  (hdg : decode cc pc = .ok (.getfield 49, 3))
    (kk : W p l e R s m args below meth c H locs cells slots Q (F0 m (pc + 3) ls (.ref (ea E 41 0) :: rest))) : W p l e R s m args below meth c H locs cells slots Q (F0 m pc ls (.ref (ea E 20 0) :: rest)) :=
  g_get (own := R_M) (C := R_M) (T := F_M) (N := 28) (ci := 3) hexec hb hG in_us_M hown hK hV mm_20 rfl rfl 21 (by decide) gm_737 rfl rfl hdg kk
theorem kp_K_K_booted (hexec : p.tables.exec = Jvm.exec) (hb : c.code = cc) (hG : ∀ w ∈ gG, w.before args s = true) (hown : s.vm.findClass R_K = some m.cls) (hK : va_K (eD E) classes (eT E) s) (hV : gV E KK A f s H locs)  {x : Int32} (hn : narrow .boolean (.int x) = .int x) (hf : fits .boolean (.int x) = true) (hdg : decode cc pc = .ok (.putfield 41, 3))
    (kk : ∀ (s1 : KS) (H1 : Heap) (locs1 : List Loc), s1 = w3 f 0 0 9 x → gV E KK A s1 s H1 locs1 → W p l e R s m args below meth c H1 locs1 cells slots Q (F0 m (pc + 3) ls rest)) : W p l e R s m args below meth c H locs cells slots Q (F0 m pc ls (.int x :: .ref (ea E 0 0) :: rest)) :=
  g_put (own := R_K) (C := R_K) (T := F_K) (N := 14) (ci := 2) (ty := .boolean) KK_nd hexec hb hG in_us_K t_K t_K_ok n_K hown hK hV kk_0 rfl rfl 9 (by decide) gm_183 rfl rfl (by decide +kernel) hn hf (Nat.le_of_ble_eq_true rfl) rfl hdg kk
theorem kp_K_K_doneByFirst (hexec : p.tables.exec = Jvm.exec) (hb : c.code = cc) (hG : ∀ w ∈ gG, w.before args s = true) (hown : s.vm.findClass R_K = some m.cls) (hK : va_K (eD E) classes (eT E) s) (hV : gV E KK A f s H locs)  {x : Int32} (hdg : decode cc pc = .ok (.putfield 32, 3))
    (kk : ∀ (s1 : KS) (H1 : Heap) (locs1 : List Loc), s1 = w3 f 0 0 6 x → gV E KK A s1 s H1 locs1 → W p l e R s m args below meth c H1 locs1 cells slots Q (F0 m (pc + 3) ls rest)) : W p l e R s m args below meth c H locs cells slots Q (F0 m pc ls (.int x :: .ref (ea E 0 0) :: rest)) :=
  g_put (own := R_K) (C := R_K) (T := F_K) (N := 14) (ci := 2) (ty := .int) KK_nd hexec hb hG in_us_K t_K t_K_ok n_K hown hK hV kk_0 rfl rfl 6 (by decide) gm_180 rfl rfl (by decide +kernel) rfl rfl (Nat.le_of_ble_eq_true rfl) rfl hdg kk
theorem kp_K_K_inputShut (hexec : p.tables.exec = Jvm.exec) (hb : c.code = cc) (hG : ∀ w ∈ gG, w.before args s = true) (hown : s.vm.findClass R_K = some m.cls) (hK : va_K (eD E) classes (eT E) s) (hV : gV E KK A f s H locs)  {x : Int32} (hn : narrow .boolean (.int x) = .int x) (hf : fits .boolean (.int x) = true) (hdg : decode cc pc = .ok (.putfield 52, 3))
    (kk : ∀ (s1 : KS) (H1 : Heap) (locs1 : List Loc), s1 = w3 f 0 0 11 x → gV E KK A s1 s H1 locs1 → W p l e R s m args below meth c H1 locs1 cells slots Q (F0 m (pc + 3) ls rest)) : W p l e R s m args below meth c H locs cells slots Q (F0 m pc ls (.int x :: .ref (ea E 0 0) :: rest)) :=
  g_put (own := R_K) (C := R_K) (T := F_K) (N := 14) (ci := 2) (ty := .boolean) KK_nd hexec hb hG in_us_K t_K t_K_ok n_K hown hK hV kk_0 rfl rfl 11 (by decide) gm_185 rfl rfl (by decide +kernel) hn hf (Nat.le_of_ble_eq_true rfl) rfl hdg kk
theorem kp_K_K_now (hexec : p.tables.exec = Jvm.exec) (hb : c.code = cc) (hG : ∀ w ∈ gG, w.before args s = true) (hown : s.vm.findClass R_K = some m.cls) (hK : va_K (eD E) classes (eT E) s) (hV : gV E KK A f s H locs)  {x : Int32} (hdg : decode cc pc = .ok (.putfield 35, 3))
    (kk : ∀ (s1 : KS) (H1 : Heap) (locs1 : List Loc), s1 = w3 f 0 0 7 x → gV E KK A s1 s H1 locs1 → W p l e R s m args below meth c H1 locs1 cells slots Q (F0 m (pc + 3) ls rest)) : W p l e R s m args below meth c H locs cells slots Q (F0 m pc ls (.int x :: .ref (ea E 0 0) :: rest)) :=
  g_put (own := R_K) (C := R_K) (T := F_K) (N := 14) (ci := 2) (ty := .int) KK_nd hexec hb hG in_us_K t_K t_K_ok n_K hown hK hV kk_0 rfl rfl 7 (by decide) gm_181 rfl rfl (by decide +kernel) rfl rfl (Nat.le_of_ble_eq_true rfl) rfl hdg kk
theorem kp_K_K_outputCount (hexec : p.tables.exec = Jvm.exec) (hb : c.code = cc) (hG : ∀ w ∈ gG, w.before args s = true) (hown : s.vm.findClass R_K = some m.cls) (hK : va_K (eD E) classes (eT E) s) (hV : gV E KK A f s H locs)  {x : Int32} (hdg : decode cc pc = .ok (.putfield 58, 3))
    (kk : ∀ (s1 : KS) (H1 : Heap) (locs1 : List Loc), s1 = w3 f 0 0 13 x → gV E KK A s1 s H1 locs1 → W p l e R s m args below meth c H1 locs1 cells slots Q (F0 m (pc + 3) ls rest)) : W p l e R s m args below meth c H locs cells slots Q (F0 m pc ls (.int x :: .ref (ea E 0 0) :: rest)) :=
  g_put (own := R_K) (C := R_K) (T := F_K) (N := 14) (ci := 2) (ty := .int) KK_nd hexec hb hG in_us_K t_K t_K_ok n_K hown hK hV kk_0 rfl rfl 13 (by decide) gm_187 rfl rfl (by decide +kernel) rfl rfl (Nat.le_of_ble_eq_true rfl) rfl hdg kk
theorem kp_K_K_readyCount (hexec : p.tables.exec = Jvm.exec) (hb : c.code = cc) (hG : ∀ w ∈ gG, w.before args s = true) (hown : s.vm.findClass R_K = some m.cls) (hK : va_K (eD E) classes (eT E) s) (hV : gV E KK A f s H locs)  {x : Int32} (hdg : decode cc pc = .ok (.putfield 28, 3))
    (kk : ∀ (s1 : KS) (H1 : Heap) (locs1 : List Loc), s1 = w3 f 0 0 5 x → gV E KK A s1 s H1 locs1 → W p l e R s m args below meth c H1 locs1 cells slots Q (F0 m (pc + 3) ls rest)) : W p l e R s m args below meth c H locs cells slots Q (F0 m pc ls (.int x :: .ref (ea E 0 0) :: rest)) :=
  g_put (own := R_K) (C := R_K) (T := F_K) (N := 14) (ci := 2) (ty := .int) KK_nd hexec hb hG in_us_K t_K t_K_ok n_K hown hK hV kk_0 rfl rfl 5 (by decide) gm_179 rfl rfl (by decide +kernel) rfl rfl (Nat.le_of_ble_eq_true rfl) rfl hdg kk
theorem kp_K_K_waitsBegun (hexec : p.tables.exec = Jvm.exec) (hb : c.code = cc) (hG : ∀ w ∈ gG, w.before args s = true) (hown : s.vm.findClass R_K = some m.cls) (hK : va_K (eD E) classes (eT E) s) (hV : gV E KK A f s H locs)  {x : Int32} (hdg : decode cc pc = .ok (.putfield 38, 3))
    (kk : ∀ (s1 : KS) (H1 : Heap) (locs1 : List Loc), s1 = w3 f 0 0 8 x → gV E KK A s1 s H1 locs1 → W p l e R s m args below meth c H1 locs1 cells slots Q (F0 m (pc + 3) ls rest)) : W p l e R s m args below meth c H locs cells slots Q (F0 m pc ls (.int x :: .ref (ea E 0 0) :: rest)) :=
  g_put (own := R_K) (C := R_K) (T := F_K) (N := 14) (ci := 2) (ty := .int) KK_nd hexec hb hG in_us_K t_K t_K_ok n_K hown hK hV kk_0 rfl rfl 8 (by decide) gm_182 rfl rfl (by decide +kernel) rfl rfl (Nat.le_of_ble_eq_true rfl) rfl hdg kk
theorem kp_K_P_code (hexec : p.tables.exec = Jvm.exec) (hb : c.code = cc) (hG : ∀ w ∈ gG, w.before args s = true) (hown : s.vm.findClass R_K = some m.cls) (hK : va_K (eD E) classes (eT E) s) (hV : gV E KK A f s H locs) {i : Nat} (hi : i < 16) {x : Int32} (hdg : decode cc pc = .ok (.putfield 143, 3))
    (kk : ∀ (s1 : KS) (H1 : Heap) (locs1 : List Loc), s1 = w3 f 1 i 8 x → gV E KK A s1 s H1 locs1 → W p l e R s m args below meth c H1 locs1 cells slots Q (F0 m (pc + 3) ls rest)) : W p l e R s m args below meth c H locs cells slots Q (F0 m pc ls (.int x :: .ref (ea E 1 i) :: rest)) :=
  g_put (own := R_K) (C := R_P) (T := F_P) (N := 12) (ci := 0) (ty := .int) KK_nd hexec hb hG in_us_P t_P t_P_ok n_P hown hK hV (kk_1 i hi) rfl rfl 8 (by decide) gm_142 rfl rfl (by decide +kernel) rfl rfl (Nat.le_of_ble_eq_true rfl) rfl hdg kk
theorem kp_K_P_parent (hexec : p.tables.exec = Jvm.exec) (hb : c.code = cc) (hG : ∀ w ∈ gG, w.before args s = true) (hown : s.vm.findClass R_K = some m.cls) (hK : va_K (eD E) classes (eT E) s) (hV : gV E KK A f s H locs) {i : Nat} (hi : i < 16) {x : Int32} (hdg : decode cc pc = .ok (.putfield 140, 3))
    (kk : ∀ (s1 : KS) (H1 : Heap) (locs1 : List Loc), s1 = w3 f 1 i 6 x → gV E KK A s1 s H1 locs1 → W p l e R s m args below meth c H1 locs1 cells slots Q (F0 m (pc + 3) ls rest)) : W p l e R s m args below meth c H locs cells slots Q (F0 m pc ls (.int x :: .ref (ea E 1 i) :: rest)) :=
  g_put (own := R_K) (C := R_P) (T := F_P) (N := 12) (ci := 0) (ty := .int) KK_nd hexec hb hG in_us_P t_P t_P_ok n_P hown hK hV (kk_1 i hi) rfl rfl 6 (by decide) gm_138 rfl rfl (by decide +kernel) rfl rfl (Nat.le_of_ble_eq_true rfl) rfl hdg kk
theorem kp_K_P_place (hexec : p.tables.exec = Jvm.exec) (hb : c.code = cc) (hG : ∀ w ∈ gG, w.before args s = true) (hown : s.vm.findClass R_K = some m.cls) (hK : va_K (eD E) classes (eT E) s) (hV : gV E KK A f s H locs) {i : Nat} (hi : i < 16) {x : Int32} (hdg : decode cc pc = .ok (.putfield 134, 3))
    (kk : ∀ (s1 : KS) (H1 : Heap) (locs1 : List Loc), s1 = w3 f 1 i 5 x → gV E KK A s1 s H1 locs1 → W p l e R s m args below meth c H1 locs1 cells slots Q (F0 m (pc + 3) ls rest)) : W p l e R s m args below meth c H locs cells slots Q (F0 m pc ls (.int x :: .ref (ea E 1 i) :: rest)) :=
  g_put (own := R_K) (C := R_P) (T := F_P) (N := 12) (ci := 0) (ty := .int) KK_nd hexec hb hG in_us_P t_P t_P_ok n_P hown hK hV (kk_1 i hi) rfl rfl 5 (by decide) gm_136 rfl rfl (by decide +kernel) rfl rfl (Nat.le_of_ble_eq_true rfl) rfl hdg kk
theorem kp_K_P_state (hexec : p.tables.exec = Jvm.exec) (hb : c.code = cc) (hG : ∀ w ∈ gG, w.before args s = true) (hown : s.vm.findClass R_K = some m.cls) (hK : va_K (eD E) classes (eT E) s) (hV : gV E KK A f s H locs) {i : Nat} (hi : i < 16) {x : Int32} (hdg : decode cc pc = .ok (.putfield 127, 3))
    (kk : ∀ (s1 : KS) (H1 : Heap) (locs1 : List Loc), s1 = w3 f 1 i 7 x → gV E KK A s1 s H1 locs1 → W p l e R s m args below meth c H1 locs1 cells slots Q (F0 m (pc + 3) ls rest)) : W p l e R s m args below meth c H locs cells slots Q (F0 m pc ls (.int x :: .ref (ea E 1 i) :: rest)) :=
  g_put (own := R_K) (C := R_P) (T := F_P) (N := 12) (ci := 0) (ty := .int) KK_nd hexec hb hG in_us_P t_P t_P_ok n_P hown hK hV (kk_1 i hi) rfl rfl 7 (by decide) gm_140 rfl rfl (by decide +kernel) rfl rfl (Nat.le_of_ble_eq_true rfl) rfl hdg kk
theorem kp_K_P_waitsOn (hexec : p.tables.exec = Jvm.exec) (hb : c.code = cc) (hG : ∀ w ∈ gG, w.before args s = true) (hown : s.vm.findClass R_K = some m.cls) (hK : va_K (eD E) classes (eT E) s) (hV : gV E KK A f s H locs) {i : Nat} (hi : i < 16) {x : Int32} (hdg : decode cc pc = .ok (.putfield 232, 3))
    (kk : ∀ (s1 : KS) (H1 : Heap) (locs1 : List Loc), s1 = w3 f 1 i 10 x → gV E KK A s1 s H1 locs1 → W p l e R s m args below meth c H1 locs1 cells slots Q (F0 m (pc + 3) ls rest)) : W p l e R s m args below meth c H locs cells slots Q (F0 m pc ls (.int x :: .ref (ea E 1 i) :: rest)) :=
  g_put (own := R_K) (C := R_P) (T := F_P) (N := 12) (ci := 0) (ty := .int) KK_nd hexec hb hG in_us_P t_P t_P_ok n_P hown hK hV (kk_1 i hi) rfl rfl 10 (by decide) gm_146 rfl rfl (by decide +kernel) rfl rfl (Nat.le_of_ble_eq_true rfl) rfl hdg kk
theorem kp_K_P_waitsSince (hexec : p.tables.exec = Jvm.exec) (hb : c.code = cc) (hG : ∀ w ∈ gG, w.before args s = true) (hown : s.vm.findClass R_K = some m.cls) (hK : va_K (eD E) classes (eT E) s) (hV : gV E KK A f s H locs) {i : Nat} (hi : i < 16) {x : Int32} (hdg : decode cc pc = .ok (.putfield 235, 3))
    (kk : ∀ (s1 : KS) (H1 : Heap) (locs1 : List Loc), s1 = w3 f 1 i 11 x → gV E KK A s1 s H1 locs1 → W p l e R s m args below meth c H1 locs1 cells slots Q (F0 m (pc + 3) ls rest)) : W p l e R s m args below meth c H locs cells slots Q (F0 m pc ls (.int x :: .ref (ea E 1 i) :: rest)) :=
  g_put (own := R_K) (C := R_P) (T := F_P) (N := 12) (ci := 0) (ty := .int) KK_nd hexec hb hG in_us_P t_P t_P_ok n_P hown hK hV (kk_1 i hi) rfl rfl 11 (by decide) gm_148 rfl rfl (by decide +kernel) rfl rfl (Nat.le_of_ble_eq_true rfl) rfl hdg kk
theorem kp_K_P_wakeTime (hexec : p.tables.exec = Jvm.exec) (hb : c.code = cc) (hG : ∀ w ∈ gG, w.before args s = true) (hown : s.vm.findClass R_K = some m.cls) (hK : va_K (eD E) classes (eT E) s) (hV : gV E KK A f s H locs) {i : Nat} (hi : i < 16) {x : Int32} (hdg : decode cc pc = .ok (.putfield 146, 3))
    (kk : ∀ (s1 : KS) (H1 : Heap) (locs1 : List Loc), s1 = w3 f 1 i 9 x → gV E KK A s1 s H1 locs1 → W p l e R s m args below meth c H1 locs1 cells slots Q (F0 m (pc + 3) ls rest)) : W p l e R s m args below meth c H locs cells slots Q (F0 m pc ls (.int x :: .ref (ea E 1 i) :: rest)) :=
  g_put (own := R_K) (C := R_P) (T := F_P) (N := 12) (ci := 0) (ty := .int) KK_nd hexec hb hG in_us_P t_P t_P_ok n_P hown hK hV (kk_1 i hi) rfl rfl 9 (by decide) gm_144 rfl rfl (by decide +kernel) rfl rfl (Nat.le_of_ble_eq_true rfl) rfl hdg kk
theorem kp_P_P_height (hexec : p.tables.exec = Jvm.exec) (hb : c.code = cc) (hG : ∀ w ∈ gG, w.before args s = true) (hown : s.vm.findClass R_P = some m.cls) (hK : va_K (eD E) classes (eT E) s) (hV : gV E KK A f s H locs) {i : Nat} (hi : i < 16) {x : Int32} (hdg : decode cc pc = .ok (.putfield 21, 3))
    (kk : ∀ (s1 : KS) (H1 : Heap) (locs1 : List Loc), s1 = w3 f 1 i 4 x → gV E KK A s1 s H1 locs1 → W p l e R s m args below meth c H1 locs1 cells slots Q (F0 m (pc + 3) ls rest)) : W p l e R s m args below meth c H locs cells slots Q (F0 m pc ls (.int x :: .ref (ea E 1 i) :: rest)) :=
  g_put (own := R_P) (C := R_P) (T := F_P) (N := 12) (ci := 0) (ty := .int) KK_nd hexec hb hG in_us_P t_P t_P_ok n_P hown hK hV (kk_1 i hi) rfl rfl 4 (by decide) gm_133 rfl rfl (by decide +kernel) rfl rfl (Nat.le_of_ble_eq_true rfl) rfl hdg kk
theorem kp_P_P_parent (hexec : p.tables.exec = Jvm.exec) (hb : c.code = cc) (hG : ∀ w ∈ gG, w.before args s = true) (hown : s.vm.findClass R_P = some m.cls) (hK : va_K (eD E) classes (eT E) s) (hV : gV E KK A f s H locs) {i : Nat} (hi : i < 16) {x : Int32} (hdg : decode cc pc = .ok (.putfield 28, 3))
    (kk : ∀ (s1 : KS) (H1 : Heap) (locs1 : List Loc), s1 = w3 f 1 i 6 x → gV E KK A s1 s H1 locs1 → W p l e R s m args below meth c H1 locs1 cells slots Q (F0 m (pc + 3) ls rest)) : W p l e R s m args below meth c H locs cells slots Q (F0 m pc ls (.int x :: .ref (ea E 1 i) :: rest)) :=
  g_put (own := R_P) (C := R_P) (T := F_P) (N := 12) (ci := 0) (ty := .int) KK_nd hexec hb hG in_us_P t_P t_P_ok n_P hown hK hV (kk_1 i hi) rfl rfl 6 (by decide) gm_137 rfl rfl (by decide +kernel) rfl rfl (Nat.le_of_ble_eq_true rfl) rfl hdg kk
theorem kp_P_P_place (hexec : p.tables.exec = Jvm.exec) (hb : c.code = cc) (hG : ∀ w ∈ gG, w.before args s = true) (hown : s.vm.findClass R_P = some m.cls) (hK : va_K (eD E) classes (eT E) s) (hV : gV E KK A f s H locs) {i : Nat} (hi : i < 16) {x : Int32} (hdg : decode cc pc = .ok (.putfield 25, 3))
    (kk : ∀ (s1 : KS) (H1 : Heap) (locs1 : List Loc), s1 = w3 f 1 i 5 x → gV E KK A s1 s H1 locs1 → W p l e R s m args below meth c H1 locs1 cells slots Q (F0 m (pc + 3) ls rest)) : W p l e R s m args below meth c H locs cells slots Q (F0 m pc ls (.int x :: .ref (ea E 1 i) :: rest)) :=
  g_put (own := R_P) (C := R_P) (T := F_P) (N := 12) (ci := 0) (ty := .int) KK_nd hexec hb hG in_us_P t_P t_P_ok n_P hown hK hV (kk_1 i hi) rfl rfl 5 (by decide) gm_135 rfl rfl (by decide +kernel) rfl rfl (Nat.le_of_ble_eq_true rfl) rfl hdg kk
theorem kp_W_W_count (hexec : p.tables.exec = Jvm.exec) (hb : c.code = cc) (hG : ∀ w ∈ gG, w.before args s = true) (hown : s.vm.findClass R_W = some m.cls) (hK : va_K (eD E) classes (eT E) s) (hV : gV E KK A f s H locs) {i : Nat} (hi : i < 10) {x : Int32} (hdg : decode cc pc = .ok (.putfield 13, 3))
    (kk : ∀ (s1 : KS) (H1 : Heap) (locs1 : List Loc), s1 = w3 f 5 i 2 x → gV E KK A s1 s H1 locs1 → W p l e R s m args below meth c H1 locs1 cells slots Q (F0 m (pc + 3) ls rest)) : W p l e R s m args below meth c H locs cells slots Q (F0 m pc ls (.int x :: .ref (ea E 5 i) :: rest)) :=
  g_put (own := R_W) (C := R_W) (T := F_W) (N := 3) (ci := 1) (ty := .int) KK_nd hexec hb hG in_us_W t_W t_W_ok n_W hown hK hV (kk_5 i hi) rfl rfl 2 (by decide) gm_104 rfl rfl (by decide +kernel) rfl rfl (Nat.le_of_ble_eq_true rfl) rfl hdg kk
theorem kp_W_W_first (hexec : p.tables.exec = Jvm.exec) (hb : c.code = cc) (hG : ∀ w ∈ gG, w.before args s = true) (hown : s.vm.findClass R_W = some m.cls) (hK : va_K (eD E) classes (eT E) s) (hV : gV E KK A f s H locs) {i : Nat} (hi : i < 10) {x : Int32} (hdg : decode cc pc = .ok (.putfield 7, 3))
    (kk : ∀ (s1 : KS) (H1 : Heap) (locs1 : List Loc), s1 = w3 f 5 i 1 x → gV E KK A s1 s H1 locs1 → W p l e R s m args below meth c H1 locs1 cells slots Q (F0 m (pc + 3) ls rest)) : W p l e R s m args below meth c H locs cells slots Q (F0 m pc ls (.int x :: .ref (ea E 5 i) :: rest)) :=
  g_put (own := R_W) (C := R_W) (T := F_W) (N := 3) (ci := 1) (ty := .int) KK_nd hexec hb hG in_us_W t_W t_W_ok n_W hown hK hV (kk_5 i hi) rfl rfl 1 (by decide) gm_103 rfl rfl (by decide +kernel) rfl rfl (Nat.le_of_ble_eq_true rfl) rfl hdg kk
theorem kp_M_M_booted (hexec : p.tables.exec = Jvm.exec) (hb : c.code = cc) (hG : ∀ w ∈ gG, w.before args s = true) (hown : s.vm.findClass R_M = some m.cls) (hK : va_K (eD E) classes (eT E) s) (hV : gV E MM A f s H locs)  {x : Int32} (hn : narrow .boolean (.int x) = .int x) (hf : fits .boolean (.int x) = true) (hdg : decode cc pc = .ok (.putfield 71, 3))
    (kk : ∀ (s1 : KS) (H1 : Heap) (locs1 : List Loc), s1 = w3 f 20 0 3 x → gV E MM A s1 s H1 locs1 → W p l e R s m args below meth c H1 locs1 cells slots Q (F0 m (pc + 3) ls rest)) : W p l e R s m args below meth c H locs cells slots Q (F0 m pc ls (.int x :: .ref (ea E 20 0) :: rest)) :=
  g_put (own := R_M) (C := R_M) (T := F_M) (N := 28) (ci := 3) (ty := .boolean) MM_nd hexec hb hG in_us_M t_M t_M_ok n_M hown hK hV mm_20 rfl rfl 3 (by decide) gm_719 rfl rfl (by decide +kernel) hn hf (Nat.le_of_ble_eq_true rfl) rfl hdg kk
theorem kp_M_M_code (hexec : p.tables.exec = Jvm.exec) (hb : c.code = cc) (hG : ∀ w ∈ gG, w.before args s = true) (hown : s.vm.findClass R_M = some m.cls) (hK : va_K (eD E) classes (eT E) s) (hV : gV E MM A f s H locs)  {x : Int32} (hdg : decode cc pc = .ok (.putfield 68, 3))
    (kk : ∀ (s1 : KS) (H1 : Heap) (locs1 : List Loc), s1 = w3 f 20 0 0 x → gV E MM A s1 s H1 locs1 → W p l e R s m args below meth c H1 locs1 cells slots Q (F0 m (pc + 3) ls rest)) : W p l e R s m args below meth c H locs cells slots Q (F0 m pc ls (.int x :: .ref (ea E 20 0) :: rest)) :=
  g_put (own := R_M) (C := R_M) (T := F_M) (N := 28) (ci := 3) (ty := .int) MM_nd hexec hb hG in_us_M t_M t_M_ok n_M hown hK hV mm_20 rfl rfl 0 (by decide) gm_716 rfl rfl (by decide +kernel) rfl rfl (Nat.le_of_ble_eq_true rfl) rfl hdg kk
theorem kp_M_M_done (hexec : p.tables.exec = Jvm.exec) (hb : c.code = cc) (hG : ∀ w ∈ gG, w.before args s = true) (hown : s.vm.findClass R_M = some m.cls) (hK : va_K (eD E) classes (eT E) s) (hV : gV E MM A f s H locs)  {x : Int32} (hdg : decode cc pc = .ok (.putfield 82, 3))
    (kk : ∀ (s1 : KS) (H1 : Heap) (locs1 : List Loc), s1 = w3 f 20 0 17 x → gV E MM A s1 s H1 locs1 → W p l e R s m args below meth c H1 locs1 cells slots Q (F0 m (pc + 3) ls rest)) : W p l e R s m args below meth c H locs cells slots Q (F0 m pc ls (.int x :: .ref (ea E 20 0) :: rest)) :=
  g_put (own := R_M) (C := R_M) (T := F_M) (N := 28) (ci := 3) (ty := .int) MM_nd hexec hb hG in_us_M t_M t_M_ok n_M hown hK hV mm_20 rfl rfl 17 (by decide) gm_733 rfl rfl (by decide +kernel) rfl rfl (Nat.le_of_ble_eq_true rfl) rfl hdg kk
theorem kp_M_M_inputs (hexec : p.tables.exec = Jvm.exec) (hb : c.code = cc) (hG : ∀ w ∈ gG, w.before args s = true) (hown : s.vm.findClass R_M = some m.cls) (hK : va_K (eD E) classes (eT E) s) (hV : gV E MM A f s H locs)  {x : Int32} (hdg : decode cc pc = .ok (.putfield 119, 3))
    (kk : ∀ (s1 : KS) (H1 : Heap) (locs1 : List Loc), s1 = w3 f 20 0 24 x → gV E MM A s1 s H1 locs1 → W p l e R s m args below meth c H1 locs1 cells slots Q (F0 m (pc + 3) ls rest)) : W p l e R s m args below meth c H locs cells slots Q (F0 m pc ls (.int x :: .ref (ea E 20 0) :: rest)) :=
  g_put (own := R_M) (C := R_M) (T := F_M) (N := 28) (ci := 3) (ty := .int) MM_nd hexec hb hG in_us_M t_M t_M_ok n_M hown hK hV mm_20 rfl rfl 24 (by decide) gm_740 rfl rfl (by decide +kernel) rfl rfl (Nat.le_of_ble_eq_true rfl) rfl hdg kk
theorem kp_M_M_isShut (hexec : p.tables.exec = Jvm.exec) (hb : c.code = cc) (hG : ∀ w ∈ gG, w.before args s = true) (hown : s.vm.findClass R_M = some m.cls) (hK : va_K (eD E) classes (eT E) s) (hV : gV E MM A f s H locs)  {x : Int32} (hn : narrow .boolean (.int x) = .int x) (hf : fits .boolean (.int x) = true) (hdg : decode cc pc = .ok (.putfield 122, 3))
    (kk : ∀ (s1 : KS) (H1 : Heap) (locs1 : List Loc), s1 = w3 f 20 0 25 x → gV E MM A s1 s H1 locs1 → W p l e R s m args below meth c H1 locs1 cells slots Q (F0 m (pc + 3) ls rest)) : W p l e R s m args below meth c H locs cells slots Q (F0 m pc ls (.int x :: .ref (ea E 20 0) :: rest)) :=
  g_put (own := R_M) (C := R_M) (T := F_M) (N := 28) (ci := 3) (ty := .boolean) MM_nd hexec hb hG in_us_M t_M t_M_ok n_M hown hK hV mm_20 rfl rfl 25 (by decide) gm_741 rfl rfl (by decide +kernel) hn hf (Nat.le_of_ble_eq_true rfl) rfl hdg kk
theorem kp_M_M_moved (hexec : p.tables.exec = Jvm.exec) (hb : c.code = cc) (hG : ∀ w ∈ gG, w.before args s = true) (hown : s.vm.findClass R_M = some m.cls) (hK : va_K (eD E) classes (eT E) s) (hV : gV E MM A f s H locs)  {x : Int32} (hn : narrow .boolean (.int x) = .int x) (hf : fits .boolean (.int x) = true) (hdg : decode cc pc = .ok (.putfield 88, 3))
    (kk : ∀ (s1 : KS) (H1 : Heap) (locs1 : List Loc), s1 = w3 f 20 0 18 x → gV E MM A s1 s H1 locs1 → W p l e R s m args below meth c H1 locs1 cells slots Q (F0 m (pc + 3) ls rest)) : W p l e R s m args below meth c H locs cells slots Q (F0 m pc ls (.int x :: .ref (ea E 20 0) :: rest)) :=
  g_put (own := R_M) (C := R_M) (T := F_M) (N := 28) (ci := 3) (ty := .boolean) MM_nd hexec hb hG in_us_M t_M t_M_ok n_M hown hK hV mm_20 rfl rfl 18 (by decide) gm_734 rfl rfl (by decide +kernel) hn hf (Nat.le_of_ble_eq_true rfl) rfl hdg kk
theorem kp_M_M_outputs (hexec : p.tables.exec = Jvm.exec) (hb : c.code = cc) (hG : ∀ w ∈ gG, w.before args s = true) (hown : s.vm.findClass R_M = some m.cls) (hK : va_K (eD E) classes (eT E) s) (hV : gV E MM A f s H locs)  {x : Int32} (hdg : decode cc pc = .ok (.putfield 190, 3))
    (kk : ∀ (s1 : KS) (H1 : Heap) (locs1 : List Loc), s1 = w3 f 20 0 27 x → gV E MM A s1 s H1 locs1 → W p l e R s m args below meth c H1 locs1 cells slots Q (F0 m (pc + 3) ls rest)) : W p l e R s m args below meth c H locs cells slots Q (F0 m pc ls (.int x :: .ref (ea E 20 0) :: rest)) :=
  g_put (own := R_M) (C := R_M) (T := F_M) (N := 28) (ci := 3) (ty := .int) MM_nd hexec hb hG in_us_M t_M t_M_ok n_M hown hK hV mm_20 rfl rfl 27 (by decide) gm_743 rfl rfl (by decide +kernel) rfl rfl (Nat.le_of_ble_eq_true rfl) rfl hdg kk
theorem kp_M_M_queued (hexec : p.tables.exec = Jvm.exec) (hb : c.code = cc) (hG : ∀ w ∈ gG, w.before args s = true) (hown : s.vm.findClass R_M = some m.cls) (hK : va_K (eD E) classes (eT E) s) (hV : gV E MM A f s H locs)  {x : Int32} (hdg : decode cc pc = .ok (.putfield 79, 3))
    (kk : ∀ (s1 : KS) (H1 : Heap) (locs1 : List Loc), s1 = w3 f 20 0 16 x → gV E MM A s1 s H1 locs1 → W p l e R s m args below meth c H1 locs1 cells slots Q (F0 m (pc + 3) ls rest)) : W p l e R s m args below meth c H locs cells slots Q (F0 m pc ls (.int x :: .ref (ea E 20 0) :: rest)) :=
  g_put (own := R_M) (C := R_M) (T := F_M) (N := 28) (ci := 3) (ty := .int) MM_nd hexec hb hG in_us_M t_M t_M_ok n_M hown hK hV mm_20 rfl rfl 16 (by decide) gm_732 rfl rfl (by decide +kernel) rfl rfl (Nat.le_of_ble_eq_true rfl) rfl hdg kk
theorem kp_M_M_time (hexec : p.tables.exec = Jvm.exec) (hb : c.code = cc) (hG : ∀ w ∈ gG, w.before args s = true) (hown : s.vm.findClass R_M = some m.cls) (hK : va_K (eD E) classes (eT E) s) (hV : gV E MM A f s H locs)  {x : Int32} (hdg : decode cc pc = .ok (.putfield 187, 3))
    (kk : ∀ (s1 : KS) (H1 : Heap) (locs1 : List Loc), s1 = w3 f 20 0 4 x → gV E MM A s1 s H1 locs1 → W p l e R s m args below meth c H1 locs1 cells slots Q (F0 m (pc + 3) ls rest)) : W p l e R s m args below meth c H locs cells slots Q (F0 m pc ls (.int x :: .ref (ea E 20 0) :: rest)) :=
  g_put (own := R_M) (C := R_M) (T := F_M) (N := 28) (ci := 3) (ty := .int) MM_nd hexec hb hG in_us_M t_M t_M_ok n_M hown hK hV mm_20 rfl rfl 4 (by decide) gm_720 rfl rfl (by decide +kernel) rfl rfl (Nat.le_of_ble_eq_true rfl) rfl hdg kk
end KR
section KA
variable {p : Program} {l : Launch} {e : Env} {R : Room} {s : State} {m : MethodId} {args : Array Value} {below : List Frame} {meth : Method} {c : Code} {H : Heap} {locs : List Loc} {cells slots : Nat} {Q : State → Prop}
variable {cc : ByteArray} {pc : Nat} {ls : Array Slot} {rest : List Value} {E : gE} {A : Nat → Prop} {f : KS}
theorem kl_2 (hexec : p.tables.exec = Jvm.exec) (hb : c.code = cc) (hK : va_K (eD E) classes (eT E) s) (hV : gV E KK A f s H locs) {i : Nat} (hi : i < 16) {j : Int32} (hin : vp_in j 128) (hdg : decode cc pc = .ok (.iaload, 1))
    (kk : W p l e R s m args below meth c H locs cells slots Q (F0 m (pc + 1) ls (.int (f 2 i j.toNatClampNeg) :: rest))) : W p l e R s m args below meth c H locs cells slots Q (F0 m pc ls (.int j :: .ref (ea E 2 i) :: rest)) := g_ald hexec hb hK hV (kk_2 i hi) rfl hin hdg kk
theorem ks_2 (hexec : p.tables.exec = Jvm.exec) (hb : c.code = cc) (hK : va_K (eD E) classes (eT E) s) (hV : gV E KK A f s H locs) {i : Nat} (hi : i < 16) {j x : Int32} (hin : vp_in j 128) (hdg : decode cc pc = .ok (.iastore, 1))
    (kk : ∀ (s1 : KS) (H1 : Heap) (locs1 : List Loc), s1 = w3 f 2 i j.toNatClampNeg x → gV E KK A s1 s H1 locs1 → W p l e R s m args below meth c H1 locs1 cells slots Q (F0 m (pc + 1) ls rest)) : W p l e R s m args below meth c H locs cells slots Q (F0 m pc ls (.int x :: .int j :: .ref (ea E 2 i) :: rest)) := g_ast KK_nd hexec hb hK hV (kk_2 i hi) (fun _ => rfl) hin hdg kk
theorem kl_3 (hexec : p.tables.exec = Jvm.exec) (hb : c.code = cc) (hK : va_K (eD E) classes (eT E) s) (hV : gV E KK A f s H locs) {i : Nat} (hi : i < 16) {j : Int32} (hin : vp_in j 32) (hdg : decode cc pc = .ok (.iaload, 1))
    (kk : W p l e R s m args below meth c H locs cells slots Q (F0 m (pc + 1) ls (.int (f 3 i j.toNatClampNeg) :: rest))) : W p l e R s m args below meth c H locs cells slots Q (F0 m pc ls (.int j :: .ref (ea E 3 i) :: rest)) := g_ald hexec hb hK hV (kk_3 i hi) rfl hin hdg kk
theorem ks_3 (hexec : p.tables.exec = Jvm.exec) (hb : c.code = cc) (hK : va_K (eD E) classes (eT E) s) (hV : gV E KK A f s H locs) {i : Nat} (hi : i < 16) {j x : Int32} (hin : vp_in j 32) (hdg : decode cc pc = .ok (.iastore, 1))
    (kk : ∀ (s1 : KS) (H1 : Heap) (locs1 : List Loc), s1 = w3 f 3 i j.toNatClampNeg x → gV E KK A s1 s H1 locs1 → W p l e R s m args below meth c H1 locs1 cells slots Q (F0 m (pc + 1) ls rest)) : W p l e R s m args below meth c H locs cells slots Q (F0 m pc ls (.int x :: .int j :: .ref (ea E 3 i) :: rest)) := g_ast KK_nd hexec hb hK hV (kk_3 i hi) (fun _ => rfl) hin hdg kk
theorem kl_4 (hexec : p.tables.exec = Jvm.exec) (hb : c.code = cc) (hK : va_K (eD E) classes (eT E) s) (hV : gV E KK A f s H locs) {i : Nat} (hi : i < 16) {j : Int32} (hin : vp_in j 8) (hdg : decode cc pc = .ok (.iaload, 1))
    (kk : W p l e R s m args below meth c H locs cells slots Q (F0 m (pc + 1) ls (.int (f 4 i j.toNatClampNeg) :: rest))) : W p l e R s m args below meth c H locs cells slots Q (F0 m pc ls (.int j :: .ref (ea E 4 i) :: rest)) := g_ald hexec hb hK hV (kk_4 i hi) rfl hin hdg kk
theorem ks_4 (hexec : p.tables.exec = Jvm.exec) (hb : c.code = cc) (hK : va_K (eD E) classes (eT E) s) (hV : gV E KK A f s H locs) {i : Nat} (hi : i < 16) {j x : Int32} (hin : vp_in j 8) (hdg : decode cc pc = .ok (.iastore, 1))
    (kk : ∀ (s1 : KS) (H1 : Heap) (locs1 : List Loc), s1 = w3 f 4 i j.toNatClampNeg x → gV E KK A s1 s H1 locs1 → W p l e R s m args below meth c H1 locs1 cells slots Q (F0 m (pc + 1) ls rest)) : W p l e R s m args below meth c H locs cells slots Q (F0 m pc ls (.int x :: .int j :: .ref (ea E 4 i) :: rest)) := g_ast KK_nd hexec hb hK hV (kk_4 i hi) (fun _ => rfl) hin hdg kk
theorem kl_6 (hexec : p.tables.exec = Jvm.exec) (hb : c.code = cc) (hK : va_K (eD E) classes (eT E) s) (hV : gV E KK A f s H locs) {i : Nat} (hi : i < 10) {j : Int32} (hin : vp_in j (aL (eN E) 6 i)) (hdg : decode cc pc = .ok (.iaload, 1))
    (kk : W p l e R s m args below meth c H locs cells slots Q (F0 m (pc + 1) ls (.int (f 6 i j.toNatClampNeg) :: rest))) : W p l e R s m args below meth c H locs cells slots Q (F0 m pc ls (.int j :: .ref (ea E 6 i) :: rest)) := g_ald hexec hb hK hV (kk_6 i hi) rfl hin hdg kk
theorem ks_6 (hexec : p.tables.exec = Jvm.exec) (hb : c.code = cc) (hK : va_K (eD E) classes (eT E) s) (hV : gV E KK A f s H locs) {i : Nat} (hi : i < 10) {j x : Int32} (hin : vp_in j (aL (eN E) 6 i)) (hdg : decode cc pc = .ok (.iastore, 1))
    (kk : ∀ (s1 : KS) (H1 : Heap) (locs1 : List Loc), s1 = w3 f 6 i j.toNatClampNeg x → gV E KK A s1 s H1 locs1 → W p l e R s m args below meth c H1 locs1 cells slots Q (F0 m (pc + 1) ls rest)) : W p l e R s m args below meth c H locs cells slots Q (F0 m pc ls (.int x :: .int j :: .ref (ea E 6 i) :: rest)) := g_ast KK_nd hexec hb hK hV (kk_6 i hi) (fun _ => rfl) hin hdg kk
theorem kn_6 (hexec : p.tables.exec = Jvm.exec) (hb : c.code = cc) (hK : va_K (eD E) classes (eT E) s) (hV : gV E KK A f s H locs) {i : Nat} (hi : i < 10) (hdg : decode cc pc = .ok (.arraylength, 1))
    (kk : W p l e R s m args below meth c H locs cells slots Q (F0 m (pc + 1) ls (.int (nI (aL (eN E) 6 i)) :: rest))) : W p l e R s m args below meth c H locs cells slots Q (F0 m pc ls (.ref (ea E 6 i) :: rest)) := g_len hexec hb hK hV (kk_6 i hi) rfl hdg kk
theorem kl_7 (hexec : p.tables.exec = Jvm.exec) (hb : c.code = cc) (hK : va_K (eD E) classes (eT E) s) (hV : gV E KK A f s H locs)  {j : Int32} (hin : vp_in j 28) (hdg : decode cc pc = .ok (.iaload, 1))
    (kk : W p l e R s m args below meth c H locs cells slots Q (F0 m (pc + 1) ls (.int (f 7 0 j.toNatClampNeg) :: rest))) : W p l e R s m args below meth c H locs cells slots Q (F0 m pc ls (.int j :: .ref (ea E 7 0) :: rest)) := g_ald hexec hb hK hV kk_7 rfl hin hdg kk
theorem ks_7 (hexec : p.tables.exec = Jvm.exec) (hb : c.code = cc) (hK : va_K (eD E) classes (eT E) s) (hV : gV E KK A f s H locs)  {j x : Int32} (hin : vp_in j 28) (hdg : decode cc pc = .ok (.iastore, 1))
    (kk : ∀ (s1 : KS) (H1 : Heap) (locs1 : List Loc), s1 = w3 f 7 0 j.toNatClampNeg x → gV E KK A s1 s H1 locs1 → W p l e R s m args below meth c H1 locs1 cells slots Q (F0 m (pc + 1) ls rest)) : W p l e R s m args below meth c H locs cells slots Q (F0 m pc ls (.int x :: .int j :: .ref (ea E 7 0) :: rest)) := g_ast KK_nd hexec hb hK hV kk_7 (fun _ => rfl) hin hdg kk
theorem kl_8 (hexec : p.tables.exec = Jvm.exec) (hb : c.code = cc) (hK : va_K (eD E) classes (eT E) s) (hV : gV E KK A f s H locs)  {j : Int32} (hin : vp_in j 16) (hdg : decode cc pc = .ok (.iaload, 1))
    (kk : W p l e R s m args below meth c H locs cells slots Q (F0 m (pc + 1) ls (.int (f 8 0 j.toNatClampNeg) :: rest))) : W p l e R s m args below meth c H locs cells slots Q (F0 m pc ls (.int j :: .ref (ea E 8 0) :: rest)) := g_ald hexec hb hK hV kk_8 rfl hin hdg kk
theorem ks_8 (hexec : p.tables.exec = Jvm.exec) (hb : c.code = cc) (hK : va_K (eD E) classes (eT E) s) (hV : gV E KK A f s H locs)  {j x : Int32} (hin : vp_in j 16) (hdg : decode cc pc = .ok (.iastore, 1))
    (kk : ∀ (s1 : KS) (H1 : Heap) (locs1 : List Loc), s1 = w3 f 8 0 j.toNatClampNeg x → gV E KK A s1 s H1 locs1 → W p l e R s m args below meth c H1 locs1 cells slots Q (F0 m (pc + 1) ls rest)) : W p l e R s m args below meth c H locs cells slots Q (F0 m pc ls (.int x :: .int j :: .ref (ea E 8 0) :: rest)) := g_ast KK_nd hexec hb hK hV kk_8 (fun _ => rfl) hin hdg kk
theorem kl_25 (hexec : p.tables.exec = Jvm.exec) (hb : c.code = cc) (hK : va_K (eD E) classes (eT E) s) (hV : gV E MM A f s H locs)  {j : Int32} (hin : vp_in j 128) (hdg : decode cc pc = .ok (.iaload, 1))
    (kk : W p l e R s m args below meth c H locs cells slots Q (F0 m (pc + 1) ls (.int (f 25 0 j.toNatClampNeg) :: rest))) : W p l e R s m args below meth c H locs cells slots Q (F0 m pc ls (.int j :: .ref (ea E 25 0) :: rest)) := g_ald hexec hb hK hV mm_25 rfl hin hdg kk
theorem ks_25 (hexec : p.tables.exec = Jvm.exec) (hb : c.code = cc) (hK : va_K (eD E) classes (eT E) s) (hV : gV E MM A f s H locs)  {j x : Int32} (hin : vp_in j 128) (hdg : decode cc pc = .ok (.iastore, 1))
    (kk : ∀ (s1 : KS) (H1 : Heap) (locs1 : List Loc), s1 = w3 f 25 0 j.toNatClampNeg x → gV E MM A s1 s H1 locs1 → W p l e R s m args below meth c H1 locs1 cells slots Q (F0 m (pc + 1) ls rest)) : W p l e R s m args below meth c H locs cells slots Q (F0 m pc ls (.int x :: .int j :: .ref (ea E 25 0) :: rest)) := g_ast MM_nd hexec hb hK hV mm_25 (fun _ => rfl) hin hdg kk
theorem kl_26 (hexec : p.tables.exec = Jvm.exec) (hb : c.code = cc) (hK : va_K (eD E) classes (eT E) s) (hV : gV E MM A f s H locs)  {j : Int32} (hin : vp_in j 16) (hdg : decode cc pc = .ok (.iaload, 1))
    (kk : W p l e R s m args below meth c H locs cells slots Q (F0 m (pc + 1) ls (.int (f 26 0 j.toNatClampNeg) :: rest))) : W p l e R s m args below meth c H locs cells slots Q (F0 m pc ls (.int j :: .ref (ea E 26 0) :: rest)) := g_ald hexec hb hK hV mm_26 rfl hin hdg kk
theorem ks_26 (hexec : p.tables.exec = Jvm.exec) (hb : c.code = cc) (hK : va_K (eD E) classes (eT E) s) (hV : gV E MM A f s H locs)  {j x : Int32} (hin : vp_in j 16) (hdg : decode cc pc = .ok (.iastore, 1))
    (kk : ∀ (s1 : KS) (H1 : Heap) (locs1 : List Loc), s1 = w3 f 26 0 j.toNatClampNeg x → gV E MM A s1 s H1 locs1 → W p l e R s m args below meth c H1 locs1 cells slots Q (F0 m (pc + 1) ls rest)) : W p l e R s m args below meth c H locs cells slots Q (F0 m pc ls (.int x :: .int j :: .ref (ea E 26 0) :: rest)) := g_ast MM_nd hexec hb hK hV mm_26 (fun _ => rfl) hin hdg kk
theorem kl_27 (hexec : p.tables.exec = Jvm.exec) (hb : c.code = cc) (hK : va_K (eD E) classes (eT E) s) (hV : gV E MM A f s H locs)  {j : Int32} (hin : vp_in j 2048) (hdg : decode cc pc = .ok (.iaload, 1))
    (kk : W p l e R s m args below meth c H locs cells slots Q (F0 m (pc + 1) ls (.int (f 27 0 j.toNatClampNeg) :: rest))) : W p l e R s m args below meth c H locs cells slots Q (F0 m pc ls (.int j :: .ref (ea E 27 0) :: rest)) := g_ald hexec hb hK hV mm_27 rfl hin hdg kk
theorem ks_27 (hexec : p.tables.exec = Jvm.exec) (hb : c.code = cc) (hK : va_K (eD E) classes (eT E) s) (hV : gV E MM A f s H locs)  {j x : Int32} (hin : vp_in j 2048) (hdg : decode cc pc = .ok (.iastore, 1))
    (kk : ∀ (s1 : KS) (H1 : Heap) (locs1 : List Loc), s1 = w3 f 27 0 j.toNatClampNeg x → gV E MM A s1 s H1 locs1 → W p l e R s m args below meth c H1 locs1 cells slots Q (F0 m (pc + 1) ls rest)) : W p l e R s m args below meth c H locs cells slots Q (F0 m pc ls (.int x :: .int j :: .ref (ea E 27 0) :: rest)) := g_ast MM_nd hexec hb hK hV mm_27 (fun _ => rfl) hin hdg kk
theorem kl_28 (hexec : p.tables.exec = Jvm.exec) (hb : c.code = cc) (hK : va_K (eD E) classes (eT E) s) (hV : gV E MM A f s H locs)  {j : Int32} (hin : vp_in j 1024) (hdg : decode cc pc = .ok (.iaload, 1))
    (kk : W p l e R s m args below meth c H locs cells slots Q (F0 m (pc + 1) ls (.int (f 28 0 j.toNatClampNeg) :: rest))) : W p l e R s m args below meth c H locs cells slots Q (F0 m pc ls (.int j :: .ref (ea E 28 0) :: rest)) := g_ald hexec hb hK hV mm_28 rfl hin hdg kk
theorem ks_28 (hexec : p.tables.exec = Jvm.exec) (hb : c.code = cc) (hK : va_K (eD E) classes (eT E) s) (hV : gV E MM A f s H locs)  {j x : Int32} (hin : vp_in j 1024) (hdg : decode cc pc = .ok (.iastore, 1))
    (kk : ∀ (s1 : KS) (H1 : Heap) (locs1 : List Loc), s1 = w3 f 28 0 j.toNatClampNeg x → gV E MM A s1 s H1 locs1 → W p l e R s m args below meth c H1 locs1 cells slots Q (F0 m (pc + 1) ls rest)) : W p l e R s m args below meth c H locs cells slots Q (F0 m pc ls (.int x :: .int j :: .ref (ea E 28 0) :: rest)) := g_ast MM_nd hexec hb hK hV mm_28 (fun _ => rfl) hin hdg kk
theorem kl_29 (hexec : p.tables.exec = Jvm.exec) (hb : c.code = cc) (hK : va_K (eD E) classes (eT E) s) (hV : gV E MM A f s H locs)  {j : Int32} (hin : vp_in j 16) (hdg : decode cc pc = .ok (.iaload, 1))
    (kk : W p l e R s m args below meth c H locs cells slots Q (F0 m (pc + 1) ls (.int (f 29 0 j.toNatClampNeg) :: rest))) : W p l e R s m args below meth c H locs cells slots Q (F0 m pc ls (.int j :: .ref (ea E 29 0) :: rest)) := g_ald hexec hb hK hV mm_29 rfl hin hdg kk
theorem ks_29 (hexec : p.tables.exec = Jvm.exec) (hb : c.code = cc) (hK : va_K (eD E) classes (eT E) s) (hV : gV E MM A f s H locs)  {j x : Int32} (hin : vp_in j 16) (hdg : decode cc pc = .ok (.iastore, 1))
    (kk : ∀ (s1 : KS) (H1 : Heap) (locs1 : List Loc), s1 = w3 f 29 0 j.toNatClampNeg x → gV E MM A s1 s H1 locs1 → W p l e R s m args below meth c H1 locs1 cells slots Q (F0 m (pc + 1) ls rest)) : W p l e R s m args below meth c H locs cells slots Q (F0 m pc ls (.int x :: .int j :: .ref (ea E 29 0) :: rest)) := g_ast MM_nd hexec hb hK hV mm_29 (fun _ => rfl) hin hdg kk
theorem kl_30 (hexec : p.tables.exec = Jvm.exec) (hb : c.code = cc) (hK : va_K (eD E) classes (eT E) s) (hV : gV E MM A f s H locs)  {j : Int32} (hin : vp_in j 16) (hdg : decode cc pc = .ok (.iaload, 1))
    (kk : W p l e R s m args below meth c H locs cells slots Q (F0 m (pc + 1) ls (.int (f 30 0 j.toNatClampNeg) :: rest))) : W p l e R s m args below meth c H locs cells slots Q (F0 m pc ls (.int j :: .ref (ea E 30 0) :: rest)) := g_ald hexec hb hK hV mm_30 rfl hin hdg kk
theorem ks_30 (hexec : p.tables.exec = Jvm.exec) (hb : c.code = cc) (hK : va_K (eD E) classes (eT E) s) (hV : gV E MM A f s H locs)  {j x : Int32} (hin : vp_in j 16) (hdg : decode cc pc = .ok (.iastore, 1))
    (kk : ∀ (s1 : KS) (H1 : Heap) (locs1 : List Loc), s1 = w3 f 30 0 j.toNatClampNeg x → gV E MM A s1 s H1 locs1 → W p l e R s m args below meth c H1 locs1 cells slots Q (F0 m (pc + 1) ls rest)) : W p l e R s m args below meth c H locs cells slots Q (F0 m pc ls (.int x :: .int j :: .ref (ea E 30 0) :: rest)) := g_ast MM_nd hexec hb hK hV mm_30 (fun _ => rfl) hin hdg kk
theorem kl_31 (hexec : p.tables.exec = Jvm.exec) (hb : c.code = cc) (hK : va_K (eD E) classes (eT E) s) (hV : gV E MM A f s H locs)  {j : Int32} (hin : vp_in j 128) (hdg : decode cc pc = .ok (.iaload, 1))
    (kk : W p l e R s m args below meth c H locs cells slots Q (F0 m (pc + 1) ls (.int (f 31 0 j.toNatClampNeg) :: rest))) : W p l e R s m args below meth c H locs cells slots Q (F0 m pc ls (.int j :: .ref (ea E 31 0) :: rest)) := g_ald hexec hb hK hV mm_31 rfl hin hdg kk
theorem ks_31 (hexec : p.tables.exec = Jvm.exec) (hb : c.code = cc) (hK : va_K (eD E) classes (eT E) s) (hV : gV E MM A f s H locs)  {j x : Int32} (hin : vp_in j 128) (hdg : decode cc pc = .ok (.iastore, 1))
    (kk : ∀ (s1 : KS) (H1 : Heap) (locs1 : List Loc), s1 = w3 f 31 0 j.toNatClampNeg x → gV E MM A s1 s H1 locs1 → W p l e R s m args below meth c H1 locs1 cells slots Q (F0 m (pc + 1) ls rest)) : W p l e R s m args below meth c H locs cells slots Q (F0 m pc ls (.int x :: .int j :: .ref (ea E 31 0) :: rest)) := g_ast MM_nd hexec hb hK hV mm_31 (fun _ => rfl) hin hdg kk
theorem kl_32 (hexec : p.tables.exec = Jvm.exec) (hb : c.code = cc) (hK : va_K (eD E) classes (eT E) s) (hV : gV E MM A f s H locs)  {j : Int32} (hin : vp_in j 16) (hdg : decode cc pc = .ok (.iaload, 1))
    (kk : W p l e R s m args below meth c H locs cells slots Q (F0 m (pc + 1) ls (.int (f 32 0 j.toNatClampNeg) :: rest))) : W p l e R s m args below meth c H locs cells slots Q (F0 m pc ls (.int j :: .ref (ea E 32 0) :: rest)) := g_ald hexec hb hK hV mm_32 rfl hin hdg kk
theorem ks_32 (hexec : p.tables.exec = Jvm.exec) (hb : c.code = cc) (hK : va_K (eD E) classes (eT E) s) (hV : gV E MM A f s H locs)  {j x : Int32} (hin : vp_in j 16) (hdg : decode cc pc = .ok (.iastore, 1))
    (kk : ∀ (s1 : KS) (H1 : Heap) (locs1 : List Loc), s1 = w3 f 32 0 j.toNatClampNeg x → gV E MM A s1 s H1 locs1 → W p l e R s m args below meth c H1 locs1 cells slots Q (F0 m (pc + 1) ls rest)) : W p l e R s m args below meth c H locs cells slots Q (F0 m pc ls (.int x :: .int j :: .ref (ea E 32 0) :: rest)) := g_ast MM_nd hexec hb hK hV mm_32 (fun _ => rfl) hin hdg kk
theorem kl_33 (hexec : p.tables.exec = Jvm.exec) (hb : c.code = cc) (hK : va_K (eD E) classes (eT E) s) (hV : gV E MM A f s H locs)  {j : Int32} (hin : vp_in j 16) (hdg : decode cc pc = .ok (.iaload, 1))
    (kk : W p l e R s m args below meth c H locs cells slots Q (F0 m (pc + 1) ls (.int (f 33 0 j.toNatClampNeg) :: rest))) : W p l e R s m args below meth c H locs cells slots Q (F0 m pc ls (.int j :: .ref (ea E 33 0) :: rest)) := g_ald hexec hb hK hV mm_33 rfl hin hdg kk
theorem ks_33 (hexec : p.tables.exec = Jvm.exec) (hb : c.code = cc) (hK : va_K (eD E) classes (eT E) s) (hV : gV E MM A f s H locs)  {j x : Int32} (hin : vp_in j 16) (hdg : decode cc pc = .ok (.iastore, 1))
    (kk : ∀ (s1 : KS) (H1 : Heap) (locs1 : List Loc), s1 = w3 f 33 0 j.toNatClampNeg x → gV E MM A s1 s H1 locs1 → W p l e R s m args below meth c H1 locs1 cells slots Q (F0 m (pc + 1) ls rest)) : W p l e R s m args below meth c H locs cells slots Q (F0 m pc ls (.int x :: .int j :: .ref (ea E 33 0) :: rest)) := g_ast MM_nd hexec hb hK hV mm_33 (fun _ => rfl) hin hdg kk
theorem kl_34 (hexec : p.tables.exec = Jvm.exec) (hb : c.code = cc) (hK : va_K (eD E) classes (eT E) s) (hV : gV E MM A f s H locs)  {j : Int32} (hin : vp_in j 16) (hdg : decode cc pc = .ok (.iaload, 1))
    (kk : W p l e R s m args below meth c H locs cells slots Q (F0 m (pc + 1) ls (.int (f 34 0 j.toNatClampNeg) :: rest))) : W p l e R s m args below meth c H locs cells slots Q (F0 m pc ls (.int j :: .ref (ea E 34 0) :: rest)) := g_ald hexec hb hK hV mm_34 rfl hin hdg kk
theorem ks_34 (hexec : p.tables.exec = Jvm.exec) (hb : c.code = cc) (hK : va_K (eD E) classes (eT E) s) (hV : gV E MM A f s H locs)  {j x : Int32} (hin : vp_in j 16) (hdg : decode cc pc = .ok (.iastore, 1))
    (kk : ∀ (s1 : KS) (H1 : Heap) (locs1 : List Loc), s1 = w3 f 34 0 j.toNatClampNeg x → gV E MM A s1 s H1 locs1 → W p l e R s m args below meth c H1 locs1 cells slots Q (F0 m (pc + 1) ls rest)) : W p l e R s m args below meth c H locs cells slots Q (F0 m pc ls (.int x :: .int j :: .ref (ea E 34 0) :: rest)) := g_ast MM_nd hexec hb hK hV mm_34 (fun _ => rfl) hin hdg kk
theorem kl_35 (hexec : p.tables.exec = Jvm.exec) (hb : c.code = cc) (hK : va_K (eD E) classes (eT E) s) (hV : gV E MM A f s H locs)  {j : Int32} (hin : vp_in j 16) (hdg : decode cc pc = .ok (.iaload, 1))
    (kk : W p l e R s m args below meth c H locs cells slots Q (F0 m (pc + 1) ls (.int (f 35 0 j.toNatClampNeg) :: rest))) : W p l e R s m args below meth c H locs cells slots Q (F0 m pc ls (.int j :: .ref (ea E 35 0) :: rest)) := g_ald hexec hb hK hV mm_35 rfl hin hdg kk
theorem ks_35 (hexec : p.tables.exec = Jvm.exec) (hb : c.code = cc) (hK : va_K (eD E) classes (eT E) s) (hV : gV E MM A f s H locs)  {j x : Int32} (hin : vp_in j 16) (hdg : decode cc pc = .ok (.iastore, 1))
    (kk : ∀ (s1 : KS) (H1 : Heap) (locs1 : List Loc), s1 = w3 f 35 0 j.toNatClampNeg x → gV E MM A s1 s H1 locs1 → W p l e R s m args below meth c H1 locs1 cells slots Q (F0 m (pc + 1) ls rest)) : W p l e R s m args below meth c H locs cells slots Q (F0 m pc ls (.int x :: .int j :: .ref (ea E 35 0) :: rest)) := g_ast MM_nd hexec hb hK hV mm_35 (fun _ => rfl) hin hdg kk
theorem kl_39 (hexec : p.tables.exec = Jvm.exec) (hb : c.code = cc) (hK : va_K (eD E) classes (eT E) s) (hV : gV E MM A f s H locs)  {j : Int32} (hin : vp_in j 272) (hdg : decode cc pc = .ok (.iaload, 1))
    (kk : W p l e R s m args below meth c H locs cells slots Q (F0 m (pc + 1) ls (.int (f 39 0 j.toNatClampNeg) :: rest))) : W p l e R s m args below meth c H locs cells slots Q (F0 m pc ls (.int j :: .ref (ea E 39 0) :: rest)) := g_ald hexec hb hK hV mm_39 rfl hin hdg kk
theorem ks_39 (hexec : p.tables.exec = Jvm.exec) (hb : c.code = cc) (hK : va_K (eD E) classes (eT E) s) (hV : gV E MM A f s H locs)  {j x : Int32} (hin : vp_in j 272) (hdg : decode cc pc = .ok (.iastore, 1))
    (kk : ∀ (s1 : KS) (H1 : Heap) (locs1 : List Loc), s1 = w3 f 39 0 j.toNatClampNeg x → gV E MM A s1 s H1 locs1 → W p l e R s m args below meth c H1 locs1 cells slots Q (F0 m (pc + 1) ls rest)) : W p l e R s m args below meth c H locs cells slots Q (F0 m pc ls (.int x :: .int j :: .ref (ea E 39 0) :: rest)) := g_ast MM_nd hexec hb hK hV mm_39 (fun _ => rfl) hin hdg kk
theorem kl_40 (hexec : p.tables.exec = Jvm.exec) (hb : c.code = cc) (hK : va_K (eD E) classes (eT E) s) (hV : gV E MM A f s H locs)  {j : Int32} (hin : vp_in j 17) (hdg : decode cc pc = .ok (.iaload, 1))
    (kk : W p l e R s m args below meth c H locs cells slots Q (F0 m (pc + 1) ls (.int (f 40 0 j.toNatClampNeg) :: rest))) : W p l e R s m args below meth c H locs cells slots Q (F0 m pc ls (.int j :: .ref (ea E 40 0) :: rest)) := g_ald hexec hb hK hV mm_40 rfl hin hdg kk
theorem ks_40 (hexec : p.tables.exec = Jvm.exec) (hb : c.code = cc) (hK : va_K (eD E) classes (eT E) s) (hV : gV E MM A f s H locs)  {j x : Int32} (hin : vp_in j 17) (hdg : decode cc pc = .ok (.iastore, 1))
    (kk : ∀ (s1 : KS) (H1 : Heap) (locs1 : List Loc), s1 = w3 f 40 0 j.toNatClampNeg x → gV E MM A s1 s H1 locs1 → W p l e R s m args below meth c H1 locs1 cells slots Q (F0 m (pc + 1) ls rest)) : W p l e R s m args below meth c H locs cells slots Q (F0 m pc ls (.int x :: .int j :: .ref (ea E 40 0) :: rest)) := g_ast MM_nd hexec hb hK hV mm_40 (fun _ => rfl) hin hdg kk
theorem kl_41 (hexec : p.tables.exec = Jvm.exec) (hb : c.code = cc) (hK : va_K (eD E) classes (eT E) s) (hV : gV E MM A f s H locs)  {j : Int32} (hin : vp_in j 128) (hdg : decode cc pc = .ok (.iaload, 1))
    (kk : W p l e R s m args below meth c H locs cells slots Q (F0 m (pc + 1) ls (.int (f 41 0 j.toNatClampNeg) :: rest))) : W p l e R s m args below meth c H locs cells slots Q (F0 m pc ls (.int j :: .ref (ea E 41 0) :: rest)) := g_ald hexec hb hK hV mm_41 rfl hin hdg kk
theorem ks_41 (hexec : p.tables.exec = Jvm.exec) (hb : c.code = cc) (hK : va_K (eD E) classes (eT E) s) (hV : gV E MM A f s H locs)  {j x : Int32} (hin : vp_in j 128) (hdg : decode cc pc = .ok (.iastore, 1))
    (kk : ∀ (s1 : KS) (H1 : Heap) (locs1 : List Loc), s1 = w3 f 41 0 j.toNatClampNeg x → gV E MM A s1 s H1 locs1 → W p l e R s m args below meth c H1 locs1 cells slots Q (F0 m (pc + 1) ls rest)) : W p l e R s m args below meth c H locs cells slots Q (F0 m pc ls (.int x :: .int j :: .ref (ea E 41 0) :: rest)) := g_ast MM_nd hexec hb hK hV mm_41 (fun _ => rfl) hin hdg kk
theorem kl_42 (hexec : p.tables.exec = Jvm.exec) (hb : c.code = cc) (hK : va_K (eD E) classes (eT E) s) (hV : gV E MM A f s H locs)  {j : Int32} (hin : vp_in j 8) (hdg : decode cc pc = .ok (.iaload, 1))
    (kk : W p l e R s m args below meth c H locs cells slots Q (F0 m (pc + 1) ls (.int (f 42 0 j.toNatClampNeg) :: rest))) : W p l e R s m args below meth c H locs cells slots Q (F0 m pc ls (.int j :: .ref (ea E 42 0) :: rest)) := g_ald hexec hb hK hV mm_42 rfl hin hdg kk
theorem ks_42 (hexec : p.tables.exec = Jvm.exec) (hb : c.code = cc) (hK : va_K (eD E) classes (eT E) s) (hV : gV E MM A f s H locs)  {j x : Int32} (hin : vp_in j 8) (hdg : decode cc pc = .ok (.iastore, 1))
    (kk : ∀ (s1 : KS) (H1 : Heap) (locs1 : List Loc), s1 = w3 f 42 0 j.toNatClampNeg x → gV E MM A s1 s H1 locs1 → W p l e R s m args below meth c H1 locs1 cells slots Q (F0 m (pc + 1) ls rest)) : W p l e R s m args below meth c H locs cells slots Q (F0 m pc ls (.int x :: .int j :: .ref (ea E 42 0) :: rest)) := g_ast MM_nd hexec hb hK hV mm_42 (fun _ => rfl) hin hdg kk
theorem kl_43 (hexec : p.tables.exec = Jvm.exec) (hb : c.code = cc) (hK : va_K (eD E) classes (eT E) s) (hV : gV E MM A f s H locs)  {j : Int32} (hin : vp_in j 100) (hdg : decode cc pc = .ok (.iaload, 1))
    (kk : W p l e R s m args below meth c H locs cells slots Q (F0 m (pc + 1) ls (.int (f 43 0 j.toNatClampNeg) :: rest))) : W p l e R s m args below meth c H locs cells slots Q (F0 m pc ls (.int j :: .ref (ea E 43 0) :: rest)) := g_ald hexec hb hK hV mm_43 rfl hin hdg kk
theorem ks_43 (hexec : p.tables.exec = Jvm.exec) (hb : c.code = cc) (hK : va_K (eD E) classes (eT E) s) (hV : gV E MM A f s H locs)  {j x : Int32} (hin : vp_in j 100) (hdg : decode cc pc = .ok (.iastore, 1))
    (kk : ∀ (s1 : KS) (H1 : Heap) (locs1 : List Loc), s1 = w3 f 43 0 j.toNatClampNeg x → gV E MM A s1 s H1 locs1 → W p l e R s m args below meth c H1 locs1 cells slots Q (F0 m (pc + 1) ls rest)) : W p l e R s m args below meth c H locs cells slots Q (F0 m pc ls (.int x :: .int j :: .ref (ea E 43 0) :: rest)) := g_ast MM_nd hexec hb hK hV mm_43 (fun _ => rfl) hin hdg kk
theorem kl_46 (hexec : p.tables.exec = Jvm.exec) (hb : c.code = cc) (hK : va_K (eD E) classes (eT E) s) (hV : gV E MM A f s H locs)  {j : Int32} (hin : vp_in j 500) (hdg : decode cc pc = .ok (.iaload, 1))
    (kk : W p l e R s m args below meth c H locs cells slots Q (F0 m (pc + 1) ls (.int (f 46 0 j.toNatClampNeg) :: rest))) : W p l e R s m args below meth c H locs cells slots Q (F0 m pc ls (.int j :: .ref (ea E 46 0) :: rest)) := g_ald hexec hb hK hV mm_46 rfl hin hdg kk
theorem ks_46 (hexec : p.tables.exec = Jvm.exec) (hb : c.code = cc) (hK : va_K (eD E) classes (eT E) s) (hV : gV E MM A f s H locs)  {j x : Int32} (hin : vp_in j 500) (hdg : decode cc pc = .ok (.iastore, 1))
    (kk : ∀ (s1 : KS) (H1 : Heap) (locs1 : List Loc), s1 = w3 f 46 0 j.toNatClampNeg x → gV E MM A s1 s H1 locs1 → W p l e R s m args below meth c H1 locs1 cells slots Q (F0 m (pc + 1) ls rest)) : W p l e R s m args below meth c H locs cells slots Q (F0 m pc ls (.int x :: .int j :: .ref (ea E 46 0) :: rest)) := g_ast MM_nd hexec hb hK hV mm_46 (fun _ => rfl) hin hdg kk
theorem kl_9 (hexec : p.tables.exec = Jvm.exec) (hb : c.code = cc) (hK : va_K (eD E) classes (eT E) s) (hV : gV E KK A f s H locs) {j : Int32} (hin : vp_in j 16) (hdg : decode cc pc = .ok (.aaload, 1))
    (kk : W p l e R s m args below meth c H locs cells slots Q (F0 m (pc + 1) ls (.ref (ea E 1 j.toNatClampNeg) :: rest))) : W p l e R s m args below meth c H locs cells slots Q (F0 m pc ls (.int j :: .ref (ea E 9 0) :: rest)) := g_ald9 (t0 := 1) (C := "PipeKernel$Proc") hexec hb hK hV kk_9 rfl rfl hin hdg kk
theorem kl_10 (hexec : p.tables.exec = Jvm.exec) (hb : c.code = cc) (hK : va_K (eD E) classes (eT E) s) (hV : gV E KK A f s H locs) {j : Int32} (hin : vp_in j 8) (hdg : decode cc pc = .ok (.aaload, 1))
    (kk : W p l e R s m args below meth c H locs cells slots Q (F0 m (pc + 1) ls (.ref (ea E 5 j.toNatClampNeg) :: rest))) : W p l e R s m args below meth c H locs cells slots Q (F0 m pc ls (.int j :: .ref (ea E 10 0) :: rest)) := g_ald9 (t0 := 2) (C := "PipeKernel$Words") hexec hb hK hV kk_10 rfl rfl hin hdg kk
end KA
section KT
variable {p : Program} {l : Launch} {e : Env} {R : Room} {s : State} {m : MethodId} {args : Array Value} {below : List Frame} {meth : Method} {c : Code} {H : Heap} {locs : List Loc} {cells slots : Nat} {Q : State → Prop}
variable {cc : ByteArray} {pc : Nat} {ls : Array Slot} {rest : List Value} {E : gE} {A : Nat → Prop} {f : KS}
theorem kt_LOOKS_AT (hexec : p.tables.exec = Jvm.exec) (hb : c.code = cc) (hX : kX E A s s.heap) (hV : gV E KK A f s H locs) (hown : s.vm.findClass R_P = some m.cls) (hdg : decode cc pc = .ok (.getstatic 76, 3))
    (kk : W p l e R s m args below meth c H locs cells slots Q (F0 m (pc + 3) ls (.ref (eL E) :: rest))) : W p l e R s m args below meth c H locs cells slots Q (F0 m pc ls rest) := va_getsN hexec hb hX.2.2.1 hV.2.2 hown (va_Nw.use rfl hX.1) (fun _ h => h) hdg kk
theorem ktl_LOOKS_AT (hexec : p.tables.exec = Jvm.exec) (hb : c.code = cc) (hX : kX E A s s.heap) (hV : gV E KK A f s H locs) {j : Int32} (hin : vp_in j 42) (hdg : decode cc pc = .ok (.iaload, 1))
    (kk : W p l e R s m args below meth c H locs cells slots Q (F0 m (pc + 1) ls (.int (tL j.toNatClampNeg) :: rest))) : W p l e R s m args below meth c H locs cells slots Q (F0 m pc ls (.int j :: .ref (eL E) :: rest)) := va_ti hexec hb hX.2.2.2.2.1 hV.2.2 hin rfl hdg kk
theorem ktn_LOOKS_AT (hexec : p.tables.exec = Jvm.exec) (hb : c.code = cc) (hX : kX E A s s.heap) (hV : gV E KK A f s H locs) (hdg : decode cc pc = .ok (.arraylength, 1))
    (kk : W p l e R s m args below meth c H locs cells slots Q (F0 m (pc + 1) ls (.int (42 : Int32) :: rest))) : W p l e R s m args below meth c H locs cells slots Q (F0 m pc ls (.ref (eL E) :: rest)) := va_tlen hexec hb hX.2.2.2.2.1 hV.2.2 rfl hdg kk
theorem kt_GROWS_BY (hexec : p.tables.exec = Jvm.exec) (hb : c.code = cc) (hX : kX E A s s.heap) (hV : gV E KK A f s H locs) (hown : s.vm.findClass R_P = some m.cls) (hdg : decode cc pc = .ok (.getstatic 85, 3))
    (kk : W p l e R s m args below meth c H locs cells slots Q (F0 m (pc + 3) ls (.ref (eG E) :: rest))) : W p l e R s m args below meth c H locs cells slots Q (F0 m pc ls rest) := va_getsN hexec hb hX.2.2.2.1 hV.2.2 hown (va_Nw.use rfl hX.2.1) (fun _ h => h) hdg kk
theorem ktl_GROWS_BY (hexec : p.tables.exec = Jvm.exec) (hb : c.code = cc) (hX : kX E A s s.heap) (hV : gV E KK A f s H locs) {j : Int32} (hin : vp_in j 42) (hdg : decode cc pc = .ok (.iaload, 1))
    (kk : W p l e R s m args below meth c H locs cells slots Q (F0 m (pc + 1) ls (.int (tG j.toNatClampNeg) :: rest))) : W p l e R s m args below meth c H locs cells slots Q (F0 m pc ls (.int j :: .ref (eG E) :: rest)) := va_ti hexec hb hX.2.2.2.2.2 hV.2.2 hin rfl hdg kk
theorem ktn_GROWS_BY (hexec : p.tables.exec = Jvm.exec) (hb : c.code = cc) (hX : kX E A s s.heap) (hV : gV E KK A f s H locs) (hdg : decode cc pc = .ok (.arraylength, 1))
    (kk : W p l e R s m args below meth c H locs cells slots Q (F0 m (pc + 1) ls (.int (42 : Int32) :: rest))) : W p l e R s m args below meth c H locs cells slots Q (F0 m pc ls (.ref (eG E) :: rest)) := va_tlen hexec hb hX.2.2.2.2.2 hV.2.2 rfl hdg kk
end KT
section KC
variable {p : Program} {l : Launch} {e : Env} {R : Room} {s : State} {m : MethodId} {args : Array Value} {below : List Frame} {meth : Method} {c : Code} {H : Heap} {locs : List Loc} {cells slots : Nat} {Q : State → Prop}
variable {cc : ByteArray} {pc : Nat} {ls : Array Slot} {rest : List Value} {E : gE} {A : Nat → Prop} {f : KS}
theorem kcp_2 {n0 : Nat} (hexec : p.tables.exec = Jvm.exec) (hb : c.code = cc) (hml : c.maxLocals = n0) (hsz : ls.size = n0) (hG : ∀ w ∈ gG, w.before args s = true) (hown : s.vm.findClass R_P = some m.cls) (hK : va_K (eD E) classes (eT E) s) (hV : gV E KK A f s H locs) {i j : Nat} (hj : j < 16) (hi : i < 16) (hdg : decode cc pc = .ok (.invokestatic 49, 3)) (hfr : 1 ≤ R.frames) (hlo : (rest.map fun v => v.category).sum + (nativeFrameWords "java/lang/System" "arraycopy" 5 + 11) ≤ R.locals)
    (kk : ∀ (s1 : KS) (H1 : Heap) (locs1 : List Loc), s1 = ur f 2 i (va_cpy (f 2 j) (f 2 i) 0 0 128) → gV E KK A s1 s H1 locs1 → W p l e R s m args below meth c H1 locs1 cells slots Q (F0 m (pc + 3) ls rest)) : W p l e R s m args below meth c H locs cells slots Q (F0 m pc ls (.int 128 :: .int 0 :: .ref (ea E 2 i) :: .int 0 :: .ref (ea E 2 j) :: rest)) := by
  obtain ⟨q0, hq0⟩ := List.getElem?_of_mem (kk_2 j hj)
  obtain ⟨q1, hq1⟩ := List.getElem?_of_mem (kk_2 i hi)
  refine va_copyi (ty := .int) hexec hb (hml.trans hsz.symm) hown (hG _ gm_544) (hG _ gm_546) (hG _ gm_545) (hG _ gm_83) hK hV.1 hV.2.1 hV.2.2 q0 q1 0 0 (gw_pos hq0) (gw_pos hq1) rfl rfl rfl (by decide) (by decide) (by decide) (show (0 : Int32).toNatClampNeg + (128 : Int32).toNatClampNeg ≤ 128 by decide) (show (0 : Int32).toNatClampNeg + (128 : Int32).toNatClampNeg ≤ 128 by decide) (fun _ _ => rfl) hfr hlo hdg (fun H1 locs1 h1 h2 h3 => ?_)
  have e0 : (0 : Int32).toNatClampNeg = 0 := by decide
  have e1 : (128 : Int32).toNatClampNeg = 128 := by decide
  rw [e0, e1] at h1 h2
  have h1 : va_P (eD E) classes ((gw KK E f).set q1 (ea E 2 i, ke E 2 i (va_cpy (f 2 j) (f 2 i) 0 0 128))) H1 := h1
  have h2 : va_D A ((gw KK E f).set q1 (ea E 2 i, ke E 2 i (va_cpy (f 2 j) (f 2 i) 0 0 128))) := h2
  rw [gw_set KK_nd hq1] at h1 h2
  exact kk _ H1 locs1 rfl ⟨h1, h2, h3⟩
theorem kcp_3 {n0 : Nat} (hexec : p.tables.exec = Jvm.exec) (hb : c.code = cc) (hml : c.maxLocals = n0) (hsz : ls.size = n0) (hG : ∀ w ∈ gG, w.before args s = true) (hown : s.vm.findClass R_P = some m.cls) (hK : va_K (eD E) classes (eT E) s) (hV : gV E KK A f s H locs) {i j : Nat} (hj : j < 16) (hi : i < 16) (hdg : decode cc pc = .ok (.invokestatic 49, 3)) (hfr : 1 ≤ R.frames) (hlo : (rest.map fun v => v.category).sum + (nativeFrameWords "java/lang/System" "arraycopy" 5 + 11) ≤ R.locals)
    (kk : ∀ (s1 : KS) (H1 : Heap) (locs1 : List Loc), s1 = ur f 3 i (va_cpy (f 3 j) (f 3 i) 0 0 32) → gV E KK A s1 s H1 locs1 → W p l e R s m args below meth c H1 locs1 cells slots Q (F0 m (pc + 3) ls rest)) : W p l e R s m args below meth c H locs cells slots Q (F0 m pc ls (.int 32 :: .int 0 :: .ref (ea E 3 i) :: .int 0 :: .ref (ea E 3 j) :: rest)) := by
  obtain ⟨q0, hq0⟩ := List.getElem?_of_mem (kk_3 j hj)
  obtain ⟨q1, hq1⟩ := List.getElem?_of_mem (kk_3 i hi)
  refine va_copyi (ty := .int) hexec hb (hml.trans hsz.symm) hown (hG _ gm_544) (hG _ gm_546) (hG _ gm_545) (hG _ gm_83) hK hV.1 hV.2.1 hV.2.2 q0 q1 0 0 (gw_pos hq0) (gw_pos hq1) rfl rfl rfl (by decide) (by decide) (by decide) (show (0 : Int32).toNatClampNeg + (32 : Int32).toNatClampNeg ≤ 32 by decide) (show (0 : Int32).toNatClampNeg + (32 : Int32).toNatClampNeg ≤ 32 by decide) (fun _ _ => rfl) hfr hlo hdg (fun H1 locs1 h1 h2 h3 => ?_)
  have e0 : (0 : Int32).toNatClampNeg = 0 := by decide
  have e1 : (32 : Int32).toNatClampNeg = 32 := by decide
  rw [e0, e1] at h1 h2
  have h1 : va_P (eD E) classes ((gw KK E f).set q1 (ea E 3 i, ke E 3 i (va_cpy (f 3 j) (f 3 i) 0 0 32))) H1 := h1
  have h2 : va_D A ((gw KK E f).set q1 (ea E 3 i, ke E 3 i (va_cpy (f 3 j) (f 3 i) 0 0 32))) := h2
  rw [gw_set KK_nd hq1] at h1 h2
  exact kk _ H1 locs1 rfl ⟨h1, h2, h3⟩
theorem kcp_4 {n0 : Nat} (hexec : p.tables.exec = Jvm.exec) (hb : c.code = cc) (hml : c.maxLocals = n0) (hsz : ls.size = n0) (hG : ∀ w ∈ gG, w.before args s = true) (hown : s.vm.findClass R_P = some m.cls) (hK : va_K (eD E) classes (eT E) s) (hV : gV E KK A f s H locs) {i j : Nat} (hj : j < 16) (hi : i < 16) (hdg : decode cc pc = .ok (.invokestatic 49, 3)) (hfr : 1 ≤ R.frames) (hlo : (rest.map fun v => v.category).sum + (nativeFrameWords "java/lang/System" "arraycopy" 5 + 11) ≤ R.locals)
    (kk : ∀ (s1 : KS) (H1 : Heap) (locs1 : List Loc), s1 = ur f 4 i (va_cpy (f 4 j) (f 4 i) 0 0 8) → gV E KK A s1 s H1 locs1 → W p l e R s m args below meth c H1 locs1 cells slots Q (F0 m (pc + 3) ls rest)) : W p l e R s m args below meth c H locs cells slots Q (F0 m pc ls (.int 8 :: .int 0 :: .ref (ea E 4 i) :: .int 0 :: .ref (ea E 4 j) :: rest)) := by
  obtain ⟨q0, hq0⟩ := List.getElem?_of_mem (kk_4 j hj)
  obtain ⟨q1, hq1⟩ := List.getElem?_of_mem (kk_4 i hi)
  refine va_copyi (ty := .int) hexec hb (hml.trans hsz.symm) hown (hG _ gm_544) (hG _ gm_546) (hG _ gm_545) (hG _ gm_83) hK hV.1 hV.2.1 hV.2.2 q0 q1 0 0 (gw_pos hq0) (gw_pos hq1) rfl rfl rfl (by decide) (by decide) (by decide) (show (0 : Int32).toNatClampNeg + (8 : Int32).toNatClampNeg ≤ 8 by decide) (show (0 : Int32).toNatClampNeg + (8 : Int32).toNatClampNeg ≤ 8 by decide) (fun _ _ => rfl) hfr hlo hdg (fun H1 locs1 h1 h2 h3 => ?_)
  have e0 : (0 : Int32).toNatClampNeg = 0 := by decide
  have e1 : (8 : Int32).toNatClampNeg = 8 := by decide
  rw [e0, e1] at h1 h2
  have h1 : va_P (eD E) classes ((gw KK E f).set q1 (ea E 4 i, ke E 4 i (va_cpy (f 4 j) (f 4 i) 0 0 8))) H1 := h1
  have h2 : va_D A ((gw KK E f).set q1 (ea E 4 i, ke E 4 i (va_cpy (f 4 j) (f 4 i) 0 0 8))) := h2
  rw [gw_set KK_nd hq1] at h1 h2
  exact kk _ H1 locs1 rfl ⟨h1, h2, h3⟩
end KC
end
section
section KL
variable {p : Program} {l : Launch} {e : Env} {R : Room} {s : State} {m : MethodId} {args : Array Value} {below : List Frame} {meth : Method} {c : Code} {H : Heap} {locs : List Loc} {cells slots : Nat} {Q : State → Prop}
variable {cc : ByteArray} {pc : Nat} {ls : Array Slot} {rest : List Value} {E : gE} {A : Nat → Prop} {f : KS}
theorem kc_K_K_addEnd {nL : Nat} {c0 : Cond} (hexec : p.tables.exec = Jvm.exec) (hb : c.code = cc) (hml : c.maxLocals = nL) (hown : s.vm.findClass R_K = some m.cls) (hts : ∀ w ∈ c0 :: gG, w.before args s = true) (hV : gV E KK A f s H locs) (hK : va_K (eD E) classes (eT E) s) (hX : kX E A s s.heap) (hAe : A = gA E KK s.heap.size) {x1 : Int32} {Φ : KS → Prop} (hM : gMv l y_K_addEnd v_K_addEnd m_K_addEnd E KK [.ref (ea E 0 0), .int x1] f Φ) (hsz : ls.size = nL) (hW : (rest.map fun v => v.category).sum ≤ 8) (hdg : decode cc pc = .ok (.invokevirtual 313, 3)) (hfr : (m_K_addEnd).frames + 1 ≤ R.frames) (hlo : 8 + (2 + 11) + (m_K_addEnd).locals ≤ R.locals)
    (kk : ∀ (u : KS) (H1 : Heap) (locs1 : List Loc), Φ u → gV E KK A u s H1 locs1 → W p l e R s m args below meth c H1 locs1 0 0 Q (F0 m (pc + 3) ls rest)) : W p l e R s m args below meth c H locs 0 0 Q (F0 m pc ls (.int x1 :: .ref (ea E 0 0) :: rest)) :=
  g_gov (g_callV (C := R_K) (cc := cc) (As := [.int x1]) ⟨hexec, hb, hml, hown, hts⟩ hM (cwV 1 hts (gi_V gm_547 gm_549 gm_26 gm_72 gm_550) rfl rfl rfl (by decide +kernel) ⟨hfr, hlo⟩) hV hK hX hAe (g_recv hK hV kk_0 rfl rfl) rfl hsz rfl hW hdg ⟨Nat.zero_le _, Nat.zero_le _⟩) hV hAe kk
theorem kc_K_K_beginToWait {nL : Nat} {c0 : Cond} (hexec : p.tables.exec = Jvm.exec) (hb : c.code = cc) (hml : c.maxLocals = nL) (hown : s.vm.findClass R_K = some m.cls) (hts : ∀ w ∈ c0 :: gG, w.before args s = true) (hV : gV E KK A f s H locs) (hK : va_K (eD E) classes (eT E) s) (hX : kX E A s s.heap) (hAe : A = gA E KK s.heap.size) {p1 : Nat} {Φ : KS → Prop} (hM : gMv l y_K_beginToWait v_K_beginToWait m_K_beginToWait E KK [.ref (ea E 0 0), .ref (ea E 1 p1)] f Φ) (hsz : ls.size = nL) (hW : (rest.map fun v => v.category).sum ≤ 8) (hdg : decode cc pc = .ok (.invokevirtual 195, 3)) (hfr : (m_K_beginToWait).frames + 1 ≤ R.frames) (hlo : 8 + (3 + 11) + (m_K_beginToWait).locals ≤ R.locals)
    (kk : ∀ (u : KS) (H1 : Heap) (locs1 : List Loc), Φ u → gV E KK A u s H1 locs1 → W p l e R s m args below meth c H1 locs1 0 0 Q (F0 m (pc + 3) ls rest)) : W p l e R s m args below meth c H locs 0 0 Q (F0 m pc ls (.ref (ea E 1 p1) :: .ref (ea E 0 0) :: rest)) :=
  g_gov (g_callV (C := R_K) (cc := cc) (As := [.ref (ea E 1 p1)]) ⟨hexec, hb, hml, hown, hts⟩ hM (cwV 1 hts (gi_V gm_468 gm_470 gm_16 gm_72 gm_471) rfl rfl rfl (by decide +kernel) ⟨hfr, hlo⟩) hV hK hX hAe (g_recv hK hV kk_0 rfl rfl) rfl hsz rfl hW hdg ⟨Nat.zero_le _, Nat.zero_le _⟩) hV hAe kk
theorem kc_K_K_close {nL : Nat} {c0 : Cond} (hexec : p.tables.exec = Jvm.exec) (hb : c.code = cc) (hml : c.maxLocals = nL) (hown : s.vm.findClass R_K = some m.cls) (hts : ∀ w ∈ c0 :: gG, w.before args s = true) (hV : gV E KK A f s H locs) (hK : va_K (eD E) classes (eT E) s) (hX : kX E A s s.heap) (hAe : A = gA E KK s.heap.size) {p1 : Nat} {Φ : KS → Prop} (hM : gMv l y_K_close v_K_close m_K_close E KK [.ref (ea E 0 0), .ref (ea E 1 p1)] f Φ) (hsz : ls.size = nL) (hW : (rest.map fun v => v.category).sum ≤ 8) (hdg : decode cc pc = .ok (.invokevirtual 280, 3)) (hfr : (m_K_close).frames + 1 ≤ R.frames) (hlo : 8 + (3 + 11) + (m_K_close).locals ≤ R.locals)
    (kk : ∀ (u : KS) (H1 : Heap) (locs1 : List Loc), Φ u → gV E KK A u s H1 locs1 → W p l e R s m args below meth c H1 locs1 0 0 Q (F0 m (pc + 3) ls rest)) : W p l e R s m args below meth c H locs 0 0 Q (F0 m pc ls (.ref (ea E 1 p1) :: .ref (ea E 0 0) :: rest)) :=
  g_gov (g_callV (C := R_K) (cc := cc) (As := [.ref (ea E 1 p1)]) ⟨hexec, hb, hml, hown, hts⟩ hM (cwV 1 hts (gi_V gm_593 gm_595 gm_33 gm_72 gm_596) rfl rfl rfl (by decide +kernel) ⟨hfr, hlo⟩) hV hK hX hAe (g_recv hK hV kk_0 rfl rfl) rfl hsz rfl hW hdg ⟨Nat.zero_le _, Nat.zero_le _⟩) hV hAe kk
theorem kc_K_K_closeDescriptor {nL : Nat} {c0 : Cond} (hexec : p.tables.exec = Jvm.exec) (hb : c.code = cc) (hml : c.maxLocals = nL) (hown : s.vm.findClass R_K = some m.cls) (hts : ∀ w ∈ c0 :: gG, w.before args s = true) (hV : gV E KK A f s H locs) (hK : va_K (eD E) classes (eT E) s) (hX : kX E A s s.heap) (hAe : A = gA E KK s.heap.size) {p1 : Nat} {x2 : Int32} {Φ : Int32 → KS → Prop} (hM : gMi l y_K_closeDescriptor v_K_closeDescriptor m_K_closeDescriptor E KK [.ref (ea E 0 0), .ref (ea E 1 p1), .int x2] f Φ) (hsz : ls.size = nL) (hW : (rest.map fun v => v.category).sum ≤ 8) (hdg : decode cc pc = .ok (.invokevirtual 332, 3)) (hfr : (m_K_closeDescriptor).frames + 1 ≤ R.frames) (hlo : 8 + (5 + 11) + (m_K_closeDescriptor).locals ≤ R.locals)
    (kk : ∀ (r : Int32) (u : KS) (H1 : Heap) (locs1 : List Loc), Φ r u → gV E KK A u s H1 locs1 → W p l e R s m args below meth c H1 locs1 0 0 Q (F0 m (pc + 3) ls (.int r :: rest))) : W p l e R s m args below meth c H locs 0 0 Q (F0 m pc ls (.int x2 :: .ref (ea E 1 p1) :: .ref (ea E 0 0) :: rest)) :=
  g_goi (g_callV (C := R_K) (cc := cc) (As := [.ref (ea E 1 p1), .int x2]) ⟨hexec, hb, hml, hown, hts⟩ hM (cwV 2 hts (gi_V gm_409 gm_411 gm_9 gm_72 gm_412) rfl rfl rfl (by decide +kernel) ⟨hfr, hlo⟩) hV hK hX hAe (g_recv hK hV kk_0 rfl rfl) rfl hsz rfl hW hdg ⟨Nat.zero_le _, Nat.zero_le _⟩) hV hAe kk
theorem kc_K_K_countWaiting {nL : Nat} {c0 : Cond} (hexec : p.tables.exec = Jvm.exec) (hb : c.code = cc) (hml : c.maxLocals = nL) (hown : s.vm.findClass R_K = some m.cls) (hts : ∀ w ∈ c0 :: gG, w.before args s = true) (hV : gV E KK A f s H locs) (hK : va_K (eD E) classes (eT E) s) (hX : kX E A s s.heap) (hAe : A = gA E KK s.heap.size) {x1 : Int32} {Φ : Int32 → KS → Prop} (hM : gMi l y_K_countWaiting v_K_countWaiting m_K_countWaiting E KK [.ref (ea E 0 0), .int x1] f Φ) (hsz : ls.size = nL) (hW : (rest.map fun v => v.category).sum ≤ 8) (hdg : decode cc pc = .ok (.invokevirtual 170, 3)) (hfr : (m_K_countWaiting).frames + 1 ≤ R.frames) (hlo : 8 + (4 + 11) + (m_K_countWaiting).locals ≤ R.locals)
    (kk : ∀ (r : Int32) (u : KS) (H1 : Heap) (locs1 : List Loc), Φ r u → gV E KK A u s H1 locs1 → W p l e R s m args below meth c H1 locs1 0 0 Q (F0 m (pc + 3) ls (.int r :: rest))) : W p l e R s m args below meth c H locs 0 0 Q (F0 m pc ls (.int x1 :: .ref (ea E 0 0) :: rest)) :=
  g_goi (g_callV (C := R_K) (cc := cc) (As := [.int x1]) ⟨hexec, hb, hml, hown, hts⟩ hM (cwV 1 hts (gi_V gm_693 gm_695 gm_36 gm_72 gm_696) rfl rfl rfl (by decide +kernel) ⟨hfr, hlo⟩) hV hK hX hAe (g_recv hK hV kk_0 rfl rfl) rfl hsz rfl hW hdg ⟨Nat.zero_le _, Nat.zero_le _⟩) hV hAe kk
theorem kc_K_K_duplicate {nL : Nat} {c0 : Cond} (hexec : p.tables.exec = Jvm.exec) (hb : c.code = cc) (hml : c.maxLocals = nL) (hown : s.vm.findClass R_K = some m.cls) (hts : ∀ w ∈ c0 :: gG, w.before args s = true) (hV : gV E KK A f s H locs) (hK : va_K (eD E) classes (eT E) s) (hX : kX E A s s.heap) (hAe : A = gA E KK s.heap.size) {p1 : Nat} {Φ : KS → Prop} (hM : gMv l y_K_duplicate v_K_duplicate m_K_duplicate E KK [.ref (ea E 0 0), .ref (ea E 1 p1)] f Φ) (hsz : ls.size = nL) (hW : (rest.map fun v => v.category).sum ≤ 8) (hdg : decode cc pc = .ok (.invokevirtual 283, 3)) (hfr : (m_K_duplicate).frames + 1 ≤ R.frames) (hlo : 8 + (3 + 11) + (m_K_duplicate).locals ≤ R.locals)
    (kk : ∀ (u : KS) (H1 : Heap) (locs1 : List Loc), Φ u → gV E KK A u s H1 locs1 → W p l e R s m args below meth c H1 locs1 0 0 Q (F0 m (pc + 3) ls rest)) : W p l e R s m args below meth c H locs 0 0 Q (F0 m pc ls (.ref (ea E 1 p1) :: .ref (ea E 0 0) :: rest)) :=
  g_gov (g_callV (C := R_K) (cc := cc) (As := [.ref (ea E 1 p1)]) ⟨hexec, hb, hml, hown, hts⟩ hM (cwV 1 hts (gi_V gm_597 gm_599 gm_34 gm_72 gm_600) rfl rfl rfl (by decide +kernel) ⟨hfr, hlo⟩) hV hK hX hAe (g_recv hK hV kk_0 rfl rfl) rfl hsz rfl hW hdg ⟨Nat.zero_le _, Nat.zero_le _⟩) hV hAe kk
theorem kc_K_K_end {nL : Nat} {c0 : Cond} (hexec : p.tables.exec = Jvm.exec) (hb : c.code = cc) (hml : c.maxLocals = nL) (hown : s.vm.findClass R_K = some m.cls) (hts : ∀ w ∈ c0 :: gG, w.before args s = true) (hV : gV E KK A f s H locs) (hK : va_K (eD E) classes (eT E) s) (hX : kX E A s s.heap) (hAe : A = gA E KK s.heap.size) {p1 : Nat} {x2 : Int32} {Φ : KS → Prop} (hM : gMv l y_K_end v_K_end m_K_end E KK [.ref (ea E 0 0), .ref (ea E 1 p1), .int x2] f Φ) (hsz : ls.size = nL) (hW : (rest.map fun v => v.category).sum ≤ 8) (hdg : decode cc pc = .ok (.invokevirtual 187, 3)) (hfr : (m_K_end).frames + 1 ≤ R.frames) (hlo : 8 + (4 + 11) + (m_K_end).locals ≤ R.locals)
    (kk : ∀ (u : KS) (H1 : Heap) (locs1 : List Loc), Φ u → gV E KK A u s H1 locs1 → W p l e R s m args below meth c H1 locs1 0 0 Q (F0 m (pc + 3) ls rest)) : W p l e R s m args below meth c H locs 0 0 Q (F0 m pc ls (.int x2 :: .ref (ea E 1 p1) :: .ref (ea E 0 0) :: rest)) :=
  g_gov (g_callV (C := R_K) (cc := cc) (As := [.ref (ea E 1 p1), .int x2]) ⟨hexec, hb, hml, hown, hts⟩ hM (cwV 2 hts (gi_V gm_401 gm_403 gm_7 gm_72 gm_404) rfl rfl rfl (by decide +kernel) ⟨hfr, hlo⟩) hV hK hX hAe (g_recv hK hV kk_0 rfl rfl) rfl hsz rfl hW hdg ⟨Nat.zero_le _, Nat.zero_le _⟩) hV hAe kk
theorem kc_K_K_endedChild {nL : Nat} {c0 : Cond} (hexec : p.tables.exec = Jvm.exec) (hb : c.code = cc) (hml : c.maxLocals = nL) (hown : s.vm.findClass R_K = some m.cls) (hts : ∀ w ∈ c0 :: gG, w.before args s = true) (hV : gV E KK A f s H locs) (hK : va_K (eD E) classes (eT E) s) (hX : kX E A s s.heap) (hAe : A = gA E KK s.heap.size) {p1 : Nat} {Φ : Option Nat → KS → Prop} (hM : gMq l y_K_endedChild v_K_endedChild m_K_endedChild E KK [.ref (ea E 0 0), .ref (ea E 1 p1)] f Φ) (hsz : ls.size = nL) (hW : (rest.map fun v => v.category).sum ≤ 8) (hdg : decode cc pc = .ok (.invokevirtual 225, 3)) (hfr : (m_K_endedChild).frames + 1 ≤ R.frames) (hlo : 8 + (3 + 11) + (m_K_endedChild).locals ≤ R.locals)
    (kk : ∀ (o : Option Nat) (u : KS) (H1 : Heap) (locs1 : List Loc), (∀ i, o = some i → i < 16) → Φ o u → gV E KK A u s H1 locs1 → W p l e R s m args below meth c H1 locs1 0 0 Q (F0 m (pc + 3) ls (va_rf (Option.map (ea E 1) o) :: rest))) : W p l e R s m args below meth c H locs 0 0 Q (F0 m pc ls (.ref (ea E 1 p1) :: .ref (ea E 0 0) :: rest)) :=
  g_goq (g_callV (C := R_K) (cc := cc) (As := [.ref (ea E 1 p1)]) ⟨hexec, hb, hml, hown, hts⟩ hM (cwV 1 hts (gi_V gm_428 gm_430 gm_11 gm_72 gm_431) rfl rfl rfl (by decide +kernel) ⟨hfr, hlo⟩) hV hK hX hAe (g_recv hK hV kk_0 rfl rfl) rfl hsz rfl hW hdg ⟨Nat.zero_le _, Nat.zero_le _⟩) hV hAe kk
theorem kc_K_K_fork {nL : Nat} {c0 : Cond} (hexec : p.tables.exec = Jvm.exec) (hb : c.code = cc) (hml : c.maxLocals = nL) (hown : s.vm.findClass R_K = some m.cls) (hts : ∀ w ∈ c0 :: gG, w.before args s = true) (hV : gV E KK A f s H locs) (hK : va_K (eD E) classes (eT E) s) (hX : kX E A s s.heap) (hAe : A = gA E KK s.heap.size) {p1 : Nat} {Φ : KS → Prop} (hM : gMv l y_K_fork v_K_fork m_K_fork E KK [.ref (ea E 0 0), .ref (ea E 1 p1)] f Φ) (hsz : ls.size = nL) (hW : (rest.map fun v => v.category).sum ≤ 8) (hdg : decode cc pc = .ok (.invokevirtual 268, 3)) (hfr : (m_K_fork).frames + 1 ≤ R.frames) (hlo : 8 + (4 + 11) + (m_K_fork).locals ≤ R.locals)
    (kk : ∀ (u : KS) (H1 : Heap) (locs1 : List Loc), Φ u → gV E KK A u s H1 locs1 → W p l e R s m args below meth c H1 locs1 0 0 Q (F0 m (pc + 3) ls rest)) : W p l e R s m args below meth c H locs 0 0 Q (F0 m pc ls (.ref (ea E 1 p1) :: .ref (ea E 0 0) :: rest)) :=
  g_gov (g_callV (C := R_K) (cc := cc) (As := [.ref (ea E 1 p1)]) ⟨hexec, hb, hml, hown, hts⟩ hM (cwV 1 hts (gi_V gm_532 gm_534 gm_24 gm_72 gm_535) rfl rfl rfl (by decide +kernel) ⟨hfr, hlo⟩) hV hK hX hAe (g_recv hK hV kk_0 rfl rfl) rfl hsz rfl hW hdg ⟨Nat.zero_le _, Nat.zero_le _⟩) hV hAe kk
theorem kc_K_K_freePipe {nL : Nat} {c0 : Cond} (hexec : p.tables.exec = Jvm.exec) (hb : c.code = cc) (hml : c.maxLocals = nL) (hown : s.vm.findClass R_K = some m.cls) (hts : ∀ w ∈ c0 :: gG, w.before args s = true) (hV : gV E KK A f s H locs) (hK : va_K (eD E) classes (eT E) s) (hX : kX E A s s.heap) (hAe : A = gA E KK s.heap.size) {Φ : Int32 → KS → Prop} (hM : gMi l y_K_freePipe v_K_freePipe m_K_freePipe E KK [.ref (ea E 0 0)] f Φ) (hsz : ls.size = nL) (hW : (rest.map fun v => v.category).sum ≤ 8) (hdg : decode cc pc = .ok (.invokevirtual 319, 3)) (hfr : (m_K_freePipe).frames + 1 ≤ R.frames) (hlo : 8 + (2 + 11) + (m_K_freePipe).locals ≤ R.locals)
    (kk : ∀ (r : Int32) (u : KS) (H1 : Heap) (locs1 : List Loc), Φ r u → gV E KK A u s H1 locs1 → W p l e R s m args below meth c H1 locs1 0 0 Q (F0 m (pc + 3) ls (.int r :: rest))) : W p l e R s m args below meth c H locs 0 0 Q (F0 m pc ls (.ref (ea E 0 0) :: rest)) :=
  g_goi (g_callV (C := R_K) (cc := cc) (As := []) ⟨hexec, hb, hml, hown, hts⟩ hM (cwV 0 hts (gi_V gm_567 gm_569 gm_31 gm_72 gm_570) rfl rfl rfl (by decide +kernel) ⟨hfr, hlo⟩) hV hK hX hAe (g_recv hK hV kk_0 rfl rfl) rfl hsz rfl hW hdg ⟨Nat.zero_le _, Nat.zero_le _⟩) hV hAe kk
theorem kc_K_K_freeProc {nL : Nat} {c0 : Cond} (hexec : p.tables.exec = Jvm.exec) (hb : c.code = cc) (hml : c.maxLocals = nL) (hown : s.vm.findClass R_K = some m.cls) (hts : ∀ w ∈ c0 :: gG, w.before args s = true) (hV : gV E KK A f s H locs) (hK : va_K (eD E) classes (eT E) s) (hX : kX E A s s.heap) (hAe : A = gA E KK s.heap.size) {Φ : Option Nat → KS → Prop} (hM : gMq l y_K_freeProc v_K_freeProc m_K_freeProc E KK [.ref (ea E 0 0)] f Φ) (hsz : ls.size = nL) (hW : (rest.map fun v => v.category).sum ≤ 8) (hdg : decode cc pc = .ok (.invokevirtual 306, 3)) (hfr : (m_K_freeProc).frames + 1 ≤ R.frames) (hlo : 8 + (2 + 11) + (m_K_freeProc).locals ≤ R.locals)
    (kk : ∀ (o : Option Nat) (u : KS) (H1 : Heap) (locs1 : List Loc), (∀ i, o = some i → i < 16) → Φ o u → gV E KK A u s H1 locs1 → W p l e R s m args below meth c H1 locs1 0 0 Q (F0 m (pc + 3) ls (va_rf (Option.map (ea E 1) o) :: rest))) : W p l e R s m args below meth c H locs 0 0 Q (F0 m pc ls (.ref (ea E 0 0) :: rest)) :=
  g_goq (g_callV (C := R_K) (cc := cc) (As := []) ⟨hexec, hb, hml, hown, hts⟩ hM (cwV 0 hts (gi_V gm_536 gm_538 gm_25 gm_72 gm_539) rfl rfl rfl (by decide +kernel) ⟨hfr, hlo⟩) hV hK hX hAe (g_recv hK hV kk_0 rfl rfl) rfl hsz rfl hW hdg ⟨Nat.zero_le _, Nat.zero_le _⟩) hV hAe kk
theorem kc_K_K_goToQueueEnd {nL : Nat} {c0 : Cond} (hexec : p.tables.exec = Jvm.exec) (hb : c.code = cc) (hml : c.maxLocals = nL) (hown : s.vm.findClass R_K = some m.cls) (hts : ∀ w ∈ c0 :: gG, w.before args s = true) (hV : gV E KK A f s H locs) (hK : va_K (eD E) classes (eT E) s) (hX : kX E A s s.heap) (hAe : A = gA E KK s.heap.size) {p1 : Nat} {Φ : KS → Prop} (hM : gMv l y_K_goToQueueEnd v_K_goToQueueEnd m_K_goToQueueEnd E KK [.ref (ea E 0 0), .ref (ea E 1 p1)] f Φ) (hsz : ls.size = nL) (hW : (rest.map fun v => v.category).sum ≤ 8) (hdg : decode cc pc = .ok (.invokevirtual 204, 3)) (hfr : (m_K_goToQueueEnd).frames + 1 ≤ R.frames) (hlo : 8 + (2 + 11) + (m_K_goToQueueEnd).locals ≤ R.locals)
    (kk : ∀ (u : KS) (H1 : Heap) (locs1 : List Loc), Φ u → gV E KK A u s H1 locs1 → W p l e R s m args below meth c H1 locs1 0 0 Q (F0 m (pc + 3) ls rest)) : W p l e R s m args below meth c H locs 0 0 Q (F0 m pc ls (.ref (ea E 1 p1) :: .ref (ea E 0 0) :: rest)) :=
  g_gov (g_callV (C := R_K) (cc := cc) (As := [.ref (ea E 1 p1)]) ⟨hexec, hb, hml, hown, hts⟩ hM (cwV 1 hts (gi_V gm_491 gm_493 gm_18 gm_72 gm_494) rfl rfl rfl (by decide +kernel) ⟨hfr, hlo⟩) hV hK hX hAe (g_recv hK hV kk_0 rfl rfl) rfl hsz rfl hW hdg ⟨Nat.zero_le _, Nat.zero_le _⟩) hV hAe kk
theorem kc_K_K_goesOn {nL : Nat} {c0 : Cond} (hexec : p.tables.exec = Jvm.exec) (hb : c.code = cc) (hml : c.maxLocals = nL) (hown : s.vm.findClass R_K = some m.cls) (hts : ∀ w ∈ c0 :: gG, w.before args s = true) (hV : gV E KK A f s H locs) (hK : va_K (eD E) classes (eT E) s) (hX : kX E A s s.heap) (hAe : A = gA E KK s.heap.size) {Φ : Int32 → KS → Prop} (hM : gMi l y_K_goesOn v_K_goesOn m_K_goesOn E KK [.ref (ea E 0 0)] f Φ) (hsz : ls.size = nL) (hW : (rest.map fun v => v.category).sum ≤ 8) (hdg : decode cc pc = .ok (.invokevirtual 101, 3)) (hfr : (m_K_goesOn).frames + 1 ≤ R.frames) (hlo : 8 + (2 + 11) + (m_K_goesOn).locals ≤ R.locals)
    (kk : ∀ (r : Int32) (u : KS) (H1 : Heap) (locs1 : List Loc), Φ r u → gV E KK A u s H1 locs1 → W p l e R s m args below meth c H1 locs1 0 0 Q (F0 m (pc + 3) ls (.int r :: rest))) : W p l e R s m args below meth c H locs 0 0 Q (F0 m pc ls (.ref (ea E 0 0) :: rest)) :=
  g_goi (g_callV (C := R_K) (cc := cc) (As := []) ⟨hexec, hb, hml, hown, hts⟩ hM (cwV 0 hts (gi_V gm_368 gm_370 gm_4 gm_72 gm_371) rfl rfl rfl (by decide +kernel) ⟨hfr, hlo⟩) hV hK hX hAe (g_recv hK hV kk_0 rfl rfl) rfl hsz rfl hW hdg ⟨Nat.zero_le _, Nat.zero_le _⟩) hV hAe kk
theorem kc_K_K_handOverChildren {nL : Nat} {c0 : Cond} (hexec : p.tables.exec = Jvm.exec) (hb : c.code = cc) (hml : c.maxLocals = nL) (hown : s.vm.findClass R_K = some m.cls) (hts : ∀ w ∈ c0 :: gG, w.before args s = true) (hV : gV E KK A f s H locs) (hK : va_K (eD E) classes (eT E) s) (hX : kX E A s s.heap) (hAe : A = gA E KK s.heap.size) {p1 : Nat} {Φ : KS → Prop} (hM : gMv l y_K_handOverChildren v_K_handOverChildren m_K_handOverChildren E KK [.ref (ea E 0 0), .ref (ea E 1 p1)] f Φ) (hsz : ls.size = nL) (hW : (rest.map fun v => v.category).sum ≤ 8) (hdg : decode cc pc = .ok (.invokevirtual 339, 3)) (hfr : (m_K_handOverChildren).frames + 1 ≤ R.frames) (hlo : 8 + (5 + 11) + (m_K_handOverChildren).locals ≤ R.locals)
    (kk : ∀ (u : KS) (H1 : Heap) (locs1 : List Loc), Φ u → gV E KK A u s H1 locs1 → W p l e R s m args below meth c H1 locs1 0 0 Q (F0 m (pc + 3) ls rest)) : W p l e R s m args below meth c H locs 0 0 Q (F0 m pc ls (.ref (ea E 1 p1) :: .ref (ea E 0 0) :: rest)) :=
  g_gov (g_callV (C := R_K) (cc := cc) (As := [.ref (ea E 1 p1)]) ⟨hexec, hb, hml, hown, hts⟩ hM (cwV 1 hts (gi_V gm_420 gm_422 gm_10 gm_72 gm_423) rfl rfl rfl (by decide +kernel) ⟨hfr, hlo⟩) hV hK hX hAe (g_recv hK hV kk_0 rfl rfl) rfl hsz rfl hW hdg ⟨Nat.zero_le _, Nat.zero_le _⟩) hV hAe kk
theorem kc_K_K_hasChild {nL : Nat} {c0 : Cond} (hexec : p.tables.exec = Jvm.exec) (hb : c.code = cc) (hml : c.maxLocals = nL) (hown : s.vm.findClass R_K = some m.cls) (hts : ∀ w ∈ c0 :: gG, w.before args s = true) (hV : gV E KK A f s H locs) (hK : va_K (eD E) classes (eT E) s) (hX : kX E A s s.heap) (hAe : A = gA E KK s.heap.size) {p1 : Nat} {Φ : Int32 → KS → Prop} (hM : gMi l y_K_hasChild v_K_hasChild m_K_hasChild E KK [.ref (ea E 0 0), .ref (ea E 1 p1)] f Φ) (hsz : ls.size = nL) (hW : (rest.map fun v => v.category).sum ≤ 8) (hdg : decode cc pc = .ok (.invokevirtual 222, 3)) (hfr : (m_K_hasChild).frames + 1 ≤ R.frames) (hlo : 8 + (3 + 11) + (m_K_hasChild).locals ≤ R.locals)
    (kk : ∀ (r : Int32) (u : KS) (H1 : Heap) (locs1 : List Loc), Φ r u → gV E KK A u s H1 locs1 → W p l e R s m args below meth c H1 locs1 0 0 Q (F0 m (pc + 3) ls (.int r :: rest))) : W p l e R s m args below meth c H locs 0 0 Q (F0 m pc ls (.ref (ea E 1 p1) :: .ref (ea E 0 0) :: rest)) :=
  g_goi (g_callV (C := R_K) (cc := cc) (As := [.ref (ea E 1 p1)]) ⟨hexec, hb, hml, hown, hts⟩ hM (cwV 1 hts (gi_V gm_464 gm_466 gm_15 gm_72 gm_467) rfl rfl rfl (by decide +kernel) ⟨hfr, hlo⟩) hV hK hX hAe (g_recv hK hV kk_0 rfl rfl) rfl hsz rfl hW hdg ⟨Nat.zero_le _, Nat.zero_le _⟩) hV hAe kk
theorem kc_K_K_isReadingEnd {nL : Nat} {c0 : Cond} (hexec : p.tables.exec = Jvm.exec) (hb : c.code = cc) (hml : c.maxLocals = nL) (hown : s.vm.findClass R_K = some m.cls) (hts : ∀ w ∈ c0 :: gG, w.before args s = true) (hV : gV E KK A f s H locs) (hK : va_K (eD E) classes (eT E) s) (hX : kX E A s s.heap) (hAe : A = gA E KK s.heap.size) {x0 : Int32} {Φ : Int32 → KS → Prop} (hM : gMi l y_K_isReadingEnd v_K_isReadingEnd m_K_isReadingEnd E KK [.int x0] f Φ) (hsz : ls.size = nL) (hW : (rest.map fun v => v.category).sum ≤ 8) (hdg : decode cc pc = .ok (.invokestatic 247, 3)) (hfr : (m_K_isReadingEnd).frames + 1 ≤ R.frames) (hlo : 8 + (1 + 11) + (m_K_isReadingEnd).locals ≤ R.locals)
    (kk : ∀ (r : Int32) (u : KS) (H1 : Heap) (locs1 : List Loc), Φ r u → gV E KK A u s H1 locs1 → W p l e R s m args below meth c H1 locs1 0 0 Q (F0 m (pc + 3) ls (.int r :: rest))) : W p l e R s m args below meth c H locs 0 0 Q (F0 m pc ls (.int x0 :: rest)) :=
  g_goi (g_callS (cc := cc) (As := [.int x0]) ⟨hexec, hb, hml, hown, hts⟩ hM (va_cwS 1 hts (gi_S gm_461 gm_462 gm_72 gm_463) rfl rfl rfl (by decide +kernel) ⟨hfr, hlo⟩) hV hK hX hAe rfl hsz rfl hW hdg ⟨Nat.zero_le _, Nat.zero_le _⟩) hV hAe kk
theorem kc_K_K_isThere {nL : Nat} {c0 : Cond} (hexec : p.tables.exec = Jvm.exec) (hb : c.code = cc) (hml : c.maxLocals = nL) (hown : s.vm.findClass R_K = some m.cls) (hts : ∀ w ∈ c0 :: gG, w.before args s = true) (hV : gV E KK A f s H locs) (hK : va_K (eD E) classes (eT E) s) (hX : kX E A s s.heap) (hAe : A = gA E KK s.heap.size) {x1 : Int32} {Φ : Int32 → KS → Prop} (hM : gMi l y_K_isThere v_K_isThere m_K_isThere E KK [.ref (ea E 0 0), .int x1] f Φ) (hsz : ls.size = nL) (hW : (rest.map fun v => v.category).sum ≤ 8) (hdg : decode cc pc = .ok (.invokevirtual 153, 3)) (hfr : (m_K_isThere).frames + 1 ≤ R.frames) (hlo : 8 + (2 + 11) + (m_K_isThere).locals ≤ R.locals)
    (kk : ∀ (r : Int32) (u : KS) (H1 : Heap) (locs1 : List Loc), Φ r u → gV E KK A u s H1 locs1 → W p l e R s m args below meth c H1 locs1 0 0 Q (F0 m (pc + 3) ls (.int r :: rest))) : W p l e R s m args below meth c H locs 0 0 Q (F0 m pc ls (.int x1 :: .ref (ea E 0 0) :: rest)) :=
  g_goi (g_callV (C := R_K) (cc := cc) (As := [.int x1]) ⟨hexec, hb, hml, hown, hts⟩ hM (cwV 1 hts (gi_V gm_559 gm_561 gm_29 gm_72 gm_562) rfl rfl rfl (by decide +kernel) ⟨hfr, hlo⟩) hV hK hX hAe (g_recv hK hV kk_0 rfl rfl) rfl hsz rfl hW hdg ⟨Nat.zero_le _, Nat.zero_le _⟩) hV hAe kk
theorem kc_K_K_isWritingEnd {nL : Nat} {c0 : Cond} (hexec : p.tables.exec = Jvm.exec) (hb : c.code = cc) (hml : c.maxLocals = nL) (hown : s.vm.findClass R_K = some m.cls) (hts : ∀ w ∈ c0 :: gG, w.before args s = true) (hV : gV E KK A f s H locs) (hK : va_K (eD E) classes (eT E) s) (hX : kX E A s s.heap) (hAe : A = gA E KK s.heap.size) {x0 : Int32} {Φ : Int32 → KS → Prop} (hM : gMi l y_K_isWritingEnd v_K_isWritingEnd m_K_isWritingEnd E KK [.int x0] f Φ) (hsz : ls.size = nL) (hW : (rest.map fun v => v.category).sum ≤ 8) (hdg : decode cc pc = .ok (.invokestatic 238, 3)) (hfr : (m_K_isWritingEnd).frames + 1 ≤ R.frames) (hlo : 8 + (1 + 11) + (m_K_isWritingEnd).locals ≤ R.locals)
    (kk : ∀ (r : Int32) (u : KS) (H1 : Heap) (locs1 : List Loc), Φ r u → gV E KK A u s H1 locs1 → W p l e R s m args below meth c H1 locs1 0 0 Q (F0 m (pc + 3) ls (.int r :: rest))) : W p l e R s m args below meth c H locs 0 0 Q (F0 m pc ls (.int x0 :: rest)) :=
  g_goi (g_callS (cc := cc) (As := [.int x0]) ⟨hexec, hb, hml, hown, hts⟩ hM (va_cwS 1 hts (gi_S gm_446 gm_447 gm_72 gm_448) rfl rfl rfl (by decide +kernel) ⟨hfr, hlo⟩) hV hK hX hAe rfl hsz rfl hW hdg ⟨Nat.zero_le _, Nat.zero_le _⟩) hV hAe kk
theorem kc_K_K_kill {nL : Nat} {c0 : Cond} (hexec : p.tables.exec = Jvm.exec) (hb : c.code = cc) (hml : c.maxLocals = nL) (hown : s.vm.findClass R_K = some m.cls) (hts : ∀ w ∈ c0 :: gG, w.before args s = true) (hV : gV E KK A f s H locs) (hK : va_K (eD E) classes (eT E) s) (hX : kX E A s s.heap) (hAe : A = gA E KK s.heap.size) {p1 : Nat} {Φ : KS → Prop} (hM : gMv l y_K_kill v_K_kill m_K_kill E KK [.ref (ea E 0 0), .ref (ea E 1 p1)] f Φ) (hsz : ls.size = nL) (hW : (rest.map fun v => v.category).sum ≤ 8) (hdg : decode cc pc = .ok (.invokevirtual 274, 3)) (hfr : (m_K_kill).frames + 1 ≤ R.frames) (hlo : 8 + (3 + 11) + (m_K_kill).locals ≤ R.locals)
    (kk : ∀ (u : KS) (H1 : Heap) (locs1 : List Loc), Φ u → gV E KK A u s H1 locs1 → W p l e R s m args below meth c H1 locs1 0 0 Q (F0 m (pc + 3) ls rest)) : W p l e R s m args below meth c H locs 0 0 Q (F0 m pc ls (.ref (ea E 1 p1) :: .ref (ea E 0 0) :: rest)) :=
  g_gov (g_callV (C := R_K) (cc := cc) (As := [.ref (ea E 1 p1)]) ⟨hexec, hb, hml, hown, hts⟩ hM (cwV 1 hts (gi_V gm_555 gm_557 gm_28 gm_72 gm_558) rfl rfl rfl (by decide +kernel) ⟨hfr, hlo⟩) hV hK hX hAe (g_recv hK hV kk_0 rfl rfl) rfl hsz rfl hW hdg ⟨Nat.zero_le _, Nat.zero_le _⟩) hV hAe kk
theorem kc_K_K_leaveQueue {nL : Nat} {c0 : Cond} (hexec : p.tables.exec = Jvm.exec) (hb : c.code = cc) (hml : c.maxLocals = nL) (hown : s.vm.findClass R_K = some m.cls) (hts : ∀ w ∈ c0 :: gG, w.before args s = true) (hV : gV E KK A f s H locs) (hK : va_K (eD E) classes (eT E) s) (hX : kX E A s s.heap) (hAe : A = gA E KK s.heap.size) {p1 : Nat} {Φ : KS → Prop} (hM : gMv l y_K_leaveQueue v_K_leaveQueue m_K_leaveQueue E KK [.ref (ea E 0 0), .ref (ea E 1 p1)] f Φ) (hsz : ls.size = nL) (hW : (rest.map fun v => v.category).sum ≤ 8) (hdg : decode cc pc = .ok (.invokevirtual 229, 3)) (hfr : (m_K_leaveQueue).frames + 1 ≤ R.frames) (hlo : 8 + (4 + 11) + (m_K_leaveQueue).locals ≤ R.locals)
    (kk : ∀ (u : KS) (H1 : Heap) (locs1 : List Loc), Φ u → gV E KK A u s H1 locs1 → W p l e R s m args below meth c H1 locs1 0 0 Q (F0 m (pc + 3) ls rest)) : W p l e R s m args below meth c H locs 0 0 Q (F0 m pc ls (.ref (ea E 1 p1) :: .ref (ea E 0 0) :: rest)) :=
  g_gov (g_callV (C := R_K) (cc := cc) (As := [.ref (ea E 1 p1)]) ⟨hexec, hb, hml, hown, hts⟩ hM (cwV 1 hts (gi_V gm_405 gm_407 gm_8 gm_72 gm_408) rfl rfl rfl (by decide +kernel) ⟨hfr, hlo⟩) hV hK hX hAe (g_recv hK hV kk_0 rfl rfl) rfl hsz rfl hW hdg ⟨Nat.zero_le _, Nat.zero_le _⟩) hV hAe kk
theorem kc_K_K_longestWaiting {nL : Nat} {c0 : Cond} (hexec : p.tables.exec = Jvm.exec) (hb : c.code = cc) (hml : c.maxLocals = nL) (hown : s.vm.findClass R_K = some m.cls) (hts : ∀ w ∈ c0 :: gG, w.before args s = true) (hV : gV E KK A f s H locs) (hK : va_K (eD E) classes (eT E) s) (hX : kX E A s s.heap) (hAe : A = gA E KK s.heap.size) {x1 : Int32} {Φ : Option Nat → KS → Prop} (hM : gMq l y_K_longestWaiting v_K_longestWaiting m_K_longestWaiting E KK [.ref (ea E 0 0), .int x1] f Φ) (hsz : ls.size = nL) (hW : (rest.map fun v => v.category).sum ≤ 8) (hdg : decode cc pc = .ok (.invokevirtual 342, 3)) (hfr : (m_K_longestWaiting).frames + 1 ≤ R.frames) (hlo : 8 + (5 + 11) + (m_K_longestWaiting).locals ≤ R.locals)
    (kk : ∀ (o : Option Nat) (u : KS) (H1 : Heap) (locs1 : List Loc), (∀ i, o = some i → i < 16) → Φ o u → gV E KK A u s H1 locs1 → W p l e R s m args below meth c H1 locs1 0 0 Q (F0 m (pc + 3) ls (va_rf (Option.map (ea E 1) o) :: rest))) : W p l e R s m args below meth c H locs 0 0 Q (F0 m pc ls (.int x1 :: .ref (ea E 0 0) :: rest)) :=
  g_goq (g_callV (C := R_K) (cc := cc) (As := [.int x1]) ⟨hexec, hb, hml, hown, hts⟩ hM (cwV 1 hts (gi_V gm_225 gm_227 gm_1 gm_72 gm_228) rfl rfl rfl (by decide +kernel) ⟨hfr, hlo⟩) hV hK hX hAe (g_recv hK hV kk_0 rfl rfl) rfl hsz rfl hW hdg ⟨Nat.zero_le _, Nat.zero_le _⟩) hV hAe kk
theorem kc_K_K_makeReady {nL : Nat} {c0 : Cond} (hexec : p.tables.exec = Jvm.exec) (hb : c.code = cc) (hml : c.maxLocals = nL) (hown : s.vm.findClass R_K = some m.cls) (hts : ∀ w ∈ c0 :: gG, w.before args s = true) (hV : gV E KK A f s H locs) (hK : va_K (eD E) classes (eT E) s) (hX : kX E A s s.heap) (hAe : A = gA E KK s.heap.size) {p1 : Nat} {Φ : KS → Prop} (hM : gMv l y_K_makeReady v_K_makeReady m_K_makeReady E KK [.ref (ea E 0 0), .ref (ea E 1 p1)] f Φ) (hsz : ls.size = nL) (hW : (rest.map fun v => v.category).sum ≤ 8) (hdg : decode cc pc = .ok (.invokevirtual 92, 3)) (hfr : (m_K_makeReady).frames + 1 ≤ R.frames) (hlo : 8 + (2 + 11) + (m_K_makeReady).locals ≤ R.locals)
    (kk : ∀ (u : KS) (H1 : Heap) (locs1 : List Loc), Φ u → gV E KK A u s H1 locs1 → W p l e R s m args below meth c H1 locs1 0 0 Q (F0 m (pc + 3) ls rest)) : W p l e R s m args below meth c H locs 0 0 Q (F0 m pc ls (.ref (ea E 1 p1) :: .ref (ea E 0 0) :: rest)) :=
  g_gov (g_callV (C := R_K) (cc := cc) (As := [.ref (ea E 1 p1)]) ⟨hexec, hb, hml, hown, hts⟩ hM (cwV 1 hts (gi_V gm_229 gm_231 gm_2 gm_72 gm_232) rfl rfl rfl (by decide +kernel) ⟨hfr, hlo⟩) hV hK hX hAe (g_recv hK hV kk_0 rfl rfl) rfl hsz rfl hW hdg ⟨Nat.zero_le _, Nat.zero_le _⟩) hV hAe kk
theorem kc_K_K_mustWait {nL : Nat} {c0 : Cond} (hexec : p.tables.exec = Jvm.exec) (hb : c.code = cc) (hml : c.maxLocals = nL) (hown : s.vm.findClass R_K = some m.cls) (hts : ∀ w ∈ c0 :: gG, w.before args s = true) (hV : gV E KK A f s H locs) (hK : va_K (eD E) classes (eT E) s) (hX : kX E A s s.heap) (hAe : A = gA E KK s.heap.size) {p1 : Nat} {Φ : Int32 → KS → Prop} (hM : gMi l y_K_mustWait v_K_mustWait m_K_mustWait E KK [.ref (ea E 0 0), .ref (ea E 1 p1)] f Φ) (hsz : ls.size = nL) (hW : (rest.map fun v => v.category).sum ≤ 8) (hdg : decode cc pc = .ok (.invokevirtual 191, 3)) (hfr : (m_K_mustWait).frames + 1 ≤ R.frames) (hlo : 8 + (2 + 11) + (m_K_mustWait).locals ≤ R.locals)
    (kk : ∀ (r : Int32) (u : KS) (H1 : Heap) (locs1 : List Loc), Φ r u → gV E KK A u s H1 locs1 → W p l e R s m args below meth c H1 locs1 0 0 Q (F0 m (pc + 3) ls (.int r :: rest))) : W p l e R s m args below meth c H locs 0 0 Q (F0 m pc ls (.ref (ea E 1 p1) :: .ref (ea E 0 0) :: rest)) :=
  g_goi (g_callV (C := R_K) (cc := cc) (As := [.ref (ea E 1 p1)]) ⟨hexec, hb, hml, hown, hts⟩ hM (cwV 1 hts (gi_V gm_432 gm_434 gm_12 gm_72 gm_435) rfl rfl rfl (by decide +kernel) ⟨hfr, hlo⟩) hV hK hX hAe (g_recv hK hV kk_0 rfl rfl) rfl hsz rfl hW hdg ⟨Nat.zero_le _, Nat.zero_le _⟩) hV hAe kk
theorem kc_K_K_openDescriptor {nL : Nat} {c0 : Cond} (hexec : p.tables.exec = Jvm.exec) (hb : c.code = cc) (hml : c.maxLocals = nL) (hown : s.vm.findClass R_K = some m.cls) (hts : ∀ w ∈ c0 :: gG, w.before args s = true) (hV : gV E KK A f s H locs) (hK : va_K (eD E) classes (eT E) s) (hX : kX E A s s.heap) (hAe : A = gA E KK s.heap.size) {p1 : Nat} {x2 : Int32} {Φ : Int32 → KS → Prop} (hM : gMi l y_K_openDescriptor v_K_openDescriptor m_K_openDescriptor E KK [.ref (ea E 0 0), .ref (ea E 1 p1), .int x2] f Φ) (hsz : ls.size = nL) (hW : (rest.map fun v => v.category).sum ≤ 8) (hdg : decode cc pc = .ok (.invokevirtual 325, 3)) (hfr : (m_K_openDescriptor).frames + 1 ≤ R.frames) (hlo : 8 + (4 + 11) + (m_K_openDescriptor).locals ≤ R.locals)
    (kk : ∀ (r : Int32) (u : KS) (H1 : Heap) (locs1 : List Loc), Φ r u → gV E KK A u s H1 locs1 → W p l e R s m args below meth c H1 locs1 0 0 Q (F0 m (pc + 3) ls (.int r :: rest))) : W p l e R s m args below meth c H locs 0 0 Q (F0 m pc ls (.int x2 :: .ref (ea E 1 p1) :: .ref (ea E 0 0) :: rest)) :=
  g_goi (g_callV (C := R_K) (cc := cc) (As := [.ref (ea E 1 p1), .int x2]) ⟨hexec, hb, hml, hown, hts⟩ hM (cwV 2 hts (gi_V gm_585 gm_587 gm_32 gm_72 gm_588) rfl rfl rfl (by decide +kernel) ⟨hfr, hlo⟩) hV hK hX hAe (g_recv hK hV kk_0 rfl rfl) rfl hsz rfl hW hdg ⟨Nat.zero_le _, Nat.zero_le _⟩) hV hAe kk
theorem kc_K_K_openPipe {nL : Nat} {c0 : Cond} (hexec : p.tables.exec = Jvm.exec) (hb : c.code = cc) (hml : c.maxLocals = nL) (hown : s.vm.findClass R_K = some m.cls) (hts : ∀ w ∈ c0 :: gG, w.before args s = true) (hV : gV E KK A f s H locs) (hK : va_K (eD E) classes (eT E) s) (hX : kX E A s s.heap) (hAe : A = gA E KK s.heap.size) {p1 : Nat} {Φ : KS → Prop} (hM : gMv l y_K_openPipe v_K_openPipe m_K_openPipe E KK [.ref (ea E 0 0), .ref (ea E 1 p1)] f Φ) (hsz : ls.size = nL) (hW : (rest.map fun v => v.category).sum ≤ 8) (hdg : decode cc pc = .ok (.invokevirtual 277, 3)) (hfr : (m_K_openPipe).frames + 1 ≤ R.frames) (hlo : 8 + (5 + 11) + (m_K_openPipe).locals ≤ R.locals)
    (kk : ∀ (u : KS) (H1 : Heap) (locs1 : List Loc), Φ u → gV E KK A u s H1 locs1 → W p l e R s m args below meth c H1 locs1 0 0 Q (F0 m (pc + 3) ls rest)) : W p l e R s m args below meth c H locs 0 0 Q (F0 m pc ls (.ref (ea E 1 p1) :: .ref (ea E 0 0) :: rest)) :=
  g_gov (g_callV (C := R_K) (cc := cc) (As := [.ref (ea E 1 p1)]) ⟨hexec, hb, hml, hown, hts⟩ hM (cwV 1 hts (gi_V gm_563 gm_565 gm_30 gm_72 gm_566) rfl rfl rfl (by decide +kernel) ⟨hfr, hlo⟩) hV hK hX hAe (g_recv hK hV kk_0 rfl rfl) rfl hsz rfl hW hdg ⟨Nat.zero_le _, Nat.zero_le _⟩) hV hAe kk
theorem kc_K_K_otherEnd {nL : Nat} {c0 : Cond} (hexec : p.tables.exec = Jvm.exec) (hb : c.code = cc) (hml : c.maxLocals = nL) (hown : s.vm.findClass R_K = some m.cls) (hts : ∀ w ∈ c0 :: gG, w.before args s = true) (hV : gV E KK A f s H locs) (hK : va_K (eD E) classes (eT E) s) (hX : kX E A s s.heap) (hAe : A = gA E KK s.heap.size) {x0 : Int32} {Φ : Int32 → KS → Prop} (hM : gMi l y_K_otherEnd v_K_otherEnd m_K_otherEnd E KK [.int x0] f Φ) (hsz : ls.size = nL) (hW : (rest.map fun v => v.category).sum ≤ 8) (hdg : decode cc pc = .ok (.invokestatic 241, 3)) (hfr : (m_K_otherEnd).frames + 1 ≤ R.frames) (hlo : 8 + (1 + 11) + (m_K_otherEnd).locals ≤ R.locals)
    (kk : ∀ (r : Int32) (u : KS) (H1 : Heap) (locs1 : List Loc), Φ r u → gV E KK A u s H1 locs1 → W p l e R s m args below meth c H1 locs1 0 0 Q (F0 m (pc + 3) ls (.int r :: rest))) : W p l e R s m args below meth c H locs 0 0 Q (F0 m pc ls (.int x0 :: rest)) :=
  g_goi (g_callS (cc := cc) (As := [.int x0]) ⟨hexec, hb, hml, hown, hts⟩ hM (va_cwS 1 hts (gi_S gm_413 gm_414 gm_72 gm_415) rfl rfl rfl (by decide +kernel) ⟨hfr, hlo⟩) hV hK hX hAe rfl hsz rfl hW hdg ⟨Nat.zero_le _, Nat.zero_le _⟩) hV hAe kk
theorem kc_K_K_perform {nL : Nat} {c0 : Cond} (hexec : p.tables.exec = Jvm.exec) (hb : c.code = cc) (hml : c.maxLocals = nL) (hown : s.vm.findClass R_K = some m.cls) (hts : ∀ w ∈ c0 :: gG, w.before args s = true) (hV : gV E KK A f s H locs) (hK : va_K (eD E) classes (eT E) s) (hX : kX E A s s.heap) (hAe : A = gA E KK s.heap.size) {p1 : Nat} {Φ : KS → Prop} (hM : gMv l y_K_perform v_K_perform m_K_perform E KK [.ref (ea E 0 0), .ref (ea E 1 p1)] f Φ) (hsz : ls.size = nL) (hW : (rest.map fun v => v.category).sum ≤ 8) (hdg : decode cc pc = .ok (.invokevirtual 201, 3)) (hfr : (m_K_perform).frames + 1 ≤ R.frames) (hlo : 8 + (4 + 11) + (m_K_perform).locals ≤ R.locals)
    (kk : ∀ (u : KS) (H1 : Heap) (locs1 : List Loc), Φ u → gV E KK A u s H1 locs1 → W p l e R s m args below meth c H1 locs1 0 0 Q (F0 m (pc + 3) ls rest)) : W p l e R s m args below meth c H locs 0 0 Q (F0 m pc ls (.ref (ea E 1 p1) :: .ref (ea E 0 0) :: rest)) :=
  g_gov (g_callV (C := R_K) (cc := cc) (As := [.ref (ea E 1 p1)]) ⟨hexec, hb, hml, hown, hts⟩ hM (cwV 1 hts (gi_V gm_478 gm_480 gm_17 gm_72 gm_481) rfl rfl rfl (by decide +kernel) ⟨hfr, hlo⟩) hV hK hX hAe (g_recv hK hV kk_0 rfl rfl) rfl hsz rfl hW hdg ⟨Nat.zero_le _, Nat.zero_le _⟩) hV hAe kk
theorem kc_K_K_print {nL : Nat} {c0 : Cond} (hexec : p.tables.exec = Jvm.exec) (hb : c.code = cc) (hml : c.maxLocals = nL) (hown : s.vm.findClass R_K = some m.cls) (hts : ∀ w ∈ c0 :: gG, w.before args s = true) (hV : gV E KK A f s H locs) (hK : va_K (eD E) classes (eT E) s) (hX : kX E A s s.heap) (hAe : A = gA E KK s.heap.size) {x1 : Int32} {Φ : KS → Prop} (hM : gMv l y_K_print v_K_print m_K_print E KK [.ref (ea E 0 0), .int x1] f Φ) (hsz : ls.size = nL) (hW : (rest.map fun v => v.category).sum ≤ 8) (hdg : decode cc pc = .ok (.invokevirtual 293, 3)) (hfr : (m_K_print).frames + 1 ≤ R.frames) (hlo : 8 + (2 + 11) + (m_K_print).locals ≤ R.locals)
    (kk : ∀ (u : KS) (H1 : Heap) (locs1 : List Loc), Φ u → gV E KK A u s H1 locs1 → W p l e R s m args below meth c H1 locs1 0 0 Q (F0 m (pc + 3) ls rest)) : W p l e R s m args below meth c H locs 0 0 Q (F0 m pc ls (.int x1 :: .ref (ea E 0 0) :: rest)) :=
  g_gov (g_callV (C := R_K) (cc := cc) (As := [.int x1]) ⟨hexec, hb, hml, hown, hts⟩ hM (cwV 1 hts (gi_V gm_499 gm_501 gm_20 gm_72 gm_502) rfl rfl rfl (by decide +kernel) ⟨hfr, hlo⟩) hV hK hX hAe (g_recv hK hV kk_0 rfl rfl) rfl hsz rfl hW hdg ⟨Nat.zero_le _, Nat.zero_le _⟩) hV hAe kk
theorem kc_K_K_pushNext {nL : Nat} {c0 : Cond} (hexec : p.tables.exec = Jvm.exec) (hb : c.code = cc) (hml : c.maxLocals = nL) (hown : s.vm.findClass R_K = some m.cls) (hts : ∀ w ∈ c0 :: gG, w.before args s = true) (hV : gV E KK A f s H locs) (hK : va_K (eD E) classes (eT E) s) (hX : kX E A s s.heap) (hAe : A = gA E KK s.heap.size) {p1 : Nat} {q2 : Nat} {Φ : Int32 → KS → Prop} (hM : gMi l y_K_pushNext v_K_pushNext m_K_pushNext E KK [.ref (ea E 0 0), .ref (ea E 1 p1), .ref (ea E 5 q2)] f Φ) (hsz : ls.size = nL) (hW : (rest.map fun v => v.category).sum ≤ 8) (hdg : decode cc pc = .ok (.invokevirtual 299, 3)) (hfr : (m_K_pushNext).frames + 1 ≤ R.frames) (hlo : 8 + (3 + 11) + (m_K_pushNext).locals ≤ R.locals)
    (kk : ∀ (r : Int32) (u : KS) (H1 : Heap) (locs1 : List Loc), Φ r u → gV E KK A u s H1 locs1 → W p l e R s m args below meth c H1 locs1 0 0 Q (F0 m (pc + 3) ls (.int r :: rest))) : W p l e R s m args below meth c H locs 0 0 Q (F0 m pc ls (.ref (ea E 5 q2) :: .ref (ea E 1 p1) :: .ref (ea E 0 0) :: rest)) :=
  g_goi (g_callV (C := R_K) (cc := cc) (As := [.ref (ea E 1 p1), .ref (ea E 5 q2)]) ⟨hexec, hb, hml, hown, hts⟩ hM (cwV 2 hts (gi_V gm_523 gm_525 gm_23 gm_72 gm_526) rfl rfl rfl (by decide +kernel) ⟨hfr, hlo⟩) hV hK hX hAe (g_recv hK hV kk_0 rfl rfl) rfl hsz rfl hW hdg ⟨Nat.zero_le _, Nat.zero_le _⟩) hV hAe kk
theorem kc_K_K_read {nL : Nat} {c0 : Cond} (hexec : p.tables.exec = Jvm.exec) (hb : c.code = cc) (hml : c.maxLocals = nL) (hown : s.vm.findClass R_K = some m.cls) (hts : ∀ w ∈ c0 :: gG, w.before args s = true) (hV : gV E KK A f s H locs) (hK : va_K (eD E) classes (eT E) s) (hX : kX E A s s.heap) (hAe : A = gA E KK s.heap.size) {p1 : Nat} {Φ : KS → Prop} (hM : gMv l y_K_read v_K_read m_K_read E KK [.ref (ea E 0 0), .ref (ea E 1 p1)] f Φ) (hsz : ls.size = nL) (hW : (rest.map fun v => v.category).sum ≤ 8) (hdg : decode cc pc = .ok (.invokevirtual 265, 3)) (hfr : (m_K_read).frames + 1 ≤ R.frames) (hlo : 8 + (3 + 11) + (m_K_read).locals ≤ R.locals)
    (kk : ∀ (u : KS) (H1 : Heap) (locs1 : List Loc), Φ u → gV E KK A u s H1 locs1 → W p l e R s m args below meth c H1 locs1 0 0 Q (F0 m (pc + 3) ls rest)) : W p l e R s m args below meth c H locs 0 0 Q (F0 m pc ls (.ref (ea E 1 p1) :: .ref (ea E 0 0) :: rest)) :=
  g_gov (g_callV (C := R_K) (cc := cc) (As := [.ref (ea E 1 p1)]) ⟨hexec, hb, hml, hown, hts⟩ hM (cwV 1 hts (gi_V gm_519 gm_521 gm_22 gm_72 gm_522) rfl rfl rfl (by decide +kernel) ⟨hfr, hlo⟩) hV hK hX hAe (g_recv hK hV kk_0 rfl rfl) rfl hsz rfl hW hdg ⟨Nat.zero_le _, Nat.zero_le _⟩) hV hAe kk
theorem kc_K_K_readBlocks {nL : Nat} {c0 : Cond} (hexec : p.tables.exec = Jvm.exec) (hb : c.code = cc) (hml : c.maxLocals = nL) (hown : s.vm.findClass R_K = some m.cls) (hts : ∀ w ∈ c0 :: gG, w.before args s = true) (hV : gV E KK A f s H locs) (hK : va_K (eD E) classes (eT E) s) (hX : kX E A s s.heap) (hAe : A = gA E KK s.heap.size) {x1 : Int32} {Φ : Int32 → KS → Prop} (hM : gMi l y_K_readBlocks v_K_readBlocks m_K_readBlocks E KK [.ref (ea E 0 0), .int x1] f Φ) (hsz : ls.size = nL) (hW : (rest.map fun v => v.category).sum ≤ 8) (hdg : decode cc pc = .ok (.invokevirtual 219, 3)) (hfr : (m_K_readBlocks).frames + 1 ≤ R.frames) (hlo : 8 + (2 + 11) + (m_K_readBlocks).locals ≤ R.locals)
    (kk : ∀ (r : Int32) (u : KS) (H1 : Heap) (locs1 : List Loc), Φ r u → gV E KK A u s H1 locs1 → W p l e R s m args below meth c H1 locs1 0 0 Q (F0 m (pc + 3) ls (.int r :: rest))) : W p l e R s m args below meth c H locs 0 0 Q (F0 m pc ls (.int x1 :: .ref (ea E 0 0) :: rest)) :=
  g_goi (g_callV (C := R_K) (cc := cc) (As := [.int x1]) ⟨hexec, hb, hml, hown, hts⟩ hM (cwV 1 hts (gi_V gm_453 gm_455 gm_14 gm_72 gm_456) rfl rfl rfl (by decide +kernel) ⟨hfr, hlo⟩) hV hK hX hAe (g_recv hK hV kk_0 rfl rfl) rfl hsz rfl hW hdg ⟨Nat.zero_le _, Nat.zero_le _⟩) hV hAe kk
theorem kc_K_K_sleep {nL : Nat} {c0 : Cond} (hexec : p.tables.exec = Jvm.exec) (hb : c.code = cc) (hml : c.maxLocals = nL) (hown : s.vm.findClass R_K = some m.cls) (hts : ∀ w ∈ c0 :: gG, w.before args s = true) (hV : gV E KK A f s H locs) (hK : va_K (eD E) classes (eT E) s) (hX : kX E A s s.heap) (hAe : A = gA E KK s.heap.size) {p1 : Nat} {Φ : KS → Prop} (hM : gMv l y_K_sleep v_K_sleep m_K_sleep E KK [.ref (ea E 0 0), .ref (ea E 1 p1)] f Φ) (hsz : ls.size = nL) (hW : (rest.map fun v => v.category).sum ≤ 8) (hdg : decode cc pc = .ok (.invokevirtual 286, 3)) (hfr : (m_K_sleep).frames + 1 ≤ R.frames) (hlo : 8 + (3 + 11) + (m_K_sleep).locals ≤ R.locals)
    (kk : ∀ (u : KS) (H1 : Heap) (locs1 : List Loc), Φ u → gV E KK A u s H1 locs1 → W p l e R s m args below meth c H1 locs1 0 0 Q (F0 m (pc + 3) ls rest)) : W p l e R s m args below meth c H locs 0 0 Q (F0 m pc ls (.ref (ea E 1 p1) :: .ref (ea E 0 0) :: rest)) :=
  g_gov (g_callV (C := R_K) (cc := cc) (As := [.ref (ea E 1 p1)]) ⟨hexec, hb, hml, hown, hts⟩ hM (cwV 1 hts (gi_V gm_601 gm_603 gm_35 gm_72 gm_604) rfl rfl rfl (by decide +kernel) ⟨hfr, hlo⟩) hV hK hX hAe (g_recv hK hV kk_0 rfl rfl) rfl hsz rfl hW hdg ⟨Nat.zero_le _, Nat.zero_le _⟩) hV hAe kk
theorem kc_K_K_step {nL : Nat} {c0 : Cond} (hexec : p.tables.exec = Jvm.exec) (hb : c.code = cc) (hml : c.maxLocals = nL) (hown : s.vm.findClass R_K = some m.cls) (hts : ∀ w ∈ c0 :: gG, w.before args s = true) (hV : gV E KK A f s H locs) (hK : va_K (eD E) classes (eT E) s) (hX : kX E A s s.heap) (hAe : A = gA E KK s.heap.size) {Φ : KS → Prop} (hM : gMv l y_K_step v_K_step m_K_step E KK [.ref (ea E 0 0)] f Φ) (hsz : ls.size = nL) (hW : (rest.map fun v => v.category).sum ≤ 8) (hdg : decode cc pc = .ok (.invokevirtual 105, 3)) (hfr : (m_K_step).frames + 1 ≤ R.frames) (hlo : 8 + (3 + 11) + (m_K_step).locals ≤ R.locals)
    (kk : ∀ (u : KS) (H1 : Heap) (locs1 : List Loc), Φ u → gV E KK A u s H1 locs1 → W p l e R s m args below meth c H1 locs1 0 0 Q (F0 m (pc + 3) ls rest)) : W p l e R s m args below meth c H locs 0 0 Q (F0 m pc ls (.ref (ea E 0 0) :: rest)) :=
  g_gov (g_callV (C := R_K) (cc := cc) (As := []) ⟨hexec, hb, hml, hown, hts⟩ hM (cwV 0 hts (gi_V gm_372 gm_374 gm_5 gm_72 gm_375) rfl rfl rfl (by decide +kernel) ⟨hfr, hlo⟩) hV hK hX hAe (g_recv hK hV kk_0 rfl rfl) rfl hsz rfl hW hdg ⟨Nat.zero_le _, Nat.zero_le _⟩) hV hAe kk
theorem kc_K_K_takeEndedChild {nL : Nat} {c0 : Cond} (hexec : p.tables.exec = Jvm.exec) (hb : c.code = cc) (hml : c.maxLocals = nL) (hown : s.vm.findClass R_K = some m.cls) (hts : ∀ w ∈ c0 :: gG, w.before args s = true) (hV : gV E KK A f s H locs) (hK : va_K (eD E) classes (eT E) s) (hX : kX E A s s.heap) (hAe : A = gA E KK s.heap.size) {p1 : Nat} {Φ : KS → Prop} (hM : gMv l y_K_takeEndedChild v_K_takeEndedChild m_K_takeEndedChild E KK [.ref (ea E 0 0), .ref (ea E 1 p1)] f Φ) (hsz : ls.size = nL) (hW : (rest.map fun v => v.category).sum ≤ 8) (hdg : decode cc pc = .ok (.invokevirtual 271, 3)) (hfr : (m_K_takeEndedChild).frames + 1 ≤ R.frames) (hlo : 8 + (3 + 11) + (m_K_takeEndedChild).locals ≤ R.locals)
    (kk : ∀ (u : KS) (H1 : Heap) (locs1 : List Loc), Φ u → gV E KK A u s H1 locs1 → W p l e R s m args below meth c H1 locs1 0 0 Q (F0 m (pc + 3) ls rest)) : W p l e R s m args below meth c H locs 0 0 Q (F0 m pc ls (.ref (ea E 1 p1) :: .ref (ea E 0 0) :: rest)) :=
  g_gov (g_callV (C := R_K) (cc := cc) (As := [.ref (ea E 1 p1)]) ⟨hexec, hb, hml, hown, hts⟩ hM (cwV 1 hts (gi_V gm_551 gm_553 gm_27 gm_72 gm_554) rfl rfl rfl (by decide +kernel) ⟨hfr, hlo⟩) hV hK hX hAe (g_recv hK hV kk_0 rfl rfl) rfl hsz rfl hW hdg ⟨Nat.zero_le _, Nat.zero_le _⟩) hV hAe kk
theorem kc_K_K_wakeAll {nL : Nat} {c0 : Cond} (hexec : p.tables.exec = Jvm.exec) (hb : c.code = cc) (hml : c.maxLocals = nL) (hown : s.vm.findClass R_K = some m.cls) (hts : ∀ w ∈ c0 :: gG, w.before args s = true) (hV : gV E KK A f s H locs) (hK : va_K (eD E) classes (eT E) s) (hX : kX E A s s.heap) (hAe : A = gA E KK s.heap.size) {x1 : Int32} {Φ : KS → Prop} (hM : gMv l y_K_wakeAll v_K_wakeAll m_K_wakeAll E KK [.ref (ea E 0 0), .int x1] f Φ) (hsz : ls.size = nL) (hW : (rest.map fun v => v.category).sum ≤ 8) (hdg : decode cc pc = .ok (.invokevirtual 122, 3)) (hfr : (m_K_wakeAll).frames + 1 ≤ R.frames) (hlo : 8 + (4 + 11) + (m_K_wakeAll).locals ≤ R.locals)
    (kk : ∀ (u : KS) (H1 : Heap) (locs1 : List Loc), Φ u → gV E KK A u s H1 locs1 → W p l e R s m args below meth c H1 locs1 0 0 Q (F0 m (pc + 3) ls rest)) : W p l e R s m args below meth c H locs 0 0 Q (F0 m pc ls (.int x1 :: .ref (ea E 0 0) :: rest)) :=
  g_gov (g_callV (C := R_K) (cc := cc) (As := [.int x1]) ⟨hexec, hb, hml, hown, hts⟩ hM (cwV 1 hts (gi_V gm_221 gm_223 gm_0 gm_72 gm_224) rfl rfl rfl (by decide +kernel) ⟨hfr, hlo⟩) hV hK hX hAe (g_recv hK hV kk_0 rfl rfl) rfl hsz rfl hW hdg ⟨Nat.zero_le _, Nat.zero_le _⟩) hV hAe kk
theorem kc_K_K_wakeFirst {nL : Nat} {c0 : Cond} (hexec : p.tables.exec = Jvm.exec) (hb : c.code = cc) (hml : c.maxLocals = nL) (hown : s.vm.findClass R_K = some m.cls) (hts : ∀ w ∈ c0 :: gG, w.before args s = true) (hV : gV E KK A f s H locs) (hK : va_K (eD E) classes (eT E) s) (hX : kX E A s s.heap) (hAe : A = gA E KK s.heap.size) {x1 : Int32} {Φ : KS → Prop} (hM : gMv l y_K_wakeFirst v_K_wakeFirst m_K_wakeFirst E KK [.ref (ea E 0 0), .int x1] f Φ) (hsz : ls.size = nL) (hW : (rest.map fun v => v.category).sum ≤ 8) (hdg : decode cc pc = .ok (.invokevirtual 116, 3)) (hfr : (m_K_wakeFirst).frames + 1 ≤ R.frames) (hlo : 8 + (3 + 11) + (m_K_wakeFirst).locals ≤ R.locals)
    (kk : ∀ (u : KS) (H1 : Heap) (locs1 : List Loc), Φ u → gV E KK A u s H1 locs1 → W p l e R s m args below meth c H1 locs1 0 0 Q (F0 m (pc + 3) ls rest)) : W p l e R s m args below meth c H locs 0 0 Q (F0 m pc ls (.int x1 :: .ref (ea E 0 0) :: rest)) :=
  g_gov (g_callV (C := R_K) (cc := cc) (As := [.int x1]) ⟨hexec, hb, hml, hown, hts⟩ hM (cwV 1 hts (gi_V gm_515 gm_517 gm_21 gm_72 gm_518) rfl rfl rfl (by decide +kernel) ⟨hfr, hlo⟩) hV hK hX hAe (g_recv hK hV kk_0 rfl rfl) rfl hsz rfl hW hdg ⟨Nat.zero_le _, Nat.zero_le _⟩) hV hAe kk
theorem kc_K_K_wakeSleepers {nL : Nat} {c0 : Cond} (hexec : p.tables.exec = Jvm.exec) (hb : c.code = cc) (hml : c.maxLocals = nL) (hown : s.vm.findClass R_K = some m.cls) (hts : ∀ w ∈ c0 :: gG, w.before args s = true) (hV : gV E KK A f s H locs) (hK : va_K (eD E) classes (eT E) s) (hX : kX E A s s.heap) (hAe : A = gA E KK s.heap.size) {Φ : KS → Prop} (hM : gMv l y_K_wakeSleepers v_K_wakeSleepers m_K_wakeSleepers E KK [.ref (ea E 0 0)] f Φ) (hsz : ls.size = nL) (hW : (rest.map fun v => v.category).sum ≤ 8) (hdg : decode cc pc = .ok (.invokevirtual 181, 3)) (hfr : (m_K_wakeSleepers).frames + 1 ≤ R.frames) (hlo : 8 + (2 + 11) + (m_K_wakeSleepers).locals ≤ R.locals)
    (kk : ∀ (u : KS) (H1 : Heap) (locs1 : List Loc), Φ u → gV E KK A u s H1 locs1 → W p l e R s m args below meth c H1 locs1 0 0 Q (F0 m (pc + 3) ls rest)) : W p l e R s m args below meth c H locs 0 0 Q (F0 m pc ls (.ref (ea E 0 0) :: rest)) :=
  g_gov (g_callV (C := R_K) (cc := cc) (As := []) ⟨hexec, hb, hml, hown, hts⟩ hM (cwV 0 hts (gi_V gm_376 gm_378 gm_6 gm_72 gm_379) rfl rfl rfl (by decide +kernel) ⟨hfr, hlo⟩) hV hK hX hAe (g_recv hK hV kk_0 rfl rfl) rfl hsz rfl hW hdg ⟨Nat.zero_le _, Nat.zero_le _⟩) hV hAe kk
theorem kc_K_K_write {nL : Nat} {c0 : Cond} (hexec : p.tables.exec = Jvm.exec) (hb : c.code = cc) (hml : c.maxLocals = nL) (hown : s.vm.findClass R_K = some m.cls) (hts : ∀ w ∈ c0 :: gG, w.before args s = true) (hV : gV E KK A f s H locs) (hK : va_K (eD E) classes (eT E) s) (hX : kX E A s s.heap) (hAe : A = gA E KK s.heap.size) {p1 : Nat} {Φ : KS → Prop} (hM : gMv l y_K_write v_K_write m_K_write E KK [.ref (ea E 0 0), .ref (ea E 1 p1)] f Φ) (hsz : ls.size = nL) (hW : (rest.map fun v => v.category).sum ≤ 8) (hdg : decode cc pc = .ok (.invokevirtual 262, 3)) (hfr : (m_K_write).frames + 1 ≤ R.frames) (hlo : 8 + (4 + 11) + (m_K_write).locals ≤ R.locals)
    (kk : ∀ (u : KS) (H1 : Heap) (locs1 : List Loc), Φ u → gV E KK A u s H1 locs1 → W p l e R s m args below meth c H1 locs1 0 0 Q (F0 m (pc + 3) ls rest)) : W p l e R s m args below meth c H locs 0 0 Q (F0 m pc ls (.ref (ea E 1 p1) :: .ref (ea E 0 0) :: rest)) :=
  g_gov (g_callV (C := R_K) (cc := cc) (As := [.ref (ea E 1 p1)]) ⟨hexec, hb, hml, hown, hts⟩ hM (cwV 1 hts (gi_V gm_495 gm_497 gm_19 gm_72 gm_498) rfl rfl rfl (by decide +kernel) ⟨hfr, hlo⟩) hV hK hX hAe (g_recv hK hV kk_0 rfl rfl) rfl hsz rfl hW hdg ⟨Nat.zero_le _, Nat.zero_le _⟩) hV hAe kk
theorem kc_K_K_writeBlocks {nL : Nat} {c0 : Cond} (hexec : p.tables.exec = Jvm.exec) (hb : c.code = cc) (hml : c.maxLocals = nL) (hown : s.vm.findClass R_K = some m.cls) (hts : ∀ w ∈ c0 :: gG, w.before args s = true) (hV : gV E KK A f s H locs) (hK : va_K (eD E) classes (eT E) s) (hX : kX E A s s.heap) (hAe : A = gA E KK s.heap.size) {x1 : Int32} {Φ : Int32 → KS → Prop} (hM : gMi l y_K_writeBlocks v_K_writeBlocks m_K_writeBlocks E KK [.ref (ea E 0 0), .int x1] f Φ) (hsz : ls.size = nL) (hW : (rest.map fun v => v.category).sum ≤ 8) (hdg : decode cc pc = .ok (.invokevirtual 216, 3)) (hfr : (m_K_writeBlocks).frames + 1 ≤ R.frames) (hlo : 8 + (2 + 11) + (m_K_writeBlocks).locals ≤ R.locals)
    (kk : ∀ (r : Int32) (u : KS) (H1 : Heap) (locs1 : List Loc), Φ r u → gV E KK A u s H1 locs1 → W p l e R s m args below meth c H1 locs1 0 0 Q (F0 m (pc + 3) ls (.int r :: rest))) : W p l e R s m args below meth c H locs 0 0 Q (F0 m pc ls (.int x1 :: .ref (ea E 0 0) :: rest)) :=
  g_goi (g_callV (C := R_K) (cc := cc) (As := [.int x1]) ⟨hexec, hb, hml, hown, hts⟩ hM (cwV 1 hts (gi_V gm_442 gm_444 gm_13 gm_72 gm_445) rfl rfl rfl (by decide +kernel) ⟨hfr, hlo⟩) hV hK hX hAe (g_recv hK hV kk_0 rfl rfl) rfl hsz rfl hW hdg ⟨Nat.zero_le _, Nat.zero_le _⟩) hV hAe kk
theorem kc_K_P_compute {nL : Nat} {c0 : Cond} (hexec : p.tables.exec = Jvm.exec) (hb : c.code = cc) (hml : c.maxLocals = nL) (hown : s.vm.findClass R_K = some m.cls) (hts : ∀ w ∈ c0 :: gG, w.before args s = true) (hV : gV E KK A f s H locs) (hK : va_K (eD E) classes (eT E) s) (hX : kX E A s s.heap) (hAe : A = gA E KK s.heap.size) {i : Nat} {x1 : Int32} {x2 : Int32} {Φ : KS → Prop} (hM : gMv l y_P_compute v_P_compute m_P_compute E KK [.ref (ea E 1 i), .int x1, .int x2] f Φ) (hi0 : i < 16) (hsz : ls.size = nL) (hW : (rest.map fun v => v.category).sum ≤ 8) (hdg : decode cc pc = .ok (.invokevirtual 289, 3)) (hfr : (m_P_compute).frames + 1 ≤ R.frames) (hlo : 8 + (3 + 11) + (m_P_compute).locals ≤ R.locals)
    (kk : ∀ (u : KS) (H1 : Heap) (locs1 : List Loc), Φ u → gV E KK A u s H1 locs1 → W p l e R s m args below meth c H1 locs1 0 0 Q (F0 m (pc + 3) ls rest)) : W p l e R s m args below meth c H locs 0 0 Q (F0 m pc ls (.int x2 :: .int x1 :: .ref (ea E 1 i) :: rest)) :=
  g_gov (g_callV (C := R_P) (cc := cc) (As := [.int x1, .int x2]) ⟨hexec, hb, hml, hown, hts⟩ hM (cwV 2 hts (gi_V gm_606 gm_607 gm_608 gm_75 gm_609) rfl rfl rfl (by decide +kernel) ⟨hfr, hlo⟩) hV hK hX hAe (g_recv hK hV (kk_1 _ hi0) rfl rfl) rfl hsz rfl hW hdg ⟨Nat.zero_le _, Nat.zero_le _⟩) hV hAe kk
theorem kc_K_P_copy {nL : Nat} {c0 : Cond} (hexec : p.tables.exec = Jvm.exec) (hb : c.code = cc) (hml : c.maxLocals = nL) (hown : s.vm.findClass R_K = some m.cls) (hts : ∀ w ∈ c0 :: gG, w.before args s = true) (hV : gV E KK A f s H locs) (hK : va_K (eD E) classes (eT E) s) (hX : kX E A s s.heap) (hAe : A = gA E KK s.heap.size) {i : Nat} {p1 : Nat} {Φ : KS → Prop} (hM : gMv l y_P_copy v_P_copy m_P_copy E KK [.ref (ea E 1 i), .ref (ea E 1 p1)] f Φ) (hi0 : i < 16) (hsz : ls.size = nL) (hW : (rest.map fun v => v.category).sum ≤ 8) (hdg : decode cc pc = .ok (.invokevirtual 310, 3)) (hfr : (m_P_copy).frames + 1 ≤ R.frames) (hlo : 8 + (2 + 11) + (m_P_copy).locals ≤ R.locals)
    (kk : ∀ (u : KS) (H1 : Heap) (locs1 : List Loc), Φ u → gV E KK A u s H1 locs1 → W p l e R s m args below meth c H1 locs1 0 0 Q (F0 m (pc + 3) ls rest)) : W p l e R s m args below meth c H locs 0 0 Q (F0 m pc ls (.ref (ea E 1 p1) :: .ref (ea E 1 i) :: rest)) :=
  g_gov (g_callV (C := R_P) (cc := cc) (As := [.ref (ea E 1 p1)]) ⟨hexec, hb, hml, hown, hts⟩ hM (cwV 1 hts (gi_V gm_540 gm_541 gm_542 gm_75 gm_543) rfl rfl rfl (by decide +kernel) ⟨hfr, hlo⟩) hV hK hX hAe (g_recv hK hV (kk_1 _ hi0) rfl rfl) rfl hsz rfl hW hdg ⟨Nat.zero_le _, Nat.zero_le _⟩) hV hAe kk
theorem kc_K_P_countClosed {nL : Nat} {c0 : Cond} (hexec : p.tables.exec = Jvm.exec) (hb : c.code = cc) (hml : c.maxLocals = nL) (hown : s.vm.findClass R_K = some m.cls) (hts : ∀ w ∈ c0 :: gG, w.before args s = true) (hV : gV E KK A f s H locs) (hK : va_K (eD E) classes (eT E) s) (hX : kX E A s s.heap) (hAe : A = gA E KK s.heap.size) {i : Nat} {Φ : Int32 → KS → Prop} (hM : gMi l y_P_countClosed v_P_countClosed m_P_countClosed E KK [.ref (ea E 1 i)] f Φ) (hi0 : i < 16) (hsz : ls.size = nL) (hW : (rest.map fun v => v.category).sum ≤ 8) (hdg : decode cc pc = .ok (.invokevirtual 322, 3)) (hfr : (m_P_countClosed).frames + 1 ≤ R.frames) (hlo : 8 + (1 + 11) + (m_P_countClosed).locals ≤ R.locals)
    (kk : ∀ (r : Int32) (u : KS) (H1 : Heap) (locs1 : List Loc), Φ r u → gV E KK A u s H1 locs1 → W p l e R s m args below meth c H1 locs1 0 0 Q (F0 m (pc + 3) ls (.int r :: rest))) : W p l e R s m args below meth c H locs 0 0 Q (F0 m pc ls (.ref (ea E 1 i) :: rest)) :=
  g_goi (g_callV (C := R_P) (cc := cc) (As := []) ⟨hexec, hb, hml, hown, hts⟩ hM (cwV 0 hts (gi_V gm_571 gm_572 gm_573 gm_75 gm_574) rfl rfl rfl (by decide +kernel) ⟨hfr, hlo⟩) hV hK hX hAe (g_recv hK hV (kk_1 _ hi0) rfl rfl) rfl hsz rfl hW hdg ⟨Nat.zero_le _, Nat.zero_le _⟩) hV hAe kk
theorem kc_K_P_descriptorAt {nL : Nat} {c0 : Cond} (hexec : p.tables.exec = Jvm.exec) (hb : c.code = cc) (hml : c.maxLocals = nL) (hown : s.vm.findClass R_K = some m.cls) (hts : ∀ w ∈ c0 :: gG, w.before args s = true) (hV : gV E KK A f s H locs) (hK : va_K (eD E) classes (eT E) s) (hX : kX E A s s.heap) (hAe : A = gA E KK s.heap.size) {i : Nat} {x1 : Int32} {Φ : Int32 → KS → Prop} (hM : gMi l y_P_descriptorAt v_P_descriptorAt m_P_descriptorAt E KK [.ref (ea E 1 i), .int x1] f Φ) (hi0 : i < 16) (hsz : ls.size = nL) (hW : (rest.map fun v => v.category).sum ≤ 8) (hdg : decode cc pc = .ok (.invokevirtual 213, 3)) (hfr : (m_P_descriptorAt).frames + 1 ≤ R.frames) (hlo : 8 + (2 + 11) + (m_P_descriptorAt).locals ≤ R.locals)
    (kk : ∀ (r : Int32) (u : KS) (H1 : Heap) (locs1 : List Loc), Φ r u → gV E KK A u s H1 locs1 → W p l e R s m args below meth c H1 locs1 0 0 Q (F0 m (pc + 3) ls (.int r :: rest))) : W p l e R s m args below meth c H locs 0 0 Q (F0 m pc ls (.int x1 :: .ref (ea E 1 i) :: rest)) :=
  g_goi (g_callV (C := R_P) (cc := cc) (As := [.int x1]) ⟨hexec, hb, hml, hown, hts⟩ hM (cwV 1 hts (gi_V gm_438 gm_439 gm_440 gm_75 gm_441) rfl rfl rfl (by decide +kernel) ⟨hfr, hlo⟩) hV hK hX hAe (g_recv hK hV (kk_1 _ hi0) rfl rfl) rfl hsz rfl hW hdg ⟨Nat.zero_le _, Nat.zero_le _⟩) hV hAe kk
theorem kc_K_P_findFault {nL : Nat} {c0 : Cond} (hexec : p.tables.exec = Jvm.exec) (hb : c.code = cc) (hml : c.maxLocals = nL) (hown : s.vm.findClass R_K = some m.cls) (hts : ∀ w ∈ c0 :: gG, w.before args s = true) (hV : gV E KK A f s H locs) (hK : va_K (eD E) classes (eT E) s) (hX : kX E A s s.heap) (hAe : A = gA E KK s.heap.size) {i : Nat} {Φ : Int32 → KS → Prop} (hM : gMi l y_P_findFault v_P_findFault m_P_findFault E KK [.ref (ea E 1 i)] f Φ) (hi0 : i < 16) (hsz : ls.size = nL) (hW : (rest.map fun v => v.category).sum ≤ 8) (hdg : decode cc pc = .ok (.invokevirtual 184, 3)) (hfr : (m_P_findFault).frames + 1 ≤ R.frames) (hlo : 8 + (2 + 11) + (m_P_findFault).locals ≤ R.locals)
    (kk : ∀ (r : Int32) (u : KS) (H1 : Heap) (locs1 : List Loc), Φ r u → gV E KK A u s H1 locs1 → W p l e R s m args below meth c H1 locs1 0 0 Q (F0 m (pc + 3) ls (.int r :: rest))) : W p l e R s m args below meth c H locs 0 0 Q (F0 m pc ls (.ref (ea E 1 i) :: rest)) :=
  g_goi (g_callV (C := R_P) (cc := cc) (As := []) ⟨hexec, hb, hml, hown, hts⟩ hM (cwV 0 hts (gi_V gm_380 gm_381 gm_382 gm_75 gm_383) rfl rfl rfl (by decide +kernel) ⟨hfr, hlo⟩) hV hK hX hAe (g_recv hK hV (kk_1 _ hi0) rfl rfl) rfl hsz rfl hW hdg ⟨Nat.zero_le _, Nat.zero_le _⟩) hV hAe kk
theorem kc_K_P_isChildOf {nL : Nat} {c0 : Cond} (hexec : p.tables.exec = Jvm.exec) (hb : c.code = cc) (hml : c.maxLocals = nL) (hown : s.vm.findClass R_K = some m.cls) (hts : ∀ w ∈ c0 :: gG, w.before args s = true) (hV : gV E KK A f s H locs) (hK : va_K (eD E) classes (eT E) s) (hX : kX E A s s.heap) (hAe : A = gA E KK s.heap.size) {i : Nat} {p1 : Nat} {Φ : Int32 → KS → Prop} (hM : gMi l y_P_isChildOf v_P_isChildOf m_P_isChildOf E KK [.ref (ea E 1 i), .ref (ea E 1 p1)] f Φ) (hi0 : i < 16) (hsz : ls.size = nL) (hW : (rest.map fun v => v.category).sum ≤ 8) (hdg : decode cc pc = .ok (.invokevirtual 316, 3)) (hfr : (m_P_isChildOf).frames + 1 ≤ R.frames) (hlo : 8 + (2 + 11) + (m_P_isChildOf).locals ≤ R.locals)
    (kk : ∀ (r : Int32) (u : KS) (H1 : Heap) (locs1 : List Loc), Φ r u → gV E KK A u s H1 locs1 → W p l e R s m args below meth c H1 locs1 0 0 Q (F0 m (pc + 3) ls (.int r :: rest))) : W p l e R s m args below meth c H locs 0 0 Q (F0 m pc ls (.ref (ea E 1 p1) :: .ref (ea E 1 i) :: rest)) :=
  g_goi (g_callV (C := R_P) (cc := cc) (As := [.ref (ea E 1 p1)]) ⟨hexec, hb, hml, hown, hts⟩ hM (cwV 1 hts (gi_V gm_424 gm_425 gm_426 gm_75 gm_427) rfl rfl rfl (by decide +kernel) ⟨hfr, hlo⟩) hV hK hX hAe (g_recv hK hV (kk_1 _ hi0) rfl rfl) rfl hsz rfl hW hdg ⟨Nat.zero_le _, Nat.zero_le _⟩) hV hAe kk
theorem kc_K_P_kind {nL : Nat} {c0 : Cond} (hexec : p.tables.exec = Jvm.exec) (hb : c.code = cc) (hml : c.maxLocals = nL) (hown : s.vm.findClass R_K = some m.cls) (hts : ∀ w ∈ c0 :: gG, w.before args s = true) (hV : gV E KK A f s H locs) (hK : va_K (eD E) classes (eT E) s) (hX : kX E A s s.heap) (hAe : A = gA E KK s.heap.size) {i : Nat} {Φ : Int32 → KS → Prop} (hM : gMi l y_P_kind v_P_kind m_P_kind E KK [.ref (ea E 1 i)] f Φ) (hi0 : i < 16) (hsz : ls.size = nL) (hW : (rest.map fun v => v.category).sum ≤ 8) (hdg : decode cc pc = .ok (.invokevirtual 207, 3)) (hfr : (m_P_kind).frames + 1 ≤ R.frames) (hlo : 8 + (1 + 11) + (m_P_kind).locals ≤ R.locals)
    (kk : ∀ (r : Int32) (u : KS) (H1 : Heap) (locs1 : List Loc), Φ r u → gV E KK A u s H1 locs1 → W p l e R s m args below meth c H1 locs1 0 0 Q (F0 m (pc + 3) ls (.int r :: rest))) : W p l e R s m args below meth c H locs 0 0 Q (F0 m pc ls (.ref (ea E 1 i) :: rest)) :=
  g_goi (g_callV (C := R_P) (cc := cc) (As := []) ⟨hexec, hb, hml, hown, hts⟩ hM (cwV 0 hts (gi_V gm_436 gm_388 gm_389 gm_75 gm_390) rfl rfl rfl (by decide +kernel) ⟨hfr, hlo⟩) hV hK hX hAe (g_recv hK hV (kk_1 _ hi0) rfl rfl) rfl hsz rfl hW hdg ⟨Nat.zero_le _, Nat.zero_le _⟩) hV hAe kk
theorem kc_K_P_leastClosed {nL : Nat} {c0 : Cond} (hexec : p.tables.exec = Jvm.exec) (hb : c.code = cc) (hml : c.maxLocals = nL) (hown : s.vm.findClass R_K = some m.cls) (hts : ∀ w ∈ c0 :: gG, w.before args s = true) (hV : gV E KK A f s H locs) (hK : va_K (eD E) classes (eT E) s) (hX : kX E A s s.heap) (hAe : A = gA E KK s.heap.size) {i : Nat} {Φ : Int32 → KS → Prop} (hM : gMi l y_P_leastClosed v_P_leastClosed m_P_leastClosed E KK [.ref (ea E 1 i)] f Φ) (hi0 : i < 16) (hsz : ls.size = nL) (hW : (rest.map fun v => v.category).sum ≤ 8) (hdg : decode cc pc = .ok (.invokevirtual 329, 3)) (hfr : (m_P_leastClosed).frames + 1 ≤ R.frames) (hlo : 8 + (2 + 11) + (m_P_leastClosed).locals ≤ R.locals)
    (kk : ∀ (r : Int32) (u : KS) (H1 : Heap) (locs1 : List Loc), Φ r u → gV E KK A u s H1 locs1 → W p l e R s m args below meth c H1 locs1 0 0 Q (F0 m (pc + 3) ls (.int r :: rest))) : W p l e R s m args below meth c H locs 0 0 Q (F0 m pc ls (.ref (ea E 1 i) :: rest)) :=
  g_goi (g_callV (C := R_P) (cc := cc) (As := []) ⟨hexec, hb, hml, hown, hts⟩ hM (cwV 0 hts (gi_V gm_589 gm_590 gm_591 gm_75 gm_592) rfl rfl rfl (by decide +kernel) ⟨hfr, hlo⟩) hV hK hX hAe (g_recv hK hV (kk_1 _ hi0) rfl rfl) rfl hsz rfl hW hdg ⟨Nat.zero_le _, Nat.zero_le _⟩) hV hAe kk
theorem kc_K_P_openDescriptors {nL : Nat} {c0 : Cond} (hexec : p.tables.exec = Jvm.exec) (hb : c.code = cc) (hml : c.maxLocals = nL) (hown : s.vm.findClass R_K = some m.cls) (hts : ∀ w ∈ c0 :: gG, w.before args s = true) (hV : gV E KK A f s H locs) (hK : va_K (eD E) classes (eT E) s) (hX : kX E A s s.heap) (hAe : A = gA E KK s.heap.size) {i : Nat} {Φ : Int32 → KS → Prop} (hM : gMi l y_P_openDescriptors v_P_openDescriptors m_P_openDescriptors E KK [.ref (ea E 1 i)] f Φ) (hi0 : i < 16) (hsz : ls.size = nL) (hW : (rest.map fun v => v.category).sum ≤ 8) (hdg : decode cc pc = .ok (.invokevirtual 149, 3)) (hfr : (m_P_openDescriptors).frames + 1 ≤ R.frames) (hlo : 8 + (3 + 11) + (m_P_openDescriptors).locals ≤ R.locals)
    (kk : ∀ (r : Int32) (u : KS) (H1 : Heap) (locs1 : List Loc), Φ r u → gV E KK A u s H1 locs1 → W p l e R s m args below meth c H1 locs1 0 0 Q (F0 m (pc + 3) ls (.int r :: rest))) : W p l e R s m args below meth c H locs 0 0 Q (F0 m pc ls (.ref (ea E 1 i) :: rest)) :=
  g_goi (g_callV (C := R_P) (cc := cc) (As := []) ⟨hexec, hb, hml, hown, hts⟩ hM (cwV 0 hts (gi_V gm_652 gm_576 gm_577 gm_75 gm_578) rfl rfl rfl (by decide +kernel) ⟨hfr, hlo⟩) hV hK hX hAe (g_recv hK hV (kk_1 _ hi0) rfl rfl) rfl hsz rfl hW hdg ⟨Nat.zero_le _, Nat.zero_le _⟩) hV hAe kk
theorem kc_K_P_operand {nL : Nat} {c0 : Cond} (hexec : p.tables.exec = Jvm.exec) (hb : c.code = cc) (hml : c.maxLocals = nL) (hown : s.vm.findClass R_K = some m.cls) (hts : ∀ w ∈ c0 :: gG, w.before args s = true) (hV : gV E KK A f s H locs) (hK : va_K (eD E) classes (eT E) s) (hX : kX E A s s.heap) (hAe : A = gA E KK s.heap.size) {i : Nat} {Φ : Int32 → KS → Prop} (hM : gMi l y_P_operand v_P_operand m_P_operand E KK [.ref (ea E 1 i)] f Φ) (hi0 : i < 16) (hsz : ls.size = nL) (hW : (rest.map fun v => v.category).sum ≤ 8) (hdg : decode cc pc = .ok (.invokevirtual 250, 3)) (hfr : (m_P_operand).frames + 1 ≤ R.frames) (hlo : 8 + (1 + 11) + (m_P_operand).locals ≤ R.locals)
    (kk : ∀ (r : Int32) (u : KS) (H1 : Heap) (locs1 : List Loc), Φ r u → gV E KK A u s H1 locs1 → W p l e R s m args below meth c H1 locs1 0 0 Q (F0 m (pc + 3) ls (.int r :: rest))) : W p l e R s m args below meth c H locs 0 0 Q (F0 m pc ls (.ref (ea E 1 i) :: rest)) :=
  g_goi (g_callV (C := R_P) (cc := cc) (As := []) ⟨hexec, hb, hml, hown, hts⟩ hM (cwV 0 hts (gi_V gm_482 gm_398 gm_399 gm_75 gm_400) rfl rfl rfl (by decide +kernel) ⟨hfr, hlo⟩) hV hK hX hAe (g_recv hK hV (kk_1 _ hi0) rfl rfl) rfl hsz rfl hW hdg ⟨Nat.zero_le _, Nat.zero_le _⟩) hV hAe kk
theorem kc_K_P_pop {nL : Nat} {c0 : Cond} (hexec : p.tables.exec = Jvm.exec) (hb : c.code = cc) (hml : c.maxLocals = nL) (hown : s.vm.findClass R_K = some m.cls) (hts : ∀ w ∈ c0 :: gG, w.before args s = true) (hV : gV E KK A f s H locs) (hK : va_K (eD E) classes (eT E) s) (hX : kX E A s s.heap) (hAe : A = gA E KK s.heap.size) {i : Nat} {Φ : Int32 → KS → Prop} (hM : gMi l y_P_pop v_P_pop m_P_pop E KK [.ref (ea E 1 i)] f Φ) (hi0 : i < 16) (hsz : ls.size = nL) (hW : (rest.map fun v => v.category).sum ≤ 8) (hdg : decode cc pc = .ok (.invokevirtual 253, 3)) (hfr : (m_P_pop).frames + 1 ≤ R.frames) (hlo : 8 + (1 + 11) + (m_P_pop).locals ≤ R.locals)
    (kk : ∀ (r : Int32) (u : KS) (H1 : Heap) (locs1 : List Loc), Φ r u → gV E KK A u s H1 locs1 → W p l e R s m args below meth c H1 locs1 0 0 Q (F0 m (pc + 3) ls (.int r :: rest))) : W p l e R s m args below meth c H locs 0 0 Q (F0 m pc ls (.ref (ea E 1 i) :: rest)) :=
  g_goi (g_callV (C := R_P) (cc := cc) (As := []) ⟨hexec, hb, hml, hown, hts⟩ hM (cwV 0 hts (gi_V gm_483 gm_484 gm_485 gm_75 gm_486) rfl rfl rfl (by decide +kernel) ⟨hfr, hlo⟩) hV hK hX hAe (g_recv hK hV (kk_1 _ hi0) rfl rfl) rfl hsz rfl hW hdg ⟨Nat.zero_le _, Nat.zero_le _⟩) hV hAe kk
theorem kc_K_P_push {nL : Nat} {c0 : Cond} (hexec : p.tables.exec = Jvm.exec) (hb : c.code = cc) (hml : c.maxLocals = nL) (hown : s.vm.findClass R_K = some m.cls) (hts : ∀ w ∈ c0 :: gG, w.before args s = true) (hV : gV E KK A f s H locs) (hK : va_K (eD E) classes (eT E) s) (hX : kX E A s s.heap) (hAe : A = gA E KK s.heap.size) {i : Nat} {x1 : Int32} {Φ : KS → Prop} (hM : gMv l y_P_push v_P_push m_P_push E KK [.ref (ea E 1 i), .int x1] f Φ) (hi0 : i < 16) (hsz : ls.size = nL) (hW : (rest.map fun v => v.category).sum ≤ 8) (hdg : decode cc pc = .ok (.invokevirtual 259, 3)) (hfr : (m_P_push).frames + 1 ≤ R.frames) (hlo : 8 + (2 + 11) + (m_P_push).locals ≤ R.locals)
    (kk : ∀ (u : KS) (H1 : Heap) (locs1 : List Loc), Φ u → gV E KK A u s H1 locs1 → W p l e R s m args below meth c H1 locs1 0 0 Q (F0 m (pc + 3) ls rest)) : W p l e R s m args below meth c H locs 0 0 Q (F0 m pc ls (.int x1 :: .ref (ea E 1 i) :: rest)) :=
  g_gov (g_callV (C := R_P) (cc := cc) (As := [.int x1]) ⟨hexec, hb, hml, hown, hts⟩ hM (cwV 1 hts (gi_V gm_487 gm_488 gm_489 gm_75 gm_490) rfl rfl rfl (by decide +kernel) ⟨hfr, hlo⟩) hV hK hX hAe (g_recv hK hV (kk_1 _ hi0) rfl rfl) rfl hsz rfl hW hdg ⟨Nat.zero_le _, Nat.zero_le _⟩) hV hAe kk
theorem kc_K_P_pushTwo {nL : Nat} {c0 : Cond} (hexec : p.tables.exec = Jvm.exec) (hb : c.code = cc) (hml : c.maxLocals = nL) (hown : s.vm.findClass R_K = some m.cls) (hts : ∀ w ∈ c0 :: gG, w.before args s = true) (hV : gV E KK A f s H locs) (hK : va_K (eD E) classes (eT E) s) (hX : kX E A s s.heap) (hAe : A = gA E KK s.heap.size) {i : Nat} {x1 : Int32} {x2 : Int32} {Φ : KS → Prop} (hM : gMv l y_P_pushTwo v_P_pushTwo m_P_pushTwo E KK [.ref (ea E 1 i), .int x1, .int x2] f Φ) (hi0 : i < 16) (hsz : ls.size = nL) (hW : (rest.map fun v => v.category).sum ≤ 8) (hdg : decode cc pc = .ok (.invokevirtual 303, 3)) (hfr : (m_P_pushTwo).frames + 1 ≤ R.frames) (hlo : 8 + (3 + 11) + (m_P_pushTwo).locals ≤ R.locals)
    (kk : ∀ (u : KS) (H1 : Heap) (locs1 : List Loc), Φ u → gV E KK A u s H1 locs1 → W p l e R s m args below meth c H1 locs1 0 0 Q (F0 m (pc + 3) ls rest)) : W p l e R s m args below meth c H locs 0 0 Q (F0 m pc ls (.int x2 :: .int x1 :: .ref (ea E 1 i) :: rest)) :=
  g_gov (g_callV (C := R_P) (cc := cc) (As := [.int x1, .int x2]) ⟨hexec, hb, hml, hown, hts⟩ hM (cwV 2 hts (gi_V gm_527 gm_528 gm_529 gm_75 gm_530) rfl rfl rfl (by decide +kernel) ⟨hfr, hlo⟩) hV hK hX hAe (g_recv hK hV (kk_1 _ hi0) rfl rfl) rfl hsz rfl hW hdg ⟨Nat.zero_le _, Nat.zero_le _⟩) hV hAe kk
theorem kc_K_P_top {nL : Nat} {c0 : Cond} (hexec : p.tables.exec = Jvm.exec) (hb : c.code = cc) (hml : c.maxLocals = nL) (hown : s.vm.findClass R_K = some m.cls) (hts : ∀ w ∈ c0 :: gG, w.before args s = true) (hV : gV E KK A f s H locs) (hK : va_K (eD E) classes (eT E) s) (hX : kX E A s s.heap) (hAe : A = gA E KK s.heap.size) {i : Nat} {Φ : Int32 → KS → Prop} (hM : gMi l y_P_top v_P_top m_P_top E KK [.ref (ea E 1 i)] f Φ) (hi0 : i < 16) (hsz : ls.size = nL) (hW : (rest.map fun v => v.category).sum ≤ 8) (hdg : decode cc pc = .ok (.invokevirtual 210, 3)) (hfr : (m_P_top).frames + 1 ≤ R.frames) (hlo : 8 + (1 + 11) + (m_P_top).locals ≤ R.locals)
    (kk : ∀ (r : Int32) (u : KS) (H1 : Heap) (locs1 : List Loc), Φ r u → gV E KK A u s H1 locs1 → W p l e R s m args below meth c H1 locs1 0 0 Q (F0 m (pc + 3) ls (.int r :: rest))) : W p l e R s m args below meth c H locs 0 0 Q (F0 m pc ls (.ref (ea E 1 i) :: rest)) :=
  g_goi (g_callV (C := R_P) (cc := cc) (As := []) ⟨hexec, hb, hml, hown, hts⟩ hM (cwV 0 hts (gi_V gm_437 gm_394 gm_395 gm_75 gm_396) rfl rfl rfl (by decide +kernel) ⟨hfr, hlo⟩) hV hK hX hAe (g_recv hK hV (kk_1 _ hi0) rfl rfl) rfl hsz rfl hW hdg ⟨Nat.zero_le _, Nat.zero_le _⟩) hV hAe kk
theorem kc_K_P_wouldOverflow {nL : Nat} {c0 : Cond} (hexec : p.tables.exec = Jvm.exec) (hb : c.code = cc) (hml : c.maxLocals = nL) (hown : s.vm.findClass R_K = some m.cls) (hts : ∀ w ∈ c0 :: gG, w.before args s = true) (hV : gV E KK A f s H locs) (hK : va_K (eD E) classes (eT E) s) (hX : kX E A s s.heap) (hAe : A = gA E KK s.heap.size) {i : Nat} {Φ : Int32 → KS → Prop} (hM : gMi l y_P_wouldOverflow v_P_wouldOverflow m_P_wouldOverflow E KK [.ref (ea E 1 i)] f Φ) (hi0 : i < 16) (hsz : ls.size = nL) (hW : (rest.map fun v => v.category).sum ≤ 8) (hdg : decode cc pc = .ok (.invokevirtual 198, 3)) (hfr : (m_P_wouldOverflow).frames + 1 ≤ R.frames) (hlo : 8 + (1 + 11) + (m_P_wouldOverflow).locals ≤ R.locals)
    (kk : ∀ (r : Int32) (u : KS) (H1 : Heap) (locs1 : List Loc), Φ r u → gV E KK A u s H1 locs1 → W p l e R s m args below meth c H1 locs1 0 0 Q (F0 m (pc + 3) ls (.int r :: rest))) : W p l e R s m args below meth c H locs 0 0 Q (F0 m pc ls (.ref (ea E 1 i) :: rest)) :=
  g_goi (g_callV (C := R_P) (cc := cc) (As := []) ⟨hexec, hb, hml, hown, hts⟩ hM (cwV 0 hts (gi_V gm_472 gm_473 gm_474 gm_75 gm_475) rfl rfl rfl (by decide +kernel) ⟨hfr, hlo⟩) hV hK hX hAe (g_recv hK hV (kk_1 _ hi0) rfl rfl) rfl hsz rfl hW hdg ⟨Nat.zero_le _, Nat.zero_le _⟩) hV hAe kk
theorem kc_K_W_add {nL : Nat} {c0 : Cond} (hexec : p.tables.exec = Jvm.exec) (hb : c.code = cc) (hml : c.maxLocals = nL) (hown : s.vm.findClass R_K = some m.cls) (hts : ∀ w ∈ c0 :: gG, w.before args s = true) (hV : gV E KK A f s H locs) (hK : va_K (eD E) classes (eT E) s) (hX : kX E A s s.heap) (hAe : A = gA E KK s.heap.size) {wi : Nat} {x1 : Int32} {Φ : KS → Prop} (hM : gMv l y_W_add v_W_add m_W_add E KK [.ref (ea E 5 wi), .int x1] f Φ) (hi0 : wi < 10) (hsz : ls.size = nL) (hW : (rest.map fun v => v.category).sum ≤ 8) (hdg : decode cc pc = .ok (.invokevirtual 113, 3)) (hfr : (m_W_add).frames + 1 ≤ R.frames) (hlo : 8 + (2 + 11) + (m_W_add).locals ≤ R.locals)
    (kk : ∀ (u : KS) (H1 : Heap) (locs1 : List Loc), Φ u → gV E KK A u s H1 locs1 → W p l e R s m args below meth c H1 locs1 0 0 Q (F0 m (pc + 3) ls rest)) : W p l e R s m args below meth c H locs 0 0 Q (F0 m pc ls (.int x1 :: .ref (ea E 5 wi) :: rest)) :=
  g_gov (g_callV (C := R_W) (cc := cc) (As := [.int x1]) ⟨hexec, hb, hml, hown, hts⟩ hM (cwV 1 hts (gi_V gm_511 gm_512 gm_513 gm_73 gm_514) rfl rfl rfl (by decide +kernel) ⟨hfr, hlo⟩) hV hK hX hAe (g_recv hK hV (kk_5 _ hi0) rfl rfl) rfl hsz rfl hW hdg ⟨Nat.zero_le _, Nat.zero_le _⟩) hV hAe kk
theorem kc_K_W_at {nL : Nat} {c0 : Cond} (hexec : p.tables.exec = Jvm.exec) (hb : c.code = cc) (hml : c.maxLocals = nL) (hown : s.vm.findClass R_K = some m.cls) (hts : ∀ w ∈ c0 :: gG, w.before args s = true) (hV : gV E KK A f s H locs) (hK : va_K (eD E) classes (eT E) s) (hX : kX E A s s.heap) (hAe : A = gA E KK s.heap.size) {wi : Nat} {x1 : Int32} {Φ : Int32 → KS → Prop} (hM : gMi l y_W_at v_W_at m_W_at E KK [.ref (ea E 5 wi), .int x1] f Φ) (hi0 : wi < 10) (hsz : ls.size = nL) (hW : (rest.map fun v => v.category).sum ≤ 8) (hdg : decode cc pc = .ok (.invokevirtual 178, 3)) (hfr : (m_W_at).frames + 1 ≤ R.frames) (hlo : 8 + (2 + 11) + (m_W_at).locals ≤ R.locals)
    (kk : ∀ (r : Int32) (u : KS) (H1 : Heap) (locs1 : List Loc), Φ r u → gV E KK A u s H1 locs1 → W p l e R s m args below meth c H1 locs1 0 0 Q (F0 m (pc + 3) ls (.int r :: rest))) : W p l e R s m args below meth c H locs 0 0 Q (F0 m pc ls (.int x1 :: .ref (ea E 5 wi) :: rest)) :=
  g_goi (g_callV (C := R_W) (cc := cc) (As := [.int x1]) ⟨hexec, hb, hml, hown, hts⟩ hM (cwV 1 hts (gi_V gm_706 gm_707 gm_708 gm_73 gm_709) rfl rfl rfl (by decide +kernel) ⟨hfr, hlo⟩) hV hK hX hAe (g_recv hK hV (kk_5 _ hi0) rfl rfl) rfl hsz rfl hW hdg ⟨Nat.zero_le _, Nat.zero_le _⟩) hV hAe kk
theorem kc_K_W_clear {nL : Nat} {c0 : Cond} (hexec : p.tables.exec = Jvm.exec) (hb : c.code = cc) (hml : c.maxLocals = nL) (hown : s.vm.findClass R_K = some m.cls) (hts : ∀ w ∈ c0 :: gG, w.before args s = true) (hV : gV E KK A f s H locs) (hK : va_K (eD E) classes (eT E) s) (hX : kX E A s s.heap) (hAe : A = gA E KK s.heap.size) {wi : Nat} {Φ : KS → Prop} (hM : gMv l y_W_clear v_W_clear m_W_clear E KK [.ref (ea E 5 wi)] f Φ) (hi0 : wi < 10) (hsz : ls.size = nL) (hW : (rest.map fun v => v.category).sum ≤ 8) (hdg : decode cc pc = .ok (.invokevirtual 335, 3)) (hfr : (m_W_clear).frames + 1 ≤ R.frames) (hlo : 8 + (1 + 11) + (m_W_clear).locals ≤ R.locals)
    (kk : ∀ (u : KS) (H1 : Heap) (locs1 : List Loc), Φ u → gV E KK A u s H1 locs1 → W p l e R s m args below meth c H1 locs1 0 0 Q (F0 m (pc + 3) ls rest)) : W p l e R s m args below meth c H locs 0 0 Q (F0 m pc ls (.ref (ea E 5 wi) :: rest)) :=
  g_gov (g_callV (C := R_W) (cc := cc) (As := []) ⟨hexec, hb, hml, hown, hts⟩ hM (cwV 0 hts (gi_V gm_416 gm_417 gm_418 gm_73 gm_419) rfl rfl rfl (by decide +kernel) ⟨hfr, hlo⟩) hV hK hX hAe (g_recv hK hV (kk_5 _ hi0) rfl rfl) rfl hsz rfl hW hdg ⟨Nat.zero_le _, Nat.zero_le _⟩) hV hAe kk
theorem kc_K_W_isEmpty {nL : Nat} {c0 : Cond} (hexec : p.tables.exec = Jvm.exec) (hb : c.code = cc) (hml : c.maxLocals = nL) (hown : s.vm.findClass R_K = some m.cls) (hts : ∀ w ∈ c0 :: gG, w.before args s = true) (hV : gV E KK A f s H locs) (hK : va_K (eD E) classes (eT E) s) (hX : kX E A s s.heap) (hAe : A = gA E KK s.heap.size) {wi : Nat} {Φ : Int32 → KS → Prop} (hM : gMi l y_W_isEmpty v_W_isEmpty m_W_isEmpty E KK [.ref (ea E 5 wi)] f Φ) (hi0 : wi < 10) (hsz : ls.size = nL) (hW : (rest.map fun v => v.category).sum ≤ 8) (hdg : decode cc pc = .ok (.invokevirtual 244, 3)) (hfr : (m_W_isEmpty).frames + 1 ≤ R.frames) (hlo : 8 + (1 + 11) + (m_W_isEmpty).locals ≤ R.locals)
    (kk : ∀ (r : Int32) (u : KS) (H1 : Heap) (locs1 : List Loc), Φ r u → gV E KK A u s H1 locs1 → W p l e R s m args below meth c H1 locs1 0 0 Q (F0 m (pc + 3) ls (.int r :: rest))) : W p l e R s m args below meth c H locs 0 0 Q (F0 m pc ls (.ref (ea E 5 wi) :: rest)) :=
  g_goi (g_callV (C := R_W) (cc := cc) (As := []) ⟨hexec, hb, hml, hown, hts⟩ hM (cwV 0 hts (gi_V gm_457 gm_458 gm_459 gm_73 gm_460) rfl rfl rfl (by decide +kernel) ⟨hfr, hlo⟩) hV hK hX hAe (g_recv hK hV (kk_5 _ hi0) rfl rfl) rfl hsz rfl hW hdg ⟨Nat.zero_le _, Nat.zero_le _⟩) hV hAe kk
theorem kc_K_W_isFull {nL : Nat} {c0 : Cond} (hexec : p.tables.exec = Jvm.exec) (hb : c.code = cc) (hml : c.maxLocals = nL) (hown : s.vm.findClass R_K = some m.cls) (hts : ∀ w ∈ c0 :: gG, w.before args s = true) (hV : gV E KK A f s H locs) (hK : va_K (eD E) classes (eT E) s) (hX : kX E A s s.heap) (hAe : A = gA E KK s.heap.size) {wi : Nat} {Φ : Int32 → KS → Prop} (hM : gMi l y_W_isFull v_W_isFull m_W_isFull E KK [.ref (ea E 5 wi)] f Φ) (hi0 : wi < 10) (hsz : ls.size = nL) (hW : (rest.map fun v => v.category).sum ≤ 8) (hdg : decode cc pc = .ok (.invokevirtual 108, 3)) (hfr : (m_W_isFull).frames + 1 ≤ R.frames) (hlo : 8 + (1 + 11) + (m_W_isFull).locals ≤ R.locals)
    (kk : ∀ (r : Int32) (u : KS) (H1 : Heap) (locs1 : List Loc), Φ r u → gV E KK A u s H1 locs1 → W p l e R s m args below meth c H1 locs1 0 0 Q (F0 m (pc + 3) ls (.int r :: rest))) : W p l e R s m args below meth c H locs 0 0 Q (F0 m pc ls (.ref (ea E 5 wi) :: rest)) :=
  g_goi (g_callV (C := R_W) (cc := cc) (As := []) ⟨hexec, hb, hml, hown, hts⟩ hM (cwV 0 hts (gi_V gm_449 gm_450 gm_451 gm_73 gm_452) rfl rfl rfl (by decide +kernel) ⟨hfr, hlo⟩) hV hK hX hAe (g_recv hK hV (kk_5 _ hi0) rfl rfl) rfl hsz rfl hW hdg ⟨Nat.zero_le _, Nat.zero_le _⟩) hV hAe kk
theorem kc_K_W_take {nL : Nat} {c0 : Cond} (hexec : p.tables.exec = Jvm.exec) (hb : c.code = cc) (hml : c.maxLocals = nL) (hown : s.vm.findClass R_K = some m.cls) (hts : ∀ w ∈ c0 :: gG, w.before args s = true) (hV : gV E KK A f s H locs) (hK : va_K (eD E) classes (eT E) s) (hX : kX E A s s.heap) (hAe : A = gA E KK s.heap.size) {wi : Nat} {Φ : Int32 → KS → Prop} (hM : gMi l y_W_take v_W_take m_W_take E KK [.ref (ea E 5 wi)] f Φ) (hi0 : wi < 10) (hsz : ls.size = nL) (hW : (rest.map fun v => v.category).sum ≤ 8) (hdg : decode cc pc = .ok (.invokevirtual 296, 3)) (hfr : (m_W_take).frames + 1 ≤ R.frames) (hlo : 8 + (2 + 11) + (m_W_take).locals ≤ R.locals)
    (kk : ∀ (r : Int32) (u : KS) (H1 : Heap) (locs1 : List Loc), Φ r u → gV E KK A u s H1 locs1 → W p l e R s m args below meth c H1 locs1 0 0 Q (F0 m (pc + 3) ls (.int r :: rest))) : W p l e R s m args below meth c H locs 0 0 Q (F0 m pc ls (.ref (ea E 5 wi) :: rest)) :=
  g_goi (g_callV (C := R_W) (cc := cc) (As := []) ⟨hexec, hb, hml, hown, hts⟩ hM (cwV 0 hts (gi_V gm_503 gm_504 gm_505 gm_73 gm_506) rfl rfl rfl (by decide +kernel) ⟨hfr, hlo⟩) hV hK hX hAe (g_recv hK hV (kk_5 _ hi0) rfl rfl) rfl hsz rfl hW hdg ⟨Nat.zero_le _, Nat.zero_le _⟩) hV hAe kk
theorem kc_P_I_bitCount {nL : Nat} {c0 : Cond} (hexec : p.tables.exec = Jvm.exec) (hb : c.code = cc) (hml : c.maxLocals = nL) (hown : s.vm.findClass R_P = some m.cls) (hts : ∀ w ∈ c0 :: gG, w.before args s = true) (hV : gV E KK A f s H locs) (hK : va_K (eD E) classes (eT E) s) (hX : kX E A s s.heap) (hAe : A = gA E KK s.heap.size) {x0 : Int32} {Φ : Int32 → KS → Prop} (hM : gMi l y_I_bitCount v_I_bitCount m_I_bitCount E KK [.int x0] f Φ) (hsz : ls.size = nL) (hW : (rest.map fun v => v.category).sum ≤ 8) (hdg : decode cc pc = .ok (.invokestatic 59, 3)) (hfr : (m_I_bitCount).frames + 1 ≤ R.frames) (hlo : 8 + (1 + 11) + (m_I_bitCount).locals ≤ R.locals)
    (kk : ∀ (r : Int32) (u : KS) (H1 : Heap) (locs1 : List Loc), Φ r u → gV E KK A u s H1 locs1 → W p l e R s m args below meth c H1 locs1 0 0 Q (F0 m (pc + 3) ls (.int r :: rest))) : W p l e R s m args below meth c H locs 0 0 Q (F0 m pc ls (.int x0 :: rest)) :=
  g_goi (g_callS (cc := cc) (As := [.int x0]) ⟨hexec, hb, hml, hown, hts⟩ hM (va_cwS 1 hts (gi_S gm_579 gm_580 gm_84 gm_581) rfl rfl rfl (by decide +kernel) ⟨hfr, hlo⟩) hV hK hX hAe rfl hsz rfl hW hdg ⟨Nat.zero_le _, Nat.zero_le _⟩) hV hAe kk
theorem kc_P_P_combine {nL : Nat} {c0 : Cond} (hexec : p.tables.exec = Jvm.exec) (hb : c.code = cc) (hml : c.maxLocals = nL) (hown : s.vm.findClass R_P = some m.cls) (hts : ∀ w ∈ c0 :: gG, w.before args s = true) (hV : gV E KK A f s H locs) (hK : va_K (eD E) classes (eT E) s) (hX : kX E A s s.heap) (hAe : A = gA E KK s.heap.size) {i : Nat} {x1 : Int32} {Φ : KS → Prop} (hM : gMv l y_P_combine v_P_combine m_P_combine E KK [.ref (ea E 1 i), .int x1] f Φ) (hi0 : i < 16) (hsz : ls.size = nL) (hW : (rest.map fun v => v.category).sum ≤ 8) (hdg : decode cc pc = .ok (.invokevirtual 97, 3)) (hfr : (m_P_combine).frames + 1 ≤ R.frames) (hlo : 8 + (4 + 11) + (m_P_combine).locals ≤ R.locals)
    (kk : ∀ (u : KS) (H1 : Heap) (locs1 : List Loc), Φ u → gV E KK A u s H1 locs1 → W p l e R s m args below meth c H1 locs1 0 0 Q (F0 m (pc + 3) ls rest)) : W p l e R s m args below meth c H locs 0 0 Q (F0 m pc ls (.int x1 :: .ref (ea E 1 i) :: rest)) :=
  g_gov (g_callV (C := R_P) (cc := cc) (As := [.int x1]) ⟨hexec, hb, hml, hown, hts⟩ hM (cwV 1 hts (gi_V gm_620 gm_621 gm_622 gm_75 gm_623) rfl rfl rfl (by decide +kernel) ⟨hfr, hlo⟩) hV hK hX hAe (g_recv hK hV (kk_1 _ hi0) rfl rfl) rfl hsz rfl hW hdg ⟨Nat.zero_le _, Nat.zero_le _⟩) hV hAe kk
theorem kc_P_P_isInMemory {nL : Nat} {c0 : Cond} (hexec : p.tables.exec = Jvm.exec) (hb : c.code = cc) (hml : c.maxLocals = nL) (hown : s.vm.findClass R_P = some m.cls) (hts : ∀ w ∈ c0 :: gG, w.before args s = true) (hV : gV E KK A f s H locs) (hK : va_K (eD E) classes (eT E) s) (hX : kX E A s s.heap) (hAe : A = gA E KK s.heap.size) {x0 : Int32} {Φ : Int32 → KS → Prop} (hM : gMi l y_P_isInMemory v_P_isInMemory m_P_isInMemory E KK [.int x0] f Φ) (hsz : ls.size = nL) (hW : (rest.map fun v => v.category).sum ≤ 8) (hdg : decode cc pc = .ok (.invokestatic 69, 3)) (hfr : (m_P_isInMemory).frames + 1 ≤ R.frames) (hlo : 8 + (1 + 11) + (m_P_isInMemory).locals ≤ R.locals)
    (kk : ∀ (r : Int32) (u : KS) (H1 : Heap) (locs1 : List Loc), Φ r u → gV E KK A u s H1 locs1 → W p l e R s m args below meth c H1 locs1 0 0 Q (F0 m (pc + 3) ls (.int r :: rest))) : W p l e R s m args below meth c H locs 0 0 Q (F0 m pc ls (.int x0 :: rest)) :=
  g_goi (g_callS (cc := cc) (As := [.int x0]) ⟨hexec, hb, hml, hown, hts⟩ hM (va_cwS 1 hts (gi_S gm_384 gm_385 gm_75 gm_386) rfl rfl rfl (by decide +kernel) ⟨hfr, hlo⟩) hV hK hX hAe rfl hsz rfl hW hdg ⟨Nat.zero_le _, Nat.zero_le _⟩) hV hAe kk
theorem kc_P_P_kind {nL : Nat} {c0 : Cond} (hexec : p.tables.exec = Jvm.exec) (hb : c.code = cc) (hml : c.maxLocals = nL) (hown : s.vm.findClass R_P = some m.cls) (hts : ∀ w ∈ c0 :: gG, w.before args s = true) (hV : gV E KK A f s H locs) (hK : va_K (eD E) classes (eT E) s) (hX : kX E A s s.heap) (hAe : A = gA E KK s.heap.size) {i : Nat} {Φ : Int32 → KS → Prop} (hM : gMi l y_P_kind v_P_kind m_P_kind E KK [.ref (ea E 1 i)] f Φ) (hi0 : i < 16) (hsz : ls.size = nL) (hW : (rest.map fun v => v.category).sum ≤ 8) (hdg : decode cc pc = .ok (.invokevirtual 73, 3)) (hfr : (m_P_kind).frames + 1 ≤ R.frames) (hlo : 8 + (1 + 11) + (m_P_kind).locals ≤ R.locals)
    (kk : ∀ (r : Int32) (u : KS) (H1 : Heap) (locs1 : List Loc), Φ r u → gV E KK A u s H1 locs1 → W p l e R s m args below meth c H1 locs1 0 0 Q (F0 m (pc + 3) ls (.int r :: rest))) : W p l e R s m args below meth c H locs 0 0 Q (F0 m pc ls (.ref (ea E 1 i) :: rest)) :=
  g_goi (g_callV (C := R_P) (cc := cc) (As := []) ⟨hexec, hb, hml, hown, hts⟩ hM (cwV 0 hts (gi_V gm_387 gm_388 gm_389 gm_75 gm_390) rfl rfl rfl (by decide +kernel) ⟨hfr, hlo⟩) hV hK hX hAe (g_recv hK hV (kk_1 _ hi0) rfl rfl) rfl hsz rfl hW hdg ⟨Nat.zero_le _, Nat.zero_le _⟩) hV hAe kk
theorem kc_P_P_openDescriptors {nL : Nat} {c0 : Cond} (hexec : p.tables.exec = Jvm.exec) (hb : c.code = cc) (hml : c.maxLocals = nL) (hown : s.vm.findClass R_P = some m.cls) (hts : ∀ w ∈ c0 :: gG, w.before args s = true) (hV : gV E KK A f s H locs) (hK : va_K (eD E) classes (eT E) s) (hX : kX E A s s.heap) (hAe : A = gA E KK s.heap.size) {i : Nat} {Φ : Int32 → KS → Prop} (hM : gMi l y_P_openDescriptors v_P_openDescriptors m_P_openDescriptors E KK [.ref (ea E 1 i)] f Φ) (hi0 : i < 16) (hsz : ls.size = nL) (hW : (rest.map fun v => v.category).sum ≤ 8) (hdg : decode cc pc = .ok (.invokevirtual 55, 3)) (hfr : (m_P_openDescriptors).frames + 1 ≤ R.frames) (hlo : 8 + (3 + 11) + (m_P_openDescriptors).locals ≤ R.locals)
    (kk : ∀ (r : Int32) (u : KS) (H1 : Heap) (locs1 : List Loc), Φ r u → gV E KK A u s H1 locs1 → W p l e R s m args below meth c H1 locs1 0 0 Q (F0 m (pc + 3) ls (.int r :: rest))) : W p l e R s m args below meth c H locs 0 0 Q (F0 m pc ls (.ref (ea E 1 i) :: rest)) :=
  g_goi (g_callV (C := R_P) (cc := cc) (As := []) ⟨hexec, hb, hml, hown, hts⟩ hM (cwV 0 hts (gi_V gm_575 gm_576 gm_577 gm_75 gm_578) rfl rfl rfl (by decide +kernel) ⟨hfr, hlo⟩) hV hK hX hAe (g_recv hK hV (kk_1 _ hi0) rfl rfl) rfl hsz rfl hW hdg ⟨Nat.zero_le _, Nat.zero_le _⟩) hV hAe kk
theorem kc_P_P_operand {nL : Nat} {c0 : Cond} (hexec : p.tables.exec = Jvm.exec) (hb : c.code = cc) (hml : c.maxLocals = nL) (hown : s.vm.findClass R_P = some m.cls) (hts : ∀ w ∈ c0 :: gG, w.before args s = true) (hV : gV E KK A f s H locs) (hK : va_K (eD E) classes (eT E) s) (hX : kX E A s s.heap) (hAe : A = gA E KK s.heap.size) {i : Nat} {Φ : Int32 → KS → Prop} (hM : gMi l y_P_operand v_P_operand m_P_operand E KK [.ref (ea E 1 i)] f Φ) (hi0 : i < 16) (hsz : ls.size = nL) (hW : (rest.map fun v => v.category).sum ≤ 8) (hdg : decode cc pc = .ok (.invokevirtual 82, 3)) (hfr : (m_P_operand).frames + 1 ≤ R.frames) (hlo : 8 + (1 + 11) + (m_P_operand).locals ≤ R.locals)
    (kk : ∀ (r : Int32) (u : KS) (H1 : Heap) (locs1 : List Loc), Φ r u → gV E KK A u s H1 locs1 → W p l e R s m args below meth c H1 locs1 0 0 Q (F0 m (pc + 3) ls (.int r :: rest))) : W p l e R s m args below meth c H locs 0 0 Q (F0 m pc ls (.ref (ea E 1 i) :: rest)) :=
  g_goi (g_callV (C := R_P) (cc := cc) (As := []) ⟨hexec, hb, hml, hown, hts⟩ hM (cwV 0 hts (gi_V gm_397 gm_398 gm_399 gm_75 gm_400) rfl rfl rfl (by decide +kernel) ⟨hfr, hlo⟩) hV hK hX hAe (g_recv hK hV (kk_1 _ hi0) rfl rfl) rfl hsz rfl hW hdg ⟨Nat.zero_le _, Nat.zero_le _⟩) hV hAe kk
theorem kc_P_P_pop {nL : Nat} {c0 : Cond} (hexec : p.tables.exec = Jvm.exec) (hb : c.code = cc) (hml : c.maxLocals = nL) (hown : s.vm.findClass R_P = some m.cls) (hts : ∀ w ∈ c0 :: gG, w.before args s = true) (hV : gV E KK A f s H locs) (hK : va_K (eD E) classes (eT E) s) (hX : kX E A s s.heap) (hAe : A = gA E KK s.heap.size) {i : Nat} {Φ : Int32 → KS → Prop} (hM : gMi l y_P_pop v_P_pop m_P_pop E KK [.ref (ea E 1 i)] f Φ) (hi0 : i < 16) (hsz : ls.size = nL) (hW : (rest.map fun v => v.category).sum ≤ 8) (hdg : decode cc pc = .ok (.invokevirtual 88, 3)) (hfr : (m_P_pop).frames + 1 ≤ R.frames) (hlo : 8 + (1 + 11) + (m_P_pop).locals ≤ R.locals)
    (kk : ∀ (r : Int32) (u : KS) (H1 : Heap) (locs1 : List Loc), Φ r u → gV E KK A u s H1 locs1 → W p l e R s m args below meth c H1 locs1 0 0 Q (F0 m (pc + 3) ls (.int r :: rest))) : W p l e R s m args below meth c H locs 0 0 Q (F0 m pc ls (.ref (ea E 1 i) :: rest)) :=
  g_goi (g_callV (C := R_P) (cc := cc) (As := []) ⟨hexec, hb, hml, hown, hts⟩ hM (cwV 0 hts (gi_V gm_610 gm_484 gm_485 gm_75 gm_486) rfl rfl rfl (by decide +kernel) ⟨hfr, hlo⟩) hV hK hX hAe (g_recv hK hV (kk_1 _ hi0) rfl rfl) rfl hsz rfl hW hdg ⟨Nat.zero_le _, Nat.zero_le _⟩) hV hAe kk
theorem kc_P_P_push {nL : Nat} {c0 : Cond} (hexec : p.tables.exec = Jvm.exec) (hb : c.code = cc) (hml : c.maxLocals = nL) (hown : s.vm.findClass R_P = some m.cls) (hts : ∀ w ∈ c0 :: gG, w.before args s = true) (hV : gV E KK A f s H locs) (hK : va_K (eD E) classes (eT E) s) (hX : kX E A s s.heap) (hAe : A = gA E KK s.heap.size) {i : Nat} {x1 : Int32} {Φ : KS → Prop} (hM : gMv l y_P_push v_P_push m_P_push E KK [.ref (ea E 1 i), .int x1] f Φ) (hi0 : i < 16) (hsz : ls.size = nL) (hW : (rest.map fun v => v.category).sum ≤ 8) (hdg : decode cc pc = .ok (.invokevirtual 65, 3)) (hfr : (m_P_push).frames + 1 ≤ R.frames) (hlo : 8 + (2 + 11) + (m_P_push).locals ≤ R.locals)
    (kk : ∀ (u : KS) (H1 : Heap) (locs1 : List Loc), Φ u → gV E KK A u s H1 locs1 → W p l e R s m args below meth c H1 locs1 0 0 Q (F0 m (pc + 3) ls rest)) : W p l e R s m args below meth c H locs 0 0 Q (F0 m pc ls (.int x1 :: .ref (ea E 1 i) :: rest)) :=
  g_gov (g_callV (C := R_P) (cc := cc) (As := [.int x1]) ⟨hexec, hb, hml, hown, hts⟩ hM (cwV 1 hts (gi_V gm_531 gm_488 gm_489 gm_75 gm_490) rfl rfl rfl (by decide +kernel) ⟨hfr, hlo⟩) hV hK hX hAe (g_recv hK hV (kk_1 _ hi0) rfl rfl) rfl hsz rfl hW hdg ⟨Nat.zero_le _, Nat.zero_le _⟩) hV hAe kk
theorem kc_P_P_pushTwo {nL : Nat} {c0 : Cond} (hexec : p.tables.exec = Jvm.exec) (hb : c.code = cc) (hml : c.maxLocals = nL) (hown : s.vm.findClass R_P = some m.cls) (hts : ∀ w ∈ c0 :: gG, w.before args s = true) (hV : gV E KK A f s H locs) (hK : va_K (eD E) classes (eT E) s) (hX : kX E A s s.heap) (hAe : A = gA E KK s.heap.size) {i : Nat} {x1 : Int32} {x2 : Int32} {Φ : KS → Prop} (hM : gMv l y_P_pushTwo v_P_pushTwo m_P_pushTwo E KK [.ref (ea E 1 i), .int x1, .int x2] f Φ) (hi0 : i < 16) (hsz : ls.size = nL) (hW : (rest.map fun v => v.category).sum ≤ 8) (hdg : decode cc pc = .ok (.invokevirtual 100, 3)) (hfr : (m_P_pushTwo).frames + 1 ≤ R.frames) (hlo : 8 + (3 + 11) + (m_P_pushTwo).locals ≤ R.locals)
    (kk : ∀ (u : KS) (H1 : Heap) (locs1 : List Loc), Φ u → gV E KK A u s H1 locs1 → W p l e R s m args below meth c H1 locs1 0 0 Q (F0 m (pc + 3) ls rest)) : W p l e R s m args below meth c H locs 0 0 Q (F0 m pc ls (.int x2 :: .int x1 :: .ref (ea E 1 i) :: rest)) :=
  g_gov (g_callV (C := R_P) (cc := cc) (As := [.int x1, .int x2]) ⟨hexec, hb, hml, hown, hts⟩ hM (cwV 2 hts (gi_V gm_615 gm_528 gm_529 gm_75 gm_530) rfl rfl rfl (by decide +kernel) ⟨hfr, hlo⟩) hV hK hX hAe (g_recv hK hV (kk_1 _ hi0) rfl rfl) rfl hsz rfl hW hdg ⟨Nat.zero_le _, Nat.zero_le _⟩) hV hAe kk
theorem kc_P_P_result {nL : Nat} {c0 : Cond} (hexec : p.tables.exec = Jvm.exec) (hb : c.code = cc) (hml : c.maxLocals = nL) (hown : s.vm.findClass R_P = some m.cls) (hts : ∀ w ∈ c0 :: gG, w.before args s = true) (hV : gV E KK A f s H locs) (hK : va_K (eD E) classes (eT E) s) (hX : kX E A s s.heap) (hAe : A = gA E KK s.heap.size) {x0 : Int32} {x1 : Int32} {x2 : Int32} {Φ : Int32 → KS → Prop} (hM : gMi l y_P_result v_P_result m_P_result E KK [.int x0, .int x1, .int x2] f Φ) (hsz : ls.size = nL) (hW : (rest.map fun v => v.category).sum ≤ 8) (hdg : decode cc pc = .ok (.invokestatic 104, 3)) (hfr : (m_P_result).frames + 1 ≤ R.frames) (hlo : 8 + (3 + 11) + (m_P_result).locals ≤ R.locals)
    (kk : ∀ (r : Int32) (u : KS) (H1 : Heap) (locs1 : List Loc), Φ r u → gV E KK A u s H1 locs1 → W p l e R s m args below meth c H1 locs1 0 0 Q (F0 m (pc + 3) ls (.int r :: rest))) : W p l e R s m args below meth c H locs 0 0 Q (F0 m pc ls (.int x2 :: .int x1 :: .int x0 :: rest)) :=
  g_goi (g_callS (cc := cc) (As := [.int x0, .int x1, .int x2]) ⟨hexec, hb, hml, hown, hts⟩ hM (va_cwS 3 hts (gi_S gm_624 gm_625 gm_75 gm_626) rfl rfl rfl (by decide +kernel) ⟨hfr, hlo⟩) hV hK hX hAe rfl hsz rfl hW hdg ⟨Nat.zero_le _, Nat.zero_le _⟩) hV hAe kk
theorem kc_P_P_storeAt {nL : Nat} {c0 : Cond} (hexec : p.tables.exec = Jvm.exec) (hb : c.code = cc) (hml : c.maxLocals = nL) (hown : s.vm.findClass R_P = some m.cls) (hts : ∀ w ∈ c0 :: gG, w.before args s = true) (hV : gV E KK A f s H locs) (hK : va_K (eD E) classes (eT E) s) (hX : kX E A s s.heap) (hAe : A = gA E KK s.heap.size) {i : Nat} {x1 : Int32} {Φ : KS → Prop} (hM : gMv l y_P_storeAt v_P_storeAt m_P_storeAt E KK [.ref (ea E 1 i), .int x1] f Φ) (hi0 : i < 16) (hsz : ls.size = nL) (hW : (rest.map fun v => v.category).sum ≤ 8) (hdg : decode cc pc = .ok (.invokevirtual 94, 3)) (hfr : (m_P_storeAt).frames + 1 ≤ R.frames) (hlo : 8 + (2 + 11) + (m_P_storeAt).locals ≤ R.locals)
    (kk : ∀ (u : KS) (H1 : Heap) (locs1 : List Loc), Φ u → gV E KK A u s H1 locs1 → W p l e R s m args below meth c H1 locs1 0 0 Q (F0 m (pc + 3) ls rest)) : W p l e R s m args below meth c H locs 0 0 Q (F0 m pc ls (.int x1 :: .ref (ea E 1 i) :: rest)) :=
  g_gov (g_callV (C := R_P) (cc := cc) (As := [.int x1]) ⟨hexec, hb, hml, hown, hts⟩ hM (cwV 1 hts (gi_V gm_616 gm_617 gm_618 gm_75 gm_619) rfl rfl rfl (by decide +kernel) ⟨hfr, hlo⟩) hV hK hX hAe (g_recv hK hV (kk_1 _ hi0) rfl rfl) rfl hsz rfl hW hdg ⟨Nat.zero_le _, Nat.zero_le _⟩) hV hAe kk
theorem kc_P_P_swap {nL : Nat} {c0 : Cond} (hexec : p.tables.exec = Jvm.exec) (hb : c.code = cc) (hml : c.maxLocals = nL) (hown : s.vm.findClass R_P = some m.cls) (hts : ∀ w ∈ c0 :: gG, w.before args s = true) (hV : gV E KK A f s H locs) (hK : va_K (eD E) classes (eT E) s) (hX : kX E A s s.heap) (hAe : A = gA E KK s.heap.size) {i : Nat} {Φ : KS → Prop} (hM : gMv l y_P_swap v_P_swap m_P_swap E KK [.ref (ea E 1 i)] f Φ) (hi0 : i < 16) (hsz : ls.size = nL) (hW : (rest.map fun v => v.category).sum ≤ 8) (hdg : decode cc pc = .ok (.invokevirtual 91, 3)) (hfr : (m_P_swap).frames + 1 ≤ R.frames) (hlo : 8 + (3 + 11) + (m_P_swap).locals ≤ R.locals)
    (kk : ∀ (u : KS) (H1 : Heap) (locs1 : List Loc), Φ u → gV E KK A u s H1 locs1 → W p l e R s m args below meth c H1 locs1 0 0 Q (F0 m (pc + 3) ls rest)) : W p l e R s m args below meth c H locs 0 0 Q (F0 m pc ls (.ref (ea E 1 i) :: rest)) :=
  g_gov (g_callV (C := R_P) (cc := cc) (As := []) ⟨hexec, hb, hml, hown, hts⟩ hM (cwV 0 hts (gi_V gm_611 gm_612 gm_613 gm_75 gm_614) rfl rfl rfl (by decide +kernel) ⟨hfr, hlo⟩) hV hK hX hAe (g_recv hK hV (kk_1 _ hi0) rfl rfl) rfl hsz rfl hW hdg ⟨Nat.zero_le _, Nat.zero_le _⟩) hV hAe kk
theorem kc_P_P_top {nL : Nat} {c0 : Cond} (hexec : p.tables.exec = Jvm.exec) (hb : c.code = cc) (hml : c.maxLocals = nL) (hown : s.vm.findClass R_P = some m.cls) (hts : ∀ w ∈ c0 :: gG, w.before args s = true) (hV : gV E KK A f s H locs) (hK : va_K (eD E) classes (eT E) s) (hX : kX E A s s.heap) (hAe : A = gA E KK s.heap.size) {i : Nat} {Φ : Int32 → KS → Prop} (hM : gMi l y_P_top v_P_top m_P_top E KK [.ref (ea E 1 i)] f Φ) (hi0 : i < 16) (hsz : ls.size = nL) (hW : (rest.map fun v => v.category).sum ≤ 8) (hdg : decode cc pc = .ok (.invokevirtual 79, 3)) (hfr : (m_P_top).frames + 1 ≤ R.frames) (hlo : 8 + (1 + 11) + (m_P_top).locals ≤ R.locals)
    (kk : ∀ (r : Int32) (u : KS) (H1 : Heap) (locs1 : List Loc), Φ r u → gV E KK A u s H1 locs1 → W p l e R s m args below meth c H1 locs1 0 0 Q (F0 m (pc + 3) ls (.int r :: rest))) : W p l e R s m args below meth c H locs 0 0 Q (F0 m pc ls (.ref (ea E 1 i) :: rest)) :=
  g_goi (g_callV (C := R_P) (cc := cc) (As := []) ⟨hexec, hb, hml, hown, hts⟩ hM (cwV 0 hts (gi_V gm_393 gm_394 gm_395 gm_75 gm_396) rfl rfl rfl (by decide +kernel) ⟨hfr, hlo⟩) hV hK hX hAe (g_recv hK hV (kk_1 _ hi0) rfl rfl) rfl hsz rfl hW hdg ⟨Nat.zero_le _, Nat.zero_le _⟩) hV hAe kk
theorem kc_W_W_wrap {nL : Nat} {c0 : Cond} (hexec : p.tables.exec = Jvm.exec) (hb : c.code = cc) (hml : c.maxLocals = nL) (hown : s.vm.findClass R_W = some m.cls) (hts : ∀ w ∈ c0 :: gG, w.before args s = true) (hV : gV E KK A f s H locs) (hK : va_K (eD E) classes (eT E) s) (hX : kX E A s s.heap) (hAe : A = gA E KK s.heap.size) {wi : Nat} {x1 : Int32} {Φ : Int32 → KS → Prop} (hM : gMi l y_W_wrap v_W_wrap m_W_wrap E KK [.ref (ea E 5 wi), .int x1] f Φ) (hi0 : wi < 10) (hsz : ls.size = nL) (hW : (rest.map fun v => v.category).sum ≤ 8) (hdg : decode cc pc = .ok (.invokevirtual 20, 3)) (hfr : (m_W_wrap).frames + 1 ≤ R.frames) (hlo : 8 + (2 + 11) + (m_W_wrap).locals ≤ R.locals)
    (kk : ∀ (r : Int32) (u : KS) (H1 : Heap) (locs1 : List Loc), Φ r u → gV E KK A u s H1 locs1 → W p l e R s m args below meth c H1 locs1 0 0 Q (F0 m (pc + 3) ls (.int r :: rest))) : W p l e R s m args below meth c H locs 0 0 Q (F0 m pc ls (.int x1 :: .ref (ea E 5 wi) :: rest)) :=
  g_goi (g_callV (C := R_W) (cc := cc) (As := [.int x1]) ⟨hexec, hb, hml, hown, hts⟩ hM (cwV 1 hts (gi_V gm_507 gm_508 gm_509 gm_73 gm_510) rfl rfl rfl (by decide +kernel) ⟨hfr, hlo⟩) hV hK hX hAe (g_recv hK hV (kk_5 _ hi0) rfl rfl) rfl hsz rfl hW hdg ⟨Nat.zero_le _, Nat.zero_le _⟩) hV hAe kk
theorem kc_M_M_await {nL : Nat} {c0 : Cond} (hexec : p.tables.exec = Jvm.exec) (hb : c.code = cc) (hml : c.maxLocals = nL) (hown : s.vm.findClass R_M = some m.cls) (hts : ∀ w ∈ c0 :: gG, w.before args s = true) (hV : gV E MM A f s H locs) (hK : va_K (eD E) classes (eT E) s) (hX : kX E A s s.heap) (hAe : A = gA E MM s.heap.size) {x1 : Int32} {Φ : KS → Prop} (hM : gMv l y_M_await v_M_await m_M_await E MM [.ref (ea E 20 0), .int x1] f Φ) (hsz : ls.size = nL) (hW : (rest.map fun v => v.category).sum ≤ 8) (hdg : decode cc pc = .ok (.invokevirtual 174, 3)) (hfr : (m_M_await).frames + 1 ≤ R.frames) (hlo : 8 + (3 + 11) + (m_M_await).locals ≤ R.locals)
    (kk : ∀ (u : KS) (H1 : Heap) (locs1 : List Loc), Φ u → gV E MM A u s H1 locs1 → W p l e R s m args below meth c H1 locs1 0 0 Q (F0 m (pc + 3) ls rest)) : W p l e R s m args below meth c H locs 0 0 Q (F0 m pc ls (.int x1 :: .ref (ea E 20 0) :: rest)) :=
  g_gov (g_callV (C := R_M) (cc := cc) (As := [.int x1]) ⟨hexec, hb, hml, hown, hts⟩ hM (cwV 1 hts (gi_V gm_937 gm_939 gm_64 gm_76 gm_940) rfl rfl rfl (by decide +kernel) ⟨hfr, hlo⟩) hV hK hX hAe (g_recv hK hV mm_20 rfl rfl) rfl hsz rfl hW hdg ⟨Nat.zero_le _, Nat.zero_le _⟩) hV hAe kk
theorem kc_M_M_call {nL : Nat} {c0 : Cond} (hexec : p.tables.exec = Jvm.exec) (hb : c.code = cc) (hml : c.maxLocals = nL) (hown : s.vm.findClass R_M = some m.cls) (hts : ∀ w ∈ c0 :: gG, w.before args s = true) (hV : gV E MM A f s H locs) (hK : va_K (eD E) classes (eT E) s) (hX : kX E A s s.heap) (hAe : A = gA E MM s.heap.size) {x1 : Int32} {x2 : Int32} {x3 : Int32} {x4 : Int32} {Φ : KS → Prop} (hM : gMv l y_M_call v_M_call m_M_call E MM [.ref (ea E 20 0), .int x1, .int x2, .int x3, .int x4] f Φ) (hsz : ls.size = nL) (hW : (rest.map fun v => v.category).sum ≤ 8) (hdg : decode cc pc = .ok (.invokevirtual 151, 3)) (hfr : (m_M_call).frames + 1 ≤ R.frames) (hlo : 8 + (5 + 11) + (m_M_call).locals ≤ R.locals)
    (kk : ∀ (u : KS) (H1 : Heap) (locs1 : List Loc), Φ u → gV E MM A u s H1 locs1 → W p l e R s m args below meth c H1 locs1 0 0 Q (F0 m (pc + 3) ls rest)) : W p l e R s m args below meth c H locs 0 0 Q (F0 m pc ls (.int x4 :: .int x3 :: .int x2 :: .int x1 :: .ref (ea E 20 0) :: rest)) :=
  g_gov (g_callV (C := R_M) (cc := cc) (As := [.int x1, .int x2, .int x3, .int x4]) ⟨hexec, hb, hml, hown, hts⟩ hM (cwV 4 hts (gi_V gm_909 gm_911 gm_57 gm_76 gm_912) rfl rfl rfl (by decide +kernel) ⟨hfr, hlo⟩) hV hK hX hAe (g_recv hK hV mm_20 rfl rfl) rfl hsz rfl hW hdg ⟨Nat.zero_le _, Nat.zero_le _⟩) hV hAe kk
theorem kc_M_M_descriptorOf {nL : Nat} {c0 : Cond} (hexec : p.tables.exec = Jvm.exec) (hb : c.code = cc) (hml : c.maxLocals = nL) (hown : s.vm.findClass R_M = some m.cls) (hts : ∀ w ∈ c0 :: gG, w.before args s = true) (hV : gV E MM A f s H locs) (hK : va_K (eD E) classes (eT E) s) (hX : kX E A s s.heap) (hAe : A = gA E MM s.heap.size) {x1 : Int32} {x2 : Int32} {Φ : Int32 → KS → Prop} (hM : gMi l y_M_descriptorOf v_M_descriptorOf m_M_descriptorOf E MM [.ref (ea E 20 0), .int x1, .int x2] f Φ) (hsz : ls.size = nL) (hW : (rest.map fun v => v.category).sum ≤ 8) (hdg : decode cc pc = .ok (.invokevirtual 116, 3)) (hfr : (m_M_descriptorOf).frames + 1 ≤ R.frames) (hlo : 8 + (3 + 11) + (m_M_descriptorOf).locals ≤ R.locals)
    (kk : ∀ (r : Int32) (u : KS) (H1 : Heap) (locs1 : List Loc), Φ r u → gV E MM A u s H1 locs1 → W p l e R s m args below meth c H1 locs1 0 0 Q (F0 m (pc + 3) ls (.int r :: rest))) : W p l e R s m args below meth c H locs 0 0 Q (F0 m pc ls (.int x2 :: .int x1 :: .ref (ea E 20 0) :: rest)) :=
  g_goi (g_callV (C := R_M) (cc := cc) (As := [.int x1, .int x2]) ⟨hexec, hb, hml, hown, hts⟩ hM (cwV 2 hts (gi_V gm_858 gm_860 gm_45 gm_76 gm_861) rfl rfl rfl (by decide +kernel) ⟨hfr, hlo⟩) hV hK hX hAe (g_recv hK hV mm_20 rfl rfl) rfl hsz rfl hW hdg ⟨Nat.zero_le _, Nat.zero_le _⟩) hV hAe kk
theorem kc_M_M_dup {nL : Nat} {c0 : Cond} (hexec : p.tables.exec = Jvm.exec) (hb : c.code = cc) (hml : c.maxLocals = nL) (hown : s.vm.findClass R_M = some m.cls) (hts : ∀ w ∈ c0 :: gG, w.before args s = true) (hV : gV E MM A f s H locs) (hK : va_K (eD E) classes (eT E) s) (hX : kX E A s s.heap) (hAe : A = gA E MM s.heap.size) {x1 : Int32} {x2 : Int32} {Φ : KS → Prop} (hM : gMv l y_M_dup v_M_dup m_M_dup E MM [.ref (ea E 20 0), .int x1, .int x2] f Φ) (hsz : ls.size = nL) (hW : (rest.map fun v => v.category).sum ≤ 8) (hdg : decode cc pc = .ok (.invokevirtual 183, 3)) (hfr : (m_M_dup).frames + 1 ≤ R.frames) (hlo : 8 + (4 + 11) + (m_M_dup).locals ≤ R.locals)
    (kk : ∀ (u : KS) (H1 : Heap) (locs1 : List Loc), Φ u → gV E MM A u s H1 locs1 → W p l e R s m args below meth c H1 locs1 0 0 Q (F0 m (pc + 3) ls rest)) : W p l e R s m args below meth c H locs 0 0 Q (F0 m pc ls (.int x2 :: .int x1 :: .ref (ea E 20 0) :: rest)) :=
  g_gov (g_callV (C := R_M) (cc := cc) (As := [.int x1, .int x2]) ⟨hexec, hb, hml, hown, hts⟩ hM (cwV 2 hts (gi_V gm_953 gm_955 gm_68 gm_76 gm_956) rfl rfl rfl (by decide +kernel) ⟨hfr, hlo⟩) hV hK hX hAe (g_recv hK hV mm_20 rfl rfl) rfl hsz rfl hW hdg ⟨Nat.zero_le _, Nat.zero_le _⟩) hV hAe kk
theorem kc_M_M_end {nL : Nat} {c0 : Cond} (hexec : p.tables.exec = Jvm.exec) (hb : c.code = cc) (hml : c.maxLocals = nL) (hown : s.vm.findClass R_M = some m.cls) (hts : ∀ w ∈ c0 :: gG, w.before args s = true) (hV : gV E MM A f s H locs) (hK : va_K (eD E) classes (eT E) s) (hX : kX E A s s.heap) (hAe : A = gA E MM s.heap.size) {x1 : Int32} {x2 : Int32} {Φ : KS → Prop} (hM : gMv l y_M_end v_M_end m_M_end E MM [.ref (ea E 20 0), .int x1, .int x2] f Φ) (hsz : ls.size = nL) (hW : (rest.map fun v => v.category).sum ≤ 8) (hdg : decode cc pc = .ok (.invokevirtual 140, 3)) (hfr : (m_M_end).frames + 1 ≤ R.frames) (hlo : 8 + (6 + 11) + (m_M_end).locals ≤ R.locals)
    (kk : ∀ (u : KS) (H1 : Heap) (locs1 : List Loc), Φ u → gV E MM A u s H1 locs1 → W p l e R s m args below meth c H1 locs1 0 0 Q (F0 m (pc + 3) ls rest)) : W p l e R s m args below meth c H locs 0 0 Q (F0 m pc ls (.int x2 :: .int x1 :: .ref (ea E 20 0) :: rest)) :=
  g_gov (g_callV (C := R_M) (cc := cc) (As := [.int x1, .int x2]) ⟨hexec, hb, hml, hown, hts⟩ hM (cwV 2 hts (gi_V gm_866 gm_868 gm_47 gm_76 gm_869) rfl rfl rfl (by decide +kernel) ⟨hfr, hlo⟩) hV hK hX hAe (g_recv hK hV mm_20 rfl rfl) rfl hsz rfl hW hdg ⟨Nat.zero_le _, Nat.zero_le _⟩) hV hAe kk
theorem kc_M_M_faultOf {nL : Nat} {c0 : Cond} (hexec : p.tables.exec = Jvm.exec) (hb : c.code = cc) (hml : c.maxLocals = nL) (hown : s.vm.findClass R_M = some m.cls) (hts : ∀ w ∈ c0 :: gG, w.before args s = true) (hV : gV E MM A f s H locs) (hK : va_K (eD E) classes (eT E) s) (hX : kX E A s s.heap) (hAe : A = gA E MM s.heap.size) {x1 : Int32} {Φ : Int32 → KS → Prop} (hM : gMi l y_M_faultOf v_M_faultOf m_M_faultOf E MM [.ref (ea E 20 0), .int x1] f Φ) (hsz : ls.size = nL) (hW : (rest.map fun v => v.category).sum ≤ 8) (hdg : decode cc pc = .ok (.invokevirtual 137, 3)) (hfr : (m_M_faultOf).frames + 1 ≤ R.frames) (hlo : 8 + (7 + 11) + (m_M_faultOf).locals ≤ R.locals)
    (kk : ∀ (r : Int32) (u : KS) (H1 : Heap) (locs1 : List Loc), Φ r u → gV E MM A u s H1 locs1 → W p l e R s m args below meth c H1 locs1 0 0 Q (F0 m (pc + 3) ls (.int r :: rest))) : W p l e R s m args below meth c H locs 0 0 Q (F0 m pc ls (.int x1 :: .ref (ea E 20 0) :: rest)) :=
  g_goi (g_callV (C := R_M) (cc := cc) (As := [.int x1]) ⟨hexec, hb, hml, hown, hts⟩ hM (cwV 1 hts (gi_V gm_837 gm_839 gm_42 gm_76 gm_840) rfl rfl rfl (by decide +kernel) ⟨hfr, hlo⟩) hV hK hX hAe (g_recv hK hV mm_20 rfl rfl) rfl hsz rfl hW hdg ⟨Nat.zero_le _, Nat.zero_le _⟩) hV hAe kk
theorem kc_M_M_fork {nL : Nat} {c0 : Cond} (hexec : p.tables.exec = Jvm.exec) (hb : c.code = cc) (hml : c.maxLocals = nL) (hown : s.vm.findClass R_M = some m.cls) (hts : ∀ w ∈ c0 :: gG, w.before args s = true) (hV : gV E MM A f s H locs) (hK : va_K (eD E) classes (eT E) s) (hX : kX E A s s.heap) (hAe : A = gA E MM s.heap.size) {x1 : Int32} {Φ : KS → Prop} (hM : gMv l y_M_fork v_M_fork m_M_fork E MM [.ref (ea E 20 0), .int x1] f Φ) (hsz : ls.size = nL) (hW : (rest.map fun v => v.category).sum ≤ 8) (hdg : decode cc pc = .ok (.invokevirtual 171, 3)) (hfr : (m_M_fork).frames + 1 ≤ R.frames) (hlo : 8 + (4 + 11) + (m_M_fork).locals ≤ R.locals)
    (kk : ∀ (u : KS) (H1 : Heap) (locs1 : List Loc), Φ u → gV E MM A u s H1 locs1 → W p l e R s m args below meth c H1 locs1 0 0 Q (F0 m (pc + 3) ls rest)) : W p l e R s m args below meth c H locs 0 0 Q (F0 m pc ls (.int x1 :: .ref (ea E 20 0) :: rest)) :=
  g_gov (g_callV (C := R_M) (cc := cc) (As := [.int x1]) ⟨hexec, hb, hml, hown, hts⟩ hM (cwV 1 hts (gi_V gm_933 gm_935 gm_63 gm_76 gm_936) rfl rfl rfl (by decide +kernel) ⟨hfr, hlo⟩) hV hK hX hAe (g_recv hK hV mm_20 rfl rfl) rfl hsz rfl hW hdg ⟨Nat.zero_le _, Nat.zero_le _⟩) hV hAe kk
theorem kc_M_M_freeDescriptor {nL : Nat} {c0 : Cond} (hexec : p.tables.exec = Jvm.exec) (hb : c.code = cc) (hml : c.maxLocals = nL) (hown : s.vm.findClass R_M = some m.cls) (hts : ∀ w ∈ c0 :: gG, w.before args s = true) (hV : gV E MM A f s H locs) (hK : va_K (eD E) classes (eT E) s) (hX : kX E A s s.heap) (hAe : A = gA E MM s.heap.size) {x1 : Int32} {x2 : Int32} {Φ : Int32 → KS → Prop} (hM : gMi l y_M_freeDescriptor v_M_freeDescriptor m_M_freeDescriptor E MM [.ref (ea E 20 0), .int x1, .int x2] f Φ) (hsz : ls.size = nL) (hW : (rest.map fun v => v.category).sum ≤ 8) (hdg : decode cc pc = .ok (.invokevirtual 199, 3)) (hfr : (m_M_freeDescriptor).frames + 1 ≤ R.frames) (hlo : 8 + (4 + 11) + (m_M_freeDescriptor).locals ≤ R.locals)
    (kk : ∀ (r : Int32) (u : KS) (H1 : Heap) (locs1 : List Loc), Φ r u → gV E MM A u s H1 locs1 → W p l e R s m args below meth c H1 locs1 0 0 Q (F0 m (pc + 3) ls (.int r :: rest))) : W p l e R s m args below meth c H locs 0 0 Q (F0 m pc ls (.int x2 :: .int x1 :: .ref (ea E 20 0) :: rest)) :=
  g_goi (g_callV (C := R_M) (cc := cc) (As := [.int x1, .int x2]) ⟨hexec, hb, hml, hown, hts⟩ hM (cwV 2 hts (gi_V gm_949 gm_951 gm_67 gm_76 gm_952) rfl rfl rfl (by decide +kernel) ⟨hfr, hlo⟩) hV hK hX hAe (g_recv hK hV mm_20 rfl rfl) rfl hsz rfl hW hdg ⟨Nat.zero_le _, Nat.zero_le _⟩) hV hAe kk
theorem kc_M_M_goesOn {nL : Nat} {c0 : Cond} (hexec : p.tables.exec = Jvm.exec) (hb : c.code = cc) (hml : c.maxLocals = nL) (hown : s.vm.findClass R_M = some m.cls) (hts : ∀ w ∈ c0 :: gG, w.before args s = true) (hV : gV E MM A f s H locs) (hK : va_K (eD E) classes (eT E) s) (hX : kX E A s s.heap) (hAe : A = gA E MM s.heap.size) {Φ : Int32 → KS → Prop} (hM : gMi l y_M_goesOn v_M_goesOn m_M_goesOn E MM [.ref (ea E 20 0)] f Φ) (hsz : ls.size = nL) (hW : (rest.map fun v => v.category).sum ≤ 8) (hdg : decode cc pc = .ok (.invokevirtual 208, 3)) (hfr : (m_M_goesOn).frames + 1 ≤ R.frames) (hlo : 8 + (3 + 11) + (m_M_goesOn).locals ≤ R.locals)
    (kk : ∀ (r : Int32) (u : KS) (H1 : Heap) (locs1 : List Loc), Φ r u → gV E MM A u s H1 locs1 → W p l e R s m args below meth c H1 locs1 0 0 Q (F0 m (pc + 3) ls (.int r :: rest))) : W p l e R s m args below meth c H locs 0 0 Q (F0 m pc ls (.ref (ea E 20 0) :: rest)) :=
  g_goi (g_callV (C := R_M) (cc := cc) (As := []) ⟨hexec, hb, hml, hown, hts⟩ hM (cwV 0 hts (gi_V gm_821 gm_823 gm_38 gm_76 gm_824) rfl rfl rfl (by decide +kernel) ⟨hfr, hlo⟩) hV hK hX hAe (g_recv hK hV mm_20 rfl rfl) rfl hsz rfl hW hdg ⟨Nat.zero_le _, Nat.zero_le _⟩) hV hAe kk
theorem kc_M_M_instruct {nL : Nat} {c0 : Cond} (hexec : p.tables.exec = Jvm.exec) (hb : c.code = cc) (hml : c.maxLocals = nL) (hown : s.vm.findClass R_M = some m.cls) (hts : ∀ w ∈ c0 :: gG, w.before args s = true) (hV : gV E MM A f s H locs) (hK : va_K (eD E) classes (eT E) s) (hX : kX E A s s.heap) (hAe : A = gA E MM s.heap.size) {x1 : Int32} {Φ : KS → Prop} (hM : gMv l y_M_instruct v_M_instruct m_M_instruct E MM [.ref (ea E 20 0), .int x1] f Φ) (hsz : ls.size = nL) (hW : (rest.map fun v => v.category).sum ≤ 8) (hdg : decode cc pc = .ok (.invokevirtual 205, 3)) (hfr : (m_M_instruct).frames + 1 ≤ R.frames) (hlo : 8 + (9 + 11) + (m_M_instruct).locals ≤ R.locals)
    (kk : ∀ (u : KS) (H1 : Heap) (locs1 : List Loc), Φ u → gV E MM A u s H1 locs1 → W p l e R s m args below meth c H1 locs1 0 0 Q (F0 m (pc + 3) ls rest)) : W p l e R s m args below meth c H locs 0 0 Q (F0 m pc ls (.int x1 :: .ref (ea E 20 0) :: rest)) :=
  g_gov (g_callV (C := R_M) (cc := cc) (As := [.int x1]) ⟨hexec, hb, hml, hown, hts⟩ hM (cwV 1 hts (gi_V gm_833 gm_835 gm_41 gm_76 gm_836) rfl rfl rfl (by decide +kernel) ⟨hfr, hlo⟩) hV hK hX hAe (g_recv hK hV mm_20 rfl rfl) rfl hsz rfl hW hdg ⟨Nat.zero_le _, Nat.zero_le _⟩) hV hAe kk
theorem kc_M_M_intoPipe {nL : Nat} {c0 : Cond} (hexec : p.tables.exec = Jvm.exec) (hb : c.code = cc) (hml : c.maxLocals = nL) (hown : s.vm.findClass R_M = some m.cls) (hts : ∀ w ∈ c0 :: gG, w.before args s = true) (hV : gV E MM A f s H locs) (hK : va_K (eD E) classes (eT E) s) (hX : kX E A s s.heap) (hAe : A = gA E MM s.heap.size) {x1 : Int32} {x2 : Int32} {Φ : KS → Prop} (hM : gMv l y_M_intoPipe v_M_intoPipe m_M_intoPipe E MM [.ref (ea E 20 0), .int x1, .int x2] f Φ) (hsz : ls.size = nL) (hW : (rest.map fun v => v.category).sum ≤ 8) (hdg : decode cc pc = .ok (.invokevirtual 193, 3)) (hfr : (m_M_intoPipe).frames + 1 ≤ R.frames) (hlo : 8 + (3 + 11) + (m_M_intoPipe).locals ≤ R.locals)
    (kk : ∀ (u : KS) (H1 : Heap) (locs1 : List Loc), Φ u → gV E MM A u s H1 locs1 → W p l e R s m args below meth c H1 locs1 0 0 Q (F0 m (pc + 3) ls rest)) : W p l e R s m args below meth c H locs 0 0 Q (F0 m pc ls (.int x2 :: .int x1 :: .ref (ea E 20 0) :: rest)) :=
  g_gov (g_callV (C := R_M) (cc := cc) (As := [.int x1, .int x2]) ⟨hexec, hb, hml, hown, hts⟩ hM (cwV 2 hts (gi_V gm_921 gm_923 gm_60 gm_76 gm_924) rfl rfl rfl (by decide +kernel) ⟨hfr, hlo⟩) hV hK hX hAe (g_recv hK hV mm_20 rfl rfl) rfl hsz rfl hW hdg ⟨Nat.zero_le _, Nat.zero_le _⟩) hV hAe kk
theorem kc_M_M_isPipe {nL : Nat} {c0 : Cond} (hexec : p.tables.exec = Jvm.exec) (hb : c.code = cc) (hml : c.maxLocals = nL) (hown : s.vm.findClass R_M = some m.cls) (hts : ∀ w ∈ c0 :: gG, w.before args s = true) (hV : gV E MM A f s H locs) (hK : va_K (eD E) classes (eT E) s) (hX : kX E A s s.heap) (hAe : A = gA E MM s.heap.size) {x1 : Int32} {Φ : Int32 → KS → Prop} (hM : gMi l y_M_isPipe v_M_isPipe m_M_isPipe E MM [.ref (ea E 20 0), .int x1] f Φ) (hsz : ls.size = nL) (hW : (rest.map fun v => v.category).sum ≤ 8) (hdg : decode cc pc = .ok (.invokevirtual 105, 3)) (hfr : (m_M_isPipe).frames + 1 ≤ R.frames) (hlo : 8 + (2 + 11) + (m_M_isPipe).locals ≤ R.locals)
    (kk : ∀ (r : Int32) (u : KS) (H1 : Heap) (locs1 : List Loc), Φ r u → gV E MM A u s H1 locs1 → W p l e R s m args below meth c H1 locs1 0 0 Q (F0 m (pc + 3) ls (.int r :: rest))) : W p l e R s m args below meth c H locs 0 0 Q (F0 m pc ls (.int x1 :: .ref (ea E 20 0) :: rest)) :=
  g_goi (g_callV (C := R_M) (cc := cc) (As := [.int x1]) ⟨hexec, hb, hml, hown, hts⟩ hM (cwV 1 hts (gi_V gm_890 gm_892 gm_53 gm_76 gm_893) rfl rfl rfl (by decide +kernel) ⟨hfr, hlo⟩) hV hK hX hAe (g_recv hK hV mm_20 rfl rfl) rfl hsz rfl hW hdg ⟨Nat.zero_le _, Nat.zero_le _⟩) hV hAe kk
theorem kc_M_M_isWord {nL : Nat} {c0 : Cond} (hexec : p.tables.exec = Jvm.exec) (hb : c.code = cc) (hml : c.maxLocals = nL) (hown : s.vm.findClass R_M = some m.cls) (hts : ∀ w ∈ c0 :: gG, w.before args s = true) (hV : gV E MM A f s H locs) (hK : va_K (eD E) classes (eT E) s) (hX : kX E A s s.heap) (hAe : A = gA E MM s.heap.size) {x0 : Int32} {Φ : Int32 → KS → Prop} (hM : gMi l y_M_isWord v_M_isWord m_M_isWord E MM [.int x0] f Φ) (hsz : ls.size = nL) (hW : (rest.map fun v => v.category).sum ≤ 8) (hdg : decode cc pc = .ok (.invokestatic 125, 3)) (hfr : (m_M_isWord).frames + 1 ≤ R.frames) (hlo : 8 + (1 + 11) + (m_M_isWord).locals ≤ R.locals)
    (kk : ∀ (r : Int32) (u : KS) (H1 : Heap) (locs1 : List Loc), Φ r u → gV E MM A u s H1 locs1 → W p l e R s m args below meth c H1 locs1 0 0 Q (F0 m (pc + 3) ls (.int r :: rest))) : W p l e R s m args below meth c H locs 0 0 Q (F0 m pc ls (.int x0 :: rest)) :=
  g_goi (g_callS (cc := cc) (As := [.int x0]) ⟨hexec, hb, hml, hown, hts⟩ hM (va_cwS 1 hts (gi_S gm_841 gm_842 gm_76 gm_843) rfl rfl rfl (by decide +kernel) ⟨hfr, hlo⟩) hV hK hX hAe rfl hsz rfl hW hdg ⟨Nat.zero_le _, Nat.zero_le _⟩) hV hAe kk
theorem kc_M_M_kill {nL : Nat} {c0 : Cond} (hexec : p.tables.exec = Jvm.exec) (hb : c.code = cc) (hml : c.maxLocals = nL) (hown : s.vm.findClass R_M = some m.cls) (hts : ∀ w ∈ c0 :: gG, w.before args s = true) (hV : gV E MM A f s H locs) (hK : va_K (eD E) classes (eT E) s) (hX : kX E A s s.heap) (hAe : A = gA E MM s.heap.size) {x1 : Int32} {x2 : Int32} {Φ : KS → Prop} (hM : gMv l y_M_kill v_M_kill m_M_kill E MM [.ref (ea E 20 0), .int x1, .int x2] f Φ) (hsz : ls.size = nL) (hW : (rest.map fun v => v.category).sum ≤ 8) (hdg : decode cc pc = .ok (.invokevirtual 177, 3)) (hfr : (m_M_kill).frames + 1 ≤ R.frames) (hlo : 8 + (4 + 11) + (m_M_kill).locals ≤ R.locals)
    (kk : ∀ (u : KS) (H1 : Heap) (locs1 : List Loc), Φ u → gV E MM A u s H1 locs1 → W p l e R s m args below meth c H1 locs1 0 0 Q (F0 m (pc + 3) ls rest)) : W p l e R s m args below meth c H locs 0 0 Q (F0 m pc ls (.int x2 :: .int x1 :: .ref (ea E 20 0) :: rest)) :=
  g_gov (g_callV (C := R_M) (cc := cc) (As := [.int x1, .int x2]) ⟨hexec, hb, hml, hown, hts⟩ hM (cwV 2 hts (gi_V gm_941 gm_943 gm_65 gm_76 gm_944) rfl rfl rfl (by decide +kernel) ⟨hfr, hlo⟩) hV hK hX hAe (g_recv hK hV mm_20 rfl rfl) rfl hsz rfl hW hdg ⟨Nat.zero_le _, Nat.zero_le _⟩) hV hAe kk
theorem kc_M_M_leaveQueue {nL : Nat} {c0 : Cond} (hexec : p.tables.exec = Jvm.exec) (hb : c.code = cc) (hml : c.maxLocals = nL) (hown : s.vm.findClass R_M = some m.cls) (hts : ∀ w ∈ c0 :: gG, w.before args s = true) (hV : gV E MM A f s H locs) (hK : va_K (eD E) classes (eT E) s) (hX : kX E A s s.heap) (hAe : A = gA E MM s.heap.size) {x1 : Int32} {Φ : KS → Prop} (hM : gMv l y_M_leaveQueue v_M_leaveQueue m_M_leaveQueue E MM [.ref (ea E 20 0), .int x1] f Φ) (hsz : ls.size = nL) (hW : (rest.map fun v => v.category).sum ≤ 8) (hdg : decode cc pc = .ok (.invokevirtual 85, 3)) (hfr : (m_M_leaveQueue).frames + 1 ≤ R.frames) (hlo : 8 + (5 + 11) + (m_M_leaveQueue).locals ≤ R.locals)
    (kk : ∀ (u : KS) (H1 : Heap) (locs1 : List Loc), Φ u → gV E MM A u s H1 locs1 → W p l e R s m args below meth c H1 locs1 0 0 Q (F0 m (pc + 3) ls rest)) : W p l e R s m args below meth c H locs 0 0 Q (F0 m pc ls (.int x1 :: .ref (ea E 20 0) :: rest)) :=
  g_gov (g_callV (C := R_M) (cc := cc) (As := [.int x1]) ⟨hexec, hb, hml, hown, hts⟩ hM (cwV 1 hts (gi_V gm_870 gm_872 gm_48 gm_76 gm_873) rfl rfl rfl (by decide +kernel) ⟨hfr, hlo⟩) hV hK hX hAe (g_recv hK hV mm_20 rfl rfl) rfl hsz rfl hW hdg ⟨Nat.zero_le _, Nat.zero_le _⟩) hV hAe kk
theorem kc_M_M_leaveRow {nL : Nat} {c0 : Cond} (hexec : p.tables.exec = Jvm.exec) (hb : c.code = cc) (hml : c.maxLocals = nL) (hown : s.vm.findClass R_M = some m.cls) (hts : ∀ w ∈ c0 :: gG, w.before args s = true) (hV : gV E MM A f s H locs) (hK : va_K (eD E) classes (eT E) s) (hX : kX E A s s.heap) (hAe : A = gA E MM s.heap.size) {x1 : Int32} {x2 : Int32} {Φ : KS → Prop} (hM : gMv l y_M_leaveRow v_M_leaveRow m_M_leaveRow E MM [.ref (ea E 20 0), .int x1, .int x2] f Φ) (hsz : ls.size = nL) (hW : (rest.map fun v => v.category).sum ≤ 8) (hdg : decode cc pc = .ok (.invokevirtual 91, 3)) (hfr : (m_M_leaveRow).frames + 1 ≤ R.frames) (hlo : 8 + (5 + 11) + (m_M_leaveRow).locals ≤ R.locals)
    (kk : ∀ (u : KS) (H1 : Heap) (locs1 : List Loc), Φ u → gV E MM A u s H1 locs1 → W p l e R s m args below meth c H1 locs1 0 0 Q (F0 m (pc + 3) ls rest)) : W p l e R s m args below meth c H locs 0 0 Q (F0 m pc ls (.int x2 :: .int x1 :: .ref (ea E 20 0) :: rest)) :=
  g_gov (g_callV (C := R_M) (cc := cc) (As := [.int x1, .int x2]) ⟨hexec, hb, hml, hown, hts⟩ hM (cwV 2 hts (gi_V gm_874 gm_876 gm_49 gm_76 gm_877) rfl rfl rfl (by decide +kernel) ⟨hfr, hlo⟩) hV hK hX hAe (g_recv hK hV mm_20 rfl rfl) rfl hsz rfl hW hdg ⟨Nat.zero_le _, Nat.zero_le _⟩) hV hAe kk
theorem kc_M_M_looks {nL : Nat} {c0 : Cond} (hexec : p.tables.exec = Jvm.exec) (hb : c.code = cc) (hml : c.maxLocals = nL) (hown : s.vm.findClass R_M = some m.cls) (hts : ∀ w ∈ c0 :: gG, w.before args s = true) (hV : gV E MM A f s H locs) (hK : va_K (eD E) classes (eT E) s) (hX : kX E A s s.heap) (hAe : A = gA E MM s.heap.size) {x0 : Int32} {Φ : Int32 → KS → Prop} (hM : gMi l y_M_looks v_M_looks m_M_looks E MM [.int x0] f Φ) (hsz : ls.size = nL) (hW : (rest.map fun v => v.category).sum ≤ 8) (hdg : decode cc pc = .ok (.invokestatic 128, 3)) (hfr : (m_M_looks).frames + 1 ≤ R.frames) (hlo : 8 + (1 + 11) + (m_M_looks).locals ≤ R.locals)
    (kk : ∀ (r : Int32) (u : KS) (H1 : Heap) (locs1 : List Loc), Φ r u → gV E MM A u s H1 locs1 → W p l e R s m args below meth c H1 locs1 0 0 Q (F0 m (pc + 3) ls (.int r :: rest))) : W p l e R s m args below meth c H locs 0 0 Q (F0 m pc ls (.int x0 :: rest)) :=
  g_goi (g_callS (cc := cc) (As := [.int x0]) ⟨hexec, hb, hml, hown, hts⟩ hM (va_cwS 1 hts (gi_S gm_844 gm_845 gm_76 gm_846) rfl rfl rfl (by decide +kernel) ⟨hfr, hlo⟩) hV hK hX hAe rfl hsz rfl hW hdg ⟨Nat.zero_le _, Nat.zero_le _⟩) hV hAe kk
theorem kc_M_M_makePipe {nL : Nat} {c0 : Cond} (hexec : p.tables.exec = Jvm.exec) (hb : c.code = cc) (hml : c.maxLocals = nL) (hown : s.vm.findClass R_M = some m.cls) (hts : ∀ w ∈ c0 :: gG, w.before args s = true) (hV : gV E MM A f s H locs) (hK : va_K (eD E) classes (eT E) s) (hX : kX E A s s.heap) (hAe : A = gA E MM s.heap.size) {x1 : Int32} {Φ : KS → Prop} (hM : gMv l y_M_makePipe v_M_makePipe m_M_makePipe E MM [.ref (ea E 20 0), .int x1] f Φ) (hsz : ls.size = nL) (hW : (rest.map fun v => v.category).sum ≤ 8) (hdg : decode cc pc = .ok (.invokevirtual 180, 3)) (hfr : (m_M_makePipe).frames + 1 ≤ R.frames) (hlo : 8 + (5 + 11) + (m_M_makePipe).locals ≤ R.locals)
    (kk : ∀ (u : KS) (H1 : Heap) (locs1 : List Loc), Φ u → gV E MM A u s H1 locs1 → W p l e R s m args below meth c H1 locs1 0 0 Q (F0 m (pc + 3) ls rest)) : W p l e R s m args below meth c H locs 0 0 Q (F0 m pc ls (.int x1 :: .ref (ea E 20 0) :: rest)) :=
  g_gov (g_callV (C := R_M) (cc := cc) (As := [.int x1]) ⟨hexec, hb, hml, hown, hts⟩ hM (cwV 1 hts (gi_V gm_945 gm_947 gm_66 gm_76 gm_948) rfl rfl rfl (by decide +kernel) ⟨hfr, hlo⟩) hV hK hX hAe (g_recv hK hV mm_20 rfl rfl) rfl hsz rfl hW hdg ⟨Nat.zero_le _, Nat.zero_le _⟩) hV hAe kk
theorem kc_M_M_many {nL : Nat} {c0 : Cond} (hexec : p.tables.exec = Jvm.exec) (hb : c.code = cc) (hml : c.maxLocals = nL) (hown : s.vm.findClass R_M = some m.cls) (hts : ∀ w ∈ c0 :: gG, w.before args s = true) (hV : gV E MM A f s H locs) (hK : va_K (eD E) classes (eT E) s) (hX : kX E A s s.heap) (hAe : A = gA E MM s.heap.size) {x1 : Int32} {Φ : Int32 → KS → Prop} (hM : gMi l y_M_many v_M_many m_M_many E MM [.ref (ea E 20 0), .int x1] f Φ) (hsz : ls.size = nL) (hW : (rest.map fun v => v.category).sum ≤ 8) (hdg : decode cc pc = .ok (.invokevirtual 98, 3)) (hfr : (m_M_many).frames + 1 ≤ R.frames) (hlo : 8 + (4 + 11) + (m_M_many).locals ≤ R.locals)
    (kk : ∀ (r : Int32) (u : KS) (H1 : Heap) (locs1 : List Loc), Φ r u → gV E MM A u s H1 locs1 → W p l e R s m args below meth c H1 locs1 0 0 Q (F0 m (pc + 3) ls (.int r :: rest))) : W p l e R s m args below meth c H locs 0 0 Q (F0 m pc ls (.int x1 :: .ref (ea E 20 0) :: rest)) :=
  g_goi (g_callV (C := R_M) (cc := cc) (As := [.int x1]) ⟨hexec, hb, hml, hown, hts⟩ hM (cwV 1 hts (gi_V gm_862 gm_864 gm_46 gm_76 gm_865) rfl rfl rfl (by decide +kernel) ⟨hfr, hlo⟩) hV hK hX hAe (g_recv hK hV mm_20 rfl rfl) rfl hsz rfl hW hdg ⟨Nat.zero_le _, Nat.zero_le _⟩) hV hAe kk
theorem kc_M_M_noProcess {nL : Nat} {c0 : Cond} (hexec : p.tables.exec = Jvm.exec) (hb : c.code = cc) (hml : c.maxLocals = nL) (hown : s.vm.findClass R_M = some m.cls) (hts : ∀ w ∈ c0 :: gG, w.before args s = true) (hV : gV E MM A f s H locs) (hK : va_K (eD E) classes (eT E) s) (hX : kX E A s s.heap) (hAe : A = gA E MM s.heap.size) {x1 : Int32} {Φ : Int32 → KS → Prop} (hM : gMi l y_M_noProcess v_M_noProcess m_M_noProcess E MM [.ref (ea E 20 0), .int x1] f Φ) (hsz : ls.size = nL) (hW : (rest.map fun v => v.category).sum ≤ 8) (hdg : decode cc pc = .ok (.invokevirtual 215, 3)) (hfr : (m_M_noProcess).frames + 1 ≤ R.frames) (hlo : 8 + (2 + 11) + (m_M_noProcess).locals ≤ R.locals)
    (kk : ∀ (r : Int32) (u : KS) (H1 : Heap) (locs1 : List Loc), Φ r u → gV E MM A u s H1 locs1 → W p l e R s m args below meth c H1 locs1 0 0 Q (F0 m (pc + 3) ls (.int r :: rest))) : W p l e R s m args below meth c H locs 0 0 Q (F0 m pc ls (.int x1 :: .ref (ea E 20 0) :: rest)) :=
  g_goi (g_callV (C := R_M) (cc := cc) (As := [.int x1]) ⟨hexec, hb, hml, hown, hts⟩ hM (cwV 1 hts (gi_V gm_974 gm_976 gm_69 gm_76 gm_977) rfl rfl rfl (by decide +kernel) ⟨hfr, hlo⟩) hV hK hX hAe (g_recv hK hV mm_20 rfl rfl) rfl hsz rfl hW hdg ⟨Nat.zero_le _, Nat.zero_le _⟩) hV hAe kk
theorem kc_M_M_notThere {nL : Nat} {c0 : Cond} (hexec : p.tables.exec = Jvm.exec) (hb : c.code = cc) (hml : c.maxLocals = nL) (hown : s.vm.findClass R_M = some m.cls) (hts : ∀ w ∈ c0 :: gG, w.before args s = true) (hV : gV E MM A f s H locs) (hK : va_K (eD E) classes (eT E) s) (hX : kX E A s s.heap) (hAe : A = gA E MM s.heap.size) {x1 : Int32} {Φ : Int32 → KS → Prop} (hM : gMi l y_M_notThere v_M_notThere m_M_notThere E MM [.ref (ea E 20 0), .int x1] f Φ) (hsz : ls.size = nL) (hW : (rest.map fun v => v.category).sum ≤ 8) (hdg : decode cc pc = .ok (.invokevirtual 218, 3)) (hfr : (m_M_notThere).frames + 1 ≤ R.frames) (hlo : 8 + (2 + 11) + (m_M_notThere).locals ≤ R.locals)
    (kk : ∀ (r : Int32) (u : KS) (H1 : Heap) (locs1 : List Loc), Φ r u → gV E MM A u s H1 locs1 → W p l e R s m args below meth c H1 locs1 0 0 Q (F0 m (pc + 3) ls (.int r :: rest))) : W p l e R s m args below meth c H locs 0 0 Q (F0 m pc ls (.int x1 :: .ref (ea E 20 0) :: rest)) :=
  g_goi (g_callV (C := R_M) (cc := cc) (As := [.int x1]) ⟨hexec, hb, hml, hown, hts⟩ hM (cwV 1 hts (gi_V gm_986 gm_988 gm_70 gm_76 gm_989) rfl rfl rfl (by decide +kernel) ⟨hfr, hlo⟩) hV hK hX hAe (g_recv hK hV mm_20 rfl rfl) rfl hsz rfl hW hdg ⟨Nat.zero_le _, Nat.zero_le _⟩) hV hAe kk
theorem kc_M_M_outOfPipe {nL : Nat} {c0 : Cond} (hexec : p.tables.exec = Jvm.exec) (hb : c.code = cc) (hml : c.maxLocals = nL) (hown : s.vm.findClass R_M = some m.cls) (hts : ∀ w ∈ c0 :: gG, w.before args s = true) (hV : gV E MM A f s H locs) (hK : va_K (eD E) classes (eT E) s) (hX : kX E A s s.heap) (hAe : A = gA E MM s.heap.size) {x1 : Int32} {Φ : Int32 → KS → Prop} (hM : gMi l y_M_outOfPipe v_M_outOfPipe m_M_outOfPipe E MM [.ref (ea E 20 0), .int x1] f Φ) (hsz : ls.size = nL) (hW : (rest.map fun v => v.category).sum ≤ 8) (hdg : decode cc pc = .ok (.invokevirtual 196, 3)) (hfr : (m_M_outOfPipe).frames + 1 ≤ R.frames) (hlo : 8 + (4 + 11) + (m_M_outOfPipe).locals ≤ R.locals)
    (kk : ∀ (r : Int32) (u : KS) (H1 : Heap) (locs1 : List Loc), Φ r u → gV E MM A u s H1 locs1 → W p l e R s m args below meth c H1 locs1 0 0 Q (F0 m (pc + 3) ls (.int r :: rest))) : W p l e R s m args below meth c H locs 0 0 Q (F0 m pc ls (.int x1 :: .ref (ea E 20 0) :: rest)) :=
  g_goi (g_callV (C := R_M) (cc := cc) (As := [.int x1]) ⟨hexec, hb, hml, hown, hts⟩ hM (cwV 1 hts (gi_V gm_929 gm_931 gm_62 gm_76 gm_932) rfl rfl rfl (by decide +kernel) ⟨hfr, hlo⟩) hV hK hX hAe (g_recv hK hV mm_20 rfl rfl) rfl hsz rfl hW hdg ⟨Nat.zero_le _, Nat.zero_le _⟩) hV hAe kk
theorem kc_M_M_plain {nL : Nat} {c0 : Cond} (hexec : p.tables.exec = Jvm.exec) (hb : c.code = cc) (hml : c.maxLocals = nL) (hown : s.vm.findClass R_M = some m.cls) (hts : ∀ w ∈ c0 :: gG, w.before args s = true) (hV : gV E MM A f s H locs) (hK : va_K (eD E) classes (eT E) s) (hX : kX E A s s.heap) (hAe : A = gA E MM s.heap.size) {x1 : Int32} {x2 : Int32} {x3 : Int32} {x4 : Int32} {x5 : Int32} {Φ : KS → Prop} (hM : gMv l y_M_plain v_M_plain m_M_plain E MM [.ref (ea E 20 0), .int x1, .int x2, .int x3, .int x4, .int x5] f Φ) (hsz : ls.size = nL) (hW : (rest.map fun v => v.category).sum ≤ 8) (hdg : decode cc pc = .ok (.invokevirtual 147, 3)) (hfr : (m_M_plain).frames + 1 ≤ R.frames) (hlo : 8 + (7 + 11) + (m_M_plain).locals ≤ R.locals)
    (kk : ∀ (u : KS) (H1 : Heap) (locs1 : List Loc), Φ u → gV E MM A u s H1 locs1 → W p l e R s m args below meth c H1 locs1 0 0 Q (F0 m (pc + 3) ls rest)) : W p l e R s m args below meth c H locs 0 0 Q (F0 m pc ls (.int x5 :: .int x4 :: .int x3 :: .int x2 :: .int x1 :: .ref (ea E 20 0) :: rest)) :=
  g_gov (g_callV (C := R_M) (cc := cc) (As := [.int x1, .int x2, .int x3, .int x4, .int x5]) ⟨hexec, hb, hml, hown, hts⟩ hM (cwV 5 hts (gi_V gm_898 gm_900 gm_55 gm_76 gm_901) rfl rfl rfl (by decide +kernel) ⟨hfr, hlo⟩) hV hK hX hAe (g_recv hK hV mm_20 rfl rfl) rfl hsz rfl hW hdg ⟨Nat.zero_le _, Nat.zero_le _⟩) hV hAe kk
theorem kc_M_M_push {nL : Nat} {c0 : Cond} (hexec : p.tables.exec = Jvm.exec) (hb : c.code = cc) (hml : c.maxLocals = nL) (hown : s.vm.findClass R_M = some m.cls) (hts : ∀ w ∈ c0 :: gG, w.before args s = true) (hV : gV E MM A f s H locs) (hK : va_K (eD E) classes (eT E) s) (hX : kX E A s s.heap) (hAe : A = gA E MM s.heap.size) {x1 : Int32} {x2 : Int32} {Φ : KS → Prop} (hM : gMv l y_M_push v_M_push m_M_push E MM [.ref (ea E 20 0), .int x1, .int x2] f Φ) (hsz : ls.size = nL) (hW : (rest.map fun v => v.category).sum ≤ 8) (hdg : decode cc pc = .ok (.invokevirtual 155, 3)) (hfr : (m_M_push).frames + 1 ≤ R.frames) (hlo : 8 + (3 + 11) + (m_M_push).locals ≤ R.locals)
    (kk : ∀ (u : KS) (H1 : Heap) (locs1 : List Loc), Φ u → gV E MM A u s H1 locs1 → W p l e R s m args below meth c H1 locs1 0 0 Q (F0 m (pc + 3) ls rest)) : W p l e R s m args below meth c H locs 0 0 Q (F0 m pc ls (.int x2 :: .int x1 :: .ref (ea E 20 0) :: rest)) :=
  g_gov (g_callV (C := R_M) (cc := cc) (As := [.int x1, .int x2]) ⟨hexec, hb, hml, hown, hts⟩ hM (cwV 2 hts (gi_V gm_902 gm_904 gm_56 gm_76 gm_905) rfl rfl rfl (by decide +kernel) ⟨hfr, hlo⟩) hV hK hX hAe (g_recv hK hV mm_20 rfl rfl) rfl hsz rfl hW hdg ⟨Nat.zero_le _, Nat.zero_le _⟩) hV hAe kk
theorem kc_M_M_pushes {nL : Nat} {c0 : Cond} (hexec : p.tables.exec = Jvm.exec) (hb : c.code = cc) (hml : c.maxLocals = nL) (hown : s.vm.findClass R_M = some m.cls) (hts : ∀ w ∈ c0 :: gG, w.before args s = true) (hV : gV E MM A f s H locs) (hK : va_K (eD E) classes (eT E) s) (hX : kX E A s s.heap) (hAe : A = gA E MM s.heap.size) {x0 : Int32} {Φ : Int32 → KS → Prop} (hM : gMi l y_M_pushes v_M_pushes m_M_pushes E MM [.int x0] f Φ) (hsz : ls.size = nL) (hW : (rest.map fun v => v.category).sum ≤ 8) (hdg : decode cc pc = .ok (.invokestatic 131, 3)) (hfr : (m_M_pushes).frames + 1 ≤ R.frames) (hlo : 8 + (2 + 11) + (m_M_pushes).locals ≤ R.locals)
    (kk : ∀ (r : Int32) (u : KS) (H1 : Heap) (locs1 : List Loc), Φ r u → gV E MM A u s H1 locs1 → W p l e R s m args below meth c H1 locs1 0 0 Q (F0 m (pc + 3) ls (.int r :: rest))) : W p l e R s m args below meth c H locs 0 0 Q (F0 m pc ls (.int x0 :: rest)) :=
  g_goi (g_callS (cc := cc) (As := [.int x0]) ⟨hexec, hb, hml, hown, hts⟩ hM (va_cwS 1 hts (gi_S gm_851 gm_852 gm_76 gm_853) rfl rfl rfl (by decide +kernel) ⟨hfr, hlo⟩) hV hK hX hAe rfl hsz rfl hW hdg ⟨Nat.zero_le _, Nat.zero_le _⟩) hV hAe kk
theorem kc_M_M_read {nL : Nat} {c0 : Cond} (hexec : p.tables.exec = Jvm.exec) (hb : c.code = cc) (hml : c.maxLocals = nL) (hown : s.vm.findClass R_M = some m.cls) (hts : ∀ w ∈ c0 :: gG, w.before args s = true) (hV : gV E MM A f s H locs) (hK : va_K (eD E) classes (eT E) s) (hX : kX E A s s.heap) (hAe : A = gA E MM s.heap.size) {x1 : Int32} {x2 : Int32} {Φ : KS → Prop} (hM : gMv l y_M_read v_M_read m_M_read E MM [.ref (ea E 20 0), .int x1, .int x2] f Φ) (hsz : ls.size = nL) (hW : (rest.map fun v => v.category).sum ≤ 8) (hdg : decode cc pc = .ok (.invokevirtual 168, 3)) (hfr : (m_M_read).frames + 1 ≤ R.frames) (hlo : 8 + (5 + 11) + (m_M_read).locals ≤ R.locals)
    (kk : ∀ (u : KS) (H1 : Heap) (locs1 : List Loc), Φ u → gV E MM A u s H1 locs1 → W p l e R s m args below meth c H1 locs1 0 0 Q (F0 m (pc + 3) ls rest)) : W p l e R s m args below meth c H locs 0 0 Q (F0 m pc ls (.int x2 :: .int x1 :: .ref (ea E 20 0) :: rest)) :=
  g_gov (g_callV (C := R_M) (cc := cc) (As := [.int x1, .int x2]) ⟨hexec, hb, hml, hown, hts⟩ hM (cwV 2 hts (gi_V gm_925 gm_927 gm_61 gm_76 gm_928) rfl rfl rfl (by decide +kernel) ⟨hfr, hlo⟩) hV hK hX hAe (g_recv hK hV mm_20 rfl rfl) rfl hsz rfl hW hdg ⟨Nat.zero_le _, Nat.zero_le _⟩) hV hAe kk
theorem kc_M_M_ready {nL : Nat} {c0 : Cond} (hexec : p.tables.exec = Jvm.exec) (hb : c.code = cc) (hml : c.maxLocals = nL) (hown : s.vm.findClass R_M = some m.cls) (hts : ∀ w ∈ c0 :: gG, w.before args s = true) (hV : gV E MM A f s H locs) (hK : va_K (eD E) classes (eT E) s) (hX : kX E A s s.heap) (hAe : A = gA E MM s.heap.size) {x1 : Int32} {Φ : KS → Prop} (hM : gMv l y_M_ready v_M_ready m_M_ready E MM [.ref (ea E 20 0), .int x1] f Φ) (hsz : ls.size = nL) (hW : (rest.map fun v => v.category).sum ≤ 8) (hdg : decode cc pc = .ok (.invokevirtual 75, 3)) (hfr : (m_M_ready).frames + 1 ≤ R.frames) (hlo : 8 + (2 + 11) + (m_M_ready).locals ≤ R.locals)
    (kk : ∀ (u : KS) (H1 : Heap) (locs1 : List Loc), Φ u → gV E MM A u s H1 locs1 → W p l e R s m args below meth c H1 locs1 0 0 Q (F0 m (pc + 3) ls rest)) : W p l e R s m args below meth c H locs 0 0 Q (F0 m pc ls (.int x1 :: .ref (ea E 20 0) :: rest)) :=
  g_gov (g_callV (C := R_M) (cc := cc) (As := [.int x1]) ⟨hexec, hb, hml, hown, hts⟩ hM (cwV 1 hts (gi_V gm_813 gm_815 gm_37 gm_76 gm_816) rfl rfl rfl (by decide +kernel) ⟨hfr, hlo⟩) hV hK hX hAe (g_recv hK hV mm_20 rfl rfl) rfl hsz rfl hW hdg ⟨Nat.zero_le _, Nat.zero_le _⟩) hV hAe kk
theorem kc_M_M_reckon {nL : Nat} {c0 : Cond} (hexec : p.tables.exec = Jvm.exec) (hb : c.code = cc) (hml : c.maxLocals = nL) (hown : s.vm.findClass R_M = some m.cls) (hts : ∀ w ∈ c0 :: gG, w.before args s = true) (hV : gV E MM A f s H locs) (hK : va_K (eD E) classes (eT E) s) (hX : kX E A s s.heap) (hAe : A = gA E MM s.heap.size) {x0 : Int32} {x1 : Int32} {x2 : Int32} {Φ : Int32 → KS → Prop} (hM : gMi l y_M_reckon v_M_reckon m_M_reckon E MM [.int x0, .int x1, .int x2] f Φ) (hsz : ls.size = nL) (hW : (rest.map fun v => v.category).sum ≤ 8) (hdg : decode cc pc = .ok (.invokestatic 158, 3)) (hfr : (m_M_reckon).frames + 1 ≤ R.frames) (hlo : 8 + (3 + 11) + (m_M_reckon).locals ≤ R.locals)
    (kk : ∀ (r : Int32) (u : KS) (H1 : Heap) (locs1 : List Loc), Φ r u → gV E MM A u s H1 locs1 → W p l e R s m args below meth c H1 locs1 0 0 Q (F0 m (pc + 3) ls (.int r :: rest))) : W p l e R s m args below meth c H locs 0 0 Q (F0 m pc ls (.int x2 :: .int x1 :: .int x0 :: rest)) :=
  g_goi (g_callS (cc := cc) (As := [.int x0, .int x1, .int x2]) ⟨hexec, hb, hml, hown, hts⟩ hM (va_cwS 3 hts (gi_S gm_906 gm_907 gm_76 gm_908) rfl rfl rfl (by decide +kernel) ⟨hfr, hlo⟩) hV hK hX hAe rfl hsz rfl hW hdg ⟨Nat.zero_le _, Nat.zero_le _⟩) hV hAe kk
theorem kc_M_M_rowFor {nL : Nat} {c0 : Cond} (hexec : p.tables.exec = Jvm.exec) (hb : c.code = cc) (hml : c.maxLocals = nL) (hown : s.vm.findClass R_M = some m.cls) (hts : ∀ w ∈ c0 :: gG, w.before args s = true) (hV : gV E MM A f s H locs) (hK : va_K (eD E) classes (eT E) s) (hX : kX E A s s.heap) (hAe : A = gA E MM s.heap.size) {x1 : Int32} {x2 : Int32} {Φ : Int32 → KS → Prop} (hM : gMi l y_M_rowFor v_M_rowFor m_M_rowFor E MM [.ref (ea E 20 0), .int x1, .int x2] f Φ) (hsz : ls.size = nL) (hW : (rest.map fun v => v.category).sum ≤ 8) (hdg : decode cc pc = .ok (.invokevirtual 134, 3)) (hfr : (m_M_rowFor).frames + 1 ≤ R.frames) (hlo : 8 + (6 + 11) + (m_M_rowFor).locals ≤ R.locals)
    (kk : ∀ (r : Int32) (u : KS) (H1 : Heap) (locs1 : List Loc), Φ r u → gV E MM A u s H1 locs1 → W p l e R s m args below meth c H1 locs1 0 0 Q (F0 m (pc + 3) ls (.int r :: rest))) : W p l e R s m args below meth c H locs 0 0 Q (F0 m pc ls (.int x2 :: .int x1 :: .ref (ea E 20 0) :: rest)) :=
  g_goi (g_callV (C := R_M) (cc := cc) (As := [.int x1, .int x2]) ⟨hexec, hb, hml, hown, hts⟩ hM (cwV 2 hts (gi_V gm_854 gm_856 gm_44 gm_76 gm_857) rfl rfl rfl (by decide +kernel) ⟨hfr, hlo⟩) hV hK hX hAe (g_recv hK hV mm_20 rfl rfl) rfl hsz rfl hW hdg ⟨Nat.zero_le _, Nat.zero_le _⟩) hV hAe kk
theorem kc_M_M_shutEnd {nL : Nat} {c0 : Cond} (hexec : p.tables.exec = Jvm.exec) (hb : c.code = cc) (hml : c.maxLocals = nL) (hown : s.vm.findClass R_M = some m.cls) (hts : ∀ w ∈ c0 :: gG, w.before args s = true) (hV : gV E MM A f s H locs) (hK : va_K (eD E) classes (eT E) s) (hX : kX E A s s.heap) (hAe : A = gA E MM s.heap.size) {x1 : Int32} {x2 : Int32} {Φ : KS → Prop} (hM : gMv l y_M_shutEnd v_M_shutEnd m_M_shutEnd E MM [.ref (ea E 20 0), .int x1, .int x2] f Φ) (hsz : ls.size = nL) (hW : (rest.map fun v => v.category).sum ≤ 8) (hdg : decode cc pc = .ok (.invokevirtual 109, 3)) (hfr : (m_M_shutEnd).frames + 1 ≤ R.frames) (hlo : 8 + (5 + 11) + (m_M_shutEnd).locals ≤ R.locals)
    (kk : ∀ (u : KS) (H1 : Heap) (locs1 : List Loc), Φ u → gV E MM A u s H1 locs1 → W p l e R s m args below meth c H1 locs1 0 0 Q (F0 m (pc + 3) ls rest)) : W p l e R s m args below meth c H locs 0 0 Q (F0 m pc ls (.int x2 :: .int x1 :: .ref (ea E 20 0) :: rest)) :=
  g_gov (g_callV (C := R_M) (cc := cc) (As := [.int x1, .int x2]) ⟨hexec, hb, hml, hown, hts⟩ hM (cwV 2 hts (gi_V gm_878 gm_880 gm_50 gm_76 gm_881) rfl rfl rfl (by decide +kernel) ⟨hfr, hlo⟩) hV hK hX hAe (g_recv hK hV mm_20 rfl rfl) rfl hsz rfl hW hdg ⟨Nat.zero_le _, Nat.zero_le _⟩) hV hAe kk
theorem kc_M_M_stand {nL : Nat} {c0 : Cond} (hexec : p.tables.exec = Jvm.exec) (hb : c.code = cc) (hml : c.maxLocals = nL) (hown : s.vm.findClass R_M = some m.cls) (hts : ∀ w ∈ c0 :: gG, w.before args s = true) (hV : gV E MM A f s H locs) (hK : va_K (eD E) classes (eT E) s) (hX : kX E A s s.heap) (hAe : A = gA E MM s.heap.size) {x1 : Int32} {x2 : Int32} {x3 : Int32} {Φ : KS → Prop} (hM : gMv l y_M_stand v_M_stand m_M_stand E MM [.ref (ea E 20 0), .int x1, .int x2, .int x3] f Φ) (hsz : ls.size = nL) (hW : (rest.map fun v => v.category).sum ≤ 8) (hdg : decode cc pc = .ok (.invokevirtual 143, 3)) (hfr : (m_M_stand).frames + 1 ≤ R.frames) (hlo : 8 + (4 + 11) + (m_M_stand).locals ≤ R.locals)
    (kk : ∀ (u : KS) (H1 : Heap) (locs1 : List Loc), Φ u → gV E MM A u s H1 locs1 → W p l e R s m args below meth c H1 locs1 0 0 Q (F0 m (pc + 3) ls rest)) : W p l e R s m args below meth c H locs 0 0 Q (F0 m pc ls (.int x3 :: .int x2 :: .int x1 :: .ref (ea E 20 0) :: rest)) :=
  g_gov (g_callV (C := R_M) (cc := cc) (As := [.int x1, .int x2, .int x3]) ⟨hexec, hb, hml, hown, hts⟩ hM (cwV 3 hts (gi_V gm_894 gm_896 gm_54 gm_76 gm_897) rfl rfl rfl (by decide +kernel) ⟨hfr, hlo⟩) hV hK hX hAe (g_recv hK hV mm_20 rfl rfl) rfl hsz rfl hW hdg ⟨Nat.zero_le _, Nat.zero_le _⟩) hV hAe kk
theorem kc_M_M_step {nL : Nat} {c0 : Cond} (hexec : p.tables.exec = Jvm.exec) (hb : c.code = cc) (hml : c.maxLocals = nL) (hown : s.vm.findClass R_M = some m.cls) (hts : ∀ w ∈ c0 :: gG, w.before args s = true) (hV : gV E MM A f s H locs) (hK : va_K (eD E) classes (eT E) s) (hX : kX E A s s.heap) (hAe : A = gA E MM s.heap.size) {Φ : KS → Prop} (hM : gMv l y_M_step v_M_step m_M_step E MM [.ref (ea E 20 0)] f Φ) (hsz : ls.size = nL) (hW : (rest.map fun v => v.category).sum ≤ 8) (hdg : decode cc pc = .ok (.invokevirtual 212, 3)) (hfr : (m_M_step).frames + 1 ≤ R.frames) (hlo : 8 + (2 + 11) + (m_M_step).locals ≤ R.locals)
    (kk : ∀ (u : KS) (H1 : Heap) (locs1 : List Loc), Φ u → gV E MM A u s H1 locs1 → W p l e R s m args below meth c H1 locs1 0 0 Q (F0 m (pc + 3) ls rest)) : W p l e R s m args below meth c H locs 0 0 Q (F0 m pc ls (.ref (ea E 20 0) :: rest)) :=
  g_gov (g_callV (C := R_M) (cc := cc) (As := []) ⟨hexec, hb, hml, hown, hts⟩ hM (cwV 0 hts (gi_V gm_825 gm_827 gm_39 gm_76 gm_828) rfl rfl rfl (by decide +kernel) ⟨hfr, hlo⟩) hV hK hX hAe (g_recv hK hV mm_20 rfl rfl) rfl hsz rfl hW hdg ⟨Nat.zero_le _, Nat.zero_le _⟩) hV hAe kk
theorem kc_M_M_toEnd {nL : Nat} {c0 : Cond} (hexec : p.tables.exec = Jvm.exec) (hb : c.code = cc) (hml : c.maxLocals = nL) (hown : s.vm.findClass R_M = some m.cls) (hts : ∀ w ∈ c0 :: gG, w.before args s = true) (hV : gV E MM A f s H locs) (hK : va_K (eD E) classes (eT E) s) (hX : kX E A s s.heap) (hAe : A = gA E MM s.heap.size) {x1 : Int32} {Φ : KS → Prop} (hM : gMv l y_M_toEnd v_M_toEnd m_M_toEnd E MM [.ref (ea E 20 0), .int x1] f Φ) (hsz : ls.size = nL) (hW : (rest.map fun v => v.category).sum ≤ 8) (hdg : decode cc pc = .ok (.invokevirtual 162, 3)) (hfr : (m_M_toEnd).frames + 1 ≤ R.frames) (hlo : 8 + (2 + 11) + (m_M_toEnd).locals ≤ R.locals)
    (kk : ∀ (u : KS) (H1 : Heap) (locs1 : List Loc), Φ u → gV E MM A u s H1 locs1 → W p l e R s m args below meth c H1 locs1 0 0 Q (F0 m (pc + 3) ls rest)) : W p l e R s m args below meth c H locs 0 0 Q (F0 m pc ls (.int x1 :: .ref (ea E 20 0) :: rest)) :=
  g_gov (g_callV (C := R_M) (cc := cc) (As := [.int x1]) ⟨hexec, hb, hml, hown, hts⟩ hM (cwV 1 hts (gi_V gm_913 gm_915 gm_58 gm_76 gm_916) rfl rfl rfl (by decide +kernel) ⟨hfr, hlo⟩) hV hK hX hAe (g_recv hK hV mm_20 rfl rfl) rfl hsz rfl hW hdg ⟨Nat.zero_le _, Nat.zero_le _⟩) hV hAe kk
theorem kc_M_M_top {nL : Nat} {c0 : Cond} (hexec : p.tables.exec = Jvm.exec) (hb : c.code = cc) (hml : c.maxLocals = nL) (hown : s.vm.findClass R_M = some m.cls) (hts : ∀ w ∈ c0 :: gG, w.before args s = true) (hV : gV E MM A f s H locs) (hK : va_K (eD E) classes (eT E) s) (hX : kX E A s s.heap) (hAe : A = gA E MM s.heap.size) {x1 : Int32} {x2 : Int32} {Φ : Int32 → KS → Prop} (hM : gMi l y_M_top v_M_top m_M_top E MM [.ref (ea E 20 0), .int x1, .int x2] f Φ) (hsz : ls.size = nL) (hW : (rest.map fun v => v.category).sum ≤ 8) (hdg : decode cc pc = .ok (.invokevirtual 112, 3)) (hfr : (m_M_top).frames + 1 ≤ R.frames) (hlo : 8 + (3 + 11) + (m_M_top).locals ≤ R.locals)
    (kk : ∀ (r : Int32) (u : KS) (H1 : Heap) (locs1 : List Loc), Φ r u → gV E MM A u s H1 locs1 → W p l e R s m args below meth c H1 locs1 0 0 Q (F0 m (pc + 3) ls (.int r :: rest))) : W p l e R s m args below meth c H locs 0 0 Q (F0 m pc ls (.int x2 :: .int x1 :: .ref (ea E 20 0) :: rest)) :=
  g_goi (g_callV (C := R_M) (cc := cc) (As := [.int x1, .int x2]) ⟨hexec, hb, hml, hown, hts⟩ hM (cwV 2 hts (gi_V gm_847 gm_849 gm_43 gm_76 gm_850) rfl rfl rfl (by decide +kernel) ⟨hfr, hlo⟩) hV hK hX hAe (g_recv hK hV mm_20 rfl rfl) rfl hsz rfl hW hdg ⟨Nat.zero_le _, Nat.zero_le _⟩) hV hAe kk
theorem kc_M_M_wakeAll {nL : Nat} {c0 : Cond} (hexec : p.tables.exec = Jvm.exec) (hb : c.code = cc) (hml : c.maxLocals = nL) (hown : s.vm.findClass R_M = some m.cls) (hts : ∀ w ∈ c0 :: gG, w.before args s = true) (hV : gV E MM A f s H locs) (hK : va_K (eD E) classes (eT E) s) (hX : kX E A s s.heap) (hAe : A = gA E MM s.heap.size) {x1 : Int32} {Φ : KS → Prop} (hM : gMv l y_M_wakeAll v_M_wakeAll m_M_wakeAll E MM [.ref (ea E 20 0), .int x1] f Φ) (hsz : ls.size = nL) (hW : (rest.map fun v => v.category).sum ≤ 8) (hdg : decode cc pc = .ok (.invokevirtual 102, 3)) (hfr : (m_M_wakeAll).frames + 1 ≤ R.frames) (hlo : 8 + (2 + 11) + (m_M_wakeAll).locals ≤ R.locals)
    (kk : ∀ (u : KS) (H1 : Heap) (locs1 : List Loc), Φ u → gV E MM A u s H1 locs1 → W p l e R s m args below meth c H1 locs1 0 0 Q (F0 m (pc + 3) ls rest)) : W p l e R s m args below meth c H locs 0 0 Q (F0 m pc ls (.int x1 :: .ref (ea E 20 0) :: rest)) :=
  g_gov (g_callV (C := R_M) (cc := cc) (As := [.int x1]) ⟨hexec, hb, hml, hown, hts⟩ hM (cwV 1 hts (gi_V gm_882 gm_884 gm_51 gm_76 gm_885) rfl rfl rfl (by decide +kernel) ⟨hfr, hlo⟩) hV hK hX hAe (g_recv hK hV mm_20 rfl rfl) rfl hsz rfl hW hdg ⟨Nat.zero_le _, Nat.zero_le _⟩) hV hAe kk
theorem kc_M_M_wakeFirst {nL : Nat} {c0 : Cond} (hexec : p.tables.exec = Jvm.exec) (hb : c.code = cc) (hml : c.maxLocals = nL) (hown : s.vm.findClass R_M = some m.cls) (hts : ∀ w ∈ c0 :: gG, w.before args s = true) (hV : gV E MM A f s H locs) (hK : va_K (eD E) classes (eT E) s) (hX : kX E A s s.heap) (hAe : A = gA E MM s.heap.size) {x1 : Int32} {Φ : KS → Prop} (hM : gMv l y_M_wakeFirst v_M_wakeFirst m_M_wakeFirst E MM [.ref (ea E 20 0), .int x1] f Φ) (hsz : ls.size = nL) (hW : (rest.map fun v => v.category).sum ≤ 8) (hdg : decode cc pc = .ok (.invokevirtual 95, 3)) (hfr : (m_M_wakeFirst).frames + 1 ≤ R.frames) (hlo : 8 + (3 + 11) + (m_M_wakeFirst).locals ≤ R.locals)
    (kk : ∀ (u : KS) (H1 : Heap) (locs1 : List Loc), Φ u → gV E MM A u s H1 locs1 → W p l e R s m args below meth c H1 locs1 0 0 Q (F0 m (pc + 3) ls rest)) : W p l e R s m args below meth c H locs 0 0 Q (F0 m pc ls (.int x1 :: .ref (ea E 20 0) :: rest)) :=
  g_gov (g_callV (C := R_M) (cc := cc) (As := [.int x1]) ⟨hexec, hb, hml, hown, hts⟩ hM (cwV 1 hts (gi_V gm_886 gm_888 gm_52 gm_76 gm_889) rfl rfl rfl (by decide +kernel) ⟨hfr, hlo⟩) hV hK hX hAe (g_recv hK hV mm_20 rfl rfl) rfl hsz rfl hW hdg ⟨Nat.zero_le _, Nat.zero_le _⟩) hV hAe kk
theorem kc_M_M_wakeSleepers {nL : Nat} {c0 : Cond} (hexec : p.tables.exec = Jvm.exec) (hb : c.code = cc) (hml : c.maxLocals = nL) (hown : s.vm.findClass R_M = some m.cls) (hts : ∀ w ∈ c0 :: gG, w.before args s = true) (hV : gV E MM A f s H locs) (hK : va_K (eD E) classes (eT E) s) (hX : kX E A s s.heap) (hAe : A = gA E MM s.heap.size) {Φ : KS → Prop} (hM : gMv l y_M_wakeSleepers v_M_wakeSleepers m_M_wakeSleepers E MM [.ref (ea E 20 0)] f Φ) (hsz : ls.size = nL) (hW : (rest.map fun v => v.category).sum ≤ 8) (hdg : decode cc pc = .ok (.invokevirtual 202, 3)) (hfr : (m_M_wakeSleepers).frames + 1 ≤ R.frames) (hlo : 8 + (4 + 11) + (m_M_wakeSleepers).locals ≤ R.locals)
    (kk : ∀ (u : KS) (H1 : Heap) (locs1 : List Loc), Φ u → gV E MM A u s H1 locs1 → W p l e R s m args below meth c H1 locs1 0 0 Q (F0 m (pc + 3) ls rest)) : W p l e R s m args below meth c H locs 0 0 Q (F0 m pc ls (.ref (ea E 20 0) :: rest)) :=
  g_gov (g_callV (C := R_M) (cc := cc) (As := []) ⟨hexec, hb, hml, hown, hts⟩ hM (cwV 0 hts (gi_V gm_829 gm_831 gm_40 gm_76 gm_832) rfl rfl rfl (by decide +kernel) ⟨hfr, hlo⟩) hV hK hX hAe (g_recv hK hV mm_20 rfl rfl) rfl hsz rfl hW hdg ⟨Nat.zero_le _, Nat.zero_le _⟩) hV hAe kk
theorem kc_M_M_write {nL : Nat} {c0 : Cond} (hexec : p.tables.exec = Jvm.exec) (hb : c.code = cc) (hml : c.maxLocals = nL) (hown : s.vm.findClass R_M = some m.cls) (hts : ∀ w ∈ c0 :: gG, w.before args s = true) (hV : gV E MM A f s H locs) (hK : va_K (eD E) classes (eT E) s) (hX : kX E A s s.heap) (hAe : A = gA E MM s.heap.size) {x1 : Int32} {x2 : Int32} {x3 : Int32} {Φ : KS → Prop} (hM : gMv l y_M_write v_M_write m_M_write E MM [.ref (ea E 20 0), .int x1, .int x2, .int x3] f Φ) (hsz : ls.size = nL) (hW : (rest.map fun v => v.category).sum ≤ 8) (hdg : decode cc pc = .ok (.invokevirtual 165, 3)) (hfr : (m_M_write).frames + 1 ≤ R.frames) (hlo : 8 + (6 + 11) + (m_M_write).locals ≤ R.locals)
    (kk : ∀ (u : KS) (H1 : Heap) (locs1 : List Loc), Φ u → gV E MM A u s H1 locs1 → W p l e R s m args below meth c H1 locs1 0 0 Q (F0 m (pc + 3) ls rest)) : W p l e R s m args below meth c H locs 0 0 Q (F0 m pc ls (.int x3 :: .int x2 :: .int x1 :: .ref (ea E 20 0) :: rest)) :=
  g_gov (g_callV (C := R_M) (cc := cc) (As := [.int x1, .int x2, .int x3]) ⟨hexec, hb, hml, hown, hts⟩ hM (cwV 3 hts (gi_V gm_917 gm_919 gm_59 gm_76 gm_920) rfl rfl rfl (by decide +kernel) ⟨hfr, hlo⟩) hV hK hX hAe (g_recv hK hV mm_20 rfl rfl) rfl hsz rfl hW hdg ⟨Nat.zero_le _, Nat.zero_le _⟩) hV hAe kk
end KL
end
section
theorem d_I_bitCount_0 : decode b_I_bitCount 0 = .ok (.iload_n 0, 1) := by decide +kernel
theorem d_I_bitCount_1 : decode b_I_bitCount 1 = .ok (.iload_n 0, 1) := by decide +kernel
theorem d_I_bitCount_2 : decode b_I_bitCount 2 = .ok (.iconst 1, 1) := by decide +kernel
theorem d_I_bitCount_3 : decode b_I_bitCount 3 = .ok (.iushr, 1) := by decide +kernel
theorem d_I_bitCount_4 : decode b_I_bitCount 4 = .ok (.ldc_w 265, 3) := by decide +kernel
theorem d_I_bitCount_7 : decode b_I_bitCount 7 = .ok (.iand, 1) := by decide +kernel
theorem d_I_bitCount_8 : decode b_I_bitCount 8 = .ok (.isub, 1) := by decide +kernel
theorem d_I_bitCount_9 : decode b_I_bitCount 9 = .ok (.istore_n 0, 1) := by decide +kernel
theorem d_I_bitCount_10 : decode b_I_bitCount 10 = .ok (.iload_n 0, 1) := by decide +kernel
theorem d_I_bitCount_11 : decode b_I_bitCount 11 = .ok (.ldc_w 266, 3) := by decide +kernel
theorem d_I_bitCount_14 : decode b_I_bitCount 14 = .ok (.iand, 1) := by decide +kernel
theorem d_I_bitCount_15 : decode b_I_bitCount 15 = .ok (.iload_n 0, 1) := by decide +kernel
theorem d_I_bitCount_16 : decode b_I_bitCount 16 = .ok (.iconst 2, 1) := by decide +kernel
theorem d_I_bitCount_17 : decode b_I_bitCount 17 = .ok (.iushr, 1) := by decide +kernel
theorem d_I_bitCount_18 : decode b_I_bitCount 18 = .ok (.ldc_w 266, 3) := by decide +kernel
theorem d_I_bitCount_21 : decode b_I_bitCount 21 = .ok (.iand, 1) := by decide +kernel
theorem d_I_bitCount_22 : decode b_I_bitCount 22 = .ok (.iadd, 1) := by decide +kernel
theorem d_I_bitCount_23 : decode b_I_bitCount 23 = .ok (.istore_n 0, 1) := by decide +kernel
theorem d_I_bitCount_24 : decode b_I_bitCount 24 = .ok (.iload_n 0, 1) := by decide +kernel
theorem d_I_bitCount_25 : decode b_I_bitCount 25 = .ok (.iload_n 0, 1) := by decide +kernel
theorem d_I_bitCount_26 : decode b_I_bitCount 26 = .ok (.iconst 4, 1) := by decide +kernel
theorem d_I_bitCount_27 : decode b_I_bitCount 27 = .ok (.iushr, 1) := by decide +kernel
theorem d_I_bitCount_28 : decode b_I_bitCount 28 = .ok (.iadd, 1) := by decide +kernel
theorem d_I_bitCount_29 : decode b_I_bitCount 29 = .ok (.ldc_w 267, 3) := by decide +kernel
theorem d_I_bitCount_32 : decode b_I_bitCount 32 = .ok (.iand, 1) := by decide +kernel
theorem d_I_bitCount_33 : decode b_I_bitCount 33 = .ok (.istore_n 0, 1) := by decide +kernel
theorem d_I_bitCount_34 : decode b_I_bitCount 34 = .ok (.iload_n 0, 1) := by decide +kernel
theorem d_I_bitCount_35 : decode b_I_bitCount 35 = .ok (.iload_n 0, 1) := by decide +kernel
theorem d_I_bitCount_36 : decode b_I_bitCount 36 = .ok (.bipush 8, 2) := by decide +kernel
theorem d_I_bitCount_38 : decode b_I_bitCount 38 = .ok (.iushr, 1) := by decide +kernel
theorem d_I_bitCount_39 : decode b_I_bitCount 39 = .ok (.iadd, 1) := by decide +kernel
theorem d_I_bitCount_40 : decode b_I_bitCount 40 = .ok (.istore_n 0, 1) := by decide +kernel
theorem d_I_bitCount_41 : decode b_I_bitCount 41 = .ok (.iload_n 0, 1) := by decide +kernel
theorem d_I_bitCount_42 : decode b_I_bitCount 42 = .ok (.iload_n 0, 1) := by decide +kernel
theorem d_I_bitCount_43 : decode b_I_bitCount 43 = .ok (.bipush 16, 2) := by decide +kernel
theorem d_I_bitCount_45 : decode b_I_bitCount 45 = .ok (.iushr, 1) := by decide +kernel
theorem d_I_bitCount_46 : decode b_I_bitCount 46 = .ok (.iadd, 1) := by decide +kernel
theorem d_I_bitCount_47 : decode b_I_bitCount 47 = .ok (.istore_n 0, 1) := by decide +kernel
theorem d_I_bitCount_48 : decode b_I_bitCount 48 = .ok (.iload_n 0, 1) := by decide +kernel
theorem d_I_bitCount_49 : decode b_I_bitCount 49 = .ok (.bipush 63, 2) := by decide +kernel
theorem d_I_bitCount_51 : decode b_I_bitCount 51 = .ok (.iand, 1) := by decide +kernel
theorem d_I_bitCount_52 : decode b_I_bitCount 52 = .ok (.ireturn, 1) := by decide +kernel
def w_I_bitCount (cp : Nat) (x0 : Int32) (s0 : KS) (Φ : Int32 → KS → Prop) : Prop := ∀ y1 : Int32, y1 = x0 - (((x0.toUInt32 >>> ((1 : Int32).toUInt32 &&& Int32.toUInt32 31)).toInt32) &&& (1431655765 : Int32)) → ∀ y2 : Int32, y2 = (y1 &&& (858993459 : Int32)) + (((y1.toUInt32 >>> ((2 : Int32).toUInt32 &&& Int32.toUInt32 31)).toInt32) &&& (858993459 : Int32)) → ∀ y3 : Int32, y3 = (y2 + ((y2.toUInt32 >>> ((4 : Int32).toUInt32 &&& Int32.toUInt32 31)).toInt32)) &&& (252645135 : Int32) → ∀ y4 : Int32, y4 = y3 + ((y3.toUInt32 >>> ((8 : Int32).toUInt32 &&& Int32.toUInt32 31)).toInt32) → ∀ y5 : Int32, y5 = y4 + ((y4.toUInt32 >>> ((16 : Int32).toUInt32 &&& Int32.toUInt32 31)).toInt32) → Φ (y5 &&& (63 : Int32)) s0
set_option maxHeartbeats 4000000 in
set_option maxRecDepth 100000 in
theorem c_I_bitCount (l : Launch) (E : gE) (s0 : KS) (x0 : Int32) (Φ : Int32 → KS → Prop) (hw : w_I_bitCount (eN E) x0 s0 Φ) : gMi l y_I_bitCount v_I_bitCount m_I_bitCount E KK [.int x0] s0 Φ := by
  intro sz
  refine Met.ofW (cc := b_I_bitCount) (maxL := 1) (ret := (some .int)) (by decide) rfl ?_
  intro p e s m args below meth c s₁ B hml hv
  obtain ⟨rfl, hsz, hP, hK, hD, hX⟩ := hv
  have hx := B.exec
  have hb := B.bytes
  have hr := B.returns
  have hts := atoms_spec (ws := v_I_bitCount) B.pre
  have hG : ∀ w ∈ gG, w.before _ s = true := fun w h => hts w (List.mem_cons_of_mem _ h)
  have hown : s.vm.findClass R_I = some m.cls := findClass_of_methodNamed B.named
  have hlocks := B.notSynchronized
  subst hsz
  obtain ⟨A, hAe⟩ : ∃ A, A = gA E KK s.heap.size := ⟨_, rfl⟩
  rw [← hAe] at hD hX ⊢
  have hV : gV E KK A s0 s s.heap [] := ⟨hP, hD, va_S.rf⟩
  have hl := lv_entry ([.int x0] : List Value) (n := 1) (Nat.le_of_ble_eq_true rfl)
  rw [lg_entry_eq]
  generalize (lg_sl ([.int x0] : List Value) ++ List.replicate (1 - (lg_sl ([.int x0] : List Value)).length) Slot.unset).toArray = ls at hl ⊢
  have hl : lv_has ls 1 [(0, .int x0)] := hl
  unfold w_I_bitCount at hw
  refine lv_iload_n hx hb d_I_bitCount_0 rfl (lv_at hl 0 rfl) ?_
  refine lv_iload_n hx hb d_I_bitCount_1 rfl (lv_at hl 0 rfl) ?_
  refine lv_iconst (v := 1) hx hb d_I_bitCount_2 (by decide) ?_
  refine lv_iushr hx hb d_I_bitCount_3 rfl ?_
  refine lv_ldcw hx hb hown (hG _ gm_582) d_I_bitCount_4 ?_
  refine lv_iand hx hb d_I_bitCount_7 ?_
  refine lv_isub hx hb d_I_bitCount_8 ?_
  refine lv_topi (fun y1 ey1 => ?_)
  have hw := hw y1 ey1
  refine lv_istore_n (lv' := [(0, .int y1)]) hx hb d_I_bitCount_9 rfl hl (by decide) rfl (fun ls hl => ?_)
  refine lv_iload_n hx hb d_I_bitCount_10 rfl (lv_at hl 0 rfl) ?_
  refine lv_ldcw hx hb hown (hG _ gm_583) d_I_bitCount_11 ?_
  refine lv_iand hx hb d_I_bitCount_14 ?_
  refine lv_iload_n hx hb d_I_bitCount_15 rfl (lv_at hl 0 rfl) ?_
  refine lv_iconst (v := 2) hx hb d_I_bitCount_16 (by decide) ?_
  refine lv_iushr hx hb d_I_bitCount_17 rfl ?_
  refine lv_ldcw hx hb hown (hG _ gm_583) d_I_bitCount_18 ?_
  refine lv_iand hx hb d_I_bitCount_21 ?_
  refine lv_iadd hx hb d_I_bitCount_22 ?_
  refine lv_topi (fun y2 ey2 => ?_)
  have hw := hw y2 ey2
  refine lv_istore_n (lv' := [(0, .int y2)]) hx hb d_I_bitCount_23 rfl hl (by decide) rfl (fun ls hl => ?_)
  refine lv_iload_n hx hb d_I_bitCount_24 rfl (lv_at hl 0 rfl) ?_
  refine lv_iload_n hx hb d_I_bitCount_25 rfl (lv_at hl 0 rfl) ?_
  refine lv_iconst (v := 4) hx hb d_I_bitCount_26 (by decide) ?_
  refine lv_iushr hx hb d_I_bitCount_27 rfl ?_
  refine lv_iadd hx hb d_I_bitCount_28 ?_
  refine lv_ldcw hx hb hown (hG _ gm_584) d_I_bitCount_29 ?_
  refine lv_iand hx hb d_I_bitCount_32 ?_
  refine lv_topi (fun y3 ey3 => ?_)
  have hw := hw y3 ey3
  refine lv_istore_n (lv' := [(0, .int y3)]) hx hb d_I_bitCount_33 rfl hl (by decide) rfl (fun ls hl => ?_)
  refine lv_iload_n hx hb d_I_bitCount_34 rfl (lv_at hl 0 rfl) ?_
  refine lv_iload_n hx hb d_I_bitCount_35 rfl (lv_at hl 0 rfl) ?_
  refine lv_bipush (v := 8) hx hb d_I_bitCount_36 (by decide) ?_
  refine lv_iushr hx hb d_I_bitCount_38 rfl ?_
  refine lv_iadd hx hb d_I_bitCount_39 ?_
  refine lv_topi (fun y4 ey4 => ?_)
  have hw := hw y4 ey4
  refine lv_istore_n (lv' := [(0, .int y4)]) hx hb d_I_bitCount_40 rfl hl (by decide) rfl (fun ls hl => ?_)
  refine lv_iload_n hx hb d_I_bitCount_41 rfl (lv_at hl 0 rfl) ?_
  refine lv_iload_n hx hb d_I_bitCount_42 rfl (lv_at hl 0 rfl) ?_
  refine lv_bipush (v := 16) hx hb d_I_bitCount_43 (by decide) ?_
  refine lv_iushr hx hb d_I_bitCount_45 rfl ?_
  refine lv_iadd hx hb d_I_bitCount_46 ?_
  refine lv_topi (fun y5 ey5 => ?_)
  have hw := hw y5 ey5
  refine lv_istore_n (lv' := [(0, .int y5)]) hx hb d_I_bitCount_47 rfl hl (by decide) rfl (fun ls hl => ?_)
  refine lv_iload_n hx hb d_I_bitCount_48 rfl (lv_at hl 0 rfl) ?_
  refine lv_bipush (v := 63) hx hb d_I_bitCount_49 (by decide) ?_
  refine lv_iand hx hb d_I_bitCount_51 ?_
  exact kr_i hx hb hr hV hK hX hAe hw d_I_bitCount_52
theorem d_W_isEmpty_0 : decode b_W_isEmpty 0 = .ok (.aload_n 0, 1) := by decide +kernel
theorem d_W_isEmpty_1 : decode b_W_isEmpty 1 = .ok (.getfield 13, 3) := by decide +kernel
theorem d_W_isEmpty_4 : decode b_W_isEmpty 4 = .ok (.ifCond .ne 7, 3) := by decide +kernel
theorem d_W_isEmpty_7 : decode b_W_isEmpty 7 = .ok (.iconst 1, 1) := by decide +kernel
theorem d_W_isEmpty_8 : decode b_W_isEmpty 8 = .ok (.goto 4, 3) := by decide +kernel
theorem d_W_isEmpty_11 : decode b_W_isEmpty 11 = .ok (.iconst 0, 1) := by decide +kernel
theorem d_W_isEmpty_12 : decode b_W_isEmpty 12 = .ok (.ireturn, 1) := by decide +kernel
def w_W_isEmpty (cp : Nat) (wi : Nat) (s0 : KS) (Φ : Int32 → KS → Prop) : Prop := ((¬ (s0 5 wi 2) = 0 → Φ (0 : Int32) s0) ∧ ((s0 5 wi 2) = 0 → Φ (1 : Int32) s0))
set_option maxHeartbeats 4000000 in
set_option maxRecDepth 100000 in
theorem c_W_isEmpty (l : Launch) (E : gE) (s0 : KS) (wi : Nat) (hwi : wi < 10) (Φ : Int32 → KS → Prop) (hw : w_W_isEmpty (eN E) wi s0 Φ) : gMi l y_W_isEmpty v_W_isEmpty m_W_isEmpty E KK [.ref (ea E 5 wi)] s0 Φ := by
  intro sz
  refine Met.ofW (cc := b_W_isEmpty) (maxL := 1) (ret := (some .boolean)) (by decide) rfl ?_
  intro p e s m args below meth c s₁ B hml hv
  obtain ⟨rfl, hsz, hP, hK, hD, hX⟩ := hv
  have hx := B.exec
  have hb := B.bytes
  have hr := B.returns
  have hts := atoms_spec (ws := v_W_isEmpty) B.pre
  have hG : ∀ w ∈ gG, w.before _ s = true := fun w h => hts w (List.mem_cons_of_mem _ h)
  have hown : s.vm.findClass R_W = some m.cls := findClass_of_methodNamed B.named
  have hlocks := B.notSynchronized
  subst hsz
  obtain ⟨A, hAe⟩ : ∃ A, A = gA E KK s.heap.size := ⟨_, rfl⟩
  rw [← hAe] at hD hX ⊢
  have hV : gV E KK A s0 s s.heap [] := ⟨hP, hD, va_S.rf⟩
  have hl := lv_entry ([.ref (ea E 5 wi)] : List Value) (n := 1) (Nat.le_of_ble_eq_true rfl)
  rw [lg_entry_eq]
  generalize (lg_sl ([.ref (ea E 5 wi)] : List Value) ++ List.replicate (1 - (lg_sl ([.ref (ea E 5 wi)] : List Value)).length) Slot.unset).toArray = ls at hl ⊢
  have hl : lv_has ls 1 [(0, .ref (ea E 5 wi))] := hl
  unfold w_W_isEmpty at hw
  refine lv_aload_n hx hb d_W_isEmpty_0 rfl (lv_at hl 0 rfl) ?_
  refine kg_W_W_count hx hb hG hown hK hV hwi d_W_isEmpty_1 ?_
  refine lv_if_ne (tgt := 11) hx hb d_W_isEmpty_4 rfl (fun hc => ?_) (fun hc => ?_)
  · have hw := hw.1 hc
    refine lv_iconst (v := 0) hx hb d_W_isEmpty_11 (by decide) ?_
    exact kr_z hx hb hr hV hK hX hAe (by decide) hw d_W_isEmpty_12
  · have hw := hw.2 hc
    refine lv_iconst (v := 1) hx hb d_W_isEmpty_7 (by decide) ?_
    refine lv_goto (tgt := 12) hx hb d_W_isEmpty_8 rfl ?_
    exact kr_z hx hb hr hV hK hX hAe (by decide) hw d_W_isEmpty_12
theorem d_W_isFull_0 : decode b_W_isFull 0 = .ok (.aload_n 0, 1) := by decide +kernel
theorem d_W_isFull_1 : decode b_W_isFull 1 = .ok (.getfield 13, 3) := by decide +kernel
theorem d_W_isFull_4 : decode b_W_isFull 4 = .ok (.aload_n 0, 1) := by decide +kernel
theorem d_W_isFull_5 : decode b_W_isFull 5 = .ok (.getfield 16, 3) := by decide +kernel
theorem d_W_isFull_8 : decode b_W_isFull 8 = .ok (.arraylength, 1) := by decide +kernel
theorem d_W_isFull_9 : decode b_W_isFull 9 = .ok (.if_icmp .ne 7, 3) := by decide +kernel
theorem d_W_isFull_12 : decode b_W_isFull 12 = .ok (.iconst 1, 1) := by decide +kernel
theorem d_W_isFull_13 : decode b_W_isFull 13 = .ok (.goto 4, 3) := by decide +kernel
theorem d_W_isFull_16 : decode b_W_isFull 16 = .ok (.iconst 0, 1) := by decide +kernel
theorem d_W_isFull_17 : decode b_W_isFull 17 = .ok (.ireturn, 1) := by decide +kernel
def w_W_isFull (cp : Nat) (wi : Nat) (s0 : KS) (Φ : Int32 → KS → Prop) : Prop := ((¬ (s0 5 wi 2) = (nI (aL cp 6 wi)) → Φ (0 : Int32) s0) ∧ ((s0 5 wi 2) = (nI (aL cp 6 wi)) → Φ (1 : Int32) s0))
set_option maxHeartbeats 4000000 in
set_option maxRecDepth 100000 in
theorem c_W_isFull (l : Launch) (E : gE) (s0 : KS) (wi : Nat) (hwi : wi < 10) (Φ : Int32 → KS → Prop) (hw : w_W_isFull (eN E) wi s0 Φ) : gMi l y_W_isFull v_W_isFull m_W_isFull E KK [.ref (ea E 5 wi)] s0 Φ := by
  intro sz
  refine Met.ofW (cc := b_W_isFull) (maxL := 1) (ret := (some .boolean)) (by decide) rfl ?_
  intro p e s m args below meth c s₁ B hml hv
  obtain ⟨rfl, hsz, hP, hK, hD, hX⟩ := hv
  have hx := B.exec
  have hb := B.bytes
  have hr := B.returns
  have hts := atoms_spec (ws := v_W_isFull) B.pre
  have hG : ∀ w ∈ gG, w.before _ s = true := fun w h => hts w (List.mem_cons_of_mem _ h)
  have hown : s.vm.findClass R_W = some m.cls := findClass_of_methodNamed B.named
  have hlocks := B.notSynchronized
  subst hsz
  obtain ⟨A, hAe⟩ : ∃ A, A = gA E KK s.heap.size := ⟨_, rfl⟩
  rw [← hAe] at hD hX ⊢
  have hV : gV E KK A s0 s s.heap [] := ⟨hP, hD, va_S.rf⟩
  have hl := lv_entry ([.ref (ea E 5 wi)] : List Value) (n := 1) (Nat.le_of_ble_eq_true rfl)
  rw [lg_entry_eq]
  generalize (lg_sl ([.ref (ea E 5 wi)] : List Value) ++ List.replicate (1 - (lg_sl ([.ref (ea E 5 wi)] : List Value)).length) Slot.unset).toArray = ls at hl ⊢
  have hl : lv_has ls 1 [(0, .ref (ea E 5 wi))] := hl
  unfold w_W_isFull at hw
  refine lv_aload_n hx hb d_W_isFull_0 rfl (lv_at hl 0 rfl) ?_
  refine kg_W_W_count hx hb hG hown hK hV hwi d_W_isFull_1 ?_
  refine lv_aload_n hx hb d_W_isFull_4 rfl (lv_at hl 0 rfl) ?_
  refine kg_W_W_words hx hb hG hown hK hV hwi d_W_isFull_5 ?_
  refine kn_6 hx hb hK hV hwi d_W_isFull_8 ?_
  refine lv_icmp_ne (tgt := 16) hx hb d_W_isFull_9 rfl (fun hc => ?_) (fun hc => ?_)
  · have hw := hw.1 hc
    refine lv_iconst (v := 0) hx hb d_W_isFull_16 (by decide) ?_
    exact kr_z hx hb hr hV hK hX hAe (by decide) hw d_W_isFull_17
  · have hw := hw.2 hc
    refine lv_iconst (v := 1) hx hb d_W_isFull_12 (by decide) ?_
    refine lv_goto (tgt := 17) hx hb d_W_isFull_13 rfl ?_
    exact kr_z hx hb hr hV hK hX hAe (by decide) hw d_W_isFull_17
theorem d_W_wrap_0 : decode b_W_wrap 0 = .ok (.iload_n 1, 1) := by decide +kernel
theorem d_W_wrap_1 : decode b_W_wrap 1 = .ok (.aload_n 0, 1) := by decide +kernel
theorem d_W_wrap_2 : decode b_W_wrap 2 = .ok (.getfield 16, 3) := by decide +kernel
theorem d_W_wrap_5 : decode b_W_wrap 5 = .ok (.arraylength, 1) := by decide +kernel
theorem d_W_wrap_6 : decode b_W_wrap 6 = .ok (.if_icmp .ge 7, 3) := by decide +kernel
theorem d_W_wrap_9 : decode b_W_wrap 9 = .ok (.iload_n 1, 1) := by decide +kernel
theorem d_W_wrap_10 : decode b_W_wrap 10 = .ok (.goto 10, 3) := by decide +kernel
theorem d_W_wrap_13 : decode b_W_wrap 13 = .ok (.iload_n 1, 1) := by decide +kernel
theorem d_W_wrap_14 : decode b_W_wrap 14 = .ok (.aload_n 0, 1) := by decide +kernel
theorem d_W_wrap_15 : decode b_W_wrap 15 = .ok (.getfield 16, 3) := by decide +kernel
theorem d_W_wrap_18 : decode b_W_wrap 18 = .ok (.arraylength, 1) := by decide +kernel
theorem d_W_wrap_19 : decode b_W_wrap 19 = .ok (.isub, 1) := by decide +kernel
theorem d_W_wrap_20 : decode b_W_wrap 20 = .ok (.ireturn, 1) := by decide +kernel
def w_W_wrap (cp : Nat) (wi : Nat) (x1 : Int32) (s0 : KS) (Φ : Int32 → KS → Prop) : Prop := (((nI (aL cp 6 wi)) ≤ x1 → Φ (x1 - (nI (aL cp 6 wi))) s0) ∧ (¬ (nI (aL cp 6 wi)) ≤ x1 → Φ x1 s0))
set_option maxHeartbeats 4000000 in
set_option maxRecDepth 100000 in
theorem c_W_wrap (l : Launch) (E : gE) (s0 : KS) (wi : Nat) (hwi : wi < 10) (x1 : Int32) (Φ : Int32 → KS → Prop) (hw : w_W_wrap (eN E) wi x1 s0 Φ) : gMi l y_W_wrap v_W_wrap m_W_wrap E KK [.ref (ea E 5 wi), .int x1] s0 Φ := by
  intro sz
  refine Met.ofW (cc := b_W_wrap) (maxL := 2) (ret := (some .int)) (by decide) rfl ?_
  intro p e s m args below meth c s₁ B hml hv
  obtain ⟨rfl, hsz, hP, hK, hD, hX⟩ := hv
  have hx := B.exec
  have hb := B.bytes
  have hr := B.returns
  have hts := atoms_spec (ws := v_W_wrap) B.pre
  have hG : ∀ w ∈ gG, w.before _ s = true := fun w h => hts w (List.mem_cons_of_mem _ h)
  have hown : s.vm.findClass R_W = some m.cls := findClass_of_methodNamed B.named
  have hlocks := B.notSynchronized
  subst hsz
  obtain ⟨A, hAe⟩ : ∃ A, A = gA E KK s.heap.size := ⟨_, rfl⟩
  rw [← hAe] at hD hX ⊢
  have hV : gV E KK A s0 s s.heap [] := ⟨hP, hD, va_S.rf⟩
  have hl := lv_entry ([.ref (ea E 5 wi), .int x1] : List Value) (n := 2) (Nat.le_of_ble_eq_true rfl)
  rw [lg_entry_eq]
  generalize (lg_sl ([.ref (ea E 5 wi), .int x1] : List Value) ++ List.replicate (2 - (lg_sl ([.ref (ea E 5 wi), .int x1] : List Value)).length) Slot.unset).toArray = ls at hl ⊢
  have hl : lv_has ls 2 [(0, .ref (ea E 5 wi)), (1, .int x1)] := hl
  unfold w_W_wrap at hw
  refine lv_iload_n hx hb d_W_wrap_0 rfl (lv_at hl 1 rfl) ?_
  refine lv_aload_n hx hb d_W_wrap_1 rfl (lv_at hl 0 rfl) ?_
  refine kg_W_W_words hx hb hG hown hK hV hwi d_W_wrap_2 ?_
  refine kn_6 hx hb hK hV hwi d_W_wrap_5 ?_
  refine lv_icmp_ge (tgt := 13) hx hb d_W_wrap_6 rfl (fun hc => ?_) (fun hc => ?_)
  · have hw := hw.1 hc
    refine lv_iload_n hx hb d_W_wrap_13 rfl (lv_at hl 1 rfl) ?_
    refine lv_aload_n hx hb d_W_wrap_14 rfl (lv_at hl 0 rfl) ?_
    refine kg_W_W_words hx hb hG hown hK hV hwi d_W_wrap_15 ?_
    refine kn_6 hx hb hK hV hwi d_W_wrap_18 ?_
    refine lv_isub hx hb d_W_wrap_19 ?_
    exact kr_i hx hb hr hV hK hX hAe hw d_W_wrap_20
  · have hw := hw.2 hc
    refine lv_iload_n hx hb d_W_wrap_9 rfl (lv_at hl 1 rfl) ?_
    refine lv_goto (tgt := 20) hx hb d_W_wrap_10 rfl ?_
    exact kr_i hx hb hr hV hK hX hAe hw d_W_wrap_20
theorem d_W_at_0 : decode b_W_at 0 = .ok (.aload_n 0, 1) := by decide +kernel
theorem d_W_at_1 : decode b_W_at 1 = .ok (.getfield 16, 3) := by decide +kernel
theorem d_W_at_4 : decode b_W_at 4 = .ok (.aload_n 0, 1) := by decide +kernel
theorem d_W_at_5 : decode b_W_at 5 = .ok (.aload_n 0, 1) := by decide +kernel
theorem d_W_at_6 : decode b_W_at 6 = .ok (.getfield 7, 3) := by decide +kernel
theorem d_W_at_9 : decode b_W_at 9 = .ok (.iload_n 1, 1) := by decide +kernel
theorem d_W_at_10 : decode b_W_at 10 = .ok (.iadd, 1) := by decide +kernel
theorem d_W_at_11 : decode b_W_at 11 = .ok (.invokevirtual 20, 3) := by decide +kernel
theorem d_W_at_14 : decode b_W_at 14 = .ok (.iaload, 1) := by decide +kernel
theorem d_W_at_15 : decode b_W_at 15 = .ok (.ireturn, 1) := by decide +kernel
def w_W_at (cp : Nat) (wi : Nat) (x1 : Int32) (s0 : KS) (Φ : Int32 → KS → Prop) : Prop := w_W_wrap cp wi ((s0 5 wi 1) + x1) s0 (fun r2 s1 => vp_in r2 (aL cp 6 wi) ∧ Φ (s1 6 wi r2.toNatClampNeg) s1)
set_option maxHeartbeats 4000000 in
set_option maxRecDepth 100000 in
theorem c_W_at (l : Launch) (E : gE) (s0 : KS) (wi : Nat) (hwi : wi < 10) (x1 : Int32) (Φ : Int32 → KS → Prop) (hw : w_W_at (eN E) wi x1 s0 Φ) : gMi l y_W_at v_W_at m_W_at E KK [.ref (ea E 5 wi), .int x1] s0 Φ := by
  intro sz
  refine Met.ofW (cc := b_W_at) (maxL := 2) (ret := (some .int)) (by decide) rfl ?_
  intro p e s m args below meth c s₁ B hml hv
  obtain ⟨rfl, hsz, hP, hK, hD, hX⟩ := hv
  have hx := B.exec
  have hb := B.bytes
  have hr := B.returns
  have hts := atoms_spec (ws := v_W_at) B.pre
  have hG : ∀ w ∈ gG, w.before _ s = true := fun w h => hts w (List.mem_cons_of_mem _ h)
  have hown : s.vm.findClass R_W = some m.cls := findClass_of_methodNamed B.named
  have hlocks := B.notSynchronized
  subst hsz
  obtain ⟨A, hAe⟩ : ∃ A, A = gA E KK s.heap.size := ⟨_, rfl⟩
  rw [← hAe] at hD hX ⊢
  have hV : gV E KK A s0 s s.heap [] := ⟨hP, hD, va_S.rf⟩
  have hl := lv_entry ([.ref (ea E 5 wi), .int x1] : List Value) (n := 2) (Nat.le_of_ble_eq_true rfl)
  rw [lg_entry_eq]
  generalize (lg_sl ([.ref (ea E 5 wi), .int x1] : List Value) ++ List.replicate (2 - (lg_sl ([.ref (ea E 5 wi), .int x1] : List Value)).length) Slot.unset).toArray = ls at hl ⊢
  have hl : lv_has ls 2 [(0, .ref (ea E 5 wi)), (1, .int x1)] := hl
  unfold w_W_at at hw
  refine lv_aload_n hx hb d_W_at_0 rfl (lv_at hl 0 rfl) ?_
  refine kg_W_W_words hx hb hG hown hK hV hwi d_W_at_1 ?_
  refine lv_aload_n hx hb d_W_at_4 rfl (lv_at hl 0 rfl) ?_
  refine lv_aload_n hx hb d_W_at_5 rfl (lv_at hl 0 rfl) ?_
  refine kg_W_W_first hx hb hG hown hK hV hwi d_W_at_6 ?_
  refine lv_iload_n hx hb d_W_at_9 rfl (lv_at hl 1 rfl) ?_
  refine lv_iadd hx hb d_W_at_10 ?_
  refine kc_W_W_wrap hx hb hml hown hts hV hK hX hAe (c_W_wrap l E s0 wi hwi ((s0 5 wi 1) + x1) _ hw) hwi hl.1 (Nat.le_of_ble_eq_true rfl) d_W_at_11 (Nat.le_of_ble_eq_true rfl) (Nat.le_of_ble_eq_true rfl) (fun r2 s1 H locs hw hV => ?_)
  refine kl_6 hx hb hK hV hwi hw.1 d_W_at_14 ?_
  have hw := hw.2
  exact kr_i hx hb hr hV hK hX hAe hw d_W_at_15
theorem d_W_add_0 : decode b_W_add 0 = .ok (.aload_n 0, 1) := by decide +kernel
theorem d_W_add_1 : decode b_W_add 1 = .ok (.getfield 16, 3) := by decide +kernel
theorem d_W_add_4 : decode b_W_add 4 = .ok (.aload_n 0, 1) := by decide +kernel
theorem d_W_add_5 : decode b_W_add 5 = .ok (.aload_n 0, 1) := by decide +kernel
theorem d_W_add_6 : decode b_W_add 6 = .ok (.getfield 7, 3) := by decide +kernel
theorem d_W_add_9 : decode b_W_add 9 = .ok (.aload_n 0, 1) := by decide +kernel
theorem d_W_add_10 : decode b_W_add 10 = .ok (.getfield 13, 3) := by decide +kernel
theorem d_W_add_13 : decode b_W_add 13 = .ok (.iadd, 1) := by decide +kernel
theorem d_W_add_14 : decode b_W_add 14 = .ok (.invokevirtual 20, 3) := by decide +kernel
theorem d_W_add_17 : decode b_W_add 17 = .ok (.iload_n 1, 1) := by decide +kernel
theorem d_W_add_18 : decode b_W_add 18 = .ok (.iastore, 1) := by decide +kernel
theorem d_W_add_19 : decode b_W_add 19 = .ok (.aload_n 0, 1) := by decide +kernel
theorem d_W_add_20 : decode b_W_add 20 = .ok (.dup, 1) := by decide +kernel
theorem d_W_add_21 : decode b_W_add 21 = .ok (.getfield 13, 3) := by decide +kernel
theorem d_W_add_24 : decode b_W_add 24 = .ok (.iconst 1, 1) := by decide +kernel
theorem d_W_add_25 : decode b_W_add 25 = .ok (.iadd, 1) := by decide +kernel
theorem d_W_add_26 : decode b_W_add 26 = .ok (.putfield 13, 3) := by decide +kernel
theorem d_W_add_29 : decode b_W_add 29 = .ok (.return_, 1) := by decide +kernel
def w_W_add (cp : Nat) (wi : Nat) (x1 : Int32) (s0 : KS) (Φ : KS → Prop) : Prop := w_W_wrap cp wi ((s0 5 wi 1) + (s0 5 wi 2)) s0 (fun r2 s1 => vp_in r2 (aL cp 6 wi) ∧ ∀ s3 : KS, s3 = w3 s1 6 wi r2.toNatClampNeg x1 → ∀ s4 : KS, s4 = w3 s3 5 wi 2 ((s3 5 wi 2) + (1 : Int32)) → Φ s4)
set_option maxHeartbeats 4000000 in
set_option maxRecDepth 100000 in
theorem c_W_add (l : Launch) (E : gE) (s0 : KS) (wi : Nat) (hwi : wi < 10) (x1 : Int32) (Φ : KS → Prop) (hw : w_W_add (eN E) wi x1 s0 Φ) : gMv l y_W_add v_W_add m_W_add E KK [.ref (ea E 5 wi), .int x1] s0 Φ := by
  intro sz
  refine Met.ofW (cc := b_W_add) (maxL := 2) (ret := none) (by decide) rfl ?_
  intro p e s m args below meth c s₁ B hml hv
  obtain ⟨rfl, hsz, hP, hK, hD, hX⟩ := hv
  have hx := B.exec
  have hb := B.bytes
  have hr := B.returns
  have hts := atoms_spec (ws := v_W_add) B.pre
  have hG : ∀ w ∈ gG, w.before _ s = true := fun w h => hts w (List.mem_cons_of_mem _ h)
  have hown : s.vm.findClass R_W = some m.cls := findClass_of_methodNamed B.named
  have hlocks := B.notSynchronized
  subst hsz
  obtain ⟨A, hAe⟩ : ∃ A, A = gA E KK s.heap.size := ⟨_, rfl⟩
  rw [← hAe] at hD hX ⊢
  have hV : gV E KK A s0 s s.heap [] := ⟨hP, hD, va_S.rf⟩
  have hl := lv_entry ([.ref (ea E 5 wi), .int x1] : List Value) (n := 2) (Nat.le_of_ble_eq_true rfl)
  rw [lg_entry_eq]
  generalize (lg_sl ([.ref (ea E 5 wi), .int x1] : List Value) ++ List.replicate (2 - (lg_sl ([.ref (ea E 5 wi), .int x1] : List Value)).length) Slot.unset).toArray = ls at hl ⊢
  have hl : lv_has ls 2 [(0, .ref (ea E 5 wi)), (1, .int x1)] := hl
  unfold w_W_add at hw
  refine lv_aload_n hx hb d_W_add_0 rfl (lv_at hl 0 rfl) ?_
  refine kg_W_W_words hx hb hG hown hK hV hwi d_W_add_1 ?_
  refine lv_aload_n hx hb d_W_add_4 rfl (lv_at hl 0 rfl) ?_
  refine lv_aload_n hx hb d_W_add_5 rfl (lv_at hl 0 rfl) ?_
  refine kg_W_W_first hx hb hG hown hK hV hwi d_W_add_6 ?_
  refine lv_aload_n hx hb d_W_add_9 rfl (lv_at hl 0 rfl) ?_
  refine kg_W_W_count hx hb hG hown hK hV hwi d_W_add_10 ?_
  refine lv_iadd hx hb d_W_add_13 ?_
  refine kc_W_W_wrap hx hb hml hown hts hV hK hX hAe (c_W_wrap l E s0 wi hwi ((s0 5 wi 1) + (s0 5 wi 2)) _ hw) hwi hl.1 (Nat.le_of_ble_eq_true rfl) d_W_add_14 (Nat.le_of_ble_eq_true rfl) (Nat.le_of_ble_eq_true rfl) (fun r2 s1 H locs hw hV => ?_)
  refine lv_iload_n hx hb d_W_add_17 rfl (lv_at hl 1 rfl) ?_
  refine ks_6 hx hb hK hV hwi hw.1 d_W_add_18 (fun s3 H locs es3 hV => ?_)
  have hw := hw.2 s3 es3
  refine lv_aload_n hx hb d_W_add_19 rfl (lv_at hl 0 rfl) ?_
  refine lv_dup hx hb d_W_add_20 rfl ?_
  refine kg_W_W_count hx hb hG hown hK hV hwi d_W_add_21 ?_
  refine lv_iconst (v := 1) hx hb d_W_add_24 (by decide) ?_
  refine lv_iadd hx hb d_W_add_25 ?_
  refine kp_W_W_count hx hb hG hown hK hV hwi d_W_add_26 (fun s4 H locs es4 hV => ?_)
  have hw := hw s4 es4
  exact kr_v hx hb hr hV hK hX hAe hw d_W_add_29
theorem d_W_take_0 : decode b_W_take 0 = .ok (.aload_n 0, 1) := by decide +kernel
theorem d_W_take_1 : decode b_W_take 1 = .ok (.getfield 16, 3) := by decide +kernel
theorem d_W_take_4 : decode b_W_take 4 = .ok (.aload_n 0, 1) := by decide +kernel
theorem d_W_take_5 : decode b_W_take 5 = .ok (.getfield 7, 3) := by decide +kernel
theorem d_W_take_8 : decode b_W_take 8 = .ok (.iaload, 1) := by decide +kernel
theorem d_W_take_9 : decode b_W_take 9 = .ok (.istore_n 1, 1) := by decide +kernel
theorem d_W_take_10 : decode b_W_take 10 = .ok (.aload_n 0, 1) := by decide +kernel
theorem d_W_take_11 : decode b_W_take 11 = .ok (.aload_n 0, 1) := by decide +kernel
theorem d_W_take_12 : decode b_W_take 12 = .ok (.aload_n 0, 1) := by decide +kernel
theorem d_W_take_13 : decode b_W_take 13 = .ok (.getfield 7, 3) := by decide +kernel
theorem d_W_take_16 : decode b_W_take 16 = .ok (.iconst 1, 1) := by decide +kernel
theorem d_W_take_17 : decode b_W_take 17 = .ok (.iadd, 1) := by decide +kernel
theorem d_W_take_18 : decode b_W_take 18 = .ok (.invokevirtual 20, 3) := by decide +kernel
theorem d_W_take_21 : decode b_W_take 21 = .ok (.putfield 7, 3) := by decide +kernel
theorem d_W_take_24 : decode b_W_take 24 = .ok (.aload_n 0, 1) := by decide +kernel
theorem d_W_take_25 : decode b_W_take 25 = .ok (.dup, 1) := by decide +kernel
theorem d_W_take_26 : decode b_W_take 26 = .ok (.getfield 13, 3) := by decide +kernel
theorem d_W_take_29 : decode b_W_take 29 = .ok (.iconst 1, 1) := by decide +kernel
theorem d_W_take_30 : decode b_W_take 30 = .ok (.isub, 1) := by decide +kernel
theorem d_W_take_31 : decode b_W_take 31 = .ok (.putfield 13, 3) := by decide +kernel
theorem d_W_take_34 : decode b_W_take 34 = .ok (.iload_n 1, 1) := by decide +kernel
theorem d_W_take_35 : decode b_W_take 35 = .ok (.ireturn, 1) := by decide +kernel
def w_W_take (cp : Nat) (wi : Nat) (s0 : KS) (Φ : Int32 → KS → Prop) : Prop := vp_in (s0 5 wi 1) (aL cp 6 wi) ∧ ∀ y1 : Int32, y1 = s0 6 wi (s0 5 wi 1).toNatClampNeg → w_W_wrap cp wi ((s0 5 wi 1) + (1 : Int32)) s0 (fun r3 s2 => ∀ s4 : KS, s4 = w3 s2 5 wi 1 r3 → ∀ s5 : KS, s5 = w3 s4 5 wi 2 ((s4 5 wi 2) - (1 : Int32)) → Φ y1 s5)
set_option maxHeartbeats 4000000 in
set_option maxRecDepth 100000 in
theorem c_W_take (l : Launch) (E : gE) (s0 : KS) (wi : Nat) (hwi : wi < 10) (Φ : Int32 → KS → Prop) (hw : w_W_take (eN E) wi s0 Φ) : gMi l y_W_take v_W_take m_W_take E KK [.ref (ea E 5 wi)] s0 Φ := by
  intro sz
  refine Met.ofW (cc := b_W_take) (maxL := 2) (ret := (some .int)) (by decide) rfl ?_
  intro p e s m args below meth c s₁ B hml hv
  obtain ⟨rfl, hsz, hP, hK, hD, hX⟩ := hv
  have hx := B.exec
  have hb := B.bytes
  have hr := B.returns
  have hts := atoms_spec (ws := v_W_take) B.pre
  have hG : ∀ w ∈ gG, w.before _ s = true := fun w h => hts w (List.mem_cons_of_mem _ h)
  have hown : s.vm.findClass R_W = some m.cls := findClass_of_methodNamed B.named
  have hlocks := B.notSynchronized
  subst hsz
  obtain ⟨A, hAe⟩ : ∃ A, A = gA E KK s.heap.size := ⟨_, rfl⟩
  rw [← hAe] at hD hX ⊢
  have hV : gV E KK A s0 s s.heap [] := ⟨hP, hD, va_S.rf⟩
  have hl := lv_entry ([.ref (ea E 5 wi)] : List Value) (n := 2) (Nat.le_of_ble_eq_true rfl)
  rw [lg_entry_eq]
  generalize (lg_sl ([.ref (ea E 5 wi)] : List Value) ++ List.replicate (2 - (lg_sl ([.ref (ea E 5 wi)] : List Value)).length) Slot.unset).toArray = ls at hl ⊢
  have hl : lv_has ls 2 [(0, .ref (ea E 5 wi))] := hl
  unfold w_W_take at hw
  refine lv_aload_n hx hb d_W_take_0 rfl (lv_at hl 0 rfl) ?_
  refine kg_W_W_words hx hb hG hown hK hV hwi d_W_take_1 ?_
  refine lv_aload_n hx hb d_W_take_4 rfl (lv_at hl 0 rfl) ?_
  refine kg_W_W_first hx hb hG hown hK hV hwi d_W_take_5 ?_
  refine kl_6 hx hb hK hV hwi hw.1 d_W_take_8 ?_
  have hw := hw.2
  refine lv_topi (fun y1 ey1 => ?_)
  have hw := hw y1 ey1
  refine lv_istore_n (lv' := [(1, .int y1), (0, .ref (ea E 5 wi))]) hx hb d_W_take_9 rfl hl (by decide) rfl (fun ls hl => ?_)
  refine lv_aload_n hx hb d_W_take_10 rfl (lv_at hl 1 rfl) ?_
  refine lv_aload_n hx hb d_W_take_11 rfl (lv_at hl 1 rfl) ?_
  refine lv_aload_n hx hb d_W_take_12 rfl (lv_at hl 1 rfl) ?_
  refine kg_W_W_first hx hb hG hown hK hV hwi d_W_take_13 ?_
  refine lv_iconst (v := 1) hx hb d_W_take_16 (by decide) ?_
  refine lv_iadd hx hb d_W_take_17 ?_
  refine kc_W_W_wrap hx hb hml hown hts hV hK hX hAe (c_W_wrap l E s0 wi hwi ((s0 5 wi 1) + (1 : Int32)) _ hw) hwi hl.1 (Nat.le_of_ble_eq_true rfl) d_W_take_18 (Nat.le_of_ble_eq_true rfl) (Nat.le_of_ble_eq_true rfl) (fun r3 s2 H locs hw hV => ?_)
  refine kp_W_W_first hx hb hG hown hK hV hwi d_W_take_21 (fun s4 H locs es4 hV => ?_)
  have hw := hw s4 es4
  refine lv_aload_n hx hb d_W_take_24 rfl (lv_at hl 1 rfl) ?_
  refine lv_dup hx hb d_W_take_25 rfl ?_
  refine kg_W_W_count hx hb hG hown hK hV hwi d_W_take_26 ?_
  refine lv_iconst (v := 1) hx hb d_W_take_29 (by decide) ?_
  refine lv_isub hx hb d_W_take_30 ?_
  refine kp_W_W_count hx hb hG hown hK hV hwi d_W_take_31 (fun s5 H locs es5 hV => ?_)
  have hw := hw s5 es5
  refine lv_iload_n hx hb d_W_take_34 rfl (lv_at hl 0 rfl) ?_
  exact kr_i hx hb hr hV hK hX hAe hw d_W_take_35
theorem d_W_clear_0 : decode b_W_clear 0 = .ok (.aload_n 0, 1) := by decide +kernel
theorem d_W_clear_1 : decode b_W_clear 1 = .ok (.iconst 0, 1) := by decide +kernel
theorem d_W_clear_2 : decode b_W_clear 2 = .ok (.putfield 13, 3) := by decide +kernel
theorem d_W_clear_5 : decode b_W_clear 5 = .ok (.return_, 1) := by decide +kernel
def w_W_clear (cp : Nat) (wi : Nat) (s0 : KS) (Φ : KS → Prop) : Prop := ∀ s1 : KS, s1 = w3 s0 5 wi 2 (0 : Int32) → Φ s1
set_option maxHeartbeats 4000000 in
set_option maxRecDepth 100000 in
theorem c_W_clear (l : Launch) (E : gE) (s0 : KS) (wi : Nat) (hwi : wi < 10) (Φ : KS → Prop) (hw : w_W_clear (eN E) wi s0 Φ) : gMv l y_W_clear v_W_clear m_W_clear E KK [.ref (ea E 5 wi)] s0 Φ := by
  intro sz
  refine Met.ofW (cc := b_W_clear) (maxL := 1) (ret := none) (by decide) rfl ?_
  intro p e s m args below meth c s₁ B hml hv
  obtain ⟨rfl, hsz, hP, hK, hD, hX⟩ := hv
  have hx := B.exec
  have hb := B.bytes
  have hr := B.returns
  have hts := atoms_spec (ws := v_W_clear) B.pre
  have hG : ∀ w ∈ gG, w.before _ s = true := fun w h => hts w (List.mem_cons_of_mem _ h)
  have hown : s.vm.findClass R_W = some m.cls := findClass_of_methodNamed B.named
  have hlocks := B.notSynchronized
  subst hsz
  obtain ⟨A, hAe⟩ : ∃ A, A = gA E KK s.heap.size := ⟨_, rfl⟩
  rw [← hAe] at hD hX ⊢
  have hV : gV E KK A s0 s s.heap [] := ⟨hP, hD, va_S.rf⟩
  have hl := lv_entry ([.ref (ea E 5 wi)] : List Value) (n := 1) (Nat.le_of_ble_eq_true rfl)
  rw [lg_entry_eq]
  generalize (lg_sl ([.ref (ea E 5 wi)] : List Value) ++ List.replicate (1 - (lg_sl ([.ref (ea E 5 wi)] : List Value)).length) Slot.unset).toArray = ls at hl ⊢
  have hl : lv_has ls 1 [(0, .ref (ea E 5 wi))] := hl
  unfold w_W_clear at hw
  refine lv_aload_n hx hb d_W_clear_0 rfl (lv_at hl 0 rfl) ?_
  refine lv_iconst (v := 0) hx hb d_W_clear_1 (by decide) ?_
  refine kp_W_W_count hx hb hG hown hK hV hwi d_W_clear_2 (fun s1 H locs es1 hV => ?_)
  have hw := hw s1 es1
  exact kr_v hx hb hr hV hK hX hAe hw d_W_clear_5
end
section
theorem d_P_copy_0 : decode b_P_copy 0 = .ok (.aload_n 1, 1) := by decide +kernel
theorem d_P_copy_1 : decode b_P_copy 1 = .ok (.getfield 9, 3) := by decide +kernel
theorem d_P_copy_4 : decode b_P_copy 4 = .ok (.iconst 0, 1) := by decide +kernel
theorem d_P_copy_5 : decode b_P_copy 5 = .ok (.aload_n 0, 1) := by decide +kernel
theorem d_P_copy_6 : decode b_P_copy 6 = .ok (.getfield 9, 3) := by decide +kernel
theorem d_P_copy_9 : decode b_P_copy 9 = .ok (.iconst 0, 1) := by decide +kernel
theorem d_P_copy_10 : decode b_P_copy 10 = .ok (.sipush 128, 3) := by decide +kernel
theorem d_P_copy_13 : decode b_P_copy 13 = .ok (.invokestatic 49, 3) := by decide +kernel
theorem d_P_copy_16 : decode b_P_copy 16 = .ok (.aload_n 1, 1) := by decide +kernel
theorem d_P_copy_17 : decode b_P_copy 17 = .ok (.getfield 15, 3) := by decide +kernel
theorem d_P_copy_20 : decode b_P_copy 20 = .ok (.iconst 0, 1) := by decide +kernel
theorem d_P_copy_21 : decode b_P_copy 21 = .ok (.aload_n 0, 1) := by decide +kernel
theorem d_P_copy_22 : decode b_P_copy 22 = .ok (.getfield 15, 3) := by decide +kernel
theorem d_P_copy_25 : decode b_P_copy 25 = .ok (.iconst 0, 1) := by decide +kernel
theorem d_P_copy_26 : decode b_P_copy 26 = .ok (.bipush 32, 2) := by decide +kernel
theorem d_P_copy_28 : decode b_P_copy 28 = .ok (.invokestatic 49, 3) := by decide +kernel
theorem d_P_copy_31 : decode b_P_copy 31 = .ok (.aload_n 1, 1) := by decide +kernel
theorem d_P_copy_32 : decode b_P_copy 32 = .ok (.getfield 18, 3) := by decide +kernel
theorem d_P_copy_35 : decode b_P_copy 35 = .ok (.iconst 0, 1) := by decide +kernel
theorem d_P_copy_36 : decode b_P_copy 36 = .ok (.aload_n 0, 1) := by decide +kernel
theorem d_P_copy_37 : decode b_P_copy 37 = .ok (.getfield 18, 3) := by decide +kernel
theorem d_P_copy_40 : decode b_P_copy 40 = .ok (.iconst 0, 1) := by decide +kernel
theorem d_P_copy_41 : decode b_P_copy 41 = .ok (.bipush 8, 2) := by decide +kernel
theorem d_P_copy_43 : decode b_P_copy 43 = .ok (.invokestatic 49, 3) := by decide +kernel
theorem d_P_copy_46 : decode b_P_copy 46 = .ok (.aload_n 0, 1) := by decide +kernel
theorem d_P_copy_47 : decode b_P_copy 47 = .ok (.aload_n 1, 1) := by decide +kernel
theorem d_P_copy_48 : decode b_P_copy 48 = .ok (.getfield 21, 3) := by decide +kernel
theorem d_P_copy_51 : decode b_P_copy 51 = .ok (.putfield 21, 3) := by decide +kernel
theorem d_P_copy_54 : decode b_P_copy 54 = .ok (.aload_n 0, 1) := by decide +kernel
theorem d_P_copy_55 : decode b_P_copy 55 = .ok (.aload_n 1, 1) := by decide +kernel
theorem d_P_copy_56 : decode b_P_copy 56 = .ok (.getfield 25, 3) := by decide +kernel
theorem d_P_copy_59 : decode b_P_copy 59 = .ok (.putfield 25, 3) := by decide +kernel
theorem d_P_copy_62 : decode b_P_copy 62 = .ok (.aload_n 0, 1) := by decide +kernel
theorem d_P_copy_63 : decode b_P_copy 63 = .ok (.aload_n 1, 1) := by decide +kernel
theorem d_P_copy_64 : decode b_P_copy 64 = .ok (.getfield 46, 3) := by decide +kernel
theorem d_P_copy_67 : decode b_P_copy 67 = .ok (.putfield 28, 3) := by decide +kernel
theorem d_P_copy_70 : decode b_P_copy 70 = .ok (.return_, 1) := by decide +kernel
def w_P_copy (cp : Nat) (i : Nat) (p1 : Nat) (s0 : KS) (Φ : KS → Prop) : Prop := ∀ s1 : KS, s1 = ur s0 2 i (va_cpy (s0 2 p1) (s0 2 i) 0 0 128) → ∀ s2 : KS, s2 = ur s1 3 i (va_cpy (s1 3 p1) (s1 3 i) 0 0 32) → ∀ s3 : KS, s3 = ur s2 4 i (va_cpy (s2 4 p1) (s2 4 i) 0 0 8) → ∀ s4 : KS, s4 = w3 s3 1 i 4 (s3 1 p1 4) → ∀ s5 : KS, s5 = w3 s4 1 i 5 (s4 1 p1 5) → ∀ s6 : KS, s6 = w3 s5 1 i 6 (s5 1 p1 0) → Φ s6
set_option maxHeartbeats 4000000 in
set_option maxRecDepth 100000 in
theorem c_P_copy (l : Launch) (E : gE) (s0 : KS) (i : Nat) (hi : i < 16) (p1 : Nat) (hp1 : p1 < 16) (Φ : KS → Prop) (hw : w_P_copy (eN E) i p1 s0 Φ) : gMv l y_P_copy v_P_copy m_P_copy E KK [.ref (ea E 1 i), .ref (ea E 1 p1)] s0 Φ := by
  intro sz
  refine Met.ofW (cc := b_P_copy) (maxL := 2) (ret := none) (by decide) rfl ?_
  intro p e s m args below meth c s₁ B hml hv
  obtain ⟨rfl, hsz, hP, hK, hD, hX⟩ := hv
  have hx := B.exec
  have hb := B.bytes
  have hr := B.returns
  have hts := atoms_spec (ws := v_P_copy) B.pre
  have hG : ∀ w ∈ gG, w.before _ s = true := fun w h => hts w (List.mem_cons_of_mem _ h)
  have hown : s.vm.findClass R_P = some m.cls := findClass_of_methodNamed B.named
  have hlocks := B.notSynchronized
  subst hsz
  obtain ⟨A, hAe⟩ : ∃ A, A = gA E KK s.heap.size := ⟨_, rfl⟩
  rw [← hAe] at hD hX ⊢
  have hV : gV E KK A s0 s s.heap [] := ⟨hP, hD, va_S.rf⟩
  have hl := lv_entry ([.ref (ea E 1 i), .ref (ea E 1 p1)] : List Value) (n := 2) (Nat.le_of_ble_eq_true rfl)
  rw [lg_entry_eq]
  generalize (lg_sl ([.ref (ea E 1 i), .ref (ea E 1 p1)] : List Value) ++ List.replicate (2 - (lg_sl ([.ref (ea E 1 i), .ref (ea E 1 p1)] : List Value)).length) Slot.unset).toArray = ls at hl ⊢
  have hl : lv_has ls 2 [(0, .ref (ea E 1 i)), (1, .ref (ea E 1 p1))] := hl
  unfold w_P_copy at hw
  refine lv_aload_n hx hb d_P_copy_0 rfl (lv_at hl 1 rfl) ?_
  refine kg_P_P_memory hx hb hG hown hK hV hp1 d_P_copy_1 ?_
  refine lv_iconst (v := 0) hx hb d_P_copy_4 (by decide) ?_
  refine lv_aload_n hx hb d_P_copy_5 rfl (lv_at hl 0 rfl) ?_
  refine kg_P_P_memory hx hb hG hown hK hV hi d_P_copy_6 ?_
  refine lv_iconst (v := 0) hx hb d_P_copy_9 (by decide) ?_
  refine lv_sipush (v := 128) hx hb d_P_copy_10 (by decide) ?_
  refine kcp_2 hx hb hml hl.1 hG hown hK hV hp1 hi d_P_copy_13 (Nat.le_of_ble_eq_true rfl) (Nat.le_of_ble_eq_true rfl) (fun s1 H locs es1 hV => ?_)
  have hw := hw s1 es1
  refine lv_aload_n hx hb d_P_copy_16 rfl (lv_at hl 1 rfl) ?_
  refine kg_P_P_words hx hb hG hown hK hV hp1 d_P_copy_17 ?_
  refine lv_iconst (v := 0) hx hb d_P_copy_20 (by decide) ?_
  refine lv_aload_n hx hb d_P_copy_21 rfl (lv_at hl 0 rfl) ?_
  refine kg_P_P_words hx hb hG hown hK hV hi d_P_copy_22 ?_
  refine lv_iconst (v := 0) hx hb d_P_copy_25 (by decide) ?_
  refine lv_bipush (v := 32) hx hb d_P_copy_26 (by decide) ?_
  refine kcp_3 hx hb hml hl.1 hG hown hK hV hp1 hi d_P_copy_28 (Nat.le_of_ble_eq_true rfl) (Nat.le_of_ble_eq_true rfl) (fun s2 H locs es2 hV => ?_)
  have hw := hw s2 es2
  refine lv_aload_n hx hb d_P_copy_31 rfl (lv_at hl 1 rfl) ?_
  refine kg_P_P_descriptors hx hb hG hown hK hV hp1 d_P_copy_32 ?_
  refine lv_iconst (v := 0) hx hb d_P_copy_35 (by decide) ?_
  refine lv_aload_n hx hb d_P_copy_36 rfl (lv_at hl 0 rfl) ?_
  refine kg_P_P_descriptors hx hb hG hown hK hV hi d_P_copy_37 ?_
  refine lv_iconst (v := 0) hx hb d_P_copy_40 (by decide) ?_
  refine lv_bipush (v := 8) hx hb d_P_copy_41 (by decide) ?_
  refine kcp_4 hx hb hml hl.1 hG hown hK hV hp1 hi d_P_copy_43 (Nat.le_of_ble_eq_true rfl) (Nat.le_of_ble_eq_true rfl) (fun s3 H locs es3 hV => ?_)
  have hw := hw s3 es3
  refine lv_aload_n hx hb d_P_copy_46 rfl (lv_at hl 0 rfl) ?_
  refine lv_aload_n hx hb d_P_copy_47 rfl (lv_at hl 1 rfl) ?_
  refine kg_P_P_height hx hb hG hown hK hV hp1 d_P_copy_48 ?_
  refine kp_P_P_height hx hb hG hown hK hV hi d_P_copy_51 (fun s4 H locs es4 hV => ?_)
  have hw := hw s4 es4
  refine lv_aload_n hx hb d_P_copy_54 rfl (lv_at hl 0 rfl) ?_
  refine lv_aload_n hx hb d_P_copy_55 rfl (lv_at hl 1 rfl) ?_
  refine kg_P_P_place hx hb hG hown hK hV hp1 d_P_copy_56 ?_
  refine kp_P_P_place hx hb hG hown hK hV hi d_P_copy_59 (fun s5 H locs es5 hV => ?_)
  have hw := hw s5 es5
  refine lv_aload_n hx hb d_P_copy_62 rfl (lv_at hl 0 rfl) ?_
  refine lv_aload_n hx hb d_P_copy_63 rfl (lv_at hl 1 rfl) ?_
  refine kg_P_P_number hx hb hG hown hK hV hp1 d_P_copy_64 ?_
  refine kp_P_P_parent hx hb hG hown hK hV hi d_P_copy_67 (fun s6 H locs es6 hV => ?_)
  have hw := hw s6 es6
  exact kr_v hx hb hr hV hK hX hAe hw d_P_copy_70
theorem d_P_isChildOf_0 : decode b_P_isChildOf 0 = .ok (.aload_n 0, 1) := by decide +kernel
theorem d_P_isChildOf_1 : decode b_P_isChildOf 1 = .ok (.getfield 31, 3) := by decide +kernel
theorem d_P_isChildOf_4 : decode b_P_isChildOf 4 = .ok (.ifCond .eq 18, 3) := by decide +kernel
theorem d_P_isChildOf_7 : decode b_P_isChildOf 7 = .ok (.aload_n 0, 1) := by decide +kernel
theorem d_P_isChildOf_8 : decode b_P_isChildOf 8 = .ok (.getfield 28, 3) := by decide +kernel
theorem d_P_isChildOf_11 : decode b_P_isChildOf 11 = .ok (.aload_n 1, 1) := by decide +kernel
theorem d_P_isChildOf_12 : decode b_P_isChildOf 12 = .ok (.getfield 46, 3) := by decide +kernel
theorem d_P_isChildOf_15 : decode b_P_isChildOf 15 = .ok (.if_icmp .ne 7, 3) := by decide +kernel
theorem d_P_isChildOf_18 : decode b_P_isChildOf 18 = .ok (.iconst 1, 1) := by decide +kernel
theorem d_P_isChildOf_19 : decode b_P_isChildOf 19 = .ok (.goto 4, 3) := by decide +kernel
theorem d_P_isChildOf_22 : decode b_P_isChildOf 22 = .ok (.iconst 0, 1) := by decide +kernel
theorem d_P_isChildOf_23 : decode b_P_isChildOf 23 = .ok (.ireturn, 1) := by decide +kernel
def w_P_isChildOf (cp : Nat) (i : Nat) (p1 : Nat) (s0 : KS) (Φ : Int32 → KS → Prop) : Prop := (((s0 1 i 7) = 0 → Φ (0 : Int32) s0) ∧ (¬ (s0 1 i 7) = 0 → ((¬ (s0 1 i 6) = (s0 1 p1 0) → Φ (0 : Int32) s0) ∧ ((s0 1 i 6) = (s0 1 p1 0) → Φ (1 : Int32) s0))))
set_option maxHeartbeats 4000000 in
set_option maxRecDepth 100000 in
theorem c_P_isChildOf (l : Launch) (E : gE) (s0 : KS) (i : Nat) (hi : i < 16) (p1 : Nat) (hp1 : p1 < 16) (Φ : Int32 → KS → Prop) (hw : w_P_isChildOf (eN E) i p1 s0 Φ) : gMi l y_P_isChildOf v_P_isChildOf m_P_isChildOf E KK [.ref (ea E 1 i), .ref (ea E 1 p1)] s0 Φ := by
  intro sz
  refine Met.ofW (cc := b_P_isChildOf) (maxL := 2) (ret := (some .boolean)) (by decide) rfl ?_
  intro p e s m args below meth c s₁ B hml hv
  obtain ⟨rfl, hsz, hP, hK, hD, hX⟩ := hv
  have hx := B.exec
  have hb := B.bytes
  have hr := B.returns
  have hts := atoms_spec (ws := v_P_isChildOf) B.pre
  have hG : ∀ w ∈ gG, w.before _ s = true := fun w h => hts w (List.mem_cons_of_mem _ h)
  have hown : s.vm.findClass R_P = some m.cls := findClass_of_methodNamed B.named
  have hlocks := B.notSynchronized
  subst hsz
  obtain ⟨A, hAe⟩ : ∃ A, A = gA E KK s.heap.size := ⟨_, rfl⟩
  rw [← hAe] at hD hX ⊢
  have hV : gV E KK A s0 s s.heap [] := ⟨hP, hD, va_S.rf⟩
  have hl := lv_entry ([.ref (ea E 1 i), .ref (ea E 1 p1)] : List Value) (n := 2) (Nat.le_of_ble_eq_true rfl)
  rw [lg_entry_eq]
  generalize (lg_sl ([.ref (ea E 1 i), .ref (ea E 1 p1)] : List Value) ++ List.replicate (2 - (lg_sl ([.ref (ea E 1 i), .ref (ea E 1 p1)] : List Value)).length) Slot.unset).toArray = ls at hl ⊢
  have hl : lv_has ls 2 [(0, .ref (ea E 1 i)), (1, .ref (ea E 1 p1))] := hl
  unfold w_P_isChildOf at hw
  refine lv_aload_n hx hb d_P_isChildOf_0 rfl (lv_at hl 0 rfl) ?_
  refine kg_P_P_state hx hb hG hown hK hV hi d_P_isChildOf_1 ?_
  refine lv_if_eq (tgt := 22) hx hb d_P_isChildOf_4 rfl (fun hc => ?_) (fun hc => ?_)
  · have hw := hw.1 hc
    refine lv_iconst (v := 0) hx hb d_P_isChildOf_22 (by decide) ?_
    exact kr_z hx hb hr hV hK hX hAe (by decide) hw d_P_isChildOf_23
  · have hw := hw.2 hc
    refine lv_aload_n hx hb d_P_isChildOf_7 rfl (lv_at hl 0 rfl) ?_
    refine kg_P_P_parent hx hb hG hown hK hV hi d_P_isChildOf_8 ?_
    refine lv_aload_n hx hb d_P_isChildOf_11 rfl (lv_at hl 1 rfl) ?_
    refine kg_P_P_number hx hb hG hown hK hV hp1 d_P_isChildOf_12 ?_
    refine lv_icmp_ne (tgt := 22) hx hb d_P_isChildOf_15 rfl (fun hc => ?_) (fun hc => ?_)
    · have hw := hw.1 hc
      refine lv_iconst (v := 0) hx hb d_P_isChildOf_22 (by decide) ?_
      exact kr_z hx hb hr hV hK hX hAe (by decide) hw d_P_isChildOf_23
    · have hw := hw.2 hc
      refine lv_iconst (v := 1) hx hb d_P_isChildOf_18 (by decide) ?_
      refine lv_goto (tgt := 23) hx hb d_P_isChildOf_19 rfl ?_
      exact kr_z hx hb hr hV hK hX hAe (by decide) hw d_P_isChildOf_23
theorem d_P_descriptorAt_0 : decode b_P_descriptorAt 0 = .ok (.iload_n 1, 1) := by decide +kernel
theorem d_P_descriptorAt_1 : decode b_P_descriptorAt 1 = .ok (.ifCond .lt 18, 3) := by decide +kernel
theorem d_P_descriptorAt_4 : decode b_P_descriptorAt 4 = .ok (.iload_n 1, 1) := by decide +kernel
theorem d_P_descriptorAt_5 : decode b_P_descriptorAt 5 = .ok (.bipush 8, 2) := by decide +kernel
theorem d_P_descriptorAt_7 : decode b_P_descriptorAt 7 = .ok (.if_icmp .ge 12, 3) := by decide +kernel
theorem d_P_descriptorAt_10 : decode b_P_descriptorAt 10 = .ok (.aload_n 0, 1) := by decide +kernel
theorem d_P_descriptorAt_11 : decode b_P_descriptorAt 11 = .ok (.getfield 18, 3) := by decide +kernel
theorem d_P_descriptorAt_14 : decode b_P_descriptorAt 14 = .ok (.iload_n 1, 1) := by decide +kernel
theorem d_P_descriptorAt_15 : decode b_P_descriptorAt 15 = .ok (.iaload, 1) := by decide +kernel
theorem d_P_descriptorAt_16 : decode b_P_descriptorAt 16 = .ok (.goto 4, 3) := by decide +kernel
theorem d_P_descriptorAt_19 : decode b_P_descriptorAt 19 = .ok (.iconst 0, 1) := by decide +kernel
theorem d_P_descriptorAt_20 : decode b_P_descriptorAt 20 = .ok (.ireturn, 1) := by decide +kernel
def w_P_descriptorAt (cp : Nat) (i : Nat) (x1 : Int32) (s0 : KS) (Φ : Int32 → KS → Prop) : Prop := ((x1 < 0 → Φ (0 : Int32) s0) ∧ (¬ x1 < 0 → (((8 : Int32) ≤ x1 → Φ (0 : Int32) s0) ∧ (¬ (8 : Int32) ≤ x1 → vp_in x1 8 ∧ Φ (s0 4 i x1.toNatClampNeg) s0))))
set_option maxHeartbeats 4000000 in
set_option maxRecDepth 100000 in
theorem c_P_descriptorAt (l : Launch) (E : gE) (s0 : KS) (i : Nat) (hi : i < 16) (x1 : Int32) (Φ : Int32 → KS → Prop) (hw : w_P_descriptorAt (eN E) i x1 s0 Φ) : gMi l y_P_descriptorAt v_P_descriptorAt m_P_descriptorAt E KK [.ref (ea E 1 i), .int x1] s0 Φ := by
  intro sz
  refine Met.ofW (cc := b_P_descriptorAt) (maxL := 2) (ret := (some .int)) (by decide) rfl ?_
  intro p e s m args below meth c s₁ B hml hv
  obtain ⟨rfl, hsz, hP, hK, hD, hX⟩ := hv
  have hx := B.exec
  have hb := B.bytes
  have hr := B.returns
  have hts := atoms_spec (ws := v_P_descriptorAt) B.pre
  have hG : ∀ w ∈ gG, w.before _ s = true := fun w h => hts w (List.mem_cons_of_mem _ h)
  have hown : s.vm.findClass R_P = some m.cls := findClass_of_methodNamed B.named
  have hlocks := B.notSynchronized
  subst hsz
  obtain ⟨A, hAe⟩ : ∃ A, A = gA E KK s.heap.size := ⟨_, rfl⟩
  rw [← hAe] at hD hX ⊢
  have hV : gV E KK A s0 s s.heap [] := ⟨hP, hD, va_S.rf⟩
  have hl := lv_entry ([.ref (ea E 1 i), .int x1] : List Value) (n := 2) (Nat.le_of_ble_eq_true rfl)
  rw [lg_entry_eq]
  generalize (lg_sl ([.ref (ea E 1 i), .int x1] : List Value) ++ List.replicate (2 - (lg_sl ([.ref (ea E 1 i), .int x1] : List Value)).length) Slot.unset).toArray = ls at hl ⊢
  have hl : lv_has ls 2 [(0, .ref (ea E 1 i)), (1, .int x1)] := hl
  unfold w_P_descriptorAt at hw
  refine lv_iload_n hx hb d_P_descriptorAt_0 rfl (lv_at hl 1 rfl) ?_
  refine lv_if_lt (tgt := 19) hx hb d_P_descriptorAt_1 rfl (fun hc => ?_) (fun hc => ?_)
  · have hw := hw.1 hc
    refine lv_iconst (v := 0) hx hb d_P_descriptorAt_19 (by decide) ?_
    exact kr_i hx hb hr hV hK hX hAe hw d_P_descriptorAt_20
  · have hw := hw.2 hc
    refine lv_iload_n hx hb d_P_descriptorAt_4 rfl (lv_at hl 1 rfl) ?_
    refine lv_bipush (v := 8) hx hb d_P_descriptorAt_5 (by decide) ?_
    refine lv_icmp_ge (tgt := 19) hx hb d_P_descriptorAt_7 rfl (fun hc => ?_) (fun hc => ?_)
    · have hw := hw.1 hc
      refine lv_iconst (v := 0) hx hb d_P_descriptorAt_19 (by decide) ?_
      exact kr_i hx hb hr hV hK hX hAe hw d_P_descriptorAt_20
    · have hw := hw.2 hc
      refine lv_aload_n hx hb d_P_descriptorAt_10 rfl (lv_at hl 0 rfl) ?_
      refine kg_P_P_descriptors hx hb hG hown hK hV hi d_P_descriptorAt_11 ?_
      refine lv_iload_n hx hb d_P_descriptorAt_14 rfl (lv_at hl 1 rfl) ?_
      refine kl_4 hx hb hK hV hi hw.1 d_P_descriptorAt_15 ?_
      have hw := hw.2
      refine lv_goto (tgt := 20) hx hb d_P_descriptorAt_16 rfl ?_
      exact kr_i hx hb hr hV hK hX hAe hw d_P_descriptorAt_20
theorem d_P_leastClosed_0 : decode b_P_leastClosed 0 = .ok (.iconst 0, 1) := by decide +kernel
theorem d_P_leastClosed_1 : decode b_P_leastClosed 1 = .ok (.istore_n 1, 1) := by decide +kernel
theorem d_P_leastClosed_2 : decode b_P_leastClosed 2 = .ok (.iload_n 1, 1) := by decide +kernel
theorem d_P_leastClosed_3 : decode b_P_leastClosed 3 = .ok (.bipush 8, 2) := by decide +kernel
theorem d_P_leastClosed_5 : decode b_P_leastClosed 5 = .ok (.if_icmp .ge 20, 3) := by decide +kernel
theorem d_P_leastClosed_8 : decode b_P_leastClosed 8 = .ok (.aload_n 0, 1) := by decide +kernel
theorem d_P_leastClosed_9 : decode b_P_leastClosed 9 = .ok (.getfield 18, 3) := by decide +kernel
theorem d_P_leastClosed_12 : decode b_P_leastClosed 12 = .ok (.iload_n 1, 1) := by decide +kernel
theorem d_P_leastClosed_13 : decode b_P_leastClosed 13 = .ok (.iaload, 1) := by decide +kernel
theorem d_P_leastClosed_14 : decode b_P_leastClosed 14 = .ok (.ifCond .ne 5, 3) := by decide +kernel
theorem d_P_leastClosed_17 : decode b_P_leastClosed 17 = .ok (.iload_n 1, 1) := by decide +kernel
theorem d_P_leastClosed_18 : decode b_P_leastClosed 18 = .ok (.ireturn, 1) := by decide +kernel
theorem d_P_leastClosed_19 : decode b_P_leastClosed 19 = .ok (.iinc 1 1, 3) := by decide +kernel
theorem d_P_leastClosed_22 : decode b_P_leastClosed 22 = .ok (.goto (-20), 3) := by decide +kernel
theorem d_P_leastClosed_25 : decode b_P_leastClosed 25 = .ok (.iconst (-1), 1) := by decide +kernel
theorem d_P_leastClosed_26 : decode b_P_leastClosed 26 = .ok (.ireturn, 1) := by decide +kernel
def w_P_leastClosed_2 (cp : Nat) (i : Nat) (Φ : Int32 → KS → Prop) : Nat → Int32 → KS → Prop
  | 0, _, _ => False
  | n + 1, v1, s0 => (((8 : Int32) ≤ v1 → Φ (-1 : Int32) s0) ∧ (¬ (8 : Int32) ≤ v1 → vp_in v1 8 ∧ ((¬ (s0 4 i v1.toNatClampNeg) = 0 → ∀ y1 : Int32, y1 = v1 + (1 : Int32) → w_P_leastClosed_2 cp i Φ n y1 s0) ∧ ((s0 4 i v1.toNatClampNeg) = 0 → Φ v1 s0))))
def w_P_leastClosed (cp : Nat) (i : Nat) (s0 : KS) (Φ : Int32 → KS → Prop) : Prop := ∃ n : Nat, w_P_leastClosed_2 cp i Φ n (0 : Int32) s0
set_option maxHeartbeats 4000000 in
set_option maxRecDepth 100000 in
theorem c_P_leastClosed (l : Launch) (E : gE) (s0 : KS) (i : Nat) (hi : i < 16) (Φ : Int32 → KS → Prop) (hw : w_P_leastClosed (eN E) i s0 Φ) : gMi l y_P_leastClosed v_P_leastClosed m_P_leastClosed E KK [.ref (ea E 1 i)] s0 Φ := by
  intro sz
  refine Met.ofW (cc := b_P_leastClosed) (maxL := 2) (ret := (some .int)) (by decide) rfl ?_
  intro p e s m args below meth c s₁ B hml hv
  obtain ⟨rfl, hsz, hP, hK, hD, hX⟩ := hv
  have hx := B.exec
  have hb := B.bytes
  have hr := B.returns
  have hts := atoms_spec (ws := v_P_leastClosed) B.pre
  have hG : ∀ w ∈ gG, w.before _ s = true := fun w h => hts w (List.mem_cons_of_mem _ h)
  have hown : s.vm.findClass R_P = some m.cls := findClass_of_methodNamed B.named
  have hlocks := B.notSynchronized
  subst hsz
  obtain ⟨A, hAe⟩ : ∃ A, A = gA E KK s.heap.size := ⟨_, rfl⟩
  rw [← hAe] at hD hX ⊢
  have hV : gV E KK A s0 s s.heap [] := ⟨hP, hD, va_S.rf⟩
  have hl := lv_entry ([.ref (ea E 1 i)] : List Value) (n := 2) (Nat.le_of_ble_eq_true rfl)
  rw [lg_entry_eq]
  generalize (lg_sl ([.ref (ea E 1 i)] : List Value) ++ List.replicate (2 - (lg_sl ([.ref (ea E 1 i)] : List Value)).length) Slot.unset).toArray = ls at hl ⊢
  have hl : lv_has ls 2 [(0, .ref (ea E 1 i))] := hl
  have L2 : ∀ (n : Nat), ∀ (ls : Array Slot) (H : Heap) (locs : List Loc) (s0 : KS) (v1 : Int32), lv_has ls 2 [(0, .ref (ea E 1 i)), (1, .int v1)] → gV E KK A s0 s H locs → w_P_leastClosed_2 (eN E) i Φ n v1 s0 → W p l e m_P_leastClosed s m ([.ref (ea E 1 i)] : List Value).toArray below meth c H locs 0 0 (MQ below (gQi E KK A Φ) ([.ref (ea E 1 i)] : List Value).toArray s 0 0 A) (F0 m 2 ls []) := by
    intro n
    induction n with
    | zero =>
      intro ls H locs s0 v1 hl hV hw
      exact False.elim hw
    | succ n ih =>
      intro ls H locs s0 v1 hl hV hw
      unfold w_P_leastClosed_2 at hw
      refine lv_iload_n hx hb d_P_leastClosed_2 rfl (lv_at hl 1 rfl) ?_
      refine lv_bipush (v := 8) hx hb d_P_leastClosed_3 (by decide) ?_
      refine lv_icmp_ge (tgt := 25) hx hb d_P_leastClosed_5 rfl (fun hc => ?_) (fun hc => ?_)
      · have hw := hw.1 hc
        refine lv_iconst (v := -1) hx hb d_P_leastClosed_25 (by decide) ?_
        exact kr_i hx hb hr hV hK hX hAe hw d_P_leastClosed_26
      · have hw := hw.2 hc
        refine lv_aload_n hx hb d_P_leastClosed_8 rfl (lv_at hl 0 rfl) ?_
        refine kg_P_P_descriptors hx hb hG hown hK hV hi d_P_leastClosed_9 ?_
        refine lv_iload_n hx hb d_P_leastClosed_12 rfl (lv_at hl 1 rfl) ?_
        refine kl_4 hx hb hK hV hi hw.1 d_P_leastClosed_13 ?_
        have hw := hw.2
        refine lv_if_ne (tgt := 19) hx hb d_P_leastClosed_14 rfl (fun hc => ?_) (fun hc => ?_)
        · have hw := hw.1 hc
          obtain ⟨y1, ey1⟩ : ∃ z : Int32, z = v1 + (1 : Int32) := ⟨_, rfl⟩
          have hw := hw y1 ey1
          refine lv_iinc (k := 1) (v := y1) (lv' := [(1, .int y1), (0, .ref (ea E 1 i))]) hx hb d_P_leastClosed_19 hl rfl (by rw [ey1]; rfl) (by decide) rfl (fun ls hl => ?_)
          refine lv_goto (tgt := 2) hx hb d_P_leastClosed_22 rfl ?_
          exact ih _ _ _ s0 y1 (lv_sub hl [1, 0] rfl) hV hw
        · have hw := hw.2 hc
          refine lv_iload_n hx hb d_P_leastClosed_17 rfl (lv_at hl 1 rfl) ?_
          exact kr_i hx hb hr hV hK hX hAe hw d_P_leastClosed_18
  unfold w_P_leastClosed at hw
  refine lv_iconst (v := 0) hx hb d_P_leastClosed_0 (by decide) ?_
  refine lv_istore_n (lv' := [(1, .int (0 : Int32)), (0, .ref (ea E 1 i))]) hx hb d_P_leastClosed_1 rfl hl (by decide) rfl (fun ls hl => ?_)
  obtain ⟨n, hw⟩ := hw
  exact L2 n _ _ _ s0 (0 : Int32) (lv_sub hl [1, 0] rfl) hV hw
theorem d_P_openDescriptors_0 : decode b_P_openDescriptors 0 = .ok (.iconst 0, 1) := by decide +kernel
theorem d_P_openDescriptors_1 : decode b_P_openDescriptors 1 = .ok (.istore_n 1, 1) := by decide +kernel
theorem d_P_openDescriptors_2 : decode b_P_openDescriptors 2 = .ok (.iconst 0, 1) := by decide +kernel
theorem d_P_openDescriptors_3 : decode b_P_openDescriptors 3 = .ok (.istore_n 2, 1) := by decide +kernel
theorem d_P_openDescriptors_4 : decode b_P_openDescriptors 4 = .ok (.iload_n 2, 1) := by decide +kernel
theorem d_P_openDescriptors_5 : decode b_P_openDescriptors 5 = .ok (.bipush 8, 2) := by decide +kernel
theorem d_P_openDescriptors_7 : decode b_P_openDescriptors 7 = .ok (.if_icmp .ge 24, 3) := by decide +kernel
theorem d_P_openDescriptors_10 : decode b_P_openDescriptors 10 = .ok (.aload_n 0, 1) := by decide +kernel
theorem d_P_openDescriptors_11 : decode b_P_openDescriptors 11 = .ok (.getfield 18, 3) := by decide +kernel
theorem d_P_openDescriptors_14 : decode b_P_openDescriptors 14 = .ok (.iload_n 2, 1) := by decide +kernel
theorem d_P_openDescriptors_15 : decode b_P_openDescriptors 15 = .ok (.iaload, 1) := by decide +kernel
theorem d_P_openDescriptors_16 : decode b_P_openDescriptors 16 = .ok (.ifCond .eq 9, 3) := by decide +kernel
theorem d_P_openDescriptors_19 : decode b_P_openDescriptors 19 = .ok (.iload_n 1, 1) := by decide +kernel
theorem d_P_openDescriptors_20 : decode b_P_openDescriptors 20 = .ok (.iconst 1, 1) := by decide +kernel
theorem d_P_openDescriptors_21 : decode b_P_openDescriptors 21 = .ok (.iload_n 2, 1) := by decide +kernel
theorem d_P_openDescriptors_22 : decode b_P_openDescriptors 22 = .ok (.ishl, 1) := by decide +kernel
theorem d_P_openDescriptors_23 : decode b_P_openDescriptors 23 = .ok (.ior, 1) := by decide +kernel
theorem d_P_openDescriptors_24 : decode b_P_openDescriptors 24 = .ok (.istore_n 1, 1) := by decide +kernel
theorem d_P_openDescriptors_25 : decode b_P_openDescriptors 25 = .ok (.iinc 2 1, 3) := by decide +kernel
theorem d_P_openDescriptors_28 : decode b_P_openDescriptors 28 = .ok (.goto (-24), 3) := by decide +kernel
theorem d_P_openDescriptors_31 : decode b_P_openDescriptors 31 = .ok (.iload_n 1, 1) := by decide +kernel
theorem d_P_openDescriptors_32 : decode b_P_openDescriptors 32 = .ok (.ireturn, 1) := by decide +kernel
def w_P_openDescriptors_4 (cp : Nat) (i : Nat) (Φ : Int32 → KS → Prop) : Nat → Int32 → Int32 → KS → Prop
  | 0, _, _, _ => False
  | n + 1, v1, v2, s0 => (((8 : Int32) ≤ v2 → Φ v1 s0) ∧ (¬ (8 : Int32) ≤ v2 → vp_in v2 8 ∧ (((s0 4 i v2.toNatClampNeg) = 0 → ∀ y1 : Int32, y1 = v2 + (1 : Int32) → w_P_openDescriptors_4 cp i Φ n v1 y1 s0) ∧ (¬ (s0 4 i v2.toNatClampNeg) = 0 → ∀ y2 : Int32, y2 = v1 ||| ((1 : Int32) <<< (v2 &&& 31)) → ∀ y3 : Int32, y3 = v2 + (1 : Int32) → w_P_openDescriptors_4 cp i Φ n y2 y3 s0))))
def w_P_openDescriptors (cp : Nat) (i : Nat) (s0 : KS) (Φ : Int32 → KS → Prop) : Prop := ∃ n : Nat, w_P_openDescriptors_4 cp i Φ n (0 : Int32) (0 : Int32) s0
set_option maxHeartbeats 4000000 in
set_option maxRecDepth 100000 in
theorem c_P_openDescriptors (l : Launch) (E : gE) (s0 : KS) (i : Nat) (hi : i < 16) (Φ : Int32 → KS → Prop) (hw : w_P_openDescriptors (eN E) i s0 Φ) : gMi l y_P_openDescriptors v_P_openDescriptors m_P_openDescriptors E KK [.ref (ea E 1 i)] s0 Φ := by
  intro sz
  refine Met.ofW (cc := b_P_openDescriptors) (maxL := 3) (ret := (some .int)) (by decide) rfl ?_
  intro p e s m args below meth c s₁ B hml hv
  obtain ⟨rfl, hsz, hP, hK, hD, hX⟩ := hv
  have hx := B.exec
  have hb := B.bytes
  have hr := B.returns
  have hts := atoms_spec (ws := v_P_openDescriptors) B.pre
  have hG : ∀ w ∈ gG, w.before _ s = true := fun w h => hts w (List.mem_cons_of_mem _ h)
  have hown : s.vm.findClass R_P = some m.cls := findClass_of_methodNamed B.named
  have hlocks := B.notSynchronized
  subst hsz
  obtain ⟨A, hAe⟩ : ∃ A, A = gA E KK s.heap.size := ⟨_, rfl⟩
  rw [← hAe] at hD hX ⊢
  have hV : gV E KK A s0 s s.heap [] := ⟨hP, hD, va_S.rf⟩
  have hl := lv_entry ([.ref (ea E 1 i)] : List Value) (n := 3) (Nat.le_of_ble_eq_true rfl)
  rw [lg_entry_eq]
  generalize (lg_sl ([.ref (ea E 1 i)] : List Value) ++ List.replicate (3 - (lg_sl ([.ref (ea E 1 i)] : List Value)).length) Slot.unset).toArray = ls at hl ⊢
  have hl : lv_has ls 3 [(0, .ref (ea E 1 i))] := hl
  have L4 : ∀ (n : Nat), ∀ (ls : Array Slot) (H : Heap) (locs : List Loc) (s0 : KS) (v1 : Int32) (v2 : Int32), lv_has ls 3 [(0, .ref (ea E 1 i)), (1, .int v1), (2, .int v2)] → gV E KK A s0 s H locs → w_P_openDescriptors_4 (eN E) i Φ n v1 v2 s0 → W p l e m_P_openDescriptors s m ([.ref (ea E 1 i)] : List Value).toArray below meth c H locs 0 0 (MQ below (gQi E KK A Φ) ([.ref (ea E 1 i)] : List Value).toArray s 0 0 A) (F0 m 4 ls []) := by
    intro n
    induction n with
    | zero =>
      intro ls H locs s0 v1 v2 hl hV hw
      exact False.elim hw
    | succ n ih =>
      intro ls H locs s0 v1 v2 hl hV hw
      unfold w_P_openDescriptors_4 at hw
      refine lv_iload_n hx hb d_P_openDescriptors_4 rfl (lv_at hl 2 rfl) ?_
      refine lv_bipush (v := 8) hx hb d_P_openDescriptors_5 (by decide) ?_
      refine lv_icmp_ge (tgt := 31) hx hb d_P_openDescriptors_7 rfl (fun hc => ?_) (fun hc => ?_)
      · have hw := hw.1 hc
        refine lv_iload_n hx hb d_P_openDescriptors_31 rfl (lv_at hl 1 rfl) ?_
        exact kr_i hx hb hr hV hK hX hAe hw d_P_openDescriptors_32
      · have hw := hw.2 hc
        refine lv_aload_n hx hb d_P_openDescriptors_10 rfl (lv_at hl 0 rfl) ?_
        refine kg_P_P_descriptors hx hb hG hown hK hV hi d_P_openDescriptors_11 ?_
        refine lv_iload_n hx hb d_P_openDescriptors_14 rfl (lv_at hl 2 rfl) ?_
        refine kl_4 hx hb hK hV hi hw.1 d_P_openDescriptors_15 ?_
        have hw := hw.2
        refine lv_if_eq (tgt := 25) hx hb d_P_openDescriptors_16 rfl (fun hc => ?_) (fun hc => ?_)
        · have hw := hw.1 hc
          obtain ⟨y1, ey1⟩ : ∃ z : Int32, z = v2 + (1 : Int32) := ⟨_, rfl⟩
          have hw := hw y1 ey1
          refine lv_iinc (k := 2) (v := y1) (lv' := [(2, .int y1), (0, .ref (ea E 1 i)), (1, .int v1)]) hx hb d_P_openDescriptors_25 hl rfl (by rw [ey1]; rfl) (by decide) rfl (fun ls hl => ?_)
          refine lv_goto (tgt := 4) hx hb d_P_openDescriptors_28 rfl ?_
          exact ih _ _ _ s0 v1 y1 (lv_sub hl [1, 2, 0] rfl) hV hw
        · have hw := hw.2 hc
          refine lv_iload_n hx hb d_P_openDescriptors_19 rfl (lv_at hl 1 rfl) ?_
          refine lv_iconst (v := 1) hx hb d_P_openDescriptors_20 (by decide) ?_
          refine lv_iload_n hx hb d_P_openDescriptors_21 rfl (lv_at hl 2 rfl) ?_
          refine lv_ishl hx hb d_P_openDescriptors_22 ?_
          refine lv_ior hx hb d_P_openDescriptors_23 ?_
          refine lv_topi (fun y2 ey2 => ?_)
          have hw := hw y2 ey2
          refine lv_istore_n (lv' := [(1, .int y2), (0, .ref (ea E 1 i)), (2, .int v2)]) hx hb d_P_openDescriptors_24 rfl hl (by decide) rfl (fun ls hl => ?_)
          obtain ⟨y3, ey3⟩ : ∃ z : Int32, z = v2 + (1 : Int32) := ⟨_, rfl⟩
          have hw := hw y3 ey3
          refine lv_iinc (k := 2) (v := y3) (lv' := [(2, .int y3), (1, .int y2), (0, .ref (ea E 1 i))]) hx hb d_P_openDescriptors_25 hl rfl (by rw [ey3]; rfl) (by decide) rfl (fun ls hl => ?_)
          refine lv_goto (tgt := 4) hx hb d_P_openDescriptors_28 rfl ?_
          exact ih _ _ _ s0 y2 y3 (lv_sub hl [2, 1, 0] rfl) hV hw
  unfold w_P_openDescriptors at hw
  refine lv_iconst (v := 0) hx hb d_P_openDescriptors_0 (by decide) ?_
  refine lv_istore_n (lv' := [(1, .int (0 : Int32)), (0, .ref (ea E 1 i))]) hx hb d_P_openDescriptors_1 rfl hl (by decide) rfl (fun ls hl => ?_)
  refine lv_iconst (v := 0) hx hb d_P_openDescriptors_2 (by decide) ?_
  refine lv_istore_n (lv' := [(2, .int (0 : Int32)), (1, .int (0 : Int32)), (0, .ref (ea E 1 i))]) hx hb d_P_openDescriptors_3 rfl hl (by decide) rfl (fun ls hl => ?_)
  obtain ⟨n, hw⟩ := hw
  exact L4 n _ _ _ s0 (0 : Int32) (0 : Int32) (lv_sub hl [2, 1, 0] rfl) hV hw
theorem d_P_countClosed_0 : decode b_P_countClosed 0 = .ok (.bipush 8, 2) := by decide +kernel
theorem d_P_countClosed_2 : decode b_P_countClosed 2 = .ok (.aload_n 0, 1) := by decide +kernel
theorem d_P_countClosed_3 : decode b_P_countClosed 3 = .ok (.invokevirtual 55, 3) := by decide +kernel
theorem d_P_countClosed_6 : decode b_P_countClosed 6 = .ok (.invokestatic 59, 3) := by decide +kernel
theorem d_P_countClosed_9 : decode b_P_countClosed 9 = .ok (.isub, 1) := by decide +kernel
theorem d_P_countClosed_10 : decode b_P_countClosed 10 = .ok (.ireturn, 1) := by decide +kernel
def w_P_countClosed (cp : Nat) (i : Nat) (s0 : KS) (Φ : Int32 → KS → Prop) : Prop := w_P_openDescriptors cp i s0 (fun r2 s1 => w_I_bitCount cp r2 s1 (fun r4 s3 => Φ ((8 : Int32) - r4) s3))
set_option maxHeartbeats 4000000 in
set_option maxRecDepth 100000 in
theorem c_P_countClosed (l : Launch) (E : gE) (s0 : KS) (i : Nat) (hi : i < 16) (Φ : Int32 → KS → Prop) (hw : w_P_countClosed (eN E) i s0 Φ) : gMi l y_P_countClosed v_P_countClosed m_P_countClosed E KK [.ref (ea E 1 i)] s0 Φ := by
  intro sz
  refine Met.ofW (cc := b_P_countClosed) (maxL := 1) (ret := (some .int)) (by decide) rfl ?_
  intro p e s m args below meth c s₁ B hml hv
  obtain ⟨rfl, hsz, hP, hK, hD, hX⟩ := hv
  have hx := B.exec
  have hb := B.bytes
  have hr := B.returns
  have hts := atoms_spec (ws := v_P_countClosed) B.pre
  have hG : ∀ w ∈ gG, w.before _ s = true := fun w h => hts w (List.mem_cons_of_mem _ h)
  have hown : s.vm.findClass R_P = some m.cls := findClass_of_methodNamed B.named
  have hlocks := B.notSynchronized
  subst hsz
  obtain ⟨A, hAe⟩ : ∃ A, A = gA E KK s.heap.size := ⟨_, rfl⟩
  rw [← hAe] at hD hX ⊢
  have hV : gV E KK A s0 s s.heap [] := ⟨hP, hD, va_S.rf⟩
  have hl := lv_entry ([.ref (ea E 1 i)] : List Value) (n := 1) (Nat.le_of_ble_eq_true rfl)
  rw [lg_entry_eq]
  generalize (lg_sl ([.ref (ea E 1 i)] : List Value) ++ List.replicate (1 - (lg_sl ([.ref (ea E 1 i)] : List Value)).length) Slot.unset).toArray = ls at hl ⊢
  have hl : lv_has ls 1 [(0, .ref (ea E 1 i))] := hl
  unfold w_P_countClosed at hw
  refine lv_bipush (v := 8) hx hb d_P_countClosed_0 (by decide) ?_
  refine lv_aload_n hx hb d_P_countClosed_2 rfl (lv_at hl 0 rfl) ?_
  refine kc_P_P_openDescriptors hx hb hml hown hts hV hK hX hAe (c_P_openDescriptors l E s0 i hi _ hw) hi hl.1 (Nat.le_of_ble_eq_true rfl) d_P_countClosed_3 (Nat.le_of_ble_eq_true rfl) (Nat.le_of_ble_eq_true rfl) (fun r2 s1 H locs hw hV => ?_)
  refine kc_P_I_bitCount hx hb hml hown hts hV hK hX hAe (c_I_bitCount l E s1 r2 _ hw) hl.1 (Nat.le_of_ble_eq_true rfl) d_P_countClosed_6 (Nat.le_of_ble_eq_true rfl) (Nat.le_of_ble_eq_true rfl) (fun r4 s3 H locs hw hV => ?_)
  refine lv_isub hx hb d_P_countClosed_9 ?_
  exact kr_i hx hb hr hV hK hX hAe hw d_P_countClosed_10
theorem d_P_top_0 : decode b_P_top 0 = .ok (.aload_n 0, 1) := by decide +kernel
theorem d_P_top_1 : decode b_P_top 1 = .ok (.getfield 15, 3) := by decide +kernel
theorem d_P_top_4 : decode b_P_top 4 = .ok (.aload_n 0, 1) := by decide +kernel
theorem d_P_top_5 : decode b_P_top 5 = .ok (.getfield 21, 3) := by decide +kernel
theorem d_P_top_8 : decode b_P_top 8 = .ok (.iconst 1, 1) := by decide +kernel
theorem d_P_top_9 : decode b_P_top 9 = .ok (.isub, 1) := by decide +kernel
theorem d_P_top_10 : decode b_P_top 10 = .ok (.iaload, 1) := by decide +kernel
theorem d_P_top_11 : decode b_P_top 11 = .ok (.ireturn, 1) := by decide +kernel
def w_P_top (cp : Nat) (i : Nat) (s0 : KS) (Φ : Int32 → KS → Prop) : Prop := vp_in ((s0 1 i 4) - (1 : Int32)) 32 ∧ Φ (s0 3 i ((s0 1 i 4) - (1 : Int32)).toNatClampNeg) s0
set_option maxHeartbeats 4000000 in
set_option maxRecDepth 100000 in
theorem c_P_top (l : Launch) (E : gE) (s0 : KS) (i : Nat) (hi : i < 16) (Φ : Int32 → KS → Prop) (hw : w_P_top (eN E) i s0 Φ) : gMi l y_P_top v_P_top m_P_top E KK [.ref (ea E 1 i)] s0 Φ := by
  intro sz
  refine Met.ofW (cc := b_P_top) (maxL := 1) (ret := (some .int)) (by decide) rfl ?_
  intro p e s m args below meth c s₁ B hml hv
  obtain ⟨rfl, hsz, hP, hK, hD, hX⟩ := hv
  have hx := B.exec
  have hb := B.bytes
  have hr := B.returns
  have hts := atoms_spec (ws := v_P_top) B.pre
  have hG : ∀ w ∈ gG, w.before _ s = true := fun w h => hts w (List.mem_cons_of_mem _ h)
  have hown : s.vm.findClass R_P = some m.cls := findClass_of_methodNamed B.named
  have hlocks := B.notSynchronized
  subst hsz
  obtain ⟨A, hAe⟩ : ∃ A, A = gA E KK s.heap.size := ⟨_, rfl⟩
  rw [← hAe] at hD hX ⊢
  have hV : gV E KK A s0 s s.heap [] := ⟨hP, hD, va_S.rf⟩
  have hl := lv_entry ([.ref (ea E 1 i)] : List Value) (n := 1) (Nat.le_of_ble_eq_true rfl)
  rw [lg_entry_eq]
  generalize (lg_sl ([.ref (ea E 1 i)] : List Value) ++ List.replicate (1 - (lg_sl ([.ref (ea E 1 i)] : List Value)).length) Slot.unset).toArray = ls at hl ⊢
  have hl : lv_has ls 1 [(0, .ref (ea E 1 i))] := hl
  unfold w_P_top at hw
  refine lv_aload_n hx hb d_P_top_0 rfl (lv_at hl 0 rfl) ?_
  refine kg_P_P_words hx hb hG hown hK hV hi d_P_top_1 ?_
  refine lv_aload_n hx hb d_P_top_4 rfl (lv_at hl 0 rfl) ?_
  refine kg_P_P_height hx hb hG hown hK hV hi d_P_top_5 ?_
  refine lv_iconst (v := 1) hx hb d_P_top_8 (by decide) ?_
  refine lv_isub hx hb d_P_top_9 ?_
  refine kl_3 hx hb hK hV hi hw.1 d_P_top_10 ?_
  have hw := hw.2
  exact kr_i hx hb hr hV hK hX hAe hw d_P_top_11
theorem d_P_pop_0 : decode b_P_pop 0 = .ok (.aload_n 0, 1) := by decide +kernel
theorem d_P_pop_1 : decode b_P_pop 1 = .ok (.dup, 1) := by decide +kernel
theorem d_P_pop_2 : decode b_P_pop 2 = .ok (.getfield 21, 3) := by decide +kernel
theorem d_P_pop_5 : decode b_P_pop 5 = .ok (.iconst 1, 1) := by decide +kernel
theorem d_P_pop_6 : decode b_P_pop 6 = .ok (.isub, 1) := by decide +kernel
theorem d_P_pop_7 : decode b_P_pop 7 = .ok (.putfield 21, 3) := by decide +kernel
theorem d_P_pop_10 : decode b_P_pop 10 = .ok (.aload_n 0, 1) := by decide +kernel
theorem d_P_pop_11 : decode b_P_pop 11 = .ok (.getfield 15, 3) := by decide +kernel
theorem d_P_pop_14 : decode b_P_pop 14 = .ok (.aload_n 0, 1) := by decide +kernel
theorem d_P_pop_15 : decode b_P_pop 15 = .ok (.getfield 21, 3) := by decide +kernel
theorem d_P_pop_18 : decode b_P_pop 18 = .ok (.iaload, 1) := by decide +kernel
theorem d_P_pop_19 : decode b_P_pop 19 = .ok (.ireturn, 1) := by decide +kernel
def w_P_pop (cp : Nat) (i : Nat) (s0 : KS) (Φ : Int32 → KS → Prop) : Prop := ∀ s1 : KS, s1 = w3 s0 1 i 4 ((s0 1 i 4) - (1 : Int32)) → vp_in (s1 1 i 4) 32 ∧ Φ (s1 3 i (s1 1 i 4).toNatClampNeg) s1
set_option maxHeartbeats 4000000 in
set_option maxRecDepth 100000 in
theorem c_P_pop (l : Launch) (E : gE) (s0 : KS) (i : Nat) (hi : i < 16) (Φ : Int32 → KS → Prop) (hw : w_P_pop (eN E) i s0 Φ) : gMi l y_P_pop v_P_pop m_P_pop E KK [.ref (ea E 1 i)] s0 Φ := by
  intro sz
  refine Met.ofW (cc := b_P_pop) (maxL := 1) (ret := (some .int)) (by decide) rfl ?_
  intro p e s m args below meth c s₁ B hml hv
  obtain ⟨rfl, hsz, hP, hK, hD, hX⟩ := hv
  have hx := B.exec
  have hb := B.bytes
  have hr := B.returns
  have hts := atoms_spec (ws := v_P_pop) B.pre
  have hG : ∀ w ∈ gG, w.before _ s = true := fun w h => hts w (List.mem_cons_of_mem _ h)
  have hown : s.vm.findClass R_P = some m.cls := findClass_of_methodNamed B.named
  have hlocks := B.notSynchronized
  subst hsz
  obtain ⟨A, hAe⟩ : ∃ A, A = gA E KK s.heap.size := ⟨_, rfl⟩
  rw [← hAe] at hD hX ⊢
  have hV : gV E KK A s0 s s.heap [] := ⟨hP, hD, va_S.rf⟩
  have hl := lv_entry ([.ref (ea E 1 i)] : List Value) (n := 1) (Nat.le_of_ble_eq_true rfl)
  rw [lg_entry_eq]
  generalize (lg_sl ([.ref (ea E 1 i)] : List Value) ++ List.replicate (1 - (lg_sl ([.ref (ea E 1 i)] : List Value)).length) Slot.unset).toArray = ls at hl ⊢
  have hl : lv_has ls 1 [(0, .ref (ea E 1 i))] := hl
  unfold w_P_pop at hw
  refine lv_aload_n hx hb d_P_pop_0 rfl (lv_at hl 0 rfl) ?_
  refine lv_dup hx hb d_P_pop_1 rfl ?_
  refine kg_P_P_height hx hb hG hown hK hV hi d_P_pop_2 ?_
  refine lv_iconst (v := 1) hx hb d_P_pop_5 (by decide) ?_
  refine lv_isub hx hb d_P_pop_6 ?_
  refine kp_P_P_height hx hb hG hown hK hV hi d_P_pop_7 (fun s1 H locs es1 hV => ?_)
  have hw := hw s1 es1
  refine lv_aload_n hx hb d_P_pop_10 rfl (lv_at hl 0 rfl) ?_
  refine kg_P_P_words hx hb hG hown hK hV hi d_P_pop_11 ?_
  refine lv_aload_n hx hb d_P_pop_14 rfl (lv_at hl 0 rfl) ?_
  refine kg_P_P_height hx hb hG hown hK hV hi d_P_pop_15 ?_
  refine kl_3 hx hb hK hV hi hw.1 d_P_pop_18 ?_
  have hw := hw.2
  exact kr_i hx hb hr hV hK hX hAe hw d_P_pop_19
theorem d_P_push_0 : decode b_P_push 0 = .ok (.aload_n 0, 1) := by decide +kernel
theorem d_P_push_1 : decode b_P_push 1 = .ok (.getfield 15, 3) := by decide +kernel
theorem d_P_push_4 : decode b_P_push 4 = .ok (.aload_n 0, 1) := by decide +kernel
theorem d_P_push_5 : decode b_P_push 5 = .ok (.getfield 21, 3) := by decide +kernel
theorem d_P_push_8 : decode b_P_push 8 = .ok (.iload_n 1, 1) := by decide +kernel
theorem d_P_push_9 : decode b_P_push 9 = .ok (.iastore, 1) := by decide +kernel
theorem d_P_push_10 : decode b_P_push 10 = .ok (.aload_n 0, 1) := by decide +kernel
theorem d_P_push_11 : decode b_P_push 11 = .ok (.dup, 1) := by decide +kernel
theorem d_P_push_12 : decode b_P_push 12 = .ok (.getfield 21, 3) := by decide +kernel
theorem d_P_push_15 : decode b_P_push 15 = .ok (.iconst 1, 1) := by decide +kernel
theorem d_P_push_16 : decode b_P_push 16 = .ok (.iadd, 1) := by decide +kernel
theorem d_P_push_17 : decode b_P_push 17 = .ok (.putfield 21, 3) := by decide +kernel
theorem d_P_push_20 : decode b_P_push 20 = .ok (.return_, 1) := by decide +kernel
def w_P_push (cp : Nat) (i : Nat) (x1 : Int32) (s0 : KS) (Φ : KS → Prop) : Prop := vp_in (s0 1 i 4) 32 ∧ ∀ s1 : KS, s1 = w3 s0 3 i (s0 1 i 4).toNatClampNeg x1 → ∀ s2 : KS, s2 = w3 s1 1 i 4 ((s1 1 i 4) + (1 : Int32)) → Φ s2
set_option maxHeartbeats 4000000 in
set_option maxRecDepth 100000 in
theorem c_P_push (l : Launch) (E : gE) (s0 : KS) (i : Nat) (hi : i < 16) (x1 : Int32) (Φ : KS → Prop) (hw : w_P_push (eN E) i x1 s0 Φ) : gMv l y_P_push v_P_push m_P_push E KK [.ref (ea E 1 i), .int x1] s0 Φ := by
  intro sz
  refine Met.ofW (cc := b_P_push) (maxL := 2) (ret := none) (by decide) rfl ?_
  intro p e s m args below meth c s₁ B hml hv
  obtain ⟨rfl, hsz, hP, hK, hD, hX⟩ := hv
  have hx := B.exec
  have hb := B.bytes
  have hr := B.returns
  have hts := atoms_spec (ws := v_P_push) B.pre
  have hG : ∀ w ∈ gG, w.before _ s = true := fun w h => hts w (List.mem_cons_of_mem _ h)
  have hown : s.vm.findClass R_P = some m.cls := findClass_of_methodNamed B.named
  have hlocks := B.notSynchronized
  subst hsz
  obtain ⟨A, hAe⟩ : ∃ A, A = gA E KK s.heap.size := ⟨_, rfl⟩
  rw [← hAe] at hD hX ⊢
  have hV : gV E KK A s0 s s.heap [] := ⟨hP, hD, va_S.rf⟩
  have hl := lv_entry ([.ref (ea E 1 i), .int x1] : List Value) (n := 2) (Nat.le_of_ble_eq_true rfl)
  rw [lg_entry_eq]
  generalize (lg_sl ([.ref (ea E 1 i), .int x1] : List Value) ++ List.replicate (2 - (lg_sl ([.ref (ea E 1 i), .int x1] : List Value)).length) Slot.unset).toArray = ls at hl ⊢
  have hl : lv_has ls 2 [(0, .ref (ea E 1 i)), (1, .int x1)] := hl
  unfold w_P_push at hw
  refine lv_aload_n hx hb d_P_push_0 rfl (lv_at hl 0 rfl) ?_
  refine kg_P_P_words hx hb hG hown hK hV hi d_P_push_1 ?_
  refine lv_aload_n hx hb d_P_push_4 rfl (lv_at hl 0 rfl) ?_
  refine kg_P_P_height hx hb hG hown hK hV hi d_P_push_5 ?_
  refine lv_iload_n hx hb d_P_push_8 rfl (lv_at hl 1 rfl) ?_
  refine ks_3 hx hb hK hV hi hw.1 d_P_push_9 (fun s1 H locs es1 hV => ?_)
  have hw := hw.2 s1 es1
  refine lv_aload_n hx hb d_P_push_10 rfl (lv_at hl 0 rfl) ?_
  refine lv_dup hx hb d_P_push_11 rfl ?_
  refine kg_P_P_height hx hb hG hown hK hV hi d_P_push_12 ?_
  refine lv_iconst (v := 1) hx hb d_P_push_15 (by decide) ?_
  refine lv_iadd hx hb d_P_push_16 ?_
  refine kp_P_P_height hx hb hG hown hK hV hi d_P_push_17 (fun s2 H locs es2 hV => ?_)
  have hw := hw s2 es2
  exact kr_v hx hb hr hV hK hX hAe hw d_P_push_20
theorem d_P_pushTwo_0 : decode b_P_pushTwo 0 = .ok (.aload_n 0, 1) := by decide +kernel
theorem d_P_pushTwo_1 : decode b_P_pushTwo 1 = .ok (.iload_n 1, 1) := by decide +kernel
theorem d_P_pushTwo_2 : decode b_P_pushTwo 2 = .ok (.invokevirtual 65, 3) := by decide +kernel
theorem d_P_pushTwo_5 : decode b_P_pushTwo 5 = .ok (.aload_n 0, 1) := by decide +kernel
theorem d_P_pushTwo_6 : decode b_P_pushTwo 6 = .ok (.iload_n 2, 1) := by decide +kernel
theorem d_P_pushTwo_7 : decode b_P_pushTwo 7 = .ok (.invokevirtual 65, 3) := by decide +kernel
theorem d_P_pushTwo_10 : decode b_P_pushTwo 10 = .ok (.return_, 1) := by decide +kernel
def w_P_pushTwo (cp : Nat) (i : Nat) (x1 : Int32) (x2 : Int32) (s0 : KS) (Φ : KS → Prop) : Prop := w_P_push cp i x1 s0 (fun s1 => w_P_push cp i x2 s1 (fun s2 => Φ s2))
set_option maxHeartbeats 4000000 in
set_option maxRecDepth 100000 in
theorem c_P_pushTwo (l : Launch) (E : gE) (s0 : KS) (i : Nat) (hi : i < 16) (x1 : Int32) (x2 : Int32) (Φ : KS → Prop) (hw : w_P_pushTwo (eN E) i x1 x2 s0 Φ) : gMv l y_P_pushTwo v_P_pushTwo m_P_pushTwo E KK [.ref (ea E 1 i), .int x1, .int x2] s0 Φ := by
  intro sz
  refine Met.ofW (cc := b_P_pushTwo) (maxL := 3) (ret := none) (by decide) rfl ?_
  intro p e s m args below meth c s₁ B hml hv
  obtain ⟨rfl, hsz, hP, hK, hD, hX⟩ := hv
  have hx := B.exec
  have hb := B.bytes
  have hr := B.returns
  have hts := atoms_spec (ws := v_P_pushTwo) B.pre
  have hG : ∀ w ∈ gG, w.before _ s = true := fun w h => hts w (List.mem_cons_of_mem _ h)
  have hown : s.vm.findClass R_P = some m.cls := findClass_of_methodNamed B.named
  have hlocks := B.notSynchronized
  subst hsz
  obtain ⟨A, hAe⟩ : ∃ A, A = gA E KK s.heap.size := ⟨_, rfl⟩
  rw [← hAe] at hD hX ⊢
  have hV : gV E KK A s0 s s.heap [] := ⟨hP, hD, va_S.rf⟩
  have hl := lv_entry ([.ref (ea E 1 i), .int x1, .int x2] : List Value) (n := 3) (Nat.le_of_ble_eq_true rfl)
  rw [lg_entry_eq]
  generalize (lg_sl ([.ref (ea E 1 i), .int x1, .int x2] : List Value) ++ List.replicate (3 - (lg_sl ([.ref (ea E 1 i), .int x1, .int x2] : List Value)).length) Slot.unset).toArray = ls at hl ⊢
  have hl : lv_has ls 3 [(0, .ref (ea E 1 i)), (1, .int x1), (2, .int x2)] := hl
  unfold w_P_pushTwo at hw
  refine lv_aload_n hx hb d_P_pushTwo_0 rfl (lv_at hl 0 rfl) ?_
  refine lv_iload_n hx hb d_P_pushTwo_1 rfl (lv_at hl 1 rfl) ?_
  refine kc_P_P_push hx hb hml hown hts hV hK hX hAe (c_P_push l E s0 i hi x1 _ hw) hi hl.1 (Nat.le_of_ble_eq_true rfl) d_P_pushTwo_2 (Nat.le_of_ble_eq_true rfl) (Nat.le_of_ble_eq_true rfl) (fun s1 H locs hw hV => ?_)
  refine lv_aload_n hx hb d_P_pushTwo_5 rfl (lv_at hl 0 rfl) ?_
  refine lv_iload_n hx hb d_P_pushTwo_6 rfl (lv_at hl 2 rfl) ?_
  refine kc_P_P_push hx hb hml hown hts hV hK hX hAe (c_P_push l E s1 i hi x2 _ hw) hi hl.1 (Nat.le_of_ble_eq_true rfl) d_P_pushTwo_7 (Nat.le_of_ble_eq_true rfl) (Nat.le_of_ble_eq_true rfl) (fun s2 H locs hw hV => ?_)
  exact kr_v hx hb hr hV hK hX hAe hw d_P_pushTwo_10
theorem d_P_kind_0 : decode b_P_kind 0 = .ok (.aload_n 0, 1) := by decide +kernel
theorem d_P_kind_1 : decode b_P_kind 1 = .ok (.getfield 9, 3) := by decide +kernel
theorem d_P_kind_4 : decode b_P_kind 4 = .ok (.aload_n 0, 1) := by decide +kernel
theorem d_P_kind_5 : decode b_P_kind 5 = .ok (.getfield 25, 3) := by decide +kernel
theorem d_P_kind_8 : decode b_P_kind 8 = .ok (.iaload, 1) := by decide +kernel
theorem d_P_kind_9 : decode b_P_kind 9 = .ok (.sipush 255, 3) := by decide +kernel
theorem d_P_kind_12 : decode b_P_kind 12 = .ok (.iand, 1) := by decide +kernel
theorem d_P_kind_13 : decode b_P_kind 13 = .ok (.ireturn, 1) := by decide +kernel
def w_P_kind (cp : Nat) (i : Nat) (s0 : KS) (Φ : Int32 → KS → Prop) : Prop := vp_in (s0 1 i 5) 128 ∧ Φ ((s0 2 i (s0 1 i 5).toNatClampNeg) &&& (255 : Int32)) s0
set_option maxHeartbeats 4000000 in
set_option maxRecDepth 100000 in
theorem c_P_kind (l : Launch) (E : gE) (s0 : KS) (i : Nat) (hi : i < 16) (Φ : Int32 → KS → Prop) (hw : w_P_kind (eN E) i s0 Φ) : gMi l y_P_kind v_P_kind m_P_kind E KK [.ref (ea E 1 i)] s0 Φ := by
  intro sz
  refine Met.ofW (cc := b_P_kind) (maxL := 1) (ret := (some .int)) (by decide) rfl ?_
  intro p e s m args below meth c s₁ B hml hv
  obtain ⟨rfl, hsz, hP, hK, hD, hX⟩ := hv
  have hx := B.exec
  have hb := B.bytes
  have hr := B.returns
  have hts := atoms_spec (ws := v_P_kind) B.pre
  have hG : ∀ w ∈ gG, w.before _ s = true := fun w h => hts w (List.mem_cons_of_mem _ h)
  have hown : s.vm.findClass R_P = some m.cls := findClass_of_methodNamed B.named
  have hlocks := B.notSynchronized
  subst hsz
  obtain ⟨A, hAe⟩ : ∃ A, A = gA E KK s.heap.size := ⟨_, rfl⟩
  rw [← hAe] at hD hX ⊢
  have hV : gV E KK A s0 s s.heap [] := ⟨hP, hD, va_S.rf⟩
  have hl := lv_entry ([.ref (ea E 1 i)] : List Value) (n := 1) (Nat.le_of_ble_eq_true rfl)
  rw [lg_entry_eq]
  generalize (lg_sl ([.ref (ea E 1 i)] : List Value) ++ List.replicate (1 - (lg_sl ([.ref (ea E 1 i)] : List Value)).length) Slot.unset).toArray = ls at hl ⊢
  have hl : lv_has ls 1 [(0, .ref (ea E 1 i))] := hl
  unfold w_P_kind at hw
  refine lv_aload_n hx hb d_P_kind_0 rfl (lv_at hl 0 rfl) ?_
  refine kg_P_P_memory hx hb hG hown hK hV hi d_P_kind_1 ?_
  refine lv_aload_n hx hb d_P_kind_4 rfl (lv_at hl 0 rfl) ?_
  refine kg_P_P_place hx hb hG hown hK hV hi d_P_kind_5 ?_
  refine kl_2 hx hb hK hV hi hw.1 d_P_kind_8 ?_
  have hw := hw.2
  refine lv_sipush (v := 255) hx hb d_P_kind_9 (by decide) ?_
  refine lv_iand hx hb d_P_kind_12 ?_
  exact kr_i hx hb hr hV hK hX hAe hw d_P_kind_13
theorem d_P_operand_0 : decode b_P_operand 0 = .ok (.aload_n 0, 1) := by decide +kernel
theorem d_P_operand_1 : decode b_P_operand 1 = .ok (.getfield 9, 3) := by decide +kernel
theorem d_P_operand_4 : decode b_P_operand 4 = .ok (.aload_n 0, 1) := by decide +kernel
theorem d_P_operand_5 : decode b_P_operand 5 = .ok (.getfield 25, 3) := by decide +kernel
theorem d_P_operand_8 : decode b_P_operand 8 = .ok (.iaload, 1) := by decide +kernel
theorem d_P_operand_9 : decode b_P_operand 9 = .ok (.bipush 8, 2) := by decide +kernel
theorem d_P_operand_11 : decode b_P_operand 11 = .ok (.ishr, 1) := by decide +kernel
theorem d_P_operand_12 : decode b_P_operand 12 = .ok (.ireturn, 1) := by decide +kernel
def w_P_operand (cp : Nat) (i : Nat) (s0 : KS) (Φ : Int32 → KS → Prop) : Prop := vp_in (s0 1 i 5) 128 ∧ Φ ((s0 2 i (s0 1 i 5).toNatClampNeg) >>> ((8 : Int32) &&& 31)) s0
set_option maxHeartbeats 4000000 in
set_option maxRecDepth 100000 in
theorem c_P_operand (l : Launch) (E : gE) (s0 : KS) (i : Nat) (hi : i < 16) (Φ : Int32 → KS → Prop) (hw : w_P_operand (eN E) i s0 Φ) : gMi l y_P_operand v_P_operand m_P_operand E KK [.ref (ea E 1 i)] s0 Φ := by
  intro sz
  refine Met.ofW (cc := b_P_operand) (maxL := 1) (ret := (some .int)) (by decide) rfl ?_
  intro p e s m args below meth c s₁ B hml hv
  obtain ⟨rfl, hsz, hP, hK, hD, hX⟩ := hv
  have hx := B.exec
  have hb := B.bytes
  have hr := B.returns
  have hts := atoms_spec (ws := v_P_operand) B.pre
  have hG : ∀ w ∈ gG, w.before _ s = true := fun w h => hts w (List.mem_cons_of_mem _ h)
  have hown : s.vm.findClass R_P = some m.cls := findClass_of_methodNamed B.named
  have hlocks := B.notSynchronized
  subst hsz
  obtain ⟨A, hAe⟩ : ∃ A, A = gA E KK s.heap.size := ⟨_, rfl⟩
  rw [← hAe] at hD hX ⊢
  have hV : gV E KK A s0 s s.heap [] := ⟨hP, hD, va_S.rf⟩
  have hl := lv_entry ([.ref (ea E 1 i)] : List Value) (n := 1) (Nat.le_of_ble_eq_true rfl)
  rw [lg_entry_eq]
  generalize (lg_sl ([.ref (ea E 1 i)] : List Value) ++ List.replicate (1 - (lg_sl ([.ref (ea E 1 i)] : List Value)).length) Slot.unset).toArray = ls at hl ⊢
  have hl : lv_has ls 1 [(0, .ref (ea E 1 i))] := hl
  unfold w_P_operand at hw
  refine lv_aload_n hx hb d_P_operand_0 rfl (lv_at hl 0 rfl) ?_
  refine kg_P_P_memory hx hb hG hown hK hV hi d_P_operand_1 ?_
  refine lv_aload_n hx hb d_P_operand_4 rfl (lv_at hl 0 rfl) ?_
  refine kg_P_P_place hx hb hG hown hK hV hi d_P_operand_5 ?_
  refine kl_2 hx hb hK hV hi hw.1 d_P_operand_8 ?_
  have hw := hw.2
  refine lv_bipush (v := 8) hx hb d_P_operand_9 (by decide) ?_
  refine lv_ishr hx hb d_P_operand_11 ?_
  exact kr_i hx hb hr hV hK hX hAe hw d_P_operand_12
theorem d_P_isInMemory_0 : decode b_P_isInMemory 0 = .ok (.iload_n 0, 1) := by decide +kernel
theorem d_P_isInMemory_1 : decode b_P_isInMemory 1 = .ok (.ifCond .lt 14, 3) := by decide +kernel
theorem d_P_isInMemory_4 : decode b_P_isInMemory 4 = .ok (.iload_n 0, 1) := by decide +kernel
theorem d_P_isInMemory_5 : decode b_P_isInMemory 5 = .ok (.sipush 128, 3) := by decide +kernel
theorem d_P_isInMemory_8 : decode b_P_isInMemory 8 = .ok (.if_icmp .ge 7, 3) := by decide +kernel
theorem d_P_isInMemory_11 : decode b_P_isInMemory 11 = .ok (.iconst 1, 1) := by decide +kernel
theorem d_P_isInMemory_12 : decode b_P_isInMemory 12 = .ok (.goto 4, 3) := by decide +kernel
theorem d_P_isInMemory_15 : decode b_P_isInMemory 15 = .ok (.iconst 0, 1) := by decide +kernel
theorem d_P_isInMemory_16 : decode b_P_isInMemory 16 = .ok (.ireturn, 1) := by decide +kernel
def w_P_isInMemory (cp : Nat) (x0 : Int32) (s0 : KS) (Φ : Int32 → KS → Prop) : Prop := ((x0 < 0 → Φ (0 : Int32) s0) ∧ (¬ x0 < 0 → (((128 : Int32) ≤ x0 → Φ (0 : Int32) s0) ∧ (¬ (128 : Int32) ≤ x0 → Φ (1 : Int32) s0))))
set_option maxHeartbeats 4000000 in
set_option maxRecDepth 100000 in
theorem c_P_isInMemory (l : Launch) (E : gE) (s0 : KS) (x0 : Int32) (Φ : Int32 → KS → Prop) (hw : w_P_isInMemory (eN E) x0 s0 Φ) : gMi l y_P_isInMemory v_P_isInMemory m_P_isInMemory E KK [.int x0] s0 Φ := by
  intro sz
  refine Met.ofW (cc := b_P_isInMemory) (maxL := 1) (ret := (some .boolean)) (by decide) rfl ?_
  intro p e s m args below meth c s₁ B hml hv
  obtain ⟨rfl, hsz, hP, hK, hD, hX⟩ := hv
  have hx := B.exec
  have hb := B.bytes
  have hr := B.returns
  have hts := atoms_spec (ws := v_P_isInMemory) B.pre
  have hG : ∀ w ∈ gG, w.before _ s = true := fun w h => hts w (List.mem_cons_of_mem _ h)
  have hown : s.vm.findClass R_P = some m.cls := findClass_of_methodNamed B.named
  have hlocks := B.notSynchronized
  subst hsz
  obtain ⟨A, hAe⟩ : ∃ A, A = gA E KK s.heap.size := ⟨_, rfl⟩
  rw [← hAe] at hD hX ⊢
  have hV : gV E KK A s0 s s.heap [] := ⟨hP, hD, va_S.rf⟩
  have hl := lv_entry ([.int x0] : List Value) (n := 1) (Nat.le_of_ble_eq_true rfl)
  rw [lg_entry_eq]
  generalize (lg_sl ([.int x0] : List Value) ++ List.replicate (1 - (lg_sl ([.int x0] : List Value)).length) Slot.unset).toArray = ls at hl ⊢
  have hl : lv_has ls 1 [(0, .int x0)] := hl
  unfold w_P_isInMemory at hw
  refine lv_iload_n hx hb d_P_isInMemory_0 rfl (lv_at hl 0 rfl) ?_
  refine lv_if_lt (tgt := 15) hx hb d_P_isInMemory_1 rfl (fun hc => ?_) (fun hc => ?_)
  · have hw := hw.1 hc
    refine lv_iconst (v := 0) hx hb d_P_isInMemory_15 (by decide) ?_
    exact kr_z hx hb hr hV hK hX hAe (by decide) hw d_P_isInMemory_16
  · have hw := hw.2 hc
    refine lv_iload_n hx hb d_P_isInMemory_4 rfl (lv_at hl 0 rfl) ?_
    refine lv_sipush (v := 128) hx hb d_P_isInMemory_5 (by decide) ?_
    refine lv_icmp_ge (tgt := 15) hx hb d_P_isInMemory_8 rfl (fun hc => ?_) (fun hc => ?_)
    · have hw := hw.1 hc
      refine lv_iconst (v := 0) hx hb d_P_isInMemory_15 (by decide) ?_
      exact kr_z hx hb hr hV hK hX hAe (by decide) hw d_P_isInMemory_16
    · have hw := hw.2 hc
      refine lv_iconst (v := 1) hx hb d_P_isInMemory_11 (by decide) ?_
      refine lv_goto (tgt := 16) hx hb d_P_isInMemory_12 rfl ?_
      exact kr_z hx hb hr hV hK hX hAe (by decide) hw d_P_isInMemory_16
theorem d_P_findFault_0 : decode b_P_findFault 0 = .ok (.aload_n 0, 1) := by decide +kernel
theorem d_P_findFault_1 : decode b_P_findFault 1 = .ok (.getfield 25, 3) := by decide +kernel
theorem d_P_findFault_4 : decode b_P_findFault 4 = .ok (.invokestatic 69, 3) := by decide +kernel
theorem d_P_findFault_7 : decode b_P_findFault 7 = .ok (.ifCond .ne 5, 3) := by decide +kernel
theorem d_P_findFault_10 : decode b_P_findFault 10 = .ok (.iconst 4, 1) := by decide +kernel
theorem d_P_findFault_11 : decode b_P_findFault 11 = .ok (.ireturn, 1) := by decide +kernel
theorem d_P_findFault_12 : decode b_P_findFault 12 = .ok (.aload_n 0, 1) := by decide +kernel
theorem d_P_findFault_13 : decode b_P_findFault 13 = .ok (.invokevirtual 73, 3) := by decide +kernel
theorem d_P_findFault_16 : decode b_P_findFault 16 = .ok (.istore_n 1, 1) := by decide +kernel
theorem d_P_findFault_17 : decode b_P_findFault 17 = .ok (.iload_n 1, 1) := by decide +kernel
theorem d_P_findFault_18 : decode b_P_findFault 18 = .ok (.getstatic 76, 3) := by decide +kernel
theorem d_P_findFault_21 : decode b_P_findFault 21 = .ok (.arraylength, 1) := by decide +kernel
theorem d_P_findFault_22 : decode b_P_findFault 22 = .ok (.if_icmp .ge 12, 3) := by decide +kernel
theorem d_P_findFault_25 : decode b_P_findFault 25 = .ok (.getstatic 76, 3) := by decide +kernel
theorem d_P_findFault_28 : decode b_P_findFault 28 = .ok (.iload_n 1, 1) := by decide +kernel
theorem d_P_findFault_29 : decode b_P_findFault 29 = .ok (.iaload, 1) := by decide +kernel
theorem d_P_findFault_30 : decode b_P_findFault 30 = .ok (.iconst (-1), 1) := by decide +kernel
theorem d_P_findFault_31 : decode b_P_findFault 31 = .ok (.if_icmp .ne 5, 3) := by decide +kernel
theorem d_P_findFault_34 : decode b_P_findFault 34 = .ok (.iconst 5, 1) := by decide +kernel
theorem d_P_findFault_35 : decode b_P_findFault 35 = .ok (.ireturn, 1) := by decide +kernel
theorem d_P_findFault_36 : decode b_P_findFault 36 = .ok (.aload_n 0, 1) := by decide +kernel
theorem d_P_findFault_37 : decode b_P_findFault 37 = .ok (.getfield 21, 3) := by decide +kernel
theorem d_P_findFault_40 : decode b_P_findFault 40 = .ok (.getstatic 76, 3) := by decide +kernel
theorem d_P_findFault_43 : decode b_P_findFault 43 = .ok (.iload_n 1, 1) := by decide +kernel
theorem d_P_findFault_44 : decode b_P_findFault 44 = .ok (.iaload, 1) := by decide +kernel
theorem d_P_findFault_45 : decode b_P_findFault 45 = .ok (.if_icmp .ge 5, 3) := by decide +kernel
theorem d_P_findFault_48 : decode b_P_findFault 48 = .ok (.iconst 1, 1) := by decide +kernel
theorem d_P_findFault_49 : decode b_P_findFault 49 = .ok (.ireturn, 1) := by decide +kernel
theorem d_P_findFault_50 : decode b_P_findFault 50 = .ok (.iload_n 1, 1) := by decide +kernel
theorem d_P_findFault_51 : decode b_P_findFault 51 = .ok (.tableswitch 115 8 21 #[69, 69, 115, 115, 115, 115, 115, 115, 115, 115, 83, 83, 99, 99], 69) := by decide +kernel
theorem d_P_findFault_120 : decode b_P_findFault 120 = .ok (.aload_n 0, 1) := by decide +kernel
theorem d_P_findFault_121 : decode b_P_findFault 121 = .ok (.invokevirtual 79, 3) := by decide +kernel
theorem d_P_findFault_124 : decode b_P_findFault 124 = .ok (.ifCond .ne 8, 3) := by decide +kernel
theorem d_P_findFault_127 : decode b_P_findFault 127 = .ok (.bipush 6, 2) := by decide +kernel
theorem d_P_findFault_129 : decode b_P_findFault 129 = .ok (.goto 4, 3) := by decide +kernel
theorem d_P_findFault_132 : decode b_P_findFault 132 = .ok (.iconst 0, 1) := by decide +kernel
theorem d_P_findFault_133 : decode b_P_findFault 133 = .ok (.ireturn, 1) := by decide +kernel
theorem d_P_findFault_134 : decode b_P_findFault 134 = .ok (.aload_n 0, 1) := by decide +kernel
theorem d_P_findFault_135 : decode b_P_findFault 135 = .ok (.invokevirtual 82, 3) := by decide +kernel
theorem d_P_findFault_138 : decode b_P_findFault 138 = .ok (.invokestatic 69, 3) := by decide +kernel
theorem d_P_findFault_141 : decode b_P_findFault 141 = .ok (.ifCond .eq 7, 3) := by decide +kernel
theorem d_P_findFault_144 : decode b_P_findFault 144 = .ok (.iconst 0, 1) := by decide +kernel
theorem d_P_findFault_145 : decode b_P_findFault 145 = .ok (.goto 4, 3) := by decide +kernel
theorem d_P_findFault_148 : decode b_P_findFault 148 = .ok (.iconst 3, 1) := by decide +kernel
theorem d_P_findFault_149 : decode b_P_findFault 149 = .ok (.ireturn, 1) := by decide +kernel
theorem d_P_findFault_150 : decode b_P_findFault 150 = .ok (.aload_n 0, 1) := by decide +kernel
theorem d_P_findFault_151 : decode b_P_findFault 151 = .ok (.invokevirtual 79, 3) := by decide +kernel
theorem d_P_findFault_154 : decode b_P_findFault 154 = .ok (.invokestatic 69, 3) := by decide +kernel
theorem d_P_findFault_157 : decode b_P_findFault 157 = .ok (.ifCond .eq 7, 3) := by decide +kernel
theorem d_P_findFault_160 : decode b_P_findFault 160 = .ok (.iconst 0, 1) := by decide +kernel
theorem d_P_findFault_161 : decode b_P_findFault 161 = .ok (.goto 4, 3) := by decide +kernel
theorem d_P_findFault_164 : decode b_P_findFault 164 = .ok (.iconst 3, 1) := by decide +kernel
theorem d_P_findFault_165 : decode b_P_findFault 165 = .ok (.ireturn, 1) := by decide +kernel
theorem d_P_findFault_166 : decode b_P_findFault 166 = .ok (.iconst 0, 1) := by decide +kernel
theorem d_P_findFault_167 : decode b_P_findFault 167 = .ok (.ireturn, 1) := by decide +kernel
def w_P_findFault (cp : Nat) (i : Nat) (s0 : KS) (Φ : Int32 → KS → Prop) : Prop := w_P_isInMemory cp (s0 1 i 5) s0 (fun r2 s1 => ((¬ r2 = 0 → w_P_kind cp i s1 (fun r4 s3 => (((42 : Int32) ≤ r4 → Φ (5 : Int32) s3) ∧ (¬ (42 : Int32) ≤ r4 → vp_in r4 42 ∧ ((¬ (tL r4.toNatClampNeg) = (-1 : Int32) → vp_in r4 42 ∧ (((tL r4.toNatClampNeg) ≤ (s3 1 i 4) → ((r4 = 8 → w_P_top cp i s3 (fun r6 s5 => ((¬ r6 = 0 → Φ (0 : Int32) s5) ∧ (r6 = 0 → Φ (6 : Int32) s5)))) ∧ ((r4 = 9 → w_P_top cp i s3 (fun r8 s7 => ((¬ r8 = 0 → Φ (0 : Int32) s7) ∧ (r8 = 0 → Φ (6 : Int32) s7)))) ∧ ((r4 = 18 → w_P_operand cp i s3 (fun r10 s9 => w_P_isInMemory cp r10 s9 (fun r12 s11 => ((r12 = 0 → Φ (3 : Int32) s11) ∧ (¬ r12 = 0 → Φ (0 : Int32) s11))))) ∧ ((r4 = 19 → w_P_operand cp i s3 (fun r14 s13 => w_P_isInMemory cp r14 s13 (fun r16 s15 => ((r16 = 0 → Φ (3 : Int32) s15) ∧ (¬ r16 = 0 → Φ (0 : Int32) s15))))) ∧ ((r4 = 20 → w_P_top cp i s3 (fun r18 s17 => w_P_isInMemory cp r18 s17 (fun r20 s19 => ((r20 = 0 → Φ (3 : Int32) s19) ∧ (¬ r20 = 0 → Φ (0 : Int32) s19))))) ∧ ((r4 = 21 → w_P_top cp i s3 (fun r22 s21 => w_P_isInMemory cp r22 s21 (fun r24 s23 => ((r24 = 0 → Φ (3 : Int32) s23) ∧ (¬ r24 = 0 → Φ (0 : Int32) s23))))) ∧ (¬ r4 = 8 ∧ ¬ r4 = 9 ∧ ¬ r4 = 18 ∧ ¬ r4 = 19 ∧ ¬ r4 = 20 ∧ ¬ r4 = 21 → Φ (0 : Int32) s3)))))))) ∧ (¬ (tL r4.toNatClampNeg) ≤ (s3 1 i 4) → Φ (1 : Int32) s3))) ∧ ((tL r4.toNatClampNeg) = (-1 : Int32) → Φ (5 : Int32) s3)))))) ∧ (r2 = 0 → Φ (4 : Int32) s1)))
set_option maxHeartbeats 4000000 in
set_option maxRecDepth 100000 in
theorem c_P_findFault (l : Launch) (E : gE) (s0 : KS) (i : Nat) (hi : i < 16) (Φ : Int32 → KS → Prop) (hw : w_P_findFault (eN E) i s0 Φ) : gMi l y_P_findFault v_P_findFault m_P_findFault E KK [.ref (ea E 1 i)] s0 Φ := by
  intro sz
  refine Met.ofW (cc := b_P_findFault) (maxL := 2) (ret := (some .int)) (by decide) rfl ?_
  intro p e s m args below meth c s₁ B hml hv
  obtain ⟨rfl, hsz, hP, hK, hD, hX⟩ := hv
  have hx := B.exec
  have hb := B.bytes
  have hr := B.returns
  have hts := atoms_spec (ws := v_P_findFault) B.pre
  have hG : ∀ w ∈ gG, w.before _ s = true := fun w h => hts w (List.mem_cons_of_mem _ h)
  have hown : s.vm.findClass R_P = some m.cls := findClass_of_methodNamed B.named
  have hlocks := B.notSynchronized
  subst hsz
  obtain ⟨A, hAe⟩ : ∃ A, A = gA E KK s.heap.size := ⟨_, rfl⟩
  rw [← hAe] at hD hX ⊢
  have hV : gV E KK A s0 s s.heap [] := ⟨hP, hD, va_S.rf⟩
  have hl := lv_entry ([.ref (ea E 1 i)] : List Value) (n := 2) (Nat.le_of_ble_eq_true rfl)
  rw [lg_entry_eq]
  generalize (lg_sl ([.ref (ea E 1 i)] : List Value) ++ List.replicate (2 - (lg_sl ([.ref (ea E 1 i)] : List Value)).length) Slot.unset).toArray = ls at hl ⊢
  have hl : lv_has ls 2 [(0, .ref (ea E 1 i))] := hl
  unfold w_P_findFault at hw
  refine lv_aload_n hx hb d_P_findFault_0 rfl (lv_at hl 0 rfl) ?_
  refine kg_P_P_place hx hb hG hown hK hV hi d_P_findFault_1 ?_
  refine kc_P_P_isInMemory hx hb hml hown hts hV hK hX hAe (c_P_isInMemory l E s0 (s0 1 i 5) _ hw) hl.1 (Nat.le_of_ble_eq_true rfl) d_P_findFault_4 (Nat.le_of_ble_eq_true rfl) (Nat.le_of_ble_eq_true rfl) (fun r2 s1 H locs hw hV => ?_)
  refine lv_if_ne (tgt := 12) hx hb d_P_findFault_7 rfl (fun hc => ?_) (fun hc => ?_)
  · have hw := hw.1 hc
    refine lv_aload_n hx hb d_P_findFault_12 rfl (lv_at hl 0 rfl) ?_
    refine kc_P_P_kind hx hb hml hown hts hV hK hX hAe (c_P_kind l E s1 i hi _ hw) hi hl.1 (Nat.le_of_ble_eq_true rfl) d_P_findFault_13 (Nat.le_of_ble_eq_true rfl) (Nat.le_of_ble_eq_true rfl) (fun r4 s3 H locs hw hV => ?_)
    refine lv_istore_n (lv' := [(1, .int r4), (0, .ref (ea E 1 i))]) hx hb d_P_findFault_16 rfl hl (by decide) rfl (fun ls hl => ?_)
    refine lv_iload_n hx hb d_P_findFault_17 rfl (lv_at hl 0 rfl) ?_
    refine kt_LOOKS_AT hx hb hX hV hown d_P_findFault_18 ?_
    refine ktn_LOOKS_AT hx hb hX hV d_P_findFault_21 ?_
    refine lv_icmp_ge (tgt := 34) hx hb d_P_findFault_22 rfl (fun hc => ?_) (fun hc => ?_)
    · have hw := hw.1 hc
      refine lv_iconst (v := 5) hx hb d_P_findFault_34 (by decide) ?_
      exact kr_i hx hb hr hV hK hX hAe hw d_P_findFault_35
    · have hw := hw.2 hc
      refine kt_LOOKS_AT hx hb hX hV hown d_P_findFault_25 ?_
      refine lv_iload_n hx hb d_P_findFault_28 rfl (lv_at hl 0 rfl) ?_
      refine ktl_LOOKS_AT hx hb hX hV hw.1 d_P_findFault_29 ?_
      have hw := hw.2
      refine lv_iconst (v := -1) hx hb d_P_findFault_30 (by decide) ?_
      refine lv_icmp_ne (tgt := 36) hx hb d_P_findFault_31 rfl (fun hc => ?_) (fun hc => ?_)
      · have hw := hw.1 hc
        refine lv_aload_n hx hb d_P_findFault_36 rfl (lv_at hl 1 rfl) ?_
        refine kg_P_P_height hx hb hG hown hK hV hi d_P_findFault_37 ?_
        refine kt_LOOKS_AT hx hb hX hV hown d_P_findFault_40 ?_
        refine lv_iload_n hx hb d_P_findFault_43 rfl (lv_at hl 0 rfl) ?_
        refine ktl_LOOKS_AT hx hb hX hV hw.1 d_P_findFault_44 ?_
        have hw := hw.2
        refine lv_icmp_ge (tgt := 50) hx hb d_P_findFault_45 rfl (fun hc => ?_) (fun hc => ?_)
        · have hw := hw.1 hc
          refine lv_iload_n hx hb d_P_findFault_50 rfl (lv_at hl 0 rfl) ?_
          have hsw := hw
          by_cases hc8 : r4 = 8
          · have hw := hsw.1 hc8
            refine lv_tableIn (off := 69) (tgt := 120) hx hb d_P_findFault_51 (by rw [hc8]; decide) (by rw [hc8]; decide) (by rw [hc8]; decide) rfl ?_
            refine lv_aload_n hx hb d_P_findFault_120 rfl (lv_at hl 1 rfl) ?_
            refine kc_P_P_top hx hb hml hown hts hV hK hX hAe (c_P_top l E s3 i hi _ hw) hi hl.1 (Nat.le_of_ble_eq_true rfl) d_P_findFault_121 (Nat.le_of_ble_eq_true rfl) (Nat.le_of_ble_eq_true rfl) (fun r6 s5 H locs hw hV => ?_)
            refine lv_if_ne (tgt := 132) hx hb d_P_findFault_124 rfl (fun hc => ?_) (fun hc => ?_)
            · have hw := hw.1 hc
              refine lv_iconst (v := 0) hx hb d_P_findFault_132 (by decide) ?_
              exact kr_i hx hb hr hV hK hX hAe hw d_P_findFault_133
            · have hw := hw.2 hc
              refine lv_bipush (v := 6) hx hb d_P_findFault_127 (by decide) ?_
              refine lv_goto (tgt := 133) hx hb d_P_findFault_129 rfl ?_
              exact kr_i hx hb hr hV hK hX hAe hw d_P_findFault_133
          have hsw := hsw.2
          by_cases hc9 : r4 = 9
          · have hw := hsw.1 hc9
            refine lv_tableIn (off := 69) (tgt := 120) hx hb d_P_findFault_51 (by rw [hc9]; decide) (by rw [hc9]; decide) (by rw [hc9]; decide) rfl ?_
            refine lv_aload_n hx hb d_P_findFault_120 rfl (lv_at hl 1 rfl) ?_
            refine kc_P_P_top hx hb hml hown hts hV hK hX hAe (c_P_top l E s3 i hi _ hw) hi hl.1 (Nat.le_of_ble_eq_true rfl) d_P_findFault_121 (Nat.le_of_ble_eq_true rfl) (Nat.le_of_ble_eq_true rfl) (fun r8 s7 H locs hw hV => ?_)
            refine lv_if_ne (tgt := 132) hx hb d_P_findFault_124 rfl (fun hc => ?_) (fun hc => ?_)
            · have hw := hw.1 hc
              refine lv_iconst (v := 0) hx hb d_P_findFault_132 (by decide) ?_
              exact kr_i hx hb hr hV hK hX hAe hw d_P_findFault_133
            · have hw := hw.2 hc
              refine lv_bipush (v := 6) hx hb d_P_findFault_127 (by decide) ?_
              refine lv_goto (tgt := 133) hx hb d_P_findFault_129 rfl ?_
              exact kr_i hx hb hr hV hK hX hAe hw d_P_findFault_133
          have hsw := hsw.2
          by_cases hc18 : r4 = 18
          · have hw := hsw.1 hc18
            refine lv_tableIn (off := 83) (tgt := 134) hx hb d_P_findFault_51 (by rw [hc18]; decide) (by rw [hc18]; decide) (by rw [hc18]; decide) rfl ?_
            refine lv_aload_n hx hb d_P_findFault_134 rfl (lv_at hl 1 rfl) ?_
            refine kc_P_P_operand hx hb hml hown hts hV hK hX hAe (c_P_operand l E s3 i hi _ hw) hi hl.1 (Nat.le_of_ble_eq_true rfl) d_P_findFault_135 (Nat.le_of_ble_eq_true rfl) (Nat.le_of_ble_eq_true rfl) (fun r10 s9 H locs hw hV => ?_)
            refine kc_P_P_isInMemory hx hb hml hown hts hV hK hX hAe (c_P_isInMemory l E s9 r10 _ hw) hl.1 (Nat.le_of_ble_eq_true rfl) d_P_findFault_138 (Nat.le_of_ble_eq_true rfl) (Nat.le_of_ble_eq_true rfl) (fun r12 s11 H locs hw hV => ?_)
            refine lv_if_eq (tgt := 148) hx hb d_P_findFault_141 rfl (fun hc => ?_) (fun hc => ?_)
            · have hw := hw.1 hc
              refine lv_iconst (v := 3) hx hb d_P_findFault_148 (by decide) ?_
              exact kr_i hx hb hr hV hK hX hAe hw d_P_findFault_149
            · have hw := hw.2 hc
              refine lv_iconst (v := 0) hx hb d_P_findFault_144 (by decide) ?_
              refine lv_goto (tgt := 149) hx hb d_P_findFault_145 rfl ?_
              exact kr_i hx hb hr hV hK hX hAe hw d_P_findFault_149
          have hsw := hsw.2
          by_cases hc19 : r4 = 19
          · have hw := hsw.1 hc19
            refine lv_tableIn (off := 83) (tgt := 134) hx hb d_P_findFault_51 (by rw [hc19]; decide) (by rw [hc19]; decide) (by rw [hc19]; decide) rfl ?_
            refine lv_aload_n hx hb d_P_findFault_134 rfl (lv_at hl 1 rfl) ?_
            refine kc_P_P_operand hx hb hml hown hts hV hK hX hAe (c_P_operand l E s3 i hi _ hw) hi hl.1 (Nat.le_of_ble_eq_true rfl) d_P_findFault_135 (Nat.le_of_ble_eq_true rfl) (Nat.le_of_ble_eq_true rfl) (fun r14 s13 H locs hw hV => ?_)
            refine kc_P_P_isInMemory hx hb hml hown hts hV hK hX hAe (c_P_isInMemory l E s13 r14 _ hw) hl.1 (Nat.le_of_ble_eq_true rfl) d_P_findFault_138 (Nat.le_of_ble_eq_true rfl) (Nat.le_of_ble_eq_true rfl) (fun r16 s15 H locs hw hV => ?_)
            refine lv_if_eq (tgt := 148) hx hb d_P_findFault_141 rfl (fun hc => ?_) (fun hc => ?_)
            · have hw := hw.1 hc
              refine lv_iconst (v := 3) hx hb d_P_findFault_148 (by decide) ?_
              exact kr_i hx hb hr hV hK hX hAe hw d_P_findFault_149
            · have hw := hw.2 hc
              refine lv_iconst (v := 0) hx hb d_P_findFault_144 (by decide) ?_
              refine lv_goto (tgt := 149) hx hb d_P_findFault_145 rfl ?_
              exact kr_i hx hb hr hV hK hX hAe hw d_P_findFault_149
          have hsw := hsw.2
          by_cases hc20 : r4 = 20
          · have hw := hsw.1 hc20
            refine lv_tableIn (off := 99) (tgt := 150) hx hb d_P_findFault_51 (by rw [hc20]; decide) (by rw [hc20]; decide) (by rw [hc20]; decide) rfl ?_
            refine lv_aload_n hx hb d_P_findFault_150 rfl (lv_at hl 1 rfl) ?_
            refine kc_P_P_top hx hb hml hown hts hV hK hX hAe (c_P_top l E s3 i hi _ hw) hi hl.1 (Nat.le_of_ble_eq_true rfl) d_P_findFault_151 (Nat.le_of_ble_eq_true rfl) (Nat.le_of_ble_eq_true rfl) (fun r18 s17 H locs hw hV => ?_)
            refine kc_P_P_isInMemory hx hb hml hown hts hV hK hX hAe (c_P_isInMemory l E s17 r18 _ hw) hl.1 (Nat.le_of_ble_eq_true rfl) d_P_findFault_154 (Nat.le_of_ble_eq_true rfl) (Nat.le_of_ble_eq_true rfl) (fun r20 s19 H locs hw hV => ?_)
            refine lv_if_eq (tgt := 164) hx hb d_P_findFault_157 rfl (fun hc => ?_) (fun hc => ?_)
            · have hw := hw.1 hc
              refine lv_iconst (v := 3) hx hb d_P_findFault_164 (by decide) ?_
              exact kr_i hx hb hr hV hK hX hAe hw d_P_findFault_165
            · have hw := hw.2 hc
              refine lv_iconst (v := 0) hx hb d_P_findFault_160 (by decide) ?_
              refine lv_goto (tgt := 165) hx hb d_P_findFault_161 rfl ?_
              exact kr_i hx hb hr hV hK hX hAe hw d_P_findFault_165
          have hsw := hsw.2
          by_cases hc21 : r4 = 21
          · have hw := hsw.1 hc21
            refine lv_tableIn (off := 99) (tgt := 150) hx hb d_P_findFault_51 (by rw [hc21]; decide) (by rw [hc21]; decide) (by rw [hc21]; decide) rfl ?_
            refine lv_aload_n hx hb d_P_findFault_150 rfl (lv_at hl 1 rfl) ?_
            refine kc_P_P_top hx hb hml hown hts hV hK hX hAe (c_P_top l E s3 i hi _ hw) hi hl.1 (Nat.le_of_ble_eq_true rfl) d_P_findFault_151 (Nat.le_of_ble_eq_true rfl) (Nat.le_of_ble_eq_true rfl) (fun r22 s21 H locs hw hV => ?_)
            refine kc_P_P_isInMemory hx hb hml hown hts hV hK hX hAe (c_P_isInMemory l E s21 r22 _ hw) hl.1 (Nat.le_of_ble_eq_true rfl) d_P_findFault_154 (Nat.le_of_ble_eq_true rfl) (Nat.le_of_ble_eq_true rfl) (fun r24 s23 H locs hw hV => ?_)
            refine lv_if_eq (tgt := 164) hx hb d_P_findFault_157 rfl (fun hc => ?_) (fun hc => ?_)
            · have hw := hw.1 hc
              refine lv_iconst (v := 3) hx hb d_P_findFault_164 (by decide) ?_
              exact kr_i hx hb hr hV hK hX hAe hw d_P_findFault_165
            · have hw := hw.2 hc
              refine lv_iconst (v := 0) hx hb d_P_findFault_160 (by decide) ?_
              refine lv_goto (tgt := 165) hx hb d_P_findFault_161 rfl ?_
              exact kr_i hx hb hr hV hK hX hAe hw d_P_findFault_165
          have hsw := hsw.2
          have hw := hsw ⟨hc8, hc9, hc18, hc19, hc20, hc21⟩
          refine kr_dflt (g2 := F0 m 166 ls []) ?_ (fun kd => ?_)
          · refine lv_iconst (v := 0) hx hb d_P_findFault_166 (by decide) ?_
            exact kr_i hx hb hr hV hK hX hAe hw d_P_findFault_167
          by_cases hc10 : r4 = 10
          · exact lv_tableIn (off := 115) (tgt := 166) hx hb d_P_findFault_51 (by rw [hc10]; decide) (by rw [hc10]; decide) (by rw [hc10]; decide) rfl kd
          by_cases hc11 : r4 = 11
          · exact lv_tableIn (off := 115) (tgt := 166) hx hb d_P_findFault_51 (by rw [hc11]; decide) (by rw [hc11]; decide) (by rw [hc11]; decide) rfl kd
          by_cases hc12 : r4 = 12
          · exact lv_tableIn (off := 115) (tgt := 166) hx hb d_P_findFault_51 (by rw [hc12]; decide) (by rw [hc12]; decide) (by rw [hc12]; decide) rfl kd
          by_cases hc13 : r4 = 13
          · exact lv_tableIn (off := 115) (tgt := 166) hx hb d_P_findFault_51 (by rw [hc13]; decide) (by rw [hc13]; decide) (by rw [hc13]; decide) rfl kd
          by_cases hc14 : r4 = 14
          · exact lv_tableIn (off := 115) (tgt := 166) hx hb d_P_findFault_51 (by rw [hc14]; decide) (by rw [hc14]; decide) (by rw [hc14]; decide) rfl kd
          by_cases hc15 : r4 = 15
          · exact lv_tableIn (off := 115) (tgt := 166) hx hb d_P_findFault_51 (by rw [hc15]; decide) (by rw [hc15]; decide) (by rw [hc15]; decide) rfl kd
          by_cases hc16 : r4 = 16
          · exact lv_tableIn (off := 115) (tgt := 166) hx hb d_P_findFault_51 (by rw [hc16]; decide) (by rw [hc16]; decide) (by rw [hc16]; decide) rfl kd
          by_cases hc17 : r4 = 17
          · exact lv_tableIn (off := 115) (tgt := 166) hx hb d_P_findFault_51 (by rw [hc17]; decide) (by rw [hc17]; decide) (by rw [hc17]; decide) rfl kd
          have hn8 : ¬ r4.toInt = 8 := lv_neT hc8 (by decide)
          have hn9 : ¬ r4.toInt = 9 := lv_neT hc9 (by decide)
          have hn10 : ¬ r4.toInt = 10 := lv_neT hc10 (by decide)
          have hn11 : ¬ r4.toInt = 11 := lv_neT hc11 (by decide)
          have hn12 : ¬ r4.toInt = 12 := lv_neT hc12 (by decide)
          have hn13 : ¬ r4.toInt = 13 := lv_neT hc13 (by decide)
          have hn14 : ¬ r4.toInt = 14 := lv_neT hc14 (by decide)
          have hn15 : ¬ r4.toInt = 15 := lv_neT hc15 (by decide)
          have hn16 : ¬ r4.toInt = 16 := lv_neT hc16 (by decide)
          have hn17 : ¬ r4.toInt = 17 := lv_neT hc17 (by decide)
          have hn18 : ¬ r4.toInt = 18 := lv_neT hc18 (by decide)
          have hn19 : ¬ r4.toInt = 19 := lv_neT hc19 (by decide)
          have hn20 : ¬ r4.toInt = 20 := lv_neT hc20 (by decide)
          have hn21 : ¬ r4.toInt = 21 := lv_neT hc21 (by decide)
          exact lv_tableOut (tgt := 166) hx hb d_P_findFault_51 (by omega) rfl kd
        · have hw := hw.2 hc
          refine lv_iconst (v := 1) hx hb d_P_findFault_48 (by decide) ?_
          exact kr_i hx hb hr hV hK hX hAe hw d_P_findFault_49
      · have hw := hw.2 hc
        refine lv_iconst (v := 5) hx hb d_P_findFault_34 (by decide) ?_
        exact kr_i hx hb hr hV hK hX hAe hw d_P_findFault_35
  · have hw := hw.2 hc
    refine lv_iconst (v := 4) hx hb d_P_findFault_10 (by decide) ?_
    exact kr_i hx hb hr hV hK hX hAe hw d_P_findFault_11
theorem d_P_wouldOverflow_0 : decode b_P_wouldOverflow 0 = .ok (.aload_n 0, 1) := by decide +kernel
theorem d_P_wouldOverflow_1 : decode b_P_wouldOverflow 1 = .ok (.getfield 21, 3) := by decide +kernel
theorem d_P_wouldOverflow_4 : decode b_P_wouldOverflow 4 = .ok (.getstatic 85, 3) := by decide +kernel
theorem d_P_wouldOverflow_7 : decode b_P_wouldOverflow 7 = .ok (.aload_n 0, 1) := by decide +kernel
theorem d_P_wouldOverflow_8 : decode b_P_wouldOverflow 8 = .ok (.invokevirtual 73, 3) := by decide +kernel
theorem d_P_wouldOverflow_11 : decode b_P_wouldOverflow 11 = .ok (.iaload, 1) := by decide +kernel
theorem d_P_wouldOverflow_12 : decode b_P_wouldOverflow 12 = .ok (.iadd, 1) := by decide +kernel
theorem d_P_wouldOverflow_13 : decode b_P_wouldOverflow 13 = .ok (.bipush 32, 2) := by decide +kernel
theorem d_P_wouldOverflow_15 : decode b_P_wouldOverflow 15 = .ok (.if_icmp .le 7, 3) := by decide +kernel
theorem d_P_wouldOverflow_18 : decode b_P_wouldOverflow 18 = .ok (.iconst 1, 1) := by decide +kernel
theorem d_P_wouldOverflow_19 : decode b_P_wouldOverflow 19 = .ok (.goto 4, 3) := by decide +kernel
theorem d_P_wouldOverflow_22 : decode b_P_wouldOverflow 22 = .ok (.iconst 0, 1) := by decide +kernel
theorem d_P_wouldOverflow_23 : decode b_P_wouldOverflow 23 = .ok (.ireturn, 1) := by decide +kernel
def w_P_wouldOverflow (cp : Nat) (i : Nat) (s0 : KS) (Φ : Int32 → KS → Prop) : Prop := w_P_kind cp i s0 (fun r2 s1 => vp_in r2 42 ∧ ((((s0 1 i 4) + (tG r2.toNatClampNeg)) ≤ (32 : Int32) → Φ (0 : Int32) s1) ∧ (¬ ((s0 1 i 4) + (tG r2.toNatClampNeg)) ≤ (32 : Int32) → Φ (1 : Int32) s1)))
set_option maxHeartbeats 4000000 in
set_option maxRecDepth 100000 in
theorem c_P_wouldOverflow (l : Launch) (E : gE) (s0 : KS) (i : Nat) (hi : i < 16) (Φ : Int32 → KS → Prop) (hw : w_P_wouldOverflow (eN E) i s0 Φ) : gMi l y_P_wouldOverflow v_P_wouldOverflow m_P_wouldOverflow E KK [.ref (ea E 1 i)] s0 Φ := by
  intro sz
  refine Met.ofW (cc := b_P_wouldOverflow) (maxL := 1) (ret := (some .boolean)) (by decide) rfl ?_
  intro p e s m args below meth c s₁ B hml hv
  obtain ⟨rfl, hsz, hP, hK, hD, hX⟩ := hv
  have hx := B.exec
  have hb := B.bytes
  have hr := B.returns
  have hts := atoms_spec (ws := v_P_wouldOverflow) B.pre
  have hG : ∀ w ∈ gG, w.before _ s = true := fun w h => hts w (List.mem_cons_of_mem _ h)
  have hown : s.vm.findClass R_P = some m.cls := findClass_of_methodNamed B.named
  have hlocks := B.notSynchronized
  subst hsz
  obtain ⟨A, hAe⟩ : ∃ A, A = gA E KK s.heap.size := ⟨_, rfl⟩
  rw [← hAe] at hD hX ⊢
  have hV : gV E KK A s0 s s.heap [] := ⟨hP, hD, va_S.rf⟩
  have hl := lv_entry ([.ref (ea E 1 i)] : List Value) (n := 1) (Nat.le_of_ble_eq_true rfl)
  rw [lg_entry_eq]
  generalize (lg_sl ([.ref (ea E 1 i)] : List Value) ++ List.replicate (1 - (lg_sl ([.ref (ea E 1 i)] : List Value)).length) Slot.unset).toArray = ls at hl ⊢
  have hl : lv_has ls 1 [(0, .ref (ea E 1 i))] := hl
  unfold w_P_wouldOverflow at hw
  refine lv_aload_n hx hb d_P_wouldOverflow_0 rfl (lv_at hl 0 rfl) ?_
  refine kg_P_P_height hx hb hG hown hK hV hi d_P_wouldOverflow_1 ?_
  refine kt_GROWS_BY hx hb hX hV hown d_P_wouldOverflow_4 ?_
  refine lv_aload_n hx hb d_P_wouldOverflow_7 rfl (lv_at hl 0 rfl) ?_
  refine kc_P_P_kind hx hb hml hown hts hV hK hX hAe (c_P_kind l E s0 i hi _ hw) hi hl.1 (Nat.le_of_ble_eq_true rfl) d_P_wouldOverflow_8 (Nat.le_of_ble_eq_true rfl) (Nat.le_of_ble_eq_true rfl) (fun r2 s1 H locs hw hV => ?_)
  refine ktl_GROWS_BY hx hb hX hV hw.1 d_P_wouldOverflow_11 ?_
  have hw := hw.2
  refine lv_iadd hx hb d_P_wouldOverflow_12 ?_
  refine lv_bipush (v := 32) hx hb d_P_wouldOverflow_13 (by decide) ?_
  refine lv_icmp_le (tgt := 22) hx hb d_P_wouldOverflow_15 rfl (fun hc => ?_) (fun hc => ?_)
  · have hw := hw.1 hc
    refine lv_iconst (v := 0) hx hb d_P_wouldOverflow_22 (by decide) ?_
    exact kr_z hx hb hr hV hK hX hAe (by decide) hw d_P_wouldOverflow_23
  · have hw := hw.2 hc
    refine lv_iconst (v := 1) hx hb d_P_wouldOverflow_18 (by decide) ?_
    refine lv_goto (tgt := 23) hx hb d_P_wouldOverflow_19 rfl ?_
    exact kr_z hx hb hr hV hK hX hAe (by decide) hw d_P_wouldOverflow_23
theorem d_P_result_0 : decode b_P_result 0 = .ok (.iload_n 0, 1) := by decide +kernel
theorem d_P_result_1 : decode b_P_result 1 = .ok (.tableswitch 116 5 15 #[59, 63, 67, 71, 75, 79, 83, 87, 91, 98, 105], 59) := by decide +kernel
theorem d_P_result_60 : decode b_P_result 60 = .ok (.iload_n 1, 1) := by decide +kernel
theorem d_P_result_61 : decode b_P_result 61 = .ok (.iload_n 2, 1) := by decide +kernel
theorem d_P_result_62 : decode b_P_result 62 = .ok (.iadd, 1) := by decide +kernel
theorem d_P_result_63 : decode b_P_result 63 = .ok (.ireturn, 1) := by decide +kernel
theorem d_P_result_64 : decode b_P_result 64 = .ok (.iload_n 1, 1) := by decide +kernel
theorem d_P_result_65 : decode b_P_result 65 = .ok (.iload_n 2, 1) := by decide +kernel
theorem d_P_result_66 : decode b_P_result 66 = .ok (.isub, 1) := by decide +kernel
theorem d_P_result_67 : decode b_P_result 67 = .ok (.ireturn, 1) := by decide +kernel
theorem d_P_result_68 : decode b_P_result 68 = .ok (.iload_n 1, 1) := by decide +kernel
theorem d_P_result_69 : decode b_P_result 69 = .ok (.iload_n 2, 1) := by decide +kernel
theorem d_P_result_70 : decode b_P_result 70 = .ok (.imul, 1) := by decide +kernel
theorem d_P_result_71 : decode b_P_result 71 = .ok (.ireturn, 1) := by decide +kernel
theorem d_P_result_72 : decode b_P_result 72 = .ok (.iload_n 1, 1) := by decide +kernel
theorem d_P_result_73 : decode b_P_result 73 = .ok (.iload_n 2, 1) := by decide +kernel
theorem d_P_result_74 : decode b_P_result 74 = .ok (.idiv, 1) := by decide +kernel
theorem d_P_result_75 : decode b_P_result 75 = .ok (.ireturn, 1) := by decide +kernel
theorem d_P_result_76 : decode b_P_result 76 = .ok (.iload_n 1, 1) := by decide +kernel
theorem d_P_result_77 : decode b_P_result 77 = .ok (.iload_n 2, 1) := by decide +kernel
theorem d_P_result_78 : decode b_P_result 78 = .ok (.irem, 1) := by decide +kernel
theorem d_P_result_79 : decode b_P_result 79 = .ok (.ireturn, 1) := by decide +kernel
theorem d_P_result_80 : decode b_P_result 80 = .ok (.iload_n 1, 1) := by decide +kernel
theorem d_P_result_81 : decode b_P_result 81 = .ok (.iload_n 2, 1) := by decide +kernel
theorem d_P_result_82 : decode b_P_result 82 = .ok (.iand, 1) := by decide +kernel
theorem d_P_result_83 : decode b_P_result 83 = .ok (.ireturn, 1) := by decide +kernel
theorem d_P_result_84 : decode b_P_result 84 = .ok (.iload_n 1, 1) := by decide +kernel
theorem d_P_result_85 : decode b_P_result 85 = .ok (.iload_n 2, 1) := by decide +kernel
theorem d_P_result_86 : decode b_P_result 86 = .ok (.ior, 1) := by decide +kernel
theorem d_P_result_87 : decode b_P_result 87 = .ok (.ireturn, 1) := by decide +kernel
theorem d_P_result_88 : decode b_P_result 88 = .ok (.iload_n 1, 1) := by decide +kernel
theorem d_P_result_89 : decode b_P_result 89 = .ok (.iload_n 2, 1) := by decide +kernel
theorem d_P_result_90 : decode b_P_result 90 = .ok (.ixor, 1) := by decide +kernel
theorem d_P_result_91 : decode b_P_result 91 = .ok (.ireturn, 1) := by decide +kernel
theorem d_P_result_92 : decode b_P_result 92 = .ok (.iload_n 1, 1) := by decide +kernel
theorem d_P_result_93 : decode b_P_result 93 = .ok (.iload_n 2, 1) := by decide +kernel
theorem d_P_result_94 : decode b_P_result 94 = .ok (.bipush 31, 2) := by decide +kernel
theorem d_P_result_96 : decode b_P_result 96 = .ok (.iand, 1) := by decide +kernel
theorem d_P_result_97 : decode b_P_result 97 = .ok (.ishl, 1) := by decide +kernel
theorem d_P_result_98 : decode b_P_result 98 = .ok (.ireturn, 1) := by decide +kernel
theorem d_P_result_99 : decode b_P_result 99 = .ok (.iload_n 1, 1) := by decide +kernel
theorem d_P_result_100 : decode b_P_result 100 = .ok (.iload_n 2, 1) := by decide +kernel
theorem d_P_result_101 : decode b_P_result 101 = .ok (.bipush 31, 2) := by decide +kernel
theorem d_P_result_103 : decode b_P_result 103 = .ok (.iand, 1) := by decide +kernel
theorem d_P_result_104 : decode b_P_result 104 = .ok (.ishr, 1) := by decide +kernel
theorem d_P_result_105 : decode b_P_result 105 = .ok (.ireturn, 1) := by decide +kernel
theorem d_P_result_106 : decode b_P_result 106 = .ok (.iload_n 1, 1) := by decide +kernel
theorem d_P_result_107 : decode b_P_result 107 = .ok (.iload_n 2, 1) := by decide +kernel
theorem d_P_result_108 : decode b_P_result 108 = .ok (.if_icmp .ge 7, 3) := by decide +kernel
theorem d_P_result_111 : decode b_P_result 111 = .ok (.iconst 1, 1) := by decide +kernel
theorem d_P_result_112 : decode b_P_result 112 = .ok (.goto 4, 3) := by decide +kernel
theorem d_P_result_115 : decode b_P_result 115 = .ok (.iconst 0, 1) := by decide +kernel
theorem d_P_result_116 : decode b_P_result 116 = .ok (.ireturn, 1) := by decide +kernel
theorem d_P_result_117 : decode b_P_result 117 = .ok (.iload_n 1, 1) := by decide +kernel
theorem d_P_result_118 : decode b_P_result 118 = .ok (.iload_n 2, 1) := by decide +kernel
theorem d_P_result_119 : decode b_P_result 119 = .ok (.if_icmp .ne 7, 3) := by decide +kernel
theorem d_P_result_122 : decode b_P_result 122 = .ok (.iconst 1, 1) := by decide +kernel
theorem d_P_result_123 : decode b_P_result 123 = .ok (.goto 4, 3) := by decide +kernel
theorem d_P_result_126 : decode b_P_result 126 = .ok (.iconst 0, 1) := by decide +kernel
theorem d_P_result_127 : decode b_P_result 127 = .ok (.ireturn, 1) := by decide +kernel
def w_P_result (cp : Nat) (x0 : Int32) (x1 : Int32) (x2 : Int32) (s0 : KS) (Φ : Int32 → KS → Prop) : Prop := ((x0 = 5 → Φ (x1 + x2) s0) ∧ ((x0 = 6 → Φ (x1 - x2) s0) ∧ ((x0 = 7 → Φ (x1 * x2) s0) ∧ ((x0 = 8 → ¬ x2 = 0 ∧ Φ (x1 / x2) s0) ∧ ((x0 = 9 → ¬ x2 = 0 ∧ Φ (x1 - x1 / x2 * x2) s0) ∧ ((x0 = 10 → Φ (x1 &&& x2) s0) ∧ ((x0 = 11 → Φ (x1 ||| x2) s0) ∧ ((x0 = 12 → Φ (x1 ^^^ x2) s0) ∧ ((x0 = 13 → Φ (x1 <<< ((x2 &&& (31 : Int32)) &&& 31)) s0) ∧ ((x0 = 14 → Φ (x1 >>> ((x2 &&& (31 : Int32)) &&& 31)) s0) ∧ ((x0 = 15 → ((x2 ≤ x1 → Φ (0 : Int32) s0) ∧ (¬ x2 ≤ x1 → Φ (1 : Int32) s0))) ∧ (¬ x0 = 5 ∧ ¬ x0 = 6 ∧ ¬ x0 = 7 ∧ ¬ x0 = 8 ∧ ¬ x0 = 9 ∧ ¬ x0 = 10 ∧ ¬ x0 = 11 ∧ ¬ x0 = 12 ∧ ¬ x0 = 13 ∧ ¬ x0 = 14 ∧ ¬ x0 = 15 → ((¬ x1 = x2 → Φ (0 : Int32) s0) ∧ (x1 = x2 → Φ (1 : Int32) s0))))))))))))))
set_option maxHeartbeats 4000000 in
set_option maxRecDepth 100000 in
theorem c_P_result (l : Launch) (E : gE) (s0 : KS) (x0 : Int32) (x1 : Int32) (x2 : Int32) (Φ : Int32 → KS → Prop) (hw : w_P_result (eN E) x0 x1 x2 s0 Φ) : gMi l y_P_result v_P_result m_P_result E KK [.int x0, .int x1, .int x2] s0 Φ := by
  intro sz
  refine Met.ofW (cc := b_P_result) (maxL := 3) (ret := (some .int)) (by decide) rfl ?_
  intro p e s m args below meth c s₁ B hml hv
  obtain ⟨rfl, hsz, hP, hK, hD, hX⟩ := hv
  have hx := B.exec
  have hb := B.bytes
  have hr := B.returns
  have hts := atoms_spec (ws := v_P_result) B.pre
  have hG : ∀ w ∈ gG, w.before _ s = true := fun w h => hts w (List.mem_cons_of_mem _ h)
  have hown : s.vm.findClass R_P = some m.cls := findClass_of_methodNamed B.named
  have hlocks := B.notSynchronized
  subst hsz
  obtain ⟨A, hAe⟩ : ∃ A, A = gA E KK s.heap.size := ⟨_, rfl⟩
  rw [← hAe] at hD hX ⊢
  have hV : gV E KK A s0 s s.heap [] := ⟨hP, hD, va_S.rf⟩
  have hl := lv_entry ([.int x0, .int x1, .int x2] : List Value) (n := 3) (Nat.le_of_ble_eq_true rfl)
  rw [lg_entry_eq]
  generalize (lg_sl ([.int x0, .int x1, .int x2] : List Value) ++ List.replicate (3 - (lg_sl ([.int x0, .int x1, .int x2] : List Value)).length) Slot.unset).toArray = ls at hl ⊢
  have hl : lv_has ls 3 [(0, .int x0), (1, .int x1), (2, .int x2)] := hl
  unfold w_P_result at hw
  refine lv_iload_n hx hb d_P_result_0 rfl (lv_at hl 0 rfl) ?_
  have hsw := hw
  by_cases hc5 : x0 = 5
  · have hw := hsw.1 hc5
    refine lv_tableIn (off := 59) (tgt := 60) hx hb d_P_result_1 (by rw [hc5]; decide) (by rw [hc5]; decide) (by rw [hc5]; decide) rfl ?_
    refine lv_iload_n hx hb d_P_result_60 rfl (lv_at hl 1 rfl) ?_
    refine lv_iload_n hx hb d_P_result_61 rfl (lv_at hl 2 rfl) ?_
    refine lv_iadd hx hb d_P_result_62 ?_
    exact kr_i hx hb hr hV hK hX hAe hw d_P_result_63
  have hsw := hsw.2
  by_cases hc6 : x0 = 6
  · have hw := hsw.1 hc6
    refine lv_tableIn (off := 63) (tgt := 64) hx hb d_P_result_1 (by rw [hc6]; decide) (by rw [hc6]; decide) (by rw [hc6]; decide) rfl ?_
    refine lv_iload_n hx hb d_P_result_64 rfl (lv_at hl 1 rfl) ?_
    refine lv_iload_n hx hb d_P_result_65 rfl (lv_at hl 2 rfl) ?_
    refine lv_isub hx hb d_P_result_66 ?_
    exact kr_i hx hb hr hV hK hX hAe hw d_P_result_67
  have hsw := hsw.2
  by_cases hc7 : x0 = 7
  · have hw := hsw.1 hc7
    refine lv_tableIn (off := 67) (tgt := 68) hx hb d_P_result_1 (by rw [hc7]; decide) (by rw [hc7]; decide) (by rw [hc7]; decide) rfl ?_
    refine lv_iload_n hx hb d_P_result_68 rfl (lv_at hl 1 rfl) ?_
    refine lv_iload_n hx hb d_P_result_69 rfl (lv_at hl 2 rfl) ?_
    refine lv_imul hx hb d_P_result_70 ?_
    exact kr_i hx hb hr hV hK hX hAe hw d_P_result_71
  have hsw := hsw.2
  by_cases hc8 : x0 = 8
  · have hw := hsw.1 hc8
    refine lv_tableIn (off := 71) (tgt := 72) hx hb d_P_result_1 (by rw [hc8]; decide) (by rw [hc8]; decide) (by rw [hc8]; decide) rfl ?_
    refine lv_iload_n hx hb d_P_result_72 rfl (lv_at hl 1 rfl) ?_
    refine lv_iload_n hx hb d_P_result_73 rfl (lv_at hl 2 rfl) ?_
    refine lv_idiv hx hb d_P_result_74 hw.1 ?_
    have hw := hw.2
    exact kr_i hx hb hr hV hK hX hAe hw d_P_result_75
  have hsw := hsw.2
  by_cases hc9 : x0 = 9
  · have hw := hsw.1 hc9
    refine lv_tableIn (off := 75) (tgt := 76) hx hb d_P_result_1 (by rw [hc9]; decide) (by rw [hc9]; decide) (by rw [hc9]; decide) rfl ?_
    refine lv_iload_n hx hb d_P_result_76 rfl (lv_at hl 1 rfl) ?_
    refine lv_iload_n hx hb d_P_result_77 rfl (lv_at hl 2 rfl) ?_
    refine lv_irem hx hb d_P_result_78 hw.1 ?_
    have hw := hw.2
    exact kr_i hx hb hr hV hK hX hAe hw d_P_result_79
  have hsw := hsw.2
  by_cases hc10 : x0 = 10
  · have hw := hsw.1 hc10
    refine lv_tableIn (off := 79) (tgt := 80) hx hb d_P_result_1 (by rw [hc10]; decide) (by rw [hc10]; decide) (by rw [hc10]; decide) rfl ?_
    refine lv_iload_n hx hb d_P_result_80 rfl (lv_at hl 1 rfl) ?_
    refine lv_iload_n hx hb d_P_result_81 rfl (lv_at hl 2 rfl) ?_
    refine lv_iand hx hb d_P_result_82 ?_
    exact kr_i hx hb hr hV hK hX hAe hw d_P_result_83
  have hsw := hsw.2
  by_cases hc11 : x0 = 11
  · have hw := hsw.1 hc11
    refine lv_tableIn (off := 83) (tgt := 84) hx hb d_P_result_1 (by rw [hc11]; decide) (by rw [hc11]; decide) (by rw [hc11]; decide) rfl ?_
    refine lv_iload_n hx hb d_P_result_84 rfl (lv_at hl 1 rfl) ?_
    refine lv_iload_n hx hb d_P_result_85 rfl (lv_at hl 2 rfl) ?_
    refine lv_ior hx hb d_P_result_86 ?_
    exact kr_i hx hb hr hV hK hX hAe hw d_P_result_87
  have hsw := hsw.2
  by_cases hc12 : x0 = 12
  · have hw := hsw.1 hc12
    refine lv_tableIn (off := 87) (tgt := 88) hx hb d_P_result_1 (by rw [hc12]; decide) (by rw [hc12]; decide) (by rw [hc12]; decide) rfl ?_
    refine lv_iload_n hx hb d_P_result_88 rfl (lv_at hl 1 rfl) ?_
    refine lv_iload_n hx hb d_P_result_89 rfl (lv_at hl 2 rfl) ?_
    refine lv_ixor hx hb d_P_result_90 ?_
    exact kr_i hx hb hr hV hK hX hAe hw d_P_result_91
  have hsw := hsw.2
  by_cases hc13 : x0 = 13
  · have hw := hsw.1 hc13
    refine lv_tableIn (off := 91) (tgt := 92) hx hb d_P_result_1 (by rw [hc13]; decide) (by rw [hc13]; decide) (by rw [hc13]; decide) rfl ?_
    refine lv_iload_n hx hb d_P_result_92 rfl (lv_at hl 1 rfl) ?_
    refine lv_iload_n hx hb d_P_result_93 rfl (lv_at hl 2 rfl) ?_
    refine lv_bipush (v := 31) hx hb d_P_result_94 (by decide) ?_
    refine lv_iand hx hb d_P_result_96 ?_
    refine lv_ishl hx hb d_P_result_97 ?_
    exact kr_i hx hb hr hV hK hX hAe hw d_P_result_98
  have hsw := hsw.2
  by_cases hc14 : x0 = 14
  · have hw := hsw.1 hc14
    refine lv_tableIn (off := 98) (tgt := 99) hx hb d_P_result_1 (by rw [hc14]; decide) (by rw [hc14]; decide) (by rw [hc14]; decide) rfl ?_
    refine lv_iload_n hx hb d_P_result_99 rfl (lv_at hl 1 rfl) ?_
    refine lv_iload_n hx hb d_P_result_100 rfl (lv_at hl 2 rfl) ?_
    refine lv_bipush (v := 31) hx hb d_P_result_101 (by decide) ?_
    refine lv_iand hx hb d_P_result_103 ?_
    refine lv_ishr hx hb d_P_result_104 ?_
    exact kr_i hx hb hr hV hK hX hAe hw d_P_result_105
  have hsw := hsw.2
  by_cases hc15 : x0 = 15
  · have hw := hsw.1 hc15
    refine lv_tableIn (off := 105) (tgt := 106) hx hb d_P_result_1 (by rw [hc15]; decide) (by rw [hc15]; decide) (by rw [hc15]; decide) rfl ?_
    refine lv_iload_n hx hb d_P_result_106 rfl (lv_at hl 1 rfl) ?_
    refine lv_iload_n hx hb d_P_result_107 rfl (lv_at hl 2 rfl) ?_
    refine lv_icmp_ge (tgt := 115) hx hb d_P_result_108 rfl (fun hc => ?_) (fun hc => ?_)
    · have hw := hw.1 hc
      refine lv_iconst (v := 0) hx hb d_P_result_115 (by decide) ?_
      exact kr_i hx hb hr hV hK hX hAe hw d_P_result_116
    · have hw := hw.2 hc
      refine lv_iconst (v := 1) hx hb d_P_result_111 (by decide) ?_
      refine lv_goto (tgt := 116) hx hb d_P_result_112 rfl ?_
      exact kr_i hx hb hr hV hK hX hAe hw d_P_result_116
  have hsw := hsw.2
  have hw := hsw ⟨hc5, hc6, hc7, hc8, hc9, hc10, hc11, hc12, hc13, hc14, hc15⟩
  refine kr_dflt (g2 := F0 m 117 ls []) ?_ (fun kd => ?_)
  · refine lv_iload_n hx hb d_P_result_117 rfl (lv_at hl 1 rfl) ?_
    refine lv_iload_n hx hb d_P_result_118 rfl (lv_at hl 2 rfl) ?_
    refine lv_icmp_ne (tgt := 126) hx hb d_P_result_119 rfl (fun hc => ?_) (fun hc => ?_)
    · have hw := hw.1 hc
      refine lv_iconst (v := 0) hx hb d_P_result_126 (by decide) ?_
      exact kr_i hx hb hr hV hK hX hAe hw d_P_result_127
    · have hw := hw.2 hc
      refine lv_iconst (v := 1) hx hb d_P_result_122 (by decide) ?_
      refine lv_goto (tgt := 127) hx hb d_P_result_123 rfl ?_
      exact kr_i hx hb hr hV hK hX hAe hw d_P_result_127
  have hn5 : ¬ x0.toInt = 5 := lv_neT hc5 (by decide)
  have hn6 : ¬ x0.toInt = 6 := lv_neT hc6 (by decide)
  have hn7 : ¬ x0.toInt = 7 := lv_neT hc7 (by decide)
  have hn8 : ¬ x0.toInt = 8 := lv_neT hc8 (by decide)
  have hn9 : ¬ x0.toInt = 9 := lv_neT hc9 (by decide)
  have hn10 : ¬ x0.toInt = 10 := lv_neT hc10 (by decide)
  have hn11 : ¬ x0.toInt = 11 := lv_neT hc11 (by decide)
  have hn12 : ¬ x0.toInt = 12 := lv_neT hc12 (by decide)
  have hn13 : ¬ x0.toInt = 13 := lv_neT hc13 (by decide)
  have hn14 : ¬ x0.toInt = 14 := lv_neT hc14 (by decide)
  have hn15 : ¬ x0.toInt = 15 := lv_neT hc15 (by decide)
  exact lv_tableOut (tgt := 117) hx hb d_P_result_1 (by omega) rfl kd
theorem d_P_combine_0 : decode b_P_combine 0 = .ok (.aload_n 0, 1) := by decide +kernel
theorem d_P_combine_1 : decode b_P_combine 1 = .ok (.invokevirtual 88, 3) := by decide +kernel
theorem d_P_combine_4 : decode b_P_combine 4 = .ok (.istore_n 2, 1) := by decide +kernel
theorem d_P_combine_5 : decode b_P_combine 5 = .ok (.aload_n 0, 1) := by decide +kernel
theorem d_P_combine_6 : decode b_P_combine 6 = .ok (.invokevirtual 88, 3) := by decide +kernel
theorem d_P_combine_9 : decode b_P_combine 9 = .ok (.istore_n 3, 1) := by decide +kernel
theorem d_P_combine_10 : decode b_P_combine 10 = .ok (.aload_n 0, 1) := by decide +kernel
theorem d_P_combine_11 : decode b_P_combine 11 = .ok (.iload_n 1, 1) := by decide +kernel
theorem d_P_combine_12 : decode b_P_combine 12 = .ok (.iload_n 3, 1) := by decide +kernel
theorem d_P_combine_13 : decode b_P_combine 13 = .ok (.iload_n 2, 1) := by decide +kernel
theorem d_P_combine_14 : decode b_P_combine 14 = .ok (.invokestatic 104, 3) := by decide +kernel
theorem d_P_combine_17 : decode b_P_combine 17 = .ok (.invokevirtual 65, 3) := by decide +kernel
theorem d_P_combine_20 : decode b_P_combine 20 = .ok (.return_, 1) := by decide +kernel
def w_P_combine (cp : Nat) (i : Nat) (x1 : Int32) (s0 : KS) (Φ : KS → Prop) : Prop := w_P_pop cp i s0 (fun r2 s1 => w_P_pop cp i s1 (fun r4 s3 => w_P_result cp x1 r4 r2 s3 (fun r6 s5 => w_P_push cp i r6 s5 (fun s7 => Φ s7))))
set_option maxHeartbeats 4000000 in
set_option maxRecDepth 100000 in
theorem c_P_combine (l : Launch) (E : gE) (s0 : KS) (i : Nat) (hi : i < 16) (x1 : Int32) (Φ : KS → Prop) (hw : w_P_combine (eN E) i x1 s0 Φ) : gMv l y_P_combine v_P_combine m_P_combine E KK [.ref (ea E 1 i), .int x1] s0 Φ := by
  intro sz
  refine Met.ofW (cc := b_P_combine) (maxL := 4) (ret := none) (by decide) rfl ?_
  intro p e s m args below meth c s₁ B hml hv
  obtain ⟨rfl, hsz, hP, hK, hD, hX⟩ := hv
  have hx := B.exec
  have hb := B.bytes
  have hr := B.returns
  have hts := atoms_spec (ws := v_P_combine) B.pre
  have hG : ∀ w ∈ gG, w.before _ s = true := fun w h => hts w (List.mem_cons_of_mem _ h)
  have hown : s.vm.findClass R_P = some m.cls := findClass_of_methodNamed B.named
  have hlocks := B.notSynchronized
  subst hsz
  obtain ⟨A, hAe⟩ : ∃ A, A = gA E KK s.heap.size := ⟨_, rfl⟩
  rw [← hAe] at hD hX ⊢
  have hV : gV E KK A s0 s s.heap [] := ⟨hP, hD, va_S.rf⟩
  have hl := lv_entry ([.ref (ea E 1 i), .int x1] : List Value) (n := 4) (Nat.le_of_ble_eq_true rfl)
  rw [lg_entry_eq]
  generalize (lg_sl ([.ref (ea E 1 i), .int x1] : List Value) ++ List.replicate (4 - (lg_sl ([.ref (ea E 1 i), .int x1] : List Value)).length) Slot.unset).toArray = ls at hl ⊢
  have hl : lv_has ls 4 [(0, .ref (ea E 1 i)), (1, .int x1)] := hl
  unfold w_P_combine at hw
  refine lv_aload_n hx hb d_P_combine_0 rfl (lv_at hl 0 rfl) ?_
  refine kc_P_P_pop hx hb hml hown hts hV hK hX hAe (c_P_pop l E s0 i hi _ hw) hi hl.1 (Nat.le_of_ble_eq_true rfl) d_P_combine_1 (Nat.le_of_ble_eq_true rfl) (Nat.le_of_ble_eq_true rfl) (fun r2 s1 H locs hw hV => ?_)
  refine lv_istore_n (lv' := [(2, .int r2), (0, .ref (ea E 1 i)), (1, .int x1)]) hx hb d_P_combine_4 rfl hl (by decide) rfl (fun ls hl => ?_)
  refine lv_aload_n hx hb d_P_combine_5 rfl (lv_at hl 1 rfl) ?_
  refine kc_P_P_pop hx hb hml hown hts hV hK hX hAe (c_P_pop l E s1 i hi _ hw) hi hl.1 (Nat.le_of_ble_eq_true rfl) d_P_combine_6 (Nat.le_of_ble_eq_true rfl) (Nat.le_of_ble_eq_true rfl) (fun r4 s3 H locs hw hV => ?_)
  refine lv_istore_n (lv' := [(3, .int r4), (2, .int r2), (0, .ref (ea E 1 i)), (1, .int x1)]) hx hb d_P_combine_9 rfl hl (by decide) rfl (fun ls hl => ?_)
  refine lv_aload_n hx hb d_P_combine_10 rfl (lv_at hl 2 rfl) ?_
  refine lv_iload_n hx hb d_P_combine_11 rfl (lv_at hl 3 rfl) ?_
  refine lv_iload_n hx hb d_P_combine_12 rfl (lv_at hl 0 rfl) ?_
  refine lv_iload_n hx hb d_P_combine_13 rfl (lv_at hl 1 rfl) ?_
  refine kc_P_P_result hx hb hml hown hts hV hK hX hAe (c_P_result l E s3 x1 r4 r2 _ hw) hl.1 (Nat.le_of_ble_eq_true rfl) d_P_combine_14 (Nat.le_of_ble_eq_true rfl) (Nat.le_of_ble_eq_true rfl) (fun r6 s5 H locs hw hV => ?_)
  refine kc_P_P_push hx hb hml hown hts hV hK hX hAe (c_P_push l E s5 i hi r6 _ hw) hi hl.1 (Nat.le_of_ble_eq_true rfl) d_P_combine_17 (Nat.le_of_ble_eq_true rfl) (Nat.le_of_ble_eq_true rfl) (fun s7 H locs hw hV => ?_)
  exact kr_v hx hb hr hV hK hX hAe hw d_P_combine_20
theorem d_P_storeAt_0 : decode b_P_storeAt 0 = .ok (.aload_n 0, 1) := by decide +kernel
theorem d_P_storeAt_1 : decode b_P_storeAt 1 = .ok (.getfield 9, 3) := by decide +kernel
theorem d_P_storeAt_4 : decode b_P_storeAt 4 = .ok (.iload_n 1, 1) := by decide +kernel
theorem d_P_storeAt_5 : decode b_P_storeAt 5 = .ok (.aload_n 0, 1) := by decide +kernel
theorem d_P_storeAt_6 : decode b_P_storeAt 6 = .ok (.invokevirtual 88, 3) := by decide +kernel
theorem d_P_storeAt_9 : decode b_P_storeAt 9 = .ok (.iastore, 1) := by decide +kernel
theorem d_P_storeAt_10 : decode b_P_storeAt 10 = .ok (.return_, 1) := by decide +kernel
def w_P_storeAt (cp : Nat) (i : Nat) (x1 : Int32) (s0 : KS) (Φ : KS → Prop) : Prop := w_P_pop cp i s0 (fun r2 s1 => vp_in x1 128 ∧ ∀ s3 : KS, s3 = w3 s1 2 i x1.toNatClampNeg r2 → Φ s3)
set_option maxHeartbeats 4000000 in
set_option maxRecDepth 100000 in
theorem c_P_storeAt (l : Launch) (E : gE) (s0 : KS) (i : Nat) (hi : i < 16) (x1 : Int32) (Φ : KS → Prop) (hw : w_P_storeAt (eN E) i x1 s0 Φ) : gMv l y_P_storeAt v_P_storeAt m_P_storeAt E KK [.ref (ea E 1 i), .int x1] s0 Φ := by
  intro sz
  refine Met.ofW (cc := b_P_storeAt) (maxL := 2) (ret := none) (by decide) rfl ?_
  intro p e s m args below meth c s₁ B hml hv
  obtain ⟨rfl, hsz, hP, hK, hD, hX⟩ := hv
  have hx := B.exec
  have hb := B.bytes
  have hr := B.returns
  have hts := atoms_spec (ws := v_P_storeAt) B.pre
  have hG : ∀ w ∈ gG, w.before _ s = true := fun w h => hts w (List.mem_cons_of_mem _ h)
  have hown : s.vm.findClass R_P = some m.cls := findClass_of_methodNamed B.named
  have hlocks := B.notSynchronized
  subst hsz
  obtain ⟨A, hAe⟩ : ∃ A, A = gA E KK s.heap.size := ⟨_, rfl⟩
  rw [← hAe] at hD hX ⊢
  have hV : gV E KK A s0 s s.heap [] := ⟨hP, hD, va_S.rf⟩
  have hl := lv_entry ([.ref (ea E 1 i), .int x1] : List Value) (n := 2) (Nat.le_of_ble_eq_true rfl)
  rw [lg_entry_eq]
  generalize (lg_sl ([.ref (ea E 1 i), .int x1] : List Value) ++ List.replicate (2 - (lg_sl ([.ref (ea E 1 i), .int x1] : List Value)).length) Slot.unset).toArray = ls at hl ⊢
  have hl : lv_has ls 2 [(0, .ref (ea E 1 i)), (1, .int x1)] := hl
  unfold w_P_storeAt at hw
  refine lv_aload_n hx hb d_P_storeAt_0 rfl (lv_at hl 0 rfl) ?_
  refine kg_P_P_memory hx hb hG hown hK hV hi d_P_storeAt_1 ?_
  refine lv_iload_n hx hb d_P_storeAt_4 rfl (lv_at hl 1 rfl) ?_
  refine lv_aload_n hx hb d_P_storeAt_5 rfl (lv_at hl 0 rfl) ?_
  refine kc_P_P_pop hx hb hml hown hts hV hK hX hAe (c_P_pop l E s0 i hi _ hw) hi hl.1 (Nat.le_of_ble_eq_true rfl) d_P_storeAt_6 (Nat.le_of_ble_eq_true rfl) (Nat.le_of_ble_eq_true rfl) (fun r2 s1 H locs hw hV => ?_)
  refine ks_2 hx hb hK hV hi hw.1 d_P_storeAt_9 (fun s3 H locs es3 hV => ?_)
  have hw := hw.2 s3 es3
  exact kr_v hx hb hr hV hK hX hAe hw d_P_storeAt_10
theorem d_P_swap_0 : decode b_P_swap 0 = .ok (.aload_n 0, 1) := by decide +kernel
theorem d_P_swap_1 : decode b_P_swap 1 = .ok (.invokevirtual 88, 3) := by decide +kernel
theorem d_P_swap_4 : decode b_P_swap 4 = .ok (.istore_n 1, 1) := by decide +kernel
theorem d_P_swap_5 : decode b_P_swap 5 = .ok (.aload_n 0, 1) := by decide +kernel
theorem d_P_swap_6 : decode b_P_swap 6 = .ok (.invokevirtual 88, 3) := by decide +kernel
theorem d_P_swap_9 : decode b_P_swap 9 = .ok (.istore_n 2, 1) := by decide +kernel
theorem d_P_swap_10 : decode b_P_swap 10 = .ok (.aload_n 0, 1) := by decide +kernel
theorem d_P_swap_11 : decode b_P_swap 11 = .ok (.iload_n 1, 1) := by decide +kernel
theorem d_P_swap_12 : decode b_P_swap 12 = .ok (.iload_n 2, 1) := by decide +kernel
theorem d_P_swap_13 : decode b_P_swap 13 = .ok (.invokevirtual 100, 3) := by decide +kernel
theorem d_P_swap_16 : decode b_P_swap 16 = .ok (.return_, 1) := by decide +kernel
def w_P_swap (cp : Nat) (i : Nat) (s0 : KS) (Φ : KS → Prop) : Prop := w_P_pop cp i s0 (fun r2 s1 => w_P_pop cp i s1 (fun r4 s3 => w_P_pushTwo cp i r2 r4 s3 (fun s5 => Φ s5)))
set_option maxHeartbeats 4000000 in
set_option maxRecDepth 100000 in
theorem c_P_swap (l : Launch) (E : gE) (s0 : KS) (i : Nat) (hi : i < 16) (Φ : KS → Prop) (hw : w_P_swap (eN E) i s0 Φ) : gMv l y_P_swap v_P_swap m_P_swap E KK [.ref (ea E 1 i)] s0 Φ := by
  intro sz
  refine Met.ofW (cc := b_P_swap) (maxL := 3) (ret := none) (by decide) rfl ?_
  intro p e s m args below meth c s₁ B hml hv
  obtain ⟨rfl, hsz, hP, hK, hD, hX⟩ := hv
  have hx := B.exec
  have hb := B.bytes
  have hr := B.returns
  have hts := atoms_spec (ws := v_P_swap) B.pre
  have hG : ∀ w ∈ gG, w.before _ s = true := fun w h => hts w (List.mem_cons_of_mem _ h)
  have hown : s.vm.findClass R_P = some m.cls := findClass_of_methodNamed B.named
  have hlocks := B.notSynchronized
  subst hsz
  obtain ⟨A, hAe⟩ : ∃ A, A = gA E KK s.heap.size := ⟨_, rfl⟩
  rw [← hAe] at hD hX ⊢
  have hV : gV E KK A s0 s s.heap [] := ⟨hP, hD, va_S.rf⟩
  have hl := lv_entry ([.ref (ea E 1 i)] : List Value) (n := 3) (Nat.le_of_ble_eq_true rfl)
  rw [lg_entry_eq]
  generalize (lg_sl ([.ref (ea E 1 i)] : List Value) ++ List.replicate (3 - (lg_sl ([.ref (ea E 1 i)] : List Value)).length) Slot.unset).toArray = ls at hl ⊢
  have hl : lv_has ls 3 [(0, .ref (ea E 1 i))] := hl
  unfold w_P_swap at hw
  refine lv_aload_n hx hb d_P_swap_0 rfl (lv_at hl 0 rfl) ?_
  refine kc_P_P_pop hx hb hml hown hts hV hK hX hAe (c_P_pop l E s0 i hi _ hw) hi hl.1 (Nat.le_of_ble_eq_true rfl) d_P_swap_1 (Nat.le_of_ble_eq_true rfl) (Nat.le_of_ble_eq_true rfl) (fun r2 s1 H locs hw hV => ?_)
  refine lv_istore_n (lv' := [(1, .int r2), (0, .ref (ea E 1 i))]) hx hb d_P_swap_4 rfl hl (by decide) rfl (fun ls hl => ?_)
  refine lv_aload_n hx hb d_P_swap_5 rfl (lv_at hl 1 rfl) ?_
  refine kc_P_P_pop hx hb hml hown hts hV hK hX hAe (c_P_pop l E s1 i hi _ hw) hi hl.1 (Nat.le_of_ble_eq_true rfl) d_P_swap_6 (Nat.le_of_ble_eq_true rfl) (Nat.le_of_ble_eq_true rfl) (fun r4 s3 H locs hw hV => ?_)
  refine lv_istore_n (lv' := [(2, .int r4), (1, .int r2), (0, .ref (ea E 1 i))]) hx hb d_P_swap_9 rfl hl (by decide) rfl (fun ls hl => ?_)
  refine lv_aload_n hx hb d_P_swap_10 rfl (lv_at hl 2 rfl) ?_
  refine lv_iload_n hx hb d_P_swap_11 rfl (lv_at hl 1 rfl) ?_
  refine lv_iload_n hx hb d_P_swap_12 rfl (lv_at hl 0 rfl) ?_
  refine kc_P_P_pushTwo hx hb hml hown hts hV hK hX hAe (c_P_pushTwo l E s3 i hi r2 r4 _ hw) hi hl.1 (Nat.le_of_ble_eq_true rfl) d_P_swap_13 (Nat.le_of_ble_eq_true rfl) (Nat.le_of_ble_eq_true rfl) (fun s5 H locs hw hV => ?_)
  exact kr_v hx hb hr hV hK hX hAe hw d_P_swap_16
theorem d_P_compute_0 : decode b_P_compute 0 = .ok (.iload_n 1, 1) := by decide +kernel
theorem d_P_compute_1 : decode b_P_compute 1 = .ok (.tableswitch 285 0 25 #[119, 122, 130, 138, 149, 285, 285, 285, 285, 285, 285, 285, 285, 285, 285, 285, 285, 156, 175, 188, 201, 217, 228, 236, 258, 274], 119) := by decide +kernel
theorem d_P_compute_120 : decode b_P_compute 120 = .ok (.goto 171, 3) := by decide +kernel
theorem d_P_compute_123 : decode b_P_compute 123 = .ok (.aload_n 0, 1) := by decide +kernel
theorem d_P_compute_124 : decode b_P_compute 124 = .ok (.iload_n 2, 1) := by decide +kernel
theorem d_P_compute_125 : decode b_P_compute 125 = .ok (.invokevirtual 65, 3) := by decide +kernel
theorem d_P_compute_128 : decode b_P_compute 128 = .ok (.goto 163, 3) := by decide +kernel
theorem d_P_compute_131 : decode b_P_compute 131 = .ok (.aload_n 0, 1) := by decide +kernel
theorem d_P_compute_132 : decode b_P_compute 132 = .ok (.invokevirtual 88, 3) := by decide +kernel
theorem d_P_compute_135 : decode b_P_compute 135 = .ok (.pop, 1) := by decide +kernel
theorem d_P_compute_136 : decode b_P_compute 136 = .ok (.goto 155, 3) := by decide +kernel
theorem d_P_compute_139 : decode b_P_compute 139 = .ok (.aload_n 0, 1) := by decide +kernel
theorem d_P_compute_140 : decode b_P_compute 140 = .ok (.aload_n 0, 1) := by decide +kernel
theorem d_P_compute_141 : decode b_P_compute 141 = .ok (.invokevirtual 79, 3) := by decide +kernel
theorem d_P_compute_144 : decode b_P_compute 144 = .ok (.invokevirtual 65, 3) := by decide +kernel
theorem d_P_compute_147 : decode b_P_compute 147 = .ok (.goto 144, 3) := by decide +kernel
theorem d_P_compute_150 : decode b_P_compute 150 = .ok (.aload_n 0, 1) := by decide +kernel
theorem d_P_compute_151 : decode b_P_compute 151 = .ok (.invokevirtual 91, 3) := by decide +kernel
theorem d_P_compute_154 : decode b_P_compute 154 = .ok (.goto 137, 3) := by decide +kernel
theorem d_P_compute_157 : decode b_P_compute 157 = .ok (.aload_n 0, 1) := by decide +kernel
theorem d_P_compute_158 : decode b_P_compute 158 = .ok (.aload_n 0, 1) := by decide +kernel
theorem d_P_compute_159 : decode b_P_compute 159 = .ok (.invokevirtual 88, 3) := by decide +kernel
theorem d_P_compute_162 : decode b_P_compute 162 = .ok (.ifCond .ne 7, 3) := by decide +kernel
theorem d_P_compute_165 : decode b_P_compute 165 = .ok (.iconst 1, 1) := by decide +kernel
theorem d_P_compute_166 : decode b_P_compute 166 = .ok (.goto 4, 3) := by decide +kernel
theorem d_P_compute_169 : decode b_P_compute 169 = .ok (.iconst 0, 1) := by decide +kernel
theorem d_P_compute_170 : decode b_P_compute 170 = .ok (.invokevirtual 65, 3) := by decide +kernel
theorem d_P_compute_173 : decode b_P_compute 173 = .ok (.goto 118, 3) := by decide +kernel
theorem d_P_compute_176 : decode b_P_compute 176 = .ok (.aload_n 0, 1) := by decide +kernel
theorem d_P_compute_177 : decode b_P_compute 177 = .ok (.aload_n 0, 1) := by decide +kernel
theorem d_P_compute_178 : decode b_P_compute 178 = .ok (.getfield 9, 3) := by decide +kernel
theorem d_P_compute_181 : decode b_P_compute 181 = .ok (.iload_n 2, 1) := by decide +kernel
theorem d_P_compute_182 : decode b_P_compute 182 = .ok (.iaload, 1) := by decide +kernel
theorem d_P_compute_183 : decode b_P_compute 183 = .ok (.invokevirtual 65, 3) := by decide +kernel
theorem d_P_compute_186 : decode b_P_compute 186 = .ok (.goto 105, 3) := by decide +kernel
theorem d_P_compute_189 : decode b_P_compute 189 = .ok (.aload_n 0, 1) := by decide +kernel
theorem d_P_compute_190 : decode b_P_compute 190 = .ok (.getfield 9, 3) := by decide +kernel
theorem d_P_compute_193 : decode b_P_compute 193 = .ok (.iload_n 2, 1) := by decide +kernel
theorem d_P_compute_194 : decode b_P_compute 194 = .ok (.aload_n 0, 1) := by decide +kernel
theorem d_P_compute_195 : decode b_P_compute 195 = .ok (.invokevirtual 88, 3) := by decide +kernel
theorem d_P_compute_198 : decode b_P_compute 198 = .ok (.iastore, 1) := by decide +kernel
theorem d_P_compute_199 : decode b_P_compute 199 = .ok (.goto 92, 3) := by decide +kernel
theorem d_P_compute_202 : decode b_P_compute 202 = .ok (.aload_n 0, 1) := by decide +kernel
theorem d_P_compute_203 : decode b_P_compute 203 = .ok (.aload_n 0, 1) := by decide +kernel
theorem d_P_compute_204 : decode b_P_compute 204 = .ok (.getfield 9, 3) := by decide +kernel
theorem d_P_compute_207 : decode b_P_compute 207 = .ok (.aload_n 0, 1) := by decide +kernel
theorem d_P_compute_208 : decode b_P_compute 208 = .ok (.invokevirtual 88, 3) := by decide +kernel
theorem d_P_compute_211 : decode b_P_compute 211 = .ok (.iaload, 1) := by decide +kernel
theorem d_P_compute_212 : decode b_P_compute 212 = .ok (.invokevirtual 65, 3) := by decide +kernel
theorem d_P_compute_215 : decode b_P_compute 215 = .ok (.goto 76, 3) := by decide +kernel
theorem d_P_compute_218 : decode b_P_compute 218 = .ok (.aload_n 0, 1) := by decide +kernel
theorem d_P_compute_219 : decode b_P_compute 219 = .ok (.aload_n 0, 1) := by decide +kernel
theorem d_P_compute_220 : decode b_P_compute 220 = .ok (.invokevirtual 88, 3) := by decide +kernel
theorem d_P_compute_223 : decode b_P_compute 223 = .ok (.invokevirtual 94, 3) := by decide +kernel
theorem d_P_compute_226 : decode b_P_compute 226 = .ok (.goto 65, 3) := by decide +kernel
theorem d_P_compute_229 : decode b_P_compute 229 = .ok (.aload_n 0, 1) := by decide +kernel
theorem d_P_compute_230 : decode b_P_compute 230 = .ok (.iload_n 2, 1) := by decide +kernel
theorem d_P_compute_231 : decode b_P_compute 231 = .ok (.putfield 25, 3) := by decide +kernel
theorem d_P_compute_234 : decode b_P_compute 234 = .ok (.goto 57, 3) := by decide +kernel
theorem d_P_compute_237 : decode b_P_compute 237 = .ok (.aload_n 0, 1) := by decide +kernel
theorem d_P_compute_238 : decode b_P_compute 238 = .ok (.aload_n 0, 1) := by decide +kernel
theorem d_P_compute_239 : decode b_P_compute 239 = .ok (.invokevirtual 88, 3) := by decide +kernel
theorem d_P_compute_242 : decode b_P_compute 242 = .ok (.ifCond .ne 7, 3) := by decide +kernel
theorem d_P_compute_245 : decode b_P_compute 245 = .ok (.iload_n 2, 1) := by decide +kernel
theorem d_P_compute_246 : decode b_P_compute 246 = .ok (.goto 7, 3) := by decide +kernel
theorem d_P_compute_249 : decode b_P_compute 249 = .ok (.aload_n 0, 1) := by decide +kernel
theorem d_P_compute_250 : decode b_P_compute 250 = .ok (.getfield 25, 3) := by decide +kernel
theorem d_P_compute_253 : decode b_P_compute 253 = .ok (.putfield 25, 3) := by decide +kernel
theorem d_P_compute_256 : decode b_P_compute 256 = .ok (.goto 35, 3) := by decide +kernel
theorem d_P_compute_259 : decode b_P_compute 259 = .ok (.aload_n 0, 1) := by decide +kernel
theorem d_P_compute_260 : decode b_P_compute 260 = .ok (.aload_n 0, 1) := by decide +kernel
theorem d_P_compute_261 : decode b_P_compute 261 = .ok (.getfield 25, 3) := by decide +kernel
theorem d_P_compute_264 : decode b_P_compute 264 = .ok (.invokevirtual 65, 3) := by decide +kernel
theorem d_P_compute_267 : decode b_P_compute 267 = .ok (.aload_n 0, 1) := by decide +kernel
theorem d_P_compute_268 : decode b_P_compute 268 = .ok (.iload_n 2, 1) := by decide +kernel
theorem d_P_compute_269 : decode b_P_compute 269 = .ok (.putfield 25, 3) := by decide +kernel
theorem d_P_compute_272 : decode b_P_compute 272 = .ok (.goto 19, 3) := by decide +kernel
theorem d_P_compute_275 : decode b_P_compute 275 = .ok (.aload_n 0, 1) := by decide +kernel
theorem d_P_compute_276 : decode b_P_compute 276 = .ok (.aload_n 0, 1) := by decide +kernel
theorem d_P_compute_277 : decode b_P_compute 277 = .ok (.invokevirtual 88, 3) := by decide +kernel
theorem d_P_compute_280 : decode b_P_compute 280 = .ok (.putfield 25, 3) := by decide +kernel
theorem d_P_compute_283 : decode b_P_compute 283 = .ok (.goto 8, 3) := by decide +kernel
theorem d_P_compute_286 : decode b_P_compute 286 = .ok (.aload_n 0, 1) := by decide +kernel
theorem d_P_compute_287 : decode b_P_compute 287 = .ok (.iload_n 1, 1) := by decide +kernel
theorem d_P_compute_288 : decode b_P_compute 288 = .ok (.invokevirtual 97, 3) := by decide +kernel
theorem d_P_compute_291 : decode b_P_compute 291 = .ok (.return_, 1) := by decide +kernel
def w_P_compute_253 (cp : Nat) (i : Nat) (x1 : Int32) (x2 : Int32) (Φ : KS → Prop) (t0 : Int32) (s0 : KS) : Prop := ∀ s1 : KS, s1 = w3 s0 1 i 5 t0 → Φ s1
def w_P_compute_170 (cp : Nat) (i : Nat) (x1 : Int32) (x2 : Int32) (Φ : KS → Prop) (t0 : Int32) (s0 : KS) : Prop := w_P_push cp i t0 s0 (fun s1 => Φ s1)
def w_P_compute (cp : Nat) (i : Nat) (x1 : Int32) (x2 : Int32) (s0 : KS) (Φ : KS → Prop) : Prop := ((x1 = 0 → Φ s0) ∧ ((x1 = 1 → w_P_push cp i x2 s0 (fun s1 => Φ s1)) ∧ ((x1 = 2 → w_P_pop cp i s0 (fun r3 s2 => Φ s2)) ∧ ((x1 = 3 → w_P_top cp i s0 (fun r5 s4 => w_P_push cp i r5 s4 (fun s6 => Φ s6))) ∧ ((x1 = 4 → w_P_swap cp i s0 (fun s7 => Φ s7)) ∧ ((x1 = 17 → w_P_pop cp i s0 (fun r9 s8 => ((¬ r9 = 0 → w_P_compute_170 cp i x1 x2 Φ (0 : Int32) s8) ∧ (r9 = 0 → w_P_compute_170 cp i x1 x2 Φ (1 : Int32) s8)))) ∧ ((x1 = 18 → vp_in x2 128 ∧ w_P_push cp i (s0 2 i x2.toNatClampNeg) s0 (fun s10 => Φ s10)) ∧ ((x1 = 19 → w_P_pop cp i s0 (fun r12 s11 => vp_in x2 128 ∧ ∀ s13 : KS, s13 = w3 s11 2 i x2.toNatClampNeg r12 → Φ s13)) ∧ ((x1 = 20 → w_P_pop cp i s0 (fun r15 s14 => vp_in r15 128 ∧ w_P_push cp i (s14 2 i r15.toNatClampNeg) s14 (fun s16 => Φ s16))) ∧ ((x1 = 21 → w_P_pop cp i s0 (fun r18 s17 => w_P_storeAt cp i r18 s17 (fun s19 => Φ s19))) ∧ ((x1 = 22 → ∀ s20 : KS, s20 = w3 s0 1 i 5 x2 → Φ s20) ∧ ((x1 = 23 → w_P_pop cp i s0 (fun r22 s21 => ((¬ r22 = 0 → w_P_compute_253 cp i x1 x2 Φ (s21 1 i 5) s21) ∧ (r22 = 0 → w_P_compute_253 cp i x1 x2 Φ x2 s21)))) ∧ ((x1 = 24 → w_P_push cp i (s0 1 i 5) s0 (fun s23 => ∀ s24 : KS, s24 = w3 s23 1 i 5 x2 → Φ s24)) ∧ ((x1 = 25 → w_P_pop cp i s0 (fun r26 s25 => ∀ s27 : KS, s27 = w3 s25 1 i 5 r26 → Φ s27)) ∧ (¬ x1 = 0 ∧ ¬ x1 = 1 ∧ ¬ x1 = 2 ∧ ¬ x1 = 3 ∧ ¬ x1 = 4 ∧ ¬ x1 = 17 ∧ ¬ x1 = 18 ∧ ¬ x1 = 19 ∧ ¬ x1 = 20 ∧ ¬ x1 = 21 ∧ ¬ x1 = 22 ∧ ¬ x1 = 23 ∧ ¬ x1 = 24 ∧ ¬ x1 = 25 → w_P_combine cp i x1 s0 (fun s28 => Φ s28))))))))))))))))
set_option maxHeartbeats 4000000 in
set_option maxRecDepth 100000 in
theorem c_P_compute (l : Launch) (E : gE) (s0 : KS) (i : Nat) (hi : i < 16) (x1 : Int32) (x2 : Int32) (Φ : KS → Prop) (hw : w_P_compute (eN E) i x1 x2 s0 Φ) : gMv l y_P_compute v_P_compute m_P_compute E KK [.ref (ea E 1 i), .int x1, .int x2] s0 Φ := by
  intro sz
  refine Met.ofW (cc := b_P_compute) (maxL := 3) (ret := none) (by decide) rfl ?_
  intro p e s m args below meth c s₁ B hml hv
  obtain ⟨rfl, hsz, hP, hK, hD, hX⟩ := hv
  have hx := B.exec
  have hb := B.bytes
  have hr := B.returns
  have hts := atoms_spec (ws := v_P_compute) B.pre
  have hG : ∀ w ∈ gG, w.before _ s = true := fun w h => hts w (List.mem_cons_of_mem _ h)
  have hown : s.vm.findClass R_P = some m.cls := findClass_of_methodNamed B.named
  have hlocks := B.notSynchronized
  subst hsz
  obtain ⟨A, hAe⟩ : ∃ A, A = gA E KK s.heap.size := ⟨_, rfl⟩
  rw [← hAe] at hD hX ⊢
  have hV : gV E KK A s0 s s.heap [] := ⟨hP, hD, va_S.rf⟩
  have hl := lv_entry ([.ref (ea E 1 i), .int x1, .int x2] : List Value) (n := 3) (Nat.le_of_ble_eq_true rfl)
  rw [lg_entry_eq]
  generalize (lg_sl ([.ref (ea E 1 i), .int x1, .int x2] : List Value) ++ List.replicate (3 - (lg_sl ([.ref (ea E 1 i), .int x1, .int x2] : List Value)).length) Slot.unset).toArray = ls at hl ⊢
  have hl : lv_has ls 3 [(0, .ref (ea E 1 i)), (1, .int x1), (2, .int x2)] := hl
  have J253 : ∀ (ls : Array Slot) (H : Heap) (locs : List Loc) (s0 : KS) (t0 : Int32), lv_has ls 3 [] → gV E KK A s0 s H locs → w_P_compute_253 (eN E) i x1 x2 Φ t0 s0 → W p l e m_P_compute s m ([.ref (ea E 1 i), .int x1, .int x2] : List Value).toArray below meth c H locs 0 0 (MQ below (gQv E KK A Φ) ([.ref (ea E 1 i), .int x1, .int x2] : List Value).toArray s 0 0 A) (F0 m 253 ls [.int t0, .ref (ea E 1 i)]) := by
    intro  ls H locs s0 t0 hl hV hw
    unfold w_P_compute_253 at hw
    refine kp_P_P_place hx hb hG hown hK hV hi d_P_compute_253 (fun s1 H locs es1 hV => ?_)
    have hw := hw s1 es1
    refine lv_goto (tgt := 291) hx hb d_P_compute_256 rfl ?_
    exact kr_v hx hb hr hV hK hX hAe hw d_P_compute_291
  have J170 : ∀ (ls : Array Slot) (H : Heap) (locs : List Loc) (s0 : KS) (t0 : Int32), lv_has ls 3 [] → gV E KK A s0 s H locs → w_P_compute_170 (eN E) i x1 x2 Φ t0 s0 → W p l e m_P_compute s m ([.ref (ea E 1 i), .int x1, .int x2] : List Value).toArray below meth c H locs 0 0 (MQ below (gQv E KK A Φ) ([.ref (ea E 1 i), .int x1, .int x2] : List Value).toArray s 0 0 A) (F0 m 170 ls [.int t0, .ref (ea E 1 i)]) := by
    intro  ls H locs s0 t0 hl hV hw
    unfold w_P_compute_170 at hw
    refine kc_P_P_push hx hb hml hown hts hV hK hX hAe (c_P_push l E s0 i hi t0 _ hw) hi hl.1 (Nat.le_of_ble_eq_true rfl) d_P_compute_170 (Nat.le_of_ble_eq_true rfl) (Nat.le_of_ble_eq_true rfl) (fun s1 H locs hw hV => ?_)
    refine lv_goto (tgt := 291) hx hb d_P_compute_173 rfl ?_
    exact kr_v hx hb hr hV hK hX hAe hw d_P_compute_291
  unfold w_P_compute at hw
  refine lv_iload_n hx hb d_P_compute_0 rfl (lv_at hl 1 rfl) ?_
  have hsw := hw
  by_cases hc0 : x1 = 0
  · have hw := hsw.1 hc0
    refine lv_tableIn (off := 119) (tgt := 120) hx hb d_P_compute_1 (by rw [hc0]; decide) (by rw [hc0]; decide) (by rw [hc0]; decide) rfl ?_
    refine lv_goto (tgt := 291) hx hb d_P_compute_120 rfl ?_
    exact kr_v hx hb hr hV hK hX hAe hw d_P_compute_291
  have hsw := hsw.2
  by_cases hc1 : x1 = 1
  · have hw := hsw.1 hc1
    refine lv_tableIn (off := 122) (tgt := 123) hx hb d_P_compute_1 (by rw [hc1]; decide) (by rw [hc1]; decide) (by rw [hc1]; decide) rfl ?_
    refine lv_aload_n hx hb d_P_compute_123 rfl (lv_at hl 0 rfl) ?_
    refine lv_iload_n hx hb d_P_compute_124 rfl (lv_at hl 2 rfl) ?_
    refine kc_P_P_push hx hb hml hown hts hV hK hX hAe (c_P_push l E s0 i hi x2 _ hw) hi hl.1 (Nat.le_of_ble_eq_true rfl) d_P_compute_125 (Nat.le_of_ble_eq_true rfl) (Nat.le_of_ble_eq_true rfl) (fun s1 H locs hw hV => ?_)
    refine lv_goto (tgt := 291) hx hb d_P_compute_128 rfl ?_
    exact kr_v hx hb hr hV hK hX hAe hw d_P_compute_291
  have hsw := hsw.2
  by_cases hc2 : x1 = 2
  · have hw := hsw.1 hc2
    refine lv_tableIn (off := 130) (tgt := 131) hx hb d_P_compute_1 (by rw [hc2]; decide) (by rw [hc2]; decide) (by rw [hc2]; decide) rfl ?_
    refine lv_aload_n hx hb d_P_compute_131 rfl (lv_at hl 0 rfl) ?_
    refine kc_P_P_pop hx hb hml hown hts hV hK hX hAe (c_P_pop l E s0 i hi _ hw) hi hl.1 (Nat.le_of_ble_eq_true rfl) d_P_compute_132 (Nat.le_of_ble_eq_true rfl) (Nat.le_of_ble_eq_true rfl) (fun r3 s2 H locs hw hV => ?_)
    refine lv_pop hx hb d_P_compute_135 rfl ?_
    refine lv_goto (tgt := 291) hx hb d_P_compute_136 rfl ?_
    exact kr_v hx hb hr hV hK hX hAe hw d_P_compute_291
  have hsw := hsw.2
  by_cases hc3 : x1 = 3
  · have hw := hsw.1 hc3
    refine lv_tableIn (off := 138) (tgt := 139) hx hb d_P_compute_1 (by rw [hc3]; decide) (by rw [hc3]; decide) (by rw [hc3]; decide) rfl ?_
    refine lv_aload_n hx hb d_P_compute_139 rfl (lv_at hl 0 rfl) ?_
    refine lv_aload_n hx hb d_P_compute_140 rfl (lv_at hl 0 rfl) ?_
    refine kc_P_P_top hx hb hml hown hts hV hK hX hAe (c_P_top l E s0 i hi _ hw) hi hl.1 (Nat.le_of_ble_eq_true rfl) d_P_compute_141 (Nat.le_of_ble_eq_true rfl) (Nat.le_of_ble_eq_true rfl) (fun r5 s4 H locs hw hV => ?_)
    refine kc_P_P_push hx hb hml hown hts hV hK hX hAe (c_P_push l E s4 i hi r5 _ hw) hi hl.1 (Nat.le_of_ble_eq_true rfl) d_P_compute_144 (Nat.le_of_ble_eq_true rfl) (Nat.le_of_ble_eq_true rfl) (fun s6 H locs hw hV => ?_)
    refine lv_goto (tgt := 291) hx hb d_P_compute_147 rfl ?_
    exact kr_v hx hb hr hV hK hX hAe hw d_P_compute_291
  have hsw := hsw.2
  by_cases hc4 : x1 = 4
  · have hw := hsw.1 hc4
    refine lv_tableIn (off := 149) (tgt := 150) hx hb d_P_compute_1 (by rw [hc4]; decide) (by rw [hc4]; decide) (by rw [hc4]; decide) rfl ?_
    refine lv_aload_n hx hb d_P_compute_150 rfl (lv_at hl 0 rfl) ?_
    refine kc_P_P_swap hx hb hml hown hts hV hK hX hAe (c_P_swap l E s0 i hi _ hw) hi hl.1 (Nat.le_of_ble_eq_true rfl) d_P_compute_151 (Nat.le_of_ble_eq_true rfl) (Nat.le_of_ble_eq_true rfl) (fun s7 H locs hw hV => ?_)
    refine lv_goto (tgt := 291) hx hb d_P_compute_154 rfl ?_
    exact kr_v hx hb hr hV hK hX hAe hw d_P_compute_291
  have hsw := hsw.2
  by_cases hc17 : x1 = 17
  · have hw := hsw.1 hc17
    refine lv_tableIn (off := 156) (tgt := 157) hx hb d_P_compute_1 (by rw [hc17]; decide) (by rw [hc17]; decide) (by rw [hc17]; decide) rfl ?_
    refine lv_aload_n hx hb d_P_compute_157 rfl (lv_at hl 0 rfl) ?_
    refine lv_aload_n hx hb d_P_compute_158 rfl (lv_at hl 0 rfl) ?_
    refine kc_P_P_pop hx hb hml hown hts hV hK hX hAe (c_P_pop l E s0 i hi _ hw) hi hl.1 (Nat.le_of_ble_eq_true rfl) d_P_compute_159 (Nat.le_of_ble_eq_true rfl) (Nat.le_of_ble_eq_true rfl) (fun r9 s8 H locs hw hV => ?_)
    refine lv_if_ne (tgt := 169) hx hb d_P_compute_162 rfl (fun hc => ?_) (fun hc => ?_)
    · have hw := hw.1 hc
      refine lv_iconst (v := 0) hx hb d_P_compute_169 (by decide) ?_
      exact J170 _ _ _ s8 (0 : Int32) (lv_sub hl [] rfl) hV hw
    · have hw := hw.2 hc
      refine lv_iconst (v := 1) hx hb d_P_compute_165 (by decide) ?_
      refine lv_goto (tgt := 170) hx hb d_P_compute_166 rfl ?_
      exact J170 _ _ _ s8 (1 : Int32) (lv_sub hl [] rfl) hV hw
  have hsw := hsw.2
  by_cases hc18 : x1 = 18
  · have hw := hsw.1 hc18
    refine lv_tableIn (off := 175) (tgt := 176) hx hb d_P_compute_1 (by rw [hc18]; decide) (by rw [hc18]; decide) (by rw [hc18]; decide) rfl ?_
    refine lv_aload_n hx hb d_P_compute_176 rfl (lv_at hl 0 rfl) ?_
    refine lv_aload_n hx hb d_P_compute_177 rfl (lv_at hl 0 rfl) ?_
    refine kg_P_P_memory hx hb hG hown hK hV hi d_P_compute_178 ?_
    refine lv_iload_n hx hb d_P_compute_181 rfl (lv_at hl 2 rfl) ?_
    refine kl_2 hx hb hK hV hi hw.1 d_P_compute_182 ?_
    have hw := hw.2
    refine kc_P_P_push hx hb hml hown hts hV hK hX hAe (c_P_push l E s0 i hi (s0 2 i x2.toNatClampNeg) _ hw) hi hl.1 (Nat.le_of_ble_eq_true rfl) d_P_compute_183 (Nat.le_of_ble_eq_true rfl) (Nat.le_of_ble_eq_true rfl) (fun s10 H locs hw hV => ?_)
    refine lv_goto (tgt := 291) hx hb d_P_compute_186 rfl ?_
    exact kr_v hx hb hr hV hK hX hAe hw d_P_compute_291
  have hsw := hsw.2
  by_cases hc19 : x1 = 19
  · have hw := hsw.1 hc19
    refine lv_tableIn (off := 188) (tgt := 189) hx hb d_P_compute_1 (by rw [hc19]; decide) (by rw [hc19]; decide) (by rw [hc19]; decide) rfl ?_
    refine lv_aload_n hx hb d_P_compute_189 rfl (lv_at hl 0 rfl) ?_
    refine kg_P_P_memory hx hb hG hown hK hV hi d_P_compute_190 ?_
    refine lv_iload_n hx hb d_P_compute_193 rfl (lv_at hl 2 rfl) ?_
    refine lv_aload_n hx hb d_P_compute_194 rfl (lv_at hl 0 rfl) ?_
    refine kc_P_P_pop hx hb hml hown hts hV hK hX hAe (c_P_pop l E s0 i hi _ hw) hi hl.1 (Nat.le_of_ble_eq_true rfl) d_P_compute_195 (Nat.le_of_ble_eq_true rfl) (Nat.le_of_ble_eq_true rfl) (fun r12 s11 H locs hw hV => ?_)
    refine ks_2 hx hb hK hV hi hw.1 d_P_compute_198 (fun s13 H locs es13 hV => ?_)
    have hw := hw.2 s13 es13
    refine lv_goto (tgt := 291) hx hb d_P_compute_199 rfl ?_
    exact kr_v hx hb hr hV hK hX hAe hw d_P_compute_291
  have hsw := hsw.2
  by_cases hc20 : x1 = 20
  · have hw := hsw.1 hc20
    refine lv_tableIn (off := 201) (tgt := 202) hx hb d_P_compute_1 (by rw [hc20]; decide) (by rw [hc20]; decide) (by rw [hc20]; decide) rfl ?_
    refine lv_aload_n hx hb d_P_compute_202 rfl (lv_at hl 0 rfl) ?_
    refine lv_aload_n hx hb d_P_compute_203 rfl (lv_at hl 0 rfl) ?_
    refine kg_P_P_memory hx hb hG hown hK hV hi d_P_compute_204 ?_
    refine lv_aload_n hx hb d_P_compute_207 rfl (lv_at hl 0 rfl) ?_
    refine kc_P_P_pop hx hb hml hown hts hV hK hX hAe (c_P_pop l E s0 i hi _ hw) hi hl.1 (Nat.le_of_ble_eq_true rfl) d_P_compute_208 (Nat.le_of_ble_eq_true rfl) (Nat.le_of_ble_eq_true rfl) (fun r15 s14 H locs hw hV => ?_)
    refine kl_2 hx hb hK hV hi hw.1 d_P_compute_211 ?_
    have hw := hw.2
    refine kc_P_P_push hx hb hml hown hts hV hK hX hAe (c_P_push l E s14 i hi (s14 2 i r15.toNatClampNeg) _ hw) hi hl.1 (Nat.le_of_ble_eq_true rfl) d_P_compute_212 (Nat.le_of_ble_eq_true rfl) (Nat.le_of_ble_eq_true rfl) (fun s16 H locs hw hV => ?_)
    refine lv_goto (tgt := 291) hx hb d_P_compute_215 rfl ?_
    exact kr_v hx hb hr hV hK hX hAe hw d_P_compute_291
  have hsw := hsw.2
  by_cases hc21 : x1 = 21
  · have hw := hsw.1 hc21
    refine lv_tableIn (off := 217) (tgt := 218) hx hb d_P_compute_1 (by rw [hc21]; decide) (by rw [hc21]; decide) (by rw [hc21]; decide) rfl ?_
    refine lv_aload_n hx hb d_P_compute_218 rfl (lv_at hl 0 rfl) ?_
    refine lv_aload_n hx hb d_P_compute_219 rfl (lv_at hl 0 rfl) ?_
    refine kc_P_P_pop hx hb hml hown hts hV hK hX hAe (c_P_pop l E s0 i hi _ hw) hi hl.1 (Nat.le_of_ble_eq_true rfl) d_P_compute_220 (Nat.le_of_ble_eq_true rfl) (Nat.le_of_ble_eq_true rfl) (fun r18 s17 H locs hw hV => ?_)
    refine kc_P_P_storeAt hx hb hml hown hts hV hK hX hAe (c_P_storeAt l E s17 i hi r18 _ hw) hi hl.1 (Nat.le_of_ble_eq_true rfl) d_P_compute_223 (Nat.le_of_ble_eq_true rfl) (Nat.le_of_ble_eq_true rfl) (fun s19 H locs hw hV => ?_)
    refine lv_goto (tgt := 291) hx hb d_P_compute_226 rfl ?_
    exact kr_v hx hb hr hV hK hX hAe hw d_P_compute_291
  have hsw := hsw.2
  by_cases hc22 : x1 = 22
  · have hw := hsw.1 hc22
    refine lv_tableIn (off := 228) (tgt := 229) hx hb d_P_compute_1 (by rw [hc22]; decide) (by rw [hc22]; decide) (by rw [hc22]; decide) rfl ?_
    refine lv_aload_n hx hb d_P_compute_229 rfl (lv_at hl 0 rfl) ?_
    refine lv_iload_n hx hb d_P_compute_230 rfl (lv_at hl 2 rfl) ?_
    refine kp_P_P_place hx hb hG hown hK hV hi d_P_compute_231 (fun s20 H locs es20 hV => ?_)
    have hw := hw s20 es20
    refine lv_goto (tgt := 291) hx hb d_P_compute_234 rfl ?_
    exact kr_v hx hb hr hV hK hX hAe hw d_P_compute_291
  have hsw := hsw.2
  by_cases hc23 : x1 = 23
  · have hw := hsw.1 hc23
    refine lv_tableIn (off := 236) (tgt := 237) hx hb d_P_compute_1 (by rw [hc23]; decide) (by rw [hc23]; decide) (by rw [hc23]; decide) rfl ?_
    refine lv_aload_n hx hb d_P_compute_237 rfl (lv_at hl 0 rfl) ?_
    refine lv_aload_n hx hb d_P_compute_238 rfl (lv_at hl 0 rfl) ?_
    refine kc_P_P_pop hx hb hml hown hts hV hK hX hAe (c_P_pop l E s0 i hi _ hw) hi hl.1 (Nat.le_of_ble_eq_true rfl) d_P_compute_239 (Nat.le_of_ble_eq_true rfl) (Nat.le_of_ble_eq_true rfl) (fun r22 s21 H locs hw hV => ?_)
    refine lv_if_ne (tgt := 249) hx hb d_P_compute_242 rfl (fun hc => ?_) (fun hc => ?_)
    · have hw := hw.1 hc
      refine lv_aload_n hx hb d_P_compute_249 rfl (lv_at hl 0 rfl) ?_
      refine kg_P_P_place hx hb hG hown hK hV hi d_P_compute_250 ?_
      exact J253 _ _ _ s21 (s21 1 i 5) (lv_sub hl [] rfl) hV hw
    · have hw := hw.2 hc
      refine lv_iload_n hx hb d_P_compute_245 rfl (lv_at hl 2 rfl) ?_
      refine lv_goto (tgt := 253) hx hb d_P_compute_246 rfl ?_
      exact J253 _ _ _ s21 x2 (lv_sub hl [] rfl) hV hw
  have hsw := hsw.2
  by_cases hc24 : x1 = 24
  · have hw := hsw.1 hc24
    refine lv_tableIn (off := 258) (tgt := 259) hx hb d_P_compute_1 (by rw [hc24]; decide) (by rw [hc24]; decide) (by rw [hc24]; decide) rfl ?_
    refine lv_aload_n hx hb d_P_compute_259 rfl (lv_at hl 0 rfl) ?_
    refine lv_aload_n hx hb d_P_compute_260 rfl (lv_at hl 0 rfl) ?_
    refine kg_P_P_place hx hb hG hown hK hV hi d_P_compute_261 ?_
    refine kc_P_P_push hx hb hml hown hts hV hK hX hAe (c_P_push l E s0 i hi (s0 1 i 5) _ hw) hi hl.1 (Nat.le_of_ble_eq_true rfl) d_P_compute_264 (Nat.le_of_ble_eq_true rfl) (Nat.le_of_ble_eq_true rfl) (fun s23 H locs hw hV => ?_)
    refine lv_aload_n hx hb d_P_compute_267 rfl (lv_at hl 0 rfl) ?_
    refine lv_iload_n hx hb d_P_compute_268 rfl (lv_at hl 2 rfl) ?_
    refine kp_P_P_place hx hb hG hown hK hV hi d_P_compute_269 (fun s24 H locs es24 hV => ?_)
    have hw := hw s24 es24
    refine lv_goto (tgt := 291) hx hb d_P_compute_272 rfl ?_
    exact kr_v hx hb hr hV hK hX hAe hw d_P_compute_291
  have hsw := hsw.2
  by_cases hc25 : x1 = 25
  · have hw := hsw.1 hc25
    refine lv_tableIn (off := 274) (tgt := 275) hx hb d_P_compute_1 (by rw [hc25]; decide) (by rw [hc25]; decide) (by rw [hc25]; decide) rfl ?_
    refine lv_aload_n hx hb d_P_compute_275 rfl (lv_at hl 0 rfl) ?_
    refine lv_aload_n hx hb d_P_compute_276 rfl (lv_at hl 0 rfl) ?_
    refine kc_P_P_pop hx hb hml hown hts hV hK hX hAe (c_P_pop l E s0 i hi _ hw) hi hl.1 (Nat.le_of_ble_eq_true rfl) d_P_compute_277 (Nat.le_of_ble_eq_true rfl) (Nat.le_of_ble_eq_true rfl) (fun r26 s25 H locs hw hV => ?_)
    refine kp_P_P_place hx hb hG hown hK hV hi d_P_compute_280 (fun s27 H locs es27 hV => ?_)
    have hw := hw s27 es27
    refine lv_goto (tgt := 291) hx hb d_P_compute_283 rfl ?_
    exact kr_v hx hb hr hV hK hX hAe hw d_P_compute_291
  have hsw := hsw.2
  have hw := hsw ⟨hc0, hc1, hc2, hc3, hc4, hc17, hc18, hc19, hc20, hc21, hc22, hc23, hc24, hc25⟩
  refine kr_dflt (g2 := F0 m 286 ls []) ?_ (fun kd => ?_)
  · refine lv_aload_n hx hb d_P_compute_286 rfl (lv_at hl 0 rfl) ?_
    refine lv_iload_n hx hb d_P_compute_287 rfl (lv_at hl 1 rfl) ?_
    refine kc_P_P_combine hx hb hml hown hts hV hK hX hAe (c_P_combine l E s0 i hi x1 _ hw) hi hl.1 (Nat.le_of_ble_eq_true rfl) d_P_compute_288 (Nat.le_of_ble_eq_true rfl) (Nat.le_of_ble_eq_true rfl) (fun s28 H locs hw hV => ?_)
    exact kr_v hx hb hr hV hK hX hAe hw d_P_compute_291
  by_cases hc5 : x1 = 5
  · exact lv_tableIn (off := 285) (tgt := 286) hx hb d_P_compute_1 (by rw [hc5]; decide) (by rw [hc5]; decide) (by rw [hc5]; decide) rfl kd
  by_cases hc6 : x1 = 6
  · exact lv_tableIn (off := 285) (tgt := 286) hx hb d_P_compute_1 (by rw [hc6]; decide) (by rw [hc6]; decide) (by rw [hc6]; decide) rfl kd
  by_cases hc7 : x1 = 7
  · exact lv_tableIn (off := 285) (tgt := 286) hx hb d_P_compute_1 (by rw [hc7]; decide) (by rw [hc7]; decide) (by rw [hc7]; decide) rfl kd
  by_cases hc8 : x1 = 8
  · exact lv_tableIn (off := 285) (tgt := 286) hx hb d_P_compute_1 (by rw [hc8]; decide) (by rw [hc8]; decide) (by rw [hc8]; decide) rfl kd
  by_cases hc9 : x1 = 9
  · exact lv_tableIn (off := 285) (tgt := 286) hx hb d_P_compute_1 (by rw [hc9]; decide) (by rw [hc9]; decide) (by rw [hc9]; decide) rfl kd
  by_cases hc10 : x1 = 10
  · exact lv_tableIn (off := 285) (tgt := 286) hx hb d_P_compute_1 (by rw [hc10]; decide) (by rw [hc10]; decide) (by rw [hc10]; decide) rfl kd
  by_cases hc11 : x1 = 11
  · exact lv_tableIn (off := 285) (tgt := 286) hx hb d_P_compute_1 (by rw [hc11]; decide) (by rw [hc11]; decide) (by rw [hc11]; decide) rfl kd
  by_cases hc12 : x1 = 12
  · exact lv_tableIn (off := 285) (tgt := 286) hx hb d_P_compute_1 (by rw [hc12]; decide) (by rw [hc12]; decide) (by rw [hc12]; decide) rfl kd
  by_cases hc13 : x1 = 13
  · exact lv_tableIn (off := 285) (tgt := 286) hx hb d_P_compute_1 (by rw [hc13]; decide) (by rw [hc13]; decide) (by rw [hc13]; decide) rfl kd
  by_cases hc14 : x1 = 14
  · exact lv_tableIn (off := 285) (tgt := 286) hx hb d_P_compute_1 (by rw [hc14]; decide) (by rw [hc14]; decide) (by rw [hc14]; decide) rfl kd
  by_cases hc15 : x1 = 15
  · exact lv_tableIn (off := 285) (tgt := 286) hx hb d_P_compute_1 (by rw [hc15]; decide) (by rw [hc15]; decide) (by rw [hc15]; decide) rfl kd
  by_cases hc16 : x1 = 16
  · exact lv_tableIn (off := 285) (tgt := 286) hx hb d_P_compute_1 (by rw [hc16]; decide) (by rw [hc16]; decide) (by rw [hc16]; decide) rfl kd
  have hn0 : ¬ x1.toInt = 0 := lv_neT hc0 (by decide)
  have hn1 : ¬ x1.toInt = 1 := lv_neT hc1 (by decide)
  have hn2 : ¬ x1.toInt = 2 := lv_neT hc2 (by decide)
  have hn3 : ¬ x1.toInt = 3 := lv_neT hc3 (by decide)
  have hn4 : ¬ x1.toInt = 4 := lv_neT hc4 (by decide)
  have hn5 : ¬ x1.toInt = 5 := lv_neT hc5 (by decide)
  have hn6 : ¬ x1.toInt = 6 := lv_neT hc6 (by decide)
  have hn7 : ¬ x1.toInt = 7 := lv_neT hc7 (by decide)
  have hn8 : ¬ x1.toInt = 8 := lv_neT hc8 (by decide)
  have hn9 : ¬ x1.toInt = 9 := lv_neT hc9 (by decide)
  have hn10 : ¬ x1.toInt = 10 := lv_neT hc10 (by decide)
  have hn11 : ¬ x1.toInt = 11 := lv_neT hc11 (by decide)
  have hn12 : ¬ x1.toInt = 12 := lv_neT hc12 (by decide)
  have hn13 : ¬ x1.toInt = 13 := lv_neT hc13 (by decide)
  have hn14 : ¬ x1.toInt = 14 := lv_neT hc14 (by decide)
  have hn15 : ¬ x1.toInt = 15 := lv_neT hc15 (by decide)
  have hn16 : ¬ x1.toInt = 16 := lv_neT hc16 (by decide)
  have hn17 : ¬ x1.toInt = 17 := lv_neT hc17 (by decide)
  have hn18 : ¬ x1.toInt = 18 := lv_neT hc18 (by decide)
  have hn19 : ¬ x1.toInt = 19 := lv_neT hc19 (by decide)
  have hn20 : ¬ x1.toInt = 20 := lv_neT hc20 (by decide)
  have hn21 : ¬ x1.toInt = 21 := lv_neT hc21 (by decide)
  have hn22 : ¬ x1.toInt = 22 := lv_neT hc22 (by decide)
  have hn23 : ¬ x1.toInt = 23 := lv_neT hc23 (by decide)
  have hn24 : ¬ x1.toInt = 24 := lv_neT hc24 (by decide)
  have hn25 : ¬ x1.toInt = 25 := lv_neT hc25 (by decide)
  exact lv_tableOut (tgt := 286) hx hb d_P_compute_1 (by omega) rfl kd
end
section
theorem d_K_makeReady_0 : decode b_K_makeReady 0 = .ok (.aload_n 1, 1) := by decide +kernel
theorem d_K_makeReady_1 : decode b_K_makeReady 1 = .ok (.iconst 1, 1) := by decide +kernel
theorem d_K_makeReady_2 : decode b_K_makeReady 2 = .ok (.putfield 127, 3) := by decide +kernel
theorem d_K_makeReady_5 : decode b_K_makeReady 5 = .ok (.aload_n 1, 1) := by decide +kernel
theorem d_K_makeReady_6 : decode b_K_makeReady 6 = .ok (.iconst (-1), 1) := by decide +kernel
theorem d_K_makeReady_7 : decode b_K_makeReady 7 = .ok (.putfield 232, 3) := by decide +kernel
theorem d_K_makeReady_10 : decode b_K_makeReady 10 = .ok (.aload_n 0, 1) := by decide +kernel
theorem d_K_makeReady_11 : decode b_K_makeReady 11 = .ok (.getfield 25, 3) := by decide +kernel
theorem d_K_makeReady_14 : decode b_K_makeReady 14 = .ok (.aload_n 0, 1) := by decide +kernel
theorem d_K_makeReady_15 : decode b_K_makeReady 15 = .ok (.getfield 28, 3) := by decide +kernel
theorem d_K_makeReady_18 : decode b_K_makeReady 18 = .ok (.aload_n 1, 1) := by decide +kernel
theorem d_K_makeReady_19 : decode b_K_makeReady 19 = .ok (.getfield 256, 3) := by decide +kernel
theorem d_K_makeReady_22 : decode b_K_makeReady 22 = .ok (.iastore, 1) := by decide +kernel
theorem d_K_makeReady_23 : decode b_K_makeReady 23 = .ok (.aload_n 0, 1) := by decide +kernel
theorem d_K_makeReady_24 : decode b_K_makeReady 24 = .ok (.dup, 1) := by decide +kernel
theorem d_K_makeReady_25 : decode b_K_makeReady 25 = .ok (.getfield 28, 3) := by decide +kernel
theorem d_K_makeReady_28 : decode b_K_makeReady 28 = .ok (.iconst 1, 1) := by decide +kernel
theorem d_K_makeReady_29 : decode b_K_makeReady 29 = .ok (.iadd, 1) := by decide +kernel
theorem d_K_makeReady_30 : decode b_K_makeReady 30 = .ok (.putfield 28, 3) := by decide +kernel
theorem d_K_makeReady_33 : decode b_K_makeReady 33 = .ok (.return_, 1) := by decide +kernel
def w_K_makeReady (cp : Nat) (p1 : Nat) (s0 : KS) (Φ : KS → Prop) : Prop := ∀ s1 : KS, s1 = w3 s0 1 p1 7 (1 : Int32) → ∀ s2 : KS, s2 = w3 s1 1 p1 10 (-1 : Int32) → vp_in (s2 0 0 5) 16 ∧ ∀ s3 : KS, s3 = w3 s2 8 0 (s2 0 0 5).toNatClampNeg (s2 1 p1 0) → ∀ s4 : KS, s4 = w3 s3 0 0 5 ((s3 0 0 5) + (1 : Int32)) → Φ s4
set_option maxHeartbeats 4000000 in
set_option maxRecDepth 100000 in
theorem c_K_makeReady (l : Launch) (E : gE) (s0 : KS) (p1 : Nat) (hp1 : p1 < 16) (Φ : KS → Prop) (hw : w_K_makeReady (eN E) p1 s0 Φ) : gMv l y_K_makeReady v_K_makeReady m_K_makeReady E KK [.ref (ea E 0 0), .ref (ea E 1 p1)] s0 Φ := by
  intro sz
  refine Met.ofW (cc := b_K_makeReady) (maxL := 2) (ret := none) (by decide) rfl ?_
  intro p e s m args below meth c s₁ B hml hv
  obtain ⟨rfl, hsz, hP, hK, hD, hX⟩ := hv
  have hx := B.exec
  have hb := B.bytes
  have hr := B.returns
  have hts := atoms_spec (ws := v_K_makeReady) B.pre
  have hG : ∀ w ∈ gG, w.before _ s = true := fun w h => hts w (List.mem_cons_of_mem _ h)
  have hown : s.vm.findClass R_K = some m.cls := findClass_of_methodNamed B.named
  have hlocks := B.notSynchronized
  subst hsz
  obtain ⟨A, hAe⟩ : ∃ A, A = gA E KK s.heap.size := ⟨_, rfl⟩
  rw [← hAe] at hD hX ⊢
  have hV : gV E KK A s0 s s.heap [] := ⟨hP, hD, va_S.rf⟩
  have hl := lv_entry ([.ref (ea E 0 0), .ref (ea E 1 p1)] : List Value) (n := 2) (Nat.le_of_ble_eq_true rfl)
  rw [lg_entry_eq]
  generalize (lg_sl ([.ref (ea E 0 0), .ref (ea E 1 p1)] : List Value) ++ List.replicate (2 - (lg_sl ([.ref (ea E 0 0), .ref (ea E 1 p1)] : List Value)).length) Slot.unset).toArray = ls at hl ⊢
  have hl : lv_has ls 2 [(0, .ref (ea E 0 0)), (1, .ref (ea E 1 p1))] := hl
  unfold w_K_makeReady at hw
  refine lv_aload_n hx hb d_K_makeReady_0 rfl (lv_at hl 1 rfl) ?_
  refine lv_iconst (v := 1) hx hb d_K_makeReady_1 (by decide) ?_
  refine kp_K_P_state hx hb hG hown hK hV hp1 d_K_makeReady_2 (fun s1 H locs es1 hV => ?_)
  have hw := hw s1 es1
  refine lv_aload_n hx hb d_K_makeReady_5 rfl (lv_at hl 1 rfl) ?_
  refine lv_iconst (v := -1) hx hb d_K_makeReady_6 (by decide) ?_
  refine kp_K_P_waitsOn hx hb hG hown hK hV hp1 d_K_makeReady_7 (fun s2 H locs es2 hV => ?_)
  have hw := hw s2 es2
  refine lv_aload_n hx hb d_K_makeReady_10 rfl (lv_at hl 0 rfl) ?_
  refine kg_K_K_ready hx hb hG hown hK hV d_K_makeReady_11 ?_
  refine lv_aload_n hx hb d_K_makeReady_14 rfl (lv_at hl 0 rfl) ?_
  refine kg_K_K_readyCount hx hb hG hown hK hV d_K_makeReady_15 ?_
  refine lv_aload_n hx hb d_K_makeReady_18 rfl (lv_at hl 1 rfl) ?_
  refine kg_K_P_number hx hb hG hown hK hV hp1 d_K_makeReady_19 ?_
  refine ks_8 hx hb hK hV hw.1 d_K_makeReady_22 (fun s3 H locs es3 hV => ?_)
  have hw := hw.2 s3 es3
  refine lv_aload_n hx hb d_K_makeReady_23 rfl (lv_at hl 0 rfl) ?_
  refine lv_dup hx hb d_K_makeReady_24 rfl ?_
  refine kg_K_K_readyCount hx hb hG hown hK hV d_K_makeReady_25 ?_
  refine lv_iconst (v := 1) hx hb d_K_makeReady_28 (by decide) ?_
  refine lv_iadd hx hb d_K_makeReady_29 ?_
  refine kp_K_K_readyCount hx hb hG hown hK hV d_K_makeReady_30 (fun s4 H locs es4 hV => ?_)
  have hw := hw s4 es4
  exact kr_v hx hb hr hV hK hX hAe hw d_K_makeReady_33
theorem d_K_goesOn_0 : decode b_K_goesOn 0 = .ok (.aload_n 0, 1) := by decide +kernel
theorem d_K_goesOn_1 : decode b_K_goesOn 1 = .ok (.getfield 28, 3) := by decide +kernel
theorem d_K_goesOn_4 : decode b_K_goesOn 4 = .ok (.ifCond .le 5, 3) := by decide +kernel
theorem d_K_goesOn_7 : decode b_K_goesOn 7 = .ok (.iconst 1, 1) := by decide +kernel
theorem d_K_goesOn_8 : decode b_K_goesOn 8 = .ok (.ireturn, 1) := by decide +kernel
theorem d_K_goesOn_9 : decode b_K_goesOn 9 = .ok (.iconst 0, 1) := by decide +kernel
theorem d_K_goesOn_10 : decode b_K_goesOn 10 = .ok (.istore_n 1, 1) := by decide +kernel
theorem d_K_goesOn_11 : decode b_K_goesOn 11 = .ok (.iload_n 1, 1) := by decide +kernel
theorem d_K_goesOn_12 : decode b_K_goesOn 12 = .ok (.bipush 16, 2) := by decide +kernel
theorem d_K_goesOn_14 : decode b_K_goesOn 14 = .ok (.if_icmp .ge 24, 3) := by decide +kernel
theorem d_K_goesOn_17 : decode b_K_goesOn 17 = .ok (.aload_n 0, 1) := by decide +kernel
theorem d_K_goesOn_18 : decode b_K_goesOn 18 = .ok (.getfield 11, 3) := by decide +kernel
theorem d_K_goesOn_21 : decode b_K_goesOn 21 = .ok (.iload_n 1, 1) := by decide +kernel
theorem d_K_goesOn_22 : decode b_K_goesOn 22 = .ok (.aaload, 1) := by decide +kernel
theorem d_K_goesOn_23 : decode b_K_goesOn 23 = .ok (.getfield 127, 3) := by decide +kernel
theorem d_K_goesOn_26 : decode b_K_goesOn 26 = .ok (.iconst 5, 1) := by decide +kernel
theorem d_K_goesOn_27 : decode b_K_goesOn 27 = .ok (.if_icmp .ne 5, 3) := by decide +kernel
theorem d_K_goesOn_30 : decode b_K_goesOn 30 = .ok (.iconst 1, 1) := by decide +kernel
theorem d_K_goesOn_31 : decode b_K_goesOn 31 = .ok (.ireturn, 1) := by decide +kernel
theorem d_K_goesOn_32 : decode b_K_goesOn 32 = .ok (.iinc 1 1, 3) := by decide +kernel
theorem d_K_goesOn_35 : decode b_K_goesOn 35 = .ok (.goto (-24), 3) := by decide +kernel
theorem d_K_goesOn_38 : decode b_K_goesOn 38 = .ok (.iconst 0, 1) := by decide +kernel
theorem d_K_goesOn_39 : decode b_K_goesOn 39 = .ok (.ireturn, 1) := by decide +kernel
def w_K_goesOn_11 (cp : Nat) (Φ : Int32 → KS → Prop) : Nat → Int32 → KS → Prop
  | 0, _, _ => False
  | n + 1, v1, s0 => (((16 : Int32) ≤ v1 → Φ (0 : Int32) s0) ∧ (¬ (16 : Int32) ≤ v1 → vp_in v1 16 ∧ ((¬ (s0 1 v1.toNatClampNeg 7) = (5 : Int32) → ∀ y2 : Int32, y2 = v1 + (1 : Int32) → w_K_goesOn_11 cp Φ n y2 s0) ∧ ((s0 1 v1.toNatClampNeg 7) = (5 : Int32) → Φ (1 : Int32) s0))))
def w_K_goesOn (cp : Nat) (s0 : KS) (Φ : Int32 → KS → Prop) : Prop := (((s0 0 0 5) ≤ 0 → ∃ n : Nat, w_K_goesOn_11 cp Φ n (0 : Int32) s0) ∧ (¬ (s0 0 0 5) ≤ 0 → Φ (1 : Int32) s0))
set_option maxHeartbeats 4000000 in
set_option maxRecDepth 100000 in
theorem c_K_goesOn (l : Launch) (E : gE) (s0 : KS)  (Φ : Int32 → KS → Prop) (hw : w_K_goesOn (eN E) s0 Φ) : gMi l y_K_goesOn v_K_goesOn m_K_goesOn E KK [.ref (ea E 0 0)] s0 Φ := by
  intro sz
  refine Met.ofW (cc := b_K_goesOn) (maxL := 2) (ret := (some .boolean)) (by decide) rfl ?_
  intro p e s m args below meth c s₁ B hml hv
  obtain ⟨rfl, hsz, hP, hK, hD, hX⟩ := hv
  have hx := B.exec
  have hb := B.bytes
  have hr := B.returns
  have hts := atoms_spec (ws := v_K_goesOn) B.pre
  have hG : ∀ w ∈ gG, w.before _ s = true := fun w h => hts w (List.mem_cons_of_mem _ h)
  have hown : s.vm.findClass R_K = some m.cls := findClass_of_methodNamed B.named
  have hlocks := B.notSynchronized
  subst hsz
  obtain ⟨A, hAe⟩ : ∃ A, A = gA E KK s.heap.size := ⟨_, rfl⟩
  rw [← hAe] at hD hX ⊢
  have hV : gV E KK A s0 s s.heap [] := ⟨hP, hD, va_S.rf⟩
  have hl := lv_entry ([.ref (ea E 0 0)] : List Value) (n := 2) (Nat.le_of_ble_eq_true rfl)
  rw [lg_entry_eq]
  generalize (lg_sl ([.ref (ea E 0 0)] : List Value) ++ List.replicate (2 - (lg_sl ([.ref (ea E 0 0)] : List Value)).length) Slot.unset).toArray = ls at hl ⊢
  have hl : lv_has ls 2 [(0, .ref (ea E 0 0))] := hl
  have L11 : ∀ (n : Nat), ∀ (ls : Array Slot) (H : Heap) (locs : List Loc) (s0 : KS) (v1 : Int32), lv_has ls 2 [(0, .ref (ea E 0 0)), (1, .int v1)] → gV E KK A s0 s H locs → w_K_goesOn_11 (eN E) Φ n v1 s0 → W p l e m_K_goesOn s m ([.ref (ea E 0 0)] : List Value).toArray below meth c H locs 0 0 (MQ below (gQi E KK A Φ) ([.ref (ea E 0 0)] : List Value).toArray s 0 0 A) (F0 m 11 ls []) := by
    intro n
    induction n with
    | zero =>
      intro ls H locs s0 v1 hl hV hw
      exact False.elim hw
    | succ n ih =>
      intro ls H locs s0 v1 hl hV hw
      unfold w_K_goesOn_11 at hw
      refine lv_iload_n hx hb d_K_goesOn_11 rfl (lv_at hl 1 rfl) ?_
      refine lv_bipush (v := 16) hx hb d_K_goesOn_12 (by decide) ?_
      refine lv_icmp_ge (tgt := 38) hx hb d_K_goesOn_14 rfl (fun hc => ?_) (fun hc => ?_)
      · have hw := hw.1 hc
        refine lv_iconst (v := 0) hx hb d_K_goesOn_38 (by decide) ?_
        exact kr_z hx hb hr hV hK hX hAe (by decide) hw d_K_goesOn_39
      · have hw := hw.2 hc
        refine lv_aload_n hx hb d_K_goesOn_17 rfl (lv_at hl 0 rfl) ?_
        refine kg_K_K_procs hx hb hG hown hK hV d_K_goesOn_18 ?_
        refine lv_iload_n hx hb d_K_goesOn_21 rfl (lv_at hl 1 rfl) ?_
        have hj1 := vp_lt hw.1
        refine kl_9 hx hb hK hV hw.1 d_K_goesOn_22 ?_
        have hw := hw.2
        refine kg_K_P_state hx hb hG hown hK hV hj1 d_K_goesOn_23 ?_
        refine lv_iconst (v := 5) hx hb d_K_goesOn_26 (by decide) ?_
        refine lv_icmp_ne (tgt := 32) hx hb d_K_goesOn_27 rfl (fun hc => ?_) (fun hc => ?_)
        · have hw := hw.1 hc
          obtain ⟨y2, ey2⟩ : ∃ z : Int32, z = v1 + (1 : Int32) := ⟨_, rfl⟩
          have hw := hw y2 ey2
          refine lv_iinc (k := 1) (v := y2) (lv' := [(1, .int y2), (0, .ref (ea E 0 0))]) hx hb d_K_goesOn_32 hl rfl (by rw [ey2]; rfl) (by decide) rfl (fun ls hl => ?_)
          refine lv_goto (tgt := 11) hx hb d_K_goesOn_35 rfl ?_
          exact ih _ _ _ s0 y2 (lv_sub hl [1, 0] rfl) hV hw
        · have hw := hw.2 hc
          refine lv_iconst (v := 1) hx hb d_K_goesOn_30 (by decide) ?_
          exact kr_z hx hb hr hV hK hX hAe (by decide) hw d_K_goesOn_31
  unfold w_K_goesOn at hw
  refine lv_aload_n hx hb d_K_goesOn_0 rfl (lv_at hl 0 rfl) ?_
  refine kg_K_K_readyCount hx hb hG hown hK hV d_K_goesOn_1 ?_
  refine lv_if_le (tgt := 9) hx hb d_K_goesOn_4 rfl (fun hc => ?_) (fun hc => ?_)
  · have hw := hw.1 hc
    refine lv_iconst (v := 0) hx hb d_K_goesOn_9 (by decide) ?_
    refine lv_istore_n (lv' := [(1, .int (0 : Int32)), (0, .ref (ea E 0 0))]) hx hb d_K_goesOn_10 rfl hl (by decide) rfl (fun ls hl => ?_)
    obtain ⟨n, hw⟩ := hw
    exact L11 n _ _ _ s0 (0 : Int32) (lv_sub hl [1, 0] rfl) hV hw
  · have hw := hw.2 hc
    refine lv_iconst (v := 1) hx hb d_K_goesOn_7 (by decide) ?_
    exact kr_z hx hb hr hV hK hX hAe (by decide) hw d_K_goesOn_8
theorem d_K_leaveQueue_0 : decode b_K_leaveQueue 0 = .ok (.iconst 0, 1) := by decide +kernel
theorem d_K_leaveQueue_1 : decode b_K_leaveQueue 1 = .ok (.istore_n 2, 1) := by decide +kernel
theorem d_K_leaveQueue_2 : decode b_K_leaveQueue 2 = .ok (.iconst 0, 1) := by decide +kernel
theorem d_K_leaveQueue_3 : decode b_K_leaveQueue 3 = .ok (.istore_n 3, 1) := by decide +kernel
theorem d_K_leaveQueue_4 : decode b_K_leaveQueue 4 = .ok (.iload_n 3, 1) := by decide +kernel
theorem d_K_leaveQueue_5 : decode b_K_leaveQueue 5 = .ok (.aload_n 0, 1) := by decide +kernel
theorem d_K_leaveQueue_6 : decode b_K_leaveQueue 6 = .ok (.getfield 28, 3) := by decide +kernel
theorem d_K_leaveQueue_9 : decode b_K_leaveQueue 9 = .ok (.if_icmp .ge 49, 3) := by decide +kernel
theorem d_K_leaveQueue_12 : decode b_K_leaveQueue 12 = .ok (.aload_n 0, 1) := by decide +kernel
theorem d_K_leaveQueue_13 : decode b_K_leaveQueue 13 = .ok (.getfield 25, 3) := by decide +kernel
theorem d_K_leaveQueue_16 : decode b_K_leaveQueue 16 = .ok (.iload_n 3, 1) := by decide +kernel
theorem d_K_leaveQueue_17 : decode b_K_leaveQueue 17 = .ok (.iaload, 1) := by decide +kernel
theorem d_K_leaveQueue_18 : decode b_K_leaveQueue 18 = .ok (.aload_n 1, 1) := by decide +kernel
theorem d_K_leaveQueue_19 : decode b_K_leaveQueue 19 = .ok (.getfield 256, 3) := by decide +kernel
theorem d_K_leaveQueue_22 : decode b_K_leaveQueue 22 = .ok (.if_icmp .eq 21, 3) := by decide +kernel
theorem d_K_leaveQueue_25 : decode b_K_leaveQueue 25 = .ok (.aload_n 0, 1) := by decide +kernel
theorem d_K_leaveQueue_26 : decode b_K_leaveQueue 26 = .ok (.getfield 25, 3) := by decide +kernel
theorem d_K_leaveQueue_29 : decode b_K_leaveQueue 29 = .ok (.iload_n 2, 1) := by decide +kernel
theorem d_K_leaveQueue_30 : decode b_K_leaveQueue 30 = .ok (.aload_n 0, 1) := by decide +kernel
theorem d_K_leaveQueue_31 : decode b_K_leaveQueue 31 = .ok (.getfield 25, 3) := by decide +kernel
theorem d_K_leaveQueue_34 : decode b_K_leaveQueue 34 = .ok (.iload_n 3, 1) := by decide +kernel
theorem d_K_leaveQueue_35 : decode b_K_leaveQueue 35 = .ok (.iaload, 1) := by decide +kernel
theorem d_K_leaveQueue_36 : decode b_K_leaveQueue 36 = .ok (.iastore, 1) := by decide +kernel
theorem d_K_leaveQueue_37 : decode b_K_leaveQueue 37 = .ok (.iinc 2 1, 3) := by decide +kernel
theorem d_K_leaveQueue_40 : decode b_K_leaveQueue 40 = .ok (.goto 12, 3) := by decide +kernel
theorem d_K_leaveQueue_43 : decode b_K_leaveQueue 43 = .ok (.iload_n 3, 1) := by decide +kernel
theorem d_K_leaveQueue_44 : decode b_K_leaveQueue 44 = .ok (.ifCond .ne 8, 3) := by decide +kernel
theorem d_K_leaveQueue_47 : decode b_K_leaveQueue 47 = .ok (.aload_n 0, 1) := by decide +kernel
theorem d_K_leaveQueue_48 : decode b_K_leaveQueue 48 = .ok (.iconst 0, 1) := by decide +kernel
theorem d_K_leaveQueue_49 : decode b_K_leaveQueue 49 = .ok (.putfield 32, 3) := by decide +kernel
theorem d_K_leaveQueue_52 : decode b_K_leaveQueue 52 = .ok (.iinc 3 1, 3) := by decide +kernel
theorem d_K_leaveQueue_55 : decode b_K_leaveQueue 55 = .ok (.goto (-51), 3) := by decide +kernel
theorem d_K_leaveQueue_58 : decode b_K_leaveQueue 58 = .ok (.aload_n 0, 1) := by decide +kernel
theorem d_K_leaveQueue_59 : decode b_K_leaveQueue 59 = .ok (.iload_n 2, 1) := by decide +kernel
theorem d_K_leaveQueue_60 : decode b_K_leaveQueue 60 = .ok (.putfield 28, 3) := by decide +kernel
theorem d_K_leaveQueue_63 : decode b_K_leaveQueue 63 = .ok (.return_, 1) := by decide +kernel
def w_K_leaveQueue_4 (cp : Nat) (p1 : Nat) (Φ : KS → Prop) : Nat → Int32 → Int32 → KS → Prop
  | 0, _, _, _ => False
  | n + 1, v2, v3, s0 => (((s0 0 0 5) ≤ v3 → ∀ s1 : KS, s1 = w3 s0 0 0 5 v2 → Φ s1) ∧ (¬ (s0 0 0 5) ≤ v3 → vp_in v3 16 ∧ (((s0 8 0 v3.toNatClampNeg) = (s0 1 p1 0) → ((¬ v3 = 0 → ∀ y2 : Int32, y2 = v3 + (1 : Int32) → w_K_leaveQueue_4 cp p1 Φ n v2 y2 s0) ∧ (v3 = 0 → ∀ s3 : KS, s3 = w3 s0 0 0 6 (0 : Int32) → ∀ y4 : Int32, y4 = v3 + (1 : Int32) → w_K_leaveQueue_4 cp p1 Φ n v2 y4 s3))) ∧ (¬ (s0 8 0 v3.toNatClampNeg) = (s0 1 p1 0) → vp_in v3 16 ∧ vp_in v2 16 ∧ ∀ s5 : KS, s5 = w3 s0 8 0 v2.toNatClampNeg (s0 8 0 v3.toNatClampNeg) → ∀ y6 : Int32, y6 = v2 + (1 : Int32) → ∀ y7 : Int32, y7 = v3 + (1 : Int32) → w_K_leaveQueue_4 cp p1 Φ n y6 y7 s5))))
def w_K_leaveQueue (cp : Nat) (p1 : Nat) (s0 : KS) (Φ : KS → Prop) : Prop := ∃ n : Nat, w_K_leaveQueue_4 cp p1 Φ n (0 : Int32) (0 : Int32) s0
set_option maxHeartbeats 4000000 in
set_option maxRecDepth 100000 in
theorem c_K_leaveQueue (l : Launch) (E : gE) (s0 : KS) (p1 : Nat) (hp1 : p1 < 16) (Φ : KS → Prop) (hw : w_K_leaveQueue (eN E) p1 s0 Φ) : gMv l y_K_leaveQueue v_K_leaveQueue m_K_leaveQueue E KK [.ref (ea E 0 0), .ref (ea E 1 p1)] s0 Φ := by
  intro sz
  refine Met.ofW (cc := b_K_leaveQueue) (maxL := 4) (ret := none) (by decide) rfl ?_
  intro p e s m args below meth c s₁ B hml hv
  obtain ⟨rfl, hsz, hP, hK, hD, hX⟩ := hv
  have hx := B.exec
  have hb := B.bytes
  have hr := B.returns
  have hts := atoms_spec (ws := v_K_leaveQueue) B.pre
  have hG : ∀ w ∈ gG, w.before _ s = true := fun w h => hts w (List.mem_cons_of_mem _ h)
  have hown : s.vm.findClass R_K = some m.cls := findClass_of_methodNamed B.named
  have hlocks := B.notSynchronized
  subst hsz
  obtain ⟨A, hAe⟩ : ∃ A, A = gA E KK s.heap.size := ⟨_, rfl⟩
  rw [← hAe] at hD hX ⊢
  have hV : gV E KK A s0 s s.heap [] := ⟨hP, hD, va_S.rf⟩
  have hl := lv_entry ([.ref (ea E 0 0), .ref (ea E 1 p1)] : List Value) (n := 4) (Nat.le_of_ble_eq_true rfl)
  rw [lg_entry_eq]
  generalize (lg_sl ([.ref (ea E 0 0), .ref (ea E 1 p1)] : List Value) ++ List.replicate (4 - (lg_sl ([.ref (ea E 0 0), .ref (ea E 1 p1)] : List Value)).length) Slot.unset).toArray = ls at hl ⊢
  have hl : lv_has ls 4 [(0, .ref (ea E 0 0)), (1, .ref (ea E 1 p1))] := hl
  have L4 : ∀ (n : Nat), ∀ (ls : Array Slot) (H : Heap) (locs : List Loc) (s0 : KS) (v2 : Int32) (v3 : Int32), lv_has ls 4 [(0, .ref (ea E 0 0)), (1, .ref (ea E 1 p1)), (2, .int v2), (3, .int v3)] → gV E KK A s0 s H locs → w_K_leaveQueue_4 (eN E) p1 Φ n v2 v3 s0 → W p l e m_K_leaveQueue s m ([.ref (ea E 0 0), .ref (ea E 1 p1)] : List Value).toArray below meth c H locs 0 0 (MQ below (gQv E KK A Φ) ([.ref (ea E 0 0), .ref (ea E 1 p1)] : List Value).toArray s 0 0 A) (F0 m 4 ls []) := by
    intro n
    induction n with
    | zero =>
      intro ls H locs s0 v2 v3 hl hV hw
      exact False.elim hw
    | succ n ih =>
      intro ls H locs s0 v2 v3 hl hV hw
      unfold w_K_leaveQueue_4 at hw
      refine lv_iload_n hx hb d_K_leaveQueue_4 rfl (lv_at hl 3 rfl) ?_
      refine lv_aload_n hx hb d_K_leaveQueue_5 rfl (lv_at hl 0 rfl) ?_
      refine kg_K_K_readyCount hx hb hG hown hK hV d_K_leaveQueue_6 ?_
      refine lv_icmp_ge (tgt := 58) hx hb d_K_leaveQueue_9 rfl (fun hc => ?_) (fun hc => ?_)
      · have hw := hw.1 hc
        refine lv_aload_n hx hb d_K_leaveQueue_58 rfl (lv_at hl 0 rfl) ?_
        refine lv_iload_n hx hb d_K_leaveQueue_59 rfl (lv_at hl 2 rfl) ?_
        refine kp_K_K_readyCount hx hb hG hown hK hV d_K_leaveQueue_60 (fun s1 H locs es1 hV => ?_)
        have hw := hw s1 es1
        exact kr_v hx hb hr hV hK hX hAe hw d_K_leaveQueue_63
      · have hw := hw.2 hc
        refine lv_aload_n hx hb d_K_leaveQueue_12 rfl (lv_at hl 0 rfl) ?_
        refine kg_K_K_ready hx hb hG hown hK hV d_K_leaveQueue_13 ?_
        refine lv_iload_n hx hb d_K_leaveQueue_16 rfl (lv_at hl 3 rfl) ?_
        refine kl_8 hx hb hK hV hw.1 d_K_leaveQueue_17 ?_
        have hw := hw.2
        refine lv_aload_n hx hb d_K_leaveQueue_18 rfl (lv_at hl 1 rfl) ?_
        refine kg_K_P_number hx hb hG hown hK hV hp1 d_K_leaveQueue_19 ?_
        refine lv_icmp_eq (tgt := 43) hx hb d_K_leaveQueue_22 rfl (fun hc => ?_) (fun hc => ?_)
        · have hw := hw.1 hc
          refine lv_iload_n hx hb d_K_leaveQueue_43 rfl (lv_at hl 3 rfl) ?_
          refine lv_if_ne (tgt := 52) hx hb d_K_leaveQueue_44 rfl (fun hc => ?_) (fun hc => ?_)
          · have hw := hw.1 hc
            obtain ⟨y2, ey2⟩ : ∃ z : Int32, z = v3 + (1 : Int32) := ⟨_, rfl⟩
            have hw := hw y2 ey2
            refine lv_iinc (k := 3) (v := y2) (lv' := [(3, .int y2), (0, .ref (ea E 0 0)), (1, .ref (ea E 1 p1)), (2, .int v2)]) hx hb d_K_leaveQueue_52 hl rfl (by rw [ey2]; rfl) (by decide) rfl (fun ls hl => ?_)
            refine lv_goto (tgt := 4) hx hb d_K_leaveQueue_55 rfl ?_
            exact ih _ _ _ s0 v2 y2 (lv_sub hl [1, 2, 3, 0] rfl) hV hw
          · have hw := hw.2 hc
            refine lv_aload_n hx hb d_K_leaveQueue_47 rfl (lv_at hl 0 rfl) ?_
            refine lv_iconst (v := 0) hx hb d_K_leaveQueue_48 (by decide) ?_
            refine kp_K_K_doneByFirst hx hb hG hown hK hV d_K_leaveQueue_49 (fun s3 H locs es3 hV => ?_)
            have hw := hw s3 es3
            obtain ⟨y4, ey4⟩ : ∃ z : Int32, z = v3 + (1 : Int32) := ⟨_, rfl⟩
            have hw := hw y4 ey4
            refine lv_iinc (k := 3) (v := y4) (lv' := [(3, .int y4), (0, .ref (ea E 0 0)), (1, .ref (ea E 1 p1)), (2, .int v2)]) hx hb d_K_leaveQueue_52 hl rfl (by rw [ey4]; rfl) (by decide) rfl (fun ls hl => ?_)
            refine lv_goto (tgt := 4) hx hb d_K_leaveQueue_55 rfl ?_
            exact ih _ _ _ s3 v2 y4 (lv_sub hl [1, 2, 3, 0] rfl) hV hw
        · have hw := hw.2 hc
          refine lv_aload_n hx hb d_K_leaveQueue_25 rfl (lv_at hl 0 rfl) ?_
          refine kg_K_K_ready hx hb hG hown hK hV d_K_leaveQueue_26 ?_
          refine lv_iload_n hx hb d_K_leaveQueue_29 rfl (lv_at hl 2 rfl) ?_
          refine lv_aload_n hx hb d_K_leaveQueue_30 rfl (lv_at hl 0 rfl) ?_
          refine kg_K_K_ready hx hb hG hown hK hV d_K_leaveQueue_31 ?_
          refine lv_iload_n hx hb d_K_leaveQueue_34 rfl (lv_at hl 3 rfl) ?_
          refine kl_8 hx hb hK hV hw.1 d_K_leaveQueue_35 ?_
          have hw := hw.2
          refine ks_8 hx hb hK hV hw.1 d_K_leaveQueue_36 (fun s5 H locs es5 hV => ?_)
          have hw := hw.2 s5 es5
          obtain ⟨y6, ey6⟩ : ∃ z : Int32, z = v2 + (1 : Int32) := ⟨_, rfl⟩
          have hw := hw y6 ey6
          refine lv_iinc (k := 2) (v := y6) (lv' := [(2, .int y6), (0, .ref (ea E 0 0)), (1, .ref (ea E 1 p1)), (3, .int v3)]) hx hb d_K_leaveQueue_37 hl rfl (by rw [ey6]; rfl) (by decide) rfl (fun ls hl => ?_)
          refine lv_goto (tgt := 52) hx hb d_K_leaveQueue_40 rfl ?_
          obtain ⟨y7, ey7⟩ : ∃ z : Int32, z = v3 + (1 : Int32) := ⟨_, rfl⟩
          have hw := hw y7 ey7
          refine lv_iinc (k := 3) (v := y7) (lv' := [(3, .int y7), (2, .int y6), (0, .ref (ea E 0 0)), (1, .ref (ea E 1 p1))]) hx hb d_K_leaveQueue_52 hl rfl (by rw [ey7]; rfl) (by decide) rfl (fun ls hl => ?_)
          refine lv_goto (tgt := 4) hx hb d_K_leaveQueue_55 rfl ?_
          exact ih _ _ _ s5 y6 y7 (lv_sub hl [2, 3, 1, 0] rfl) hV hw
  unfold w_K_leaveQueue at hw
  refine lv_iconst (v := 0) hx hb d_K_leaveQueue_0 (by decide) ?_
  refine lv_istore_n (lv' := [(2, .int (0 : Int32)), (0, .ref (ea E 0 0)), (1, .ref (ea E 1 p1))]) hx hb d_K_leaveQueue_1 rfl hl (by decide) rfl (fun ls hl => ?_)
  refine lv_iconst (v := 0) hx hb d_K_leaveQueue_2 (by decide) ?_
  refine lv_istore_n (lv' := [(3, .int (0 : Int32)), (2, .int (0 : Int32)), (0, .ref (ea E 0 0)), (1, .ref (ea E 1 p1))]) hx hb d_K_leaveQueue_3 rfl hl (by decide) rfl (fun ls hl => ?_)
  obtain ⟨n, hw⟩ := hw
  exact L4 n _ _ _ s0 (0 : Int32) (0 : Int32) (lv_sub hl [2, 3, 1, 0] rfl) hV hw
theorem d_K_beginToWait_0 : decode b_K_beginToWait 0 = .ok (.aload_n 0, 1) := by decide +kernel
theorem d_K_beginToWait_1 : decode b_K_beginToWait 1 = .ok (.aload_n 1, 1) := by decide +kernel
theorem d_K_beginToWait_2 : decode b_K_beginToWait 2 = .ok (.invokevirtual 229, 3) := by decide +kernel
theorem d_K_beginToWait_5 : decode b_K_beginToWait 5 = .ok (.aload_n 1, 1) := by decide +kernel
theorem d_K_beginToWait_6 : decode b_K_beginToWait 6 = .ok (.invokevirtual 207, 3) := by decide +kernel
theorem d_K_beginToWait_9 : decode b_K_beginToWait 9 = .ok (.istore_n 2, 1) := by decide +kernel
theorem d_K_beginToWait_10 : decode b_K_beginToWait 10 = .ok (.iload_n 2, 1) := by decide +kernel
theorem d_K_beginToWait_11 : decode b_K_beginToWait 11 = .ok (.bipush 36, 2) := by decide +kernel
theorem d_K_beginToWait_13 : decode b_K_beginToWait 13 = .ok (.if_icmp .ne 9, 3) := by decide +kernel
theorem d_K_beginToWait_16 : decode b_K_beginToWait 16 = .ok (.aload_n 1, 1) := by decide +kernel
theorem d_K_beginToWait_17 : decode b_K_beginToWait 17 = .ok (.iconst 4, 1) := by decide +kernel
theorem d_K_beginToWait_18 : decode b_K_beginToWait 18 = .ok (.putfield 127, 3) := by decide +kernel
theorem d_K_beginToWait_21 : decode b_K_beginToWait 21 = .ok (.return_, 1) := by decide +kernel
theorem d_K_beginToWait_22 : decode b_K_beginToWait 22 = .ok (.aload_n 1, 1) := by decide +kernel
theorem d_K_beginToWait_23 : decode b_K_beginToWait 23 = .ok (.iload_n 2, 1) := by decide +kernel
theorem d_K_beginToWait_24 : decode b_K_beginToWait 24 = .ok (.bipush 34, 2) := by decide +kernel
theorem d_K_beginToWait_26 : decode b_K_beginToWait 26 = .ok (.if_icmp .ne 7, 3) := by decide +kernel
theorem d_K_beginToWait_29 : decode b_K_beginToWait 29 = .ok (.iconst 2, 1) := by decide +kernel
theorem d_K_beginToWait_30 : decode b_K_beginToWait 30 = .ok (.goto 4, 3) := by decide +kernel
theorem d_K_beginToWait_33 : decode b_K_beginToWait 33 = .ok (.iconst 3, 1) := by decide +kernel
theorem d_K_beginToWait_34 : decode b_K_beginToWait 34 = .ok (.putfield 127, 3) := by decide +kernel
theorem d_K_beginToWait_37 : decode b_K_beginToWait 37 = .ok (.aload_n 1, 1) := by decide +kernel
theorem d_K_beginToWait_38 : decode b_K_beginToWait 38 = .ok (.aload_n 1, 1) := by decide +kernel
theorem d_K_beginToWait_39 : decode b_K_beginToWait 39 = .ok (.aload_n 1, 1) := by decide +kernel
theorem d_K_beginToWait_40 : decode b_K_beginToWait 40 = .ok (.invokevirtual 210, 3) := by decide +kernel
theorem d_K_beginToWait_43 : decode b_K_beginToWait 43 = .ok (.invokevirtual 213, 3) := by decide +kernel
theorem d_K_beginToWait_46 : decode b_K_beginToWait 46 = .ok (.putfield 232, 3) := by decide +kernel
theorem d_K_beginToWait_49 : decode b_K_beginToWait 49 = .ok (.aload_n 1, 1) := by decide +kernel
theorem d_K_beginToWait_50 : decode b_K_beginToWait 50 = .ok (.aload_n 0, 1) := by decide +kernel
theorem d_K_beginToWait_51 : decode b_K_beginToWait 51 = .ok (.getfield 38, 3) := by decide +kernel
theorem d_K_beginToWait_54 : decode b_K_beginToWait 54 = .ok (.putfield 235, 3) := by decide +kernel
theorem d_K_beginToWait_57 : decode b_K_beginToWait 57 = .ok (.aload_n 0, 1) := by decide +kernel
theorem d_K_beginToWait_58 : decode b_K_beginToWait 58 = .ok (.dup, 1) := by decide +kernel
theorem d_K_beginToWait_59 : decode b_K_beginToWait 59 = .ok (.getfield 38, 3) := by decide +kernel
theorem d_K_beginToWait_62 : decode b_K_beginToWait 62 = .ok (.iconst 1, 1) := by decide +kernel
theorem d_K_beginToWait_63 : decode b_K_beginToWait 63 = .ok (.iadd, 1) := by decide +kernel
theorem d_K_beginToWait_64 : decode b_K_beginToWait 64 = .ok (.putfield 38, 3) := by decide +kernel
theorem d_K_beginToWait_67 : decode b_K_beginToWait 67 = .ok (.return_, 1) := by decide +kernel
def w_K_beginToWait_34 (cp : Nat) (p1 : Nat) (Φ : KS → Prop) (t0 : Int32) (s0 : KS) : Prop := ∀ s1 : KS, s1 = w3 s0 1 p1 7 t0 → w_P_top cp p1 s1 (fun r3 s2 => w_P_descriptorAt cp p1 r3 s2 (fun r5 s4 => ∀ s6 : KS, s6 = w3 s4 1 p1 10 r5 → ∀ s7 : KS, s7 = w3 s6 1 p1 11 (s6 0 0 8) → ∀ s8 : KS, s8 = w3 s7 0 0 8 ((s7 0 0 8) + (1 : Int32)) → Φ s8))
def w_K_beginToWait (cp : Nat) (p1 : Nat) (s0 : KS) (Φ : KS → Prop) : Prop := w_K_leaveQueue cp p1 s0 (fun s1 => w_P_kind cp p1 s1 (fun r3 s2 => ((¬ r3 = (36 : Int32) → ((¬ r3 = (34 : Int32) → w_K_beginToWait_34 cp p1 Φ (3 : Int32) s2) ∧ (r3 = (34 : Int32) → w_K_beginToWait_34 cp p1 Φ (2 : Int32) s2))) ∧ (r3 = (36 : Int32) → ∀ s4 : KS, s4 = w3 s2 1 p1 7 (4 : Int32) → Φ s4))))
set_option maxHeartbeats 4000000 in
set_option maxRecDepth 100000 in
theorem c_K_beginToWait (l : Launch) (E : gE) (s0 : KS) (p1 : Nat) (hp1 : p1 < 16) (Φ : KS → Prop) (hw : w_K_beginToWait (eN E) p1 s0 Φ) : gMv l y_K_beginToWait v_K_beginToWait m_K_beginToWait E KK [.ref (ea E 0 0), .ref (ea E 1 p1)] s0 Φ := by
  intro sz
  refine Met.ofW (cc := b_K_beginToWait) (maxL := 3) (ret := none) (by decide) rfl ?_
  intro p e s m args below meth c s₁ B hml hv
  obtain ⟨rfl, hsz, hP, hK, hD, hX⟩ := hv
  have hx := B.exec
  have hb := B.bytes
  have hr := B.returns
  have hts := atoms_spec (ws := v_K_beginToWait) B.pre
  have hG : ∀ w ∈ gG, w.before _ s = true := fun w h => hts w (List.mem_cons_of_mem _ h)
  have hown : s.vm.findClass R_K = some m.cls := findClass_of_methodNamed B.named
  have hlocks := B.notSynchronized
  subst hsz
  obtain ⟨A, hAe⟩ : ∃ A, A = gA E KK s.heap.size := ⟨_, rfl⟩
  rw [← hAe] at hD hX ⊢
  have hV : gV E KK A s0 s s.heap [] := ⟨hP, hD, va_S.rf⟩
  have hl := lv_entry ([.ref (ea E 0 0), .ref (ea E 1 p1)] : List Value) (n := 3) (Nat.le_of_ble_eq_true rfl)
  rw [lg_entry_eq]
  generalize (lg_sl ([.ref (ea E 0 0), .ref (ea E 1 p1)] : List Value) ++ List.replicate (3 - (lg_sl ([.ref (ea E 0 0), .ref (ea E 1 p1)] : List Value)).length) Slot.unset).toArray = ls at hl ⊢
  have hl : lv_has ls 3 [(0, .ref (ea E 0 0)), (1, .ref (ea E 1 p1))] := hl
  have J34 : ∀ (ls : Array Slot) (H : Heap) (locs : List Loc) (s0 : KS) (t0 : Int32), lv_has ls 3 [(0, .ref (ea E 0 0)), (1, .ref (ea E 1 p1))] → gV E KK A s0 s H locs → w_K_beginToWait_34 (eN E) p1 Φ t0 s0 → W p l e m_K_beginToWait s m ([.ref (ea E 0 0), .ref (ea E 1 p1)] : List Value).toArray below meth c H locs 0 0 (MQ below (gQv E KK A Φ) ([.ref (ea E 0 0), .ref (ea E 1 p1)] : List Value).toArray s 0 0 A) (F0 m 34 ls [.int t0, .ref (ea E 1 p1)]) := by
    intro  ls H locs s0 t0 hl hV hw
    unfold w_K_beginToWait_34 at hw
    refine kp_K_P_state hx hb hG hown hK hV hp1 d_K_beginToWait_34 (fun s1 H locs es1 hV => ?_)
    have hw := hw s1 es1
    refine lv_aload_n hx hb d_K_beginToWait_37 rfl (lv_at hl 1 rfl) ?_
    refine lv_aload_n hx hb d_K_beginToWait_38 rfl (lv_at hl 1 rfl) ?_
    refine lv_aload_n hx hb d_K_beginToWait_39 rfl (lv_at hl 1 rfl) ?_
    refine kc_K_P_top hx hb hml hown hts hV hK hX hAe (c_P_top l E s1 p1 hp1 _ hw) hp1 hl.1 (Nat.le_of_ble_eq_true rfl) d_K_beginToWait_40 (Nat.le_of_ble_eq_true rfl) (Nat.le_of_ble_eq_true rfl) (fun r3 s2 H locs hw hV => ?_)
    refine kc_K_P_descriptorAt hx hb hml hown hts hV hK hX hAe (c_P_descriptorAt l E s2 p1 hp1 r3 _ hw) hp1 hl.1 (Nat.le_of_ble_eq_true rfl) d_K_beginToWait_43 (Nat.le_of_ble_eq_true rfl) (Nat.le_of_ble_eq_true rfl) (fun r5 s4 H locs hw hV => ?_)
    refine kp_K_P_waitsOn hx hb hG hown hK hV hp1 d_K_beginToWait_46 (fun s6 H locs es6 hV => ?_)
    have hw := hw s6 es6
    refine lv_aload_n hx hb d_K_beginToWait_49 rfl (lv_at hl 1 rfl) ?_
    refine lv_aload_n hx hb d_K_beginToWait_50 rfl (lv_at hl 0 rfl) ?_
    refine kg_K_K_waitsBegun hx hb hG hown hK hV d_K_beginToWait_51 ?_
    refine kp_K_P_waitsSince hx hb hG hown hK hV hp1 d_K_beginToWait_54 (fun s7 H locs es7 hV => ?_)
    have hw := hw s7 es7
    refine lv_aload_n hx hb d_K_beginToWait_57 rfl (lv_at hl 0 rfl) ?_
    refine lv_dup hx hb d_K_beginToWait_58 rfl ?_
    refine kg_K_K_waitsBegun hx hb hG hown hK hV d_K_beginToWait_59 ?_
    refine lv_iconst (v := 1) hx hb d_K_beginToWait_62 (by decide) ?_
    refine lv_iadd hx hb d_K_beginToWait_63 ?_
    refine kp_K_K_waitsBegun hx hb hG hown hK hV d_K_beginToWait_64 (fun s8 H locs es8 hV => ?_)
    have hw := hw s8 es8
    exact kr_v hx hb hr hV hK hX hAe hw d_K_beginToWait_67
  unfold w_K_beginToWait at hw
  refine lv_aload_n hx hb d_K_beginToWait_0 rfl (lv_at hl 0 rfl) ?_
  refine lv_aload_n hx hb d_K_beginToWait_1 rfl (lv_at hl 1 rfl) ?_
  refine kc_K_K_leaveQueue hx hb hml hown hts hV hK hX hAe (c_K_leaveQueue l E s0 p1 hp1 _ hw) hl.1 (Nat.le_of_ble_eq_true rfl) d_K_beginToWait_2 (Nat.le_of_ble_eq_true rfl) (Nat.le_of_ble_eq_true rfl) (fun s1 H locs hw hV => ?_)
  refine lv_aload_n hx hb d_K_beginToWait_5 rfl (lv_at hl 1 rfl) ?_
  refine kc_K_P_kind hx hb hml hown hts hV hK hX hAe (c_P_kind l E s1 p1 hp1 _ hw) hp1 hl.1 (Nat.le_of_ble_eq_true rfl) d_K_beginToWait_6 (Nat.le_of_ble_eq_true rfl) (Nat.le_of_ble_eq_true rfl) (fun r3 s2 H locs hw hV => ?_)
  refine lv_istore_n (lv' := [(2, .int r3), (0, .ref (ea E 0 0)), (1, .ref (ea E 1 p1))]) hx hb d_K_beginToWait_9 rfl hl (by decide) rfl (fun ls hl => ?_)
  refine lv_iload_n hx hb d_K_beginToWait_10 rfl (lv_at hl 0 rfl) ?_
  refine lv_bipush (v := 36) hx hb d_K_beginToWait_11 (by decide) ?_
  refine lv_icmp_ne (tgt := 22) hx hb d_K_beginToWait_13 rfl (fun hc => ?_) (fun hc => ?_)
  · have hw := hw.1 hc
    refine lv_aload_n hx hb d_K_beginToWait_22 rfl (lv_at hl 2 rfl) ?_
    refine lv_iload_n hx hb d_K_beginToWait_23 rfl (lv_at hl 0 rfl) ?_
    refine lv_bipush (v := 34) hx hb d_K_beginToWait_24 (by decide) ?_
    refine lv_icmp_ne (tgt := 33) hx hb d_K_beginToWait_26 rfl (fun hc => ?_) (fun hc => ?_)
    · have hw := hw.1 hc
      refine lv_iconst (v := 3) hx hb d_K_beginToWait_33 (by decide) ?_
      exact J34 _ _ _ s2 (3 : Int32) (lv_sub hl [1, 2] rfl) hV hw
    · have hw := hw.2 hc
      refine lv_iconst (v := 2) hx hb d_K_beginToWait_29 (by decide) ?_
      refine lv_goto (tgt := 34) hx hb d_K_beginToWait_30 rfl ?_
      exact J34 _ _ _ s2 (2 : Int32) (lv_sub hl [1, 2] rfl) hV hw
  · have hw := hw.2 hc
    refine lv_aload_n hx hb d_K_beginToWait_16 rfl (lv_at hl 2 rfl) ?_
    refine lv_iconst (v := 4) hx hb d_K_beginToWait_17 (by decide) ?_
    refine kp_K_P_state hx hb hG hown hK hV hp1 d_K_beginToWait_18 (fun s4 H locs es4 hV => ?_)
    have hw := hw s4 es4
    exact kr_v hx hb hr hV hK hX hAe hw d_K_beginToWait_21
theorem d_K_otherEnd_0 : decode b_K_otherEnd 0 = .ok (.iload_n 0, 1) := by decide +kernel
theorem d_K_otherEnd_1 : decode b_K_otherEnd 1 = .ok (.bipush 20, 2) := by decide +kernel
theorem d_K_otherEnd_3 : decode b_K_otherEnd 3 = .ok (.if_icmp .ge 13, 3) := by decide +kernel
theorem d_K_otherEnd_6 : decode b_K_otherEnd 6 = .ok (.iload_n 0, 1) := by decide +kernel
theorem d_K_otherEnd_7 : decode b_K_otherEnd 7 = .ok (.bipush 10, 2) := by decide +kernel
theorem d_K_otherEnd_9 : decode b_K_otherEnd 9 = .ok (.isub, 1) := by decide +kernel
theorem d_K_otherEnd_10 : decode b_K_otherEnd 10 = .ok (.bipush 20, 2) := by decide +kernel
theorem d_K_otherEnd_12 : decode b_K_otherEnd 12 = .ok (.iadd, 1) := by decide +kernel
theorem d_K_otherEnd_13 : decode b_K_otherEnd 13 = .ok (.goto 10, 3) := by decide +kernel
theorem d_K_otherEnd_16 : decode b_K_otherEnd 16 = .ok (.iload_n 0, 1) := by decide +kernel
theorem d_K_otherEnd_17 : decode b_K_otherEnd 17 = .ok (.bipush 20, 2) := by decide +kernel
theorem d_K_otherEnd_19 : decode b_K_otherEnd 19 = .ok (.isub, 1) := by decide +kernel
theorem d_K_otherEnd_20 : decode b_K_otherEnd 20 = .ok (.bipush 10, 2) := by decide +kernel
theorem d_K_otherEnd_22 : decode b_K_otherEnd 22 = .ok (.iadd, 1) := by decide +kernel
theorem d_K_otherEnd_23 : decode b_K_otherEnd 23 = .ok (.ireturn, 1) := by decide +kernel
def w_K_otherEnd (cp : Nat) (x0 : Int32) (s0 : KS) (Φ : Int32 → KS → Prop) : Prop := (((20 : Int32) ≤ x0 → Φ ((x0 - (20 : Int32)) + (10 : Int32)) s0) ∧ (¬ (20 : Int32) ≤ x0 → Φ ((x0 - (10 : Int32)) + (20 : Int32)) s0))
set_option maxHeartbeats 4000000 in
set_option maxRecDepth 100000 in
theorem c_K_otherEnd (l : Launch) (E : gE) (s0 : KS) (x0 : Int32) (Φ : Int32 → KS → Prop) (hw : w_K_otherEnd (eN E) x0 s0 Φ) : gMi l y_K_otherEnd v_K_otherEnd m_K_otherEnd E KK [.int x0] s0 Φ := by
  intro sz
  refine Met.ofW (cc := b_K_otherEnd) (maxL := 1) (ret := (some .int)) (by decide) rfl ?_
  intro p e s m args below meth c s₁ B hml hv
  obtain ⟨rfl, hsz, hP, hK, hD, hX⟩ := hv
  have hx := B.exec
  have hb := B.bytes
  have hr := B.returns
  have hts := atoms_spec (ws := v_K_otherEnd) B.pre
  have hG : ∀ w ∈ gG, w.before _ s = true := fun w h => hts w (List.mem_cons_of_mem _ h)
  have hown : s.vm.findClass R_K = some m.cls := findClass_of_methodNamed B.named
  have hlocks := B.notSynchronized
  subst hsz
  obtain ⟨A, hAe⟩ : ∃ A, A = gA E KK s.heap.size := ⟨_, rfl⟩
  rw [← hAe] at hD hX ⊢
  have hV : gV E KK A s0 s s.heap [] := ⟨hP, hD, va_S.rf⟩
  have hl := lv_entry ([.int x0] : List Value) (n := 1) (Nat.le_of_ble_eq_true rfl)
  rw [lg_entry_eq]
  generalize (lg_sl ([.int x0] : List Value) ++ List.replicate (1 - (lg_sl ([.int x0] : List Value)).length) Slot.unset).toArray = ls at hl ⊢
  have hl : lv_has ls 1 [(0, .int x0)] := hl
  unfold w_K_otherEnd at hw
  refine lv_iload_n hx hb d_K_otherEnd_0 rfl (lv_at hl 0 rfl) ?_
  refine lv_bipush (v := 20) hx hb d_K_otherEnd_1 (by decide) ?_
  refine lv_icmp_ge (tgt := 16) hx hb d_K_otherEnd_3 rfl (fun hc => ?_) (fun hc => ?_)
  · have hw := hw.1 hc
    refine lv_iload_n hx hb d_K_otherEnd_16 rfl (lv_at hl 0 rfl) ?_
    refine lv_bipush (v := 20) hx hb d_K_otherEnd_17 (by decide) ?_
    refine lv_isub hx hb d_K_otherEnd_19 ?_
    refine lv_bipush (v := 10) hx hb d_K_otherEnd_20 (by decide) ?_
    refine lv_iadd hx hb d_K_otherEnd_22 ?_
    exact kr_i hx hb hr hV hK hX hAe hw d_K_otherEnd_23
  · have hw := hw.2 hc
    refine lv_iload_n hx hb d_K_otherEnd_6 rfl (lv_at hl 0 rfl) ?_
    refine lv_bipush (v := 10) hx hb d_K_otherEnd_7 (by decide) ?_
    refine lv_isub hx hb d_K_otherEnd_9 ?_
    refine lv_bipush (v := 20) hx hb d_K_otherEnd_10 (by decide) ?_
    refine lv_iadd hx hb d_K_otherEnd_12 ?_
    refine lv_goto (tgt := 23) hx hb d_K_otherEnd_13 rfl ?_
    exact kr_i hx hb hr hV hK hX hAe hw d_K_otherEnd_23
theorem d_K_closeDescriptor_0 : decode b_K_closeDescriptor 0 = .ok (.aload_n 1, 1) := by decide +kernel
theorem d_K_closeDescriptor_1 : decode b_K_closeDescriptor 1 = .ok (.getfield 89, 3) := by decide +kernel
theorem d_K_closeDescriptor_4 : decode b_K_closeDescriptor 4 = .ok (.iload_n 2, 1) := by decide +kernel
theorem d_K_closeDescriptor_5 : decode b_K_closeDescriptor 5 = .ok (.iaload, 1) := by decide +kernel
theorem d_K_closeDescriptor_6 : decode b_K_closeDescriptor 6 = .ok (.istore_n 3, 1) := by decide +kernel
theorem d_K_closeDescriptor_7 : decode b_K_closeDescriptor 7 = .ok (.aload_n 1, 1) := by decide +kernel
theorem d_K_closeDescriptor_8 : decode b_K_closeDescriptor 8 = .ok (.getfield 89, 3) := by decide +kernel
theorem d_K_closeDescriptor_11 : decode b_K_closeDescriptor 11 = .ok (.iload_n 2, 1) := by decide +kernel
theorem d_K_closeDescriptor_12 : decode b_K_closeDescriptor 12 = .ok (.iconst 0, 1) := by decide +kernel
theorem d_K_closeDescriptor_13 : decode b_K_closeDescriptor 13 = .ok (.iastore, 1) := by decide +kernel
theorem d_K_closeDescriptor_14 : decode b_K_closeDescriptor 14 = .ok (.iload_n 3, 1) := by decide +kernel
theorem d_K_closeDescriptor_15 : decode b_K_closeDescriptor 15 = .ok (.bipush 10, 2) := by decide +kernel
theorem d_K_closeDescriptor_17 : decode b_K_closeDescriptor 17 = .ok (.if_icmp .ge 5, 3) := by decide +kernel
theorem d_K_closeDescriptor_20 : decode b_K_closeDescriptor 20 = .ok (.iconst 0, 1) := by decide +kernel
theorem d_K_closeDescriptor_21 : decode b_K_closeDescriptor 21 = .ok (.ireturn, 1) := by decide +kernel
theorem d_K_closeDescriptor_22 : decode b_K_closeDescriptor 22 = .ok (.aload_n 0, 1) := by decide +kernel
theorem d_K_closeDescriptor_23 : decode b_K_closeDescriptor 23 = .ok (.getfield 21, 3) := by decide +kernel
theorem d_K_closeDescriptor_26 : decode b_K_closeDescriptor 26 = .ok (.iload_n 3, 1) := by decide +kernel
theorem d_K_closeDescriptor_27 : decode b_K_closeDescriptor 27 = .ok (.dup2, 1) := by decide +kernel
theorem d_K_closeDescriptor_28 : decode b_K_closeDescriptor 28 = .ok (.iaload, 1) := by decide +kernel
theorem d_K_closeDescriptor_29 : decode b_K_closeDescriptor 29 = .ok (.iconst 1, 1) := by decide +kernel
theorem d_K_closeDescriptor_30 : decode b_K_closeDescriptor 30 = .ok (.isub, 1) := by decide +kernel
theorem d_K_closeDescriptor_31 : decode b_K_closeDescriptor 31 = .ok (.iastore, 1) := by decide +kernel
theorem d_K_closeDescriptor_32 : decode b_K_closeDescriptor 32 = .ok (.aload_n 0, 1) := by decide +kernel
theorem d_K_closeDescriptor_33 : decode b_K_closeDescriptor 33 = .ok (.getfield 21, 3) := by decide +kernel
theorem d_K_closeDescriptor_36 : decode b_K_closeDescriptor 36 = .ok (.iload_n 3, 1) := by decide +kernel
theorem d_K_closeDescriptor_37 : decode b_K_closeDescriptor 37 = .ok (.iaload, 1) := by decide +kernel
theorem d_K_closeDescriptor_38 : decode b_K_closeDescriptor 38 = .ok (.ifCond .le 5, 3) := by decide +kernel
theorem d_K_closeDescriptor_41 : decode b_K_closeDescriptor 41 = .ok (.iconst 0, 1) := by decide +kernel
theorem d_K_closeDescriptor_42 : decode b_K_closeDescriptor 42 = .ok (.ireturn, 1) := by decide +kernel
theorem d_K_closeDescriptor_43 : decode b_K_closeDescriptor 43 = .ok (.iload_n 3, 1) := by decide +kernel
theorem d_K_closeDescriptor_44 : decode b_K_closeDescriptor 44 = .ok (.invokestatic 241, 3) := by decide +kernel
theorem d_K_closeDescriptor_47 : decode b_K_closeDescriptor 47 = .ok (.istore 4, 2) := by decide +kernel
theorem d_K_closeDescriptor_49 : decode b_K_closeDescriptor 49 = .ok (.aload_n 0, 1) := by decide +kernel
theorem d_K_closeDescriptor_50 : decode b_K_closeDescriptor 50 = .ok (.getfield 21, 3) := by decide +kernel
theorem d_K_closeDescriptor_53 : decode b_K_closeDescriptor 53 = .ok (.iload 4, 2) := by decide +kernel
theorem d_K_closeDescriptor_55 : decode b_K_closeDescriptor 55 = .ok (.iaload, 1) := by decide +kernel
theorem d_K_closeDescriptor_56 : decode b_K_closeDescriptor 56 = .ok (.ifCond .ne 28, 3) := by decide +kernel
theorem d_K_closeDescriptor_59 : decode b_K_closeDescriptor 59 = .ok (.aload_n 0, 1) := by decide +kernel
theorem d_K_closeDescriptor_60 : decode b_K_closeDescriptor 60 = .ok (.getfield 17, 3) := by decide +kernel
theorem d_K_closeDescriptor_63 : decode b_K_closeDescriptor 63 = .ok (.iload_n 3, 1) := by decide +kernel
theorem d_K_closeDescriptor_64 : decode b_K_closeDescriptor 64 = .ok (.bipush 20, 2) := by decide +kernel
theorem d_K_closeDescriptor_66 : decode b_K_closeDescriptor 66 = .ok (.if_icmp .ge 10, 3) := by decide +kernel
theorem d_K_closeDescriptor_69 : decode b_K_closeDescriptor 69 = .ok (.iload_n 3, 1) := by decide +kernel
theorem d_K_closeDescriptor_70 : decode b_K_closeDescriptor 70 = .ok (.bipush 10, 2) := by decide +kernel
theorem d_K_closeDescriptor_72 : decode b_K_closeDescriptor 72 = .ok (.isub, 1) := by decide +kernel
theorem d_K_closeDescriptor_73 : decode b_K_closeDescriptor 73 = .ok (.goto 7, 3) := by decide +kernel
theorem d_K_closeDescriptor_76 : decode b_K_closeDescriptor 76 = .ok (.iload_n 3, 1) := by decide +kernel
theorem d_K_closeDescriptor_77 : decode b_K_closeDescriptor 77 = .ok (.bipush 20, 2) := by decide +kernel
theorem d_K_closeDescriptor_79 : decode b_K_closeDescriptor 79 = .ok (.isub, 1) := by decide +kernel
theorem d_K_closeDescriptor_80 : decode b_K_closeDescriptor 80 = .ok (.aaload, 1) := by decide +kernel
theorem d_K_closeDescriptor_81 : decode b_K_closeDescriptor 81 = .ok (.invokevirtual 335, 3) := by decide +kernel
theorem d_K_closeDescriptor_84 : decode b_K_closeDescriptor 84 = .ok (.iload 4, 2) := by decide +kernel
theorem d_K_closeDescriptor_86 : decode b_K_closeDescriptor 86 = .ok (.ireturn, 1) := by decide +kernel
def w_K_closeDescriptor_80 (cp : Nat) (p1 : Nat) (x2 : Int32) (Φ : Int32 → KS → Prop) (v4 : Int32) (t0 : Int32) (s0 : KS) : Prop := vp_in t0 8 ∧ w_W_clear cp t0.toNatClampNeg s0 (fun s2 => Φ v4 s2)
def w_K_closeDescriptor (cp : Nat) (p1 : Nat) (x2 : Int32) (s0 : KS) (Φ : Int32 → KS → Prop) : Prop := vp_in x2 8 ∧ ∀ y1 : Int32, y1 = s0 4 p1 x2.toNatClampNeg → vp_in x2 8 ∧ ∀ s2 : KS, s2 = w3 s0 4 p1 x2.toNatClampNeg (0 : Int32) → (((10 : Int32) ≤ y1 → vp_in y1 28 ∧ vp_in y1 28 ∧ ∀ s3 : KS, s3 = w3 s2 7 0 y1.toNatClampNeg ((s2 7 0 y1.toNatClampNeg) - (1 : Int32)) → vp_in y1 28 ∧ (((s3 7 0 y1.toNatClampNeg) ≤ 0 → w_K_otherEnd cp y1 s3 (fun r5 s4 => vp_in r5 28 ∧ ((¬ (s4 7 0 r5.toNatClampNeg) = 0 → Φ r5 s4) ∧ ((s4 7 0 r5.toNatClampNeg) = 0 → (((20 : Int32) ≤ y1 → w_K_closeDescriptor_80 cp p1 x2 Φ r5 (y1 - (20 : Int32)) s4) ∧ (¬ (20 : Int32) ≤ y1 → w_K_closeDescriptor_80 cp p1 x2 Φ r5 (y1 - (10 : Int32)) s4)))))) ∧ (¬ (s3 7 0 y1.toNatClampNeg) ≤ 0 → Φ (0 : Int32) s3))) ∧ (¬ (10 : Int32) ≤ y1 → Φ (0 : Int32) s2))
set_option maxHeartbeats 4000000 in
set_option maxRecDepth 100000 in
theorem c_K_closeDescriptor (l : Launch) (E : gE) (s0 : KS) (p1 : Nat) (hp1 : p1 < 16) (x2 : Int32) (Φ : Int32 → KS → Prop) (hw : w_K_closeDescriptor (eN E) p1 x2 s0 Φ) : gMi l y_K_closeDescriptor v_K_closeDescriptor m_K_closeDescriptor E KK [.ref (ea E 0 0), .ref (ea E 1 p1), .int x2] s0 Φ := by
  intro sz
  refine Met.ofW (cc := b_K_closeDescriptor) (maxL := 5) (ret := (some .int)) (by decide) rfl ?_
  intro p e s m args below meth c s₁ B hml hv
  obtain ⟨rfl, hsz, hP, hK, hD, hX⟩ := hv
  have hx := B.exec
  have hb := B.bytes
  have hr := B.returns
  have hts := atoms_spec (ws := v_K_closeDescriptor) B.pre
  have hG : ∀ w ∈ gG, w.before _ s = true := fun w h => hts w (List.mem_cons_of_mem _ h)
  have hown : s.vm.findClass R_K = some m.cls := findClass_of_methodNamed B.named
  have hlocks := B.notSynchronized
  subst hsz
  obtain ⟨A, hAe⟩ : ∃ A, A = gA E KK s.heap.size := ⟨_, rfl⟩
  rw [← hAe] at hD hX ⊢
  have hV : gV E KK A s0 s s.heap [] := ⟨hP, hD, va_S.rf⟩
  have hl := lv_entry ([.ref (ea E 0 0), .ref (ea E 1 p1), .int x2] : List Value) (n := 5) (Nat.le_of_ble_eq_true rfl)
  rw [lg_entry_eq]
  generalize (lg_sl ([.ref (ea E 0 0), .ref (ea E 1 p1), .int x2] : List Value) ++ List.replicate (5 - (lg_sl ([.ref (ea E 0 0), .ref (ea E 1 p1), .int x2] : List Value)).length) Slot.unset).toArray = ls at hl ⊢
  have hl : lv_has ls 5 [(0, .ref (ea E 0 0)), (1, .ref (ea E 1 p1)), (2, .int x2)] := hl
  have J80 : ∀ (ls : Array Slot) (H : Heap) (locs : List Loc) (s0 : KS) (v4 : Int32) (t0 : Int32), lv_has ls 5 [(4, .int v4)] → gV E KK A s0 s H locs → w_K_closeDescriptor_80 (eN E) p1 x2 Φ v4 t0 s0 → W p l e m_K_closeDescriptor s m ([.ref (ea E 0 0), .ref (ea E 1 p1), .int x2] : List Value).toArray below meth c H locs 0 0 (MQ below (gQi E KK A Φ) ([.ref (ea E 0 0), .ref (ea E 1 p1), .int x2] : List Value).toArray s 0 0 A) (F0 m 80 ls [.int t0, .ref (ea E 10 0)]) := by
    intro  ls H locs s0 v4 t0 hl hV hw
    unfold w_K_closeDescriptor_80 at hw
    have hj1 := Nat.lt_trans (vp_lt hw.1) (by decide : 8 < 10)
    refine kl_10 hx hb hK hV hw.1 d_K_closeDescriptor_80 ?_
    have hw := hw.2
    refine kc_K_W_clear hx hb hml hown hts hV hK hX hAe (c_W_clear l E s0 t0.toNatClampNeg hj1 _ hw) hj1 hl.1 (Nat.le_of_ble_eq_true rfl) d_K_closeDescriptor_81 (Nat.le_of_ble_eq_true rfl) (Nat.le_of_ble_eq_true rfl) (fun s2 H locs hw hV => ?_)
    refine lv_iload hx hb d_K_closeDescriptor_84 (lv_at hl 0 rfl) ?_
    exact kr_i hx hb hr hV hK hX hAe hw d_K_closeDescriptor_86
  unfold w_K_closeDescriptor at hw
  refine lv_aload_n hx hb d_K_closeDescriptor_0 rfl (lv_at hl 1 rfl) ?_
  refine kg_K_P_descriptors hx hb hG hown hK hV hp1 d_K_closeDescriptor_1 ?_
  refine lv_iload_n hx hb d_K_closeDescriptor_4 rfl (lv_at hl 2 rfl) ?_
  refine kl_4 hx hb hK hV hp1 hw.1 d_K_closeDescriptor_5 ?_
  have hw := hw.2
  refine lv_topi (fun y1 ey1 => ?_)
  have hw := hw y1 ey1
  refine lv_istore_n (lv' := [(3, .int y1), (0, .ref (ea E 0 0)), (1, .ref (ea E 1 p1)), (2, .int x2)]) hx hb d_K_closeDescriptor_6 rfl hl (by decide) rfl (fun ls hl => ?_)
  refine lv_aload_n hx hb d_K_closeDescriptor_7 rfl (lv_at hl 2 rfl) ?_
  refine kg_K_P_descriptors hx hb hG hown hK hV hp1 d_K_closeDescriptor_8 ?_
  refine lv_iload_n hx hb d_K_closeDescriptor_11 rfl (lv_at hl 3 rfl) ?_
  refine lv_iconst (v := 0) hx hb d_K_closeDescriptor_12 (by decide) ?_
  refine ks_4 hx hb hK hV hp1 hw.1 d_K_closeDescriptor_13 (fun s2 H locs es2 hV => ?_)
  have hw := hw.2 s2 es2
  refine lv_iload_n hx hb d_K_closeDescriptor_14 rfl (lv_at hl 0 rfl) ?_
  refine lv_bipush (v := 10) hx hb d_K_closeDescriptor_15 (by decide) ?_
  refine lv_icmp_ge (tgt := 22) hx hb d_K_closeDescriptor_17 rfl (fun hc => ?_) (fun hc => ?_)
  · have hw := hw.1 hc
    refine lv_aload_n hx hb d_K_closeDescriptor_22 rfl (lv_at hl 1 rfl) ?_
    refine kg_K_K_ends hx hb hG hown hK hV d_K_closeDescriptor_23 ?_
    refine lv_iload_n hx hb d_K_closeDescriptor_26 rfl (lv_at hl 0 rfl) ?_
    refine lv_dup2_11 hx hb d_K_closeDescriptor_27 rfl rfl ?_
    refine kl_7 hx hb hK hV hw.1 d_K_closeDescriptor_28 ?_
    have hw := hw.2
    refine lv_iconst (v := 1) hx hb d_K_closeDescriptor_29 (by decide) ?_
    refine lv_isub hx hb d_K_closeDescriptor_30 ?_
    refine ks_7 hx hb hK hV hw.1 d_K_closeDescriptor_31 (fun s3 H locs es3 hV => ?_)
    have hw := hw.2 s3 es3
    refine lv_aload_n hx hb d_K_closeDescriptor_32 rfl (lv_at hl 1 rfl) ?_
    refine kg_K_K_ends hx hb hG hown hK hV d_K_closeDescriptor_33 ?_
    refine lv_iload_n hx hb d_K_closeDescriptor_36 rfl (lv_at hl 0 rfl) ?_
    refine kl_7 hx hb hK hV hw.1 d_K_closeDescriptor_37 ?_
    have hw := hw.2
    refine lv_if_le (tgt := 43) hx hb d_K_closeDescriptor_38 rfl (fun hc => ?_) (fun hc => ?_)
    · have hw := hw.1 hc
      refine lv_iload_n hx hb d_K_closeDescriptor_43 rfl (lv_at hl 0 rfl) ?_
      refine kc_K_K_otherEnd hx hb hml hown hts hV hK hX hAe (c_K_otherEnd l E s3 y1 _ hw) hl.1 (Nat.le_of_ble_eq_true rfl) d_K_closeDescriptor_44 (Nat.le_of_ble_eq_true rfl) (Nat.le_of_ble_eq_true rfl) (fun r5 s4 H locs hw hV => ?_)
      refine lv_istore (lv' := [(4, .int r5), (3, .int y1), (0, .ref (ea E 0 0)), (1, .ref (ea E 1 p1)), (2, .int x2)]) hx hb d_K_closeDescriptor_47 hl (by decide) rfl (fun ls hl => ?_)
      refine lv_aload_n hx hb d_K_closeDescriptor_49 rfl (lv_at hl 2 rfl) ?_
      refine kg_K_K_ends hx hb hG hown hK hV d_K_closeDescriptor_50 ?_
      refine lv_iload hx hb d_K_closeDescriptor_53 (lv_at hl 0 rfl) ?_
      refine kl_7 hx hb hK hV hw.1 d_K_closeDescriptor_55 ?_
      have hw := hw.2
      refine lv_if_ne (tgt := 84) hx hb d_K_closeDescriptor_56 rfl (fun hc => ?_) (fun hc => ?_)
      · have hw := hw.1 hc
        refine lv_iload hx hb d_K_closeDescriptor_84 (lv_at hl 0 rfl) ?_
        exact kr_i hx hb hr hV hK hX hAe hw d_K_closeDescriptor_86
      · have hw := hw.2 hc
        refine lv_aload_n hx hb d_K_closeDescriptor_59 rfl (lv_at hl 2 rfl) ?_
        refine kg_K_K_pipes hx hb hG hown hK hV d_K_closeDescriptor_60 ?_
        refine lv_iload_n hx hb d_K_closeDescriptor_63 rfl (lv_at hl 1 rfl) ?_
        refine lv_bipush (v := 20) hx hb d_K_closeDescriptor_64 (by decide) ?_
        refine lv_icmp_ge (tgt := 76) hx hb d_K_closeDescriptor_66 rfl (fun hc => ?_) (fun hc => ?_)
        · have hw := hw.1 hc
          refine lv_iload_n hx hb d_K_closeDescriptor_76 rfl (lv_at hl 1 rfl) ?_
          refine lv_bipush (v := 20) hx hb d_K_closeDescriptor_77 (by decide) ?_
          refine lv_isub hx hb d_K_closeDescriptor_79 ?_
          exact J80 _ _ _ s4 r5 (y1 - (20 : Int32)) (lv_sub hl [0] rfl) hV hw
        · have hw := hw.2 hc
          refine lv_iload_n hx hb d_K_closeDescriptor_69 rfl (lv_at hl 1 rfl) ?_
          refine lv_bipush (v := 10) hx hb d_K_closeDescriptor_70 (by decide) ?_
          refine lv_isub hx hb d_K_closeDescriptor_72 ?_
          refine lv_goto (tgt := 80) hx hb d_K_closeDescriptor_73 rfl ?_
          exact J80 _ _ _ s4 r5 (y1 - (10 : Int32)) (lv_sub hl [0] rfl) hV hw
    · have hw := hw.2 hc
      refine lv_iconst (v := 0) hx hb d_K_closeDescriptor_41 (by decide) ?_
      exact kr_i hx hb hr hV hK hX hAe hw d_K_closeDescriptor_42
  · have hw := hw.2 hc
    refine lv_iconst (v := 0) hx hb d_K_closeDescriptor_20 (by decide) ?_
    exact kr_i hx hb hr hV hK hX hAe hw d_K_closeDescriptor_21
theorem d_K_endedChild_0 : decode b_K_endedChild 0 = .ok (.iconst 0, 1) := by decide +kernel
theorem d_K_endedChild_1 : decode b_K_endedChild 1 = .ok (.istore_n 2, 1) := by decide +kernel
theorem d_K_endedChild_2 : decode b_K_endedChild 2 = .ok (.iload_n 2, 1) := by decide +kernel
theorem d_K_endedChild_3 : decode b_K_endedChild 3 = .ok (.bipush 16, 2) := by decide +kernel
theorem d_K_endedChild_5 : decode b_K_endedChild 5 = .ok (.if_icmp .ge 43, 3) := by decide +kernel
theorem d_K_endedChild_8 : decode b_K_endedChild 8 = .ok (.aload_n 0, 1) := by decide +kernel
theorem d_K_endedChild_9 : decode b_K_endedChild 9 = .ok (.getfield 11, 3) := by decide +kernel
theorem d_K_endedChild_12 : decode b_K_endedChild 12 = .ok (.iload_n 2, 1) := by decide +kernel
theorem d_K_endedChild_13 : decode b_K_endedChild 13 = .ok (.aaload, 1) := by decide +kernel
theorem d_K_endedChild_14 : decode b_K_endedChild 14 = .ok (.aload_n 1, 1) := by decide +kernel
theorem d_K_endedChild_15 : decode b_K_endedChild 15 = .ok (.invokevirtual 316, 3) := by decide +kernel
theorem d_K_endedChild_18 : decode b_K_endedChild 18 = .ok (.ifCond .eq 24, 3) := by decide +kernel
theorem d_K_endedChild_21 : decode b_K_endedChild 21 = .ok (.aload_n 0, 1) := by decide +kernel
theorem d_K_endedChild_22 : decode b_K_endedChild 22 = .ok (.getfield 11, 3) := by decide +kernel
theorem d_K_endedChild_25 : decode b_K_endedChild 25 = .ok (.iload_n 2, 1) := by decide +kernel
theorem d_K_endedChild_26 : decode b_K_endedChild 26 = .ok (.aaload, 1) := by decide +kernel
theorem d_K_endedChild_27 : decode b_K_endedChild 27 = .ok (.getfield 127, 3) := by decide +kernel
theorem d_K_endedChild_30 : decode b_K_endedChild 30 = .ok (.bipush 6, 2) := by decide +kernel
theorem d_K_endedChild_32 : decode b_K_endedChild 32 = .ok (.if_icmp .ne 10, 3) := by decide +kernel
theorem d_K_endedChild_35 : decode b_K_endedChild 35 = .ok (.aload_n 0, 1) := by decide +kernel
theorem d_K_endedChild_36 : decode b_K_endedChild 36 = .ok (.getfield 11, 3) := by decide +kernel
theorem d_K_endedChild_39 : decode b_K_endedChild 39 = .ok (.iload_n 2, 1) := by decide +kernel
theorem d_K_endedChild_40 : decode b_K_endedChild 40 = .ok (.aaload, 1) := by decide +kernel
theorem d_K_endedChild_41 : decode b_K_endedChild 41 = .ok (.areturn, 1) := by decide +kernel
theorem d_K_endedChild_42 : decode b_K_endedChild 42 = .ok (.iinc 2 1, 3) := by decide +kernel
theorem d_K_endedChild_45 : decode b_K_endedChild 45 = .ok (.goto (-43), 3) := by decide +kernel
theorem d_K_endedChild_48 : decode b_K_endedChild 48 = .ok (.aconst_null, 1) := by decide +kernel
theorem d_K_endedChild_49 : decode b_K_endedChild 49 = .ok (.areturn, 1) := by decide +kernel
def w_K_endedChild_2 (cp : Nat) (p1 : Nat) (Φ : Option Nat → KS → Prop) : Nat → Int32 → KS → Prop
  | 0, _, _ => False
  | n + 1, v2, s0 => (((16 : Int32) ≤ v2 → Φ none s0) ∧ (¬ (16 : Int32) ≤ v2 → vp_in v2 16 ∧ w_P_isChildOf cp v2.toNatClampNeg p1 s0 (fun r3 s2 => ((r3 = 0 → ∀ y4 : Int32, y4 = v2 + (1 : Int32) → w_K_endedChild_2 cp p1 Φ n y4 s2) ∧ (¬ r3 = 0 → vp_in v2 16 ∧ ((¬ (s2 1 v2.toNatClampNeg 7) = (6 : Int32) → ∀ y6 : Int32, y6 = v2 + (1 : Int32) → w_K_endedChild_2 cp p1 Φ n y6 s2) ∧ ((s2 1 v2.toNatClampNeg 7) = (6 : Int32) → vp_in v2 16 ∧ Φ (some v2.toNatClampNeg) s2)))))))
def w_K_endedChild (cp : Nat) (p1 : Nat) (s0 : KS) (Φ : Option Nat → KS → Prop) : Prop := ∃ n : Nat, w_K_endedChild_2 cp p1 Φ n (0 : Int32) s0
set_option maxHeartbeats 4000000 in
set_option maxRecDepth 100000 in
theorem c_K_endedChild (l : Launch) (E : gE) (s0 : KS) (p1 : Nat) (hp1 : p1 < 16) (Φ : Option Nat → KS → Prop) (hw : w_K_endedChild (eN E) p1 s0 Φ) : gMq l y_K_endedChild v_K_endedChild m_K_endedChild E KK [.ref (ea E 0 0), .ref (ea E 1 p1)] s0 Φ := by
  intro sz
  refine Met.ofW (cc := b_K_endedChild) (maxL := 3) (ret := (some (.object "PipeKernel$Proc"))) (by decide) rfl ?_
  intro p e s m args below meth c s₁ B hml hv
  obtain ⟨rfl, hsz, hP, hK, hD, hX⟩ := hv
  have hx := B.exec
  have hb := B.bytes
  have hr := B.returns
  have hts := atoms_spec (ws := v_K_endedChild) B.pre
  have hG : ∀ w ∈ gG, w.before _ s = true := fun w h => hts w (List.mem_cons_of_mem _ h)
  have hown : s.vm.findClass R_K = some m.cls := findClass_of_methodNamed B.named
  have hlocks := B.notSynchronized
  subst hsz
  obtain ⟨A, hAe⟩ : ∃ A, A = gA E KK s.heap.size := ⟨_, rfl⟩
  rw [← hAe] at hD hX ⊢
  have hV : gV E KK A s0 s s.heap [] := ⟨hP, hD, va_S.rf⟩
  have hl := lv_entry ([.ref (ea E 0 0), .ref (ea E 1 p1)] : List Value) (n := 3) (Nat.le_of_ble_eq_true rfl)
  rw [lg_entry_eq]
  generalize (lg_sl ([.ref (ea E 0 0), .ref (ea E 1 p1)] : List Value) ++ List.replicate (3 - (lg_sl ([.ref (ea E 0 0), .ref (ea E 1 p1)] : List Value)).length) Slot.unset).toArray = ls at hl ⊢
  have hl : lv_has ls 3 [(0, .ref (ea E 0 0)), (1, .ref (ea E 1 p1))] := hl
  have L2 : ∀ (n : Nat), ∀ (ls : Array Slot) (H : Heap) (locs : List Loc) (s0 : KS) (v2 : Int32), lv_has ls 3 [(0, .ref (ea E 0 0)), (1, .ref (ea E 1 p1)), (2, .int v2)] → gV E KK A s0 s H locs → w_K_endedChild_2 (eN E) p1 Φ n v2 s0 → W p l e m_K_endedChild s m ([.ref (ea E 0 0), .ref (ea E 1 p1)] : List Value).toArray below meth c H locs 0 0 (MQ below (gQq E KK A Φ) ([.ref (ea E 0 0), .ref (ea E 1 p1)] : List Value).toArray s 0 0 A) (F0 m 2 ls []) := by
    intro n
    induction n with
    | zero =>
      intro ls H locs s0 v2 hl hV hw
      exact False.elim hw
    | succ n ih =>
      intro ls H locs s0 v2 hl hV hw
      unfold w_K_endedChild_2 at hw
      refine lv_iload_n hx hb d_K_endedChild_2 rfl (lv_at hl 2 rfl) ?_
      refine lv_bipush (v := 16) hx hb d_K_endedChild_3 (by decide) ?_
      refine lv_icmp_ge (tgt := 48) hx hb d_K_endedChild_5 rfl (fun hc => ?_) (fun hc => ?_)
      · have hw := hw.1 hc
        refine lv_null hx hb d_K_endedChild_48 ?_
        exact kr_q (o := none) hx hb hr hV hK hX hAe (fun _ h => by cases h) hw d_K_endedChild_49
      · have hw := hw.2 hc
        refine lv_aload_n hx hb d_K_endedChild_8 rfl (lv_at hl 0 rfl) ?_
        refine kg_K_K_procs hx hb hG hown hK hV d_K_endedChild_9 ?_
        refine lv_iload_n hx hb d_K_endedChild_12 rfl (lv_at hl 2 rfl) ?_
        have hj1 := vp_lt hw.1
        refine kl_9 hx hb hK hV hw.1 d_K_endedChild_13 ?_
        have hw := hw.2
        refine lv_aload_n hx hb d_K_endedChild_14 rfl (lv_at hl 1 rfl) ?_
        refine kc_K_P_isChildOf hx hb hml hown hts hV hK hX hAe (c_P_isChildOf l E s0 v2.toNatClampNeg hj1 p1 hp1 _ hw) hj1 hl.1 (Nat.le_of_ble_eq_true rfl) d_K_endedChild_15 (Nat.le_of_ble_eq_true rfl) (Nat.le_of_ble_eq_true rfl) (fun r3 s2 H locs hw hV => ?_)
        refine lv_if_eq (tgt := 42) hx hb d_K_endedChild_18 rfl (fun hc => ?_) (fun hc => ?_)
        · have hw := hw.1 hc
          obtain ⟨y4, ey4⟩ : ∃ z : Int32, z = v2 + (1 : Int32) := ⟨_, rfl⟩
          have hw := hw y4 ey4
          refine lv_iinc (k := 2) (v := y4) (lv' := [(2, .int y4), (0, .ref (ea E 0 0)), (1, .ref (ea E 1 p1))]) hx hb d_K_endedChild_42 hl rfl (by rw [ey4]; rfl) (by decide) rfl (fun ls hl => ?_)
          refine lv_goto (tgt := 2) hx hb d_K_endedChild_45 rfl ?_
          exact ih _ _ _ s2 y4 (lv_sub hl [1, 2, 0] rfl) hV hw
        · have hw := hw.2 hc
          refine lv_aload_n hx hb d_K_endedChild_21 rfl (lv_at hl 0 rfl) ?_
          refine kg_K_K_procs hx hb hG hown hK hV d_K_endedChild_22 ?_
          refine lv_iload_n hx hb d_K_endedChild_25 rfl (lv_at hl 2 rfl) ?_
          have hj5 := vp_lt hw.1
          refine kl_9 hx hb hK hV hw.1 d_K_endedChild_26 ?_
          have hw := hw.2
          refine kg_K_P_state hx hb hG hown hK hV hj5 d_K_endedChild_27 ?_
          refine lv_bipush (v := 6) hx hb d_K_endedChild_30 (by decide) ?_
          refine lv_icmp_ne (tgt := 42) hx hb d_K_endedChild_32 rfl (fun hc => ?_) (fun hc => ?_)
          · have hw := hw.1 hc
            obtain ⟨y6, ey6⟩ : ∃ z : Int32, z = v2 + (1 : Int32) := ⟨_, rfl⟩
            have hw := hw y6 ey6
            refine lv_iinc (k := 2) (v := y6) (lv' := [(2, .int y6), (0, .ref (ea E 0 0)), (1, .ref (ea E 1 p1))]) hx hb d_K_endedChild_42 hl rfl (by rw [ey6]; rfl) (by decide) rfl (fun ls hl => ?_)
            refine lv_goto (tgt := 2) hx hb d_K_endedChild_45 rfl ?_
            exact ih _ _ _ s2 y6 (lv_sub hl [1, 2, 0] rfl) hV hw
          · have hw := hw.2 hc
            refine lv_aload_n hx hb d_K_endedChild_35 rfl (lv_at hl 0 rfl) ?_
            refine kg_K_K_procs hx hb hG hown hK hV d_K_endedChild_36 ?_
            refine lv_iload_n hx hb d_K_endedChild_39 rfl (lv_at hl 2 rfl) ?_
            have hj7 := vp_lt hw.1
            refine kl_9 hx hb hK hV hw.1 d_K_endedChild_40 ?_
            have hw := hw.2
            exact kr_q (o := (some v2.toNatClampNeg)) hx hb hr hV hK hX hAe (fun z h => by cases h; exact hj7) hw d_K_endedChild_41
  unfold w_K_endedChild at hw
  refine lv_iconst (v := 0) hx hb d_K_endedChild_0 (by decide) ?_
  refine lv_istore_n (lv' := [(2, .int (0 : Int32)), (0, .ref (ea E 0 0)), (1, .ref (ea E 1 p1))]) hx hb d_K_endedChild_1 rfl hl (by decide) rfl (fun ls hl => ?_)
  obtain ⟨n, hw⟩ := hw
  exact L2 n _ _ _ s0 (0 : Int32) (lv_sub hl [1, 2, 0] rfl) hV hw
theorem d_K_handOverChildren_0 : decode b_K_handOverChildren 0 = .ok (.aload_n 1, 1) := by decide +kernel
theorem d_K_handOverChildren_1 : decode b_K_handOverChildren 1 = .ok (.getfield 256, 3) := by decide +kernel
theorem d_K_handOverChildren_4 : decode b_K_handOverChildren 4 = .ok (.ifCond .eq 33, 3) := by decide +kernel
theorem d_K_handOverChildren_7 : decode b_K_handOverChildren 7 = .ok (.aload_n 0, 1) := by decide +kernel
theorem d_K_handOverChildren_8 : decode b_K_handOverChildren 8 = .ok (.getfield 11, 3) := by decide +kernel
theorem d_K_handOverChildren_11 : decode b_K_handOverChildren 11 = .ok (.iconst 0, 1) := by decide +kernel
theorem d_K_handOverChildren_12 : decode b_K_handOverChildren 12 = .ok (.aaload, 1) := by decide +kernel
theorem d_K_handOverChildren_13 : decode b_K_handOverChildren 13 = .ok (.getfield 127, 3) := by decide +kernel
theorem d_K_handOverChildren_16 : decode b_K_handOverChildren 16 = .ok (.ifCond .eq 21, 3) := by decide +kernel
theorem d_K_handOverChildren_19 : decode b_K_handOverChildren 19 = .ok (.aload_n 0, 1) := by decide +kernel
theorem d_K_handOverChildren_20 : decode b_K_handOverChildren 20 = .ok (.getfield 11, 3) := by decide +kernel
theorem d_K_handOverChildren_23 : decode b_K_handOverChildren 23 = .ok (.iconst 0, 1) := by decide +kernel
theorem d_K_handOverChildren_24 : decode b_K_handOverChildren 24 = .ok (.aaload, 1) := by decide +kernel
theorem d_K_handOverChildren_25 : decode b_K_handOverChildren 25 = .ok (.getfield 127, 3) := by decide +kernel
theorem d_K_handOverChildren_28 : decode b_K_handOverChildren 28 = .ok (.bipush 6, 2) := by decide +kernel
theorem d_K_handOverChildren_30 : decode b_K_handOverChildren 30 = .ok (.if_icmp .eq 7, 3) := by decide +kernel
theorem d_K_handOverChildren_33 : decode b_K_handOverChildren 33 = .ok (.iconst 1, 1) := by decide +kernel
theorem d_K_handOverChildren_34 : decode b_K_handOverChildren 34 = .ok (.goto 4, 3) := by decide +kernel
theorem d_K_handOverChildren_37 : decode b_K_handOverChildren 37 = .ok (.iconst 0, 1) := by decide +kernel
theorem d_K_handOverChildren_38 : decode b_K_handOverChildren 38 = .ok (.istore_n 2, 1) := by decide +kernel
theorem d_K_handOverChildren_39 : decode b_K_handOverChildren 39 = .ok (.iconst 0, 1) := by decide +kernel
theorem d_K_handOverChildren_40 : decode b_K_handOverChildren 40 = .ok (.istore_n 3, 1) := by decide +kernel
theorem d_K_handOverChildren_41 : decode b_K_handOverChildren 41 = .ok (.iload_n 3, 1) := by decide +kernel
theorem d_K_handOverChildren_42 : decode b_K_handOverChildren 42 = .ok (.bipush 16, 2) := by decide +kernel
theorem d_K_handOverChildren_44 : decode b_K_handOverChildren 44 = .ok (.if_icmp .ge 60, 3) := by decide +kernel
theorem d_K_handOverChildren_47 : decode b_K_handOverChildren 47 = .ok (.aload_n 0, 1) := by decide +kernel
theorem d_K_handOverChildren_48 : decode b_K_handOverChildren 48 = .ok (.getfield 11, 3) := by decide +kernel
theorem d_K_handOverChildren_51 : decode b_K_handOverChildren 51 = .ok (.iload_n 3, 1) := by decide +kernel
theorem d_K_handOverChildren_52 : decode b_K_handOverChildren 52 = .ok (.aaload, 1) := by decide +kernel
theorem d_K_handOverChildren_53 : decode b_K_handOverChildren 53 = .ok (.astore 4, 2) := by decide +kernel
theorem d_K_handOverChildren_55 : decode b_K_handOverChildren 55 = .ok (.aload 4, 2) := by decide +kernel
theorem d_K_handOverChildren_57 : decode b_K_handOverChildren 57 = .ok (.aload_n 1, 1) := by decide +kernel
theorem d_K_handOverChildren_58 : decode b_K_handOverChildren 58 = .ok (.invokevirtual 316, 3) := by decide +kernel
theorem d_K_handOverChildren_61 : decode b_K_handOverChildren 61 = .ok (.ifCond .eq 37, 3) := by decide +kernel
theorem d_K_handOverChildren_64 : decode b_K_handOverChildren 64 = .ok (.aload 4, 2) := by decide +kernel
theorem d_K_handOverChildren_66 : decode b_K_handOverChildren 66 = .ok (.iload_n 2, 1) := by decide +kernel
theorem d_K_handOverChildren_67 : decode b_K_handOverChildren 67 = .ok (.ifCond .eq 7, 3) := by decide +kernel
theorem d_K_handOverChildren_70 : decode b_K_handOverChildren 70 = .ok (.iconst 0, 1) := by decide +kernel
theorem d_K_handOverChildren_71 : decode b_K_handOverChildren 71 = .ok (.goto 4, 3) := by decide +kernel
theorem d_K_handOverChildren_74 : decode b_K_handOverChildren 74 = .ok (.iconst (-1), 1) := by decide +kernel
theorem d_K_handOverChildren_75 : decode b_K_handOverChildren 75 = .ok (.putfield 140, 3) := by decide +kernel
theorem d_K_handOverChildren_78 : decode b_K_handOverChildren 78 = .ok (.iload_n 2, 1) := by decide +kernel
theorem d_K_handOverChildren_79 : decode b_K_handOverChildren 79 = .ok (.ifCond .ne 19, 3) := by decide +kernel
theorem d_K_handOverChildren_82 : decode b_K_handOverChildren 82 = .ok (.aload 4, 2) := by decide +kernel
theorem d_K_handOverChildren_84 : decode b_K_handOverChildren 84 = .ok (.getfield 127, 3) := by decide +kernel
theorem d_K_handOverChildren_87 : decode b_K_handOverChildren 87 = .ok (.bipush 6, 2) := by decide +kernel
theorem d_K_handOverChildren_89 : decode b_K_handOverChildren 89 = .ok (.if_icmp .ne 9, 3) := by decide +kernel
theorem d_K_handOverChildren_92 : decode b_K_handOverChildren 92 = .ok (.aload 4, 2) := by decide +kernel
theorem d_K_handOverChildren_94 : decode b_K_handOverChildren 94 = .ok (.iconst 0, 1) := by decide +kernel
theorem d_K_handOverChildren_95 : decode b_K_handOverChildren 95 = .ok (.putfield 127, 3) := by decide +kernel
theorem d_K_handOverChildren_98 : decode b_K_handOverChildren 98 = .ok (.iinc 3 1, 3) := by decide +kernel
theorem d_K_handOverChildren_101 : decode b_K_handOverChildren 101 = .ok (.goto (-60), 3) := by decide +kernel
theorem d_K_handOverChildren_104 : decode b_K_handOverChildren 104 = .ok (.return_, 1) := by decide +kernel
def w_K_handOverChildren_75 (cp : Nat) (p1 : Nat) (K41 : Int32 → Int32 → KS → Prop) (Φ : KS → Prop) (v2 : Int32) (v3 : Int32) (b4 : Nat) (t0 : Int32) (c1 : Nat) (s0 : KS) : Prop := ∀ s1 : KS, s1 = w3 s0 1 c1 6 t0 → ((¬ v2 = 0 → ∀ y2 : Int32, y2 = v3 + (1 : Int32) → K41 v2 y2 s1) ∧ (v2 = 0 → ((¬ (s1 1 b4 7) = (6 : Int32) → ∀ y3 : Int32, y3 = v3 + (1 : Int32) → K41 v2 y3 s1) ∧ ((s1 1 b4 7) = (6 : Int32) → ∀ s4 : KS, s4 = w3 s1 1 b4 7 (0 : Int32) → ∀ y5 : Int32, y5 = v3 + (1 : Int32) → K41 v2 y5 s4))))
def w_K_handOverChildren_41 (cp : Nat) (p1 : Nat) (Φ : KS → Prop) : Nat → Int32 → Int32 → KS → Prop
  | 0, _, _, _ => False
  | n + 1, v2, v3, s0 => (((16 : Int32) ≤ v3 → Φ s0) ∧ (¬ (16 : Int32) ≤ v3 → vp_in v3 16 ∧ w_P_isChildOf cp v3.toNatClampNeg p1 s0 (fun r3 s2 => ((r3 = 0 → ∀ y4 : Int32, y4 = v3 + (1 : Int32) → w_K_handOverChildren_41 cp p1 Φ n v2 y4 s2) ∧ (¬ r3 = 0 → ((v2 = 0 → w_K_handOverChildren_75 cp p1 (w_K_handOverChildren_41 cp p1 Φ n) Φ v2 v3 v3.toNatClampNeg (-1 : Int32) v3.toNatClampNeg s2) ∧ (¬ v2 = 0 → w_K_handOverChildren_75 cp p1 (w_K_handOverChildren_41 cp p1 Φ n) Φ v2 v3 v3.toNatClampNeg (0 : Int32) v3.toNatClampNeg s2)))))))
def w_K_handOverChildren (cp : Nat) (p1 : Nat) (s0 : KS) (Φ : KS → Prop) : Prop := (((s0 1 p1 0) = 0 → ∃ n : Nat, w_K_handOverChildren_41 cp p1 Φ n (0 : Int32) (0 : Int32) s0) ∧ (¬ (s0 1 p1 0) = 0 → vp_in (0 : Int32) 16 ∧ (((s0 1 ((0 : Int32).toNatClampNeg) 7) = 0 → ∃ n : Nat, w_K_handOverChildren_41 cp p1 Φ n (0 : Int32) (0 : Int32) s0) ∧ (¬ (s0 1 ((0 : Int32).toNatClampNeg) 7) = 0 → vp_in (0 : Int32) 16 ∧ (((s0 1 ((0 : Int32).toNatClampNeg) 7) = (6 : Int32) → ∃ n : Nat, w_K_handOverChildren_41 cp p1 Φ n (0 : Int32) (0 : Int32) s0) ∧ (¬ (s0 1 ((0 : Int32).toNatClampNeg) 7) = (6 : Int32) → ∃ n : Nat, w_K_handOverChildren_41 cp p1 Φ n (1 : Int32) (0 : Int32) s0))))))
set_option maxHeartbeats 4000000 in
set_option maxRecDepth 100000 in
theorem c_K_handOverChildren (l : Launch) (E : gE) (s0 : KS) (p1 : Nat) (hp1 : p1 < 16) (Φ : KS → Prop) (hw : w_K_handOverChildren (eN E) p1 s0 Φ) : gMv l y_K_handOverChildren v_K_handOverChildren m_K_handOverChildren E KK [.ref (ea E 0 0), .ref (ea E 1 p1)] s0 Φ := by
  intro sz
  refine Met.ofW (cc := b_K_handOverChildren) (maxL := 5) (ret := none) (by decide) rfl ?_
  intro p e s m args below meth c s₁ B hml hv
  obtain ⟨rfl, hsz, hP, hK, hD, hX⟩ := hv
  have hx := B.exec
  have hb := B.bytes
  have hr := B.returns
  have hts := atoms_spec (ws := v_K_handOverChildren) B.pre
  have hG : ∀ w ∈ gG, w.before _ s = true := fun w h => hts w (List.mem_cons_of_mem _ h)
  have hown : s.vm.findClass R_K = some m.cls := findClass_of_methodNamed B.named
  have hlocks := B.notSynchronized
  subst hsz
  obtain ⟨A, hAe⟩ : ∃ A, A = gA E KK s.heap.size := ⟨_, rfl⟩
  rw [← hAe] at hD hX ⊢
  have hV : gV E KK A s0 s s.heap [] := ⟨hP, hD, va_S.rf⟩
  have hl := lv_entry ([.ref (ea E 0 0), .ref (ea E 1 p1)] : List Value) (n := 5) (Nat.le_of_ble_eq_true rfl)
  rw [lg_entry_eq]
  generalize (lg_sl ([.ref (ea E 0 0), .ref (ea E 1 p1)] : List Value) ++ List.replicate (5 - (lg_sl ([.ref (ea E 0 0), .ref (ea E 1 p1)] : List Value)).length) Slot.unset).toArray = ls at hl ⊢
  have hl : lv_has ls 5 [(0, .ref (ea E 0 0)), (1, .ref (ea E 1 p1))] := hl
  have J75 : ∀ (K41 : Int32 → Int32 → KS → Prop) (hK41 : ∀ (ls : Array Slot) (H : Heap) (locs : List Loc) (s0 : KS) (v2 : Int32) (v3 : Int32), lv_has ls 5 [(0, .ref (ea E 0 0)), (1, .ref (ea E 1 p1)), (2, .int v2), (3, .int v3)] → gV E KK A s0 s H locs → K41 v2 v3 s0 → W p l e m_K_handOverChildren s m ([.ref (ea E 0 0), .ref (ea E 1 p1)] : List Value).toArray below meth c H locs 0 0 (MQ below (gQv E KK A Φ) ([.ref (ea E 0 0), .ref (ea E 1 p1)] : List Value).toArray s 0 0 A) (F0 m 41 ls [])), ∀ (ls : Array Slot) (H : Heap) (locs : List Loc) (s0 : KS) (v2 : Int32) (v3 : Int32) (b4 : Nat) (hb4 : b4 < 16) (t0 : Int32) (c1 : Nat) (hc1 : c1 < 16), lv_has ls 5 [(0, .ref (ea E 0 0)), (1, .ref (ea E 1 p1)), (2, .int v2), (3, .int v3), (4, .ref (ea E 1 b4))] → gV E KK A s0 s H locs → w_K_handOverChildren_75 (eN E) p1 K41 Φ v2 v3 b4 t0 c1 s0 → W p l e m_K_handOverChildren s m ([.ref (ea E 0 0), .ref (ea E 1 p1)] : List Value).toArray below meth c H locs 0 0 (MQ below (gQv E KK A Φ) ([.ref (ea E 0 0), .ref (ea E 1 p1)] : List Value).toArray s 0 0 A) (F0 m 75 ls [.int t0, .ref (ea E 1 c1)]) := by
    intro K41 hK41 ls H locs s0 v2 v3 b4 hb4 t0 c1 hc1 hl hV hw
    unfold w_K_handOverChildren_75 at hw
    refine kp_K_P_parent hx hb hG hown hK hV hc1 d_K_handOverChildren_75 (fun s1 H locs es1 hV => ?_)
    have hw := hw s1 es1
    refine lv_iload_n hx hb d_K_handOverChildren_78 rfl (lv_at hl 2 rfl) ?_
    refine lv_if_ne (tgt := 98) hx hb d_K_handOverChildren_79 rfl (fun hc => ?_) (fun hc => ?_)
    · have hw := hw.1 hc
      obtain ⟨y2, ey2⟩ : ∃ z : Int32, z = v3 + (1 : Int32) := ⟨_, rfl⟩
      have hw := hw y2 ey2
      refine lv_iinc (k := 3) (v := y2) (lv' := [(3, .int y2), (0, .ref (ea E 0 0)), (1, .ref (ea E 1 p1)), (2, .int v2), (4, .ref (ea E 1 b4))]) hx hb d_K_handOverChildren_98 hl rfl (by rw [ey2]; rfl) (by decide) rfl (fun ls hl => ?_)
      refine lv_goto (tgt := 41) hx hb d_K_handOverChildren_101 rfl ?_
      exact hK41 _ _ _ s1 v2 y2 (lv_sub hl [1, 2, 3, 0] rfl) hV hw
    · have hw := hw.2 hc
      refine lv_aload hx hb d_K_handOverChildren_82 (lv_at hl 4 rfl) ?_
      refine kg_K_P_state hx hb hG hown hK hV hb4 d_K_handOverChildren_84 ?_
      refine lv_bipush (v := 6) hx hb d_K_handOverChildren_87 (by decide) ?_
      refine lv_icmp_ne (tgt := 98) hx hb d_K_handOverChildren_89 rfl (fun hc => ?_) (fun hc => ?_)
      · have hw := hw.1 hc
        obtain ⟨y3, ey3⟩ : ∃ z : Int32, z = v3 + (1 : Int32) := ⟨_, rfl⟩
        have hw := hw y3 ey3
        refine lv_iinc (k := 3) (v := y3) (lv' := [(3, .int y3), (0, .ref (ea E 0 0)), (1, .ref (ea E 1 p1)), (2, .int v2), (4, .ref (ea E 1 b4))]) hx hb d_K_handOverChildren_98 hl rfl (by rw [ey3]; rfl) (by decide) rfl (fun ls hl => ?_)
        refine lv_goto (tgt := 41) hx hb d_K_handOverChildren_101 rfl ?_
        exact hK41 _ _ _ s1 v2 y3 (lv_sub hl [1, 2, 3, 0] rfl) hV hw
      · have hw := hw.2 hc
        refine lv_aload hx hb d_K_handOverChildren_92 (lv_at hl 4 rfl) ?_
        refine lv_iconst (v := 0) hx hb d_K_handOverChildren_94 (by decide) ?_
        refine kp_K_P_state hx hb hG hown hK hV hb4 d_K_handOverChildren_95 (fun s4 H locs es4 hV => ?_)
        have hw := hw s4 es4
        obtain ⟨y5, ey5⟩ : ∃ z : Int32, z = v3 + (1 : Int32) := ⟨_, rfl⟩
        have hw := hw y5 ey5
        refine lv_iinc (k := 3) (v := y5) (lv' := [(3, .int y5), (0, .ref (ea E 0 0)), (1, .ref (ea E 1 p1)), (2, .int v2), (4, .ref (ea E 1 b4))]) hx hb d_K_handOverChildren_98 hl rfl (by rw [ey5]; rfl) (by decide) rfl (fun ls hl => ?_)
        refine lv_goto (tgt := 41) hx hb d_K_handOverChildren_101 rfl ?_
        exact hK41 _ _ _ s4 v2 y5 (lv_sub hl [1, 2, 3, 0] rfl) hV hw
  have L41 : ∀ (n : Nat), ∀ (ls : Array Slot) (H : Heap) (locs : List Loc) (s0 : KS) (v2 : Int32) (v3 : Int32), lv_has ls 5 [(0, .ref (ea E 0 0)), (1, .ref (ea E 1 p1)), (2, .int v2), (3, .int v3)] → gV E KK A s0 s H locs → w_K_handOverChildren_41 (eN E) p1 Φ n v2 v3 s0 → W p l e m_K_handOverChildren s m ([.ref (ea E 0 0), .ref (ea E 1 p1)] : List Value).toArray below meth c H locs 0 0 (MQ below (gQv E KK A Φ) ([.ref (ea E 0 0), .ref (ea E 1 p1)] : List Value).toArray s 0 0 A) (F0 m 41 ls []) := by
    intro n
    induction n with
    | zero =>
      intro ls H locs s0 v2 v3 hl hV hw
      exact False.elim hw
    | succ n ih =>
      intro ls H locs s0 v2 v3 hl hV hw
      unfold w_K_handOverChildren_41 at hw
      refine lv_iload_n hx hb d_K_handOverChildren_41 rfl (lv_at hl 3 rfl) ?_
      refine lv_bipush (v := 16) hx hb d_K_handOverChildren_42 (by decide) ?_
      refine lv_icmp_ge (tgt := 104) hx hb d_K_handOverChildren_44 rfl (fun hc => ?_) (fun hc => ?_)
      · have hw := hw.1 hc
        exact kr_v hx hb hr hV hK hX hAe hw d_K_handOverChildren_104
      · have hw := hw.2 hc
        refine lv_aload_n hx hb d_K_handOverChildren_47 rfl (lv_at hl 0 rfl) ?_
        refine kg_K_K_procs hx hb hG hown hK hV d_K_handOverChildren_48 ?_
        refine lv_iload_n hx hb d_K_handOverChildren_51 rfl (lv_at hl 3 rfl) ?_
        have hj1 := vp_lt hw.1
        refine kl_9 hx hb hK hV hw.1 d_K_handOverChildren_52 ?_
        have hw := hw.2
        refine lv_astore (lv' := [(4, .ref (ea E 1 v3.toNatClampNeg)), (0, .ref (ea E 0 0)), (1, .ref (ea E 1 p1)), (2, .int v2), (3, .int v3)]) hx hb d_K_handOverChildren_53 hl (by decide) rfl (fun ls hl => ?_)
        refine lv_aload hx hb d_K_handOverChildren_55 (lv_at hl 0 rfl) ?_
        refine lv_aload_n hx hb d_K_handOverChildren_57 rfl (lv_at hl 2 rfl) ?_
        refine kc_K_P_isChildOf hx hb hml hown hts hV hK hX hAe (c_P_isChildOf l E s0 v3.toNatClampNeg hj1 p1 hp1 _ hw) hj1 hl.1 (Nat.le_of_ble_eq_true rfl) d_K_handOverChildren_58 (Nat.le_of_ble_eq_true rfl) (Nat.le_of_ble_eq_true rfl) (fun r3 s2 H locs hw hV => ?_)
        refine lv_if_eq (tgt := 98) hx hb d_K_handOverChildren_61 rfl (fun hc => ?_) (fun hc => ?_)
        · have hw := hw.1 hc
          obtain ⟨y4, ey4⟩ : ∃ z : Int32, z = v3 + (1 : Int32) := ⟨_, rfl⟩
          have hw := hw y4 ey4
          refine lv_iinc (k := 4) (v := y4) (lv' := [(3, .int y4), (4, .ref (ea E 1 v3.toNatClampNeg)), (0, .ref (ea E 0 0)), (1, .ref (ea E 1 p1)), (2, .int v2)]) hx hb d_K_handOverChildren_98 hl rfl (by rw [ey4]; rfl) (by decide) rfl (fun ls hl => ?_)
          refine lv_goto (tgt := 41) hx hb d_K_handOverChildren_101 rfl ?_
          exact ih _ _ _ s2 v2 y4 (lv_sub hl [2, 3, 4, 0] rfl) hV hw
        · have hw := hw.2 hc
          refine lv_aload hx hb d_K_handOverChildren_64 (lv_at hl 0 rfl) ?_
          refine lv_iload_n hx hb d_K_handOverChildren_66 rfl (lv_at hl 3 rfl) ?_
          refine lv_if_eq (tgt := 74) hx hb d_K_handOverChildren_67 rfl (fun hc => ?_) (fun hc => ?_)
          · have hw := hw.1 hc
            refine lv_iconst (v := -1) hx hb d_K_handOverChildren_74 (by decide) ?_
            exact J75 _ ih _ _ _ s2 v2 v3 v3.toNatClampNeg hj1 (-1 : Int32) v3.toNatClampNeg hj1 (lv_sub hl [1, 2, 3, 4, 0] rfl) hV hw
          · have hw := hw.2 hc
            refine lv_iconst (v := 0) hx hb d_K_handOverChildren_70 (by decide) ?_
            refine lv_goto (tgt := 75) hx hb d_K_handOverChildren_71 rfl ?_
            exact J75 _ ih _ _ _ s2 v2 v3 v3.toNatClampNeg hj1 (0 : Int32) v3.toNatClampNeg hj1 (lv_sub hl [1, 2, 3, 4, 0] rfl) hV hw
  unfold w_K_handOverChildren at hw
  refine lv_aload_n hx hb d_K_handOverChildren_0 rfl (lv_at hl 1 rfl) ?_
  refine kg_K_P_number hx hb hG hown hK hV hp1 d_K_handOverChildren_1 ?_
  refine lv_if_eq (tgt := 37) hx hb d_K_handOverChildren_4 rfl (fun hc => ?_) (fun hc => ?_)
  · have hw := hw.1 hc
    refine lv_iconst (v := 0) hx hb d_K_handOverChildren_37 (by decide) ?_
    refine lv_istore_n (lv' := [(2, .int (0 : Int32)), (0, .ref (ea E 0 0)), (1, .ref (ea E 1 p1))]) hx hb d_K_handOverChildren_38 rfl hl (by decide) rfl (fun ls hl => ?_)
    refine lv_iconst (v := 0) hx hb d_K_handOverChildren_39 (by decide) ?_
    refine lv_istore_n (lv' := [(3, .int (0 : Int32)), (2, .int (0 : Int32)), (0, .ref (ea E 0 0)), (1, .ref (ea E 1 p1))]) hx hb d_K_handOverChildren_40 rfl hl (by decide) rfl (fun ls hl => ?_)
    obtain ⟨n, hw⟩ := hw
    exact L41 n _ _ _ s0 (0 : Int32) (0 : Int32) (lv_sub hl [2, 3, 1, 0] rfl) hV hw
  · have hw := hw.2 hc
    refine lv_aload_n hx hb d_K_handOverChildren_7 rfl (lv_at hl 0 rfl) ?_
    refine kg_K_K_procs hx hb hG hown hK hV d_K_handOverChildren_8 ?_
    refine lv_iconst (v := 0) hx hb d_K_handOverChildren_11 (by decide) ?_
    have hj1 := vp_lt hw.1
    refine kl_9 hx hb hK hV hw.1 d_K_handOverChildren_12 ?_
    have hw := hw.2
    refine kg_K_P_state hx hb hG hown hK hV hj1 d_K_handOverChildren_13 ?_
    refine lv_if_eq (tgt := 37) hx hb d_K_handOverChildren_16 rfl (fun hc => ?_) (fun hc => ?_)
    · have hw := hw.1 hc
      refine lv_iconst (v := 0) hx hb d_K_handOverChildren_37 (by decide) ?_
      refine lv_istore_n (lv' := [(2, .int (0 : Int32)), (0, .ref (ea E 0 0)), (1, .ref (ea E 1 p1))]) hx hb d_K_handOverChildren_38 rfl hl (by decide) rfl (fun ls hl => ?_)
      refine lv_iconst (v := 0) hx hb d_K_handOverChildren_39 (by decide) ?_
      refine lv_istore_n (lv' := [(3, .int (0 : Int32)), (2, .int (0 : Int32)), (0, .ref (ea E 0 0)), (1, .ref (ea E 1 p1))]) hx hb d_K_handOverChildren_40 rfl hl (by decide) rfl (fun ls hl => ?_)
      obtain ⟨n, hw⟩ := hw
      exact L41 n _ _ _ s0 (0 : Int32) (0 : Int32) (lv_sub hl [2, 3, 1, 0] rfl) hV hw
    · have hw := hw.2 hc
      refine lv_aload_n hx hb d_K_handOverChildren_19 rfl (lv_at hl 0 rfl) ?_
      refine kg_K_K_procs hx hb hG hown hK hV d_K_handOverChildren_20 ?_
      refine lv_iconst (v := 0) hx hb d_K_handOverChildren_23 (by decide) ?_
      have hj2 := vp_lt hw.1
      refine kl_9 hx hb hK hV hw.1 d_K_handOverChildren_24 ?_
      have hw := hw.2
      refine kg_K_P_state hx hb hG hown hK hV hj2 d_K_handOverChildren_25 ?_
      refine lv_bipush (v := 6) hx hb d_K_handOverChildren_28 (by decide) ?_
      refine lv_icmp_eq (tgt := 37) hx hb d_K_handOverChildren_30 rfl (fun hc => ?_) (fun hc => ?_)
      · have hw := hw.1 hc
        refine lv_iconst (v := 0) hx hb d_K_handOverChildren_37 (by decide) ?_
        refine lv_istore_n (lv' := [(2, .int (0 : Int32)), (0, .ref (ea E 0 0)), (1, .ref (ea E 1 p1))]) hx hb d_K_handOverChildren_38 rfl hl (by decide) rfl (fun ls hl => ?_)
        refine lv_iconst (v := 0) hx hb d_K_handOverChildren_39 (by decide) ?_
        refine lv_istore_n (lv' := [(3, .int (0 : Int32)), (2, .int (0 : Int32)), (0, .ref (ea E 0 0)), (1, .ref (ea E 1 p1))]) hx hb d_K_handOverChildren_40 rfl hl (by decide) rfl (fun ls hl => ?_)
        obtain ⟨n, hw⟩ := hw
        exact L41 n _ _ _ s0 (0 : Int32) (0 : Int32) (lv_sub hl [2, 3, 1, 0] rfl) hV hw
      · have hw := hw.2 hc
        refine lv_iconst (v := 1) hx hb d_K_handOverChildren_33 (by decide) ?_
        refine lv_goto (tgt := 38) hx hb d_K_handOverChildren_34 rfl ?_
        refine lv_istore_n (lv' := [(2, .int (1 : Int32)), (0, .ref (ea E 0 0)), (1, .ref (ea E 1 p1))]) hx hb d_K_handOverChildren_38 rfl hl (by decide) rfl (fun ls hl => ?_)
        refine lv_iconst (v := 0) hx hb d_K_handOverChildren_39 (by decide) ?_
        refine lv_istore_n (lv' := [(3, .int (0 : Int32)), (2, .int (1 : Int32)), (0, .ref (ea E 0 0)), (1, .ref (ea E 1 p1))]) hx hb d_K_handOverChildren_40 rfl hl (by decide) rfl (fun ls hl => ?_)
        obtain ⟨n, hw⟩ := hw
        exact L41 n _ _ _ s0 (1 : Int32) (0 : Int32) (lv_sub hl [2, 3, 1, 0] rfl) hV hw
theorem d_K_longestWaiting_0 : decode b_K_longestWaiting 0 = .ok (.aconst_null, 1) := by decide +kernel
theorem d_K_longestWaiting_1 : decode b_K_longestWaiting 1 = .ok (.astore_n 2, 1) := by decide +kernel
theorem d_K_longestWaiting_2 : decode b_K_longestWaiting 2 = .ok (.iconst 0, 1) := by decide +kernel
theorem d_K_longestWaiting_3 : decode b_K_longestWaiting 3 = .ok (.istore_n 3, 1) := by decide +kernel
theorem d_K_longestWaiting_4 : decode b_K_longestWaiting 4 = .ok (.iload_n 3, 1) := by decide +kernel
theorem d_K_longestWaiting_5 : decode b_K_longestWaiting 5 = .ok (.bipush 16, 2) := by decide +kernel
theorem d_K_longestWaiting_7 : decode b_K_longestWaiting 7 = .ok (.if_icmp .ge 45, 3) := by decide +kernel
theorem d_K_longestWaiting_10 : decode b_K_longestWaiting 10 = .ok (.aload_n 0, 1) := by decide +kernel
theorem d_K_longestWaiting_11 : decode b_K_longestWaiting 11 = .ok (.getfield 11, 3) := by decide +kernel
theorem d_K_longestWaiting_14 : decode b_K_longestWaiting 14 = .ok (.iload_n 3, 1) := by decide +kernel
theorem d_K_longestWaiting_15 : decode b_K_longestWaiting 15 = .ok (.aaload, 1) := by decide +kernel
theorem d_K_longestWaiting_16 : decode b_K_longestWaiting 16 = .ok (.astore 4, 2) := by decide +kernel
theorem d_K_longestWaiting_18 : decode b_K_longestWaiting 18 = .ok (.aload 4, 2) := by decide +kernel
theorem d_K_longestWaiting_20 : decode b_K_longestWaiting 20 = .ok (.getfield 232, 3) := by decide +kernel
theorem d_K_longestWaiting_23 : decode b_K_longestWaiting 23 = .ok (.iload_n 1, 1) := by decide +kernel
theorem d_K_longestWaiting_24 : decode b_K_longestWaiting 24 = .ok (.if_icmp .ne 22, 3) := by decide +kernel
theorem d_K_longestWaiting_27 : decode b_K_longestWaiting 27 = .ok (.aload_n 2, 1) := by decide +kernel
theorem d_K_longestWaiting_28 : decode b_K_longestWaiting 28 = .ok (.ifnull 15, 3) := by decide +kernel
theorem d_K_longestWaiting_31 : decode b_K_longestWaiting 31 = .ok (.aload 4, 2) := by decide +kernel
theorem d_K_longestWaiting_33 : decode b_K_longestWaiting 33 = .ok (.getfield 235, 3) := by decide +kernel
theorem d_K_longestWaiting_36 : decode b_K_longestWaiting 36 = .ok (.aload_n 2, 1) := by decide +kernel
theorem d_K_longestWaiting_37 : decode b_K_longestWaiting 37 = .ok (.getfield 235, 3) := by decide +kernel
theorem d_K_longestWaiting_40 : decode b_K_longestWaiting 40 = .ok (.if_icmp .ge 6, 3) := by decide +kernel
theorem d_K_longestWaiting_43 : decode b_K_longestWaiting 43 = .ok (.aload 4, 2) := by decide +kernel
theorem d_K_longestWaiting_45 : decode b_K_longestWaiting 45 = .ok (.astore_n 2, 1) := by decide +kernel
theorem d_K_longestWaiting_46 : decode b_K_longestWaiting 46 = .ok (.iinc 3 1, 3) := by decide +kernel
theorem d_K_longestWaiting_49 : decode b_K_longestWaiting 49 = .ok (.goto (-45), 3) := by decide +kernel
theorem d_K_longestWaiting_52 : decode b_K_longestWaiting 52 = .ok (.aload_n 2, 1) := by decide +kernel
theorem d_K_longestWaiting_53 : decode b_K_longestWaiting 53 = .ok (.areturn, 1) := by decide +kernel
def w_K_longestWaiting_4 (cp : Nat) (x1 : Int32) (Φ : Option Nat → KS → Prop) : Nat → Option Nat → Int32 → KS → Prop
  | 0, _, _, _ => False
  | n + 1, o2, v3, s0 => (((16 : Int32) ≤ v3 → ((o2 = none → Φ none s0) ∧ (∀ z1 : Nat, o2 = some z1 → Φ (some z1) s0))) ∧ (¬ (16 : Int32) ≤ v3 → vp_in v3 16 ∧ ((¬ (s0 1 v3.toNatClampNeg 10) = x1 → ∀ y3 : Int32, y3 = v3 + (1 : Int32) → w_K_longestWaiting_4 cp x1 Φ n o2 y3 s0) ∧ ((s0 1 v3.toNatClampNeg 10) = x1 → ((o2 = none → ∀ y5 : Int32, y5 = v3 + (1 : Int32) → w_K_longestWaiting_4 cp x1 Φ n (some v3.toNatClampNeg) y5 s0) ∧ (∀ z4 : Nat, o2 = some z4 → (((s0 1 z4 11) ≤ (s0 1 v3.toNatClampNeg 11) → ∀ y6 : Int32, y6 = v3 + (1 : Int32) → w_K_longestWaiting_4 cp x1 Φ n (some z4) y6 s0) ∧ (¬ (s0 1 z4 11) ≤ (s0 1 v3.toNatClampNeg 11) → ∀ y7 : Int32, y7 = v3 + (1 : Int32) → w_K_longestWaiting_4 cp x1 Φ n (some v3.toNatClampNeg) y7 s0))))))))
def w_K_longestWaiting (cp : Nat) (x1 : Int32) (s0 : KS) (Φ : Option Nat → KS → Prop) : Prop := ∃ n : Nat, w_K_longestWaiting_4 cp x1 Φ n none (0 : Int32) s0
set_option maxHeartbeats 4000000 in
set_option maxRecDepth 100000 in
theorem c_K_longestWaiting (l : Launch) (E : gE) (s0 : KS) (x1 : Int32) (Φ : Option Nat → KS → Prop) (hw : w_K_longestWaiting (eN E) x1 s0 Φ) : gMq l y_K_longestWaiting v_K_longestWaiting m_K_longestWaiting E KK [.ref (ea E 0 0), .int x1] s0 Φ := by
  intro sz
  refine Met.ofW (cc := b_K_longestWaiting) (maxL := 5) (ret := (some (.object "PipeKernel$Proc"))) (by decide) rfl ?_
  intro p e s m args below meth c s₁ B hml hv
  obtain ⟨rfl, hsz, hP, hK, hD, hX⟩ := hv
  have hx := B.exec
  have hb := B.bytes
  have hr := B.returns
  have hts := atoms_spec (ws := v_K_longestWaiting) B.pre
  have hG : ∀ w ∈ gG, w.before _ s = true := fun w h => hts w (List.mem_cons_of_mem _ h)
  have hown : s.vm.findClass R_K = some m.cls := findClass_of_methodNamed B.named
  have hlocks := B.notSynchronized
  subst hsz
  obtain ⟨A, hAe⟩ : ∃ A, A = gA E KK s.heap.size := ⟨_, rfl⟩
  rw [← hAe] at hD hX ⊢
  have hV : gV E KK A s0 s s.heap [] := ⟨hP, hD, va_S.rf⟩
  have hl := lv_entry ([.ref (ea E 0 0), .int x1] : List Value) (n := 5) (Nat.le_of_ble_eq_true rfl)
  rw [lg_entry_eq]
  generalize (lg_sl ([.ref (ea E 0 0), .int x1] : List Value) ++ List.replicate (5 - (lg_sl ([.ref (ea E 0 0), .int x1] : List Value)).length) Slot.unset).toArray = ls at hl ⊢
  have hl : lv_has ls 5 [(0, .ref (ea E 0 0)), (1, .int x1)] := hl
  have L4 : ∀ (n : Nat), ∀ (ls : Array Slot) (H : Heap) (locs : List Loc) (s0 : KS) (o2 : Option Nat) (ho2 : ∀ z : Nat, o2 = some z → z < 16) (v3 : Int32), lv_has ls 5 [(0, .ref (ea E 0 0)), (1, .int x1), (2, va_rf (Option.map (ea E 1) o2)), (3, .int v3)] → gV E KK A s0 s H locs → w_K_longestWaiting_4 (eN E) x1 Φ n o2 v3 s0 → W p l e m_K_longestWaiting s m ([.ref (ea E 0 0), .int x1] : List Value).toArray below meth c H locs 0 0 (MQ below (gQq E KK A Φ) ([.ref (ea E 0 0), .int x1] : List Value).toArray s 0 0 A) (F0 m 4 ls []) := by
    intro n
    induction n with
    | zero =>
      intro ls H locs s0 o2 ho2 v3 hl hV hw
      exact False.elim hw
    | succ n ih =>
      intro ls H locs s0 o2 ho2 v3 hl hV hw
      unfold w_K_longestWaiting_4 at hw
      refine lv_iload_n hx hb d_K_longestWaiting_4 rfl (lv_at hl 3 rfl) ?_
      refine lv_bipush (v := 16) hx hb d_K_longestWaiting_5 (by decide) ?_
      refine lv_icmp_ge (tgt := 52) hx hb d_K_longestWaiting_7 rfl (fun hc => ?_) (fun hc => ?_)
      · have hw := hw.1 hc
        rcases o2 with _ | z1
        · have hw := hw.1 rfl
          have hl : lv_has ls 5 [(0, .ref (ea E 0 0)), (1, .int x1), (2, .null), (3, .int v3)] := hl
          refine lv_aload_nN hx hb d_K_longestWaiting_52 rfl (lv_at hl 2 rfl) ?_
          exact kr_q (o := none) hx hb hr hV hK hX hAe (fun _ h => by cases h) hw d_K_longestWaiting_53
        · have hw := hw.2 z1 rfl
          have hl : lv_has ls 5 [(0, .ref (ea E 0 0)), (1, .int x1), (2, .ref (ea E 1 z1)), (3, .int v3)] := hl
          refine lv_aload_n hx hb d_K_longestWaiting_52 rfl (lv_at hl 2 rfl) ?_
          exact kr_q (o := (some z1)) hx hb hr hV hK hX hAe (fun z h => by cases h; exact (ho2 z1 rfl)) hw d_K_longestWaiting_53
      · have hw := hw.2 hc
        refine lv_aload_n hx hb d_K_longestWaiting_10 rfl (lv_at hl 0 rfl) ?_
        refine kg_K_K_procs hx hb hG hown hK hV d_K_longestWaiting_11 ?_
        refine lv_iload_n hx hb d_K_longestWaiting_14 rfl (lv_at hl 3 rfl) ?_
        have hj2 := vp_lt hw.1
        refine kl_9 hx hb hK hV hw.1 d_K_longestWaiting_15 ?_
        have hw := hw.2
        refine lv_astore (lv' := [(4, .ref (ea E 1 v3.toNatClampNeg)), (0, .ref (ea E 0 0)), (1, .int x1), (2, va_rf (Option.map (ea E 1) o2)), (3, .int v3)]) hx hb d_K_longestWaiting_16 hl (by decide) rfl (fun ls hl => ?_)
        refine lv_aload hx hb d_K_longestWaiting_18 (lv_at hl 0 rfl) ?_
        refine kg_K_P_waitsOn hx hb hG hown hK hV hj2 d_K_longestWaiting_20 ?_
        refine lv_iload_n hx hb d_K_longestWaiting_23 rfl (lv_at hl 2 rfl) ?_
        refine lv_icmp_ne (tgt := 46) hx hb d_K_longestWaiting_24 rfl (fun hc => ?_) (fun hc => ?_)
        · have hw := hw.1 hc
          obtain ⟨y3, ey3⟩ : ∃ z : Int32, z = v3 + (1 : Int32) := ⟨_, rfl⟩
          have hw := hw y3 ey3
          refine lv_iinc (k := 4) (v := y3) (lv' := [(3, .int y3), (4, .ref (ea E 1 v3.toNatClampNeg)), (0, .ref (ea E 0 0)), (1, .int x1), (2, va_rf (Option.map (ea E 1) o2))]) hx hb d_K_longestWaiting_46 hl rfl (by rw [ey3]; rfl) (by decide) (by rcases o2 with _ | z <;> rfl) (fun ls hl => ?_)
          refine lv_goto (tgt := 4) hx hb d_K_longestWaiting_49 rfl ?_
          exact ih _ _ _ s0 o2 ho2 y3 (lv_sub hl [2, 3, 4, 0] rfl) hV hw
        · have hw := hw.2 hc
          rcases o2 with _ | z4
          · have hw := hw.1 rfl
            have hl : lv_has ls 5 [(4, .ref (ea E 1 v3.toNatClampNeg)), (0, .ref (ea E 0 0)), (1, .int x1), (2, .null), (3, .int v3)] := hl
            refine lv_aload_nN hx hb d_K_longestWaiting_27 rfl (lv_at hl 3 rfl) ?_
            refine lv_ifnullN (tgt := 43) hx hb d_K_longestWaiting_28 rfl ?_
            refine lv_aload hx hb d_K_longestWaiting_43 (lv_at hl 0 rfl) ?_
            refine lv_astore_n (lv' := [(2, .ref (ea E 1 v3.toNatClampNeg)), (4, .ref (ea E 1 v3.toNatClampNeg)), (0, .ref (ea E 0 0)), (1, .int x1), (3, .int v3)]) hx hb d_K_longestWaiting_45 rfl hl (by decide) rfl (fun ls hl => ?_)
            obtain ⟨y5, ey5⟩ : ∃ z : Int32, z = v3 + (1 : Int32) := ⟨_, rfl⟩
            have hw := hw y5 ey5
            refine lv_iinc (k := 4) (v := y5) (lv' := [(3, .int y5), (2, .ref (ea E 1 v3.toNatClampNeg)), (4, .ref (ea E 1 v3.toNatClampNeg)), (0, .ref (ea E 0 0)), (1, .int x1)]) hx hb d_K_longestWaiting_46 hl rfl (by rw [ey5]; rfl) (by decide) rfl (fun ls hl => ?_)
            refine lv_goto (tgt := 4) hx hb d_K_longestWaiting_49 rfl ?_
            exact ih _ _ _ s0 (some v3.toNatClampNeg) (fun z h => by cases h; exact hj2) y5 (lv_sub hl [3, 4, 1, 0] rfl) hV hw
          · have hw := hw.2 z4 rfl
            have hl : lv_has ls 5 [(4, .ref (ea E 1 v3.toNatClampNeg)), (0, .ref (ea E 0 0)), (1, .int x1), (2, .ref (ea E 1 z4)), (3, .int v3)] := hl
            refine lv_aload_n hx hb d_K_longestWaiting_27 rfl (lv_at hl 3 rfl) ?_
            refine lv_ifnull hx hb d_K_longestWaiting_28 ?_
            refine lv_aload hx hb d_K_longestWaiting_31 (lv_at hl 0 rfl) ?_
            refine kg_K_P_waitsSince hx hb hG hown hK hV hj2 d_K_longestWaiting_33 ?_
            refine lv_aload_n hx hb d_K_longestWaiting_36 rfl (lv_at hl 3 rfl) ?_
            refine kg_K_P_waitsSince hx hb hG hown hK hV (ho2 z4 rfl) d_K_longestWaiting_37 ?_
            refine lv_icmp_ge (tgt := 46) hx hb d_K_longestWaiting_40 rfl (fun hc => ?_) (fun hc => ?_)
            · have hw := hw.1 hc
              obtain ⟨y6, ey6⟩ : ∃ z : Int32, z = v3 + (1 : Int32) := ⟨_, rfl⟩
              have hw := hw y6 ey6
              refine lv_iinc (k := 4) (v := y6) (lv' := [(3, .int y6), (4, .ref (ea E 1 v3.toNatClampNeg)), (0, .ref (ea E 0 0)), (1, .int x1), (2, .ref (ea E 1 z4))]) hx hb d_K_longestWaiting_46 hl rfl (by rw [ey6]; rfl) (by decide) rfl (fun ls hl => ?_)
              refine lv_goto (tgt := 4) hx hb d_K_longestWaiting_49 rfl ?_
              exact ih _ _ _ s0 (some z4) (fun z h => by cases h; exact (ho2 z4 rfl)) y6 (lv_sub hl [2, 3, 4, 0] rfl) hV hw
            · have hw := hw.2 hc
              refine lv_aload hx hb d_K_longestWaiting_43 (lv_at hl 0 rfl) ?_
              refine lv_astore_n (lv' := [(2, .ref (ea E 1 v3.toNatClampNeg)), (4, .ref (ea E 1 v3.toNatClampNeg)), (0, .ref (ea E 0 0)), (1, .int x1), (3, .int v3)]) hx hb d_K_longestWaiting_45 rfl hl (by decide) rfl (fun ls hl => ?_)
              obtain ⟨y7, ey7⟩ : ∃ z : Int32, z = v3 + (1 : Int32) := ⟨_, rfl⟩
              have hw := hw y7 ey7
              refine lv_iinc (k := 4) (v := y7) (lv' := [(3, .int y7), (2, .ref (ea E 1 v3.toNatClampNeg)), (4, .ref (ea E 1 v3.toNatClampNeg)), (0, .ref (ea E 0 0)), (1, .int x1)]) hx hb d_K_longestWaiting_46 hl rfl (by rw [ey7]; rfl) (by decide) rfl (fun ls hl => ?_)
              refine lv_goto (tgt := 4) hx hb d_K_longestWaiting_49 rfl ?_
              exact ih _ _ _ s0 (some v3.toNatClampNeg) (fun z h => by cases h; exact hj2) y7 (lv_sub hl [3, 4, 1, 0] rfl) hV hw
  unfold w_K_longestWaiting at hw
  refine lv_null hx hb d_K_longestWaiting_0 ?_
  refine lv_astore_nN (lv' := [(2, .null), (0, .ref (ea E 0 0)), (1, .int x1)]) hx hb d_K_longestWaiting_1 rfl hl (by decide) rfl (fun ls hl => ?_)
  refine lv_iconst (v := 0) hx hb d_K_longestWaiting_2 (by decide) ?_
  refine lv_istore_n (lv' := [(3, .int (0 : Int32)), (2, .null), (0, .ref (ea E 0 0)), (1, .int x1)]) hx hb d_K_longestWaiting_3 rfl hl (by decide) rfl (fun ls hl => ?_)
  obtain ⟨n, hw⟩ := hw
  exact L4 n _ _ _ s0 none (fun _ h => by cases h) (0 : Int32) (lv_sub hl [2, 3, 1, 0] rfl) hV hw
theorem d_K_wakeAll_0 : decode b_K_wakeAll 0 = .ok (.iconst 0, 1) := by decide +kernel
theorem d_K_wakeAll_1 : decode b_K_wakeAll 1 = .ok (.istore_n 2, 1) := by decide +kernel
theorem d_K_wakeAll_2 : decode b_K_wakeAll 2 = .ok (.iload_n 2, 1) := by decide +kernel
theorem d_K_wakeAll_3 : decode b_K_wakeAll 3 = .ok (.bipush 16, 2) := by decide +kernel
theorem d_K_wakeAll_5 : decode b_K_wakeAll 5 = .ok (.if_icmp .ge 25, 3) := by decide +kernel
theorem d_K_wakeAll_8 : decode b_K_wakeAll 8 = .ok (.aload_n 0, 1) := by decide +kernel
theorem d_K_wakeAll_9 : decode b_K_wakeAll 9 = .ok (.iload_n 1, 1) := by decide +kernel
theorem d_K_wakeAll_10 : decode b_K_wakeAll 10 = .ok (.invokevirtual 342, 3) := by decide +kernel
theorem d_K_wakeAll_13 : decode b_K_wakeAll 13 = .ok (.astore_n 3, 1) := by decide +kernel
theorem d_K_wakeAll_14 : decode b_K_wakeAll 14 = .ok (.aload_n 3, 1) := by decide +kernel
theorem d_K_wakeAll_15 : decode b_K_wakeAll 15 = .ok (.ifnonnull 4, 3) := by decide +kernel
theorem d_K_wakeAll_18 : decode b_K_wakeAll 18 = .ok (.return_, 1) := by decide +kernel
theorem d_K_wakeAll_19 : decode b_K_wakeAll 19 = .ok (.aload_n 0, 1) := by decide +kernel
theorem d_K_wakeAll_20 : decode b_K_wakeAll 20 = .ok (.aload_n 3, 1) := by decide +kernel
theorem d_K_wakeAll_21 : decode b_K_wakeAll 21 = .ok (.invokevirtual 92, 3) := by decide +kernel
theorem d_K_wakeAll_24 : decode b_K_wakeAll 24 = .ok (.iinc 2 1, 3) := by decide +kernel
theorem d_K_wakeAll_27 : decode b_K_wakeAll 27 = .ok (.goto (-25), 3) := by decide +kernel
theorem d_K_wakeAll_30 : decode b_K_wakeAll 30 = .ok (.return_, 1) := by decide +kernel
def w_K_wakeAll_2 (cp : Nat) (x1 : Int32) (Φ : KS → Prop) : Nat → Int32 → KS → Prop
  | 0, _, _ => False
  | n + 1, v2, s0 => (((16 : Int32) ≤ v2 → Φ s0) ∧ (¬ (16 : Int32) ≤ v2 → w_K_longestWaiting cp x1 s0 (fun o2 s1 => ((o2 = none → Φ s1) ∧ (∀ z3 : Nat, o2 = some z3 → w_K_makeReady cp z3 s1 (fun s4 => ∀ y5 : Int32, y5 = v2 + (1 : Int32) → w_K_wakeAll_2 cp x1 Φ n y5 s4))))))
def w_K_wakeAll (cp : Nat) (x1 : Int32) (s0 : KS) (Φ : KS → Prop) : Prop := ∃ n : Nat, w_K_wakeAll_2 cp x1 Φ n (0 : Int32) s0
set_option maxHeartbeats 4000000 in
set_option maxRecDepth 100000 in
theorem c_K_wakeAll (l : Launch) (E : gE) (s0 : KS) (x1 : Int32) (Φ : KS → Prop) (hw : w_K_wakeAll (eN E) x1 s0 Φ) : gMv l y_K_wakeAll v_K_wakeAll m_K_wakeAll E KK [.ref (ea E 0 0), .int x1] s0 Φ := by
  intro sz
  refine Met.ofW (cc := b_K_wakeAll) (maxL := 4) (ret := none) (by decide) rfl ?_
  intro p e s m args below meth c s₁ B hml hv
  obtain ⟨rfl, hsz, hP, hK, hD, hX⟩ := hv
  have hx := B.exec
  have hb := B.bytes
  have hr := B.returns
  have hts := atoms_spec (ws := v_K_wakeAll) B.pre
  have hG : ∀ w ∈ gG, w.before _ s = true := fun w h => hts w (List.mem_cons_of_mem _ h)
  have hown : s.vm.findClass R_K = some m.cls := findClass_of_methodNamed B.named
  have hlocks := B.notSynchronized
  subst hsz
  obtain ⟨A, hAe⟩ : ∃ A, A = gA E KK s.heap.size := ⟨_, rfl⟩
  rw [← hAe] at hD hX ⊢
  have hV : gV E KK A s0 s s.heap [] := ⟨hP, hD, va_S.rf⟩
  have hl := lv_entry ([.ref (ea E 0 0), .int x1] : List Value) (n := 4) (Nat.le_of_ble_eq_true rfl)
  rw [lg_entry_eq]
  generalize (lg_sl ([.ref (ea E 0 0), .int x1] : List Value) ++ List.replicate (4 - (lg_sl ([.ref (ea E 0 0), .int x1] : List Value)).length) Slot.unset).toArray = ls at hl ⊢
  have hl : lv_has ls 4 [(0, .ref (ea E 0 0)), (1, .int x1)] := hl
  have L2 : ∀ (n : Nat), ∀ (ls : Array Slot) (H : Heap) (locs : List Loc) (s0 : KS) (v2 : Int32), lv_has ls 4 [(0, .ref (ea E 0 0)), (1, .int x1), (2, .int v2)] → gV E KK A s0 s H locs → w_K_wakeAll_2 (eN E) x1 Φ n v2 s0 → W p l e m_K_wakeAll s m ([.ref (ea E 0 0), .int x1] : List Value).toArray below meth c H locs 0 0 (MQ below (gQv E KK A Φ) ([.ref (ea E 0 0), .int x1] : List Value).toArray s 0 0 A) (F0 m 2 ls []) := by
    intro n
    induction n with
    | zero =>
      intro ls H locs s0 v2 hl hV hw
      exact False.elim hw
    | succ n ih =>
      intro ls H locs s0 v2 hl hV hw
      unfold w_K_wakeAll_2 at hw
      refine lv_iload_n hx hb d_K_wakeAll_2 rfl (lv_at hl 2 rfl) ?_
      refine lv_bipush (v := 16) hx hb d_K_wakeAll_3 (by decide) ?_
      refine lv_icmp_ge (tgt := 30) hx hb d_K_wakeAll_5 rfl (fun hc => ?_) (fun hc => ?_)
      · have hw := hw.1 hc
        exact kr_v hx hb hr hV hK hX hAe hw d_K_wakeAll_30
      · have hw := hw.2 hc
        refine lv_aload_n hx hb d_K_wakeAll_8 rfl (lv_at hl 0 rfl) ?_
        refine lv_iload_n hx hb d_K_wakeAll_9 rfl (lv_at hl 1 rfl) ?_
        refine kc_K_K_longestWaiting hx hb hml hown hts hV hK hX hAe (c_K_longestWaiting l E s0 x1 _ hw) hl.1 (Nat.le_of_ble_eq_true rfl) d_K_wakeAll_10 (Nat.le_of_ble_eq_true rfl) (Nat.le_of_ble_eq_true rfl) (fun o2 s1 H locs ho2 hw hV => ?_)
        rcases o2 with _ | z3
        · have hw := hw.1 rfl
          have hl : lv_has ls 4 [(0, .ref (ea E 0 0)), (1, .int x1), (2, .int v2)] := hl
          show W _ _ _ _ _ _ _ _ _ _ _ _ _ _ _ (F0 m 13 ls [.null])
          refine lv_astore_nN (lv' := [(3, .null), (0, .ref (ea E 0 0)), (1, .int x1), (2, .int v2)]) hx hb d_K_wakeAll_13 rfl hl (by decide) rfl (fun ls hl => ?_)
          refine lv_aload_nN hx hb d_K_wakeAll_14 rfl (lv_at hl 0 rfl) ?_
          refine lv_ifnonnullN hx hb d_K_wakeAll_15 ?_
          exact kr_v hx hb hr hV hK hX hAe hw d_K_wakeAll_18
        · have hw := hw.2 z3 rfl
          have hl : lv_has ls 4 [(0, .ref (ea E 0 0)), (1, .int x1), (2, .int v2)] := hl
          show W _ _ _ _ _ _ _ _ _ _ _ _ _ _ _ (F0 m 13 ls [.ref (ea E 1 z3)])
          refine lv_astore_n (lv' := [(3, .ref (ea E 1 z3)), (0, .ref (ea E 0 0)), (1, .int x1), (2, .int v2)]) hx hb d_K_wakeAll_13 rfl hl (by decide) rfl (fun ls hl => ?_)
          refine lv_aload_n hx hb d_K_wakeAll_14 rfl (lv_at hl 0 rfl) ?_
          refine lv_ifnonnull (tgt := 19) hx hb d_K_wakeAll_15 rfl ?_
          refine lv_aload_n hx hb d_K_wakeAll_19 rfl (lv_at hl 1 rfl) ?_
          refine lv_aload_n hx hb d_K_wakeAll_20 rfl (lv_at hl 0 rfl) ?_
          refine kc_K_K_makeReady hx hb hml hown hts hV hK hX hAe (c_K_makeReady l E s1 z3 (ho2 z3 rfl) _ hw) hl.1 (Nat.le_of_ble_eq_true rfl) d_K_wakeAll_21 (Nat.le_of_ble_eq_true rfl) (Nat.le_of_ble_eq_true rfl) (fun s4 H locs hw hV => ?_)
          obtain ⟨y5, ey5⟩ : ∃ z : Int32, z = v2 + (1 : Int32) := ⟨_, rfl⟩
          have hw := hw y5 ey5
          refine lv_iinc (k := 3) (v := y5) (lv' := [(2, .int y5), (3, .ref (ea E 1 z3)), (0, .ref (ea E 0 0)), (1, .int x1)]) hx hb d_K_wakeAll_24 hl rfl (by rw [ey5]; rfl) (by decide) rfl (fun ls hl => ?_)
          refine lv_goto (tgt := 2) hx hb d_K_wakeAll_27 rfl ?_
          exact ih _ _ _ s4 y5 (lv_sub hl [2, 3, 0] rfl) hV hw
  unfold w_K_wakeAll at hw
  refine lv_iconst (v := 0) hx hb d_K_wakeAll_0 (by decide) ?_
  refine lv_istore_n (lv' := [(2, .int (0 : Int32)), (0, .ref (ea E 0 0)), (1, .int x1)]) hx hb d_K_wakeAll_1 rfl hl (by decide) rfl (fun ls hl => ?_)
  obtain ⟨n, hw⟩ := hw
  exact L2 n _ _ _ s0 (0 : Int32) (lv_sub hl [1, 2, 0] rfl) hV hw
theorem d_K_end_0 : decode b_K_end 0 = .ok (.aload_n 0, 1) := by decide +kernel
theorem d_K_end_1 : decode b_K_end 1 = .ok (.aload_n 1, 1) := by decide +kernel
theorem d_K_end_2 : decode b_K_end 2 = .ok (.invokevirtual 229, 3) := by decide +kernel
theorem d_K_end_5 : decode b_K_end 5 = .ok (.aload_n 1, 1) := by decide +kernel
theorem d_K_end_6 : decode b_K_end 6 = .ok (.iconst (-1), 1) := by decide +kernel
theorem d_K_end_7 : decode b_K_end 7 = .ok (.putfield 232, 3) := by decide +kernel
theorem d_K_end_10 : decode b_K_end 10 = .ok (.aload_n 1, 1) := by decide +kernel
theorem d_K_end_11 : decode b_K_end 11 = .ok (.bipush 6, 2) := by decide +kernel
theorem d_K_end_13 : decode b_K_end 13 = .ok (.putfield 127, 3) := by decide +kernel
theorem d_K_end_16 : decode b_K_end 16 = .ok (.aload_n 1, 1) := by decide +kernel
theorem d_K_end_17 : decode b_K_end 17 = .ok (.iload_n 2, 1) := by decide +kernel
theorem d_K_end_18 : decode b_K_end 18 = .ok (.putfield 143, 3) := by decide +kernel
theorem d_K_end_21 : decode b_K_end 21 = .ok (.iconst 0, 1) := by decide +kernel
theorem d_K_end_22 : decode b_K_end 22 = .ok (.istore_n 3, 1) := by decide +kernel
theorem d_K_end_23 : decode b_K_end 23 = .ok (.iload_n 3, 1) := by decide +kernel
theorem d_K_end_24 : decode b_K_end 24 = .ok (.bipush 8, 2) := by decide +kernel
theorem d_K_end_26 : decode b_K_end 26 = .ok (.if_icmp .ge 19, 3) := by decide +kernel
theorem d_K_end_29 : decode b_K_end 29 = .ok (.aload_n 0, 1) := by decide +kernel
theorem d_K_end_30 : decode b_K_end 30 = .ok (.aload_n 0, 1) := by decide +kernel
theorem d_K_end_31 : decode b_K_end 31 = .ok (.aload_n 1, 1) := by decide +kernel
theorem d_K_end_32 : decode b_K_end 32 = .ok (.iload_n 3, 1) := by decide +kernel
theorem d_K_end_33 : decode b_K_end 33 = .ok (.invokevirtual 332, 3) := by decide +kernel
theorem d_K_end_36 : decode b_K_end 36 = .ok (.invokevirtual 122, 3) := by decide +kernel
theorem d_K_end_39 : decode b_K_end 39 = .ok (.iinc 3 1, 3) := by decide +kernel
theorem d_K_end_42 : decode b_K_end 42 = .ok (.goto (-19), 3) := by decide +kernel
theorem d_K_end_45 : decode b_K_end 45 = .ok (.aload_n 0, 1) := by decide +kernel
theorem d_K_end_46 : decode b_K_end 46 = .ok (.aload_n 1, 1) := by decide +kernel
theorem d_K_end_47 : decode b_K_end 47 = .ok (.invokevirtual 339, 3) := by decide +kernel
theorem d_K_end_50 : decode b_K_end 50 = .ok (.aload_n 1, 1) := by decide +kernel
theorem d_K_end_51 : decode b_K_end 51 = .ok (.getfield 140, 3) := by decide +kernel
theorem d_K_end_54 : decode b_K_end 54 = .ok (.iconst (-1), 1) := by decide +kernel
theorem d_K_end_55 : decode b_K_end 55 = .ok (.if_icmp .ne 11, 3) := by decide +kernel
theorem d_K_end_58 : decode b_K_end 58 = .ok (.aload_n 1, 1) := by decide +kernel
theorem d_K_end_59 : decode b_K_end 59 = .ok (.iconst 0, 1) := by decide +kernel
theorem d_K_end_60 : decode b_K_end 60 = .ok (.putfield 127, 3) := by decide +kernel
theorem d_K_end_63 : decode b_K_end 63 = .ok (.goto 32, 3) := by decide +kernel
theorem d_K_end_66 : decode b_K_end 66 = .ok (.aload_n 0, 1) := by decide +kernel
theorem d_K_end_67 : decode b_K_end 67 = .ok (.getfield 11, 3) := by decide +kernel
theorem d_K_end_70 : decode b_K_end 70 = .ok (.aload_n 1, 1) := by decide +kernel
theorem d_K_end_71 : decode b_K_end 71 = .ok (.getfield 140, 3) := by decide +kernel
theorem d_K_end_74 : decode b_K_end 74 = .ok (.aaload, 1) := by decide +kernel
theorem d_K_end_75 : decode b_K_end 75 = .ok (.getfield 127, 3) := by decide +kernel
theorem d_K_end_78 : decode b_K_end 78 = .ok (.iconst 4, 1) := by decide +kernel
theorem d_K_end_79 : decode b_K_end 79 = .ok (.if_icmp .ne 16, 3) := by decide +kernel
theorem d_K_end_82 : decode b_K_end 82 = .ok (.aload_n 0, 1) := by decide +kernel
theorem d_K_end_83 : decode b_K_end 83 = .ok (.aload_n 0, 1) := by decide +kernel
theorem d_K_end_84 : decode b_K_end 84 = .ok (.getfield 11, 3) := by decide +kernel
theorem d_K_end_87 : decode b_K_end 87 = .ok (.aload_n 1, 1) := by decide +kernel
theorem d_K_end_88 : decode b_K_end 88 = .ok (.getfield 140, 3) := by decide +kernel
theorem d_K_end_91 : decode b_K_end 91 = .ok (.aaload, 1) := by decide +kernel
theorem d_K_end_92 : decode b_K_end 92 = .ok (.invokevirtual 92, 3) := by decide +kernel
theorem d_K_end_95 : decode b_K_end 95 = .ok (.aload_n 0, 1) := by decide +kernel
theorem d_K_end_96 : decode b_K_end 96 = .ok (.getfield 11, 3) := by decide +kernel
theorem d_K_end_99 : decode b_K_end 99 = .ok (.iconst 0, 1) := by decide +kernel
theorem d_K_end_100 : decode b_K_end 100 = .ok (.aaload, 1) := by decide +kernel
theorem d_K_end_101 : decode b_K_end 101 = .ok (.getfield 127, 3) := by decide +kernel
theorem d_K_end_104 : decode b_K_end 104 = .ok (.iconst 4, 1) := by decide +kernel
theorem d_K_end_105 : decode b_K_end 105 = .ok (.if_icmp .ne 26, 3) := by decide +kernel
theorem d_K_end_108 : decode b_K_end 108 = .ok (.aload_n 0, 1) := by decide +kernel
theorem d_K_end_109 : decode b_K_end 109 = .ok (.aload_n 0, 1) := by decide +kernel
theorem d_K_end_110 : decode b_K_end 110 = .ok (.getfield 11, 3) := by decide +kernel
theorem d_K_end_113 : decode b_K_end 113 = .ok (.iconst 0, 1) := by decide +kernel
theorem d_K_end_114 : decode b_K_end 114 = .ok (.aaload, 1) := by decide +kernel
theorem d_K_end_115 : decode b_K_end 115 = .ok (.invokevirtual 225, 3) := by decide +kernel
theorem d_K_end_118 : decode b_K_end 118 = .ok (.ifnull 13, 3) := by decide +kernel
theorem d_K_end_121 : decode b_K_end 121 = .ok (.aload_n 0, 1) := by decide +kernel
theorem d_K_end_122 : decode b_K_end 122 = .ok (.aload_n 0, 1) := by decide +kernel
theorem d_K_end_123 : decode b_K_end 123 = .ok (.getfield 11, 3) := by decide +kernel
theorem d_K_end_126 : decode b_K_end 126 = .ok (.iconst 0, 1) := by decide +kernel
theorem d_K_end_127 : decode b_K_end 127 = .ok (.aaload, 1) := by decide +kernel
theorem d_K_end_128 : decode b_K_end 128 = .ok (.invokevirtual 92, 3) := by decide +kernel
theorem d_K_end_131 : decode b_K_end 131 = .ok (.return_, 1) := by decide +kernel
def w_K_end_95 (cp : Nat) (p1 : Nat) (x2 : Int32) (Φ : KS → Prop) (s0 : KS) : Prop := vp_in (0 : Int32) 16 ∧ ((¬ (s0 1 ((0 : Int32).toNatClampNeg) 7) = (4 : Int32) → Φ s0) ∧ ((s0 1 ((0 : Int32).toNatClampNeg) 7) = (4 : Int32) → vp_in (0 : Int32) 16 ∧ w_K_endedChild cp ((0 : Int32).toNatClampNeg) s0 (fun o4 s3 => ((o4 = none → Φ s3) ∧ (∀ z5 : Nat, o4 = some z5 → vp_in (0 : Int32) 16 ∧ w_K_makeReady cp ((0 : Int32).toNatClampNeg) s3 (fun s7 => Φ s7))))))
def w_K_end_23 (cp : Nat) (p1 : Nat) (x2 : Int32) (Φ : KS → Prop) : Nat → Int32 → KS → Prop
  | 0, _, _ => False
  | n + 1, v3, s0 => (((8 : Int32) ≤ v3 → w_K_handOverChildren cp p1 s0 (fun s1 => ((¬ (s1 1 p1 6) = (-1 : Int32) → vp_in (s1 1 p1 6) 16 ∧ ((¬ (s1 1 ((s1 1 p1 6).toNatClampNeg) 7) = (4 : Int32) → w_K_end_95 cp p1 x2 Φ s1) ∧ ((s1 1 ((s1 1 p1 6).toNatClampNeg) 7) = (4 : Int32) → vp_in (s1 1 p1 6) 16 ∧ w_K_makeReady cp ((s1 1 p1 6).toNatClampNeg) s1 (fun s4 => w_K_end_95 cp p1 x2 Φ s4)))) ∧ ((s1 1 p1 6) = (-1 : Int32) → ∀ s5 : KS, s5 = w3 s1 1 p1 7 (0 : Int32) → w_K_end_95 cp p1 x2 Φ s5)))) ∧ (¬ (8 : Int32) ≤ v3 → w_K_closeDescriptor cp p1 v3 s0 (fun r7 s6 => w_K_wakeAll cp r7 s6 (fun s8 => ∀ y9 : Int32, y9 = v3 + (1 : Int32) → w_K_end_23 cp p1 x2 Φ n y9 s8))))
def w_K_end (cp : Nat) (p1 : Nat) (x2 : Int32) (s0 : KS) (Φ : KS → Prop) : Prop := w_K_leaveQueue cp p1 s0 (fun s1 => ∀ s2 : KS, s2 = w3 s1 1 p1 10 (-1 : Int32) → ∀ s3 : KS, s3 = w3 s2 1 p1 7 (6 : Int32) → ∀ s4 : KS, s4 = w3 s3 1 p1 8 x2 → ∃ n : Nat, w_K_end_23 cp p1 x2 Φ n (0 : Int32) s4)
set_option maxHeartbeats 4000000 in
set_option maxRecDepth 100000 in
theorem c_K_end (l : Launch) (E : gE) (s0 : KS) (p1 : Nat) (hp1 : p1 < 16) (x2 : Int32) (Φ : KS → Prop) (hw : w_K_end (eN E) p1 x2 s0 Φ) : gMv l y_K_end v_K_end m_K_end E KK [.ref (ea E 0 0), .ref (ea E 1 p1), .int x2] s0 Φ := by
  intro sz
  refine Met.ofW (cc := b_K_end) (maxL := 4) (ret := none) (by decide) rfl ?_
  intro p e s m args below meth c s₁ B hml hv
  obtain ⟨rfl, hsz, hP, hK, hD, hX⟩ := hv
  have hx := B.exec
  have hb := B.bytes
  have hr := B.returns
  have hts := atoms_spec (ws := v_K_end) B.pre
  have hG : ∀ w ∈ gG, w.before _ s = true := fun w h => hts w (List.mem_cons_of_mem _ h)
  have hown : s.vm.findClass R_K = some m.cls := findClass_of_methodNamed B.named
  have hlocks := B.notSynchronized
  subst hsz
  obtain ⟨A, hAe⟩ : ∃ A, A = gA E KK s.heap.size := ⟨_, rfl⟩
  rw [← hAe] at hD hX ⊢
  have hV : gV E KK A s0 s s.heap [] := ⟨hP, hD, va_S.rf⟩
  have hl := lv_entry ([.ref (ea E 0 0), .ref (ea E 1 p1), .int x2] : List Value) (n := 4) (Nat.le_of_ble_eq_true rfl)
  rw [lg_entry_eq]
  generalize (lg_sl ([.ref (ea E 0 0), .ref (ea E 1 p1), .int x2] : List Value) ++ List.replicate (4 - (lg_sl ([.ref (ea E 0 0), .ref (ea E 1 p1), .int x2] : List Value)).length) Slot.unset).toArray = ls at hl ⊢
  have hl : lv_has ls 4 [(0, .ref (ea E 0 0)), (1, .ref (ea E 1 p1)), (2, .int x2)] := hl
  have J95 : ∀ (ls : Array Slot) (H : Heap) (locs : List Loc) (s0 : KS), lv_has ls 4 [(0, .ref (ea E 0 0))] → gV E KK A s0 s H locs → w_K_end_95 (eN E) p1 x2 Φ s0 → W p l e m_K_end s m ([.ref (ea E 0 0), .ref (ea E 1 p1), .int x2] : List Value).toArray below meth c H locs 0 0 (MQ below (gQv E KK A Φ) ([.ref (ea E 0 0), .ref (ea E 1 p1), .int x2] : List Value).toArray s 0 0 A) (F0 m 95 ls []) := by
    intro  ls H locs s0 hl hV hw
    unfold w_K_end_95 at hw
    refine lv_aload_n hx hb d_K_end_95 rfl (lv_at hl 0 rfl) ?_
    refine kg_K_K_procs hx hb hG hown hK hV d_K_end_96 ?_
    refine lv_iconst (v := 0) hx hb d_K_end_99 (by decide) ?_
    have hj1 := vp_lt hw.1
    refine kl_9 hx hb hK hV hw.1 d_K_end_100 ?_
    have hw := hw.2
    refine kg_K_P_state hx hb hG hown hK hV hj1 d_K_end_101 ?_
    refine lv_iconst (v := 4) hx hb d_K_end_104 (by decide) ?_
    refine lv_icmp_ne (tgt := 131) hx hb d_K_end_105 rfl (fun hc => ?_) (fun hc => ?_)
    · have hw := hw.1 hc
      exact kr_v hx hb hr hV hK hX hAe hw d_K_end_131
    · have hw := hw.2 hc
      refine lv_aload_n hx hb d_K_end_108 rfl (lv_at hl 0 rfl) ?_
      refine lv_aload_n hx hb d_K_end_109 rfl (lv_at hl 0 rfl) ?_
      refine kg_K_K_procs hx hb hG hown hK hV d_K_end_110 ?_
      refine lv_iconst (v := 0) hx hb d_K_end_113 (by decide) ?_
      have hj2 := vp_lt hw.1
      refine kl_9 hx hb hK hV hw.1 d_K_end_114 ?_
      have hw := hw.2
      refine kc_K_K_endedChild hx hb hml hown hts hV hK hX hAe (c_K_endedChild l E s0 ((0 : Int32).toNatClampNeg) hj2 _ hw) hl.1 (Nat.le_of_ble_eq_true rfl) d_K_end_115 (Nat.le_of_ble_eq_true rfl) (Nat.le_of_ble_eq_true rfl) (fun o4 s3 H locs ho4 hw hV => ?_)
      rcases o4 with _ | z5
      · have hw := hw.1 rfl
        have hl : lv_has ls 4 [(0, .ref (ea E 0 0))] := hl
        show W _ _ _ _ _ _ _ _ _ _ _ _ _ _ _ (F0 m 118 ls [.null])
        refine lv_ifnullN (tgt := 131) hx hb d_K_end_118 rfl ?_
        exact kr_v hx hb hr hV hK hX hAe hw d_K_end_131
      · have hw := hw.2 z5 rfl
        have hl : lv_has ls 4 [(0, .ref (ea E 0 0))] := hl
        show W _ _ _ _ _ _ _ _ _ _ _ _ _ _ _ (F0 m 118 ls [.ref (ea E 1 z5)])
        refine lv_ifnull hx hb d_K_end_118 ?_
        refine lv_aload_n hx hb d_K_end_121 rfl (lv_at hl 0 rfl) ?_
        refine lv_aload_n hx hb d_K_end_122 rfl (lv_at hl 0 rfl) ?_
        refine kg_K_K_procs hx hb hG hown hK hV d_K_end_123 ?_
        refine lv_iconst (v := 0) hx hb d_K_end_126 (by decide) ?_
        have hj6 := vp_lt hw.1
        refine kl_9 hx hb hK hV hw.1 d_K_end_127 ?_
        have hw := hw.2
        refine kc_K_K_makeReady hx hb hml hown hts hV hK hX hAe (c_K_makeReady l E s3 ((0 : Int32).toNatClampNeg) hj6 _ hw) hl.1 (Nat.le_of_ble_eq_true rfl) d_K_end_128 (Nat.le_of_ble_eq_true rfl) (Nat.le_of_ble_eq_true rfl) (fun s7 H locs hw hV => ?_)
        exact kr_v hx hb hr hV hK hX hAe hw d_K_end_131
  have L23 : ∀ (n : Nat), ∀ (ls : Array Slot) (H : Heap) (locs : List Loc) (s0 : KS) (v3 : Int32), lv_has ls 4 [(0, .ref (ea E 0 0)), (1, .ref (ea E 1 p1)), (3, .int v3)] → gV E KK A s0 s H locs → w_K_end_23 (eN E) p1 x2 Φ n v3 s0 → W p l e m_K_end s m ([.ref (ea E 0 0), .ref (ea E 1 p1), .int x2] : List Value).toArray below meth c H locs 0 0 (MQ below (gQv E KK A Φ) ([.ref (ea E 0 0), .ref (ea E 1 p1), .int x2] : List Value).toArray s 0 0 A) (F0 m 23 ls []) := by
    intro n
    induction n with
    | zero =>
      intro ls H locs s0 v3 hl hV hw
      exact False.elim hw
    | succ n ih =>
      intro ls H locs s0 v3 hl hV hw
      unfold w_K_end_23 at hw
      refine lv_iload_n hx hb d_K_end_23 rfl (lv_at hl 2 rfl) ?_
      refine lv_bipush (v := 8) hx hb d_K_end_24 (by decide) ?_
      refine lv_icmp_ge (tgt := 45) hx hb d_K_end_26 rfl (fun hc => ?_) (fun hc => ?_)
      · have hw := hw.1 hc
        refine lv_aload_n hx hb d_K_end_45 rfl (lv_at hl 0 rfl) ?_
        refine lv_aload_n hx hb d_K_end_46 rfl (lv_at hl 1 rfl) ?_
        refine kc_K_K_handOverChildren hx hb hml hown hts hV hK hX hAe (c_K_handOverChildren l E s0 p1 hp1 _ hw) hl.1 (Nat.le_of_ble_eq_true rfl) d_K_end_47 (Nat.le_of_ble_eq_true rfl) (Nat.le_of_ble_eq_true rfl) (fun s1 H locs hw hV => ?_)
        refine lv_aload_n hx hb d_K_end_50 rfl (lv_at hl 1 rfl) ?_
        refine kg_K_P_parent hx hb hG hown hK hV hp1 d_K_end_51 ?_
        refine lv_iconst (v := -1) hx hb d_K_end_54 (by decide) ?_
        refine lv_icmp_ne (tgt := 66) hx hb d_K_end_55 rfl (fun hc => ?_) (fun hc => ?_)
        · have hw := hw.1 hc
          refine lv_aload_n hx hb d_K_end_66 rfl (lv_at hl 0 rfl) ?_
          refine kg_K_K_procs hx hb hG hown hK hV d_K_end_67 ?_
          refine lv_aload_n hx hb d_K_end_70 rfl (lv_at hl 1 rfl) ?_
          refine kg_K_P_parent hx hb hG hown hK hV hp1 d_K_end_71 ?_
          have hj2 := vp_lt hw.1
          refine kl_9 hx hb hK hV hw.1 d_K_end_74 ?_
          have hw := hw.2
          refine kg_K_P_state hx hb hG hown hK hV hj2 d_K_end_75 ?_
          refine lv_iconst (v := 4) hx hb d_K_end_78 (by decide) ?_
          refine lv_icmp_ne (tgt := 95) hx hb d_K_end_79 rfl (fun hc => ?_) (fun hc => ?_)
          · have hw := hw.1 hc
            exact J95 _ _ _ s1 (lv_sub hl [0] rfl) hV hw
          · have hw := hw.2 hc
            refine lv_aload_n hx hb d_K_end_82 rfl (lv_at hl 0 rfl) ?_
            refine lv_aload_n hx hb d_K_end_83 rfl (lv_at hl 0 rfl) ?_
            refine kg_K_K_procs hx hb hG hown hK hV d_K_end_84 ?_
            refine lv_aload_n hx hb d_K_end_87 rfl (lv_at hl 1 rfl) ?_
            refine kg_K_P_parent hx hb hG hown hK hV hp1 d_K_end_88 ?_
            have hj3 := vp_lt hw.1
            refine kl_9 hx hb hK hV hw.1 d_K_end_91 ?_
            have hw := hw.2
            refine kc_K_K_makeReady hx hb hml hown hts hV hK hX hAe (c_K_makeReady l E s1 ((s1 1 p1 6).toNatClampNeg) hj3 _ hw) hl.1 (Nat.le_of_ble_eq_true rfl) d_K_end_92 (Nat.le_of_ble_eq_true rfl) (Nat.le_of_ble_eq_true rfl) (fun s4 H locs hw hV => ?_)
            exact J95 _ _ _ s4 (lv_sub hl [0] rfl) hV hw
        · have hw := hw.2 hc
          refine lv_aload_n hx hb d_K_end_58 rfl (lv_at hl 1 rfl) ?_
          refine lv_iconst (v := 0) hx hb d_K_end_59 (by decide) ?_
          refine kp_K_P_state hx hb hG hown hK hV hp1 d_K_end_60 (fun s5 H locs es5 hV => ?_)
          have hw := hw s5 es5
          refine lv_goto (tgt := 95) hx hb d_K_end_63 rfl ?_
          exact J95 _ _ _ s5 (lv_sub hl [0] rfl) hV hw
      · have hw := hw.2 hc
        refine lv_aload_n hx hb d_K_end_29 rfl (lv_at hl 0 rfl) ?_
        refine lv_aload_n hx hb d_K_end_30 rfl (lv_at hl 0 rfl) ?_
        refine lv_aload_n hx hb d_K_end_31 rfl (lv_at hl 1 rfl) ?_
        refine lv_iload_n hx hb d_K_end_32 rfl (lv_at hl 2 rfl) ?_
        refine kc_K_K_closeDescriptor hx hb hml hown hts hV hK hX hAe (c_K_closeDescriptor l E s0 p1 hp1 v3 _ hw) hl.1 (Nat.le_of_ble_eq_true rfl) d_K_end_33 (Nat.le_of_ble_eq_true rfl) (Nat.le_of_ble_eq_true rfl) (fun r7 s6 H locs hw hV => ?_)
        refine kc_K_K_wakeAll hx hb hml hown hts hV hK hX hAe (c_K_wakeAll l E s6 r7 _ hw) hl.1 (Nat.le_of_ble_eq_true rfl) d_K_end_36 (Nat.le_of_ble_eq_true rfl) (Nat.le_of_ble_eq_true rfl) (fun s8 H locs hw hV => ?_)
        obtain ⟨y9, ey9⟩ : ∃ z : Int32, z = v3 + (1 : Int32) := ⟨_, rfl⟩
        have hw := hw y9 ey9
        refine lv_iinc (k := 2) (v := y9) (lv' := [(3, .int y9), (0, .ref (ea E 0 0)), (1, .ref (ea E 1 p1))]) hx hb d_K_end_39 hl rfl (by rw [ey9]; rfl) (by decide) rfl (fun ls hl => ?_)
        refine lv_goto (tgt := 23) hx hb d_K_end_42 rfl ?_
        exact ih _ _ _ s8 y9 (lv_sub hl [1, 2, 0] rfl) hV hw
  unfold w_K_end at hw
  refine lv_aload_n hx hb d_K_end_0 rfl (lv_at hl 0 rfl) ?_
  refine lv_aload_n hx hb d_K_end_1 rfl (lv_at hl 1 rfl) ?_
  refine kc_K_K_leaveQueue hx hb hml hown hts hV hK hX hAe (c_K_leaveQueue l E s0 p1 hp1 _ hw) hl.1 (Nat.le_of_ble_eq_true rfl) d_K_end_2 (Nat.le_of_ble_eq_true rfl) (Nat.le_of_ble_eq_true rfl) (fun s1 H locs hw hV => ?_)
  refine lv_aload_n hx hb d_K_end_5 rfl (lv_at hl 1 rfl) ?_
  refine lv_iconst (v := -1) hx hb d_K_end_6 (by decide) ?_
  refine kp_K_P_waitsOn hx hb hG hown hK hV hp1 d_K_end_7 (fun s2 H locs es2 hV => ?_)
  have hw := hw s2 es2
  refine lv_aload_n hx hb d_K_end_10 rfl (lv_at hl 1 rfl) ?_
  refine lv_bipush (v := 6) hx hb d_K_end_11 (by decide) ?_
  refine kp_K_P_state hx hb hG hown hK hV hp1 d_K_end_13 (fun s3 H locs es3 hV => ?_)
  have hw := hw s3 es3
  refine lv_aload_n hx hb d_K_end_16 rfl (lv_at hl 1 rfl) ?_
  refine lv_iload_n hx hb d_K_end_17 rfl (lv_at hl 2 rfl) ?_
  refine kp_K_P_code hx hb hG hown hK hV hp1 d_K_end_18 (fun s4 H locs es4 hV => ?_)
  have hw := hw s4 es4
  refine lv_iconst (v := 0) hx hb d_K_end_21 (by decide) ?_
  refine lv_istore_n (lv' := [(3, .int (0 : Int32)), (0, .ref (ea E 0 0)), (1, .ref (ea E 1 p1)), (2, .int x2)]) hx hb d_K_end_22 rfl hl (by decide) rfl (fun ls hl => ?_)
  obtain ⟨n, hw⟩ := hw
  exact L23 n _ _ _ s4 (0 : Int32) (lv_sub hl [1, 2, 0] rfl) hV hw
theorem d_K_goToQueueEnd_0 : decode b_K_goToQueueEnd 0 = .ok (.aload_n 0, 1) := by decide +kernel
theorem d_K_goToQueueEnd_1 : decode b_K_goToQueueEnd 1 = .ok (.aload_n 1, 1) := by decide +kernel
theorem d_K_goToQueueEnd_2 : decode b_K_goToQueueEnd 2 = .ok (.invokevirtual 229, 3) := by decide +kernel
theorem d_K_goToQueueEnd_5 : decode b_K_goToQueueEnd 5 = .ok (.aload_n 0, 1) := by decide +kernel
theorem d_K_goToQueueEnd_6 : decode b_K_goToQueueEnd 6 = .ok (.aload_n 1, 1) := by decide +kernel
theorem d_K_goToQueueEnd_7 : decode b_K_goToQueueEnd 7 = .ok (.invokevirtual 92, 3) := by decide +kernel
theorem d_K_goToQueueEnd_10 : decode b_K_goToQueueEnd 10 = .ok (.return_, 1) := by decide +kernel
def w_K_goToQueueEnd (cp : Nat) (p1 : Nat) (s0 : KS) (Φ : KS → Prop) : Prop := w_K_leaveQueue cp p1 s0 (fun s1 => w_K_makeReady cp p1 s1 (fun s2 => Φ s2))
set_option maxHeartbeats 4000000 in
set_option maxRecDepth 100000 in
theorem c_K_goToQueueEnd (l : Launch) (E : gE) (s0 : KS) (p1 : Nat) (hp1 : p1 < 16) (Φ : KS → Prop) (hw : w_K_goToQueueEnd (eN E) p1 s0 Φ) : gMv l y_K_goToQueueEnd v_K_goToQueueEnd m_K_goToQueueEnd E KK [.ref (ea E 0 0), .ref (ea E 1 p1)] s0 Φ := by
  intro sz
  refine Met.ofW (cc := b_K_goToQueueEnd) (maxL := 2) (ret := none) (by decide) rfl ?_
  intro p e s m args below meth c s₁ B hml hv
  obtain ⟨rfl, hsz, hP, hK, hD, hX⟩ := hv
  have hx := B.exec
  have hb := B.bytes
  have hr := B.returns
  have hts := atoms_spec (ws := v_K_goToQueueEnd) B.pre
  have hG : ∀ w ∈ gG, w.before _ s = true := fun w h => hts w (List.mem_cons_of_mem _ h)
  have hown : s.vm.findClass R_K = some m.cls := findClass_of_methodNamed B.named
  have hlocks := B.notSynchronized
  subst hsz
  obtain ⟨A, hAe⟩ : ∃ A, A = gA E KK s.heap.size := ⟨_, rfl⟩
  rw [← hAe] at hD hX ⊢
  have hV : gV E KK A s0 s s.heap [] := ⟨hP, hD, va_S.rf⟩
  have hl := lv_entry ([.ref (ea E 0 0), .ref (ea E 1 p1)] : List Value) (n := 2) (Nat.le_of_ble_eq_true rfl)
  rw [lg_entry_eq]
  generalize (lg_sl ([.ref (ea E 0 0), .ref (ea E 1 p1)] : List Value) ++ List.replicate (2 - (lg_sl ([.ref (ea E 0 0), .ref (ea E 1 p1)] : List Value)).length) Slot.unset).toArray = ls at hl ⊢
  have hl : lv_has ls 2 [(0, .ref (ea E 0 0)), (1, .ref (ea E 1 p1))] := hl
  unfold w_K_goToQueueEnd at hw
  refine lv_aload_n hx hb d_K_goToQueueEnd_0 rfl (lv_at hl 0 rfl) ?_
  refine lv_aload_n hx hb d_K_goToQueueEnd_1 rfl (lv_at hl 1 rfl) ?_
  refine kc_K_K_leaveQueue hx hb hml hown hts hV hK hX hAe (c_K_leaveQueue l E s0 p1 hp1 _ hw) hl.1 (Nat.le_of_ble_eq_true rfl) d_K_goToQueueEnd_2 (Nat.le_of_ble_eq_true rfl) (Nat.le_of_ble_eq_true rfl) (fun s1 H locs hw hV => ?_)
  refine lv_aload_n hx hb d_K_goToQueueEnd_5 rfl (lv_at hl 0 rfl) ?_
  refine lv_aload_n hx hb d_K_goToQueueEnd_6 rfl (lv_at hl 1 rfl) ?_
  refine kc_K_K_makeReady hx hb hml hown hts hV hK hX hAe (c_K_makeReady l E s1 p1 hp1 _ hw) hl.1 (Nat.le_of_ble_eq_true rfl) d_K_goToQueueEnd_7 (Nat.le_of_ble_eq_true rfl) (Nat.le_of_ble_eq_true rfl) (fun s2 H locs hw hV => ?_)
  exact kr_v hx hb hr hV hK hX hAe hw d_K_goToQueueEnd_10
theorem d_K_hasChild_0 : decode b_K_hasChild 0 = .ok (.iconst 0, 1) := by decide +kernel
theorem d_K_hasChild_1 : decode b_K_hasChild 1 = .ok (.istore_n 2, 1) := by decide +kernel
theorem d_K_hasChild_2 : decode b_K_hasChild 2 = .ok (.iload_n 2, 1) := by decide +kernel
theorem d_K_hasChild_3 : decode b_K_hasChild 3 = .ok (.bipush 16, 2) := by decide +kernel
theorem d_K_hasChild_5 : decode b_K_hasChild 5 = .ok (.if_icmp .ge 24, 3) := by decide +kernel
theorem d_K_hasChild_8 : decode b_K_hasChild 8 = .ok (.aload_n 0, 1) := by decide +kernel
theorem d_K_hasChild_9 : decode b_K_hasChild 9 = .ok (.getfield 11, 3) := by decide +kernel
theorem d_K_hasChild_12 : decode b_K_hasChild 12 = .ok (.iload_n 2, 1) := by decide +kernel
theorem d_K_hasChild_13 : decode b_K_hasChild 13 = .ok (.aaload, 1) := by decide +kernel
theorem d_K_hasChild_14 : decode b_K_hasChild 14 = .ok (.aload_n 1, 1) := by decide +kernel
theorem d_K_hasChild_15 : decode b_K_hasChild 15 = .ok (.invokevirtual 316, 3) := by decide +kernel
theorem d_K_hasChild_18 : decode b_K_hasChild 18 = .ok (.ifCond .eq 5, 3) := by decide +kernel
theorem d_K_hasChild_21 : decode b_K_hasChild 21 = .ok (.iconst 1, 1) := by decide +kernel
theorem d_K_hasChild_22 : decode b_K_hasChild 22 = .ok (.ireturn, 1) := by decide +kernel
theorem d_K_hasChild_23 : decode b_K_hasChild 23 = .ok (.iinc 2 1, 3) := by decide +kernel
theorem d_K_hasChild_26 : decode b_K_hasChild 26 = .ok (.goto (-24), 3) := by decide +kernel
theorem d_K_hasChild_29 : decode b_K_hasChild 29 = .ok (.iconst 0, 1) := by decide +kernel
theorem d_K_hasChild_30 : decode b_K_hasChild 30 = .ok (.ireturn, 1) := by decide +kernel
def w_K_hasChild_2 (cp : Nat) (p1 : Nat) (Φ : Int32 → KS → Prop) : Nat → Int32 → KS → Prop
  | 0, _, _ => False
  | n + 1, v2, s0 => (((16 : Int32) ≤ v2 → Φ (0 : Int32) s0) ∧ (¬ (16 : Int32) ≤ v2 → vp_in v2 16 ∧ w_P_isChildOf cp v2.toNatClampNeg p1 s0 (fun r3 s2 => ((r3 = 0 → ∀ y4 : Int32, y4 = v2 + (1 : Int32) → w_K_hasChild_2 cp p1 Φ n y4 s2) ∧ (¬ r3 = 0 → Φ (1 : Int32) s2)))))
def w_K_hasChild (cp : Nat) (p1 : Nat) (s0 : KS) (Φ : Int32 → KS → Prop) : Prop := ∃ n : Nat, w_K_hasChild_2 cp p1 Φ n (0 : Int32) s0
set_option maxHeartbeats 4000000 in
set_option maxRecDepth 100000 in
theorem c_K_hasChild (l : Launch) (E : gE) (s0 : KS) (p1 : Nat) (hp1 : p1 < 16) (Φ : Int32 → KS → Prop) (hw : w_K_hasChild (eN E) p1 s0 Φ) : gMi l y_K_hasChild v_K_hasChild m_K_hasChild E KK [.ref (ea E 0 0), .ref (ea E 1 p1)] s0 Φ := by
  intro sz
  refine Met.ofW (cc := b_K_hasChild) (maxL := 3) (ret := (some .boolean)) (by decide) rfl ?_
  intro p e s m args below meth c s₁ B hml hv
  obtain ⟨rfl, hsz, hP, hK, hD, hX⟩ := hv
  have hx := B.exec
  have hb := B.bytes
  have hr := B.returns
  have hts := atoms_spec (ws := v_K_hasChild) B.pre
  have hG : ∀ w ∈ gG, w.before _ s = true := fun w h => hts w (List.mem_cons_of_mem _ h)
  have hown : s.vm.findClass R_K = some m.cls := findClass_of_methodNamed B.named
  have hlocks := B.notSynchronized
  subst hsz
  obtain ⟨A, hAe⟩ : ∃ A, A = gA E KK s.heap.size := ⟨_, rfl⟩
  rw [← hAe] at hD hX ⊢
  have hV : gV E KK A s0 s s.heap [] := ⟨hP, hD, va_S.rf⟩
  have hl := lv_entry ([.ref (ea E 0 0), .ref (ea E 1 p1)] : List Value) (n := 3) (Nat.le_of_ble_eq_true rfl)
  rw [lg_entry_eq]
  generalize (lg_sl ([.ref (ea E 0 0), .ref (ea E 1 p1)] : List Value) ++ List.replicate (3 - (lg_sl ([.ref (ea E 0 0), .ref (ea E 1 p1)] : List Value)).length) Slot.unset).toArray = ls at hl ⊢
  have hl : lv_has ls 3 [(0, .ref (ea E 0 0)), (1, .ref (ea E 1 p1))] := hl
  have L2 : ∀ (n : Nat), ∀ (ls : Array Slot) (H : Heap) (locs : List Loc) (s0 : KS) (v2 : Int32), lv_has ls 3 [(0, .ref (ea E 0 0)), (1, .ref (ea E 1 p1)), (2, .int v2)] → gV E KK A s0 s H locs → w_K_hasChild_2 (eN E) p1 Φ n v2 s0 → W p l e m_K_hasChild s m ([.ref (ea E 0 0), .ref (ea E 1 p1)] : List Value).toArray below meth c H locs 0 0 (MQ below (gQi E KK A Φ) ([.ref (ea E 0 0), .ref (ea E 1 p1)] : List Value).toArray s 0 0 A) (F0 m 2 ls []) := by
    intro n
    induction n with
    | zero =>
      intro ls H locs s0 v2 hl hV hw
      exact False.elim hw
    | succ n ih =>
      intro ls H locs s0 v2 hl hV hw
      unfold w_K_hasChild_2 at hw
      refine lv_iload_n hx hb d_K_hasChild_2 rfl (lv_at hl 2 rfl) ?_
      refine lv_bipush (v := 16) hx hb d_K_hasChild_3 (by decide) ?_
      refine lv_icmp_ge (tgt := 29) hx hb d_K_hasChild_5 rfl (fun hc => ?_) (fun hc => ?_)
      · have hw := hw.1 hc
        refine lv_iconst (v := 0) hx hb d_K_hasChild_29 (by decide) ?_
        exact kr_z hx hb hr hV hK hX hAe (by decide) hw d_K_hasChild_30
      · have hw := hw.2 hc
        refine lv_aload_n hx hb d_K_hasChild_8 rfl (lv_at hl 0 rfl) ?_
        refine kg_K_K_procs hx hb hG hown hK hV d_K_hasChild_9 ?_
        refine lv_iload_n hx hb d_K_hasChild_12 rfl (lv_at hl 2 rfl) ?_
        have hj1 := vp_lt hw.1
        refine kl_9 hx hb hK hV hw.1 d_K_hasChild_13 ?_
        have hw := hw.2
        refine lv_aload_n hx hb d_K_hasChild_14 rfl (lv_at hl 1 rfl) ?_
        refine kc_K_P_isChildOf hx hb hml hown hts hV hK hX hAe (c_P_isChildOf l E s0 v2.toNatClampNeg hj1 p1 hp1 _ hw) hj1 hl.1 (Nat.le_of_ble_eq_true rfl) d_K_hasChild_15 (Nat.le_of_ble_eq_true rfl) (Nat.le_of_ble_eq_true rfl) (fun r3 s2 H locs hw hV => ?_)
        refine lv_if_eq (tgt := 23) hx hb d_K_hasChild_18 rfl (fun hc => ?_) (fun hc => ?_)
        · have hw := hw.1 hc
          obtain ⟨y4, ey4⟩ : ∃ z : Int32, z = v2 + (1 : Int32) := ⟨_, rfl⟩
          have hw := hw y4 ey4
          refine lv_iinc (k := 2) (v := y4) (lv' := [(2, .int y4), (0, .ref (ea E 0 0)), (1, .ref (ea E 1 p1))]) hx hb d_K_hasChild_23 hl rfl (by rw [ey4]; rfl) (by decide) rfl (fun ls hl => ?_)
          refine lv_goto (tgt := 2) hx hb d_K_hasChild_26 rfl ?_
          exact ih _ _ _ s2 y4 (lv_sub hl [1, 2, 0] rfl) hV hw
        · have hw := hw.2 hc
          refine lv_iconst (v := 1) hx hb d_K_hasChild_21 (by decide) ?_
          exact kr_z hx hb hr hV hK hX hAe (by decide) hw d_K_hasChild_22
  unfold w_K_hasChild at hw
  refine lv_iconst (v := 0) hx hb d_K_hasChild_0 (by decide) ?_
  refine lv_istore_n (lv' := [(2, .int (0 : Int32)), (0, .ref (ea E 0 0)), (1, .ref (ea E 1 p1))]) hx hb d_K_hasChild_1 rfl hl (by decide) rfl (fun ls hl => ?_)
  obtain ⟨n, hw⟩ := hw
  exact L2 n _ _ _ s0 (0 : Int32) (lv_sub hl [1, 2, 0] rfl) hV hw
theorem d_K_isReadingEnd_0 : decode b_K_isReadingEnd 0 = .ok (.iload_n 0, 1) := by decide +kernel
theorem d_K_isReadingEnd_1 : decode b_K_isReadingEnd 1 = .ok (.bipush 10, 2) := by decide +kernel
theorem d_K_isReadingEnd_3 : decode b_K_isReadingEnd 3 = .ok (.if_icmp .lt 13, 3) := by decide +kernel
theorem d_K_isReadingEnd_6 : decode b_K_isReadingEnd 6 = .ok (.iload_n 0, 1) := by decide +kernel
theorem d_K_isReadingEnd_7 : decode b_K_isReadingEnd 7 = .ok (.bipush 18, 2) := by decide +kernel
theorem d_K_isReadingEnd_9 : decode b_K_isReadingEnd 9 = .ok (.if_icmp .ge 7, 3) := by decide +kernel
theorem d_K_isReadingEnd_12 : decode b_K_isReadingEnd 12 = .ok (.iconst 1, 1) := by decide +kernel
theorem d_K_isReadingEnd_13 : decode b_K_isReadingEnd 13 = .ok (.goto 4, 3) := by decide +kernel
theorem d_K_isReadingEnd_16 : decode b_K_isReadingEnd 16 = .ok (.iconst 0, 1) := by decide +kernel
theorem d_K_isReadingEnd_17 : decode b_K_isReadingEnd 17 = .ok (.ireturn, 1) := by decide +kernel
def w_K_isReadingEnd (cp : Nat) (x0 : Int32) (s0 : KS) (Φ : Int32 → KS → Prop) : Prop := ((x0 < (10 : Int32) → Φ (0 : Int32) s0) ∧ (¬ x0 < (10 : Int32) → (((18 : Int32) ≤ x0 → Φ (0 : Int32) s0) ∧ (¬ (18 : Int32) ≤ x0 → Φ (1 : Int32) s0))))
set_option maxHeartbeats 4000000 in
set_option maxRecDepth 100000 in
theorem c_K_isReadingEnd (l : Launch) (E : gE) (s0 : KS) (x0 : Int32) (Φ : Int32 → KS → Prop) (hw : w_K_isReadingEnd (eN E) x0 s0 Φ) : gMi l y_K_isReadingEnd v_K_isReadingEnd m_K_isReadingEnd E KK [.int x0] s0 Φ := by
  intro sz
  refine Met.ofW (cc := b_K_isReadingEnd) (maxL := 1) (ret := (some .boolean)) (by decide) rfl ?_
  intro p e s m args below meth c s₁ B hml hv
  obtain ⟨rfl, hsz, hP, hK, hD, hX⟩ := hv
  have hx := B.exec
  have hb := B.bytes
  have hr := B.returns
  have hts := atoms_spec (ws := v_K_isReadingEnd) B.pre
  have hG : ∀ w ∈ gG, w.before _ s = true := fun w h => hts w (List.mem_cons_of_mem _ h)
  have hown : s.vm.findClass R_K = some m.cls := findClass_of_methodNamed B.named
  have hlocks := B.notSynchronized
  subst hsz
  obtain ⟨A, hAe⟩ : ∃ A, A = gA E KK s.heap.size := ⟨_, rfl⟩
  rw [← hAe] at hD hX ⊢
  have hV : gV E KK A s0 s s.heap [] := ⟨hP, hD, va_S.rf⟩
  have hl := lv_entry ([.int x0] : List Value) (n := 1) (Nat.le_of_ble_eq_true rfl)
  rw [lg_entry_eq]
  generalize (lg_sl ([.int x0] : List Value) ++ List.replicate (1 - (lg_sl ([.int x0] : List Value)).length) Slot.unset).toArray = ls at hl ⊢
  have hl : lv_has ls 1 [(0, .int x0)] := hl
  unfold w_K_isReadingEnd at hw
  refine lv_iload_n hx hb d_K_isReadingEnd_0 rfl (lv_at hl 0 rfl) ?_
  refine lv_bipush (v := 10) hx hb d_K_isReadingEnd_1 (by decide) ?_
  refine lv_icmp_lt (tgt := 16) hx hb d_K_isReadingEnd_3 rfl (fun hc => ?_) (fun hc => ?_)
  · have hw := hw.1 hc
    refine lv_iconst (v := 0) hx hb d_K_isReadingEnd_16 (by decide) ?_
    exact kr_z hx hb hr hV hK hX hAe (by decide) hw d_K_isReadingEnd_17
  · have hw := hw.2 hc
    refine lv_iload_n hx hb d_K_isReadingEnd_6 rfl (lv_at hl 0 rfl) ?_
    refine lv_bipush (v := 18) hx hb d_K_isReadingEnd_7 (by decide) ?_
    refine lv_icmp_ge (tgt := 16) hx hb d_K_isReadingEnd_9 rfl (fun hc => ?_) (fun hc => ?_)
    · have hw := hw.1 hc
      refine lv_iconst (v := 0) hx hb d_K_isReadingEnd_16 (by decide) ?_
      exact kr_z hx hb hr hV hK hX hAe (by decide) hw d_K_isReadingEnd_17
    · have hw := hw.2 hc
      refine lv_iconst (v := 1) hx hb d_K_isReadingEnd_12 (by decide) ?_
      refine lv_goto (tgt := 17) hx hb d_K_isReadingEnd_13 rfl ?_
      exact kr_z hx hb hr hV hK hX hAe (by decide) hw d_K_isReadingEnd_17
theorem d_K_readBlocks_0 : decode b_K_readBlocks 0 = .ok (.iload_n 1, 1) := by decide +kernel
theorem d_K_readBlocks_1 : decode b_K_readBlocks 1 = .ok (.iconst 1, 1) := by decide +kernel
theorem d_K_readBlocks_2 : decode b_K_readBlocks 2 = .ok (.if_icmp .ne 26, 3) := by decide +kernel
theorem d_K_readBlocks_5 : decode b_K_readBlocks 5 = .ok (.aload_n 0, 1) := by decide +kernel
theorem d_K_readBlocks_6 : decode b_K_readBlocks 6 = .ok (.getfield 48, 3) := by decide +kernel
theorem d_K_readBlocks_9 : decode b_K_readBlocks 9 = .ok (.invokevirtual 244, 3) := by decide +kernel
theorem d_K_readBlocks_12 : decode b_K_readBlocks 12 = .ok (.ifCond .eq 14, 3) := by decide +kernel
theorem d_K_readBlocks_15 : decode b_K_readBlocks 15 = .ok (.aload_n 0, 1) := by decide +kernel
theorem d_K_readBlocks_16 : decode b_K_readBlocks 16 = .ok (.getfield 52, 3) := by decide +kernel
theorem d_K_readBlocks_19 : decode b_K_readBlocks 19 = .ok (.ifCond .ne 7, 3) := by decide +kernel
theorem d_K_readBlocks_22 : decode b_K_readBlocks 22 = .ok (.iconst 1, 1) := by decide +kernel
theorem d_K_readBlocks_23 : decode b_K_readBlocks 23 = .ok (.goto 4, 3) := by decide +kernel
theorem d_K_readBlocks_26 : decode b_K_readBlocks 26 = .ok (.iconst 0, 1) := by decide +kernel
theorem d_K_readBlocks_27 : decode b_K_readBlocks 27 = .ok (.ireturn, 1) := by decide +kernel
theorem d_K_readBlocks_28 : decode b_K_readBlocks 28 = .ok (.iload_n 1, 1) := by decide +kernel
theorem d_K_readBlocks_29 : decode b_K_readBlocks 29 = .ok (.invokestatic 247, 3) := by decide +kernel
theorem d_K_readBlocks_32 : decode b_K_readBlocks 32 = .ok (.ifCond .eq 34, 3) := by decide +kernel
theorem d_K_readBlocks_35 : decode b_K_readBlocks 35 = .ok (.aload_n 0, 1) := by decide +kernel
theorem d_K_readBlocks_36 : decode b_K_readBlocks 36 = .ok (.getfield 21, 3) := by decide +kernel
theorem d_K_readBlocks_39 : decode b_K_readBlocks 39 = .ok (.iload_n 1, 1) := by decide +kernel
theorem d_K_readBlocks_40 : decode b_K_readBlocks 40 = .ok (.invokestatic 241, 3) := by decide +kernel
theorem d_K_readBlocks_43 : decode b_K_readBlocks 43 = .ok (.iaload, 1) := by decide +kernel
theorem d_K_readBlocks_44 : decode b_K_readBlocks 44 = .ok (.ifCond .le 22, 3) := by decide +kernel
theorem d_K_readBlocks_47 : decode b_K_readBlocks 47 = .ok (.aload_n 0, 1) := by decide +kernel
theorem d_K_readBlocks_48 : decode b_K_readBlocks 48 = .ok (.getfield 17, 3) := by decide +kernel
theorem d_K_readBlocks_51 : decode b_K_readBlocks 51 = .ok (.iload_n 1, 1) := by decide +kernel
theorem d_K_readBlocks_52 : decode b_K_readBlocks 52 = .ok (.bipush 10, 2) := by decide +kernel
theorem d_K_readBlocks_54 : decode b_K_readBlocks 54 = .ok (.isub, 1) := by decide +kernel
theorem d_K_readBlocks_55 : decode b_K_readBlocks 55 = .ok (.aaload, 1) := by decide +kernel
theorem d_K_readBlocks_56 : decode b_K_readBlocks 56 = .ok (.invokevirtual 244, 3) := by decide +kernel
theorem d_K_readBlocks_59 : decode b_K_readBlocks 59 = .ok (.ifCond .eq 7, 3) := by decide +kernel
theorem d_K_readBlocks_62 : decode b_K_readBlocks 62 = .ok (.iconst 1, 1) := by decide +kernel
theorem d_K_readBlocks_63 : decode b_K_readBlocks 63 = .ok (.goto 4, 3) := by decide +kernel
theorem d_K_readBlocks_66 : decode b_K_readBlocks 66 = .ok (.iconst 0, 1) := by decide +kernel
theorem d_K_readBlocks_67 : decode b_K_readBlocks 67 = .ok (.ireturn, 1) := by decide +kernel
def w_K_readBlocks (cp : Nat) (x1 : Int32) (s0 : KS) (Φ : Int32 → KS → Prop) : Prop := ((¬ x1 = (1 : Int32) → w_K_isReadingEnd cp x1 s0 (fun r2 s1 => ((r2 = 0 → Φ (0 : Int32) s1) ∧ (¬ r2 = 0 → w_K_otherEnd cp x1 s1 (fun r4 s3 => vp_in r4 28 ∧ (((s3 7 0 r4.toNatClampNeg) ≤ 0 → Φ (0 : Int32) s3) ∧ (¬ (s3 7 0 r4.toNatClampNeg) ≤ 0 → vp_in (x1 - (10 : Int32)) 8 ∧ w_W_isEmpty cp ((x1 - (10 : Int32)).toNatClampNeg) s3 (fun r7 s6 => ((r7 = 0 → Φ (0 : Int32) s6) ∧ (¬ r7 = 0 → Φ (1 : Int32) s6)))))))))) ∧ (x1 = (1 : Int32) → w_W_isEmpty cp 8 s0 (fun r9 s8 => ((r9 = 0 → Φ (0 : Int32) s8) ∧ (¬ r9 = 0 → ((¬ (s8 0 0 11) = 0 → Φ (0 : Int32) s8) ∧ ((s8 0 0 11) = 0 → Φ (1 : Int32) s8)))))))
set_option maxHeartbeats 4000000 in
set_option maxRecDepth 100000 in
theorem c_K_readBlocks (l : Launch) (E : gE) (s0 : KS) (x1 : Int32) (Φ : Int32 → KS → Prop) (hw : w_K_readBlocks (eN E) x1 s0 Φ) : gMi l y_K_readBlocks v_K_readBlocks m_K_readBlocks E KK [.ref (ea E 0 0), .int x1] s0 Φ := by
  intro sz
  refine Met.ofW (cc := b_K_readBlocks) (maxL := 2) (ret := (some .boolean)) (by decide) rfl ?_
  intro p e s m args below meth c s₁ B hml hv
  obtain ⟨rfl, hsz, hP, hK, hD, hX⟩ := hv
  have hx := B.exec
  have hb := B.bytes
  have hr := B.returns
  have hts := atoms_spec (ws := v_K_readBlocks) B.pre
  have hG : ∀ w ∈ gG, w.before _ s = true := fun w h => hts w (List.mem_cons_of_mem _ h)
  have hown : s.vm.findClass R_K = some m.cls := findClass_of_methodNamed B.named
  have hlocks := B.notSynchronized
  subst hsz
  obtain ⟨A, hAe⟩ : ∃ A, A = gA E KK s.heap.size := ⟨_, rfl⟩
  rw [← hAe] at hD hX ⊢
  have hV : gV E KK A s0 s s.heap [] := ⟨hP, hD, va_S.rf⟩
  have hl := lv_entry ([.ref (ea E 0 0), .int x1] : List Value) (n := 2) (Nat.le_of_ble_eq_true rfl)
  rw [lg_entry_eq]
  generalize (lg_sl ([.ref (ea E 0 0), .int x1] : List Value) ++ List.replicate (2 - (lg_sl ([.ref (ea E 0 0), .int x1] : List Value)).length) Slot.unset).toArray = ls at hl ⊢
  have hl : lv_has ls 2 [(0, .ref (ea E 0 0)), (1, .int x1)] := hl
  unfold w_K_readBlocks at hw
  refine lv_iload_n hx hb d_K_readBlocks_0 rfl (lv_at hl 1 rfl) ?_
  refine lv_iconst (v := 1) hx hb d_K_readBlocks_1 (by decide) ?_
  refine lv_icmp_ne (tgt := 28) hx hb d_K_readBlocks_2 rfl (fun hc => ?_) (fun hc => ?_)
  · have hw := hw.1 hc
    refine lv_iload_n hx hb d_K_readBlocks_28 rfl (lv_at hl 1 rfl) ?_
    refine kc_K_K_isReadingEnd hx hb hml hown hts hV hK hX hAe (c_K_isReadingEnd l E s0 x1 _ hw) hl.1 (Nat.le_of_ble_eq_true rfl) d_K_readBlocks_29 (Nat.le_of_ble_eq_true rfl) (Nat.le_of_ble_eq_true rfl) (fun r2 s1 H locs hw hV => ?_)
    refine lv_if_eq (tgt := 66) hx hb d_K_readBlocks_32 rfl (fun hc => ?_) (fun hc => ?_)
    · have hw := hw.1 hc
      refine lv_iconst (v := 0) hx hb d_K_readBlocks_66 (by decide) ?_
      exact kr_z hx hb hr hV hK hX hAe (by decide) hw d_K_readBlocks_67
    · have hw := hw.2 hc
      refine lv_aload_n hx hb d_K_readBlocks_35 rfl (lv_at hl 0 rfl) ?_
      refine kg_K_K_ends hx hb hG hown hK hV d_K_readBlocks_36 ?_
      refine lv_iload_n hx hb d_K_readBlocks_39 rfl (lv_at hl 1 rfl) ?_
      refine kc_K_K_otherEnd hx hb hml hown hts hV hK hX hAe (c_K_otherEnd l E s1 x1 _ hw) hl.1 (Nat.le_of_ble_eq_true rfl) d_K_readBlocks_40 (Nat.le_of_ble_eq_true rfl) (Nat.le_of_ble_eq_true rfl) (fun r4 s3 H locs hw hV => ?_)
      refine kl_7 hx hb hK hV hw.1 d_K_readBlocks_43 ?_
      have hw := hw.2
      refine lv_if_le (tgt := 66) hx hb d_K_readBlocks_44 rfl (fun hc => ?_) (fun hc => ?_)
      · have hw := hw.1 hc
        refine lv_iconst (v := 0) hx hb d_K_readBlocks_66 (by decide) ?_
        exact kr_z hx hb hr hV hK hX hAe (by decide) hw d_K_readBlocks_67
      · have hw := hw.2 hc
        refine lv_aload_n hx hb d_K_readBlocks_47 rfl (lv_at hl 0 rfl) ?_
        refine kg_K_K_pipes hx hb hG hown hK hV d_K_readBlocks_48 ?_
        refine lv_iload_n hx hb d_K_readBlocks_51 rfl (lv_at hl 1 rfl) ?_
        refine lv_bipush (v := 10) hx hb d_K_readBlocks_52 (by decide) ?_
        refine lv_isub hx hb d_K_readBlocks_54 ?_
        have hj5 := Nat.lt_trans (vp_lt hw.1) (by decide : 8 < 10)
        refine kl_10 hx hb hK hV hw.1 d_K_readBlocks_55 ?_
        have hw := hw.2
        refine kc_K_W_isEmpty hx hb hml hown hts hV hK hX hAe (c_W_isEmpty l E s3 ((x1 - (10 : Int32)).toNatClampNeg) hj5 _ hw) hj5 hl.1 (Nat.le_of_ble_eq_true rfl) d_K_readBlocks_56 (Nat.le_of_ble_eq_true rfl) (Nat.le_of_ble_eq_true rfl) (fun r7 s6 H locs hw hV => ?_)
        refine lv_if_eq (tgt := 66) hx hb d_K_readBlocks_59 rfl (fun hc => ?_) (fun hc => ?_)
        · have hw := hw.1 hc
          refine lv_iconst (v := 0) hx hb d_K_readBlocks_66 (by decide) ?_
          exact kr_z hx hb hr hV hK hX hAe (by decide) hw d_K_readBlocks_67
        · have hw := hw.2 hc
          refine lv_iconst (v := 1) hx hb d_K_readBlocks_62 (by decide) ?_
          refine lv_goto (tgt := 67) hx hb d_K_readBlocks_63 rfl ?_
          exact kr_z hx hb hr hV hK hX hAe (by decide) hw d_K_readBlocks_67
  · have hw := hw.2 hc
    refine lv_aload_n hx hb d_K_readBlocks_5 rfl (lv_at hl 0 rfl) ?_
    refine kg_K_K_input hx hb hG hown hK hV d_K_readBlocks_6 ?_
    refine kc_K_W_isEmpty hx hb hml hown hts hV hK hX hAe (c_W_isEmpty l E s0 8 (by decide) _ hw) (by decide) hl.1 (Nat.le_of_ble_eq_true rfl) d_K_readBlocks_9 (Nat.le_of_ble_eq_true rfl) (Nat.le_of_ble_eq_true rfl) (fun r9 s8 H locs hw hV => ?_)
    refine lv_if_eq (tgt := 26) hx hb d_K_readBlocks_12 rfl (fun hc => ?_) (fun hc => ?_)
    · have hw := hw.1 hc
      refine lv_iconst (v := 0) hx hb d_K_readBlocks_26 (by decide) ?_
      exact kr_z hx hb hr hV hK hX hAe (by decide) hw d_K_readBlocks_27
    · have hw := hw.2 hc
      refine lv_aload_n hx hb d_K_readBlocks_15 rfl (lv_at hl 0 rfl) ?_
      refine kg_K_K_inputShut hx hb hG hown hK hV d_K_readBlocks_16 ?_
      refine lv_if_ne (tgt := 26) hx hb d_K_readBlocks_19 rfl (fun hc => ?_) (fun hc => ?_)
      · have hw := hw.1 hc
        refine lv_iconst (v := 0) hx hb d_K_readBlocks_26 (by decide) ?_
        exact kr_z hx hb hr hV hK hX hAe (by decide) hw d_K_readBlocks_27
      · have hw := hw.2 hc
        refine lv_iconst (v := 1) hx hb d_K_readBlocks_22 (by decide) ?_
        refine lv_goto (tgt := 27) hx hb d_K_readBlocks_23 rfl ?_
        exact kr_z hx hb hr hV hK hX hAe (by decide) hw d_K_readBlocks_27
theorem d_K_isWritingEnd_0 : decode b_K_isWritingEnd 0 = .ok (.iload_n 0, 1) := by decide +kernel
theorem d_K_isWritingEnd_1 : decode b_K_isWritingEnd 1 = .ok (.bipush 20, 2) := by decide +kernel
theorem d_K_isWritingEnd_3 : decode b_K_isWritingEnd 3 = .ok (.if_icmp .lt 13, 3) := by decide +kernel
theorem d_K_isWritingEnd_6 : decode b_K_isWritingEnd 6 = .ok (.iload_n 0, 1) := by decide +kernel
theorem d_K_isWritingEnd_7 : decode b_K_isWritingEnd 7 = .ok (.bipush 28, 2) := by decide +kernel
theorem d_K_isWritingEnd_9 : decode b_K_isWritingEnd 9 = .ok (.if_icmp .ge 7, 3) := by decide +kernel
theorem d_K_isWritingEnd_12 : decode b_K_isWritingEnd 12 = .ok (.iconst 1, 1) := by decide +kernel
theorem d_K_isWritingEnd_13 : decode b_K_isWritingEnd 13 = .ok (.goto 4, 3) := by decide +kernel
theorem d_K_isWritingEnd_16 : decode b_K_isWritingEnd 16 = .ok (.iconst 0, 1) := by decide +kernel
theorem d_K_isWritingEnd_17 : decode b_K_isWritingEnd 17 = .ok (.ireturn, 1) := by decide +kernel
def w_K_isWritingEnd (cp : Nat) (x0 : Int32) (s0 : KS) (Φ : Int32 → KS → Prop) : Prop := ((x0 < (20 : Int32) → Φ (0 : Int32) s0) ∧ (¬ x0 < (20 : Int32) → (((28 : Int32) ≤ x0 → Φ (0 : Int32) s0) ∧ (¬ (28 : Int32) ≤ x0 → Φ (1 : Int32) s0))))
set_option maxHeartbeats 4000000 in
set_option maxRecDepth 100000 in
theorem c_K_isWritingEnd (l : Launch) (E : gE) (s0 : KS) (x0 : Int32) (Φ : Int32 → KS → Prop) (hw : w_K_isWritingEnd (eN E) x0 s0 Φ) : gMi l y_K_isWritingEnd v_K_isWritingEnd m_K_isWritingEnd E KK [.int x0] s0 Φ := by
  intro sz
  refine Met.ofW (cc := b_K_isWritingEnd) (maxL := 1) (ret := (some .boolean)) (by decide) rfl ?_
  intro p e s m args below meth c s₁ B hml hv
  obtain ⟨rfl, hsz, hP, hK, hD, hX⟩ := hv
  have hx := B.exec
  have hb := B.bytes
  have hr := B.returns
  have hts := atoms_spec (ws := v_K_isWritingEnd) B.pre
  have hG : ∀ w ∈ gG, w.before _ s = true := fun w h => hts w (List.mem_cons_of_mem _ h)
  have hown : s.vm.findClass R_K = some m.cls := findClass_of_methodNamed B.named
  have hlocks := B.notSynchronized
  subst hsz
  obtain ⟨A, hAe⟩ : ∃ A, A = gA E KK s.heap.size := ⟨_, rfl⟩
  rw [← hAe] at hD hX ⊢
  have hV : gV E KK A s0 s s.heap [] := ⟨hP, hD, va_S.rf⟩
  have hl := lv_entry ([.int x0] : List Value) (n := 1) (Nat.le_of_ble_eq_true rfl)
  rw [lg_entry_eq]
  generalize (lg_sl ([.int x0] : List Value) ++ List.replicate (1 - (lg_sl ([.int x0] : List Value)).length) Slot.unset).toArray = ls at hl ⊢
  have hl : lv_has ls 1 [(0, .int x0)] := hl
  unfold w_K_isWritingEnd at hw
  refine lv_iload_n hx hb d_K_isWritingEnd_0 rfl (lv_at hl 0 rfl) ?_
  refine lv_bipush (v := 20) hx hb d_K_isWritingEnd_1 (by decide) ?_
  refine lv_icmp_lt (tgt := 16) hx hb d_K_isWritingEnd_3 rfl (fun hc => ?_) (fun hc => ?_)
  · have hw := hw.1 hc
    refine lv_iconst (v := 0) hx hb d_K_isWritingEnd_16 (by decide) ?_
    exact kr_z hx hb hr hV hK hX hAe (by decide) hw d_K_isWritingEnd_17
  · have hw := hw.2 hc
    refine lv_iload_n hx hb d_K_isWritingEnd_6 rfl (lv_at hl 0 rfl) ?_
    refine lv_bipush (v := 28) hx hb d_K_isWritingEnd_7 (by decide) ?_
    refine lv_icmp_ge (tgt := 16) hx hb d_K_isWritingEnd_9 rfl (fun hc => ?_) (fun hc => ?_)
    · have hw := hw.1 hc
      refine lv_iconst (v := 0) hx hb d_K_isWritingEnd_16 (by decide) ?_
      exact kr_z hx hb hr hV hK hX hAe (by decide) hw d_K_isWritingEnd_17
    · have hw := hw.2 hc
      refine lv_iconst (v := 1) hx hb d_K_isWritingEnd_12 (by decide) ?_
      refine lv_goto (tgt := 17) hx hb d_K_isWritingEnd_13 rfl ?_
      exact kr_z hx hb hr hV hK hX hAe (by decide) hw d_K_isWritingEnd_17
theorem d_K_writeBlocks_0 : decode b_K_writeBlocks 0 = .ok (.iload_n 1, 1) := by decide +kernel
theorem d_K_writeBlocks_1 : decode b_K_writeBlocks 1 = .ok (.invokestatic 238, 3) := by decide +kernel
theorem d_K_writeBlocks_4 : decode b_K_writeBlocks 4 = .ok (.ifCond .eq 34, 3) := by decide +kernel
theorem d_K_writeBlocks_7 : decode b_K_writeBlocks 7 = .ok (.aload_n 0, 1) := by decide +kernel
theorem d_K_writeBlocks_8 : decode b_K_writeBlocks 8 = .ok (.getfield 21, 3) := by decide +kernel
theorem d_K_writeBlocks_11 : decode b_K_writeBlocks 11 = .ok (.iload_n 1, 1) := by decide +kernel
theorem d_K_writeBlocks_12 : decode b_K_writeBlocks 12 = .ok (.invokestatic 241, 3) := by decide +kernel
theorem d_K_writeBlocks_15 : decode b_K_writeBlocks 15 = .ok (.iaload, 1) := by decide +kernel
theorem d_K_writeBlocks_16 : decode b_K_writeBlocks 16 = .ok (.ifCond .le 22, 3) := by decide +kernel
theorem d_K_writeBlocks_19 : decode b_K_writeBlocks 19 = .ok (.aload_n 0, 1) := by decide +kernel
theorem d_K_writeBlocks_20 : decode b_K_writeBlocks 20 = .ok (.getfield 17, 3) := by decide +kernel
theorem d_K_writeBlocks_23 : decode b_K_writeBlocks 23 = .ok (.iload_n 1, 1) := by decide +kernel
theorem d_K_writeBlocks_24 : decode b_K_writeBlocks 24 = .ok (.bipush 20, 2) := by decide +kernel
theorem d_K_writeBlocks_26 : decode b_K_writeBlocks 26 = .ok (.isub, 1) := by decide +kernel
theorem d_K_writeBlocks_27 : decode b_K_writeBlocks 27 = .ok (.aaload, 1) := by decide +kernel
theorem d_K_writeBlocks_28 : decode b_K_writeBlocks 28 = .ok (.invokevirtual 108, 3) := by decide +kernel
theorem d_K_writeBlocks_31 : decode b_K_writeBlocks 31 = .ok (.ifCond .eq 7, 3) := by decide +kernel
theorem d_K_writeBlocks_34 : decode b_K_writeBlocks 34 = .ok (.iconst 1, 1) := by decide +kernel
theorem d_K_writeBlocks_35 : decode b_K_writeBlocks 35 = .ok (.goto 4, 3) := by decide +kernel
theorem d_K_writeBlocks_38 : decode b_K_writeBlocks 38 = .ok (.iconst 0, 1) := by decide +kernel
theorem d_K_writeBlocks_39 : decode b_K_writeBlocks 39 = .ok (.ireturn, 1) := by decide +kernel
def w_K_writeBlocks (cp : Nat) (x1 : Int32) (s0 : KS) (Φ : Int32 → KS → Prop) : Prop := w_K_isWritingEnd cp x1 s0 (fun r2 s1 => ((r2 = 0 → Φ (0 : Int32) s1) ∧ (¬ r2 = 0 → w_K_otherEnd cp x1 s1 (fun r4 s3 => vp_in r4 28 ∧ (((s3 7 0 r4.toNatClampNeg) ≤ 0 → Φ (0 : Int32) s3) ∧ (¬ (s3 7 0 r4.toNatClampNeg) ≤ 0 → vp_in (x1 - (20 : Int32)) 8 ∧ w_W_isFull cp ((x1 - (20 : Int32)).toNatClampNeg) s3 (fun r7 s6 => ((r7 = 0 → Φ (0 : Int32) s6) ∧ (¬ r7 = 0 → Φ (1 : Int32) s6)))))))))
set_option maxHeartbeats 4000000 in
set_option maxRecDepth 100000 in
theorem c_K_writeBlocks (l : Launch) (E : gE) (s0 : KS) (x1 : Int32) (Φ : Int32 → KS → Prop) (hw : w_K_writeBlocks (eN E) x1 s0 Φ) : gMi l y_K_writeBlocks v_K_writeBlocks m_K_writeBlocks E KK [.ref (ea E 0 0), .int x1] s0 Φ := by
  intro sz
  refine Met.ofW (cc := b_K_writeBlocks) (maxL := 2) (ret := (some .boolean)) (by decide) rfl ?_
  intro p e s m args below meth c s₁ B hml hv
  obtain ⟨rfl, hsz, hP, hK, hD, hX⟩ := hv
  have hx := B.exec
  have hb := B.bytes
  have hr := B.returns
  have hts := atoms_spec (ws := v_K_writeBlocks) B.pre
  have hG : ∀ w ∈ gG, w.before _ s = true := fun w h => hts w (List.mem_cons_of_mem _ h)
  have hown : s.vm.findClass R_K = some m.cls := findClass_of_methodNamed B.named
  have hlocks := B.notSynchronized
  subst hsz
  obtain ⟨A, hAe⟩ : ∃ A, A = gA E KK s.heap.size := ⟨_, rfl⟩
  rw [← hAe] at hD hX ⊢
  have hV : gV E KK A s0 s s.heap [] := ⟨hP, hD, va_S.rf⟩
  have hl := lv_entry ([.ref (ea E 0 0), .int x1] : List Value) (n := 2) (Nat.le_of_ble_eq_true rfl)
  rw [lg_entry_eq]
  generalize (lg_sl ([.ref (ea E 0 0), .int x1] : List Value) ++ List.replicate (2 - (lg_sl ([.ref (ea E 0 0), .int x1] : List Value)).length) Slot.unset).toArray = ls at hl ⊢
  have hl : lv_has ls 2 [(0, .ref (ea E 0 0)), (1, .int x1)] := hl
  unfold w_K_writeBlocks at hw
  refine lv_iload_n hx hb d_K_writeBlocks_0 rfl (lv_at hl 1 rfl) ?_
  refine kc_K_K_isWritingEnd hx hb hml hown hts hV hK hX hAe (c_K_isWritingEnd l E s0 x1 _ hw) hl.1 (Nat.le_of_ble_eq_true rfl) d_K_writeBlocks_1 (Nat.le_of_ble_eq_true rfl) (Nat.le_of_ble_eq_true rfl) (fun r2 s1 H locs hw hV => ?_)
  refine lv_if_eq (tgt := 38) hx hb d_K_writeBlocks_4 rfl (fun hc => ?_) (fun hc => ?_)
  · have hw := hw.1 hc
    refine lv_iconst (v := 0) hx hb d_K_writeBlocks_38 (by decide) ?_
    exact kr_z hx hb hr hV hK hX hAe (by decide) hw d_K_writeBlocks_39
  · have hw := hw.2 hc
    refine lv_aload_n hx hb d_K_writeBlocks_7 rfl (lv_at hl 0 rfl) ?_
    refine kg_K_K_ends hx hb hG hown hK hV d_K_writeBlocks_8 ?_
    refine lv_iload_n hx hb d_K_writeBlocks_11 rfl (lv_at hl 1 rfl) ?_
    refine kc_K_K_otherEnd hx hb hml hown hts hV hK hX hAe (c_K_otherEnd l E s1 x1 _ hw) hl.1 (Nat.le_of_ble_eq_true rfl) d_K_writeBlocks_12 (Nat.le_of_ble_eq_true rfl) (Nat.le_of_ble_eq_true rfl) (fun r4 s3 H locs hw hV => ?_)
    refine kl_7 hx hb hK hV hw.1 d_K_writeBlocks_15 ?_
    have hw := hw.2
    refine lv_if_le (tgt := 38) hx hb d_K_writeBlocks_16 rfl (fun hc => ?_) (fun hc => ?_)
    · have hw := hw.1 hc
      refine lv_iconst (v := 0) hx hb d_K_writeBlocks_38 (by decide) ?_
      exact kr_z hx hb hr hV hK hX hAe (by decide) hw d_K_writeBlocks_39
    · have hw := hw.2 hc
      refine lv_aload_n hx hb d_K_writeBlocks_19 rfl (lv_at hl 0 rfl) ?_
      refine kg_K_K_pipes hx hb hG hown hK hV d_K_writeBlocks_20 ?_
      refine lv_iload_n hx hb d_K_writeBlocks_23 rfl (lv_at hl 1 rfl) ?_
      refine lv_bipush (v := 20) hx hb d_K_writeBlocks_24 (by decide) ?_
      refine lv_isub hx hb d_K_writeBlocks_26 ?_
      have hj5 := Nat.lt_trans (vp_lt hw.1) (by decide : 8 < 10)
      refine kl_10 hx hb hK hV hw.1 d_K_writeBlocks_27 ?_
      have hw := hw.2
      refine kc_K_W_isFull hx hb hml hown hts hV hK hX hAe (c_W_isFull l E s3 ((x1 - (20 : Int32)).toNatClampNeg) hj5 _ hw) hj5 hl.1 (Nat.le_of_ble_eq_true rfl) d_K_writeBlocks_28 (Nat.le_of_ble_eq_true rfl) (Nat.le_of_ble_eq_true rfl) (fun r7 s6 H locs hw hV => ?_)
      refine lv_if_eq (tgt := 38) hx hb d_K_writeBlocks_31 rfl (fun hc => ?_) (fun hc => ?_)
      · have hw := hw.1 hc
        refine lv_iconst (v := 0) hx hb d_K_writeBlocks_38 (by decide) ?_
        exact kr_z hx hb hr hV hK hX hAe (by decide) hw d_K_writeBlocks_39
      · have hw := hw.2 hc
        refine lv_iconst (v := 1) hx hb d_K_writeBlocks_34 (by decide) ?_
        refine lv_goto (tgt := 39) hx hb d_K_writeBlocks_35 rfl ?_
        exact kr_z hx hb hr hV hK hX hAe (by decide) hw d_K_writeBlocks_39
theorem d_K_mustWait_0 : decode b_K_mustWait 0 = .ok (.aload_n 1, 1) := by decide +kernel
theorem d_K_mustWait_1 : decode b_K_mustWait 1 = .ok (.invokevirtual 207, 3) := by decide +kernel
theorem d_K_mustWait_4 : decode b_K_mustWait 4 = .ok (.tableswitch 80 33 36 #[32, 45, 80, 58], 32) := by decide +kernel
theorem d_K_mustWait_36 : decode b_K_mustWait 36 = .ok (.aload_n 0, 1) := by decide +kernel
theorem d_K_mustWait_37 : decode b_K_mustWait 37 = .ok (.aload_n 1, 1) := by decide +kernel
theorem d_K_mustWait_38 : decode b_K_mustWait 38 = .ok (.aload_n 1, 1) := by decide +kernel
theorem d_K_mustWait_39 : decode b_K_mustWait 39 = .ok (.invokevirtual 210, 3) := by decide +kernel
theorem d_K_mustWait_42 : decode b_K_mustWait 42 = .ok (.invokevirtual 213, 3) := by decide +kernel
theorem d_K_mustWait_45 : decode b_K_mustWait 45 = .ok (.invokevirtual 216, 3) := by decide +kernel
theorem d_K_mustWait_48 : decode b_K_mustWait 48 = .ok (.ireturn, 1) := by decide +kernel
theorem d_K_mustWait_49 : decode b_K_mustWait 49 = .ok (.aload_n 0, 1) := by decide +kernel
theorem d_K_mustWait_50 : decode b_K_mustWait 50 = .ok (.aload_n 1, 1) := by decide +kernel
theorem d_K_mustWait_51 : decode b_K_mustWait 51 = .ok (.aload_n 1, 1) := by decide +kernel
theorem d_K_mustWait_52 : decode b_K_mustWait 52 = .ok (.invokevirtual 210, 3) := by decide +kernel
theorem d_K_mustWait_55 : decode b_K_mustWait 55 = .ok (.invokevirtual 213, 3) := by decide +kernel
theorem d_K_mustWait_58 : decode b_K_mustWait 58 = .ok (.invokevirtual 219, 3) := by decide +kernel
theorem d_K_mustWait_61 : decode b_K_mustWait 61 = .ok (.ireturn, 1) := by decide +kernel
theorem d_K_mustWait_62 : decode b_K_mustWait 62 = .ok (.aload_n 0, 1) := by decide +kernel
theorem d_K_mustWait_63 : decode b_K_mustWait 63 = .ok (.aload_n 1, 1) := by decide +kernel
theorem d_K_mustWait_64 : decode b_K_mustWait 64 = .ok (.invokevirtual 222, 3) := by decide +kernel
theorem d_K_mustWait_67 : decode b_K_mustWait 67 = .ok (.ifCond .eq 15, 3) := by decide +kernel
theorem d_K_mustWait_70 : decode b_K_mustWait 70 = .ok (.aload_n 0, 1) := by decide +kernel
theorem d_K_mustWait_71 : decode b_K_mustWait 71 = .ok (.aload_n 1, 1) := by decide +kernel
theorem d_K_mustWait_72 : decode b_K_mustWait 72 = .ok (.invokevirtual 225, 3) := by decide +kernel
theorem d_K_mustWait_75 : decode b_K_mustWait 75 = .ok (.ifnonnull 7, 3) := by decide +kernel
theorem d_K_mustWait_78 : decode b_K_mustWait 78 = .ok (.iconst 1, 1) := by decide +kernel
theorem d_K_mustWait_79 : decode b_K_mustWait 79 = .ok (.goto 4, 3) := by decide +kernel
theorem d_K_mustWait_82 : decode b_K_mustWait 82 = .ok (.iconst 0, 1) := by decide +kernel
theorem d_K_mustWait_83 : decode b_K_mustWait 83 = .ok (.ireturn, 1) := by decide +kernel
theorem d_K_mustWait_84 : decode b_K_mustWait 84 = .ok (.iconst 0, 1) := by decide +kernel
theorem d_K_mustWait_85 : decode b_K_mustWait 85 = .ok (.ireturn, 1) := by decide +kernel
def w_K_mustWait (cp : Nat) (p1 : Nat) (s0 : KS) (Φ : Int32 → KS → Prop) : Prop := w_P_kind cp p1 s0 (fun r2 s1 => ((r2 = 33 → w_P_top cp p1 s1 (fun r4 s3 => w_P_descriptorAt cp p1 r4 s3 (fun r6 s5 => w_K_writeBlocks cp r6 s5 (fun r8 s7 => (r8 = 0 ∨ r8 = 1) ∧ Φ r8 s7)))) ∧ ((r2 = 34 → w_P_top cp p1 s1 (fun r10 s9 => w_P_descriptorAt cp p1 r10 s9 (fun r12 s11 => w_K_readBlocks cp r12 s11 (fun r14 s13 => (r14 = 0 ∨ r14 = 1) ∧ Φ r14 s13)))) ∧ ((r2 = 36 → w_K_hasChild cp p1 s1 (fun r16 s15 => ((r16 = 0 → Φ (0 : Int32) s15) ∧ (¬ r16 = 0 → w_K_endedChild cp p1 s15 (fun o18 s17 => ((o18 = none → Φ (1 : Int32) s17) ∧ (∀ z19 : Nat, o18 = some z19 → Φ (0 : Int32) s17))))))) ∧ (¬ r2 = 33 ∧ ¬ r2 = 34 ∧ ¬ r2 = 36 → Φ (0 : Int32) s1)))))
set_option maxHeartbeats 4000000 in
set_option maxRecDepth 100000 in
theorem c_K_mustWait (l : Launch) (E : gE) (s0 : KS) (p1 : Nat) (hp1 : p1 < 16) (Φ : Int32 → KS → Prop) (hw : w_K_mustWait (eN E) p1 s0 Φ) : gMi l y_K_mustWait v_K_mustWait m_K_mustWait E KK [.ref (ea E 0 0), .ref (ea E 1 p1)] s0 Φ := by
  intro sz
  refine Met.ofW (cc := b_K_mustWait) (maxL := 2) (ret := (some .boolean)) (by decide) rfl ?_
  intro p e s m args below meth c s₁ B hml hv
  obtain ⟨rfl, hsz, hP, hK, hD, hX⟩ := hv
  have hx := B.exec
  have hb := B.bytes
  have hr := B.returns
  have hts := atoms_spec (ws := v_K_mustWait) B.pre
  have hG : ∀ w ∈ gG, w.before _ s = true := fun w h => hts w (List.mem_cons_of_mem _ h)
  have hown : s.vm.findClass R_K = some m.cls := findClass_of_methodNamed B.named
  have hlocks := B.notSynchronized
  subst hsz
  obtain ⟨A, hAe⟩ : ∃ A, A = gA E KK s.heap.size := ⟨_, rfl⟩
  rw [← hAe] at hD hX ⊢
  have hV : gV E KK A s0 s s.heap [] := ⟨hP, hD, va_S.rf⟩
  have hl := lv_entry ([.ref (ea E 0 0), .ref (ea E 1 p1)] : List Value) (n := 2) (Nat.le_of_ble_eq_true rfl)
  rw [lg_entry_eq]
  generalize (lg_sl ([.ref (ea E 0 0), .ref (ea E 1 p1)] : List Value) ++ List.replicate (2 - (lg_sl ([.ref (ea E 0 0), .ref (ea E 1 p1)] : List Value)).length) Slot.unset).toArray = ls at hl ⊢
  have hl : lv_has ls 2 [(0, .ref (ea E 0 0)), (1, .ref (ea E 1 p1))] := hl
  unfold w_K_mustWait at hw
  refine lv_aload_n hx hb d_K_mustWait_0 rfl (lv_at hl 1 rfl) ?_
  refine kc_K_P_kind hx hb hml hown hts hV hK hX hAe (c_P_kind l E s0 p1 hp1 _ hw) hp1 hl.1 (Nat.le_of_ble_eq_true rfl) d_K_mustWait_1 (Nat.le_of_ble_eq_true rfl) (Nat.le_of_ble_eq_true rfl) (fun r2 s1 H locs hw hV => ?_)
  have hsw := hw
  by_cases hc33 : r2 = 33
  · have hw := hsw.1 hc33
    refine lv_tableIn (off := 32) (tgt := 36) hx hb d_K_mustWait_4 (by rw [hc33]; decide) (by rw [hc33]; decide) (by rw [hc33]; decide) rfl ?_
    refine lv_aload_n hx hb d_K_mustWait_36 rfl (lv_at hl 0 rfl) ?_
    refine lv_aload_n hx hb d_K_mustWait_37 rfl (lv_at hl 1 rfl) ?_
    refine lv_aload_n hx hb d_K_mustWait_38 rfl (lv_at hl 1 rfl) ?_
    refine kc_K_P_top hx hb hml hown hts hV hK hX hAe (c_P_top l E s1 p1 hp1 _ hw) hp1 hl.1 (Nat.le_of_ble_eq_true rfl) d_K_mustWait_39 (Nat.le_of_ble_eq_true rfl) (Nat.le_of_ble_eq_true rfl) (fun r4 s3 H locs hw hV => ?_)
    refine kc_K_P_descriptorAt hx hb hml hown hts hV hK hX hAe (c_P_descriptorAt l E s3 p1 hp1 r4 _ hw) hp1 hl.1 (Nat.le_of_ble_eq_true rfl) d_K_mustWait_42 (Nat.le_of_ble_eq_true rfl) (Nat.le_of_ble_eq_true rfl) (fun r6 s5 H locs hw hV => ?_)
    refine kc_K_K_writeBlocks hx hb hml hown hts hV hK hX hAe (c_K_writeBlocks l E s5 r6 _ hw) hl.1 (Nat.le_of_ble_eq_true rfl) d_K_mustWait_45 (Nat.le_of_ble_eq_true rfl) (Nat.le_of_ble_eq_true rfl) (fun r8 s7 H locs hw hV => ?_)
    exact kr_z hx hb hr hV hK hX hAe hw.1 hw.2 d_K_mustWait_48
  have hsw := hsw.2
  by_cases hc34 : r2 = 34
  · have hw := hsw.1 hc34
    refine lv_tableIn (off := 45) (tgt := 49) hx hb d_K_mustWait_4 (by rw [hc34]; decide) (by rw [hc34]; decide) (by rw [hc34]; decide) rfl ?_
    refine lv_aload_n hx hb d_K_mustWait_49 rfl (lv_at hl 0 rfl) ?_
    refine lv_aload_n hx hb d_K_mustWait_50 rfl (lv_at hl 1 rfl) ?_
    refine lv_aload_n hx hb d_K_mustWait_51 rfl (lv_at hl 1 rfl) ?_
    refine kc_K_P_top hx hb hml hown hts hV hK hX hAe (c_P_top l E s1 p1 hp1 _ hw) hp1 hl.1 (Nat.le_of_ble_eq_true rfl) d_K_mustWait_52 (Nat.le_of_ble_eq_true rfl) (Nat.le_of_ble_eq_true rfl) (fun r10 s9 H locs hw hV => ?_)
    refine kc_K_P_descriptorAt hx hb hml hown hts hV hK hX hAe (c_P_descriptorAt l E s9 p1 hp1 r10 _ hw) hp1 hl.1 (Nat.le_of_ble_eq_true rfl) d_K_mustWait_55 (Nat.le_of_ble_eq_true rfl) (Nat.le_of_ble_eq_true rfl) (fun r12 s11 H locs hw hV => ?_)
    refine kc_K_K_readBlocks hx hb hml hown hts hV hK hX hAe (c_K_readBlocks l E s11 r12 _ hw) hl.1 (Nat.le_of_ble_eq_true rfl) d_K_mustWait_58 (Nat.le_of_ble_eq_true rfl) (Nat.le_of_ble_eq_true rfl) (fun r14 s13 H locs hw hV => ?_)
    exact kr_z hx hb hr hV hK hX hAe hw.1 hw.2 d_K_mustWait_61
  have hsw := hsw.2
  by_cases hc36 : r2 = 36
  · have hw := hsw.1 hc36
    refine lv_tableIn (off := 58) (tgt := 62) hx hb d_K_mustWait_4 (by rw [hc36]; decide) (by rw [hc36]; decide) (by rw [hc36]; decide) rfl ?_
    refine lv_aload_n hx hb d_K_mustWait_62 rfl (lv_at hl 0 rfl) ?_
    refine lv_aload_n hx hb d_K_mustWait_63 rfl (lv_at hl 1 rfl) ?_
    refine kc_K_K_hasChild hx hb hml hown hts hV hK hX hAe (c_K_hasChild l E s1 p1 hp1 _ hw) hl.1 (Nat.le_of_ble_eq_true rfl) d_K_mustWait_64 (Nat.le_of_ble_eq_true rfl) (Nat.le_of_ble_eq_true rfl) (fun r16 s15 H locs hw hV => ?_)
    refine lv_if_eq (tgt := 82) hx hb d_K_mustWait_67 rfl (fun hc => ?_) (fun hc => ?_)
    · have hw := hw.1 hc
      refine lv_iconst (v := 0) hx hb d_K_mustWait_82 (by decide) ?_
      exact kr_z hx hb hr hV hK hX hAe (by decide) hw d_K_mustWait_83
    · have hw := hw.2 hc
      refine lv_aload_n hx hb d_K_mustWait_70 rfl (lv_at hl 0 rfl) ?_
      refine lv_aload_n hx hb d_K_mustWait_71 rfl (lv_at hl 1 rfl) ?_
      refine kc_K_K_endedChild hx hb hml hown hts hV hK hX hAe (c_K_endedChild l E s15 p1 hp1 _ hw) hl.1 (Nat.le_of_ble_eq_true rfl) d_K_mustWait_72 (Nat.le_of_ble_eq_true rfl) (Nat.le_of_ble_eq_true rfl) (fun o18 s17 H locs ho18 hw hV => ?_)
      rcases o18 with _ | z19
      · have hw := hw.1 rfl
        have hl : lv_has ls 2 [(0, .ref (ea E 0 0)), (1, .ref (ea E 1 p1))] := hl
        show W _ _ _ _ _ _ _ _ _ _ _ _ _ _ _ (F0 m 75 ls [.null])
        refine lv_ifnonnullN hx hb d_K_mustWait_75 ?_
        refine lv_iconst (v := 1) hx hb d_K_mustWait_78 (by decide) ?_
        refine lv_goto (tgt := 83) hx hb d_K_mustWait_79 rfl ?_
        exact kr_z hx hb hr hV hK hX hAe (by decide) hw d_K_mustWait_83
      · have hw := hw.2 z19 rfl
        have hl : lv_has ls 2 [(0, .ref (ea E 0 0)), (1, .ref (ea E 1 p1))] := hl
        show W _ _ _ _ _ _ _ _ _ _ _ _ _ _ _ (F0 m 75 ls [.ref (ea E 1 z19)])
        refine lv_ifnonnull (tgt := 82) hx hb d_K_mustWait_75 rfl ?_
        refine lv_iconst (v := 0) hx hb d_K_mustWait_82 (by decide) ?_
        exact kr_z hx hb hr hV hK hX hAe (by decide) hw d_K_mustWait_83
  have hsw := hsw.2
  have hw := hsw ⟨hc33, hc34, hc36⟩
  refine kr_dflt (g2 := F0 m 84 ls []) ?_ (fun kd => ?_)
  · refine lv_iconst (v := 0) hx hb d_K_mustWait_84 (by decide) ?_
    exact kr_z hx hb hr hV hK hX hAe (by decide) hw d_K_mustWait_85
  by_cases hc35 : r2 = 35
  · exact lv_tableIn (off := 80) (tgt := 84) hx hb d_K_mustWait_4 (by rw [hc35]; decide) (by rw [hc35]; decide) (by rw [hc35]; decide) rfl kd
  have hn33 : ¬ r2.toInt = 33 := lv_neT hc33 (by decide)
  have hn34 : ¬ r2.toInt = 34 := lv_neT hc34 (by decide)
  have hn35 : ¬ r2.toInt = 35 := lv_neT hc35 (by decide)
  have hn36 : ¬ r2.toInt = 36 := lv_neT hc36 (by decide)
  exact lv_tableOut (tgt := 84) hx hb d_K_mustWait_4 (by omega) rfl kd
theorem d_K_close_0 : decode b_K_close 0 = .ok (.aload_n 1, 1) := by decide +kernel
theorem d_K_close_1 : decode b_K_close 1 = .ok (.invokevirtual 253, 3) := by decide +kernel
theorem d_K_close_4 : decode b_K_close 4 = .ok (.istore_n 2, 1) := by decide +kernel
theorem d_K_close_5 : decode b_K_close 5 = .ok (.aload_n 1, 1) := by decide +kernel
theorem d_K_close_6 : decode b_K_close 6 = .ok (.iload_n 2, 1) := by decide +kernel
theorem d_K_close_7 : decode b_K_close 7 = .ok (.invokevirtual 213, 3) := by decide +kernel
theorem d_K_close_10 : decode b_K_close 10 = .ok (.ifCond .ne 9, 3) := by decide +kernel
theorem d_K_close_13 : decode b_K_close 13 = .ok (.aload_n 1, 1) := by decide +kernel
theorem d_K_close_14 : decode b_K_close 14 = .ok (.iconst (-1), 1) := by decide +kernel
theorem d_K_close_15 : decode b_K_close 15 = .ok (.invokevirtual 259, 3) := by decide +kernel
theorem d_K_close_18 : decode b_K_close 18 = .ok (.return_, 1) := by decide +kernel
theorem d_K_close_19 : decode b_K_close 19 = .ok (.aload_n 0, 1) := by decide +kernel
theorem d_K_close_20 : decode b_K_close 20 = .ok (.aload_n 0, 1) := by decide +kernel
theorem d_K_close_21 : decode b_K_close 21 = .ok (.aload_n 1, 1) := by decide +kernel
theorem d_K_close_22 : decode b_K_close 22 = .ok (.iload_n 2, 1) := by decide +kernel
theorem d_K_close_23 : decode b_K_close 23 = .ok (.invokevirtual 332, 3) := by decide +kernel
theorem d_K_close_26 : decode b_K_close 26 = .ok (.invokevirtual 122, 3) := by decide +kernel
theorem d_K_close_29 : decode b_K_close 29 = .ok (.aload_n 1, 1) := by decide +kernel
theorem d_K_close_30 : decode b_K_close 30 = .ok (.iconst 0, 1) := by decide +kernel
theorem d_K_close_31 : decode b_K_close 31 = .ok (.invokevirtual 259, 3) := by decide +kernel
theorem d_K_close_34 : decode b_K_close 34 = .ok (.return_, 1) := by decide +kernel
def w_K_close (cp : Nat) (p1 : Nat) (s0 : KS) (Φ : KS → Prop) : Prop := w_P_pop cp p1 s0 (fun r2 s1 => w_P_descriptorAt cp p1 r2 s1 (fun r4 s3 => ((¬ r4 = 0 → w_K_closeDescriptor cp p1 r2 s3 (fun r6 s5 => w_K_wakeAll cp r6 s5 (fun s7 => w_P_push cp p1 (0 : Int32) s7 (fun s8 => Φ s8)))) ∧ (r4 = 0 → w_P_push cp p1 (-1 : Int32) s3 (fun s9 => Φ s9)))))
set_option maxHeartbeats 4000000 in
set_option maxRecDepth 100000 in
theorem c_K_close (l : Launch) (E : gE) (s0 : KS) (p1 : Nat) (hp1 : p1 < 16) (Φ : KS → Prop) (hw : w_K_close (eN E) p1 s0 Φ) : gMv l y_K_close v_K_close m_K_close E KK [.ref (ea E 0 0), .ref (ea E 1 p1)] s0 Φ := by
  intro sz
  refine Met.ofW (cc := b_K_close) (maxL := 3) (ret := none) (by decide) rfl ?_
  intro p e s m args below meth c s₁ B hml hv
  obtain ⟨rfl, hsz, hP, hK, hD, hX⟩ := hv
  have hx := B.exec
  have hb := B.bytes
  have hr := B.returns
  have hts := atoms_spec (ws := v_K_close) B.pre
  have hG : ∀ w ∈ gG, w.before _ s = true := fun w h => hts w (List.mem_cons_of_mem _ h)
  have hown : s.vm.findClass R_K = some m.cls := findClass_of_methodNamed B.named
  have hlocks := B.notSynchronized
  subst hsz
  obtain ⟨A, hAe⟩ : ∃ A, A = gA E KK s.heap.size := ⟨_, rfl⟩
  rw [← hAe] at hD hX ⊢
  have hV : gV E KK A s0 s s.heap [] := ⟨hP, hD, va_S.rf⟩
  have hl := lv_entry ([.ref (ea E 0 0), .ref (ea E 1 p1)] : List Value) (n := 3) (Nat.le_of_ble_eq_true rfl)
  rw [lg_entry_eq]
  generalize (lg_sl ([.ref (ea E 0 0), .ref (ea E 1 p1)] : List Value) ++ List.replicate (3 - (lg_sl ([.ref (ea E 0 0), .ref (ea E 1 p1)] : List Value)).length) Slot.unset).toArray = ls at hl ⊢
  have hl : lv_has ls 3 [(0, .ref (ea E 0 0)), (1, .ref (ea E 1 p1))] := hl
  unfold w_K_close at hw
  refine lv_aload_n hx hb d_K_close_0 rfl (lv_at hl 1 rfl) ?_
  refine kc_K_P_pop hx hb hml hown hts hV hK hX hAe (c_P_pop l E s0 p1 hp1 _ hw) hp1 hl.1 (Nat.le_of_ble_eq_true rfl) d_K_close_1 (Nat.le_of_ble_eq_true rfl) (Nat.le_of_ble_eq_true rfl) (fun r2 s1 H locs hw hV => ?_)
  refine lv_istore_n (lv' := [(2, .int r2), (0, .ref (ea E 0 0)), (1, .ref (ea E 1 p1))]) hx hb d_K_close_4 rfl hl (by decide) rfl (fun ls hl => ?_)
  refine lv_aload_n hx hb d_K_close_5 rfl (lv_at hl 2 rfl) ?_
  refine lv_iload_n hx hb d_K_close_6 rfl (lv_at hl 0 rfl) ?_
  refine kc_K_P_descriptorAt hx hb hml hown hts hV hK hX hAe (c_P_descriptorAt l E s1 p1 hp1 r2 _ hw) hp1 hl.1 (Nat.le_of_ble_eq_true rfl) d_K_close_7 (Nat.le_of_ble_eq_true rfl) (Nat.le_of_ble_eq_true rfl) (fun r4 s3 H locs hw hV => ?_)
  refine lv_if_ne (tgt := 19) hx hb d_K_close_10 rfl (fun hc => ?_) (fun hc => ?_)
  · have hw := hw.1 hc
    refine lv_aload_n hx hb d_K_close_19 rfl (lv_at hl 1 rfl) ?_
    refine lv_aload_n hx hb d_K_close_20 rfl (lv_at hl 1 rfl) ?_
    refine lv_aload_n hx hb d_K_close_21 rfl (lv_at hl 2 rfl) ?_
    refine lv_iload_n hx hb d_K_close_22 rfl (lv_at hl 0 rfl) ?_
    refine kc_K_K_closeDescriptor hx hb hml hown hts hV hK hX hAe (c_K_closeDescriptor l E s3 p1 hp1 r2 _ hw) hl.1 (Nat.le_of_ble_eq_true rfl) d_K_close_23 (Nat.le_of_ble_eq_true rfl) (Nat.le_of_ble_eq_true rfl) (fun r6 s5 H locs hw hV => ?_)
    refine kc_K_K_wakeAll hx hb hml hown hts hV hK hX hAe (c_K_wakeAll l E s5 r6 _ hw) hl.1 (Nat.le_of_ble_eq_true rfl) d_K_close_26 (Nat.le_of_ble_eq_true rfl) (Nat.le_of_ble_eq_true rfl) (fun s7 H locs hw hV => ?_)
    refine lv_aload_n hx hb d_K_close_29 rfl (lv_at hl 2 rfl) ?_
    refine lv_iconst (v := 0) hx hb d_K_close_30 (by decide) ?_
    refine kc_K_P_push hx hb hml hown hts hV hK hX hAe (c_P_push l E s7 p1 hp1 (0 : Int32) _ hw) hp1 hl.1 (Nat.le_of_ble_eq_true rfl) d_K_close_31 (Nat.le_of_ble_eq_true rfl) (Nat.le_of_ble_eq_true rfl) (fun s8 H locs hw hV => ?_)
    exact kr_v hx hb hr hV hK hX hAe hw d_K_close_34
  · have hw := hw.2 hc
    refine lv_aload_n hx hb d_K_close_13 rfl (lv_at hl 2 rfl) ?_
    refine lv_iconst (v := -1) hx hb d_K_close_14 (by decide) ?_
    refine kc_K_P_push hx hb hml hown hts hV hK hX hAe (c_P_push l E s3 p1 hp1 (-1 : Int32) _ hw) hp1 hl.1 (Nat.le_of_ble_eq_true rfl) d_K_close_15 (Nat.le_of_ble_eq_true rfl) (Nat.le_of_ble_eq_true rfl) (fun s9 H locs hw hV => ?_)
    exact kr_v hx hb hr hV hK hX hAe hw d_K_close_18
theorem d_K_addEnd_0 : decode b_K_addEnd 0 = .ok (.iload_n 1, 1) := by decide +kernel
theorem d_K_addEnd_1 : decode b_K_addEnd 1 = .ok (.bipush 10, 2) := by decide +kernel
theorem d_K_addEnd_3 : decode b_K_addEnd 3 = .ok (.if_icmp .lt 13, 3) := by decide +kernel
theorem d_K_addEnd_6 : decode b_K_addEnd 6 = .ok (.aload_n 0, 1) := by decide +kernel
theorem d_K_addEnd_7 : decode b_K_addEnd 7 = .ok (.getfield 21, 3) := by decide +kernel
theorem d_K_addEnd_10 : decode b_K_addEnd 10 = .ok (.iload_n 1, 1) := by decide +kernel
theorem d_K_addEnd_11 : decode b_K_addEnd 11 = .ok (.dup2, 1) := by decide +kernel
theorem d_K_addEnd_12 : decode b_K_addEnd 12 = .ok (.iaload, 1) := by decide +kernel
theorem d_K_addEnd_13 : decode b_K_addEnd 13 = .ok (.iconst 1, 1) := by decide +kernel
theorem d_K_addEnd_14 : decode b_K_addEnd 14 = .ok (.iadd, 1) := by decide +kernel
theorem d_K_addEnd_15 : decode b_K_addEnd 15 = .ok (.iastore, 1) := by decide +kernel
theorem d_K_addEnd_16 : decode b_K_addEnd 16 = .ok (.return_, 1) := by decide +kernel
def w_K_addEnd (cp : Nat) (x1 : Int32) (s0 : KS) (Φ : KS → Prop) : Prop := ((x1 < (10 : Int32) → Φ s0) ∧ (¬ x1 < (10 : Int32) → vp_in x1 28 ∧ vp_in x1 28 ∧ ∀ s1 : KS, s1 = w3 s0 7 0 x1.toNatClampNeg ((s0 7 0 x1.toNatClampNeg) + (1 : Int32)) → Φ s1))
set_option maxHeartbeats 4000000 in
set_option maxRecDepth 100000 in
theorem c_K_addEnd (l : Launch) (E : gE) (s0 : KS) (x1 : Int32) (Φ : KS → Prop) (hw : w_K_addEnd (eN E) x1 s0 Φ) : gMv l y_K_addEnd v_K_addEnd m_K_addEnd E KK [.ref (ea E 0 0), .int x1] s0 Φ := by
  intro sz
  refine Met.ofW (cc := b_K_addEnd) (maxL := 2) (ret := none) (by decide) rfl ?_
  intro p e s m args below meth c s₁ B hml hv
  obtain ⟨rfl, hsz, hP, hK, hD, hX⟩ := hv
  have hx := B.exec
  have hb := B.bytes
  have hr := B.returns
  have hts := atoms_spec (ws := v_K_addEnd) B.pre
  have hG : ∀ w ∈ gG, w.before _ s = true := fun w h => hts w (List.mem_cons_of_mem _ h)
  have hown : s.vm.findClass R_K = some m.cls := findClass_of_methodNamed B.named
  have hlocks := B.notSynchronized
  subst hsz
  obtain ⟨A, hAe⟩ : ∃ A, A = gA E KK s.heap.size := ⟨_, rfl⟩
  rw [← hAe] at hD hX ⊢
  have hV : gV E KK A s0 s s.heap [] := ⟨hP, hD, va_S.rf⟩
  have hl := lv_entry ([.ref (ea E 0 0), .int x1] : List Value) (n := 2) (Nat.le_of_ble_eq_true rfl)
  rw [lg_entry_eq]
  generalize (lg_sl ([.ref (ea E 0 0), .int x1] : List Value) ++ List.replicate (2 - (lg_sl ([.ref (ea E 0 0), .int x1] : List Value)).length) Slot.unset).toArray = ls at hl ⊢
  have hl : lv_has ls 2 [(0, .ref (ea E 0 0)), (1, .int x1)] := hl
  unfold w_K_addEnd at hw
  refine lv_iload_n hx hb d_K_addEnd_0 rfl (lv_at hl 1 rfl) ?_
  refine lv_bipush (v := 10) hx hb d_K_addEnd_1 (by decide) ?_
  refine lv_icmp_lt (tgt := 16) hx hb d_K_addEnd_3 rfl (fun hc => ?_) (fun hc => ?_)
  · have hw := hw.1 hc
    exact kr_v hx hb hr hV hK hX hAe hw d_K_addEnd_16
  · have hw := hw.2 hc
    refine lv_aload_n hx hb d_K_addEnd_6 rfl (lv_at hl 0 rfl) ?_
    refine kg_K_K_ends hx hb hG hown hK hV d_K_addEnd_7 ?_
    refine lv_iload_n hx hb d_K_addEnd_10 rfl (lv_at hl 1 rfl) ?_
    refine lv_dup2_11 hx hb d_K_addEnd_11 rfl rfl ?_
    refine kl_7 hx hb hK hV hw.1 d_K_addEnd_12 ?_
    have hw := hw.2
    refine lv_iconst (v := 1) hx hb d_K_addEnd_13 (by decide) ?_
    refine lv_iadd hx hb d_K_addEnd_14 ?_
    refine ks_7 hx hb hK hV hw.1 d_K_addEnd_15 (fun s1 H locs es1 hV => ?_)
    have hw := hw.2 s1 es1
    exact kr_v hx hb hr hV hK hX hAe hw d_K_addEnd_16
theorem d_K_openDescriptor_0 : decode b_K_openDescriptor 0 = .ok (.aload_n 1, 1) := by decide +kernel
theorem d_K_openDescriptor_1 : decode b_K_openDescriptor 1 = .ok (.invokevirtual 329, 3) := by decide +kernel
theorem d_K_openDescriptor_4 : decode b_K_openDescriptor 4 = .ok (.istore_n 3, 1) := by decide +kernel
theorem d_K_openDescriptor_5 : decode b_K_openDescriptor 5 = .ok (.iload_n 3, 1) := by decide +kernel
theorem d_K_openDescriptor_6 : decode b_K_openDescriptor 6 = .ok (.iconst (-1), 1) := by decide +kernel
theorem d_K_openDescriptor_7 : decode b_K_openDescriptor 7 = .ok (.if_icmp .eq 15, 3) := by decide +kernel
theorem d_K_openDescriptor_10 : decode b_K_openDescriptor 10 = .ok (.aload_n 1, 1) := by decide +kernel
theorem d_K_openDescriptor_11 : decode b_K_openDescriptor 11 = .ok (.getfield 89, 3) := by decide +kernel
theorem d_K_openDescriptor_14 : decode b_K_openDescriptor 14 = .ok (.iload_n 3, 1) := by decide +kernel
theorem d_K_openDescriptor_15 : decode b_K_openDescriptor 15 = .ok (.iload_n 2, 1) := by decide +kernel
theorem d_K_openDescriptor_16 : decode b_K_openDescriptor 16 = .ok (.iastore, 1) := by decide +kernel
theorem d_K_openDescriptor_17 : decode b_K_openDescriptor 17 = .ok (.aload_n 0, 1) := by decide +kernel
theorem d_K_openDescriptor_18 : decode b_K_openDescriptor 18 = .ok (.iload_n 2, 1) := by decide +kernel
theorem d_K_openDescriptor_19 : decode b_K_openDescriptor 19 = .ok (.invokevirtual 313, 3) := by decide +kernel
theorem d_K_openDescriptor_22 : decode b_K_openDescriptor 22 = .ok (.iload_n 3, 1) := by decide +kernel
theorem d_K_openDescriptor_23 : decode b_K_openDescriptor 23 = .ok (.ireturn, 1) := by decide +kernel
def w_K_openDescriptor (cp : Nat) (p1 : Nat) (x2 : Int32) (s0 : KS) (Φ : Int32 → KS → Prop) : Prop := w_P_leastClosed cp p1 s0 (fun r2 s1 => ((r2 = (-1 : Int32) → Φ r2 s1) ∧ (¬ r2 = (-1 : Int32) → vp_in r2 8 ∧ ∀ s3 : KS, s3 = w3 s1 4 p1 r2.toNatClampNeg x2 → w_K_addEnd cp x2 s3 (fun s4 => Φ r2 s4))))
set_option maxHeartbeats 4000000 in
set_option maxRecDepth 100000 in
theorem c_K_openDescriptor (l : Launch) (E : gE) (s0 : KS) (p1 : Nat) (hp1 : p1 < 16) (x2 : Int32) (Φ : Int32 → KS → Prop) (hw : w_K_openDescriptor (eN E) p1 x2 s0 Φ) : gMi l y_K_openDescriptor v_K_openDescriptor m_K_openDescriptor E KK [.ref (ea E 0 0), .ref (ea E 1 p1), .int x2] s0 Φ := by
  intro sz
  refine Met.ofW (cc := b_K_openDescriptor) (maxL := 4) (ret := (some .int)) (by decide) rfl ?_
  intro p e s m args below meth c s₁ B hml hv
  obtain ⟨rfl, hsz, hP, hK, hD, hX⟩ := hv
  have hx := B.exec
  have hb := B.bytes
  have hr := B.returns
  have hts := atoms_spec (ws := v_K_openDescriptor) B.pre
  have hG : ∀ w ∈ gG, w.before _ s = true := fun w h => hts w (List.mem_cons_of_mem _ h)
  have hown : s.vm.findClass R_K = some m.cls := findClass_of_methodNamed B.named
  have hlocks := B.notSynchronized
  subst hsz
  obtain ⟨A, hAe⟩ : ∃ A, A = gA E KK s.heap.size := ⟨_, rfl⟩
  rw [← hAe] at hD hX ⊢
  have hV : gV E KK A s0 s s.heap [] := ⟨hP, hD, va_S.rf⟩
  have hl := lv_entry ([.ref (ea E 0 0), .ref (ea E 1 p1), .int x2] : List Value) (n := 4) (Nat.le_of_ble_eq_true rfl)
  rw [lg_entry_eq]
  generalize (lg_sl ([.ref (ea E 0 0), .ref (ea E 1 p1), .int x2] : List Value) ++ List.replicate (4 - (lg_sl ([.ref (ea E 0 0), .ref (ea E 1 p1), .int x2] : List Value)).length) Slot.unset).toArray = ls at hl ⊢
  have hl : lv_has ls 4 [(0, .ref (ea E 0 0)), (1, .ref (ea E 1 p1)), (2, .int x2)] := hl
  unfold w_K_openDescriptor at hw
  refine lv_aload_n hx hb d_K_openDescriptor_0 rfl (lv_at hl 1 rfl) ?_
  refine kc_K_P_leastClosed hx hb hml hown hts hV hK hX hAe (c_P_leastClosed l E s0 p1 hp1 _ hw) hp1 hl.1 (Nat.le_of_ble_eq_true rfl) d_K_openDescriptor_1 (Nat.le_of_ble_eq_true rfl) (Nat.le_of_ble_eq_true rfl) (fun r2 s1 H locs hw hV => ?_)
  refine lv_istore_n (lv' := [(3, .int r2), (0, .ref (ea E 0 0)), (1, .ref (ea E 1 p1)), (2, .int x2)]) hx hb d_K_openDescriptor_4 rfl hl (by decide) rfl (fun ls hl => ?_)
  refine lv_iload_n hx hb d_K_openDescriptor_5 rfl (lv_at hl 0 rfl) ?_
  refine lv_iconst (v := -1) hx hb d_K_openDescriptor_6 (by decide) ?_
  refine lv_icmp_eq (tgt := 22) hx hb d_K_openDescriptor_7 rfl (fun hc => ?_) (fun hc => ?_)
  · have hw := hw.1 hc
    refine lv_iload_n hx hb d_K_openDescriptor_22 rfl (lv_at hl 0 rfl) ?_
    exact kr_i hx hb hr hV hK hX hAe hw d_K_openDescriptor_23
  · have hw := hw.2 hc
    refine lv_aload_n hx hb d_K_openDescriptor_10 rfl (lv_at hl 2 rfl) ?_
    refine kg_K_P_descriptors hx hb hG hown hK hV hp1 d_K_openDescriptor_11 ?_
    refine lv_iload_n hx hb d_K_openDescriptor_14 rfl (lv_at hl 0 rfl) ?_
    refine lv_iload_n hx hb d_K_openDescriptor_15 rfl (lv_at hl 3 rfl) ?_
    refine ks_4 hx hb hK hV hp1 hw.1 d_K_openDescriptor_16 (fun s3 H locs es3 hV => ?_)
    have hw := hw.2 s3 es3
    refine lv_aload_n hx hb d_K_openDescriptor_17 rfl (lv_at hl 1 rfl) ?_
    refine lv_iload_n hx hb d_K_openDescriptor_18 rfl (lv_at hl 3 rfl) ?_
    refine kc_K_K_addEnd hx hb hml hown hts hV hK hX hAe (c_K_addEnd l E s3 x2 _ hw) hl.1 (Nat.le_of_ble_eq_true rfl) d_K_openDescriptor_19 (Nat.le_of_ble_eq_true rfl) (Nat.le_of_ble_eq_true rfl) (fun s4 H locs hw hV => ?_)
    refine lv_iload_n hx hb d_K_openDescriptor_22 rfl (lv_at hl 0 rfl) ?_
    exact kr_i hx hb hr hV hK hX hAe hw d_K_openDescriptor_23
end

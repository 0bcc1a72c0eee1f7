/-! names, printed by wip/gen/build.py -/
def R_P : String := "PipeKernel$Proc"
def F_P : u_T := fun k => match k with
  | 0 => ("PipeKernel$Proc", "number", "I", true)
  | 1 => ("PipeKernel$Proc", "memory", "[I", true)
  | 2 => ("PipeKernel$Proc", "words", "[I", true)
  | 3 => ("PipeKernel$Proc", "descriptors", "[I", true)
  | 4 => ("PipeKernel$Proc", "height", "I", false)
  | 5 => ("PipeKernel$Proc", "place", "I", false)
  | 6 => ("PipeKernel$Proc", "parent", "I", false)
  | 7 => ("PipeKernel$Proc", "state", "I", false)
  | 8 => ("PipeKernel$Proc", "code", "I", false)
  | 9 => ("PipeKernel$Proc", "wakeTime", "I", false)
  | 10 => ("PipeKernel$Proc", "waitsOn", "I", false)
  | _ => ("PipeKernel$Proc", "waitsSince", "I", false)
def t_P : Nat → FieldType := fun k => match k with
  | 0 => .int
  | 1 => .array .int
  | 2 => .array .int
  | 3 => .array .int
  | 4 => .int
  | 5 => .int
  | 6 => .int
  | 7 => .int
  | 8 => .int
  | 9 => .int
  | 10 => .int
  | _ => .int
theorem n_P : ∀ a, a < 12 → ∀ b, b < 12 → a ≠ b → (F_P a).2.1 ≠ (F_P b).2.1 := by decide +kernel
theorem t_P_ok : ∀ k, k < 12 → parseFieldDescriptor (F_P k).2.2.1 = some (t_P k) := by decide +kernel
def R_W : String := "PipeKernel$Words"
def F_W : u_T := fun k => match k with
  | 0 => ("PipeKernel$Words", "words", "[I", true)
  | 1 => ("PipeKernel$Words", "first", "I", false)
  | _ => ("PipeKernel$Words", "count", "I", false)
def t_W : Nat → FieldType := fun k => match k with
  | 0 => .array .int
  | 1 => .int
  | _ => .int
theorem n_W : ∀ a, a < 3 → ∀ b, b < 3 → a ≠ b → (F_W a).2.1 ≠ (F_W b).2.1 := by decide +kernel
theorem t_W_ok : ∀ k, k < 3 → parseFieldDescriptor (F_W k).2.2.1 = some (t_W k) := by decide +kernel
def R_K : String := "PipeKernel"
def F_K : u_T := fun k => match k with
  | 0 => ("PipeKernel", "quantum", "I", true)
  | 1 => ("PipeKernel", "procs", "[LPipeKernel$Proc;", true)
  | 2 => ("PipeKernel", "pipes", "[LPipeKernel$Words;", true)
  | 3 => ("PipeKernel", "ends", "[I", true)
  | 4 => ("PipeKernel", "ready", "[I", true)
  | 5 => ("PipeKernel", "readyCount", "I", false)
  | 6 => ("PipeKernel", "doneByFirst", "I", false)
  | 7 => ("PipeKernel", "now", "I", false)
  | 8 => ("PipeKernel", "waitsBegun", "I", false)
  | 9 => ("PipeKernel", "booted", "Z", false)
  | 10 => ("PipeKernel", "input", "LPipeKernel$Words;", true)
  | 11 => ("PipeKernel", "inputShut", "Z", false)
  | 12 => ("PipeKernel", "output", "LPipeKernel$Words;", true)
  | _ => ("PipeKernel", "outputCount", "I", false)
def t_K : Nat → FieldType := fun k => match k with
  | 0 => .int
  | 1 => .array (.object "PipeKernel$Proc")
  | 2 => .array (.object "PipeKernel$Words")
  | 3 => .array .int
  | 4 => .array .int
  | 5 => .int
  | 6 => .int
  | 7 => .int
  | 8 => .int
  | 9 => .boolean
  | 10 => .object "PipeKernel$Words"
  | 11 => .boolean
  | 12 => .object "PipeKernel$Words"
  | _ => .int
theorem n_K : ∀ a, a < 14 → ∀ b, b < 14 → a ≠ b → (F_K a).2.1 ≠ (F_K b).2.1 := by decide +kernel
theorem t_K_ok : ∀ k, k < 14 → parseFieldDescriptor (F_K k).2.2.1 = some (t_K k) := by decide +kernel
def R_M : String := "PipeKernelModel"
def F_M : u_T := fun k => match k with
  | 0 => ("PipeKernelModel", "code", "I", false)
  | 1 => ("PipeKernelModel", "quantum", "I", true)
  | 2 => ("PipeKernelModel", "capacity", "I", true)
  | 3 => ("PipeKernelModel", "booted", "Z", false)
  | 4 => ("PipeKernelModel", "time", "I", false)
  | 5 => ("PipeKernelModel", "image", "[I", true)
  | 6 => ("PipeKernelModel", "state", "[I", true)
  | 7 => ("PipeKernelModel", "memory", "[I", true)
  | 8 => ("PipeKernelModel", "stack", "[I", true)
  | 9 => ("PipeKernelModel", "size", "[I", true)
  | 10 => ("PipeKernelModel", "place", "[I", true)
  | 11 => ("PipeKernelModel", "descriptors", "[I", true)
  | 12 => ("PipeKernelModel", "parent", "[I", true)
  | 13 => ("PipeKernelModel", "codes", "[I", true)
  | 14 => ("PipeKernelModel", "until", "[I", true)
  | 15 => ("PipeKernelModel", "queue", "[I", true)
  | 16 => ("PipeKernelModel", "queued", "I", false)
  | 17 => ("PipeKernelModel", "done", "I", false)
  | 18 => ("PipeKernelModel", "moved", "Z", false)
  | 19 => ("PipeKernelModel", "waiting", "[I", true)
  | 20 => ("PipeKernelModel", "waits", "[I", true)
  | 21 => ("PipeKernelModel", "words", "[I", true)
  | 22 => ("PipeKernelModel", "filled", "[I", true)
  | 23 => ("PipeKernelModel", "input", "[I", true)
  | 24 => ("PipeKernelModel", "inputs", "I", false)
  | 25 => ("PipeKernelModel", "isShut", "Z", false)
  | 26 => ("PipeKernelModel", "output", "[I", true)
  | _ => ("PipeKernelModel", "outputs", "I", false)
def t_M : Nat → FieldType := fun k => match k with
  | 0 => .int
  | 1 => .int
  | 2 => .int
  | 3 => .boolean
  | 4 => .int
  | 5 => .array .int
  | 6 => .array .int
  | 7 => .array .int
  | 8 => .array .int
  | 9 => .array .int
  | 10 => .array .int
  | 11 => .array .int
  | 12 => .array .int
  | 13 => .array .int
  | 14 => .array .int
  | 15 => .array .int
  | 16 => .int
  | 17 => .int
  | 18 => .boolean
  | 19 => .array .int
  | 20 => .array .int
  | 21 => .array .int
  | 22 => .array .int
  | 23 => .array .int
  | 24 => .int
  | 25 => .boolean
  | 26 => .array .int
  | _ => .int
theorem n_M : ∀ a, a < 28 → ∀ b, b < 28 → a ≠ b → (F_M a).2.1 ≠ (F_M b).2.1 := by decide +kernel
theorem t_M_ok : ∀ k, k < 28 → parseFieldDescriptor (F_M k).2.2.1 = some (t_M k) := by decide +kernel
def R_I : String := "java/lang/Integer"
abbrev classes : List vw_C := [(R_P, F_P, 12), (R_W, F_W, 3), (R_K, F_K, 14), (R_M, F_M, 28)]
def gG : List Cond := lw_tbl.filter goodWord
theorem gG_of {w : Cond} (h : w ∈ lw_tbl) (hg : goodWord w = true) : w ∈ gG := List.mem_filter.mpr ⟨h, hg⟩
theorem gG_good : ∀ w ∈ gG, (w.onTables && w.keeps) = true ∨ ∃ ty, w = .arrayClass ty := fun w h => good_of_word (List.mem_filter.mp h).2
theorem tb_tables_1_1 {w : Cond} (h : w ∈ tables_1_1) (hg : goodWord w = true) : w ∈ gG := gG_of (List.mem_append_right _ (show w ∈ tables_1 from (List.mem_append_left _ h))) hg
theorem tb_tables_1_2 {w : Cond} (h : w ∈ tables_1_2) (hg : goodWord w = true) : w ∈ gG := gG_of (List.mem_append_right _ (show w ∈ tables_1 from (List.mem_append_right _ (List.mem_append_left _ h)))) hg
theorem tb_tables_1_3 {w : Cond} (h : w ∈ tables_1_3) (hg : goodWord w = true) : w ∈ gG := gG_of (List.mem_append_right _ (show w ∈ tables_1 from (List.mem_append_right _ (List.mem_append_right _ (List.mem_append_left _ h))))) hg
theorem tb_tables_1_4 {w : Cond} (h : w ∈ tables_1_4) (hg : goodWord w = true) : w ∈ gG := gG_of (List.mem_append_right _ (show w ∈ tables_1 from (List.mem_append_right _ (List.mem_append_right _ (List.mem_append_right _ h))))) hg
theorem tb_lw_privs_1 {q : MethodName × Nat} (h : q ∈ lw_privs_1) (hg : goodWord (Cond.selects q.1.cls q.1 q.1) = true) : Cond.selects q.1.cls q.1 q.1 ∈ gG := gG_of (List.mem_append_left _ (List.mem_map.mpr ⟨q, show q ∈ lw_privs from (List.mem_append_left _ h), rfl⟩)) hg
theorem tb_lw_privs_2 {q : MethodName × Nat} (h : q ∈ lw_privs_2) (hg : goodWord (Cond.selects q.1.cls q.1 q.1) = true) : Cond.selects q.1.cls q.1 q.1 ∈ gG := gG_of (List.mem_append_left _ (List.mem_map.mpr ⟨q, show q ∈ lw_privs from (List.mem_append_right _ (List.mem_append_left _ h)), rfl⟩)) hg
theorem tb_lw_privs_3 {q : MethodName × Nat} (h : q ∈ lw_privs_3) (hg : goodWord (Cond.selects q.1.cls q.1 q.1) = true) : Cond.selects q.1.cls q.1 q.1 ∈ gG := gG_of (List.mem_append_left _ (List.mem_map.mpr ⟨q, show q ∈ lw_privs from (List.mem_append_right _ (List.mem_append_right _ (List.mem_append_left _ h))), rfl⟩)) hg
theorem tb_lw_privs_4 {q : MethodName × Nat} (h : q ∈ lw_privs_4) (hg : goodWord (Cond.selects q.1.cls q.1 q.1) = true) : Cond.selects q.1.cls q.1 q.1 ∈ gG := gG_of (List.mem_append_left _ (List.mem_map.mpr ⟨q, show q ∈ lw_privs from (List.mem_append_right _ (List.mem_append_right _ (List.mem_append_right _ (List.mem_append_left _ h)))), rfl⟩)) hg
theorem tb_lw_privs_5 {q : MethodName × Nat} (h : q ∈ lw_privs_5) (hg : goodWord (Cond.selects q.1.cls q.1 q.1) = true) : Cond.selects q.1.cls q.1 q.1 ∈ gG := gG_of (List.mem_append_left _ (List.mem_map.mpr ⟨q, show q ∈ lw_privs from (List.mem_append_right _ (List.mem_append_right _ (List.mem_append_right _ (List.mem_append_right _ h)))), rfl⟩)) hg
def y_I_bitCount : MethodName := ⟨R_I, "bitCount", "(I)I"⟩
abbrev b_I_bitCount : ByteArray := prog_10_method_49_code
def v_I_bitCount : List Cond := .code y_I_bitCount b_I_bitCount 1 (some .int) :: gG
def m_I_bitCount : Room := { frames := 0, cells := 0, slots := 0, locals := 0 }
def y_W_isEmpty : MethodName := ⟨R_W, "isEmpty", "()Z"⟩
abbrev b_W_isEmpty : ByteArray := prog_3_method_2_code
def v_W_isEmpty : List Cond := .code y_W_isEmpty b_W_isEmpty 1 (some .boolean) :: gG
def m_W_isEmpty : Room := { frames := 0, cells := 0, slots := 0, locals := 0 }
def y_W_isFull : MethodName := ⟨R_W, "isFull", "()Z"⟩
abbrev b_W_isFull : ByteArray := prog_3_method_3_code
def v_W_isFull : List Cond := .code y_W_isFull b_W_isFull 1 (some .boolean) :: gG
def m_W_isFull : Room := { frames := 0, cells := 0, slots := 0, locals := 0 }
def y_W_at : MethodName := ⟨R_W, "at", "(I)I"⟩
abbrev b_W_at : ByteArray := prog_3_method_4_code
def v_W_at : List Cond := .code y_W_at b_W_at 2 (some .int) :: gG
def m_W_at : Room := { frames := 1, cells := 0, slots := 0, locals := 21 }
def y_W_add : MethodName := ⟨R_W, "add", "(I)V"⟩
abbrev b_W_add : ByteArray := prog_3_method_5_code
def v_W_add : List Cond := .code y_W_add b_W_add 2 none :: gG
def m_W_add : Room := { frames := 1, cells := 0, slots := 0, locals := 21 }
def y_W_take : MethodName := ⟨R_W, "take", "()I"⟩
abbrev b_W_take : ByteArray := prog_3_method_6_code
def v_W_take : List Cond := .code y_W_take b_W_take 2 (some .int) :: gG
def m_W_take : Room := { frames := 1, cells := 0, slots := 0, locals := 21 }
def y_W_clear : MethodName := ⟨R_W, "clear", "()V"⟩
abbrev b_W_clear : ByteArray := prog_3_method_7_code
def v_W_clear : List Cond := .code y_W_clear b_W_clear 1 none :: gG
def m_W_clear : Room := { frames := 0, cells := 0, slots := 0, locals := 0 }
def y_W_wrap : MethodName := ⟨R_W, "wrap", "(I)I"⟩
abbrev b_W_wrap : ByteArray := prog_3_method_8_code
def v_W_wrap : List Cond := .code y_W_wrap b_W_wrap 2 (some .int) :: gG
def m_W_wrap : Room := { frames := 0, cells := 0, slots := 0, locals := 0 }
def y_P_copy : MethodName := ⟨R_P, "copy", "(LPipeKernel$Proc;)V"⟩
abbrev b_P_copy : ByteArray := prog_2_method_2_code
def v_P_copy : List Cond := .code y_P_copy b_P_copy 2 none :: gG
def m_P_copy : Room := { frames := 1, cells := 0, slots := 0, locals := 60 }
def y_P_isChildOf : MethodName := ⟨R_P, "isChildOf", "(LPipeKernel$Proc;)Z"⟩
abbrev b_P_isChildOf : ByteArray := prog_2_method_3_code
def v_P_isChildOf : List Cond := .code y_P_isChildOf b_P_isChildOf 2 (some .boolean) :: gG
def m_P_isChildOf : Room := { frames := 0, cells := 0, slots := 0, locals := 0 }
def y_P_descriptorAt : MethodName := ⟨R_P, "descriptorAt", "(I)I"⟩
abbrev b_P_descriptorAt : ByteArray := prog_2_method_4_code
def v_P_descriptorAt : List Cond := .code y_P_descriptorAt b_P_descriptorAt 2 (some .int) :: gG
def m_P_descriptorAt : Room := { frames := 0, cells := 0, slots := 0, locals := 0 }
def y_P_leastClosed : MethodName := ⟨R_P, "leastClosed", "()I"⟩
abbrev b_P_leastClosed : ByteArray := prog_2_method_5_code
def v_P_leastClosed : List Cond := .code y_P_leastClosed b_P_leastClosed 2 (some .int) :: gG
def m_P_leastClosed : Room := { frames := 0, cells := 0, slots := 0, locals := 0 }
def y_P_countClosed : MethodName := ⟨R_P, "countClosed", "()I"⟩
abbrev b_P_countClosed : ByteArray := prog_2_method_6_code
def v_P_countClosed : List Cond := .code y_P_countClosed b_P_countClosed 1 (some .int) :: gG
def m_P_countClosed : Room := { frames := 1, cells := 0, slots := 0, locals := 22 }
def y_P_openDescriptors : MethodName := ⟨R_P, "openDescriptors", "()I"⟩
abbrev b_P_openDescriptors : ByteArray := prog_2_method_7_code
def v_P_openDescriptors : List Cond := .code y_P_openDescriptors b_P_openDescriptors 3 (some .int) :: gG
def m_P_openDescriptors : Room := { frames := 0, cells := 0, slots := 0, locals := 0 }
def y_P_top : MethodName := ⟨R_P, "top", "()I"⟩
abbrev b_P_top : ByteArray := prog_2_method_8_code
def v_P_top : List Cond := .code y_P_top b_P_top 1 (some .int) :: gG
def m_P_top : Room := { frames := 0, cells := 0, slots := 0, locals := 0 }
def y_P_pop : MethodName := ⟨R_P, "pop", "()I"⟩
abbrev b_P_pop : ByteArray := prog_2_method_9_code
def v_P_pop : List Cond := .code y_P_pop b_P_pop 1 (some .int) :: gG
def m_P_pop : Room := { frames := 0, cells := 0, slots := 0, locals := 0 }
def y_P_push : MethodName := ⟨R_P, "push", "(I)V"⟩
abbrev b_P_push : ByteArray := prog_2_method_10_code
def v_P_push : List Cond := .code y_P_push b_P_push 2 none :: gG
def m_P_push : Room := { frames := 0, cells := 0, slots := 0, locals := 0 }
def y_P_pushTwo : MethodName := ⟨R_P, "pushTwo", "(II)V"⟩
abbrev b_P_pushTwo : ByteArray := prog_2_method_11_code
def v_P_pushTwo : List Cond := .code y_P_pushTwo b_P_pushTwo 3 none :: gG
def m_P_pushTwo : Room := { frames := 1, cells := 0, slots := 0, locals := 21 }
def y_P_kind : MethodName := ⟨R_P, "kind", "()I"⟩
abbrev b_P_kind : ByteArray := prog_2_method_12_code
def v_P_kind : List Cond := .code y_P_kind b_P_kind 1 (some .int) :: gG
def m_P_kind : Room := { frames := 0, cells := 0, slots := 0, locals := 0 }
def y_P_operand : MethodName := ⟨R_P, "operand", "()I"⟩
abbrev b_P_operand : ByteArray := prog_2_method_13_code
def v_P_operand : List Cond := .code y_P_operand b_P_operand 1 (some .int) :: gG
def m_P_operand : Room := { frames := 0, cells := 0, slots := 0, locals := 0 }
def y_P_findFault : MethodName := ⟨R_P, "findFault", "()I"⟩
abbrev b_P_findFault : ByteArray := prog_2_method_14_code
def v_P_findFault : List Cond := .code y_P_findFault b_P_findFault 2 (some .int) :: gG
def m_P_findFault : Room := { frames := 1, cells := 0, slots := 0, locals := 20 }
def y_P_wouldOverflow : MethodName := ⟨R_P, "wouldOverflow", "()Z"⟩
abbrev b_P_wouldOverflow : ByteArray := prog_2_method_15_code
def v_P_wouldOverflow : List Cond := .code y_P_wouldOverflow b_P_wouldOverflow 1 (some .boolean) :: gG
def m_P_wouldOverflow : Room := { frames := 1, cells := 0, slots := 0, locals := 20 }
def y_P_isInMemory : MethodName := ⟨R_P, "isInMemory", "(I)Z"⟩
abbrev b_P_isInMemory : ByteArray := prog_2_method_16_code
def v_P_isInMemory : List Cond := .code y_P_isInMemory b_P_isInMemory 1 (some .boolean) :: gG
def m_P_isInMemory : Room := { frames := 0, cells := 0, slots := 0, locals := 0 }
def y_P_compute : MethodName := ⟨R_P, "compute", "(II)V"⟩
abbrev b_P_compute : ByteArray := prog_2_method_17_code
def v_P_compute : List Cond := .code y_P_compute b_P_compute 3 none :: gG
def m_P_compute : Room := { frames := 3, cells := 0, slots := 0, locals := 65 }
def y_P_swap : MethodName := ⟨R_P, "swap", "()V"⟩
abbrev b_P_swap : ByteArray := prog_2_method_18_code
def v_P_swap : List Cond := .code y_P_swap b_P_swap 3 none :: gG
def m_P_swap : Room := { frames := 2, cells := 0, slots := 0, locals := 43 }
def y_P_storeAt : MethodName := ⟨R_P, "storeAt", "(I)V"⟩
abbrev b_P_storeAt : ByteArray := prog_2_method_19_code
def v_P_storeAt : List Cond := .code y_P_storeAt b_P_storeAt 2 none :: gG
def m_P_storeAt : Room := { frames := 1, cells := 0, slots := 0, locals := 20 }
def y_P_combine : MethodName := ⟨R_P, "combine", "(I)V"⟩
abbrev b_P_combine : ByteArray := prog_2_method_20_code
def v_P_combine : List Cond := .code y_P_combine b_P_combine 4 none :: gG
def m_P_combine : Room := { frames := 1, cells := 0, slots := 0, locals := 22 }
def y_P_result : MethodName := ⟨R_P, "result", "(III)I"⟩
abbrev b_P_result : ByteArray := prog_2_method_21_code
def v_P_result : List Cond := .code y_P_result b_P_result 3 (some .int) :: gG
def m_P_result : Room := { frames := 0, cells := 0, slots := 0, locals := 0 }
def y_K_load : MethodName := ⟨R_K, "load", "(II)V"⟩
abbrev b_K_load : ByteArray := prog_1_method_2_code
def v_K_load : List Cond := .code y_K_load b_K_load 3 none :: gG
def m_K_load : Room := { frames := 6, cells := 1, slots := 6, locals := 110 }
def y_K_boot : MethodName := ⟨R_K, "boot", "()V"⟩
abbrev b_K_boot : ByteArray := prog_1_method_3_code
def v_K_boot : List Cond := .code y_K_boot b_K_boot 1 none :: gG
def m_K_boot : Room := { frames := 6, cells := 1, slots := 6, locals := 110 }
def y_K_run : MethodName := ⟨R_K, "run", "(I)I"⟩
abbrev b_K_run : ByteArray := prog_1_method_4_code
def v_K_run : List Cond := .code y_K_run b_K_run 3 (some .int) :: gG
def m_K_run : Room := { frames := 6, cells := 1, slots := 6, locals := 149 }
def y_K_feed : MethodName := ⟨R_K, "feed", "(I)I"⟩
abbrev b_K_feed : ByteArray := prog_1_method_5_code
def v_K_feed : List Cond := .code y_K_feed b_K_feed 2 (some .int) :: gG
def m_K_feed : Room := { frames := 6, cells := 1, slots := 6, locals := 110 }
def y_K_shut : MethodName := ⟨R_K, "shut", "()Z"⟩
abbrev b_K_shut : ByteArray := prog_1_method_6_code
def v_K_shut : List Cond := .code y_K_shut b_K_shut 1 (some .boolean) :: gG
def m_K_shut : Room := { frames := 2, cells := 0, slots := 0, locals := 47 }
def y_K_time : MethodName := ⟨R_K, "time", "()I"⟩
abbrev b_K_time : ByteArray := prog_1_method_7_code
def v_K_time : List Cond := .code y_K_time b_K_time 1 (some .int) :: gG
def m_K_time : Room := { frames := 0, cells := 0, slots := 0, locals := 0 }
def y_K_state : MethodName := ⟨R_K, "state", "(I)I"⟩
abbrev b_K_state : ByteArray := prog_1_method_8_code
def v_K_state : List Cond := .code y_K_state b_K_state 2 (some .int) :: gG
def m_K_state : Room := { frames := 6, cells := 1, slots := 6, locals := 110 }
def y_K_about : MethodName := ⟨R_K, "about", "(II)I"⟩
abbrev b_K_about : ByteArray := prog_1_method_9_code
def v_K_about : List Cond := .code y_K_about b_K_about 4 (some .int) :: gG
def m_K_about : Room := { frames := 6, cells := 1, slots := 6, locals := 110 }
def y_K_stack : MethodName := ⟨R_K, "stack", "(II)I"⟩
abbrev b_K_stack : ByteArray := prog_1_method_10_code
def v_K_stack : List Cond := .code y_K_stack b_K_stack 4 (some .int) :: gG
def m_K_stack : Room := { frames := 6, cells := 1, slots := 6, locals := 110 }
def y_K_memory : MethodName := ⟨R_K, "memory", "(II)I"⟩
abbrev b_K_memory : ByteArray := prog_1_method_11_code
def v_K_memory : List Cond := .code y_K_memory b_K_memory 3 (some .int) :: gG
def m_K_memory : Room := { frames := 6, cells := 1, slots := 6, locals := 110 }
def y_K_queue : MethodName := ⟨R_K, "queue", "(I)I"⟩
abbrev b_K_queue : ByteArray := prog_1_method_12_code
def v_K_queue : List Cond := .code y_K_queue b_K_queue 2 (some .int) :: gG
def m_K_queue : Room := { frames := 6, cells := 1, slots := 6, locals := 110 }
def y_K_descriptor : MethodName := ⟨R_K, "descriptor", "(II)I"⟩
abbrev b_K_descriptor : ByteArray := prog_1_method_13_code
def v_K_descriptor : List Cond := .code y_K_descriptor b_K_descriptor 3 (some .int) :: gG
def m_K_descriptor : Room := { frames := 6, cells := 1, slots := 6, locals := 110 }
def y_K_pipe : MethodName := ⟨R_K, "pipe", "(II)I"⟩
abbrev b_K_pipe : ByteArray := prog_1_method_14_code
def v_K_pipe : List Cond := .code y_K_pipe b_K_pipe 3 (some .int) :: gG
def m_K_pipe : Room := { frames := 6, cells := 1, slots := 6, locals := 110 }
def y_K_outs : MethodName := ⟨R_K, "outs", "()I"⟩
abbrev b_K_outs : ByteArray := prog_1_method_15_code
def v_K_outs : List Cond := .code y_K_outs b_K_outs 1 (some .int) :: gG
def m_K_outs : Room := { frames := 0, cells := 0, slots := 0, locals := 0 }
def y_K_out : MethodName := ⟨R_K, "out", "(I)I"⟩
abbrev b_K_out : ByteArray := prog_1_method_16_code
def v_K_out : List Cond := .code y_K_out b_K_out 2 (some .int) :: gG
def m_K_out : Room := { frames := 6, cells := 1, slots := 6, locals := 110 }
def y_K_goesOn : MethodName := ⟨R_K, "goesOn", "()Z"⟩
abbrev b_K_goesOn : ByteArray := prog_1_method_17_code
def v_K_goesOn : List Cond := .code y_K_goesOn b_K_goesOn 2 (some .boolean) :: gG
def m_K_goesOn : Room := { frames := 0, cells := 0, slots := 0, locals := 0 }
def y_K_step : MethodName := ⟨R_K, "step", "()V"⟩
abbrev b_K_step : ByteArray := prog_1_method_18_code
def v_K_step : List Cond := .code y_K_step b_K_step 3 none :: gG
def m_K_step : Room := { frames := 5, cells := 0, slots := 0, locals := 127 }
def y_K_wakeSleepers : MethodName := ⟨R_K, "wakeSleepers", "()V"⟩
abbrev b_K_wakeSleepers : ByteArray := prog_1_method_19_code
def v_K_wakeSleepers : List Cond := .code y_K_wakeSleepers b_K_wakeSleepers 2 none :: gG
def m_K_wakeSleepers : Room := { frames := 1, cells := 0, slots := 0, locals := 21 }
def y_K_mustWait : MethodName := ⟨R_K, "mustWait", "(LPipeKernel$Proc;)Z"⟩
abbrev b_K_mustWait : ByteArray := prog_1_method_20_code
def v_K_mustWait : List Cond := .code y_K_mustWait b_K_mustWait 2 (some .boolean) :: gG
def m_K_mustWait : Room := { frames := 2, cells := 0, slots := 0, locals := 43 }
def y_K_beginToWait : MethodName := ⟨R_K, "beginToWait", "(LPipeKernel$Proc;)V"⟩
abbrev b_K_beginToWait : ByteArray := prog_1_method_21_code
def v_K_beginToWait : List Cond := .code y_K_beginToWait b_K_beginToWait 3 none :: gG
def m_K_beginToWait : Room := { frames := 1, cells := 0, slots := 0, locals := 23 }
def y_K_writeBlocks : MethodName := ⟨R_K, "writeBlocks", "(I)Z"⟩
abbrev b_K_writeBlocks : ByteArray := prog_1_method_22_code
def v_K_writeBlocks : List Cond := .code y_K_writeBlocks b_K_writeBlocks 2 (some .boolean) :: gG
def m_K_writeBlocks : Room := { frames := 1, cells := 0, slots := 0, locals := 20 }
def y_K_readBlocks : MethodName := ⟨R_K, "readBlocks", "(I)Z"⟩
abbrev b_K_readBlocks : ByteArray := prog_1_method_23_code
def v_K_readBlocks : List Cond := .code y_K_readBlocks b_K_readBlocks 2 (some .boolean) :: gG
def m_K_readBlocks : Room := { frames := 1, cells := 0, slots := 0, locals := 20 }
def y_K_perform : MethodName := ⟨R_K, "perform", "(LPipeKernel$Proc;)V"⟩
abbrev b_K_perform : ByteArray := prog_1_method_24_code
def v_K_perform : List Cond := .code y_K_perform b_K_perform 4 none :: gG
def m_K_perform : Room := { frames := 4, cells := 0, slots := 0, locals := 104 }
def y_K_write : MethodName := ⟨R_K, "write", "(LPipeKernel$Proc;)V"⟩
abbrev b_K_write : ByteArray := prog_1_method_25_code
def v_K_write : List Cond := .code y_K_write b_K_write 4 none :: gG
def m_K_write : Room := { frames := 3, cells := 0, slots := 0, locals := 63 }
def y_K_print : MethodName := ⟨R_K, "print", "(I)V"⟩
abbrev b_K_print : ByteArray := prog_1_method_26_code
def v_K_print : List Cond := .code y_K_print b_K_print 2 none :: gG
def m_K_print : Room := { frames := 2, cells := 0, slots := 0, locals := 42 }
def y_K_read : MethodName := ⟨R_K, "read", "(LPipeKernel$Proc;)V"⟩
abbrev b_K_read : ByteArray := prog_1_method_27_code
def v_K_read : List Cond := .code y_K_read b_K_read 3 none :: gG
def m_K_read : Room := { frames := 3, cells := 0, slots := 0, locals := 65 }
def y_K_pushNext : MethodName := ⟨R_K, "pushNext", "(LPipeKernel$Proc;LPipeKernel$Words;)Z"⟩
abbrev b_K_pushNext : ByteArray := prog_1_method_28_code
def v_K_pushNext : List Cond := .code y_K_pushNext b_K_pushNext 3 (some .boolean) :: gG
def m_K_pushNext : Room := { frames := 2, cells := 0, slots := 0, locals := 43 }
def y_K_fork : MethodName := ⟨R_K, "fork", "(LPipeKernel$Proc;)V"⟩
abbrev b_K_fork : ByteArray := prog_1_method_29_code
def v_K_fork : List Cond := .code y_K_fork b_K_fork 4 none :: gG
def m_K_fork : Room := { frames := 2, cells := 0, slots := 0, locals := 81 }
def y_K_freeProc : MethodName := ⟨R_K, "freeProc", "()LPipeKernel$Proc;"⟩
abbrev b_K_freeProc : ByteArray := prog_1_method_30_code
def v_K_freeProc : List Cond := .code y_K_freeProc b_K_freeProc 2 (some (.object "PipeKernel$Proc")) :: gG
def m_K_freeProc : Room := { frames := 0, cells := 0, slots := 0, locals := 0 }
def y_K_takeEndedChild : MethodName := ⟨R_K, "takeEndedChild", "(LPipeKernel$Proc;)V"⟩
abbrev b_K_takeEndedChild : ByteArray := prog_1_method_31_code
def v_K_takeEndedChild : List Cond := .code y_K_takeEndedChild b_K_takeEndedChild 3 none :: gG
def m_K_takeEndedChild : Room := { frames := 2, cells := 0, slots := 0, locals := 43 }
def y_K_hasChild : MethodName := ⟨R_K, "hasChild", "(LPipeKernel$Proc;)Z"⟩
abbrev b_K_hasChild : ByteArray := prog_1_method_32_code
def v_K_hasChild : List Cond := .code y_K_hasChild b_K_hasChild 3 (some .boolean) :: gG
def m_K_hasChild : Room := { frames := 1, cells := 0, slots := 0, locals := 21 }
def y_K_endedChild : MethodName := ⟨R_K, "endedChild", "(LPipeKernel$Proc;)LPipeKernel$Proc;"⟩
abbrev b_K_endedChild : ByteArray := prog_1_method_33_code
def v_K_endedChild : List Cond := .code y_K_endedChild b_K_endedChild 3 (some (.object "PipeKernel$Proc")) :: gG
def m_K_endedChild : Room := { frames := 1, cells := 0, slots := 0, locals := 21 }
def y_K_kill : MethodName := ⟨R_K, "kill", "(LPipeKernel$Proc;)V"⟩
abbrev b_K_kill : ByteArray := prog_1_method_34_code
def v_K_kill : List Cond := .code y_K_kill b_K_kill 3 none :: gG
def m_K_kill : Room := { frames := 3, cells := 0, slots := 0, locals := 70 }
def y_K_openPipe : MethodName := ⟨R_K, "openPipe", "(LPipeKernel$Proc;)V"⟩
abbrev b_K_openPipe : ByteArray := prog_1_method_35_code
def v_K_openPipe : List Cond := .code y_K_openPipe b_K_openPipe 5 none :: gG
def m_K_openPipe : Room := { frames := 2, cells := 0, slots := 0, locals := 44 }
def y_K_freePipe : MethodName := ⟨R_K, "freePipe", "()I"⟩
abbrev b_K_freePipe : ByteArray := prog_1_method_36_code
def v_K_freePipe : List Cond := .code y_K_freePipe b_K_freePipe 2 (some .int) :: gG
def m_K_freePipe : Room := { frames := 0, cells := 0, slots := 0, locals := 0 }
def y_K_openDescriptor : MethodName := ⟨R_K, "openDescriptor", "(LPipeKernel$Proc;I)I"⟩
abbrev b_K_openDescriptor : ByteArray := prog_1_method_37_code
def v_K_openDescriptor : List Cond := .code y_K_openDescriptor b_K_openDescriptor 4 (some .int) :: gG
def m_K_openDescriptor : Room := { frames := 1, cells := 0, slots := 0, locals := 21 }
def y_K_addEnd : MethodName := ⟨R_K, "addEnd", "(I)V"⟩
abbrev b_K_addEnd : ByteArray := prog_1_method_38_code
def v_K_addEnd : List Cond := .code y_K_addEnd b_K_addEnd 2 none :: gG
def m_K_addEnd : Room := { frames := 0, cells := 0, slots := 0, locals := 0 }
def y_K_close : MethodName := ⟨R_K, "close", "(LPipeKernel$Proc;)V"⟩
abbrev b_K_close : ByteArray := prog_1_method_39_code
def v_K_close : List Cond := .code y_K_close b_K_close 3 none :: gG
def m_K_close : Room := { frames := 2, cells := 0, slots := 0, locals := 47 }
def y_K_closeDescriptor : MethodName := ⟨R_K, "closeDescriptor", "(LPipeKernel$Proc;I)I"⟩
abbrev b_K_closeDescriptor : ByteArray := prog_1_method_40_code
def v_K_closeDescriptor : List Cond := .code y_K_closeDescriptor b_K_closeDescriptor 5 (some .int) :: gG
def m_K_closeDescriptor : Room := { frames := 1, cells := 0, slots := 0, locals := 20 }
def y_K_duplicate : MethodName := ⟨R_K, "duplicate", "(LPipeKernel$Proc;)V"⟩
abbrev b_K_duplicate : ByteArray := prog_1_method_41_code
def v_K_duplicate : List Cond := .code y_K_duplicate b_K_duplicate 3 none :: gG
def m_K_duplicate : Room := { frames := 2, cells := 0, slots := 0, locals := 44 }
def y_K_sleep : MethodName := ⟨R_K, "sleep", "(LPipeKernel$Proc;)V"⟩
abbrev b_K_sleep : ByteArray := prog_1_method_42_code
def v_K_sleep : List Cond := .code y_K_sleep b_K_sleep 3 none :: gG
def m_K_sleep : Room := { frames := 1, cells := 0, slots := 0, locals := 23 }
def y_K_end : MethodName := ⟨R_K, "end", "(LPipeKernel$Proc;I)V"⟩
abbrev b_K_end : ByteArray := prog_1_method_43_code
def v_K_end : List Cond := .code y_K_end b_K_end 4 none :: gG
def m_K_end : Room := { frames := 2, cells := 0, slots := 0, locals := 47 }
def y_K_handOverChildren : MethodName := ⟨R_K, "handOverChildren", "(LPipeKernel$Proc;)V"⟩
abbrev b_K_handOverChildren : ByteArray := prog_1_method_44_code
def v_K_handOverChildren : List Cond := .code y_K_handOverChildren b_K_handOverChildren 5 none :: gG
def m_K_handOverChildren : Room := { frames := 1, cells := 0, slots := 0, locals := 21 }
def y_K_isThere : MethodName := ⟨R_K, "isThere", "(I)Z"⟩
abbrev b_K_isThere : ByteArray := prog_1_method_45_code
def v_K_isThere : List Cond := .code y_K_isThere b_K_isThere 2 (some .boolean) :: gG
def m_K_isThere : Room := { frames := 0, cells := 0, slots := 0, locals := 0 }
def y_K_isReadingEnd : MethodName := ⟨R_K, "isReadingEnd", "(I)Z"⟩
abbrev b_K_isReadingEnd : ByteArray := prog_1_method_46_code
def v_K_isReadingEnd : List Cond := .code y_K_isReadingEnd b_K_isReadingEnd 1 (some .boolean) :: gG
def m_K_isReadingEnd : Room := { frames := 0, cells := 0, slots := 0, locals := 0 }
def y_K_isWritingEnd : MethodName := ⟨R_K, "isWritingEnd", "(I)Z"⟩
abbrev b_K_isWritingEnd : ByteArray := prog_1_method_47_code
def v_K_isWritingEnd : List Cond := .code y_K_isWritingEnd b_K_isWritingEnd 1 (some .boolean) :: gG
def m_K_isWritingEnd : Room := { frames := 0, cells := 0, slots := 0, locals := 0 }
def y_K_otherEnd : MethodName := ⟨R_K, "otherEnd", "(I)I"⟩
abbrev b_K_otherEnd : ByteArray := prog_1_method_48_code
def v_K_otherEnd : List Cond := .code y_K_otherEnd b_K_otherEnd 1 (some .int) :: gG
def m_K_otherEnd : Room := { frames := 0, cells := 0, slots := 0, locals := 0 }
def y_K_countWaiting : MethodName := ⟨R_K, "countWaiting", "(I)I"⟩
abbrev b_K_countWaiting : ByteArray := prog_1_method_49_code
def v_K_countWaiting : List Cond := .code y_K_countWaiting b_K_countWaiting 4 (some .int) :: gG
def m_K_countWaiting : Room := { frames := 0, cells := 0, slots := 0, locals := 0 }
def y_K_longestWaiting : MethodName := ⟨R_K, "longestWaiting", "(I)LPipeKernel$Proc;"⟩
abbrev b_K_longestWaiting : ByteArray := prog_1_method_50_code
def v_K_longestWaiting : List Cond := .code y_K_longestWaiting b_K_longestWaiting 5 (some (.object "PipeKernel$Proc")) :: gG
def m_K_longestWaiting : Room := { frames := 0, cells := 0, slots := 0, locals := 0 }
def y_K_wakeFirst : MethodName := ⟨R_K, "wakeFirst", "(I)V"⟩
abbrev b_K_wakeFirst : ByteArray := prog_1_method_51_code
def v_K_wakeFirst : List Cond := .code y_K_wakeFirst b_K_wakeFirst 3 none :: gG
def m_K_wakeFirst : Room := { frames := 1, cells := 0, slots := 0, locals := 24 }
def y_K_wakeAll : MethodName := ⟨R_K, "wakeAll", "(I)V"⟩
abbrev b_K_wakeAll : ByteArray := prog_1_method_52_code
def v_K_wakeAll : List Cond := .code y_K_wakeAll b_K_wakeAll 4 none :: gG
def m_K_wakeAll : Room := { frames := 1, cells := 0, slots := 0, locals := 24 }
def y_K_makeReady : MethodName := ⟨R_K, "makeReady", "(LPipeKernel$Proc;)V"⟩
abbrev b_K_makeReady : ByteArray := prog_1_method_53_code
def v_K_makeReady : List Cond := .code y_K_makeReady b_K_makeReady 2 none :: gG
def m_K_makeReady : Room := { frames := 0, cells := 0, slots := 0, locals := 0 }
def y_K_leaveQueue : MethodName := ⟨R_K, "leaveQueue", "(LPipeKernel$Proc;)V"⟩
abbrev b_K_leaveQueue : ByteArray := prog_1_method_54_code
def v_K_leaveQueue : List Cond := .code y_K_leaveQueue b_K_leaveQueue 4 none :: gG
def m_K_leaveQueue : Room := { frames := 0, cells := 0, slots := 0, locals := 0 }
def y_K_goToQueueEnd : MethodName := ⟨R_K, "goToQueueEnd", "(LPipeKernel$Proc;)V"⟩
abbrev b_K_goToQueueEnd : ByteArray := prog_1_method_55_code
def v_K_goToQueueEnd : List Cond := .code y_K_goToQueueEnd b_K_goToQueueEnd 2 none :: gG
def m_K_goToQueueEnd : Room := { frames := 1, cells := 0, slots := 0, locals := 23 }
def y_M_thrown : MethodName := ⟨R_M, "thrown", "()I"⟩
abbrev b_M_thrown : ByteArray := prog_5_method_2_code
def v_M_thrown : List Cond := .code y_M_thrown b_M_thrown 1 (some .int) :: gG
def m_M_thrown : Room := { frames := 0, cells := 0, slots := 0, locals := 0 }
def y_M_load : MethodName := ⟨R_M, "load", "(II)V"⟩
abbrev b_M_load : ByteArray := prog_5_method_3_code
def v_M_load : List Cond := .code y_M_load b_M_load 3 none :: gG
def m_M_load : Room := { frames := 0, cells := 0, slots := 0, locals := 0 }
def y_M_boot : MethodName := ⟨R_M, "boot", "()V"⟩
abbrev b_M_boot : ByteArray := prog_5_method_4_code
def v_M_boot : List Cond := .code y_M_boot b_M_boot 2 none :: gG
def m_M_boot : Room := { frames := 1, cells := 0, slots := 0, locals := 21 }
def y_M_ready : MethodName := ⟨R_M, "ready", "(I)V"⟩
abbrev b_M_ready : ByteArray := prog_5_method_5_code
def v_M_ready : List Cond := .code y_M_ready b_M_ready 2 none :: gG
def m_M_ready : Room := { frames := 0, cells := 0, slots := 0, locals := 0 }
def y_M_leaveQueue : MethodName := ⟨R_M, "leaveQueue", "(I)V"⟩
abbrev b_M_leaveQueue : ByteArray := prog_5_method_6_code
def v_M_leaveQueue : List Cond := .code y_M_leaveQueue b_M_leaveQueue 5 none :: gG
def m_M_leaveQueue : Room := { frames := 0, cells := 0, slots := 0, locals := 0 }
def y_M_toEnd : MethodName := ⟨R_M, "toEnd", "(I)V"⟩
abbrev b_M_toEnd : ByteArray := prog_5_method_7_code
def v_M_toEnd : List Cond := .code y_M_toEnd b_M_toEnd 2 none :: gG
def m_M_toEnd : Room := { frames := 1, cells := 0, slots := 0, locals := 24 }
def y_M_stand : MethodName := ⟨R_M, "stand", "(III)V"⟩
abbrev b_M_stand : ByteArray := prog_5_method_8_code
def v_M_stand : List Cond := .code y_M_stand b_M_stand 4 none :: gG
def m_M_stand : Room := { frames := 1, cells := 0, slots := 0, locals := 24 }
def y_M_leaveRow : MethodName := ⟨R_M, "leaveRow", "(II)V"⟩
abbrev b_M_leaveRow : ByteArray := prog_5_method_9_code
def v_M_leaveRow : List Cond := .code y_M_leaveRow b_M_leaveRow 5 none :: gG
def m_M_leaveRow : Room := { frames := 0, cells := 0, slots := 0, locals := 0 }
def y_M_wakeFirst : MethodName := ⟨R_M, "wakeFirst", "(I)V"⟩
abbrev b_M_wakeFirst : ByteArray := prog_5_method_10_code
def v_M_wakeFirst : List Cond := .code y_M_wakeFirst b_M_wakeFirst 3 none :: gG
def m_M_wakeFirst : Room := { frames := 1, cells := 0, slots := 0, locals := 24 }
def y_M_wakeAll : MethodName := ⟨R_M, "wakeAll", "(I)V"⟩
abbrev b_M_wakeAll : ByteArray := prog_5_method_11_code
def v_M_wakeAll : List Cond := .code y_M_wakeAll b_M_wakeAll 2 none :: gG
def m_M_wakeAll : Room := { frames := 2, cells := 0, slots := 0, locals := 46 }
def y_M_many : MethodName := ⟨R_M, "many", "(I)I"⟩
abbrev b_M_many : ByteArray := prog_5_method_12_code
def v_M_many : List Cond := .code y_M_many b_M_many 4 (some .int) :: gG
def m_M_many : Room := { frames := 0, cells := 0, slots := 0, locals := 0 }
def y_M_isPipe : MethodName := ⟨R_M, "isPipe", "(I)Z"⟩
abbrev b_M_isPipe : ByteArray := prog_5_method_13_code
def v_M_isPipe : List Cond := .code y_M_isPipe b_M_isPipe 2 (some .boolean) :: gG
def m_M_isPipe : Room := { frames := 1, cells := 0, slots := 0, locals := 23 }
def y_M_descriptorOf : MethodName := ⟨R_M, "descriptorOf", "(II)I"⟩
abbrev b_M_descriptorOf : ByteArray := prog_5_method_14_code
def v_M_descriptorOf : List Cond := .code y_M_descriptorOf b_M_descriptorOf 3 (some .int) :: gG
def m_M_descriptorOf : Room := { frames := 0, cells := 0, slots := 0, locals := 0 }
def y_M_shutEnd : MethodName := ⟨R_M, "shutEnd", "(II)V"⟩
abbrev b_M_shutEnd : ByteArray := prog_5_method_15_code
def v_M_shutEnd : List Cond := .code y_M_shutEnd b_M_shutEnd 5 none :: gG
def m_M_shutEnd : Room := { frames := 3, cells := 0, slots := 0, locals := 67 }
def y_M_intoPipe : MethodName := ⟨R_M, "intoPipe", "(II)V"⟩
abbrev b_M_intoPipe : ByteArray := prog_5_method_16_code
def v_M_intoPipe : List Cond := .code y_M_intoPipe b_M_intoPipe 3 none :: gG
def m_M_intoPipe : Room := { frames := 2, cells := 0, slots := 0, locals := 46 }
def y_M_outOfPipe : MethodName := ⟨R_M, "outOfPipe", "(I)I"⟩
abbrev b_M_outOfPipe : ByteArray := prog_5_method_17_code
def v_M_outOfPipe : List Cond := .code y_M_outOfPipe b_M_outOfPipe 4 (some .int) :: gG
def m_M_outOfPipe : Room := { frames := 2, cells := 0, slots := 0, locals := 46 }
def y_M_end : MethodName := ⟨R_M, "end", "(II)V"⟩
abbrev b_M_end : ByteArray := prog_5_method_18_code
def v_M_end : List Cond := .code y_M_end b_M_end 6 none :: gG
def m_M_end : Room := { frames := 4, cells := 0, slots := 0, locals := 91 }
def y_M_top : MethodName := ⟨R_M, "top", "(II)I"⟩
abbrev b_M_top : ByteArray := prog_5_method_19_code
def v_M_top : List Cond := .code y_M_top b_M_top 3 (some .int) :: gG
def m_M_top : Room := { frames := 0, cells := 0, slots := 0, locals := 0 }
def y_M_push : MethodName := ⟨R_M, "push", "(II)V"⟩
abbrev b_M_push : ByteArray := prog_5_method_20_code
def v_M_push : List Cond := .code y_M_push b_M_push 3 none :: gG
def m_M_push : Room := { frames := 0, cells := 0, slots := 0, locals := 0 }
def y_M_looks : MethodName := ⟨R_M, "looks", "(I)I"⟩
abbrev b_M_looks : ByteArray := prog_5_method_21_code
def v_M_looks : List Cond := .code y_M_looks b_M_looks 1 (some .int) :: gG
def m_M_looks : Room := { frames := 0, cells := 0, slots := 0, locals := 0 }
def y_M_pushes : MethodName := ⟨R_M, "pushes", "(I)I"⟩
abbrev b_M_pushes : ByteArray := prog_5_method_22_code
def v_M_pushes : List Cond := .code y_M_pushes b_M_pushes 2 (some .int) :: gG
def m_M_pushes : Room := { frames := 0, cells := 0, slots := 0, locals := 0 }
def y_M_rowFor : MethodName := ⟨R_M, "rowFor", "(II)I"⟩
abbrev b_M_rowFor : ByteArray := prog_5_method_23_code
def v_M_rowFor : List Cond := .code y_M_rowFor b_M_rowFor 6 (some .int) :: gG
def m_M_rowFor : Room := { frames := 1, cells := 0, slots := 0, locals := 23 }
def y_M_isWord : MethodName := ⟨R_M, "isWord", "(I)Z"⟩
abbrev b_M_isWord : ByteArray := prog_5_method_24_code
def v_M_isWord : List Cond := .code y_M_isWord b_M_isWord 1 (some .boolean) :: gG
def m_M_isWord : Room := { frames := 0, cells := 0, slots := 0, locals := 0 }
def y_M_faultOf : MethodName := ⟨R_M, "faultOf", "(I)I"⟩
abbrev b_M_faultOf : ByteArray := prog_5_method_25_code
def v_M_faultOf : List Cond := .code y_M_faultOf b_M_faultOf 7 (some .int) :: gG
def m_M_faultOf : Room := { frames := 2, cells := 0, slots := 0, locals := 48 }
def y_M_reckon : MethodName := ⟨R_M, "reckon", "(III)I"⟩
abbrev b_M_reckon : ByteArray := prog_5_method_26_code
def v_M_reckon : List Cond := .code y_M_reckon b_M_reckon 3 (some .int) :: gG
def m_M_reckon : Room := { frames := 0, cells := 0, slots := 0, locals := 0 }
def y_M_instruct : MethodName := ⟨R_M, "instruct", "(I)V"⟩
abbrev b_M_instruct : ByteArray := prog_5_method_27_code
def v_M_instruct : List Cond := .code y_M_instruct b_M_instruct 9 none :: gG
def m_M_instruct : Room := { frames := 7, cells := 0, slots := 0, locals := 163 }
def y_M_plain : MethodName := ⟨R_M, "plain", "(IIIII)V"⟩
abbrev b_M_plain : ByteArray := prog_5_method_28_code
def v_M_plain : List Cond := .code y_M_plain b_M_plain 7 none :: gG
def m_M_plain : Room := { frames := 1, cells := 0, slots := 0, locals := 22 }
def y_M_call : MethodName := ⟨R_M, "call", "(IIII)V"⟩
abbrev b_M_call : ByteArray := prog_5_method_29_code
def v_M_call : List Cond := .code y_M_call b_M_call 5 none :: gG
def m_M_call : Room := { frames := 6, cells := 0, slots := 0, locals := 139 }
def y_M_write : MethodName := ⟨R_M, "write", "(III)V"⟩
abbrev b_M_write : ByteArray := prog_5_method_30_code
def v_M_write : List Cond := .code y_M_write b_M_write 6 none :: gG
def m_M_write : Room := { frames := 3, cells := 0, slots := 0, locals := 68 }
def y_M_read : MethodName := ⟨R_M, "read", "(II)V"⟩
abbrev b_M_read : ByteArray := prog_5_method_31_code
def v_M_read : List Cond := .code y_M_read b_M_read 5 none :: gG
def m_M_read : Room := { frames := 3, cells := 0, slots := 0, locals := 69 }
def y_M_fork : MethodName := ⟨R_M, "fork", "(I)V"⟩
abbrev b_M_fork : ByteArray := prog_5_method_32_code
def v_M_fork : List Cond := .code y_M_fork b_M_fork 4 none :: gG
def m_M_fork : Room := { frames := 1, cells := 0, slots := 0, locals := 22 }
def y_M_await : MethodName := ⟨R_M, "await", "(I)V"⟩
abbrev b_M_await : ByteArray := prog_5_method_33_code
def v_M_await : List Cond := .code y_M_await b_M_await 3 none :: gG
def m_M_await : Room := { frames := 1, cells := 0, slots := 0, locals := 22 }
def y_M_kill : MethodName := ⟨R_M, "kill", "(II)V"⟩
abbrev b_M_kill : ByteArray := prog_5_method_34_code
def v_M_kill : List Cond := .code y_M_kill b_M_kill 4 none :: gG
def m_M_kill : Room := { frames := 5, cells := 0, slots := 0, locals := 116 }
def y_M_freeDescriptor : MethodName := ⟨R_M, "freeDescriptor", "(II)I"⟩
abbrev b_M_freeDescriptor : ByteArray := prog_5_method_35_code
def v_M_freeDescriptor : List Cond := .code y_M_freeDescriptor b_M_freeDescriptor 4 (some .int) :: gG
def m_M_freeDescriptor : Room := { frames := 0, cells := 0, slots := 0, locals := 0 }
def y_M_makePipe : MethodName := ⟨R_M, "makePipe", "(I)V"⟩
abbrev b_M_makePipe : ByteArray := prog_5_method_36_code
def v_M_makePipe : List Cond := .code y_M_makePipe b_M_makePipe 5 none :: gG
def m_M_makePipe : Room := { frames := 2, cells := 0, slots := 0, locals := 44 }
def y_M_dup : MethodName := ⟨R_M, "dup", "(II)V"⟩
abbrev b_M_dup : ByteArray := prog_5_method_37_code
def v_M_dup : List Cond := .code y_M_dup b_M_dup 4 none :: gG
def m_M_dup : Room := { frames := 1, cells := 0, slots := 0, locals := 23 }
def y_M_wakeSleepers : MethodName := ⟨R_M, "wakeSleepers", "()V"⟩
abbrev b_M_wakeSleepers : ByteArray := prog_5_method_38_code
def v_M_wakeSleepers : List Cond := .code y_M_wakeSleepers b_M_wakeSleepers 4 none :: gG
def m_M_wakeSleepers : Room := { frames := 1, cells := 0, slots := 0, locals := 21 }
def y_M_step : MethodName := ⟨R_M, "step", "()V"⟩
abbrev b_M_step : ByteArray := prog_5_method_39_code
def v_M_step : List Cond := .code y_M_step b_M_step 2 none :: gG
def m_M_step : Room := { frames := 8, cells := 0, slots := 0, locals := 191 }
def y_M_goesOn : MethodName := ⟨R_M, "goesOn", "()Z"⟩
abbrev b_M_goesOn : ByteArray := prog_5_method_40_code
def v_M_goesOn : List Cond := .code y_M_goesOn b_M_goesOn 3 (some .boolean) :: gG
def m_M_goesOn : Room := { frames := 0, cells := 0, slots := 0, locals := 0 }
def y_M_run : MethodName := ⟨R_M, "run", "(I)I"⟩
abbrev b_M_run : ByteArray := prog_5_method_41_code
def v_M_run : List Cond := .code y_M_run b_M_run 3 (some .int) :: gG
def m_M_run : Room := { frames := 9, cells := 0, slots := 0, locals := 212 }
def y_M_feed : MethodName := ⟨R_M, "feed", "(I)I"⟩
abbrev b_M_feed : ByteArray := prog_5_method_42_code
def v_M_feed : List Cond := .code y_M_feed b_M_feed 2 (some .int) :: gG
def m_M_feed : Room := { frames := 2, cells := 0, slots := 0, locals := 46 }
def y_M_shut : MethodName := ⟨R_M, "shut", "()Z"⟩
abbrev b_M_shut : ByteArray := prog_5_method_43_code
def v_M_shut : List Cond := .code y_M_shut b_M_shut 2 (some .boolean) :: gG
def m_M_shut : Room := { frames := 3, cells := 0, slots := 0, locals := 67 }
def y_M_time : MethodName := ⟨R_M, "time", "()I"⟩
abbrev b_M_time : ByteArray := prog_5_method_44_code
def v_M_time : List Cond := .code y_M_time b_M_time 1 (some .int) :: gG
def m_M_time : Room := { frames := 0, cells := 0, slots := 0, locals := 0 }
def y_M_noProcess : MethodName := ⟨R_M, "noProcess", "(I)Z"⟩
abbrev b_M_noProcess : ByteArray := prog_5_method_45_code
def v_M_noProcess : List Cond := .code y_M_noProcess b_M_noProcess 2 (some .boolean) :: gG
def m_M_noProcess : Room := { frames := 0, cells := 0, slots := 0, locals := 0 }
def y_M_state : MethodName := ⟨R_M, "state", "(I)I"⟩
abbrev b_M_state : ByteArray := prog_5_method_46_code
def v_M_state : List Cond := .code y_M_state b_M_state 2 (some .int) :: gG
def m_M_state : Room := { frames := 1, cells := 0, slots := 0, locals := 21 }
def y_M_about : MethodName := ⟨R_M, "about", "(II)I"⟩
abbrev b_M_about : ByteArray := prog_5_method_47_code
def v_M_about : List Cond := .code y_M_about b_M_about 5 (some .int) :: gG
def m_M_about : Room := { frames := 1, cells := 0, slots := 0, locals := 21 }
def y_M_notThere : MethodName := ⟨R_M, "notThere", "(I)Z"⟩
abbrev b_M_notThere : ByteArray := prog_5_method_48_code
def v_M_notThere : List Cond := .code y_M_notThere b_M_notThere 2 (some .boolean) :: gG
def m_M_notThere : Room := { frames := 0, cells := 0, slots := 0, locals := 0 }
def y_M_stack : MethodName := ⟨R_M, "stack", "(II)I"⟩
abbrev b_M_stack : ByteArray := prog_5_method_49_code
def v_M_stack : List Cond := .code y_M_stack b_M_stack 3 (some .int) :: gG
def m_M_stack : Room := { frames := 1, cells := 0, slots := 0, locals := 22 }
def y_M_memory : MethodName := ⟨R_M, "memory", "(II)I"⟩
abbrev b_M_memory : ByteArray := prog_5_method_50_code
def v_M_memory : List Cond := .code y_M_memory b_M_memory 3 (some .int) :: gG
def m_M_memory : Room := { frames := 1, cells := 0, slots := 0, locals := 21 }
def y_M_queue : MethodName := ⟨R_M, "queue", "(I)I"⟩
abbrev b_M_queue : ByteArray := prog_5_method_51_code
def v_M_queue : List Cond := .code y_M_queue b_M_queue 2 (some .int) :: gG
def m_M_queue : Room := { frames := 0, cells := 0, slots := 0, locals := 0 }
def y_M_descriptor : MethodName := ⟨R_M, "descriptor", "(II)I"⟩
abbrev b_M_descriptor : ByteArray := prog_5_method_52_code
def v_M_descriptor : List Cond := .code y_M_descriptor b_M_descriptor 3 (some .int) :: gG
def m_M_descriptor : Room := { frames := 1, cells := 0, slots := 0, locals := 21 }
def y_M_pipe : MethodName := ⟨R_M, "pipe", "(II)I"⟩
abbrev b_M_pipe : ByteArray := prog_5_method_53_code
def v_M_pipe : List Cond := .code y_M_pipe b_M_pipe 3 (some .int) :: gG
def m_M_pipe : Room := { frames := 1, cells := 0, slots := 0, locals := 23 }
def y_M_outs : MethodName := ⟨R_M, "outs", "()I"⟩
abbrev b_M_outs : ByteArray := prog_5_method_54_code
def v_M_outs : List Cond := .code y_M_outs b_M_outs 1 (some .int) :: gG
def m_M_outs : Room := { frames := 0, cells := 0, slots := 0, locals := 0 }
def y_M_out : MethodName := ⟨R_M, "out", "(I)I"⟩
abbrev b_M_out : ByteArray := prog_5_method_55_code
def v_M_out : List Cond := .code y_M_out b_M_out 3 (some .int) :: gG
def m_M_out : Room := { frames := 0, cells := 0, slots := 0, locals := 0 }
theorem gm_0 : (.selects R_K y_K_wakeAll y_K_wakeAll : Cond) ∈ gG := tb_lw_privs_1 (List.mem_of_getElem? (i := 0) rfl) rfl
theorem gm_1 : (.selects R_K y_K_longestWaiting y_K_longestWaiting : Cond) ∈ gG := tb_lw_privs_1 (List.mem_of_getElem? (i := 1) rfl) rfl
theorem gm_2 : (.selects R_K y_K_makeReady y_K_makeReady : Cond) ∈ gG := tb_lw_privs_1 (List.mem_of_getElem? (i := 2) rfl) rfl
theorem gm_4 : (.selects R_K y_K_goesOn y_K_goesOn : Cond) ∈ gG := tb_lw_privs_1 (List.mem_of_getElem? (i := 4) rfl) rfl
theorem gm_5 : (.selects R_K y_K_step y_K_step : Cond) ∈ gG := tb_lw_privs_1 (List.mem_of_getElem? (i := 5) rfl) rfl
theorem gm_6 : (.selects R_K y_K_wakeSleepers y_K_wakeSleepers : Cond) ∈ gG := tb_lw_privs_1 (List.mem_of_getElem? (i := 6) rfl) rfl
theorem gm_7 : (.selects R_K y_K_end y_K_end : Cond) ∈ gG := tb_lw_privs_1 (List.mem_of_getElem? (i := 7) rfl) rfl
theorem gm_8 : (.selects R_K y_K_leaveQueue y_K_leaveQueue : Cond) ∈ gG := tb_lw_privs_1 (List.mem_of_getElem? (i := 8) rfl) rfl
theorem gm_9 : (.selects R_K y_K_closeDescriptor y_K_closeDescriptor : Cond) ∈ gG := tb_lw_privs_1 (List.mem_of_getElem? (i := 9) rfl) rfl
theorem gm_10 : (.selects R_K y_K_handOverChildren y_K_handOverChildren : Cond) ∈ gG := tb_lw_privs_1 (List.mem_of_getElem? (i := 10) rfl) rfl
theorem gm_11 : (.selects R_K y_K_endedChild y_K_endedChild : Cond) ∈ gG := tb_lw_privs_1 (List.mem_of_getElem? (i := 11) rfl) rfl
theorem gm_12 : (.selects R_K y_K_mustWait y_K_mustWait : Cond) ∈ gG := tb_lw_privs_1 (List.mem_of_getElem? (i := 12) rfl) rfl
theorem gm_13 : (.selects R_K y_K_writeBlocks y_K_writeBlocks : Cond) ∈ gG := tb_lw_privs_1 (List.mem_of_getElem? (i := 13) rfl) rfl
theorem gm_14 : (.selects R_K y_K_readBlocks y_K_readBlocks : Cond) ∈ gG := tb_lw_privs_1 (List.mem_of_getElem? (i := 14) rfl) rfl
theorem gm_15 : (.selects R_K y_K_hasChild y_K_hasChild : Cond) ∈ gG := tb_lw_privs_1 (List.mem_of_getElem? (i := 15) rfl) rfl
theorem gm_16 : (.selects R_K y_K_beginToWait y_K_beginToWait : Cond) ∈ gG := tb_lw_privs_2 (List.mem_of_getElem? (i := 0) rfl) rfl
theorem gm_17 : (.selects R_K y_K_perform y_K_perform : Cond) ∈ gG := tb_lw_privs_2 (List.mem_of_getElem? (i := 1) rfl) rfl
theorem gm_18 : (.selects R_K y_K_goToQueueEnd y_K_goToQueueEnd : Cond) ∈ gG := tb_lw_privs_2 (List.mem_of_getElem? (i := 2) rfl) rfl
theorem gm_19 : (.selects R_K y_K_write y_K_write : Cond) ∈ gG := tb_lw_privs_2 (List.mem_of_getElem? (i := 3) rfl) rfl
theorem gm_20 : (.selects R_K y_K_print y_K_print : Cond) ∈ gG := tb_lw_privs_2 (List.mem_of_getElem? (i := 4) rfl) rfl
theorem gm_21 : (.selects R_K y_K_wakeFirst y_K_wakeFirst : Cond) ∈ gG := tb_lw_privs_2 (List.mem_of_getElem? (i := 5) rfl) rfl
theorem gm_22 : (.selects R_K y_K_read y_K_read : Cond) ∈ gG := tb_lw_privs_2 (List.mem_of_getElem? (i := 6) rfl) rfl
theorem gm_23 : (.selects R_K y_K_pushNext y_K_pushNext : Cond) ∈ gG := tb_lw_privs_2 (List.mem_of_getElem? (i := 7) rfl) rfl
theorem gm_24 : (.selects R_K y_K_fork y_K_fork : Cond) ∈ gG := tb_lw_privs_2 (List.mem_of_getElem? (i := 8) rfl) rfl
theorem gm_25 : (.selects R_K y_K_freeProc y_K_freeProc : Cond) ∈ gG := tb_lw_privs_2 (List.mem_of_getElem? (i := 9) rfl) rfl
theorem gm_26 : (.selects R_K y_K_addEnd y_K_addEnd : Cond) ∈ gG := tb_lw_privs_2 (List.mem_of_getElem? (i := 10) rfl) rfl
theorem gm_27 : (.selects R_K y_K_takeEndedChild y_K_takeEndedChild : Cond) ∈ gG := tb_lw_privs_2 (List.mem_of_getElem? (i := 11) rfl) rfl
theorem gm_28 : (.selects R_K y_K_kill y_K_kill : Cond) ∈ gG := tb_lw_privs_2 (List.mem_of_getElem? (i := 12) rfl) rfl
theorem gm_29 : (.selects R_K y_K_isThere y_K_isThere : Cond) ∈ gG := tb_lw_privs_2 (List.mem_of_getElem? (i := 13) rfl) rfl
theorem gm_30 : (.selects R_K y_K_openPipe y_K_openPipe : Cond) ∈ gG := tb_lw_privs_2 (List.mem_of_getElem? (i := 14) rfl) rfl
theorem gm_31 : (.selects R_K y_K_freePipe y_K_freePipe : Cond) ∈ gG := tb_lw_privs_2 (List.mem_of_getElem? (i := 15) rfl) rfl
theorem gm_32 : (.selects R_K y_K_openDescriptor y_K_openDescriptor : Cond) ∈ gG := tb_lw_privs_3 (List.mem_of_getElem? (i := 0) rfl) rfl
theorem gm_33 : (.selects R_K y_K_close y_K_close : Cond) ∈ gG := tb_lw_privs_3 (List.mem_of_getElem? (i := 1) rfl) rfl
theorem gm_34 : (.selects R_K y_K_duplicate y_K_duplicate : Cond) ∈ gG := tb_lw_privs_3 (List.mem_of_getElem? (i := 2) rfl) rfl
theorem gm_35 : (.selects R_K y_K_sleep y_K_sleep : Cond) ∈ gG := tb_lw_privs_3 (List.mem_of_getElem? (i := 3) rfl) rfl
theorem gm_36 : (.selects R_K y_K_countWaiting y_K_countWaiting : Cond) ∈ gG := tb_lw_privs_3 (List.mem_of_getElem? (i := 4) rfl) rfl
theorem gm_37 : (.selects R_M y_M_ready y_M_ready : Cond) ∈ gG := tb_lw_privs_3 (List.mem_of_getElem? (i := 5) rfl) rfl
theorem gm_38 : (.selects R_M y_M_goesOn y_M_goesOn : Cond) ∈ gG := tb_lw_privs_3 (List.mem_of_getElem? (i := 6) rfl) rfl
theorem gm_39 : (.selects R_M y_M_step y_M_step : Cond) ∈ gG := tb_lw_privs_3 (List.mem_of_getElem? (i := 7) rfl) rfl
theorem gm_40 : (.selects R_M y_M_wakeSleepers y_M_wakeSleepers : Cond) ∈ gG := tb_lw_privs_3 (List.mem_of_getElem? (i := 8) rfl) rfl
theorem gm_41 : (.selects R_M y_M_instruct y_M_instruct : Cond) ∈ gG := tb_lw_privs_3 (List.mem_of_getElem? (i := 9) rfl) rfl
theorem gm_42 : (.selects R_M y_M_faultOf y_M_faultOf : Cond) ∈ gG := tb_lw_privs_3 (List.mem_of_getElem? (i := 10) rfl) rfl
theorem gm_43 : (.selects R_M y_M_top y_M_top : Cond) ∈ gG := tb_lw_privs_3 (List.mem_of_getElem? (i := 11) rfl) rfl
theorem gm_44 : (.selects R_M y_M_rowFor y_M_rowFor : Cond) ∈ gG := tb_lw_privs_3 (List.mem_of_getElem? (i := 12) rfl) rfl
theorem gm_45 : (.selects R_M y_M_descriptorOf y_M_descriptorOf : Cond) ∈ gG := tb_lw_privs_3 (List.mem_of_getElem? (i := 13) rfl) rfl
theorem gm_46 : (.selects R_M y_M_many y_M_many : Cond) ∈ gG := tb_lw_privs_3 (List.mem_of_getElem? (i := 14) rfl) rfl
theorem gm_47 : (.selects R_M y_M_end y_M_end : Cond) ∈ gG := tb_lw_privs_3 (List.mem_of_getElem? (i := 15) rfl) rfl
theorem gm_48 : (.selects R_M y_M_leaveQueue y_M_leaveQueue : Cond) ∈ gG := tb_lw_privs_4 (List.mem_of_getElem? (i := 0) rfl) rfl
theorem gm_49 : (.selects R_M y_M_leaveRow y_M_leaveRow : Cond) ∈ gG := tb_lw_privs_4 (List.mem_of_getElem? (i := 1) rfl) rfl
theorem gm_50 : (.selects R_M y_M_shutEnd y_M_shutEnd : Cond) ∈ gG := tb_lw_privs_4 (List.mem_of_getElem? (i := 2) rfl) rfl
theorem gm_51 : (.selects R_M y_M_wakeAll y_M_wakeAll : Cond) ∈ gG := tb_lw_privs_4 (List.mem_of_getElem? (i := 3) rfl) rfl
theorem gm_52 : (.selects R_M y_M_wakeFirst y_M_wakeFirst : Cond) ∈ gG := tb_lw_privs_4 (List.mem_of_getElem? (i := 4) rfl) rfl
theorem gm_53 : (.selects R_M y_M_isPipe y_M_isPipe : Cond) ∈ gG := tb_lw_privs_4 (List.mem_of_getElem? (i := 5) rfl) rfl
theorem gm_54 : (.selects R_M y_M_stand y_M_stand : Cond) ∈ gG := tb_lw_privs_4 (List.mem_of_getElem? (i := 6) rfl) rfl
theorem gm_55 : (.selects R_M y_M_plain y_M_plain : Cond) ∈ gG := tb_lw_privs_4 (List.mem_of_getElem? (i := 7) rfl) rfl
theorem gm_56 : (.selects R_M y_M_push y_M_push : Cond) ∈ gG := tb_lw_privs_4 (List.mem_of_getElem? (i := 8) rfl) rfl
theorem gm_57 : (.selects R_M y_M_call y_M_call : Cond) ∈ gG := tb_lw_privs_4 (List.mem_of_getElem? (i := 9) rfl) rfl
theorem gm_58 : (.selects R_M y_M_toEnd y_M_toEnd : Cond) ∈ gG := tb_lw_privs_4 (List.mem_of_getElem? (i := 10) rfl) rfl
theorem gm_59 : (.selects R_M y_M_write y_M_write : Cond) ∈ gG := tb_lw_privs_4 (List.mem_of_getElem? (i := 11) rfl) rfl
theorem gm_60 : (.selects R_M y_M_intoPipe y_M_intoPipe : Cond) ∈ gG := tb_lw_privs_4 (List.mem_of_getElem? (i := 12) rfl) rfl
theorem gm_61 : (.selects R_M y_M_read y_M_read : Cond) ∈ gG := tb_lw_privs_4 (List.mem_of_getElem? (i := 13) rfl) rfl
theorem gm_62 : (.selects R_M y_M_outOfPipe y_M_outOfPipe : Cond) ∈ gG := tb_lw_privs_4 (List.mem_of_getElem? (i := 14) rfl) rfl
theorem gm_63 : (.selects R_M y_M_fork y_M_fork : Cond) ∈ gG := tb_lw_privs_4 (List.mem_of_getElem? (i := 15) rfl) rfl
theorem gm_64 : (.selects R_M y_M_await y_M_await : Cond) ∈ gG := tb_lw_privs_5 (List.mem_of_getElem? (i := 0) rfl) rfl
theorem gm_65 : (.selects R_M y_M_kill y_M_kill : Cond) ∈ gG := tb_lw_privs_5 (List.mem_of_getElem? (i := 1) rfl) rfl
theorem gm_66 : (.selects R_M y_M_makePipe y_M_makePipe : Cond) ∈ gG := tb_lw_privs_5 (List.mem_of_getElem? (i := 2) rfl) rfl
theorem gm_67 : (.selects R_M y_M_freeDescriptor y_M_freeDescriptor : Cond) ∈ gG := tb_lw_privs_5 (List.mem_of_getElem? (i := 3) rfl) rfl
theorem gm_68 : (.selects R_M y_M_dup y_M_dup : Cond) ∈ gG := tb_lw_privs_5 (List.mem_of_getElem? (i := 4) rfl) rfl
theorem gm_69 : (.selects R_M y_M_noProcess y_M_noProcess : Cond) ∈ gG := tb_lw_privs_5 (List.mem_of_getElem? (i := 5) rfl) rfl
theorem gm_70 : (.selects R_M y_M_notThere y_M_notThere : Cond) ∈ gG := tb_lw_privs_5 (List.mem_of_getElem? (i := 6) rfl) rfl
theorem gm_72 : (.initialized R_K : Cond) ∈ gG := tb_tables_1_1 (List.mem_of_getElem? (i := 1) rfl) rfl
theorem gm_73 : (.initialized R_W : Cond) ∈ gG := tb_tables_1_1 (List.mem_of_getElem? (i := 2) rfl) rfl
theorem gm_75 : (.initialized R_P : Cond) ∈ gG := tb_tables_1_1 (List.mem_of_getElem? (i := 4) rfl) rfl
theorem gm_76 : (.initialized R_M : Cond) ∈ gG := tb_tables_1_1 (List.mem_of_getElem? (i := 5) rfl) rfl
theorem gm_83 : (.initialized "java/lang/System" : Cond) ∈ gG := tb_tables_1_1 (List.mem_of_getElem? (i := 12) rfl) rfl
theorem gm_84 : (.initialized R_I : Cond) ∈ gG := tb_tables_1_1 (List.mem_of_getElem? (i := 13) rfl) rfl
theorem gm_102 : (.fieldLink R_W 16 R_W "words" "[I" : Cond) ∈ gG := tb_tables_1_1 (List.mem_of_getElem? (i := 31) rfl) rfl
theorem gm_103 : (.fieldLink R_W 7 R_W "first" "I" : Cond) ∈ gG := tb_tables_1_1 (List.mem_of_getElem? (i := 32) rfl) rfl
theorem gm_104 : (.fieldLink R_W 13 R_W "count" "I" : Cond) ∈ gG := tb_tables_1_1 (List.mem_of_getElem? (i := 33) rfl) rfl
theorem gm_105 : (.fieldLink R_K 119 R_W "count" "I" : Cond) ∈ gG := tb_tables_1_1 (List.mem_of_getElem? (i := 34) rfl) rfl
theorem gm_125 : (.fieldLink R_P 46 R_P "number" "I" : Cond) ∈ gG := tb_tables_1_1 (List.mem_of_getElem? (i := 54) rfl) rfl
theorem gm_126 : (.fieldLink R_K 256 R_P "number" "I" : Cond) ∈ gG := tb_tables_1_1 (List.mem_of_getElem? (i := 55) rfl) rfl
theorem gm_127 : (.fieldLink R_P 9 R_P "memory" "[I" : Cond) ∈ gG := tb_tables_1_1 (List.mem_of_getElem? (i := 56) rfl) rfl
theorem gm_128 : (.fieldLink R_K 86 R_P "memory" "[I" : Cond) ∈ gG := tb_tables_1_1 (List.mem_of_getElem? (i := 57) rfl) rfl
theorem gm_129 : (.fieldLink R_P 15 R_P "words" "[I" : Cond) ∈ gG := tb_tables_1_1 (List.mem_of_getElem? (i := 58) rfl) rfl
theorem gm_130 : (.fieldLink R_K 159 R_P "words" "[I" : Cond) ∈ gG := tb_tables_1_1 (List.mem_of_getElem? (i := 59) rfl) rfl
theorem gm_131 : (.fieldLink R_P 18 R_P "descriptors" "[I" : Cond) ∈ gG := tb_tables_1_1 (List.mem_of_getElem? (i := 60) rfl) rfl
theorem gm_132 : (.fieldLink R_K 89 R_P "descriptors" "[I" : Cond) ∈ gG := tb_tables_1_1 (List.mem_of_getElem? (i := 61) rfl) rfl
theorem gm_133 : (.fieldLink R_P 21 R_P "height" "I" : Cond) ∈ gG := tb_tables_1_1 (List.mem_of_getElem? (i := 62) rfl) rfl
theorem gm_134 : (.fieldLink R_K 137 R_P "height" "I" : Cond) ∈ gG := tb_tables_1_1 (List.mem_of_getElem? (i := 63) rfl) rfl
theorem gm_135 : (.fieldLink R_P 25 R_P "place" "I" : Cond) ∈ gG := tb_tables_1_1 (List.mem_of_getElem? (i := 64) rfl) rfl
theorem gm_136 : (.fieldLink R_K 134 R_P "place" "I" : Cond) ∈ gG := tb_tables_1_1 (List.mem_of_getElem? (i := 65) rfl) rfl
theorem gm_137 : (.fieldLink R_P 28 R_P "parent" "I" : Cond) ∈ gG := tb_tables_1_1 (List.mem_of_getElem? (i := 66) rfl) rfl
theorem gm_138 : (.fieldLink R_K 140 R_P "parent" "I" : Cond) ∈ gG := tb_tables_1_1 (List.mem_of_getElem? (i := 67) rfl) rfl
theorem gm_139 : (.fieldLink R_P 31 R_P "state" "I" : Cond) ∈ gG := tb_tables_1_1 (List.mem_of_getElem? (i := 68) rfl) rfl
theorem gm_140 : (.fieldLink R_K 127 R_P "state" "I" : Cond) ∈ gG := tb_tables_1_1 (List.mem_of_getElem? (i := 69) rfl) rfl
theorem gm_142 : (.fieldLink R_K 143 R_P "code" "I" : Cond) ∈ gG := tb_tables_1_1 (List.mem_of_getElem? (i := 71) rfl) rfl
theorem gm_144 : (.fieldLink R_K 146 R_P "wakeTime" "I" : Cond) ∈ gG := tb_tables_1_1 (List.mem_of_getElem? (i := 73) rfl) rfl
theorem gm_146 : (.fieldLink R_K 232 R_P "waitsOn" "I" : Cond) ∈ gG := tb_tables_1_1 (List.mem_of_getElem? (i := 75) rfl) rfl
theorem gm_148 : (.fieldLink R_K 235 R_P "waitsSince" "I" : Cond) ∈ gG := tb_tables_1_1 (List.mem_of_getElem? (i := 77) rfl) rfl
theorem gm_174 : (.fieldLink R_K 70 R_K "quantum" "I" : Cond) ∈ gG := tb_tables_1_1 (List.mem_of_getElem? (i := 103) rfl) rfl
theorem gm_175 : (.fieldLink R_K 11 R_K "procs" "[LPipeKernel$Proc;" : Cond) ∈ gG := tb_tables_1_1 (List.mem_of_getElem? (i := 104) rfl) rfl
theorem gm_176 : (.fieldLink R_K 17 R_K "pipes" "[LPipeKernel$Words;" : Cond) ∈ gG := tb_tables_1_1 (List.mem_of_getElem? (i := 105) rfl) rfl
theorem gm_177 : (.fieldLink R_K 21 R_K "ends" "[I" : Cond) ∈ gG := tb_tables_1_1 (List.mem_of_getElem? (i := 106) rfl) rfl
theorem gm_178 : (.fieldLink R_K 25 R_K "ready" "[I" : Cond) ∈ gG := tb_tables_1_1 (List.mem_of_getElem? (i := 107) rfl) rfl
theorem gm_179 : (.fieldLink R_K 28 R_K "readyCount" "I" : Cond) ∈ gG := tb_tables_1_1 (List.mem_of_getElem? (i := 108) rfl) rfl
theorem gm_180 : (.fieldLink R_K 32 R_K "doneByFirst" "I" : Cond) ∈ gG := tb_tables_1_1 (List.mem_of_getElem? (i := 109) rfl) rfl
theorem gm_181 : (.fieldLink R_K 35 R_K "now" "I" : Cond) ∈ gG := tb_tables_1_1 (List.mem_of_getElem? (i := 110) rfl) rfl
theorem gm_182 : (.fieldLink R_K 38 R_K "waitsBegun" "I" : Cond) ∈ gG := tb_tables_1_1 (List.mem_of_getElem? (i := 111) rfl) rfl
theorem gm_183 : (.fieldLink R_K 41 R_K "booted" "Z" : Cond) ∈ gG := tb_tables_1_1 (List.mem_of_getElem? (i := 112) rfl) rfl
theorem gm_184 : (.fieldLink R_K 48 R_K "input" "LPipeKernel$Words;" : Cond) ∈ gG := tb_tables_1_1 (List.mem_of_getElem? (i := 113) rfl) rfl
theorem gm_185 : (.fieldLink R_K 52 R_K "inputShut" "Z" : Cond) ∈ gG := tb_tables_1_1 (List.mem_of_getElem? (i := 114) rfl) rfl
theorem gm_186 : (.fieldLink R_K 55 R_K "output" "LPipeKernel$Words;" : Cond) ∈ gG := tb_tables_1_1 (List.mem_of_getElem? (i := 115) rfl) rfl
theorem gm_187 : (.fieldLink R_K 58 R_K "outputCount" "I" : Cond) ∈ gG := tb_tables_1_1 (List.mem_of_getElem? (i := 116) rfl) rfl
theorem gm_221 : (.methodLink R_K 122 y_K_wakeAll : Cond) ∈ gG := tb_tables_1_1 (List.mem_of_getElem? (i := 150) rfl) rfl
theorem gm_223 : (.instanceMethod y_K_wakeAll : Cond) ∈ gG := tb_tables_1_1 (List.mem_of_getElem? (i := 152) rfl) rfl
theorem gm_224 : (.code y_K_wakeAll b_K_wakeAll 4 none : Cond) ∈ gG := tb_tables_1_1 (List.mem_of_getElem? (i := 153) rfl) rfl
theorem gm_225 : (.methodLink R_K 342 y_K_longestWaiting : Cond) ∈ gG := tb_tables_1_1 (List.mem_of_getElem? (i := 154) rfl) rfl
theorem gm_227 : (.instanceMethod y_K_longestWaiting : Cond) ∈ gG := tb_tables_1_1 (List.mem_of_getElem? (i := 156) rfl) rfl
theorem gm_228 : (.code y_K_longestWaiting b_K_longestWaiting 5 (some (.object "PipeKernel$Proc")) : Cond) ∈ gG := tb_tables_1_1 (List.mem_of_getElem? (i := 157) rfl) rfl
theorem gm_229 : (.methodLink R_K 92 y_K_makeReady : Cond) ∈ gG := tb_tables_1_1 (List.mem_of_getElem? (i := 158) rfl) rfl
theorem gm_231 : (.instanceMethod y_K_makeReady : Cond) ∈ gG := tb_tables_1_1 (List.mem_of_getElem? (i := 160) rfl) rfl
theorem gm_232 : (.code y_K_makeReady b_K_makeReady 2 none : Cond) ∈ gG := tb_tables_1_1 (List.mem_of_getElem? (i := 161) rfl) rfl
theorem gm_368 : (.methodLink R_K 101 y_K_goesOn : Cond) ∈ gG := tb_tables_1_2 (List.mem_of_getElem? (i := 57) rfl) rfl
theorem gm_370 : (.instanceMethod y_K_goesOn : Cond) ∈ gG := tb_tables_1_2 (List.mem_of_getElem? (i := 59) rfl) rfl
theorem gm_371 : (.code y_K_goesOn b_K_goesOn 2 (some .boolean) : Cond) ∈ gG := tb_tables_1_2 (List.mem_of_getElem? (i := 60) rfl) rfl
theorem gm_372 : (.methodLink R_K 105 y_K_step : Cond) ∈ gG := tb_tables_1_2 (List.mem_of_getElem? (i := 61) rfl) rfl
theorem gm_374 : (.instanceMethod y_K_step : Cond) ∈ gG := tb_tables_1_2 (List.mem_of_getElem? (i := 63) rfl) rfl
theorem gm_375 : (.code y_K_step b_K_step 3 none : Cond) ∈ gG := tb_tables_1_2 (List.mem_of_getElem? (i := 64) rfl) rfl
theorem gm_376 : (.methodLink R_K 181 y_K_wakeSleepers : Cond) ∈ gG := tb_tables_1_2 (List.mem_of_getElem? (i := 65) rfl) rfl
theorem gm_378 : (.instanceMethod y_K_wakeSleepers : Cond) ∈ gG := tb_tables_1_2 (List.mem_of_getElem? (i := 67) rfl) rfl
theorem gm_379 : (.code y_K_wakeSleepers b_K_wakeSleepers 2 none : Cond) ∈ gG := tb_tables_1_2 (List.mem_of_getElem? (i := 68) rfl) rfl
theorem gm_380 : (.methodLink R_K 184 y_P_findFault : Cond) ∈ gG := tb_tables_1_2 (List.mem_of_getElem? (i := 69) rfl) rfl
theorem gm_381 : (.instanceMethod y_P_findFault : Cond) ∈ gG := tb_tables_1_2 (List.mem_of_getElem? (i := 70) rfl) rfl
theorem gm_382 : (.selects R_P y_P_findFault y_P_findFault : Cond) ∈ gG := tb_tables_1_2 (List.mem_of_getElem? (i := 71) rfl) rfl
theorem gm_383 : (.code y_P_findFault b_P_findFault 2 (some .int) : Cond) ∈ gG := tb_tables_1_2 (List.mem_of_getElem? (i := 72) rfl) rfl
theorem gm_384 : (.methodLink R_P 69 y_P_isInMemory : Cond) ∈ gG := tb_tables_1_2 (List.mem_of_getElem? (i := 73) rfl) rfl
theorem gm_385 : (.static y_P_isInMemory : Cond) ∈ gG := tb_tables_1_2 (List.mem_of_getElem? (i := 74) rfl) rfl
theorem gm_386 : (.code y_P_isInMemory b_P_isInMemory 1 (some .boolean) : Cond) ∈ gG := tb_tables_1_2 (List.mem_of_getElem? (i := 75) rfl) rfl
theorem gm_387 : (.methodLink R_P 73 y_P_kind : Cond) ∈ gG := tb_tables_1_2 (List.mem_of_getElem? (i := 76) rfl) rfl
theorem gm_388 : (.instanceMethod y_P_kind : Cond) ∈ gG := tb_tables_1_2 (List.mem_of_getElem? (i := 77) rfl) rfl
theorem gm_389 : (.selects R_P y_P_kind y_P_kind : Cond) ∈ gG := tb_tables_1_2 (List.mem_of_getElem? (i := 78) rfl) rfl
theorem gm_390 : (.code y_P_kind b_P_kind 1 (some .int) : Cond) ∈ gG := tb_tables_1_2 (List.mem_of_getElem? (i := 79) rfl) rfl
theorem gm_393 : (.methodLink R_P 79 y_P_top : Cond) ∈ gG := tb_tables_1_2 (List.mem_of_getElem? (i := 82) rfl) rfl
theorem gm_394 : (.instanceMethod y_P_top : Cond) ∈ gG := tb_tables_1_2 (List.mem_of_getElem? (i := 83) rfl) rfl
theorem gm_395 : (.selects R_P y_P_top y_P_top : Cond) ∈ gG := tb_tables_1_2 (List.mem_of_getElem? (i := 84) rfl) rfl
theorem gm_396 : (.code y_P_top b_P_top 1 (some .int) : Cond) ∈ gG := tb_tables_1_2 (List.mem_of_getElem? (i := 85) rfl) rfl
theorem gm_397 : (.methodLink R_P 82 y_P_operand : Cond) ∈ gG := tb_tables_1_2 (List.mem_of_getElem? (i := 86) rfl) rfl
theorem gm_398 : (.instanceMethod y_P_operand : Cond) ∈ gG := tb_tables_1_2 (List.mem_of_getElem? (i := 87) rfl) rfl
theorem gm_399 : (.selects R_P y_P_operand y_P_operand : Cond) ∈ gG := tb_tables_1_2 (List.mem_of_getElem? (i := 88) rfl) rfl
theorem gm_400 : (.code y_P_operand b_P_operand 1 (some .int) : Cond) ∈ gG := tb_tables_1_2 (List.mem_of_getElem? (i := 89) rfl) rfl
theorem gm_401 : (.methodLink R_K 187 y_K_end : Cond) ∈ gG := tb_tables_1_2 (List.mem_of_getElem? (i := 90) rfl) rfl
theorem gm_403 : (.instanceMethod y_K_end : Cond) ∈ gG := tb_tables_1_2 (List.mem_of_getElem? (i := 92) rfl) rfl
theorem gm_404 : (.code y_K_end b_K_end 4 none : Cond) ∈ gG := tb_tables_1_2 (List.mem_of_getElem? (i := 93) rfl) rfl
theorem gm_405 : (.methodLink R_K 229 y_K_leaveQueue : Cond) ∈ gG := tb_tables_1_2 (List.mem_of_getElem? (i := 94) rfl) rfl
theorem gm_407 : (.instanceMethod y_K_leaveQueue : Cond) ∈ gG := tb_tables_1_2 (List.mem_of_getElem? (i := 96) rfl) rfl
theorem gm_408 : (.code y_K_leaveQueue b_K_leaveQueue 4 none : Cond) ∈ gG := tb_tables_1_2 (List.mem_of_getElem? (i := 97) rfl) rfl
theorem gm_409 : (.methodLink R_K 332 y_K_closeDescriptor : Cond) ∈ gG := tb_tables_1_2 (List.mem_of_getElem? (i := 98) rfl) rfl
theorem gm_411 : (.instanceMethod y_K_closeDescriptor : Cond) ∈ gG := tb_tables_1_2 (List.mem_of_getElem? (i := 100) rfl) rfl
theorem gm_412 : (.code y_K_closeDescriptor b_K_closeDescriptor 5 (some .int) : Cond) ∈ gG := tb_tables_1_2 (List.mem_of_getElem? (i := 101) rfl) rfl
theorem gm_413 : (.methodLink R_K 241 y_K_otherEnd : Cond) ∈ gG := tb_tables_1_2 (List.mem_of_getElem? (i := 102) rfl) rfl
theorem gm_414 : (.static y_K_otherEnd : Cond) ∈ gG := tb_tables_1_2 (List.mem_of_getElem? (i := 103) rfl) rfl
theorem gm_415 : (.code y_K_otherEnd b_K_otherEnd 1 (some .int) : Cond) ∈ gG := tb_tables_1_2 (List.mem_of_getElem? (i := 104) rfl) rfl
theorem gm_416 : (.methodLink R_K 335 y_W_clear : Cond) ∈ gG := tb_tables_1_2 (List.mem_of_getElem? (i := 105) rfl) rfl
theorem gm_417 : (.instanceMethod y_W_clear : Cond) ∈ gG := tb_tables_1_2 (List.mem_of_getElem? (i := 106) rfl) rfl
theorem gm_418 : (.selects R_W y_W_clear y_W_clear : Cond) ∈ gG := tb_tables_1_2 (List.mem_of_getElem? (i := 107) rfl) rfl
theorem gm_419 : (.code y_W_clear b_W_clear 1 none : Cond) ∈ gG := tb_tables_1_2 (List.mem_of_getElem? (i := 108) rfl) rfl
theorem gm_420 : (.methodLink R_K 339 y_K_handOverChildren : Cond) ∈ gG := tb_tables_1_2 (List.mem_of_getElem? (i := 109) rfl) rfl
theorem gm_422 : (.instanceMethod y_K_handOverChildren : Cond) ∈ gG := tb_tables_1_2 (List.mem_of_getElem? (i := 111) rfl) rfl
theorem gm_423 : (.code y_K_handOverChildren b_K_handOverChildren 5 none : Cond) ∈ gG := tb_tables_1_2 (List.mem_of_getElem? (i := 112) rfl) rfl
theorem gm_424 : (.methodLink R_K 316 y_P_isChildOf : Cond) ∈ gG := tb_tables_1_2 (List.mem_of_getElem? (i := 113) rfl) rfl
theorem gm_425 : (.instanceMethod y_P_isChildOf : Cond) ∈ gG := tb_tables_1_2 (List.mem_of_getElem? (i := 114) rfl) rfl
theorem gm_426 : (.selects R_P y_P_isChildOf y_P_isChildOf : Cond) ∈ gG := tb_tables_1_2 (List.mem_of_getElem? (i := 115) rfl) rfl
theorem gm_427 : (.code y_P_isChildOf b_P_isChildOf 2 (some .boolean) : Cond) ∈ gG := tb_tables_1_2 (List.mem_of_getElem? (i := 116) rfl) rfl
theorem gm_428 : (.methodLink R_K 225 y_K_endedChild : Cond) ∈ gG := tb_tables_1_2 (List.mem_of_getElem? (i := 117) rfl) rfl
theorem gm_430 : (.instanceMethod y_K_endedChild : Cond) ∈ gG := tb_tables_1_2 (List.mem_of_getElem? (i := 119) rfl) rfl
theorem gm_431 : (.code y_K_endedChild b_K_endedChild 3 (some (.object "PipeKernel$Proc")) : Cond) ∈ gG := tb_tables_1_2 (List.mem_of_getElem? (i := 120) rfl) rfl
theorem gm_432 : (.methodLink R_K 191 y_K_mustWait : Cond) ∈ gG := tb_tables_1_2 (List.mem_of_getElem? (i := 121) rfl) rfl
theorem gm_434 : (.instanceMethod y_K_mustWait : Cond) ∈ gG := tb_tables_1_2 (List.mem_of_getElem? (i := 123) rfl) rfl
theorem gm_435 : (.code y_K_mustWait b_K_mustWait 2 (some .boolean) : Cond) ∈ gG := tb_tables_1_2 (List.mem_of_getElem? (i := 124) rfl) rfl
theorem gm_436 : (.methodLink R_K 207 y_P_kind : Cond) ∈ gG := tb_tables_1_2 (List.mem_of_getElem? (i := 125) rfl) rfl
theorem gm_437 : (.methodLink R_K 210 y_P_top : Cond) ∈ gG := tb_tables_1_2 (List.mem_of_getElem? (i := 126) rfl) rfl
theorem gm_438 : (.methodLink R_K 213 y_P_descriptorAt : Cond) ∈ gG := tb_tables_1_2 (List.mem_of_getElem? (i := 127) rfl) rfl
theorem gm_439 : (.instanceMethod y_P_descriptorAt : Cond) ∈ gG := tb_tables_1_2 (List.mem_of_getElem? (i := 128) rfl) rfl
theorem gm_440 : (.selects R_P y_P_descriptorAt y_P_descriptorAt : Cond) ∈ gG := tb_tables_1_2 (List.mem_of_getElem? (i := 129) rfl) rfl
theorem gm_441 : (.code y_P_descriptorAt b_P_descriptorAt 2 (some .int) : Cond) ∈ gG := tb_tables_1_2 (List.mem_of_getElem? (i := 130) rfl) rfl
theorem gm_442 : (.methodLink R_K 216 y_K_writeBlocks : Cond) ∈ gG := tb_tables_1_2 (List.mem_of_getElem? (i := 131) rfl) rfl
theorem gm_444 : (.instanceMethod y_K_writeBlocks : Cond) ∈ gG := tb_tables_1_2 (List.mem_of_getElem? (i := 133) rfl) rfl
theorem gm_445 : (.code y_K_writeBlocks b_K_writeBlocks 2 (some .boolean) : Cond) ∈ gG := tb_tables_1_2 (List.mem_of_getElem? (i := 134) rfl) rfl
theorem gm_446 : (.methodLink R_K 238 y_K_isWritingEnd : Cond) ∈ gG := tb_tables_1_2 (List.mem_of_getElem? (i := 135) rfl) rfl
theorem gm_447 : (.static y_K_isWritingEnd : Cond) ∈ gG := tb_tables_1_2 (List.mem_of_getElem? (i := 136) rfl) rfl
theorem gm_448 : (.code y_K_isWritingEnd b_K_isWritingEnd 1 (some .boolean) : Cond) ∈ gG := tb_tables_1_2 (List.mem_of_getElem? (i := 137) rfl) rfl
theorem gm_449 : (.methodLink R_K 108 y_W_isFull : Cond) ∈ gG := tb_tables_1_2 (List.mem_of_getElem? (i := 138) rfl) rfl
theorem gm_450 : (.instanceMethod y_W_isFull : Cond) ∈ gG := tb_tables_1_2 (List.mem_of_getElem? (i := 139) rfl) rfl
theorem gm_451 : (.selects R_W y_W_isFull y_W_isFull : Cond) ∈ gG := tb_tables_1_2 (List.mem_of_getElem? (i := 140) rfl) rfl
theorem gm_452 : (.code y_W_isFull b_W_isFull 1 (some .boolean) : Cond) ∈ gG := tb_tables_1_2 (List.mem_of_getElem? (i := 141) rfl) rfl
theorem gm_453 : (.methodLink R_K 219 y_K_readBlocks : Cond) ∈ gG := tb_tables_1_2 (List.mem_of_getElem? (i := 142) rfl) rfl
theorem gm_455 : (.instanceMethod y_K_readBlocks : Cond) ∈ gG := tb_tables_1_2 (List.mem_of_getElem? (i := 144) rfl) rfl
theorem gm_456 : (.code y_K_readBlocks b_K_readBlocks 2 (some .boolean) : Cond) ∈ gG := tb_tables_1_2 (List.mem_of_getElem? (i := 145) rfl) rfl
theorem gm_457 : (.methodLink R_K 244 y_W_isEmpty : Cond) ∈ gG := tb_tables_1_2 (List.mem_of_getElem? (i := 146) rfl) rfl
theorem gm_458 : (.instanceMethod y_W_isEmpty : Cond) ∈ gG := tb_tables_1_2 (List.mem_of_getElem? (i := 147) rfl) rfl
theorem gm_459 : (.selects R_W y_W_isEmpty y_W_isEmpty : Cond) ∈ gG := tb_tables_1_2 (List.mem_of_getElem? (i := 148) rfl) rfl
theorem gm_460 : (.code y_W_isEmpty b_W_isEmpty 1 (some .boolean) : Cond) ∈ gG := tb_tables_1_2 (List.mem_of_getElem? (i := 149) rfl) rfl
theorem gm_461 : (.methodLink R_K 247 y_K_isReadingEnd : Cond) ∈ gG := tb_tables_1_2 (List.mem_of_getElem? (i := 150) rfl) rfl
theorem gm_462 : (.static y_K_isReadingEnd : Cond) ∈ gG := tb_tables_1_2 (List.mem_of_getElem? (i := 151) rfl) rfl
theorem gm_463 : (.code y_K_isReadingEnd b_K_isReadingEnd 1 (some .boolean) : Cond) ∈ gG := tb_tables_1_2 (List.mem_of_getElem? (i := 152) rfl) rfl
theorem gm_464 : (.methodLink R_K 222 y_K_hasChild : Cond) ∈ gG := tb_tables_1_2 (List.mem_of_getElem? (i := 153) rfl) rfl
theorem gm_466 : (.instanceMethod y_K_hasChild : Cond) ∈ gG := tb_tables_1_2 (List.mem_of_getElem? (i := 155) rfl) rfl
theorem gm_467 : (.code y_K_hasChild b_K_hasChild 3 (some .boolean) : Cond) ∈ gG := tb_tables_1_2 (List.mem_of_getElem? (i := 156) rfl) rfl
theorem gm_468 : (.methodLink R_K 195 y_K_beginToWait : Cond) ∈ gG := tb_tables_1_2 (List.mem_of_getElem? (i := 157) rfl) rfl
theorem gm_470 : (.instanceMethod y_K_beginToWait : Cond) ∈ gG := tb_tables_1_2 (List.mem_of_getElem? (i := 159) rfl) rfl
theorem gm_471 : (.code y_K_beginToWait b_K_beginToWait 3 none : Cond) ∈ gG := tb_tables_1_2 (List.mem_of_getElem? (i := 160) rfl) rfl
theorem gm_472 : (.methodLink R_K 198 y_P_wouldOverflow : Cond) ∈ gG := tb_tables_1_2 (List.mem_of_getElem? (i := 161) rfl) rfl
theorem gm_473 : (.instanceMethod y_P_wouldOverflow : Cond) ∈ gG := tb_tables_1_2 (List.mem_of_getElem? (i := 162) rfl) rfl
theorem gm_474 : (.selects R_P y_P_wouldOverflow y_P_wouldOverflow : Cond) ∈ gG := tb_tables_1_2 (List.mem_of_getElem? (i := 163) rfl) rfl
theorem gm_475 : (.code y_P_wouldOverflow b_P_wouldOverflow 1 (some .boolean) : Cond) ∈ gG := tb_tables_1_2 (List.mem_of_getElem? (i := 164) rfl) rfl
theorem gm_478 : (.methodLink R_K 201 y_K_perform : Cond) ∈ gG := tb_tables_1_2 (List.mem_of_getElem? (i := 167) rfl) rfl
theorem gm_480 : (.instanceMethod y_K_perform : Cond) ∈ gG := tb_tables_1_2 (List.mem_of_getElem? (i := 169) rfl) rfl
theorem gm_481 : (.code y_K_perform b_K_perform 4 none : Cond) ∈ gG := tb_tables_1_2 (List.mem_of_getElem? (i := 170) rfl) rfl
theorem gm_482 : (.methodLink R_K 250 y_P_operand : Cond) ∈ gG := tb_tables_1_2 (List.mem_of_getElem? (i := 171) rfl) rfl
theorem gm_483 : (.methodLink R_K 253 y_P_pop : Cond) ∈ gG := tb_tables_1_2 (List.mem_of_getElem? (i := 172) rfl) rfl
theorem gm_484 : (.instanceMethod y_P_pop : Cond) ∈ gG := tb_tables_1_2 (List.mem_of_getElem? (i := 173) rfl) rfl
theorem gm_485 : (.selects R_P y_P_pop y_P_pop : Cond) ∈ gG := tb_tables_1_2 (List.mem_of_getElem? (i := 174) rfl) rfl
theorem gm_486 : (.code y_P_pop b_P_pop 1 (some .int) : Cond) ∈ gG := tb_tables_1_2 (List.mem_of_getElem? (i := 175) rfl) rfl
theorem gm_487 : (.methodLink R_K 259 y_P_push : Cond) ∈ gG := tb_tables_1_2 (List.mem_of_getElem? (i := 176) rfl) rfl
theorem gm_488 : (.instanceMethod y_P_push : Cond) ∈ gG := tb_tables_1_2 (List.mem_of_getElem? (i := 177) rfl) rfl
theorem gm_489 : (.selects R_P y_P_push y_P_push : Cond) ∈ gG := tb_tables_1_2 (List.mem_of_getElem? (i := 178) rfl) rfl
theorem gm_490 : (.code y_P_push b_P_push 2 none : Cond) ∈ gG := tb_tables_1_2 (List.mem_of_getElem? (i := 179) rfl) rfl
theorem gm_491 : (.methodLink R_K 204 y_K_goToQueueEnd : Cond) ∈ gG := tb_tables_1_2 (List.mem_of_getElem? (i := 180) rfl) rfl
theorem gm_493 : (.instanceMethod y_K_goToQueueEnd : Cond) ∈ gG := tb_tables_1_2 (List.mem_of_getElem? (i := 182) rfl) rfl
theorem gm_494 : (.code y_K_goToQueueEnd b_K_goToQueueEnd 2 none : Cond) ∈ gG := tb_tables_1_2 (List.mem_of_getElem? (i := 183) rfl) rfl
theorem gm_495 : (.methodLink R_K 262 y_K_write : Cond) ∈ gG := tb_tables_1_2 (List.mem_of_getElem? (i := 184) rfl) rfl
theorem gm_497 : (.instanceMethod y_K_write : Cond) ∈ gG := tb_tables_1_2 (List.mem_of_getElem? (i := 186) rfl) rfl
theorem gm_498 : (.code y_K_write b_K_write 4 none : Cond) ∈ gG := tb_tables_1_2 (List.mem_of_getElem? (i := 187) rfl) rfl
theorem gm_499 : (.methodLink R_K 293 y_K_print : Cond) ∈ gG := tb_tables_1_2 (List.mem_of_getElem? (i := 188) rfl) rfl
theorem gm_501 : (.instanceMethod y_K_print : Cond) ∈ gG := tb_tables_1_2 (List.mem_of_getElem? (i := 190) rfl) rfl
theorem gm_502 : (.code y_K_print b_K_print 2 none : Cond) ∈ gG := tb_tables_1_2 (List.mem_of_getElem? (i := 191) rfl) rfl
theorem gm_503 : (.methodLink R_K 296 y_W_take : Cond) ∈ gG := tb_tables_1_2 (List.mem_of_getElem? (i := 192) rfl) rfl
theorem gm_504 : (.instanceMethod y_W_take : Cond) ∈ gG := tb_tables_1_2 (List.mem_of_getElem? (i := 193) rfl) rfl
theorem gm_505 : (.selects R_W y_W_take y_W_take : Cond) ∈ gG := tb_tables_1_2 (List.mem_of_getElem? (i := 194) rfl) rfl
theorem gm_506 : (.code y_W_take b_W_take 2 (some .int) : Cond) ∈ gG := tb_tables_1_2 (List.mem_of_getElem? (i := 195) rfl) rfl
theorem gm_507 : (.methodLink R_W 20 y_W_wrap : Cond) ∈ gG := tb_tables_1_2 (List.mem_of_getElem? (i := 196) rfl) rfl
theorem gm_508 : (.instanceMethod y_W_wrap : Cond) ∈ gG := tb_tables_1_2 (List.mem_of_getElem? (i := 197) rfl) rfl
theorem gm_509 : (.selects R_W y_W_wrap y_W_wrap : Cond) ∈ gG := tb_tables_1_2 (List.mem_of_getElem? (i := 198) rfl) rfl
theorem gm_510 : (.code y_W_wrap b_W_wrap 2 (some .int) : Cond) ∈ gG := tb_tables_1_2 (List.mem_of_getElem? (i := 199) rfl) rfl
theorem gm_511 : (.methodLink R_K 113 y_W_add : Cond) ∈ gG := tb_tables_1_2 (List.mem_of_getElem? (i := 200) rfl) rfl
theorem gm_512 : (.instanceMethod y_W_add : Cond) ∈ gG := tb_tables_1_2 (List.mem_of_getElem? (i := 201) rfl) rfl
theorem gm_513 : (.selects R_W y_W_add y_W_add : Cond) ∈ gG := tb_tables_1_2 (List.mem_of_getElem? (i := 202) rfl) rfl
theorem gm_514 : (.code y_W_add b_W_add 2 none : Cond) ∈ gG := tb_tables_1_2 (List.mem_of_getElem? (i := 203) rfl) rfl
theorem gm_515 : (.methodLink R_K 116 y_K_wakeFirst : Cond) ∈ gG := tb_tables_1_2 (List.mem_of_getElem? (i := 204) rfl) rfl
theorem gm_517 : (.instanceMethod y_K_wakeFirst : Cond) ∈ gG := tb_tables_1_2 (List.mem_of_getElem? (i := 206) rfl) rfl
theorem gm_518 : (.code y_K_wakeFirst b_K_wakeFirst 3 none : Cond) ∈ gG := tb_tables_1_2 (List.mem_of_getElem? (i := 207) rfl) rfl
theorem gm_519 : (.methodLink R_K 265 y_K_read : Cond) ∈ gG := tb_tables_1_2 (List.mem_of_getElem? (i := 208) rfl) rfl
theorem gm_521 : (.instanceMethod y_K_read : Cond) ∈ gG := tb_tables_1_2 (List.mem_of_getElem? (i := 210) rfl) rfl
theorem gm_522 : (.code y_K_read b_K_read 3 none : Cond) ∈ gG := tb_tables_1_2 (List.mem_of_getElem? (i := 211) rfl) rfl
theorem gm_523 : (.methodLink R_K 299 y_K_pushNext : Cond) ∈ gG := tb_tables_1_2 (List.mem_of_getElem? (i := 212) rfl) rfl
theorem gm_525 : (.instanceMethod y_K_pushNext : Cond) ∈ gG := tb_tables_1_2 (List.mem_of_getElem? (i := 214) rfl) rfl
theorem gm_526 : (.code y_K_pushNext b_K_pushNext 3 (some .boolean) : Cond) ∈ gG := tb_tables_1_2 (List.mem_of_getElem? (i := 215) rfl) rfl
theorem gm_527 : (.methodLink R_K 303 y_P_pushTwo : Cond) ∈ gG := tb_tables_1_2 (List.mem_of_getElem? (i := 216) rfl) rfl
theorem gm_528 : (.instanceMethod y_P_pushTwo : Cond) ∈ gG := tb_tables_1_2 (List.mem_of_getElem? (i := 217) rfl) rfl
theorem gm_529 : (.selects R_P y_P_pushTwo y_P_pushTwo : Cond) ∈ gG := tb_tables_1_2 (List.mem_of_getElem? (i := 218) rfl) rfl
theorem gm_530 : (.code y_P_pushTwo b_P_pushTwo 3 none : Cond) ∈ gG := tb_tables_1_2 (List.mem_of_getElem? (i := 219) rfl) rfl
theorem gm_531 : (.methodLink R_P 65 y_P_push : Cond) ∈ gG := tb_tables_1_2 (List.mem_of_getElem? (i := 220) rfl) rfl
theorem gm_532 : (.methodLink R_K 268 y_K_fork : Cond) ∈ gG := tb_tables_1_2 (List.mem_of_getElem? (i := 221) rfl) rfl
theorem gm_534 : (.instanceMethod y_K_fork : Cond) ∈ gG := tb_tables_1_2 (List.mem_of_getElem? (i := 223) rfl) rfl
theorem gm_535 : (.code y_K_fork b_K_fork 4 none : Cond) ∈ gG := tb_tables_1_2 (List.mem_of_getElem? (i := 224) rfl) rfl
theorem gm_536 : (.methodLink R_K 306 y_K_freeProc : Cond) ∈ gG := tb_tables_1_2 (List.mem_of_getElem? (i := 225) rfl) rfl
theorem gm_538 : (.instanceMethod y_K_freeProc : Cond) ∈ gG := tb_tables_1_2 (List.mem_of_getElem? (i := 227) rfl) rfl
theorem gm_539 : (.code y_K_freeProc b_K_freeProc 2 (some (.object "PipeKernel$Proc")) : Cond) ∈ gG := tb_tables_1_2 (List.mem_of_getElem? (i := 228) rfl) rfl
theorem gm_540 : (.methodLink R_K 310 y_P_copy : Cond) ∈ gG := tb_tables_1_2 (List.mem_of_getElem? (i := 229) rfl) rfl
theorem gm_541 : (.instanceMethod y_P_copy : Cond) ∈ gG := tb_tables_1_2 (List.mem_of_getElem? (i := 230) rfl) rfl
theorem gm_542 : (.selects R_P y_P_copy y_P_copy : Cond) ∈ gG := tb_tables_1_2 (List.mem_of_getElem? (i := 231) rfl) rfl
theorem gm_543 : (.code y_P_copy b_P_copy 2 none : Cond) ∈ gG := tb_tables_1_2 (List.mem_of_getElem? (i := 232) rfl) rfl
theorem gm_544 : (.methodLink R_P 49 arraycopyName : Cond) ∈ gG := tb_tables_1_2 (List.mem_of_getElem? (i := 233) rfl) rfl
theorem gm_545 : (.static arraycopyName : Cond) ∈ gG := tb_tables_1_2 (List.mem_of_getElem? (i := 234) rfl) rfl
theorem gm_546 : (.native arraycopyName : Cond) ∈ gG := tb_tables_1_2 (List.mem_of_getElem? (i := 235) rfl) rfl
theorem gm_547 : (.methodLink R_K 313 y_K_addEnd : Cond) ∈ gG := tb_tables_1_2 (List.mem_of_getElem? (i := 236) rfl) rfl
theorem gm_549 : (.instanceMethod y_K_addEnd : Cond) ∈ gG := tb_tables_1_2 (List.mem_of_getElem? (i := 238) rfl) rfl
theorem gm_550 : (.code y_K_addEnd b_K_addEnd 2 none : Cond) ∈ gG := tb_tables_1_2 (List.mem_of_getElem? (i := 239) rfl) rfl
theorem gm_551 : (.methodLink R_K 271 y_K_takeEndedChild : Cond) ∈ gG := tb_tables_1_3 (List.mem_of_getElem? (i := 0) rfl) rfl
theorem gm_553 : (.instanceMethod y_K_takeEndedChild : Cond) ∈ gG := tb_tables_1_3 (List.mem_of_getElem? (i := 2) rfl) rfl
theorem gm_554 : (.code y_K_takeEndedChild b_K_takeEndedChild 3 none : Cond) ∈ gG := tb_tables_1_3 (List.mem_of_getElem? (i := 3) rfl) rfl
theorem gm_555 : (.methodLink R_K 274 y_K_kill : Cond) ∈ gG := tb_tables_1_3 (List.mem_of_getElem? (i := 4) rfl) rfl
theorem gm_557 : (.instanceMethod y_K_kill : Cond) ∈ gG := tb_tables_1_3 (List.mem_of_getElem? (i := 6) rfl) rfl
theorem gm_558 : (.code y_K_kill b_K_kill 3 none : Cond) ∈ gG := tb_tables_1_3 (List.mem_of_getElem? (i := 7) rfl) rfl
theorem gm_559 : (.methodLink R_K 153 y_K_isThere : Cond) ∈ gG := tb_tables_1_3 (List.mem_of_getElem? (i := 8) rfl) rfl
theorem gm_561 : (.instanceMethod y_K_isThere : Cond) ∈ gG := tb_tables_1_3 (List.mem_of_getElem? (i := 10) rfl) rfl
theorem gm_562 : (.code y_K_isThere b_K_isThere 2 (some .boolean) : Cond) ∈ gG := tb_tables_1_3 (List.mem_of_getElem? (i := 11) rfl) rfl
theorem gm_563 : (.methodLink R_K 277 y_K_openPipe : Cond) ∈ gG := tb_tables_1_3 (List.mem_of_getElem? (i := 12) rfl) rfl
theorem gm_565 : (.instanceMethod y_K_openPipe : Cond) ∈ gG := tb_tables_1_3 (List.mem_of_getElem? (i := 14) rfl) rfl
theorem gm_566 : (.code y_K_openPipe b_K_openPipe 5 none : Cond) ∈ gG := tb_tables_1_3 (List.mem_of_getElem? (i := 15) rfl) rfl
theorem gm_567 : (.methodLink R_K 319 y_K_freePipe : Cond) ∈ gG := tb_tables_1_3 (List.mem_of_getElem? (i := 16) rfl) rfl
theorem gm_569 : (.instanceMethod y_K_freePipe : Cond) ∈ gG := tb_tables_1_3 (List.mem_of_getElem? (i := 18) rfl) rfl
theorem gm_570 : (.code y_K_freePipe b_K_freePipe 2 (some .int) : Cond) ∈ gG := tb_tables_1_3 (List.mem_of_getElem? (i := 19) rfl) rfl
theorem gm_571 : (.methodLink R_K 322 y_P_countClosed : Cond) ∈ gG := tb_tables_1_3 (List.mem_of_getElem? (i := 20) rfl) rfl
theorem gm_572 : (.instanceMethod y_P_countClosed : Cond) ∈ gG := tb_tables_1_3 (List.mem_of_getElem? (i := 21) rfl) rfl
theorem gm_573 : (.selects R_P y_P_countClosed y_P_countClosed : Cond) ∈ gG := tb_tables_1_3 (List.mem_of_getElem? (i := 22) rfl) rfl
theorem gm_574 : (.code y_P_countClosed b_P_countClosed 1 (some .int) : Cond) ∈ gG := tb_tables_1_3 (List.mem_of_getElem? (i := 23) rfl) rfl
theorem gm_575 : (.methodLink R_P 55 y_P_openDescriptors : Cond) ∈ gG := tb_tables_1_3 (List.mem_of_getElem? (i := 24) rfl) rfl
theorem gm_576 : (.instanceMethod y_P_openDescriptors : Cond) ∈ gG := tb_tables_1_3 (List.mem_of_getElem? (i := 25) rfl) rfl
theorem gm_577 : (.selects R_P y_P_openDescriptors y_P_openDescriptors : Cond) ∈ gG := tb_tables_1_3 (List.mem_of_getElem? (i := 26) rfl) rfl
theorem gm_578 : (.code y_P_openDescriptors b_P_openDescriptors 3 (some .int) : Cond) ∈ gG := tb_tables_1_3 (List.mem_of_getElem? (i := 27) rfl) rfl
theorem gm_579 : (.methodLink R_P 59 y_I_bitCount : Cond) ∈ gG := tb_tables_1_3 (List.mem_of_getElem? (i := 28) rfl) rfl
theorem gm_580 : (.static y_I_bitCount : Cond) ∈ gG := tb_tables_1_3 (List.mem_of_getElem? (i := 29) rfl) rfl
theorem gm_581 : (.code y_I_bitCount b_I_bitCount 1 (some .int) : Cond) ∈ gG := tb_tables_1_3 (List.mem_of_getElem? (i := 30) rfl) rfl
theorem gm_582 : (.constant R_I 265 (1431655765) : Cond) ∈ gG := tb_tables_1_3 (List.mem_of_getElem? (i := 31) rfl) rfl
theorem gm_583 : (.constant R_I 266 (858993459) : Cond) ∈ gG := tb_tables_1_3 (List.mem_of_getElem? (i := 32) rfl) rfl
theorem gm_584 : (.constant R_I 267 (252645135) : Cond) ∈ gG := tb_tables_1_3 (List.mem_of_getElem? (i := 33) rfl) rfl
theorem gm_585 : (.methodLink R_K 325 y_K_openDescriptor : Cond) ∈ gG := tb_tables_1_3 (List.mem_of_getElem? (i := 34) rfl) rfl
theorem gm_587 : (.instanceMethod y_K_openDescriptor : Cond) ∈ gG := tb_tables_1_3 (List.mem_of_getElem? (i := 36) rfl) rfl
theorem gm_588 : (.code y_K_openDescriptor b_K_openDescriptor 4 (some .int) : Cond) ∈ gG := tb_tables_1_3 (List.mem_of_getElem? (i := 37) rfl) rfl
theorem gm_589 : (.methodLink R_K 329 y_P_leastClosed : Cond) ∈ gG := tb_tables_1_3 (List.mem_of_getElem? (i := 38) rfl) rfl
theorem gm_590 : (.instanceMethod y_P_leastClosed : Cond) ∈ gG := tb_tables_1_3 (List.mem_of_getElem? (i := 39) rfl) rfl
theorem gm_591 : (.selects R_P y_P_leastClosed y_P_leastClosed : Cond) ∈ gG := tb_tables_1_3 (List.mem_of_getElem? (i := 40) rfl) rfl
theorem gm_592 : (.code y_P_leastClosed b_P_leastClosed 2 (some .int) : Cond) ∈ gG := tb_tables_1_3 (List.mem_of_getElem? (i := 41) rfl) rfl
theorem gm_593 : (.methodLink R_K 280 y_K_close : Cond) ∈ gG := tb_tables_1_3 (List.mem_of_getElem? (i := 42) rfl) rfl
theorem gm_595 : (.instanceMethod y_K_close : Cond) ∈ gG := tb_tables_1_3 (List.mem_of_getElem? (i := 44) rfl) rfl
theorem gm_596 : (.code y_K_close b_K_close 3 none : Cond) ∈ gG := tb_tables_1_3 (List.mem_of_getElem? (i := 45) rfl) rfl
theorem gm_597 : (.methodLink R_K 283 y_K_duplicate : Cond) ∈ gG := tb_tables_1_3 (List.mem_of_getElem? (i := 46) rfl) rfl
theorem gm_599 : (.instanceMethod y_K_duplicate : Cond) ∈ gG := tb_tables_1_3 (List.mem_of_getElem? (i := 48) rfl) rfl
theorem gm_600 : (.code y_K_duplicate b_K_duplicate 3 none : Cond) ∈ gG := tb_tables_1_3 (List.mem_of_getElem? (i := 49) rfl) rfl
theorem gm_601 : (.methodLink R_K 286 y_K_sleep : Cond) ∈ gG := tb_tables_1_3 (List.mem_of_getElem? (i := 50) rfl) rfl
theorem gm_603 : (.instanceMethod y_K_sleep : Cond) ∈ gG := tb_tables_1_3 (List.mem_of_getElem? (i := 52) rfl) rfl
theorem gm_604 : (.code y_K_sleep b_K_sleep 3 none : Cond) ∈ gG := tb_tables_1_3 (List.mem_of_getElem? (i := 53) rfl) rfl
theorem gm_605 : (.constant R_K 338 (2147483647) : Cond) ∈ gG := tb_tables_1_3 (List.mem_of_getElem? (i := 54) rfl) rfl
theorem gm_606 : (.methodLink R_K 289 y_P_compute : Cond) ∈ gG := tb_tables_1_3 (List.mem_of_getElem? (i := 55) rfl) rfl
theorem gm_607 : (.instanceMethod y_P_compute : Cond) ∈ gG := tb_tables_1_3 (List.mem_of_getElem? (i := 56) rfl) rfl
theorem gm_608 : (.selects R_P y_P_compute y_P_compute : Cond) ∈ gG := tb_tables_1_3 (List.mem_of_getElem? (i := 57) rfl) rfl
theorem gm_609 : (.code y_P_compute b_P_compute 3 none : Cond) ∈ gG := tb_tables_1_3 (List.mem_of_getElem? (i := 58) rfl) rfl
theorem gm_610 : (.methodLink R_P 88 y_P_pop : Cond) ∈ gG := tb_tables_1_3 (List.mem_of_getElem? (i := 59) rfl) rfl
theorem gm_611 : (.methodLink R_P 91 y_P_swap : Cond) ∈ gG := tb_tables_1_3 (List.mem_of_getElem? (i := 60) rfl) rfl
theorem gm_612 : (.instanceMethod y_P_swap : Cond) ∈ gG := tb_tables_1_3 (List.mem_of_getElem? (i := 61) rfl) rfl
theorem gm_613 : (.selects R_P y_P_swap y_P_swap : Cond) ∈ gG := tb_tables_1_3 (List.mem_of_getElem? (i := 62) rfl) rfl
theorem gm_614 : (.code y_P_swap b_P_swap 3 none : Cond) ∈ gG := tb_tables_1_3 (List.mem_of_getElem? (i := 63) rfl) rfl
theorem gm_615 : (.methodLink R_P 100 y_P_pushTwo : Cond) ∈ gG := tb_tables_1_3 (List.mem_of_getElem? (i := 64) rfl) rfl
theorem gm_616 : (.methodLink R_P 94 y_P_storeAt : Cond) ∈ gG := tb_tables_1_3 (List.mem_of_getElem? (i := 65) rfl) rfl
theorem gm_617 : (.instanceMethod y_P_storeAt : Cond) ∈ gG := tb_tables_1_3 (List.mem_of_getElem? (i := 66) rfl) rfl
theorem gm_618 : (.selects R_P y_P_storeAt y_P_storeAt : Cond) ∈ gG := tb_tables_1_3 (List.mem_of_getElem? (i := 67) rfl) rfl
theorem gm_619 : (.code y_P_storeAt b_P_storeAt 2 none : Cond) ∈ gG := tb_tables_1_3 (List.mem_of_getElem? (i := 68) rfl) rfl
theorem gm_620 : (.methodLink R_P 97 y_P_combine : Cond) ∈ gG := tb_tables_1_3 (List.mem_of_getElem? (i := 69) rfl) rfl
theorem gm_621 : (.instanceMethod y_P_combine : Cond) ∈ gG := tb_tables_1_3 (List.mem_of_getElem? (i := 70) rfl) rfl
theorem gm_622 : (.selects R_P y_P_combine y_P_combine : Cond) ∈ gG := tb_tables_1_3 (List.mem_of_getElem? (i := 71) rfl) rfl
theorem gm_623 : (.code y_P_combine b_P_combine 4 none : Cond) ∈ gG := tb_tables_1_3 (List.mem_of_getElem? (i := 72) rfl) rfl
theorem gm_624 : (.methodLink R_P 104 y_P_result : Cond) ∈ gG := tb_tables_1_3 (List.mem_of_getElem? (i := 73) rfl) rfl
theorem gm_625 : (.static y_P_result : Cond) ∈ gG := tb_tables_1_3 (List.mem_of_getElem? (i := 74) rfl) rfl
theorem gm_626 : (.code y_P_result b_P_result 3 (some .int) : Cond) ∈ gG := tb_tables_1_3 (List.mem_of_getElem? (i := 75) rfl) rfl
theorem gm_652 : (.methodLink R_K 149 y_P_openDescriptors : Cond) ∈ gG := tb_tables_1_3 (List.mem_of_getElem? (i := 101) rfl) rfl
theorem gm_693 : (.methodLink R_K 170 y_K_countWaiting : Cond) ∈ gG := tb_tables_1_3 (List.mem_of_getElem? (i := 142) rfl) rfl
theorem gm_695 : (.instanceMethod y_K_countWaiting : Cond) ∈ gG := tb_tables_1_3 (List.mem_of_getElem? (i := 144) rfl) rfl
theorem gm_696 : (.code y_K_countWaiting b_K_countWaiting 4 (some .int) : Cond) ∈ gG := tb_tables_1_3 (List.mem_of_getElem? (i := 145) rfl) rfl
theorem gm_706 : (.methodLink R_K 178 y_W_at : Cond) ∈ gG := tb_tables_1_3 (List.mem_of_getElem? (i := 155) rfl) rfl
theorem gm_707 : (.instanceMethod y_W_at : Cond) ∈ gG := tb_tables_1_3 (List.mem_of_getElem? (i := 156) rfl) rfl
theorem gm_708 : (.selects R_W y_W_at y_W_at : Cond) ∈ gG := tb_tables_1_3 (List.mem_of_getElem? (i := 157) rfl) rfl
theorem gm_709 : (.code y_W_at b_W_at 2 (some .int) : Cond) ∈ gG := tb_tables_1_3 (List.mem_of_getElem? (i := 158) rfl) rfl
theorem gm_716 : (.fieldLink R_M 68 R_M "code" "I" : Cond) ∈ gG := tb_tables_1_3 (List.mem_of_getElem? (i := 165) rfl) rfl
theorem gm_717 : (.fieldLink R_M 61 R_M "quantum" "I" : Cond) ∈ gG := tb_tables_1_3 (List.mem_of_getElem? (i := 166) rfl) rfl
theorem gm_718 : (.fieldLink R_M 65 R_M "capacity" "I" : Cond) ∈ gG := tb_tables_1_3 (List.mem_of_getElem? (i := 167) rfl) rfl
theorem gm_719 : (.fieldLink R_M 71 R_M "booted" "Z" : Cond) ∈ gG := tb_tables_1_3 (List.mem_of_getElem? (i := 168) rfl) rfl
theorem gm_720 : (.fieldLink R_M 187 R_M "time" "I" : Cond) ∈ gG := tb_tables_1_3 (List.mem_of_getElem? (i := 169) rfl) rfl
theorem gm_721 : (.fieldLink R_M 7 R_M "image" "[I" : Cond) ∈ gG := tb_tables_1_3 (List.mem_of_getElem? (i := 170) rfl) rfl
theorem gm_722 : (.fieldLink R_M 13 R_M "state" "[I" : Cond) ∈ gG := tb_tables_1_3 (List.mem_of_getElem? (i := 171) rfl) rfl
theorem gm_723 : (.fieldLink R_M 16 R_M "memory" "[I" : Cond) ∈ gG := tb_tables_1_3 (List.mem_of_getElem? (i := 172) rfl) rfl
theorem gm_724 : (.fieldLink R_M 19 R_M "stack" "[I" : Cond) ∈ gG := tb_tables_1_3 (List.mem_of_getElem? (i := 173) rfl) rfl
theorem gm_725 : (.fieldLink R_M 22 R_M "size" "[I" : Cond) ∈ gG := tb_tables_1_3 (List.mem_of_getElem? (i := 174) rfl) rfl
theorem gm_726 : (.fieldLink R_M 25 R_M "place" "[I" : Cond) ∈ gG := tb_tables_1_3 (List.mem_of_getElem? (i := 175) rfl) rfl
theorem gm_727 : (.fieldLink R_M 28 R_M "descriptors" "[I" : Cond) ∈ gG := tb_tables_1_3 (List.mem_of_getElem? (i := 176) rfl) rfl
theorem gm_728 : (.fieldLink R_M 31 R_M "parent" "[I" : Cond) ∈ gG := tb_tables_1_3 (List.mem_of_getElem? (i := 177) rfl) rfl
theorem gm_729 : (.fieldLink R_M 34 R_M "codes" "[I" : Cond) ∈ gG := tb_tables_1_3 (List.mem_of_getElem? (i := 178) rfl) rfl
theorem gm_730 : (.fieldLink R_M 37 R_M "until" "[I" : Cond) ∈ gG := tb_tables_1_3 (List.mem_of_getElem? (i := 179) rfl) rfl
theorem gm_731 : (.fieldLink R_M 40 R_M "queue" "[I" : Cond) ∈ gG := tb_tables_1_3 (List.mem_of_getElem? (i := 180) rfl) rfl
theorem gm_732 : (.fieldLink R_M 79 R_M "queued" "I" : Cond) ∈ gG := tb_tables_1_3 (List.mem_of_getElem? (i := 181) rfl) rfl
theorem gm_733 : (.fieldLink R_M 82 R_M "done" "I" : Cond) ∈ gG := tb_tables_1_3 (List.mem_of_getElem? (i := 182) rfl) rfl
theorem gm_734 : (.fieldLink R_M 88 R_M "moved" "Z" : Cond) ∈ gG := tb_tables_1_3 (List.mem_of_getElem? (i := 183) rfl) rfl
theorem gm_735 : (.fieldLink R_M 43 R_M "waiting" "[I" : Cond) ∈ gG := tb_tables_1_3 (List.mem_of_getElem? (i := 184) rfl) rfl
theorem gm_736 : (.fieldLink R_M 46 R_M "waits" "[I" : Cond) ∈ gG := tb_tables_1_3 (List.mem_of_getElem? (i := 185) rfl) rfl
theorem gm_737 : (.fieldLink R_M 49 R_M "words" "[I" : Cond) ∈ gG := tb_tables_1_3 (List.mem_of_getElem? (i := 186) rfl) rfl
theorem gm_738 : (.fieldLink R_M 52 R_M "filled" "[I" : Cond) ∈ gG := tb_tables_1_3 (List.mem_of_getElem? (i := 187) rfl) rfl
theorem gm_739 : (.fieldLink R_M 55 R_M "input" "[I" : Cond) ∈ gG := tb_tables_1_3 (List.mem_of_getElem? (i := 188) rfl) rfl
theorem gm_740 : (.fieldLink R_M 119 R_M "inputs" "I" : Cond) ∈ gG := tb_tables_1_3 (List.mem_of_getElem? (i := 189) rfl) rfl
theorem gm_741 : (.fieldLink R_M 122 R_M "isShut" "Z" : Cond) ∈ gG := tb_tables_1_3 (List.mem_of_getElem? (i := 190) rfl) rfl
theorem gm_742 : (.fieldLink R_M 58 R_M "output" "[I" : Cond) ∈ gG := tb_tables_1_3 (List.mem_of_getElem? (i := 191) rfl) rfl
theorem gm_743 : (.fieldLink R_M 190 R_M "outputs" "I" : Cond) ∈ gG := tb_tables_1_3 (List.mem_of_getElem? (i := 192) rfl) rfl
theorem gm_813 : (.methodLink R_M 75 y_M_ready : Cond) ∈ gG := tb_tables_1_4 (List.mem_of_getElem? (i := 22) rfl) rfl
theorem gm_815 : (.instanceMethod y_M_ready : Cond) ∈ gG := tb_tables_1_4 (List.mem_of_getElem? (i := 24) rfl) rfl
theorem gm_816 : (.code y_M_ready b_M_ready 2 none : Cond) ∈ gG := tb_tables_1_4 (List.mem_of_getElem? (i := 25) rfl) rfl
theorem gm_821 : (.methodLink R_M 208 y_M_goesOn : Cond) ∈ gG := tb_tables_1_4 (List.mem_of_getElem? (i := 30) rfl) rfl
theorem gm_823 : (.instanceMethod y_M_goesOn : Cond) ∈ gG := tb_tables_1_4 (List.mem_of_getElem? (i := 32) rfl) rfl
theorem gm_824 : (.code y_M_goesOn b_M_goesOn 3 (some .boolean) : Cond) ∈ gG := tb_tables_1_4 (List.mem_of_getElem? (i := 33) rfl) rfl
theorem gm_825 : (.methodLink R_M 212 y_M_step : Cond) ∈ gG := tb_tables_1_4 (List.mem_of_getElem? (i := 34) rfl) rfl
theorem gm_827 : (.instanceMethod y_M_step : Cond) ∈ gG := tb_tables_1_4 (List.mem_of_getElem? (i := 36) rfl) rfl
theorem gm_828 : (.code y_M_step b_M_step 2 none : Cond) ∈ gG := tb_tables_1_4 (List.mem_of_getElem? (i := 37) rfl) rfl
theorem gm_829 : (.methodLink R_M 202 y_M_wakeSleepers : Cond) ∈ gG := tb_tables_1_4 (List.mem_of_getElem? (i := 38) rfl) rfl
theorem gm_831 : (.instanceMethod y_M_wakeSleepers : Cond) ∈ gG := tb_tables_1_4 (List.mem_of_getElem? (i := 40) rfl) rfl
theorem gm_832 : (.code y_M_wakeSleepers b_M_wakeSleepers 4 none : Cond) ∈ gG := tb_tables_1_4 (List.mem_of_getElem? (i := 41) rfl) rfl
theorem gm_833 : (.methodLink R_M 205 y_M_instruct : Cond) ∈ gG := tb_tables_1_4 (List.mem_of_getElem? (i := 42) rfl) rfl
theorem gm_835 : (.instanceMethod y_M_instruct : Cond) ∈ gG := tb_tables_1_4 (List.mem_of_getElem? (i := 44) rfl) rfl
theorem gm_836 : (.code y_M_instruct b_M_instruct 9 none : Cond) ∈ gG := tb_tables_1_4 (List.mem_of_getElem? (i := 45) rfl) rfl
theorem gm_837 : (.methodLink R_M 137 y_M_faultOf : Cond) ∈ gG := tb_tables_1_4 (List.mem_of_getElem? (i := 46) rfl) rfl
theorem gm_839 : (.instanceMethod y_M_faultOf : Cond) ∈ gG := tb_tables_1_4 (List.mem_of_getElem? (i := 48) rfl) rfl
theorem gm_840 : (.code y_M_faultOf b_M_faultOf 7 (some .int) : Cond) ∈ gG := tb_tables_1_4 (List.mem_of_getElem? (i := 49) rfl) rfl
theorem gm_841 : (.methodLink R_M 125 y_M_isWord : Cond) ∈ gG := tb_tables_1_4 (List.mem_of_getElem? (i := 50) rfl) rfl
theorem gm_842 : (.static y_M_isWord : Cond) ∈ gG := tb_tables_1_4 (List.mem_of_getElem? (i := 51) rfl) rfl
theorem gm_843 : (.code y_M_isWord b_M_isWord 1 (some .boolean) : Cond) ∈ gG := tb_tables_1_4 (List.mem_of_getElem? (i := 52) rfl) rfl
theorem gm_844 : (.methodLink R_M 128 y_M_looks : Cond) ∈ gG := tb_tables_1_4 (List.mem_of_getElem? (i := 53) rfl) rfl
theorem gm_845 : (.static y_M_looks : Cond) ∈ gG := tb_tables_1_4 (List.mem_of_getElem? (i := 54) rfl) rfl
theorem gm_846 : (.code y_M_looks b_M_looks 1 (some .int) : Cond) ∈ gG := tb_tables_1_4 (List.mem_of_getElem? (i := 55) rfl) rfl
theorem gm_847 : (.methodLink R_M 112 y_M_top : Cond) ∈ gG := tb_tables_1_4 (List.mem_of_getElem? (i := 56) rfl) rfl
theorem gm_849 : (.instanceMethod y_M_top : Cond) ∈ gG := tb_tables_1_4 (List.mem_of_getElem? (i := 58) rfl) rfl
theorem gm_850 : (.code y_M_top b_M_top 3 (some .int) : Cond) ∈ gG := tb_tables_1_4 (List.mem_of_getElem? (i := 59) rfl) rfl
theorem gm_851 : (.methodLink R_M 131 y_M_pushes : Cond) ∈ gG := tb_tables_1_4 (List.mem_of_getElem? (i := 60) rfl) rfl
theorem gm_852 : (.static y_M_pushes : Cond) ∈ gG := tb_tables_1_4 (List.mem_of_getElem? (i := 61) rfl) rfl
theorem gm_853 : (.code y_M_pushes b_M_pushes 2 (some .int) : Cond) ∈ gG := tb_tables_1_4 (List.mem_of_getElem? (i := 62) rfl) rfl
theorem gm_854 : (.methodLink R_M 134 y_M_rowFor : Cond) ∈ gG := tb_tables_1_4 (List.mem_of_getElem? (i := 63) rfl) rfl
theorem gm_856 : (.instanceMethod y_M_rowFor : Cond) ∈ gG := tb_tables_1_4 (List.mem_of_getElem? (i := 65) rfl) rfl
theorem gm_857 : (.code y_M_rowFor b_M_rowFor 6 (some .int) : Cond) ∈ gG := tb_tables_1_4 (List.mem_of_getElem? (i := 66) rfl) rfl
theorem gm_858 : (.methodLink R_M 116 y_M_descriptorOf : Cond) ∈ gG := tb_tables_1_4 (List.mem_of_getElem? (i := 67) rfl) rfl
theorem gm_860 : (.instanceMethod y_M_descriptorOf : Cond) ∈ gG := tb_tables_1_4 (List.mem_of_getElem? (i := 69) rfl) rfl
theorem gm_861 : (.code y_M_descriptorOf b_M_descriptorOf 3 (some .int) : Cond) ∈ gG := tb_tables_1_4 (List.mem_of_getElem? (i := 70) rfl) rfl
theorem gm_862 : (.methodLink R_M 98 y_M_many : Cond) ∈ gG := tb_tables_1_4 (List.mem_of_getElem? (i := 71) rfl) rfl
theorem gm_864 : (.instanceMethod y_M_many : Cond) ∈ gG := tb_tables_1_4 (List.mem_of_getElem? (i := 73) rfl) rfl
theorem gm_865 : (.code y_M_many b_M_many 4 (some .int) : Cond) ∈ gG := tb_tables_1_4 (List.mem_of_getElem? (i := 74) rfl) rfl
theorem gm_866 : (.methodLink R_M 140 y_M_end : Cond) ∈ gG := tb_tables_1_4 (List.mem_of_getElem? (i := 75) rfl) rfl
theorem gm_868 : (.instanceMethod y_M_end : Cond) ∈ gG := tb_tables_1_4 (List.mem_of_getElem? (i := 77) rfl) rfl
theorem gm_869 : (.code y_M_end b_M_end 6 none : Cond) ∈ gG := tb_tables_1_4 (List.mem_of_getElem? (i := 78) rfl) rfl
theorem gm_870 : (.methodLink R_M 85 y_M_leaveQueue : Cond) ∈ gG := tb_tables_1_4 (List.mem_of_getElem? (i := 79) rfl) rfl
theorem gm_872 : (.instanceMethod y_M_leaveQueue : Cond) ∈ gG := tb_tables_1_4 (List.mem_of_getElem? (i := 81) rfl) rfl
theorem gm_873 : (.code y_M_leaveQueue b_M_leaveQueue 5 none : Cond) ∈ gG := tb_tables_1_4 (List.mem_of_getElem? (i := 82) rfl) rfl
theorem gm_874 : (.methodLink R_M 91 y_M_leaveRow : Cond) ∈ gG := tb_tables_1_4 (List.mem_of_getElem? (i := 83) rfl) rfl
theorem gm_876 : (.instanceMethod y_M_leaveRow : Cond) ∈ gG := tb_tables_1_4 (List.mem_of_getElem? (i := 85) rfl) rfl
theorem gm_877 : (.code y_M_leaveRow b_M_leaveRow 5 none : Cond) ∈ gG := tb_tables_1_4 (List.mem_of_getElem? (i := 86) rfl) rfl
theorem gm_878 : (.methodLink R_M 109 y_M_shutEnd : Cond) ∈ gG := tb_tables_1_4 (List.mem_of_getElem? (i := 87) rfl) rfl
theorem gm_880 : (.instanceMethod y_M_shutEnd : Cond) ∈ gG := tb_tables_1_4 (List.mem_of_getElem? (i := 89) rfl) rfl
theorem gm_881 : (.code y_M_shutEnd b_M_shutEnd 5 none : Cond) ∈ gG := tb_tables_1_4 (List.mem_of_getElem? (i := 90) rfl) rfl
theorem gm_882 : (.methodLink R_M 102 y_M_wakeAll : Cond) ∈ gG := tb_tables_1_4 (List.mem_of_getElem? (i := 91) rfl) rfl
theorem gm_884 : (.instanceMethod y_M_wakeAll : Cond) ∈ gG := tb_tables_1_4 (List.mem_of_getElem? (i := 93) rfl) rfl
theorem gm_885 : (.code y_M_wakeAll b_M_wakeAll 2 none : Cond) ∈ gG := tb_tables_1_4 (List.mem_of_getElem? (i := 94) rfl) rfl
theorem gm_886 : (.methodLink R_M 95 y_M_wakeFirst : Cond) ∈ gG := tb_tables_1_4 (List.mem_of_getElem? (i := 95) rfl) rfl
theorem gm_888 : (.instanceMethod y_M_wakeFirst : Cond) ∈ gG := tb_tables_1_4 (List.mem_of_getElem? (i := 97) rfl) rfl
theorem gm_889 : (.code y_M_wakeFirst b_M_wakeFirst 3 none : Cond) ∈ gG := tb_tables_1_4 (List.mem_of_getElem? (i := 98) rfl) rfl
theorem gm_890 : (.methodLink R_M 105 y_M_isPipe : Cond) ∈ gG := tb_tables_1_4 (List.mem_of_getElem? (i := 99) rfl) rfl
theorem gm_892 : (.instanceMethod y_M_isPipe : Cond) ∈ gG := tb_tables_1_4 (List.mem_of_getElem? (i := 101) rfl) rfl
theorem gm_893 : (.code y_M_isPipe b_M_isPipe 2 (some .boolean) : Cond) ∈ gG := tb_tables_1_4 (List.mem_of_getElem? (i := 102) rfl) rfl
theorem gm_894 : (.methodLink R_M 143 y_M_stand : Cond) ∈ gG := tb_tables_1_4 (List.mem_of_getElem? (i := 103) rfl) rfl
theorem gm_896 : (.instanceMethod y_M_stand : Cond) ∈ gG := tb_tables_1_4 (List.mem_of_getElem? (i := 105) rfl) rfl
theorem gm_897 : (.code y_M_stand b_M_stand 4 none : Cond) ∈ gG := tb_tables_1_4 (List.mem_of_getElem? (i := 106) rfl) rfl
theorem gm_898 : (.methodLink R_M 147 y_M_plain : Cond) ∈ gG := tb_tables_1_4 (List.mem_of_getElem? (i := 107) rfl) rfl
theorem gm_900 : (.instanceMethod y_M_plain : Cond) ∈ gG := tb_tables_1_4 (List.mem_of_getElem? (i := 109) rfl) rfl
theorem gm_901 : (.code y_M_plain b_M_plain 7 none : Cond) ∈ gG := tb_tables_1_4 (List.mem_of_getElem? (i := 110) rfl) rfl
theorem gm_902 : (.methodLink R_M 155 y_M_push : Cond) ∈ gG := tb_tables_1_4 (List.mem_of_getElem? (i := 111) rfl) rfl
theorem gm_904 : (.instanceMethod y_M_push : Cond) ∈ gG := tb_tables_1_4 (List.mem_of_getElem? (i := 113) rfl) rfl
theorem gm_905 : (.code y_M_push b_M_push 3 none : Cond) ∈ gG := tb_tables_1_4 (List.mem_of_getElem? (i := 114) rfl) rfl
theorem gm_906 : (.methodLink R_M 158 y_M_reckon : Cond) ∈ gG := tb_tables_1_4 (List.mem_of_getElem? (i := 115) rfl) rfl
theorem gm_907 : (.static y_M_reckon : Cond) ∈ gG := tb_tables_1_4 (List.mem_of_getElem? (i := 116) rfl) rfl
theorem gm_908 : (.code y_M_reckon b_M_reckon 3 (some .int) : Cond) ∈ gG := tb_tables_1_4 (List.mem_of_getElem? (i := 117) rfl) rfl
theorem gm_909 : (.methodLink R_M 151 y_M_call : Cond) ∈ gG := tb_tables_1_4 (List.mem_of_getElem? (i := 118) rfl) rfl
theorem gm_911 : (.instanceMethod y_M_call : Cond) ∈ gG := tb_tables_1_4 (List.mem_of_getElem? (i := 120) rfl) rfl
theorem gm_912 : (.code y_M_call b_M_call 5 none : Cond) ∈ gG := tb_tables_1_4 (List.mem_of_getElem? (i := 121) rfl) rfl
theorem gm_913 : (.methodLink R_M 162 y_M_toEnd : Cond) ∈ gG := tb_tables_1_4 (List.mem_of_getElem? (i := 122) rfl) rfl
theorem gm_915 : (.instanceMethod y_M_toEnd : Cond) ∈ gG := tb_tables_1_4 (List.mem_of_getElem? (i := 124) rfl) rfl
theorem gm_916 : (.code y_M_toEnd b_M_toEnd 2 none : Cond) ∈ gG := tb_tables_1_4 (List.mem_of_getElem? (i := 125) rfl) rfl
theorem gm_917 : (.methodLink R_M 165 y_M_write : Cond) ∈ gG := tb_tables_1_4 (List.mem_of_getElem? (i := 126) rfl) rfl
theorem gm_919 : (.instanceMethod y_M_write : Cond) ∈ gG := tb_tables_1_4 (List.mem_of_getElem? (i := 128) rfl) rfl
theorem gm_920 : (.code y_M_write b_M_write 6 none : Cond) ∈ gG := tb_tables_1_4 (List.mem_of_getElem? (i := 129) rfl) rfl
theorem gm_921 : (.methodLink R_M 193 y_M_intoPipe : Cond) ∈ gG := tb_tables_1_4 (List.mem_of_getElem? (i := 130) rfl) rfl
theorem gm_923 : (.instanceMethod y_M_intoPipe : Cond) ∈ gG := tb_tables_1_4 (List.mem_of_getElem? (i := 132) rfl) rfl
theorem gm_924 : (.code y_M_intoPipe b_M_intoPipe 3 none : Cond) ∈ gG := tb_tables_1_4 (List.mem_of_getElem? (i := 133) rfl) rfl
theorem gm_925 : (.methodLink R_M 168 y_M_read : Cond) ∈ gG := tb_tables_1_4 (List.mem_of_getElem? (i := 134) rfl) rfl
theorem gm_927 : (.instanceMethod y_M_read : Cond) ∈ gG := tb_tables_1_4 (List.mem_of_getElem? (i := 136) rfl) rfl
theorem gm_928 : (.code y_M_read b_M_read 5 none : Cond) ∈ gG := tb_tables_1_4 (List.mem_of_getElem? (i := 137) rfl) rfl
theorem gm_929 : (.methodLink R_M 196 y_M_outOfPipe : Cond) ∈ gG := tb_tables_1_4 (List.mem_of_getElem? (i := 138) rfl) rfl
theorem gm_931 : (.instanceMethod y_M_outOfPipe : Cond) ∈ gG := tb_tables_1_4 (List.mem_of_getElem? (i := 140) rfl) rfl
theorem gm_932 : (.code y_M_outOfPipe b_M_outOfPipe 4 (some .int) : Cond) ∈ gG := tb_tables_1_4 (List.mem_of_getElem? (i := 141) rfl) rfl
theorem gm_933 : (.methodLink R_M 171 y_M_fork : Cond) ∈ gG := tb_tables_1_4 (List.mem_of_getElem? (i := 142) rfl) rfl
theorem gm_935 : (.instanceMethod y_M_fork : Cond) ∈ gG := tb_tables_1_4 (List.mem_of_getElem? (i := 144) rfl) rfl
theorem gm_936 : (.code y_M_fork b_M_fork 4 none : Cond) ∈ gG := tb_tables_1_4 (List.mem_of_getElem? (i := 145) rfl) rfl
theorem gm_937 : (.methodLink R_M 174 y_M_await : Cond) ∈ gG := tb_tables_1_4 (List.mem_of_getElem? (i := 146) rfl) rfl
theorem gm_939 : (.instanceMethod y_M_await : Cond) ∈ gG := tb_tables_1_4 (List.mem_of_getElem? (i := 148) rfl) rfl
theorem gm_940 : (.code y_M_await b_M_await 3 none : Cond) ∈ gG := tb_tables_1_4 (List.mem_of_getElem? (i := 149) rfl) rfl
theorem gm_941 : (.methodLink R_M 177 y_M_kill : Cond) ∈ gG := tb_tables_1_4 (List.mem_of_getElem? (i := 150) rfl) rfl
theorem gm_943 : (.instanceMethod y_M_kill : Cond) ∈ gG := tb_tables_1_4 (List.mem_of_getElem? (i := 152) rfl) rfl
theorem gm_944 : (.code y_M_kill b_M_kill 4 none : Cond) ∈ gG := tb_tables_1_4 (List.mem_of_getElem? (i := 153) rfl) rfl
theorem gm_945 : (.methodLink R_M 180 y_M_makePipe : Cond) ∈ gG := tb_tables_1_4 (List.mem_of_getElem? (i := 154) rfl) rfl
theorem gm_947 : (.instanceMethod y_M_makePipe : Cond) ∈ gG := tb_tables_1_4 (List.mem_of_getElem? (i := 156) rfl) rfl
theorem gm_948 : (.code y_M_makePipe b_M_makePipe 5 none : Cond) ∈ gG := tb_tables_1_4 (List.mem_of_getElem? (i := 157) rfl) rfl
theorem gm_949 : (.methodLink R_M 199 y_M_freeDescriptor : Cond) ∈ gG := tb_tables_1_4 (List.mem_of_getElem? (i := 158) rfl) rfl
theorem gm_951 : (.instanceMethod y_M_freeDescriptor : Cond) ∈ gG := tb_tables_1_4 (List.mem_of_getElem? (i := 160) rfl) rfl
theorem gm_952 : (.code y_M_freeDescriptor b_M_freeDescriptor 4 (some .int) : Cond) ∈ gG := tb_tables_1_4 (List.mem_of_getElem? (i := 161) rfl) rfl
theorem gm_953 : (.methodLink R_M 183 y_M_dup : Cond) ∈ gG := tb_tables_1_4 (List.mem_of_getElem? (i := 162) rfl) rfl
theorem gm_955 : (.instanceMethod y_M_dup : Cond) ∈ gG := tb_tables_1_4 (List.mem_of_getElem? (i := 164) rfl) rfl
theorem gm_956 : (.code y_M_dup b_M_dup 4 none : Cond) ∈ gG := tb_tables_1_4 (List.mem_of_getElem? (i := 165) rfl) rfl
theorem gm_957 : (.constant R_M 186 (2147483647) : Cond) ∈ gG := tb_tables_1_4 (List.mem_of_getElem? (i := 166) rfl) rfl
theorem gm_974 : (.methodLink R_M 215 y_M_noProcess : Cond) ∈ gG := tb_tables_1_4 (List.mem_of_getElem? (i := 183) rfl) rfl
theorem gm_976 : (.instanceMethod y_M_noProcess : Cond) ∈ gG := tb_tables_1_4 (List.mem_of_getElem? (i := 185) rfl) rfl
theorem gm_977 : (.code y_M_noProcess b_M_noProcess 2 (some .boolean) : Cond) ∈ gG := tb_tables_1_4 (List.mem_of_getElem? (i := 186) rfl) rfl
theorem gm_986 : (.methodLink R_M 218 y_M_notThere : Cond) ∈ gG := tb_tables_1_4 (List.mem_of_getElem? (i := 195) rfl) rfl
theorem gm_988 : (.instanceMethod y_M_notThere : Cond) ∈ gG := tb_tables_1_4 (List.mem_of_getElem? (i := 197) rfl) rfl
theorem gm_989 : (.code y_M_notThere b_M_notThere 2 (some .boolean) : Cond) ∈ gG := tb_tables_1_4 (List.mem_of_getElem? (i := 198) rfl) rfl

theorem gm_74 : (.initialized "java/lang/Math" : Cond) ∈ gG := tb_tables_1_1 (List.mem_of_getElem? (i := 3) rfl) rfl
theorem gm_90 : (.methodLink R_K 3 objectInit : Cond) ∈ gG := tb_tables_1_1 (List.mem_of_getElem? (i := 19) rfl) rfl
theorem gm_93 : (.classLink R_K 9 R_P : Cond) ∈ gG := tb_tables_1_1 (List.mem_of_getElem? (i := 22) rfl) rfl
theorem gm_95 : (.classLink R_K 15 R_W : Cond) ∈ gG := tb_tables_1_1 (List.mem_of_getElem? (i := 24) rfl) rfl
theorem gm_97 : (.instantiable R_W 3 : Cond) ∈ gG := tb_tables_1_1 (List.mem_of_getElem? (i := 26) rfl) rfl
theorem gm_98 : (.methodLink R_K 45 y_W_init : Cond) ∈ gG := tb_tables_1_1 (List.mem_of_getElem? (i := 27) rfl) rfl
theorem gm_99 : (.instanceMethod y_W_init : Cond) ∈ gG := tb_tables_1_1 (List.mem_of_getElem? (i := 28) rfl) rfl
theorem gm_100 : (.code y_W_init b_W_init 2 none : Cond) ∈ gG := tb_tables_1_1 (List.mem_of_getElem? (i := 29) rfl) rfl
theorem gm_114 : (.methodLink R_K 61 Lib.Math.min.name : Cond) ∈ gG := tb_tables_1_1 (List.mem_of_getElem? (i := 43) rfl) rfl
theorem gm_115 : (.static Lib.Math.min.name : Cond) ∈ gG := tb_tables_1_1 (List.mem_of_getElem? (i := 44) rfl) rfl
theorem gm_116 : (.code Lib.Math.min.name Lib.Math.min.code 2 (some .int) : Cond) ∈ gG := tb_tables_1_1 (List.mem_of_getElem? (i := 45) rfl) rfl
theorem gm_117 : (.methodLink R_K 67 Lib.Math.max.name : Cond) ∈ gG := tb_tables_1_1 (List.mem_of_getElem? (i := 46) rfl) rfl
theorem gm_118 : (.static Lib.Math.max.name : Cond) ∈ gG := tb_tables_1_1 (List.mem_of_getElem? (i := 47) rfl) rfl
theorem gm_119 : (.code Lib.Math.max.name Lib.Math.max.code 2 (some .int) : Cond) ∈ gG := tb_tables_1_1 (List.mem_of_getElem? (i := 48) rfl) rfl
theorem gm_120 : (.instantiable R_P 12 : Cond) ∈ gG := tb_tables_1_1 (List.mem_of_getElem? (i := 49) rfl) rfl
theorem gm_121 : (.methodLink R_K 73 y_P_init : Cond) ∈ gG := tb_tables_1_1 (List.mem_of_getElem? (i := 50) rfl) rfl
theorem gm_122 : (.instanceMethod y_P_init : Cond) ∈ gG := tb_tables_1_1 (List.mem_of_getElem? (i := 51) rfl) rfl
theorem gm_123 : (.code y_P_init b_P_init 2 none : Cond) ∈ gG := tb_tables_1_1 (List.mem_of_getElem? (i := 52) rfl) rfl
def iL0 (E : gE) (g : Nat → Nat → Nat) (qv : Int32) (f9 f10 : Nat → Option Nat) : va_W := [(g 0 0, .inr (2, [.int qv, .ref (g 9 0), .ref (g 10 0), .ref (g 7 0), .ref (g 8 0), .int 0, .int 0, .int 0, .int 0, .int 0, .ref (g 5 8), .int 0, .ref (g 5 9), .int 0])), (g 9 0, .inl (eC E 1, 16, .inr (.inr (.inr (.inr f9))))), (g 10 0, .inl (eC E 2, 8, .inr (.inr (.inr (.inr f10))))), (g 7 0, .inl (eC E 0, 28, .inl (fun _ => 0))), (g 8 0, .inl (eC E 0, 16, .inl (fun _ => 0))), (g 5 8, .inr (1, [.ref (g 6 8), .int 0, .int 0])), (g 6 8, .inl (eC E 0, 100, .inl (fun _ => 0))), (g 5 9, .inr (1, [.ref (g 6 9), .int 0, .int 0])), (g 6 9, .inl (eC E 0, 500, .inl (fun _ => 0)))]
def pB1 (E : gE) (g : Nat → Nat → Nat) (j : Nat) : va_W := [(g 1 j, .inr (0, [.int (nI j), .ref (g 2 j), .ref (g 3 j), .ref (g 4 j), .int 0, .int 0, .int (-1), .int 0, .int 0, .int 0, .int (-1), .int 0])), (g 2 j, .inl (eC E 0, 128, .inl (fun _ => 0))), (g 3 j, .inl (eC E 0, 32, .inl (fun _ => 0))), (g 4 j, .inl (eC E 0, 8, .inl (fun _ => 0)))]
def pB (E : gE) (g : Nat → Nat → Nat) (i : Nat) : va_W := (List.range i).flatMap (pB1 E g)
def wB1 (E : gE) (g : Nat → Nat → Nat) (N j : Nat) : va_W := [(g 5 j, .inr (1, [.ref (g 6 j), .int 0, .int 0])), (g 6 j, .inl (eC E 0, N, .inl (fun _ => 0)))]
def wB (E : gE) (g : Nat → Nat → Nat) (N i : Nat) : va_W := (List.range i).flatMap (wB1 E g N)
def gp (g : Nat → Nat → Nat) (i q a b d : Nat) : Nat → Nat → Nat := fun x y => if y = i ∧ x = 1 then q else if y = i ∧ x = 2 then a else if y = i ∧ x = 3 then b else if y = i ∧ x = 4 then d else g x y
def gq (g : Nat → Nat → Nat) (i q a : Nat) : Nat → Nat → Nat := fun x y => if y = i ∧ x = 5 then q else if y = i ∧ x = 6 then a else g x y
def f9 (g : Nat → Nat → Nat) (k i : Nat) : Nat → Option Nat := fun j => if j < i then some (g k j) else none
theorem fm_eq {α β : Type} {l : List α} {f g : α → List β} (h : ∀ x ∈ l, f x = g x) : l.flatMap f = l.flatMap g := by
  induction l with
  | nil => rfl
  | cons a t ih =>
    rw [List.flatMap_cons, List.flatMap_cons, h a List.mem_cons_self, ih (fun x hx => h x (List.mem_cons_of_mem _ hx))]
theorem pB_gp {E : gE} {g : Nat → Nat → Nat} {i q a b d : Nat} : pB E (gp g i q a b d) i = pB E g i := by
  unfold pB
  refine fm_eq (fun j hj => ?_)
  have hj : j < i := List.mem_range.mp hj
  have h1 : ¬ j = i := by omega
  simp [pB1, gp, h1]
theorem pB_succ {E : gE} {g : Nat → Nat → Nat} {i q a b d : Nat} : pB E (gp g i q a b d) (i + 1) = pB E g i ++ [(q, .inr (0, [.int (nI i), .ref a, .ref b, .ref d, .int 0, .int 0, .int (-1), .int 0, .int 0, .int 0, .int (-1), .int 0])), (a, .inl (eC E 0, 128, .inl (fun _ => 0))), (b, .inl (eC E 0, 32, .inl (fun _ => 0))), (d, .inl (eC E 0, 8, .inl (fun _ => 0)))] := by
  rw [← pB_gp (g := g) (q := q) (a := a) (b := b) (d := d)]
  unfold pB
  rw [List.range_succ, List.flatMap_append]
  congr 1
  simp [pB1, gp]
theorem iL0_gp {E : gE} {g : Nat → Nat → Nat} {i q a b d : Nat} {qv : Int32} {x y : Nat → Option Nat} : iL0 E (gp g i q a b d) qv x y = iL0 E g qv x y := by simp [iL0, gp]
theorem f9_gp {g : Nat → Nat → Nat} {i q a b d : Nat} : f9 (gp g i q a b d) 1 (i + 1) = va_up (f9 g 1 i) i (some q) := by
  funext j
  unfold f9 va_up gp
  by_cases h : j = i
  · subst h; simp
  · by_cases h2 : j < i
    · have : j < i + 1 := by omega
      simp [h, h2, this]
    · have : ¬ j < i + 1 := by omega
      simp [h, h2, this]
theorem wB_gq {E : gE} {g : Nat → Nat → Nat} {N i q a : Nat} : wB E (gq g i q a) N i = wB E g N i := by
  unfold wB
  refine fm_eq (fun j hj => ?_)
  have hj : j < i := List.mem_range.mp hj
  have h1 : ¬ j = i := by omega
  simp [wB1, gq, h1]
theorem wB_succ {E : gE} {g : Nat → Nat → Nat} {N i q a : Nat} : wB E (gq g i q a) N (i + 1) = wB E g N i ++ [(q, .inr (1, [.ref a, .int 0, .int 0])), (a, .inl (eC E 0, N, .inl (fun _ => 0)))] := by
  rw [← wB_gq (g := g) (q := q) (a := a)]
  unfold wB
  rw [List.range_succ, List.flatMap_append]
  congr 1
  simp [wB1, gq]
theorem pB_gq {E : gE} {g : Nat → Nat → Nat} {n i q a : Nat} : pB E (gq g i q a) n = pB E g n := by
  unfold pB
  refine fm_eq (fun j _ => ?_)
  simp [pB1, gq]
theorem iL0_gq {E : gE} {g : Nat → Nat → Nat} {i q a : Nat} {qv : Int32} {x y : Nat → Option Nat} (hi : i < 8) : iL0 E (gq g i q a) qv x y = iL0 E g qv x y := by
  have h1 : ¬ 8 = i := by omega
  have h2 : ¬ 9 = i := by omega
  simp [iL0, gq, h1, h2]
theorem f9_gq1 {g : Nat → Nat → Nat} {n i q a : Nat} : f9 (gq g i q a) 1 n = f9 g 1 n := by
  funext j
  simp [f9, gq]
theorem f9_gq {g : Nat → Nat → Nat} {i q a : Nat} : f9 (gq g i q a) 5 (i + 1) = va_up (f9 g 5 i) i (some q) := by
  funext j
  unfold f9 va_up gq
  by_cases h : j = i
  · subst h; simp
  · by_cases h2 : j < i
    · have : j < i + 1 := by omega
      simp [h, h2, this]
    · have : ¬ j < i + 1 := by omega
      simp [h, h2, this]
theorem f9_0 {g : Nat → Nat → Nat} {k : Nat} : f9 g k 0 = fun _ => none := by
  funext j
  simp [f9]
theorem kq_b (x h : Int32) (hh : 1 ≤ h.toInt) : 1 ≤ (kq x h).toInt ∧ (kq x h).toInt ≤ h.toInt := by
  unfold kq
  have e1 : (1 : Int32).toInt = 1 := by decide
  by_cases h1 : h < x
  · simp only [if_pos h1]
    by_cases h2 : 1 < h
    · simp only [if_pos h2]; omega
    · simp only [if_neg h2, e1]; omega
  · simp only [if_neg h1]
    have h1' : x.toInt ≤ h.toInt := by rw [Int32.lt_iff_toInt_lt] at h1; omega
    by_cases h2 : 1 < x
    · simp only [if_pos h2]
      rw [Int32.lt_iff_toInt_lt, e1] at h2
      omega
    · simp only [if_neg h2, e1]; omega
theorem kq_n (x : Int32) : ¬ kq x 16 < 0 ∧ (kq x 16).toNatClampNeg ≤ 16 ∧ 1 ≤ (kq x 16).toNatClampNeg := by
  obtain ⟨h1, h2⟩ := kq_b x 16 (by decide)
  have e : (16 : Int32).toInt = 16 := by decide
  have e0 : (0 : Int32).toInt = 0 := by decide
  rw [e] at h2
  refine ⟨by rw [Int32.lt_iff_toInt_lt, e0]; omega, ?_, ?_⟩
  · show (kq x 16).toInt.toNat ≤ 16
    omega
  · show 1 ≤ (kq x 16).toInt.toNat
    omega
def iPk (E : gE) (sz : Nat) (av : List Value) (ws : va_W) : Array Value → State → Prop := va_Pc av (fun U => U.heap.size = sz ∧ va_P (eD E) classes ws U.heap ∧ va_K (eD E) classes (eT E) U ∧ va_D (va_A ws sz) ws ∧ va_AO "PipeKernel$Proc" U ∧ va_AO "PipeKernel$Words" U)
theorem iPk_blind {E : gE} {sz : Nat} {av : List Value} {ws : va_W} : FrameBlind (iPk E sz av ws) := by
  intro a U g mk h
  obtain ⟨h1, h2, hP, hK, hD, h3, h4⟩ := h
  exact ⟨h1, h2, hP, va_K.moved (u := U) (U := U.calling g mk a) (Vm.Alike.refl U.vm) hK, hD, va_AO.moved (u := U) (U := U.calling g mk a) (Vm.Alike.refl U.vm) h3, va_AO.moved (u := U) (U := U.calling g mk a) (Vm.Alike.refl U.vm) h4⟩
def iMk (l : Launch) (y : MethodName) (vs : List Cond) (rm : Room) (E : gE) (av : List Value) (ws : va_W) (S : Type) (post : S → Prop) (B : S → va_W) (mc ms : Nat) : Prop := ∀ sz : Nat, Met l y vs rm (iPk E sz av ws) (va_Qv post (fun u t => va_P (eD E) classes (B u) t.heap ∧ va_D (va_A ws sz) (B u)) (va_A ws sz)) mc ms (va_A ws sz)
section KN
variable {p : Program} {l : Launch} {e : Env} {R : Room} {s : State} {m : MethodId} {args : Array Value} {below : List Frame} {meth : Method} {c : Code} {H : Heap} {locs : List Loc} {cells slots : Nat} {Q : State → Prop}
variable {cc : ByteArray} {pc : Nat} {ls : Array Slot} {rest : List Value} {E : gE} {A : Nat → Prop} {X L : va_W}
theorem g_getX {own C : String} {T : u_T} {N ci index a : Nat} {v : Value} {fs : List Value} (q0 : Nat) (hexec : p.tables.exec = Jvm.exec) (hb : c.code = cc) (hG : ∀ w ∈ gG, w.before args s = true) (hin : ∀ w ∈ u_ws C T N, w ∈ gG) (hown : s.vm.findClass own = some m.cls) (hK : va_K (eD E) classes (eT E) s) (hP : va_P (eD E) classes (X ++ L) H)
    (he : L[q0]? = some (a, .inr (ci, fs))) (hc : classes[ci]? = some (C, T, N)) (k : Nat) (hk : k < N) (hl : Cond.fieldLink own index C (T k).2.1 (T k).2.2.1 ∈ gG) (hd : (T k).1 = C) (hv : fs[k]? = some v) (hdg : decode cc pc = .ok (.getfield index, 3))
    (kk : W p l e R s m args below meth c H locs cells slots Q (F0 m (pc + 3) ls (v :: rest))) : W p l e R s m args below meth c H locs cells slots Q (F0 m pc ls (.ref a :: rest)) :=
  va_get hexec hb hG hin hown hK hP (X.length + q0) ((ap_get X L q0).trans he) hc k hk (hG _ hl) (fun x h => by rw [hd] at h; exact h) hv hdg kk
end KN
def y_K_init : MethodName := ⟨R_K, "<init>", "(II)V"⟩
abbrev b_K_init : ByteArray := prog_1_method_1_code
def v_K_init : List Cond := .code y_K_init b_K_init 5 none :: gG
def m_K_init : Room := { frames := 2, cells := 88, slots := 3706, locals := 40 }
theorem d_K_init_0 : decode b_K_init 0 = .ok (.aload_n 0, 1) := by decide +kernel
theorem d_K_init_1 : decode b_K_init 1 = .ok (.invokespecial 3, 3) := by decide +kernel
theorem d_K_init_4 : decode b_K_init 4 = .ok (.aload_n 0, 1) := by decide +kernel
theorem d_K_init_5 : decode b_K_init 5 = .ok (.bipush 16, 2) := by decide +kernel
theorem d_K_init_7 : decode b_K_init 7 = .ok (.anewarray 9, 3) := by decide +kernel
theorem d_K_init_10 : decode b_K_init 10 = .ok (.putfield 11, 3) := by decide +kernel
theorem d_K_init_13 : decode b_K_init 13 = .ok (.aload_n 0, 1) := by decide +kernel
theorem d_K_init_14 : decode b_K_init 14 = .ok (.bipush 8, 2) := by decide +kernel
theorem d_K_init_16 : decode b_K_init 16 = .ok (.anewarray 15, 3) := by decide +kernel
theorem d_K_init_19 : decode b_K_init 19 = .ok (.putfield 17, 3) := by decide +kernel
theorem d_K_init_22 : decode b_K_init 22 = .ok (.aload_n 0, 1) := by decide +kernel
theorem d_K_init_23 : decode b_K_init 23 = .ok (.bipush 28, 2) := by decide +kernel
theorem d_K_init_25 : decode b_K_init 25 = .ok (.newarray .int, 2) := by decide +kernel
theorem d_K_init_27 : decode b_K_init 27 = .ok (.putfield 21, 3) := by decide +kernel
theorem d_K_init_30 : decode b_K_init 30 = .ok (.aload_n 0, 1) := by decide +kernel
theorem d_K_init_31 : decode b_K_init 31 = .ok (.bipush 16, 2) := by decide +kernel
theorem d_K_init_33 : decode b_K_init 33 = .ok (.newarray .int, 2) := by decide +kernel
theorem d_K_init_35 : decode b_K_init 35 = .ok (.putfield 25, 3) := by decide +kernel
theorem d_K_init_38 : decode b_K_init 38 = .ok (.aload_n 0, 1) := by decide +kernel
theorem d_K_init_39 : decode b_K_init 39 = .ok (.iconst 0, 1) := by decide +kernel
theorem d_K_init_40 : decode b_K_init 40 = .ok (.putfield 28, 3) := by decide +kernel
theorem d_K_init_43 : decode b_K_init 43 = .ok (.aload_n 0, 1) := by decide +kernel
theorem d_K_init_44 : decode b_K_init 44 = .ok (.iconst 0, 1) := by decide +kernel
theorem d_K_init_45 : decode b_K_init 45 = .ok (.putfield 32, 3) := by decide +kernel
theorem d_K_init_48 : decode b_K_init 48 = .ok (.aload_n 0, 1) := by decide +kernel
theorem d_K_init_49 : decode b_K_init 49 = .ok (.iconst 0, 1) := by decide +kernel
theorem d_K_init_50 : decode b_K_init 50 = .ok (.putfield 35, 3) := by decide +kernel
theorem d_K_init_53 : decode b_K_init 53 = .ok (.aload_n 0, 1) := by decide +kernel
theorem d_K_init_54 : decode b_K_init 54 = .ok (.iconst 0, 1) := by decide +kernel
theorem d_K_init_55 : decode b_K_init 55 = .ok (.putfield 38, 3) := by decide +kernel
theorem d_K_init_58 : decode b_K_init 58 = .ok (.aload_n 0, 1) := by decide +kernel
theorem d_K_init_59 : decode b_K_init 59 = .ok (.iconst 0, 1) := by decide +kernel
theorem d_K_init_60 : decode b_K_init 60 = .ok (.putfield 41, 3) := by decide +kernel
theorem d_K_init_63 : decode b_K_init 63 = .ok (.aload_n 0, 1) := by decide +kernel
theorem d_K_init_64 : decode b_K_init 64 = .ok (.new 15, 3) := by decide +kernel
theorem d_K_init_67 : decode b_K_init 67 = .ok (.dup, 1) := by decide +kernel
theorem d_K_init_68 : decode b_K_init 68 = .ok (.bipush 100, 2) := by decide +kernel
theorem d_K_init_70 : decode b_K_init 70 = .ok (.invokespecial 45, 3) := by decide +kernel
theorem d_K_init_73 : decode b_K_init 73 = .ok (.putfield 48, 3) := by decide +kernel
theorem d_K_init_76 : decode b_K_init 76 = .ok (.aload_n 0, 1) := by decide +kernel
theorem d_K_init_77 : decode b_K_init 77 = .ok (.iconst 0, 1) := by decide +kernel
theorem d_K_init_78 : decode b_K_init 78 = .ok (.putfield 52, 3) := by decide +kernel
theorem d_K_init_81 : decode b_K_init 81 = .ok (.aload_n 0, 1) := by decide +kernel
theorem d_K_init_82 : decode b_K_init 82 = .ok (.new 15, 3) := by decide +kernel
theorem d_K_init_85 : decode b_K_init 85 = .ok (.dup, 1) := by decide +kernel
theorem d_K_init_86 : decode b_K_init 86 = .ok (.sipush 500, 3) := by decide +kernel
theorem d_K_init_89 : decode b_K_init 89 = .ok (.invokespecial 45, 3) := by decide +kernel
theorem d_K_init_92 : decode b_K_init 92 = .ok (.putfield 55, 3) := by decide +kernel
theorem d_K_init_95 : decode b_K_init 95 = .ok (.aload_n 0, 1) := by decide +kernel
theorem d_K_init_96 : decode b_K_init 96 = .ok (.iconst 0, 1) := by decide +kernel
theorem d_K_init_97 : decode b_K_init 97 = .ok (.putfield 58, 3) := by decide +kernel
theorem d_K_init_100 : decode b_K_init 100 = .ok (.aload_n 0, 1) := by decide +kernel
theorem d_K_init_101 : decode b_K_init 101 = .ok (.iconst 1, 1) := by decide +kernel
theorem d_K_init_102 : decode b_K_init 102 = .ok (.iload_n 1, 1) := by decide +kernel
theorem d_K_init_103 : decode b_K_init 103 = .ok (.bipush 100, 2) := by decide +kernel
theorem d_K_init_105 : decode b_K_init 105 = .ok (.invokestatic 61, 3) := by decide +kernel
theorem d_K_init_108 : decode b_K_init 108 = .ok (.invokestatic 67, 3) := by decide +kernel
theorem d_K_init_111 : decode b_K_init 111 = .ok (.putfield 70, 3) := by decide +kernel
theorem d_K_init_114 : decode b_K_init 114 = .ok (.iconst 1, 1) := by decide +kernel
theorem d_K_init_115 : decode b_K_init 115 = .ok (.iload_n 2, 1) := by decide +kernel
theorem d_K_init_116 : decode b_K_init 116 = .ok (.bipush 16, 2) := by decide +kernel
theorem d_K_init_118 : decode b_K_init 118 = .ok (.invokestatic 61, 3) := by decide +kernel
theorem d_K_init_121 : decode b_K_init 121 = .ok (.invokestatic 67, 3) := by decide +kernel
theorem d_K_init_124 : decode b_K_init 124 = .ok (.istore_n 3, 1) := by decide +kernel
theorem d_K_init_125 : decode b_K_init 125 = .ok (.iconst 0, 1) := by decide +kernel
theorem d_K_init_126 : decode b_K_init 126 = .ok (.istore 4, 2) := by decide +kernel
theorem d_K_init_128 : decode b_K_init 128 = .ok (.iload 4, 2) := by decide +kernel
theorem d_K_init_130 : decode b_K_init 130 = .ok (.bipush 16, 2) := by decide +kernel
theorem d_K_init_132 : decode b_K_init 132 = .ok (.if_icmp .ge 25, 3) := by decide +kernel
theorem d_K_init_135 : decode b_K_init 135 = .ok (.aload_n 0, 1) := by decide +kernel
theorem d_K_init_136 : decode b_K_init 136 = .ok (.getfield 11, 3) := by decide +kernel
theorem d_K_init_139 : decode b_K_init 139 = .ok (.iload 4, 2) := by decide +kernel
theorem d_K_init_141 : decode b_K_init 141 = .ok (.new 9, 3) := by decide +kernel
theorem d_K_init_144 : decode b_K_init 144 = .ok (.dup, 1) := by decide +kernel
theorem d_K_init_145 : decode b_K_init 145 = .ok (.iload 4, 2) := by decide +kernel
theorem d_K_init_147 : decode b_K_init 147 = .ok (.invokespecial 73, 3) := by decide +kernel
theorem d_K_init_150 : decode b_K_init 150 = .ok (.aastore, 1) := by decide +kernel
theorem d_K_init_151 : decode b_K_init 151 = .ok (.iinc 4 1, 3) := by decide +kernel
theorem d_K_init_154 : decode b_K_init 154 = .ok (.goto (-26), 3) := by decide +kernel
theorem d_K_init_157 : decode b_K_init 157 = .ok (.iconst 0, 1) := by decide +kernel
theorem d_K_init_158 : decode b_K_init 158 = .ok (.istore 4, 2) := by decide +kernel
theorem d_K_init_160 : decode b_K_init 160 = .ok (.iload 4, 2) := by decide +kernel
theorem d_K_init_162 : decode b_K_init 162 = .ok (.bipush 8, 2) := by decide +kernel
theorem d_K_init_164 : decode b_K_init 164 = .ok (.if_icmp .ge 24, 3) := by decide +kernel
theorem d_K_init_167 : decode b_K_init 167 = .ok (.aload_n 0, 1) := by decide +kernel
theorem d_K_init_168 : decode b_K_init 168 = .ok (.getfield 17, 3) := by decide +kernel
theorem d_K_init_171 : decode b_K_init 171 = .ok (.iload 4, 2) := by decide +kernel
theorem d_K_init_173 : decode b_K_init 173 = .ok (.new 15, 3) := by decide +kernel
theorem d_K_init_176 : decode b_K_init 176 = .ok (.dup, 1) := by decide +kernel
theorem d_K_init_177 : decode b_K_init 177 = .ok (.iload_n 3, 1) := by decide +kernel
theorem d_K_init_178 : decode b_K_init 178 = .ok (.invokespecial 45, 3) := by decide +kernel
theorem d_K_init_181 : decode b_K_init 181 = .ok (.aastore, 1) := by decide +kernel
theorem d_K_init_182 : decode b_K_init 182 = .ok (.iinc 4 1, 3) := by decide +kernel
theorem d_K_init_185 : decode b_K_init 185 = .ok (.goto (-25), 3) := by decide +kernel
theorem d_K_init_188 : decode b_K_init 188 = .ok (.return_, 1) := by decide +kernel
set_option maxHeartbeats 16000000 in
set_option maxRecDepth 100000 in
theorem c_K_init (l : Launch) (E : gE) (X : va_W) (h0 : Nat) (x1 x2 : Int32) : iMk l y_K_init v_K_init m_K_init E [.ref h0, .int x1, .int x2] (X ++ [(h0, .inr (2, [.int 0, .null, .null, .null, .null, .int 0, .int 0, .int 0, .int 0, .int 0, .null, .int 0, .null, .int 0]))]) (Nat → Nat → Nat) (fun g => g 0 0 = h0) (fun g => X ++ (iL0 E g (kq x1 100) (f9 g 1 16) (f9 g 5 8) ++ (pB E g 16 ++ wB E g (kq x2 16).toNatClampNeg 8))) 88 3706 := by
  intro sz
  refine Met.ofW (cc := b_K_init) (maxL := 5) (ret := none) (by decide) rfl ?_
  intro p e s m args below meth c s₁ B hml hv
  obtain ⟨rfl, hsz, hP, hK, hD, hoP, hoW⟩ := hv
  have hx := B.exec
  have hb := B.bytes
  have hr := B.returns
  have hts := atoms_spec (ws := v_K_init) B.pre
  have hG : ∀ w ∈ gG, w.before _ s = true := fun w h => hts w (List.mem_cons_of_mem _ h)
  have hown : s.vm.findClass R_K = some m.cls := findClass_of_methodNamed B.named
  have hlocks := B.notSynchronized
  have hin : meth.name = "<init>" := (name_of_methodNamed B.named B.method).1
  subst hsz
  generalize hAe : va_A (X ++ [(h0, .inr (2, [.int 0, .null, .null, .null, .null, .int 0, .int 0, .int 0, .int 0, .int 0, .null, .int 0, .null, .int 0]))]) s.heap.size = A at hD ⊢
  have hA : ∀ q : Nat, s.heap.size ≤ q → A q := fun q h => by rw [← hAe]; exact Or.inr h
  have hS : va_S A s.heap s.heap [] := va_S.rf
  have hl := lv_entry ([.ref h0, .int x1, .int x2] : List Value) (n := 5) (Nat.le_of_ble_eq_true rfl)
  rw [lg_entry_eq]
  generalize (lg_sl ([.ref h0, .int x1, .int x2] : List Value) ++ List.replicate (5 - (lg_sl ([.ref h0, .int x1, .int x2] : List Value)).length) Slot.unset).toArray = ls at hl ⊢
  have hl : lv_has ls 5 [(0, .ref h0), (1, .int x1), (2, .int x2)] := hl
  obtain ⟨hx1, hxb, hx0⟩ := kq_n x2
  obtain ⟨N, hxN⟩ : ∃ N, (kq x2 16).toNatClampNeg = N := ⟨_, rfl⟩
  rw [hxN] at hxb ⊢
  have L160 : ∀ (n i : Nat) (g : Nat → Nat → Nat) (ls : Array Slot) (H : Heap) (locs : List Loc), i + n = 8 → g 0 0 = h0 → lv_has ls 5 [(4, .int (nI i)), (3, .int (kq x2 16)), (0, .ref h0), (1, .int x1), (2, .int x2)] → va_P (eD E) classes (X ++ (iL0 E g (kq x1 100) (f9 g 1 16) (f9 g 5 i) ++ (pB E g 16 ++ wB E g N i))) H → va_D A (X ++ (iL0 E g (kq x1 100) (f9 g 1 16) (f9 g 5 i) ++ (pB E g 16 ++ wB E g N i))) → va_S A s.heap H locs → W p l e m_K_init s m ([.ref h0, .int x1, .int x2] : List Value).toArray below meth c H locs (72 + 2 * i) (3554 + 19 * i) (MQ below (va_Qv (fun g : Nat → Nat → Nat => g 0 0 = h0) (fun u t => va_P (eD E) classes (X ++ (iL0 E u (kq x1 100) (f9 u 1 16) (f9 u 5 8) ++ (pB E u 16 ++ wB E u N 8))) t.heap ∧ va_D A (X ++ (iL0 E u (kq x1 100) (f9 u 1 16) (f9 u 5 8) ++ (pB E u 16 ++ wB E u N 8)))) A) ([.ref h0, .int x1, .int x2] : List Value).toArray s 88 3706 A) (F0 m 160 ls []) := by
    intro n
    induction n with
    | zero =>
      intro i g ls H locs hi hg hl hP hD hS
      have hi : i = 8 := by omega
      subst hi
      refine lv_iload hx hb d_K_init_160 (lv_at hl 0 rfl) ?_
      refine lv_bipush (v := 8) hx hb d_K_init_162 (by decide) ?_
      refine lv_icmp_ge (tgt := 188) hx hb d_K_init_164 rfl (fun hc => ?_) (fun hc => absurd (by decide) hc)
      refine W.widen (k := 88) (n := 3706) (by omega) (by omega) ?_
      exact W.vret hx hb hr (fun t ht hW => ⟨⟨g, rfl, hg, by rw [ht]; exact hP, hD⟩, hS.F ht⟩) hS.2.2 d_K_init_188
    | succ n ih =>
      intro i g ls H locs hi hg hl hP hD hS
      have hi8 : i < 8 := by omega
      have e8 : (8 : Int32) = nI 8 := rfl
      refine lv_iload hx hb d_K_init_160 (lv_at hl 0 rfl) ?_
      refine lv_bipush (v := 8) hx hb d_K_init_162 (by decide) ?_
      refine lv_icmp_ge (tgt := 188) hx hb d_K_init_164 rfl (fun hc => absurd hc (by rw [e8]; exact nI_ge hi8 (by decide))) (fun hc => ?_)
      refine lv_aload_n hx hb d_K_init_167 rfl (lv_at hl 2 rfl) ?_
      refine g_getX (X := X) (L := (iL0 E g (kq x1 100) (f9 g 1 16) (f9 g 5 i) ++ (pB E g 16 ++ wB E g N i))) (own := R_K) (C := R_K) (T := F_K) (N := 14) (ci := 2) (a := h0) (v := .ref (g 10 0)) 0 hx hb hG in_us_K hown hK hP (by rw [← hg]; rfl) rfl 2 (by decide) gm_176 rfl rfl d_K_init_168 ?_
      refine lv_iload hx hb d_K_init_171 (lv_at hl 0 rfl) ?_
      refine g_newX (X := X) (L := (iL0 E g (kq x1 100) (f9 g 1 16) (f9 g 5 i) ++ (pB E g 16 ++ wB E g N i))) (own := R_K) (C := R_W) (T := F_W) (N := 3) (ci := 1) (fs := [.null, .int 0, .int 0]) hx hb hG in_us_W t_W t_W_ok hown gm_95 gm_97 gm_73 hK hP hD hS hA rfl (fun j hj => by rcases (show j = 0 ∨ j = 1 ∨ j = 2 by omega) with rfl | rfl | rfl <;> rfl) (by show 72 + 2 * i + 1 ≤ 88; omega) (by show 3554 + 19 * i + 3 ≤ 3706; omega) d_K_init_173 (fun q H hP hD hS => ?_)
      refine lv_dup hx hb d_K_init_176 rfl ?_
      refine lv_iload_n hx hb d_K_init_177 rfl (lv_at hl 1 rfl) ?_
      refine g_callI (cc := b_K_init) (As := [.int (kq x2 16)]) (rest := [.ref q, .int (nI i), .ref (g 10 0)]) ⟨hx, hb, hml, hown, hts⟩ (c_W_init l E (X ++ (iL0 E g (kq x1 100) (f9 g 1 16) (f9 g 5 i) ++ (pB E g 16 ++ wB E g N i))) q (kq x2 16) N hx1 hxN (by omega)) (cwI 1 hts (gi_I gm_100) rfl rfl rfl (hG _ gm_73) (hG _ gm_98) (hG _ gm_99) rfl (by decide +kernel) ⟨Nat.le_of_ble_eq_true rfl, Nat.le_of_ble_eq_true rfl⟩) hK hP hD hS hA rfl hl.1 rfl (Nat.le_of_ble_eq_true rfl) d_K_init_178 ⟨by show 72 + 2 * i + 1 + 1 ≤ 88; omega, by show 3554 + 19 * i + 3 + N ≤ 3706; omega⟩ (fun a H locs _ hP hD hS => ?_)
      rw [List.append_assoc] at hP hD
      refine va_astq (r := (R_W, F_W, 3)) (vs := [.ref a, .int 0, .int 0]) (f := f9 g 5 i) (n := 8) (cA := eC E 2) hx hb hK hP hD hS (X.length + 2) 2 (X.length + ((iL0 E g (kq x1 100) (f9 g 1 16) (f9 g 5 i) ++ (pB E g 16 ++ wB E g N i)).length + 0)) 1 ((ap_get X _ 2).trans rfl) rfl ((ap_get X _ _).trans ((ap_get _ _ 0).trans rfl)) rfl (vp_in_nI hi8 (by decide)) d_K_init_181 (fun H locs hP hD hS => ?_)
      rw [ap_set, nI_clamp (by omega)] at hP hD
      have hP : va_P (eD E) classes (X ++ ((iL0 E g (kq x1 100) (f9 g 1 16) (va_up (f9 g 5 i) i (some q)) ++ (pB E g 16 ++ wB E g N i)) ++ [(q, .inr (1, [.ref a, .int 0, .int 0])), (a, .inl (eC E 0, N, .inl (fun _ => 0)))])) H := hP
      have hD : va_D A (X ++ ((iL0 E g (kq x1 100) (f9 g 1 16) (va_up (f9 g 5 i) i (some q)) ++ (pB E g 16 ++ wB E g N i)) ++ [(q, .inr (1, [.ref a, .int 0, .int 0])), (a, .inl (eC E 0, N, .inl (fun _ => 0)))])) := hD
      rw [List.append_assoc, List.append_assoc, ← wB_succ, ← f9_gq (g := g) (q := q) (a := a), ← iL0_gq (g := g) (q := q) (a := a) hi8, ← pB_gq (g := g) (i := i) (q := q) (a := a), ← f9_gq1 (g := g) (i := i) (q := q) (a := a)] at hP hD
      refine lv_iinc (k := 0) (v := nI (i + 1)) (lv' := [(4, .int (nI (i + 1))), (3, .int (kq x2 16)), (0, .ref h0), (1, .int x1), (2, .int x2)]) hx hb d_K_init_182 hl rfl (nI_1 i) (by decide) rfl (fun ls hl => ?_)
      refine lv_goto (tgt := 160) hx hb d_K_init_185 rfl ?_
      refine W.widen (k := 72 + 2 * (i + 1)) (n := 3554 + 19 * (i + 1)) (by omega) (by omega) ?_
      exact ih (i + 1) (gq g i q a) ls H locs (by omega) (by simp [gq, hg]) hl hP hD hS
  have L128 : ∀ (n i : Nat) (g : Nat → Nat → Nat) (ls : Array Slot) (H : Heap) (locs : List Loc), i + n = 16 → g 0 0 = h0 → lv_has ls 5 [(4, .int (nI i)), (3, .int (kq x2 16)), (0, .ref h0), (1, .int x1), (2, .int x2)] → va_P (eD E) classes (X ++ (iL0 E g (kq x1 100) (f9 g 1 i) (fun _ => none) ++ pB E g i)) H → va_D A (X ++ (iL0 E g (kq x1 100) (f9 g 1 i) (fun _ => none) ++ pB E g i)) → va_S A s.heap H locs → W p l e m_K_init s m ([.ref h0, .int x1, .int x2] : List Value).toArray below meth c H locs (8 + 4 * i) (674 + 180 * i) (MQ below (va_Qv (fun g : Nat → Nat → Nat => g 0 0 = h0) (fun u t => va_P (eD E) classes (X ++ (iL0 E u (kq x1 100) (f9 u 1 16) (f9 u 5 8) ++ (pB E u 16 ++ wB E u N 8))) t.heap ∧ va_D A (X ++ (iL0 E u (kq x1 100) (f9 u 1 16) (f9 u 5 8) ++ (pB E u 16 ++ wB E u N 8)))) A) ([.ref h0, .int x1, .int x2] : List Value).toArray s 88 3706 A) (F0 m 128 ls []) := by
    intro n
    induction n with
    | zero =>
      intro i g ls H locs hi hg hl hP hD hS
      have hi : i = 16 := by omega
      subst hi
      refine lv_iload hx hb d_K_init_128 (lv_at hl 0 rfl) ?_
      refine lv_bipush (v := 16) hx hb d_K_init_130 (by decide) ?_
      refine lv_icmp_ge (tgt := 157) hx hb d_K_init_132 rfl (fun hc => ?_) (fun hc => absurd (by decide) hc)
      refine lv_iconst (v := 0) hx hb d_K_init_157 (by decide) ?_
      refine lv_istore (lv' := [(4, .int (nI 0)), (3, .int (kq x2 16)), (0, .ref h0), (1, .int x1), (2, .int x2)]) hx hb d_K_init_158 hl (by decide) rfl (fun ls hl => ?_)
      have hP : va_P (eD E) classes (X ++ (iL0 E g (kq x1 100) (f9 g 1 16) (f9 g 5 0) ++ (pB E g 16 ++ wB E g N 0))) H := by rw [f9_0]; simpa [wB] using hP
      have hD : va_D A (X ++ (iL0 E g (kq x1 100) (f9 g 1 16) (f9 g 5 0) ++ (pB E g 16 ++ wB E g N 0))) := by rw [f9_0]; simpa [wB] using hD
      refine W.widen (k := 72 + 2 * 0) (n := 3554 + 19 * 0) (by omega) (by omega) ?_
      exact L160 8 0 g ls H locs rfl hg hl hP hD hS
    | succ n ih =>
      intro i g ls H locs hi hg hl hP hD hS
      have hi8 : i < 16 := by omega
      have e8 : (16 : Int32) = nI 16 := rfl
      refine lv_iload hx hb d_K_init_128 (lv_at hl 0 rfl) ?_
      refine lv_bipush (v := 16) hx hb d_K_init_130 (by decide) ?_
      refine lv_icmp_ge (tgt := 157) hx hb d_K_init_132 rfl (fun hc => absurd hc (by rw [e8]; exact nI_ge hi8 (by decide))) (fun hc => ?_)
      refine lv_aload_n hx hb d_K_init_135 rfl (lv_at hl 2 rfl) ?_
      refine g_getX (X := X) (L := (iL0 E g (kq x1 100) (f9 g 1 i) (fun _ => none) ++ pB E g i)) (own := R_K) (C := R_K) (T := F_K) (N := 14) (ci := 2) (a := h0) (v := .ref (g 9 0)) 0 hx hb hG in_us_K hown hK hP (by rw [← hg]; rfl) rfl 1 (by decide) gm_175 rfl rfl d_K_init_136 ?_
      refine lv_iload hx hb d_K_init_139 (lv_at hl 0 rfl) ?_
      refine g_newX (X := X) (L := (iL0 E g (kq x1 100) (f9 g 1 i) (fun _ => none) ++ pB E g i)) (own := R_K) (C := R_P) (T := F_P) (N := 12) (ci := 0) (fs := [.int 0, .null, .null, .null, .int 0, .int 0, .int 0, .int 0, .int 0, .int 0, .int 0, .int 0]) hx hb hG in_us_P t_P t_P_ok hown gm_93 gm_120 gm_75 hK hP hD hS hA rfl (fun j hj => by rcases (show j = 0 ∨ j = 1 ∨ j = 2 ∨ j = 3 ∨ j = 4 ∨ j = 5 ∨ j = 6 ∨ j = 7 ∨ j = 8 ∨ j = 9 ∨ j = 10 ∨ j = 11 by omega) with rfl | rfl | rfl | rfl | rfl | rfl | rfl | rfl | rfl | rfl | rfl | rfl <;> rfl) (by show 8 + 4 * i + 1 ≤ 88; omega) (by show 674 + 180 * i + 12 ≤ 3706; omega) d_K_init_141 (fun q H hP hD hS => ?_)
      refine lv_dup hx hb d_K_init_144 rfl ?_
      refine lv_iload hx hb d_K_init_145 (lv_at hl 0 rfl) ?_
      refine g_callI (cc := b_K_init) (As := [.int (nI i)]) (rest := [.ref q, .int (nI i), .ref (g 9 0)]) ⟨hx, hb, hml, hown, hts⟩ (c_P_init l E (X ++ (iL0 E g (kq x1 100) (f9 g 1 i) (fun _ => none) ++ pB E g i)) q (nI i)) (cwI 1 hts (gi_I gm_123) rfl rfl rfl (hG _ gm_75) (hG _ gm_121) (hG _ gm_122) rfl (by decide +kernel) ⟨Nat.le_of_ble_eq_true rfl, Nat.le_of_ble_eq_true rfl⟩) hK hP hD hS hA rfl hl.1 rfl (Nat.le_of_ble_eq_true rfl) d_K_init_147 ⟨by show 8 + 4 * i + 1 + 3 ≤ 88; omega, by show 674 + 180 * i + 12 + 168 ≤ 3706; omega⟩ (fun u H locs _ hP hD hS => ?_)
      obtain ⟨a, b, z⟩ := u
      rw [List.append_assoc] at hP hD
      refine va_astq (r := (R_P, F_P, 12)) (vs := [.int (nI i), .ref a, .ref b, .ref z, .int 0, .int 0, .int (-1), .int 0, .int 0, .int 0, .int (-1), .int 0]) (f := f9 g 1 i) (n := 16) (cA := eC E 1) hx hb hK hP hD hS (X.length + 1) 1 (X.length + ((iL0 E g (kq x1 100) (f9 g 1 i) (fun _ => none) ++ pB E g i).length + 0)) 0 ((ap_get X _ 1).trans rfl) rfl ((ap_get X _ _).trans ((ap_get _ _ 0).trans rfl)) rfl (vp_in_nI hi8 (by decide)) d_K_init_150 (fun H locs hP hD hS => ?_)
      rw [ap_set, nI_clamp (by omega)] at hP hD
      have hP : va_P (eD E) classes (X ++ ((iL0 E g (kq x1 100) (va_up (f9 g 1 i) i (some q)) (fun _ => none) ++ pB E g i) ++ [(q, .inr (0, [.int (nI i), .ref a, .ref b, .ref z, .int 0, .int 0, .int (-1), .int 0, .int 0, .int 0, .int (-1), .int 0])), (a, .inl (eC E 0, 128, .inl (fun _ => 0))), (b, .inl (eC E 0, 32, .inl (fun _ => 0))), (z, .inl (eC E 0, 8, .inl (fun _ => 0)))])) H := hP
      have hD : va_D A (X ++ ((iL0 E g (kq x1 100) (va_up (f9 g 1 i) i (some q)) (fun _ => none) ++ pB E g i) ++ [(q, .inr (0, [.int (nI i), .ref a, .ref b, .ref z, .int 0, .int 0, .int (-1), .int 0, .int 0, .int 0, .int (-1), .int 0])), (a, .inl (eC E 0, 128, .inl (fun _ => 0))), (b, .inl (eC E 0, 32, .inl (fun _ => 0))), (z, .inl (eC E 0, 8, .inl (fun _ => 0)))])) := hD
      rw [List.append_assoc, ← pB_succ, ← f9_gp (g := g) (q := q) (a := a) (b := b) (d := z), ← iL0_gp (g := g) (i := i) (q := q) (a := a) (b := b) (d := z)] at hP hD
      refine lv_iinc (k := 0) (v := nI (i + 1)) (lv' := [(4, .int (nI (i + 1))), (3, .int (kq x2 16)), (0, .ref h0), (1, .int x1), (2, .int x2)]) hx hb d_K_init_151 hl rfl (nI_1 i) (by decide) rfl (fun ls hl => ?_)
      refine lv_goto (tgt := 128) hx hb d_K_init_154 rfl ?_
      refine W.widen (k := 8 + 4 * (i + 1)) (n := 674 + 180 * (i + 1)) (by omega) (by omega) ?_
      exact ih (i + 1) (gp g i q a b z) ls H locs (by omega) (by simp [gp, hg]) hl hP hD hS
  refine lv_aload_n hx hb d_K_init_0 rfl (lv_at hl 0 rfl) ?_
  refine W.objInit hx hb hown (hG _ gm_90) (hG _ gm_91) (hG _ gm_92) rfl (by rw [hml]; exact hl.1) rfl d_K_init_1 (Nat.le_of_ble_eq_true rfl) (Nat.le_of_ble_eq_true rfl) ?_
  refine W.eq (g2 := F0 m 4 ls []) rfl ?_
  refine lv_aload_n hx hb d_K_init_4 rfl (lv_at hl 0 rfl) ?_
  refine lv_bipush (v := 16) hx hb d_K_init_5 (by decide) ?_
  refine g_newq (X := X) (L := [(h0, .inr (2, [.int 0, .null, .null, .null, .null, .int 0, .int 0, .int 0, .int 0, .int 0, .null, .int 0, .null, .int 0]))]) (N := 16) (own := R_K) (t0 := 1) (C := R_P) rfl hx hb hown (hG _ gm_93) hoP hK hP hD hS hA (by decide) (by decide) (by decide) (Nat.le_of_ble_eq_true rfl) (by show 0 + 16 ≤ 3706; omega) d_K_init_7 (fun q7 H hP hD hS => ?_)
  have hP : va_P (eD E) classes (X ++ [(h0, .inr (2, [.int 0, .null, .null, .null, .null, .int 0, .int 0, .int 0, .int 0, .int 0, .null, .int 0, .null, .int 0])), (q7, .inl (eC E 1, 16, .inr (.inr (.inr (.inr (fun _ => none))))))]) H := hP
  have hD : va_D A (X ++ [(h0, .inr (2, [.int 0, .null, .null, .null, .null, .int 0, .int 0, .int 0, .int 0, .int 0, .null, .int 0, .null, .int 0])), (q7, .inl (eC E 1, 16, .inr (.inr (.inr (.inr (fun _ => none))))))]) := hD
  refine g_putXF (X := X) (L := [(h0, .inr (2, [.int 0, .null, .null, .null, .null, .int 0, .int 0, .int 0, .int 0, .int 0, .null, .int 0, .null, .int 0])), (q7, .inl (eC E 1, 16, .inr (.inr (.inr (.inr (fun _ => none))))))]) (own := R_K) (T := F_K) (N := 14) (ci := 2) (v := .ref q7) (ty := (.array (.object "PipeKernel$Proc"))) 0 hx hb hG in_us_K t_K t_K_ok n_K hown hK hP hD hS rfl rfl 1 (by decide) gm_175 rfl rfl hin (by decide +kernel) rfl rfl (Nat.le_of_ble_eq_true rfl) d_K_init_10 (fun H locs hP hD hS => ?_)
  have hP : va_P (eD E) classes (X ++ [(h0, .inr (2, [.int 0, .ref q7, .null, .null, .null, .int 0, .int 0, .int 0, .int 0, .int 0, .null, .int 0, .null, .int 0])), (q7, .inl (eC E 1, 16, .inr (.inr (.inr (.inr (fun _ => none))))))]) H := hP
  have hD : va_D A (X ++ [(h0, .inr (2, [.int 0, .ref q7, .null, .null, .null, .int 0, .int 0, .int 0, .int 0, .int 0, .null, .int 0, .null, .int 0])), (q7, .inl (eC E 1, 16, .inr (.inr (.inr (.inr (fun _ => none))))))]) := hD
  refine lv_aload_n hx hb d_K_init_13 rfl (lv_at hl 0 rfl) ?_
  refine lv_bipush (v := 8) hx hb d_K_init_14 (by decide) ?_
  refine g_newq (X := X) (L := [(h0, .inr (2, [.int 0, .ref q7, .null, .null, .null, .int 0, .int 0, .int 0, .int 0, .int 0, .null, .int 0, .null, .int 0])), (q7, .inl (eC E 1, 16, .inr (.inr (.inr (.inr (fun _ => none))))))]) (N := 8) (own := R_K) (t0 := 2) (C := R_W) rfl hx hb hown (hG _ gm_95) hoW hK hP hD hS hA (by decide) (by decide) (by decide) (Nat.le_of_ble_eq_true rfl) (by show 0 + 16 + 8 ≤ 3706; omega) d_K_init_16 (fun q16 H hP hD hS => ?_)
  have hP : va_P (eD E) classes (X ++ [(h0, .inr (2, [.int 0, .ref q7, .null, .null, .null, .int 0, .int 0, .int 0, .int 0, .int 0, .null, .int 0, .null, .int 0])), (q7, .inl (eC E 1, 16, .inr (.inr (.inr (.inr (fun _ => none)))))), (q16, .inl (eC E 2, 8, .inr (.inr (.inr (.inr (fun _ => none))))))]) H := hP
  have hD : va_D A (X ++ [(h0, .inr (2, [.int 0, .ref q7, .null, .null, .null, .int 0, .int 0, .int 0, .int 0, .int 0, .null, .int 0, .null, .int 0])), (q7, .inl (eC E 1, 16, .inr (.inr (.inr (.inr (fun _ => none)))))), (q16, .inl (eC E 2, 8, .inr (.inr (.inr (.inr (fun _ => none))))))]) := hD
  refine g_putXF (X := X) (L := [(h0, .inr (2, [.int 0, .ref q7, .null, .null, .null, .int 0, .int 0, .int 0, .int 0, .int 0, .null, .int 0, .null, .int 0])), (q7, .inl (eC E 1, 16, .inr (.inr (.inr (.inr (fun _ => none)))))), (q16, .inl (eC E 2, 8, .inr (.inr (.inr (.inr (fun _ => none))))))]) (own := R_K) (T := F_K) (N := 14) (ci := 2) (v := .ref q16) (ty := (.array (.object "PipeKernel$Words"))) 0 hx hb hG in_us_K t_K t_K_ok n_K hown hK hP hD hS rfl rfl 2 (by decide) gm_176 rfl rfl hin (by decide +kernel) rfl rfl (Nat.le_of_ble_eq_true rfl) d_K_init_19 (fun H locs hP hD hS => ?_)
  have hP : va_P (eD E) classes (X ++ [(h0, .inr (2, [.int 0, .ref q7, .ref q16, .null, .null, .int 0, .int 0, .int 0, .int 0, .int 0, .null, .int 0, .null, .int 0])), (q7, .inl (eC E 1, 16, .inr (.inr (.inr (.inr (fun _ => none)))))), (q16, .inl (eC E 2, 8, .inr (.inr (.inr (.inr (fun _ => none))))))]) H := hP
  have hD : va_D A (X ++ [(h0, .inr (2, [.int 0, .ref q7, .ref q16, .null, .null, .int 0, .int 0, .int 0, .int 0, .int 0, .null, .int 0, .null, .int 0])), (q7, .inl (eC E 1, 16, .inr (.inr (.inr (.inr (fun _ => none)))))), (q16, .inl (eC E 2, 8, .inr (.inr (.inr (.inr (fun _ => none))))))]) := hD
  refine lv_aload_n hx hb d_K_init_22 rfl (lv_at hl 0 rfl) ?_
  refine lv_bipush (v := 28) hx hb d_K_init_23 (by decide) ?_
  refine g_newa (X := X) (L := [(h0, .inr (2, [.int 0, .ref q7, .ref q16, .null, .null, .int 0, .int 0, .int 0, .int 0, .int 0, .null, .int 0, .null, .int 0])), (q7, .inl (eC E 1, 16, .inr (.inr (.inr (.inr (fun _ => none)))))), (q16, .inl (eC E 2, 8, .inr (.inr (.inr (.inr (fun _ => none))))))]) (N := 28) hx hb hG hK hP hD hS hA (by decide) (by decide) (by decide) (Nat.le_of_ble_eq_true rfl) (by show 0 + 16 + 8 + 28 ≤ 3706; omega) d_K_init_25 (fun q25 H hP hD hS => ?_)
  have hP : va_P (eD E) classes (X ++ [(h0, .inr (2, [.int 0, .ref q7, .ref q16, .null, .null, .int 0, .int 0, .int 0, .int 0, .int 0, .null, .int 0, .null, .int 0])), (q7, .inl (eC E 1, 16, .inr (.inr (.inr (.inr (fun _ => none)))))), (q16, .inl (eC E 2, 8, .inr (.inr (.inr (.inr (fun _ => none)))))), (q25, .inl (eC E 0, 28, .inl (fun _ => 0)))]) H := hP
  have hD : va_D A (X ++ [(h0, .inr (2, [.int 0, .ref q7, .ref q16, .null, .null, .int 0, .int 0, .int 0, .int 0, .int 0, .null, .int 0, .null, .int 0])), (q7, .inl (eC E 1, 16, .inr (.inr (.inr (.inr (fun _ => none)))))), (q16, .inl (eC E 2, 8, .inr (.inr (.inr (.inr (fun _ => none)))))), (q25, .inl (eC E 0, 28, .inl (fun _ => 0)))]) := hD
  refine g_putXF (X := X) (L := [(h0, .inr (2, [.int 0, .ref q7, .ref q16, .null, .null, .int 0, .int 0, .int 0, .int 0, .int 0, .null, .int 0, .null, .int 0])), (q7, .inl (eC E 1, 16, .inr (.inr (.inr (.inr (fun _ => none)))))), (q16, .inl (eC E 2, 8, .inr (.inr (.inr (.inr (fun _ => none)))))), (q25, .inl (eC E 0, 28, .inl (fun _ => 0)))]) (own := R_K) (T := F_K) (N := 14) (ci := 2) (v := .ref q25) (ty := (.array .int)) 0 hx hb hG in_us_K t_K t_K_ok n_K hown hK hP hD hS rfl rfl 3 (by decide) gm_177 rfl rfl hin (by decide +kernel) rfl rfl (Nat.le_of_ble_eq_true rfl) d_K_init_27 (fun H locs hP hD hS => ?_)
  have hP : va_P (eD E) classes (X ++ [(h0, .inr (2, [.int 0, .ref q7, .ref q16, .ref q25, .null, .int 0, .int 0, .int 0, .int 0, .int 0, .null, .int 0, .null, .int 0])), (q7, .inl (eC E 1, 16, .inr (.inr (.inr (.inr (fun _ => none)))))), (q16, .inl (eC E 2, 8, .inr (.inr (.inr (.inr (fun _ => none)))))), (q25, .inl (eC E 0, 28, .inl (fun _ => 0)))]) H := hP
  have hD : va_D A (X ++ [(h0, .inr (2, [.int 0, .ref q7, .ref q16, .ref q25, .null, .int 0, .int 0, .int 0, .int 0, .int 0, .null, .int 0, .null, .int 0])), (q7, .inl (eC E 1, 16, .inr (.inr (.inr (.inr (fun _ => none)))))), (q16, .inl (eC E 2, 8, .inr (.inr (.inr (.inr (fun _ => none)))))), (q25, .inl (eC E 0, 28, .inl (fun _ => 0)))]) := hD
  refine lv_aload_n hx hb d_K_init_30 rfl (lv_at hl 0 rfl) ?_
  refine lv_bipush (v := 16) hx hb d_K_init_31 (by decide) ?_
  refine g_newa (X := X) (L := [(h0, .inr (2, [.int 0, .ref q7, .ref q16, .ref q25, .null, .int 0, .int 0, .int 0, .int 0, .int 0, .null, .int 0, .null, .int 0])), (q7, .inl (eC E 1, 16, .inr (.inr (.inr (.inr (fun _ => none)))))), (q16, .inl (eC E 2, 8, .inr (.inr (.inr (.inr (fun _ => none)))))), (q25, .inl (eC E 0, 28, .inl (fun _ => 0)))]) (N := 16) hx hb hG hK hP hD hS hA (by decide) (by decide) (by decide) (Nat.le_of_ble_eq_true rfl) (by show 0 + 16 + 8 + 28 + 16 ≤ 3706; omega) d_K_init_33 (fun q33 H hP hD hS => ?_)
  have hP : va_P (eD E) classes (X ++ [(h0, .inr (2, [.int 0, .ref q7, .ref q16, .ref q25, .null, .int 0, .int 0, .int 0, .int 0, .int 0, .null, .int 0, .null, .int 0])), (q7, .inl (eC E 1, 16, .inr (.inr (.inr (.inr (fun _ => none)))))), (q16, .inl (eC E 2, 8, .inr (.inr (.inr (.inr (fun _ => none)))))), (q25, .inl (eC E 0, 28, .inl (fun _ => 0))), (q33, .inl (eC E 0, 16, .inl (fun _ => 0)))]) H := hP
  have hD : va_D A (X ++ [(h0, .inr (2, [.int 0, .ref q7, .ref q16, .ref q25, .null, .int 0, .int 0, .int 0, .int 0, .int 0, .null, .int 0, .null, .int 0])), (q7, .inl (eC E 1, 16, .inr (.inr (.inr (.inr (fun _ => none)))))), (q16, .inl (eC E 2, 8, .inr (.inr (.inr (.inr (fun _ => none)))))), (q25, .inl (eC E 0, 28, .inl (fun _ => 0))), (q33, .inl (eC E 0, 16, .inl (fun _ => 0)))]) := hD
  refine g_putXF (X := X) (L := [(h0, .inr (2, [.int 0, .ref q7, .ref q16, .ref q25, .null, .int 0, .int 0, .int 0, .int 0, .int 0, .null, .int 0, .null, .int 0])), (q7, .inl (eC E 1, 16, .inr (.inr (.inr (.inr (fun _ => none)))))), (q16, .inl (eC E 2, 8, .inr (.inr (.inr (.inr (fun _ => none)))))), (q25, .inl (eC E 0, 28, .inl (fun _ => 0))), (q33, .inl (eC E 0, 16, .inl (fun _ => 0)))]) (own := R_K) (T := F_K) (N := 14) (ci := 2) (v := .ref q33) (ty := (.array .int)) 0 hx hb hG in_us_K t_K t_K_ok n_K hown hK hP hD hS rfl rfl 4 (by decide) gm_178 rfl rfl hin (by decide +kernel) rfl rfl (Nat.le_of_ble_eq_true rfl) d_K_init_35 (fun H locs hP hD hS => ?_)
  have hP : va_P (eD E) classes (X ++ [(h0, .inr (2, [.int 0, .ref q7, .ref q16, .ref q25, .ref q33, .int 0, .int 0, .int 0, .int 0, .int 0, .null, .int 0, .null, .int 0])), (q7, .inl (eC E 1, 16, .inr (.inr (.inr (.inr (fun _ => none)))))), (q16, .inl (eC E 2, 8, .inr (.inr (.inr (.inr (fun _ => none)))))), (q25, .inl (eC E 0, 28, .inl (fun _ => 0))), (q33, .inl (eC E 0, 16, .inl (fun _ => 0)))]) H := hP
  have hD : va_D A (X ++ [(h0, .inr (2, [.int 0, .ref q7, .ref q16, .ref q25, .ref q33, .int 0, .int 0, .int 0, .int 0, .int 0, .null, .int 0, .null, .int 0])), (q7, .inl (eC E 1, 16, .inr (.inr (.inr (.inr (fun _ => none)))))), (q16, .inl (eC E 2, 8, .inr (.inr (.inr (.inr (fun _ => none)))))), (q25, .inl (eC E 0, 28, .inl (fun _ => 0))), (q33, .inl (eC E 0, 16, .inl (fun _ => 0)))]) := hD
  refine lv_aload_n hx hb d_K_init_38 rfl (lv_at hl 0 rfl) ?_
  refine lv_iconst (v := 0) hx hb d_K_init_39 (by decide) ?_
  refine g_putX (X := X) (L := [(h0, .inr (2, [.int 0, .ref q7, .ref q16, .ref q25, .ref q33, .int 0, .int 0, .int 0, .int 0, .int 0, .null, .int 0, .null, .int 0])), (q7, .inl (eC E 1, 16, .inr (.inr (.inr (.inr (fun _ => none)))))), (q16, .inl (eC E 2, 8, .inr (.inr (.inr (.inr (fun _ => none)))))), (q25, .inl (eC E 0, 28, .inl (fun _ => 0))), (q33, .inl (eC E 0, 16, .inl (fun _ => 0)))]) (own := R_K) (C := R_K) (T := F_K) (N := 14) (ci := 2) (v := .int 0) (ty := .int) 0 hx hb hG in_us_K t_K t_K_ok n_K hown hK hP hD hS rfl rfl 5 (by decide) gm_179 rfl rfl (by decide +kernel) rfl rfl (Nat.le_of_ble_eq_true rfl) d_K_init_40 (fun H locs hP hD hS => ?_)
  have hP : va_P (eD E) classes (X ++ [(h0, .inr (2, [.int 0, .ref q7, .ref q16, .ref q25, .ref q33, .int 0, .int 0, .int 0, .int 0, .int 0, .null, .int 0, .null, .int 0])), (q7, .inl (eC E 1, 16, .inr (.inr (.inr (.inr (fun _ => none)))))), (q16, .inl (eC E 2, 8, .inr (.inr (.inr (.inr (fun _ => none)))))), (q25, .inl (eC E 0, 28, .inl (fun _ => 0))), (q33, .inl (eC E 0, 16, .inl (fun _ => 0)))]) H := hP
  have hD : va_D A (X ++ [(h0, .inr (2, [.int 0, .ref q7, .ref q16, .ref q25, .ref q33, .int 0, .int 0, .int 0, .int 0, .int 0, .null, .int 0, .null, .int 0])), (q7, .inl (eC E 1, 16, .inr (.inr (.inr (.inr (fun _ => none)))))), (q16, .inl (eC E 2, 8, .inr (.inr (.inr (.inr (fun _ => none)))))), (q25, .inl (eC E 0, 28, .inl (fun _ => 0))), (q33, .inl (eC E 0, 16, .inl (fun _ => 0)))]) := hD
  refine lv_aload_n hx hb d_K_init_43 rfl (lv_at hl 0 rfl) ?_
  refine lv_iconst (v := 0) hx hb d_K_init_44 (by decide) ?_
  refine g_putX (X := X) (L := [(h0, .inr (2, [.int 0, .ref q7, .ref q16, .ref q25, .ref q33, .int 0, .int 0, .int 0, .int 0, .int 0, .null, .int 0, .null, .int 0])), (q7, .inl (eC E 1, 16, .inr (.inr (.inr (.inr (fun _ => none)))))), (q16, .inl (eC E 2, 8, .inr (.inr (.inr (.inr (fun _ => none)))))), (q25, .inl (eC E 0, 28, .inl (fun _ => 0))), (q33, .inl (eC E 0, 16, .inl (fun _ => 0)))]) (own := R_K) (C := R_K) (T := F_K) (N := 14) (ci := 2) (v := .int 0) (ty := .int) 0 hx hb hG in_us_K t_K t_K_ok n_K hown hK hP hD hS rfl rfl 6 (by decide) gm_180 rfl rfl (by decide +kernel) rfl rfl (Nat.le_of_ble_eq_true rfl) d_K_init_45 (fun H locs hP hD hS => ?_)
  have hP : va_P (eD E) classes (X ++ [(h0, .inr (2, [.int 0, .ref q7, .ref q16, .ref q25, .ref q33, .int 0, .int 0, .int 0, .int 0, .int 0, .null, .int 0, .null, .int 0])), (q7, .inl (eC E 1, 16, .inr (.inr (.inr (.inr (fun _ => none)))))), (q16, .inl (eC E 2, 8, .inr (.inr (.inr (.inr (fun _ => none)))))), (q25, .inl (eC E 0, 28, .inl (fun _ => 0))), (q33, .inl (eC E 0, 16, .inl (fun _ => 0)))]) H := hP
  have hD : va_D A (X ++ [(h0, .inr (2, [.int 0, .ref q7, .ref q16, .ref q25, .ref q33, .int 0, .int 0, .int 0, .int 0, .int 0, .null, .int 0, .null, .int 0])), (q7, .inl (eC E 1, 16, .inr (.inr (.inr (.inr (fun _ => none)))))), (q16, .inl (eC E 2, 8, .inr (.inr (.inr (.inr (fun _ => none)))))), (q25, .inl (eC E 0, 28, .inl (fun _ => 0))), (q33, .inl (eC E 0, 16, .inl (fun _ => 0)))]) := hD
  refine lv_aload_n hx hb d_K_init_48 rfl (lv_at hl 0 rfl) ?_
  refine lv_iconst (v := 0) hx hb d_K_init_49 (by decide) ?_
  refine g_putX (X := X) (L := [(h0, .inr (2, [.int 0, .ref q7, .ref q16, .ref q25, .ref q33, .int 0, .int 0, .int 0, .int 0, .int 0, .null, .int 0, .null, .int 0])), (q7, .inl (eC E 1, 16, .inr (.inr (.inr (.inr (fun _ => none)))))), (q16, .inl (eC E 2, 8, .inr (.inr (.inr (.inr (fun _ => none)))))), (q25, .inl (eC E 0, 28, .inl (fun _ => 0))), (q33, .inl (eC E 0, 16, .inl (fun _ => 0)))]) (own := R_K) (C := R_K) (T := F_K) (N := 14) (ci := 2) (v := .int 0) (ty := .int) 0 hx hb hG in_us_K t_K t_K_ok n_K hown hK hP hD hS rfl rfl 7 (by decide) gm_181 rfl rfl (by decide +kernel) rfl rfl (Nat.le_of_ble_eq_true rfl) d_K_init_50 (fun H locs hP hD hS => ?_)
  have hP : va_P (eD E) classes (X ++ [(h0, .inr (2, [.int 0, .ref q7, .ref q16, .ref q25, .ref q33, .int 0, .int 0, .int 0, .int 0, .int 0, .null, .int 0, .null, .int 0])), (q7, .inl (eC E 1, 16, .inr (.inr (.inr (.inr (fun _ => none)))))), (q16, .inl (eC E 2, 8, .inr (.inr (.inr (.inr (fun _ => none)))))), (q25, .inl (eC E 0, 28, .inl (fun _ => 0))), (q33, .inl (eC E 0, 16, .inl (fun _ => 0)))]) H := hP
  have hD : va_D A (X ++ [(h0, .inr (2, [.int 0, .ref q7, .ref q16, .ref q25, .ref q33, .int 0, .int 0, .int 0, .int 0, .int 0, .null, .int 0, .null, .int 0])), (q7, .inl (eC E 1, 16, .inr (.inr (.inr (.inr (fun _ => none)))))), (q16, .inl (eC E 2, 8, .inr (.inr (.inr (.inr (fun _ => none)))))), (q25, .inl (eC E 0, 28, .inl (fun _ => 0))), (q33, .inl (eC E 0, 16, .inl (fun _ => 0)))]) := hD
  refine lv_aload_n hx hb d_K_init_53 rfl (lv_at hl 0 rfl) ?_
  refine lv_iconst (v := 0) hx hb d_K_init_54 (by decide) ?_
  refine g_putX (X := X) (L := [(h0, .inr (2, [.int 0, .ref q7, .ref q16, .ref q25, .ref q33, .int 0, .int 0, .int 0, .int 0, .int 0, .null, .int 0, .null, .int 0])), (q7, .inl (eC E 1, 16, .inr (.inr (.inr (.inr (fun _ => none)))))), (q16, .inl (eC E 2, 8, .inr (.inr (.inr (.inr (fun _ => none)))))), (q25, .inl (eC E 0, 28, .inl (fun _ => 0))), (q33, .inl (eC E 0, 16, .inl (fun _ => 0)))]) (own := R_K) (C := R_K) (T := F_K) (N := 14) (ci := 2) (v := .int 0) (ty := .int) 0 hx hb hG in_us_K t_K t_K_ok n_K hown hK hP hD hS rfl rfl 8 (by decide) gm_182 rfl rfl (by decide +kernel) rfl rfl (Nat.le_of_ble_eq_true rfl) d_K_init_55 (fun H locs hP hD hS => ?_)
  have hP : va_P (eD E) classes (X ++ [(h0, .inr (2, [.int 0, .ref q7, .ref q16, .ref q25, .ref q33, .int 0, .int 0, .int 0, .int 0, .int 0, .null, .int 0, .null, .int 0])), (q7, .inl (eC E 1, 16, .inr (.inr (.inr (.inr (fun _ => none)))))), (q16, .inl (eC E 2, 8, .inr (.inr (.inr (.inr (fun _ => none)))))), (q25, .inl (eC E 0, 28, .inl (fun _ => 0))), (q33, .inl (eC E 0, 16, .inl (fun _ => 0)))]) H := hP
  have hD : va_D A (X ++ [(h0, .inr (2, [.int 0, .ref q7, .ref q16, .ref q25, .ref q33, .int 0, .int 0, .int 0, .int 0, .int 0, .null, .int 0, .null, .int 0])), (q7, .inl (eC E 1, 16, .inr (.inr (.inr (.inr (fun _ => none)))))), (q16, .inl (eC E 2, 8, .inr (.inr (.inr (.inr (fun _ => none)))))), (q25, .inl (eC E 0, 28, .inl (fun _ => 0))), (q33, .inl (eC E 0, 16, .inl (fun _ => 0)))]) := hD
  refine lv_aload_n hx hb d_K_init_58 rfl (lv_at hl 0 rfl) ?_
  refine lv_iconst (v := 0) hx hb d_K_init_59 (by decide) ?_
  refine g_putX (X := X) (L := [(h0, .inr (2, [.int 0, .ref q7, .ref q16, .ref q25, .ref q33, .int 0, .int 0, .int 0, .int 0, .int 0, .null, .int 0, .null, .int 0])), (q7, .inl (eC E 1, 16, .inr (.inr (.inr (.inr (fun _ => none)))))), (q16, .inl (eC E 2, 8, .inr (.inr (.inr (.inr (fun _ => none)))))), (q25, .inl (eC E 0, 28, .inl (fun _ => 0))), (q33, .inl (eC E 0, 16, .inl (fun _ => 0)))]) (own := R_K) (C := R_K) (T := F_K) (N := 14) (ci := 2) (v := .int 0) (ty := .boolean) 0 hx hb hG in_us_K t_K t_K_ok n_K hown hK hP hD hS rfl rfl 9 (by decide) gm_183 rfl rfl (by decide +kernel) rfl rfl (Nat.le_of_ble_eq_true rfl) d_K_init_60 (fun H locs hP hD hS => ?_)
  have hP : va_P (eD E) classes (X ++ [(h0, .inr (2, [.int 0, .ref q7, .ref q16, .ref q25, .ref q33, .int 0, .int 0, .int 0, .int 0, .int 0, .null, .int 0, .null, .int 0])), (q7, .inl (eC E 1, 16, .inr (.inr (.inr (.inr (fun _ => none)))))), (q16, .inl (eC E 2, 8, .inr (.inr (.inr (.inr (fun _ => none)))))), (q25, .inl (eC E 0, 28, .inl (fun _ => 0))), (q33, .inl (eC E 0, 16, .inl (fun _ => 0)))]) H := hP
  have hD : va_D A (X ++ [(h0, .inr (2, [.int 0, .ref q7, .ref q16, .ref q25, .ref q33, .int 0, .int 0, .int 0, .int 0, .int 0, .null, .int 0, .null, .int 0])), (q7, .inl (eC E 1, 16, .inr (.inr (.inr (.inr (fun _ => none)))))), (q16, .inl (eC E 2, 8, .inr (.inr (.inr (.inr (fun _ => none)))))), (q25, .inl (eC E 0, 28, .inl (fun _ => 0))), (q33, .inl (eC E 0, 16, .inl (fun _ => 0)))]) := hD
  refine lv_aload_n hx hb d_K_init_63 rfl (lv_at hl 0 rfl) ?_
  refine g_newX (X := X) (L := [(h0, .inr (2, [.int 0, .ref q7, .ref q16, .ref q25, .ref q33, .int 0, .int 0, .int 0, .int 0, .int 0, .null, .int 0, .null, .int 0])), (q7, .inl (eC E 1, 16, .inr (.inr (.inr (.inr (fun _ => none)))))), (q16, .inl (eC E 2, 8, .inr (.inr (.inr (.inr (fun _ => none)))))), (q25, .inl (eC E 0, 28, .inl (fun _ => 0))), (q33, .inl (eC E 0, 16, .inl (fun _ => 0)))]) (own := R_K) (C := R_W) (T := F_W) (N := 3) (ci := 1) (fs := [.null, .int 0, .int 0]) hx hb hG in_us_W t_W t_W_ok hown gm_95 gm_97 gm_73 hK hP hD hS hA rfl (fun j hj => by rcases (show j = 0 ∨ j = 1 ∨ j = 2 by omega) with rfl | rfl | rfl <;> rfl) (Nat.le_of_ble_eq_true rfl) (by show 0 + 16 + 8 + 28 + 16 + 3 ≤ 3706; omega) d_K_init_64 (fun q64 H hP hD hS => ?_)
  refine lv_dup hx hb d_K_init_67 rfl ?_
  refine lv_bipush (v := 100) hx hb d_K_init_68 (by decide) ?_
  refine g_callI (cc := b_K_init) (As := [.int 100]) (rest := [.ref q64, .ref h0]) ⟨hx, hb, hml, hown, hts⟩ (c_W_init l E (X ++ [(h0, .inr (2, [.int 0, .ref q7, .ref q16, .ref q25, .ref q33, .int 0, .int 0, .int 0, .int 0, .int 0, .null, .int 0, .null, .int 0])), (q7, .inl (eC E 1, 16, .inr (.inr (.inr (.inr (fun _ => none)))))), (q16, .inl (eC E 2, 8, .inr (.inr (.inr (.inr (fun _ => none)))))), (q25, .inl (eC E 0, 28, .inl (fun _ => 0))), (q33, .inl (eC E 0, 16, .inl (fun _ => 0)))]) q64 100 100 (by decide) (by decide) (by decide)) (cwI 1 hts (gi_I gm_100) rfl rfl rfl (hG _ gm_73) (hG _ gm_98) (hG _ gm_99) rfl (by decide +kernel) ⟨Nat.le_of_ble_eq_true rfl, Nat.le_of_ble_eq_true rfl⟩) hK hP hD hS hA rfl hl.1 rfl (Nat.le_of_ble_eq_true rfl) d_K_init_70 ⟨(Nat.le_of_ble_eq_true rfl), (by show 0 + 16 + 8 + 28 + 16 + 3 + 100 ≤ 3706; omega)⟩ (fun a64 H locs _ hP hD hS => ?_)
  rw [List.append_assoc] at hP hD
  have hP : va_P (eD E) classes (X ++ [(h0, .inr (2, [.int 0, .ref q7, .ref q16, .ref q25, .ref q33, .int 0, .int 0, .int 0, .int 0, .int 0, .null, .int 0, .null, .int 0])), (q7, .inl (eC E 1, 16, .inr (.inr (.inr (.inr (fun _ => none)))))), (q16, .inl (eC E 2, 8, .inr (.inr (.inr (.inr (fun _ => none)))))), (q25, .inl (eC E 0, 28, .inl (fun _ => 0))), (q33, .inl (eC E 0, 16, .inl (fun _ => 0))), (q64, .inr (1, [.ref a64, .int 0, .int 0])), (a64, .inl (eC E 0, 100, .inl (fun _ => 0)))]) H := hP
  have hD : va_D A (X ++ [(h0, .inr (2, [.int 0, .ref q7, .ref q16, .ref q25, .ref q33, .int 0, .int 0, .int 0, .int 0, .int 0, .null, .int 0, .null, .int 0])), (q7, .inl (eC E 1, 16, .inr (.inr (.inr (.inr (fun _ => none)))))), (q16, .inl (eC E 2, 8, .inr (.inr (.inr (.inr (fun _ => none)))))), (q25, .inl (eC E 0, 28, .inl (fun _ => 0))), (q33, .inl (eC E 0, 16, .inl (fun _ => 0))), (q64, .inr (1, [.ref a64, .int 0, .int 0])), (a64, .inl (eC E 0, 100, .inl (fun _ => 0)))]) := hD
  refine g_putXF (X := X) (L := [(h0, .inr (2, [.int 0, .ref q7, .ref q16, .ref q25, .ref q33, .int 0, .int 0, .int 0, .int 0, .int 0, .null, .int 0, .null, .int 0])), (q7, .inl (eC E 1, 16, .inr (.inr (.inr (.inr (fun _ => none)))))), (q16, .inl (eC E 2, 8, .inr (.inr (.inr (.inr (fun _ => none)))))), (q25, .inl (eC E 0, 28, .inl (fun _ => 0))), (q33, .inl (eC E 0, 16, .inl (fun _ => 0))), (q64, .inr (1, [.ref a64, .int 0, .int 0])), (a64, .inl (eC E 0, 100, .inl (fun _ => 0)))]) (own := R_K) (T := F_K) (N := 14) (ci := 2) (v := .ref q64) (ty := (.object "PipeKernel$Words")) 0 hx hb hG in_us_K t_K t_K_ok n_K hown hK hP hD hS rfl rfl 10 (by decide) gm_184 rfl rfl hin (by decide +kernel) rfl rfl (Nat.le_of_ble_eq_true rfl) d_K_init_73 (fun H locs hP hD hS => ?_)
  have hP : va_P (eD E) classes (X ++ [(h0, .inr (2, [.int 0, .ref q7, .ref q16, .ref q25, .ref q33, .int 0, .int 0, .int 0, .int 0, .int 0, .ref q64, .int 0, .null, .int 0])), (q7, .inl (eC E 1, 16, .inr (.inr (.inr (.inr (fun _ => none)))))), (q16, .inl (eC E 2, 8, .inr (.inr (.inr (.inr (fun _ => none)))))), (q25, .inl (eC E 0, 28, .inl (fun _ => 0))), (q33, .inl (eC E 0, 16, .inl (fun _ => 0))), (q64, .inr (1, [.ref a64, .int 0, .int 0])), (a64, .inl (eC E 0, 100, .inl (fun _ => 0)))]) H := hP
  have hD : va_D A (X ++ [(h0, .inr (2, [.int 0, .ref q7, .ref q16, .ref q25, .ref q33, .int 0, .int 0, .int 0, .int 0, .int 0, .ref q64, .int 0, .null, .int 0])), (q7, .inl (eC E 1, 16, .inr (.inr (.inr (.inr (fun _ => none)))))), (q16, .inl (eC E 2, 8, .inr (.inr (.inr (.inr (fun _ => none)))))), (q25, .inl (eC E 0, 28, .inl (fun _ => 0))), (q33, .inl (eC E 0, 16, .inl (fun _ => 0))), (q64, .inr (1, [.ref a64, .int 0, .int 0])), (a64, .inl (eC E 0, 100, .inl (fun _ => 0)))]) := hD
  refine lv_aload_n hx hb d_K_init_76 rfl (lv_at hl 0 rfl) ?_
  refine lv_iconst (v := 0) hx hb d_K_init_77 (by decide) ?_
  refine g_putX (X := X) (L := [(h0, .inr (2, [.int 0, .ref q7, .ref q16, .ref q25, .ref q33, .int 0, .int 0, .int 0, .int 0, .int 0, .ref q64, .int 0, .null, .int 0])), (q7, .inl (eC E 1, 16, .inr (.inr (.inr (.inr (fun _ => none)))))), (q16, .inl (eC E 2, 8, .inr (.inr (.inr (.inr (fun _ => none)))))), (q25, .inl (eC E 0, 28, .inl (fun _ => 0))), (q33, .inl (eC E 0, 16, .inl (fun _ => 0))), (q64, .inr (1, [.ref a64, .int 0, .int 0])), (a64, .inl (eC E 0, 100, .inl (fun _ => 0)))]) (own := R_K) (C := R_K) (T := F_K) (N := 14) (ci := 2) (v := .int 0) (ty := .boolean) 0 hx hb hG in_us_K t_K t_K_ok n_K hown hK hP hD hS rfl rfl 11 (by decide) gm_185 rfl rfl (by decide +kernel) rfl rfl (Nat.le_of_ble_eq_true rfl) d_K_init_78 (fun H locs hP hD hS => ?_)
  have hP : va_P (eD E) classes (X ++ [(h0, .inr (2, [.int 0, .ref q7, .ref q16, .ref q25, .ref q33, .int 0, .int 0, .int 0, .int 0, .int 0, .ref q64, .int 0, .null, .int 0])), (q7, .inl (eC E 1, 16, .inr (.inr (.inr (.inr (fun _ => none)))))), (q16, .inl (eC E 2, 8, .inr (.inr (.inr (.inr (fun _ => none)))))), (q25, .inl (eC E 0, 28, .inl (fun _ => 0))), (q33, .inl (eC E 0, 16, .inl (fun _ => 0))), (q64, .inr (1, [.ref a64, .int 0, .int 0])), (a64, .inl (eC E 0, 100, .inl (fun _ => 0)))]) H := hP
  have hD : va_D A (X ++ [(h0, .inr (2, [.int 0, .ref q7, .ref q16, .ref q25, .ref q33, .int 0, .int 0, .int 0, .int 0, .int 0, .ref q64, .int 0, .null, .int 0])), (q7, .inl (eC E 1, 16, .inr (.inr (.inr (.inr (fun _ => none)))))), (q16, .inl (eC E 2, 8, .inr (.inr (.inr (.inr (fun _ => none)))))), (q25, .inl (eC E 0, 28, .inl (fun _ => 0))), (q33, .inl (eC E 0, 16, .inl (fun _ => 0))), (q64, .inr (1, [.ref a64, .int 0, .int 0])), (a64, .inl (eC E 0, 100, .inl (fun _ => 0)))]) := hD
  refine lv_aload_n hx hb d_K_init_81 rfl (lv_at hl 0 rfl) ?_
  refine g_newX (X := X) (L := [(h0, .inr (2, [.int 0, .ref q7, .ref q16, .ref q25, .ref q33, .int 0, .int 0, .int 0, .int 0, .int 0, .ref q64, .int 0, .null, .int 0])), (q7, .inl (eC E 1, 16, .inr (.inr (.inr (.inr (fun _ => none)))))), (q16, .inl (eC E 2, 8, .inr (.inr (.inr (.inr (fun _ => none)))))), (q25, .inl (eC E 0, 28, .inl (fun _ => 0))), (q33, .inl (eC E 0, 16, .inl (fun _ => 0))), (q64, .inr (1, [.ref a64, .int 0, .int 0])), (a64, .inl (eC E 0, 100, .inl (fun _ => 0)))]) (own := R_K) (C := R_W) (T := F_W) (N := 3) (ci := 1) (fs := [.null, .int 0, .int 0]) hx hb hG in_us_W t_W t_W_ok hown gm_95 gm_97 gm_73 hK hP hD hS hA rfl (fun j hj => by rcases (show j = 0 ∨ j = 1 ∨ j = 2 by omega) with rfl | rfl | rfl <;> rfl) (Nat.le_of_ble_eq_true rfl) (by show 0 + 16 + 8 + 28 + 16 + 3 + 100 + 3 ≤ 3706; omega) d_K_init_82 (fun q82 H hP hD hS => ?_)
  refine lv_dup hx hb d_K_init_85 rfl ?_
  refine lv_sipush (v := 500) hx hb d_K_init_86 (by decide) ?_
  refine g_callI (cc := b_K_init) (As := [.int 500]) (rest := [.ref q82, .ref h0]) ⟨hx, hb, hml, hown, hts⟩ (c_W_init l E (X ++ [(h0, .inr (2, [.int 0, .ref q7, .ref q16, .ref q25, .ref q33, .int 0, .int 0, .int 0, .int 0, .int 0, .ref q64, .int 0, .null, .int 0])), (q7, .inl (eC E 1, 16, .inr (.inr (.inr (.inr (fun _ => none)))))), (q16, .inl (eC E 2, 8, .inr (.inr (.inr (.inr (fun _ => none)))))), (q25, .inl (eC E 0, 28, .inl (fun _ => 0))), (q33, .inl (eC E 0, 16, .inl (fun _ => 0))), (q64, .inr (1, [.ref a64, .int 0, .int 0])), (a64, .inl (eC E 0, 100, .inl (fun _ => 0)))]) q82 500 500 (by decide) (by decide) (by decide)) (cwI 1 hts (gi_I gm_100) rfl rfl rfl (hG _ gm_73) (hG _ gm_98) (hG _ gm_99) rfl (by decide +kernel) ⟨Nat.le_of_ble_eq_true rfl, Nat.le_of_ble_eq_true rfl⟩) hK hP hD hS hA rfl hl.1 rfl (Nat.le_of_ble_eq_true rfl) d_K_init_89 ⟨(Nat.le_of_ble_eq_true rfl), (by show 0 + 16 + 8 + 28 + 16 + 3 + 100 + 3 + 500 ≤ 3706; omega)⟩ (fun a82 H locs _ hP hD hS => ?_)
  rw [List.append_assoc] at hP hD
  have hP : va_P (eD E) classes (X ++ [(h0, .inr (2, [.int 0, .ref q7, .ref q16, .ref q25, .ref q33, .int 0, .int 0, .int 0, .int 0, .int 0, .ref q64, .int 0, .null, .int 0])), (q7, .inl (eC E 1, 16, .inr (.inr (.inr (.inr (fun _ => none)))))), (q16, .inl (eC E 2, 8, .inr (.inr (.inr (.inr (fun _ => none)))))), (q25, .inl (eC E 0, 28, .inl (fun _ => 0))), (q33, .inl (eC E 0, 16, .inl (fun _ => 0))), (q64, .inr (1, [.ref a64, .int 0, .int 0])), (a64, .inl (eC E 0, 100, .inl (fun _ => 0))), (q82, .inr (1, [.ref a82, .int 0, .int 0])), (a82, .inl (eC E 0, 500, .inl (fun _ => 0)))]) H := hP
  have hD : va_D A (X ++ [(h0, .inr (2, [.int 0, .ref q7, .ref q16, .ref q25, .ref q33, .int 0, .int 0, .int 0, .int 0, .int 0, .ref q64, .int 0, .null, .int 0])), (q7, .inl (eC E 1, 16, .inr (.inr (.inr (.inr (fun _ => none)))))), (q16, .inl (eC E 2, 8, .inr (.inr (.inr (.inr (fun _ => none)))))), (q25, .inl (eC E 0, 28, .inl (fun _ => 0))), (q33, .inl (eC E 0, 16, .inl (fun _ => 0))), (q64, .inr (1, [.ref a64, .int 0, .int 0])), (a64, .inl (eC E 0, 100, .inl (fun _ => 0))), (q82, .inr (1, [.ref a82, .int 0, .int 0])), (a82, .inl (eC E 0, 500, .inl (fun _ => 0)))]) := hD
  refine g_putXF (X := X) (L := [(h0, .inr (2, [.int 0, .ref q7, .ref q16, .ref q25, .ref q33, .int 0, .int 0, .int 0, .int 0, .int 0, .ref q64, .int 0, .null, .int 0])), (q7, .inl (eC E 1, 16, .inr (.inr (.inr (.inr (fun _ => none)))))), (q16, .inl (eC E 2, 8, .inr (.inr (.inr (.inr (fun _ => none)))))), (q25, .inl (eC E 0, 28, .inl (fun _ => 0))), (q33, .inl (eC E 0, 16, .inl (fun _ => 0))), (q64, .inr (1, [.ref a64, .int 0, .int 0])), (a64, .inl (eC E 0, 100, .inl (fun _ => 0))), (q82, .inr (1, [.ref a82, .int 0, .int 0])), (a82, .inl (eC E 0, 500, .inl (fun _ => 0)))]) (own := R_K) (T := F_K) (N := 14) (ci := 2) (v := .ref q82) (ty := (.object "PipeKernel$Words")) 0 hx hb hG in_us_K t_K t_K_ok n_K hown hK hP hD hS rfl rfl 12 (by decide) gm_186 rfl rfl hin (by decide +kernel) rfl rfl (Nat.le_of_ble_eq_true rfl) d_K_init_92 (fun H locs hP hD hS => ?_)
  have hP : va_P (eD E) classes (X ++ [(h0, .inr (2, [.int 0, .ref q7, .ref q16, .ref q25, .ref q33, .int 0, .int 0, .int 0, .int 0, .int 0, .ref q64, .int 0, .ref q82, .int 0])), (q7, .inl (eC E 1, 16, .inr (.inr (.inr (.inr (fun _ => none)))))), (q16, .inl (eC E 2, 8, .inr (.inr (.inr (.inr (fun _ => none)))))), (q25, .inl (eC E 0, 28, .inl (fun _ => 0))), (q33, .inl (eC E 0, 16, .inl (fun _ => 0))), (q64, .inr (1, [.ref a64, .int 0, .int 0])), (a64, .inl (eC E 0, 100, .inl (fun _ => 0))), (q82, .inr (1, [.ref a82, .int 0, .int 0])), (a82, .inl (eC E 0, 500, .inl (fun _ => 0)))]) H := hP
  have hD : va_D A (X ++ [(h0, .inr (2, [.int 0, .ref q7, .ref q16, .ref q25, .ref q33, .int 0, .int 0, .int 0, .int 0, .int 0, .ref q64, .int 0, .ref q82, .int 0])), (q7, .inl (eC E 1, 16, .inr (.inr (.inr (.inr (fun _ => none)))))), (q16, .inl (eC E 2, 8, .inr (.inr (.inr (.inr (fun _ => none)))))), (q25, .inl (eC E 0, 28, .inl (fun _ => 0))), (q33, .inl (eC E 0, 16, .inl (fun _ => 0))), (q64, .inr (1, [.ref a64, .int 0, .int 0])), (a64, .inl (eC E 0, 100, .inl (fun _ => 0))), (q82, .inr (1, [.ref a82, .int 0, .int 0])), (a82, .inl (eC E 0, 500, .inl (fun _ => 0)))]) := hD
  refine lv_aload_n hx hb d_K_init_95 rfl (lv_at hl 0 rfl) ?_
  refine lv_iconst (v := 0) hx hb d_K_init_96 (by decide) ?_
  refine g_putX (X := X) (L := [(h0, .inr (2, [.int 0, .ref q7, .ref q16, .ref q25, .ref q33, .int 0, .int 0, .int 0, .int 0, .int 0, .ref q64, .int 0, .ref q82, .int 0])), (q7, .inl (eC E 1, 16, .inr (.inr (.inr (.inr (fun _ => none)))))), (q16, .inl (eC E 2, 8, .inr (.inr (.inr (.inr (fun _ => none)))))), (q25, .inl (eC E 0, 28, .inl (fun _ => 0))), (q33, .inl (eC E 0, 16, .inl (fun _ => 0))), (q64, .inr (1, [.ref a64, .int 0, .int 0])), (a64, .inl (eC E 0, 100, .inl (fun _ => 0))), (q82, .inr (1, [.ref a82, .int 0, .int 0])), (a82, .inl (eC E 0, 500, .inl (fun _ => 0)))]) (own := R_K) (C := R_K) (T := F_K) (N := 14) (ci := 2) (v := .int 0) (ty := .int) 0 hx hb hG in_us_K t_K t_K_ok n_K hown hK hP hD hS rfl rfl 13 (by decide) gm_187 rfl rfl (by decide +kernel) rfl rfl (Nat.le_of_ble_eq_true rfl) d_K_init_97 (fun H locs hP hD hS => ?_)
  have hP : va_P (eD E) classes (X ++ [(h0, .inr (2, [.int 0, .ref q7, .ref q16, .ref q25, .ref q33, .int 0, .int 0, .int 0, .int 0, .int 0, .ref q64, .int 0, .ref q82, .int 0])), (q7, .inl (eC E 1, 16, .inr (.inr (.inr (.inr (fun _ => none)))))), (q16, .inl (eC E 2, 8, .inr (.inr (.inr (.inr (fun _ => none)))))), (q25, .inl (eC E 0, 28, .inl (fun _ => 0))), (q33, .inl (eC E 0, 16, .inl (fun _ => 0))), (q64, .inr (1, [.ref a64, .int 0, .int 0])), (a64, .inl (eC E 0, 100, .inl (fun _ => 0))), (q82, .inr (1, [.ref a82, .int 0, .int 0])), (a82, .inl (eC E 0, 500, .inl (fun _ => 0)))]) H := hP
  have hD : va_D A (X ++ [(h0, .inr (2, [.int 0, .ref q7, .ref q16, .ref q25, .ref q33, .int 0, .int 0, .int 0, .int 0, .int 0, .ref q64, .int 0, .ref q82, .int 0])), (q7, .inl (eC E 1, 16, .inr (.inr (.inr (.inr (fun _ => none)))))), (q16, .inl (eC E 2, 8, .inr (.inr (.inr (.inr (fun _ => none)))))), (q25, .inl (eC E 0, 28, .inl (fun _ => 0))), (q33, .inl (eC E 0, 16, .inl (fun _ => 0))), (q64, .inr (1, [.ref a64, .int 0, .int 0])), (a64, .inl (eC E 0, 100, .inl (fun _ => 0))), (q82, .inr (1, [.ref a82, .int 0, .int 0])), (a82, .inl (eC E 0, 500, .inl (fun _ => 0)))]) := hD
  refine lv_aload_n hx hb d_K_init_100 rfl (lv_at hl 0 rfl) ?_
  refine lv_iconst (v := 1) hx hb d_K_init_101 (by decide) ?_
  refine lv_iload_n hx hb d_K_init_102 rfl (lv_at hl 1 rfl) ?_
  refine lv_bipush (v := 100) hx hb d_K_init_103 (by decide) ?_
  refine va_mmin hx hb (hml.trans hl.1.symm) hown (hG _ gm_114) (hG _ gm_115) (hG _ gm_74) (hG _ gm_116) (Nat.le_of_ble_eq_true rfl) (Nat.le_of_ble_eq_true rfl) (Nat.le_of_ble_eq_true rfl) (by show 0 + 16 + 8 + 28 + 16 + 3 + 100 + 3 + 500 ≤ 3706; omega) d_K_init_105 ?_
  refine va_mmax hx hb (hml.trans hl.1.symm) hown (hG _ gm_117) (hG _ gm_118) (hG _ gm_74) (hG _ gm_119) (Nat.le_of_ble_eq_true rfl) (Nat.le_of_ble_eq_true rfl) (Nat.le_of_ble_eq_true rfl) (by show 0 + 16 + 8 + 28 + 16 + 3 + 100 + 3 + 500 ≤ 3706; omega) d_K_init_108 ?_
  show W _ _ _ _ _ _ _ _ _ _ _ _ _ _ _ (F0 m 111 ls [.int (kq x1 100), .ref h0])
  refine g_putXF (X := X) (L := [(h0, .inr (2, [.int 0, .ref q7, .ref q16, .ref q25, .ref q33, .int 0, .int 0, .int 0, .int 0, .int 0, .ref q64, .int 0, .ref q82, .int 0])), (q7, .inl (eC E 1, 16, .inr (.inr (.inr (.inr (fun _ => none)))))), (q16, .inl (eC E 2, 8, .inr (.inr (.inr (.inr (fun _ => none)))))), (q25, .inl (eC E 0, 28, .inl (fun _ => 0))), (q33, .inl (eC E 0, 16, .inl (fun _ => 0))), (q64, .inr (1, [.ref a64, .int 0, .int 0])), (a64, .inl (eC E 0, 100, .inl (fun _ => 0))), (q82, .inr (1, [.ref a82, .int 0, .int 0])), (a82, .inl (eC E 0, 500, .inl (fun _ => 0)))]) (own := R_K) (T := F_K) (N := 14) (ci := 2) (v := .int (kq x1 100)) (ty := .int) 0 hx hb hG in_us_K t_K t_K_ok n_K hown hK hP hD hS rfl rfl 0 (by decide) gm_174 rfl rfl hin (by decide +kernel) rfl rfl (Nat.le_of_ble_eq_true rfl) d_K_init_111 (fun H locs hP hD hS => ?_)
  have hP : va_P (eD E) classes (X ++ [(h0, .inr (2, [.int (kq x1 100), .ref q7, .ref q16, .ref q25, .ref q33, .int 0, .int 0, .int 0, .int 0, .int 0, .ref q64, .int 0, .ref q82, .int 0])), (q7, .inl (eC E 1, 16, .inr (.inr (.inr (.inr (fun _ => none)))))), (q16, .inl (eC E 2, 8, .inr (.inr (.inr (.inr (fun _ => none)))))), (q25, .inl (eC E 0, 28, .inl (fun _ => 0))), (q33, .inl (eC E 0, 16, .inl (fun _ => 0))), (q64, .inr (1, [.ref a64, .int 0, .int 0])), (a64, .inl (eC E 0, 100, .inl (fun _ => 0))), (q82, .inr (1, [.ref a82, .int 0, .int 0])), (a82, .inl (eC E 0, 500, .inl (fun _ => 0)))]) H := hP
  have hD : va_D A (X ++ [(h0, .inr (2, [.int (kq x1 100), .ref q7, .ref q16, .ref q25, .ref q33, .int 0, .int 0, .int 0, .int 0, .int 0, .ref q64, .int 0, .ref q82, .int 0])), (q7, .inl (eC E 1, 16, .inr (.inr (.inr (.inr (fun _ => none)))))), (q16, .inl (eC E 2, 8, .inr (.inr (.inr (.inr (fun _ => none)))))), (q25, .inl (eC E 0, 28, .inl (fun _ => 0))), (q33, .inl (eC E 0, 16, .inl (fun _ => 0))), (q64, .inr (1, [.ref a64, .int 0, .int 0])), (a64, .inl (eC E 0, 100, .inl (fun _ => 0))), (q82, .inr (1, [.ref a82, .int 0, .int 0])), (a82, .inl (eC E 0, 500, .inl (fun _ => 0)))]) := hD
  refine lv_iconst (v := 1) hx hb d_K_init_114 (by decide) ?_
  refine lv_iload_n hx hb d_K_init_115 rfl (lv_at hl 2 rfl) ?_
  refine lv_bipush (v := 16) hx hb d_K_init_116 (by decide) ?_
  refine va_mmin hx hb (hml.trans hl.1.symm) hown (hG _ gm_114) (hG _ gm_115) (hG _ gm_74) (hG _ gm_116) (Nat.le_of_ble_eq_true rfl) (Nat.le_of_ble_eq_true rfl) (Nat.le_of_ble_eq_true rfl) (by show 0 + 16 + 8 + 28 + 16 + 3 + 100 + 3 + 500 ≤ 3706; omega) d_K_init_118 ?_
  refine va_mmax hx hb (hml.trans hl.1.symm) hown (hG _ gm_117) (hG _ gm_118) (hG _ gm_74) (hG _ gm_119) (Nat.le_of_ble_eq_true rfl) (Nat.le_of_ble_eq_true rfl) (Nat.le_of_ble_eq_true rfl) (by show 0 + 16 + 8 + 28 + 16 + 3 + 100 + 3 + 500 ≤ 3706; omega) d_K_init_121 ?_
  show W _ _ _ _ _ _ _ _ _ _ _ _ _ _ _ (F0 m 124 ls [.int (kq x2 16)])
  refine lv_istore_n (lv' := [(3, .int (kq x2 16)), (0, .ref h0), (1, .int x1), (2, .int x2)]) hx hb d_K_init_124 rfl hl (by decide) rfl (fun ls hl => ?_)
  refine lv_iconst (v := 0) hx hb d_K_init_125 (by decide) ?_
  refine lv_istore (lv' := [(4, .int (nI 0)), (3, .int (kq x2 16)), (0, .ref h0), (1, .int x1), (2, .int x2)]) hx hb d_K_init_126 hl (by decide) rfl (fun ls hl => ?_)
  obtain ⟨g, hg⟩ : ∃ g : Nat → Nat → Nat, g = (fun a b => match a, b with | 0, 0 => h0 | 9, 0 => q7 | 10, 0 => q16 | 7, 0 => q25 | 8, 0 => q33 | 5, 8 => q64 | 6, 8 => a64 | 5, 9 => q82 | 6, 9 => a82 | _, _ => 0) := ⟨_, rfl⟩
  have hP : va_P (eD E) classes (X ++ (iL0 E g (kq x1 100) (f9 g 1 0) (fun _ => none) ++ pB E g 0)) H := by rw [f9_0, hg]; exact hP
  have hD : va_D A (X ++ (iL0 E g (kq x1 100) (f9 g 1 0) (fun _ => none) ++ pB E g 0)) := by rw [f9_0, hg]; exact hD
  refine W.widen (k := 8 + 4 * 0) (n := 674 + 180 * 0) (by omega) (by omega) ?_
  exact L128 16 0 g ls H _ rfl (by rw [hg]; rfl) hl hP hD hS

/-! the state of both objects as numbers: kind, index, place -/
abbrev KS : Type := Nat → Nat → Nat → Int32
def ur (f : KS) (a b : Nat) (r : Nat → Int32) : KS := fun a' b' => if a' = a ∧ b' = b then r else f a' b'
def w3 (f : KS) (a b k : Nat) (v : Int32) : KS := ur f a b (upd (f a b) k v)
theorem ur_at (f : KS) (a b : Nat) (r : Nat → Int32) : ur f a b r a b = r := by simp [ur]
theorem ur_ne {f : KS} {a b : Nat} {r : Nat → Int32} {a' b' : Nat} (h : ¬ (a' = a ∧ b' = b)) : ur f a b r a' b' = f a' b' := by simp only [ur, if_neg h]
theorem w3_eq (f : KS) (a b k : Nat) (v : Int32) (a' b' k' : Nat) : w3 f a b k v a' b' k' = if a' = a ∧ b' = b ∧ k' = k then v else f a' b' k' := by
  unfold w3 ur upd
  by_cases h : a' = a ∧ b' = b
  · obtain ⟨rfl, rfl⟩ := h
    by_cases hk : k' = k <;> simp [hk]
  · rw [if_neg h, if_neg (fun q => h ⟨q.1, q.2.1⟩)]
theorem vp_lt {j : Int32} {n : Nat} (h : vp_in j n) : j.toNatClampNeg < n := Nat.not_le.mp fun q => h (Or.inr q)
/-! the surroundings: class numbers, array classes, addresses, the pipes' room, the two tables' addresses -/
abbrev gE : Type := (va_G × (Nat → ClassId)) × (Nat → Nat → Nat) × Nat × Nat × Nat
def eD (E : gE) : va_G := E.1.1
def eC (E : gE) : Nat → ClassId := E.1.2
def ea (E : gE) : Nat → Nat → Nat := E.2.1
def eN (E : gE) : Nat := E.2.2.1
def eL (E : gE) : Nat := E.2.2.2.1
def eG (E : gE) : Nat := E.2.2.2.2
def eT (E : gE) : List (ClassId × FieldType) := [(eC E 0, .int), (eC E 1, .object "PipeKernel$Proc"), (eC E 2, .object "PipeKernel$Words"), (eC E 3, .long)]
def aL (cp a b : Nat) : Nat := match a with
  | 2 => 128
  | 3 => 32
  | 4 => 8
  | 6 => if b < 8 then cp else if b = 8 then 100 else 500
  | 7 => 28
  | 8 => 16
  | 25 => 128
  | 26 => 16
  | 27 => 2048
  | 28 => 1024
  | 29 => 16
  | 30 => 16
  | 31 => 128
  | 32 => 16
  | 33 => 16
  | 34 => 16
  | 35 => 16
  | 39 => 272
  | 40 => 17
  | 41 => 128
  | 42 => 8
  | 43 => 100
  | 46 => 500
  | _ => 0
/-- a cell by its key and its row of numbers -/
def ke (E : gE) (a b : Nat) (r : Nat → Int32) : va_E := match a with
  | 0 => .inr (2, [.int (r 0), .ref (ea E 9 0), .ref (ea E 10 0), .ref (ea E 7 0), .ref (ea E 8 0), .int (r 5), .int (r 6), .int (r 7), .int (r 8), .int (r 9), .ref (ea E 5 8), .int (r 11), .ref (ea E 5 9), .int (r 13)])
  | 1 => .inr (0, [.int (r 0), .ref (ea E 2 b), .ref (ea E 3 b), .ref (ea E 4 b), .int (r 4), .int (r 5), .int (r 6), .int (r 7), .int (r 8), .int (r 9), .int (r 10), .int (r 11)])
  | 5 => .inr (1, [.ref (ea E 6 b), .int (r 1), .int (r 2)])
  | 9 => .inl (eC E 1, 16, .inr (.inr (.inr (.inr (fun j => some (ea E 1 j))))))
  | 10 => .inl (eC E 2, 8, .inr (.inr (.inr (.inr (fun j => some (ea E 5 j))))))
  | 20 => .inr (3, [.int (r 0), .int (r 1), .int (r 2), .int (r 3), .int (r 4), .ref (ea E 25 0), .ref (ea E 26 0), .ref (ea E 27 0), .ref (ea E 28 0), .ref (ea E 29 0), .ref (ea E 30 0), .ref (ea E 31 0), .ref (ea E 32 0), .ref (ea E 33 0), .ref (ea E 34 0), .ref (ea E 35 0), .int (r 16), .int (r 17), .int (r 18), .ref (ea E 39 0), .ref (ea E 40 0), .ref (ea E 41 0), .ref (ea E 42 0), .ref (ea E 43 0), .int (r 24), .int (r 25), .ref (ea E 46 0), .int (r 27)])
  | 50 => .inl (eC E 3, 1, .inr (.inl (fun j => (r j).toInt64)))
  | _ => .inl (eC E 0, aL (eN E) a b, .inl r)
def KK : List (Nat × Nat) := [(0, 0), (9, 0), (10, 0), (7, 0), (8, 0), (5, 8), (6, 8), (5, 9), (6, 9)] ++ (List.range 16).flatMap (fun i => [(1, i), (2, i), (3, i), (4, i)]) ++ (List.range 8).flatMap (fun w => [(5, w), (6, w)]) ++ [(50, 0)]
def MM : List (Nat × Nat) := [(20, 0), (25, 0), (26, 0), (27, 0), (28, 0), (29, 0), (30, 0), (31, 0), (32, 0), (33, 0), (34, 0), (35, 0), (39, 0), (40, 0), (41, 0), (42, 0), (43, 0), (46, 0)]
theorem KK_nd : KK.Nodup := by decide +kernel
theorem MM_nd : MM.Nodup := by decide +kernel
theorem kk_0 : (0, 0) ∈ KK := by decide +kernel
theorem kk_7 : (7, 0) ∈ KK := by decide +kernel
theorem kk_8 : (8, 0) ∈ KK := by decide +kernel
theorem kk_9 : (9, 0) ∈ KK := by decide +kernel
theorem kk_10 : (10, 0) ∈ KK := by decide +kernel
theorem kk_50 : (50, 0) ∈ KK := by decide +kernel
theorem kk_1 : ∀ i, i < 16 → (1, i) ∈ KK := by decide +kernel
theorem kk_2 : ∀ i, i < 16 → (2, i) ∈ KK := by decide +kernel
theorem kk_3 : ∀ i, i < 16 → (3, i) ∈ KK := by decide +kernel
theorem kk_4 : ∀ i, i < 16 → (4, i) ∈ KK := by decide +kernel
theorem kk_5 : ∀ i, i < 10 → (5, i) ∈ KK := by decide +kernel
theorem kk_6 : ∀ i, i < 10 → (6, i) ∈ KK := by decide +kernel
/-! the world -/
def gw (ks : List (Nat × Nat)) (E : gE) (f : KS) : va_W := ks.map (fun q => (ea E q.1 q.2, ke E q.1 q.2 (f q.1 q.2)))
theorem gw_pos {ks : List (Nat × Nat)} {E : gE} {f : KS} {a b q : Nat} (h : ks[q]? = some (a, b)) : (gw ks E f)[q]? = some (ea E a b, ke E a b (f a b)) := by
  unfold gw
  rw [List.getElem?_map, h]
  rfl
theorem gw_set {ks : List (Nat × Nat)} {E : gE} {f : KS} {a b q : Nat} (hn : ks.Nodup) (h : ks[q]? = some (a, b)) (r : Nat → Int32) : (gw ks E f).set q (ea E a b, ke E a b r) = gw ks E (ur f a b r) := by
  have hl : q < ks.length := (List.getElem?_eq_some_iff.mp h).1
  apply List.ext_getElem?
  intro j
  by_cases hj : j = q
  · subst hj
    rw [List.getElem?_set_self (by unfold gw; rw [List.length_map]; exact hl), gw_pos h, ur_at]
  · rw [List.getElem?_set_ne (Ne.symm hj)]
    unfold gw
    rw [List.getElem?_map, List.getElem?_map]
    cases hk : ks[j]? with
    | none => rfl
    | some x =>
      have hx : ¬ (x.1 = a ∧ x.2 = b) := by
        intro z
        have hx2 : ks[j]? = ks[q]? := by rw [hk, h]; obtain ⟨x1, x2⟩ := x; simp only at z; rw [z.1, z.2]
        have hjl : j < ks.length := (List.getElem?_eq_some_iff.mp hk).1
        exact hj ((List.getElem?_inj hjl hn).mp hx2)
      show some (ea E x.1 x.2, ke E x.1 x.2 (f x.1 x.2)) = some (ea E x.1 x.2, ke E x.1 x.2 (ur f a b r x.1 x.2))
      rw [ur_ne hx]
def gA (E : gE) (ks : List (Nat × Nat)) (sz : Nat) : Nat → Prop := fun q => (∃ x, x ∈ ks ∧ q = ea E x.1 x.2) ∨ sz ≤ q
/-- the two tables of the class, that nobody writes -/
def tL (j : Nat) : Int32 := ([0, 0, 1, 1, 2, 2, 2, 2, 2, 2, 2, 2, 2, 2, 2, 2, 2, 1, 0, 1, 1, 2, 0, 1, 0, 1, -1, -1, -1, -1, 1, 0, 0, 2, 1, 0, 0, 1, 0, 1, 1, 1] : List Int32).getD j 0
def tG (j : Nat) : Int32 := ([0, 1, -1, 1, 0, -1, -1, -1, -1, -1, -1, -1, -1, -1, -1, -1, -1, 0, 1, -1, 0, -2, 0, -1, 1, -1, 0, 0, 0, 0, -1, 1, 0, -1, 1, 1, 2, 0, 2, 0, 0, 0] : List Int32).getD j 0
def kX (E : gE) (A : Nat → Prop) (U : State) (H : Heap) : Prop :=
  va_Nw (.fieldLinkNest "PipeKernel$Proc" 76 "PipeKernel" "LOOKS_AT" "[I" "PipeKernel") U ∧ va_Nw (.fieldLinkNest "PipeKernel$Proc" 85 "PipeKernel" "GROWS_BY" "[I" "PipeKernel") U ∧
  va_Z "PipeKernel" "LOOKS_AT" "[I" (.ref (eL E)) A U H ∧ va_Z "PipeKernel" "GROWS_BY" "[I" (.ref (eG E)) A U H ∧
  va_T .int (eL E) 42 (fun j => .int (tL j)) A U H ∧ va_T .int (eG E) 42 (fun j => .int (tG j)) A U H
theorem kX.go {E : gE} {A B : Nat → Prop} {s U : State} {H : Heap} {locs : List Loc} (h : kX E A s s.heap) (hS : va_S A s.heap H locs) (hAB : ∀ q, B q → A q) (hW : s.WarmedH U.vm) : kX E B U H := by
  obtain ⟨h1, h2, h3, h4, h5, h6⟩ := h
  exact ⟨va_Nw.warmF hW h1, va_Nw.warmF hW h2, ((va_Z.moved hW.alike h3).kept hS.2.1).narrow hAB, ((va_Z.moved hW.alike h4).kept hS.2.1).narrow hAB, ((va_T.moved hW.alike h5).kept hS.2.1).narrow hAB, ((va_T.moved hW.alike h6).kept hS.2.1).narrow hAB⟩
theorem kX.vm {E : gE} {A : Nat → Prop} {U V : State} {H : Heap} (hv : U.vm = V.vm) (h : kX E A U H) : kX E A V H := by
  obtain ⟨h1, h2, h3, h4, h5, h6⟩ := h
  have ha : U.vm.Alike V.vm := by rw [hv]; exact Vm.Alike.refl _
  exact ⟨va_Nw.same rfl hv h1, va_Nw.same rfl hv h2, va_Z.moved ha h3, va_Z.moved ha h4, va_T.moved ha h5, va_T.moved ha h6⟩
/-- what a method finds, and what it leaves -/
def gB (E : gE) (ks : List (Nat × Nat)) (A : Nat → Prop) (f : KS) (U : State) (H : Heap) : Prop :=
  va_P (eD E) classes (gw ks E f) H ∧ va_K (eD E) classes (eT E) U ∧ va_D A (gw ks E f) ∧ kX E A U H
def gV (E : gE) (ks : List (Nat × Nat)) (A : Nat → Prop) (f : KS) (s : State) (H : Heap) (locs : List Loc) : Prop :=
  va_P (eD E) classes (gw ks E f) H ∧ va_D A (gw ks E f) ∧ va_S A s.heap H locs
def gQi (E : gE) (ks : List (Nat × Nat)) (A : Nat → Prop) (Φ : Int32 → KS → Prop) : Array Value → State → Outcome → State → Prop := va_Qi Φ (fun u t => gB E ks A u t t.heap) A
def gQv (E : gE) (ks : List (Nat × Nat)) (A : Nat → Prop) (Φ : KS → Prop) : Array Value → State → Outcome → State → Prop := va_Qv Φ (fun u t => gB E ks A u t t.heap) A
def gQq (E : gE) (ks : List (Nat × Nat)) (A : Nat → Prop) (Φ : Option Nat → KS → Prop) : Array Value → State → Outcome → State → Prop := va_Qq (fun r u => ∃ o : Option Nat, r = o.map (ea E 1) ∧ (∀ i, o = some i → i < 16) ∧ Φ o u) (fun u t => gB E ks A u t t.heap) A
def gPc (E : gE) (ks : List (Nat × Nat)) (sz : Nat) (av : List Value) (f : KS) : Array Value → State → Prop := va_Pc av (fun U => U.heap.size = sz ∧ gB E ks (gA E ks sz) f U U.heap)
def gMi (l : Launch) (y : MethodName) (ws : List Cond) (rm : Room) (E : gE) (ks : List (Nat × Nat)) (av : List Value) (f : KS) (Φ : Int32 → KS → Prop) : Prop := ∀ sz : Nat, Met l y ws rm (gPc E ks sz av f) (gQi E ks (gA E ks sz) Φ) 0 0 (gA E ks sz)
def gMv (l : Launch) (y : MethodName) (ws : List Cond) (rm : Room) (E : gE) (ks : List (Nat × Nat)) (av : List Value) (f : KS) (Φ : KS → Prop) : Prop := ∀ sz : Nat, Met l y ws rm (gPc E ks sz av f) (gQv E ks (gA E ks sz) Φ) 0 0 (gA E ks sz)
def gMq (l : Launch) (y : MethodName) (ws : List Cond) (rm : Room) (E : gE) (ks : List (Nat × Nat)) (av : List Value) (f : KS) (Φ : Option Nat → KS → Prop) : Prop := ∀ sz : Nat, Met l y ws rm (gPc E ks sz av f) (gQq E ks (gA E ks sz) Φ) 0 0 (gA E ks sz)
theorem gPc_blind {E : gE} {ks : List (Nat × Nat)} {sz : Nat} {av : List Value} {f : KS} : FrameBlind (gPc E ks sz av f) := by
  intro a U g mk h
  obtain ⟨h1, h2, hP, hK, hD, hX⟩ := h
  exact ⟨h1, h2, hP, va_K.moved (u := U) (U := U.calling g mk a) (Vm.Alike.refl U.vm) hK, hD, hX.vm (V := U.calling g mk a) rfl⟩
theorem gA_ad {E : gE} {ks : List (Nat × Nat)} {sz : Nat} {f : KS} {k : Nat} {q : Nat × va_E} (h : (gw ks E f)[k]? = some q) : gA E ks sz q.1 := by
  unfold gw at h
  rw [List.getElem?_map] at h
  cases hk : ks[k]? with
  | none => rw [hk] at h; cases h
  | some x =>
    rw [hk] at h
    cases h
    exact Or.inl ⟨x, List.mem_of_getElem? hk, rfl⟩
theorem gA_le {E : gE} {ks : List (Nat × Nat)} {a b : Nat} (h : a ≤ b) : ∀ q, gA E ks b q → gA E ks a q := fun q hq => hq.elim Or.inl (fun z => Or.inr (Nat.le_trans h z))
theorem gV_D {E : gE} {ks : List (Nat × Nat)} {A B : Nat → Prop} {f : KS} {sz : Nat} (h : va_D A (gw ks E f)) : va_D (gA E ks sz) (gw ks E f) := ⟨h.1, fun _ _ hk => gA_ad hk⟩
section GR
variable {p : Program} {l : Launch} {e : Env} {R : Room} {s : State} {m : MethodId} {args : Array Value} {below : List Frame} {meth : Method} {c : Code} {H : Heap} {locs : List Loc} {cells slots : Nat} {Q : State → Prop}
variable {cc : ByteArray} {pc : Nat} {ls : Array Slot} {rest : List Value} {E : gE} {ks : List (Nat × Nat)} {A : Nat → Prop} {f : KS} {a b k : Nat}
theorem g_get {own C : String} {T : u_T} {N ci index : Nat} {v : Value} {fs : List Value} (hexec : p.tables.exec = Jvm.exec) (hb : c.code = cc) (hG : ∀ w ∈ gG, w.before args s = true) (hin : ∀ w ∈ u_ws C T N, w ∈ gG) (hown : s.vm.findClass own = some m.cls) (hK : va_K (eD E) classes (eT E) s) (hV : gV E ks A f s H locs)
    (hm : (a, b) ∈ ks) (hke : ke E a b (f a b) = .inr (ci, fs)) (hc : classes[ci]? = some (C, T, N)) (k : Nat) (hk : k < N) (hl : Cond.fieldLink own index C (T k).2.1 (T k).2.2.1 ∈ gG) (hd : (T k).1 = C) (hv : fs[k]? = some v) (hdg : decode cc pc = .ok (.getfield index, 3))
    (kk : W p l e R s m args below meth c H locs cells slots Q (F0 m (pc + 3) ls (v :: rest))) : W p l e R s m args below meth c H locs cells slots Q (F0 m pc ls (.ref (ea E a b) :: rest)) := by
  obtain ⟨q, hq⟩ := List.getElem?_of_mem hm
  have he : (gw ks E f)[q]? = some (ea E a b, .inr (ci, fs)) := by rw [gw_pos hq, hke]
  exact va_get hexec hb hG hin hown hK hV.1 q he hc k hk (hG _ hl) (fun x h => by rw [hd] at h; exact h) hv hdg kk
theorem g_put {own C : String} {T : u_T} {N ci index : Nat} {x : Int32} {fs : List Value} {ty : FieldType} (hnd : ks.Nodup) (hexec : p.tables.exec = Jvm.exec) (hb : c.code = cc) (hG : ∀ w ∈ gG, w.before args s = true) (hin : ∀ w ∈ u_ws C T N, w ∈ gG) (ty0 : Nat → FieldType) (hty : ∀ k, k < N → parseFieldDescriptor (T k).2.2.1 = some (ty0 k)) (hnm : ∀ a, a < N → ∀ b, b < N → a ≠ b → (T a).2.1 ≠ (T b).2.1) (hown : s.vm.findClass own = some m.cls) (hK : va_K (eD E) classes (eT E) s) (hV : gV E ks A f s H locs)
    (hm : (a, b) ∈ ks) (hke : ke E a b (f a b) = .inr (ci, fs)) (hc : classes[ci]? = some (C, T, N)) (k : Nat) (hk : k < N) (hl : Cond.fieldLink own index C (T k).2.1 (T k).2.2.1 ∈ gG) (hd : (T k).1 = C) (hfin : (T k).2.2.2 = false) (hdty : parseFieldDescriptor (T k).2.2.1 = some ty) (hn : narrow ty (.int x) = .int x) (hfit : fits ty (.int x) = true) (hlen : k < fs.length) (hnew : ke E a b (upd (f a b) k x) = .inr (ci, fs.set k (.int x))) (hdg : decode cc pc = .ok (.putfield index, 3))
    (kk : ∀ (s1 : KS) (H1 : Heap) (locs1 : List Loc), s1 = w3 f a b k x → gV E ks A s1 s H1 locs1 → W p l e R s m args below meth c H1 locs1 cells slots Q (F0 m (pc + 3) ls rest)) : W p l e R s m args below meth c H locs cells slots Q (F0 m pc ls (.int x :: .ref (ea E a b) :: rest)) := by
  obtain ⟨q, hq⟩ := List.getElem?_of_mem hm
  have he : (gw ks E f)[q]? = some (ea E a b, .inr (ci, fs)) := by rw [gw_pos hq, hke]
  refine va_put hexec hb hG hin ty0 hty hnm hown hK hV.1 hV.2.1 hV.2.2 q he hc k hk (hG _ hl) (fun x h => by rw [hd] at h; exact h) hfin hdty hn hfit hlen hdg (fun H1 locs1 h1 h2 h3 => ?_)
  rw [← hnew, gw_set hnd hq] at h1 h2
  exact kk _ H1 locs1 rfl ⟨h1, h2, h3⟩
theorem g_ald {n : Nat} (hexec : p.tables.exec = Jvm.exec) (hb : c.code = cc) (hK : va_K (eD E) classes (eT E) s) (hV : gV E ks A f s H locs) (hm : (a, b) ∈ ks) (hke : ke E a b (f a b) = .inl (eC E 0, n, .inl (f a b))) {j : Int32} (hin : vp_in j n) (hdg : decode cc pc = .ok (.iaload, 1))
    (kk : W p l e R s m args below meth c H locs cells slots Q (F0 m (pc + 1) ls (.int (f a b j.toNatClampNeg) :: rest))) : W p l e R s m args below meth c H locs cells slots Q (F0 m pc ls (.int j :: .ref (ea E a b) :: rest)) := by
  obtain ⟨q, hq⟩ := List.getElem?_of_mem hm
  have he : (gw ks E f)[q]? = some (ea E a b, .inl (eC E 0, n, .inl (f a b))) := by rw [gw_pos hq, hke]
  exact va_iald hexec hb hK hV.1 q 0 he rfl hin hdg kk
theorem g_ast {n : Nat} (hnd : ks.Nodup) (hexec : p.tables.exec = Jvm.exec) (hb : c.code = cc) (hK : va_K (eD E) classes (eT E) s) (hV : gV E ks A f s H locs) (hm : (a, b) ∈ ks) (hke : ∀ r, ke E a b r = .inl (eC E 0, n, .inl r)) {j x : Int32} (hin : vp_in j n) (hdg : decode cc pc = .ok (.iastore, 1))
    (kk : ∀ (s1 : KS) (H1 : Heap) (locs1 : List Loc), s1 = w3 f a b j.toNatClampNeg x → gV E ks A s1 s H1 locs1 → W p l e R s m args below meth c H1 locs1 cells slots Q (F0 m (pc + 1) ls rest)) : W p l e R s m args below meth c H locs cells slots Q (F0 m pc ls (.int x :: .int j :: .ref (ea E a b) :: rest)) := by
  obtain ⟨q, hq⟩ := List.getElem?_of_mem hm
  have he : (gw ks E f)[q]? = some (ea E a b, .inl (eC E 0, n, .inl (f a b))) := by rw [gw_pos hq, hke]
  refine va_iast hexec hb hK hV.1 hV.2.1 hV.2.2 q 0 he rfl hin hdg (fun H1 locs1 h1 h2 h3 => ?_)
  rw [← hke, gw_set hnd hq] at h1 h2
  exact kk _ H1 locs1 rfl ⟨h1, h2, h3⟩
theorem g_ald9 {a2 : Nat} {n : Nat} {C : String} {t0 : Nat} {cA : ClassId} (hexec : p.tables.exec = Jvm.exec) (hb : c.code = cc) (hK : va_K (eD E) classes (eT E) s) (hV : gV E ks A f s H locs) (hm : (a, b) ∈ ks) (hke : ke E a b (f a b) = .inl (cA, n, .inr (.inr (.inr (.inr (fun j => some (ea E a2 j))))))) (ht : (eT E)[t0]? = some (cA, .object C)) {j : Int32} (hin : vp_in j n) (hdg : decode cc pc = .ok (.aaload, 1))
    (kk : W p l e R s m args below meth c H locs cells slots Q (F0 m (pc + 1) ls (.ref (ea E a2 j.toNatClampNeg) :: rest))) : W p l e R s m args below meth c H locs cells slots Q (F0 m pc ls (.int j :: .ref (ea E a b) :: rest)) := by
  obtain ⟨q, hq⟩ := List.getElem?_of_mem hm
  have he : (gw ks E f)[q]? = some (ea E a b, .inl (cA, n, .inr (.inr (.inr (.inr (fun j => some (ea E a2 j))))))) := by rw [gw_pos hq, hke]
  exact va_aldq hexec hb hK hV.1 q t0 he ht hin hdg kk
theorem g_len {n : Nat} (hexec : p.tables.exec = Jvm.exec) (hb : c.code = cc) (hK : va_K (eD E) classes (eT E) s) (hV : gV E ks A f s H locs) (hm : (a, b) ∈ ks) (hke : ke E a b (f a b) = .inl (eC E 0, n, .inl (f a b))) (hdg : decode cc pc = .ok (.arraylength, 1))
    (kk : W p l e R s m args below meth c H locs cells slots Q (F0 m (pc + 1) ls (.int (nI n) :: rest))) : W p l e R s m args below meth c H locs cells slots Q (F0 m pc ls (.ref (ea E a b) :: rest)) := by
  obtain ⟨q, hq⟩ := List.getElem?_of_mem hm
  have he : (gw ks E f)[q]? = some (ea E a b, .inl (eC E 0, n, .inl (f a b))) := by rw [gw_pos hq, hke]
  exact va_alen hexec hb hK hV.1 q 0 he rfl rfl hdg kk
theorem g_recv {C : String} {T : u_T} {N ci : Nat} {fs : List Value} (hK : va_K (eD E) classes (eT E) s) (hV : gV E ks A f s H locs) (hm : (a, b) ∈ ks) (hke : ke E a b (f a b) = .inr (ci, fs)) (hc : classes[ci]? = some (C, T, N)) : ∃ cell : Cell, H[ea E a b]? = some cell ∧ cell.vm.isStatics = false ∧ s.vm.findClass C = some cell.cls := by
  obtain ⟨q, hq⟩ := List.getElem?_of_mem hm
  have he : (gw ks E f)[q]? = some (ea E a b, .inr (ci, fs)) := by rw [gw_pos hq, hke]
  exact va_recv hK hV.1 hc he
/-- what a callee is given -/
theorem g_pre {av : List Value} (hV : gV E ks A f s H locs) (hK : va_K (eD E) classes (eT E) s) (hX : kX E A s s.heap) (hAe : A = gA E ks s.heap.size) : ∀ U : State, U.heap = H → s.WarmedH U.vm → gPc E ks H.size av f av.toArray U := by
  intro U hU hW
  refine ⟨rfl, by rw [hU], by rw [hU]; exact hV.1, va_K.moved hW.alike hK, gV_D (B := A) hV.2.1, ?_⟩
  rw [hU]
  exact hX.go hV.2.2 (by rw [hAe]; exact gA_le hV.2.2.1) hW
theorem g_back {t : State} {H1 : Heap} {locs1 : List Loc} {u : KS} (hAe : A = gA E ks s.heap.size) (ht : t.heap = H1) (hB : gB E ks (gA E ks H.size) u t t.heap) (hz : s.heap.size ≤ H.size) (hS : va_S A s.heap H1 locs1) : gV E ks A u s H1 locs1 := by
  rw [ht] at hB
  exact ⟨hB.1, by rw [hAe]; exact gV_D (B := gA E ks H.size) hB.2.2.1, hS⟩
theorem g_callV {own C : String} {index : Nat} {y : MethodName} {bytes : ByteArray} {maxL nL n : Nat} {ret : Option FieldType} {ws Ts : List Cond} {rm : Room} {As st0 : List Value} {bb : Nat} {Qa : Nat → Array Value → State → Outcome → State → Prop}
    (S : CallFix p m c cc nL s args Ts own) (hM : ∀ sz : Nat, Met l y ws rm (gPc E ks sz (.ref bb :: As) f) (Qa sz) 0 0 (gA E ks sz)) (cw : CallW R s args own C index y bytes maxL ret ws rm 0 0 n) (hV : gV E ks A f s H locs) (hK : va_K (eD E) classes (eT E) s) (hX : kX E A s s.heap) (hAe : A = gA E ks s.heap.size)
    (hr : ∃ cell : Cell, H[bb]? = some cell ∧ cell.vm.isStatics = false ∧ s.vm.findClass C = some cell.cls) (hn : As.length = n) (hsz : ls.size = nL) (hst : st0 = As.reverse ++ .ref bb :: rest) (hW : (rest.map fun v => v.category).sum ≤ 8) (hdg : decode cc pc = .ok (.invokevirtual index, 3)) (h0 : cells ≤ R.cells ∧ slots ≤ R.slots) :
    va_Run p l e R s m args below meth c H locs cells slots 0 0 (F0 m pc ls st0) rest (Qa H.size (Value.ref bb :: As).toArray) (gA E ks H.size) :=
  va_runV S (hM H.size) cw ⟨gPc_blind, hr, g_pre hV hK hX hAe⟩ rfl hn hsz hst (lv_room hW) hdg h0
theorem g_callS {own : String} {index : Nat} {y : MethodName} {bytes : ByteArray} {maxL nL n : Nat} {ret : Option FieldType} {ws Ts : List Cond} {rm : Room} {As st0 : List Value} {Qa : Nat → Array Value → State → Outcome → State → Prop}
    (S : CallFix p m c cc nL s args Ts own) (hM : ∀ sz : Nat, Met l y ws rm (gPc E ks sz As f) (Qa sz) 0 0 (gA E ks sz)) (cw : CallB R s args own index y bytes maxL ret ws rm 0 0 n ∧ (Cond.static y).before args s = true) (hV : gV E ks A f s H locs) (hK : va_K (eD E) classes (eT E) s) (hX : kX E A s s.heap) (hAe : A = gA E ks s.heap.size)
    (hn : As.length = n) (hsz : ls.size = nL) (hst : st0 = As.reverse ++ rest) (hW : (rest.map fun v => v.category).sum ≤ 8) (hdg : decode cc pc = .ok (.invokestatic index, 3)) (h0 : cells ≤ R.cells ∧ slots ≤ R.slots) :
    va_Run p l e R s m args below meth c H locs cells slots 0 0 (F0 m pc ls st0) rest (Qa H.size As.toArray) (gA E ks H.size) :=
  va_runS S (hM H.size) cw ⟨gPc_blind, g_pre hV hK hX hAe⟩ rfl hn hsz hst (lv_room hW) hdg h0
theorem g_goi {st0 : List Value} {av : Array Value} {Φ : Int32 → KS → Prop} (hr : va_Run p l e R s m args below meth c H locs cells slots 0 0 (F0 m pc ls st0) rest (gQi E ks (gA E ks H.size) Φ av) (gA E ks H.size)) (hV : gV E ks A f s H locs) (hAe : A = gA E ks s.heap.size)
    (kk : ∀ (r : Int32) (u : KS) (H1 : Heap) (locs1 : List Loc), Φ r u → gV E ks A u s H1 locs1 → W p l e R s m args below meth c H1 locs1 cells slots Q (F0 m (pc + 3) ls (.int r :: rest))) : W p l e R s m args below meth c H locs cells slots Q (F0 m pc ls st0) := by
  refine va_calli hr hV.2.2 (fun q _ h => by rw [hAe]; exact gA_le hV.2.2.1 q h) (fun q h => by rw [hAe]; exact gA_le hV.2.2.1 q h) (fun r u t H1 locs1 ht hvm hp hB hz hk hS => ?_)
  exact kk r u H1 locs1 hp (g_back hAe ht hB hV.2.2.1 hS)
theorem g_gov {st0 : List Value} {av : Array Value} {Φ : KS → Prop} (hr : va_Run p l e R s m args below meth c H locs cells slots 0 0 (F0 m pc ls st0) rest (gQv E ks (gA E ks H.size) Φ av) (gA E ks H.size)) (hV : gV E ks A f s H locs) (hAe : A = gA E ks s.heap.size)
    (kk : ∀ (u : KS) (H1 : Heap) (locs1 : List Loc), Φ u → gV E ks A u s H1 locs1 → W p l e R s m args below meth c H1 locs1 cells slots Q (F0 m (pc + 3) ls rest)) : W p l e R s m args below meth c H locs cells slots Q (F0 m pc ls st0) := by
  refine va_callv hr hV.2.2 (fun q _ h => by rw [hAe]; exact gA_le hV.2.2.1 q h) (fun q h => by rw [hAe]; exact gA_le hV.2.2.1 q h) (fun u t H1 locs1 ht hvm hp hB hz hk hS => ?_)
  exact kk u H1 locs1 hp (g_back hAe ht hB hV.2.2.1 hS)
theorem g_goq {st0 : List Value} {av : Array Value} {Φ : Option Nat → KS → Prop} (hr : va_Run p l e R s m args below meth c H locs cells slots 0 0 (F0 m pc ls st0) rest (gQq E ks (gA E ks H.size) Φ av) (gA E ks H.size)) (hV : gV E ks A f s H locs) (hAe : A = gA E ks s.heap.size)
    (kk : ∀ (o : Option Nat) (u : KS) (H1 : Heap) (locs1 : List Loc), (∀ i, o = some i → i < 16) → Φ o u → gV E ks A u s H1 locs1 → W p l e R s m args below meth c H1 locs1 cells slots Q (F0 m (pc + 3) ls (va_rf (Option.map (ea E 1) o) :: rest))) : W p l e R s m args below meth c H locs cells slots Q (F0 m pc ls st0) := by
  refine va_callq hr hV.2.2 (fun q _ h => by rw [hAe]; exact gA_le hV.2.2.1 q h) (fun q h => by rw [hAe]; exact gA_le hV.2.2.1 q h) (fun r u t H1 locs1 ht hvm hp hB hz hk hS => ?_)
  obtain ⟨o, rfl, h16, hp⟩ := hp
  exact kk o u H1 locs1 h16 hp (g_back hAe ht hB hV.2.2.1 hS)
/-- a method's end -/
theorem g_post {t : State} (hV : gV E ks A f s H locs) (hK : va_K (eD E) classes (eT E) s) (hX : kX E A s s.heap) (ht : t.heap = H) (hW : s.WarmedH t.vm) : gB E ks A f t t.heap := by
  rw [ht]
  exact ⟨hV.1, va_K.moved hW.alike hK, hV.2.1, hX.go hV.2.2 (fun _ h => h) hW⟩
theorem kr_i {v : Int32} {Φ : Int32 → KS → Prop} (hexec : p.tables.exec = Jvm.exec) (hb : c.code = cc) (hr : meth.sig.returnType = some .int) (hV : gV E ks A f s H locs) (hK : va_K (eD E) classes (eT E) s) (hX : kX E A s s.heap) (hAe : A = gA E ks s.heap.size) (hΦ : Φ v f) (hdg : decode cc pc = .ok (.ireturn, 1)) (hlocks : meth.locks = false := by assumption) :
    W p l e R s m args below meth c H locs cells slots (MQ below (gQi E ks A Φ) args s cells slots A) (F0 m pc ls [.int v]) :=
  W.iret hexec hb hr (fun t ht hW => ⟨⟨v, f, rfl, hΦ, g_post hV hK hX ht hW⟩, hV.2.2.F ht⟩) hV.2.2.2.2 hdg hlocks
theorem kr_z {v : Int32} {Φ : Int32 → KS → Prop} (hexec : p.tables.exec = Jvm.exec) (hb : c.code = cc) (hr : meth.sig.returnType = some .boolean) (hV : gV E ks A f s H locs) (hK : va_K (eD E) classes (eT E) s) (hX : kX E A s s.heap) (hAe : A = gA E ks s.heap.size) (hv : v = 0 ∨ v = 1) (hΦ : Φ v f) (hdg : decode cc pc = .ok (.ireturn, 1)) (hlocks : meth.locks = false := by assumption) :
    W p l e R s m args below meth c H locs cells slots (MQ below (gQi E ks A Φ) args s cells slots A) (F0 m pc ls [.int v]) :=
  W.zret hexec hb hr (by rcases hv with rfl | rfl <;> decide) (fun t ht hW => ⟨⟨v, f, rfl, hΦ, g_post hV hK hX ht hW⟩, hV.2.2.F ht⟩) hV.2.2.2.2 hdg hlocks
theorem kr_v {Φ : KS → Prop} (hexec : p.tables.exec = Jvm.exec) (hb : c.code = cc) (hr : meth.sig.returnType = none) (hV : gV E ks A f s H locs) (hK : va_K (eD E) classes (eT E) s) (hX : kX E A s s.heap) (hAe : A = gA E ks s.heap.size) (hΦ : Φ f) (hdg : decode cc pc = .ok (.return_, 1)) (hlocks : meth.locks = false := by assumption) :
    W p l e R s m args below meth c H locs cells slots (MQ below (gQv E ks A Φ) args s cells slots A) (F0 m pc ls []) :=
  W.vret hexec hb hr (fun t ht hW => ⟨⟨f, rfl, hΦ, g_post hV hK hX ht hW⟩, hV.2.2.F ht⟩) hV.2.2.2.2 hdg hlocks
theorem kr_q {o : Option Nat} {C : String} {Φ : Option Nat → KS → Prop} (hexec : p.tables.exec = Jvm.exec) (hb : c.code = cc) (hr : meth.sig.returnType = some (.object C)) (hV : gV E ks A f s H locs) (hK : va_K (eD E) classes (eT E) s) (hX : kX E A s s.heap) (hAe : A = gA E ks s.heap.size) (ho : ∀ i, o = some i → i < 16) (hΦ : Φ o f) (hdg : decode cc pc = .ok (.areturn, 1)) (hlocks : meth.locks = false := by assumption) :
    W p l e R s m args below meth c H locs cells slots (MQ below (gQq E ks A Φ) args s cells slots A) (F0 m pc ls [va_rf (Option.map (ea E 1) o)]) :=
  W.aret hexec hb hr (Or.inl ⟨_, rfl⟩) (va_rf_or _) (fun t ht hW => ⟨⟨_, f, rfl, ⟨o, rfl, ho, hΦ⟩, g_post hV hK hX ht hW⟩, hV.2.2.F ht⟩) hV.2.2.2.2 hdg hlocks
theorem kr_dflt {g g2 : JFrame} (hd : W p l e R s m args below meth c H locs cells slots Q g2) (h : W p l e R s m args below meth c H locs cells slots Q g2 → W p l e R s m args below meth c H locs cells slots Q g) : W p l e R s m args below meth c H locs cells slots Q g := h hd
end GR

theorem gi_V {c0 cd : Cond} {own C : String} {idx : Nat} {y : MethodName} (h1 : Cond.methodLink own idx y ∈ gG) (h2 : Cond.instanceMethod y ∈ gG) (h3 : Cond.selects C y y ∈ gG) (h4 : Cond.initialized C ∈ gG) (h5 : cd ∈ gG) : GoodIn (c0 :: gG) (wsV own idx C y (cd :: gG)) := by
  intro w hw
  have h : w ∈ gG := by
    unfold wsV at hw
    simp only [List.cons_append, List.nil_append, List.mem_cons] at hw
    rcases hw with rfl | rfl | rfl | rfl | rfl | h
    · exact h1
    · exact h2
    · exact h3
    · exact h4
    · exact h5
    · exact h
  exact ⟨List.mem_cons_of_mem _ h, gG_good w h⟩
theorem gi_S {c0 cd : Cond} {own : String} {idx : Nat} {y : MethodName} (h1 : Cond.methodLink own idx y ∈ gG) (h2 : Cond.static y ∈ gG) (h3 : Cond.initialized y.cls ∈ gG) (h5 : cd ∈ gG) : GoodIn (c0 :: gG) (va_wsS own idx y (cd :: gG)) := by
  intro w hw
  have h : w ∈ gG := by
    unfold va_wsS at hw
    simp only [List.cons_append, List.nil_append, List.mem_cons] at hw
    rcases hw with rfl | rfl | rfl | rfl | h
    · exact h1
    · exact h2
    · exact h3
    · exact h5
    · exact h
  exact ⟨List.mem_cons_of_mem _ h, gG_good w h⟩
theorem in_us_P : ∀ w ∈ u_ws R_P F_P 12, w ∈ gG := by
  intro w hw
  obtain ⟨k, hk, rfl⟩ := List.mem_map.mp hw
  have hk : k < 12 := List.mem_range.mp hk
  by_cases h0 : k = 0
  · subst h0; exact tb_tables_1_1 (w := u_lay R_P F_P 0) (List.mem_of_getElem? (i := 78) rfl) rfl
  by_cases h1 : k = 1
  · subst h1; exact tb_tables_1_1 (w := u_lay R_P F_P 1) (List.mem_of_getElem? (i := 80) rfl) rfl
  by_cases h2 : k = 2
  · subst h2; exact tb_tables_1_1 (w := u_lay R_P F_P 2) (List.mem_of_getElem? (i := 82) rfl) rfl
  by_cases h3 : k = 3
  · subst h3; exact tb_tables_1_1 (w := u_lay R_P F_P 3) (List.mem_of_getElem? (i := 84) rfl) rfl
  by_cases h4 : k = 4
  · subst h4; exact tb_tables_1_1 (w := u_lay R_P F_P 4) (List.mem_of_getElem? (i := 86) rfl) rfl
  by_cases h5 : k = 5
  · subst h5; exact tb_tables_1_1 (w := u_lay R_P F_P 5) (List.mem_of_getElem? (i := 88) rfl) rfl
  by_cases h6 : k = 6
  · subst h6; exact tb_tables_1_1 (w := u_lay R_P F_P 6) (List.mem_of_getElem? (i := 90) rfl) rfl
  by_cases h7 : k = 7
  · subst h7; exact tb_tables_1_1 (w := u_lay R_P F_P 7) (List.mem_of_getElem? (i := 92) rfl) rfl
  by_cases h8 : k = 8
  · subst h8; exact tb_tables_1_1 (w := u_lay R_P F_P 8) (List.mem_of_getElem? (i := 94) rfl) rfl
  by_cases h9 : k = 9
  · subst h9; exact tb_tables_1_1 (w := u_lay R_P F_P 9) (List.mem_of_getElem? (i := 96) rfl) rfl
  by_cases h10 : k = 10
  · subst h10; exact tb_tables_1_1 (w := u_lay R_P F_P 10) (List.mem_of_getElem? (i := 98) rfl) rfl
  have h9 : k = 11 := by omega
  subst h9; exact tb_tables_1_1 (w := u_lay R_P F_P 11) (List.mem_of_getElem? (i := 100) rfl) rfl
theorem in_us_W : ∀ w ∈ u_ws R_W F_W 3, w ∈ gG := by
  intro w hw
  obtain ⟨k, hk, rfl⟩ := List.mem_map.mp hw
  have hk : k < 3 := List.mem_range.mp hk
  by_cases h0 : k = 0
  · subst h0; exact tb_tables_1_1 (w := u_lay R_W F_W 0) (List.mem_of_getElem? (i := 35) rfl) rfl
  by_cases h1 : k = 1
  · subst h1; exact tb_tables_1_1 (w := u_lay R_W F_W 1) (List.mem_of_getElem? (i := 37) rfl) rfl
  have h9 : k = 2 := by omega
  subst h9; exact tb_tables_1_1 (w := u_lay R_W F_W 2) (List.mem_of_getElem? (i := 39) rfl) rfl
theorem in_us_K : ∀ w ∈ u_ws R_K F_K 14, w ∈ gG := by
  intro w hw
  obtain ⟨k, hk, rfl⟩ := List.mem_map.mp hw
  have hk : k < 14 := List.mem_range.mp hk
  by_cases h0 : k = 0
  · subst h0; exact tb_tables_1_1 (w := u_lay R_K F_K 0) (List.mem_of_getElem? (i := 117) rfl) rfl
  by_cases h1 : k = 1
  · subst h1; exact tb_tables_1_1 (w := u_lay R_K F_K 1) (List.mem_of_getElem? (i := 119) rfl) rfl
  by_cases h2 : k = 2
  · subst h2; exact tb_tables_1_1 (w := u_lay R_K F_K 2) (List.mem_of_getElem? (i := 121) rfl) rfl
  by_cases h3 : k = 3
  · subst h3; exact tb_tables_1_1 (w := u_lay R_K F_K 3) (List.mem_of_getElem? (i := 123) rfl) rfl
  by_cases h4 : k = 4
  · subst h4; exact tb_tables_1_1 (w := u_lay R_K F_K 4) (List.mem_of_getElem? (i := 125) rfl) rfl
  by_cases h5 : k = 5
  · subst h5; exact tb_tables_1_1 (w := u_lay R_K F_K 5) (List.mem_of_getElem? (i := 127) rfl) rfl
  by_cases h6 : k = 6
  · subst h6; exact tb_tables_1_1 (w := u_lay R_K F_K 6) (List.mem_of_getElem? (i := 129) rfl) rfl
  by_cases h7 : k = 7
  · subst h7; exact tb_tables_1_1 (w := u_lay R_K F_K 7) (List.mem_of_getElem? (i := 131) rfl) rfl
  by_cases h8 : k = 8
  · subst h8; exact tb_tables_1_1 (w := u_lay R_K F_K 8) (List.mem_of_getElem? (i := 133) rfl) rfl
  by_cases h9 : k = 9
  · subst h9; exact tb_tables_1_1 (w := u_lay R_K F_K 9) (List.mem_of_getElem? (i := 135) rfl) rfl
  by_cases h10 : k = 10
  · subst h10; exact tb_tables_1_1 (w := u_lay R_K F_K 10) (List.mem_of_getElem? (i := 137) rfl) rfl
  by_cases h11 : k = 11
  · subst h11; exact tb_tables_1_1 (w := u_lay R_K F_K 11) (List.mem_of_getElem? (i := 139) rfl) rfl
  by_cases h12 : k = 12
  · subst h12; exact tb_tables_1_1 (w := u_lay R_K F_K 12) (List.mem_of_getElem? (i := 141) rfl) rfl
  have h9 : k = 13 := by omega
  subst h9; exact tb_tables_1_1 (w := u_lay R_K F_K 13) (List.mem_of_getElem? (i := 143) rfl) rfl
theorem in_us_M : ∀ w ∈ u_ws R_M F_M 28, w ∈ gG := by
  intro w hw
  obtain ⟨k, hk, rfl⟩ := List.mem_map.mp hw
  have hk : k < 28 := List.mem_range.mp hk
  by_cases h0 : k = 0
  · subst h0; exact tb_tables_1_3 (w := u_lay R_M F_M 0) (List.mem_of_getElem? (i := 193) rfl) rfl
  by_cases h1 : k = 1
  · subst h1; exact tb_tables_1_3 (w := u_lay R_M F_M 1) (List.mem_of_getElem? (i := 195) rfl) rfl
  by_cases h2 : k = 2
  · subst h2; exact tb_tables_1_3 (w := u_lay R_M F_M 2) (List.mem_of_getElem? (i := 197) rfl) rfl
  by_cases h3 : k = 3
  · subst h3; exact tb_tables_1_3 (w := u_lay R_M F_M 3) (List.mem_of_getElem? (i := 199) rfl) rfl
  by_cases h4 : k = 4
  · subst h4; exact tb_tables_1_3 (w := u_lay R_M F_M 4) (List.mem_of_getElem? (i := 201) rfl) rfl
  by_cases h5 : k = 5
  · subst h5; exact tb_tables_1_3 (w := u_lay R_M F_M 5) (List.mem_of_getElem? (i := 203) rfl) rfl
  by_cases h6 : k = 6
  · subst h6; exact tb_tables_1_3 (w := u_lay R_M F_M 6) (List.mem_of_getElem? (i := 205) rfl) rfl
  by_cases h7 : k = 7
  · subst h7; exact tb_tables_1_3 (w := u_lay R_M F_M 7) (List.mem_of_getElem? (i := 207) rfl) rfl
  by_cases h8 : k = 8
  · subst h8; exact tb_tables_1_3 (w := u_lay R_M F_M 8) (List.mem_of_getElem? (i := 209) rfl) rfl
  by_cases h9 : k = 9
  · subst h9; exact tb_tables_1_3 (w := u_lay R_M F_M 9) (List.mem_of_getElem? (i := 211) rfl) rfl
  by_cases h10 : k = 10
  · subst h10; exact tb_tables_1_3 (w := u_lay R_M F_M 10) (List.mem_of_getElem? (i := 213) rfl) rfl
  by_cases h11 : k = 11
  · subst h11; exact tb_tables_1_3 (w := u_lay R_M F_M 11) (List.mem_of_getElem? (i := 215) rfl) rfl
  by_cases h12 : k = 12
  · subst h12; exact tb_tables_1_3 (w := u_lay R_M F_M 12) (List.mem_of_getElem? (i := 217) rfl) rfl
  by_cases h13 : k = 13
  · subst h13; exact tb_tables_1_3 (w := u_lay R_M F_M 13) (List.mem_of_getElem? (i := 219) rfl) rfl
  by_cases h14 : k = 14
  · subst h14; exact tb_tables_1_3 (w := u_lay R_M F_M 14) (List.mem_of_getElem? (i := 221) rfl) rfl
  by_cases h15 : k = 15
  · subst h15; exact tb_tables_1_3 (w := u_lay R_M F_M 15) (List.mem_of_getElem? (i := 223) rfl) rfl
  by_cases h16 : k = 16
  · subst h16; exact tb_tables_1_3 (w := u_lay R_M F_M 16) (List.mem_of_getElem? (i := 225) rfl) rfl
  by_cases h17 : k = 17
  · subst h17; exact tb_tables_1_3 (w := u_lay R_M F_M 17) (List.mem_of_getElem? (i := 227) rfl) rfl
  by_cases h18 : k = 18
  · subst h18; exact tb_tables_1_3 (w := u_lay R_M F_M 18) (List.mem_of_getElem? (i := 229) rfl) rfl
  by_cases h19 : k = 19
  · subst h19; exact tb_tables_1_3 (w := u_lay R_M F_M 19) (List.mem_of_getElem? (i := 231) rfl) rfl
  by_cases h20 : k = 20
  · subst h20; exact tb_tables_1_3 (w := u_lay R_M F_M 20) (List.mem_of_getElem? (i := 233) rfl) rfl
  by_cases h21 : k = 21
  · subst h21; exact tb_tables_1_3 (w := u_lay R_M F_M 21) (List.mem_of_getElem? (i := 235) rfl) rfl
  by_cases h22 : k = 22
  · subst h22; exact tb_tables_1_3 (w := u_lay R_M F_M 22) (List.mem_of_getElem? (i := 237) rfl) rfl
  by_cases h23 : k = 23
  · subst h23; exact tb_tables_1_3 (w := u_lay R_M F_M 23) (List.mem_of_getElem? (i := 239) rfl) rfl
  by_cases h24 : k = 24
  · subst h24; exact tb_tables_1_4 (w := u_lay R_M F_M 24) (List.mem_of_getElem? (i := 1) rfl) rfl
  by_cases h25 : k = 25
  · subst h25; exact tb_tables_1_4 (w := u_lay R_M F_M 25) (List.mem_of_getElem? (i := 3) rfl) rfl
  by_cases h26 : k = 26
  · subst h26; exact tb_tables_1_4 (w := u_lay R_M F_M 26) (List.mem_of_getElem? (i := 5) rfl) rfl
  have h9 : k = 27 := by omega
  subst h9; exact tb_tables_1_4 (w := u_lay R_M F_M 27) (List.mem_of_getElem? (i := 7) rfl) rfl
theorem mm_25 : (25, 0) ∈ MM := by decide +kernel
theorem mm_26 : (26, 0) ∈ MM := by decide +kernel
theorem mm_27 : (27, 0) ∈ MM := by decide +kernel
theorem mm_28 : (28, 0) ∈ MM := by decide +kernel
theorem mm_29 : (29, 0) ∈ MM := by decide +kernel
theorem mm_30 : (30, 0) ∈ MM := by decide +kernel
theorem mm_31 : (31, 0) ∈ MM := by decide +kernel
theorem mm_32 : (32, 0) ∈ MM := by decide +kernel
theorem mm_33 : (33, 0) ∈ MM := by decide +kernel
theorem mm_34 : (34, 0) ∈ MM := by decide +kernel
theorem mm_35 : (35, 0) ∈ MM := by decide +kernel
theorem mm_39 : (39, 0) ∈ MM := by decide +kernel
theorem mm_40 : (40, 0) ∈ MM := by decide +kernel
theorem mm_41 : (41, 0) ∈ MM := by decide +kernel
theorem mm_42 : (42, 0) ∈ MM := by decide +kernel
theorem mm_43 : (43, 0) ∈ MM := by decide +kernel
theorem mm_46 : (46, 0) ∈ MM := by decide +kernel
theorem mm_20 : (20, 0) ∈ MM := by decide +kernel

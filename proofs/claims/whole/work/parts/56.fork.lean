/-! FORK: a part of an array copied -/
def CPf (f : Nat → Int32) (b1 b2 i : Nat) : Nat → Int32 := fun k => if b2 ≤ k ∧ k < b2 + i then f (b1 + (k - b2)) else f k
theorem cpf_0 (f : Nat → Int32) (b1 b2 : Nat) : CPf f b1 b2 0 = f := by
  funext k
  unfold CPf
  rw [if_neg (by omega)]
theorem cpf_s (f : Nat → Int32) (b1 b2 i : Nat) : upd (CPf f b1 b2 i) (b2 + i) (f (b1 + i)) = CPf f b1 b2 (i + 1) := by
  funext k
  rw [upd_e]
  unfold CPf
  by_cases c : k = b2 + i
  · rw [if_pos c, if_pos (by omega)]
    congr 1
    omega
  · rw [if_neg c]
    by_cases g : b2 ≤ k ∧ k < b2 + i
    · rw [if_pos g, if_pos (by omega)]
    · rw [if_neg g, if_neg (by omega)]
theorem cpf_o {f : Nat → Int32} {b1 b2 i k : Nat} (h : k < b2 ∨ b2 + i ≤ k) : CPf f b1 b2 i k = f k := by
  unfold CPf
  rw [if_neg (by omega)]
theorem cpf_i {f : Nat → Int32} {b1 b2 i k : Nat} (h : k < i) : CPf f b1 b2 i (b2 + k) = f (b1 + k) := by
  unfold CPf
  rw [if_pos (by omega)]
  congr 1
  omega
section FK
variable {cp T p c : Nat} {s0 s t s1 t1 s' t' : KS} {q : List Nat} {row : Nat → List Nat} {L : List Int32} {pl x y : Int32} {m : Nat → Int32} {Φ : KS → Prop}
theorem em_f38 (hp : p < 16) (hc : c < 16) (hne : c ≠ p) (g : ∃ nn : Nat, w_M_fork_77 (nI p) Φ nn (nI c) (0 : Int32) (ur t 27 0 (CPf (t 27 0) (128 * p) (128 * c) 128))) : ∃ nn : Nat, w_M_fork_38 (nI p) Φ nn (nI c) (0 : Int32) t := by
  have key : ∃ n, w_M_fork_38 (nI p) Φ n (nI c) (nI 0) (ur t 27 0 (CPf (t 27 0) (128 * p) (128 * c) 0)) := by
    refine pk_loop (fun n i (_ : Unit) => w_M_fork_38 (nI p) Φ n (nI c) (nI i) (ur t 27 0 (CPf (t 27 0) (128 * p) (128 * c) i))) (fun _ _ => True) 128 0 () (by omega) trivial ?_ ?_
    · intro n _ _
      unfold w_M_fork_38
      exact ⟨fun _ => g, fun k => absurd (by decide) k⟩
    · intro n i _ hi _ hnext
      unfold w_M_fork_38
      have e1 : (128 : Int32) * nI p + nI i = nI (128 * p + i) := ix 128 p i
      have e2 : (128 : Int32) * nI c + nI i = nI (128 * c + i) := ix 128 c i
      rw [e1, e2, cl (n := 128 * p + i) (by omega), cl (n := 128 * c + i) (by omega)]
      refine ⟨fun k => absurd k (nI_ge (b := 128) (by omega) (by omega)), fun _ => ⟨vin (by omega) (by omega), vin (by omega) (by omega), fun z ez z2 ez2 => ?_⟩⟩
      have ea : ur t 27 0 (CPf (t 27 0) (128 * p) (128 * c) i) 27 0 (128 * p + i) = t 27 0 (128 * p + i) := by rw [ur_at]; exact cpf_o (by omega)
      rw [ea, ur_w3, cpf_s] at ez
      rw [ez2, nI_1, ez]
      exact hnext () trivial
  rw [cpf_0, ur_same] at key
  exact key
theorem em_f77 {n : Nat} (hp : p < 16) (hc : c < 16) (hne : c ≠ p) (hn : t 29 0 p = nI n) (hn9 : n ≤ 32) (g : ∃ nn : Nat, w_M_fork_117 (nI p) Φ nn (nI c) (0 : Int32) (ur t 28 0 (CPf (t 28 0) (64 * p) (64 * c) n))) : ∃ nn : Nat, w_M_fork_77 (nI p) Φ nn (nI c) (0 : Int32) t := by
  have key : ∃ k, w_M_fork_77 (nI p) Φ k (nI c) (nI 0) (ur t 28 0 (CPf (t 28 0) (64 * p) (64 * c) 0)) := by
    refine pk_loop (fun k i (_ : Unit) => w_M_fork_77 (nI p) Φ k (nI c) (nI i) (ur t 28 0 (CPf (t 28 0) (64 * p) (64 * c) i))) (fun _ _ => True) n 0 () (by omega) trivial ?_ ?_
    · intro k _ _
      unfold w_M_fork_77
      have e29 : ur t 28 0 (CPf (t 28 0) (64 * p) (64 * c) n) 29 0 p = nI n := hn
      rw [cl (n := p) (by omega), e29]
      exact ⟨vin hp (by omega), fun _ => g, fun k => absurd (nI_le (Nat.le_refl n) (by omega)) k⟩
    · intro k i _ hi _ hnext
      unfold w_M_fork_77
      have e29 : ur t 28 0 (CPf (t 28 0) (64 * p) (64 * c) i) 29 0 p = nI n := hn
      have e1 : (64 : Int32) * nI p + nI i = nI (64 * p + i) := ix 64 p i
      have e2 : (64 : Int32) * nI c + nI i = nI (64 * c + i) := ix 64 c i
      rw [cl (n := p) (by omega), e29, e1, e2, cl (n := 64 * p + i) (by omega), cl (n := 64 * c + i) (by omega)]
      refine ⟨vin hp (by omega), fun k => absurd k (nI_ge hi (by omega)), fun _ => ⟨vin (by omega) (by omega), vin (by omega) (by omega), fun z ez z2 ez2 => ?_⟩⟩
      have ea : ur t 28 0 (CPf (t 28 0) (64 * p) (64 * c) i) 28 0 (64 * p + i) = t 28 0 (64 * p + i) := by rw [ur_at]; exact cpf_o (by omega)
      rw [ea, ur_w3, cpf_s] at ez
      rw [ez2, nI_1, ez]
      exact hnext () trivial
  rw [cpf_0, ur_same] at key
  exact key
/-- what the reference has made of the child before it pushes -/
def mFk (t : KS) (p c n : Nat) : KS := w3 (w3 (w3 (w3 (ur (ur (ur t 27 0 (CPf (t 27 0) (128 * p) (128 * c) 128)) 28 0 (CPf (t 28 0) (64 * p) (64 * c) n)) 31 0 (CPf (t 31 0) (8 * p) (8 * c) 8)) 29 0 c (nI n)) 30 0 c (t 30 0 p)) 32 0 c (nI p)) 33 0 c 0
theorem em_f117 {n : Nat} {u : KS} (hp : p < 16) (hc : c < 16) (hne : c ≠ p) (hn : u 29 0 p = nI n) (g : w_M_push (nI p) (nI c) (w3 (w3 (w3 (w3 (ur u 31 0 (CPf (u 31 0) (8 * p) (8 * c) 8)) 29 0 c (nI n)) 30 0 c (u 30 0 p)) 32 0 c (nI p)) 33 0 c 0) (fun s5 => w_M_push (nI c) (0 : Int32) s5 (fun s6 => w_M_ready (nI c) s6 (fun s7 => Φ s7)))) : ∃ nn : Nat, w_M_fork_117 (nI p) Φ nn (nI c) (0 : Int32) u := by
  have key : ∃ k, w_M_fork_117 (nI p) Φ k (nI c) (nI 0) (ur u 31 0 (CPf (u 31 0) (8 * p) (8 * c) 0)) := by
    refine pk_loop (fun k i (_ : Unit) => w_M_fork_117 (nI p) Φ k (nI c) (nI i) (ur u 31 0 (CPf (u 31 0) (8 * p) (8 * c) i))) (fun _ _ => True) 8 0 () (by omega) trivial ?_ ?_
    · intro k _ _
      unfold w_M_fork_117
      rw [cl (n := p) (by omega), cl (n := c) (by omega)]
      refine ⟨fun _ => ⟨vin hp (by omega), vin hc (by omega), fun z1 e1 => ⟨vin hp (by omega), vin hc (by omega), fun z2 e2 => ⟨vin hc (by omega), fun z3 e3 => ⟨vin hc (by omega), fun z4 e4 => ?_⟩⟩⟩⟩, fun k => absurd (by decide) k⟩
      have h29 : ur u 31 0 (CPf (u 31 0) (8 * p) (8 * c) 8) 29 0 p = nI n := hn
      rw [h29] at e1
      have h30 : z1 30 0 p = u 30 0 p := by rw [e1]; rfl
      rw [h30] at e2
      rw [e4, e3, e2, e1]
      exact g
    · intro k i _ hi _ hnext
      unfold w_M_fork_117
      have e1 : (8 : Int32) * nI p + nI i = nI (8 * p + i) := ix 8 p i
      have e2 : (8 : Int32) * nI c + nI i = nI (8 * c + i) := ix 8 c i
      rw [e1, e2, cl (n := 8 * p + i) (by omega), cl (n := 8 * c + i) (by omega)]
      refine ⟨fun k => absurd k (nI_ge (b := 8) (by omega) (by omega)), fun _ => ⟨vin (by omega) (by omega), vin (by omega) (by omega), fun z ez z2 ez2 => ?_⟩⟩
      have ea : ur u 31 0 (CPf (u 31 0) (8 * p) (8 * c) i) 31 0 (8 * p + i) = u 31 0 (8 * p + i) := by rw [ur_at]; exact cpf_o (by omega)
      rw [ea, ur_w3, cpf_s] at ez
      rw [ez2, nI_1, ez]
      exact hnext () trivial
  rw [cpf_0, ur_same] at key
  exact key
theorem em_fork {n : Nat} (hp : p < 16) (hc : c < 16) (hne : c ≠ p) (hno : ∀ j, j < c → ¬ t 26 0 j = 0) (h0 : t 26 0 c = 0) (hn : t 29 0 p = nI n) (hn9 : n ≤ 32) (g : w_M_push (nI p) (nI c) (mFk t p c n) (fun s5 => w_M_push (nI c) (0 : Int32) s5 (fun s6 => w_M_ready (nI c) s6 (fun s7 => Φ s7)))) : w_M_fork (nI p) t Φ := by
  have g23 : w_M_fork_23 (nI p) Φ (nI c) t := by
    unfold w_M_fork_23
    refine ⟨fun _ => em_f38 hp hc hne (em_f77 (n := n) hp hc hne hn hn9 (em_f117 (n := n) hp hc hne hn ?_)), fun k => absurd (nI_inj (b := 16) (by omega) (by omega) k) (by omega)⟩
    exact g
  have key : ∃ n, w_M_fork_2 (nI p) Φ n (nI 0) t := by
    refine pk_loop (fun n i (_ : Unit) => w_M_fork_2 (nI p) Φ n (nI i) t) (fun _ _ => True) c 0 () (by omega) trivial ?_ ?_
    · intro n _ _
      unfold w_M_fork_2
      rw [cl (n := c) (by omega)]
      exact ⟨fun _ => g23, fun _ => ⟨vin hc (by omega), fun _ => g23, fun k => absurd h0 k⟩⟩
    · intro n i _ hi _ hnext
      unfold w_M_fork_2
      rw [cl (n := i) (by omega)]
      exact ⟨fun k => absurd k (nI_ge (b := 16) (by omega) (by omega)), fun _ => ⟨vin (by omega) (by omega), fun k => absurd k (hno i hi), fun _ z ez => by rw [ez, nI_1]; exact hnext () trivial⟩⟩
  obtain ⟨n, h2⟩ := key
  exact ⟨n, h2⟩
theorem em_fork0 (hno : ∀ j, j < 16 → ¬ t 26 0 j = 0) (g : w_M_push (nI p) (-1) t Φ) : w_M_fork (nI p) t Φ := by
  have g23 : w_M_fork_23 (nI p) Φ (nI 16) t := by
    unfold w_M_fork_23
    exact ⟨fun k => absurd rfl k, fun _ => g⟩
  have key : ∃ n, w_M_fork_2 (nI p) Φ n (nI 0) t := by
    refine pk_loop (fun n i (_ : Unit) => w_M_fork_2 (nI p) Φ n (nI i) t) (fun _ _ => True) 16 0 () (by omega) trivial ?_ ?_
    · intro n _ _
      unfold w_M_fork_2
      exact ⟨fun _ => g23, fun k => absurd (by decide) k⟩
    · intro n i _ hi _ hnext
      unfold w_M_fork_2
      rw [cl (n := i) (by omega)]
      exact ⟨fun k => absurd k (nI_ge (b := 16) (by omega) (by omega)), fun _ => ⟨vin (by omega) (by omega), fun k => absurd k (hno i hi), fun _ z ez => by rw [ez, nI_1]; exact hnext () trivial⟩⟩
  obtain ⟨n, h2⟩ := key
  exact ⟨n, h2⟩
theorem ek_freeProc : ∃ o, EO (w_K_freeProc cp s) o s ∧ ((o = none ∧ ∀ j, j < 16 → ¬ s 1 j 7 = 0) ∨ ∃ c, c < 16 ∧ o = some c ∧ s 1 c 7 = 0 ∧ ∀ j, j < c → ¬ s 1 j 7 = 0) := by
  obtain ⟨d, h2, h3⟩ := pk_least (fun k => k = 16 ∨ s 1 k 7 = 0) ⟨16, Or.inl rfl⟩
  have d8 : d ≤ 16 := by
    apply Nat.le_of_not_lt
    intro g
    exact h3 16 g (Or.inl rfl)
  have loop : ∀ (o : Option Nat), (∀ (n : Nat) (Φ : Option Nat → KS → Prop), Φ o s → w_K_freeProc_2 cp Φ (n + 1) (nI d) s) → EO (w_K_freeProc cp s) o s := by
    intro o hx
    have key : ∃ n, ∀ Φ : Option Nat → KS → Prop, Φ o s → w_K_freeProc_2 cp Φ n (nI 0) s := by
      refine pk_loop (fun n i (_ : Unit) => ∀ Φ : Option Nat → KS → Prop, Φ o s → w_K_freeProc_2 cp Φ n (nI i) s) (fun _ _ => True) d 0 () (by omega) trivial ?_ ?_
      · intro n _ _ Φ hΦ
        exact hx n Φ hΦ
      · intro n i _ hi _ hnext Φ hΦ
        unfold w_K_freeProc_2
        rw [cl (n := i) (by omega)]
        exact ⟨fun k => absurd k (nI_ge (b := 16) (by omega) (by omega)), fun _ => ⟨vin (by omega) (by omega), fun _ z ez => by rw [ez, nI_1]; exact hnext () trivial Φ hΦ, fun k => absurd (Or.inr k) (h3 i hi)⟩⟩
    obtain ⟨n, h⟩ := key
    exact fun Φ hΦ => ⟨n, h Φ hΦ⟩
  by_cases c : d = 16
  · refine ⟨none, loop none (fun n Φ hΦ => ?_), Or.inl ⟨rfl, fun j hj k => h3 j (by omega) (Or.inr k)⟩⟩
    unfold w_K_freeProc_2
    rw [c]
    exact ⟨fun _ => hΦ, fun k => absurd (by decide) k⟩
  · have h0 : s 1 d 7 = 0 := by
      rcases h2 with h2 | h2
      · exact absurd h2 c
      · exact h2
    refine ⟨some d, loop (some d) (fun n Φ hΦ => ?_), Or.inr ⟨d, by omega, rfl, h0, fun j hj k => h3 j hj (Or.inr k)⟩⟩
    unfold w_K_freeProc_2
    rw [cl (n := d) (by omega)]
    exact ⟨fun k => absurd k (nI_ge (b := 16) (by omega) (by omega)), fun _ => ⟨vin (by omega) (by omega), fun k => absurd h0 k, fun _ => ⟨vin (by omega) (by omega), hΦ⟩⟩⟩
/-- what the class has made of the child before it counts the ends -/
def kCp (s : KS) (p c : Nat) : KS := w3 (w3 (w3 (ur (ur (ur s 2 c (va_cpy (s 2 p) (s 2 c) 0 0 128)) 3 c (va_cpy (s 3 p) (s 3 c) 0 0 32)) 4 c (va_cpy (s 4 p) (s 4 c) 0 0 8)) 1 c 4 (s 1 p 4)) 1 c 5 (s 1 p 5)) 1 c 6 (nI p)
theorem ek_copy (hne : c ≠ p) (hn : s 1 p 0 = nI p) : EK (w_P_copy cp c p s) (kCp s p c) := by
  intro Φ hΦ
  unfold w_P_copy
  intro s1 e1 s2 e2 s3 e3 s4 e4 s5 e5 s6 e6
  have a3 : s1 3 p = s 3 p ∧ s1 3 c = s 3 c := by rw [e1]; exact ⟨rfl, rfl⟩
  rw [a3.1, a3.2] at e2
  have a4 : s2 4 p = s 4 p ∧ s2 4 c = s 4 c := by rw [e2, e1]; exact ⟨rfl, rfl⟩
  rw [a4.1, a4.2] at e3
  have a1 : s3 1 p 4 = s 1 p 4 := by rw [e3, e2, e1]; rfl
  rw [a1] at e4
  have a5 : s4 1 p 5 = s 1 p 5 := by rw [e4, w3_eq, if_neg (fun g => hne g.2.1.symm), e3, e2, e1]; rfl
  rw [a5] at e5
  have a0 : s5 1 p 0 = nI p := by rw [e5, w3_eq, if_neg (fun g => hne g.2.1.symm), e4, w3_eq, if_neg (fun g => hne g.2.1.symm), e3, e2, e1]; exact hn
  rw [a0] at e6
  rw [e6, e5, e4, e3, e2, e1]
  exact hΦ
/-- the ends are counted -/
theorem ek_ends {u : KS} {f : Nat → Int32} (hp : p < 16) (hc : c < 16) (hne : c ≠ p) (hd : ∀ d, d < 8 → u 4 c d = f (8 * p + d) ∧ dOk (u 4 c d)) (hz : ∀ d, d < 8 → f (8 * c + d) = 0) (hE : ∀ z, 10 ≤ z → z < 28 → u 7 0 z = nI (cnt f (nI z) 128)) : ∃ e, (∀ z, 10 ≤ z → z < 28 → e z = nI (cnt (CPf f (8 * p) (8 * c) 8) (nI z) 128)) ∧ ∀ Φ : KS → Prop, w_P_push cp p ((ur u 7 0 e) 1 c 0) (ur u 7 0 e) (fun s1 => w_P_push cp c (0 : Int32) s1 (fun s2 => w_K_makeReady cp c s2 (fun s3 => Φ s3))) → ∃ nn : Nat, w_K_fork_22 cp p Φ nn c (0 : Int32) u := by
  have key : ∃ n, ∃ e, (∀ z, 10 ≤ z → z < 28 → e z = nI (cnt (CPf f (8 * p) (8 * c) 8) (nI z) 128)) ∧ ∀ Φ : KS → Prop, w_P_push cp p ((ur u 7 0 e) 1 c 0) (ur u 7 0 e) (fun s1 => w_P_push cp c (0 : Int32) s1 (fun s2 => w_K_makeReady cp c s2 (fun s3 => Φ s3))) → w_K_fork_22 cp p Φ n c (nI 0) (ur u 7 0 (u 7 0)) := by
    refine pk_loop (fun n i (e0 : Nat → Int32) => ∃ e, (∀ z, 10 ≤ z → z < 28 → e z = nI (cnt (CPf f (8 * p) (8 * c) 8) (nI z) 128)) ∧ ∀ Φ : KS → Prop, w_P_push cp p ((ur u 7 0 e) 1 c 0) (ur u 7 0 e) (fun s1 => w_P_push cp c (0 : Int32) s1 (fun s2 => w_K_makeReady cp c s2 (fun s3 => Φ s3))) → w_K_fork_22 cp p Φ n c (nI i) (ur u 7 0 e0)) (fun i e0 => ∀ z, 10 ≤ z → z < 28 → e0 z = nI (cnt (CPf f (8 * p) (8 * c) i) (nI z) 128)) 8 0 (u 7 0) (by omega) (fun z z1 z2 => by rw [cpf_0]; exact hE z z1 z2) ?_ ?_
    · intro n e0 h0
      refine ⟨e0, h0, fun Φ hΦ => ?_⟩
      unfold w_K_fork_22
      exact ⟨fun _ => hΦ, fun k => absurd (by decide) k⟩
    · intro n i e0 hi h0 hnext
      obtain ⟨d1, nn, d2, d3⟩ := hd i hi
      have fz : CPf f (8 * p) (8 * c) i (8 * c + i) = 0 := by rw [cpf_o (by omega)]; exact hz i hi
      have fs : CPf f (8 * p) (8 * c) (i + 1) = upd (CPf f (8 * p) (8 * c) i) (8 * c + i) (nI nn) := by rw [← cpf_s, ← d1, d2]
      have ct := fun z z1 z2 => op_cnt (f := CPf f (8 * p) (8 * c) i) (k := 8 * c + i) (n := nn) (z := z) (by omega) fz (by omega) z1 z2
      have r4 : ur u 7 0 e0 4 c i = nI nn := d2
      by_cases c10 : nn < 10
      · obtain ⟨e, k1, k2⟩ := hnext e0 (fun z z1 z2 => by rw [fs, ct z (by omega) (by omega), if_neg (by omega), Nat.add_zero]; exact h0 z z1 z2)
        refine ⟨e, k1, fun Φ hΦ => ?_⟩
        unfold w_K_fork_22 w_K_addEnd
        rw [cl (n := i) (by omega), r4]
        exact ⟨fun k => absurd k (nI_ge (b := 8) (by omega) (by omega)), fun _ => ⟨vin hi (by omega), fun _ z ez => by rw [ez, nI_1]; exact k2 Φ hΦ, fun k => absurd (nI_lt (b := 10) c10 (by omega)) k⟩⟩
      · have hb := cnt_le (CPf f (8 * p) (8 * c) i) (nI nn) 128
        obtain ⟨e, k1, k2⟩ := hnext (upd e0 nn (nI (cnt (CPf f (8 * p) (8 * c) i) (nI nn) 128 + 1))) (fun z z1 z2 => by
          rw [fs, ct z (by omega) (by omega), upd_e]
          by_cases g : z = nn
          · rw [if_pos g, if_pos g.symm, g]
          · rw [if_neg g, if_neg (fun k => g k.symm), Nat.add_zero]; exact h0 z z1 z2)
        refine ⟨e, k1, fun Φ hΦ => ?_⟩
        unfold w_K_fork_22 w_K_addEnd
        rw [cl (n := i) (by omega), r4, cl (n := nn) (by omega)]
        refine ⟨fun k => absurd k (nI_ge (b := 8) (by omega) (by omega)), fun _ => ⟨vin hi (by omega), fun k => absurd k (nI_nlt (b := 10) (by omega) (by omega)), fun _ => ⟨vin (by omega) (by omega), vin (by omega) (by omega), fun z ez z2 ez2 => ?_⟩⟩⟩
        have e7 : ur u 7 0 e0 7 0 nn = nI (cnt (CPf f (8 * p) (8 * c) i) (nI nn) 128) := by rw [ur_at]; exact h0 nn (by omega) (by omega)
        rw [e7, nI_1, ur_w3] at ez
        rw [ez2, nI_1, ez]
        exact k2 Φ hΦ
  obtain ⟨n, e, h1, h2⟩ := key
  rw [ur_same] at h2
  exact ⟨e, h1, fun Φ hΦ => ⟨n, h2 Φ hΦ⟩⟩
theorem fk_Y (h : XY s t q row) (hc : c < 16) (h0 : s 1 c 7 = 0) (k1 : ∀ i k, ¬ (i = c ∧ (k = 4 ∨ k = 5 ∨ k = 6)) → s' 1 i k = s 1 i k) (k2 : ∀ i, i ≠ c → s' 2 i = s 2 i ∧ s' 3 i = s 3 i ∧ s' 4 i = s 4 i) (k3 : s' 0 = s 0 ∧ s' 8 = s 8) (m1 : ∀ a, a = 26 ∨ a = 34 ∨ a = 35 ∨ a = 39 ∨ a = 40 ∨ a = 20 → t' a = t a) (m2 : ∀ i, i ≠ c → t' 29 0 i = t 29 0 i ∧ t' 30 0 i = t 30 0 i ∧ t' 32 0 i = t 32 0 i ∧ t' 33 0 i = t 33 0 i) (m3 : ∀ i, i ≠ c → (∀ k, k < 128 → t' 27 0 (128 * i + k) = t 27 0 (128 * i + k)) ∧ (∀ k, k < 64 → t' 28 0 (64 * i + k) = t 28 0 (64 * i + k)) ∧ (∀ k, k < 8 → t' 31 0 (8 * i + k) = t 31 0 (8 * i + k))) (hd : ∀ d, d < 8 → t' 31 0 (8 * c + d) = s' 4 c d ∧ dOk (s' 4 c d)) : XY s' t' q row := by
  obtain ⟨⟨h1, h2, h3, h4, h5, h6⟩, hQ, hB, hR⟩ := h
  have e7 : ∀ i, s' 1 i 7 = s 1 i 7 := fun i => k1 i 7 (by omega)
  have e10 : ∀ i, s' 1 i 10 = s 1 i 10 := fun i => k1 i 10 (by omega)
  have e11 : ∀ i, s' 1 i 11 = s 1 i 11 := fun i => k1 i 11 (by omega)
  refine ⟨⟨fun i hi => ?_, fun i hi => ?_, fun i hi => ?_, fun i hi h9 => ?_, fun i hi d hd' => ?_, fun i hi h9 => ?_⟩, ?_, fun i hi => ?_, fun r hr => ?_, fun i hi => ?_⟩
  · rw [k1 i 0 (by omega)]; exact h1 i hi
  · rw [m1 26 (by simp), e7]; exact h2 i hi
  · rw [m1 34 (by simp), e7, k1 i 9 (by omega)]; exact h3 i hi
  · rw [e7] at h9
    have ne : i ≠ c := fun e => by rw [e, h0] at h9; exact absurd h9 (by decide)
    rw [(m2 i ne).2.2.2, k1 i 8 (by omega)]; exact h4 i hi h9
  · by_cases e : i = c
    · rw [e]; exact hd d hd'
    · rw [(m3 i e).2.2 d hd', (k2 i e).2.2]; exact h5 i hi d hd'
  · rw [e7] at h9
    have ne : i ≠ c := fun e => h9 (by rw [e]; exact h0)
    obtain ⟨n, b0, b1, b2, b3, b4, b5, b6⟩ := h6 i hi h9
    refine ⟨n, b0, ?_, ?_, ?_, ?_, fun k hk => ?_, fun k hk => ?_⟩
    · rw [k1 i 4 (fun g => ne g.1)]; exact b1
    · rw [(m2 i ne).1]; exact b2
    · rw [(m2 i ne).2.1, k1 i 5 (fun g => ne g.1)]; exact b3
    · rw [(m2 i ne).2.2.1, k1 i 6 (fun g => ne g.1)]; exact b4
    · rw [(m3 i ne).1 k hk, (k2 i ne).1]; exact b5 k hk
    · rw [(m3 i ne).2.1 k (by omega), (k2 i ne).2.1]; exact b6 k hk
  · unfold XQ at *
    rw [k3.1, k3.2, m1 20 (by simp), m1 35 (by simp)]
    exact hQ
  · rw [e7]; exact hB i hi
  · have := hR.1 r hr
    rw [m1 39 (by simp), m1 40 (by simp), k3.1]
    simp only [e11, e10]
    exact this
  · rw [e10, e7, k3.1]; exact hR.2 i hi
theorem bo_of (kv : KV s p L pl m) (mv : MV t p L pl m) (hl : L.length ≤ 32) (hpar : t 32 0 p = s 1 p 6) : Bo s t p :=
  ⟨L.length, hl, kv.1, mv.1, by rw [mv.2.2.1, kv.2.2.1], hpar, fun k hk => by rw [mv.2.2.2 k hk, kv.2.2.2 k hk], fun k hk => by
    have hk' := List.getElem?_eq_getElem hk
    rw [mv.2.1 k _ hk', kv.2.1 k _ hk']⟩
/-- FORK -/
theorem c35 (h : Pre cp T p s t q row) (kv : KV s p L pl m) (mv : MV t p L pl m) (hl : L.length < 32) : ∃ s' t', EK (w_K_fork cp p s) s' ∧ EK (w_M_call (nI p) (nI 35) x y t) t' ∧ Out cp T p s t s' t' := by
  have hD := h
  have h1 := h.st1
  obtain ⟨hY, hH, hF, hZ, hp, hq, hb, hn0⟩ := h
  have hM : ∀ t', EK (w_M_fork (nI p) t) t' → EK (w_M_call (nI p) (nI 35) x y t) t' := fun t' e Φ hΦ => by
    have hc := e Φ hΦ
    exact ⟨fun g => absurd g (by decide), fun g => absurd g (by decide), fun g => absurd g (by decide), fun g => absurd g (by decide), fun g => absurd g (by decide), fun _ => hc, fun g => absurd g (by decide), fun g => absurd g (by decide), fun g => absurd g (by decide), fun g => absurd g (by decide), fun g => absurd g (by decide), fun g => absurd g (by decide)⟩
  obtain ⟨o, o1, o2⟩ := ek_freeProc (cp := cp) (s := s)
  rcases o2 with ⟨eo, hno⟩ | ⟨c, hc, eo, h0, hno⟩
  · subst eo
    obtain ⟨s', t', e1, e2, o⟩ := out_push (x := -1) hD kv mv hl
    refine ⟨s', t', fun Φ hΦ => ?_, hM t' (fun Φ hΦ => em_fork0 (fun j hj => by rw [hY.1.2.1 j hj]; exact hno j hj) (e2 _ hΦ)), o⟩
    unfold w_K_fork
    exact o1 _ ⟨fun _ => e1 _ hΦ, fun z k => by cases k⟩
  · subst eo
    have hne : c ≠ p := fun e => by rw [e, h1] at h0; exact absurd h0 (by decide)
    have hcq : c ∉ q := hY.free hc (by rw [h0]; decide)
    have hc10 : s 1 c 10 = -1 := hY.norow hc (by rw [h0]; decide) (by rw [h0]; decide)
    have hn29 : t 29 0 p = nI L.length := mv.1
    have dz : ∀ d, d < 8 → t 31 0 (8 * c + d) = 0 := fun d hd => by rw [(hY.1.2.2.2.2.1 c hc d hd).1]; exact hZ.1 c hc (Or.inl h0) d hd
    have cp4 : ∀ d, d < 8 → kCp s p c 4 c d = s 4 p d := fun d hd => by
      have : kCp s p c 4 c = va_cpy (s 4 p) (s 4 c) 0 0 8 := by
        show ur (ur (ur s 2 c _) 3 c _) 4 c _ 4 c = _
        rw [ur_at]
      rw [this, pk_cpy_in (by omega) (by omega)]
      congr 1
      omega
    obtain ⟨e, he, hk⟩ := ek_ends (cp := cp) (u := kCp s p c) (f := t 31 0) hp hc hne (fun d hd => by
      rw [cp4 d hd, (hY.1.2.2.2.2.1 p hp d hd).1]
      exact ⟨rfl, (hY.1.2.2.2.2.1 p hp d hd).2⟩) dz hH.1
    -- the two states with the child made
    have kk1 : ∀ i k, ¬ (i = c ∧ (k = 4 ∨ k = 5 ∨ k = 6)) → ur (kCp s p c) 7 0 e 1 i k = s 1 i k := fun i k g => by
      show kCp s p c 1 i k = s 1 i k
      unfold kCp
      rw [w3_eq, if_neg (fun z => g ⟨z.2.1, Or.inr (Or.inr z.2.2)⟩), w3_eq, if_neg (fun z => g ⟨z.2.1, Or.inr (Or.inl z.2.2)⟩), w3_eq, if_neg (fun z => g ⟨z.2.1, Or.inl z.2.2⟩)]
      rfl
    have kk2 : ∀ i, i ≠ c → ur (kCp s p c) 7 0 e 2 i = s 2 i ∧ ur (kCp s p c) 7 0 e 3 i = s 3 i ∧ ur (kCp s p c) 7 0 e 4 i = s 4 i := fun i g => by
      refine ⟨?_, ?_, ?_⟩
      · show ur s 2 c _ 2 i = s 2 i
        rw [ur_e, if_neg (fun z => g z.2)]
      · show ur (ur s 2 c _) 3 c _ 3 i = s 3 i
        rw [ur_e, if_neg (fun z => g z.2)]; rfl
      · show ur (ur (ur s 2 c _) 3 c _) 4 c _ 4 i = s 4 i
        rw [ur_e, if_neg (fun z => g z.2)]; rfl
    have mm2 : ∀ i, i ≠ c → mFk t p c L.length 29 0 i = t 29 0 i ∧ mFk t p c L.length 30 0 i = t 30 0 i ∧ mFk t p c L.length 32 0 i = t 32 0 i ∧ mFk t p c L.length 33 0 i = t 33 0 i := fun i g => by
      unfold mFk
      simp [w3_eq, ur_e, g]
    have m31 : mFk t p c L.length 31 0 = CPf (t 31 0) (8 * p) (8 * c) 8 := rfl
    have m27 : mFk t p c L.length 27 0 = CPf (t 27 0) (128 * p) (128 * c) 128 := rfl
    have m28 : mFk t p c L.length 28 0 = CPf (t 28 0) (64 * p) (64 * c) L.length := rfl
    have Y1 : XY (ur (kCp s p c) 7 0 e) (mFk t p c L.length) q row := by
      refine fk_Y hY hc h0 kk1 kk2 ⟨rfl, rfl⟩ (fun a ha => ?_) mm2 (fun i g => ⟨fun k hk => ?_, fun k hk => ?_, fun k hk => ?_⟩) (fun d hd => ?_)
      · rcases ha with ha | ha | ha | ha | ha | ha <;> subst ha <;> rfl
      · rw [m27]; exact cpf_o (by omega)
      · rw [m28]; exact cpf_o (by omega)
      · rw [m31]; exact cpf_o (by omega)
      · have e4 : ur (kCp s p c) 7 0 e 4 c d = s 4 p d := cp4 d hd
        rw [m31, cpf_i hd, e4]
        exact hY.1.2.2.2.2.1 p hp d hd
    have H1 : XH cp T (ur (kCp s p c) 7 0 e) (mFk t p c L.length) := by
      refine ⟨fun z z1 z2 => ?_, hH.2⟩
      rw [m31, ur_at]
      exact he z z1 z2
    have F1 : XF (ur (kCp s p c) 7 0 e) (mFk t p c L.length) := by
      intro w hw c1 c2
      have mono : ∀ z, 10 ≤ z → z < 28 → cnt (CPf (t 31 0) (8 * p) (8 * c) 8) (nI z) 128 = 0 → cnt (t 31 0) (nI z) 128 = 0 := fun z z1 z2 k => by
        apply Nat.eq_zero_of_not_pos
        intro hpos
        have : ∀ j, j < 128 → ¬ CPf (t 31 0) (8 * p) (8 * c) 8 j = nI z := fun j hj ej => by
          have := cnt_pos hj ej
          omega
        have h00 := cnt_0 (f := t 31 0) (x := nI z) (n := 128) (fun j hj ej => by
          by_cases g : 8 * c ≤ j ∧ j < 8 * c + 8
          · have := dz (j - 8 * c) (by omega)
            rw [show 8 * c + (j - 8 * c) = j by omega, ej] at this
            exact nI_ne0 (by omega) (by omega) this
          · exact this j hj (by rw [cpf_o (by omega)]; exact ej))
        omega
      rw [m31] at c1 c2
      exact hF w hw (mono _ (by omega) (by omega) c1) (mono _ (by omega) (by omega) c2)
    -- their own data
    have kvp : KV (ur (kCp s p c) 7 0 e) p L pl m := by
      refine ⟨?_, ?_, ?_, fun k hk => ?_⟩
      · rw [kk1 p 4 (fun g => hne g.1.symm)]; exact kv.1
      · rw [(kk2 p hne.symm).2.1]; exact kv.2.1
      · rw [kk1 p 5 (fun g => hne g.1.symm)]; exact kv.2.2.1
      · rw [(kk2 p hne.symm).1]; exact kv.2.2.2 k hk
    have mvp : MV (mFk t p c L.length) p L pl m := by
      refine ⟨?_, fun k v hk => ?_, ?_, fun k hk => ?_⟩
      · rw [(mm2 p hne.symm).1]; exact mv.1
      · have hk2 := (List.getElem?_eq_some_iff.mp hk).1
        rw [m28, cpf_o (by omega)]; exact mv.2.1 k v hk
      · rw [(mm2 p hne.symm).2.1]; exact mv.2.2.1
      · rw [m27, cpf_o (by omega)]; exact mv.2.2.2 k hk
    have kvc : KV (ur (kCp s p c) 7 0 e) c L pl m := by
      refine ⟨?_, fun k v hk => ?_, ?_, fun k hk => ?_⟩
      · show kCp s p c 1 c 4 = _
        unfold kCp
        rw [w3_eq, if_neg (fun g => absurd g.2.2 (by decide)), w3_eq, if_neg (fun g => absurd g.2.2 (by decide)), w3_eq, if_pos ⟨rfl, rfl, rfl⟩]
        exact kv.1
      · have hk2 := (List.getElem?_eq_some_iff.mp hk).1
        have : ur (kCp s p c) 7 0 e 3 c = va_cpy (s 3 p) (s 3 c) 0 0 32 := by
          show ur (ur s 2 c _) 3 c _ 3 c = _
          rw [ur_at]
        rw [this, pk_cpy_in (by omega) (by omega)]
        have := kv.2.1 k v hk
        rw [← this]
        congr 1
        omega
      · show kCp s p c 1 c 5 = _
        unfold kCp
        rw [w3_eq, if_neg (fun g => absurd g.2.2 (by decide)), w3_eq, if_pos ⟨rfl, rfl, rfl⟩]
        exact kv.2.2.1
      · have : ur (kCp s p c) 7 0 e 2 c = va_cpy (s 2 p) (s 2 c) 0 0 128 := by
          show ur s 2 c _ 2 c = _
          rw [ur_at]
        rw [this, pk_cpy_in (by omega) (by omega)]
        have := kv.2.2.2 k hk
        rw [← this]
        congr 1
        omega
    have mvc : MV (mFk t p c L.length) c L pl m := by
      refine ⟨?_, fun k v hk => ?_, ?_, fun k hk => ?_⟩
      · unfold mFk; simp [w3_eq]
      · have hk2 := (List.getElem?_eq_some_iff.mp hk).1
        rw [m28, cpf_i hk2]; exact mv.2.1 k v hk
      · have : mFk t p c L.length 30 0 c = t 30 0 p := by unfold mFk; simp [w3_eq]
        rw [this]; exact mv.2.2.1
      · rw [m27, cpf_i hk]; exact mv.2.2.2 k hk
    -- the words are pushed
    have hl2 : ∀ v : Int32, (L ++ [v]).length ≤ 32 := fun v => by rw [List.length_append]; simp; omega
    obtain ⟨s2, e2, v2, f2⟩ := ek_push (cp := cp) (x := nI c) kvp hl
    obtain ⟨t2, g2, w2, k2⟩ := em_push (x := nI c) hp mvp (by omega)
    have Y2 := du_Yn Y1 hp f2 k2 v2 w2 (hl2 _)
    have kvc2 : KV s2 c L pl m := by
      refine ⟨?_, ?_, ?_, fun k hk => ?_⟩
      · rw [f2.2.1 c 4 (fun g => hne g.1)]; exact kvc.1
      · rw [(f2.2.2 c hne).2]; exact kvc.2.1
      · rw [f2.2.1 c 5 (fun g => hne g.1)]; exact kvc.2.2.1
      · rw [(f2.2.2 c hne).1]; exact kvc.2.2.2 k hk
    have mvc2 : MV t2 c L pl m := by
      refine ⟨?_, fun k v hk => ?_, ?_, fun k hk => ?_⟩
      · rw [(k2.2.2.2 c hne).1]; exact mvc.1
      · have hk2 := (List.getElem?_eq_some_iff.mp hk).1
        rw [k2.2.2.1 _ (by omega)]; exact mvc.2.1 k v hk
      · rw [(k2.2.2.2 c hne).2]; exact mvc.2.2.1
      · rw [k2.2.1 _ (by omega)]; exact mvc.2.2.2 k hk
    obtain ⟨s3, e3, v3, f3⟩ := ek_push (cp := cp) (x := 0) kvc2 hl
    obtain ⟨t3, g3, w3', k3⟩ := em_push (x := 0) hc mvc2 (by omega)
    have Y3 := du_Yn Y2 hc f3 k3 v3 w3' (hl2 _)
    have H3 := du_H f3 k3 (du_H f2 k2 H1)
    have F3 := du_F f3 k3 (du_F f2 k2 F1)
    have fl : ∀ i k, k ≠ 4 → k ≠ 5 → s3 1 i k = ur (kCp s p c) 7 0 e 1 i k := fun i k a b => by
      rw [f3.2.1 i k (fun g => by rcases g.2 with g | g; exact a g; exact b g), f2.2.1 i k (fun g => by rcases g.2 with g | g; exact a g; exact b g)]
    have s37 : ∀ i, s3 1 i 7 = s 1 i 7 := fun i => by rw [fl i 7 (by decide) (by decide), kk1 i 7 (by omega)]
    have par : s3 1 c 6 = nI p := by
      rw [fl c 6 (by decide) (by decide)]
      show kCp s p c 1 c 6 = _
      unfold kCp
      rw [w3_eq, if_pos ⟨rfl, rfl, rfl⟩]
    have parM : t3 32 0 c = nI p := by
      rw [k3.1 32 (by decide) (by decide) (by decide) (by decide), k2.1 32 (by decide) (by decide) (by decide) (by decide)]
      unfold mFk
      simp [w3_eq]
    have hbo : Bo s3 t3 c := bo_of v3 w3' (hl2 _) (by rw [parM, par])
    have hlen := Y3.2.1.lt hc hcq
    have Y4 := rd_Y Y3 hc hcq (by rw [fl c 10 (by decide) (by decide), kk1 c 10 (by omega)]; exact hc10) hbo
    have er := ek_makeReady (cp := cp) Y3.2.1.1 hlen (Y3.1.1 c hc)
    have em := em_ready Y3.2.1.2.1 hlen hc
    -- the outer things
    have d4 : ∀ i, i ≠ c → kRd s3 c q.length 4 i = s 4 i := fun i g => by
      show s3 4 i = s 4 i
      rw [f3.1 4 (by decide) (by decide) (by decide), f2.1 4 (by decide) (by decide) (by decide)]
      exact (kk2 i g).2.2
    have st4 : ∀ i, i ≠ c → kRd s3 c q.length 1 i 7 = s 1 i 7 := fun i g => by
      rw [← s37 i]; simp [kRd, w3_eq, g]
    have stc : kRd s3 c q.length 1 c 7 = 1 := by simp [kRd, w3_eq]
    have p4 : ∀ i, i ≠ c → kRd s3 c q.length 1 i 6 = s 1 i 6 := fun i g => by
      have : s3 1 i 6 = s 1 i 6 := by rw [fl i 6 (by decide) (by decide), kk1 i 6 (fun k => g k.1)]
      rw [← this]; simp [kRd, w3_eq]
    have pc : kRd s3 c q.length 1 c 6 = nI p := by rw [← par]; simp [kRd, w3_eq]
    have w4 : ∀ i, kRd s3 c q.length 1 i 9 = s 1 i 9 := fun i => by
      have : s3 1 i 9 = s 1 i 9 := by rw [fl i 9 (by decide) (by decide), kk1 i 9 (by omega)]
      rw [← this]; simp [kRd, w3_eq]
    have Z4 : Z (kRd s3 c q.length) T := by
      obtain ⟨Z1, Z2, Z3, Z4⟩ := hZ
      refine ⟨fun i hi hz d hd => ?_, fun i hi hz => ?_, fun i hi h4 j hj => ?_, fun i hi h5 => ?_⟩
      · have g : i ≠ c := fun g => by rw [g, stc] at hz; rcases hz with k | k <;> exact absurd k (by decide)
        rw [st4 i g] at hz
        rw [d4 i g]
        exact Z1 i hi hz d hd
      · by_cases g : i = c
        · right
          exact ⟨p, hp, by rw [g]; exact pc, by rw [st4 p hne.symm, h1]; decide, by rw [st4 p hne.symm, h1]; decide⟩
        · rw [st4 i g] at hz
          rw [p4 i g]
          rcases Z2 i hi hz with k | ⟨j, hj, ej, j0, j6⟩
          · exact Or.inl k
          · refine Or.inr ⟨j, hj, ej, ?_⟩
            rw [st4 j (fun e => j0 (by rw [e]; exact h0))]
            exact ⟨j0, j6⟩
      · have g : i ≠ c := fun g => by rw [g, stc] at h4; exact absurd h4 (by decide)
        rw [st4 i g] at h4
        rintro ⟨c6, cpar⟩
        have gj : j ≠ c := fun g => by rw [g, stc] at c6; exact absurd c6 (by decide)
        rw [st4 j gj] at c6
        rw [p4 j gj] at cpar
        exact Z3 i hi h4 j hj ⟨c6, cpar⟩
      · have g : i ≠ c := fun g => by rw [g, stc] at h5; exact absurd h5 (by decide)
        rw [st4 i g] at h5
        rw [w4 i]
        exact Z4 i hi h5
    have z0 : s3 0 = s 0 := by rw [f3.1 0 (by decide) (by decide) (by decide), f2.1 0 (by decide) (by decide) (by decide)]; rfl
    have z20 : t3 20 = t 20 := by rw [k3.1 20 (by decide) (by decide) (by decide) (by decide), k2.1 20 (by decide) (by decide) (by decide) (by decide)]; rfl
    refine ⟨kRd s3 c q.length, mRd t3 c q.length, fun Φ hΦ => ?_, hM _ (fun Φ hΦ => em_fork hp hc hne (fun j hj => by rw [hY.1.2.1 j (by omega)]; exact hno j hj) (by rw [hY.1.2.1 c hc]; exact h0) hn29 (by omega) (g2 _ (g3 _ (em _ hΦ)))), q ++ [c], row, Y4, H3, F3, Z4, ?_, ?_, Or.inl ⟨app_hd hq, ?_, ?_, ?_⟩⟩
    · unfold w_K_fork
      refine o1 _ ⟨fun k => (by cases k), fun z k => ?_⟩
      cases k
      refine ek_copy hne (hY.1.1 p hp) _ (hk _ ?_)
      have c0 : ur (kCp s p c) 7 0 e 1 c 0 = nI c := by rw [kk1 c 0 (by omega)]; exact hY.1.1 c hc
      rw [c0]
      exact e2 _ (e3 _ (er _ hΦ))
    · show t3 20 0 0 = t 20 0 0
      rw [z20]
    · show s3 0 0 9 = s 0 0 9
      rw [z0]
    · show s3 0 0 6 = s 0 0 6
      rw [z0]
    · show t3 20 0 17 = t 20 0 17
      rw [z20]
    · show t3 20 0 18 = t 20 0 18
      rw [z20]
end FK

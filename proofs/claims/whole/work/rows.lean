section
theorem pk_us {f : Nat → Int32} {k : Nat} {x : Int32} : upd f k x k = x := if_pos rfl
theorem pk_un {f : Nat → Int32} {k j : Nat} {x : Int32} (h : j ≠ k) : upd f k x j = f j := if_neg h
theorem pk_sub {a b : Nat} (h : b ≤ a) : nI a - nI b = nI (a - b) := by
  obtain ⟨c, rfl⟩ : ∃ c, a = c + b := ⟨a - b, by omega⟩
  rw [← nI_add, Int32.add_sub_cancel, Nat.add_sub_cancel]
theorem pk_m1 (n : Nat) : nI (n + 1) + (-1) = nI n := by
  rw [← nI_1, Int32.add_assoc, show (1 : Int32) + (-1) = 0 from rfl, Int32.add_zero]
theorem pk_mul (a b : Nat) : nI a * nI b = nI (a * b) := (Int32.ofNat_mul a b).symm
theorem pk_div {a d : Nat} (ha : a < 2 ^ 31) (h0 : 0 < d) (hd : d < 2 ^ 31) : nI a / nI d = nI (a / d) := by
  apply Int32.toInt_inj.mp
  rw [lg_idiv_nonneg (by rw [nI_toInt ha]; omega) (by rw [nI_toInt hd]; omega), nI_toInt ha, nI_toInt hd, nI_toInt (Nat.lt_of_le_of_lt (Nat.div_le_self a d) ha)]
  first | rfl | exact (Int.natCast_ediv _ _).symm
theorem pk_rem {a d : Nat} (ha : a < 2 ^ 31) (h0 : 0 < d) (hd : d < 2 ^ 31) : nI a - nI a / nI d * nI d = nI (a % d) := by
  rw [pk_div ha h0 hd, pk_mul, pk_sub (Nat.div_mul_le_self a d)]
  exact congrArg nI (by have := Nat.div_add_mod' a d; omega)
theorem pk_ix (x : Int32) {n : Nat} (hn : n < 2 ^ 31) : x < 0 ∨ nI n ≤ x ∨ ∃ j : Nat, j < n ∧ x = nI j := by
  by_cases h : x < 0
  · exact Or.inl h
  · obtain ⟨j, hj, rfl⟩ := nI_of h
    by_cases h2 : j < n
    · exact Or.inr (Or.inr ⟨j, h2, rfl⟩)
    · exact Or.inr (Or.inl (nI_le (by omega) hj))
theorem pk_le {x y : Int32} {A B : Prop} (a b : Nat) (f : a ≤ b → A) (g : b < a → B) (hx : x = nI a := by rfl) (hy : y = nI b := by rfl) (ha : a < 2 ^ 31 := by omega) (hb : b < 2 ^ 31 := by omega) : (x ≤ y → A) ∧ (¬ x ≤ y → B) := by
  subst hx hy
  rw [nI_leI ha hb]
  exact ⟨f, fun z => g (by omega)⟩
theorem pk_lt {x y : Int32} {A B : Prop} (a b : Nat) (f : a < b → A) (g : b ≤ a → B) (hx : x = nI a := by rfl) (hy : y = nI b := by rfl) (ha : a < 2 ^ 31 := by omega) (hb : b < 2 ^ 31 := by omega) : (x < y → A) ∧ (¬ x < y → B) := by
  subst hx hy
  rw [nI_ltI ha hb]
  exact ⟨f, fun z => g (by omega)⟩
theorem pk_eq {x y : Int32} {A B : Prop} (a b : Nat) (f : a = b → A) (g : a ≠ b → B) (hx : x = nI a := by rfl) (hy : y = nI b := by rfl) (ha : a < 2 ^ 31 := by omega) (hb : b < 2 ^ 31 := by omega) : (x = y → A) ∧ (¬ x = y → B) := by
  subst hx hy
  rw [nI_eq ha hb]
  exact ⟨f, g⟩
theorem pk_in {x : Int32} (n N : Nat) (h : n < N) (hx : x = nI n := by rfl) (hN : N < 2 ^ 31 := by omega) : vp_in x N := by
  subst hx
  exact vp_in_nI h hN
theorem pk_cl {x : Int32} (n : Nat) (hx : x = nI n := by rfl) (h : n < 2 ^ 31 := by omega) : x.toNatClampNeg = n := by
  subst hx
  exact nI_clamp h
theorem pk_nb (z : Int32) : narrow .byte (.int z.toInt8.toInt32) = .int z.toInt8.toInt32 := congrArg Value.int (by simp)
theorem pk_ns (z : Int32) : narrow .short (.int z.toInt16.toInt32) = .int z.toInt16.toInt32 := congrArg Value.int (by simp)
theorem pk_fb (r : Int32) : fits .byte (.int r.toInt8.toInt32) = true := by
  have ⟨a, b⟩ := lg_i2b_range r
  have h1 : (-128 : Int32).toInt = -128 := by decide
  have h2 : (127 : Int32).toInt = 127 := by decide
  simp only [fits, Bool.and_eq_true, decide_eq_true_eq, Int32.le_iff_toInt_le, h1, h2]
  omega
theorem pk_fs (r : Int32) : fits .short (.int r.toInt16.toInt32) = true := by
  have ⟨a, b⟩ := lg_i2s_range r
  have h1 : (-32768 : Int32).toInt = -32768 := by decide
  have h2 : (32767 : Int32).toInt = 32767 := by decide
  simp only [fits, Bool.and_eq_true, decide_eq_true_eq, Int32.le_iff_toInt_le, h1, h2]
  omega
theorem pk_vb (z : Int32) : vp_nar .byte z.toInt8.toInt32 = z.toInt8.toInt32 := by rw [vp_nar_byte]; simp
theorem pk_vs (z : Int32) : vp_nar .short z.toInt16.toInt32 = z.toInt16.toInt32 := by rw [vp_nar_short]; simp
theorem pk_loop {σ : Type} (W : Nat → Nat → σ → Prop) (I : Nat → σ → Prop) (e i0 : Nat) (s : σ) (hi : i0 ≤ e) (h0 : I i0 s) (hx : ∀ n s, I e s → W (n + 1) e s)
    (hs : ∀ n i s, i < e → I i s → (∀ s', I (i + 1) s' → W n (i + 1) s') → W (n + 1) i s) : ∃ n, W n i0 s :=
  ⟨e + 1, loop_i W I e hx hs (e + 1) i0 s hi (by omega) h0⟩
theorem pk_loopD {σ : Type} (W : Nat → Nat → σ → Prop) (I : Nat → σ → Prop) (hx : ∀ n s, I 0 s → W (n + 1) 0 s)
    (hs : ∀ n i s, I (i + 1) s → (∀ s', I i s' → W n i s') → W (n + 1) (i + 1) s) : ∀ (e : Nat) (s : σ), I e s → W (e + 1) e s := by
  intro e
  induction e with
  | zero => exact fun s h => hx 0 s h
  | succ e ih => exact fun s h => hs (e + 1) e s h (fun s' h' => ih s' h')
theorem lp1 {A1 : Type} (W : Nat → A1 → Prop) (I : A1 → Prop) (μ : A1 → Nat) (hs : ∀ (n : Nat) (a1 : A1), I a1 → (∀ (b1 : A1), I b1 → μ b1 < μ a1 → W n b1) → W (n + 1) a1) (a1 : A1) (h : I a1) : ∃ n, W n a1 :=
  loop_m (σ := A1) (fun n s => W n s) (fun s => I s) (fun s => μ s) (fun n s hI hk => hs n s hI (fun b1 h9 hm => hk b1 h9 hm)) a1 h
theorem lp2 {A1 A2 : Type} (W : Nat → A1 → A2 → Prop) (I : A1 → A2 → Prop) (μ : A1 → A2 → Nat) (hs : ∀ (n : Nat) (a1 : A1) (a2 : A2), I a1 a2 → (∀ (b1 : A1) (b2 : A2), I b1 b2 → μ b1 b2 < μ a1 a2 → W n b1 b2) → W (n + 1) a1 a2) (a1 : A1) (a2 : A2) (h : I a1 a2) : ∃ n, W n a1 a2 :=
  loop_m (σ := A1 × A2) (fun n s => W n s.1 s.2) (fun s => I s.1 s.2) (fun s => μ s.1 s.2) (fun n s hI hk => hs n s.1 s.2 hI (fun b1 b2 h9 hm => hk (b1, b2) h9 hm)) (a1, a2) h
theorem lp3 {A1 A2 A3 : Type} (W : Nat → A1 → A2 → A3 → Prop) (I : A1 → A2 → A3 → Prop) (μ : A1 → A2 → A3 → Nat) (hs : ∀ (n : Nat) (a1 : A1) (a2 : A2) (a3 : A3), I a1 a2 a3 → (∀ (b1 : A1) (b2 : A2) (b3 : A3), I b1 b2 b3 → μ b1 b2 b3 < μ a1 a2 a3 → W n b1 b2 b3) → W (n + 1) a1 a2 a3) (a1 : A1) (a2 : A2) (a3 : A3) (h : I a1 a2 a3) : ∃ n, W n a1 a2 a3 :=
  loop_m (σ := A1 × A2 × A3) (fun n s => W n s.1 s.2.1 s.2.2) (fun s => I s.1 s.2.1 s.2.2) (fun s => μ s.1 s.2.1 s.2.2) (fun n s hI hk => hs n s.1 s.2.1 s.2.2 hI (fun b1 b2 b3 h9 hm => hk (b1, b2, b3) h9 hm)) (a1, a2, a3) h
theorem lp4 {A1 A2 A3 A4 : Type} (W : Nat → A1 → A2 → A3 → A4 → Prop) (I : A1 → A2 → A3 → A4 → Prop) (μ : A1 → A2 → A3 → A4 → Nat) (hs : ∀ (n : Nat) (a1 : A1) (a2 : A2) (a3 : A3) (a4 : A4), I a1 a2 a3 a4 → (∀ (b1 : A1) (b2 : A2) (b3 : A3) (b4 : A4), I b1 b2 b3 b4 → μ b1 b2 b3 b4 < μ a1 a2 a3 a4 → W n b1 b2 b3 b4) → W (n + 1) a1 a2 a3 a4) (a1 : A1) (a2 : A2) (a3 : A3) (a4 : A4) (h : I a1 a2 a3 a4) : ∃ n, W n a1 a2 a3 a4 :=
  loop_m (σ := A1 × A2 × A3 × A4) (fun n s => W n s.1 s.2.1 s.2.2.1 s.2.2.2) (fun s => I s.1 s.2.1 s.2.2.1 s.2.2.2) (fun s => μ s.1 s.2.1 s.2.2.1 s.2.2.2) (fun n s hI hk => hs n s.1 s.2.1 s.2.2.1 s.2.2.2 hI (fun b1 b2 b3 b4 h9 hm => hk (b1, b2, b3, b4) h9 hm)) (a1, a2, a3, a4) h
theorem lp5 {A1 A2 A3 A4 A5 : Type} (W : Nat → A1 → A2 → A3 → A4 → A5 → Prop) (I : A1 → A2 → A3 → A4 → A5 → Prop) (μ : A1 → A2 → A3 → A4 → A5 → Nat) (hs : ∀ (n : Nat) (a1 : A1) (a2 : A2) (a3 : A3) (a4 : A4) (a5 : A5), I a1 a2 a3 a4 a5 → (∀ (b1 : A1) (b2 : A2) (b3 : A3) (b4 : A4) (b5 : A5), I b1 b2 b3 b4 b5 → μ b1 b2 b3 b4 b5 < μ a1 a2 a3 a4 a5 → W n b1 b2 b3 b4 b5) → W (n + 1) a1 a2 a3 a4 a5) (a1 : A1) (a2 : A2) (a3 : A3) (a4 : A4) (a5 : A5) (h : I a1 a2 a3 a4 a5) : ∃ n, W n a1 a2 a3 a4 a5 :=
  loop_m (σ := A1 × A2 × A3 × A4 × A5) (fun n s => W n s.1 s.2.1 s.2.2.1 s.2.2.2.1 s.2.2.2.2) (fun s => I s.1 s.2.1 s.2.2.1 s.2.2.2.1 s.2.2.2.2) (fun s => μ s.1 s.2.1 s.2.2.1 s.2.2.2.1 s.2.2.2.2) (fun n s hI hk => hs n s.1 s.2.1 s.2.2.1 s.2.2.2.1 s.2.2.2.2 hI (fun b1 b2 b3 b4 b5 h9 hm => hk (b1, b2, b3, b4, b5) h9 hm)) (a1, a2, a3, a4, a5) h
theorem lp6 {A1 A2 A3 A4 A5 A6 : Type} (W : Nat → A1 → A2 → A3 → A4 → A5 → A6 → Prop) (I : A1 → A2 → A3 → A4 → A5 → A6 → Prop) (μ : A1 → A2 → A3 → A4 → A5 → A6 → Nat) (hs : ∀ (n : Nat) (a1 : A1) (a2 : A2) (a3 : A3) (a4 : A4) (a5 : A5) (a6 : A6), I a1 a2 a3 a4 a5 a6 → (∀ (b1 : A1) (b2 : A2) (b3 : A3) (b4 : A4) (b5 : A5) (b6 : A6), I b1 b2 b3 b4 b5 b6 → μ b1 b2 b3 b4 b5 b6 < μ a1 a2 a3 a4 a5 a6 → W n b1 b2 b3 b4 b5 b6) → W (n + 1) a1 a2 a3 a4 a5 a6) (a1 : A1) (a2 : A2) (a3 : A3) (a4 : A4) (a5 : A5) (a6 : A6) (h : I a1 a2 a3 a4 a5 a6) : ∃ n, W n a1 a2 a3 a4 a5 a6 :=
  loop_m (σ := A1 × A2 × A3 × A4 × A5 × A6) (fun n s => W n s.1 s.2.1 s.2.2.1 s.2.2.2.1 s.2.2.2.2.1 s.2.2.2.2.2) (fun s => I s.1 s.2.1 s.2.2.1 s.2.2.2.1 s.2.2.2.2.1 s.2.2.2.2.2) (fun s => μ s.1 s.2.1 s.2.2.1 s.2.2.2.1 s.2.2.2.2.1 s.2.2.2.2.2) (fun n s hI hk => hs n s.1 s.2.1 s.2.2.1 s.2.2.2.1 s.2.2.2.2.1 s.2.2.2.2.2 hI (fun b1 b2 b3 b4 b5 b6 h9 hm => hk (b1, b2, b3, b4, b5, b6) h9 hm)) (a1, a2, a3, a4, a5, a6) h
theorem lp7 {A1 A2 A3 A4 A5 A6 A7 : Type} (W : Nat → A1 → A2 → A3 → A4 → A5 → A6 → A7 → Prop) (I : A1 → A2 → A3 → A4 → A5 → A6 → A7 → Prop) (μ : A1 → A2 → A3 → A4 → A5 → A6 → A7 → Nat) (hs : ∀ (n : Nat) (a1 : A1) (a2 : A2) (a3 : A3) (a4 : A4) (a5 : A5) (a6 : A6) (a7 : A7), I a1 a2 a3 a4 a5 a6 a7 → (∀ (b1 : A1) (b2 : A2) (b3 : A3) (b4 : A4) (b5 : A5) (b6 : A6) (b7 : A7), I b1 b2 b3 b4 b5 b6 b7 → μ b1 b2 b3 b4 b5 b6 b7 < μ a1 a2 a3 a4 a5 a6 a7 → W n b1 b2 b3 b4 b5 b6 b7) → W (n + 1) a1 a2 a3 a4 a5 a6 a7) (a1 : A1) (a2 : A2) (a3 : A3) (a4 : A4) (a5 : A5) (a6 : A6) (a7 : A7) (h : I a1 a2 a3 a4 a5 a6 a7) : ∃ n, W n a1 a2 a3 a4 a5 a6 a7 :=
  loop_m (σ := A1 × A2 × A3 × A4 × A5 × A6 × A7) (fun n s => W n s.1 s.2.1 s.2.2.1 s.2.2.2.1 s.2.2.2.2.1 s.2.2.2.2.2.1 s.2.2.2.2.2.2) (fun s => I s.1 s.2.1 s.2.2.1 s.2.2.2.1 s.2.2.2.2.1 s.2.2.2.2.2.1 s.2.2.2.2.2.2) (fun s => μ s.1 s.2.1 s.2.2.1 s.2.2.2.1 s.2.2.2.2.1 s.2.2.2.2.2.1 s.2.2.2.2.2.2) (fun n s hI hk => hs n s.1 s.2.1 s.2.2.1 s.2.2.2.1 s.2.2.2.2.1 s.2.2.2.2.2.1 s.2.2.2.2.2.2 hI (fun b1 b2 b3 b4 b5 b6 b7 h9 hm => hk (b1, b2, b3, b4, b5, b6, b7) h9 hm)) (a1, a2, a3, a4, a5, a6, a7) h
theorem lp8 {A1 A2 A3 A4 A5 A6 A7 A8 : Type} (W : Nat → A1 → A2 → A3 → A4 → A5 → A6 → A7 → A8 → Prop) (I : A1 → A2 → A3 → A4 → A5 → A6 → A7 → A8 → Prop) (μ : A1 → A2 → A3 → A4 → A5 → A6 → A7 → A8 → Nat) (hs : ∀ (n : Nat) (a1 : A1) (a2 : A2) (a3 : A3) (a4 : A4) (a5 : A5) (a6 : A6) (a7 : A7) (a8 : A8), I a1 a2 a3 a4 a5 a6 a7 a8 → (∀ (b1 : A1) (b2 : A2) (b3 : A3) (b4 : A4) (b5 : A5) (b6 : A6) (b7 : A7) (b8 : A8), I b1 b2 b3 b4 b5 b6 b7 b8 → μ b1 b2 b3 b4 b5 b6 b7 b8 < μ a1 a2 a3 a4 a5 a6 a7 a8 → W n b1 b2 b3 b4 b5 b6 b7 b8) → W (n + 1) a1 a2 a3 a4 a5 a6 a7 a8) (a1 : A1) (a2 : A2) (a3 : A3) (a4 : A4) (a5 : A5) (a6 : A6) (a7 : A7) (a8 : A8) (h : I a1 a2 a3 a4 a5 a6 a7 a8) : ∃ n, W n a1 a2 a3 a4 a5 a6 a7 a8 :=
  loop_m (σ := A1 × A2 × A3 × A4 × A5 × A6 × A7 × A8) (fun n s => W n s.1 s.2.1 s.2.2.1 s.2.2.2.1 s.2.2.2.2.1 s.2.2.2.2.2.1 s.2.2.2.2.2.2.1 s.2.2.2.2.2.2.2) (fun s => I s.1 s.2.1 s.2.2.1 s.2.2.2.1 s.2.2.2.2.1 s.2.2.2.2.2.1 s.2.2.2.2.2.2.1 s.2.2.2.2.2.2.2) (fun s => μ s.1 s.2.1 s.2.2.1 s.2.2.2.1 s.2.2.2.2.1 s.2.2.2.2.2.1 s.2.2.2.2.2.2.1 s.2.2.2.2.2.2.2) (fun n s hI hk => hs n s.1 s.2.1 s.2.2.1 s.2.2.2.1 s.2.2.2.2.1 s.2.2.2.2.2.1 s.2.2.2.2.2.2.1 s.2.2.2.2.2.2.2 hI (fun b1 b2 b3 b4 b5 b6 b7 b8 h9 hm => hk (b1, b2, b3, b4, b5, b6, b7, b8) h9 hm)) (a1, a2, a3, a4, a5, a6, a7, a8) h
theorem pk_least (P : Nat → Prop) (h : ∃ k, P k) : ∃ k, P k ∧ ∀ j, j < k → ¬ P j := by
  obtain ⟨k, hk⟩ := h
  induction k using Nat.strongRecOn with
  | ind k ih =>
    by_cases e : ∃ j, j < k ∧ P j
    · obtain ⟨j, hj, pj⟩ := e
      exact ih j hj pj
    · exact ⟨k, hk, fun j hj pj => e ⟨j, hj, pj⟩⟩
end
section
/-- a type as a tree: leaf 0 INT, leaf 1 BOOL, leaf (10 + k) a variable, branch 2 PAIR, branch 4 ARROW, branch 3 LIST (its right is leaf 0) -/
abbrev mt_T := Lean.RArray Nat
def mt_enc : mt_T → List Nat
  | .leaf n => [n]
  | .branch c a b => c :: (mt_enc a ++ (if c = 3 then [] else mt_enc b))
def mt_encs : List mt_T → List Nat
  | [] => []
  | t :: ts => mt_enc t ++ mt_encs ts
def mt_sub (s : Nat → mt_T) : mt_T → mt_T
  | .leaf n => if n < 10 then .leaf n else s (n - 10)
  | .branch c a b => .branch c (mt_sub s a) (mt_sub s b)
def mt_wf : mt_T → Prop
  | .leaf n => n = 0 ∨ n = 1 ∨ 10 ≤ n
  | .branch c a b => (c = 3 ∧ mt_wf a ∧ b = .leaf 0) ∨ ((c = 2 ∨ c = 4) ∧ mt_wf a ∧ mt_wf b)
def mt_sz : mt_T → Nat
  | .leaf _ => 1
  | .branch _ a b => mt_sz a + mt_sz b + 1
theorem mt_enc_ne (t : mt_T) : 0 < (mt_enc t).length := by
  cases t <;> simp [mt_enc]
theorem mt_wf0 : mt_wf (.leaf 0) := Or.inl rfl
theorem mt_wf1 : mt_wf (.leaf 1) := Or.inr (Or.inl rfl)
theorem mt_wfv (v : Nat) : mt_wf (.leaf (10 + v)) := Or.inr (Or.inr (by omega))
theorem mt_wf_ind {P : mt_T → Prop} (h0 : ∀ n, (n = 0 ∨ n = 1 ∨ 10 ≤ n) → P (.leaf n))
    (h2 : ∀ c a b, (c = 2 ∨ c = 4) → mt_wf a → mt_wf b → P a → P b → P (.branch c a b))
    (h3 : ∀ a, mt_wf a → P a → P (.branch 3 a (.leaf 0))) : ∀ t, mt_wf t → P t := by
  intro t
  induction t with
  | leaf n => intro h; exact h0 n h
  | branch c a b iha ihb =>
    intro h
    rcases h with ⟨rfl, ha, rfl⟩ | ⟨hc, ha, hb⟩
    · exact h3 a ha (iha ha)
    · exact h2 c a b hc ha hb (iha ha) (ihb hb)
/-- the codes tell the tree and where it ends -/
theorem mt_dec : ∀ t, mt_wf t → ∀ u x y, mt_wf u → mt_enc t ++ x = mt_enc u ++ y → t = u ∧ x = y := by
  apply mt_wf_ind
  · intro n hn u x y hu h
    cases u with
    | leaf m => simp only [mt_enc, List.cons_append, List.nil_append, List.cons.injEq] at h; exact ⟨by rw [h.1], h.2⟩
    | branch c a b =>
      simp only [mt_enc, List.cons_append, List.nil_append, List.cons.injEq] at h
      rcases hu with ⟨hc, _, _⟩ | ⟨hc, _, _⟩ <;> omega
  · intro c a b hc ha hb iha ihb u x y hu h
    cases u with
    | leaf m =>
      simp only [mt_enc, List.cons_append, List.nil_append, List.cons.injEq] at h
      rcases hu with hu | hu | hu <;> omega
    | branch c' a' b' =>
      have h3 : ¬ c = 3 := by omega
      rcases hu with ⟨hc', ha', hb'⟩ | ⟨hc', ha', hb'⟩
      · simp only [mt_enc, List.cons_append, List.cons.injEq] at h; omega
      · have h3' : ¬ c' = 3 := by omega
        simp only [mt_enc, if_neg h3, if_neg h3', List.cons_append, List.cons.injEq, List.append_assoc] at h
        obtain ⟨rfl, h⟩ := h
        obtain ⟨e1, h1⟩ := iha _ _ _ ha' h
        obtain ⟨e2, h2⟩ := ihb _ _ _ hb' h1
        exact ⟨by rw [e1, e2], h2⟩
  · intro a ha iha u x y hu h
    cases u with
    | leaf m =>
      simp only [mt_enc, List.cons_append, List.nil_append, List.cons.injEq] at h
      rcases hu with hu | hu | hu <;> omega
    | branch c' a' b' =>
      rcases hu with ⟨hc', ha', hb'⟩ | ⟨hc', ha', hb'⟩
      · subst hc'; subst hb'
        simp only [mt_enc, if_true, List.append_nil, List.cons_append, List.cons.injEq, true_and] at h
        obtain ⟨e1, h1⟩ := iha _ _ _ ha' h
        exact ⟨by rw [e1], h1⟩
      · simp only [mt_enc, List.cons_append, List.cons.injEq] at h; omega
theorem mt_decs : ∀ ts us : List mt_T, (∀ t ∈ ts, mt_wf t) → (∀ u ∈ us, mt_wf u) → mt_encs ts = mt_encs us → ts = us := by
  intro ts
  induction ts with
  | nil =>
    intro us _ _ h
    cases us with
    | nil => rfl
    | cons u us =>
      exfalso
      have h1 := congrArg List.length h
      have h2 := mt_enc_ne u
      simp only [mt_encs, List.length_nil, List.length_append] at h1
      omega
  | cons t ts ih =>
    intro us ht hu h
    cases us with
    | nil =>
      exfalso
      have h1 := congrArg List.length h
      have h2 := mt_enc_ne t
      simp only [mt_encs, List.length_nil, List.length_append] at h1
      omega
    | cons u us =>
      simp only [mt_encs] at h
      obtain ⟨e1, h1⟩ := mt_dec t (ht t (by simp)) u _ _ (hu u (by simp)) h
      rw [e1, ih us (fun x hx => ht x (by simp [hx])) (fun x hx => hu x (by simp [hx])) h1]
theorem mt_sub_wf {s : Nat → mt_T} (hs : ∀ v, mt_wf (s v)) : ∀ t, mt_wf t → mt_wf (mt_sub s t) := by
  apply mt_wf_ind
  · intro n hn
    by_cases h : n < 10
    · rw [mt_sub, if_pos h]; exact hn
    · rw [mt_sub, if_neg h]; exact hs _
  · intro c a b hc _ _ ia ib
    exact Or.inr ⟨hc, ia, ib⟩
  · intro a _ ia
    exact Or.inl ⟨rfl, ia, by rw [mt_sub, if_pos (by omega)]⟩
theorem mt_sub_sub (s s' : Nat → mt_T) : ∀ t, mt_sub s (mt_sub s' t) = mt_sub (fun v => mt_sub s (s' v)) t := by
  intro t
  induction t with
  | leaf n =>
    by_cases h : n < 10
    · simp only [mt_sub, if_pos h]
    · simp only [mt_sub, if_neg h]
  | branch c a b ia ib => simp only [mt_sub, ia, ib]
theorem mt_sub_id : ∀ t, mt_sub (fun v => .leaf (10 + v)) t = t := by
  intro t
  induction t with
  | leaf n =>
    by_cases h : n < 10
    · simp only [mt_sub, if_pos h]
    · simp only [mt_sub, if_neg h]; congr 1; omega
  | branch c a b ia ib => simp only [mt_sub, ia, ib]
theorem mt_sub_len (s : Nat → mt_T) : ∀ t, (mt_enc t).length ≤ (mt_enc (mt_sub s t)).length := by
  intro t
  induction t with
  | leaf n => have h := mt_enc_ne (mt_sub s (.leaf n)); simp only [mt_enc, List.length_cons, List.length_nil]; omega
  | branch c a b ia ib =>
    by_cases h : c = 3
    · simp only [mt_sub, mt_enc, if_pos h, List.append_nil, List.length_cons]; omega
    · simp only [mt_sub, mt_enc, if_neg h, List.length_append, List.length_cons]; omega
theorem mt_sub_congr {s s' : Nat → mt_T} : ∀ t, mt_wf t → (∀ v, 10 + v ∈ mt_enc t → s v = s' v) → mt_sub s t = mt_sub s' t := by
  apply mt_wf_ind
  · intro n hn h
    by_cases hl : n < 10
    · simp only [mt_sub, if_pos hl]
    · simp only [mt_sub, if_neg hl]
      exact h _ (by simp only [mt_enc, List.mem_singleton]; omega)
  · intro c a b hc _ _ ia ib h
    have h3 : ¬ c = 3 := by omega
    simp only [mt_sub]
    rw [ia (fun v hv => h v (by simp only [mt_enc, if_neg h3, List.mem_cons, List.mem_append]; exact Or.inr (Or.inl hv))),
      ib (fun v hv => h v (by simp only [mt_enc, if_neg h3, List.mem_cons, List.mem_append]; exact Or.inr (Or.inr hv)))]
  · intro a _ ia h
    simp only [mt_sub]
    rw [ia (fun v hv => h v (by simp only [mt_enc, if_true, List.append_nil, List.mem_cons]; exact Or.inr hv))]
    simp
theorem mt_sub_inj {s s' : Nat → mt_T} : ∀ t, mt_wf t → mt_sub s t = mt_sub s' t → ∀ v, 10 + v ∈ mt_enc t → s v = s' v := by
  apply mt_wf_ind
  · intro n hn h v hv
    simp only [mt_enc, List.mem_singleton] at hv
    have hl : ¬ n < 10 := by omega
    simp only [mt_sub, if_neg hl] at h
    have : v = n - 10 := by omega
    rw [this]; exact h
  · intro c a b hc _ _ ia ib h v hv
    have h3 : ¬ c = 3 := by omega
    simp only [mt_sub, Lean.RArray.branch.injEq, true_and] at h
    simp only [mt_enc, if_neg h3, List.mem_cons, List.mem_append] at hv
    rcases hv with hv | hv | hv
    · omega
    · exact ia h.1 v hv
    · exact ib h.2 v hv
  · intro a _ ia h v hv
    simp only [mt_sub, Lean.RArray.branch.injEq, true_and] at h
    simp only [mt_enc, if_true, List.append_nil, List.mem_cons] at hv
    rcases hv with hv | hv
    · omega
    · exact ia h.1 v hv
/-- a renaming of variables renames the codes -/
def mt_rn (g : Nat → Nat) (c : Nat) : Nat := if c < 10 then c else g (c - 10)
theorem mt_enc_rn {s : Nat → mt_T} {g : Nat → Nat} : ∀ t, mt_wf t → (∀ v, 10 + v ∈ mt_enc t → s v = .leaf (g v)) → mt_enc (mt_sub s t) = (mt_enc t).map (mt_rn g) := by
  apply mt_wf_ind
  · intro n hn h
    by_cases hl : n < 10
    · simp only [mt_sub, if_pos hl, mt_enc, List.map_cons, List.map_nil, mt_rn]
    · have h1 := h (n - 10) (by simp only [mt_enc, List.mem_singleton]; omega)
      simp only [mt_sub, if_neg hl, mt_enc, List.map_cons, List.map_nil, mt_rn, h1]
  · intro c a b hc _ _ ia ib h
    have h3 : ¬ c = 3 := by omega
    have hl : c < 10 := by omega
    have ia' := ia (fun v hv => h v (by simp only [mt_enc, if_neg h3, List.mem_cons, List.mem_append]; exact Or.inr (Or.inl hv)))
    have ib' := ib (fun v hv => h v (by simp only [mt_enc, if_neg h3, List.mem_cons, List.mem_append]; exact Or.inr (Or.inr hv)))
    simp only [mt_sub, mt_enc, if_neg h3, ia', ib', List.map_cons, List.map_append, mt_rn, if_pos hl]
  · intro a _ ia h
    have ia' := ia (fun v hv => h v (by simp only [mt_enc, if_true, List.append_nil, List.mem_cons]; exact Or.inr hv))
    simp only [mt_sub, mt_enc, if_true, List.append_nil, ia', List.map_cons, mt_rn]
    simp
/-- variables numbered as they appear -/
def cn_ix (c : Nat) : List Nat → Nat
  | [] => 0
  | v :: vs => if v = c then 0 else cn_ix c vs + 1
def cn_go : List Nat → List Nat → List Nat
  | _, [] => []
  | vs, c :: cs => if c < 10 then c :: cn_go vs cs else if c ∈ vs then (10 + cn_ix c vs) :: cn_go vs cs else (10 + vs.length) :: cn_go (vs ++ [c]) cs
def cn_seen : List Nat → List Nat → List Nat
  | vs, [] => vs
  | vs, c :: cs => if c < 10 then cn_seen vs cs else if c ∈ vs then cn_seen vs cs else cn_seen (vs ++ [c]) cs
theorem cn_ix_app {c : Nat} : ∀ vs ws : List Nat, c ∈ vs → cn_ix c (vs ++ ws) = cn_ix c vs := by
  intro vs
  induction vs with
  | nil => intro ws h; simp at h
  | cons v vs ih =>
    intro ws h
    by_cases e : v = c
    · simp only [List.cons_append, cn_ix, if_pos e]
    · simp only [List.cons_append, cn_ix, if_neg e]
      rw [ih ws (by simp only [List.mem_cons] at h; rcases h with h | h; exact absurd h.symm e; exact h)]
theorem cn_ix_new {c : Nat} : ∀ vs ws : List Nat, ¬ c ∈ vs → cn_ix c (vs ++ c :: ws) = vs.length := by
  intro vs
  induction vs with
  | nil => intro ws _; simp [cn_ix]
  | cons v vs ih =>
    intro ws h
    simp only [List.mem_cons, not_or] at h
    simp only [List.cons_append, cn_ix, if_neg (fun e : v = c => h.1 e.symm), List.length_cons]
    rw [ih ws h.2]
theorem cn_seen_app : ∀ cs vs : List Nat, ∃ ws, cn_seen vs cs = vs ++ ws := by
  intro cs
  induction cs with
  | nil => intro vs; exact ⟨[], by simp [cn_seen]⟩
  | cons c cs ih =>
    intro vs
    by_cases h : c < 10
    · obtain ⟨ws, e⟩ := ih vs; exact ⟨ws, by rw [cn_seen, if_pos h, e]⟩
    · by_cases m : c ∈ vs
      · obtain ⟨ws, e⟩ := ih vs; exact ⟨ws, by rw [cn_seen, if_neg h, if_pos m, e]⟩
      · obtain ⟨ws, e⟩ := ih (vs ++ [c]); exact ⟨c :: ws, by rw [cn_seen, if_neg h, if_neg m, e]; simp⟩
theorem cn_go_map : ∀ cs vs : List Nat, cn_go vs cs = cs.map (mt_rn (fun v => 10 + cn_ix (10 + v) (cn_seen vs cs))) := by
  intro cs
  induction cs with
  | nil => intro vs; simp [cn_go]
  | cons c cs ih =>
    intro vs
    by_cases h : c < 10
    · simp only [cn_go, cn_seen, if_pos h, List.map_cons, mt_rn]
      rw [ih vs]
    · have hc : 10 + (c - 10) = c := by omega
      by_cases m : c ∈ vs
      · simp only [cn_go, cn_seen, if_neg h, if_pos m, List.map_cons, mt_rn, hc]
        obtain ⟨ws, e⟩ := cn_seen_app cs vs
        rw [ih vs, e, cn_ix_app vs ws m]
      · simp only [cn_go, cn_seen, if_neg h, if_neg m, List.map_cons, mt_rn, hc]
        obtain ⟨ws, e⟩ := cn_seen_app cs (vs ++ [c])
        rw [ih (vs ++ [c]), e, List.append_assoc, List.singleton_append, cn_ix_new vs ws m]
theorem cn_seen_mem : ∀ cs vs : List Nat, ∀ c, ¬ c < 10 → (c ∈ cs ∨ c ∈ vs) → c ∈ cn_seen vs cs := by
  intro cs
  induction cs with
  | nil => intro vs c _ h; simpa [cn_seen] using h
  | cons d cs ih =>
    intro vs c hc h
    by_cases hd : d < 10
    · rw [cn_seen, if_pos hd]
      refine ih vs c hc ?_
      rcases h with h | h
      · simp only [List.mem_cons] at h
        rcases h with h | h
        · omega
        · exact Or.inl h
      · exact Or.inr h
    · by_cases m : d ∈ vs
      · rw [cn_seen, if_neg hd, if_pos m]
        refine ih vs c hc ?_
        rcases h with h | h
        · simp only [List.mem_cons] at h
          rcases h with h | h
          · exact Or.inr (h ▸ m)
          · exact Or.inl h
        · exact Or.inr h
      · rw [cn_seen, if_neg hd, if_neg m]
        refine ih _ c hc ?_
        rcases h with h | h
        · simp only [List.mem_cons] at h
          rcases h with h | h
          · exact Or.inr (by simp [h])
          · exact Or.inl h
        · exact Or.inr (by simp [h])
theorem cn_ix_get {c : Nat} : ∀ vs : List Nat, c ∈ vs → vs.getD (cn_ix c vs) 0 = c := by
  intro vs
  induction vs with
  | nil => intro h; simp at h
  | cons v vs ih =>
    intro h
    by_cases e : v = c
    · simp [cn_ix, e]
    · simp only [List.mem_cons] at h
      rcases h with h | h
      · exact absurd h.symm e
      · simp only [cn_ix, if_neg e, List.getD_cons_succ]; exact ih h
theorem cn_ix_inj {c d : Nat} {vs : List Nat} (hc : c ∈ vs) (hd : d ∈ vs) (h : cn_ix c vs = cn_ix d vs) : c = d := by
  rw [← cn_ix_get vs hc, ← cn_ix_get vs hd, h]
theorem cn_ix_f {f : Nat → Nat} {c : Nat} : ∀ vs : List Nat, (∀ d ∈ vs, f d = f c → d = c) → cn_ix (f c) (vs.map f) = cn_ix c vs := by
  intro vs
  induction vs with
  | nil => intro _; rfl
  | cons v vs ih =>
    intro h
    by_cases e : v = c
    · simp [cn_ix, e]
    · have hne : ¬ f v = f c := fun z => e (h v (by simp) z)
      simp only [List.map_cons, cn_ix, if_neg e, if_neg hne]
      rw [ih (fun d hd => h d (by simp [hd]))]
/-- numbering doesn't see a renaming -/
theorem cn_go_f {f : Nat → Nat} : ∀ cs vs : List Nat, (∀ c ∈ cs, c < 10 → f c = c) → (∀ c ∈ cs, ¬ c < 10 → ¬ f c < 10) →
    (∀ c d, c ∈ cs ∨ c ∈ vs → d ∈ cs ∨ d ∈ vs → ¬ c < 10 → ¬ d < 10 → f c = f d → c = d) → (∀ d ∈ vs, ¬ d < 10) →
    cn_go (vs.map f) (cs.map f) = cn_go vs cs := by
  intro cs
  induction cs with
  | nil => intro vs _ _ _ _; rfl
  | cons c cs ih =>
    intro vs h0 h1 hi hv
    have h0' : ∀ d ∈ cs, d < 10 → f d = d := fun d hd => h0 d (by simp [hd])
    have h1' : ∀ d ∈ cs, ¬ d < 10 → ¬ f d < 10 := fun d hd => h1 d (by simp [hd])
    have hi' : ∀ a d, a ∈ cs ∨ a ∈ vs → d ∈ cs ∨ d ∈ vs → ¬ a < 10 → ¬ d < 10 → f a = f d → a = d := by
      intro a d ha hd
      refine hi a d ?_ ?_
      · rcases ha with ha | ha
        · exact Or.inl (by simp [ha])
        · exact Or.inr ha
      · rcases hd with hd | hd
        · exact Or.inl (by simp [hd])
        · exact Or.inr hd
    by_cases h : c < 10
    · have e := h0 c (by simp) h
      simp only [List.map_cons, cn_go, e, if_pos h]
      rw [ih vs h0' h1' hi' hv]
    · have h' := h1 c (by simp) h
      by_cases m : c ∈ vs
      · have m' : f c ∈ vs.map f := List.mem_map.mpr ⟨c, m, rfl⟩
        simp only [List.map_cons, cn_go, if_neg h, if_neg h', if_pos m, if_pos m']
        rw [ih vs h0' h1' hi' hv, cn_ix_f vs (fun d hd e => hi d c (Or.inr hd) (Or.inl (by simp)) (hv d hd) h e)]
      · have m' : ¬ f c ∈ vs.map f := by
          intro z
          obtain ⟨d, hd, e⟩ := List.mem_map.mp z
          exact m (hi d c (Or.inr hd) (Or.inl (by simp)) (hv d hd) h e ▸ hd)
        simp only [List.map_cons, cn_go, if_neg h, if_neg h', if_neg m, if_neg m', List.length_map]
        have := ih (vs ++ [c]) h0' h1' (by
          intro a d ha hd
          refine hi a d ?_ ?_
          · rcases ha with ha | ha
            · exact Or.inl (by simp [ha])
            · simp only [List.mem_append, List.mem_singleton] at ha
              rcases ha with ha | ha
              · exact Or.inr ha
              · exact Or.inl (by simp [ha])
          · rcases hd with hd | hd
            · exact Or.inl (by simp [hd])
            · simp only [List.mem_append, List.mem_singleton] at hd
              rcases hd with hd | hd
              · exact Or.inr hd
              · exact Or.inl (by simp [hd])) (by
          intro d hd
          simp only [List.mem_append, List.mem_singleton] at hd
          rcases hd with hd | hd
          · exact hv d hd
          · rw [hd]; exact h)
        rw [List.map_append, List.map_cons, List.map_nil] at this
        rw [this]
end
section
theorem mt_mem_encs {c : Nat} : ∀ ts : List mt_T, c ∈ mt_encs ts ↔ ∃ t, t ∈ ts ∧ c ∈ mt_enc t := by
  intro ts
  induction ts with
  | nil => simp [mt_encs]
  | cons t ts ih => simp only [mt_encs, List.mem_append, ih, List.mem_cons, exists_eq_or_imp]
theorem mt_encs_rn {s : Nat → mt_T} {g : Nat → Nat} : ∀ ts : List mt_T, (∀ t ∈ ts, mt_wf t) → (∀ v, 10 + v ∈ mt_encs ts → s v = .leaf (g v)) →
    mt_encs (ts.map (mt_sub s)) = (mt_encs ts).map (mt_rn g) := by
  intro ts
  induction ts with
  | nil => intro _ _; rfl
  | cons t ts ih =>
    intro hw h
    simp only [List.map_cons, mt_encs, List.map_append]
    rw [ih (fun x hx => hw x (by simp [hx])) (fun v hv => h v (by simp only [mt_encs, List.mem_append]; exact Or.inr hv)),
      mt_enc_rn t (hw t (by simp)) (fun v hv => h v (by simp only [mt_encs, List.mem_append]; exact Or.inl hv))]
theorem mt_subs_congr {s s' : Nat → mt_T} {ts : List mt_T} (hw : ∀ t ∈ ts, mt_wf t) (h : ∀ v, 10 + v ∈ mt_encs ts → s v = s' v) :
    ts.map (mt_sub s) = ts.map (mt_sub s') := by
  apply List.map_congr_left
  intro t ht
  exact mt_sub_congr t (hw t ht) (fun v hv => h v ((mt_mem_encs ts).mpr ⟨t, ht, hv⟩))
def mt_lf : mt_T → Nat
  | .leaf n => n
  | .branch _ _ _ => 0
/-- two lists of trees, each an image of the other, have the same numbered codes -/
theorem mt_agree {ts us : List mt_T} {a b : Nat → mt_T} (ht : ∀ t ∈ ts, mt_wf t) (hu : us = ts.map (mt_sub a)) (hb : ts = us.map (mt_sub b)) :
    cn_go [] (mt_encs us) = cn_go [] (mt_encs ts) := by
  have hv : ∀ v, 10 + v ∈ mt_encs ts → mt_sub b (a v) = .leaf (10 + v) := by
    intro v hv
    obtain ⟨t, htm, hvt⟩ := (mt_mem_encs ts).mp hv
    have e : ts.map (fun t => mt_sub b (mt_sub a t)) = ts.map (fun t => t) := by
      rw [List.map_id']
      conv => rhs; rw [hb, hu, List.map_map]
      rfl
    have e1 := List.map_inj_left.mp e t htm
    simp only [mt_sub_sub] at e1
    have e2 : mt_sub (fun v => mt_sub b (a v)) t = mt_sub (fun v => .leaf (10 + v)) t := by rw [e1, mt_sub_id]
    exact mt_sub_inj t (ht t htm) e2 v hvt
  have hg : ∃ g : Nat → Nat, ∀ v, 10 + v ∈ mt_encs ts → a v = .leaf (g v) ∧ ¬ g v < 10 ∧ b (g v - 10) = .leaf (10 + v) := by
    refine ⟨fun v => mt_lf (a v), ?_⟩
    intro v hm
    have h := hv v hm
    dsimp only
    generalize a v = t at h
    cases t with
    | leaf n =>
      by_cases hl : n < 10
      · simp only [mt_sub, if_pos hl, Lean.RArray.leaf.injEq] at h; omega
      · simp only [mt_sub, if_neg hl] at h
        exact ⟨rfl, hl, h⟩
    | branch c x y => simp only [mt_sub] at h; cases h
  obtain ⟨g, hg⟩ := hg
  rw [hu, mt_encs_rn ts ht (fun v hm => (hg v hm).1)]
  have hoc : ∀ c, c ∈ mt_encs ts → ¬ c < 10 → 10 + (c - 10) ∈ mt_encs ts := by
    intro c hc hl
    have : 10 + (c - 10) = c := by omega
    rw [this]; exact hc
  refine cn_go_f (f := mt_rn g) (mt_encs ts) [] ?_ ?_ ?_ ?_
  · intro c _ hl; simp only [mt_rn, if_pos hl]
  · intro c hc hl; simp only [mt_rn, if_neg hl]; exact (hg _ (hoc c hc hl)).2.1
  · intro c d hc hd hlc hld e
    simp only [mt_rn, if_neg hlc, if_neg hld] at e
    have hc' : c ∈ mt_encs ts := by rcases hc with hc | hc; exact hc; simp at hc
    have hd' : d ∈ mt_encs ts := by rcases hd with hd | hd; exact hd; simp at hd
    have h1 := (hg _ (hoc c hc' hlc)).2.2
    have h2 := (hg _ (hoc d hd' hld)).2.2
    rw [e, h2] at h1
    simp only [Lean.RArray.leaf.injEq] at h1
    omega
  · intro d hd; simp at hd
/-- tp is what the codes L say, the variables in it standing for any types -/
def sc_inst (L : List Nat) (tp : List mt_T) : Prop :=
  ∃ ts : List mt_T, (∀ t ∈ ts, mt_wf t) ∧ mt_encs ts = L ∧ ∃ s : Nat → mt_T, (∀ v, mt_wf (s v)) ∧ tp = ts.map (mt_sub s)
/-- c is a most general solution on the nodes below N -/
def mg_is (N : Nat) (Sol : (Nat → mt_T) → Prop) (c : Nat → mt_T) : Prop :=
  (∀ n, mt_wf (c n)) ∧ (∀ s : Nat → mt_T, (∀ v, mt_wf (s v)) → Sol (fun n => mt_sub s (c n))) ∧
  (∀ r : Nat → mt_T, (∀ n, mt_wf (r n)) → Sol r → ∃ s : Nat → mt_T, (∀ v, mt_wf (s v)) ∧ ∀ n, n < N → r n = mt_sub s (c n))
theorem mg_inst {N : Nat} {Sol : (Nat → mt_T) → Prop} {c : Nat → mt_T} (h : mg_is N Sol c) (ns : List Nat) (hn : ∀ n ∈ ns, n < N) (tp : List mt_T) :
    (∃ r : Nat → mt_T, (∀ n, mt_wf (r n)) ∧ Sol r ∧ tp = ns.map r) ↔ sc_inst (cn_go [] (mt_encs (ns.map c))) tp := by
  have hw : ∀ t ∈ ns.map c, mt_wf t := by
    intro t ht
    obtain ⟨n, _, rfl⟩ := List.mem_map.mp ht
    exact h.1 n
  let raw := mt_encs (ns.map c)
  let W := cn_seen [] raw
  let g : Nat → Nat := fun v => 10 + cn_ix (10 + v) W
  let ts := (ns.map c).map (mt_sub (fun v => .leaf (g v)))
  have he : mt_encs ts = cn_go [] raw := by
    rw [cn_go_map]
    exact mt_encs_rn (ns.map c) hw (fun v _ => rfl)
  have htw : ∀ t ∈ ts, mt_wf t := by
    intro t ht
    obtain ⟨x, hx, rfl⟩ := List.mem_map.mp ht
    exact mt_sub_wf (fun v => mt_wfv _) x (hw x hx)
  constructor
  · rintro ⟨r, hr, hS, rfl⟩
    obtain ⟨s, hs, e⟩ := h.2.2 r hr hS
    refine ⟨ts, htw, he, fun k => s (W.getD k 0 - 10), fun v => hs _, ?_⟩
    have e1 : ns.map r = (ns.map c).map (mt_sub s) := by
      rw [List.map_map]
      exact List.map_congr_left (fun n hm => e n (hn n hm))
    rw [e1]
    show _ = ((ns.map c).map (mt_sub (fun v => .leaf (g v)))).map (mt_sub (fun k => s (W.getD k 0 - 10)))
    rw [List.map_map (l := ns.map c)]
    have e2 : (mt_sub (fun k => s (W.getD k 0 - 10)) ∘ mt_sub (fun v => .leaf (g v))) = mt_sub (fun v => mt_sub (fun k => s (W.getD k 0 - 10)) (.leaf (g v))) := by
      funext t; exact mt_sub_sub _ _ t
    rw [e2]
    refine mt_subs_congr hw (fun v hv => ?_)
    have hm : 10 + v ∈ W := cn_seen_mem raw [] (10 + v) (by omega) (Or.inl hv)
    have hl : ¬ g v < 10 := by show ¬ 10 + _ < 10; omega
    rw [mt_sub, if_neg hl]
    have hg : g v - 10 = cn_ix (10 + v) W := by show 10 + _ - 10 = _; omega
    rw [hg, cn_ix_get W hm]
    congr 1; omega
  · rintro ⟨ts', hw', he', s, hs, rfl⟩
    have e : ts' = ts := mt_decs ts' ts hw' htw (he'.trans he.symm)
    subst e
    refine ⟨fun n => mt_sub (fun v => mt_sub s (.leaf (g v))) (c n), fun n => mt_sub_wf (fun v => mt_sub_wf hs _ (mt_wfv _)) _ (h.1 n), h.2.1 _ (fun v => mt_sub_wf hs _ (mt_wfv _)), ?_⟩
    show ((ns.map c).map (mt_sub (fun v => .leaf (g v)))).map (mt_sub s) = _
    rw [List.map_map, List.map_map]
    apply List.map_congr_left
    intro n _
    exact mt_sub_sub _ _ (c n)
/-- Sol, on the nodes below B, is S -/
def pj_is (B : Nat) (Sol S : (Nat → mt_T) → Prop) : Prop :=
  (∀ r : Nat → mt_T, (∀ n, mt_wf (r n)) → Sol r → S r) ∧
  (∀ r : Nat → mt_T, (∀ n, mt_wf (r n)) → S r → ∃ r' : Nat → mt_T, (∀ n, mt_wf (r' n)) ∧ Sol r' ∧ ∀ n, n < B → r' n = r n)
theorem mg_self {N : Nat} {Sol : (Nat → mt_T) → Prop} {c : Nat → mt_T} (h : mg_is N Sol c) : Sol c := by
  have := h.2.1 (fun v => .leaf (10 + v)) (fun v => mt_wfv v)
  simp only [mt_sub_id] at this
  exact this
theorem pj_one {B N M : Nat} {Sa Sb S : (Nat → mt_T) → Prop} {c d : Nat → mt_T} (hM : B ≤ M) (hX : mg_is N Sa c) (pX : pj_is B Sa S) (hY : mg_is M Sb d) (pY : pj_is B Sb S) :
    ∃ s : Nat → mt_T, ∀ n, n < B → c n = mt_sub s (d n) := by
  obtain ⟨r, hr, hS, e⟩ := pY.2 c hX.1 (pX.1 c hX.1 (mg_self hX))
  obtain ⟨s, _, es⟩ := hY.2.2 r hr hS
  exact ⟨s, fun n hn => by rw [← e n hn]; exact es n (by omega)⟩
theorem pj_codes {B N M : Nat} {Sa Sb S : (Nat → mt_T) → Prop} {c d : Nat → mt_T} (hN : B ≤ N) (hM : B ≤ M) (hX : mg_is N Sa c) (pX : pj_is B Sa S) (hY : mg_is M Sb d) (pY : pj_is B Sb S)
    (ns : List Nat) (hn : ∀ n ∈ ns, n < B) : cn_go [] (mt_encs (ns.map c)) = cn_go [] (mt_encs (ns.map d)) := by
  obtain ⟨s, hs⟩ := pj_one hM hX pX hY pY
  obtain ⟨s', hs'⟩ := pj_one hN hY pY hX pX
  refine mt_agree (a := s) (b := s') ?_ ?_ ?_
  · intro t ht
    obtain ⟨n, _, rfl⟩ := List.mem_map.mp ht
    exact hY.1 n
  · rw [List.map_map]; exact List.map_congr_left (fun n hm => hs n (hn n hm))
  · rw [List.map_map]; exact List.map_congr_left (fun n hm => hs' n (hn n hm))
theorem pj_len {B N M : Nat} {Sa Sb S : (Nat → mt_T) → Prop} {c d : Nat → mt_T} (hN : B ≤ N) (hM : B ≤ M) (hX : mg_is N Sa c) (pX : pj_is B Sa S) (hY : mg_is M Sb d) (pY : pj_is B Sb S)
    (n : Nat) (hn : n < B) : (mt_enc (c n)).length = (mt_enc (d n)).length := by
  obtain ⟨s, hs⟩ := pj_one hM hX pX hY pY
  obtain ⟨s', hs'⟩ := pj_one hN hY pY hX pX
  have h1 := mt_sub_len s (d n)
  have h2 := mt_sub_len s' (c n)
  rw [← hs n hn] at h1
  rw [← hs' n hn] at h2
  omega
/-- the variables that are left over being INT -/
def cl_0 (L : List Nat) : List Nat := L.map (mt_rn (fun _ => 0))
theorem cl_go (L : List Nat) : cl_0 (cn_go [] L) = cl_0 L := by
  rw [cn_go_map]
  simp only [cl_0, List.map_map]
  apply List.map_congr_left
  intro c _
  by_cases h : c < 10
  · simp only [Function.comp, mt_rn, if_pos h]
  · have : ¬ 10 + cn_ix (10 + (c - 10)) (cn_seen [] L) < 10 := by omega
    simp only [Function.comp, mt_rn, if_neg h, if_neg this]
theorem cl_encs (ts : List mt_T) (h : ∀ t ∈ ts, mt_wf t) : mt_encs (ts.map (mt_sub (fun _ => .leaf 0))) = cl_0 (mt_encs ts) :=
  mt_encs_rn ts h (fun _ _ => rfl)
end
section
/-- what node n is, if the nodes that it names are r -/
def gr_at (K : Nat → Int32) (L R : Nat → Nat) (r : Nat → mt_T) (n : Nat) : mt_T :=
  if K n = 5 then r (L n) else if K n = 0 then .leaf 0 else if K n = 1 then .leaf 1 else if K n = 3 then .branch 3 (r (L n)) (.leaf 0)
  else if K n = 2 then .branch 2 (r (L n)) (r (R n)) else if K n = 4 then .branch 4 (r (L n)) (r (R n)) else r n
def gr_sat (N : Nat) (K : Nat → Int32) (L R : Nat → Nat) (r : Nat → mt_T) : Prop := ∀ n, n < N → r n = gr_at K L R r n
def gr_lf (k : Int32) : Prop := k = 3 ∨ k = 2 ∨ k = 4
def gr_rg (k : Int32) : Prop := k = 2 ∨ k = 4
/-- the nodes that n names -/
def gr_ch (K : Nat → Int32) (L R : Nat → Nat) (n m : Nat) : Prop := ((K n = 5 ∨ gr_lf (K n)) ∧ m = L n) ∨ (gr_rg (K n) ∧ m = R n)
theorem gr_at_congr {K : Nat → Int32} {L R : Nat → Nat} {r r' : Nat → mt_T} {n : Nat} (h : ∀ m, gr_ch K L R n m → r m = r' m) (hv : r n = r' n) :
    gr_at K L R r n = gr_at K L R r' n := by
  unfold gr_at
  by_cases h5 : K n = 5
  · rw [if_pos h5, if_pos h5]; exact h _ (Or.inl ⟨Or.inl h5, rfl⟩)
  · rw [if_neg h5, if_neg h5]
    by_cases h0 : K n = 0
    · rw [if_pos h0, if_pos h0]
    · rw [if_neg h0, if_neg h0]
      by_cases h1 : K n = 1
      · rw [if_pos h1, if_pos h1]
      · rw [if_neg h1, if_neg h1]
        by_cases h3 : K n = 3
        · rw [if_pos h3, if_pos h3, h _ (Or.inl ⟨Or.inr (Or.inl h3), rfl⟩)]
        · rw [if_neg h3, if_neg h3]
          by_cases h2 : K n = 2
          · rw [if_pos h2, if_pos h2, h _ (Or.inl ⟨Or.inr (Or.inr (Or.inl h2)), rfl⟩), h _ (Or.inr ⟨Or.inl h2, rfl⟩)]
          · rw [if_neg h2, if_neg h2]
            by_cases h4 : K n = 4
            · rw [if_pos h4, if_pos h4, h _ (Or.inl ⟨Or.inr (Or.inr (Or.inr h4)), rfl⟩), h _ (Or.inr ⟨Or.inr h4, rfl⟩)]
            · rw [if_neg h4, if_neg h4, hv]
theorem gr_at_wf {K : Nat → Int32} {L R : Nat → Nat} {r : Nat → mt_T} (hr : ∀ n, mt_wf (r n)) (n : Nat) : mt_wf (gr_at K L R r n) := by
  unfold gr_at
  split
  · exact hr _
  · split
    · exact mt_wf0
    · split
      · exact mt_wf1
      · split
        · exact Or.inl ⟨rfl, hr _, rfl⟩
        · split
          · exact Or.inr ⟨Or.inl rfl, hr _, hr _⟩
          · split
            · exact Or.inr ⟨Or.inr rfl, hr _, hr _⟩
            · exact hr _
theorem gr_at_sub {K : Nat → Int32} {L R : Nat → Nat} {r : Nat → mt_T} (s : Nat → mt_T) (n : Nat) :
    gr_at K L R (fun m => mt_sub s (r m)) n = mt_sub s (gr_at K L R r n) := by
  have z0 : mt_sub s (.leaf 0) = .leaf 0 := by rw [mt_sub, if_pos (by omega)]
  have z1 : mt_sub s (.leaf 1) = .leaf 1 := by rw [mt_sub, if_pos (by omega)]
  unfold gr_at
  split
  · rfl
  · split
    · exact z0.symm
    · split
      · exact z1.symm
      · split
        · rw [mt_sub, z0]
        · split
          · rw [mt_sub]
          · split
            · rw [mt_sub]
            · rfl
/-- kinds that a node may have -/
def gr_kd (k : Int32) : Prop := k = 0 ∨ k = 1 ∨ k = 2 ∨ k = 3 ∨ k = 4 ∨ k = 5 ∨ k = 10
/-- P: nodes that are measured already, each with its tree c -/
def gr_M (N : Nat) (K : Nat → Int32) (L R : Nat → Nat) (P : Nat → Prop) (c : Nat → mt_T) : Prop :=
  (∀ n, mt_wf (c n)) ∧ ∀ n, n < N → P n → (K n = 10 → c n = .leaf (10 + n)) ∧ (K n ≠ 10 → c n = gr_at K L R c n) ∧ (∀ m, gr_ch K L R n m → m < N ∧ P m) ∧
    (∀ r : Nat → mt_T, gr_sat N K L R r → r n = mt_sub r (c n))
theorem gr_sub_at {N : Nat} {K : Nat → Int32} {L R : Nat → Nat} {P : Nat → Prop} {c r : Nat → mt_T} (h : gr_M N K L R P c) {n : Nat} (hn : n < N)
    (hc : ∀ m, gr_ch K L R n m → m < N ∧ P m) (hv : K n ≠ 10) (hk : gr_kd (K n)) (hr : gr_sat N K L R r) : r n = mt_sub r (gr_at K L R c n) := by
  rw [← gr_at_sub, hr n hn]
  have hm : ∀ m, gr_ch K L R n m → r m = mt_sub r (c m) := fun m hm => (h.2 m (hc m hm).1 (hc m hm).2).2.2.2 r hr
  unfold gr_at
  by_cases h5 : K n = 5
  · rw [if_pos h5, if_pos h5]; exact hm _ (Or.inl ⟨Or.inl h5, rfl⟩)
  · rw [if_neg h5, if_neg h5]
    by_cases h0 : K n = 0
    · rw [if_pos h0, if_pos h0]
    · rw [if_neg h0, if_neg h0]
      by_cases h1 : K n = 1
      · rw [if_pos h1, if_pos h1]
      · rw [if_neg h1, if_neg h1]
        by_cases h3 : K n = 3
        · rw [if_pos h3, if_pos h3, hm _ (Or.inl ⟨Or.inr (Or.inl h3), rfl⟩)]
        · rw [if_neg h3, if_neg h3]
          by_cases h2 : K n = 2
          · rw [if_pos h2, if_pos h2, hm _ (Or.inl ⟨Or.inr (Or.inr (Or.inl h2)), rfl⟩), hm _ (Or.inr ⟨Or.inl h2, rfl⟩)]
          · rw [if_neg h2, if_neg h2]
            by_cases h4 : K n = 4
            · rw [if_pos h4, if_pos h4, hm _ (Or.inl ⟨Or.inr (Or.inr (Or.inr h4)), rfl⟩), hm _ (Or.inr ⟨Or.inr h4, rfl⟩)]
            · exfalso
              rcases hk with z | z | z | z | z | z | z <;> contradiction
def gr_put (c : Nat → mt_T) (n : Nat) (t : mt_T) : Nat → mt_T := fun j => if j = n then t else c j
theorem gr_put_eq {c : Nat → mt_T} {n : Nat} {t : mt_T} : gr_put c n t n = t := if_pos rfl
theorem gr_put_ne {c : Nat → mt_T} {n j : Nat} {t : mt_T} (h : j ≠ n) : gr_put c n t j = c j := if_neg h
/-- the tree of a node whose children are measured -/
def gr_nx (K : Nat → Int32) (L R : Nat → Nat) (c : Nat → mt_T) (n : Nat) : mt_T := if K n = 10 then .leaf (10 + n) else gr_at K L R c n
theorem gr_M_step {N : Nat} {K : Nat → Int32} {L R : Nat → Nat} {P : Nat → Prop} {c : Nat → mt_T} (h : gr_M N K L R P c) {n : Nat} (hn : n < N) (hP : ¬ P n)
    (hc : ∀ m, gr_ch K L R n m → m < N ∧ P m) (hk : gr_kd (K n)) : gr_M N K L R (fun j => P j ∨ j = n) (gr_put c n (gr_nx K L R c n)) := by
  have hat : ∀ j, j < N → P j → gr_at K L R (gr_put c n (gr_nx K L R c n)) j = gr_at K L R c j := by
    intro j hj hPj
    refine gr_at_congr (fun m hm => gr_put_ne ?_) (gr_put_ne ?_)
    · intro e; subst e; exact hP ((h.2 j hj hPj).2.2.1 m hm).2
    · intro e; subst e; exact hP hPj
  have hat' : gr_at K L R (gr_put c n (gr_nx K L R c n)) n = gr_at K L R c n ∨ K n = 10 := by
    by_cases hv : K n = 10
    · exact Or.inr hv
    · left
      have hself : ∀ m, gr_ch K L R n m → m ≠ n := by
        intro m hm e; subst e; exact hP (hc m hm).2
      unfold gr_at
      by_cases h5 : K n = 5
      · rw [if_pos h5, if_pos h5]; exact gr_put_ne (hself _ (Or.inl ⟨Or.inl h5, rfl⟩))
      · rw [if_neg h5, if_neg h5]
        by_cases h0 : K n = 0
        · rw [if_pos h0, if_pos h0]
        · rw [if_neg h0, if_neg h0]
          by_cases h1 : K n = 1
          · rw [if_pos h1, if_pos h1]
          · rw [if_neg h1, if_neg h1]
            by_cases h3 : K n = 3
            · rw [if_pos h3, if_pos h3, gr_put_ne (hself _ (Or.inl ⟨Or.inr (Or.inl h3), rfl⟩))]
            · rw [if_neg h3, if_neg h3]
              by_cases h2 : K n = 2
              · rw [if_pos h2, if_pos h2, gr_put_ne (hself _ (Or.inl ⟨Or.inr (Or.inr (Or.inl h2)), rfl⟩)), gr_put_ne (hself _ (Or.inr ⟨Or.inl h2, rfl⟩))]
              · rw [if_neg h2, if_neg h2]
                by_cases h4 : K n = 4
                · rw [if_pos h4, if_pos h4, gr_put_ne (hself _ (Or.inl ⟨Or.inr (Or.inr (Or.inr h4)), rfl⟩)), gr_put_ne (hself _ (Or.inr ⟨Or.inr h4, rfl⟩))]
                · exfalso
                  rcases hk with z | z | z | z | z | z | z <;> contradiction
  refine ⟨?_, ?_⟩
  · intro j
    by_cases e : j = n
    · subst e; rw [gr_put_eq]
      unfold gr_nx
      split
      · exact mt_wfv _
      · exact gr_at_wf h.1 _
    · rw [gr_put_ne e]; exact h.1 j
  · intro j hj hPj
    by_cases e : j = n
    · subst e
      rw [gr_put_eq]
      refine ⟨fun hv => by rw [gr_nx, if_pos hv], fun hv => ?_, fun m hm => ⟨(hc m hm).1, Or.inl (hc m hm).2⟩, fun r hr => ?_⟩
      · rcases hat' with z | z
        · rw [z, gr_nx, if_neg hv]
        · exact absurd z hv
      · by_cases hv : K j = 10
        · rw [gr_nx, if_pos hv, mt_sub, if_neg (by omega)]; congr 1; omega
        · rw [gr_nx, if_neg hv]; exact gr_sub_at h hj hc hv hk hr
    · have hPj' : P j := by rcases hPj with z | z; exact z; exact absurd z e
      obtain ⟨a, b, d, f⟩ := h.2 j hj hPj'
      rw [gr_put_ne e]
      exact ⟨a, fun hv => by rw [hat j hj hPj']; exact b hv, fun m hm => ⟨(d m hm).1, Or.inl (d m hm).2⟩, f⟩
theorem gr_M_0 {N : Nat} {K : Nat → Int32} {L R : Nat → Nat} {P : Nat → Prop} (hP : ∀ n, n < N → ¬ P n) : gr_M N K L R P (fun _ => .leaf 0) :=
  ⟨fun _ => mt_wf0, fun n hn h => absurd h (hP n hn)⟩
/-- all measured: the trees are a most general solution -/
theorem gr_M_mg {N : Nat} {K : Nat → Int32} {L R : Nat → Nat} {P : Nat → Prop} {c : Nat → mt_T} (h : gr_M N K L R P c) (hP : ∀ n, n < N → P n)
    (hk : ∀ n, n < N → gr_kd (K n)) : mg_is N (gr_sat N K L R) c := by
  refine ⟨h.1, fun s hs n hn => ?_, fun r hr hS => ⟨r, hr, fun n hn => (h.2 n hn (hP n hn)).2.2.2 r hS⟩⟩
  rw [gr_at_sub]
  by_cases hv : K n = 10
  · have : gr_at K L R c n = c n := by
      unfold gr_at
      rw [hv]
      rw [if_neg (by decide), if_neg (by decide), if_neg (by decide), if_neg (by decide), if_neg (by decide), if_neg (by decide)]
    rw [this]
  · rw [← (h.2 n hn (hP n hn)).2.1 hv]
/-- a node that names no leaf and whose tree is smaller: sizes fall from a node to what it names, but for a link -/
theorem gr_fall {N : Nat} {K : Nat → Int32} {L R : Nat → Nat} {r : Nat → mt_T} (hr : gr_sat N K L R r) {n m : Nat} (hn : n < N) (h : gr_ch K L R n m) :
    (K n = 5 ∧ m = L n ∧ mt_sz (r m) = mt_sz (r n)) ∨ (K n ≠ 5 ∧ mt_sz (r m) < mt_sz (r n)) := by
  have e := hr n hn
  unfold gr_at at e
  by_cases h5 : K n = 5
  · left
    rw [if_pos h5] at e
    rcases h with ⟨_, z⟩ | ⟨z, _⟩
    · exact ⟨h5, z, by rw [z, e]⟩
    · exfalso; rw [h5] at z; rcases z with z | z <;> exact absurd z (by decide)
  · right
    refine ⟨h5, ?_⟩
    rw [if_neg h5] at e
    have hl : gr_lf (K n) ∧ m = L n ∨ gr_rg (K n) ∧ m = R n := by
      rcases h with ⟨z | z, w⟩ | z
      · exact absurd z h5
      · exact Or.inl ⟨z, w⟩
      · exact Or.inr z
    have h0 : ¬ K n = 0 := by
      intro z; rw [z] at hl
      rcases hl with ⟨q, _⟩ | ⟨q, _⟩
      · rcases q with q | q | q <;> exact absurd q (by decide)
      · rcases q with q | q <;> exact absurd q (by decide)
    have h1 : ¬ K n = 1 := by
      intro z; rw [z] at hl
      rcases hl with ⟨q, _⟩ | ⟨q, _⟩
      · rcases q with q | q | q <;> exact absurd q (by decide)
      · rcases q with q | q <;> exact absurd q (by decide)
    rw [if_neg h0, if_neg h1] at e
    by_cases h3 : K n = 3
    · rw [if_pos h3] at e
      rcases hl with ⟨_, q⟩ | ⟨q, _⟩
      · rw [e, q]; simp only [mt_sz]; omega
      · rw [h3] at q; rcases q with q | q <;> exact absurd q (by decide)
    · rw [if_neg h3] at e
      by_cases h2 : K n = 2
      · rw [if_pos h2] at e
        rcases hl with ⟨_, q⟩ | ⟨_, q⟩ <;> (rw [e, q]; simp only [mt_sz]; omega)
      · rw [if_neg h2] at e
        have h4 : K n = 4 := by
          rcases hl with ⟨q, _⟩ | ⟨q, _⟩
          · rcases q with q | q | q
            · exact absurd q h3
            · exact absurd q h2
            · exact q
          · rcases q with q | q
            · exact absurd q h2
            · exact q
        rw [if_pos h4] at e
        rcases hl with ⟨_, q⟩ | ⟨_, q⟩ <;> (rw [e, q]; simp only [mt_sz]; omega)
end
section
def mt_hd : mt_T → Nat
  | .leaf n => n
  | .branch c _ _ => c
def gr_cn (k : Int32) : Prop := k = 0 ∨ k = 1 ∨ k = 2 ∨ k = 3 ∨ k = 4
theorem gr_at_0 {K : Nat → Int32} {L R : Nat → Nat} {r : Nat → mt_T} {n : Nat} (h : K n = 0) : gr_at K L R r n = .leaf 0 := by
  unfold gr_at; rw [h, if_neg (by decide), if_pos rfl]
theorem gr_at_1 {K : Nat → Int32} {L R : Nat → Nat} {r : Nat → mt_T} {n : Nat} (h : K n = 1) : gr_at K L R r n = .leaf 1 := by
  unfold gr_at; rw [h, if_neg (by decide), if_neg (by decide), if_pos rfl]
theorem gr_at_3 {K : Nat → Int32} {L R : Nat → Nat} {r : Nat → mt_T} {n : Nat} (h : K n = 3) : gr_at K L R r n = .branch 3 (r (L n)) (.leaf 0) := by
  unfold gr_at; rw [h, if_neg (by decide), if_neg (by decide), if_neg (by decide), if_pos rfl]
theorem gr_at_2 {K : Nat → Int32} {L R : Nat → Nat} {r : Nat → mt_T} {n : Nat} (h : K n = 2) : gr_at K L R r n = .branch 2 (r (L n)) (r (R n)) := by
  unfold gr_at; rw [h, if_neg (by decide), if_neg (by decide), if_neg (by decide), if_neg (by decide), if_pos rfl]
theorem gr_at_4 {K : Nat → Int32} {L R : Nat → Nat} {r : Nat → mt_T} {n : Nat} (h : K n = 4) : gr_at K L R r n = .branch 4 (r (L n)) (r (R n)) := by
  unfold gr_at; rw [h, if_neg (by decide), if_neg (by decide), if_neg (by decide), if_neg (by decide), if_neg (by decide), if_pos rfl]
theorem gr_at_5 {K : Nat → Int32} {L R : Nat → Nat} {r : Nat → mt_T} {n : Nat} (h : K n = 5) : gr_at K L R r n = r (L n) := by
  unfold gr_at; rw [h, if_pos rfl]
theorem gr_at_v {K : Nat → Int32} {L R : Nat → Nat} {r : Nat → mt_T} {n : Nat} (h : K n = 10) : gr_at K L R r n = r n := by
  unfold gr_at; rw [h, if_neg (by decide), if_neg (by decide), if_neg (by decide), if_neg (by decide), if_neg (by decide), if_neg (by decide)]
theorem gr_hd {K : Nat → Int32} {L R : Nat → Nat} {r : Nat → mt_T} {n : Nat} (h : gr_cn (K n)) : nI (mt_hd (gr_at K L R r n)) = K n := by
  rcases h with h | h | h | h | h
  · rw [gr_at_0 h, h]; rfl
  · rw [gr_at_1 h, h]; rfl
  · rw [gr_at_2 h, h]; rfl
  · rw [gr_at_3 h, h]; rfl
  · rw [gr_at_4 h, h]; rfl
/-- a node's place: what the two tables hold elsewhere is the same -/
theorem gr_link {N : Nat} {K K' : Nat → Int32} {L L' R R' : Nat → Nat} {a b : Nat} {r : Nat → mt_T} (ha : a < N) (hKa : K' a = 5) (hLa : L' a = b)
    (hK : ∀ j, j < N → j ≠ a → K' j = K j) (hL : ∀ j, j < N → j ≠ a → L' j = L j) (hR : ∀ j, j < N → j ≠ a → R' j = R j) :
    gr_sat N K' L' R' r ↔ r a = r b ∧ ∀ n, n < N → n ≠ a → r n = gr_at K L R r n := by
  have hat : ∀ n, n < N → n ≠ a → gr_at K' L' R' r n = gr_at K L R r n := by
    intro n hn h; unfold gr_at; rw [hK n hn h, hL n hn h, hR n hn h]
  constructor
  · intro h
    refine ⟨?_, fun n hn e => ?_⟩
    · have := h a ha; rw [gr_at_5 hKa, hLa] at this; exact this
    · rw [← hat n hn e]; exact h n hn
  · rintro ⟨h0, h⟩ n hn
    by_cases e : n = a
    · subst e; rw [gr_at_5 hKa, hLa]; exact h0
    · rw [hat n hn e]; exact h n hn e
theorem gr_join_v {N : Nat} {K K' : Nat → Int32} {L L' R R' : Nat → Nat} {a b : Nat} {r : Nat → mt_T} (ha : a < N) (hKa : K' a = 5) (hLa : L' a = b)
    (hK : ∀ j, j < N → j ≠ a → K' j = K j) (hL : ∀ j, j < N → j ≠ a → L' j = L j) (hR : ∀ j, j < N → j ≠ a → R' j = R j) (hv : K a = 10) :
    gr_sat N K' L' R' r ↔ r a = r b ∧ gr_sat N K L R r := by
  rw [gr_link ha hKa hLa hK hL hR]
  refine and_congr_right (fun _ => ⟨fun h n hn => ?_, fun h n hn _ => h n hn⟩)
  by_cases e : n = a
  · subst e; rw [gr_at_v hv]
  · exact h n hn e
theorem gr_join_c {N : Nat} {K K' : Nat → Int32} {L L' R R' : Nat → Nat} {a b : Nat} {r : Nat → mt_T} (ha : a < N) (hb : b < N) (hab : a ≠ b) (hKa : K' a = 5) (hLa : L' a = b)
    (hK : ∀ j, j < N → j ≠ a → K' j = K j) (hL : ∀ j, j < N → j ≠ a → L' j = L j) (hR : ∀ j, j < N → j ≠ a → R' j = R j) (hc : gr_cn (K a)) (he : K a = K b) :
    gr_sat N K' L' R' r ∧ (gr_lf (K a) → r (L a) = r (L b)) ∧ (gr_rg (K a) → r (R a) = r (R b)) ↔ r a = r b ∧ gr_sat N K L R r := by
  rw [gr_link ha hKa hLa hK hL hR]
  constructor
  · rintro ⟨⟨h0, h⟩, hl, hr⟩
    refine ⟨h0, fun n hn => ?_⟩
    by_cases e : n = a
    · subst e
      rw [h0, h b hb (Ne.symm hab)]
      rcases hc with z | z | z | z | z
      · rw [gr_at_0 z, gr_at_0 (he ▸ z)]
      · rw [gr_at_1 z, gr_at_1 (he ▸ z)]
      · rw [gr_at_2 z, gr_at_2 (he ▸ z), hl (Or.inr (Or.inl z)), hr (Or.inl z)]
      · rw [gr_at_3 z, gr_at_3 (he ▸ z), hl (Or.inl z)]
      · rw [gr_at_4 z, gr_at_4 (he ▸ z), hl (Or.inr (Or.inr z)), hr (Or.inr z)]
    · exact h n hn e
  · rintro ⟨h0, h⟩
    have e1 := h a ha
    have e2 := h b hb
    rw [h0, e2] at e1
    refine ⟨⟨h0, fun n hn _ => h n hn⟩, fun hl => ?_, fun hr => ?_⟩
    · rcases hl with z | z | z
      · rw [gr_at_3 z, gr_at_3 (he ▸ z), Lean.RArray.branch.injEq] at e1; exact e1.2.1.symm
      · rw [gr_at_2 z, gr_at_2 (he ▸ z), Lean.RArray.branch.injEq] at e1; exact e1.2.1.symm
      · rw [gr_at_4 z, gr_at_4 (he ▸ z), Lean.RArray.branch.injEq] at e1; exact e1.2.1.symm
    · rcases hr with z | z
      · rw [gr_at_2 z, gr_at_2 (he ▸ z), Lean.RArray.branch.injEq] at e1; exact e1.2.2.symm
      · rw [gr_at_4 z, gr_at_4 (he ▸ z), Lean.RArray.branch.injEq] at e1; exact e1.2.2.symm
theorem gr_clash {N : Nat} {K : Nat → Int32} {L R : Nat → Nat} {a b : Nat} {r : Nat → mt_T} (ha : a < N) (hb : b < N) (ca : gr_cn (K a)) (cb : gr_cn (K b)) (he : K a ≠ K b)
    (h : gr_sat N K L R r) : r a ≠ r b := by
  intro e
  rw [h a ha, h b hb] at e
  exact he (by rw [← gr_hd (L := L) (R := R) (r := r) ca, ← gr_hd (L := L) (R := R) (r := r) cb, e])
/-- the links are a forest: rt the root of a node, ds its distance -/
def fo_is (N : Nat) (K : Nat → Int32) (L : Nat → Nat) (rt ds : Nat → Nat) (D : Nat) : Prop := ∀ n, n < N →
  rt n < N ∧ K (rt n) ≠ 5 ∧ (K n ≠ 5 → rt n = n ∧ ds n = 0) ∧ (K n = 5 → L n < N ∧ rt (L n) = rt n ∧ ds n = ds (L n) + 1) ∧ ds n ≤ D
theorem fo_rr {N : Nat} {K : Nat → Int32} {L rt ds : Nat → Nat} {D : Nat} (h : fo_is N K L rt ds D) {n : Nat} (hn : n < N) : rt (rt n) = rt n :=
  ((h (rt n) (h n hn).1).2.2.1 (h n hn).2.1).1
theorem fo_join {N : Nat} {K K' : Nat → Int32} {L L' rt ds : Nat → Nat} {D a b : Nat} (h : fo_is N K L rt ds D) (ha : a < N) (hb : b < N) (hab : a ≠ b) (ra : K a ≠ 5) (rb : K b ≠ 5)
    (hKa : K' a = 5) (hLa : L' a = b) (hK : ∀ j, j < N → j ≠ a → K' j = K j) (hL : ∀ j, j < N → j ≠ a → L' j = L j) :
    fo_is N K' L' (fun n => if rt n = a then b else rt n) (fun n => if rt n = a then ds n + 1 else ds n) (D + 1) := by
  have rta := ((h a ha).2.2.1 ra).1
  have dsa := ((h a ha).2.2.1 ra).2
  have rtb := ((h b hb).2.2.1 rb).1
  have dsb := ((h b hb).2.2.1 rb).2
  intro n hn
  obtain ⟨h1, h2, h3, h4, h5⟩ := h n hn
  refine ⟨?_, ?_, ?_, ?_, ?_⟩
  · show (if rt n = a then b else rt n) < N
    split
    · exact hb
    · exact h1
  · show K' (if rt n = a then b else rt n) ≠ 5
    split
    · rw [hK b hb (Ne.symm hab)]; exact rb
    · rename_i z; rw [hK _ h1 z]; exact h2
  · intro hk
    have hna : n ≠ a := by intro e; rw [e] at hk; exact hk hKa
    rw [hK n hn hna] at hk
    obtain ⟨e1, e2⟩ := h3 hk
    have : ¬ rt n = a := by rw [e1]; exact hna
    exact ⟨by show (if rt n = a then b else rt n) = n; rw [if_neg this, e1], by show (if rt n = a then ds n + 1 else ds n) = 0; rw [if_neg this, e2]⟩
  · intro hk
    by_cases hna : n = a
    · subst hna
      rw [hLa]
      refine ⟨hb, ?_, ?_⟩
      · show (if rt b = n then b else rt b) = (if rt n = n then b else rt n)
        rw [if_pos rta, if_neg (by rw [rtb]; exact Ne.symm hab), rtb]
      · show (if rt n = n then ds n + 1 else ds n) = (if rt b = n then ds b + 1 else ds b) + 1
        rw [if_pos rta, if_neg (by rw [rtb]; exact Ne.symm hab), dsa, dsb]
    · rw [hK n hn hna] at hk
      obtain ⟨e1, e2, e3⟩ := h4 hk
      rw [hL n hn hna]
      refine ⟨e1, ?_, ?_⟩
      · show (if rt (L n) = a then b else rt (L n)) = (if rt n = a then b else rt n)
        rw [e2]
      · show (if rt n = a then ds n + 1 else ds n) = (if rt (L n) = a then ds (L n) + 1 else ds (L n)) + 1
        rw [e2, e3]; split <;> rfl
  · show (if rt n = a then ds n + 1 else ds n) ≤ D + 1
    split <;> omega
theorem fo_eq {N : Nat} {K : Nat → Int32} {L R rt ds : Nat → Nat} {D : Nat} (h : fo_is N K L rt ds D) {r : Nat → mt_T} (hr : gr_sat N K L R r) :
    ∀ d n, n < N → ds n = d → r n = r (rt n) := by
  intro d
  induction d with
  | zero =>
    intro n hn hd
    by_cases hk : K n = 5
    · have := ((h n hn).2.2.2.1 hk).2.2; omega
    · rw [((h n hn).2.2.1 hk).1]
  | succ d ih =>
    intro n hn hd
    by_cases hk : K n = 5
    · obtain ⟨e1, e2, e3⟩ := (h n hn).2.2.2.1 hk
      rw [hr n hn, gr_at_5 hk, ← e2]
      exact ih (L n) e1 (by omega)
    · rw [((h n hn).2.2.1 hk).1]
/-- how many of the first nodes are links -/
def lk_ct (K : Nat → Int32) : Nat → Nat
  | 0 => 0
  | n + 1 => lk_ct K n + (if K n = 5 then 1 else 0)
theorem lk_le (K : Nat → Int32) : ∀ N, lk_ct K N ≤ N := by
  intro N
  induction N with
  | zero => exact Nat.le_refl 0
  | succ n ih => simp only [lk_ct]; split <;> omega
theorem lk_same {K K' : Nat → Int32} : ∀ N, (∀ j, j < N → K' j = K j) → lk_ct K' N = lk_ct K N := by
  intro N
  induction N with
  | zero => intro _; rfl
  | succ n ih => intro h; simp only [lk_ct]; rw [ih (fun j hj => h j (by omega)), h n (by omega)]
theorem lk_up {K K' : Nat → Int32} {a : Nat} (ra : K a ≠ 5) (hKa : K' a = 5) : ∀ N, a < N → (∀ j, j < N → j ≠ a → K' j = K j) → lk_ct K' N = lk_ct K N + 1 := by
  intro N
  induction N with
  | zero => intro h; omega
  | succ n ih =>
    intro h hK
    simp only [lk_ct]
    by_cases e : a = n
    · subst e
      rw [lk_same a (fun j hj => hK j (by omega) (by omega)), if_pos hKa, if_neg ra]
    · rw [ih (by omega) (fun j hj => hK j (by omega)), hK n (by omega) (Ne.symm e)]; omega
theorem lk_lt {K : Nat → Int32} {a : Nat} (ra : K a ≠ 5) : ∀ N, a < N → lk_ct K N < N := by
  intro N
  induction N with
  | zero => intro h; omega
  | succ n ih =>
    intro h
    simp only [lk_ct]
    by_cases e : a = n
    · subst e; rw [if_neg ra]; have := lk_le K a; omega
    · have := ih (by omega); split <;> omega
end
section
/-- the tree that stands at each place of a list of codes -/
def tk_at (L : List Nat) (tau : Nat → mt_T) : Prop := ∀ k, k < L.length → mt_wf (tau k) ∧ L.getD k 0 = mt_hd (tau k) ∧ k + (mt_enc (tau k)).length ≤ L.length ∧
  (∀ a b c, tau k = .branch c a b → tau (k + 1) = a ∧ (c ≠ 3 → tau (k + 1 + (mt_enc a).length) = b))
/-- the place at which tree j of a list begins -/
def tk_pos : List mt_T → Nat → Nat
  | _, 0 => 0
  | [], _ + 1 => 0
  | t :: ts, j + 1 => (mt_enc t).length + tk_pos ts j
theorem gd_r {α : Type} (l2 : List α) (d : α) (k : Nat) : ∀ l1 : List α, (l1 ++ l2).getD (k + l1.length) d = l2.getD k d := by
  intro l1
  induction l1 with
  | nil => rfl
  | cons a l ih =>
    show (a :: (l ++ l2)).getD (k + l.length + 1) d = _
    rw [List.getD_cons_succ]; exact ih
theorem tk_one : ∀ t, mt_wf t → ∀ X : List Nat, ∃ tau : Nat → mt_T, tau 0 = t ∧ ∀ k, k < (mt_enc t).length → mt_wf (tau k) ∧ (mt_enc t ++ X).getD k 0 = mt_hd (tau k) ∧
    k + (mt_enc (tau k)).length ≤ (mt_enc t).length ∧ (∀ a b c, tau k = .branch c a b → tau (k + 1) = a ∧ (c ≠ 3 → tau (k + 1 + (mt_enc a).length) = b)) := by
  apply mt_wf_ind
  · intro n hn X
    refine ⟨fun _ => .leaf n, rfl, fun k hk => ?_⟩
    simp only [mt_enc, List.length_cons, List.length_nil] at hk
    have : k = 0 := by omega
    subst this
    refine ⟨hn, by simp [mt_enc, mt_hd], by simp [mt_enc], ?_⟩
    intro a b c e; cases e
  · intro c a b hc ha hb iha ihb X
    have h3 : ¬ c = 3 := by omega
    obtain ⟨ta, ta0, hta⟩ := iha (mt_enc b ++ X)
    obtain ⟨tb, tb0, htb⟩ := ihb X
    have hla := mt_enc_ne a
    have hlb := mt_enc_ne b
    have hlen : (mt_enc (.branch c a b)).length = 1 + (mt_enc a).length + (mt_enc b).length := by
      simp only [mt_enc, if_neg h3, List.length_cons, List.length_append]; omega
    have hE : mt_enc (.branch c a b) ++ X = c :: (mt_enc a ++ (mt_enc b ++ X)) := by
      simp only [mt_enc, if_neg h3, List.cons_append, List.append_assoc]
    refine ⟨fun k => if k = 0 then .branch c a b else if k < 1 + (mt_enc a).length then ta (k - 1) else tb (k - 1 - (mt_enc a).length), rfl, fun k hk => ?_⟩
    rw [hlen] at hk
    rw [hE, hlen]
    by_cases k0 : k = 0
    · subst k0
      refine ⟨Or.inr ⟨hc, ha, hb⟩, rfl, by show 0 + (mt_enc (.branch c a b)).length ≤ _; omega, ?_⟩
      intro a' b' c' e
      simp only [if_true, Lean.RArray.branch.injEq] at e
      obtain ⟨rfl, rfl, rfl⟩ := e
      refine ⟨?_, fun _ => ?_⟩
      · show (if (0 : Nat) + 1 = 0 then _ else if 0 + 1 < 1 + (mt_enc a).length then ta (0 + 1 - 1) else _) = a
        rw [if_neg (by omega), if_pos (by omega)]; exact ta0
      · show (if 0 + 1 + (mt_enc a).length = 0 then _ else if 0 + 1 + (mt_enc a).length < 1 + (mt_enc a).length then _ else tb (0 + 1 + (mt_enc a).length - 1 - (mt_enc a).length)) = b
        rw [if_neg (by omega), if_neg (by omega)]
        have : 0 + 1 + (mt_enc a).length - 1 - (mt_enc a).length = 0 := by omega
        rw [this]; exact tb0
    · by_cases k1 : k < 1 + (mt_enc a).length
      · obtain ⟨w1, w2, w3, w4⟩ := hta (k - 1) (by omega)
        simp only [if_neg k0, if_pos k1]
        obtain ⟨m, rfl⟩ : ∃ m, k = m + 1 := ⟨k - 1, by omega⟩
        simp only [Nat.add_sub_cancel] at w1 w2 w3 w4 ⊢
        refine ⟨w1, by rw [List.getD_cons_succ]; exact w2, by omega, ?_⟩
        intro a' b' c' e
        obtain ⟨q1, q2⟩ := w4 a' b' c' e
        rw [e] at w3
        have hl' : (mt_enc (.branch c' a' b')).length = 1 + (mt_enc a').length + (if c' = 3 then [] else mt_enc b').length := by
          simp only [mt_enc, List.length_cons, List.length_append]; omega
        rw [hl'] at w3
        have hla' := mt_enc_ne a'
        refine ⟨?_, fun hc' => ?_⟩
        · rw [if_neg (by omega), if_pos (by omega)]; exact q1
        · have hlb' := mt_enc_ne b'
          rw [if_neg hc'] at w3
          rw [if_neg (by omega), if_pos (by omega)]
          have : m + 1 + 1 + (mt_enc a').length - 1 = m + 1 + (mt_enc a').length := by omega
          rw [this]; exact q2 hc'
      · obtain ⟨w1, w2, w3, w4⟩ := htb (k - 1 - (mt_enc a).length) (by omega)
        simp only [if_neg k0, if_neg k1]
        obtain ⟨m, rfl⟩ : ∃ m, k = m + 1 + (mt_enc a).length := ⟨k - 1 - (mt_enc a).length, by omega⟩
        have em : m + 1 + (mt_enc a).length - 1 - (mt_enc a).length = m := by omega
        rw [em] at w1 w2 w3 w4 ⊢
        refine ⟨w1, ?_, by omega, ?_⟩
        · have : m + 1 + (mt_enc a).length = (m + (mt_enc a).length) + 1 := by omega
          rw [this, List.getD_cons_succ, gd_r]; exact w2
        · intro a' b' c' e
          obtain ⟨q1, q2⟩ := w4 a' b' c' e
          refine ⟨?_, fun hc' => ?_⟩
          · rw [if_neg (by omega), if_neg (by omega)]
            have : m + 1 + (mt_enc a).length + 1 - 1 - (mt_enc a).length = m + 1 := by omega
            rw [this]; exact q1
          · rw [if_neg (by omega), if_neg (by omega)]
            have : m + 1 + (mt_enc a).length + 1 + (mt_enc a').length - 1 - (mt_enc a).length = m + 1 + (mt_enc a').length := by omega
            rw [this]; exact q2 hc'
  · intro a ha iha X
    obtain ⟨ta, ta0, hta⟩ := iha X
    have hla := mt_enc_ne a
    have hlen : (mt_enc (.branch 3 a (.leaf 0))).length = 1 + (mt_enc a).length := by
      simp only [mt_enc, if_true, List.append_nil, List.length_cons]; omega
    have hE : mt_enc (.branch 3 a (.leaf 0)) ++ X = 3 :: (mt_enc a ++ X) := by
      simp only [mt_enc, if_true, List.append_nil, List.cons_append]
    refine ⟨fun k => if k = 0 then .branch 3 a (.leaf 0) else ta (k - 1), rfl, fun k hk => ?_⟩
    rw [hlen] at hk
    rw [hE, hlen]
    by_cases k0 : k = 0
    · subst k0
      refine ⟨Or.inl ⟨rfl, ha, rfl⟩, rfl, by show 0 + (mt_enc (.branch 3 a (.leaf 0))).length ≤ _; omega, ?_⟩
      intro a' b' c' e
      simp only [if_true, Lean.RArray.branch.injEq] at e
      obtain ⟨rfl, rfl, rfl⟩ := e
      exact ⟨ta0, fun h => absurd rfl h⟩
    · obtain ⟨w1, w2, w3, w4⟩ := hta (k - 1) (by omega)
      simp only [if_neg k0]
      obtain ⟨m, rfl⟩ : ∃ m, k = m + 1 := ⟨k - 1, by omega⟩
      simp only [Nat.add_sub_cancel] at w1 w2 w3 w4 ⊢
      refine ⟨w1, by rw [List.getD_cons_succ]; exact w2, by omega, ?_⟩
      intro a' b' c' e
      obtain ⟨q1, q2⟩ := w4 a' b' c' e
      refine ⟨?_, fun hc' => ?_⟩
      · rw [if_neg (by omega)]; exact q1
      · rw [if_neg (by omega)]
        have : m + 1 + 1 + (mt_enc a').length - 1 = m + 1 + (mt_enc a').length := by omega
        rw [this]; exact q2 hc'
theorem tk_all : ∀ ts : List mt_T, (∀ t ∈ ts, mt_wf t) → ∃ tau : Nat → mt_T, tk_at (mt_encs ts) tau ∧ ∀ j, j < ts.length → tau (tk_pos ts j) = ts.getD j (.leaf 0) := by
  intro ts
  induction ts with
  | nil => intro _; exact ⟨fun _ => .leaf 0, fun k hk => by simp [mt_encs] at hk, fun j hj => by simp at hj⟩
  | cons t ts ih =>
    intro hw
    obtain ⟨tb, htb, hpb⟩ := ih (fun x hx => hw x (by simp [hx]))
    obtain ⟨ta, ta0, hta⟩ := tk_one t (hw t (by simp)) (mt_encs ts)
    have hla := mt_enc_ne t
    have hlen : (mt_encs (t :: ts)).length = (mt_enc t).length + (mt_encs ts).length := by simp only [mt_encs, List.length_append]
    refine ⟨fun k => if k < (mt_enc t).length then ta k else tb (k - (mt_enc t).length), fun k hk => ?_, fun j hj => ?_⟩
    · rw [hlen] at hk
      rw [hlen]
      by_cases k1 : k < (mt_enc t).length
      · obtain ⟨w1, w2, w3, w4⟩ := hta k k1
        simp only [if_pos k1]
        refine ⟨w1, w2, by omega, ?_⟩
        intro a' b' c' e
        obtain ⟨q1, q2⟩ := w4 a' b' c' e
        rw [e] at w3
        have hl' : (mt_enc (.branch c' a' b')).length = 1 + (mt_enc a').length + (if c' = 3 then [] else mt_enc b').length := by
          simp only [mt_enc, List.length_cons, List.length_append]; omega
        rw [hl'] at w3
        have hla' := mt_enc_ne a'
        refine ⟨?_, fun hc' => ?_⟩
        · rw [if_pos (by omega)]; exact q1
        · have hlb' := mt_enc_ne b'
          rw [if_neg hc'] at w3
          rw [if_pos (by omega)]; exact q2 hc'
      · obtain ⟨m, rfl⟩ : ∃ m, k = m + (mt_enc t).length := ⟨k - (mt_enc t).length, by omega⟩
        obtain ⟨w1, w2, w3, w4⟩ := htb m (by omega)
        simp only [if_neg k1, Nat.add_sub_cancel]
        refine ⟨w1, ?_, by omega, ?_⟩
        · simp only [mt_encs]
          rw [gd_r]; exact w2
        · intro a' b' c' e
          obtain ⟨q1, q2⟩ := w4 a' b' c' e
          refine ⟨?_, fun hc' => ?_⟩
          · rw [if_neg (by omega)]
            have : m + (mt_enc t).length + 1 - (mt_enc t).length = m + 1 := by omega
            rw [this]; exact q1
          · rw [if_neg (by omega)]
            have : m + (mt_enc t).length + 1 + (mt_enc a').length - (mt_enc t).length = m + 1 + (mt_enc a').length := by omega
            rw [this]; exact q2 hc'
    · cases j with
      | zero =>
        dsimp only
        rw [show tk_pos (t :: ts) 0 = 0 from rfl, if_pos hla]
        exact ta0
      | succ j =>
        dsimp only
        rw [show tk_pos (t :: ts) (j + 1) = (mt_enc t).length + tk_pos ts j from rfl, if_neg (by omega), Nat.add_sub_cancel_left, List.getD_cons_succ]
        exact hpb j (by simp only [List.length_cons] at hj; omega)
/-- THE RULE of a token t of kind k: c its operands' places, w the node of its variable; f the function, g the called one, P its parameters, L the codes of its type -/
def ru_k (k : Nat) (t : Nat) (c : Nat → Nat) (w : Nat) (own : Bool) (P : Nat) (L : List Nat) (r : Nat → mt_T) : Prop :=
  match k with
  | 0 => r t = .leaf 0
  | 1 => r t = .leaf 1
  | 2 => r t = .leaf 1
  | 3 => r t = r w
  | 4 => if own then (∀ j, j < P → r (c j) = r (72 + j)) ∧ r t = r 0 else sc_inst L ((List.range P).map (fun j => r (c j)) ++ [r t])
  | 5 => r t = .branch 2 (r (c 0)) (r (c 1))
  | 6 => ∃ x, mt_wf x ∧ r (c 0) = .branch 2 (r t) x
  | 7 => ∃ x, mt_wf x ∧ r (c 0) = .branch 2 x (r t)
  | 8 => ∃ x, mt_wf x ∧ r t = .branch 3 x (.leaf 0)
  | 9 => r (c 1) = .branch 3 (r (c 0)) (.leaf 0) ∧ r t = r (c 1)
  | 10 => r (c 0) = .branch 3 (r (24 + 2 * t)) (.leaf 0) ∧ r (25 + 2 * t) = r (c 0) ∧ r (c 1) = r t ∧ r (c 2) = r t
  | 11 => r (c 0) = .leaf 1 ∧ r (c 1) = r t ∧ r (c 2) = r t
  | 12 => r (c 0) = .leaf 0 ∧ r (c 1) = .leaf 0 ∧ r t = .leaf 0
  | 13 => r (c 0) = .leaf 0 ∧ r (c 1) = .leaf 0 ∧ r t = .leaf 1
  | 14 => r (24 + 2 * t) = r (c 0) ∧ r t = r (c 1)
  | 15 => r t = .branch 4 (r (24 + 2 * t)) (r (c 0))
  | 16 => r (c 0) = .branch 4 (r (c 1)) (r t)
  | _ => True
end
section
/-- the place of operand j of token t, by the spans -/
def jp (sp : Nat → Nat) (t : Nat) : Nat → Nat
  | 0 => t + 1
  | j + 1 => jp sp t j + sp (jp sp t j)
/-- a body of n tokens: oc operands, sp spans -/
def bw_is (n : Nat) (oc sp : Nat → Nat) : Prop := 0 < n ∧ sp 0 = n ∧ ∀ t, t < n → 1 ≤ sp t ∧ t + sp t ≤ n ∧ jp sp t (oc t) = t + sp t ∧ ∀ j, j < oc t → jp sp t j < n
theorem jp_congr {sp sp' : Nat → Nat} {t : Nat} : ∀ j, (∀ i, i < j → sp' (jp sp t i) = sp (jp sp t i)) → jp sp' t j = jp sp t j := by
  intro j
  induction j with
  | zero => intro _; rfl
  | succ j ih =>
    intro h
    have e := ih (fun i hi => h i (by omega))
    simp only [jp]
    rw [e, h j (by omega)]
theorem jp_gt (sp : Nat → Nat) (t : Nat) : ∀ j, t < jp sp t j := by
  intro j
  induction j with
  | zero => show t < t + 1; omega
  | succ j ih => show t < jp sp t j + _; omega
theorem bw_in {n : Nat} {oc sp : Nat → Nat} (h : bw_is n oc sp) {t : Nat} (ht : t < n) {j : Nat} (hj : j < oc t) :
    t < jp sp t j ∧ jp sp t j + sp (jp sp t j) ≤ t + sp t ∧ jp sp t j < n := by
  obtain ⟨_, _, h3, h4⟩ := h.2.2 t ht
  have hm : ∀ d, j + 1 + d ≤ oc t → jp sp t (j + 1) ≤ jp sp t (j + 1 + d) := by
    intro d
    induction d with
    | zero => intro _; exact Nat.le_refl _
    | succ d ih =>
      intro hd
      have := ih (by omega)
      show _ ≤ jp sp t (j + 1 + d) + _
      omega
  have := hm (oc t - (j + 1)) (by omega)
  have e : j + 1 + (oc t - (j + 1)) = oc t := by omega
  rw [e, h3] at this
  exact ⟨jp_gt sp t j, this, h4 j hj⟩
/-- tokens that are awaited: counted from the front, none left at the end -/
theorem bw_step {n : Nat} {oc sp A : Nat → Nat} (hA : ∀ t, t < n → A (t + 1) + 1 = A t + oc t ∧ 1 ≤ A t) (hn : A n = 0) {t : Nat} (ht : t < n)
    (h : ∀ s, t < s → s < n → 1 ≤ sp s ∧ s + sp s ≤ n ∧ A (s + sp s) + 1 = A s) :
    ∀ j, j ≤ oc t → jp sp t j ≤ n ∧ A (jp sp t j) + j = A (t + 1) ∧ ∀ i, i < j → jp sp t i < n := by
  intro j
  induction j with
  | zero => intro _; exact ⟨ht, rfl, fun i hi => by omega⟩
  | succ j ih =>
    intro hj
    obtain ⟨h1, h2, h3⟩ := ih (by omega)
    obtain ⟨a1, a2⟩ := hA t ht
    have hlt : jp sp t j < n := by
      rcases Nat.lt_or_ge (jp sp t j) n with z | z
      · exact z
      · have e : jp sp t j = n := by omega
        rw [e, hn] at h2; omega
    obtain ⟨g1, g2, g3⟩ := h (jp sp t j) (jp_gt sp t j) hlt
    refine ⟨g2, ?_, ?_⟩
    · show A (jp sp t j + sp (jp sp t j)) + (j + 1) = _
      omega
    · intro i hi
      by_cases e : i = j
      · rw [e]; exact hlt
      · exact h3 i (by omega)
/-- the node of variable k, from binder b outwards: bi the binder around a token, bd how many are bound there -/
def vw (bi : Nat → Nat) (bd : Nat → Nat) : Nat → Nat → Nat → Nat
  | 0, _, k => 72 + k
  | f + 1, b, k => if b = 0 then 72 + k else if bd (b - 1) ≤ k then 24 + 2 * (b - 1) + (k - bd (b - 1)) else vw bi bd f (bi (b - 1)) k
theorem vw_fuel' {bi bd : Nat → Nat} : ∀ f g b k, b ≤ f → b ≤ g → (∀ t, t < b → bi t ≤ t) → vw bi bd f b k = vw bi bd g b k := by
  intro f
  induction f with
  | zero =>
    intro g b k hf hg _
    have : b = 0 := by omega
    subst this
    cases g with
    | zero => rfl
    | succ g => simp only [vw, if_true]
  | succ f ih =>
    intro g b k hf hg h
    cases g with
    | zero =>
      have : b = 0 := by omega
      subst this
      simp only [vw, if_true]
    | succ g =>
      simp only [vw]
      by_cases hb : b = 0
      · rw [if_pos hb, if_pos hb]
      · rw [if_neg hb, if_neg hb]
        by_cases hk : bd (b - 1) ≤ k
        · rw [if_pos hk, if_pos hk]
        · rw [if_neg hk, if_neg hk]
          have := h (b - 1) (by omega)
          exact ih g _ k (by omega) (by omega) (fun t ht => h t (by omega))
end
section
/-- what nodes name stands for its root -/
theorem gr_comp {N : Nat} {K : Nat → Int32} {L R rt ds : Nat → Nat} {D : Nat} (h : fo_is N K L rt ds D)
    (hl : ∀ n, n < N → gr_lf (K n) → L n < N) (hg : ∀ n, n < N → gr_rg (K n) → R n < N) (r : Nat → mt_T) :
    gr_sat N K (fun n => rt (L n)) (fun n => rt (R n)) r ↔ gr_sat N K L R r := by
  have key : (∀ m, m < N → r m = r (rt m)) → ∀ n, n < N → gr_at K (fun n => rt (L n)) (fun n => rt (R n)) r n = gr_at K L R r n := by
    intro hr n hn
    by_cases h5 : K n = 5
    · rw [gr_at_5 h5, gr_at_5 h5, ← hr _ ((h n hn).2.2.2.1 h5).1]
    · by_cases h3 : K n = 3
      · rw [gr_at_3 h3, gr_at_3 h3, ← hr _ (hl n hn (Or.inl h3))]
      · by_cases h2 : K n = 2
        · rw [gr_at_2 h2, gr_at_2 h2, ← hr _ (hl n hn (Or.inr (Or.inl h2))), ← hr _ (hg n hn (Or.inl h2))]
        · by_cases h4 : K n = 4
          · rw [gr_at_4 h4, gr_at_4 h4, ← hr _ (hl n hn (Or.inr (Or.inr h4))), ← hr _ (hg n hn (Or.inr h4))]
          · unfold gr_at
            rw [if_neg h5, if_neg h5, if_neg h3, if_neg h3, if_neg h2, if_neg h2, if_neg h4, if_neg h4]
  constructor
  · intro hs
    have hr : ∀ m, m < N → r m = r (rt m) := by
      intro m hm
      by_cases h5 : K m = 5
      · have e := hs m hm
        rw [gr_at_5 h5] at e
        rw [← ((h m hm).2.2.2.1 h5).2.1]; exact e
      · rw [((h m hm).2.2.1 h5).1]
    intro n hn
    rw [← key hr n hn]; exact hs n hn
  · intro hs
    have hr : ∀ m, m < N → r m = r (rt m) := fun m hm => fo_eq h hs (ds m) m hm rfl
    intro n hn
    rw [key hr n hn]; exact hs n hn
/-- all roots measured: then all nodes can be -/
theorem gr_M_links {N : Nat} {K : Nat → Int32} {L R : Nat → Nat} {P : Nat → Prop} {c : Nat → mt_T} (h : gr_M N K L R P c) (hr : ∀ n, n < N → K n ≠ 5 → P n) (hl : ∀ n, n < N → K n = 5 → L n < N ∧ K (L n) ≠ 5) :
    ∀ i, i ≤ N → ∃ c', gr_M N K L R (fun j => P j ∨ j < i) c' := by
  intro i
  induction i with
  | zero =>
    intro _
    refine ⟨c, h.1, fun n hn hP => ?_⟩
    have hP' : P n := by rcases hP with z | z; exact z; omega
    obtain ⟨a, b, d, e⟩ := h.2 n hn hP'
    exact ⟨a, b, fun m hm => ⟨(d m hm).1, Or.inl (d m hm).2⟩, e⟩
  | succ i ih =>
    intro hi
    obtain ⟨c', hc'⟩ := ih (by omega)
    by_cases hp : P i
    · refine ⟨c', hc'.1, fun n hn hP => ?_⟩
      have hP' : P n ∨ n < i := by
        rcases hP with z | z
        · exact Or.inl z
        · by_cases e : n = i
          · exact Or.inl (e ▸ hp)
          · exact Or.inr (by omega)
      obtain ⟨a, b, d, e⟩ := hc'.2 n hn hP'
      refine ⟨a, b, fun m hm => ⟨(d m hm).1, ?_⟩, e⟩
      rcases (d m hm).2 with z | z
      · exact Or.inl z
      · exact Or.inr (by omega)
    · have h5 : K i = 5 := Classical.byContradiction (fun z => hp (hr i (by omega) z))
      have hk : gr_kd (K i) := Or.inr (Or.inr (Or.inr (Or.inr (Or.inr (Or.inl h5)))))
      have hst := gr_M_step hc' (n := i) (by omega) (by rintro (z | z); exact hp z; omega) (by
        intro m hm
        rcases hm with ⟨_, rfl⟩ | ⟨z, _⟩
        · exact ⟨(hl i (by omega) h5).1, Or.inl (hr _ (hl i (by omega) h5).1 (hl i (by omega) h5).2)⟩
        · rw [h5] at z; rcases z with z | z <;> exact absurd z (by decide)) hk
      refine ⟨_, hst.1, fun n hn hP => ?_⟩
      have hP' : (P n ∨ n < i) ∨ n = i := by
        rcases hP with z | z
        · exact Or.inl (Or.inl z)
        · by_cases e : n = i
          · exact Or.inr e
          · exact Or.inl (Or.inr (by omega))
      obtain ⟨a, b, d, e⟩ := hst.2 n hn hP'
      refine ⟨a, b, fun m hm => ⟨(d m hm).1, ?_⟩, e⟩
      rcases (d m hm).2 with (z | z) | z
      · exact Or.inl z
      · exact Or.inr (by omega)
      · exact Or.inr (by omega)
theorem mg_iff {N : Nat} {A B : (Nat → mt_T) → Prop} {c : Nat → mt_T} (h : mg_is N A c) (e : ∀ r, A r ↔ B r) : mg_is N B c :=
  ⟨h.1, fun s hs => (e _).mp (h.2.1 s hs), fun r hr hB => h.2.2 r hr ((e r).mpr hB)⟩
/-- sums over the first n -/
def sm (g : Nat → Nat) : Nat → Nat
  | 0 => 0
  | n + 1 => sm g n + g n
theorem sm_same {g g' : Nat → Nat} : ∀ n, (∀ j, j < n → g' j = g j) → sm g' n = sm g n := by
  intro n
  induction n with
  | zero => intro _; rfl
  | succ n ih => intro h; simp only [sm]; rw [ih (fun j hj => h j (by omega)), h n (by omega)]
theorem sm_one {g g' : Nat → Nat} {a : Nat} : ∀ n, a < n → (∀ j, j < n → j ≠ a → g' j = g j) → sm g' n + g a = sm g n + g' a := by
  intro n
  induction n with
  | zero => intro h; omega
  | succ n ih =>
    intro h hj
    simp only [sm]
    by_cases e : a = n
    · subst e
      rw [sm_same a (fun j hj' => hj j (by omega) (by omega))]; omega
    · have h1 := ih (by omega) (fun j hj' => hj j (by omega))
      have h2 := hj n (by omega) (by omega)
      omega
theorem sm_le {g : Nat → Nat} {b : Nat} : ∀ n, (∀ j, j < n → g j ≤ b) → sm g n ≤ n * b := by
  intro n
  induction n with
  | zero => intro _; exact Nat.zero_le _
  | succ n ih =>
    intro h
    have h1 := ih (fun j hj => h j (by omega))
    have h2 := h n (by omega)
    simp only [sm]
    rw [Nat.succ_mul]; omega
end
section
/-- the nodes from B to M are laid for trees: tg the tree that a node stands for -/
def tl_is (B M : Nat) (K : Nat → Int32) (L R : Nat → Nat) (tg : Nat → mt_T) : Prop := ∀ n, B ≤ n → n < M → mt_wf (tg n) ∧
  ((K n = 10 ∧ ∃ v, tg n = .leaf (10 + v)) ∨
   (K n = 5 ∧ B ≤ L n ∧ L n < M ∧ tg (L n) = tg n ∧ K (L n) = 10) ∨
   (K n = 0 ∧ tg n = .leaf 0) ∨ (K n = 1 ∧ tg n = .leaf 1) ∨
   (K n = 3 ∧ B ≤ L n ∧ L n < M ∧ tg n = .branch 3 (tg (L n)) (.leaf 0)) ∨
   (K n = 2 ∧ B ≤ L n ∧ L n < M ∧ B ≤ R n ∧ R n < M ∧ tg n = .branch 2 (tg (L n)) (tg (R n))) ∨
   (K n = 4 ∧ B ≤ L n ∧ L n < M ∧ B ≤ R n ∧ R n < M ∧ tg n = .branch 4 (tg (L n)) (tg (R n))))
theorem tl_1 {B M : Nat} {K : Nat → Int32} {L R : Nat → Nat} {tg : Nat → mt_T} {nv : Nat → Nat} (h : tl_is B M K L R tg)
    (hv : ∀ n v, B ≤ n → n < M → K n = 10 → tg n = .leaf (10 + v) → nv v = n) {r : Nat → mt_T} (hs : ∀ n, B ≤ n → n < M → r n = gr_at K L R r n) :
    ∀ d n, B ≤ n → n < M → mt_sz (tg n) ≤ d → r n = mt_sub (fun v => r (nv v)) (tg n) := by
  have hvar : ∀ n, B ≤ n → n < M → K n = 10 → r n = mt_sub (fun v => r (nv v)) (tg n) := by
    intro n h1 h2 hk
    rcases (h n h1 h2).2 with ⟨_, v, e⟩ | ⟨z, _⟩ | ⟨z, _⟩ | ⟨z, _⟩ | ⟨z, _⟩ | ⟨z, _⟩ | ⟨z, _⟩
    · rw [e, mt_sub, if_neg (by omega)]
      have : 10 + v - 10 = v := by omega
      rw [this, hv n v h1 h2 hk e]
    all_goals (rw [hk] at z; exact absurd z (by decide))
  have z0 : mt_sub (fun v => r (nv v)) (.leaf 0) = .leaf 0 := by rw [mt_sub, if_pos (by omega)]
  have z1 : mt_sub (fun v => r (nv v)) (.leaf 1) = .leaf 1 := by rw [mt_sub, if_pos (by omega)]
  intro d
  induction d with
  | zero =>
    intro n h1 h2 hd
    exfalso
    generalize tg n = t at hd
    cases t <;> simp only [mt_sz] at hd <;> omega
  | succ d ih =>
    intro n h1 h2 hd
    rcases (h n h1 h2).2 with ⟨z, _⟩ | ⟨z, l1, l2, e, kv⟩ | ⟨z, e⟩ | ⟨z, e⟩ | ⟨z, l1, l2, e⟩ | ⟨z, l1, l2, r1, r2, e⟩ | ⟨z, l1, l2, r1, r2, e⟩
    · exact hvar n h1 h2 z
    · rw [hs n h1 h2, gr_at_5 z, hvar _ l1 l2 kv, e]
    · rw [hs n h1 h2, gr_at_0 z, e, z0]
    · rw [hs n h1 h2, gr_at_1 z, e, z1]
    · rw [e] at hd
      simp only [mt_sz] at hd
      rw [hs n h1 h2, gr_at_3 z, e, mt_sub, z0, ih _ l1 l2 (by omega)]
    · rw [e] at hd
      simp only [mt_sz] at hd
      rw [hs n h1 h2, gr_at_2 z, e, mt_sub, ih _ l1 l2 (by omega), ih _ r1 r2 (by omega)]
    · rw [e] at hd
      simp only [mt_sz] at hd
      rw [hs n h1 h2, gr_at_4 z, e, mt_sub, ih _ l1 l2 (by omega), ih _ r1 r2 (by omega)]
theorem tl_2 {B M : Nat} {K : Nat → Int32} {L R : Nat → Nat} {tg : Nat → mt_T} (h : tl_is B M K L R tg) {r s : Nat → mt_T} (hr : ∀ n, B ≤ n → n < M → r n = mt_sub s (tg n)) :
    ∀ n, B ≤ n → n < M → r n = gr_at K L R r n := by
  have z0 : mt_sub s (.leaf 0) = .leaf 0 := by rw [mt_sub, if_pos (by omega)]
  have z1 : mt_sub s (.leaf 1) = .leaf 1 := by rw [mt_sub, if_pos (by omega)]
  intro n h1 h2
  rcases (h n h1 h2).2 with ⟨z, _⟩ | ⟨z, l1, l2, e, _⟩ | ⟨z, e⟩ | ⟨z, e⟩ | ⟨z, l1, l2, e⟩ | ⟨z, l1, l2, r1, r2, e⟩ | ⟨z, l1, l2, r1, r2, e⟩
  · rw [gr_at_v z]
  · rw [gr_at_5 z, hr n h1 h2, hr _ l1 l2, e]
  · rw [gr_at_0 z, hr n h1 h2, e, z0]
  · rw [gr_at_1 z, hr n h1 h2, e, z1]
  · rw [gr_at_3 z, hr n h1 h2, hr _ l1 l2, e, mt_sub, z0]
  · rw [gr_at_2 z, hr n h1 h2, hr _ l1 l2, hr _ r1 r2, e, mt_sub]
  · rw [gr_at_4 z, hr n h1 h2, hr _ l1 l2, hr _ r1 r2, e, mt_sub]
/-- what is said of the nodes below N stays, when nodes behind them are laid -/
theorem gr_sat_ext {N M : Nat} {K K' : Nat → Int32} {L L' R R' : Nat → Nat} {r : Nat → mt_T} (hN : N ≤ M) (hK : ∀ n, n < N → K' n = K n)
    (hL : ∀ n, n < N → K n = 5 ∨ gr_lf (K n) → L' n = L n) (hR : ∀ n, n < N → gr_rg (K n) → R' n = R n) :
    gr_sat M K' L' R' r ↔ gr_sat N K L R r ∧ ∀ n, N ≤ n → n < M → r n = gr_at K' L' R' r n := by
  have hat : ∀ n, n < N → gr_at K' L' R' r n = gr_at K L R r n := by
    intro n hn
    by_cases h5 : K n = 5
    · rw [gr_at_5 (by rw [hK n hn]; exact h5), gr_at_5 h5, hL n hn (Or.inl h5)]
    · by_cases h3 : K n = 3
      · rw [gr_at_3 (by rw [hK n hn]; exact h3), gr_at_3 h3, hL n hn (Or.inr (Or.inl h3))]
      · by_cases h2 : K n = 2
        · rw [gr_at_2 (by rw [hK n hn]; exact h2), gr_at_2 h2, hL n hn (Or.inr (Or.inr (Or.inl h2))), hR n hn (Or.inl h2)]
        · by_cases h4 : K n = 4
          · rw [gr_at_4 (by rw [hK n hn]; exact h4), gr_at_4 h4, hL n hn (Or.inr (Or.inr (Or.inr h4))), hR n hn (Or.inr h4)]
          · unfold gr_at
            rw [hK n hn, if_neg h5, if_neg h5, if_neg h3, if_neg h3, if_neg h2, if_neg h2, if_neg h4, if_neg h4]
  constructor
  · intro h
    refine ⟨fun n hn => ?_, fun n _ h2 => h n h2⟩
    rw [← hat n hn]; exact h n (by omega)
  · rintro ⟨h1, h2⟩ n hn
    rcases Nat.lt_or_ge n N with z | z
    · rw [hat n z]; exact h1 n z
    · exact h2 n z hn
/-- a solution below N, changed from N on -/
theorem gr_sat_low {N : Nat} {K : Nat → Int32} {L R : Nat → Nat} {r r' : Nat → mt_T} (hl : ∀ n, n < N → K n = 5 ∨ gr_lf (K n) → L n < N) (hg : ∀ n, n < N → gr_rg (K n) → R n < N)
    (e : ∀ n, n < N → r' n = r n) (h : gr_sat N K L R r) : gr_sat N K L R r' := by
  intro n hn
  rw [e n hn, h n hn]
  refine (gr_at_congr (fun m hm => ?_) (e n hn)).symm
  rcases hm with ⟨z, rfl⟩ | ⟨z, rfl⟩
  · exact e _ (hl n hn z)
  · exact e _ (hg n hn z)
end
section
/-- nodes that are never measured have no finite types -/
theorem gr_none {N : Nat} {K : Nat → Int32} {L R rt ds : Nat → Nat} {D : Nat} (hf : fo_is N K L rt ds D) {Z : Nat → Prop}
    (hz : ∀ n, n < N → Z n → ∃ m, gr_ch K L R n m ∧ m < N ∧ Z m) {r : Nat → mt_T} (hr : gr_sat N K L R r) :
    ∀ μ n, n < N → Z n → mt_sz (r n) * (D + 1) + ds n < μ → False := by
  intro μ
  induction μ with
  | zero => intro n _ _ h; omega
  | succ μ ih =>
    intro n hn hZ h
    obtain ⟨m, hc, hm, hZm⟩ := hz n hn hZ
    refine ih m hm hZm ?_
    have dm := (hf m hm).2.2.2.2
    rcases gr_fall hr hn hc with ⟨h5, e, es⟩ | ⟨_, hlt⟩
    · have := ((hf n hn).2.2.2.1 h5).2.2
      rw [es]
      rw [e]
      omega
    · have h1 : (mt_sz (r m) + 1) * (D + 1) ≤ mt_sz (r n) * (D + 1) := Nat.mul_le_mul_right _ hlt
      rw [Nat.succ_mul] at h1
      omega
/-- small numbers through a cast -/
theorem nr_b {n : Nat} (h : n < 128) : vp_nar .byte ((nI n).toInt8.toInt32) = nI n := by
  rw [pk_vb, lg_i2b_small (by rw [nI_toInt (by omega)]; omega) (by rw [nI_toInt (by omega)]; omega)]
theorem nr_s {n : Nat} (h : n < 32768) : vp_nar .short ((nI n).toInt16.toInt32) = nI n := by
  rw [pk_vs, lg_i2s_small (by rw [nI_toInt (by omega)]; omega) (by rw [nI_toInt (by omega)]; omega)]
theorem nr_b0 {n : Nat} (h : n < 128) : vp_nar .byte (nI n) = nI n := by
  rw [vp_nar_byte, lg_i2b_small (by rw [nI_toInt (by omega)]; omega) (by rw [nI_toInt (by omega)]; omega)]
theorem nr_s0 {n : Nat} (h : n < 32768) : vp_nar .short (nI n) = nI n := by
  rw [vp_nar_short, lg_i2s_small (by rw [nI_toInt (by omega)]; omega) (by rw [nI_toInt (by omega)]; omega)]
theorem nr_bm : vp_nar .byte (-1) = -1 := by rw [vp_nar_byte]; decide
theorem nr_sm : vp_nar .short (-1) = -1 := by rw [vp_nar_short]; decide
theorem nr_bm' : vp_nar .byte ((-1 : Int32).toInt8.toInt32) = -1 := by rw [pk_vb]; decide
theorem nr_sm' : vp_nar .short ((-1 : Int32).toInt16.toInt32) = -1 := by rw [pk_vs]; decide
theorem nr_z (b : Bool) : narrow .boolean (.int (if b then 1 else 0)) = .int (if b then 1 else 0) := by cases b <;> rfl
end
section
theorem sm_mul {g h : Nat → Nat} {a b : Nat} : ∀ n, (∀ j, j < n → a * g j ≤ b * h j) → a * sm g n ≤ b * sm h n := by
  intro n
  induction n with
  | zero => intro _; simp [sm]
  | succ n ih =>
    intro hj
    have h1 := ih (fun j hj' => hj j (by omega))
    have h2 := hj n (by omega)
    simp only [sm, Nat.mul_add]
    omega
theorem sm_mono {g : Nat → Nat} {a : Nat} : ∀ b, a ≤ b → sm g a ≤ sm g b := by
  intro b
  induction b with
  | zero => intro h; have : a = 0 := by omega
            subst this; exact Nat.le_refl _
  | succ b ih =>
    intro h
    by_cases e : a = b + 1
    · rw [e]; exact Nat.le_refl _
    · have := ih (by omega)
      simp only [sm]; omega
/-- operands in all: one less than tokens -/
theorem bw_sum {n : Nat} {oc A : Nat → Nat} (h0 : A 0 = 1) (hA : ∀ t, t < n → A (t + 1) + 1 = A t + oc t) : ∀ t, t ≤ n → sm oc t + 1 = A t + t := by
  intro t
  induction t with
  | zero => intro _; rw [h0]; rfl
  | succ t ih =>
    intro ht
    have h1 := ih (by omega)
    have h2 := hA t (by omega)
    simp only [sm]
    omega
end
section
variable {f_saidPlace f_instanceCount f_nodeCount f_equationCount f_stackCount f_wordCount f_depth f_cellCount f_consCount f_closureCount f_stepCount f_runAnswer f_writtenCount : Int32} {a_kinds a_values a_spans a_bounds a_binders a_lengths a_parameterCounts a_typeCodes a_typeLengths a_instanceFunctions a_nodeKinds a_nodeLefts a_nodeRights a_nodeSizes a_equationLefts a_equationRights a_stackLefts a_stackRights a_words a_boundWords a_cellFirsts a_cellSeconds a_closureTokens a_closureWords a_written : Nat → Int32}
def xg_ok (N : Nat) (K nl nr : Nat → Int32) (L R rt ds : Nat → Nat) : Prop :=
  (∀ n, n < N → gr_kd (K n) ∧ (K n = 5 ∨ gr_lf (K n) → nl n = nI (L n) ∧ L n < N) ∧ (gr_rg (K n) → nr n = nI (R n) ∧ R n < N) ∧ (K n = 10 → nl n = -1)) ∧
  fo_is N K L rt ds (lk_ct K N)
def updN (f : Nat → Nat) (k v : Nat) : Nat → Nat := fun j => if j = k then v else f j
theorem uN_s {f : Nat → Nat} {k v : Nat} : updN f k v k = v := if_pos rfl
theorem uN_n {f : Nat → Nat} {k v j : Nat} (h : j ≠ k) : updN f k v j = f j := if_neg h
theorem x_root4 {post : Int32 → Prop} {N : Nat} {L R rt ds : Nat → Nat} (hN : N ≤ 1126) (hg : xg_ok N a_nodeKinds a_nodeLefts a_nodeRights L R rt ds) :
    ∀ d n i f, n < N → ds n = d → i + d ≤ 1126 → d < f → post (nI (rt n)) → wX_rootOf_4 post f_saidPlace f_instanceCount f_nodeCount f_equationCount f_stackCount f_wordCount f_depth f_cellCount f_consCount f_closureCount f_stepCount f_runAnswer f_writtenCount a_kinds a_values a_spans a_bounds a_binders a_lengths a_parameterCounts a_typeCodes a_typeLengths a_instanceFunctions a_nodeKinds a_nodeLefts a_nodeRights a_nodeSizes a_equationLefts a_equationRights a_stackLefts a_stackRights a_words a_boundWords a_cellFirsts a_cellSeconds a_closureTokens a_closureWords a_written f (nI n) (nI i) := by
  intro d
  induction d with
  | zero =>
    intro n i f hn hd hi hf hp
    obtain ⟨f, rfl⟩ : ∃ g, f = g + 1 := ⟨f - 1, by omega⟩
    have hk : ¬ a_nodeKinds n = 5 := by intro z; have := ((hg.2 n hn).2.2.2.1 z).2.2; omega
    have hr := ((hg.2 n hn).2.2.1 hk).1
    rw [hr] at hp
    refine pk_le 1126 i (fun _ => hp) (fun h => And.intro (pk_in n 1126 (by omega)) ?_)
    rw [nI_clamp (n := n) (by omega)]
    exact br_f hk hp
  | succ d ih =>
    intro n i f hn hd hi hf hp
    obtain ⟨f, rfl⟩ : ∃ g, f = g + 1 := ⟨f - 1, by omega⟩
    have hk : a_nodeKinds n = 5 := Classical.byContradiction (fun z => by have := ((hg.2 n hn).2.2.1 z).2; omega)
    obtain ⟨e1, e2, e3⟩ := (hg.2 n hn).2.2.2.1 hk
    have el := ((hg.1 n hn).2.1 (Or.inl hk)).1
    refine pk_le 1126 i (fun h => by omega) (fun h => And.intro (pk_in n 1126 (by omega)) ?_)
    rw [nI_clamp (n := n) (by omega)]
    refine br_t hk (And.intro (pk_in n 1126 (by omega)) (nm_r el (nm_r (nI_1 i) ?_)))
    exact ih (L n) (i + 1) f e1 (by omega) (by omega) (by omega) (by rw [e2]; exact hp)
theorem x_root {post : Int32 → Prop} {N : Nat} {L R rt ds : Nat → Nat} (hN : N ≤ 1126) (hg : xg_ok N a_nodeKinds a_nodeLefts a_nodeRights L R rt ds) {n : Nat} (hn : n < N)
    (hp : post (nI (rt n))) : wpX_rootOf post (f_saidPlace, f_instanceCount, f_nodeCount, f_equationCount, f_stackCount, f_wordCount, f_depth, f_cellCount, f_consCount, f_closureCount, f_stepCount, f_runAnswer, f_writtenCount, a_kinds, a_values, a_spans, a_bounds, a_binders, a_lengths, a_parameterCounts, a_typeCodes, a_typeLengths, a_instanceFunctions, a_nodeKinds, a_nodeLefts, a_nodeRights, a_nodeSizes, a_equationLefts, a_equationRights, a_stackLefts, a_stackRights, a_words, a_boundWords, a_cellFirsts, a_cellSeconds, a_closureTokens, a_closureWords, a_written) (nI n) := by
  have h1 := (hg.2 n hn).2.2.2.2
  have h2 := lk_le a_nodeKinds N
  exact Exists.intro (ds n + 1) (x_root4 hN hg (ds n) n 0 _ hn rfl (by omega) (by omega) hp)
theorem n1_0 : ¬ (1 : Int32) = 0 := by decide
theorem x_hasRight {post : Int32 → Prop} {k : Int32} (h1 : gr_rg k → post 1) (h0 : ¬ gr_rg k → post 0) : wpX_hasRight post (f_saidPlace, f_instanceCount, f_nodeCount, f_equationCount, f_stackCount, f_wordCount, f_depth, f_cellCount, f_consCount, f_closureCount, f_stepCount, f_runAnswer, f_writtenCount, a_kinds, a_values, a_spans, a_bounds, a_binders, a_lengths, a_parameterCounts, a_typeCodes, a_typeLengths, a_instanceFunctions, a_nodeKinds, a_nodeLefts, a_nodeRights, a_nodeSizes, a_equationLefts, a_equationRights, a_stackLefts, a_stackRights, a_words, a_boundWords, a_cellFirsts, a_cellSeconds, a_closureTokens, a_closureWords, a_written) k :=
  br_c (fun h => h1 (Or.inl h)) (fun h => br_c (fun h' => h1 (Or.inr h')) (fun h' => h0 (fun z => z.elim h h')))
theorem x_hasLeft {post : Int32 → Prop} {k : Int32} (h1 : gr_lf k → post 1) (h0 : ¬ gr_lf k → post 0) : wpX_hasLeft post (f_saidPlace, f_instanceCount, f_nodeCount, f_equationCount, f_stackCount, f_wordCount, f_depth, f_cellCount, f_consCount, f_closureCount, f_stepCount, f_runAnswer, f_writtenCount, a_kinds, a_values, a_spans, a_bounds, a_binders, a_lengths, a_parameterCounts, a_typeCodes, a_typeLengths, a_instanceFunctions, a_nodeKinds, a_nodeLefts, a_nodeRights, a_nodeSizes, a_equationLefts, a_equationRights, a_stackLefts, a_stackRights, a_words, a_boundWords, a_cellFirsts, a_cellSeconds, a_closureTokens, a_closureWords, a_written) k :=
  br_c (fun h => h1 (Or.inl h)) (fun h => x_hasRight (fun hr => br_f n1_0 (h1 (Or.inr hr))) (fun hr => br_t rfl (h0 (fun z => z.elim h hr))))
theorem x_equate {post : SX → Prop} {p0 p1 : Int32} {e : Nat} (he : e < 1150)
    (h : post (f_saidPlace, f_instanceCount, f_nodeCount, (nI (e + 1)), f_stackCount, f_wordCount, f_depth, f_cellCount, f_consCount, f_closureCount, f_stepCount, f_runAnswer, f_writtenCount, a_kinds, a_values, a_spans, a_bounds, a_binders, a_lengths, a_parameterCounts, a_typeCodes, a_typeLengths, a_instanceFunctions, a_nodeKinds, a_nodeLefts, a_nodeRights, a_nodeSizes, (upd a_equationLefts e p0), (upd a_equationRights e p1), a_stackLefts, a_stackRights, a_words, a_boundWords, a_cellFirsts, a_cellSeconds, a_closureTokens, a_closureWords, a_written)) : wpX_equate post (f_saidPlace, f_instanceCount, f_nodeCount, (nI e), f_stackCount, f_wordCount, f_depth, f_cellCount, f_consCount, f_closureCount, f_stepCount, f_runAnswer, f_writtenCount, a_kinds, a_values, a_spans, a_bounds, a_binders, a_lengths, a_parameterCounts, a_typeCodes, a_typeLengths, a_instanceFunctions, a_nodeKinds, a_nodeLefts, a_nodeRights, a_nodeSizes, a_equationLefts, a_equationRights, a_stackLefts, a_stackRights, a_words, a_boundWords, a_cellFirsts, a_cellSeconds, a_closureTokens, a_closureWords, a_written) p0 p1 := by
  refine And.intro (pk_in e 1150 he) (nm_r (e' := upd a_equationLefts e p0) (by rw [nI_clamp (by omega)]) (And.intro (pk_in e 1150 he) (nm_r (e' := upd a_equationRights e p1) (by rw [nI_clamp (by omega)]) (nm_r (nI_1 e) h))))
theorem x_newNode {post : Int32 → SX → Prop} {p0 p1 p2 : Int32} {N : Nat} (hN : N < 1126)
    (h : post (nI N) (f_saidPlace, f_instanceCount, (nI (N + 1)), f_equationCount, f_stackCount, f_wordCount, f_depth, f_cellCount, f_consCount, f_closureCount, f_stepCount, f_runAnswer, f_writtenCount, a_kinds, a_values, a_spans, a_bounds, a_binders, a_lengths, a_parameterCounts, a_typeCodes, a_typeLengths, a_instanceFunctions, (upd a_nodeKinds N p0), (upd a_nodeLefts N p1), (upd a_nodeRights N p2), a_nodeSizes, a_equationLefts, a_equationRights, a_stackLefts, a_stackRights, a_words, a_boundWords, a_cellFirsts, a_cellSeconds, a_closureTokens, a_closureWords, a_written)) : wpX_newNode post (f_saidPlace, f_instanceCount, (nI N), f_equationCount, f_stackCount, f_wordCount, f_depth, f_cellCount, f_consCount, f_closureCount, f_stepCount, f_runAnswer, f_writtenCount, a_kinds, a_values, a_spans, a_bounds, a_binders, a_lengths, a_parameterCounts, a_typeCodes, a_typeLengths, a_instanceFunctions, a_nodeKinds, a_nodeLefts, a_nodeRights, a_nodeSizes, a_equationLefts, a_equationRights, a_stackLefts, a_stackRights, a_words, a_boundWords, a_cellFirsts, a_cellSeconds, a_closureTokens, a_closureWords, a_written) p0 p1 p2 := by
  refine And.intro (pk_in N 1126 hN) (nm_r (e' := upd a_nodeKinds N p0) (by rw [nI_clamp (by omega)]) (And.intro (pk_in N 1126 hN) (nm_r (e' := upd a_nodeLefts N p1) (by rw [nI_clamp (by omega)]) (And.intro (pk_in N 1126 hN) (nm_r (e' := upd a_nodeRights N p2) (by rw [nI_clamp (by omega)]) (nm_r (nI_1 N) ?_))))))
  rw [nI_pred]
  exact h
/-- the equations that wait -/
def eq_ok (N e : Nat) (el er : Nat → Int32) (EL ER : Nat → Nat) : Prop := ∀ i, i < e → el i = nI (EL i) ∧ EL i < N ∧ er i = nI (ER i) ∧ ER i < N
def eq_all (e : Nat) (EL ER : Nat → Nat) (r : Nat → mt_T) : Prop := ∀ i, i < e → r (EL i) = r (ER i)
theorem eq_up {N e : Nat} {el er : Nat → Int32} {EL ER : Nat → Nat} {a b : Nat} (h : eq_ok N e el er EL ER) (ha : a < N) (hb : b < N) :
    eq_ok N (e + 1) (upd el e (nI a)) (upd er e (nI b)) (updN EL e a) (updN ER e b) := by
  intro i hi
  by_cases z : i = e
  · subst z; rw [pk_us, pk_us, uN_s, uN_s]; exact ⟨rfl, ha, rfl, hb⟩
  · rw [pk_un z, pk_un z, uN_n z, uN_n z]; exact h i (by omega)
theorem eq_upa {e : Nat} {EL ER : Nat → Nat} {a b : Nat} {r : Nat → mt_T} : eq_all (e + 1) (updN EL e a) (updN ER e b) r ↔ eq_all e EL ER r ∧ r a = r b := by
  constructor
  · intro h
    refine ⟨fun i hi => ?_, ?_⟩
    · have := h i (by omega); rw [uN_n (by omega), uN_n (by omega)] at this; exact this
    · have := h e (by omega); rw [uN_s, uN_s] at this; exact this
  · rintro ⟨h, h'⟩ i hi
    by_cases z : i = e
    · subst z; rw [uN_s, uN_s]; exact h'
    · rw [uN_n z, uN_n z]; exact h i (by omega)
theorem eq_low {N e : Nat} {el er : Nat → Int32} {EL ER : Nat → Nat} (h : eq_ok N (e + 1) el er EL ER) : eq_ok N e el er EL ER := fun i hi => h i (by omega)
theorem eq_lowa {e : Nat} {EL ER : Nat → Nat} {r : Nat → mt_T} : eq_all (e + 1) EL ER r ↔ eq_all e EL ER r ∧ r (EL e) = r (ER e) := by
  constructor
  · intro h; exact ⟨fun i hi => h i (by omega), h e (by omega)⟩
  · rintro ⟨h, h'⟩ i hi
    by_cases z : i = e
    · subst z; exact h'
    · exact h i (by omega)
/-- a link from root a to root b -/
theorem xg_link {N : Nat} {K nl nr : Nat → Int32} {L R rt ds : Nat → Nat} {a b : Nat} (hg : xg_ok N K nl nr L R rt ds) (ha : a < N) (hb : b < N) (hab : a ≠ b) (ra : K a ≠ 5) (rb : K b ≠ 5) :
    ∃ rt' ds', xg_ok N (upd K a 5) (upd nl a (nI b)) nr (updN L a b) R rt' ds' ∧ lk_ct (upd K a 5) N = lk_ct K N + 1 := by
  have hl : lk_ct (upd K a 5) N = lk_ct K N + 1 := lk_up ra pk_us N ha (fun j _ hj => pk_un hj)
  refine ⟨fun n => if rt n = a then b else rt n, fun n => if rt n = a then ds n + 1 else ds n, ⟨fun n hn => ?_, ?_⟩, hl⟩
  · by_cases z : n = a
    · subst z
      rw [pk_us, pk_us, uN_s]
      refine ⟨Or.inr (Or.inr (Or.inr (Or.inr (Or.inr (Or.inl rfl))))), fun _ => ⟨rfl, hb⟩, fun h => ?_, fun h => absurd h (by decide)⟩
      rcases h with h | h <;> exact absurd h (by decide)
    · rw [pk_un z, pk_un z, uN_n z]; exact hg.1 n hn
  · rw [hl]
    exact fo_join hg.2 ha hb hab ra rb pk_us uN_s (fun j _ hj => pk_un hj) (fun j _ hj => uN_n hj)
theorem kd_cn {k : Int32} (h : gr_kd k) (h5 : k ≠ 5) (h10 : k ≠ 10) : gr_cn k := by
  rcases h with h | h | h | h | h | h | h
  · exact Or.inl h
  · exact Or.inr (Or.inl h)
  · exact Or.inr (Or.inr (Or.inl h))
  · exact Or.inr (Or.inr (Or.inr (Or.inl h)))
  · exact Or.inr (Or.inr (Or.inr (Or.inr h)))
  · exact absurd h h5
  · exact absurd h h10
theorem x_join {post : Int32 → SX → Prop} {N a b e : Nat} {L R rt ds EL ER : Nat → Nat} (hN : N ≤ 1126) (hg : xg_ok N a_nodeKinds a_nodeLefts a_nodeRights L R rt ds) (ha : a < N) (hb : b < N)
    (he : e + 2 ≤ 1150) (hq : eq_ok N e a_equationLefts a_equationRights EL ER) (ra : a_nodeKinds a ≠ 5) (rb : a_nodeKinds b ≠ 5)
    (h0 : gr_cn (a_nodeKinds a) → gr_cn (a_nodeKinds b) → a_nodeKinds a ≠ a_nodeKinds b → post 0 (f_saidPlace, f_instanceCount, f_nodeCount, (nI e), f_stackCount, f_wordCount, f_depth, f_cellCount, f_consCount, f_closureCount, f_stepCount, f_runAnswer, f_writtenCount, a_kinds, a_values, a_spans, a_bounds, a_binders, a_lengths, a_parameterCounts, a_typeCodes, a_typeLengths, a_instanceFunctions, a_nodeKinds, a_nodeLefts, a_nodeRights, a_nodeSizes, a_equationLefts, a_equationRights, a_stackLefts, a_stackRights, a_words, a_boundWords, a_cellFirsts, a_cellSeconds, a_closureTokens, a_closureWords, a_written))
    (h1 : a_nodeKinds a = 10 → post 1 (f_saidPlace, f_instanceCount, f_nodeCount, (nI e), f_stackCount, f_wordCount, f_depth, f_cellCount, f_consCount, f_closureCount, f_stepCount, f_runAnswer, f_writtenCount, a_kinds, a_values, a_spans, a_bounds, a_binders, a_lengths, a_parameterCounts, a_typeCodes, a_typeLengths, a_instanceFunctions, (upd a_nodeKinds a 5), (upd a_nodeLefts a (nI b)), a_nodeRights, a_nodeSizes, a_equationLefts, a_equationRights, a_stackLefts, a_stackRights, a_words, a_boundWords, a_cellFirsts, a_cellSeconds, a_closureTokens, a_closureWords, a_written))
    (h2 : a_nodeKinds b = 10 → post 1 (f_saidPlace, f_instanceCount, f_nodeCount, (nI e), f_stackCount, f_wordCount, f_depth, f_cellCount, f_consCount, f_closureCount, f_stepCount, f_runAnswer, f_writtenCount, a_kinds, a_values, a_spans, a_bounds, a_binders, a_lengths, a_parameterCounts, a_typeCodes, a_typeLengths, a_instanceFunctions, (upd a_nodeKinds b 5), (upd a_nodeLefts b (nI a)), a_nodeRights, a_nodeSizes, a_equationLefts, a_equationRights, a_stackLefts, a_stackRights, a_words, a_boundWords, a_cellFirsts, a_cellSeconds, a_closureTokens, a_closureWords, a_written))
    (h3 : gr_cn (a_nodeKinds a) → a_nodeKinds a = a_nodeKinds b → ∀ e' el er EL' ER', e' ≤ e + 2 → eq_ok N e' el er EL' ER' →
      (∀ r, eq_all e' EL' ER' r ↔ eq_all e EL ER r ∧ (gr_lf (a_nodeKinds a) → r (L a) = r (L b)) ∧ (gr_rg (a_nodeKinds a) → r (R a) = r (R b))) →
      post 1 (f_saidPlace, f_instanceCount, f_nodeCount, (nI e'), f_stackCount, f_wordCount, f_depth, f_cellCount, f_consCount, f_closureCount, f_stepCount, f_runAnswer, f_writtenCount, a_kinds, a_values, a_spans, a_bounds, a_binders, a_lengths, a_parameterCounts, a_typeCodes, a_typeLengths, a_instanceFunctions, (upd a_nodeKinds a 5), (upd a_nodeLefts a (nI b)), a_nodeRights, a_nodeSizes, el, er, a_stackLefts, a_stackRights, a_words, a_boundWords, a_cellFirsts, a_cellSeconds, a_closureTokens, a_closureWords, a_written)) :
    wpX_join post (f_saidPlace, f_instanceCount, f_nodeCount, (nI e), f_stackCount, f_wordCount, f_depth, f_cellCount, f_consCount, f_closureCount, f_stepCount, f_runAnswer, f_writtenCount, a_kinds, a_values, a_spans, a_bounds, a_binders, a_lengths, a_parameterCounts, a_typeCodes, a_typeLengths, a_instanceFunctions, a_nodeKinds, a_nodeLefts, a_nodeRights, a_nodeSizes, a_equationLefts, a_equationRights, a_stackLefts, a_stackRights, a_words, a_boundWords, a_cellFirsts, a_cellSeconds, a_closureTokens, a_closureWords, a_written) (nI a) (nI b) := by
  have ca : (nI a).toNatClampNeg = a := nI_clamp (by omega)
  have cb : (nI b).toNatClampNeg = b := nI_clamp (by omega)
  refine And.intro (pk_in a 1126 (by omega)) (nm_r (e' := a_nodeKinds a) (by rw [ca]) ?_)
  refine br_c (fun h => ?_) (fun h => And.intro (pk_in b 1126 (by omega)) ?_)
  · exact br_t h (And.intro (pk_in a 1126 (by omega)) (nm_r (e' := upd a_nodeKinds a 5) (by rw [ca]) (br_t h (And.intro (pk_in a 1126 (by omega)) (nm_r (e' := upd a_nodeLefts a (nI b)) (by rw [ca]) (h1 h))))))
  rw [cb]
  refine br_c (fun h' => ?_) (fun h' => And.intro (pk_in b 1126 (by omega)) ?_)
  · exact br_f h (And.intro (pk_in b 1126 (by omega)) (nm_r (e' := upd a_nodeKinds b 5) (by rw [cb]) (br_f h (And.intro (pk_in b 1126 (by omega)) (nm_r (e' := upd a_nodeLefts b (nI a)) (by rw [cb]) (h2 h'))))))
  have kca := kd_cn (hg.1 a ha).1 ra h
  have kcb := kd_cn (hg.1 b hb).1 rb h'
  refine br_c (fun hk => ?_) (fun hk => h0 kca kcb hk)
  rw [ca]
  have tail : ∀ e' el er EL' ER', e' ≤ e + 2 → eq_ok N e' el er EL' ER' →
      (∀ r, eq_all e' EL' ER' r ↔ eq_all e EL ER r ∧ (gr_lf (a_nodeKinds a) → r (L a) = r (L b)) ∧ (gr_rg (a_nodeKinds a) → r (R a) = r (R b))) →
      wX_join_125 post (nI a) (nI b) f_saidPlace f_instanceCount f_nodeCount (nI e') f_stackCount f_wordCount f_depth f_cellCount f_consCount f_closureCount f_stepCount f_runAnswer f_writtenCount a_kinds a_values a_spans a_bounds a_binders a_lengths a_parameterCounts a_typeCodes a_typeLengths a_instanceFunctions a_nodeKinds a_nodeLefts a_nodeRights a_nodeSizes el er a_stackLefts a_stackRights a_words a_boundWords a_cellFirsts a_cellSeconds a_closureTokens a_closureWords a_written := by
    intro e' el er EL' ER' he' hq' hr
    exact And.intro (pk_in a 1126 (by omega)) (nm_r (e' := upd a_nodeKinds a 5) (by rw [ca]) (And.intro (pk_in a 1126 (by omega)) (nm_r (e' := upd a_nodeLefts a (nI b)) (by rw [ca]) (h3 kca hk e' el er EL' ER' he' hq' hr))))
  refine x_hasLeft (fun hl => br_f n1_0 (And.intro (pk_in a 1126 (by omega)) (And.intro (pk_in b 1126 (by omega)) ?_))) (fun hl => br_t rfl ?_)
  · obtain ⟨la, lb⟩ := (hg.1 a ha).2.1 (Or.inr hl)
    obtain ⟨la', lb'⟩ := (hg.1 b hb).2.1 (Or.inr (hk ▸ hl))
    rw [la, la']
    refine x_equate (by omega) ?_
    refine x_hasRight (fun hr => br_f n1_0 (And.intro (pk_in a 1126 (by omega)) (And.intro (pk_in b 1126 (by omega)) ?_))) (fun hr => br_t rfl ?_)
    · obtain ⟨qa, qb⟩ := (hg.1 a ha).2.2.1 hr
      obtain ⟨qa', qb'⟩ := (hg.1 b hb).2.2.1 (hk ▸ hr)
      rw [ca, cb, qa, qa']
      refine x_equate (by omega) ?_
      refine tail _ _ _ _ _ (by omega) (eq_up (eq_up hq lb lb') qb qb') (fun r => ?_)
      rw [eq_upa, eq_upa]
      exact ⟨fun ⟨⟨p, q⟩, s⟩ => ⟨p, fun _ => q, fun _ => s⟩, fun ⟨p, q, s⟩ => ⟨⟨p, q hl⟩, s hr⟩⟩
    · refine tail _ _ _ _ _ (by omega) (eq_up hq lb lb') (fun r => ?_)
      rw [eq_upa]
      exact ⟨fun ⟨p, q⟩ => ⟨p, fun _ => q, fun z => absurd z hr⟩, fun ⟨p, q, _⟩ => ⟨p, q hl⟩⟩
  · refine x_hasRight (fun hr => absurd (Or.inr hr) hl) (fun hr => br_t rfl ?_)
    exact tail _ _ _ _ _ (by omega) hq (fun r => ⟨fun p => ⟨p, fun z => absurd z hl, fun z => absurd z hr⟩, fun p => p.1⟩)
end
section
variable {f_saidPlace f_instanceCount f_nodeCount f_equationCount f_stackCount f_wordCount f_depth f_cellCount f_consCount f_closureCount f_stepCount f_runAnswer f_writtenCount : Int32} {a_kinds a_values a_spans a_bounds a_binders a_lengths a_parameterCounts a_typeCodes a_typeLengths a_instanceFunctions a_nodeKinds a_nodeLefts a_nodeRights a_nodeSizes a_equationLefts a_equationRights a_stackLefts a_stackRights a_words a_boundWords a_cellFirsts a_cellSeconds a_closureTokens a_closureWords a_written : Nat → Int32}
/-- what is known of the solutions S0 while equations wait -/
def so_w (S0 : (Nat → mt_T) → Prop) (x : Int32) (T : (Nat → mt_T) → Prop) : Prop := (x = 1 ∧ ∀ r, S0 r ↔ T r) ∨ (x = 0 ∧ ∀ r, ¬ S0 r)
theorem so_n {S0 T : (Nat → mt_T) → Prop} {x : Int32} (h : so_w S0 x T) : narrow .boolean (.int x) = .int x := by
  rcases h with ⟨rfl, _⟩ | ⟨rfl, _⟩ <;> rfl
theorem so_i {S0 T T' : (Nat → mt_T) → Prop} {x : Int32} (h : so_w S0 x T) (e : ∀ r, T r ↔ T' r) : so_w S0 x T' := by
  rcases h with ⟨a, b⟩ | h
  · exact Or.inl ⟨a, fun r => (b r).trans (e r)⟩
  · exact Or.inr h
theorem so_0 {S0 T T' : (Nat → mt_T) → Prop} {x : Int32} (h : so_w S0 x T) (e : ∀ r, ¬ T r) : so_w S0 0 T' := by
  rcases h with ⟨_, b⟩ | ⟨_, b⟩
  · exact Or.inr ⟨rfl, fun r z => e r ((b r).mp z)⟩
  · exact Or.inr ⟨rfl, b⟩
theorem x_solve4 {post : Int32 → SX → Prop} {N : Nat} {R : Nat → Nat} {S0 : (Nat → mt_T) → Prop} (hN : N ≤ 1126)
    (hP : ∀ x1 K' nl' el' er' L' rt' ds', xg_ok N K' nl' a_nodeRights L' R rt' ds' → so_w S0 x1 (gr_sat N K' L' R) →
      post x1 (f_saidPlace, f_instanceCount, f_nodeCount, (nI 0), f_stackCount, f_wordCount, f_depth, f_cellCount, f_consCount, f_closureCount, f_stepCount, f_runAnswer, f_writtenCount, a_kinds, a_values, a_spans, a_bounds, a_binders, a_lengths, a_parameterCounts, a_typeCodes, a_typeLengths, a_instanceFunctions, K', nl', a_nodeRights, a_nodeSizes, el', er', a_stackLefts, a_stackRights, a_words, a_boundWords, a_cellFirsts, a_cellSeconds, a_closureTokens, a_closureWords, a_written)) :
    ∀ μ f i x1 e K nl el er L rt ds EL ER, xg_ok N K nl a_nodeRights L R rt ds → e + (N - lk_ct K N) ≤ 1150 → eq_ok N e el er EL ER →
      so_w S0 x1 (fun r => gr_sat N K L R r ∧ eq_all e EL ER r) → e + 3 * (N - lk_ct K N) ≤ μ → μ < f → i + μ < 1000000 →
      wX_solve_4 post f x1 (nI i) f_saidPlace f_instanceCount f_nodeCount (nI e) f_stackCount f_wordCount f_depth f_cellCount f_consCount f_closureCount f_stepCount f_runAnswer f_writtenCount a_kinds a_values a_spans a_bounds a_binders a_lengths a_parameterCounts a_typeCodes a_typeLengths a_instanceFunctions K nl a_nodeRights a_nodeSizes el er a_stackLefts a_stackRights a_words a_boundWords a_cellFirsts a_cellSeconds a_closureTokens a_closureWords a_written := by
  intro μ
  induction μ with
  | zero =>
    intro f i x1 e K nl el er L rt ds EL ER hg hE hq hS hμ hf hi
    obtain ⟨f, rfl⟩ : ∃ g, f = g + 1 := ⟨f - 1, by omega⟩
    have e0 : e = 0 := by omega
    subst e0
    have hS' : so_w S0 x1 (gr_sat N K L R) := so_i hS (fun r => ⟨fun h => h.1, fun h => ⟨h, fun i hi => by omega⟩⟩)
    refine pk_le 1000000 i (fun h => by omega) (fun _ => br_t (by decide) (And.intro (so_n hS) ?_))
    exact hP x1 K nl el er L rt ds hg hS'
  | succ μ ih =>
    intro f i x1 e K nl el er L rt ds EL ER hg hE hq hS hμ hf hi
    obtain ⟨f, rfl⟩ : ∃ g, f = g + 1 := ⟨f - 1, by omega⟩
    by_cases e0 : e = 0
    · subst e0
      have hS' : so_w S0 x1 (gr_sat N K L R) := so_i hS (fun r => ⟨fun h => h.1, fun h => ⟨h, fun i hi => by omega⟩⟩)
      refine pk_le 1000000 i (fun h => by omega) (fun _ => br_t (by decide) (And.intro (so_n hS) ?_))
      exact hP x1 K nl el er L rt ds hg hS'
    obtain ⟨e, rfl⟩ : ∃ g, e = g + 1 := ⟨e - 1, by omega⟩
    obtain ⟨q1, q2, q3, q4⟩ := hq e (by omega)
    have hl0 := lk_le K N
    have hlt : lk_ct K N < N := lk_lt (hg.2 (EL e) q2).2.1 N (hg.2 (EL e) q2).1
    refine pk_le 1000000 i (fun h => by omega) (fun _ => br_f (nI_nle (by omega) (by omega)) (nm_r (nI_pred e) (And.intro (pk_in e 1150 (by omega)) ?_)))
    rw [nI_clamp (n := e) (by omega), q1, q3]
    refine x_root hN hg q2 (And.intro (pk_in e 1150 (by omega)) (x_root hN hg q4 ?_))
    obtain ⟨a1, a2, _, _, _⟩ := hg.2 (EL e) q2
    obtain ⟨b1, b2, _, _, _⟩ := hg.2 (ER e) q4
    refine pk_eq (rt (EL e)) (rt (ER e)) (fun heq => nm_r (nI_1 i) ?_) (fun hne => ?_)
    · refine ih f (i + 1) x1 e K nl el er L rt ds EL ER hg (by omega) (eq_low hq) (so_i hS (fun r => ?_)) (by omega) (by omega) (by omega)
      rw [eq_lowa]
      refine ⟨fun h => ⟨h.1, h.2.1⟩, fun h => ⟨h.1, h.2, ?_⟩⟩
      rw [fo_eq hg.2 h.1 _ (EL e) q2 rfl, fo_eq hg.2 h.1 _ (ER e) q4 rfl, heq]
    · have key : ∀ r, gr_sat N K L R r ∧ eq_all (e + 1) EL ER r ↔ eq_all e EL ER r ∧ r (rt (EL e)) = r (rt (ER e)) ∧ gr_sat N K L R r := by
        intro r
        rw [eq_lowa]
        refine ⟨fun h => ⟨h.2.1, ?_, h.1⟩, fun h => ⟨h.2.2, h.1, ?_⟩⟩
        · rw [← fo_eq hg.2 h.1 _ (EL e) q2 rfl, ← fo_eq hg.2 h.1 _ (ER e) q4 rfl]; exact h.2.2
        · rw [fo_eq hg.2 h.2.2 _ (EL e) q2 rfl, fo_eq hg.2 h.2.2 _ (ER e) q4 rfl]; exact h.2.1
      have go : ∀ x1' e' el' er' EL' ER' (K' nl' : Nat → Int32) L' rt' ds', xg_ok N K' nl' a_nodeRights L' R rt' ds' → lk_ct K' N = lk_ct K N + 1 → e' ≤ e + 2 → eq_ok N e' el' er' EL' ER' →
          so_w S0 x1' (fun r => gr_sat N K' L' R r ∧ eq_all e' EL' ER' r) →
          wX_solve_4 post f x1' (nI (i + 1)) f_saidPlace f_instanceCount f_nodeCount (nI e') f_stackCount f_wordCount f_depth f_cellCount f_consCount f_closureCount f_stepCount f_runAnswer f_writtenCount a_kinds a_values a_spans a_bounds a_binders a_lengths a_parameterCounts a_typeCodes a_typeLengths a_instanceFunctions K' nl' a_nodeRights a_nodeSizes el' er' a_stackLefts a_stackRights a_words a_boundWords a_cellFirsts a_cellSeconds a_closureTokens a_closureWords a_written := by
        intro x1' e' el' er' EL' ER' K' nl' L' rt' ds' hg' hl' he' hq' hS'
        exact ih f (i + 1) x1' e' K' nl' el' er' L' rt' ds' EL' ER' hg' (by omega) hq' hS' (by omega) (by omega) (by omega)
      have fin : ∀ e' el' er' EL' ER' (K' nl' : Nat → Int32) L' rt' ds', xg_ok N K' nl' a_nodeRights L' R rt' ds' → lk_ct K' N = lk_ct K N + 1 → e' ≤ e + 2 → eq_ok N e' el' er' EL' ER' →
          so_w S0 x1 (fun r => gr_sat N K' L' R r ∧ eq_all e' EL' ER' r) →
          ((1 : Int32) = 0 → ∀ y, y = nI i + 1 → wX_solve_4 post f 0 y f_saidPlace f_instanceCount f_nodeCount (nI e') f_stackCount f_wordCount f_depth f_cellCount f_consCount f_closureCount f_stepCount f_runAnswer f_writtenCount a_kinds a_values a_spans a_bounds a_binders a_lengths a_parameterCounts a_typeCodes a_typeLengths a_instanceFunctions K' nl' a_nodeRights a_nodeSizes el' er' a_stackLefts a_stackRights a_words a_boundWords a_cellFirsts a_cellSeconds a_closureTokens a_closureWords a_written) ∧
          (¬ (1 : Int32) = 0 → (x1 = 0 → ∀ y, y = nI i + 1 → wX_solve_4 post f 0 y f_saidPlace f_instanceCount f_nodeCount (nI e') f_stackCount f_wordCount f_depth f_cellCount f_consCount f_closureCount f_stepCount f_runAnswer f_writtenCount a_kinds a_values a_spans a_bounds a_binders a_lengths a_parameterCounts a_typeCodes a_typeLengths a_instanceFunctions K' nl' a_nodeRights a_nodeSizes el' er' a_stackLefts a_stackRights a_words a_boundWords a_cellFirsts a_cellSeconds a_closureTokens a_closureWords a_written) ∧
            (¬ x1 = 0 → ∀ y, y = nI i + 1 → wX_solve_4 post f 1 y f_saidPlace f_instanceCount f_nodeCount (nI e') f_stackCount f_wordCount f_depth f_cellCount f_consCount f_closureCount f_stepCount f_runAnswer f_writtenCount a_kinds a_values a_spans a_bounds a_binders a_lengths a_parameterCounts a_typeCodes a_typeLengths a_instanceFunctions K' nl' a_nodeRights a_nodeSizes el' er' a_stackLefts a_stackRights a_words a_boundWords a_cellFirsts a_cellSeconds a_closureTokens a_closureWords a_written)) := by
        intro e' el' er' EL' ER' K' nl' L' rt' ds' hg' hl' he' hq' hS'
        refine br_f n1_0 (br_c (fun hx => nm_r (nI_1 i) ?_) (fun hx => nm_r (nI_1 i) ?_))
        · subst hx; exact go 0 e' el' er' EL' ER' K' nl' L' rt' ds' hg' hl' he' hq' hS'
        · have h1 : x1 = 1 := by rcases hS' with ⟨z, _⟩ | ⟨z, _⟩; exact z; exact absurd z hx
          subst h1; exact go 1 e' el' er' EL' ER' K' nl' L' rt' ds' hg' hl' he' hq' hS'
      refine x_join hN hg a1 b1 (by omega) (eq_low hq) a2 b2 (fun ca cb hk => ?_) (fun ka => ?_) (fun kb => ?_) (fun ca hk e' el' er' EL' ER' he' hq' hr' => ?_)
      · refine br_t rfl (nm_r (nI_1 i) ?_)
        refine ih f (i + 1) 0 e K nl el er L rt ds EL ER hg (by omega) (eq_low hq) (so_0 hS (fun r z => ?_)) (by omega) (by omega) (by omega)
        exact gr_clash a1 b1 ca cb hk z.1 ((key r).mp z).2.1
      · obtain ⟨rt', ds', hg', hl'⟩ := xg_link hg a1 b1 hne a2 b2
        refine fin e el er EL ER _ _ _ rt' ds' hg' hl' (by omega) (eq_low hq) (so_i hS (fun r => ?_))
        rw [key, gr_join_v (K := K) (L := L) (R := R) (R' := R) a1 pk_us uN_s (fun j _ hj => pk_un hj) (fun j _ hj => uN_n hj) (fun _ _ _ => rfl) ka]
        exact ⟨fun h => ⟨h.2, h.1⟩, fun h => ⟨h.2, h.1⟩⟩
      · obtain ⟨rt', ds', hg', hl'⟩ := xg_link hg b1 a1 (Ne.symm hne) b2 a2
        refine fin e el er EL ER _ _ _ rt' ds' hg' hl' (by omega) (eq_low hq) (so_i hS (fun r => ?_))
        rw [key, gr_join_v (K := K) (L := L) (R := R) (R' := R) b1 pk_us uN_s (fun j _ hj => pk_un hj) (fun j _ hj => uN_n hj) (fun _ _ _ => rfl) kb]
        exact ⟨fun h => ⟨⟨h.2.1.symm, h.2.2⟩, h.1⟩, fun h => ⟨h.2, h.1.1.symm, h.1.2⟩⟩
      · obtain ⟨rt', ds', hg', hl'⟩ := xg_link hg a1 b1 hne a2 b2
        refine fin e' el' er' EL' ER' _ _ _ rt' ds' hg' hl' he' hq' (so_i hS (fun r => ?_))
        have hj := gr_join_c (r := r) (K := K) (L := L) (R := R) (R' := R) a1 b1 hne pk_us uN_s (fun j _ hj => pk_un hj) (fun j _ hj => uN_n hj) (fun _ _ _ => rfl) ca hk
        rw [key, ← hj, hr' r]
        exact ⟨fun h => ⟨h.2.1, h.1, h.2.2⟩, fun h => ⟨h.2.1, h.1, h.2.2⟩⟩
theorem x_solve {post : Int32 → SX → Prop} {N e : Nat} {L R rt ds EL ER : Nat → Nat} {S0 : (Nat → mt_T) → Prop} (hN : N ≤ 1126) (he : e ≤ 24)
    (hg : xg_ok N a_nodeKinds a_nodeLefts a_nodeRights L R rt ds) (hq : eq_ok N e a_equationLefts a_equationRights EL ER)
    (hS : ∀ r, S0 r ↔ gr_sat N a_nodeKinds L R r ∧ eq_all e EL ER r)
    (hP : ∀ x1 K' nl' el' er' L' rt' ds', xg_ok N K' nl' a_nodeRights L' R rt' ds' → so_w S0 x1 (gr_sat N K' L' R) →
      post x1 (f_saidPlace, f_instanceCount, f_nodeCount, (nI 0), f_stackCount, f_wordCount, f_depth, f_cellCount, f_consCount, f_closureCount, f_stepCount, f_runAnswer, f_writtenCount, a_kinds, a_values, a_spans, a_bounds, a_binders, a_lengths, a_parameterCounts, a_typeCodes, a_typeLengths, a_instanceFunctions, K', nl', a_nodeRights, a_nodeSizes, el', er', a_stackLefts, a_stackRights, a_words, a_boundWords, a_cellFirsts, a_cellSeconds, a_closureTokens, a_closureWords, a_written)) :
    wpX_solve post (f_saidPlace, f_instanceCount, f_nodeCount, (nI e), f_stackCount, f_wordCount, f_depth, f_cellCount, f_consCount, f_closureCount, f_stepCount, f_runAnswer, f_writtenCount, a_kinds, a_values, a_spans, a_bounds, a_binders, a_lengths, a_parameterCounts, a_typeCodes, a_typeLengths, a_instanceFunctions, a_nodeKinds, a_nodeLefts, a_nodeRights, a_nodeSizes, a_equationLefts, a_equationRights, a_stackLefts, a_stackRights, a_words, a_boundWords, a_cellFirsts, a_cellSeconds, a_closureTokens, a_closureWords, a_written) :=
  Exists.intro 5000 (x_solve4 hN hP 4999 5000 0 1 e _ _ _ _ L rt ds EL ER hg (by omega) hq (Or.inl ⟨rfl, hS⟩) (by omega) (by omega) (by omega))
end
section
variable {f_saidPlace f_instanceCount f_nodeCount f_equationCount f_stackCount f_wordCount f_depth f_cellCount f_consCount f_closureCount f_stepCount f_runAnswer f_writtenCount : Int32} {a_kinds a_values a_spans a_bounds a_binders a_lengths a_parameterCounts a_typeCodes a_typeLengths a_instanceFunctions a_nodeKinds a_nodeLefts a_nodeRights a_nodeSizes a_equationLefts a_equationRights a_stackLefts a_stackRights a_words a_boundWords a_cellFirsts a_cellSeconds a_closureTokens a_closureWords a_written : Nat → Int32}
def cp (m : Nat) : Nat := if m ≤ 14 then m else 15
theorem cp_le (m : Nat) : cp m ≤ m := by unfold cp; split <;> omega
theorem cp_15 (m : Nat) : cp m ≤ 15 := by unfold cp; split <;> omega
theorem cp_s {m : Nat} (h : cp m < 15) : cp m = m := by unfold cp at *; split <;> rename_i z; rfl; rw [if_neg z] at h; omega
theorem cp_b {m : Nat} (h : 15 ≤ m) : cp m = 15 := by unfold cp; rw [if_neg (by omega)]
theorem cp_m {m : Nat} (h : m ≤ 14) : cp m = m := by unfold cp; rw [if_pos h]
theorem cp_p {m : Nat} (h : 0 < m) : 0 < cp m := by unfold cp; split <;> omega
/-- sizes that are known are those of the trees -/
def zs_ok (N : Nat) (Sz : Nat → Int32) (c : Nat → mt_T) : Prop := ∀ n, n < N → Sz n ≠ 0 → Sz n = nI (cp (mt_enc (c n)).length)
theorem x_sizeOf {post : Int32 → Prop} {N n : Nat} {L R rt ds : Nat → Nat} {c : Nat → mt_T} (hN : N ≤ 1126) (hg : xg_ok N a_nodeKinds a_nodeLefts a_nodeRights L R rt ds) (hz : zs_ok N a_nodeSizes c) (hn : n < N)
    (h0 : (∃ m, gr_ch a_nodeKinds L R n m ∧ m < N ∧ a_nodeSizes m = 0) → post 0)
    (h1 : (∀ m, gr_ch a_nodeKinds L R n m → m < N ∧ a_nodeSizes m ≠ 0) → post (nI (cp (mt_enc (gr_nx a_nodeKinds L R c n)).length))) : wpX_sizeOf post (f_saidPlace, f_instanceCount, f_nodeCount, f_equationCount, f_stackCount, f_wordCount, f_depth, f_cellCount, f_consCount, f_closureCount, f_stepCount, f_runAnswer, f_writtenCount, a_kinds, a_values, a_spans, a_bounds, a_binders, a_lengths, a_parameterCounts, a_typeCodes, a_typeLengths, a_instanceFunctions, a_nodeKinds, a_nodeLefts, a_nodeRights, a_nodeSizes, a_equationLefts, a_equationRights, a_stackLefts, a_stackRights, a_words, a_boundWords, a_cellFirsts, a_cellSeconds, a_closureTokens, a_closureWords, a_written) (nI n) := by
  have cn : (nI n).toNatClampNeg = n := nI_clamp (by omega)
  obtain ⟨kd, kl, kr, _⟩ := hg.1 n hn
  refine And.intro (pk_in n 1126 (by omega)) (nm_r (e' := a_nodeKinds n) (by rw [cn]) ?_)
  refine br_c (fun h5 => ?_) (fun h5 => ?_)
  · obtain ⟨l1, l2⟩ := kl (Or.inl h5)
    rw [cn, l1]
    refine And.intro (pk_in n 1126 (by omega)) (And.intro (pk_in (L n) 1126 (by omega)) ?_)
    rw [nI_clamp (by omega)]
    have hch : ∀ m, gr_ch a_nodeKinds L R n m → m = L n := by
      rintro m (⟨_, e⟩ | ⟨z, _⟩)
      · exact e
      · rw [h5] at z; rcases z with z | z <;> exact absurd z (by decide)
    by_cases hs : a_nodeSizes (L n) = 0
    · rw [hs]; exact h0 ⟨L n, Or.inl ⟨Or.inl h5, rfl⟩, l2, hs⟩
    · have e := h1 (fun m hm => by rw [hch m hm]; exact ⟨l2, hs⟩)
      have : gr_nx a_nodeKinds L R c n = c (L n) := by
        unfold gr_nx
        rw [if_neg (by rw [h5]; decide), gr_at_5 h5]
      rw [this, ← hz (L n) l2 hs] at e
      exact e
  · refine x_hasLeft (fun hl => br_f n1_0 ?_) (fun hl => br_t rfl ?_)
    · obtain ⟨l1, l2⟩ := kl (Or.inr hl)
      rw [cn, l1]
      refine And.intro (pk_in n 1126 (by omega)) (And.intro (pk_in (L n) 1126 (by omega)) (nm_r (e' := a_nodeSizes (L n)) (by rw [nI_clamp (by omega)]) ?_))
      refine x_hasRight (fun hr => br_f n1_0 ?_) (fun hr => br_t rfl ?_)
      · obtain ⟨r1, r2⟩ := kr hr
        rw [r1]
        refine And.intro (pk_in n 1126 (by omega)) (And.intro (pk_in (R n) 1126 (by omega)) ?_)
        rw [nI_clamp (n := R n) (by omega)]
        refine br_c (fun z => h0 ⟨L n, Or.inl ⟨Or.inr hl, rfl⟩, l2, z⟩) (fun zl => x_hasRight (fun _ => br_f n1_0 (br_c (fun z => h0 ⟨R n, Or.inr ⟨hr, rfl⟩, r2, z⟩) (fun zr => ?_))) (fun z => absurd hr z))
        have e := h1 (by
          rintro m (⟨_, rfl⟩ | ⟨_, rfl⟩)
          · exact ⟨l2, zl⟩
          · exact ⟨r2, zr⟩)
        have el : (mt_enc (gr_nx a_nodeKinds L R c n)).length = 1 + (mt_enc (c (L n))).length + (mt_enc (c (R n))).length := by
          unfold gr_nx
          rcases hr with z | z
          · rw [if_neg (by rw [z]; decide), gr_at_2 z]
            simp only [mt_enc, List.length_cons, List.length_append]
            rw [if_neg (by omega)]; omega
          · rw [if_neg (by rw [z]; decide), gr_at_4 z]
            simp only [mt_enc, List.length_cons, List.length_append]
            rw [if_neg (by omega)]; omega
        rw [el] at e
        rw [hz (L n) l2 zl, hz (R n) r2 zr]
        have p1 := cp_15 (mt_enc (c (L n))).length
        have p2 := cp_15 (mt_enc (c (R n))).length
        have q1 := cp_le (mt_enc (c (L n))).length
        have q2 := cp_le (mt_enc (c (R n))).length
        refine pk_lt (cp (mt_enc (c (L n))).length + cp (mt_enc (c (R n))).length) 14 (fun hlt => ?_) (fun hge => ?_) (nI_add _ _)
        · rw [cp_s (m := (mt_enc (c (L n))).length) (by omega), cp_s (m := (mt_enc (c (R n))).length) (by omega)] at hlt ⊢
          rw [cp_m (by omega)] at e
          have : 1 + nI (mt_enc (c (L n))).length + nI (mt_enc (c (R n))).length = nI (1 + (mt_enc (c (L n))).length + (mt_enc (c (R n))).length) := by
            rw [← nI_add, ← nI_add]; rfl
          rw [this]; exact e
        · rw [cp_b (by omega)] at e; exact e
      · refine br_c (fun z => h0 ⟨L n, Or.inl ⟨Or.inr hl, rfl⟩, l2, z⟩) (fun zl => x_hasRight (fun z => absurd z hr) (fun _ => br_t rfl ?_))
        have h3 : a_nodeKinds n = 3 := hl.elim id (fun z => absurd z hr)
        have e := h1 (by
          rintro m (⟨_, rfl⟩ | ⟨z, _⟩)
          · exact ⟨l2, zl⟩
          · exact absurd z hr)
        have el : (mt_enc (gr_nx a_nodeKinds L R c n)).length = 1 + (mt_enc (c (L n))).length := by
          unfold gr_nx
          rw [if_neg (by rw [h3]; decide), gr_at_3 h3]
          simp only [mt_enc, List.length_cons, List.length_append, if_true, List.length_nil]
          omega
        rw [el] at e
        rw [hz (L n) l2 zl]
        have p1 := cp_15 (mt_enc (c (L n))).length
        have q1 := cp_le (mt_enc (c (L n))).length
        refine pk_lt (cp (mt_enc (c (L n))).length) 14 (fun hlt => ?_) (fun hge => ?_) (nI_add _ 0)
        · rw [cp_s (m := (mt_enc (c (L n))).length) (by omega)] at hlt ⊢
          rw [cp_m (by omega)] at e
          have : 1 + nI (mt_enc (c (L n))).length + 0 = nI (1 + (mt_enc (c (L n))).length) := by
            rw [← nI_add, Int32.add_zero]; rfl
          rw [this]; exact e
        · rw [cp_b (by omega)] at e; exact e
    · have e := h1 (by
        rintro m (⟨z | z, _⟩ | ⟨z, _⟩)
        · exact absurd z h5
        · exact absurd z hl
        · exact absurd (Or.inr z) hl)
      have el : (mt_enc (gr_nx a_nodeKinds L R c n)).length = 1 := by
        unfold gr_nx
        split
        · rfl
        · rename_i h10
          rcases kd_cn kd h5 h10 with z | z | z | z | z
          · rw [gr_at_0 z]; rfl
          · rw [gr_at_1 z]; rfl
          · exact absurd (Or.inr (Or.inl z)) hl
          · exact absurd (Or.inl z) hl
          · exact absurd (Or.inr (Or.inr z)) hl
      rw [el] at e
      exact e
theorem sm_01 {g : Nat → Nat} : ∀ n, (∀ j, j < n → g j ≤ 1) → sm g n = n ∨ ∃ j, j < n ∧ g j = 0 := by
  intro n
  induction n with
  | zero => intro _; exact Or.inl rfl
  | succ n ih =>
    intro h
    rcases ih (fun j hj => h j (by omega)) with e | ⟨j, hj, e⟩
    · by_cases z : g n = 0
      · exact Or.inr ⟨n, by omega, z⟩
      · left; have := h n (by omega); simp only [sm]; omega
    · exact Or.inr ⟨j, by omega, e⟩
theorem sm_full {g : Nat → Nat} : ∀ n, (∀ j, j < n → g j ≤ 1) → sm g n = n → ∀ j, j < n → g j = 1 := by
  intro n
  induction n with
  | zero => intro _ _ j hj; omega
  | succ n ih =>
    intro h e j hj
    have h1 := sm_le n (fun j hj => h j (by omega))
    have h2 := h n (by omega)
    simp only [sm] at e
    by_cases z : j = n
    · subst z; omega
    · exact ih (fun j hj => h j (by omega)) (by omega) j (by omega)
def zc (N : Nat) (Sz : Nat → Int32) : Nat := sm (fun j => if Sz j = 0 then 0 else 1) N
theorem zc_1 (Sz : Nat → Int32) : ∀ j, (if Sz j = 0 then 0 else 1) ≤ 1 := by intro j; split <;> omega
theorem zc_le (N : Nat) (Sz : Nat → Int32) : zc N Sz ≤ N := by
  have := sm_le (g := fun j => if Sz j = 0 then 0 else 1) (b := 1) N (fun j _ => zc_1 Sz j)
  unfold zc; omega
theorem zc_up {N : Nat} {Sz : Nat → Int32} {k : Nat} {x : Int32} (hk : k < N) (h0 : Sz k = 0) (hx : x ≠ 0) : zc N (upd Sz k x) = zc N Sz + 1 := by
  have := sm_one (g := fun j => if Sz j = 0 then 0 else 1) (g' := fun j => if upd Sz k x j = 0 then 0 else 1) (a := k) N hk (fun j _ hj => by simp only [pk_un hj])
  simp only [pk_us, if_pos h0, if_neg hx] at this
  unfold zc; omega
theorem up_id {f : Nat → Int32} {k : Nat} {x : Int32} (h : f k = x) : upd f k x = f := by
  funext j
  by_cases z : j = k
  · subst z; rw [pk_us, h]
  · rw [pk_un z]
end
section
variable {f_saidPlace f_instanceCount f_nodeCount f_equationCount f_stackCount f_wordCount f_depth f_cellCount f_consCount f_closureCount f_stepCount f_runAnswer f_writtenCount : Int32} {a_kinds a_values a_spans a_bounds a_binders a_lengths a_parameterCounts a_typeCodes a_typeLengths a_instanceFunctions a_nodeKinds a_nodeLefts a_nodeRights a_nodeSizes a_equationLefts a_equationRights a_stackLefts a_stackRights a_words a_boundWords a_cellFirsts a_cellSeconds a_closureTokens a_closureWords a_written : Nat → Int32}
/-- every node without a size names one -/
def zt (N : Nat) (K : Nat → Int32) (L R : Nat → Nat) (Sz : Nat → Int32) (i : Nat) : Prop := ∀ n, i ≤ n → n < N → Sz n = 0 → ∃ m, gr_ch K L R n m ∧ m < N ∧ Sz m = 0
theorem x_m50 {post : Int32 → SX → Prop} {J29 : Int32 → Int32 → Int32 → (Nat → Int32) → (Nat → Int32) → (Nat → Int32) → (Nat → Int32) → (Nat → Int32) → (Nat → Int32) → (Nat → Int32) → (Nat → Int32) → (Nat → Int32) → (Nat → Int32) → (Nat → Int32) → (Nat → Int32) → (Nat → Int32) → (Nat → Int32) → (Nat → Int32) → (Nat → Int32) → (Nat → Int32) → (Nat → Int32) → (Nat → Int32) → (Nat → Int32) → (Nat → Int32) → (Nat → Int32) → (Nat → Int32) → (Nat → Int32) → (Nat → Int32) → Prop} {x1 x3 : Int32} {N z0 : Nat} {L R rt ds : Nat → Nat} (hN : N ≤ 1125) (hg : xg_ok N a_nodeKinds a_nodeLefts a_nodeRights L R rt ds)
    (hJ : ∀ m' Sz' c', gr_M N a_nodeKinds L R (fun n => Sz' n ≠ 0) c' → zs_ok N Sz' c' → zc N Sz' = z0 + m' → (m' ≠ 0 ∨ zt N a_nodeKinds L R Sz' 0) → J29 (x1 + nI m') (nI m') (x3 + 1) a_kinds a_values a_spans a_bounds a_binders a_lengths a_parameterCounts a_typeCodes a_typeLengths a_instanceFunctions a_nodeKinds a_nodeLefts a_nodeRights Sz' a_equationLefts a_equationRights a_stackLefts a_stackRights a_words a_boundWords a_cellFirsts a_cellSeconds a_closureTokens a_closureWords a_written) :
    ∀ i f m Sz c, i ≤ N → i < f → gr_M N a_nodeKinds L R (fun n => Sz n ≠ 0) c → zs_ok N Sz c → zc N Sz = z0 + m → (m ≠ 0 ∨ zt N a_nodeKinds L R Sz i) →
      wX_measureNodes_50 post J29 x1 x3 f_saidPlace f_instanceCount (nI N) f_equationCount f_stackCount f_wordCount f_depth f_cellCount f_consCount f_closureCount f_stepCount f_runAnswer f_writtenCount f (nI m) (nI i + (-1)) a_kinds a_values a_spans a_bounds a_binders a_lengths a_parameterCounts a_typeCodes a_typeLengths a_instanceFunctions a_nodeKinds a_nodeLefts a_nodeRights Sz a_equationLefts a_equationRights a_stackLefts a_stackRights a_words a_boundWords a_cellFirsts a_cellSeconds a_closureTokens a_closureWords a_written := by
  intro i
  induction i with
  | zero =>
    intro f m Sz c _ hf hM hz hc ht
    obtain ⟨f, rfl⟩ : ∃ g, f = g + 1 := ⟨f - 1, by omega⟩
    exact br_t (by decide) (nm_e (nm_e (hJ m Sz c hM hz hc ht)))
  | succ k ih =>
    intro f m Sz c hi hf hM hz hc ht
    obtain ⟨f, rfl⟩ : ∃ g, f = g + 1 := ⟨f - 1, by omega⟩
    have ck : (nI k).toNatClampNeg = k := nI_clamp (by omega)
    rw [pk_m1 k]
    refine br_f (nI_pos (by omega)) (And.intro (pk_in k 1126 (by omega)) ?_)
    rw [ck]
    by_cases h0 : Sz k = 0
    · refine br_t h0 (x_sizeOf (c := c) (by omega) hg hz (by omega) (fun hx => ?_) (fun hx => ?_))
      · refine And.intro (pk_in k 1126 (by omega)) (nm_r (e' := Sz) (up_id h0) (And.intro (pk_in k 1126 (by omega)) ?_))
        refine br_t (by rw [h0]; decide) (nm_r (Int32.add_zero _) (nm_e (ih f m Sz c (by omega) (by omega) hM hz hc ?_)))
        rcases ht with z | z
        · exact Or.inl z
        · refine Or.inr (fun n hn hN' hs => ?_)
          by_cases e : n = k
          · subst e; exact hx
          · exact z n (by omega) hN' hs
      · have hp := cp_p (mt_enc_ne (gr_nx a_nodeKinds L R c k))
        have hp2 := cp_15 (mt_enc (gr_nx a_nodeKinds L R c k)).length
        have hv : ¬ nI (cp (mt_enc (gr_nx a_nodeKinds L R c k)).length) = 0 := nI_ne0 hp (by omega)
        refine And.intro (pk_in k 1126 (by omega)) (nm_e (And.intro (pk_in k 1126 (by omega)) ?_))
        rw [pk_us]
        refine br_f (nI_nle hp (by omega)) (nm_r (nI_1 m) (nm_e (ih f (m + 1) _ (gr_put c k (gr_nx a_nodeKinds L R c k)) (by omega) (by omega) ?_ ?_ ?_ (Or.inl (by omega)))))
        · have hst := gr_M_step hM (n := k) (by omega) (fun z => z h0) hx (hg.1 k (by omega)).1
          have e : (fun n => upd Sz k (nI (cp (mt_enc (gr_nx a_nodeKinds L R c k)).length)) n ≠ 0) = (fun j => Sz j ≠ 0 ∨ j = k) := by
            funext j
            apply propext
            by_cases z : j = k
            · subst z; rw [pk_us]; exact ⟨fun _ => Or.inr rfl, fun _ => hv⟩
            · rw [pk_un z]; exact ⟨fun h => Or.inl h, fun h => h.elim id (fun q => absurd q z)⟩
          rw [e]; exact hst
        · intro n hn hs
          by_cases z : n = k
          · subst z; rw [pk_us, gr_put_eq]
          · rw [pk_un z] at hs ⊢; rw [gr_put_ne z]; exact hz n hn hs
        · rw [zc_up (by omega) h0 hv, hc]; omega
    · refine br_f h0 (nm_e (ih f m Sz c (by omega) (by omega) hM hz hc ?_))
      rcases ht with z | z
      · exact Or.inl z
      · refine Or.inr (fun n hn hN' hs => ?_)
        by_cases e : n = k
        · subst e; exact absurd hs h0
        · exact z n (by omega) hN' hs
theorem x_m29 {post : Int32 → SX → Prop} {N : Nat} {L R rt ds : Nat → Nat} (hN : N ≤ 1125) (hg : xg_ok N a_nodeKinds a_nodeLefts a_nodeRights L R rt ds)
    (hP1 : ∀ Sz' c, mg_is N (gr_sat N a_nodeKinds L R) c → (∀ n, n < N → a_nodeKinds n = 10 → c n = .leaf (10 + n)) → (∀ n, n < N → Sz' n = nI (cp (mt_enc (c n)).length)) → post 1 (f_saidPlace, f_instanceCount, (nI N), f_equationCount, f_stackCount, f_wordCount, f_depth, f_cellCount, f_consCount, f_closureCount, f_stepCount, f_runAnswer, f_writtenCount, a_kinds, a_values, a_spans, a_bounds, a_binders, a_lengths, a_parameterCounts, a_typeCodes, a_typeLengths, a_instanceFunctions, a_nodeKinds, a_nodeLefts, a_nodeRights, Sz', a_equationLefts, a_equationRights, a_stackLefts, a_stackRights, a_words, a_boundWords, a_cellFirsts, a_cellSeconds, a_closureTokens, a_closureWords, a_written))
    (hP0 : ∀ Sz', (∀ r, ¬ gr_sat N a_nodeKinds L R r) → post 0 (f_saidPlace, f_instanceCount, (nI N), f_equationCount, f_stackCount, f_wordCount, f_depth, f_cellCount, f_consCount, f_closureCount, f_stepCount, f_runAnswer, f_writtenCount, a_kinds, a_values, a_spans, a_bounds, a_binders, a_lengths, a_parameterCounts, a_typeCodes, a_typeLengths, a_instanceFunctions, a_nodeKinds, a_nodeLefts, a_nodeRights, Sz', a_equationLefts, a_equationRights, a_stackLefts, a_stackRights, a_words, a_boundWords, a_cellFirsts, a_cellSeconds, a_closureTokens, a_closureWords, a_written)) :
    ∀ f rd m Sz c, N + 2 ≤ f + rd → rd ≤ N + 1 → gr_M N a_nodeKinds L R (fun n => Sz n ≠ 0) c → zs_ok N Sz c → (m ≠ 0 → rd ≤ zc N Sz) → (m ≠ 0 ∨ zt N a_nodeKinds L R Sz 0) → m ≤ N + 1 →
      wX_measureNodes_29 post f_saidPlace f_instanceCount (nI N) f_equationCount f_stackCount f_wordCount f_depth f_cellCount f_consCount f_closureCount f_stepCount f_runAnswer f_writtenCount f (nI (zc N Sz)) (nI m) (nI rd) a_kinds a_values a_spans a_bounds a_binders a_lengths a_parameterCounts a_typeCodes a_typeLengths a_instanceFunctions a_nodeKinds a_nodeLefts a_nodeRights Sz a_equationLefts a_equationRights a_stackLefts a_stackRights a_words a_boundWords a_cellFirsts a_cellSeconds a_closureTokens a_closureWords a_written := by
  have fin : ∀ Sz c, gr_M N a_nodeKinds L R (fun n => Sz n ≠ 0) c → zs_ok N Sz c → zt N a_nodeKinds L R Sz 0 →
      wX_measureNodes_112 post (nI (zc N Sz)) f_saidPlace f_instanceCount (nI N) f_equationCount f_stackCount f_wordCount f_depth f_cellCount f_consCount f_closureCount f_stepCount f_runAnswer f_writtenCount a_kinds a_values a_spans a_bounds a_binders a_lengths a_parameterCounts a_typeCodes a_typeLengths a_instanceFunctions a_nodeKinds a_nodeLefts a_nodeRights Sz a_equationLefts a_equationRights a_stackLefts a_stackRights a_words a_boundWords a_cellFirsts a_cellSeconds a_closureTokens a_closureWords a_written := by
    intro Sz c hM hz ht
    have hle := zc_le N Sz
    refine pk_eq (zc N Sz) N (fun e => ?_) (fun e => ?_)
    · have hall : ∀ n, n < N → Sz n ≠ 0 := by
        intro n hn z
        have := sm_full N (fun j _ => zc_1 Sz j) e n hn
        simp only [if_pos z] at this
        omega
      exact hP1 Sz c (gr_M_mg hM hall (fun n hn => (hg.1 n hn).1)) (fun n hn hk => (hM.2 n hn (hall n hn)).1 hk) (fun n hn => hz n hn (hall n hn))
    · refine hP0 Sz (fun r hr => ?_)
      rcases sm_01 (g := fun j => if Sz j = 0 then 0 else 1) N (fun j _ => zc_1 Sz j) with z | ⟨j, hj, z⟩
      · exact e z
      · have z0 : Sz j = 0 := by
          by_cases q : Sz j = 0
          · exact q
          · simp only [if_neg q] at z; omega
        exact gr_none hg.2 (Z := fun n => Sz n = 0) (fun n hn hZ => ht n (by omega) hn hZ) hr _ j hj z0 (Nat.lt_succ_self _)
  intro f
  induction f with
  | zero => intro rd m Sz c h1 h2; omega
  | succ f ih =>
    intro rd m Sz c hf hrd hM hz hr ht hm
    have hle := zc_le N Sz
    refine pk_le 1126 rd (fun h => ?_) (fun h => ?_)
    · exact fin Sz c hM hz (ht.elim (fun z => by have := hr z; omega) id)
    · by_cases m0 : m = 0
      · subst m0
        exact br_t (by decide) (fin Sz c hM hz (ht.elim (fun z => absurd rfl z) id))
      · refine br_f (nI_nle (by omega) (by omega)) (nm_r (e' := nI N + (-1)) (Int32.sub_eq_add_neg _ _) (Exists.intro (N + 1) ?_))
        refine x_m50 (z0 := zc N Sz) hN hg (fun m' Sz' c' hM' hz' hc' ht' => ?_) N (N + 1) 0 Sz c (Nat.le_refl _) (by omega) hM hz rfl (Or.inr (fun n h1 h2 => by omega))
        have hle' := zc_le N Sz'
        have h3 := hr m0
        rw [nI_add, nI_1, ← hc']
        exact ih (rd + 1) m' Sz' c' (by omega) (by omega) hM' hz' (fun z => by omega) ht' (by omega)
theorem x_m2 {post : Int32 → SX → Prop} {N : Nat} (hN : N ≤ 1126)
    (hP : ∀ Sz', (∀ n, n < N → Sz' n = 0) → ∃ n29, wX_measureNodes_29 post f_saidPlace f_instanceCount (nI N) f_equationCount f_stackCount f_wordCount f_depth f_cellCount f_consCount f_closureCount f_stepCount f_runAnswer f_writtenCount n29 0 1 0 a_kinds a_values a_spans a_bounds a_binders a_lengths a_parameterCounts a_typeCodes a_typeLengths a_instanceFunctions a_nodeKinds a_nodeLefts a_nodeRights Sz' a_equationLefts a_equationRights a_stackLefts a_stackRights a_words a_boundWords a_cellFirsts a_cellSeconds a_closureTokens a_closureWords a_written) :
    ∀ f i Sz, i ≤ N → N < f + i → (∀ n, n < i → Sz n = 0) → wX_measureNodes_2 post f_saidPlace f_instanceCount (nI N) f_equationCount f_stackCount f_wordCount f_depth f_cellCount f_consCount f_closureCount f_stepCount f_runAnswer f_writtenCount f (nI i) a_kinds a_values a_spans a_bounds a_binders a_lengths a_parameterCounts a_typeCodes a_typeLengths a_instanceFunctions a_nodeKinds a_nodeLefts a_nodeRights Sz a_equationLefts a_equationRights a_stackLefts a_stackRights a_words a_boundWords a_cellFirsts a_cellSeconds a_closureTokens a_closureWords a_written := by
  intro f
  induction f with
  | zero => intro i Sz h1 h2; omega
  | succ f ih =>
    intro i Sz h1 h2 hz
    refine pk_le N i (fun h => hP Sz (fun n hn => hz n (by omega))) (fun h => And.intro (pk_in i 1126 (by omega)) (nm_r (e' := upd Sz i 0) (by rw [nI_clamp (by omega)]) (nm_r (nI_1 i) (ih (i + 1) _ (by omega) (by omega) (fun n hn => ?_)))))
    by_cases z : n = i
    · subst z; exact pk_us
    · rw [pk_un z]; exact hz n (by omega)
theorem x_measure {post : Int32 → SX → Prop} {N : Nat} {L R rt ds : Nat → Nat} (hN : N ≤ 1125) (hg : xg_ok N a_nodeKinds a_nodeLefts a_nodeRights L R rt ds)
    (hP1 : ∀ Sz' c, mg_is N (gr_sat N a_nodeKinds L R) c → (∀ n, n < N → a_nodeKinds n = 10 → c n = .leaf (10 + n)) → (∀ n, n < N → Sz' n = nI (cp (mt_enc (c n)).length)) → post 1 (f_saidPlace, f_instanceCount, (nI N), f_equationCount, f_stackCount, f_wordCount, f_depth, f_cellCount, f_consCount, f_closureCount, f_stepCount, f_runAnswer, f_writtenCount, a_kinds, a_values, a_spans, a_bounds, a_binders, a_lengths, a_parameterCounts, a_typeCodes, a_typeLengths, a_instanceFunctions, a_nodeKinds, a_nodeLefts, a_nodeRights, Sz', a_equationLefts, a_equationRights, a_stackLefts, a_stackRights, a_words, a_boundWords, a_cellFirsts, a_cellSeconds, a_closureTokens, a_closureWords, a_written))
    (hP0 : ∀ Sz', (∀ r, ¬ gr_sat N a_nodeKinds L R r) → post 0 (f_saidPlace, f_instanceCount, (nI N), f_equationCount, f_stackCount, f_wordCount, f_depth, f_cellCount, f_consCount, f_closureCount, f_stepCount, f_runAnswer, f_writtenCount, a_kinds, a_values, a_spans, a_bounds, a_binders, a_lengths, a_parameterCounts, a_typeCodes, a_typeLengths, a_instanceFunctions, a_nodeKinds, a_nodeLefts, a_nodeRights, Sz', a_equationLefts, a_equationRights, a_stackLefts, a_stackRights, a_words, a_boundWords, a_cellFirsts, a_cellSeconds, a_closureTokens, a_closureWords, a_written)) : wpX_measureNodes post (f_saidPlace, f_instanceCount, (nI N), f_equationCount, f_stackCount, f_wordCount, f_depth, f_cellCount, f_consCount, f_closureCount, f_stepCount, f_runAnswer, f_writtenCount, a_kinds, a_values, a_spans, a_bounds, a_binders, a_lengths, a_parameterCounts, a_typeCodes, a_typeLengths, a_instanceFunctions, a_nodeKinds, a_nodeLefts, a_nodeRights, a_nodeSizes, a_equationLefts, a_equationRights, a_stackLefts, a_stackRights, a_words, a_boundWords, a_cellFirsts, a_cellSeconds, a_closureTokens, a_closureWords, a_written) := by
  refine Exists.intro (N + 1) (x_m2 (by omega) (fun Sz' hz' => Exists.intro (N + 2) ?_) (N + 1) 0 _ (by omega) (by omega) (fun n hn => by omega))
  have hz0 : zc N Sz' = 0 := by
    unfold zc
    have : sm (fun j => if Sz' j = 0 then 0 else 1) N = sm (fun _ => 0) N := sm_same N (fun j hj => by rw [hz' j hj]; rfl)
    rw [this]
    have := sm_le (g := fun _ => 0) (b := 0) N (fun j _ => Nat.le_refl 0)
    omega
  have := x_m29 hN hg hP1 hP0 (N + 2) 0 1 Sz' (fun _ => .leaf 0) (by omega) (by omega) (gr_M_0 (fun n hn h => h (hz' n hn))) (fun n hn h => absurd (hz' n hn) h) (fun _ => by omega) (Or.inl (by omega)) (by omega)
  rw [hz0] at this
  exact this
end
section
variable {yf_place yf_points yf_names yf_textEnd yf_made yf_entry yf_waiting yf_values yf_bound yf_cells yf_conses yf_lams yf_steps yf_atWork yf_end yf_writtenCount : Int32} {ya_kind ya_up ya_turn ya_depth ya_value ya_below ya_length ya_parameters ya_codes ya_codeCount ya_form ya_colour ya_same ya_one ya_two ya_todo ya_numbered ya_text ya_ofFunction ya_codeEnd ya_instance ya_token ya_env ya_tag ya_cellEnv ya_boundNext ya_step ya_boundNumber ya_boundTag ya_headTag ya_tailTag ya_number ya_boundValue ya_head ya_tail ya_written : Nat → Int32}
/-- Y's points: K, L, R as the graph has them -/
def yg_ok (N : Nat) (fo sa on tw : Nat → Int32) (K : Nat → Int32) (L R rt ds : Nat → Nat) : Prop :=
  (∀ n, n < N → gr_kd (K n) ∧ (K n = 5 → sa n = nI (L n) ∧ L n ≠ n) ∧ (K n ≠ 5 → sa n = nI n) ∧ (K n = 10 → fo n = -1) ∧ (K n ≠ 5 → K n ≠ 10 → fo n = K n) ∧
    (gr_lf (K n) → on n = nI (L n) ∧ L n < N) ∧ (gr_rg (K n) → tw n = nI (R n) ∧ R n < N) ∧ (n < 74 → K n = 10 ∨ K n = 5)) ∧ fo_is N K L rt ds (lk_ct K N)
theorem y_find2 {post : Int32 → Prop} {N : Nat} {K : Nat → Int32} {L R rt ds : Nat → Nat} (hN : N ≤ 900) (hg : yg_ok N ya_form ya_same ya_one ya_two K L R rt ds) :
    ∀ d n f, n < N → ds n = d → d < f → post (nI (rt n)) → wY_find_2 post yf_place yf_points yf_names yf_textEnd yf_made yf_entry yf_waiting yf_values yf_bound yf_cells yf_conses yf_lams yf_steps yf_atWork yf_end yf_writtenCount ya_kind ya_up ya_turn ya_depth ya_value ya_below ya_length ya_parameters ya_codes ya_codeCount ya_form ya_colour ya_same ya_one ya_two ya_todo ya_numbered ya_text ya_ofFunction ya_codeEnd ya_instance ya_token ya_env ya_tag ya_cellEnv ya_boundNext ya_step ya_boundNumber ya_boundTag ya_headTag ya_tailTag ya_number ya_boundValue ya_head ya_tail ya_written f (nI n) := by
  intro d
  induction d with
  | zero =>
    intro n f hn hd hf hp
    obtain ⟨f, rfl⟩ : ∃ g, f = g + 1 := ⟨f - 1, by omega⟩
    have hk : ¬ K n = 5 := by intro z; have := ((hg.2 n hn).2.2.2.1 z).2.2; omega
    have hr := ((hg.2 n hn).2.2.1 hk).1
    rw [hr] at hp
    refine And.intro (pk_in n 900 (by omega)) ?_
    rw [nI_clamp (n := n) (by omega)]
    exact br_t ((hg.1 n hn).2.2.1 hk) hp
  | succ d ih =>
    intro n f hn hd hf hp
    obtain ⟨f, rfl⟩ : ∃ g, f = g + 1 := ⟨f - 1, by omega⟩
    have hk : K n = 5 := Classical.byContradiction (fun z => by have := ((hg.2 n hn).2.2.1 z).2; omega)
    obtain ⟨e1, e2, e3⟩ := (hg.2 n hn).2.2.2.1 hk
    obtain ⟨el, en⟩ := (hg.1 n hn).2.1 hk
    refine And.intro (pk_in n 900 (by omega)) ?_
    rw [nI_clamp (n := n) (by omega)]
    refine br_f (by rw [el, nI_eq (by omega) (by omega)]; exact en) (And.intro (pk_in n 900 (by omega)) (nm_r el ?_))
    exact ih (L n) f e1 (by omega) (by omega) (by rw [e2]; exact hp)
theorem y_find {post : Int32 → Prop} {N : Nat} {K : Nat → Int32} {L R rt ds : Nat → Nat} (hN : N ≤ 900) (hg : yg_ok N ya_form ya_same ya_one ya_two K L R rt ds) {n : Nat} (hn : n < N)
    (hp : post (nI (rt n))) : wpY_find post (yf_place, yf_points, yf_names, yf_textEnd, yf_made, yf_entry, yf_waiting, yf_values, yf_bound, yf_cells, yf_conses, yf_lams, yf_steps, yf_atWork, yf_end, yf_writtenCount, ya_kind, ya_up, ya_turn, ya_depth, ya_value, ya_below, ya_length, ya_parameters, ya_codes, ya_codeCount, ya_form, ya_colour, ya_same, ya_one, ya_two, ya_todo, ya_numbered, ya_text, ya_ofFunction, ya_codeEnd, ya_instance, ya_token, ya_env, ya_tag, ya_cellEnv, ya_boundNext, ya_step, ya_boundNumber, ya_boundTag, ya_headTag, ya_tailTag, ya_number, ya_boundValue, ya_head, ya_tail, ya_written) (nI n) := Exists.intro (ds n + 1) (y_find2 hN hg (ds n) n _ hn rfl (by omega) hp)
/-- roots that are no variables -/
def cc (K : Nat → Int32) (N : Nat) : Nat := sm (fun j => if K j = 10 ∨ K j = 5 then 0 else 1) N
theorem cc_dn {K : Nat → Int32} {N a : Nat} (ha : a < N) (hc : gr_cn (K a)) : cc (upd K a 5) N + 1 = cc K N := by
  have h := sm_one (g := fun j => if K j = 10 ∨ K j = 5 then 0 else 1) (g' := fun j => if upd K a 5 j = 10 ∨ upd K a 5 j = 5 then 0 else 1) (a := a) N ha (fun j _ hj => by simp only [pk_un hj])
  have h1 : ¬ (K a = 10 ∨ K a = 5) := by
    rintro (z | z) <;> (rw [z] at hc; rcases hc with q | q | q | q | q <;> exact absurd q (by decide))
  simp only [pk_us, if_neg h1, or_true, if_true] at h
  unfold cc; omega
theorem cc_eq {K : Nat → Int32} {N a : Nat} (hv : K a = 10) : cc (upd K a 5) N = cc K N := by
  unfold cc
  apply sm_same
  intro j _
  by_cases z : j = a
  · subst z; simp only [pk_us, hv, or_true, true_or, if_true]
  · simp only [pk_un z]
theorem cn_0 {k : Int32} (h : gr_cn k) : 0 ≤ k := by rcases h with h | h | h | h | h <;> (rw [h]; decide)
theorem cn_1 {k : Int32} (h : gr_cn k) : k ≤ 1 ↔ ¬ gr_lf k := by
  rcases h with h | h | h | h | h <;> (rw [h]; unfold gr_lf; decide)
theorem cn_v {k : Int32} (h : gr_cn k) : k ≠ 10 ∧ k ≠ 5 := by rcases h with h | h | h | h | h <;> (rw [h]; decide)
/-- the pairs that wait -/
def td_ok (N q : Nat) (td : Nat → Int32) (EL ER : Nat → Nat) : Prop := ∀ i, i < q → td (2 * i + 1) = nI (EL i) ∧ EL i < N ∧ td (2 * i) = nI (ER i) ∧ ER i < N
theorem td_up {N q : Nat} {td : Nat → Int32} {EL ER : Nat → Nat} {a b : Nat} (h : td_ok N q td EL ER) (ha : a < N) (hb : b < N) :
    td_ok N (q + 1) (upd (upd td (2 * q) (nI b)) (2 * q + 1) (nI a)) (updN EL q a) (updN ER q b) := by
  intro i hi
  by_cases z : i = q
  · subst z; rw [pk_us, pk_un (by omega), pk_us, uN_s, uN_s]; exact ⟨rfl, ha, rfl, hb⟩
  · rw [pk_un (by omega), pk_un (by omega), pk_un (by omega), pk_un (by omega), uN_n z, uN_n z]; exact h i (by omega)
theorem yg_link {N : Nat} {fo sa on tw : Nat → Int32} {K : Nat → Int32} {L R rt ds : Nat → Nat} {a b : Nat} (hg : yg_ok N fo sa on tw K L R rt ds) (ha : a < N) (hb : b < N) (hab : a ≠ b) (ra : K a ≠ 5) (rb : K b ≠ 5) :
    ∃ rt' ds', yg_ok N fo (upd sa a (nI b)) on tw (upd K a 5) (updN L a b) R rt' ds' ∧ lk_ct (upd K a 5) N = lk_ct K N + 1 := by
  have hl : lk_ct (upd K a 5) N = lk_ct K N + 1 := lk_up ra pk_us N ha (fun j _ hj => pk_un hj)
  refine ⟨fun n => if rt n = a then b else rt n, fun n => if rt n = a then ds n + 1 else ds n, ⟨fun n hn => ?_, ?_⟩, hl⟩
  · by_cases z : n = a
    · subst z
      rw [pk_us, pk_us, uN_s]
      refine ⟨Or.inr (Or.inr (Or.inr (Or.inr (Or.inr (Or.inl rfl))))), fun _ => ⟨rfl, Ne.symm hab⟩, fun h => absurd rfl h, fun h => absurd h (by decide), fun h => absurd rfl h, fun h => ?_, fun h => ?_, fun _ => Or.inr rfl⟩
      · rcases h with h | h | h <;> exact absurd h (by decide)
      · rcases h with h | h <;> exact absurd h (by decide)
    · rw [pk_un z, pk_un z, uN_n z]; exact hg.1 n hn
  · rw [hl]
    exact fo_join hg.2 ha hb hab ra rb pk_us uN_s (fun j _ hj => pk_un hj) (fun j _ hj => uN_n hj)
theorem y_join18 {post : Int32 → SY → Prop} {N : Nat} {R : Nat → Nat} {S0 : (Nat → mt_T) → Prop} (hN : N ≤ 900)
    (hP1 : ∀ sa' td' K' L' rt' ds', yg_ok N ya_form sa' ya_one ya_two K' L' R rt' ds' → (∀ r, S0 r ↔ gr_sat N K' L' R r) → post 1 (yf_place, yf_points, yf_names, yf_textEnd, yf_made, yf_entry, yf_waiting, yf_values, yf_bound, yf_cells, yf_conses, yf_lams, yf_steps, yf_atWork, yf_end, yf_writtenCount, ya_kind, ya_up, ya_turn, ya_depth, ya_value, ya_below, ya_length, ya_parameters, ya_codes, ya_codeCount, ya_form, ya_colour, sa', ya_one, ya_two, td', ya_numbered, ya_text, ya_ofFunction, ya_codeEnd, ya_instance, ya_token, ya_env, ya_tag, ya_cellEnv, ya_boundNext, ya_step, ya_boundNumber, ya_boundTag, ya_headTag, ya_tailTag, ya_number, ya_boundValue, ya_head, ya_tail, ya_written))
    (hP0 : ∀ sa' td', (∀ r, ¬ S0 r) → post 0 (yf_place, yf_points, yf_names, yf_textEnd, yf_made, yf_entry, yf_waiting, yf_values, yf_bound, yf_cells, yf_conses, yf_lams, yf_steps, yf_atWork, yf_end, yf_writtenCount, ya_kind, ya_up, ya_turn, ya_depth, ya_value, ya_below, ya_length, ya_parameters, ya_codes, ya_codeCount, ya_form, ya_colour, sa', ya_one, ya_two, td', ya_numbered, ya_text, ya_ofFunction, ya_codeEnd, ya_instance, ya_token, ya_env, ya_tag, ya_cellEnv, ya_boundNext, ya_step, ya_boundNumber, ya_boundTag, ya_headTag, ya_tailTag, ya_number, ya_boundValue, ya_head, ya_tail, ya_written)) :
    ∀ μ f q sa td K L rt ds EL ER, yg_ok N ya_form sa ya_one ya_two K L R rt ds → q + cc K N ≤ 749 → td_ok N q td EL ER → (∀ r, S0 r ↔ gr_sat N K L R r ∧ eq_all q EL ER r) →
      q + 3 * (N - lk_ct K N) ≤ μ → μ < f → wY_join_18 post yf_place yf_points yf_names yf_textEnd yf_made yf_entry yf_waiting yf_values yf_bound yf_cells yf_conses yf_lams yf_steps yf_atWork yf_end yf_writtenCount f (nI (2 * q)) ya_kind ya_up ya_turn ya_depth ya_value ya_below ya_length ya_parameters ya_codes ya_codeCount ya_form ya_colour sa ya_one ya_two td ya_numbered ya_text ya_ofFunction ya_codeEnd ya_instance ya_token ya_env ya_tag ya_cellEnv ya_boundNext ya_step ya_boundNumber ya_boundTag ya_headTag ya_tailTag ya_number ya_boundValue ya_head ya_tail ya_written := by
  intro μ
  induction μ with
  | zero =>
    intro f q sa td K L rt ds EL ER hg hE hq hS hμ hf
    obtain ⟨f, rfl⟩ : ∃ g, f = g + 1 := ⟨f - 1, by omega⟩
    have e0 : q = 0 := by omega
    subst e0
    exact br_t (by decide) (hP1 sa td K L rt ds hg (fun r => (hS r).trans ⟨fun h => h.1, fun h => ⟨h, fun i hi => by omega⟩⟩))
  | succ μ ih =>
    intro f q sa td K L rt ds EL ER hg hE hq hS hμ hf
    obtain ⟨f, rfl⟩ : ∃ g, f = g + 1 := ⟨f - 1, by omega⟩
    by_cases e0 : q = 0
    · subst e0
      exact br_t (by decide) (hP1 sa td K L rt ds hg (fun r => (hS r).trans ⟨fun h => h.1, fun h => ⟨h, fun i hi => by omega⟩⟩))
    obtain ⟨q, rfl⟩ : ∃ g, q = g + 1 := ⟨q - 1, by omega⟩
    obtain ⟨q1, q2, q3, q4⟩ := hq q (by omega)
    have hl0 := lk_le K N
    have hlt : lk_ct K N < N := lk_lt (hg.2 (EL q) q2).2.1 N (hg.2 (EL q) q2).1
    refine br_f (nI_nle (by omega) (by omega)) (nm_r (e' := nI (2 * q + 1)) (pk_m1 (2 * q + 1)) (And.intro (pk_in (2 * q + 1) 1500 (by omega)) ?_))
    rw [nI_clamp (n := 2 * q + 1) (by omega), q1]
    refine y_find hN hg q2 (nm_r (e' := nI (2 * q)) (pk_m1 (2 * q)) (And.intro (pk_in (2 * q) 1500 (by omega)) ?_))
    rw [nI_clamp (n := 2 * q) (by omega), q3]
    refine y_find hN hg q4 ?_
    obtain ⟨a1, a2, _, _, _⟩ := hg.2 (EL q) q2
    obtain ⟨b1, b2, _, _, _⟩ := hg.2 (ER q) q4
    have hq' : td_ok N q td EL ER := fun i hi => hq i (by omega)
    have key : ∀ r, gr_sat N K L R r ∧ eq_all (q + 1) EL ER r ↔ eq_all q EL ER r ∧ r (rt (EL q)) = r (rt (ER q)) ∧ gr_sat N K L R r := by
      intro r
      rw [eq_lowa]
      refine ⟨fun h => ⟨h.2.1, ?_, h.1⟩, fun h => ⟨h.2.2, h.1, ?_⟩⟩
      · rw [← fo_eq hg.2 h.1 _ (EL q) q2 rfl, ← fo_eq hg.2 h.1 _ (ER q) q4 rfl]; exact h.2.2
      · rw [fo_eq hg.2 h.2.2 _ (EL q) q2 rfl, fo_eq hg.2 h.2.2 _ (ER q) q4 rfl]; exact h.2.1
    refine pk_eq (rt (EL q)) (rt (ER q)) (fun heq => ?_) (fun hne => ?_)
    · refine ih f q sa td K L rt ds EL ER hg (by omega) hq' (fun r => (hS r).trans ?_) (by omega) (by omega)
      rw [key]
      exact ⟨fun h => ⟨h.2.2, h.1⟩, fun h => ⟨h.2, by rw [heq], h.1⟩⟩
    generalize rt (EL q) = x at *
    generalize rt (ER q) = y at *
    have cx : (nI x).toNatClampNeg = x := nI_clamp (by omega)
    have cy : (nI y).toNatClampNeg = y := nI_clamp (by omega)
    obtain ⟨kdx, _, _, kvx, kcx, klx, krx, _⟩ := hg.1 x a1
    obtain ⟨kdy, _, _, kvy, kcy, kly, kry, _⟩ := hg.1 y b1
    refine And.intro (pk_in x 900 (by omega)) ?_
    rw [cx, cy]
    by_cases vx : K x = 10
    · obtain ⟨rt', ds', hg', hl'⟩ := yg_link hg a1 b1 hne a2 b2
      refine br_f (by rw [kvx vx]; decide) (And.intro (pk_in x 900 (by omega)) (nm_r (e' := upd sa x (nI y)) (by rw [nr_s (by omega)]) ?_))
      refine ih f q _ td _ _ rt' ds' EL ER hg' (by rw [cc_eq vx]; omega) hq' (fun r => (hS r).trans ?_) (by omega) (by omega)
      rw [key, gr_join_v (K := K) (L := L) (R := R) (R' := R) a1 pk_us uN_s (fun j _ hj => pk_un hj) (fun j _ hj => uN_n hj) (fun _ _ _ => rfl) vx]
      exact ⟨fun h => ⟨h.2, h.1⟩, fun h => ⟨h.2, h.1⟩⟩
    have cnx := kd_cn kdx a2 vx
    have fx := kcx a2 vx
    obtain ⟨rt', ds', hg', hl'⟩ := yg_link hg b1 a1 (Ne.symm hne) b2 a2
    refine br_t (by rw [fx]; exact cn_0 cnx) (And.intro (pk_in y 900 (by omega)) (nm_r (e' := upd sa y (nI x)) (by rw [nr_s (by omega)]) (And.intro (pk_in y 900 (by omega)) ?_)))
    by_cases vy : K y = 10
    · refine br_f (by rw [kvy vy]; decide) ?_
      refine ih f q _ td _ _ rt' ds' EL ER hg' (by rw [cc_eq vy]; omega) hq' (fun r => (hS r).trans ?_) (by omega) (by omega)
      rw [key, gr_join_v (K := K) (L := L) (R := R) (R' := R) b1 pk_us uN_s (fun j _ hj => pk_un hj) (fun j _ hj => uN_n hj) (fun _ _ _ => rfl) vy]
      exact ⟨fun h => ⟨⟨h.2.1.symm, h.2.2⟩, h.1⟩, fun h => ⟨h.2, h.1.1.symm, h.1.2⟩⟩
    have cny := kd_cn kdy b2 vy
    have fy := kcy b2 vy
    refine br_t (by rw [fy]; exact cn_0 cny) (And.intro (pk_in x 900 (by omega)) (And.intro (pk_in y 900 (by omega)) ?_))
    rw [fx, fy]
    refine br_c (fun hk => And.intro (pk_in x 900 (by omega)) ?_) (fun hk => hP0 _ td (fun r z => gr_clash a1 b1 cnx cny hk ((hS r).mp z).1 ((key r).mp ((hS r).mp z)).2.1))
    have hcd := cc_dn b1 cny
    have tail : ∀ q' td' EL' ER', q' ≤ q + 2 → td_ok N q' td' EL' ER' →
        (∀ r, eq_all q' EL' ER' r ↔ eq_all q EL ER r ∧ (gr_lf (K y) → r (L y) = r (L x)) ∧ (gr_rg (K y) → r (R y) = r (R x))) →
        wY_join_18 post yf_place yf_points yf_names yf_textEnd yf_made yf_entry yf_waiting yf_values yf_bound yf_cells yf_conses yf_lams yf_steps yf_atWork yf_end yf_writtenCount f (nI (2 * q')) ya_kind ya_up ya_turn ya_depth ya_value ya_below ya_length ya_parameters ya_codes ya_codeCount ya_form ya_colour (upd sa y (nI x)) ya_one ya_two td' ya_numbered ya_text ya_ofFunction ya_codeEnd ya_instance ya_token ya_env ya_tag ya_cellEnv ya_boundNext ya_step ya_boundNumber ya_boundTag ya_headTag ya_tailTag ya_number ya_boundValue ya_head ya_tail ya_written := by
      intro q' td' EL' ER' hq2 htd hr
      refine ih f q' _ td' _ _ rt' ds' EL' ER' hg' (by omega) htd (fun r => (hS r).trans ?_) (by omega) (by omega)
      have hj := gr_join_c (r := r) (K := K) (L := L) (R := R) (R' := R) b1 a1 (Ne.symm hne) pk_us uN_s (fun j _ hj => pk_un hj) (fun j _ hj => uN_n hj) (fun _ _ _ => rfl) cny hk.symm
      rw [key, hr r]
      constructor
      · intro h
        have h' := hj.mpr ⟨h.2.1.symm, h.2.2⟩
        exact ⟨h'.1, h.1, h'.2⟩
      · intro h
        have h' := hj.mp ⟨h.1, h.2.2⟩
        exact ⟨h.2.1, h'.1.symm, h'.2⟩
    have hrk : gr_rg (K y) → gr_lf (K y) := fun z => Or.inr z
    by_cases hl : gr_lf (K x)
    · obtain ⟨l1, l2⟩ := klx hl
      obtain ⟨l1', l2'⟩ := kly (hk ▸ hl)
      refine br_f (fun z => (cn_1 cnx).mp z hl) (nm_r (nI_1 (2 * q)) (And.intro (pk_in x 900 (by omega)) (And.intro (pk_in (2 * q) 1500 (by omega)) (nm_r (e' := upd td (2 * q) (nI (L x))) (by rw [l1, nr_s0 (by omega)]) (nm_r (e' := nI (2 * (q + 1))) (nI_1 (2 * q + 1)) (And.intro (pk_in y 900 (by omega)) (And.intro (pk_in (2 * q + 1) 1500 (by omega)) (nm_r (e' := upd (upd td (2 * q) (nI (L x))) (2 * q + 1) (nI (L y))) (by rw [nI_clamp (n := 2 * q + 1) (by omega), l1', nr_s0 (by omega)]) ?_))))))))
      have ht1 := td_up hq' l2' l2
      by_cases hr : gr_rg (K x)
      · obtain ⟨r1, r2⟩ := krx hr
        obtain ⟨r1', r2'⟩ := kry (hk ▸ hr)
        have go : wY_join_192 post (wY_join_18 post yf_place yf_points yf_names yf_textEnd yf_made yf_entry yf_waiting yf_values yf_bound yf_cells yf_conses yf_lams yf_steps yf_atWork yf_end yf_writtenCount f) (nI (2 * (q + 1))) (nI x) (nI y) yf_place yf_points yf_names yf_textEnd yf_made yf_entry yf_waiting yf_values yf_bound yf_cells yf_conses yf_lams yf_steps yf_atWork yf_end yf_writtenCount ya_kind ya_up ya_turn ya_depth ya_value ya_below ya_length ya_parameters ya_codes ya_codeCount ya_form ya_colour (upd sa y (nI x)) ya_one ya_two (upd (upd td (2 * q) (nI (L x))) (2 * q + 1) (nI (L y))) ya_numbered ya_text ya_ofFunction ya_codeEnd ya_instance ya_token ya_env ya_tag ya_cellEnv ya_boundNext ya_step ya_boundNumber ya_boundTag ya_headTag ya_tailTag ya_number ya_boundValue ya_head ya_tail ya_written := by
          refine nm_r (nI_1 (2 * (q + 1))) (And.intro (pk_in x 900 (by omega)) (And.intro (pk_in (2 * (q + 1)) 1500 (by omega)) (nm_r (e' := upd (upd (upd td (2 * q) (nI (L x))) (2 * q + 1) (nI (L y))) (2 * (q + 1)) (nI (R x))) (by rw [nI_clamp (n := 2 * (q + 1)) (by omega), cx, r1, nr_s0 (by omega)]) (nm_r (e' := nI (2 * (q + 2))) (nI_1 (2 * (q + 1) + 1)) (And.intro (pk_in y 900 (by omega)) (And.intro (pk_in (2 * (q + 1) + 1) 1500 (by omega)) (nm_r (e' := upd (upd (upd (upd td (2 * q) (nI (L x))) (2 * q + 1) (nI (L y))) (2 * (q + 1)) (nI (R x))) (2 * (q + 1) + 1) (nI (R y))) (by rw [nI_clamp (n := 2 * (q + 1) + 1) (by omega), cy, r1', nr_s0 (by omega)]) ?_)))))))
          refine tail (q + 2) _ _ _ (by omega) (td_up ht1 r2' r2) (fun r => ?_)
          rw [eq_upa, eq_upa]
          exact ⟨fun ⟨⟨p, s⟩, t⟩ => ⟨p, fun _ => s, fun _ => t⟩, fun ⟨p, s, t⟩ => ⟨⟨p, s (hk ▸ hl)⟩, t (hk ▸ hr)⟩⟩
        refine And.intro (pk_in x 900 (by omega)) ?_
        rw [cx, fx]
        exact br_c (fun _ => go) (fun h2 => And.intro (pk_in x 900 (by omega)) (br_t (hr.elim (fun z => absurd z h2) id) go))
      · have go := tail (q + 1) _ _ _ (by omega) ht1 (fun r => by
          rw [eq_upa]
          exact ⟨fun ⟨p, s⟩ => ⟨p, fun _ => s, fun z => absurd (hk ▸ z) hr⟩, fun ⟨p, s, _⟩ => ⟨p, s (hk ▸ hl)⟩⟩)
        refine And.intro (pk_in x 900 (by omega)) ?_
        rw [cx, fx]
        exact br_f (fun z => hr (Or.inl z)) (And.intro (pk_in x 900 (by omega)) (br_f (fun z => hr (Or.inr z)) go))
    · have go := tail q td EL ER (by omega) hq' (fun r => ⟨fun p => ⟨p, fun z => absurd (hk ▸ z) hl, fun z => absurd (hk ▸ hrk z) hl⟩, fun p => p.1⟩)
      refine br_t ((cn_1 cnx).mpr hl) (And.intro (pk_in x 900 (by omega)) ?_)
      rw [cx, fx]
      exact br_f (fun z => hl (Or.inr (Or.inl z))) (And.intro (pk_in x 900 (by omega)) (br_f (fun z => hl (Or.inr (Or.inr z))) go))
theorem y_join {post : Int32 → SY → Prop} {N a b : Nat} {K : Nat → Int32} {L R rt ds : Nat → Nat} {S0 : (Nat → mt_T) → Prop} (hN : N ≤ 800) (hc : cc K N ≤ 740) (ha : a < N) (hb : b < N)
    (hg : yg_ok N ya_form ya_same ya_one ya_two K L R rt ds) (hS : ∀ r, S0 r ↔ gr_sat N K L R r ∧ r a = r b)
    (hP1 : ∀ sa' td' K' L' rt' ds', yg_ok N ya_form sa' ya_one ya_two K' L' R rt' ds' → (∀ r, S0 r ↔ gr_sat N K' L' R r) → post 1 (yf_place, yf_points, yf_names, yf_textEnd, yf_made, yf_entry, yf_waiting, yf_values, yf_bound, yf_cells, yf_conses, yf_lams, yf_steps, yf_atWork, yf_end, yf_writtenCount, ya_kind, ya_up, ya_turn, ya_depth, ya_value, ya_below, ya_length, ya_parameters, ya_codes, ya_codeCount, ya_form, ya_colour, sa', ya_one, ya_two, td', ya_numbered, ya_text, ya_ofFunction, ya_codeEnd, ya_instance, ya_token, ya_env, ya_tag, ya_cellEnv, ya_boundNext, ya_step, ya_boundNumber, ya_boundTag, ya_headTag, ya_tailTag, ya_number, ya_boundValue, ya_head, ya_tail, ya_written))
    (hP0 : ∀ sa' td', (∀ r, ¬ S0 r) → post 0 (yf_place, yf_points, yf_names, yf_textEnd, yf_made, yf_entry, yf_waiting, yf_values, yf_bound, yf_cells, yf_conses, yf_lams, yf_steps, yf_atWork, yf_end, yf_writtenCount, ya_kind, ya_up, ya_turn, ya_depth, ya_value, ya_below, ya_length, ya_parameters, ya_codes, ya_codeCount, ya_form, ya_colour, sa', ya_one, ya_two, td', ya_numbered, ya_text, ya_ofFunction, ya_codeEnd, ya_instance, ya_token, ya_env, ya_tag, ya_cellEnv, ya_boundNext, ya_step, ya_boundNumber, ya_boundTag, ya_headTag, ya_tailTag, ya_number, ya_boundValue, ya_head, ya_tail, ya_written)) : wpY_join post (yf_place, yf_points, yf_names, yf_textEnd, yf_made, yf_entry, yf_waiting, yf_values, yf_bound, yf_cells, yf_conses, yf_lams, yf_steps, yf_atWork, yf_end, yf_writtenCount, ya_kind, ya_up, ya_turn, ya_depth, ya_value, ya_below, ya_length, ya_parameters, ya_codes, ya_codeCount, ya_form, ya_colour, ya_same, ya_one, ya_two, ya_todo, ya_numbered, ya_text, ya_ofFunction, ya_codeEnd, ya_instance, ya_token, ya_env, ya_tag, ya_cellEnv, ya_boundNext, ya_step, ya_boundNumber, ya_boundTag, ya_headTag, ya_tailTag, ya_number, ya_boundValue, ya_head, ya_tail, ya_written) (nI a) (nI b) := by
  refine nm_r (e' := upd ya_todo 0 (nI a)) (by rw [nr_s (by omega)]) (nm_r (e' := upd (upd ya_todo 0 (nI a)) 1 (nI b)) (by rw [nr_s (by omega)]) (Exists.intro 5000 ?_))
  refine y_join18 (by omega) hP1 hP0 4999 5000 1 ya_same _ K L rt ds (fun _ => b) (fun _ => a) hg (by omega) ?_ (fun r => (hS r).trans ?_) (by omega) (by omega)
  · intro i hi
    have : i = 0 := by omega
    subst this
    refine ⟨pk_us, hb, ?_, ha⟩
    show upd (upd ya_todo 0 (nI a)) 1 (nI b) 0 = nI a
    rw [pk_un (by omega), pk_us]
  · refine and_congr_right (fun _ => ⟨fun h i _ => h.symm, fun h => (h 0 (by omega)).symm⟩)
end
section
/-- the walk through the roots: cN colours, S the stack -/
def fi_ct (cN : Nat → Nat) (N : Nat) : Nat := sm (fun n => if cN n = 1 ∨ cN n = 2 then 1 else 0) N
def fi_ok (N : Nat) (K : Nat → Int32) (L R : Nat → Nat) (cN S : Nat → Nat) (top : Nat) : Prop :=
  (∀ n, n < N → cN n ≤ 3 ∧ (K n = 5 → cN n = 0)) ∧
  (∀ i, i < top → S i < N ∧ K (S i) ≠ 5 ∧ (∀ j, j < i → S j ≠ S i) ∧
    (i + 1 < top → (cN (S i) = 1 ∧ gr_lf (K (S i)) ∧ S (i + 1) = L (S i)) ∨ (cN (S i) = 2 ∧ gr_rg (K (S i)) ∧ S (i + 1) = R (S i) ∧ cN (L (S i)) = 3)) ∧
    (i + 1 = top → cN (S i) ≤ 2 ∧ (1 ≤ cN (S i) → gr_lf (K (S i)) → cN (L (S i)) = 3) ∧ (cN (S i) = 2 → gr_rg (K (S i)) ∧ cN (R (S i)) = 3))) ∧
  (∀ n, n < N → cN n = 1 ∨ cN n = 2 → ∃ i, i < top ∧ S i = n) ∧
  ((top = fi_ct cN N ∧ ∀ i, i + 1 = top → cN (S i) ≠ 0) ∨ (top = fi_ct cN N + 1 ∧ ∀ i, i + 1 = top → cN (S i) = 0))
theorem fi_le (cN : Nat → Nat) (N : Nat) : fi_ct cN N ≤ N := by
  have := sm_le (g := fun n => if cN n = 1 ∨ cN n = 2 then 1 else 0) (b := 1) N (fun j _ => by split <;> omega)
  unfold fi_ct; omega
def fi_w (cN : Nat → Nat) (N : Nat) : Nat := sm (fun n => 3 - cN n) N
theorem fi_w_le (cN : Nat → Nat) (N : Nat) : fi_w cN N ≤ N * 3 := sm_le N (fun j _ => by omega)
theorem fi_w_dn {cN : Nat → Nat} {N x v : Nat} (hx : x < N) (h : cN x < v) (h3 : v ≤ 3) : fi_w (updN cN x v) N < fi_w cN N := by
  have h1 := sm_one (g := fun n => 3 - cN n) (g' := fun n => 3 - updN cN x v n) (a := x) N hx (fun j _ hj => by simp only [uN_n hj])
  simp only [uN_s] at h1
  unfold fi_w; omega
theorem fi_ct_01 {cN : Nat → Nat} {N x : Nat} (hx : x < N) (h : cN x = 0) : fi_ct (updN cN x 1) N = fi_ct cN N + 1 := by
  have h1 := sm_one (g := fun n => if cN n = 1 ∨ cN n = 2 then 1 else 0) (g' := fun n => if updN cN x 1 n = 1 ∨ updN cN x 1 n = 2 then 1 else 0) (a := x) N hx (fun j _ hj => by simp only [uN_n hj])
  have e1 : ¬ (cN x = 1 ∨ cN x = 2) := by omega
  simp only [uN_s, true_or, if_true, if_neg e1] at h1
  unfold fi_ct; omega
theorem fi_ct_12 {cN : Nat → Nat} {N x : Nat} (hx : x < N) (h : cN x = 1) : fi_ct (updN cN x 2) N = fi_ct cN N := by
  have h1 := sm_one (g := fun n => if cN n = 1 ∨ cN n = 2 then 1 else 0) (g' := fun n => if updN cN x 2 n = 1 ∨ updN cN x 2 n = 2 then 1 else 0) (a := x) N hx (fun j _ hj => by simp only [uN_n hj])
  have e1 : (cN x = 1 ∨ cN x = 2) := by omega
  simp only [uN_s, or_true, if_true, if_pos e1] at h1
  unfold fi_ct; omega
theorem fi_ct_3 {cN : Nat → Nat} {N x : Nat} (hx : x < N) (h : cN x = 1 ∨ cN x = 2) : fi_ct (updN cN x 3) N + 1 = fi_ct cN N := by
  have h1 := sm_one (g := fun n => if cN n = 1 ∨ cN n = 2 then 1 else 0) (g' := fun n => if updN cN x 3 n = 1 ∨ updN cN x 3 n = 2 then 1 else 0) (a := x) N hx (fun j _ hj => by simp only [uN_n hj])
  have e1 : ¬ ((3 : Nat) = 1 ∨ (3 : Nat) = 2) := by omega
  simp only [uN_s, if_pos h, if_neg e1] at h1
  unfold fi_ct; omega
/-- the top is done -/
theorem fi_done {N : Nat} {K : Nat → Int32} {L R cN S : Nat → Nat} {t : Nat} (h : fi_ok N K L R cN S (t + 1)) (hc : cN (S t) = 1 ∧ ¬ gr_rg (K (S t)) ∨ cN (S t) = 2) : fi_ok N K L R (updN cN (S t) 3) S t := by
  obtain ⟨h1, h2, h3, h4⟩ := h
  obtain ⟨x1, x2, x3, _, x5⟩ := h2 t (by omega)
  have hne : ∀ i, i < t → S i ≠ S t := fun i hi => x3 i hi
  have keep3 : ∀ n, cN n = 3 → updN cN (S t) 3 n = 3 := by
    intro n hn
    by_cases z : n = S t
    · subst z; exact uN_s
    · rw [uN_n z]; exact hn
  refine ⟨fun n hn => ?_, fun i hi => ?_, fun n hn hcn => ?_, ?_⟩
  · by_cases z : n = S t
    · subst z; rw [uN_s]; exact ⟨by omega, fun q => absurd q x2⟩
    · rw [uN_n z]; exact h1 n hn
  · obtain ⟨y1, y2, y3, y4, y5⟩ := h2 i (by omega)
    rw [uN_n (hne i hi)]
    refine ⟨y1, y2, y3, fun hlt => ?_, fun he => ?_⟩
    · rcases y4 (by omega) with ⟨a, b, c⟩ | ⟨a, b, c, d⟩
      · exact Or.inl ⟨a, b, c⟩
      · exact Or.inr ⟨a, b, c, keep3 _ d⟩
    · rcases y4 (by omega) with ⟨a, b, c⟩ | ⟨a, b, c, d⟩
      · refine ⟨by omega, fun _ _ => ?_, fun q => by omega⟩
        rw [← c, he]; exact uN_s
      · refine ⟨by omega, fun _ _ => keep3 _ d, fun _ => ⟨b, ?_⟩⟩
        rw [← c, he]; exact uN_s
  · have z : n ≠ S t := by intro z; subst z; rw [uN_s] at hcn; omega
    rw [uN_n z] at hcn
    obtain ⟨i, hi, e⟩ := h3 n hn hcn
    refine ⟨i, ?_, e⟩
    by_cases q : i = t
    · subst q; exact absurd e.symm z
    · omega
  · have hcount := fi_ct_3 x1 (cN := cN) (by omega)
    left
    have hnz : cN (S t) ≠ 0 := by omega
    rcases h4 with ⟨a, _⟩ | ⟨_, b⟩
    · refine ⟨by omega, fun i hi => ?_⟩
      rw [uN_n (hne i (by omega))]
      rcases (h2 i (by omega)).2.2.2.1 (by omega) with ⟨q, _⟩ | ⟨q, _⟩ <;> omega
    · exact absurd (b t rfl) hnz
/-- the top's colour goes up by one; nothing is pushed -/
theorem fi_stay {N : Nat} {K : Nat → Int32} {L R cN S : Nat → Nat} {t v : Nat} (h : fi_ok N K L R cN S (t + 1)) (hv : cN (S t) = 0 ∧ v = 1 ∧ (gr_lf (K (S t)) → cN (L (S t)) = 3) ∨ cN (S t) = 1 ∧ v = 2 ∧ gr_rg (K (S t)) ∧ cN (R (S t)) = 3) :
    fi_ok N K L R (updN cN (S t) v) S (t + 1) := by
  obtain ⟨h1, h2, h3, h4⟩ := h
  obtain ⟨x1, x2, x3, _, x5⟩ := h2 t (by omega)
  have hne : ∀ i, i < t → S i ≠ S t := fun i hi => x3 i hi
  have keep3 : ∀ n, cN n = 3 → updN cN (S t) v n = 3 := by
    intro n hn
    rw [uN_n (by intro z; subst z; omega)]; exact hn
  have hv3 : v ≤ 3 := by omega
  refine ⟨fun n hn => ?_, fun i hi => ?_, fun n hn hcn => ?_, ?_⟩
  · by_cases z : n = S t
    · subst z; rw [uN_s]; exact ⟨hv3, fun q => absurd q x2⟩
    · rw [uN_n z]; exact h1 n hn
  · obtain ⟨y1, y2, y3, y4, y5⟩ := h2 i hi
    by_cases q : i = t
    · subst q
      rw [uN_s]
      refine ⟨y1, y2, y3, fun hlt => by omega, fun _ => ?_⟩
      rcases hv with ⟨a, b, c⟩ | ⟨a, b, c, d⟩
      · exact ⟨by omega, fun _ hl => keep3 _ (c hl), fun z => by omega⟩
      · exact ⟨by omega, fun _ hl => keep3 _ ((y5 rfl).2.1 (by omega) hl), fun _ => ⟨c, keep3 _ d⟩⟩
    · rw [uN_n (hne i (by omega))]
      refine ⟨y1, y2, y3, fun hlt => ?_, fun he => by omega⟩
      rcases y4 (by omega) with ⟨a, b, c⟩ | ⟨a, b, c, d⟩
      · exact Or.inl ⟨a, b, c⟩
      · exact Or.inr ⟨a, b, c, keep3 _ d⟩
  · by_cases z : n = S t
    · exact ⟨t, by omega, z.symm⟩
    · rw [uN_n z] at hcn
      exact h3 n hn hcn
  · left
    refine ⟨?_, fun i hi => by have : i = t := by omega
                               subst this; rw [uN_s]; omega⟩
    rcases hv with ⟨a, b, _⟩ | ⟨a, b, _⟩
    · subst b
      rw [fi_ct_01 x1 a]
      rcases h4 with ⟨_, q⟩ | ⟨q, _⟩
      · exact absurd a (q t rfl)
      · exact q
    · subst b
      rw [fi_ct_12 x1 a]
      rcases h4 with ⟨q, _⟩ | ⟨_, q⟩
      · exact q
      · have := q t rfl; omega
/-- the top's colour goes up by one, and its child c is pushed -/
theorem fi_push {N : Nat} {K : Nat → Int32} {L R cN S : Nat → Nat} {t v c : Nat} (h : fi_ok N K L R cN S (t + 1)) (hcN : c < N) (hc5 : K c ≠ 5) (hc0 : cN c = 0) (hcx : c ≠ S t)
    (hv : cN (S t) = 0 ∧ v = 1 ∧ gr_lf (K (S t)) ∧ c = L (S t) ∨ cN (S t) = 1 ∧ v = 2 ∧ gr_rg (K (S t)) ∧ c = R (S t)) :
    fi_ok N K L R (updN cN (S t) v) (updN S (t + 1) c) (t + 1 + 1) := by
  obtain ⟨h1, h2, h3, h4⟩ := h
  obtain ⟨x1, x2, x3, _, x5⟩ := h2 t (by omega)
  have hne : ∀ i, i < t → S i ≠ S t := fun i hi => x3 i hi
  have keep3 : ∀ n, cN n = 3 → updN cN (S t) v n = 3 := by
    intro n hn
    rw [uN_n (by intro z; subst z; omega)]; exact hn
  have hv3 : v ≤ 3 := by omega
  have hSl : ∀ i, i < t + 1 → updN S (t + 1) c i = S i := fun i hi => uN_n (by omega)
  have hSc : updN S (t + 1) c (t + 1) = c := uN_s
  have hcS : ∀ i, i < t + 1 → S i ≠ c := by
    intro i hi e
    by_cases q : i = t
    · subst q; exact hcx e.symm
    · have := (h2 i hi).2.2.2.1 (by omega)
      rw [e] at this
      omega
  refine ⟨fun n hn => ?_, fun i hi => ?_, fun n hn hcn => ?_, ?_⟩
  · by_cases z : n = S t
    · subst z; rw [uN_s]; exact ⟨hv3, fun q => absurd q x2⟩
    · rw [uN_n z]; exact h1 n hn
  · by_cases q1 : i = t + 1
    · subst q1
      rw [hSc]
      refine ⟨hcN, hc5, fun j hj => by rw [hSl j hj]; exact hcS j hj, fun q => by omega, fun _ => ?_⟩
      rw [uN_n hcx, hc0]
      exact ⟨by omega, fun z => by omega, fun z => by omega⟩
    · have hi' : i < t + 1 := by omega
      obtain ⟨y1, y2, y3, y4, y5⟩ := h2 i hi'
      rw [hSl i hi']
      refine ⟨y1, y2, fun j hj => by rw [hSl j (by omega)]; exact y3 j hj, fun _ => ?_, fun z => by omega⟩
      by_cases q : i = t
      · subst q
        rw [hSc, uN_s]
        rcases hv with ⟨a, b, d, e⟩ | ⟨a, b, d, e⟩
        · exact Or.inl ⟨b, d, e⟩
        · exact Or.inr ⟨b, d, e, keep3 _ ((y5 rfl).2.1 (by omega) (Or.inr d))⟩
      · rw [uN_n (hne i (by omega)), hSl (i + 1) (by omega)]
        rcases y4 (by omega) with ⟨a, b, d⟩ | ⟨a, b, d, e⟩
        · exact Or.inl ⟨a, b, d⟩
        · exact Or.inr ⟨a, b, d, keep3 _ e⟩
  · by_cases z : n = S t
    · exact ⟨t, by omega, by rw [hSl t (by omega)]; exact z.symm⟩
    · rw [uN_n z] at hcn
      obtain ⟨i, hi, e⟩ := h3 n hn hcn
      exact ⟨i, by omega, by rw [hSl i hi]; exact e⟩
  · right
    refine ⟨?_, fun i hi => by have : i = t + 1 := by omega
                               subst this; rw [hSc, uN_n hcx]; exact hc0⟩
    rcases hv with ⟨a, b, _⟩ | ⟨a, b, _⟩
    · subst b
      rw [fi_ct_01 x1 a]
      rcases h4 with ⟨_, q⟩ | ⟨q, _⟩
      · exact absurd a (q t rfl)
      · omega
    · subst b
      rw [fi_ct_12 x1 a]
      rcases h4 with ⟨q, _⟩ | ⟨_, q⟩
      · omega
      · have := q t rfl; omega
/-- a child that is on the stack: no solution -/
theorem fi_cyc {N : Nat} {K : Nat → Int32} {L R cN S : Nat → Nat} {t c : Nat} (h : fi_ok N K L R cN S (t + 1)) (hcN : c < N) (hc : cN c = 1 ∨ cN c = 2 ∨ c = S t) (hch : gr_ch K L R (S t) c) {r : Nat → mt_T} (hr : gr_sat N K L R r) : False := by
  obtain ⟨h1, h2, h3, _⟩ := h
  have hdn : ∀ d i, i + d = t → mt_sz (r (S t)) ≤ mt_sz (r (S i)) := by
    intro d
    induction d with
    | zero => intro i hi; have : i = t := by omega
              subst this; exact Nat.le_refl _
    | succ d ih =>
      intro i hi
      have h4 := ih (i + 1) (by omega)
      obtain ⟨y1, y2, _, y4, _⟩ := h2 i (by omega)
      have hcc : gr_ch K L R (S i) (S (i + 1)) := by
        rcases y4 (by omega) with ⟨_, b, e⟩ | ⟨_, b, e, _⟩
        · exact Or.inl ⟨Or.inr b, e⟩
        · exact Or.inr ⟨b, e⟩
      rcases gr_fall hr y1 hcc with ⟨z, _⟩ | ⟨_, z⟩
      · exact absurd z y2
      · omega
  have hx := h2 t (by omega)
  have hlt : mt_sz (r c) < mt_sz (r (S t)) := by
    rcases gr_fall hr hx.1 hch with ⟨z, _⟩ | ⟨_, z⟩
    · exact absurd z hx.2.1
    · exact z
  have hon : ∃ i, i < t + 1 ∧ S i = c := by
    rcases hc with q | q | q
    · exact h3 c hcN (Or.inl q)
    · exact h3 c hcN (Or.inr q)
    · exact ⟨t, by omega, q.symm⟩
  obtain ⟨i, hi, e⟩ := hon
  have := hdn (t - i) i (by omega)
  rw [e] at this
  omega
end
section
variable {yf_place yf_points yf_names yf_textEnd yf_made yf_entry yf_waiting yf_values yf_bound yf_cells yf_conses yf_lams yf_steps yf_atWork yf_end yf_writtenCount : Int32} {ya_kind ya_up ya_turn ya_depth ya_value ya_below ya_length ya_parameters ya_codes ya_codeCount ya_form ya_colour ya_same ya_one ya_two ya_todo ya_numbered ya_text ya_ofFunction ya_codeEnd ya_instance ya_token ya_env ya_tag ya_cellEnv ya_boundNext ya_step ya_boundNumber ya_boundTag ya_headTag ya_tailTag ya_number ya_boundValue ya_head ya_tail ya_written : Nat → Int32}
abbrev JY := Int32 → (Nat → Int32) → (Nat → Int32) → (Nat → Int32) → (Nat → Int32) → (Nat → Int32) → (Nat → Int32) → (Nat → Int32) → (Nat → Int32) → (Nat → Int32) → (Nat → Int32) → (Nat → Int32) → (Nat → Int32) → (Nat → Int32) → (Nat → Int32) → (Nat → Int32) → (Nat → Int32) → (Nat → Int32) → (Nat → Int32) → (Nat → Int32) → (Nat → Int32) → (Nat → Int32) → (Nat → Int32) → (Nat → Int32) → (Nat → Int32) → (Nat → Int32) → (Nat → Int32) → (Nat → Int32) → (Nat → Int32) → (Nat → Int32) → (Nat → Int32) → (Nat → Int32) → (Nat → Int32) → (Nat → Int32) → (Nat → Int32) → (Nat → Int32) → (Nat → Int32) → Prop
theorem y_f203 {post : Int32 → SY → Prop} {J25 J61 : JY} {x1 : Int32} {N top m : Nat} {K : Nat → Int32} {L R rt ds cN : Nat → Nat} (hN : N ≤ 900) (htop : top < 1500) (hg : yg_ok N ya_form ya_same ya_one ya_two K L R rt ds) (hm : m < N)
    (hC : ∀ n, n < N → ya_colour n = nI (cN n) ∧ cN n ≤ 3)
    (h12 : cN (rt m) = 1 ∨ cN (rt m) = 2 → post 0 (yf_place, yf_points, yf_names, yf_textEnd, yf_made, yf_entry, yf_waiting, yf_values, yf_bound, yf_cells, yf_conses, yf_lams, yf_steps, yf_atWork, yf_end, yf_writtenCount, ya_kind, ya_up, ya_turn, ya_depth, ya_value, ya_below, ya_length, ya_parameters, ya_codes, ya_codeCount, ya_form, ya_colour, ya_same, ya_one, ya_two, ya_todo, ya_numbered, ya_text, ya_ofFunction, ya_codeEnd, ya_instance, ya_token, ya_env, ya_tag, ya_cellEnv, ya_boundNext, ya_step, ya_boundNumber, ya_boundTag, ya_headTag, ya_tailTag, ya_number, ya_boundValue, ya_head, ya_tail, ya_written))
    (h0 : cN (rt m) = 0 → J61 (nI (top + 1)) ya_kind ya_up ya_turn ya_depth ya_value ya_below ya_length ya_parameters ya_codes ya_codeCount ya_form ya_colour ya_same ya_one ya_two (upd ya_todo top (nI (rt m))) ya_numbered ya_text ya_ofFunction ya_codeEnd ya_instance ya_token ya_env ya_tag ya_cellEnv ya_boundNext ya_step ya_boundNumber ya_boundTag ya_headTag ya_tailTag ya_number ya_boundValue ya_head ya_tail ya_written)
    (h3 : cN (rt m) = 3 → J61 (nI top) ya_kind ya_up ya_turn ya_depth ya_value ya_below ya_length ya_parameters ya_codes ya_codeCount ya_form ya_colour ya_same ya_one ya_two ya_todo ya_numbered ya_text ya_ofFunction ya_codeEnd ya_instance ya_token ya_env ya_tag ya_cellEnv ya_boundNext ya_step ya_boundNumber ya_boundTag ya_headTag ya_tailTag ya_number ya_boundValue ya_head ya_tail ya_written) : wY_finite_203 post J25 J61 x1 (nI top) (nI m) yf_place yf_points yf_names yf_textEnd yf_made yf_entry yf_waiting yf_values yf_bound yf_cells yf_conses yf_lams yf_steps yf_atWork yf_end yf_writtenCount ya_kind ya_up ya_turn ya_depth ya_value ya_below ya_length ya_parameters ya_codes ya_codeCount ya_form ya_colour ya_same ya_one ya_two ya_todo ya_numbered ya_text ya_ofFunction ya_codeEnd ya_instance ya_token ya_env ya_tag ya_cellEnv ya_boundNext ya_step ya_boundNumber ya_boundTag ya_headTag ya_tailTag ya_number ya_boundValue ya_head ya_tail ya_written := by
  obtain ⟨c1, _⟩ := hg.2 m hm
  obtain ⟨e1, e2⟩ := hC _ c1
  have cc : (nI (rt m)).toNatClampNeg = rt m := nI_clamp (by omega)
  refine y_find hN hg hm (And.intro (pk_in (rt m) 900 (by omega)) ?_)
  rw [cc, e1]
  refine pk_eq (cN (rt m)) 1 (fun z => h12 (Or.inl z)) (fun z1 => And.intro (pk_in (rt m) 900 (by omega)) (pk_eq (cN (rt m)) 2 (fun z => h12 (Or.inr z)) (fun z2 => And.intro (pk_in (rt m) 900 (by omega)) (pk_eq (cN (rt m)) 0 (fun z => ?_) (fun z => h3 (by omega))))))
  refine nm_r (nI_1 top) (And.intro (pk_in top 1500 htop) (nm_r (e' := upd ya_todo top (nI (rt m))) (by rw [nI_clamp (by omega), nr_s (by omega)]) (h0 z)))
theorem y_f61 {post : Int32 → SY → Prop} {J25 : JY} {x1 : Int32} {N r0 : Nat} {K : Nat → Int32} {L R rt ds : Nat → Nat} {Dn : Nat → Prop} (hN : N ≤ 900) (hg : yg_ok N ya_form ya_same ya_one ya_two K L R rt ds)
    (hJ : ∀ (C' T' : Nat → Int32) (cN' : Nat → Nat) (c' : Nat → mt_T), (∀ n, n < N → C' n = nI (cN' n)) → (∀ n, n < N → cN' n = 0 ∨ cN' n = 3) → (∀ n, n < N → K n = 5 → cN' n = 0) → gr_M N K (fun n => rt (L n)) (fun n => rt (R n)) (fun n => cN' n = 3) c' →
      (∀ n, Dn n → cN' n = 3) → cN' r0 = 3 → J25 (x1 + 1) ya_kind ya_up ya_turn ya_depth ya_value ya_below ya_length ya_parameters ya_codes ya_codeCount ya_form C' ya_same ya_one ya_two T' ya_numbered ya_text ya_ofFunction ya_codeEnd ya_instance ya_token ya_env ya_tag ya_cellEnv ya_boundNext ya_step ya_boundNumber ya_boundTag ya_headTag ya_tailTag ya_number ya_boundValue ya_head ya_tail ya_written)
    (hP0 : ∀ C' T', (∀ r, ¬ gr_sat N K L R r) → post 0 (yf_place, (nI N), yf_names, yf_textEnd, yf_made, yf_entry, yf_waiting, yf_values, yf_bound, yf_cells, yf_conses, yf_lams, yf_steps, yf_atWork, yf_end, yf_writtenCount, ya_kind, ya_up, ya_turn, ya_depth, ya_value, ya_below, ya_length, ya_parameters, ya_codes, ya_codeCount, ya_form, C', ya_same, ya_one, ya_two, T', ya_numbered, ya_text, ya_ofFunction, ya_codeEnd, ya_instance, ya_token, ya_env, ya_tag, ya_cellEnv, ya_boundNext, ya_step, ya_boundNumber, ya_boundTag, ya_headTag, ya_tailTag, ya_number, ya_boundValue, ya_head, ya_tail, ya_written)) :
    ∀ (f top : Nat) (C T : Nat → Int32) (cN S : Nat → Nat) (c : Nat → mt_T), fi_ok N K (fun n => rt (L n)) (fun n => rt (R n)) cN S top → (∀ n, n < N → C n = nI (cN n)) → (∀ i, i < top → T i = nI (S i)) →
      gr_M N K (fun n => rt (L n)) (fun n => rt (R n)) (fun n => cN n = 3) c → (∀ n, Dn n → cN n = 3) → (cN r0 = 3 ∨ 0 < top ∧ S 0 = r0) → fi_w cN N < f →
      wY_finite_61 post J25 x1 yf_place (nI N) yf_names yf_textEnd yf_made yf_entry yf_waiting yf_values yf_bound yf_cells yf_conses yf_lams yf_steps yf_atWork yf_end yf_writtenCount f (nI top) ya_kind ya_up ya_turn ya_depth ya_value ya_below ya_length ya_parameters ya_codes ya_codeCount ya_form C ya_same ya_one ya_two T ya_numbered ya_text ya_ofFunction ya_codeEnd ya_instance ya_token ya_env ya_tag ya_cellEnv ya_boundNext ya_step ya_boundNumber ya_boundTag ya_headTag ya_tailTag ya_number ya_boundValue ya_head ya_tail ya_written := by
  have hlow : ∀ n, n < N → gr_lf (K n) → L n < N := fun n hn h => ((hg.1 n hn).2.2.2.2.2.1 h).2
  have hrow : ∀ n, n < N → gr_rg (K n) → R n < N := fun n hn h => ((hg.1 n hn).2.2.2.2.2.2.1 h).2
  intro f
  induction f with
  | zero => intro top C T cN S c _ _ _ _ _ _ h; omega
  | succ f ih =>
    intro top C T cN S c hF hC hT hM hD h0 hw
    by_cases t0 : top = 0
    · subst t0
      refine br_t (by decide) (nm_e (hJ C T cN c hC (fun n hn => ?_) (fun n hn h5 => (hF.1 n hn).2 h5) hM hD (h0.elim id (fun z => by omega))))
      have h3 := (hF.1 n hn).1
      have h4 : ¬ (cN n = 1 ∨ cN n = 2) := fun z => by obtain ⟨i, hi, _⟩ := hF.2.2.1 n hn z; omega
      omega
    obtain ⟨t, rfl⟩ : ∃ t, top = t + 1 := ⟨top - 1, by omega⟩
    obtain ⟨x1', x2, x3, _, x5⟩ := hF.2.1 t (by omega)
    obtain ⟨v2, vl, vr⟩ := x5 rfl
    have htop : t + 1 ≤ N + 1 := by have := fi_le cN N; rcases hF.2.2.2 with ⟨q, _⟩ | ⟨q, _⟩ <;> omega
    have hTt := hT t (by omega)
    have hCx := hC (S t) x1'
    have cx : (nI (S t)).toNatClampNeg = S t := nI_clamp (by omega)
    obtain ⟨kd, _, _, kv, kc, kl, kr, _⟩ := hg.1 (S t) x1'
    refine br_f (nI_nle (by omega) (by omega)) ?_
    rw [nI_pred]
    refine And.intro (pk_in t 1500 (by omega)) (nm_r (e' := nI (S t)) (by rw [nI_clamp (by omega)]; exact hTt) (And.intro (pk_in (S t) 900 (by omega)) (And.intro (pk_in (S t) 900 (by omega)) (nm_r (e' := upd C (S t) (nI (cN (S t) + 1))) (by rw [cx, hCx, nI_1, nr_b (by omega)]) (nm_r (e' := nI (cN (S t))) (by rw [cx]; exact hCx) ?_)))))
    have hC' : ∀ v, ∀ n, n < N → upd C (S t) (nI v) n = nI (updN cN (S t) v n) := by
      intro v n hn
      by_cases z : n = S t
      · subst z; rw [pk_us, uN_s]
      · rw [pk_un z, uN_n z]; exact hC n hn
    have h3k : ∀ v, v ≤ 2 → (fun n => updN cN (S t) v n = 3) = (fun n => cN n = 3) := by
      intro v hv
      funext n
      by_cases z : n = S t
      · subst z; rw [uN_s]; apply propext; constructor <;> intro h <;> omega
      · rw [uN_n z]
    have hDk : ∀ v, ∀ n, Dn n → v ≤ 3 → updN cN (S t) v n = 3 ∨ n = S t := by
      intro v n hn _
      by_cases z : n = S t
      · exact Or.inr z
      · left; rw [uN_n z]; exact hD n hn
    have hDx : ¬ Dn (S t) := fun z => by have := hD _ z; omega
    have hr0 : S 0 = r0 ∨ cN r0 = 3 := by
      rcases h0 with z | ⟨_, z⟩
      · exact Or.inr z
      · exact Or.inl z
    -- the top is done
    have done : ∀ C1, (∀ n, n < N → C1 n = nI (updN cN (S t) 3 n)) → (cN (S t) = 1 ∧ ¬ gr_rg (K (S t)) ∨ cN (S t) = 2) →
        wY_finite_61 post J25 x1 yf_place (nI N) yf_names yf_textEnd yf_made yf_entry yf_waiting yf_values yf_bound yf_cells yf_conses yf_lams yf_steps yf_atWork yf_end yf_writtenCount f (nI t) ya_kind ya_up ya_turn ya_depth ya_value ya_below ya_length ya_parameters ya_codes ya_codeCount ya_form C1 ya_same ya_one ya_two T ya_numbered ya_text ya_ofFunction ya_codeEnd ya_instance ya_token ya_env ya_tag ya_cellEnv ya_boundNext ya_step ya_boundNumber ya_boundTag ya_headTag ya_tailTag ya_number ya_boundValue ya_head ya_tail ya_written := by
      intro C1 hC1 hv
      have hst := gr_M_step hM (n := S t) x1' (by omega) (by
        intro m hm
        rcases hm with ⟨z | z, rfl⟩ | ⟨z, rfl⟩
        · exact absurd z x2
        · exact ⟨(hg.2 _ (hlow _ x1' z)).1, vl (by omega) z⟩
        · refine ⟨(hg.2 _ (hrow _ x1' z)).1, ?_⟩
          rcases hv with ⟨_, q⟩ | q
          · exact absurd z q
          · exact (vr q).2) kd
      have e3 : (fun n => updN cN (S t) 3 n = 3) = (fun j => cN j = 3 ∨ j = S t) := by
        funext n
        apply propext
        by_cases z : n = S t
        · subst z; rw [uN_s]; exact ⟨fun _ => Or.inr rfl, fun _ => rfl⟩
        · rw [uN_n z]; exact ⟨fun h => Or.inl h, fun h => h.elim id (fun q => absurd q z)⟩
      refine ih t C1 T (updN cN (S t) 3) S _ (fi_done hF hv) hC1 (fun i hi => hT i (by omega)) (by rw [e3]; exact hst) (fun n hn => ?_) ?_ ?_
      · rcases hDk 3 n hn (by omega) with z | z
        · exact z
        · rw [z]; exact uN_s
      · rcases hr0 with z | z
        · by_cases q : t = 0
          · subst q; left; rw [← z]; exact uN_s
          · exact Or.inr ⟨by omega, z⟩
        · left
          by_cases q : r0 = S t
          · rw [q]; exact uN_s
          · rw [uN_n q]; exact z
      · have := fi_w_dn (cN := cN) (N := N) (v := 3) x1' (by omega) (by omega); omega
    -- nothing pushed
    have stay : ∀ v, v = cN (S t) + 1 → (cN (S t) = 0 ∧ v = 1 ∧ (gr_lf (K (S t)) → cN (rt (L (S t))) = 3) ∨ cN (S t) = 1 ∧ v = 2 ∧ gr_rg (K (S t)) ∧ cN (rt (R (S t))) = 3) →
        wY_finite_61 post J25 x1 yf_place (nI N) yf_names yf_textEnd yf_made yf_entry yf_waiting yf_values yf_bound yf_cells yf_conses yf_lams yf_steps yf_atWork yf_end yf_writtenCount f (nI (t + 1)) ya_kind ya_up ya_turn ya_depth ya_value ya_below ya_length ya_parameters ya_codes ya_codeCount ya_form (upd C (S t) (nI (cN (S t) + 1))) ya_same ya_one ya_two T ya_numbered ya_text ya_ofFunction ya_codeEnd ya_instance ya_token ya_env ya_tag ya_cellEnv ya_boundNext ya_step ya_boundNumber ya_boundTag ya_headTag ya_tailTag ya_number ya_boundValue ya_head ya_tail ya_written := by
      intro v hv1 hv
      rw [← hv1]
      refine ih (t + 1) _ T (updN cN (S t) v) S c (fi_stay hF hv) (hC' v) hT (by rw [h3k v (by omega)]; exact hM) (fun n hn => ?_) ?_ ?_
      · exact (hDk v n hn (by omega)).elim id (fun z => absurd (z ▸ hn) hDx)
      · rcases hr0 with z | z
        · exact Or.inr ⟨by omega, z⟩
        · left; rw [uN_n (by intro q; rw [q] at z; omega)]; exact z
      · have := fi_w_dn (cN := cN) (N := N) (v := v) x1' (by omega) (by omega); omega
    -- a child
    have child : ∀ m v, v = cN (S t) + 1 → m < N → (cN (S t) = 0 ∧ v = 1 ∧ gr_lf (K (S t)) ∧ m = L (S t) ∨ cN (S t) = 1 ∧ v = 2 ∧ gr_rg (K (S t)) ∧ m = R (S t)) →
        wY_finite_203 post J25 (wY_finite_61 post J25 x1 yf_place (nI N) yf_names yf_textEnd yf_made yf_entry yf_waiting yf_values yf_bound yf_cells yf_conses yf_lams yf_steps yf_atWork yf_end yf_writtenCount f) x1 (nI (t + 1)) (nI m) yf_place (nI N) yf_names yf_textEnd yf_made yf_entry yf_waiting yf_values yf_bound yf_cells yf_conses yf_lams yf_steps yf_atWork yf_end yf_writtenCount ya_kind ya_up ya_turn ya_depth ya_value ya_below ya_length ya_parameters ya_codes ya_codeCount ya_form (upd C (S t) (nI (cN (S t) + 1))) ya_same ya_one ya_two T ya_numbered ya_text ya_ofFunction ya_codeEnd ya_instance ya_token ya_env ya_tag ya_cellEnv ya_boundNext ya_step ya_boundNumber ya_boundTag ya_headTag ya_tailTag ya_number ya_boundValue ya_head ya_tail ya_written := by
      intro m v hv1 hm hv
      obtain ⟨m1, m2, _⟩ := hg.2 m hm
      have hch : gr_ch K (fun n => rt (L n)) (fun n => rt (R n)) (S t) (rt m) := by
        rcases hv with ⟨_, _, a, rfl⟩ | ⟨_, _, a, rfl⟩
        · exact Or.inl ⟨Or.inr a, rfl⟩
        · exact Or.inr ⟨a, rfl⟩
      refine y_f203 (cN := updN cN (S t) v) hN (by omega) hg hm (fun n hn => ⟨by rw [← hv1]; exact hC' v n hn, ?_⟩) (fun h12 => ?_) (fun hz => ?_) (fun hz => ?_)
      · by_cases z : n = S t
        · subst z; rw [uN_s]; omega
        · rw [uN_n z]; exact (hF.1 n hn).1
      · refine hP0 _ _ (fun r hr => ?_)
        refine fi_cyc hF m1 ?_ hch ((gr_comp hg.2 hlow hrow r).mpr hr)
        by_cases z : rt m = S t
        · exact Or.inr (Or.inr z)
        · rw [uN_n z] at h12; exact h12.elim (fun q => Or.inl q) (fun q => Or.inr (Or.inl q))
      · have hcx : rt m ≠ S t := by intro z; rw [z, uN_s] at hz; omega
        rw [uN_n hcx] at hz
        have hF' := fi_push (v := v) (c := rt m) hF m1 m2 hz hcx (by
          rcases hv with ⟨a, b, d, rfl⟩ | ⟨a, b, d, rfl⟩
          · exact Or.inl ⟨a, b, d, rfl⟩
          · exact Or.inr ⟨a, b, d, rfl⟩)
        rw [← hv1]
        refine ih (t + 1 + 1) _ _ (updN cN (S t) v) _ c hF' (hC' v) (fun i hi => ?_) (by rw [h3k v (by omega)]; exact hM) (fun n hn => ?_) ?_ ?_
        · by_cases z : i = t + 1
          · subst z; rw [pk_us, uN_s]
          · rw [pk_un z, uN_n z]; exact hT i (by omega)
        · exact (hDk v n hn (by omega)).elim id (fun z => absurd (z ▸ hn) hDx)
        · rcases hr0 with z | z
          · exact Or.inr ⟨by omega, by rw [uN_n (by omega)]; exact z⟩
          · left; rw [uN_n (by intro q; rw [q] at z; omega)]; exact z
        · have := fi_w_dn (cN := cN) (N := N) (v := v) x1' (by omega) (by omega); omega
      · refine stay v hv1 ?_
        rcases hv with ⟨a, b, d, e⟩ | ⟨a, b, d, e⟩
        · refine Or.inl ⟨a, b, fun _ => ?_⟩
          rw [← e]
          by_cases z : rt m = S t
          · rw [z, uN_s] at hz; omega
          · rw [uN_n z] at hz; exact hz
        · refine Or.inr ⟨a, b, d, ?_⟩
          rw [← e]
          by_cases z : rt m = S t
          · rw [z, uN_s] at hz; omega
          · rw [uN_n z] at hz; exact hz
    have up3 : upd (upd C (S t) (nI (cN (S t) + 1))) (S t) 3 = upd C (S t) (nI 3) := by
      funext n
      by_cases z : n = S t
      · subst z; rw [pk_us, pk_us]; rfl
      · rw [pk_un z, pk_un z, pk_un z]
    rw [cx]
    have hcase : cN (S t) = 0 ∨ cN (S t) = 1 ∨ cN (S t) = 2 := by omega
    rcases hcase with c0 | c1 | c2
    · -- colour 0
      rw [c0] at child stay ⊢
      refine br_t rfl (And.intro (pk_in (S t) 900 (by omega)) ?_)
      by_cases hl : gr_lf (K (S t))
      · have v10 : K (S t) ≠ 10 := by intro z; rw [z] at hl; rcases hl with q | q | q <;> exact absurd q (by decide)
        obtain ⟨l1, l2⟩ := kl hl
        have hf : (1 : Int32) < ya_form (S t) := by
          rw [kc x2 v10]; rcases hl with q | q | q <;> (rw [q]; decide)
        refine br_t hf ?_
        refine br_f (by decide) (br_f (by decide) (br_f (by decide) (br_t rfl (And.intro (pk_in (S t) 900 (by omega)) ?_))))
        rw [cx, l1]
        exact child (L (S t)) 1 rfl l2 (Or.inl ⟨rfl, rfl, hl, rfl⟩)
      · have hf : ¬ (1 : Int32) < ya_form (S t) := by
          by_cases v10 : K (S t) = 10
          · rw [kv v10]; decide
          · rw [kc x2 v10]
            have := (cn_1 (kd_cn kd x2 v10)).mpr hl
            exact Int32.not_lt.mpr this
        refine br_f hf (br_f (by decide) ?_)
        refine br_f (by decide) (br_t rfl (br_f (by decide) (br_t rfl ?_)))
        exact stay 1 rfl (Or.inl ⟨rfl, rfl, fun z => absurd z hl⟩)
    · -- colour 1
      rw [c1] at child stay up3 ⊢
      refine br_f (by decide) (br_t rfl (And.intro (pk_in (S t) 900 (by omega)) ?_))
      rw [cx]
      have fin : ¬ gr_rg (K (S t)) → wY_finite_138 post J25 (wY_finite_61 post J25 x1 yf_place (nI N) yf_names yf_textEnd yf_made yf_entry yf_waiting yf_values yf_bound yf_cells yf_conses yf_lams yf_steps yf_atWork yf_end yf_writtenCount f) x1 (nI (t + 1)) (nI (S t)) (nI 1) yf_place (nI N) yf_names yf_textEnd yf_made yf_entry yf_waiting yf_values yf_bound yf_cells yf_conses yf_lams yf_steps yf_atWork yf_end yf_writtenCount ya_kind ya_up ya_turn ya_depth ya_value ya_below ya_length ya_parameters ya_codes ya_codeCount ya_form (upd C (S t) (nI (1 + 1))) ya_same ya_one ya_two T ya_numbered ya_text ya_ofFunction ya_codeEnd ya_instance ya_token ya_env ya_tag ya_cellEnv ya_boundNext ya_step ya_boundNumber ya_boundTag ya_headTag ya_tailTag ya_number ya_boundValue ya_head ya_tail ya_written := by
        intro hr
        refine br_f (by decide) (br_t rfl (br_t rfl (And.intro (pk_in (S t) 900 (by omega)) (nm_r (e' := upd C (S t) (nI 3)) (by rw [cx]; exact up3) (nm_r (pk_m1 t) ?_)))))
        exact done _ (hC' 3) (Or.inl ⟨c1, hr⟩)
      have des : gr_rg (K (S t)) → wY_finite_134 post J25 (wY_finite_61 post J25 x1 yf_place (nI N) yf_names yf_textEnd yf_made yf_entry yf_waiting yf_values yf_bound yf_cells yf_conses yf_lams yf_steps yf_atWork yf_end yf_writtenCount f) x1 (nI (t + 1)) (nI (S t)) (nI 1) yf_place (nI N) yf_names yf_textEnd yf_made yf_entry yf_waiting yf_values yf_bound yf_cells yf_conses yf_lams yf_steps yf_atWork yf_end yf_writtenCount ya_kind ya_up ya_turn ya_depth ya_value ya_below ya_length ya_parameters ya_codes ya_codeCount ya_form (upd C (S t) (nI (1 + 1))) ya_same ya_one ya_two T ya_numbered ya_text ya_ofFunction ya_codeEnd ya_instance ya_token ya_env ya_tag ya_cellEnv ya_boundNext ya_step ya_boundNumber ya_boundTag ya_headTag ya_tailTag ya_number ya_boundValue ya_head ya_tail ya_written := by
        intro hr
        obtain ⟨r1, r2⟩ := kr hr
        refine br_f (by decide) (br_f (by decide) (br_f (by decide) (br_f (by decide) (And.intro (pk_in (S t) 900 (by omega)) ?_))))
        rw [cx, r1]
        exact child (R (S t)) 2 rfl r2 (Or.inr ⟨rfl, rfl, hr, rfl⟩)
      have hform : gr_rg (K (S t)) ↔ (ya_form (S t) = 2 ∨ ya_form (S t) = 4) := by
        by_cases v10 : K (S t) = 10
        · rw [v10, kv v10]; unfold gr_rg; decide
        · rw [kc x2 v10]; exact Iff.rfl
      refine br_c (fun z => des (hform.mpr (Or.inl z))) (fun z2 => And.intro (pk_in (S t) 900 (by omega)) (br_c (fun z => des (hform.mpr (Or.inr z))) (fun z4 => fin (fun q => (hform.mp q).elim z2 z4))))
    · -- colour 2
      rw [c2] at up3 ⊢
      refine br_f (by decide) (br_f (by decide) (br_t rfl (And.intro (pk_in (S t) 900 (by omega)) (nm_r (e' := upd C (S t) (nI 3)) (by rw [cx]; exact up3) (nm_r (pk_m1 t) ?_)))))
      exact done _ (hC' 3) (Or.inr c2)
end
section
variable {yf_place yf_points yf_names yf_textEnd yf_made yf_entry yf_waiting yf_values yf_bound yf_cells yf_conses yf_lams yf_steps yf_atWork yf_end yf_writtenCount : Int32} {ya_kind ya_up ya_turn ya_depth ya_value ya_below ya_length ya_parameters ya_codes ya_codeCount ya_form ya_colour ya_same ya_one ya_two ya_todo ya_numbered ya_text ya_ofFunction ya_codeEnd ya_instance ya_token ya_env ya_tag ya_cellEnv ya_boundNext ya_step ya_boundNumber ya_boundTag ya_headTag ya_tailTag ya_number ya_boundValue ya_head ya_tail ya_written : Nat → Int32}
theorem fi_ct0 {cN : Nat → Nat} {N : Nat} (h : ∀ n, n < N → cN n = 0 ∨ cN n = 3) : fi_ct cN N = 0 := by
  unfold fi_ct
  have : sm (fun n => if cN n = 1 ∨ cN n = 2 then 1 else 0) N = sm (fun _ => 0) N := sm_same N (fun j hj => by
    have := h j hj
    have e : ¬ (cN j = 1 ∨ cN j = 2) := by omega
    simp only [if_neg e])
  rw [this]
  have := sm_le (g := fun _ => 0) (b := 0) N (fun j _ => Nat.le_refl 0)
  omega
theorem y_f25 {post : Int32 → SY → Prop} {N : Nat} {K : Nat → Int32} {L R rt ds : Nat → Nat} (hN : N ≤ 900) (hg : yg_ok N ya_form ya_same ya_one ya_two K L R rt ds)
    (hP1 : ∀ (C' T' : Nat → Int32) (c : Nat → mt_T), mg_is N (gr_sat N K L R) c → (∀ n, n < N → K n = 10 → c n = .leaf (10 + n)) → post 1 (yf_place, (nI N), yf_names, yf_textEnd, yf_made, yf_entry, yf_waiting, yf_values, yf_bound, yf_cells, yf_conses, yf_lams, yf_steps, yf_atWork, yf_end, yf_writtenCount, ya_kind, ya_up, ya_turn, ya_depth, ya_value, ya_below, ya_length, ya_parameters, ya_codes, ya_codeCount, ya_form, C', ya_same, ya_one, ya_two, T', ya_numbered, ya_text, ya_ofFunction, ya_codeEnd, ya_instance, ya_token, ya_env, ya_tag, ya_cellEnv, ya_boundNext, ya_step, ya_boundNumber, ya_boundTag, ya_headTag, ya_tailTag, ya_number, ya_boundValue, ya_head, ya_tail, ya_written))
    (hP0 : ∀ C' T', (∀ r, ¬ gr_sat N K L R r) → post 0 (yf_place, (nI N), yf_names, yf_textEnd, yf_made, yf_entry, yf_waiting, yf_values, yf_bound, yf_cells, yf_conses, yf_lams, yf_steps, yf_atWork, yf_end, yf_writtenCount, ya_kind, ya_up, ya_turn, ya_depth, ya_value, ya_below, ya_length, ya_parameters, ya_codes, ya_codeCount, ya_form, C', ya_same, ya_one, ya_two, T', ya_numbered, ya_text, ya_ofFunction, ya_codeEnd, ya_instance, ya_token, ya_env, ya_tag, ya_cellEnv, ya_boundNext, ya_step, ya_boundNumber, ya_boundTag, ya_headTag, ya_tailTag, ya_number, ya_boundValue, ya_head, ya_tail, ya_written)) :
    ∀ (f i : Nat) (C T : Nat → Int32) (cN : Nat → Nat) (c : Nat → mt_T), N < f + i → i ≤ N → (∀ n, n < N → C n = nI (cN n)) → (∀ n, n < N → cN n = 0 ∨ cN n = 3) → (∀ n, n < N → K n = 5 → cN n = 0) →
      gr_M N K (fun n => rt (L n)) (fun n => rt (R n)) (fun n => cN n = 3) c → (∀ m, m < i → cN (rt m) = 3) →
      wY_finite_25 post yf_place (nI N) yf_names yf_textEnd yf_made yf_entry yf_waiting yf_values yf_bound yf_cells yf_conses yf_lams yf_steps yf_atWork yf_end yf_writtenCount f (nI i) ya_kind ya_up ya_turn ya_depth ya_value ya_below ya_length ya_parameters ya_codes ya_codeCount ya_form C ya_same ya_one ya_two T ya_numbered ya_text ya_ofFunction ya_codeEnd ya_instance ya_token ya_env ya_tag ya_cellEnv ya_boundNext ya_step ya_boundNumber ya_boundTag ya_headTag ya_tailTag ya_number ya_boundValue ya_head ya_tail ya_written := by
  have hlow : ∀ n, n < N → gr_lf (K n) → L n < N := fun n hn h => ((hg.1 n hn).2.2.2.2.2.1 h).2
  have hrow : ∀ n, n < N → gr_rg (K n) → R n < N := fun n hn h => ((hg.1 n hn).2.2.2.2.2.2.1 h).2
  intro f
  induction f with
  | zero => intro i C T cN c h1 h2; omega
  | succ f ih =>
    intro i C T cN c hf hi hC h03 h5 hM hD
    refine pk_le N i (fun h => ?_) (fun h => ?_)
    · have hroot : ∀ n, n < N → K n ≠ 5 → cN n = 3 := by
        intro n hn hk
        have := hD n (by omega)
        rw [((hg.2 n hn).2.2.1 hk).1] at this
        exact this
      obtain ⟨c', hc'⟩ := gr_M_links hM hroot (fun n hn hk => ⟨(hg.2 _ ((hg.2 n hn).2.2.2.1 hk).1).1, (hg.2 _ ((hg.2 n hn).2.2.2.1 hk).1).2.1⟩) N (Nat.le_refl _)
      have hmg := gr_M_mg hc' (fun n hn => Or.inr hn) (fun n hn => (hg.1 n hn).1)
      exact hP1 C T c' (mg_iff hmg (fun r => gr_comp hg.2 hlow hrow r)) (fun n hn hk => (hc'.2 n hn (Or.inr hn)).1 hk)
    · obtain ⟨r1, r2, _⟩ := hg.2 i h
      refine y_find hN hg h (And.intro (pk_in (rt i) 900 (by omega)) ?_)
      have cr : (nI (rt i)).toNatClampNeg = rt i := nI_clamp (by omega)
      rw [cr, hC _ r1]
      have next : ∀ (C' T' : Nat → Int32) (cN' : Nat → Nat) (c' : Nat → mt_T), (∀ n, n < N → C' n = nI (cN' n)) → (∀ n, n < N → cN' n = 0 ∨ cN' n = 3) → (∀ n, n < N → K n = 5 → cN' n = 0) →
          gr_M N K (fun n => rt (L n)) (fun n => rt (R n)) (fun n => cN' n = 3) c' → (∀ n, (∃ m, m < i ∧ rt m = n) → cN' n = 3) → cN' (rt i) = 3 →
          wY_finite_25 post yf_place (nI N) yf_names yf_textEnd yf_made yf_entry yf_waiting yf_values yf_bound yf_cells yf_conses yf_lams yf_steps yf_atWork yf_end yf_writtenCount f (nI i + 1) ya_kind ya_up ya_turn ya_depth ya_value ya_below ya_length ya_parameters ya_codes ya_codeCount ya_form C' ya_same ya_one ya_two T' ya_numbered ya_text ya_ofFunction ya_codeEnd ya_instance ya_token ya_env ya_tag ya_cellEnv ya_boundNext ya_step ya_boundNumber ya_boundTag ya_headTag ya_tailTag ya_number ya_boundValue ya_head ya_tail ya_written := by
        intro C' T' cN' c' q1 q2 q3 q4 q5 q6
        rw [nI_1]
        refine ih (i + 1) C' T' cN' c' (by omega) (by omega) q1 q2 q3 q4 (fun m hm => ?_)
        by_cases z : m = i
        · rw [z]; exact q6
        · exact q5 _ ⟨m, by omega, rfl⟩
      refine pk_eq (cN (rt i)) 0 (fun z => nm_r (e' := nI 1) rfl (nm_r (e' := upd T 0 (nI (rt i))) (by rw [nr_s (by omega)]) (Exists.intro (fi_w cN N + 1) ?_))) (fun z => Exists.intro (fi_w cN N + 1) ?_) rfl rfl (by have := h03 _ r1; omega) (by omega)
      · refine y_f61 (Dn := fun n => ∃ m, m < i ∧ rt m = n) (r0 := rt i) hN hg next hP0 _ 1 C _ cN (fun _ => rt i) c ⟨fun n hn => ⟨by have := h03 n hn; omega, h5 n hn⟩, fun j hj => ⟨r1, r2, fun j' hj' => by omega, fun q => by omega, fun _ => ?_⟩, fun n hn q => ?_, Or.inr ⟨by rw [fi_ct0 h03], fun _ _ => z⟩⟩ hC (fun j hj => ?_) hM ?_ (Or.inr ⟨by omega, rfl⟩) (by omega)
        · rw [z]; exact ⟨by omega, fun q => by omega, fun q => by omega⟩
        · have := h03 n hn; omega
        · have : j = 0 := by omega
          subst this; exact pk_us
        · rintro n ⟨m, hm, rfl⟩; exact hD m hm
      · have z3 : cN (rt i) = 3 := by have := h03 _ r1; omega
        refine y_f61 (Dn := fun n => ∃ m, m < i ∧ rt m = n) (r0 := rt i) hN hg next hP0 _ 0 C T cN (fun _ => rt i) c ⟨fun n hn => ⟨by have := h03 n hn; omega, h5 n hn⟩, fun j hj => by omega, fun n hn q => ?_, Or.inl ⟨by rw [fi_ct0 h03], fun j hj => by omega⟩⟩ hC (fun j hj => by omega) hM ?_ (Or.inl z3) (by omega)
        · have := h03 n hn; omega
        · rintro n ⟨m, hm, rfl⟩; exact hD m hm
theorem y_f2 {post : Int32 → SY → Prop} {N : Nat} (hN : N ≤ 900)
    (hP : ∀ C', (∀ n, n < N → C' n = 0) → ∃ n25, wY_finite_25 post yf_place (nI N) yf_names yf_textEnd yf_made yf_entry yf_waiting yf_values yf_bound yf_cells yf_conses yf_lams yf_steps yf_atWork yf_end yf_writtenCount n25 0 ya_kind ya_up ya_turn ya_depth ya_value ya_below ya_length ya_parameters ya_codes ya_codeCount ya_form C' ya_same ya_one ya_two ya_todo ya_numbered ya_text ya_ofFunction ya_codeEnd ya_instance ya_token ya_env ya_tag ya_cellEnv ya_boundNext ya_step ya_boundNumber ya_boundTag ya_headTag ya_tailTag ya_number ya_boundValue ya_head ya_tail ya_written) :
    ∀ f i C, i ≤ N → N < f + i → (∀ n, n < i → C n = 0) → wY_finite_2 post yf_place (nI N) yf_names yf_textEnd yf_made yf_entry yf_waiting yf_values yf_bound yf_cells yf_conses yf_lams yf_steps yf_atWork yf_end yf_writtenCount f (nI i) ya_kind ya_up ya_turn ya_depth ya_value ya_below ya_length ya_parameters ya_codes ya_codeCount ya_form C ya_same ya_one ya_two ya_todo ya_numbered ya_text ya_ofFunction ya_codeEnd ya_instance ya_token ya_env ya_tag ya_cellEnv ya_boundNext ya_step ya_boundNumber ya_boundTag ya_headTag ya_tailTag ya_number ya_boundValue ya_head ya_tail ya_written := by
  intro f
  induction f with
  | zero => intro i C h1 h2; omega
  | succ f ih =>
    intro i C h1 h2 hz
    refine pk_le N i (fun h => hP C (fun n hn => hz n (by omega))) (fun h => And.intro (pk_in i 900 (by omega)) (nm_r (e' := upd C i 0) (by rw [nI_clamp (by omega)]; exact congrArg (upd C i) (nr_b0 (n := 0) (by omega))) (nm_r (nI_1 i) (ih (i + 1) _ (by omega) (by omega) (fun n hn => ?_)))))
    by_cases z : n = i
    · subst z; exact pk_us
    · rw [pk_un z]; exact hz n (by omega)
theorem y_finite {post : Int32 → SY → Prop} {N : Nat} {K : Nat → Int32} {L R rt ds : Nat → Nat} (hN : N ≤ 900) (hg : yg_ok N ya_form ya_same ya_one ya_two K L R rt ds)
    (hP1 : ∀ (C' T' : Nat → Int32) (c : Nat → mt_T), mg_is N (gr_sat N K L R) c → (∀ n, n < N → K n = 10 → c n = .leaf (10 + n)) → post 1 (yf_place, (nI N), yf_names, yf_textEnd, yf_made, yf_entry, yf_waiting, yf_values, yf_bound, yf_cells, yf_conses, yf_lams, yf_steps, yf_atWork, yf_end, yf_writtenCount, ya_kind, ya_up, ya_turn, ya_depth, ya_value, ya_below, ya_length, ya_parameters, ya_codes, ya_codeCount, ya_form, C', ya_same, ya_one, ya_two, T', ya_numbered, ya_text, ya_ofFunction, ya_codeEnd, ya_instance, ya_token, ya_env, ya_tag, ya_cellEnv, ya_boundNext, ya_step, ya_boundNumber, ya_boundTag, ya_headTag, ya_tailTag, ya_number, ya_boundValue, ya_head, ya_tail, ya_written))
    (hP0 : ∀ C' T', (∀ r, ¬ gr_sat N K L R r) → post 0 (yf_place, (nI N), yf_names, yf_textEnd, yf_made, yf_entry, yf_waiting, yf_values, yf_bound, yf_cells, yf_conses, yf_lams, yf_steps, yf_atWork, yf_end, yf_writtenCount, ya_kind, ya_up, ya_turn, ya_depth, ya_value, ya_below, ya_length, ya_parameters, ya_codes, ya_codeCount, ya_form, C', ya_same, ya_one, ya_two, T', ya_numbered, ya_text, ya_ofFunction, ya_codeEnd, ya_instance, ya_token, ya_env, ya_tag, ya_cellEnv, ya_boundNext, ya_step, ya_boundNumber, ya_boundTag, ya_headTag, ya_tailTag, ya_number, ya_boundValue, ya_head, ya_tail, ya_written)) : wpY_finite post (yf_place, (nI N), yf_names, yf_textEnd, yf_made, yf_entry, yf_waiting, yf_values, yf_bound, yf_cells, yf_conses, yf_lams, yf_steps, yf_atWork, yf_end, yf_writtenCount, ya_kind, ya_up, ya_turn, ya_depth, ya_value, ya_below, ya_length, ya_parameters, ya_codes, ya_codeCount, ya_form, ya_colour, ya_same, ya_one, ya_two, ya_todo, ya_numbered, ya_text, ya_ofFunction, ya_codeEnd, ya_instance, ya_token, ya_env, ya_tag, ya_cellEnv, ya_boundNext, ya_step, ya_boundNumber, ya_boundTag, ya_headTag, ya_tailTag, ya_number, ya_boundValue, ya_head, ya_tail, ya_written) := by
  refine Exists.intro (N + 1) (y_f2 hN (fun C' hz => Exists.intro (N + 1) ?_) (N + 1) 0 _ (by omega) (by omega) (fun n hn => by omega))
  exact y_f25 hN hg hP1 hP0 (N + 1) 0 C' _ (fun _ => 0) (fun _ => .leaf 0) (by omega) (by omega) (fun n hn => by rw [hz n hn]; rfl) (fun n hn => Or.inl rfl) (fun n hn _ => rfl)
    (gr_M_0 (fun n hn h => by omega)) (fun m hm => by omega)
end
section
variable {f_saidPlace f_instanceCount f_nodeCount f_equationCount f_stackCount f_wordCount f_depth f_cellCount f_consCount f_closureCount f_stepCount f_runAnswer f_writtenCount : Int32} {a_kinds a_values a_spans a_bounds a_binders a_lengths a_parameterCounts a_typeCodes a_typeLengths a_instanceFunctions a_nodeKinds a_nodeLefts a_nodeRights a_nodeSizes a_equationLefts a_equationRights a_stackLefts a_stackRights a_words a_boundWords a_cellFirsts a_cellSeconds a_closureTokens a_closureWords a_written : Nat → Int32}
theorem fo_new {N : Nat} {K K' : Nat → Int32} {L L' rt ds : Nat → Nat} {D : Nat} (h : fo_is N K L rt ds D) (hK : ∀ n, n < N → K' n = K n) (hL : ∀ n, n < N → L' n = L n) (hn : K' N ≠ 5) :
    fo_is (N + 1) K' L' (fun n => if n < N then rt n else n) (fun n => if n < N then ds n else 0) D := by
  intro n hnN
  by_cases z : n < N
  · obtain ⟨h1, h2, h3, h4, h5⟩ := h n z
    simp only [if_pos z]
    refine ⟨by omega, by rw [hK _ h1]; exact h2, fun hk => h3 (by rw [← hK n z]; exact hk), fun hk => ?_, h5⟩
    obtain ⟨e1, e2, e3⟩ := h4 (by rw [← hK n z]; exact hk)
    rw [hL n z]
    simp only [if_pos e1]
    exact ⟨by omega, e2, e3⟩
  · have e : n = N := by omega
    subst e
    simp only [if_neg z]
    exact ⟨by omega, hn, fun _ => ⟨by trivial, by trivial⟩, fun q => absurd q hn, by omega⟩
theorem lk_new {K K' : Nat → Int32} {N : Nat} (hK : ∀ n, n < N → K' n = K n) (hn : K' N ≠ 5) : lk_ct K' (N + 1) = lk_ct K N := by
  simp only [lk_ct]; rw [lk_same N hK, if_neg hn]; rfl
/-- a new node behind the others -/
theorem xg_new {N : Nat} {K nl nr : Nat → Int32} {L R rt ds : Nat → Nat} (hg : xg_ok N K nl nr L R rt ds) (c p1 p2 : Int32) (a b : Nat) (hc : gr_kd c) (h5 : c ≠ 5)
    (hl : gr_lf c → p1 = nI a ∧ a < N + 1) (hr : gr_rg c → p2 = nI b ∧ b < N + 1) (hv : c = 10 → p1 = -1) :
    ∃ rt' ds', xg_ok (N + 1) (upd K N c) (upd nl N p1) (upd nr N p2) (updN L N a) (updN R N b) rt' ds' ∧
      (∀ r, gr_sat (N + 1) (upd K N c) (updN L N a) (updN R N b) r ↔ gr_sat N K L R r ∧ (c = 10 ∨ r N = gr_at (fun _ => c) (fun _ => a) (fun _ => b) r 0)) := by
  have kN : ∀ n, n < N → upd K N c n = K n := fun n hn => pk_un (by omega)
  have lN' : ∀ n, n < N → updN L N a n = L n := fun n hn => uN_n (by omega)
  have rN' : ∀ n, n < N → updN R N b n = R n := fun n hn => uN_n (by omega)
  refine ⟨fun n => if n < N then rt n else n, fun n => if n < N then ds n else 0, ⟨fun n hn => ?_, ?_⟩, fun r => ?_⟩
  · by_cases z : n = N
    · subst z
      rw [pk_us, pk_us, pk_us, uN_s, uN_s]
      exact ⟨hc, fun q => q.elim (fun w => absurd w h5) hl, hr, hv⟩
    · have hn' : n < N := by omega
      rw [pk_un z, pk_un z, pk_un z, uN_n z, uN_n z]
      obtain ⟨a1, a2, a3, a4⟩ := hg.1 n hn'
      exact ⟨a1, fun q => ⟨(a2 q).1, by have := (a2 q).2; omega⟩, fun q => ⟨(a3 q).1, by have := (a3 q).2; omega⟩, a4⟩
  · rw [lk_new kN (by rw [pk_us]; exact h5)]
    exact fo_new hg.2 kN lN' (by rw [pk_us]; exact h5)
  · rw [gr_sat_ext (N := N) (K := K) (L := L) (R := R) (by omega) kN (fun n hn _ => lN' n hn) (fun n hn _ => rN' n hn)]
    refine and_congr_right (fun _ => ?_)
    have e : gr_at (upd K N c) (updN L N a) (updN R N b) r N = if c = 10 then r N else gr_at (fun _ => c) (fun _ => a) (fun _ => b) r 0 := by
      by_cases z : c = 10
      · rw [if_pos z, gr_at_v (by rw [pk_us]; exact z)]
      · rw [if_neg z]
        rcases kd_cn hc h5 z with q | q | q | q | q
        · rw [gr_at_0 (by rw [pk_us]; exact q), gr_at_0 (K := fun _ => c) q]
        · rw [gr_at_1 (by rw [pk_us]; exact q), gr_at_1 (K := fun _ => c) q]
        · rw [gr_at_2 (by rw [pk_us]; exact q), gr_at_2 (K := fun _ => c) q, uN_s, uN_s]
        · rw [gr_at_3 (by rw [pk_us]; exact q), gr_at_3 (K := fun _ => c) q, uN_s]
        · rw [gr_at_4 (by rw [pk_us]; exact q), gr_at_4 (K := fun _ => c) q, uN_s, uN_s]
    constructor
    · intro h
      have h1 := h N (Nat.le_refl _) (by omega)
      rw [e] at h1
      by_cases z : c = 10
      · exact Or.inl z
      · rw [if_neg z] at h1; exact Or.inr h1
    · intro h n h1 h2
      have : n = N := by omega
      subst this
      rw [e]
      by_cases z : c = 10
      · rw [if_pos z]
      · rw [if_neg z]; exact h.elim (fun q => absurd q z) id
theorem eq_mono {N M e : Nat} {el er : Nat → Int32} {EL ER : Nat → Nat} (h : eq_ok N e el er EL ER) (hM : N ≤ M) : eq_ok M e el er EL ER := by
  intro i hi
  obtain ⟨a, b, c, d⟩ := h i hi
  exact ⟨a, by omega, c, by omega⟩
end
section
variable {f_saidPlace f_instanceCount f_nodeCount f_equationCount f_stackCount f_wordCount f_depth f_cellCount f_consCount f_closureCount f_stepCount f_runAnswer f_writtenCount : Int32} {a_kinds a_values a_spans a_bounds a_binders a_lengths a_parameterCounts a_typeCodes a_typeLengths a_instanceFunctions a_nodeKinds a_nodeLefts a_nodeRights a_nodeSizes a_equationLefts a_equationRights a_stackLefts a_stackRights a_words a_boundWords a_cellFirsts a_cellSeconds a_closureTokens a_closureWords a_written : Nat → Int32}
theorem ix_24 (f t : Nat) : nI f * 24 + nI t = nI (f * 24 + t) := by rw [← nI_add]; exact congrArg (· + nI t) (pk_mul f 24)
theorem ix_42 (f t : Nat) : nI f * 42 + nI t = nI (f * 42 + t) := by rw [← nI_add]; exact congrArg (· + nI t) (pk_mul f 42)
theorem ix_2 (t : Nat) : 24 + 2 * nI t = nI (24 + 2 * t) := by
  have : (2 : Int32) * nI t = nI (2 * t) := pk_mul 2 t
  rw [this]; exact nI_add 24 (2 * t)
theorem ix_72 (k : Nat) : 72 + nI k = nI (72 + k) := nI_add 72 k
theorem ni_ne1 {a : Nat} (h : a < 2 ^ 31) : ¬ nI a = -1 := by
  intro e
  have : (nI a).toInt = (-1 : Int32).toInt := by rw [e]
  rw [nI_toInt h] at this
  have h2 : (-1 : Int32).toInt = -1 := by decide
  omega
/-- the solutions at hand: of the nodes below N and of e equations that wait -/
def A0 (N e : Nat) (K : Nat → Int32) (L R EL ER : Nat → Nat) (r : Nat → mt_T) : Prop := gr_sat N K L R r ∧ eq_all e EL ER r
/-- what is stated: from the nodes below N to those below N', with the equations -/
def st_ok (N e : Nat) (K : Nat → Int32) (L R EL ER : Nat → Nat) (N' e' : Nat) (K' : Nat → Int32) (L' R' EL' ER' : Nat → Nat) (rule : (Nat → mt_T) → Prop) : Prop :=
  (∀ r, (∀ n, mt_wf (r n)) → gr_sat N' K' L' R' r → eq_all e' EL' ER' r → A0 N e K L R EL ER r ∧ rule r) ∧
  (∀ r, (∀ n, mt_wf (r n)) → A0 N e K L R EL ER r → rule r → ∃ r', (∀ n, mt_wf (r' n)) ∧ (∀ n, n < N → r' n = r n) ∧ gr_sat N' K' L' R' r' ∧ eq_all e' EL' ER' r')
/-- the solutions after some nodes and equations -/
def cu_is (N' e' : Nat) (K' : Nat → Int32) (L' R' EL' ER' : Nat → Nat) (C : (Nat → mt_T) → Prop) : Prop := ∀ r, gr_sat N' K' L' R' r ∧ eq_all e' EL' ER' r ↔ C r
theorem cu_eq {N e : Nat} {K : Nat → Int32} {L R EL ER : Nat → Nat} {C : (Nat → mt_T) → Prop} {a b : Nat} (h : cu_is N e K L R EL ER C) : cu_is N (e + 1) K L R (updN EL e a) (updN ER e b) (fun r => C r ∧ r a = r b) := by
  intro r
  rw [eq_upa, ← and_assoc, h r]
theorem cu_new {N e : Nat} {K K' : Nat → Int32} {L R L' R' EL ER : Nat → Nat} {C D : (Nat → mt_T) → Prop} (h : cu_is N e K L R EL ER C) (hn : ∀ r, gr_sat (N + 1) K' L' R' r ↔ gr_sat N K L R r ∧ D r) :
    cu_is (N + 1) e K' L' R' EL ER (fun r => C r ∧ D r) := by
  intro r
  show _ ↔ C r ∧ D r
  rw [hn, ← h r]
  exact ⟨fun ⟨⟨a, b⟩, c⟩ => ⟨⟨a, c⟩, b⟩, fun ⟨⟨a, c⟩, b⟩ => ⟨⟨a, b⟩, c⟩⟩
theorem cu_e {N e : Nat} {K : Nat → Int32} {L R EL ER : Nat → Nat} : cu_is N e K L R EL ER (A0 N e K L R EL ER) := fun r => Iff.rfl
/-- what the call of a stating method asks for behind it -/
def xs_post (post : SX → Prop) (N M : Nat) (f_saidPlace f_instanceCount f_nodeCount f_equationCount f_stackCount f_wordCount f_depth f_cellCount f_consCount f_closureCount f_stepCount f_runAnswer f_writtenCount : Int32) (a_kinds a_values a_spans a_bounds a_binders a_lengths a_parameterCounts a_typeCodes a_typeLengths a_instanceFunctions a_nodeKinds a_nodeLefts a_nodeRights a_nodeSizes a_equationLefts a_equationRights a_stackLefts a_stackRights a_words a_boundWords a_cellFirsts a_cellSeconds a_closureTokens a_closureWords a_written : Nat → Int32) (e0 : Nat) (L R EL0 ER0 : Nat → Nat) (rule : (Nat → mt_T) → Prop) : Prop :=
  ∀ (N' e' : Nat) (K' nl' nr' sz' el' er' : Nat → Int32) (L' R' rt' ds' EL' ER' : Nat → Nat), N ≤ N' → N' ≤ M → e' ≤ e0 + 4 → xg_ok N' K' nl' nr' L' R' rt' ds' → eq_ok N' e' el' er' EL' ER' →
    st_ok N e0 a_nodeKinds L R EL0 ER0 N' e' K' L' R' EL' ER' rule →
    post (f_saidPlace, f_instanceCount, (nI N'), (nI e'), f_stackCount, f_wordCount, f_depth, f_cellCount, f_consCount, f_closureCount, f_stepCount, f_runAnswer, f_writtenCount, a_kinds, a_values, a_spans, a_bounds, a_binders, a_lengths, a_parameterCounts, a_typeCodes, a_typeLengths, a_instanceFunctions, K', nl', nr', sz', el', er', a_stackLefts, a_stackRights, a_words, a_boundWords, a_cellFirsts, a_cellSeconds, a_closureTokens, a_closureWords, a_written)
theorem st_1 {N : Nat} {K : Nat → Int32} {L R EL ER EL0 ER0 : Nat → Nat} {e e0 : Nat} {C rule : (Nat → mt_T) → Prop} (h : cu_is N e K L R EL ER C) (hC : ∀ r, (∀ n, mt_wf (r n)) → (C r ↔ A0 N e0 K L R EL0 ER0 r ∧ rule r)) :
    st_ok N e0 K L R EL0 ER0 N e K L R EL ER rule := by
  refine ⟨fun r hw h1 h2 => (hC r hw).mp ((h r).mp ⟨h1, h2⟩), fun r hw h1 h2 => ?_⟩
  have := (h r).mpr ((hC r hw).mpr ⟨h1, h2⟩)
  exact ⟨r, hw, fun _ _ => rfl, this.1, this.2⟩
theorem x_var34 {post : Int32 → Prop} {f n v : Nat} {bd bi : Nat → Nat} (hf : f ≤ 10) (hn : n ≤ 24)
    (hb : ∀ t, t < n → a_bounds (f * 24 + t) = nI (bd t) ∧ bd t ≤ 12 ∧ a_binders (f * 24 + t) = (if bi t = 0 then -1 else nI (bi t - 1)) ∧ bi t ≤ t) (hv : v < 10) :
    ∀ fu b i, b ≤ n → b + i ≤ 24 → b < fu → post (nI (vw bi bd b b v)) → wX_variableNode_34 post (nI f) (nI v) (72 + nI v) f_saidPlace f_instanceCount f_nodeCount f_equationCount f_stackCount f_wordCount f_depth f_cellCount f_consCount f_closureCount f_stepCount f_runAnswer f_writtenCount a_kinds a_values a_spans a_bounds a_binders a_lengths a_parameterCounts a_typeCodes a_typeLengths a_instanceFunctions a_nodeKinds a_nodeLefts a_nodeRights a_nodeSizes a_equationLefts a_equationRights a_stackLefts a_stackRights a_words a_boundWords a_cellFirsts a_cellSeconds a_closureTokens a_closureWords a_written fu (if b = 0 then -1 else nI (b - 1)) (nI i) := by
  intro fu
  induction fu with
  | zero => intro b i _ _ h; omega
  | succ fu ih =>
    intro b i hb1 hb2 hb3 hp
    by_cases b0 : b = 0
    · subst b0
      have : post (72 + nI v) := by rw [ix_72]; exact hp
      exact pk_le 24 i (fun _ => this) (fun _ => br_t rfl this)
    · obtain ⟨c, rfl⟩ : ∃ c, b = c + 1 := ⟨b - 1, by omega⟩
      obtain ⟨e1, e2, e3, e4⟩ := hb c (by omega)
      have ec : (if c + 1 = 0 then (-1 : Int32) else nI (c + 1 - 1)) = nI c := by rw [if_neg (by omega)]; rfl
      rw [ec]
      refine pk_le 24 i (fun h => by omega) (fun _ => br_f (ni_ne1 (by omega)) ?_)
      rw [ix_24, nI_clamp (by omega), e1]
      refine And.intro (pk_in (f * 24 + c) 264 (by omega)) (nm_e ?_)
      have hvw : vw bi bd (c + 1) (c + 1) v = if bd c ≤ v then 24 + 2 * c + (v - bd c) else vw bi bd c (bi c) v := by
        simp only [vw, if_neg (show ¬ c + 1 = 0 by omega), Nat.add_sub_cancel]
      rw [hvw] at hp
      refine pk_lt v (bd c) (fun h => ?_) (fun h => ?_)
      · rw [if_neg (by omega)] at hp
        refine And.intro (pk_in (f * 24 + c) 264 (by omega)) (nm_r e3 (nm_r (nI_1 i) (ih (bi c) (i + 1) (by omega) (by omega) (by omega) ?_)))
        rw [vw_fuel' (bi c) c (bi c) v (Nat.le_refl _) e4 (fun t ht => (hb t (by omega)).2.2.2)]; exact hp
      · rw [if_pos h] at hp
        refine nm_r (e' := nI (24 + 2 * c + (v - bd c))) ?_ hp
        rw [ix_2, nI_add, pk_sub (by omega)]
        exact congrArg nI (by omega)
theorem xg_low {N : Nat} {K nl nr : Nat → Int32} {L R rt ds : Nat → Nat} (hg : xg_ok N K nl nr L R rt ds) {r r' : Nat → mt_T} (e : ∀ n, n < N → r' n = r n) (h : gr_sat N K L R r) : gr_sat N K L R r' :=
  gr_sat_low (fun n hn hk => ((hg.1 n hn).2.1 hk).2) (fun n hn hk => ((hg.1 n hn).2.2.1 hk).2) e h
theorem A0_low {N e : Nat} {K nl nr el er : Nat → Int32} {L R rt ds EL ER : Nat → Nat} (hg : xg_ok N K nl nr L R rt ds) (hq : eq_ok N e el er EL ER) {r r' : Nat → mt_T} (h0 : ∀ n, n < N → r' n = r n) (h : A0 N e K L R EL ER r) : A0 N e K L R EL ER r' := by
  refine ⟨xg_low hg h0 h.1, fun i hi => ?_⟩
  obtain ⟨_, a, _, b⟩ := hq i hi
  rw [h0 _ a, h0 _ b]; exact h.2 i hi
theorem st_2 {N N' e e0 : Nat} {K K' nl nr el er : Nat → Int32} {L R L' R' rt ds EL ER EL0 ER0 : Nat → Nat} {C rule : (Nat → mt_T) → Prop} (hg : xg_ok N K nl nr L R rt ds) (hq : eq_ok N e0 el er EL0 ER0) (h : cu_is N' e K' L' R' EL ER C)
    (fw : ∀ r, (∀ n, mt_wf (r n)) → C r → A0 N e0 K L R EL0 ER0 r ∧ rule r)
    (bw : ∀ r, (∀ n, mt_wf (r n)) → A0 N e0 K L R EL0 ER0 r → rule r → ∃ r', (∀ n, mt_wf (r' n)) ∧ (∀ n, n < N → r' n = r n) ∧ (A0 N e0 K L R EL0 ER0 r' → C r')) : st_ok N e0 K L R EL0 ER0 N' e K' L' R' EL ER rule := by
  refine ⟨fun r hw h1 h2 => fw r hw ((h r).mp ⟨h1, h2⟩), fun r hw h1 h2 => ?_⟩
  obtain ⟨r', w, e, hc⟩ := bw r hw h1 h2
  have := (h r').mpr (hc (A0_low hg hq e h1))
  exact ⟨r', w, e, this.1, this.2⟩
theorem pt_wf {r : Nat → mt_T} {n : Nat} {t : mt_T} (hr : ∀ n, mt_wf (r n)) (ht : mt_wf t) : ∀ j, mt_wf (gr_put r n t j) := by
  intro j
  by_cases z : j = n
  · subst z; rw [gr_put_eq]; exact ht
  · rw [gr_put_ne z]; exact hr j
theorem x_variable {post : Int32 → Prop} {f n t v : Nat} {bd bi : Nat → Nat} (hf : f ≤ 10) (hn : n ≤ 24) (ht : t < n)
    (hb : ∀ t, t < n → a_bounds (f * 24 + t) = nI (bd t) ∧ bd t ≤ 12 ∧ a_binders (f * 24 + t) = (if bi t = 0 then -1 else nI (bi t - 1)) ∧ bi t ≤ t) (hv : v < 10) (hval : a_values (f * 24 + t) = nI v)
    (hp : post (nI (vw bi bd (bi t) (bi t) v))) : wpX_variableNode post (f_saidPlace, f_instanceCount, f_nodeCount, f_equationCount, f_stackCount, f_wordCount, f_depth, f_cellCount, f_consCount, f_closureCount, f_stepCount, f_runAnswer, f_writtenCount, a_kinds, a_values, a_spans, a_bounds, a_binders, a_lengths, a_parameterCounts, a_typeCodes, a_typeLengths, a_instanceFunctions, a_nodeKinds, a_nodeLefts, a_nodeRights, a_nodeSizes, a_equationLefts, a_equationRights, a_stackLefts, a_stackRights, a_words, a_boundWords, a_cellFirsts, a_cellSeconds, a_closureTokens, a_closureWords, a_written) (nI f) (nI t) := by
  have hc : (nI f * 24 + nI t).toNatClampNeg = f * 24 + t := by rw [ix_24]; exact nI_clamp (by omega)
  refine And.intro (pk_in (f * 24 + t) 264 (by omega) (ix_24 f t)) (nm_r (e' := nI v) (by rw [hc]; exact hval) (nm_e (And.intro (pk_in (f * 24 + t) 264 (by omega) (ix_24 f t)) (nm_r (e' := if bi t = 0 then -1 else nI (bi t - 1)) (by rw [hc]; exact (hb t ht).2.2.1) (Exists.intro 25 ?_)))))
  have h4 := (hb t ht).2.2.2
  exact x_var34 hf hn hb hv 25 (bi t) 0 (by omega) (by omega) (by omega) hp
theorem n10_5 : (10 : Int32) ≠ 5 := by decide
theorem n3_5 : (3 : Int32) ≠ 5 := by decide
theorem n2_5 : (2 : Int32) ≠ 5 := by decide
theorem n4_5 : (4 : Int32) ≠ 5 := by decide
theorem kd_10 : gr_kd 10 := Or.inr (Or.inr (Or.inr (Or.inr (Or.inr (Or.inr rfl)))))
theorem kd_2 : gr_kd 2 := Or.inr (Or.inr (Or.inl rfl))
theorem kd_3 : gr_kd 3 := Or.inr (Or.inr (Or.inr (Or.inl rfl)))
theorem kd_4 : gr_kd 4 := Or.inr (Or.inr (Or.inr (Or.inr (Or.inl rfl))))
theorem nlf10 : ¬ gr_lf 10 := by unfold gr_lf; decide
theorem nrg10 : ¬ gr_rg 10 := by unfold gr_rg; decide
theorem nrg3 : ¬ gr_rg 3 := by unfold gr_rg; decide
/-- INT, TRUE, FALSE, VAR, NIL -/
theorem x_stateLeaf {post : SX → Prop} {N M f n t k v P : Nat} {Lc : List Nat} {c : Nat → Nat} {own : Bool} {bd bi L R rt ds EL0 ER0 : Nat → Nat} {e0 : Nat} (hN : 76 ≤ N) (hM : N + 2 ≤ M) (hM2 : M ≤ 1126) (hf : f ≤ 10) (hn : n ≤ 24) (ht : t < n)
    (he0 : e0 ≤ 4) (hq0 : eq_ok N e0 a_equationLefts a_equationRights EL0 ER0) (hg : xg_ok N a_nodeKinds a_nodeLefts a_nodeRights L R rt ds) (hI : ∀ r, (∀ n, mt_wf (r n)) → A0 N e0 a_nodeKinds L R EL0 ER0 r → r 74 = .leaf 0 ∧ r 75 = .leaf 1)
    (hk : a_kinds (f * 24 + t) = nI k) (hk5 : k = 0 ∨ k = 1 ∨ k = 2 ∨ k = 3 ∨ k = 8)
    (hb : ∀ t, t < n → a_bounds (f * 24 + t) = nI (bd t) ∧ bd t ≤ 12 ∧ a_binders (f * 24 + t) = (if bi t = 0 then -1 else nI (bi t - 1)) ∧ bi t ≤ t) (hval : k = 3 → v < 10 ∧ a_values (f * 24 + t) = nI v)
    (hw : k = 3 → vw bi bd (bi t) (bi t) v < 74)
    (hP : xs_post post N M f_saidPlace f_instanceCount (nI N) (nI e0) f_stackCount f_wordCount f_depth f_cellCount f_consCount f_closureCount f_stepCount f_runAnswer f_writtenCount a_kinds a_values a_spans a_bounds a_binders a_lengths a_parameterCounts a_typeCodes a_typeLengths a_instanceFunctions a_nodeKinds a_nodeLefts a_nodeRights a_nodeSizes a_equationLefts a_equationRights a_stackLefts a_stackRights a_words a_boundWords a_cellFirsts a_cellSeconds a_closureTokens a_closureWords a_written e0 L R EL0 ER0 (ru_k k t c (vw bi bd (bi t) (bi t) v) own P Lc)) :
    wpX_stateLeaf post (f_saidPlace, f_instanceCount, (nI N), (nI e0), f_stackCount, f_wordCount, f_depth, f_cellCount, f_consCount, f_closureCount, f_stepCount, f_runAnswer, f_writtenCount, a_kinds, a_values, a_spans, a_bounds, a_binders, a_lengths, a_parameterCounts, a_typeCodes, a_typeLengths, a_instanceFunctions, a_nodeKinds, a_nodeLefts, a_nodeRights, a_nodeSizes, a_equationLefts, a_equationRights, a_stackLefts, a_stackRights, a_words, a_boundWords, a_cellFirsts, a_cellSeconds, a_closureTokens, a_closureWords, a_written) (nI f) (nI t) := by
  have hc : (nI f * 24 + nI t).toNatClampNeg = f * 24 + t := by rw [ix_24]; exact nI_clamp (by omega)
  have q0 := hq0
  refine And.intro (pk_in (f * 24 + t) 264 (by omega) (ix_24 f t)) (nm_r (e' := nI k) (by rw [hc]; exact hk) ?_)
  have simple : ∀ b, b < N → (∀ r, (∀ n, mt_wf (r n)) → (A0 N e0 a_nodeKinds L R EL0 ER0 r ∧ r t = r b ↔ A0 N e0 a_nodeKinds L R EL0 ER0 r ∧ ru_k k t c (vw bi bd (bi t) (bi t) v) own P Lc r)) →
      wpX_equate post (f_saidPlace, f_instanceCount, (nI N), (nI e0), f_stackCount, f_wordCount, f_depth, f_cellCount, f_consCount, f_closureCount, f_stepCount, f_runAnswer, f_writtenCount, a_kinds, a_values, a_spans, a_bounds, a_binders, a_lengths, a_parameterCounts, a_typeCodes, a_typeLengths, a_instanceFunctions, a_nodeKinds, a_nodeLefts, a_nodeRights, a_nodeSizes, a_equationLefts, a_equationRights, a_stackLefts, a_stackRights, a_words, a_boundWords, a_cellFirsts, a_cellSeconds, a_closureTokens, a_closureWords, a_written) (nI t) (nI b) := by
    intro b hb' hr
    refine x_equate (by omega) (hP N (e0 + 1) _ _ _ _ _ _ L R rt ds _ _ (Nat.le_refl _) (by omega) (by omega) hg (eq_up q0 (by omega) hb') ?_)
    exact st_1 (cu_eq cu_e) hr
  rcases hk5 with rfl | rfl | rfl | rfl | rfl
  · exact br_t rfl (simple 74 (by omega) (fun r hw' => and_congr_right (fun h => by rw [(hI r hw' h).1]; exact Iff.rfl)))
  · exact br_f (by decide) (br_f (by decide) (br_f (by decide) (simple 75 (by omega) (fun r hw' => and_congr_right (fun h => by rw [(hI r hw' h).2]; exact Iff.rfl)))))
  · exact br_f (by decide) (br_f (by decide) (br_f (by decide) (simple 75 (by omega) (fun r hw' => and_congr_right (fun h => by rw [(hI r hw' h).2]; exact Iff.rfl)))))
  · refine br_f (by decide) (br_t rfl (x_variable hf hn ht hb (hval rfl).1 (hval rfl).2 (simple _ (by have := hw rfl; omega) (fun r _ => Iff.rfl))))
  · obtain ⟨rt1, ds1, g1, s1⟩ := xg_new hg 10 (-1) (-1) 0 0 kd_10 n10_5 (fun z => absurd z nlf10) (fun z => absurd z nrg10) (fun _ => rfl)
    obtain ⟨rt2, ds2, g2, s2⟩ := xg_new g1 3 (nI N) (-1) N 0 kd_3 n3_5 (fun _ => ⟨rfl, by omega⟩) (fun z => absurd z nrg3) (fun z => absurd z (by decide))
    refine br_f (by decide) (br_f (by decide) (br_t rfl (x_newNode (by omega) (x_newNode (by omega) (x_equate (by omega) (hP (N + 1 + 1) (e0 + 1) _ _ _ _ _ _ _ _ rt2 ds2 _ _ (by omega) (by omega) (by omega) g2 (eq_up (eq_mono q0 (by omega)) (by omega) (by omega)) ?_))))))
    refine st_2 hg hq0 (cu_eq (cu_new (cu_new cu_e s1) s2)) (fun r hwf h => ?_) (fun r hwf h hr => ?_)
    · obtain ⟨⟨⟨h1, _⟩, h2⟩, h3⟩ := h
      refine ⟨h1, r N, hwf N, ?_⟩
      rw [h3]
      exact h2.elim (fun z => absurd z (by decide)) (fun z => z.trans (gr_at_3 (K := fun _ => 3) rfl))
    · obtain ⟨x, hx, e⟩ := hr
      refine ⟨gr_put (gr_put r N x) (N + 1) (.branch 3 x (.leaf 0)), pt_wf (pt_wf hwf hx) (Or.inl ⟨rfl, hx, rfl⟩), fun j hj => ?_, fun h' => ⟨⟨⟨h', Or.inl rfl⟩, Or.inr ?_⟩, ?_⟩⟩
      · rw [gr_put_ne (by omega), gr_put_ne (by omega)]
      · rw [gr_put_eq, gr_at_3 (K := fun _ => 3) rfl, gr_put_ne (by omega), gr_put_eq]
      · rw [gr_put_eq, gr_put_ne (by omega), gr_put_ne (by omega)]; exact e
end
section
variable {f_saidPlace f_instanceCount f_nodeCount f_equationCount f_stackCount f_wordCount f_depth f_cellCount f_consCount f_closureCount f_stepCount f_runAnswer f_writtenCount : Int32} {a_kinds a_values a_spans a_bounds a_binders a_lengths a_parameterCounts a_typeCodes a_typeLengths a_instanceFunctions a_nodeKinds a_nodeLefts a_nodeRights a_nodeSizes a_equationLefts a_equationRights a_stackLefts a_stackRights a_words a_boundWords a_cellFirsts a_cellSeconds a_closureTokens a_closureWords a_written : Nat → Int32}
theorem q0_ok {N : Nat} {el er : Nat → Int32} : eq_ok N 0 el er (fun _ => 0) (fun _ => 0) := fun i hi => by omega
theorem sw2 {x y : mt_T} (hx : mt_wf x) (hy : mt_wf y) : mt_wf (.branch 2 x y) := Or.inr ⟨Or.inl rfl, hx, hy⟩
theorem sw4 {x y : mt_T} (hx : mt_wf x) (hy : mt_wf y) : mt_wf (.branch 4 x y) := Or.inr ⟨Or.inr rfl, hx, hy⟩
theorem sw3 {x : mt_T} (hx : mt_wf x) : mt_wf (.branch 3 x (.leaf 0)) := Or.inl ⟨rfl, hx, rfl⟩
theorem d2_e {N : Nat} {a b : Nat} {r : Nat → mt_T} : ((2 : Int32) = 10 ∨ r N = gr_at (fun _ => 2) (fun _ => a) (fun _ => b) r 0) ↔ r N = .branch 2 (r a) (r b) :=
  ⟨fun h => h.elim (fun z => absurd z (by decide)) (fun z => z.trans (gr_at_2 (K := fun _ => 2) rfl)), fun h => Or.inr (h.trans (gr_at_2 (K := fun _ => 2) (L := fun _ => a) (R := fun _ => b) (r := r) (n := 0) rfl).symm)⟩
theorem d4_e {N : Nat} {a b : Nat} {r : Nat → mt_T} : ((4 : Int32) = 10 ∨ r N = gr_at (fun _ => 4) (fun _ => a) (fun _ => b) r 0) ↔ r N = .branch 4 (r a) (r b) :=
  ⟨fun h => h.elim (fun z => absurd z (by decide)) (fun z => z.trans (gr_at_4 (K := fun _ => 4) rfl)), fun h => Or.inr (h.trans (gr_at_4 (K := fun _ => 4) (L := fun _ => a) (R := fun _ => b) (r := r) (n := 0) rfl).symm)⟩
theorem d3_e {N : Nat} {a b : Nat} {r : Nat → mt_T} : ((3 : Int32) = 10 ∨ r N = gr_at (fun _ => 3) (fun _ => a) (fun _ => b) r 0) ↔ r N = .branch 3 (r a) (.leaf 0) :=
  ⟨fun h => h.elim (fun z => absurd z (by decide)) (fun z => z.trans (gr_at_3 (K := fun _ => 3) rfl)), fun h => Or.inr (h.trans (gr_at_3 (K := fun _ => 3) (L := fun _ => a) (R := fun _ => b) (r := r) (n := 0) rfl).symm)⟩
/-- FIRST, SECOND, LAM -/
theorem x_stateOne {post : SX → Prop} {N M t k w P : Nat} {Lc : List Nat} {c : Nat → Nat} {own : Bool} {L R rt ds EL0 ER0 : Nat → Nat} {e0 : Nat} (hN : 76 ≤ N) (hM : N + 2 ≤ M) (hM2 : M ≤ 1126) (ht : t < 24) (h0 : c 0 = t + 1)
    (he0 : e0 ≤ 4) (hq0 : eq_ok N e0 a_equationLefts a_equationRights EL0 ER0) (hg : xg_ok N a_nodeKinds a_nodeLefts a_nodeRights L R rt ds) (hk : k = 6 ∨ k = 7 ∨ k = 15)
    (hP : xs_post post N M f_saidPlace f_instanceCount (nI N) (nI e0) f_stackCount f_wordCount f_depth f_cellCount f_consCount f_closureCount f_stepCount f_runAnswer f_writtenCount a_kinds a_values a_spans a_bounds a_binders a_lengths a_parameterCounts a_typeCodes a_typeLengths a_instanceFunctions a_nodeKinds a_nodeLefts a_nodeRights a_nodeSizes a_equationLefts a_equationRights a_stackLefts a_stackRights a_words a_boundWords a_cellFirsts a_cellSeconds a_closureTokens a_closureWords a_written e0 L R EL0 ER0 (ru_k k t c w own P Lc)) :
    wpX_stateOne post (f_saidPlace, f_instanceCount, (nI N), (nI e0), f_stackCount, f_wordCount, f_depth, f_cellCount, f_consCount, f_closureCount, f_stepCount, f_runAnswer, f_writtenCount, a_kinds, a_values, a_spans, a_bounds, a_binders, a_lengths, a_parameterCounts, a_typeCodes, a_typeLengths, a_instanceFunctions, a_nodeKinds, a_nodeLefts, a_nodeRights, a_nodeSizes, a_equationLefts, a_equationRights, a_stackLefts, a_stackRights, a_words, a_boundWords, a_cellFirsts, a_cellSeconds, a_closureTokens, a_closureWords, a_written) (nI k) (nI t) := by
  refine nm_r (nI_1 t) ?_
  rcases hk with rfl | rfl | rfl
  · obtain ⟨rt1, ds1, g1, s1⟩ := xg_new hg 10 (-1) (-1) 0 0 kd_10 n10_5 (fun z => absurd z nlf10) (fun z => absurd z nrg10) (fun _ => rfl)
    obtain ⟨rt2, ds2, g2, s2⟩ := xg_new g1 2 (nI t) (nI N) t N kd_2 n2_5 (fun _ => ⟨rfl, by omega⟩) (fun _ => ⟨rfl, by omega⟩) (fun z => absurd z (by decide))
    refine br_f (by decide) (x_newNode (by omega) (br_t rfl (br_t rfl (x_newNode (by omega) (x_equate (by omega) (hP (N + 1 + 1) (e0 + 1) _ _ _ _ _ _ _ _ rt2 ds2 _ _ (by omega) (by omega) (by omega) g2 (eq_up (eq_mono hq0 (by omega)) (by omega) (by omega)) ?_))))))
    refine st_2 hg hq0 (cu_eq (cu_new (cu_new cu_e s1) s2)) (fun r hwf h => ?_) (fun r hwf h hr => ?_)
    · obtain ⟨⟨⟨h1, _⟩, h2⟩, h3⟩ := h
      exact ⟨h1, r N, hwf N, by rw [h0, h3]; exact d2_e.mp h2⟩
    · obtain ⟨x, hx, e⟩ := hr
      refine ⟨gr_put (gr_put r N x) (N + 1) (.branch 2 (r t) x), pt_wf (pt_wf hwf hx) (sw2 (hwf t) hx), fun j hj => ?_, fun h' => ⟨⟨⟨h', Or.inl rfl⟩, d2_e.mpr ?_⟩, ?_⟩⟩
      · rw [gr_put_ne (by omega), gr_put_ne (by omega)]
      · rw [gr_put_eq, gr_put_ne (by omega), gr_put_ne (by omega), gr_put_ne (by omega), gr_put_eq]
      · rw [gr_put_eq, gr_put_ne (by omega), gr_put_ne (by omega), ← h0]; exact e
  · obtain ⟨rt1, ds1, g1, s1⟩ := xg_new hg 10 (-1) (-1) 0 0 kd_10 n10_5 (fun z => absurd z nlf10) (fun z => absurd z nrg10) (fun _ => rfl)
    obtain ⟨rt2, ds2, g2, s2⟩ := xg_new g1 2 (nI N) (nI t) N t kd_2 n2_5 (fun _ => ⟨rfl, by omega⟩) (fun _ => ⟨rfl, by omega⟩) (fun z => absurd z (by decide))
    refine br_f (by decide) (x_newNode (by omega) (br_f (by decide) (br_f (by decide) (x_newNode (by omega) (x_equate (by omega) (hP (N + 1 + 1) (e0 + 1) _ _ _ _ _ _ _ _ rt2 ds2 _ _ (by omega) (by omega) (by omega) g2 (eq_up (eq_mono hq0 (by omega)) (by omega) (by omega)) ?_))))))
    refine st_2 hg hq0 (cu_eq (cu_new (cu_new cu_e s1) s2)) (fun r hwf h => ?_) (fun r hwf h hr => ?_)
    · obtain ⟨⟨⟨h1, _⟩, h2⟩, h3⟩ := h
      exact ⟨h1, r N, hwf N, by rw [h0, h3]; exact d2_e.mp h2⟩
    · obtain ⟨x, hx, e⟩ := hr
      refine ⟨gr_put (gr_put r N x) (N + 1) (.branch 2 x (r t)), pt_wf (pt_wf hwf hx) (sw2 hx (hwf t)), fun j hj => ?_, fun h' => ⟨⟨⟨h', Or.inl rfl⟩, d2_e.mpr ?_⟩, ?_⟩⟩
      · rw [gr_put_ne (by omega), gr_put_ne (by omega)]
      · rw [gr_put_eq, gr_put_ne (j := N) (by omega), gr_put_eq, gr_put_ne (by omega), gr_put_ne (by omega)]
      · rw [gr_put_eq, gr_put_ne (by omega), gr_put_ne (by omega), ← h0]; exact e
  · rw [ix_2]
    obtain ⟨rt1, ds1, g1, s1⟩ := xg_new hg 4 (nI (24 + 2 * t)) (nI (t + 1)) (24 + 2 * t) (t + 1) kd_4 n4_5 (fun _ => ⟨rfl, by omega⟩) (fun _ => ⟨rfl, by omega⟩) (fun z => absurd z (by decide))
    refine br_t rfl (x_newNode (by omega) (x_equate (by omega) (hP (N + 1) (e0 + 1) _ _ _ _ _ _ _ _ rt1 ds1 _ _ (by omega) (by omega) (by omega) g1 (eq_up (eq_mono hq0 (by omega)) (by omega) (by omega)) ?_)))
    refine st_2 hg hq0 (cu_eq (cu_new cu_e s1)) (fun r hwf h => ?_) (fun r hwf h hr => ?_)
    · obtain ⟨⟨h1, h2⟩, h3⟩ := h
      exact ⟨h1, by show r t = .branch 4 (r (24 + 2 * t)) (r (c 0)); rw [h0, h3]; exact d4_e.mp h2⟩
    · refine ⟨gr_put r N (.branch 4 (r (24 + 2 * t)) (r (t + 1))), pt_wf hwf (sw4 (hwf _) (hwf _)), fun j hj => gr_put_ne (by omega), fun h' => ⟨⟨h', d4_e.mpr ?_⟩, ?_⟩⟩
      · rw [gr_put_eq, gr_put_ne (by omega), gr_put_ne (by omega)]
      · rw [gr_put_eq, gr_put_ne (by omega), ← h0]; exact hr
/-- PAIR, CONS, ADD, LESS, LET, APP -/
theorem x_stateTwo {post : SX → Prop} {N M t k s w P : Nat} {Lc : List Nat} {c : Nat → Nat} {own : Bool} {L R rt ds EL0 ER0 : Nat → Nat} {e0 : Nat} (hN : 76 ≤ N) (hM : N + 2 ≤ M) (hM2 : M ≤ 1126) (ht : t < 24) (hs : s < 24) (ht1 : t + 1 < 24) (h0 : c 0 = t + 1) (h1 : c 1 = s)
    (he0 : e0 ≤ 4) (hq0 : eq_ok N e0 a_equationLefts a_equationRights EL0 ER0) (hg : xg_ok N a_nodeKinds a_nodeLefts a_nodeRights L R rt ds) (hI : ∀ r, (∀ n, mt_wf (r n)) → A0 N e0 a_nodeKinds L R EL0 ER0 r → r 74 = .leaf 0 ∧ r 75 = .leaf 1) (hk : k = 5 ∨ k = 9 ∨ k = 12 ∨ k = 13 ∨ k = 14 ∨ k = 16)
    (hP : xs_post post N M f_saidPlace f_instanceCount (nI N) (nI e0) f_stackCount f_wordCount f_depth f_cellCount f_consCount f_closureCount f_stepCount f_runAnswer f_writtenCount a_kinds a_values a_spans a_bounds a_binders a_lengths a_parameterCounts a_typeCodes a_typeLengths a_instanceFunctions a_nodeKinds a_nodeLefts a_nodeRights a_nodeSizes a_equationLefts a_equationRights a_stackLefts a_stackRights a_words a_boundWords a_cellFirsts a_cellSeconds a_closureTokens a_closureWords a_written e0 L R EL0 ER0 (ru_k k t c w own P Lc)) :
    wpX_stateTwo post (f_saidPlace, f_instanceCount, (nI N), (nI e0), f_stackCount, f_wordCount, f_depth, f_cellCount, f_consCount, f_closureCount, f_stepCount, f_runAnswer, f_writtenCount, a_kinds, a_values, a_spans, a_bounds, a_binders, a_lengths, a_parameterCounts, a_typeCodes, a_typeLengths, a_instanceFunctions, a_nodeKinds, a_nodeLefts, a_nodeRights, a_nodeSizes, a_equationLefts, a_equationRights, a_stackLefts, a_stackRights, a_words, a_boundWords, a_cellFirsts, a_cellSeconds, a_closureTokens, a_closureWords, a_written) (nI k) (nI t) (nI s) := by
  refine nm_r (nI_1 t) ?_
  rcases hk with rfl | rfl | rfl | rfl | rfl | rfl
  · obtain ⟨rt1, ds1, g1, s1⟩ := xg_new hg 2 (nI (t + 1)) (nI s) (t + 1) s kd_2 n2_5 (fun _ => ⟨rfl, by omega⟩) (fun _ => ⟨rfl, by omega⟩) (fun z => absurd z (by decide))
    refine br_t rfl (x_newNode (by omega) (x_equate (by omega) (hP (N + 1) (e0 + 1) _ _ _ _ _ _ _ _ rt1 ds1 _ _ (by omega) (by omega) (by omega) g1 (eq_up (eq_mono hq0 (by omega)) (by omega) (by omega)) ?_)))
    refine st_2 hg hq0 (cu_eq (cu_new cu_e s1)) (fun r hwf h => ?_) (fun r hwf h hr => ?_)
    · obtain ⟨⟨h2, h3⟩, h4⟩ := h
      exact ⟨h2, by show r t = .branch 2 (r (c 0)) (r (c 1)); rw [h0, h1, h4]; exact d2_e.mp h3⟩
    · refine ⟨gr_put r N (.branch 2 (r (t + 1)) (r s)), pt_wf hwf (sw2 (hwf _) (hwf _)), fun j hj => gr_put_ne (by omega), fun h' => ⟨⟨h', d2_e.mpr ?_⟩, ?_⟩⟩
      · rw [gr_put_eq, gr_put_ne (by omega), gr_put_ne (by omega)]
      · rw [gr_put_eq, gr_put_ne (by omega), ← h0, ← h1]; exact hr
  · obtain ⟨rt1, ds1, g1, s1⟩ := xg_new hg 3 (nI (t + 1)) (-1) (t + 1) 0 kd_3 n3_5 (fun _ => ⟨rfl, by omega⟩) (fun z => absurd z nrg3) (fun z => absurd z (by decide))
    refine br_f (by decide) (br_t rfl (x_newNode (by omega) (x_equate (by omega) (x_equate (by omega) (hP (N + 1) (e0 + 1 + 1) _ _ _ _ _ _ _ _ rt1 ds1 _ _ (by omega) (by omega) (by omega) g1 (eq_up (eq_up (eq_mono hq0 (by omega)) (by omega) (by omega)) (by omega) (by omega)) ?_)))))
    refine st_2 hg hq0 (cu_eq (cu_eq (cu_new cu_e s1))) (fun r hwf h => ?_) (fun r hwf h hr => ?_)
    · obtain ⟨⟨⟨h2, h3⟩, h4⟩, h5⟩ := h
      refine ⟨h2, ?_, ?_⟩
      · rw [h0, h1, h4]; exact d3_e.mp h3
      · rw [h1, h4]; exact h5
    · obtain ⟨e1, e2⟩ := hr
      rw [h1] at e1 e2
      rw [h0] at e1
      refine ⟨gr_put r N (.branch 3 (r (t + 1)) (.leaf 0)), pt_wf hwf (sw3 (hwf _)), fun j hj => gr_put_ne (by omega), fun h' => ⟨⟨⟨h', d3_e.mpr ?_⟩, ?_⟩, ?_⟩⟩
      · rw [gr_put_eq, gr_put_ne (by omega)]
      · rw [gr_put_eq, gr_put_ne (by omega)]; exact e1
      · rw [gr_put_eq, gr_put_ne (by omega), e2]; exact e1
  · refine br_f (by decide) (br_f (by decide) (br_f (by decide) (br_f (by decide) (x_equate (by omega) (x_equate (by omega) (br_t rfl (x_equate (by omega) (hP N (e0 + 1 + 1 + 1) _ _ _ _ _ _ L R rt ds _ _ (by omega) (by omega) (by omega) hg (eq_up (b := 74) (eq_up (b := 74) (eq_up (b := 74) (eq_mono hq0 (by omega)) (by omega) (by omega)) (by omega) (by omega)) (by omega) (by omega)) ?_))))))))
    refine st_1 (cu_eq (cu_eq (cu_eq cu_e))) (fun r hwf => ⟨fun h => ?_, fun h => ?_⟩)
    · obtain ⟨⟨⟨h2, h3⟩, h4⟩, h5⟩ := h
      have i1 := (hI r hwf h2).1
      exact ⟨h2, by rw [h0, h3, i1], by rw [h1, h4, i1], by rw [h5, i1]⟩
    · obtain ⟨h2, e1, e2, e3⟩ := h
      have i1 := (hI r hwf h2).1
      rw [h0] at e1
      rw [h1] at e2
      exact ⟨⟨⟨h2, by rw [e1, i1]⟩, by rw [e2, i1]⟩, by rw [e3, i1]⟩
  · refine br_f (by decide) (br_f (by decide) (br_f (by decide) (br_f (by decide) (x_equate (by omega) (x_equate (by omega) (br_f (by decide) (x_equate (by omega) (hP N (e0 + 1 + 1 + 1) _ _ _ _ _ _ L R rt ds _ _ (by omega) (by omega) (by omega) hg (eq_up (b := 75) (eq_up (b := 74) (eq_up (b := 74) (eq_mono hq0 (by omega)) (by omega) (by omega)) (by omega) (by omega)) (by omega) (by omega)) ?_))))))))
    refine st_1 (cu_eq (cu_eq (cu_eq cu_e))) (fun r hwf => ⟨fun h => ?_, fun h => ?_⟩)
    · obtain ⟨⟨⟨h2, h3⟩, h4⟩, h5⟩ := h
      have i1 := (hI r hwf h2).1
      have i2 := (hI r hwf h2).2
      exact ⟨h2, by rw [h0, h3, i1], by rw [h1, h4, i1], by rw [h5, i2]⟩
    · obtain ⟨h2, e1, e2, e3⟩ := h
      have i1 := (hI r hwf h2).1
      have i2 := (hI r hwf h2).2
      rw [h0] at e1
      rw [h1] at e2
      exact ⟨⟨⟨h2, by rw [e1, i1]⟩, by rw [e2, i1]⟩, by rw [e3, i2]⟩
  · rw [ix_2]
    refine br_f (by decide) (br_f (by decide) (br_t rfl (x_equate (by omega) (x_equate (by omega) (hP N (e0 + 1 + 1) _ _ _ _ _ _ L R rt ds _ _ (by omega) (by omega) (by omega) hg (eq_up (eq_up (eq_mono hq0 (by omega)) (by omega) (by omega)) (by omega) (by omega)) ?_)))))
    refine st_1 (cu_eq (cu_eq cu_e)) (fun r hwf => ⟨fun h => ?_, fun h => ?_⟩)
    · obtain ⟨⟨h2, h3⟩, h4⟩ := h
      exact ⟨h2, by rw [h0]; exact h3, by rw [h1]; exact h4⟩
    · obtain ⟨h2, e1, e2⟩ := h
      rw [h0] at e1
      rw [h1] at e2
      exact ⟨⟨h2, e1⟩, e2⟩
  · obtain ⟨rt1, ds1, g1, s1⟩ := xg_new hg 4 (nI s) (nI t) s t kd_4 n4_5 (fun _ => ⟨rfl, by omega⟩) (fun _ => ⟨rfl, by omega⟩) (fun z => absurd z (by decide))
    refine br_f (by decide) (br_f (by decide) (br_f (by decide) (br_t rfl (x_newNode (by omega) (x_equate (by omega) (hP (N + 1) (e0 + 1) _ _ _ _ _ _ _ _ rt1 ds1 _ _ (by omega) (by omega) (by omega) g1 (eq_up (eq_mono hq0 (by omega)) (by omega) (by omega)) ?_))))))
    refine st_2 hg hq0 (cu_eq (cu_new cu_e s1)) (fun r hwf h => ?_) (fun r hwf h hr => ?_)
    · obtain ⟨⟨h2, h3⟩, h4⟩ := h
      exact ⟨h2, by show r (c 0) = .branch 4 (r (c 1)) (r t); rw [h0, h1, h4]; exact d4_e.mp h3⟩
    · refine ⟨gr_put r N (.branch 4 (r s) (r t)), pt_wf hwf (sw4 (hwf _) (hwf _)), fun j hj => gr_put_ne (by omega), fun h' => ⟨⟨h', d4_e.mpr ?_⟩, ?_⟩⟩
      · rw [gr_put_eq, gr_put_ne (by omega), gr_put_ne (by omega)]
      · rw [gr_put_eq, gr_put_ne (by omega), ← h0, ← h1]; exact hr
/-- CASE, IF -/
theorem x_stateThree {post : SX → Prop} {N M t k s s3 w P : Nat} {Lc : List Nat} {c : Nat → Nat} {own : Bool} {L R rt ds EL0 ER0 : Nat → Nat} {e0 : Nat} (hN : 76 ≤ N) (hM : N + 2 ≤ M) (hM2 : M ≤ 1126) (ht1 : t + 1 < 24) (hs : s < 24) (hs3 : s3 < 24) (h0 : c 0 = t + 1) (h1 : c 1 = s) (h2 : c 2 = s3)
    (he0 : e0 ≤ 4) (hq0 : eq_ok N e0 a_equationLefts a_equationRights EL0 ER0) (hg : xg_ok N a_nodeKinds a_nodeLefts a_nodeRights L R rt ds) (hI : ∀ r, (∀ n, mt_wf (r n)) → A0 N e0 a_nodeKinds L R EL0 ER0 r → r 74 = .leaf 0 ∧ r 75 = .leaf 1) (hk : k = 10 ∨ k = 11)
    (hP : xs_post post N M f_saidPlace f_instanceCount (nI N) (nI e0) f_stackCount f_wordCount f_depth f_cellCount f_consCount f_closureCount f_stepCount f_runAnswer f_writtenCount a_kinds a_values a_spans a_bounds a_binders a_lengths a_parameterCounts a_typeCodes a_typeLengths a_instanceFunctions a_nodeKinds a_nodeLefts a_nodeRights a_nodeSizes a_equationLefts a_equationRights a_stackLefts a_stackRights a_words a_boundWords a_cellFirsts a_cellSeconds a_closureTokens a_closureWords a_written e0 L R EL0 ER0 (ru_k k t c w own P Lc)) :
    wpX_stateThree post (f_saidPlace, f_instanceCount, (nI N), (nI e0), f_stackCount, f_wordCount, f_depth, f_cellCount, f_consCount, f_closureCount, f_stepCount, f_runAnswer, f_writtenCount, a_kinds, a_values, a_spans, a_bounds, a_binders, a_lengths, a_parameterCounts, a_typeCodes, a_typeLengths, a_instanceFunctions, a_nodeKinds, a_nodeLefts, a_nodeRights, a_nodeSizes, a_equationLefts, a_equationRights, a_stackLefts, a_stackRights, a_words, a_boundWords, a_cellFirsts, a_cellSeconds, a_closureTokens, a_closureWords, a_written) (nI k) (nI t) (nI s) (nI s3) := by
  refine nm_r (nI_1 t) ?_
  rcases hk with rfl | rfl
  · obtain ⟨rt1, ds1, g1, s1⟩ := xg_new hg 3 (nI (24 + 2 * t)) (-1) (24 + 2 * t) 0 kd_3 n3_5 (fun _ => ⟨rfl, by omega⟩) (fun z => absurd z nrg3) (fun z => absurd z (by decide))
    refine br_t rfl (nm_r (ix_2 t) (x_newNode (by omega) (x_equate (by omega) ?_)))
    rw [nI_1]
    refine x_equate (by omega) (x_equate (by omega) (x_equate (by omega) (hP (N + 1) (e0 + 1 + 1 + 1 + 1) _ _ _ _ _ _ _ _ rt1 ds1 _ _ (by omega) (by omega) (by omega) g1 (eq_up (eq_up (eq_up (eq_up (eq_mono hq0 (by omega)) (by omega) (by omega)) (by omega) (by omega)) (by omega) (by omega)) (by omega) (by omega)) ?_)))
    refine st_2 hg hq0 (cu_eq (cu_eq (cu_eq (cu_eq (cu_new cu_e s1))))) (fun r hwf h => ?_) (fun r hwf h hr => ?_)
    · obtain ⟨⟨⟨⟨⟨g, h3⟩, h4⟩, h5⟩, h6⟩, h7⟩ := h
      have e := d3_e.mp h3
      have z25 : 24 + 2 * t + 1 = 25 + 2 * t := by omega
      rw [z25] at h5
      refine ⟨g, ?_, ?_, ?_, ?_⟩
      · rw [h0, h4]; exact e
      · rw [h0, h4]; exact h5
      · rw [h1]; exact h6
      · rw [h2]; exact h7
    · obtain ⟨e1, e2, e3, e4⟩ := hr
      rw [h0] at e1 e2
      rw [h1] at e3
      rw [h2] at e4
      have z25 : 24 + 2 * t + 1 = 25 + 2 * t := by omega
      refine ⟨gr_put r N (.branch 3 (r (24 + 2 * t)) (.leaf 0)), pt_wf hwf (sw3 (hwf _)), fun j hj => gr_put_ne (by omega), fun h' => ⟨⟨⟨⟨⟨h', d3_e.mpr ?_⟩, ?_⟩, ?_⟩, ?_⟩, ?_⟩⟩
      · rw [gr_put_eq, gr_put_ne (by omega)]
      · rw [gr_put_eq, gr_put_ne (by omega)]; exact e1
      · rw [gr_put_eq, gr_put_ne (by omega), z25, e2]; exact e1
      · rw [gr_put_ne (by omega), gr_put_ne (by omega)]; exact e3
      · rw [gr_put_ne (by omega), gr_put_ne (by omega)]; exact e4
  · refine br_f (by decide) (x_equate (by omega) (x_equate (by omega) (x_equate (by omega) (hP N (e0 + 1 + 1 + 1) _ _ _ _ _ _ L R rt ds _ _ (by omega) (by omega) (by omega) hg (eq_up (eq_up (eq_up (b := 75) (eq_mono hq0 (by omega)) (by omega) (by omega)) (by omega) (by omega)) (by omega) (by omega)) ?_))))
    refine st_1 (cu_eq (cu_eq (cu_eq cu_e))) (fun r hwf => ⟨fun h => ?_, fun h => ?_⟩)
    · obtain ⟨⟨⟨g, h3⟩, h4⟩, h5⟩ := h
      have i2 := (hI r hwf g).2
      exact ⟨g, by rw [h0, h3, i2], by rw [h1]; exact h4, by rw [h2]; exact h5⟩
    · obtain ⟨g, e1, e2, e3⟩ := h
      have i2 := (hI r hwf g).2
      rw [h0] at e1
      rw [h1] at e2
      rw [h2] at e3
      exact ⟨⟨⟨g, by rw [e1, i2]⟩, e2⟩, e3⟩
end
section
variable {f_saidPlace f_instanceCount f_nodeCount f_equationCount f_stackCount f_wordCount f_depth f_cellCount f_consCount f_closureCount f_stepCount f_runAnswer f_writtenCount : Int32} {a_kinds a_values a_spans a_bounds a_binders a_lengths a_parameterCounts a_typeCodes a_typeLengths a_instanceFunctions a_nodeKinds a_nodeLefts a_nodeRights a_nodeSizes a_equationLefts a_equationRights a_stackLefts a_stackRights a_words a_boundWords a_cellFirsts a_cellSeconds a_closureTokens a_closureWords a_written : Nat → Int32}
/-- the codes of a row, as X's table holds them -/
def rw_ok (row : Nat) (tc tl : Nat → Int32) (Lc : List Nat) : Prop := row < 18 ∧ Lc.length ≤ 42 ∧ tl row = nI Lc.length ∧ ∀ k, k < Lc.length → tc (row * 42 + k) = nI (Lc.getD k 0) ∧ Lc.getD k 0 < 100
theorem cn_ix_lt {c : Nat} : ∀ vs : List Nat, c ∈ vs → cn_ix c vs < vs.length := by
  intro vs
  induction vs with
  | nil => intro h; simp at h
  | cons v vs ih =>
    intro h
    by_cases e : v = c
    · simp [cn_ix, e]
    · simp only [List.mem_cons] at h
      rcases h with h | h
      · exact absurd h.symm e
      · have := ih h; simp only [cn_ix, if_neg e, List.length_cons]; omega
theorem cn_ix_min {c : Nat} : ∀ (vs : List Nat) (j : Nat), j < vs.length → vs.getD j 0 = c → cn_ix c vs ≤ j := by
  intro vs
  induction vs with
  | nil => intro j h; simp at h
  | cons v vs ih =>
    intro j h e
    by_cases z : v = c
    · simp [cn_ix, z]
    · cases j with
      | zero => exact absurd e z
      | succ j =>
        simp only [List.getD_cons_succ] at e
        simp only [List.length_cons] at h
        have := ih j (by omega) e
        simp only [cn_ix, if_neg z]; omega
theorem gd_mem : ∀ (vs : List Nat) (j : Nat), j < vs.length → vs.getD j 0 ∈ vs := by
  intro vs
  induction vs with
  | nil => intro j h; simp at h
  | cons v vs ih =>
    intro j h
    cases j with
    | zero => simp
    | succ j =>
      simp only [List.length_cons] at h
      rw [List.getD_cons_succ]
      exact List.mem_cons_of_mem _ (ih j (by omega))
theorem x_fwc12 {post : Int32 → Prop} {row c : Nat} {Lc : List Nat} (hr : rw_ok row a_typeCodes a_typeLengths Lc) (hm : c ∈ Lc) (hc : c < 100) (hp : post (nI (cn_ix c Lc))) :
    ∀ i f x, i ≤ Lc.length → i < f → (x < Lc.length ∧ Lc.getD x 0 = c ∧ i ≤ x ∧ (∀ j, i ≤ j → j < Lc.length → Lc.getD j 0 = c → x ≤ j) ∨ (∀ j, i ≤ j → j < Lc.length → Lc.getD j 0 ≠ c)) →
      wX_firstWithCode_12 post (nI row) (nI c) f_saidPlace f_instanceCount f_nodeCount f_equationCount f_stackCount f_wordCount f_depth f_cellCount f_consCount f_closureCount f_stepCount f_runAnswer f_writtenCount a_kinds a_values a_spans a_bounds a_binders a_lengths a_parameterCounts a_typeCodes a_typeLengths a_instanceFunctions a_nodeKinds a_nodeLefts a_nodeRights a_nodeSizes a_equationLefts a_equationRights a_stackLefts a_stackRights a_words a_boundWords a_cellFirsts a_cellSeconds a_closureTokens a_closureWords a_written f (nI x) (nI i + (-1)) := by
  obtain ⟨h1, h2, h3, h4⟩ := hr
  have g1 := cn_ix_lt Lc hm
  have g2 := cn_ix_get Lc hm
  intro i
  induction i with
  | zero =>
    intro f x hi hf hx
    obtain ⟨f, rfl⟩ : ∃ g, f = g + 1 := ⟨f - 1, by omega⟩
    refine br_t (by decide) ?_
    rcases hx with ⟨x1, x2, _, x4⟩ | hx
    · have e : x = cn_ix c Lc := by
        have := cn_ix_min Lc x x1 x2
        have := x4 (cn_ix c Lc) (by omega) g1 g2
        omega
      rw [e]; exact hp
    · exact absurd g2 (hx _ (by omega) g1)
  | succ k ih =>
    intro f x hi hf hx
    obtain ⟨f, rfl⟩ : ∃ g, f = g + 1 := ⟨f - 1, by omega⟩
    rw [pk_m1 k]
    obtain ⟨e1, e2⟩ := h4 k (by omega)
    refine br_f (nI_pos (by omega)) (And.intro (pk_in (row * 42 + k) 756 (by omega) (ix_42 row k)) ?_)
    rw [ix_42, nI_clamp (by omega), e1]
    refine pk_eq (Lc.getD k 0) c (fun z => nm_e (ih f k (by omega) (by omega) (Or.inl ⟨by omega, z, by omega, fun j hj _ _ => hj⟩))) (fun z => nm_e (ih f x (by omega) (by omega) ?_))
    rcases hx with ⟨x1, x2, x3, x4⟩ | hx
    · refine Or.inl ⟨x1, x2, by omega, fun j hj hl he => ?_⟩
      by_cases q : j = k
      · subst q; exact absurd he z
      · exact x4 j (by omega) hl he
    · refine Or.inr (fun j hj hl he => ?_)
      by_cases q : j = k
      · subst q; exact z he
      · exact hx j (by omega) hl he
theorem x_firstWithCode {post : Int32 → Prop} {row c : Nat} {Lc : List Nat} (hr : rw_ok row a_typeCodes a_typeLengths Lc) (hm : c ∈ Lc) (hc : c < 100) (hp : post (nI (cn_ix c Lc))) :
    wpX_firstWithCode post (f_saidPlace, f_instanceCount, f_nodeCount, f_equationCount, f_stackCount, f_wordCount, f_depth, f_cellCount, f_consCount, f_closureCount, f_stepCount, f_runAnswer, f_writtenCount, a_kinds, a_values, a_spans, a_bounds, a_binders, a_lengths, a_parameterCounts, a_typeCodes, a_typeLengths, a_instanceFunctions, a_nodeKinds, a_nodeLefts, a_nodeRights, a_nodeSizes, a_equationLefts, a_equationRights, a_stackLefts, a_stackRights, a_words, a_boundWords, a_cellFirsts, a_cellSeconds, a_closureTokens, a_closureWords, a_written) (nI row) (nI c) := by
  have h1 := hr.1
  have h2 := hr.2.1
  refine And.intro (pk_in row 18 h1) (nm_r (e' := nI Lc.length + (-1)) (by rw [nI_clamp (by omega), hr.2.2.1, Int32.sub_eq_add_neg]) (Exists.intro 43 ?_))
  exact x_fwc12 hr hm hc hp Lc.length 43 0 (Nat.le_refl _) (by omega) (Or.inr (fun j h3 h4 => by omega))
/-- what loading writes for place j -/
def ld_k (Lc : List Nat) (j : Nat) : Int32 := if Lc.getD j 0 < 10 then nI (Lc.getD j 0) else if cn_ix (Lc.getD j 0) Lc = j then 10 else 5
def ld_l (B : Nat) (Lc : List Nat) (j : Nat) : Nat := if Lc.getD j 0 < 10 then B + j + 1 else B + cn_ix (Lc.getD j 0) Lc
def ld_r (B : Nat) (tau : Nat → mt_T) (j : Nat) : Nat := B + j + 1 + (mt_enc (tau (j + 1))).length
def ld_p (B : Nat) (Lc : List Nat) (tau : Nat → mt_T) (K nl nr sz : Nat → Int32) (j : Nat) : Prop :=
  K (B + j) = ld_k Lc j ∧ nl (B + j) = (if ld_k Lc j = 10 then -1 else nI (ld_l B Lc j)) ∧ (gr_rg (ld_k Lc j) → nr (B + j) = nI (ld_r B tau j)) ∧ sz (B + j) = nI (mt_enc (tau j)).length
theorem ld_keep {B : Nat} {Lc : List Nat} {tau : Nat → mt_T} {K nl nr sz K' nl' nr' sz' : Nat → Int32} {j : Nat} (h : ld_p B Lc tau K nl nr sz j) (e1 : K' (B + j) = K (B + j)) (e2 : nl' (B + j) = nl (B + j)) (e3 : nr' (B + j) = nr (B + j)) (e4 : sz' (B + j) = sz (B + j)) :
    ld_p B Lc tau K' nl' nr' sz' j := by
  obtain ⟨a, b, c, d⟩ := h
  exact ⟨by rw [e1]; exact a, by rw [e2]; exact b, fun z => by rw [e3]; exact c z, by rw [e4]; exact d⟩
/-- the code of a place says what its tree is -/
theorem tk_c {Lc : List Nat} {tau : Nat → mt_T} (h : tk_at Lc tau) {j : Nat} (hj : j < Lc.length) :
    (Lc.getD j 0 = 0 ∧ tau j = .leaf 0) ∨ (Lc.getD j 0 = 1 ∧ tau j = .leaf 1) ∨ (10 ≤ Lc.getD j 0 ∧ tau j = .leaf (Lc.getD j 0)) ∨
    (Lc.getD j 0 = 3 ∧ tau j = .branch 3 (tau (j + 1)) (.leaf 0) ∧ j + 1 < Lc.length) ∨
    ((Lc.getD j 0 = 2 ∨ Lc.getD j 0 = 4) ∧ tau j = .branch (Lc.getD j 0) (tau (j + 1)) (tau (j + 1 + (mt_enc (tau (j + 1))).length)) ∧ j + 1 + (mt_enc (tau (j + 1))).length < Lc.length) := by
  obtain ⟨w1, w2, w3, w4⟩ := h j hj
  generalize ht : tau j = t at *
  cases t with
  | leaf n =>
    simp only [mt_hd] at w2
    rw [w2]
    rcases w1 with z | z | z
    · subst z; exact Or.inl ⟨rfl, rfl⟩
    · subst z; exact Or.inr (Or.inl ⟨rfl, rfl⟩)
    · exact Or.inr (Or.inr (Or.inl ⟨z, rfl⟩))
  | branch c a b =>
    simp only [mt_hd] at w2
    obtain ⟨q1, q2⟩ := w4 a b c rfl
    rw [w2]
    have ha := mt_enc_ne a
    rcases w1 with ⟨z, _, zb⟩ | ⟨z, _, _⟩
    · subst z; subst zb
      simp only [mt_enc, if_true, List.append_nil, List.length_cons] at w3
      exact Or.inr (Or.inr (Or.inr (Or.inl ⟨rfl, by rw [q1], by omega⟩)))
    · have h3 : c ≠ 3 := by omega
      have hb := mt_enc_ne b
      simp only [mt_enc, if_neg h3, List.length_cons, List.length_append] at w3
      refine Or.inr (Or.inr (Or.inr (Or.inr ⟨z, ?_, ?_⟩)))
      · rw [q1, q2 h3]
      · rw [q1]; omega
end
section
variable {f_saidPlace f_instanceCount f_nodeCount f_equationCount f_stackCount f_wordCount f_depth f_cellCount f_consCount f_closureCount f_stepCount f_runAnswer f_writtenCount : Int32} {a_kinds a_values a_spans a_bounds a_binders a_lengths a_parameterCounts a_typeCodes a_typeLengths a_instanceFunctions a_nodeKinds a_nodeLefts a_nodeRights a_nodeSizes a_equationLefts a_equationRights a_stackLefts a_stackRights a_words a_boundWords a_cellFirsts a_cellSeconds a_closureTokens a_closureWords a_written : Nat → Int32}
theorem ld_kd {Lc : List Nat} {tau : Nat → mt_T} (h : tk_at Lc tau) {j : Nat} (hj : j < Lc.length) : gr_kd (ld_k Lc j) ∧ (Lc.getD j 0 < 10 → (gr_lf (nI (Lc.getD j 0)) ↔ 2 ≤ Lc.getD j 0) ∧ (gr_rg (nI (Lc.getD j 0)) ↔ Lc.getD j 0 = 2 ∨ Lc.getD j 0 = 4)) := by
  unfold ld_k
  rcases tk_c h hj with ⟨z, _⟩ | ⟨z, _⟩ | ⟨z, _⟩ | ⟨z, _⟩ | ⟨z | z, _⟩
  · rw [z]; exact ⟨Or.inl rfl, fun _ => ⟨by unfold gr_lf; decide, by unfold gr_rg; decide⟩⟩
  · rw [z]; exact ⟨Or.inr (Or.inl rfl), fun _ => ⟨by unfold gr_lf; decide, by unfold gr_rg; decide⟩⟩
  · refine ⟨?_, fun q => by omega⟩
    rw [if_neg (by omega)]
    split
    · exact kd_10
    · exact Or.inr (Or.inr (Or.inr (Or.inr (Or.inr (Or.inl rfl)))))
  · rw [z]; exact ⟨kd_3, fun _ => ⟨by unfold gr_lf; decide, by unfold gr_rg; decide⟩⟩
  · rw [z]; exact ⟨kd_2, fun _ => ⟨by unfold gr_lf; decide, by unfold gr_rg; decide⟩⟩
  · rw [z]; exact ⟨kd_4, fun _ => ⟨by unfold gr_lf; decide, by unfold gr_rg; decide⟩⟩
theorem ni_big {a : Nat} (h : 10 ≤ a) (h2 : a < 100) : ¬ gr_lf (nI a) ∧ ¬ gr_rg (nI a) := by
  have e : ∀ b, b < 10 → nI a ≠ nI b := fun b hb z => by have := (nI_eq (by omega) (by omega)).mp z; omega
  refine ⟨?_, ?_⟩
  · rintro (z | z | z)
    · exact e 3 (by omega) z
    · exact e 2 (by omega) z
    · exact e 4 (by omega) z
  · rintro (z | z)
    · exact e 2 (by omega) z
    · exact e 4 (by omega) z
theorem up_up {f : Nat → Int32} {k : Nat} {x y : Int32} : upd (upd f k x) k y = upd f k y := by
  funext j
  by_cases z : j = k
  · subst z; rw [pk_us, pk_us]
  · rw [pk_un z, pk_un z, pk_un z]
theorem x_load14 {post : Int32 → SX → Prop} {B row : Nat} {Lc : List Nat} {tau : Nat → mt_T} (hr : rw_ok row a_typeCodes a_typeLengths Lc) (ht : tk_at Lc tau) (hB : B + Lc.length ≤ 1126)
    (hP : ∀ K' nl' nr' sz', (∀ n, n < B → K' n = a_nodeKinds n ∧ nl' n = a_nodeLefts n ∧ nr' n = a_nodeRights n) → (∀ j, j < Lc.length → ld_p B Lc tau K' nl' nr' sz' j) →
      post (nI B) (f_saidPlace, f_instanceCount, (nI (B + Lc.length)), f_equationCount, f_stackCount, f_wordCount, f_depth, f_cellCount, f_consCount, f_closureCount, f_stepCount, f_runAnswer, f_writtenCount, a_kinds, a_values, a_spans, a_bounds, a_binders, a_lengths, a_parameterCounts, a_typeCodes, a_typeLengths, a_instanceFunctions, K', nl', nr', sz', a_equationLefts, a_equationRights, a_stackLefts, a_stackRights, a_words, a_boundWords, a_cellFirsts, a_cellSeconds, a_closureTokens, a_closureWords, a_written)) :
    ∀ i f K nl nr sz, i ≤ Lc.length → i < f → (∀ n, n < B → K n = a_nodeKinds n ∧ nl n = a_nodeLefts n ∧ nr n = a_nodeRights n) → (∀ j, i ≤ j → j < Lc.length → ld_p B Lc tau K nl nr sz j) →
      wX_loadRow_14 post (nI row) (nI B) f_saidPlace f_instanceCount f_nodeCount f_equationCount f_stackCount f_wordCount f_depth f_cellCount f_consCount f_closureCount f_stepCount f_runAnswer f_writtenCount f (nI i + (-1)) a_kinds a_values a_spans a_bounds a_binders a_lengths a_parameterCounts a_typeCodes a_typeLengths a_instanceFunctions K nl nr sz a_equationLefts a_equationRights a_stackLefts a_stackRights a_words a_boundWords a_cellFirsts a_cellSeconds a_closureTokens a_closureWords a_written := by
  have hr' := hr
  obtain ⟨h1, h2, h3, h4⟩ := hr'
  intro i
  induction i with
  | zero =>
    intro f K nl nr sz hi hf hlow hin
    obtain ⟨f, rfl⟩ : ∃ g, f = g + 1 := ⟨f - 1, by omega⟩
    refine br_t (by decide) (And.intro (pk_in row 18 h1) (nm_r (e' := nI (B + Lc.length)) (by rw [nI_clamp (by omega), h3, nI_add]) ?_))
    exact hP K nl nr sz hlow (fun j hj => hin j (by omega) hj)
  | succ k ih =>
    intro f K nl nr sz hi hf hlow hin
    obtain ⟨f, rfl⟩ : ∃ g, f = g + 1 := ⟨f - 1, by omega⟩
    rw [pk_m1 k]
    obtain ⟨e1, e2⟩ := h4 k (by omega)
    have cx : (nI (B + k)).toNatClampNeg = B + k := nI_clamp (by omega)
    have hE := (ht k (by omega)).2.2.1
    refine br_f (nI_pos (by omega)) (nm_r (nI_add B k) (And.intro (pk_in (row * 42 + k) 756 (by omega) (ix_42 row k)) (nm_r (e' := nI (Lc.getD k 0)) (by rw [ix_42, nI_clamp (by omega), e1]) ?_)))
    -- the last step: the size
    have step : ∀ (z0 : Nat) (K1 nl1 nr1 : Nat → Int32), (∀ n, n ≠ B + k → K1 n = K n ∧ nl1 n = nl n ∧ nr1 n = nr n) →
        (gr_rg (nI (Lc.getD k 0)) → z0 = 1 + (mt_enc (tau (k + 1))).length) → (¬ gr_rg (nI (Lc.getD k 0)) → z0 = (mt_enc (tau k)).length) → z0 < 100 →
        (∀ sz1, sz1 (B + k) = nI (mt_enc (tau k)).length → ld_p B Lc tau K1 nl1 nr1 sz1 k) →
        wX_loadRow_152 post (wX_loadRow_14 post (nI row) (nI B) f_saidPlace f_instanceCount f_nodeCount f_equationCount f_stackCount f_wordCount f_depth f_cellCount f_consCount f_closureCount f_stepCount f_runAnswer f_writtenCount f) (nI row) (nI B) (nI k) (nI (B + k)) (nI (Lc.getD k 0)) (nI z0) f_saidPlace f_instanceCount f_nodeCount f_equationCount f_stackCount f_wordCount f_depth f_cellCount f_consCount f_closureCount f_stepCount f_runAnswer f_writtenCount a_kinds a_values a_spans a_bounds a_binders a_lengths a_parameterCounts a_typeCodes a_typeLengths a_instanceFunctions K1 nl1 nr1 sz a_equationLefts a_equationRights a_stackLefts a_stackRights a_words a_boundWords a_cellFirsts a_cellSeconds a_closureTokens a_closureWords a_written := by
      intro z0 K1 nl1 nr1 hK1 hz1 hz2 hz3 hpk
      have fin : ∀ v, v = nI (mt_enc (tau k)).length → wX_loadRow_14 post (nI row) (nI B) f_saidPlace f_instanceCount f_nodeCount f_equationCount f_stackCount f_wordCount f_depth f_cellCount f_consCount f_closureCount f_stepCount f_runAnswer f_writtenCount f (nI k + (-1)) a_kinds a_values a_spans a_bounds a_binders a_lengths a_parameterCounts a_typeCodes a_typeLengths a_instanceFunctions K1 nl1 nr1 (upd sz (B + k) v) a_equationLefts a_equationRights a_stackLefts a_stackRights a_words a_boundWords a_cellFirsts a_cellSeconds a_closureTokens a_closureWords a_written := by
        intro v hv
        refine ih f K1 nl1 nr1 _ (by omega) (by omega) (fun n hn => ?_) (fun j hj hl => ?_)
        · obtain ⟨q1, q2, q3⟩ := hK1 n (by omega)
          rw [q1, q2, q3]; exact hlow n hn
        · by_cases z : j = k
          · subst z; exact hpk _ (by rw [pk_us]; exact hv)
          · obtain ⟨q1, q2, q3⟩ := hK1 (B + j) (by omega)
            exact ld_keep (hin j (by omega) hl) q1 q2 q3 (pk_un (by omega))
      refine x_hasRight (fun hg => br_f n1_0 ?_) (fun hg => br_t rfl ?_)
      · have hz := hz1 hg
        have h10 : Lc.getD k 0 < 10 := by
          rcases Nat.lt_or_ge (Lc.getD k 0) 10 with q | q
          · exact q
          · exact absurd hg (ni_big q e2).2
        have h24 := ((ld_kd ht (by omega)).2 h10).2.mp hg
        rcases tk_c ht (j := k) (by omega) with ⟨z, _⟩ | ⟨z, _⟩ | ⟨z, _⟩ | ⟨z, _⟩ | ⟨_, tb, tl⟩
        · omega
        · omega
        · omega
        · omega
        · have pz := (hin (k + 1 + (mt_enc (tau (k + 1))).length) (by omega) tl).2.2.2
          have ez : nI (B + k) + nI z0 = nI (B + (k + 1 + (mt_enc (tau (k + 1))).length)) := by rw [nI_add, hz]; exact congrArg nI (by omega)
          refine And.intro (pk_in (B + (k + 1 + (mt_enc (tau (k + 1))).length)) 1126 (by omega) ez) (And.intro (pk_in (B + k) 1126 (by omega)) (nm_r (e' := upd sz (B + k) (nI (mt_enc (tau k)).length)) ?_ (nm_e (fin _ rfl))))
          rw [cx, ez, nI_clamp (by omega), pz, nI_add]
          congr 2
          rw [tb]
          have h3 : ¬ Lc.getD k 0 = 3 := by omega
          simp only [mt_enc, if_neg h3, List.length_cons, List.length_append]
          omega
      · refine And.intro (pk_in (B + k) 1126 (by omega)) (nm_r (e' := upd sz (B + k) (nI z0)) (by rw [cx]) (nm_e (fin _ (by rw [hz2 hg]))))
    -- all but the size
    have mid : ∀ z0 : Nat, z0 < 100 → (gr_rg (nI (Lc.getD k 0)) → z0 = 1 + (mt_enc (tau (k + 1))).length) → (¬ gr_rg (nI (Lc.getD k 0)) → z0 = (mt_enc (tau k)).length) →
        wX_loadRow_60 post (wX_loadRow_14 post (nI row) (nI B) f_saidPlace f_instanceCount f_nodeCount f_equationCount f_stackCount f_wordCount f_depth f_cellCount f_consCount f_closureCount f_stepCount f_runAnswer f_writtenCount f) (nI row) (nI B) (nI k) (nI (B + k)) (nI (Lc.getD k 0)) (nI z0) f_saidPlace f_instanceCount f_nodeCount f_equationCount f_stackCount f_wordCount f_depth f_cellCount f_consCount f_closureCount f_stepCount f_runAnswer f_writtenCount a_kinds a_values a_spans a_bounds a_binders a_lengths a_parameterCounts a_typeCodes a_typeLengths a_instanceFunctions K nl nr sz a_equationLefts a_equationRights a_stackLefts a_stackRights a_words a_boundWords a_cellFirsts a_cellSeconds a_closureTokens a_closureWords a_written := by
      intro z0 hz0 hz1 hz2
      refine And.intro (pk_in (B + k) 1126 (by omega)) (nm_r (e' := upd K (B + k) (nI (Lc.getD k 0))) (by rw [cx]) (And.intro (pk_in (B + k) 1126 (by omega)) (nm_r (e' := upd nl (B + k) (nI (B + k + 1))) (by rw [cx, nI_1]) (And.intro (pk_in (B + k) 1126 (by omega)) (nm_r (e' := upd nr (B + k) (nI (B + k + z0))) (by rw [cx, nI_add]) ?_)))))
      refine pk_lt (Lc.getD k 0) 10 (fun hlt => ?_) (fun hge => ?_)
      · refine step z0 _ _ _ (fun n hn => ⟨pk_un hn, pk_un hn, pk_un hn⟩) hz1 hz2 hz0 (fun sz1 hs => ?_)
        have hk : ld_k Lc k = nI (Lc.getD k 0) := if_pos hlt
        have hne : ¬ nI (Lc.getD k 0) = 10 := fun z => by have := (nI_eq (b := 10) (by omega) (by omega)).mp z; omega
        refine ⟨by rw [pk_us, hk], ?_, fun hg => ?_, hs⟩
        · rw [pk_us, hk, if_neg hne, ld_l, if_pos hlt]
        · rw [pk_us, ld_r, hz1 (by rw [← hk]; exact hg)]; exact congrArg nI (by omega)
      · have hmem := gd_mem Lc k (by omega)
        have hlt := cn_ix_lt Lc hmem
        obtain ⟨nb1, nb2⟩ := ni_big hge e2
        refine x_firstWithCode hr hmem e2 (nm_r (nI_add B _) (pk_eq (B + cn_ix (Lc.getD k 0) Lc) (B + k) (fun z => ?_) (fun z => ?_)))
        · have hk : ld_k Lc k = 10 := by unfold ld_k; rw [if_neg (by omega), if_pos (by omega)]
          refine And.intro (pk_in (B + k) 1126 (by omega)) (nm_r (e' := upd K (B + k) 10) (by rw [cx, up_up]) (br_t (by rw [z]) (And.intro (pk_in (B + k) 1126 (by omega)) (nm_r (e' := upd nl (B + k) (-1)) (by rw [cx, up_up]) ?_))))
          refine step z0 _ _ _ (fun n hn => ⟨pk_un hn, pk_un hn, pk_un hn⟩) hz1 hz2 hz0 (fun sz1 hs => ?_)
          refine ⟨by rw [pk_us, hk], by rw [pk_us, hk, if_pos rfl], fun hg => ?_, hs⟩
          rw [hk] at hg; exact absurd hg nrg10
        · have hk : ld_k Lc k = 5 := by unfold ld_k; rw [if_neg (by omega), if_neg (by omega)]
          refine And.intro (pk_in (B + k) 1126 (by omega)) (nm_r (e' := upd K (B + k) 5) (by rw [cx, up_up]) (br_f (fun q => z ((nI_eq (by omega) (by omega)).mp q)) (And.intro (pk_in (B + k) 1126 (by omega)) (nm_r (e' := upd nl (B + k) (nI (B + cn_ix (Lc.getD k 0) Lc))) (by rw [cx, up_up]) ?_))))
          refine step z0 _ _ _ (fun n hn => ⟨pk_un hn, pk_un hn, pk_un hn⟩) hz1 hz2 hz0 (fun sz1 hs => ?_)
          refine ⟨by rw [pk_us, hk], ?_, fun hg => ?_, hs⟩
          · rw [pk_us, hk, if_neg (by decide), ld_l, if_neg (by omega)]
          · rw [hk] at hg; rcases hg with q | q <;> exact absurd q (by decide)
    refine x_hasLeft (fun hl => br_f n1_0 ?_) (fun hl => br_t rfl ?_)
    · have h10 : Lc.getD k 0 < 10 := by
        rcases Nat.lt_or_ge (Lc.getD k 0) 10 with q | q
        · exact q
        · exact absurd hl (ni_big q e2).1
      have h2' := ((ld_kd ht (by omega)).2 h10).1.mp hl
      have hk1 : k + 1 < Lc.length ∧ (¬ gr_rg (nI (Lc.getD k 0)) → 1 + (mt_enc (tau (k + 1))).length = (mt_enc (tau k)).length) := by
        rcases tk_c ht (j := k) (by omega) with ⟨z, _⟩ | ⟨z, _⟩ | ⟨z, _⟩ | ⟨z, tb, tl⟩ | ⟨z, tb, tl⟩
        · omega
        · omega
        · omega
        · refine ⟨tl, fun _ => ?_⟩
          rw [tb]; simp only [mt_enc, if_true, List.append_nil, List.length_cons]; omega
        · have := mt_enc_ne (tau (k + 1))
          exact ⟨by omega, fun q => absurd (((ld_kd ht (by omega)).2 h10).2.mpr z) q⟩
      have pz := (hin (k + 1) (by omega) hk1.1).2.2.2
      have hE1 := (ht (k + 1) hk1.1).2.2.1
      refine And.intro (pk_in (B + k + 1) 1126 (by omega) (nI_1 _)) ?_
      have e3 : (1 : Int32) + sz (nI (B + k) + 1).toNatClampNeg = nI (1 + (mt_enc (tau (k + 1))).length) := by
        rw [nI_1, nI_clamp (by omega)]
        have : B + k + 1 = B + (k + 1) := by omega
        rw [this, pz]; exact nI_add 1 _
      rw [e3]
      exact mid _ (by omega) (fun _ => rfl) hk1.2
    · refine mid 1 (by omega) (fun hg => absurd (Or.inr hg) hl) (fun _ => ?_)
      rcases tk_c ht (j := k) (by omega) with ⟨_, tb⟩ | ⟨_, tb⟩ | ⟨_, tb⟩ | ⟨z, _⟩ | ⟨z, _⟩
      · rw [tb]; rfl
      · rw [tb]; rfl
      · rw [tb]; rfl
      · rw [z] at hl; exact absurd (Or.inl rfl) hl
      · rcases z with z | z
        · rw [z] at hl; exact absurd (Or.inr (Or.inl rfl)) hl
        · rw [z] at hl; exact absurd (Or.inr (Or.inr rfl)) hl
end
section
variable {f_saidPlace f_instanceCount f_nodeCount f_equationCount f_stackCount f_wordCount f_depth f_cellCount f_consCount f_closureCount f_stepCount f_runAnswer f_writtenCount : Int32} {a_kinds a_values a_spans a_bounds a_binders a_lengths a_parameterCounts a_typeCodes a_typeLengths a_instanceFunctions a_nodeKinds a_nodeLefts a_nodeRights a_nodeSizes a_equationLefts a_equationRights a_stackLefts a_stackRights a_words a_boundWords a_cellFirsts a_cellSeconds a_closureTokens a_closureWords a_written : Nat → Int32}
theorem lk_ext {K K' : Nat → Int32} {B : Nat} (h : ∀ n, n < B → K' n = K n) : ∀ m, lk_ct K B ≤ lk_ct K' (B + m) := by
  intro m
  induction m with
  | zero => rw [Nat.add_zero, lk_same B h]; exact Nat.le_refl _
  | succ m ih => show _ ≤ lk_ct K' (B + m) + _; omega
theorem lk_pos {K : Nat → Int32} {n : Nat} (h : K n = 5) : ∀ M, n < M → 1 ≤ lk_ct K M := by
  intro M
  induction M with
  | zero => intro z; omega
  | succ M ih =>
    intro z
    simp only [lk_ct]
    by_cases e : n = M
    · subst e; rw [if_pos h]; omega
    · have := ih (by omega); omega
theorem ld_fin {B : Nat} {Lc : List Nat} {tau : Nat → mt_T} {K nl nr K' nl' nr' sz' : Nat → Int32} {L R rt ds : Nat → Nat} (hg : xg_ok B K nl nr L R rt ds) (ht : tk_at Lc tau)
    (hlow : ∀ n, n < B → K' n = K n ∧ nl' n = nl n ∧ nr' n = nr n) (hin : ∀ j, j < Lc.length → ld_p B Lc tau K' nl' nr' sz' j) :
    ∃ L' R' rt' ds', xg_ok (B + Lc.length) K' nl' nr' L' R' rt' ds' ∧ (∀ n, n < B → L' n = L n ∧ R' n = R n) ∧ tl_is B (B + Lc.length) K' L' R' (fun n => tau (n - B)) ∧
      (∀ n v, B ≤ n → n < B + Lc.length → K' n = 10 → tau (n - B) = .leaf (10 + v) → B + cn_ix (10 + v) Lc = n) := by
  let L' : Nat → Nat := fun n => if n < B then L n else ld_l B Lc (n - B)
  let R' : Nat → Nat := fun n => if n < B then R n else ld_r B tau (n - B)
  have hLl : ∀ n, n < B → L' n = L n := fun n hn => if_pos hn
  have hRl : ∀ n, n < B → R' n = R n := fun n hn => if_pos hn
  have hLh : ∀ j, L' (B + j) = ld_l B Lc j := fun j => by show (if B + j < B then _ else ld_l B Lc (B + j - B)) = _; rw [if_neg (by omega), Nat.add_sub_cancel_left]
  have hRh : ∀ j, R' (B + j) = ld_r B tau j := fun j => by show (if B + j < B then _ else ld_r B tau (B + j - B)) = _; rw [if_neg (by omega), Nat.add_sub_cancel_left]
  -- the nodes of the row
  have node : ∀ j, j < Lc.length → (K' (B + j) = 0 ∧ tau j = .leaf 0) ∨ (K' (B + j) = 1 ∧ tau j = .leaf 1) ∨ (K' (B + j) = 10 ∧ nl' (B + j) = -1 ∧ tau j = .leaf (Lc.getD j 0) ∧ 10 ≤ Lc.getD j 0 ∧ cn_ix (Lc.getD j 0) Lc = j) ∨
      (K' (B + j) = 5 ∧ nl' (B + j) = nI (L' (B + j)) ∧ L' (B + j) = B + cn_ix (Lc.getD j 0) Lc ∧ tau j = .leaf (Lc.getD j 0) ∧ 10 ≤ Lc.getD j 0) ∨
      (K' (B + j) = 3 ∧ nl' (B + j) = nI (L' (B + j)) ∧ L' (B + j) = B + (j + 1) ∧ j + 1 < Lc.length ∧ tau j = .branch 3 (tau (j + 1)) (.leaf 0)) ∨
      ((K' (B + j) = 2 ∨ K' (B + j) = 4) ∧ nl' (B + j) = nI (L' (B + j)) ∧ L' (B + j) = B + (j + 1) ∧ nr' (B + j) = nI (R' (B + j)) ∧ R' (B + j) = B + (j + 1 + (mt_enc (tau (j + 1))).length) ∧ j + 1 + (mt_enc (tau (j + 1))).length < Lc.length ∧
        tau j = .branch (Lc.getD j 0) (tau (j + 1)) (tau (j + 1 + (mt_enc (tau (j + 1))).length)) ∧ K' (B + j) = nI (Lc.getD j 0)) := by
    intro j hj
    obtain ⟨p1, p2, p3, _⟩ := hin j hj
    have hk := p1
    unfold ld_k at hk
    have small : Lc.getD j 0 < 10 → ld_k Lc j = nI (Lc.getD j 0) := fun h => if_pos h
    rcases tk_c ht hj with ⟨z, tb⟩ | ⟨z, tb⟩ | ⟨z, tb⟩ | ⟨z, tb, tl⟩ | ⟨z, tb, tl⟩
    · left; rw [if_pos (by omega), z] at hk; exact ⟨hk, tb⟩
    · right; left; rw [if_pos (by omega), z] at hk; exact ⟨hk, tb⟩
    · rw [if_neg (by omega)] at hk
      by_cases q : cn_ix (Lc.getD j 0) Lc = j
      · right; right; left
        rw [if_pos q] at hk
        rw [← p1, hk, if_pos rfl] at p2
        exact ⟨hk, p2, tb, z, q⟩
      · right; right; right; left
        rw [if_neg q] at hk
        rw [← p1, hk, if_neg (by decide)] at p2
        refine ⟨hk, by rw [hLh]; exact p2, ?_, tb, z⟩
        rw [hLh, ld_l, if_neg (by omega)]
    · right; right; right; right; left
      rw [if_pos (by omega), z] at hk
      rw [← p1, hk, if_neg (by decide)] at p2
      refine ⟨hk, by rw [hLh]; exact p2, ?_, tl, tb⟩
      rw [hLh, ld_l, if_pos (by omega)]; omega
    · right; right; right; right; right
      have hlt : Lc.getD j 0 < 10 := by omega
      rw [if_pos hlt] at hk
      have h24 : K' (B + j) = 2 ∨ K' (B + j) = 4 := by
        rcases z with z | z
        · left; rw [hk, z]; rfl
        · right; rw [hk, z]; rfl
      have hne : ¬ ld_k Lc j = 10 := by
        rw [← p1]; rcases h24 with q | q <;> (rw [q]; decide)
      rw [if_neg hne] at p2
      refine ⟨h24, by rw [hLh]; exact p2, ?_, ?_, ?_, tl, tb, hk⟩
      · rw [hLh, ld_l, if_pos hlt]; omega
      · rw [hRh]; exact p3 (by rw [← p1]; exact h24)
      · rw [hRh, ld_r]; omega
  have link : ∀ j, j < Lc.length → K' (B + j) = 5 → ∃ i, i < Lc.length ∧ L' (B + j) = B + i ∧ K' (B + i) = 10 ∧ tau i = tau j := by
    intro j hj h5
    rcases node j hj with ⟨z, _⟩ | ⟨z, _⟩ | ⟨z, _⟩ | ⟨_, _, e, tb, hv⟩ | ⟨z, _⟩ | ⟨z, _⟩
    · rw [h5] at z; exact absurd z (by decide)
    · rw [h5] at z; exact absurd z (by decide)
    · rw [h5] at z; exact absurd z (by decide)
    · have hm := gd_mem Lc j hj
      have h1 := cn_ix_lt Lc hm
      have h2 := cn_ix_get Lc hm
      refine ⟨cn_ix (Lc.getD j 0) Lc, h1, e, ?_, ?_⟩
      · rw [(hin _ h1).1]; unfold ld_k; rw [h2, if_neg (by omega), if_pos rfl]
      · rcases tk_c ht h1 with ⟨q, _⟩ | ⟨q, _⟩ | ⟨_, q⟩ | ⟨q, _⟩ | ⟨q, _⟩
        · omega
        · omega
        · rw [q, h2, tb]
        · omega
        · omega
    · rw [h5] at z; exact absurd z (by decide)
    · rw [h5] at z; rcases z with z | z <;> exact absurd z (by decide)
  have split : ∀ n, n < B + Lc.length → n < B ∨ ∃ j, j < Lc.length ∧ n = B + j := by
    intro n hn
    rcases Nat.lt_or_ge n B with z | z
    · exact Or.inl z
    · exact Or.inr ⟨n - B, by omega, by omega⟩
  refine ⟨L', R', fun n => if n < B then rt n else if K' n = 5 then L' n else n, fun n => if n < B then ds n else if K' n = 5 then 1 else 0, ⟨fun n hn => ?_, fun n hn => ?_⟩, fun n hn => ⟨hLl n hn, hRl n hn⟩, fun n h1 h2 => ?_, fun n v h1 h2 hk he => ?_⟩
  · rcases split n hn with z | ⟨j, hj, rfl⟩
    · obtain ⟨q1, q2, q3⟩ := hlow n z
      obtain ⟨a1, a2, a3, a4⟩ := hg.1 n z
      rw [q1, q2, q3, hLl n z, hRl n z]
      exact ⟨a1, fun q => ⟨(a2 q).1, by have := (a2 q).2; omega⟩, fun q => ⟨(a3 q).1, by have := (a3 q).2; omega⟩, a4⟩
    · refine ⟨by rw [(hin j hj).1]; exact (ld_kd ht hj).1, ?_⟩
      rcases node j hj with ⟨z, _⟩ | ⟨z, _⟩ | ⟨z, zl, _⟩ | ⟨z, zl, e, _, _⟩ | ⟨z, zl, e, hl, _⟩ | ⟨z, zl, e, zr, er, hl, _⟩
      · rw [z]; exact ⟨fun q => q.elim (fun q => absurd q (by decide)) (fun q => absurd q (by unfold gr_lf; decide)), fun q => absurd q (by unfold gr_rg; decide), fun q => absurd q (by decide)⟩
      · rw [z]; exact ⟨fun q => q.elim (fun q => absurd q (by decide)) (fun q => absurd q (by unfold gr_lf; decide)), fun q => absurd q (by unfold gr_rg; decide), fun q => absurd q (by decide)⟩
      · rw [z]; exact ⟨fun q => q.elim (fun q => absurd q (by decide)) (fun q => absurd q nlf10), fun q => absurd q nrg10, fun _ => zl⟩
      · have := cn_ix_lt Lc (gd_mem Lc j hj)
        rw [z]; exact ⟨fun _ => ⟨zl, by omega⟩, fun q => absurd q (by unfold gr_rg; decide), fun q => absurd q (by decide)⟩
      · rw [z]; exact ⟨fun _ => ⟨zl, by omega⟩, fun q => absurd q nrg3, fun q => absurd q (by decide)⟩
      · refine ⟨fun _ => ⟨zl, by omega⟩, fun _ => ⟨zr, by omega⟩, fun q => ?_⟩
        rcases z with z | z <;> (rw [z] at q; exact absurd q (by decide))
  · rcases split n hn with z | ⟨j, hj, rfl⟩
    · obtain ⟨a1, a2, a3, a4, a5⟩ := hg.2 n z
      have hx := lk_ext (K := K) (K' := K') (B := B) (fun n hn => (hlow n hn).1) Lc.length
      simp only [if_pos z]
      rw [(hlow n z).1, (hlow _ a1).1, hLl n z]
      refine ⟨by omega, a2, a3, fun q => ?_, by omega⟩
      obtain ⟨b1, b2, b3⟩ := a4 q
      simp only [if_pos b1]
      exact ⟨by omega, b2, b3⟩
    · have hnb : ¬ B + j < B := by omega
      simp only [if_neg hnb]
      by_cases h5 : K' (B + j) = 5
      · obtain ⟨i, hi, e, hk, _⟩ := link j hj h5
        have hib : ¬ B + i < B := by omega
        have hp := lk_pos h5 (B + Lc.length) (by omega)
        simp only [if_pos h5]
        rw [e, hk]
        refine ⟨by omega, by decide, fun q => absurd h5 q, fun _ => ?_, by omega⟩
        simp only [if_neg hib, if_neg (show ¬ (10 : Int32) = 5 by decide)]
        exact ⟨by omega, by trivial, by trivial⟩
      · simp only [if_neg h5]
        exact ⟨by omega, h5, fun _ => ⟨by trivial, by trivial⟩, fun q => absurd q h5, by omega⟩
  · obtain ⟨j, hj, rfl⟩ : ∃ j, j < Lc.length ∧ n = B + j := ⟨n - B, by omega, by omega⟩
    have sb : ∀ i, B + i - B = i := fun i => by omega
    simp only [sb]
    refine ⟨(ht j hj).1, ?_⟩
    rcases node j hj with ⟨z, tb⟩ | ⟨z, tb⟩ | ⟨z, _, tb, hv, _⟩ | ⟨z, _, e, tb, _⟩ | ⟨z, _, e, hl, tb⟩ | ⟨z, _, e, _, er, hl, tb, hkc⟩
    · exact Or.inr (Or.inr (Or.inl ⟨z, tb⟩))
    · exact Or.inr (Or.inr (Or.inr (Or.inl ⟨z, tb⟩)))
    · exact Or.inl ⟨z, Lc.getD j 0 - 10, by rw [tb]; congr 1; omega⟩
    · obtain ⟨i, hi, e', hk, te⟩ := link j hj z
      refine Or.inr (Or.inl ⟨z, ?_⟩)
      rw [e', sb]
      exact ⟨by omega, by omega, te, hk⟩
    · refine Or.inr (Or.inr (Or.inr (Or.inr (Or.inl ⟨z, ?_⟩))))
      rw [e, sb]
      exact ⟨by omega, by omega, tb⟩
    · have hlt := mt_enc_ne (tau (j + 1))
      rcases z with z | z
      · refine Or.inr (Or.inr (Or.inr (Or.inr (Or.inr (Or.inl ⟨z, ?_⟩)))))
        have c2 : Lc.getD j 0 = 2 := by
          rcases tk_c ht hj with ⟨q, _⟩ | ⟨q, _⟩ | ⟨q, qt⟩ | ⟨q, _⟩ | ⟨q, _⟩
          · rw [hkc, q] at z; exact absurd z (by decide)
          · rw [hkc, q] at z; exact absurd z (by decide)
          · rw [tb] at qt; cases qt
          · rw [hkc, q] at z; exact absurd z (by decide)
          · rcases q with q | q
            · exact q
            · rw [hkc, q] at z; exact absurd z (by decide)
        rw [e, er, sb, sb]
        exact ⟨by omega, by omega, by omega, by omega, by rw [tb, c2]⟩
      · refine Or.inr (Or.inr (Or.inr (Or.inr (Or.inr (Or.inr ⟨z, ?_⟩)))))
        have c4 : Lc.getD j 0 = 4 := by
          rcases tk_c ht hj with ⟨q, _⟩ | ⟨q, _⟩ | ⟨q, qt⟩ | ⟨q, _⟩ | ⟨q, _⟩
          · rw [hkc, q] at z; exact absurd z (by decide)
          · rw [hkc, q] at z; exact absurd z (by decide)
          · rw [tb] at qt; cases qt
          · rw [hkc, q] at z; exact absurd z (by decide)
          · rcases q with q | q
            · rw [hkc, q] at z; exact absurd z (by decide)
            · exact q
        rw [e, er, sb, sb]
        exact ⟨by omega, by omega, by omega, by omega, by rw [tb, c4]⟩
  · obtain ⟨j, hj, rfl⟩ : ∃ j, j < Lc.length ∧ n = B + j := ⟨n - B, by omega, by omega⟩
    have sb : B + j - B = j := by omega
    rw [sb] at he
    rcases node j hj with ⟨z, _⟩ | ⟨z, _⟩ | ⟨_, _, tb, hv, hix⟩ | ⟨z, _⟩ | ⟨z, _⟩ | ⟨z, _⟩
    · rw [hk] at z; exact absurd z (by decide)
    · rw [hk] at z; exact absurd z (by decide)
    · rw [tb] at he
      simp only [Lean.RArray.leaf.injEq] at he
      rw [← he, hix]
    · rw [hk] at z; exact absurd z (by decide)
    · rw [hk] at z; exact absurd z (by decide)
    · rw [hk] at z; rcases z with z | z <;> exact absurd z (by decide)
theorem tk_pos_s : ∀ (ts : List mt_T) (p : Nat), p < ts.length → tk_pos ts (p + 1) = tk_pos ts p + (mt_enc (ts.getD p (.leaf 0))).length := by
  intro ts
  induction ts with
  | nil => intro p h; simp at h
  | cons t ts ih =>
    intro p h
    cases p with
    | zero => simp only [tk_pos, List.getD_cons_zero]; omega
    | succ p =>
      simp only [List.length_cons] at h
      rw [List.getD_cons_succ]
      show (mt_enc t).length + tk_pos ts (p + 1) = (mt_enc t).length + tk_pos ts p + _
      rw [ih p (by omega)]; omega
theorem tk_pos_lt : ∀ (ts : List mt_T) (p : Nat), p < ts.length → tk_pos ts p < (mt_encs ts).length := by
  intro ts
  induction ts with
  | nil => intro p h; simp at h
  | cons t ts ih =>
    intro p h
    have := mt_enc_ne t
    cases p with
    | zero => simp only [tk_pos, mt_encs, List.length_append]; omega
    | succ p =>
      simp only [List.length_cons] at h
      have := ih p (by omega)
      simp only [tk_pos, mt_encs, List.length_append]; omega
theorem tu_iff : ∀ (P : Nat) (ts : List mt_T) (f : Nat → mt_T) (x : mt_T) (s : Nat → mt_T), ts.length = P + 1 →
    ((List.range P).map f ++ [x] = ts.map (mt_sub s) ↔ (∀ j, j < P → f j = mt_sub s (ts.getD j (.leaf 0))) ∧ x = mt_sub s (ts.getD P (.leaf 0))) := by
  intro P
  induction P with
  | zero =>
    intro ts f x s h
    cases ts with
    | nil => simp at h
    | cons t ts =>
      cases ts with
      | nil => simp
      | cons u us => simp at h
  | succ P ih =>
    intro ts f x s h
    cases ts with
    | nil => simp at h
    | cons t ts =>
      simp only [List.length_cons] at h
      rw [List.range_succ_eq_map, List.map_cons, List.map_map, List.cons_append, List.map_cons, List.cons.injEq, ih ts (f ∘ Nat.succ) x s (by omega), List.getD_cons_succ]
      constructor
      · rintro ⟨a, b, c⟩
        refine ⟨fun j hj => ?_, c⟩
        cases j with
        | zero => exact a
        | succ j => rw [List.getD_cons_succ]; exact b j (by omega)
      · rintro ⟨a, c⟩
        refine ⟨a 0 (by omega), fun j hj => ?_, c⟩
        have := a (j + 1) (by omega)
        rw [List.getD_cons_succ] at this
        exact this
end
section
variable {f_saidPlace f_instanceCount f_nodeCount f_equationCount f_stackCount f_wordCount f_depth f_cellCount f_consCount f_closureCount f_stepCount f_runAnswer f_writtenCount : Int32} {a_kinds a_values a_spans a_bounds a_binders a_lengths a_parameterCounts a_typeCodes a_typeLengths a_instanceFunctions a_nodeKinds a_nodeLefts a_nodeRights a_nodeSizes a_equationLefts a_equationRights a_stackLefts a_stackRights a_words a_boundWords a_cellFirsts a_cellSeconds a_closureTokens a_closureWords a_written : Nat → Int32}
theorem x_loadRow {post : Int32 → SX → Prop} {B row : Nat} {Lc : List Nat} {tau : Nat → mt_T} {L R rt ds : Nat → Nat} (hr : rw_ok row a_typeCodes a_typeLengths Lc) (ht : tk_at Lc tau) (hB : B + Lc.length ≤ 1126)
    (hg : xg_ok B a_nodeKinds a_nodeLefts a_nodeRights L R rt ds)
    (hP : ∀ K' nl' nr' sz' L' R' rt' ds', xg_ok (B + Lc.length) K' nl' nr' L' R' rt' ds' → (∀ n, n < B → K' n = a_nodeKinds n ∧ L' n = L n ∧ R' n = R n) → tl_is B (B + Lc.length) K' L' R' (fun n => tau (n - B)) →
      (∀ n v, B ≤ n → n < B + Lc.length → K' n = 10 → tau (n - B) = .leaf (10 + v) → B + cn_ix (10 + v) Lc = n) → (∀ j, j < Lc.length → sz' (B + j) = nI (mt_enc (tau j)).length) →
      post (nI B) (f_saidPlace, f_instanceCount, (nI (B + Lc.length)), f_equationCount, f_stackCount, f_wordCount, f_depth, f_cellCount, f_consCount, f_closureCount, f_stepCount, f_runAnswer, f_writtenCount, a_kinds, a_values, a_spans, a_bounds, a_binders, a_lengths, a_parameterCounts, a_typeCodes, a_typeLengths, a_instanceFunctions, K', nl', nr', sz', a_equationLefts, a_equationRights, a_stackLefts, a_stackRights, a_words, a_boundWords, a_cellFirsts, a_cellSeconds, a_closureTokens, a_closureWords, a_written)) : wpX_loadRow post (f_saidPlace, f_instanceCount, (nI B), f_equationCount, f_stackCount, f_wordCount, f_depth, f_cellCount, f_consCount, f_closureCount, f_stepCount, f_runAnswer, f_writtenCount, a_kinds, a_values, a_spans, a_bounds, a_binders, a_lengths, a_parameterCounts, a_typeCodes, a_typeLengths, a_instanceFunctions, a_nodeKinds, a_nodeLefts, a_nodeRights, a_nodeSizes, a_equationLefts, a_equationRights, a_stackLefts, a_stackRights, a_words, a_boundWords, a_cellFirsts, a_cellSeconds, a_closureTokens, a_closureWords, a_written) (nI row) := by
  have h1 := hr.1
  have h2 := hr.2.1
  refine And.intro (pk_in row 18 h1) (nm_r (e' := nI Lc.length + (-1)) (by rw [nI_clamp (by omega), hr.2.2.1, Int32.sub_eq_add_neg]) (Exists.intro (Lc.length + 1) ?_))
  refine x_load14 hr ht hB (fun K' nl' nr' sz' hlow hin => ?_) Lc.length (Lc.length + 1) _ _ _ _ (Nat.le_refl _) (by omega) (fun n _ => ⟨rfl, rfl, rfl⟩) (fun j h3 h4 => by omega)
  obtain ⟨L', R', rt', ds', g', gl, gt, gv⟩ := ld_fin hg ht hlow hin
  exact hP K' nl' nr' sz' L' R' rt' ds' g' (fun n hn => ⟨(hlow n hn).1, gl n hn⟩) gt gv (fun j hj => (hin j hj).2.2.2)
/-- a row that is loaded, and its trees made equal to nodes: what that says -/
theorem ld_st {B M e P b : Nat} {Lc : List Nat} {ts : List mt_T} {tau : Nat → mt_T} {K nl nr K' el0 er0 : Nat → Int32} {L R rt ds L' R' EL ER EL0 ER0 a : Nat → Nat} {e0 : Nat} (hq0 : eq_ok B e0 el0 er0 EL0 ER0) (hg : xg_ok B K nl nr L R rt ds) (hM : M = B + Lc.length)
    (ht : tk_at Lc tau) (hw : ∀ t ∈ ts, mt_wf t) (hL : mt_encs ts = Lc) (hlen : ts.length = P + 1) (hp : ∀ j, j < ts.length → tau (tk_pos ts j) = ts.getD j (.leaf 0))
    (hlow : ∀ n, n < B → K' n = K n ∧ L' n = L n ∧ R' n = R n) (htl : tl_is B M K' L' R' (fun n => tau (n - B)))
    (hv : ∀ n v, B ≤ n → n < M → K' n = 10 → tau (n - B) = .leaf (10 + v) → B + cn_ix (10 + v) Lc = n)
    (ha : ∀ j, j < P → a j < B) (hb : b < B) (he : ∀ r, eq_all e EL ER r ↔ eq_all e0 EL0 ER0 r ∧ (∀ j, j < P → r (a j) = r (B + tk_pos ts j)) ∧ r b = r (B + tk_pos ts P)) :
    st_ok B e0 K L R EL0 ER0 M e K' L' R' EL ER (fun r => sc_inst Lc ((List.range P).map (fun j => r (a j)) ++ [r b])) := by
  have pl : ∀ j, j ≤ P → tk_pos ts j < Lc.length := fun j hj => by rw [← hL]; exact tk_pos_lt ts j (by omega)
  have sb : ∀ i, B + i - B = i := fun i => by omega
  have hext := fun r => gr_sat_ext (r := r) (N := B) (M := M) (K := K) (K' := K') (L := L) (L' := L') (R := R) (R' := R') (by omega) (fun n hn => (hlow n hn).1) (fun n hn _ => (hlow n hn).2.1) (fun n hn _ => (hlow n hn).2.2)
  refine ⟨fun r hwf h1 h2 => ?_, fun r hwf h1 h2 => ?_⟩
  · obtain ⟨g1, g2⟩ := (hext r).mp h1
    obtain ⟨e0', e1, e2⟩ := (he r).mp h2
    refine ⟨⟨g1, e0'⟩, ts, hw, hL, fun v => r (B + cn_ix (10 + v) Lc), fun v => hwf _, (tu_iff P ts _ _ _ hlen).mpr ?_⟩
    have key : ∀ j, j ≤ P → r (B + tk_pos ts j) = mt_sub (fun v => r (B + cn_ix (10 + v) Lc)) (ts.getD j (.leaf 0)) := by
      intro j hj
      have := tl_1 htl hv g2 _ (B + tk_pos ts j) (by omega) (by have := pl j hj; omega) (Nat.le_refl _)
      rw [sb, hp j (by omega)] at this
      exact this
    exact ⟨fun j hj => by rw [e1 j hj]; exact key j (by omega), by rw [e2]; exact key P (Nat.le_refl _)⟩
  · obtain ⟨ts', hw', hL', s, hs, hts⟩ := h2
    have ets : ts' = ts := mt_decs ts' ts hw' hw (hL'.trans hL.symm)
    subst ets
    obtain ⟨e1, e2⟩ := (tu_iff P ts' _ _ _ hlen).mp hts
    let r' : Nat → mt_T := fun n => if n < B then r n else if n < M then mt_sub s (tau (n - B)) else .leaf 0
    have rl : ∀ n, n < B → r' n = r n := fun n hn => if_pos hn
    have rh : ∀ n, B ≤ n → n < M → r' n = mt_sub s (tau (n - B)) := fun n h3 h4 => by show (if n < B then _ else if n < M then _ else _) = _; rw [if_neg (by omega), if_pos h4]
    refine ⟨r', fun n => ?_, rl, (hext r').mpr ⟨xg_low hg rl h1.1, tl_2 htl rh⟩, (he r').mpr ⟨(A0_low hg hq0 rl h1).2, fun j hj => ?_, ?_⟩⟩
    · show mt_wf (if n < B then _ else if n < M then _ else _)
      split
      · exact hwf n
      · split
        · exact mt_sub_wf hs _ (ht (n - B) (by omega)).1
        · exact mt_wf0
    · have := pl j (by omega)
      rw [rl _ (ha j hj), rh _ (by omega) (by omega), sb, hp j (by omega)]
      exact e1 j hj
    · have := pl P (Nat.le_refl _)
      rw [rl _ hb, rh _ (by omega) (by omega), sb, hp P (by omega)]
      exact e2
/-- the parameters' nodes and the body's made equal to the trees of a row -/
theorem x_si9 {post : SX → Prop} {B M f P : Nat} {Lc : List Nat} {ts : List mt_T} (hM : M = B + Lc.length) (hM2 : M ≤ 1126) (hB : 76 ≤ B) (hf : f < 11) (hP2 : P ≤ 2) (hpc : a_parameterCounts f = nI P) (hlen : ts.length = P + 1) (hL : mt_encs ts = Lc)
    (hsz : ∀ j, j < P → a_nodeSizes (B + tk_pos ts j) = nI (mt_enc (ts.getD j (.leaf 0))).length)
    (hPo : ∀ el er EL ER, eq_ok M (P + 1) el er EL ER → (∀ r, eq_all (P + 1) EL ER r ↔ (∀ j, j < P → r (72 + j) = r (B + tk_pos ts j)) ∧ r 0 = r (B + tk_pos ts P)) → post (f_saidPlace, f_instanceCount, f_nodeCount, (nI (P + 1)), f_stackCount, f_wordCount, f_depth, f_cellCount, f_consCount, f_closureCount, f_stepCount, f_runAnswer, f_writtenCount, a_kinds, a_values, a_spans, a_bounds, a_binders, a_lengths, a_parameterCounts, a_typeCodes, a_typeLengths, a_instanceFunctions, a_nodeKinds, a_nodeLefts, a_nodeRights, a_nodeSizes, el, er, a_stackLefts, a_stackRights, a_words, a_boundWords, a_cellFirsts, a_cellSeconds, a_closureTokens, a_closureWords, a_written)) :
    ∀ q p fu el er EL ER, p + q = P → q < fu → eq_ok M p el er EL ER → (∀ r, eq_all p EL ER r ↔ ∀ j, j < p → r (72 + j) = r (B + tk_pos ts j)) →
      wX_stateInstance_9 post (nI f) fu (nI (B + tk_pos ts p)) (nI p) f_saidPlace f_instanceCount f_nodeCount (nI p) f_stackCount f_wordCount f_depth f_cellCount f_consCount f_closureCount f_stepCount f_runAnswer f_writtenCount a_kinds a_values a_spans a_bounds a_binders a_lengths a_parameterCounts a_typeCodes a_typeLengths a_instanceFunctions a_nodeKinds a_nodeLefts a_nodeRights a_nodeSizes el er a_stackLefts a_stackRights a_words a_boundWords a_cellFirsts a_cellSeconds a_closureTokens a_closureWords a_written := by
  have pl : ∀ j, j ≤ P → tk_pos ts j < Lc.length := fun j hj => by rw [← hL]; exact tk_pos_lt ts j (by omega)
  intro q
  induction q with
  | zero =>
    intro p fu el er EL ER hp hfu hq hr
    obtain ⟨fu, rfl⟩ : ∃ g, fu = g + 1 := ⟨fu - 1, by omega⟩
    have ep : p = P := by omega
    subst ep
    have := pl p (Nat.le_refl _)
    refine And.intro (pk_in f 11 hf) ?_
    rw [nI_clamp (n := f) (by omega), hpc]
    refine br_t (nI_le (Nat.le_refl _) (by omega)) (x_equate (by omega) ?_)
    exact hPo _ _ _ _ (eq_up (a := 0) hq (by omega) (by omega)) (fun r => by rw [eq_upa, hr r])
  | succ q ih =>
    intro p fu el er EL ER hp hfu hq hr
    obtain ⟨fu, rfl⟩ : ∃ g, fu = g + 1 := ⟨fu - 1, by omega⟩
    have h1 := pl p (by omega)
    refine And.intro (pk_in f 11 hf) ?_
    rw [nI_clamp (n := f) (by omega), hpc]
    refine br_f (nI_ge (by omega) (by omega)) ?_
    rw [ix_72]
    refine x_equate (by omega) (And.intro (pk_in (B + tk_pos ts p) 1126 (by omega)) (nm_r (e' := nI (B + tk_pos ts (p + 1))) ?_ (nm_r (nI_1 p) ?_)))
    · rw [nI_clamp (by omega), hsz p (by omega), nI_add, tk_pos_s ts p (by omega)]; exact congrArg nI (by omega)
    · refine ih (p + 1) fu _ _ _ _ (by omega) (by omega) (eq_up hq (by omega) (by omega)) (fun r => ?_)
      rw [eq_upa, hr r]
      constructor
      · rintro ⟨a, b⟩ j hj
        by_cases z : j = p
        · subst z; exact b
        · exact a j (by omega)
      · intro h; exact ⟨fun j hj => h j (by omega), h p (by omega)⟩
theorem x_stateInstance {post : SX → Prop} {N M f row P : Nat} {Lc : List Nat} {ts : List mt_T} {L R rt ds : Nat → Nat} (hN : 76 ≤ N) (hM : N + Lc.length ≤ M) (hM2 : M ≤ 1126) (hf : f < 11) (hP2 : P ≤ 2) (hpc : a_parameterCounts f = nI P) (hr : rw_ok row a_typeCodes a_typeLengths Lc)
    (hw : ∀ t ∈ ts, mt_wf t) (hL : mt_encs ts = Lc) (hlen : ts.length = P + 1) (hg : xg_ok N a_nodeKinds a_nodeLefts a_nodeRights L R rt ds)
    (hP : xs_post post N M f_saidPlace f_instanceCount (nI N) (nI 0) f_stackCount f_wordCount f_depth f_cellCount f_consCount f_closureCount f_stepCount f_runAnswer f_writtenCount a_kinds a_values a_spans a_bounds a_binders a_lengths a_parameterCounts a_typeCodes a_typeLengths a_instanceFunctions a_nodeKinds a_nodeLefts a_nodeRights a_nodeSizes a_equationLefts a_equationRights a_stackLefts a_stackRights a_words a_boundWords a_cellFirsts a_cellSeconds a_closureTokens a_closureWords a_written 0 L R (fun _ => 0) (fun _ => 0) (fun r => sc_inst Lc ((List.range P).map (fun j => r (72 + j)) ++ [r 0]))) :
    wpX_stateInstance post (f_saidPlace, f_instanceCount, (nI N), (nI 0), f_stackCount, f_wordCount, f_depth, f_cellCount, f_consCount, f_closureCount, f_stepCount, f_runAnswer, f_writtenCount, a_kinds, a_values, a_spans, a_bounds, a_binders, a_lengths, a_parameterCounts, a_typeCodes, a_typeLengths, a_instanceFunctions, a_nodeKinds, a_nodeLefts, a_nodeRights, a_nodeSizes, a_equationLefts, a_equationRights, a_stackLefts, a_stackRights, a_words, a_boundWords, a_cellFirsts, a_cellSeconds, a_closureTokens, a_closureWords, a_written) (nI f) (nI row) := by
  obtain ⟨tau, ht, hp⟩ := tk_all ts hw
  rw [hL] at ht
  refine x_loadRow hr ht (by omega) hg (fun K' nl' nr' sz' L' R' rt' ds' g' gl gt gv gz => Exists.intro (P + 1) ?_)
  have pl : ∀ j, j ≤ P → tk_pos ts j < Lc.length := fun j hj => by rw [← hL]; exact tk_pos_lt ts j (by omega)
  have h0 : nI N = nI (N + tk_pos ts 0) := by cases ts <;> rfl
  rw [h0]
  refine x_si9 (ts := ts) (M := N + Lc.length) rfl (by omega) hN hf hP2 hpc hlen hL (fun j hj => by rw [gz _ (pl j (by omega)), hp j (by omega)]) (fun el er EL ER hq hr' => ?_) P 0 (P + 1) _ _ (fun _ => 0) (fun _ => 0) (by omega) (by omega) q0_ok (fun r => ⟨fun _ j hj => by omega, fun _ i hi => by omega⟩)
  refine hP (N + Lc.length) (P + 1) _ _ _ _ _ _ L' R' rt' ds' EL ER (by omega) hM (by omega) g' hq ?_
  exact ld_st (q0_ok (el := a_equationLefts) (er := a_equationRights)) hg rfl ht hw hL hlen hp gl gt gv (fun j hj => by omega) (by omega) (fun r => (hr' r).trans ⟨fun h => ⟨fun i hi => by omega, h⟩, fun h => h.2⟩)
/-- a call's operands and itself, made equal to the nodes g 0, g 1 .. -/
theorem x_sc37 {post : SX → Prop} {M f t h P z : Nat} {own : Bool} {sp nd EL0 ER0 : Nat → Nat} {e0 : Nat} (he0 : e0 ≤ 4) (hM2 : M ≤ 1126) (h76 : 76 ≤ M) (hf : f < 11) (hh : h < 11) (ht : t < 24) (hP2 : P ≤ 2) (hpc : a_parameterCounts h = nI P)
    (hown : own = true ↔ h = f) (hc : ∀ j, j < P → jp sp t j < 24 ∧ a_spans (f * 24 + jp sp t j) = nI (sp (jp sp t j)))
    (hnd : ∀ j, j ≤ P → nd j < M) (hnx : ∀ j, j < P → (own = true → nd (j + 1) = nd j + 1) ∧ (own = false → a_nodeSizes (nd j) = nI (nd (j + 1) - nd j) ∧ nd j ≤ nd (j + 1)))
    (hz : z = if own then 0 else nd P)
    (hPo : ∀ el er EL ER, eq_ok M (e0 + P + 1) el er EL ER → (∀ r, eq_all (e0 + P + 1) EL ER r ↔ eq_all e0 EL0 ER0 r ∧ (∀ j, j < P → r (jp sp t j) = r (nd j)) ∧ r t = r z) → post (f_saidPlace, f_instanceCount, f_nodeCount, (nI (e0 + P + 1)), f_stackCount, f_wordCount, f_depth, f_cellCount, f_consCount, f_closureCount, f_stepCount, f_runAnswer, f_writtenCount, a_kinds, a_values, a_spans, a_bounds, a_binders, a_lengths, a_parameterCounts, a_typeCodes, a_typeLengths, a_instanceFunctions, a_nodeKinds, a_nodeLefts, a_nodeRights, a_nodeSizes, el, er, a_stackLefts, a_stackRights, a_words, a_boundWords, a_cellFirsts, a_cellSeconds, a_closureTokens, a_closureWords, a_written)) :
    ∀ q p fu el er EL ER, p + q = P → q < fu → eq_ok M (e0 + p) el er EL ER → (∀ r, eq_all (e0 + p) EL ER r ↔ eq_all e0 EL0 ER0 r ∧ ∀ j, j < p → r (jp sp t j) = r (nd j)) →
      wX_stateCall_37 post (nI f) (nI t) (nI h) fu (nI (nd p)) (nI (jp sp t p)) (nI p) f_saidPlace f_instanceCount f_nodeCount (nI (e0 + p)) f_stackCount f_wordCount f_depth f_cellCount f_consCount f_closureCount f_stepCount f_runAnswer f_writtenCount a_kinds a_values a_spans a_bounds a_binders a_lengths a_parameterCounts a_typeCodes a_typeLengths a_instanceFunctions a_nodeKinds a_nodeLefts a_nodeRights a_nodeSizes el er a_stackLefts a_stackRights a_words a_boundWords a_cellFirsts a_cellSeconds a_closureTokens a_closureWords a_written := by
  intro q
  induction q with
  | zero =>
    intro p fu el er EL ER hp hfu hq hr
    obtain ⟨fu, rfl⟩ : ∃ g, fu = g + 1 := ⟨fu - 1, by omega⟩
    have ep : p = P := by omega
    subst ep
    have hn := hnd p (Nat.le_refl _)
    refine And.intro (pk_in h 11 hh) ?_
    rw [nI_clamp (n := h) (by omega), hpc]
    refine br_t (nI_le (Nat.le_refl _) (by omega)) (pk_eq h f (fun e => ?_) (fun e => ?_))
    · have ho : own = true := hown.mpr e
      rw [ho, if_pos rfl] at hz
      subst hz
      exact x_equate (by omega) (hPo _ _ _ _ (eq_up (b := 0) hq (by omega) (by omega)) (fun r => by rw [eq_upa, hr r, and_assoc]))
    · have ho : own = false := by cases own; rfl; exact absurd (hown.mp rfl) e
      rw [ho, if_neg (by decide)] at hz
      subst hz
      exact x_equate (by omega) (hPo _ _ _ _ (eq_up hq (by omega) (by omega)) (fun r => by rw [eq_upa, hr r, and_assoc]))
  | succ q ih =>
    intro p fu el er EL ER hp hfu hq hr
    obtain ⟨fu, rfl⟩ : ∃ g, fu = g + 1 := ⟨fu - 1, by omega⟩
    have hn := hnd p (by omega)
    have hn1 := hnd (p + 1) (by omega)
    obtain ⟨c1, c2⟩ := hc p (by omega)
    refine And.intro (pk_in h 11 hh) ?_
    rw [nI_clamp (n := h) (by omega), hpc]
    refine br_f (nI_ge (by omega) (by omega)) (x_equate (by omega) (And.intro (pk_in (f * 24 + jp sp t p) 264 (by omega) (ix_24 _ _)) (nm_r (e' := nI (jp sp t (p + 1))) (by rw [ix_24, nI_clamp (by omega), c2, nI_add]; rfl) ?_)))
    have go := ih (p + 1) fu _ _ _ _ (by omega) (by omega) (eq_up hq (show jp sp t p < M by omega) hn) (fun r => by
      show eq_all (e0 + p + 1) (updN EL (e0 + p) (jp sp t p)) (updN ER (e0 + p) (nd p)) r ↔ _
      rw [eq_upa, hr r]
      constructor
      · rintro ⟨⟨a0, a⟩, b⟩
        refine ⟨a0, fun j hj => ?_⟩
        by_cases z : j = p
        · subst z; exact b
        · exact a j (by omega)
      · rintro ⟨a0, h⟩; exact ⟨⟨a0, fun j hj => h j (by omega)⟩, h p (by omega)⟩)
    refine pk_eq h f (fun e => ?_) (fun e => ?_)
    · have ho : own = true := hown.mpr e
      refine nm_r (e' := nI (nd (p + 1))) (by rw [nI_1, (hnx p (by omega)).1 ho]) (nm_r (nI_1 p) go)
    · have ho : own = false := by cases own; rfl; exact absurd (hown.mp rfl) e
      obtain ⟨s1, s2⟩ := (hnx p (by omega)).2 ho
      refine And.intro (pk_in (nd p) 1126 (by omega)) (nm_r (e' := nI (nd (p + 1))) ?_ (nm_r (nI_1 p) go))
      rw [nI_clamp (by omega), s1, nI_add]; exact congrArg nI (by omega)
theorem x_stateCall {post : SX → Prop} {N M f n t h P w : Nat} {own : Bool} {Lc : List Nat} {ts : List mt_T} {sp L R rt ds EL0 ER0 : Nat → Nat} {e0 : Nat} (he0 : e0 ≤ 4) (hq0 : eq_ok N e0 a_equationLefts a_equationRights EL0 ER0) (hN : 76 ≤ N) (hM : own = false → N + Lc.length ≤ M) (hNM : N ≤ M) (hM2 : M ≤ 1126) (hf : f < 5) (hh : h < 5) (hn : n ≤ 24) (ht : t < n) (hP2 : P ≤ 2) (hpc : a_parameterCounts h = nI P)
    (hval : a_values (f * 24 + t) = nI h) (hown : own = true ↔ h = f) (hc : ∀ j, j < P → jp sp t j < 24 ∧ a_spans (f * 24 + jp sp t j) = nI (sp (jp sp t j)))
    (hr : own = false → rw_ok h a_typeCodes a_typeLengths Lc ∧ (∀ t ∈ ts, mt_wf t) ∧ mt_encs ts = Lc ∧ ts.length = P + 1) (hg : xg_ok N a_nodeKinds a_nodeLefts a_nodeRights L R rt ds)
    (hP : xs_post post N M f_saidPlace f_instanceCount (nI N) (nI e0) f_stackCount f_wordCount f_depth f_cellCount f_consCount f_closureCount f_stepCount f_runAnswer f_writtenCount a_kinds a_values a_spans a_bounds a_binders a_lengths a_parameterCounts a_typeCodes a_typeLengths a_instanceFunctions a_nodeKinds a_nodeLefts a_nodeRights a_nodeSizes a_equationLefts a_equationRights a_stackLefts a_stackRights a_words a_boundWords a_cellFirsts a_cellSeconds a_closureTokens a_closureWords a_written e0 L R EL0 ER0 (ru_k 4 t (jp sp t) w own P Lc)) :
    wpX_stateCall post (f_saidPlace, f_instanceCount, (nI N), (nI e0), f_stackCount, f_wordCount, f_depth, f_cellCount, f_consCount, f_closureCount, f_stepCount, f_runAnswer, f_writtenCount, a_kinds, a_values, a_spans, a_bounds, a_binders, a_lengths, a_parameterCounts, a_typeCodes, a_typeLengths, a_instanceFunctions, a_nodeKinds, a_nodeLefts, a_nodeRights, a_nodeSizes, a_equationLefts, a_equationRights, a_stackLefts, a_stackRights, a_words, a_boundWords, a_cellFirsts, a_cellSeconds, a_closureTokens, a_closureWords, a_written) (nI f) (nI t) := by
  have hcx : (nI f * 24 + nI t).toNatClampNeg = f * 24 + t := by rw [ix_24]; exact nI_clamp (by omega)
  refine And.intro (pk_in (f * 24 + t) 264 (by omega) (ix_24 f t)) (nm_r (e' := nI h) (by rw [hcx]; exact hval) (pk_eq h f (fun e => ?_) (fun e => ?_)))
  · have ho : own = true := hown.mpr e
    subst ho
    refine nm_r (nI_1 t) (Exists.intro (P + 1) ?_)
    refine x_sc37 (e0 := e0) (EL0 := EL0) (ER0 := ER0) he0 (z := 0) (own := true) (M := N) (sp := sp) (nd := fun j => 72 + j) (by omega) hN (by omega) (by omega) (by omega) hP2 hpc hown hc (fun j hj => by omega) (fun j hj => ⟨fun _ => rfl, fun z => absurd z (by decide)⟩) rfl (fun el er EL ER hq hr' => ?_) P 0 (P + 1) _ _ EL0 ER0 (by omega) (by omega) (eq_mono hq0 (by omega)) (fun r => ⟨fun h => ⟨h, fun j hj => by omega⟩, fun h => h.1⟩)
    refine hP N (e0 + P + 1) _ _ _ _ _ _ L R rt ds EL ER (Nat.le_refl _) hNM (by omega) hg hq ?_
    refine ⟨fun r hwf h1 h2 => ⟨⟨h1, ((hr' r).mp h2).1⟩, ?_⟩, fun r hwf h1 h2 => ⟨r, hwf, fun _ _ => rfl, h1.1, ?_⟩⟩
    · exact ((hr' r).mp h2).2
    · exact (hr' r).mpr ⟨h1.2, h2⟩
  · have ho : own = false := by cases own; rfl; exact absurd (hown.mp rfl) e
    subst ho
    have hM := hM rfl
    obtain ⟨hr1, hw, hL, hlen⟩ := hr rfl
    obtain ⟨tau, htk, hp⟩ := tk_all ts hw
    rw [hL] at htk
    refine x_loadRow hr1 htk (by omega) hg (fun K' nl' nr' sz' L' R' rt' ds' g' gl gt gv gz => nm_r (nI_1 t) (Exists.intro (P + 1) ?_))
    have pl : ∀ j, j ≤ P → tk_pos ts j < Lc.length := fun j hj => by rw [← hL]; exact tk_pos_lt ts j (by omega)
    have h0 : nI N = nI (N + tk_pos ts 0) := by cases ts <;> rfl
    rw [h0]
    refine x_sc37 (e0 := e0) (EL0 := EL0) (ER0 := ER0) he0 (z := N + tk_pos ts P) (own := false) (M := N + Lc.length) (sp := sp) (nd := fun j => N + tk_pos ts j) (by omega) (by omega) (by omega) (by omega) (by omega) hP2 hpc hown hc (fun j hj => by have := pl j hj; omega) (fun j hj => ⟨fun z => absurd z (by decide), fun _ => ?_⟩) rfl (fun el er EL ER hq hr' => ?_) P 0 (P + 1) _ _ EL0 ER0 (by omega) (by omega) (eq_mono hq0 (by omega)) (fun r => ⟨fun h => ⟨h, fun j hj => by omega⟩, fun h => h.1⟩)
    · have hs := tk_pos_s ts j (by omega)
      refine ⟨?_, by omega⟩
      rw [gz _ (pl j (by omega)), hp j (by omega)]; exact congrArg nI (by omega)
    · refine hP (N + Lc.length) (e0 + P + 1) _ _ _ _ _ _ L' R' rt' ds' EL ER (by omega) hM (by omega) g' hq ?_
      exact ld_st hq0 hg rfl htk hw hL hlen hp gl gt gv (fun j hj => by have := (hc j hj).1; omega) (by omega) hr'
end
section
variable {f_saidPlace f_instanceCount f_nodeCount f_equationCount f_stackCount f_wordCount f_depth f_cellCount f_consCount f_closureCount f_stepCount f_runAnswer f_writtenCount : Int32} {a_kinds a_values a_spans a_bounds a_binders a_lengths a_parameterCounts a_typeCodes a_typeLengths a_instanceFunctions a_nodeKinds a_nodeLefts a_nodeRights a_nodeSizes a_equationLefts a_equationRights a_stackLefts a_stackRights a_words a_boundWords a_cellFirsts a_cellSeconds a_closureTokens a_closureWords a_written : Nat → Int32}
def ar (k : Nat) : Nat := match k with
  | 5 => 2 | 6 => 1 | 7 => 1 | 9 => 2 | 10 => 3 | 11 => 3 | 12 => 2 | 13 => 2 | 14 => 2 | 15 => 1 | 16 => 2 | _ => 0
theorem k17 {k : Nat} (h : k ≤ 16) : k = 0 ∨ k = 1 ∨ k = 2 ∨ k = 3 ∨ k = 4 ∨ k = 5 ∨ k = 6 ∨ k = 7 ∨ k = 8 ∨ k = 9 ∨ k = 10 ∨ k = 11 ∨ k = 12 ∨ k = 13 ∨ k = 14 ∨ k = 15 ∨ k = 16 := by omega
theorem x_operandCount {post : Int32 → Prop} {a k o : Nat} (ha : a < 264) (hk : a_kinds a = nI k) (hk2 : k ≤ 16)
    (h4 : k = 4 → ∃ g, g < 11 ∧ a_values a = nI g ∧ (a_lengths g = 0 ∧ o = 0 ∨ a_lengths g ≠ 0 ∧ a_parameterCounts g = nI o)) (h : k ≠ 4 → o = ar k) (hp : post (nI o)) : wpX_operandCount post (f_saidPlace, f_instanceCount, f_nodeCount, f_equationCount, f_stackCount, f_wordCount, f_depth, f_cellCount, f_consCount, f_closureCount, f_stepCount, f_runAnswer, f_writtenCount, a_kinds, a_values, a_spans, a_bounds, a_binders, a_lengths, a_parameterCounts, a_typeCodes, a_typeLengths, a_instanceFunctions, a_nodeKinds, a_nodeLefts, a_nodeRights, a_nodeSizes, a_equationLefts, a_equationRights, a_stackLefts, a_stackRights, a_words, a_boundWords, a_cellFirsts, a_cellSeconds, a_closureTokens, a_closureWords, a_written) (nI a) := by
  have ca : (nI a).toNatClampNeg = a := nI_clamp (by omega)
  refine And.intro (pk_in a 264 ha) (nm_r (e' := nI k) (by rw [ca]; exact hk) ?_)
  by_cases z4 : k = 4
  · subst z4
    obtain ⟨g, hg, hv, hl⟩ := h4 rfl
    refine br_f (by decide) (br_f (by decide) (br_t rfl (And.intro (pk_in a 264 ha) ?_)))
    rw [ca, hv]
    refine And.intro (pk_in g 11 hg) ?_
    rw [nI_clamp (n := g) (by omega)]
    rcases hl with ⟨l0, o0⟩ | ⟨l0, o0⟩
    · subst o0; exact br_t l0 hp
    · refine br_f l0 (And.intro (pk_in a 264 ha) (And.intro (pk_in g 11 hg) ?_))
      rw [o0]; exact hp
  · have ho := h z4
    subst ho
    rcases k17 hk2 with rfl | rfl | rfl | rfl | rfl | rfl | rfl | rfl | rfl | rfl | rfl | rfl | rfl | rfl | rfl | rfl | rfl
    · exact br_t (by decide) hp
    · exact br_t (by decide) hp
    · exact br_t (by decide) hp
    · exact br_t (by decide) hp
    · exact absurd rfl z4
    · exact br_f (by decide) (br_f (by decide) (br_f (by decide) (br_t rfl hp)))
    · exact br_f (by decide) (br_f (by decide) (br_f (by decide) (br_f (by decide) (br_t rfl hp))))
    · exact br_f (by decide) (br_f (by decide) (br_f (by decide) (br_f (by decide) (br_f (by decide) (br_t rfl hp)))))
    · exact br_f (by decide) (br_f (by decide) (br_f (by decide) (br_f (by decide) (br_f (by decide) (br_f (by decide) (br_t rfl hp))))))
    · exact br_f (by decide) (br_f (by decide) (br_f (by decide) (br_f (by decide) (br_f (by decide) (br_f (by decide) (br_f (by decide) (br_t rfl hp)))))))
    · exact br_f (by decide) (br_f (by decide) (br_f (by decide) (br_f (by decide) (br_f (by decide) (br_f (by decide) (br_f (by decide) (br_f (by decide) (br_t rfl hp))))))))
    · exact br_f (by decide) (br_f (by decide) (br_f (by decide) (br_f (by decide) (br_f (by decide) (br_f (by decide) (br_f (by decide) (br_f (by decide) (br_f (by decide) (br_t rfl hp)))))))))
    · exact br_f (by decide) (br_f (by decide) (br_f (by decide) (br_f (by decide) (br_f (by decide) (br_f (by decide) (br_f (by decide) (br_f (by decide) (br_f (by decide) (br_f (by decide) (br_t rfl hp))))))))))
    · exact br_f (by decide) (br_f (by decide) (br_f (by decide) (br_f (by decide) (br_f (by decide) (br_f (by decide) (br_f (by decide) (br_f (by decide) (br_f (by decide) (br_f (by decide) (br_f (by decide) (br_t rfl hp)))))))))))
    · exact br_f (by decide) (br_f (by decide) (br_f (by decide) (br_f (by decide) (br_f (by decide) (br_f (by decide) (br_f (by decide) (br_f (by decide) (br_f (by decide) (br_f (by decide) (br_f (by decide) (br_f (by decide) (br_t rfl hp))))))))))))
    · exact br_f (by decide) (br_f (by decide) (br_f (by decide) (br_f (by decide) (br_f (by decide) (br_f (by decide) (br_f (by decide) (br_f (by decide) (br_f (by decide) (br_f (by decide) (br_f (by decide) (br_f (by decide) (br_f (by decide) (br_t rfl hp)))))))))))))
    · exact br_f (by decide) (br_f (by decide) (br_f (by decide) (br_f (by decide) (br_f (by decide) (br_f (by decide) (br_f (by decide) (br_f (by decide) (br_f (by decide) (br_f (by decide) (br_f (by decide) (br_f (by decide) (br_f (by decide) (br_f (by decide) (br_t rfl hp))))))))))))))
theorem x_operandAt7 {post : Int32 → Prop} {B t j : Nat} {sp : Nat → Nat} (hj : j ≤ 3) (hs : ∀ i, i < j → B + jp sp t i < 264 ∧ a_spans (B + jp sp t i) = nI (sp (jp sp t i))) (hp : post (nI (B + jp sp t j))) :
    ∀ q i f, i + q = j → q < f → wX_operandAt_7 post (nI j) f_saidPlace f_instanceCount f_nodeCount f_equationCount f_stackCount f_wordCount f_depth f_cellCount f_consCount f_closureCount f_stepCount f_runAnswer f_writtenCount a_kinds a_values a_spans a_bounds a_binders a_lengths a_parameterCounts a_typeCodes a_typeLengths a_instanceFunctions a_nodeKinds a_nodeLefts a_nodeRights a_nodeSizes a_equationLefts a_equationRights a_stackLefts a_stackRights a_words a_boundWords a_cellFirsts a_cellSeconds a_closureTokens a_closureWords a_written f (nI (B + jp sp t i)) (nI i) := by
  intro q
  induction q with
  | zero =>
    intro i f hi hf
    obtain ⟨f, rfl⟩ : ∃ g, f = g + 1 := ⟨f - 1, by omega⟩
    have : i = j := by omega
    subst this
    exact br_t (nI_le (Nat.le_refl _) (by omega)) hp
  | succ q ih =>
    intro i f hi hf
    obtain ⟨f, rfl⟩ : ∃ g, f = g + 1 := ⟨f - 1, by omega⟩
    obtain ⟨a, b⟩ := hs i (by omega)
    refine br_f (nI_ge (by omega) (by omega)) (And.intro (pk_in (B + jp sp t i) 264 a) (nm_r (e' := nI (B + jp sp t (i + 1))) (by rw [nI_clamp (by omega), b, nI_add, Nat.add_assoc]; rfl) (nm_r (nI_1 i) (ih (i + 1) f (by omega) (by omega)))))
theorem x_operandAt {post : Int32 → Prop} {B t j : Nat} {sp : Nat → Nat} (hj : j ≤ 3) (hs : ∀ i, i < j → B + jp sp t i < 264 ∧ a_spans (B + jp sp t i) = nI (sp (jp sp t i))) (hp : post (nI (B + jp sp t j))) :
    wpX_operandAt post (f_saidPlace, f_instanceCount, f_nodeCount, f_equationCount, f_stackCount, f_wordCount, f_depth, f_cellCount, f_consCount, f_closureCount, f_stepCount, f_runAnswer, f_writtenCount, a_kinds, a_values, a_spans, a_bounds, a_binders, a_lengths, a_parameterCounts, a_typeCodes, a_typeLengths, a_instanceFunctions, a_nodeKinds, a_nodeLefts, a_nodeRights, a_nodeSizes, a_equationLefts, a_equationRights, a_stackLefts, a_stackRights, a_words, a_boundWords, a_cellFirsts, a_cellSeconds, a_closureTokens, a_closureWords, a_written) (nI (B + t)) (nI j) :=
  nm_r (nI_1 (B + t)) (Exists.intro (j + 1) (x_operandAt7 (B := B) (t := t) hj hs hp j 0 (j + 1) (by omega) (by omega)))
/-- a body as X holds it in slot f: n tokens; kN kinds, vl values, oc operands, sp spans, bd bounds, bi binders (0 none, else the token and one) -/
def xb_ok (f n : Nat) (ki va spa bou bin len pc : Nat → Int32) (kN : Nat → Nat) (vl : Nat → Int32) (oc sp bd bi : Nat → Nat) : Prop :=
  n ≤ 24 ∧ bw_is n oc sp ∧ sm oc n + 1 = n ∧ ∀ t, t < n → ki (f * 24 + t) = nI (kN t) ∧ kN t ≤ 16 ∧ va (f * 24 + t) = vl t ∧ spa (f * 24 + t) = nI (sp t) ∧
    bou (f * 24 + t) = nI (bd t) ∧ bd t ≤ 12 ∧ bin (f * 24 + t) = (if bi t = 0 then -1 else nI (bi t - 1)) ∧ bi t ≤ t ∧
    (kN t = 3 → ∃ v, v < 10 ∧ vl t = nI v ∧ v < bd t ∧ vw bi bd (bi t) (bi t) v < 74) ∧
    (kN t = 4 → ∃ g, g < 5 ∧ vl t = nI g ∧ len g ≠ 0 ∧ pc g = nI (oc t) ∧ oc t ≤ 2) ∧ (kN t ≠ 4 → oc t = ar (kN t))
end
section
variable {f_saidPlace f_instanceCount f_nodeCount f_equationCount f_stackCount f_wordCount f_depth f_cellCount f_consCount f_closureCount f_stepCount f_runAnswer f_writtenCount : Int32} {a_kinds a_values a_spans a_bounds a_binders a_lengths a_parameterCounts a_typeCodes a_typeLengths a_instanceFunctions a_nodeKinds a_nodeLefts a_nodeRights a_nodeSizes a_equationLefts a_equationRights a_stackLefts a_stackRights a_words a_boundWords a_cellFirsts a_cellSeconds a_closureTokens a_closureWords a_written : Nat → Int32}
theorem x_stateRule {post : SX → Prop} {N M f n t w P : Nat} {Lc : List Nat} {own : Bool} {kN : Nat → Nat} {vl : Nat → Int32} {oc sp bd bi L R rt ds EL0 ER0 : Nat → Nat} {e0 : Nat} (hN : 76 ≤ N) (hM : N + 2 ≤ M) (hM2 : M ≤ 1126) (hf : f < 5) (ht : t < n)
    (hb : xb_ok f n a_kinds a_values a_spans a_bounds a_binders a_lengths a_parameterCounts kN vl oc sp bd bi) (h4 : kN t ≠ 4) (hw : ∀ v, kN t = 3 → vl t = nI v → v < 10 → w = vw bi bd (bi t) (bi t) v)
    (he0 : e0 ≤ 4) (hq0 : eq_ok N e0 a_equationLefts a_equationRights EL0 ER0) (hg : xg_ok N a_nodeKinds a_nodeLefts a_nodeRights L R rt ds) (hI : ∀ r, (∀ n, mt_wf (r n)) → A0 N e0 a_nodeKinds L R EL0 ER0 r → r 74 = .leaf 0 ∧ r 75 = .leaf 1)
    (hP : xs_post post N M f_saidPlace f_instanceCount (nI N) (nI e0) f_stackCount f_wordCount f_depth f_cellCount f_consCount f_closureCount f_stepCount f_runAnswer f_writtenCount a_kinds a_values a_spans a_bounds a_binders a_lengths a_parameterCounts a_typeCodes a_typeLengths a_instanceFunctions a_nodeKinds a_nodeLefts a_nodeRights a_nodeSizes a_equationLefts a_equationRights a_stackLefts a_stackRights a_words a_boundWords a_cellFirsts a_cellSeconds a_closureTokens a_closureWords a_written e0 L R EL0 ER0 (ru_k (kN t) t (jp sp t) w own P Lc)) :
    wpX_stateRule post (f_saidPlace, f_instanceCount, (nI N), (nI e0), f_stackCount, f_wordCount, f_depth, f_cellCount, f_consCount, f_closureCount, f_stepCount, f_runAnswer, f_writtenCount, a_kinds, a_values, a_spans, a_bounds, a_binders, a_lengths, a_parameterCounts, a_typeCodes, a_typeLengths, a_instanceFunctions, a_nodeKinds, a_nodeLefts, a_nodeRights, a_nodeSizes, a_equationLefts, a_equationRights, a_stackLefts, a_stackRights, a_words, a_boundWords, a_cellFirsts, a_cellSeconds, a_closureTokens, a_closureWords, a_written) (nI f) (nI t) := by
  obtain ⟨n24, bw, _, hb⟩ := hb
  obtain ⟨b1, b2, b3, b4, b5, b6, b7, b8, b9, b10, b11⟩ := hb t ht
  have oc' := b11 h4
  have cx : (nI (f * 24 + t)).toNatClampNeg = f * 24 + t := nI_clamp (by omega)
  have hin : ∀ j, j < oc t → jp sp t j < n := fun j hj => (bw_in bw ht hj).2.2
  have hsp : ∀ j, j < oc t → a_spans (f * 24 + jp sp t j) = nI (sp (jp sp t j)) := fun j hj => (hb _ (hin j hj)).2.2.2.1
  refine nm_r (ix_24 f t) (x_operandCount (o := oc t) (by omega) b1 b2 (fun z => absurd z h4) b11 ?_)
  have leaf : kN t = 0 ∨ kN t = 1 ∨ kN t = 2 ∨ kN t = 3 ∨ kN t = 8 → wpX_stateLeaf post (f_saidPlace, f_instanceCount, (nI N), (nI e0), f_stackCount, f_wordCount, f_depth, f_cellCount, f_consCount, f_closureCount, f_stepCount, f_runAnswer, f_writtenCount, a_kinds, a_values, a_spans, a_bounds, a_binders, a_lengths, a_parameterCounts, a_typeCodes, a_typeLengths, a_instanceFunctions, a_nodeKinds, a_nodeLefts, a_nodeRights, a_nodeSizes, a_equationLefts, a_equationRights, a_stackLefts, a_stackRights, a_words, a_boundWords, a_cellFirsts, a_cellSeconds, a_closureTokens, a_closureWords, a_written) (nI f) (nI t) := by
    intro hk
    by_cases z3 : kN t = 3
    · obtain ⟨v, v1, v2, v3, v4⟩ := b9 z3
      have hw' := hw v z3 v2 v1
      rw [hw'] at hP
      exact x_stateLeaf (n := n) (v := v) hN hM hM2 (by omega) n24 ht he0 hq0 hg hI b1 hk (fun t' ht' => ⟨(hb t' ht').2.2.2.2.1, (hb t' ht').2.2.2.2.2.1, (hb t' ht').2.2.2.2.2.2.1, (hb t' ht').2.2.2.2.2.2.2.1⟩) (fun _ => ⟨v1, by rw [b3]; exact v2⟩) (fun _ => v4) hP
    · have hP' : xs_post post N M f_saidPlace f_instanceCount (nI N) (nI e0) f_stackCount f_wordCount f_depth f_cellCount f_consCount f_closureCount f_stepCount f_runAnswer f_writtenCount a_kinds a_values a_spans a_bounds a_binders a_lengths a_parameterCounts a_typeCodes a_typeLengths a_instanceFunctions a_nodeKinds a_nodeLefts a_nodeRights a_nodeSizes a_equationLefts a_equationRights a_stackLefts a_stackRights a_words a_boundWords a_cellFirsts a_cellSeconds a_closureTokens a_closureWords a_written e0 L R EL0 ER0 (ru_k (kN t) t (jp sp t) (vw bi bd (bi t) (bi t) 0) own P Lc) := by
        have this : ru_k (kN t) t (jp sp t) (vw bi bd (bi t) (bi t) 0) own P Lc = ru_k (kN t) t (jp sp t) w own P Lc := by
          rcases hk with z | z | z | z | z
          · rw [z]; rfl
          · rw [z]; rfl
          · rw [z]; rfl
          · exact absurd z z3
          · rw [z]; rfl
        rw [this]; exact hP
      exact x_stateLeaf (n := n) (v := 0) hN hM hM2 (by omega) n24 ht he0 hq0 hg hI b1 hk (fun t' ht' => ⟨(hb t' ht').2.2.2.2.1, (hb t' ht').2.2.2.2.2.1, (hb t' ht').2.2.2.2.2.2.1, (hb t' ht').2.2.2.2.2.2.2.1⟩) (fun z => absurd z z3) (fun z => absurd z z3) hP'
  have one : kN t = 6 ∨ kN t = 7 ∨ kN t = 15 → vp_in (nI (f * 24 + t)) 264 ∧ wpX_stateOne (fun u => post u) (f_saidPlace, f_instanceCount, (nI N), (nI e0), f_stackCount, f_wordCount, f_depth, f_cellCount, f_consCount, f_closureCount, f_stepCount, f_runAnswer, f_writtenCount, a_kinds, a_values, a_spans, a_bounds, a_binders, a_lengths, a_parameterCounts, a_typeCodes, a_typeLengths, a_instanceFunctions, a_nodeKinds, a_nodeLefts, a_nodeRights, a_nodeSizes, a_equationLefts, a_equationRights, a_stackLefts, a_stackRights, a_words, a_boundWords, a_cellFirsts, a_cellSeconds, a_closureTokens, a_closureWords, a_written) (a_kinds (nI (f * 24 + t)).toNatClampNeg) (nI t) := by
    intro hk
    refine And.intro (pk_in (f * 24 + t) 264 (by omega)) ?_
    rw [cx, b1]
    exact x_stateOne hN hM hM2 (by omega) rfl he0 hq0 hg hk hP
  have two : oc t = 2 → (kN t = 5 ∨ kN t = 9 ∨ kN t = 12 ∨ kN t = 13 ∨ kN t = 14 ∨ kN t = 16) → vp_in (nI (f * 24 + t)) 264 ∧ wpX_stateTwo (fun u => post u) (f_saidPlace, f_instanceCount, (nI N), (nI e0), f_stackCount, f_wordCount, f_depth, f_cellCount, f_consCount, f_closureCount, f_stepCount, f_runAnswer, f_writtenCount, a_kinds, a_values, a_spans, a_bounds, a_binders, a_lengths, a_parameterCounts, a_typeCodes, a_typeLengths, a_instanceFunctions, a_nodeKinds, a_nodeLefts, a_nodeRights, a_nodeSizes, a_equationLefts, a_equationRights, a_stackLefts, a_stackRights, a_words, a_boundWords, a_cellFirsts, a_cellSeconds, a_closureTokens, a_closureWords, a_written) (a_kinds (nI (f * 24 + t)).toNatClampNeg) (nI t) (nI (jp sp t 1)) := by
    intro ho hk
    refine And.intro (pk_in (f * 24 + t) 264 (by omega)) ?_
    rw [cx, b1]
    have h0 := hin 0 (by omega)
    have h1 := hin 1 (by omega)
    have h01 : jp sp t 0 = t + 1 := rfl
    exact x_stateTwo hN hM hM2 (by omega) (by omega) (by omega) rfl rfl he0 hq0 hg hI hk hP
  have sec : 2 ≤ oc t → nI (f * 24 + jp sp t 1) - nI f * 24 = nI (jp sp t 1) := by
    intro _
    have : nI f * 24 = nI (f * 24) := pk_mul f 24
    rw [this, pk_sub (by omega)]; exact congrArg nI (by omega)
  have three : oc t = 3 → (kN t = 10 ∨ kN t = 11) → vp_in (nI f * 24 + nI (jp sp t 1)) 264 ∧ ∀ x6, x6 = nI (jp sp t 1) + a_spans (nI f * 24 + nI (jp sp t 1)).toNatClampNeg → vp_in (nI (f * 24 + t)) 264 ∧
      wpX_stateThree (fun u => post u) (f_saidPlace, f_instanceCount, (nI N), (nI e0), f_stackCount, f_wordCount, f_depth, f_cellCount, f_consCount, f_closureCount, f_stepCount, f_runAnswer, f_writtenCount, a_kinds, a_values, a_spans, a_bounds, a_binders, a_lengths, a_parameterCounts, a_typeCodes, a_typeLengths, a_instanceFunctions, a_nodeKinds, a_nodeLefts, a_nodeRights, a_nodeSizes, a_equationLefts, a_equationRights, a_stackLefts, a_stackRights, a_words, a_boundWords, a_cellFirsts, a_cellSeconds, a_closureTokens, a_closureWords, a_written) (a_kinds (nI (f * 24 + t)).toNatClampNeg) (nI t) (nI (jp sp t 1)) x6 := by
    intro ho hk
    have h0 := hin 0 (by omega)
    have h1 := hin 1 (by omega)
    have h2 := hin 2 (by omega)
    refine And.intro (pk_in (f * 24 + jp sp t 1) 264 (by omega) (ix_24 _ _)) (nm_r (e' := nI (jp sp t 2)) (by rw [ix_24, nI_clamp (by omega), hsp 1 (by omega), nI_add]; rfl) (And.intro (pk_in (f * 24 + t) 264 (by omega)) ?_))
    rw [cx, b1]
    have h01 : jp sp t 0 = t + 1 := rfl
    exact x_stateThree hN hM hM2 (by omega) (by omega) (by omega) rfl rfl rfl he0 hq0 hg hI hk hP
  have at1 : 2 ≤ oc t → ∀ post' : Int32 → Prop, post' (nI (f * 24 + jp sp t 1)) → wpX_operandAt post' (f_saidPlace, f_instanceCount, (nI N), (nI e0), f_stackCount, f_wordCount, f_depth, f_cellCount, f_consCount, f_closureCount, f_stepCount, f_runAnswer, f_writtenCount, a_kinds, a_values, a_spans, a_bounds, a_binders, a_lengths, a_parameterCounts, a_typeCodes, a_typeLengths, a_instanceFunctions, a_nodeKinds, a_nodeLefts, a_nodeRights, a_nodeSizes, a_equationLefts, a_equationRights, a_stackLefts, a_stackRights, a_words, a_boundWords, a_cellFirsts, a_cellSeconds, a_closureTokens, a_closureWords, a_written) (nI (f * 24 + t)) (nI 1) := by
    intro ho post' hp'
    exact x_operandAt (B := f * 24) (t := t) (j := 1) (by omega) (fun i hi => by
      have : i = 0 := by omega
      subst this
      exact ⟨by have := hin 0 (by omega); omega, hsp 0 (by omega)⟩) hp'
  have l3 : oc t ≤ 3 := by rw [oc']; rcases k17 b2 with z | z | z | z | z | z | z | z | z | z | z | z | z | z | z | z | z <;> (rw [z]; decide)
  rcases k17 b2 with z | z | z | z | z | z | z | z | z | z | z | z | z | z | z | z | z
  · have o : oc t = 0 := by rw [oc', z]; rfl
    rw [o]; exact br_t rfl (leaf (by omega))
  · have o : oc t = 0 := by rw [oc', z]; rfl
    rw [o]; exact br_t rfl (leaf (by omega))
  · have o : oc t = 0 := by rw [oc', z]; rfl
    rw [o]; exact br_t rfl (leaf (by omega))
  · have o : oc t = 0 := by rw [oc', z]; rfl
    rw [o]; exact br_t rfl (leaf (by omega))
  · exact absurd z h4
  · have o : oc t = 2 := by rw [oc', z]; rfl
    rw [o]; exact br_f (by decide) (br_f (by decide) (at1 (by omega) _ (nm_r (sec (by omega)) (br_t rfl (two o (by omega))))))
  · have o : oc t = 1 := by rw [oc', z]; rfl
    rw [o]; exact br_f (by decide) (br_t rfl (one (by omega)))
  · have o : oc t = 1 := by rw [oc', z]; rfl
    rw [o]; exact br_f (by decide) (br_t rfl (one (by omega)))
  · have o : oc t = 0 := by rw [oc', z]; rfl
    rw [o]; exact br_t rfl (leaf (by omega))
  · have o : oc t = 2 := by rw [oc', z]; rfl
    rw [o]; exact br_f (by decide) (br_f (by decide) (at1 (by omega) _ (nm_r (sec (by omega)) (br_t rfl (two o (by omega))))))
  · have o : oc t = 3 := by rw [oc', z]; rfl
    rw [o]; exact br_f (by decide) (br_f (by decide) (at1 (by omega) _ (nm_r (sec (by omega)) (br_f (by decide) (three o (by omega))))))
  · have o : oc t = 3 := by rw [oc', z]; rfl
    rw [o]; exact br_f (by decide) (br_f (by decide) (at1 (by omega) _ (nm_r (sec (by omega)) (br_f (by decide) (three o (by omega))))))
  · have o : oc t = 2 := by rw [oc', z]; rfl
    rw [o]; exact br_f (by decide) (br_f (by decide) (at1 (by omega) _ (nm_r (sec (by omega)) (br_t rfl (two o (by omega))))))
  · have o : oc t = 2 := by rw [oc', z]; rfl
    rw [o]; exact br_f (by decide) (br_f (by decide) (at1 (by omega) _ (nm_r (sec (by omega)) (br_t rfl (two o (by omega))))))
  · have o : oc t = 2 := by rw [oc', z]; rfl
    rw [o]; exact br_f (by decide) (br_f (by decide) (at1 (by omega) _ (nm_r (sec (by omega)) (br_t rfl (two o (by omega))))))
  · have o : oc t = 1 := by rw [oc', z]; rfl
    rw [o]; exact br_f (by decide) (br_t rfl (one (by omega)))
  · have o : oc t = 2 := by rw [oc', z]; rfl
    rw [o]; exact br_f (by decide) (br_f (by decide) (at1 (by omega) _ (nm_r (sec (by omega)) (br_t rfl (two o (by omega))))))
theorem ru_dep {k t w P : Nat} {c : Nat → Nat} {own : Bool} {Lc : List Nat} {r r' : Nat → mt_T} (hk : k ≤ 16) (ht : t < 24) (hc : ∀ j, j < (if k = 4 then P else ar k) → c j < 74) (hw : k = 3 → w < 74) (hP : k = 4 → P ≤ 2)
    (e : ∀ n, n < 74 → r' n = r n) (h : ru_k k t c w own P Lc r) : ru_k k t c w own P Lc r' := by
  have hc' : k ≠ 4 → ∀ j, j < ar k → c j < 74 := fun z j hj => hc j (by rw [if_neg z]; exact hj)
  have et := e t (by omega)
  have e1 := e (24 + 2 * t) (by omega)
  have e2 := e (25 + 2 * t) (by omega)
  rcases k17 hk with rfl | rfl | rfl | rfl | rfl | rfl | rfl | rfl | rfl | rfl | rfl | rfl | rfl | rfl | rfl | rfl | rfl
  · show r' t = _; rw [et]; exact h
  · show r' t = _; rw [et]; exact h
  · show r' t = _; rw [et]; exact h
  · show r' t = r' w; rw [et, e w (hw rfl)]; exact h
  · rw [if_pos rfl] at hc
    cases own with
    | true =>
      obtain ⟨a, b⟩ := h
      refine ⟨fun j hj => ?_, ?_⟩
      · have := hP rfl
        rw [e _ (hc j hj), e _ (by omega)]; exact a j hj
      · rw [et, e 0 (by omega)]; exact b
    | false =>
      show sc_inst Lc ((List.range P).map (fun j => r' (c j)) ++ [r' t])
      have : (List.range P).map (fun j => r' (c j)) = (List.range P).map (fun j => r (c j)) := List.map_congr_left (fun j hj => e _ (hc j (List.mem_range.mp hj)))
      rw [this, et]; exact h
  · show r' t = .branch 2 (r' (c 0)) (r' (c 1)); rw [et, e _ (hc' (by decide) 0 (by decide)), e _ (hc' (by decide) 1 (by decide))]; exact h
  · show ∃ x, mt_wf x ∧ r' (c 0) = .branch 2 (r' t) x; rw [et, e _ (hc' (by decide) 0 (by decide))]; exact h
  · show ∃ x, mt_wf x ∧ r' (c 0) = .branch 2 x (r' t); rw [et, e _ (hc' (by decide) 0 (by decide))]; exact h
  · show ∃ x, mt_wf x ∧ r' t = .branch 3 x (.leaf 0); rw [et]; exact h
  · show r' (c 1) = .branch 3 (r' (c 0)) (.leaf 0) ∧ r' t = r' (c 1); rw [et, e _ (hc' (by decide) 0 (by decide)), e _ (hc' (by decide) 1 (by decide))]; exact h
  · show r' (c 0) = .branch 3 (r' (24 + 2 * t)) (.leaf 0) ∧ r' (25 + 2 * t) = r' (c 0) ∧ r' (c 1) = r' t ∧ r' (c 2) = r' t
    rw [et, e1, e2, e _ (hc' (by decide) 0 (by decide)), e _ (hc' (by decide) 1 (by decide)), e _ (hc' (by decide) 2 (by decide))]; exact h
  · show r' (c 0) = .leaf 1 ∧ r' (c 1) = r' t ∧ r' (c 2) = r' t
    rw [et, e _ (hc' (by decide) 0 (by decide)), e _ (hc' (by decide) 1 (by decide)), e _ (hc' (by decide) 2 (by decide))]; exact h
  · show r' (c 0) = .leaf 0 ∧ r' (c 1) = .leaf 0 ∧ r' t = .leaf 0; rw [et, e _ (hc' (by decide) 0 (by decide)), e _ (hc' (by decide) 1 (by decide))]; exact h
  · show r' (c 0) = .leaf 0 ∧ r' (c 1) = .leaf 0 ∧ r' t = .leaf 1; rw [et, e _ (hc' (by decide) 0 (by decide)), e _ (hc' (by decide) 1 (by decide))]; exact h
  · show r' (24 + 2 * t) = r' (c 0) ∧ r' t = r' (c 1); rw [et, e1, e _ (hc' (by decide) 0 (by decide)), e _ (hc' (by decide) 1 (by decide))]; exact h
  · show r' t = .branch 4 (r' (24 + 2 * t)) (r' (c 0)); rw [et, e1, e _ (hc' (by decide) 0 (by decide))]; exact h
  · show r' (c 0) = .branch 4 (r' (c 1)) (r' t); rw [et, e _ (hc' (by decide) 0 (by decide)), e _ (hc' (by decide) 1 (by decide))]; exact h
theorem pj_step {N N' e e' : Nat} {K K1 : Nat → Int32} {L R L1 R1 EL0 ER0 EL ER : Nat → Nat} {S rule : (Nat → mt_T) → Prop} (hN : 74 ≤ N) (hp : pj_is 74 (A0 N e K L R EL0 ER0) S) (hst : st_ok N e K L R EL0 ER0 N' e' K1 L1 R1 EL ER rule)
    (hd : ∀ r r', (∀ n, n < 74 → r' n = r n) → rule r → rule r') : pj_is 74 (fun r => gr_sat N' K1 L1 R1 r ∧ eq_all e' EL ER r) (fun r => S r ∧ rule r) := by
  refine ⟨fun r hw h => ?_, fun r hw h => ?_⟩
  · obtain ⟨a, b⟩ := hst.1 r hw h.1 h.2
    exact ⟨hp.1 r hw a, b⟩
  · obtain ⟨r0, w0, s0, e0⟩ := hp.2 r hw h.1
    obtain ⟨r1, w1, e1, s1, q1⟩ := hst.2 r0 w0 s0 (hd r r0 e0 h.2)
    exact ⟨r1, w1, ⟨s1, q1⟩, fun n hn => by rw [e1 n (by omega), e0 n hn]⟩
theorem pj_iff {A B S : (Nat → mt_T) → Prop} (h : pj_is 74 A S) (e : ∀ r, A r ↔ B r) : pj_is 74 B S :=
  ⟨fun r hw hb => h.1 r hw ((e r).mpr hb), fun r hw hs => by obtain ⟨r', a, b, c⟩ := h.2 r hw hs; exact ⟨r', a, (e r').mp b, c⟩⟩
end
section
variable {f_saidPlace f_instanceCount f_nodeCount f_equationCount f_stackCount f_wordCount f_depth f_cellCount f_consCount f_closureCount f_stepCount f_runAnswer f_writtenCount : Int32} {a_kinds a_values a_spans a_bounds a_binders a_lengths a_parameterCounts a_typeCodes a_typeLengths a_instanceFunctions a_nodeKinds a_nodeLefts a_nodeRights a_nodeSizes a_equationLefts a_equationRights a_stackLefts a_stackRights a_words a_boundWords a_cellFirsts a_cellSeconds a_closureTokens a_closureWords a_written : Nat → Int32}
/-- the rule of token t of the body of f; cod the codes of the functions' types -/
def ru_t (f : Nat) (kN : Nat → Nat) (vl : Nat → Int32) (oc sp bd bi : Nat → Nat) (cod : Nat → List Nat) (t : Nat) (r : Nat → mt_T) : Prop :=
  ru_k (kN t) t (jp sp t) (vw bi bd (bi t) (bi t) (vl t).toNatClampNeg) (decide ((vl t).toNatClampNeg = f)) (oc t) (cod (vl t).toNatClampNeg) r
/-- S0, and the rules of the tokens below t -/
def S_t (S0 : (Nat → mt_T) → Prop) (f : Nat) (kN : Nat → Nat) (vl : Nat → Int32) (oc sp bd bi : Nat → Nat) (cod : Nat → List Nat) (t : Nat) (r : Nat → mt_T) : Prop :=
  S0 r ∧ ∀ s, s < t → ru_t f kN vl oc sp bd bi cod s r
theorem S_s {S0 : (Nat → mt_T) → Prop} {f : Nat} {kN : Nat → Nat} {vl : Nat → Int32} {oc sp bd bi : Nat → Nat} {cod : Nat → List Nat} {t : Nat} {r : Nat → mt_T} :
    S_t S0 f kN vl oc sp bd bi cod (t + 1) r ↔ S_t S0 f kN vl oc sp bd bi cod t r ∧ ru_t f kN vl oc sp bd bi cod t r := by
  constructor
  · rintro ⟨a, b⟩; exact ⟨⟨a, fun s hs => b s (by omega)⟩, b t (by omega)⟩
  · rintro ⟨⟨a, b⟩, c⟩
    refine ⟨a, fun s hs => ?_⟩
    by_cases z : s = t
    · rw [z]; exact c
    · exact b s (by omega)
/-- the types of the functions that a body calls -/
def fn_ok (f n : Nat) (tc tl : Nat → Int32) (kN : Nat → Nat) (vl : Nat → Int32) (oc : Nat → Nat) (cod : Nat → List Nat) : Prop :=
  ∀ t, t < n → kN t = 4 → ∀ g, vl t = nI g → g < 5 → g ≠ f → rw_ok g tc tl (cod g) ∧ (∃ ts, (∀ t ∈ ts, mt_wf t) ∧ mt_encs ts = cod g ∧ ts.length = oc t + 1) ∧ (cod g).length ≤ 14 * (oc t + 1)
theorem ru_t_dep {f n : Nat} {ki va spa bou bin len pc : Nat → Int32} {kN : Nat → Nat} {vl : Nat → Int32} {oc sp bd bi : Nat → Nat} {cod : Nat → List Nat} {t : Nat} (hb : xb_ok f n ki va spa bou bin len pc kN vl oc sp bd bi) (ht : t < n) {r r' : Nat → mt_T}
    (e : ∀ n, n < 74 → r' n = r n) (h : ru_t f kN vl oc sp bd bi cod t r) : ru_t f kN vl oc sp bd bi cod t r' := by
  obtain ⟨n24, bw, _, hb⟩ := hb
  obtain ⟨b1, b2, b3, b4, b5, b6, b7, b8, b9, b10, b11⟩ := hb t ht
  refine ru_dep b2 (by omega) (fun j hj => ?_) (fun z => ?_) (fun z => ?_) e h
  · have : j < oc t := by
      by_cases z : kN t = 4
      · rw [if_pos z] at hj; exact hj
      · rw [if_neg z] at hj; rw [b11 z]; exact hj
    have := (bw_in bw ht this).2.2
    omega
  · obtain ⟨v, v1, v2, v3, v4⟩ := b9 z
    rw [v2, nI_clamp (by omega)]; exact v4
  · obtain ⟨g, g1, g2, g3, g4, g5⟩ := b10 z
    exact g5
theorem A0_0 {N : Nat} {K : Nat → Int32} {L R EL ER : Nat → Nat} {r : Nat → mt_T} : A0 N 0 K L R EL ER r ↔ gr_sat N K L R r := ⟨fun h => h.1, fun h => ⟨h, fun i hi => by omega⟩⟩
theorem x_fit17 {post : Int32 → SX → Prop} {f n : Nat} {kN : Nat → Nat} {vl : Nat → Int32} {oc sp bd bi : Nat → Nat} {cod : Nat → List Nat} {S0 : (Nat → mt_T) → Prop} (hf : f < 5) (hn : 0 < n) (hl : a_lengths f = nI n)
    (hb : xb_ok f n a_kinds a_values a_spans a_bounds a_binders a_lengths a_parameterCounts kN vl oc sp bd bi) (hfn : fn_ok f n a_typeCodes a_typeLengths kN vl oc cod)
    (hPs : ∀ N K nl nr sz el er L R rt ds c, 76 ≤ N → N ≤ 780 → xg_ok N K nl nr L R rt ds → mg_is N (gr_sat N K L R) c → (∀ n, n < N → K n = 10 → c n = .leaf (10 + n)) → (∀ n, n < N → sz n = nI (cp (mt_enc (c n)).length)) →
      pj_is 74 (gr_sat N K L R) (S_t S0 f kN vl oc sp bd bi cod n) → (∀ r, (∀ n, mt_wf (r n)) → gr_sat N K L R r → r 74 = .leaf 0 ∧ r 75 = .leaf 1) → post (-1) (f_saidPlace, f_instanceCount, (nI N), (nI 0), f_stackCount, f_wordCount, f_depth, f_cellCount, f_consCount, f_closureCount, f_stepCount, f_runAnswer, f_writtenCount, a_kinds, a_values, a_spans, a_bounds, a_binders, a_lengths, a_parameterCounts, a_typeCodes, a_typeLengths, a_instanceFunctions, K, nl, nr, sz, el, er, a_stackLefts, a_stackRights, a_words, a_boundWords, a_cellFirsts, a_cellSeconds, a_closureTokens, a_closureWords, a_written))
    (hPf : ∀ t N K nl nr sz el er, t < n → (t = 0 ∨ ∃ r, (∀ n, mt_wf (r n)) ∧ S_t S0 f kN vl oc sp bd bi cod t r) → (∀ r, (∀ n, mt_wf (r n)) → ¬ S_t S0 f kN vl oc sp bd bi cod (t + 1) r) →
      post (nI t) (f_saidPlace, f_instanceCount, (nI N), (nI 0), f_stackCount, f_wordCount, f_depth, f_cellCount, f_consCount, f_closureCount, f_stepCount, f_runAnswer, f_writtenCount, a_kinds, a_values, a_spans, a_bounds, a_binders, a_lengths, a_parameterCounts, a_typeCodes, a_typeLengths, a_instanceFunctions, K, nl, nr, sz, el, er, a_stackLefts, a_stackRights, a_words, a_boundWords, a_cellFirsts, a_cellSeconds, a_closureTokens, a_closureWords, a_written)) :
    ∀ q t fu N e0 K nl nr sz el er L R rt ds EL0 ER0, t + q = n → q < fu → 76 ≤ N → N ≤ 118 + 14 * (sm oc t + t) → e0 ≤ 4 → eq_ok N e0 el er EL0 ER0 → xg_ok N K nl nr L R rt ds → (∀ r, (∀ n, mt_wf (r n)) → A0 N e0 K L R EL0 ER0 r → r 74 = .leaf 0 ∧ r 75 = .leaf 1) →
      pj_is 74 (A0 N e0 K L R EL0 ER0) (S_t S0 f kN vl oc sp bd bi cod t) →
      (t = 0 ∨ e0 = 0 ∧ ∃ c, mg_is N (gr_sat N K L R) c ∧ (∀ n, n < N → K n = 10 → c n = .leaf (10 + n)) ∧ (∀ n, n < N → sz n = nI (cp (mt_enc (c n)).length))) →
      wX_firstIllTyped_17 post (nI f) fu (nI t) f_saidPlace f_instanceCount (nI N) (nI e0) f_stackCount f_wordCount f_depth f_cellCount f_consCount f_closureCount f_stepCount f_runAnswer f_writtenCount a_kinds a_values a_spans a_bounds a_binders a_lengths a_parameterCounts a_typeCodes a_typeLengths a_instanceFunctions K nl nr sz el er a_stackLefts a_stackRights a_words a_boundWords a_cellFirsts a_cellSeconds a_closureTokens a_closureWords a_written := by
  have hb' := hb
  obtain ⟨n24, bw, hsum, hbt⟩ := hb'
  intro q
  induction q with
  | zero =>
    intro t fu N e0 K nl nr sz el er L R rt ds EL0 ER0 ht hfu hN1 hN2 he0 hq0 hg hI hp hc
    obtain ⟨fu, rfl⟩ : ∃ g, fu = g + 1 := ⟨fu - 1, by omega⟩
    have e : t = n := by omega
    subst e
    refine And.intro (pk_in f 11 (by omega)) ?_
    rw [nI_clamp (n := f) (by omega), hl]
    rcases hc with z | ⟨z, c, c1, c2, c3⟩
    · omega
    · subst z
      exact br_t (nI_le (Nat.le_refl _) (by omega)) (hPs N K nl nr sz el er L R rt ds c hN1 (by omega) hg c1 c2 c3 (pj_iff hp (fun r => A0_0)) (fun r hw h => hI r hw (A0_0.mpr h)))
  | succ q ih =>
    intro t fu N e0 K nl nr sz el er L R rt ds EL0 ER0 ht hfu hN1 hN2 he0 hq0 hg hI hp hc
    obtain ⟨fu, rfl⟩ : ∃ g, fu = g + 1 := ⟨fu - 1, by omega⟩
    have htn : t < n := by omega
    obtain ⟨b1, b2, b3, b4, b5, b6, b7, b8, b9, b10, b11⟩ := hbt t htn
    have hso : sm oc (t + 1) = sm oc t + oc t := rfl
    have hmono := sm_mono (g := oc) (a := t + 1) n (by omega)
    have hsat : t = 0 ∨ ∃ r, (∀ n, mt_wf (r n)) ∧ S_t S0 f kN vl oc sp bd bi cod t r := by
      rcases hc with z | ⟨z, c, c1, _, _⟩
      · exact Or.inl z
      · subst z; exact Or.inr ⟨c, c1.1, hp.1 c c1.1 (A0_0.mpr (mg_self c1))⟩
    refine And.intro (pk_in f 11 (by omega)) ?_
    rw [nI_clamp (n := f) (by omega), hl]
    refine br_f (nI_ge (by omega) (by omega)) (And.intro (pk_in (f * 24 + t) 264 (by omega) (ix_24 f t)) ?_)
    have hcx : (nI f * 24 + nI t).toNatClampNeg = f * 24 + t := by rw [ix_24]; exact nI_clamp (by omega)
    rw [hcx, b1]
    -- after stating
    have after : ∀ M, M ≤ 118 + 14 * (sm oc (t + 1) + (t + 1)) → xs_post (fun u => match u with | (f_saidPlace, f_instanceCount, f_nodeCount, f_equationCount, f_stackCount, f_wordCount, f_depth, f_cellCount, f_consCount, f_closureCount, f_stepCount, f_runAnswer, f_writtenCount, a_kinds, a_values, a_spans, a_bounds, a_binders, a_lengths, a_parameterCounts, a_typeCodes, a_typeLengths, a_instanceFunctions, a_nodeKinds, a_nodeLefts, a_nodeRights, a_nodeSizes, a_equationLefts, a_equationRights, a_stackLefts, a_stackRights, a_words, a_boundWords, a_cellFirsts, a_cellSeconds, a_closureTokens, a_closureWords, a_written) => wX_firstIllTyped_57 post (wX_firstIllTyped_17 post (nI f) fu) (nI f) (nI t) f_saidPlace f_instanceCount f_nodeCount f_equationCount f_stackCount f_wordCount f_depth f_cellCount f_consCount f_closureCount f_stepCount f_runAnswer f_writtenCount a_kinds a_values a_spans a_bounds a_binders a_lengths a_parameterCounts a_typeCodes a_typeLengths a_instanceFunctions a_nodeKinds a_nodeLefts a_nodeRights a_nodeSizes a_equationLefts a_equationRights a_stackLefts a_stackRights a_words a_boundWords a_cellFirsts a_cellSeconds a_closureTokens a_closureWords a_written) N M f_saidPlace f_instanceCount (nI N) (nI e0) f_stackCount f_wordCount f_depth f_cellCount f_consCount f_closureCount f_stepCount f_runAnswer f_writtenCount a_kinds a_values a_spans a_bounds a_binders a_lengths a_parameterCounts a_typeCodes a_typeLengths a_instanceFunctions K nl nr sz el er a_stackLefts a_stackRights a_words a_boundWords a_cellFirsts a_cellSeconds a_closureTokens a_closureWords a_written e0 L R EL0 ER0 (ru_t f kN vl oc sp bd bi cod t) := by
      intro M hM N' e' K1 nl1 nr1 sz1 el1 er1 L1 R1 rt1 ds1 EL1 ER1 hNN hNM he' hg1 hq1 hst
      have hpj := pj_step (by omega) hp hst (fun r r' e h => ru_t_dep hb htn e h)
      have hpj1 : pj_is 74 (fun r => gr_sat N' K1 L1 R1 r ∧ eq_all e' EL1 ER1 r) (S_t S0 f kN vl oc sp bd bi cod (t + 1)) :=
        ⟨fun r hw h => S_s.mpr (hpj.1 r hw h), fun r hw h => hpj.2 r hw (S_s.mp h)⟩
      have none : (∀ r, ¬ (gr_sat N' K1 L1 R1 r ∧ eq_all e' EL1 ER1 r)) → ∀ r, (∀ n, mt_wf (r n)) → ¬ S_t S0 f kN vl oc sp bd bi cod (t + 1) r := by
        intro hno r hw h
        obtain ⟨r', _, s', _⟩ := hpj1.2 r hw h
        exact hno r' s'
      refine x_solve (S0 := fun r => gr_sat N' K1 L1 R1 r ∧ eq_all e' EL1 ER1 r) (by omega) (by omega) hg1 hq1 (fun r => Iff.rfl) (fun x1 K2 nl2 el2 er2 L2 rt2 ds2 hg2 hs2 => ?_)
      rcases hs2 with ⟨rfl, hs2⟩ | ⟨rfl, hs2⟩
      · refine br_f n1_0 (x_measure (by omega) hg2 (fun Sz c m1 m2 m3 => ?_) (fun Sz hno => ?_))
        · refine br_f n1_0 (br_f n1_0 (nm_r (nI_1 t) ?_))
          refine ih (t + 1) fu N' 0 K2 nl2 nr1 Sz el2 er2 L2 R1 rt2 ds2 (fun _ => 0) (fun _ => 0) (by omega) (by omega) (by omega) (by omega) (by omega) q0_ok hg2 (fun r hw h => ?_) (pj_iff hpj1 (fun r => (hs2 r).trans A0_0.symm)) (Or.inr ⟨rfl, c, m1, m2, m3⟩)
          have h' := (hs2 r).mpr (A0_0.mp h)
          exact hI r hw (hst.1 r hw h'.1 h'.2).1
        · refine br_t rfl (br_t rfl (hPf t N' K2 nl2 nr1 Sz el2 er2 htn hsat (none (fun r h => hno r ((hs2 r).mp h)))))
      · exact br_t rfl (br_t rfl (hPf t N' K2 nl2 nr1 sz1 el2 er2 htn hsat (none hs2)))
    refine br_c (fun z4 => ?_) (fun z4 => ?_)
    · have k4 : kN t = 4 := (nI_eq (b := 4) (by omega) (by omega)).mp z4
      obtain ⟨g, g1, g2, g3, g4, g5⟩ := b10 k4
      have cg : (vl t).toNatClampNeg = g := by rw [g2]; exact nI_clamp (by omega)
      have hru : ru_t f kN vl oc sp bd bi cod t = ru_k 4 t (jp sp t) (vw bi bd (bi t) (bi t) (vl t).toNatClampNeg) (decide (g = f)) (oc t) (cod g) := by
        unfold ru_t; rw [k4, cg]
      rw [hru] at after
      by_cases own : g = f
      · refine x_stateCall he0 hq0 (n := n) (P := oc t) (own := decide (g = f)) (Lc := cod g) (ts := []) (M := N) hN1 (fun z => by rw [decide_eq_true own] at z; exact absurd z (by decide)) (Nat.le_refl _) (by omega) hf g1 n24 htn g5 g4 (by rw [b3]; exact g2) (by simp) (fun j hj => ?_) (fun z => by rw [decide_eq_true own] at z; exact absurd z (by decide)) hg (after _ (by omega))
        have := (bw_in bw htn hj).2.2
        exact ⟨by omega, (hbt _ this).2.2.2.1⟩
      · obtain ⟨hr, ⟨ts, t1, t2, t3⟩, hlen⟩ := hfn t htn k4 g g2 g1 own
        refine x_stateCall he0 hq0 (n := n) (P := oc t) (own := decide (g = f)) (Lc := cod g) (ts := ts) (M := N + (cod g).length) hN1 (fun _ => Nat.le_refl _) (by omega) (by omega) hf g1 n24 htn g5 g4 (by rw [b3]; exact g2) (by simp) (fun j hj => ?_) (fun _ => ⟨hr, t1, t2, t3⟩) hg (after _ (by omega))
        have := (bw_in bw htn hj).2.2
        exact ⟨by omega, (hbt _ this).2.2.2.1⟩
    · have k4 : kN t ≠ 4 := fun z => z4 (by rw [z]; rfl)
      refine x_stateRule (n := n) (M := N + 2) hN1 (Nat.le_refl _) (by omega) hf htn hb k4 (fun v z hv1 hv2 => ?_) he0 hq0 hg hI (after _ (by omega))
      rw [hv1, nI_clamp (by omega)]
end
section
variable {f_saidPlace f_instanceCount f_nodeCount f_equationCount f_stackCount f_wordCount f_depth f_cellCount f_consCount f_closureCount f_stepCount f_runAnswer f_writtenCount : Int32} {a_kinds a_values a_spans a_bounds a_binders a_lengths a_parameterCounts a_typeCodes a_typeLengths a_instanceFunctions a_nodeKinds a_nodeLefts a_nodeRights a_nodeSizes a_equationLefts a_equationRights a_stackLefts a_stackRights a_words a_boundWords a_cellFirsts a_cellSeconds a_closureTokens a_closureWords a_written : Nat → Int32}
theorem x_clear2 {post : SX → Prop} (hP : ∀ K' nl', (∀ n, n < 74 → K' n = 10) → K' 74 = 0 → K' 75 = 1 → (∀ n, n < 76 → nl' n = -1) → post (f_saidPlace, f_instanceCount, (nI 76), (nI 0), f_stackCount, f_wordCount, f_depth, f_cellCount, f_consCount, f_closureCount, f_stepCount, f_runAnswer, f_writtenCount, a_kinds, a_values, a_spans, a_bounds, a_binders, a_lengths, a_parameterCounts, a_typeCodes, a_typeLengths, a_instanceFunctions, K', nl', a_nodeRights, a_nodeSizes, a_equationLefts, a_equationRights, a_stackLefts, a_stackRights, a_words, a_boundWords, a_cellFirsts, a_cellSeconds, a_closureTokens, a_closureWords, a_written)) :
    ∀ f i K nl, i ≤ 76 → 76 < f + i → (∀ n, n < i → K n = 10 ∧ nl n = -1) → wX_clearNodes_2 post f_saidPlace f_instanceCount f_nodeCount f_equationCount f_stackCount f_wordCount f_depth f_cellCount f_consCount f_closureCount f_stepCount f_runAnswer f_writtenCount f (nI i) a_kinds a_values a_spans a_bounds a_binders a_lengths a_parameterCounts a_typeCodes a_typeLengths a_instanceFunctions K nl a_nodeRights a_nodeSizes a_equationLefts a_equationRights a_stackLefts a_stackRights a_words a_boundWords a_cellFirsts a_cellSeconds a_closureTokens a_closureWords a_written := by
  intro f
  induction f with
  | zero => intro i K nl h1 h2; omega
  | succ f ih =>
    intro i K nl h1 h2 hz
    refine pk_le 76 i (fun h => nm_e (nm_e (hP _ _ (fun n hn => ?_) ?_ ?_ (fun n hn => (hz n (by omega)).2)))) (fun h => And.intro (pk_in i 1126 (by omega)) (nm_r (e' := upd K i 10) (by rw [nI_clamp (by omega)]) (And.intro (pk_in i 1126 (by omega)) (nm_r (e' := upd nl i (-1)) (by rw [nI_clamp (by omega)]) (nm_r (nI_1 i) (ih (i + 1) _ _ (by omega) (by omega) (fun n hn => ?_)))))))
    · rw [pk_un (by omega), pk_un (by omega)]; exact (hz n (by omega)).1
    · rw [pk_un (by omega), pk_us]
    · rw [pk_us]
    · by_cases z : n = i
      · subst z; exact ⟨pk_us, pk_us⟩
      · rw [pk_un z, pk_un z]; exact hz n (by omega)
theorem xg_init {K nl nr : Nat → Int32} (h1 : ∀ n, n < 74 → K n = 10) (h2 : K 74 = 0) (h3 : K 75 = 1) (h4 : ∀ n, n < 76 → nl n = -1) :
    xg_ok 76 K nl nr (fun _ => 0) (fun _ => 0) (fun n => n) (fun _ => 0) ∧ (∀ r, gr_sat 76 K (fun _ => 0) (fun _ => 0) r ↔ r 74 = .leaf 0 ∧ r 75 = .leaf 1) := by
  have hk : ∀ n, n < 76 → K n = 10 ∨ K n = 0 ∨ K n = 1 := by
    intro n hn
    rcases Nat.lt_or_ge n 74 with z | z
    · exact Or.inl (h1 n z)
    · by_cases e : n = 74
      · rw [e]; exact Or.inr (Or.inl h2)
      · have : n = 75 := by omega
        rw [this]; exact Or.inr (Or.inr h3)
  refine ⟨⟨fun n hn => ?_, fun n hn => ?_⟩, fun r => ⟨fun h => ?_, fun h n hn => ?_⟩⟩
  · rcases hk n hn with z | z | z
    · rw [z]; exact ⟨kd_10, fun q => q.elim (fun q => absurd q (by decide)) (fun q => absurd q nlf10), fun q => absurd q nrg10, fun _ => h4 n hn⟩
    · rw [z]; exact ⟨Or.inl rfl, fun q => q.elim (fun q => absurd q (by decide)) (fun q => absurd q (by unfold gr_lf; decide)), fun q => absurd q (by unfold gr_rg; decide), fun q => absurd q (by decide)⟩
    · rw [z]; exact ⟨Or.inr (Or.inl rfl), fun q => q.elim (fun q => absurd q (by decide)) (fun q => absurd q (by unfold gr_lf; decide)), fun q => absurd q (by unfold gr_rg; decide), fun q => absurd q (by decide)⟩
  · have h5 : K n ≠ 5 := by rcases hk n hn with z | z | z <;> (rw [z]; decide)
    exact ⟨hn, h5, fun _ => ⟨rfl, rfl⟩, fun q => absurd q h5, Nat.zero_le _⟩
  · have a := h 74 (by omega)
    have b := h 75 (by omega)
    rw [gr_at_0 h2] at a
    rw [gr_at_1 h3] at b
    exact ⟨a, b⟩
  · rcases Nat.lt_or_ge n 74 with z | z
    · rw [gr_at_v (h1 n z)]
    · by_cases e : n = 74
      · rw [e, gr_at_0 h2]; exact h.1
      · have : n = 75 := by omega
        rw [this, gr_at_1 h3]; exact h.2
theorem pj_init {A : (Nat → mt_T) → Prop} (h : ∀ r, A r ↔ r 74 = .leaf 0 ∧ r 75 = .leaf 1) : pj_is 74 A (fun _ => True) := by
  refine ⟨fun r _ _ => trivial, fun r hw _ => ⟨gr_put (gr_put r 74 (.leaf 0)) 75 (.leaf 1), pt_wf (pt_wf hw mt_wf0) mt_wf1, (h _).mpr ⟨?_, gr_put_eq⟩, fun n hn => ?_⟩⟩
  · rw [gr_put_ne (by omega), gr_put_eq]
  · rw [gr_put_ne (by omega), gr_put_ne (by omega)]
/-- what firstIllTyped asks for behind it -/
def xi_s (post : Int32 → SX → Prop) (f_saidPlace f_instanceCount f_nodeCount f_equationCount f_stackCount f_wordCount f_depth f_cellCount f_consCount f_closureCount f_stepCount f_runAnswer f_writtenCount : Int32) (a_kinds a_values a_spans a_bounds a_binders a_lengths a_parameterCounts a_typeCodes a_typeLengths a_instanceFunctions a_nodeKinds a_nodeLefts a_nodeRights a_nodeSizes a_equationLefts a_equationRights a_stackLefts a_stackRights a_words a_boundWords a_cellFirsts a_cellSeconds a_closureTokens a_closureWords a_written : Nat → Int32) (S : (Nat → mt_T) → Prop) : Prop :=
  ∀ N K nl nr sz el er L R rt ds c, 76 ≤ N → N ≤ 780 → xg_ok N K nl nr L R rt ds → mg_is N (gr_sat N K L R) c → (∀ n, n < N → K n = 10 → c n = .leaf (10 + n)) → (∀ n, n < N → sz n = nI (cp (mt_enc (c n)).length)) →
    pj_is 74 (gr_sat N K L R) S → (∀ r, (∀ n, mt_wf (r n)) → gr_sat N K L R r → r 74 = .leaf 0 ∧ r 75 = .leaf 1) → post (-1) (f_saidPlace, f_instanceCount, (nI N), (nI 0), f_stackCount, f_wordCount, f_depth, f_cellCount, f_consCount, f_closureCount, f_stepCount, f_runAnswer, f_writtenCount, a_kinds, a_values, a_spans, a_bounds, a_binders, a_lengths, a_parameterCounts, a_typeCodes, a_typeLengths, a_instanceFunctions, K, nl, nr, sz, el, er, a_stackLefts, a_stackRights, a_words, a_boundWords, a_cellFirsts, a_cellSeconds, a_closureTokens, a_closureWords, a_written)
theorem x_ill {post : Int32 → SX → Prop} {f n : Nat} {kN : Nat → Nat} {vl : Nat → Int32} {oc sp bd bi : Nat → Nat} {cod : Nat → List Nat} (hf : f < 5) (hn : 0 < n) (hl : a_lengths f = nI n)
    (hb : xb_ok f n a_kinds a_values a_spans a_bounds a_binders a_lengths a_parameterCounts kN vl oc sp bd bi) (hfn : fn_ok f n a_typeCodes a_typeLengths kN vl oc cod)
    (hPs : xi_s post f_saidPlace f_instanceCount f_nodeCount f_equationCount f_stackCount f_wordCount f_depth f_cellCount f_consCount f_closureCount f_stepCount f_runAnswer f_writtenCount a_kinds a_values a_spans a_bounds a_binders a_lengths a_parameterCounts a_typeCodes a_typeLengths a_instanceFunctions a_nodeKinds a_nodeLefts a_nodeRights a_nodeSizes a_equationLefts a_equationRights a_stackLefts a_stackRights a_words a_boundWords a_cellFirsts a_cellSeconds a_closureTokens a_closureWords a_written (S_t (fun _ => True) f kN vl oc sp bd bi cod n))
    (hPf : ∀ t N K nl nr sz el er, t < n → (t = 0 ∨ ∃ r, (∀ n, mt_wf (r n)) ∧ S_t (fun _ => True) f kN vl oc sp bd bi cod t r) → (∀ r, (∀ n, mt_wf (r n)) → ¬ S_t (fun _ => True) f kN vl oc sp bd bi cod (t + 1) r) →
      post (nI t) (f_saidPlace, f_instanceCount, (nI N), (nI 0), f_stackCount, f_wordCount, f_depth, f_cellCount, f_consCount, f_closureCount, f_stepCount, f_runAnswer, f_writtenCount, a_kinds, a_values, a_spans, a_bounds, a_binders, a_lengths, a_parameterCounts, a_typeCodes, a_typeLengths, a_instanceFunctions, K, nl, nr, sz, el, er, a_stackLefts, a_stackRights, a_words, a_boundWords, a_cellFirsts, a_cellSeconds, a_closureTokens, a_closureWords, a_written)) :
    wpX_firstIllTyped post (f_saidPlace, f_instanceCount, f_nodeCount, f_equationCount, f_stackCount, f_wordCount, f_depth, f_cellCount, f_consCount, f_closureCount, f_stepCount, f_runAnswer, f_writtenCount, a_kinds, a_values, a_spans, a_bounds, a_binders, a_lengths, a_parameterCounts, a_typeCodes, a_typeLengths, a_instanceFunctions, a_nodeKinds, a_nodeLefts, a_nodeRights, a_nodeSizes, a_equationLefts, a_equationRights, a_stackLefts, a_stackRights, a_words, a_boundWords, a_cellFirsts, a_cellSeconds, a_closureTokens, a_closureWords, a_written) (nI f) (-1) := by
  refine Exists.intro 77 (x_clear2 (fun K' nl' k1 k2 k3 k4 => ?_) 77 0 _ _ (by omega) (by omega) (fun n hn => by omega))
  obtain ⟨g, hs⟩ := xg_init (nr := a_nodeRights) k1 k2 k3 k4
  refine br_t rfl (Exists.intro (n + 1) ?_)
  refine x_fit17 (S0 := fun _ => True) hf hn hl hb hfn (fun N K nl nr sz el er L R rt ds c => hPs N K nl nr sz el er L R rt ds c) hPf n 0 (n + 1) 76 0 K' nl' _ _ _ _ _ _ _ _ (fun _ => 0) (fun _ => 0) (by omega) (by omega) (by omega) (by omega) (by omega) q0_ok g (fun r _ h => (hs r).mp (A0_0.mp h)) ?_ (Or.inl rfl)
  have := pj_init (A := A0 76 0 K' (fun _ => 0) (fun _ => 0) (fun _ => 0) (fun _ => 0)) (fun r => A0_0.trans (hs r))
  exact ⟨fun r hw h => ⟨trivial, fun s hs => by omega⟩, fun r hw _ => this.2 r hw trivial⟩
theorem x_illi {post : Int32 → SX → Prop} {f n row P : Nat} {kN : Nat → Nat} {vl : Nat → Int32} {oc sp bd bi : Nat → Nat} {cod : Nat → List Nat} {Lc : List Nat} {ts : List mt_T} (hf : f < 5) (hn : 0 < n) (hl : a_lengths f = nI n)
    (hb : xb_ok f n a_kinds a_values a_spans a_bounds a_binders a_lengths a_parameterCounts kN vl oc sp bd bi) (hfn : fn_ok f n a_typeCodes a_typeLengths kN vl oc cod)
    (hP2 : P ≤ 2) (hpc : a_parameterCounts f = nI P) (hr : rw_ok row a_typeCodes a_typeLengths Lc) (hw : ∀ t ∈ ts, mt_wf t) (hL : mt_encs ts = Lc) (hlen : ts.length = P + 1)
    (hPs : xi_s post f_saidPlace f_instanceCount f_nodeCount f_equationCount f_stackCount f_wordCount f_depth f_cellCount f_consCount f_closureCount f_stepCount f_runAnswer f_writtenCount a_kinds a_values a_spans a_bounds a_binders a_lengths a_parameterCounts a_typeCodes a_typeLengths a_instanceFunctions a_nodeKinds a_nodeLefts a_nodeRights a_nodeSizes a_equationLefts a_equationRights a_stackLefts a_stackRights a_words a_boundWords a_cellFirsts a_cellSeconds a_closureTokens a_closureWords a_written (S_t (fun r => sc_inst Lc ((List.range P).map (fun j => r (72 + j)) ++ [r 0])) f kN vl oc sp bd bi cod n))
    (hsol : ∃ r, (∀ n, mt_wf (r n)) ∧ S_t (fun r => sc_inst Lc ((List.range P).map (fun j => r (72 + j)) ++ [r 0])) f kN vl oc sp bd bi cod n r) :
    wpX_firstIllTyped post (f_saidPlace, f_instanceCount, f_nodeCount, f_equationCount, f_stackCount, f_wordCount, f_depth, f_cellCount, f_consCount, f_closureCount, f_stepCount, f_runAnswer, f_writtenCount, a_kinds, a_values, a_spans, a_bounds, a_binders, a_lengths, a_parameterCounts, a_typeCodes, a_typeLengths, a_instanceFunctions, a_nodeKinds, a_nodeLefts, a_nodeRights, a_nodeSizes, a_equationLefts, a_equationRights, a_stackLefts, a_stackRights, a_words, a_boundWords, a_cellFirsts, a_cellSeconds, a_closureTokens, a_closureWords, a_written) (nI f) (nI row) := by
  have hrow := hr.1
  have hlc := hr.2.1
  refine Exists.intro 77 (x_clear2 (fun K' nl' k1 k2 k3 k4 => ?_) 77 0 _ _ (by omega) (by omega) (fun n hn => by omega))
  obtain ⟨g, hs⟩ := xg_init (nr := a_nodeRights) k1 k2 k3 k4
  refine br_f (ni_ne1 (by omega)) (x_stateInstance (M := 118) (Lc := Lc) (ts := ts) (by omega) (by omega) (by omega) (by omega) hP2 hpc hr hw hL hlen g (fun N' e' K1 nl1 nr1 sz1 el1 er1 L1 R1 rt1 ds1 EL1 ER1 hNN hNM he' hg1 hq1 hst => Exists.intro (n + 1) ?_))
  refine x_fit17 (S0 := fun r => sc_inst Lc ((List.range P).map (fun j => r (72 + j)) ++ [r 0])) hf hn hl hb hfn (fun N K nl nr sz el er L R rt ds c => hPs N K nl nr sz el er L R rt ds c) (fun t N K nl nr sz el er ht _ hno => ?_) n 0 (n + 1) N' e' K1 nl1 nr1 sz1 el1 er1 L1 R1 rt1 ds1 EL1 ER1 (by omega) (by omega) (by omega) (by show N' ≤ 118 + 14 * (0 + 0); omega) (by omega) hq1 hg1 (fun r hw h => ?_) ?_ (Or.inl rfl)
  · obtain ⟨r, hrw, hS⟩ := hsol
    exact absurd ⟨hS.1, fun s hs => hS.2 s (by omega)⟩ (hno r hrw)
  · exact (hs r).mp (hst.1 r hw h.1 h.2).1.1
  · have h0 := pj_init (A := A0 76 0 K' (fun _ => 0) (fun _ => 0) (fun _ => 0) (fun _ => 0)) (fun r => A0_0.trans (hs r))
    have h1 := pj_step (by omega) h0 hst (fun r r' e h => by
      have e1 : (List.range P).map (fun j => r' (72 + j)) = (List.range P).map (fun j => r (72 + j)) := List.map_congr_left (fun j hj => e _ (by have := List.mem_range.mp hj; omega))
      rw [e1, e 0 (by omega)]; exact h)
    exact ⟨fun r hw h => ⟨(h1.1 r hw h).2, fun s hs => by omega⟩, fun r hw h => h1.2 r hw ⟨trivial, h.1⟩⟩
theorem x_large4 {post : Int32 → Prop} {N : Nat} {c : Nat → mt_T} (hN : 76 ≤ N) (hs : ∀ n, n < N → a_nodeSizes n = nI (cp (mt_enc (c n)).length)) (h1 : (∃ n, n < 76 ∧ 14 < (mt_enc (c n)).length) → post 1) (h0 : (∀ n, n < 76 → (mt_enc (c n)).length ≤ 14) → post 0) :
    ∀ f i (x : Int32), i ≤ 76 → 76 < f + i → (x = 0 ∧ (∀ n, n < i → (mt_enc (c n)).length ≤ 14) ∨ x = 1 ∧ ∃ n, n < 76 ∧ 14 < (mt_enc (c n)).length) → wX_hasLargeType_4 post f_saidPlace f_instanceCount f_nodeCount f_equationCount f_stackCount f_wordCount f_depth f_cellCount f_consCount f_closureCount f_stepCount f_runAnswer f_writtenCount a_kinds a_values a_spans a_bounds a_binders a_lengths a_parameterCounts a_typeCodes a_typeLengths a_instanceFunctions a_nodeKinds a_nodeLefts a_nodeRights a_nodeSizes a_equationLefts a_equationRights a_stackLefts a_stackRights a_words a_boundWords a_cellFirsts a_cellSeconds a_closureTokens a_closureWords a_written f x (nI i) := by
  intro f
  induction f with
  | zero => intro i x h1 h2; omega
  | succ f ih =>
    intro i x hi hf hx
    refine pk_le 76 i (fun h => ?_) (fun h => ?_)
    · rcases hx with ⟨rfl, hx⟩ | ⟨rfl, hx⟩
      · exact And.intro rfl (h0 (fun n hn => hx n (by omega)))
      · exact And.intro rfl (h1 hx)
    · rcases hx with ⟨rfl, hx⟩ | ⟨rfl, hx⟩
      · refine br_t rfl (And.intro (pk_in i 1126 (by omega)) ?_)
        rw [nI_clamp (by omega), hs i (by omega)]
        have p1 := cp_15 (mt_enc (c i)).length
        refine pk_le (cp (mt_enc (c i)).length) 14 (fun hc => nm_r (nI_1 i) (ih (i + 1) 0 (by omega) (by omega) (Or.inl ⟨rfl, fun n hn => ?_⟩))) (fun hc => nm_r (nI_1 i) (ih (i + 1) 1 (by omega) (by omega) (Or.inr ⟨rfl, i, by omega, ?_⟩)))
        · by_cases z : n = i
          · subst z; rw [cp_s (by omega)] at hc; exact hc
          · exact hx n (by omega)
        · have := cp_le (mt_enc (c i)).length; omega
      · exact br_f n1_0 (nm_r (nI_1 i) (ih (i + 1) 1 (by omega) (by omega) (Or.inr ⟨rfl, hx⟩)))
theorem x_large {post : Int32 → Prop} {N : Nat} {c : Nat → mt_T} (hN : 76 ≤ N) (hs : ∀ n, n < N → a_nodeSizes n = nI (cp (mt_enc (c n)).length)) (h1 : (∃ n, n < 76 ∧ 14 < (mt_enc (c n)).length) → post 1) (h0 : (∀ n, n < 76 → (mt_enc (c n)).length ≤ 14) → post 0) :
    wpX_hasLargeType post (f_saidPlace, f_instanceCount, f_nodeCount, f_equationCount, f_stackCount, f_wordCount, f_depth, f_cellCount, f_consCount, f_closureCount, f_stepCount, f_runAnswer, f_writtenCount, a_kinds, a_values, a_spans, a_bounds, a_binders, a_lengths, a_parameterCounts, a_typeCodes, a_typeLengths, a_instanceFunctions, a_nodeKinds, a_nodeLefts, a_nodeRights, a_nodeSizes, a_equationLefts, a_equationRights, a_stackLefts, a_stackRights, a_words, a_boundWords, a_cellFirsts, a_cellSeconds, a_closureTokens, a_closureWords, a_written) := Exists.intro 77 (x_large4 hN hs h1 h0 77 0 0 (by omega) (by omega) (Or.inl ⟨rfl, fun n hn => by omega⟩))
end
section
variable {f_saidPlace f_instanceCount f_nodeCount f_equationCount f_stackCount f_wordCount f_depth f_cellCount f_consCount f_closureCount f_stepCount f_runAnswer f_writtenCount : Int32} {a_kinds a_values a_spans a_bounds a_binders a_lengths a_parameterCounts a_typeCodes a_typeLengths a_instanceFunctions a_nodeKinds a_nodeLefts a_nodeRights a_nodeSizes a_equationLefts a_equationRights a_stackLefts a_stackRights a_words a_boundWords a_cellFirsts a_cellSeconds a_closureTokens a_closureWords a_written : Nat → Int32}
/-- the nodes while types are written: variables' lefts hold their numbers -/
def xw_ok (N : Nat) (K nl nr : Nat → Int32) (L R rt ds : Nat → Nat) (D : Nat) : Prop :=
  (∀ n, n < N → gr_kd (K n) ∧ (K n = 5 ∨ gr_lf (K n) → nl n = nI (L n) ∧ L n < N) ∧ (gr_rg (K n) → nr n = nI (R n) ∧ R n < N)) ∧ fo_is N K L rt ds D
theorem xw_of {N : Nat} {K nl nr : Nat → Int32} {L R rt ds : Nat → Nat} (h : xg_ok N K nl nr L R rt ds) : xw_ok N K nl nr L R rt ds (lk_ct K N) :=
  ⟨fun n hn => ⟨(h.1 n hn).1, (h.1 n hn).2.1, (h.1 n hn).2.2.1⟩, h.2⟩
theorem xw_up {N : Nat} {K nl nr : Nat → Int32} {L R rt ds : Nat → Nat} {D x : Nat} {v : Int32} (h : xw_ok N K nl nr L R rt ds D) (hx : K x = 10) : xw_ok N K (upd nl x v) nr L R rt ds D := by
  refine ⟨fun n hn => ?_, h.2⟩
  obtain ⟨a, b, c⟩ := h.1 n hn
  refine ⟨a, fun q => ?_, c⟩
  rw [pk_un (by intro z; subst z; rw [hx] at q; rcases q with q | q; exact absurd q (by decide); exact absurd q nlf10)]; exact b q
theorem x_rootw4 {post : Int32 → Prop} {N D : Nat} {L R rt ds : Nat → Nat} (hN : N ≤ 1126) (hg : xw_ok N a_nodeKinds a_nodeLefts a_nodeRights L R rt ds D) :
    ∀ d n i f, n < N → ds n = d → i + d ≤ 1126 → d < f → post (nI (rt n)) → wX_rootOf_4 post f_saidPlace f_instanceCount f_nodeCount f_equationCount f_stackCount f_wordCount f_depth f_cellCount f_consCount f_closureCount f_stepCount f_runAnswer f_writtenCount a_kinds a_values a_spans a_bounds a_binders a_lengths a_parameterCounts a_typeCodes a_typeLengths a_instanceFunctions a_nodeKinds a_nodeLefts a_nodeRights a_nodeSizes a_equationLefts a_equationRights a_stackLefts a_stackRights a_words a_boundWords a_cellFirsts a_cellSeconds a_closureTokens a_closureWords a_written f (nI n) (nI i) := by
  intro d
  induction d with
  | zero =>
    intro n i f hn hd hi hf hp
    obtain ⟨f, rfl⟩ : ∃ g, f = g + 1 := ⟨f - 1, by omega⟩
    have hk : ¬ a_nodeKinds n = 5 := by intro z; have := ((hg.2 n hn).2.2.2.1 z).2.2; omega
    have hr := ((hg.2 n hn).2.2.1 hk).1
    rw [hr] at hp
    refine pk_le 1126 i (fun _ => hp) (fun h => And.intro (pk_in n 1126 (by omega)) ?_)
    rw [nI_clamp (n := n) (by omega)]
    exact br_f hk hp
  | succ d ih =>
    intro n i f hn hd hi hf hp
    obtain ⟨f, rfl⟩ : ∃ g, f = g + 1 := ⟨f - 1, by omega⟩
    have hk : a_nodeKinds n = 5 := Classical.byContradiction (fun z => by have := ((hg.2 n hn).2.2.1 z).2; omega)
    obtain ⟨e1, e2, e3⟩ := (hg.2 n hn).2.2.2.1 hk
    have el := ((hg.1 n hn).2.1 (Or.inl hk)).1
    refine pk_le 1126 i (fun h => by omega) (fun h => And.intro (pk_in n 1126 (by omega)) ?_)
    rw [nI_clamp (n := n) (by omega)]
    refine br_t hk (And.intro (pk_in n 1126 (by omega)) (nm_r el (nm_r (nI_1 i) ?_)))
    exact ih (L n) (i + 1) f e1 (by omega) (by omega) (by omega) (by rw [e2]; exact hp)
theorem x_rootw {post : Int32 → Prop} {N D : Nat} {L R rt ds : Nat → Nat} (hN : N ≤ 1126) (hD : D ≤ 1126) (hg : xw_ok N a_nodeKinds a_nodeLefts a_nodeRights L R rt ds D) {n : Nat} (hn : n < N)
    (hp : post (nI (rt n))) : wpX_rootOf post (f_saidPlace, f_instanceCount, f_nodeCount, f_equationCount, f_stackCount, f_wordCount, f_depth, f_cellCount, f_consCount, f_closureCount, f_stepCount, f_runAnswer, f_writtenCount, a_kinds, a_values, a_spans, a_bounds, a_binders, a_lengths, a_parameterCounts, a_typeCodes, a_typeLengths, a_instanceFunctions, a_nodeKinds, a_nodeLefts, a_nodeRights, a_nodeSizes, a_equationLefts, a_equationRights, a_stackLefts, a_stackRights, a_words, a_boundWords, a_cellFirsts, a_cellSeconds, a_closureTokens, a_closureWords, a_written) (nI n) := by
  have h1 := (hg.2 n hn).2.2.2.2
  exact Exists.intro (ds n + 1) (x_rootw4 hN hg (ds n) n 0 _ hn rfl (by omega) (by omega) hp)
/-- a stack of nodes, the top first -/
def sk_ok (N h : Nat) (sl : Nat → Int32) (st : List Nat) : Prop := st.length = h ∧ (∀ n ∈ st, n < N) ∧ ∀ i, i < h → sl i = nI (st.getD (h - 1 - i) 0)
theorem sk_push {N h n : Nat} {sl : Nat → Int32} {st : List Nat} (hs : sk_ok N h sl st) (hn : n < N) : sk_ok N (h + 1) (upd sl h (nI n)) (n :: st) := by
  obtain ⟨a, b, c⟩ := hs
  refine ⟨by simp [a], fun m hm => ?_, fun i hi => ?_⟩
  · simp only [List.mem_cons] at hm
    rcases hm with rfl | hm
    · exact hn
    · exact b m hm
  · by_cases z : i = h
    · subst z
      rw [pk_us]
      have : i + 1 - 1 - i = 0 := by omega
      rw [this]; rfl
    · rw [pk_un z, c i (by omega)]
      have : h + 1 - 1 - i = (h - 1 - i) + 1 := by omega
      rw [this, List.getD_cons_succ]
theorem sk_pop {N h n : Nat} {sl : Nat → Int32} {st : List Nat} (hs : sk_ok N (h + 1) sl (n :: st)) : sl h = nI n ∧ n < N ∧ sk_ok N h sl st := by
  obtain ⟨a, b, c⟩ := hs
  refine ⟨?_, b n (by simp), by simpa using a, fun m hm => b m (by simp [hm]), fun i hi => ?_⟩
  · have := c h (by omega)
    have e : h + 1 - 1 - h = 0 := by omega
    rw [e] at this; exact this
  · rw [c i (by omega)]
    have : h + 1 - 1 - i = (h - 1 - i) + 1 := by omega
    rw [this, List.getD_cons_succ]
theorem dr_s {L : List Nat} : ∀ {k a : Nat} {l : List Nat}, L.drop k = a :: l → L.getD k 0 = a ∧ L.drop (k + 1) = l ∧ k < L.length := by
  induction L with
  | nil => intro k a l h; simp at h
  | cons x L ih =>
    intro k a l h
    cases k with
    | zero =>
      simp only [List.drop_zero, List.cons.injEq] at h
      exact ⟨h.1, by simpa using h.2, by simp⟩
    | succ k =>
      rw [List.drop_succ_cons] at h
      obtain ⟨p, q, r⟩ := ih h
      exact ⟨by rw [List.getD_cons_succ]; exact p, by rw [List.drop_succ_cons]; exact q, by simp only [List.length_cons]; omega⟩
/-- open: variables numbered; closed: variables INT -/
def wr_f (cl : Bool) (vs cs : List Nat) : List Nat := if cl then cl_0 cs else cn_go vs cs
/-- numbers of the variables that were seen -/
def nu_ok (N : Nat) (K nl : Nat → Int32) (vs : List Nat) : Prop := ∀ n, n < N → K n = 10 → (10 + n ∈ vs → nl n = nI (cn_ix (10 + n) vs)) ∧ (¬ 10 + n ∈ vs → nl n = -1)
theorem nu_new {N : Nat} {K nl : Nat → Int32} {vs : List Nat} {x : Nat} (h : nu_ok N K nl vs) (hx : ¬ 10 + x ∈ vs) : nu_ok N K (upd nl x (nI vs.length)) (vs ++ [10 + x]) := by
  intro n hn hk
  by_cases z : n = x
  · subst z
    rw [pk_us]
    refine ⟨fun _ => ?_, fun q => absurd (by simp) q⟩
    rw [cn_ix_new vs [] hx]
  · rw [pk_un z]
    refine ⟨fun q => ?_, fun q => (h n hn hk).2 (fun w => q (by simp [w]))⟩
    have hm : 10 + n ∈ vs := by
      simp only [List.mem_append, List.mem_singleton] at q
      rcases q with q | q
      · exact q
      · omega
    rw [cn_ix_app vs _ hm]; exact (h n hn hk).1 hm
theorem mt_encs_len {ts : List mt_T} : ts.length ≤ (mt_encs ts).length := by
  induction ts with
  | nil => simp
  | cons t ts ih => have := mt_enc_ne t; simp only [mt_encs, List.length_cons, List.length_append]; omega
theorem x_push {post : SX → Prop} {p0 p1 : Int32} {h : Nat} (hh : h < 525) (hp : post (f_saidPlace, f_instanceCount, f_nodeCount, f_equationCount, (nI (h + 1)), f_wordCount, f_depth, f_cellCount, f_consCount, f_closureCount, f_stepCount, f_runAnswer, f_writtenCount, a_kinds, a_values, a_spans, a_bounds, a_binders, a_lengths, a_parameterCounts, a_typeCodes, a_typeLengths, a_instanceFunctions, a_nodeKinds, a_nodeLefts, a_nodeRights, a_nodeSizes, a_equationLefts, a_equationRights, (upd a_stackLefts h p0), (upd a_stackRights h p1), a_words, a_boundWords, a_cellFirsts, a_cellSeconds, a_closureTokens, a_closureWords, a_written)) : wpX_push post (f_saidPlace, f_instanceCount, f_nodeCount, f_equationCount, (nI h), f_wordCount, f_depth, f_cellCount, f_consCount, f_closureCount, f_stepCount, f_runAnswer, f_writtenCount, a_kinds, a_values, a_spans, a_bounds, a_binders, a_lengths, a_parameterCounts, a_typeCodes, a_typeLengths, a_instanceFunctions, a_nodeKinds, a_nodeLefts, a_nodeRights, a_nodeSizes, a_equationLefts, a_equationRights, a_stackLefts, a_stackRights, a_words, a_boundWords, a_cellFirsts, a_cellSeconds, a_closureTokens, a_closureWords, a_written) p0 p1 :=
  And.intro (pk_in h 525 hh) (nm_r (e' := upd a_stackLefts h p0) (by rw [nI_clamp (by omega)]) (And.intro (pk_in h 525 hh) (nm_r (e' := upd a_stackRights h p1) (by rw [nI_clamp (by omega)]) (nm_r (nI_1 h) hp))))
theorem x_wr8 {post : SX → Prop} {row N D : Nat} {cl : Bool} {x2 : Int32} {L R rt ds : Nat → Nat} {c : Nat → mt_T} {OUT : List Nat} (hrow : row < 18) (hN : N ≤ 1126) (hD : D ≤ 1126) (hx2 : x2 = if cl then 1 else 0) (hO : OUT.length ≤ 42) (hO2 : ∀ k, k < OUT.length → OUT.getD k 0 < 100)
    (hc : ∀ n, n < N → c n = c (rt n)) (hcr : ∀ n, n < N → a_nodeKinds n ≠ 5 → (a_nodeKinds n = 10 → c n = .leaf (10 + n)) ∧ (a_nodeKinds n ≠ 10 → c n = gr_at a_nodeKinds L R c n))
    (hP : ∀ nl sl sr tc, (cl = true → nl = a_nodeLefts) → (∀ j, j < row * 42 ∨ row * 42 + 42 ≤ j → tc j = a_typeCodes j) → (∀ i, i < OUT.length → tc (row * 42 + i) = nI (OUT.getD i 0)) →
      post (f_saidPlace, f_instanceCount, f_nodeCount, f_equationCount, (nI 0), f_wordCount, f_depth, f_cellCount, f_consCount, f_closureCount, f_stepCount, f_runAnswer, f_writtenCount, a_kinds, a_values, a_spans, a_bounds, a_binders, a_lengths, a_parameterCounts, tc, (upd a_typeLengths row (nI OUT.length)), a_instanceFunctions, a_nodeKinds, nl, a_nodeRights, a_nodeSizes, a_equationLefts, a_equationRights, sl, sr, a_words, a_boundWords, a_cellFirsts, a_cellSeconds, a_closureTokens, a_closureWords, a_written)) :
    ∀ q fu k h st vs nl sl sr tc, (mt_encs (st.map c)).length ≤ q → q < fu → OUT.drop k = wr_f cl vs (mt_encs (st.map c)) → k ≤ OUT.length → sk_ok N h sl st → xw_ok N a_nodeKinds nl a_nodeRights L R rt ds D → ((cl = false → nu_ok N a_nodeKinds nl vs) ∧ (cl = true → nl = a_nodeLefts)) → vs.length ≤ k →
      (∀ j, j < row * 42 ∨ row * 42 + 42 ≤ j → tc j = a_typeCodes j) → (∀ i, i < k → tc (row * 42 + i) = nI (OUT.getD i 0)) →
      wX_writeRow_8 post (nI row) x2 fu (nI vs.length) (nI k) (nI k) f_saidPlace f_instanceCount f_nodeCount f_equationCount (nI h) f_wordCount f_depth f_cellCount f_consCount f_closureCount f_stepCount f_runAnswer f_writtenCount a_kinds a_values a_spans a_bounds a_binders a_lengths a_parameterCounts tc a_typeLengths a_instanceFunctions a_nodeKinds nl a_nodeRights a_nodeSizes a_equationLefts a_equationRights sl sr a_words a_boundWords a_cellFirsts a_cellSeconds a_closureTokens a_closureWords a_written := by
  have drl : ∀ k, k ≤ OUT.length → OUT.drop k = [] → k = OUT.length := by
    intro k hk h
    have := congrArg List.length h
    simp only [List.length_drop, List.length_nil] at this
    omega
  intro q
  induction q with
  | zero =>
    intro fu k h st vs nl sl sr tc hq hfu hdr hk hs hg hn hv ht1 ht2
    obtain ⟨fu, rfl⟩ : ∃ g, fu = g + 1 := ⟨fu - 1, by omega⟩
    have hst : st = [] := by
      have h1 := mt_encs_len (ts := st.map c)
      rw [List.length_map] at h1
      exact List.length_eq_zero_iff.mp (by omega)
    subst hst
    have h0 : h = 0 := hs.1.symm
    subst h0
    have ek : k = OUT.length := drl k hk (by rw [hdr]; unfold wr_f; cases cl <;> rfl)
    have fin : vp_in (nI row) 18 ∧ ∀ y, y = upd a_typeLengths (nI row).toNatClampNeg (nI k) → post (f_saidPlace, f_instanceCount, f_nodeCount, f_equationCount, (nI 0), f_wordCount, f_depth, f_cellCount, f_consCount, f_closureCount, f_stepCount, f_runAnswer, f_writtenCount, a_kinds, a_values, a_spans, a_bounds, a_binders, a_lengths, a_parameterCounts, tc, y, a_instanceFunctions, a_nodeKinds, nl, a_nodeRights, a_nodeSizes, a_equationLefts, a_equationRights, sl, sr, a_words, a_boundWords, a_cellFirsts, a_cellSeconds, a_closureTokens, a_closureWords, a_written) := by
      refine And.intro (pk_in row 18 hrow) (nm_r (e' := upd a_typeLengths row (nI OUT.length)) (by rw [nI_clamp (by omega), ek]) ?_)
      exact hP nl sl sr tc hn.2 ht1 (fun i hi => ht2 i (by omega))
    exact pk_le 42 k (fun _ => fin) (fun _ => br_t (by decide) fin)
  | succ q ih =>
    intro fu k h st vs nl sl sr tc hq hfu hdr hk hs hg hn hv ht1 ht2
    obtain ⟨fu, rfl⟩ : ∃ g, fu = g + 1 := ⟨fu - 1, by omega⟩
    cases st with
    | nil =>
      have h0 : h = 0 := hs.1.symm
      subst h0
      have ek : k = OUT.length := drl k hk (by rw [hdr]; unfold wr_f; cases cl <;> rfl)
      have fin : vp_in (nI row) 18 ∧ ∀ y, y = upd a_typeLengths (nI row).toNatClampNeg (nI k) → post (f_saidPlace, f_instanceCount, f_nodeCount, f_equationCount, (nI 0), f_wordCount, f_depth, f_cellCount, f_consCount, f_closureCount, f_stepCount, f_runAnswer, f_writtenCount, a_kinds, a_values, a_spans, a_bounds, a_binders, a_lengths, a_parameterCounts, tc, y, a_instanceFunctions, a_nodeKinds, nl, a_nodeRights, a_nodeSizes, a_equationLefts, a_equationRights, sl, sr, a_words, a_boundWords, a_cellFirsts, a_cellSeconds, a_closureTokens, a_closureWords, a_written) := by
        refine And.intro (pk_in row 18 hrow) (nm_r (e' := upd a_typeLengths row (nI OUT.length)) (by rw [nI_clamp (by omega), ek]) ?_)
        exact hP nl sl sr tc hn.2 ht1 (fun i hi => ht2 i (by omega))
      exact pk_le 42 k (fun _ => fin) (fun _ => br_t (by decide) fin)
    | cons n0 st =>
      obtain ⟨h, rfl⟩ : ∃ g, h = g + 1 := ⟨h - 1, by have := hs.1; simp only [List.length_cons] at this; omega⟩
      obtain ⟨s1, s2, s3⟩ := sk_pop hs
      obtain ⟨x1, x2', _, _, _⟩ := hg.2 n0 s2
      have hcn := hc n0 s2
      obtain ⟨kd, kl, kr⟩ := hg.1 (rt n0) x1
      obtain ⟨cv, cc⟩ := hcr (rt n0) x1 x2'
      have hlen := mt_encs_len (ts := st.map c)
      rw [List.length_map, s3.1] at hlen
      have hq' : (mt_enc (c (rt n0))).length + (mt_encs (st.map c)).length ≤ q + 1 := by
        rw [← hcn]; simpa only [List.map_cons, mt_encs, List.length_append] using hq
      have hdr' : OUT.drop k = wr_f cl vs (mt_enc (c (rt n0)) ++ mt_encs (st.map c)) := by rw [hdr, List.map_cons, mt_encs, hcn]
      have htot : (mt_enc (c (rt n0)) ++ mt_encs (st.map c)).length + k ≤ 42 := by
        have e := congrArg List.length hdr'
        have el : (wr_f cl vs (mt_enc (c (rt n0)) ++ mt_encs (st.map c))).length = (mt_enc (c (rt n0)) ++ mt_encs (st.map c)).length := by
          unfold wr_f
          cases cl
          · rw [if_neg (by decide), cn_go_map, List.length_map]
          · rw [if_pos rfl, cl_0, List.length_map]
        rw [List.length_drop, el] at e
        omega
      rw [List.length_append] at htot
      have hx0 := mt_enc_ne (c (rt n0))
      generalize hx : rt n0 = x at *
      have cx : (nI x).toNatClampNeg = x := nI_clamp (by omega)
      refine pk_le 42 k (fun z => by omega) (fun z => br_f (nI_nle (by omega) (by omega)) (nm_r (nI_pred h) (And.intro (pk_in h 525 (by omega)) ?_)))
      rw [nI_clamp (n := h) (by omega), s1]
      refine x_rootw hN hD hg s2 ?_
      rw [hx]
      refine And.intro (pk_in x 1126 (by omega)) (nm_r (e' := a_nodeKinds x) (by rw [cx]) ?_)
      have fin : ∀ (code : Nat) (nl1 : Nat → Int32) (vs1 : List Nat) (h1 : Nat) (st1 : List Nat) (sl1 sr1 : Nat → Int32), OUT.getD k 0 = code → vs1.length ≤ k + 1 → xw_ok N a_nodeKinds nl1 a_nodeRights L R rt ds D → ((cl = false → nu_ok N a_nodeKinds nl1 vs1) ∧ (cl = true → nl1 = a_nodeLefts)) →
          OUT.drop (k + 1) = wr_f cl vs1 (mt_encs (st1.map c)) → k < OUT.length → (mt_encs (st1.map c)).length ≤ q → sk_ok N h1 sl1 st1 →
          wX_writeRow_158 post (wX_writeRow_8 post (nI row) x2 fu) (nI row) x2 (nI vs1.length) (nI k) (nI code) f_saidPlace f_instanceCount f_nodeCount f_equationCount (nI h1) f_wordCount f_depth f_cellCount f_consCount f_closureCount f_stepCount f_runAnswer f_writtenCount a_kinds a_values a_spans a_bounds a_binders a_lengths a_parameterCounts tc a_typeLengths a_instanceFunctions a_nodeKinds nl1 a_nodeRights a_nodeSizes a_equationLefts a_equationRights sl1 sr1 a_words a_boundWords a_cellFirsts a_cellSeconds a_closureTokens a_closureWords a_written := by
        intro code nl1 vs1 h1 st1 sl1 sr1 f1 f3 f4 f5 f6 f7 f8 f9
        refine And.intro (pk_in (row * 42 + k) 756 (by omega) (ix_42 row k)) (nm_r (e' := upd tc (row * 42 + k) (nI code)) (by rw [ix_42, nI_clamp (by omega)]) (nm_r (nI_1 k) (nm_r (nI_1 k) ?_)))
        refine ih fu (k + 1) h1 st1 vs1 nl1 sl1 sr1 _ f8 (by omega) f6 (by omega) f9 f4 f5 f3 (fun j hj => ?_) (fun i hi => ?_)
        · rw [pk_un (by omega)]; exact ht1 j hj
        · by_cases z : i = k
          · subst z; rw [pk_us, f1]
          · rw [pk_un (by omega)]; exact ht2 i (by omega)
      have tail : ∀ (code : Nat) (nl1 : Nat → Int32) (vs1 st1 : List Nat), OUT.getD k 0 = code → vs1.length ≤ k + 1 → xw_ok N a_nodeKinds nl1 a_nodeRights L R rt ds D → ((cl = false → nu_ok N a_nodeKinds nl1 vs1) ∧ (cl = true → nl1 = a_nodeLefts)) →
          OUT.drop (k + 1) = wr_f cl vs1 (mt_encs (st1.map c)) → k < OUT.length → (mt_encs (st1.map c)).length ≤ q →
          ((gr_rg (a_nodeKinds x) ∧ st1 = L x :: R x :: st) ∨ (¬ gr_rg (a_nodeKinds x) ∧ gr_lf (a_nodeKinds x) ∧ st1 = L x :: st) ∨ (¬ gr_lf (a_nodeKinds x) ∧ st1 = st)) →
          wX_writeRow_116 post (wX_writeRow_8 post (nI row) x2 fu) (nI row) x2 (nI vs1.length) (nI k) (nI x) (a_nodeKinds x) (nI code) f_saidPlace f_instanceCount f_nodeCount f_equationCount (nI h) f_wordCount f_depth f_cellCount f_consCount f_closureCount f_stepCount f_runAnswer f_writtenCount a_kinds a_values a_spans a_bounds a_binders a_lengths a_parameterCounts tc a_typeLengths a_instanceFunctions a_nodeKinds nl1 a_nodeRights a_nodeSizes a_equationLefts a_equationRights sl sr a_words a_boundWords a_cellFirsts a_cellSeconds a_closureTokens a_closureWords a_written := by
        intro code nl1 vs1 st1 f1 f3 f4 f5 f6 f7 f8 f9
        obtain ⟨_, kl', kr'⟩ := f4.1 x x1
        rcases f9 with ⟨hr, e⟩ | ⟨hr, hl, e⟩ | ⟨hl, e⟩
        · obtain ⟨r1, r2⟩ := kr' hr
          obtain ⟨l1, l2⟩ := kl' (Or.inr (Or.inr hr))
          subst e
          refine x_hasRight (fun _ => br_f n1_0 (And.intro (pk_in x 1126 (by omega)) ?_)) (fun z => absurd hr z)
          rw [cx, r1]
          refine x_push (by omega) (x_hasLeft (fun _ => br_f n1_0 (And.intro (pk_in x 1126 (by omega)) ?_)) (fun z => absurd (Or.inr hr) z))
          rw [cx, l1]
          exact x_push (by omega) (fin code nl1 vs1 (h + 1 + 1) _ _ _ f1 f3 f4 f5 f6 f7 f8 (sk_push (sk_push s3 r2) l2))
        · obtain ⟨l1, l2⟩ := kl' (Or.inr hl)
          subst e
          refine x_hasRight (fun z => absurd z hr) (fun _ => br_t rfl (x_hasLeft (fun _ => br_f n1_0 (And.intro (pk_in x 1126 (by omega)) ?_)) (fun z => absurd hl z)))
          rw [cx, l1]
          exact x_push (by omega) (fin code nl1 vs1 (h + 1) _ _ _ f1 f3 f4 f5 f6 f7 f8 (sk_push s3 l2))
        · subst e
          refine x_hasRight (fun z => absurd (Or.inr z) hl) (fun _ => br_t rfl (x_hasLeft (fun z => absurd z hl) (fun _ => br_t rfl ?_)))
          exact fin code nl1 vs1 h _ _ _ f1 f3 f4 f5 f6 f7 f8 s3
      by_cases v10 : a_nodeKinds x = 10
      · have ec := cv v10
        rw [ec] at hdr' hq'
        have hl : ¬ gr_lf (a_nodeKinds x) := by rw [v10]; exact nlf10
        simp only [mt_enc, List.cons_append, List.nil_append, List.length_cons, List.length_nil] at hdr' hq'
        cases cl with
        | true =>
          subst hx2
          have e : wr_f true vs ((10 + x) :: mt_encs (st.map c)) = 0 :: wr_f true vs (mt_encs (st.map c)) := by
            simp only [wr_f, if_true, cl_0, List.map_cons, mt_rn, if_neg (show ¬ 10 + x < 10 by omega)]
          rw [e] at hdr'
          obtain ⟨d1, d2, d3⟩ := dr_s hdr'
          refine br_f (by decide) (br_t v10 (br_f (by decide) ?_))
          exact tail 0 nl vs st d1 (by omega) hg hn d2 d3 (by omega) (Or.inr (Or.inr ⟨hl, rfl⟩))
        | false =>
          subst hx2
          have hnm := hn.1 rfl x x1 v10
          refine br_t rfl (br_t v10 (And.intro (pk_in x 1126 (by omega)) ?_))
          rw [cx]
          by_cases hm : 10 + x ∈ vs
          · have e : wr_f false vs ((10 + x) :: mt_encs (st.map c)) = (10 + cn_ix (10 + x) vs) :: wr_f false vs (mt_encs (st.map c)) := by
              simp only [wr_f, cn_go, if_neg (show ¬ 10 + x < 10 by omega), if_pos hm]; rfl
            rw [e] at hdr'
            obtain ⟨d1, d2, d3⟩ := dr_s hdr'
            have hix := cn_ix_lt vs hm
            refine br_f (by rw [hnm.1 hm]; exact ni_ne1 (by omega)) (And.intro (pk_in x 1126 (by omega)) (nm_r (e' := nI (10 + cn_ix (10 + x) vs)) (by rw [cx, hnm.1 hm]; exact nI_add 10 _) ?_))
            exact tail _ nl vs st d1 (by omega) hg hn d2 d3 (by omega) (Or.inr (Or.inr ⟨hl, rfl⟩))
          · have e : wr_f false vs ((10 + x) :: mt_encs (st.map c)) = (10 + vs.length) :: wr_f false (vs ++ [10 + x]) (mt_encs (st.map c)) := by
              simp only [wr_f, cn_go, if_neg (show ¬ 10 + x < 10 by omega), if_neg hm]; rfl
            rw [e] at hdr'
            obtain ⟨d1, d2, d3⟩ := dr_s hdr'
            have hvl : (vs ++ [10 + x]).length = vs.length + 1 := by simp
            refine br_t (hnm.2 hm) (And.intro (pk_in x 1126 (by omega)) (nm_e (nm_r (e' := nI (vs ++ [10 + x]).length) (by rw [hvl, nI_1]) (And.intro (pk_in x 1126 (by omega)) (nm_r (e' := nI (10 + vs.length)) (by rw [cx, pk_us]; exact nI_add 10 _) ?_)))))
            exact tail _ _ (vs ++ [10 + x]) st d1 (by rw [hvl]; omega) (xw_up hg v10) ⟨fun _ => nu_new (hn.1 rfl) hm, (by intro z; cases z)⟩ d2 d3 (by omega) (Or.inr (Or.inr ⟨hl, rfl⟩))
      · have ec := cc v10
        have wrc : ∀ (d : Nat) (cs : List Nat), d < 10 → wr_f cl vs (d :: cs) = d :: wr_f cl vs cs := by
          intro d cs hd
          unfold wr_f
          cases cl
          · simp only [cn_go, if_pos hd]; rfl
          · simp only [cl_0, if_true, List.map_cons, mt_rn, if_pos hd]
        have go : ∀ (d : Nat) (st1 : List Nat), a_nodeKinds x = nI d → d < 10 → mt_enc (c x) ++ mt_encs (st.map c) = d :: mt_encs (st1.map c) →
            ((gr_rg (a_nodeKinds x) ∧ st1 = L x :: R x :: st) ∨ (¬ gr_rg (a_nodeKinds x) ∧ gr_lf (a_nodeKinds x) ∧ st1 = L x :: st) ∨ (¬ gr_lf (a_nodeKinds x) ∧ st1 = st)) →
            wX_writeRow_73 post (wX_writeRow_8 post (nI row) x2 fu) (nI row) x2 (nI vs.length) (nI k) (nI x) (a_nodeKinds x) (a_nodeKinds x) f_saidPlace f_instanceCount f_nodeCount f_equationCount (nI h) f_wordCount f_depth f_cellCount f_consCount f_closureCount f_stepCount f_runAnswer f_writtenCount a_kinds a_values a_spans a_bounds a_binders a_lengths a_parameterCounts tc a_typeLengths a_instanceFunctions a_nodeKinds nl a_nodeRights a_nodeSizes a_equationLefts a_equationRights sl sr a_words a_boundWords a_cellFirsts a_cellSeconds a_closureTokens a_closureWords a_written := by
          intro d st1 hkd hd he hst1
          rw [he, wrc d _ hd] at hdr'
          obtain ⟨d1, d2, d3⟩ := dr_s hdr'
          have hql : (mt_encs (st1.map c)).length ≤ q := by
            have := congrArg List.length he
            simp only [List.length_append, List.length_cons] at this
            omega
          refine br_f v10 ?_
          have := tail d nl vs st1 d1 (by omega) hg hn d2 d3 hql hst1
          rw [← hkd] at this
          exact this
        have all : wX_writeRow_73 post (wX_writeRow_8 post (nI row) x2 fu) (nI row) x2 (nI vs.length) (nI k) (nI x) (a_nodeKinds x) (a_nodeKinds x) f_saidPlace f_instanceCount f_nodeCount f_equationCount (nI h) f_wordCount f_depth f_cellCount f_consCount f_closureCount f_stepCount f_runAnswer f_writtenCount a_kinds a_values a_spans a_bounds a_binders a_lengths a_parameterCounts tc a_typeLengths a_instanceFunctions a_nodeKinds nl a_nodeRights a_nodeSizes a_equationLefts a_equationRights sl sr a_words a_boundWords a_cellFirsts a_cellSeconds a_closureTokens a_closureWords a_written := by
          rcases kd_cn kd x2' v10 with z | z | z | z | z
          · refine go 0 st z (by omega) (by rw [ec, gr_at_0 z]; rfl) (Or.inr (Or.inr ⟨by rw [z]; unfold gr_lf; decide, rfl⟩))
          · refine go 1 st z (by omega) (by rw [ec, gr_at_1 z]; rfl) (Or.inr (Or.inr ⟨by rw [z]; unfold gr_lf; decide, rfl⟩))
          · refine go 2 (L x :: R x :: st) z (by omega) ?_ (Or.inl ⟨Or.inl z, rfl⟩)
            rw [ec, gr_at_2 z]
            simp only [mt_enc, if_neg (show ¬ (2 : Nat) = 3 by omega), List.map_cons, mt_encs, List.cons_append, List.append_assoc]
          · refine go 3 (L x :: st) z (by omega) ?_ (Or.inr (Or.inl ⟨by rw [z]; exact nrg3, Or.inl z, rfl⟩))
            rw [ec, gr_at_3 z]
            simp only [mt_enc, if_true, List.append_nil, List.map_cons, mt_encs, List.cons_append]
          · refine go 4 (L x :: R x :: st) z (by omega) ?_ (Or.inl ⟨Or.inr z, rfl⟩)
            rw [ec, gr_at_4 z]
            simp only [mt_enc, if_neg (show ¬ (4 : Nat) = 3 by omega), List.map_cons, mt_encs, List.cons_append, List.append_assoc]
        cases cl with
        | true => subst hx2; exact br_f (by decide) (br_f v10 all)
        | false => subst hx2; exact br_t rfl all
end
section
variable {yf_place yf_points yf_names yf_textEnd yf_made yf_entry yf_waiting yf_values yf_bound yf_cells yf_conses yf_lams yf_steps yf_atWork yf_end yf_writtenCount : Int32} {ya_kind ya_up ya_turn ya_depth ya_value ya_below ya_length ya_parameters ya_codes ya_codeCount ya_form ya_colour ya_same ya_one ya_two ya_todo ya_numbered ya_text ya_ofFunction ya_codeEnd ya_instance ya_token ya_env ya_tag ya_cellEnv ya_boundNext ya_step ya_boundNumber ya_boundTag ya_headTag ya_tailTag ya_number ya_boundValue ya_head ya_tail ya_written : Nat → Int32}
theorem cc_le {K : Nat → Int32} (h : ∀ n, n < 74 → K n = 10 ∨ K n = 5) : ∀ m, cc K (74 + m) ≤ m := by
  intro m
  induction m with
  | zero =>
    have : sm (fun j => if K j = 10 ∨ K j = 5 then 0 else 1) 74 = sm (fun _ => 0) 74 := sm_same 74 (fun j hj => by simp only [if_pos (h j hj)])
    have h2 := sm_le (g := fun _ => 0) (b := 0) 74 (fun j _ => Nat.le_refl 0)
    unfold cc; rw [Nat.add_zero, this]; omega
  | succ m ih =>
    have : cc K (74 + (m + 1)) = cc K (74 + m) + (if K (74 + m) = 10 ∨ K (74 + m) = 5 then 0 else 1) := rfl
    rw [this]; split <;> omega
theorem y_joinN {post : Int32 → SY → Prop} {N a b : Nat} {K : Nat → Int32} {L R rt ds : Nat → Nat} {S0 : (Nat → mt_T) → Prop} (h74 : 74 ≤ N) (hN : N ≤ 800) (ha : a < N) (hb : b < N)
    (hg : yg_ok N ya_form ya_same ya_one ya_two K L R rt ds) (hS : ∀ r, S0 r ↔ gr_sat N K L R r ∧ r a = r b)
    (hP1 : ∀ sa' td' K' L' rt' ds', yg_ok N ya_form sa' ya_one ya_two K' L' R rt' ds' → (∀ r, S0 r ↔ gr_sat N K' L' R r) → post 1 (yf_place, yf_points, yf_names, yf_textEnd, yf_made, yf_entry, yf_waiting, yf_values, yf_bound, yf_cells, yf_conses, yf_lams, yf_steps, yf_atWork, yf_end, yf_writtenCount, ya_kind, ya_up, ya_turn, ya_depth, ya_value, ya_below, ya_length, ya_parameters, ya_codes, ya_codeCount, ya_form, ya_colour, sa', ya_one, ya_two, td', ya_numbered, ya_text, ya_ofFunction, ya_codeEnd, ya_instance, ya_token, ya_env, ya_tag, ya_cellEnv, ya_boundNext, ya_step, ya_boundNumber, ya_boundTag, ya_headTag, ya_tailTag, ya_number, ya_boundValue, ya_head, ya_tail, ya_written))
    (hP0 : ∀ sa' td', (∀ r, ¬ S0 r) → post 0 (yf_place, yf_points, yf_names, yf_textEnd, yf_made, yf_entry, yf_waiting, yf_values, yf_bound, yf_cells, yf_conses, yf_lams, yf_steps, yf_atWork, yf_end, yf_writtenCount, ya_kind, ya_up, ya_turn, ya_depth, ya_value, ya_below, ya_length, ya_parameters, ya_codes, ya_codeCount, ya_form, ya_colour, sa', ya_one, ya_two, td', ya_numbered, ya_text, ya_ofFunction, ya_codeEnd, ya_instance, ya_token, ya_env, ya_tag, ya_cellEnv, ya_boundNext, ya_step, ya_boundNumber, ya_boundTag, ya_headTag, ya_tailTag, ya_number, ya_boundValue, ya_head, ya_tail, ya_written)) : wpY_join post (yf_place, yf_points, yf_names, yf_textEnd, yf_made, yf_entry, yf_waiting, yf_values, yf_bound, yf_cells, yf_conses, yf_lams, yf_steps, yf_atWork, yf_end, yf_writtenCount, ya_kind, ya_up, ya_turn, ya_depth, ya_value, ya_below, ya_length, ya_parameters, ya_codes, ya_codeCount, ya_form, ya_colour, ya_same, ya_one, ya_two, ya_todo, ya_numbered, ya_text, ya_ofFunction, ya_codeEnd, ya_instance, ya_token, ya_env, ya_tag, ya_cellEnv, ya_boundNext, ya_step, ya_boundNumber, ya_boundTag, ya_headTag, ya_tailTag, ya_number, ya_boundValue, ya_head, ya_tail, ya_written) (nI a) (nI b) := by
  have h := cc_le (K := K) (fun n hn => (hg.1 n (by omega)).2.2.2.2.2.2.2 hn) (N - 74)
  have e : 74 + (N - 74) = N := by omega
  rw [e] at h
  exact y_join hN (by omega) ha hb hg hS hP1 hP0
/-- a code as Y's form has it: a variable is -1 -/
def yf (c : Int32) : Int32 := if c = 10 then -1 else c
theorem y_point {post : Int32 → SY → Prop} {N a b : Nat} {c p0 : Int32} (hN : N < 900) (hc : gr_kd c) (h5 : c ≠ 5) (hp0 : p0 = yf c) (ha : a < 900) (hb : b < 900)
    (hp : post (nI N) (yf_place, (nI (N + 1)), yf_names, yf_textEnd, yf_made, yf_entry, yf_waiting, yf_values, yf_bound, yf_cells, yf_conses, yf_lams, yf_steps, yf_atWork, yf_end, yf_writtenCount, ya_kind, ya_up, ya_turn, ya_depth, ya_value, ya_below, ya_length, ya_parameters, ya_codes, ya_codeCount, (upd ya_form N (yf c)), ya_colour, (upd ya_same N (nI N)), (upd ya_one N (nI a)), (upd ya_two N (nI b)), ya_todo, ya_numbered, ya_text, ya_ofFunction, ya_codeEnd, ya_instance, ya_token, ya_env, ya_tag, ya_cellEnv, ya_boundNext, ya_step, ya_boundNumber, ya_boundTag, ya_headTag, ya_tailTag, ya_number, ya_boundValue, ya_head, ya_tail, ya_written)) :
    wpY_point post (yf_place, (nI N), yf_names, yf_textEnd, yf_made, yf_entry, yf_waiting, yf_values, yf_bound, yf_cells, yf_conses, yf_lams, yf_steps, yf_atWork, yf_end, yf_writtenCount, ya_kind, ya_up, ya_turn, ya_depth, ya_value, ya_below, ya_length, ya_parameters, ya_codes, ya_codeCount, ya_form, ya_colour, ya_same, ya_one, ya_two, ya_todo, ya_numbered, ya_text, ya_ofFunction, ya_codeEnd, ya_instance, ya_token, ya_env, ya_tag, ya_cellEnv, ya_boundNext, ya_step, ya_boundNumber, ya_boundTag, ya_headTag, ya_tailTag, ya_number, ya_boundValue, ya_head, ya_tail, ya_written) p0 (nI a) (nI b) := by
  have cN : (nI N).toNatClampNeg = N := nI_clamp (by omega)
  have hf : vp_nar .byte (p0.toInt8.toInt32) = yf c := by
    subst hp0
    unfold yf
    rcases hc with z | z | z | z | z | z | z
    · rw [z]; exact nr_b (n := 0) (by omega)
    · rw [z]; exact nr_b (n := 1) (by omega)
    · rw [z]; exact nr_b (n := 2) (by omega)
    · rw [z]; exact nr_b (n := 3) (by omega)
    · rw [z]; exact nr_b (n := 4) (by omega)
    · exact absurd z h5
    · rw [z]; exact nr_bm'
  exact And.intro (pk_in N 900 hN) (nm_r (e' := upd ya_form N (yf c)) (by rw [cN, hf]) (And.intro (pk_in N 900 hN) (nm_r (e' := upd ya_same N (nI N)) (by rw [cN, nr_s (by omega)]) (And.intro (pk_in N 900 hN) (nm_r (e' := upd ya_one N (nI a)) (by rw [cN, nr_s (by omega)]) (And.intro (pk_in N 900 hN) (nm_r (e' := upd ya_two N (nI b)) (by rw [cN, nr_s (by omega)]) (nm_r (nI_1 N) hp))))))))
theorem yg_new {N : Nat} {fo sa on tw : Nat → Int32} {K : Nat → Int32} {L R rt ds : Nat → Nat} (hg : yg_ok N fo sa on tw K L R rt ds) (h74 : 74 ≤ N) (c : Int32) (a b : Nat) (hc : gr_kd c) (h5 : c ≠ 5) (hl : gr_lf c → a < N + 1) (hr : gr_rg c → b < N + 1) :
    ∃ rt' ds', yg_ok (N + 1) (upd fo N (yf c)) (upd sa N (nI N)) (upd on N (nI a)) (upd tw N (nI b)) (upd K N c) (updN L N a) (updN R N b) rt' ds' ∧
      (∀ r, gr_sat (N + 1) (upd K N c) (updN L N a) (updN R N b) r ↔ gr_sat N K L R r ∧ (c = 10 ∨ r N = gr_at (fun _ => c) (fun _ => a) (fun _ => b) r 0)) := by
  have kN : ∀ n, n < N → upd K N c n = K n := fun n hn => pk_un (by omega)
  have lN' : ∀ n, n < N → updN L N a n = L n := fun n hn => uN_n (by omega)
  have rN' : ∀ n, n < N → updN R N b n = R n := fun n hn => uN_n (by omega)
  refine ⟨fun n => if n < N then rt n else n, fun n => if n < N then ds n else 0, ⟨fun n hn => ?_, ?_⟩, fun r => ?_⟩
  · by_cases z : n = N
    · subst z
      rw [pk_us, pk_us, pk_us, pk_us, pk_us, uN_s, uN_s]
      exact ⟨hc, fun q => absurd q h5, fun _ => rfl, fun q => by rw [q]; rfl, fun _ q => by unfold yf; rw [if_neg q], fun q => ⟨rfl, hl q⟩, fun q => ⟨rfl, hr q⟩, fun q => by omega⟩
    · have hn' : n < N := by omega
      rw [pk_un z, pk_un z, pk_un z, pk_un z, pk_un z, uN_n z, uN_n z]
      obtain ⟨a1, a2, a3, a4, a5, a6, a7, a8⟩ := hg.1 n hn'
      exact ⟨a1, a2, a3, a4, a5, fun q => ⟨(a6 q).1, by have := (a6 q).2; omega⟩, fun q => ⟨(a7 q).1, by have := (a7 q).2; omega⟩, a8⟩
  · rw [lk_new kN (by rw [pk_us]; exact h5)]
    exact fo_new hg.2 kN lN' (by rw [pk_us]; exact h5)
  · rw [gr_sat_ext (N := N) (K := K) (L := L) (R := R) (by omega) kN (fun n hn _ => lN' n hn) (fun n hn _ => rN' n hn)]
    refine and_congr_right (fun _ => ?_)
    have e : gr_at (upd K N c) (updN L N a) (updN R N b) r N = if c = 10 then r N else gr_at (fun _ => c) (fun _ => a) (fun _ => b) r 0 := by
      by_cases z : c = 10
      · rw [if_pos z, gr_at_v (by rw [pk_us]; exact z)]
      · rw [if_neg z]
        rcases kd_cn hc h5 z with q | q | q | q | q
        · rw [gr_at_0 (by rw [pk_us]; exact q), gr_at_0 (K := fun _ => c) q]
        · rw [gr_at_1 (by rw [pk_us]; exact q), gr_at_1 (K := fun _ => c) q]
        · rw [gr_at_2 (by rw [pk_us]; exact q), gr_at_2 (K := fun _ => c) q, uN_s, uN_s]
        · rw [gr_at_3 (by rw [pk_us]; exact q), gr_at_3 (K := fun _ => c) q, uN_s]
        · rw [gr_at_4 (by rw [pk_us]; exact q), gr_at_4 (K := fun _ => c) q, uN_s, uN_s]
    constructor
    · intro h
      have h1 := h N (Nat.le_refl _) (by omega)
      rw [e] at h1
      by_cases z : c = 10
      · exact Or.inl z
      · rw [if_neg z] at h1; exact Or.inr h1
    · intro h n h1 h2
      have : n = N := by omega
      subst this
      rw [e]
      by_cases z : c = 10
      · rw [if_pos z]
      · rw [if_neg z]; exact h.elim (fun q => absurd q z) id
/-- Y's state of points: N of them, their solutions C -/
def yc_ok (N : Nat) (fo sa on tw : Nat → Int32) (C : (Nat → mt_T) → Prop) : Prop := ∃ (K : Nat → Int32) (L R rt ds : Nat → Nat), yg_ok N fo sa on tw K L R rt ds ∧ ∀ r, gr_sat N K L R r ↔ C r
theorem y_joinC {post : Int32 → SY → Prop} {N a b : Nat} {C : (Nat → mt_T) → Prop} (h74 : 74 ≤ N) (hN : N ≤ 800) (ha : a < N) (hb : b < N) (hg : yc_ok N ya_form ya_same ya_one ya_two C)
    (hP1 : ∀ sa' td', yc_ok N ya_form sa' ya_one ya_two (fun r => C r ∧ r a = r b) → post 1 (yf_place, yf_points, yf_names, yf_textEnd, yf_made, yf_entry, yf_waiting, yf_values, yf_bound, yf_cells, yf_conses, yf_lams, yf_steps, yf_atWork, yf_end, yf_writtenCount, ya_kind, ya_up, ya_turn, ya_depth, ya_value, ya_below, ya_length, ya_parameters, ya_codes, ya_codeCount, ya_form, ya_colour, sa', ya_one, ya_two, td', ya_numbered, ya_text, ya_ofFunction, ya_codeEnd, ya_instance, ya_token, ya_env, ya_tag, ya_cellEnv, ya_boundNext, ya_step, ya_boundNumber, ya_boundTag, ya_headTag, ya_tailTag, ya_number, ya_boundValue, ya_head, ya_tail, ya_written))
    (hP0 : ∀ sa' td', (∀ r, ¬ (C r ∧ r a = r b)) → post 0 (yf_place, yf_points, yf_names, yf_textEnd, yf_made, yf_entry, yf_waiting, yf_values, yf_bound, yf_cells, yf_conses, yf_lams, yf_steps, yf_atWork, yf_end, yf_writtenCount, ya_kind, ya_up, ya_turn, ya_depth, ya_value, ya_below, ya_length, ya_parameters, ya_codes, ya_codeCount, ya_form, ya_colour, sa', ya_one, ya_two, td', ya_numbered, ya_text, ya_ofFunction, ya_codeEnd, ya_instance, ya_token, ya_env, ya_tag, ya_cellEnv, ya_boundNext, ya_step, ya_boundNumber, ya_boundTag, ya_headTag, ya_tailTag, ya_number, ya_boundValue, ya_head, ya_tail, ya_written)) : wpY_join post (yf_place, yf_points, yf_names, yf_textEnd, yf_made, yf_entry, yf_waiting, yf_values, yf_bound, yf_cells, yf_conses, yf_lams, yf_steps, yf_atWork, yf_end, yf_writtenCount, ya_kind, ya_up, ya_turn, ya_depth, ya_value, ya_below, ya_length, ya_parameters, ya_codes, ya_codeCount, ya_form, ya_colour, ya_same, ya_one, ya_two, ya_todo, ya_numbered, ya_text, ya_ofFunction, ya_codeEnd, ya_instance, ya_token, ya_env, ya_tag, ya_cellEnv, ya_boundNext, ya_step, ya_boundNumber, ya_boundTag, ya_headTag, ya_tailTag, ya_number, ya_boundValue, ya_head, ya_tail, ya_written) (nI a) (nI b) := by
  obtain ⟨K, L, R, rt, ds, g, hs⟩ := hg
  refine y_joinN (S0 := fun r => C r ∧ r a = r b) h74 hN ha hb g (fun r => by rw [hs r]) (fun sa' td' K' L' rt' ds' g' hs' => hP1 sa' td' ⟨K', L', R, rt', ds', g', fun r => (hs' r).symm⟩) hP0
theorem y_pointC {post : Int32 → SY → Prop} {N a b : Nat} {c p0 : Int32} {C : (Nat → mt_T) → Prop} (h74 : 74 ≤ N) (hN : N < 800) (hc : gr_kd c) (h5 : c ≠ 5) (hp0 : p0 = yf c) (ha : a < N) (hb : b < N) (hg : yc_ok N ya_form ya_same ya_one ya_two C)
    (hp : ∀ fo' sa' on' tw', yc_ok (N + 1) fo' sa' on' tw' (fun r => C r ∧ (c = 10 ∨ r N = gr_at (fun _ => c) (fun _ => a) (fun _ => b) r 0)) → post (nI N) (yf_place, (nI (N + 1)), yf_names, yf_textEnd, yf_made, yf_entry, yf_waiting, yf_values, yf_bound, yf_cells, yf_conses, yf_lams, yf_steps, yf_atWork, yf_end, yf_writtenCount, ya_kind, ya_up, ya_turn, ya_depth, ya_value, ya_below, ya_length, ya_parameters, ya_codes, ya_codeCount, fo', ya_colour, sa', on', tw', ya_todo, ya_numbered, ya_text, ya_ofFunction, ya_codeEnd, ya_instance, ya_token, ya_env, ya_tag, ya_cellEnv, ya_boundNext, ya_step, ya_boundNumber, ya_boundTag, ya_headTag, ya_tailTag, ya_number, ya_boundValue, ya_head, ya_tail, ya_written)) :
    wpY_point post (yf_place, (nI N), yf_names, yf_textEnd, yf_made, yf_entry, yf_waiting, yf_values, yf_bound, yf_cells, yf_conses, yf_lams, yf_steps, yf_atWork, yf_end, yf_writtenCount, ya_kind, ya_up, ya_turn, ya_depth, ya_value, ya_below, ya_length, ya_parameters, ya_codes, ya_codeCount, ya_form, ya_colour, ya_same, ya_one, ya_two, ya_todo, ya_numbered, ya_text, ya_ofFunction, ya_codeEnd, ya_instance, ya_token, ya_env, ya_tag, ya_cellEnv, ya_boundNext, ya_step, ya_boundNumber, ya_boundTag, ya_headTag, ya_tailTag, ya_number, ya_boundValue, ya_head, ya_tail, ya_written) p0 (nI a) (nI b) := by
  obtain ⟨K, L, R, rt, ds, g, hs⟩ := hg
  obtain ⟨rt', ds', g', hs'⟩ := yg_new g h74 c a b hc h5 (fun _ => by omega) (fun _ => by omega)
  exact y_point (by omega) hc h5 hp0 (by omega) (by omega) (hp _ _ _ _ ⟨_, _, _, rt', ds', g', fun r => by rw [hs' r, hs r]⟩)
theorem bo_1 : narrow .boolean (.int (1 : Int32)) = .int 1 := rfl
theorem bo_0 : narrow .boolean (.int (0 : Int32)) = .int 0 := rfl
theorem y_is {post : Int32 → SY → Prop} {N p a b : Nat} {c p0 : Int32} {C : (Nat → mt_T) → Prop} (h74 : 74 ≤ N) (hN : N < 800) (hc : gr_kd c) (h5 : c ≠ 5) (hp0 : p0 = yf c) (hpN : p < N) (ha : a < N) (hb : b < N) (hg : yc_ok N ya_form ya_same ya_one ya_two C)
    (hP1 : ∀ fo' sa' on' tw' td', yc_ok (N + 1) fo' sa' on' tw' (fun r => (C r ∧ (c = 10 ∨ r N = gr_at (fun _ => c) (fun _ => a) (fun _ => b) r 0)) ∧ r p = r N) → post 1 (yf_place, (nI (N + 1)), yf_names, yf_textEnd, yf_made, yf_entry, yf_waiting, yf_values, yf_bound, yf_cells, yf_conses, yf_lams, yf_steps, yf_atWork, yf_end, yf_writtenCount, ya_kind, ya_up, ya_turn, ya_depth, ya_value, ya_below, ya_length, ya_parameters, ya_codes, ya_codeCount, fo', ya_colour, sa', on', tw', td', ya_numbered, ya_text, ya_ofFunction, ya_codeEnd, ya_instance, ya_token, ya_env, ya_tag, ya_cellEnv, ya_boundNext, ya_step, ya_boundNumber, ya_boundTag, ya_headTag, ya_tailTag, ya_number, ya_boundValue, ya_head, ya_tail, ya_written))
    (hP0 : ∀ fo' sa' on' tw' td', (∀ r, ¬ ((C r ∧ (c = 10 ∨ r N = gr_at (fun _ => c) (fun _ => a) (fun _ => b) r 0)) ∧ r p = r N)) → post 0 (yf_place, (nI (N + 1)), yf_names, yf_textEnd, yf_made, yf_entry, yf_waiting, yf_values, yf_bound, yf_cells, yf_conses, yf_lams, yf_steps, yf_atWork, yf_end, yf_writtenCount, ya_kind, ya_up, ya_turn, ya_depth, ya_value, ya_below, ya_length, ya_parameters, ya_codes, ya_codeCount, fo', ya_colour, sa', on', tw', td', ya_numbered, ya_text, ya_ofFunction, ya_codeEnd, ya_instance, ya_token, ya_env, ya_tag, ya_cellEnv, ya_boundNext, ya_step, ya_boundNumber, ya_boundTag, ya_headTag, ya_tailTag, ya_number, ya_boundValue, ya_head, ya_tail, ya_written)) :
    wpY_is post (yf_place, (nI N), yf_names, yf_textEnd, yf_made, yf_entry, yf_waiting, yf_values, yf_bound, yf_cells, yf_conses, yf_lams, yf_steps, yf_atWork, yf_end, yf_writtenCount, ya_kind, ya_up, ya_turn, ya_depth, ya_value, ya_below, ya_length, ya_parameters, ya_codes, ya_codeCount, ya_form, ya_colour, ya_same, ya_one, ya_two, ya_todo, ya_numbered, ya_text, ya_ofFunction, ya_codeEnd, ya_instance, ya_token, ya_env, ya_tag, ya_cellEnv, ya_boundNext, ya_step, ya_boundNumber, ya_boundTag, ya_headTag, ya_tailTag, ya_number, ya_boundValue, ya_head, ya_tail, ya_written) (nI p) p0 (nI a) (nI b) := by
  unfold wpY_is
  refine y_pointC h74 hN hc h5 hp0 ha hb hg (fun fo' sa' on' tw' g => ?_)
  refine y_joinC (by omega) (by omega) (by omega) (by omega) g (fun sa2 td2 g2 => And.intro bo_1 (hP1 _ _ _ _ _ g2)) (fun sa2 td2 g2 => And.intro bo_0 (hP0 _ _ _ _ _ g2))
end
section
variable {yf_place yf_points yf_names yf_textEnd yf_made yf_entry yf_waiting yf_values yf_bound yf_cells yf_conses yf_lams yf_steps yf_atWork yf_end yf_writtenCount : Int32} {ya_kind ya_up ya_turn ya_depth ya_value ya_below ya_length ya_parameters ya_codes ya_codeCount ya_form ya_colour ya_same ya_one ya_two ya_todo ya_numbered ya_text ya_ofFunction ya_codeEnd ya_instance ya_token ya_env ya_tag ya_cellEnv ya_boundNext ya_step ya_boundNumber ya_boundTag ya_headTag ya_tailTag ya_number ya_boundValue ya_head ya_tail ya_written : Nat → Int32}
theorem yc_low {N : Nat} {fo sa on tw : Nat → Int32} {C : (Nat → mt_T) → Prop} (h : yc_ok N fo sa on tw C) {r r' : Nat → mt_T} (e : ∀ n, n < N → r' n = r n) (hc : C r) : C r' := by
  obtain ⟨K, L, R, rt, ds, g, hs⟩ := h
  refine (hs r').mp (gr_sat_low (fun n hn hk => ?_) (fun n hn hk => ((g.1 n hn).2.2.2.2.2.2.1 hk).2) e ((hs r).mpr hc))
  rcases hk with z | z
  · exact ((g.2 n hn).2.2.2.1 z).1
  · exact ((g.1 n hn).2.2.2.2.2.1 z).2
def ys_ok (N : Nat) (C C' rule : (Nat → mt_T) → Prop) : Prop :=
  (∀ r, (∀ n, mt_wf (r n)) → C' r → C r ∧ rule r) ∧ (∀ r, (∀ n, mt_wf (r n)) → C r → rule r → ∃ r', (∀ n, mt_wf (r' n)) ∧ (∀ n, n < N → r' n = r n) ∧ C' r')
/-- what a rule of Y asks for behind it -/
def ys_post (post : Int32 → SY → Prop) (N M : Nat) (yf_place yf_points yf_names yf_textEnd yf_made yf_entry yf_waiting yf_values yf_bound yf_cells yf_conses yf_lams yf_steps yf_atWork yf_end yf_writtenCount : Int32) (ya_kind ya_up ya_turn ya_depth ya_value ya_below ya_length ya_parameters ya_codes ya_codeCount ya_form ya_colour ya_same ya_one ya_two ya_todo ya_numbered ya_text ya_ofFunction ya_codeEnd ya_instance ya_token ya_env ya_tag ya_cellEnv ya_boundNext ya_step ya_boundNumber ya_boundTag ya_headTag ya_tailTag ya_number ya_boundValue ya_head ya_tail ya_written : Nat → Int32) (C rule : (Nat → mt_T) → Prop) : Prop :=
  (∀ (N' : Nat) (fo' sa' on' tw' td' nu' : Nat → Int32) (C' : (Nat → mt_T) → Prop), N ≤ N' → N' ≤ M → yc_ok N' fo' sa' on' tw' C' → ys_ok N C C' rule →
    post 1 (yf_place, (nI N'), yf_names, yf_textEnd, yf_made, yf_entry, yf_waiting, yf_values, yf_bound, yf_cells, yf_conses, yf_lams, yf_steps, yf_atWork, yf_end, yf_writtenCount, ya_kind, ya_up, ya_turn, ya_depth, ya_value, ya_below, ya_length, ya_parameters, ya_codes, ya_codeCount, fo', ya_colour, sa', on', tw', td', nu', ya_text, ya_ofFunction, ya_codeEnd, ya_instance, ya_token, ya_env, ya_tag, ya_cellEnv, ya_boundNext, ya_step, ya_boundNumber, ya_boundTag, ya_headTag, ya_tailTag, ya_number, ya_boundValue, ya_head, ya_tail, ya_written)) ∧
  (∀ (N' : Nat) (fo' sa' on' tw' td' nu' : Nat → Int32), (∀ r, (∀ n, mt_wf (r n)) → C r → ¬ rule r) →
    post 0 (yf_place, (nI N'), yf_names, yf_textEnd, yf_made, yf_entry, yf_waiting, yf_values, yf_bound, yf_cells, yf_conses, yf_lams, yf_steps, yf_atWork, yf_end, yf_writtenCount, ya_kind, ya_up, ya_turn, ya_depth, ya_value, ya_below, ya_length, ya_parameters, ya_codes, ya_codeCount, fo', ya_colour, sa', on', tw', td', nu', ya_text, ya_ofFunction, ya_codeEnd, ya_instance, ya_token, ya_env, ya_tag, ya_cellEnv, ya_boundNext, ya_step, ya_boundNumber, ya_boundTag, ya_headTag, ya_tailTag, ya_number, ya_boundValue, ya_head, ya_tail, ya_written))
theorem d0_e {N : Nat} {a b : Nat} {r : Nat → mt_T} : ((0 : Int32) = 10 ∨ r N = gr_at (fun _ => 0) (fun _ => a) (fun _ => b) r 0) ↔ r N = .leaf 0 :=
  ⟨fun h => h.elim (fun z => absurd z (by decide)) (fun z => z.trans (gr_at_0 (K := fun _ => 0) rfl)), fun h => Or.inr (h.trans (gr_at_0 (K := fun _ => 0) (L := fun _ => a) (R := fun _ => b) (r := r) (n := 0) rfl).symm)⟩
theorem d1_e {N : Nat} {a b : Nat} {r : Nat → mt_T} : ((1 : Int32) = 10 ∨ r N = gr_at (fun _ => 1) (fun _ => a) (fun _ => b) r 0) ↔ r N = .leaf 1 :=
  ⟨fun h => h.elim (fun z => absurd z (by decide)) (fun z => z.trans (gr_at_1 (K := fun _ => 1) rfl)), fun h => Or.inr (h.trans (gr_at_1 (K := fun _ => 1) (L := fun _ => a) (R := fun _ => b) (r := r) (n := 0) rfl).symm)⟩
theorem n0_5 : (0 : Int32) ≠ 5 := by decide
theorem n1_5 : (1 : Int32) ≠ 5 := by decide
theorem kd_0 : gr_kd 0 := Or.inl rfl
theorem kd_1 : gr_kd 1 := Or.inr (Or.inl rfl)
/-- both ends of a rule from what it has made of the points: F all of it -/
theorem ys_1 {post : Int32 → SY → Prop} {N M : Nat} {C rule F : (Nat → mt_T) → Prop} (h : ys_post post N M yf_place yf_points yf_names yf_textEnd yf_made yf_entry yf_waiting yf_values yf_bound yf_cells yf_conses yf_lams yf_steps yf_atWork yf_end yf_writtenCount ya_kind ya_up ya_turn ya_depth ya_value ya_below ya_length ya_parameters ya_codes ya_codeCount ya_form ya_colour ya_same ya_one ya_two ya_todo ya_numbered ya_text ya_ofFunction ya_codeEnd ya_instance ya_token ya_env ya_tag ya_cellEnv ya_boundNext ya_step ya_boundNumber ya_boundTag ya_headTag ya_tailTag ya_number ya_boundValue ya_head ya_tail ya_written C rule) (hF : ys_ok N C F rule) {N' : Nat} {fo' sa' on' tw' td' nu' : Nat → Int32} (h1 : N ≤ N') (h2 : N' ≤ M) (hg : yc_ok N' fo' sa' on' tw' F) :
    post 1 (yf_place, (nI N'), yf_names, yf_textEnd, yf_made, yf_entry, yf_waiting, yf_values, yf_bound, yf_cells, yf_conses, yf_lams, yf_steps, yf_atWork, yf_end, yf_writtenCount, ya_kind, ya_up, ya_turn, ya_depth, ya_value, ya_below, ya_length, ya_parameters, ya_codes, ya_codeCount, fo', ya_colour, sa', on', tw', td', nu', ya_text, ya_ofFunction, ya_codeEnd, ya_instance, ya_token, ya_env, ya_tag, ya_cellEnv, ya_boundNext, ya_step, ya_boundNumber, ya_boundTag, ya_headTag, ya_tailTag, ya_number, ya_boundValue, ya_head, ya_tail, ya_written) := h.1 N' fo' sa' on' tw' td' nu' F h1 h2 hg hF
theorem ys_0 {post : Int32 → SY → Prop} {N M : Nat} {C rule F G : (Nat → mt_T) → Prop} (h : ys_post post N M yf_place yf_points yf_names yf_textEnd yf_made yf_entry yf_waiting yf_values yf_bound yf_cells yf_conses yf_lams yf_steps yf_atWork yf_end yf_writtenCount ya_kind ya_up ya_turn ya_depth ya_value ya_below ya_length ya_parameters ya_codes ya_codeCount ya_form ya_colour ya_same ya_one ya_two ya_todo ya_numbered ya_text ya_ofFunction ya_codeEnd ya_instance ya_token ya_env ya_tag ya_cellEnv ya_boundNext ya_step ya_boundNumber ya_boundTag ya_headTag ya_tailTag ya_number ya_boundValue ya_head ya_tail ya_written C rule) (hF : ys_ok N C F rule) {N' : Nat} {fo' sa' on' tw' td' nu' : Nat → Int32} (hG : ∀ r, F r → G r) (hn : ∀ r, ¬ G r) :
    post 0 (yf_place, (nI N'), yf_names, yf_textEnd, yf_made, yf_entry, yf_waiting, yf_values, yf_bound, yf_cells, yf_conses, yf_lams, yf_steps, yf_atWork, yf_end, yf_writtenCount, ya_kind, ya_up, ya_turn, ya_depth, ya_value, ya_below, ya_length, ya_parameters, ya_codes, ya_codeCount, fo', ya_colour, sa', on', tw', td', nu', ya_text, ya_ofFunction, ya_codeEnd, ya_instance, ya_token, ya_env, ya_tag, ya_cellEnv, ya_boundNext, ya_step, ya_boundNumber, ya_boundTag, ya_headTag, ya_tailTag, ya_number, ya_boundValue, ya_head, ya_tail, ya_written) :=
  h.2 N' fo' sa' on' tw' td' nu' (fun r hw hc hr => by obtain ⟨r', _, _, hf⟩ := hF.2 r hw hc hr; exact hn r' (hG r' hf))
section ru
variable {N : Nat} {C : (Nat → mt_T) → Prop} {t a b d w P : Nat} {own : Bool} {Lc : List Nat} {c : Nat → Nat}
/-- C doesn't see nodes from N on -/
def lo_ok (N : Nat) (C : (Nat → mt_T) → Prop) : Prop := ∀ r r' : Nat → mt_T, (∀ n, n < N → r' n = r n) → C r → C r'
theorem f_leaf0 (hl : lo_ok N C) (ht : t < N) : ys_ok N C (fun r => (C r ∧ ((0 : Int32) = 10 ∨ r N = gr_at (fun _ => 0) (fun _ => 0) (fun _ => 0) r 0)) ∧ r t = r N) (ru_k 0 t c w own P Lc) := by
  refine ⟨fun r hw h => ⟨h.1.1, ?_⟩, fun r hw hc hr => ⟨gr_put r N (.leaf 0), pt_wf hw mt_wf0, fun n hn => gr_put_ne (by omega), ⟨hl r _ (fun n hn => gr_put_ne (by omega)) hc, d0_e.mpr gr_put_eq⟩, ?_⟩⟩
  · show r t = _; rw [h.2]; exact d0_e.mp h.1.2
  · rw [gr_put_eq, gr_put_ne (by omega)]; exact hr
theorem f_leaf1 (hl : lo_ok N C) (ht : t < N) (k : Nat) (hk : k = 1 ∨ k = 2) : ys_ok N C (fun r => (C r ∧ ((1 : Int32) = 10 ∨ r N = gr_at (fun _ => 1) (fun _ => 0) (fun _ => 0) r 0)) ∧ r t = r N) (ru_k k t c w own P Lc) := by
  refine ⟨fun r hw h => ⟨h.1.1, ?_⟩, fun r hw hc hr => ⟨gr_put r N (.leaf 1), pt_wf hw mt_wf1, fun n hn => gr_put_ne (by omega), ⟨hl r _ (fun n hn => gr_put_ne (by omega)) hc, d1_e.mpr gr_put_eq⟩, ?_⟩⟩
  · rcases hk with rfl | rfl <;> (show r t = _; rw [h.2]; exact d1_e.mp h.1.2)
  · rw [gr_put_eq, gr_put_ne (by omega)]; rcases hk with rfl | rfl <;> exact hr
theorem f_var : ys_ok N C (fun r => C r ∧ r t = r w) (ru_k 3 t c w own P Lc) :=
  ⟨fun r hw h => h, fun r hw hc hr => ⟨r, hw, fun _ _ => rfl, hc, hr⟩⟩
theorem f_pair (hl : lo_ok N C) (ht : t < N) (ha : a < N) (hb : b < N) (h0 : c 0 = a) (h1 : c 1 = b) : ys_ok N C (fun r => (C r ∧ ((2 : Int32) = 10 ∨ r N = gr_at (fun _ => 2) (fun _ => a) (fun _ => b) r 0)) ∧ r t = r N) (ru_k 5 t c w own P Lc) := by
  refine ⟨fun r hw h => ⟨h.1.1, ?_⟩, fun r hw hc hr => ⟨gr_put r N (.branch 2 (r a) (r b)), pt_wf hw (sw2 (hw _) (hw _)), fun n hn => gr_put_ne (by omega), ⟨hl r _ (fun n hn => gr_put_ne (by omega)) hc, d2_e.mpr ?_⟩, ?_⟩⟩
  · show r t = .branch 2 (r (c 0)) (r (c 1)); rw [h0, h1, h.2]; exact d2_e.mp h.1.2
  · rw [gr_put_eq, gr_put_ne (by omega), gr_put_ne (by omega)]
  · rw [gr_put_eq, gr_put_ne (by omega), ← h0, ← h1]; exact hr
theorem f_lam (hl : lo_ok N C) (ht : t < N) (ha : a < N) (h2t : 24 + 2 * t < N) (h0 : c 0 = a) : ys_ok N C (fun r => (C r ∧ ((4 : Int32) = 10 ∨ r N = gr_at (fun _ => 4) (fun _ => 24 + 2 * t) (fun _ => a) r 0)) ∧ r t = r N) (ru_k 15 t c w own P Lc) := by
  refine ⟨fun r hw h => ⟨h.1.1, ?_⟩, fun r hw hc hr => ⟨gr_put r N (.branch 4 (r (24 + 2 * t)) (r a)), pt_wf hw (sw4 (hw _) (hw _)), fun n hn => gr_put_ne (by omega), ⟨hl r _ (fun n hn => gr_put_ne (by omega)) hc, d4_e.mpr ?_⟩, ?_⟩⟩
  · show r t = .branch 4 (r (24 + 2 * t)) (r (c 0)); rw [h0, h.2]; exact d4_e.mp h.1.2
  · rw [gr_put_eq, gr_put_ne (by omega), gr_put_ne (by omega)]
  · rw [gr_put_eq, gr_put_ne (by omega), ← h0]; exact hr
theorem f_app (hl : lo_ok N C) (ht : t < N) (ha : a < N) (hb : b < N) (h0 : c 0 = a) (h1 : c 1 = b) : ys_ok N C (fun r => (C r ∧ ((4 : Int32) = 10 ∨ r N = gr_at (fun _ => 4) (fun _ => b) (fun _ => t) r 0)) ∧ r a = r N) (ru_k 16 t c w own P Lc) := by
  refine ⟨fun r hw h => ⟨h.1.1, ?_⟩, fun r hw hc hr => ⟨gr_put r N (.branch 4 (r b) (r t)), pt_wf hw (sw4 (hw _) (hw _)), fun n hn => gr_put_ne (by omega), ⟨hl r _ (fun n hn => gr_put_ne (by omega)) hc, d4_e.mpr ?_⟩, ?_⟩⟩
  · show r (c 0) = .branch 4 (r (c 1)) (r t); rw [h0, h1, h.2]; exact d4_e.mp h.1.2
  · rw [gr_put_eq, gr_put_ne (by omega), gr_put_ne (by omega)]
  · rw [gr_put_eq, gr_put_ne (by omega), ← h0, ← h1]; exact hr
theorem f_fst (hl : lo_ok N C) (ht : t < N) (ha : a < N) (h0 : c 0 = a) : ys_ok N C (fun r => ((C r ∧ ((10 : Int32) = 10 ∨ r N = gr_at (fun _ => 10) (fun _ => 0) (fun _ => 0) r 0)) ∧ ((2 : Int32) = 10 ∨ r (N + 1) = gr_at (fun _ => 2) (fun _ => t) (fun _ => N) r 0)) ∧ r a = r (N + 1)) (ru_k 6 t c w own P Lc) := by
  refine ⟨fun r hw h => ⟨h.1.1.1, r N, hw N, ?_⟩, fun r hw hc hr => ?_⟩
  · rw [h0, h.2]; exact d2_e.mp h.1.2
  · obtain ⟨x, hx, e⟩ := hr
    refine ⟨gr_put (gr_put r N x) (N + 1) (.branch 2 (r t) x), pt_wf (pt_wf hw hx) (sw2 (hw _) hx), fun n hn => by rw [gr_put_ne (by omega), gr_put_ne (by omega)], ⟨⟨hl r _ (fun n hn => by rw [gr_put_ne (by omega), gr_put_ne (by omega)]) hc, Or.inl rfl⟩, d2_e.mpr ?_⟩, ?_⟩
    · rw [gr_put_eq, gr_put_ne (by omega), gr_put_ne (by omega), gr_put_ne (by omega), gr_put_eq]
    · rw [gr_put_eq, gr_put_ne (by omega), gr_put_ne (by omega), ← h0]; exact e
theorem f_snd (hl : lo_ok N C) (ht : t < N) (ha : a < N) (h0 : c 0 = a) : ys_ok N C (fun r => ((C r ∧ ((10 : Int32) = 10 ∨ r N = gr_at (fun _ => 10) (fun _ => 0) (fun _ => 0) r 0)) ∧ ((2 : Int32) = 10 ∨ r (N + 1) = gr_at (fun _ => 2) (fun _ => N) (fun _ => t) r 0)) ∧ r a = r (N + 1)) (ru_k 7 t c w own P Lc) := by
  refine ⟨fun r hw h => ⟨h.1.1.1, r N, hw N, ?_⟩, fun r hw hc hr => ?_⟩
  · rw [h0, h.2]; exact d2_e.mp h.1.2
  · obtain ⟨x, hx, e⟩ := hr
    refine ⟨gr_put (gr_put r N x) (N + 1) (.branch 2 x (r t)), pt_wf (pt_wf hw hx) (sw2 hx (hw _)), fun n hn => by rw [gr_put_ne (by omega), gr_put_ne (by omega)], ⟨⟨hl r _ (fun n hn => by rw [gr_put_ne (by omega), gr_put_ne (by omega)]) hc, Or.inl rfl⟩, d2_e.mpr ?_⟩, ?_⟩
    · rw [gr_put_eq, gr_put_ne (j := N) (by omega), gr_put_eq, gr_put_ne (by omega), gr_put_ne (by omega)]
    · rw [gr_put_eq, gr_put_ne (by omega), gr_put_ne (by omega), ← h0]; exact e
theorem f_nil (hl : lo_ok N C) (ht : t < N) : ys_ok N C (fun r => ((C r ∧ ((10 : Int32) = 10 ∨ r N = gr_at (fun _ => 10) (fun _ => 0) (fun _ => 0) r 0)) ∧ ((3 : Int32) = 10 ∨ r (N + 1) = gr_at (fun _ => 3) (fun _ => N) (fun _ => 0) r 0)) ∧ r t = r (N + 1)) (ru_k 8 t c w own P Lc) := by
  refine ⟨fun r hw h => ⟨h.1.1.1, r N, hw N, ?_⟩, fun r hw hc hr => ?_⟩
  · rw [h.2]; exact d3_e.mp h.1.2
  · obtain ⟨x, hx, e⟩ := hr
    refine ⟨gr_put (gr_put r N x) (N + 1) (.branch 3 x (.leaf 0)), pt_wf (pt_wf hw hx) (sw3 hx), fun n hn => by rw [gr_put_ne (by omega), gr_put_ne (by omega)], ⟨⟨hl r _ (fun n hn => by rw [gr_put_ne (by omega), gr_put_ne (by omega)]) hc, Or.inl rfl⟩, d3_e.mpr ?_⟩, ?_⟩
    · rw [gr_put_eq, gr_put_ne (by omega), gr_put_eq]
    · rw [gr_put_eq, gr_put_ne (by omega), gr_put_ne (by omega)]; exact e
theorem f_cons (hl : lo_ok N C) (ht : t < N) (ha : a < N) (hb : b < N) (h0 : c 0 = a) (h1 : c 1 = b) : ys_ok N C (fun r => ((C r ∧ ((3 : Int32) = 10 ∨ r N = gr_at (fun _ => 3) (fun _ => a) (fun _ => 0) r 0)) ∧ r b = r N) ∧ r t = r b) (ru_k 9 t c w own P Lc) := by
  refine ⟨fun r hw h => ⟨h.1.1.1, ?_, ?_⟩, fun r hw hc hr => ?_⟩
  · rw [h0, h1, h.1.2]; exact d3_e.mp h.1.1.2
  · rw [h1]; exact h.2
  · obtain ⟨e1, e2⟩ := hr
    rw [h0, h1] at e1
    rw [h1] at e2
    refine ⟨gr_put r N (.branch 3 (r a) (.leaf 0)), pt_wf hw (sw3 (hw _)), fun n hn => gr_put_ne (by omega), ⟨⟨hl r _ (fun n hn => gr_put_ne (by omega)) hc, d3_e.mpr ?_⟩, ?_⟩, ?_⟩
    · rw [gr_put_eq, gr_put_ne (by omega)]
    · rw [gr_put_eq, gr_put_ne (by omega)]; exact e1
    · rw [gr_put_ne (by omega), gr_put_ne (by omega)]; exact e2
theorem f_let (h0 : c 0 = a) (h1 : c 1 = b) : ys_ok N C (fun r => (C r ∧ r (24 + 2 * t) = r a) ∧ r t = r b) (ru_k 14 t c w own P Lc) := by
  refine ⟨fun r hw h => ⟨h.1.1, by rw [h0]; exact h.1.2, by rw [h1]; exact h.2⟩, fun r hw hc hr => ⟨r, hw, fun _ _ => rfl, ⟨hc, ?_⟩, ?_⟩⟩
  · have := hr.1; rw [h0] at this; exact this
  · have := hr.2; rw [h1] at this; exact this
theorem f_if (hl : lo_ok N C) (ht : t < N) (ha : a < N) (hb : b < N) (hd : d < N) (h0 : c 0 = a) (h1 : c 1 = b) (h2 : c 2 = d) : ys_ok N C (fun r => (((C r ∧ ((1 : Int32) = 10 ∨ r N = gr_at (fun _ => 1) (fun _ => 0) (fun _ => 0) r 0)) ∧ r a = r N) ∧ r b = r t) ∧ r d = r t) (ru_k 11 t c w own P Lc) := by
  refine ⟨fun r hw h => ⟨h.1.1.1.1, ?_, ?_, ?_⟩, fun r hw hc hr => ?_⟩
  · rw [h0, h.1.1.2]; exact d1_e.mp h.1.1.1.2
  · rw [h1]; exact h.1.2
  · rw [h2]; exact h.2
  · obtain ⟨e1, e2, e3⟩ := hr
    rw [h0] at e1
    rw [h1] at e2
    rw [h2] at e3
    refine ⟨gr_put r N (.leaf 1), pt_wf hw mt_wf1, fun n hn => gr_put_ne (by omega), ⟨⟨⟨hl r _ (fun n hn => gr_put_ne (by omega)) hc, d1_e.mpr gr_put_eq⟩, ?_⟩, ?_⟩, ?_⟩
    · rw [gr_put_eq, gr_put_ne (by omega)]; exact e1
    · rw [gr_put_ne (by omega), gr_put_ne (by omega)]; exact e2
    · rw [gr_put_ne (by omega), gr_put_ne (by omega)]; exact e3
theorem f_case (hl : lo_ok N C) (ht : t < N) (h25 : 25 + 2 * t < N) (ha : a < N) (hb : b < N) (hd : d < N) (h0 : c 0 = a) (h1 : c 1 = b) (h2 : c 2 = d) :
    ys_ok N C (fun r => ((((C r ∧ ((3 : Int32) = 10 ∨ r N = gr_at (fun _ => 3) (fun _ => 24 + 2 * t) (fun _ => 0) r 0)) ∧ r a = r N) ∧ r (25 + 2 * t) = r a) ∧ r b = r t) ∧ r d = r t) (ru_k 10 t c w own P Lc) := by
  refine ⟨fun r hw h => ⟨h.1.1.1.1.1, ?_, ?_, ?_, ?_⟩, fun r hw hc hr => ?_⟩
  · rw [h0, h.1.1.1.2]; exact d3_e.mp h.1.1.1.1.2
  · rw [h0]; exact h.1.1.2
  · rw [h1]; exact h.1.2
  · rw [h2]; exact h.2
  · obtain ⟨e1, e2, e3, e4⟩ := hr
    rw [h0] at e1 e2
    rw [h1] at e3
    rw [h2] at e4
    refine ⟨gr_put r N (.branch 3 (r (24 + 2 * t)) (.leaf 0)), pt_wf hw (sw3 (hw _)), fun n hn => gr_put_ne (by omega), ⟨⟨⟨⟨hl r _ (fun n hn => gr_put_ne (by omega)) hc, d3_e.mpr ?_⟩, ?_⟩, ?_⟩, ?_⟩, ?_⟩
    · rw [gr_put_eq, gr_put_ne (by omega)]
    · rw [gr_put_eq, gr_put_ne (by omega)]; exact e1
    · rw [gr_put_ne (by omega), gr_put_ne (by omega)]; exact e2
    · rw [gr_put_ne (by omega), gr_put_ne (by omega)]; exact e3
    · rw [gr_put_ne (by omega), gr_put_ne (by omega)]; exact e4
end ru
end
section
variable {yf_place yf_points yf_names yf_textEnd yf_made yf_entry yf_waiting yf_values yf_bound yf_cells yf_conses yf_lams yf_steps yf_atWork yf_end yf_writtenCount : Int32} {ya_kind ya_up ya_turn ya_depth ya_value ya_below ya_length ya_parameters ya_codes ya_codeCount ya_form ya_colour ya_same ya_one ya_two ya_todo ya_numbered ya_text ya_ofFunction ya_codeEnd ya_instance ya_token ya_env ya_tag ya_cellEnv ya_boundNext ya_step ya_boundNumber ya_boundTag ya_headTag ya_tailTag ya_number ya_boundValue ya_head ya_tail ya_written : Nat → Int32}
theorem sx_1 : ∀ us : List mt_T, (∀ t ∈ us, mt_wf t) → ∀ (c : Nat) (l : List Nat), mt_encs us = c :: l → ∃ u rest, us = u :: rest ∧ mt_hd u = c ∧ ∃ ws, (∀ t ∈ ws, mt_wf t) ∧ mt_encs ws = l ∧
    (((∃ n, u = .leaf n) ∧ ws = rest) ∨ (∃ a, u = .branch 3 a (.leaf 0) ∧ ws = a :: rest) ∨ (∃ a b, (c = 2 ∨ c = 4) ∧ u = .branch c a b ∧ ws = a :: b :: rest)) := by
  intro us hw c l h
  cases us with
  | nil => simp [mt_encs] at h
  | cons u rest =>
    have hwu := hw u (by simp)
    have hwr : ∀ t ∈ rest, mt_wf t := fun t ht => hw t (by simp [ht])
    cases u with
    | leaf n =>
      simp only [mt_encs, mt_enc, List.cons_append, List.nil_append, List.cons.injEq] at h
      exact ⟨.leaf n, rest, rfl, h.1, rest, hwr, h.2, Or.inl ⟨⟨n, rfl⟩, rfl⟩⟩
    | branch d a b =>
      rcases hwu with ⟨z, ha, zb⟩ | ⟨z, ha, hb⟩
      · subst z; subst zb
        simp only [mt_encs, mt_enc, if_true, List.append_nil, List.cons_append, List.cons.injEq] at h
        refine ⟨_, rest, rfl, h.1, a :: rest, ?_, h.2, Or.inr (Or.inl ⟨a, rfl, rfl⟩)⟩
        intro t ht
        simp only [List.mem_cons] at ht
        rcases ht with rfl | ht
        · exact ha
        · exact hwr t ht
      · have h3 : ¬ d = 3 := by omega
        simp only [mt_encs, mt_enc, if_neg h3, List.cons_append, List.append_assoc, List.cons.injEq] at h
        refine ⟨_, rest, rfl, h.1, a :: b :: rest, ?_, h.2, Or.inr (Or.inr ⟨a, b, by omega, by rw [← h.1], rfl⟩)⟩
        intro t ht
        simp only [List.mem_cons] at ht
        rcases ht with rfl | rfl | ht
        · exact ha
        · exact hb
        · exact hwr t ht
theorem sx_all {ts : List mt_T} (hw : ∀ t ∈ ts, mt_wf t) : ∀ i, i ≤ (mt_encs ts).length → ∃ us, (∀ t ∈ us, mt_wf t) ∧ mt_encs us = (mt_encs ts).drop i := by
  intro i
  induction i with
  | zero => intro _; exact ⟨ts, hw, rfl⟩
  | succ i ih =>
    intro hi
    obtain ⟨us, hu, e⟩ := ih (by omega)
    have hd : (mt_encs ts).drop i = (mt_encs ts).getD i 0 :: (mt_encs ts).drop (i + 1) := by
      rw [List.drop_eq_getElem_cons (by omega)]
      simp [List.getD_eq_getElem?_getD, List.getElem?_eq_getElem (show i < (mt_encs ts).length by omega)]
    rw [hd] at e
    obtain ⟨_, _, _, _, ws, h1, h2, _⟩ := sx_1 us hu _ _ e
    exact ⟨ws, h1, h2⟩
/-- Y's stack of nodes from place 1000 on, the top first -/
def rk_ok (B N : Nat) (td : Nat → Int32) (st : List Nat) : Prop := (∀ n ∈ st, B ≤ n ∧ n < N) ∧ ∀ q, q < st.length → td (1000 + (st.length - 1 - q)) = nI (st.getD q 0)
theorem rk_push {B N n : Nat} {td : Nat → Int32} {st : List Nat} (h : rk_ok B N td st) (hn : B ≤ n ∧ n < N) : rk_ok B N (upd td (1000 + st.length) (nI n)) (n :: st) := by
  refine ⟨fun m hm => ?_, fun q hq => ?_⟩
  · simp only [List.mem_cons] at hm
    rcases hm with rfl | hm
    · exact hn
    · exact h.1 m hm
  · simp only [List.length_cons] at hq ⊢
    cases q with
    | zero =>
      have : st.length + 1 - 1 - 0 = st.length := by omega
      rw [this, pk_us]; rfl
    | succ q =>
      have : st.length + 1 - 1 - (q + 1) = st.length - 1 - q := by omega
      rw [this, pk_un (by omega), List.getD_cons_succ]
      exact h.2 q (by omega)
theorem rk_mono {B N M : Nat} {td : Nat → Int32} {st : List Nat} (h : rk_ok B N td st) (hM : N ≤ M) : rk_ok B M td st := ⟨fun n hn => ⟨(h.1 n hn).1, by have := (h.1 n hn).2; omega⟩, h.2⟩
theorem rk_pop {B N n : Nat} {td : Nat → Int32} {st : List Nat} (h : rk_ok B N td (n :: st)) : td (1000 + st.length) = nI n ∧ (B ≤ n ∧ n < N) ∧ rk_ok B N td st := by
  refine ⟨?_, h.1 n (by simp), fun m hm => h.1 m (by simp [hm]), fun q hq => ?_⟩
  · have := h.2 0 (by simp)
    simp only [List.length_cons, List.getD_cons_zero] at this
    have e : st.length + 1 - 1 - 0 = st.length := by omega
    rw [e] at this; exact this
  · have := h.2 (q + 1) (by simp only [List.length_cons]; omega)
    simp only [List.length_cons, List.getD_cons_succ] at this
    have e : st.length + 1 - 1 - (q + 1) = st.length - 1 - q := by omega
    rw [e] at this; exact this
/-- numbers of the variables of a row that is read -/
def rv_ok (B N : Nat) (K : Nat → Int32) (tg : Nat → mt_T) (nu : Nat → Int32) : Prop :=
  (∀ v, v < 50 → nu v = -1 ∨ ∃ n, nu v = nI n ∧ B ≤ n ∧ n < N ∧ K n = 10 ∧ tg n = .leaf (10 + v)) ∧ (∀ n v, B ≤ n → n < N → K n = 10 → tg n = .leaf (10 + v) → v < 50 ∧ nu v = nI n)
theorem tl_new {B N : Nat} {K : Nat → Int32} {L R : Nat → Nat} {tg : Nat → mt_T} (h : tl_is B N K L R tg) (c : Int32) (a b : Nat) (u : mt_T) (hu : mt_wf u)
    (hc : (c = 10 ∧ ∃ v, u = .leaf (10 + v)) ∨ (c = 0 ∧ u = .leaf 0) ∨ (c = 1 ∧ u = .leaf 1) ∨ (c = 3 ∧ B ≤ a ∧ a < N ∧ u = .branch 3 (tg a) (.leaf 0)) ∨
      (c = 2 ∧ B ≤ a ∧ a < N ∧ B ≤ b ∧ b < N ∧ u = .branch 2 (tg a) (tg b)) ∨ (c = 4 ∧ B ≤ a ∧ a < N ∧ B ≤ b ∧ b < N ∧ u = .branch 4 (tg a) (tg b))) :
    tl_is B (N + 1) (upd K N c) (updN L N a) (updN R N b) (gr_put tg N u) := by
  intro n h1 h2
  by_cases z : n = N
  · subst z
    rw [gr_put_eq, pk_us, uN_s, uN_s]
    refine ⟨hu, ?_⟩
    rcases hc with q | q | q | ⟨q, p1, p2, p3⟩ | ⟨q, p1, p2, p3, p4, p5⟩ | ⟨q, p1, p2, p3, p4, p5⟩
    · exact Or.inl q
    · exact Or.inr (Or.inr (Or.inl q))
    · exact Or.inr (Or.inr (Or.inr (Or.inl q)))
    · refine Or.inr (Or.inr (Or.inr (Or.inr (Or.inl ⟨q, p1, by omega, ?_⟩))))
      rw [gr_put_ne (by omega)]; exact p3
    · refine Or.inr (Or.inr (Or.inr (Or.inr (Or.inr (Or.inl ⟨q, p1, by omega, p3, by omega, ?_⟩)))))
      rw [gr_put_ne (by omega), gr_put_ne (by omega)]; exact p5
    · refine Or.inr (Or.inr (Or.inr (Or.inr (Or.inr (Or.inr ⟨q, p1, by omega, p3, by omega, ?_⟩)))))
      rw [gr_put_ne (by omega), gr_put_ne (by omega)]; exact p5
  · obtain ⟨w, q⟩ := h n h1 (by omega)
    rw [gr_put_ne z, pk_un z, uN_n z, uN_n z]
    refine ⟨w, ?_⟩
    rcases q with q | ⟨q, p1, p2, p3, p4⟩ | q | q | ⟨q, p1, p2, p3⟩ | ⟨q, p1, p2, p3, p4, p5⟩ | ⟨q, p1, p2, p3, p4, p5⟩
    · exact Or.inl q
    · refine Or.inr (Or.inl ⟨q, p1, by omega, ?_, ?_⟩)
      · rw [gr_put_ne (by omega)]; exact p3
      · rw [pk_un (by omega)]; exact p4
    · exact Or.inr (Or.inr (Or.inl q))
    · exact Or.inr (Or.inr (Or.inr (Or.inl q)))
    · refine Or.inr (Or.inr (Or.inr (Or.inr (Or.inl ⟨q, p1, by omega, ?_⟩))))
      rw [gr_put_ne (by omega)]; exact p3
    · refine Or.inr (Or.inr (Or.inr (Or.inr (Or.inr (Or.inl ⟨q, p1, by omega, p3, by omega, ?_⟩)))))
      rw [gr_put_ne (by omega), gr_put_ne (by omega)]; exact p5
    · refine Or.inr (Or.inr (Or.inr (Or.inr (Or.inr (Or.inr ⟨q, p1, by omega, p3, by omega, ?_⟩)))))
      rw [gr_put_ne (by omega), gr_put_ne (by omega)]; exact p5
theorem rv_mono {B N : Nat} {K : Nat → Int32} {tg : Nat → mt_T} {nu : Nat → Int32} (h : rv_ok B N K tg nu) (hB : B ≤ N) {c : Int32} {u : mt_T} (hc : c ≠ 10) : rv_ok B (N + 1) (upd K N c) (gr_put tg N u) nu := by
  refine ⟨fun v hv => ?_, fun n v h1 h2 h3 h4 => ?_⟩
  · rcases h.1 v hv with z | ⟨n, a, b, d, e, f⟩
    · exact Or.inl z
    · exact Or.inr ⟨n, a, b, by omega, by rw [pk_un (by omega)]; exact e, by rw [gr_put_ne (by omega)]; exact f⟩
  · by_cases z : n = N
    · subst z; rw [pk_us] at h3; exact absurd h3 hc
    · rw [pk_un z] at h3; rw [gr_put_ne z] at h4; exact h.2 n v h1 (by omega) h3 h4
theorem rv_new {B N : Nat} {K : Nat → Int32} {tg : Nat → mt_T} {nu : Nat → Int32} (h : rv_ok B N K tg nu) (hB : B ≤ N) (hN : N < 2 ^ 31) {v : Nat} (hv : v < 50) (hn : nu v = -1) : rv_ok B (N + 1) (upd K N 10) (gr_put tg N (.leaf (10 + v))) (upd nu v (nI N)) := by
  refine ⟨fun w hw => ?_, fun n w h1 h2 h3 h4 => ?_⟩
  · by_cases z : w = v
    · subst z; exact Or.inr ⟨N, pk_us, hB, by omega, pk_us, gr_put_eq⟩
    · rw [pk_un z]
      rcases h.1 w hw with q | ⟨n, a, b, d, e, f⟩
      · exact Or.inl q
      · exact Or.inr ⟨n, a, b, by omega, by rw [pk_un (by omega)]; exact e, by rw [gr_put_ne (by omega)]; exact f⟩
  · by_cases z : n = N
    · subst z
      rw [gr_put_eq] at h4
      simp only [Lean.RArray.leaf.injEq] at h4
      have : w = v := by omega
      subst this; exact ⟨hv, pk_us⟩
    · rw [pk_un z] at h3; rw [gr_put_ne z] at h4
      obtain ⟨q1, q2⟩ := h.2 n w h1 (by omega) h3 h4
      refine ⟨q1, ?_⟩
      by_cases y : w = v
      · subst y; rw [q2] at hn; exact absurd hn (ni_ne1 (by omega))
      · rw [pk_un y]; exact q2
end
section
variable {yf_place yf_points yf_names yf_textEnd yf_made yf_entry yf_waiting yf_values yf_bound yf_cells yf_conses yf_lams yf_steps yf_atWork yf_end yf_writtenCount : Int32} {ya_kind ya_up ya_turn ya_depth ya_value ya_below ya_length ya_parameters ya_codes ya_codeCount ya_form ya_colour ya_same ya_one ya_two ya_todo ya_numbered ya_text ya_ofFunction ya_codeEnd ya_instance ya_token ya_env ya_tag ya_cellEnv ya_boundNext ya_step ya_boundNumber ya_boundTag ya_headTag ya_tailTag ya_number ya_boundValue ya_head ya_tail ya_written : Nat → Int32}
theorem dr_c {L : List Nat} {i : Nat} (h : i < L.length) : L.drop i = L.getD i 0 :: L.drop (i + 1) := by
  rw [List.drop_eq_getElem_cons h]
  simp [List.getD_eq_getElem?_getD, List.getElem?_eq_getElem h]
theorem dr_c' {L : List Nat} {i c : Nat} (hc : L.getD i 0 = c) (h : i < L.length) : L.drop i = c :: L.drop (i + 1) := by rw [← hc]; exact dr_c h
theorem lt_m1 {F : Nat} (h : F < 2 ^ 31) : nI F + (-1) < nI F := by
  cases F with
  | zero => decide
  | succ F => rw [pk_m1]; exact nI_lt (by omega) h
theorem ix_th (m : Nat) : (1000 : Int32) + nI m = nI (1000 + m) := nI_add 1000 m
theorem map_2 {α β : Type} {f : α → β} {st : List α} {a b : β} {l : List β} (h : st.map f = a :: b :: l) : ∃ x y st', st = x :: y :: st' ∧ f x = a ∧ f y = b ∧ st'.map f = l := by
  cases st with
  | nil => simp at h
  | cons x st =>
    cases st with
    | nil => simp at h
    | cons y st =>
      simp only [List.map_cons, List.cons.injEq] at h
      exact ⟨x, y, st, rfl, h.1, h.2.1, h.2.2⟩
theorem map_1 {α β : Type} {f : α → β} {st : List α} {a : β} {l : List β} (h : st.map f = a :: l) : ∃ x st', st = x :: st' ∧ f x = a ∧ st'.map f = l := by
  cases st with
  | nil => simp at h
  | cons x st =>
    simp only [List.map_cons, List.cons.injEq] at h
    exact ⟨x, st, rfl, h.1, h.2⟩
theorem put_map {st : List Nat} {tg : Nat → mt_T} {N B : Nat} {u : mt_T} (h : ∀ n ∈ st, B ≤ n ∧ n < N) : st.map (gr_put tg N u) = st.map tg := List.map_congr_left (fun n hn => gr_put_ne (by have := (h n hn).2; omega))
theorem y_read32 {post : Int32 → SY → Prop} {B F : Nat} {fl : Bool} {x3 : Int32} {ts : List mt_T} {Lc : List Nat} {K : Nat → Int32} {L R : Nat → Nat} (h74 : 74 ≤ B) (hB : B + Lc.length ≤ 790) (hx3 : x3 = if fl then 1 else 0) (hw : ∀ t ∈ ts, mt_wf t) (hL : mt_encs ts = Lc) (hl42 : Lc.length ≤ 42)
    (hc60 : ∀ k, k < Lc.length → Lc.getD k 0 < 60) (hsrc : (fl = false ∧ F + Lc.length ≤ 240 ∧ ∀ k, k < Lc.length → ya_codes (F + k) = nI (Lc.getD k 0)) ∨ (fl = true ∧ F + Lc.length ≤ 650 ∧ ∀ k, k < Lc.length → ya_instance (F + k) = nI (Lc.getD k 0)))
    (hP : ∀ N' fo' sa' on' tw' td' nu' K' L' R' rt' ds' tg st, B ≤ N' → N' ≤ B + Lc.length → yg_ok N' fo' sa' on' tw' K' L' R' rt' ds' → (∀ n, n < B → K' n = K n ∧ L' n = L n ∧ R' n = R n) → tl_is B N' K' L' R' tg → rv_ok B N' K' tg nu' → rk_ok B N' td' st → st.map tg = ts →
      post (nI st.length) (yf_place, (nI N'), yf_names, yf_textEnd, yf_made, yf_entry, yf_waiting, yf_values, yf_bound, yf_cells, yf_conses, yf_lams, yf_steps, yf_atWork, yf_end, yf_writtenCount, ya_kind, ya_up, ya_turn, ya_depth, ya_value, ya_below, ya_length, ya_parameters, ya_codes, ya_codeCount, fo', ya_colour, sa', on', tw', td', nu', ya_text, ya_ofFunction, ya_codeEnd, ya_instance, ya_token, ya_env, ya_tag, ya_cellEnv, ya_boundNext, ya_step, ya_boundNumber, ya_boundTag, ya_headTag, ya_tailTag, ya_number, ya_boundValue, ya_head, ya_tail, ya_written)) :
    ∀ i fu N fo sa on tw td nu K' L' R' rt ds tg st, i ≤ Lc.length → i < fu → B ≤ N → N + i ≤ B + Lc.length → yg_ok N fo sa on tw K' L' R' rt ds → (∀ n, n < B → K' n = K n ∧ L' n = L n ∧ R' n = R n) → tl_is B N K' L' R' tg → rv_ok B N K' tg nu → rk_ok B N td st →
      (∀ n ∈ st, mt_wf (tg n)) → mt_encs (st.map tg) = Lc.drop i → st.length + i ≤ Lc.length →
      wY_read_32 post (nI F) x3 fu (nI st.length) (nI (F + i) + (-1)) yf_place (nI N) yf_names yf_textEnd yf_made yf_entry yf_waiting yf_values yf_bound yf_cells yf_conses yf_lams yf_steps yf_atWork yf_end yf_writtenCount ya_kind ya_up ya_turn ya_depth ya_value ya_below ya_length ya_parameters ya_codes ya_codeCount fo ya_colour sa on tw td nu ya_text ya_ofFunction ya_codeEnd ya_instance ya_token ya_env ya_tag ya_cellEnv ya_boundNext ya_step ya_boundNumber ya_boundTag ya_headTag ya_tailTag ya_number ya_boundValue ya_head ya_tail ya_written := by
  intro i
  induction i with
  | zero =>
    intro fu N fo sa on tw td nu K' L' R' rt ds tg st hi hfu hBN hNl hg hlow htl hrv hrk hwst hen hsl
    obtain ⟨fu, rfl⟩ : ∃ g, fu = g + 1 := ⟨fu - 1, by omega⟩
    have hF : F < 2 ^ 31 := by rcases hsrc with ⟨_, q, _⟩ | ⟨_, q, _⟩ <;> omega
    refine br_t (lt_m1 hF) ?_
    have e : st.map tg = ts := mt_decs _ _ (by intro t ht; obtain ⟨n, hn, rfl⟩ := List.mem_map.mp ht; exact hwst n hn) hw (by rw [hen, hL]; rfl)
    exact hP N fo sa on tw td nu K' L' R' rt ds tg st hBN (by omega) hg hlow htl hrv hrk e
  | succ i ih =>
    intro fu N fo sa on tw td nu K' L' R' rt ds tg st hi hfu hBN hNl hg hlow htl hrv hrk hwst hen hsl
    obtain ⟨fu, rfl⟩ : ∃ g, fu = g + 1 := ⟨fu - 1, by omega⟩
    have hF : F + i < 650 := by rcases hsrc with ⟨_, q, _⟩ | ⟨_, q, _⟩ <;> omega
    have ex5 : nI (F + (i + 1)) + (-1) = nI (F + i) := pk_m1 (F + i)
    rw [ex5]
    obtain ⟨us, hus, eus⟩ := sx_all hw i (by rw [hL]; omega)
    rw [hL, dr_c (by omega)] at eus
    obtain ⟨u, rest, eu, hu, ws, hws, ews, hcase⟩ := sx_1 us hus _ _ eus
    have hwu : mt_wf u := hus u (by rw [eu]; simp)
    have ewst : st.map tg = ws := mt_decs _ _ (by intro t ht; obtain ⟨n, hn, rfl⟩ := List.mem_map.mp ht; exact hwst n hn) hws (by rw [hen, ews])
    have hc := hc60 i (by omega)
    generalize hcd : Lc.getD i 0 = c at *
    -- a node is pushed
    have push : ∀ (N2 : Nat) (fo2 sa2 on2 tw2 nu2 K2 : Nat → Int32) (L2 R2 rt2 ds2 : Nat → Nat) (tg2 : Nat → mt_T) (m : Nat) (st2 : List Nat), B ≤ N2 → N2 + i ≤ B + Lc.length → yg_ok N2 fo2 sa2 on2 tw2 K2 L2 R2 rt2 ds2 → (∀ n, n < B → K2 n = K n ∧ L2 n = L n ∧ R2 n = R n) →
        tl_is B N2 K2 L2 R2 tg2 → rv_ok B N2 K2 tg2 nu2 → rk_ok B N2 td st2 → (B ≤ m ∧ m < N2) → tg2 m = u → st2.map tg2 = rest → (∀ t ∈ rest, mt_wf t) → st2.length + (i + 1) ≤ Lc.length →
        wY_read_211 post (wY_read_32 post (nI F) x3 fu) (nI F) x3 (nI st2.length) (nI (F + i)) (nI m) yf_place (nI N2) yf_names yf_textEnd yf_made yf_entry yf_waiting yf_values yf_bound yf_cells yf_conses yf_lams yf_steps yf_atWork yf_end yf_writtenCount ya_kind ya_up ya_turn ya_depth ya_value ya_below ya_length ya_parameters ya_codes ya_codeCount fo2 ya_colour sa2 on2 tw2 td nu2 ya_text ya_ofFunction ya_codeEnd ya_instance ya_token ya_env ya_tag ya_cellEnv ya_boundNext ya_step ya_boundNumber ya_boundTag ya_headTag ya_tailTag ya_number ya_boundValue ya_head ya_tail ya_written := by
      intro N2 fo2 sa2 on2 tw2 nu2 K2 L2 R2 rt2 ds2 tg2 m st2 q1 q2 q3 q4 q5 q6 q7 q8 q9 q10 q11 q12
      refine nm_r (nI_1 _) (And.intro (pk_in (1000 + st2.length) 1500 (by omega) (ix_th _)) (nm_r (e' := upd td (1000 + st2.length) (nI m)) (by rw [ix_th, nI_clamp (by omega), nr_s (by omega)]) (nm_e ?_)))
      refine ih fu N2 fo2 sa2 on2 tw2 _ nu2 K2 L2 R2 rt2 ds2 tg2 (m :: st2) (by omega) (by omega) q1 q2 q3 q4 q5 q6 (rk_push q7 q8) (fun n hn => ?_) ?_ (by simp only [List.length_cons]; omega)
      · simp only [List.mem_cons] at hn
        rcases hn with rfl | hn
        · rw [q9]; exact hwu
        · exact q11 _ (by rw [← q10]; exact List.mem_map.mpr ⟨n, hn, rfl⟩)
      · rw [List.map_cons, q9, q10, ← eu, eus, dr_c' hcd (by omega)]
    have hwr : ∀ t ∈ rest, mt_wf t := fun t ht => hus t (by rw [eu]; simp [ht])
    have low1 : ∀ (d : Int32) (a b : Nat), ∀ n, n < B → upd K' N d n = K n ∧ updN L' N a n = L n ∧ updN R' N b n = R n := by
      intro d a b n hn
      rw [pk_un (by omega), uN_n (by omega), uN_n (by omega)]; exact hlow n hn
    have all : wY_read_59 post (wY_read_32 post (nI F) x3 fu) (nI F) x3 (nI st.length) (nI (F + i)) (nI c) yf_place (nI N) yf_names yf_textEnd yf_made yf_entry yf_waiting yf_values yf_bound yf_cells yf_conses yf_lams yf_steps yf_atWork yf_end yf_writtenCount ya_kind ya_up ya_turn ya_depth ya_value ya_below ya_length ya_parameters ya_codes ya_codeCount fo ya_colour sa on tw td nu ya_text ya_ofFunction ya_codeEnd ya_instance ya_token ya_env ya_tag ya_cellEnv ya_boundNext ya_step ya_boundNumber ya_boundTag ya_headTag ya_tailTag ya_number ya_boundValue ya_head ya_tail ya_written := by
      rcases hcase with ⟨⟨n, un⟩, hr⟩ | ⟨a, un, hr⟩ | ⟨a, b, c24, un, hr⟩
      · subst un
        simp only [mt_hd] at hu
        subst hu
        rw [hr] at ewst
        rcases hwu with z | z | z
        · subst z
          obtain ⟨rt', ds', g', _⟩ := yg_new hg (by omega) 0 0 0 kd_0 n0_5 (fun z => absurd z (by unfold gr_lf; decide)) (fun z => absurd z (by unfold gr_rg; decide))
          refine br_t (by decide) (br_f (by decide) (y_point (a := 0) (b := 0) (c := 0) (by omega) kd_0 n0_5 rfl (by omega) (by omega) ?_))
          exact push (N + 1) _ _ _ _ _ _ _ _ rt' ds' (gr_put tg N (.leaf 0)) N st (by omega) (by omega) g' (low1 _ _ _) (tl_new htl 0 0 0 _ mt_wf0 (Or.inr (Or.inl ⟨rfl, rfl⟩))) (rv_mono hrv hBN (by decide)) (rk_mono hrk (by omega)) ⟨hBN, by omega⟩ gr_put_eq (by rw [put_map hrk.1]; exact ewst) hwr (by omega)
        · subst z
          obtain ⟨rt', ds', g', _⟩ := yg_new hg (by omega) 1 0 0 kd_1 n1_5 (fun z => absurd z (by unfold gr_lf; decide)) (fun z => absurd z (by unfold gr_rg; decide))
          refine br_t (by decide) (br_f (by decide) (y_point (a := 0) (b := 0) (c := 1) (by omega) kd_1 n1_5 rfl (by omega) (by omega) ?_))
          exact push (N + 1) _ _ _ _ _ _ _ _ rt' ds' (gr_put tg N (.leaf 1)) N st (by omega) (by omega) g' (low1 _ _ _) (tl_new htl 1 0 0 _ mt_wf1 (Or.inr (Or.inr (Or.inl ⟨rfl, rfl⟩)))) (rv_mono hrv hBN (by decide)) (rk_mono hrk (by omega)) ⟨hBN, by omega⟩ gr_put_eq (by rw [put_map hrk.1]; exact ewst) hwr (by omega)
        · obtain ⟨v, rfl⟩ : ∃ v, n = 10 + v := ⟨n - 10, by omega⟩
          have ev : nI (10 + v) - 10 = nI v := by
            have : (10 : Int32) = nI 10 := rfl
            rw [this, pk_sub (by omega)]; exact congrArg nI (by omega)
          have cv : (nI v).toNatClampNeg = v := nI_clamp (by omega)
          refine br_f (nI_ge (b := 10 + v) (a := 9) (by omega) (by omega)) (And.intro (pk_in v 50 (by omega) ev) ?_)
          rw [ev, cv]
          rcases hrv.1 v (by omega) with q | ⟨m, m1, m2, m3, m4, m5⟩
          · refine br_f (by rw [q]; decide) ?_
            obtain ⟨rt', ds', g', _⟩ := yg_new hg (by omega) 10 0 0 kd_10 n10_5 (fun z => absurd z nlf10) (fun z => absurd z nrg10)
            refine y_point (a := 0) (b := 0) (c := 10) (by omega) kd_10 n10_5 rfl (by omega) (by omega) (And.intro (pk_in v 50 (by omega)) (nm_r (e' := upd nu v (nI N)) (by rw [nr_s (by omega)]) (And.intro (pk_in v 50 (by omega) ev) (nm_r (e' := nI N) (by rw [ev, cv, pk_us]) ?_))))
            exact push (N + 1) _ _ _ _ _ _ _ _ rt' ds' (gr_put tg N (.leaf (10 + v))) N st (by omega) (by omega) g' (low1 _ _ _) (tl_new htl 10 0 0 _ (mt_wfv v) (Or.inl ⟨rfl, v, rfl⟩)) (rv_new hrv hBN (by omega) (by omega) q) (rk_mono hrk (by omega)) ⟨hBN, by omega⟩ gr_put_eq (by rw [put_map hrk.1]; exact ewst) hwr (by omega)
          · refine br_t (by rw [m1]; exact nI_pos' (by omega)) (And.intro (pk_in v 50 (by omega) ev) (nm_r (e' := nI m) (by rw [ev, cv]; exact m1) ?_))
            exact push N fo sa on tw nu K' L' R' rt ds tg m st hBN (by omega) hg hlow htl hrv hrk ⟨m2, m3⟩ m5 ewst hwr (by omega)
      · subst un
        simp only [mt_hd] at hu
        subst hu
        rw [hr] at ewst
        obtain ⟨m1, st', e1, e2, e3⟩ := map_1 ewst
        subst e1
        obtain ⟨p1, p2, p3⟩ := rk_pop hrk
        simp only [List.length_cons] at hsl ⊢
        have hsm : nI (st'.length + 1) + (-1) = nI st'.length := pk_m1 _
        refine br_t (by decide) (br_t (by decide) (br_t rfl (nm_r hsm (And.intro (pk_in (1000 + st'.length) 1500 (by omega) (ix_th _)) ?_))))
        rw [ix_th, nI_clamp (by omega), p1]
        obtain ⟨rt', ds', g', _⟩ := yg_new hg (by omega) 3 m1 0 kd_3 n3_5 (fun _ => by omega) (fun z => absurd z nrg3)
        refine y_point (b := 0) (c := 3) (by omega) kd_3 n3_5 rfl (by omega) (by omega) ?_
        refine push (N + 1) _ _ _ _ _ _ _ _ rt' ds' (gr_put tg N (.branch 3 a (.leaf 0))) N st' (by omega) (by omega) g' (low1 _ _ _) (tl_new htl 3 m1 0 _ hwu (Or.inr (Or.inr (Or.inr (Or.inl ⟨rfl, p2.1, p2.2, by rw [e2]⟩))))) (rv_mono hrv hBN (by decide)) (rk_mono p3 (by omega)) ⟨hBN, by omega⟩ gr_put_eq (by rw [put_map p3.1]; exact e3) hwr (by omega)
      · subst un
        rw [hr] at ewst
        obtain ⟨m1, m2, st', e1, e2, e2', e3⟩ := map_2 ewst
        subst e1
        obtain ⟨p1, p2, p3⟩ := rk_pop hrk
        obtain ⟨q1, q2, q3⟩ := rk_pop p3
        simp only [List.length_cons] at hsl p1 ⊢
        have hsm : nI (st'.length + 1 + 1) + (-1) = nI (st'.length + 1) := pk_m1 _
        have hsm2 : nI (st'.length + 1) + (-1) = nI st'.length := pk_m1 _
        have fin : ∀ cc : Int32, gr_kd cc → cc ≠ 5 → cc ≠ 10 → nI c = yf cc → (cc = 2 ∧ c = 2 ∨ cc = 4 ∧ c = 4) →
            wpY_point (fun r_15 u => match u with | (yf_place, yf_points, yf_names, yf_textEnd, yf_made, yf_entry, yf_waiting, yf_values, yf_bound, yf_cells, yf_conses, yf_lams, yf_steps, yf_atWork, yf_end, yf_writtenCount, ya_kind, ya_up, ya_turn, ya_depth, ya_value, ya_below, ya_length, ya_parameters, ya_codes, ya_codeCount, ya_form, ya_colour, ya_same, ya_one, ya_two, ya_todo, ya_numbered, ya_text, ya_ofFunction, ya_codeEnd, ya_instance, ya_token, ya_env, ya_tag, ya_cellEnv, ya_boundNext, ya_step, ya_boundNumber, ya_boundTag, ya_headTag, ya_tailTag, ya_number, ya_boundValue, ya_head, ya_tail, ya_written) => wY_read_211 post (wY_read_32 post (nI F) x3 fu) (nI F) x3 (nI st'.length) (nI (F + i)) r_15 yf_place yf_points yf_names yf_textEnd yf_made yf_entry yf_waiting yf_values yf_bound yf_cells yf_conses yf_lams yf_steps yf_atWork yf_end yf_writtenCount ya_kind ya_up ya_turn ya_depth ya_value ya_below ya_length ya_parameters ya_codes ya_codeCount ya_form ya_colour ya_same ya_one ya_two ya_todo ya_numbered ya_text ya_ofFunction ya_codeEnd ya_instance ya_token ya_env ya_tag ya_cellEnv ya_boundNext ya_step ya_boundNumber ya_boundTag ya_headTag ya_tailTag ya_number ya_boundValue ya_head ya_tail ya_written) (yf_place, (nI N), yf_names, yf_textEnd, yf_made, yf_entry, yf_waiting, yf_values, yf_bound, yf_cells, yf_conses, yf_lams, yf_steps, yf_atWork, yf_end, yf_writtenCount, ya_kind, ya_up, ya_turn, ya_depth, ya_value, ya_below, ya_length, ya_parameters, ya_codes, ya_codeCount, fo, ya_colour, sa, on, tw, td, nu, ya_text, ya_ofFunction, ya_codeEnd, ya_instance, ya_token, ya_env, ya_tag, ya_cellEnv, ya_boundNext, ya_step, ya_boundNumber, ya_boundTag, ya_headTag, ya_tailTag, ya_number, ya_boundValue, ya_head, ya_tail, ya_written) (nI c) (nI m1) (nI m2) := by
          intro cc k1 k2 k3 k4 k5
          obtain ⟨rt', ds', g', _⟩ := yg_new hg (by omega) cc m1 m2 k1 k2 (fun _ => by omega) (fun _ => by omega)
          refine y_point (c := cc) (by omega) k1 k2 k4 (by omega) (by omega) ?_
          refine push (N + 1) _ _ _ _ _ _ _ _ rt' ds' (gr_put tg N (.branch c a b)) N st' (by omega) (by omega) g' (low1 _ _ _) (tl_new htl cc m1 m2 _ hwu ?_) (rv_mono hrv hBN k3) (rk_mono q3 (by omega)) ⟨hBN, by omega⟩ gr_put_eq (by rw [put_map q3.1]; exact e3) hwr (by omega)
          rcases k5 with ⟨z, z'⟩ | ⟨z, z'⟩
          · exact Or.inr (Or.inr (Or.inr (Or.inr (Or.inl ⟨z, p2.1, p2.2, q2.1, q2.2, by rw [e2, e2', z']⟩))))
          · exact Or.inr (Or.inr (Or.inr (Or.inr (Or.inr ⟨z, p2.1, p2.2, q2.1, q2.2, by rw [e2, e2', z']⟩))))
        refine br_t (nI_le (b := 9) (by omega) (by omega)) (br_t (nI_le (a := 2) (by omega) (by omega)) (br_f (fun z => by have := (nI_eq (b := 3) (by omega) (by omega)).mp z; omega) (nm_r hsm (And.intro (pk_in (1000 + (st'.length + 1)) 1500 (by omega) (ix_th _)) (nm_r (e' := nI m1) (by rw [ix_th, nI_clamp (by omega)]; exact p1) (nm_r hsm2 (And.intro (pk_in (1000 + st'.length) 1500 (by omega) (ix_th _)) (nm_r (e' := nI m2) (by rw [ix_th, nI_clamp (by omega)]; exact q1) ?_))))))))
        rcases c24 with z | z
        · exact fin 2 kd_2 n2_5 (by decide) (by rw [z]; rfl) (Or.inl ⟨rfl, z⟩)
        · exact fin 4 kd_4 n4_5 (by decide) (by rw [z]; rfl) (Or.inr ⟨rfl, z⟩)
    refine br_f (nI_nlt (by omega) (by omega)) ?_
    rcases hsrc with ⟨f1, f2, f3⟩ | ⟨f1, f2, f3⟩
    · subst f1; subst hx3
      refine br_t rfl (And.intro (pk_in (F + i) 240 (by omega)) ?_)
      rw [nI_clamp (by omega), f3 i (by omega), hcd]; exact all
    · subst f1; subst hx3
      refine br_f (by decide) (And.intro (pk_in (F + i) 650 (by omega)) ?_)
      rw [nI_clamp (by omega), f3 i (by omega), hcd]; exact all
end
section
variable {yf_place yf_points yf_names yf_textEnd yf_made yf_entry yf_waiting yf_values yf_bound yf_cells yf_conses yf_lams yf_steps yf_atWork yf_end yf_writtenCount : Int32} {ya_kind ya_up ya_turn ya_depth ya_value ya_below ya_length ya_parameters ya_codes ya_codeCount ya_form ya_colour ya_same ya_one ya_two ya_todo ya_numbered ya_text ya_ofFunction ya_codeEnd ya_instance ya_token ya_env ya_tag ya_cellEnv ya_boundNext ya_step ya_boundNumber ya_boundTag ya_headTag ya_tailTag ya_number ya_boundValue ya_head ya_tail ya_written : Nat → Int32}
theorem y_read6 {post : Int32 → SY → Prop} {x1 x2 x3 x4 : Int32} (hP : ∀ nu', (∀ v, v < 50 → nu' v = -1) → ∃ n32, wY_read_32 post x1 x3 n32 x4 (x2 - 1) yf_place yf_points yf_names yf_textEnd yf_made yf_entry yf_waiting yf_values yf_bound yf_cells yf_conses yf_lams yf_steps yf_atWork yf_end yf_writtenCount ya_kind ya_up ya_turn ya_depth ya_value ya_below ya_length ya_parameters ya_codes ya_codeCount ya_form ya_colour ya_same ya_one ya_two ya_todo nu' ya_text ya_ofFunction ya_codeEnd ya_instance ya_token ya_env ya_tag ya_cellEnv ya_boundNext ya_step ya_boundNumber ya_boundTag ya_headTag ya_tailTag ya_number ya_boundValue ya_head ya_tail ya_written) :
    ∀ f i nu, i ≤ 50 → 50 < f + i → (∀ v, v < i → nu v = -1) → wY_read_6 post x1 x2 x3 x4 yf_place yf_points yf_names yf_textEnd yf_made yf_entry yf_waiting yf_values yf_bound yf_cells yf_conses yf_lams yf_steps yf_atWork yf_end yf_writtenCount f (nI i) ya_kind ya_up ya_turn ya_depth ya_value ya_below ya_length ya_parameters ya_codes ya_codeCount ya_form ya_colour ya_same ya_one ya_two ya_todo nu ya_text ya_ofFunction ya_codeEnd ya_instance ya_token ya_env ya_tag ya_cellEnv ya_boundNext ya_step ya_boundNumber ya_boundTag ya_headTag ya_tailTag ya_number ya_boundValue ya_head ya_tail ya_written := by
  intro f
  induction f with
  | zero => intro i nu h1 h2; omega
  | succ f ih =>
    intro i nu h1 h2 hz
    refine pk_le 50 i (fun h => nm_e (hP nu (fun v hv => hz v (by omega)))) (fun h => And.intro (pk_in i 50 (by omega)) (nm_r (e' := upd nu i (-1)) (by rw [nI_clamp (by omega), nr_sm]) (nm_r (nI_1 i) (ih (i + 1) _ (by omega) (by omega) (fun v hv => ?_)))))
    by_cases z : v = i
    · subst z; exact pk_us
    · rw [pk_un z]; exact hz v (by omega)
theorem y_read {post : Int32 → SY → Prop} {B F : Nat} {fl : Bool} {x3 : Int32} {ts : List mt_T} {Lc : List Nat} {K : Nat → Int32} {L R rt ds : Nat → Nat} (h74 : 74 ≤ B) (hB : B + Lc.length ≤ 790) (hx3 : x3 = if fl then 1 else 0) (hw : ∀ t ∈ ts, mt_wf t) (hL : mt_encs ts = Lc) (hl42 : Lc.length ≤ 42)
    (hc60 : ∀ k, k < Lc.length → Lc.getD k 0 < 60) (hsrc : (fl = false ∧ F + Lc.length ≤ 240 ∧ ∀ k, k < Lc.length → ya_codes (F + k) = nI (Lc.getD k 0)) ∨ (fl = true ∧ F + Lc.length ≤ 650 ∧ ∀ k, k < Lc.length → ya_instance (F + k) = nI (Lc.getD k 0)))
    (hg : yg_ok B ya_form ya_same ya_one ya_two K L R rt ds)
    (hP : ∀ N' fo' sa' on' tw' td' nu' K' L' R' rt' ds' tg st, B ≤ N' → N' ≤ B + Lc.length → yg_ok N' fo' sa' on' tw' K' L' R' rt' ds' → (∀ n, n < B → K' n = K n ∧ L' n = L n ∧ R' n = R n) → tl_is B N' K' L' R' tg → rv_ok B N' K' tg nu' → rk_ok B N' td' st → st.map tg = ts →
      post (nI st.length) (yf_place, (nI N'), yf_names, yf_textEnd, yf_made, yf_entry, yf_waiting, yf_values, yf_bound, yf_cells, yf_conses, yf_lams, yf_steps, yf_atWork, yf_end, yf_writtenCount, ya_kind, ya_up, ya_turn, ya_depth, ya_value, ya_below, ya_length, ya_parameters, ya_codes, ya_codeCount, fo', ya_colour, sa', on', tw', td', nu', ya_text, ya_ofFunction, ya_codeEnd, ya_instance, ya_token, ya_env, ya_tag, ya_cellEnv, ya_boundNext, ya_step, ya_boundNumber, ya_boundTag, ya_headTag, ya_tailTag, ya_number, ya_boundValue, ya_head, ya_tail, ya_written)) :
    wpY_read post (yf_place, (nI B), yf_names, yf_textEnd, yf_made, yf_entry, yf_waiting, yf_values, yf_bound, yf_cells, yf_conses, yf_lams, yf_steps, yf_atWork, yf_end, yf_writtenCount, ya_kind, ya_up, ya_turn, ya_depth, ya_value, ya_below, ya_length, ya_parameters, ya_codes, ya_codeCount, ya_form, ya_colour, ya_same, ya_one, ya_two, ya_todo, ya_numbered, ya_text, ya_ofFunction, ya_codeEnd, ya_instance, ya_token, ya_env, ya_tag, ya_cellEnv, ya_boundNext, ya_step, ya_boundNumber, ya_boundTag, ya_headTag, ya_tailTag, ya_number, ya_boundValue, ya_head, ya_tail, ya_written) (nI F) (nI (F + Lc.length)) x3 := by
  refine Exists.intro 51 (y_read6 (fun nu' hnu => Exists.intro (Lc.length + 1) ?_) 51 0 _ (by omega) (by omega) (fun v hv => by omega))
  rw [Int32.sub_eq_add_neg]
  refine y_read32 h74 hB hx3 hw hL hl42 hc60 hsrc hP Lc.length (Lc.length + 1) B _ _ _ _ _ nu' K L R rt ds (fun _ => .leaf 0) [] (Nat.le_refl _) (by omega) (Nat.le_refl _) (Nat.le_refl _) hg (fun n _ => ⟨rfl, rfl, rfl⟩) (fun n h1 h2 => by omega) ⟨fun v hv => Or.inl (hnu v hv), fun n v h1 h2 => by omega⟩ ⟨fun n hn => by simp at hn, fun q hq => by simp at hq⟩ (fun n hn => by simp at hn) ?_ (by simp)
  rw [List.drop_eq_nil_of_le (Nat.le_refl _)]; rfl
/-- a row that was read: what its nodes say -/
theorem rd_st {B M P b : Nat} {Lc : List Nat} {ts : List mt_T} {fo sa on tw nu K K' : Nat → Int32} {L R rt ds L' R' a : Nat → Nat} {tg : Nat → mt_T} {st : List Nat} {C F : (Nat → mt_T) → Prop} (hg : yg_ok B fo sa on tw K L R rt ds) (hC : ∀ r, gr_sat B K L R r ↔ C r) (hM : B ≤ M)
    (hw : ∀ t ∈ ts, mt_wf t) (hL : mt_encs ts = Lc) (hlen : ts.length = P + 1) (hlow : ∀ n, n < B → K' n = K n ∧ L' n = L n ∧ R' n = R n) (htl : tl_is B M K' L' R' tg) (hrv : rv_ok B M K' tg nu) (hst : ∀ n ∈ st, B ≤ n ∧ n < M) (hmap : st.map tg = ts)
    (ha : ∀ j, j < P → a j < B) (hb : b < B) (hM2 : M < 2 ^ 31)
    (hF : ∀ r, F r ↔ gr_sat M K' L' R' r ∧ (∀ j, j < P → r (a j) = r (st.getD j 0)) ∧ r b = r (st.getD P 0)) :
    ys_ok B C F (fun r => sc_inst Lc ((List.range P).map (fun j => r (a j)) ++ [r b])) := by
  have hlenst : st.length = P + 1 := by rw [← hlen, ← hmap, List.length_map]
  have hget : ∀ j, j ≤ P → (B ≤ st.getD j 0 ∧ st.getD j 0 < M) ∧ tg (st.getD j 0) = ts.getD j (.leaf 0) := by
    intro j hj
    refine ⟨hst _ (gd_mem st j (by omega)), ?_⟩
    rw [← hmap]
    simp [List.getD_eq_getElem?_getD, List.getElem?_map, List.getElem?_eq_getElem (show j < st.length by omega)]
  have hext := fun r => gr_sat_ext (r := r) (N := B) (M := M) (K := K) (K' := K') (L := L) (L' := L') (R := R) (R' := R') hM (fun n hn => (hlow n hn).1) (fun n hn _ => (hlow n hn).2.1) (fun n hn _ => (hlow n hn).2.2)
  have hv : ∀ n v, B ≤ n → n < M → K' n = 10 → tg n = .leaf (10 + v) → (nu v).toNatClampNeg = n := by
    intro n v h1 h2 h3 h4
    rw [(hrv.2 n v h1 h2 h3 h4).2]; exact nI_clamp (by omega)
  refine ⟨fun r hwf h => ?_, fun r hwf hc hr => ?_⟩
  · obtain ⟨h1, e1, e2⟩ := (hF r).mp h
    obtain ⟨g1, g2⟩ := (hext r).mp h1
    refine ⟨(hC r).mp g1, ts, hw, hL, fun v => r (nu v).toNatClampNeg, fun v => hwf _, (tu_iff P ts _ _ _ hlen).mpr ?_⟩
    have key : ∀ j, j ≤ P → r (st.getD j 0) = mt_sub (fun v => r (nu v).toNatClampNeg) (ts.getD j (.leaf 0)) := by
      intro j hj
      obtain ⟨k1, k2⟩ := hget j hj
      rw [← k2]
      exact tl_1 (nv := fun v => (nu v).toNatClampNeg) htl hv g2 _ _ k1.1 k1.2 (Nat.le_refl _)
    exact ⟨fun j hj => by rw [e1 j hj]; exact key j (by omega), by rw [e2]; exact key P (Nat.le_refl _)⟩
  · obtain ⟨ts', hw', hL', s, hs, hts⟩ := hr
    have ets : ts' = ts := mt_decs ts' ts hw' hw (hL'.trans hL.symm)
    subst ets
    obtain ⟨e1, e2⟩ := (tu_iff P ts' _ _ _ hlen).mp hts
    let r' : Nat → mt_T := fun n => if n < B then r n else if n < M then mt_sub s (tg n) else .leaf 0
    have rl : ∀ n, n < B → r' n = r n := fun n hn => if_pos hn
    have rh : ∀ n, B ≤ n → n < M → r' n = mt_sub s (tg n) := fun n h3 h4 => by show (if n < B then _ else if n < M then _ else _) = _; rw [if_neg (by omega), if_pos h4]
    have hlo : gr_sat B K L R r' := by
      refine gr_sat_low (fun n hn hk => ?_) (fun n hn hk => ((hg.1 n hn).2.2.2.2.2.2.1 hk).2) rl ((hC r).mpr hc)
      rcases hk with z | z
      · exact ((hg.2 n hn).2.2.2.1 z).1
      · exact ((hg.1 n hn).2.2.2.2.2.1 z).2
    refine ⟨r', fun n => ?_, rl, (hF r').mpr ⟨(hext r').mpr ⟨hlo, tl_2 htl rh⟩, fun j hj => ?_, ?_⟩⟩
    · show mt_wf (if n < B then _ else if n < M then _ else _)
      by_cases z : n < B
      · rw [if_pos z]; exact hwf n
      · rw [if_neg z]
        by_cases z2 : n < M
        · rw [if_pos z2]; exact mt_sub_wf hs _ (htl n (by omega) z2).1
        · rw [if_neg z2]; exact mt_wf0
    · obtain ⟨k1, k2⟩ := hget j (by omega)
      rw [rl _ (ha j hj), rh _ k1.1 k1.2, k2]
      exact e1 j hj
    · obtain ⟨k1, k2⟩ := hget P (Nat.le_refl _)
      rw [rl _ hb, rh _ k1.1 k1.2, k2]
      exact e2
theorem yc_of {N : Nat} {fo sa on tw K : Nat → Int32} {L R rt ds : Nat → Nat} (h : yg_ok N fo sa on tw K L R rt ds) : yc_ok N fo sa on tw (gr_sat N K L R) := ⟨K, L, R, rt, ds, h, fun _ => Iff.rfl⟩
theorem yc_iff {N : Nat} {fo sa on tw : Nat → Int32} {C D : (Nat → mt_T) → Prop} (h : yc_ok N fo sa on tw C) (e : ∀ r, C r ↔ D r) : yc_ok N fo sa on tw D := by
  obtain ⟨K, L, R, rt, ds, g, hs⟩ := h
  exact ⟨K, L, R, rt, ds, g, fun r => (hs r).trans (e r)⟩
theorem ix24 (f t : Nat) : (24 : Int32) * nI f + nI t = nI (24 * f + t) := by rw [← nI_add]; exact congrArg (· + nI t) (pk_mul 24 f)
theorem ix72 (f t : Nat) : (72 : Int32) * nI f + 3 * nI t = nI (72 * f + 3 * t) := by
  rw [← nI_add]
  have e1 : (72 : Int32) * nI f = nI (72 * f) := pk_mul 72 f
  have e2 : (3 : Int32) * nI t = nI (3 * t) := pk_mul 3 t
  rw [e1, e2]
/-- a body as Y holds it in a row -/
def yb_ok (row n : Nat) (ki va up tu de be : Nat → Int32) (kN : Nat → Nat) (vl : Nat → Int32) (oc sp bd : Nat → Nat) : Prop :=
  ∀ t, t < n → ki (24 * row + t) = nI (kN t) ∧ va (24 * row + t) = vl t ∧ de (24 * row + t) = nI (bd t) ∧ (∀ j, j < oc t → be (72 * row + 3 * t + j) = nI (jp sp t j)) ∧
    (t = 0 → up (24 * row + t) = -1) ∧ (0 < t → ∃ s j, s < t ∧ j < oc s ∧ t = jp sp s j ∧ up (24 * row + t) = nI s ∧ tu (24 * row + t) = nI j)
/-- how many variables operand j of a token of kind k has more -/
def bn (k j : Nat) : Nat := if k = 14 ∧ j = 1 ∨ k = 15 then 1 else if k = 10 ∧ j = 2 then 2 else 0
def tr_ok (n : Nat) (kN oc sp bd bi : Nat → Nat) : Prop := bi 0 = 0 ∧ ∀ t, t < n → ∀ j, j < oc t → bd (jp sp t j) = bd t + bn (kN t) j ∧ bi (jp sp t j) = (if bn (kN t) j = 0 then bi t else t + 1)
theorem y_binds {post : Int32 → Prop} {a k j : Nat} (ha : a < 264) (hk : ya_kind a = nI k) (hk2 : k ≤ 16) (hj : j < 3) (hp : post (nI (bn k j))) : wpY_binds post (yf_place, yf_points, yf_names, yf_textEnd, yf_made, yf_entry, yf_waiting, yf_values, yf_bound, yf_cells, yf_conses, yf_lams, yf_steps, yf_atWork, yf_end, yf_writtenCount, ya_kind, ya_up, ya_turn, ya_depth, ya_value, ya_below, ya_length, ya_parameters, ya_codes, ya_codeCount, ya_form, ya_colour, ya_same, ya_one, ya_two, ya_todo, ya_numbered, ya_text, ya_ofFunction, ya_codeEnd, ya_instance, ya_token, ya_env, ya_tag, ya_cellEnv, ya_boundNext, ya_step, ya_boundNumber, ya_boundTag, ya_headTag, ya_tailTag, ya_number, ya_boundValue, ya_head, ya_tail, ya_written) (nI a) (nI j) := by
  have ca : (nI a).toNatClampNeg = a := nI_clamp (by omega)
  refine And.intro (pk_in a 264 ha) (nm_r (e' := nI k) (by rw [ca]; exact hk) ?_)
  have h18 : ¬ (k = 14 ∧ j = 1) → wY_binds_18 post (nI j) (nI k) yf_place yf_points yf_names yf_textEnd yf_made yf_entry yf_waiting yf_values yf_bound yf_cells yf_conses yf_lams yf_steps yf_atWork yf_end yf_writtenCount ya_kind ya_up ya_turn ya_depth ya_value ya_below ya_length ya_parameters ya_codes ya_codeCount ya_form ya_colour ya_same ya_one ya_two ya_todo ya_numbered ya_text ya_ofFunction ya_codeEnd ya_instance ya_token ya_env ya_tag ya_cellEnv ya_boundNext ya_step ya_boundNumber ya_boundTag ya_headTag ya_tailTag ya_number ya_boundValue ya_head ya_tail ya_written := by
    intro h14
    refine pk_eq k 15 (fun z => ?_) (fun z => pk_eq k 10 (fun z2 => pk_eq j 2 (fun z3 => ?_) (fun z3 => ?_)) (fun z2 => ?_))
    · have : bn k j = 1 := by unfold bn; rw [if_pos (Or.inr z)]
      rw [this] at hp; exact hp
    · have : bn k j = 2 := by unfold bn; rw [if_neg (by omega), if_pos ⟨z2, z3⟩]
      rw [this] at hp; exact hp
    · have : bn k j = 0 := by unfold bn; rw [if_neg (by omega), if_neg (by omega)]
      rw [this] at hp; exact hp
    · have : bn k j = 0 := by unfold bn; rw [if_neg (by omega), if_neg (by omega)]
      rw [this] at hp; exact hp
  refine pk_eq k 14 (fun z => pk_eq j 1 (fun z2 => ?_) (fun z2 => h18 (by omega))) (fun z => h18 (by omega))
  have : bn k j = 1 := by unfold bn; rw [if_pos (Or.inl ⟨z, z2⟩)]
  rw [this] at hp; exact hp
theorem bn_2 (k j : Nat) : bn k j ≤ 2 := by unfold bn; split; omega; split <;> omega
theorem y_var29 {post : Int32 → Prop} {row n v : Nat} {kN : Nat → Nat} {vl : Nat → Int32} {oc sp bd bi : Nat → Nat} (hrow : row ≤ 10) (hn : n ≤ 24) (hv : v < 10) (hb : yb_ok row n ya_kind ya_value ya_up ya_turn ya_depth ya_below kN vl oc sp bd) (ht : tr_ok n kN oc sp bd bi)
    (hoc : ∀ t, t < n → oc t ≤ 3) (hk : ∀ t, t < n → kN t ≤ 16) (hbd : ∀ t, t < n → bd t ≤ 12) (hbi : ∀ t, t < n → bi t ≤ t) :
    ∀ k fu, k < n → k < fu → post (nI (vw bi bd (bi k) (bi k) v)) → ∀ u, u = ya_up (24 * row + k) → wY_variable_29 post (nI row) (nI v) yf_place yf_points yf_names yf_textEnd yf_made yf_entry yf_waiting yf_values yf_bound yf_cells yf_conses yf_lams yf_steps yf_atWork yf_end yf_writtenCount ya_kind ya_up ya_turn ya_depth ya_value ya_below ya_length ya_parameters ya_codes ya_codeCount ya_form ya_colour ya_same ya_one ya_two ya_todo ya_numbered ya_text ya_ofFunction ya_codeEnd ya_instance ya_token ya_env ya_tag ya_cellEnv ya_boundNext ya_step ya_boundNumber ya_boundTag ya_headTag ya_tailTag ya_number ya_boundValue ya_head ya_tail ya_written fu (nI k) u := by
  intro k
  induction k using Nat.strongRecOn with
  | _ k ih =>
    intro fu hkn hfu hp u hu
    obtain ⟨fu, rfl⟩ : ∃ g, fu = g + 1 := ⟨fu - 1, by omega⟩
    obtain ⟨_, _, _, _, b5, b6⟩ := hb k hkn
    by_cases k0 : k = 0
    · have e := b5 k0
      rw [hu, e]
      subst k0
      rw [ht.1] at hp
      refine br_t (by decide) (br_f (by decide) ?_)
      rw [ix_72]; exact hp
    · obtain ⟨s, j, s1, s2, s3, s4, s5⟩ := b6 (by omega)
      rw [hu, s4]
      have hsn : s < n := by omega
      have hj := hoc s hsn
      obtain ⟨c1, _, c3, _, _, _⟩ := hb s hsn
      obtain ⟨t1, t2⟩ := ht.2 s hsn j s2
      rw [← s3] at t1 t2
      have cs : (24 * nI row + nI s).toNatClampNeg = 24 * row + s := by rw [ix24]; exact nI_clamp (by omega)
      have ck : (24 * nI row + nI k).toNatClampNeg = 24 * row + k := by rw [ix24]; exact nI_clamp (by omega)
      have up : bi k = bi s → wY_variable_76 post (wY_variable_29 post (nI row) (nI v) yf_place yf_points yf_names yf_textEnd yf_made yf_entry yf_waiting yf_values yf_bound yf_cells yf_conses yf_lams yf_steps yf_atWork yf_end yf_writtenCount ya_kind ya_up ya_turn ya_depth ya_value ya_below ya_length ya_parameters ya_codes ya_codeCount ya_form ya_colour ya_same ya_one ya_two ya_todo ya_numbered ya_text ya_ofFunction ya_codeEnd ya_instance ya_token ya_env ya_tag ya_cellEnv ya_boundNext ya_step ya_boundNumber ya_boundTag ya_headTag ya_tailTag ya_number ya_boundValue ya_head ya_tail ya_written fu) (nI row) (nI v) (nI s) yf_place yf_points yf_names yf_textEnd yf_made yf_entry yf_waiting yf_values yf_bound yf_cells yf_conses yf_lams yf_steps yf_atWork yf_end yf_writtenCount ya_kind ya_up ya_turn ya_depth ya_value ya_below ya_length ya_parameters ya_codes ya_codeCount ya_form ya_colour ya_same ya_one ya_two ya_todo ya_numbered ya_text ya_ofFunction ya_codeEnd ya_instance ya_token ya_env ya_tag ya_cellEnv ya_boundNext ya_step ya_boundNumber ya_boundTag ya_headTag ya_tailTag ya_number ya_boundValue ya_head ya_tail ya_written := by
        intro e
        refine And.intro (pk_in (24 * row + s) 264 (by omega) (ix24 _ _)) (fun x hx => ih s s1 fu hsn (by omega) (by rw [← e]; exact hp) x (by rw [hx, cs]))
      refine br_f (nI_pos (by omega)) (And.intro (pk_in (24 * row + k) 264 (by omega) (ix24 _ _)) ?_)
      rw [ck, s5, ix24]
      have hb2 := bn_2 (kN s) j
      refine y_binds (by omega) c1 (hk s hsn) (by omega) (pk_eq (bn (kN s) j) 0 (fun z => up (by rw [t2, if_pos z])) (fun z => And.intro (pk_in (24 * row + s) 264 (by omega)) ?_))
      rw [if_neg z] at t2
      have e : vw bi bd (bi k) (bi k) v = if bd s ≤ v then 24 + 2 * s + (v - bd s) else vw bi bd s (bi s) v := by
        rw [t2]; simp only [vw, if_neg (show ¬ s + 1 = 0 by omega), Nat.add_sub_cancel]
      rw [nI_clamp (by omega), c3]
      have hbs := hbd s hsn
      refine pk_le (bd s) v (fun h => ?_) (fun h => ?_)
      · rw [e, if_pos h] at hp
        refine br_t (nI_pos' (by omega)) (And.intro (pk_in (24 * row + s) 264 (by omega) (ix24 _ _)) ?_)
        rw [cs, c3, ix_2, nI_add, pk_sub (by omega)]
        have : 24 + 2 * s + v - bd s = 24 + 2 * s + (v - bd s) := by omega
        rw [this]; exact hp
      · rw [e, if_neg (by omega)] at hp
        refine And.intro (pk_in (24 * row + s) 264 (by omega) (ix24 _ _)) (fun x hx => ih s s1 fu hsn (by omega) ?_ x (by rw [hx, cs]))
        have hbis := hbi s hsn
        rw [vw_fuel' (bi s) s (bi s) v (Nat.le_refl _) hbis (fun t ht' => hbi t (by omega))]; exact hp
theorem y_variable {post : Int32 → Prop} {row n t v : Nat} {kN : Nat → Nat} {vl : Nat → Int32} {oc sp bd bi : Nat → Nat} (hrow : row ≤ 10) (hn : n ≤ 24) (hv : v < 10) (hb : yb_ok row n ya_kind ya_value ya_up ya_turn ya_depth ya_below kN vl oc sp bd) (htr : tr_ok n kN oc sp bd bi)
    (hoc : ∀ t, t < n → oc t ≤ 3) (hk : ∀ t, t < n → kN t ≤ 16) (hbd : ∀ t, t < n → bd t ≤ 12) (hbi : ∀ t, t < n → bi t ≤ t) (ht : t < n) (hvl : vl t = nI v) (hp : post (nI (vw bi bd (bi t) (bi t) v))) : wpY_variable post (yf_place, yf_points, yf_names, yf_textEnd, yf_made, yf_entry, yf_waiting, yf_values, yf_bound, yf_cells, yf_conses, yf_lams, yf_steps, yf_atWork, yf_end, yf_writtenCount, ya_kind, ya_up, ya_turn, ya_depth, ya_value, ya_below, ya_length, ya_parameters, ya_codes, ya_codeCount, ya_form, ya_colour, ya_same, ya_one, ya_two, ya_todo, ya_numbered, ya_text, ya_ofFunction, ya_codeEnd, ya_instance, ya_token, ya_env, ya_tag, ya_cellEnv, ya_boundNext, ya_step, ya_boundNumber, ya_boundTag, ya_headTag, ya_tailTag, ya_number, ya_boundValue, ya_head, ya_tail, ya_written) (nI row) (nI t) := by
  have ct : (24 * nI row + nI t).toNatClampNeg = 24 * row + t := by rw [ix24]; exact nI_clamp (by omega)
  refine And.intro (pk_in (24 * row + t) 264 (by omega) (ix24 _ _)) (nm_r (e' := nI v) (by rw [ct, (hb t ht).2.1]; exact hvl) (And.intro (pk_in (24 * row + t) 264 (by omega) (ix24 _ _)) (fun x hx => Exists.intro 25 ?_)))
  exact y_var29 hrow hn hv hb htr hoc hk hbd hbi t 25 ht (by omega) hp x (by rw [hx, ct])
end
section
variable {yf_place yf_points yf_names yf_textEnd yf_made yf_entry yf_waiting yf_values yf_bound yf_cells yf_conses yf_lams yf_steps yf_atWork yf_end yf_writtenCount : Int32} {ya_kind ya_up ya_turn ya_depth ya_value ya_below ya_length ya_parameters ya_codes ya_codeCount ya_form ya_colour ya_same ya_one ya_two ya_todo ya_numbered ya_text ya_ofFunction ya_codeEnd ya_instance ya_token ya_env ya_tag ya_cellEnv ya_boundNext ya_step ya_boundNumber ya_boundTag ya_headTag ya_tailTag ya_number ya_boundValue ya_head ya_tail ya_written : Nat → Int32}
theorem y_called22 {post : Int32 → SY → Prop} {N M row t P : Nat} {sp : Nat → Nat} {C : (Nat → mt_T) → Prop} {w : Nat} {Lc : List Nat} (h74 : 74 ≤ N) (hN : N ≤ 800) (hNM : N ≤ M) (hrow : row ≤ 10) (ht : t < 24) (hP2 : P ≤ 2) (hpar : ya_parameters row = nI P)
    (hbe : ∀ j, j < P → ya_below (72 * row + 3 * t + j) = nI (jp sp t j) ∧ jp sp t j < 24)
    (hpo : ys_post post N M yf_place (nI N) yf_names yf_textEnd yf_made yf_entry yf_waiting yf_values yf_bound yf_cells yf_conses yf_lams yf_steps yf_atWork yf_end yf_writtenCount ya_kind ya_up ya_turn ya_depth ya_value ya_below ya_length ya_parameters ya_codes ya_codeCount ya_form ya_colour ya_same ya_one ya_two ya_todo ya_numbered ya_text ya_ofFunction ya_codeEnd ya_instance ya_token ya_env ya_tag ya_cellEnv ya_boundNext ya_step ya_boundNumber ya_boundTag ya_headTag ya_tailTag ya_number ya_boundValue ya_head ya_tail ya_written C (ru_k 4 t (jp sp t) w true P Lc)) :
    ∀ q p fu sa td, p + q = P → q < fu → yc_ok N ya_form sa ya_one ya_two (fun r => C r ∧ ∀ j, j < p → r (jp sp t j) = r (72 + j)) →
      wY_called_22 post (nI row) (nI t) fu (nI p) yf_place (nI N) yf_names yf_textEnd yf_made yf_entry yf_waiting yf_values yf_bound yf_cells yf_conses yf_lams yf_steps yf_atWork yf_end yf_writtenCount ya_kind ya_up ya_turn ya_depth ya_value ya_below ya_length ya_parameters ya_codes ya_codeCount ya_form ya_colour sa ya_one ya_two td ya_numbered ya_text ya_ofFunction ya_codeEnd ya_instance ya_token ya_env ya_tag ya_cellEnv ya_boundNext ya_step ya_boundNumber ya_boundTag ya_headTag ya_tailTag ya_number ya_boundValue ya_head ya_tail ya_written := by
  have hF : ys_ok N C (fun r => C r ∧ (∀ j, j < P → r (jp sp t j) = r (72 + j)) ∧ r t = r 0) (ru_k 4 t (jp sp t) w true P Lc) :=
    ⟨fun r hw h => h, fun r hw hc hr => ⟨r, hw, fun _ _ => rfl, hc, hr⟩⟩
  intro q
  induction q with
  | zero =>
    intro p fu sa td hp hfu hg
    obtain ⟨fu, rfl⟩ : ∃ g, fu = g + 1 := ⟨fu - 1, by omega⟩
    have e : p = P := by omega
    subst e
    refine And.intro (pk_in row 11 (by omega)) ?_
    rw [nI_clamp (n := row) (by omega), hpar]
    refine br_t (nI_le (Nat.le_refl _) (by omega)) ?_
    refine y_joinC (b := 0) h74 hN (by omega) (by omega) hg (fun sa2 td2 g2 => And.intro bo_1 ?_) (fun sa2 td2 g2 => And.intro bo_0 ?_)
    · exact ys_1 hpo hF (Nat.le_refl _) hNM (yc_iff g2 (fun r => by rw [and_assoc]))
    · exact ys_0 hpo hF (fun r h => (⟨⟨h.1, h.2.1⟩, h.2.2⟩ : (C r ∧ ∀ j, j < p → r (jp sp t j) = r (72 + j)) ∧ r t = r 0)) g2
  | succ q ih =>
    intro p fu sa td hp hfu hg
    obtain ⟨fu, rfl⟩ : ∃ g, fu = g + 1 := ⟨fu - 1, by omega⟩
    obtain ⟨b1, b2⟩ := hbe p (by omega)
    refine And.intro (pk_in row 11 (by omega)) ?_
    rw [nI_clamp (n := row) (by omega), hpar]
    refine br_f (nI_ge (by omega) (by omega)) ?_
    rw [ix72, nI_add, nI_clamp (n := 72 * row + 3 * t + p) (by omega), b1, ix_72]
    refine And.intro (pk_in (72 * row + 3 * t + p) 792 (by omega)) ?_
    refine y_joinC h74 hN (by omega) (by omega) hg (fun sa2 td2 g2 => br_f n1_0 (nm_r (nI_1 p) (ih (p + 1) fu sa2 td2 (by omega) (by omega) (yc_iff g2 (fun r => ?_))))) (fun sa2 td2 g2 => br_t rfl ?_)
    · constructor
      · rintro ⟨⟨a, b⟩, c⟩
        refine ⟨a, fun j hj => ?_⟩
        by_cases z : j = p
        · subst z; exact c
        · exact b j (by omega)
      · rintro ⟨a, b⟩; exact ⟨⟨a, fun j hj => b j (by omega)⟩, b p (by omega)⟩
    · exact ys_0 hpo hF (fun r h => (⟨⟨h.1, fun j hj => h.2.1 j (by omega)⟩, h.2.1 p (by omega)⟩ : (C r ∧ ∀ j, j < p → r (jp sp t j) = r (72 + j)) ∧ r (jp sp t p) = r (72 + p))) g2
theorem y_called {post : Int32 → SY → Prop} {N M row f t g P w : Nat} {own : Bool} {sp : Nat → Nat} {C : (Nat → mt_T) → Prop} {Lc : List Nat} {ts : List mt_T} (h74 : 74 ≤ N) (hNM : N ≤ M) (hM : own = false → N + Lc.length ≤ M) (hM2 : M ≤ 790) (hrow : row ≤ 10) (ht : t < 24) (hf : f < 5) (hg5 : g < 5) (hP2 : P ≤ 2)
    (hval : ya_value (24 * row + t) = nI g) (hown : own = true ↔ g = f) (hpr : own = true → ya_parameters row = nI P) (hpg : own = false → ya_parameters g = nI P)
    (hbe : ∀ j, j < P → ya_below (72 * row + 3 * t + j) = nI (jp sp t j) ∧ jp sp t j < 24)
    (hts : own = false → (∀ t ∈ ts, mt_wf t) ∧ mt_encs ts = Lc ∧ ts.length = P + 1 ∧ Lc.length ≤ 42 ∧ (∀ k, k < Lc.length → Lc.getD k 0 < 60) ∧ ya_codeCount g = nI Lc.length ∧ ∀ k, k < Lc.length → ya_codes (48 * g + k) = nI (Lc.getD k 0))
    (hgc : yc_ok N ya_form ya_same ya_one ya_two C) (hpo : ys_post post N M yf_place (nI N) yf_names yf_textEnd yf_made yf_entry yf_waiting yf_values yf_bound yf_cells yf_conses yf_lams yf_steps yf_atWork yf_end yf_writtenCount ya_kind ya_up ya_turn ya_depth ya_value ya_below ya_length ya_parameters ya_codes ya_codeCount ya_form ya_colour ya_same ya_one ya_two ya_todo ya_numbered ya_text ya_ofFunction ya_codeEnd ya_instance ya_token ya_env ya_tag ya_cellEnv ya_boundNext ya_step ya_boundNumber ya_boundTag ya_headTag ya_tailTag ya_number ya_boundValue ya_head ya_tail ya_written C (ru_k 4 t (jp sp t) w own P Lc)) :
    wpY_called post (yf_place, (nI N), yf_names, yf_textEnd, yf_made, yf_entry, yf_waiting, yf_values, yf_bound, yf_cells, yf_conses, yf_lams, yf_steps, yf_atWork, yf_end, yf_writtenCount, ya_kind, ya_up, ya_turn, ya_depth, ya_value, ya_below, ya_length, ya_parameters, ya_codes, ya_codeCount, ya_form, ya_colour, ya_same, ya_one, ya_two, ya_todo, ya_numbered, ya_text, ya_ofFunction, ya_codeEnd, ya_instance, ya_token, ya_env, ya_tag, ya_cellEnv, ya_boundNext, ya_step, ya_boundNumber, ya_boundTag, ya_headTag, ya_tailTag, ya_number, ya_boundValue, ya_head, ya_tail, ya_written) (nI row) (nI t) (nI f) := by
  have ct : (24 * nI row + nI t).toNatClampNeg = 24 * row + t := by rw [ix24]; exact nI_clamp (by omega)
  refine And.intro (pk_in (24 * row + t) 264 (by omega) (ix24 _ _)) (nm_r (e' := nI g) (by rw [ct]; exact hval) (pk_eq g f (fun e => ?_) (fun e => ?_)))
  · have ho : own = true := hown.mpr e
    subst ho
    refine Exists.intro (P + 1) (y_called22 h74 (by omega) hNM hrow ht hP2 (hpr rfl) hbe hpo P 0 (P + 1) _ _ (by omega) (by omega) (yc_iff hgc (fun r => ⟨fun h => ⟨h, fun j hj => by omega⟩, fun h => h.1⟩)))
  · have ho : own = false := by cases own; rfl; exact absurd (hown.mp rfl) e
    subst ho
    obtain ⟨hw, hL, hlen, hl42, hc60, hcc, hcd⟩ := hts rfl
    have hM' := hM rfl
    have hpg := hpg rfl
    obtain ⟨K, L, R, rt, ds, g0, hs0⟩ := hgc
    refine And.intro (pk_in g 5 hg5) ?_
    have e48 : (48 : Int32) * nI g = nI (48 * g) := pk_mul 48 g
    rw [nI_clamp (n := g) (by omega), hcc, e48, nI_add]
    refine y_read (fl := false) (x3 := 0) h74 (by omega) rfl hw hL hl42 hc60 (Or.inl ⟨rfl, by omega, hcd⟩) g0 (fun N' fo' sa' on' tw' td' nu' K' L' R' rt' ds' tg st n1 n2 g' low' tl' rv' rk' mp' => ?_)
    have hst : st.length = P + 1 := by rw [← hlen, ← mp', List.length_map]
    have hrk : ∀ q, q ≤ P → td' (1000 + (P - q)) = nI (st.getD q 0) ∧ st.getD q 0 < N' := by
      intro q hq
      refine ⟨?_, (rk'.1 _ (gd_mem st q (by omega))).2⟩
      have := rk'.2 q (by omega)
      rw [hst] at this
      have e : P + 1 - 1 - q = P - q := by omega
      rw [e] at this; exact this
    have hrd := fun (F : (Nat → mt_T) → Prop) hF => rd_st (P := P) (b := t) (a := jp sp t) (F := F) g0 hs0 n1 hw hL hlen low' tl' rv' rk'.1 mp' (fun j hj => by have := (hbe j hj).2; omega) (by omega) (by omega) hF
    have ci : ∀ a, a < 2 ^ 31 → (nI a).toNatClampNeg = a := fun a ha => nI_clamp ha
    have e1 : ((1000 : Int32) + nI st.length) - 1 = nI (1000 + P) := by rw [ix_th, hst]; exact nI_pred (1000 + P)
    have eP : nI (1000 + P) - nI P = nI 1000 := by rw [pk_sub (by omega)]; exact congrArg nI (by omega)
    dsimp only
    rw [e1, hpg, eP]
    obtain ⟨o1, o2⟩ := hrk P (Nat.le_refl _)
    obtain ⟨p1, p2⟩ := hrk 0 (by omega)
    have ePP : 1000 + (P - P) = 1000 := by omega
    have eP0 : 1000 + (P - 0) = 1000 + P := by omega
    rw [ePP] at o1
    rw [eP0] at p1
    refine And.intro (pk_in g 11 (by omega)) (And.intro (pk_in 1000 1500 (by omega)) (nm_r (e' := nI (st.getD P 0)) (by rw [ci 1000 (by omega)]; exact o1) (And.intro (pk_in (1000 + P) 1500 (by omega)) (nm_r (e' := nI (st.getD 0 0)) (by rw [ci (1000 + P) (by omega)]; exact p1) ?_))))
    have ib : (72 * nI row + 3 * nI t).toNatClampNeg = 72 * row + 3 * t := by rw [ix72]; exact nI_clamp (by omega)
    have ib1 : (72 * nI row + 3 * nI t + 1).toNatClampNeg = 72 * row + 3 * t + 1 := by rw [ix72, nI_1]; exact nI_clamp (by omega)
    have hcs : P = 0 ∨ P = 1 ∨ P = 2 := by omega
    rcases hcs with rfl | rfl | rfl
    · have hF := hrd (fun r => gr_sat N' K' L' R' r ∧ r t = r (st.getD 0 0)) (fun r => ⟨fun h => ⟨h.1, fun j hj => by omega, h.2⟩, fun h => ⟨h.1, h.2.2⟩⟩)
      refine br_t (by rw [hst]; decide) (And.intro (pk_in g 11 (by omega)) ?_)
      rw [ci g (by omega), hpg]
      refine br_t (by decide) (br_f n1_0 (And.intro (pk_in g 11 (by omega)) ?_))
      rw [ci g (by omega), hpg]
      refine br_t (by decide) (br_f n1_0 ?_)
      exact y_joinC (by omega) (by omega) (by omega) o2 (yc_of g') (fun sa2 td2 g2 => br_f n1_0 (ys_1 hpo hF n1 (by omega) g2)) (fun sa2 td2 g2 => br_t rfl (ys_0 hpo hF (fun r h => h) g2))
    · have hF := hrd (fun r => (gr_sat N' K' L' R' r ∧ r (jp sp t 0) = r (st.getD 0 0)) ∧ r t = r (st.getD 1 0)) (fun r => by
        constructor
        · intro h
          refine ⟨h.1.1, fun j hj => ?_, h.2⟩
          have : j = 0 := by omega
          subst this; exact h.1.2
        · intro h; exact ⟨⟨h.1, h.2.1 0 (by omega)⟩, h.2.2⟩)
      obtain ⟨b1, b2⟩ := hbe 0 (by omega)
      obtain ⟨s1, s2⟩ := hrk 1 (by omega)
      have e2 : ((1000 : Int32) + nI st.length) - 2 = nI (1000 + 0) := by
        rw [ix_th, hst]
        have : (2 : Int32) = nI 2 := rfl
        rw [this, pk_sub (by omega)]
      rw [e2]
      refine br_f (by rw [hst]; decide) (And.intro (pk_in (1000 + 0) 1500 (by omega)) (And.intro (pk_in g 11 (by omega)) ?_))
      rw [ci g (by omega), hpg]
      refine br_f (by decide) (And.intro (pk_in (72 * row + 3 * t) 792 (by omega) (ix72 _ _)) ?_)
      rw [Nat.add_zero] at b1
      rw [ib, b1]
      refine y_joinC (by omega) (by omega) (by omega) p2 (yc_of g') (fun sa2 td2 g2 => br_f n1_0 (And.intro (pk_in g 11 (by omega)) ?_)) (fun sa2 td2 g2 => br_t rfl (br_t rfl (ys_0 hpo hF (fun r h => h.1) g2)))
      rw [ci g (by omega), hpg]
      refine br_t (by decide) (br_f n1_0 ?_)
      exact y_joinC (by omega) (by omega) (by omega) o2 g2 (fun sa3 td3 g3 => br_f n1_0 (ys_1 hpo hF n1 (by omega) g3)) (fun sa3 td3 g3 => br_t rfl (ys_0 hpo hF (fun r h => h) g3))
    · have hF := hrd (fun r => ((gr_sat N' K' L' R' r ∧ r (jp sp t 0) = r (st.getD 0 0)) ∧ r (jp sp t 1) = r (st.getD 1 0)) ∧ r t = r (st.getD 2 0)) (fun r => by
        constructor
        · intro h
          refine ⟨h.1.1.1, fun j hj => ?_, h.2⟩
          have hj' : j = 0 ∨ j = 1 := by omega
          rcases hj' with rfl | rfl
          · exact h.1.1.2
          · exact h.1.2
        · intro h; exact ⟨⟨⟨h.1, h.2.1 0 (by omega)⟩, h.2.1 1 (by omega)⟩, h.2.2⟩)
      obtain ⟨b1, b2⟩ := hbe 0 (by omega)
      obtain ⟨b3, b4⟩ := hbe 1 (by omega)
      obtain ⟨s1, s2⟩ := hrk 1 (by omega)
      have e2 : ((1000 : Int32) + nI st.length) - 2 = nI (1000 + 1) := by
        rw [ix_th, hst]
        have : (2 : Int32) = nI 2 := rfl
        rw [this, pk_sub (by omega)]
      rw [e2]
      refine br_f (by rw [hst]; decide) (And.intro (pk_in (1000 + 1) 1500 (by omega)) ?_)
      rw [ci (1000 + 1) (by omega)]
      have s1' : td' (1000 + 1) = nI (st.getD 1 0) := s1
      rw [s1']
      refine And.intro (pk_in g 11 (by omega)) ?_
      rw [ci g (by omega), hpg]
      refine br_f (by decide) (And.intro (pk_in (72 * row + 3 * t) 792 (by omega) (ix72 _ _)) ?_)
      rw [Nat.add_zero] at b1
      rw [ib, b1]
      refine y_joinC (by omega) (by omega) (by omega) p2 (yc_of g') (fun sa2 td2 g2 => br_f n1_0 (And.intro (pk_in g 11 (by omega)) ?_)) (fun sa2 td2 g2 => br_t rfl (br_t rfl (ys_0 hpo hF (fun r h => h.1.1) g2)))
      rw [ci g (by omega), hpg]
      refine br_f (by decide) (And.intro (pk_in (72 * row + 3 * t + 1) 792 (by omega) (by rw [ix72, nI_1])) ?_)
      rw [ib1, b3]
      refine y_joinC (by omega) (by omega) (by omega) s2 g2 (fun sa3 td3 g3 => br_f n1_0 ?_) (fun sa3 td3 g3 => br_t rfl (ys_0 hpo hF (fun r h => h.1) g3))
      exact y_joinC (by omega) (by omega) (by omega) o2 g3 (fun sa4 td4 g4 => br_f n1_0 (ys_1 hpo hF n1 (by omega) g4)) (fun sa4 td4 g4 => br_t rfl (ys_0 hpo hF (fun r h => h) g4))
end
section
variable {yf_place yf_points yf_names yf_textEnd yf_made yf_entry yf_waiting yf_values yf_bound yf_cells yf_conses yf_lams yf_steps yf_atWork yf_end yf_writtenCount : Int32} {ya_kind ya_up ya_turn ya_depth ya_value ya_below ya_length ya_parameters ya_codes ya_codeCount ya_form ya_colour ya_same ya_one ya_two ya_todo ya_numbered ya_text ya_ofFunction ya_codeEnd ya_instance ya_token ya_env ya_tag ya_cellEnv ya_boundNext ya_step ya_boundNumber ya_boundTag ya_headTag ya_tailTag ya_number ya_boundValue ya_head ya_tail ya_written : Nat → Int32}
section ru2
variable {N : Nat} {C : (Nat → mt_T) → Prop} {t a b w P : Nat} {own : Bool} {Lc : List Nat} {c : Nat → Nat}
theorem f_add (hl : lo_ok N C) (ht : t < N) (ha : a < N) (hb : b < N) (h0 : c 0 = a) (h1 : c 1 = b) : ys_ok N C (fun r => ((((((C r ∧ ((0 : Int32) = 10 ∨ r N = gr_at (fun _ => 0) (fun _ => 0) (fun _ => 0) r 0)) ∧ r a = r N) ∧ ((0 : Int32) = 10 ∨ r (N + 1) = gr_at (fun _ => 0) (fun _ => 0) (fun _ => 0) r 0)) ∧ r b = r (N + 1)) ∧
    ((0 : Int32) = 10 ∨ r (N + 1 + 1) = gr_at (fun _ => 0) (fun _ => 0) (fun _ => 0) r 0)) ∧ r t = r (N + 1 + 1))) (ru_k 12 t c w own P Lc) := by
  refine ⟨fun r hw h => ⟨h.1.1.1.1.1.1, ?_, ?_, ?_⟩, fun r hw hc hr => ?_⟩
  · rw [h0, h.1.1.1.1.2]; exact d0_e.mp h.1.1.1.1.1.2
  · rw [h1, h.1.1.2]; exact d0_e.mp h.1.1.1.2
  · rw [h.2]; exact d0_e.mp h.1.2
  · obtain ⟨e1, e2, e3⟩ := hr
    rw [h0] at e1
    rw [h1] at e2
    let r' := gr_put (gr_put (gr_put r N (.leaf 0)) (N + 1) (.leaf 0)) (N + 1 + 1) (.leaf 0)
    have lo : ∀ n, n < N → r' n = r n := fun n hn => by show gr_put _ _ _ n = _; rw [gr_put_ne (by omega), gr_put_ne (by omega), gr_put_ne (by omega)]
    have n0 : r' N = .leaf 0 := by show gr_put _ _ _ N = _; rw [gr_put_ne (by omega), gr_put_ne (by omega), gr_put_eq]
    have n1 : r' (N + 1) = .leaf 0 := by show gr_put _ _ _ (N + 1) = _; rw [gr_put_ne (by omega), gr_put_eq]
    have n2 : r' (N + 1 + 1) = .leaf 0 := gr_put_eq
    exact ⟨r', pt_wf (pt_wf (pt_wf hw mt_wf0) mt_wf0) mt_wf0, lo, ⟨⟨⟨⟨⟨hl r r' lo hc, d0_e.mpr n0⟩, by rw [lo a ha, n0]; exact e1⟩, d0_e.mpr n1⟩, by rw [lo b hb, n1]; exact e2⟩, d0_e.mpr n2⟩, by rw [lo t ht, n2]; exact e3⟩
theorem f_less (hl : lo_ok N C) (ht : t < N) (ha : a < N) (hb : b < N) (h0 : c 0 = a) (h1 : c 1 = b) : ys_ok N C (fun r => ((((((C r ∧ ((0 : Int32) = 10 ∨ r N = gr_at (fun _ => 0) (fun _ => 0) (fun _ => 0) r 0)) ∧ r a = r N) ∧ ((0 : Int32) = 10 ∨ r (N + 1) = gr_at (fun _ => 0) (fun _ => 0) (fun _ => 0) r 0)) ∧ r b = r (N + 1)) ∧
    ((1 : Int32) = 10 ∨ r (N + 1 + 1) = gr_at (fun _ => 1) (fun _ => 0) (fun _ => 0) r 0)) ∧ r t = r (N + 1 + 1))) (ru_k 13 t c w own P Lc) := by
  refine ⟨fun r hw h => ⟨h.1.1.1.1.1.1, ?_, ?_, ?_⟩, fun r hw hc hr => ?_⟩
  · rw [h0, h.1.1.1.1.2]; exact d0_e.mp h.1.1.1.1.1.2
  · rw [h1, h.1.1.2]; exact d0_e.mp h.1.1.1.2
  · rw [h.2]; exact d1_e.mp h.1.2
  · obtain ⟨e1, e2, e3⟩ := hr
    rw [h0] at e1
    rw [h1] at e2
    let r' := gr_put (gr_put (gr_put r N (.leaf 0)) (N + 1) (.leaf 0)) (N + 1 + 1) (.leaf 1)
    have lo : ∀ n, n < N → r' n = r n := fun n hn => by show gr_put _ _ _ n = _; rw [gr_put_ne (by omega), gr_put_ne (by omega), gr_put_ne (by omega)]
    have n0 : r' N = .leaf 0 := by show gr_put _ _ _ N = _; rw [gr_put_ne (by omega), gr_put_ne (by omega), gr_put_eq]
    have n1 : r' (N + 1) = .leaf 0 := by show gr_put _ _ _ (N + 1) = _; rw [gr_put_ne (by omega), gr_put_eq]
    have n2 : r' (N + 1 + 1) = .leaf 1 := gr_put_eq
    exact ⟨r', pt_wf (pt_wf (pt_wf hw mt_wf0) mt_wf0) mt_wf1, lo, ⟨⟨⟨⟨⟨hl r r' lo hc, d0_e.mpr n0⟩, by rw [lo a ha, n0]; exact e1⟩, d0_e.mpr n1⟩, by rw [lo b hb, n1]; exact e2⟩, d1_e.mpr n2⟩, by rw [lo t ht, n2]; exact e3⟩
end ru2
theorem ix_25 (t : Nat) : 25 + 2 * nI t = nI (25 + 2 * t) := by
  have : (2 : Int32) * nI t = nI (2 * t) := pk_mul 2 t
  rw [this]; exact nI_add 25 (2 * t)
theorem n13_nlt {k : Nat} (h : k ≤ 13) : ¬ (13 : Int32) < nI k := nI_nlt (b := k) (a := 13) h (by omega)
theorem y_rule {post : Int32 → SY → Prop} {N M row n f t g w P : Nat} {own : Bool} {kN : Nat → Nat} {vl : Nat → Int32} {oc sp bd bi : Nat → Nat} {C : (Nat → mt_T) → Prop} {Lc : List Nat} {ts : List mt_T} (h74 : 74 ≤ N) (hNM : N + 3 ≤ M) (hM : kN t = 4 → own = false → N + Lc.length ≤ M) (hM2 : M ≤ 790) (hrow : row ≤ 10) (hn : n ≤ 24) (ht : t < n) (hf : f < 5)
    (hb : yb_ok row n ya_kind ya_value ya_up ya_turn ya_depth ya_below kN vl oc sp bd) (htr : tr_ok n kN oc sp bd bi) (hbw : bw_is n oc sp)
    (hoc : ∀ t, t < n → oc t ≤ 3) (hk : ∀ t, t < n → kN t ≤ 16) (hbd : ∀ t, t < n → bd t ≤ 12) (hbi : ∀ t, t < n → bi t ≤ t)
    (har : kN t ≠ 4 → oc t = ar (kN t)) (h3 : kN t = 3 → ∃ v, v < 10 ∧ vl t = nI v ∧ w = vw bi bd (bi t) (bi t) v ∧ w < 74)
    (h4 : kN t = 4 → g < 5 ∧ P ≤ 2 ∧ oc t = P ∧ vl t = nI g ∧ (own = true ↔ g = f) ∧ (own = true → ya_parameters row = nI P) ∧ (own = false → ya_parameters g = nI P) ∧
      (own = false → (∀ t ∈ ts, mt_wf t) ∧ mt_encs ts = Lc ∧ ts.length = P + 1 ∧ Lc.length ≤ 42 ∧ (∀ k, k < Lc.length → Lc.getD k 0 < 60) ∧ ya_codeCount g = nI Lc.length ∧ ∀ k, k < Lc.length → ya_codes (48 * g + k) = nI (Lc.getD k 0)))
    (hgc : yc_ok N ya_form ya_same ya_one ya_two C) (hpo : ys_post post N M yf_place (nI N) yf_names yf_textEnd yf_made yf_entry yf_waiting yf_values yf_bound yf_cells yf_conses yf_lams yf_steps yf_atWork yf_end yf_writtenCount ya_kind ya_up ya_turn ya_depth ya_value ya_below ya_length ya_parameters ya_codes ya_codeCount ya_form ya_colour ya_same ya_one ya_two ya_todo ya_numbered ya_text ya_ofFunction ya_codeEnd ya_instance ya_token ya_env ya_tag ya_cellEnv ya_boundNext ya_step ya_boundNumber ya_boundTag ya_headTag ya_tailTag ya_number ya_boundValue ya_head ya_tail ya_written C (ru_k (kN t) t (jp sp t) w own P Lc)) :
    wpY_rule post (yf_place, (nI N), yf_names, yf_textEnd, yf_made, yf_entry, yf_waiting, yf_values, yf_bound, yf_cells, yf_conses, yf_lams, yf_steps, yf_atWork, yf_end, yf_writtenCount, ya_kind, ya_up, ya_turn, ya_depth, ya_value, ya_below, ya_length, ya_parameters, ya_codes, ya_codeCount, ya_form, ya_colour, ya_same, ya_one, ya_two, ya_todo, ya_numbered, ya_text, ya_ofFunction, ya_codeEnd, ya_instance, ya_token, ya_env, ya_tag, ya_cellEnv, ya_boundNext, ya_step, ya_boundNumber, ya_boundTag, ya_headTag, ya_tailTag, ya_number, ya_boundValue, ya_head, ya_tail, ya_written) (nI row) (nI t) (nI f) := by
  obtain ⟨b1, b2, b3, b4, _, _⟩ := hb t ht
  have hlo : lo_ok N C := fun r r' e h => yc_low hgc e h
  have hbe : ∀ j, j < oc t → ya_below (72 * row + 3 * t + j) = nI (jp sp t j) ∧ jp sp t j < 24 := fun j hj => ⟨b4 j hj, by have := (bw_in hbw ht hj).2.2; omega⟩
  have ht24 : t < 24 := by omega
  have i0 : (72 * nI row + 3 * nI t) = nI (72 * row + 3 * t) := ix72 row t
  have ct : (24 * nI row + nI t).toNatClampNeg = 24 * row + t := by rw [ix24]; exact nI_clamp (by omega)
  have e2 : nI (72 * row + 3 * t) + 2 = nI (72 * row + 3 * t + 2) := nI_add _ 2
  refine nm_r i0 (And.intro (pk_in (72 * row + 3 * t) 792 (by omega)) (nm_e (And.intro (pk_in (72 * row + 3 * t + 1) 792 (by omega) (nI_1 _)) (nm_e (And.intro (pk_in (72 * row + 3 * t + 2) 792 (by omega) e2) (nm_e (And.intro (pk_in (24 * row + t) 264 (by omega) (ix24 _ _)) (nm_r (e' := nI (kN t)) (by rw [ct]; exact b1) ?_))))))))
  rw [nI_1, e2, nI_clamp (n := 72 * row + 3 * t) (by omega), nI_clamp (n := 72 * row + 3 * t + 1) (by omega), nI_clamp (n := 72 * row + 3 * t + 2) (by omega)]
  have o0 : 0 < oc t → ya_below (72 * row + 3 * t) = nI (jp sp t 0) := fun h => (hbe 0 h).1
  have o1 : 1 < oc t → ya_below (72 * row + 3 * t + 1) = nI (jp sp t 1) := fun h => (hbe 1 h).1
  have o2 : 2 < oc t → ya_below (72 * row + 3 * t + 2) = nI (jp sp t 2) := fun h => (hbe 2 h).1
  have c0 : 0 < oc t → jp sp t 0 < N := fun h => by have := (hbe 0 h).2; omega
  have c1 : 1 < oc t → jp sp t 1 < N := fun h => by have := (hbe 1 h).2; omega
  have c2 : 2 < oc t → jp sp t 2 < N := fun h => by have := (hbe 2 h).2; omega
  have x0 : 0 < N := by omega
  have xt : t < N := by omega
  rcases k17 (hk t ht) with z | z | z | z | z | z | z | z | z | z | z | z | z | z | z | z | z
  · rw [z] at hpo ⊢
    have hF := f_leaf0 (c := jp sp t) (w := w) (own := own) (P := P) (Lc := Lc) hlo xt
    exact br_f (by decide) (br_f (by decide) (br_t rfl (y_is (c := 0) (a := 0) (b := 0) h74 (by omega) kd_0 n0_5 rfl xt x0 x0 hgc (fun fo' sa' on' tw' td' g => And.intro bo_1 (ys_1 hpo hF (by omega) (by omega) g)) (fun fo' sa' on' tw' td' g => And.intro bo_0 (ys_0 hpo hF (fun r h => h) g)))))
  · rw [z] at hpo ⊢
    have hF := f_leaf1 (c := jp sp t) (w := w) (own := own) (P := P) (Lc := Lc) hlo xt 1 (Or.inl rfl)
    exact br_f (by decide) (br_f (by decide) (br_f (by decide) (br_t rfl (y_is (c := 1) (a := 0) (b := 0) h74 (by omega) kd_1 n1_5 rfl xt x0 x0 hgc (fun fo' sa' on' tw' td' g => And.intro bo_1 (ys_1 hpo hF (by omega) (by omega) g)) (fun fo' sa' on' tw' td' g => And.intro bo_0 (ys_0 hpo hF (fun r h => h) g))))))
  · rw [z] at hpo ⊢
    have hF := f_leaf1 (c := jp sp t) (w := w) (own := own) (P := P) (Lc := Lc) hlo xt 2 (Or.inr rfl)
    exact br_f (by decide) (br_f (by decide) (br_f (by decide) (br_f (by decide) (br_t rfl (y_is (c := 1) (a := 0) (b := 0) h74 (by omega) kd_1 n1_5 rfl xt x0 x0 hgc (fun fo' sa' on' tw' td' g => And.intro bo_1 (ys_1 hpo hF (by omega) (by omega) g)) (fun fo' sa' on' tw' td' g => And.intro bo_0 (ys_0 hpo hF (fun r h => h) g)))))))
  · obtain ⟨v, v1, v2, v3, v4⟩ := h3 z
    rw [z] at hpo ⊢
    have hF := f_var (N := N) (C := C) (t := t) (c := jp sp t) (w := w) (own := own) (P := P) (Lc := Lc)
    refine br_f (by decide) (br_f (by decide) (br_f (by decide) (br_f (by decide) (br_f (by decide) (br_t rfl (y_variable hrow hn v1 hb htr hoc hk hbd hbi ht v2 ?_))))))
    rw [← v3]
    exact y_joinC h74 (by omega) xt (by omega) hgc (fun sa' td' g => And.intro bo_1 (ys_1 hpo hF (Nat.le_refl _) (by omega) g)) (fun sa' td' g => And.intro bo_0 (ys_0 hpo hF (fun r h => h) g))
  · obtain ⟨q1, q2, q3, q4, q5, q6, q7, q8⟩ := h4 z
    have hM' := hM z
    rw [z] at hpo ⊢
    refine br_f (by decide) (br_f (by decide) (br_f (by decide) (br_f (by decide) (br_f (by decide) (br_f (by decide) (br_t rfl ?_))))))
    refine y_called (ts := ts) h74 (by omega) hM' hM2 hrow ht24 hf q1 q2 (by rw [b2]; exact q4) q5 q6 q7 (fun j hj => hbe j (by omega)) q8 hgc ⟨fun N' fo' sa' on' tw' td' nu' C' h1 h2 hg hs => And.intro bo_1 (hpo.1 N' fo' sa' on' tw' td' nu' C' h1 h2 hg hs), fun N' fo' sa' on' tw' td' nu' hno => And.intro bo_0 (hpo.2 N' fo' sa' on' tw' td' nu' hno)⟩
  · have o : oc t = 2 := by rw [har (by omega), z]; rfl
    rw [z] at hpo ⊢
    have hF := f_pair (w := w) (own := own) (P := P) (Lc := Lc) hlo xt (c0 (by omega)) (c1 (by omega)) rfl rfl
    rw [o0 (by omega), o1 (by omega)]
    exact br_f (by decide) (br_f (by decide) (br_f (by decide) (br_f (by decide) (br_f (by decide) (br_f (by decide) (br_f (by decide) (br_t rfl (y_is (c := 2) h74 (by omega) kd_2 n2_5 rfl xt (c0 (by omega)) (c1 (by omega)) hgc (fun fo' sa' on' tw' td' g => And.intro bo_1 (ys_1 hpo hF (by omega) (by omega) g)) (fun fo' sa' on' tw' td' g => And.intro bo_0 (ys_0 hpo hF (fun r h => h) g))))))))))
  · have o : oc t = 1 := by rw [har (by omega), z]; rfl
    rw [z] at hpo ⊢
    have hF := f_fst (w := w) (own := own) (P := P) (Lc := Lc) hlo xt (c0 (by omega)) rfl
    rw [o0 (by omega)]
    exact br_f (by decide) (br_f (by decide) (br_f (by decide) (br_f (by decide) (br_f (by decide) (br_f (by decide) (br_f (by decide) (br_f (by decide) (br_t rfl (br_t rfl (y_pointC (c := 10) (a := 0) (b := 0) h74 (by omega) kd_10 n10_5 rfl x0 x0 hgc (fun fo' sa' on' tw' g => br_f (by decide) (br_f (by decide) (br_t rfl (y_is (c := 2) (by omega) (by omega) kd_2 n2_5 rfl (by have := c0 (by omega); omega) (by omega) (by omega) g (fun fo2 sa2 on2 tw2 td2 g2 => And.intro bo_1 (And.intro bo_1 (ys_1 hpo hF (by omega) (by omega) g2))) (fun fo2 sa2 on2 tw2 td2 g2 => And.intro bo_0 (And.intro bo_0 (ys_0 hpo hF (fun r h => h) g2)))))))))))))))))
  · have o : oc t = 1 := by rw [har (by omega), z]; rfl
    rw [z] at hpo ⊢
    have hF := f_snd (w := w) (own := own) (P := P) (Lc := Lc) hlo xt (c0 (by omega)) rfl
    rw [o0 (by omega)]
    exact br_f (by decide) (br_f (by decide) (br_f (by decide) (br_f (by decide) (br_f (by decide) (br_f (by decide) (br_f (by decide) (br_f (by decide) (br_f (by decide) (br_t rfl (br_f (by decide) (br_t rfl (y_pointC (c := 10) (a := 0) (b := 0) h74 (by omega) kd_10 n10_5 rfl x0 x0 hgc (fun fo' sa' on' tw' g => br_f (by decide) (br_f (by decide) (br_f (by decide) (br_t rfl (y_is (c := 2) (by omega) (by omega) kd_2 n2_5 rfl (by have := c0 (by omega); omega) (by omega) (by omega) g (fun fo2 sa2 on2 tw2 td2 g2 => And.intro bo_1 (And.intro bo_1 (ys_1 hpo hF (by omega) (by omega) g2))) (fun fo2 sa2 on2 tw2 td2 g2 => And.intro bo_0 (And.intro bo_0 (ys_0 hpo hF (fun r h => h) g2))))))))))))))))))))
  · have o : oc t = 0 := by rw [har (by omega), z]; rfl
    rw [z] at hpo ⊢
    have hF := f_nil (c := jp sp t) (w := w) (own := own) (P := P) (Lc := Lc) hlo xt
    exact br_f (by decide) (br_f (by decide) (br_f (by decide) (br_f (by decide) (br_f (by decide) (br_f (by decide) (br_f (by decide) (br_f (by decide) (br_f (by decide) (br_f (by decide) (br_t rfl (br_f (by decide) (br_f (by decide) (br_t rfl (y_pointC (c := 10) (a := 0) (b := 0) h74 (by omega) kd_10 n10_5 rfl x0 x0 hgc (fun fo' sa' on' tw' g => br_f (by decide) (br_f (by decide) (br_f (by decide) (br_f (by decide) (br_t rfl (y_is (c := 3) (by omega) (by omega) kd_3 n3_5 rfl (by omega) (by omega) (show 0 < N + 1 by omega) g (fun fo2 sa2 on2 tw2 td2 g2 => And.intro bo_1 (And.intro bo_1 (ys_1 hpo hF (by omega) (by omega) g2))) (fun fo2 sa2 on2 tw2 td2 g2 => And.intro bo_0 (And.intro bo_0 (ys_0 hpo hF (fun r h => h) g2)))))))))))))))))))))))
  · have o : oc t = 2 := by rw [har (by omega), z]; rfl
    rw [z] at hpo ⊢
    have hF := f_cons (w := w) (own := own) (P := P) (Lc := Lc) hlo xt (c0 (by omega)) (c1 (by omega)) rfl rfl
    rw [o0 (by omega), o1 (by omega)]
    exact br_f (by decide) (br_f (by decide) (br_f (by decide) (br_f (by decide) (br_f (by decide) (br_f (by decide) (br_f (by decide) (br_f (by decide) (br_f (by decide) (br_f (by decide) (br_f (by decide) (br_t rfl (br_f (by decide) (br_f (by decide) (br_f (by decide) (br_f (by decide) (br_f (by decide) (br_f (by decide) (br_f (by decide) (br_f (by decide) (br_t rfl (y_is (c := 3) h74 (by omega) kd_3 n3_5 rfl (c1 (by omega)) (c0 (by omega)) x0 hgc (fun fo2 sa2 on2 tw2 td2 g2 => br_f n1_0 (y_joinC (by omega) (by omega) (by omega) (by have := c1 (by omega); omega) g2 (fun sa3 td3 g3 => br_f n1_0 (And.intro bo_1 (ys_1 hpo hF (by omega) (by omega) g3))) (fun sa3 td3 g3 => br_t rfl (And.intro bo_0 (ys_0 hpo hF (fun r h => h) g3))))) (fun fo2 sa2 on2 tw2 td2 g2 => br_t rfl (And.intro bo_0 (ys_0 hpo hF (fun r h => h.1) g2))))))))))))))))))))))))
  · have o : oc t = 3 := by rw [har (by omega), z]; rfl
    rw [z] at hpo ⊢
    have hF := f_case (w := w) (own := own) (P := P) (Lc := Lc) hlo xt (by omega) (c0 (by omega)) (c1 (by omega)) (c2 (by omega)) rfl rfl rfl
    rw [o0 (by omega), o1 (by omega), o2 (by omega), ix_2 t, ix_25 t]
    exact br_f (by decide) (br_f (by decide) (br_f (by decide) (br_f (by decide) (br_f (by decide) (br_f (by decide) (br_f (by decide) (br_f (by decide) (br_f (by decide) (br_f (by decide) (br_f (by decide) (br_f (by decide) (br_t rfl (y_is (c := 3) h74 (by omega) kd_3 n3_5 rfl (c0 (by omega)) (by omega) x0 hgc (fun fo2 sa2 on2 tw2 td2 g2 => br_f n1_0 (y_joinC (a := 25 + 2 * t) (by omega) (by omega) (by omega) (by have := c0 (by omega); omega) g2 (fun sa3 td3 g3 => br_f n1_0 (y_joinC (by omega) (by omega) (by have := c1 (by omega); omega) (by omega) g3 (fun sa4 td4 g4 => br_f n1_0 (y_joinC (by omega) (by omega) (by have := c2 (by omega); omega) (by omega) g4 (fun sa5 td5 g5 => br_f n1_0 (ys_1 hpo hF (by omega) (by omega) g5)) (fun sa5 td5 g5 => br_t rfl (ys_0 hpo hF (fun r h => h) g5)))) (fun sa4 td4 g4 => br_t rfl (ys_0 hpo hF (fun r h => h.1) g4)))) (fun sa3 td3 g3 => br_t rfl (ys_0 hpo hF (fun r h => h.1.1) g3)))) (fun fo2 sa2 on2 tw2 td2 g2 => br_t rfl (ys_0 hpo hF (fun r h => h.1.1.1) g2)))))))))))))))
  · have o : oc t = 3 := by rw [har (by omega), z]; rfl
    rw [z] at hpo ⊢
    have hF := f_if (w := w) (own := own) (P := P) (Lc := Lc) hlo xt (c0 (by omega)) (c1 (by omega)) (c2 (by omega)) rfl rfl rfl
    rw [o0 (by omega), o1 (by omega), o2 (by omega)]
    exact br_f (by decide) (br_f (by decide) (br_f (by decide) (br_f (by decide) (br_f (by decide) (br_f (by decide) (br_f (by decide) (br_f (by decide) (br_f (by decide) (br_f (by decide) (br_f (by decide) (br_f (by decide) (br_f (by decide) (br_t rfl (y_is (c := 1) h74 (by omega) kd_1 n1_5 rfl (c0 (by omega)) x0 x0 hgc (fun fo2 sa2 on2 tw2 td2 g2 => br_f n1_0 (y_joinC (by omega) (by omega) (by have := c1 (by omega); omega) (by omega) g2 (fun sa3 td3 g3 => br_f n1_0 (y_joinC (by omega) (by omega) (by have := c2 (by omega); omega) (by omega) g3 (fun sa4 td4 g4 => br_f n1_0 (ys_1 hpo hF (by omega) (by omega) g4)) (fun sa4 td4 g4 => br_t rfl (ys_0 hpo hF (fun r h => h) g4)))) (fun sa3 td3 g3 => br_t rfl (ys_0 hpo hF (fun r h => h.1) g3)))) (fun fo2 sa2 on2 tw2 td2 g2 => br_t rfl (ys_0 hpo hF (fun r h => h.1.1) g2))))))))))))))))
  · have o : oc t = 2 := by rw [har (by omega), z]; rfl
    rw [z] at hpo ⊢
    have hF := f_add (w := w) (own := own) (P := P) (Lc := Lc) hlo xt (c0 (by omega)) (c1 (by omega)) rfl rfl
    rw [o0 (by omega), o1 (by omega)]
    exact br_f (by decide) (br_f (by decide) (br_f (by decide) (br_f (by decide) (br_f (by decide) (br_f (by decide) (br_f (by decide) (br_f (by decide) (br_f (by decide) (br_f (by decide) (br_f (by decide) (br_f (by decide) (br_f (by decide) (br_f (by decide) (br_t rfl (y_is (c := 0) h74 (by omega) kd_0 n0_5 rfl (c0 (by omega)) x0 x0 hgc (fun fo2 sa2 on2 tw2 td2 g2 => br_f n1_0 (y_is (c := 0) (by omega) (by omega) kd_0 n0_5 rfl (by have := c1 (by omega); omega) (show 0 < N + 1 by omega) (show 0 < N + 1 by omega) g2 (fun fo3 sa3 on3 tw3 td3 g3 => br_f n1_0 (y_is (c := 0) (by omega) (by omega) kd_0 n0_5 rfl (by omega) (show 0 < N + 1 + 1 by omega) (show 0 < N + 1 + 1 by omega) g3 (fun fo4 sa4 on4 tw4 td4 g4 => br_f n1_0 (ys_1 hpo hF (by omega) (by omega) g4)) (fun fo4 sa4 on4 tw4 td4 g4 => br_t rfl (ys_0 hpo hF (fun r h => h) g4)))) (fun fo3 sa3 on3 tw3 td3 g3 => br_t rfl (ys_0 hpo hF (fun r h => h.1.1) g3)))) (fun fo2 sa2 on2 tw2 td2 g2 => br_t rfl (ys_0 hpo hF (fun r h => h.1.1.1.1) g2)))))))))))))))))
  · have o : oc t = 2 := by rw [har (by omega), z]; rfl
    rw [z] at hpo ⊢
    have hF := f_less (w := w) (own := own) (P := P) (Lc := Lc) hlo xt (c0 (by omega)) (c1 (by omega)) rfl rfl
    rw [o0 (by omega), o1 (by omega)]
    exact br_f (by decide) (br_f (by decide) (br_f (by decide) (br_f (by decide) (br_f (by decide) (br_f (by decide) (br_f (by decide) (br_f (by decide) (br_f (by decide) (br_f (by decide) (br_f (by decide) (br_f (by decide) (br_f (by decide) (br_f (by decide) (br_f (by decide) (br_t rfl (y_is (c := 0) h74 (by omega) kd_0 n0_5 rfl (c0 (by omega)) x0 x0 hgc (fun fo2 sa2 on2 tw2 td2 g2 => br_f n1_0 (y_is (c := 0) (by omega) (by omega) kd_0 n0_5 rfl (by have := c1 (by omega); omega) (show 0 < N + 1 by omega) (show 0 < N + 1 by omega) g2 (fun fo3 sa3 on3 tw3 td3 g3 => br_f n1_0 (y_is (c := 1) (by omega) (by omega) kd_1 n1_5 rfl (by omega) (show 0 < N + 1 + 1 by omega) (show 0 < N + 1 + 1 by omega) g3 (fun fo4 sa4 on4 tw4 td4 g4 => br_f n1_0 (ys_1 hpo hF (by omega) (by omega) g4)) (fun fo4 sa4 on4 tw4 td4 g4 => br_t rfl (ys_0 hpo hF (fun r h => h) g4)))) (fun fo3 sa3 on3 tw3 td3 g3 => br_t rfl (ys_0 hpo hF (fun r h => h.1.1) g3)))) (fun fo2 sa2 on2 tw2 td2 g2 => br_t rfl (ys_0 hpo hF (fun r h => h.1.1.1.1) g2))))))))))))))))))
  · have o : oc t = 2 := by rw [har (by omega), z]; rfl
    rw [z] at hpo ⊢
    have hF := f_let (N := N) (C := C) (t := t) (w := w) (own := own) (P := P) (Lc := Lc) (a := jp sp t 0) (b := jp sp t 1) (c := jp sp t) rfl rfl
    rw [o0 (by omega), o1 (by omega)]
    refine br_f (by decide) (br_t (by decide) (br_f (by decide) (br_f (by decide) (br_f (by decide) (br_f (by decide) (br_f (by decide) (br_f (by decide) (br_f (by decide) (br_f (by decide) (br_f (by decide) (br_f (by decide) (br_f (by decide) (br_f (by decide) (br_f (by decide) (br_t rfl (?_))))))))))))))))
    rw [ix_2]
    exact y_joinC (by omega) (by omega) (by omega) (c0 (by omega)) hgc (fun sa2 td2 g2 => br_f n1_0 (y_joinC (by omega) (by omega) (by omega) (by have := c1 (by omega); omega) g2 (fun sa3 td3 g3 => br_f n1_0 (And.intro bo_1 (ys_1 hpo hF (by omega) (by omega) g3))) (fun sa3 td3 g3 => br_t rfl (And.intro bo_0 (ys_0 hpo hF (fun r h => h) g3))))) (fun sa2 td2 g2 => br_t rfl (And.intro bo_0 (ys_0 hpo hF (fun r h => h.1) g2)))
  · have o : oc t = 1 := by rw [har (by omega), z]; rfl
    rw [z] at hpo ⊢
    have hF := f_lam (w := w) (own := own) (P := P) (Lc := Lc) hlo xt (c0 (by omega)) (by omega) rfl
    rw [o0 (by omega)]
    refine br_f (by decide) (br_t (by decide) (br_f (by decide) (br_f (by decide) (br_f (by decide) (br_f (by decide) (br_f (by decide) (br_f (by decide) (br_f (by decide) (br_f (by decide) (br_f (by decide) (br_f (by decide) (br_f (by decide) (br_f (by decide) (br_f (by decide) (br_f (by decide) (br_t rfl (?_)))))))))))))))))
    rw [ix_2]
    exact y_is (c := 4) h74 (by omega) kd_4 n4_5 rfl xt (by omega) (c0 (by omega)) hgc (fun fo2 sa2 on2 tw2 td2 g2 => And.intro bo_1 (And.intro bo_1 (ys_1 hpo hF (by omega) (by omega) g2))) (fun fo2 sa2 on2 tw2 td2 g2 => And.intro bo_0 (And.intro bo_0 (ys_0 hpo hF (fun r h => h) g2)))
  · have o : oc t = 2 := by rw [har (by omega), z]; rfl
    rw [z] at hpo ⊢
    have hF := f_app (w := w) (own := own) (P := P) (Lc := Lc) hlo xt (c0 (by omega)) (c1 (by omega)) rfl rfl
    rw [o0 (by omega), o1 (by omega)]
    exact br_f (by decide) (br_t (by decide) (br_f (by decide) (br_f (by decide) (br_f (by decide) (br_f (by decide) (br_t (by decide) (y_is (c := 4) h74 (by omega) kd_4 n4_5 rfl (c0 (by omega)) (c1 (by omega)) xt hgc (fun fo2 sa2 on2 tw2 td2 g2 => And.intro bo_1 (And.intro bo_1 (ys_1 hpo hF (by omega) (by omega) g2))) (fun fo2 sa2 on2 tw2 td2 g2 => And.intro bo_0 (And.intro bo_0 (ys_0 hpo hF (fun r h => h) g2))))))))))
end
section
variable {yf_place yf_points yf_names yf_textEnd yf_made yf_entry yf_waiting yf_values yf_bound yf_cells yf_conses yf_lams yf_steps yf_atWork yf_end yf_writtenCount : Int32} {ya_kind ya_up ya_turn ya_depth ya_value ya_below ya_length ya_parameters ya_codes ya_codeCount ya_form ya_colour ya_same ya_one ya_two ya_todo ya_numbered ya_text ya_ofFunction ya_codeEnd ya_instance ya_token ya_env ya_tag ya_cellEnv ya_boundNext ya_step ya_boundNumber ya_boundTag ya_headTag ya_tailTag ya_number ya_boundValue ya_head ya_tail ya_written : Nat → Int32}
/-- what Y knows of the functions that a body calls -/
def yn_ok (row f n : Nat) (par cn co : Nat → Int32) (kN : Nat → Nat) (vl : Nat → Int32) (oc : Nat → Nat) (cod : Nat → List Nat) : Prop :=
  ∀ t, t < n → kN t = 4 → ∃ g, g < 5 ∧ vl t = nI g ∧ oc t ≤ 2 ∧ (g = f → par row = nI (oc t)) ∧
    (g ≠ f → par g = nI (oc t) ∧ (∃ ts, (∀ t ∈ ts, mt_wf t) ∧ mt_encs ts = cod g ∧ ts.length = oc t + 1) ∧ (cod g).length ≤ 14 * (oc t + 1) ∧ (∀ k, k < (cod g).length → (cod g).getD k 0 < 60) ∧ cn g = nI (cod g).length ∧ ∀ k, k < (cod g).length → co (48 * g + k) = nI ((cod g).getD k 0))
/-- a body's own facts, whoever holds it -/
def bd_ok (n : Nat) (kN : Nat → Nat) (vl : Nat → Int32) (oc sp bd bi : Nat → Nat) : Prop :=
  n ≤ 24 ∧ bw_is n oc sp ∧ sm oc n + 1 = n ∧ tr_ok n kN oc sp bd bi ∧ ∀ t, t < n → kN t ≤ 16 ∧ oc t ≤ 3 ∧ bd t ≤ 12 ∧ bi t ≤ t ∧ (kN t ≠ 4 → oc t = ar (kN t)) ∧
    (kN t = 3 → ∃ v, v < 10 ∧ vl t = nI v ∧ v < bd t ∧ vw bi bd (bi t) (bi t) v < 74)
theorem pj_y {N : Nat} {C C' S rule : (Nat → mt_T) → Prop} (hN : 74 ≤ N) (hp : pj_is 74 C S) (hst : ys_ok N C C' rule) (hd : ∀ r r', (∀ n, n < 74 → r' n = r n) → rule r → rule r') : pj_is 74 C' (fun r => S r ∧ rule r) := by
  refine ⟨fun r hw h => ?_, fun r hw h => ?_⟩
  · obtain ⟨a, b⟩ := hst.1 r hw h
    exact ⟨hp.1 r hw a, b⟩
  · obtain ⟨r0, w0, s0, e0⟩ := hp.2 r hw h.1
    obtain ⟨r1, w1, e1, s1⟩ := hst.2 r0 w0 s0 (hd r r0 e0 h.2)
    exact ⟨r1, w1, s1, fun n hn => by rw [e1 n (by omega), e0 n hn]⟩
theorem ru_t_dep2 {f n : Nat} {kN : Nat → Nat} {vl : Nat → Int32} {oc sp bd bi : Nat → Nat} {cod : Nat → List Nat} {t : Nat} (hb : bd_ok n kN vl oc sp bd bi) (ht : t < n) (h4 : kN t = 4 → oc t ≤ 2) {r r' : Nat → mt_T}
    (e : ∀ n, n < 74 → r' n = r n) (h : ru_t f kN vl oc sp bd bi cod t r) : ru_t f kN vl oc sp bd bi cod t r' := by
  obtain ⟨n24, bw, _, _, hbt⟩ := hb
  obtain ⟨b1, b2, b3, b4, b5, b6⟩ := hbt t ht
  refine ru_dep b1 (by omega) (fun j hj => ?_) (fun z => ?_) h4 e h
  · have : j < oc t := by
      by_cases z : kN t = 4
      · rw [if_pos z] at hj; exact hj
      · rw [if_neg z] at hj; rw [b5 z]; exact hj
    have := (bw_in bw ht this).2.2
    omega
  · obtain ⟨v, v1, v2, v3, v4⟩ := b6 z
    rw [v2, nI_clamp (by omega)]; exact v4
theorem y_infer2 {post : Int32 → SY → Prop} {row f n : Nat} {kN : Nat → Nat} {vl : Nat → Int32} {oc sp bd bi : Nat → Nat} {cod : Nat → List Nat} {S0 : (Nat → mt_T) → Prop} (hrow : row ≤ 10) (hf : f < 5) (hl : ya_length row = nI n)
    (hbd : bd_ok n kN vl oc sp bd bi) (hb : yb_ok row n ya_kind ya_value ya_up ya_turn ya_depth ya_below kN vl oc sp bd) (hfn : yn_ok row f n ya_parameters ya_codeCount ya_codes kN vl oc cod)
    (hPs : ∀ N fo sa on tw co td nu K L R rt ds c, 74 ≤ N → N ≤ 780 → yg_ok N fo sa on tw K L R rt ds → mg_is N (gr_sat N K L R) c → (∀ n, n < N → K n = 10 → c n = .leaf (10 + n)) → pj_is 74 (gr_sat N K L R) (S_t S0 f kN vl oc sp bd bi cod n) →
      post (-1) (yf_place, (nI N), yf_names, yf_textEnd, yf_made, yf_entry, yf_waiting, yf_values, yf_bound, yf_cells, yf_conses, yf_lams, yf_steps, yf_atWork, yf_end, yf_writtenCount, ya_kind, ya_up, ya_turn, ya_depth, ya_value, ya_below, ya_length, ya_parameters, ya_codes, ya_codeCount, fo, co, sa, on, tw, td, nu, ya_text, ya_ofFunction, ya_codeEnd, ya_instance, ya_token, ya_env, ya_tag, ya_cellEnv, ya_boundNext, ya_step, ya_boundNumber, ya_boundTag, ya_headTag, ya_tailTag, ya_number, ya_boundValue, ya_head, ya_tail, ya_written))
    (hPf : ∀ t N fo sa on tw co td nu, t < n → (t = 0 ∨ ∃ r, (∀ n, mt_wf (r n)) ∧ S_t S0 f kN vl oc sp bd bi cod t r) → (∀ r, (∀ n, mt_wf (r n)) → ¬ S_t S0 f kN vl oc sp bd bi cod (t + 1) r) →
      post (nI t) (yf_place, (nI N), yf_names, yf_textEnd, yf_made, yf_entry, yf_waiting, yf_values, yf_bound, yf_cells, yf_conses, yf_lams, yf_steps, yf_atWork, yf_end, yf_writtenCount, ya_kind, ya_up, ya_turn, ya_depth, ya_value, ya_below, ya_length, ya_parameters, ya_codes, ya_codeCount, fo, co, sa, on, tw, td, nu, ya_text, ya_ofFunction, ya_codeEnd, ya_instance, ya_token, ya_env, ya_tag, ya_cellEnv, ya_boundNext, ya_step, ya_boundNumber, ya_boundTag, ya_headTag, ya_tailTag, ya_number, ya_boundValue, ya_head, ya_tail, ya_written)) :
    ∀ q t fu N fo sa on tw co td nu K L R rt ds, t + q = n → q < fu → 74 ≤ N → N ≤ 116 + 14 * (sm oc t + t) → yg_ok N fo sa on tw K L R rt ds → pj_is 74 (gr_sat N K L R) (S_t S0 f kN vl oc sp bd bi cod t) →
      (t = 0 ∨ ∃ c, mg_is N (gr_sat N K L R) c ∧ (∀ n, n < N → K n = 10 → c n = .leaf (10 + n))) →
      wY_infer_2 post (nI row) (nI f) fu (nI t) yf_place (nI N) yf_names yf_textEnd yf_made yf_entry yf_waiting yf_values yf_bound yf_cells yf_conses yf_lams yf_steps yf_atWork yf_end yf_writtenCount ya_kind ya_up ya_turn ya_depth ya_value ya_below ya_length ya_parameters ya_codes ya_codeCount fo co sa on tw td nu ya_text ya_ofFunction ya_codeEnd ya_instance ya_token ya_env ya_tag ya_cellEnv ya_boundNext ya_step ya_boundNumber ya_boundTag ya_headTag ya_tailTag ya_number ya_boundValue ya_head ya_tail ya_written := by
  have hbd' := hbd
  obtain ⟨n24, bw, hsum, htr, hbt⟩ := hbd'
  have hn0 : 0 < n := bw.1
  intro q
  induction q with
  | zero =>
    intro t fu N fo sa on tw co td nu K L R rt ds ht hfu hN1 hN2 hg hp hc
    obtain ⟨fu, rfl⟩ : ∃ g, fu = g + 1 := ⟨fu - 1, by omega⟩
    have e : t = n := by omega
    subst e
    refine And.intro (pk_in row 11 (by omega)) ?_
    rw [nI_clamp (n := row) (by omega), hl]
    rcases hc with z | ⟨c, c1, c2⟩
    · omega
    · exact br_t (nI_le (Nat.le_refl _) (by omega)) (hPs N fo sa on tw co td nu K L R rt ds c hN1 (by omega) hg c1 c2 hp)
  | succ q ih =>
    intro t fu N fo sa on tw co td nu K L R rt ds ht hfu hN1 hN2 hg hp hc
    obtain ⟨fu, rfl⟩ : ∃ g, fu = g + 1 := ⟨fu - 1, by omega⟩
    have htn : t < n := by omega
    obtain ⟨b1, b2, b3, b4, b5, b6⟩ := hbt t htn
    have hso : sm oc (t + 1) = sm oc t + oc t := rfl
    have hmono := sm_mono (g := oc) (a := t + 1) n (by omega)
    have hsat : t = 0 ∨ ∃ r, (∀ n, mt_wf (r n)) ∧ S_t S0 f kN vl oc sp bd bi cod t r := by
      rcases hc with z | ⟨c, c1, _⟩
      · exact Or.inl z
      · exact Or.inr ⟨c, c1.1, hp.1 c c1.1 (mg_self c1)⟩
    have h42 : kN t = 4 → oc t ≤ 2 := fun z => by obtain ⟨g, _, _, h, _⟩ := hfn t htn z; exact h
    refine And.intro (pk_in row 11 (by omega)) ?_
    rw [nI_clamp (n := row) (by omega), hl]
    refine br_f (nI_ge (by omega) (by omega)) ?_
    have post' : ys_post (fun r_3 u => match u with | (yf_place, yf_points, yf_names, yf_textEnd, yf_made, yf_entry, yf_waiting, yf_values, yf_bound, yf_cells, yf_conses, yf_lams, yf_steps, yf_atWork, yf_end, yf_writtenCount, ya_kind, ya_up, ya_turn, ya_depth, ya_value, ya_below, ya_length, ya_parameters, ya_codes, ya_codeCount, ya_form, ya_colour, ya_same, ya_one, ya_two, ya_todo, ya_numbered, ya_text, ya_ofFunction, ya_codeEnd, ya_instance, ya_token, ya_env, ya_tag, ya_cellEnv, ya_boundNext, ya_step, ya_boundNumber, ya_boundTag, ya_headTag, ya_tailTag, ya_number, ya_boundValue, ya_head, ya_tail, ya_written) => (r_3 = 0 → wY_infer_32 post (wY_infer_2 post (nI row) (nI f) fu) (nI row) (nI f) (nI t) r_3 yf_place yf_points yf_names yf_textEnd yf_made yf_entry yf_waiting yf_values yf_bound yf_cells yf_conses yf_lams yf_steps yf_atWork yf_end yf_writtenCount ya_kind ya_up ya_turn ya_depth ya_value ya_below ya_length ya_parameters ya_codes ya_codeCount ya_form ya_colour ya_same ya_one ya_two ya_todo ya_numbered ya_text ya_ofFunction ya_codeEnd ya_instance ya_token ya_env ya_tag ya_cellEnv ya_boundNext ya_step ya_boundNumber ya_boundTag ya_headTag ya_tailTag ya_number ya_boundValue ya_head ya_tail ya_written) ∧ (¬ r_3 = 0 → wpY_finite (fun r_59 u => match u with | (yf_place, yf_points, yf_names, yf_textEnd, yf_made, yf_entry, yf_waiting, yf_values, yf_bound, yf_cells, yf_conses, yf_lams, yf_steps, yf_atWork, yf_end, yf_writtenCount, ya_kind, ya_up, ya_turn, ya_depth, ya_value, ya_below, ya_length, ya_parameters, ya_codes, ya_codeCount, ya_form, ya_colour, ya_same, ya_one, ya_two, ya_todo, ya_numbered, ya_text, ya_ofFunction, ya_codeEnd, ya_instance, ya_token, ya_env, ya_tag, ya_cellEnv, ya_boundNext, ya_step, ya_boundNumber, ya_boundTag, ya_headTag, ya_tailTag, ya_number, ya_boundValue, ya_head, ya_tail, ya_written) => wY_infer_32 post (wY_infer_2 post (nI row) (nI f) fu) (nI row) (nI f) (nI t) r_59 yf_place yf_points yf_names yf_textEnd yf_made yf_entry yf_waiting yf_values yf_bound yf_cells yf_conses yf_lams yf_steps yf_atWork yf_end yf_writtenCount ya_kind ya_up ya_turn ya_depth ya_value ya_below ya_length ya_parameters ya_codes ya_codeCount ya_form ya_colour ya_same ya_one ya_two ya_todo ya_numbered ya_text ya_ofFunction ya_codeEnd ya_instance ya_token ya_env ya_tag ya_cellEnv ya_boundNext ya_step ya_boundNumber ya_boundTag ya_headTag ya_tailTag ya_number ya_boundValue ya_head ya_tail ya_written) (yf_place, yf_points, yf_names, yf_textEnd, yf_made, yf_entry, yf_waiting, yf_values, yf_bound, yf_cells, yf_conses, yf_lams, yf_steps, yf_atWork, yf_end, yf_writtenCount, ya_kind, ya_up, ya_turn, ya_depth, ya_value, ya_below, ya_length, ya_parameters, ya_codes, ya_codeCount, ya_form, ya_colour, ya_same, ya_one, ya_two, ya_todo, ya_numbered, ya_text, ya_ofFunction, ya_codeEnd, ya_instance, ya_token, ya_env, ya_tag, ya_cellEnv, ya_boundNext, ya_step, ya_boundNumber, ya_boundTag, ya_headTag, ya_tailTag, ya_number, ya_boundValue, ya_head, ya_tail, ya_written))) N (N + 14 * (oc t + 1))
        yf_place (nI N) yf_names yf_textEnd yf_made yf_entry yf_waiting yf_values yf_bound yf_cells yf_conses yf_lams yf_steps yf_atWork yf_end yf_writtenCount ya_kind ya_up ya_turn ya_depth ya_value ya_below ya_length ya_parameters ya_codes ya_codeCount fo co sa on tw td nu ya_text ya_ofFunction ya_codeEnd ya_instance ya_token ya_env ya_tag ya_cellEnv ya_boundNext ya_step ya_boundNumber ya_boundTag ya_headTag ya_tailTag ya_number ya_boundValue ya_head ya_tail ya_written (gr_sat N K L R) (ru_t f kN vl oc sp bd bi cod t) := by
      refine ⟨fun N' fo' sa' on' tw' td' nu' C' h1 h2 hg' hs' => ?_, fun N' fo' sa' on' tw' td' nu' hno => ?_⟩
      · obtain ⟨K', L', R', rt', ds', g', e'⟩ := hg'
        have hpj := pj_y hN1 hp hs' (fun r r' e h => ru_t_dep2 hbd htn h42 e h)
        have hpj1 : pj_is 74 (gr_sat N' K' L' R') (S_t S0 f kN vl oc sp bd bi cod (t + 1)) :=
          ⟨fun r hw h => S_s.mpr (hpj.1 r hw ((e' r).mp h)), fun r hw h => by obtain ⟨r', a, b, c⟩ := hpj.2 r hw (S_s.mp h); exact ⟨r', a, (e' r').mpr b, c⟩⟩
        refine br_f n1_0 (y_finite (by omega) g' (fun co' td2 c m1 m2 => ?_) (fun co' td2 hno => ?_))
        · refine br_f n1_0 (nm_r (nI_1 t) ?_)
          exact ih (t + 1) fu N' fo' sa' on' tw' co' td2 nu' K' L' R' rt' ds' (by omega) (by omega) (by omega) (by omega) g' hpj1 (Or.inr ⟨c, m1, m2⟩)
        · refine br_t rfl (hPf t N' fo' sa' on' tw' co' td2 nu' htn hsat (fun r hw h => ?_))
          obtain ⟨r', _, s', _⟩ := hpj1.2 r hw h
          exact hno r' s'
      · refine br_t rfl (br_t rfl (hPf t N' fo' sa' on' tw' co td' nu' htn hsat (fun r hw h => ?_)))
        obtain ⟨s1, s2⟩ := S_s.mp h
        obtain ⟨r0, w0, g0, e0⟩ := hp.2 r hw s1
        exact hno r0 w0 g0 (ru_t_dep2 hbd htn h42 e0 s2)
    by_cases z4 : kN t = 4
    · obtain ⟨g, g1, g2, g3, g4, g5⟩ := hfn t htn z4
      have cg : (vl t).toNatClampNeg = g := by rw [g2]; exact nI_clamp (by omega)
      by_cases own : g = f
      · refine y_rule (row := row) (n := n) (M := N + 14 * (oc t + 1)) (g := g) (P := oc t) (own := decide ((vl t).toNatClampNeg = f)) (Lc := cod (vl t).toNatClampNeg) (ts := []) (bi := bi) (w := vw bi bd (bi t) (bi t) (vl t).toNatClampNeg) hN1 (by omega) (fun _ z => ?_) (by omega) hrow n24 htn hf hb htr bw (fun t ht => (hbt t ht).2.1) (fun t ht => (hbt t ht).1) (fun t ht => (hbt t ht).2.2.1) (fun t ht => (hbt t ht).2.2.2.1) b5 (fun z => absurd z (by omega)) (fun _ => ⟨g1, g3, rfl, g2, ?_, fun _ => g4 own, fun z => ?_, fun z => ?_⟩) (yc_of hg) post'
        · rw [cg, decide_eq_true own] at z; exact absurd z (by decide)
        · rw [cg]; simp
        · rw [cg, decide_eq_true own] at z; exact absurd z (by decide)
        · rw [cg, decide_eq_true own] at z; exact absurd z (by decide)
      · obtain ⟨p1, ⟨ts, t1, t2, t3⟩, p3, p4, p5, p6⟩ := g5 own
        refine y_rule (row := row) (n := n) (M := N + 14 * (oc t + 1)) (g := g) (P := oc t) (own := decide ((vl t).toNatClampNeg = f)) (Lc := cod (vl t).toNatClampNeg) (ts := ts) (bi := bi) (w := vw bi bd (bi t) (bi t) (vl t).toNatClampNeg) hN1 (by omega) (fun _ _ => ?_) (by omega) hrow n24 htn hf hb htr bw (fun t ht => (hbt t ht).2.1) (fun t ht => (hbt t ht).1) (fun t ht => (hbt t ht).2.2.1) (fun t ht => (hbt t ht).2.2.2.1) b5 (fun z => absurd z (by omega)) (fun _ => ⟨g1, g3, rfl, g2, ?_, fun z => ?_, fun _ => p1, fun _ => ?_⟩) (yc_of hg) post'
        · rw [cg]; omega
        · rw [cg]; simp
        · rw [cg, decide_eq_false own] at z; exact absurd z (by decide)
        · rw [cg]; exact ⟨t1, t2, t3, by omega, p4, p5, p6⟩
    · refine y_rule (row := row) (n := n) (M := N + 14 * (oc t + 1)) (g := 0) (P := oc t) (own := decide ((vl t).toNatClampNeg = f)) (Lc := cod (vl t).toNatClampNeg) (ts := []) (bi := bi) (w := vw bi bd (bi t) (bi t) (vl t).toNatClampNeg) hN1 (by omega) (fun z => absurd z z4) (by omega) hrow n24 htn hf hb htr bw (fun t ht => (hbt t ht).2.1) (fun t ht => (hbt t ht).1) (fun t ht => (hbt t ht).2.2.1) (fun t ht => (hbt t ht).2.2.2.1) b5 (fun z => ?_) (fun z => absurd z z4) (yc_of hg) post'
      obtain ⟨v, v1, v2, v3, v4⟩ := b6 z
      have cv : (vl t).toNatClampNeg = v := by rw [v2]; exact nI_clamp (by omega)
      exact ⟨v, v1, v2, by rw [cv], by rw [cv]; exact v4⟩
end
section
variable {yf_place yf_points yf_names yf_textEnd yf_made yf_entry yf_waiting yf_values yf_bound yf_cells yf_conses yf_lams yf_steps yf_atWork yf_end yf_writtenCount : Int32} {ya_kind ya_up ya_turn ya_depth ya_value ya_below ya_length ya_parameters ya_codes ya_codeCount ya_form ya_colour ya_same ya_one ya_two ya_todo ya_numbered ya_text ya_ofFunction ya_codeEnd ya_instance ya_token ya_env ya_tag ya_cellEnv ya_boundNext ya_step ya_boundNumber ya_boundTag ya_headTag ya_tailTag ya_number ya_boundValue ya_head ya_tail ya_written : Nat → Int32}
/-- the nodes that have a number -/
def nb_ok (N : Nat) (vs : List Nat) (nu : Nat → Int32) : Prop := ∀ k, k < vs.length → 10 ≤ vs.getD k 0 ∧ vs.getD k 0 < 10 + N ∧ nu k = nI (vs.getD k 0 - 10)
theorem nb_new {N x : Nat} {vs : List Nat} {nu : Nat → Int32} (h : nb_ok N vs nu) (hx : x < N) : nb_ok N (vs ++ [10 + x]) (upd nu vs.length (nI x)) := by
  intro k hk
  rw [List.length_append] at hk
  simp only [List.length_cons, List.length_nil] at hk
  by_cases z : k = vs.length
  · subst z
    have e : (vs ++ [10 + x]).getD vs.length 0 = 10 + x := by
      have := gd_r [10 + x] 0 0 vs
      rw [Nat.zero_add] at this; rw [this]; rfl
    rw [e, pk_us]
    exact ⟨by omega, by omega, congrArg nI (by omega)⟩
  · have e : (vs ++ [10 + x]).getD k 0 = vs.getD k 0 := by
      simp [List.getD_eq_getElem?_getD, List.getElem?_append_left (show k < vs.length by omega)]
    rw [e, pk_un z]; exact h k (by omega)
theorem y_nameOf2 {post : Int32 → SY → Prop} {N x : Nat} {vs : List Nat} (hN : N ≤ 900) (hv : vs.length < 50) (hx : x < N) (hnb : nb_ok N vs ya_numbered)
    (hin : 10 + x ∈ vs → post (nI (cn_ix (10 + x) vs)) (yf_place, yf_points, (nI vs.length), yf_textEnd, yf_made, yf_entry, yf_waiting, yf_values, yf_bound, yf_cells, yf_conses, yf_lams, yf_steps, yf_atWork, yf_end, yf_writtenCount, ya_kind, ya_up, ya_turn, ya_depth, ya_value, ya_below, ya_length, ya_parameters, ya_codes, ya_codeCount, ya_form, ya_colour, ya_same, ya_one, ya_two, ya_todo, ya_numbered, ya_text, ya_ofFunction, ya_codeEnd, ya_instance, ya_token, ya_env, ya_tag, ya_cellEnv, ya_boundNext, ya_step, ya_boundNumber, ya_boundTag, ya_headTag, ya_tailTag, ya_number, ya_boundValue, ya_head, ya_tail, ya_written)) (hnew : ¬ 10 + x ∈ vs → post (nI vs.length) (yf_place, yf_points, (nI (vs.length + 1)), yf_textEnd, yf_made, yf_entry, yf_waiting, yf_values, yf_bound, yf_cells, yf_conses, yf_lams, yf_steps, yf_atWork, yf_end, yf_writtenCount, ya_kind, ya_up, ya_turn, ya_depth, ya_value, ya_below, ya_length, ya_parameters, ya_codes, ya_codeCount, ya_form, ya_colour, ya_same, ya_one, ya_two, ya_todo, (upd ya_numbered vs.length (nI x)), ya_text, ya_ofFunction, ya_codeEnd, ya_instance, ya_token, ya_env, ya_tag, ya_cellEnv, ya_boundNext, ya_step, ya_boundNumber, ya_boundTag, ya_headTag, ya_tailTag, ya_number, ya_boundValue, ya_head, ya_tail, ya_written)) :
    ∀ f i, i ≤ vs.length → vs.length < f + i → (∀ j, j < i → vs.getD j 0 ≠ 10 + x) → wY_nameOf_2 post (nI x) yf_place yf_points (nI vs.length) yf_textEnd yf_made yf_entry yf_waiting yf_values yf_bound yf_cells yf_conses yf_lams yf_steps yf_atWork yf_end yf_writtenCount ya_kind ya_up ya_turn ya_depth ya_value ya_below ya_length ya_parameters ya_codes ya_codeCount ya_form ya_colour ya_same ya_one ya_two ya_todo ya_numbered ya_text ya_ofFunction ya_codeEnd ya_instance ya_token ya_env ya_tag ya_cellEnv ya_boundNext ya_step ya_boundNumber ya_boundTag ya_headTag ya_tailTag ya_number ya_boundValue ya_head ya_tail ya_written f (nI i) := by
  intro f
  induction f with
  | zero => intro i h1 h2; omega
  | succ f ih =>
    intro i h1 h2 hj
    refine pk_le vs.length i (fun h => ?_) (fun h => And.intro (pk_in i 50 (by omega)) ?_)
    · have hn : ¬ 10 + x ∈ vs := by
        intro hm
        exact hj _ (by have := cn_ix_lt vs hm; omega) (cn_ix_get vs hm)
      exact And.intro (pk_in vs.length 50 hv) (nm_r (e' := upd ya_numbered vs.length (nI x)) (by rw [nI_clamp (by omega), nr_s (by omega)]) (nm_r (nI_1 _) (hnew hn)))
    · obtain ⟨n1, n2, n3⟩ := hnb i h
      rw [nI_clamp (by omega), n3]
      refine pk_eq (vs.getD i 0 - 10) x (fun e => ?_) (fun e => nm_r (nI_1 i) (ih (i + 1) (by omega) (by omega) (fun j hj' => ?_)))
      · have ev : vs.getD i 0 = 10 + x := by omega
        have hm : 10 + x ∈ vs := by rw [← ev]; exact gd_mem vs i h
        have ei : cn_ix (10 + x) vs = i := by
          have a := cn_ix_min vs i h ev
          rcases Nat.lt_or_ge (cn_ix (10 + x) vs) i with z | z
          · exact absurd (cn_ix_get vs hm) (hj _ z)
          · omega
        have := hin hm
        rw [ei] at this; exact this
      · by_cases z : j = i
        · subst z; omega
        · exact hj j (by omega)
theorem y_nameOf {post : Int32 → SY → Prop} {N x : Nat} {vs : List Nat} (hN : N ≤ 900) (hv : vs.length < 50) (hx : x < N) (hnb : nb_ok N vs ya_numbered)
    (hin : 10 + x ∈ vs → post (nI (cn_ix (10 + x) vs)) (yf_place, yf_points, (nI vs.length), yf_textEnd, yf_made, yf_entry, yf_waiting, yf_values, yf_bound, yf_cells, yf_conses, yf_lams, yf_steps, yf_atWork, yf_end, yf_writtenCount, ya_kind, ya_up, ya_turn, ya_depth, ya_value, ya_below, ya_length, ya_parameters, ya_codes, ya_codeCount, ya_form, ya_colour, ya_same, ya_one, ya_two, ya_todo, ya_numbered, ya_text, ya_ofFunction, ya_codeEnd, ya_instance, ya_token, ya_env, ya_tag, ya_cellEnv, ya_boundNext, ya_step, ya_boundNumber, ya_boundTag, ya_headTag, ya_tailTag, ya_number, ya_boundValue, ya_head, ya_tail, ya_written)) (hnew : ¬ 10 + x ∈ vs → post (nI vs.length) (yf_place, yf_points, (nI (vs.length + 1)), yf_textEnd, yf_made, yf_entry, yf_waiting, yf_values, yf_bound, yf_cells, yf_conses, yf_lams, yf_steps, yf_atWork, yf_end, yf_writtenCount, ya_kind, ya_up, ya_turn, ya_depth, ya_value, ya_below, ya_length, ya_parameters, ya_codes, ya_codeCount, ya_form, ya_colour, ya_same, ya_one, ya_two, ya_todo, (upd ya_numbered vs.length (nI x)), ya_text, ya_ofFunction, ya_codeEnd, ya_instance, ya_token, ya_env, ya_tag, ya_cellEnv, ya_boundNext, ya_step, ya_boundNumber, ya_boundTag, ya_headTag, ya_tailTag, ya_number, ya_boundValue, ya_head, ya_tail, ya_written)) :
    wpY_nameOf post (yf_place, yf_points, (nI vs.length), yf_textEnd, yf_made, yf_entry, yf_waiting, yf_values, yf_bound, yf_cells, yf_conses, yf_lams, yf_steps, yf_atWork, yf_end, yf_writtenCount, ya_kind, ya_up, ya_turn, ya_depth, ya_value, ya_below, ya_length, ya_parameters, ya_codes, ya_codeCount, ya_form, ya_colour, ya_same, ya_one, ya_two, ya_todo, ya_numbered, ya_text, ya_ofFunction, ya_codeEnd, ya_instance, ya_token, ya_env, ya_tag, ya_cellEnv, ya_boundNext, ya_step, ya_boundNumber, ya_boundTag, ya_headTag, ya_tailTag, ya_number, ya_boundValue, ya_head, ya_tail, ya_written) (nI x) := Exists.intro (vs.length + 1) (y_nameOf2 hN hv hx hnb hin hnew (vs.length + 1) 0 (by omega) (by omega) (fun j hj => by omega))
theorem y_wr16 {post : Int32 → SY → Prop} {N fr : Nat} {cl : Bool} {x2 : Int32} {K : Nat → Int32} {L R rt ds : Nat → Nat} {c : Nat → mt_T} {OUT VS : List Nat} (hN : N ≤ 900) (hfr : fr ≤ 30) (hx2 : x2 = if cl then 0 else 1) (hO2 : ∀ k, k < OUT.length → OUT.getD k 0 < 100)
    (hg : yg_ok N ya_form ya_same ya_one ya_two K L R rt ds) (hc : ∀ n, n < N → c n = c (rt n)) (hcr : ∀ n, n < N → K n ≠ 5 → (K n = 10 → c n = .leaf (10 + n)) ∧ (K n ≠ 10 → c n = gr_at K L R c n))
    (hP1 : ∀ nm td nu tx, OUT.length ≤ 14 → (cl = false → nm = nI VS.length ∧ nb_ok N VS nu) → (cl = true → nm = yf_names ∧ nu = ya_numbered) → (∀ i, i < OUT.length → tx (fr + i) = nI (OUT.getD i 0)) → (∀ i, i < fr → tx i = ya_text i) →
      post 1 (yf_place, yf_points, nm, (nI (fr + OUT.length)), yf_made, yf_entry, yf_waiting, yf_values, yf_bound, yf_cells, yf_conses, yf_lams, yf_steps, yf_atWork, yf_end, yf_writtenCount, ya_kind, ya_up, ya_turn, ya_depth, ya_value, ya_below, ya_length, ya_parameters, ya_codes, ya_codeCount, ya_form, ya_colour, ya_same, ya_one, ya_two, td, nu, tx, ya_ofFunction, ya_codeEnd, ya_instance, ya_token, ya_env, ya_tag, ya_cellEnv, ya_boundNext, ya_step, ya_boundNumber, ya_boundTag, ya_headTag, ya_tailTag, ya_number, ya_boundValue, ya_head, ya_tail, ya_written))
    (hP0 : ∀ nm td nu tx, 14 < OUT.length → post 0 (yf_place, yf_points, nm, (nI (fr + 15)), yf_made, yf_entry, yf_waiting, yf_values, yf_bound, yf_cells, yf_conses, yf_lams, yf_steps, yf_atWork, yf_end, yf_writtenCount, ya_kind, ya_up, ya_turn, ya_depth, ya_value, ya_below, ya_length, ya_parameters, ya_codes, ya_codeCount, ya_form, ya_colour, ya_same, ya_one, ya_two, td, nu, tx, ya_ofFunction, ya_codeEnd, ya_instance, ya_token, ya_env, ya_tag, ya_cellEnv, ya_boundNext, ya_step, ya_boundNumber, ya_boundTag, ya_headTag, ya_tailTag, ya_number, ya_boundValue, ya_head, ya_tail, ya_written)) :
    ∀ q fu k h st vs nm td nu tx, k + q = 15 → q < fu → OUT.drop k = wr_f cl vs (mt_encs (st.map c)) → k ≤ OUT.length → sk_ok N h td st → h ≤ k + 1 → (cl = false → nm = nI vs.length ∧ nb_ok N vs nu) → (cl = true → nm = yf_names ∧ nu = ya_numbered) → (cl = false → cn_seen vs (mt_encs (st.map c)) = VS) → vs.length ≤ 28 + k →
      (∀ i, i < k → tx (fr + i) = nI (OUT.getD i 0)) → (∀ i, i < fr → tx i = ya_text i) →
      wY_write_16 post x2 (nI fr) fu (nI h) yf_place yf_points nm (nI (fr + k)) yf_made yf_entry yf_waiting yf_values yf_bound yf_cells yf_conses yf_lams yf_steps yf_atWork yf_end yf_writtenCount ya_kind ya_up ya_turn ya_depth ya_value ya_below ya_length ya_parameters ya_codes ya_codeCount ya_form ya_colour ya_same ya_one ya_two td nu tx ya_ofFunction ya_codeEnd ya_instance ya_token ya_env ya_tag ya_cellEnv ya_boundNext ya_step ya_boundNumber ya_boundTag ya_headTag ya_tailTag ya_number ya_boundValue ya_head ya_tail ya_written := by
  have esub : ∀ k, nI (fr + k) - nI fr = nI k := fun k => by rw [pk_sub (by omega)]; exact congrArg nI (by omega)
  have olen : ∀ k vs (st : List Nat), OUT.drop k = wr_f cl vs (mt_encs (st.map c)) → OUT.length - k = (mt_encs (st.map c)).length := by
    intro k vs st h
    have e := congrArg List.length h
    have el : (wr_f cl vs (mt_encs (st.map c))).length = (mt_encs (st.map c)).length := by
      unfold wr_f
      cases cl
      · rw [if_neg (by decide), cn_go_map, List.length_map]
      · rw [if_pos rfl, cl_0, List.length_map]
    rw [List.length_drop, el] at e; exact e
  -- the stack is empty
  have emp : ∀ k h vs nm td nu tx, k ≤ 15 → OUT.drop k = wr_f cl vs (mt_encs (([] : List Nat).map c)) → k ≤ OUT.length → (cl = false → nm = nI vs.length ∧ nb_ok N vs nu) → (cl = true → nm = yf_names ∧ nu = ya_numbered) → (cl = false → cn_seen vs (mt_encs (([] : List Nat).map c)) = VS) → h = 0 →
      (∀ i, i < k → tx (fr + i) = nI (OUT.getD i 0)) → (∀ i, i < fr → tx i = ya_text i) → wY_write_158 post (nI fr) yf_place yf_points nm (nI (fr + k)) yf_made yf_entry yf_waiting yf_values yf_bound yf_cells yf_conses yf_lams yf_steps yf_atWork yf_end yf_writtenCount ya_kind ya_up ya_turn ya_depth ya_value ya_below ya_length ya_parameters ya_codes ya_codeCount ya_form ya_colour ya_same ya_one ya_two td nu tx ya_ofFunction ya_codeEnd ya_instance ya_token ya_env ya_tag ya_cellEnv ya_boundNext ya_step ya_boundNumber ya_boundTag ya_headTag ya_tailTag ya_number ya_boundValue ya_head ya_tail ya_written := by
    intro k h vs nm td nu tx hk hdr hkO h1 h2 h3 _ h4 h5
    have ek : k = OUT.length := by have := olen k vs [] hdr; simp only [List.map_nil, mt_encs, List.length_nil] at this; omega
    unfold wY_write_158
    rw [esub]
    refine pk_le 15 k (fun z => ?_) (fun z => ?_)
    · have : fr + k = fr + 15 := by omega
      rw [this]; exact hP0 nm td nu tx (by omega)
    · rw [ek]
      refine hP1 nm td nu tx (by omega) (fun z => ?_) h2 (fun i hi => h4 i (by omega)) h5
      have e := h3 z
      simp only [List.map_nil, mt_encs, cn_seen] at e
      rw [← e]; exact h1 z
  intro q
  induction q with
  | zero =>
    intro fu k h st vs nm td nu tx hq hfu hdr hk hs hh hn1 hn2 hvs hvl ht1 ht2
    obtain ⟨fu, rfl⟩ : ∃ g, fu = g + 1 := ⟨fu - 1, by omega⟩
    have k15 : k = 15 := by omega
    subst k15
    have fin : wY_write_158 post (nI fr) yf_place yf_points nm (nI (fr + 15)) yf_made yf_entry yf_waiting yf_values yf_bound yf_cells yf_conses yf_lams yf_steps yf_atWork yf_end yf_writtenCount ya_kind ya_up ya_turn ya_depth ya_value ya_below ya_length ya_parameters ya_codes ya_codeCount ya_form ya_colour ya_same ya_one ya_two td nu tx ya_ofFunction ya_codeEnd ya_instance ya_token ya_env ya_tag ya_cellEnv ya_boundNext ya_step ya_boundNumber ya_boundTag ya_headTag ya_tailTag ya_number ya_boundValue ya_head ya_tail ya_written := by
      unfold wY_write_158
      rw [esub]
      exact br_t (by decide) (hP0 nm td nu tx (by omega))
    refine br_c (fun _ => fin) (fun _ => ?_)
    rw [esub]
    exact br_t (by decide) fin
  | succ q ih =>
    intro fu k h st vs nm td nu tx hq hfu hdr hk hs hh hn1 hn2 hvs hvl ht1 ht2
    obtain ⟨fu, rfl⟩ : ∃ g, fu = g + 1 := ⟨fu - 1, by omega⟩
    cases st with
    | nil =>
      have h0 : h = 0 := hs.1.symm
      subst h0
      exact br_t (by decide) (emp k 0 vs nm td nu tx (by omega) hdr hk hn1 hn2 hvs rfl ht1 ht2)
    | cons n0 st =>
      obtain ⟨h, rfl⟩ : ∃ g, h = g + 1 := ⟨h - 1, by have := hs.1; simp only [List.length_cons] at this; omega⟩
      obtain ⟨s1, s2, s3⟩ := sk_pop hs
      obtain ⟨x1, x2', _, _, _⟩ := hg.2 n0 s2
      have hcn := hc n0 s2
      have hdr' : OUT.drop k = wr_f cl vs (mt_enc (c (rt n0)) ++ mt_encs (st.map c)) := by rw [hdr, List.map_cons, mt_encs, hcn]
      have hvs' : cl = false → cn_seen vs (mt_enc (c (rt n0)) ++ mt_encs (st.map c)) = VS := fun z => by have := hvs z; rw [List.map_cons, mt_encs, hcn] at this; exact this
      refine br_f (nI_nle (by omega) (by omega)) ?_
      rw [esub]
      refine br_f (nI_ge (b := 15) (by omega) (by omega)) (nm_r (pk_m1 h) (And.intro (pk_in h 1500 (by omega)) ?_))
      rw [nI_clamp (n := h) (by omega), s1]
      refine y_find hN hg s2 ?_
      obtain ⟨kd, _, _, kv, kc, kl, kr, _⟩ := hg.1 (rt n0) x1
      obtain ⟨cv, cc⟩ := hcr (rt n0) x1 x2'
      generalize rt n0 = x at *
      have cx : (nI x).toNatClampNeg = x := nI_clamp (by omega)
      refine And.intro (pk_in x 900 (by omega)) (nm_r (e' := ya_form x) (by rw [cx]) ?_)
      -- a code is written, what is below the node is pushed
      have tail : ∀ (code : Nat) (vs1 : List Nat) (nm1 : Int32) (nu1 : Nat → Int32) (st1 : List Nat), OUT.getD k 0 = code → OUT.drop (k + 1) = wr_f cl vs1 (mt_encs (st1.map c)) → k < OUT.length → (cl = false → nm1 = nI vs1.length ∧ nb_ok N vs1 nu1) → (cl = true → nm1 = yf_names ∧ nu1 = ya_numbered) →
          (cl = false → cn_seen vs1 (mt_encs (st1.map c)) = VS) → vs1.length ≤ 28 + (k + 1) → code < 100 →
          (((code = 2 ∨ code = 4) ∧ gr_rg (K x) ∧ st1 = L x :: R x :: st) ∨ (code = 3 ∧ gr_lf (K x) ∧ st1 = L x :: st) ∨ ((code ≤ 1 ∨ 5 ≤ code) ∧ st1 = st)) →
          wY_write_80 post (wY_write_16 post x2 (nI fr) fu) x2 (nI h) (nI fr) (nI x) (nI code) yf_place yf_points nm1 (nI (fr + k)) yf_made yf_entry yf_waiting yf_values yf_bound yf_cells yf_conses yf_lams yf_steps yf_atWork yf_end yf_writtenCount ya_kind ya_up ya_turn ya_depth ya_value ya_below ya_length ya_parameters ya_codes ya_codeCount ya_form ya_colour ya_same ya_one ya_two td nu1 tx ya_ofFunction ya_codeEnd ya_instance ya_token ya_env ya_tag ya_cellEnv ya_boundNext ya_step ya_boundNumber ya_boundTag ya_headTag ya_tailTag ya_number ya_boundValue ya_head ya_tail ya_written := by
        intro code vs1 nm1 nu1 st1 f1 f2 f3 f4 f5 f6 f7 f8 f9
        have next : ∀ (h1 : Nat) (td1 : Nat → Int32), sk_ok N h1 td1 st1 → h1 ≤ k + 1 + 1 →
            wY_write_16 post x2 (nI fr) fu (nI h1) yf_place yf_points nm1 (nI (fr + (k + 1))) yf_made yf_entry yf_waiting yf_values yf_bound yf_cells yf_conses yf_lams yf_steps yf_atWork yf_end yf_writtenCount ya_kind ya_up ya_turn ya_depth ya_value ya_below ya_length ya_parameters ya_codes ya_codeCount ya_form ya_colour ya_same ya_one ya_two td1 nu1 (upd tx (fr + k) (nI code)) ya_ofFunction ya_codeEnd ya_instance ya_token ya_env ya_tag ya_cellEnv ya_boundNext ya_step ya_boundNumber ya_boundTag ya_headTag ya_tailTag ya_number ya_boundValue ya_head ya_tail ya_written := by
          intro h1 td1 k1 k2
          refine ih fu (k + 1) h1 st1 vs1 nm1 td1 nu1 _ (by omega) (by omega) f2 (by omega) k1 k2 f4 f5 f6 f7 (fun i hi => ?_) (fun i hi => ?_)
          · by_cases z : i = k
            · subst z; rw [pk_us, f1]
            · rw [pk_un (by omega)]; exact ht1 i (by omega)
          · rw [pk_un (by omega)]; exact ht2 i hi
        refine nm_r (e' := nI (fr + (k + 1))) (nI_1 (fr + k)) (And.intro (pk_in (fr + k) 50 (by omega)) (nm_r (e' := upd tx (fr + k) (nI code)) (by rw [nI_clamp (by omega), nr_b (by omega)]) ?_))
        rcases f9 with ⟨c24, hr, e⟩ | ⟨c3, hl, e⟩ | ⟨c01, e⟩
        · obtain ⟨l1, l2⟩ := kl (Or.inr hr)
          obtain ⟨r1, r2⟩ := kr hr
          subst e
          have go : wY_write_111 post (wY_write_16 post x2 (nI fr) fu) x2 (nI h) (nI fr) (nI x) (nI code) yf_place yf_points nm1 (nI (fr + (k + 1))) yf_made yf_entry yf_waiting yf_values yf_bound yf_cells yf_conses yf_lams yf_steps yf_atWork yf_end yf_writtenCount ya_kind ya_up ya_turn ya_depth ya_value ya_below ya_length ya_parameters ya_codes ya_codeCount ya_form ya_colour ya_same ya_one ya_two td nu1 (upd tx (fr + k) (nI code)) ya_ofFunction ya_codeEnd ya_instance ya_token ya_env ya_tag ya_cellEnv ya_boundNext ya_step ya_boundNumber ya_boundTag ya_headTag ya_tailTag ya_number ya_boundValue ya_head ya_tail ya_written := by
            refine nm_r (nI_1 h) (And.intro (pk_in x 900 (by omega)) (And.intro (pk_in h 1500 (by omega)) (nm_r (e' := upd td h (nI (R x))) (by rw [nI_clamp (n := h) (by omega), cx, r1, nr_s0 (by omega)]) ?_)))
            refine br_f (nI_ge (b := code) (a := 1) (by omega) (by omega)) (br_f (nI_ge (b := 5) (by omega) (by omega)) (nm_r (nI_1 (h + 1)) (And.intro (pk_in x 900 (by omega)) (And.intro (pk_in (h + 1) 1500 (by omega)) (nm_r (e' := upd (upd td h (nI (R x))) (h + 1) (nI (L x))) (by rw [nI_clamp (n := h + 1) (by omega), cx, l1, nr_s0 (by omega)]) ?_)))))
            exact next (h + 1 + 1) _ (sk_push (sk_push s3 r2) l2) (by omega)
          exact pk_eq code 2 (fun _ => go) (fun z => pk_eq code 4 (fun _ => go) (fun z2 => by omega))
        · obtain ⟨l1, l2⟩ := kl hl
          subst e
          refine pk_eq code 2 (fun z => by omega) (fun _ => pk_eq code 4 (fun z => by omega) (fun _ => ?_))
          refine br_f (nI_ge (b := code) (a := 1) (by omega) (by omega)) (br_f (nI_ge (b := 5) (by omega) (by omega)) (nm_r (nI_1 h) (And.intro (pk_in x 900 (by omega)) (And.intro (pk_in h 1500 (by omega)) (nm_r (e' := upd td h (nI (L x))) (by rw [nI_clamp (n := h) (by omega), cx, l1, nr_s0 (by omega)]) ?_)))))
          exact next (h + 1) _ (sk_push s3 l2) (by omega)
        · subst e
          refine pk_eq code 2 (fun z => by omega) (fun _ => pk_eq code 4 (fun z => by omega) (fun _ => ?_))
          exact pk_le code 1 (fun _ => next h td s3 (by omega)) (fun z => pk_le 5 code (fun _ => next h td s3 (by omega)) (fun z2 => by omega))
      by_cases v10 : K x = 10
      · have ec := cv v10
        rw [ec] at hdr' hvs'
        simp only [mt_enc, List.cons_append, List.nil_append] at hdr' hvs'
        have n10 : ¬ 10 + x < 10 := by omega
        refine br_f (by rw [kv v10]; decide) ?_
        cases cl with
        | true =>
          subst hx2
          have e : wr_f true vs ((10 + x) :: mt_encs (st.map c)) = 0 :: wr_f true vs (mt_encs (st.map c)) := by
            simp only [wr_f, if_true, cl_0, List.map_cons, mt_rn, if_neg n10]
          rw [e] at hdr'
          obtain ⟨d1, d2, d3⟩ := dr_s hdr'
          exact br_t rfl (tail 0 vs nm nu st d1 d2 d3 hn1 hn2 (fun z => absurd z (by decide)) (by omega) (by omega) (Or.inr (Or.inr ⟨Or.inl (by omega), rfl⟩)))
        | false =>
          subst hx2
          obtain ⟨m1, m2⟩ := hn1 rfl
          subst m1
          refine br_f (by decide) (y_nameOf hN (by omega) x1 m2 (fun hm => ?_) (fun hm => ?_))
          · have e : wr_f false vs ((10 + x) :: mt_encs (st.map c)) = (10 + cn_ix (10 + x) vs) :: wr_f false vs (mt_encs (st.map c)) := by
              simp only [wr_f, cn_go, if_neg n10, if_pos hm]; rfl
            rw [e] at hdr'
            obtain ⟨d1, d2, d3⟩ := dr_s hdr'
            have hix := cn_ix_lt vs hm
            have hv2 := hvs' rfl
            simp only [cn_seen, if_neg n10, if_pos hm] at hv2
            have e10 : (10 : Int32) + nI (cn_ix (10 + x) vs) = nI (10 + cn_ix (10 + x) vs) := nI_add 10 _
            have := tail (10 + cn_ix (10 + x) vs) vs (nI vs.length) nu st d1 d2 d3 (fun _ => ⟨rfl, m2⟩) (fun z => absurd z (by decide)) (fun _ => hv2) (by omega) (by omega) (Or.inr (Or.inr ⟨Or.inr (by omega), rfl⟩))
            rw [← e10] at this
            exact this
          · have e : wr_f false vs ((10 + x) :: mt_encs (st.map c)) = (10 + vs.length) :: wr_f false (vs ++ [10 + x]) (mt_encs (st.map c)) := by
              simp only [wr_f, cn_go, if_neg n10, if_neg hm]; rfl
            rw [e] at hdr'
            obtain ⟨d1, d2, d3⟩ := dr_s hdr'
            have hvl2 : (vs ++ [10 + x]).length = vs.length + 1 := by simp
            have hv2 := hvs' rfl
            simp only [cn_seen, if_neg n10, if_neg hm] at hv2
            have e10 : (10 : Int32) + nI vs.length = nI (10 + vs.length) := nI_add 10 _
            have := tail (10 + vs.length) (vs ++ [10 + x]) (nI (vs.length + 1)) (upd nu vs.length (nI x)) st d1 d2 d3 (fun _ => ⟨by rw [hvl2], nb_new m2 x1⟩) (fun z => absurd z (by decide)) (fun _ => hv2) (by rw [hvl2]; omega) (by omega) (Or.inr (Or.inr ⟨Or.inr (by omega), rfl⟩))
            rw [← e10] at this
            exact this
      · have ec := cc v10
        have cnx := kd_cn kd x2' v10
        have fx := kc x2' v10
        have wrc : ∀ (d : Nat) (cs : List Nat), d < 10 → wr_f cl vs (d :: cs) = d :: wr_f cl vs cs := by
          intro d cs hd
          unfold wr_f
          cases cl
          · simp only [cn_go, if_pos hd]; rfl
          · simp only [cl_0, if_true, List.map_cons, mt_rn, if_pos hd]
        have go : ∀ (d : Nat) (st1 : List Nat), K x = nI d → d < 10 → mt_enc (c x) ++ mt_encs (st.map c) = d :: mt_encs (st1.map c) →
            (((d = 2 ∨ d = 4) ∧ gr_rg (K x) ∧ st1 = L x :: R x :: st) ∨ (d = 3 ∧ gr_lf (K x) ∧ st1 = L x :: st) ∨ ((d ≤ 1 ∨ 5 ≤ d) ∧ st1 = st)) →
            wY_write_80 post (wY_write_16 post x2 (nI fr) fu) x2 (nI h) (nI fr) (nI x) (ya_form x) yf_place yf_points nm (nI (fr + k)) yf_made yf_entry yf_waiting yf_values yf_bound yf_cells yf_conses yf_lams yf_steps yf_atWork yf_end yf_writtenCount ya_kind ya_up ya_turn ya_depth ya_value ya_below ya_length ya_parameters ya_codes ya_codeCount ya_form ya_colour ya_same ya_one ya_two td nu tx ya_ofFunction ya_codeEnd ya_instance ya_token ya_env ya_tag ya_cellEnv ya_boundNext ya_step ya_boundNumber ya_boundTag ya_headTag ya_tailTag ya_number ya_boundValue ya_head ya_tail ya_written := by
          intro d st1 hkd hd he hst1
          rw [he, wrc d _ hd] at hdr'
          obtain ⟨d1, d2, d3⟩ := dr_s hdr'
          rw [fx, hkd]
          refine tail d vs nm nu st1 d1 d2 d3 hn1 hn2 (fun z => ?_) (by omega) (by omega) hst1
          have := hvs' z
          rw [he] at this
          simp only [cn_seen, if_pos hd] at this
          exact this
        refine br_t (by rw [fx]; exact cn_0 cnx) ?_
        rcases cnx with z | z | z | z | z
        · exact go 0 st z (by omega) (by rw [ec, gr_at_0 z]; rfl) (Or.inr (Or.inr ⟨by omega, rfl⟩))
        · exact go 1 st z (by omega) (by rw [ec, gr_at_1 z]; rfl) (Or.inr (Or.inr ⟨by omega, rfl⟩))
        · refine go 2 (L x :: R x :: st) z (by omega) ?_ (Or.inl ⟨by omega, Or.inl z, rfl⟩)
          rw [ec, gr_at_2 z]
          simp only [mt_enc, if_neg (show ¬ (2 : Nat) = 3 by omega), List.map_cons, mt_encs, List.cons_append, List.append_assoc]
        · refine go 3 (L x :: st) z (by omega) ?_ (Or.inr (Or.inl ⟨rfl, Or.inl z, rfl⟩))
          rw [ec, gr_at_3 z]
          simp only [mt_enc, if_true, List.append_nil, List.map_cons, mt_encs, List.cons_append]
        · refine go 4 (L x :: R x :: st) z (by omega) ?_ (Or.inl ⟨by omega, Or.inr z, rfl⟩)
          rw [ec, gr_at_4 z]
          simp only [mt_enc, if_neg (show ¬ (4 : Nat) = 3 by omega), List.map_cons, mt_encs, List.cons_append, List.append_assoc]
end
section
variable {yf_place yf_points yf_names yf_textEnd yf_made yf_entry yf_waiting yf_values yf_bound yf_cells yf_conses yf_lams yf_steps yf_atWork yf_end yf_writtenCount : Int32} {ya_kind ya_up ya_turn ya_depth ya_value ya_below ya_length ya_parameters ya_codes ya_codeCount ya_form ya_colour ya_same ya_one ya_two ya_todo ya_numbered ya_text ya_ofFunction ya_codeEnd ya_instance ya_token ya_env ya_tag ya_cellEnv ya_boundNext ya_step ya_boundNumber ya_boundTag ya_headTag ya_tailTag ya_number ya_boundValue ya_head ya_tail ya_written : Nat → Int32}
/-- what Y's solved points are while types are written -/
def yw_ok (N : Nat) (fo sa on tw : Nat → Int32) (K : Nat → Int32) (L R rt ds : Nat → Nat) (c : Nat → mt_T) : Prop :=
  yg_ok N fo sa on tw K L R rt ds ∧ (∀ n, n < N → c n = c (rt n)) ∧ (∀ n, n < N → K n ≠ 5 → (K n = 10 → c n = .leaf (10 + n)) ∧ (K n ≠ 10 → c n = gr_at K L R c n))
theorem yw_of {N : Nat} {fo sa on tw K : Nat → Int32} {L R rt ds : Nat → Nat} {c : Nat → mt_T} (hg : yg_ok N fo sa on tw K L R rt ds) (hm : mg_is N (gr_sat N K L R) c) (hv : ∀ n, n < N → K n = 10 → c n = .leaf (10 + n)) : yw_ok N fo sa on tw K L R rt ds c :=
  ⟨hg, fun n hn => fo_eq hg.2 (mg_self hm) _ n hn rfl, fun n hn _ => ⟨hv n hn, fun _ => mg_self hm n hn⟩⟩
theorem y_write {post : Int32 → SY → Prop} {N fr p : Nat} {cl : Bool} {x2 nm0 : Int32} {K : Nat → Int32} {L R rt ds : Nat → Nat} {c : Nat → mt_T} {vs0 : List Nat} (hN : N ≤ 900) (hfr : fr ≤ 30) (hp : p < N) (hx2 : x2 = if cl then 0 else 1) (hvl : vs0.length ≤ 28)
    (hg : yw_ok N ya_form ya_same ya_one ya_two K L R rt ds c) (hnm : cl = false → nm0 = nI vs0.length ∧ nb_ok N vs0 ya_numbered) (hO : ∀ k, k < (wr_f cl vs0 (mt_enc (c p))).length → (wr_f cl vs0 (mt_enc (c p))).getD k 0 < 100)
    (hP1 : ∀ nm td nu tx, (mt_enc (c p)).length ≤ 14 → (cl = false → nm = nI (cn_seen vs0 (mt_enc (c p))).length ∧ nb_ok N (cn_seen vs0 (mt_enc (c p))) nu) → (cl = true → nm = nm0 ∧ nu = ya_numbered) → (∀ i, i < (mt_enc (c p)).length → tx (fr + i) = nI ((wr_f cl vs0 (mt_enc (c p))).getD i 0)) → (∀ i, i < fr → tx i = ya_text i) →
      post 1 (yf_place, yf_points, nm, (nI (fr + (mt_enc (c p)).length)), yf_made, yf_entry, yf_waiting, yf_values, yf_bound, yf_cells, yf_conses, yf_lams, yf_steps, yf_atWork, yf_end, yf_writtenCount, ya_kind, ya_up, ya_turn, ya_depth, ya_value, ya_below, ya_length, ya_parameters, ya_codes, ya_codeCount, ya_form, ya_colour, ya_same, ya_one, ya_two, td, nu, tx, ya_ofFunction, ya_codeEnd, ya_instance, ya_token, ya_env, ya_tag, ya_cellEnv, ya_boundNext, ya_step, ya_boundNumber, ya_boundTag, ya_headTag, ya_tailTag, ya_number, ya_boundValue, ya_head, ya_tail, ya_written))
    (hP0 : ∀ nm td nu tx, 14 < (mt_enc (c p)).length → post 0 (yf_place, yf_points, nm, (nI (fr + 15)), yf_made, yf_entry, yf_waiting, yf_values, yf_bound, yf_cells, yf_conses, yf_lams, yf_steps, yf_atWork, yf_end, yf_writtenCount, ya_kind, ya_up, ya_turn, ya_depth, ya_value, ya_below, ya_length, ya_parameters, ya_codes, ya_codeCount, ya_form, ya_colour, ya_same, ya_one, ya_two, td, nu, tx, ya_ofFunction, ya_codeEnd, ya_instance, ya_token, ya_env, ya_tag, ya_cellEnv, ya_boundNext, ya_step, ya_boundNumber, ya_boundTag, ya_headTag, ya_tailTag, ya_number, ya_boundValue, ya_head, ya_tail, ya_written)) : wpY_write post (yf_place, yf_points, nm0, (nI fr), yf_made, yf_entry, yf_waiting, yf_values, yf_bound, yf_cells, yf_conses, yf_lams, yf_steps, yf_atWork, yf_end, yf_writtenCount, ya_kind, ya_up, ya_turn, ya_depth, ya_value, ya_below, ya_length, ya_parameters, ya_codes, ya_codeCount, ya_form, ya_colour, ya_same, ya_one, ya_two, ya_todo, ya_numbered, ya_text, ya_ofFunction, ya_codeEnd, ya_instance, ya_token, ya_env, ya_tag, ya_cellEnv, ya_boundNext, ya_step, ya_boundNumber, ya_boundTag, ya_headTag, ya_tailTag, ya_number, ya_boundValue, ya_head, ya_tail, ya_written) (nI p) x2 := by
  have hlen : (wr_f cl vs0 (mt_enc (c p))).length = (mt_enc (c p)).length := by
    unfold wr_f
    cases cl
    · rw [if_neg (by decide), cn_go_map, List.length_map]
    · rw [if_pos rfl, cl_0, List.length_map]
  have e1 : mt_encs ([p].map c) = mt_enc (c p) := by simp [mt_encs]
  refine nm_r (e' := upd ya_todo 0 (nI p)) (by rw [nr_s (by omega)]) (Exists.intro 17 ?_)
  refine y_wr16 (cl := cl) (c := c) (OUT := wr_f cl vs0 (mt_enc (c p))) (VS := cn_seen vs0 (mt_enc (c p))) hN hfr hx2 hO hg.1 hg.2.1 hg.2.2 (fun nm td nu tx q1 q2 q3 q4 q5 => ?_) (fun nm td nu tx q1 => hP0 nm td nu tx (by rw [hlen] at q1; exact q1)) 15 17 0 1 [p] vs0 nm0 _ _ _ (by omega) (by omega) (by rw [e1]; rfl) (by omega) ⟨rfl, fun n hn => by simp at hn; rw [hn]; exact hp, fun i hi => ?_⟩ (by omega) hnm (fun _ => ⟨rfl, rfl⟩) (fun _ => by rw [e1]) (by omega) (fun i hi => by omega) (fun i _ => rfl)
  · rw [hlen] at q1 q4 ⊢
    exact hP1 nm td nu tx q1 q2 q3 q4 q5
  · have : i = 0 := by omega
    subst this; rw [pk_us]; rfl
/-- the points that Y looks at: those of the tokens, of their variables, of the parameters -/
def yl_in (n P p : Nat) : Prop := (p < 24 ∧ p < n) ∨ (24 ≤ p ∧ p < 72 ∧ (p - 24) / 2 < n) ∨ (72 ≤ p ∧ p - 72 < P)
theorem y_large2 {post : Int32 → SY → Prop} {N row n P : Nat} {K : Nat → Int32} {L R rt ds : Nat → Nat} {c : Nat → mt_T} (h74 : 74 ≤ N) (hN : N ≤ 900) (hrow : row ≤ 10) (hn : n ≤ 24) (hP2 : P ≤ 2) (hl : ya_length row = nI n) (hpa : ya_parameters row = nI P)
    (hg : yw_ok N ya_form ya_same ya_one ya_two K L R rt ds c) (hcw : ∀ n, n < N → mt_wf (c n))
    (h1 : ∀ te nm td nu tx, (∃ p, p < 74 ∧ 14 < (mt_enc (c p)).length) → post 1 (yf_place, yf_points, nm, te, yf_made, yf_entry, yf_waiting, yf_values, yf_bound, yf_cells, yf_conses, yf_lams, yf_steps, yf_atWork, yf_end, yf_writtenCount, ya_kind, ya_up, ya_turn, ya_depth, ya_value, ya_below, ya_length, ya_parameters, ya_codes, ya_codeCount, ya_form, ya_colour, ya_same, ya_one, ya_two, td, nu, tx, ya_ofFunction, ya_codeEnd, ya_instance, ya_token, ya_env, ya_tag, ya_cellEnv, ya_boundNext, ya_step, ya_boundNumber, ya_boundTag, ya_headTag, ya_tailTag, ya_number, ya_boundValue, ya_head, ya_tail, ya_written))
    (h0 : ∀ te nm td nu tx, (∀ p, p < 74 → yl_in n P p → (mt_enc (c p)).length ≤ 14) → post 0 (yf_place, yf_points, nm, te, yf_made, yf_entry, yf_waiting, yf_values, yf_bound, yf_cells, yf_conses, yf_lams, yf_steps, yf_atWork, yf_end, yf_writtenCount, ya_kind, ya_up, ya_turn, ya_depth, ya_value, ya_below, ya_length, ya_parameters, ya_codes, ya_codeCount, ya_form, ya_colour, ya_same, ya_one, ya_two, td, nu, tx, ya_ofFunction, ya_codeEnd, ya_instance, ya_token, ya_env, ya_tag, ya_cellEnv, ya_boundNext, ya_step, ya_boundNumber, ya_boundTag, ya_headTag, ya_tailTag, ya_number, ya_boundValue, ya_head, ya_tail, ya_written)) :
    ∀ f p te nm td nu tx, p ≤ 74 → 74 < f + p → (∀ q, q < p → yl_in n P q → (mt_enc (c q)).length ≤ 14) → wY_isLarge_2 post (nI row) f (nI p) yf_place yf_points nm te yf_made yf_entry yf_waiting yf_values yf_bound yf_cells yf_conses yf_lams yf_steps yf_atWork yf_end yf_writtenCount ya_kind ya_up ya_turn ya_depth ya_value ya_below ya_length ya_parameters ya_codes ya_codeCount ya_form ya_colour ya_same ya_one ya_two td nu tx ya_ofFunction ya_codeEnd ya_instance ya_token ya_env ya_tag ya_cellEnv ya_boundNext ya_step ya_boundNumber ya_boundTag ya_headTag ya_tailTag ya_number ya_boundValue ya_head ya_tail ya_written := by
  intro f
  induction f with
  | zero => intro p te nm td nu tx h1 h2; omega
  | succ f ih =>
    intro p te nm td nu tx hp hf hq
    have crow : (nI row).toNatClampNeg = row := nI_clamp (by omega)
    refine pk_le 74 p (fun h => h0 te nm td nu tx (fun q hq1 hq2 => hq q (by omega) hq2)) (fun h => ?_)
    have out : ¬ yl_in n P p → wY_isLarge_67 post (wY_isLarge_2 post (nI row) f) (nI row) (nI p) 0 yf_place yf_points nm te yf_made yf_entry yf_waiting yf_values yf_bound yf_cells yf_conses yf_lams yf_steps yf_atWork yf_end yf_writtenCount ya_kind ya_up ya_turn ya_depth ya_value ya_below ya_length ya_parameters ya_codes ya_codeCount ya_form ya_colour ya_same ya_one ya_two td nu tx ya_ofFunction ya_codeEnd ya_instance ya_token ya_env ya_tag ya_cellEnv ya_boundNext ya_step ya_boundNumber ya_boundTag ya_headTag ya_tailTag ya_number ya_boundValue ya_head ya_tail ya_written := by
      intro hni
      refine br_t rfl (nm_r (nI_1 p) (ih (p + 1) 0 nm td nu tx (by omega) (by omega) (fun q hq1 hq2 => ?_)))
      by_cases z : q = p
      · subst z; exact absurd hq2 hni
      · exact hq q (by omega) hq2
    have inn : yl_in n P p → wY_isLarge_67 post (wY_isLarge_2 post (nI row) f) (nI row) (nI p) 1 yf_place yf_points nm te yf_made yf_entry yf_waiting yf_values yf_bound yf_cells yf_conses yf_lams yf_steps yf_atWork yf_end yf_writtenCount ya_kind ya_up ya_turn ya_depth ya_value ya_below ya_length ya_parameters ya_codes ya_codeCount ya_form ya_colour ya_same ya_one ya_two td nu tx ya_ofFunction ya_codeEnd ya_instance ya_token ya_env ya_tag ya_cellEnv ya_boundNext ya_step ya_boundNumber ya_boundTag ya_headTag ya_tailTag ya_number ya_boundValue ya_head ya_tail ya_written := by
      intro hni
      refine br_f n1_0 (y_write (fr := 0) (cl := true) (vs0 := []) hN (by omega) (by omega) rfl (by simp) hg (fun z => absurd z (by decide)) (fun k hk => ?_) (fun nm2 td2 nu2 tx2 q1 q2 q3 q4 q5 => ?_) (fun nm2 td2 nu2 tx2 q1 => ?_))
      · have hcl : ∀ d ∈ cl_0 (mt_enc (c p)), d < 100 := by
          intro d hd
          obtain ⟨e, he, rfl⟩ := List.mem_map.mp hd
          unfold mt_rn
          split
          · omega
          · show (0 : Nat) < 100
            omega
        exact hcl _ (gd_mem _ k hk)
      · obtain ⟨e1, e2⟩ := q3 rfl
        subst e1; subst e2
        refine br_f n1_0 (nm_r (nI_1 p) (ih (p + 1) _ _ td2 _ tx2 (by omega) (by omega) (fun q hq1 hq2 => ?_)))
        by_cases z : q = p
        · subst z; exact q1
        · exact hq q (by omega) hq2
      · exact br_t rfl (h1 _ nm2 td2 nu2 tx2 ⟨p, by omega, q1⟩)
    refine pk_le 24 p (fun h24 => And.intro (by decide) ?_) (fun h24 => ?_)
    · have ed : (nI p - 24) / 2 = nI ((p - 24) / 2) := by
        have e1 : nI p - 24 = nI (p - 24) := pk_sub (b := 24) h24
        rw [e1]; exact pk_div (d := 2) (by omega) (by omega) (by omega)
      rw [ed]
      refine pk_le p 71 (fun h71 => And.intro (pk_in row 11 (by omega)) ?_) (fun h71 => And.intro (pk_in row 11 (by omega)) ?_)
      · rw [crow, hl]
        exact pk_le n ((p - 24) / 2) (fun z => out (by rintro (⟨q, _⟩ | ⟨_, _, q⟩ | ⟨q, _⟩) <;> omega)) (fun z => inn (Or.inr (Or.inl ⟨h24, by omega, z⟩)))
      · have e72 : nI p - 72 = nI (p - 72) := pk_sub (b := 72) (by omega)
        rw [crow, hpa, e72]
        exact pk_le P (p - 72) (fun z => out (by rintro (⟨q, _⟩ | ⟨_, q, _⟩ | ⟨_, q⟩) <;> omega)) (fun z => inn (Or.inr (Or.inr ⟨by omega, z⟩)))
    · refine br_t (nI_le (b := 71) (by omega) (by omega)) (And.intro (pk_in row 11 (by omega)) ?_)
      rw [crow, hl]
      exact pk_le n p (fun z => out (by rintro (⟨_, q⟩ | ⟨q, _⟩ | ⟨q, _⟩) <;> omega)) (fun z => inn (Or.inl ⟨h24, z⟩))
theorem y_isLarge {post : Int32 → SY → Prop} {N row n P : Nat} {K : Nat → Int32} {L R rt ds : Nat → Nat} {c : Nat → mt_T} (h74 : 74 ≤ N) (hN : N ≤ 900) (hrow : row ≤ 10) (hn : n ≤ 24) (hP2 : P ≤ 2) (hl : ya_length row = nI n) (hpa : ya_parameters row = nI P)
    (hg : yw_ok N ya_form ya_same ya_one ya_two K L R rt ds c) (hcw : ∀ n, n < N → mt_wf (c n))
    (h1 : ∀ te nm td nu tx, (∃ p, p < 74 ∧ 14 < (mt_enc (c p)).length) → post 1 (yf_place, yf_points, nm, te, yf_made, yf_entry, yf_waiting, yf_values, yf_bound, yf_cells, yf_conses, yf_lams, yf_steps, yf_atWork, yf_end, yf_writtenCount, ya_kind, ya_up, ya_turn, ya_depth, ya_value, ya_below, ya_length, ya_parameters, ya_codes, ya_codeCount, ya_form, ya_colour, ya_same, ya_one, ya_two, td, nu, tx, ya_ofFunction, ya_codeEnd, ya_instance, ya_token, ya_env, ya_tag, ya_cellEnv, ya_boundNext, ya_step, ya_boundNumber, ya_boundTag, ya_headTag, ya_tailTag, ya_number, ya_boundValue, ya_head, ya_tail, ya_written))
    (h0 : ∀ te nm td nu tx, (∀ p, p < 74 → yl_in n P p → (mt_enc (c p)).length ≤ 14) → post 0 (yf_place, yf_points, nm, te, yf_made, yf_entry, yf_waiting, yf_values, yf_bound, yf_cells, yf_conses, yf_lams, yf_steps, yf_atWork, yf_end, yf_writtenCount, ya_kind, ya_up, ya_turn, ya_depth, ya_value, ya_below, ya_length, ya_parameters, ya_codes, ya_codeCount, ya_form, ya_colour, ya_same, ya_one, ya_two, td, nu, tx, ya_ofFunction, ya_codeEnd, ya_instance, ya_token, ya_env, ya_tag, ya_cellEnv, ya_boundNext, ya_step, ya_boundNumber, ya_boundTag, ya_headTag, ya_tailTag, ya_number, ya_boundValue, ya_head, ya_tail, ya_written)) : wpY_isLarge post (yf_place, yf_points, yf_names, yf_textEnd, yf_made, yf_entry, yf_waiting, yf_values, yf_bound, yf_cells, yf_conses, yf_lams, yf_steps, yf_atWork, yf_end, yf_writtenCount, ya_kind, ya_up, ya_turn, ya_depth, ya_value, ya_below, ya_length, ya_parameters, ya_codes, ya_codeCount, ya_form, ya_colour, ya_same, ya_one, ya_two, ya_todo, ya_numbered, ya_text, ya_ofFunction, ya_codeEnd, ya_instance, ya_token, ya_env, ya_tag, ya_cellEnv, ya_boundNext, ya_step, ya_boundNumber, ya_boundTag, ya_headTag, ya_tailTag, ya_number, ya_boundValue, ya_head, ya_tail, ya_written) (nI row) :=
  Exists.intro 75 (y_large2 h74 hN hrow hn hP2 hl hpa hg hcw h1 h0 75 0 _ _ _ _ _ (by omega) (by omega) (fun q hq => by omega))
theorem cn_app : ∀ a b vs : List Nat, cn_go vs (a ++ b) = cn_go vs a ++ cn_go (cn_seen vs a) b := by
  intro a
  induction a with
  | nil => intro b vs; rfl
  | cons c a ih =>
    intro b vs
    by_cases h : c < 10
    · simp only [List.cons_append, cn_go, cn_seen, if_pos h, ih]
    · by_cases m : c ∈ vs
      · simp only [List.cons_append, cn_go, cn_seen, if_neg h, if_pos m, ih]
      · simp only [List.cons_append, cn_go, cn_seen, if_neg h, if_neg m, ih]
theorem cs_app : ∀ a b vs : List Nat, cn_seen vs (a ++ b) = cn_seen (cn_seen vs a) b := by
  intro a
  induction a with
  | nil => intro b vs; rfl
  | cons c a ih =>
    intro b vs
    by_cases h : c < 10
    · simp only [List.cons_append, cn_seen, if_pos h, ih]
    · by_cases m : c ∈ vs
      · simp only [List.cons_append, cn_seen, if_neg h, if_pos m, ih]
      · simp only [List.cons_append, cn_seen, if_neg h, if_neg m, ih]
theorem cs_len : ∀ a vs : List Nat, (cn_seen vs a).length ≤ vs.length + a.length := by
  intro a
  induction a with
  | nil => intro vs; simp [cn_seen]
  | cons c a ih =>
    intro vs
    by_cases h : c < 10
    · simp only [cn_seen, if_pos h, List.length_cons]; have := ih vs; omega
    · by_cases m : c ∈ vs
      · simp only [cn_seen, if_neg h, if_pos m, List.length_cons]; have := ih vs; omega
      · simp only [cn_seen, if_neg h, if_neg m, List.length_cons]; have := ih (vs ++ [c]); simp only [List.length_append, List.length_cons, List.length_nil] at this; omega
theorem cn_bd : ∀ a vs : List Nat, ∀ d ∈ cn_go vs a, d < 10 + vs.length + a.length := by
  intro a
  induction a with
  | nil => intro vs d hd; simp [cn_go] at hd
  | cons c a ih =>
    intro vs d hd
    by_cases h : c < 10
    · simp only [cn_go, if_pos h, List.mem_cons] at hd
      simp only [List.length_cons]
      rcases hd with rfl | hd
      · omega
      · have := ih vs d hd; omega
    · by_cases m : c ∈ vs
      · simp only [cn_go, if_neg h, if_pos m, List.mem_cons] at hd
        simp only [List.length_cons]
        rcases hd with rfl | hd
        · have := cn_ix_lt vs m; omega
        · have := ih vs d hd; omega
      · simp only [cn_go, if_neg h, if_neg m, List.mem_cons] at hd
        simp only [List.length_cons]
        rcases hd with rfl | hd
        · omega
        · have := ih (vs ++ [c]) d hd; simp only [List.length_append, List.length_cons, List.length_nil] at this; omega
end
section
theorem jp_mono {n : Nat} {oc sp : Nat → Nat} (h : bw_is n oc sp) {t : Nat} (ht : t < n) : ∀ j, j ≤ oc t → ∀ i, i < j → jp sp t i < jp sp t j := by
  intro j
  induction j with
  | zero => intro _ i hi; omega
  | succ j ih =>
    intro hj i hi
    have h1 := (h.2.2 _ (bw_in h ht (show j < oc t by omega)).2.2).1
    have e : jp sp t (j + 1) = jp sp t j + sp (jp sp t j) := rfl
    by_cases z : i = j
    · subst z; omega
    · have := ih (by omega) i (by omega); omega
/-- which operand a place below t is in -/
theorem jp_find {n : Nat} {oc sp : Nat → Nat} (h : bw_is n oc sp) {t u : Nat} (ht : t < n) (h1 : t < u) (h2 : u < t + sp t) : ∃ j, j < oc t ∧ jp sp t j ≤ u ∧ u < jp sp t (j + 1) := by
  have key : ∀ d, d ≤ oc t → u < jp sp t d → ∃ j, j < d ∧ jp sp t j ≤ u ∧ u < jp sp t (j + 1) := by
    intro d
    induction d with
    | zero => intro _ hu; have : jp sp t 0 = t + 1 := rfl
              omega
    | succ d ih =>
      intro hd hu
      rcases Nat.lt_or_ge u (jp sp t d) with z | z
      · obtain ⟨j, a, b, c⟩ := ih (by omega) z
        exact ⟨j, by omega, b, c⟩
      · exact ⟨d, by omega, z, hu⟩
  have e := (h.2.2 t ht).2.2.1
  exact key (oc t) (Nat.le_refl _) (by omega)
theorem bw_lam {n : Nat} {oc sp : Nat → Nat} (h : bw_is n oc sp) : ∀ m t, t < n → sp t ≤ m → ∀ u, t ≤ u → u < t + sp t → u + sp u ≤ t + sp t := by
  intro m
  induction m with
  | zero => intro t ht hs u h1 h2; omega
  | succ m ih =>
    intro t ht hs u h1 h2
    by_cases z : u = t
    · subst z; exact Nat.le_refl _
    · obtain ⟨j, a, b, c⟩ := jp_find h ht (by omega) h2
      obtain ⟨q1, q2, q3⟩ := bw_in h ht a
      have c' : u < jp sp t j + sp (jp sp t j) := c
      have := ih (jp sp t j) q3 (by omega) u b c'
      omega
theorem bw_par {n : Nat} {oc sp : Nat → Nat} (h : bw_is n oc sp) : ∀ m t, t < n → sp t ≤ m → ∀ u, t < u → u < t + sp t → ∃ v j, t ≤ v ∧ v < u ∧ j < oc v ∧ u = jp sp v j := by
  intro m
  induction m with
  | zero => intro t ht hs u h1 h2; omega
  | succ m ih =>
    intro t ht hs u h1 h2
    obtain ⟨j, a, b, c⟩ := jp_find h ht h1 h2
    obtain ⟨q1, q2, q3⟩ := bw_in h ht a
    by_cases z : u = jp sp t j
    · exact ⟨t, j, Nat.le_refl _, h1, a, z⟩
    · have c' : u < jp sp t j + sp (jp sp t j) := c
      obtain ⟨v, i, r1, r2, r3, r4⟩ := ih (jp sp t j) q3 (by omega) u (by omega) c'
      exact ⟨v, i, by omega, r2, r3, r4⟩
theorem bw_parent {n : Nat} {oc sp : Nat → Nat} (h : bw_is n oc sp) {u : Nat} (h0 : 0 < u) (hu : u < n) : ∃ v j, v < u ∧ j < oc v ∧ u = jp sp v j := by
  have e := h.2.1
  obtain ⟨v, j, _, a, b, c⟩ := bw_par h (sp 0) 0 h.1 (Nat.le_refl _) u h0 (by omega)
  exact ⟨v, j, a, b, c⟩
theorem bw_uniq {n : Nat} {oc sp : Nat → Nat} (h : bw_is n oc sp) {u v i j : Nat} (hu : u < n) (hv : v < n) (hi : i < oc u) (hj : j < oc v) (e : jp sp u i = jp sp v j) : u = v ∧ i = j := by
  have main : ∀ u v i j, u < n → v < n → i < oc u → j < oc v → jp sp u i = jp sp v j → ¬ u < v := by
    intro u v i j hu hv hi hj e hlt
    obtain ⟨a1, a2, a3⟩ := bw_in h hu hi
    obtain ⟨b1, b2, b3⟩ := bw_in h hv hj
    have b4 := (h.2.2 _ b3).1
    obtain ⟨k, k1, k2, k3⟩ := jp_find h hu hlt (by omega)
    obtain ⟨c1, c2, c3⟩ := bw_in h hu k1
    have k3' : v < jp sp u k + sp (jp sp u k) := k3
    have hl := bw_lam h _ (jp sp u k) c3 (Nat.le_refl _) v k2 k3'
    have hki : k < i := by
      rcases Nat.lt_or_ge k i with z | z
      · exact z
      · exfalso
        by_cases y : k = i
        · subst y; omega
        · have := jp_mono h hu k (by omega) i (by omega)
          omega
    have hle : jp sp u (k + 1) ≤ jp sp u i := by
      by_cases y : k + 1 = i
      · rw [y]; exact Nat.le_refl _
      · exact Nat.le_of_lt (jp_mono h hu i (by omega) (k + 1) (by omega))
    have e2 : jp sp u (k + 1) = jp sp u k + sp (jp sp u k) := rfl
    omega
  have h1 := main u v i j hu hv hi hj e
  have h2 := main v u j i hv hu hj hi e.symm
  have huv : u = v := by omega
  subst huv
  refine ⟨rfl, ?_⟩
  rcases Nat.lt_trichotomy i j with z | z | z
  · have := jp_mono h hu j (by omega) i z; omega
  · exact z
  · have := jp_mono h hu i (by omega) j z; omega
/-- tokens that are awaited -/
def aw (oc : Nat → Nat) : Nat → Nat
  | 0 => 1
  | t + 1 => aw oc t + oc t - 1
theorem aw_s {oc : Nat → Nat} {t : Nat} (h : aw oc t ≠ 0) : aw oc (t + 1) + 1 = aw oc t + oc t := by show aw oc t + oc t - 1 + 1 = _; omega
theorem aw_le {oc : Nat → Nat} : ∀ t, (∀ s, s < t → oc s ≤ 3) → aw oc t ≤ 1 + 3 * t := by
  intro t
  induction t with
  | zero => intro _; exact Nat.le_refl _
  | succ t ih =>
    intro h
    have h1 := ih (fun s hs => h s (by omega))
    have h2 := h t (by omega)
    show aw oc t + oc t - 1 ≤ _
    omega
/-- a binder's variables, and the binder, of every place: from the outside in -/
theorem tr_ex {n : Nat} {kN oc sp : Nat → Nat} (h : bw_is n oc sp) (P : Nat) : ∀ m, m ≤ n → ∃ bd bi : Nat → Nat, bd 0 = P ∧ bi 0 = 0 ∧ ∀ t, t < m → ∀ j, j < oc t → jp sp t j < m → bd (jp sp t j) = bd t + bn (kN t) j ∧ bi (jp sp t j) = (if bn (kN t) j = 0 then bi t else t + 1) := by
  intro m
  induction m with
  | zero => intro _; exact ⟨fun _ => P, fun _ => 0, rfl, rfl, fun t ht => by omega⟩
  | succ m ih =>
    intro hm
    obtain ⟨bd, bi, h1, h2, h3⟩ := ih (by omega)
    by_cases m0 : m = 0
    · subst m0
      refine ⟨bd, bi, h1, h2, fun t ht j hj hlt => ?_⟩
      have := jp_gt sp t j; omega
    · obtain ⟨v, i, a, b, c⟩ := bw_parent h (show 0 < m by omega) (by omega)
      refine ⟨updN bd m (bd v + bn (kN v) i), updN bi m (if bn (kN v) i = 0 then bi v else v + 1), by rw [uN_n (by omega)]; exact h1, by rw [uN_n (by omega)]; exact h2, fun t ht j hj hlt => ?_⟩
      have hg := jp_gt sp t j
      have htm : t ≠ m := by omega
      rw [uN_n htm, uN_n htm]
      by_cases z : jp sp t j = m
      · obtain ⟨q1, q2⟩ := bw_uniq h (by omega) (by omega) hj b (z.trans c)
        subst q1; subst q2
        rw [z, uN_s, uN_s]; exact ⟨rfl, rfl⟩
      · rw [uN_n z, uN_n z]; exact h3 t (by omega) j hj (by omega)
end
section
variable {f_saidPlace f_instanceCount f_nodeCount f_equationCount f_stackCount f_wordCount f_depth f_cellCount f_consCount f_closureCount f_stepCount f_runAnswer f_writtenCount : Int32} {a_kinds a_values a_spans a_bounds a_binders a_lengths a_parameterCounts a_typeCodes a_typeLengths a_instanceFunctions a_nodeKinds a_nodeLefts a_nodeRights a_nodeSizes a_equationLefts a_equationRights a_stackLefts a_stackRights a_words a_boundWords a_cellFirsts a_cellSeconds a_closureTokens a_closureWords a_written : Nat → Int32}
/-- the tokens of slot f -/
def xt_ok (f n : Nat) (ki va : Nat → Int32) (kN : Nat → Nat) (vl : Nat → Int32) : Prop := n ≤ 24 ∧ ∀ t, t < n → ki (f * 24 + t) = nI (kN t) ∧ kN t ≤ 16 ∧ va (f * 24 + t) = vl t ∧ (kN t = 3 → ∃ v, v < 10 ∧ vl t = nI v) ∧ (kN t = 4 → ∃ g, g < 5 ∧ vl t = nI g)
/-- their operands -/
def xo_ok (n : Nat) (kN : Nat → Nat) (vl : Nat → Int32) (oc : Nat → Nat) (len pc : Nat → Int32) : Prop :=
  ∀ t, t < n → oc t ≤ 3 ∧ (kN t ≠ 4 → oc t = ar (kN t)) ∧ (kN t = 4 → ∀ g, vl t = nI g → g < 5 → (len g = 0 ∧ oc t = 0 ∨ len g ≠ 0 ∧ pc g = nI (oc t)))
theorem x_oc {post : Int32 → Prop} {f n t : Nat} {kN : Nat → Nat} {vl : Nat → Int32} {oc : Nat → Nat} (hf : f ≤ 10) (ht : t < n) (hx : xt_ok f n a_kinds a_values kN vl) (ho : xo_ok n kN vl oc a_lengths a_parameterCounts) (hp : post (nI (oc t))) : wpX_operandCount post (f_saidPlace, f_instanceCount, f_nodeCount, f_equationCount, f_stackCount, f_wordCount, f_depth, f_cellCount, f_consCount, f_closureCount, f_stepCount, f_runAnswer, f_writtenCount, a_kinds, a_values, a_spans, a_bounds, a_binders, a_lengths, a_parameterCounts, a_typeCodes, a_typeLengths, a_instanceFunctions, a_nodeKinds, a_nodeLefts, a_nodeRights, a_nodeSizes, a_equationLefts, a_equationRights, a_stackLefts, a_stackRights, a_words, a_boundWords, a_cellFirsts, a_cellSeconds, a_closureTokens, a_closureWords, a_written) (nI (f * 24 + t)) := by
  obtain ⟨n24, hx⟩ := hx
  obtain ⟨b1, b2, b3, b4, b5⟩ := hx t ht
  obtain ⟨o1, o2, o3⟩ := ho t ht
  refine x_operandCount (by omega) b1 b2 (fun z => ?_) o2 hp
  obtain ⟨g, g1, g2⟩ := b5 z
  exact ⟨g, by omega, by rw [b3]; exact g2, o3 z g g2 g1⟩
theorem ai_s (a o : Nat) (h : 0 < a) : nI a + (nI o - 1) = nI (a + o - 1) := by
  rw [Int32.sub_eq_add_neg, ← Int32.add_assoc, nI_add]
  obtain ⟨b, hb⟩ : ∃ b, a + o = b + 1 := ⟨a + o - 1, by omega⟩
  rw [hb]; exact pk_m1 b
theorem x_fm4 {post : Int32 → Prop} {f n : Nat} {kN : Nat → Nat} {vl : Nat → Int32} {oc : Nat → Nat} (hf : f < 5) (hl : a_lengths f = nI n) (hx : xt_ok f n a_kinds a_values kN vl) (ho : xo_ok n kN vl oc a_lengths a_parameterCounts)
    (h1 : ∀ t, t < n → aw oc t = 0 → (∀ s, s < t → aw oc s ≠ 0) → post (nI t)) (h2 : (∀ s, s < n → aw oc s ≠ 0) → aw oc n = 0 → post (-1)) (h3 : (∀ s, s < n → aw oc s ≠ 0) → aw oc n ≠ 0 → post (nI n)) :
    ∀ q t fu, t + q = n → q < fu → (∀ s, s < t → aw oc s ≠ 0) → wX_firstMisshapen_4 post (nI f) f_saidPlace f_instanceCount f_nodeCount f_equationCount f_stackCount f_wordCount f_depth f_cellCount f_consCount f_closureCount f_stepCount f_runAnswer f_writtenCount a_kinds a_values a_spans a_bounds a_binders a_lengths a_parameterCounts a_typeCodes a_typeLengths a_instanceFunctions a_nodeKinds a_nodeLefts a_nodeRights a_nodeSizes a_equationLefts a_equationRights a_stackLefts a_stackRights a_words a_boundWords a_cellFirsts a_cellSeconds a_closureTokens a_closureWords a_written fu (nI (aw oc t)) (nI t) := by
  have n24 := hx.1
  intro q
  induction q with
  | zero =>
    intro t fu ht hfu hs
    obtain ⟨fu, rfl⟩ : ∃ g, fu = g + 1 := ⟨fu - 1, by omega⟩
    have e : t = n := by omega
    subst e
    have hb := aw_le (oc := oc) t (fun s hs => (ho s hs).1)
    refine And.intro (pk_in f 11 (by omega)) ?_
    rw [nI_clamp (n := f) (by omega), hl]
    exact br_t (nI_le (Nat.le_refl _) (by omega)) (pk_eq (aw oc t) 0 (fun z => h2 hs z) (fun z => And.intro (pk_in f 11 (by omega)) (h3 hs z)))
  | succ q ih =>
    intro t fu ht hfu hs
    obtain ⟨fu, rfl⟩ : ∃ g, fu = g + 1 := ⟨fu - 1, by omega⟩
    have hb := aw_le (oc := oc) t (fun s hs => (ho s (by omega)).1)
    refine And.intro (pk_in f 11 (by omega)) ?_
    rw [nI_clamp (n := f) (by omega), hl]
    refine br_f (nI_ge (by omega) (by omega)) (pk_eq (aw oc t) 0 (fun z => h1 t (by omega) z hs) (fun z => ?_))
    rw [ix_24]
    refine x_oc (by omega) (by omega) hx ho (nm_r (ai_s _ _ (by omega)) (nm_r (nI_1 t) (ih (t + 1) fu (by omega) (by omega) (fun s hs' => ?_))))
    by_cases y : s = t
    · subst y; exact z
    · exact hs s (by omega)
theorem x_firstMisshapen {post : Int32 → Prop} {f n : Nat} {kN : Nat → Nat} {vl : Nat → Int32} {oc : Nat → Nat} (hf : f < 5) (hl : a_lengths f = nI n) (hx : xt_ok f n a_kinds a_values kN vl) (ho : xo_ok n kN vl oc a_lengths a_parameterCounts)
    (h1 : ∀ t, t < n → aw oc t = 0 → (∀ s, s < t → aw oc s ≠ 0) → post (nI t)) (h2 : (∀ s, s < n → aw oc s ≠ 0) → aw oc n = 0 → post (-1)) (h3 : (∀ s, s < n → aw oc s ≠ 0) → aw oc n ≠ 0 → post (nI n)) : wpX_firstMisshapen post (f_saidPlace, f_instanceCount, f_nodeCount, f_equationCount, f_stackCount, f_wordCount, f_depth, f_cellCount, f_consCount, f_closureCount, f_stepCount, f_runAnswer, f_writtenCount, a_kinds, a_values, a_spans, a_bounds, a_binders, a_lengths, a_parameterCounts, a_typeCodes, a_typeLengths, a_instanceFunctions, a_nodeKinds, a_nodeLefts, a_nodeRights, a_nodeSizes, a_equationLefts, a_equationRights, a_stackLefts, a_stackRights, a_words, a_boundWords, a_cellFirsts, a_cellSeconds, a_closureTokens, a_closureWords, a_written) (nI f) :=
  Exists.intro (n + 1) (x_fm4 hf hl hx ho h1 h2 h3 n 0 (n + 1) (by omega) (by omega) (fun s hs => by omega))
theorem x_ms9 {post : SX → Prop} {f n : Nat} {kN : Nat → Nat} {vl : Nat → Int32} {oc : Nat → Nat} (hf : f < 5) (hx : xt_ok f n a_kinds a_values kN vl) (ho : xo_ok n kN vl oc a_lengths a_parameterCounts) (hn0 : 0 < n) (hA : ∀ s, s < n → aw oc s ≠ 0) (hAn : aw oc n = 0)
    (hP : ∀ spA sp, (∀ t, t < n → spA (f * 24 + t) = nI (sp t)) → (∀ j, j < f * 24 ∨ f * 24 + 24 ≤ j → spA j = a_spans j) → bw_is n oc sp → post (f_saidPlace, f_instanceCount, f_nodeCount, f_equationCount, f_stackCount, f_wordCount, f_depth, f_cellCount, f_consCount, f_closureCount, f_stepCount, f_runAnswer, f_writtenCount, a_kinds, a_values, spA, a_bounds, a_binders, a_lengths, a_parameterCounts, a_typeCodes, a_typeLengths, a_instanceFunctions, a_nodeKinds, a_nodeLefts, a_nodeRights, a_nodeSizes, a_equationLefts, a_equationRights, a_stackLefts, a_stackRights, a_words, a_boundWords, a_cellFirsts, a_cellSeconds, a_closureTokens, a_closureWords, a_written)) :
    ∀ i fu spA (sp : Nat → Nat), i ≤ n → i < fu → (∀ j, j < f * 24 ∨ f * 24 + 24 ≤ j → spA j = a_spans j) → (∀ s, i ≤ s → s < n → spA (f * 24 + s) = nI (sp s) ∧ 1 ≤ sp s ∧ s + sp s ≤ n ∧ aw oc (s + sp s) + 1 = aw oc s ∧ jp sp s (oc s) = s + sp s ∧ ∀ j, j < oc s → jp sp s j < n) →
      wX_measureSpans_9 post (nI f) f_saidPlace f_instanceCount f_nodeCount f_equationCount f_stackCount f_wordCount f_depth f_cellCount f_consCount f_closureCount f_stepCount f_runAnswer f_writtenCount fu (nI i + (-1)) a_kinds a_values spA a_bounds a_binders a_lengths a_parameterCounts a_typeCodes a_typeLengths a_instanceFunctions a_nodeKinds a_nodeLefts a_nodeRights a_nodeSizes a_equationLefts a_equationRights a_stackLefts a_stackRights a_words a_boundWords a_cellFirsts a_cellSeconds a_closureTokens a_closureWords a_written := by
  have n24 := hx.1
  intro i
  induction i with
  | zero =>
    intro fu spA sp hi hfu ho1 hs
    obtain ⟨fu, rfl⟩ : ∃ g, fu = g + 1 := ⟨fu - 1, by omega⟩
    refine br_t (by decide) (hP spA sp (fun t ht => (hs t (by omega) ht).1) ho1 ⟨hn0, ?_, fun t ht => ?_⟩)
    · obtain ⟨_, a, b, c, _, _⟩ := hs 0 (by omega) hn0
      rcases Nat.lt_or_ge (0 + sp 0) n with z | z
      · exfalso
        have h1 := hA _ z
        have h2 : aw oc 0 = 1 := rfl
        omega
      · omega
    · obtain ⟨_, a, b, _, c, d⟩ := hs t (by omega) ht
      exact ⟨a, b, c, d⟩
  | succ t ih =>
    intro fu spA sp hi hfu ho1 hs
    obtain ⟨fu, rfl⟩ : ∃ g, fu = g + 1 := ⟨fu - 1, by omega⟩
    rw [pk_m1 t]
    have htn : t < n := by omega
    have hst := bw_step (oc := oc) (sp := sp) (A := aw oc) (fun s hs' => ⟨aw_s (hA s hs'), by have := hA s hs'; omega⟩) hAn htn (fun s h1 h2 => by obtain ⟨_, a, b, c, _, _⟩ := hs s (by omega) h2; exact ⟨a, b, c⟩) (oc t) (Nat.le_refl _)
    obtain ⟨g1, g2, g3⟩ := hst
    have hgt := jp_gt sp t (oc t)
    have hA1 := aw_s (hA t htn)
    refine br_f (nI_pos (by omega)) (nm_r (ix_24 f t) (x_oc (by omega) htn hx ho ?_))
    refine x_operandAt (B := f * 24) (t := t) (sp := sp) (ho t htn).1 (fun j hj => ?_) ?_
    · have h1 := g3 j hj
      have h2 := jp_gt sp t j
      exact ⟨by omega, (hs _ (by omega) h1).1⟩
    · refine And.intro (pk_in (f * 24 + t) 264 (by omega)) (nm_r (e' := upd spA (f * 24 + t) (nI (jp sp t (oc t) - t))) ?_ (nm_e ?_))
      · rw [nI_clamp (by omega), pk_sub (by omega)]; congr 2; omega
      · have hcong : ∀ s, t ≤ s → ∀ j, jp (updN sp t (jp sp t (oc t) - t)) s j = jp sp s j := fun s hs' j => jp_congr j (fun i _ => uN_n (by have := jp_gt sp s i; omega))
        refine ih fu _ (updN sp t (jp sp t (oc t) - t)) (by omega) (by omega) (fun j hj => by rw [pk_un (by omega)]; exact ho1 j hj) (fun s h1 h2 => ?_)
        by_cases z : s = t
        · subst z
          rw [pk_us, uN_s, hcong s (Nat.le_refl _)]
          have e : s + (jp sp s (oc s) - s) = jp sp s (oc s) := by omega
          rw [e]
          exact ⟨rfl, by omega, g1, by omega, rfl, fun j hj => by rw [hcong s (Nat.le_refl _)]; exact g3 j hj⟩
        · obtain ⟨a, b, c, d, e, f'⟩ := hs s (by omega) h2
          rw [pk_un (by omega), uN_n z, hcong s (by omega)]
          exact ⟨a, b, c, d, e, fun j hj => by rw [hcong s (by omega)]; exact f' j hj⟩
theorem x_measureSpans {post : SX → Prop} {f n : Nat} {kN : Nat → Nat} {vl : Nat → Int32} {oc : Nat → Nat} (hf : f < 5) (hl : a_lengths f = nI n) (hx : xt_ok f n a_kinds a_values kN vl) (ho : xo_ok n kN vl oc a_lengths a_parameterCounts) (hn0 : 0 < n) (hA : ∀ s, s < n → aw oc s ≠ 0) (hAn : aw oc n = 0)
    (hP : ∀ spA sp, (∀ t, t < n → spA (f * 24 + t) = nI (sp t)) → (∀ j, j < f * 24 ∨ f * 24 + 24 ≤ j → spA j = a_spans j) → bw_is n oc sp → post (f_saidPlace, f_instanceCount, f_nodeCount, f_equationCount, f_stackCount, f_wordCount, f_depth, f_cellCount, f_consCount, f_closureCount, f_stepCount, f_runAnswer, f_writtenCount, a_kinds, a_values, spA, a_bounds, a_binders, a_lengths, a_parameterCounts, a_typeCodes, a_typeLengths, a_instanceFunctions, a_nodeKinds, a_nodeLefts, a_nodeRights, a_nodeSizes, a_equationLefts, a_equationRights, a_stackLefts, a_stackRights, a_words, a_boundWords, a_cellFirsts, a_cellSeconds, a_closureTokens, a_closureWords, a_written)) : wpX_measureSpans post (f_saidPlace, f_instanceCount, f_nodeCount, f_equationCount, f_stackCount, f_wordCount, f_depth, f_cellCount, f_consCount, f_closureCount, f_stepCount, f_runAnswer, f_writtenCount, a_kinds, a_values, a_spans, a_bounds, a_binders, a_lengths, a_parameterCounts, a_typeCodes, a_typeLengths, a_instanceFunctions, a_nodeKinds, a_nodeLefts, a_nodeRights, a_nodeSizes, a_equationLefts, a_equationRights, a_stackLefts, a_stackRights, a_words, a_boundWords, a_cellFirsts, a_cellSeconds, a_closureTokens, a_closureWords, a_written) (nI f) := by
  have n24 := hx.1
  refine And.intro (pk_in f 11 (by omega)) (nm_r (e' := nI n + (-1)) (by rw [nI_clamp (by omega), hl, Int32.sub_eq_add_neg]) (Exists.intro (n + 1) ?_))
  exact x_ms9 hf hx ho hn0 hA hAn hP n (n + 1) _ (fun _ => 0) (Nat.le_refl _) (by omega) (fun _ _ => rfl) (fun s h1 h2 => by omega)
/-- how many a token of kind k binds -/
def op (k : Nat) : Nat := if k = 10 then 2 else if k = 14 ∨ k = 15 then 1 else 0
theorem x_boundBy {post : Int32 → Prop} {k : Nat} (hk : k ≤ 16) (hp : post (nI (op k))) : wpX_boundBy post (f_saidPlace, f_instanceCount, f_nodeCount, f_equationCount, f_stackCount, f_wordCount, f_depth, f_cellCount, f_consCount, f_closureCount, f_stepCount, f_runAnswer, f_writtenCount, a_kinds, a_values, a_spans, a_bounds, a_binders, a_lengths, a_parameterCounts, a_typeCodes, a_typeLengths, a_instanceFunctions, a_nodeKinds, a_nodeLefts, a_nodeRights, a_nodeSizes, a_equationLefts, a_equationRights, a_stackLefts, a_stackRights, a_words, a_boundWords, a_cellFirsts, a_cellSeconds, a_closureTokens, a_closureWords, a_written) (nI k) := by
  unfold op at hp
  refine pk_eq k 10 (fun z => ?_) (fun z => pk_eq k 14 (fun z2 => ?_) (fun z2 => pk_eq k 15 (fun z3 => ?_) (fun z3 => ?_)))
  · rw [if_pos z] at hp; exact hp
  · rw [if_neg z, if_pos (Or.inl z2)] at hp; exact hp
  · rw [if_neg z, if_pos (Or.inr z3)] at hp; exact hp
  · rw [if_neg z, if_neg (by omega)] at hp; exact hp
theorem op_fin : ∀ k : Fin 17, ∀ j : Fin 3, k.val ≠ 4 → j.val < ar k.val → bn k.val j.val = if 0 < op k.val ∧ j.val = ar k.val - 1 then op k.val else 0 := by decide
theorem ar_3 : ∀ k : Fin 17, ar k.val ≤ 3 := by decide
theorem op_bn {k o : Nat} (hk : k ≤ 16) (h4 : k ≠ 4 → o = ar k) (j : Nat) (hj : j < o) : bn k j = if 0 < op k ∧ j = o - 1 then op k else 0 := by
  by_cases z : k = 4
  · subst z
    have h1 : op 4 = 0 := by decide
    rw [h1, if_neg (by omega)]
    unfold bn; rw [if_neg (by omega), if_neg (by omega)]
  · have e := h4 z
    subst e
    have h3 := ar_3 ⟨k, by omega⟩
    exact op_fin ⟨k, by omega⟩ ⟨j, by simp only at h3; omega⟩ z hj
end
section
variable {f_saidPlace f_instanceCount f_nodeCount f_equationCount f_stackCount f_wordCount f_depth f_cellCount f_consCount f_closureCount f_stepCount f_runAnswer f_writtenCount : Int32} {a_kinds a_values a_spans a_bounds a_binders a_lengths a_parameterCounts a_typeCodes a_typeLengths a_instanceFunctions a_nodeKinds a_nodeLefts a_nodeRights a_nodeSizes a_equationLefts a_equationRights a_stackLefts a_stackRights a_words a_boundWords a_cellFirsts a_cellSeconds a_closureTokens a_closureWords a_written : Nat → Int32}
/-- scopes, as X holds them -/
def sc_at (f : Nat) (bo bin : Nat → Int32) (bd bi : Nat → Nat) (s : Nat) : Prop := bo (f * 24 + s) = nI (bd s) ∧ bin (f * 24 + s) = (if bi s = 0 then -1 else nI (bi s - 1))
theorem sc_keep {f : Nat} {bo bin bo' bin' : Nat → Int32} {bd bi : Nat → Nat} {s : Nat} (h : sc_at f bo bin bd bi s) (e1 : bo' (f * 24 + s) = bo (f * 24 + s)) (e2 : bin' (f * 24 + s) = bin (f * 24 + s)) : sc_at f bo' bin' bd bi s := ⟨by rw [e1]; exact h.1, by rw [e2]; exact h.2⟩
abbrev JX := Int32 → (Nat → Int32) → (Nat → Int32) → (Nat → Int32) → (Nat → Int32) → (Nat → Int32) → (Nat → Int32) → (Nat → Int32) → (Nat → Int32) → (Nat → Int32) → (Nat → Int32) → (Nat → Int32) → (Nat → Int32) → (Nat → Int32) → (Nat → Int32) → (Nat → Int32) → (Nat → Int32) → (Nat → Int32) → (Nat → Int32) → (Nat → Int32) → (Nat → Int32) → (Nat → Int32) → (Nat → Int32) → (Nat → Int32) → (Nat → Int32) → (Nat → Int32) → Prop
theorem x_sc71 {post : SX → Prop} {J27 : JX} {f n t : Nat} {kN oc sp bd bi : Nat → Nat} (hf : f < 5) (hn : n ≤ 24) (ht : t < n) (hbw : bw_is n oc sp) (htr : tr_ok n kN oc sp bd bi) (hk : kN t ≤ 16) (ho : kN t ≠ 4 → oc t = ar (kN t)) (ho3 : oc t ≤ 3) (hb50 : ∀ s, s < n → bd s ≤ 100)
    (hsp : ∀ s, s < n → a_spans (f * 24 + s) = nI (sp s))
    (hJ : ∀ bo bin, (∀ j, j < f * 24 ∨ f * 24 + 24 ≤ j → bo j = a_bounds j ∧ bin j = a_binders j) → (∀ s, s < n → sc_at f a_bounds a_binders bd bi s → sc_at f bo bin bd bi s) → (∀ j, j < oc t → sc_at f bo bin bd bi (jp sp t j)) → J27 (nI t + 1) a_kinds a_values a_spans bo bin a_lengths a_parameterCounts a_typeCodes a_typeLengths a_instanceFunctions a_nodeKinds a_nodeLefts a_nodeRights a_nodeSizes a_equationLefts a_equationRights a_stackLefts a_stackRights a_words a_boundWords a_cellFirsts a_cellSeconds a_closureTokens a_closureWords a_written) :
    ∀ q j fu bo bin, j + q = oc t → q < fu → (∀ j, j < f * 24 ∨ f * 24 + 24 ≤ j → bo j = a_bounds j ∧ bin j = a_binders j) → (∀ s, s < n → sc_at f a_bounds a_binders bd bi s → sc_at f bo bin bd bi s) → sc_at f bo bin bd bi t → (∀ i, i < j → sc_at f bo bin bd bi (jp sp t i)) →
      wX_markScopes_71 post J27 (nI f) (nI t) (nI (f * 24 + t)) (nI (oc t)) (nI (op (kN t))) f_saidPlace f_instanceCount f_nodeCount f_equationCount f_stackCount f_wordCount f_depth f_cellCount f_consCount f_closureCount f_stepCount f_runAnswer f_writtenCount fu (nI (f * 24 + jp sp t j)) (nI j) a_kinds a_values a_spans bo bin a_lengths a_parameterCounts a_typeCodes a_typeLengths a_instanceFunctions a_nodeKinds a_nodeLefts a_nodeRights a_nodeSizes a_equationLefts a_equationRights a_stackLefts a_stackRights a_words a_boundWords a_cellFirsts a_cellSeconds a_closureTokens a_closureWords a_written := by
  intro q
  induction q with
  | zero =>
    intro j fu bo bin hj hfu h1 h2 h3 h4
    obtain ⟨fu, rfl⟩ : ∃ g, fu = g + 1 := ⟨fu - 1, by omega⟩
    have e : j = oc t := by omega
    subst e
    exact br_t (nI_le (Nat.le_refl _) (by omega)) (nm_e (hJ bo bin h1 h2 h4))
  | succ q ih =>
    intro j fu bo bin hj hfu h1 h2 h3 h4
    obtain ⟨fu, rfl⟩ : ∃ g, fu = g + 1 := ⟨fu - 1, by omega⟩
    have hjo : j < oc t := by omega
    obtain ⟨q1, q2, q3⟩ := bw_in hbw ht hjo
    obtain ⟨t1, t2⟩ := htr.2 t ht j hjo
    have hbn := op_bn hk ho j hjo
    have hop : op (kN t) ≤ 2 := by unfold op; split; omega; split <;> omega
    have hbt := hb50 t ht
    have hbc := hb50 _ q3
    have c1 : (nI (f * 24 + t)).toNatClampNeg = f * 24 + t := nI_clamp (by omega)
    have c2 : (nI (f * 24 + jp sp t j)).toNatClampNeg = f * 24 + jp sp t j := nI_clamp (by omega)
    -- both writes
    have fin : ∀ (z0 z1 : Int32), z0 = nI (bd (jp sp t j)) → z1 = (if bi (jp sp t j) = 0 then -1 else nI (bi (jp sp t j) - 1)) →
        wX_markScopes_150 post J27 (wX_markScopes_71 post J27 (nI f) (nI t) (nI (f * 24 + t)) (nI (oc t)) (nI (op (kN t))) f_saidPlace f_instanceCount f_nodeCount f_equationCount f_stackCount f_wordCount f_depth f_cellCount f_consCount f_closureCount f_stepCount f_runAnswer f_writtenCount fu) (nI f) (nI t) (nI (f * 24 + t)) (nI (oc t)) (nI (op (kN t))) (nI (f * 24 + jp sp t j)) (nI j) z1 (nI (f * 24 + jp sp t j)) f_saidPlace f_instanceCount f_nodeCount f_equationCount f_stackCount f_wordCount f_depth f_cellCount f_consCount f_closureCount f_stepCount f_runAnswer f_writtenCount a_kinds a_values a_spans (upd bo (f * 24 + jp sp t j) z0) bin a_lengths a_parameterCounts a_typeCodes a_typeLengths a_instanceFunctions a_nodeKinds a_nodeLefts a_nodeRights a_nodeSizes a_equationLefts a_equationRights a_stackLefts a_stackRights a_words a_boundWords a_cellFirsts a_cellSeconds a_closureTokens a_closureWords a_written := by
      intro z0 z1 e0 e1
      refine And.intro (pk_in (f * 24 + jp sp t j) 264 (by omega)) (nm_r (e' := upd bin (f * 24 + jp sp t j) z1) (by rw [c2]) (And.intro (pk_in (f * 24 + jp sp t j) 264 (by omega)) (nm_r (e' := nI (f * 24 + jp sp t (j + 1))) (by rw [c2, hsp _ q3, nI_add, Nat.add_assoc]; rfl) (nm_r (nI_1 j) ?_))))
      have keep : ∀ s, sc_at f bo bin bd bi s → sc_at f (upd bo (f * 24 + jp sp t j) z0) (upd bin (f * 24 + jp sp t j) z1) bd bi s := by
        intro s hs
        by_cases z : s = jp sp t j
        · subst z; exact ⟨by rw [pk_us]; exact e0, by rw [pk_us]; exact e1⟩
        · exact sc_keep hs (pk_un (by omega)) (pk_un (by omega))
      refine ih (j + 1) fu _ _ (by omega) (by omega) (fun i hi => ?_) (fun s hs h => keep s (h2 s hs h)) (keep t h3) (fun i hi => ?_)
      · rw [pk_un (by omega), pk_un (by omega)]; exact h1 i hi
      · by_cases z : i = j
        · subst z; exact ⟨by rw [pk_us]; exact e0, by rw [pk_us]; exact e1⟩
        · exact keep _ (h4 i (by omega))
    have c96 : bn (kN t) j = 0 → wX_markScopes_96 post J27 (wX_markScopes_71 post J27 (nI f) (nI t) (nI (f * 24 + t)) (nI (oc t)) (nI (op (kN t))) f_saidPlace f_instanceCount f_nodeCount f_equationCount f_stackCount f_wordCount f_depth f_cellCount f_consCount f_closureCount f_stepCount f_runAnswer f_writtenCount fu) (nI f) (nI t) (nI (f * 24 + t)) (nI (oc t)) (nI (op (kN t))) (nI (f * 24 + jp sp t j)) (nI j) f_saidPlace f_instanceCount f_nodeCount f_equationCount f_stackCount f_wordCount f_depth f_cellCount f_consCount f_closureCount f_stepCount f_runAnswer f_writtenCount a_kinds a_values a_spans bo bin a_lengths a_parameterCounts a_typeCodes a_typeLengths a_instanceFunctions a_nodeKinds a_nodeLefts a_nodeRights a_nodeSizes a_equationLefts a_equationRights a_stackLefts a_stackRights a_words a_boundWords a_cellFirsts a_cellSeconds a_closureTokens a_closureWords a_written := by
      intro z
      rw [z] at t1
      rw [if_pos z] at t2
      refine br_t rfl (And.intro (pk_in (f * 24 + t) 264 (by omega)) (And.intro (pk_in (f * 24 + jp sp t j) 264 (by omega)) (nm_r (e' := upd bo (f * 24 + jp sp t j) (nI (bd t))) (by rw [c2, c1, h3.1]) (br_t rfl (And.intro (pk_in (f * 24 + t) 264 (by omega)) ?_)))))
      rw [c1]
      exact fin _ _ (by rw [t1, Nat.add_zero]) (by rw [t2]; exact h3.2)
    have c97 : bn (kN t) j ≠ 0 → wX_markScopes_97 post J27 (wX_markScopes_71 post J27 (nI f) (nI t) (nI (f * 24 + t)) (nI (oc t)) (nI (op (kN t))) f_saidPlace f_instanceCount f_nodeCount f_equationCount f_stackCount f_wordCount f_depth f_cellCount f_consCount f_closureCount f_stepCount f_runAnswer f_writtenCount fu) (nI f) (nI t) (nI (f * 24 + t)) (nI (oc t)) (nI (op (kN t))) (nI (f * 24 + jp sp t j)) (nI j) 1 f_saidPlace f_instanceCount f_nodeCount f_equationCount f_stackCount f_wordCount f_depth f_cellCount f_consCount f_closureCount f_stepCount f_runAnswer f_writtenCount a_kinds a_values a_spans bo bin a_lengths a_parameterCounts a_typeCodes a_typeLengths a_instanceFunctions a_nodeKinds a_nodeLefts a_nodeRights a_nodeSizes a_equationLefts a_equationRights a_stackLefts a_stackRights a_words a_boundWords a_cellFirsts a_cellSeconds a_closureTokens a_closureWords a_written := by
      intro z
      rw [if_neg z] at t2
      have eo : bn (kN t) j = op (kN t) := by
        rw [hbn] at z ⊢
        by_cases y : 0 < op (kN t) ∧ j = oc t - 1
        · rw [if_pos y]
        · rw [if_neg y] at z; exact absurd rfl z
      refine br_f n1_0 (And.intro (pk_in (f * 24 + t) 264 (by omega)) (And.intro (pk_in (f * 24 + jp sp t j) 264 (by omega)) (nm_r (e' := upd bo (f * 24 + jp sp t j) (nI (bd t) + nI (op (kN t)))) (by rw [c2, c1, h3.1]) (br_f n1_0 ?_))))
      refine fin _ _ (by rw [nI_add, t1, eo]) (by rw [t2, if_neg (by omega)]; rfl)
    refine br_f (nI_ge (by omega) (by omega)) (pk_le (op (kN t)) 0 (fun z => c96 (by rw [hbn, if_neg (by omega)])) (fun z => ?_))
    have e1 : nI (oc t) - 1 = nI (oc t - 1) := by
      obtain ⟨b, hb⟩ : ∃ b, oc t = b + 1 := ⟨oc t - 1, by omega⟩
      rw [hb]; exact nI_pred b
    rw [e1]
    exact pk_eq j (oc t - 1) (fun y => c97 (by rw [hbn, if_pos ⟨z, y⟩]; omega)) (fun y => c96 (by rw [hbn, if_neg (by omega)]))
theorem x_sc27 {post : SX → Prop} {f n : Nat} {kN oc sp bd bi : Nat → Nat} {vl : Nat → Int32} (hf : f < 5) (hl : a_lengths f = nI n) (hx : xt_ok f n a_kinds a_values kN vl) (ho : xo_ok n kN vl oc a_lengths a_parameterCounts) (hbw : bw_is n oc sp) (htr : tr_ok n kN oc sp bd bi) (hb50 : ∀ s, s < n → bd s ≤ 100)
    (hsp : ∀ s, s < n → a_spans (f * 24 + s) = nI (sp s))
    (hP : ∀ bo bin, (∀ j, j < f * 24 ∨ f * 24 + 24 ≤ j → bo j = a_bounds j ∧ bin j = a_binders j) → (∀ s, s < n → sc_at f bo bin bd bi s) → post (f_saidPlace, f_instanceCount, f_nodeCount, f_equationCount, f_stackCount, f_wordCount, f_depth, f_cellCount, f_consCount, f_closureCount, f_stepCount, f_runAnswer, f_writtenCount, a_kinds, a_values, a_spans, bo, bin, a_lengths, a_parameterCounts, a_typeCodes, a_typeLengths, a_instanceFunctions, a_nodeKinds, a_nodeLefts, a_nodeRights, a_nodeSizes, a_equationLefts, a_equationRights, a_stackLefts, a_stackRights, a_words, a_boundWords, a_cellFirsts, a_cellSeconds, a_closureTokens, a_closureWords, a_written)) :
    ∀ q t fu bo bin, t + q = n → q < fu → (∀ j, j < f * 24 ∨ f * 24 + 24 ≤ j → bo j = a_bounds j ∧ bin j = a_binders j) → sc_at f bo bin bd bi 0 → (∀ u, u < t → ∀ j, j < oc u → sc_at f bo bin bd bi (jp sp u j)) →
      wX_markScopes_27 post (nI f) f_saidPlace f_instanceCount f_nodeCount f_equationCount f_stackCount f_wordCount f_depth f_cellCount f_consCount f_closureCount f_stepCount f_runAnswer f_writtenCount fu (nI t) a_kinds a_values a_spans bo bin a_lengths a_parameterCounts a_typeCodes a_typeLengths a_instanceFunctions a_nodeKinds a_nodeLefts a_nodeRights a_nodeSizes a_equationLefts a_equationRights a_stackLefts a_stackRights a_words a_boundWords a_cellFirsts a_cellSeconds a_closureTokens a_closureWords a_written := by
  have n24 := hx.1
  have par : ∀ t bo bin, t ≤ n → sc_at f bo bin bd bi 0 → (∀ u, u < t → ∀ j, j < oc u → sc_at f bo bin bd bi (jp sp u j)) → ∀ s, s < n → s ≤ t → sc_at f bo bin bd bi s := by
    intro t bo bin ht h0 hu s hs hst
    by_cases z : s = 0
    · rw [z]; exact h0
    · obtain ⟨v, j, a, b, c⟩ := bw_parent hbw (by omega) hs
      rw [c]; exact hu v (by omega) j b
  intro q
  induction q with
  | zero =>
    intro t fu bo bin ht hfu h1 h2 h3
    obtain ⟨fu, rfl⟩ : ∃ g, fu = g + 1 := ⟨fu - 1, by omega⟩
    have e : t = n := by omega
    subst e
    refine And.intro (pk_in f 11 (by omega)) ?_
    rw [nI_clamp (n := f) (by omega), hl]
    exact br_t (nI_le (Nat.le_refl _) (by omega)) (hP bo bin h1 (fun s hs => par t bo bin (Nat.le_refl _) h2 h3 s hs (by omega)))
  | succ q ih =>
    intro t fu bo bin ht hfu h1 h2 h3
    obtain ⟨fu, rfl⟩ : ∃ g, fu = g + 1 := ⟨fu - 1, by omega⟩
    have htn : t < n := by omega
    obtain ⟨b1, b2, _, _, _⟩ := hx.2 t htn
    obtain ⟨o1, o2, _⟩ := ho t htn
    refine And.intro (pk_in f 11 (by omega)) ?_
    rw [nI_clamp (n := f) (by omega), hl]
    refine br_f (nI_ge (by omega) (by omega)) (nm_r (ix_24 f t) (x_oc (by omega) htn hx ho (And.intro (pk_in (f * 24 + t) 264 (by omega)) ?_)))
    rw [nI_clamp (n := f * 24 + t) (by omega), b1]
    refine x_boundBy b2 (nm_r (nI_1 (f * 24 + t)) (Exists.intro (oc t + 1) ?_))
    refine x_sc71 (J27 := wX_markScopes_27 post (nI f) f_saidPlace f_instanceCount f_nodeCount f_equationCount f_stackCount f_wordCount f_depth f_cellCount f_consCount f_closureCount f_stepCount f_runAnswer f_writtenCount fu) hf n24 htn hbw htr b2 o2 o1 hb50 hsp (fun bo' bin' k1 k2 k3 => ?_) (oc t) 0 (oc t + 1) bo bin (by omega) (by omega) (fun _ _ => ⟨rfl, rfl⟩) (fun s _ h => h) (par t bo bin (by omega) h2 h3 t htn (Nat.le_refl _)) (fun i hi => by omega)
    rw [nI_1]
    refine ih (t + 1) fu bo' bin' (by omega) (by omega) (fun j hj => ⟨(k1 j hj).1.trans (h1 j hj).1, (k1 j hj).2.trans (h1 j hj).2⟩) (k2 0 (by omega) h2) (fun u hu j hj => ?_)
    by_cases z : u = t
    · subst z; exact k3 j hj
    · exact k2 _ ((bw_in hbw (by omega) hj).2.2) (h3 u (by omega) j hj)
theorem x_markScopes {post : SX → Prop} {f n P : Nat} {kN oc sp bd bi : Nat → Nat} {vl : Nat → Int32} (hf : f < 5) (hl : a_lengths f = nI n) (hpc : a_parameterCounts f = nI P) (hx : xt_ok f n a_kinds a_values kN vl) (ho : xo_ok n kN vl oc a_lengths a_parameterCounts) (hbw : bw_is n oc sp) (htr : tr_ok n kN oc sp bd bi) (hb50 : ∀ s, s < n → bd s ≤ 100) (hb0 : bd 0 = P)
    (hsp : ∀ s, s < n → a_spans (f * 24 + s) = nI (sp s))
    (hP : ∀ bo bin, (∀ j, j < f * 24 ∨ f * 24 + 24 ≤ j → bo j = a_bounds j ∧ bin j = a_binders j) → (∀ s, s < n → sc_at f bo bin bd bi s) → post (f_saidPlace, f_instanceCount, f_nodeCount, f_equationCount, f_stackCount, f_wordCount, f_depth, f_cellCount, f_consCount, f_closureCount, f_stepCount, f_runAnswer, f_writtenCount, a_kinds, a_values, a_spans, bo, bin, a_lengths, a_parameterCounts, a_typeCodes, a_typeLengths, a_instanceFunctions, a_nodeKinds, a_nodeLefts, a_nodeRights, a_nodeSizes, a_equationLefts, a_equationRights, a_stackLefts, a_stackRights, a_words, a_boundWords, a_cellFirsts, a_cellSeconds, a_closureTokens, a_closureWords, a_written)) : wpX_markScopes post (f_saidPlace, f_instanceCount, f_nodeCount, f_equationCount, f_stackCount, f_wordCount, f_depth, f_cellCount, f_consCount, f_closureCount, f_stepCount, f_runAnswer, f_writtenCount, a_kinds, a_values, a_spans, a_bounds, a_binders, a_lengths, a_parameterCounts, a_typeCodes, a_typeLengths, a_instanceFunctions, a_nodeKinds, a_nodeLefts, a_nodeRights, a_nodeSizes, a_equationLefts, a_equationRights, a_stackLefts, a_stackRights, a_words, a_boundWords, a_cellFirsts, a_cellSeconds, a_closureTokens, a_closureWords, a_written) (nI f) := by
  have n24 := hx.1
  have e24 : nI f * 24 = nI (f * 24) := pk_mul f 24
  have ce : (nI f * 24).toNatClampNeg = f * 24 := by rw [e24]; exact nI_clamp (by omega)
  refine And.intro (pk_in f 11 (by omega)) (And.intro (pk_in (f * 24) 264 (by omega) e24) (nm_r (e' := upd a_bounds (f * 24) (nI P)) (by rw [ce, nI_clamp (by omega), hpc]) (And.intro (pk_in (f * 24) 264 (by omega) e24) (nm_r (e' := upd a_binders (f * 24) (-1)) (by rw [ce]) (Exists.intro (n + 1) ?_)))))
  refine x_sc27 (bd := bd) (bi := bi) hf hl hx ho hbw htr hb50 hsp (fun bo bin k1 k2 => hP bo bin (fun j hj => ?_) k2) n 0 (n + 1) _ _ (by omega) (by omega) (fun _ _ => ⟨rfl, rfl⟩) ⟨by rw [Nat.add_zero, pk_us, hb0], by rw [Nat.add_zero, pk_us, htr.1, if_pos rfl]⟩ (fun u hu => by omega)
  obtain ⟨a, b⟩ := k1 j hj
  rw [a, b, pk_un (by omega), pk_un (by omega)]; exact ⟨rfl, rfl⟩
end
section
variable {f_saidPlace f_instanceCount f_nodeCount f_equationCount f_stackCount f_wordCount f_depth f_cellCount f_consCount f_closureCount f_stepCount f_runAnswer f_writtenCount : Int32} {a_kinds a_values a_spans a_bounds a_binders a_lengths a_parameterCounts a_typeCodes a_typeLengths a_instanceFunctions a_nodeKinds a_nodeLefts a_nodeRights a_nodeSizes a_equationLefts a_equationRights a_stackLefts a_stackRights a_words a_boundWords a_cellFirsts a_cellSeconds a_closureTokens a_closureWords a_written : Nat → Int32}
variable {yf_place yf_points yf_names yf_textEnd yf_made yf_entry yf_waiting yf_values yf_bound yf_cells yf_conses yf_lams yf_steps yf_atWork yf_end yf_writtenCount : Int32} {ya_kind ya_up ya_turn ya_depth ya_value ya_below ya_length ya_parameters ya_codes ya_codeCount ya_form ya_colour ya_same ya_one ya_two ya_todo ya_numbered ya_text ya_ofFunction ya_codeEnd ya_instance ya_token ya_env ya_tag ya_cellEnv ya_boundNext ya_step ya_boundNumber ya_boundTag ya_headTag ya_tailTag ya_number ya_boundValue ya_head ya_tail ya_written : Nat → Int32}
/-- a token that UNBOUND names; mis g: g has no body -/
def ub (bd kN : Nat → Nat) (vl : Nat → Int32) (mis : Nat → Prop) (t : Nat) : Prop :=
  (kN t = 3 ∧ ∃ v, v < 10 ∧ vl t = nI v ∧ bd t ≤ v) ∨ (0 < op (kN t) ∧ 10 < bd t + op (kN t)) ∨ (kN t = 4 ∧ ∃ g, g < 5 ∧ vl t = nI g ∧ mis g)
theorem op_2 (k : Nat) : op k ≤ 2 := by unfold op; split; omega; split <;> omega
theorem x_missing {post : Int32 → Prop} {a k : Nat} (ha : a < 264) (hk : a_kinds a = nI k) (hk2 : k ≤ 16) (h4 : k = 4 → ∃ g, g < 5 ∧ a_values a = nI g)
    (h1 : (k = 4 ∧ ∃ g, g < 5 ∧ a_values a = nI g ∧ a_lengths g = 0) → post 1) (h0 : (k = 4 → ∀ g, g < 5 → a_values a = nI g → a_lengths g ≠ 0) → post 0) : wpX_isMissingCall post (f_saidPlace, f_instanceCount, f_nodeCount, f_equationCount, f_stackCount, f_wordCount, f_depth, f_cellCount, f_consCount, f_closureCount, f_stepCount, f_runAnswer, f_writtenCount, a_kinds, a_values, a_spans, a_bounds, a_binders, a_lengths, a_parameterCounts, a_typeCodes, a_typeLengths, a_instanceFunctions, a_nodeKinds, a_nodeLefts, a_nodeRights, a_nodeSizes, a_equationLefts, a_equationRights, a_stackLefts, a_stackRights, a_words, a_boundWords, a_cellFirsts, a_cellSeconds, a_closureTokens, a_closureWords, a_written) (nI a) := by
  have ca : (nI a).toNatClampNeg = a := nI_clamp (by omega)
  refine And.intro (pk_in a 264 ha) ?_
  rw [ca, hk]
  refine pk_eq k 4 (fun z => ?_) (fun z => h0 (fun q => absurd q z))
  obtain ⟨g, g1, g2⟩ := h4 z
  rw [g2]
  refine And.intro (pk_in a 264 ha) (And.intro (pk_in g 11 (by omega)) ?_)
  rw [nI_clamp (n := g) (by omega)]
  refine br_c (fun y => h1 ⟨z, g, g1, g2, y⟩) (fun y => h0 (fun _ g' g1' g2' => ?_))
  have : g' = g := by rw [g2] at g2'; exact ((nI_eq (by omega) (by omega)).mp g2').symm
  rw [this]; exact y
theorem x_ub2 {post : Int32 → Prop} {f n : Nat} {kN bd : Nat → Nat} {vl : Nat → Int32} (hf : f < 5) (hl : a_lengths f = nI n) (hx : xt_ok f n a_kinds a_values kN vl) (hb : ∀ s, s < n → a_bounds (f * 24 + s) = nI (bd s) ∧ bd s ≤ 100)
    (h1 : ∀ t, t < n → ub bd kN vl (fun g => a_lengths g = 0) t → (∀ s, s < t → ¬ ub bd kN vl (fun g => a_lengths g = 0) s) → post (nI t)) (h2 : (∀ s, s < n → ¬ ub bd kN vl (fun g => a_lengths g = 0) s) → post (-1)) :
    ∀ q t fu, t + q = n → q < fu → (∀ s, s < t → ¬ ub bd kN vl (fun g => a_lengths g = 0) s) → wX_firstUnbound_2 post (nI f) f_saidPlace f_instanceCount f_nodeCount f_equationCount f_stackCount f_wordCount f_depth f_cellCount f_consCount f_closureCount f_stepCount f_runAnswer f_writtenCount a_kinds a_values a_spans a_bounds a_binders a_lengths a_parameterCounts a_typeCodes a_typeLengths a_instanceFunctions a_nodeKinds a_nodeLefts a_nodeRights a_nodeSizes a_equationLefts a_equationRights a_stackLefts a_stackRights a_words a_boundWords a_cellFirsts a_cellSeconds a_closureTokens a_closureWords a_written fu (nI t) := by
  have n24 := hx.1
  intro q
  induction q with
  | zero =>
    intro t fu ht hfu hs
    obtain ⟨fu, rfl⟩ : ∃ g, fu = g + 1 := ⟨fu - 1, by omega⟩
    have e : t = n := by omega
    subst e
    refine And.intro (pk_in f 11 (by omega)) ?_
    rw [nI_clamp (n := f) (by omega), hl]
    exact br_t (nI_le (Nat.le_refl _) (by omega)) (h2 hs)
  | succ q ih =>
    intro t fu ht hfu hs
    obtain ⟨fu, rfl⟩ : ∃ g, fu = g + 1 := ⟨fu - 1, by omega⟩
    have htn : t < n := by omega
    obtain ⟨b1, b2, b3, b4, b5⟩ := hx.2 t htn
    obtain ⟨c1, c2⟩ := hb t htn
    have ca : (nI (f * 24 + t)).toNatClampNeg = f * 24 + t := nI_clamp (by omega)
    have ho2 := op_2 (kN t)
    refine And.intro (pk_in f 11 (by omega)) ?_
    rw [nI_clamp (n := f) (by omega), hl]
    refine br_f (nI_ge (by omega) (by omega)) (nm_r (ix_24 f t) (And.intro (pk_in (f * 24 + t) 264 (by omega)) ?_))
    rw [ca, b1]
    -- the last question
    have s87 : ∀ x5 z0 : Int32, (x5 = 0 ∨ x5 = 1) → (z0 = 0 ∨ z0 = 1) → (x5 = 1 → ub bd kN vl (fun g => a_lengths g = 0) t) → (z0 = 1 → ub bd kN vl (fun g => a_lengths g = 0) t) → (x5 = 0 → ¬ (kN t = 3 ∧ ∃ v, v < 10 ∧ vl t = nI v ∧ bd t ≤ v)) → (z0 = 0 → ¬ (0 < op (kN t) ∧ 10 < bd t + op (kN t))) →
        wX_firstUnbound_87 post (wX_firstUnbound_2 post (nI f) f_saidPlace f_instanceCount f_nodeCount f_equationCount f_stackCount f_wordCount f_depth f_cellCount f_consCount f_closureCount f_stepCount f_runAnswer f_writtenCount a_kinds a_values a_spans a_bounds a_binders a_lengths a_parameterCounts a_typeCodes a_typeLengths a_instanceFunctions a_nodeKinds a_nodeLefts a_nodeRights a_nodeSizes a_equationLefts a_equationRights a_stackLefts a_stackRights a_words a_boundWords a_cellFirsts a_cellSeconds a_closureTokens a_closureWords a_written fu) (nI f) (nI t) (nI (f * 24 + t)) x5 z0 f_saidPlace f_instanceCount f_nodeCount f_equationCount f_stackCount f_wordCount f_depth f_cellCount f_consCount f_closureCount f_stepCount f_runAnswer f_writtenCount a_kinds a_values a_spans a_bounds a_binders a_lengths a_parameterCounts a_typeCodes a_typeLengths a_instanceFunctions a_nodeKinds a_nodeLefts a_nodeRights a_nodeSizes a_equationLefts a_equationRights a_stackLefts a_stackRights a_words a_boundWords a_cellFirsts a_cellSeconds a_closureTokens a_closureWords a_written := by
      intro x5 z0 d1 d2 e1 e2 e3 e4
      rcases d1 with rfl | rfl
      · rcases d2 with rfl | rfl
        · refine br_t rfl (br_t rfl (x_missing (by omega) b1 b2 (fun z => by obtain ⟨g, g1, g2⟩ := b5 z; exact ⟨g, g1, by rw [b3]; exact g2⟩) (fun h => br_f n1_0 (h1 t htn (Or.inr (Or.inr ?_)) hs)) (fun h => br_t rfl (nm_r (nI_1 t) (ih (t + 1) fu (by omega) (by omega) (fun s hs' => ?_))))))
          · obtain ⟨k4, g, g1, g2, g3⟩ := h
            exact ⟨k4, g, g1, by rw [← b3]; exact g2, g3⟩
          · by_cases y : s = t
            · subst y
              rintro (w | w | ⟨k4, g, g1, g2, g3⟩)
              · exact e3 rfl w
              · exact e4 rfl w
              · exact h k4 g g1 (by rw [b3]; exact g2) g3
            · exact hs s (by omega)
        · exact br_t rfl (br_f n1_0 (h1 t htn (e2 rfl) hs))
      · exact br_f n1_0 (h1 t htn (e1 rfl) hs)
    have s61 : ∀ x5 : Int32, (x5 = 0 ∨ x5 = 1) → (x5 = 1 → ub bd kN vl (fun g => a_lengths g = 0) t) → (x5 = 0 → ¬ (kN t = 3 ∧ ∃ v, v < 10 ∧ vl t = nI v ∧ bd t ≤ v)) →
        wX_firstUnbound_61 post (wX_firstUnbound_2 post (nI f) f_saidPlace f_instanceCount f_nodeCount f_equationCount f_stackCount f_wordCount f_depth f_cellCount f_consCount f_closureCount f_stepCount f_runAnswer f_writtenCount a_kinds a_values a_spans a_bounds a_binders a_lengths a_parameterCounts a_typeCodes a_typeLengths a_instanceFunctions a_nodeKinds a_nodeLefts a_nodeRights a_nodeSizes a_equationLefts a_equationRights a_stackLefts a_stackRights a_words a_boundWords a_cellFirsts a_cellSeconds a_closureTokens a_closureWords a_written fu) (nI f) (nI t) (nI (f * 24 + t)) (nI (op (kN t))) x5 f_saidPlace f_instanceCount f_nodeCount f_equationCount f_stackCount f_wordCount f_depth f_cellCount f_consCount f_closureCount f_stepCount f_runAnswer f_writtenCount a_kinds a_values a_spans a_bounds a_binders a_lengths a_parameterCounts a_typeCodes a_typeLengths a_instanceFunctions a_nodeKinds a_nodeLefts a_nodeRights a_nodeSizes a_equationLefts a_equationRights a_stackLefts a_stackRights a_words a_boundWords a_cellFirsts a_cellSeconds a_closureTokens a_closureWords a_written := by
      intro x5 d1 e1 e3
      refine pk_le (op (kN t)) 0 (fun z => s87 x5 0 d1 (Or.inl rfl) e1 (fun y => absurd y (by decide)) e3 (fun _ y => by omega)) (fun z => And.intro (pk_in (f * 24 + t) 264 (by omega)) ?_)
      rw [ca, c1, nI_add]
      exact pk_le (bd t + op (kN t)) 10 (fun y => s87 x5 0 d1 (Or.inl rfl) e1 (fun y => absurd y (by decide)) e3 (fun _ w => by omega)) (fun y => s87 x5 1 d1 (Or.inr rfl) e1 (fun _ => Or.inr (Or.inl ⟨z, y⟩)) e3 (fun w => absurd w (by decide)))
    refine x_boundBy b2 (And.intro (pk_in (f * 24 + t) 264 (by omega)) (pk_eq (kN t) 3 (fun z3 => And.intro (pk_in (f * 24 + t) 264 (by omega)) (And.intro (pk_in (f * 24 + t) 264 (by omega)) ?_)) (fun z3 => s61 0 (Or.inl rfl) (fun y => absurd y (by decide)) (fun _ y => z3 y.1))))
    obtain ⟨v, v1, v2⟩ := b4 z3
    rw [b3, v2, c1]
    refine pk_lt v (bd t) (fun y => s61 0 (Or.inl rfl) (fun y => absurd y (by decide)) (fun _ w => ?_)) (fun y => s61 1 (Or.inr rfl) (fun _ => Or.inl ⟨z3, v, v1, v2, y⟩) (fun w => absurd w (by decide)))
    obtain ⟨_, v', v1', v2', v3'⟩ := w
    have : v' = v := by rw [v2] at v2'; exact ((nI_eq (by omega) (by omega)).mp v2').symm
    omega
theorem x_firstUnbound {post : Int32 → Prop} {f n : Nat} {kN bd : Nat → Nat} {vl : Nat → Int32} (hf : f < 5) (hl : a_lengths f = nI n) (hx : xt_ok f n a_kinds a_values kN vl) (hb : ∀ s, s < n → a_bounds (f * 24 + s) = nI (bd s) ∧ bd s ≤ 100)
    (h1 : ∀ t, t < n → ub bd kN vl (fun g => a_lengths g = 0) t → (∀ s, s < t → ¬ ub bd kN vl (fun g => a_lengths g = 0) s) → post (nI t)) (h2 : (∀ s, s < n → ¬ ub bd kN vl (fun g => a_lengths g = 0) s) → post (-1)) : wpX_firstUnbound post (f_saidPlace, f_instanceCount, f_nodeCount, f_equationCount, f_stackCount, f_wordCount, f_depth, f_cellCount, f_consCount, f_closureCount, f_stepCount, f_runAnswer, f_writtenCount, a_kinds, a_values, a_spans, a_bounds, a_binders, a_lengths, a_parameterCounts, a_typeCodes, a_typeLengths, a_instanceFunctions, a_nodeKinds, a_nodeLefts, a_nodeRights, a_nodeSizes, a_equationLefts, a_equationRights, a_stackLefts, a_stackRights, a_words, a_boundWords, a_cellFirsts, a_cellSeconds, a_closureTokens, a_closureWords, a_written) (nI f) :=
  Exists.intro (n + 1) (x_ub2 hf hl hx hb h1 h2 n 0 (n + 1) (by omega) (by omega) (fun s hs => by omega))
/-- the tokens of the draft, as Y holds them -/
def yt_ok (n : Nat) (ki va : Nat → Int32) (kN : Nat → Nat) (vl : Nat → Int32) : Prop := n ≤ 24 ∧ ∀ t, t < n → ki (120 + t) = nI (kN t) ∧ kN t ≤ 16 ∧ va (120 + t) = vl t ∧ (kN t = 3 → ∃ v, v < 10 ∧ vl t = nI v) ∧ (kN t = 4 → ∃ g, g < 5 ∧ vl t = nI g)
theorem ix_120 (t : Nat) : (120 : Int32) + nI t = nI (120 + t) := nI_add 120 t
theorem y_ub2 {post : Int32 → Prop} {f n : Nat} {kN bd : Nat → Nat} {vl : Nat → Int32} (hf : f < 5) (hl : ya_length 5 = nI n) (hx : yt_ok n ya_kind ya_value kN vl) (hb : ∀ s, s < n → ya_depth (120 + s) = nI (bd s) ∧ bd s ≤ 100)
    (h1 : ∀ t, t < n → ub bd kN vl (fun g => g ≠ f ∧ ya_length g = 0) t → (∀ s, s < t → ¬ ub bd kN vl (fun g => g ≠ f ∧ ya_length g = 0) s) → post (nI t)) (h2 : (∀ s, s < n → ¬ ub bd kN vl (fun g => g ≠ f ∧ ya_length g = 0) s) → post (-1)) :
    ∀ q t fu, t + q = n → q < fu → (∀ s, s < t → ¬ ub bd kN vl (fun g => g ≠ f ∧ ya_length g = 0) s) → wY_unbound_2 post (nI f) yf_place yf_points yf_names yf_textEnd yf_made yf_entry yf_waiting yf_values yf_bound yf_cells yf_conses yf_lams yf_steps yf_atWork yf_end yf_writtenCount ya_kind ya_up ya_turn ya_depth ya_value ya_below ya_length ya_parameters ya_codes ya_codeCount ya_form ya_colour ya_same ya_one ya_two ya_todo ya_numbered ya_text ya_ofFunction ya_codeEnd ya_instance ya_token ya_env ya_tag ya_cellEnv ya_boundNext ya_step ya_boundNumber ya_boundTag ya_headTag ya_tailTag ya_number ya_boundValue ya_head ya_tail ya_written fu (nI t) := by
  have n24 := hx.1
  intro q
  induction q with
  | zero =>
    intro t fu ht hfu hs
    obtain ⟨fu, rfl⟩ : ∃ g, fu = g + 1 := ⟨fu - 1, by omega⟩
    have e : t = n := by omega
    subst e
    refine br_t (by rw [hl]; exact nI_le (Nat.le_refl _) (by omega)) (h2 hs)
  | succ q ih =>
    intro t fu ht hfu hs
    obtain ⟨fu, rfl⟩ : ∃ g, fu = g + 1 := ⟨fu - 1, by omega⟩
    have htn : t < n := by omega
    obtain ⟨b1, b2, b3, b4, b5⟩ := hx.2 t htn
    obtain ⟨c1, c2⟩ := hb t htn
    have ca : ((120 : Int32) + nI t).toNatClampNeg = 120 + t := by rw [ix_120]; exact nI_clamp (by omega)
    have pin : vp_in ((120 : Int32) + nI t) 264 := pk_in (120 + t) 264 (by omega) (ix_120 t)
    have ho2 := op_2 (kN t)
    refine br_f (by rw [hl]; exact nI_ge (by omega) (by omega)) (And.intro pin (nm_r (e' := nI (kN t)) (by rw [ca]; exact b1) (And.intro pin (nm_r (e' := vl t) (by rw [ca]; exact b3) ?_))))
    have s102 : ¬ (kN t = 3 ∧ ∃ v, v < 10 ∧ vl t = nI v ∧ bd t ≤ v) → ¬ (kN t = 4 ∧ ∃ g, g < 5 ∧ vl t = nI g ∧ (g ≠ f ∧ ya_length g = 0)) → wY_unbound_102 post (wY_unbound_2 post (nI f) yf_place yf_points yf_names yf_textEnd yf_made yf_entry yf_waiting yf_values yf_bound yf_cells yf_conses yf_lams yf_steps yf_atWork yf_end yf_writtenCount ya_kind ya_up ya_turn ya_depth ya_value ya_below ya_length ya_parameters ya_codes ya_codeCount ya_form ya_colour ya_same ya_one ya_two ya_todo ya_numbered ya_text ya_ofFunction ya_codeEnd ya_instance ya_token ya_env ya_tag ya_cellEnv ya_boundNext ya_step ya_boundNumber ya_boundTag ya_headTag ya_tailTag ya_number ya_boundValue ya_head ya_tail ya_written fu) (nI f) (nI t) (nI (op (kN t))) yf_place yf_points yf_names yf_textEnd yf_made yf_entry yf_waiting yf_values yf_bound yf_cells yf_conses yf_lams yf_steps yf_atWork yf_end yf_writtenCount ya_kind ya_up ya_turn ya_depth ya_value ya_below ya_length ya_parameters ya_codes ya_codeCount ya_form ya_colour ya_same ya_one ya_two ya_todo ya_numbered ya_text ya_ofFunction ya_codeEnd ya_instance ya_token ya_env ya_tag ya_cellEnv ya_boundNext ya_step ya_boundNumber ya_boundTag ya_headTag ya_tailTag ya_number ya_boundValue ya_head ya_tail ya_written := by
      intro e1 e2
      have next : ¬ (0 < op (kN t) ∧ 10 < bd t + op (kN t)) → wY_unbound_2 post (nI f) yf_place yf_points yf_names yf_textEnd yf_made yf_entry yf_waiting yf_values yf_bound yf_cells yf_conses yf_lams yf_steps yf_atWork yf_end yf_writtenCount ya_kind ya_up ya_turn ya_depth ya_value ya_below ya_length ya_parameters ya_codes ya_codeCount ya_form ya_colour ya_same ya_one ya_two ya_todo ya_numbered ya_text ya_ofFunction ya_codeEnd ya_instance ya_token ya_env ya_tag ya_cellEnv ya_boundNext ya_step ya_boundNumber ya_boundTag ya_headTag ya_tailTag ya_number ya_boundValue ya_head ya_tail ya_written fu (nI (t + 1)) := by
        intro e3
        refine ih (t + 1) fu (by omega) (by omega) (fun s hs' => ?_)
        by_cases y : s = t
        · subst y; rintro (w | w | w); exact e1 w; exact e3 w; exact e2 w
        · exact hs s (by omega)
      refine pk_le (op (kN t)) 0 (fun z => nm_r (nI_1 t) (next (by omega))) (fun z => And.intro pin ?_)
      rw [ca, c1, nI_add]
      exact pk_le (bd t + op (kN t)) 10 (fun y => nm_r (nI_1 t) (next (by omega))) (fun y => h1 t htn (Or.inr (Or.inl ⟨z, y⟩)) hs)
    have s75 : ¬ (kN t = 3 ∧ ∃ v, v < 10 ∧ vl t = nI v ∧ bd t ≤ v) → ¬ (kN t = 4 ∧ ∃ g, g < 5 ∧ vl t = nI g ∧ (g ≠ f ∧ ya_length g = 0)) → wY_unbound_75 post (wY_unbound_2 post (nI f) yf_place yf_points yf_names yf_textEnd yf_made yf_entry yf_waiting yf_values yf_bound yf_cells yf_conses yf_lams yf_steps yf_atWork yf_end yf_writtenCount ya_kind ya_up ya_turn ya_depth ya_value ya_below ya_length ya_parameters ya_codes ya_codeCount ya_form ya_colour ya_same ya_one ya_two ya_todo ya_numbered ya_text ya_ofFunction ya_codeEnd ya_instance ya_token ya_env ya_tag ya_cellEnv ya_boundNext ya_step ya_boundNumber ya_boundTag ya_headTag ya_tailTag ya_number ya_boundValue ya_head ya_tail ya_written fu) (nI f) (nI t) (nI (kN t)) yf_place yf_points yf_names yf_textEnd yf_made yf_entry yf_waiting yf_values yf_bound yf_cells yf_conses yf_lams yf_steps yf_atWork yf_end yf_writtenCount ya_kind ya_up ya_turn ya_depth ya_value ya_below ya_length ya_parameters ya_codes ya_codeCount ya_form ya_colour ya_same ya_one ya_two ya_todo ya_numbered ya_text ya_ofFunction ya_codeEnd ya_instance ya_token ya_env ya_tag ya_cellEnv ya_boundNext ya_step ya_boundNumber ya_boundTag ya_headTag ya_tailTag ya_number ya_boundValue ya_head ya_tail ya_written := by
      intro e1 e2
      have h := s102 e1 e2
      unfold op at h
      refine pk_eq (kN t) 10 (fun z => ?_) (fun z => pk_eq (kN t) 14 (fun z2 => ?_) (fun z2 => pk_eq (kN t) 15 (fun z3 => ?_) (fun z3 => ?_)))
      · rw [if_pos z] at h; exact h
      · rw [if_neg z, if_pos (Or.inl z2)] at h; exact h
      · rw [if_neg z, if_pos (Or.inr z3)] at h; exact h
      · rw [if_neg z, if_neg (by omega)] at h; exact h
    have s52 : ¬ (kN t = 3 ∧ ∃ v, v < 10 ∧ vl t = nI v ∧ bd t ≤ v) → wY_unbound_52 post (wY_unbound_2 post (nI f) yf_place yf_points yf_names yf_textEnd yf_made yf_entry yf_waiting yf_values yf_bound yf_cells yf_conses yf_lams yf_steps yf_atWork yf_end yf_writtenCount ya_kind ya_up ya_turn ya_depth ya_value ya_below ya_length ya_parameters ya_codes ya_codeCount ya_form ya_colour ya_same ya_one ya_two ya_todo ya_numbered ya_text ya_ofFunction ya_codeEnd ya_instance ya_token ya_env ya_tag ya_cellEnv ya_boundNext ya_step ya_boundNumber ya_boundTag ya_headTag ya_tailTag ya_number ya_boundValue ya_head ya_tail ya_written fu) (nI f) (nI t) (nI (kN t)) (vl t) yf_place yf_points yf_names yf_textEnd yf_made yf_entry yf_waiting yf_values yf_bound yf_cells yf_conses yf_lams yf_steps yf_atWork yf_end yf_writtenCount ya_kind ya_up ya_turn ya_depth ya_value ya_below ya_length ya_parameters ya_codes ya_codeCount ya_form ya_colour ya_same ya_one ya_two ya_todo ya_numbered ya_text ya_ofFunction ya_codeEnd ya_instance ya_token ya_env ya_tag ya_cellEnv ya_boundNext ya_step ya_boundNumber ya_boundTag ya_headTag ya_tailTag ya_number ya_boundValue ya_head ya_tail ya_written := by
      intro e1
      refine pk_eq (kN t) 4 (fun z => ?_) (fun z => s75 e1 (fun w => z w.1))
      obtain ⟨g, g1, g2⟩ := b5 z
      have uq : ∀ g', g' < 5 → vl t = nI g' → g' = g := fun g' h5 h6 => by rw [g2] at h6; exact ((nI_eq (by omega) (by omega)).mp h6).symm
      rw [g2]
      refine pk_eq g f (fun y => s75 e1 (fun w => ?_)) (fun y => And.intro (pk_in g 11 (by omega)) ?_)
      · obtain ⟨_, g', w1, w2, w3, _⟩ := w
        exact w3 ((uq g' w1 w2).trans y)
      · rw [nI_clamp (n := g) (by omega)]
        refine br_c (fun l0 => h1 t htn (Or.inr (Or.inr ⟨z, g, g1, g2, y, l0⟩)) hs) (fun l0 => s75 e1 (fun w => ?_))
        obtain ⟨_, g', w1, w2, _, w4⟩ := w
        rw [uq g' w1 w2] at w4; exact l0 w4
    refine pk_eq (kN t) 3 (fun z3 => And.intro pin ?_) (fun z3 => s52 (fun w => z3 w.1))
    obtain ⟨v, v1, v2⟩ := b4 z3
    have s52' := s52
    rw [v2] at s52' ⊢
    rw [ca, c1]
    refine pk_le (bd t) v (fun y => h1 t htn (Or.inl ⟨z3, v, v1, v2, y⟩) hs) (fun y => s52' (fun w => ?_))
    obtain ⟨_, v', v1', v2', v3'⟩ := w
    have : v' = v := ((nI_eq (by omega) (by omega)).mp v2').symm
    omega
theorem y_unbound {post : Int32 → Prop} {f n : Nat} {kN bd : Nat → Nat} {vl : Nat → Int32} (hf : f < 5) (hl : ya_length 5 = nI n) (hx : yt_ok n ya_kind ya_value kN vl) (hb : ∀ s, s < n → ya_depth (120 + s) = nI (bd s) ∧ bd s ≤ 100)
    (h1 : ∀ t, t < n → ub bd kN vl (fun g => g ≠ f ∧ ya_length g = 0) t → (∀ s, s < t → ¬ ub bd kN vl (fun g => g ≠ f ∧ ya_length g = 0) s) → post (nI t)) (h2 : (∀ s, s < n → ¬ ub bd kN vl (fun g => g ≠ f ∧ ya_length g = 0) s) → post (-1)) : wpY_unbound post (yf_place, yf_points, yf_names, yf_textEnd, yf_made, yf_entry, yf_waiting, yf_values, yf_bound, yf_cells, yf_conses, yf_lams, yf_steps, yf_atWork, yf_end, yf_writtenCount, ya_kind, ya_up, ya_turn, ya_depth, ya_value, ya_below, ya_length, ya_parameters, ya_codes, ya_codeCount, ya_form, ya_colour, ya_same, ya_one, ya_two, ya_todo, ya_numbered, ya_text, ya_ofFunction, ya_codeEnd, ya_instance, ya_token, ya_env, ya_tag, ya_cellEnv, ya_boundNext, ya_step, ya_boundNumber, ya_boundTag, ya_headTag, ya_tailTag, ya_number, ya_boundValue, ya_head, ya_tail, ya_written) (nI f) :=
  Exists.intro (n + 1) (y_ub2 hf hl hx hb h1 h2 n 0 (n + 1) (by omega) (by omega) (fun s hs => by omega))
end
section
variable {yf_place yf_points yf_names yf_textEnd yf_made yf_entry yf_waiting yf_values yf_bound yf_cells yf_conses yf_lams yf_steps yf_atWork yf_end yf_writtenCount : Int32} {ya_kind ya_up ya_turn ya_depth ya_value ya_below ya_length ya_parameters ya_codes ya_codeCount ya_form ya_colour ya_same ya_one ya_two ya_todo ya_numbered ya_text ya_ofFunction ya_codeEnd ya_instance ya_token ya_env ya_tag ya_cellEnv ya_boundNext ya_step ya_boundNumber ya_boundTag ya_headTag ya_tailTag ya_number ya_boundValue ya_head ya_tail ya_written : Nat → Int32}
def yo_ok (f P n : Nat) (kN : Nat → Nat) (vl : Nat → Int32) (oc : Nat → Nat) (len par : Nat → Int32) : Prop :=
  ∀ t, t < n → oc t ≤ 3 ∧ (kN t ≠ 4 → oc t = ar (kN t)) ∧ (kN t = 4 → ∀ g, vl t = nI g → g < 5 → (g = f → oc t = P) ∧ (g ≠ f → (len g = 0 ∧ oc t = 0 ∨ len g ≠ 0 ∧ par g = nI (oc t))))
theorem y_operands {post : Int32 → Prop} {f P n t : Nat} {kN : Nat → Nat} {vl : Nat → Int32} {oc : Nat → Nat} (hf : f < 5) (ht : t < n) (hx : yt_ok n ya_kind ya_value kN vl) (ho : yo_ok f P n kN vl oc ya_length ya_parameters) (hp : post (nI (oc t))) : wpY_operands post (yf_place, yf_points, yf_names, yf_textEnd, yf_made, yf_entry, yf_waiting, yf_values, yf_bound, yf_cells, yf_conses, yf_lams, yf_steps, yf_atWork, yf_end, yf_writtenCount, ya_kind, ya_up, ya_turn, ya_depth, ya_value, ya_below, ya_length, ya_parameters, ya_codes, ya_codeCount, ya_form, ya_colour, ya_same, ya_one, ya_two, ya_todo, ya_numbered, ya_text, ya_ofFunction, ya_codeEnd, ya_instance, ya_token, ya_env, ya_tag, ya_cellEnv, ya_boundNext, ya_step, ya_boundNumber, ya_boundTag, ya_headTag, ya_tailTag, ya_number, ya_boundValue, ya_head, ya_tail, ya_written) (nI (120 + t)) (nI f) (nI P) := by
  obtain ⟨n24, hx⟩ := hx
  obtain ⟨b1, b2, b3, b4, b5⟩ := hx t ht
  obtain ⟨o1, o2, o3⟩ := ho t ht
  have ca : (nI (120 + t)).toNatClampNeg = 120 + t := nI_clamp (by omega)
  have pin : vp_in (nI (120 + t)) 264 := pk_in (120 + t) 264 (by omega)
  refine And.intro pin (nm_r (e' := nI (kN t)) (by rw [ca]; exact b1) (pk_eq (kN t) 4 (fun z => And.intro pin ?_) (fun z => ?_)))
  · obtain ⟨g, g1, g2⟩ := b5 z
    obtain ⟨q1, q2⟩ := o3 z g g2 g1
    rw [ca, b3, g2]
    refine pk_eq g f (fun y => by rw [← q1 y]; exact hp) (fun y => And.intro pin (And.intro (pk_in g 11 (by omega)) ?_))
    rw [nI_clamp (n := g) (by omega)]
    rcases q2 y with ⟨l0, l1⟩ | ⟨l0, l1⟩
    · rw [l1] at hp; exact br_t l0 hp
    · refine br_f l0 (And.intro pin (And.intro (pk_in g 11 (by omega)) ?_))
      rw [l1]; exact hp
  · have e := o2 z
    rw [e] at hp
    rcases k17 b2 with y | y | y | y | y | y | y | y | y | y | y | y | y | y | y | y | y
    · rw [y] at hp ⊢; exact br_t (by decide) hp
    · rw [y] at hp ⊢; exact br_t (by decide) hp
    · rw [y] at hp ⊢; exact br_t (by decide) hp
    · rw [y] at hp ⊢; exact br_t (by decide) hp
    · exact absurd y z
    · rw [y] at hp ⊢; exact br_f (by decide) (br_f (by decide) (br_f (by decide) (br_f (by decide) (br_f (by decide) (br_f (by decide) (br_f (by decide) hp))))))
    · rw [y] at hp ⊢; exact br_f (by decide) (br_f (by decide) (br_t rfl hp))
    · rw [y] at hp ⊢; exact br_f (by decide) (br_f (by decide) (br_f (by decide) (br_t rfl hp)))
    · rw [y] at hp ⊢; exact br_f (by decide) (br_t rfl hp)
    · rw [y] at hp ⊢; exact br_f (by decide) (br_f (by decide) (br_f (by decide) (br_f (by decide) (br_f (by decide) (br_f (by decide) (br_f (by decide) hp))))))
    · rw [y] at hp ⊢; exact br_f (by decide) (br_f (by decide) (br_f (by decide) (br_f (by decide) (br_f (by decide) (br_t rfl hp)))))
    · rw [y] at hp ⊢; exact br_f (by decide) (br_f (by decide) (br_f (by decide) (br_f (by decide) (br_f (by decide) (br_f (by decide) (br_t rfl hp))))))
    · rw [y] at hp ⊢; exact br_f (by decide) (br_f (by decide) (br_f (by decide) (br_f (by decide) (br_f (by decide) (br_f (by decide) (br_f (by decide) hp))))))
    · rw [y] at hp ⊢; exact br_f (by decide) (br_f (by decide) (br_f (by decide) (br_f (by decide) (br_f (by decide) (br_f (by decide) (br_f (by decide) hp))))))
    · rw [y] at hp ⊢; exact br_f (by decide) (br_f (by decide) (br_f (by decide) (br_f (by decide) (br_f (by decide) (br_f (by decide) (br_f (by decide) hp))))))
    · rw [y] at hp ⊢; exact br_f (by decide) (br_f (by decide) (br_f (by decide) (br_f (by decide) (br_t rfl hp))))
    · rw [y] at hp ⊢; exact br_f (by decide) (br_f (by decide) (br_f (by decide) (br_f (by decide) (br_f (by decide) (br_f (by decide) (br_f (by decide) hp))))))
/-- the places at which the slots of a stack come, from place p on -/
def cp_ok (sp : Nat → Nat) : Nat → List Nat → Prop
  | _, [] => True
  | p, s :: st => jp sp (s / 3) (s % 3) = p ∧ cp_ok sp (p + sp p) st
/-- the slots of token i, the first on top -/
def sl_of (i : Nat) : Nat → List Nat → List Nat
  | 0, st => st
  | m + 1, st => sl_of i m ((3 * i + m) :: st)
theorem sl_cp {sp : Nat → Nat} {i : Nat} : ∀ m st, m ≤ 3 → cp_ok sp (jp sp i m) st → cp_ok sp (i + 1) (sl_of i m st) := by
  intro m
  induction m with
  | zero => intro st _ h; exact h
  | succ m ih =>
    intro st hm h
    refine ih _ (by omega) ⟨?_, h⟩
    have e1 : (3 * i + m) / 3 = i := by omega
    have e2 : (3 * i + m) % 3 = m := by omega
    rw [e1, e2]
theorem sl_mem {i : Nat} : ∀ m st s, s ∈ sl_of i m st → s ∈ st ∨ ∃ k, k < m ∧ s = 3 * i + k := by
  intro m
  induction m with
  | zero => intro st s h; exact Or.inl h
  | succ m ih =>
    intro st s h
    rcases ih _ s h with q | ⟨k, k1, k2⟩
    · simp only [List.mem_cons] at q
      rcases q with q | q
      · exact Or.inr ⟨m, by omega, q⟩
      · exact Or.inl q
    · exact Or.inr ⟨k, by omega, k2⟩
theorem y_sh180 {post : Int32 → SY → Prop} {J20 : Int32 → JY} {x1 x2 x3 : Int32} {i : Nat} (hi : i < 24) :
    ∀ k fu h td st, k ≤ 3 → k < fu → h + k ≤ 1400 → sk_ok 72 h td st → (∀ td', sk_ok 72 (h + k) td' (sl_of i k st) → J20 (nI (h + k)) (nI i + 1) ya_kind ya_up ya_turn ya_depth ya_value ya_below ya_length ya_parameters ya_codes ya_codeCount ya_form ya_colour ya_same ya_one ya_two td' ya_numbered ya_text ya_ofFunction ya_codeEnd ya_instance ya_token ya_env ya_tag ya_cellEnv ya_boundNext ya_step ya_boundNumber ya_boundTag ya_headTag ya_tailTag ya_number ya_boundValue ya_head ya_tail ya_written) →
      wY_shape_180 post J20 x1 x2 x3 (nI i) yf_place yf_points yf_names yf_textEnd yf_made yf_entry yf_waiting yf_values yf_bound yf_cells yf_conses yf_lams yf_steps yf_atWork yf_end yf_writtenCount fu (nI h) (nI k + (-1)) ya_kind ya_up ya_turn ya_depth ya_value ya_below ya_length ya_parameters ya_codes ya_codeCount ya_form ya_colour ya_same ya_one ya_two td ya_numbered ya_text ya_ofFunction ya_codeEnd ya_instance ya_token ya_env ya_tag ya_cellEnv ya_boundNext ya_step ya_boundNumber ya_boundTag ya_headTag ya_tailTag ya_number ya_boundValue ya_head ya_tail ya_written := by
  intro k
  induction k with
  | zero =>
    intro fu h td st _ hfu _ hs hJ
    obtain ⟨fu, rfl⟩ : ∃ g, fu = g + 1 := ⟨fu - 1, by omega⟩
    exact br_t (by decide) (nm_e (hJ td hs))
  | succ k ih =>
    intro fu h td st hk hfu hh hs hJ
    obtain ⟨fu, rfl⟩ : ∃ g, fu = g + 1 := ⟨fu - 1, by omega⟩
    rw [pk_m1 k]
    have e3 : (3 : Int32) * nI i + nI k = nI (3 * i + k) := by rw [← nI_add]; exact congrArg (· + nI k) (pk_mul 3 i)
    refine br_f (nI_pos (by omega)) (nm_r (nI_1 h) (And.intro (pk_in h 1500 (by omega)) (nm_r (e' := upd td h (nI (3 * i + k))) (by rw [nI_clamp (by omega), e3, nr_s (by omega)]) (nm_e ?_))))
    refine ih fu (h + 1) _ ((3 * i + k) :: st) (by omega) (by omega) (by omega) (sk_push hs (by omega)) (fun td' hs' => ?_)
    have e : h + 1 + k = h + (k + 1) := by omega
    rw [e] at hs' ⊢
    exact hJ td' hs'
/-- what Y's shape has written for the tokens below i -/
def yd_ok (G : Prop) (oc sp bd : Nat → Nat) (up tu de be : Nat → Int32) (i : Nat) : Prop := ∀ s, s < i → (G → de (120 + s) = nI (bd s)) ∧ (s = 0 → up (120 + s) = -1) ∧
  (0 < s → G → ∃ u j, u < s ∧ j < oc u ∧ s = jp sp u j ∧ up (120 + s) = nI u ∧ tu (120 + s) = nI j ∧ be (360 + 3 * u + j) = nI s)
/-- elsewhere nothing changes -/
def yr_ok (up tu de be up' tu' de' be' : Nat → Int32) : Prop := (∀ j, j < 120 ∨ 144 ≤ j → up' j = up j ∧ tu' j = tu j ∧ de' j = de j) ∧ ∀ j, j < 360 ∨ 432 ≤ j → be' j = be j
theorem y_sh20 {post : Int32 → SY → Prop} {f P n : Nat} {kN : Nat → Nat} {vl : Nat → Int32} {oc sp bd bi : Nat → Nat} {G : Prop} (hf : f < 5) (hP2 : P ≤ 2) (hx : yt_ok n ya_kind ya_value kN vl) (ho : yo_ok f P n kN vl oc ya_length ya_parameters)
    (hG : G → bw_is n oc sp ∧ tr_ok n kN oc sp bd bi ∧ (∀ s, s < n → bd s ≤ 100)) (hGi : (∀ s, s < n → aw oc s ≠ 0) → aw oc n = 0 → G)
    (h1 : ∀ t up tu de be td, t < n → aw oc t = 0 → (∀ s, s < t → aw oc s ≠ 0) → yr_ok ya_up ya_turn ya_depth ya_below up tu de be → post (nI t) (yf_place, yf_points, yf_names, yf_textEnd, yf_made, yf_entry, yf_waiting, yf_values, yf_bound, yf_cells, yf_conses, yf_lams, yf_steps, yf_atWork, yf_end, yf_writtenCount, ya_kind, up, tu, de, ya_value, be, ya_length, ya_parameters, ya_codes, ya_codeCount, ya_form, ya_colour, ya_same, ya_one, ya_two, td, ya_numbered, ya_text, ya_ofFunction, ya_codeEnd, ya_instance, ya_token, ya_env, ya_tag, ya_cellEnv, ya_boundNext, ya_step, ya_boundNumber, ya_boundTag, ya_headTag, ya_tailTag, ya_number, ya_boundValue, ya_head, ya_tail, ya_written))
    (h2 : ∀ up tu de be td, (∀ s, s < n → aw oc s ≠ 0) → aw oc n = 0 → G → yr_ok ya_up ya_turn ya_depth ya_below up tu de be → yd_ok G oc sp bd up tu de be n → post (-1) (yf_place, yf_points, yf_names, yf_textEnd, yf_made, yf_entry, yf_waiting, yf_values, yf_bound, yf_cells, yf_conses, yf_lams, yf_steps, yf_atWork, yf_end, yf_writtenCount, ya_kind, up, tu, de, ya_value, be, ya_length, ya_parameters, ya_codes, ya_codeCount, ya_form, ya_colour, ya_same, ya_one, ya_two, td, ya_numbered, ya_text, ya_ofFunction, ya_codeEnd, ya_instance, ya_token, ya_env, ya_tag, ya_cellEnv, ya_boundNext, ya_step, ya_boundNumber, ya_boundTag, ya_headTag, ya_tailTag, ya_number, ya_boundValue, ya_head, ya_tail, ya_written))
    (h3 : ∀ up tu de be td, (∀ s, s < n → aw oc s ≠ 0) → aw oc n ≠ 0 → yr_ok ya_up ya_turn ya_depth ya_below up tu de be → post (nI n) (yf_place, yf_points, yf_names, yf_textEnd, yf_made, yf_entry, yf_waiting, yf_values, yf_bound, yf_cells, yf_conses, yf_lams, yf_steps, yf_atWork, yf_end, yf_writtenCount, ya_kind, up, tu, de, ya_value, be, ya_length, ya_parameters, ya_codes, ya_codeCount, ya_form, ya_colour, ya_same, ya_one, ya_two, td, ya_numbered, ya_text, ya_ofFunction, ya_codeEnd, ya_instance, ya_token, ya_env, ya_tag, ya_cellEnv, ya_boundNext, ya_step, ya_boundNumber, ya_boundTag, ya_headTag, ya_tailTag, ya_number, ya_boundValue, ya_head, ya_tail, ya_written)) :
    ∀ q i fu up tu de be td st, i + q = n → 0 < i → q < fu → (∀ s, s < i → aw oc s ≠ 0) → sk_ok 72 (aw oc i) td st → (∀ s ∈ st, s / 3 < i ∧ s % 3 < oc (s / 3)) → (G → cp_ok sp i st) → yd_ok G oc sp bd up tu de be i → yr_ok ya_up ya_turn ya_depth ya_below up tu de be →
      wY_shape_20 post (nI f) (nI P) (nI n) yf_place yf_points yf_names yf_textEnd yf_made yf_entry yf_waiting yf_values yf_bound yf_cells yf_conses yf_lams yf_steps yf_atWork yf_end yf_writtenCount fu (nI (aw oc i)) (nI i) ya_kind up tu de ya_value be ya_length ya_parameters ya_codes ya_codeCount ya_form ya_colour ya_same ya_one ya_two td ya_numbered ya_text ya_ofFunction ya_codeEnd ya_instance ya_token ya_env ya_tag ya_cellEnv ya_boundNext ya_step ya_boundNumber ya_boundTag ya_headTag ya_tailTag ya_number ya_boundValue ya_head ya_tail ya_written := by
  have n24 := hx.1
  intro q
  induction q with
  | zero =>
    intro i fu up tu de be td st hi hi0 hfu haw hs hsl hcp hyd hyr
    obtain ⟨fu, rfl⟩ : ∃ g, fu = g + 1 := ⟨fu - 1, by omega⟩
    have e : i = n := by omega
    subst e
    have hb := aw_le (oc := oc) i (fun s hs => (ho s hs).1)
    exact br_t (nI_le (Nat.le_refl _) (by omega)) (pk_le (aw oc i) 0 (fun z => h2 up tu de be td haw (by omega) (hGi haw (by omega)) hyr hyd) (fun z => h3 up tu de be td haw (by omega) hyr))
  | succ q ih =>
    intro i fu up tu de be td st hi hi0 hfu haw hs hsl hcp hyd hyr
    obtain ⟨fu, rfl⟩ : ∃ g, fu = g + 1 := ⟨fu - 1, by omega⟩
    have hin : i < n := by omega
    have hb := aw_le (oc := oc) i (fun s hs => (ho s (by omega)).1)
    refine br_f (nI_ge (by omega) (by omega)) (pk_eq (aw oc i) 0 (fun z => h1 i up tu de be td hin z haw hyr) (fun z => ?_))
    obtain ⟨h, hh⟩ : ∃ h, aw oc i = h + 1 := ⟨aw oc i - 1, by omega⟩
    have haw1 := aw_s z
    cases st with
    | nil => have := hs.1; simp only [List.length_nil] at this; omega
    | cons s0 st =>
      rw [hh] at hs ⊢
      obtain ⟨p1, p2, p3⟩ := sk_pop hs
      obtain ⟨u1, u2⟩ := hsl s0 (by simp)
      obtain ⟨u, hu⟩ : ∃ u, s0 / 3 = u := ⟨_, rfl⟩
      obtain ⟨j, hj⟩ : ∃ j, s0 % 3 = j := ⟨_, rfl⟩
      rw [hu] at u1 u2
      rw [hj] at u2
      have es : s0 = 3 * u + j := by omega
      have hj3 := (ho u (by omega)).1
      refine nm_r (pk_m1 h) (And.intro (pk_in h 1500 (by omega)) (nm_r (e' := nI s0) (by rw [nI_clamp (by omega)]; exact p1) (br_t (nI_pos' (by omega)) (And.intro (by decide) ?_))))
      have ed : nI s0 / 3 = nI u := by rw [← hu]; exact pk_div (d := 3) (by omega) (by omega) (by omega)
      have er : nI s0 - nI s0 / 3 * 3 = nI j := by rw [← hj]; exact pk_rem (d := 3) (by omega) (by omega) (by omega)
      rw [ed]
      have ca : ((120 : Int32) + nI i).toNatClampNeg = 120 + i := by rw [ix_120]; exact nI_clamp (by omega)
      have pin : vp_in ((120 : Int32) + nI i) 264 := pk_in (120 + i) 264 (by omega) (ix_120 i)
      have cu : ((120 : Int32) + nI u).toNatClampNeg = 120 + u := by rw [ix_120]; exact nI_clamp (by omega)
      have e360 : (360 : Int32) + nI s0 = nI (360 + s0) := nI_add 360 s0
      refine And.intro pin (nm_r (e' := upd up (120 + i) (nI u)) (by rw [ca, nr_b (by omega)]) (br_t (nI_pos' (by omega)) (And.intro (by decide) ?_)))
      rw [er]
      refine And.intro pin (nm_r (e' := upd tu (120 + i) (nI j)) (by rw [ca, nr_b (by omega)]) (br_f (nI_pos (by omega)) (And.intro (pk_in (360 + s0) 792 (by omega) e360) (nm_r (e' := upd be (360 + s0) (nI i)) (by rw [e360, nI_clamp (by omega), nr_s (by omega)]) (br_t (nI_pos' (by omega)) (And.intro (pk_in (120 + u) 264 (by omega) (ix_120 u)) (And.intro (by decide) ?_)))))))
      obtain ⟨k1, k2, _, _, _⟩ := hx.2 u (by omega)
      rw [er, ix_120]
      refine y_binds (by omega) k1 k2 (by omega) (And.intro pin (nm_e ?_))
      rw [ca, nI_clamp (n := 120 + u) (by omega), ix_120]
      refine y_operands hf hin hx ho (nm_r (e' := nI (oc i) + (-1)) (Int32.sub_eq_add_neg _ _) (Exists.intro (oc i + 1) ?_))
      have hoi := (ho i hin).1
      refine y_sh180 (by omega) (oc i) (oc i + 1) h td st hoi (by omega) (by omega) p3 (fun td' hs' => ?_)
      have eaw : h + oc i = aw oc (i + 1) := by omega
      rw [eaw] at hs' ⊢
      rw [nI_1]
      refine ih (i + 1) fu _ _ _ _ td' (sl_of i (oc i) st) (by omega) (by omega) (by omega) (fun s hs'' => ?_) hs' (fun s hs'' => ?_) (fun hg => ?_) (fun s hs'' => ?_) ⟨fun a ha => ?_, fun a ha => ?_⟩
      · by_cases y : s = i
        · rw [y]; exact z
        · exact haw s (by omega)
      · rcases sl_mem _ _ s hs'' with y | ⟨k, y1, y2⟩
        · obtain ⟨w1, w2⟩ := hsl s (by simp [y]); exact ⟨by omega, w2⟩
        · have e1 : s / 3 = i := by omega
          have e2 : s % 3 = k := by omega
          rw [e1, e2]; exact ⟨by omega, y1⟩
      · obtain ⟨c1, c2⟩ := hcp hg
        refine sl_cp (oc i) st hoi ?_
        rw [((hG hg).1.2.2 i hin).2.2.1]; exact c2
      · by_cases y : s = i
        · subst y
          refine ⟨fun hg => ?_, fun w => by omega, fun _ hg => ⟨u, j, u1, u2, ?_, by rw [pk_us], by rw [pk_us], by rw [← Nat.add_assoc] at *; rw [show 360 + 3 * u + j = 360 + s0 by omega, pk_us]⟩⟩
          · rw [pk_us]
            obtain ⟨_, t2, t3⟩ := hG hg
            obtain ⟨c1, _⟩ := hcp hg
            rw [hu, hj] at c1
            have d1 := (t2.2 u (by omega) j u2).1
            rw [c1] at d1
            have d2 := (hyd u (by omega)).1 hg
            rw [d2, nI_add, ← d1, nr_b (by have := t3 s hin; omega)]
          · obtain ⟨c1, _⟩ := hcp hg
            rw [hu, hj] at c1; exact c1.symm
        · obtain ⟨w1, w2, w3⟩ := hyd s (by omega)
          rw [pk_un (by omega), pk_un (by omega)]
          refine ⟨w1, w2, fun s0' hg => ?_⟩
          obtain ⟨u', j', v1, v2, v3, v4, v5, v6⟩ := w3 s0' hg
          refine ⟨u', j', v1, v2, v3, v4, by rw [pk_un (by omega)]; exact v5, ?_⟩
          have hj3' := (ho u' (by omega)).1
          rw [pk_un (by
            intro w
            have : u' = u ∧ j' = j := by omega
            obtain ⟨c1, _⟩ := hcp hg
            rw [hu, hj] at c1
            rw [this.1, this.2, c1] at v3
            exact y v3)]
          exact v6
      · rw [pk_un (by omega), pk_un (by omega), pk_un (by omega)]; exact hyr.1 a ha
      · rw [pk_un (by omega)]; exact hyr.2 a ha
theorem y_shape {post : Int32 → SY → Prop} {f P n : Nat} {kN : Nat → Nat} {vl : Nat → Int32} {oc sp bd bi : Nat → Nat} {G : Prop} (hf : f < 5) (hP2 : P ≤ 2) (hl : ya_length 5 = nI n) (hx : yt_ok n ya_kind ya_value kN vl) (ho : yo_ok f P n kN vl oc ya_length ya_parameters)
    (hG : G → bw_is n oc sp ∧ tr_ok n kN oc sp bd bi ∧ (∀ s, s < n → bd s ≤ 100) ∧ bd 0 = P) (hGi : (∀ s, s < n → aw oc s ≠ 0) → aw oc n = 0 → G)
    (h1 : ∀ t up tu de be td, t < n → aw oc t = 0 → (∀ s, s < t → aw oc s ≠ 0) → yr_ok ya_up ya_turn ya_depth ya_below up tu de be → post (nI t) (yf_place, yf_points, yf_names, yf_textEnd, yf_made, yf_entry, yf_waiting, yf_values, yf_bound, yf_cells, yf_conses, yf_lams, yf_steps, yf_atWork, yf_end, yf_writtenCount, ya_kind, up, tu, de, ya_value, be, ya_length, ya_parameters, ya_codes, ya_codeCount, ya_form, ya_colour, ya_same, ya_one, ya_two, td, ya_numbered, ya_text, ya_ofFunction, ya_codeEnd, ya_instance, ya_token, ya_env, ya_tag, ya_cellEnv, ya_boundNext, ya_step, ya_boundNumber, ya_boundTag, ya_headTag, ya_tailTag, ya_number, ya_boundValue, ya_head, ya_tail, ya_written))
    (h2 : ∀ up tu de be td, (∀ s, s < n → aw oc s ≠ 0) → aw oc n = 0 → G → yr_ok ya_up ya_turn ya_depth ya_below up tu de be → yd_ok G oc sp bd up tu de be n → post (-1) (yf_place, yf_points, yf_names, yf_textEnd, yf_made, yf_entry, yf_waiting, yf_values, yf_bound, yf_cells, yf_conses, yf_lams, yf_steps, yf_atWork, yf_end, yf_writtenCount, ya_kind, up, tu, de, ya_value, be, ya_length, ya_parameters, ya_codes, ya_codeCount, ya_form, ya_colour, ya_same, ya_one, ya_two, td, ya_numbered, ya_text, ya_ofFunction, ya_codeEnd, ya_instance, ya_token, ya_env, ya_tag, ya_cellEnv, ya_boundNext, ya_step, ya_boundNumber, ya_boundTag, ya_headTag, ya_tailTag, ya_number, ya_boundValue, ya_head, ya_tail, ya_written))
    (h3 : ∀ up tu de be td, (∀ s, s < n → aw oc s ≠ 0) → aw oc n ≠ 0 → yr_ok ya_up ya_turn ya_depth ya_below up tu de be → post (nI n) (yf_place, yf_points, yf_names, yf_textEnd, yf_made, yf_entry, yf_waiting, yf_values, yf_bound, yf_cells, yf_conses, yf_lams, yf_steps, yf_atWork, yf_end, yf_writtenCount, ya_kind, up, tu, de, ya_value, be, ya_length, ya_parameters, ya_codes, ya_codeCount, ya_form, ya_colour, ya_same, ya_one, ya_two, td, ya_numbered, ya_text, ya_ofFunction, ya_codeEnd, ya_instance, ya_token, ya_env, ya_tag, ya_cellEnv, ya_boundNext, ya_step, ya_boundNumber, ya_boundTag, ya_headTag, ya_tailTag, ya_number, ya_boundValue, ya_head, ya_tail, ya_written)) :
    wpY_shape post (yf_place, yf_points, yf_names, yf_textEnd, yf_made, yf_entry, yf_waiting, yf_values, yf_bound, yf_cells, yf_conses, yf_lams, yf_steps, yf_atWork, yf_end, yf_writtenCount, ya_kind, ya_up, ya_turn, ya_depth, ya_value, ya_below, ya_length, ya_parameters, ya_codes, ya_codeCount, ya_form, ya_colour, ya_same, ya_one, ya_two, ya_todo, ya_numbered, ya_text, ya_ofFunction, ya_codeEnd, ya_instance, ya_token, ya_env, ya_tag, ya_cellEnv, ya_boundNext, ya_step, ya_boundNumber, ya_boundTag, ya_headTag, ya_tailTag, ya_number, ya_boundValue, ya_head, ya_tail, ya_written) (nI f) (nI P) := by
  have n24 := hx.1
  have a0 : aw oc 0 = 1 := rfl
  have yr0 : yr_ok ya_up ya_turn ya_depth ya_below ya_up ya_turn ya_depth ya_below := ⟨fun _ _ => ⟨rfl, rfl, rfl⟩, fun _ _ => rfl⟩
  refine nm_r (e' := nI n) hl (nm_r (e' := upd ya_todo 0 (-1)) (by rw [nr_sm]) (Exists.intro (n + 2) ?_))
  by_cases n0 : n = 0
  · subst n0
    exact br_t (by decide) (br_f (by decide) (h3 _ _ _ _ _ (fun s hs => by omega) (by rw [a0]; omega) yr0))
  · have hin : 0 < n := by omega
    have pin : vp_in ((120 : Int32) + 0) 264 := pk_in 120 264 (by omega)
    have c0 : ((120 : Int32) + 0).toNatClampNeg = 120 := nI_clamp (n := 120) (by omega)
    refine br_f (nI_ge (a := 0) (by omega) (by omega)) (br_f (by decide) (nm_r (e' := nI 0) (by decide) (And.intro (pk_in 0 1500 (by omega)) (nm_r (e' := -1) (by rw [nI_clamp (by omega), pk_us]) (br_f (by decide) ?_)))))
    refine And.intro pin (nm_r (e' := upd ya_up 120 (-1)) (by rw [c0, nr_bm']) (br_f (by decide) (And.intro pin (nm_r (e' := upd ya_turn 120 (nI 0)) (by rw [c0]; exact congrArg (upd ya_turn 120) (nr_b (n := 0) (by omega))) (br_t (by decide) (br_f (by decide) (And.intro pin (nm_r (e' := upd ya_depth 120 (nI P)) (by rw [c0, nr_b (by omega)]) ?_))))))))
    have hoi := (ho 0 hin).1
    have e120 : (120 : Int32) + 0 = nI (120 + 0) := rfl
    rw [e120]
    refine y_operands hf hin hx ho (nm_r (e' := nI (oc 0) + (-1)) (Int32.sub_eq_add_neg _ _) (Exists.intro (oc 0 + 1) ?_))
    refine y_sh180 (i := 0) (by omega) (oc 0) (oc 0 + 1) 0 _ [] hoi (by omega) (by omega) ⟨rfl, fun n hn => by simp at hn, fun i hi => by omega⟩ (fun td' hs' => ?_)
    have haw1 := aw_s (oc := oc) (t := 0) (by rw [a0]; omega)
    have eaw : 0 + oc 0 = aw oc (0 + 1) := by omega
    rw [eaw] at hs' ⊢
    refine y_sh20 (sp := sp) (bd := bd) (bi := bi) (G := G) hf hP2 hx ho (fun g => ⟨(hG g).1, (hG g).2.1, (hG g).2.2.1⟩) hGi h1 h2 h3 (n - 1) 1 (n + 1) _ _ _ _ td' (sl_of 0 (oc 0) []) (by omega) (by omega) (by omega) (fun s hs => ?_) hs' (fun s hs => ?_) (fun hg => ?_) (fun s hs => ?_) ⟨fun a ha => ?_, fun _ _ => rfl⟩
    · have : s = 0 := by omega
      subst this; rw [a0]; omega
    · rcases sl_mem _ _ s hs with y | ⟨k, y1, y2⟩
      · simp at y
      · have e1 : s / 3 = 0 := by omega
        have e2 : s % 3 = k := by omega
        rw [e1, e2]; exact ⟨by omega, y1⟩
    · exact sl_cp (oc 0) [] hoi trivial
    · have : s = 0 := by omega
      subst this
      refine ⟨fun hg => ?_, fun _ => ?_, fun w => by omega⟩
      · rw [Nat.add_zero, pk_us, (hG hg).2.2.2]
      · rw [Nat.add_zero, pk_us]
    · rw [pk_un (by omega), pk_un (by omega), pk_un (by omega)]; exact ⟨rfl, rfl, rfl⟩
end
section
variable {f_saidPlace f_instanceCount f_nodeCount f_equationCount f_stackCount f_wordCount f_depth f_cellCount f_consCount f_closureCount f_stepCount f_runAnswer f_writtenCount : Int32} {a_kinds a_values a_spans a_bounds a_binders a_lengths a_parameterCounts a_typeCodes a_typeLengths a_instanceFunctions a_nodeKinds a_nodeLefts a_nodeRights a_nodeSizes a_equationLefts a_equationRights a_stackLefts a_stackRights a_words a_boundWords a_cellFirsts a_cellSeconds a_closureTokens a_closureWords a_written : Nat → Int32}
variable {yf_place yf_points yf_names yf_textEnd yf_made yf_entry yf_waiting yf_values yf_bound yf_cells yf_conses yf_lams yf_steps yf_atWork yf_end yf_writtenCount : Int32} {ya_kind ya_up ya_turn ya_depth ya_value ya_below ya_length ya_parameters ya_codes ya_codeCount ya_form ya_colour ya_same ya_one ya_two ya_todo ya_numbered ya_text ya_ofFunction ya_codeEnd ya_instance ya_token ya_env ya_tag ya_cellEnv ya_boundNext ya_step ya_boundNumber ya_boundTag ya_headTag ya_tailTag ya_number ya_boundValue ya_head ya_tail ya_written : Nat → Int32}
/-- function g has a call of one without a body -/
def lb (kN vN : Nat → Nat → Nat) (ln : Nat → Nat) (g : Nat) : Prop := ∃ t, t < ln g ∧ kN g t = 4 ∧ ln (vN g t) = 0
noncomputable def dp1 (kN vN : Nat → Nat → Nat) (ln : Nat → Nat) (g : Nat) : Nat → Nat := @ite _ (lb kN vN ln g) (Classical.propDecidable _) (updN ln g 0) ln
theorem dp1_t {kN vN : Nat → Nat → Nat} {ln : Nat → Nat} {g : Nat} (h : lb kN vN ln g) : dp1 kN vN ln g = updN ln g 0 := by unfold dp1; exact if_pos h
theorem dp1_f {kN vN : Nat → Nat → Nat} {ln : Nat → Nat} {g : Nat} (h : ¬ lb kN vN ln g) : dp1 kN vN ln g = ln := by unfold dp1; exact if_neg h
noncomputable def dpr (kN vN : Nat → Nat → Nat) (ln : Nat → Nat) : Nat → Nat → Nat
  | 0 => ln
  | g + 1 => dp1 kN vN (dpr kN vN ln g) g
noncomputable def dpn (kN vN : Nat → Nat → Nat) (ln : Nat → Nat) : Nat → Nat → Nat
  | 0 => ln
  | r + 1 => dpr kN vN (dpn kN vN ln r) 5
theorem dp1_or {kN vN : Nat → Nat → Nat} {ln : Nat → Nat} {g h : Nat} : dp1 kN vN ln g h = ln h ∨ dp1 kN vN ln g h = 0 := by
  by_cases z : lb kN vN ln g
  · rw [dp1_t z]
    by_cases y : h = g
    · subst y; exact Or.inr uN_s
    · exact Or.inl (uN_n y)
  · rw [dp1_f z]; exact Or.inl rfl
theorem dpr_or {kN vN : Nat → Nat → Nat} {ln : Nat → Nat} : ∀ g h, dpr kN vN ln g h = ln h ∨ dpr kN vN ln g h = 0 := by
  intro g
  induction g with
  | zero => intro h; exact Or.inl rfl
  | succ g ih =>
    intro h
    have e : dpr kN vN ln (g + 1) h = dp1 kN vN (dpr kN vN ln g) g h := rfl
    rw [e]
    rcases dp1_or (kN := kN) (vN := vN) (ln := dpr kN vN ln g) (g := g) (h := h) with z | z
    · rw [z]; exact ih h
    · exact Or.inr z
theorem dpn_or {kN vN : Nat → Nat → Nat} {ln : Nat → Nat} : ∀ r h, dpn kN vN ln r h = ln h ∨ dpn kN vN ln r h = 0 := by
  intro r
  induction r with
  | zero => intro h; exact Or.inl rfl
  | succ r ih =>
    intro h
    have e : dpn kN vN ln (r + 1) h = dpr kN vN (dpn kN vN ln r) 5 h := rfl
    rw [e]
    rcases dpr_or (kN := kN) (vN := vN) (ln := dpn kN vN ln r) 5 h with z | z
    · rw [z]; exact ih h
    · exact Or.inr z
def nz (ln : Nat → Nat) : Nat := sm (fun h => if ln h = 0 then 0 else 1) 5
theorem nz_le {ln ln' : Nat → Nat} (h : ∀ g, ln' g = ln g ∨ ln' g = 0) : nz ln' ≤ nz ln := by
  unfold nz
  have := sm_mul (g := fun h => if ln' h = 0 then 0 else 1) (h := fun h => if ln h = 0 then 0 else 1) (a := 1) (b := 1) 5 (fun j _ => by
    rcases h j with z | z
    · rw [z]; exact Nat.le_refl _
    · rw [if_pos z]; omega)
  omega
theorem nz_dn {ln : Nat → Nat} {g : Nat} (hg : g < 5) (h : ln g ≠ 0) : nz (updN ln g 0) + 1 = nz ln := by
  have := sm_one (g := fun h => if ln h = 0 then 0 else 1) (g' := fun h => if updN ln g 0 h = 0 then 0 else 1) (a := g) 5 hg (fun j _ hj => by simp only [uN_n hj])
  simp only [uN_s, if_neg h, if_true] at this
  unfold nz; omega
theorem dpr_id {kN vN : Nat → Nat → Nat} {ln : Nat → Nat} : ∀ g, (∀ h, h < g → ¬ lb kN vN ln h) → dpr kN vN ln g = ln := by
  intro g
  induction g with
  | zero => intro _; rfl
  | succ g ih =>
    intro h
    have e := ih (fun k hk => h k (by omega))
    show dp1 kN vN (dpr kN vN ln g) g = ln
    rw [e]; exact dp1_f (h g (by omega))
/-- a round reaches one more, or none is left -/
theorem dpr_dn {kN vN : Nat → Nat → Nat} {ln : Nat → Nat} : (∀ g, g < 5 → ¬ lb kN vN ln g) ∨ nz (dpr kN vN ln 5) < nz ln := by
  by_cases h : ∃ g, g < 5 ∧ lb kN vN ln g
  · right
    obtain ⟨g, ⟨hg, hl⟩, hmin⟩ := pk_least (fun g => g < 5 ∧ lb kN vN ln g) h
    have e : dpr kN vN ln g = ln := dpr_id g (fun k hk z => hmin k hk ⟨by omega, z⟩)
    have e1 : dpr kN vN ln (g + 1) = updN ln g 0 := by
      show dp1 kN vN (dpr kN vN ln g) g = _
      rw [e]; exact dp1_t hl
    have hne : ln g ≠ 0 := by obtain ⟨t, ht, _⟩ := hl; omega
    have h1 := nz_dn hg hne
    have hge : ∀ d, nz (dpr kN vN ln (g + 1 + d)) ≤ nz (dpr kN vN ln (g + 1)) := by
      intro d
      induction d with
      | zero => exact Nat.le_refl _
      | succ d ih =>
        have := nz_le (ln := dpr kN vN ln (g + 1 + d)) (ln' := dpr kN vN ln (g + 1 + (d + 1))) (fun k => dp1_or)
        omega
    have h2 := hge (5 - (g + 1))
    have e5 : g + 1 + (5 - (g + 1)) = 5 := by omega
    rw [e5, e1] at h2
    omega
  · left
    intro g hg z
    exact h ⟨g, hg, z⟩
theorem dpn_st {kN vN : Nat → Nat → Nat} {ln : Nat → Nat} {f : Nat} (hf : f < 5) (h0 : ln f = 0) : ∀ g, g < 5 → ¬ lb kN vN (dpn kN vN ln 5) g := by
  have nz4 : nz ln ≤ 4 := by
    have h1 := sm_one (g := fun h => if updN ln f 1 h = 0 then 0 else 1) (g' := fun h => if ln h = 0 then 0 else 1) (a := f) 5 hf (fun j _ hj => by simp only [uN_n hj])
    have h2 := sm_le (g := fun h => if updN ln f 1 h = 0 then 0 else 1) (b := 1) 5 (fun j _ => by split <;> omega)
    simp only [uN_s, if_pos h0] at h1
    unfold nz
    have h3 : ¬ (1 : Nat) = 0 := by omega
    simp only [if_neg h3] at h1
    omega
  have key : ∀ r, (∀ g, g < 5 → ¬ lb kN vN (dpn kN vN ln r) g) ∨ nz (dpn kN vN ln r) + r ≤ 4 := by
    intro r
    induction r with
    | zero => exact Or.inr nz4
    | succ r ih =>
      rcases ih with z | z
      · left
        have e : dpn kN vN ln (r + 1) = dpn kN vN ln r := dpr_id 5 z
        rw [e]; exact z
      · rcases dpr_dn (kN := kN) (vN := vN) (ln := dpn kN vN ln r) with y | y
        · left
          have e : dpn kN vN ln (r + 1) = dpn kN vN ln r := dpr_id 5 y
          rw [e]; exact y
        · right
          have e : dpn kN vN ln (r + 1) = dpr kN vN (dpn kN vN ln r) 5 := rfl
          rw [e]; omega
  rcases key 5 with z | z
  · exact z
  · omega
/-- tokens of the five functions, as X holds them -/
def xl_ok (ki va : Nat → Int32) (kN vN : Nat → Nat → Nat) (n0 : Nat → Nat) : Prop := ∀ g, g < 5 → n0 g ≤ 24 ∧ ∀ t, t < n0 g → ki (g * 24 + t) = nI (kN g t) ∧ kN g t ≤ 16 ∧ (kN g t = 4 → vN g t < 5 ∧ va (g * 24 + t) = nI (vN g t))
theorem x_cm7 {post : Int32 → Prop} {g : Nat} {kN vN : Nat → Nat → Nat} {n0 ln : Nat → Nat} (hg : g < 5) (hx : xl_ok a_kinds a_values kN vN n0) (hl : ∀ h, h < 5 → a_lengths h = nI (ln h) ∧ ln h ≤ n0 h) (h1 : lb kN vN ln g → post 1) (h0 : ¬ lb kN vN ln g → post 0) :
    ∀ q t fu (x : Int32), t + q = ln g → q < fu → (x = 0 ∧ (∀ s, s < t → ¬ (kN g s = 4 ∧ ln (vN g s) = 0)) ∨ x = 1 ∧ lb kN vN ln g) → wX_callsMissing_7 post (nI g) f_saidPlace f_instanceCount f_nodeCount f_equationCount f_stackCount f_wordCount f_depth f_cellCount f_consCount f_closureCount f_stepCount f_runAnswer f_writtenCount a_kinds a_values a_spans a_bounds a_binders a_lengths a_parameterCounts a_typeCodes a_typeLengths a_instanceFunctions a_nodeKinds a_nodeLefts a_nodeRights a_nodeSizes a_equationLefts a_equationRights a_stackLefts a_stackRights a_words a_boundWords a_cellFirsts a_cellSeconds a_closureTokens a_closureWords a_written fu x (nI (g * 24 + t)) := by
  obtain ⟨n24, hxt⟩ := hx g hg
  obtain ⟨l1, l2⟩ := hl g hg
  have e24 : nI g * 24 + nI (ln g) = nI (g * 24 + ln g) := ix_24 g (ln g)
  intro q
  induction q with
  | zero =>
    intro t fu x ht hfu hx'
    obtain ⟨fu, rfl⟩ : ∃ g, fu = g + 1 := ⟨fu - 1, by omega⟩
    have e : t = ln g := by omega
    refine And.intro (pk_in g 11 (by omega)) ?_
    rw [nI_clamp (n := g) (by omega), l1, e24]
    rcases hx' with ⟨rfl, hx'⟩ | ⟨rfl, hx'⟩
    · refine br_t (nI_le (by omega) (by omega)) (And.intro bo_0 (h0 (fun z => ?_)))
      obtain ⟨s, s1, s2, s3⟩ := z
      exact hx' s (by omega) ⟨s2, s3⟩
    · exact br_t (nI_le (by omega) (by omega)) (And.intro bo_1 (h1 hx'))
  | succ q ih =>
    intro t fu x ht hfu hx'
    obtain ⟨fu, rfl⟩ : ∃ g, fu = g + 1 := ⟨fu - 1, by omega⟩
    obtain ⟨b1, b2, b3⟩ := hxt t (by omega)
    have en : nI (g * 24 + t) + 1 = nI (g * 24 + (t + 1)) := nI_1 (g * 24 + t)
    refine And.intro (pk_in g 11 (by omega)) ?_
    rw [nI_clamp (n := g) (by omega), l1, e24]
    refine br_f (nI_ge (by omega) (by omega)) ?_
    rcases hx' with ⟨rfl, hx'⟩ | ⟨rfl, hx'⟩
    · refine br_t rfl (x_missing (by omega) b1 b2 (fun z => ⟨vN g t, b3 z⟩) (fun h => br_f n1_0 (nm_r en (ih (t + 1) fu 1 (by omega) (by omega) (Or.inr ⟨rfl, ?_⟩)))) (fun h => br_t rfl (nm_r en (ih (t + 1) fu 0 (by omega) (by omega) (Or.inl ⟨rfl, fun s hs => ?_⟩)))))
      · obtain ⟨k4, h', g1, g2, g3⟩ := h
        have eh : h' = vN g t := by rw [(b3 k4).2] at g2; have := (b3 k4).1; exact ((nI_eq (by omega) (by omega)).mp g2).symm
        rw [eh, (hl _ (b3 k4).1).1] at g3
        have := (hl _ (b3 k4).1).2
        have := (hx _ (b3 k4).1).1
        exact ⟨t, by omega, k4, (nI_eq (b := 0) (by omega) (by omega)).mp g3⟩
      · by_cases y : s = t
        · subst y
          rintro ⟨k4, z⟩
          refine h k4 (vN g s) (b3 k4).1 (b3 k4).2 ?_
          rw [(hl _ (b3 k4).1).1, z]; rfl
        · exact hx' s (by omega)
    · exact br_f n1_0 (nm_r en (ih (t + 1) fu 1 (by omega) (by omega) (Or.inr ⟨rfl, hx'⟩)))
theorem x_callsMissing {post : Int32 → Prop} {g : Nat} {kN vN : Nat → Nat → Nat} {n0 ln : Nat → Nat} (hg : g < 5) (hx : xl_ok a_kinds a_values kN vN n0) (hl : ∀ h, h < 5 → a_lengths h = nI (ln h) ∧ ln h ≤ n0 h) (h1 : lb kN vN ln g → post 1) (h0 : ¬ lb kN vN ln g → post 0) : wpX_callsMissing post (f_saidPlace, f_instanceCount, f_nodeCount, f_equationCount, f_stackCount, f_wordCount, f_depth, f_cellCount, f_consCount, f_closureCount, f_stepCount, f_runAnswer, f_writtenCount, a_kinds, a_values, a_spans, a_bounds, a_binders, a_lengths, a_parameterCounts, a_typeCodes, a_typeLengths, a_instanceFunctions, a_nodeKinds, a_nodeLefts, a_nodeRights, a_nodeSizes, a_equationLefts, a_equationRights, a_stackLefts, a_stackRights, a_words, a_boundWords, a_cellFirsts, a_cellSeconds, a_closureTokens, a_closureWords, a_written) (nI g) := by
  have := (hl g hg).2
  have := (hx g hg).1
  refine nm_r (e' := nI (g * 24 + 0)) (pk_mul g 24) (Exists.intro (ln g + 1) (x_cm7 hg hx hl h1 h0 (ln g) 0 (ln g + 1) 0 (by omega) (by omega) (Or.inl ⟨rfl, fun s hs => by omega⟩)))
def yl_ok (ki va : Nat → Int32) (kN vN : Nat → Nat → Nat) (n0 : Nat → Nat) : Prop := ∀ g, g < 5 → n0 g ≤ 24 ∧ ∀ t, t < n0 g → ki (24 * g + t) = nI (kN g t) ∧ kN g t ≤ 16 ∧ (kN g t = 4 → vN g t < 5 ∧ va (24 * g + t) = nI (vN g t))
theorem y_lost5 {post : Int32 → Prop} {g : Nat} {kN vN : Nat → Nat → Nat} {n0 ln : Nat → Nat} (hg : g < 5) (hx : yl_ok ya_kind ya_value kN vN n0) (hl : ∀ h, h < 5 → ya_length h = nI (ln h) ∧ ln h ≤ n0 h) (h1 : lb kN vN ln g → post 1) (h0 : ¬ lb kN vN ln g → post 0) :
    ∀ q t fu, t + q = ln g → q < fu → (∀ s, s < t → ¬ (kN g s = 4 ∧ ln (vN g s) = 0)) → wY_lost_5 post (nI g) yf_place yf_points yf_names yf_textEnd yf_made yf_entry yf_waiting yf_values yf_bound yf_cells yf_conses yf_lams yf_steps yf_atWork yf_end yf_writtenCount ya_kind ya_up ya_turn ya_depth ya_value ya_below ya_length ya_parameters ya_codes ya_codeCount ya_form ya_colour ya_same ya_one ya_two ya_todo ya_numbered ya_text ya_ofFunction ya_codeEnd ya_instance ya_token ya_env ya_tag ya_cellEnv ya_boundNext ya_step ya_boundNumber ya_boundTag ya_headTag ya_tailTag ya_number ya_boundValue ya_head ya_tail ya_written fu (nI (24 * g + t)) := by
  obtain ⟨n24, hxt⟩ := hx g hg
  obtain ⟨l1, l2⟩ := hl g hg
  have e24 : 24 * nI g + nI (ln g) = nI (24 * g + ln g) := ix24 g (ln g)
  intro q
  induction q with
  | zero =>
    intro t fu ht hfu hx'
    obtain ⟨fu, rfl⟩ : ∃ g, fu = g + 1 := ⟨fu - 1, by omega⟩
    refine And.intro (pk_in g 11 (by omega)) ?_
    rw [nI_clamp (n := g) (by omega), l1, e24]
    refine br_t (nI_le (by omega) (by omega)) (h0 (fun z => ?_))
    obtain ⟨s, s1, s2, s3⟩ := z
    exact hx' s (by omega) ⟨s2, s3⟩
  | succ q ih =>
    intro t fu ht hfu hx'
    obtain ⟨fu, rfl⟩ : ∃ g, fu = g + 1 := ⟨fu - 1, by omega⟩
    obtain ⟨b1, b2, b3⟩ := hxt t (by omega)
    have en : nI (24 * g + t) + 1 = nI (24 * g + (t + 1)) := nI_1 (24 * g + t)
    have pin : vp_in (nI (24 * g + t)) 264 := pk_in (24 * g + t) 264 (by omega)
    refine And.intro (pk_in g 11 (by omega)) ?_
    rw [nI_clamp (n := g) (by omega), l1, e24]
    refine br_f (nI_ge (by omega) (by omega)) (And.intro pin ?_)
    rw [nI_clamp (n := 24 * g + t) (by omega), b1]
    have next : ¬ (kN g t = 4 ∧ ln (vN g t) = 0) → wY_lost_5 post (nI g) yf_place yf_points yf_names yf_textEnd yf_made yf_entry yf_waiting yf_values yf_bound yf_cells yf_conses yf_lams yf_steps yf_atWork yf_end yf_writtenCount ya_kind ya_up ya_turn ya_depth ya_value ya_below ya_length ya_parameters ya_codes ya_codeCount ya_form ya_colour ya_same ya_one ya_two ya_todo ya_numbered ya_text ya_ofFunction ya_codeEnd ya_instance ya_token ya_env ya_tag ya_cellEnv ya_boundNext ya_step ya_boundNumber ya_boundTag ya_headTag ya_tailTag ya_number ya_boundValue ya_head ya_tail ya_written fu (nI (24 * g + (t + 1))) := by
      intro z
      refine ih (t + 1) fu (by omega) (by omega) (fun s hs => ?_)
      by_cases y : s = t
      · subst y; exact z
      · exact hx' s (by omega)
    refine pk_eq (kN g t) 4 (fun k4 => And.intro pin ?_) (fun k4 => nm_r en (next (fun z => k4 z.1)))
    obtain ⟨v1, v2⟩ := b3 k4
    have := (hl _ v1).2
    have := (hx _ v1).1
    rw [v2]
    refine And.intro (pk_in (vN g t) 11 (by omega)) ?_
    rw [nI_clamp (n := vN g t) (by omega), (hl _ v1).1]
    exact pk_eq (ln (vN g t)) 0 (fun z => h1 ⟨t, by omega, k4, z⟩) (fun z => nm_r en (next (fun w => z w.2)))
theorem y_lost {post : Int32 → Prop} {g : Nat} {kN vN : Nat → Nat → Nat} {n0 ln : Nat → Nat} (hg : g < 5) (hx : yl_ok ya_kind ya_value kN vN n0) (hl : ∀ h, h < 5 → ya_length h = nI (ln h) ∧ ln h ≤ n0 h) (h1 : lb kN vN ln g → post 1) (h0 : ¬ lb kN vN ln g → post 0) : wpY_lost post (yf_place, yf_points, yf_names, yf_textEnd, yf_made, yf_entry, yf_waiting, yf_values, yf_bound, yf_cells, yf_conses, yf_lams, yf_steps, yf_atWork, yf_end, yf_writtenCount, ya_kind, ya_up, ya_turn, ya_depth, ya_value, ya_below, ya_length, ya_parameters, ya_codes, ya_codeCount, ya_form, ya_colour, ya_same, ya_one, ya_two, ya_todo, ya_numbered, ya_text, ya_ofFunction, ya_codeEnd, ya_instance, ya_token, ya_env, ya_tag, ya_cellEnv, ya_boundNext, ya_step, ya_boundNumber, ya_boundTag, ya_headTag, ya_tailTag, ya_number, ya_boundValue, ya_head, ya_tail, ya_written) (nI g) := by
  have := (hl g hg).2
  have := (hx g hg).1
  refine nm_r (e' := nI (24 * g + 0)) (pk_mul 24 g) (Exists.intro (ln g + 1) (y_lost5 hg hx hl h1 h0 (ln g) 0 (ln g + 1) (by omega) (by omega) (fun s hs => by omega)))
end
section
variable {f_saidPlace f_instanceCount f_nodeCount f_equationCount f_stackCount f_wordCount f_depth f_cellCount f_consCount f_closureCount f_stepCount f_runAnswer f_writtenCount : Int32} {a_kinds a_values a_spans a_bounds a_binders a_lengths a_parameterCounts a_typeCodes a_typeLengths a_instanceFunctions a_nodeKinds a_nodeLefts a_nodeRights a_nodeSizes a_equationLefts a_equationRights a_stackLefts a_stackRights a_words a_boundWords a_cellFirsts a_cellSeconds a_closureTokens a_closureWords a_written : Nat → Int32}
variable {yf_place yf_points yf_names yf_textEnd yf_made yf_entry yf_waiting yf_values yf_bound yf_cells yf_conses yf_lams yf_steps yf_atWork yf_end yf_writtenCount : Int32} {ya_kind ya_up ya_turn ya_depth ya_value ya_below ya_length ya_parameters ya_codes ya_codeCount ya_form ya_colour ya_same ya_one ya_two ya_todo ya_numbered ya_text ya_ofFunction ya_codeEnd ya_instance ya_token ya_env ya_tag ya_cellEnv ya_boundNext ya_step ya_boundNumber ya_boundTag ya_headTag ya_tailTag ya_number ya_boundValue ya_head ya_tail ya_written : Nat → Int32}
theorem dpr_le {kN vN : Nat → Nat → Nat} {ln n0 : Nat → Nat} (h : ∀ g, g < 5 → ln g ≤ n0 g) (k : Nat) : ∀ g, g < 5 → dpr kN vN ln k g ≤ n0 g := by
  intro g hg
  rcases dpr_or (kN := kN) (vN := vN) (ln := ln) k g with z | z
  · rw [z]; exact h g hg
  · rw [z]; omega
theorem dpn_le {kN vN : Nat → Nat → Nat} {ln n0 : Nat → Nat} (h : ∀ g, g < 5 → ln g ≤ n0 g) (k : Nat) : ∀ g, g < 5 → dpn kN vN ln k g ≤ n0 g := by
  intro g hg
  rcases dpn_or (kN := kN) (vN := vN) (ln := ln) k g with z | z
  · rw [z]; exact h g hg
  · rw [z]; omega
theorem x_db16 {post : SX → Prop} {J9 : JX} {x2 : Int32} {kN vN : Nat → Nat → Nat} {n0 ln : Nat → Nat} (hx : xl_ok a_kinds a_values kN vN n0) (h0 : ∀ g, g < 5 → ln g ≤ n0 g)
    (hJ : ∀ le : Nat → Int32, (∀ h, h < 5 → le h = nI (dpr kN vN ln 5 h)) → (∀ j, 5 ≤ j → le j = a_lengths j) → J9 (x2 + 1) a_kinds a_values a_spans a_bounds a_binders le a_parameterCounts a_typeCodes a_typeLengths a_instanceFunctions a_nodeKinds a_nodeLefts a_nodeRights a_nodeSizes a_equationLefts a_equationRights a_stackLefts a_stackRights a_words a_boundWords a_cellFirsts a_cellSeconds a_closureTokens a_closureWords a_written) :
    ∀ q g fu (le : Nat → Int32), g + q = 5 → q < fu → (∀ h, h < 5 → le h = nI (dpr kN vN ln g h)) → (∀ j, 5 ≤ j → le j = a_lengths j) → wX_dropBody_16 post J9 x2 f_saidPlace f_instanceCount f_nodeCount f_equationCount f_stackCount f_wordCount f_depth f_cellCount f_consCount f_closureCount f_stepCount f_runAnswer f_writtenCount fu (nI g) a_kinds a_values a_spans a_bounds a_binders le a_parameterCounts a_typeCodes a_typeLengths a_instanceFunctions a_nodeKinds a_nodeLefts a_nodeRights a_nodeSizes a_equationLefts a_equationRights a_stackLefts a_stackRights a_words a_boundWords a_cellFirsts a_cellSeconds a_closureTokens a_closureWords a_written := by
  intro q
  induction q with
  | zero =>
    intro g fu le hg hfu h1 h2
    obtain ⟨fu, rfl⟩ : ∃ g, fu = g + 1 := ⟨fu - 1, by omega⟩
    have e : g = 5 := by omega
    subst e
    exact br_t (nI_le (a := 5) (by omega) (by omega)) (nm_e (hJ le h1 h2))
  | succ q ih =>
    intro g fu le hg hfu h1 h2
    obtain ⟨fu, rfl⟩ : ∃ g, fu = g + 1 := ⟨fu - 1, by omega⟩
    have hg5 : g < 5 := by omega
    refine br_f (nI_ge (b := 5) (by omega) (by omega)) ?_
    refine x_callsMissing (a_lengths := le) hg5 hx (fun h hh => ⟨h1 h hh, dpr_le h0 g h hh⟩) (fun hl => br_f n1_0 (And.intro (pk_in g 11 (by omega)) (nm_r (e' := upd le g 0) (by rw [nI_clamp (by omega)]) (nm_r (nI_1 g) (ih (g + 1) fu _ (by omega) (by omega) (fun h hh => ?_) (fun j hj => ?_)))))) (fun hl => br_t rfl (nm_r (nI_1 g) (ih (g + 1) fu le (by omega) (by omega) (fun h hh => ?_) h2)))
    · rw [dpr, dp1_t hl]
      by_cases z : h = g
      · rw [z, pk_us, uN_s]; rfl
      · rw [pk_un z, uN_n z]; exact h1 h hh
    · rw [pk_un (by omega)]; exact h2 j hj
    · rw [dpr, dp1_f hl]; exact h1 h hh
theorem x_db9 {post : SX → Prop} {kN vN : Nat → Nat → Nat} {n0 ln : Nat → Nat} (hx : xl_ok a_kinds a_values kN vN n0) (h0 : ∀ g, g < 5 → ln g ≤ n0 g)
    (hP : ∀ le : Nat → Int32, (∀ h, h < 5 → le h = nI (dpn kN vN ln 5 h)) → (∀ j, 5 ≤ j → le j = a_lengths j) → post (f_saidPlace, f_instanceCount, f_nodeCount, f_equationCount, f_stackCount, f_wordCount, f_depth, f_cellCount, f_consCount, f_closureCount, f_stepCount, f_runAnswer, f_writtenCount, a_kinds, a_values, a_spans, a_bounds, a_binders, le, a_parameterCounts, a_typeCodes, a_typeLengths, a_instanceFunctions, a_nodeKinds, a_nodeLefts, a_nodeRights, a_nodeSizes, a_equationLefts, a_equationRights, a_stackLefts, a_stackRights, a_words, a_boundWords, a_cellFirsts, a_cellSeconds, a_closureTokens, a_closureWords, a_written)) :
    ∀ q r fu (le : Nat → Int32), r + q = 5 → q < fu → (∀ h, h < 5 → le h = nI (dpn kN vN ln r h)) → (∀ j, 5 ≤ j → le j = a_lengths j) → wX_dropBody_9 post f_saidPlace f_instanceCount f_nodeCount f_equationCount f_stackCount f_wordCount f_depth f_cellCount f_consCount f_closureCount f_stepCount f_runAnswer f_writtenCount fu (nI r) a_kinds a_values a_spans a_bounds a_binders le a_parameterCounts a_typeCodes a_typeLengths a_instanceFunctions a_nodeKinds a_nodeLefts a_nodeRights a_nodeSizes a_equationLefts a_equationRights a_stackLefts a_stackRights a_words a_boundWords a_cellFirsts a_cellSeconds a_closureTokens a_closureWords a_written := by
  intro q
  induction q with
  | zero =>
    intro g fu le hg hfu h1 h2
    obtain ⟨fu, rfl⟩ : ∃ g, fu = g + 1 := ⟨fu - 1, by omega⟩
    have e : g = 5 := by omega
    subst e
    exact br_t (nI_le (a := 5) (by omega) (by omega)) (hP le h1 h2)
  | succ q ih =>
    intro r fu le hg hfu h1 h2
    obtain ⟨fu, rfl⟩ : ∃ g, fu = g + 1 := ⟨fu - 1, by omega⟩
    refine br_f (nI_ge (b := 5) (by omega) (by omega)) (Exists.intro 6 ?_)
    refine x_db16 (a_lengths := le) (J9 := wX_dropBody_9 post f_saidPlace f_instanceCount f_nodeCount f_equationCount f_stackCount f_wordCount f_depth f_cellCount f_consCount f_closureCount f_stepCount f_runAnswer f_writtenCount fu) (ln := dpn kN vN ln r) hx (dpn_le h0 r) (fun le' k1 k2 => ?_) 5 0 6 le (by omega) (by omega) h1 (fun _ _ => rfl)
    rw [nI_1]
    exact ih (r + 1) fu le' (by omega) (by omega) k1 (fun j hj => (k2 j hj).trans (h2 j hj))
theorem x_dropBody {post : SX → Prop} {f : Nat} {kN vN : Nat → Nat → Nat} {ln : Nat → Nat} (hf : f < 5) (hx : xl_ok a_kinds a_values kN vN ln) (hl : ∀ h, h < 5 → a_lengths h = nI (ln h))
    (hP : ∀ le : Nat → Int32, (∀ h, h < 5 → le h = nI (dpn kN vN (updN ln f 0) 5 h)) → (∀ j, 5 ≤ j → le j = a_lengths j) → post (f_saidPlace, f_instanceCount, f_nodeCount, f_equationCount, f_stackCount, f_wordCount, f_depth, f_cellCount, f_consCount, f_closureCount, f_stepCount, f_runAnswer, f_writtenCount, a_kinds, a_values, a_spans, a_bounds, a_binders, le, a_parameterCounts, a_typeCodes, a_typeLengths, a_instanceFunctions, a_nodeKinds, a_nodeLefts, a_nodeRights, a_nodeSizes, a_equationLefts, a_equationRights, a_stackLefts, a_stackRights, a_words, a_boundWords, a_cellFirsts, a_cellSeconds, a_closureTokens, a_closureWords, a_written)) : wpX_dropBody post (f_saidPlace, f_instanceCount, f_nodeCount, f_equationCount, f_stackCount, f_wordCount, f_depth, f_cellCount, f_consCount, f_closureCount, f_stepCount, f_runAnswer, f_writtenCount, a_kinds, a_values, a_spans, a_bounds, a_binders, a_lengths, a_parameterCounts, a_typeCodes, a_typeLengths, a_instanceFunctions, a_nodeKinds, a_nodeLefts, a_nodeRights, a_nodeSizes, a_equationLefts, a_equationRights, a_stackLefts, a_stackRights, a_words, a_boundWords, a_cellFirsts, a_cellSeconds, a_closureTokens, a_closureWords, a_written) (nI f) := by
  refine And.intro (pk_in f 11 (by omega)) (nm_r (e' := upd a_lengths f 0) (by rw [nI_clamp (by omega)]) (Exists.intro 6 ?_))
  refine x_db9 (a_lengths := upd a_lengths f 0) (ln := updN ln f 0) hx (fun g hg => ?_) (fun le k1 k2 => hP le k1 (fun j hj => ?_)) 5 0 6 _ (by omega) (by omega) (fun h hh => ?_) (fun _ _ => rfl)
  · by_cases z : g = f
    · rw [z, uN_s]; omega
    · rw [uN_n z]; omega
  · rw [k2 j hj, pk_un (by omega)]
  · show upd a_lengths f 0 h = nI (updN ln f 0 h)
    by_cases z : h = f
    · rw [z, pk_us, uN_s]; rfl
    · rw [pk_un z, uN_n z]; exact hl h hh
theorem y_df35 {post : Int32 → SY → Prop} {J27 : JY} {x1 x2 x3 : Int32} {kN vN : Nat → Nat → Nat} {n0 ln : Nat → Nat} (hx : yl_ok ya_kind ya_value kN vN n0) (h0 : ∀ g, g < 5 → ln g ≤ n0 g)
    (hJ : ∀ le : Nat → Int32, (∀ h, h < 5 → le h = nI (dpr kN vN ln 5 h)) → (∀ j, 5 ≤ j → le j = ya_length j) → J27 (x3 + 1) ya_kind ya_up ya_turn ya_depth ya_value ya_below le ya_parameters ya_codes ya_codeCount ya_form ya_colour ya_same ya_one ya_two ya_todo ya_numbered ya_text ya_ofFunction ya_codeEnd ya_instance ya_token ya_env ya_tag ya_cellEnv ya_boundNext ya_step ya_boundNumber ya_boundTag ya_headTag ya_tailTag ya_number ya_boundValue ya_head ya_tail ya_written) :
    ∀ q g fu (le : Nat → Int32), g + q = 5 → q < fu → (∀ h, h < 5 → le h = nI (dpr kN vN ln g h)) → (∀ j, 5 ≤ j → le j = ya_length j) → wY_define_35 post J27 x1 x2 x3 yf_place yf_points yf_names yf_textEnd yf_made yf_entry yf_waiting yf_values yf_bound yf_cells yf_conses yf_lams yf_steps yf_atWork yf_end yf_writtenCount fu (nI g) ya_kind ya_up ya_turn ya_depth ya_value ya_below le ya_parameters ya_codes ya_codeCount ya_form ya_colour ya_same ya_one ya_two ya_todo ya_numbered ya_text ya_ofFunction ya_codeEnd ya_instance ya_token ya_env ya_tag ya_cellEnv ya_boundNext ya_step ya_boundNumber ya_boundTag ya_headTag ya_tailTag ya_number ya_boundValue ya_head ya_tail ya_written := by
  intro q
  induction q with
  | zero =>
    intro g fu le hg hfu h1 h2
    obtain ⟨fu, rfl⟩ : ∃ g, fu = g + 1 := ⟨fu - 1, by omega⟩
    have e : g = 5 := by omega
    subst e
    exact br_t (nI_le (a := 5) (by omega) (by omega)) (nm_e (hJ le h1 h2))
  | succ q ih =>
    intro g fu le hg hfu h1 h2
    obtain ⟨fu, rfl⟩ : ∃ g, fu = g + 1 := ⟨fu - 1, by omega⟩
    have hg5 : g < 5 := by omega
    refine br_f (nI_ge (b := 5) (by omega) (by omega)) ?_
    refine y_lost (ya_length := le) hg5 hx (fun h hh => ⟨h1 h hh, dpr_le h0 g h hh⟩) (fun hl => br_f n1_0 (And.intro (pk_in g 11 (by omega)) (nm_r (e' := upd le g 0) (by rw [nI_clamp (by omega)]; exact congrArg _ (nr_b0 (n := 0) (by omega))) (nm_r (nI_1 g) (ih (g + 1) fu _ (by omega) (by omega) (fun h hh => ?_) (fun j hj => ?_)))))) (fun hl => br_t rfl (nm_r (nI_1 g) (ih (g + 1) fu le (by omega) (by omega) (fun h hh => ?_) h2)))
    · rw [dpr, dp1_t hl]
      by_cases z : h = g
      · rw [z, pk_us, uN_s]; rfl
      · rw [pk_un z, uN_n z]; exact h1 h hh
    · rw [pk_un (by omega)]; exact h2 j hj
    · rw [dpr, dp1_f hl]; exact h1 h hh
theorem y_df27 {post : Int32 → SY → Prop} {x1 x2 : Int32} {kN vN : Nat → Nat → Nat} {n0 ln : Nat → Nat} (hx : yl_ok ya_kind ya_value kN vN n0) (h0 : ∀ g, g < 5 → ln g ≤ n0 g)
    (hP : ∀ (fu : Nat) (le : Nat → Int32), (∀ h, h < 5 → le h = nI (dpn kN vN ln 5 h)) → (∀ j, 5 ≤ j → le j = ya_length j) → wY_define_27 post x1 x2 yf_place yf_points yf_names yf_textEnd yf_made yf_entry yf_waiting yf_values yf_bound yf_cells yf_conses yf_lams yf_steps yf_atWork yf_end yf_writtenCount (fu + 1) (nI 5) ya_kind ya_up ya_turn ya_depth ya_value ya_below le ya_parameters ya_codes ya_codeCount ya_form ya_colour ya_same ya_one ya_two ya_todo ya_numbered ya_text ya_ofFunction ya_codeEnd ya_instance ya_token ya_env ya_tag ya_cellEnv ya_boundNext ya_step ya_boundNumber ya_boundTag ya_headTag ya_tailTag ya_number ya_boundValue ya_head ya_tail ya_written) :
    ∀ q r fu (le : Nat → Int32), r + q = 5 → q < fu → (∀ h, h < 5 → le h = nI (dpn kN vN ln r h)) → (∀ j, 5 ≤ j → le j = ya_length j) → wY_define_27 post x1 x2 yf_place yf_points yf_names yf_textEnd yf_made yf_entry yf_waiting yf_values yf_bound yf_cells yf_conses yf_lams yf_steps yf_atWork yf_end yf_writtenCount fu (nI r) ya_kind ya_up ya_turn ya_depth ya_value ya_below le ya_parameters ya_codes ya_codeCount ya_form ya_colour ya_same ya_one ya_two ya_todo ya_numbered ya_text ya_ofFunction ya_codeEnd ya_instance ya_token ya_env ya_tag ya_cellEnv ya_boundNext ya_step ya_boundNumber ya_boundTag ya_headTag ya_tailTag ya_number ya_boundValue ya_head ya_tail ya_written := by
  intro q
  induction q with
  | zero =>
    intro g fu le hg hfu h1 h2
    obtain ⟨fu, rfl⟩ : ∃ g, fu = g + 1 := ⟨fu - 1, by omega⟩
    have e : g = 5 := by omega
    subst e
    exact hP fu le h1 h2
  | succ q ih =>
    intro r fu le hg hfu h1 h2
    obtain ⟨fu, rfl⟩ : ∃ g, fu = g + 1 := ⟨fu - 1, by omega⟩
    refine br_f (nI_ge (b := 5) (by omega) (by omega)) (Exists.intro 6 ?_)
    refine y_df35 (ya_length := le) (J27 := wY_define_27 post x1 x2 yf_place yf_points yf_names yf_textEnd yf_made yf_entry yf_waiting yf_values yf_bound yf_cells yf_conses yf_lams yf_steps yf_atWork yf_end yf_writtenCount fu) (ln := dpn kN vN ln r) hx (dpn_le h0 r) (fun le' k1 k2 => ?_) 5 0 6 le (by omega) (by omega) h1 (fun _ _ => rfl)
    rw [nI_1]
    exact ih (r + 1) fu le' (by omega) (by omega) k1 (fun j hj => (k2 j hj).trans (h2 j hj))
/-- the draft becomes the body of f -/
theorem x_td2 {post : SX → Prop} {f n : Nat} {p1 : Int32} (hf : f < 5) (hn : n ≤ 24) (hl : a_lengths 10 = nI n)
    (hP : ∀ ki va : Nat → Int32, (∀ t, t < n → ki (f * 24 + t) = a_kinds (240 + t) ∧ va (f * 24 + t) = a_values (240 + t)) → (∀ j, j < f * 24 ∨ f * 24 + 24 ≤ j → ki j = a_kinds j ∧ va j = a_values j) →
      post (f_saidPlace, f_instanceCount, f_nodeCount, f_equationCount, f_stackCount, f_wordCount, f_depth, f_cellCount, f_consCount, f_closureCount, f_stepCount, f_runAnswer, f_writtenCount, ki, va, a_spans, a_bounds, a_binders, (upd (upd a_lengths f (nI n)) 10 0), (upd a_parameterCounts f p1), a_typeCodes, a_typeLengths, a_instanceFunctions, a_nodeKinds, a_nodeLefts, a_nodeRights, a_nodeSizes, a_equationLefts, a_equationRights, a_stackLefts, a_stackRights, a_words, a_boundWords, a_cellFirsts, a_cellSeconds, a_closureTokens, a_closureWords, a_written)) :
    ∀ q t fu (ki va : Nat → Int32), t + q = n → q < fu → (∀ s, s < t → ki (f * 24 + s) = a_kinds (240 + s) ∧ va (f * 24 + s) = a_values (240 + s)) → (∀ j, j < f * 24 ∨ f * 24 + 24 ≤ j → ki j = a_kinds j ∧ va j = a_values j) →
      wX_takeDraft_2 post (nI f) p1 f_saidPlace f_instanceCount f_nodeCount f_equationCount f_stackCount f_wordCount f_depth f_cellCount f_consCount f_closureCount f_stepCount f_runAnswer f_writtenCount fu (nI t) ki va a_spans a_bounds a_binders a_lengths a_parameterCounts a_typeCodes a_typeLengths a_instanceFunctions a_nodeKinds a_nodeLefts a_nodeRights a_nodeSizes a_equationLefts a_equationRights a_stackLefts a_stackRights a_words a_boundWords a_cellFirsts a_cellSeconds a_closureTokens a_closureWords a_written := by
  intro q
  induction q with
  | zero =>
    intro t fu ki va ht hfu h1 h2
    obtain ⟨fu, rfl⟩ : ∃ g, fu = g + 1 := ⟨fu - 1, by omega⟩
    have e : t = n := by omega
    subst e
    refine br_t (by rw [hl]; exact nI_le (Nat.le_refl _) (by omega)) (And.intro (pk_in f 11 (by omega)) (nm_r (e' := upd a_lengths f (nI t)) (by rw [nI_clamp (by omega), hl]) (And.intro (pk_in f 11 (by omega)) (nm_r (e' := upd a_parameterCounts f p1) (by rw [nI_clamp (by omega)]) (nm_e (hP ki va h1 h2))))))
  | succ q ih =>
    intro t fu ki va ht hfu h1 h2
    obtain ⟨fu, rfl⟩ : ∃ g, fu = g + 1 := ⟨fu - 1, by omega⟩
    have e24 := ix_24 f t
    have e240 : (240 : Int32) + nI t = nI (240 + t) := nI_add 240 t
    have c1 : (nI (f * 24 + t)).toNatClampNeg = f * 24 + t := nI_clamp (by omega)
    have c2 : (nI (240 + t)).toNatClampNeg = 240 + t := nI_clamp (by omega)
    refine br_f (by rw [hl]; exact nI_ge (by omega) (by omega)) ?_
    refine And.intro (pk_in (240 + t) 264 (by omega) e240) (And.intro (pk_in (f * 24 + t) 264 (by omega) e24) (nm_r (e' := upd ki (f * 24 + t) (a_kinds (240 + t))) (by rw [e24, e240, c1, c2, (h2 (240 + t) (by omega)).1]) (And.intro (pk_in (240 + t) 264 (by omega) e240) (And.intro (pk_in (f * 24 + t) 264 (by omega) e24) (nm_r (e' := upd va (f * 24 + t) (a_values (240 + t))) (by rw [e24, e240, c1, c2, (h2 (240 + t) (by omega)).2]) (nm_r (nI_1 t) ?_))))))
    refine ih (t + 1) fu _ _ (by omega) (by omega) (fun s hs => ?_) (fun j hj => ?_)
    · by_cases z : s = t
      · subst z; exact ⟨pk_us, pk_us⟩
      · rw [pk_un (by omega), pk_un (by omega)]; exact h1 s (by omega)
    · rw [pk_un (by omega), pk_un (by omega)]; exact h2 j hj
theorem x_takeDraft {post : SX → Prop} {f n : Nat} {p1 : Int32} (hf : f < 5) (hn : n ≤ 24) (hl : a_lengths 10 = nI n)
    (hP : ∀ ki va : Nat → Int32, (∀ t, t < n → ki (f * 24 + t) = a_kinds (240 + t) ∧ va (f * 24 + t) = a_values (240 + t)) → (∀ j, j < f * 24 ∨ f * 24 + 24 ≤ j → ki j = a_kinds j ∧ va j = a_values j) →
      post (f_saidPlace, f_instanceCount, f_nodeCount, f_equationCount, f_stackCount, f_wordCount, f_depth, f_cellCount, f_consCount, f_closureCount, f_stepCount, f_runAnswer, f_writtenCount, ki, va, a_spans, a_bounds, a_binders, (upd (upd a_lengths f (nI n)) 10 0), (upd a_parameterCounts f p1), a_typeCodes, a_typeLengths, a_instanceFunctions, a_nodeKinds, a_nodeLefts, a_nodeRights, a_nodeSizes, a_equationLefts, a_equationRights, a_stackLefts, a_stackRights, a_words, a_boundWords, a_cellFirsts, a_cellSeconds, a_closureTokens, a_closureWords, a_written)) : wpX_takeDraft post (f_saidPlace, f_instanceCount, f_nodeCount, f_equationCount, f_stackCount, f_wordCount, f_depth, f_cellCount, f_consCount, f_closureCount, f_stepCount, f_runAnswer, f_writtenCount, a_kinds, a_values, a_spans, a_bounds, a_binders, a_lengths, a_parameterCounts, a_typeCodes, a_typeLengths, a_instanceFunctions, a_nodeKinds, a_nodeLefts, a_nodeRights, a_nodeSizes, a_equationLefts, a_equationRights, a_stackLefts, a_stackRights, a_words, a_boundWords, a_cellFirsts, a_cellSeconds, a_closureTokens, a_closureWords, a_written) (nI f) p1 :=
  Exists.intro (n + 1) (x_td2 hf hn hl hP n 0 (n + 1) a_kinds a_values (by omega) (by omega) (fun s hs => by omega) (fun _ _ => ⟨rfl, rfl⟩))
end
section
variable {f_saidPlace f_instanceCount f_nodeCount f_equationCount f_stackCount f_wordCount f_depth f_cellCount f_consCount f_closureCount f_stepCount f_runAnswer f_writtenCount : Int32} {a_kinds a_values a_spans a_bounds a_binders a_lengths a_parameterCounts a_typeCodes a_typeLengths a_instanceFunctions a_nodeKinds a_nodeLefts a_nodeRights a_nodeSizes a_equationLefts a_equationRights a_stackLefts a_stackRights a_words a_boundWords a_cellFirsts a_cellSeconds a_closureTokens a_closureWords a_written : Nat → Int32}
theorem lt0_n {t : Nat} (h : t < 2 ^ 31) : ¬ nI t < 0 := by
  have := nI_ltI (a := t) (b := 0) h (by omega)
  rw [show (0 : Int32) = nI 0 from rfl, this]; omega
theorem wr_len (cl : Bool) (vs cs : List Nat) : (wr_f cl vs cs).length = cs.length := by
  unfold wr_f
  cases cl
  · rw [if_neg (by decide), cn_go_map, List.length_map]
  · rw [if_pos rfl, cl_0, List.length_map]
theorem wr_lt {cl : Bool} {cs : List Nat} (h : cs.length ≤ 42) : ∀ k, k < (wr_f cl [] cs).length → (wr_f cl [] cs).getD k 0 < 60 := by
  intro k hk
  have hm := gd_mem _ k hk
  revert hm
  unfold wr_f
  cases cl
  · rw [if_neg (by decide)]
    intro hm
    have := cn_bd cs [] _ hm
    simp only [List.length_nil] at this
    omega
  · rw [if_pos rfl]
    intro hm
    obtain ⟨c, _, e⟩ := List.mem_map.mp hm
    rw [← e]
    unfold mt_rn
    by_cases y : c < 10
    · rw [if_pos y]; omega
    · rw [if_neg y]; exact (by decide : (0 : Nat) < 60)
theorem yw_x {N : Nat} {K nl nr : Nat → Int32} {L R rt ds : Nat → Nat} {c : Nat → mt_T} (hg : xg_ok N K nl nr L R rt ds) (hm : mg_is N (gr_sat N K L R) c) (hv : ∀ n, n < N → K n = 10 → c n = .leaf (10 + n)) :
    (∀ n, n < N → c n = c (rt n)) ∧ (∀ n, n < N → K n ≠ 5 → (K n = 10 → c n = .leaf (10 + n)) ∧ (K n ≠ 10 → c n = gr_at K L R c n)) :=
  ⟨fun n hn => fo_eq hg.2 (mg_self hm) (ds n) n hn rfl, fun n hn _ => ⟨hv n hn, fun _ => mg_self hm n hn⟩⟩
/-- a row is written from the nodes of a stack -/
theorem x_writeRow {post : SX → Prop} {row N h : Nat} {cl : Bool} {x2 : Int32} {L R rt ds : Nat → Nat} {c : Nat → mt_T} {st : List Nat} (hrow : row < 18) (hN : N ≤ 1126) (hx2 : x2 = if cl then 1 else 0)
    (hg : xg_ok N a_nodeKinds a_nodeLefts a_nodeRights L R rt ds) (hm : mg_is N (gr_sat N a_nodeKinds L R) c) (hv : ∀ n, n < N → a_nodeKinds n = 10 → c n = .leaf (10 + n)) (hst : sk_ok N h a_stackLefts st) (hl : (mt_encs (st.map c)).length ≤ 42)
    (hP : ∀ nl sl sr tc, (cl = true → nl = a_nodeLefts) → (∀ j, j < row * 42 ∨ row * 42 + 42 ≤ j → tc j = a_typeCodes j) → (∀ i, i < (mt_encs (st.map c)).length → tc (row * 42 + i) = nI ((wr_f cl [] (mt_encs (st.map c))).getD i 0)) →
      post (f_saidPlace, f_instanceCount, f_nodeCount, f_equationCount, (nI 0), f_wordCount, f_depth, f_cellCount, f_consCount, f_closureCount, f_stepCount, f_runAnswer, f_writtenCount, a_kinds, a_values, a_spans, a_bounds, a_binders, a_lengths, a_parameterCounts, tc, (upd a_typeLengths row (nI (mt_encs (st.map c)).length)), a_instanceFunctions, a_nodeKinds, nl, a_nodeRights, a_nodeSizes, a_equationLefts, a_equationRights, sl, sr, a_words, a_boundWords, a_cellFirsts, a_cellSeconds, a_closureTokens, a_closureWords, a_written)) : wpX_writeRow post (f_saidPlace, f_instanceCount, f_nodeCount, f_equationCount, (nI h), f_wordCount, f_depth, f_cellCount, f_consCount, f_closureCount, f_stepCount, f_runAnswer, f_writtenCount, a_kinds, a_values, a_spans, a_bounds, a_binders, a_lengths, a_parameterCounts, a_typeCodes, a_typeLengths, a_instanceFunctions, a_nodeKinds, a_nodeLefts, a_nodeRights, a_nodeSizes, a_equationLefts, a_equationRights, a_stackLefts, a_stackRights, a_words, a_boundWords, a_cellFirsts, a_cellSeconds, a_closureTokens, a_closureWords, a_written) (nI row) x2 := by
  have hlen := wr_len cl [] (mt_encs (st.map c))
  have hw := yw_x hg hm hv
  refine Exists.intro ((mt_encs (st.map c)).length + 1) ?_
  have key := x_wr8 (post := post) (row := row) (cl := cl) (x2 := x2) (c := c) (OUT := wr_f cl [] (mt_encs (st.map c))) (D := lk_ct a_nodeKinds N) hrow hN (by have := lk_le a_nodeKinds N; omega) hx2 (by rw [hlen]; exact hl) (fun k hk => Nat.lt_of_lt_of_le (wr_lt hl k hk) (by omega)) hw.1 hw.2 (fun nl sl sr tc q0 q1 q2 => by rw [hlen] at q2 ⊢; exact hP nl sl sr tc q0 q1 q2) _ ((mt_encs (st.map c)).length + 1) 0 h st [] a_nodeLefts a_stackLefts a_stackRights a_typeCodes (Nat.le_refl _) (by omega) rfl (by omega) hst (xw_of hg) ⟨fun _ n hn hk => ⟨fun z => absurd z (by simp), fun _ => (hg.1 n hn).2.2.2 hk⟩, fun _ => rfl⟩ (by simp) (fun _ _ => rfl) (fun i hi => by omega)
  exact key
/-- the parameters' types, then the body's -/
def ow_st (P : Nat) : List Nat := (List.range P).map (fun j => 72 + j) ++ [0]
theorem ow_lt {P : Nat} (hP : P ≤ 2) : ∀ n ∈ ow_st P, n < 74 := by
  intro n hn
  unfold ow_st at hn
  rw [List.mem_append, List.mem_map] at hn
  rcases hn with ⟨j, h, rfl⟩ | h
  · have := List.mem_range.mp h; omega
  · simp at h; omega
theorem ow_len (P : Nat) : (ow_st P).length = P + 1 := by simp [ow_st]
/-- the stack while the parameters are pushed, from the last on -/
def ow_s (P : Nat) : Nat → List Nat
  | 0 => [0]
  | q + 1 => (72 + (P - (q + 1))) :: ow_s P q
theorem ow_s_len (P : Nat) : ∀ q, (ow_s P q).length = q + 1 := by
  intro q
  induction q with
  | zero => rfl
  | succ q ih => simp only [ow_s, List.length_cons, ih]
theorem ow_s2 {P : Nat} (h : P ≤ 2) : ow_s P P = ow_st P := by
  have : P = 0 ∨ P = 1 ∨ P = 2 := by omega
  rcases this with rfl | rfl | rfl <;> rfl
theorem x_wo20 {post : SX → Prop} {f N P : Nat} {L R rt ds : Nat → Nat} {c : Nat → mt_T} (hf : f < 5) (h76 : 76 ≤ N) (hN : N ≤ 1126) (hP2 : P ≤ 2)
    (hg : xg_ok N a_nodeKinds a_nodeLefts a_nodeRights L R rt ds) (hm : mg_is N (gr_sat N a_nodeKinds L R) c) (hv : ∀ n, n < N → a_nodeKinds n = 10 → c n = .leaf (10 + n)) (hl : (mt_encs ((ow_st P).map c)).length ≤ 42)
    (hP : ∀ nl sl sr tc, (∀ j, j < f * 42 ∨ f * 42 + 42 ≤ j → tc j = a_typeCodes j) → (∀ i, i < (mt_encs ((ow_st P).map c)).length → tc (f * 42 + i) = nI ((cn_go [] (mt_encs ((ow_st P).map c))).getD i 0)) →
      post (f_saidPlace, f_instanceCount, f_nodeCount, f_equationCount, (nI 0), f_wordCount, f_depth, f_cellCount, f_consCount, f_closureCount, f_stepCount, f_runAnswer, f_writtenCount, a_kinds, a_values, a_spans, a_bounds, a_binders, a_lengths, a_parameterCounts, tc, (upd a_typeLengths f (nI (mt_encs ((ow_st P).map c)).length)), a_instanceFunctions, a_nodeKinds, nl, a_nodeRights, a_nodeSizes, a_equationLefts, a_equationRights, sl, sr, a_words, a_boundWords, a_cellFirsts, a_cellSeconds, a_closureTokens, a_closureWords, a_written)) :
    ∀ p fu q (sl sr : Nat → Int32), p + q = P → p < fu → sk_ok N (q + 1) sl (ow_s P q) → wX_writeOwnType_20 post (nI f) fu (nI p + (-1)) f_saidPlace f_instanceCount f_nodeCount f_equationCount (nI (q + 1)) f_wordCount f_depth f_cellCount f_consCount f_closureCount f_stepCount f_runAnswer f_writtenCount a_kinds a_values a_spans a_bounds a_binders a_lengths a_parameterCounts a_typeCodes a_typeLengths a_instanceFunctions a_nodeKinds a_nodeLefts a_nodeRights a_nodeSizes a_equationLefts a_equationRights sl sr a_words a_boundWords a_cellFirsts a_cellSeconds a_closureTokens a_closureWords a_written := by
  intro p
  induction p with
  | zero =>
    intro fu q sl sr hq hfu hs
    obtain ⟨fu, rfl⟩ : ∃ g, fu = g + 1 := ⟨fu - 1, by omega⟩
    have e : q = P := by omega
    subst e
    rw [ow_s2 hP2] at hs
    refine br_t (by decide) (x_writeRow (cl := false) (c := c) (st := ow_st q) (by omega) hN rfl hg hm hv hs hl (fun nl sl' sr' tc _ q1 q2 => hP nl sl' sr' tc q1 q2))
  | succ p ih =>
    intro fu q sl sr hq hfu hs
    obtain ⟨fu, rfl⟩ : ∃ g, fu = g + 1 := ⟨fu - 1, by omega⟩
    rw [pk_m1]
    refine br_f (lt0_n (by omega)) ?_
    rw [ix_72]
    refine x_push (by omega) (nm_e ?_)
    have e : 72 + p = 72 + (P - (q + 1)) := by omega
    exact ih fu (q + 1) _ _ (by omega) (by omega) (by rw [e]; exact sk_push hs (by omega))
theorem x_writeOwnType {post : SX → Prop} {f N P : Nat} {L R rt ds : Nat → Nat} {c : Nat → mt_T} (hf : f < 5) (h76 : 76 ≤ N) (hN : N ≤ 1126) (hP2 : P ≤ 2) (hpc : a_parameterCounts f = nI P)
    (hg : xg_ok N a_nodeKinds a_nodeLefts a_nodeRights L R rt ds) (hm : mg_is N (gr_sat N a_nodeKinds L R) c) (hv : ∀ n, n < N → a_nodeKinds n = 10 → c n = .leaf (10 + n)) (hl : (mt_encs ((ow_st P).map c)).length ≤ 42)
    (hP : ∀ nl sl sr tc, (∀ j, j < f * 42 ∨ f * 42 + 42 ≤ j → tc j = a_typeCodes j) → (∀ i, i < (mt_encs ((ow_st P).map c)).length → tc (f * 42 + i) = nI ((cn_go [] (mt_encs ((ow_st P).map c))).getD i 0)) →
      post (f_saidPlace, f_instanceCount, f_nodeCount, f_equationCount, (nI 0), f_wordCount, f_depth, f_cellCount, f_consCount, f_closureCount, f_stepCount, f_runAnswer, f_writtenCount, a_kinds, a_values, a_spans, a_bounds, a_binders, a_lengths, a_parameterCounts, tc, (upd a_typeLengths f (nI (mt_encs ((ow_st P).map c)).length)), a_instanceFunctions, a_nodeKinds, nl, a_nodeRights, a_nodeSizes, a_equationLefts, a_equationRights, sl, sr, a_words, a_boundWords, a_cellFirsts, a_cellSeconds, a_closureTokens, a_closureWords, a_written)) :
    wpX_writeOwnType post (f_saidPlace, f_instanceCount, f_nodeCount, f_equationCount, f_stackCount, f_wordCount, f_depth, f_cellCount, f_consCount, f_closureCount, f_stepCount, f_runAnswer, f_writtenCount, a_kinds, a_values, a_spans, a_bounds, a_binders, a_lengths, a_parameterCounts, a_typeCodes, a_typeLengths, a_instanceFunctions, a_nodeKinds, a_nodeLefts, a_nodeRights, a_nodeSizes, a_equationLefts, a_equationRights, a_stackLefts, a_stackRights, a_words, a_boundWords, a_cellFirsts, a_cellSeconds, a_closureTokens, a_closureWords, a_written) (nI f) := by
  unfold wpX_writeOwnType
  refine x_push (h := 0) (by omega) ?_
  refine And.intro (pk_in f 11 (by omega)) ?_
  rw [nI_clamp (n := f) (by omega), hpc]
  refine nm_r (e' := nI P + (-1)) (Int32.sub_eq_add_neg _ _) (Exists.intro (P + 1) ?_)
  refine x_wo20 hf h76 hN hP2 hg hm hv hl hP P (P + 1) 0 _ _ (by omega) (by omega) ⟨rfl, fun n hn => ?_, fun i hi => ?_⟩
  · simp [ow_s] at hn; omega
  · have : i = 0 := by omega
    subst this; rw [pk_us]; rfl
end
section
variable {yf_place yf_points yf_names yf_textEnd yf_made yf_entry yf_waiting yf_values yf_bound yf_cells yf_conses yf_lams yf_steps yf_atWork yf_end yf_writtenCount : Int32} {ya_kind ya_up ya_turn ya_depth ya_value ya_below ya_length ya_parameters ya_codes ya_codeCount ya_form ya_colour ya_same ya_one ya_two ya_todo ya_numbered ya_text ya_ofFunction ya_codeEnd ya_instance ya_token ya_env ya_tag ya_cellEnv ya_boundNext ya_step ya_boundNumber ya_boundTag ya_headTag ya_tailTag ya_number ya_boundValue ya_head ya_tail ya_written : Nat → Int32}
theorem ix723 (f t k : Nat) : (72 : Int32) * nI f + 3 * nI t + nI k = nI (72 * f + 3 * t + k) := by rw [ix72, nI_add]
def yk_ok (F T m : Nat) (ki va up tu de be ki' va' up' tu' de' be' : Nat → Int32) : Prop :=
  (∀ s, s < m → ki' (24 * T + s) = vp_nar .byte (ki (24 * F + s)) ∧ va' (24 * T + s) = va (24 * F + s) ∧ up' (24 * T + s) = vp_nar .byte (up (24 * F + s)) ∧ tu' (24 * T + s) = vp_nar .byte (tu (24 * F + s)) ∧ de' (24 * T + s) = vp_nar .byte (de (24 * F + s))) ∧
  (∀ j, j < 3 * m → be' (72 * T + j) = vp_nar .short (be (72 * F + j))) ∧
  (∀ j, j < 24 * T ∨ 24 * T + 24 ≤ j → ki' j = ki j ∧ va' j = va j ∧ up' j = up j ∧ tu' j = tu j ∧ de' j = de j) ∧ (∀ j, j < 72 * T ∨ 72 * T + 72 ≤ j → be' j = be j)
theorem y_cp121 {post : SY → Prop} {J2 : JY} {F T t : Nat} (hF : F ≤ 10) (hT : T ≤ 10) (hFT : F ≠ T) (ht : t < 24)
    (hJ : ∀ be : Nat → Int32, (∀ i, i < 3 → be (72 * T + 3 * t + i) = vp_nar .short (ya_below (72 * F + 3 * t + i))) → (∀ j, j < 72 * T + 3 * t ∨ 72 * T + 3 * t + 3 ≤ j → be j = ya_below j) → J2 (nI t + 1) ya_kind ya_up ya_turn ya_depth ya_value be ya_length ya_parameters ya_codes ya_codeCount ya_form ya_colour ya_same ya_one ya_two ya_todo ya_numbered ya_text ya_ofFunction ya_codeEnd ya_instance ya_token ya_env ya_tag ya_cellEnv ya_boundNext ya_step ya_boundNumber ya_boundTag ya_headTag ya_tailTag ya_number ya_boundValue ya_head ya_tail ya_written) :
    ∀ q k fu (be : Nat → Int32), k + q = 3 → q < fu → (∀ i, i < k → be (72 * T + 3 * t + i) = vp_nar .short (ya_below (72 * F + 3 * t + i))) → (∀ j, j < 72 * T + 3 * t ∨ 72 * T + 3 * t + 3 ≤ j → be j = ya_below j) →
      wY_copy_121 post J2 (nI F) (nI T) (nI t) yf_place yf_points yf_names yf_textEnd yf_made yf_entry yf_waiting yf_values yf_bound yf_cells yf_conses yf_lams yf_steps yf_atWork yf_end yf_writtenCount fu (nI k) ya_kind ya_up ya_turn ya_depth ya_value be ya_length ya_parameters ya_codes ya_codeCount ya_form ya_colour ya_same ya_one ya_two ya_todo ya_numbered ya_text ya_ofFunction ya_codeEnd ya_instance ya_token ya_env ya_tag ya_cellEnv ya_boundNext ya_step ya_boundNumber ya_boundTag ya_headTag ya_tailTag ya_number ya_boundValue ya_head ya_tail ya_written := by
  intro q
  induction q with
  | zero =>
    intro k fu be hk hfu h1 h2
    obtain ⟨fu, rfl⟩ : ∃ g, fu = g + 1 := ⟨fu - 1, by omega⟩
    have e : k = 3 := by omega
    subst e
    exact br_t (nI_le (a := 3) (by omega) (by omega)) (nm_e (hJ be h1 h2))
  | succ q ih =>
    intro k fu be hk hfu h1 h2
    obtain ⟨fu, rfl⟩ : ∃ g, fu = g + 1 := ⟨fu - 1, by omega⟩
    have c1 : (nI (72 * F + 3 * t + k)).toNatClampNeg = 72 * F + 3 * t + k := nI_clamp (by omega)
    have c2 : (nI (72 * T + 3 * t + k)).toNatClampNeg = 72 * T + 3 * t + k := nI_clamp (by omega)
    refine br_f (nI_ge (b := 3) (by omega) (by omega)) (And.intro (pk_in (72 * F + 3 * t + k) 792 (by omega) (ix723 F t k)) (And.intro (pk_in (72 * T + 3 * t + k) 792 (by omega) (ix723 T t k)) (nm_r (e' := upd be (72 * T + 3 * t + k) (vp_nar .short (ya_below (72 * F + 3 * t + k)))) (by rw [ix723, ix723, c1, c2, h2 (72 * F + 3 * t + k) (by omega)]) (nm_r (nI_1 k) ?_))))
    refine ih (k + 1) fu _ (by omega) (by omega) (fun i hi => ?_) (fun j hj => ?_)
    · by_cases z : i = k
      · rw [z, pk_us]
      · rw [pk_un (by omega)]; exact h1 i (by omega)
    · rw [pk_un (by omega)]; exact h2 j hj
theorem y_cp2 {post : SY → Prop} {F T : Nat} (hF : F ≤ 10) (hT : T ≤ 10) (hFT : F ≠ T)
    (hP : ∀ ki va up tu de be : Nat → Int32, yk_ok F T 24 ya_kind ya_value ya_up ya_turn ya_depth ya_below ki va up tu de be →
      post (yf_place, yf_points, yf_names, yf_textEnd, yf_made, yf_entry, yf_waiting, yf_values, yf_bound, yf_cells, yf_conses, yf_lams, yf_steps, yf_atWork, yf_end, yf_writtenCount, ki, up, tu, de, va, be, (upd ya_length T (vp_nar .byte (ya_length F))), (upd ya_parameters T (vp_nar .byte (ya_parameters F))), ya_codes, ya_codeCount, ya_form, ya_colour, ya_same, ya_one, ya_two, ya_todo, ya_numbered, ya_text, ya_ofFunction, ya_codeEnd, ya_instance, ya_token, ya_env, ya_tag, ya_cellEnv, ya_boundNext, ya_step, ya_boundNumber, ya_boundTag, ya_headTag, ya_tailTag, ya_number, ya_boundValue, ya_head, ya_tail, ya_written)) :
    ∀ q t fu (ki va up tu de be : Nat → Int32), t + q = 24 → q < fu → yk_ok F T t ya_kind ya_value ya_up ya_turn ya_depth ya_below ki va up tu de be →
      wY_copy_2 post (nI F) (nI T) yf_place yf_points yf_names yf_textEnd yf_made yf_entry yf_waiting yf_values yf_bound yf_cells yf_conses yf_lams yf_steps yf_atWork yf_end yf_writtenCount fu (nI t) ki up tu de va be ya_length ya_parameters ya_codes ya_codeCount ya_form ya_colour ya_same ya_one ya_two ya_todo ya_numbered ya_text ya_ofFunction ya_codeEnd ya_instance ya_token ya_env ya_tag ya_cellEnv ya_boundNext ya_step ya_boundNumber ya_boundTag ya_headTag ya_tailTag ya_number ya_boundValue ya_head ya_tail ya_written := by
  intro q
  induction q with
  | zero =>
    intro t fu ki va up tu de be ht hfu h
    obtain ⟨fu, rfl⟩ : ∃ g, fu = g + 1 := ⟨fu - 1, by omega⟩
    have e : t = 24 := by omega
    subst e
    have cF : (nI F).toNatClampNeg = F := nI_clamp (by omega)
    have cT : (nI T).toNatClampNeg = T := nI_clamp (by omega)
    refine br_t (nI_le (a := 24) (by omega) (by omega)) (And.intro (pk_in F 11 (by omega)) (And.intro (pk_in T 11 (by omega)) (nm_r (e' := upd ya_length T (vp_nar .byte (ya_length F))) (by rw [cF, cT]) (And.intro (pk_in F 11 (by omega)) (And.intro (pk_in T 11 (by omega)) (nm_r (e' := upd ya_parameters T (vp_nar .byte (ya_parameters F))) (by rw [cF, cT]) (hP ki va up tu de be h)))))))
  | succ q ih =>
    intro t fu ki va up tu de be ht hfu h
    obtain ⟨fu, rfl⟩ : ∃ g, fu = g + 1 := ⟨fu - 1, by omega⟩
    obtain ⟨h1, h2, h3, h4⟩ := h
    have c1 : (nI (24 * F + t)).toNatClampNeg = 24 * F + t := nI_clamp (by omega)
    have c2 : (nI (24 * T + t)).toNatClampNeg = 24 * T + t := nI_clamp (by omega)
    obtain ⟨o1, o2, o3, o4, o5⟩ := h3 (24 * F + t) (by omega)
    have i1 : vp_in (24 * nI F + nI t) 264 := pk_in (24 * F + t) 264 (by omega) (ix24 F t)
    have i2 : vp_in (24 * nI T + nI t) 264 := pk_in (24 * T + t) 264 (by omega) (ix24 T t)
    refine br_f (nI_ge (b := 24) (by omega) (by omega)) (And.intro i1 (And.intro i2 (nm_r (e' := upd ki (24 * T + t) (vp_nar .byte (ya_kind (24 * F + t)))) (by rw [ix24, ix24, c1, c2, o1])
      (And.intro i1 (And.intro i2 (nm_r (e' := upd va (24 * T + t) (ya_value (24 * F + t))) (by rw [ix24, ix24, c1, c2, o2])
      (And.intro i1 (And.intro i2 (nm_r (e' := upd up (24 * T + t) (vp_nar .byte (ya_up (24 * F + t)))) (by rw [ix24, ix24, c1, c2, o3])
      (And.intro i1 (And.intro i2 (nm_r (e' := upd tu (24 * T + t) (vp_nar .byte (ya_turn (24 * F + t)))) (by rw [ix24, ix24, c1, c2, o4])
      (And.intro i1 (And.intro i2 (nm_r (e' := upd de (24 * T + t) (vp_nar .byte (ya_depth (24 * F + t)))) (by rw [ix24, ix24, c1, c2, o5]) (Exists.intro 4 ?_))))))))))))))))
    refine y_cp121 (ya_below := be) (J2 := wY_copy_2 post (nI F) (nI T) yf_place yf_points yf_names yf_textEnd yf_made yf_entry yf_waiting yf_values yf_bound yf_cells yf_conses yf_lams yf_steps yf_atWork yf_end yf_writtenCount fu) hF hT hFT (by omega) (fun be' k1 k2 => ?_) 3 0 4 be (by omega) (by omega) (fun i hi => by omega) (fun _ _ => rfl)
    rw [nI_1]
    refine ih (t + 1) fu _ _ _ _ _ _ (by omega) (by omega) ⟨fun s hs => ?_, fun j hj => ?_, fun j hj => ?_, fun j hj => ?_⟩
    · by_cases z : s = t
      · subst z; exact ⟨pk_us, pk_us, pk_us, pk_us, pk_us⟩
      · rw [pk_un (by omega), pk_un (by omega), pk_un (by omega), pk_un (by omega), pk_un (by omega)]; exact h1 s (by omega)
    · by_cases z : j < 3 * t
      · rw [k2 _ (by omega)]; exact h2 j z
      · obtain ⟨i, hi, e⟩ : ∃ i, i < 3 ∧ j = 3 * t + i := ⟨j - 3 * t, by omega, by omega⟩
        have := k1 i hi
        rw [e, ← Nat.add_assoc, this, h4 _ (by omega), Nat.add_assoc]
    · rw [pk_un (by omega), pk_un (by omega), pk_un (by omega), pk_un (by omega), pk_un (by omega)]; exact h3 j hj
    · rw [k2 j (by omega)]; exact h4 j hj
theorem y_copy {post : SY → Prop} {F T : Nat} (hF : F ≤ 10) (hT : T ≤ 10) (hFT : F ≠ T)
    (hP : ∀ ki va up tu de be : Nat → Int32, yk_ok F T 24 ya_kind ya_value ya_up ya_turn ya_depth ya_below ki va up tu de be →
      post (yf_place, yf_points, yf_names, yf_textEnd, yf_made, yf_entry, yf_waiting, yf_values, yf_bound, yf_cells, yf_conses, yf_lams, yf_steps, yf_atWork, yf_end, yf_writtenCount, ki, up, tu, de, va, be, (upd ya_length T (vp_nar .byte (ya_length F))), (upd ya_parameters T (vp_nar .byte (ya_parameters F))), ya_codes, ya_codeCount, ya_form, ya_colour, ya_same, ya_one, ya_two, ya_todo, ya_numbered, ya_text, ya_ofFunction, ya_codeEnd, ya_instance, ya_token, ya_env, ya_tag, ya_cellEnv, ya_boundNext, ya_step, ya_boundNumber, ya_boundTag, ya_headTag, ya_tailTag, ya_number, ya_boundValue, ya_head, ya_tail, ya_written)) : wpY_copy post (yf_place, yf_points, yf_names, yf_textEnd, yf_made, yf_entry, yf_waiting, yf_values, yf_bound, yf_cells, yf_conses, yf_lams, yf_steps, yf_atWork, yf_end, yf_writtenCount, ya_kind, ya_up, ya_turn, ya_depth, ya_value, ya_below, ya_length, ya_parameters, ya_codes, ya_codeCount, ya_form, ya_colour, ya_same, ya_one, ya_two, ya_todo, ya_numbered, ya_text, ya_ofFunction, ya_codeEnd, ya_instance, ya_token, ya_env, ya_tag, ya_cellEnv, ya_boundNext, ya_step, ya_boundNumber, ya_boundTag, ya_headTag, ya_tailTag, ya_number, ya_boundValue, ya_head, ya_tail, ya_written) (nI F) (nI T) :=
  Exists.intro 25 (y_cp2 hF hT hFT hP 24 0 25 ya_kind ya_value ya_up ya_turn ya_depth ya_below (by omega) (by omega) ⟨fun s hs => by omega, fun j hj => by omega, fun _ _ => ⟨rfl, rfl, rfl, rfl, rfl⟩, fun _ _ => rfl⟩)
theorem yg_init {fo sa on tw : Nat → Int32} (h1 : ∀ n, n < 74 → fo n = -1) (h2 : ∀ n, n < 74 → sa n = nI n) :
    yg_ok 74 fo sa on tw (fun _ => 10) (fun _ => 0) (fun _ => 0) (fun n => n) (fun _ => 0) := by
  refine ⟨fun n hn => ⟨kd_10, fun z => absurd z n10_5, fun _ => h2 n hn, fun _ => h1 n hn, fun _ z => absurd rfl z, fun z => absurd z nlf10, fun z => absurd z nrg10, fun _ => Or.inl rfl⟩, fun n hn => ⟨hn, n10_5, fun _ => ⟨rfl, rfl⟩, fun z => absurd z n10_5, Nat.zero_le _⟩⟩
theorem ys_init (r : Nat → mt_T) : gr_sat 74 (fun _ => 10) (fun _ => 0) (fun _ => 0) r := fun n _ => (gr_at_v rfl).symm
theorem y_bg8 {post : SY → Prop} (hP : ∀ fo sa : Nat → Int32, (∀ n, n < 74 → fo n = -1) → (∀ n, n < 74 → sa n = nI n) → post (yf_place, yf_points, yf_names, yf_textEnd, yf_made, yf_entry, yf_waiting, yf_values, yf_bound, yf_cells, yf_conses, yf_lams, yf_steps, yf_atWork, yf_end, yf_writtenCount, ya_kind, ya_up, ya_turn, ya_depth, ya_value, ya_below, ya_length, ya_parameters, ya_codes, ya_codeCount, fo, ya_colour, sa, ya_one, ya_two, ya_todo, ya_numbered, ya_text, ya_ofFunction, ya_codeEnd, ya_instance, ya_token, ya_env, ya_tag, ya_cellEnv, ya_boundNext, ya_step, ya_boundNumber, ya_boundTag, ya_headTag, ya_tailTag, ya_number, ya_boundValue, ya_head, ya_tail, ya_written)) :
    ∀ q n fu (fo sa : Nat → Int32), n + q = 74 → q < fu → (∀ i, i < n → fo i = -1) → (∀ i, i < n → sa i = nI i) → wY_begin_8 post yf_place yf_points yf_names yf_textEnd yf_made yf_entry yf_waiting yf_values yf_bound yf_cells yf_conses yf_lams yf_steps yf_atWork yf_end yf_writtenCount fu (nI n) ya_kind ya_up ya_turn ya_depth ya_value ya_below ya_length ya_parameters ya_codes ya_codeCount fo ya_colour sa ya_one ya_two ya_todo ya_numbered ya_text ya_ofFunction ya_codeEnd ya_instance ya_token ya_env ya_tag ya_cellEnv ya_boundNext ya_step ya_boundNumber ya_boundTag ya_headTag ya_tailTag ya_number ya_boundValue ya_head ya_tail ya_written := by
  intro q
  induction q with
  | zero =>
    intro n fu fo sa hn hfu h1 h2
    obtain ⟨fu, rfl⟩ : ∃ g, fu = g + 1 := ⟨fu - 1, by omega⟩
    have e : n = 74 := by omega
    subst e
    exact br_t (nI_le (a := 74) (by omega) (by omega)) (hP fo sa h1 h2)
  | succ q ih =>
    intro n fu fo sa hn hfu h1 h2
    obtain ⟨fu, rfl⟩ : ∃ g, fu = g + 1 := ⟨fu - 1, by omega⟩
    refine br_f (nI_ge (b := 74) (by omega) (by omega)) (And.intro (pk_in n 900 (by omega)) (nm_r (e' := upd fo n (-1)) (by rw [nI_clamp (by omega), nr_bm]) (And.intro (pk_in n 900 (by omega)) (nm_r (e' := upd sa n (nI n)) (by rw [nI_clamp (by omega), nr_s (by omega)]) (nm_r (nI_1 n) (ih (n + 1) fu _ _ (by omega) (by omega) (fun i hi => ?_) (fun i hi => ?_)))))))
    · by_cases z : i = n
      · rw [z, pk_us]
      · rw [pk_un z]; exact h1 i (by omega)
    · by_cases z : i = n
      · rw [z, pk_us]
      · rw [pk_un z]; exact h2 i (by omega)
theorem y_begin {post : SY → Prop} (hP : ∀ fo sa : Nat → Int32, yg_ok 74 fo sa ya_one ya_two (fun _ => 10) (fun _ => 0) (fun _ => 0) (fun n => n) (fun _ => 0) → post (yf_place, (nI 74), yf_names, yf_textEnd, yf_made, yf_entry, yf_waiting, yf_values, yf_bound, yf_cells, yf_conses, yf_lams, yf_steps, yf_atWork, yf_end, yf_writtenCount, ya_kind, ya_up, ya_turn, ya_depth, ya_value, ya_below, ya_length, ya_parameters, ya_codes, ya_codeCount, fo, ya_colour, sa, ya_one, ya_two, ya_todo, ya_numbered, ya_text, ya_ofFunction, ya_codeEnd, ya_instance, ya_token, ya_env, ya_tag, ya_cellEnv, ya_boundNext, ya_step, ya_boundNumber, ya_boundTag, ya_headTag, ya_tailTag, ya_number, ya_boundValue, ya_head, ya_tail, ya_written)) : wpY_begin post (yf_place, yf_points, yf_names, yf_textEnd, yf_made, yf_entry, yf_waiting, yf_values, yf_bound, yf_cells, yf_conses, yf_lams, yf_steps, yf_atWork, yf_end, yf_writtenCount, ya_kind, ya_up, ya_turn, ya_depth, ya_value, ya_below, ya_length, ya_parameters, ya_codes, ya_codeCount, ya_form, ya_colour, ya_same, ya_one, ya_two, ya_todo, ya_numbered, ya_text, ya_ofFunction, ya_codeEnd, ya_instance, ya_token, ya_env, ya_tag, ya_cellEnv, ya_boundNext, ya_step, ya_boundNumber, ya_boundTag, ya_headTag, ya_tailTag, ya_number, ya_boundValue, ya_head, ya_tail, ya_written) :=
  Exists.intro 75 (y_bg8 (fun fo sa h1 h2 => hP fo sa (yg_init h1 h2)) 74 0 75 ya_form ya_same (by omega) (by omega) (fun i hi => by omega) (fun i hi => by omega))
/-- what infer asks for behind it -/
def yi_s (post : Int32 → SY → Prop) (yf_place yf_points yf_names yf_textEnd yf_made yf_entry yf_waiting yf_values yf_bound yf_cells yf_conses yf_lams yf_steps yf_atWork yf_end yf_writtenCount : Int32) (ya_kind ya_up ya_turn ya_depth ya_value ya_below ya_length ya_parameters ya_codes ya_codeCount ya_form ya_colour ya_same ya_one ya_two ya_todo ya_numbered ya_text ya_ofFunction ya_codeEnd ya_instance ya_token ya_env ya_tag ya_cellEnv ya_boundNext ya_step ya_boundNumber ya_boundTag ya_headTag ya_tailTag ya_number ya_boundValue ya_head ya_tail ya_written : Nat → Int32) (S : (Nat → mt_T) → Prop) : Prop :=
  ∀ N fo sa on tw co td nu K L R rt ds c, 74 ≤ N → N ≤ 780 → yg_ok N fo sa on tw K L R rt ds → mg_is N (gr_sat N K L R) c → (∀ n, n < N → K n = 10 → c n = .leaf (10 + n)) → pj_is 74 (gr_sat N K L R) S →
    post (-1) (yf_place, (nI N), yf_names, yf_textEnd, yf_made, yf_entry, yf_waiting, yf_values, yf_bound, yf_cells, yf_conses, yf_lams, yf_steps, yf_atWork, yf_end, yf_writtenCount, ya_kind, ya_up, ya_turn, ya_depth, ya_value, ya_below, ya_length, ya_parameters, ya_codes, ya_codeCount, fo, co, sa, on, tw, td, nu, ya_text, ya_ofFunction, ya_codeEnd, ya_instance, ya_token, ya_env, ya_tag, ya_cellEnv, ya_boundNext, ya_step, ya_boundNumber, ya_boundTag, ya_headTag, ya_tailTag, ya_number, ya_boundValue, ya_head, ya_tail, ya_written)
theorem y_infer {post : Int32 → SY → Prop} {row f n N : Nat} {kN : Nat → Nat} {vl : Nat → Int32} {oc sp bd bi : Nat → Nat} {cod : Nat → List Nat} {S0 : (Nat → mt_T) → Prop} {K : Nat → Int32} {L R rt ds : Nat → Nat} (hrow : row ≤ 10) (hf : f < 5) (hl : ya_length row = nI n)
    (hbd : bd_ok n kN vl oc sp bd bi) (hb : yb_ok row n ya_kind ya_value ya_up ya_turn ya_depth ya_below kN vl oc sp bd) (hfn : yn_ok row f n ya_parameters ya_codeCount ya_codes kN vl oc cod)
    (hPs : yi_s post yf_place yf_points yf_names yf_textEnd yf_made yf_entry yf_waiting yf_values yf_bound yf_cells yf_conses yf_lams yf_steps yf_atWork yf_end yf_writtenCount ya_kind ya_up ya_turn ya_depth ya_value ya_below ya_length ya_parameters ya_codes ya_codeCount ya_form ya_colour ya_same ya_one ya_two ya_todo ya_numbered ya_text ya_ofFunction ya_codeEnd ya_instance ya_token ya_env ya_tag ya_cellEnv ya_boundNext ya_step ya_boundNumber ya_boundTag ya_headTag ya_tailTag ya_number ya_boundValue ya_head ya_tail ya_written (S_t S0 f kN vl oc sp bd bi cod n))
    (hPf : ∀ t N fo sa on tw co td nu, t < n → (t = 0 ∨ ∃ r, (∀ n, mt_wf (r n)) ∧ S_t S0 f kN vl oc sp bd bi cod t r) → (∀ r, (∀ n, mt_wf (r n)) → ¬ S_t S0 f kN vl oc sp bd bi cod (t + 1) r) →
      post (nI t) (yf_place, (nI N), yf_names, yf_textEnd, yf_made, yf_entry, yf_waiting, yf_values, yf_bound, yf_cells, yf_conses, yf_lams, yf_steps, yf_atWork, yf_end, yf_writtenCount, ya_kind, ya_up, ya_turn, ya_depth, ya_value, ya_below, ya_length, ya_parameters, ya_codes, ya_codeCount, fo, co, sa, on, tw, td, nu, ya_text, ya_ofFunction, ya_codeEnd, ya_instance, ya_token, ya_env, ya_tag, ya_cellEnv, ya_boundNext, ya_step, ya_boundNumber, ya_boundTag, ya_headTag, ya_tailTag, ya_number, ya_boundValue, ya_head, ya_tail, ya_written))
    (h74 : 74 ≤ N) (hN : N ≤ 116) (hg : yg_ok N ya_form ya_same ya_one ya_two K L R rt ds) (hp : pj_is 74 (gr_sat N K L R) S0) : wpY_infer post (yf_place, (nI N), yf_names, yf_textEnd, yf_made, yf_entry, yf_waiting, yf_values, yf_bound, yf_cells, yf_conses, yf_lams, yf_steps, yf_atWork, yf_end, yf_writtenCount, ya_kind, ya_up, ya_turn, ya_depth, ya_value, ya_below, ya_length, ya_parameters, ya_codes, ya_codeCount, ya_form, ya_colour, ya_same, ya_one, ya_two, ya_todo, ya_numbered, ya_text, ya_ofFunction, ya_codeEnd, ya_instance, ya_token, ya_env, ya_tag, ya_cellEnv, ya_boundNext, ya_step, ya_boundNumber, ya_boundTag, ya_headTag, ya_tailTag, ya_number, ya_boundValue, ya_head, ya_tail, ya_written) (nI row) (nI f) := by
  refine Exists.intro (n + 1) (y_infer2 hrow hf hl hbd hb hfn hPs hPf n 0 (n + 1) N ya_form ya_same ya_one ya_two ya_colour ya_todo ya_numbered K L R rt ds (by omega) (by omega) h74 (by simp only [sm]; omega) hg ?_ (Or.inl rfl))
  exact ⟨fun r hr h => ⟨hp.1 r hr h, fun s hs => by omega⟩, fun r hr h => hp.2 r hr h.1⟩
theorem mt_encs_app : ∀ a b : List mt_T, mt_encs (a ++ b) = mt_encs a ++ mt_encs b := by
  intro a
  induction a with
  | nil => intro b; rfl
  | cons t a ih => intro b; simp only [List.cons_append, mt_encs, ih, List.append_assoc]
theorem gd_l {α : Type} (l2 : List α) (d : α) : ∀ (l1 : List α) (k : Nat), k < l1.length → (l1 ++ l2).getD k d = l1.getD k d := by
  intro l1
  induction l1 with
  | nil => intro k h; simp at h
  | cons x l ih =>
    intro k h
    cases k with
    | zero => rfl
    | succ k => simp only [List.cons_append, List.getD_cons_succ]; exact ih k (by simpa using h)
/-- the nodes of the first p parameters -/
def pr_st (p : Nat) : List Nat := (List.range p).map (fun j => 72 + j)
theorem pr_s (p : Nat) : pr_st (p + 1) = pr_st p ++ [72 + p] := by simp only [pr_st, List.range_succ, List.map_append, List.map_cons, List.map_nil]
theorem pr_enc (c : Nat → mt_T) (p : Nat) : mt_encs ((pr_st (p + 1)).map c) = mt_encs ((pr_st p).map c) ++ mt_enc (c (72 + p)) := by
  rw [pr_s, List.map_append, mt_encs_app]; simp [mt_encs]
theorem ow_enc (c : Nat → mt_T) (P : Nat) : mt_encs ((ow_st P).map c) = mt_encs ((pr_st P).map c) ++ mt_enc (c 0) := by
  unfold ow_st; rw [List.map_append, mt_encs_app]; simp [mt_encs, pr_st]
theorem pr_le {c : Nat → mt_T} {P : Nat} (h : ∀ p, p < P → (mt_enc (c (72 + p))).length ≤ 14) : ∀ p, p ≤ P → (mt_encs ((pr_st p).map c)).length ≤ 14 * p := by
  intro p
  induction p with
  | zero => intro _; exact Nat.zero_le _
  | succ p ih =>
    intro hp
    have := ih (by omega)
    have := h p (by omega)
    rw [pr_enc, List.length_append]; omega
theorem tx_app {tx tx0 : Nat → Int32} {a b vs : List Nat} (h1 : ∀ i, i < a.length → tx0 i = nI ((cn_go vs a).getD i 0)) (h2 : ∀ i, i < b.length → tx (a.length + i) = nI ((cn_go (cn_seen vs a) b).getD i 0)) (h3 : ∀ i, i < a.length → tx i = tx0 i) :
    ∀ i, i < (a ++ b).length → tx i = nI ((cn_go vs (a ++ b)).getD i 0) := by
  intro i hi
  have hl : (cn_go vs a).length = a.length := by rw [cn_go_map, List.length_map]
  rw [cn_app]
  by_cases z : i < a.length
  · rw [gd_l _ _ _ _ (by omega), h3 i z]; exact h1 i z
  · obtain ⟨j, rfl⟩ : ∃ j, i = a.length + j := ⟨i - a.length, by omega⟩
    rw [h2 j (by rw [List.length_append] at hi; omega)]
    have := gd_r (cn_go (cn_seen vs a) b) 0 j (cn_go vs a)
    rw [hl, Nat.add_comm] at this
    rw [this]
theorem y_wa15 {post : SY → Prop} {row N P : Nat} {K : Nat → Int32} {L R rt ds : Nat → Nat} {c : Nat → mt_T} (hrow : row ≤ 10) (h74 : 74 ≤ N) (hN : N ≤ 900) (hP2 : P ≤ 2) (hpa : ya_parameters row = nI P)
    (hg : yw_ok N ya_form ya_same ya_one ya_two K L R rt ds c) (hlp : ∀ p, p < P → (mt_enc (c (72 + p))).length ≤ 14) (hl0 : (mt_enc (c 0)).length ≤ 14)
    (hP : ∀ nm td nu tx, (∀ i, i < (mt_encs ((ow_st P).map c)).length → tx i = nI ((cn_go [] (mt_encs ((ow_st P).map c))).getD i 0)) → post (yf_place, yf_points, nm, (nI (mt_encs ((ow_st P).map c)).length), yf_made, yf_entry, yf_waiting, yf_values, yf_bound, yf_cells, yf_conses, yf_lams, yf_steps, yf_atWork, yf_end, yf_writtenCount, ya_kind, ya_up, ya_turn, ya_depth, ya_value, ya_below, ya_length, ya_parameters, ya_codes, ya_codeCount, ya_form, ya_colour, ya_same, ya_one, ya_two, td, nu, tx, ya_ofFunction, ya_codeEnd, ya_instance, ya_token, ya_env, ya_tag, ya_cellEnv, ya_boundNext, ya_step, ya_boundNumber, ya_boundTag, ya_headTag, ya_tailTag, ya_number, ya_boundValue, ya_head, ya_tail, ya_written)) :
    ∀ q p fu td nu tx, p + q = P → q < fu → nb_ok N (cn_seen [] (mt_encs ((pr_st p).map c))) nu → (∀ i, i < (mt_encs ((pr_st p).map c)).length → tx i = nI ((cn_go [] (mt_encs ((pr_st p).map c))).getD i 0)) →
      wY_writeAll_15 post (nI row) 1 fu 1 (nI p) yf_place yf_points (nI (cn_seen [] (mt_encs ((pr_st p).map c))).length) (nI (mt_encs ((pr_st p).map c)).length) yf_made yf_entry yf_waiting yf_values yf_bound yf_cells yf_conses yf_lams yf_steps yf_atWork yf_end yf_writtenCount ya_kind ya_up ya_turn ya_depth ya_value ya_below ya_length ya_parameters ya_codes ya_codeCount ya_form ya_colour ya_same ya_one ya_two td nu tx ya_ofFunction ya_codeEnd ya_instance ya_token ya_env ya_tag ya_cellEnv ya_boundNext ya_step ya_boundNumber ya_boundTag ya_headTag ya_tailTag ya_number ya_boundValue ya_head ya_tail ya_written := by
  have hO : ∀ (vs cs : List Nat), vs.length ≤ 28 → cs.length ≤ 14 → ∀ k, k < (wr_f false vs cs).length → (wr_f false vs cs).getD k 0 < 100 := by
    intro vs cs h1 h2 k hk
    have := cn_bd cs vs _ (gd_mem _ k hk)
    show (cn_go vs cs).getD k 0 < 100
    omega
  intro q
  induction q with
  | zero =>
    intro p fu td nu tx hp hfu h1 h2
    obtain ⟨fu, rfl⟩ : ∃ g, fu = g + 1 := ⟨fu - 1, by omega⟩
    have e : p = P := by omega
    subst e
    have hpl := pr_le hlp p (Nat.le_refl _)
    have hcl := cs_len (mt_encs ((pr_st p).map c)) []
    rw [List.length_nil] at hcl
    refine And.intro (pk_in row 11 (by omega)) ?_
    rw [nI_clamp (n := row) (by omega), hpa]
    refine br_t (nI_le (Nat.le_refl _) (by omega)) (br_f n1_0 ?_)
    refine y_write (cl := false) (p := 0) (c := c) (vs0 := cn_seen [] (mt_encs ((pr_st p).map c))) hN (by omega) (by omega) rfl (by omega) hg (fun _ => ⟨rfl, h1⟩) (hO _ _ (by omega) hl0) (fun nm td' nu' tx' q1 q2 q3 q4 q5 => ?_) (fun _ _ _ _ z => by omega)
    have := hP nm td' nu' tx' (by rw [ow_enc]; exact tx_app h2 q4 q5)
    rw [ow_enc, List.length_append] at this
    exact this
  | succ q ih =>
    intro p fu td nu tx hp hfu h1 h2
    obtain ⟨fu, rfl⟩ : ∃ g, fu = g + 1 := ⟨fu - 1, by omega⟩
    have hpl := pr_le hlp p (by omega)
    have hlp' := hlp p (by omega)
    have hcl := cs_len (mt_encs ((pr_st p).map c)) []
    rw [List.length_nil] at hcl
    refine And.intro (pk_in row 11 (by omega)) ?_
    rw [nI_clamp (n := row) (by omega), hpa]
    refine br_f (nI_ge (by omega) (by omega)) (br_f n1_0 ?_)
    rw [ix_72]
    refine y_write (cl := false) (p := 72 + p) (c := c) (vs0 := cn_seen [] (mt_encs ((pr_st p).map c))) hN (by omega) (by omega) rfl (by omega) hg (fun _ => ⟨rfl, h1⟩) (hO _ _ (by omega) hlp') (fun nm td' nu' tx' q1 q2 q3 q4 q5 => ?_) (fun _ _ _ _ z => by omega)
    obtain ⟨e1, e2⟩ := q2 rfl
    subst e1
    refine nm_r (nI_1 p) ?_
    have := ih (p + 1) fu td' nu' tx' (by omega) (by omega) (by rw [pr_enc, cs_app]; exact e2) (by rw [pr_enc]; exact tx_app h2 q4 q5)
    rw [pr_enc, List.length_append, cs_app] at this
    exact this
theorem y_writeAll {post : SY → Prop} {row N P : Nat} {K : Nat → Int32} {L R rt ds : Nat → Nat} {c : Nat → mt_T} (hrow : row ≤ 10) (h74 : 74 ≤ N) (hN : N ≤ 900) (hP2 : P ≤ 2) (hpa : ya_parameters row = nI P)
    (hg : yw_ok N ya_form ya_same ya_one ya_two K L R rt ds c) (hlp : ∀ p, p < P → (mt_enc (c (72 + p))).length ≤ 14) (hl0 : (mt_enc (c 0)).length ≤ 14)
    (hP : ∀ nm td nu tx, (∀ i, i < (mt_encs ((ow_st P).map c)).length → tx i = nI ((cn_go [] (mt_encs ((ow_st P).map c))).getD i 0)) → post (yf_place, yf_points, nm, (nI (mt_encs ((ow_st P).map c)).length), yf_made, yf_entry, yf_waiting, yf_values, yf_bound, yf_cells, yf_conses, yf_lams, yf_steps, yf_atWork, yf_end, yf_writtenCount, ya_kind, ya_up, ya_turn, ya_depth, ya_value, ya_below, ya_length, ya_parameters, ya_codes, ya_codeCount, ya_form, ya_colour, ya_same, ya_one, ya_two, td, nu, tx, ya_ofFunction, ya_codeEnd, ya_instance, ya_token, ya_env, ya_tag, ya_cellEnv, ya_boundNext, ya_step, ya_boundNumber, ya_boundTag, ya_headTag, ya_tailTag, ya_number, ya_boundValue, ya_head, ya_tail, ya_written)) :
    wpY_writeAll post (yf_place, yf_points, yf_names, yf_textEnd, yf_made, yf_entry, yf_waiting, yf_values, yf_bound, yf_cells, yf_conses, yf_lams, yf_steps, yf_atWork, yf_end, yf_writtenCount, ya_kind, ya_up, ya_turn, ya_depth, ya_value, ya_below, ya_length, ya_parameters, ya_codes, ya_codeCount, ya_form, ya_colour, ya_same, ya_one, ya_two, ya_todo, ya_numbered, ya_text, ya_ofFunction, ya_codeEnd, ya_instance, ya_token, ya_env, ya_tag, ya_cellEnv, ya_boundNext, ya_step, ya_boundNumber, ya_boundTag, ya_headTag, ya_tailTag, ya_number, ya_boundValue, ya_head, ya_tail, ya_written) (nI row) 1 :=
  Exists.intro (P + 1) (y_wa15 (c := c) hrow h74 hN hP2 hpa hg hlp hl0 hP P 0 (P + 1) ya_todo ya_numbered ya_text (by omega) (by omega) (fun k hk => absurd hk (by simp [pr_st, mt_encs, cn_seen])) (fun i hi => absurd hi (by simp [pr_st, mt_encs])))
theorem y_nm8 {post : SY → Prop} {f : Nat} {Lc : List Nat} (hf : f < 5) (h42 : Lc.length ≤ 42) (h60 : ∀ k, k < Lc.length → Lc.getD k 0 < 60) (htx : ∀ i, i < Lc.length → ya_text i = nI (Lc.getD i 0))
    (hP : ∀ co : Nat → Int32, (∀ i, i < Lc.length → co (48 * f + i) = nI (Lc.getD i 0)) → (∀ j, j < 48 * f ∨ 48 * f + 48 ≤ j → co j = ya_codes j) → post (yf_place, yf_points, yf_names, (nI Lc.length), yf_made, yf_entry, yf_waiting, yf_values, yf_bound, yf_cells, yf_conses, yf_lams, yf_steps, yf_atWork, yf_end, yf_writtenCount, ya_kind, ya_up, ya_turn, ya_depth, ya_value, ya_below, ya_length, ya_parameters, co, (upd ya_codeCount f (nI Lc.length)), ya_form, ya_colour, ya_same, ya_one, ya_two, ya_todo, ya_numbered, ya_text, ya_ofFunction, ya_codeEnd, ya_instance, ya_token, ya_env, ya_tag, ya_cellEnv, ya_boundNext, ya_step, ya_boundNumber, ya_boundTag, ya_headTag, ya_tailTag, ya_number, ya_boundValue, ya_head, ya_tail, ya_written)) :
    ∀ q k fu (co : Nat → Int32), k + q = Lc.length → q < fu → (∀ i, i < k → co (48 * f + i) = nI (Lc.getD i 0)) → (∀ j, j < 48 * f ∨ 48 * f + 48 ≤ j → co j = ya_codes j) → wY_name_8 post (nI f) yf_place yf_points yf_names (nI Lc.length) yf_made yf_entry yf_waiting yf_values yf_bound yf_cells yf_conses yf_lams yf_steps yf_atWork yf_end yf_writtenCount fu (nI k) ya_kind ya_up ya_turn ya_depth ya_value ya_below ya_length ya_parameters co ya_codeCount ya_form ya_colour ya_same ya_one ya_two ya_todo ya_numbered ya_text ya_ofFunction ya_codeEnd ya_instance ya_token ya_env ya_tag ya_cellEnv ya_boundNext ya_step ya_boundNumber ya_boundTag ya_headTag ya_tailTag ya_number ya_boundValue ya_head ya_tail ya_written := by
  intro q
  induction q with
  | zero =>
    intro k fu co hk hfu h1 h2
    obtain ⟨fu, rfl⟩ : ∃ g, fu = g + 1 := ⟨fu - 1, by omega⟩
    have e : k = Lc.length := by omega
    subst e
    exact br_t (nI_le (Nat.le_refl _) (by omega)) (And.intro (pk_in f 5 hf) (nm_r (e' := upd ya_codeCount f (nI Lc.length)) (by rw [nI_clamp (by omega), nr_b (by omega)]) (hP co h1 h2)))
  | succ q ih =>
    intro k fu co hk hfu h1 h2
    obtain ⟨fu, rfl⟩ : ∃ g, fu = g + 1 := ⟨fu - 1, by omega⟩
    have e48 : (48 : Int32) * nI f + nI k = nI (48 * f + k) := by rw [show (48 : Int32) * nI f = nI (48 * f) from pk_mul 48 f, nI_add]
    have h60' := h60 k (by omega)
    refine br_f (nI_ge (by omega) (by omega)) (And.intro (pk_in k 50 (by omega)) (And.intro (pk_in (48 * f + k) 240 (by omega) e48) (nm_r (e' := upd co (48 * f + k) (nI (Lc.getD k 0))) (by rw [e48, nI_clamp (by omega), nI_clamp (by omega), htx k (by omega), nr_b0 (by omega)]) (nm_r (nI_1 k) (ih (k + 1) fu _ (by omega) (by omega) (fun i hi => ?_) (fun j hj => ?_))))))
    · by_cases z : i = k
      · rw [z, pk_us]
      · rw [pk_un (by omega)]; exact h1 i (by omega)
    · rw [pk_un (by omega)]; exact h2 j hj
theorem y_name {post : SY → Prop} {f N P : Nat} {K : Nat → Int32} {L R rt ds : Nat → Nat} {c : Nat → mt_T} (hf : f < 5) (h74 : 74 ≤ N) (hN : N ≤ 900) (hP2 : P ≤ 2) (hpa : ya_parameters f = nI P)
    (hg : yw_ok N ya_form ya_same ya_one ya_two K L R rt ds c) (hlp : ∀ p, p < P → (mt_enc (c (72 + p))).length ≤ 14) (hl0 : (mt_enc (c 0)).length ≤ 14)
    (hP : ∀ te nm td nu tx (co : Nat → Int32), (∀ i, i < (mt_encs ((ow_st P).map c)).length → co (48 * f + i) = nI ((cn_go [] (mt_encs ((ow_st P).map c))).getD i 0)) → (∀ j, j < 48 * f ∨ 48 * f + 48 ≤ j → co j = ya_codes j) →
      post (yf_place, yf_points, nm, te, yf_made, yf_entry, yf_waiting, yf_values, yf_bound, yf_cells, yf_conses, yf_lams, yf_steps, yf_atWork, yf_end, yf_writtenCount, ya_kind, ya_up, ya_turn, ya_depth, ya_value, ya_below, ya_length, ya_parameters, co, (upd ya_codeCount f (nI (mt_encs ((ow_st P).map c)).length)), ya_form, ya_colour, ya_same, ya_one, ya_two, td, nu, tx, ya_ofFunction, ya_codeEnd, ya_instance, ya_token, ya_env, ya_tag, ya_cellEnv, ya_boundNext, ya_step, ya_boundNumber, ya_boundTag, ya_headTag, ya_tailTag, ya_number, ya_boundValue, ya_head, ya_tail, ya_written)) :
    wpY_name post (yf_place, yf_points, yf_names, yf_textEnd, yf_made, yf_entry, yf_waiting, yf_values, yf_bound, yf_cells, yf_conses, yf_lams, yf_steps, yf_atWork, yf_end, yf_writtenCount, ya_kind, ya_up, ya_turn, ya_depth, ya_value, ya_below, ya_length, ya_parameters, ya_codes, ya_codeCount, ya_form, ya_colour, ya_same, ya_one, ya_two, ya_todo, ya_numbered, ya_text, ya_ofFunction, ya_codeEnd, ya_instance, ya_token, ya_env, ya_tag, ya_cellEnv, ya_boundNext, ya_step, ya_boundNumber, ya_boundTag, ya_headTag, ya_tailTag, ya_number, ya_boundValue, ya_head, ya_tail, ya_written) (nI f) := by
  have hpl := pr_le hlp P (Nat.le_refl _)
  have hle : (mt_encs ((ow_st P).map c)).length ≤ 42 := by rw [ow_enc, List.length_append]; omega
  have hcg : (cn_go [] (mt_encs ((ow_st P).map c))).length = (mt_encs ((ow_st P).map c)).length := wr_len false [] _
  unfold wpY_name
  refine y_writeAll (by omega) h74 hN hP2 hpa hg hlp hl0 (fun nm td nu tx htx => Exists.intro ((mt_encs ((ow_st P).map c)).length + 1) ?_)
  have key := y_nm8 (ya_todo := td) (ya_numbered := nu) (ya_text := tx) (yf_names := nm) (post := post) (f := f) (Lc := cn_go [] (mt_encs ((ow_st P).map c))) hf (by rw [hcg]; exact hle) (fun k hk => wr_lt (cl := false) hle k hk) (fun i hi => htx i (by rw [← hcg]; exact hi)) (fun co k1 k2 => by rw [hcg] at k1 ⊢; exact hP _ nm td nu tx co k1 k2) (mt_encs ((ow_st P).map c)).length 0 ((mt_encs ((ow_st P).map c)).length + 1) ya_codes (by omega) (by omega) (fun i hi => by omega) (fun _ _ => rfl)
  rw [hcg] at key
  exact key
end
section
theorem ru_depQ {Q : Nat → Prop} {k t w P : Nat} {c : Nat → Nat} {own : Bool} {Lc : List Nat} {r r' : Nat → mt_T} (hk : k ≤ 16) (ht : Q t) (ht1 : Q (24 + 2 * t)) (ht2 : Q (25 + 2 * t)) (hQ0 : Q 0) (hc : ∀ j, j < (if k = 4 then P else ar k) → Q (c j)) (hw : k = 3 → Q w) (hP : k = 4 → own = true → ∀ j, j < P → Q (72 + j))
    (e : ∀ n, Q n → r' n = r n) (h : ru_k k t c w own P Lc r) : ru_k k t c w own P Lc r' := by
  have hc' : k ≠ 4 → ∀ j, j < ar k → Q (c j) := fun z j hj => hc j (by rw [if_neg z]; exact hj)
  have et := e t ht
  have e1 := e (24 + 2 * t) ht1
  have e2 := e (25 + 2 * t) ht2
  rcases k17 hk with rfl | rfl | rfl | rfl | rfl | rfl | rfl | rfl | rfl | rfl | rfl | rfl | rfl | rfl | rfl | rfl | rfl
  · show r' t = _; rw [et]; exact h
  · show r' t = _; rw [et]; exact h
  · show r' t = _; rw [et]; exact h
  · show r' t = r' w; rw [et, e w (hw rfl)]; exact h
  · rw [if_pos rfl] at hc
    cases own with
    | true =>
      obtain ⟨a, b⟩ := h
      refine ⟨fun j hj => ?_, ?_⟩
      · rw [e _ (hc j hj), e _ (hP rfl rfl j hj)]; exact a j hj
      · rw [et, e 0 hQ0]; exact b
    | false =>
      show sc_inst Lc ((List.range P).map (fun j => r' (c j)) ++ [r' t])
      have : (List.range P).map (fun j => r' (c j)) = (List.range P).map (fun j => r (c j)) := List.map_congr_left (fun j hj => e _ (hc j (List.mem_range.mp hj)))
      rw [this, et]; exact h
  · show r' t = .branch 2 (r' (c 0)) (r' (c 1)); rw [et, e _ (hc' (by decide) 0 (by decide)), e _ (hc' (by decide) 1 (by decide))]; exact h
  · show ∃ x, mt_wf x ∧ r' (c 0) = .branch 2 (r' t) x; rw [et, e _ (hc' (by decide) 0 (by decide))]; exact h
  · show ∃ x, mt_wf x ∧ r' (c 0) = .branch 2 x (r' t); rw [et, e _ (hc' (by decide) 0 (by decide))]; exact h
  · show ∃ x, mt_wf x ∧ r' t = .branch 3 x (.leaf 0); rw [et]; exact h
  · show r' (c 1) = .branch 3 (r' (c 0)) (.leaf 0) ∧ r' t = r' (c 1); rw [et, e _ (hc' (by decide) 0 (by decide)), e _ (hc' (by decide) 1 (by decide))]; exact h
  · show r' (c 0) = .branch 3 (r' (24 + 2 * t)) (.leaf 0) ∧ r' (25 + 2 * t) = r' (c 0) ∧ r' (c 1) = r' t ∧ r' (c 2) = r' t
    rw [et, e1, e2, e _ (hc' (by decide) 0 (by decide)), e _ (hc' (by decide) 1 (by decide)), e _ (hc' (by decide) 2 (by decide))]; exact h
  · show r' (c 0) = .leaf 1 ∧ r' (c 1) = r' t ∧ r' (c 2) = r' t
    rw [et, e _ (hc' (by decide) 0 (by decide)), e _ (hc' (by decide) 1 (by decide)), e _ (hc' (by decide) 2 (by decide))]; exact h
  · show r' (c 0) = .leaf 0 ∧ r' (c 1) = .leaf 0 ∧ r' t = .leaf 0; rw [et, e _ (hc' (by decide) 0 (by decide)), e _ (hc' (by decide) 1 (by decide))]; exact h
  · show r' (c 0) = .leaf 0 ∧ r' (c 1) = .leaf 0 ∧ r' t = .leaf 1; rw [et, e _ (hc' (by decide) 0 (by decide)), e _ (hc' (by decide) 1 (by decide))]; exact h
  · show r' (24 + 2 * t) = r' (c 0) ∧ r' t = r' (c 1); rw [et, e1, e _ (hc' (by decide) 0 (by decide)), e _ (hc' (by decide) 1 (by decide))]; exact h
  · show r' t = .branch 4 (r' (24 + 2 * t)) (r' (c 0)); rw [et, e1, e _ (hc' (by decide) 0 (by decide))]; exact h
  · show r' (c 0) = .branch 4 (r' (c 1)) (r' t); rw [et, e _ (hc' (by decide) 0 (by decide)), e _ (hc' (by decide) 1 (by decide))]; exact h
theorem ru_L {k t w P : Nat} {c : Nat → Nat} {own : Bool} {L L' : List Nat} {r : Nat → mt_T} (hk : k ≤ 16) (h : k = 4 → own = false → L' = L) (hr : ru_k k t c w own P L r) : ru_k k t c w own P L' r := by
  by_cases z : k = 4
  · subst z
    cases own with
    | true => exact hr
    | false => rw [h rfl rfl]; exact hr
  · rcases k17 hk with rfl | rfl | rfl | rfl | rfl | rfl | rfl | rfl | rfl | rfl | rfl | rfl | rfl | rfl | rfl | rfl | rfl <;> first | exact absurd rfl z | exact hr
theorem S_cod {S0 : (Nat → mt_T) → Prop} {f : Nat} {kN : Nat → Nat} {vl : Nat → Int32} {oc sp bd bi : Nat → Nat} {cod cod' : Nat → List Nat} {n : Nat} {r : Nat → mt_T} (hk : ∀ t, t < n → kN t ≤ 16)
    (h : ∀ t, t < n → kN t = 4 → (vl t).toNatClampNeg ≠ f → cod' (vl t).toNatClampNeg = cod (vl t).toNatClampNeg) (hs : S_t S0 f kN vl oc sp bd bi cod n r) : S_t S0 f kN vl oc sp bd bi cod' n r := by
  refine ⟨hs.1, fun s hl => ru_L (hk s hl) (fun z w => h s hl z (fun e => ?_)) (hs.2 s hl)⟩
  rw [e] at w
  simp at w
/-- the node of variable k at token t -/
def wv (bi bd : Nat → Nat) (t k : Nat) : Nat := vw bi bd (bi t) (bi t) k
theorem wv_child {n : Nat} {kN oc sp bd bi : Nat → Nat} (htr : tr_ok n kN oc sp bd bi) (hbi : ∀ t, t < n → bi t ≤ t) {t j : Nat} (ht : t < n) (hj : j < oc t) (k : Nat) :
    wv bi bd (jp sp t j) k = if bn (kN t) j ≠ 0 ∧ bd t ≤ k then 24 + 2 * t + (k - bd t) else wv bi bd t k := by
  obtain ⟨t1, t2⟩ := htr.2 t ht j hj
  unfold wv
  by_cases z : bn (kN t) j = 0
  · rw [if_pos z] at t2
    rw [t2, if_neg (fun y => y.1 z)]
  · rw [if_neg z] at t2
    rw [t2]
    simp only [vw, Nat.add_sub_cancel, Nat.succ_ne_zero, if_false]
    by_cases y : bd t ≤ k
    · rw [if_pos y, if_pos ⟨z, y⟩]
    · rw [if_neg y, if_neg (fun x => y x.2)]
      exact vw_fuel' t (bi t) (bi t) k (hbi t ht) (Nat.le_refl _) (fun s hs => hbi s (by have := hbi t ht; omega))
theorem wv_in {n P : Nat} {kN oc sp bd bi : Nat → Nat} (hn : n ≤ 24) (hbw : bw_is n oc sp) (htr : tr_ok n kN oc sp bd bi) (hbi : ∀ t, t < n → bi t ≤ t) (h0 : bd 0 = P) : ∀ m t, t ≤ m → t < n → ∀ k, k < bd t → yl_in n P (wv bi bd t k) := by
  intro m
  induction m with
  | zero =>
    intro t ht htn k hk
    have e : t = 0 := by omega
    subst e
    unfold wv
    rw [htr.1]
    exact Or.inr (Or.inr ⟨by simp only [vw]; omega, by simp only [vw]; omega⟩)
  | succ m ih =>
    intro t ht htn k hk
    by_cases z : t = 0
    · subst z
      unfold wv
      rw [htr.1]
      exact Or.inr (Or.inr ⟨by simp only [vw]; omega, by simp only [vw]; omega⟩)
    · obtain ⟨v, j, hv, hj, e⟩ := bw_parent hbw (by omega) htn
      have hc := wv_child htr hbi (by omega) hj k
      have hb := (htr.2 v (by omega) j hj).1
      have h2 := bn_2 (kN v) j
      rw [← e] at hc hb
      rw [hc]
      by_cases y : bn (kN v) j ≠ 0 ∧ bd v ≤ k
      · rw [if_pos y]
        exact Or.inr (Or.inl ⟨by omega, by omega, by omega⟩)
      · rw [if_neg y]
        refine ih v (by omega) (by omega) k ?_
        by_cases x : bn (kN v) j = 0
        · omega
        · have : ¬ bd v ≤ k := fun w => y ⟨x, w⟩
          omega
theorem yl_74 {n P p : Nat} (hP : P ≤ 2) (h : yl_in n P p) : p < 74 := by
  rcases h with ⟨a, _⟩ | ⟨_, a, _⟩ | ⟨a, b⟩ <;> omega
/-- how many variables are bound, at most -/
theorem bd_2 {n P : Nat} {kN oc sp bd bi : Nat → Nat} (hbw : bw_is n oc sp) (htr : tr_ok n kN oc sp bd bi) (h0 : bd 0 = P) : ∀ m t, t ≤ m → t < n → bd t ≤ P + 2 * t := by
  intro m
  induction m with
  | zero => intro t ht _; have e : t = 0 := by omega
            subst e; omega
  | succ m ih =>
    intro t ht htn
    by_cases z : t = 0
    · subst z; omega
    · obtain ⟨v, j, hv, hj, e⟩ := bw_parent hbw (by omega) htn
      have hb := (htr.2 v (by omega) j hj).1
      have h2 := bn_2 (kN v) j
      have := ih v (by omega) (by omega)
      rw [← e] at hb
      omega
theorem bi_t {n : Nat} {kN oc sp bd bi : Nat → Nat} (hbw : bw_is n oc sp) (htr : tr_ok n kN oc sp bd bi) : ∀ m t, t ≤ m → t < n → bi t ≤ t := by
  intro m
  induction m with
  | zero => intro t ht _; have e : t = 0 := by omega
            subst e; rw [htr.1]; omega
  | succ m ih =>
    intro t ht htn
    by_cases z : t = 0
    · subst z; rw [htr.1]; omega
    · obtain ⟨v, j, hv, hj, e⟩ := bw_parent hbw (by omega) htn
      have hb := (htr.2 v (by omega) j hj).2
      have := ih v (by omega) (by omega)
      rw [← e] at hb
      rw [hb]
      split <;> omega
theorem bd_10 {n P : Nat} {kN oc sp bd bi : Nat → Nat} (hbw : bw_is n oc sp) (htr : tr_ok n kN oc sp bd bi) (h0 : bd 0 = P) (hP : P ≤ 2) (hk : ∀ t, t < n → kN t ≤ 16 ∧ (kN t ≠ 4 → oc t = ar (kN t))) (hop : ∀ t, t < n → 0 < op (kN t) → bd t + op (kN t) ≤ 10) : ∀ m t, t ≤ m → t < n → bd t ≤ 10 := by
  intro m
  induction m with
  | zero => intro t ht _; have e : t = 0 := by omega
            subst e; omega
  | succ m ih =>
    intro t ht htn
    by_cases z : t = 0
    · subst z; omega
    · obtain ⟨v, j, hv, hj, e⟩ := bw_parent hbw (by omega) htn
      have hb := (htr.2 v (by omega) j hj).1
      have := ih v (by omega) (by omega)
      rw [← e] at hb
      rw [hb, op_bn (hk v (by omega)).1 (hk v (by omega)).2 j hj]
      split
      · next y => exact hop v (by omega) y.1
      · omega
/-- bodies and types of the functions -/
def lib (ln P : Nat → Nat) (kN : Nat → Nat → Nat) (vl : Nat → Nat → Int32) (oc sp bd bi : Nat → Nat → Nat) (cod : Nat → List Nat) : Prop :=
  ∀ g, g < 5 → ln g ≠ 0 → bd_ok (ln g) (kN g) (vl g) (oc g) (sp g) (bd g) (bi g) ∧ bd g 0 = P g ∧ P g ≤ 2 ∧ (∀ t, t < ln g → bd g t ≤ 10) ∧ (∀ t, t < ln g → 0 < op (kN g t) → bd g t + op (kN g t) ≤ 10) ∧
    (∀ t, t < ln g → kN g t = 4 → ∃ h, h < 5 ∧ vl g t = nI h ∧ ln h ≠ 0 ∧ oc g t = P h) ∧
    (∃ ts, (∀ t ∈ ts, mt_wf t) ∧ mt_encs ts = cod g ∧ ts.length = P g + 1) ∧ (cod g).length ≤ 14 * (P g + 1) ∧ (∀ k, k < (cod g).length → (cod g).getD k 0 < 60) ∧
    (∀ tp, sc_inst (cod g) tp ↔ ∃ r, (∀ n, mt_wf (r n)) ∧ S_t (fun _ => True) g (kN g) (vl g) (oc g) (sp g) (bd g) (bi g) cod (ln g) r ∧ tp = (ow_st (P g)).map r)
def lx_ok (ln P : Nat → Nat) (kN : Nat → Nat → Nat) (vl : Nat → Nat → Int32) (sp bd bi : Nat → Nat → Nat) (cod : Nat → List Nat) (ki va spa bou bin len pc tc tl : Nat → Int32) : Prop :=
  ∀ g, g < 5 → len g = nI (ln g) ∧ ln g ≤ 24 ∧ (ln g ≠ 0 → pc g = nI (P g) ∧ (∀ t, t < ln g → ki (g * 24 + t) = nI (kN g t) ∧ va (g * 24 + t) = vl g t ∧ spa (g * 24 + t) = nI (sp g t) ∧ bou (g * 24 + t) = nI (bd g t) ∧ bin (g * 24 + t) = (if bi g t = 0 then -1 else nI (bi g t - 1))) ∧ rw_ok g tc tl (cod g))
def ly_ok (ln P : Nat → Nat) (kN : Nat → Nat → Nat) (vl : Nat → Nat → Int32) (oc sp bd : Nat → Nat → Nat) (cod : Nat → List Nat) (ki va up tu de be len par co cn : Nat → Int32) : Prop :=
  ∀ g, g < 5 → len g = nI (ln g) ∧ (ln g ≠ 0 → par g = nI (P g) ∧ yb_ok g (ln g) ki va up tu de be (kN g) (vl g) (oc g) (sp g) (bd g) ∧ cn g = nI (cod g).length ∧ ∀ k, k < (cod g).length → co (48 * g + k) = nI ((cod g).getD k 0))
/-- X's body of g, as the typing wants it -/
theorem lib_xb {ln P : Nat → Nat} {kN : Nat → Nat → Nat} {vl : Nat → Nat → Int32} {oc sp bd bi : Nat → Nat → Nat} {cod : Nat → List Nat} {ki va spa bou bin len pc tc tl : Nat → Int32} (h : lib ln P kN vl oc sp bd bi cod) (hx : lx_ok ln P kN vl sp bd bi cod ki va spa bou bin len pc tc tl)
    {g : Nat} (hg : g < 5) (hl : ln g ≠ 0) : xb_ok g (ln g) ki va spa bou bin len pc (kN g) (vl g) (oc g) (sp g) (bd g) (bi g) := by
  obtain ⟨⟨b1, b2, b3, b4, b5⟩, _, _, l4, _, l6, _⟩ := h g hg hl
  obtain ⟨_, _, x3⟩ := hx g hg
  obtain ⟨_, x5, _⟩ := x3 hl
  refine ⟨b1, b2, b3, fun t ht => ?_⟩
  obtain ⟨c1, c2, c3, c4, c5, c6⟩ := b5 t ht
  obtain ⟨y1, y2, y3, y4, y5⟩ := x5 t ht
  refine ⟨y1, c1, y2, y3, y4, c3, y5, c4, c6, fun z => ?_, c5⟩
  obtain ⟨h', h1, h2, h3, h4⟩ := l6 t ht z
  obtain ⟨z1, z2, z3⟩ := hx h' h1
  refine ⟨h', h1, h2, ?_, ?_, ?_⟩
  · rw [z1]; intro w; exact h3 ((nI_eq (b := 0) (by omega) (by omega)).mp w)
  · rw [h4]; exact (z3 h3).1
  · rw [h4]; exact (h h' h1 h3).2.2.1
theorem lib_fn {ln P : Nat → Nat} {kN : Nat → Nat → Nat} {vl : Nat → Nat → Int32} {oc sp bd bi : Nat → Nat → Nat} {cod : Nat → List Nat} {ki va spa bou bin len pc tc tl : Nat → Int32} (h : lib ln P kN vl oc sp bd bi cod) (hx : lx_ok ln P kN vl sp bd bi cod ki va spa bou bin len pc tc tl)
    {g : Nat} (hg : g < 5) (hl : ln g ≠ 0) : fn_ok g (ln g) tc tl (kN g) (vl g) (oc g) cod := by
  intro t ht k4 h' hv h5 hne
  obtain ⟨h'', h1, h2, h3, h4⟩ := (h g hg hl).2.2.2.2.2.1 t ht k4
  have e : h'' = h' := by rw [h2] at hv; exact (nI_eq (by omega) (by omega)).mp hv
  subst e
  obtain ⟨_, _, _, _, _, _, l7, l8, _⟩ := h h'' h1 h3
  rw [h4]
  exact ⟨(hx h'' h1).2.2 h3 |>.2.2, l7, l8⟩
theorem lib_yn {ln P : Nat → Nat} {kN : Nat → Nat → Nat} {vl : Nat → Nat → Int32} {oc sp bd bi : Nat → Nat → Nat} {cod : Nat → List Nat} {ki va up tu de be len par co cn : Nat → Int32} (h : lib ln P kN vl oc sp bd bi cod) (hy : ly_ok ln P kN vl oc sp bd cod ki va up tu de be len par co cn)
    {g : Nat} (hg : g < 5) (hl : ln g ≠ 0) : yn_ok g g (ln g) par cn co (kN g) (vl g) (oc g) cod := by
  intro t ht k4
  obtain ⟨h', h1, h2, h3, h4⟩ := (h g hg hl).2.2.2.2.2.1 t ht k4
  obtain ⟨_, _, l3, _, _, _, l7, l8, l9, _⟩ := h h' h1 h3
  obtain ⟨y1, y2⟩ := hy h' h1
  obtain ⟨y3, y4, y5, y6⟩ := y2 h3
  rw [← h4] at l3 l7 l8 y3
  exact ⟨h', h1, h2, l3, fun e => (congrArg par e.symm).trans y3, fun _ => ⟨y3, l7, l8, l9, y5, y6⟩⟩
theorem S_mono {S0 : (Nat → mt_T) → Prop} {f : Nat} {kN : Nat → Nat} {vl : Nat → Int32} {oc sp bd bi : Nat → Nat} {cod : Nat → List Nat} {t u : Nat} {r : Nat → mt_T} (h : S_t S0 f kN vl oc sp bd bi cod u r) (htu : t ≤ u) : S_t S0 f kN vl oc sp bd bi cod t r :=
  ⟨h.1, fun s hs => h.2 s (by omega)⟩
/-- the rules of a body look at its own nodes alone -/
theorem S_dep {S0 : (Nat → mt_T) → Prop} {f n P : Nat} {kN : Nat → Nat} {vl : Nat → Int32} {oc sp bd bi : Nat → Nat} {cod : Nat → List Nat} {r r' : Nat → mt_T} (hn0 : 0 < n) (hb : bd_ok n kN vl oc sp bd bi) (h0 : bd 0 = P) (h4 : ∀ t, t < n → kN t = 4 → (vl t).toNatClampNeg = f → oc t = P)
    (e : ∀ p, yl_in n P p → r' p = r p) (hS : S0 r → S0 r') (h : S_t S0 f kN vl oc sp bd bi cod n r) : S_t S0 f kN vl oc sp bd bi cod n r' := by
  obtain ⟨n24, bw, _, tr, hbt⟩ := hb
  refine ⟨hS h.1, fun t ht => ?_⟩
  obtain ⟨b1, b2, b3, b4, b5, b6⟩ := hbt t ht
  have hin : ∀ s, s < n → yl_in n P s := fun s hs => Or.inl ⟨by omega, hs⟩
  refine ru_depQ (Q := yl_in n P) b1 (hin t ht) (Or.inr (Or.inl ⟨by omega, by omega, by omega⟩)) (Or.inr (Or.inl ⟨by omega, by omega, by omega⟩)) (hin 0 hn0) (fun j hj => ?_) (fun z => ?_) (fun z w j hj => ?_) e (h.2 t ht)
  · have : j < oc t := by
      by_cases z : kN t = 4
      · rw [if_pos z] at hj; exact hj
      · rw [if_neg z] at hj; rw [b5 z]; exact hj
    exact hin _ (bw_in bw ht this).2.2
  · obtain ⟨v, v1, v2, v3, v4⟩ := b6 z
    rw [v2, nI_clamp (by omega)]
    exact wv_in n24 bw tr (fun t ht => (hbt t ht).2.2.2.1) h0 t t (Nat.le_refl _) ht v v3
  · have := h4 t ht z (of_decide_eq_true w)
    exact Or.inr (Or.inr ⟨by omega, by omega⟩)
/-- a node that no rule names is a variable -/
theorem un_1 {N : Nat} {Sol S : (Nat → mt_T) → Prop} {c : Nat → mt_T} {Q : Nat → Prop} (hN : 74 ≤ N) (hm : mg_is N Sol c) (hp : pj_is 74 Sol S) (hS : ∀ r r', (∀ n, Q n → r' n = r n) → S r → S r') {p : Nat} (hp74 : p < 74) (hq : ¬ Q p) : (mt_enc (c p)).length ≤ 1 := by
  have h1 := hp.1 c hm.1 (mg_self hm)
  have h2 := hS c (gr_put c p (.leaf 0)) (fun n hn => gr_put_ne (fun z => hq (z ▸ hn))) h1
  obtain ⟨r', w', s', e'⟩ := hp.2 _ (pt_wf hm.1 mt_wf0) h2
  obtain ⟨s, _, es⟩ := hm.2.2 r' w' s'
  have h3 := es p (by omega)
  rw [e' p hp74, gr_put_eq] at h3
  have h4 := mt_sub_len s (c p)
  rw [← h3] at h4
  exact h4
def updG {α : Type} (F : Nat → α) (f : Nat) (x : α) : Nat → α := fun g => if g = f then x else F g
theorem uG_s {α : Type} {F : Nat → α} {f : Nat} {x : α} : updG F f x f = x := if_pos rfl
theorem uG_n {α : Type} {F : Nat → α} {f g : Nat} {x : α} (h : g ≠ f) : updG F f x g = F g := if_neg h
end
section
variable {yf_place yf_points yf_names yf_textEnd yf_made yf_entry yf_waiting yf_values yf_bound yf_cells yf_conses yf_lams yf_steps yf_atWork yf_end yf_writtenCount : Int32} {ya_kind ya_up ya_turn ya_depth ya_value ya_below ya_length ya_parameters ya_codes ya_codeCount ya_form ya_colour ya_same ya_one ya_two ya_todo ya_numbered ya_text ya_ofFunction ya_codeEnd ya_instance ya_token ya_env ya_tag ya_cellEnv ya_boundNext ya_step ya_boundNumber ya_boundTag ya_headTag ya_tailTag ya_number ya_boundValue ya_head ya_tail ya_written : Nat → Int32}
theorem y_out {post : Int32 → Prop} {x l : Int32} (h1 : x < 0 ∨ ¬ x < l → post 1) (h0 : ¬ x < 0 → x < l → post 0) : wpY_out post x l :=
  br_c (fun a => h1 (Or.inl a)) (fun a => br_c (fun b => h0 a b) (fun b => h1 (Or.inr b)))
theorem y_bad166 {post : Int32 → SY → Prop} {x1 x4 : Int32} (h : ¬ x4 = 0) (hP : post x4 (yf_place, yf_points, yf_names, yf_textEnd, yf_made, yf_entry, yf_waiting, yf_values, yf_bound, yf_cells, yf_conses, yf_lams, yf_steps, yf_atWork, yf_end, yf_writtenCount, ya_kind, ya_up, ya_turn, ya_depth, ya_value, ya_below, (upd ya_length 5 0), ya_parameters, ya_codes, ya_codeCount, ya_form, ya_colour, ya_same, ya_one, ya_two, ya_todo, ya_numbered, ya_text, ya_ofFunction, ya_codeEnd, ya_instance, ya_token, ya_env, ya_tag, ya_cellEnv, ya_boundNext, ya_step, ya_boundNumber, ya_boundTag, ya_headTag, ya_tailTag, ya_number, ya_boundValue, ya_head, ya_tail, ya_written)) : wY_define_166 post x1 x4 yf_place yf_points yf_names yf_textEnd yf_made yf_entry yf_waiting yf_values yf_bound yf_cells yf_conses yf_lams yf_steps yf_atWork yf_end yf_writtenCount ya_kind ya_up ya_turn ya_depth ya_value ya_below ya_length ya_parameters ya_codes ya_codeCount ya_form ya_colour ya_same ya_one ya_two ya_todo ya_numbered ya_text ya_ofFunction ya_codeEnd ya_instance ya_token ya_env ya_tag ya_cellEnv ya_boundNext ya_step ya_boundNumber ya_boundTag ya_headTag ya_tailTag ya_number ya_boundValue ya_head ya_tail ya_written :=
  br_f h (nm_r (e' := upd ya_length 5 0) (congrArg _ (nr_b0 (n := 0) (by omega))) hP)
theorem y_bad118 {post : Int32 → SY → Prop} {x1 x3 x4 : Int32} (h : ¬ x4 = 0) (hP : post x4 (x3, yf_points, yf_names, yf_textEnd, yf_made, yf_entry, yf_waiting, yf_values, yf_bound, yf_cells, yf_conses, yf_lams, yf_steps, yf_atWork, yf_end, yf_writtenCount, ya_kind, ya_up, ya_turn, ya_depth, ya_value, ya_below, (upd ya_length 5 0), ya_parameters, ya_codes, ya_codeCount, ya_form, ya_colour, ya_same, ya_one, ya_two, ya_todo, ya_numbered, ya_text, ya_ofFunction, ya_codeEnd, ya_instance, ya_token, ya_env, ya_tag, ya_cellEnv, ya_boundNext, ya_step, ya_boundNumber, ya_boundTag, ya_headTag, ya_tailTag, ya_number, ya_boundValue, ya_head, ya_tail, ya_written)) : wY_define_118 post x1 x3 x4 yf_place yf_points yf_names yf_textEnd yf_made yf_entry yf_waiting yf_values yf_bound yf_cells yf_conses yf_lams yf_steps yf_atWork yf_end yf_writtenCount ya_kind ya_up ya_turn ya_depth ya_value ya_below ya_length ya_parameters ya_codes ya_codeCount ya_form ya_colour ya_same ya_one ya_two ya_todo ya_numbered ya_text ya_ofFunction ya_codeEnd ya_instance ya_token ya_env ya_tag ya_cellEnv ya_boundNext ya_step ya_boundNumber ya_boundTag ya_headTag ya_tailTag ya_number ya_boundValue ya_head ya_tail ya_written :=
  br_f h (br_f h (y_bad166 h hP))
theorem y_def118 {post : Int32 → SY → Prop} {f n P : Nat} {x3 : Int32} {kN : Nat → Nat} {vl : Nat → Int32} {oc sp bd bi : Nat → Nat} {cod : Nat → List Nat} (hf : f < 5) (hP2 : P ≤ 2) (hn : n ≤ 24) (hl : ya_length 5 = nI n) (hpa : ya_parameters 5 = nI P)
    (hbd : bd_ok n kN vl oc sp bd bi) (hb : yb_ok 5 n ya_kind ya_value ya_up ya_turn ya_depth ya_below kN vl oc sp bd) (hfn : yn_ok 5 f n ya_parameters ya_codeCount ya_codes kN vl oc cod)
    (hT : ∀ t N fo sa on tw co td nu, t < n → (t = 0 ∨ ∃ r, (∀ n, mt_wf (r n)) ∧ S_t (fun _ => True) f kN vl oc sp bd bi cod t r) → (∀ r, (∀ n, mt_wf (r n)) → ¬ S_t (fun _ => True) f kN vl oc sp bd bi cod (t + 1) r) →
      post 3 ((nI t), N, yf_names, yf_textEnd, yf_made, yf_entry, yf_waiting, yf_values, yf_bound, yf_cells, yf_conses, yf_lams, yf_steps, yf_atWork, yf_end, yf_writtenCount, ya_kind, ya_up, ya_turn, ya_depth, ya_value, ya_below, (upd ya_length 5 0), ya_parameters, ya_codes, ya_codeCount, fo, co, sa, on, tw, td, nu, ya_text, ya_ofFunction, ya_codeEnd, ya_instance, ya_token, ya_env, ya_tag, ya_cellEnv, ya_boundNext, ya_step, ya_boundNumber, ya_boundTag, ya_headTag, ya_tailTag, ya_number, ya_boundValue, ya_head, ya_tail, ya_written))
    (hL : ∀ (N : Nat) (Sol : (Nat → mt_T) → Prop) (c : Nat → mt_T), 74 ≤ N → mg_is N Sol c → pj_is 74 Sol (S_t (fun _ => True) f kN vl oc sp bd bi cod n) → (∃ p, p < 74 ∧ 14 < (mt_enc (c p)).length) → ∀ pt te nm fo sa on tw co td nu tx,
      post 4 ((-1), pt, nm, te, yf_made, yf_entry, yf_waiting, yf_values, yf_bound, yf_cells, yf_conses, yf_lams, yf_steps, yf_atWork, yf_end, yf_writtenCount, ya_kind, ya_up, ya_turn, ya_depth, ya_value, ya_below, (upd ya_length 5 0), ya_parameters, ya_codes, ya_codeCount, fo, co, sa, on, tw, td, nu, tx, ya_ofFunction, ya_codeEnd, ya_instance, ya_token, ya_env, ya_tag, ya_cellEnv, ya_boundNext, ya_step, ya_boundNumber, ya_boundTag, ya_headTag, ya_tailTag, ya_number, ya_boundValue, ya_head, ya_tail, ya_written))
    (hO : ∀ (N : Nat) (Sol : (Nat → mt_T) → Prop) (c : Nat → mt_T), 74 ≤ N → mg_is N Sol c → pj_is 74 Sol (S_t (fun _ => True) f kN vl oc sp bd bi cod n) → (∀ p, p < 74 → yl_in n P p → (mt_enc (c p)).length ≤ 14) → ∀ pt te nm fo sa on tw co td nu tx ki va up tu de be cs,
      yk_ok 5 f 24 ya_kind ya_value ya_up ya_turn ya_depth ya_below ki va up tu de be → (∀ i, i < (mt_encs ((ow_st P).map c)).length → cs (48 * f + i) = nI ((cn_go [] (mt_encs ((ow_st P).map c))).getD i 0)) → (∀ j, j < 48 * f ∨ 48 * f + 48 ≤ j → cs j = ya_codes j) →
      post 0 ((-1), pt, nm, te, yf_made, yf_entry, yf_waiting, yf_values, yf_bound, yf_cells, yf_conses, yf_lams, yf_steps, yf_atWork, yf_end, yf_writtenCount, ki, up, tu, de, va, be, (upd (upd ya_length f (nI n)) 5 0), (upd ya_parameters f (nI P)), cs, (upd ya_codeCount f (nI (mt_encs ((ow_st P).map c)).length)), fo, co, sa, on, tw, td, nu, tx, ya_ofFunction, ya_codeEnd, ya_instance, ya_token, ya_env, ya_tag, ya_cellEnv, ya_boundNext, ya_step, ya_boundNumber, ya_boundTag, ya_headTag, ya_tailTag, ya_number, ya_boundValue, ya_head, ya_tail, ya_written)) :
    wY_define_118 post (nI f) x3 0 yf_place yf_points yf_names yf_textEnd yf_made yf_entry yf_waiting yf_values yf_bound yf_cells yf_conses yf_lams yf_steps yf_atWork yf_end yf_writtenCount ya_kind ya_up ya_turn ya_depth ya_value ya_below ya_length ya_parameters ya_codes ya_codeCount ya_form ya_colour ya_same ya_one ya_two ya_todo ya_numbered ya_text ya_ofFunction ya_codeEnd ya_instance ya_token ya_env ya_tag ya_cellEnv ya_boundNext ya_step ya_boundNumber ya_boundTag ya_headTag ya_tailTag ya_number ya_boundValue ya_head ya_tail ya_written := by
  refine br_t rfl (y_begin (fun fo sa hg => ?_))
  refine y_infer (yf_points := yf_points) (row := 5) (S0 := fun _ => True) (cod := cod) (N := 74) (by omega) hf hl hbd hb hfn (fun N fo sa on tw co td nu K L R rt ds c h74 hN hg hm hv hp => ?_) (fun t N fo sa on tw co td nu ht h1 h2 => ?_) (Nat.le_refl _) (by omega) hg ⟨fun _ _ _ => trivial, fun r hr _ => ⟨r, hr, ys_init r, fun _ _ => rfl⟩⟩
  · have hw := yw_of hg hm hv
    refine br_t (by decide) (br_t rfl (y_isLarge (row := 5) (n := n) (P := P) (c := c) h74 (by omega) (by omega) hn hP2 hl hpa hw (fun n _ => hm.1 n) (fun te nm td nu tx h => br_f n1_0 (y_bad166 (by decide) (hL N _ c h74 hm hp h _ te nm fo sa on tw co td nu tx))) (fun te nm td nu tx h => br_t rfl (br_t rfl ?_))))
    refine y_copy (F := 5) (by omega) (by omega) (by omega) (fun ki va up tu de be hk => ?_)
    rw [hl, hpa, nr_b0 (by omega), nr_b0 (by omega)]
    refine y_name (P := P) (c := c) hf h74 (by omega) hP2 pk_us hw (fun p hp => h (72 + p) (by omega) (Or.inr (Or.inr ⟨by omega, by omega⟩))) (h 0 (by omega) (Or.inl ⟨by omega, ?_⟩)) (fun te nm td nu tx cs k1 k2 => nm_r (e' := upd (upd ya_length f (nI n)) 5 0) (congrArg _ (nr_b0 (n := 0) (by omega))) (hO N _ c h74 hm hp h _ te nm fo sa on tw co td nu tx ki va up tu de be cs hk k1 k2))
    exact hbd.2.1.1
  · exact br_f (lt0_n (by omega)) (br_f (by decide) (y_bad166 (by decide) (hT t _ fo sa on tw co td nu ht h1 h2)))
theorem y_def27 {post : Int32 → SY → Prop} {f P n : Nat} {kN : Nat → Nat} {vl : Nat → Int32} {oc sp bd bi : Nat → Nat} {G : Prop} (hf : f < 5) (hP2 : P ≤ 2) (hn : n ≤ 24) (hl : ya_length 5 = nI n) (hx : yt_ok n ya_kind ya_value kN vl) (ho : yo_ok f P n kN vl oc ya_length ya_parameters)
    (hG : G → bw_is n oc sp ∧ tr_ok n kN oc sp bd bi ∧ (∀ s, s < n → bd s ≤ 100) ∧ bd 0 = P) (hGi : (∀ s, s < n → aw oc s ≠ 0) → aw oc n = 0 → G)
    (hS : ∀ t up tu de be td, (t < n ∧ aw oc t = 0 ∧ (∀ s, s < t → aw oc s ≠ 0)) ∨ (t = n ∧ (∀ s, s < n → aw oc s ≠ 0) ∧ aw oc n ≠ 0) → yr_ok ya_up ya_turn ya_depth ya_below up tu de be → post 1 ((nI t), yf_points, yf_names, yf_textEnd, yf_made, yf_entry, yf_waiting, yf_values, yf_bound, yf_cells, yf_conses, yf_lams, yf_steps, yf_atWork, yf_end, yf_writtenCount, ya_kind, up, tu, de, ya_value, be, (upd ya_length 5 0), (upd ya_parameters 5 (nI P)), ya_codes, ya_codeCount, ya_form, ya_colour, ya_same, ya_one, ya_two, td, ya_numbered, ya_text, ya_ofFunction, ya_codeEnd, ya_instance, ya_token, ya_env, ya_tag, ya_cellEnv, ya_boundNext, ya_step, ya_boundNumber, ya_boundTag, ya_headTag, ya_tailTag, ya_number, ya_boundValue, ya_head, ya_tail, ya_written))
    (hU : ∀ t up tu de be td, (∀ s, s < n → aw oc s ≠ 0) → aw oc n = 0 → yr_ok ya_up ya_turn ya_depth ya_below up tu de be → t < n → ub bd kN vl (fun g => g ≠ f ∧ ya_length g = 0) t → (∀ s, s < t → ¬ ub bd kN vl (fun g => g ≠ f ∧ ya_length g = 0) s) →
      post 2 ((nI t), yf_points, yf_names, yf_textEnd, yf_made, yf_entry, yf_waiting, yf_values, yf_bound, yf_cells, yf_conses, yf_lams, yf_steps, yf_atWork, yf_end, yf_writtenCount, ya_kind, up, tu, de, ya_value, be, (upd ya_length 5 0), (upd ya_parameters 5 (nI P)), ya_codes, ya_codeCount, ya_form, ya_colour, ya_same, ya_one, ya_two, td, ya_numbered, ya_text, ya_ofFunction, ya_codeEnd, ya_instance, ya_token, ya_env, ya_tag, ya_cellEnv, ya_boundNext, ya_step, ya_boundNumber, ya_boundTag, ya_headTag, ya_tailTag, ya_number, ya_boundValue, ya_head, ya_tail, ya_written))
    (hK : ∀ up tu de be td, (∀ s, s < n → aw oc s ≠ 0) → aw oc n = 0 → yr_ok ya_up ya_turn ya_depth ya_below up tu de be → yd_ok G oc sp bd up tu de be n → (∀ s, s < n → ¬ ub bd kN vl (fun g => g ≠ f ∧ ya_length g = 0) s) →
      wY_define_118 post (nI f) (-1) 0 yf_place yf_points yf_names yf_textEnd yf_made yf_entry yf_waiting yf_values yf_bound yf_cells yf_conses yf_lams yf_steps yf_atWork yf_end yf_writtenCount ya_kind up tu de ya_value be ya_length (upd ya_parameters 5 (nI P)) ya_codes ya_codeCount ya_form ya_colour ya_same ya_one ya_two td ya_numbered ya_text ya_ofFunction ya_codeEnd ya_instance ya_token ya_env ya_tag ya_cellEnv ya_boundNext ya_step ya_boundNumber ya_boundTag ya_headTag ya_tailTag ya_number ya_boundValue ya_head ya_tail ya_written) (fu : Nat) :
    wY_define_27 post (nI f) (nI P) yf_place yf_points yf_names yf_textEnd yf_made yf_entry yf_waiting yf_values yf_bound yf_cells yf_conses yf_lams yf_steps yf_atWork yf_end yf_writtenCount (fu + 1) (nI 5) ya_kind ya_up ya_turn ya_depth ya_value ya_below ya_length ya_parameters ya_codes ya_codeCount ya_form ya_colour ya_same ya_one ya_two ya_todo ya_numbered ya_text ya_ofFunction ya_codeEnd ya_instance ya_token ya_env ya_tag ya_cellEnv ya_boundNext ya_step ya_boundNumber ya_boundTag ya_headTag ya_tailTag ya_number ya_boundValue ya_head ya_tail ya_written := by
  have ho' : yo_ok f P n kN vl oc ya_length (upd ya_parameters 5 (nI P)) := by
    intro t ht
    obtain ⟨a, b, c⟩ := ho t ht
    refine ⟨a, b, fun z g hv hg => ⟨(c z g hv hg).1, fun w => ?_⟩⟩
    rw [pk_un (by omega)]
    exact (c z g hv hg).2 w
  refine br_t (nI_le (a := 5) (by omega) (by omega)) (nm_r (e' := upd ya_parameters 5 (nI P)) (by rw [nr_b (by omega)]) ?_)
  refine y_shape (n := n) (kN := kN) (vl := vl) (oc := oc) (sp := sp) (bd := bd) (bi := bi) (G := G) hf hP2 hl hx ho' hG hGi (fun t up tu de be td h1 h2 h3 h4 => ?_) (fun up tu de be td h1 h2 h3 h4 h5 => ?_) (fun up tu de be td h1 h2 h3 => ?_)
  · exact br_f (lt0_n (by omega)) (br_f (by decide) (y_bad118 (by decide) (hS t up tu de be td (Or.inl ⟨h1, h2, h3⟩) h4)))
  · refine br_t (by decide) (br_t rfl ?_)
    obtain ⟨g1, g2, g3, g4⟩ := hG h3
    refine y_unbound (n := n) (kN := kN) (vl := vl) (bd := bd) hf hl hx (fun s hs => ⟨(h5 s hs).1 h3, g3 s hs⟩) (fun t k1 k2 k3 => br_f (lt0_n (by omega)) (y_bad118 (by decide) (hU t up tu de be td h1 h2 h4 k1 k2 k3))) (fun k => br_t (by decide) (hK up tu de be td h1 h2 h4 h5 k))
  · exact br_f (lt0_n (by omega)) (br_f (by decide) (y_bad118 (by decide) (hS n up tu de be td (Or.inr ⟨rfl, h1, h2⟩) h3)))
theorem y_define {post : Int32 → SY → Prop} {f P : Nat} {kN vN : Nat → Nat → Nat} {ln : Nat → Nat} (hf : f < 5) (hP2 : P ≤ 2) (hx : yl_ok ya_kind ya_value kN vN ln) (hl : ∀ h, h < 5 → ya_length h = nI (ln h))
    (hP : ∀ (fu : Nat) (le : Nat → Int32), (∀ h, h < 5 → le h = nI (dpn kN vN (updN ln f 0) 5 h)) → (∀ j, 5 ≤ j → le j = ya_length j) → wY_define_27 post (nI f) (nI P) yf_place yf_points yf_names yf_textEnd yf_made yf_entry yf_waiting yf_values yf_bound yf_cells yf_conses yf_lams yf_steps yf_atWork yf_end yf_writtenCount (fu + 1) (nI 5) ya_kind ya_up ya_turn ya_depth ya_value ya_below le ya_parameters ya_codes ya_codeCount ya_form ya_colour ya_same ya_one ya_two ya_todo ya_numbered ya_text ya_ofFunction ya_codeEnd ya_instance ya_token ya_env ya_tag ya_cellEnv ya_boundNext ya_step ya_boundNumber ya_boundTag ya_headTag ya_tailTag ya_number ya_boundValue ya_head ya_tail ya_written) : wpY_define post (yf_place, yf_points, yf_names, yf_textEnd, yf_made, yf_entry, yf_waiting, yf_values, yf_bound, yf_cells, yf_conses, yf_lams, yf_steps, yf_atWork, yf_end, yf_writtenCount, ya_kind, ya_up, ya_turn, ya_depth, ya_value, ya_below, ya_length, ya_parameters, ya_codes, ya_codeCount, ya_form, ya_colour, ya_same, ya_one, ya_two, ya_todo, ya_numbered, ya_text, ya_ofFunction, ya_codeEnd, ya_instance, ya_token, ya_env, ya_tag, ya_cellEnv, ya_boundNext, ya_step, ya_boundNumber, ya_boundTag, ya_headTag, ya_tailTag, ya_number, ya_boundValue, ya_head, ya_tail, ya_written) (nI f) (nI P) := by
  unfold wpY_define
  refine y_out (fun z => ?_) (fun _ _ => br_t rfl (y_out (fun z => ?_) (fun _ _ => br_t rfl (And.intro (pk_in f 11 (by omega)) (nm_r (e' := upd ya_length f 0) (by rw [nI_clamp (by omega)]; exact congrArg _ (nr_b0 (n := 0) (by omega))) (Exists.intro 6 ?_))))))
  · rcases z with z | z
    · exact absurd z (lt0_n (by omega))
    · exact absurd (nI_lt (b := 5) (by omega) (by omega)) z
  · rcases z with z | z
    · exact absurd z (lt0_n (by omega))
    · exact absurd (nI_lt (b := 3) (by omega) (by omega)) z
  · refine y_df27 (ya_length := upd ya_length f 0) (kN := kN) (vN := vN) (n0 := ln) (ln := updN ln f 0) hx (fun g hg => ?_) (fun fu le k1 k2 => hP fu le k1 (fun j hj => ?_)) 5 0 6 _ (by omega) (by omega) (fun h hh => ?_) (fun _ _ => rfl)
    · by_cases z : g = f
      · rw [z, uN_s]; omega
      · rw [uN_n z]; omega
    · rw [k2 j hj, pk_un (by omega)]
    · show upd ya_length f 0 h = nI (updN ln f 0 h)
      by_cases z : h = f
      · rw [z, pk_us, uN_s]; rfl
      · rw [pk_un z, uN_n z]; exact hl h hh
end
section
variable {f_saidPlace f_instanceCount f_nodeCount f_equationCount f_stackCount f_wordCount f_depth f_cellCount f_consCount f_closureCount f_stepCount f_runAnswer f_writtenCount : Int32} {a_kinds a_values a_spans a_bounds a_binders a_lengths a_parameterCounts a_typeCodes a_typeLengths a_instanceFunctions a_nodeKinds a_nodeLefts a_nodeRights a_nodeSizes a_equationLefts a_equationRights a_stackLefts a_stackRights a_words a_boundWords a_cellFirsts a_cellSeconds a_closureTokens a_closureWords a_written : Nat → Int32}
theorem x_bad112 {post : Int32 → SX → Prop} {f : Nat} {x3 : Int32} (hf : f < 5) (h : ¬ x3 = 0) (hP : post x3 (f_saidPlace, f_instanceCount, f_nodeCount, f_equationCount, f_stackCount, f_wordCount, f_depth, f_cellCount, f_consCount, f_closureCount, f_stepCount, f_runAnswer, f_writtenCount, a_kinds, a_values, a_spans, a_bounds, a_binders, (upd a_lengths f 0), a_parameterCounts, a_typeCodes, a_typeLengths, a_instanceFunctions, a_nodeKinds, a_nodeLefts, a_nodeRights, a_nodeSizes, a_equationLefts, a_equationRights, a_stackLefts, a_stackRights, a_words, a_boundWords, a_cellFirsts, a_cellSeconds, a_closureTokens, a_closureWords, a_written)) : wX_define_112 post (nI f) x3 f_saidPlace f_instanceCount f_nodeCount f_equationCount f_stackCount f_wordCount f_depth f_cellCount f_consCount f_closureCount f_stepCount f_runAnswer f_writtenCount a_kinds a_values a_spans a_bounds a_binders a_lengths a_parameterCounts a_typeCodes a_typeLengths a_instanceFunctions a_nodeKinds a_nodeLefts a_nodeRights a_nodeSizes a_equationLefts a_equationRights a_stackLefts a_stackRights a_words a_boundWords a_cellFirsts a_cellSeconds a_closureTokens a_closureWords a_written :=
  br_f h (And.intro (pk_in f 11 (by omega)) (nm_r (e' := upd a_lengths f 0) (by rw [nI_clamp (by omega)]) hP))
theorem x_bad71 {post : Int32 → SX → Prop} {f t : Nat} {x3 : Int32} (hf : f < 5) (ht : t < 2 ^ 31) (h : ¬ x3 = 0) (hP : post x3 ((nI t), f_instanceCount, f_nodeCount, f_equationCount, f_stackCount, f_wordCount, f_depth, f_cellCount, f_consCount, f_closureCount, f_stepCount, f_runAnswer, f_writtenCount, a_kinds, a_values, a_spans, a_bounds, a_binders, (upd a_lengths f 0), a_parameterCounts, a_typeCodes, a_typeLengths, a_instanceFunctions, a_nodeKinds, a_nodeLefts, a_nodeRights, a_nodeSizes, a_equationLefts, a_equationRights, a_stackLefts, a_stackRights, a_words, a_boundWords, a_cellFirsts, a_cellSeconds, a_closureTokens, a_closureWords, a_written)) : wX_define_71 post (nI f) x3 (nI t) f_instanceCount f_nodeCount f_equationCount f_stackCount f_wordCount f_depth f_cellCount f_consCount f_closureCount f_stepCount f_runAnswer f_writtenCount a_kinds a_values a_spans a_bounds a_binders a_lengths a_parameterCounts a_typeCodes a_typeLengths a_instanceFunctions a_nodeKinds a_nodeLefts a_nodeRights a_nodeSizes a_equationLefts a_equationRights a_stackLefts a_stackRights a_words a_boundWords a_cellFirsts a_cellSeconds a_closureTokens a_closureWords a_written :=
  br_f (ni_ne1 ht) (br_f (ni_ne1 ht) (x_bad112 hf h hP))
/-- the draft as the body of f; the others' lengths -/
def xd_ok (f n : Nat) (ln1 : Nat → Nat) (dk : Nat → Nat) (dv : Nat → Int32) (ki0 va0 le0 ki va le : Nat → Int32) : Prop :=
  (∀ h, h < 5 → le h = nI (ln1 h)) ∧ (∀ j, 5 ≤ j → le j = le0 j) ∧ (∀ t, t < n → ki (f * 24 + t) = nI (dk t) ∧ va (f * 24 + t) = dv t) ∧ (∀ j, j < f * 24 ∨ f * 24 + 24 ≤ j → ki j = ki0 j ∧ va j = va0 j)
/-- what is known of a body that is shaped and bound -/
theorem bd_make {n P f : Nat} {kN : Nat → Nat} {vl : Nat → Int32} {oc sp bd bi : Nat → Nat} {mis : Nat → Prop} (hn : n ≤ 24) (hP2 : P ≤ 2) (hk : ∀ t, t < n → kN t ≤ 16 ∧ (kN t = 3 → ∃ v, v < 10 ∧ vl t = nI v)) (ho : ∀ t, t < n → oc t ≤ 3 ∧ (kN t ≠ 4 → oc t = ar (kN t)))
    (hA : ∀ s, s < n → aw oc s ≠ 0) (hAn : aw oc n = 0) (hbw : bw_is n oc sp) (htr : tr_ok n kN oc sp bd bi) (h0 : bd 0 = P) (hu : ∀ s, s < n → ¬ ub bd kN vl mis s) :
    bd_ok n kN vl oc sp bd bi ∧ (∀ t, t < n → bd t ≤ 10) ∧ (∀ t, t < n → 0 < op (kN t) → bd t + op (kN t) ≤ 10) := by
  have hop : ∀ t, t < n → 0 < op (kN t) → bd t + op (kN t) ≤ 10 := by
    intro t ht h1
    have := hu t ht
    apply Classical.byContradiction
    intro z
    exact this (Or.inr (Or.inl ⟨h1, by omega⟩))
  have h10 : ∀ t, t < n → bd t ≤ 10 := fun t ht => bd_10 hbw htr h0 hP2 (fun s hs => ⟨(hk s hs).1, (ho s hs).2⟩) hop t t (Nat.le_refl _) ht
  have hbi : ∀ t, t < n → bi t ≤ t := fun t ht => bi_t hbw htr t t (Nat.le_refl _) ht
  refine ⟨⟨hn, hbw, ?_, htr, fun t ht => ⟨(hk t ht).1, (ho t ht).1, by have := h10 t ht; omega, hbi t ht, (ho t ht).2, fun z => ?_⟩⟩, h10, hop⟩
  · have := bw_sum (n := n) (oc := oc) (A := aw oc) rfl (fun t ht => aw_s (hA t ht)) n (Nat.le_refl _)
    omega
  · obtain ⟨v, v1, v2⟩ := (hk t ht).2 z
    have hv : v < bd t := by
      apply Classical.byContradiction
      intro y
      exact hu t ht (Or.inl ⟨z, v, v1, v2, by omega⟩)
    exact ⟨v, v1, v2, hv, yl_74 hP2 (wv_in hn hbw htr hbi h0 t t (Nat.le_refl _) ht v hv)⟩
theorem aw_pos {oc : Nat → Nat} {n : Nat} (h : aw oc n = 0) : 0 < n := by
  cases n with
  | zero => simp [aw] at h
  | succ n => omega
theorem x_define {post : Int32 → SX → Prop} {f P n : Nat} {kN vN : Nat → Nat → Nat} {ln ln1 : Nat → Nat} {dk : Nat → Nat} {dv : Nat → Int32} {oc : Nat → Nat} {cod : Nat → List Nat} (hf : f < 5) (hP2 : P ≤ 2) (hn : n ≤ 24) (hx : xl_ok a_kinds a_values kN vN ln) (hl : ∀ h, h < 5 → a_lengths h = nI (ln h)) (hln1 : ln1 = dpn kN vN (updN ln f 0) 5)
    (hd : a_lengths 10 = nI n) (hxt : xt_ok 10 n a_kinds a_values dk dv) (ho : ∀ le, (∀ h, h < 5 → le h = nI (ln1 h)) → xo_ok n dk dv oc (upd (upd le f (nI n)) 10 0) (upd a_parameterCounts f (nI P))) (ho2 : ∀ t, t < n → dk t = 4 → oc t ≤ 2)
    (hfn : (∀ le t, (∀ h, h < 5 → le h = nI (ln1 h)) → t < n → dk t = 4 → ∃ g, g < 5 ∧ dv t = nI g ∧ upd (upd le f (nI n)) 10 0 g ≠ 0) → fn_ok f n a_typeCodes a_typeLengths dk dv oc cod)
    (hS : ∀ t le ki va, xd_ok f n ln1 dk dv a_kinds a_values a_lengths ki va le → (t < n ∧ aw oc t = 0 ∧ (∀ s, s < t → aw oc s ≠ 0)) ∨ (t = n ∧ (∀ s, s < n → aw oc s ≠ 0) ∧ aw oc n ≠ 0) →
      post 1 ((nI t), f_instanceCount, f_nodeCount, f_equationCount, f_stackCount, f_wordCount, f_depth, f_cellCount, f_consCount, f_closureCount, f_stepCount, f_runAnswer, f_writtenCount, ki, va, a_spans, a_bounds, a_binders, (upd (upd (upd le f (nI n)) 10 0) f 0), (upd a_parameterCounts f (nI P)), a_typeCodes, a_typeLengths, a_instanceFunctions, a_nodeKinds, a_nodeLefts, a_nodeRights, a_nodeSizes, a_equationLefts, a_equationRights, a_stackLefts, a_stackRights, a_words, a_boundWords, a_cellFirsts, a_cellSeconds, a_closureTokens, a_closureWords, a_written))
    (hU : ∀ t le ki va spA bo bin sp bd bi, xd_ok f n ln1 dk dv a_kinds a_values a_lengths ki va le → (∀ j, j < f * 24 ∨ f * 24 + 24 ≤ j → spA j = a_spans j ∧ bo j = a_bounds j ∧ bin j = a_binders j) → (∀ s, s < n → aw oc s ≠ 0) → aw oc n = 0 → bw_is n oc sp → tr_ok n dk oc sp bd bi → bd 0 = P → (∀ s, s < n → bd s ≤ 100) →
      t < n → ub bd dk dv (fun g => upd (upd le f (nI n)) 10 0 g = 0) t → (∀ s, s < t → ¬ ub bd dk dv (fun g => upd (upd le f (nI n)) 10 0 g = 0) s) →
      post 2 ((nI t), f_instanceCount, f_nodeCount, f_equationCount, f_stackCount, f_wordCount, f_depth, f_cellCount, f_consCount, f_closureCount, f_stepCount, f_runAnswer, f_writtenCount, ki, va, spA, bo, bin, (upd (upd (upd le f (nI n)) 10 0) f 0), (upd a_parameterCounts f (nI P)), a_typeCodes, a_typeLengths, a_instanceFunctions, a_nodeKinds, a_nodeLefts, a_nodeRights, a_nodeSizes, a_equationLefts, a_equationRights, a_stackLefts, a_stackRights, a_words, a_boundWords, a_cellFirsts, a_cellSeconds, a_closureTokens, a_closureWords, a_written))
    (hR : ∀ le ki va spA bo bin sp bd bi, xd_ok f n ln1 dk dv a_kinds a_values a_lengths ki va le → (∀ j, j < f * 24 ∨ f * 24 + 24 ≤ j → spA j = a_spans j ∧ bo j = a_bounds j ∧ bin j = a_binders j) → (∀ t, t < n → spA (f * 24 + t) = nI (sp t) ∧ bo (f * 24 + t) = nI (bd t) ∧ bin (f * 24 + t) = (if bi t = 0 then -1 else nI (bi t - 1))) →
      (∀ s, s < n → aw oc s ≠ 0) → aw oc n = 0 → tr_ok n dk oc sp bd bi → bd 0 = P → (∀ s, s < n → bd s ≤ 100) → bd_ok n dk dv oc sp bd bi → (∀ t, t < n → bd t ≤ 10) → (∀ t, t < n → 0 < op (dk t) → bd t + op (dk t) ≤ 10) → (∀ s, s < n → ¬ ub bd dk dv (fun g => upd (upd le f (nI n)) 10 0 g = 0) s) →
      (∀ t N K nl nr sz el er, t < n → (t = 0 ∨ ∃ r, (∀ n, mt_wf (r n)) ∧ S_t (fun _ => True) f dk dv oc sp bd bi cod t r) → (∀ r, (∀ n, mt_wf (r n)) → ¬ S_t (fun _ => True) f dk dv oc sp bd bi cod (t + 1) r) →
        post 3 ((nI t), f_instanceCount, N, (nI 0), f_stackCount, f_wordCount, f_depth, f_cellCount, f_consCount, f_closureCount, f_stepCount, f_runAnswer, f_writtenCount, ki, va, spA, bo, bin, (upd (upd (upd le f (nI n)) 10 0) f 0), (upd a_parameterCounts f (nI P)), a_typeCodes, a_typeLengths, a_instanceFunctions, K, nl, nr, sz, el, er, a_stackLefts, a_stackRights, a_words, a_boundWords, a_cellFirsts, a_cellSeconds, a_closureTokens, a_closureWords, a_written)) ∧
      (∀ (N : Nat) (Sol : (Nat → mt_T) → Prop) (c : Nat → mt_T), 74 ≤ N → mg_is N Sol c → pj_is 74 Sol (S_t (fun _ => True) f dk dv oc sp bd bi cod n) → (∃ p, p < 74 ∧ 14 < (mt_enc (c p)).length) → ∀ nc K nl nr sz el er,
        post 4 ((-1), f_instanceCount, nc, (nI 0), f_stackCount, f_wordCount, f_depth, f_cellCount, f_consCount, f_closureCount, f_stepCount, f_runAnswer, f_writtenCount, ki, va, spA, bo, bin, (upd (upd (upd le f (nI n)) 10 0) f 0), (upd a_parameterCounts f (nI P)), a_typeCodes, a_typeLengths, a_instanceFunctions, K, nl, nr, sz, el, er, a_stackLefts, a_stackRights, a_words, a_boundWords, a_cellFirsts, a_cellSeconds, a_closureTokens, a_closureWords, a_written)) ∧
      (∀ (N : Nat) (Sol : (Nat → mt_T) → Prop) (c : Nat → mt_T), 74 ≤ N → mg_is N Sol c → pj_is 74 Sol (S_t (fun _ => True) f dk dv oc sp bd bi cod n) → (∀ p, p < 74 → (mt_enc (c p)).length ≤ 14) → ∀ nc K nl nr sz el er sl sr tc,
        (∀ j, j < f * 42 ∨ f * 42 + 42 ≤ j → tc j = a_typeCodes j) → (∀ i, i < (mt_encs ((ow_st P).map c)).length → tc (f * 42 + i) = nI ((cn_go [] (mt_encs ((ow_st P).map c))).getD i 0)) →
        post 0 ((-1), f_instanceCount, nc, (nI 0), (nI 0), f_wordCount, f_depth, f_cellCount, f_consCount, f_closureCount, f_stepCount, f_runAnswer, f_writtenCount, ki, va, spA, bo, bin, (upd (upd le f (nI n)) 10 0), (upd a_parameterCounts f (nI P)), tc, (upd a_typeLengths f (nI (mt_encs ((ow_st P).map c)).length)), a_instanceFunctions, K, nl, nr, sz, el, er, sl, sr, a_words, a_boundWords, a_cellFirsts, a_cellSeconds, a_closureTokens, a_closureWords, a_written))) :
    wpX_define post (f_saidPlace, f_instanceCount, f_nodeCount, f_equationCount, f_stackCount, f_wordCount, f_depth, f_cellCount, f_consCount, f_closureCount, f_stepCount, f_runAnswer, f_writtenCount, a_kinds, a_values, a_spans, a_bounds, a_binders, a_lengths, a_parameterCounts, a_typeCodes, a_typeLengths, a_instanceFunctions, a_nodeKinds, a_nodeLefts, a_nodeRights, a_nodeSizes, a_equationLefts, a_equationRights, a_stackLefts, a_stackRights, a_words, a_boundWords, a_cellFirsts, a_cellSeconds, a_closureTokens, a_closureWords, a_written) (nI f) (nI P) := by
  refine br_f (lt0_n (by omega)) (br_f (nI_ge (b := 5) (by omega) (by omega)) (br_f (lt0_n (by omega)) (br_t (nI_le (b := 2) (by omega) (by omega)) ?_)))
  refine x_dropBody hf hx hl (fun le k1 k2 => ?_)
  rw [← hln1] at k1
  refine x_takeDraft (n := n) hf hn (by rw [k2 10 (by omega)]; exact hd) (fun ki va k3 k4 => ?_)
  have hxd : xd_ok f n ln1 dk dv a_kinds a_values a_lengths ki va le := ⟨k1, k2, fun t ht => ⟨(k3 t ht).1.trans (hxt.2 t ht).1, (k3 t ht).2.trans (hxt.2 t ht).2.2.1⟩, k4⟩
  have hxo := ho le k1
  have hxt' : xt_ok f n ki va dk dv := ⟨hn, fun t ht => ⟨(hxd.2.2.1 t ht).1, (hxt.2 t ht).2.1, (hxd.2.2.1 t ht).2, (hxt.2 t ht).2.2.2⟩⟩
  have hl' : upd (upd le f (nI n)) 10 0 f = nI n := by rw [pk_un (by omega), pk_us]
  refine x_firstMisshapen (n := n) (kN := dk) (vl := dv) (oc := oc) hf hl' hxt' hxo (fun t h1 h2 h3 => ?_) (fun h1 h2 => ?_) (fun h1 h2 => ?_)
  · exact br_f (ni_ne1 (by omega)) (x_bad71 hf (by omega) (by decide) (hS t le ki va hxd (Or.inl ⟨h1, h2, h3⟩)))
  · have hn0 := aw_pos h2
    refine br_t rfl (x_measureSpans (n := n) (kN := dk) (vl := dv) (oc := oc) hf hl' hxt' hxo hn0 h1 h2 (fun spA sp s1 s2 hbw => ?_))
    obtain ⟨bd, bi, t0, t1, t2⟩ := tr_ex (kN := dk) hbw P n (Nat.le_refl _)
    have htr : tr_ok n dk oc sp bd bi := ⟨t1, fun t ht j hj => t2 t ht j hj (bw_in hbw ht hj).2.2⟩
    have hb100 : ∀ s, s < n → bd s ≤ 100 := fun s hs => by have := bd_2 hbw htr t0 s s (Nat.le_refl _) hs; omega
    refine x_markScopes (n := n) (P := P) (kN := dk) (oc := oc) (sp := sp) (bd := bd) (bi := bi) (vl := dv) hf hl' pk_us hxt' hxo hbw htr hb100 t0 s1 (fun bo bin b1 b2 => ?_)
    have hout : ∀ j, j < f * 24 ∨ f * 24 + 24 ≤ j → spA j = a_spans j ∧ bo j = a_bounds j ∧ bin j = a_binders j := fun j hj => ⟨s2 j hj, b1 j hj⟩
    refine x_firstUnbound (n := n) (kN := dk) (bd := bd) (vl := dv) hf hl' hxt' (fun s hs => ⟨(b2 s hs).1, hb100 s hs⟩) (fun t u1 u2 u3 => ?_) (fun u => ?_)
    · exact x_bad71 hf (by omega) (by decide) (hU t le ki va spA bo bin sp bd bi hxd hout h1 h2 hbw htr t0 hb100 u1 u2 u3)
    · obtain ⟨hbd, h10, hop⟩ := bd_make (P := P) (f := f) hn hP2 (fun t ht => ⟨(hxt.2 t ht).2.1, (hxt.2 t ht).2.2.2.1⟩) (fun t ht => ⟨(hxo t ht).1, (hxo t ht).2.1⟩) h1 h2 hbw htr t0 u
      have h4 : ∀ t, t < n → dk t = 4 → ∃ g, g < 5 ∧ dv t = nI g ∧ upd (upd le f (nI n)) 10 0 g ≠ 0 := by
        intro t ht z
        obtain ⟨g, g1, g2⟩ := (hxt.2 t ht).2.2.2.2 z
        exact ⟨g, g1, g2, fun w => u t ht (Or.inr (Or.inr ⟨z, g, g1, g2, w⟩))⟩
      have hxb : xb_ok f n ki va spA bo bin (upd (upd le f (nI n)) 10 0) (upd a_parameterCounts f (nI P)) dk dv oc sp bd bi := by
        obtain ⟨c1, c2, c3, c4, c5⟩ := hbd
        refine ⟨c1, c2, c3, fun t ht => ?_⟩
        obtain ⟨d1, d2, d3, d4, d5, d6⟩ := c5 t ht
        refine ⟨(hxd.2.2.1 t ht).1, d1, (hxd.2.2.1 t ht).2, s1 t ht, (b2 t ht).1, d3, (b2 t ht).2, d4, d6, fun z => ?_, d5⟩
        obtain ⟨g, g1, g2, g3⟩ := h4 t ht z
        rcases (hxo t ht).2.2 z g g2 g1 with ⟨w, _⟩ | ⟨_, w⟩
        · exact absurd w g3
        · exact ⟨g, g1, g2, g3, w, ho2 t ht z⟩
      have hfn' := hfn (fun le' t q1 ht z => by
        obtain ⟨g, g1, g2, g3⟩ := h4 t ht z
        refine ⟨g, g1, g2, ?_⟩
        by_cases w : g = f
        · subst w; rw [pk_un (by omega), pk_us] at g3 ⊢; exact g3
        · rw [pk_un (by omega), pk_un w] at g3 ⊢; rw [q1 g g1, ← k1 g g1]; exact g3)
      obtain ⟨r1, r2, r3⟩ := hR le ki va spA bo bin sp bd bi hxd hout (fun t ht => ⟨s1 t ht, (b2 t ht).1, (b2 t ht).2⟩) h1 h2 htr t0 hb100 hbd h10 hop u
      refine br_t rfl (x_ill (n := n) (cod := cod) hf hn0 hl' hxb hfn' (fun N K nl nr sz el er L R rt ds c n1 n2 hg hm hv hz hp h75 => ?_) (fun t N K nl nr sz el er ht e1 e2 => ?_))
      · obtain ⟨c74, c75⟩ := h75 c hm.1 (mg_self hm)
        refine br_t rfl (x_large (N := N) (c := c) n1 hz (fun h => ?_) (fun h => ?_))
        · refine br_f n1_0 (x_bad112 hf (by decide) (r2 N _ c (by omega) hm hp ?_ _ K nl nr sz el er))
          obtain ⟨p, p1, p2⟩ := h
          by_cases w : p < 74
          · exact ⟨p, w, p2⟩
          · exfalso
            have : p = 74 ∨ p = 75 := by omega
            rcases this with rfl | rfl
            · rw [c74] at p2; simp [mt_enc] at p2
            · rw [c75] at p2; simp [mt_enc] at p2
        · have hle : (mt_encs ((ow_st P).map c)).length ≤ 42 := by
            have := pr_le (c := c) (P := P) (fun p hp => h (72 + p) (by omega)) P (Nat.le_refl _)
            have := h 0 (by omega)
            rw [ow_enc, List.length_append]; omega
          refine br_t rfl (br_t rfl (x_writeOwnType (P := P) (c := c) hf n1 (by omega) hP2 pk_us hg hm hv hle (fun nl' sl sr tc q1 q2 => ?_)))
          exact r3 N _ c (by omega) hm hp (fun p hp => h p (by omega)) _ K nl' nr sz el er sl sr tc q1 q2
      · exact br_f (ni_ne1 (by omega)) (x_bad112 hf (by decide) (r1 t _ K nl nr sz el er ht e1 e2))
  · exact br_f (ni_ne1 (by omega)) (x_bad71 hf (by omega) (by decide) (hS n le ki va hxd (Or.inr ⟨rfl, h1, h2⟩)))
end
section
variable {f_saidPlace f_instanceCount f_nodeCount f_equationCount f_stackCount f_wordCount f_depth f_cellCount f_consCount f_closureCount f_stepCount f_runAnswer f_writtenCount : Int32} {a_kinds a_values a_spans a_bounds a_binders a_lengths a_parameterCounts a_typeCodes a_typeLengths a_instanceFunctions a_nodeKinds a_nodeLefts a_nodeRights a_nodeSizes a_equationLefts a_equationRights a_stackLefts a_stackRights a_words a_boundWords a_cellFirsts a_cellSeconds a_closureTokens a_closureWords a_written : Nat → Int32}
variable {yf_place yf_points yf_names yf_textEnd yf_made yf_entry yf_waiting yf_values yf_bound yf_cells yf_conses yf_lams yf_steps yf_atWork yf_end yf_writtenCount : Int32} {ya_kind ya_up ya_turn ya_depth ya_value ya_below ya_length ya_parameters ya_codes ya_codeCount ya_form ya_colour ya_same ya_one ya_two ya_todo ya_numbered ya_text ya_ofFunction ya_codeEnd ya_instance ya_token ya_env ya_tag ya_cellEnv ya_boundNext ya_step ya_boundNumber ya_boundTag ya_headTag ya_tailTag ya_number ya_boundValue ya_head ya_tail ya_written : Nat → Int32}
/-- the function that a CALL names -/
def vnf (vl : Nat → Nat → Int32) (g t : Nat) : Nat := (vl g t).toNatClampNeg
theorem dp_f {kN vN : Nat → Nat → Nat} {ln : Nat → Nat} {f : Nat} : dpn kN vN (updN ln f 0) 5 f = 0 := by
  rcases dpn_or (kN := kN) (vN := vN) (ln := updN ln f 0) 5 f with z | z
  · rw [z, uN_s]
  · exact z
theorem dp_g {kN vN : Nat → Nat → Nat} {ln : Nat → Nat} {f g : Nat} (h : dpn kN vN (updN ln f 0) 5 g ≠ 0) : g ≠ f ∧ dpn kN vN (updN ln f 0) 5 g = ln g := by
  have hgf : g ≠ f := by intro z; subst z; exact h dp_f
  rcases dpn_or (kN := kN) (vN := vN) (ln := updN ln f 0) 5 g with z | z
  · rw [uN_n hgf] at z; exact ⟨hgf, z⟩
  · exact absurd z h
theorem lib_drop {ln P : Nat → Nat} {kN : Nat → Nat → Nat} {vl : Nat → Nat → Int32} {oc sp bd bi : Nat → Nat → Nat} {cod : Nat → List Nat} {f : Nat} (hf : f < 5) (h : lib ln P kN vl oc sp bd bi cod) : lib (dpn kN (vnf vl) (updN ln f 0) 5) P kN vl oc sp bd bi cod := by
  intro g hg hl
  obtain ⟨hgf, e⟩ := dp_g hl
  rw [e] at hl ⊢
  obtain ⟨l1, l2, l3, l4, l5, l6, l7⟩ := h g hg hl
  refine ⟨l1, l2, l3, l4, l5, fun t ht z => ?_, l7⟩
  obtain ⟨h', h1, h2, h3, h4⟩ := l6 t ht z
  refine ⟨h', h1, h2, fun w => ?_, h4⟩
  refine dpn_st (kN := kN) (vN := vnf vl) (ln := updN ln f 0) hf uN_s g hg ⟨t, by rw [e]; exact ht, z, ?_⟩
  unfold vnf
  rw [h2, nI_clamp (by omega)]; exact w
def rel_d (ki va len yki yva ylen : Nat → Int32) (n : Nat) (dk : Nat → Nat) (dv : Nat → Int32) : Prop := len 10 = nI n ∧ ylen 5 = nI n ∧ xt_ok 10 n ki va dk dv ∧ yt_ok n yki yva dk dv
def mx_ok (ln P : Nat → Nat) (kN : Nat → Nat → Nat) (vl : Nat → Nat → Int32) (sp bd : Nat → Nat → Nat) (ki va spa bou len pc : Nat → Int32) : Prop :=
  ∀ g, g < 5 → ln g ≠ 0 → len (5 + g) = nI (ln g) ∧ pc (5 + g) = nI (P g) ∧ ∀ t, t < ln g → ki ((5 + g) * 24 + t) = nI (kN g t) ∧ (kN g t = 4 → ∀ h, h < 5 → vl g t = nI h → va ((5 + g) * 24 + t) = nI (5 + h)) ∧ (kN g t ≠ 4 → va ((5 + g) * 24 + t) = vl g t) ∧ spa ((5 + g) * 24 + t) = nI (sp g t) ∧ bou ((5 + g) * 24 + t) = nI (bd g t)
def my_ok (ln P : Nat → Nat) (kN : Nat → Nat → Nat) (vl : Nat → Nat → Int32) (oc sp : Nat → Nat → Nat) (ki va be par : Nat → Int32) : Prop :=
  ∀ g, g < 5 → ln g ≠ 0 → par (6 + g) = nI (P g) ∧ ∀ t, t < ln g → ki (24 * (6 + g) + t) = nI (kN g t) ∧ va (24 * (6 + g) + t) = vl g t ∧ ∀ j, j < oc g t → be (72 * (6 + g) + 3 * t + j) = nI (jp (sp g) t j)
/-- what is made -/
def rel_m (fic : Int32) (ki va spa bou len pc tc tl ifn : Nat → Int32) (ymade yentry : Int32) (yki yva ybe ypar yof yce yin : Nat → Int32) : Prop :=
  ∃ (m : Nat) (fi : Nat → Nat) (ic : Nat → List Nat), m ≤ 12 ∧ fic = nI m ∧ ymade = nI m ∧
    (∀ i, i < m → fi i < 5 ∧ ifn i = nI (fi i) ∧ rw_ok (5 + i) tc tl (ic i) ∧ yof i = nI (fi i) ∧ yce i = nI (ic i).length ∧ ∀ k, k < (ic i).length → yin (50 * i + k) = nI ((ic i).getD k 0)) ∧
    ((m = 0 ∧ yentry = -1) ∨ (0 < m ∧ yentry = nI (fi 0) ∧ ∃ (ln P : Nat → Nat) (kN : Nat → Nat → Nat) (vl : Nat → Nat → Int32) (oc sp bd bi : Nat → Nat → Nat) (cod : Nat → List Nat), lib ln P kN vl oc sp bd bi cod ∧ ln (fi 0) ≠ 0 ∧ P (fi 0) = 0 ∧
      mx_ok ln P kN vl sp bd ki va spa bou len pc ∧ my_ok ln P kN vl oc sp yki yva ybe ypar ∧ ∃ T0, mt_wf T0 ∧ ic 0 = mt_enc T0 ∧ sc_inst (cod (fi 0)) [T0] ∧ (mt_enc T0).length ≤ 14))
def rel_r (st wc : Int32) (wr : Nat → Int32) (yst ywc : Int32) (ywr : Nat → Int32) : Prop := st = yst ∧ ∃ w, w ≤ 400 ∧ wc = nI w ∧ ywc = nI w ∧ ∀ k, k < w → wr k = ywr k
def rel_b (ki va spa bou bin len pc tc tl yki yva yup ytu yde ybe ylen ypar yco ycn : Nat → Int32) : Prop :=
  ∃ (ln P : Nat → Nat) (kN : Nat → Nat → Nat) (vl : Nat → Nat → Int32) (oc sp bd bi : Nat → Nat → Nat) (cod : Nat → List Nat), lib ln P kN vl oc sp bd bi cod ∧ lx_ok ln P kN vl sp bd bi cod ki va spa bou bin len pc tc tl ∧ ly_ok ln P kN vl oc sp bd cod yki yva yup ytu yde ybe ylen ypar yco ycn
def rel (f_saidPlace f_instanceCount f_nodeCount f_equationCount f_stackCount f_wordCount f_depth f_cellCount f_consCount f_closureCount f_stepCount f_runAnswer f_writtenCount : Int32) (a_kinds a_values a_spans a_bounds a_binders a_lengths a_parameterCounts a_typeCodes a_typeLengths a_instanceFunctions a_nodeKinds a_nodeLefts a_nodeRights a_nodeSizes a_equationLefts a_equationRights a_stackLefts a_stackRights a_words a_boundWords a_cellFirsts a_cellSeconds a_closureTokens a_closureWords a_written : Nat → Int32) (yf_place yf_points yf_names yf_textEnd yf_made yf_entry yf_waiting yf_values yf_bound yf_cells yf_conses yf_lams yf_steps yf_atWork yf_end yf_writtenCount : Int32) (ya_kind ya_up ya_turn ya_depth ya_value ya_below ya_length ya_parameters ya_codes ya_codeCount ya_form ya_colour ya_same ya_one ya_two ya_todo ya_numbered ya_text ya_ofFunction ya_codeEnd ya_instance ya_token ya_env ya_tag ya_cellEnv ya_boundNext ya_step ya_boundNumber ya_boundTag ya_headTag ya_tailTag ya_number ya_boundValue ya_head ya_tail ya_written : Nat → Int32) : Prop :=
  f_saidPlace = yf_place ∧ rel_b a_kinds a_values a_spans a_bounds a_binders a_lengths a_parameterCounts a_typeCodes a_typeLengths ya_kind ya_value ya_up ya_turn ya_depth ya_below ya_length ya_parameters ya_codes ya_codeCount ∧
  (∃ n dk dv, rel_d a_kinds a_values a_lengths ya_kind ya_value ya_length n dk dv) ∧
  rel_m f_instanceCount a_kinds a_values a_spans a_bounds a_lengths a_parameterCounts a_typeCodes a_typeLengths a_instanceFunctions yf_made yf_entry ya_kind ya_value ya_below ya_parameters ya_ofFunction ya_codeEnd ya_instance ∧
  rel_r f_stepCount f_writtenCount a_written yf_steps yf_writtenCount ya_written
theorem rm_congr {fic : Int32} {ki va spa bou len pc tc tl ifn ki' va' spa' bou' len' pc' tc' tl' : Nat → Int32} {ymade yentry : Int32} {yki yva ybe ypar yof yce yin yki' yva' ybe' ypar' : Nat → Int32} (h : rel_m fic ki va spa bou len pc tc tl ifn ymade yentry yki yva ybe ypar yof yce yin)
    (h1 : ∀ j, 120 ≤ j → j < 240 → ki' j = ki j ∧ va' j = va j ∧ spa' j = spa j ∧ bou' j = bou j) (h2 : ∀ j, 5 ≤ j → j < 10 → len' j = len j ∧ pc' j = pc j) (h3 : ∀ j, 210 ≤ j → tc' j = tc j) (h4 : ∀ j, 5 ≤ j → tl' j = tl j)
    (h5 : ∀ j, 144 ≤ j → yki' j = yki j ∧ yva' j = yva j) (h6 : ∀ j, 432 ≤ j → ybe' j = ybe j) (h7 : ∀ j, 6 ≤ j → ypar' j = ypar j) :
    rel_m fic ki' va' spa' bou' len' pc' tc' tl' ifn ymade yentry yki' yva' ybe' ypar' yof yce yin := by
  obtain ⟨m, fi, ic, m1, m2, m3, m4, m5⟩ := h
  refine ⟨m, fi, ic, m1, m2, m3, fun i hi => ?_, ?_⟩
  · obtain ⟨a1, a2, ⟨b1, b2, b3, b4⟩, a4, a5, a6⟩ := m4 i hi
    refine ⟨a1, a2, ⟨b1, b2, ?_, fun k hk => ?_⟩, a4, a5, a6⟩
    · rw [h4 _ (by omega)]; exact b3
    · rw [h3 _ (by omega)]; exact b4 k hk
  · rcases m5 with m5 | ⟨p1, p2, ln, P, kN, vl, oc, sp, bd, bi, cod, q1, q2, q3, q4, q5, q6⟩
    · exact Or.inl m5
    · refine Or.inr ⟨p1, p2, ln, P, kN, vl, oc, sp, bd, bi, cod, q1, q2, q3, fun g hg hl => ?_, fun g hg hl => ?_, q6⟩
      · obtain ⟨a1, a2, a3⟩ := q4 g hg hl
        have n24 := (q1 g hg hl).1.1
        rw [(h2 (5 + g) (by omega) (by omega)).1, (h2 (5 + g) (by omega) (by omega)).2]
        refine ⟨a1, a2, fun t ht => ?_⟩
        obtain ⟨e1, e2, e3, e4⟩ := h1 ((5 + g) * 24 + t) (by omega) (by omega)
        rw [e1, e2, e3, e4]; exact a3 t ht
      · obtain ⟨a2, a3⟩ := q5 g hg hl
        rw [h7 (6 + g) (by omega)]
        refine ⟨a2, fun t ht => ?_⟩
        obtain ⟨e1, e2⟩ := h5 (24 * (6 + g) + t) (by omega)
        obtain ⟨c1, c2, c3⟩ := a3 t ht
        rw [e1, e2]
        exact ⟨c1, c2, fun j hj => by rw [h6 _ (by omega)]; exact c3 j hj⟩
/-- X's functions, after a slot f that has no body was written over -/
theorem lx_drop {ln ln1 P : Nat → Nat} {kN : Nat → Nat → Nat} {vl : Nat → Nat → Int32} {sp bd bi : Nat → Nat → Nat} {cod : Nat → List Nat} {ki va spa bou bin len pc tc tl ki' va' spa' bou' bin' len' pc' : Nat → Int32} {f : Nat} (hx : lx_ok ln P kN vl sp bd bi cod ki va spa bou bin len pc tc tl)
    (h1 : ∀ g, ln1 g ≠ 0 → g ≠ f ∧ ln1 g = ln g) (h2 : ∀ j, j < f * 24 ∨ f * 24 + 24 ≤ j → ki' j = ki j ∧ va' j = va j ∧ spa' j = spa j ∧ bou' j = bou j ∧ bin' j = bin j) (h3 : ∀ g, g < 5 → len' g = nI (ln1 g)) (h4 : ∀ g, g < 5 → g ≠ f → pc' g = pc g) :
    lx_ok ln1 P kN vl sp bd bi cod ki' va' spa' bou' bin' len' pc' tc tl := by
  intro g hg
  obtain ⟨x1, x2, x3⟩ := hx g hg
  refine ⟨h3 g hg, ?_, fun hl => ?_⟩
  · by_cases z : ln1 g = 0
    · omega
    · rw [(h1 g z).2]; exact x2
  · obtain ⟨hgf, e⟩ := h1 g hl
    rw [e] at hl ⊢
    obtain ⟨y1, y2, y3⟩ := x3 hl
    rw [h4 g hg hgf]
    refine ⟨y1, fun t ht => ?_, y3⟩
    obtain ⟨e1, e2, e3, e4, e5⟩ := h2 (g * 24 + t) (by omega)
    rw [e1, e2, e3, e4, e5]; exact y2 t ht
theorem yb_congr {row n : Nat} {ki va up tu de be ki' va' up' tu' de' be' : Nat → Int32} {kN : Nat → Nat} {vl : Nat → Int32} {oc sp bd : Nat → Nat} (hn : n ≤ 24) (hoc : ∀ t, t < n → oc t ≤ 3) (h : yb_ok row n ki va up tu de be kN vl oc sp bd)
    (h1 : ∀ j, 24 * row ≤ j → j < 24 * row + 24 → ki' j = ki j ∧ va' j = va j ∧ up' j = up j ∧ tu' j = tu j ∧ de' j = de j) (h2 : ∀ j, 72 * row ≤ j → j < 72 * row + 72 → be' j = be j) : yb_ok row n ki' va' up' tu' de' be' kN vl oc sp bd := by
  intro t ht
  obtain ⟨a1, a2, a3, a4, a5, a6⟩ := h t ht
  obtain ⟨e1, e2, e3, e4, e5⟩ := h1 (24 * row + t) (by omega) (by omega)
  rw [e1, e2, e3, e4, e5]
  refine ⟨a1, a2, a3, fun j hj => ?_, a5, a6⟩
  have := hoc t ht
  rw [h2 _ (by omega) (by omega)]; exact a4 j hj
theorem ly_drop {ln ln1 P : Nat → Nat} {kN : Nat → Nat → Nat} {vl : Nat → Nat → Int32} {oc sp bd bi : Nat → Nat → Nat} {cod : Nat → List Nat} {ki va up tu de be len par co cn ki' va' up' tu' de' be' len' par' : Nat → Int32} {f : Nat} (hlib : lib ln P kN vl oc sp bd bi cod) (hy : ly_ok ln P kN vl oc sp bd cod ki va up tu de be len par co cn)
    (h1 : ∀ g, ln1 g ≠ 0 → g ≠ f ∧ ln1 g = ln g) (h2 : ∀ j, j < 120 → (j < 24 * f ∨ 24 * f + 24 ≤ j) → ki' j = ki j ∧ va' j = va j ∧ up' j = up j ∧ tu' j = tu j ∧ de' j = de j) (h2' : ∀ j, j < 360 → (j < 72 * f ∨ 72 * f + 72 ≤ j) → be' j = be j) (h3 : ∀ g, g < 5 → len' g = nI (ln1 g)) (h4 : ∀ g, g < 5 → g ≠ f → par' g = par g) :
    ly_ok ln1 P kN vl oc sp bd cod ki' va' up' tu' de' be' len' par' co cn := by
  intro g hg
  obtain ⟨x1, x3⟩ := hy g hg
  refine ⟨h3 g hg, fun hl => ?_⟩
  obtain ⟨hgf, e⟩ := h1 g hl
  rw [e] at hl ⊢
  obtain ⟨y1, y2, y3⟩ := x3 hl
  have hb := (hlib g hg hl).1
  rw [h4 g hg hgf]
  refine ⟨y1, yb_congr hb.1 (fun t ht => (hb.2.2.2.2 t ht).2.1) y2 (fun j j1 j2 => h2 j (by omega) (by omega)) (fun j j1 j2 => h2' j (by omega) (by omega)), y3⟩
theorem ub_iff {bd kN : Nat → Nat} {vl : Nat → Int32} {mis mis' : Nat → Prop} {t : Nat} (h : ∀ g, g < 5 → mis g → mis' g) (hu : ub bd kN vl mis t) : ub bd kN vl mis' t := by
  rcases hu with a | a | ⟨a, g, b, c, d⟩
  · exact Or.inl a
  · exact Or.inr (Or.inl a)
  · exact Or.inr (Or.inr ⟨a, g, b, c, h g b d⟩)
/-- operands of the draft's tokens, as f's body with P parameters -/
def ocf (f P : Nat) (ln1 Pg dk : Nat → Nat) (dv : Nat → Int32) (t : Nat) : Nat := if dk t = 4 then (if (dv t).toNatClampNeg = f then P else if ln1 (dv t).toNatClampNeg = 0 then 0 else Pg (dv t).toNatClampNeg) else ar (dk t)
theorem ocf_c {f P : Nat} {ln1 Pg dk : Nat → Nat} {dv : Nat → Int32} {t g : Nat} (h4 : dk t = 4) (hg : g < 5) (hv : dv t = nI g) : ocf f P ln1 Pg dk dv t = if g = f then P else if ln1 g = 0 then 0 else Pg g := by
  unfold ocf
  rw [if_pos h4, hv, nI_clamp (by omega)]
theorem ocf_3 {f P : Nat} {ln1 Pg dk : Nat → Nat} {dv : Nat → Int32} {t : Nat} (hP : P ≤ 2) (hPg : ∀ g, g < 5 → ln1 g ≠ 0 → Pg g ≤ 2) (hk : dk t ≤ 16) (hv : dk t = 4 → ∃ g, g < 5 ∧ dv t = nI g) : ocf f P ln1 Pg dk dv t ≤ 3 ∧ (dk t = 4 → ocf f P ln1 Pg dk dv t ≤ 2) ∧ (dk t ≠ 4 → ocf f P ln1 Pg dk dv t = ar (dk t)) := by
  by_cases z : dk t = 4
  · obtain ⟨g, g1, g2⟩ := hv z
    have : ocf f P ln1 Pg dk dv t ≤ 2 := by
      rw [ocf_c z g1 g2]
      split
      · exact hP
      · split
        · omega
        · next a b => exact hPg g g1 b
    exact ⟨by omega, fun _ => this, fun y => absurd z y⟩
  · have e : ocf f P ln1 Pg dk dv t = ar (dk t) := by unfold ocf; rw [if_neg z]
    exact ⟨by rw [e]; exact ar_3 ⟨dk t, by omega⟩, fun y => absurd y z, fun _ => e⟩
end
section
variable {f_saidPlace f_instanceCount f_nodeCount f_equationCount f_stackCount f_wordCount f_depth f_cellCount f_consCount f_closureCount f_stepCount f_runAnswer f_writtenCount : Int32} {a_kinds a_values a_spans a_bounds a_binders a_lengths a_parameterCounts a_typeCodes a_typeLengths a_instanceFunctions a_nodeKinds a_nodeLefts a_nodeRights a_nodeSizes a_equationLefts a_equationRights a_stackLefts a_stackRights a_words a_boundWords a_cellFirsts a_cellSeconds a_closureTokens a_closureWords a_written : Nat → Int32}
variable {yf_place yf_points yf_names yf_textEnd yf_made yf_entry yf_waiting yf_values yf_bound yf_cells yf_conses yf_lams yf_steps yf_atWork yf_end yf_writtenCount : Int32} {ya_kind ya_up ya_turn ya_depth ya_value ya_below ya_length ya_parameters ya_codes ya_codeCount ya_form ya_colour ya_same ya_one ya_two ya_todo ya_numbered ya_text ya_ofFunction ya_codeEnd ya_instance ya_token ya_env ya_tag ya_cellEnv ya_boundNext ya_step ya_boundNumber ya_boundTag ya_headTag ya_tailTag ya_number ya_boundValue ya_head ya_tail ya_written : Nat → Int32}
theorem nI0 {n : Nat} (h : n < 2 ^ 31) : nI n = 0 ↔ n = 0 := nI_eq (b := 0) h (by omega)
theorem yb_draft {n P : Nat} {ki va up tu de be : Nat → Int32} {kN : Nat → Nat} {vl : Nat → Int32} {oc sp bd bi : Nat → Nat} {G : Prop} (hG : G) (hx : yt_ok n ki va kN vl) (hbd : bd_ok n kN vl oc sp bd bi) (hd : yd_ok G oc sp bd up tu de be n) : yb_ok 5 n ki va up tu de be kN vl oc sp bd := by
  intro t ht
  obtain ⟨a1, a2, a3, _⟩ := hx.2 t ht
  obtain ⟨d1, d2, d3⟩ := hd t ht
  refine ⟨a1, a3, d1 hG, fun j hj => ?_, d2, fun z => ?_⟩
  · obtain ⟨b1, b2, b3⟩ := bw_in hbd.2.1 ht hj
    obtain ⟨u, j', u1, u2, u3, _, _, u6⟩ := (hd (jp sp t j) b3).2.2 (by omega) hG
    obtain ⟨e1, e2⟩ := bw_uniq hbd.2.1 (by omega) ht u2 hj u3.symm
    subst e1 e2
    exact u6
  · obtain ⟨u, j', u1, u2, u3, u4, u5, _⟩ := d3 z hG
    exact ⟨u, j', u1, u2, u3, u4, u5⟩
theorem yb_copied {f n : Nat} {ki va up tu de be ki' va' up' tu' de' be' : Nat → Int32} {kN : Nat → Nat} {vl : Nat → Int32} {oc sp bd bi : Nat → Nat} (hbd : bd_ok n kN vl oc sp bd bi) {F : Nat} (hb : yb_ok F n ki va up tu de be kN vl oc sp bd) (hk : yk_ok F f 24 ki va up tu de be ki' va' up' tu' de' be') : yb_ok f n ki' va' up' tu' de' be' kN vl oc sp bd := by
  obtain ⟨n24, bw, _, _, hbt⟩ := hbd
  intro t ht
  obtain ⟨a1, a2, a3, a4, a5, a6⟩ := hb t ht
  obtain ⟨k1, k2, k3, k4, k5⟩ := hk.1 t (by omega)
  obtain ⟨c1, c2, c3, _⟩ := hbt t ht
  rw [k1, k2, k5, a1, a3]
  refine ⟨nr_b0 (by omega), a2, nr_b0 (by omega), fun j hj => ?_, fun z => ?_, fun z => ?_⟩
  · have h1 := hk.2.1 (3 * t + j) (by omega)
    have h2 := (bw_in bw ht hj).2.2
    rw [← Nat.add_assoc, ← Nat.add_assoc, a4 j hj] at h1
    rw [h1]; exact nr_s0 (by omega)
  · rw [k3, a5 z]; exact nr_bm
  · obtain ⟨s, j, s1, s2, s3, s4, s5⟩ := a6 z
    have := (hbt s (by omega)).2.1
    exact ⟨s, j, s1, s2, s3, by rw [k3, s4]; exact nr_b0 (by omega), by rw [k4, s5]; exact nr_b0 (by omega)⟩
theorem sc_ow {P : Nat} (r : Nat → mt_T) : (List.range P).map (fun j => r (72 + j)) ++ [r 0] = (ow_st P).map r := by
  unfold ow_st; simp [List.map_map, Function.comp_def]
theorem pj_principal {N P : Nat} {Sol S : (Nat → mt_T) → Prop} {c : Nat → mt_T} (hN : 74 ≤ N) (hP2 : P ≤ 2) (hm : mg_is N Sol c) (hp : pj_is 74 Sol S) (tp : List mt_T) :
    sc_inst (cn_go [] (mt_encs ((ow_st P).map c))) tp ↔ ∃ r, (∀ n, mt_wf (r n)) ∧ S r ∧ tp = (ow_st P).map r := by
  rw [← mg_inst hm (ow_st P) (fun n hn => by have := ow_lt hP2 n hn; omega) tp]
  constructor
  · rintro ⟨r, r1, r2, r3⟩; exact ⟨r, r1, hp.1 r r1 r2, r3⟩
  · rintro ⟨r, r1, r2, r3⟩
    obtain ⟨r', q1, q2, q3⟩ := hp.2 r r1 r2
    exact ⟨r', q1, q2, by rw [r3]; exact List.map_congr_left (fun n hn => (q3 n (ow_lt hP2 n hn)).symm)⟩
theorem cod_ts {P : Nat} {c : Nat → mt_T} (hw : ∀ n, mt_wf (c n)) : ∃ ts, (∀ t ∈ ts, mt_wf t) ∧ mt_encs ts = cn_go [] (mt_encs ((ow_st P).map c)) ∧ ts.length = P + 1 := by
  have hwm : ∀ t ∈ (ow_st P).map c, mt_wf t := by
    intro t ht
    obtain ⟨n, _, rfl⟩ := List.mem_map.mp ht
    exact hw n
  refine ⟨((ow_st P).map c).map (mt_sub (fun v => .leaf (10 + cn_ix (10 + v) (cn_seen [] (mt_encs ((ow_st P).map c)))))), fun t ht => ?_, ?_, by rw [List.length_map, List.length_map, ow_len]⟩
  · obtain ⟨x, hx, rfl⟩ := List.mem_map.mp ht
    exact mt_sub_wf (fun v => mt_wfv _) x (hwm x hx)
  · rw [cn_go_map]
    exact mt_encs_rn _ hwm (fun v _ => rfl)
/-- the new function among the others -/
theorem lib_new {ln P : Nat → Nat} {kN : Nat → Nat → Nat} {vl : Nat → Nat → Int32} {oc sp bd bi : Nat → Nat → Nat} {cod : Nat → List Nat} {f n p : Nat} {dk : Nat → Nat} {dv : Nat → Int32} {o s b i : Nat → Nat} {cf : List Nat} (h : lib ln P kN vl oc sp bd bi cod) (hf : ln f = 0) (hn0 : n ≠ 0)
    (hbd : bd_ok n dk dv o s b i) (h0 : b 0 = p) (hp : p ≤ 2) (h10 : ∀ t, t < n → b t ≤ 10) (hop : ∀ t, t < n → 0 < op (dk t) → b t + op (dk t) ≤ 10)
    (hc : ∀ t, t < n → dk t = 4 → ∃ h, h < 5 ∧ dv t = nI h ∧ (h = f ∧ o t = p ∨ h ≠ f ∧ ln h ≠ 0 ∧ o t = P h)) (hts : ∃ ts, (∀ t ∈ ts, mt_wf t) ∧ mt_encs ts = cf ∧ ts.length = p + 1) (hcl : cf.length ≤ 14 * (p + 1)) (hc60 : ∀ k, k < cf.length → cf.getD k 0 < 60)
    (hpr : ∀ tp, sc_inst cf tp ↔ ∃ r, (∀ n, mt_wf (r n)) ∧ S_t (fun _ => True) f dk dv o s b i cod n r ∧ tp = (ow_st p).map r) :
    lib (updG ln f n) (updG P f p) (updG kN f dk) (updG vl f dv) (updG oc f o) (updG sp f s) (updG bd f b) (updG bi f i) (updG cod f cf) := by
  intro g hg hl
  by_cases z : g = f
  · subst z
    simp only [uG_s] at hl ⊢
    refine ⟨hbd, h0, hp, h10, hop, fun t ht k4 => ?_, hts, hcl, hc60, fun tp => (hpr tp).trans ?_⟩
    · obtain ⟨h', h1, h2, h3⟩ := hc t ht k4
      refine ⟨h', h1, h2, ?_⟩
      rcases h3 with ⟨e, h3⟩ | ⟨e, h3, h4⟩
      · subst e; rw [uG_s, uG_s]; exact ⟨hl, h3⟩
      · rw [uG_n e, uG_n e]; exact ⟨h3, h4⟩
    · have key : ∀ t, t < n → dk t = 4 → (dv t).toNatClampNeg ≠ g → updG cod g cf (dv t).toNatClampNeg = cod (dv t).toNatClampNeg := fun t _ _ w => uG_n w
      constructor
      · rintro ⟨r, r1, r2, r3⟩; exact ⟨r, r1, S_cod (fun t ht => (hbd.2.2.2.2 t ht).1) key r2, r3⟩
      · rintro ⟨r, r1, r2, r3⟩; exact ⟨r, r1, S_cod (fun t ht => (hbd.2.2.2.2 t ht).1) (fun t ht a w => (key t ht a w).symm) r2, r3⟩
  · rw [uG_n z] at hl
    simp only [uG_n z]
    obtain ⟨l1, l2, l3, l4, l5, l6, l7, l8, l9, l10⟩ := h g hg hl
    refine ⟨l1, l2, l3, l4, l5, fun t ht k4 => ?_, l7, l8, l9, fun tp => (l10 tp).trans ?_⟩
    · obtain ⟨h', h1, h2, h3, h4⟩ := l6 t ht k4
      have e : h' ≠ f := fun w => h3 (w ▸ hf)
      exact ⟨h', h1, h2, by rw [uG_n e]; exact h3, by rw [uG_n e]; exact h4⟩
    · have key : ∀ t, t < ln g → kN g t = 4 → (vl g t).toNatClampNeg ≠ g → updG cod f cf (vl g t).toNatClampNeg = cod (vl g t).toNatClampNeg := by
        intro t ht k4 _
        obtain ⟨h', h1, h2, h3, h4⟩ := l6 t ht k4
        rw [h2, nI_clamp (by omega)]
        exact uG_n (fun w => h3 (w ▸ hf))
      constructor
      · rintro ⟨r, r1, r2, r3⟩; exact ⟨r, r1, S_cod (fun t ht => (l1.2.2.2.2 t ht).1) key r2, r3⟩
      · rintro ⟨r, r1, r2, r3⟩; exact ⟨r, r1, S_cod (fun t ht => (l1.2.2.2.2 t ht).1) (fun t ht a w => (key t ht a w).symm) r2, r3⟩
/-- the relation, of states -/
def rl (u : SX) (v : SY) : Prop := match u with
  | (f_saidPlace, f_instanceCount, f_nodeCount, f_equationCount, f_stackCount, f_wordCount, f_depth, f_cellCount, f_consCount, f_closureCount, f_stepCount, f_runAnswer, f_writtenCount, a_kinds, a_values, a_spans, a_bounds, a_binders, a_lengths, a_parameterCounts, a_typeCodes, a_typeLengths, a_instanceFunctions, a_nodeKinds, a_nodeLefts, a_nodeRights, a_nodeSizes, a_equationLefts, a_equationRights, a_stackLefts, a_stackRights, a_words, a_boundWords, a_cellFirsts, a_cellSeconds, a_closureTokens, a_closureWords, a_written) => match v with
    | (yf_place, yf_points, yf_names, yf_textEnd, yf_made, yf_entry, yf_waiting, yf_values, yf_bound, yf_cells, yf_conses, yf_lams, yf_steps, yf_atWork, yf_end, yf_writtenCount, ya_kind, ya_up, ya_turn, ya_depth, ya_value, ya_below, ya_length, ya_parameters, ya_codes, ya_codeCount, ya_form, ya_colour, ya_same, ya_one, ya_two, ya_todo, ya_numbered, ya_text, ya_ofFunction, ya_codeEnd, ya_instance, ya_token, ya_env, ya_tag, ya_cellEnv, ya_boundNext, ya_step, ya_boundNumber, ya_boundTag, ya_headTag, ya_tailTag, ya_number, ya_boundValue, ya_head, ya_tail, ya_written) => rel f_saidPlace f_instanceCount f_nodeCount f_equationCount f_stackCount f_wordCount f_depth f_cellCount f_consCount f_closureCount f_stepCount f_runAnswer f_writtenCount a_kinds a_values a_spans a_bounds a_binders a_lengths a_parameterCounts a_typeCodes a_typeLengths a_instanceFunctions a_nodeKinds a_nodeLefts a_nodeRights a_nodeSizes a_equationLefts a_equationRights a_stackLefts a_stackRights a_words a_boundWords a_cellFirsts a_cellSeconds a_closureTokens a_closureWords a_written yf_place yf_points yf_names yf_textEnd yf_made yf_entry yf_waiting yf_values yf_bound yf_cells yf_conses yf_lams yf_steps yf_atWork yf_end yf_writtenCount ya_kind ya_up ya_turn ya_depth ya_value ya_below ya_length ya_parameters ya_codes ya_codeCount ya_form ya_colour ya_same ya_one ya_two ya_todo ya_numbered ya_text ya_ofFunction ya_codeEnd ya_instance ya_token ya_env ya_tag ya_cellEnv ya_boundNext ya_step ya_boundNumber ya_boundTag ya_headTag ya_tailTag ya_number ya_boundValue ya_head ya_tail ya_written
section df
variable {f P n : Nat} {ln Pg ln1 : Nat → Nat} {kN : Nat → Nat → Nat} {vl : Nat → Nat → Int32} {oc sp bd bi : Nat → Nat → Nat} {cod : Nat → List Nat} {dk : Nat → Nat} {dv : Nat → Int32}
theorem df_bad (hf : f < 5) (hlib : lib ln Pg kN vl oc sp bd bi cod) (hlx : lx_ok ln Pg kN vl sp bd bi cod a_kinds a_values a_spans a_bounds a_binders a_lengths a_parameterCounts a_typeCodes a_typeLengths) (hly : ly_ok ln Pg kN vl oc sp bd cod ya_kind ya_value ya_up ya_turn ya_depth ya_below ya_length ya_parameters ya_codes ya_codeCount)
    (hm : rel_m f_instanceCount a_kinds a_values a_spans a_bounds a_lengths a_parameterCounts a_typeCodes a_typeLengths a_instanceFunctions yf_made yf_entry ya_kind ya_value ya_below ya_parameters ya_ofFunction ya_codeEnd ya_instance)
    (hln1 : ln1 = dpn kN (vnf vl) (updN ln f 0) 5) {ki va spA bo bin le up tu de be yle : Nat → Int32} (h1 : ∀ j, j < f * 24 ∨ f * 24 + 24 ≤ j → ki j = a_kinds j ∧ va j = a_values j ∧ spA j = a_spans j ∧ bo j = a_bounds j ∧ bin j = a_binders j) (h2 : ∀ h, h < 5 → le h = nI (ln1 h)) (h3 : ∀ j, 5 ≤ j → le j = a_lengths j)
    (h4 : yr_ok ya_up ya_turn ya_depth ya_below up tu de be) (h5 : ∀ h, h < 5 → yle h = nI (ln1 h)) (h6 : ∀ j, 5 ≤ j → yle j = ya_length j) (p q : Int32) (l : Int32) :
    rel_b ki va spA bo bin (upd (upd (upd le f l) 10 0) f 0) (upd a_parameterCounts f p) a_typeCodes a_typeLengths ya_kind ya_value up tu de be (upd yle 5 0) (upd ya_parameters 5 q) ya_codes ya_codeCount ∧
    (∃ n dk dv, rel_d ki va (upd (upd (upd le f l) 10 0) f 0) ya_kind ya_value (upd yle 5 0) n dk dv) ∧
    rel_m f_instanceCount ki va spA bo (upd (upd (upd le f l) 10 0) f 0) (upd a_parameterCounts f p) a_typeCodes a_typeLengths a_instanceFunctions yf_made yf_entry ya_kind ya_value be (upd ya_parameters 5 q) ya_ofFunction ya_codeEnd ya_instance := by
  subst hln1
  refine ⟨⟨_, Pg, kN, vl, oc, sp, bd, bi, cod, lib_drop hf hlib, lx_drop hlx (fun g => dp_g) h1 (fun g hg => ?_) (fun g hg hgf => pk_un hgf), ly_drop hlib hly (fun g => dp_g) (fun j hj _ => ⟨rfl, rfl, h4.1 j (by omega)⟩) (fun j hj _ => h4.2 j (by omega)) (fun g hg => ?_) (fun g hg _ => pk_un (by omega))⟩, ⟨0, fun _ => 0, fun _ => 0, ?_, pk_us, ⟨by omega, fun t ht => by omega⟩, ⟨by omega, fun t ht => by omega⟩⟩, rm_congr hm (fun j j1 j2 => ?_) (fun j j1 j2 => ?_) (fun _ _ => rfl) (fun _ _ => rfl) (fun _ _ => ⟨rfl, rfl⟩) (fun j hj => h4.2 j (by omega)) (fun j hj => pk_un (by omega))⟩
  · by_cases z : g = f
    · rw [z, pk_us, dp_f]; rfl
    · rw [pk_un z, pk_un (by omega), pk_un z]; exact h2 g hg
  · rw [pk_un (by omega)]; exact h5 g hg
  · rw [pk_un (by omega), pk_us]; rfl
  · obtain ⟨a, b, c, d, _⟩ := h1 j (by omega)
    exact ⟨a, b, c, d⟩
  · rw [pk_un (by omega), pk_un (by omega), pk_un (by omega), pk_un (by omega), h3 j (by omega)]; exact ⟨rfl, rfl⟩
theorem df_ok (hf : f < 5) (hP2 : P ≤ 2) (hn : n ≤ 24) (hn0 : n ≠ 0) (hlib : lib ln Pg kN vl oc sp bd bi cod) (hlx : lx_ok ln Pg kN vl sp bd bi cod a_kinds a_values a_spans a_bounds a_binders a_lengths a_parameterCounts a_typeCodes a_typeLengths) (hly : ly_ok ln Pg kN vl oc sp bd cod ya_kind ya_value ya_up ya_turn ya_depth ya_below ya_length ya_parameters ya_codes ya_codeCount)
    (hm : rel_m f_instanceCount a_kinds a_values a_spans a_bounds a_lengths a_parameterCounts a_typeCodes a_typeLengths a_instanceFunctions yf_made yf_entry ya_kind ya_value ya_below ya_parameters ya_ofFunction ya_codeEnd ya_instance)
    (hln1 : ln1 = dpn kN (vnf vl) (updN ln f 0) 5) {ki va spA bo bin le tc up tu de be yle yki yva yup ytu yde ybe cs : Nat → Int32} {o s b i : Nat → Nat} {cf : List Nat} (h1 : ∀ j, j < f * 24 ∨ f * 24 + 24 ≤ j → ki j = a_kinds j ∧ va j = a_values j ∧ spA j = a_spans j ∧ bo j = a_bounds j ∧ bin j = a_binders j) (h2 : ∀ h, h < 5 → le h = nI (ln1 h)) (h3 : ∀ j, 5 ≤ j → le j = a_lengths j)
    (h1' : ∀ t, t < n → ki (f * 24 + t) = nI (dk t) ∧ va (f * 24 + t) = dv t ∧ spA (f * 24 + t) = nI (s t) ∧ bo (f * 24 + t) = nI (b t) ∧ bin (f * 24 + t) = (if i t = 0 then -1 else nI (i t - 1)))
    (h4 : yr_ok ya_up ya_turn ya_depth ya_below up tu de be) (h5 : ∀ h, h < 5 → yle h = nI (ln1 h)) (h6 : ∀ j, 5 ≤ j → yle j = ya_length j)
    (hbd : bd_ok n dk dv o s b i) (h0 : b 0 = P) (h10 : ∀ t, t < n → b t ≤ 10) (hop : ∀ t, t < n → 0 < op (dk t) → b t + op (dk t) ≤ 10)
    (hc : ∀ t, t < n → dk t = 4 → ∃ h, h < 5 ∧ dv t = nI h ∧ (h = f ∧ o t = P ∨ h ≠ f ∧ ln1 h ≠ 0 ∧ o t = Pg h)) (hts : ∃ ts, (∀ t ∈ ts, mt_wf t) ∧ mt_encs ts = cf ∧ ts.length = P + 1) (hcl : cf.length ≤ 14 * (P + 1)) (hc60 : ∀ k, k < cf.length → cf.getD k 0 < 60)
    (hpr : ∀ tp, sc_inst cf tp ↔ ∃ r, (∀ n, mt_wf (r n)) ∧ S_t (fun _ => True) f dk dv o s b i cod n r ∧ tp = (ow_st P).map r)
    (hyb : yb_ok 5 n ya_kind ya_value up tu de be dk dv o s b) (hyk : yk_ok 5 f 24 ya_kind ya_value up tu de be yki yva yup ytu yde ybe)
    (htc1 : ∀ j, j < f * 42 ∨ f * 42 + 42 ≤ j → tc j = a_typeCodes j) (htc2 : ∀ k, k < cf.length → tc (f * 42 + k) = nI (cf.getD k 0)) (hcs1 : ∀ j, j < 48 * f ∨ 48 * f + 48 ≤ j → cs j = ya_codes j) (hcs2 : ∀ k, k < cf.length → cs (48 * f + k) = nI (cf.getD k 0)) :
    rel_b ki va spA bo bin (upd (upd le f (nI n)) 10 0) (upd a_parameterCounts f (nI P)) tc (upd a_typeLengths f (nI cf.length)) yki yva yup ytu yde ybe (upd (upd yle f (nI n)) 5 0) (upd (upd ya_parameters 5 (nI P)) f (nI P)) cs (upd ya_codeCount f (nI cf.length)) ∧
    (∃ n dk dv, rel_d ki va (upd (upd le f (nI n)) 10 0) yki yva (upd (upd yle f (nI n)) 5 0) n dk dv) ∧
    rel_m f_instanceCount ki va spA bo (upd (upd le f (nI n)) 10 0) (upd a_parameterCounts f (nI P)) tc (upd a_typeLengths f (nI cf.length)) a_instanceFunctions yf_made yf_entry yki yva ybe (upd (upd ya_parameters 5 (nI P)) f (nI P)) ya_ofFunction ya_codeEnd ya_instance := by
  subst hln1
  have hlib1 := lib_drop hf hlib
  have hnew := lib_new hlib1 dp_f hn0 hbd h0 hP2 h10 hop hc hts hcl hc60 hpr
  refine ⟨⟨_, _, _, _, _, _, _, _, _, hnew, fun g hg => ?_, fun g hg => ?_⟩, ⟨0, fun _ => 0, fun _ => 0, pk_us, pk_us, ⟨by omega, fun t ht => by omega⟩, ⟨by omega, fun t ht => by omega⟩⟩, rm_congr hm (fun j j1 j2 => ?_) (fun j j1 j2 => ?_) (fun j hj => htc1 j (by omega)) (fun j hj => pk_un (by omega)) (fun j hj => ?_) (fun j hj => ?_) (fun j hj => ?_)⟩
  · by_cases z : g = f
    · subst z
      simp only [uG_s]
      rw [pk_un (by omega), pk_us, pk_us]
      exact ⟨rfl, hn, fun _ => ⟨rfl, h1', ⟨by omega, by omega, pk_us, fun k hk => ⟨htc2 k hk, by have := hc60 k hk; omega⟩⟩⟩⟩
    · simp only [uG_n z]
      rw [pk_un (by omega), pk_un z, pk_un z]
      have := lx_drop (f := f) (pc' := a_parameterCounts) hlx (fun g => dp_g) h1 h2 (fun _ _ _ => rfl) g hg
      obtain ⟨x1, x2, x3⟩ := this
      refine ⟨x1, x2, fun hl => ?_⟩
      obtain ⟨y1, y2, r1, r2, r3, r4⟩ := x3 hl
      refine ⟨y1, y2, r1, r2, by rw [pk_un z]; exact r3, fun k hk => ?_⟩
      rw [htc1 _ (by omega)]; exact r4 k hk
  · by_cases z : g = f
    · subst z
      simp only [uG_s]
      rw [pk_un (by omega), pk_us, pk_us, pk_us]
      exact ⟨rfl, fun _ => ⟨rfl, yb_copied hbd hyb hyk, rfl, hcs2⟩⟩
    · simp only [uG_n z]
      rw [pk_un (by omega), pk_un z, pk_un z, pk_un (by omega), pk_un z]
      have := ly_drop (f := f) (par' := ya_parameters) (ki' := yki) (va' := yva) (up' := yup) (tu' := ytu) (de' := yde) (be' := ybe) (len' := yle) hlib hly (fun g => dp_g) (fun j j1 j2 => ?_) (fun j j1 j2 => ?_) h5 (fun _ _ _ => rfl) g hg
      · obtain ⟨x1, x2⟩ := this
        refine ⟨x1, fun hl => ?_⟩
        obtain ⟨y1, y2, y3, y4⟩ := x2 hl
        refine ⟨y1, y2, y3, fun k hk => ?_⟩
        have hlen := (hlib1 g hg hl).2.2.2.2.2.2.2.1
        have h2p := (hlib1 g hg hl).2.2.1
        rw [hcs1 _ (by omega)]; exact y4 k hk
      · obtain ⟨a1, a2, a3, a4, a5⟩ := hyk.2.2.1 j j2
        obtain ⟨b1, b2, b3⟩ := h4.1 j (by omega)
        exact ⟨a1, a2, a3.trans b1, a4.trans b2, a5.trans b3⟩
      · exact (hyk.2.2.2 j j2).trans (h4.2 j (by omega))
  · obtain ⟨a, b, c, d, _⟩ := h1 j (by omega)
    exact ⟨a, b, c, d⟩
  · rw [pk_un (by omega), pk_un (by omega), pk_un (by omega), h3 j (by omega)]; exact ⟨rfl, rfl⟩
  · obtain ⟨a1, a2, _⟩ := hyk.2.2.1 j (by omega)
    exact ⟨a1, a2⟩
  · exact (hyk.2.2.2 j (by omega)).trans (h4.2 j (by omega))
  · rw [pk_un (by omega), pk_un (by omega)]
end df
end
section
variable {f_saidPlace f_instanceCount f_nodeCount f_equationCount f_stackCount f_wordCount f_depth f_cellCount f_consCount f_closureCount f_stepCount f_runAnswer f_writtenCount : Int32} {a_kinds a_values a_spans a_bounds a_binders a_lengths a_parameterCounts a_typeCodes a_typeLengths a_instanceFunctions a_nodeKinds a_nodeLefts a_nodeRights a_nodeSizes a_equationLefts a_equationRights a_stackLefts a_stackRights a_words a_boundWords a_cellFirsts a_cellSeconds a_closureTokens a_closureWords a_written : Nat → Int32}
variable {yf_place yf_points yf_names yf_textEnd yf_made yf_entry yf_waiting yf_values yf_bound yf_cells yf_conses yf_lams yf_steps yf_atWork yf_end yf_writtenCount : Int32} {ya_kind ya_up ya_turn ya_depth ya_value ya_below ya_length ya_parameters ya_codes ya_codeCount ya_form ya_colour ya_same ya_one ya_two ya_todo ya_numbered ya_text ya_ofFunction ya_codeEnd ya_instance ya_token ya_env ya_tag ya_cellEnv ya_boundNext ya_step ya_boundNumber ya_boundTag ya_headTag ya_tailTag ya_number ya_boundValue ya_head ya_tail ya_written : Nat → Int32}
section df2
variable {f P n : Nat} {ln Pg ln1 : Nat → Nat} {kN : Nat → Nat → Nat} {vl : Nat → Nat → Int32} {oc sp bd bi : Nat → Nat → Nat} {cod : Nat → List Nat} {dk : Nat → Nat} {dv : Nat → Int32}
theorem lib_xl (hlib : lib ln Pg kN vl oc sp bd bi cod) (hlx : lx_ok ln Pg kN vl sp bd bi cod a_kinds a_values a_spans a_bounds a_binders a_lengths a_parameterCounts a_typeCodes a_typeLengths) : xl_ok a_kinds a_values kN (vnf vl) ln := by
  intro g hg
  obtain ⟨x1, x2, x3⟩ := hlx g hg
  refine ⟨x2, fun t ht => ?_⟩
  have hl : ln g ≠ 0 := by omega
  obtain ⟨y1, y2, y3, _⟩ := (x3 hl).2.1 t ht
  refine ⟨y1, ((hlib g hg hl).1.2.2.2.2 t ht).1, fun z => ?_⟩
  obtain ⟨h, h1, h2, _⟩ := (hlib g hg hl).2.2.2.2.2.1 t ht z
  unfold vnf
  rw [y2, h2, nI_clamp (by omega)]
  exact ⟨h1, rfl⟩
theorem lib_yl (hlib : lib ln Pg kN vl oc sp bd bi cod) (h24 : ∀ g, g < 5 → ln g ≤ 24) (hly : ly_ok ln Pg kN vl oc sp bd cod ya_kind ya_value ya_up ya_turn ya_depth ya_below ya_length ya_parameters ya_codes ya_codeCount) : yl_ok ya_kind ya_value kN (vnf vl) ln := by
  intro g hg
  obtain ⟨x1, x3⟩ := hly g hg
  refine ⟨h24 g hg, fun t ht => ?_⟩
  have hl : ln g ≠ 0 := by omega
  obtain ⟨y1, y2, _⟩ := (x3 hl).2.1 t ht
  refine ⟨y1, ((hlib g hg hl).1.2.2.2.2 t ht).1, fun z => ?_⟩
  obtain ⟨h, h1, h2, _⟩ := (hlib g hg hl).2.2.2.2.2.1 t ht z
  unfold vnf
  rw [y2, h2, nI_clamp (by omega)]
  exact ⟨h1, rfl⟩
theorem y_def_all {post : Int32 → SY → Prop} {s b i : Nat → Nat} {G : Prop} (hf : f < 5) (hP2 : P ≤ 2) (hlib : lib ln Pg kN vl oc sp bd bi cod) (h24 : ∀ g, g < 5 → ln g ≤ 24) (hly : ly_ok ln Pg kN vl oc sp bd cod ya_kind ya_value ya_up ya_turn ya_depth ya_below ya_length ya_parameters ya_codes ya_codeCount)
    (hln1 : ln1 = dpn kN (vnf vl) (updN ln f 0) 5) (hl5 : ya_length 5 = nI n) (hyt : yt_ok n ya_kind ya_value dk dv)
    (hG : G → bw_is n (ocf f P ln1 Pg dk dv) s ∧ tr_ok n dk (ocf f P ln1 Pg dk dv) s b i ∧ (∀ s, s < n → b s ≤ 100) ∧ b 0 = P) (hGi : (∀ s, s < n → aw (ocf f P ln1 Pg dk dv) s ≠ 0) → aw (ocf f P ln1 Pg dk dv) n = 0 → G)
    (hS : ∀ t le up tu de be td, (t < n ∧ aw (ocf f P ln1 Pg dk dv) t = 0 ∧ (∀ s, s < t → aw (ocf f P ln1 Pg dk dv) s ≠ 0)) ∨ (t = n ∧ (∀ s, s < n → aw (ocf f P ln1 Pg dk dv) s ≠ 0) ∧ aw (ocf f P ln1 Pg dk dv) n ≠ 0) → (∀ h, h < 5 → le h = nI (ln1 h)) → (∀ j, 5 ≤ j → le j = ya_length j) → yr_ok ya_up ya_turn ya_depth ya_below up tu de be →
      post 1 ((nI t), yf_points, yf_names, yf_textEnd, yf_made, yf_entry, yf_waiting, yf_values, yf_bound, yf_cells, yf_conses, yf_lams, yf_steps, yf_atWork, yf_end, yf_writtenCount, ya_kind, up, tu, de, ya_value, be, (upd le 5 0), (upd ya_parameters 5 (nI P)), ya_codes, ya_codeCount, ya_form, ya_colour, ya_same, ya_one, ya_two, td, ya_numbered, ya_text, ya_ofFunction, ya_codeEnd, ya_instance, ya_token, ya_env, ya_tag, ya_cellEnv, ya_boundNext, ya_step, ya_boundNumber, ya_boundTag, ya_headTag, ya_tailTag, ya_number, ya_boundValue, ya_head, ya_tail, ya_written))
    (hU : ∀ t le up tu de be td, (∀ s, s < n → aw (ocf f P ln1 Pg dk dv) s ≠ 0) → aw (ocf f P ln1 Pg dk dv) n = 0 → (∀ h, h < 5 → le h = nI (ln1 h)) → (∀ j, 5 ≤ j → le j = ya_length j) → yr_ok ya_up ya_turn ya_depth ya_below up tu de be → t < n → ub b dk dv (fun g => g ≠ f ∧ ln1 g = 0) t → (∀ s, s < t → ¬ ub b dk dv (fun g => g ≠ f ∧ ln1 g = 0) s) →
      post 2 ((nI t), yf_points, yf_names, yf_textEnd, yf_made, yf_entry, yf_waiting, yf_values, yf_bound, yf_cells, yf_conses, yf_lams, yf_steps, yf_atWork, yf_end, yf_writtenCount, ya_kind, up, tu, de, ya_value, be, (upd le 5 0), (upd ya_parameters 5 (nI P)), ya_codes, ya_codeCount, ya_form, ya_colour, ya_same, ya_one, ya_two, td, ya_numbered, ya_text, ya_ofFunction, ya_codeEnd, ya_instance, ya_token, ya_env, ya_tag, ya_cellEnv, ya_boundNext, ya_step, ya_boundNumber, ya_boundTag, ya_headTag, ya_tailTag, ya_number, ya_boundValue, ya_head, ya_tail, ya_written))
    (hR : ∀ le up tu de be, (∀ h, h < 5 → le h = nI (ln1 h)) → (∀ j, 5 ≤ j → le j = ya_length j) → yr_ok ya_up ya_turn ya_depth ya_below up tu de be → G → aw (ocf f P ln1 Pg dk dv) n = 0 → (∀ s, s < n → aw (ocf f P ln1 Pg dk dv) s ≠ 0) → (∀ s, s < n → ¬ ub b dk dv (fun g => g ≠ f ∧ ln1 g = 0) s) → bd_ok n dk dv (ocf f P ln1 Pg dk dv) s b i → yb_ok 5 n ya_kind ya_value up tu de be dk dv (ocf f P ln1 Pg dk dv) s b →
      (∀ t N fo sa on tw co td nu, t < n → (t = 0 ∨ ∃ r, (∀ n, mt_wf (r n)) ∧ S_t (fun _ => True) f dk dv (ocf f P ln1 Pg dk dv) s b i cod t r) → (∀ r, (∀ n, mt_wf (r n)) → ¬ S_t (fun _ => True) f dk dv (ocf f P ln1 Pg dk dv) s b i cod (t + 1) r) →
        post 3 ((nI t), N, yf_names, yf_textEnd, yf_made, yf_entry, yf_waiting, yf_values, yf_bound, yf_cells, yf_conses, yf_lams, yf_steps, yf_atWork, yf_end, yf_writtenCount, ya_kind, up, tu, de, ya_value, be, (upd le 5 0), (upd ya_parameters 5 (nI P)), ya_codes, ya_codeCount, fo, co, sa, on, tw, td, nu, ya_text, ya_ofFunction, ya_codeEnd, ya_instance, ya_token, ya_env, ya_tag, ya_cellEnv, ya_boundNext, ya_step, ya_boundNumber, ya_boundTag, ya_headTag, ya_tailTag, ya_number, ya_boundValue, ya_head, ya_tail, ya_written)) ∧
      (∀ (N : Nat) (Sol : (Nat → mt_T) → Prop) (c : Nat → mt_T), 74 ≤ N → mg_is N Sol c → pj_is 74 Sol (S_t (fun _ => True) f dk dv (ocf f P ln1 Pg dk dv) s b i cod n) → (∃ p, p < 74 ∧ 14 < (mt_enc (c p)).length) → ∀ pt te nm fo sa on tw co td nu tx,
        post 4 ((-1), pt, nm, te, yf_made, yf_entry, yf_waiting, yf_values, yf_bound, yf_cells, yf_conses, yf_lams, yf_steps, yf_atWork, yf_end, yf_writtenCount, ya_kind, up, tu, de, ya_value, be, (upd le 5 0), (upd ya_parameters 5 (nI P)), ya_codes, ya_codeCount, fo, co, sa, on, tw, td, nu, tx, ya_ofFunction, ya_codeEnd, ya_instance, ya_token, ya_env, ya_tag, ya_cellEnv, ya_boundNext, ya_step, ya_boundNumber, ya_boundTag, ya_headTag, ya_tailTag, ya_number, ya_boundValue, ya_head, ya_tail, ya_written)) ∧
      (∀ (N : Nat) (Sol : (Nat → mt_T) → Prop) (c : Nat → mt_T), 74 ≤ N → mg_is N Sol c → pj_is 74 Sol (S_t (fun _ => True) f dk dv (ocf f P ln1 Pg dk dv) s b i cod n) → (∀ p, p < 74 → yl_in n P p → (mt_enc (c p)).length ≤ 14) → ∀ pt te nm fo sa on tw co td nu tx ki va up' tu' de' be' cs,
        yk_ok 5 f 24 ya_kind ya_value up tu de be ki va up' tu' de' be' → (∀ i, i < (mt_encs ((ow_st P).map c)).length → cs (48 * f + i) = nI ((cn_go [] (mt_encs ((ow_st P).map c))).getD i 0)) → (∀ j, j < 48 * f ∨ 48 * f + 48 ≤ j → cs j = ya_codes j) →
        post 0 ((-1), pt, nm, te, yf_made, yf_entry, yf_waiting, yf_values, yf_bound, yf_cells, yf_conses, yf_lams, yf_steps, yf_atWork, yf_end, yf_writtenCount, ki, up', tu', de', va, be', (upd (upd le f (nI n)) 5 0), (upd (upd ya_parameters 5 (nI P)) f (nI P)), cs, (upd ya_codeCount f (nI (mt_encs ((ow_st P).map c)).length)), fo, co, sa, on, tw, td, nu, tx, ya_ofFunction, ya_codeEnd, ya_instance, ya_token, ya_env, ya_tag, ya_cellEnv, ya_boundNext, ya_step, ya_boundNumber, ya_boundTag, ya_headTag, ya_tailTag, ya_number, ya_boundValue, ya_head, ya_tail, ya_written))) :
    wpY_define post (yf_place, yf_points, yf_names, yf_textEnd, yf_made, yf_entry, yf_waiting, yf_values, yf_bound, yf_cells, yf_conses, yf_lams, yf_steps, yf_atWork, yf_end, yf_writtenCount, ya_kind, ya_up, ya_turn, ya_depth, ya_value, ya_below, ya_length, ya_parameters, ya_codes, ya_codeCount, ya_form, ya_colour, ya_same, ya_one, ya_two, ya_todo, ya_numbered, ya_text, ya_ofFunction, ya_codeEnd, ya_instance, ya_token, ya_env, ya_tag, ya_cellEnv, ya_boundNext, ya_step, ya_boundNumber, ya_boundTag, ya_headTag, ya_tailTag, ya_number, ya_boundValue, ya_head, ya_tail, ya_written) (nI f) (nI P) := by
  have hPg : ∀ g, g < 5 → ln1 g ≠ 0 → Pg g ≤ 2 := by subst hln1; exact fun g hg hl => (lib_drop hf hlib g hg hl).2.2.1
  have hoc : ∀ t, t < n → ocf f P ln1 Pg dk dv t ≤ 3 ∧ (dk t = 4 → ocf f P ln1 Pg dk dv t ≤ 2) ∧ (dk t ≠ 4 → ocf f P ln1 Pg dk dv t = ar (dk t)) := fun t ht => ocf_3 hP2 hPg (hyt.2 t ht).2.1 (hyt.2 t ht).2.2.2.2
  have n24 := hyt.1
  refine y_define (kN := kN) (vN := vnf vl) hf hP2 (lib_yl hlib h24 hly) (fun h hh => (hly h hh).1) (fun fu le k1 k2 => ?_)
  rw [← hln1] at k1
  have h24' : ∀ g, g < 5 → ln1 g ≤ 24 := by
    intro g hg
    subst hln1
    by_cases z : dpn kN (vnf vl) (updN ln f 0) 5 g = 0
    · omega
    · rw [(dp_g z).2]; exact h24 g hg
  have hmis : ∀ g, g < 5 → (le g = 0 ↔ ln1 g = 0) := fun g hg => by rw [k1 g hg]; exact nI0 (by have := h24' g hg; omega)
  have hyo : yo_ok f P n dk dv (ocf f P ln1 Pg dk dv) le ya_parameters := by
    intro t ht
    obtain ⟨o1, o2, o3⟩ := hoc t ht
    refine ⟨o1, o3, fun z g hv hg => ?_⟩
    rw [ocf_c z hg hv]
    refine ⟨fun w => if_pos w, fun w => ?_⟩
    rw [if_neg w]
    by_cases y : ln1 g = 0
    · rw [if_pos y]; exact Or.inl ⟨(hmis g hg).mpr y, rfl⟩
    · rw [if_neg y]
      refine Or.inr ⟨fun x => y ((hmis g hg).mp x), ?_⟩
      have y' := y
      rw [hln1] at y'
      exact ((hly g hg).2 (by rw [← (dp_g y').2]; exact y')).1
  have hui : ∀ t, ub b dk dv (fun g => g ≠ f ∧ le g = 0) t → ub b dk dv (fun g => g ≠ f ∧ ln1 g = 0) t := fun t => ub_iff (fun g hg z => ⟨z.1, (hmis g hg).mp z.2⟩)
  have hui' : ∀ t, ub b dk dv (fun g => g ≠ f ∧ ln1 g = 0) t → ub b dk dv (fun g => g ≠ f ∧ le g = 0) t := fun t => ub_iff (fun g hg z => ⟨z.1, (hmis g hg).mpr z.2⟩)
  refine y_def27 (ya_length := le) (n := n) (kN := dk) (vl := dv) (oc := ocf f P ln1 Pg dk dv) (sp := s) (bd := b) (bi := i) (G := G) hf hP2 n24 (by rw [k2 5 (by omega)]; exact hl5) hyt hyo hG hGi (fun t up tu de be td h1 h2 => hS t le up tu de be td h1 k1 k2 h2) (fun t up tu de be td h1 h2 h3 h4 h5 h6 => hU t le up tu de be td h1 h2 k1 k2 h3 h4 (hui t h5) (fun s hs w => h6 s hs (hui' s w))) (fun up tu de be td h1 h2 h3 h4 h5 => ?_) fu
  have g0 := hGi h1 h2
  obtain ⟨g1, g2, g3, g4⟩ := hG g0
  obtain ⟨hbd, h10, hop⟩ := bd_make (P := P) (f := f) (mis := fun g => g ≠ f ∧ le g = 0) n24 hP2 (fun t ht => ⟨(hyt.2 t ht).2.1, (hyt.2 t ht).2.2.2.1⟩) (fun t ht => ⟨(hoc t ht).1, (hoc t ht).2.2⟩) h1 h2 g1 g2 g4 h5
  have hyb := yb_draft (P := P) g0 hyt hbd h4
  obtain ⟨r1, r2, r3⟩ := hR le up tu de be k1 k2 h3 g0 h2 h1 (fun s hs w => h5 s hs (hui' s w)) hbd hyb
  refine y_def118 (n := n) (P := P) (cod := cod) hf hP2 n24 (by rw [k2 5 (by omega)]; exact hl5) pk_us hbd hyb (fun t ht z => ?_) r1 r2 r3
  obtain ⟨g, q1, q2⟩ := (hyt.2 t ht).2.2.2.2 z
  have e := ocf_c (f := f) (P := P) (ln1 := ln1) (Pg := Pg) z q1 q2
  refine ⟨g, q1, q2, (hoc t ht).2.1 z, fun w => ?_, fun w => ?_⟩
  · rw [pk_us, e, if_pos w]
  · have y : ln1 g ≠ 0 := fun x => h5 t ht (Or.inr (Or.inr ⟨z, g, q1, q2, w, (hmis g q1).mpr x⟩))
    rw [if_neg w, if_neg y] at e
    have y' := y
    rw [hln1] at y'
    have hl : ln g ≠ 0 := by rw [← (dp_g y').2]; exact y'
    obtain ⟨_, _, _, _, _, _, l7, l8, l9, _⟩ := hlib g q1 hl
    obtain ⟨y3, y4, y5, y6⟩ := (hly g q1).2 hl
    rw [pk_un (by omega), e]
    exact ⟨y3, l7, l8, l9, y5, y6⟩
end df2
theorem first_eq {p : Nat → Prop} {t u : Nat} (h1 : p t) (h2 : ∀ s, s < t → ¬ p s) (h3 : p u) (h4 : ∀ s, s < u → ¬ p s) : t = u := by
  apply Classical.byContradiction
  intro z
  by_cases w : t < u
  · exact h4 t w h1
  · exact h2 u (by omega) h3
theorem df_rel {f P : Nat} (hf : f < 5) (hP2 : P ≤ 2) (hR : rel f_saidPlace f_instanceCount f_nodeCount f_equationCount f_stackCount f_wordCount f_depth f_cellCount f_consCount f_closureCount f_stepCount f_runAnswer f_writtenCount a_kinds a_values a_spans a_bounds a_binders a_lengths a_parameterCounts a_typeCodes a_typeLengths a_instanceFunctions a_nodeKinds a_nodeLefts a_nodeRights a_nodeSizes a_equationLefts a_equationRights a_stackLefts a_stackRights a_words a_boundWords a_cellFirsts a_cellSeconds a_closureTokens a_closureWords a_written yf_place yf_points yf_names yf_textEnd yf_made yf_entry yf_waiting yf_values yf_bound yf_cells yf_conses yf_lams yf_steps yf_atWork yf_end yf_writtenCount ya_kind ya_up ya_turn ya_depth ya_value ya_below ya_length ya_parameters ya_codes ya_codeCount ya_form ya_colour ya_same ya_one ya_two ya_todo ya_numbered ya_text ya_ofFunction ya_codeEnd ya_instance ya_token ya_env ya_tag ya_cellEnv ya_boundNext ya_step ya_boundNumber ya_boundTag ya_headTag ya_tailTag ya_number ya_boundValue ya_head ya_tail ya_written) : wpX_define (fun r u => wpY_define (fun r' v => r' = r ∧ rl u v) (yf_place, yf_points, yf_names, yf_textEnd, yf_made, yf_entry, yf_waiting, yf_values, yf_bound, yf_cells, yf_conses, yf_lams, yf_steps, yf_atWork, yf_end, yf_writtenCount, ya_kind, ya_up, ya_turn, ya_depth, ya_value, ya_below, ya_length, ya_parameters, ya_codes, ya_codeCount, ya_form, ya_colour, ya_same, ya_one, ya_two, ya_todo, ya_numbered, ya_text, ya_ofFunction, ya_codeEnd, ya_instance, ya_token, ya_env, ya_tag, ya_cellEnv, ya_boundNext, ya_step, ya_boundNumber, ya_boundTag, ya_headTag, ya_tailTag, ya_number, ya_boundValue, ya_head, ya_tail, ya_written) (nI f) (nI P)) (f_saidPlace, f_instanceCount, f_nodeCount, f_equationCount, f_stackCount, f_wordCount, f_depth, f_cellCount, f_consCount, f_closureCount, f_stepCount, f_runAnswer, f_writtenCount, a_kinds, a_values, a_spans, a_bounds, a_binders, a_lengths, a_parameterCounts, a_typeCodes, a_typeLengths, a_instanceFunctions, a_nodeKinds, a_nodeLefts, a_nodeRights, a_nodeSizes, a_equationLefts, a_equationRights, a_stackLefts, a_stackRights, a_words, a_boundWords, a_cellFirsts, a_cellSeconds, a_closureTokens, a_closureWords, a_written) (nI f) (nI P) := by
  obtain ⟨hpl, ⟨ln, Pg, kN, vl, oc, sp, bd, bi, cod, hlib, hlx, hly⟩, ⟨n, dk, dv, hd1, hd2, hxt, hyt⟩, hm, hr⟩ := hR
  have h24 : ∀ g, g < 5 → ln g ≤ 24 := fun g hg => (hlx g hg).2.1
  have n24 := hxt.1
  generalize hln1 : dpn kN (vnf vl) (updN ln f 0) 5 = ln1
  have hlib1 : lib ln1 Pg kN vl oc sp bd bi cod := by rw [← hln1]; exact lib_drop hf hlib
  have hg1 : ∀ g, ln1 g ≠ 0 → g ≠ f ∧ ln1 g = ln g := by rw [← hln1]; exact fun g => dp_g
  have h24' : ∀ g, g < 5 → ln1 g ≤ 24 := by
    intro g hg
    by_cases z : ln1 g = 0
    · omega
    · rw [(hg1 g z).2]; exact h24 g hg
  have hoc : ∀ t, t < n → ocf f P ln1 Pg dk dv t ≤ 3 ∧ (dk t = 4 → ocf f P ln1 Pg dk dv t ≤ 2) ∧ (dk t ≠ 4 → ocf f P ln1 Pg dk dv t = ar (dk t)) := fun t ht => ocf_3 hP2 (fun g hg hl => (hlib1 g hg hl).2.2.1) (hxt.2 t ht).2.1 (hxt.2 t ht).2.2.2.2
  have hle0 : ∀ (le : Nat → Int32), (∀ h, h < 5 → le h = nI (ln1 h)) → 0 < n → ∀ g, g < 5 → (upd (upd le f (nI n)) 10 0 g = 0 ↔ g ≠ f ∧ ln1 g = 0) := by
    intro le hle hn0 g hg
    by_cases z : g = f
    · subst z
      rw [pk_un (by omega), pk_us, nI0 (by omega)]
      exact ⟨fun w => by omega, fun w => absurd rfl w.1⟩
    · rw [pk_un (by omega), pk_un z, hle g hg, nI0 (by have := h24' g hg; omega)]
      exact ⟨fun w => ⟨z, w⟩, fun w => w.2⟩
  refine x_define (n := n) (kN := kN) (vN := vnf vl) (ln := ln) (ln1 := ln1) (dk := dk) (dv := dv) (oc := ocf f P ln1 Pg dk dv) (cod := cod) hf hP2 n24 (lib_xl hlib hlx) (fun h hh => (hlx h hh).1) hln1.symm hd1 hxt (fun le hle t ht => ?_) (fun t ht => (hoc t ht).2.1) (fun hcall t ht z g hv hg hne => ?_) (fun t le ki va hxd hsh => ?_) (fun t le ki va spA bo bin s b i hxd hout a1 a2 hbw htr hb0 hb1 ht u1 u2 => ?_) (fun le ki va spA bo bin s b i hxd hout hin a1 a2 htr hb0 hb1 hbd h10 hop hub => ?_)
  · obtain ⟨o1, o2, o3⟩ := hoc t ht
    refine ⟨o1, o3, fun z g hv hg => ?_⟩
    have e0 := hle0 le hle (by omega) g hg
    rw [ocf_c z hg hv]
    by_cases w : g = f
    · subst w
      rw [if_pos rfl, pk_us]
      exact Or.inr ⟨fun x => (e0.mp x).1 rfl, rfl⟩
    · rw [if_neg w, pk_un w]
      by_cases y : ln1 g = 0
      · rw [if_pos y]; exact Or.inl ⟨e0.mpr ⟨w, y⟩, rfl⟩
      · rw [if_neg y]
        exact Or.inr ⟨fun x => y (e0.mp x).2, ((hlx g hg).2.2 (by rw [← (hg1 g y).2]; exact y)).1⟩
  · obtain ⟨g', q1, q2, q3⟩ := hcall (fun h => nI (ln1 h)) t (fun _ _ => rfl) ht z
    have e : g' = g := by rw [q2] at hv; exact (nI_eq (by omega) (by omega)).mp hv
    subst e
    have y : ln1 g' ≠ 0 := fun x => q3 ((hle0 (fun h => nI (ln1 h)) (fun _ _ => rfl) (by omega) g' q1).mpr ⟨hne, x⟩)
    have hl : ln g' ≠ 0 := by rw [← (hg1 g' y).2]; exact y
    obtain ⟨_, _, _, _, _, _, l7, l8, l9, _⟩ := hlib g' q1 hl
    rw [ocf_c z q1 q2, if_neg hne, if_neg y]
    exact ⟨((hlx g' q1).2.2 hl).2.2, l7, l8⟩
  · refine y_def_all (s := fun _ => 0) (b := fun _ => 0) (i := fun _ => 0) (G := False) hf hP2 hlib h24 hly hln1.symm hd2 hyt (fun z => z.elim) (fun w1 w2 => ?_) (fun t' yle up tu de be td hsh' k1 k2 k3 => ?_) (fun t' yle up tu de be td w1 w2 => ?_) (fun yle up tu de be _ _ _ z => z.elim)
    · rcases hsh with ⟨b1, b2, _⟩ | ⟨_, _, b3⟩
      · exact w1 t b1 b2
      · exact b3 w2
    · have e : t' = t := by
        rcases hsh with ⟨b1, b2, b3⟩ | ⟨b1, b2, b3⟩ <;> rcases hsh' with ⟨c1, c2, c3⟩ | ⟨c1, c2, c3⟩
        · exact first_eq (p := fun t => aw (ocf f P ln1 Pg dk dv) t = 0) c2 c3 b2 b3
        · exact absurd b2 (c2 t b1)
        · exact absurd c2 (b2 t' c1)
        · rw [b1, c1]
      subst e
      obtain ⟨B1, B2, B3⟩ := df_bad (spA := a_spans) (bo := a_bounds) (bin := a_binders) hf hlib hlx hly hm hln1.symm (fun j hj => ⟨(hxd.2.2.2 j hj).1, (hxd.2.2.2 j hj).2, rfl, rfl, rfl⟩) hxd.1 hxd.2.1 k3 k1 k2 (nI P) (nI P) (nI n)
      exact ⟨rfl, rfl, B1, B2, B3, hr⟩
    · exfalso
      rcases hsh with ⟨b1, b2, _⟩ | ⟨_, _, b3⟩
      · exact w1 t b1 b2
      · exact b3 w2
  · have hn0 := aw_pos a2
    refine y_def_all (s := s) (b := b) (i := i) (G := True) hf hP2 hlib h24 hly hln1.symm hd2 hyt (fun _ => ⟨hbw, htr, hb1, hb0⟩) (fun _ _ => trivial) (fun t' yle up tu de be td hsh' k1 k2 k3 => ?_) (fun t' yle up tu de be td w1 w2 k1 k2 k3 v1 v2 v3 => ?_) (fun yle up tu de be k1 k2 k3 _ w1 w2 w3 => ?_)
    · exfalso
      rcases hsh' with ⟨b1, b2, _⟩ | ⟨_, _, b3⟩
      · exact a1 t' b1 b2
      · exact b3 a2
    · have e : t' = t := first_eq v2 v3 (ub_iff (fun g hg w => (hle0 le hxd.1 hn0 g hg).mp w) u1) (fun s hs w => u2 s hs (ub_iff (fun g hg w => (hle0 le hxd.1 hn0 g hg).mpr w) w))
      subst e
      obtain ⟨B1, B2, B3⟩ := df_bad hf hlib hlx hly hm hln1.symm (fun j hj => ⟨(hxd.2.2.2 j hj).1, (hxd.2.2.2 j hj).2, hout j hj⟩) hxd.1 hxd.2.1 k3 k1 k2 (nI P) (nI P) (nI n)
      exact ⟨rfl, rfl, B1, B2, B3, hr⟩
    · exact absurd (ub_iff (fun g hg w => (hle0 le hxd.1 hn0 g hg).mp w) u1) (w3 t ht)
  · have hn0 := aw_pos a2
    have hbw := hbd.2.1
    have hh1 : ∀ j, j < f * 24 ∨ f * 24 + 24 ≤ j → ki j = a_kinds j ∧ va j = a_values j ∧ spA j = a_spans j ∧ bo j = a_bounds j ∧ bin j = a_binders j := fun j hj => ⟨(hxd.2.2.2 j hj).1, (hxd.2.2.2 j hj).2, hout j hj⟩
    have hown : ∀ t, t < n → dk t = 4 → (dv t).toNatClampNeg = f → ocf f P ln1 Pg dk dv t = P := by
      intro t _ z w
      unfold ocf
      rw [if_pos z, if_pos w]
    have hdep : ∀ r r' : Nat → mt_T, (∀ p, yl_in n P p → r' p = r p) → S_t (fun _ => True) f dk dv (ocf f P ln1 Pg dk dv) s b i cod n r → S_t (fun _ => True) f dk dv (ocf f P ln1 Pg dk dv) s b i cod n r' := fun r r' e h => S_dep hn0 hbd hb0 hown e (fun _ => trivial) h
    -- Y from here on
    have yy : ∀ {post : Int32 → SY → Prop}, _ → wpY_define post (yf_place, yf_points, yf_names, yf_textEnd, yf_made, yf_entry, yf_waiting, yf_values, yf_bound, yf_cells, yf_conses, yf_lams, yf_steps, yf_atWork, yf_end, yf_writtenCount, ya_kind, ya_up, ya_turn, ya_depth, ya_value, ya_below, ya_length, ya_parameters, ya_codes, ya_codeCount, ya_form, ya_colour, ya_same, ya_one, ya_two, ya_todo, ya_numbered, ya_text, ya_ofFunction, ya_codeEnd, ya_instance, ya_token, ya_env, ya_tag, ya_cellEnv, ya_boundNext, ya_step, ya_boundNumber, ya_boundTag, ya_headTag, ya_tailTag, ya_number, ya_boundValue, ya_head, ya_tail, ya_written) (nI f) (nI P) := fun {post} hh => y_def_all (post := post) (s := s) (b := b) (i := i) (G := True) hf hP2 hlib h24 hly hln1.symm hd2 hyt (fun _ => ⟨hbw, htr, hb1, hb0⟩) (fun _ _ => trivial) (fun t' yle up tu de be td hsh' k1 k2 k3 => by
        exfalso
        rcases hsh' with ⟨b1, b2, _⟩ | ⟨_, _, b3⟩
        · exact a1 t' b1 b2
        · exact b3 a2) (fun t' yle up tu de be td w1 w2 k1 k2 k3 v1 v2 v3 => absurd (ub_iff (fun g hg w => (hle0 le hxd.1 hn0 g hg).mpr w) v2) (hub t' v1)) hh
    refine ⟨fun t N K nl nr sz el er ht e1 e2 => yy (fun yle up tu de be k1 k2 k3 _ _ _ _ _ hyb => ⟨fun t' N' fo sa on tw co td nu ht' e1' e2' => ?_, fun N' Sol c h74 hmg hpj hlar => ?_, fun N' Sol c h74 hmg hpj hlar => ?_⟩),
      fun N Sol c h74 hmg hpj hlar nc K nl nr sz el er => yy (fun yle up tu de be k1 k2 k3 _ _ _ _ _ hyb => ⟨fun t' N' fo sa on tw co td nu ht' e1' e2' => ?_, fun N' Sol' c' h74' hmg' hpj' hlar' => ?_, fun N' Sol' c' h74' hmg' hpj' hlar' => ?_⟩),
      fun N Sol c h74 hmg hpj hlar nc K nl nr sz el er sl sr tc htc1 htc2 => yy (fun yle up tu de be k1 k2 k3 _ _ _ _ _ hyb => ⟨fun t' N' fo sa on tw co td nu ht' e1' e2' => ?_, fun N' Sol' c' h74' hmg' hpj' hlar' => ?_, fun N' Sol' c' h74' hmg' hpj' hlar' => ?_⟩)⟩
    · have e : t' = t := by
        apply Classical.byContradiction
        intro z
        by_cases w : t' < t
        · rcases e1 with y | ⟨r, r1, r2⟩
          · omega
          · exact e2' r r1 (S_mono r2 (by omega))
        · rcases e1' with y | ⟨r, r1, r2⟩
          · omega
          · exact e2 r r1 (S_mono r2 (by omega))
      subst e
      obtain ⟨B1, B2, B3⟩ := df_bad hf hlib hlx hly hm hln1.symm hh1 hxd.1 hxd.2.1 k3 k1 k2 (nI P) (nI P) (nI n)
      exact ⟨rfl, rfl, B1, B2, B3, hr⟩
    · exact absurd (S_mono (hpj.1 c hmg.1 (mg_self hmg)) (by omega)) (e2 c hmg.1)
    · exact absurd (S_mono (hpj.1 c hmg.1 (mg_self hmg)) (by omega)) (e2 c hmg.1)
    · exact absurd (S_mono (hpj.1 c hmg.1 (mg_self hmg)) (by omega)) (e2' c hmg.1)
    · intro pt te nm fo sa on tw co td nu tx
      obtain ⟨B1, B2, B3⟩ := df_bad hf hlib hlx hly hm hln1.symm hh1 hxd.1 hxd.2.1 k3 k1 k2 (nI P) (nI P) (nI n)
      exact ⟨rfl, rfl, B1, B2, B3, hr⟩
    · exfalso
      obtain ⟨p, p1, p2⟩ := hlar
      by_cases z : yl_in n P p
      · have := hlar' p p1 z
        rw [← pj_len (B := 74) h74 h74' hmg hpj hmg' hpj' p p1] at this
        omega
      · have := un_1 h74 hmg hpj hdep p1 z
        omega
    · exact absurd (S_mono (hpj.1 c hmg.1 (mg_self hmg)) (by omega)) (e2' c hmg.1)
    · exfalso
      obtain ⟨p, p1, p2⟩ := hlar'
      have := hlar p p1
      rw [pj_len (B := 74) h74 h74' hmg hpj hmg' hpj' p p1] at this
      omega
    · intro pt te nm fo sa on tw co td nu tx ki' va' up' tu' de' be' cs hyk hcs2 hcs1
      have ec : cn_go [] (mt_encs ((ow_st P).map c')) = cn_go [] (mt_encs ((ow_st P).map c)) := pj_codes h74' h74 hmg' hpj' hmg hpj (ow_st P) (ow_lt hP2)
      have el : (cn_go [] (mt_encs ((ow_st P).map c))).length = (mt_encs ((ow_st P).map c)).length := wr_len false [] _
      have el' : (cn_go [] (mt_encs ((ow_st P).map c))).length = (mt_encs ((ow_st P).map c')).length := by rw [← ec]; exact wr_len false [] _
      have hle : (mt_encs ((ow_st P).map c)).length ≤ 14 * (P + 1) := by
        have := pr_le (c := c) (P := P) (fun p hp => hlar (72 + p) (by omega)) P (Nat.le_refl _)
        have := hlar 0 (by omega)
        rw [ow_enc, List.length_append]; omega
      have hcall : ∀ t, t < n → dk t = 4 → ∃ h, h < 5 ∧ dv t = nI h ∧ (h = f ∧ ocf f P ln1 Pg dk dv t = P ∨ h ≠ f ∧ ln1 h ≠ 0 ∧ ocf f P ln1 Pg dk dv t = Pg h) := by
        intro t ht z
        obtain ⟨g, q1, q2⟩ := (hxt.2 t ht).2.2.2.2 z
        refine ⟨g, q1, q2, ?_⟩
        rw [ocf_c z q1 q2]
        by_cases w : g = f
        · exact Or.inl ⟨w, if_pos w⟩
        · have y : ln1 g ≠ 0 := fun x => hub t ht (Or.inr (Or.inr ⟨z, g, q1, q2, (hle0 le hxd.1 hn0 g q1).mpr ⟨w, x⟩⟩))
          rw [if_neg w, if_neg y]
          exact Or.inr ⟨w, y, rfl⟩
      obtain ⟨B1, B2, B3⟩ := df_ok (cf := cn_go [] (mt_encs ((ow_st P).map c))) (dk := dk) (dv := dv) hf hP2 n24 (by omega) hlib hlx hly hm hln1.symm hh1 hxd.1 hxd.2.1 (fun t ht => ⟨(hxd.2.2.1 t ht).1, (hxd.2.2.1 t ht).2, hin t ht⟩) k3 k1 k2 hbd hb0 h10 hop hcall (cod_ts hmg.1) (by rw [el]; exact hle) (fun k hk => wr_lt (cl := false) (by omega) k hk) (pj_principal h74 hP2 hmg hpj) hyb hyk htc1 (fun k hk => htc2 k (by rw [← el]; exact hk)) hcs1 (fun k hk => by rw [hcs2 k (by rw [← el']; exact hk), ec])
      rw [el] at B1 B3
      rw [← el', el]
      exact ⟨rfl, rfl, B1, B2, B3, hr⟩
end
section
variable {f_saidPlace f_instanceCount f_nodeCount f_equationCount f_stackCount f_wordCount f_depth f_cellCount f_consCount f_closureCount f_stepCount f_runAnswer f_writtenCount : Int32} {a_kinds a_values a_spans a_bounds a_binders a_lengths a_parameterCounts a_typeCodes a_typeLengths a_instanceFunctions a_nodeKinds a_nodeLefts a_nodeRights a_nodeSizes a_equationLefts a_equationRights a_stackLefts a_stackRights a_words a_boundWords a_cellFirsts a_cellSeconds a_closureTokens a_closureWords a_written : Nat → Int32}
theorem li_ext : ∀ (L Q : List Nat), L.length = Q.length → (∀ k, k < L.length → L.getD k 0 = Q.getD k 0) → L = Q := by
  intro L
  induction L with
  | nil => intro Q h _; exact (List.length_eq_zero_iff.mp h.symm).symm
  | cons x L ih =>
    intro Q h hk
    cases Q with
    | nil => simp at h
    | cons y Q =>
      have h0 := hk 0 (by simp)
      rw [List.getD_cons_zero, List.getD_cons_zero] at h0
      rw [h0, ih Q (by simpa using h) (fun k hk' => by have := hk (k + 1) (by simpa using hk'); rwa [List.getD_cons_succ, List.getD_cons_succ] at this)]
theorem cl_gd : ∀ (L : List Nat) (k : Nat), k < L.length → (cl_0 L).getD k 0 = if L.getD k 0 < 10 then L.getD k 0 else 0 := by
  intro L
  induction L with
  | nil => intro k h; simp at h
  | cons x L ih =>
    intro k h
    cases k with
    | zero => rfl
    | succ k =>
      have := ih k (by simpa using h)
      simp only [cl_0, List.map_cons, List.getD_cons_succ] at this ⊢
      exact this
theorem cl_len (L : List Nat) : (cl_0 L).length = L.length := by rw [cl_0, List.length_map]
theorem x_bi2 {post : SX → Prop} {f : Nat} {Lc : List Nat} (hf : f < 5) (hr : rw_ok f a_typeCodes a_typeLengths Lc)
    (hP : ∀ tc : Nat → Int32, (∀ k, k < Lc.length → tc (210 + k) = nI ((cl_0 Lc).getD k 0)) → (∀ j, j < 210 ∨ 252 ≤ j → tc j = a_typeCodes j) → post (f_saidPlace, 1, f_nodeCount, f_equationCount, f_stackCount, f_wordCount, f_depth, f_cellCount, f_consCount, f_closureCount, f_stepCount, f_runAnswer, f_writtenCount, a_kinds, a_values, a_spans, a_bounds, a_binders, a_lengths, a_parameterCounts, tc, (upd a_typeLengths 5 (nI Lc.length)), (upd a_instanceFunctions 0 (nI f)), a_nodeKinds, a_nodeLefts, a_nodeRights, a_nodeSizes, a_equationLefts, a_equationRights, a_stackLefts, a_stackRights, a_words, a_boundWords, a_cellFirsts, a_cellSeconds, a_closureTokens, a_closureWords, a_written)) :
    ∀ q k fu (tc : Nat → Int32), k + q = Lc.length → q < fu → (∀ i, i < k → tc (210 + i) = nI ((cl_0 Lc).getD i 0)) → (∀ j, j < 210 ∨ 252 ≤ j → tc j = a_typeCodes j) → wX_beginInstances_2 post (nI f) f_saidPlace f_instanceCount f_nodeCount f_equationCount f_stackCount f_wordCount f_depth f_cellCount f_consCount f_closureCount f_stepCount f_runAnswer f_writtenCount fu (nI k) a_kinds a_values a_spans a_bounds a_binders a_lengths a_parameterCounts tc a_typeLengths a_instanceFunctions a_nodeKinds a_nodeLefts a_nodeRights a_nodeSizes a_equationLefts a_equationRights a_stackLefts a_stackRights a_words a_boundWords a_cellFirsts a_cellSeconds a_closureTokens a_closureWords a_written := by
  obtain ⟨r1, r2, r3, r4⟩ := hr
  have cf : (nI f).toNatClampNeg = f := nI_clamp (by omega)
  intro q
  induction q with
  | zero =>
    intro k fu tc hk hfu h1 h2
    obtain ⟨fu, rfl⟩ : ∃ g, fu = g + 1 := ⟨fu - 1, by omega⟩
    have e : k = Lc.length := by omega
    subst e
    refine And.intro (pk_in f 18 (by omega)) ?_
    rw [cf, r3]
    exact br_t (nI_le (Nat.le_refl _) (by omega)) (And.intro (pk_in f 18 (by omega)) (nm_e (nm_e (hP tc h1 h2))))
  | succ q ih =>
    intro k fu tc hk hfu h1 h2
    obtain ⟨fu, rfl⟩ : ∃ g, fu = g + 1 := ⟨fu - 1, by omega⟩
    obtain ⟨c1, c2⟩ := r4 k (by omega)
    have e210 : (210 : Int32) + nI k = nI (210 + k) := nI_add 210 k
    have cg := cl_gd Lc k (by omega)
    have fin : ∀ x : Int32, x = nI ((cl_0 Lc).getD k 0) → wX_beginInstances_2 post (nI f) f_saidPlace f_instanceCount f_nodeCount f_equationCount f_stackCount f_wordCount f_depth f_cellCount f_consCount f_closureCount f_stepCount f_runAnswer f_writtenCount fu (nI (k + 1)) a_kinds a_values a_spans a_bounds a_binders a_lengths a_parameterCounts (upd tc (210 + k) x) a_typeLengths a_instanceFunctions a_nodeKinds a_nodeLefts a_nodeRights a_nodeSizes a_equationLefts a_equationRights a_stackLefts a_stackRights a_words a_boundWords a_cellFirsts a_cellSeconds a_closureTokens a_closureWords a_written := by
      intro x hx
      refine ih (k + 1) fu _ (by omega) (by omega) (fun i hi => ?_) (fun j hj => ?_)
      · by_cases z : i = k
        · rw [z, pk_us, hx]
        · rw [pk_un (by omega)]; exact h1 i (by omega)
      · rw [pk_un (by omega)]; exact h2 j hj
    refine And.intro (pk_in f 18 (by omega)) ?_
    rw [cf, r3]
    refine br_f (nI_ge (by omega) (by omega)) (And.intro (pk_in (f * 42 + k) 756 (by omega) (ix_42 f k)) (nm_r (e' := nI (Lc.getD k 0)) (by rw [ix_42, nI_clamp (by omega), h2 _ (by omega), c1]) ?_))
    refine pk_lt (Lc.getD k 0) 10 (fun z => And.intro (pk_in (210 + k) 756 (by omega) e210) (nm_r (e' := upd tc (210 + k) (nI (Lc.getD k 0))) (by rw [e210, nI_clamp (by omega)]) (nm_r (nI_1 k) (fin _ (by rw [cg, if_pos z]))))) (fun z => And.intro (pk_in (210 + k) 756 (by omega) e210) (nm_r (e' := upd tc (210 + k) 0) (by rw [e210, nI_clamp (by omega)]) (nm_r (nI_1 k) (fin _ (by rw [cg, if_neg (by omega)]; rfl)))))
theorem x_beginInstances {post : SX → Prop} {f : Nat} {Lc : List Nat} (hf : f < 5) (hr : rw_ok f a_typeCodes a_typeLengths Lc)
    (hP : ∀ tc : Nat → Int32, (∀ k, k < Lc.length → tc (210 + k) = nI ((cl_0 Lc).getD k 0)) → (∀ j, j < 210 ∨ 252 ≤ j → tc j = a_typeCodes j) → post (f_saidPlace, 1, f_nodeCount, f_equationCount, f_stackCount, f_wordCount, f_depth, f_cellCount, f_consCount, f_closureCount, f_stepCount, f_runAnswer, f_writtenCount, a_kinds, a_values, a_spans, a_bounds, a_binders, a_lengths, a_parameterCounts, tc, (upd a_typeLengths 5 (nI Lc.length)), (upd a_instanceFunctions 0 (nI f)), a_nodeKinds, a_nodeLefts, a_nodeRights, a_nodeSizes, a_equationLefts, a_equationRights, a_stackLefts, a_stackRights, a_words, a_boundWords, a_cellFirsts, a_cellSeconds, a_closureTokens, a_closureWords, a_written)) : wpX_beginInstances post (f_saidPlace, f_instanceCount, f_nodeCount, f_equationCount, f_stackCount, f_wordCount, f_depth, f_cellCount, f_consCount, f_closureCount, f_stepCount, f_runAnswer, f_writtenCount, a_kinds, a_values, a_spans, a_bounds, a_binders, a_lengths, a_parameterCounts, a_typeCodes, a_typeLengths, a_instanceFunctions, a_nodeKinds, a_nodeLefts, a_nodeRights, a_nodeSizes, a_equationLefts, a_equationRights, a_stackLefts, a_stackRights, a_words, a_boundWords, a_cellFirsts, a_cellSeconds, a_closureTokens, a_closureWords, a_written) (nI f) :=
  Exists.intro (Lc.length + 1) (x_bi2 hf hr hP Lc.length 0 (Lc.length + 1) a_typeCodes (by omega) (by omega) (fun i hi => by omega) (fun _ _ => rfl))
/-- the nodes of a CALL: its operands, then itself -/
def ca_st (a : Nat → Nat) (z P : Nat) : List Nat := (List.range P).map a ++ [z]
def ca_s (a : Nat → Nat) (z P : Nat) : Nat → List Nat
  | 0 => [z]
  | q + 1 => a (P - (q + 1)) :: ca_s a z P q
theorem ca_s2 {a : Nat → Nat} {z P : Nat} (h : P ≤ 2) : ca_s a z P P = ca_st a z P := by
  have : P = 0 ∨ P = 1 ∨ P = 2 := by omega
  rcases this with rfl | rfl | rfl <;> rfl
theorem ca_len (a : Nat → Nat) (z P : Nat) : (ca_st a z P).length = P + 1 := by simp [ca_st]
theorem ca_lt {a : Nat → Nat} {z P B : Nat} (ha : ∀ j, j < P → a j < B) (hz : z < B) : ∀ n ∈ ca_st a z P, n < B := by
  intro n hn
  unfold ca_st at hn
  rw [List.mem_append, List.mem_map] at hn
  rcases hn with ⟨j, h, rfl⟩ | h
  · exact ha j (List.mem_range.mp h)
  · simp at h; omega
theorem encs_le {ts : List mt_T} {b : Nat} : (∀ t ∈ ts, (mt_enc t).length ≤ b) → (mt_encs ts).length ≤ b * ts.length := by
  induction ts with
  | nil => intro _; exact Nat.zero_le _
  | cons t ts ih =>
    intro h
    have h1 := h t (by simp)
    have h2 := ih (fun x hx => h x (by simp [hx]))
    simp only [mt_encs, List.length_append, List.length_cons, Nat.mul_add, Nat.mul_one]
    omega
theorem x_wc27 {post : SX → Prop} {f t N P m : Nat} {sp : Nat → Nat} {L R rt ds : Nat → Nat} {c : Nat → mt_T} (hf : f < 5) (ht : t < 24) (h76 : 76 ≤ N) (hN : N ≤ 1126) (hP2 : P ≤ 2) (hm12 : m ≤ 12) (hsp : ∀ j, j < P → jp sp t j < 24 ∧ a_spans (f * 24 + jp sp t j) = nI (sp (jp sp t j)))
    (hg : xg_ok N a_nodeKinds a_nodeLefts a_nodeRights L R rt ds) (hm : mg_is N (gr_sat N a_nodeKinds L R) c) (hv : ∀ n, n < N → a_nodeKinds n = 10 → c n = .leaf (10 + n)) (hl : (mt_encs ((ca_st (jp sp t) t P).map c)).length ≤ 42)
    (hP : ∀ sl sr tc, (∀ j, j < (5 + m) * 42 ∨ (5 + m) * 42 + 42 ≤ j → tc j = a_typeCodes j) → (∀ i, i < (mt_encs ((ca_st (jp sp t) t P).map c)).length → tc ((5 + m) * 42 + i) = nI ((cl_0 (mt_encs ((ca_st (jp sp t) t P).map c))).getD i 0)) →
      post (f_saidPlace, (nI m), f_nodeCount, f_equationCount, (nI 0), f_wordCount, f_depth, f_cellCount, f_consCount, f_closureCount, f_stepCount, f_runAnswer, f_writtenCount, a_kinds, a_values, a_spans, a_bounds, a_binders, a_lengths, a_parameterCounts, tc, (upd a_typeLengths (5 + m) (nI (mt_encs ((ca_st (jp sp t) t P).map c)).length)), a_instanceFunctions, a_nodeKinds, a_nodeLefts, a_nodeRights, a_nodeSizes, a_equationLefts, a_equationRights, sl, sr, a_words, a_boundWords, a_cellFirsts, a_cellSeconds, a_closureTokens, a_closureWords, a_written)) :
    ∀ p fu q (sl sr : Nat → Int32), p + q = P → p < fu → sk_ok N (q + 1) sl (ca_s (jp sp t) t P q) → wX_writeCalledTypes_27 post (nI f) (nI (f * 24 + t)) fu (nI p + (-1)) f_saidPlace (nI m) f_nodeCount f_equationCount (nI (q + 1)) f_wordCount f_depth f_cellCount f_consCount f_closureCount f_stepCount f_runAnswer f_writtenCount a_kinds a_values a_spans a_bounds a_binders a_lengths a_parameterCounts a_typeCodes a_typeLengths a_instanceFunctions a_nodeKinds a_nodeLefts a_nodeRights a_nodeSizes a_equationLefts a_equationRights sl sr a_words a_boundWords a_cellFirsts a_cellSeconds a_closureTokens a_closureWords a_written := by
  intro p
  induction p with
  | zero =>
    intro fu q sl sr hq hfu hs
    obtain ⟨fu, rfl⟩ : ∃ g, fu = g + 1 := ⟨fu - 1, by omega⟩
    have e : q = P := by omega
    subst e
    rw [ca_s2 hP2] at hs
    refine br_t (by decide) ?_
    rw [show (5 : Int32) + nI m = nI (5 + m) from nI_add 5 m]
    refine x_writeRow (cl := true) (c := c) (st := ca_st (jp sp t) t q) (by omega) hN rfl hg hm hv hs hl (fun nl sl' sr' tc q0 q1 q2 => ?_)
    rw [q0 rfl]
    exact hP sl' sr' tc q1 q2
  | succ p ih =>
    intro fu q sl sr hq hfu hs
    obtain ⟨fu, rfl⟩ : ∃ g, fu = g + 1 := ⟨fu - 1, by omega⟩
    rw [pk_m1]
    have hj := hsp p (by omega)
    refine br_f (lt0_n (by omega)) (x_operandAt (B := f * 24) (t := t) (sp := sp) (by omega) (fun i hi => ⟨by have := (hsp i (by omega)).1; omega, (hsp i (by omega)).2⟩) (nm_r (e' := nI (jp sp t p)) (by rw [show nI f * 24 = nI (f * 24) from pk_mul f 24, pk_sub (by omega), Nat.add_sub_cancel_left]) ?_))
    refine x_push (by omega) (nm_e ?_)
    have e : p = P - (q + 1) := by omega
    refine ih fu (q + 1) _ _ (by omega) (by omega) ?_
    show sk_ok N (q + 1 + 1) _ (jp sp t (P - (q + 1)) :: ca_s (jp sp t) t P q)
    rw [← e]
    exact sk_push hs (by omega)
theorem x_writeCalledTypes {post : SX → Prop} {f t N P m : Nat} {sp : Nat → Nat} {L R rt ds : Nat → Nat} {c : Nat → mt_T} (hf : f < 5) (ht : t < 24) (h76 : 76 ≤ N) (hN : N ≤ 1126) (hP2 : P ≤ 2) (hm12 : m ≤ 12) (hsp : ∀ j, j < P → jp sp t j < 24 ∧ a_spans (f * 24 + jp sp t j) = nI (sp (jp sp t j)))
    (hk : a_kinds (f * 24 + t) = nI 4) (hcall : ∃ g, g < 11 ∧ a_values (f * 24 + t) = nI g ∧ (a_lengths g = 0 ∧ P = 0 ∨ a_lengths g ≠ 0 ∧ a_parameterCounts g = nI P))
    (hg : xg_ok N a_nodeKinds a_nodeLefts a_nodeRights L R rt ds) (hm : mg_is N (gr_sat N a_nodeKinds L R) c) (hv : ∀ n, n < N → a_nodeKinds n = 10 → c n = .leaf (10 + n)) (hl : (mt_encs ((ca_st (jp sp t) t P).map c)).length ≤ 42)
    (hP : ∀ sl sr tc, (∀ j, j < (5 + m) * 42 ∨ (5 + m) * 42 + 42 ≤ j → tc j = a_typeCodes j) → (∀ i, i < (mt_encs ((ca_st (jp sp t) t P).map c)).length → tc ((5 + m) * 42 + i) = nI ((cl_0 (mt_encs ((ca_st (jp sp t) t P).map c))).getD i 0)) →
      post (f_saidPlace, (nI m), f_nodeCount, f_equationCount, (nI 0), f_wordCount, f_depth, f_cellCount, f_consCount, f_closureCount, f_stepCount, f_runAnswer, f_writtenCount, a_kinds, a_values, a_spans, a_bounds, a_binders, a_lengths, a_parameterCounts, tc, (upd a_typeLengths (5 + m) (nI (mt_encs ((ca_st (jp sp t) t P).map c)).length)), a_instanceFunctions, a_nodeKinds, a_nodeLefts, a_nodeRights, a_nodeSizes, a_equationLefts, a_equationRights, sl, sr, a_words, a_boundWords, a_cellFirsts, a_cellSeconds, a_closureTokens, a_closureWords, a_written)) :
    wpX_writeCalledTypes post (f_saidPlace, (nI m), f_nodeCount, f_equationCount, f_stackCount, f_wordCount, f_depth, f_cellCount, f_consCount, f_closureCount, f_stepCount, f_runAnswer, f_writtenCount, a_kinds, a_values, a_spans, a_bounds, a_binders, a_lengths, a_parameterCounts, a_typeCodes, a_typeLengths, a_instanceFunctions, a_nodeKinds, a_nodeLefts, a_nodeRights, a_nodeSizes, a_equationLefts, a_equationRights, a_stackLefts, a_stackRights, a_words, a_boundWords, a_cellFirsts, a_cellSeconds, a_closureTokens, a_closureWords, a_written) (nI f) (nI t) := by
  refine nm_r (ix_24 f t) (x_push (h := 0) (by omega) ?_)
  refine x_operandCount (k := 4) (o := P) (by omega) hk (by omega) (fun _ => hcall) (fun z => absurd rfl z) (nm_r (e' := nI P + (-1)) (Int32.sub_eq_add_neg _ _) (Exists.intro (P + 1) ?_))
  refine x_wc27 hf ht h76 hN hP2 hm12 hsp hg hm hv hl hP P (P + 1) 0 _ _ (by omega) (by omega) ⟨rfl, fun n hn => ?_, fun i hi => ?_⟩
  · simp [ca_s] at hn; omega
  · have : i = 0 := by omega
    subst this; rw [pk_us]; rfl
/-- instances, as X holds them -/
def xI (I : List (Nat × List Nat)) (ifn tc tl : Nat → Int32) : Prop := ∀ i, i < I.length → (I.getD i (0, [])).1 < 5 ∧ ifn i = nI (I.getD i (0, [])).1 ∧ rw_ok (5 + i) tc tl (I.getD i (0, [])).2
theorem x_sn31 {post : Int32 → Prop} {r1 r2 : Nat} {L Q : List Nat} (h1 : rw_ok r1 a_typeCodes a_typeLengths L) (h2 : rw_ok r2 a_typeCodes a_typeLengths Q) (hl : L.length = Q.length) (hp1 : L = Q → post 1) (hp0 : L ≠ Q → post 0) :
    ∀ q k fu (x : Int32), k + q = L.length → q < fu → (x = 1 ∧ (∀ i, i < k → L.getD i 0 = Q.getD i 0) ∨ x = 0 ∧ L ≠ Q) → wX_isSameAsNewest_31 post (nI r1) (nI r2) f_saidPlace f_instanceCount f_nodeCount f_equationCount f_stackCount f_wordCount f_depth f_cellCount f_consCount f_closureCount f_stepCount f_runAnswer f_writtenCount a_kinds a_values a_spans a_bounds a_binders a_lengths a_parameterCounts a_typeCodes a_typeLengths a_instanceFunctions a_nodeKinds a_nodeLefts a_nodeRights a_nodeSizes a_equationLefts a_equationRights a_stackLefts a_stackRights a_words a_boundWords a_cellFirsts a_cellSeconds a_closureTokens a_closureWords a_written fu x (nI k) := by
  obtain ⟨a1, a2, a3, a4⟩ := h1
  obtain ⟨b1, b2, b3, b4⟩ := h2
  have c1 : (nI r1).toNatClampNeg = r1 := nI_clamp (by omega)
  intro q
  induction q with
  | zero =>
    intro k fu x hk hfu hx
    obtain ⟨fu, rfl⟩ : ∃ g, fu = g + 1 := ⟨fu - 1, by omega⟩
    have e : k = L.length := by omega
    subst e
    refine And.intro (pk_in r1 18 a1) ?_
    rw [c1, a3]
    rcases hx with ⟨rfl, hx⟩ | ⟨rfl, hx⟩
    · exact br_t (nI_le (Nat.le_refl _) (by omega)) (And.intro bo_1 (hp1 (li_ext L Q hl hx)))
    · exact br_t (nI_le (Nat.le_refl _) (by omega)) (And.intro bo_0 (hp0 hx))
  | succ q ih =>
    intro k fu x hk hfu hx
    obtain ⟨fu, rfl⟩ : ∃ g, fu = g + 1 := ⟨fu - 1, by omega⟩
    obtain ⟨d1, d2⟩ := a4 k (by omega)
    obtain ⟨e1, e2⟩ := b4 k (by omega)
    refine And.intro (pk_in r1 18 a1) ?_
    rw [c1, a3]
    refine br_f (nI_ge (by omega) (by omega)) ?_
    rcases hx with ⟨rfl, hx⟩ | ⟨rfl, hx⟩
    · refine br_f n1_0 (And.intro (pk_in (r1 * 42 + k) 756 (by omega) (ix_42 r1 k)) (And.intro (pk_in (r2 * 42 + k) 756 (by omega) (ix_42 r2 k)) ?_))
      rw [ix_42, ix_42, nI_clamp (n := r1 * 42 + k) (by omega), nI_clamp (n := r2 * 42 + k) (by omega), d1, e1]
      refine pk_eq (L.getD k 0) (Q.getD k 0) (fun z => nm_r (nI_1 k) (ih (k + 1) fu 1 (by omega) (by omega) (Or.inl ⟨rfl, fun i hi => ?_⟩))) (fun z => nm_r (nI_1 k) (ih (k + 1) fu 0 (by omega) (by omega) (Or.inr ⟨rfl, fun w => z (by rw [w])⟩)))
      by_cases y : i = k
      · rw [y]; exact z
      · exact hx i (by omega)
    · exact br_t rfl (And.intro bo_0 (hp0 hx))
theorem x_same {post : Int32 → Prop} {r1 m : Nat} {L Q : List Nat} (h1 : rw_ok r1 a_typeCodes a_typeLengths L) (h2 : rw_ok (5 + m) a_typeCodes a_typeLengths Q) (hp1 : L = Q → post 1) (hp0 : L ≠ Q → post 0) : wpX_isSameAsNewest post (f_saidPlace, (nI m), f_nodeCount, f_equationCount, f_stackCount, f_wordCount, f_depth, f_cellCount, f_consCount, f_closureCount, f_stepCount, f_runAnswer, f_writtenCount, a_kinds, a_values, a_spans, a_bounds, a_binders, a_lengths, a_parameterCounts, a_typeCodes, a_typeLengths, a_instanceFunctions, a_nodeKinds, a_nodeLefts, a_nodeRights, a_nodeSizes, a_equationLefts, a_equationRights, a_stackLefts, a_stackRights, a_words, a_boundWords, a_cellFirsts, a_cellSeconds, a_closureTokens, a_closureWords, a_written) (nI r1) := by
  have a2 := h1.2.1
  have b2 := h2.2.1
  have c1 : (nI r1).toNatClampNeg = r1 := nI_clamp (by have := h1.1; omega)
  have c2 : (nI (5 + m)).toNatClampNeg = 5 + m := nI_clamp (by have := h2.1; omega)
  refine nm_r (e' := nI (5 + m)) (nI_add 5 m) (And.intro (pk_in r1 18 h1.1) (And.intro (pk_in (5 + m) 18 h2.1) ?_))
  rw [c1, c2, h1.2.2.1, h2.2.2.1]
  refine pk_eq L.length Q.length (fun z => Exists.intro (L.length + 1) (x_sn31 h1 h2 z hp1 hp0 L.length 0 (L.length + 1) 1 (by omega) (by omega) (Or.inl ⟨rfl, fun i hi => by omega⟩))) (fun z => Exists.intro (L.length + 1) ?_)
  have hne : L ≠ Q := fun w => z (by rw [w])
  refine And.intro (pk_in r1 18 h1.1) ?_
  rw [c1, h1.2.2.1]
  exact pk_le L.length 0 (fun _ => And.intro bo_0 (hp0 hne)) (fun _ => br_t rfl (And.intro bo_0 (hp0 hne)))
/-- one more instance: known, or new, or too many -/
def ins (I : List (Nat × List Nat)) (x : Nat × List Nat) : Option (List (Nat × List Nat)) := if x ∈ I then some I else if I.length = 12 then none else some (I ++ [x])
theorem mem_gd {α : Type} {d : α} : ∀ {I : List α} {i : Nat}, i < I.length → I.getD i d ∈ I := by
  intro I
  induction I with
  | nil => intro i h; simp at h
  | cons x I ih =>
    intro i h
    cases i with
    | zero => simp
    | succ i => rw [List.getD_cons_succ]; exact List.mem_cons_of_mem _ (ih (by simpa using h))
theorem gd_mem' {α : Type} {d : α} {x : α} : ∀ {I : List α}, x ∈ I → ∃ i, i < I.length ∧ I.getD i d = x := by
  intro I
  induction I with
  | nil => intro h; simp at h
  | cons y I ih =>
    intro h
    rcases List.mem_cons.mp h with z | z
    · exact ⟨0, by simp, by simp [z]⟩
    · obtain ⟨i, a, b⟩ := ih z
      exact ⟨i + 1, by simpa using a, by rw [List.getD_cons_succ]; exact b⟩
theorem xI_app {I : List (Nat × List Nat)} {ifn tc tl : Nat → Int32} {g : Nat} {Q : List Nat} (h : xI I ifn tc tl) (hg : g < 5) (hr : rw_ok (5 + I.length) tc tl Q) : xI (I ++ [(g, Q)]) (upd ifn I.length (nI g)) tc tl := by
  intro i hi
  rw [List.length_append] at hi
  by_cases z : i < I.length
  · rw [gd_l _ _ _ _ z, pk_un (by omega)]; exact h i z
  · have e : i = I.length := by simp at hi; omega
    subst e
    have := gd_r [(g, Q)] (0, []) 0 I
    rw [Nat.zero_add] at this
    rw [this, pk_us]
    exact ⟨hg, rfl, hr⟩
theorem x_ai2 {post : Int32 → SX → Prop} {I : List (Nat × List Nat)} {g : Nat} {Q : List Nat} (hI : xI I a_instanceFunctions a_typeCodes a_typeLengths) (h12 : I.length ≤ 12) (hg : g < 5) (hr : rw_ok (5 + I.length) a_typeCodes a_typeLengths Q)
    (h1 : (g, Q) ∈ I → post 1 (f_saidPlace, (nI I.length), f_nodeCount, f_equationCount, f_stackCount, f_wordCount, f_depth, f_cellCount, f_consCount, f_closureCount, f_stepCount, f_runAnswer, f_writtenCount, a_kinds, a_values, a_spans, a_bounds, a_binders, a_lengths, a_parameterCounts, a_typeCodes, a_typeLengths, a_instanceFunctions, a_nodeKinds, a_nodeLefts, a_nodeRights, a_nodeSizes, a_equationLefts, a_equationRights, a_stackLefts, a_stackRights, a_words, a_boundWords, a_cellFirsts, a_cellSeconds, a_closureTokens, a_closureWords, a_written)) (h2 : ¬ (g, Q) ∈ I → I.length ≠ 12 → post 1 (f_saidPlace, (nI (I.length + 1)), f_nodeCount, f_equationCount, f_stackCount, f_wordCount, f_depth, f_cellCount, f_consCount, f_closureCount, f_stepCount, f_runAnswer, f_writtenCount, a_kinds, a_values, a_spans, a_bounds, a_binders, a_lengths, a_parameterCounts, a_typeCodes, a_typeLengths, (upd a_instanceFunctions I.length (nI g)), a_nodeKinds, a_nodeLefts, a_nodeRights, a_nodeSizes, a_equationLefts, a_equationRights, a_stackLefts, a_stackRights, a_words, a_boundWords, a_cellFirsts, a_cellSeconds, a_closureTokens, a_closureWords, a_written)) (h3 : ¬ (g, Q) ∈ I → I.length = 12 → post 0 (f_saidPlace, (nI I.length), f_nodeCount, f_equationCount, f_stackCount, f_wordCount, f_depth, f_cellCount, f_consCount, f_closureCount, f_stepCount, f_runAnswer, f_writtenCount, a_kinds, a_values, a_spans, a_bounds, a_binders, a_lengths, a_parameterCounts, a_typeCodes, a_typeLengths, a_instanceFunctions, a_nodeKinds, a_nodeLefts, a_nodeRights, a_nodeSizes, a_equationLefts, a_equationRights, a_stackLefts, a_stackRights, a_words, a_boundWords, a_cellFirsts, a_cellSeconds, a_closureTokens, a_closureWords, a_written)) :
    ∀ q i fu, i + q = I.length → q < fu → (∀ k, k < i → I.getD k (0, []) ≠ (g, Q)) → wX_addInstance_2 post (nI g) f_saidPlace (nI I.length) f_nodeCount f_equationCount f_stackCount f_wordCount f_depth f_cellCount f_consCount f_closureCount f_stepCount f_runAnswer f_writtenCount a_kinds a_values a_spans a_bounds a_binders a_lengths a_parameterCounts a_typeCodes a_typeLengths a_instanceFunctions a_nodeKinds a_nodeLefts a_nodeRights a_nodeSizes a_equationLefts a_equationRights a_stackLefts a_stackRights a_words a_boundWords a_cellFirsts a_cellSeconds a_closureTokens a_closureWords a_written fu (nI i) := by
  intro q
  induction q with
  | zero =>
    intro i fu hi hfu hn
    obtain ⟨fu, rfl⟩ : ∃ g, fu = g + 1 := ⟨fu - 1, by omega⟩
    have e : i = I.length := by omega
    subst e
    have hnm : ¬ (g, Q) ∈ I := by
      intro z
      obtain ⟨k, k1, k2⟩ := gd_mem' (d := (0, [])) z
      exact hn k k1 k2
    refine br_t (nI_le (Nat.le_refl _) (by omega)) (pk_eq I.length 12 (fun z => h3 hnm z) (fun z => And.intro (pk_in I.length 12 (by omega)) (nm_r (e' := upd a_instanceFunctions I.length (nI g)) (by rw [nI_clamp (by omega)]) (nm_r (nI_1 I.length) (h2 hnm z)))))
  | succ q ih =>
    intro i fu hi hfu hn
    obtain ⟨fu, rfl⟩ : ∃ g, fu = g + 1 := ⟨fu - 1, by omega⟩
    obtain ⟨a1, a2, a3⟩ := hI i (by omega)
    refine br_f (nI_ge (by omega) (by omega)) (And.intro (pk_in i 12 (by omega)) ?_)
    rw [nI_clamp (n := i) (by omega), a2]
    have next : I.getD i (0, []) ≠ (g, Q) → wX_addInstance_2 post (nI g) f_saidPlace (nI I.length) f_nodeCount f_equationCount f_stackCount f_wordCount f_depth f_cellCount f_consCount f_closureCount f_stepCount f_runAnswer f_writtenCount a_kinds a_values a_spans a_bounds a_binders a_lengths a_parameterCounts a_typeCodes a_typeLengths a_instanceFunctions a_nodeKinds a_nodeLefts a_nodeRights a_nodeSizes a_equationLefts a_equationRights a_stackLefts a_stackRights a_words a_boundWords a_cellFirsts a_cellSeconds a_closureTokens a_closureWords a_written fu (nI (i + 1)) := by
      intro z
      refine ih (i + 1) fu (by omega) (by omega) (fun k hk => ?_)
      by_cases y : k = i
      · rw [y]; exact z
      · exact hn k (by omega)
    refine pk_eq (I.getD i (0, [])).1 g (fun z => ?_) (fun z => nm_r (nI_1 i) (next (fun w => z (by rw [w]))))
    rw [show (5 : Int32) + nI i = nI (5 + i) from nI_add 5 i]
    refine x_same a3 hr (fun w => br_f n1_0 (h1 ?_)) (fun w => br_t rfl (nm_r (nI_1 i) (next (fun y => w (by rw [y])))))
    have : I.getD i (0, []) = (g, Q) := Prod.ext z w
    rw [← this]; exact mem_gd (by omega)
theorem x_addInstance {post : Int32 → SX → Prop} {I : List (Nat × List Nat)} {g : Nat} {Q : List Nat} (hI : xI I a_instanceFunctions a_typeCodes a_typeLengths) (h12 : I.length ≤ 12) (hg : g < 5) (hr : rw_ok (5 + I.length) a_typeCodes a_typeLengths Q)
    (h1 : ∀ I' ifn, ins I (g, Q) = some I' → xI I' ifn a_typeCodes a_typeLengths → I'.length ≤ 12 → post 1 (f_saidPlace, (nI I'.length), f_nodeCount, f_equationCount, f_stackCount, f_wordCount, f_depth, f_cellCount, f_consCount, f_closureCount, f_stepCount, f_runAnswer, f_writtenCount, a_kinds, a_values, a_spans, a_bounds, a_binders, a_lengths, a_parameterCounts, a_typeCodes, a_typeLengths, ifn, a_nodeKinds, a_nodeLefts, a_nodeRights, a_nodeSizes, a_equationLefts, a_equationRights, a_stackLefts, a_stackRights, a_words, a_boundWords, a_cellFirsts, a_cellSeconds, a_closureTokens, a_closureWords, a_written)) (h0 : ins I (g, Q) = none → post 0 (f_saidPlace, (nI I.length), f_nodeCount, f_equationCount, f_stackCount, f_wordCount, f_depth, f_cellCount, f_consCount, f_closureCount, f_stepCount, f_runAnswer, f_writtenCount, a_kinds, a_values, a_spans, a_bounds, a_binders, a_lengths, a_parameterCounts, a_typeCodes, a_typeLengths, a_instanceFunctions, a_nodeKinds, a_nodeLefts, a_nodeRights, a_nodeSizes, a_equationLefts, a_equationRights, a_stackLefts, a_stackRights, a_words, a_boundWords, a_cellFirsts, a_cellSeconds, a_closureTokens, a_closureWords, a_written)) : wpX_addInstance post (f_saidPlace, (nI I.length), f_nodeCount, f_equationCount, f_stackCount, f_wordCount, f_depth, f_cellCount, f_consCount, f_closureCount, f_stepCount, f_runAnswer, f_writtenCount, a_kinds, a_values, a_spans, a_bounds, a_binders, a_lengths, a_parameterCounts, a_typeCodes, a_typeLengths, a_instanceFunctions, a_nodeKinds, a_nodeLefts, a_nodeRights, a_nodeSizes, a_equationLefts, a_equationRights, a_stackLefts, a_stackRights, a_words, a_boundWords, a_cellFirsts, a_cellSeconds, a_closureTokens, a_closureWords, a_written) (nI g) := by
  refine Exists.intro (I.length + 1) (x_ai2 hI h12 hg hr (fun z => h1 I a_instanceFunctions (by unfold ins; rw [if_pos z]) hI h12) (fun z w => ?_) (fun z w => h0 (by unfold ins; rw [if_neg z, if_pos w])) I.length 0 (I.length + 1) (by omega) (by omega) (fun k hk => by omega))
  have := h1 (I ++ [(g, Q)]) (upd a_instanceFunctions I.length (nI g)) (by unfold ins; rw [if_neg z, if_neg w]) (xI_app hI hg hr) (by rw [List.length_append]; simp; omega)
  rw [List.length_append] at this
  exact this
end
section
variable {f_saidPlace f_instanceCount f_nodeCount f_equationCount f_stackCount f_wordCount f_depth f_cellCount f_consCount f_closureCount f_stepCount f_runAnswer f_writtenCount : Int32} {a_kinds a_values a_spans a_bounds a_binders a_lengths a_parameterCounts a_typeCodes a_typeLengths a_instanceFunctions a_nodeKinds a_nodeLefts a_nodeRights a_nodeSizes a_equationLefts a_equationRights a_stackLefts a_stackRights a_words a_boundWords a_cellFirsts a_cellSeconds a_closureTokens a_closureWords a_written : Nat → Int32}
/-- the CALLs of a body, one after the other -/
def fld (kN vN : Nat → Nat) (q : Nat → List Nat) : Nat → Nat → List (Nat × List Nat) → Option (List (Nat × List Nat))
  | 0, _, I => some I
  | m + 1, t, I => if kN t = 4 then (match ins I (vN t, q t) with
    | none => none
    | some I' => fld kN vN q m (t + 1) I') else fld kN vN q m (t + 1) I
theorem ins_ext {I I' : List (Nat × List Nat)} {x : Nat × List Nat} (h : ins I x = some I') : ∃ J, I' = I ++ J ∧ ∀ y ∈ J, y = x := by
  unfold ins at h
  by_cases z : x ∈ I
  · rw [if_pos z] at h; injection h with h; exact ⟨[], by rw [h, List.append_nil], by simp⟩
  · rw [if_neg z] at h
    by_cases w : I.length = 12
    · rw [if_pos w] at h; cases h
    · rw [if_neg w] at h; injection h with h; exact ⟨[x], h.symm, by simp⟩
theorem fld_ext {kN vN : Nat → Nat} {q : Nat → List Nat} {p : Nat × List Nat → Prop} : ∀ m t I I', (∀ s, t ≤ s → s < t + m → kN s = 4 → p (vN s, q s)) → fld kN vN q m t I = some I' → ∃ J, I' = I ++ J ∧ ∀ y ∈ J, p y := by
  intro m
  induction m with
  | zero => intro t I I' _ h; rw [fld] at h; injection h with h; exact ⟨[], by rw [h, List.append_nil], by simp⟩
  | succ m ih =>
    intro t I I' hp h
    rw [fld] at h
    by_cases z : kN t = 4
    · rw [if_pos z] at h
      cases e : ins I (vN t, q t) with
      | none => rw [e] at h; cases h
      | some I1 =>
        rw [e] at h
        obtain ⟨J1, a1, b1⟩ := ins_ext e
        obtain ⟨J2, a2, b2⟩ := ih (t + 1) I1 I' (fun s h1 h2 => hp s (by omega) (by omega)) h
        refine ⟨J1 ++ J2, by rw [a2, a1, List.append_assoc], fun y hy => ?_⟩
        rcases List.mem_append.mp hy with w | w
        · rw [b1 y w]; exact hp t (by omega) (by omega) z
        · exact b2 y w
    · rw [if_neg z] at h
      exact ih (t + 1) I I' (fun s h1 h2 => hp s (by omega) (by omega)) h
theorem xI_row {I : List (Nat × List Nat)} {ifn tc tl tc' tl' : Nat → Int32} (h : xI I ifn tc tl) (h1 : ∀ j, j < (5 + I.length) * 42 → tc' j = tc j) (h2 : ∀ j, j < 5 + I.length → tl' j = tl j) : xI I ifn tc' tl' := by
  intro i hi
  obtain ⟨a, b, r1, r2, r3, r4⟩ := h i hi
  refine ⟨a, b, r1, r2, by rw [h2 _ (by omega)]; exact r3, fun k hk => ?_⟩
  rw [h1 _ (by omega)]; exact r4 k hk
/-- rows of the functions' own types stay -/
def lw_same (tc tl tc' tl' : Nat → Int32) : Prop := (∀ j, j < 210 → tc' j = tc j) ∧ ∀ j, j < 5 → tl' j = tl j
theorem x_ac4 {post : Int32 → SX → Prop} {f n N : Nat} {kN vN : Nat → Nat} {oc sp : Nat → Nat} {L R rt ds : Nat → Nat} {c : Nat → mt_T} {tc0 tl0 : Nat → Int32} {RS : Option (List (Nat × List Nat))} (hf : f < 5) (hn : n ≤ 24) (hl : a_lengths f = nI n) (h76 : 76 ≤ N) (hN : N ≤ 1126)
    (hb : ∀ t, t < n → a_kinds (f * 24 + t) = nI (kN t) ∧ kN t ≤ 16 ∧ (kN t = 4 → vN t < 5 ∧ a_values (f * 24 + t) = nI (vN t) ∧ oc t ≤ 2 ∧ a_lengths (vN t) ≠ 0 ∧ a_parameterCounts (vN t) = nI (oc t) ∧ ∀ j, j < oc t → jp sp t j < n ∧ a_spans (f * 24 + jp sp t j) = nI (sp (jp sp t j))))
    (hg : xg_ok N a_nodeKinds a_nodeLefts a_nodeRights L R rt ds) (hm : mg_is N (gr_sat N a_nodeKinds L R) c) (hv : ∀ n, n < N → a_nodeKinds n = 10 → c n = .leaf (10 + n)) (h14 : ∀ p, p < 74 → (mt_enc (c p)).length ≤ 14)
    (hP1 : ∀ I' sc ifn tc tl sl sr, RS = some I' → xI I' ifn tc tl → I'.length ≤ 12 → lw_same tc0 tl0 tc tl → post 1 (f_saidPlace, (nI I'.length), f_nodeCount, f_equationCount, sc, f_wordCount, f_depth, f_cellCount, f_consCount, f_closureCount, f_stepCount, f_runAnswer, f_writtenCount, a_kinds, a_values, a_spans, a_bounds, a_binders, a_lengths, a_parameterCounts, tc, tl, ifn, a_nodeKinds, a_nodeLefts, a_nodeRights, a_nodeSizes, a_equationLefts, a_equationRights, sl, sr, a_words, a_boundWords, a_cellFirsts, a_cellSeconds, a_closureTokens, a_closureWords, a_written))
    (hP0 : ∀ ic sc ifn tc tl sl sr, RS = none → lw_same tc0 tl0 tc tl → post 0 (f_saidPlace, ic, f_nodeCount, f_equationCount, sc, f_wordCount, f_depth, f_cellCount, f_consCount, f_closureCount, f_stepCount, f_runAnswer, f_writtenCount, a_kinds, a_values, a_spans, a_bounds, a_binders, a_lengths, a_parameterCounts, tc, tl, ifn, a_nodeKinds, a_nodeLefts, a_nodeRights, a_nodeSizes, a_equationLefts, a_equationRights, sl, sr, a_words, a_boundWords, a_cellFirsts, a_cellSeconds, a_closureTokens, a_closureWords, a_written)) :
    ∀ m t fu I sc ifn tc tl sl sr, t + m = n → m < fu → xI I ifn tc tl → I.length ≤ 12 → lw_same tc0 tl0 tc tl → fld kN vN (fun t => cl_0 (mt_encs ((ca_st (jp sp t) t (oc t)).map c))) m t I = RS →
      wX_addCalledInstances_4 post (nI f) fu 1 (nI t) f_saidPlace (nI I.length) f_nodeCount f_equationCount sc f_wordCount f_depth f_cellCount f_consCount f_closureCount f_stepCount f_runAnswer f_writtenCount a_kinds a_values a_spans a_bounds a_binders a_lengths a_parameterCounts tc tl ifn a_nodeKinds a_nodeLefts a_nodeRights a_nodeSizes a_equationLefts a_equationRights sl sr a_words a_boundWords a_cellFirsts a_cellSeconds a_closureTokens a_closureWords a_written := by
  intro m
  induction m with
  | zero =>
    intro t fu I sc ifn tc tl sl sr ht hfu hI h12 hlw hR
    obtain ⟨fu, rfl⟩ : ∃ g, fu = g + 1 := ⟨fu - 1, by omega⟩
    have e : t = n := by omega
    subst e
    refine And.intro (pk_in f 11 (by omega)) ?_
    rw [nI_clamp (n := f) (by omega), hl]
    exact br_t (nI_le (Nat.le_refl _) (by omega)) (And.intro bo_1 (hP1 I sc ifn tc tl sl sr hR.symm hI h12 hlw))
  | succ m ih =>
    intro t fu I sc ifn tc tl sl sr ht hfu hI h12 hlw hR
    obtain ⟨fu, rfl⟩ : ∃ g, fu = g + 1 := ⟨fu - 1, by omega⟩
    have htn : t < n := by omega
    obtain ⟨b1, b2, b3⟩ := hb t htn
    rw [fld] at hR
    have c24 : (nI (f * 24 + t)).toNatClampNeg = f * 24 + t := nI_clamp (by omega)
    refine And.intro (pk_in f 11 (by omega)) ?_
    rw [nI_clamp (n := f) (by omega), hl]
    refine br_f (nI_ge (by omega) (by omega)) (br_f n1_0 (And.intro (pk_in (f * 24 + t) 264 (by omega) (ix_24 f t)) ?_))
    rw [ix_24, c24, b1]
    refine pk_eq (kN t) 4 (fun z => ?_) (fun z => nm_r (nI_1 t) (ih (t + 1) fu I sc ifn tc tl sl sr (by omega) (by omega) hI h12 hlw (by rw [if_neg z] at hR; exact hR)))
    rw [if_pos z] at hR
    obtain ⟨v1, v2, v3, v4, v5, v6⟩ := b3 z
    have hst : ∀ x ∈ ca_st (jp sp t) t (oc t), x < 24 := ca_lt (fun j hj => by have := (v6 j hj).1; omega) (by omega)
    have hle : (mt_encs ((ca_st (jp sp t) t (oc t)).map c)).length ≤ 42 := by
      have := encs_le (ts := (ca_st (jp sp t) t (oc t)).map c) (b := 14) (fun x hx => by
        obtain ⟨y, hy, rfl⟩ := List.mem_map.mp hx
        exact h14 y (by have := hst y hy; omega))
      rw [List.length_map, ca_len] at this
      omega
    refine x_writeCalledTypes (P := oc t) (sp := sp) (c := c) hf (by omega) h76 hN v3 h12 (fun j hj => ⟨by have := (v6 j hj).1; omega, (v6 j hj).2⟩) (by rw [b1, z]) ⟨vN t, by omega, v2, Or.inr ⟨v4, v5⟩⟩ hg hm hv hle (fun sl' sr' tc' q1 q2 => ?_)
    refine And.intro (pk_in (f * 24 + t) 264 (by omega)) ?_
    rw [v2]
    have hI' : xI I ifn tc' (upd tl (5 + I.length) (nI (mt_encs ((ca_st (jp sp t) t (oc t)).map c)).length)) := xI_row hI (fun j hj => q1 j (by omega)) (fun j hj => pk_un (by omega))
    have hlw' : lw_same tc0 tl0 tc' (upd tl (5 + I.length) (nI (mt_encs ((ca_st (jp sp t) t (oc t)).map c)).length)) := ⟨fun j hj => by rw [q1 j (by omega)]; exact hlw.1 j hj, fun j hj => by rw [pk_un (by omega)]; exact hlw.2 j hj⟩
    refine x_addInstance (Q := cl_0 (mt_encs ((ca_st (jp sp t) t (oc t)).map c))) hI' h12 v1 ⟨by omega, by rw [cl_len]; exact hle, by rw [cl_len, pk_us], fun k hk => ?_⟩ (fun I1 ifn1 e1 x1 l1 => ?_) (fun e0 => ?_)
    · rw [cl_len] at hk
      refine ⟨q2 k hk, ?_⟩
      have := cl_gd (mt_encs ((ca_st (jp sp t) t (oc t)).map c)) k hk
      rw [this]; split <;> omega
    · rw [e1] at hR
      exact nm_r (nI_1 t) (ih (t + 1) fu I1 _ ifn1 _ _ sl' sr' (by omega) (by omega) x1 l1 hlw' hR)
    · rw [e0] at hR
      refine nm_r (nI_1 t) ?_
      obtain ⟨fu, rfl⟩ : ∃ g, fu = g + 1 := ⟨fu - 1, by omega⟩
      refine And.intro (pk_in f 11 (by omega)) ?_
      rw [nI_clamp (n := f) (by omega), hl]
      have fin := hP0 (nI I.length) (nI 0) ifn _ _ sl' sr' hR.symm hlw'
      exact pk_le n (t + 1) (fun _ => And.intro bo_0 fin) (fun _ => br_t rfl (And.intro bo_0 fin))
/-- copies of the bodies -/
def kp_ok (ln : Nat → Nat) (P : Nat → Nat → Prop) (ki va spa bou ki' va' spa' bou' : Nat → Int32) : Prop :=
  (∀ g t, P g t → t < ln g → ki' ((5 + g) * 24 + t) = ki (g * 24 + t) ∧ (ki (g * 24 + t) = 4 → va' ((5 + g) * 24 + t) = 5 + va (g * 24 + t)) ∧ (ki (g * 24 + t) ≠ 4 → va' ((5 + g) * 24 + t) = va (g * 24 + t)) ∧ spa' ((5 + g) * 24 + t) = spa (g * 24 + t) ∧ bou' ((5 + g) * 24 + t) = bou (g * 24 + t)) ∧
  (∀ j, j < 120 ∨ 240 ≤ j → ki' j = ki j ∧ va' j = va j ∧ spa' j = spa j ∧ bou' j = bou j)
theorem x_kb37 {post : SX → Prop} {J2 : JX} {f : Nat} {ln : Nat → Nat} {ki0 va0 spa0 bou0 : Nat → Int32} (hf : f < 5) (h24 : ∀ g, g < 5 → ln g ≤ 24) (hl : a_lengths f = nI (ln f))
    (hJ : ∀ ki va spa bou, kp_ok ln (fun g _ => g < f + 1) ki0 va0 spa0 bou0 ki va spa bou → J2 (nI (f + 1)) ki va spa bou a_binders a_lengths a_parameterCounts a_typeCodes a_typeLengths a_instanceFunctions a_nodeKinds a_nodeLefts a_nodeRights a_nodeSizes a_equationLefts a_equationRights a_stackLefts a_stackRights a_words a_boundWords a_cellFirsts a_cellSeconds a_closureTokens a_closureWords a_written) :
    ∀ q t fu ki va spa bou, t + q = ln f → q < fu → kp_ok ln (fun g s => g < f ∨ g = f ∧ s < t) ki0 va0 spa0 bou0 ki va spa bou → wX_keepBodies_37 post J2 (nI f) f_saidPlace f_instanceCount f_nodeCount f_equationCount f_stackCount f_wordCount f_depth f_cellCount f_consCount f_closureCount f_stepCount f_runAnswer f_writtenCount fu (nI t) ki va spa bou a_binders a_lengths a_parameterCounts a_typeCodes a_typeLengths a_instanceFunctions a_nodeKinds a_nodeLefts a_nodeRights a_nodeSizes a_equationLefts a_equationRights a_stackLefts a_stackRights a_words a_boundWords a_cellFirsts a_cellSeconds a_closureTokens a_closureWords a_written := by
  intro q
  induction q with
  | zero =>
    intro t fu ki va spa bou ht hfu h
    obtain ⟨fu, rfl⟩ : ∃ g, fu = g + 1 := ⟨fu - 1, by omega⟩
    have e : t = ln f := by omega
    refine And.intro (pk_in f 11 (by omega)) ?_
    rw [nI_clamp (n := f) (by omega), hl, e]
    refine br_t (nI_le (Nat.le_refl _) (by have := h24 f hf; omega)) (nm_r (nI_1 f) (hJ ki va spa bou ⟨fun g s hg hs => h.1 g s ?_ hs, h.2⟩))
    by_cases z : g = f
    · subst z; exact Or.inr ⟨rfl, by omega⟩
    · exact Or.inl (by omega)
  | succ q ih =>
    intro t fu ki va spa bou ht hfu h
    obtain ⟨fu, rfl⟩ : ∃ g, fu = g + 1 := ⟨fu - 1, by omega⟩
    have n24 := h24 f hf
    have e5 : ((5 : Int32) + nI f) * 24 + nI t = nI ((5 + f) * 24 + t) := by rw [show (5 : Int32) + nI f = nI (5 + f) from nI_add 5 f, ix_24]
    have c1 : (nI (f * 24 + t)).toNatClampNeg = f * 24 + t := nI_clamp (by omega)
    have c2 : (nI ((5 + f) * 24 + t)).toNatClampNeg = (5 + f) * 24 + t := nI_clamp (by omega)
    obtain ⟨o1, o2, o3, o4⟩ := h.2 (f * 24 + t) (by omega)
    have p1 : vp_in (nI (f * 24 + t)) 264 := pk_in (f * 24 + t) 264 (by omega)
    have p2 : vp_in (nI ((5 + f) * 24 + t)) 264 := pk_in ((5 + f) * 24 + t) 264 (by omega)
    have fin : ∀ z0 : Int32, (ki0 (f * 24 + t) = 4 → z0 = 5 + va0 (f * 24 + t)) → (ki0 (f * 24 + t) ≠ 4 → z0 = va0 (f * 24 + t)) →
        wX_keepBodies_110 post J2 (wX_keepBodies_37 post J2 (nI f) f_saidPlace f_instanceCount f_nodeCount f_equationCount f_stackCount f_wordCount f_depth f_cellCount f_consCount f_closureCount f_stepCount f_runAnswer f_writtenCount fu) (nI f) (nI t) (nI (f * 24 + t)) (nI ((5 + f) * 24 + t)) z0 (nI ((5 + f) * 24 + t)) f_saidPlace f_instanceCount f_nodeCount f_equationCount f_stackCount f_wordCount f_depth f_cellCount f_consCount f_closureCount f_stepCount f_runAnswer f_writtenCount (upd ki ((5 + f) * 24 + t) (ki0 (f * 24 + t))) va spa bou a_binders a_lengths a_parameterCounts a_typeCodes a_typeLengths a_instanceFunctions a_nodeKinds a_nodeLefts a_nodeRights a_nodeSizes a_equationLefts a_equationRights a_stackLefts a_stackRights a_words a_boundWords a_cellFirsts a_cellSeconds a_closureTokens a_closureWords a_written := by
      intro z0 w1 w2
      refine And.intro p2 (nm_r (e' := upd va ((5 + f) * 24 + t) z0) (by rw [c2]) (And.intro p1 (And.intro p2 (nm_r (e' := upd spa ((5 + f) * 24 + t) (spa0 (f * 24 + t))) (by rw [c1, c2, o3]) (And.intro p1 (And.intro p2 (nm_r (e' := upd bou ((5 + f) * 24 + t) (bou0 (f * 24 + t))) (by rw [c1, c2, o4]) (nm_r (nI_1 t) (ih (t + 1) fu _ _ _ _ (by omega) (by omega) ⟨fun g s hg hs => ?_, fun j hj => ?_⟩)))))))))
      · have := h24 g (by omega)
        by_cases y : g = f ∧ s = t
        · obtain ⟨rfl, rfl⟩ := y
          rw [pk_us, pk_us, pk_us, pk_us]
          exact ⟨rfl, w1, w2, rfl, rfl⟩
        · rw [pk_un (by omega), pk_un (by omega), pk_un (by omega), pk_un (by omega)]
          exact h.1 g s (by omega) hs
      · rw [pk_un (by omega), pk_un (by omega), pk_un (by omega), pk_un (by omega)]; exact h.2 j hj
    refine And.intro (pk_in f 11 (by omega)) ?_
    rw [nI_clamp (n := f) (by omega), hl]
    refine br_f (nI_ge (by omega) (by omega)) (nm_r (ix_24 f t) (nm_r e5 (And.intro p1 (And.intro p2 (nm_r (e' := upd ki ((5 + f) * 24 + t) (ki0 (f * 24 + t))) (by rw [c1, c2, o1]) (And.intro p1 ?_))))))
    rw [c1, pk_un (by omega), o1, o2]
    exact br_c (fun z => And.intro p1 (fin _ (fun _ => rfl) (fun y => absurd z y))) (fun z => And.intro p1 (fin _ (fun y => absurd y z) (fun _ => rfl)))
theorem x_kb2 {post : SX → Prop} {ln : Nat → Nat} {ki0 va0 spa0 bou0 len0 pc0 : Nat → Int32} (h24 : ∀ g, g < 5 → ln g ≤ 24) (hl0 : ∀ g, g < 5 → len0 g = nI (ln g))
    (hP : ∀ ki va spa bou len pc, kp_ok ln (fun g _ => g < 5) ki0 va0 spa0 bou0 ki va spa bou → (∀ g, g < 5 → len (5 + g) = len0 g ∧ pc (5 + g) = pc0 g) → (∀ j, j < 5 ∨ 10 ≤ j → len j = len0 j ∧ pc j = pc0 j) → post (f_saidPlace, f_instanceCount, f_nodeCount, f_equationCount, f_stackCount, f_wordCount, f_depth, f_cellCount, f_consCount, f_closureCount, f_stepCount, f_runAnswer, f_writtenCount, ki, va, spa, bou, a_binders, len, pc, a_typeCodes, a_typeLengths, a_instanceFunctions, a_nodeKinds, a_nodeLefts, a_nodeRights, a_nodeSizes, a_equationLefts, a_equationRights, a_stackLefts, a_stackRights, a_words, a_boundWords, a_cellFirsts, a_cellSeconds, a_closureTokens, a_closureWords, a_written)) :
    ∀ q f fu ki va spa bou len pc, f + q = 5 → q < fu → kp_ok ln (fun g _ => g < f) ki0 va0 spa0 bou0 ki va spa bou → (∀ g, g < f → len (5 + g) = len0 g ∧ pc (5 + g) = pc0 g) → (∀ j, j < 5 ∨ 10 ≤ j → len j = len0 j ∧ pc j = pc0 j) →
      wX_keepBodies_2 post f_saidPlace f_instanceCount f_nodeCount f_equationCount f_stackCount f_wordCount f_depth f_cellCount f_consCount f_closureCount f_stepCount f_runAnswer f_writtenCount fu (nI f) ki va spa bou a_binders len pc a_typeCodes a_typeLengths a_instanceFunctions a_nodeKinds a_nodeLefts a_nodeRights a_nodeSizes a_equationLefts a_equationRights a_stackLefts a_stackRights a_words a_boundWords a_cellFirsts a_cellSeconds a_closureTokens a_closureWords a_written := by
  intro q
  induction q with
  | zero =>
    intro f fu ki va spa bou len pc hf hfu h1 h2 h3
    obtain ⟨fu, rfl⟩ : ∃ g, fu = g + 1 := ⟨fu - 1, by omega⟩
    have e : f = 5 := by omega
    subst e
    exact br_t (nI_le (a := 5) (by omega) (by omega)) (hP ki va spa bou len pc h1 h2 h3)
  | succ q ih =>
    intro f fu ki va spa bou len pc hf hfu h1 h2 h3
    obtain ⟨fu, rfl⟩ : ∃ g, fu = g + 1 := ⟨fu - 1, by omega⟩
    have e5 : (5 : Int32) + nI f = nI (5 + f) := nI_add 5 f
    have c1 : (nI f).toNatClampNeg = f := nI_clamp (by omega)
    have c2 : (nI (5 + f)).toNatClampNeg = 5 + f := nI_clamp (by omega)
    obtain ⟨o1, o2⟩ := h3 f (by omega)
    have p1 : vp_in (nI f) 11 := pk_in f 11 (by omega)
    have p2 : vp_in (5 + nI f) 11 := pk_in (5 + f) 11 (by omega) e5
    refine br_f (nI_ge (b := 5) (by omega) (by omega)) (And.intro p1 (And.intro p2 (nm_r (e' := upd len (5 + f) (len0 f)) (by rw [e5, c1, c2, o1]) (And.intro p1 (And.intro p2 (nm_r (e' := upd pc (5 + f) (pc0 f)) (by rw [e5, c1, c2, o2]) (Exists.intro (ln f + 1) ?_)))))))
    refine x_kb37 (a_lengths := upd len (5 + f) (len0 f)) (ki0 := ki0) (va0 := va0) (spa0 := spa0) (bou0 := bou0) (ln := ln) (by omega) h24 (by rw [pk_un (by omega), o1]; exact hl0 f (by omega)) (fun ki' va' spa' bou' hk => ?_) (ln f) 0 (ln f + 1) ki va spa bou (by omega) (by omega) ⟨fun g s hg hs => h1.1 g s (by omega) hs, h1.2⟩
    refine ih (f + 1) fu ki' va' spa' bou' _ _ (by omega) (by omega) hk (fun g hg => ?_) (fun j hj => ?_)
    · by_cases z : g = f
      · rw [z, pk_us, pk_us]; exact ⟨rfl, rfl⟩
      · rw [pk_un (by omega), pk_un (by omega)]; exact h2 g (by omega)
    · rw [pk_un (by omega), pk_un (by omega)]; exact h3 j hj
theorem x_keepBodies {post : SX → Prop} {ln : Nat → Nat} (h24 : ∀ g, g < 5 → ln g ≤ 24) (hl0 : ∀ g, g < 5 → a_lengths g = nI (ln g))
    (hP : ∀ ki va spa bou len pc, kp_ok ln (fun g _ => g < 5) a_kinds a_values a_spans a_bounds ki va spa bou → (∀ g, g < 5 → len (5 + g) = a_lengths g ∧ pc (5 + g) = a_parameterCounts g) → (∀ j, j < 5 ∨ 10 ≤ j → len j = a_lengths j ∧ pc j = a_parameterCounts j) → post (f_saidPlace, f_instanceCount, f_nodeCount, f_equationCount, f_stackCount, f_wordCount, f_depth, f_cellCount, f_consCount, f_closureCount, f_stepCount, f_runAnswer, f_writtenCount, ki, va, spa, bou, a_binders, len, pc, a_typeCodes, a_typeLengths, a_instanceFunctions, a_nodeKinds, a_nodeLefts, a_nodeRights, a_nodeSizes, a_equationLefts, a_equationRights, a_stackLefts, a_stackRights, a_words, a_boundWords, a_cellFirsts, a_cellSeconds, a_closureTokens, a_closureWords, a_written)) : wpX_keepBodies post (f_saidPlace, f_instanceCount, f_nodeCount, f_equationCount, f_stackCount, f_wordCount, f_depth, f_cellCount, f_consCount, f_closureCount, f_stepCount, f_runAnswer, f_writtenCount, a_kinds, a_values, a_spans, a_bounds, a_binders, a_lengths, a_parameterCounts, a_typeCodes, a_typeLengths, a_instanceFunctions, a_nodeKinds, a_nodeLefts, a_nodeRights, a_nodeSizes, a_equationLefts, a_equationRights, a_stackLefts, a_stackRights, a_words, a_boundWords, a_cellFirsts, a_cellSeconds, a_closureTokens, a_closureWords, a_written) :=
  Exists.intro 6 (x_kb2 h24 hl0 hP 5 0 6 a_kinds a_values a_spans a_bounds a_lengths a_parameterCounts (by omega) (by omega) ⟨fun g s hg => by omega, fun _ _ => ⟨rfl, rfl, rfl, rfl⟩⟩ (fun g hg => by omega) (fun _ _ => ⟨rfl, rfl⟩))
end
section
variable {f_saidPlace f_instanceCount f_nodeCount f_equationCount f_stackCount f_wordCount f_depth f_cellCount f_consCount f_closureCount f_stepCount f_runAnswer f_writtenCount : Int32} {a_kinds a_values a_spans a_bounds a_binders a_lengths a_parameterCounts a_typeCodes a_typeLengths a_instanceFunctions a_nodeKinds a_nodeLefts a_nodeRights a_nodeSizes a_equationLefts a_equationRights a_stackLefts a_stackRights a_words a_boundWords a_cellFirsts a_cellSeconds a_closureTokens a_closureWords a_written : Nat → Int32}
section mk
variable {ln P : Nat → Nat} {kN : Nat → Nat → Nat} {vl : Nat → Nat → Int32} {oc sp bd bi : Nat → Nat → Nat} {cod : Nat → List Nat}
/-- the rules of function g, for the types L -/
def iS (ln P : Nat → Nat) (kN : Nat → Nat → Nat) (vl : Nat → Nat → Int32) (oc sp bd bi : Nat → Nat → Nat) (cod : Nat → List Nat) (g : Nat) (L : List Nat) (r : Nat → mt_T) : Prop :=
  S_t (fun r => sc_inst L ((List.range (P g)).map (fun j => r (72 + j)) ++ [r 0])) g (kN g) (vl g) (oc g) (sp g) (bd g) (bi g) cod (ln g) r
/-- types of the calls in a body, of which c are the types -/
def cq (oc sp : Nat → Nat) (c : Nat → mt_T) (t : Nat) : List Nat := cl_0 (mt_encs ((ca_st (jp sp t) t (oc t)).map c))
/-- making, from instance i on: R all instances, none if something is too large -/
def mk_is (ln P : Nat → Nat) (kN : Nat → Nat → Nat) (vl : Nat → Nat → Int32) (oc sp bd bi : Nat → Nat → Nat) (cod : Nat → List Nat) : Nat → Nat → List (Nat × List Nat) → Option (List (Nat × List Nat)) → Prop
  | 0, _, _, _ => False
  | k + 1, i, I, R => (I.length ≤ i ∧ R = some I) ∨ (i < I.length ∧ ∃ (N : Nat) (Sol : (Nat → mt_T) → Prop) (c : Nat → mt_T), 74 ≤ N ∧ mg_is N Sol c ∧ pj_is 74 Sol (iS ln P kN vl oc sp bd bi cod (I.getD i (0, [])).1 (I.getD i (0, [])).2) ∧
      ((∃ p, p < 74 ∧ 14 < (mt_enc (c p)).length) ∧ R = none ∨ (∀ p, p < 74 → (mt_enc (c p)).length ≤ 14) ∧
        (fld (kN (I.getD i (0, [])).1) (vnf vl (I.getD i (0, [])).1) (cq (oc (I.getD i (0, [])).1) (sp (I.getD i (0, [])).1) c) (ln (I.getD i (0, [])).1) 0 I = none ∧ R = none ∨
         ∃ I', fld (kN (I.getD i (0, [])).1) (vnf vl (I.getD i (0, [])).1) (cq (oc (I.getD i (0, [])).1) (sp (I.getD i (0, [])).1) c) (ln (I.getD i (0, [])).1) 0 I = some I' ∧ mk_is ln P kN vl oc sp bd bi cod k (i + 1) I' R)))
/-- an instance that a function can have -/
def in_ok (ln P : Nat → Nat) (cod : Nat → List Nat) (x : Nat × List Nat) : Prop := x.1 < 5 ∧ ln x.1 ≠ 0 ∧ x.2.length ≤ 14 * (P x.1 + 1) ∧ (∀ k, k < x.2.length → x.2.getD k 0 < 60) ∧ ∃ ts, (∀ t ∈ ts, mt_wf t) ∧ mt_encs ts = x.2 ∧ ts.length = P x.1 + 1 ∧ sc_inst (cod x.1) ts
theorem sc_self {ts : List mt_T} (hw : ∀ t ∈ ts, mt_wf t) : sc_inst (mt_encs ts) ts :=
  ⟨ts, hw, rfl, fun v => .leaf (10 + v), fun v => mt_wfv v, by rw [show (mt_sub fun v => .leaf (10 + v)) = id from funext mt_sub_id, List.map_id]⟩
/-- it has types -/
theorem in_sol (hlib : lib ln P kN vl oc sp bd bi cod) {x : Nat × List Nat} (h : in_ok ln P cod x) : ∃ r, (∀ n, mt_wf (r n)) ∧ iS ln P kN vl oc sp bd bi cod x.1 x.2 r := by
  obtain ⟨h1, h2, _, _, ts, h3, h4, h5, h6⟩ := h
  obtain ⟨r, r1, r2, r3⟩ := ((hlib x.1 h1 h2).2.2.2.2.2.2.2.2.2 ts).mp h6
  refine ⟨r, r1, ?_, r2.2⟩
  show sc_inst x.2 _
  rw [sc_ow, ← r3, ← h4]
  exact sc_self h3
/-- the instance of a call -/
theorem in_call (hlib : lib ln P kN vl oc sp bd bi cod) {x : Nat × List Nat} (h : in_ok ln P cod x) {N : Nat} {Sol : (Nat → mt_T) → Prop} {c : Nat → mt_T} (hm : mg_is N Sol c) (hp : pj_is 74 Sol (iS ln P kN vl oc sp bd bi cod x.1 x.2)) (h14 : ∀ p, p < 74 → (mt_enc (c p)).length ≤ 14)
    {t : Nat} (ht : t < ln x.1) (k4 : kN x.1 t = 4) : in_ok ln P cod (vnf vl x.1 t, cq (oc x.1) (sp x.1) c t) := by
  obtain ⟨h1, h2, _⟩ := h
  obtain ⟨l1, l2, l3, l4, l5, l6, l7, l8, l9, l10⟩ := hlib x.1 h1 h2
  obtain ⟨g, g1, g2, g3, g4⟩ := l6 t ht k4
  have ev : vnf vl x.1 t = g := by unfold vnf; rw [g2, nI_clamp (by omega)]
  have n24 := l1.1
  have hst : ∀ y ∈ ca_st (jp (sp x.1) t) t (oc x.1 t), y < 24 := ca_lt (fun j hj => by have := (bw_in l1.2.1 ht hj).2.2; omega) (by omega)
  have hlen : (mt_encs ((ca_st (jp (sp x.1) t) t (oc x.1 t)).map c)).length ≤ 14 * (P g + 1) := by
    have := encs_le (ts := (ca_st (jp (sp x.1) t) t (oc x.1 t)).map c) (b := 14) (fun y hy => by
      obtain ⟨z, hz, rfl⟩ := List.mem_map.mp hy
      exact h14 z (by have := hst z hz; omega))
    rw [List.length_map, ca_len] at this
    rw [← g4]; exact this
  have hwm : ∀ y ∈ (ca_st (jp (sp x.1) t) t (oc x.1 t)).map c, mt_wf y := by
    intro y hy
    obtain ⟨z, _, rfl⟩ := List.mem_map.mp hy
    exact hm.1 z
  have hr0 := hm.2.1 (fun _ => .leaf 0) (fun _ => mt_wf0)
  have hw0 : ∀ n, mt_wf (mt_sub (fun _ => .leaf 0) (c n)) := fun n => mt_sub_wf (fun _ => mt_wf0) _ (hm.1 n)
  have hS := hp.1 _ hw0 hr0
  have hru := hS.2 t ht
  rw [ev]
  unfold cq
  refine ⟨g1, g3, by rw [cl_len]; exact hlen, fun k hk => ?_, ((ca_st (jp (sp x.1) t) t (oc x.1 t)).map c).map (mt_sub (fun _ => .leaf 0)), fun y hy => ?_, cl_encs _ hwm, by rw [List.length_map, List.length_map, ca_len, g4], ?_⟩
  · rw [cl_len] at hk
    show (cl_0 (mt_encs ((ca_st (jp (sp x.1) t) t (oc x.1 t)).map c))).getD k 0 < 60
    rw [cl_gd _ k hk]; split <;> omega
  · obtain ⟨z, hz, rfl⟩ := List.mem_map.mp hy
    exact mt_sub_wf (fun _ => mt_wf0) _ (hwm z hz)
  · show sc_inst (cod g) _
    unfold ru_t at hru
    rw [k4, g2, nI_clamp (by omega)] at hru
    have e : ((ca_st (jp (sp x.1) t) t (oc x.1 t)).map c).map (mt_sub (fun _ => .leaf 0)) = (List.range (oc x.1 t)).map (fun j => mt_sub (fun _ => .leaf 0) (c (jp (sp x.1) t j))) ++ [mt_sub (fun _ => .leaf 0) (c t)] := by
      unfold ca_st; simp [List.map_map, Function.comp_def]
    rw [e]
    by_cases w : g = x.1
    · rw [decide_eq_true w] at hru
      obtain ⟨a, b⟩ := hru
      dsimp only at a b
      have e2 : (List.range (oc x.1 t)).map (fun j => mt_sub (fun _ => .leaf 0) (c (jp (sp x.1) t j))) = (List.range (P g)).map (fun j => mt_sub (fun _ => .leaf 0) (c (72 + j))) := by
        rw [← g4]
        exact List.map_congr_left (fun j hj => a j (List.mem_range.mp hj))
      rw [e2, b, sc_ow (P := P g) (fun n => mt_sub (fun _ => .leaf 0) (c n)), w]
      exact (l10 _).mpr ⟨fun n => mt_sub (fun _ => .leaf 0) (c n), hw0, ⟨trivial, hS.2⟩, rfl⟩
    · rw [decide_eq_false w] at hru
      exact hru
theorem lx_row {ki va spa bou bin len pc tc tl tc' tl' : Nat → Int32} (h : lx_ok ln P kN vl sp bd bi cod ki va spa bou bin len pc tc tl) (hs : lw_same tc tl tc' tl') : lx_ok ln P kN vl sp bd bi cod ki va spa bou bin len pc tc' tl' := by
  intro g hg
  obtain ⟨a, b, c⟩ := h g hg
  refine ⟨a, b, fun hl => ?_⟩
  obtain ⟨d, e, r1, r2, r3, r4⟩ := c hl
  refine ⟨d, e, r1, r2, by rw [hs.2 g hg]; exact r3, fun k hk => ?_⟩
  rw [hs.1 _ (by omega)]; exact r4 k hk
theorem x_mk0 {post : Int32 → SX → Prop} {fu : Nat} {x3 : Int32} (h : wX_make_102 post 0 f_saidPlace f_instanceCount f_nodeCount f_equationCount f_stackCount f_wordCount f_depth f_cellCount f_consCount f_closureCount f_stepCount f_runAnswer f_writtenCount a_kinds a_values a_spans a_bounds a_binders a_lengths a_parameterCounts a_typeCodes a_typeLengths a_instanceFunctions a_nodeKinds a_nodeLefts a_nodeRights a_nodeSizes a_equationLefts a_equationRights a_stackLefts a_stackRights a_words a_boundWords a_cellFirsts a_cellSeconds a_closureTokens a_closureWords a_written) : wX_make_38 post (fu + 1) 0 x3 f_saidPlace f_instanceCount f_nodeCount f_equationCount f_stackCount f_wordCount f_depth f_cellCount f_consCount f_closureCount f_stepCount f_runAnswer f_writtenCount a_kinds a_values a_spans a_bounds a_binders a_lengths a_parameterCounts a_typeCodes a_typeLengths a_instanceFunctions a_nodeKinds a_nodeLefts a_nodeRights a_nodeSizes a_equationLefts a_equationRights a_stackLefts a_stackRights a_words a_boundWords a_cellFirsts a_cellSeconds a_closureTokens a_closureWords a_written :=
  br_c (fun _ => h) (fun _ => br_c (fun _ => h) (fun _ => br_t rfl h))
theorem x_mk38 {post : Int32 → SX → Prop} {tc0 tl0 : Nat → Int32} {i0 : Nat} {I0 : List (Nat × List Nat)} (hlib : lib ln P kN vl oc sp bd bi cod) (hlx : lx_ok ln P kN vl sp bd bi cod a_kinds a_values a_spans a_bounds a_binders a_lengths a_parameterCounts tc0 tl0)
    (hP1 : ∀ I' nc ec sc ifn tc tl K nl nr sz el er sl sr, mk_is ln P kN vl oc sp bd bi cod 13 i0 I0 (some I') → xI I' ifn tc tl → I'.length ≤ 12 → lw_same tc0 tl0 tc tl →
      wX_make_102 post 1 f_saidPlace (nI I'.length) nc ec sc f_wordCount f_depth f_cellCount f_consCount f_closureCount f_stepCount f_runAnswer f_writtenCount a_kinds a_values a_spans a_bounds a_binders a_lengths a_parameterCounts tc tl ifn K nl nr sz el er sl sr a_words a_boundWords a_cellFirsts a_cellSeconds a_closureTokens a_closureWords a_written)
    (hP0 : ∀ ic nc ec sc ifn tc tl K nl nr sz el er sl sr, mk_is ln P kN vl oc sp bd bi cod 13 i0 I0 none → lw_same tc0 tl0 tc tl →
      wX_make_102 post 0 f_saidPlace ic nc ec sc f_wordCount f_depth f_cellCount f_consCount f_closureCount f_stepCount f_runAnswer f_writtenCount a_kinds a_values a_spans a_bounds a_binders a_lengths a_parameterCounts tc tl ifn K nl nr sz el er sl sr a_words a_boundWords a_cellFirsts a_cellSeconds a_closureTokens a_closureWords a_written) :
    ∀ k i fu I nc ec sc ifn tc tl K nl nr sz el er sl sr, i + k = 12 → k + 1 < fu → xI I ifn tc tl → I.length ≤ 12 → (∀ x ∈ I, in_ok ln P cod x) → lw_same tc0 tl0 tc tl → (∀ R, mk_is ln P kN vl oc sp bd bi cod (k + 1) i I R → mk_is ln P kN vl oc sp bd bi cod 13 i0 I0 R) →
      wX_make_38 post fu 1 (nI i) f_saidPlace (nI I.length) nc ec sc f_wordCount f_depth f_cellCount f_consCount f_closureCount f_stepCount f_runAnswer f_writtenCount a_kinds a_values a_spans a_bounds a_binders a_lengths a_parameterCounts tc tl ifn K nl nr sz el er sl sr a_words a_boundWords a_cellFirsts a_cellSeconds a_closureTokens a_closureWords a_written := by
  intro k
  induction k with
  | zero =>
    intro i fu I nc ec sc ifn tc tl K nl nr sz el er sl sr hi hfu hI h12 hok hlw hmk
    obtain ⟨fu, rfl⟩ : ∃ g, fu = g + 1 := ⟨fu - 1, by omega⟩
    exact br_t (nI_le (a := 12) (by omega) (by omega)) (hP1 I nc ec sc ifn tc tl K nl nr sz el er sl sr (hmk _ (Or.inl ⟨by omega, rfl⟩)) hI h12 hlw)
  | succ k ih =>
    intro i fu I nc ec sc ifn tc tl K nl nr sz el er sl sr hi hfu hI h12 hok hlw hmk
    obtain ⟨fu, rfl⟩ : ∃ g, fu = g + 1 := ⟨fu - 1, by omega⟩
    refine br_f (nI_ge (b := 12) (by omega) (by omega)) (pk_le I.length i (fun z => hP1 I nc ec sc ifn tc tl K nl nr sz el er sl sr (hmk _ (Or.inl ⟨z, rfl⟩)) hI h12 hlw) (fun z => br_f n1_0 (And.intro (pk_in i 12 (by omega)) ?_)))
    have hx := hok _ (mem_gd (d := (0, [])) z)
    obtain ⟨a1, a2, a3⟩ := hI i z
    generalize hgx : I.getD i (0, []) = x at *
    obtain ⟨h1, h2, h3, h60, ts, h4, h5, h6, h7⟩ := hx
    have hx : in_ok ln P cod x := ⟨h1, h2, h3, h60, ts, h4, h5, h6, h7⟩
    have hlx' := lx_row hlx hlw
    obtain ⟨l1, l2, l3, l4, l5, l6, l7, l8, l9, l10⟩ := hlib x.1 h1 h2
    have n24 := l1.1
    refine nm_r (e' := nI x.1) (by rw [nI_clamp (by omega), a2]) ?_
    rw [show (5 : Int32) + nI i = nI (5 + i) from nI_add 5 i]
    refine x_illi (f_nodeCount := nc) (f_equationCount := ec) (a_nodeKinds := K) (a_nodeLefts := nl) (a_nodeRights := nr) (a_nodeSizes := sz) (a_equationLefts := el) (a_equationRights := er) (f := x.1) (n := ln x.1) (P := P x.1) (Lc := x.2) (ts := ts) h1 (by omega) (hlx' x.1 h1).1 (lib_xb hlib hlx' h1 h2) (lib_fn hlib hlx' h1 h2) l3 ((hlx' x.1 h1).2.2 h2).1 a3 h4 h5 h6 (fun N K nl nr sz el er L R rt ds c n1 n2 hg hm hv hz hp h75 => ?_) (in_sol hlib hx)
    obtain ⟨c74, c75⟩ := h75 c hm.1 (mg_self hm)
    refine x_large (N := N) (c := c) n1 hz (fun hbig => br_f n1_0 (nm_e ?_)) (fun hsm => br_t rfl ?_)
    · obtain ⟨fu, rfl⟩ : ∃ g, fu = g + 1 := ⟨fu - 1, by omega⟩
      refine x_mk0 (hP0 _ _ _ _ ifn tc tl K nl nr sz el er sl sr (hmk _ (Or.inr ⟨z, N, _, c, by omega, hm, by rw [hgx]; exact hp, Or.inl ⟨?_, rfl⟩⟩)) hlw)
      obtain ⟨p, p1, p2⟩ := hbig
      by_cases w : p < 74
      · exact ⟨p, w, p2⟩
      · exfalso
        have : p = 74 ∨ p = 75 := by omega
        rcases this with rfl | rfl
        · rw [c74] at p2; simp [mt_enc] at p2
        · rw [c75] at p2; simp [mt_enc] at p2
    · have h14 : ∀ p, p < 74 → (mt_enc (c p)).length ≤ 14 := fun p hp => hsm p (by omega)
      refine Exists.intro (ln x.1 + 1) ?_
      refine x_ac4 (RS := fld (kN x.1) (vnf vl x.1) (cq (oc x.1) (sp x.1) c) (ln x.1) 0 I) (tc0 := tc0) (tl0 := tl0) (n := ln x.1) (kN := kN x.1) (vN := vnf vl x.1) (oc := oc x.1) (sp := sp x.1) (c := c) h1 n24 (hlx' x.1 h1).1 n1 (by omega) (fun t ht => ?_) hg hm hv h14 (fun I' sc' ifn' tc' tl' sl' sr' e1 x1 x2 x3 => ?_) (fun ic' sc' ifn' tc' tl' sl' sr' e0 x3 => ?_) (ln x.1) 0 (ln x.1 + 1) I _ ifn tc tl sl sr (by omega) (by omega) hI h12 hlw rfl
      · obtain ⟨y1, y2, y3, y4, y5⟩ := ((hlx' x.1 h1).2.2 h2).2.1 t ht
        refine ⟨y1, (l1.2.2.2.2 t ht).1, fun k4 => ?_⟩
        obtain ⟨g, g1, g2, g3, g4⟩ := l6 t ht k4
        have ev : vnf vl x.1 t = g := by unfold vnf; rw [g2, nI_clamp (by omega)]
        rw [ev]
        obtain ⟨u1, u2, u3⟩ := hlx' g g1
        refine ⟨g1, by rw [y2, g2], by rw [g4]; exact (hlib g g1 g3).2.2.1, by rw [u1]; exact fun w => g3 ((nI0 (by omega)).mp w), by rw [g4]; exact (u3 g3).1, fun j hj => ?_⟩
        have hb := (bw_in l1.2.1 ht hj).2.2
        exact ⟨hb, (((hlx' x.1 h1).2.2 h2).2.1 _ hb).2.2.1⟩
      · refine br_f n1_0 (nm_r (nI_1 i) (ih (i + 1) fu I' _ _ sc' ifn' tc' tl' K nl nr sz el er sl' sr' (by omega) (by omega) x1 x2 (fun y hy => ?_) x3 (fun R hR => hmk R (Or.inr ⟨z, N, _, c, by omega, hm, by rw [hgx]; exact hp, Or.inr ⟨h14, Or.inr ⟨I', by rw [hgx]; exact e1, hR⟩⟩⟩))))
        obtain ⟨J, j1, j2⟩ := fld_ext (p := in_ok ln P cod) (ln x.1) 0 I I' (fun s _ hs k4 => in_call hlib hx hm hp h14 (by omega) k4) e1
        rw [j1] at hy
        rcases List.mem_append.mp hy with w | w
        · exact hok y w
        · exact j2 y w
      · refine br_t rfl (nm_e ?_)
        obtain ⟨fu, rfl⟩ : ∃ g, fu = g + 1 := ⟨fu - 1, by omega⟩
        exact x_mk0 (hP0 _ _ _ sc' ifn' tc' tl' K nl nr sz el er sl' sr' (hmk _ (Or.inr ⟨z, N, _, c, by omega, hm, by rw [hgx]; exact hp, Or.inr ⟨h14, Or.inl ⟨by rw [hgx]; exact e0, rfl⟩⟩⟩)) x3)
end mk
end
section
variable {yf_place yf_points yf_names yf_textEnd yf_made yf_entry yf_waiting yf_values yf_bound yf_cells yf_conses yf_lams yf_steps yf_atWork yf_end yf_writtenCount : Int32} {ya_kind ya_up ya_turn ya_depth ya_value ya_below ya_length ya_parameters ya_codes ya_codeCount ya_form ya_colour ya_same ya_one ya_two ya_todo ya_numbered ya_text ya_ofFunction ya_codeEnd ya_instance ya_token ya_env ya_tag ya_cellEnv ya_boundNext ya_step ya_boundNumber ya_boundTag ya_headTag ya_tailTag ya_number ya_boundValue ya_head ya_tail ya_written : Nat → Int32}
/-- instances, as Y holds them -/
def yI (I : List (Nat × List Nat)) (yof yce yin : Nat → Int32) : Prop := ∀ i, i < I.length → (I.getD i (0, [])).1 < 5 ∧ yof i = nI (I.getD i (0, [])).1 ∧ yce i = nI (I.getD i (0, [])).2.length ∧ (I.getD i (0, [])).2.length ≤ 42 ∧ ∀ k, k < (I.getD i (0, [])).2.length → yin (50 * i + k) = nI ((I.getD i (0, [])).2.getD k 0) ∧ (I.getD i (0, [])).2.getD k 0 < 60
theorem ix50 (i k : Nat) : (50 : Int32) * nI i + nI k = nI (50 * i + k) := by rw [show (50 : Int32) * nI i = nI (50 * i) from pk_mul 50 i, nI_add]
theorem y_me42 {post : Int32 → SY → Prop} {J2 : Int32 → Prop} {i : Nat} {x1 : Int32} {L Q : List Nat} (hi : i < 13) (h42 : Q.length ≤ 42) (hl : L.length = Q.length) (hL : ∀ k, k < L.length → ya_instance (50 * i + k) = nI (L.getD k 0) ∧ L.getD k 0 < 60) (hQ : ∀ k, k < Q.length → ya_text k = nI (Q.getD k 0) ∧ Q.getD k 0 < 60)
    (h1 : L = Q → post 1 (yf_place, yf_points, yf_names, (nI Q.length), yf_made, yf_entry, yf_waiting, yf_values, yf_bound, yf_cells, yf_conses, yf_lams, yf_steps, yf_atWork, yf_end, yf_writtenCount, ya_kind, ya_up, ya_turn, ya_depth, ya_value, ya_below, ya_length, ya_parameters, ya_codes, ya_codeCount, ya_form, ya_colour, ya_same, ya_one, ya_two, ya_todo, ya_numbered, ya_text, ya_ofFunction, ya_codeEnd, ya_instance, ya_token, ya_env, ya_tag, ya_cellEnv, ya_boundNext, ya_step, ya_boundNumber, ya_boundTag, ya_headTag, ya_tailTag, ya_number, ya_boundValue, ya_head, ya_tail, ya_written)) (h0 : L ≠ Q → J2 (nI (i + 1))) :
    ∀ q k fu (x : Int32), k + q = Q.length → q < fu → (x = 1 ∧ (∀ j, j < k → L.getD j 0 = Q.getD j 0) ∨ x = 0 ∧ L ≠ Q) → wY_meet_42 post J2 x1 (nI i) yf_place yf_points yf_names (nI Q.length) yf_made yf_entry yf_waiting yf_values yf_bound yf_cells yf_conses yf_lams yf_steps yf_atWork yf_end yf_writtenCount ya_kind ya_up ya_turn ya_depth ya_value ya_below ya_length ya_parameters ya_codes ya_codeCount ya_form ya_colour ya_same ya_one ya_two ya_todo ya_numbered ya_text ya_ofFunction ya_codeEnd ya_instance ya_token ya_env ya_tag ya_cellEnv ya_boundNext ya_step ya_boundNumber ya_boundTag ya_headTag ya_tailTag ya_number ya_boundValue ya_head ya_tail ya_written fu x (nI k) := by
  intro q
  induction q with
  | zero =>
    intro k fu x hk hfu hx
    obtain ⟨fu, rfl⟩ : ∃ g, fu = g + 1 := ⟨fu - 1, by omega⟩
    have e : k = Q.length := by omega
    subst e
    rcases hx with ⟨rfl, hx⟩ | ⟨rfl, hx⟩
    · exact br_t (nI_le (Nat.le_refl _) (by omega)) (br_f n1_0 (h1 (li_ext L Q hl (fun k hk => hx k (by omega)))))
    · exact br_t (nI_le (Nat.le_refl _) (by omega)) (br_t rfl (nm_r (nI_1 i) (h0 hx)))
  | succ q ih =>
    intro k fu x hk hfu hx
    obtain ⟨fu, rfl⟩ : ∃ g, fu = g + 1 := ⟨fu - 1, by omega⟩
    refine br_f (nI_ge (by omega) (by omega)) ?_
    rcases hx with ⟨rfl, hx⟩ | ⟨rfl, hx⟩
    · obtain ⟨d1, d2⟩ := hL k (by omega)
      obtain ⟨e1, e2⟩ := hQ k (by omega)
      refine br_f n1_0 (And.intro (pk_in (50 * i + k) 650 (by omega) (ix50 i k)) (And.intro (pk_in k 50 (by omega)) ?_))
      rw [ix50, nI_clamp (n := 50 * i + k) (by omega), nI_clamp (n := k) (by omega), d1, e1]
      refine pk_eq (L.getD k 0) (Q.getD k 0) (fun z => nm_r (nI_1 k) (ih (k + 1) fu 1 (by omega) (by omega) (Or.inl ⟨rfl, fun j hj => ?_⟩))) (fun z => nm_r (nI_1 k) (ih (k + 1) fu 0 (by omega) (by omega) (Or.inr ⟨rfl, fun w => z (by rw [w])⟩)))
      by_cases y : j = k
      · rw [y]; exact z
      · exact hx j (by omega)
    · exact br_t rfl (br_t rfl (nm_r (nI_1 i) (h0 hx)))
theorem y_me0 {post : Int32 → SY → Prop} {J2 : Int32 → Prop} {i : Nat} {x1 : Int32} (h0 : J2 (nI (i + 1))) : wY_meet_42 post J2 x1 (nI i) yf_place yf_points yf_names yf_textEnd yf_made yf_entry yf_waiting yf_values yf_bound yf_cells yf_conses yf_lams yf_steps yf_atWork yf_end yf_writtenCount ya_kind ya_up ya_turn ya_depth ya_value ya_below ya_length ya_parameters ya_codes ya_codeCount ya_form ya_colour ya_same ya_one ya_two ya_todo ya_numbered ya_text ya_ofFunction ya_codeEnd ya_instance ya_token ya_env ya_tag ya_cellEnv ya_boundNext ya_step ya_boundNumber ya_boundTag ya_headTag ya_tailTag ya_number ya_boundValue ya_head ya_tail ya_written 1 0 0 :=
  br_c (fun _ => br_t rfl (nm_r (nI_1 i) h0)) (fun _ => br_t rfl (br_t rfl (nm_r (nI_1 i) h0)))
theorem y_me139 {post : Int32 → SY → Prop} {m : Nat} {Q : List Nat} (hm : m ≤ 12) (h42 : Q.length ≤ 42) (hQ : ∀ k, k < Q.length → ya_text k = nI (Q.getD k 0) ∧ Q.getD k 0 < 60)
    (hP : ∀ yin : Nat → Int32, (∀ k, k < Q.length → yin (50 * m + k) = nI (Q.getD k 0)) → (∀ j, j < 50 * m ∨ 50 * m + 50 ≤ j → yin j = ya_instance j) → post 1 (yf_place, yf_points, yf_names, (nI Q.length), (nI (m + 1)), yf_entry, yf_waiting, yf_values, yf_bound, yf_cells, yf_conses, yf_lams, yf_steps, yf_atWork, yf_end, yf_writtenCount, ya_kind, ya_up, ya_turn, ya_depth, ya_value, ya_below, ya_length, ya_parameters, ya_codes, ya_codeCount, ya_form, ya_colour, ya_same, ya_one, ya_two, ya_todo, ya_numbered, ya_text, ya_ofFunction, ya_codeEnd, yin, ya_token, ya_env, ya_tag, ya_cellEnv, ya_boundNext, ya_step, ya_boundNumber, ya_boundTag, ya_headTag, ya_tailTag, ya_number, ya_boundValue, ya_head, ya_tail, ya_written)) :
    ∀ q k fu (yin : Nat → Int32), k + q = Q.length → q < fu → (∀ i, i < k → yin (50 * m + i) = nI (Q.getD i 0)) → (∀ j, j < 50 * m ∨ 50 * m + 50 ≤ j → yin j = ya_instance j) → wY_meet_139 post yf_place yf_points yf_names (nI Q.length) (nI m) yf_entry yf_waiting yf_values yf_bound yf_cells yf_conses yf_lams yf_steps yf_atWork yf_end yf_writtenCount fu (nI k) ya_kind ya_up ya_turn ya_depth ya_value ya_below ya_length ya_parameters ya_codes ya_codeCount ya_form ya_colour ya_same ya_one ya_two ya_todo ya_numbered ya_text ya_ofFunction ya_codeEnd yin ya_token ya_env ya_tag ya_cellEnv ya_boundNext ya_step ya_boundNumber ya_boundTag ya_headTag ya_tailTag ya_number ya_boundValue ya_head ya_tail ya_written := by
  intro q
  induction q with
  | zero =>
    intro k fu yin hk hfu h1 h2
    obtain ⟨fu, rfl⟩ : ∃ g, fu = g + 1 := ⟨fu - 1, by omega⟩
    have e : k = Q.length := by omega
    subst e
    exact br_t (nI_le (Nat.le_refl _) (by omega)) (nm_r (nI_1 m) (hP yin h1 h2))
  | succ q ih =>
    intro k fu yin hk hfu h1 h2
    obtain ⟨fu, rfl⟩ : ∃ g, fu = g + 1 := ⟨fu - 1, by omega⟩
    obtain ⟨e1, e2⟩ := hQ k (by omega)
    refine br_f (nI_ge (by omega) (by omega)) (And.intro (pk_in k 50 (by omega)) (And.intro (pk_in (50 * m + k) 650 (by omega) (ix50 m k)) (nm_r (e' := upd yin (50 * m + k) (nI (Q.getD k 0))) (by rw [ix50, nI_clamp (by omega), nI_clamp (by omega), e1, nr_b0 (by omega)]) (nm_r (nI_1 k) (ih (k + 1) fu _ (by omega) (by omega) (fun i hi => ?_) (fun j hj => ?_))))))
    · by_cases z : i = k
      · rw [z, pk_us]
      · rw [pk_un (by omega)]; exact h1 i (by omega)
    · rw [pk_un (by omega)]; exact h2 j hj
theorem yI_app {I : List (Nat × List Nat)} {yof yce yin yin' : Nat → Int32} {g : Nat} {Q : List Nat} (h : yI I yof yce yin) (hg : g < 5) (h42 : Q.length ≤ 42) (h60 : ∀ k, k < Q.length → Q.getD k 0 < 60) (h1 : ∀ k, k < Q.length → yin' (50 * I.length + k) = nI (Q.getD k 0)) (h2 : ∀ j, j < 50 * I.length ∨ 50 * I.length + 50 ≤ j → yin' j = yin j) :
    yI (I ++ [(g, Q)]) (upd yof I.length (nI g)) (upd yce I.length (nI Q.length)) yin' := by
  intro i hi
  rw [List.length_append] at hi
  by_cases z : i < I.length
  · rw [gd_l _ _ _ _ z, pk_un (by omega), pk_un (by omega)]
    obtain ⟨a, b, c, d, e⟩ := h i z
    exact ⟨a, b, c, d, fun k hk => by rw [h2 _ (by omega)]; exact e k hk⟩
  · have e : i = I.length := by simp at hi; omega
    subst e
    have := gd_r [(g, Q)] (0, []) 0 I
    rw [Nat.zero_add] at this
    rw [this, pk_us, pk_us]
    exact ⟨hg, rfl, rfl, h42, fun k hk => ⟨h1 k hk, h60 k hk⟩⟩
theorem y_me2 {post : Int32 → SY → Prop} {I : List (Nat × List Nat)} {g : Nat} {Q : List Nat} (hI : yI I ya_ofFunction ya_codeEnd ya_instance) (h12 : I.length ≤ 12) (hg : g < 5) (h42 : Q.length ≤ 42) (hQ : ∀ k, k < Q.length → ya_text k = nI (Q.getD k 0) ∧ Q.getD k 0 < 60)
    (h1 : ∀ I' yof yce yin, ins I (g, Q) = some I' → yI I' yof yce yin → I'.length ≤ 12 → post 1 (yf_place, yf_points, yf_names, (nI Q.length), (nI I'.length), yf_entry, yf_waiting, yf_values, yf_bound, yf_cells, yf_conses, yf_lams, yf_steps, yf_atWork, yf_end, yf_writtenCount, ya_kind, ya_up, ya_turn, ya_depth, ya_value, ya_below, ya_length, ya_parameters, ya_codes, ya_codeCount, ya_form, ya_colour, ya_same, ya_one, ya_two, ya_todo, ya_numbered, ya_text, yof, yce, yin, ya_token, ya_env, ya_tag, ya_cellEnv, ya_boundNext, ya_step, ya_boundNumber, ya_boundTag, ya_headTag, ya_tailTag, ya_number, ya_boundValue, ya_head, ya_tail, ya_written)) (h0 : ins I (g, Q) = none → post 0 (yf_place, yf_points, yf_names, (nI Q.length), (nI I.length), yf_entry, yf_waiting, yf_values, yf_bound, yf_cells, yf_conses, yf_lams, yf_steps, yf_atWork, yf_end, yf_writtenCount, ya_kind, ya_up, ya_turn, ya_depth, ya_value, ya_below, ya_length, ya_parameters, ya_codes, ya_codeCount, ya_form, ya_colour, ya_same, ya_one, ya_two, ya_todo, ya_numbered, ya_text, ya_ofFunction, ya_codeEnd, ya_instance, ya_token, ya_env, ya_tag, ya_cellEnv, ya_boundNext, ya_step, ya_boundNumber, ya_boundTag, ya_headTag, ya_tailTag, ya_number, ya_boundValue, ya_head, ya_tail, ya_written)) :
    ∀ q i fu, i + q = I.length → q < fu → (∀ k, k < i → I.getD k (0, []) ≠ (g, Q)) → wY_meet_2 post (nI g) yf_place yf_points yf_names (nI Q.length) (nI I.length) yf_entry yf_waiting yf_values yf_bound yf_cells yf_conses yf_lams yf_steps yf_atWork yf_end yf_writtenCount ya_kind ya_up ya_turn ya_depth ya_value ya_below ya_length ya_parameters ya_codes ya_codeCount ya_form ya_colour ya_same ya_one ya_two ya_todo ya_numbered ya_text ya_ofFunction ya_codeEnd ya_instance ya_token ya_env ya_tag ya_cellEnv ya_boundNext ya_step ya_boundNumber ya_boundTag ya_headTag ya_tailTag ya_number ya_boundValue ya_head ya_tail ya_written fu (nI i) := by
  intro q
  induction q with
  | zero =>
    intro i fu hi hfu hn
    obtain ⟨fu, rfl⟩ : ∃ g, fu = g + 1 := ⟨fu - 1, by omega⟩
    have e : i = I.length := by omega
    subst e
    have hnm : ¬ (g, Q) ∈ I := by
      intro z
      obtain ⟨k, k1, k2⟩ := gd_mem' (d := (0, [])) z
      exact hn k k1 k2
    refine br_t (nI_le (Nat.le_refl _) (by omega)) (pk_eq I.length 12 (fun z => h0 (by unfold ins; rw [if_neg hnm, if_pos z])) (fun z => And.intro (pk_in I.length 13 (by omega)) (nm_r (e' := upd ya_ofFunction I.length (nI g)) (by rw [nI_clamp (by omega), nr_b (by omega)]) (And.intro (pk_in I.length 13 (by omega)) (nm_r (e' := upd ya_codeEnd I.length (nI Q.length)) (by rw [nI_clamp (by omega), nr_b (by omega)]) (Exists.intro (Q.length + 1) ?_))))))
    refine y_me139 h12 h42 hQ (fun yin k1 k2 => ?_) Q.length 0 (Q.length + 1) ya_instance (by omega) (by omega) (fun i hi => by omega) (fun _ _ => rfl)
    have := h1 (I ++ [(g, Q)]) _ _ yin (by unfold ins; rw [if_neg hnm, if_neg z]) (yI_app hI hg h42 (fun k hk => (hQ k hk).2) k1 k2) (by rw [List.length_append]; simp; omega)
    rw [List.length_append] at this
    exact this
  | succ q ih =>
    intro i fu hi hfu hn
    obtain ⟨fu, rfl⟩ : ∃ g, fu = g + 1 := ⟨fu - 1, by omega⟩
    obtain ⟨a1, a2, a3, a4, a5⟩ := hI i (by omega)
    have ci : (nI i).toNatClampNeg = i := nI_clamp (by omega)
    have next : I.getD i (0, []) ≠ (g, Q) → wY_meet_2 post (nI g) yf_place yf_points yf_names (nI Q.length) (nI I.length) yf_entry yf_waiting yf_values yf_bound yf_cells yf_conses yf_lams yf_steps yf_atWork yf_end yf_writtenCount ya_kind ya_up ya_turn ya_depth ya_value ya_below ya_length ya_parameters ya_codes ya_codeCount ya_form ya_colour ya_same ya_one ya_two ya_todo ya_numbered ya_text ya_ofFunction ya_codeEnd ya_instance ya_token ya_env ya_tag ya_cellEnv ya_boundNext ya_step ya_boundNumber ya_boundTag ya_headTag ya_tailTag ya_number ya_boundValue ya_head ya_tail ya_written fu (nI (i + 1)) := by
      intro z
      refine ih (i + 1) fu (by omega) (by omega) (fun k hk => ?_)
      by_cases y : k = i
      · rw [y]; exact z
      · exact hn k (by omega)
    refine br_f (nI_ge (by omega) (by omega)) (And.intro (pk_in i 13 (by omega)) ?_)
    rw [ci, a2]
    refine pk_eq (I.getD i (0, [])).1 g (fun z => And.intro (pk_in i 13 (by omega)) ?_) (fun z => Exists.intro 1 (y_me0 (next (fun w => z (by rw [w])))))
    rw [a3]
    refine pk_eq (I.getD i (0, [])).2.length Q.length (fun w => Exists.intro (Q.length + 1) (y_me42 (L := (I.getD i (0, [])).2) (by omega) h42 w a5 hQ (fun y => h1 I _ _ _ ?_ hI h12) (fun y => next (fun v => y (by rw [v]))) Q.length 0 (Q.length + 1) 1 (by omega) (by omega) (Or.inl ⟨rfl, fun j hj => by omega⟩))) (fun w => Exists.intro 1 (y_me0 (next (fun v => w (by rw [v])))))
    unfold ins
    have : I.getD i (0, []) = (g, Q) := Prod.ext z y
    rw [if_pos (by rw [← this]; exact mem_gd (by omega))]
theorem y_meet {post : Int32 → SY → Prop} {I : List (Nat × List Nat)} {g : Nat} {Q : List Nat} (hI : yI I ya_ofFunction ya_codeEnd ya_instance) (h12 : I.length ≤ 12) (hg : g < 5) (h42 : Q.length ≤ 42) (hQ : ∀ k, k < Q.length → ya_text k = nI (Q.getD k 0) ∧ Q.getD k 0 < 60)
    (h1 : ∀ I' yof yce yin, ins I (g, Q) = some I' → yI I' yof yce yin → I'.length ≤ 12 → post 1 (yf_place, yf_points, yf_names, (nI Q.length), (nI I'.length), yf_entry, yf_waiting, yf_values, yf_bound, yf_cells, yf_conses, yf_lams, yf_steps, yf_atWork, yf_end, yf_writtenCount, ya_kind, ya_up, ya_turn, ya_depth, ya_value, ya_below, ya_length, ya_parameters, ya_codes, ya_codeCount, ya_form, ya_colour, ya_same, ya_one, ya_two, ya_todo, ya_numbered, ya_text, yof, yce, yin, ya_token, ya_env, ya_tag, ya_cellEnv, ya_boundNext, ya_step, ya_boundNumber, ya_boundTag, ya_headTag, ya_tailTag, ya_number, ya_boundValue, ya_head, ya_tail, ya_written)) (h0 : ins I (g, Q) = none → post 0 (yf_place, yf_points, yf_names, (nI Q.length), (nI I.length), yf_entry, yf_waiting, yf_values, yf_bound, yf_cells, yf_conses, yf_lams, yf_steps, yf_atWork, yf_end, yf_writtenCount, ya_kind, ya_up, ya_turn, ya_depth, ya_value, ya_below, ya_length, ya_parameters, ya_codes, ya_codeCount, ya_form, ya_colour, ya_same, ya_one, ya_two, ya_todo, ya_numbered, ya_text, ya_ofFunction, ya_codeEnd, ya_instance, ya_token, ya_env, ya_tag, ya_cellEnv, ya_boundNext, ya_step, ya_boundNumber, ya_boundTag, ya_headTag, ya_tailTag, ya_number, ya_boundValue, ya_head, ya_tail, ya_written)) : wpY_meet post (yf_place, yf_points, yf_names, (nI Q.length), (nI I.length), yf_entry, yf_waiting, yf_values, yf_bound, yf_cells, yf_conses, yf_lams, yf_steps, yf_atWork, yf_end, yf_writtenCount, ya_kind, ya_up, ya_turn, ya_depth, ya_value, ya_below, ya_length, ya_parameters, ya_codes, ya_codeCount, ya_form, ya_colour, ya_same, ya_one, ya_two, ya_todo, ya_numbered, ya_text, ya_ofFunction, ya_codeEnd, ya_instance, ya_token, ya_env, ya_tag, ya_cellEnv, ya_boundNext, ya_step, ya_boundNumber, ya_boundTag, ya_headTag, ya_tailTag, ya_number, ya_boundValue, ya_head, ya_tail, ya_written) (nI g) :=
  Exists.intro (I.length + 1) (y_me2 hI h12 hg h42 hQ h1 h0 I.length 0 (I.length + 1) (by omega) (by omega) (fun k hk => by omega))
/-- types of the first p operands -/
def pa_st (a : Nat → Nat) (p : Nat) : List Nat := (List.range p).map a
theorem pa_enc (a : Nat → Nat) (c : Nat → mt_T) (p : Nat) : mt_encs ((pa_st a (p + 1)).map c) = mt_encs ((pa_st a p).map c) ++ mt_enc (c (a p)) := by
  unfold pa_st; rw [List.range_succ, List.map_append, List.map_append, mt_encs_app]; simp [mt_encs]
theorem ca_enc (a : Nat → Nat) (z : Nat) (c : Nat → mt_T) (P : Nat) : mt_encs ((ca_st a z P).map c) = mt_encs ((pa_st a P).map c) ++ mt_enc (c z) := by
  unfold ca_st pa_st; rw [List.map_append, mt_encs_app]; simp [mt_encs]
theorem pa_le {a : Nat → Nat} {c : Nat → mt_T} {P : Nat} (h : ∀ p, p < P → (mt_enc (c (a p))).length ≤ 14) : ∀ p, p ≤ P → (mt_encs ((pa_st a p).map c)).length ≤ 14 * p := by
  intro p
  induction p with
  | zero => intro _; exact Nat.zero_le _
  | succ p ih =>
    intro hp
    have := ih (by omega)
    have := h p (by omega)
    rw [pa_enc, List.length_append]; omega
theorem tc_app {tx tx0 : Nat → Int32} {a b : List Nat} (h1 : ∀ i, i < a.length → tx0 i = nI ((cl_0 a).getD i 0)) (h2 : ∀ i, i < b.length → tx (a.length + i) = nI ((cl_0 b).getD i 0)) (h3 : ∀ i, i < a.length → tx i = tx0 i) :
    ∀ i, i < (a ++ b).length → tx i = nI ((cl_0 (a ++ b)).getD i 0) := by
  intro i hi
  have e : cl_0 (a ++ b) = cl_0 a ++ cl_0 b := by simp [cl_0]
  rw [e]
  by_cases z : i < a.length
  · rw [gd_l _ _ _ _ (by rw [cl_len]; exact z), h3 i z]; exact h1 i z
  · obtain ⟨j, rfl⟩ : ∃ j, i = a.length + j := ⟨i - a.length, by omega⟩
    rw [h2 j (by rw [List.length_append] at hi; omega)]
    have := gd_r (cl_0 b) 0 j (cl_0 a)
    rw [cl_len, Nat.add_comm] at this
    rw [this]
theorem cl_60 (L : List Nat) : ∀ k, k < L.length → (cl_0 L).getD k 0 < 60 := by
  intro k hk
  rw [cl_gd L k hk]; split <;> omega
end
section
variable {yf_place yf_points yf_names yf_textEnd yf_made yf_entry yf_waiting yf_values yf_bound yf_cells yf_conses yf_lams yf_steps yf_atWork yf_end yf_writtenCount : Int32} {ya_kind ya_up ya_turn ya_depth ya_value ya_below ya_length ya_parameters ya_codes ya_codeCount ya_form ya_colour ya_same ya_one ya_two ya_todo ya_numbered ya_text ya_ofFunction ya_codeEnd ya_instance ya_token ya_env ya_tag ya_cellEnv ya_boundNext ya_step ya_boundNumber ya_boundTag ya_headTag ya_tailTag ya_number ya_boundValue ya_head ya_tail ya_written : Nat → Int32}
abbrev JZ := Int32 → Int32 → Int32 → Int32 → Int32 → Int32 → Int32 → Int32 → Int32 → Int32 → Int32 → Int32 → Int32 → Int32 → Int32 → Int32 → JY
/-- the types of a call are written -/
theorem y_gt200' {post : Int32 → SY → Prop} {J148 : JZ} {f t g N P : Nat} {sp : Nat → Nat} {K : Nat → Int32} {L R rt ds : Nat → Nat} {c : Nat → mt_T} {I : List (Nat × List Nat)} (hf : f < 5) (ht : t < 24) (hg5 : g < 5) (h74 : 74 ≤ N) (hN : N ≤ 900) (hP2 : P ≤ 2) (hpa : ya_parameters g = nI P)
    (hbe : ∀ j, j < P → ya_below (72 * f + 3 * t + j) = nI (jp sp t j) ∧ jp sp t j < 24) (hg : yw_ok N ya_form ya_same ya_one ya_two K L R rt ds c) (h14 : ∀ p, p ∈ ca_st (jp sp t) t P → (mt_enc (c p)).length ≤ 14) (hI : yI I ya_ofFunction ya_codeEnd ya_instance) (h12 : I.length ≤ 12)
    (h1 : ∀ I' te td tx yof yce yin, ins I (g, cl_0 (mt_encs ((ca_st (jp sp t) t P).map c))) = some I' → yI I' yof yce yin → I'.length ≤ 12 → J148 (nI t + 1) yf_place yf_points yf_names te (nI I'.length) yf_entry yf_waiting yf_values yf_bound yf_cells yf_conses yf_lams yf_steps yf_atWork yf_end yf_writtenCount ya_kind ya_up ya_turn ya_depth ya_value ya_below ya_length ya_parameters ya_codes ya_codeCount ya_form ya_colour ya_same ya_one ya_two td ya_numbered tx yof yce yin ya_token ya_env ya_tag ya_cellEnv ya_boundNext ya_step ya_boundNumber ya_boundTag ya_headTag ya_tailTag ya_number ya_boundValue ya_head ya_tail ya_written)
    (h0 : ∀ te ma td tx, ins I (g, cl_0 (mt_encs ((ca_st (jp sp t) t P).map c))) = none → post 0 (yf_place, yf_points, yf_names, te, ma, yf_entry, yf_waiting, yf_values, yf_bound, yf_cells, yf_conses, yf_lams, yf_steps, yf_atWork, yf_end, yf_writtenCount, ya_kind, ya_up, ya_turn, ya_depth, ya_value, ya_below, ya_length, ya_parameters, ya_codes, ya_codeCount, ya_form, ya_colour, ya_same, ya_one, ya_two, td, ya_numbered, tx, ya_ofFunction, ya_codeEnd, ya_instance, ya_token, ya_env, ya_tag, ya_cellEnv, ya_boundNext, ya_step, ya_boundNumber, ya_boundTag, ya_headTag, ya_tailTag, ya_number, ya_boundValue, ya_head, ya_tail, ya_written)) :
    ∀ q p fu td tx, p + q = P → q < fu → (∀ i, i < (mt_encs ((pa_st (jp sp t) p).map c)).length → tx i = nI ((cl_0 (mt_encs ((pa_st (jp sp t) p).map c))).getD i 0)) →
      wY_goThrough_200 post J148 (nI f) (nI t) (nI g) fu (nI p) yf_place yf_points yf_names (nI (mt_encs ((pa_st (jp sp t) p).map c)).length) (nI I.length) yf_entry yf_waiting yf_values yf_bound yf_cells yf_conses yf_lams yf_steps yf_atWork yf_end yf_writtenCount ya_kind ya_up ya_turn ya_depth ya_value ya_below ya_length ya_parameters ya_codes ya_codeCount ya_form ya_colour ya_same ya_one ya_two td ya_numbered tx ya_ofFunction ya_codeEnd ya_instance ya_token ya_env ya_tag ya_cellEnv ya_boundNext ya_step ya_boundNumber ya_boundTag ya_headTag ya_tailTag ya_number ya_boundValue ya_head ya_tail ya_written := by
  have hO : ∀ (cs : List Nat), ∀ k, k < (wr_f true [] cs).length → (wr_f true [] cs).getD k 0 < 100 := by
    intro cs k hk
    rw [wr_len] at hk
    have := cl_60 cs k hk
    show (cl_0 cs).getD k 0 < 100
    omega
  have hin : ∀ j, j < P → jp sp t j ∈ ca_st (jp sp t) t P := fun j hj => List.mem_append.mpr (Or.inl (List.mem_map.mpr ⟨j, List.mem_range.mpr hj, rfl⟩))
  have hint : t ∈ ca_st (jp sp t) t P := List.mem_append.mpr (Or.inr (by simp))
  intro q
  induction q with
  | zero =>
    intro p fu td tx hp hfu h2
    obtain ⟨fu, rfl⟩ : ∃ g, fu = g + 1 := ⟨fu - 1, by omega⟩
    have e : p = P := by omega
    subst e
    have hpl := pa_le (a := jp sp t) (c := c) (fun j hj => h14 _ (hin j hj)) p (Nat.le_refl _)
    have h14t := h14 t hint
    refine And.intro (pk_in g 11 (by omega)) ?_
    rw [nI_clamp (n := g) (by omega), hpa]
    refine br_t (nI_le (Nat.le_refl _) (by omega)) ?_
    refine y_write (cl := true) (p := t) (c := c) (vs0 := []) hN (by omega) (by omega) rfl (by simp) hg (fun z => nomatch z) (hO _) (fun nm td' nu' tx' q1 q2 q3 q4 q5 => ?_) (fun _ _ _ _ z => by omega)
    obtain ⟨e1, e2⟩ := q3 rfl
    subst e1 e2
    have ht' : ∀ i, i < (mt_encs ((ca_st (jp sp t) t p).map c)).length → tx' i = nI ((cl_0 (mt_encs ((ca_st (jp sp t) t p).map c))).getD i 0) := by rw [ca_enc]; exact tc_app h2 q4 q5
    have key := y_meet (ya_todo := td') (ya_text := tx') (post := (fun r_339 u => match u with | (yf_place, yf_points, yf_names, yf_textEnd, yf_made, yf_entry, yf_waiting, yf_values, yf_bound, yf_cells, yf_conses, yf_lams, yf_steps, yf_atWork, yf_end, yf_writtenCount, ya_kind, ya_up, ya_turn, ya_depth, ya_value, ya_below, ya_length, ya_parameters, ya_codes, ya_codeCount, ya_form, ya_colour, ya_same, ya_one, ya_two, ya_todo, ya_numbered, ya_text, ya_ofFunction, ya_codeEnd, ya_instance, ya_token, ya_env, ya_tag, ya_cellEnv, ya_boundNext, ya_step, ya_boundNumber, ya_boundTag, ya_headTag, ya_tailTag, ya_number, ya_boundValue, ya_head, ya_tail, ya_written) => (((r_339 = 0 → (post 0 (yf_place, yf_points, yf_names, yf_textEnd, yf_made, yf_entry, yf_waiting, yf_values, yf_bound, yf_cells, yf_conses, yf_lams, yf_steps, yf_atWork, yf_end, yf_writtenCount, ya_kind, ya_up, ya_turn, ya_depth, ya_value, ya_below, ya_length, ya_parameters, ya_codes, ya_codeCount, ya_form, ya_colour, ya_same, ya_one, ya_two, ya_todo, ya_numbered, ya_text, ya_ofFunction, ya_codeEnd, ya_instance, ya_token, ya_env, ya_tag, ya_cellEnv, ya_boundNext, ya_step, ya_boundNumber, ya_boundTag, ya_headTag, ya_tailTag, ya_number, ya_boundValue, ya_head, ya_tail, ya_written))) ∧ (¬ r_339 = 0 → (∀ x9_393, x9_393 = nI t + 1 → (J148 x9_393 yf_place yf_points yf_names yf_textEnd yf_made yf_entry yf_waiting yf_values yf_bound yf_cells yf_conses yf_lams yf_steps yf_atWork yf_end yf_writtenCount ya_kind ya_up ya_turn ya_depth ya_value ya_below ya_length ya_parameters ya_codes ya_codeCount ya_form ya_colour ya_same ya_one ya_two ya_todo ya_numbered ya_text ya_ofFunction ya_codeEnd ya_instance ya_token ya_env ya_tag ya_cellEnv ya_boundNext ya_step ya_boundNumber ya_boundTag ya_headTag ya_tailTag ya_number ya_boundValue ya_head ya_tail ya_written))))))) (I := I) (g := g) (Q := cl_0 (mt_encs ((ca_st (jp sp t) t p).map c))) hI h12 hg5 (by rw [cl_len, ca_enc, List.length_append]; omega) (fun k hk => by rw [cl_len] at hk; exact ⟨ht' k hk, cl_60 _ k hk⟩) (fun I' yof yce yin k1 k2 k3 => br_f n1_0 (nm_e (h1 I' _ td' tx' yof yce yin k1 k2 k3))) (fun k => br_t rfl (h0 _ _ td' tx' k))
    rw [cl_len, ca_enc, List.length_append] at key
    exact key
  | succ q ih =>
    intro p fu td tx hp hfu h2
    obtain ⟨fu, rfl⟩ : ∃ g, fu = g + 1 := ⟨fu - 1, by omega⟩
    have hpl := pa_le (a := jp sp t) (c := c) (P := P) (fun j hj => h14 _ (hin j hj)) p (by omega)
    obtain ⟨b1, b2⟩ := hbe p (by omega)
    have h14t := h14 _ (hin p (by omega))
    refine And.intro (pk_in g 11 (by omega)) ?_
    rw [nI_clamp (n := g) (by omega), hpa]
    refine br_f (nI_ge (by omega) (by omega)) (And.intro (pk_in (72 * f + 3 * t + p) 792 (by omega) (ix723 f t p)) ?_)
    rw [ix723, nI_clamp (n := 72 * f + 3 * t + p) (by omega), b1]
    refine y_write (cl := true) (p := jp sp t p) (c := c) (vs0 := []) hN (by omega) (by omega) rfl (by simp) hg (fun z => nomatch z) (hO _) (fun nm td' nu' tx' q1 q2 q3 q4 q5 => ?_) (fun _ _ _ _ z => by omega)
    obtain ⟨e1, e2⟩ := q3 rfl
    subst e1 e2
    refine nm_r (nI_1 p) ?_
    have := ih (p + 1) fu td' tx' (by omega) (by omega) (by rw [pa_enc]; exact tc_app h2 q4 q5)
    rw [pa_enc, List.length_append] at this
    exact this
theorem y_gt148 {post : Int32 → SY → Prop} {f n N : Nat} {kN vN : Nat → Nat} {oc sp : Nat → Nat} {K : Nat → Int32} {L R rt ds : Nat → Nat} {c : Nat → mt_T} {qx : Nat → List Nat} {RS : Option (List (Nat × List Nat))} (hf : f < 5) (hn : n ≤ 24) (hl : ya_length f = nI n) (h74 : 74 ≤ N) (hN : N ≤ 900)
    (hb : ∀ t, t < n → ya_kind (24 * f + t) = nI (kN t) ∧ kN t ≤ 16 ∧ (kN t = 4 → vN t < 5 ∧ ya_value (24 * f + t) = nI (vN t) ∧ oc t ≤ 2 ∧ ya_parameters (vN t) = nI (oc t) ∧ (∀ j, j < oc t → ya_below (72 * f + 3 * t + j) = nI (jp sp t j) ∧ jp sp t j < 24) ∧ qx t = cq oc sp c t))
    (hg : yw_ok N ya_form ya_same ya_one ya_two K L R rt ds c) (h14 : ∀ p, p < 24 → p < n → (mt_enc (c p)).length ≤ 14) (hbn : ∀ t j, t < n → kN t = 4 → j < oc t → jp sp t j < n)
    (h1 : ∀ I' te td tx yof yce yin, RS = some I' → yI I' yof yce yin → I'.length ≤ 12 → post 1 (yf_place, yf_points, yf_names, te, (nI I'.length), yf_entry, yf_waiting, yf_values, yf_bound, yf_cells, yf_conses, yf_lams, yf_steps, yf_atWork, yf_end, yf_writtenCount, ya_kind, ya_up, ya_turn, ya_depth, ya_value, ya_below, ya_length, ya_parameters, ya_codes, ya_codeCount, ya_form, ya_colour, ya_same, ya_one, ya_two, td, ya_numbered, tx, yof, yce, yin, ya_token, ya_env, ya_tag, ya_cellEnv, ya_boundNext, ya_step, ya_boundNumber, ya_boundTag, ya_headTag, ya_tailTag, ya_number, ya_boundValue, ya_head, ya_tail, ya_written))
    (h0 : ∀ te ma td tx yof yce yin, RS = none → post 0 (yf_place, yf_points, yf_names, te, ma, yf_entry, yf_waiting, yf_values, yf_bound, yf_cells, yf_conses, yf_lams, yf_steps, yf_atWork, yf_end, yf_writtenCount, ya_kind, ya_up, ya_turn, ya_depth, ya_value, ya_below, ya_length, ya_parameters, ya_codes, ya_codeCount, ya_form, ya_colour, ya_same, ya_one, ya_two, td, ya_numbered, tx, yof, yce, yin, ya_token, ya_env, ya_tag, ya_cellEnv, ya_boundNext, ya_step, ya_boundNumber, ya_boundTag, ya_headTag, ya_tailTag, ya_number, ya_boundValue, ya_head, ya_tail, ya_written)) :
    ∀ m t fu I te td tx yof yce yin, t + m = n → m < fu → yI I yof yce yin → I.length ≤ 12 → fld kN vN qx m t I = RS →
      wY_goThrough_148 post (nI f) fu (nI t) yf_place yf_points yf_names te (nI I.length) yf_entry yf_waiting yf_values yf_bound yf_cells yf_conses yf_lams yf_steps yf_atWork yf_end yf_writtenCount ya_kind ya_up ya_turn ya_depth ya_value ya_below ya_length ya_parameters ya_codes ya_codeCount ya_form ya_colour ya_same ya_one ya_two td ya_numbered tx yof yce yin ya_token ya_env ya_tag ya_cellEnv ya_boundNext ya_step ya_boundNumber ya_boundTag ya_headTag ya_tailTag ya_number ya_boundValue ya_head ya_tail ya_written := by
  intro m
  induction m with
  | zero =>
    intro t fu I te td tx yof yce yin ht hfu hI h12 hR
    obtain ⟨fu, rfl⟩ : ∃ g, fu = g + 1 := ⟨fu - 1, by omega⟩
    have e : t = n := by omega
    subst e
    refine And.intro (pk_in f 11 (by omega)) ?_
    rw [nI_clamp (n := f) (by omega), hl]
    exact br_t (nI_le (Nat.le_refl _) (by omega)) (h1 I te td tx yof yce yin hR.symm hI h12)
  | succ m ih =>
    intro t fu I te td tx yof yce yin ht hfu hI h12 hR
    obtain ⟨fu, rfl⟩ : ∃ g, fu = g + 1 := ⟨fu - 1, by omega⟩
    have htn : t < n := by omega
    obtain ⟨b1, b2, b3⟩ := hb t htn
    rw [fld] at hR
    have c24 : (nI (24 * f + t)).toNatClampNeg = 24 * f + t := nI_clamp (by omega)
    refine And.intro (pk_in f 11 (by omega)) ?_
    rw [nI_clamp (n := f) (by omega), hl]
    refine br_f (nI_ge (by omega) (by omega)) (And.intro (pk_in (24 * f + t) 264 (by omega) (ix24 f t)) ?_)
    rw [ix24, c24, b1]
    refine pk_eq (kN t) 4 (fun z => And.intro (pk_in (24 * f + t) 264 (by omega)) ?_) (fun z => nm_r (nI_1 t) (ih (t + 1) fu I te td tx yof yce yin (by omega) (by omega) hI h12 (by rw [if_neg z] at hR; exact hR)))
    rw [if_pos z] at hR
    obtain ⟨v1, v2, v3, v4, v5, v6⟩ := b3 z
    refine nm_r v2 (Exists.intro (oc t + 1) ?_)
    rw [v6] at hR
    have h14' : ∀ p, p < 24 → p < n → (mt_enc (c p)).length ≤ 14 := h14
    refine y_gt200' (J148 := wY_goThrough_148 post (nI f) fu) (P := oc t) (sp := sp) (c := c) (I := I) hf (by omega) v1 h74 hN v3 v4 v5 hg (fun x hx => h14' x (by have := ca_lt (B := n) (fun j hj => hbn t j htn z hj) htn x hx; omega) (ca_lt (B := n) (fun j hj => hbn t j htn z hj) htn x hx)) hI h12 (fun I' te' td' tx' yof' yce' yin' e1 x1 x2 => ?_) (fun te' ma' td' tx' e0 => ?_) (oc t) 0 (oc t + 1) td tx (by omega) (by omega) (fun i hi => absurd hi (by simp [pa_st, mt_encs]))
    · unfold cq at hR
      rw [e1] at hR
      rw [nI_1]
      exact ih (t + 1) fu I' te' td' tx' yof' yce' yin' (by omega) (by omega) x1 x2 hR
    · unfold cq at hR
      rw [e0] at hR
      exact h0 te' ma' td' tx' yof yce yin hR.symm
end
section
variable {yf_place yf_points yf_names yf_textEnd yf_made yf_entry yf_waiting yf_values yf_bound yf_cells yf_conses yf_lams yf_steps yf_atWork yf_end yf_writtenCount : Int32} {ya_kind ya_up ya_turn ya_depth ya_value ya_below ya_length ya_parameters ya_codes ya_codeCount ya_form ya_colour ya_same ya_one ya_two ya_todo ya_numbered ya_text ya_ofFunction ya_codeEnd ya_instance ya_token ya_env ya_tag ya_cellEnv ya_boundNext ya_step ya_boundNumber ya_boundTag ya_headTag ya_tailTag ya_number ya_boundValue ya_head ya_tail ya_written : Nat → Int32}
theorem y_gt107 {post : Int32 → SY → Prop} {f M P : Nat} {C : (Nat → mt_T) → Prop} {st : List Nat} {x5 : Int32} (hf : f < 5) (hpa : ya_parameters f = nI P) (hP2 : P ≤ 2) (h74 : 74 ≤ M) (hM : M ≤ 790) (hx5 : P = 2 → x5 = nI (st.getD 1 0)) (hst : ∀ q, q ≤ P → st.getD q 0 < M) (hc : yc_ok M ya_form ya_same ya_one ya_two C)
    (hex : ∃ r, C r ∧ ∀ j, j < P → r (72 + j) = r (st.getD j 0)) (hK : ∀ sa td, yc_ok M ya_form sa ya_one ya_two (fun r => C r ∧ (P = 2 → r 73 = r (st.getD 1 0))) → wY_goThrough_127 post (nI f) yf_place yf_points yf_names yf_textEnd yf_made yf_entry yf_waiting yf_values yf_bound yf_cells yf_conses yf_lams yf_steps yf_atWork yf_end yf_writtenCount ya_kind ya_up ya_turn ya_depth ya_value ya_below ya_length ya_parameters ya_codes ya_codeCount ya_form ya_colour sa ya_one ya_two td ya_numbered ya_text ya_ofFunction ya_codeEnd ya_instance ya_token ya_env ya_tag ya_cellEnv ya_boundNext ya_step ya_boundNumber ya_boundTag ya_headTag ya_tailTag ya_number ya_boundValue ya_head ya_tail ya_written) : wY_goThrough_107 post (nI f) x5 yf_place yf_points yf_names yf_textEnd yf_made yf_entry yf_waiting yf_values yf_bound yf_cells yf_conses yf_lams yf_steps yf_atWork yf_end yf_writtenCount ya_kind ya_up ya_turn ya_depth ya_value ya_below ya_length ya_parameters ya_codes ya_codeCount ya_form ya_colour ya_same ya_one ya_two ya_todo ya_numbered ya_text ya_ofFunction ya_codeEnd ya_instance ya_token ya_env ya_tag ya_cellEnv ya_boundNext ya_step ya_boundNumber ya_boundTag ya_headTag ya_tailTag ya_number ya_boundValue ya_head ya_tail ya_written := by
  refine And.intro (pk_in f 11 (by omega)) ?_
  rw [nI_clamp (n := f) (by omega), hpa]
  refine pk_le P 1 (fun z => hK _ _ (yc_iff hc (fun r => ⟨fun h => ⟨h, fun w => by omega⟩, fun h => h.1⟩))) (fun z => ?_)
  have e : P = 2 := by omega
  rw [hx5 e]
  refine y_joinC (N := M) (a := 73) (b := st.getD 1 0) (C := C) h74 (by omega) (by omega) (hst 1 (by omega)) hc (fun sa td g => hK sa td (yc_iff g (fun r => ⟨fun h => ⟨h.1, fun _ => h.2⟩, fun h => ⟨h.1, h.2 e⟩⟩))) (fun sa td g => ?_)
  obtain ⟨r, r1, r2⟩ := hex
  exact absurd ⟨r1, r2 1 (by omega)⟩ (g r)
theorem y_gt67 {post : Int32 → SY → Prop} {f M P : Nat} {C : (Nat → mt_T) → Prop} {st : List Nat} {x4 z0 : Int32} (hf : f < 5) (hpa : ya_parameters f = nI P) (hP2 : P ≤ 2) (h74 : 74 ≤ M) (hM : M ≤ 790) (hx4 : x4 = nI (st.getD 0 0)) (hx5 : P = 2 → z0 = nI (st.getD 1 0)) (ho : ya_todo 1000 = nI (st.getD P 0)) (hst : ∀ q, q ≤ P → st.getD q 0 < M) (hc : yc_ok M ya_form ya_same ya_one ya_two C)
    (hex : ∃ r, C r ∧ (∀ j, j < P → r (72 + j) = r (st.getD j 0)) ∧ r 0 = r (st.getD P 0)) (hK : ∀ sa td, yc_ok M ya_form sa ya_one ya_two (fun r => C r ∧ (∀ j, j < P → r (72 + j) = r (st.getD j 0)) ∧ r 0 = r (st.getD P 0)) → wY_goThrough_127 post (nI f) yf_place yf_points yf_names yf_textEnd yf_made yf_entry yf_waiting yf_values yf_bound yf_cells yf_conses yf_lams yf_steps yf_atWork yf_end yf_writtenCount ya_kind ya_up ya_turn ya_depth ya_value ya_below ya_length ya_parameters ya_codes ya_codeCount ya_form ya_colour sa ya_one ya_two td ya_numbered ya_text ya_ofFunction ya_codeEnd ya_instance ya_token ya_env ya_tag ya_cellEnv ya_boundNext ya_step ya_boundNumber ya_boundTag ya_headTag ya_tailTag ya_number ya_boundValue ya_head ya_tail ya_written) : wY_goThrough_67 post (nI f) x4 z0 yf_place yf_points yf_names yf_textEnd yf_made yf_entry yf_waiting yf_values yf_bound yf_cells yf_conses yf_lams yf_steps yf_atWork yf_end yf_writtenCount ya_kind ya_up ya_turn ya_depth ya_value ya_below ya_length ya_parameters ya_codes ya_codeCount ya_form ya_colour ya_same ya_one ya_two ya_todo ya_numbered ya_text ya_ofFunction ya_codeEnd ya_instance ya_token ya_env ya_tag ya_cellEnv ya_boundNext ya_step ya_boundNumber ya_boundTag ya_headTag ya_tailTag ya_number ya_boundValue ya_head ya_tail ya_written := by
  obtain ⟨r0, e1, e2, e3⟩ := hex
  refine nm_r ho ?_
  refine y_joinC (N := M) (a := 0) (b := st.getD P 0) (C := C) h74 (by omega) (by omega) (hst P (Nat.le_refl _)) hc (fun sa td g => And.intro (pk_in f 11 (by omega)) ?_) (fun sa td g => absurd ⟨e1, e3⟩ (g r0))
  rw [nI_clamp (n := f) (by omega), hpa]
  refine pk_le P 0 (fun z => ?_) (fun z => ?_)
  · have e : P = 0 := by omega
    subst e
    exact y_gt107 (P := 0) (st := st) hf hpa (by omega) h74 hM (fun z => by omega) hst g ⟨r0, ⟨e1, e3⟩, fun j hj => by omega⟩ (fun sa' td' g' => hK sa' td' (yc_iff g' (fun r => ⟨fun h => ⟨h.1.1, fun j hj => by omega, h.1.2⟩, fun h => ⟨⟨h.1, h.2.2⟩, fun z => by omega⟩⟩)))
  · rw [hx4]
    refine y_joinC (N := M) (a := 72) (b := st.getD 0 0) h74 (by omega) (by omega) (hst 0 (by omega)) g (fun sa' td' g' => ?_) (fun sa' td' g' => absurd ⟨⟨e1, e3⟩, e2 0 z⟩ (g' r0))
    refine y_gt107 (P := P) (st := st) hf hpa hP2 h74 hM hx5 hst g' ⟨r0, ⟨⟨e1, e3⟩, e2 0 z⟩, e2⟩ (fun sa2 td2 g2 => hK sa2 td2 (yc_iff g2 (fun r => ⟨fun h => ⟨h.1.1.1, fun j hj => ?_, h.1.1.2⟩, fun h => ⟨⟨⟨h.1, h.2.2⟩, h.2.1 0 z⟩, fun w => h.2.1 1 (by omega)⟩⟩)))
    by_cases w : j = 0
    · subst w; exact h.1.2
    · have e : j = 1 := by omega
      subst e; exact h.2 (by omega)
section mk
variable {ln P : Nat → Nat} {kN : Nat → Nat → Nat} {vl : Nat → Nat → Int32} {oc sp bd bi : Nat → Nat → Nat} {cod : Nat → List Nat}
theorem iS_dep (hlib : lib ln P kN vl oc sp bd bi cod) {g : Nat} {L : List Nat} (hg : g < 5) (hl : ln g ≠ 0) {r r' : Nat → mt_T} (e : ∀ p, yl_in (ln g) (P g) p → r' p = r p) (h : iS ln P kN vl oc sp bd bi cod g L r) : iS ln P kN vl oc sp bd bi cod g L r' := by
  obtain ⟨l1, l2, l3, _, _, l6, _⟩ := hlib g hg hl
  refine S_dep (P := P g) (by omega) l1 l2 (fun t ht k4 w => ?_) e (fun hs => ?_) h
  · obtain ⟨h', h1, h2, h3, h4⟩ := l6 t ht k4
    rw [h2, nI_clamp (by omega)] at w
    rw [h4, w]
  · have e1 : (List.range (P g)).map (fun j => r' (72 + j)) = (List.range (P g)).map (fun j => r (72 + j)) := List.map_congr_left (fun j hj => e _ (Or.inr (Or.inr ⟨by omega, by have := List.mem_range.mp hj; omega⟩)))
    rw [e1, e 0 (Or.inl ⟨by omega, by omega⟩)]; exact hs
/-- Y goes through instance i, as X did -/
theorem y_goThrough {post : Int32 → SY → Prop} {I : List (Nat × List Nat)} {i N0 : Nat} {Sol0 : (Nat → mt_T) → Prop} {c0 : Nat → mt_T} (hlib : lib ln P kN vl oc sp bd bi cod) (h24 : ∀ g, g < 5 → ln g ≤ 24) (hly : ly_ok ln P kN vl oc sp bd cod ya_kind ya_value ya_up ya_turn ya_depth ya_below ya_length ya_parameters ya_codes ya_codeCount)
    (hI : yI I ya_ofFunction ya_codeEnd ya_instance) (h12 : I.length ≤ 12) (hi : i < I.length) (hok : in_ok ln P cod (I.getD i (0, []))) (h74 : 74 ≤ N0) (hm0 : mg_is N0 Sol0 c0) (hp0 : pj_is 74 Sol0 (iS ln P kN vl oc sp bd bi cod (I.getD i (0, [])).1 (I.getD i (0, [])).2))
    (h0 : (∃ p, p < 74 ∧ 14 < (mt_enc (c0 p)).length) ∨ fld (kN (I.getD i (0, [])).1) (vnf vl (I.getD i (0, [])).1) (cq (oc (I.getD i (0, [])).1) (sp (I.getD i (0, [])).1) c0) (ln (I.getD i (0, [])).1) 0 I = none → ∀ pt nm te ma fo sa on tw co td nu tx yof yce yin,
      post 0 (yf_place, pt, nm, te, ma, yf_entry, yf_waiting, yf_values, yf_bound, yf_cells, yf_conses, yf_lams, yf_steps, yf_atWork, yf_end, yf_writtenCount, ya_kind, ya_up, ya_turn, ya_depth, ya_value, ya_below, ya_length, ya_parameters, ya_codes, ya_codeCount, fo, co, sa, on, tw, td, nu, tx, yof, yce, yin, ya_token, ya_env, ya_tag, ya_cellEnv, ya_boundNext, ya_step, ya_boundNumber, ya_boundTag, ya_headTag, ya_tailTag, ya_number, ya_boundValue, ya_head, ya_tail, ya_written))
    (h1 : (∀ p, p < 74 → (mt_enc (c0 p)).length ≤ 14) → ∀ I', fld (kN (I.getD i (0, [])).1) (vnf vl (I.getD i (0, [])).1) (cq (oc (I.getD i (0, [])).1) (sp (I.getD i (0, [])).1) c0) (ln (I.getD i (0, [])).1) 0 I = some I' → ∀ pt nm te fo sa on tw co td nu tx yof yce yin, yI I' yof yce yin → I'.length ≤ 12 →
      post 1 (yf_place, pt, nm, te, (nI I'.length), yf_entry, yf_waiting, yf_values, yf_bound, yf_cells, yf_conses, yf_lams, yf_steps, yf_atWork, yf_end, yf_writtenCount, ya_kind, ya_up, ya_turn, ya_depth, ya_value, ya_below, ya_length, ya_parameters, ya_codes, ya_codeCount, fo, co, sa, on, tw, td, nu, tx, yof, yce, yin, ya_token, ya_env, ya_tag, ya_cellEnv, ya_boundNext, ya_step, ya_boundNumber, ya_boundTag, ya_headTag, ya_tailTag, ya_number, ya_boundValue, ya_head, ya_tail, ya_written)) :
    wpY_goThrough post (yf_place, yf_points, yf_names, yf_textEnd, (nI I.length), yf_entry, yf_waiting, yf_values, yf_bound, yf_cells, yf_conses, yf_lams, yf_steps, yf_atWork, yf_end, yf_writtenCount, ya_kind, ya_up, ya_turn, ya_depth, ya_value, ya_below, ya_length, ya_parameters, ya_codes, ya_codeCount, ya_form, ya_colour, ya_same, ya_one, ya_two, ya_todo, ya_numbered, ya_text, ya_ofFunction, ya_codeEnd, ya_instance, ya_token, ya_env, ya_tag, ya_cellEnv, ya_boundNext, ya_step, ya_boundNumber, ya_boundTag, ya_headTag, ya_tailTag, ya_number, ya_boundValue, ya_head, ya_tail, ya_written) (nI i) := by
  obtain ⟨a1, a2, a3, a4, a5⟩ := hI i hi
  generalize I.getD i (0, []) = x at *
  obtain ⟨k1, k2, k3, k60, ts, k4, k5, k6, k7⟩ := hok
  have hok : in_ok ln P cod x := ⟨k1, k2, k3, k60, ts, k4, k5, k6, k7⟩
  obtain ⟨l1, l2, l3, l4, l5, l6, l7, l8, l9, l10⟩ := hlib x.1 k1 k2
  obtain ⟨y1, y2⟩ := hly x.1 k1
  obtain ⟨y3, y4, y5, y6⟩ := y2 k2
  have n24 := l1.1
  have ci : (nI i).toNatClampNeg = i := nI_clamp (by omega)
  obtain ⟨rs, rs1, rs2⟩ := in_sol hlib hok
  refine And.intro (pk_in i 13 (by omega)) (nm_r (e' := nI x.1) (by rw [ci, a2]) (y_begin (fun fo sa hg => And.intro (pk_in i 13 (by omega)) ?_)))
  rw [ci, a3, show (50 : Int32) * nI i = nI (50 * i) from pk_mul 50 i, nI_add]
  refine y_read (fl := true) (x3 := 1) (B := 74) (F := 50 * i) (ts := ts) (Lc := x.2) (Nat.le_refl _) (by omega) rfl k4 k5 a4 k60 (Or.inr ⟨rfl, by omega, fun k hk => (a5 k hk).1⟩) hg (fun N' fo' sa' on' tw' td' nu' K' L' R' rt' ds' tg st n1 n2 g' low' tl' rv' rk' mp' => ?_)
  have hst : st.length = P x.1 + 1 := by rw [← k6, ← mp', List.length_map]
  have hrk : ∀ q, q ≤ P x.1 → td' (1000 + (P x.1 - q)) = nI (st.getD q 0) ∧ st.getD q 0 < N' := by
    intro q hq
    refine ⟨?_, (rk'.1 _ (gd_mem st q (by omega))).2⟩
    have := rk'.2 q (by omega)
    rw [hst] at this
    have e : P x.1 + 1 - 1 - q = P x.1 - q := by omega
    rw [e] at this; exact this
  have hF := rd_st (P := P x.1) (b := 0) (a := fun j => 72 + j) (C := fun _ => True) (F := fun r => gr_sat N' K' L' R' r ∧ (∀ j, j < P x.1 → r (72 + j) = r (st.getD j 0)) ∧ r 0 = r (st.getD (P x.1) 0)) hg (fun r => ⟨fun _ => trivial, fun _ => ys_init r⟩) n1 k4 k5 k6 low' tl' rv' rk'.1 mp' (fun j hj => by omega) (by omega) (by omega) (fun r => Iff.rfl)
  obtain ⟨rf, _, _, rf3⟩ := hF.2 rs rs1 trivial rs2.1
  have e1 : ((1000 : Int32) + nI st.length) - 1 = nI (1000 + P x.1) := by rw [ix_th, hst]; exact nI_pred (1000 + P x.1)
  obtain ⟨o1, o2⟩ := hrk (P x.1) (Nat.le_refl _)
  obtain ⟨p1, p2⟩ := hrk 0 (by omega)
  have ePP : 1000 + (P x.1 - P x.1) = 1000 := by omega
  have eP0 : 1000 + (P x.1 - 0) = 1000 + P x.1 := by omega
  rw [ePP] at o1
  rw [eP0] at p1
  -- behind the joins
  have fin : ∀ sa td, yc_ok N' fo' sa on' tw' (fun r => gr_sat N' K' L' R' r ∧ (∀ j, j < P x.1 → r (72 + j) = r (st.getD j 0)) ∧ r 0 = r (st.getD (P x.1) 0)) → wY_goThrough_127 post (nI x.1) yf_place (nI N') yf_names yf_textEnd (nI I.length) yf_entry yf_waiting yf_values yf_bound yf_cells yf_conses yf_lams yf_steps yf_atWork yf_end yf_writtenCount ya_kind ya_up ya_turn ya_depth ya_value ya_below ya_length ya_parameters ya_codes ya_codeCount fo' ya_colour sa on' tw' td nu' ya_text ya_ofFunction ya_codeEnd ya_instance ya_token ya_env ya_tag ya_cellEnv ya_boundNext ya_step ya_boundNumber ya_boundTag ya_headTag ya_tailTag ya_number ya_boundValue ya_head ya_tail ya_written := by
    intro sa td hyc
    obtain ⟨K2, L2, R2, rt2, ds2, g2, s2⟩ := hyc
    unfold wY_goThrough_127
    refine y_infer (yf_points := nI N') (row := x.1) (f := x.1) (n := ln x.1) (N := N') (S0 := fun r => sc_inst x.2 ((List.range (P x.1)).map (fun j => r (72 + j)) ++ [r 0])) (cod := cod) (by omega) k1 y1 l1 y4 (lib_yn hlib hly k1 k2) (fun N fo sa on tw co td nu K L R rt ds c h74' hN hg hm hv hp => ?_) (fun t N fo sa on tw co td nu ht _ e2 => ?_) n1 (by omega) g2 ?_
    · have hw := yw_of hg hm hv
      refine y_isLarge (row := x.1) (n := ln x.1) (P := P x.1) (c := c) h74' (by omega) (by omega) n24 l3 y1 y3 hw (fun n _ => hm.1 n) (fun te nm td nu tx hbig => br_f n1_0 ?_) (fun te nm td nu tx hsm => br_t rfl (Exists.intro (ln x.1 + 1) ?_))
      · refine h0 (Or.inl ?_) _ nm te _ fo sa on tw co td nu tx _ _ _
        obtain ⟨p, q1, q2⟩ := hbig
        exact ⟨p, q1, by rw [pj_len (B := 74) h74 h74' hm0 hp0 hm hp p q1]; exact q2⟩
      · have h14 : ∀ p, p < 74 → (mt_enc (c p)).length ≤ 14 := by
          intro p hp74
          by_cases z : yl_in (ln x.1) (P x.1) p
          · exact hsm p hp74 z
          · have := un_1 h74' hm hp (fun r r' e h => iS_dep hlib k1 k2 e h) hp74 z
            omega
        have h14' : ∀ p, p < 74 → (mt_enc (c0 p)).length ≤ 14 := fun p hp74 => by rw [pj_len (B := 74) h74 h74' hm0 hp0 hm hp p hp74]; exact h14 p hp74
        have hbn : ∀ t j, t < ln x.1 → kN x.1 t = 4 → j < oc x.1 t → jp (sp x.1) t j < ln x.1 := fun t j ht _ hj => (bw_in l1.2.1 ht hj).2.2
        refine y_gt148 (RS := fld (kN x.1) (vnf vl x.1) (cq (oc x.1) (sp x.1) c0) (ln x.1) 0 I) (n := ln x.1) (kN := kN x.1) (vN := vnf vl x.1) (oc := oc x.1) (sp := sp x.1) (c := c) (qx := cq (oc x.1) (sp x.1) c0) k1 n24 y1 h74' (by omega) (fun t ht => ?_) hw (fun p hp24 _ => h14 p (by omega)) hbn (fun I' te' td' tx' yof yce yin e1 x1 x2 => h1 h14' I' e1 _ nm te' fo sa on tw co td' nu tx' yof yce yin x1 x2) (fun te' ma' td' tx' yof yce yin e0 => h0 (Or.inr e0) _ nm te' ma' fo sa on tw co td' nu tx' yof yce yin) (ln x.1) 0 (ln x.1 + 1) I te td tx _ _ _ (by omega) (by omega) hI h12 rfl
        obtain ⟨z1, z2, z3, z4, _⟩ := y4 t ht
        refine ⟨z1, (l1.2.2.2.2 t ht).1, fun kk => ?_⟩
        obtain ⟨g, g1, g2, g3, g4⟩ := l6 t ht kk
        have ev : vnf vl x.1 t = g := by unfold vnf; rw [g2, nI_clamp (by omega)]
        rw [ev]
        refine ⟨g1, by rw [z2, g2], by rw [g4]; exact (hlib g g1 g3).2.2.1, by rw [g4]; exact ((hly g g1).2 g3).1, fun j hj => ⟨z4 j hj, by have := hbn t j ht kk hj; omega⟩, ?_⟩
        unfold cq
        rw [← cl_go, ← cl_go (mt_encs ((ca_st (jp (sp x.1) t) t (oc x.1 t)).map c))]
        exact congrArg cl_0 (pj_codes h74 h74' hm0 hp0 hm hp _ (fun n hn => by have := ca_lt (B := ln x.1) (fun j hj => hbn t j ht kk hj) ht n hn; omega))
    · exact absurd (S_mono rs2 (by omega)) (e2 rs rs1)
    · have hpj := pj_y (N := 74) (C := fun _ => True) (S := fun _ => True) (Nat.le_refl _) ⟨fun _ _ _ => trivial, fun r hr _ => ⟨r, hr, trivial, fun _ _ => rfl⟩⟩ hF (fun r r' e h => ?_)
      · exact ⟨fun r hr h => ((hpj.1 r hr ((s2 r).mp h)).2), fun r hr h => by obtain ⟨r', w1, w2, w3⟩ := hpj.2 r hr ⟨trivial, h⟩; exact ⟨r', w1, (s2 r').mpr w2, w3⟩⟩
      · have e1 : (List.range (P x.1)).map (fun j => r' (72 + j)) = (List.range (P x.1)).map (fun j => r (72 + j)) := List.map_congr_left (fun j hj => e _ (by have := List.mem_range.mp hj; omega))
        show sc_inst x.2 _
        rw [e1, e 0 (by omega)]; exact h
  rw [e1]
  refine And.intro (pk_in (1000 + P x.1) 1500 (by omega)) (nm_r (e' := nI (st.getD 0 0)) (by rw [nI_clamp (by omega)]; exact p1) ?_)
  have hcy := yc_of g'
  have hex : ∃ r, gr_sat N' K' L' R' r ∧ (∀ j, j < P x.1 → r (72 + j) = r (st.getD j 0)) ∧ r 0 = r (st.getD (P x.1) 0) := ⟨rf, rf3⟩
  rw [hst]
  refine pk_le (P x.1 + 1) 1 (fun z => ?_) (fun z => And.intro ?_ ?_)
  · exact y_gt67 (P := P x.1) (st := st) k1 y3 l3 n1 (by omega) rfl (fun z => by omega) o1 (fun q hq => (hrk q hq).2) hcy hex fin
  · refine pk_in (1000 + (P x.1 - 1)) 1500 (by omega) ?_
    rw [ix_th, show (2 : Int32) = nI 2 from rfl, pk_sub (by omega)]
    exact congrArg nI (by omega)
  · have e2 : ((1000 : Int32) + nI (P x.1 + 1)) - 2 = nI (1000 + (P x.1 - 1)) := by
      rw [ix_th, show (2 : Int32) = nI 2 from rfl, pk_sub (by omega)]
      exact congrArg nI (by omega)
    rw [e2, nI_clamp (n := 1000 + (P x.1 - 1)) (by omega), (hrk 1 (by omega)).1]
    exact y_gt67 (P := P x.1) (st := st) k1 y3 l3 n1 (by omega) rfl (fun z => rfl) o1 (fun q hq => (hrk q hq).2) hcy hex fin
end mk
end
section
variable {f_saidPlace f_instanceCount f_nodeCount f_equationCount f_stackCount f_wordCount f_depth f_cellCount f_consCount f_closureCount f_stepCount f_runAnswer f_writtenCount : Int32} {a_kinds a_values a_spans a_bounds a_binders a_lengths a_parameterCounts a_typeCodes a_typeLengths a_instanceFunctions a_nodeKinds a_nodeLefts a_nodeRights a_nodeSizes a_equationLefts a_equationRights a_stackLefts a_stackRights a_words a_boundWords a_cellFirsts a_cellSeconds a_closureTokens a_closureWords a_written : Nat → Int32}
variable {yf_place yf_points yf_names yf_textEnd yf_made yf_entry yf_waiting yf_values yf_bound yf_cells yf_conses yf_lams yf_steps yf_atWork yf_end yf_writtenCount : Int32} {ya_kind ya_up ya_turn ya_depth ya_value ya_below ya_length ya_parameters ya_codes ya_codeCount ya_form ya_colour ya_same ya_one ya_two ya_todo ya_numbered ya_text ya_ofFunction ya_codeEnd ya_instance ya_token ya_env ya_tag ya_cellEnv ya_boundNext ya_step ya_boundNumber ya_boundTag ya_headTag ya_tailTag ya_number ya_boundValue ya_head ya_tail ya_written : Nat → Int32}
section mk
variable {ln P : Nat → Nat} {kN : Nat → Nat → Nat} {vl : Nat → Nat → Int32} {oc sp bd bi : Nat → Nat → Nat} {cod : Nat → List Nat}
theorem y_mk0 {post : Int32 → SY → Prop} {fu : Nat} {x1 x3 : Int32} (h : wY_make_128 post x1 0 yf_place yf_points yf_names yf_textEnd yf_made yf_entry yf_waiting yf_values yf_bound yf_cells yf_conses yf_lams yf_steps yf_atWork yf_end yf_writtenCount ya_kind ya_up ya_turn ya_depth ya_value ya_below ya_length ya_parameters ya_codes ya_codeCount ya_form ya_colour ya_same ya_one ya_two ya_todo ya_numbered ya_text ya_ofFunction ya_codeEnd ya_instance ya_token ya_env ya_tag ya_cellEnv ya_boundNext ya_step ya_boundNumber ya_boundTag ya_headTag ya_tailTag ya_number ya_boundValue ya_head ya_tail ya_written) : wY_make_104 post x1 (fu + 1) 0 x3 yf_place yf_points yf_names yf_textEnd yf_made yf_entry yf_waiting yf_values yf_bound yf_cells yf_conses yf_lams yf_steps yf_atWork yf_end yf_writtenCount ya_kind ya_up ya_turn ya_depth ya_value ya_below ya_length ya_parameters ya_codes ya_codeCount ya_form ya_colour ya_same ya_one ya_two ya_todo ya_numbered ya_text ya_ofFunction ya_codeEnd ya_instance ya_token ya_env ya_tag ya_cellEnv ya_boundNext ya_step ya_boundNumber ya_boundTag ya_headTag ya_tailTag ya_number ya_boundValue ya_head ya_tail ya_written :=
  br_c (fun _ => h) (fun _ => br_t rfl h)
theorem y_mk104 {post : Int32 → SY → Prop} {x1 : Int32} {RS : Option (List (Nat × List Nat))} (hlib : lib ln P kN vl oc sp bd bi cod) (h24 : ∀ g, g < 5 → ln g ≤ 24) (hly : ly_ok ln P kN vl oc sp bd cod ya_kind ya_value ya_up ya_turn ya_depth ya_below ya_length ya_parameters ya_codes ya_codeCount)
    (h1 : ∀ I', RS = some I' → ∀ pt nm te fo sa on tw co td nu tx yof yce yin, yI I' yof yce yin → I'.length ≤ 12 → (∀ x ∈ I', in_ok ln P cod x) →
      wY_make_128 post x1 1 yf_place pt nm te (nI I'.length) yf_entry yf_waiting yf_values yf_bound yf_cells yf_conses yf_lams yf_steps yf_atWork yf_end yf_writtenCount ya_kind ya_up ya_turn ya_depth ya_value ya_below ya_length ya_parameters ya_codes ya_codeCount fo co sa on tw td nu tx yof yce yin ya_token ya_env ya_tag ya_cellEnv ya_boundNext ya_step ya_boundNumber ya_boundTag ya_headTag ya_tailTag ya_number ya_boundValue ya_head ya_tail ya_written)
    (h0 : RS = none → ∀ pt nm te ma fo sa on tw co td nu tx yof yce yin,
      wY_make_128 post x1 0 yf_place pt nm te ma yf_entry yf_waiting yf_values yf_bound yf_cells yf_conses yf_lams yf_steps yf_atWork yf_end yf_writtenCount ya_kind ya_up ya_turn ya_depth ya_value ya_below ya_length ya_parameters ya_codes ya_codeCount fo co sa on tw td nu tx yof yce yin ya_token ya_env ya_tag ya_cellEnv ya_boundNext ya_step ya_boundNumber ya_boundTag ya_headTag ya_tailTag ya_number ya_boundValue ya_head ya_tail ya_written) :
    ∀ k i fu I pt nm te fo sa on tw co td nu tx yof yce yin, i < 100 → k < fu → i + k < 100 → yI I yof yce yin → I.length ≤ 12 → (∀ x ∈ I, in_ok ln P cod x) → mk_is ln P kN vl oc sp bd bi cod k i I RS →
      wY_make_104 post x1 fu 1 (nI i) yf_place pt nm te (nI I.length) yf_entry yf_waiting yf_values yf_bound yf_cells yf_conses yf_lams yf_steps yf_atWork yf_end yf_writtenCount ya_kind ya_up ya_turn ya_depth ya_value ya_below ya_length ya_parameters ya_codes ya_codeCount fo co sa on tw td nu tx yof yce yin ya_token ya_env ya_tag ya_cellEnv ya_boundNext ya_step ya_boundNumber ya_boundTag ya_headTag ya_tailTag ya_number ya_boundValue ya_head ya_tail ya_written := by
  intro k
  induction k with
  | zero => intro i fu I pt nm te fo sa on tw co td nu tx yof yce yin _ _ _ _ _ _ h; exact h.elim
  | succ k ih =>
    intro i fu I pt nm te fo sa on tw co td nu tx yof yce yin hi hfu hik hI h12 hok hmk
    obtain ⟨fu, rfl⟩ : ∃ g, fu = g + 1 := ⟨fu - 1, by omega⟩
    rcases hmk with ⟨z, e⟩ | ⟨z, N, Sol, c, h74, hm, hp, hh⟩
    · exact br_t (nI_le z (by omega)) (h1 I e pt nm te fo sa on tw co td nu tx yof yce yin hI h12 hok)
    · have hx := hok _ (mem_gd (d := (0, [])) z)
      have bad : RS = none → ∀ pt nm te ma fo sa on tw co td nu tx yof yce yin, wY_make_104 post x1 fu 0 (nI i + 1) yf_place pt nm te ma yf_entry yf_waiting yf_values yf_bound yf_cells yf_conses yf_lams yf_steps yf_atWork yf_end yf_writtenCount ya_kind ya_up ya_turn ya_depth ya_value ya_below ya_length ya_parameters ya_codes ya_codeCount fo co sa on tw td nu tx yof yce yin ya_token ya_env ya_tag ya_cellEnv ya_boundNext ya_step ya_boundNumber ya_boundTag ya_headTag ya_tailTag ya_number ya_boundValue ya_head ya_tail ya_written := by
        intro e pt nm te ma fo sa on tw co td nu tx yof yce yin
        obtain ⟨fu, rfl⟩ : ∃ g, fu = g + 1 := ⟨fu - 1, by omega⟩
        exact y_mk0 (h0 e pt nm te ma fo sa on tw co td nu tx yof yce yin)
      refine br_f (nI_ge z (by omega)) (br_f n1_0 ?_)
      refine y_goThrough (I := I) (i := i) (N0 := N) (Sol0 := Sol) (c0 := c) hlib h24 hly hI h12 z hx h74 hm hp (fun hz pt nm te ma fo sa on tw co td nu tx yof yce yin => nm_e (bad ?_ pt nm te ma fo sa on tw co td nu tx yof yce yin)) (fun hs I' e1 pt nm te fo sa on tw co td nu tx yof yce yin x1' x2' => ?_)
      · rcases hh with ⟨_, e⟩ | ⟨q1, ⟨_, e⟩ | ⟨I', e1, _⟩⟩
        · exact e
        · exact e
        · exfalso
          rcases hz with ⟨p, p1, p2⟩ | hz
          · have := q1 p p1; omega
          · rw [hz] at e1; cases e1
      · rcases hh with ⟨⟨p, p1, p2⟩, _⟩ | ⟨q1, ⟨e, _⟩ | ⟨I2, e2, hmk⟩⟩
        · have := hs p p1; omega
        · rw [e] at e1; cases e1
        · rw [e1] at e2
          injection e2 with e2
          subst e2
          refine nm_r (nI_1 i) (ih (i + 1) fu I' pt nm te fo sa on tw co td nu tx yof yce yin (by omega) (by omega) (by omega) x1' x2' (fun y hy => ?_) hmk)
          obtain ⟨J, j1, j2⟩ := fld_ext (p := in_ok ln P cod) _ 0 I I' (fun s _ hs' k4 => in_call hlib hx hm hp hs (by omega) k4) e1
          rw [j1] at hy
          rcases List.mem_append.mp hy with w | w
          · exact hok y w
          · exact j2 y w
/-- the first g rows are kept -/
def ck_ok (ln P : Nat → Nat) (kN : Nat → Nat → Nat) (vl : Nat → Nat → Int32) (oc sp : Nat → Nat → Nat) (G : Nat) (ki va up tu de be len par ki' va' up' tu' de' be' len' par' : Nat → Int32) : Prop :=
  (∀ g, g < G → ln g ≠ 0 → par' (6 + g) = nI (P g) ∧ ∀ t, t < ln g → ki' (24 * (6 + g) + t) = nI (kN g t) ∧ va' (24 * (6 + g) + t) = vl g t ∧ ∀ j, j < oc g t → be' (72 * (6 + g) + 3 * t + j) = nI (jp (sp g) t j)) ∧
  (∀ j, j < 144 → ki' j = ki j ∧ va' j = va j ∧ up' j = up j ∧ tu' j = tu j ∧ de' j = de j) ∧ (∀ j, j < 432 → be' j = be j) ∧ (∀ j, j < 6 → len' j = len j ∧ par' j = par j)
theorem y_mk152 {post : Int32 → SY → Prop} (hlib : lib ln P kN vl oc sp bd bi cod) (h24 : ∀ g, g < 5 → ln g ≤ 24) (hly : ly_ok ln P kN vl oc sp bd cod ya_kind ya_value ya_up ya_turn ya_depth ya_below ya_length ya_parameters ya_codes ya_codeCount)
    (hP : ∀ ki va up tu de be len par, ck_ok ln P kN vl oc sp 5 ya_kind ya_value ya_up ya_turn ya_depth ya_below ya_length ya_parameters ki va up tu de be len par → post 0 (yf_place, yf_points, yf_names, yf_textEnd, yf_made, yf_entry, yf_waiting, yf_values, yf_bound, yf_cells, yf_conses, yf_lams, yf_steps, yf_atWork, yf_end, yf_writtenCount, ki, up, tu, de, va, be, len, par, ya_codes, ya_codeCount, ya_form, ya_colour, ya_same, ya_one, ya_two, ya_todo, ya_numbered, ya_text, ya_ofFunction, ya_codeEnd, ya_instance, ya_token, ya_env, ya_tag, ya_cellEnv, ya_boundNext, ya_step, ya_boundNumber, ya_boundTag, ya_headTag, ya_tailTag, ya_number, ya_boundValue, ya_head, ya_tail, ya_written)) :
    ∀ q g fu ki va up tu de be len par, g + q = 5 → q < fu → ck_ok ln P kN vl oc sp g ya_kind ya_value ya_up ya_turn ya_depth ya_below ya_length ya_parameters ki va up tu de be len par →
      wY_make_152 post 1 fu (nI g) yf_place yf_points yf_names yf_textEnd yf_made yf_entry yf_waiting yf_values yf_bound yf_cells yf_conses yf_lams yf_steps yf_atWork yf_end yf_writtenCount ki up tu de va be len par ya_codes ya_codeCount ya_form ya_colour ya_same ya_one ya_two ya_todo ya_numbered ya_text ya_ofFunction ya_codeEnd ya_instance ya_token ya_env ya_tag ya_cellEnv ya_boundNext ya_step ya_boundNumber ya_boundTag ya_headTag ya_tailTag ya_number ya_boundValue ya_head ya_tail ya_written := by
  intro q
  induction q with
  | zero =>
    intro g fu ki va up tu de be len par hg hfu h
    obtain ⟨fu, rfl⟩ : ∃ g, fu = g + 1 := ⟨fu - 1, by omega⟩
    have e : g = 5 := by omega
    subst e
    exact br_t (nI_le (a := 5) (by omega) (by omega)) (br_f n1_0 (hP ki va up tu de be len par h))
  | succ q ih =>
    intro g fu ki va up tu de be len par hg hfu h
    obtain ⟨fu, rfl⟩ : ∃ g, fu = g + 1 := ⟨fu - 1, by omega⟩
    obtain ⟨c1, c2, c3, c4⟩ := h
    refine br_f (nI_ge (b := 5) (by omega) (by omega)) (br_f n1_0 ?_)
    rw [show (6 : Int32) + nI g = nI (6 + g) from nI_add 6 g]
    refine y_copy (F := g) (T := 6 + g) (by omega) (by omega) (by omega) (fun ki' va' up' tu' de' be' hk => nm_r (nI_1 g) (ih (g + 1) fu ki' va' up' tu' de' be' _ _ (by omega) (by omega) ⟨fun h' hh hl => ?_, fun j hj => ?_, fun j hj => ?_, fun j hj => ?_⟩))
    · have n24 := h24 h' (by omega)
      obtain ⟨b1, _⟩ := hlib h' (by omega) hl
      by_cases z : h' = g
      · subst z
        obtain ⟨y3, y4, _⟩ := (hly h' (by omega)).2 hl
        have hp2 := (hlib h' (by omega) hl).2.2.1
        rw [pk_us, (c4 h' (by omega)).2, y3, nr_b0 (by omega)]
        refine ⟨rfl, fun t ht => ?_⟩
        obtain ⟨z1, z2, z3, z4, _⟩ := y4 t ht
        obtain ⟨d1, d2, _⟩ := hk.1 t (by omega)
        obtain ⟨f1, f2, f3, f4, f5, f6⟩ := b1.2.2.2.2 t ht
        rw [d1, d2, (c2 _ (by omega)).1, (c2 _ (by omega)).2.1, z1, z2]
        refine ⟨nr_b0 (by omega), rfl, fun j hj => ?_⟩
        have h1 := hk.2.1 (3 * t + j) (by omega)
        have h2 := (bw_in b1.2.1 ht hj).2.2
        rw [← Nat.add_assoc, ← Nat.add_assoc, c3 _ (by omega), z4 j hj] at h1
        rw [h1]; exact nr_s0 (by omega)
      · obtain ⟨a1, a2⟩ := c1 h' (by omega) hl
        rw [pk_un (by omega)]
        refine ⟨a1, fun t ht => ?_⟩
        obtain ⟨e1, e2, _⟩ := hk.2.2.1 (24 * (6 + h') + t) (by omega)
        obtain ⟨q1, q2, q3⟩ := a2 t ht
        rw [e1, e2]
        refine ⟨q1, q2, fun j hj => ?_⟩
        have := (b1.2.2.2.2 t ht).2.1
        rw [hk.2.2.2 _ (by omega)]; exact q3 j hj
    · obtain ⟨e1, e2, e3, e4, e5⟩ := hk.2.2.1 j (by omega)
      rw [e1, e2, e3, e4, e5]; exact c2 j hj
    · rw [hk.2.2.2 j (by omega)]; exact c3 j hj
    · rw [pk_un (by omega), pk_un (by omega)]; exact c4 j hj
theorem y_mk45 {post : Int32 → SY → Prop} {f : Nat} {Lc : List Nat} (hf : f < 5) (h14 : Lc.length ≤ 14) (h60 : ∀ k, k < Lc.length → Lc.getD k 0 < 60) (hco : ∀ k, k < Lc.length → ya_codes (48 * f + k) = nI (Lc.getD k 0))
    (hP : ∀ fu tx, (∀ k, k < Lc.length → tx k = nI ((cl_0 Lc).getD k 0)) → wY_make_45 post (nI f) yf_place yf_points yf_names (nI Lc.length) yf_made yf_entry yf_waiting yf_values yf_bound yf_cells yf_conses yf_lams yf_steps yf_atWork yf_end yf_writtenCount (fu + 1) (nI Lc.length) ya_kind ya_up ya_turn ya_depth ya_value ya_below ya_length ya_parameters ya_codes ya_codeCount ya_form ya_colour ya_same ya_one ya_two ya_todo ya_numbered tx ya_ofFunction ya_codeEnd ya_instance ya_token ya_env ya_tag ya_cellEnv ya_boundNext ya_step ya_boundNumber ya_boundTag ya_headTag ya_tailTag ya_number ya_boundValue ya_head ya_tail ya_written) :
    ∀ q k fu tx, k + q = Lc.length → q < fu → (∀ i, i < k → tx i = nI ((cl_0 Lc).getD i 0)) → wY_make_45 post (nI f) yf_place yf_points yf_names (nI Lc.length) yf_made yf_entry yf_waiting yf_values yf_bound yf_cells yf_conses yf_lams yf_steps yf_atWork yf_end yf_writtenCount fu (nI k) ya_kind ya_up ya_turn ya_depth ya_value ya_below ya_length ya_parameters ya_codes ya_codeCount ya_form ya_colour ya_same ya_one ya_two ya_todo ya_numbered tx ya_ofFunction ya_codeEnd ya_instance ya_token ya_env ya_tag ya_cellEnv ya_boundNext ya_step ya_boundNumber ya_boundTag ya_headTag ya_tailTag ya_number ya_boundValue ya_head ya_tail ya_written := by
  intro q
  induction q with
  | zero =>
    intro k fu tx hk hfu h
    obtain ⟨fu, rfl⟩ : ∃ g, fu = g + 1 := ⟨fu - 1, by omega⟩
    have e : k = Lc.length := by omega
    subst e
    exact hP fu tx h
  | succ q ih =>
    intro k fu tx hk hfu h
    obtain ⟨fu, rfl⟩ : ∃ g, fu = g + 1 := ⟨fu - 1, by omega⟩
    have e48 : (48 : Int32) * nI f + nI k = nI (48 * f + k) := by rw [show (48 : Int32) * nI f = nI (48 * f) from pk_mul 48 f, nI_add]
    have c48 : (nI (48 * f + k)).toNatClampNeg = 48 * f + k := nI_clamp (by omega)
    have h60' := h60 k (by omega)
    have cg := cl_gd Lc k (by omega)
    have fin : ∀ x : Int32, x = nI ((cl_0 Lc).getD k 0) → wY_make_45 post (nI f) yf_place yf_points yf_names (nI Lc.length) yf_made yf_entry yf_waiting yf_values yf_bound yf_cells yf_conses yf_lams yf_steps yf_atWork yf_end yf_writtenCount fu (nI (k + 1)) ya_kind ya_up ya_turn ya_depth ya_value ya_below ya_length ya_parameters ya_codes ya_codeCount ya_form ya_colour ya_same ya_one ya_two ya_todo ya_numbered (upd tx k x) ya_ofFunction ya_codeEnd ya_instance ya_token ya_env ya_tag ya_cellEnv ya_boundNext ya_step ya_boundNumber ya_boundTag ya_headTag ya_tailTag ya_number ya_boundValue ya_head ya_tail ya_written := by
      intro x hx
      refine ih (k + 1) fu _ (by omega) (by omega) (fun i hi => ?_)
      by_cases z : i = k
      · rw [z, pk_us, hx]
      · rw [pk_un z]; exact h i (by omega)
    refine br_f (nI_ge (by omega) (by omega)) (And.intro (pk_in (48 * f + k) 240 (by omega) e48) ?_)
    rw [e48, c48, hco k (by omega)]
    refine pk_le (Lc.getD k 0) 9 (fun z => And.intro (pk_in (48 * f + k) 240 (by omega)) (And.intro (pk_in k 50 (by omega)) (nm_r (e' := upd tx k (nI (Lc.getD k 0))) (by rw [nI_clamp (by omega), nr_b0 (by omega)]) (nm_r (nI_1 k) (fin _ (by rw [cg, if_pos (by omega)])))))) (fun z => And.intro (pk_in k 50 (by omega)) (nm_r (e' := upd tx k 0) (by rw [nI_clamp (by omega)]; exact congrArg _ (nr_b0 (n := 0) (by omega))) (nm_r (nI_1 k) (fin _ (by rw [cg, if_neg (by omega)]; rfl)))))
theorem y_make {post : Int32 → SY → Prop} {f : Nat} {RS : Option (List (Nat × List Nat))} (hf : f < 5) (hl : ln f ≠ 0) (hP0 : P f = 0) (hlib : lib ln P kN vl oc sp bd bi cod) (h24 : ∀ g, g < 5 → ln g ≤ 24) (hly : ly_ok ln P kN vl oc sp bd cod ya_kind ya_value ya_up ya_turn ya_depth ya_below ya_length ya_parameters ya_codes ya_codeCount)
    (hin : in_ok ln P cod (f, cl_0 (cod f))) (hmk : mk_is ln P kN vl oc sp bd bi cod 13 0 [(f, cl_0 (cod f))] RS)
    (h1 : ∀ I', RS = some I' → ∀ pt nm te fo sa on tw co td nu tx yof yce yin ki va up tu de be len par, yI I' yof yce yin → I'.length ≤ 12 → (∀ x ∈ I', in_ok ln P cod x) → ck_ok ln P kN vl oc sp 5 ya_kind ya_value ya_up ya_turn ya_depth ya_below ya_length ya_parameters ki va up tu de be len par →
      post 0 (yf_place, pt, nm, te, (nI I'.length), (nI f), yf_waiting, yf_values, yf_bound, yf_cells, yf_conses, yf_lams, yf_steps, yf_atWork, yf_end, yf_writtenCount, ki, up, tu, de, va, be, len, par, ya_codes, ya_codeCount, fo, co, sa, on, tw, td, nu, tx, yof, yce, yin, ya_token, ya_env, ya_tag, ya_cellEnv, ya_boundNext, ya_step, ya_boundNumber, ya_boundTag, ya_headTag, ya_tailTag, ya_number, ya_boundValue, ya_head, ya_tail, ya_written))
    (h0 : RS = none → ∀ pt nm te fo sa on tw co td nu tx yof yce yin,
      post 4 (yf_place, pt, nm, te, 0, (-1), yf_waiting, yf_values, yf_bound, yf_cells, yf_conses, yf_lams, yf_steps, yf_atWork, yf_end, yf_writtenCount, ya_kind, ya_up, ya_turn, ya_depth, ya_value, ya_below, ya_length, ya_parameters, ya_codes, ya_codeCount, fo, co, sa, on, tw, td, nu, tx, yof, yce, yin, ya_token, ya_env, ya_tag, ya_cellEnv, ya_boundNext, ya_step, ya_boundNumber, ya_boundTag, ya_headTag, ya_tailTag, ya_number, ya_boundValue, ya_head, ya_tail, ya_written)) :
    wpY_make post (yf_place, yf_points, yf_names, yf_textEnd, yf_made, yf_entry, yf_waiting, yf_values, yf_bound, yf_cells, yf_conses, yf_lams, yf_steps, yf_atWork, yf_end, yf_writtenCount, ya_kind, ya_up, ya_turn, ya_depth, ya_value, ya_below, ya_length, ya_parameters, ya_codes, ya_codeCount, ya_form, ya_colour, ya_same, ya_one, ya_two, ya_todo, ya_numbered, ya_text, ya_ofFunction, ya_codeEnd, ya_instance, ya_token, ya_env, ya_tag, ya_cellEnv, ya_boundNext, ya_step, ya_boundNumber, ya_boundTag, ya_headTag, ya_tailTag, ya_number, ya_boundValue, ya_head, ya_tail, ya_written) (nI f) := by
  obtain ⟨y1, y2⟩ := hly f hf
  obtain ⟨y3, y4, y5, y6⟩ := y2 hl
  obtain ⟨_, _, _, _, _, _, _, l8, l9, _⟩ := hlib f hf hl
  rw [hP0] at l8 y3
  have h24f := h24 f hf
  have cf : (nI f).toNatClampNeg = f := nI_clamp (by omega)
  unfold wpY_make
  refine y_out (fun z => ?_) (fun _ _ => br_t rfl (And.intro (pk_in f 11 (by omega)) ?_))
  · rcases z with z | z
    · exact absurd z (lt0_n (by omega))
    · exact absurd (nI_lt (b := 5) (by omega) (by omega)) z
  rw [cf, y1]
  refine br_f (fun w => hl ((nI0 (by omega)).mp w)) (And.intro (pk_in f 11 (by omega)) ?_)
  rw [y3]
  refine br_t (by decide) (And.intro (pk_in f 5 hf) (nm_r y5 (Exists.intro ((cod f).length + 1) ?_)))
  refine y_mk45 (yf_made := 0) (Lc := cod f) hf (by omega) l9 y6 (fun fu tx htx => br_t (nI_le (Nat.le_refl _) (by omega)) ?_) (cod f).length 0 ((cod f).length + 1) ya_text (by omega) (by omega) (fun i hi => by omega)
  rw [← cl_len (cod f)]
  refine y_meet (ya_text := tx) (I := []) (g := f) (Q := cl_0 (cod f)) (fun i hi => absurd hi (by simp)) (by simp) hf (by rw [cl_len]; omega) (fun k hk => by rw [cl_len] at hk; exact ⟨htx k hk, cl_60 _ k hk⟩) (fun I' yof yce yin e1 x1 x2 => ?_) (fun e0 => ?_)
  · have eI : I' = [(f, cl_0 (cod f))] := by
      unfold ins at e1
      rw [if_neg (by simp), if_neg (by simp)] at e1
      injection e1 with e1
      exact e1.symm
    subst eI
    refine Exists.intro 14 (y_mk104 (RS := RS) hlib h24 hly (fun I' eR pt nm te fo sa on tw co td nu tx yof yce yin q1 q2 q3 => ?_) (fun eR pt nm te ma fo sa on tw co td nu tx yof yce yin => ?_) 13 0 14 _ _ _ _ _ _ _ _ _ _ _ tx yof yce yin (by omega) (by omega) (by omega) x1 x2 (fun x hx => ?_) hmk)
    · refine br_f n1_0 (br_f n1_0 (Exists.intro 6 ?_))
      exact y_mk152 hlib h24 hly (fun ki va up tu de be len par hk => h1 I' eR pt nm te fo sa on tw co td nu tx yof yce yin ki va up tu de be len par q1 q2 q3 hk) 5 0 6 _ _ _ _ _ _ _ _ (by omega) (by omega) ⟨fun g hg => by omega, fun _ _ => ⟨rfl, rfl, rfl, rfl, rfl⟩, fun _ _ => rfl, fun _ _ => ⟨rfl, rfl⟩⟩
    · exact br_t rfl (br_t rfl (Exists.intro 1 (br_f (by decide) (br_t rfl (br_t rfl (h0 eR pt nm te fo sa on tw co td nu tx yof yce yin))))))
    · simp at hx; rw [hx]; exact hin
  · exfalso
    unfold ins at e0
    rw [if_neg (by simp), if_neg (by simp)] at e0
    cases e0
theorem x_make {post : Int32 → SX → Prop} {f : Nat} (hf : f < 5) (hl : ln f ≠ 0) (hP0 : P f = 0) (hlib : lib ln P kN vl oc sp bd bi cod) (hlx : lx_ok ln P kN vl sp bd bi cod a_kinds a_values a_spans a_bounds a_binders a_lengths a_parameterCounts a_typeCodes a_typeLengths) (hin : in_ok ln P cod (f, cl_0 (cod f)))
    (h1 : ∀ I' nc ec sc ifn tc tl K nl nr sz el er sl sr ki va spa bou len pc, mk_is ln P kN vl oc sp bd bi cod 13 0 [(f, cl_0 (cod f))] (some I') → xI I' ifn tc tl → I'.length ≤ 12 → lw_same a_typeCodes a_typeLengths tc tl →
      kp_ok ln (fun g _ => g < 5) a_kinds a_values a_spans a_bounds ki va spa bou → (∀ g, g < 5 → len (5 + g) = a_lengths g ∧ pc (5 + g) = a_parameterCounts g) → (∀ j, j < 5 ∨ 10 ≤ j → len j = a_lengths j ∧ pc j = a_parameterCounts j) →
      post 0 (f_saidPlace, (nI I'.length), nc, ec, sc, f_wordCount, f_depth, f_cellCount, f_consCount, f_closureCount, f_stepCount, f_runAnswer, f_writtenCount, ki, va, spa, bou, a_binders, len, pc, tc, tl, ifn, K, nl, nr, sz, el, er, sl, sr, a_words, a_boundWords, a_cellFirsts, a_cellSeconds, a_closureTokens, a_closureWords, a_written))
    (h0 : ∀ nc ec sc ifn tc tl K nl nr sz el er sl sr, mk_is ln P kN vl oc sp bd bi cod 13 0 [(f, cl_0 (cod f))] none → lw_same a_typeCodes a_typeLengths tc tl →
      post 4 (f_saidPlace, 0, nc, ec, sc, f_wordCount, f_depth, f_cellCount, f_consCount, f_closureCount, f_stepCount, f_runAnswer, f_writtenCount, a_kinds, a_values, a_spans, a_bounds, a_binders, a_lengths, a_parameterCounts, tc, tl, ifn, K, nl, nr, sz, el, er, sl, sr, a_words, a_boundWords, a_cellFirsts, a_cellSeconds, a_closureTokens, a_closureWords, a_written)) :
    wpX_make post (f_saidPlace, f_instanceCount, f_nodeCount, f_equationCount, f_stackCount, f_wordCount, f_depth, f_cellCount, f_consCount, f_closureCount, f_stepCount, f_runAnswer, f_writtenCount, a_kinds, a_values, a_spans, a_bounds, a_binders, a_lengths, a_parameterCounts, a_typeCodes, a_typeLengths, a_instanceFunctions, a_nodeKinds, a_nodeLefts, a_nodeRights, a_nodeSizes, a_equationLefts, a_equationRights, a_stackLefts, a_stackRights, a_words, a_boundWords, a_cellFirsts, a_cellSeconds, a_closureTokens, a_closureWords, a_written) (nI f) := by
  obtain ⟨x1, x2, x3⟩ := hlx f hf
  obtain ⟨x4, x5, x6⟩ := x3 hl
  have cf : (nI f).toNatClampNeg = f := nI_clamp (by omega)
  have hl14 := (hlib f hf hl).2.2.2.2.2.2.2.1
  rw [hP0] at x4 hl14
  refine br_f (lt0_n (by omega)) (br_f (nI_ge (b := 5) (by omega) (by omega)) (And.intro (pk_in f 11 (by omega)) ?_))
  rw [cf, x1]
  refine br_f (fun w => hl ((nI0 (by omega)).mp w)) (And.intro (pk_in f 11 (by omega)) ?_)
  rw [x4]
  refine br_t rfl (x_beginInstances (Lc := cod f) hf x6 (fun tc k1 k2 => Exists.intro 14 ?_))
  refine x_mk38 (tc0 := a_typeCodes) (tl0 := a_typeLengths) (i0 := 0) (I0 := [(f, cl_0 (cod f))]) hlib hlx (fun I' nc ec sc ifn tc tl K nl nr sz el er sl sr q1 q2 q3 q4 => br_f n1_0 ?_) (fun ic nc ec sc ifn tc tl K nl nr sz el er sl sr q1 q2 => br_t rfl (h0 nc ec sc ifn tc tl K nl nr sz el er sl sr q1 q2)) 12 0 14 [(f, cl_0 (cod f))] _ _ _ _ tc _ _ _ _ _ _ _ _ _ (by omega) (by omega) (fun i hi => ?_) (by simp) (fun x hx => by simp at hx; rw [hx]; exact hin) ⟨fun j hj => k2 j (by omega), fun j hj => pk_un (by omega)⟩ (fun R h => h)
  · exact x_keepBodies (ln := ln) (fun g hg => (hlx g hg).2.1) (fun g hg => (hlx g hg).1) (fun ki va spa bou len pc w1 w2 w3 => h1 I' nc ec sc ifn tc tl K nl nr sz el er sl sr ki va spa bou len pc q1 q2 q3 q4 w1 w2 w3)
  · have e : i = 0 := by simp at hi; omega
    subst e
    refine ⟨hf, pk_us, by omega, by rw [show ([(f, cl_0 (cod f))] : List (Nat × List Nat)).getD 0 (0, []) = (f, cl_0 (cod f)) from rfl, cl_len]; omega, ?_, fun k hk => ?_⟩
    · show upd a_typeLengths 5 _ 5 = nI (cl_0 (cod f)).length
      rw [pk_us, cl_len]
    · have hk' : k < (cod f).length := by rw [← cl_len]; exact hk
      exact ⟨k1 k hk', by have := cl_60 (cod f) k hk'; exact Nat.lt_trans this (by omega)⟩
end mk
end
section
variable {f_saidPlace f_instanceCount f_nodeCount f_equationCount f_stackCount f_wordCount f_depth f_cellCount f_consCount f_closureCount f_stepCount f_runAnswer f_writtenCount : Int32} {a_kinds a_values a_spans a_bounds a_binders a_lengths a_parameterCounts a_typeCodes a_typeLengths a_instanceFunctions a_nodeKinds a_nodeLefts a_nodeRights a_nodeSizes a_equationLefts a_equationRights a_stackLefts a_stackRights a_words a_boundWords a_cellFirsts a_cellSeconds a_closureTokens a_closureWords a_written : Nat → Int32}
variable {yf_place yf_points yf_names yf_textEnd yf_made yf_entry yf_waiting yf_values yf_bound yf_cells yf_conses yf_lams yf_steps yf_atWork yf_end yf_writtenCount : Int32} {ya_kind ya_up ya_turn ya_depth ya_value ya_below ya_length ya_parameters ya_codes ya_codeCount ya_form ya_colour ya_same ya_one ya_two ya_todo ya_numbered ya_text ya_ofFunction ya_codeEnd ya_instance ya_token ya_env ya_tag ya_cellEnv ya_boundNext ya_step ya_boundNumber ya_boundTag ya_headTag ya_tailTag ya_number ya_boundValue ya_head ya_tail ya_written : Nat → Int32}
section mk
variable {ln P : Nat → Nat} {kN : Nat → Nat → Nat} {vl : Nat → Nat → Int32} {oc sp bd bi : Nat → Nat → Nat} {cod : Nat → List Nat}
theorem in_first (hlib : lib ln P kN vl oc sp bd bi cod) {f : Nat} (hf : f < 5) (hl : ln f ≠ 0) : in_ok ln P cod (f, cl_0 (cod f)) := by
  obtain ⟨_, _, _, _, _, _, ⟨ts, t1, t2, t3⟩, l8, l9, _⟩ := hlib f hf hl
  refine ⟨hf, hl, by rw [cl_len]; exact l8, fun k hk => cl_60 _ k (by rw [← cl_len]; exact hk), ts.map (mt_sub (fun _ => .leaf 0)), fun t ht => ?_, by rw [cl_encs ts t1, t2], by rw [List.length_map, t3], ⟨ts, t1, t2, fun _ => .leaf 0, fun _ => mt_wf0, rfl⟩⟩
  obtain ⟨z, hz, rfl⟩ := List.mem_map.mp ht
  exact mt_sub_wf (fun _ => mt_wf0) _ (t1 z hz)
theorem mk_ext : ∀ k i I I', mk_is ln P kN vl oc sp bd bi cod k i I (some I') → ∃ J, I' = I ++ J := by
  intro k
  induction k with
  | zero => intro i I I' h; exact h.elim
  | succ k ih =>
    intro i I I' h
    rcases h with ⟨_, e⟩ | ⟨_, _, _, _, _, _, _, ⟨_, e⟩ | ⟨_, ⟨_, e⟩ | ⟨I1, e1, h1⟩⟩⟩
    · injection e with e; exact ⟨[], by rw [e, List.append_nil]⟩
    · cases e
    · cases e
    · obtain ⟨J, j1⟩ := ih (i + 1) I1 I' h1
      obtain ⟨J', j2, _⟩ := fld_ext (p := fun _ => True) _ 0 I I1 (fun _ _ _ _ => trivial) e1
      exact ⟨J' ++ J, by rw [j1, j2, List.append_assoc]⟩
theorem lib_T0 (hlib : lib ln P kN vl oc sp bd bi cod) {f : Nat} (hf : f < 5) (hl : ln f ≠ 0) (hP0 : P f = 0) : ∃ T0, mt_wf T0 ∧ cl_0 (cod f) = mt_enc T0 ∧ sc_inst (cod f) [T0] ∧ (mt_enc T0).length ≤ 14 := by
  obtain ⟨_, _, _, _, _, _, ⟨ts, t1, t2, t3⟩, l8, l9, _⟩ := hlib f hf hl
  rw [hP0] at t3 l8
  obtain ⟨T, rfl⟩ : ∃ T, ts = [T] := List.length_eq_one_iff.mp t3
  have hT := t1 T (by simp)
  have e : mt_enc (mt_sub (fun _ => .leaf 0) T) = cl_0 (cod f) := by
    have := cl_encs [T] t1
    rw [t2] at this
    simpa [mt_encs] using this
  exact ⟨mt_sub (fun _ => .leaf 0) T, mt_sub_wf (fun _ => mt_wf0) _ hT, e.symm, ⟨[T], t1, t2, fun _ => .leaf 0, fun _ => mt_wf0, rfl⟩, by rw [e, cl_len]; omega⟩
theorem lx_arr {ki va spa bou bin len pc tc tl ki' va' spa' bou' len' pc' : Nat → Int32} (h : lx_ok ln P kN vl sp bd bi cod ki va spa bou bin len pc tc tl) (h1 : ∀ j, j < 120 → ki' j = ki j ∧ va' j = va j ∧ spa' j = spa j ∧ bou' j = bou j) (h2 : ∀ j, j < 5 → len' j = len j ∧ pc' j = pc j) : lx_ok ln P kN vl sp bd bi cod ki' va' spa' bou' bin len' pc' tc tl := by
  intro g hg
  obtain ⟨a, b, c⟩ := h g hg
  rw [(h2 g hg).1, (h2 g hg).2]
  refine ⟨a, b, fun hl => ?_⟩
  obtain ⟨d, e, r⟩ := c hl
  refine ⟨d, fun t ht => ?_, r⟩
  obtain ⟨q1, q2, q3, q4⟩ := h1 (g * 24 + t) (by omega)
  rw [q1, q2, q3, q4]; exact e t ht
theorem ly_arr {ki va up tu de be len par co cn ki' va' up' tu' de' be' len' par' : Nat → Int32} (hlib : lib ln P kN vl oc sp bd bi cod) (h : ly_ok ln P kN vl oc sp bd cod ki va up tu de be len par co cn) (h1 : ∀ j, j < 120 → ki' j = ki j ∧ va' j = va j ∧ up' j = up j ∧ tu' j = tu j ∧ de' j = de j) (h2 : ∀ j, j < 360 → be' j = be j) (h3 : ∀ j, j < 5 → len' j = len j ∧ par' j = par j) :
    ly_ok ln P kN vl oc sp bd cod ki' va' up' tu' de' be' len' par' co cn := by
  intro g hg
  obtain ⟨a, c⟩ := h g hg
  rw [(h3 g hg).1, (h3 g hg).2]
  refine ⟨a, fun hl => ?_⟩
  obtain ⟨d, e, r⟩ := c hl
  have hb := (hlib g hg hl).1
  exact ⟨d, yb_congr hb.1 (fun t ht => (hb.2.2.2.2 t ht).2.1) e (fun j j1 j2 => h1 j (by omega)) (fun j j1 j2 => h2 j (by omega)), r⟩
end mk
theorem mk_rel {f : Nat} (hf : f < 5) (hR : rel f_saidPlace f_instanceCount f_nodeCount f_equationCount f_stackCount f_wordCount f_depth f_cellCount f_consCount f_closureCount f_stepCount f_runAnswer f_writtenCount a_kinds a_values a_spans a_bounds a_binders a_lengths a_parameterCounts a_typeCodes a_typeLengths a_instanceFunctions a_nodeKinds a_nodeLefts a_nodeRights a_nodeSizes a_equationLefts a_equationRights a_stackLefts a_stackRights a_words a_boundWords a_cellFirsts a_cellSeconds a_closureTokens a_closureWords a_written yf_place yf_points yf_names yf_textEnd yf_made yf_entry yf_waiting yf_values yf_bound yf_cells yf_conses yf_lams yf_steps yf_atWork yf_end yf_writtenCount ya_kind ya_up ya_turn ya_depth ya_value ya_below ya_length ya_parameters ya_codes ya_codeCount ya_form ya_colour ya_same ya_one ya_two ya_todo ya_numbered ya_text ya_ofFunction ya_codeEnd ya_instance ya_token ya_env ya_tag ya_cellEnv ya_boundNext ya_step ya_boundNumber ya_boundTag ya_headTag ya_tailTag ya_number ya_boundValue ya_head ya_tail ya_written) : wpX_make (fun r u => wpY_make (fun r' v => r' = r ∧ rl u v) (yf_place, yf_points, yf_names, yf_textEnd, yf_made, yf_entry, yf_waiting, yf_values, yf_bound, yf_cells, yf_conses, yf_lams, yf_steps, yf_atWork, yf_end, yf_writtenCount, ya_kind, ya_up, ya_turn, ya_depth, ya_value, ya_below, ya_length, ya_parameters, ya_codes, ya_codeCount, ya_form, ya_colour, ya_same, ya_one, ya_two, ya_todo, ya_numbered, ya_text, ya_ofFunction, ya_codeEnd, ya_instance, ya_token, ya_env, ya_tag, ya_cellEnv, ya_boundNext, ya_step, ya_boundNumber, ya_boundTag, ya_headTag, ya_tailTag, ya_number, ya_boundValue, ya_head, ya_tail, ya_written) (nI f)) (f_saidPlace, f_instanceCount, f_nodeCount, f_equationCount, f_stackCount, f_wordCount, f_depth, f_cellCount, f_consCount, f_closureCount, f_stepCount, f_runAnswer, f_writtenCount, a_kinds, a_values, a_spans, a_bounds, a_binders, a_lengths, a_parameterCounts, a_typeCodes, a_typeLengths, a_instanceFunctions, a_nodeKinds, a_nodeLefts, a_nodeRights, a_nodeSizes, a_equationLefts, a_equationRights, a_stackLefts, a_stackRights, a_words, a_boundWords, a_cellFirsts, a_cellSeconds, a_closureTokens, a_closureWords, a_written) (nI f) := by
  have hR' := hR
  obtain ⟨hpl, ⟨ln, P, kN, vl, oc, sp, bd, bi, cod, hlib, hlx, hly⟩, ⟨n, dk, dv, hd1, hd2, hxt, hyt⟩, hm, hr⟩ := hR
  have h24 : ∀ g, g < 5 → ln g ≤ 24 := fun g hg => (hlx g hg).2.1
  have cf : (nI f).toNatClampNeg = f := nI_clamp (by omega)
  obtain ⟨x1, x2, x3⟩ := hlx f hf
  obtain ⟨y1, y2⟩ := hly f hf
  by_cases hl : ln f = 0
  · refine br_f (lt0_n (by omega)) (br_f (nI_ge (b := 5) (by omega) (by omega)) (And.intro (pk_in f 11 (by omega)) ?_))
    rw [cf, x1, hl]
    refine br_t rfl ?_
    unfold wpY_make
    refine y_out (fun z => br_f n1_0 ⟨rfl, hR'⟩) (fun _ _ => br_t rfl (And.intro (pk_in f 11 (by omega)) ?_))
    rw [cf, y1, hl]
    exact br_t rfl ⟨rfl, hR'⟩
  · obtain ⟨x4, x5, x6⟩ := x3 hl
    obtain ⟨y3, y4, y5, y6⟩ := y2 hl
    have hp2 := (hlib f hf hl).2.2.1
    by_cases hP0 : P f = 0
    · have hin := in_first hlib hf hl
      refine x_make hf hl hP0 hlib hlx hin (fun I' nc ec sc ifn tc tl K nl nr sz el er sl sr ki va spa bou len pc q1 q2 q3 q4 w1 w2 w3 => ?_) (fun nc ec sc ifn tc tl K nl nr sz el er sl sr q1 q4 => ?_)
      · refine y_make (RS := some I') hf hl hP0 hlib h24 hly hin q1 (fun I2 e2 pt nm te fo sa on tw co td nu tx yof yce yin yki yva yup ytu yde ybe ylen ypar z1 z2 z3 z4 => ?_) (fun e => nomatch e)
        injection e2 with e2
        subst e2
        obtain ⟨J, eJ⟩ := mk_ext _ _ _ _ q1
        have e0 : I'.getD 0 (0, []) = (f, cl_0 (cod f)) := by rw [eJ]; rfl
        have hlen : 0 < I'.length := by rw [eJ]; simp
        obtain ⟨c1, c2, c3, c4⟩ := z4
        refine ⟨rfl, hpl, ⟨ln, P, kN, vl, oc, sp, bd, bi, cod, hlib, lx_arr (lx_row hlx q4) (fun j hj => w1.2 j (by omega)) (fun j hj => w3 j (by omega)), ly_arr hlib hly (fun j hj => c2 j (by omega)) (fun j hj => c3 j (by omega)) (fun j hj => c4 j (by omega))⟩, ⟨n, dk, dv, ?_, ?_, ⟨hxt.1, fun t ht => ?_⟩, ⟨hyt.1, fun t ht => ?_⟩⟩, ⟨I'.length, fun i => (I'.getD i (0, [])).1, fun i => (I'.getD i (0, [])).2, q3, rfl, rfl, fun i hi => ?_, Or.inr ⟨hlen, ?_, ln, P, kN, vl, oc, sp, bd, bi, cod, hlib, ?_, ?_, fun g hg hlg => ?_, fun g hg hlg => c1 g hg hlg, ?_⟩⟩, hr⟩
        · rw [(w3 10 (by omega)).1]; exact hd1
        · rw [(c4 5 (by omega)).1]; exact hd2
        · have n24 := hxt.1
          obtain ⟨b1, b2, _, _⟩ := w1.2 (10 * 24 + t) (by omega)
          rw [b1, b2]; exact hxt.2 t ht
        · have n24 := hyt.1
          obtain ⟨b1, b2, _⟩ := c2 (120 + t) (by omega)
          rw [b1, b2]; exact hyt.2 t ht
        · obtain ⟨a1, a2, a3⟩ := q2 i hi
          obtain ⟨b1, b2, b3, b4, b5⟩ := z1 i hi
          exact ⟨a1, a2, a3, b2, b3, fun k hk => (b5 k hk).1⟩
        · dsimp only; rw [e0]
        · dsimp only; rw [e0]; exact hl
        · dsimp only; rw [e0]; exact hP0
        · obtain ⟨g1, g2, g3⟩ := hlx g hg
          obtain ⟨g4, g5, _⟩ := g3 hlg
          rw [(w2 g hg).1, (w2 g hg).2]
          refine ⟨g1, g4, fun t ht => ?_⟩
          obtain ⟨u1, u2, u3, u4, u5⟩ := w1.1 g t hg ht
          obtain ⟨v1, v2, v3, v4, v5⟩ := g5 t ht
          have hk := ((hlib g hg hlg).1.2.2.2.2 t ht).1
          rw [u1, u4, u5]
          refine ⟨v1, fun k4 h hh hv => ?_, fun k4 => ?_, v3, v4⟩
          · rw [u2 (by rw [v1, k4]; rfl), v2, hv]; exact nI_add 5 h
          · rw [u3 (fun w => k4 ((nI_eq (b := 4) (by omega) (by omega)).mp (v1.symm.trans w)))]; exact v2
        · dsimp only; rw [e0]
          exact lib_T0 hlib hf hl hP0
      · refine y_make (RS := none) hf hl hP0 hlib h24 hly hin q1 (fun I2 e2 => nomatch e2) (fun _ pt nm te fo sa on tw co td nu tx yof yce yin => ?_)
        refine ⟨rfl, hpl, ⟨ln, P, kN, vl, oc, sp, bd, bi, cod, hlib, lx_row hlx q4, hly⟩, ⟨n, dk, dv, hd1, hd2, hxt, hyt⟩, ⟨0, fun _ => 0, fun _ => [], by omega, rfl, rfl, fun i hi => by omega, Or.inl ⟨rfl, rfl⟩⟩, hr⟩
    · refine br_f (lt0_n (by omega)) (br_f (nI_ge (b := 5) (by omega) (by omega)) (And.intro (pk_in f 11 (by omega)) ?_))
      rw [cf, x1]
      refine br_f (fun w => hl ((nI0 (by omega)).mp w)) (And.intro (pk_in f 11 (by omega)) ?_)
      rw [x4]
      refine br_f (fun w => hP0 ((nI0 (by omega)).mp w)) ?_
      unfold wpY_make
      refine y_out (fun z => br_f n1_0 ⟨rfl, hR'⟩) (fun _ _ => br_t rfl (And.intro (pk_in f 11 (by omega)) ?_))
      rw [cf, y1]
      refine br_f (fun w => hl ((nI0 (by have := h24 f hf; omega)).mp w)) (And.intro (pk_in f 11 (by omega)) ?_)
      rw [y3]
      exact br_f (nI_nle (by omega) (by omega)) ⟨rfl, hR'⟩
end
section
/-- a value: its type, Y's tag and number, X's word -/
abbrev FV := mt_T × Int32 × Int32 × Int32
/-- something begun: function, token, operand in work, environment, types; none where a body was entered -/
abbrev FE := Option (Nat × Nat × Nat × Int32 × (Nat → mt_T))
/-- cells: how many, their types, their places in X; bindings: how many, numbers, next ones, tags, values -/
abbrev GM := Nat × (Nat → mt_T) × (Nat → Nat) × Nat × (Nat → Int32) × (Nat → Int32) × (Nat → Int32) × (Nat → Int32)
def vv (nc : Nat) (ty : Nat → mt_T) (cm : Nat → Nat) (T : mt_T) (tg num x : Int32) : Prop := match T with
  | .leaf _ => tg = 0 ∧ x = num
  | .branch c a b => (c = 3 ∧ tg = 2 ∧ num = 0 ∧ x = 0) ∨ (∃ i, i < nc ∧ num = nI i ∧ x = nI (cm i) ∧ ty i = .branch c a b ∧ (c = 2 ∧ tg = 1 ∨ c = 3 ∧ tg = 3 ∨ c = 4 ∧ tg = 4))
theorem vv_ext {nc nc' : Nat} {ty ty' : Nat → mt_T} {cm cm' : Nat → Nat} {T : mt_T} {tg num x : Int32} (h : vv nc ty cm T tg num x) (h1 : nc ≤ nc') (h2 : ∀ i, i < nc → ty' i = ty i ∧ cm' i = cm i) : vv nc' ty' cm' T tg num x := by
  cases T with
  | leaf n => exact h
  | branch c a b =>
    rcases h with h | ⟨i, a1, a2, a3, a4, a5⟩
    · exact Or.inl h
    · exact Or.inr ⟨i, by omega, a2, by rw [(h2 i a1).2]; exact a3, by rw [(h2 i a1).1]; exact a4, a5⟩
theorem vv_tag {nc : Nat} {ty : Nat → mt_T} {cm : Nat → Nat} {T : mt_T} {tg num x : Int32} (h : vv nc ty cm T tg num x) : ∃ k, k ≤ 4 ∧ tg = nI k := by
  cases T with
  | leaf n => exact ⟨0, by omega, h.1⟩
  | branch c a b =>
    rcases h with ⟨_, h, _⟩ | ⟨i, _, _, _, _, ⟨_, h⟩ | ⟨_, h⟩ | ⟨_, h⟩⟩
    · exact ⟨2, by omega, h⟩
    · exact ⟨1, by omega, h⟩
    · exact ⟨3, by omega, h⟩
    · exact ⟨4, by omega, h⟩
theorem tag_b {k : Nat} (h : k ≤ 4) : vp_nar .byte ((nI k).toInt8.toInt32) = nI k := nr_b (by omega)
theorem tag_s {k : Nat} (h : k ≤ 4) : vp_nar .short ((nI k).toInt16.toInt32) = nI k := nr_s (by omega)
/-- an environment of n variables: e for Y, w for X, types nt -/
def ev (nc : Nat) (ty : Nat → mt_T) (cm : Nat → Nat) (nb : Nat) (bn bx bt bv : Nat → Int32) (n : Nat) (e : Int32) (w : Nat → Int32) (nt : Nat → mt_T) : Prop :=
  ∃ loc : Nat → Nat, (∀ k, k < n → loc k < nb ∧ bn (loc k) = nI k ∧ bx (loc k) = (if k = 0 then -1 else nI (loc (k - 1))) ∧ vv nc ty cm (nt k) (bt (loc k)) (bv (loc k)) (w k)) ∧ e = (if n = 0 then -1 else nI (loc (n - 1)))
theorem ev_ext {nc nc' nb nb' n : Nat} {ty ty' : Nat → mt_T} {cm cm' : Nat → Nat} {bn bx bt bv bn' bx' bt' bv' : Nat → Int32} {e : Int32} {w w' : Nat → Int32} {nt nt' : Nat → mt_T} (h : ev nc ty cm nb bn bx bt bv n e w nt) (h1 : nc ≤ nc') (h2 : ∀ i, i < nc → ty' i = ty i ∧ cm' i = cm i) (h3 : nb ≤ nb')
    (h4 : ∀ b, b < nb → bn' b = bn b ∧ bx' b = bx b ∧ bt' b = bt b ∧ bv' b = bv b) (h5 : ∀ k, k < n → w' k = w k) (h6 : ∀ k, k < n → nt' k = nt k) : ev nc' ty' cm' nb' bn' bx' bt' bv' n e w' nt' := by
  obtain ⟨loc, l1, l2⟩ := h
  refine ⟨loc, fun k hk => ?_, l2⟩
  obtain ⟨a, b, c, d⟩ := l1 k hk
  obtain ⟨e1, e2, e3, e4⟩ := h4 _ a
  rw [e1, e2, e3, e4, h5 k hk, h6 k hk]
  exact ⟨by omega, b, c, vv_ext d h1 h2⟩
/-- one more variable -/
theorem ev_bind {nc nb n : Nat} {ty : Nat → mt_T} {cm : Nat → Nat} {bn bx bt bv : Nat → Int32} {e tg num : Int32} {w w' : Nat → Int32} {nt nt' : Nat → mt_T} (h : ev nc ty cm nb bn bx bt bv n e w nt) (hv : vv nc ty cm (nt' n) tg num (w' n)) (h5 : ∀ k, k < n → w' k = w k) (h6 : ∀ k, k < n → nt' k = nt k) :
    ev nc ty cm (nb + 1) (upd bn nb (nI n)) (upd bx nb e) (upd bt nb tg) (upd bv nb num) (n + 1) (nI nb) w' nt' := by
  obtain ⟨loc, l1, l2⟩ := h
  refine ⟨fun k => if k < n then loc k else nb, fun k hk => ?_, ?_⟩
  · dsimp only
    by_cases z : k < n
    · rw [if_pos z]
      obtain ⟨a, b, c, d⟩ := l1 k z
      rw [pk_un (by omega), pk_un (by omega), pk_un (by omega), pk_un (by omega), h5 k z, h6 k z]
      refine ⟨by omega, b, ?_, d⟩
      rw [c]
      by_cases y : k = 0
      · rw [if_pos y, if_pos y]
      · rw [if_neg y, if_neg y, if_pos (by omega)]
    · have ek : k = n := by omega
      subst ek
      rw [if_neg z, pk_us, pk_us, pk_us, pk_us]
      refine ⟨by omega, rfl, ?_, hv⟩
      rw [l2]
      by_cases y : k = 0
      · rw [if_pos y, if_pos y]
      · rw [if_neg y, if_neg y, if_pos (by omega)]
  · rw [if_neg (by omega), Nat.add_sub_cancel]
    dsimp only
    rw [if_neg (by omega)]
theorem ev_nil {nc nb : Nat} {ty : Nat → mt_T} {cm : Nat → Nat} {bn bx bt bv : Nat → Int32} {w : Nat → Int32} {nt : Nat → mt_T} : ev nc ty cm nb bn bx bt bv 0 (-1) w nt := ⟨fun _ => 0, fun k hk => by omega, rfl⟩
variable {ln P : Nat → Nat} {kN : Nat → Nat → Nat} {vl : Nat → Nat → Int32} {oc sp bd bi : Nat → Nat → Nat} {cod : Nat → List Nat}
/-- a frame at token t of function g -/
def fr_ok (ln P : Nat → Nat) (kN : Nat → Nat → Nat) (vl : Nat → Nat → Int32) (oc sp bd bi : Nat → Nat → Nat) (cod : Nat → List Nat) (nc : Nat) (ty : Nat → mt_T) (cm : Nat → Nat) (nb : Nat) (bn bx bt bv bw : Nat → Int32) (d g t : Nat) (e : Int32) (rho : Nat → mt_T) : Prop :=
  g < 5 ∧ ln g ≠ 0 ∧ t < ln g ∧ (∀ n, mt_wf (rho n)) ∧ S_t (fun _ => True) g (kN g) (vl g) (oc g) (sp g) (bd g) (bi g) cod (ln g) rho ∧ ev nc ty cm nb bn bx bt bv (bd g t) e (fun k => bw (d * 10 + k)) (fun k => rho (wv (bi g) (bd g) t k))
theorem fr_ext {nc nc' nb nb' d g t : Nat} {ty ty' : Nat → mt_T} {cm cm' : Nat → Nat} {bn bx bt bv bn' bx' bt' bv' bw bw' : Nat → Int32} {e : Int32} {rho : Nat → mt_T} (h : fr_ok ln P kN vl oc sp bd bi cod nc ty cm nb bn bx bt bv bw d g t e rho) (h1 : nc ≤ nc') (h2 : ∀ i, i < nc → ty' i = ty i ∧ cm' i = cm i) (h3 : nb ≤ nb')
    (h4 : ∀ b, b < nb → bn' b = bn b ∧ bx' b = bx b ∧ bt' b = bt b ∧ bv' b = bv b) (h5 : ∀ k, k < d * 10 + bd g t → bw' k = bw k) : fr_ok ln P kN vl oc sp bd bi cod nc' ty' cm' nb' bn' bx' bt' bv' bw' d g t e rho := by
  obtain ⟨a1, a2, a3, a4, a5, a6⟩ := h
  exact ⟨a1, a2, a3, a4, a5, ev_ext a6 h1 h2 h3 h4 (fun k hk => h5 _ (by omega)) (fun _ _ => rfl)⟩
/-- operands that are worked out before a token goes on -/
def nm (k o : Nat) : Nat := if k = 10 ∨ k = 11 ∨ k = 14 then 1 else o
/-- what waits, for a value of type A: d bodies deep; its variables lie below lim -/
def ko (ln P : Nat → Nat) (kN : Nat → Nat → Nat) (vl : Nat → Nat → Int32) (oc sp bd bi : Nat → Nat → Nat) (cod : Nat → List Nat) (T0 : mt_T) (nc : Nat) (ty : Nat → mt_T) (cm : Nat → Nat) (nb : Nat) (bn bx bt bv bw : Nat → Int32) : List FE → List FV → mt_T → Nat → Nat → Prop
  | [], ws, A, d, _ => ws = [] ∧ A = T0 ∧ d = 0
  | none :: st, ws, A, d, lim => ∃ d', d = d' + 1 ∧ d * 10 ≤ lim ∧ st.length ≤ 25 * d' + 24 ∧ ws.length ≤ 25 * d' + 24 ∧ ko ln P kN vl oc sp bd bi cod T0 nc ty cm nb bn bx bt bv bw st ws A d' (d * 10)
  | some (g, t, s, e, rho) :: st, ws, A, d, lim => fr_ok ln P kN vl oc sp bd bi cod nc ty cm nb bn bx bt bv bw d g t e rho ∧ s < nm (kN g t) (oc g t) ∧ kN g t ≠ 15 ∧ A = rho (jp (sp g) t s) ∧ d * 10 + bd g t ≤ lim ∧
      ∃ ws', (s = 0 ∧ ws = ws' ∨ s = 1 ∧ ∃ w, ws = w :: ws' ∧ w.1 = rho (jp (sp g) t 0)) ∧ st.length ≤ 25 * d + t ∧ ws'.length ≤ 25 * d + t ∧ ko ln P kN vl oc sp bd bi cod T0 nc ty cm nb bn bx bt bv bw st ws' (rho t) d (d * 10 + bd g t)
theorem ko_ext {T0 : mt_T} {nc nc' nb nb' : Nat} {ty ty' : Nat → mt_T} {cm cm' : Nat → Nat} {bn bx bt bv bn' bx' bt' bv' bw bw' : Nat → Int32} (h1 : nc ≤ nc') (h2 : ∀ i, i < nc → ty' i = ty i ∧ cm' i = cm i) (h3 : nb ≤ nb') (h4 : ∀ b, b < nb → bn' b = bn b ∧ bx' b = bx b ∧ bt' b = bt b ∧ bv' b = bv b) :
    ∀ st ws A d lim, (∀ k, k < lim → bw' k = bw k) → ko ln P kN vl oc sp bd bi cod T0 nc ty cm nb bn bx bt bv bw st ws A d lim → ko ln P kN vl oc sp bd bi cod T0 nc' ty' cm' nb' bn' bx' bt' bv' bw' st ws A d lim := by
  intro st
  induction st with
  | nil => intro ws A d lim _ h; exact h
  | cons E st ih =>
    intro ws A d lim h5 h
    cases E with
    | none =>
      obtain ⟨d', a1, a2, a3, a4, a5⟩ := h
      exact ⟨d', a1, a2, a3, a4, ih ws A d' _ (fun k hk => h5 k (by omega)) a5⟩
    | some E =>
      obtain ⟨g, t, s, e, rho⟩ := E
      obtain ⟨a1, a2, a3, a4, a5, ws', a6, a7, a8, a9⟩ := h
      exact ⟨fr_ext a1 h1 h2 h3 h4 (fun k hk => h5 k (by omega)), a2, a3, a4, a5, ws', a6, a7, a8, ih ws' (rho t) d _ (fun k hk => h5 k (by omega)) a9⟩
theorem ko_lim {T0 : mt_T} {nc nb : Nat} {ty : Nat → mt_T} {cm : Nat → Nat} {bn bx bt bv bw : Nat → Int32} {st : List FE} {ws : List FV} {A : mt_T} {d lim lim' : Nat} (h : ko ln P kN vl oc sp bd bi cod T0 nc ty cm nb bn bx bt bv bw st ws A d lim) (hl : lim ≤ lim') : ko ln P kN vl oc sp bd bi cod T0 nc ty cm nb bn bx bt bv bw st ws A d lim' := by
  cases st with
  | nil => exact h
  | cons E st =>
    cases E with
    | none => obtain ⟨d', a1, a2, a3⟩ := h; exact ⟨d', a1, by omega, a3⟩
    | some E =>
      obtain ⟨g, t, s, e, rho⟩ := E
      obtain ⟨a1, a2, a3, a4, a5, a6⟩ := h
      exact ⟨a1, a2, a3, a4, by omega, a6⟩
/-- the stacks of what is begun, in the arrays -/
def sx_ok (sl sr tk en sp : Nat → Int32) : List FE → Prop
  | [] => True
  | none :: st => sl st.length = -1 ∧ tk st.length = -1 ∧ sx_ok sl sr tk en sp st
  | some (g, t, s, e, _) :: st => sl st.length = nI ((5 + g) * 24 + t) ∧ sr st.length = nI s ∧ tk st.length = nI (24 * (6 + g) + t) ∧ en st.length = e ∧ sp st.length = nI (s + 1) ∧ sx_ok sl sr tk en sp st
theorem sx_ext {sl sr tk en sp sl' sr' tk' en' sp' : Nat → Int32} : ∀ st, (∀ j, j < st.length → sl' j = sl j ∧ sr' j = sr j ∧ tk' j = tk j ∧ en' j = en j ∧ sp' j = sp j) → sx_ok sl sr tk en sp st → sx_ok sl' sr' tk' en' sp' st := by
  intro st
  induction st with
  | nil => intro _ _; trivial
  | cons E st ih =>
    intro h0 h
    obtain ⟨e1, e2, e3, e4, e5⟩ := h0 st.length (by simp)
    have h0' : ∀ j, j < st.length → sl' j = sl j ∧ sr' j = sr j ∧ tk' j = tk j ∧ en' j = en j ∧ sp' j = sp j := fun j hj => h0 j (by simp; omega)
    cases E with
    | none =>
      obtain ⟨a1, a2, a3⟩ := h
      exact ⟨e1.trans a1, e3.trans a2, ih h0' a3⟩
    | some E =>
      obtain ⟨g, t, s, e, rho⟩ := E
      obtain ⟨a1, a2, a3, a4, a5, a6⟩ := h
      exact ⟨e1.trans a1, e2.trans a2, e3.trans a3, e4.trans a4, e5.trans a5, ih h0' a6⟩
/-- the stacks of words and values -/
def wo_ok (nc : Nat) (ty : Nat → mt_T) (cm : Nat → Nat) (wd tg nu : Nat → Int32) : List FV → Prop
  | [] => True
  | w :: ws => wd ws.length = w.2.2.2 ∧ tg ws.length = w.2.1 ∧ nu ws.length = w.2.2.1 ∧ vv nc ty cm w.1 w.2.1 w.2.2.1 w.2.2.2 ∧ wo_ok nc ty cm wd tg nu ws
theorem wo_ext {nc nc' : Nat} {ty ty' : Nat → mt_T} {cm cm' : Nat → Nat} {wd tg nu wd' tg' nu' : Nat → Int32} (h1 : nc ≤ nc') (h2 : ∀ i, i < nc → ty' i = ty i ∧ cm' i = cm i) : ∀ ws, (∀ j, j < ws.length → wd' j = wd j ∧ tg' j = tg j ∧ nu' j = nu j) → wo_ok nc ty cm wd tg nu ws → wo_ok nc' ty' cm' wd' tg' nu' ws := by
  intro ws
  induction ws with
  | nil => intro _ _; trivial
  | cons w ws ih =>
    intro h0 h
    obtain ⟨e1, e2, e3⟩ := h0 ws.length (by simp)
    obtain ⟨a1, a2, a3, a4, a5⟩ := h
    exact ⟨e1.trans a1, e2.trans a2, e3.trans a3, vv_ext a4 h1 h2, ih (fun j hj => h0 j (by simp; omega)) a5⟩
/-- cells -/
def ce_ok (ln P : Nat → Nat) (kN : Nat → Nat → Nat) (vl : Nat → Nat → Int32) (oc sp bd bi : Nat → Nat → Nat) (cod : Nat → List Nat) (nc : Nat) (ty : Nat → mt_T) (cm : Nat → Nat) (nb : Nat) (bn bx bt bv : Nat → Int32) (nx nl nk : Nat) (lc : Nat → Nat) (cf cs ct cw ht tt hd tl ce : Nat → Int32) (i : Nat) : Prop :=
  (∃ a b, ty i = .branch 2 a b ∧ 1 ≤ cm i ∧ cm i < nx ∧ vv i ty cm a (ht i) (hd i) (cf (cm i)) ∧ vv i ty cm b (tt i) (tl i) (cs (cm i))) ∨
  (∃ a b, ty i = .branch 3 a b ∧ 1 ≤ cm i ∧ cm i < nx ∧ vv i ty cm a (ht i) (hd i) (cf (cm i)) ∧ vv i ty cm (.branch 3 a b) (tt i) (tl i) (cs (cm i)) ∧ lc i ≤ nk ∧ (tt i = 2 → lc i = 1) ∧ (∀ j, tt i = 3 → j < i → tl i = nI j → lc i = lc j + 1)) ∨
  (∃ a b, ty i = .branch 4 a b ∧ cm i < nl ∧ ∃ g t rho, g < 5 ∧ ln g ≠ 0 ∧ t < ln g ∧ kN g t = 15 ∧ (∀ n, mt_wf (rho n)) ∧ S_t (fun _ => True) g (kN g) (vl g) (oc g) (sp g) (bd g) (bi g) cod (ln g) rho ∧ rho t = .branch 4 a b ∧ hd i = nI (24 * (6 + g) + t) ∧ ct (cm i) = nI ((5 + g) * 24 + t) ∧
    ev nc ty cm nb bn bx bt bv (bd g t) (ce i) (fun k => cw (cm i * 10 + k)) (fun k => rho (wv (bi g) (bd g) t k)))
theorem ce_ext {nc nc' nb nb' nx nx' nl nl' nk nk' i : Nat} {ty ty' : Nat → mt_T} {cm cm' lc lc' : Nat → Nat} {bn bx bt bv bn' bx' bt' bv' cf cs ct cw ht tt hd tl ce cf' cs' ct' cw' ht' tt' hd' tl' ce' : Nat → Int32} (hlib : lib ln P kN vl oc sp bd bi cod) (h : ce_ok ln P kN vl oc sp bd bi cod nc ty cm nb bn bx bt bv nx nl nk lc cf cs ct cw ht tt hd tl ce i) (hi : i < nc)
    (h1 : nc ≤ nc') (h2 : ∀ i, i < nc → ty' i = ty i ∧ cm' i = cm i ∧ lc' i = lc i) (h3 : nb ≤ nb') (h4 : ∀ b, b < nb → bn' b = bn b ∧ bx' b = bx b ∧ bt' b = bt b ∧ bv' b = bv b) (h5 : nx ≤ nx') (h6 : nl ≤ nl') (h7 : nk ≤ nk')
    (h8 : ∀ j, j < nx → cf' j = cf j ∧ cs' j = cs j) (h9 : ∀ j, j < nl → ct' j = ct j) (h10 : ∀ j, j < nl * 10 → cw' j = cw j) (h11 : ∀ j, j < nc → ht' j = ht j ∧ tt' j = tt j ∧ hd' j = hd j ∧ tl' j = tl j ∧ ce' j = ce j) :
    ce_ok ln P kN vl oc sp bd bi cod nc' ty' cm' nb' bn' bx' bt' bv' nx' nl' nk' lc' cf' cs' ct' cw' ht' tt' hd' tl' ce' i := by
  obtain ⟨e1, e2, e3⟩ := h2 i hi
  obtain ⟨f1, f2, f3, f4, f5⟩ := h11 i hi
  have hv : ∀ j, j < i → ty' j = ty j ∧ cm' j = cm j := fun j hj => ⟨(h2 j (by omega)).1, (h2 j (by omega)).2.1⟩
  rcases h with ⟨a, b, q1, q2, q3, q4, q5⟩ | ⟨a, b, q1, q2, q3, q4, q5, q6, q7, q8⟩ | ⟨a, b, q1, q2, g, t, rho, r1, r2, r3, r4, r5, r6, r7, r8, r9, r10⟩
  · refine Or.inl ⟨a, b, by rw [e1]; exact q1, by omega, by omega, ?_, ?_⟩
    · rw [f1, f3, e2, (h8 _ q3).1]; exact vv_ext q4 (Nat.le_refl _) hv
    · rw [f2, f4, e2, (h8 _ q3).2]; exact vv_ext q5 (Nat.le_refl _) hv
  · refine Or.inr (Or.inl ⟨a, b, by rw [e1]; exact q1, by omega, by omega, ?_, ?_, by omega, ?_, ?_⟩)
    · rw [f1, f3, e2, (h8 _ q3).1]; exact vv_ext q4 (Nat.le_refl _) hv
    · rw [f2, f4, e2, (h8 _ q3).2]; exact vv_ext q5 (Nat.le_refl _) hv
    · rw [f2, e3]; exact q7
    · intro j; rw [f2, f4, e3]; intro z y x; rw [(h2 j (by omega)).2.2]; exact q8 j z y x
  · refine Or.inr (Or.inr ⟨a, b, by rw [e1]; exact q1, by omega, g, t, rho, r1, r2, r3, r4, r5, r6, r7, by rw [f3]; exact r8, by rw [e2, h9 _ q2]; exact r9, ?_⟩)
    rw [f5, e2]
    have hb := (hlib g r1 r2).2.2.2.1 t r3
    exact ev_ext r10 h1 (fun j hj => ⟨(h2 j hj).1, (h2 j hj).2.1⟩) h3 h4 (fun k hk => h10 _ (by omega)) (fun _ _ => rfl)
end
section
variable {f_saidPlace f_instanceCount f_nodeCount f_equationCount f_stackCount f_wordCount f_depth f_cellCount f_consCount f_closureCount f_stepCount f_runAnswer f_writtenCount : Int32} {a_kinds a_values a_spans a_bounds a_binders a_lengths a_parameterCounts a_typeCodes a_typeLengths a_instanceFunctions a_nodeKinds a_nodeLefts a_nodeRights a_nodeSizes a_equationLefts a_equationRights a_stackLefts a_stackRights a_words a_boundWords a_cellFirsts a_cellSeconds a_closureTokens a_closureWords a_written : Nat → Int32}
variable {yf_place yf_points yf_names yf_textEnd yf_made yf_entry yf_waiting yf_values yf_bound yf_cells yf_conses yf_lams yf_steps yf_atWork yf_end yf_writtenCount : Int32} {ya_kind ya_up ya_turn ya_depth ya_value ya_below ya_length ya_parameters ya_codes ya_codeCount ya_form ya_colour ya_same ya_one ya_two ya_todo ya_numbered ya_text ya_ofFunction ya_codeEnd ya_instance ya_token ya_env ya_tag ya_cellEnv ya_boundNext ya_step ya_boundNumber ya_boundTag ya_headTag ya_tailTag ya_number ya_boundValue ya_head ya_tail ya_written : Nat → Int32}
variable {ln P : Nat → Nat} {kN : Nat → Nat → Nat} {vl : Nat → Nat → Int32} {oc sp bd bi : Nat → Nat → Nat} {cod : Nat → List Nat}
/-- sums over what is begun -/
def wt (f : Nat → Nat → Nat → Nat) (z : Nat) : List FE → Nat
  | [] => 0
  | none :: st => z + wt f z st
  | some (g, t, s, _, _) :: st => f g t s + wt f z st
def fG (sp : Nat → Nat → Nat) (G : Nat → Nat → Nat) (g t s : Nat) : Nat := sm (G g) (t + sp g t) - sm (G g) (jp (sp g) t (s + 1)) + G g t
def fT (sp : Nat → Nat → Nat) (g t s : Nat) : Nat := 2 * (t + sp g t - jp (sp g) t (s + 1)) + 1
def pA (sp : Nat → Nat → Nat) (G : Nat → Nat → Nat) (g t : Nat) : Nat := sm (G g) (t + sp g t) - sm (G g) t
/-- cells and bindings that a token makes -/
def G1 (kN : Nat → Nat → Nat) (g t : Nat) : Nat := if kN g t = 5 ∨ kN g t = 9 then 1 else 0
def G2 (kN : Nat → Nat → Nat) (g t : Nat) : Nat := if kN g t = 14 then 1 else if kN g t = 10 then 2 else 0
def rc_ok (ln P : Nat → Nat) (kN : Nat → Nat → Nat) (vl : Nat → Nat → Int32) (oc sp bd bi : Nat → Nat → Nat) (cod : Nat → List Nat) (nh nw nd nx nk nl ns nt nb nc : Nat) (rsl rsr rwd rbw rcf rcs rct rcw rtk ren rtg rce rbx rst rbn rbt rht rtt rnu rbv rhd rtl : Nat → Int32) (st : List FE) (ws : List FV) (ty : Nat → mt_T) (cm lc : Nat → Nat) (c1 c2 : Nat) : Prop :=
  nh = st.length ∧ nw = ws.length ∧ nd ≤ 20 ∧ ns ≤ 200 ∧ nk ≤ 200 ∧ nl ≤ 40 ∧ nc + 1 = nx + nl ∧ 1 ≤ nx ∧ sx_ok rsl rsr rtk ren rst st ∧ wo_ok nc ty cm rwd rtg rnu ws ∧
  (∀ i, i < nc → ce_ok ln P kN vl oc sp bd bi cod nc ty cm nb rbn rbx rbt rbv nx nl nk lc rcf rcs rct rcw rht rtt rhd rtl rce i) ∧ nx + wt (fG sp (G1 kN)) 0 st + c1 ≤ 11 * (ns + 1) + 1 ∧ nb + wt (fG sp (G2 kN)) 0 st + c2 ≤ 15 * (ns + 1) + 2 * ns
/-- a token is to be begun -/
def ra_ok (ln P : Nat → Nat) (kN : Nat → Nat → Nat) (vl : Nat → Nat → Int32) (oc sp bd bi : Nat → Nat → Nat) (cod : Nat → List Nat) (T0 : mt_T) (mu : Nat) (nh nw nd nx nk nl ns nt nb nc : Nat) (rsl rsr rwd rbw rcf rcs rct rcw rtk ren rtg rce rbx rst rbn rbt rht rtt rnu rbv rhd rtl : Nat → Int32) (g t : Nat) (e : Int32) (rho : Nat → mt_T) (st : List FE) (ws : List FV) (ty : Nat → mt_T) (cm lc : Nat → Nat) : Prop :=
  rc_ok ln P kN vl oc sp bd bi cod nh nw nd nx nk nl ns nt nb nc rsl rsr rwd rbw rcf rcs rct rcw rtk ren rtg rce rbx rst rbn rbt rht rtt rnu rbv rhd rtl st ws ty cm lc (pA sp (G1 kN) g t) (pA sp (G2 kN) g t) ∧ fr_ok ln P kN vl oc sp bd bi cod nc ty cm nb rbn rbx rbt rbv rbw nd g t e rho ∧ ko ln P kN vl oc sp bd bi cod T0 nc ty cm nb rbn rbx rbt rbv rbw st ws (rho t) nd (nd * 10 + bd g t) ∧ st.length ≤ 25 * nd + t ∧ ws.length ≤ 25 * nd + t ∧
  nt = nh + 1 ∧ rtk nh = nI (24 * (6 + g) + t) ∧ ren nh = e ∧ rst nh = 0 ∧ wt (fT sp) 1 st + 2 * sp g t - 1 + 50 * (200 - ns) ≤ mu
/-- a value was worked out -/
def rn_ok (ln P : Nat → Nat) (kN : Nat → Nat → Nat) (vl : Nat → Nat → Int32) (oc sp bd bi : Nat → Nat → Nat) (cod : Nat → List Nat) (T0 : mt_T) (mu : Nat) (nh nw nd nx nk nl ns nt nb nc : Nat) (rsl rsr rwd rbw rcf rcs rct rcw rtk ren rtg rce rbx rst rbn rbt rht rtt rnu rbv rhd rtl : Nat → Int32) (st : List FE) (w : FV) (ws : List FV) (ty : Nat → mt_T) (cm lc : Nat → Nat) : Prop :=
  rc_ok ln P kN vl oc sp bd bi cod nh nw nd nx nk nl ns nt nb nc rsl rsr rwd rbw rcf rcs rct rcw rtk ren rtg rce rbx rst rbn rbt rht rtt rnu rbv rhd rtl st (w :: ws) ty cm lc 0 0 ∧ (∃ lim, ko ln P kN vl oc sp bd bi cod T0 nc ty cm nb rbn rbx rbt rbv rbw st ws w.1 nd lim) ∧ nt = nh ∧ wt (fT sp) 1 st + 50 * (200 - ns) ≤ mu
/-- what is asked for behind a turn: B is what Y is asked for -/
def kk (ln P : Nat → Nat) (kN : Nat → Nat → Nat) (vl : Nat → Nat → Int32) (oc sp bd bi : Nat → Nat → Nat) (cod : Nat → List Nat) (T0 : mt_T) (px : Int32 → SX → Prop) (B : (Int32 → SY → Prop) → Prop) (mu : Nat) (f_saidPlace f_instanceCount f_nodeCount f_equationCount f_stackCount f_wordCount f_depth f_cellCount f_consCount f_closureCount f_stepCount f_runAnswer f_writtenCount : Int32) (a_kinds a_values a_spans a_bounds a_binders a_lengths a_parameterCounts a_typeCodes a_typeLengths a_instanceFunctions a_nodeKinds a_nodeLefts a_nodeRights a_nodeSizes a_equationLefts a_equationRights a_stackLefts a_stackRights a_words a_boundWords a_cellFirsts a_cellSeconds a_closureTokens a_closureWords a_written : Nat → Int32) (yf_place yf_points yf_names yf_textEnd yf_made yf_entry yf_waiting yf_values yf_bound yf_cells yf_conses yf_lams yf_steps yf_atWork yf_end yf_writtenCount : Int32) (ya_kind ya_up ya_turn ya_depth ya_value ya_below ya_length ya_parameters ya_codes ya_codeCount ya_form ya_colour ya_same ya_one ya_two ya_todo ya_numbered ya_text ya_ofFunction ya_codeEnd ya_instance ya_token ya_env ya_tag ya_cellEnv ya_boundNext ya_step ya_boundNumber ya_boundTag ya_headTag ya_tailTag ya_number ya_boundValue ya_head ya_tail ya_written : Nat → Int32) : Prop :=
  (∀ (nh nw nd nx nk nl ns nt nb nc : Nat) (rsl rsr rwd rbw rcf rcs rct rcw rtk ren rtg rce rbx rst rbn rbt rht rtt rnu rbv rhd rtl : Nat → Int32) g t e rho st ws ty cm lc, ra_ok ln P kN vl oc sp bd bi cod T0 mu nh nw nd nx nk nl ns nt nb nc rsl rsr rwd rbw rcf rcs rct rcw rtk ren rtg rce rbx rst rbn rbt rht rtt rnu rbv rhd rtl g t e rho st ws ty cm lc → (∀ Q, (∃ n, wY_run_75 Q n yf_place yf_points yf_names yf_textEnd yf_made yf_entry (nI nt) (nI nw) (nI nb) (nI nc) (nI nk) (nI nl) (nI ns) (nI nd) 0 yf_writtenCount ya_kind ya_up ya_turn ya_depth ya_value ya_below ya_length ya_parameters ya_codes ya_codeCount ya_form ya_colour ya_same ya_one ya_two ya_todo ya_numbered ya_text ya_ofFunction ya_codeEnd ya_instance rtk ren rtg rce rbx rst rbn rbt rht rtt rnu rbv rhd rtl ya_written) → B Q) → px (nI ((5 + g) * 24 + t)) (f_saidPlace, f_instanceCount, f_nodeCount, f_equationCount, (nI nh), (nI nw), (nI nd), (nI nx), (nI nk), (nI nl), (nI ns), 0, f_writtenCount, a_kinds, a_values, a_spans, a_bounds, a_binders, a_lengths, a_parameterCounts, a_typeCodes, a_typeLengths, a_instanceFunctions, a_nodeKinds, a_nodeLefts, a_nodeRights, a_nodeSizes, a_equationLefts, a_equationRights, rsl, rsr, rwd, rbw, rcf, rcs, rct, rcw, a_written)) ∧
  (∀ (nh nw nd nx nk nl ns nt nb nc : Nat) (rsl rsr rwd rbw rcf rcs rct rcw rtk ren rtg rce rbx rst rbn rbt rht rtt rnu rbv rhd rtl : Nat → Int32) st w ws ty cm lc, rn_ok ln P kN vl oc sp bd bi cod T0 mu nh nw nd nx nk nl ns nt nb nc rsl rsr rwd rbw rcf rcs rct rcw rtk ren rtg rce rbx rst rbn rbt rht rtt rnu rbv rhd rtl st w ws ty cm lc → (∀ Q, (∃ n, wY_run_75 Q n yf_place yf_points yf_names yf_textEnd yf_made yf_entry (nI nt) (nI nw) (nI nb) (nI nc) (nI nk) (nI nl) (nI ns) (nI nd) 0 yf_writtenCount ya_kind ya_up ya_turn ya_depth ya_value ya_below ya_length ya_parameters ya_codes ya_codeCount ya_form ya_colour ya_same ya_one ya_two ya_todo ya_numbered ya_text ya_ofFunction ya_codeEnd ya_instance rtk ren rtg rce rbx rst rbn rbt rht rtt rnu rbv rhd rtl ya_written) → B Q) → px (-1) (f_saidPlace, f_instanceCount, f_nodeCount, f_equationCount, (nI nh), (nI nw), (nI nd), (nI nx), (nI nk), (nI nl), (nI ns), 0, f_writtenCount, a_kinds, a_values, a_spans, a_bounds, a_binders, a_lengths, a_parameterCounts, a_typeCodes, a_typeLengths, a_instanceFunctions, a_nodeKinds, a_nodeLefts, a_nodeRights, a_nodeSizes, a_equationLefts, a_equationRights, rsl, rsr, rwd, rbw, rcf, rcs, rct, rcw, a_written)) ∧
  (∀ (nh nw nd nx nk nl ns nt nb nc : Nat) (rsl rsr rwd rbw rcf rcs rct rcw rtk ren rtg rce rbx rst rbn rbt rht rtt rnu rbv rhd rtl : Nat → Int32) (c xk xl xw xx xh vt vl' vk vv' vb vc : Int32), c ≠ 0 → (∀ Q, (∃ n, wY_run_75 Q n yf_place yf_points yf_names yf_textEnd yf_made yf_entry vt vv' vb vc vk vl' (nI ns) (nI nd) c yf_writtenCount ya_kind ya_up ya_turn ya_depth ya_value ya_below ya_length ya_parameters ya_codes ya_codeCount ya_form ya_colour ya_same ya_one ya_two ya_todo ya_numbered ya_text ya_ofFunction ya_codeEnd ya_instance rtk ren rtg rce rbx rst rbn rbt rht rtt rnu rbv rhd rtl ya_written) → B Q) → px (-1) (f_saidPlace, f_instanceCount, f_nodeCount, f_equationCount, xh, xw, (nI nd), xx, xk, xl, (nI ns), c, f_writtenCount, a_kinds, a_values, a_spans, a_bounds, a_binders, a_lengths, a_parameterCounts, a_typeCodes, a_typeLengths, a_instanceFunctions, a_nodeKinds, a_nodeLefts, a_nodeRights, a_nodeSizes, a_equationLefts, a_equationRights, rsl, rsr, rwd, rbw, rcf, rcs, rct, rcw, a_written))
theorem x_pushWord {post : SX → Prop} {w : Nat} {p0 : Int32} (hw : w < 525) (hp : post (f_saidPlace, f_instanceCount, f_nodeCount, f_equationCount, f_stackCount, (nI (w + 1)), f_depth, f_cellCount, f_consCount, f_closureCount, f_stepCount, f_runAnswer, f_writtenCount, a_kinds, a_values, a_spans, a_bounds, a_binders, a_lengths, a_parameterCounts, a_typeCodes, a_typeLengths, a_instanceFunctions, a_nodeKinds, a_nodeLefts, a_nodeRights, a_nodeSizes, a_equationLefts, a_equationRights, a_stackLefts, a_stackRights, (upd a_words w p0), a_boundWords, a_cellFirsts, a_cellSeconds, a_closureTokens, a_closureWords, a_written)) : wpX_pushWord post (f_saidPlace, f_instanceCount, f_nodeCount, f_equationCount, f_stackCount, (nI w), f_depth, f_cellCount, f_consCount, f_closureCount, f_stepCount, f_runAnswer, f_writtenCount, a_kinds, a_values, a_spans, a_bounds, a_binders, a_lengths, a_parameterCounts, a_typeCodes, a_typeLengths, a_instanceFunctions, a_nodeKinds, a_nodeLefts, a_nodeRights, a_nodeSizes, a_equationLefts, a_equationRights, a_stackLefts, a_stackRights, a_words, a_boundWords, a_cellFirsts, a_cellSeconds, a_closureTokens, a_closureWords, a_written) p0 :=
  And.intro (pk_in w 525 hw) (nm_r (e' := upd a_words w p0) (by rw [nI_clamp (by omega)]) (nm_r (nI_1 w) hp))
theorem x_popWord {post : Int32 → SX → Prop} {w : Nat} (hw : w < 525) (hp : post (a_words w) (f_saidPlace, f_instanceCount, f_nodeCount, f_equationCount, f_stackCount, (nI w), f_depth, f_cellCount, f_consCount, f_closureCount, f_stepCount, f_runAnswer, f_writtenCount, a_kinds, a_values, a_spans, a_bounds, a_binders, a_lengths, a_parameterCounts, a_typeCodes, a_typeLengths, a_instanceFunctions, a_nodeKinds, a_nodeLefts, a_nodeRights, a_nodeSizes, a_equationLefts, a_equationRights, a_stackLefts, a_stackRights, a_words, a_boundWords, a_cellFirsts, a_cellSeconds, a_closureTokens, a_closureWords, a_written)) : wpX_popWord post (f_saidPlace, f_instanceCount, f_nodeCount, f_equationCount, f_stackCount, (nI (w + 1)), f_depth, f_cellCount, f_consCount, f_closureCount, f_stepCount, f_runAnswer, f_writtenCount, a_kinds, a_values, a_spans, a_bounds, a_binders, a_lengths, a_parameterCounts, a_typeCodes, a_typeLengths, a_instanceFunctions, a_nodeKinds, a_nodeLefts, a_nodeRights, a_nodeSizes, a_equationLefts, a_equationRights, a_stackLefts, a_stackRights, a_words, a_boundWords, a_cellFirsts, a_cellSeconds, a_closureTokens, a_closureWords, a_written) := by
  refine nm_r (nI_pred w) (And.intro (pk_in w 525 hw) ?_)
  rw [nI_clamp (n := w) (by omega)]; exact hp
theorem y_push {post : SY → Prop} {v k : Nat} {p0 p1 : Int32} (hv : v < 1200) (hk : k ≤ 5) (h0 : p0 = nI k) (hp : post (yf_place, yf_points, yf_names, yf_textEnd, yf_made, yf_entry, yf_waiting, (nI (v + 1)), yf_bound, yf_cells, yf_conses, yf_lams, yf_steps, yf_atWork, yf_end, yf_writtenCount, ya_kind, ya_up, ya_turn, ya_depth, ya_value, ya_below, ya_length, ya_parameters, ya_codes, ya_codeCount, ya_form, ya_colour, ya_same, ya_one, ya_two, ya_todo, ya_numbered, ya_text, ya_ofFunction, ya_codeEnd, ya_instance, ya_token, ya_env, (upd ya_tag v p0), ya_cellEnv, ya_boundNext, ya_step, ya_boundNumber, ya_boundTag, ya_headTag, ya_tailTag, (upd ya_number v p1), ya_boundValue, ya_head, ya_tail, ya_written)) : wpY_push post (yf_place, yf_points, yf_names, yf_textEnd, yf_made, yf_entry, yf_waiting, (nI v), yf_bound, yf_cells, yf_conses, yf_lams, yf_steps, yf_atWork, yf_end, yf_writtenCount, ya_kind, ya_up, ya_turn, ya_depth, ya_value, ya_below, ya_length, ya_parameters, ya_codes, ya_codeCount, ya_form, ya_colour, ya_same, ya_one, ya_two, ya_todo, ya_numbered, ya_text, ya_ofFunction, ya_codeEnd, ya_instance, ya_token, ya_env, ya_tag, ya_cellEnv, ya_boundNext, ya_step, ya_boundNumber, ya_boundTag, ya_headTag, ya_tailTag, ya_number, ya_boundValue, ya_head, ya_tail, ya_written) p0 p1 := by
  subst h0
  exact And.intro (pk_in v 1200 hv) (nm_r (e' := upd ya_tag v (nI k)) (by rw [nI_clamp (by omega), nr_s (by omega)]) (nm_r (nI_1 v) (And.intro (pk_in v 1200 hv) (nm_r (e' := upd ya_number v p1) (by rw [nI_clamp (by omega)]) hp))))
theorem y_later {post : SY → Prop} {w : Nat} {p0 p1 : Int32} (hw : w < 1200) (h0 : vp_nar .short p0.toInt16.toInt32 = p0) (h1 : vp_nar .short p1.toInt16.toInt32 = p1)
    (hp : post (yf_place, yf_points, yf_names, yf_textEnd, yf_made, yf_entry, (nI (w + 1)), yf_values, yf_bound, yf_cells, yf_conses, yf_lams, yf_steps, yf_atWork, yf_end, yf_writtenCount, ya_kind, ya_up, ya_turn, ya_depth, ya_value, ya_below, ya_length, ya_parameters, ya_codes, ya_codeCount, ya_form, ya_colour, ya_same, ya_one, ya_two, ya_todo, ya_numbered, ya_text, ya_ofFunction, ya_codeEnd, ya_instance, (upd ya_token w p0), (upd ya_env w p1), ya_tag, ya_cellEnv, ya_boundNext, (upd ya_step w 0), ya_boundNumber, ya_boundTag, ya_headTag, ya_tailTag, ya_number, ya_boundValue, ya_head, ya_tail, ya_written)) : wpY_later post (yf_place, yf_points, yf_names, yf_textEnd, yf_made, yf_entry, (nI w), yf_values, yf_bound, yf_cells, yf_conses, yf_lams, yf_steps, yf_atWork, yf_end, yf_writtenCount, ya_kind, ya_up, ya_turn, ya_depth, ya_value, ya_below, ya_length, ya_parameters, ya_codes, ya_codeCount, ya_form, ya_colour, ya_same, ya_one, ya_two, ya_todo, ya_numbered, ya_text, ya_ofFunction, ya_codeEnd, ya_instance, ya_token, ya_env, ya_tag, ya_cellEnv, ya_boundNext, ya_step, ya_boundNumber, ya_boundTag, ya_headTag, ya_tailTag, ya_number, ya_boundValue, ya_head, ya_tail, ya_written) p0 p1 := by
  have c : (nI w).toNatClampNeg = w := nI_clamp (by omega)
  exact And.intro (pk_in w 1200 hw) (nm_r (e' := upd ya_token w p0) (by rw [c, h0]) (And.intro (pk_in w 1200 hw) (nm_r (e' := upd ya_env w p1) (by rw [c, h1]) (nm_r (nI_1 w) (And.intro (pk_in w 1200 hw) (nm_r (e' := upd ya_step w 0) (by rw [c]; exact congrArg _ (nr_b0 (n := 0) (by omega))) hp))))))
theorem ev_s {nc nb n : Nat} {ty : Nat → mt_T} {cm : Nat → Nat} {bn bx bt bv : Nat → Int32} {e : Int32} {w : Nat → Int32} {nt : Nat → mt_T} (h : ev nc ty cm nb bn bx bt bv n e w nt) (hb : nb ≤ 4000) : vp_nar .short e.toInt16.toInt32 = e := by
  obtain ⟨loc, l1, l2⟩ := h
  rw [l2]
  by_cases z : n = 0
  · rw [if_pos z]; exact nr_sm'
  · rw [if_neg z]
    have := (l1 (n - 1) (by omega)).1
    exact nr_s (by omega)
theorem y_bind {post : Int32 → SY → Prop} {nc nb n k : Nat} {ty : Nat → mt_T} {cm : Nat → Nat} {e tg num : Int32} {w : Nat → Int32} {nt : Nat → mt_T} (hb : nb < 4000) (hn : n ≤ 100) (hk : k ≤ 4) (ht : tg = nI k) (h : ev nc ty cm nb ya_boundNumber ya_boundNext ya_boundTag ya_boundValue n e w nt)
    (hp : post (nI nb) (yf_place, yf_points, yf_names, yf_textEnd, yf_made, yf_entry, yf_waiting, yf_values, (nI (nb + 1)), yf_cells, yf_conses, yf_lams, yf_steps, yf_atWork, yf_end, yf_writtenCount, ya_kind, ya_up, ya_turn, ya_depth, ya_value, ya_below, ya_length, ya_parameters, ya_codes, ya_codeCount, ya_form, ya_colour, ya_same, ya_one, ya_two, ya_todo, ya_numbered, ya_text, ya_ofFunction, ya_codeEnd, ya_instance, ya_token, ya_env, ya_tag, ya_cellEnv, (upd ya_boundNext nb e), ya_step, (upd ya_boundNumber nb (nI n)), (upd ya_boundTag nb tg), ya_headTag, ya_tailTag, ya_number, (upd ya_boundValue nb num), ya_head, ya_tail, ya_written)) : wpY_bind post (yf_place, yf_points, yf_names, yf_textEnd, yf_made, yf_entry, yf_waiting, yf_values, (nI nb), yf_cells, yf_conses, yf_lams, yf_steps, yf_atWork, yf_end, yf_writtenCount, ya_kind, ya_up, ya_turn, ya_depth, ya_value, ya_below, ya_length, ya_parameters, ya_codes, ya_codeCount, ya_form, ya_colour, ya_same, ya_one, ya_two, ya_todo, ya_numbered, ya_text, ya_ofFunction, ya_codeEnd, ya_instance, ya_token, ya_env, ya_tag, ya_cellEnv, ya_boundNext, ya_step, ya_boundNumber, ya_boundTag, ya_headTag, ya_tailTag, ya_number, ya_boundValue, ya_head, ya_tail, ya_written) e tg num := by
  have he := ev_s h (by omega)
  obtain ⟨loc, l1, l2⟩ := h
  have c : (nI nb).toNatClampNeg = nb := nI_clamp (by omega)
  have fin : wY_bind_24 post e tg num (nI n) (nI nb) yf_place yf_points yf_names yf_textEnd yf_made yf_entry yf_waiting yf_values (nI nb) yf_cells yf_conses yf_lams yf_steps yf_atWork yf_end yf_writtenCount ya_kind ya_up ya_turn ya_depth ya_value ya_below ya_length ya_parameters ya_codes ya_codeCount ya_form ya_colour ya_same ya_one ya_two ya_todo ya_numbered ya_text ya_ofFunction ya_codeEnd ya_instance ya_token ya_env ya_tag ya_cellEnv ya_boundNext ya_step ya_boundNumber ya_boundTag ya_headTag ya_tailTag ya_number ya_boundValue ya_head ya_tail ya_written := by
    subst ht
    exact And.intro (pk_in nb 4000 hb) (nm_r (e' := upd ya_boundNumber nb (nI n)) (by rw [c, nr_b (by omega)]) (And.intro (pk_in nb 4000 hb) (nm_r (e' := upd ya_boundTag nb (nI k)) (by rw [c, nr_b (by omega)]) (And.intro (pk_in nb 4000 hb) (nm_r (e' := upd ya_boundValue nb num) (by rw [c]) (And.intro (pk_in nb 4000 hb) (nm_r (e' := upd ya_boundNext nb e) (by rw [c, he]) (nm_r (nI_1 nb) hp))))))))
  by_cases z : n = 0
  · subst z
    rw [if_pos rfl] at l2
    subst l2
    exact br_f (by decide) fin
  · rw [if_neg z] at l2
    obtain ⟨a, b, _, _⟩ := l1 (n - 1) (by omega)
    subst l2
    refine br_t (nI_le (a := 0) (by omega) (by omega)) (And.intro (pk_in (loc (n - 1)) 4000 (by omega)) ?_)
    rw [nI_clamp (n := loc (n - 1)) (by omega), b, nI_1, show n - 1 + 1 = n by omega]
    exact fin
theorem y_child {post : Int32 → Prop} {g t j c : Nat} (hg : g < 5) (ht : t < 24) (hj : j < 3) (hb : ya_below (72 * (6 + g) + 3 * t + j) = nI c) (hp : post (nI (24 * (6 + g) + c))) : wpY_child post (yf_place, yf_points, yf_names, yf_textEnd, yf_made, yf_entry, yf_waiting, yf_values, yf_bound, yf_cells, yf_conses, yf_lams, yf_steps, yf_atWork, yf_end, yf_writtenCount, ya_kind, ya_up, ya_turn, ya_depth, ya_value, ya_below, ya_length, ya_parameters, ya_codes, ya_codeCount, ya_form, ya_colour, ya_same, ya_one, ya_two, ya_todo, ya_numbered, ya_text, ya_ofFunction, ya_codeEnd, ya_instance, ya_token, ya_env, ya_tag, ya_cellEnv, ya_boundNext, ya_step, ya_boundNumber, ya_boundTag, ya_headTag, ya_tailTag, ya_number, ya_boundValue, ya_head, ya_tail, ya_written) (nI (24 * (6 + g) + t)) (nI j) := by
  have e3 : (3 : Int32) * nI (24 * (6 + g) + t) + nI j = nI (72 * (6 + g) + 3 * t + j) := by
    rw [show (3 : Int32) * nI (24 * (6 + g) + t) = nI (3 * (24 * (6 + g) + t)) from pk_mul 3 _, nI_add]
    exact congrArg nI (by omega)
  have ed : nI (24 * (6 + g) + t) / 24 * 24 = nI (24 * (6 + g)) := by
    rw [show nI (24 * (6 + g) + t) / 24 = nI ((24 * (6 + g) + t) / 24) from pk_div (d := 24) (by omega) (by omega) (by omega), show nI ((24 * (6 + g) + t) / 24) * 24 = nI ((24 * (6 + g) + t) / 24 * 24) from pk_mul _ 24]
    exact congrArg nI (by omega)
  refine And.intro (by decide) (And.intro (pk_in (72 * (6 + g) + 3 * t + j) 792 (by omega) e3) ?_)
  rw [e3, nI_clamp (n := 72 * (6 + g) + 3 * t + j) (by omega), hb, ed, nI_add]; exact hp
theorem ar_nm : ∀ k : Fin 17, k.val ≠ 4 → nm k.val (ar k.val) ≤ 2 := by decide
theorem y_operandsMade {post : Int32 → Prop} {g t k o h : Nat} (hg : g < 5) (ht : t < 24) (hk : ya_kind (24 * (6 + g) + t) = nI k) (hk2 : k ≤ 16) (h4 : k = 4 → h < 5 ∧ ya_value (24 * (6 + g) + t) = nI h ∧ ya_parameters (6 + h) = nI o) (ho : k ≠ 4 → o = ar k) (hp : post (nI (if k = 15 then 0 else nm k o))) : wpY_operandsMade post (yf_place, yf_points, yf_names, yf_textEnd, yf_made, yf_entry, yf_waiting, yf_values, yf_bound, yf_cells, yf_conses, yf_lams, yf_steps, yf_atWork, yf_end, yf_writtenCount, ya_kind, ya_up, ya_turn, ya_depth, ya_value, ya_below, ya_length, ya_parameters, ya_codes, ya_codeCount, ya_form, ya_colour, ya_same, ya_one, ya_two, ya_todo, ya_numbered, ya_text, ya_ofFunction, ya_codeEnd, ya_instance, ya_token, ya_env, ya_tag, ya_cellEnv, ya_boundNext, ya_step, ya_boundNumber, ya_boundTag, ya_headTag, ya_tailTag, ya_number, ya_boundValue, ya_head, ya_tail, ya_written) (nI (24 * (6 + g) + t)) := by
  have c : (nI (24 * (6 + g) + t)).toNatClampNeg = 24 * (6 + g) + t := nI_clamp (by omega)
  have p : vp_in (nI (24 * (6 + g) + t)) 264 := pk_in (24 * (6 + g) + t) 264 (by omega)
  refine And.intro p (nm_r (e' := nI k) (by rw [c, hk]) ?_)
  by_cases z : k = 4
  · obtain ⟨a1, a2, a3⟩ := h4 z
    subst z
    refine br_t rfl (And.intro p ?_)
    rw [c, a2, show (6 : Int32) + nI h = nI (6 + h) from nI_add 6 h]
    refine And.intro (pk_in (6 + h) 11 (by omega)) ?_
    rw [nI_clamp (n := 6 + h) (by omega), a3]; exact hp
  · rw [ho z] at hp
    rcases k17 hk2 with rfl | rfl | rfl | rfl | rfl | rfl | rfl | rfl | rfl | rfl | rfl | rfl | rfl | rfl | rfl | rfl | rfl
    · exact br_f (by decide) (br_f (by decide) (br_t (by decide) hp))
    · exact br_f (by decide) (br_f (by decide) (br_t (by decide) hp))
    · exact br_f (by decide) (br_f (by decide) (br_t (by decide) hp))
    · exact br_f (by decide) (br_f (by decide) (br_t (by decide) hp))
    · exact absurd rfl z
    · exact br_f (by decide) (br_f (by decide) (br_f (by decide) (br_f (by decide) (br_f (by decide) (br_f (by decide) (br_f (by decide) (br_f (by decide) (br_f (by decide) hp))))))))
    · exact br_f (by decide) (br_f (by decide) (br_f (by decide) (br_f (by decide) (br_t (by decide) hp))))
    · exact br_f (by decide) (br_f (by decide) (br_f (by decide) (br_f (by decide) (br_f (by decide) (br_t (by decide) hp)))))
    · exact br_f (by decide) (br_f (by decide) (br_f (by decide) (br_t (by decide) hp)))
    · exact br_f (by decide) (br_f (by decide) (br_f (by decide) (br_f (by decide) (br_f (by decide) (br_f (by decide) (br_f (by decide) (br_f (by decide) (br_f (by decide) hp))))))))
    · exact br_f (by decide) (br_f (by decide) (br_f (by decide) (br_f (by decide) (br_f (by decide) (br_f (by decide) (br_t (by decide) hp))))))
    · exact br_f (by decide) (br_f (by decide) (br_f (by decide) (br_f (by decide) (br_f (by decide) (br_f (by decide) (br_f (by decide) (br_t (by decide) hp)))))))
    · exact br_f (by decide) (br_f (by decide) (br_f (by decide) (br_f (by decide) (br_f (by decide) (br_f (by decide) (br_f (by decide) (br_f (by decide) (br_f (by decide) hp))))))))
    · exact br_f (by decide) (br_f (by decide) (br_f (by decide) (br_f (by decide) (br_f (by decide) (br_f (by decide) (br_f (by decide) (br_f (by decide) (br_f (by decide) hp))))))))
    · exact br_f (by decide) (br_f (by decide) (br_f (by decide) (br_f (by decide) (br_f (by decide) (br_f (by decide) (br_f (by decide) (br_f (by decide) (br_t (by decide) hp))))))))
    · exact br_f (by decide) (br_t (by decide) hp)
    · exact br_f (by decide) (br_f (by decide) (br_f (by decide) (br_f (by decide) (br_f (by decide) (br_f (by decide) (br_f (by decide) (br_f (by decide) (br_f (by decide) hp))))))))
end
section
variable {f_saidPlace f_instanceCount f_nodeCount f_equationCount f_stackCount f_wordCount f_depth f_cellCount f_consCount f_closureCount f_stepCount f_runAnswer f_writtenCount : Int32} {a_kinds a_values a_spans a_bounds a_binders a_lengths a_parameterCounts a_typeCodes a_typeLengths a_instanceFunctions a_nodeKinds a_nodeLefts a_nodeRights a_nodeSizes a_equationLefts a_equationRights a_stackLefts a_stackRights a_words a_boundWords a_cellFirsts a_cellSeconds a_closureTokens a_closureWords a_written : Nat → Int32}
variable {yf_place yf_points yf_names yf_textEnd yf_made yf_entry yf_waiting yf_values yf_bound yf_cells yf_conses yf_lams yf_steps yf_atWork yf_end yf_writtenCount : Int32} {ya_kind ya_up ya_turn ya_depth ya_value ya_below ya_length ya_parameters ya_codes ya_codeCount ya_form ya_colour ya_same ya_one ya_two ya_todo ya_numbered ya_text ya_ofFunction ya_codeEnd ya_instance ya_token ya_env ya_tag ya_cellEnv ya_boundNext ya_step ya_boundNumber ya_boundTag ya_headTag ya_tailTag ya_number ya_boundValue ya_head ya_tail ya_written : Nat → Int32}
variable {ln P : Nat → Nat} {kN : Nat → Nat → Nat} {vl : Nat → Nat → Int32} {oc sp bd bi : Nat → Nat → Nat} {cod : Nat → List Nat}
theorem lib1 (hlib : lib ln P kN vl oc sp bd bi cod) {g : Nat} (hg : g < 5) (hl : ln g ≠ 0) : bd_ok (ln g) (kN g) (vl g) (oc g) (sp g) (bd g) (bi g) ∧ bd g 0 = P g ∧ P g ≤ 2 ∧ (∀ t, t < ln g → bd g t ≤ 10) ∧ (∀ t, t < ln g → 0 < op (kN g t) → bd g t + op (kN g t) ≤ 10) ∧
    (∀ t, t < ln g → kN g t = 4 → ∃ h, h < 5 ∧ vl g t = nI h ∧ ln h ≠ 0 ∧ oc g t = P h) := by
  obtain ⟨l1, l2, l3, l4, l5, l6, _⟩ := hlib g hg hl
  exact ⟨l1, l2, l3, l4, l5, l6⟩
theorem x_ocm {post : Int32 → Prop} {g t : Nat} (hlib : lib ln P kN vl oc sp bd bi cod) (hmx : mx_ok ln P kN vl sp bd a_kinds a_values a_spans a_bounds a_lengths a_parameterCounts) (hg : g < 5) (hl : ln g ≠ 0) (ht : t < ln g) (hp : post (nI (oc g t))) : wpX_operandCount post (f_saidPlace, f_instanceCount, f_nodeCount, f_equationCount, f_stackCount, f_wordCount, f_depth, f_cellCount, f_consCount, f_closureCount, f_stepCount, f_runAnswer, f_writtenCount, a_kinds, a_values, a_spans, a_bounds, a_binders, a_lengths, a_parameterCounts, a_typeCodes, a_typeLengths, a_instanceFunctions, a_nodeKinds, a_nodeLefts, a_nodeRights, a_nodeSizes, a_equationLefts, a_equationRights, a_stackLefts, a_stackRights, a_words, a_boundWords, a_cellFirsts, a_cellSeconds, a_closureTokens, a_closureWords, a_written) (nI ((5 + g) * 24 + t)) := by
  obtain ⟨l1, _, _, _, _, l6, _⟩ := hlib g hg hl
  obtain ⟨_, _, m3⟩ := hmx g hg hl
  obtain ⟨k1, k2, k3, _, _⟩ := m3 t ht
  obtain ⟨c1, c2, c3, c4, c5, c6⟩ := l1.2.2.2.2 t ht
  have n24 := l1.1
  refine x_operandCount (k := kN g t) (o := oc g t) (by omega) k1 c1 (fun z => ?_) c5 hp
  obtain ⟨h, h1, h2, h3, h4⟩ := l6 t ht z
  obtain ⟨q1, q2, _⟩ := hmx h h1 h3
  have hh := (hlib h h1 h3).1.1
  exact ⟨5 + h, by omega, k2 z h h1 h2, Or.inr ⟨by rw [q1]; exact fun w => h3 ((nI0 (by omega)).mp w), by rw [q2, h4]⟩⟩
theorem y_ocm {post : Int32 → Prop} {g t : Nat} (hlib : lib ln P kN vl oc sp bd bi cod) (hmy : my_ok ln P kN vl oc sp ya_kind ya_value ya_below ya_parameters) (hg : g < 5) (hl : ln g ≠ 0) (ht : t < ln g) (hp : post (nI (if kN g t = 15 then 0 else nm (kN g t) (oc g t)))) : wpY_operandsMade post (yf_place, yf_points, yf_names, yf_textEnd, yf_made, yf_entry, yf_waiting, yf_values, yf_bound, yf_cells, yf_conses, yf_lams, yf_steps, yf_atWork, yf_end, yf_writtenCount, ya_kind, ya_up, ya_turn, ya_depth, ya_value, ya_below, ya_length, ya_parameters, ya_codes, ya_codeCount, ya_form, ya_colour, ya_same, ya_one, ya_two, ya_todo, ya_numbered, ya_text, ya_ofFunction, ya_codeEnd, ya_instance, ya_token, ya_env, ya_tag, ya_cellEnv, ya_boundNext, ya_step, ya_boundNumber, ya_boundTag, ya_headTag, ya_tailTag, ya_number, ya_boundValue, ya_head, ya_tail, ya_written) (nI (24 * (6 + g) + t)) := by
  obtain ⟨l1, _, _, _, _, l6, _⟩ := hlib g hg hl
  obtain ⟨_, m3⟩ := hmy g hg hl
  obtain ⟨k1, k2, k3⟩ := m3 t ht
  obtain ⟨c1, c2, c3, c4, c5, c6⟩ := l1.2.2.2.2 t ht
  have n24 := l1.1
  by_cases z : kN g t = 4
  · obtain ⟨h, h1, h2, h3, h4⟩ := l6 t ht z
    exact y_operandsMade (h := h) hg (by omega) k1 c1 (fun _ => ⟨h1, by rw [k2, h2], by rw [h4]; exact (hmy h h1 h3).1⟩) c5 hp
  · exact y_operandsMade (h := 0) hg (by omega) k1 c1 (fun w => absurd w z) c5 hp
theorem bn0 {k j : Nat} (h15 : k ≠ 15) (hj : j = 0 ∨ k ≠ 10 ∧ k ≠ 14 ∨ k = 10 ∧ j = 1) : bn k j = 0 := by
  unfold bn
  rw [if_neg (by omega), if_neg (by omega)]
/-- a frame at an operand that binds nothing -/
theorem fr_child {nc nb d g t j : Nat} {ty : Nat → mt_T} {cm : Nat → Nat} {bnA bx bt bv bw : Nat → Int32} {e : Int32} {rho : Nat → mt_T} (hlib : lib ln P kN vl oc sp bd bi cod) (h : fr_ok ln P kN vl oc sp bd bi cod nc ty cm nb bnA bx bt bv bw d g t e rho) (hj : j < oc g t) (hb : bn (kN g t) j = 0) :
    fr_ok ln P kN vl oc sp bd bi cod nc ty cm nb bnA bx bt bv bw d g (jp (sp g) t j) e rho ∧ bd g (jp (sp g) t j) = bd g t := by
  obtain ⟨a1, a2, a3, a4, a5, a6⟩ := h
  obtain ⟨⟨n24, bw', _, tr, hbt⟩, _⟩ := hlib g a1 a2
  have hbi : ∀ t, t < ln g → bi g t ≤ t := fun t ht => (hbt t ht).2.2.2.1
  have hbd : bd g (jp (sp g) t j) = bd g t := by rw [(tr.2 t a3 j hj).1, hb]; rfl
  refine ⟨⟨a1, a2, (bw_in bw' a3 hj).2.2, a4, a5, ?_⟩, hbd⟩
  rw [hbd]
  refine ev_ext a6 (Nat.le_refl _) (fun _ _ => ⟨rfl, rfl⟩) (Nat.le_refl _) (fun _ _ => ⟨rfl, rfl, rfl, rfl⟩) (fun _ _ => rfl) (fun k hk => ?_)
  rw [wv_child tr hbi a3 hj k, if_neg (fun z => z.1 hb)]
section bud
variable {G : Nat → Nat → Nat} {g t : Nat} {n : Nat} {o : Nat → Nat} (hbw : bw_is n o (sp g)) (ht : t < n)
theorem b_down (hbw : bw_is n o (sp g)) (ht : t < n) (h0 : 0 < o t) : fG sp G g t 0 + pA sp G g (jp (sp g) t 0) ≤ pA sp G g t := by
  obtain ⟨a1, a2, a3⟩ := bw_in hbw ht h0
  have e0 : jp (sp g) t 0 = t + 1 := rfl
  have e1 : jp (sp g) t 1 = jp (sp g) t 0 + sp g (jp (sp g) t 0) := rfl
  have m1 := sm_mono (g := G g) (a := t + 1) (jp (sp g) t 1) (by omega)
  have m2 := sm_mono (g := G g) (a := jp (sp g) t 1) (t + sp g t) (by omega)
  have e2 : sm (G g) (t + 1) = sm (G g) t + G g t := rfl
  unfold fG pA
  rw [show 0 + 1 = 1 from rfl, ← e1, e0]
  omega
theorem b_next {s : Nat} (hbw : bw_is n o (sp g)) (ht : t < n) (h0 : s + 1 < o t) : fG sp G g t (s + 1) + pA sp G g (jp (sp g) t (s + 1)) ≤ fG sp G g t s := by
  obtain ⟨a1, a2, a3⟩ := bw_in hbw ht h0
  have e1 : jp (sp g) t (s + 1 + 1) = jp (sp g) t (s + 1) + sp g (jp (sp g) t (s + 1)) := rfl
  have m1 := sm_mono (g := G g) (a := jp (sp g) t (s + 1)) (jp (sp g) t (s + 1 + 1)) (by omega)
  have m2 := sm_mono (g := G g) (a := jp (sp g) t (s + 1 + 1)) (t + sp g t) (by omega)
  unfold fG pA
  rw [← e1]
  omega
theorem b_in {j : Nat} (hbw : bw_is n o (sp g)) (ht : t < n) (h1 : 1 ≤ j) (h0 : j < o t) : pA sp G g (jp (sp g) t j) + G g t ≤ fG sp G g t 0 := by
  obtain ⟨a1, a2, a3⟩ := bw_in hbw ht h0
  have hm : jp (sp g) t 1 ≤ jp (sp g) t j := by
    by_cases z : j = 1
    · rw [z]; exact Nat.le_refl _
    · exact Nat.le_of_lt (jp_mono hbw ht j (by omega) 1 (by omega))
  have m1 := sm_mono (g := G g) (a := jp (sp g) t 1) (jp (sp g) t j) hm
  have m2 := sm_mono (g := G g) (a := jp (sp g) t j) (jp (sp g) t j + sp g (jp (sp g) t j)) (by omega)
  have m3 := sm_mono (g := G g) (a := jp (sp g) t j + sp g (jp (sp g) t j)) (t + sp g t) (by omega)
  unfold fG pA
  rw [show 0 + 1 = 1 from rfl]
  omega
theorem t_down (hbw : bw_is n o (sp g)) (ht : t < n) (h0 : 0 < o t) : fT sp g t 0 + 2 * sp g (jp (sp g) t 0) ≤ 2 * sp g t - 1 := by
  obtain ⟨a1, a2, a3⟩ := bw_in hbw ht h0
  have e0 : jp (sp g) t 0 = t + 1 := rfl
  have e1 : jp (sp g) t 1 = jp (sp g) t 0 + sp g (jp (sp g) t 0) := rfl
  unfold fT
  rw [show 0 + 1 = 1 from rfl]
  omega
theorem t_next {s : Nat} (hbw : bw_is n o (sp g)) (ht : t < n) (h0 : s + 1 < o t) : fT sp g t (s + 1) + 2 * sp g (jp (sp g) t (s + 1)) ≤ fT sp g t s := by
  obtain ⟨a1, a2, a3⟩ := bw_in hbw ht h0
  have e1 : jp (sp g) t (s + 1 + 1) = jp (sp g) t (s + 1) + sp g (jp (sp g) t (s + 1)) := rfl
  unfold fT
  omega
theorem t_in {j : Nat} (hbw : bw_is n o (sp g)) (ht : t < n) (h1 : 1 ≤ j) (h0 : j < o t) : 2 * sp g (jp (sp g) t j) < fT sp g t 0 := by
  obtain ⟨a1, a2, a3⟩ := bw_in hbw ht h0
  have hm : jp (sp g) t 1 ≤ jp (sp g) t j := by
    by_cases z : j = 1
    · rw [z]; exact Nat.le_refl _
    · exact Nat.le_of_lt (jp_mono hbw ht j (by omega) 1 (by omega))
  unfold fT
  rw [show 0 + 1 = 1 from rfl]
  omega
end bud
theorem short_tok {g t : Nat} (hg : g < 5) (ht : t < 24) : vp_nar .short ((nI (24 * (6 + g) + t)).toInt16.toInt32) = nI (24 * (6 + g) + t) := nr_s (by omega)
theorem fr_s {nc nb d g t : Nat} {ty : Nat → mt_T} {cm : Nat → Nat} {bnA bx bt bv bw : Nat → Int32} {e : Int32} {rho : Nat → mt_T} (h : fr_ok ln P kN vl oc sp bd bi cod nc ty cm nb bnA bx bt bv bw d g t e rho) (hb : nb ≤ 4000) : vp_nar .short e.toInt16.toInt32 = e := ev_s h.2.2.2.2.2 hb
theorem nb_le {nb ns c : Nat} (h : nb + c ≤ 15 * (ns + 1) + 2 * ns) (hs : ns ≤ 200) : nb ≤ 3415 := by omega
theorem ar_down {F W S S0 m n2 : Nat} (td : F + 2 * S0 ≤ 2 * S - 1) (w4 : 1 ≤ S0) (d5 : W + 2 * S - 1 + n2 ≤ m + 1) : F + W + 2 * S0 - 1 + n2 ≤ m := by omega
theorem ar_next {F F' W S0 m n2 : Nat} (td : F' + 2 * S0 ≤ F) (w4 : 1 ≤ S0) (d5 : F + W + n2 ≤ m + 1) : F' + W + 2 * S0 - 1 + n2 ≤ m := by omega
theorem ar_in {F W S0 m n2 : Nat} (td : 2 * S0 < F) (d5 : F + W + n2 ≤ m + 1) : W + 2 * S0 - 1 + n2 ≤ m := by omega
theorem ar_leaf {W S m n2 : Nat} (w4 : 1 ≤ S) (d5 : W + 2 * S - 1 + n2 ≤ m + 1) : W + n2 ≤ m := by omega
theorem ar_fin {F W m n2 : Nat} (w4 : 1 ≤ F) (d5 : F + W + n2 ≤ m + 1) : W + n2 ≤ m := by omega
/-- a token with operands: its first operand is begun -/
theorem st_down {T0 : mt_T} {px : Int32 → SX → Prop} {B : (Int32 → SY → Prop) → Prop} {mu : Nat} {nh nw nd nx nk nl ns nt nb nc : Nat} {rsl rsr rwd rbw rcf rcs rct rcw rtk ren rtg rce rbx rst rbn rbt rht rtt rnu rbv rhd rtl : Nat → Int32} {g t : Nat} {e : Int32} {rho : Nat → mt_T} {st : List FE} {ws : List FV} {ty : Nat → mt_T} {cm lc : Nat → Nat} (hlib : lib ln P kN vl oc sp bd bi cod) (hmx : mx_ok ln P kN vl sp bd a_kinds a_values a_spans a_bounds a_lengths a_parameterCounts) (hmy : my_ok ln P kN vl oc sp ya_kind ya_value ya_below ya_parameters)
    (hk : kk ln P kN vl oc sp bd bi cod T0 px B mu f_saidPlace f_instanceCount f_nodeCount f_equationCount f_stackCount f_wordCount f_depth f_cellCount f_consCount f_closureCount f_stepCount f_runAnswer f_writtenCount a_kinds a_values a_spans a_bounds a_binders a_lengths a_parameterCounts a_typeCodes a_typeLengths a_instanceFunctions a_nodeKinds a_nodeLefts a_nodeRights a_nodeSizes a_equationLefts a_equationRights a_stackLefts a_stackRights a_words a_boundWords a_cellFirsts a_cellSeconds a_closureTokens a_closureWords a_written yf_place yf_points yf_names yf_textEnd yf_made yf_entry yf_waiting yf_values yf_bound yf_cells yf_conses yf_lams yf_steps yf_atWork yf_end yf_writtenCount ya_kind ya_up ya_turn ya_depth ya_value ya_below ya_length ya_parameters ya_codes ya_codeCount ya_form ya_colour ya_same ya_one ya_two ya_todo ya_numbered ya_text ya_ofFunction ya_codeEnd ya_instance ya_token ya_env ya_tag ya_cellEnv ya_boundNext ya_step ya_boundNumber ya_boundTag ya_headTag ya_tailTag ya_number ya_boundValue ya_head ya_tail ya_written) (h : ra_ok ln P kN vl oc sp bd bi cod T0 (mu + 1) nh nw nd nx nk nl ns nt nb nc rsl rsr rwd rbw rcf rcs rct rcw rtk ren rtg rce rbx rst rbn rbt rht rtt rnu rbv rhd rtl g t e rho st ws ty cm lc) (hY : ∀ Q, (∃ n, wY_run_75 Q n yf_place yf_points yf_names yf_textEnd yf_made yf_entry (nI nt) (nI nw) (nI nb) (nI nc) (nI nk) (nI nl) (nI ns) (nI nd) 0 yf_writtenCount ya_kind ya_up ya_turn ya_depth ya_value ya_below ya_length ya_parameters ya_codes ya_codeCount ya_form ya_colour ya_same ya_one ya_two ya_todo ya_numbered ya_text ya_ofFunction ya_codeEnd ya_instance rtk ren rtg rce rbx rst rbn rbt rht rtt rnu rbv rhd rtl ya_written) → B Q) (h15 : kN g t ≠ 15) (h0 : 0 < oc g t) : wpX_begin px (f_saidPlace, f_instanceCount, f_nodeCount, f_equationCount, (nI nh), (nI nw), (nI nd), (nI nx), (nI nk), (nI nl), (nI ns), 0, f_writtenCount, a_kinds, a_values, a_spans, a_bounds, a_binders, a_lengths, a_parameterCounts, a_typeCodes, a_typeLengths, a_instanceFunctions, a_nodeKinds, a_nodeLefts, a_nodeRights, a_nodeSizes, a_equationLefts, a_equationRights, rsl, rsr, rwd, rbw, rcf, rcs, rct, rcw, a_written) (nI ((5 + g) * 24 + t)) := by
  obtain ⟨⟨c1, c2, c3, c4, c5, c6, c7, c8, c9, c10, c11, c12, c13⟩, hfr, hko, hs1, hs2, d1, d2, d3, d4, d5⟩ := h
  obtain ⟨a1, a2, a3, a4, a5, a6⟩ := hfr
  have hfr : fr_ok ln P kN vl oc sp bd bi cod nc ty cm nb rbn rbx rbt rbv rbw nd g t e rho := ⟨a1, a2, a3, a4, a5, a6⟩
  obtain ⟨l1, l2, l3, l4, l5, l6⟩ := lib1 hlib a1 a2
  obtain ⟨n24, hbw, _, tr, hbt⟩ := l1
  obtain ⟨b1, b2, b3, b4, b5, b6⟩ := hbt t a3
  obtain ⟨m1, m2, m3⟩ := hmx g a1 a2
  obtain ⟨k1, k2, k3, k4, k5⟩ := m3 t a3
  obtain ⟨_, y2⟩ := hmy g a1 a2
  obtain ⟨z1, z2, z3⟩ := y2 t a3
  obtain ⟨w1, w2, w3⟩ := bw_in hbw a3 h0
  have hb0 : bn (kN g t) 0 = 0 := bn0 h15 (Or.inl rfl)
  obtain ⟨hfc, hbc⟩ := fr_child hlib hfr h0 hb0
  have hnm : 0 < nm (kN g t) (oc g t) := by unfold nm; split <;> omega
  have hnb : nb ≤ 3415 := by omega
  subst d1
  have cx : (nI ((5 + g) * 24 + t)).toNatClampNeg = (5 + g) * 24 + t := nI_clamp (by omega)
  have cw : (nI nh).toNatClampNeg = nh := nI_clamp (by omega)
  have hes := fr_s hfr (by omega)
  have hnh : nh < 525 := by omega
  -- Y
  have hY' : ∀ Q, (∃ n, wY_run_75 Q n yf_place yf_points yf_names yf_textEnd yf_made yf_entry (nI (nh + 1 + 1)) (nI nw) (nI nb) (nI nc) (nI nk) (nI nl) (nI ns) (nI nd) 0 yf_writtenCount ya_kind ya_up ya_turn ya_depth ya_value ya_below ya_length ya_parameters ya_codes ya_codeCount ya_form ya_colour ya_same ya_one ya_two ya_todo ya_numbered ya_text ya_ofFunction ya_codeEnd ya_instance (upd rtk (nh + 1) (nI (24 * (6 + g) + jp (sp g) t 0))) (upd ren (nh + 1) e) rtg rce rbx (upd (upd rst nh (nI 1)) (nh + 1) 0) rbn rbt rht rtt rnu rbv rhd rtl ya_written) → B Q := by
    rintro Q ⟨n, hn⟩
    refine hY Q ⟨n + 1, ?_⟩
    refine br_f (nI_nle (by omega) (by omega)) (br_t rfl (nm_r (nI_pred nh) (And.intro (pk_in nh 1200 (by omega)) (nm_r (e' := nI (24 * (6 + g) + t)) (by rw [cw, d2]) ?_))))
    refine br_t (nI_le (a := 0) (by omega) (by omega)) (And.intro (pk_in nh 1200 (by omega)) (nm_r (e' := e) (by rw [cw, d3]) ?_))
    refine y_ocm hlib hmy a1 a2 a3 (And.intro (pk_in nh 1200 (by omega)) ?_)
    rw [if_neg h15, cw, d4]
    refine br_f (nI_nle hnm (by unfold nm; split <;> omega)) (And.intro (pk_in nh 1200 (by omega)) (And.intro (pk_in nh 1200 (by omega)) (nm_r (e' := upd rst nh (nI 1)) (by exact congrArg _ (nr_b (n := 1) (by omega))) ?_)))
    refine y_child (j := 0) a1 (by omega) (by omega) (z3 0 h0) ?_
    exact y_later (by omega) (short_tok a1 (by omega)) hes hn
  -- X
  refine And.intro (pk_in ((5 + g) * 24 + t) 264 (by omega)) ?_
  rw [cx, k1]
  refine br_f (fun w => h15 ((nI_eq (b := 15) (by omega) (by omega)).mp w)) (x_ocm hlib hmx a1 a2 a3 (br_f (nI_nle h0 (by omega)) (x_push hnh ?_)))
  rw [nI_1]
  refine hk.1 (nh + 1) nw nd nx nk nl ns (nh + 1 + 1) nb nc (upd rsl nh (nI ((5 + g) * 24 + t))) (upd rsr nh 0) rwd rbw rcf rcs rct rcw (upd rtk (nh + 1) (nI (24 * (6 + g) + jp (sp g) t 0))) (upd ren (nh + 1) e) rtg rce rbx (upd (upd rst nh (nI 1)) (nh + 1) 0) rbn rbt rht rtt rnu rbv rhd rtl g (jp (sp g) t 0) e rho (some (g, t, 0, e, rho) :: st) ws ty cm lc ?_ hY'
  have bd1 := b_down (G := G1 kN) hbw a3 h0
  have bd2 := b_down (G := G2 kN) hbw a3 h0
  have td := t_down hbw a3 h0
  have w4 := (hbw.2.2 _ w3).1
  have e0 : jp (sp g) t 0 = t + 1 := rfl
  refine ⟨⟨by rw [c1, List.length_cons], c2, c3, c4, c5, c6, c7, c8, ⟨by rw [← c1, pk_us], by rw [← c1, pk_us]; rfl, ?_, ?_, ?_, sx_ext st (fun j hj => ⟨pk_un (by omega), pk_un (by omega), pk_un (by omega), pk_un (by omega), ?_⟩) c9⟩, c10, c11, ?_, ?_⟩, hfc, ⟨hfr, hnm, h15, rfl, by omega, ws, Or.inl ⟨rfl, rfl⟩, hs1, hs2, hko⟩, ?_, ?_, rfl, pk_us, pk_us, pk_us, ?_⟩
  · rw [← c1, pk_un (by omega)]; exact d2
  · rw [← c1, pk_un (by omega)]; exact d3
  · rw [← c1, pk_un (by omega), pk_us]
  · rw [pk_un (by omega), pk_un (by omega)]
  · show nx + (fG sp (G1 kN) g t 0 + wt (fG sp (G1 kN)) 0 st) + _ ≤ _
    omega
  · show nb + (fG sp (G2 kN) g t 0 + wt (fG sp (G2 kN)) 0 st) + _ ≤ _
    omega
  · simp only [List.length_cons]; omega
  · omega
  · exact ar_down td w4 d5
end

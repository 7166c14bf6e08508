/-- the place of operand j of token t, by the spans -/
def jp (sp : Nat → Nat) (t : Nat) : Nat → Nat
  | 0 => t + 1
  | j + 1 => jp sp t j + sp (jp sp t j)
/-- a body of n tokens: oc operands, sp spans -/
def bw_is (n : Nat) (oc sp : Nat → Nat) : Prop := 0 < n ∧ sp 0 = n ∧ ∀ t, t < n → 1 ≤ sp t ∧ t + sp t ≤ n ∧ jp sp t (oc t) = t + sp t ∧ ∀ j, j < oc t → jp sp t j < n
theorem jp_congr {sp sp' : Nat → Nat} {t : Nat} : ∀ j, (∀ i, i < j → sp' (jp sp t i) = sp (jp sp t i)) → jp sp' t j = jp sp t j := by
  intro j
  induction j with
  | zero => intro _; rfl
  | succ j ih =>
    intro h
    have e := ih (fun i hi => h i (by omega))
    simp only [jp]
    rw [e, h j (by omega)]
theorem jp_gt (sp : Nat → Nat) (t : Nat) : ∀ j, t < jp sp t j := by
  intro j
  induction j with
  | zero => show t < t + 1; omega
  | succ j ih => show t < jp sp t j + _; omega
theorem bw_in {n : Nat} {oc sp : Nat → Nat} (h : bw_is n oc sp) {t : Nat} (ht : t < n) {j : Nat} (hj : j < oc t) :
    t < jp sp t j ∧ jp sp t j + sp (jp sp t j) ≤ t + sp t ∧ jp sp t j < n := by
  obtain ⟨_, _, h3, h4⟩ := h.2.2 t ht
  have hm : ∀ d, j + 1 + d ≤ oc t → jp sp t (j + 1) ≤ jp sp t (j + 1 + d) := by
    intro d
    induction d with
    | zero => intro _; exact Nat.le_refl _
    | succ d ih =>
      intro hd
      have := ih (by omega)
      show _ ≤ jp sp t (j + 1 + d) + _
      omega
  have := hm (oc t - (j + 1)) (by omega)
  have e : j + 1 + (oc t - (j + 1)) = oc t := by omega
  rw [e, h3] at this
  exact ⟨jp_gt sp t j, this, h4 j hj⟩
/-- tokens that are awaited: counted from the front, none left at the end -/
theorem bw_step {n : Nat} {oc sp A : Nat → Nat} (hA : ∀ t, t < n → A (t + 1) + 1 = A t + oc t ∧ 1 ≤ A t) (hn : A n = 0) {t : Nat} (ht : t < n)
    (h : ∀ s, t < s → s < n → 1 ≤ sp s ∧ s + sp s ≤ n ∧ A (s + sp s) + 1 = A s) :
    ∀ j, j ≤ oc t → jp sp t j ≤ n ∧ A (jp sp t j) + j = A (t + 1) ∧ ∀ i, i < j → jp sp t i < n := by
  intro j
  induction j with
  | zero => intro _; exact ⟨ht, rfl, fun i hi => by omega⟩
  | succ j ih =>
    intro hj
    obtain ⟨h1, h2, h3⟩ := ih (by omega)
    obtain ⟨a1, a2⟩ := hA t ht
    have hlt : jp sp t j < n := by
      rcases Nat.lt_or_ge (jp sp t j) n with z | z
      · exact z
      · have e : jp sp t j = n := by omega
        rw [e, hn] at h2; omega
    obtain ⟨g1, g2, g3⟩ := h (jp sp t j) (jp_gt sp t j) hlt
    refine ⟨g2, ?_, ?_⟩
    · show A (jp sp t j + sp (jp sp t j)) + (j + 1) = _
      omega
    · intro i hi
      by_cases e : i = j
      · rw [e]; exact hlt
      · exact h3 i (by omega)
/-- the node of variable k, from binder b outwards: bi the binder around a token, bd how many are bound there -/
def vw (bi : Nat → Nat) (bd : Nat → Nat) : Nat → Nat → Nat → Nat
  | 0, _, k => 72 + k
  | f + 1, b, k => if b = 0 then 72 + k else if bd (b - 1) ≤ k then 24 + 2 * (b - 1) + (k - bd (b - 1)) else vw bi bd f (bi (b - 1)) k
theorem vw_fuel' {bi bd : Nat → Nat} : ∀ f g b k, b ≤ f → b ≤ g → (∀ t, t < b → bi t ≤ t) → vw bi bd f b k = vw bi bd g b k := by
  intro f
  induction f with
  | zero =>
    intro g b k hf hg _
    have : b = 0 := by omega
    subst this
    cases g with
    | zero => rfl
    | succ g => simp only [vw, if_true]
  | succ f ih =>
    intro g b k hf hg h
    cases g with
    | zero =>
      have : b = 0 := by omega
      subst this
      simp only [vw, if_true]
    | succ g =>
      simp only [vw]
      by_cases hb : b = 0
      · rw [if_pos hb, if_pos hb]
      · rw [if_neg hb, if_neg hb]
        by_cases hk : bd (b - 1) ≤ k
        · rw [if_pos hk, if_pos hk]
        · rw [if_neg hk, if_neg hk]
          have := h (b - 1) (by omega)
          exact ih g _ k (by omega) (by omega) (fun t ht => h t (by omega))

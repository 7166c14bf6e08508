variable {f_saidPlace f_instanceCount f_nodeCount f_equationCount f_stackCount f_wordCount f_depth f_cellCount f_consCount f_closureCount f_stepCount f_runAnswer f_writtenCount : Int32} {a_kinds a_values a_spans a_bounds a_binders a_lengths a_parameterCounts a_typeCodes a_typeLengths a_instanceFunctions a_nodeKinds a_nodeLefts a_nodeRights a_nodeSizes a_equationLefts a_equationRights a_stackLefts a_stackRights a_words a_boundWords a_cellFirsts a_cellSeconds a_closureTokens a_closureWords a_written : Nat → Int32}
/-- the codes of a row, as X's table holds them -/
def rw_ok (row : Nat) (tc tl : Nat → Int32) (Lc : List Nat) : Prop := row < 18 ∧ Lc.length ≤ 42 ∧ tl row = nI Lc.length ∧ ∀ k, k < Lc.length → tc (row * 42 + k) = nI (Lc.getD k 0) ∧ Lc.getD k 0 < 100
theorem cn_ix_lt {c : Nat} : ∀ vs : List Nat, c ∈ vs → cn_ix c vs < vs.length := by
  intro vs
  induction vs with
  | nil => intro h; simp at h
  | cons v vs ih =>
    intro h
    by_cases e : v = c
    · simp [cn_ix, e]
    · simp only [List.mem_cons] at h
      rcases h with h | h
      · exact absurd h.symm e
      · have := ih h; simp only [cn_ix, if_neg e, List.length_cons]; omega
theorem cn_ix_min {c : Nat} : ∀ (vs : List Nat) (j : Nat), j < vs.length → vs.getD j 0 = c → cn_ix c vs ≤ j := by
  intro vs
  induction vs with
  | nil => intro j h; simp at h
  | cons v vs ih =>
    intro j h e
    by_cases z : v = c
    · simp [cn_ix, z]
    · cases j with
      | zero => exact absurd e z
      | succ j =>
        simp only [List.getD_cons_succ] at e
        simp only [List.length_cons] at h
        have := ih j (by omega) e
        simp only [cn_ix, if_neg z]; omega
theorem gd_mem : ∀ (vs : List Nat) (j : Nat), j < vs.length → vs.getD j 0 ∈ vs := by
  intro vs
  induction vs with
  | nil => intro j h; simp at h
  | cons v vs ih =>
    intro j h
    cases j with
    | zero => simp
    | succ j =>
      simp only [List.length_cons] at h
      rw [List.getD_cons_succ]
      exact List.mem_cons_of_mem _ (ih j (by omega))
theorem x_fwc12 {post : Int32 → Prop} {row c : Nat} {Lc : List Nat} (hr : rw_ok row a_typeCodes a_typeLengths Lc) (hm : c ∈ Lc) (hc : c < 100) (hp : post (nI (cn_ix c Lc))) :
    ∀ i f x, i ≤ Lc.length → i < f → (x < Lc.length ∧ Lc.getD x 0 = c ∧ i ≤ x ∧ (∀ j, i ≤ j → j < Lc.length → Lc.getD j 0 = c → x ≤ j) ∨ (∀ j, i ≤ j → j < Lc.length → Lc.getD j 0 ≠ c)) →
      wX_firstWithCode_12 post (nI row) (nI c) f_saidPlace f_instanceCount f_nodeCount f_equationCount f_stackCount f_wordCount f_depth f_cellCount f_consCount f_closureCount f_stepCount f_runAnswer f_writtenCount a_kinds a_values a_spans a_bounds a_binders a_lengths a_parameterCounts a_typeCodes a_typeLengths a_instanceFunctions a_nodeKinds a_nodeLefts a_nodeRights a_nodeSizes a_equationLefts a_equationRights a_stackLefts a_stackRights a_words a_boundWords a_cellFirsts a_cellSeconds a_closureTokens a_closureWords a_written f (nI x) (nI i + (-1)) := by
  obtain ⟨h1, h2, h3, h4⟩ := hr
  have g1 := cn_ix_lt Lc hm
  have g2 := cn_ix_get Lc hm
  intro i
  induction i with
  | zero =>
    intro f x hi hf hx
    obtain ⟨f, rfl⟩ : ∃ g, f = g + 1 := ⟨f - 1, by omega⟩
    refine br_t (by decide) ?_
    rcases hx with ⟨x1, x2, _, x4⟩ | hx
    · have e : x = cn_ix c Lc := by
        have := cn_ix_min Lc x x1 x2
        have := x4 (cn_ix c Lc) (by omega) g1 g2
        omega
      rw [e]; exact hp
    · exact absurd g2 (hx _ (by omega) g1)
  | succ k ih =>
    intro f x hi hf hx
    obtain ⟨f, rfl⟩ : ∃ g, f = g + 1 := ⟨f - 1, by omega⟩
    rw [pk_m1 k]
    obtain ⟨e1, e2⟩ := h4 k (by omega)
    refine br_f (nI_pos (by omega)) (And.intro (pk_in (row * 42 + k) 756 (by omega) (ix_42 row k)) ?_)
    rw [ix_42, nI_clamp (by omega), e1]
    refine pk_eq (Lc.getD k 0) c (fun z => nm_e (ih f k (by omega) (by omega) (Or.inl ⟨by omega, z, by omega, fun j hj _ _ => hj⟩))) (fun z => nm_e (ih f x (by omega) (by omega) ?_))
    rcases hx with ⟨x1, x2, x3, x4⟩ | hx
    · refine Or.inl ⟨x1, x2, by omega, fun j hj hl he => ?_⟩
      by_cases q : j = k
      · subst q; exact absurd he z
      · exact x4 j (by omega) hl he
    · refine Or.inr (fun j hj hl he => ?_)
      by_cases q : j = k
      · subst q; exact z he
      · exact hx j (by omega) hl he
theorem x_firstWithCode {post : Int32 → Prop} {row c : Nat} {Lc : List Nat} (hr : rw_ok row a_typeCodes a_typeLengths Lc) (hm : c ∈ Lc) (hc : c < 100) (hp : post (nI (cn_ix c Lc))) :
    wpX_firstWithCode post (f_saidPlace, f_instanceCount, f_nodeCount, f_equationCount, f_stackCount, f_wordCount, f_depth, f_cellCount, f_consCount, f_closureCount, f_stepCount, f_runAnswer, f_writtenCount, a_kinds, a_values, a_spans, a_bounds, a_binders, a_lengths, a_parameterCounts, a_typeCodes, a_typeLengths, a_instanceFunctions, a_nodeKinds, a_nodeLefts, a_nodeRights, a_nodeSizes, a_equationLefts, a_equationRights, a_stackLefts, a_stackRights, a_words, a_boundWords, a_cellFirsts, a_cellSeconds, a_closureTokens, a_closureWords, a_written) (nI row) (nI c) := by
  have h1 := hr.1
  have h2 := hr.2.1
  refine And.intro (pk_in row 18 h1) (nm_r (e' := nI Lc.length + (-1)) (by rw [nI_clamp (by omega), hr.2.2.1, Int32.sub_eq_add_neg]) (Exists.intro 43 ?_))
  exact x_fwc12 hr hm hc hp Lc.length 43 0 (Nat.le_refl _) (by omega) (Or.inr (fun j h3 h4 => by omega))
/-- what loading writes for place j -/
def ld_k (Lc : List Nat) (j : Nat) : Int32 := if Lc.getD j 0 < 10 then nI (Lc.getD j 0) else if cn_ix (Lc.getD j 0) Lc = j then 10 else 5
def ld_l (B : Nat) (Lc : List Nat) (j : Nat) : Nat := if Lc.getD j 0 < 10 then B + j + 1 else B + cn_ix (Lc.getD j 0) Lc
def ld_r (B : Nat) (tau : Nat → mt_T) (j : Nat) : Nat := B + j + 1 + (mt_enc (tau (j + 1))).length
def ld_p (B : Nat) (Lc : List Nat) (tau : Nat → mt_T) (K nl nr sz : Nat → Int32) (j : Nat) : Prop :=
  K (B + j) = ld_k Lc j ∧ nl (B + j) = (if ld_k Lc j = 10 then -1 else nI (ld_l B Lc j)) ∧ (gr_rg (ld_k Lc j) → nr (B + j) = nI (ld_r B tau j)) ∧ sz (B + j) = nI (mt_enc (tau j)).length
theorem ld_keep {B : Nat} {Lc : List Nat} {tau : Nat → mt_T} {K nl nr sz K' nl' nr' sz' : Nat → Int32} {j : Nat} (h : ld_p B Lc tau K nl nr sz j) (e1 : K' (B + j) = K (B + j)) (e2 : nl' (B + j) = nl (B + j)) (e3 : nr' (B + j) = nr (B + j)) (e4 : sz' (B + j) = sz (B + j)) :
    ld_p B Lc tau K' nl' nr' sz' j := by
  obtain ⟨a, b, c, d⟩ := h
  exact ⟨by rw [e1]; exact a, by rw [e2]; exact b, fun z => by rw [e3]; exact c z, by rw [e4]; exact d⟩
/-- the code of a place says what its tree is -/
theorem tk_c {Lc : List Nat} {tau : Nat → mt_T} (h : tk_at Lc tau) {j : Nat} (hj : j < Lc.length) :
    (Lc.getD j 0 = 0 ∧ tau j = .leaf 0) ∨ (Lc.getD j 0 = 1 ∧ tau j = .leaf 1) ∨ (10 ≤ Lc.getD j 0 ∧ tau j = .leaf (Lc.getD j 0)) ∨
    (Lc.getD j 0 = 3 ∧ tau j = .branch 3 (tau (j + 1)) (.leaf 0) ∧ j + 1 < Lc.length) ∨
    ((Lc.getD j 0 = 2 ∨ Lc.getD j 0 = 4) ∧ tau j = .branch (Lc.getD j 0) (tau (j + 1)) (tau (j + 1 + (mt_enc (tau (j + 1))).length)) ∧ j + 1 + (mt_enc (tau (j + 1))).length < Lc.length) := by
  obtain ⟨w1, w2, w3, w4⟩ := h j hj
  generalize ht : tau j = t at *
  cases t with
  | leaf n =>
    simp only [mt_hd] at w2
    rw [w2]
    rcases w1 with z | z | z
    · subst z; exact Or.inl ⟨rfl, rfl⟩
    · subst z; exact Or.inr (Or.inl ⟨rfl, rfl⟩)
    · exact Or.inr (Or.inr (Or.inl ⟨z, rfl⟩))
  | branch c a b =>
    simp only [mt_hd] at w2
    obtain ⟨q1, q2⟩ := w4 a b c rfl
    rw [w2]
    have ha := mt_enc_ne a
    rcases w1 with ⟨z, _, zb⟩ | ⟨z, _, _⟩
    · subst z; subst zb
      simp only [mt_enc, if_true, List.append_nil, List.length_cons] at w3
      exact Or.inr (Or.inr (Or.inr (Or.inl ⟨rfl, by rw [q1], by omega⟩)))
    · have h3 : c ≠ 3 := by omega
      have hb := mt_enc_ne b
      simp only [mt_enc, if_neg h3, List.length_cons, List.length_append] at w3
      refine Or.inr (Or.inr (Or.inr (Or.inr ⟨z, ?_, ?_⟩)))
      · rw [q1, q2 h3]
      · rw [q1]; omega

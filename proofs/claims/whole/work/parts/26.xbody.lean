variable {f_saidPlace f_instanceCount f_nodeCount f_equationCount f_stackCount f_wordCount f_depth f_cellCount f_consCount f_closureCount f_stepCount f_runAnswer f_writtenCount : Int32} {a_kinds a_values a_spans a_bounds a_binders a_lengths a_parameterCounts a_typeCodes a_typeLengths a_instanceFunctions a_nodeKinds a_nodeLefts a_nodeRights a_nodeSizes a_equationLefts a_equationRights a_stackLefts a_stackRights a_words a_boundWords a_cellFirsts a_cellSeconds a_closureTokens a_closureWords a_written : Nat → Int32}
def ar (k : Nat) : Nat := match k with
  | 5 => 2 | 6 => 1 | 7 => 1 | 9 => 2 | 10 => 3 | 11 => 3 | 12 => 2 | 13 => 2 | 14 => 2 | 15 => 1 | 16 => 2 | _ => 0
theorem k17 {k : Nat} (h : k ≤ 16) : k = 0 ∨ k = 1 ∨ k = 2 ∨ k = 3 ∨ k = 4 ∨ k = 5 ∨ k = 6 ∨ k = 7 ∨ k = 8 ∨ k = 9 ∨ k = 10 ∨ k = 11 ∨ k = 12 ∨ k = 13 ∨ k = 14 ∨ k = 15 ∨ k = 16 := by omega
theorem x_operandCount {post : Int32 → Prop} {a k o : Nat} (ha : a < 264) (hk : a_kinds a = nI k) (hk2 : k ≤ 16)
    (h4 : k = 4 → ∃ g, g < 11 ∧ a_values a = nI g ∧ (a_lengths g = 0 ∧ o = 0 ∨ a_lengths g ≠ 0 ∧ a_parameterCounts g = nI o)) (h : k ≠ 4 → o = ar k) (hp : post (nI o)) : wpX_operandCount post (f_saidPlace, f_instanceCount, f_nodeCount, f_equationCount, f_stackCount, f_wordCount, f_depth, f_cellCount, f_consCount, f_closureCount, f_stepCount, f_runAnswer, f_writtenCount, a_kinds, a_values, a_spans, a_bounds, a_binders, a_lengths, a_parameterCounts, a_typeCodes, a_typeLengths, a_instanceFunctions, a_nodeKinds, a_nodeLefts, a_nodeRights, a_nodeSizes, a_equationLefts, a_equationRights, a_stackLefts, a_stackRights, a_words, a_boundWords, a_cellFirsts, a_cellSeconds, a_closureTokens, a_closureWords, a_written) (nI a) := by
  have ca : (nI a).toNatClampNeg = a := nI_clamp (by omega)
  refine And.intro (pk_in a 264 ha) (nm_r (e' := nI k) (by rw [ca]; exact hk) ?_)
  by_cases z4 : k = 4
  · subst z4
    obtain ⟨g, hg, hv, hl⟩ := h4 rfl
    refine br_f (by decide) (br_f (by decide) (br_t rfl (And.intro (pk_in a 264 ha) ?_)))
    rw [ca, hv]
    refine And.intro (pk_in g 11 hg) ?_
    rw [nI_clamp (n := g) (by omega)]
    rcases hl with ⟨l0, o0⟩ | ⟨l0, o0⟩
    · subst o0; exact br_t l0 hp
    · refine br_f l0 (And.intro (pk_in a 264 ha) (And.intro (pk_in g 11 hg) ?_))
      rw [o0]; exact hp
  · have ho := h z4
    subst ho
    rcases k17 hk2 with rfl | rfl | rfl | rfl | rfl | rfl | rfl | rfl | rfl | rfl | rfl | rfl | rfl | rfl | rfl | rfl | rfl
    · exact br_t (by decide) hp
    · exact br_t (by decide) hp
    · exact br_t (by decide) hp
    · exact br_t (by decide) hp
    · exact absurd rfl z4
    · exact br_f (by decide) (br_f (by decide) (br_f (by decide) (br_t rfl hp)))
    · exact br_f (by decide) (br_f (by decide) (br_f (by decide) (br_f (by decide) (br_t rfl hp))))
    · exact br_f (by decide) (br_f (by decide) (br_f (by decide) (br_f (by decide) (br_f (by decide) (br_t rfl hp)))))
    · exact br_f (by decide) (br_f (by decide) (br_f (by decide) (br_f (by decide) (br_f (by decide) (br_f (by decide) (br_t rfl hp))))))
    · exact br_f (by decide) (br_f (by decide) (br_f (by decide) (br_f (by decide) (br_f (by decide) (br_f (by decide) (br_f (by decide) (br_t rfl hp)))))))
    · exact br_f (by decide) (br_f (by decide) (br_f (by decide) (br_f (by decide) (br_f (by decide) (br_f (by decide) (br_f (by decide) (br_f (by decide) (br_t rfl hp))))))))
    · exact br_f (by decide) (br_f (by decide) (br_f (by decide) (br_f (by decide) (br_f (by decide) (br_f (by decide) (br_f (by decide) (br_f (by decide) (br_f (by decide) (br_t rfl hp)))))))))
    · exact br_f (by decide) (br_f (by decide) (br_f (by decide) (br_f (by decide) (br_f (by decide) (br_f (by decide) (br_f (by decide) (br_f (by decide) (br_f (by decide) (br_f (by decide) (br_t rfl hp))))))))))
    · exact br_f (by decide) (br_f (by decide) (br_f (by decide) (br_f (by decide) (br_f (by decide) (br_f (by decide) (br_f (by decide) (br_f (by decide) (br_f (by decide) (br_f (by decide) (br_f (by decide) (br_t rfl hp)))))))))))
    · exact br_f (by decide) (br_f (by decide) (br_f (by decide) (br_f (by decide) (br_f (by decide) (br_f (by decide) (br_f (by decide) (br_f (by decide) (br_f (by decide) (br_f (by decide) (br_f (by decide) (br_f (by decide) (br_t rfl hp))))))))))))
    · exact br_f (by decide) (br_f (by decide) (br_f (by decide) (br_f (by decide) (br_f (by decide) (br_f (by decide) (br_f (by decide) (br_f (by decide) (br_f (by decide) (br_f (by decide) (br_f (by decide) (br_f (by decide) (br_f (by decide) (br_t rfl hp)))))))))))))
    · exact br_f (by decide) (br_f (by decide) (br_f (by decide) (br_f (by decide) (br_f (by decide) (br_f (by decide) (br_f (by decide) (br_f (by decide) (br_f (by decide) (br_f (by decide) (br_f (by decide) (br_f (by decide) (br_f (by decide) (br_f (by decide) (br_t rfl hp))))))))))))))
theorem x_operandAt7 {post : Int32 → Prop} {B t j : Nat} {sp : Nat → Nat} (hj : j ≤ 3) (hs : ∀ i, i < j → B + jp sp t i < 264 ∧ a_spans (B + jp sp t i) = nI (sp (jp sp t i))) (hp : post (nI (B + jp sp t j))) :
    ∀ q i f, i + q = j → q < f → wX_operandAt_7 post (nI j) f_saidPlace f_instanceCount f_nodeCount f_equationCount f_stackCount f_wordCount f_depth f_cellCount f_consCount f_closureCount f_stepCount f_runAnswer f_writtenCount a_kinds a_values a_spans a_bounds a_binders a_lengths a_parameterCounts a_typeCodes a_typeLengths a_instanceFunctions a_nodeKinds a_nodeLefts a_nodeRights a_nodeSizes a_equationLefts a_equationRights a_stackLefts a_stackRights a_words a_boundWords a_cellFirsts a_cellSeconds a_closureTokens a_closureWords a_written f (nI (B + jp sp t i)) (nI i) := by
  intro q
  induction q with
  | zero =>
    intro i f hi hf
    obtain ⟨f, rfl⟩ : ∃ g, f = g + 1 := ⟨f - 1, by omega⟩
    have : i = j := by omega
    subst this
    exact br_t (nI_le (Nat.le_refl _) (by omega)) hp
  | succ q ih =>
    intro i f hi hf
    obtain ⟨f, rfl⟩ : ∃ g, f = g + 1 := ⟨f - 1, by omega⟩
    obtain ⟨a, b⟩ := hs i (by omega)
    refine br_f (nI_ge (by omega) (by omega)) (And.intro (pk_in (B + jp sp t i) 264 a) (nm_r (e' := nI (B + jp sp t (i + 1))) (by rw [nI_clamp (by omega), b, nI_add, Nat.add_assoc]; rfl) (nm_r (nI_1 i) (ih (i + 1) f (by omega) (by omega)))))
theorem x_operandAt {post : Int32 → Prop} {B t j : Nat} {sp : Nat → Nat} (hj : j ≤ 3) (hs : ∀ i, i < j → B + jp sp t i < 264 ∧ a_spans (B + jp sp t i) = nI (sp (jp sp t i))) (hp : post (nI (B + jp sp t j))) :
    wpX_operandAt post (f_saidPlace, f_instanceCount, f_nodeCount, f_equationCount, f_stackCount, f_wordCount, f_depth, f_cellCount, f_consCount, f_closureCount, f_stepCount, f_runAnswer, f_writtenCount, a_kinds, a_values, a_spans, a_bounds, a_binders, a_lengths, a_parameterCounts, a_typeCodes, a_typeLengths, a_instanceFunctions, a_nodeKinds, a_nodeLefts, a_nodeRights, a_nodeSizes, a_equationLefts, a_equationRights, a_stackLefts, a_stackRights, a_words, a_boundWords, a_cellFirsts, a_cellSeconds, a_closureTokens, a_closureWords, a_written) (nI (B + t)) (nI j) :=
  nm_r (nI_1 (B + t)) (Exists.intro (j + 1) (x_operandAt7 (B := B) (t := t) hj hs hp j 0 (j + 1) (by omega) (by omega)))
/-- a body as X holds it in slot f: n tokens; kN kinds, vl values, oc operands, sp spans, bd bounds, bi binders (0 none, else the token and one) -/
def xb_ok (f n : Nat) (ki va spa bou bin len pc : Nat → Int32) (kN : Nat → Nat) (vl : Nat → Int32) (oc sp bd bi : Nat → Nat) : Prop :=
  n ≤ 24 ∧ bw_is n oc sp ∧ sm oc n + 1 = n ∧ ∀ t, t < n → ki (f * 24 + t) = nI (kN t) ∧ kN t ≤ 16 ∧ va (f * 24 + t) = vl t ∧ spa (f * 24 + t) = nI (sp t) ∧
    bou (f * 24 + t) = nI (bd t) ∧ bd t ≤ 12 ∧ bin (f * 24 + t) = (if bi t = 0 then -1 else nI (bi t - 1)) ∧ bi t ≤ t ∧
    (kN t = 3 → ∃ v, v < 10 ∧ vl t = nI v ∧ v < bd t ∧ vw bi bd (bi t) (bi t) v < 74) ∧
    (kN t = 4 → ∃ g, g < 5 ∧ vl t = nI g ∧ len g ≠ 0 ∧ pc g = nI (oc t) ∧ oc t ≤ 2) ∧ (kN t ≠ 4 → oc t = ar (kN t))

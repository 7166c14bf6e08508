variable {f_saidPlace f_instanceCount f_nodeCount f_equationCount f_stackCount f_wordCount f_depth f_cellCount f_consCount f_closureCount f_stepCount f_runAnswer f_writtenCount : Int32} {a_kinds a_values a_spans a_bounds a_binders a_lengths a_parameterCounts a_typeCodes a_typeLengths a_instanceFunctions a_nodeKinds a_nodeLefts a_nodeRights a_nodeSizes a_equationLefts a_equationRights a_stackLefts a_stackRights a_words a_boundWords a_cellFirsts a_cellSeconds a_closureTokens a_closureWords a_written : Nat → Int32}
/-- the tokens of slot f -/
def xt_ok (f n : Nat) (ki va : Nat → Int32) (kN : Nat → Nat) (vl : Nat → Int32) : Prop := n ≤ 24 ∧ ∀ t, t < n → ki (f * 24 + t) = nI (kN t) ∧ kN t ≤ 16 ∧ va (f * 24 + t) = vl t ∧ (kN t = 3 → ∃ v, v < 10 ∧ vl t = nI v) ∧ (kN t = 4 → ∃ g, g < 5 ∧ vl t = nI g)
/-- their operands -/
def xo_ok (n : Nat) (kN : Nat → Nat) (vl : Nat → Int32) (oc : Nat → Nat) (len pc : Nat → Int32) : Prop :=
  ∀ t, t < n → oc t ≤ 3 ∧ (kN t ≠ 4 → oc t = ar (kN t)) ∧ (kN t = 4 → ∀ g, vl t = nI g → g < 5 → (len g = 0 ∧ oc t = 0 ∨ len g ≠ 0 ∧ pc g = nI (oc t)))
theorem x_oc {post : Int32 → Prop} {f n t : Nat} {kN : Nat → Nat} {vl : Nat → Int32} {oc : Nat → Nat} (hf : f ≤ 10) (ht : t < n) (hx : xt_ok f n a_kinds a_values kN vl) (ho : xo_ok n kN vl oc a_lengths a_parameterCounts) (hp : post (nI (oc t))) : wpX_operandCount post (f_saidPlace, f_instanceCount, f_nodeCount, f_equationCount, f_stackCount, f_wordCount, f_depth, f_cellCount, f_consCount, f_closureCount, f_stepCount, f_runAnswer, f_writtenCount, a_kinds, a_values, a_spans, a_bounds, a_binders, a_lengths, a_parameterCounts, a_typeCodes, a_typeLengths, a_instanceFunctions, a_nodeKinds, a_nodeLefts, a_nodeRights, a_nodeSizes, a_equationLefts, a_equationRights, a_stackLefts, a_stackRights, a_words, a_boundWords, a_cellFirsts, a_cellSeconds, a_closureTokens, a_closureWords, a_written) (nI (f * 24 + t)) := by
  obtain ⟨n24, hx⟩ := hx
  obtain ⟨b1, b2, b3, b4, b5⟩ := hx t ht
  obtain ⟨o1, o2, o3⟩ := ho t ht
  refine x_operandCount (by omega) b1 b2 (fun z => ?_) o2 hp
  obtain ⟨g, g1, g2⟩ := b5 z
  exact ⟨g, by omega, by rw [b3]; exact g2, o3 z g g2 g1⟩
theorem ai_s (a o : Nat) (h : 0 < a) : nI a + (nI o - 1) = nI (a + o - 1) := by
  rw [Int32.sub_eq_add_neg, ← Int32.add_assoc, nI_add]
  obtain ⟨b, hb⟩ : ∃ b, a + o = b + 1 := ⟨a + o - 1, by omega⟩
  rw [hb]; exact pk_m1 b
theorem x_fm4 {post : Int32 → Prop} {f n : Nat} {kN : Nat → Nat} {vl : Nat → Int32} {oc : Nat → Nat} (hf : f < 5) (hl : a_lengths f = nI n) (hx : xt_ok f n a_kinds a_values kN vl) (ho : xo_ok n kN vl oc a_lengths a_parameterCounts)
    (h1 : ∀ t, t < n → aw oc t = 0 → (∀ s, s < t → aw oc s ≠ 0) → post (nI t)) (h2 : (∀ s, s < n → aw oc s ≠ 0) → aw oc n = 0 → post (-1)) (h3 : (∀ s, s < n → aw oc s ≠ 0) → aw oc n ≠ 0 → post (nI n)) :
    ∀ q t fu, t + q = n → q < fu → (∀ s, s < t → aw oc s ≠ 0) → wX_firstMisshapen_4 post (nI f) f_saidPlace f_instanceCount f_nodeCount f_equationCount f_stackCount f_wordCount f_depth f_cellCount f_consCount f_closureCount f_stepCount f_runAnswer f_writtenCount a_kinds a_values a_spans a_bounds a_binders a_lengths a_parameterCounts a_typeCodes a_typeLengths a_instanceFunctions a_nodeKinds a_nodeLefts a_nodeRights a_nodeSizes a_equationLefts a_equationRights a_stackLefts a_stackRights a_words a_boundWords a_cellFirsts a_cellSeconds a_closureTokens a_closureWords a_written fu (nI (aw oc t)) (nI t) := by
  have n24 := hx.1
  intro q
  induction q with
  | zero =>
    intro t fu ht hfu hs
    obtain ⟨fu, rfl⟩ : ∃ g, fu = g + 1 := ⟨fu - 1, by omega⟩
    have e : t = n := by omega
    subst e
    have hb := aw_le (oc := oc) t (fun s hs => (ho s hs).1)
    refine And.intro (pk_in f 11 (by omega)) ?_
    rw [nI_clamp (n := f) (by omega), hl]
    exact br_t (nI_le (Nat.le_refl _) (by omega)) (pk_eq (aw oc t) 0 (fun z => h2 hs z) (fun z => And.intro (pk_in f 11 (by omega)) (h3 hs z)))
  | succ q ih =>
    intro t fu ht hfu hs
    obtain ⟨fu, rfl⟩ : ∃ g, fu = g + 1 := ⟨fu - 1, by omega⟩
    have hb := aw_le (oc := oc) t (fun s hs => (ho s (by omega)).1)
    refine And.intro (pk_in f 11 (by omega)) ?_
    rw [nI_clamp (n := f) (by omega), hl]
    refine br_f (nI_ge (by omega) (by omega)) (pk_eq (aw oc t) 0 (fun z => h1 t (by omega) z hs) (fun z => ?_))
    rw [ix_24]
    refine x_oc (by omega) (by omega) hx ho (nm_r (ai_s _ _ (by omega)) (nm_r (nI_1 t) (ih (t + 1) fu (by omega) (by omega) (fun s hs' => ?_))))
    by_cases y : s = t
    · subst y; exact z
    · exact hs s (by omega)
theorem x_firstMisshapen {post : Int32 → Prop} {f n : Nat} {kN : Nat → Nat} {vl : Nat → Int32} {oc : Nat → Nat} (hf : f < 5) (hl : a_lengths f = nI n) (hx : xt_ok f n a_kinds a_values kN vl) (ho : xo_ok n kN vl oc a_lengths a_parameterCounts)
    (h1 : ∀ t, t < n → aw oc t = 0 → (∀ s, s < t → aw oc s ≠ 0) → post (nI t)) (h2 : (∀ s, s < n → aw oc s ≠ 0) → aw oc n = 0 → post (-1)) (h3 : (∀ s, s < n → aw oc s ≠ 0) → aw oc n ≠ 0 → post (nI n)) : wpX_firstMisshapen post (f_saidPlace, f_instanceCount, f_nodeCount, f_equationCount, f_stackCount, f_wordCount, f_depth, f_cellCount, f_consCount, f_closureCount, f_stepCount, f_runAnswer, f_writtenCount, a_kinds, a_values, a_spans, a_bounds, a_binders, a_lengths, a_parameterCounts, a_typeCodes, a_typeLengths, a_instanceFunctions, a_nodeKinds, a_nodeLefts, a_nodeRights, a_nodeSizes, a_equationLefts, a_equationRights, a_stackLefts, a_stackRights, a_words, a_boundWords, a_cellFirsts, a_cellSeconds, a_closureTokens, a_closureWords, a_written) (nI f) :=
  Exists.intro (n + 1) (x_fm4 hf hl hx ho h1 h2 h3 n 0 (n + 1) (by omega) (by omega) (fun s hs => by omega))
theorem x_ms9 {post : SX → Prop} {f n : Nat} {kN : Nat → Nat} {vl : Nat → Int32} {oc : Nat → Nat} (hf : f < 5) (hx : xt_ok f n a_kinds a_values kN vl) (ho : xo_ok n kN vl oc a_lengths a_parameterCounts) (hn0 : 0 < n) (hA : ∀ s, s < n → aw oc s ≠ 0) (hAn : aw oc n = 0)
    (hP : ∀ spA sp, (∀ t, t < n → spA (f * 24 + t) = nI (sp t)) → (∀ j, j < f * 24 ∨ f * 24 + 24 ≤ j → spA j = a_spans j) → bw_is n oc sp → post (f_saidPlace, f_instanceCount, f_nodeCount, f_equationCount, f_stackCount, f_wordCount, f_depth, f_cellCount, f_consCount, f_closureCount, f_stepCount, f_runAnswer, f_writtenCount, a_kinds, a_values, spA, a_bounds, a_binders, a_lengths, a_parameterCounts, a_typeCodes, a_typeLengths, a_instanceFunctions, a_nodeKinds, a_nodeLefts, a_nodeRights, a_nodeSizes, a_equationLefts, a_equationRights, a_stackLefts, a_stackRights, a_words, a_boundWords, a_cellFirsts, a_cellSeconds, a_closureTokens, a_closureWords, a_written)) :
    ∀ i fu spA (sp : Nat → Nat), i ≤ n → i < fu → (∀ j, j < f * 24 ∨ f * 24 + 24 ≤ j → spA j = a_spans j) → (∀ s, i ≤ s → s < n → spA (f * 24 + s) = nI (sp s) ∧ 1 ≤ sp s ∧ s + sp s ≤ n ∧ aw oc (s + sp s) + 1 = aw oc s ∧ jp sp s (oc s) = s + sp s ∧ ∀ j, j < oc s → jp sp s j < n) →
      wX_measureSpans_9 post (nI f) f_saidPlace f_instanceCount f_nodeCount f_equationCount f_stackCount f_wordCount f_depth f_cellCount f_consCount f_closureCount f_stepCount f_runAnswer f_writtenCount fu (nI i + (-1)) a_kinds a_values spA a_bounds a_binders a_lengths a_parameterCounts a_typeCodes a_typeLengths a_instanceFunctions a_nodeKinds a_nodeLefts a_nodeRights a_nodeSizes a_equationLefts a_equationRights a_stackLefts a_stackRights a_words a_boundWords a_cellFirsts a_cellSeconds a_closureTokens a_closureWords a_written := by
  have n24 := hx.1
  intro i
  induction i with
  | zero =>
    intro fu spA sp hi hfu ho1 hs
    obtain ⟨fu, rfl⟩ : ∃ g, fu = g + 1 := ⟨fu - 1, by omega⟩
    refine br_t (by decide) (hP spA sp (fun t ht => (hs t (by omega) ht).1) ho1 ⟨hn0, ?_, fun t ht => ?_⟩)
    · obtain ⟨_, a, b, c, _, _⟩ := hs 0 (by omega) hn0
      rcases Nat.lt_or_ge (0 + sp 0) n with z | z
      · exfalso
        have h1 := hA _ z
        have h2 : aw oc 0 = 1 := rfl
        omega
      · omega
    · obtain ⟨_, a, b, _, c, d⟩ := hs t (by omega) ht
      exact ⟨a, b, c, d⟩
  | succ t ih =>
    intro fu spA sp hi hfu ho1 hs
    obtain ⟨fu, rfl⟩ : ∃ g, fu = g + 1 := ⟨fu - 1, by omega⟩
    rw [pk_m1 t]
    have htn : t < n := by omega
    have hst := bw_step (oc := oc) (sp := sp) (A := aw oc) (fun s hs' => ⟨aw_s (hA s hs'), by have := hA s hs'; omega⟩) hAn htn (fun s h1 h2 => by obtain ⟨_, a, b, c, _, _⟩ := hs s (by omega) h2; exact ⟨a, b, c⟩) (oc t) (Nat.le_refl _)
    obtain ⟨g1, g2, g3⟩ := hst
    have hgt := jp_gt sp t (oc t)
    have hA1 := aw_s (hA t htn)
    refine br_f (nI_pos (by omega)) (nm_r (ix_24 f t) (x_oc (by omega) htn hx ho ?_))
    refine x_operandAt (B := f * 24) (t := t) (sp := sp) (ho t htn).1 (fun j hj => ?_) ?_
    · have h1 := g3 j hj
      have h2 := jp_gt sp t j
      exact ⟨by omega, (hs _ (by omega) h1).1⟩
    · refine And.intro (pk_in (f * 24 + t) 264 (by omega)) (nm_r (e' := upd spA (f * 24 + t) (nI (jp sp t (oc t) - t))) ?_ (nm_e ?_))
      · rw [nI_clamp (by omega), pk_sub (by omega)]; congr 2; omega
      · have hcong : ∀ s, t ≤ s → ∀ j, jp (updN sp t (jp sp t (oc t) - t)) s j = jp sp s j := fun s hs' j => jp_congr j (fun i _ => uN_n (by have := jp_gt sp s i; omega))
        refine ih fu _ (updN sp t (jp sp t (oc t) - t)) (by omega) (by omega) (fun j hj => by rw [pk_un (by omega)]; exact ho1 j hj) (fun s h1 h2 => ?_)
        by_cases z : s = t
        · subst z
          rw [pk_us, uN_s, hcong s (Nat.le_refl _)]
          have e : s + (jp sp s (oc s) - s) = jp sp s (oc s) := by omega
          rw [e]
          exact ⟨rfl, by omega, g1, by omega, rfl, fun j hj => by rw [hcong s (Nat.le_refl _)]; exact g3 j hj⟩
        · obtain ⟨a, b, c, d, e, f'⟩ := hs s (by omega) h2
          rw [pk_un (by omega), uN_n z, hcong s (by omega)]
          exact ⟨a, b, c, d, e, fun j hj => by rw [hcong s (by omega)]; exact f' j hj⟩
theorem x_measureSpans {post : SX → Prop} {f n : Nat} {kN : Nat → Nat} {vl : Nat → Int32} {oc : Nat → Nat} (hf : f < 5) (hl : a_lengths f = nI n) (hx : xt_ok f n a_kinds a_values kN vl) (ho : xo_ok n kN vl oc a_lengths a_parameterCounts) (hn0 : 0 < n) (hA : ∀ s, s < n → aw oc s ≠ 0) (hAn : aw oc n = 0)
    (hP : ∀ spA sp, (∀ t, t < n → spA (f * 24 + t) = nI (sp t)) → (∀ j, j < f * 24 ∨ f * 24 + 24 ≤ j → spA j = a_spans j) → bw_is n oc sp → post (f_saidPlace, f_instanceCount, f_nodeCount, f_equationCount, f_stackCount, f_wordCount, f_depth, f_cellCount, f_consCount, f_closureCount, f_stepCount, f_runAnswer, f_writtenCount, a_kinds, a_values, spA, a_bounds, a_binders, a_lengths, a_parameterCounts, a_typeCodes, a_typeLengths, a_instanceFunctions, a_nodeKinds, a_nodeLefts, a_nodeRights, a_nodeSizes, a_equationLefts, a_equationRights, a_stackLefts, a_stackRights, a_words, a_boundWords, a_cellFirsts, a_cellSeconds, a_closureTokens, a_closureWords, a_written)) : wpX_measureSpans post (f_saidPlace, f_instanceCount, f_nodeCount, f_equationCount, f_stackCount, f_wordCount, f_depth, f_cellCount, f_consCount, f_closureCount, f_stepCount, f_runAnswer, f_writtenCount, a_kinds, a_values, a_spans, a_bounds, a_binders, a_lengths, a_parameterCounts, a_typeCodes, a_typeLengths, a_instanceFunctions, a_nodeKinds, a_nodeLefts, a_nodeRights, a_nodeSizes, a_equationLefts, a_equationRights, a_stackLefts, a_stackRights, a_words, a_boundWords, a_cellFirsts, a_cellSeconds, a_closureTokens, a_closureWords, a_written) (nI f) := by
  have n24 := hx.1
  refine And.intro (pk_in f 11 (by omega)) (nm_r (e' := nI n + (-1)) (by rw [nI_clamp (by omega), hl, Int32.sub_eq_add_neg]) (Exists.intro (n + 1) ?_))
  exact x_ms9 hf hx ho hn0 hA hAn hP n (n + 1) _ (fun _ => 0) (Nat.le_refl _) (by omega) (fun _ _ => rfl) (fun s h1 h2 => by omega)
/-- how many a token of kind k binds -/
def op (k : Nat) : Nat := if k = 10 then 2 else if k = 14 ∨ k = 15 then 1 else 0
theorem x_boundBy {post : Int32 → Prop} {k : Nat} (hk : k ≤ 16) (hp : post (nI (op k))) : wpX_boundBy post (f_saidPlace, f_instanceCount, f_nodeCount, f_equationCount, f_stackCount, f_wordCount, f_depth, f_cellCount, f_consCount, f_closureCount, f_stepCount, f_runAnswer, f_writtenCount, a_kinds, a_values, a_spans, a_bounds, a_binders, a_lengths, a_parameterCounts, a_typeCodes, a_typeLengths, a_instanceFunctions, a_nodeKinds, a_nodeLefts, a_nodeRights, a_nodeSizes, a_equationLefts, a_equationRights, a_stackLefts, a_stackRights, a_words, a_boundWords, a_cellFirsts, a_cellSeconds, a_closureTokens, a_closureWords, a_written) (nI k) := by
  unfold op at hp
  refine pk_eq k 10 (fun z => ?_) (fun z => pk_eq k 14 (fun z2 => ?_) (fun z2 => pk_eq k 15 (fun z3 => ?_) (fun z3 => ?_)))
  · rw [if_pos z] at hp; exact hp
  · rw [if_neg z, if_pos (Or.inl z2)] at hp; exact hp
  · rw [if_neg z, if_pos (Or.inr z3)] at hp; exact hp
  · rw [if_neg z, if_neg (by omega)] at hp; exact hp
theorem op_fin : ∀ k : Fin 17, ∀ j : Fin 3, k.val ≠ 4 → j.val < ar k.val → bn k.val j.val = if 0 < op k.val ∧ j.val = ar k.val - 1 then op k.val else 0 := by decide
theorem ar_3 : ∀ k : Fin 17, ar k.val ≤ 3 := by decide
theorem op_bn {k o : Nat} (hk : k ≤ 16) (h4 : k ≠ 4 → o = ar k) (j : Nat) (hj : j < o) : bn k j = if 0 < op k ∧ j = o - 1 then op k else 0 := by
  by_cases z : k = 4
  · subst z
    have h1 : op 4 = 0 := by decide
    rw [h1, if_neg (by omega)]
    unfold bn; rw [if_neg (by omega), if_neg (by omega)]
  · have e := h4 z
    subst e
    have h3 := ar_3 ⟨k, by omega⟩
    exact op_fin ⟨k, by omega⟩ ⟨j, by simp only at h3; omega⟩ z hj

variable {f_saidPlace f_instanceCount f_nodeCount f_equationCount f_stackCount f_wordCount f_depth f_cellCount f_consCount f_closureCount f_stepCount f_runAnswer f_writtenCount : Int32} {a_kinds a_values a_spans a_bounds a_binders a_lengths a_parameterCounts a_typeCodes a_typeLengths a_instanceFunctions a_nodeKinds a_nodeLefts a_nodeRights a_nodeSizes a_equationLefts a_equationRights a_stackLefts a_stackRights a_words a_boundWords a_cellFirsts a_cellSeconds a_closureTokens a_closureWords a_written : Nat → Int32}
variable {yf_place yf_points yf_names yf_textEnd yf_made yf_entry yf_waiting yf_values yf_bound yf_cells yf_conses yf_lams yf_steps yf_atWork yf_end yf_writtenCount : Int32} {ya_kind ya_up ya_turn ya_depth ya_value ya_below ya_length ya_parameters ya_codes ya_codeCount ya_form ya_colour ya_same ya_one ya_two ya_todo ya_numbered ya_text ya_ofFunction ya_codeEnd ya_instance ya_token ya_env ya_tag ya_cellEnv ya_boundNext ya_step ya_boundNumber ya_boundTag ya_headTag ya_tailTag ya_number ya_boundValue ya_head ya_tail ya_written : Nat → Int32}
/-- a token that UNBOUND names; mis g: g has no body -/
def ub (bd kN : Nat → Nat) (vl : Nat → Int32) (mis : Nat → Prop) (t : Nat) : Prop :=
  (kN t = 3 ∧ ∃ v, v < 10 ∧ vl t = nI v ∧ bd t ≤ v) ∨ (0 < op (kN t) ∧ 10 < bd t + op (kN t)) ∨ (kN t = 4 ∧ ∃ g, g < 5 ∧ vl t = nI g ∧ mis g)
theorem op_2 (k : Nat) : op k ≤ 2 := by unfold op; split; omega; split <;> omega
theorem x_missing {post : Int32 → Prop} {a k : Nat} (ha : a < 264) (hk : a_kinds a = nI k) (hk2 : k ≤ 16) (h4 : k = 4 → ∃ g, g < 5 ∧ a_values a = nI g)
    (h1 : (k = 4 ∧ ∃ g, g < 5 ∧ a_values a = nI g ∧ a_lengths g = 0) → post 1) (h0 : (k = 4 → ∀ g, g < 5 → a_values a = nI g → a_lengths g ≠ 0) → post 0) : wpX_isMissingCall post (f_saidPlace, f_instanceCount, f_nodeCount, f_equationCount, f_stackCount, f_wordCount, f_depth, f_cellCount, f_consCount, f_closureCount, f_stepCount, f_runAnswer, f_writtenCount, a_kinds, a_values, a_spans, a_bounds, a_binders, a_lengths, a_parameterCounts, a_typeCodes, a_typeLengths, a_instanceFunctions, a_nodeKinds, a_nodeLefts, a_nodeRights, a_nodeSizes, a_equationLefts, a_equationRights, a_stackLefts, a_stackRights, a_words, a_boundWords, a_cellFirsts, a_cellSeconds, a_closureTokens, a_closureWords, a_written) (nI a) := by
  have ca : (nI a).toNatClampNeg = a := nI_clamp (by omega)
  refine And.intro (pk_in a 264 ha) ?_
  rw [ca, hk]
  refine pk_eq k 4 (fun z => ?_) (fun z => h0 (fun q => absurd q z))
  obtain ⟨g, g1, g2⟩ := h4 z
  rw [g2]
  refine And.intro (pk_in a 264 ha) (And.intro (pk_in g 11 (by omega)) ?_)
  rw [nI_clamp (n := g) (by omega)]
  refine br_c (fun y => h1 ⟨z, g, g1, g2, y⟩) (fun y => h0 (fun _ g' g1' g2' => ?_))
  have : g' = g := by rw [g2] at g2'; exact ((nI_eq (by omega) (by omega)).mp g2').symm
  rw [this]; exact y
theorem x_ub2 {post : Int32 → Prop} {f n : Nat} {kN bd : Nat → Nat} {vl : Nat → Int32} (hf : f < 5) (hl : a_lengths f = nI n) (hx : xt_ok f n a_kinds a_values kN vl) (hb : ∀ s, s < n → a_bounds (f * 24 + s) = nI (bd s) ∧ bd s ≤ 100)
    (h1 : ∀ t, t < n → ub bd kN vl (fun g => a_lengths g = 0) t → (∀ s, s < t → ¬ ub bd kN vl (fun g => a_lengths g = 0) s) → post (nI t)) (h2 : (∀ s, s < n → ¬ ub bd kN vl (fun g => a_lengths g = 0) s) → post (-1)) :
    ∀ q t fu, t + q = n → q < fu → (∀ s, s < t → ¬ ub bd kN vl (fun g => a_lengths g = 0) s) → wX_firstUnbound_2 post (nI f) f_saidPlace f_instanceCount f_nodeCount f_equationCount f_stackCount f_wordCount f_depth f_cellCount f_consCount f_closureCount f_stepCount f_runAnswer f_writtenCount a_kinds a_values a_spans a_bounds a_binders a_lengths a_parameterCounts a_typeCodes a_typeLengths a_instanceFunctions a_nodeKinds a_nodeLefts a_nodeRights a_nodeSizes a_equationLefts a_equationRights a_stackLefts a_stackRights a_words a_boundWords a_cellFirsts a_cellSeconds a_closureTokens a_closureWords a_written fu (nI t) := by
  have n24 := hx.1
  intro q
  induction q with
  | zero =>
    intro t fu ht hfu hs
    obtain ⟨fu, rfl⟩ : ∃ g, fu = g + 1 := ⟨fu - 1, by omega⟩
    have e : t = n := by omega
    subst e
    refine And.intro (pk_in f 11 (by omega)) ?_
    rw [nI_clamp (n := f) (by omega), hl]
    exact br_t (nI_le (Nat.le_refl _) (by omega)) (h2 hs)
  | succ q ih =>
    intro t fu ht hfu hs
    obtain ⟨fu, rfl⟩ : ∃ g, fu = g + 1 := ⟨fu - 1, by omega⟩
    have htn : t < n := by omega
    obtain ⟨b1, b2, b3, b4, b5⟩ := hx.2 t htn
    obtain ⟨c1, c2⟩ := hb t htn
    have ca : (nI (f * 24 + t)).toNatClampNeg = f * 24 + t := nI_clamp (by omega)
    have ho2 := op_2 (kN t)
    refine And.intro (pk_in f 11 (by omega)) ?_
    rw [nI_clamp (n := f) (by omega), hl]
    refine br_f (nI_ge (by omega) (by omega)) (nm_r (ix_24 f t) (And.intro (pk_in (f * 24 + t) 264 (by omega)) ?_))
    rw [ca, b1]
    -- the last question
    have s87 : ∀ x5 z0 : Int32, (x5 = 0 ∨ x5 = 1) → (z0 = 0 ∨ z0 = 1) → (x5 = 1 → ub bd kN vl (fun g => a_lengths g = 0) t) → (z0 = 1 → ub bd kN vl (fun g => a_lengths g = 0) t) → (x5 = 0 → ¬ (kN t = 3 ∧ ∃ v, v < 10 ∧ vl t = nI v ∧ bd t ≤ v)) → (z0 = 0 → ¬ (0 < op (kN t) ∧ 10 < bd t + op (kN t))) →
        wX_firstUnbound_87 post (wX_firstUnbound_2 post (nI f) f_saidPlace f_instanceCount f_nodeCount f_equationCount f_stackCount f_wordCount f_depth f_cellCount f_consCount f_closureCount f_stepCount f_runAnswer f_writtenCount a_kinds a_values a_spans a_bounds a_binders a_lengths a_parameterCounts a_typeCodes a_typeLengths a_instanceFunctions a_nodeKinds a_nodeLefts a_nodeRights a_nodeSizes a_equationLefts a_equationRights a_stackLefts a_stackRights a_words a_boundWords a_cellFirsts a_cellSeconds a_closureTokens a_closureWords a_written fu) (nI f) (nI t) (nI (f * 24 + t)) x5 z0 f_saidPlace f_instanceCount f_nodeCount f_equationCount f_stackCount f_wordCount f_depth f_cellCount f_consCount f_closureCount f_stepCount f_runAnswer f_writtenCount a_kinds a_values a_spans a_bounds a_binders a_lengths a_parameterCounts a_typeCodes a_typeLengths a_instanceFunctions a_nodeKinds a_nodeLefts a_nodeRights a_nodeSizes a_equationLefts a_equationRights a_stackLefts a_stackRights a_words a_boundWords a_cellFirsts a_cellSeconds a_closureTokens a_closureWords a_written := by
      intro x5 z0 d1 d2 e1 e2 e3 e4
      rcases d1 with rfl | rfl
      · rcases d2 with rfl | rfl
        · refine br_t rfl (br_t rfl (x_missing (by omega) b1 b2 (fun z => by obtain ⟨g, g1, g2⟩ := b5 z; exact ⟨g, g1, by rw [b3]; exact g2⟩) (fun h => br_f n1_0 (h1 t htn (Or.inr (Or.inr ?_)) hs)) (fun h => br_t rfl (nm_r (nI_1 t) (ih (t + 1) fu (by omega) (by omega) (fun s hs' => ?_))))))
          · obtain ⟨k4, g, g1, g2, g3⟩ := h
            exact ⟨k4, g, g1, by rw [← b3]; exact g2, g3⟩
          · by_cases y : s = t
            · subst y
              rintro (w | w | ⟨k4, g, g1, g2, g3⟩)
              · exact e3 rfl w
              · exact e4 rfl w
              · exact h k4 g g1 (by rw [b3]; exact g2) g3
            · exact hs s (by omega)
        · exact br_t rfl (br_f n1_0 (h1 t htn (e2 rfl) hs))
      · exact br_f n1_0 (h1 t htn (e1 rfl) hs)
    have s61 : ∀ x5 : Int32, (x5 = 0 ∨ x5 = 1) → (x5 = 1 → ub bd kN vl (fun g => a_lengths g = 0) t) → (x5 = 0 → ¬ (kN t = 3 ∧ ∃ v, v < 10 ∧ vl t = nI v ∧ bd t ≤ v)) →
        wX_firstUnbound_61 post (wX_firstUnbound_2 post (nI f) f_saidPlace f_instanceCount f_nodeCount f_equationCount f_stackCount f_wordCount f_depth f_cellCount f_consCount f_closureCount f_stepCount f_runAnswer f_writtenCount a_kinds a_values a_spans a_bounds a_binders a_lengths a_parameterCounts a_typeCodes a_typeLengths a_instanceFunctions a_nodeKinds a_nodeLefts a_nodeRights a_nodeSizes a_equationLefts a_equationRights a_stackLefts a_stackRights a_words a_boundWords a_cellFirsts a_cellSeconds a_closureTokens a_closureWords a_written fu) (nI f) (nI t) (nI (f * 24 + t)) (nI (op (kN t))) x5 f_saidPlace f_instanceCount f_nodeCount f_equationCount f_stackCount f_wordCount f_depth f_cellCount f_consCount f_closureCount f_stepCount f_runAnswer f_writtenCount a_kinds a_values a_spans a_bounds a_binders a_lengths a_parameterCounts a_typeCodes a_typeLengths a_instanceFunctions a_nodeKinds a_nodeLefts a_nodeRights a_nodeSizes a_equationLefts a_equationRights a_stackLefts a_stackRights a_words a_boundWords a_cellFirsts a_cellSeconds a_closureTokens a_closureWords a_written := by
      intro x5 d1 e1 e3
      refine pk_le (op (kN t)) 0 (fun z => s87 x5 0 d1 (Or.inl rfl) e1 (fun y => absurd y (by decide)) e3 (fun _ y => by omega)) (fun z => And.intro (pk_in (f * 24 + t) 264 (by omega)) ?_)
      rw [ca, c1, nI_add]
      exact pk_le (bd t + op (kN t)) 10 (fun y => s87 x5 0 d1 (Or.inl rfl) e1 (fun y => absurd y (by decide)) e3 (fun _ w => by omega)) (fun y => s87 x5 1 d1 (Or.inr rfl) e1 (fun _ => Or.inr (Or.inl ⟨z, y⟩)) e3 (fun w => absurd w (by decide)))
    refine x_boundBy b2 (And.intro (pk_in (f * 24 + t) 264 (by omega)) (pk_eq (kN t) 3 (fun z3 => And.intro (pk_in (f * 24 + t) 264 (by omega)) (And.intro (pk_in (f * 24 + t) 264 (by omega)) ?_)) (fun z3 => s61 0 (Or.inl rfl) (fun y => absurd y (by decide)) (fun _ y => z3 y.1))))
    obtain ⟨v, v1, v2⟩ := b4 z3
    rw [b3, v2, c1]
    refine pk_lt v (bd t) (fun y => s61 0 (Or.inl rfl) (fun y => absurd y (by decide)) (fun _ w => ?_)) (fun y => s61 1 (Or.inr rfl) (fun _ => Or.inl ⟨z3, v, v1, v2, y⟩) (fun w => absurd w (by decide)))
    obtain ⟨_, v', v1', v2', v3'⟩ := w
    have : v' = v := by rw [v2] at v2'; exact ((nI_eq (by omega) (by omega)).mp v2').symm
    omega
theorem x_firstUnbound {post : Int32 → Prop} {f n : Nat} {kN bd : Nat → Nat} {vl : Nat → Int32} (hf : f < 5) (hl : a_lengths f = nI n) (hx : xt_ok f n a_kinds a_values kN vl) (hb : ∀ s, s < n → a_bounds (f * 24 + s) = nI (bd s) ∧ bd s ≤ 100)
    (h1 : ∀ t, t < n → ub bd kN vl (fun g => a_lengths g = 0) t → (∀ s, s < t → ¬ ub bd kN vl (fun g => a_lengths g = 0) s) → post (nI t)) (h2 : (∀ s, s < n → ¬ ub bd kN vl (fun g => a_lengths g = 0) s) → post (-1)) : wpX_firstUnbound post (f_saidPlace, f_instanceCount, f_nodeCount, f_equationCount, f_stackCount, f_wordCount, f_depth, f_cellCount, f_consCount, f_closureCount, f_stepCount, f_runAnswer, f_writtenCount, a_kinds, a_values, a_spans, a_bounds, a_binders, a_lengths, a_parameterCounts, a_typeCodes, a_typeLengths, a_instanceFunctions, a_nodeKinds, a_nodeLefts, a_nodeRights, a_nodeSizes, a_equationLefts, a_equationRights, a_stackLefts, a_stackRights, a_words, a_boundWords, a_cellFirsts, a_cellSeconds, a_closureTokens, a_closureWords, a_written) (nI f) :=
  Exists.intro (n + 1) (x_ub2 hf hl hx hb h1 h2 n 0 (n + 1) (by omega) (by omega) (fun s hs => by omega))
/-- the tokens of the draft, as Y holds them -/
def yt_ok (n : Nat) (ki va : Nat → Int32) (kN : Nat → Nat) (vl : Nat → Int32) : Prop := n ≤ 24 ∧ ∀ t, t < n → ki (120 + t) = nI (kN t) ∧ kN t ≤ 16 ∧ va (120 + t) = vl t ∧ (kN t = 3 → ∃ v, v < 10 ∧ vl t = nI v) ∧ (kN t = 4 → ∃ g, g < 5 ∧ vl t = nI g)
theorem ix_120 (t : Nat) : (120 : Int32) + nI t = nI (120 + t) := nI_add 120 t
theorem y_ub2 {post : Int32 → Prop} {f n : Nat} {kN bd : Nat → Nat} {vl : Nat → Int32} (hf : f < 5) (hl : ya_length 5 = nI n) (hx : yt_ok n ya_kind ya_value kN vl) (hb : ∀ s, s < n → ya_depth (120 + s) = nI (bd s) ∧ bd s ≤ 100)
    (h1 : ∀ t, t < n → ub bd kN vl (fun g => g ≠ f ∧ ya_length g = 0) t → (∀ s, s < t → ¬ ub bd kN vl (fun g => g ≠ f ∧ ya_length g = 0) s) → post (nI t)) (h2 : (∀ s, s < n → ¬ ub bd kN vl (fun g => g ≠ f ∧ ya_length g = 0) s) → post (-1)) :
    ∀ q t fu, t + q = n → q < fu → (∀ s, s < t → ¬ ub bd kN vl (fun g => g ≠ f ∧ ya_length g = 0) s) → wY_unbound_2 post (nI f) yf_place yf_points yf_names yf_textEnd yf_made yf_entry yf_waiting yf_values yf_bound yf_cells yf_conses yf_lams yf_steps yf_atWork yf_end yf_writtenCount ya_kind ya_up ya_turn ya_depth ya_value ya_below ya_length ya_parameters ya_codes ya_codeCount ya_form ya_colour ya_same ya_one ya_two ya_todo ya_numbered ya_text ya_ofFunction ya_codeEnd ya_instance ya_token ya_env ya_tag ya_cellEnv ya_boundNext ya_step ya_boundNumber ya_boundTag ya_headTag ya_tailTag ya_number ya_boundValue ya_head ya_tail ya_written fu (nI t) := by
  have n24 := hx.1
  intro q
  induction q with
  | zero =>
    intro t fu ht hfu hs
    obtain ⟨fu, rfl⟩ : ∃ g, fu = g + 1 := ⟨fu - 1, by omega⟩
    have e : t = n := by omega
    subst e
    refine br_t (by rw [hl]; exact nI_le (Nat.le_refl _) (by omega)) (h2 hs)
  | succ q ih =>
    intro t fu ht hfu hs
    obtain ⟨fu, rfl⟩ : ∃ g, fu = g + 1 := ⟨fu - 1, by omega⟩
    have htn : t < n := by omega
    obtain ⟨b1, b2, b3, b4, b5⟩ := hx.2 t htn
    obtain ⟨c1, c2⟩ := hb t htn
    have ca : ((120 : Int32) + nI t).toNatClampNeg = 120 + t := by rw [ix_120]; exact nI_clamp (by omega)
    have pin : vp_in ((120 : Int32) + nI t) 264 := pk_in (120 + t) 264 (by omega) (ix_120 t)
    have ho2 := op_2 (kN t)
    refine br_f (by rw [hl]; exact nI_ge (by omega) (by omega)) (And.intro pin (nm_r (e' := nI (kN t)) (by rw [ca]; exact b1) (And.intro pin (nm_r (e' := vl t) (by rw [ca]; exact b3) ?_))))
    have s102 : ¬ (kN t = 3 ∧ ∃ v, v < 10 ∧ vl t = nI v ∧ bd t ≤ v) → ¬ (kN t = 4 ∧ ∃ g, g < 5 ∧ vl t = nI g ∧ (g ≠ f ∧ ya_length g = 0)) → wY_unbound_102 post (wY_unbound_2 post (nI f) yf_place yf_points yf_names yf_textEnd yf_made yf_entry yf_waiting yf_values yf_bound yf_cells yf_conses yf_lams yf_steps yf_atWork yf_end yf_writtenCount ya_kind ya_up ya_turn ya_depth ya_value ya_below ya_length ya_parameters ya_codes ya_codeCount ya_form ya_colour ya_same ya_one ya_two ya_todo ya_numbered ya_text ya_ofFunction ya_codeEnd ya_instance ya_token ya_env ya_tag ya_cellEnv ya_boundNext ya_step ya_boundNumber ya_boundTag ya_headTag ya_tailTag ya_number ya_boundValue ya_head ya_tail ya_written fu) (nI f) (nI t) (nI (op (kN t))) yf_place yf_points yf_names yf_textEnd yf_made yf_entry yf_waiting yf_values yf_bound yf_cells yf_conses yf_lams yf_steps yf_atWork yf_end yf_writtenCount ya_kind ya_up ya_turn ya_depth ya_value ya_below ya_length ya_parameters ya_codes ya_codeCount ya_form ya_colour ya_same ya_one ya_two ya_todo ya_numbered ya_text ya_ofFunction ya_codeEnd ya_instance ya_token ya_env ya_tag ya_cellEnv ya_boundNext ya_step ya_boundNumber ya_boundTag ya_headTag ya_tailTag ya_number ya_boundValue ya_head ya_tail ya_written := by
      intro e1 e2
      have next : ¬ (0 < op (kN t) ∧ 10 < bd t + op (kN t)) → wY_unbound_2 post (nI f) yf_place yf_points yf_names yf_textEnd yf_made yf_entry yf_waiting yf_values yf_bound yf_cells yf_conses yf_lams yf_steps yf_atWork yf_end yf_writtenCount ya_kind ya_up ya_turn ya_depth ya_value ya_below ya_length ya_parameters ya_codes ya_codeCount ya_form ya_colour ya_same ya_one ya_two ya_todo ya_numbered ya_text ya_ofFunction ya_codeEnd ya_instance ya_token ya_env ya_tag ya_cellEnv ya_boundNext ya_step ya_boundNumber ya_boundTag ya_headTag ya_tailTag ya_number ya_boundValue ya_head ya_tail ya_written fu (nI (t + 1)) := by
        intro e3
        refine ih (t + 1) fu (by omega) (by omega) (fun s hs' => ?_)
        by_cases y : s = t
        · subst y; rintro (w | w | w); exact e1 w; exact e3 w; exact e2 w
        · exact hs s (by omega)
      refine pk_le (op (kN t)) 0 (fun z => nm_r (nI_1 t) (next (by omega))) (fun z => And.intro pin ?_)
      rw [ca, c1, nI_add]
      exact pk_le (bd t + op (kN t)) 10 (fun y => nm_r (nI_1 t) (next (by omega))) (fun y => h1 t htn (Or.inr (Or.inl ⟨z, y⟩)) hs)
    have s75 : ¬ (kN t = 3 ∧ ∃ v, v < 10 ∧ vl t = nI v ∧ bd t ≤ v) → ¬ (kN t = 4 ∧ ∃ g, g < 5 ∧ vl t = nI g ∧ (g ≠ f ∧ ya_length g = 0)) → wY_unbound_75 post (wY_unbound_2 post (nI f) yf_place yf_points yf_names yf_textEnd yf_made yf_entry yf_waiting yf_values yf_bound yf_cells yf_conses yf_lams yf_steps yf_atWork yf_end yf_writtenCount ya_kind ya_up ya_turn ya_depth ya_value ya_below ya_length ya_parameters ya_codes ya_codeCount ya_form ya_colour ya_same ya_one ya_two ya_todo ya_numbered ya_text ya_ofFunction ya_codeEnd ya_instance ya_token ya_env ya_tag ya_cellEnv ya_boundNext ya_step ya_boundNumber ya_boundTag ya_headTag ya_tailTag ya_number ya_boundValue ya_head ya_tail ya_written fu) (nI f) (nI t) (nI (kN t)) yf_place yf_points yf_names yf_textEnd yf_made yf_entry yf_waiting yf_values yf_bound yf_cells yf_conses yf_lams yf_steps yf_atWork yf_end yf_writtenCount ya_kind ya_up ya_turn ya_depth ya_value ya_below ya_length ya_parameters ya_codes ya_codeCount ya_form ya_colour ya_same ya_one ya_two ya_todo ya_numbered ya_text ya_ofFunction ya_codeEnd ya_instance ya_token ya_env ya_tag ya_cellEnv ya_boundNext ya_step ya_boundNumber ya_boundTag ya_headTag ya_tailTag ya_number ya_boundValue ya_head ya_tail ya_written := by
      intro e1 e2
      have h := s102 e1 e2
      unfold op at h
      refine pk_eq (kN t) 10 (fun z => ?_) (fun z => pk_eq (kN t) 14 (fun z2 => ?_) (fun z2 => pk_eq (kN t) 15 (fun z3 => ?_) (fun z3 => ?_)))
      · rw [if_pos z] at h; exact h
      · rw [if_neg z, if_pos (Or.inl z2)] at h; exact h
      · rw [if_neg z, if_pos (Or.inr z3)] at h; exact h
      · rw [if_neg z, if_neg (by omega)] at h; exact h
    have s52 : ¬ (kN t = 3 ∧ ∃ v, v < 10 ∧ vl t = nI v ∧ bd t ≤ v) → wY_unbound_52 post (wY_unbound_2 post (nI f) yf_place yf_points yf_names yf_textEnd yf_made yf_entry yf_waiting yf_values yf_bound yf_cells yf_conses yf_lams yf_steps yf_atWork yf_end yf_writtenCount ya_kind ya_up ya_turn ya_depth ya_value ya_below ya_length ya_parameters ya_codes ya_codeCount ya_form ya_colour ya_same ya_one ya_two ya_todo ya_numbered ya_text ya_ofFunction ya_codeEnd ya_instance ya_token ya_env ya_tag ya_cellEnv ya_boundNext ya_step ya_boundNumber ya_boundTag ya_headTag ya_tailTag ya_number ya_boundValue ya_head ya_tail ya_written fu) (nI f) (nI t) (nI (kN t)) (vl t) yf_place yf_points yf_names yf_textEnd yf_made yf_entry yf_waiting yf_values yf_bound yf_cells yf_conses yf_lams yf_steps yf_atWork yf_end yf_writtenCount ya_kind ya_up ya_turn ya_depth ya_value ya_below ya_length ya_parameters ya_codes ya_codeCount ya_form ya_colour ya_same ya_one ya_two ya_todo ya_numbered ya_text ya_ofFunction ya_codeEnd ya_instance ya_token ya_env ya_tag ya_cellEnv ya_boundNext ya_step ya_boundNumber ya_boundTag ya_headTag ya_tailTag ya_number ya_boundValue ya_head ya_tail ya_written := by
      intro e1
      refine pk_eq (kN t) 4 (fun z => ?_) (fun z => s75 e1 (fun w => z w.1))
      obtain ⟨g, g1, g2⟩ := b5 z
      have uq : ∀ g', g' < 5 → vl t = nI g' → g' = g := fun g' h5 h6 => by rw [g2] at h6; exact ((nI_eq (by omega) (by omega)).mp h6).symm
      rw [g2]
      refine pk_eq g f (fun y => s75 e1 (fun w => ?_)) (fun y => And.intro (pk_in g 11 (by omega)) ?_)
      · obtain ⟨_, g', w1, w2, w3, _⟩ := w
        exact w3 ((uq g' w1 w2).trans y)
      · rw [nI_clamp (n := g) (by omega)]
        refine br_c (fun l0 => h1 t htn (Or.inr (Or.inr ⟨z, g, g1, g2, y, l0⟩)) hs) (fun l0 => s75 e1 (fun w => ?_))
        obtain ⟨_, g', w1, w2, _, w4⟩ := w
        rw [uq g' w1 w2] at w4; exact l0 w4
    refine pk_eq (kN t) 3 (fun z3 => And.intro pin ?_) (fun z3 => s52 (fun w => z3 w.1))
    obtain ⟨v, v1, v2⟩ := b4 z3
    have s52' := s52
    rw [v2] at s52' ⊢
    rw [ca, c1]
    refine pk_le (bd t) v (fun y => h1 t htn (Or.inl ⟨z3, v, v1, v2, y⟩) hs) (fun y => s52' (fun w => ?_))
    obtain ⟨_, v', v1', v2', v3'⟩ := w
    have : v' = v := ((nI_eq (by omega) (by omega)).mp v2').symm
    omega
theorem y_unbound {post : Int32 → Prop} {f n : Nat} {kN bd : Nat → Nat} {vl : Nat → Int32} (hf : f < 5) (hl : ya_length 5 = nI n) (hx : yt_ok n ya_kind ya_value kN vl) (hb : ∀ s, s < n → ya_depth (120 + s) = nI (bd s) ∧ bd s ≤ 100)
    (h1 : ∀ t, t < n → ub bd kN vl (fun g => g ≠ f ∧ ya_length g = 0) t → (∀ s, s < t → ¬ ub bd kN vl (fun g => g ≠ f ∧ ya_length g = 0) s) → post (nI t)) (h2 : (∀ s, s < n → ¬ ub bd kN vl (fun g => g ≠ f ∧ ya_length g = 0) s) → post (-1)) : wpY_unbound post (yf_place, yf_points, yf_names, yf_textEnd, yf_made, yf_entry, yf_waiting, yf_values, yf_bound, yf_cells, yf_conses, yf_lams, yf_steps, yf_atWork, yf_end, yf_writtenCount, ya_kind, ya_up, ya_turn, ya_depth, ya_value, ya_below, ya_length, ya_parameters, ya_codes, ya_codeCount, ya_form, ya_colour, ya_same, ya_one, ya_two, ya_todo, ya_numbered, ya_text, ya_ofFunction, ya_codeEnd, ya_instance, ya_token, ya_env, ya_tag, ya_cellEnv, ya_boundNext, ya_step, ya_boundNumber, ya_boundTag, ya_headTag, ya_tailTag, ya_number, ya_boundValue, ya_head, ya_tail, ya_written) (nI f) :=
  Exists.intro (n + 1) (y_ub2 hf hl hx hb h1 h2 n 0 (n + 1) (by omega) (by omega) (fun s hs => by omega))

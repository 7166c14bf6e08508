variable {f_saidPlace f_instanceCount f_nodeCount f_equationCount f_stackCount f_wordCount f_depth f_cellCount f_consCount f_closureCount f_stepCount f_runAnswer f_writtenCount : Int32} {a_kinds a_values a_spans a_bounds a_binders a_lengths a_parameterCounts a_typeCodes a_typeLengths a_instanceFunctions a_nodeKinds a_nodeLefts a_nodeRights a_nodeSizes a_equationLefts a_equationRights a_stackLefts a_stackRights a_words a_boundWords a_cellFirsts a_cellSeconds a_closureTokens a_closureWords a_written : Nat → Int32}
variable {yf_place yf_points yf_names yf_textEnd yf_made yf_entry yf_waiting yf_values yf_bound yf_cells yf_conses yf_lams yf_steps yf_atWork yf_end yf_writtenCount : Int32} {ya_kind ya_up ya_turn ya_depth ya_value ya_below ya_length ya_parameters ya_codes ya_codeCount ya_form ya_colour ya_same ya_one ya_two ya_todo ya_numbered ya_text ya_ofFunction ya_codeEnd ya_instance ya_token ya_env ya_tag ya_cellEnv ya_boundNext ya_step ya_boundNumber ya_boundTag ya_headTag ya_tailTag ya_number ya_boundValue ya_head ya_tail ya_written : Nat → Int32}
theorem typ_rel (v1 v2 : Int32) (hR : rel f_saidPlace f_instanceCount f_nodeCount f_equationCount f_stackCount f_wordCount f_depth f_cellCount f_consCount f_closureCount f_stepCount f_runAnswer f_writtenCount a_kinds a_values a_spans a_bounds a_binders a_lengths a_parameterCounts a_typeCodes a_typeLengths a_instanceFunctions a_nodeKinds a_nodeLefts a_nodeRights a_nodeSizes a_equationLefts a_equationRights a_stackLefts a_stackRights a_words a_boundWords a_cellFirsts a_cellSeconds a_closureTokens a_closureWords a_written yf_place yf_points yf_names yf_textEnd yf_made yf_entry yf_waiting yf_values yf_bound yf_cells yf_conses yf_lams yf_steps yf_atWork yf_end yf_writtenCount ya_kind ya_up ya_turn ya_depth ya_value ya_below ya_length ya_parameters ya_codes ya_codeCount ya_form ya_colour ya_same ya_one ya_two ya_todo ya_numbered ya_text ya_ofFunction ya_codeEnd ya_instance ya_token ya_env ya_tag ya_cellEnv ya_boundNext ya_step ya_boundNumber ya_boundTag ya_headTag ya_tailTag ya_number ya_boundValue ya_head ya_tail ya_written) {C : Prop} (hC : C) : wpX_type (fun r => wpY_type (fun r' => r' = r ∧ C) (yf_place, yf_points, yf_names, yf_textEnd, yf_made, yf_entry, yf_waiting, yf_values, yf_bound, yf_cells, yf_conses, yf_lams, yf_steps, yf_atWork, yf_end, yf_writtenCount, ya_kind, ya_up, ya_turn, ya_depth, ya_value, ya_below, ya_length, ya_parameters, ya_codes, ya_codeCount, ya_form, ya_colour, ya_same, ya_one, ya_two, ya_todo, ya_numbered, ya_text, ya_ofFunction, ya_codeEnd, ya_instance, ya_token, ya_env, ya_tag, ya_cellEnv, ya_boundNext, ya_step, ya_boundNumber, ya_boundTag, ya_headTag, ya_tailTag, ya_number, ya_boundValue, ya_head, ya_tail, ya_written) v1 v2) (f_saidPlace, f_instanceCount, f_nodeCount, f_equationCount, f_stackCount, f_wordCount, f_depth, f_cellCount, f_consCount, f_closureCount, f_stepCount, f_runAnswer, f_writtenCount, a_kinds, a_values, a_spans, a_bounds, a_binders, a_lengths, a_parameterCounts, a_typeCodes, a_typeLengths, a_instanceFunctions, a_nodeKinds, a_nodeLefts, a_nodeRights, a_nodeSizes, a_equationLefts, a_equationRights, a_stackLefts, a_stackRights, a_words, a_boundWords, a_cellFirsts, a_cellSeconds, a_closureTokens, a_closureWords, a_written) v1 v2 := by
  obtain ⟨hpl, ⟨ln, Pg, kN, vl, oc, sp, bd, bi, cod, hlib, hlx, hly⟩, _, hm, hr⟩ := hR
  rcases pk_ix v1 (n := 5) (by omega) with z | z | ⟨f, z, rfl⟩
  · refine br_t z ?_
    unfold wpY_type
    exact br_t z (br_f n1_0 ⟨rfl, hC⟩)
  · refine br_f (i_pos z (by omega)) (br_t z ?_)
    unfold wpY_type
    exact br_f (i_pos z (by omega)) (br_f (i_nlt z) (br_f n1_0 ⟨rfl, hC⟩))
  · have cf : (nI f).toNatClampNeg = f := nI_clamp (by omega)
    obtain ⟨x1, x2, x3⟩ := hlx f z
    obtain ⟨y1, y2⟩ := hly f z
    have ygo : ∀ {post : Int32 → Prop}, ((ya_length f = 0 → post (-1)) ∧ (¬ ya_length f = 0 → (vp_in (nI f) 5 ∧ wpY_out (fun r => (r = 0 → (vp_in (48 * nI f + v2) 240 ∧ post (ya_codes (48 * nI f + v2).toNatClampNeg))) ∧ (¬ r = 0 → post (-1))) v2 (ya_codeCount f)))) → wpY_type post (yf_place, yf_points, yf_names, yf_textEnd, yf_made, yf_entry, yf_waiting, yf_values, yf_bound, yf_cells, yf_conses, yf_lams, yf_steps, yf_atWork, yf_end, yf_writtenCount, ya_kind, ya_up, ya_turn, ya_depth, ya_value, ya_below, ya_length, ya_parameters, ya_codes, ya_codeCount, ya_form, ya_colour, ya_same, ya_one, ya_two, ya_todo, ya_numbered, ya_text, ya_ofFunction, ya_codeEnd, ya_instance, ya_token, ya_env, ya_tag, ya_cellEnv, ya_boundNext, ya_step, ya_boundNumber, ya_boundTag, ya_headTag, ya_tailTag, ya_number, ya_boundValue, ya_head, ya_tail, ya_written) (nI f) v2 := by
      intro post hh
      unfold wpY_type
      refine br_f (lt0_n (by omega)) (br_t (nI_lt (b := 5) (by omega) (by omega)) (br_t rfl (And.intro (pk_in f 11 (by omega)) ?_)))
      rw [cf]; exact hh
    refine br_f (lt0_n (by omega)) (br_f (nI_ge (b := 5) z (by omega)) (And.intro (pk_in f 11 (by omega)) ?_))
    rw [cf, x1]
    by_cases hl : ln f = 0
    · rw [hl]
      exact br_t rfl (ygo (br_t (by rw [y1, hl]; rfl) ⟨rfl, hC⟩))
    · obtain ⟨x4, x5, r1, r2, r3, r4⟩ := x3 hl
      obtain ⟨y3, y4, y5, y6⟩ := y2 hl
      have hle := (hlib f z hl).2.2.2.2.2.2.2.1
      have hp2 := (hlib f z hl).2.2.1
      have ngo : ∀ {post : Int32 → Prop}, wpY_out (fun r => (r = 0 → (vp_in (48 * nI f + v2) 240 ∧ post (ya_codes (48 * nI f + v2).toNatClampNeg))) ∧ (¬ r = 0 → post (-1))) v2 (nI (cod f).length) → wpY_type post (yf_place, yf_points, yf_names, yf_textEnd, yf_made, yf_entry, yf_waiting, yf_values, yf_bound, yf_cells, yf_conses, yf_lams, yf_steps, yf_atWork, yf_end, yf_writtenCount, ya_kind, ya_up, ya_turn, ya_depth, ya_value, ya_below, ya_length, ya_parameters, ya_codes, ya_codeCount, ya_form, ya_colour, ya_same, ya_one, ya_two, ya_todo, ya_numbered, ya_text, ya_ofFunction, ya_codeEnd, ya_instance, ya_token, ya_env, ya_tag, ya_cellEnv, ya_boundNext, ya_step, ya_boundNumber, ya_boundTag, ya_headTag, ya_tailTag, ya_number, ya_boundValue, ya_head, ya_tail, ya_written) (nI f) v2 := by
        intro post hh
        refine ygo (br_f (by rw [y1]; exact fun w => hl ((nI0 (by omega)).mp w)) (And.intro (pk_in f 5 z) ?_))
        rw [y5]; exact hh
      refine br_f (fun w => hl ((nI0 (by omega)).mp w)) ?_
      rcases pk_ix v2 (n := (cod f).length) (by omega) with y | y | ⟨k, y, rfl⟩
      · exact br_t y (ngo (br_t y (br_f n1_0 ⟨rfl, hC⟩)))
      · refine br_f (i_pos y (by omega)) (And.intro (pk_in f 18 (by omega)) ?_)
        rw [r3]
        exact br_f (i_nlt y) (ngo (br_f (i_pos y (by omega)) (br_f (i_nlt y) (br_f n1_0 ⟨rfl, hC⟩))))
      · refine br_f (lt0_n (by omega)) (And.intro (pk_in f 18 (by omega)) ?_)
        rw [r3]
        have e48 : (48 : Int32) * nI f + nI k = nI (48 * f + k) := by rw [show (48 : Int32) * nI f = nI (48 * f) from pk_mul 48 f, nI_add]
        refine br_t (nI_lt y (by omega)) (And.intro (pk_in (f * 42 + k) 756 (by omega) (ix_42 f k)) (ngo (br_f (lt0_n (by omega)) (br_t (nI_lt y (by omega)) (br_t rfl (And.intro (pk_in (48 * f + k) 240 (by omega) e48) ⟨?_, hC⟩))))))
        rw [e48, ix_42, nI_clamp (by omega), nI_clamp (by omega), y6 k y, (r4 k y).1]
theorem ins_rel (v1 v2 : Int32) (hR : rel f_saidPlace f_instanceCount f_nodeCount f_equationCount f_stackCount f_wordCount f_depth f_cellCount f_consCount f_closureCount f_stepCount f_runAnswer f_writtenCount a_kinds a_values a_spans a_bounds a_binders a_lengths a_parameterCounts a_typeCodes a_typeLengths a_instanceFunctions a_nodeKinds a_nodeLefts a_nodeRights a_nodeSizes a_equationLefts a_equationRights a_stackLefts a_stackRights a_words a_boundWords a_cellFirsts a_cellSeconds a_closureTokens a_closureWords a_written yf_place yf_points yf_names yf_textEnd yf_made yf_entry yf_waiting yf_values yf_bound yf_cells yf_conses yf_lams yf_steps yf_atWork yf_end yf_writtenCount ya_kind ya_up ya_turn ya_depth ya_value ya_below ya_length ya_parameters ya_codes ya_codeCount ya_form ya_colour ya_same ya_one ya_two ya_todo ya_numbered ya_text ya_ofFunction ya_codeEnd ya_instance ya_token ya_env ya_tag ya_cellEnv ya_boundNext ya_step ya_boundNumber ya_boundTag ya_headTag ya_tailTag ya_number ya_boundValue ya_head ya_tail ya_written) {C : Prop} (hC : C) : wpX_instance (fun r => wpY_instance (fun r' => r' = r ∧ C) (yf_place, yf_points, yf_names, yf_textEnd, yf_made, yf_entry, yf_waiting, yf_values, yf_bound, yf_cells, yf_conses, yf_lams, yf_steps, yf_atWork, yf_end, yf_writtenCount, ya_kind, ya_up, ya_turn, ya_depth, ya_value, ya_below, ya_length, ya_parameters, ya_codes, ya_codeCount, ya_form, ya_colour, ya_same, ya_one, ya_two, ya_todo, ya_numbered, ya_text, ya_ofFunction, ya_codeEnd, ya_instance, ya_token, ya_env, ya_tag, ya_cellEnv, ya_boundNext, ya_step, ya_boundNumber, ya_boundTag, ya_headTag, ya_tailTag, ya_number, ya_boundValue, ya_head, ya_tail, ya_written) v1 v2) (f_saidPlace, f_instanceCount, f_nodeCount, f_equationCount, f_stackCount, f_wordCount, f_depth, f_cellCount, f_consCount, f_closureCount, f_stepCount, f_runAnswer, f_writtenCount, a_kinds, a_values, a_spans, a_bounds, a_binders, a_lengths, a_parameterCounts, a_typeCodes, a_typeLengths, a_instanceFunctions, a_nodeKinds, a_nodeLefts, a_nodeRights, a_nodeSizes, a_equationLefts, a_equationRights, a_stackLefts, a_stackRights, a_words, a_boundWords, a_cellFirsts, a_cellSeconds, a_closureTokens, a_closureWords, a_written) v1 v2 := by
  obtain ⟨hpl, _, _, ⟨m, fi, ic, m1, m2, m3, m4, m5⟩, hr⟩ := hR
  subst m2 m3
  rcases pk_ix v1 (n := m) (by omega) with z | z | ⟨i, z, rfl⟩
  · refine br_t z ?_
    unfold wpY_instance
    exact br_t z (br_f n1_0 ⟨rfl, hC⟩)
  · refine br_f (i_pos z (by omega)) (br_t z ?_)
    unfold wpY_instance
    exact br_f (i_pos z (by omega)) (br_f (i_nlt z) (br_f n1_0 ⟨rfl, hC⟩))
  · obtain ⟨a1, a2, ⟨b1, b2, b3, b4⟩, a4, a5, a6⟩ := m4 i z
    have ci : (nI i).toNatClampNeg = i := nI_clamp (by omega)
    have e5 : (5 : Int32) + nI i = nI (5 + i) := nI_add 5 i
    have ygo : ∀ {post : Int32 → Prop}, ((v2 < 0 → post (-1)) ∧ (¬ v2 < 0 → (vp_in (nI i) 13 ∧ ((v2 ≤ nI (ic i).length → ((v2 = 0 → (vp_in (nI i) 13 ∧ post (nI (fi i)))) ∧ (¬ v2 = 0 → (vp_in (50 * nI i + v2 - 1) 650 ∧ post (ya_instance (50 * nI i + v2 - 1).toNatClampNeg))))) ∧ (¬ v2 ≤ nI (ic i).length → post (-1)))))) → wpY_instance post (yf_place, yf_points, yf_names, yf_textEnd, (nI m), yf_entry, yf_waiting, yf_values, yf_bound, yf_cells, yf_conses, yf_lams, yf_steps, yf_atWork, yf_end, yf_writtenCount, ya_kind, ya_up, ya_turn, ya_depth, ya_value, ya_below, ya_length, ya_parameters, ya_codes, ya_codeCount, ya_form, ya_colour, ya_same, ya_one, ya_two, ya_todo, ya_numbered, ya_text, ya_ofFunction, ya_codeEnd, ya_instance, ya_token, ya_env, ya_tag, ya_cellEnv, ya_boundNext, ya_step, ya_boundNumber, ya_boundTag, ya_headTag, ya_tailTag, ya_number, ya_boundValue, ya_head, ya_tail, ya_written) (nI i) v2 := by
      intro post hh
      unfold wpY_instance
      rw [← a5, ← a4] at hh
      refine br_f (lt0_n (by omega)) (br_t (nI_lt z (by omega)) (br_t rfl ?_))
      rw [ci]
      exact hh
    refine br_f (lt0_n (by omega)) (br_f (nI_ge z (by omega)) ?_)
    rcases pk_ix v2 (n := (ic i).length + 1) (by omega) with y | y | ⟨k, y, rfl⟩
    · exact br_t y (ygo (br_t y ⟨rfl, hC⟩))
    · have hgt : ¬ v2 ≤ nI (ic i).length := by
        rw [Int32.le_iff_toInt_le, nI_toInt (by omega)]
        rw [Int32.le_iff_toInt_le, nI_toInt (by omega)] at y
        omega
      refine br_f (i_pos y (by omega)) (And.intro (pk_in (5 + i) 18 b1 e5) ?_)
      rw [e5, nI_clamp (n := 5 + i) (by omega), b3]
      exact br_f hgt (ygo (br_f (i_pos y (by omega)) (And.intro (pk_in i 13 (by omega)) (br_f hgt ⟨rfl, hC⟩))))
    · refine br_f (lt0_n (by omega)) (And.intro (pk_in (5 + i) 18 b1 e5) ?_)
      rw [e5, nI_clamp (n := 5 + i) (by omega), b3]
      refine br_t (nI_le (by omega) (by omega)) (pk_eq k 0 (fun w => ?_) (fun w => ?_))
      · subst w
        refine And.intro (pk_in i 12 (by omega)) ?_
        rw [ci, a2]
        exact ygo (br_f (lt0_n (by omega)) (And.intro (pk_in i 13 (by omega)) (br_t (nI_le (by omega) (by omega)) (br_t rfl (And.intro (pk_in i 13 (by omega)) ⟨rfl, hC⟩)))))
      · obtain ⟨k, rfl⟩ : ∃ q, k = q + 1 := ⟨k - 1, by omega⟩
        have ex : nI (5 + i) * 42 + nI (k + 1) - 1 = nI ((5 + i) * 42 + k) := by rw [ix_42, ← Nat.add_assoc]; exact nI_pred _
        have ey : 50 * nI i + nI (k + 1) - 1 = nI (50 * i + k) := by rw [ix50, ← Nat.add_assoc]; exact nI_pred _
        refine And.intro (pk_in ((5 + i) * 42 + k) 756 (by omega) ex) (ygo (br_f (lt0_n (by omega)) (And.intro (pk_in i 13 (by omega)) (br_t (nI_le (by omega) (by omega)) (br_f (fun v => by have := (nI0 (n := k + 1) (by omega)).mp v; omega) (And.intro (pk_in (50 * i + k) 650 (by omega) ey) ⟨?_, hC⟩))))))
        rw [ex, ey, nI_clamp (by omega), nI_clamp (by omega), a6 k (by omega), (b4 k (by omega)).1]
theorem val_rel (v1 : Int32) (hR : rel f_saidPlace f_instanceCount f_nodeCount f_equationCount f_stackCount f_wordCount f_depth f_cellCount f_consCount f_closureCount f_stepCount f_runAnswer f_writtenCount a_kinds a_values a_spans a_bounds a_binders a_lengths a_parameterCounts a_typeCodes a_typeLengths a_instanceFunctions a_nodeKinds a_nodeLefts a_nodeRights a_nodeSizes a_equationLefts a_equationRights a_stackLefts a_stackRights a_words a_boundWords a_cellFirsts a_cellSeconds a_closureTokens a_closureWords a_written yf_place yf_points yf_names yf_textEnd yf_made yf_entry yf_waiting yf_values yf_bound yf_cells yf_conses yf_lams yf_steps yf_atWork yf_end yf_writtenCount ya_kind ya_up ya_turn ya_depth ya_value ya_below ya_length ya_parameters ya_codes ya_codeCount ya_form ya_colour ya_same ya_one ya_two ya_todo ya_numbered ya_text ya_ofFunction ya_codeEnd ya_instance ya_token ya_env ya_tag ya_cellEnv ya_boundNext ya_step ya_boundNumber ya_boundTag ya_headTag ya_tailTag ya_number ya_boundValue ya_head ya_tail ya_written) {C : Prop} (hC : C) : wpX_value (fun r => wpY_value (fun r' => r' = r ∧ C) (yf_place, yf_points, yf_names, yf_textEnd, yf_made, yf_entry, yf_waiting, yf_values, yf_bound, yf_cells, yf_conses, yf_lams, yf_steps, yf_atWork, yf_end, yf_writtenCount, ya_kind, ya_up, ya_turn, ya_depth, ya_value, ya_below, ya_length, ya_parameters, ya_codes, ya_codeCount, ya_form, ya_colour, ya_same, ya_one, ya_two, ya_todo, ya_numbered, ya_text, ya_ofFunction, ya_codeEnd, ya_instance, ya_token, ya_env, ya_tag, ya_cellEnv, ya_boundNext, ya_step, ya_boundNumber, ya_boundTag, ya_headTag, ya_tailTag, ya_number, ya_boundValue, ya_head, ya_tail, ya_written) v1) (f_saidPlace, f_instanceCount, f_nodeCount, f_equationCount, f_stackCount, f_wordCount, f_depth, f_cellCount, f_consCount, f_closureCount, f_stepCount, f_runAnswer, f_writtenCount, a_kinds, a_values, a_spans, a_bounds, a_binders, a_lengths, a_parameterCounts, a_typeCodes, a_typeLengths, a_instanceFunctions, a_nodeKinds, a_nodeLefts, a_nodeRights, a_nodeSizes, a_equationLefts, a_equationRights, a_stackLefts, a_stackRights, a_words, a_boundWords, a_cellFirsts, a_cellSeconds, a_closureTokens, a_closureWords, a_written) v1 := by
  obtain ⟨hpl, _, _, _, hst, w, w1, w2, w3, w4⟩ := hR
  subst w2 w3
  rcases pk_ix v1 (n := w) (by omega) with z | z | ⟨k, z, rfl⟩
  · refine br_t z ?_
    unfold wpY_value
    exact br_t z (br_f n1_0 ⟨rfl, hC⟩)
  · refine br_f (i_pos z (by omega)) (br_f (i_nlt z) ?_)
    unfold wpY_value
    exact br_f (i_pos z (by omega)) (br_f (i_nlt z) (br_f n1_0 ⟨rfl, hC⟩))
  · refine br_f (lt0_n (by omega)) (br_t (nI_lt z (by omega)) (And.intro (pk_in k 400 (by omega)) ?_))
    unfold wpY_value
    refine br_f (lt0_n (by omega)) (br_t (nI_lt z (by omega)) (br_t rfl (And.intro (pk_in k 400 (by omega)) ⟨?_, hC⟩)))
    rw [nI_clamp (by omega), w4 k z]
theorem def_rel (v1 v2 : Int32) (hR : rel f_saidPlace f_instanceCount f_nodeCount f_equationCount f_stackCount f_wordCount f_depth f_cellCount f_consCount f_closureCount f_stepCount f_runAnswer f_writtenCount a_kinds a_values a_spans a_bounds a_binders a_lengths a_parameterCounts a_typeCodes a_typeLengths a_instanceFunctions a_nodeKinds a_nodeLefts a_nodeRights a_nodeSizes a_equationLefts a_equationRights a_stackLefts a_stackRights a_words a_boundWords a_cellFirsts a_cellSeconds a_closureTokens a_closureWords a_written yf_place yf_points yf_names yf_textEnd yf_made yf_entry yf_waiting yf_values yf_bound yf_cells yf_conses yf_lams yf_steps yf_atWork yf_end yf_writtenCount ya_kind ya_up ya_turn ya_depth ya_value ya_below ya_length ya_parameters ya_codes ya_codeCount ya_form ya_colour ya_same ya_one ya_two ya_todo ya_numbered ya_text ya_ofFunction ya_codeEnd ya_instance ya_token ya_env ya_tag ya_cellEnv ya_boundNext ya_step ya_boundNumber ya_boundTag ya_headTag ya_tailTag ya_number ya_boundValue ya_head ya_tail ya_written) : wpX_define (fun r u => wpY_define (fun r' v => r' = r ∧ rl u v) (yf_place, yf_points, yf_names, yf_textEnd, yf_made, yf_entry, yf_waiting, yf_values, yf_bound, yf_cells, yf_conses, yf_lams, yf_steps, yf_atWork, yf_end, yf_writtenCount, ya_kind, ya_up, ya_turn, ya_depth, ya_value, ya_below, ya_length, ya_parameters, ya_codes, ya_codeCount, ya_form, ya_colour, ya_same, ya_one, ya_two, ya_todo, ya_numbered, ya_text, ya_ofFunction, ya_codeEnd, ya_instance, ya_token, ya_env, ya_tag, ya_cellEnv, ya_boundNext, ya_step, ya_boundNumber, ya_boundTag, ya_headTag, ya_tailTag, ya_number, ya_boundValue, ya_head, ya_tail, ya_written) v1 v2) (f_saidPlace, f_instanceCount, f_nodeCount, f_equationCount, f_stackCount, f_wordCount, f_depth, f_cellCount, f_consCount, f_closureCount, f_stepCount, f_runAnswer, f_writtenCount, a_kinds, a_values, a_spans, a_bounds, a_binders, a_lengths, a_parameterCounts, a_typeCodes, a_typeLengths, a_instanceFunctions, a_nodeKinds, a_nodeLefts, a_nodeRights, a_nodeSizes, a_equationLefts, a_equationRights, a_stackLefts, a_stackRights, a_words, a_boundWords, a_cellFirsts, a_cellSeconds, a_closureTokens, a_closureWords, a_written) v1 v2 := by
  have ybad : (v1 < 0 ∨ nI 5 ≤ v1 ∨ v2 < 0 ∨ nI 3 ≤ v2) → wpY_define (fun r' v => r' = -1 ∧ rl (f_saidPlace, f_instanceCount, f_nodeCount, f_equationCount, f_stackCount, f_wordCount, f_depth, f_cellCount, f_consCount, f_closureCount, f_stepCount, f_runAnswer, f_writtenCount, a_kinds, a_values, a_spans, a_bounds, a_binders, a_lengths, a_parameterCounts, a_typeCodes, a_typeLengths, a_instanceFunctions, a_nodeKinds, a_nodeLefts, a_nodeRights, a_nodeSizes, a_equationLefts, a_equationRights, a_stackLefts, a_stackRights, a_words, a_boundWords, a_cellFirsts, a_cellSeconds, a_closureTokens, a_closureWords, a_written) v) (yf_place, yf_points, yf_names, yf_textEnd, yf_made, yf_entry, yf_waiting, yf_values, yf_bound, yf_cells, yf_conses, yf_lams, yf_steps, yf_atWork, yf_end, yf_writtenCount, ya_kind, ya_up, ya_turn, ya_depth, ya_value, ya_below, ya_length, ya_parameters, ya_codes, ya_codeCount, ya_form, ya_colour, ya_same, ya_one, ya_two, ya_todo, ya_numbered, ya_text, ya_ofFunction, ya_codeEnd, ya_instance, ya_token, ya_env, ya_tag, ya_cellEnv, ya_boundNext, ya_step, ya_boundNumber, ya_boundTag, ya_headTag, ya_tailTag, ya_number, ya_boundValue, ya_head, ya_tail, ya_written) v1 v2 := by
    intro h
    unfold wpY_define
    refine y_out3 (b := 5) (by omega) (fun _ => br_f n1_0 ⟨rfl, hR⟩) (fun _ => br_f n1_0 ⟨rfl, hR⟩) (fun f f1 f2 => br_t rfl (y_out3 (b := 3) (by omega) (fun _ => br_f n1_0 ⟨rfl, hR⟩) (fun _ => br_f n1_0 ⟨rfl, hR⟩) (fun p p1 p2 => ?_)))
    exfalso
    subst f2 p2
    rcases h with h | h | h | h
    · exact lt0_n (by omega) h
    · exact nI_ge f1 (by omega) h
    · exact lt0_n (by omega) h
    · exact nI_ge p1 (by omega) h
  rcases pk_ix v1 (n := 5) (by omega) with z | z | ⟨f, z, rfl⟩
  · exact br_t z (ybad (Or.inl z))
  · exact br_f (i_pos z (by omega)) (br_t z (ybad (Or.inr (Or.inl z))))
  · rcases pk_ix v2 (n := 3) (by omega) with y | y | ⟨p, y, rfl⟩
    · exact br_f (lt0_n (by omega)) (br_f (nI_ge (b := 5) z (by omega)) (br_t y (ybad (Or.inr (Or.inr (Or.inl y))))))
    · refine br_f (lt0_n (by omega)) (br_f (nI_ge (b := 5) z (by omega)) (br_f (i_pos y (by omega)) (br_f ?_ (ybad (Or.inr (Or.inr (Or.inr y)))))))
      have := i_lt (a := 2) y (by omega) (by omega)
      rw [Int32.le_iff_toInt_le]
      rw [Int32.lt_iff_toInt_lt] at this
      have e : (nI 2 : Int32) = 2 := rfl
      rw [e] at this
      omega
    · exact df_rel z (by omega) hR
theorem mak_rel (v1 : Int32) (hR : rel f_saidPlace f_instanceCount f_nodeCount f_equationCount f_stackCount f_wordCount f_depth f_cellCount f_consCount f_closureCount f_stepCount f_runAnswer f_writtenCount a_kinds a_values a_spans a_bounds a_binders a_lengths a_parameterCounts a_typeCodes a_typeLengths a_instanceFunctions a_nodeKinds a_nodeLefts a_nodeRights a_nodeSizes a_equationLefts a_equationRights a_stackLefts a_stackRights a_words a_boundWords a_cellFirsts a_cellSeconds a_closureTokens a_closureWords a_written yf_place yf_points yf_names yf_textEnd yf_made yf_entry yf_waiting yf_values yf_bound yf_cells yf_conses yf_lams yf_steps yf_atWork yf_end yf_writtenCount ya_kind ya_up ya_turn ya_depth ya_value ya_below ya_length ya_parameters ya_codes ya_codeCount ya_form ya_colour ya_same ya_one ya_two ya_todo ya_numbered ya_text ya_ofFunction ya_codeEnd ya_instance ya_token ya_env ya_tag ya_cellEnv ya_boundNext ya_step ya_boundNumber ya_boundTag ya_headTag ya_tailTag ya_number ya_boundValue ya_head ya_tail ya_written) : wpX_make (fun r u => wpY_make (fun r' v => r' = r ∧ rl u v) (yf_place, yf_points, yf_names, yf_textEnd, yf_made, yf_entry, yf_waiting, yf_values, yf_bound, yf_cells, yf_conses, yf_lams, yf_steps, yf_atWork, yf_end, yf_writtenCount, ya_kind, ya_up, ya_turn, ya_depth, ya_value, ya_below, ya_length, ya_parameters, ya_codes, ya_codeCount, ya_form, ya_colour, ya_same, ya_one, ya_two, ya_todo, ya_numbered, ya_text, ya_ofFunction, ya_codeEnd, ya_instance, ya_token, ya_env, ya_tag, ya_cellEnv, ya_boundNext, ya_step, ya_boundNumber, ya_boundTag, ya_headTag, ya_tailTag, ya_number, ya_boundValue, ya_head, ya_tail, ya_written) v1) (f_saidPlace, f_instanceCount, f_nodeCount, f_equationCount, f_stackCount, f_wordCount, f_depth, f_cellCount, f_consCount, f_closureCount, f_stepCount, f_runAnswer, f_writtenCount, a_kinds, a_values, a_spans, a_bounds, a_binders, a_lengths, a_parameterCounts, a_typeCodes, a_typeLengths, a_instanceFunctions, a_nodeKinds, a_nodeLefts, a_nodeRights, a_nodeSizes, a_equationLefts, a_equationRights, a_stackLefts, a_stackRights, a_words, a_boundWords, a_cellFirsts, a_cellSeconds, a_closureTokens, a_closureWords, a_written) v1 := by
  rcases pk_ix v1 (n := 5) (by omega) with z | z | ⟨f, z, rfl⟩
  · refine br_t z ?_
    unfold wpY_make
    exact br_t z (br_f n1_0 ⟨rfl, hR⟩)
  · refine br_f (i_pos z (by omega)) (br_t z ?_)
    unfold wpY_make
    exact br_f (i_pos z (by omega)) (br_f (i_nlt z) (br_f n1_0 ⟨rfl, hR⟩))
  · exact mk_rel z hR

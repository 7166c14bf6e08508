variable {f_saidPlace f_instanceCount f_nodeCount f_equationCount f_stackCount f_wordCount f_depth f_cellCount f_consCount f_closureCount f_stepCount f_runAnswer f_writtenCount : Int32} {a_kinds a_values a_spans a_bounds a_binders a_lengths a_parameterCounts a_typeCodes a_typeLengths a_instanceFunctions a_nodeKinds a_nodeLefts a_nodeRights a_nodeSizes a_equationLefts a_equationRights a_stackLefts a_stackRights a_words a_boundWords a_cellFirsts a_cellSeconds a_closureTokens a_closureWords a_written : Nat → Int32}
variable {yf_place yf_points yf_names yf_textEnd yf_made yf_entry yf_waiting yf_values yf_bound yf_cells yf_conses yf_lams yf_steps yf_atWork yf_end yf_writtenCount : Int32} {ya_kind ya_up ya_turn ya_depth ya_value ya_below ya_length ya_parameters ya_codes ya_codeCount ya_form ya_colour ya_same ya_one ya_two ya_todo ya_numbered ya_text ya_ofFunction ya_codeEnd ya_instance ya_token ya_env ya_tag ya_cellEnv ya_boundNext ya_step ya_boundNumber ya_boundTag ya_headTag ya_tailTag ya_number ya_boundValue ya_head ya_tail ya_written : Nat → Int32}
variable {ln P : Nat → Nat} {kN : Nat → Nat → Nat} {vl : Nat → Nat → Int32} {oc sp bd bi : Nat → Nat → Nat} {cod : Nat → List Nat}
/-- Y takes a token from what waits, its operands being worked out -/
theorem y_pop {Q : Int32 → SY → Prop} {n sv : Nat} {nh nw nd nk nl ns nb nc : Nat} {rtk ren rtg rce rbx rst rbn rbt rht rtt rnu rbv rhd rtl : Nat → Int32} {g t : Nat} {e : Int32} (hlib : lib ln P kN vl oc sp bd bi cod) (hmy : my_ok ln P kN vl oc sp ya_kind ya_value ya_below ya_parameters) (hg : g < 5) (hl : ln g ≠ 0) (ht : t < ln g) (hnh : nh < 600) (d2 : rtk nh = nI (24 * (6 + g) + t)) (d3 : ren nh = e) (d4 : rst nh = nI sv) (hsv : sv ≤ 3)
    (hle : (if kN g t = 15 then 0 else nm (kN g t) (oc g t)) ≤ sv)
    (hs : (kN g t < 5 ∨ kN g t = 8 ∨ kN g t = 15) → wpY_simple (fun u => match u with | (yf_place, yf_points, yf_names, yf_textEnd, yf_made, yf_entry, yf_waiting, yf_values, yf_bound, yf_cells, yf_conses, yf_lams, yf_steps, yf_atWork, yf_end, yf_writtenCount, ya_kind, ya_up, ya_turn, ya_depth, ya_value, ya_below, ya_length, ya_parameters, ya_codes, ya_codeCount, ya_form, ya_colour, ya_same, ya_one, ya_two, ya_todo, ya_numbered, ya_text, ya_ofFunction, ya_codeEnd, ya_instance, ya_token, ya_env, ya_tag, ya_cellEnv, ya_boundNext, ya_step, ya_boundNumber, ya_boundTag, ya_headTag, ya_tailTag, ya_number, ya_boundValue, ya_head, ya_tail, ya_written) => wY_run_75 Q n yf_place yf_points yf_names yf_textEnd yf_made yf_entry yf_waiting yf_values yf_bound yf_cells yf_conses yf_lams yf_steps yf_atWork yf_end yf_writtenCount ya_kind ya_up ya_turn ya_depth ya_value ya_below ya_length ya_parameters ya_codes ya_codeCount ya_form ya_colour ya_same ya_one ya_two ya_todo ya_numbered ya_text ya_ofFunction ya_codeEnd ya_instance ya_token ya_env ya_tag ya_cellEnv ya_boundNext ya_step ya_boundNumber ya_boundTag ya_headTag ya_tailTag ya_number ya_boundValue ya_head ya_tail ya_written) (yf_place, yf_points, yf_names, yf_textEnd, yf_made, yf_entry, (nI nh), (nI nw), (nI nb), (nI nc), (nI nk), (nI nl), (nI ns), (nI nd), 0, yf_writtenCount, ya_kind, ya_up, ya_turn, ya_depth, ya_value, ya_below, ya_length, ya_parameters, ya_codes, ya_codeCount, ya_form, ya_colour, ya_same, ya_one, ya_two, ya_todo, ya_numbered, ya_text, ya_ofFunction, ya_codeEnd, ya_instance, rtk, ren, rtg, rce, rbx, rst, rbn, rbt, rht, rtt, rnu, rbv, rhd, rtl, ya_written) (nI (24 * (6 + g) + t)) e (nI (if kN g t = 15 then 0 else nm (kN g t) (oc g t))))
    (hr : (kN g t = 5 ∨ kN g t = 6 ∨ kN g t = 7 ∨ kN g t = 9 ∨ kN g t = 12 ∨ kN g t = 13) → wpY_reckon (fun u => match u with | (yf_place, yf_points, yf_names, yf_textEnd, yf_made, yf_entry, yf_waiting, yf_values, yf_bound, yf_cells, yf_conses, yf_lams, yf_steps, yf_atWork, yf_end, yf_writtenCount, ya_kind, ya_up, ya_turn, ya_depth, ya_value, ya_below, ya_length, ya_parameters, ya_codes, ya_codeCount, ya_form, ya_colour, ya_same, ya_one, ya_two, ya_todo, ya_numbered, ya_text, ya_ofFunction, ya_codeEnd, ya_instance, ya_token, ya_env, ya_tag, ya_cellEnv, ya_boundNext, ya_step, ya_boundNumber, ya_boundTag, ya_headTag, ya_tailTag, ya_number, ya_boundValue, ya_head, ya_tail, ya_written) => wY_run_75 Q n yf_place yf_points yf_names yf_textEnd yf_made yf_entry yf_waiting yf_values yf_bound yf_cells yf_conses yf_lams yf_steps yf_atWork yf_end yf_writtenCount ya_kind ya_up ya_turn ya_depth ya_value ya_below ya_length ya_parameters ya_codes ya_codeCount ya_form ya_colour ya_same ya_one ya_two ya_todo ya_numbered ya_text ya_ofFunction ya_codeEnd ya_instance ya_token ya_env ya_tag ya_cellEnv ya_boundNext ya_step ya_boundNumber ya_boundTag ya_headTag ya_tailTag ya_number ya_boundValue ya_head ya_tail ya_written) (yf_place, yf_points, yf_names, yf_textEnd, yf_made, yf_entry, (nI nh), (nI nw), (nI nb), (nI nc), (nI nk), (nI nl), (nI ns), (nI nd), 0, yf_writtenCount, ya_kind, ya_up, ya_turn, ya_depth, ya_value, ya_below, ya_length, ya_parameters, ya_codes, ya_codeCount, ya_form, ya_colour, ya_same, ya_one, ya_two, ya_todo, ya_numbered, ya_text, ya_ofFunction, ya_codeEnd, ya_instance, rtk, ren, rtg, rce, rbx, rst, rbn, rbt, rht, rtt, rnu, rbv, rhd, rtl, ya_written) (nI (kN g t)))
    (hc : (kN g t = 10 ∨ kN g t = 11 ∨ kN g t = 14 ∨ kN g t = 16) → wpY_choose (fun u => match u with | (yf_place, yf_points, yf_names, yf_textEnd, yf_made, yf_entry, yf_waiting, yf_values, yf_bound, yf_cells, yf_conses, yf_lams, yf_steps, yf_atWork, yf_end, yf_writtenCount, ya_kind, ya_up, ya_turn, ya_depth, ya_value, ya_below, ya_length, ya_parameters, ya_codes, ya_codeCount, ya_form, ya_colour, ya_same, ya_one, ya_two, ya_todo, ya_numbered, ya_text, ya_ofFunction, ya_codeEnd, ya_instance, ya_token, ya_env, ya_tag, ya_cellEnv, ya_boundNext, ya_step, ya_boundNumber, ya_boundTag, ya_headTag, ya_tailTag, ya_number, ya_boundValue, ya_head, ya_tail, ya_written) => wY_run_75 Q n yf_place yf_points yf_names yf_textEnd yf_made yf_entry yf_waiting yf_values yf_bound yf_cells yf_conses yf_lams yf_steps yf_atWork yf_end yf_writtenCount ya_kind ya_up ya_turn ya_depth ya_value ya_below ya_length ya_parameters ya_codes ya_codeCount ya_form ya_colour ya_same ya_one ya_two ya_todo ya_numbered ya_text ya_ofFunction ya_codeEnd ya_instance ya_token ya_env ya_tag ya_cellEnv ya_boundNext ya_step ya_boundNumber ya_boundTag ya_headTag ya_tailTag ya_number ya_boundValue ya_head ya_tail ya_written) (yf_place, yf_points, yf_names, yf_textEnd, yf_made, yf_entry, (nI nh), (nI nw), (nI nb), (nI nc), (nI nk), (nI nl), (nI ns), (nI nd), 0, yf_writtenCount, ya_kind, ya_up, ya_turn, ya_depth, ya_value, ya_below, ya_length, ya_parameters, ya_codes, ya_codeCount, ya_form, ya_colour, ya_same, ya_one, ya_two, ya_todo, ya_numbered, ya_text, ya_ofFunction, ya_codeEnd, ya_instance, rtk, ren, rtg, rce, rbx, rst, rbn, rbt, rht, rtt, rnu, rbv, rhd, rtl, ya_written) (nI (24 * (6 + g) + t)) e) : wY_run_75 Q (n + 1) yf_place yf_points yf_names yf_textEnd yf_made yf_entry (nI (nh + 1)) (nI nw) (nI nb) (nI nc) (nI nk) (nI nl) (nI ns) (nI nd) 0 yf_writtenCount ya_kind ya_up ya_turn ya_depth ya_value ya_below ya_length ya_parameters ya_codes ya_codeCount ya_form ya_colour ya_same ya_one ya_two ya_todo ya_numbered ya_text ya_ofFunction ya_codeEnd ya_instance rtk ren rtg rce rbx rst rbn rbt rht rtt rnu rbv rhd rtl ya_written := by
  have n24 := (lib1 hlib hg hl).1.1
  have b1 := (tok_oc hlib hg hl ht).1
  obtain ⟨_, y2⟩ := hmy g hg hl
  obtain ⟨z1, _, _⟩ := y2 t ht
  have cw : (nI nh).toNatClampNeg = nh := nI_clamp (by omega)
  have cx : (nI (24 * (6 + g) + t)).toNatClampNeg = 24 * (6 + g) + t := nI_clamp (by omega)
  have p : vp_in (nI (24 * (6 + g) + t)) 264 := pk_in (24 * (6 + g) + t) 264 (by omega)
  refine br_f (nI_nle (by omega) (by omega)) (br_t rfl (nm_r (nI_pred nh) (And.intro (pk_in nh 1200 (by omega)) (nm_r (e' := nI (24 * (6 + g) + t)) (by rw [cw, d2]) ?_))))
  refine br_t (nI_le (a := 0) (by omega) (by omega)) (And.intro (pk_in nh 1200 (by omega)) (nm_r (e' := e) (by rw [cw, d3]) ?_))
  refine y_ocm hlib hmy hg hl ht (And.intro (pk_in nh 1200 (by omega)) ?_)
  rw [cw, d4]
  refine br_t (nI_le hle (by omega)) (nm_r (nI_pred nh) (And.intro p ?_))
  rw [cx, z1]
  refine pk_lt (kN g t) 5 (fun y => hs (Or.inl y)) (fun y => And.intro p ?_)
  refine pk_eq (kN g t) 8 (fun y => hs (Or.inr (Or.inl y))) (fun y8 => And.intro p ?_)
  refine pk_eq (kN g t) 15 (fun y => hs (Or.inr (Or.inr y))) (fun y15 => And.intro p ?_)
  refine pk_lt (kN g t) 10 (fun y => And.intro p ?_) (fun y => And.intro p ?_)
  · rw [cx, z1]; exact hr (by omega)
  refine pk_eq (kN g t) 12 (fun w => And.intro p ?_) (fun y12 => And.intro p ?_)
  · rw [cx, z1]; exact hr (by omega)
  refine pk_eq (kN g t) 13 (fun w => And.intro p ?_) (fun y13 => hc (by omega))
  · rw [cx, z1]; exact hr (by omega)
/-- X takes a token from what is begun, its operands being worked out -/
theorem x_pop {px : Int32 → SX → Prop} {nh nw nd nx nk nl ns : Nat} {rsl rsr rwd rbw rcf rcs rct rcw : Nat → Int32} {g t s : Nat} (hlib : lib ln P kN vl oc sp bd bi cod) (hmx : mx_ok ln P kN vl sp bd a_kinds a_values a_spans a_bounds a_lengths a_parameterCounts) (hg : g < 5) (hl : ln g ≠ 0) (ht : t < ln g) (hnh : nh < 525) (d2 : rsl nh = nI ((5 + g) * 24 + t)) (d3 : rsr nh = nI s) (hs : s ≤ 2)
    (hf : (kN g t ≠ 10 ∧ kN g t ≠ 11 ∧ kN g t ≠ 14) → oc g t ≤ s + 1 ∧ wpX_finish (fun r u => match u with | (f_saidPlace, f_instanceCount, f_nodeCount, f_equationCount, f_stackCount, f_wordCount, f_depth, f_cellCount, f_consCount, f_closureCount, f_stepCount, f_runAnswer, f_writtenCount, a_kinds, a_values, a_spans, a_bounds, a_binders, a_lengths, a_parameterCounts, a_typeCodes, a_typeLengths, a_instanceFunctions, a_nodeKinds, a_nodeLefts, a_nodeRights, a_nodeSizes, a_equationLefts, a_equationRights, a_stackLefts, a_stackRights, a_words, a_boundWords, a_cellFirsts, a_cellSeconds, a_closureTokens, a_closureWords, a_written) => px r (f_saidPlace, f_instanceCount, f_nodeCount, f_equationCount, f_stackCount, f_wordCount, f_depth, f_cellCount, f_consCount, f_closureCount, f_stepCount, f_runAnswer, f_writtenCount, a_kinds, a_values, a_spans, a_bounds, a_binders, a_lengths, a_parameterCounts, a_typeCodes, a_typeLengths, a_instanceFunctions, a_nodeKinds, a_nodeLefts, a_nodeRights, a_nodeSizes, a_equationLefts, a_equationRights, a_stackLefts, a_stackRights, a_words, a_boundWords, a_cellFirsts, a_cellSeconds, a_closureTokens, a_closureWords, a_written)) (f_saidPlace, f_instanceCount, f_nodeCount, f_equationCount, (nI nh), (nI nw), (nI nd), (nI nx), (nI nk), (nI nl), (nI ns), 0, f_writtenCount, a_kinds, a_values, a_spans, a_bounds, a_binders, a_lengths, a_parameterCounts, a_typeCodes, a_typeLengths, a_instanceFunctions, a_nodeKinds, a_nodeLefts, a_nodeRights, a_nodeSizes, a_equationLefts, a_equationRights, rsl, rsr, rwd, rbw, rcf, rcs, rct, rcw, a_written) (nI ((5 + g) * 24 + t)))
    (hi : (kN g t = 10 ∨ kN g t = 11 ∨ kN g t = 14) → wpX_goInside (fun r u => match u with | (f_saidPlace, f_instanceCount, f_nodeCount, f_equationCount, f_stackCount, f_wordCount, f_depth, f_cellCount, f_consCount, f_closureCount, f_stepCount, f_runAnswer, f_writtenCount, a_kinds, a_values, a_spans, a_bounds, a_binders, a_lengths, a_parameterCounts, a_typeCodes, a_typeLengths, a_instanceFunctions, a_nodeKinds, a_nodeLefts, a_nodeRights, a_nodeSizes, a_equationLefts, a_equationRights, a_stackLefts, a_stackRights, a_words, a_boundWords, a_cellFirsts, a_cellSeconds, a_closureTokens, a_closureWords, a_written) => px r (f_saidPlace, f_instanceCount, f_nodeCount, f_equationCount, f_stackCount, f_wordCount, f_depth, f_cellCount, f_consCount, f_closureCount, f_stepCount, f_runAnswer, f_writtenCount, a_kinds, a_values, a_spans, a_bounds, a_binders, a_lengths, a_parameterCounts, a_typeCodes, a_typeLengths, a_instanceFunctions, a_nodeKinds, a_nodeLefts, a_nodeRights, a_nodeSizes, a_equationLefts, a_equationRights, a_stackLefts, a_stackRights, a_words, a_boundWords, a_cellFirsts, a_cellSeconds, a_closureTokens, a_closureWords, a_written)) (f_saidPlace, f_instanceCount, f_nodeCount, f_equationCount, (nI nh), (nI nw), (nI nd), (nI nx), (nI nk), (nI nl), (nI ns), 0, f_writtenCount, a_kinds, a_values, a_spans, a_bounds, a_binders, a_lengths, a_parameterCounts, a_typeCodes, a_typeLengths, a_instanceFunctions, a_nodeKinds, a_nodeLefts, a_nodeRights, a_nodeSizes, a_equationLefts, a_equationRights, rsl, rsr, rwd, rbw, rcf, rcs, rct, rcw, a_written) (nI ((5 + g) * 24 + t))) : wpX_goOn px (f_saidPlace, f_instanceCount, f_nodeCount, f_equationCount, (nI (nh + 1)), (nI nw), (nI nd), (nI nx), (nI nk), (nI nl), (nI ns), 0, f_writtenCount, a_kinds, a_values, a_spans, a_bounds, a_binders, a_lengths, a_parameterCounts, a_typeCodes, a_typeLengths, a_instanceFunctions, a_nodeKinds, a_nodeLefts, a_nodeRights, a_nodeSizes, a_equationLefts, a_equationRights, rsl, rsr, rwd, rbw, rcf, rcs, rct, rcw, a_written) := by
  have n24 := (lib1 hlib hg hl).1.1
  have b1 := (tok_oc hlib hg hl ht).1
  have b2 := (tok_oc hlib hg hl ht).2.1
  obtain ⟨m1, m2, m3⟩ := hmx g hg hl
  obtain ⟨k1, k2, k3, k4, k5⟩ := m3 t ht
  have cw : (nI nh).toNatClampNeg = nh := nI_clamp (by omega)
  have cx : (nI ((5 + g) * 24 + t)).toNatClampNeg = (5 + g) * 24 + t := nI_clamp (by omega)
  have p : vp_in (nI ((5 + g) * 24 + t)) 264 := pk_in ((5 + g) * 24 + t) 264 (by omega)
  refine nm_r (nI_pred nh) (And.intro (pk_in nh 525 (by omega)) (nm_r (e' := nI ((5 + g) * 24 + t)) (by rw [cw, d2]) (br_f (ni_ne1 (by omega)) (And.intro p (nm_r (e' := nI (kN g t)) (by rw [cx, k1]) ?_)))))
  refine pk_eq (kN g t) 11 (fun z => hi (Or.inr (Or.inl z))) (fun z1 => pk_eq (kN g t) 10 (fun z => hi (Or.inl z)) (fun z2 => pk_eq (kN g t) 14 (fun z => hi (Or.inr (Or.inr z))) (fun z3 => And.intro (pk_in nh 525 (by omega)) (nm_r (e' := nI (s + 1)) (by rw [cw, d3]; exact nI_1 s) ?_))))
  obtain ⟨f1, f2⟩ := hf ⟨z2, z1, z3⟩
  exact x_ocm hlib hmx hg hl ht (br_t (nI_le f1 (by omega)) f2)
/-- what is begun loses its top -/
theorem rc_st {nh nw nd nx nk nl ns nt nb nc : Nat} {rsl rsr rwd rbw rcf rcs rct rcw rtk ren rtg rce rbx rst rbn rbt rht rtt rnu rbv rhd rtl : Nat → Int32} {g t s : Nat} {e : Int32} {rho : Nat → mt_T} {st : List FE} {ws : List FV} {ty : Nat → mt_T} {cm lc : Nat → Nat} {c1 c2 : Nat} (h : rc_ok ln P kN vl oc sp bd bi cod (nh + 1) nw nd nx nk nl ns nt nb nc rsl rsr rwd rbw rcf rcs rct rcw rtk ren rtg rce rbx rst rbn rbt rht rtt rnu rbv rhd rtl (some (g, t, s, e, rho) :: st) ws ty cm lc c1 c2) (nt' : Nat) :
    rc_ok ln P kN vl oc sp bd bi cod nh nw nd nx nk nl ns nt' nb nc rsl rsr rwd rbw rcf rcs rct rcw rtk ren rtg rce rbx rst rbn rbt rht rtt rnu rbv rhd rtl st ws ty cm lc (fG sp (G1 kN) g t s + c1) (fG sp (G2 kN) g t s + c2) ∧ rsl nh = nI ((5 + g) * 24 + t) ∧ rsr nh = nI s ∧ rtk nh = nI (24 * (6 + g) + t) ∧ ren nh = e ∧ rst nh = nI (s + 1) := by
  obtain ⟨a1, a2, a3, a4, a5, a6, a7, a8, ⟨s1, s2, s3, s4, s5, s6⟩, a10, a11, a12, a13⟩ := h
  have em : nh = st.length := by simp only [List.length_cons] at a1; omega
  rw [← em] at s1 s2 s3 s4 s5
  have q12 : wt (fG sp (G1 kN)) 0 (some (g, t, s, e, rho) :: st) = fG sp (G1 kN) g t s + wt (fG sp (G1 kN)) 0 st := rfl
  have q13 : wt (fG sp (G2 kN)) 0 (some (g, t, s, e, rho) :: st) = fG sp (G2 kN) g t s + wt (fG sp (G2 kN)) 0 st := rfl
  exact ⟨⟨em, a2, a3, a4, a5, a6, a7, a8, s6, a10, a11, by omega, by omega⟩, s1, s2, s3, s4, s5⟩
/-- a new cell -/
theorem rc_cell {nh nw nd nx nk nl ns nt nb nc : Nat} {rsl rsr rwd rbw rcf rcs rct rcw rtk ren rtg rce rbx rst rbn rbt rht rtt rnu rbv rhd rtl : Nat → Int32} {st : List FE} {ws : List FV} {ty : Nat → mt_T} {cm lc : Nat → Nat} {c1 c2 c nk' : Nat} {a b : mt_T} {xt xn xw yt yn yw : Int32} (hlib : lib ln P kN vl oc sp bd bi cod) (h : rc_ok ln P kN vl oc sp bd bi cod nh nw nd nx nk nl ns nt nb nc rsl rsr rwd rbw rcf rcs rct rcw rtk ren rtg rce rbx rst rbn rbt rht rtt rnu rbv rhd rtl st ws ty cm lc (c1 + 1) c2) (hx : vv nc ty cm a xt xn xw) (hy : vv nc ty cm (if c = 2 then b else .branch 3 a b) yt yn yw)
    (hc : c = 2 ∧ nk' = nk ∨ c = 3 ∧ nk' = nk + 1 ∧ nk < 200) : ∃ lc', (∀ i, i < nc → updG ty nc (.branch c a b) i = ty i ∧ updN cm nc nx i = cm i) ∧ vv (nc + 1) (updG ty nc (.branch c a b)) (updN cm nc nx) (.branch c a b) (if c = 2 then 1 else 3) (nI nc) (nI nx) ∧
    rc_ok ln P kN vl oc sp bd bi cod nh nw nd (nx + 1) nk' nl ns nt nb (nc + 1) rsl rsr rwd rbw (upd rcf nx xw) (upd rcs nx yw) rct rcw rtk ren rtg rce rbx rst rbn rbt (upd rht nc xt) (upd rtt nc yt) rnu rbv (upd rhd nc xn) (upd rtl nc yn) st ws (updG ty nc (.branch c a b)) (updN cm nc nx) lc' c1 c2 := by
  obtain ⟨a1, a2, a3, a4, a5, a6, a7, a8, a9, a10, a11, a12, a13⟩ := h
  have hext : ∀ i, i < nc → updG ty nc (.branch c a b) i = ty i ∧ updN cm nc nx i = cm i := fun i hi => ⟨uG_n (by omega), uN_n (by omega)⟩
  -- the length of a list that the cell begins
  have hlc : ∃ L, (c = 3 → L ≤ nk + 1 ∧ (yt = 2 → L = 1) ∧ ∀ j, yt = 3 → j < nc → yn = nI j → L = lc j + 1) := by
    by_cases z : c = 3
    · rw [if_neg (by omega)] at hy
      rcases hy with ⟨_, y1, y2, y3⟩ | ⟨i, i1, i2, i3, i4, i5⟩
      · refine ⟨1, fun _ => ⟨by omega, fun _ => rfl, fun j w => ?_⟩⟩
        rw [y1] at w; exact absurd w (by decide)
      · have i6 : yt = 3 := by
          rcases i5 with ⟨w, _⟩ | ⟨_, w⟩ | ⟨w, _⟩
          · omega
          · exact w
          · omega
        refine ⟨lc i + 1, fun _ => ⟨?_, fun w => ?_, fun j _ hj w => ?_⟩⟩
        · rcases a11 i i1 with ⟨a', b', q1, _⟩ | ⟨a', b', q1, _, _, _, _, q6, _⟩ | ⟨a', b', q1, _⟩
          · rw [q1] at i4; injection i4 with i4; omega
          · omega
          · rw [q1] at i4; injection i4 with i4; omega
        · rw [i6] at w; exact absurd w (by decide)
        · rw [i2] at w
          have : i = j := (nI_eq (by omega) (by omega)).mp w
          rw [this]
    · exact ⟨0, fun w => absurd w z⟩
  obtain ⟨L, hL⟩ := hlc
  refine ⟨updN lc nc L, hext, ?_, a1, a2, a3, a4, by omega, a6, by omega, by omega, a9, wo_ext (by omega) hext ws (fun _ _ => ⟨rfl, rfl, rfl⟩) a10, fun i hi => ?_, by omega, a13⟩
  · refine Or.inr ⟨nc, by omega, rfl, by rw [uN_s], uG_s, ?_⟩
    rcases hc with ⟨z, _⟩ | ⟨z, _⟩
    · exact Or.inl ⟨z, by rw [if_pos z]⟩
    · exact Or.inr (Or.inl ⟨z, by rw [if_neg (by omega)]⟩)
  · by_cases z : i < nc
    · exact ce_ext hlib (a11 i z) z (by omega) (fun j hj => ⟨uG_n (by omega), uN_n (by omega), uN_n (by omega)⟩) (Nat.le_refl _) (fun _ _ => ⟨rfl, rfl, rfl, rfl⟩) (by omega) (Nat.le_refl _) (by omega) (fun j hj => ⟨pk_un (by omega), pk_un (by omega)⟩) (fun _ _ => rfl) (fun _ _ => rfl) (fun j hj => ⟨pk_un (by omega), pk_un (by omega), pk_un (by omega), pk_un (by omega), rfl⟩)
    · have ei : i = nc := by omega
      subst ei
      have hx' := vv_ext (ty' := updG ty i (.branch c a b)) (cm' := updN cm i nx) hx (Nat.le_refl _) hext
      have hy' := vv_ext (ty' := updG ty i (.branch c a b)) (cm' := updN cm i nx) hy (Nat.le_refl _) hext
      rcases hc with ⟨w, _⟩ | ⟨w, w2, _⟩
      · subst w
        rw [if_pos rfl] at hy'
        refine Or.inl ⟨a, b, uG_s, ?_⟩
        rw [uN_s, pk_us, pk_us, pk_us, pk_us, pk_us, pk_us]
        exact ⟨a8, by omega, hx', hy'⟩
      · subst w
        rw [if_neg (by omega)] at hy'
        obtain ⟨L1, L2, L3⟩ := hL rfl
        refine Or.inr (Or.inl ⟨a, b, uG_s, ?_⟩)
        rw [uN_s, uN_s, pk_us, pk_us, pk_us, pk_us, pk_us, pk_us]
        refine ⟨a8, by omega, hx', hy', by omega, L2, fun j j1 j2 j3 => ?_⟩
        rw [uN_n (by omega)]; exact L3 j j1 j2 j3

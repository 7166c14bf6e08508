variable {f_saidPlace f_instanceCount f_nodeCount f_equationCount f_stackCount f_wordCount f_depth f_cellCount f_consCount f_closureCount f_stepCount f_runAnswer f_writtenCount : Int32} {a_kinds a_values a_spans a_bounds a_binders a_lengths a_parameterCounts a_typeCodes a_typeLengths a_instanceFunctions a_nodeKinds a_nodeLefts a_nodeRights a_nodeSizes a_equationLefts a_equationRights a_stackLefts a_stackRights a_words a_boundWords a_cellFirsts a_cellSeconds a_closureTokens a_closureWords a_written : Nat → Int32}
variable {yf_place yf_points yf_names yf_textEnd yf_made yf_entry yf_waiting yf_values yf_bound yf_cells yf_conses yf_lams yf_steps yf_atWork yf_end yf_writtenCount : Int32} {ya_kind ya_up ya_turn ya_depth ya_value ya_below ya_length ya_parameters ya_codes ya_codeCount ya_form ya_colour ya_same ya_one ya_two ya_todo ya_numbered ya_text ya_ofFunction ya_codeEnd ya_instance ya_token ya_env ya_tag ya_cellEnv ya_boundNext ya_step ya_boundNumber ya_boundTag ya_headTag ya_tailTag ya_number ya_boundValue ya_head ya_tail ya_written : Nat → Int32}
variable {ln P : Nat → Nat} {kN : Nat → Nat → Nat} {vl : Nat → Nat → Int32} {oc sp bd bi : Nat → Nat → Nat} {cod : Nat → List Nat}
/-- a token without operands: Y comes to simple -/
theorem y_leafgo {Q : Int32 → SY → Prop} {n : Nat} {nh nw nd nk nl ns nb nc : Nat} {rtk ren rtg rce rbx rst rbn rbt rht rtt rnu rbv rhd rtl : Nat → Int32} {g t : Nat} {e : Int32} (hlib : lib ln P kN vl oc sp bd bi cod) (hmy : my_ok ln P kN vl oc sp ya_kind ya_value ya_below ya_parameters) (hg : g < 5) (hl : ln g ≠ 0) (ht : t < ln g) (hnh : nh < 600) (d2 : rtk nh = nI (24 * (6 + g) + t)) (d3 : ren nh = e) (d4 : rst nh = 0)
    (h0 : (if kN g t = 15 then 0 else nm (kN g t) (oc g t)) = 0) (hk : kN g t < 5 ∨ kN g t = 8 ∨ kN g t = 15) (h : wpY_simple (fun u => match u with | (yf_place, yf_points, yf_names, yf_textEnd, yf_made, yf_entry, yf_waiting, yf_values, yf_bound, yf_cells, yf_conses, yf_lams, yf_steps, yf_atWork, yf_end, yf_writtenCount, ya_kind, ya_up, ya_turn, ya_depth, ya_value, ya_below, ya_length, ya_parameters, ya_codes, ya_codeCount, ya_form, ya_colour, ya_same, ya_one, ya_two, ya_todo, ya_numbered, ya_text, ya_ofFunction, ya_codeEnd, ya_instance, ya_token, ya_env, ya_tag, ya_cellEnv, ya_boundNext, ya_step, ya_boundNumber, ya_boundTag, ya_headTag, ya_tailTag, ya_number, ya_boundValue, ya_head, ya_tail, ya_written) => wY_run_75 Q n yf_place yf_points yf_names yf_textEnd yf_made yf_entry yf_waiting yf_values yf_bound yf_cells yf_conses yf_lams yf_steps yf_atWork yf_end yf_writtenCount ya_kind ya_up ya_turn ya_depth ya_value ya_below ya_length ya_parameters ya_codes ya_codeCount ya_form ya_colour ya_same ya_one ya_two ya_todo ya_numbered ya_text ya_ofFunction ya_codeEnd ya_instance ya_token ya_env ya_tag ya_cellEnv ya_boundNext ya_step ya_boundNumber ya_boundTag ya_headTag ya_tailTag ya_number ya_boundValue ya_head ya_tail ya_written) (yf_place, yf_points, yf_names, yf_textEnd, yf_made, yf_entry, (nI nh), (nI nw), (nI nb), (nI nc), (nI nk), (nI nl), (nI ns), (nI nd), 0, yf_writtenCount, ya_kind, ya_up, ya_turn, ya_depth, ya_value, ya_below, ya_length, ya_parameters, ya_codes, ya_codeCount, ya_form, ya_colour, ya_same, ya_one, ya_two, ya_todo, ya_numbered, ya_text, ya_ofFunction, ya_codeEnd, ya_instance, rtk, ren, rtg, rce, rbx, rst, rbn, rbt, rht, rtt, rnu, rbv, rhd, rtl, ya_written) (nI (24 * (6 + g) + t)) e (nI 0)) : wY_run_75 Q (n + 1) yf_place yf_points yf_names yf_textEnd yf_made yf_entry (nI (nh + 1)) (nI nw) (nI nb) (nI nc) (nI nk) (nI nl) (nI ns) (nI nd) 0 yf_writtenCount ya_kind ya_up ya_turn ya_depth ya_value ya_below ya_length ya_parameters ya_codes ya_codeCount ya_form ya_colour ya_same ya_one ya_two ya_todo ya_numbered ya_text ya_ofFunction ya_codeEnd ya_instance rtk ren rtg rce rbx rst rbn rbt rht rtt rnu rbv rhd rtl ya_written := by
  have n24 := (lib1 hlib hg hl).1.1
  have b1 := (tok_oc hlib hg hl ht).1
  obtain ⟨_, y2⟩ := hmy g hg hl
  obtain ⟨z1, _, _⟩ := y2 t ht
  have cw : (nI nh).toNatClampNeg = nh := nI_clamp (by omega)
  have cx : (nI (24 * (6 + g) + t)).toNatClampNeg = 24 * (6 + g) + t := nI_clamp (by omega)
  have p : vp_in (nI (24 * (6 + g) + t)) 264 := pk_in (24 * (6 + g) + t) 264 (by omega)
  refine br_f (nI_nle (by omega) (by omega)) (br_t rfl (nm_r (nI_pred nh) (And.intro (pk_in nh 1200 (by omega)) (nm_r (e' := nI (24 * (6 + g) + t)) (by rw [cw, d2]) ?_))))
  refine br_t (nI_le (a := 0) (by omega) (by omega)) (And.intro (pk_in nh 1200 (by omega)) (nm_r (e' := e) (by rw [cw, d3]) ?_))
  refine y_ocm hlib hmy hg hl ht (And.intro (pk_in nh 1200 (by omega)) ?_)
  rw [h0, cw, d4]
  refine br_t (by decide) (nm_r (nI_pred nh) (And.intro p ?_))
  rw [cx, z1]
  refine pk_lt (kN g t) 5 (fun _ => h) (fun y => And.intro p ?_)
  refine pk_eq (kN g t) 8 (fun _ => h) (fun y8 => And.intro p ?_)
  refine pk_eq (kN g t) 15 (fun _ => h) (fun y15 => ?_)
  rcases hk with w | w | w
  · omega
  · exact absurd w y8
  · exact absurd w y15
/-- X: a token without operands, that is no CALL and no LAM -/
theorem x_leafgo {px : Int32 → SX → Prop} {nh nw nd nx nk nl ns : Nat} {rsl rsr rwd rbw rcf rcs rct rcw : Nat → Int32} {g t k : Nat} {x : Int32} (hlib : lib ln P kN vl oc sp bd bi cod) (hmx : mx_ok ln P kN vl sp bd a_kinds a_values a_spans a_bounds a_lengths a_parameterCounts) (hg : g < 5) (hl : ln g ≠ 0) (ht : t < ln g) (hnw : nw < 525) (ho : oc g t = 0) (hkt : kN g t = k) (hk : k = 0 ∨ k = 1 ∨ k = 2 ∨ k = 3 ∨ k = 8)
    (hvl : k = 0 → vl g t = x) (h1 : k = 1 → x = 1) (h2 : k = 2 ∨ k = 8 → x = 0) (h3 : Unit → k = 3 → ∃ i, i < 10 ∧ vl g t = nI i ∧ nd ≤ 20 ∧ rbw (nd * 10 + i) = x) (hp : px (-1) (f_saidPlace, f_instanceCount, f_nodeCount, f_equationCount, (nI nh), (nI (nw + 1)), (nI nd), (nI nx), (nI nk), (nI nl), (nI ns), 0, f_writtenCount, a_kinds, a_values, a_spans, a_bounds, a_binders, a_lengths, a_parameterCounts, a_typeCodes, a_typeLengths, a_instanceFunctions, a_nodeKinds, a_nodeLefts, a_nodeRights, a_nodeSizes, a_equationLefts, a_equationRights, rsl, rsr, (upd rwd nw x), rbw, rcf, rcs, rct, rcw, a_written)) : wpX_begin px (f_saidPlace, f_instanceCount, f_nodeCount, f_equationCount, (nI nh), (nI nw), (nI nd), (nI nx), (nI nk), (nI nl), (nI ns), 0, f_writtenCount, a_kinds, a_values, a_spans, a_bounds, a_binders, a_lengths, a_parameterCounts, a_typeCodes, a_typeLengths, a_instanceFunctions, a_nodeKinds, a_nodeLefts, a_nodeRights, a_nodeSizes, a_equationLefts, a_equationRights, rsl, rsr, rwd, rbw, rcf, rcs, rct, rcw, a_written) (nI ((5 + g) * 24 + t)) := by
  have n24 := (lib1 hlib hg hl).1.1
  obtain ⟨m1, m2, m3⟩ := hmx g hg hl
  obtain ⟨k1, k2, k3, k4, k5⟩ := m3 t ht
  rw [hkt] at k1 k3
  have cx : (nI ((5 + g) * 24 + t)).toNatClampNeg = (5 + g) * 24 + t := nI_clamp (by omega)
  have p : vp_in (nI ((5 + g) * 24 + t)) 264 := pk_in ((5 + g) * 24 + t) 264 (by omega)
  refine And.intro p ?_
  rw [cx, k1]
  refine pk_eq k 15 (fun z => by omega) (fun _ => x_ocm hlib hmx hg hl ht ?_)
  rw [ho]
  refine br_t (by decide) (And.intro p (pk_eq k 4 (fun z => by omega) (fun _ => ?_)))
  have fin : ∀ y : Int32, y = x → wpX_pushWord (fun u => match u with | (f_saidPlace, f_instanceCount, f_nodeCount, f_equationCount, f_stackCount, f_wordCount, f_depth, f_cellCount, f_consCount, f_closureCount, f_stepCount, f_runAnswer, f_writtenCount, a_kinds, a_values, a_spans, a_bounds, a_binders, a_lengths, a_parameterCounts, a_typeCodes, a_typeLengths, a_instanceFunctions, a_nodeKinds, a_nodeLefts, a_nodeRights, a_nodeSizes, a_equationLefts, a_equationRights, a_stackLefts, a_stackRights, a_words, a_boundWords, a_cellFirsts, a_cellSeconds, a_closureTokens, a_closureWords, a_written) => px (-1) (f_saidPlace, f_instanceCount, f_nodeCount, f_equationCount, f_stackCount, f_wordCount, f_depth, f_cellCount, f_consCount, f_closureCount, f_stepCount, f_runAnswer, f_writtenCount, a_kinds, a_values, a_spans, a_bounds, a_binders, a_lengths, a_parameterCounts, a_typeCodes, a_typeLengths, a_instanceFunctions, a_nodeKinds, a_nodeLefts, a_nodeRights, a_nodeSizes, a_equationLefts, a_equationRights, a_stackLefts, a_stackRights, a_words, a_boundWords, a_cellFirsts, a_cellSeconds, a_closureTokens, a_closureWords, a_written)) (f_saidPlace, f_instanceCount, f_nodeCount, f_equationCount, (nI nh), (nI nw), (nI nd), (nI nx), (nI nk), (nI nl), (nI ns), 0, f_writtenCount, a_kinds, a_values, a_spans, a_bounds, a_binders, a_lengths, a_parameterCounts, a_typeCodes, a_typeLengths, a_instanceFunctions, a_nodeKinds, a_nodeLefts, a_nodeRights, a_nodeSizes, a_equationLefts, a_equationRights, rsl, rsr, rwd, rbw, rcf, rcs, rct, rcw, a_written) y := by
    intro y ey
    subst ey
    exact x_pushWord hnw hp
  refine And.intro p (nm_r (e' := nI k) (by rw [cx, k1]) ?_)
  rcases hk with rfl | rfl | rfl | rfl | rfl
  · refine br_f (by decide) (br_f (by decide) (br_t rfl (And.intro p ?_)))
    rw [cx, k3 (by decide)]
    exact fin _ (hvl rfl)
  · exact br_f (by decide) (br_f (by decide) (br_f (by decide) (br_t rfl (fin _ (h1 rfl).symm))))
  · exact br_f (by decide) (br_f (by decide) (br_f (by decide) (br_f (by decide) (br_t rfl (fin _ (h2 (Or.inl rfl)).symm)))))
  · obtain ⟨i, i1, i2, i3, i4⟩ := h3 () rfl
    refine br_f (by decide) (br_f (by decide) (br_f (by decide) (br_f (by decide) (br_f (by decide) (br_t rfl (And.intro p ?_))))))
    rw [cx, k3 (by decide), i2, show nI nd * 10 + nI i = nI (nd * 10 + i) by rw [show nI nd * 10 = nI (nd * 10) from pk_mul nd 10, nI_add]]
    refine And.intro (pk_in (nd * 10 + i) 210 (by omega)) ?_
    rw [nI_clamp (n := nd * 10 + i) (by omega)]
    exact fin _ i4
  · exact br_f (by decide) (br_f (by decide) (br_f (by decide) (br_f (by decide) (br_f (by decide) (br_f (by decide) (br_f (by decide) (br_f (by decide) (br_f (by decide) (br_f (by decide) (br_t rfl (fin _ (h2 (Or.inr rfl)).symm)))))))))))
/-- Y finds a variable -/
theorem y_find_var {post : SY → Prop} {x1 x2 x3 : Int32} {a v : Nat} {loc : Nat → Nat} (ha : a < 264) (hv : v < 10) (x1e : x1 = nI a) (hval : ya_value a = nI v) (hl : ∀ k, v ≤ k → k < 10 → True)
    (h : wY_simple_45 post x1 x2 x3 3 (nI (loc v)) yf_place yf_points yf_names yf_textEnd yf_made yf_entry yf_waiting yf_values yf_bound yf_cells yf_conses yf_lams yf_steps yf_atWork yf_end yf_writtenCount ya_kind ya_up ya_turn ya_depth ya_value ya_below ya_length ya_parameters ya_codes ya_codeCount ya_form ya_colour ya_same ya_one ya_two ya_todo ya_numbered ya_text ya_ofFunction ya_codeEnd ya_instance ya_token ya_env ya_tag ya_cellEnv ya_boundNext ya_step ya_boundNumber ya_boundTag ya_headTag ya_tailTag ya_number ya_boundValue ya_head ya_tail ya_written) : ∀ q m fu, v + q = m → m < 10 → q < fu → (∀ k, k ≤ m → loc k < 4000 ∧ ya_boundNumber (loc k) = nI k ∧ ya_boundNext (loc k) = (if k = 0 then -1 else nI (loc (k - 1)))) → wY_simple_11 post x1 x2 x3 3 yf_place yf_points yf_names yf_textEnd yf_made yf_entry yf_waiting yf_values yf_bound yf_cells yf_conses yf_lams yf_steps yf_atWork yf_end yf_writtenCount ya_kind ya_up ya_turn ya_depth ya_value ya_below ya_length ya_parameters ya_codes ya_codeCount ya_form ya_colour ya_same ya_one ya_two ya_todo ya_numbered ya_text ya_ofFunction ya_codeEnd ya_instance ya_token ya_env ya_tag ya_cellEnv ya_boundNext ya_step ya_boundNumber ya_boundTag ya_headTag ya_tailTag ya_number ya_boundValue ya_head ya_tail ya_written fu (nI (loc m)) := by
  subst x1e
  have ca : (nI a).toNatClampNeg = a := nI_clamp (by omega)
  intro q
  induction q with
  | zero =>
    intro m fu hm h10 hfu hloc
    obtain ⟨fu, rfl⟩ : ∃ g, fu = g + 1 := ⟨fu - 1, by omega⟩
    obtain ⟨l1, l2, l3⟩ := hloc m (Nat.le_refl _)
    have e : m = v := by omega
    subst e
    refine br_t rfl (And.intro (pk_in (loc m) 4000 l1) (And.intro (pk_in a 264 ha) ?_))
    rw [nI_clamp (n := loc m) (by omega), ca, l2, hval]
    exact br_t rfl h
  | succ q ih =>
    intro m fu hm h10 hfu hloc
    obtain ⟨fu, rfl⟩ : ∃ g, fu = g + 1 := ⟨fu - 1, by omega⟩
    obtain ⟨l1, l2, l3⟩ := hloc m (Nat.le_refl _)
    have cm : (nI (loc m)).toNatClampNeg = loc m := nI_clamp (by omega)
    refine br_t rfl (And.intro (pk_in (loc m) 4000 l1) (And.intro (pk_in a 264 ha) ?_))
    rw [cm, ca, l2, hval]
    refine pk_eq m v (fun z => by omega) (fun _ => And.intro (pk_in (loc m) 4000 l1) (nm_r (e' := nI (loc (m - 1))) (by rw [l3, if_neg (by omega)]) ?_))
    exact ih (m - 1) fu (by omega) (by omega) (by omega) (fun k hk => hloc k (by omega))
/-- INT, TRUE, FALSE, VAR, NIL -/
theorem st_leaf {T0 : mt_T} {px : Int32 → SX → Prop} {B : (Int32 → SY → Prop) → Prop} {mu : Nat} {nh nw nd nx nk nl ns nt nb nc : Nat} {rsl rsr rwd rbw rcf rcs rct rcw rtk ren rtg rce rbx rst rbn rbt rht rtt rnu rbv rhd rtl : Nat → Int32} {g t : Nat} {e : Int32} {rho : Nat → mt_T} {st : List FE} {ws : List FV} {ty : Nat → mt_T} {cm lc : Nat → Nat} (hlib : lib ln P kN vl oc sp bd bi cod) (hmx : mx_ok ln P kN vl sp bd a_kinds a_values a_spans a_bounds a_lengths a_parameterCounts) (hmy : my_ok ln P kN vl oc sp ya_kind ya_value ya_below ya_parameters)
    (hk : kk ln P kN vl oc sp bd bi cod T0 px B mu f_saidPlace f_instanceCount f_nodeCount f_equationCount f_stackCount f_wordCount f_depth f_cellCount f_consCount f_closureCount f_stepCount f_runAnswer f_writtenCount a_kinds a_values a_spans a_bounds a_binders a_lengths a_parameterCounts a_typeCodes a_typeLengths a_instanceFunctions a_nodeKinds a_nodeLefts a_nodeRights a_nodeSizes a_equationLefts a_equationRights a_stackLefts a_stackRights a_words a_boundWords a_cellFirsts a_cellSeconds a_closureTokens a_closureWords a_written yf_place yf_points yf_names yf_textEnd yf_made yf_entry yf_waiting yf_values yf_bound yf_cells yf_conses yf_lams yf_steps yf_atWork yf_end yf_writtenCount ya_kind ya_up ya_turn ya_depth ya_value ya_below ya_length ya_parameters ya_codes ya_codeCount ya_form ya_colour ya_same ya_one ya_two ya_todo ya_numbered ya_text ya_ofFunction ya_codeEnd ya_instance ya_token ya_env ya_tag ya_cellEnv ya_boundNext ya_step ya_boundNumber ya_boundTag ya_headTag ya_tailTag ya_number ya_boundValue ya_head ya_tail ya_written) (h : ra_ok ln P kN vl oc sp bd bi cod T0 (mu + 1) nh nw nd nx nk nl ns nt nb nc rsl rsr rwd rbw rcf rcs rct rcw rtk ren rtg rce rbx rst rbn rbt rht rtt rnu rbv rhd rtl g t e rho st ws ty cm lc) (hY : ∀ Q, (∃ n, wY_run_75 Q n yf_place yf_points yf_names yf_textEnd yf_made yf_entry (nI nt) (nI nw) (nI nb) (nI nc) (nI nk) (nI nl) (nI ns) (nI nd) 0 yf_writtenCount ya_kind ya_up ya_turn ya_depth ya_value ya_below ya_length ya_parameters ya_codes ya_codeCount ya_form ya_colour ya_same ya_one ya_two ya_todo ya_numbered ya_text ya_ofFunction ya_codeEnd ya_instance rtk ren rtg rce rbx rst rbn rbt rht rtt rnu rbv rhd rtl ya_written) → B Q) (hkt : kN g t = 0 ∨ kN g t = 1 ∨ kN g t = 2 ∨ kN g t = 3 ∨ kN g t = 8) : wpX_begin px (f_saidPlace, f_instanceCount, f_nodeCount, f_equationCount, (nI nh), (nI nw), (nI nd), (nI nx), (nI nk), (nI nl), (nI ns), 0, f_writtenCount, a_kinds, a_values, a_spans, a_bounds, a_binders, a_lengths, a_parameterCounts, a_typeCodes, a_typeLengths, a_instanceFunctions, a_nodeKinds, a_nodeLefts, a_nodeRights, a_nodeSizes, a_equationLefts, a_equationRights, rsl, rsr, rwd, rbw, rcf, rcs, rct, rcw, a_written) (nI ((5 + g) * 24 + t)) := by
  obtain ⟨hrc, hfr, hko, hs1, hs2, d1, d2, d3, d4, d5⟩ := h
  obtain ⟨a1, a2, a3, a4, a5, a6⟩ := hfr
  obtain ⟨l1, l2, l3, l4, l5, l6⟩ := lib1 hlib a1 a2
  obtain ⟨n24, hbw, _, tr, hbt⟩ := l1
  obtain ⟨t1, t2, t3, t4⟩ := tok_oc hlib a1 a2 a3
  obtain ⟨_, y2⟩ := hmy g a1 a2
  obtain ⟨z1, z2, z3⟩ := y2 t a3
  have hvar := fun (_ : Unit) => (hbt t a3).2.2.2.2.2
  have w4 := (hbw.2.2 t a3).1
  have h10 := l4 t a3
  have hru := a5.2 t a3
  have c1 := hrc.1
  have c2 := hrc.2.1
  have c3 := hrc.2.2.1
  have c4 := hrc.2.2.2.1
  have c13 := hrc.2.2.2.2.2.2.2.2.2.2.2.2
  have hnb : nb ≤ 3415 := by omega
  subst d1
  have hnh : nh < 600 := by omega
  have hnw : nw < 525 := by omega
  have ho : oc g t = 0 := by
    rw [t4 (by omega)]
    rcases hkt with z | z | z | z | z <;> rw [z] <;> rfl
  have hn0 : (if kN g t = 15 then 0 else nm (kN g t) (oc g t)) = 0 := by
    rw [if_neg (by omega), nm_o (by omega) (by omega) (by omega), ho]
  have cx : (nI (24 * (6 + g) + t)).toNatClampNeg = 24 * (6 + g) + t := nI_clamp (by omega)
  have pp : vp_in (nI (24 * (6 + g) + t)) 264 := pk_in (24 * (6 + g) + t) 264 (by omega)
  -- the end, for a value
  have fin : ∀ (k : Nat) (num x : Int32), k ≤ 4 → vv nc ty cm (rho t) (nI k) num x → (∀ {post : SY → Prop}, post (yf_place, yf_points, yf_names, yf_textEnd, yf_made, yf_entry, (nI nh), (nI (nw + 1)), (nI nb), (nI nc), (nI nk), (nI nl), (nI ns), (nI nd), 0, yf_writtenCount, ya_kind, ya_up, ya_turn, ya_depth, ya_value, ya_below, ya_length, ya_parameters, ya_codes, ya_codeCount, ya_form, ya_colour, ya_same, ya_one, ya_two, ya_todo, ya_numbered, ya_text, ya_ofFunction, ya_codeEnd, ya_instance, rtk, ren, (upd rtg nw (nI k)), rce, rbx, rst, rbn, rbt, rht, rtt, (upd rnu nw num), rbv, rhd, rtl, ya_written) → wpY_simple post (yf_place, yf_points, yf_names, yf_textEnd, yf_made, yf_entry, (nI nh), (nI nw), (nI nb), (nI nc), (nI nk), (nI nl), (nI ns), (nI nd), 0, yf_writtenCount, ya_kind, ya_up, ya_turn, ya_depth, ya_value, ya_below, ya_length, ya_parameters, ya_codes, ya_codeCount, ya_form, ya_colour, ya_same, ya_one, ya_two, ya_todo, ya_numbered, ya_text, ya_ofFunction, ya_codeEnd, ya_instance, rtk, ren, rtg, rce, rbx, rst, rbn, rbt, rht, rtt, rnu, rbv, rhd, rtl, ya_written) (nI (24 * (6 + g) + t)) e (nI 0)) →
      (px (-1) (f_saidPlace, f_instanceCount, f_nodeCount, f_equationCount, (nI nh), (nI (nw + 1)), (nI nd), (nI nx), (nI nk), (nI nl), (nI ns), 0, f_writtenCount, a_kinds, a_values, a_spans, a_bounds, a_binders, a_lengths, a_parameterCounts, a_typeCodes, a_typeLengths, a_instanceFunctions, a_nodeKinds, a_nodeLefts, a_nodeRights, a_nodeSizes, a_equationLefts, a_equationRights, rsl, rsr, (upd rwd nw x), rbw, rcf, rcs, rct, rcw, a_written) → wpX_begin px (f_saidPlace, f_instanceCount, f_nodeCount, f_equationCount, (nI nh), (nI nw), (nI nd), (nI nx), (nI nk), (nI nl), (nI ns), 0, f_writtenCount, a_kinds, a_values, a_spans, a_bounds, a_binders, a_lengths, a_parameterCounts, a_typeCodes, a_typeLengths, a_instanceFunctions, a_nodeKinds, a_nodeLefts, a_nodeRights, a_nodeSizes, a_equationLefts, a_equationRights, rsl, rsr, rwd, rbw, rcf, rcs, rct, rcw, a_written) (nI ((5 + g) * 24 + t))) → wpX_begin px (f_saidPlace, f_instanceCount, f_nodeCount, f_equationCount, (nI nh), (nI nw), (nI nd), (nI nx), (nI nk), (nI nl), (nI ns), 0, f_writtenCount, a_kinds, a_values, a_spans, a_bounds, a_binders, a_lengths, a_parameterCounts, a_typeCodes, a_typeLengths, a_instanceFunctions, a_nodeKinds, a_nodeLefts, a_nodeRights, a_nodeSizes, a_equationLefts, a_equationRights, rsl, rsr, rwd, rbw, rcf, rcs, rct, rcw, a_written) (nI ((5 + g) * 24 + t)) := by
    intro k num x hk4 hv hy hx
    refine hx (hk.2.1 nh (nw + 1) nd nx nk nl ns nh nb nc rsl rsr (upd rwd nw x) rbw rcf rcs rct rcw rtk ren (upd rtg nw (nI k)) rce rbx rst rbn rbt rht rtt (upd rnu nw num) rbv rhd rtl st (rho t, nI k, num, x) ws ty cm lc ⟨rc_push hrc hv (Nat.zero_le _) (Nat.zero_le _) nh, ⟨_, hko⟩, rfl, ar_leaf w4 d5⟩ ?_)
    rintro Q ⟨n, hn⟩
    exact hY Q ⟨n + 1, y_leafgo hlib hmy a1 a2 a3 hnh d2 d3 d4 hn0 (by omega) (hy hn)⟩
  rcases hkt with z | z | z | z | z
  · unfold ru_t at hru
    rw [z] at hru
    refine fin 0 (vl g t) (vl g t) (by omega) (by rw [show rho t = .leaf 0 from hru]; exact ⟨rfl, rfl⟩) (fun {post} hp => ?_) (fun hp => x_leafgo hlib hmx a1 a2 a3 hnw ho z (Or.inl rfl) (fun _ => rfl) (by omega) (by omega) (fun _ => by omega) hp)
    refine And.intro pp (nm_r (e' := 0) (by rw [cx, z1, z]; rfl) (Exists.intro 1 (br_f (by decide) (br_t rfl (And.intro pp ?_)))))
    rw [cx, z2]
    exact y_push (k := 0) (by omega) (by omega) rfl hp
  · unfold ru_t at hru
    rw [z] at hru
    refine fin 0 1 1 (by omega) (by rw [show rho t = .leaf 1 from hru]; exact ⟨rfl, rfl⟩) (fun {post} hp => ?_) (fun hp => x_leafgo hlib hmx a1 a2 a3 hnw ho z (Or.inr (Or.inl rfl)) (by omega) (fun _ => rfl) (by omega) (fun _ => by omega) hp)
    refine And.intro pp (nm_r (e' := 1) (by rw [cx, z1, z]; rfl) (Exists.intro 1 (br_f (by decide) (br_f (by decide) (br_f (by decide) (br_t rfl ?_))))))
    exact y_push (k := 0) (by omega) (by omega) rfl hp
  · unfold ru_t at hru
    rw [z] at hru
    refine fin 0 0 0 (by omega) (by rw [show rho t = .leaf 1 from hru]; exact ⟨rfl, rfl⟩) (fun {post} hp => ?_) (fun hp => x_leafgo hlib hmx a1 a2 a3 hnw ho z (Or.inr (Or.inr (Or.inl rfl))) (by omega) (by omega) (fun _ => rfl) (fun _ => by omega) hp)
    refine And.intro pp (nm_r (e' := 2) (by rw [cx, z1, z]; rfl) (Exists.intro 1 (br_f (by decide) (br_f (by decide) (br_f (by decide) (br_f (by decide) ?_))))))
    exact y_push (k := 0) (by omega) (by omega) rfl hp
  · obtain ⟨v, v1, v2, v3, v4⟩ := hvar () z
    obtain ⟨loc, q1, q2⟩ := a6
    obtain ⟨r1, r2, r3, r4⟩ := q1 v v3
    obtain ⟨k, k4, ek⟩ := vv_tag r4
    unfold ru_t at hru
    rw [z, v2, nI_clamp (by omega)] at hru
    have hru' : rho t = rho (wv (bi g) (bd g) t v) := hru
    dsimp only at r4
    rw [← hru', ek] at r4
    refine fin k (rbv (loc v)) (rbw (nd * 10 + v)) k4 r4 (fun {post} hp => ?_) (fun hp => x_leafgo hlib hmx a1 a2 a3 hnw ho z (Or.inr (Or.inr (Or.inr (Or.inl rfl)))) (by omega) (by omega) (by omega) (fun _ _ => ⟨v, v1, v2, c3, rfl⟩) hp)
    refine And.intro pp (nm_r (e' := 3) (by rw [cx, z1, z]; rfl) (Exists.intro 11 ?_))
    rw [q2, if_neg (by omega)]
    refine y_find_var (a := 24 * (6 + g) + t) (v := v) (loc := loc) (by omega) v1 rfl (by rw [z2, v2]) (fun _ _ _ => trivial) ?_ (bd g t - 1 - v) (bd g t - 1) 11 (by omega) (by omega) (by omega) (fun k hk => by obtain ⟨s1, s2, s3, _⟩ := q1 k (by omega); exact ⟨by omega, s2, s3⟩)
    refine br_f (by decide) (br_t (by decide) (br_t rfl (And.intro (pk_in (loc v) 4000 (by omega)) (And.intro (pk_in (loc v) 4000 (by omega)) ?_))))
    rw [nI_clamp (n := loc v) (by omega), ek]
    exact y_push (k := k) (by omega) (by omega) rfl hp
  · unfold ru_t at hru
    rw [z] at hru
    obtain ⟨y, _, hy⟩ := hru
    refine fin 2 0 0 (by omega) (by rw [hy]; exact Or.inl ⟨rfl, rfl, rfl, rfl⟩) (fun {post} hp => ?_) (fun hp => x_leafgo hlib hmx a1 a2 a3 hnw ho z (Or.inr (Or.inr (Or.inr (Or.inr rfl)))) (by omega) (by omega) (fun _ => rfl) (fun _ => by omega) hp)
    refine And.intro pp (nm_r (e' := 8) (by rw [cx, z1, z]; rfl) (Exists.intro 1 (br_f (by decide) (br_f (by decide) (br_t (by decide) (br_f (by decide) (br_t rfl ?_)))))))
    exact y_push (k := 2) (by omega) (by omega) rfl hp

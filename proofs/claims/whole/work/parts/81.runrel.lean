variable {f_saidPlace f_instanceCount f_nodeCount f_equationCount f_stackCount f_wordCount f_depth f_cellCount f_consCount f_closureCount f_stepCount f_runAnswer f_writtenCount : Int32} {a_kinds a_values a_spans a_bounds a_binders a_lengths a_parameterCounts a_typeCodes a_typeLengths a_instanceFunctions a_nodeKinds a_nodeLefts a_nodeRights a_nodeSizes a_equationLefts a_equationRights a_stackLefts a_stackRights a_words a_boundWords a_cellFirsts a_cellSeconds a_closureTokens a_closureWords a_written : Nat → Int32}
variable {yf_place yf_points yf_names yf_textEnd yf_made yf_entry yf_waiting yf_values yf_bound yf_cells yf_conses yf_lams yf_steps yf_atWork yf_end yf_writtenCount : Int32} {ya_kind ya_up ya_turn ya_depth ya_value ya_below ya_length ya_parameters ya_codes ya_codeCount ya_form ya_colour ya_same ya_one ya_two ya_todo ya_numbered ya_text ya_ofFunction ya_codeEnd ya_instance ya_token ya_env ya_tag ya_cellEnv ya_boundNext ya_step ya_boundNumber ya_boundTag ya_headTag ya_tailTag ya_number ya_boundValue ya_head ya_tail ya_written : Nat → Int32}
theorem run_rel (hR : rel f_saidPlace f_instanceCount f_nodeCount f_equationCount f_stackCount f_wordCount f_depth f_cellCount f_consCount f_closureCount f_stepCount f_runAnswer f_writtenCount a_kinds a_values a_spans a_bounds a_binders a_lengths a_parameterCounts a_typeCodes a_typeLengths a_instanceFunctions a_nodeKinds a_nodeLefts a_nodeRights a_nodeSizes a_equationLefts a_equationRights a_stackLefts a_stackRights a_words a_boundWords a_cellFirsts a_cellSeconds a_closureTokens a_closureWords a_written yf_place yf_points yf_names yf_textEnd yf_made yf_entry yf_waiting yf_values yf_bound yf_cells yf_conses yf_lams yf_steps yf_atWork yf_end yf_writtenCount ya_kind ya_up ya_turn ya_depth ya_value ya_below ya_length ya_parameters ya_codes ya_codeCount ya_form ya_colour ya_same ya_one ya_two ya_todo ya_numbered ya_text ya_ofFunction ya_codeEnd ya_instance ya_token ya_env ya_tag ya_cellEnv ya_boundNext ya_step ya_boundNumber ya_boundTag ya_headTag ya_tailTag ya_number ya_boundValue ya_head ya_tail ya_written) : wpX_run (fun r u => wpY_run (fun r' v => r' = r ∧ rl u v) (yf_place, yf_points, yf_names, yf_textEnd, yf_made, yf_entry, yf_waiting, yf_values, yf_bound, yf_cells, yf_conses, yf_lams, yf_steps, yf_atWork, yf_end, yf_writtenCount, ya_kind, ya_up, ya_turn, ya_depth, ya_value, ya_below, ya_length, ya_parameters, ya_codes, ya_codeCount, ya_form, ya_colour, ya_same, ya_one, ya_two, ya_todo, ya_numbered, ya_text, ya_ofFunction, ya_codeEnd, ya_instance, ya_token, ya_env, ya_tag, ya_cellEnv, ya_boundNext, ya_step, ya_boundNumber, ya_boundTag, ya_headTag, ya_tailTag, ya_number, ya_boundValue, ya_head, ya_tail, ya_written)) (f_saidPlace, f_instanceCount, f_nodeCount, f_equationCount, f_stackCount, f_wordCount, f_depth, f_cellCount, f_consCount, f_closureCount, f_stepCount, f_runAnswer, f_writtenCount, a_kinds, a_values, a_spans, a_bounds, a_binders, a_lengths, a_parameterCounts, a_typeCodes, a_typeLengths, a_instanceFunctions, a_nodeKinds, a_nodeLefts, a_nodeRights, a_nodeSizes, a_equationLefts, a_equationRights, a_stackLefts, a_stackRights, a_words, a_boundWords, a_cellFirsts, a_cellSeconds, a_closureTokens, a_closureWords, a_written) := by
  obtain ⟨hpl, hb, hd, hm, hr⟩ := hR
  have hm0 := hm
  obtain ⟨m, fi, ic, m1, m2, m3, m4, m5⟩ := hm
  unfold wpX_run
  show (f_instanceCount = 0 → _) ∧ _
  rcases m5 with ⟨e0, en⟩ | ⟨mp, en, ln, P, kN, vl, oc, sp, bd, bi, cod, hlib, hl0, hP0, hmx, hmy, T0, w1, w2, w3, w4⟩
  · refine br_t (by rw [m2, e0]; rfl) ?_
    refine br_f (by rw [en]; decide) ?_
    exact ⟨rfl, hpl, hb, hd, hm0, rfl, 0, by omega, rfl, rfl, fun k hk => by omega⟩
  · obtain ⟨a1, a2, a3, _⟩ := m4 0 mp
    obtain ⟨l1, l2, l3, l4, l5, l6⟩ := lib1 hlib a1 hl0
    have n24 := l1.1
    have hbw := l1.2.1
    obtain ⟨r, r1, r2, r3⟩ := ((hlib (fi 0) a1 hl0).2.2.2.2.2.2.2.2.2 _).mp w3
    have er : r 0 = T0 := by
      rw [hP0] at r3
      have : [T0] = [r 0] := r3
      injection this with this
      exact this.symm
    refine br_f (by rw [m2]; exact fun w => by have := (nI0 (n := m) (by omega)).mp w; omega) (nm_r (e' := nI ((5 + fi 0) * 24 + 0)) (by rw [a2, show (5 : Int32) + nI (fi 0) = nI (5 + fi 0) from nI_add 5 _]; exact pk_mul _ 24) (Exists.intro 20000 ?_))
    -- what is the same at the end
    have fin : ∀ (st : Int32) (wc : Nat) (W V : Nat → Int32), wc ≤ 400 → (∀ k, k < wc → W k = V k) → rel_r st (nI wc) W st (nI wc) V := fun st wc W V h1 h2 => ⟨rfl, wc, h1, rfl, rfl, h2⟩
    have hY0 : ∀ Q, (∃ n, wY_run_75 Q n yf_place yf_points yf_names yf_textEnd yf_made yf_entry (nI 1) (nI 0) (nI 0) (nI 0) (nI 0) (nI 0) (nI 0) (nI 0) 0 (nI 0) ya_kind ya_up ya_turn ya_depth ya_value ya_below ya_length ya_parameters ya_codes ya_codeCount ya_form ya_colour ya_same ya_one ya_two ya_todo ya_numbered ya_text ya_ofFunction ya_codeEnd ya_instance (upd ya_token 0 (nI (24 * (6 + fi 0) + 0))) (upd ya_env 0 (-1)) ya_tag ya_cellEnv ya_boundNext (upd ya_step 0 0) ya_boundNumber ya_boundTag ya_headTag ya_tailTag ya_number ya_boundValue ya_head ya_tail ya_written) → wpY_run Q (yf_place, yf_points, yf_names, yf_textEnd, yf_made, yf_entry, yf_waiting, yf_values, yf_bound, yf_cells, yf_conses, yf_lams, yf_steps, yf_atWork, yf_end, yf_writtenCount, ya_kind, ya_up, ya_turn, ya_depth, ya_value, ya_below, ya_length, ya_parameters, ya_codes, ya_codeCount, ya_form, ya_colour, ya_same, ya_one, ya_two, ya_todo, ya_numbered, ya_text, ya_ofFunction, ya_codeEnd, ya_instance, ya_token, ya_env, ya_tag, ya_cellEnv, ya_boundNext, ya_step, ya_boundNumber, ya_boundTag, ya_headTag, ya_tailTag, ya_number, ya_boundValue, ya_head, ya_tail, ya_written) := by
      intro Q hn
      refine br_t (by rw [en]; exact nI_le (a := 0) (by omega) (by omega)) ?_
      rw [en, show (144 : Int32) + 24 * nI (fi 0) = nI (24 * (6 + fi 0) + 0) by rw [show (24 : Int32) * nI (fi 0) = nI (24 * fi 0) from pk_mul 24 _, show (144 : Int32) + nI (24 * fi 0) = nI (144 + 24 * fi 0) from nI_add 144 _]; exact congrArg nI (by omega)]
      rw [en] at hn
      exact y_later (w := 0) (by omega) (nr_s (by omega)) nr_sm' hn
    have p1 := pA_le (G := G1 kN) hbw (by omega : 0 < ln (fi 0))
    have p2 := pA_le (G := G2 kN) hbw (by omega : 0 < ln (fi 0))
    have q1 := sm_G1 hlib a1 hl0
    have q2 := sm_G2 hlib a1 hl0
    have hsp := hbw.2.1
    have key := run_loop (T0 := T0) (f_writtenCount := nI 0) (yf_writtenCount := nI 0) (f_instanceCount := f_instanceCount) (post := fun r u => wpY_run (fun r' v => r' = r ∧ rl u v) (yf_place, yf_points, yf_names, yf_textEnd, yf_made, yf_entry, yf_waiting, yf_values, yf_bound, yf_cells, yf_conses, yf_lams, yf_steps, yf_atWork, yf_end, yf_writtenCount, ya_kind, ya_up, ya_turn, ya_depth, ya_value, ya_below, ya_length, ya_parameters, ya_codes, ya_codeCount, ya_form, ya_colour, ya_same, ya_one, ya_two, ya_todo, ya_numbered, ya_text, ya_ofFunction, ya_codeEnd, ya_instance, ya_token, ya_env, ya_tag, ya_cellEnv, ya_boundNext, ya_step, ya_boundNumber, ya_boundTag, ya_headTag, ya_tailTag, ya_number, ya_boundValue, ya_head, ya_tail, ya_written)) (B := fun Q => wpY_run Q (yf_place, yf_points, yf_names, yf_textEnd, yf_made, yf_entry, yf_waiting, yf_values, yf_bound, yf_cells, yf_conses, yf_lams, yf_steps, yf_atWork, yf_end, yf_writtenCount, ya_kind, ya_up, ya_turn, ya_depth, ya_value, ya_below, ya_length, ya_parameters, ya_codes, ya_codeCount, ya_form, ya_colour, ya_same, ya_one, ya_two, ya_todo, ya_numbered, ya_text, ya_ofFunction, ya_codeEnd, ya_instance, ya_token, ya_env, ya_tag, ya_cellEnv, ya_boundNext, ya_step, ya_boundNumber, ya_boundTag, ya_headTag, ya_tailTag, ya_number, ya_boundValue, ya_head, ya_tail, ya_written)) (f_saidPlace := f_saidPlace) (f_nodeCount := f_nodeCount) (f_equationCount := f_equationCount) (a_kinds := a_kinds) (a_values := a_values) (a_spans := a_spans) (a_bounds := a_bounds) (a_binders := a_binders) (a_lengths := a_lengths) (a_parameterCounts := a_parameterCounts) (a_typeCodes := a_typeCodes) (a_typeLengths := a_typeLengths) (a_instanceFunctions := a_instanceFunctions) (a_nodeKinds := a_nodeKinds) (a_nodeLefts := a_nodeLefts) (a_nodeRights := a_nodeRights) (a_nodeSizes := a_nodeSizes) (a_equationLefts := a_equationLefts) (a_equationRights := a_equationRights) (a_written := a_written) (yf_place := yf_place) (yf_points := yf_points) (yf_names := yf_names) (yf_textEnd := yf_textEnd) (yf_made := yf_made) (yf_entry := yf_entry) (ya_kind := ya_kind) (ya_up := ya_up) (ya_turn := ya_turn) (ya_depth := ya_depth) (ya_value := ya_value) (ya_below := ya_below) (ya_length := ya_length) (ya_parameters := ya_parameters) (ya_codes := ya_codes) (ya_codeCount := ya_codeCount) (ya_form := ya_form) (ya_colour := ya_colour) (ya_same := ya_same) (ya_one := ya_one) (ya_two := ya_two) (ya_todo := ya_todo) (ya_numbered := ya_numbered) (ya_text := ya_text) (ya_ofFunction := ya_ofFunction) (ya_codeEnd := ya_codeEnd) (ya_instance := ya_instance) (ya_written := ya_written) hlib hmx hmy ?_ ?_ 15000
    · refine key.1 20000 0 0 0 0 1 0 0 0 1 0 0 a_stackLefts a_stackRights a_words a_boundWords a_cellFirsts a_cellSeconds a_closureTokens a_closureWords (upd ya_token 0 (nI (24 * (6 + fi 0) + 0))) (upd ya_env 0 (-1)) ya_tag ya_cellEnv ya_boundNext (upd ya_step 0 0) ya_boundNumber ya_boundTag ya_headTag ya_tailTag ya_number ya_boundValue ya_head ya_tail (fi 0) 0 (-1) r [] [] (fun _ => .leaf 0) (fun _ => 0) (fun _ => 0) (by omega) (by omega) ⟨⟨rfl, rfl, by omega, by omega, by omega, by omega, rfl, Nat.le_refl _, trivial, trivial, fun i hi => by omega, ?_, ?_⟩, ⟨a1, hl0, by omega, r1, r2, ?_⟩, ⟨rfl, er, rfl⟩, Nat.zero_le _, Nat.zero_le _, rfl, pk_us, pk_us, pk_us, ?_⟩ hY0
      · show 1 + 0 + pA sp (G1 kN) (fi 0) 0 ≤ 11 * (0 + 1) + 1
        omega
      · show 0 + 0 + pA sp (G2 kN) (fi 0) 0 ≤ 15 * (0 + 1) + 2 * 0
        omega
      · rw [l2, hP0]; exact ev_nil
      · show 0 + 2 * sp (fi 0) 0 - 1 + 50 * (200 - 0) ≤ 15000
        omega
    · intro nh nw nd nx nk nl ns nt nb nc rsl rsr rwd rbw rcf rcs rct rcw rtk ren rtg rce rbx rst rbn rbt rht rtt rnu rbv rhd rtl c xk xl xw xx xh vt vl' vk vv' vb vc hc hY
      refine br_f hc ?_
      refine hY _ ⟨1, ?_⟩
      have h96 : rel f_saidPlace f_instanceCount f_nodeCount f_equationCount xh xw (nI nd) xx xk xl (nI ns) c (nI 0) a_kinds a_values a_spans a_bounds a_binders a_lengths a_parameterCounts a_typeCodes a_typeLengths a_instanceFunctions a_nodeKinds a_nodeLefts a_nodeRights a_nodeSizes a_equationLefts a_equationRights rsl rsr rwd rbw rcf rcs rct rcw a_written yf_place yf_points yf_names yf_textEnd yf_made yf_entry vt vv' vb vc vk vl' (nI ns) (nI nd) c (nI 0) ya_kind ya_up ya_turn ya_depth ya_value ya_below ya_length ya_parameters ya_codes ya_codeCount ya_form ya_colour ya_same ya_one ya_two ya_todo ya_numbered ya_text ya_ofFunction ya_codeEnd ya_instance rtk ren rtg rce rbx rst rbn rbt rht rtt rnu rbv rhd rtl ya_written := ⟨hpl, hb, hd, hm0, fin (nI ns) 0 a_written ya_written (by omega) (fun k hk => by omega)⟩
      exact br_c (fun _ => br_f hc ⟨rfl, h96⟩) (fun _ => br_f hc (br_f hc ⟨rfl, h96⟩))
    · intro nh nw nd nx nk nl ns nt nb nc rsl rsr rwd rbw rcf rcs rct rcw rtk ren rtg rce rbx rst rbn rbt rht rtt rnu rbv rhd rtl mu w ws ty cm lc h hY
      obtain ⟨⟨c1, c2, c3, c4, c5, c6, c7, c8, c9, c10, c11, c12, c13⟩, ⟨lim, e1, e2, e3⟩, d1, d5⟩ := h
      subst e1
      have ent : nh = 0 := c1
      have enw : nw = 1 := c2
      subst d1
      subst ent enw e3
      obtain ⟨v1, v2, v3, v4, _⟩ := c10
      rw [e2] at v4
      have hnx : nx ≤ 2212 := by omega
      have hnc : nc ≤ 2500 := by omega
      refine br_t rfl ?_
      unfold wpX_writeValue
      refine x_push (h := 0) (by omega) (Exists.intro 40000 ?_)
      obtain ⟨tau, tk1, tk2⟩ := tk_all [T0] (fun t ht => by simp at ht; rw [ht]; exact w1)
      have eL : mt_encs [T0] = mt_enc T0 := by simp [mt_encs]
      rw [eL] at tk1
      have tau0 : tau 0 = T0 := tk2 0 (by simp)
      obtain ⟨g1, g2, g3, g4⟩ := a3
      rw [w2] at g4
      have hne := mt_enc_ne T0
      refine wr_loop (yf_place := yf_place) (yf_points := yf_points) (yf_names := yf_names) (yf_textEnd := yf_textEnd) (yf_made := yf_made) (yf_entry := yf_entry) (yf_waiting := nI 0) (yf_bound := nI nb) (yf_cells := nI nc) (yf_conses := nI nk) (yf_lams := nI nl) (yf_steps := nI ns) (yf_atWork := nI 0) (yf_end := 0) (ya_kind := ya_kind) (ya_up := ya_up) (ya_turn := ya_turn) (ya_depth := ya_depth) (ya_value := ya_value) (ya_below := ya_below) (ya_length := ya_length) (ya_parameters := ya_parameters) (ya_codes := ya_codes) (ya_codeCount := ya_codeCount) (ya_form := ya_form) (ya_colour := ya_colour) (ya_same := ya_same) (ya_one := ya_one) (ya_two := ya_two) (ya_todo := ya_todo) (ya_numbered := ya_numbered) (ya_text := ya_text) (ya_ofFunction := ya_ofFunction) (ya_codeEnd := ya_codeEnd) (ya_instance := ya_instance) (ya_token := rtk) (ya_env := ren) (ya_cellEnv := rce) (ya_boundNext := rbx) (ya_step := rst) (ya_boundNumber := rbn) (ya_boundTag := rbt) (ya_headTag := rht) (ya_tailTag := rtt) (ya_boundValue := rbv) (ya_head := rhd) (ya_tail := rtl) (nc := nc) (nx := nx) (ty := ty) (cm := cm) (lc := lc) (L := mt_enc T0) (tau := tau) (B := fun Q' => ∀ Q : Int32 → SY → Prop, Q' = (fun u => match u with | (yf_place, yf_points, yf_names, yf_textEnd, yf_made, yf_entry, yf_waiting, yf_values, yf_bound, yf_cells, yf_conses, yf_lams, yf_steps, yf_atWork, yf_end, yf_writtenCount, ya_kind, ya_up, ya_turn, ya_depth, ya_value, ya_below, ya_length, ya_parameters, ya_codes, ya_codeCount, ya_form, ya_colour, ya_same, ya_one, ya_two, ya_todo, ya_numbered, ya_text, ya_ofFunction, ya_codeEnd, ya_instance, ya_token, ya_env, ya_tag, ya_cellEnv, ya_boundNext, ya_step, ya_boundNumber, ya_boundTag, ya_headTag, ya_tailTag, ya_number, ya_boundValue, ya_head, ya_tail, ya_written) => Q yf_end (yf_place, yf_points, yf_names, yf_textEnd, yf_made, yf_entry, yf_waiting, yf_values, yf_bound, yf_cells, yf_conses, yf_lams, yf_steps, yf_atWork, yf_end, yf_writtenCount, ya_kind, ya_up, ya_turn, ya_depth, ya_value, ya_below, ya_length, ya_parameters, ya_codes, ya_codeCount, ya_form, ya_colour, ya_same, ya_one, ya_two, ya_todo, ya_numbered, ya_text, ya_ofFunction, ya_codeEnd, ya_instance, ya_token, ya_env, ya_tag, ya_cellEnv, ya_boundNext, ya_step, ya_boundNumber, ya_boundTag, ya_headTag, ya_tailTag, ya_number, ya_boundValue, ya_head, ya_tail, ya_written)) → wpY_run Q (yf_place, yf_points, yf_names, yf_textEnd, yf_made, yf_entry, yf_waiting, yf_values, yf_bound, yf_cells, yf_conses, yf_lams, yf_steps, yf_atWork, yf_end, yf_writtenCount, ya_kind, ya_up, ya_turn, ya_depth, ya_value, ya_below, ya_length, ya_parameters, ya_codes, ya_codeCount, ya_form, ya_colour, ya_same, ya_one, ya_two, ya_todo, ya_numbered, ya_text, ya_ofFunction, ya_codeEnd, ya_instance, ya_token, ya_env, ya_tag, ya_cellEnv, ya_boundNext, ya_step, ya_boundNumber, ya_boundTag, ya_headTag, ya_tailTag, ya_number, ya_boundValue, ya_head, ya_tail, ya_written)) (by omega) c5 hnc c11 w4 (fun k hk => ?_) tk1 (fun sc sl sr W wc yv tgA nuA V q1 q2 q3 => ?_) 13000 40000 0 [(0, T0, some (w.2.1, w.2.2.1, w.2.2.2), none)] (15 - (mt_enc T0).length) (upd rsl 0 (rwd 0)) (upd rsr 0 210) a_written 0 rtg rnu ya_written (by omega) (by omega) ⟨?_, pk_us, trivial⟩ ⟨v2, v3, trivial⟩ ⟨hne, tau0, v4, trivial⟩ ⟨15, rfl, by omega⟩ (by omega) (fun k hk => by omega) ?_ (fun Q' ⟨n, hn⟩ Q e => ?_)
      · have := g4 k hk
        rw [show (5 + 0) * 42 + k = 210 + k by omega] at this
        exact this
      · refine q3 _ ?_ _ rfl
        exact ⟨rfl, hpl, hb, hd, hm0, fin (nI ns) wc W V q1 q2⟩
      · show upd rsl 0 (rwd 0) 0 = w.2.2.2
        rw [pk_us]; exact v1
      · show 30 * (400 - 0) + 30 * (16 - (0 + 1)) + (2 * (mt_enc T0).length + 0) ≤ 13000
        omega
      · subst e
        exact hY Q ⟨1, br_t (by decide) (br_t rfl ⟨n, hn⟩)⟩

variable {f_saidPlace f_instanceCount f_nodeCount f_equationCount f_stackCount f_wordCount f_depth f_cellCount f_consCount f_closureCount f_stepCount f_runAnswer f_writtenCount : Int32} {a_kinds a_values a_spans a_bounds a_binders a_lengths a_parameterCounts a_typeCodes a_typeLengths a_instanceFunctions a_nodeKinds a_nodeLefts a_nodeRights a_nodeSizes a_equationLefts a_equationRights a_stackLefts a_stackRights a_words a_boundWords a_cellFirsts a_cellSeconds a_closureTokens a_closureWords a_written : Nat → Int32}
variable {yf_place yf_points yf_names yf_textEnd yf_made yf_entry yf_waiting yf_values yf_bound yf_cells yf_conses yf_lams yf_steps yf_atWork yf_end yf_writtenCount : Int32} {ya_kind ya_up ya_turn ya_depth ya_value ya_below ya_length ya_parameters ya_codes ya_codeCount ya_form ya_colour ya_same ya_one ya_two ya_todo ya_numbered ya_text ya_ofFunction ya_codeEnd ya_instance ya_token ya_env ya_tag ya_cellEnv ya_boundNext ya_step ya_boundNumber ya_boundTag ya_headTag ya_tailTag ya_number ya_boundValue ya_head ya_tail ya_written : Nat → Int32}
variable {ln P : Nat → Nat} {kN : Nat → Nat → Nat} {vl : Nat → Nat → Int32} {oc sp bd bi : Nat → Nat → Nat} {cod : Nat → List Nat}
/-- CALL, its operands being worked out -/
theorem st_call {T0 : mt_T} {px : Int32 → SX → Prop} {B : (Int32 → SY → Prop) → Prop} {mu : Nat} {nh nw nd nx nk nl ns nt nb nc : Nat} {rsl rsr rwd rbw rcf rcs rct rcw rtk ren rtg rce rbx rst rbn rbt rht rtt rnu rbv rhd rtl : Nat → Int32} {g t h : Nat} {rho : Nat → mt_T} {st : List FE} {ws : List FV} {ty : Nat → mt_T} {cm lc : Nat → Nat} {lim0 : Nat} (hlib : lib ln P kN vl oc sp bd bi cod) (hmx : mx_ok ln P kN vl sp bd a_kinds a_values a_spans a_bounds a_lengths a_parameterCounts) (hmy : my_ok ln P kN vl oc sp ya_kind ya_value ya_below ya_parameters)
    (hk : kk ln P kN vl oc sp bd bi cod T0 px B mu f_saidPlace f_instanceCount f_nodeCount f_equationCount f_stackCount f_wordCount f_depth f_cellCount f_consCount f_closureCount f_stepCount f_runAnswer f_writtenCount a_kinds a_values a_spans a_bounds a_binders a_lengths a_parameterCounts a_typeCodes a_typeLengths a_instanceFunctions a_nodeKinds a_nodeLefts a_nodeRights a_nodeSizes a_equationLefts a_equationRights a_stackLefts a_stackRights a_words a_boundWords a_cellFirsts a_cellSeconds a_closureTokens a_closureWords a_written yf_place yf_points yf_names yf_textEnd yf_made yf_entry yf_waiting yf_values yf_bound yf_cells yf_conses yf_lams yf_steps yf_atWork yf_end yf_writtenCount ya_kind ya_up ya_turn ya_depth ya_value ya_below ya_length ya_parameters ya_codes ya_codeCount ya_form ya_colour ya_same ya_one ya_two ya_todo ya_numbered ya_text ya_ofFunction ya_codeEnd ya_instance ya_token ya_env ya_tag ya_cellEnv ya_boundNext ya_step ya_boundNumber ya_boundTag ya_headTag ya_tailTag ya_number ya_boundValue ya_head ya_tail ya_written) (a1 : g < 5) (a2 : ln g ≠ 0) (a3 : t < ln g) (k4 : kN g t = 4) (hvl : vl g t = nI h) (hh : h < 5) (hln : ln h ≠ 0) (hw : ∀ n, mt_wf (rho n)) (hS : S_t (fun _ => True) h (kN h) (vl h) (oc h) (sp h) (bd h) (bi h) cod (ln h) rho)
    (hrc : rc_ok ln P kN vl oc sp bd bi cod nh nw nd nx nk nl ns nt nb nc rsl rsr rwd rbw rcf rcs rct rcw rtk ren rtg rce rbx rst rbn rbt rht rtt rnu rbv rhd rtl st ws ty cm lc 0 0) (hko : ko ln P kN vl oc sp bd bi cod T0 nc ty cm nb rbn rbx rbt rbv rbw st ws (rho 0) nd lim0) (hlim : lim0 ≤ (nd + 1) * 10) (hl1 : st.length ≤ 25 * nd + 24) (hl2 : ws.length ≤ 25 * nd + 24) (d5 : 1 + wt (fT sp) 1 st + 50 * (200 - ns) ≤ mu + 1) (hq : nw + P h ≤ 525) (hnh : nh < 525)
    (hty : ∀ j, j < P h → vv nc ty cm (rho (72 + j)) (rtg (nw + j)) (rnu (nw + j)) (rwd (nw + j)))
    (hY : ∀ Q n, (∃ f, wY_simple_164 (fun u => match u with | (yf_place, yf_points, yf_names, yf_textEnd, yf_made, yf_entry, yf_waiting, yf_values, yf_bound, yf_cells, yf_conses, yf_lams, yf_steps, yf_atWork, yf_end, yf_writtenCount, ya_kind, ya_up, ya_turn, ya_depth, ya_value, ya_below, ya_length, ya_parameters, ya_codes, ya_codeCount, ya_form, ya_colour, ya_same, ya_one, ya_two, ya_todo, ya_numbered, ya_text, ya_ofFunction, ya_codeEnd, ya_instance, ya_token, ya_env, ya_tag, ya_cellEnv, ya_boundNext, ya_step, ya_boundNumber, ya_boundTag, ya_headTag, ya_tailTag, ya_number, ya_boundValue, ya_head, ya_tail, ya_written) => wY_run_75 Q n yf_place yf_points yf_names yf_textEnd yf_made yf_entry yf_waiting yf_values yf_bound yf_cells yf_conses yf_lams yf_steps yf_atWork yf_end yf_writtenCount ya_kind ya_up ya_turn ya_depth ya_value ya_below ya_length ya_parameters ya_codes ya_codeCount ya_form ya_colour ya_same ya_one ya_two ya_todo ya_numbered ya_text ya_ofFunction ya_codeEnd ya_instance ya_token ya_env ya_tag ya_cellEnv ya_boundNext ya_step ya_boundNumber ya_boundTag ya_headTag ya_tailTag ya_number ya_boundValue ya_head ya_tail ya_written) (nI (24 * (6 + g) + t)) (nI (P h)) f (-1) 0 yf_place yf_points yf_names yf_textEnd yf_made yf_entry (nI nh) (nI nw) (nI nb) (nI nc) (nI nk) (nI nl) (nI ns) (nI nd) 0 yf_writtenCount ya_kind ya_up ya_turn ya_depth ya_value ya_below ya_length ya_parameters ya_codes ya_codeCount ya_form ya_colour ya_same ya_one ya_two ya_todo ya_numbered ya_text ya_ofFunction ya_codeEnd ya_instance rtk ren rtg rce rbx rst rbn rbt rht rtt rnu rbv rhd rtl ya_written) → B Q) : wpX_enterFunction px (f_saidPlace, f_instanceCount, f_nodeCount, f_equationCount, (nI nh), (nI (nw + P h)), (nI nd), (nI nx), (nI nk), (nI nl), (nI ns), 0, f_writtenCount, a_kinds, a_values, a_spans, a_bounds, a_binders, a_lengths, a_parameterCounts, a_typeCodes, a_typeLengths, a_instanceFunctions, a_nodeKinds, a_nodeLefts, a_nodeRights, a_nodeSizes, a_equationLefts, a_equationRights, rsl, rsr, rwd, rbw, rcf, rcs, rct, rcw, a_written) (nI ((5 + g) * 24 + t)) := by
  obtain ⟨⟨n24, hbw, _, tr, hbt⟩, lb0, lP, l4, _, _⟩ := lib1 hlib hh hln
  have n24g := (lib1 hlib a1 a2).1.1
  obtain ⟨_, _, m3⟩ := hmx g a1 a2
  obtain ⟨k1, k2, _, _, k5⟩ := m3 t a3
  obtain ⟨_, q2, _⟩ := hmx h hh hln
  obtain ⟨_, y2⟩ := hmy g a1 a2
  obtain ⟨z1, z2, z3⟩ := y2 t a3
  have c3 := hrc.2.2.1
  have c4 := hrc.2.2.2.1
  have c13 := hrc.2.2.2.2.2.2.2.2.2.2.2.2
  have hnb : nb ≤ 3415 := by omega
  have cx : (nI ((5 + g) * 24 + t)).toNatClampNeg = (5 + g) * 24 + t := nI_clamp (by omega)
  obtain ⟨e', bn', bx', bt', bv', b1, b2, b3⟩ := y_s164 (yf_place := yf_place) (yf_points := yf_points) (yf_names := yf_names) (yf_textEnd := yf_textEnd) (yf_made := yf_made) (yf_entry := yf_entry) (yf_waiting := nI nh) (yf_cells := nI nc) (yf_conses := nI nk) (yf_lams := nI nl) (yf_steps := nI ns) (yf_atWork := nI nd) (yf_end := 0) (yf_writtenCount := yf_writtenCount) (ya_kind := ya_kind) (ya_up := ya_up) (ya_turn := ya_turn) (ya_depth := ya_depth) (ya_value := ya_value) (ya_below := ya_below) (ya_length := ya_length) (ya_parameters := ya_parameters) (ya_codes := ya_codes) (ya_codeCount := ya_codeCount) (ya_form := ya_form) (ya_colour := ya_colour) (ya_same := ya_same) (ya_one := ya_one) (ya_two := ya_two) (ya_todo := ya_todo) (ya_numbered := ya_numbered) (ya_text := ya_text) (ya_ofFunction := ya_ofFunction) (ya_codeEnd := ya_codeEnd) (ya_instance := ya_instance) (ya_token := rtk) (ya_env := ren) (ya_tag := rtg) (ya_cellEnv := rce) (ya_step := rst) (ya_headTag := rht) (ya_tailTag := rtt) (ya_number := rnu) (ya_head := rhd) (ya_tail := rtl) (ya_written := ya_written) (tok := 24 * (6 + g) + t) (h := h) (q := nw) (N := P h) (nc := nc) (nb0 := nb) (ty := ty) (cm := cm) (wd := rwd) (nt := fun j => rho (72 + j)) (bn0 := rbn) (bx0 := rbx) (bt0 := rbt) (bv0 := rbv) lP (by omega) (by omega) hh (by rw [z2, hvl]) (by omega) hty (P h) 0 (-1) rbn rbx rbt rbv (by omega) (fun _ _ => ⟨rfl, rfl, rfl, rfl⟩) ev_nil
  have hes : vp_nar .short e'.toInt16.toInt32 = e' := ev_s b2 (by omega)
  have htok : vp_nar .short ((nI (24 * (6 + h))).toInt16.toInt32) = nI (24 * (6 + h)) := nr_s (by omega)
  have ygo : ∀ {Q n}, wpY_enter (fun u => match u with | (yf_place, yf_points, yf_names, yf_textEnd, yf_made, yf_entry, yf_waiting, yf_values, yf_bound, yf_cells, yf_conses, yf_lams, yf_steps, yf_atWork, yf_end, yf_writtenCount, ya_kind, ya_up, ya_turn, ya_depth, ya_value, ya_below, ya_length, ya_parameters, ya_codes, ya_codeCount, ya_form, ya_colour, ya_same, ya_one, ya_two, ya_todo, ya_numbered, ya_text, ya_ofFunction, ya_codeEnd, ya_instance, ya_token, ya_env, ya_tag, ya_cellEnv, ya_boundNext, ya_step, ya_boundNumber, ya_boundTag, ya_headTag, ya_tailTag, ya_number, ya_boundValue, ya_head, ya_tail, ya_written) => wY_run_75 Q n yf_place yf_points yf_names yf_textEnd yf_made yf_entry yf_waiting yf_values yf_bound yf_cells yf_conses yf_lams yf_steps yf_atWork yf_end yf_writtenCount ya_kind ya_up ya_turn ya_depth ya_value ya_below ya_length ya_parameters ya_codes ya_codeCount ya_form ya_colour ya_same ya_one ya_two ya_todo ya_numbered ya_text ya_ofFunction ya_codeEnd ya_instance ya_token ya_env ya_tag ya_cellEnv ya_boundNext ya_step ya_boundNumber ya_boundTag ya_headTag ya_tailTag ya_number ya_boundValue ya_head ya_tail ya_written) (yf_place, yf_points, yf_names, yf_textEnd, yf_made, yf_entry, (nI nh), (nI nw), (nI (nb + P h)), (nI nc), (nI nk), (nI nl), (nI ns), (nI nd), 0, yf_writtenCount, ya_kind, ya_up, ya_turn, ya_depth, ya_value, ya_below, ya_length, ya_parameters, ya_codes, ya_codeCount, ya_form, ya_colour, ya_same, ya_one, ya_two, ya_todo, ya_numbered, ya_text, ya_ofFunction, ya_codeEnd, ya_instance, rtk, ren, rtg, rce, bx', rst, bn', bt', rht, rtt, rnu, bv', rhd, rtl, ya_written) (nI (24 * (6 + h))) e' → B Q := by
    intro Q n hh'
    exact hY Q n ⟨P h + 1, b3 (by omega) hh'⟩
  refine And.intro (pk_in ((5 + g) * 24 + t) 264 (by omega)) (nm_r (e' := nI (5 + h)) (by rw [cx]; exact k2 k4 h hh hvl) ?_)
  refine x_takeStep (h := nh) hnh c4 c3 (fun y => br_t rfl ?_) (fun y y' => br_t rfl ?_) (fun y y' => br_f n1_0 (And.intro (pk_in (5 + h) 11 (by omega)) ?_))
  · refine hk.2.2 nh nw nd nx nk nl ns nh nb nc rsl rsr rwd rbw rcf rcs rct rcw rtk ren rtg rce bx' rst bn' bt' rht rtt rnu bv' rhd rtl 5 (nI nk) (nI nl) (nI (nw + P h)) (nI nx) (nI nh) (nI nh) (nI nl) (nI nk) (nI nw) (nI (nb + P h)) (nI nc) (by decide) (fun Q ⟨n, hn⟩ => ygo (n := n) (y_enter (by omega) c4 c3 htok hes (fun _ => hn) (fun v => by omega) (fun v => by omega)))
  · refine hk.2.2 nh nw nd nx nk nl (ns + 1) nh nb nc rsl rsr rwd rbw rcf rcs rct rcw rtk ren rtg rce bx' rst bn' bt' rht rtt rnu bv' rhd rtl 6 (nI nk) (nI nl) (nI (nw + P h)) (nI nx) (nI nh) (nI nh) (nI nl) (nI nk) (nI nw) (nI (nb + P h)) (nI nc) (by decide) (fun Q ⟨n, hn⟩ => ygo (n := n) (y_enter (by omega) c4 c3 htok hes (fun v => by omega) (fun _ _ => hn) (fun _ v => by omega)))
  · rw [nI_clamp (n := 5 + h) (by omega), q2]
    refine nm_r (e' := nI (P h) + (-1)) (Int32.sub_eq_add_neg _ _) (Exists.intro (P h + 1) ?_)
    refine x_ef25 (h := h) (d := nd + 1) (q := nw) (N := P h) (bw0 := rbw) lP (by omega) hq (fun bw w1 w2 => ?_) (P h) (P h + 1) rbw (by omega) (Nat.le_refl _) (fun j j1 j2 => by omega) (fun _ _ => rfl)
    have hbi : ∀ t, t < ln h → bi h t ≤ t := fun t ht => (hbt t ht).2.2.2.1
    have key := st_body (b0 := 0) (nb' := nb + P h) (e := e') (bw' := bw) (z1 := -1) (z2 := -1) hlib hk hrc hko hlim hl1 hl2 d5 y y' hh hln (by omega) hw hS (by omega) (by omega) b1 w2 (by
      rw [lb0]
      refine ev_ext b2 (Nat.le_refl _) (fun _ _ => ⟨rfl, rfl⟩) (Nat.le_refl _) (fun _ _ => ⟨rfl, rfl, rfl, rfl⟩) (fun k hk => w1 k hk) (fun k hk => ?_)
      unfold wv
      rw [tr.1]
      rfl) (fun Q n hn => ygo (n := n) (y_enter (by omega) c4 c3 htok hes (fun v => by omega) (fun _ v => by omega) (fun _ _ => hn)))
    rcases key with key | key
    · rw [show nI (5 + h) * 24 = nI ((5 + h) * 24 + 0) from pk_mul (5 + h) 24]
      exact key
    · exact absurd rfl key
theorem ow_eq {P : Nat} {r : Nat → mt_T} {f : Nat → mt_T} {x : mt_T} (h : (List.range P).map f ++ [x] = (ow_st P).map r) : (∀ j, j < P → r (72 + j) = f j) ∧ r 0 = x := by
  rw [← sc_ow] at h
  have h1 := List.append_inj' h rfl
  refine ⟨fun j hj => ?_, ?_⟩
  · have := List.map_inj_left.mp h1.1 j (List.mem_range.mpr hj)
    exact this.symm
  · have := h1.2
    injection this with this
    exact this.symm
/-- the types of a called function's body -/
theorem call_rho (hlib : lib ln P kN vl oc sp bd bi cod) {g t : Nat} {rho : Nat → mt_T} (a1 : g < 5) (a2 : ln g ≠ 0) (a3 : t < ln g) (a4 : ∀ n, mt_wf (rho n)) (a5 : S_t (fun _ => True) g (kN g) (vl g) (oc g) (sp g) (bd g) (bi g) cod (ln g) rho) (k4 : kN g t = 4) :
    ∃ h rho', h < 5 ∧ vl g t = nI h ∧ ln h ≠ 0 ∧ oc g t = P h ∧ (∀ n, mt_wf (rho' n)) ∧ S_t (fun _ => True) h (kN h) (vl h) (oc h) (sp h) (bd h) (bi h) cod (ln h) rho' ∧ (∀ j, j < P h → rho' (72 + j) = rho (jp (sp g) t j)) ∧ rho' 0 = rho t := by
  obtain ⟨h, h1, h2, h3, h4⟩ := (lib1 hlib a1 a2).2.2.2.2.2 t a3 k4
  have hru := a5.2 t a3
  unfold ru_t at hru
  rw [k4, h2, nI_clamp (by omega)] at hru
  by_cases z : h = g
  · rw [decide_eq_true z] at hru
    obtain ⟨q1, q2⟩ := hru
    subst z
    exact ⟨h, rho, h1, h2, h3, h4, a4, a5, fun j hj => (q1 j (by omega)).symm, q2.symm⟩
  · rw [decide_eq_false z] at hru
    have hru' : sc_inst (cod h) ((List.range (oc g t)).map (fun j => rho (jp (sp g) t j)) ++ [rho t]) := hru
    rw [h4] at hru'
    obtain ⟨r, r1, r2, r3⟩ := ((hlib h h1 h3).2.2.2.2.2.2.2.2.2 _).mp hru'
    obtain ⟨e1, e2⟩ := ow_eq r3
    exact ⟨h, r, h1, h2, h3, h4, r1, r2, e1, e2⟩
/-- CALL without operands -/
theorem st_call0 {T0 : mt_T} {px : Int32 → SX → Prop} {B : (Int32 → SY → Prop) → Prop} {mu : Nat} {nh nw nd nx nk nl ns nt nb nc : Nat} {rsl rsr rwd rbw rcf rcs rct rcw rtk ren rtg rce rbx rst rbn rbt rht rtt rnu rbv rhd rtl : Nat → Int32} {g t : Nat} {e : Int32} {rho : Nat → mt_T} {st : List FE} {ws : List FV} {ty : Nat → mt_T} {cm lc : Nat → Nat} (hlib : lib ln P kN vl oc sp bd bi cod) (hmx : mx_ok ln P kN vl sp bd a_kinds a_values a_spans a_bounds a_lengths a_parameterCounts) (hmy : my_ok ln P kN vl oc sp ya_kind ya_value ya_below ya_parameters)
    (hk : kk ln P kN vl oc sp bd bi cod T0 px B mu f_saidPlace f_instanceCount f_nodeCount f_equationCount f_stackCount f_wordCount f_depth f_cellCount f_consCount f_closureCount f_stepCount f_runAnswer f_writtenCount a_kinds a_values a_spans a_bounds a_binders a_lengths a_parameterCounts a_typeCodes a_typeLengths a_instanceFunctions a_nodeKinds a_nodeLefts a_nodeRights a_nodeSizes a_equationLefts a_equationRights a_stackLefts a_stackRights a_words a_boundWords a_cellFirsts a_cellSeconds a_closureTokens a_closureWords a_written yf_place yf_points yf_names yf_textEnd yf_made yf_entry yf_waiting yf_values yf_bound yf_cells yf_conses yf_lams yf_steps yf_atWork yf_end yf_writtenCount ya_kind ya_up ya_turn ya_depth ya_value ya_below ya_length ya_parameters ya_codes ya_codeCount ya_form ya_colour ya_same ya_one ya_two ya_todo ya_numbered ya_text ya_ofFunction ya_codeEnd ya_instance ya_token ya_env ya_tag ya_cellEnv ya_boundNext ya_step ya_boundNumber ya_boundTag ya_headTag ya_tailTag ya_number ya_boundValue ya_head ya_tail ya_written) (h : ra_ok ln P kN vl oc sp bd bi cod T0 (mu + 1) nh nw nd nx nk nl ns nt nb nc rsl rsr rwd rbw rcf rcs rct rcw rtk ren rtg rce rbx rst rbn rbt rht rtt rnu rbv rhd rtl g t e rho st ws ty cm lc) (hY : ∀ Q, (∃ n, wY_run_75 Q n yf_place yf_points yf_names yf_textEnd yf_made yf_entry (nI nt) (nI nw) (nI nb) (nI nc) (nI nk) (nI nl) (nI ns) (nI nd) 0 yf_writtenCount ya_kind ya_up ya_turn ya_depth ya_value ya_below ya_length ya_parameters ya_codes ya_codeCount ya_form ya_colour ya_same ya_one ya_two ya_todo ya_numbered ya_text ya_ofFunction ya_codeEnd ya_instance rtk ren rtg rce rbx rst rbn rbt rht rtt rnu rbv rhd rtl ya_written) → B Q) (k4 : kN g t = 4) (h0 : oc g t = 0) : wpX_begin px (f_saidPlace, f_instanceCount, f_nodeCount, f_equationCount, (nI nh), (nI nw), (nI nd), (nI nx), (nI nk), (nI nl), (nI ns), 0, f_writtenCount, a_kinds, a_values, a_spans, a_bounds, a_binders, a_lengths, a_parameterCounts, a_typeCodes, a_typeLengths, a_instanceFunctions, a_nodeKinds, a_nodeLefts, a_nodeRights, a_nodeSizes, a_equationLefts, a_equationRights, rsl, rsr, rwd, rbw, rcf, rcs, rct, rcw, a_written) (nI ((5 + g) * 24 + t)) := by
  obtain ⟨hrc, hfr, hko, hs1, hs2, d1, d2, d3, d4, d5⟩ := h
  obtain ⟨a1, a2, a3, a4, a5, a6⟩ := hfr
  obtain ⟨⟨n24, hbw, _, tr, hbt⟩, _, _, l4, _, _⟩ := lib1 hlib a1 a2
  obtain ⟨_, _, m3⟩ := hmx g a1 a2
  obtain ⟨k1, _, _, _, k5⟩ := m3 t a3
  obtain ⟨_, y2⟩ := hmy g a1 a2
  obtain ⟨z1, z2, z3⟩ := y2 t a3
  obtain ⟨h, rho', h1, h2, h3, h4, h5, h6, h7, h8⟩ := call_rho hlib a1 a2 a3 a4 a5 k4
  have w4 := (hbw.2.2 t a3).1
  have h10 := l4 t a3
  subst d1
  have c1 := hrc.1
  have c2 := hrc.2.1
  have c3 := hrc.2.2.1
  have hnh : nh < 525 := by omega
  have cx : (nI ((5 + g) * 24 + t)).toNatClampNeg = (5 + g) * 24 + t := nI_clamp (by omega)
  have cy : (nI (24 * (6 + g) + t)).toNatClampNeg = 24 * (6 + g) + t := nI_clamp (by omega)
  have p : vp_in (nI ((5 + g) * 24 + t)) 264 := pk_in ((5 + g) * 24 + t) 264 (by omega)
  have pp : vp_in (nI (24 * (6 + g) + t)) 264 := pk_in (24 * (6 + g) + t) 264 (by omega)
  have hP0 : P h = 0 := by rw [← h4]; exact h0
  have hn0 : (if kN g t = 15 then 0 else nm (kN g t) (oc g t)) = 0 := by
    rw [if_neg (by omega), nm_o (by omega) (by omega) (by omega), h0]
  have hrc' : rc_ok ln P kN vl oc sp bd bi cod nh nw nd nx nk nl ns nh nb nc rsl rsr rwd rbw rcf rcs rct rcw rtk ren rtg rce rbx rst rbn rbt rht rtt rnu rbv rhd rtl st ws ty cm lc 0 0 := by
    obtain ⟨r1, r2, r3, r4, r5, r6, r7, r8, r9, r10, r11, r12, r13⟩ := hrc
    exact ⟨r1, r2, r3, r4, r5, r6, r7, r8, r9, r10, r11, by omega, by omega⟩
  rw [← h8] at hko
  have hYY : ∀ Q n, (∃ f, wY_simple_164 (fun u => match u with | (yf_place, yf_points, yf_names, yf_textEnd, yf_made, yf_entry, yf_waiting, yf_values, yf_bound, yf_cells, yf_conses, yf_lams, yf_steps, yf_atWork, yf_end, yf_writtenCount, ya_kind, ya_up, ya_turn, ya_depth, ya_value, ya_below, ya_length, ya_parameters, ya_codes, ya_codeCount, ya_form, ya_colour, ya_same, ya_one, ya_two, ya_todo, ya_numbered, ya_text, ya_ofFunction, ya_codeEnd, ya_instance, ya_token, ya_env, ya_tag, ya_cellEnv, ya_boundNext, ya_step, ya_boundNumber, ya_boundTag, ya_headTag, ya_tailTag, ya_number, ya_boundValue, ya_head, ya_tail, ya_written) => wY_run_75 Q n yf_place yf_points yf_names yf_textEnd yf_made yf_entry yf_waiting yf_values yf_bound yf_cells yf_conses yf_lams yf_steps yf_atWork yf_end yf_writtenCount ya_kind ya_up ya_turn ya_depth ya_value ya_below ya_length ya_parameters ya_codes ya_codeCount ya_form ya_colour ya_same ya_one ya_two ya_todo ya_numbered ya_text ya_ofFunction ya_codeEnd ya_instance ya_token ya_env ya_tag ya_cellEnv ya_boundNext ya_step ya_boundNumber ya_boundTag ya_headTag ya_tailTag ya_number ya_boundValue ya_head ya_tail ya_written) (nI (24 * (6 + g) + t)) (nI (P h)) f (-1) 0 yf_place yf_points yf_names yf_textEnd yf_made yf_entry (nI nh) (nI nw) (nI nb) (nI nc) (nI nk) (nI nl) (nI ns) (nI nd) 0 yf_writtenCount ya_kind ya_up ya_turn ya_depth ya_value ya_below ya_length ya_parameters ya_codes ya_codeCount ya_form ya_colour ya_same ya_one ya_two ya_todo ya_numbered ya_text ya_ofFunction ya_codeEnd ya_instance rtk ren rtg rce rbx rst rbn rbt rht rtt rnu rbv rhd rtl ya_written) → B Q := by
    intro Q n hn
    rw [hP0] at hn
    refine hY Q ⟨n + 1, y_leafgo hlib hmy a1 a2 a3 (by omega) d2 d3 d4 hn0 (Or.inl (by omega)) ?_⟩
    exact And.intro pp (nm_r (e' := 4) (by rw [cy, z1, k4]; rfl) (Exists.intro 1 (br_f (by decide) (br_f (by decide) (br_t (by decide) (br_f (by decide) (br_f (by decide) (br_f (by decide) (nm_r (e' := nI nw) (Int32.sub_zero _) hn)))))))))
  have key := st_call hlib hmx hmy hk a1 a2 a3 k4 h2 h1 h3 h5 h6 hrc' hko (by omega) (by omega) (by omega) (by omega) (by omega) hnh (fun j hj => by omega) hYY
  rw [hP0] at key
  refine And.intro p ?_
  rw [cx, k1, k4]
  refine br_f (by decide) (x_ocm hlib hmx a1 a2 a3 ?_)
  rw [h0]
  exact br_t (by decide) (And.intro p (br_t rfl key))

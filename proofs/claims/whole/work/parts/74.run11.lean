variable {f_saidPlace f_instanceCount f_nodeCount f_equationCount f_stackCount f_wordCount f_depth f_cellCount f_consCount f_closureCount f_stepCount f_runAnswer f_writtenCount : Int32} {a_kinds a_values a_spans a_bounds a_binders a_lengths a_parameterCounts a_typeCodes a_typeLengths a_instanceFunctions a_nodeKinds a_nodeLefts a_nodeRights a_nodeSizes a_equationLefts a_equationRights a_stackLefts a_stackRights a_words a_boundWords a_cellFirsts a_cellSeconds a_closureTokens a_closureWords a_written : Nat → Int32}
variable {yf_place yf_points yf_names yf_textEnd yf_made yf_entry yf_waiting yf_values yf_bound yf_cells yf_conses yf_lams yf_steps yf_atWork yf_end yf_writtenCount : Int32} {ya_kind ya_up ya_turn ya_depth ya_value ya_below ya_length ya_parameters ya_codes ya_codeCount ya_form ya_colour ya_same ya_one ya_two ya_todo ya_numbered ya_text ya_ofFunction ya_codeEnd ya_instance ya_token ya_env ya_tag ya_cellEnv ya_boundNext ya_step ya_boundNumber ya_boundTag ya_headTag ya_tailTag ya_number ya_boundValue ya_head ya_tail ya_written : Nat → Int32}
variable {ln P : Nat → Nat} {kN : Nat → Nat → Nat} {vl : Nat → Nat → Int32} {oc sp bd bi : Nat → Nat → Nat} {cod : Nat → List Nat}
theorem sm_G1 (hlib : lib ln P kN vl oc sp bd bi cod) {h : Nat} (hh : h < 5) (hl : ln h ≠ 0) : sm (G1 kN h) (ln h) ≤ 11 := by
  obtain ⟨⟨n24, _, h3, _, hbt⟩, _⟩ := lib1 hlib hh hl
  have key := sm_mul (g := G1 kN h) (h := oc h) (a := 2) (b := 1) (ln h) (fun j hj => ?_)
  · omega
  · unfold G1
    obtain ⟨t1, t2, t3, t4⟩ := tok_oc hlib hh hl hj
    by_cases z : kN h j = 5 ∨ kN h j = 9
    · rw [if_pos z, t4 (by omega)]
      rcases z with z | z <;> rw [z] <;> decide
    · rw [if_neg z]; omega
theorem sm_G2 (hlib : lib ln P kN vl oc sp bd bi cod) {h : Nat} (hh : h < 5) (hl : ln h ≠ 0) : sm (G2 kN h) (ln h) ≤ 15 := by
  obtain ⟨⟨n24, _, h3, _, hbt⟩, _⟩ := lib1 hlib hh hl
  have key := sm_mul (g := G2 kN h) (h := oc h) (a := 3) (b := 2) (ln h) (fun j hj => ?_)
  · omega
  · unfold G2
    obtain ⟨t1, t2, t3, t4⟩ := tok_oc hlib hh hl hj
    by_cases z : kN h j = 14
    · rw [if_pos z, t4 (by omega), z]; decide
    · rw [if_neg z]
      by_cases y : kN h j = 10
      · rw [if_pos y, t4 (by omega), y]; decide
      · rw [if_neg y]; omega
theorem pA_le {G : Nat → Nat → Nat} {g t n : Nat} {o : Nat → Nat} (hbw : bw_is n o (sp g)) (ht : t < n) : pA sp G g t ≤ sm (G g) n := by
  have m2 := sm_mono (g := G g) (a := t + sp g t) n (hbw.2.2 t ht).2.1
  unfold pA
  omega
theorem y_enter {post : SY → Prop} {p0 p1 : Int32} {w ns nd : Nat} (hw : w + 1 < 1200) (hs : ns ≤ 200) (hd : nd ≤ 20) (h0 : vp_nar .short p0.toInt16.toInt32 = p0) (h1 : vp_nar .short p1.toInt16.toInt32 = p1) (hl : ns = 200 → post (yf_place, yf_points, yf_names, yf_textEnd, yf_made, yf_entry, (nI w), yf_values, yf_bound, yf_cells, yf_conses, yf_lams, (nI ns), (nI nd), 5, yf_writtenCount, ya_kind, ya_up, ya_turn, ya_depth, ya_value, ya_below, ya_length, ya_parameters, ya_codes, ya_codeCount, ya_form, ya_colour, ya_same, ya_one, ya_two, ya_todo, ya_numbered, ya_text, ya_ofFunction, ya_codeEnd, ya_instance, ya_token, ya_env, ya_tag, ya_cellEnv, ya_boundNext, ya_step, ya_boundNumber, ya_boundTag, ya_headTag, ya_tailTag, ya_number, ya_boundValue, ya_head, ya_tail, ya_written)) (hdp : ns < 200 → nd = 20 → post (yf_place, yf_points, yf_names, yf_textEnd, yf_made, yf_entry, (nI w), yf_values, yf_bound, yf_cells, yf_conses, yf_lams, (nI (ns + 1)), (nI nd), 6, yf_writtenCount, ya_kind, ya_up, ya_turn, ya_depth, ya_value, ya_below, ya_length, ya_parameters, ya_codes, ya_codeCount, ya_form, ya_colour, ya_same, ya_one, ya_two, ya_todo, ya_numbered, ya_text, ya_ofFunction, ya_codeEnd, ya_instance, ya_token, ya_env, ya_tag, ya_cellEnv, ya_boundNext, ya_step, ya_boundNumber, ya_boundTag, ya_headTag, ya_tailTag, ya_number, ya_boundValue, ya_head, ya_tail, ya_written))
    (hp : ns < 200 → nd < 20 → post (yf_place, yf_points, yf_names, yf_textEnd, yf_made, yf_entry, (nI (w + 1 + 1)), yf_values, yf_bound, yf_cells, yf_conses, yf_lams, (nI (ns + 1)), (nI (nd + 1)), yf_end, yf_writtenCount, ya_kind, ya_up, ya_turn, ya_depth, ya_value, ya_below, ya_length, ya_parameters, ya_codes, ya_codeCount, ya_form, ya_colour, ya_same, ya_one, ya_two, ya_todo, ya_numbered, ya_text, ya_ofFunction, ya_codeEnd, ya_instance, (upd (upd ya_token w (-1)) (w + 1) p0), (upd (upd ya_env w 0) (w + 1) p1), ya_tag, ya_cellEnv, ya_boundNext, (upd (upd ya_step w 0) (w + 1) 0), ya_boundNumber, ya_boundTag, ya_headTag, ya_tailTag, ya_number, ya_boundValue, ya_head, ya_tail, ya_written)) : wpY_enter post (yf_place, yf_points, yf_names, yf_textEnd, yf_made, yf_entry, (nI w), yf_values, yf_bound, yf_cells, yf_conses, yf_lams, (nI ns), (nI nd), yf_end, yf_writtenCount, ya_kind, ya_up, ya_turn, ya_depth, ya_value, ya_below, ya_length, ya_parameters, ya_codes, ya_codeCount, ya_form, ya_colour, ya_same, ya_one, ya_two, ya_todo, ya_numbered, ya_text, ya_ofFunction, ya_codeEnd, ya_instance, ya_token, ya_env, ya_tag, ya_cellEnv, ya_boundNext, ya_step, ya_boundNumber, ya_boundTag, ya_headTag, ya_tailTag, ya_number, ya_boundValue, ya_head, ya_tail, ya_written) p0 p1 := by
  refine pk_eq ns 200 (fun z => hl z) (fun z => nm_r (nI_1 ns) (pk_eq nd 20 (fun y => hdp (by omega) y) (fun y => nm_r (nI_1 nd) ?_)))
  exact y_later (by omega) nr_sm' (nr_s (n := 0) (by omega)) (y_later (by omega) h0 h1 (hp (by omega) (by omega)))
theorem x_takeStep {post : Int32 → SX → Prop} {h ns nd : Nat} (hh : h < 525) (hs : ns ≤ 200) (hd : nd ≤ 20) (hl : ns = 200 → post 0 (f_saidPlace, f_instanceCount, f_nodeCount, f_equationCount, (nI h), f_wordCount, (nI nd), f_cellCount, f_consCount, f_closureCount, (nI ns), 5, f_writtenCount, a_kinds, a_values, a_spans, a_bounds, a_binders, a_lengths, a_parameterCounts, a_typeCodes, a_typeLengths, a_instanceFunctions, a_nodeKinds, a_nodeLefts, a_nodeRights, a_nodeSizes, a_equationLefts, a_equationRights, a_stackLefts, a_stackRights, a_words, a_boundWords, a_cellFirsts, a_cellSeconds, a_closureTokens, a_closureWords, a_written)) (hdp : ns < 200 → nd = 20 → post 0 (f_saidPlace, f_instanceCount, f_nodeCount, f_equationCount, (nI h), f_wordCount, (nI nd), f_cellCount, f_consCount, f_closureCount, (nI (ns + 1)), 6, f_writtenCount, a_kinds, a_values, a_spans, a_bounds, a_binders, a_lengths, a_parameterCounts, a_typeCodes, a_typeLengths, a_instanceFunctions, a_nodeKinds, a_nodeLefts, a_nodeRights, a_nodeSizes, a_equationLefts, a_equationRights, a_stackLefts, a_stackRights, a_words, a_boundWords, a_cellFirsts, a_cellSeconds, a_closureTokens, a_closureWords, a_written))
    (hp : ns < 200 → nd < 20 → post 1 (f_saidPlace, f_instanceCount, f_nodeCount, f_equationCount, (nI (h + 1)), f_wordCount, (nI (nd + 1)), f_cellCount, f_consCount, f_closureCount, (nI (ns + 1)), f_runAnswer, f_writtenCount, a_kinds, a_values, a_spans, a_bounds, a_binders, a_lengths, a_parameterCounts, a_typeCodes, a_typeLengths, a_instanceFunctions, a_nodeKinds, a_nodeLefts, a_nodeRights, a_nodeSizes, a_equationLefts, a_equationRights, (upd a_stackLefts h (-1)), (upd a_stackRights h (-1)), a_words, a_boundWords, a_cellFirsts, a_cellSeconds, a_closureTokens, a_closureWords, a_written)) : wpX_takeStep post (f_saidPlace, f_instanceCount, f_nodeCount, f_equationCount, (nI h), f_wordCount, (nI nd), f_cellCount, f_consCount, f_closureCount, (nI ns), f_runAnswer, f_writtenCount, a_kinds, a_values, a_spans, a_bounds, a_binders, a_lengths, a_parameterCounts, a_typeCodes, a_typeLengths, a_instanceFunctions, a_nodeKinds, a_nodeLefts, a_nodeRights, a_nodeSizes, a_equationLefts, a_equationRights, a_stackLefts, a_stackRights, a_words, a_boundWords, a_cellFirsts, a_cellSeconds, a_closureTokens, a_closureWords, a_written) := by
  refine pk_eq ns 200 (fun z => hl z) (fun z => nm_r (nI_1 ns) (pk_eq nd 20 (fun y => hdp (by omega) y) (fun y => nm_r (nI_1 nd) ?_)))
  exact x_push hh (hp (by omega) (by omega))
/-- X's arguments become variables -/
theorem x_ef25 {post : Int32 → SX → Prop} {h d q N : Nat} {bw0 : Nat → Int32} (hN : N ≤ 2) (hd : d ≤ 20) (hq : q + N ≤ 525) (hP : ∀ bw : Nat → Int32, (∀ j, j < N → bw (d * 10 + j) = a_words (q + j)) → (∀ k, k < d * 10 → bw k = bw0 k) → post (nI (5 + h) * 24) (f_saidPlace, f_instanceCount, f_nodeCount, f_equationCount, f_stackCount, (nI q), (nI d), f_cellCount, f_consCount, f_closureCount, f_stepCount, f_runAnswer, f_writtenCount, a_kinds, a_values, a_spans, a_bounds, a_binders, a_lengths, a_parameterCounts, a_typeCodes, a_typeLengths, a_instanceFunctions, a_nodeKinds, a_nodeLefts, a_nodeRights, a_nodeSizes, a_equationLefts, a_equationRights, a_stackLefts, a_stackRights, a_words, bw, a_cellFirsts, a_cellSeconds, a_closureTokens, a_closureWords, a_written)) :
    ∀ p fu (bw : Nat → Int32), p < fu → p ≤ N → (∀ j, p ≤ j → j < N → bw (d * 10 + j) = a_words (q + j)) → (∀ k, k < d * 10 → bw k = bw0 k) → wX_enterFunction_25 post (nI (5 + h)) fu (nI p + (-1)) f_saidPlace f_instanceCount f_nodeCount f_equationCount f_stackCount (nI (q + p)) (nI d) f_cellCount f_consCount f_closureCount f_stepCount f_runAnswer f_writtenCount a_kinds a_values a_spans a_bounds a_binders a_lengths a_parameterCounts a_typeCodes a_typeLengths a_instanceFunctions a_nodeKinds a_nodeLefts a_nodeRights a_nodeSizes a_equationLefts a_equationRights a_stackLefts a_stackRights a_words bw a_cellFirsts a_cellSeconds a_closureTokens a_closureWords a_written := by
  intro p
  induction p with
  | zero =>
    intro fu bw hfu hp h1 h2
    obtain ⟨fu, rfl⟩ : ∃ g, fu = g + 1 := ⟨fu - 1, by omega⟩
    exact br_t (by decide) (hP bw (fun j hj => h1 j (by omega) hj) h2)
  | succ p ih =>
    intro fu bw hfu hp h1 h2
    obtain ⟨fu, rfl⟩ : ∃ g, fu = g + 1 := ⟨fu - 1, by omega⟩
    rw [pk_m1]
    refine br_f (lt0_n (by omega)) (x_popWord (w := q + p) (by omega) (And.intro (pk_in (d * 10 + p) 210 (by omega) (ix10 d p)) (nm_r (e' := upd bw (d * 10 + p) (a_words (q + p))) (by rw [ix10, nI_clamp (by omega)]) (nm_e ?_))))
    refine ih fu _ (by omega) (by omega) (fun j j1 j2 => ?_) (fun k hk => ?_)
    · by_cases z : j = p
      · rw [z, pk_us]
      · rw [pk_un (by omega)]; exact h1 j (by omega) j2
    · rw [pk_un (by omega)]; exact h2 k hk
/-- Y's arguments become variables -/
theorem y_s164 {tok h q N nc nb0 : Nat} {ty : Nat → mt_T} {cm : Nat → Nat} {wd : Nat → Int32} {nt : Nat → mt_T} {bn0 bx0 bt0 bv0 : Nat → Int32} (hN : N ≤ 2) (hq : q + N ≤ 1200) (ht : tok < 264) (hh : h < 5) (hv : ya_value tok = nI h) (hnb : nb0 + N < 4000) (hty : ∀ j, j < N → vv nc ty cm (nt j) (ya_tag (q + j)) (ya_number (q + j)) (wd (q + j))) :
    ∀ r p e bn bx bt bv, p + r = N → (∀ b, b < nb0 → bn b = bn0 b ∧ bx b = bx0 b ∧ bt b = bt0 b ∧ bv b = bv0 b) → ev nc ty cm (nb0 + p) bn bx bt bv p e (fun k => wd (q + k)) nt →
      ∃ e' bn' bx' bt' bv', (∀ b, b < nb0 → bn' b = bn0 b ∧ bx' b = bx0 b ∧ bt' b = bt0 b ∧ bv' b = bv0 b) ∧ ev nc ty cm (nb0 + N) bn' bx' bt' bv' N e' (fun k => wd (q + k)) nt ∧ ∀ {post : SY → Prop} {fu : Nat}, r < fu → wpY_enter (fun u => match u with | (yf_place, yf_points, yf_names, yf_textEnd, yf_made, yf_entry, yf_waiting, yf_values, yf_bound, yf_cells, yf_conses, yf_lams, yf_steps, yf_atWork, yf_end, yf_writtenCount, ya_kind, ya_up, ya_turn, ya_depth, ya_value, ya_below, ya_length, ya_parameters, ya_codes, ya_codeCount, ya_form, ya_colour, ya_same, ya_one, ya_two, ya_todo, ya_numbered, ya_text, ya_ofFunction, ya_codeEnd, ya_instance, ya_token, ya_env, ya_tag, ya_cellEnv, ya_boundNext, ya_step, ya_boundNumber, ya_boundTag, ya_headTag, ya_tailTag, ya_number, ya_boundValue, ya_head, ya_tail, ya_written) => post (yf_place, yf_points, yf_names, yf_textEnd, yf_made, yf_entry, yf_waiting, yf_values, yf_bound, yf_cells, yf_conses, yf_lams, yf_steps, yf_atWork, yf_end, yf_writtenCount, ya_kind, ya_up, ya_turn, ya_depth, ya_value, ya_below, ya_length, ya_parameters, ya_codes, ya_codeCount, ya_form, ya_colour, ya_same, ya_one, ya_two, ya_todo, ya_numbered, ya_text, ya_ofFunction, ya_codeEnd, ya_instance, ya_token, ya_env, ya_tag, ya_cellEnv, ya_boundNext, ya_step, ya_boundNumber, ya_boundTag, ya_headTag, ya_tailTag, ya_number, ya_boundValue, ya_head, ya_tail, ya_written)) (yf_place, yf_points, yf_names, yf_textEnd, yf_made, yf_entry, yf_waiting, (nI q), (nI (nb0 + N)), yf_cells, yf_conses, yf_lams, yf_steps, yf_atWork, yf_end, yf_writtenCount, ya_kind, ya_up, ya_turn, ya_depth, ya_value, ya_below, ya_length, ya_parameters, ya_codes, ya_codeCount, ya_form, ya_colour, ya_same, ya_one, ya_two, ya_todo, ya_numbered, ya_text, ya_ofFunction, ya_codeEnd, ya_instance, ya_token, ya_env, ya_tag, ya_cellEnv, bx', ya_step, bn', bt', ya_headTag, ya_tailTag, ya_number, bv', ya_head, ya_tail, ya_written) (nI (24 * (6 + h))) e' →
      wY_simple_164 post (nI tok) (nI N) fu e (nI p) yf_place yf_points yf_names yf_textEnd yf_made yf_entry yf_waiting (nI q) (nI (nb0 + p)) yf_cells yf_conses yf_lams yf_steps yf_atWork yf_end yf_writtenCount ya_kind ya_up ya_turn ya_depth ya_value ya_below ya_length ya_parameters ya_codes ya_codeCount ya_form ya_colour ya_same ya_one ya_two ya_todo ya_numbered ya_text ya_ofFunction ya_codeEnd ya_instance ya_token ya_env ya_tag ya_cellEnv bx ya_step bn bt ya_headTag ya_tailTag ya_number bv ya_head ya_tail ya_written := by
  have ct : (nI tok).toNatClampNeg = tok := nI_clamp (by omega)
  intro r
  induction r with
  | zero =>
    intro p e bn bx bt bv hp h1 h2
    have ep : p = N := by omega
    subst ep
    refine ⟨e, bn, bx, bt, bv, h1, h2, fun {post fu} hfu hh' => ?_⟩
    obtain ⟨fu, rfl⟩ : ∃ g, fu = g + 1 := ⟨fu - 1, by omega⟩
    refine br_t (nI_le (Nat.le_refl _) (by omega)) (And.intro (pk_in tok 264 ht) ?_)
    rw [ct, hv, show (24 : Int32) * (6 + nI h) = nI (24 * (6 + h)) by rw [show (6 : Int32) + nI h = nI (6 + h) from nI_add 6 h]; exact pk_mul 24 (6 + h)]
    exact hh'
  | succ r ih =>
    intro p e bn bx bt bv hp h1 h2
    obtain ⟨k, k4, ek⟩ := vv_tag (hty p (by omega))
    obtain ⟨e', bn', bx', bt', bv', q1, q2, q3⟩ := ih (p + 1) (nI (nb0 + p)) (upd bn (nb0 + p) (nI p)) (upd bx (nb0 + p) e) (upd bt (nb0 + p) (ya_tag (q + p))) (upd bv (nb0 + p) (ya_number (q + p))) (by omega) (fun b hb => by rw [pk_un (by omega), pk_un (by omega), pk_un (by omega), pk_un (by omega)]; exact h1 b hb) (ev_bind h2 (hty p (by omega)) (fun _ _ => rfl) (fun _ _ => rfl))
    refine ⟨e', bn', bx', bt', bv', q1, q2, fun {post fu} hfu hh' => ?_⟩
    obtain ⟨fu, rfl⟩ : ∃ g, fu = g + 1 := ⟨fu - 1, by omega⟩
    have iq : vp_in (nI q + nI p) 1200 := pk_in (q + p) 1200 (by omega) (nI_add q p)
    refine br_f (nI_ge (by omega) (by omega)) (And.intro iq (And.intro iq ?_))
    rw [nI_add, nI_clamp (n := q + p) (by omega)]
    exact y_bind (by omega) (by omega) k4 ek h2 (nm_r (nI_1 p) (q3 (by omega) hh'))
theorem ar_ent {W L m ns : Nat} (d5 : 1 + W + 50 * (200 - ns) ≤ m + 1) (hn : ns < 200) (hL : L ≤ 24) : 1 + W + 2 * L - 1 + 50 * (200 - (ns + 1)) ≤ m := by omega
/-- a body is entered: behind its step -/
theorem st_body {T0 : mt_T} {px : Int32 → SX → Prop} {B : (Int32 → SY → Prop) → Prop} {mu : Nat} {nh nw nd nx nk nl ns nt nb nc : Nat} {rsl rsr rwd rbw rcf rcs rct rcw rtk ren rtg rce rbx rst rbn rbt rht rtt rnu rbv rhd rtl : Nat → Int32} {h b0 nb' : Nat} {e : Int32} {rho : Nat → mt_T} {st : List FE} {ws : List FV} {ty : Nat → mt_T} {cm lc : Nat → Nat} {lim0 : Nat} {bn' bx' bt' bv' bw' : Nat → Int32} {z1 z2 : Int32} (hlib : lib ln P kN vl oc sp bd bi cod)
    (hk : kk ln P kN vl oc sp bd bi cod T0 px B mu f_saidPlace f_instanceCount f_nodeCount f_equationCount f_stackCount f_wordCount f_depth f_cellCount f_consCount f_closureCount f_stepCount f_runAnswer f_writtenCount a_kinds a_values a_spans a_bounds a_binders a_lengths a_parameterCounts a_typeCodes a_typeLengths a_instanceFunctions a_nodeKinds a_nodeLefts a_nodeRights a_nodeSizes a_equationLefts a_equationRights a_stackLefts a_stackRights a_words a_boundWords a_cellFirsts a_cellSeconds a_closureTokens a_closureWords a_written yf_place yf_points yf_names yf_textEnd yf_made yf_entry yf_waiting yf_values yf_bound yf_cells yf_conses yf_lams yf_steps yf_atWork yf_end yf_writtenCount ya_kind ya_up ya_turn ya_depth ya_value ya_below ya_length ya_parameters ya_codes ya_codeCount ya_form ya_colour ya_same ya_one ya_two ya_todo ya_numbered ya_text ya_ofFunction ya_codeEnd ya_instance ya_token ya_env ya_tag ya_cellEnv ya_boundNext ya_step ya_boundNumber ya_boundTag ya_headTag ya_tailTag ya_number ya_boundValue ya_head ya_tail ya_written) (hrc : rc_ok ln P kN vl oc sp bd bi cod nh nw nd nx nk nl ns nt nb nc rsl rsr rwd rbw rcf rcs rct rcw rtk ren rtg rce rbx rst rbn rbt rht rtt rnu rbv rhd rtl st ws ty cm lc 0 0) (hko : ko ln P kN vl oc sp bd bi cod T0 nc ty cm nb rbn rbx rbt rbv rbw st ws (rho b0) nd lim0) (hlim : lim0 ≤ (nd + 1) * 10) (hl1 : st.length ≤ 25 * nd + 24) (hl2 : ws.length ≤ 25 * nd + 24) (d5 : 1 + wt (fT sp) 1 st + 50 * (200 - ns) ≤ mu + 1)
    (hns : ns < 200) (hnd : nd < 20) (hh : h < 5) (hln : ln h ≠ 0) (hb0 : b0 < ln h) (hw : ∀ n, mt_wf (rho n)) (hS : S_t (fun _ => True) h (kN h) (vl h) (oc h) (sp h) (bd h) (bi h) cod (ln h) rho)
    (hnb : nb ≤ nb') (hnb2 : nb' ≤ nb + 2) (hbs : ∀ b, b < nb → bn' b = rbn b ∧ bx' b = rbx b ∧ bt' b = rbt b ∧ bv' b = rbv b) (hbw : ∀ k, k < (nd + 1) * 10 → bw' k = rbw k) (hev : ev nc ty cm nb' bn' bx' bt' bv' (bd h b0) e (fun k => bw' ((nd + 1) * 10 + k)) (fun k => rho (wv (bi h) (bd h) b0 k)))
    (hY : ∀ Q n, wY_run_75 Q n yf_place yf_points yf_names yf_textEnd yf_made yf_entry (nI (nh + 1 + 1)) (nI nw) (nI nb') (nI nc) (nI nk) (nI nl) (nI (ns + 1)) (nI (nd + 1)) 0 yf_writtenCount ya_kind ya_up ya_turn ya_depth ya_value ya_below ya_length ya_parameters ya_codes ya_codeCount ya_form ya_colour ya_same ya_one ya_two ya_todo ya_numbered ya_text ya_ofFunction ya_codeEnd ya_instance (upd (upd rtk nh (-1)) (nh + 1) (nI (24 * (6 + h) + b0))) (upd (upd ren nh 0) (nh + 1) e) rtg rce bx' (upd (upd rst nh 0) (nh + 1) 0) bn' bt' rht rtt rnu bv' rhd rtl ya_written → B Q) :
    px (nI ((5 + h) * 24 + b0)) (f_saidPlace, f_instanceCount, f_nodeCount, f_equationCount, (nI (nh + 1)), (nI nw), (nI (nd + 1)), (nI nx), (nI nk), (nI nl), (nI (ns + 1)), 0, f_writtenCount, a_kinds, a_values, a_spans, a_bounds, a_binders, a_lengths, a_parameterCounts, a_typeCodes, a_typeLengths, a_instanceFunctions, a_nodeKinds, a_nodeLefts, a_nodeRights, a_nodeSizes, a_equationLefts, a_equationRights, (upd rsl nh z1), (upd rsr nh z2), rwd, bw', rcf, rcs, rct, rcw, a_written) ∨ z1 ≠ -1 := by
  by_cases hz : z1 = -1
  · refine Or.inl ?_
    subst hz
    obtain ⟨⟨n24, hbw', _, _, _⟩, _⟩ := lib1 hlib hh hln
    have p1 := pA_le (G := G1 kN) hbw' hb0
    have p2 := pA_le (G := G2 kN) hbw' hb0
    have q1 := sm_G1 hlib hh hln
    have q2 := sm_G2 hlib hh hln
    have hsp := (hbw'.2.2 b0 hb0).2.1
    obtain ⟨c1, c2, c3, c4, c5, c6, c7, c8, c9, c10, c11, c12, c13⟩ := hrc
    refine hk.1 (nh + 1) nw (nd + 1) nx nk nl (ns + 1) (nh + 1 + 1) nb' nc (upd rsl nh (-1)) (upd rsr nh z2) rwd bw' rcf rcs rct rcw (upd (upd rtk nh (-1)) (nh + 1) (nI (24 * (6 + h) + b0))) (upd (upd ren nh 0) (nh + 1) e) rtg rce bx' (upd (upd rst nh 0) (nh + 1) 0) bn' bt' rht rtt rnu bv' rhd rtl h b0 e rho (none :: st) ws ty cm lc
      ⟨⟨by rw [c1, List.length_cons], c2, by omega, by omega, c5, c6, c7, c8, ⟨by rw [← c1, pk_us], by rw [← c1, pk_un (by omega), pk_us], sx_ext st (fun j hj => ⟨pk_un (by omega), pk_un (by omega), by rw [pk_un (by omega), pk_un (by omega)], by rw [pk_un (by omega), pk_un (by omega)], by rw [pk_un (by omega), pk_un (by omega)]⟩) c9⟩, c10, fun i hi => ce_ext hlib (c11 i hi) hi (Nat.le_refl _) (fun _ _ => ⟨rfl, rfl, rfl⟩) hnb hbs (Nat.le_refl _) (Nat.le_refl _) (Nat.le_refl _) (fun _ _ => ⟨rfl, rfl⟩) (fun _ _ => rfl) (fun _ _ => rfl) (fun _ _ => ⟨rfl, rfl, rfl, rfl, rfl⟩), ?_, ?_⟩, ⟨hh, hln, hb0, hw, hS, hev⟩, ⟨nd, rfl, by omega, hl1, hl2, ko_ext (Nat.le_refl _) (fun _ _ => ⟨rfl, rfl⟩) hnb hbs _ _ _ _ _ hbw (ko_lim hko hlim)⟩, by simp only [List.length_cons]; omega, by omega, rfl, pk_us, pk_us, pk_us, ar_ent d5 hns (by omega)⟩ (fun Q ⟨n, hn⟩ => hY Q n hn)
    · show nx + (0 + wt (fG sp (G1 kN)) 0 st) + _ ≤ _
      omega
    · show nb' + (0 + wt (fG sp (G2 kN)) 0 st) + _ ≤ _
      omega
  · exact Or.inr hz
